def rmX10_put : Room := { frames := 0, cells := 0, slots := 0, locals := 0 }
def wX10_put (b : Nat) (p1 : Int32) (p2 : Int32) (p3 : Int32) (st : St) (Q : Int32 → St → Prop) : Prop :=
  (∀ x1 : Int32, x1 = ((4 : Int32) * (gI st b 9)) → (vp_in (x1 + 0) 1600 ∧ ∀ st2, st2 = uI st (b + 5) (x1 + 0 : Int32).toNatClampNeg p1 → (vp_in (x1 + 1) 1600 ∧ ∀ st3, st3 = uI st2 (b + 5) (x1 + 1 : Int32).toNatClampNeg p2 → (vp_in (x1 + 2) 1600 ∧ ∀ st4, st4 = uI st3 (b + 5) (x1 + 2 : Int32).toNatClampNeg p3 → (∀ st5, st5 = uI st4 b 9 ((gI st4 b 9) + 1) → Q ((gI st5 b 9) - 1) st5)))))
theorem hdX10_put : yX10_put.cls = "PlankBridgeModel$Book" ∧ yX10_put.cls ≠ "java/lang/invoke/MethodHandle" ∧ yX10_put.cls ≠ "java/lang/invoke/VarHandle" ∧ (parseMethodDescriptor yX10_put.desc).map (fun d => d.parameters.length) = some 3 := by decide +kernel
set_option maxHeartbeats 4000000 in
set_option maxRecDepth 100000 in
theorem tX10_put {l : Launch} {E : En0} {L : List Nat} (hE : EK E L) (hL : Cov 54 77 L) {b : Nat} {p1 : Int32} {p2 : Int32} {p3 : Int32} {st : St} {Q : Int32 → St → Prop} (hb : kd b = 9) (h : wX10_put b p1 p2 p3 st Q) : Mz l yX10_put cX10_put 5 (some .int) rmX10_put E L [.ref (E.2.1 b), .int p1, .int p2, .int p3] st (zI E L Q) := by
  refine Mz.of hE (by decide) (Nat.le_of_ble_eq_true rfl) ?_
  intro p e s m below meth c ls C hr hlk _ hl hP
  replace C : Cx E L "PlankBridgeModel$Book" cX10_put 5 p s m _ c := C
  have hS : va_S (fA E L s.heap.size) s.heap s.heap [] := va_S.rf
  replace hl : lv_has ls 5 [(0, .ref (E.2.1 b)), (1, .int p1), (2, .int p2), (3, .int p3)] := hl
  unfold wX10_put at h
  refine lv_iconst C.1 C.2.1 (v := 4) dX10_put_0 rfl ?_
  refine lv_aload_n C.1 C.2.1 dX10_put_1 rfl (lv_at hl 0 rfl) ?_
  refine gf9_9 C hP hb (m9 hb hL) q1341 dX10_put_2 ?_
  refine lv_imul C.1 C.2.1 dX10_put_5  ?_
  refine lv_topi (fun x1 ex1 => ?_)
  have h := h x1 ex1
  refine lv_istore C.1 C.2.1 dX10_put_6 hl (Nat.le_of_ble_eq_true rfl) rfl (fun ls hl => ?_)
  have hl : lv_has ls 5 [(4, .int x1), (0, .ref (E.2.1 b)), (1, .int p1), (2, .int p2), (3, .int p3)] := hl
  refine lv_aload_n C.1 C.2.1 dX10_put_8 rfl (lv_at hl 1 rfl) ?_
  refine gf9_8 C hP hb (m9 hb hL) q1338 dX10_put_9 ?_
  refine lv_iload C.1 C.2.1 dX10_put_12 (lv_at hl 0 rfl) ?_
  refine lv_iconst C.1 C.2.1 (v := 0) dX10_put_14 rfl ?_
  refine lv_iadd C.1 C.2.1 dX10_put_15  ?_
  refine lv_iload_n C.1 C.2.1 dX10_put_16 rfl (lv_at hl 2 rfl) ?_
  obtain ⟨hi, h⟩ := h
  refine z_iast C hP hS (k9_5 hb) (l9_5 hb) (m9_5 hb hL) hi dX10_put_17 (fun H locs hP hS => ?_)
  obtain ⟨st2, est2⟩ : ∃ z, z = uI st (b + 5) (x1 + 0 : Int32).toNatClampNeg p1 := ⟨_, rfl⟩
  rw [← est2] at hP; have h := h st2 est2
  refine lv_aload_n C.1 C.2.1 dX10_put_18 rfl (lv_at hl 1 rfl) ?_
  refine gf9_8 C hP hb (m9 hb hL) q1338 dX10_put_19 ?_
  refine lv_iload C.1 C.2.1 dX10_put_22 (lv_at hl 0 rfl) ?_
  refine lv_iconst C.1 C.2.1 (v := 1) dX10_put_24 rfl ?_
  refine lv_iadd C.1 C.2.1 dX10_put_25  ?_
  refine lv_iload_n C.1 C.2.1 dX10_put_26 rfl (lv_at hl 3 rfl) ?_
  obtain ⟨hi, h⟩ := h
  refine z_iast C hP hS (k9_5 hb) (l9_5 hb) (m9_5 hb hL) hi dX10_put_27 (fun H locs hP hS => ?_)
  obtain ⟨st3, est3⟩ : ∃ z, z = uI st2 (b + 5) (x1 + 1 : Int32).toNatClampNeg p2 := ⟨_, rfl⟩
  rw [← est3] at hP; have h := h st3 est3
  refine lv_aload_n C.1 C.2.1 dX10_put_28 rfl (lv_at hl 1 rfl) ?_
  refine gf9_8 C hP hb (m9 hb hL) q1338 dX10_put_29 ?_
  refine lv_iload C.1 C.2.1 dX10_put_32 (lv_at hl 0 rfl) ?_
  refine lv_iconst C.1 C.2.1 (v := 2) dX10_put_34 rfl ?_
  refine lv_iadd C.1 C.2.1 dX10_put_35  ?_
  refine lv_iload_n C.1 C.2.1 dX10_put_36 rfl (lv_at hl 4 rfl) ?_
  obtain ⟨hi, h⟩ := h
  refine z_iast C hP hS (k9_5 hb) (l9_5 hb) (m9_5 hb hL) hi dX10_put_37 (fun H locs hP hS => ?_)
  obtain ⟨st4, est4⟩ : ∃ z, z = uI st3 (b + 5) (x1 + 2 : Int32).toNatClampNeg p3 := ⟨_, rfl⟩
  rw [← est4] at hP; have h := h st4 est4
  refine lv_aload_n C.1 C.2.1 dX10_put_38 rfl (lv_at hl 1 rfl) ?_
  refine lv_dup C.1 C.2.1 dX10_put_39 rfl ?_
  refine gf9_9 C hP hb (m9 hb hL) q1341 dX10_put_40 ?_
  refine lv_iconst C.1 C.2.1 (v := 1) dX10_put_43 rfl ?_
  refine lv_iadd C.1 C.2.1 dX10_put_44  ?_
  refine pf9_9 C hP hS hb (m9 hb hL) q1341 dX10_put_45 (fun H locs hP hS => ?_)
  obtain ⟨st5, est5⟩ : ∃ z, z = uI st4 b 9 ((gI st4 b 9) + 1) := ⟨_, rfl⟩
  rw [← est5] at hP; have h := h st5 est5
  refine lv_aload_n C.1 C.2.1 dX10_put_48 rfl (lv_at hl 1 rfl) ?_
  refine gf9_9 C hP hb (m9 hb hL) q1341 dX10_put_49 ?_
  refine lv_iconst C.1 C.2.1 (v := 1) dX10_put_52 rfl ?_
  refine lv_isub C.1 C.2.1 dX10_put_53  ?_
  exact z_ri C hr hlk rfl hP hS h dX10_put_54
def rmX12_begin : Room := { frames := 1, cells := 0, slots := 0, locals := 60 }
def wX12_begin_L2 (b : Nat)  (R2 : Int32 × St → Prop) (v1 : Int32) (st : St) (Q : St → Prop) : Prop :=
  ((50 ≤ v1 → (vp_in 1 50 ∧ ∀ st1, st1 = uI st (b + 2) (1 : Int32).toNatClampNeg 60 → (∀ st2, st2 = sI st1 (b + 2) (va_cpy (st1.1 63) (st1.1 (b + 2)) (0 : Int32).toNatClampNeg (16 : Int32).toNatClampNeg (12 : Int32).toNatClampNeg) → Q st2))) ∧ (¬ 50 ≤ v1 → (vp_in v1 50 ∧ ∀ st3, st3 = uI st (b + 2) (v1 : Int32).toNatClampNeg 0 → (∀ x4 : Int32, x4 = v1 + 1 → R2 (x4, st3)))))
def wX12_begin (b : Nat) (st : St) (Q : St → Prop) : Prop :=
  (∃ n, lp (fun R s => wX12_begin_L2 b R s.1 s.2 Q) n (0, st))
theorem hdX12_begin : yX12_begin.cls = "PlankBridgeModel" ∧ yX12_begin.cls ≠ "java/lang/invoke/MethodHandle" ∧ yX12_begin.cls ≠ "java/lang/invoke/VarHandle" ∧ (parseMethodDescriptor yX12_begin.desc).map (fun d => d.parameters.length) = some 0 := by decide +kernel
set_option maxHeartbeats 4000000 in
set_option maxRecDepth 100000 in
theorem tX12_begin_L2 {l : Launch} {p : Program} {e : Env} {s : State} {m : MethodId} {args : Array Value} {below : List Frame} {meth : Method} {c : Code} {E : En0} {L : List Nat} (hL : Cov 54 67 L) (C : Cx E L "PlankBridgeModel" cX12_begin 2 p s m args c) (hr : meth.sig.returnType = none) (hlk : meth.locks = false) {b : Nat} {Q : St → Prop} (hb : kd b = 11) : ∀ (n : Nat) (v1 : Int32) (st : St) (H : Heap) (locs : List Loc) (ls : Array Slot), lp (fun R s => wX12_begin_L2 b R s.1 s.2 Q) n (v1, st) → lv_has ls 2 [(0, .ref (E.2.1 b)), (1, .int v1)] → va_P E.1 vwCl (wd E L st) H → va_S (fA E L s.heap.size) s.heap H locs → W p l e rmX12_begin s m args below meth c H locs 0 0 (MQ below (zV E L Q (fA E L s.heap.size)) args s rmX12_begin.cells rmX12_begin.slots (fA E L s.heap.size)) (F0 m 2 ls []) := by
  intro n
  induction n with
  | zero => exact fun _ _ _ _ _ h _ _ _ => False.elim ‹_›
  | succ n ih =>
    intro v1 st  H locs ls h hl hP hS
    have hR2 := ih
    replace h : wX12_begin_L2 b (lp (fun R s => wX12_begin_L2 b R s.1 s.2 Q) n) v1 st Q := h
    unfold wX12_begin_L2 at h
    refine lv_iload_n C.1 C.2.1 dX12_begin_2 rfl (lv_at hl 1 rfl) ?_
    refine lv_bipush C.1 C.2.1 (v := 50) dX12_begin_3 rfl ?_
    refine lv_icmp_ge C.1 C.2.1 (tgt := 21) dX12_begin_5 (by decide) (fun hc => ?_) (fun hc => ?_)
    · have h := h.1 hc
      refine lv_aload_n C.1 C.2.1 dX12_begin_21 rfl (lv_at hl 0 rfl) ?_
      refine gf11_5 C hP hb (m11 hb hL) q1384 dX12_begin_22 ?_
      refine lv_iconst C.1 C.2.1 (v := 1) dX12_begin_25 rfl ?_
      refine lv_bipush C.1 C.2.1 (v := 60) dX12_begin_26 rfl ?_
      obtain ⟨hi, h⟩ := h
      refine z_iast C hP hS (k11_2 hb) (l11_2 hb) (m11_2 hb hL) hi dX12_begin_28 (fun H locs hP hS => ?_)
      obtain ⟨st1, est1⟩ : ∃ z, z = uI st (b + 2) (1 : Int32).toNatClampNeg 60 := ⟨_, rfl⟩
      rw [← est1] at hP; have h := h st1 est1
      refine lv_aload_n C.1 C.2.1 dX12_begin_29 rfl (lv_at hl 0 rfl) ?_
      refine gf11_4 C hP hb (m11 hb hL) q1383 dX12_begin_30 ?_
      refine gf9_6 C hP (show kd 60 = 9 from rfl) (hL 60 (Nat.le_of_ble_eq_true rfl) (Nat.le_of_ble_eq_true rfl)) q1333 dX12_begin_33 ?_
      refine lv_iconst C.1 C.2.1 (v := 0) dX12_begin_36 rfl ?_
      refine lv_aload_n C.1 C.2.1 dX12_begin_37 rfl (lv_at hl 0 rfl) ?_
      refine gf11_5 C hP hb (m11 hb hL) q1384 dX12_begin_38 ?_
      refine lv_bipush C.1 C.2.1 (v := 16) dX12_begin_41 rfl ?_
      refine lv_bipush C.1 C.2.1 (v := 12) dX12_begin_43 rfl ?_
      refine z_copyi C hP hS hl (show kd 63 = 20 from rfl) (show ln 63 = 13 from rfl) (hL 63 (Nat.le_of_ble_eq_true rfl) (Nat.le_of_ble_eq_true rfl)) (k11_2 hb) (l11_2 hb) (m11_2 hb hL) q1376 q409 q408 q115 (by decide) (by decide) (by decide) (Nat.le_of_ble_eq_true rfl) (Nat.le_of_ble_eq_true rfl) (Nat.le_of_ble_eq_true rfl) (Nat.le_of_ble_eq_true rfl) dX12_begin_45 (fun H locs hP hS => ?_)
      obtain ⟨st2, est2⟩ : ∃ z, z = sI st1 (b + 2) (va_cpy (st1.1 63) (st1.1 (b + 2)) (0 : Int32).toNatClampNeg (16 : Int32).toNatClampNeg (12 : Int32).toNatClampNeg) := ⟨_, rfl⟩
      rw [← est2] at hP; have h := h st2 est2
      exact z_rv C hr hlk hP hS h dX12_begin_48
    · have h := h.2 hc
      refine lv_aload_n C.1 C.2.1 dX12_begin_8 rfl (lv_at hl 0 rfl) ?_
      refine gf11_5 C hP hb (m11 hb hL) q1384 dX12_begin_9 ?_
      refine lv_iload_n C.1 C.2.1 dX12_begin_12 rfl (lv_at hl 1 rfl) ?_
      refine lv_iconst C.1 C.2.1 (v := 0) dX12_begin_13 rfl ?_
      obtain ⟨hi, h⟩ := h
      refine z_iast C hP hS (k11_2 hb) (l11_2 hb) (m11_2 hb hL) hi dX12_begin_14 (fun H locs hP hS => ?_)
      obtain ⟨st3, est3⟩ : ∃ z, z = uI st (b + 2) (v1 : Int32).toNatClampNeg 0 := ⟨_, rfl⟩
      rw [← est3] at hP; have h := h st3 est3
      obtain ⟨x4, ex4⟩ : ∃ z, z = v1 + 1 := ⟨_, rfl⟩
      have h := h x4 ex4
      refine lv_iinc C.1 C.2.1 dX12_begin_15 hl (k := 1) rfl ex4.symm (Nat.le_of_ble_eq_true rfl) rfl (fun ls hl => ?_)
      have hl : lv_has ls 2 [(1, .int x4), (0, .ref (E.2.1 b))] := hl
      refine lv_goto C.1 C.2.1 (tgt := 2) dX12_begin_18 (by decide) ?_
      exact hR2 x4 st3 _ _ _ h (lv_sub hl [1, 0] rfl) hP hS
set_option maxHeartbeats 4000000 in
set_option maxRecDepth 100000 in
theorem tX12_begin {l : Launch} {E : En0} {L : List Nat} (hE : EK E L) (hL : Cov 54 67 L) {b : Nat} {st : St} {Q : St → Prop} (hb : kd b = 11) (h : wX12_begin b st Q) : Mz l yX12_begin cX12_begin 2 none rmX12_begin E L [.ref (E.2.1 b)] st (zV E L Q) := by
  refine Mz.of hE (by decide) (Nat.le_of_ble_eq_true rfl) ?_
  intro p e s m below meth c ls C hr hlk _ hl hP
  replace C : Cx E L "PlankBridgeModel" cX12_begin 2 p s m _ c := C
  have hS : va_S (fA E L s.heap.size) s.heap s.heap [] := va_S.rf
  replace hl : lv_has ls 2 [(0, .ref (E.2.1 b))] := hl
  unfold wX12_begin at h
  refine lv_iconst C.1 C.2.1 (v := 0) dX12_begin_0 rfl ?_
  refine lv_istore_n C.1 C.2.1 dX12_begin_1 rfl hl (Nat.le_of_ble_eq_true rfl) rfl (fun ls hl => ?_)
  have hl : lv_has ls 2 [(1, .int 0), (0, .ref (E.2.1 b))] := hl
  obtain ⟨n, h⟩ := h
  exact tX12_begin_L2 hL C hr hlk hb n 0 st _ _ _ h (lv_sub hl [1, 0] rfl) hP hS
def rmX12_thrown : Room := { frames := 0, cells := 0, slots := 0, locals := 0 }
def wX12_thrown (b : Nat) (st : St) (Q : Int32 → St → Prop) : Prop :=
  Q (gI st b 0) st
theorem hdX12_thrown : yX12_thrown.cls = "PlankBridgeModel" ∧ yX12_thrown.cls ≠ "java/lang/invoke/MethodHandle" ∧ yX12_thrown.cls ≠ "java/lang/invoke/VarHandle" ∧ (parseMethodDescriptor yX12_thrown.desc).map (fun d => d.parameters.length) = some 0 := by decide +kernel
set_option maxHeartbeats 4000000 in
set_option maxRecDepth 100000 in
theorem tX12_thrown {l : Launch} {E : En0} {L : List Nat} (hE : EK E L) (hL : Cov 54 67 L) {b : Nat} {st : St} {Q : Int32 → St → Prop} (hb : kd b = 11) (h : wX12_thrown b st Q) : Mz l yX12_thrown cX12_thrown 1 (some .int) rmX12_thrown E L [.ref (E.2.1 b)] st (zI E L Q) := by
  refine Mz.of hE (by decide) (Nat.le_of_ble_eq_true rfl) ?_
  intro p e s m below meth c ls C hr hlk _ hl hP
  replace C : Cx E L "PlankBridgeModel" cX12_thrown 1 p s m _ c := C
  have hS : va_S (fA E L s.heap.size) s.heap s.heap [] := va_S.rf
  replace hl : lv_has ls 1 [(0, .ref (E.2.1 b))] := hl
  unfold wX12_thrown at h
  refine lv_aload_n C.1 C.2.1 dX12_thrown_0 rfl (lv_at hl 0 rfl) ?_
  refine gf11_0 C hP hb (m11 hb hL) q1377 dX12_thrown_1 ?_
  exact z_ri C hr hlk rfl hP hS h dX12_thrown_4
def rmX12_fail : Room := { frames := 0, cells := 0, slots := 0, locals := 0 }
def wX12_fail (b : Nat) (p1 : Int32) (st : St) (Q : Int32 → St → Prop) : Prop :=
  (∀ st1, st1 = uI st b 0 p1 → Q 0 st1)
theorem hdX12_fail : yX12_fail.cls = "PlankBridgeModel" ∧ yX12_fail.cls ≠ "java/lang/invoke/MethodHandle" ∧ yX12_fail.cls ≠ "java/lang/invoke/VarHandle" ∧ (parseMethodDescriptor yX12_fail.desc).map (fun d => d.parameters.length) = some 1 := by decide +kernel
set_option maxHeartbeats 4000000 in
set_option maxRecDepth 100000 in
theorem tX12_fail {l : Launch} {E : En0} {L : List Nat} (hE : EK E L) (hL : Cov 54 67 L) {b : Nat} {p1 : Int32} {st : St} {Q : Int32 → St → Prop} (hb : kd b = 11) (h : wX12_fail b p1 st Q) : Mz l yX12_fail cX12_fail 2 (some .int) rmX12_fail E L [.ref (E.2.1 b), .int p1] st (zI E L Q) := by
  refine Mz.of hE (by decide) (Nat.le_of_ble_eq_true rfl) ?_
  intro p e s m below meth c ls C hr hlk _ hl hP
  replace C : Cx E L "PlankBridgeModel" cX12_fail 2 p s m _ c := C
  have hS : va_S (fA E L s.heap.size) s.heap s.heap [] := va_S.rf
  replace hl : lv_has ls 2 [(0, .ref (E.2.1 b)), (1, .int p1)] := hl
  unfold wX12_fail at h
  refine lv_aload_n C.1 C.2.1 dX12_fail_0 rfl (lv_at hl 0 rfl) ?_
  refine lv_iload_n C.1 C.2.1 dX12_fail_1 rfl (lv_at hl 1 rfl) ?_
  refine pf11_0 C hP hS hb (m11 hb hL) q1377 dX12_fail_2 (fun H locs hP hS => ?_)
  obtain ⟨st1, est1⟩ : ∃ z, z = uI st b 0 p1 := ⟨_, rfl⟩
  rw [← est1] at hP; have h := h st1 est1
  refine lv_iconst C.1 C.2.1 (v := 0) dX12_fail_5 rfl ?_
  exact z_ri C hr hlk rfl hP hS h dX12_fail_6
def rmX12_failed : Room := { frames := 0, cells := 0, slots := 0, locals := 0 }
def wX12_failed (b : Nat) (p1 : Int32) (st : St) (Q : Int32 → St → Prop) : Prop :=
  (∀ st1, st1 = uI st b 0 p1 → Q 0 st1)
theorem hdX12_failed : yX12_failed.cls = "PlankBridgeModel" ∧ yX12_failed.cls ≠ "java/lang/invoke/MethodHandle" ∧ yX12_failed.cls ≠ "java/lang/invoke/VarHandle" ∧ (parseMethodDescriptor yX12_failed.desc).map (fun d => d.parameters.length) = some 1 := by decide +kernel
set_option maxHeartbeats 4000000 in
set_option maxRecDepth 100000 in
theorem tX12_failed {l : Launch} {E : En0} {L : List Nat} (hE : EK E L) (hL : Cov 54 67 L) {b : Nat} {p1 : Int32} {st : St} {Q : Int32 → St → Prop} (hb : kd b = 11) (h : wX12_failed b p1 st Q) : Mz l yX12_failed cX12_failed 2 (some .boolean) rmX12_failed E L [.ref (E.2.1 b), .int p1] st (zI E L (fun r u => bz r ∧ Q r u)) := by
  refine Mz.of hE (by decide) (Nat.le_of_ble_eq_true rfl) ?_
  intro p e s m below meth c ls C hr hlk _ hl hP
  replace C : Cx E L "PlankBridgeModel" cX12_failed 2 p s m _ c := C
  have hS : va_S (fA E L s.heap.size) s.heap s.heap [] := va_S.rf
  replace hl : lv_has ls 2 [(0, .ref (E.2.1 b)), (1, .int p1)] := hl
  unfold wX12_failed at h
  refine lv_aload_n C.1 C.2.1 dX12_failed_0 rfl (lv_at hl 0 rfl) ?_
  refine lv_iload_n C.1 C.2.1 dX12_failed_1 rfl (lv_at hl 1 rfl) ?_
  refine pf11_0 C hP hS hb (m11 hb hL) q1377 dX12_failed_2 (fun H locs hP hS => ?_)
  obtain ⟨st1, est1⟩ : ∃ z, z = uI st b 0 p1 := ⟨_, rfl⟩
  rw [← est1] at hP; have h := h st1 est1
  refine lv_iconst C.1 C.2.1 (v := 0) dX12_failed_5 rfl ?_
  exact z_ri C hr hlk (bz_n bz0) hP hS ⟨bz0, h⟩ dX12_failed_6
def rmX12_told : Room := { frames := 0, cells := 0, slots := 0, locals := 0 }
def wX12_told (b : Nat) (p1 : Int32) (st : St) (Q : Int32 → St → Prop) : Prop :=
  (∀ st1, st1 = uI st b 0 0 → Q p1 st1)
theorem hdX12_told : yX12_told.cls = "PlankBridgeModel" ∧ yX12_told.cls ≠ "java/lang/invoke/MethodHandle" ∧ yX12_told.cls ≠ "java/lang/invoke/VarHandle" ∧ (parseMethodDescriptor yX12_told.desc).map (fun d => d.parameters.length) = some 1 := by decide +kernel
set_option maxHeartbeats 4000000 in
set_option maxRecDepth 100000 in
theorem tX12_told {l : Launch} {E : En0} {L : List Nat} (hE : EK E L) (hL : Cov 54 67 L) {b : Nat} {p1 : Int32} {st : St} {Q : Int32 → St → Prop} (hb : kd b = 11) (h : wX12_told b p1 st Q) : Mz l yX12_told cX12_told 2 (some .int) rmX12_told E L [.ref (E.2.1 b), .int p1] st (zI E L Q) := by
  refine Mz.of hE (by decide) (Nat.le_of_ble_eq_true rfl) ?_
  intro p e s m below meth c ls C hr hlk _ hl hP
  replace C : Cx E L "PlankBridgeModel" cX12_told 2 p s m _ c := C
  have hS : va_S (fA E L s.heap.size) s.heap s.heap [] := va_S.rf
  replace hl : lv_has ls 2 [(0, .ref (E.2.1 b)), (1, .int p1)] := hl
  unfold wX12_told at h
  refine lv_aload_n C.1 C.2.1 dX12_told_0 rfl (lv_at hl 0 rfl) ?_
  refine lv_iconst C.1 C.2.1 (v := 0) dX12_told_1 rfl ?_
  refine pf11_0 C hP hS hb (m11 hb hL) q1377 dX12_told_2 (fun H locs hP hS => ?_)
  obtain ⟨st1, est1⟩ : ∃ z, z = uI st b 0 0 := ⟨_, rfl⟩
  rw [← est1] at hP; have h := h st1 est1
  refine lv_iload_n C.1 C.2.1 dX12_told_5 rfl (lv_at hl 1 rfl) ?_
  exact z_ri C hr hlk rfl hP hS h dX12_told_6
def rmX12_toldIs : Room := { frames := 0, cells := 0, slots := 0, locals := 0 }
def wX12_toldIs (b : Nat) (p1 : Int32) (st : St) (Q : Int32 → St → Prop) : Prop :=
  (∀ st1, st1 = uI st b 0 0 → (bz p1 ∧ Q p1 st1))
theorem hdX12_toldIs : yX12_toldIs.cls = "PlankBridgeModel" ∧ yX12_toldIs.cls ≠ "java/lang/invoke/MethodHandle" ∧ yX12_toldIs.cls ≠ "java/lang/invoke/VarHandle" ∧ (parseMethodDescriptor yX12_toldIs.desc).map (fun d => d.parameters.length) = some 1 := by decide +kernel
set_option maxHeartbeats 4000000 in
set_option maxRecDepth 100000 in
theorem tX12_toldIs {l : Launch} {E : En0} {L : List Nat} (hE : EK E L) (hL : Cov 54 67 L) {b : Nat} {p1 : Int32} {st : St} {Q : Int32 → St → Prop} (hb : kd b = 11) (h : wX12_toldIs b p1 st Q) : Mz l yX12_toldIs cX12_toldIs 2 (some .boolean) rmX12_toldIs E L [.ref (E.2.1 b), .int p1] st (zI E L (fun r u => bz r ∧ Q r u)) := by
  refine Mz.of hE (by decide) (Nat.le_of_ble_eq_true rfl) ?_
  intro p e s m below meth c ls C hr hlk _ hl hP
  replace C : Cx E L "PlankBridgeModel" cX12_toldIs 2 p s m _ c := C
  have hS : va_S (fA E L s.heap.size) s.heap s.heap [] := va_S.rf
  replace hl : lv_has ls 2 [(0, .ref (E.2.1 b)), (1, .int p1)] := hl
  unfold wX12_toldIs at h
  refine lv_aload_n C.1 C.2.1 dX12_toldIs_0 rfl (lv_at hl 0 rfl) ?_
  refine lv_iconst C.1 C.2.1 (v := 0) dX12_toldIs_1 rfl ?_
  refine pf11_0 C hP hS hb (m11 hb hL) q1377 dX12_toldIs_2 (fun H locs hP hS => ?_)
  obtain ⟨st1, est1⟩ : ∃ z, z = uI st b 0 0 := ⟨_, rfl⟩
  rw [← est1] at hP; have h := h st1 est1
  refine lv_iload_n C.1 C.2.1 dX12_toldIs_5 rfl (lv_at hl 1 rfl) ?_
  exact z_ri C hr hlk (bz_n h.1) hP hS h dX12_toldIs_6
def rmX12_isIn : Room := { frames := 0, cells := 0, slots := 0, locals := 0 }
def wX12_isIn (p1 : Int32) (p2 : Int32) (p3 : Int32) (st : St) (Q : Int32 → St → Prop) : Prop :=
  ((p1 < p2 → Q 0 st) ∧ (¬ p1 < p2 → ((p3 < p1 → Q 0 st) ∧ (¬ p3 < p1 → Q 1 st))))
theorem hdX12_isIn : yX12_isIn.cls ≠ "java/lang/invoke/MethodHandle" ∧ yX12_isIn.cls ≠ "java/lang/invoke/VarHandle" ∧ (parseMethodDescriptor yX12_isIn.desc).map (fun d => d.parameters.length) = some 3 := by decide +kernel
set_option maxHeartbeats 4000000 in
set_option maxRecDepth 100000 in
theorem tX12_isIn {l : Launch} {E : En0} {L : List Nat} (hE : EK E L) (hL : Cov 54 67 L) {p1 : Int32} {p2 : Int32} {p3 : Int32} {st : St} {Q : Int32 → St → Prop}  (h : wX12_isIn p1 p2 p3 st Q) : Mz l yX12_isIn cX12_isIn 3 (some .boolean) rmX12_isIn E L [.int p1, .int p2, .int p3] st (zI E L (fun r u => bz r ∧ Q r u)) := by
  refine Mz.of hE (by decide) (Nat.le_of_ble_eq_true rfl) ?_
  intro p e s m below meth c ls C hr hlk _ hl hP
  replace C : Cx E L "PlankBridgeModel" cX12_isIn 3 p s m _ c := C
  have hS : va_S (fA E L s.heap.size) s.heap s.heap [] := va_S.rf
  replace hl : lv_has ls 3 [(0, .int p1), (1, .int p2), (2, .int p3)] := hl
  unfold wX12_isIn at h
  refine lv_iload_n C.1 C.2.1 dX12_isIn_0 rfl (lv_at hl 0 rfl) ?_
  refine lv_iload_n C.1 C.2.1 dX12_isIn_1 rfl (lv_at hl 1 rfl) ?_
  refine lv_icmp_lt C.1 C.2.1 (tgt := 14) dX12_isIn_2 (by decide) (fun hc => ?_) (fun hc => ?_)
  · have h := h.1 hc
    refine lv_iconst C.1 C.2.1 (v := 0) dX12_isIn_14 rfl ?_
    exact z_ri C hr hlk (bz_n bz0) hP hS ⟨bz0, h⟩ dX12_isIn_15
  · have h := h.2 hc
    refine lv_iload_n C.1 C.2.1 dX12_isIn_5 rfl (lv_at hl 0 rfl) ?_
    refine lv_iload_n C.1 C.2.1 dX12_isIn_6 rfl (lv_at hl 2 rfl) ?_
    refine lv_icmp_gt C.1 C.2.1 (tgt := 14) dX12_isIn_7 (by decide) (fun hc => ?_) (fun hc => ?_)
    · have h := h.1 hc
      refine lv_iconst C.1 C.2.1 (v := 0) dX12_isIn_14 rfl ?_
      exact z_ri C hr hlk (bz_n bz0) hP hS ⟨bz0, h⟩ dX12_isIn_15
    · have h := h.2 hc
      refine lv_iconst C.1 C.2.1 (v := 1) dX12_isIn_10 rfl ?_
      refine lv_goto C.1 C.2.1 (tgt := 15) dX12_isIn_11 (by decide) ?_
      exact z_ri C hr hlk (bz_n bz1) hP hS ⟨bz1, h⟩ dX12_isIn_15
def rmX12_trim : Room := { frames := 1, cells := 0, slots := 0, locals := 22 }
def wX12_trim (b : Nat) (p1 : Int32) (st : St) (Q : Int32 → St → Prop) : Prop :=
  (∀ st1, st1 = uI st b 0 0 → (wX12_isIn p1 0 (gI st1 b 2) st1 (fun r3 st2 => ((¬ r3 = 0 → (∀ st4, st4 = uI st2 b 2 p1 → Q p1 st4)) ∧ (r3 = 0 → (wX12_fail b 1 st2 (fun r6 st5 => Q r6 st5)))))))
theorem hdX12_trim : yX12_trim.cls = "PlankBridgeModel" ∧ yX12_trim.cls ≠ "java/lang/invoke/MethodHandle" ∧ yX12_trim.cls ≠ "java/lang/invoke/VarHandle" ∧ (parseMethodDescriptor yX12_trim.desc).map (fun d => d.parameters.length) = some 1 := by decide +kernel
set_option maxHeartbeats 4000000 in
set_option maxRecDepth 100000 in
theorem tX12_trim {l : Launch} {E : En0} {L : List Nat} (hE : EK E L) (hL : Cov 54 67 L) {b : Nat} {p1 : Int32} {st : St} {Q : Int32 → St → Prop} (hb : kd b = 11) (h : wX12_trim b p1 st Q) : Mz l yX12_trim cX12_trim 2 (some .int) rmX12_trim E L [.ref (E.2.1 b), .int p1] st (zI E L Q) := by
  refine Mz.of hE (by decide) (Nat.le_of_ble_eq_true rfl) ?_
  intro p e s m below meth c ls C hr hlk _ hl hP
  replace C : Cx E L "PlankBridgeModel" cX12_trim 2 p s m _ c := C
  have hS : va_S (fA E L s.heap.size) s.heap s.heap [] := va_S.rf
  replace hl : lv_has ls 2 [(0, .ref (E.2.1 b)), (1, .int p1)] := hl
  unfold wX12_trim at h
  refine lv_aload_n C.1 C.2.1 dX12_trim_0 rfl (lv_at hl 0 rfl) ?_
  refine lv_iconst C.1 C.2.1 (v := 0) dX12_trim_1 rfl ?_
  refine pf11_0 C hP hS hb (m11 hb hL) q1377 dX12_trim_2 (fun H locs hP hS => ?_)
  obtain ⟨st1, est1⟩ : ∃ z, z = uI st b 0 0 := ⟨_, rfl⟩
  rw [← est1] at hP; have h := h st1 est1
  refine lv_iload_n C.1 C.2.1 dX12_trim_5 rfl (lv_at hl 1 rfl) ?_
  refine lv_iconst C.1 C.2.1 (v := 0) dX12_trim_6 rfl ?_
  refine lv_aload_n C.1 C.2.1 dX12_trim_7 rfl (lv_at hl 0 rfl) ?_
  refine gf11_2 C hP hb (m11 hb hL) q1381 dX12_trim_8 ?_
  refine z_ki hS (z_runS (As := [.int p1, .int 0, .int (gI st1 b 2)]) (rest := []) C hP hS (tX12_isIn C.2.2.2.2.2.2.1 (hL.mo (Nat.le_of_ble_eq_true rfl) (Nat.le_of_ble_eq_true rfl))  h) q1423 q1424 q116 q1425 hdX12_isIn ⟨Nat.le_of_ble_eq_true rfl, Nat.le_of_ble_eq_true rfl⟩ ⟨Nat.zero_le _, Nat.zero_le _⟩ rfl hl.1 rfl (lv_room (Nat.le_of_ble_eq_true rfl)) dX12_trim_11) (fun r3 st2 H locs h hP hS => ?_)
  obtain ⟨hr3, h⟩ := h
  refine lv_if_ne C.1 C.2.1 (tgt := 23) dX12_trim_14 (by decide) (fun hc => ?_) (fun hc => ?_)
  · have h := h.1 hc
    refine lv_aload_n C.1 C.2.1 dX12_trim_23 rfl (lv_at hl 0 rfl) ?_
    refine lv_iload_n C.1 C.2.1 dX12_trim_24 rfl (lv_at hl 1 rfl) ?_
    refine pf11_2 C hP hS hb (m11 hb hL) q1381 dX12_trim_25 (fun H locs hP hS => ?_)
    obtain ⟨st4, est4⟩ : ∃ z, z = uI st2 b 2 p1 := ⟨_, rfl⟩
    rw [← est4] at hP; have h := h st4 est4
    refine lv_iload_n C.1 C.2.1 dX12_trim_28 rfl (lv_at hl 1 rfl) ?_
    exact z_ri C hr hlk rfl hP hS h dX12_trim_29
  · have h := h.2 hc
    refine lv_aload_n C.1 C.2.1 dX12_trim_17 rfl (lv_at hl 0 rfl) ?_
    refine lv_iconst C.1 C.2.1 (v := 1) dX12_trim_18 rfl ?_
    refine z_ki hS (z_runV (As := [.int 1]) (rest := []) C hP hS (m11 hb hL) (e11 hb) rfl (tX12_fail C.2.2.2.2.2.2.1 (hL.mo (Nat.le_of_ble_eq_true rfl) (Nat.le_of_ble_eq_true rfl)) hb h) q1415 q1417 q40 q116 q1418 hdX12_fail ⟨Nat.le_of_ble_eq_true rfl, Nat.le_of_ble_eq_true rfl⟩ ⟨Nat.zero_le _, Nat.zero_le _⟩ rfl hl.1 rfl (lv_room (Nat.le_of_ble_eq_true rfl)) dX12_trim_19) (fun r6 st5 H locs h hP hS => ?_)
    exact z_ri C hr hlk rfl hP hS h dX12_trim_22
def rmX12_errorAt : Room := { frames := 1, cells := 0, slots := 0, locals := 21 }
def wX12_errorAt (b : Nat) (st : St) (Q : Int32 → St → Prop) : Prop :=
  (wX12_told b (gI st b 3) st (fun r2 st1 => Q r2 st1))
theorem hdX12_errorAt : yX12_errorAt.cls = "PlankBridgeModel" ∧ yX12_errorAt.cls ≠ "java/lang/invoke/MethodHandle" ∧ yX12_errorAt.cls ≠ "java/lang/invoke/VarHandle" ∧ (parseMethodDescriptor yX12_errorAt.desc).map (fun d => d.parameters.length) = some 0 := by decide +kernel
set_option maxHeartbeats 4000000 in
set_option maxRecDepth 100000 in
theorem tX12_errorAt {l : Launch} {E : En0} {L : List Nat} (hE : EK E L) (hL : Cov 54 67 L) {b : Nat} {st : St} {Q : Int32 → St → Prop} (hb : kd b = 11) (h : wX12_errorAt b st Q) : Mz l yX12_errorAt cX12_errorAt 1 (some .int) rmX12_errorAt E L [.ref (E.2.1 b)] st (zI E L Q) := by
  refine Mz.of hE (by decide) (Nat.le_of_ble_eq_true rfl) ?_
  intro p e s m below meth c ls C hr hlk _ hl hP
  replace C : Cx E L "PlankBridgeModel" cX12_errorAt 1 p s m _ c := C
  have hS : va_S (fA E L s.heap.size) s.heap s.heap [] := va_S.rf
  replace hl : lv_has ls 1 [(0, .ref (E.2.1 b))] := hl
  unfold wX12_errorAt at h
  refine lv_aload_n C.1 C.2.1 dX12_errorAt_0 rfl (lv_at hl 0 rfl) ?_
  refine lv_aload_n C.1 C.2.1 dX12_errorAt_1 rfl (lv_at hl 0 rfl) ?_
  refine gf11_3 C hP hb (m11 hb hL) q1382 dX12_errorAt_2 ?_
  refine z_ki hS (z_runV (As := [.int (gI st b 3)]) (rest := []) C hP hS (m11 hb hL) (e11 hb) rfl (tX12_told C.2.2.2.2.2.2.1 (hL.mo (Nat.le_of_ble_eq_true rfl) (Nat.le_of_ble_eq_true rfl)) hb h) q1652 q1654 q65 q116 q1655 hdX12_told ⟨Nat.le_of_ble_eq_true rfl, Nat.le_of_ble_eq_true rfl⟩ ⟨Nat.zero_le _, Nat.zero_le _⟩ rfl hl.1 rfl (lv_room (Nat.le_of_ble_eq_true rfl)) dX12_errorAt_5) (fun r2 st1 H locs h hP hS => ?_)
  exact z_ri C hr hlk rfl hP hS h dX12_errorAt_8
def rmX12_keep : Room := { frames := 1, cells := 0, slots := 0, locals := 60 }
def wX12_keep (b : Nat) (st : St) (Q : St → Prop) : Prop :=
  (∀ st1, st1 = sI st (b + 3) (va_cpy (st.1 (b + 2)) (st.1 (b + 3)) (0 : Int32).toNatClampNeg (0 : Int32).toNatClampNeg (50 : Int32).toNatClampNeg) → Q st1)
theorem hdX12_keep : yX12_keep.cls = "PlankBridgeModel" ∧ yX12_keep.cls ≠ "java/lang/invoke/MethodHandle" ∧ yX12_keep.cls ≠ "java/lang/invoke/VarHandle" ∧ (parseMethodDescriptor yX12_keep.desc).map (fun d => d.parameters.length) = some 0 := by decide +kernel
set_option maxHeartbeats 4000000 in
set_option maxRecDepth 100000 in
theorem tX12_keep {l : Launch} {E : En0} {L : List Nat} (hE : EK E L) (hL : Cov 54 67 L) {b : Nat} {st : St} {Q : St → Prop} (hb : kd b = 11) (h : wX12_keep b st Q) : Mz l yX12_keep cX12_keep 1 none rmX12_keep E L [.ref (E.2.1 b)] st (zV E L Q) := by
  refine Mz.of hE (by decide) (Nat.le_of_ble_eq_true rfl) ?_
  intro p e s m below meth c ls C hr hlk _ hl hP
  replace C : Cx E L "PlankBridgeModel" cX12_keep 1 p s m _ c := C
  have hS : va_S (fA E L s.heap.size) s.heap s.heap [] := va_S.rf
  replace hl : lv_has ls 1 [(0, .ref (E.2.1 b))] := hl
  unfold wX12_keep at h
  refine lv_aload_n C.1 C.2.1 dX12_keep_0 rfl (lv_at hl 0 rfl) ?_
  refine gf11_5 C hP hb (m11 hb hL) q1384 dX12_keep_1 ?_
  refine lv_iconst C.1 C.2.1 (v := 0) dX12_keep_4 rfl ?_
  refine lv_aload_n C.1 C.2.1 dX12_keep_5 rfl (lv_at hl 0 rfl) ?_
  refine gf11_6 C hP hb (m11 hb hL) q1385 dX12_keep_6 ?_
  refine lv_iconst C.1 C.2.1 (v := 0) dX12_keep_9 rfl ?_
  refine lv_bipush C.1 C.2.1 (v := 50) dX12_keep_10 rfl ?_
  refine z_copyi C hP hS hl (k11_2 hb) (l11_2 hb) (m11_2 hb hL) (k11_3 hb) (l11_3 hb) (m11_3 hb hL) q1376 q409 q408 q115 (by decide) (by decide) (by decide) (Nat.le_of_ble_eq_true rfl) (Nat.le_of_ble_eq_true rfl) (Nat.le_of_ble_eq_true rfl) (Nat.le_of_ble_eq_true rfl) dX12_keep_12 (fun H locs hP hS => ?_)
  obtain ⟨st1, est1⟩ : ∃ z, z = sI st (b + 3) (va_cpy (st.1 (b + 2)) (st.1 (b + 3)) (0 : Int32).toNatClampNeg (0 : Int32).toNatClampNeg (50 : Int32).toNatClampNeg) := ⟨_, rfl⟩
  rw [← est1] at hP; have h := h st1 est1
  exact z_rv C hr hlk hP hS h dX12_keep_15
def rmX12_bringBack : Room := { frames := 1, cells := 0, slots := 0, locals := 60 }
def wX12_bringBack (b : Nat) (st : St) (Q : St → Prop) : Prop :=
  (∀ st1, st1 = sI st (b + 2) (va_cpy (st.1 (b + 3)) (st.1 (b + 2)) (0 : Int32).toNatClampNeg (0 : Int32).toNatClampNeg (50 : Int32).toNatClampNeg) → Q st1)
theorem hdX12_bringBack : yX12_bringBack.cls = "PlankBridgeModel" ∧ yX12_bringBack.cls ≠ "java/lang/invoke/MethodHandle" ∧ yX12_bringBack.cls ≠ "java/lang/invoke/VarHandle" ∧ (parseMethodDescriptor yX12_bringBack.desc).map (fun d => d.parameters.length) = some 0 := by decide +kernel
set_option maxHeartbeats 4000000 in
set_option maxRecDepth 100000 in
theorem tX12_bringBack {l : Launch} {E : En0} {L : List Nat} (hE : EK E L) (hL : Cov 54 67 L) {b : Nat} {st : St} {Q : St → Prop} (hb : kd b = 11) (h : wX12_bringBack b st Q) : Mz l yX12_bringBack cX12_bringBack 1 none rmX12_bringBack E L [.ref (E.2.1 b)] st (zV E L Q) := by
  refine Mz.of hE (by decide) (Nat.le_of_ble_eq_true rfl) ?_
  intro p e s m below meth c ls C hr hlk _ hl hP
  replace C : Cx E L "PlankBridgeModel" cX12_bringBack 1 p s m _ c := C
  have hS : va_S (fA E L s.heap.size) s.heap s.heap [] := va_S.rf
  replace hl : lv_has ls 1 [(0, .ref (E.2.1 b))] := hl
  unfold wX12_bringBack at h
  refine lv_aload_n C.1 C.2.1 dX12_bringBack_0 rfl (lv_at hl 0 rfl) ?_
  refine gf11_6 C hP hb (m11 hb hL) q1385 dX12_bringBack_1 ?_
  refine lv_iconst C.1 C.2.1 (v := 0) dX12_bringBack_4 rfl ?_
  refine lv_aload_n C.1 C.2.1 dX12_bringBack_5 rfl (lv_at hl 0 rfl) ?_
  refine gf11_5 C hP hb (m11 hb hL) q1384 dX12_bringBack_6 ?_
  refine lv_iconst C.1 C.2.1 (v := 0) dX12_bringBack_9 rfl ?_
  refine lv_bipush C.1 C.2.1 (v := 50) dX12_bringBack_10 rfl ?_
  refine z_copyi C hP hS hl (k11_3 hb) (l11_3 hb) (m11_3 hb hL) (k11_2 hb) (l11_2 hb) (m11_2 hb hL) q1376 q409 q408 q115 (by decide) (by decide) (by decide) (Nat.le_of_ble_eq_true rfl) (Nat.le_of_ble_eq_true rfl) (Nat.le_of_ble_eq_true rfl) (Nat.le_of_ble_eq_true rfl) dX12_bringBack_12 (fun H locs hP hS => ?_)
  obtain ⟨st1, est1⟩ : ∃ z, z = sI st (b + 2) (va_cpy (st.1 (b + 3)) (st.1 (b + 2)) (0 : Int32).toNatClampNeg (0 : Int32).toNatClampNeg (50 : Int32).toNatClampNeg) := ⟨_, rfl⟩
  rw [← est1] at hP; have h := h st1 est1
  exact z_rv C hr hlk hP hS h dX12_bringBack_15
def rmX12_isWeak : Room := { frames := 0, cells := 0, slots := 0, locals := 0 }
def wX12_isWeak (b : Nat) (st : St) (Q : Int32 → St → Prop) : Prop :=
  (vp_in 2 50 ∧ ((¬ ((gI st (b + 2) (2 : Int32).toNatClampNeg) - (gI st (b + 2) (2 : Int32).toNatClampNeg) / 3 * 3) = 2 → Q 0 st) ∧ (((gI st (b + 2) (2 : Int32).toNatClampNeg) - (gI st (b + 2) (2 : Int32).toNatClampNeg) / 3 * 3) = 2 → Q 1 st)))
theorem hdX12_isWeak : yX12_isWeak.cls = "PlankBridgeModel" ∧ yX12_isWeak.cls ≠ "java/lang/invoke/MethodHandle" ∧ yX12_isWeak.cls ≠ "java/lang/invoke/VarHandle" ∧ (parseMethodDescriptor yX12_isWeak.desc).map (fun d => d.parameters.length) = some 0 := by decide +kernel
set_option maxHeartbeats 4000000 in
set_option maxRecDepth 100000 in
theorem tX12_isWeak {l : Launch} {E : En0} {L : List Nat} (hE : EK E L) (hL : Cov 54 67 L) {b : Nat} {st : St} {Q : Int32 → St → Prop} (hb : kd b = 11) (h : wX12_isWeak b st Q) : Mz l yX12_isWeak cX12_isWeak 1 (some .boolean) rmX12_isWeak E L [.ref (E.2.1 b)] st (zI E L (fun r u => bz r ∧ Q r u)) := by
  refine Mz.of hE (by decide) (Nat.le_of_ble_eq_true rfl) ?_
  intro p e s m below meth c ls C hr hlk _ hl hP
  replace C : Cx E L "PlankBridgeModel" cX12_isWeak 1 p s m _ c := C
  have hS : va_S (fA E L s.heap.size) s.heap s.heap [] := va_S.rf
  replace hl : lv_has ls 1 [(0, .ref (E.2.1 b))] := hl
  unfold wX12_isWeak at h
  refine lv_aload_n C.1 C.2.1 dX12_isWeak_0 rfl (lv_at hl 0 rfl) ?_
  refine gf11_5 C hP hb (m11 hb hL) q1384 dX12_isWeak_1 ?_
  refine lv_iconst C.1 C.2.1 (v := 2) dX12_isWeak_4 rfl ?_
  obtain ⟨hi, h⟩ := h
  refine z_iald C hP (k11_2 hb) (l11_2 hb) (m11_2 hb hL) hi dX12_isWeak_5 ?_
  refine lv_iconst C.1 C.2.1 (v := 3) dX12_isWeak_6 rfl ?_
  refine lv_irem C.1 C.2.1 dX12_isWeak_7  (by decide) ?_
  refine lv_iconst C.1 C.2.1 (v := 2) dX12_isWeak_8 rfl ?_
  refine lv_icmp_ne C.1 C.2.1 (tgt := 16) dX12_isWeak_9 (by decide) (fun hc => ?_) (fun hc => ?_)
  · have h := h.1 hc
    refine lv_iconst C.1 C.2.1 (v := 0) dX12_isWeak_16 rfl ?_
    exact z_ri C hr hlk (bz_n bz0) hP hS ⟨bz0, h⟩ dX12_isWeak_17
  · have h := h.2 hc
    refine lv_iconst C.1 C.2.1 (v := 1) dX12_isWeak_12 rfl ?_
    refine lv_goto C.1 C.2.1 (tgt := 17) dX12_isWeak_13 (by decide) ?_
    exact z_ri C hr hlk (bz_n bz1) hP hS ⟨bz1, h⟩ dX12_isWeak_17
def rmX12_bear : Room := { frames := 1, cells := 0, slots := 0, locals := 21 }
def wX12_bear (b : Nat) (p1 : Int32) (st : St) (Q : Int32 → St → Prop) : Prop :=
  (wX12_isWeak b st (fun r2 st1 => ((r2 = 0 → (vp_in ((16 : Int32) + p1) 50 ∧ Q (gI st1 (b + 2) ((16 : Int32) + p1 : Int32).toNatClampNeg) st1)) ∧ (¬ r2 = 0 → (vp_in ((16 : Int32) + p1) 50 ∧ Q (if 0 < ((gI st1 (b + 2) ((16 : Int32) + p1 : Int32).toNatClampNeg) - 3) then ((gI st1 (b + 2) ((16 : Int32) + p1 : Int32).toNatClampNeg) - 3) else 0) st1)))))
theorem hdX12_bear : yX12_bear.cls = "PlankBridgeModel" ∧ yX12_bear.cls ≠ "java/lang/invoke/MethodHandle" ∧ yX12_bear.cls ≠ "java/lang/invoke/VarHandle" ∧ (parseMethodDescriptor yX12_bear.desc).map (fun d => d.parameters.length) = some 1 := by decide +kernel
set_option maxHeartbeats 4000000 in
set_option maxRecDepth 100000 in
theorem tX12_bear {l : Launch} {E : En0} {L : List Nat} (hE : EK E L) (hL : Cov 54 67 L) {b : Nat} {p1 : Int32} {st : St} {Q : Int32 → St → Prop} (hb : kd b = 11) (h : wX12_bear b p1 st Q) : Mz l yX12_bear cX12_bear 2 (some .int) rmX12_bear E L [.ref (E.2.1 b), .int p1] st (zI E L Q) := by
  refine Mz.of hE (by decide) (Nat.le_of_ble_eq_true rfl) ?_
  intro p e s m below meth c ls C hr hlk _ hl hP
  replace C : Cx E L "PlankBridgeModel" cX12_bear 2 p s m _ c := C
  have hS : va_S (fA E L s.heap.size) s.heap s.heap [] := va_S.rf
  replace hl : lv_has ls 2 [(0, .ref (E.2.1 b)), (1, .int p1)] := hl
  unfold wX12_bear at h
  refine lv_aload_n C.1 C.2.1 dX12_bear_0 rfl (lv_at hl 0 rfl) ?_
  refine z_ki hS (z_runV (As := []) (rest := []) C hP hS (m11 hb hL) (e11 hb) rfl (tX12_isWeak C.2.2.2.2.2.2.1 (hL.mo (Nat.le_of_ble_eq_true rfl) (Nat.le_of_ble_eq_true rfl)) hb h) q1712 q1714 q71 q116 q1715 hdX12_isWeak ⟨Nat.le_of_ble_eq_true rfl, Nat.le_of_ble_eq_true rfl⟩ ⟨Nat.zero_le _, Nat.zero_le _⟩ rfl hl.1 rfl (lv_room (Nat.le_of_ble_eq_true rfl)) dX12_bear_1) (fun r2 st1 H locs h hP hS => ?_)
  obtain ⟨hr2, h⟩ := h
  refine lv_if_eq C.1 C.2.1 (tgt := 25) dX12_bear_4 (by decide) (fun hc => ?_) (fun hc => ?_)
  · have h := h.1 hc
    refine lv_aload_n C.1 C.2.1 dX12_bear_25 rfl (lv_at hl 0 rfl) ?_
    refine gf11_5 C hP hb (m11 hb hL) q1384 dX12_bear_26 ?_
    refine lv_bipush C.1 C.2.1 (v := 16) dX12_bear_29 rfl ?_
    refine lv_iload_n C.1 C.2.1 dX12_bear_31 rfl (lv_at hl 1 rfl) ?_
    refine lv_iadd C.1 C.2.1 dX12_bear_32  ?_
    obtain ⟨hi, h⟩ := h
    refine z_iald C hP (k11_2 hb) (l11_2 hb) (m11_2 hb hL) hi dX12_bear_33 ?_
    exact z_ri C hr hlk rfl hP hS h dX12_bear_34
  · have h := h.2 hc
    refine lv_iconst C.1 C.2.1 (v := 0) dX12_bear_7 rfl ?_
    refine lv_aload_n C.1 C.2.1 dX12_bear_8 rfl (lv_at hl 0 rfl) ?_
    refine gf11_5 C hP hb (m11 hb hL) q1384 dX12_bear_9 ?_
    refine lv_bipush C.1 C.2.1 (v := 16) dX12_bear_12 rfl ?_
    refine lv_iload_n C.1 C.2.1 dX12_bear_14 rfl (lv_at hl 1 rfl) ?_
    refine lv_iadd C.1 C.2.1 dX12_bear_15  ?_
    obtain ⟨hi, h⟩ := h
    refine z_iald C hP (k11_2 hb) (l11_2 hb) (m11_2 hb hL) hi dX12_bear_16 ?_
    refine lv_iconst C.1 C.2.1 (v := 3) dX12_bear_17 rfl ?_
    refine lv_isub C.1 C.2.1 dX12_bear_18  ?_
    refine va_mmax (rest := []) C.1 C.2.1 (C.2.2.1.trans hl.1.symm) C.2.2.2.1 (C.T q1716) (C.T q1622) (C.T q129) (C.T q1623) (Nat.le_of_ble_eq_true rfl) (Nat.le_of_ble_eq_true rfl) (Nat.zero_le _) (Nat.zero_le _) dX12_bear_19 ?_
    refine lv_goto C.1 C.2.1 (tgt := 34) dX12_bear_22 (by decide) ?_
    exact z_ri C hr hlk rfl hP hS h dX12_bear_34
def rmX12_missing : Room := { frames := 0, cells := 0, slots := 0, locals := 0 }
def wX12_missing_L33 (b : Nat) (R4 : Int32 × Int32 × St → Prop) (v2 : Int32) (s0 : Int32) (s1 : Int32) (st : St) (Q : Int32 → St → Prop) : Prop :=
  (∀ x1 : Int32, x1 = (s1 + s0) → (∀ x2 : Int32, x2 = v2 + 1 → R4 (x1, x2, st)))
def wX12_missing_L4 (b : Nat)  (R4 : Int32 × Int32 × St → Prop) (v1 : Int32) (v2 : Int32) (st : St) (Q : Int32 → St → Prop) : Prop :=
  (((gI st 60 1) ≤ v2 → Q v1 st) ∧ (¬ (gI st 60 1) ≤ v2 → (vp_in ((16 : Int32) + v2) 50 ∧ ((¬ (gI st (b + 2) ((16 : Int32) + v2 : Int32).toNatClampNeg) = 0 → wX12_missing_L33 b R4 v2 0 v1 st Q) ∧ ((gI st (b + 2) ((16 : Int32) + v2 : Int32).toNatClampNeg) = 0 → wX12_missing_L33 b R4 v2 1 v1 st Q)))))
def wX12_missing (b : Nat) (st : St) (Q : Int32 → St → Prop) : Prop :=
  (∃ n, lp (fun R s => wX12_missing_L4 b R s.1 s.2.1 s.2.2 Q) n (0, 0, st))
theorem hdX12_missing : yX12_missing.cls = "PlankBridgeModel" ∧ yX12_missing.cls ≠ "java/lang/invoke/MethodHandle" ∧ yX12_missing.cls ≠ "java/lang/invoke/VarHandle" ∧ (parseMethodDescriptor yX12_missing.desc).map (fun d => d.parameters.length) = some 0 := by decide +kernel
set_option maxHeartbeats 4000000 in
set_option maxRecDepth 100000 in
theorem tX12_missing_L33 {l : Launch} {p : Program} {e : Env} {s : State} {m : MethodId} {args : Array Value} {below : List Frame} {meth : Method} {c : Code} {E : En0} {L : List Nat} (hL : Cov 54 67 L) (C : Cx E L "PlankBridgeModel" cX12_missing 3 p s m args c) (hr : meth.sig.returnType = (some .int)) (hlk : meth.locks = false) {b : Nat} {Q : Int32 → St → Prop} (hb : kd b = 11) {R4 : Int32 × Int32 × St → Prop} (hR4 : ∀ (v1 : Int32) (v2 : Int32) (st : St), ∀ (H : Heap) (locs : List Loc) (ls : Array Slot), R4 (v1, v2, st) → lv_has ls 3 [(0, .ref (E.2.1 b)), (1, .int v1), (2, .int v2)] → va_P E.1 vwCl (wd E L st) H → va_S (fA E L s.heap.size) s.heap H locs → W p l e rmX12_missing s m args below meth c H locs 0 0 (MQ below (zI E L Q (fA E L s.heap.size)) args s rmX12_missing.cells rmX12_missing.slots (fA E L s.heap.size)) (F0 m 4 ls [])) {v2 : Int32} {s0 : Int32} {s1 : Int32}  {st : St} (H : Heap) (locs : List Loc) (ls : Array Slot) (h : wX12_missing_L33 b R4 v2 s0 s1 st Q) (hl : lv_has ls 3 [(0, .ref (E.2.1 b)), (2, .int v2)]) (hP : va_P E.1 vwCl (wd E L st) H) (hS : va_S (fA E L s.heap.size) s.heap H locs) : W p l e rmX12_missing s m args below meth c H locs 0 0 (MQ below (zI E L Q (fA E L s.heap.size)) args s rmX12_missing.cells rmX12_missing.slots (fA E L s.heap.size)) (F0 m 33 ls [.int s0, .int s1]) := by
  unfold wX12_missing_L33 at h
  refine lv_iadd C.1 C.2.1 dX12_missing_33  ?_
  refine lv_topi (fun x1 ex1 => ?_)
  have h := h x1 ex1
  refine lv_istore_n C.1 C.2.1 dX12_missing_34 rfl hl (Nat.le_of_ble_eq_true rfl) rfl (fun ls hl => ?_)
  have hl : lv_has ls 3 [(1, .int x1), (0, .ref (E.2.1 b)), (2, .int v2)] := hl
  obtain ⟨x2, ex2⟩ : ∃ z, z = v2 + 1 := ⟨_, rfl⟩
  have h := h x2 ex2
  refine lv_iinc C.1 C.2.1 dX12_missing_35 hl (k := 2) rfl ex2.symm (Nat.le_of_ble_eq_true rfl) rfl (fun ls hl => ?_)
  have hl : lv_has ls 3 [(2, .int x2), (1, .int x1), (0, .ref (E.2.1 b))] := hl
  refine lv_goto C.1 C.2.1 (tgt := 4) dX12_missing_38 (by decide) ?_
  exact hR4 x1 x2 st _ _ _ h (lv_sub hl [2, 1, 0] rfl) hP hS
set_option maxHeartbeats 4000000 in
set_option maxRecDepth 100000 in
theorem tX12_missing_L4 {l : Launch} {p : Program} {e : Env} {s : State} {m : MethodId} {args : Array Value} {below : List Frame} {meth : Method} {c : Code} {E : En0} {L : List Nat} (hL : Cov 54 67 L) (C : Cx E L "PlankBridgeModel" cX12_missing 3 p s m args c) (hr : meth.sig.returnType = (some .int)) (hlk : meth.locks = false) {b : Nat} {Q : Int32 → St → Prop} (hb : kd b = 11) : ∀ (n : Nat) (v1 : Int32) (v2 : Int32) (st : St) (H : Heap) (locs : List Loc) (ls : Array Slot), lp (fun R s => wX12_missing_L4 b R s.1 s.2.1 s.2.2 Q) n (v1, v2, st) → lv_has ls 3 [(0, .ref (E.2.1 b)), (1, .int v1), (2, .int v2)] → va_P E.1 vwCl (wd E L st) H → va_S (fA E L s.heap.size) s.heap H locs → W p l e rmX12_missing s m args below meth c H locs 0 0 (MQ below (zI E L Q (fA E L s.heap.size)) args s rmX12_missing.cells rmX12_missing.slots (fA E L s.heap.size)) (F0 m 4 ls []) := by
  intro n
  induction n with
  | zero => exact fun _ _ _ _ _ _ h _ _ _ => False.elim ‹_›
  | succ n ih =>
    intro v1 v2 st  H locs ls h hl hP hS
    have hR4 := ih
    replace h : wX12_missing_L4 b (lp (fun R s => wX12_missing_L4 b R s.1 s.2.1 s.2.2 Q) n) v1 v2 st Q := h
    unfold wX12_missing_L4 at h
    refine lv_iload_n C.1 C.2.1 dX12_missing_4 rfl (lv_at hl 2 rfl) ?_
    refine lv_aload_n C.1 C.2.1 dX12_missing_5 rfl (lv_at hl 0 rfl) ?_
    refine gf11_4 C hP hb (m11 hb hL) q1383 dX12_missing_6 ?_
    refine gf9_1 C hP (show kd 60 = 9 from rfl) (hL 60 (Nat.le_of_ble_eq_true rfl) (Nat.le_of_ble_eq_true rfl)) q1321 dX12_missing_9 ?_
    refine lv_icmp_ge C.1 C.2.1 (tgt := 41) dX12_missing_12 (by decide) (fun hc => ?_) (fun hc => ?_)
    · have h := h.1 hc
      refine lv_iload_n C.1 C.2.1 dX12_missing_41 rfl (lv_at hl 1 rfl) ?_
      exact z_ri C hr hlk rfl hP hS h dX12_missing_42
    · have h := h.2 hc
      refine lv_iload_n C.1 C.2.1 dX12_missing_15 rfl (lv_at hl 1 rfl) ?_
      refine lv_aload_n C.1 C.2.1 dX12_missing_16 rfl (lv_at hl 0 rfl) ?_
      refine gf11_5 C hP hb (m11 hb hL) q1384 dX12_missing_17 ?_
      refine lv_bipush C.1 C.2.1 (v := 16) dX12_missing_20 rfl ?_
      refine lv_iload_n C.1 C.2.1 dX12_missing_22 rfl (lv_at hl 2 rfl) ?_
      refine lv_iadd C.1 C.2.1 dX12_missing_23  ?_
      obtain ⟨hi, h⟩ := h
      refine z_iald C hP (k11_2 hb) (l11_2 hb) (m11_2 hb hL) hi dX12_missing_24 ?_
      refine lv_if_ne C.1 C.2.1 (tgt := 32) dX12_missing_25 (by decide) (fun hc => ?_) (fun hc => ?_)
      · have h := h.1 hc
        refine lv_iconst C.1 C.2.1 (v := 0) dX12_missing_32 rfl ?_
        exact tX12_missing_L33 hL C hr hlk hb hR4 _ _ _ h (lv_sub hl [0, 2] rfl) hP hS
      · have h := h.2 hc
        refine lv_iconst C.1 C.2.1 (v := 1) dX12_missing_28 rfl ?_
        refine lv_goto C.1 C.2.1 (tgt := 33) dX12_missing_29 (by decide) ?_
        exact tX12_missing_L33 hL C hr hlk hb hR4 _ _ _ h (lv_sub hl [0, 2] rfl) hP hS
set_option maxHeartbeats 4000000 in
set_option maxRecDepth 100000 in
theorem tX12_missing {l : Launch} {E : En0} {L : List Nat} (hE : EK E L) (hL : Cov 54 67 L) {b : Nat} {st : St} {Q : Int32 → St → Prop} (hb : kd b = 11) (h : wX12_missing b st Q) : Mz l yX12_missing cX12_missing 3 (some .int) rmX12_missing E L [.ref (E.2.1 b)] st (zI E L Q) := by
  refine Mz.of hE (by decide) (Nat.le_of_ble_eq_true rfl) ?_
  intro p e s m below meth c ls C hr hlk _ hl hP
  replace C : Cx E L "PlankBridgeModel" cX12_missing 3 p s m _ c := C
  have hS : va_S (fA E L s.heap.size) s.heap s.heap [] := va_S.rf
  replace hl : lv_has ls 3 [(0, .ref (E.2.1 b))] := hl
  unfold wX12_missing at h
  refine lv_iconst C.1 C.2.1 (v := 0) dX12_missing_0 rfl ?_
  refine lv_istore_n C.1 C.2.1 dX12_missing_1 rfl hl (Nat.le_of_ble_eq_true rfl) rfl (fun ls hl => ?_)
  have hl : lv_has ls 3 [(1, .int 0), (0, .ref (E.2.1 b))] := hl
  refine lv_iconst C.1 C.2.1 (v := 0) dX12_missing_2 rfl ?_
  refine lv_istore_n C.1 C.2.1 dX12_missing_3 rfl hl (Nat.le_of_ble_eq_true rfl) rfl (fun ls hl => ?_)
  have hl : lv_has ls 3 [(2, .int 0), (1, .int 0), (0, .ref (E.2.1 b))] := hl
  obtain ⟨n, h⟩ := h
  exact tX12_missing_L4 hL C hr hlk hb n 0 0 st _ _ _ h (lv_sub hl [2, 1, 0] rfl) hP hS
def rmX12_canPass : Room := { frames := 0, cells := 0, slots := 0, locals := 0 }
def wX12_canPass_L41 (b : Nat) (R2 : Int32 × St → Prop) (v1 : Int32) (st : St) (Q : Int32 → St → Prop) : Prop :=
  (∀ x1 : Int32, x1 = v1 + 1 → R2 (x1, st))
def wX12_canPass_L2 (b : Nat)  (R2 : Int32 × St → Prop) (v1 : Int32) (st : St) (Q : Int32 → St → Prop) : Prop :=
  (((gI st 60 1) ≤ v1 → Q 1 st) ∧ (¬ (gI st 60 1) ≤ v1 → (vp_in ((16 : Int32) + v1) 50 ∧ ((¬ (gI st (b + 2) ((16 : Int32) + v1 : Int32).toNatClampNeg) = 0 → wX12_canPass_L41 b R2 v1 st Q) ∧ ((gI st (b + 2) ((16 : Int32) + v1 : Int32).toNatClampNeg) = 0 → (vp_in (((16 : Int32) + v1) - 1) 50 ∧ ((¬ (gI st (b + 2) (((16 : Int32) + v1) - 1 : Int32).toNatClampNeg) = 0 → wX12_canPass_L41 b R2 v1 st Q) ∧ ((gI st (b + 2) (((16 : Int32) + v1) - 1 : Int32).toNatClampNeg) = 0 → Q 0 st))))))))
def wX12_canPass (b : Nat) (st : St) (Q : Int32 → St → Prop) : Prop :=
  (∃ n, lp (fun R s => wX12_canPass_L2 b R s.1 s.2 Q) n (1, st))
theorem hdX12_canPass : yX12_canPass.cls = "PlankBridgeModel" ∧ yX12_canPass.cls ≠ "java/lang/invoke/MethodHandle" ∧ yX12_canPass.cls ≠ "java/lang/invoke/VarHandle" ∧ (parseMethodDescriptor yX12_canPass.desc).map (fun d => d.parameters.length) = some 0 := by decide +kernel
set_option maxHeartbeats 4000000 in
set_option maxRecDepth 100000 in
theorem tX12_canPass_L41 {l : Launch} {p : Program} {e : Env} {s : State} {m : MethodId} {args : Array Value} {below : List Frame} {meth : Method} {c : Code} {E : En0} {L : List Nat} (hL : Cov 54 67 L) (C : Cx E L "PlankBridgeModel" cX12_canPass 2 p s m args c) (hr : meth.sig.returnType = (some .boolean)) (hlk : meth.locks = false) {b : Nat} {Q : Int32 → St → Prop} (hb : kd b = 11) {R2 : Int32 × St → Prop} (hR2 : ∀ (v1 : Int32) (st : St), ∀ (H : Heap) (locs : List Loc) (ls : Array Slot), R2 (v1, st) → lv_has ls 2 [(0, .ref (E.2.1 b)), (1, .int v1)] → va_P E.1 vwCl (wd E L st) H → va_S (fA E L s.heap.size) s.heap H locs → W p l e rmX12_canPass s m args below meth c H locs 0 0 (MQ below (zI E L (fun r u => bz r ∧ Q r u) (fA E L s.heap.size)) args s rmX12_canPass.cells rmX12_canPass.slots (fA E L s.heap.size)) (F0 m 2 ls [])) {v1 : Int32}  {st : St} (H : Heap) (locs : List Loc) (ls : Array Slot) (h : wX12_canPass_L41 b R2 v1 st Q) (hl : lv_has ls 2 [(0, .ref (E.2.1 b)), (1, .int v1)]) (hP : va_P E.1 vwCl (wd E L st) H) (hS : va_S (fA E L s.heap.size) s.heap H locs) : W p l e rmX12_canPass s m args below meth c H locs 0 0 (MQ below (zI E L (fun r u => bz r ∧ Q r u) (fA E L s.heap.size)) args s rmX12_canPass.cells rmX12_canPass.slots (fA E L s.heap.size)) (F0 m 41 ls []) := by
  unfold wX12_canPass_L41 at h
  obtain ⟨x1, ex1⟩ : ∃ z, z = v1 + 1 := ⟨_, rfl⟩
  have h := h x1 ex1
  refine lv_iinc C.1 C.2.1 dX12_canPass_41 hl (k := 1) rfl ex1.symm (Nat.le_of_ble_eq_true rfl) rfl (fun ls hl => ?_)
  have hl : lv_has ls 2 [(1, .int x1), (0, .ref (E.2.1 b))] := hl
  refine lv_goto C.1 C.2.1 (tgt := 2) dX12_canPass_44 (by decide) ?_
  exact hR2 x1 st _ _ _ h (lv_sub hl [1, 0] rfl) hP hS
set_option maxHeartbeats 4000000 in
set_option maxRecDepth 100000 in
theorem tX12_canPass_L2 {l : Launch} {p : Program} {e : Env} {s : State} {m : MethodId} {args : Array Value} {below : List Frame} {meth : Method} {c : Code} {E : En0} {L : List Nat} (hL : Cov 54 67 L) (C : Cx E L "PlankBridgeModel" cX12_canPass 2 p s m args c) (hr : meth.sig.returnType = (some .boolean)) (hlk : meth.locks = false) {b : Nat} {Q : Int32 → St → Prop} (hb : kd b = 11) : ∀ (n : Nat) (v1 : Int32) (st : St) (H : Heap) (locs : List Loc) (ls : Array Slot), lp (fun R s => wX12_canPass_L2 b R s.1 s.2 Q) n (v1, st) → lv_has ls 2 [(0, .ref (E.2.1 b)), (1, .int v1)] → va_P E.1 vwCl (wd E L st) H → va_S (fA E L s.heap.size) s.heap H locs → W p l e rmX12_canPass s m args below meth c H locs 0 0 (MQ below (zI E L (fun r u => bz r ∧ Q r u) (fA E L s.heap.size)) args s rmX12_canPass.cells rmX12_canPass.slots (fA E L s.heap.size)) (F0 m 2 ls []) := by
  intro n
  induction n with
  | zero => exact fun _ _ _ _ _ h _ _ _ => False.elim ‹_›
  | succ n ih =>
    intro v1 st  H locs ls h hl hP hS
    have hR2 := ih
    replace h : wX12_canPass_L2 b (lp (fun R s => wX12_canPass_L2 b R s.1 s.2 Q) n) v1 st Q := h
    unfold wX12_canPass_L2 at h
    refine lv_iload_n C.1 C.2.1 dX12_canPass_2 rfl (lv_at hl 1 rfl) ?_
    refine lv_aload_n C.1 C.2.1 dX12_canPass_3 rfl (lv_at hl 0 rfl) ?_
    refine gf11_4 C hP hb (m11 hb hL) q1383 dX12_canPass_4 ?_
    refine gf9_1 C hP (show kd 60 = 9 from rfl) (hL 60 (Nat.le_of_ble_eq_true rfl) (Nat.le_of_ble_eq_true rfl)) q1321 dX12_canPass_7 ?_
    refine lv_icmp_ge C.1 C.2.1 (tgt := 47) dX12_canPass_10 (by decide) (fun hc => ?_) (fun hc => ?_)
    · have h := h.1 hc
      refine lv_iconst C.1 C.2.1 (v := 1) dX12_canPass_47 rfl ?_
      exact z_ri C hr hlk (bz_n bz1) hP hS ⟨bz1, h⟩ dX12_canPass_48
    · have h := h.2 hc
      refine lv_aload_n C.1 C.2.1 dX12_canPass_13 rfl (lv_at hl 0 rfl) ?_
      refine gf11_5 C hP hb (m11 hb hL) q1384 dX12_canPass_14 ?_
      refine lv_bipush C.1 C.2.1 (v := 16) dX12_canPass_17 rfl ?_
      refine lv_iload_n C.1 C.2.1 dX12_canPass_19 rfl (lv_at hl 1 rfl) ?_
      refine lv_iadd C.1 C.2.1 dX12_canPass_20  ?_
      obtain ⟨hi, h⟩ := h
      refine z_iald C hP (k11_2 hb) (l11_2 hb) (m11_2 hb hL) hi dX12_canPass_21 ?_
      refine lv_if_ne C.1 C.2.1 (tgt := 41) dX12_canPass_22 (by decide) (fun hc => ?_) (fun hc => ?_)
      · have h := h.1 hc
        exact tX12_canPass_L41 hL C hr hlk hb hR2 _ _ _ h hl hP hS
      · have h := h.2 hc
        refine lv_aload_n C.1 C.2.1 dX12_canPass_25 rfl (lv_at hl 0 rfl) ?_
        refine gf11_5 C hP hb (m11 hb hL) q1384 dX12_canPass_26 ?_
        refine lv_bipush C.1 C.2.1 (v := 16) dX12_canPass_29 rfl ?_
        refine lv_iload_n C.1 C.2.1 dX12_canPass_31 rfl (lv_at hl 1 rfl) ?_
        refine lv_iadd C.1 C.2.1 dX12_canPass_32  ?_
        refine lv_iconst C.1 C.2.1 (v := 1) dX12_canPass_33 rfl ?_
        refine lv_isub C.1 C.2.1 dX12_canPass_34  ?_
        obtain ⟨hi, h⟩ := h
        refine z_iald C hP (k11_2 hb) (l11_2 hb) (m11_2 hb hL) hi dX12_canPass_35 ?_
        refine lv_if_ne C.1 C.2.1 (tgt := 41) dX12_canPass_36 (by decide) (fun hc => ?_) (fun hc => ?_)
        · have h := h.1 hc
          exact tX12_canPass_L41 hL C hr hlk hb hR2 _ _ _ h hl hP hS
        · have h := h.2 hc
          refine lv_iconst C.1 C.2.1 (v := 0) dX12_canPass_39 rfl ?_
          exact z_ri C hr hlk (bz_n bz0) hP hS ⟨bz0, h⟩ dX12_canPass_40
set_option maxHeartbeats 4000000 in
set_option maxRecDepth 100000 in
theorem tX12_canPass {l : Launch} {E : En0} {L : List Nat} (hE : EK E L) (hL : Cov 54 67 L) {b : Nat} {st : St} {Q : Int32 → St → Prop} (hb : kd b = 11) (h : wX12_canPass b st Q) : Mz l yX12_canPass cX12_canPass 2 (some .boolean) rmX12_canPass E L [.ref (E.2.1 b)] st (zI E L (fun r u => bz r ∧ Q r u)) := by
  refine Mz.of hE (by decide) (Nat.le_of_ble_eq_true rfl) ?_
  intro p e s m below meth c ls C hr hlk _ hl hP
  replace C : Cx E L "PlankBridgeModel" cX12_canPass 2 p s m _ c := C
  have hS : va_S (fA E L s.heap.size) s.heap s.heap [] := va_S.rf
  replace hl : lv_has ls 2 [(0, .ref (E.2.1 b))] := hl
  unfold wX12_canPass at h
  refine lv_iconst C.1 C.2.1 (v := 1) dX12_canPass_0 rfl ?_
  refine lv_istore_n C.1 C.2.1 dX12_canPass_1 rfl hl (Nat.le_of_ble_eq_true rfl) rfl (fun ls hl => ?_)
  have hl : lv_has ls 2 [(1, .int 1), (0, .ref (E.2.1 b))] := hl
  obtain ⟨n, h⟩ := h
  exact tX12_canPass_L2 hL C hr hlk hb n 1 st _ _ _ h (lv_sub hl [1, 0] rfl) hP hS
def rmX12_weakest : Room := { frames := 0, cells := 0, slots := 0, locals := 0 }
def wX12_weakest_L75 (b : Nat) (p1 : Int32) (R4 : Int32 × Int32 × Int32 × St → Prop) (v1 : Int32) (v2 : Int32) (v3 : Int32) (st : St) (Q : Int32 → St → Prop) : Prop :=
  (∀ x1 : Int32, x1 = v3 + 1 → R4 (v1, v2, x1, st))
def wX12_weakest_L73 (b : Nat) (p1 : Int32) (R4 : Int32 × Int32 × Int32 × St → Prop) (v1 : Int32) (v3 : Int32) (st : St) (Q : Int32 → St → Prop) : Prop :=
  wX12_weakest_L75 b p1 R4 v1 v3 v3 st Q
def wX12_weakest_L47 (b : Nat) (p1 : Int32) (R4 : Int32 × Int32 × Int32 × St → Prop) (v1 : Int32) (v2 : Int32) (v3 : Int32) (st : St) (Q : Int32 → St → Prop) : Prop :=
  ((v2 = (-1) → wX12_weakest_L73 b p1 R4 v1 v3 st Q) ∧ (¬ v2 = (-1) → (vp_in ((16 : Int32) + v3) 50 ∧ (vp_in ((16 : Int32) + v2) 50 ∧ (((gI st (b + 2) ((16 : Int32) + v2 : Int32).toNatClampNeg) ≤ (gI st (b + 2) ((16 : Int32) + v3 : Int32).toNatClampNeg) → wX12_weakest_L75 b p1 R4 v1 v2 v3 st Q) ∧ (¬ (gI st (b + 2) ((16 : Int32) + v2 : Int32).toNatClampNeg) ≤ (gI st (b + 2) ((16 : Int32) + v3 : Int32).toNatClampNeg) → wX12_weakest_L73 b p1 R4 v1 v3 st Q))))))
def wX12_weakest_L4 (b : Nat) (p1 : Int32)  (R4 : Int32 × Int32 × Int32 × St → Prop) (v1 : Int32) (v2 : Int32) (v3 : Int32) (st : St) (Q : Int32 → St → Prop) : Prop :=
  (((gI st 60 1) ≤ v3 → Q v2 st) ∧ (¬ (gI st 60 1) ≤ v3 → (vp_in ((16 : Int32) + v3) 50 ∧ (((gI st (b + 2) ((16 : Int32) + v3 : Int32).toNatClampNeg) = 0 → wX12_weakest_L75 b p1 R4 v1 v2 v3 st Q) ∧ (¬ (gI st (b + 2) ((16 : Int32) + v3 : Int32).toNatClampNeg) = 0 → ((v1 = 0 → wX12_weakest_L47 b p1 R4 v1 v2 v3 st Q) ∧ (¬ v1 = 0 → (vp_in ((28 : Int32) + v3) 50 ∧ ((¬ (gI st (b + 2) ((28 : Int32) + v3 : Int32).toNatClampNeg) = 1 → wX12_weakest_L47 b p1 R4 v1 v2 v3 st Q) ∧ ((gI st (b + 2) ((28 : Int32) + v3 : Int32).toNatClampNeg) = 1 → wX12_weakest_L75 b p1 R4 v1 v2 v3 st Q))))))))))
def wX12_weakest (b : Nat) (p1 : Int32) (st : St) (Q : Int32 → St → Prop) : Prop :=
  (∃ n, lp (fun R s => wX12_weakest_L4 b p1 R s.1 s.2.1 s.2.2.1 s.2.2.2 Q) n (p1, (-1), 0, st))
theorem hdX12_weakest : yX12_weakest.cls = "PlankBridgeModel" ∧ yX12_weakest.cls ≠ "java/lang/invoke/MethodHandle" ∧ yX12_weakest.cls ≠ "java/lang/invoke/VarHandle" ∧ (parseMethodDescriptor yX12_weakest.desc).map (fun d => d.parameters.length) = some 1 := by decide +kernel
set_option maxHeartbeats 4000000 in
set_option maxRecDepth 100000 in
theorem tX12_weakest_L75 {l : Launch} {p : Program} {e : Env} {s : State} {m : MethodId} {args : Array Value} {below : List Frame} {meth : Method} {c : Code} {E : En0} {L : List Nat} (hL : Cov 54 67 L) (C : Cx E L "PlankBridgeModel" cX12_weakest 4 p s m args c) (hr : meth.sig.returnType = (some .int)) (hlk : meth.locks = false) {b : Nat} {p1 : Int32} {Q : Int32 → St → Prop} (hb : kd b = 11) {R4 : Int32 × Int32 × Int32 × St → Prop} (hR4 : ∀ (v1 : Int32) (v2 : Int32) (v3 : Int32) (st : St), ∀ (H : Heap) (locs : List Loc) (ls : Array Slot), R4 (v1, v2, v3, st) → lv_has ls 4 [(0, .ref (E.2.1 b)), (1, .int v1), (2, .int v2), (3, .int v3)] → va_P E.1 vwCl (wd E L st) H → va_S (fA E L s.heap.size) s.heap H locs → W p l e rmX12_weakest s m args below meth c H locs 0 0 (MQ below (zI E L Q (fA E L s.heap.size)) args s rmX12_weakest.cells rmX12_weakest.slots (fA E L s.heap.size)) (F0 m 4 ls [])) {v1 : Int32} {v2 : Int32} {v3 : Int32}  {st : St} (H : Heap) (locs : List Loc) (ls : Array Slot) (h : wX12_weakest_L75 b p1 R4 v1 v2 v3 st Q) (hl : lv_has ls 4 [(0, .ref (E.2.1 b)), (1, .int v1), (2, .int v2), (3, .int v3)]) (hP : va_P E.1 vwCl (wd E L st) H) (hS : va_S (fA E L s.heap.size) s.heap H locs) : W p l e rmX12_weakest s m args below meth c H locs 0 0 (MQ below (zI E L Q (fA E L s.heap.size)) args s rmX12_weakest.cells rmX12_weakest.slots (fA E L s.heap.size)) (F0 m 75 ls []) := by
  unfold wX12_weakest_L75 at h
  obtain ⟨x1, ex1⟩ : ∃ z, z = v3 + 1 := ⟨_, rfl⟩
  have h := h x1 ex1
  refine lv_iinc C.1 C.2.1 dX12_weakest_75 hl (k := 3) rfl ex1.symm (Nat.le_of_ble_eq_true rfl) rfl (fun ls hl => ?_)
  have hl : lv_has ls 4 [(3, .int x1), (0, .ref (E.2.1 b)), (1, .int v1), (2, .int v2)] := hl
  refine lv_goto C.1 C.2.1 (tgt := 4) dX12_weakest_78 (by decide) ?_
  exact hR4 v1 v2 x1 st _ _ _ h (lv_sub hl [1, 2, 3, 0] rfl) hP hS
set_option maxHeartbeats 4000000 in
set_option maxRecDepth 100000 in
theorem tX12_weakest_L73 {l : Launch} {p : Program} {e : Env} {s : State} {m : MethodId} {args : Array Value} {below : List Frame} {meth : Method} {c : Code} {E : En0} {L : List Nat} (hL : Cov 54 67 L) (C : Cx E L "PlankBridgeModel" cX12_weakest 4 p s m args c) (hr : meth.sig.returnType = (some .int)) (hlk : meth.locks = false) {b : Nat} {p1 : Int32} {Q : Int32 → St → Prop} (hb : kd b = 11) {R4 : Int32 × Int32 × Int32 × St → Prop} (hR4 : ∀ (v1 : Int32) (v2 : Int32) (v3 : Int32) (st : St), ∀ (H : Heap) (locs : List Loc) (ls : Array Slot), R4 (v1, v2, v3, st) → lv_has ls 4 [(0, .ref (E.2.1 b)), (1, .int v1), (2, .int v2), (3, .int v3)] → va_P E.1 vwCl (wd E L st) H → va_S (fA E L s.heap.size) s.heap H locs → W p l e rmX12_weakest s m args below meth c H locs 0 0 (MQ below (zI E L Q (fA E L s.heap.size)) args s rmX12_weakest.cells rmX12_weakest.slots (fA E L s.heap.size)) (F0 m 4 ls [])) {v1 : Int32} {v3 : Int32}  {st : St} (H : Heap) (locs : List Loc) (ls : Array Slot) (h : wX12_weakest_L73 b p1 R4 v1 v3 st Q) (hl : lv_has ls 4 [(0, .ref (E.2.1 b)), (1, .int v1), (3, .int v3)]) (hP : va_P E.1 vwCl (wd E L st) H) (hS : va_S (fA E L s.heap.size) s.heap H locs) : W p l e rmX12_weakest s m args below meth c H locs 0 0 (MQ below (zI E L Q (fA E L s.heap.size)) args s rmX12_weakest.cells rmX12_weakest.slots (fA E L s.heap.size)) (F0 m 73 ls []) := by
  unfold wX12_weakest_L73 at h
  refine lv_iload_n C.1 C.2.1 dX12_weakest_73 rfl (lv_at hl 2 rfl) ?_
  refine lv_istore_n C.1 C.2.1 dX12_weakest_74 rfl hl (Nat.le_of_ble_eq_true rfl) rfl (fun ls hl => ?_)
  have hl : lv_has ls 4 [(2, .int v3), (0, .ref (E.2.1 b)), (1, .int v1), (3, .int v3)] := hl
  exact tX12_weakest_L75 hL C hr hlk hb hR4 _ _ _ h (lv_sub hl [1, 2, 0, 3] rfl) hP hS
set_option maxHeartbeats 4000000 in
set_option maxRecDepth 100000 in
theorem tX12_weakest_L47 {l : Launch} {p : Program} {e : Env} {s : State} {m : MethodId} {args : Array Value} {below : List Frame} {meth : Method} {c : Code} {E : En0} {L : List Nat} (hL : Cov 54 67 L) (C : Cx E L "PlankBridgeModel" cX12_weakest 4 p s m args c) (hr : meth.sig.returnType = (some .int)) (hlk : meth.locks = false) {b : Nat} {p1 : Int32} {Q : Int32 → St → Prop} (hb : kd b = 11) {R4 : Int32 × Int32 × Int32 × St → Prop} (hR4 : ∀ (v1 : Int32) (v2 : Int32) (v3 : Int32) (st : St), ∀ (H : Heap) (locs : List Loc) (ls : Array Slot), R4 (v1, v2, v3, st) → lv_has ls 4 [(0, .ref (E.2.1 b)), (1, .int v1), (2, .int v2), (3, .int v3)] → va_P E.1 vwCl (wd E L st) H → va_S (fA E L s.heap.size) s.heap H locs → W p l e rmX12_weakest s m args below meth c H locs 0 0 (MQ below (zI E L Q (fA E L s.heap.size)) args s rmX12_weakest.cells rmX12_weakest.slots (fA E L s.heap.size)) (F0 m 4 ls [])) {v1 : Int32} {v2 : Int32} {v3 : Int32}  {st : St} (H : Heap) (locs : List Loc) (ls : Array Slot) (h : wX12_weakest_L47 b p1 R4 v1 v2 v3 st Q) (hl : lv_has ls 4 [(0, .ref (E.2.1 b)), (1, .int v1), (2, .int v2), (3, .int v3)]) (hP : va_P E.1 vwCl (wd E L st) H) (hS : va_S (fA E L s.heap.size) s.heap H locs) : W p l e rmX12_weakest s m args below meth c H locs 0 0 (MQ below (zI E L Q (fA E L s.heap.size)) args s rmX12_weakest.cells rmX12_weakest.slots (fA E L s.heap.size)) (F0 m 47 ls []) := by
  unfold wX12_weakest_L47 at h
  refine lv_iload_n C.1 C.2.1 dX12_weakest_47 rfl (lv_at hl 2 rfl) ?_
  refine lv_iconst C.1 C.2.1 (v := (-1)) dX12_weakest_48 rfl ?_
  refine lv_icmp_eq C.1 C.2.1 (tgt := 73) dX12_weakest_49 (by decide) (fun hc => ?_) (fun hc => ?_)
  · have h := h.1 hc
    exact tX12_weakest_L73 hL C hr hlk hb hR4 _ _ _ h (lv_sub hl [0, 1, 3] rfl) hP hS
  · have h := h.2 hc
    refine lv_aload_n C.1 C.2.1 dX12_weakest_52 rfl (lv_at hl 0 rfl) ?_
    refine gf11_5 C hP hb (m11 hb hL) q1384 dX12_weakest_53 ?_
    refine lv_bipush C.1 C.2.1 (v := 16) dX12_weakest_56 rfl ?_
    refine lv_iload_n C.1 C.2.1 dX12_weakest_58 rfl (lv_at hl 3 rfl) ?_
    refine lv_iadd C.1 C.2.1 dX12_weakest_59  ?_
    obtain ⟨hi, h⟩ := h
    refine z_iald C hP (k11_2 hb) (l11_2 hb) (m11_2 hb hL) hi dX12_weakest_60 ?_
    refine lv_aload_n C.1 C.2.1 dX12_weakest_61 rfl (lv_at hl 0 rfl) ?_
    refine gf11_5 C hP hb (m11 hb hL) q1384 dX12_weakest_62 ?_
    refine lv_bipush C.1 C.2.1 (v := 16) dX12_weakest_65 rfl ?_
    refine lv_iload_n C.1 C.2.1 dX12_weakest_67 rfl (lv_at hl 2 rfl) ?_
    refine lv_iadd C.1 C.2.1 dX12_weakest_68  ?_
    obtain ⟨hi, h⟩ := h
    refine z_iald C hP (k11_2 hb) (l11_2 hb) (m11_2 hb hL) hi dX12_weakest_69 ?_
    refine lv_icmp_ge C.1 C.2.1 (tgt := 75) dX12_weakest_70 (by decide) (fun hc => ?_) (fun hc => ?_)
    · have h := h.1 hc
      exact tX12_weakest_L75 hL C hr hlk hb hR4 _ _ _ h hl hP hS
    · have h := h.2 hc
      exact tX12_weakest_L73 hL C hr hlk hb hR4 _ _ _ h (lv_sub hl [0, 1, 3] rfl) hP hS
set_option maxHeartbeats 4000000 in
set_option maxRecDepth 100000 in
theorem tX12_weakest_L4 {l : Launch} {p : Program} {e : Env} {s : State} {m : MethodId} {args : Array Value} {below : List Frame} {meth : Method} {c : Code} {E : En0} {L : List Nat} (hL : Cov 54 67 L) (C : Cx E L "PlankBridgeModel" cX12_weakest 4 p s m args c) (hr : meth.sig.returnType = (some .int)) (hlk : meth.locks = false) {b : Nat} {p1 : Int32} {Q : Int32 → St → Prop} (hb : kd b = 11) : ∀ (n : Nat) (v1 : Int32) (v2 : Int32) (v3 : Int32) (st : St) (H : Heap) (locs : List Loc) (ls : Array Slot), lp (fun R s => wX12_weakest_L4 b p1 R s.1 s.2.1 s.2.2.1 s.2.2.2 Q) n (v1, v2, v3, st) → lv_has ls 4 [(0, .ref (E.2.1 b)), (1, .int v1), (2, .int v2), (3, .int v3)] → va_P E.1 vwCl (wd E L st) H → va_S (fA E L s.heap.size) s.heap H locs → W p l e rmX12_weakest s m args below meth c H locs 0 0 (MQ below (zI E L Q (fA E L s.heap.size)) args s rmX12_weakest.cells rmX12_weakest.slots (fA E L s.heap.size)) (F0 m 4 ls []) := by
  intro n
  induction n with
  | zero => exact fun _ _ _ _ _ _ _ h _ _ _ => False.elim ‹_›
  | succ n ih =>
    intro v1 v2 v3 st  H locs ls h hl hP hS
    have hR4 := ih
    replace h : wX12_weakest_L4 b p1 (lp (fun R s => wX12_weakest_L4 b p1 R s.1 s.2.1 s.2.2.1 s.2.2.2 Q) n) v1 v2 v3 st Q := h
    unfold wX12_weakest_L4 at h
    refine lv_iload_n C.1 C.2.1 dX12_weakest_4 rfl (lv_at hl 3 rfl) ?_
    refine lv_aload_n C.1 C.2.1 dX12_weakest_5 rfl (lv_at hl 0 rfl) ?_
    refine gf11_4 C hP hb (m11 hb hL) q1383 dX12_weakest_6 ?_
    refine gf9_1 C hP (show kd 60 = 9 from rfl) (hL 60 (Nat.le_of_ble_eq_true rfl) (Nat.le_of_ble_eq_true rfl)) q1321 dX12_weakest_9 ?_
    refine lv_icmp_ge C.1 C.2.1 (tgt := 81) dX12_weakest_12 (by decide) (fun hc => ?_) (fun hc => ?_)
    · have h := h.1 hc
      refine lv_iload_n C.1 C.2.1 dX12_weakest_81 rfl (lv_at hl 2 rfl) ?_
      exact z_ri C hr hlk rfl hP hS h dX12_weakest_82
    · have h := h.2 hc
      refine lv_aload_n C.1 C.2.1 dX12_weakest_15 rfl (lv_at hl 0 rfl) ?_
      refine gf11_5 C hP hb (m11 hb hL) q1384 dX12_weakest_16 ?_
      refine lv_bipush C.1 C.2.1 (v := 16) dX12_weakest_19 rfl ?_
      refine lv_iload_n C.1 C.2.1 dX12_weakest_21 rfl (lv_at hl 3 rfl) ?_
      refine lv_iadd C.1 C.2.1 dX12_weakest_22  ?_
      obtain ⟨hi, h⟩ := h
      refine z_iald C hP (k11_2 hb) (l11_2 hb) (m11_2 hb hL) hi dX12_weakest_23 ?_
      refine lv_if_eq C.1 C.2.1 (tgt := 75) dX12_weakest_24 (by decide) (fun hc => ?_) (fun hc => ?_)
      · have h := h.1 hc
        exact tX12_weakest_L75 hL C hr hlk hb hR4 _ _ _ h hl hP hS
      · have h := h.2 hc
        refine lv_iload_n C.1 C.2.1 dX12_weakest_27 rfl (lv_at hl 1 rfl) ?_
        refine lv_if_eq C.1 C.2.1 (tgt := 47) dX12_weakest_28 (by decide) (fun hc => ?_) (fun hc => ?_)
        · have h := h.1 hc
          exact tX12_weakest_L47 hL C hr hlk hb hR4 _ _ _ h hl hP hS
        · have h := h.2 hc
          refine lv_aload_n C.1 C.2.1 dX12_weakest_31 rfl (lv_at hl 0 rfl) ?_
          refine gf11_5 C hP hb (m11 hb hL) q1384 dX12_weakest_32 ?_
          refine lv_bipush C.1 C.2.1 (v := 28) dX12_weakest_35 rfl ?_
          refine lv_iload_n C.1 C.2.1 dX12_weakest_37 rfl (lv_at hl 3 rfl) ?_
          refine lv_iadd C.1 C.2.1 dX12_weakest_38  ?_
          obtain ⟨hi, h⟩ := h
          refine z_iald C hP (k11_2 hb) (l11_2 hb) (m11_2 hb hL) hi dX12_weakest_39 ?_
          refine lv_iconst C.1 C.2.1 (v := 1) dX12_weakest_40 rfl ?_
          refine lv_icmp_ne C.1 C.2.1 (tgt := 47) dX12_weakest_41 (by decide) (fun hc => ?_) (fun hc => ?_)
          · have h := h.1 hc
            exact tX12_weakest_L47 hL C hr hlk hb hR4 _ _ _ h hl hP hS
          · have h := h.2 hc
            refine lv_goto C.1 C.2.1 (tgt := 75) dX12_weakest_44 (by decide) ?_
            exact tX12_weakest_L75 hL C hr hlk hb hR4 _ _ _ h hl hP hS
set_option maxHeartbeats 4000000 in
set_option maxRecDepth 100000 in
theorem tX12_weakest {l : Launch} {E : En0} {L : List Nat} (hE : EK E L) (hL : Cov 54 67 L) {b : Nat} {p1 : Int32} {st : St} {Q : Int32 → St → Prop} (hb : kd b = 11) (h : wX12_weakest b p1 st Q) : Mz l yX12_weakest cX12_weakest 4 (some .int) rmX12_weakest E L [.ref (E.2.1 b), .int p1] st (zI E L Q) := by
  refine Mz.of hE (by decide) (Nat.le_of_ble_eq_true rfl) ?_
  intro p e s m below meth c ls C hr hlk _ hl hP
  replace C : Cx E L "PlankBridgeModel" cX12_weakest 4 p s m _ c := C
  have hS : va_S (fA E L s.heap.size) s.heap s.heap [] := va_S.rf
  replace hl : lv_has ls 4 [(0, .ref (E.2.1 b)), (1, .int p1)] := hl
  unfold wX12_weakest at h
  refine lv_iconst C.1 C.2.1 (v := (-1)) dX12_weakest_0 rfl ?_
  refine lv_istore_n C.1 C.2.1 dX12_weakest_1 rfl hl (Nat.le_of_ble_eq_true rfl) rfl (fun ls hl => ?_)
  have hl : lv_has ls 4 [(2, .int (-1)), (0, .ref (E.2.1 b)), (1, .int p1)] := hl
  refine lv_iconst C.1 C.2.1 (v := 0) dX12_weakest_2 rfl ?_
  refine lv_istore_n C.1 C.2.1 dX12_weakest_3 rfl hl (Nat.le_of_ble_eq_true rfl) rfl (fun ls hl => ?_)
  have hl : lv_has ls 4 [(3, .int 0), (2, .int (-1)), (0, .ref (E.2.1 b)), (1, .int p1)] := hl
  obtain ⟨n, h⟩ := h
  exact tX12_weakest_L4 hL C hr hlk hb n p1 (-1) 0 st _ _ _ h (lv_sub hl [2, 3, 1, 0] rfl) hP hS
def rmX12_nightOn : Room := { frames := 1, cells := 0, slots := 0, locals := 23 }
def wX12_nightOn_L81 (b : Nat) (R20 : Int32 × St → Prop) (v1 : Int32) (st : St) (Q : St → Prop) : Prop :=
  (∀ x10 : Int32, x10 = v1 + 1 → R20 (x10, st))
def wX12_nightOn_L103 (b : Nat)  (s0 : Int32) (st : St) (Q : St → Prop) : Prop :=
  ((s0 = (-1) → Q st) ∧ (¬ s0 = (-1) → (vp_in ((28 : Int32) + s0) 50 ∧ ∀ st9, st9 = uI st (b + 2) ((28 : Int32) + s0 : Int32).toNatClampNeg 1 → Q st9)))
def wX12_nightOn_L20 (b : Nat)  (R20 : Int32 × St → Prop) (v1 : Int32) (st : St) (Q : St → Prop) : Prop :=
  (((gI st 60 1) ≤ v1 → (wX12_isWeak b st (fun r4 st3 => ((r4 = 0 → wX12_nightOn_L103 b (-1) st3 Q) ∧ (¬ r4 = 0 → (wX12_weakest b 1 st3 (fun r6 st5 => wX12_nightOn_L103 b r6 st5 Q))))))) ∧ (¬ (gI st 60 1) ≤ v1 → (vp_in ((28 : Int32) + v1) 50 ∧ ((¬ (gI st (b + 2) ((28 : Int32) + v1 : Int32).toNatClampNeg) = 0 → (vp_in ((16 : Int32) + v1) 50 ∧ (vp_in ((16 : Int32) + v1) 50 ∧ ∀ st7, st7 = uI st (b + 2) ((16 : Int32) + v1 : Int32).toNatClampNeg ((gI st (b + 2) ((16 : Int32) + v1 : Int32).toNatClampNeg) - 1) → (vp_in ((16 : Int32) + v1) 50 ∧ ((¬ (gI st7 (b + 2) ((16 : Int32) + v1 : Int32).toNatClampNeg) = 0 → wX12_nightOn_L81 b R20 v1 st7 Q) ∧ ((gI st7 (b + 2) ((16 : Int32) + v1 : Int32).toNatClampNeg) = 0 → (vp_in ((28 : Int32) + v1) 50 ∧ ∀ st8, st8 = uI st7 (b + 2) ((28 : Int32) + v1 : Int32).toNatClampNeg 0 → wX12_nightOn_L81 b R20 v1 st8 Q))))))) ∧ ((gI st (b + 2) ((28 : Int32) + v1 : Int32).toNatClampNeg) = 0 → wX12_nightOn_L81 b R20 v1 st Q)))))
def wX12_nightOn (b : Nat) (st : St) (Q : St → Prop) : Prop :=
  (vp_in 2 50 ∧ (vp_in 2 50 ∧ ∀ st1, st1 = uI st (b + 2) (2 : Int32).toNatClampNeg ((gI st (b + 2) (2 : Int32).toNatClampNeg) + 1) → (vp_in 1 50 ∧ ∀ st2, st2 = uI st1 (b + 2) (1 : Int32).toNatClampNeg 60 → (∃ n, lp (fun R s => wX12_nightOn_L20 b R s.1 s.2 Q) n (0, st2)))))
theorem hdX12_nightOn : yX12_nightOn.cls = "PlankBridgeModel" ∧ yX12_nightOn.cls ≠ "java/lang/invoke/MethodHandle" ∧ yX12_nightOn.cls ≠ "java/lang/invoke/VarHandle" ∧ (parseMethodDescriptor yX12_nightOn.desc).map (fun d => d.parameters.length) = some 0 := by decide +kernel
set_option maxHeartbeats 4000000 in
set_option maxRecDepth 100000 in
theorem tX12_nightOn_L81 {l : Launch} {p : Program} {e : Env} {s : State} {m : MethodId} {args : Array Value} {below : List Frame} {meth : Method} {c : Code} {E : En0} {L : List Nat} (hL : Cov 54 67 L) (C : Cx E L "PlankBridgeModel" cX12_nightOn 2 p s m args c) (hr : meth.sig.returnType = none) (hlk : meth.locks = false) {b : Nat} {Q : St → Prop} (hb : kd b = 11) {R20 : Int32 × St → Prop} (hR20 : ∀ (v1 : Int32) (st : St), ∀ (H : Heap) (locs : List Loc) (ls : Array Slot), R20 (v1, st) → lv_has ls 2 [(0, .ref (E.2.1 b)), (1, .int v1)] → va_P E.1 vwCl (wd E L st) H → va_S (fA E L s.heap.size) s.heap H locs → W p l e rmX12_nightOn s m args below meth c H locs 0 0 (MQ below (zV E L Q (fA E L s.heap.size)) args s rmX12_nightOn.cells rmX12_nightOn.slots (fA E L s.heap.size)) (F0 m 20 ls [])) {v1 : Int32}  {st : St} (H : Heap) (locs : List Loc) (ls : Array Slot) (h : wX12_nightOn_L81 b R20 v1 st Q) (hl : lv_has ls 2 [(0, .ref (E.2.1 b)), (1, .int v1)]) (hP : va_P E.1 vwCl (wd E L st) H) (hS : va_S (fA E L s.heap.size) s.heap H locs) : W p l e rmX12_nightOn s m args below meth c H locs 0 0 (MQ below (zV E L Q (fA E L s.heap.size)) args s rmX12_nightOn.cells rmX12_nightOn.slots (fA E L s.heap.size)) (F0 m 81 ls []) := by
  unfold wX12_nightOn_L81 at h
  obtain ⟨x10, ex10⟩ : ∃ z, z = v1 + 1 := ⟨_, rfl⟩
  have h := h x10 ex10
  refine lv_iinc C.1 C.2.1 dX12_nightOn_81 hl (k := 1) rfl ex10.symm (Nat.le_of_ble_eq_true rfl) rfl (fun ls hl => ?_)
  have hl : lv_has ls 2 [(1, .int x10), (0, .ref (E.2.1 b))] := hl
  refine lv_goto C.1 C.2.1 (tgt := 20) dX12_nightOn_84 (by decide) ?_
  exact hR20 x10 st _ _ _ h (lv_sub hl [1, 0] rfl) hP hS
set_option maxHeartbeats 4000000 in
set_option maxRecDepth 100000 in
theorem tX12_nightOn_L103 {l : Launch} {p : Program} {e : Env} {s : State} {m : MethodId} {args : Array Value} {below : List Frame} {meth : Method} {c : Code} {E : En0} {L : List Nat} (hL : Cov 54 67 L) (C : Cx E L "PlankBridgeModel" cX12_nightOn 2 p s m args c) (hr : meth.sig.returnType = none) (hlk : meth.locks = false) {b : Nat} {Q : St → Prop} (hb : kd b = 11) {s0 : Int32}  {st : St} (H : Heap) (locs : List Loc) (ls : Array Slot) (h : wX12_nightOn_L103 b s0 st Q) (hl : lv_has ls 2 [(0, .ref (E.2.1 b))]) (hP : va_P E.1 vwCl (wd E L st) H) (hS : va_S (fA E L s.heap.size) s.heap H locs) : W p l e rmX12_nightOn s m args below meth c H locs 0 0 (MQ below (zV E L Q (fA E L s.heap.size)) args s rmX12_nightOn.cells rmX12_nightOn.slots (fA E L s.heap.size)) (F0 m 103 ls [.int s0]) := by
  unfold wX12_nightOn_L103 at h
  refine lv_istore_n C.1 C.2.1 dX12_nightOn_103 rfl hl (Nat.le_of_ble_eq_true rfl) rfl (fun ls hl => ?_)
  have hl : lv_has ls 2 [(1, .int s0), (0, .ref (E.2.1 b))] := hl
  refine lv_iload_n C.1 C.2.1 dX12_nightOn_104 rfl (lv_at hl 0 rfl) ?_
  refine lv_iconst C.1 C.2.1 (v := (-1)) dX12_nightOn_105 rfl ?_
  refine lv_icmp_eq C.1 C.2.1 (tgt := 119) dX12_nightOn_106 (by decide) (fun hc => ?_) (fun hc => ?_)
  · have h := h.1 hc
    exact z_rv C hr hlk hP hS h dX12_nightOn_119
  · have h := h.2 hc
    refine lv_aload_n C.1 C.2.1 dX12_nightOn_109 rfl (lv_at hl 1 rfl) ?_
    refine gf11_5 C hP hb (m11 hb hL) q1384 dX12_nightOn_110 ?_
    refine lv_bipush C.1 C.2.1 (v := 28) dX12_nightOn_113 rfl ?_
    refine lv_iload_n C.1 C.2.1 dX12_nightOn_115 rfl (lv_at hl 0 rfl) ?_
    refine lv_iadd C.1 C.2.1 dX12_nightOn_116  ?_
    refine lv_iconst C.1 C.2.1 (v := 1) dX12_nightOn_117 rfl ?_
    obtain ⟨hi, h⟩ := h
    refine z_iast C hP hS (k11_2 hb) (l11_2 hb) (m11_2 hb hL) hi dX12_nightOn_118 (fun H locs hP hS => ?_)
    obtain ⟨st9, est9⟩ : ∃ z, z = uI st (b + 2) ((28 : Int32) + s0 : Int32).toNatClampNeg 1 := ⟨_, rfl⟩
    rw [← est9] at hP; have h := h st9 est9
    exact z_rv C hr hlk hP hS h dX12_nightOn_119
set_option maxHeartbeats 4000000 in
set_option maxRecDepth 100000 in
theorem tX12_nightOn_L20 {l : Launch} {p : Program} {e : Env} {s : State} {m : MethodId} {args : Array Value} {below : List Frame} {meth : Method} {c : Code} {E : En0} {L : List Nat} (hL : Cov 54 67 L) (C : Cx E L "PlankBridgeModel" cX12_nightOn 2 p s m args c) (hr : meth.sig.returnType = none) (hlk : meth.locks = false) {b : Nat} {Q : St → Prop} (hb : kd b = 11) : ∀ (n : Nat) (v1 : Int32) (st : St) (H : Heap) (locs : List Loc) (ls : Array Slot), lp (fun R s => wX12_nightOn_L20 b R s.1 s.2 Q) n (v1, st) → lv_has ls 2 [(0, .ref (E.2.1 b)), (1, .int v1)] → va_P E.1 vwCl (wd E L st) H → va_S (fA E L s.heap.size) s.heap H locs → W p l e rmX12_nightOn s m args below meth c H locs 0 0 (MQ below (zV E L Q (fA E L s.heap.size)) args s rmX12_nightOn.cells rmX12_nightOn.slots (fA E L s.heap.size)) (F0 m 20 ls []) := by
  intro n
  induction n with
  | zero => exact fun _ _ _ _ _ h _ _ _ => False.elim ‹_›
  | succ n ih =>
    intro v1 st  H locs ls h hl hP hS
    have hR20 := ih
    replace h : wX12_nightOn_L20 b (lp (fun R s => wX12_nightOn_L20 b R s.1 s.2 Q) n) v1 st Q := h
    unfold wX12_nightOn_L20 at h
    refine lv_iload_n C.1 C.2.1 dX12_nightOn_20 rfl (lv_at hl 1 rfl) ?_
    refine lv_aload_n C.1 C.2.1 dX12_nightOn_21 rfl (lv_at hl 0 rfl) ?_
    refine gf11_4 C hP hb (m11 hb hL) q1383 dX12_nightOn_22 ?_
    refine gf9_1 C hP (show kd 60 = 9 from rfl) (hL 60 (Nat.le_of_ble_eq_true rfl) (Nat.le_of_ble_eq_true rfl)) q1321 dX12_nightOn_25 ?_
    refine lv_icmp_ge C.1 C.2.1 (tgt := 87) dX12_nightOn_28 (by decide) (fun hc => ?_) (fun hc => ?_)
    · have h := h.1 hc
      refine lv_aload_n C.1 C.2.1 dX12_nightOn_87 rfl (lv_at hl 0 rfl) ?_
      refine z_ki hS (z_runV (As := []) (rest := []) C hP hS (m11 hb hL) (e11 hb) rfl (tX12_isWeak C.2.2.2.2.2.2.1 (hL.mo (Nat.le_of_ble_eq_true rfl) (Nat.le_of_ble_eq_true rfl)) hb h) q1712 q1714 q71 q116 q1715 hdX12_isWeak ⟨Nat.le_of_ble_eq_true rfl, Nat.le_of_ble_eq_true rfl⟩ ⟨Nat.zero_le _, Nat.zero_le _⟩ rfl hl.1 rfl (lv_room (Nat.le_of_ble_eq_true rfl)) dX12_nightOn_88) (fun r4 st3 H locs h hP hS => ?_)
      obtain ⟨hr4, h⟩ := h
      refine lv_if_eq C.1 C.2.1 (tgt := 102) dX12_nightOn_91 (by decide) (fun hc => ?_) (fun hc => ?_)
      · have h := h.1 hc
        refine lv_iconst C.1 C.2.1 (v := (-1)) dX12_nightOn_102 rfl ?_
        exact tX12_nightOn_L103 hL C hr hlk hb _ _ _ h (lv_sub hl [0] rfl) hP hS
      · have h := h.2 hc
        refine lv_aload_n C.1 C.2.1 dX12_nightOn_94 rfl (lv_at hl 0 rfl) ?_
        refine lv_iconst C.1 C.2.1 (v := 1) dX12_nightOn_95 rfl ?_
        refine z_ki hS (z_runV (As := [.int 1]) (rest := []) C hP hS (m11 hb hL) (e11 hb) rfl (tX12_weakest C.2.2.2.2.2.2.1 (hL.mo (Nat.le_of_ble_eq_true rfl) (Nat.le_of_ble_eq_true rfl)) hb h) q1733 q1735 q73 q116 q1736 hdX12_weakest ⟨Nat.le_of_ble_eq_true rfl, Nat.le_of_ble_eq_true rfl⟩ ⟨Nat.zero_le _, Nat.zero_le _⟩ rfl hl.1 rfl (lv_room (Nat.le_of_ble_eq_true rfl)) dX12_nightOn_96) (fun r6 st5 H locs h hP hS => ?_)
        refine lv_goto C.1 C.2.1 (tgt := 103) dX12_nightOn_99 (by decide) ?_
        exact tX12_nightOn_L103 hL C hr hlk hb _ _ _ h (lv_sub hl [0] rfl) hP hS
    · have h := h.2 hc
      refine lv_aload_n C.1 C.2.1 dX12_nightOn_31 rfl (lv_at hl 0 rfl) ?_
      refine gf11_5 C hP hb (m11 hb hL) q1384 dX12_nightOn_32 ?_
      refine lv_bipush C.1 C.2.1 (v := 28) dX12_nightOn_35 rfl ?_
      refine lv_iload_n C.1 C.2.1 dX12_nightOn_37 rfl (lv_at hl 1 rfl) ?_
      refine lv_iadd C.1 C.2.1 dX12_nightOn_38  ?_
      obtain ⟨hi, h⟩ := h
      refine z_iald C hP (k11_2 hb) (l11_2 hb) (m11_2 hb hL) hi dX12_nightOn_39 ?_
      refine lv_if_ne C.1 C.2.1 (tgt := 46) dX12_nightOn_40 (by decide) (fun hc => ?_) (fun hc => ?_)
      · have h := h.1 hc
        refine lv_aload_n C.1 C.2.1 dX12_nightOn_46 rfl (lv_at hl 0 rfl) ?_
        refine gf11_5 C hP hb (m11 hb hL) q1384 dX12_nightOn_47 ?_
        refine lv_bipush C.1 C.2.1 (v := 16) dX12_nightOn_50 rfl ?_
        refine lv_iload_n C.1 C.2.1 dX12_nightOn_52 rfl (lv_at hl 1 rfl) ?_
        refine lv_iadd C.1 C.2.1 dX12_nightOn_53  ?_
        refine lv_dup2_11 C.1 C.2.1 dX12_nightOn_54 rfl rfl ?_
        obtain ⟨hi, h⟩ := h
        refine z_iald C hP (k11_2 hb) (l11_2 hb) (m11_2 hb hL) hi dX12_nightOn_55 ?_
        refine lv_iconst C.1 C.2.1 (v := 1) dX12_nightOn_56 rfl ?_
        refine lv_isub C.1 C.2.1 dX12_nightOn_57  ?_
        obtain ⟨hi, h⟩ := h
        refine z_iast C hP hS (k11_2 hb) (l11_2 hb) (m11_2 hb hL) hi dX12_nightOn_58 (fun H locs hP hS => ?_)
        obtain ⟨st7, est7⟩ : ∃ z, z = uI st (b + 2) ((16 : Int32) + v1 : Int32).toNatClampNeg ((gI st (b + 2) ((16 : Int32) + v1 : Int32).toNatClampNeg) - 1) := ⟨_, rfl⟩
        rw [← est7] at hP; have h := h st7 est7
        refine lv_aload_n C.1 C.2.1 dX12_nightOn_59 rfl (lv_at hl 0 rfl) ?_
        refine gf11_5 C hP hb (m11 hb hL) q1384 dX12_nightOn_60 ?_
        refine lv_bipush C.1 C.2.1 (v := 16) dX12_nightOn_63 rfl ?_
        refine lv_iload_n C.1 C.2.1 dX12_nightOn_65 rfl (lv_at hl 1 rfl) ?_
        refine lv_iadd C.1 C.2.1 dX12_nightOn_66  ?_
        obtain ⟨hi, h⟩ := h
        refine z_iald C hP (k11_2 hb) (l11_2 hb) (m11_2 hb hL) hi dX12_nightOn_67 ?_
        refine lv_if_ne C.1 C.2.1 (tgt := 81) dX12_nightOn_68 (by decide) (fun hc => ?_) (fun hc => ?_)
        · have h := h.1 hc
          exact tX12_nightOn_L81 hL C hr hlk hb hR20 _ _ _ h hl hP hS
        · have h := h.2 hc
          refine lv_aload_n C.1 C.2.1 dX12_nightOn_71 rfl (lv_at hl 0 rfl) ?_
          refine gf11_5 C hP hb (m11 hb hL) q1384 dX12_nightOn_72 ?_
          refine lv_bipush C.1 C.2.1 (v := 28) dX12_nightOn_75 rfl ?_
          refine lv_iload_n C.1 C.2.1 dX12_nightOn_77 rfl (lv_at hl 1 rfl) ?_
          refine lv_iadd C.1 C.2.1 dX12_nightOn_78  ?_
          refine lv_iconst C.1 C.2.1 (v := 0) dX12_nightOn_79 rfl ?_
          obtain ⟨hi, h⟩ := h
          refine z_iast C hP hS (k11_2 hb) (l11_2 hb) (m11_2 hb hL) hi dX12_nightOn_80 (fun H locs hP hS => ?_)
          obtain ⟨st8, est8⟩ : ∃ z, z = uI st7 (b + 2) ((28 : Int32) + v1 : Int32).toNatClampNeg 0 := ⟨_, rfl⟩
          rw [← est8] at hP; have h := h st8 est8
          exact tX12_nightOn_L81 hL C hr hlk hb hR20 _ _ _ h hl hP hS
      · have h := h.2 hc
        refine lv_goto C.1 C.2.1 (tgt := 81) dX12_nightOn_43 (by decide) ?_
        exact tX12_nightOn_L81 hL C hr hlk hb hR20 _ _ _ h hl hP hS
set_option maxHeartbeats 4000000 in
set_option maxRecDepth 100000 in
theorem tX12_nightOn {l : Launch} {E : En0} {L : List Nat} (hE : EK E L) (hL : Cov 54 67 L) {b : Nat} {st : St} {Q : St → Prop} (hb : kd b = 11) (h : wX12_nightOn b st Q) : Mz l yX12_nightOn cX12_nightOn 2 none rmX12_nightOn E L [.ref (E.2.1 b)] st (zV E L Q) := by
  refine Mz.of hE (by decide) (Nat.le_of_ble_eq_true rfl) ?_
  intro p e s m below meth c ls C hr hlk _ hl hP
  replace C : Cx E L "PlankBridgeModel" cX12_nightOn 2 p s m _ c := C
  have hS : va_S (fA E L s.heap.size) s.heap s.heap [] := va_S.rf
  replace hl : lv_has ls 2 [(0, .ref (E.2.1 b))] := hl
  unfold wX12_nightOn at h
  refine lv_aload_n C.1 C.2.1 dX12_nightOn_0 rfl (lv_at hl 0 rfl) ?_
  refine gf11_5 C hP hb (m11 hb hL) q1384 dX12_nightOn_1 ?_
  refine lv_iconst C.1 C.2.1 (v := 2) dX12_nightOn_4 rfl ?_
  refine lv_dup2_11 C.1 C.2.1 dX12_nightOn_5 rfl rfl ?_
  obtain ⟨hi, h⟩ := h
  refine z_iald C hP (k11_2 hb) (l11_2 hb) (m11_2 hb hL) hi dX12_nightOn_6 ?_
  refine lv_iconst C.1 C.2.1 (v := 1) dX12_nightOn_7 rfl ?_
  refine lv_iadd C.1 C.2.1 dX12_nightOn_8  ?_
  obtain ⟨hi, h⟩ := h
  refine z_iast C hP hS (k11_2 hb) (l11_2 hb) (m11_2 hb hL) hi dX12_nightOn_9 (fun H locs hP hS => ?_)
  obtain ⟨st1, est1⟩ : ∃ z, z = uI st (b + 2) (2 : Int32).toNatClampNeg ((gI st (b + 2) (2 : Int32).toNatClampNeg) + 1) := ⟨_, rfl⟩
  rw [← est1] at hP; have h := h st1 est1
  refine lv_aload_n C.1 C.2.1 dX12_nightOn_10 rfl (lv_at hl 0 rfl) ?_
  refine gf11_5 C hP hb (m11 hb hL) q1384 dX12_nightOn_11 ?_
  refine lv_iconst C.1 C.2.1 (v := 1) dX12_nightOn_14 rfl ?_
  refine lv_bipush C.1 C.2.1 (v := 60) dX12_nightOn_15 rfl ?_
  obtain ⟨hi, h⟩ := h
  refine z_iast C hP hS (k11_2 hb) (l11_2 hb) (m11_2 hb hL) hi dX12_nightOn_17 (fun H locs hP hS => ?_)
  obtain ⟨st2, est2⟩ : ∃ z, z = uI st1 (b + 2) (1 : Int32).toNatClampNeg 60 := ⟨_, rfl⟩
  rw [← est2] at hP; have h := h st2 est2
  refine lv_iconst C.1 C.2.1 (v := 0) dX12_nightOn_18 rfl ?_
  refine lv_istore_n C.1 C.2.1 dX12_nightOn_19 rfl hl (Nat.le_of_ble_eq_true rfl) rfl (fun ls hl => ?_)
  have hl : lv_has ls 2 [(1, .int 0), (0, .ref (E.2.1 b))] := hl
  obtain ⟨n, h⟩ := h
  exact tX12_nightOn_L20 hL C hr hlk hb n 0 st2 _ _ _ h (lv_sub hl [1, 0] rfl) hP hS
def rmX12_goBy : Room := { frames := 2, cells := 0, slots := 0, locals := 44 }
def wX12_goBy_L10 (b : Nat) (p1 : Int32)  (R10 : St → Prop)  (st : St) (Q : St → Prop) : Prop :=
  (vp_in 3 50 ∧ (((gI st (b + 2) (3 : Int32).toNatClampNeg) < 120 → Q st) ∧ (¬ (gI st (b + 2) (3 : Int32).toNatClampNeg) < 120 → (vp_in 3 50 ∧ (vp_in 3 50 ∧ ∀ st2, st2 = uI st (b + 2) (3 : Int32).toNatClampNeg ((gI st (b + 2) (3 : Int32).toNatClampNeg) - 120) → (wX12_nightOn b st2 (fun st3 => R10 st3)))))))
def wX12_goBy (b : Nat) (p1 : Int32) (st : St) (Q : St → Prop) : Prop :=
  (vp_in 3 50 ∧ (vp_in 3 50 ∧ ∀ st1, st1 = uI st (b + 2) (3 : Int32).toNatClampNeg ((gI st (b + 2) (3 : Int32).toNatClampNeg) + p1) → (∃ n, lp (fun R s => wX12_goBy_L10 b p1 R s Q) n st1)))
theorem hdX12_goBy : yX12_goBy.cls = "PlankBridgeModel" ∧ yX12_goBy.cls ≠ "java/lang/invoke/MethodHandle" ∧ yX12_goBy.cls ≠ "java/lang/invoke/VarHandle" ∧ (parseMethodDescriptor yX12_goBy.desc).map (fun d => d.parameters.length) = some 1 := by decide +kernel
set_option maxHeartbeats 4000000 in
set_option maxRecDepth 100000 in
theorem tX12_goBy_L10 {l : Launch} {p : Program} {e : Env} {s : State} {m : MethodId} {args : Array Value} {below : List Frame} {meth : Method} {c : Code} {E : En0} {L : List Nat} (hL : Cov 54 67 L) (C : Cx E L "PlankBridgeModel" cX12_goBy 2 p s m args c) (hr : meth.sig.returnType = none) (hlk : meth.locks = false) {b : Nat} {p1 : Int32} {Q : St → Prop} (hb : kd b = 11) : ∀ (n : Nat)  (st : St) (H : Heap) (locs : List Loc) (ls : Array Slot), lp (fun R s => wX12_goBy_L10 b p1 R s Q) n st → lv_has ls 2 [(0, .ref (E.2.1 b))] → va_P E.1 vwCl (wd E L st) H → va_S (fA E L s.heap.size) s.heap H locs → W p l e rmX12_goBy s m args below meth c H locs 0 0 (MQ below (zV E L Q (fA E L s.heap.size)) args s rmX12_goBy.cells rmX12_goBy.slots (fA E L s.heap.size)) (F0 m 10 ls []) := by
  intro n
  induction n with
  | zero => exact fun _ _ _ _ h _ _ _ => False.elim ‹_›
  | succ n ih =>
    intro  st  H locs ls h hl hP hS
    have hR10 := ih
    replace h : wX12_goBy_L10 b p1 (lp (fun R s => wX12_goBy_L10 b p1 R s Q) n) st Q := h
    unfold wX12_goBy_L10 at h
    refine lv_aload_n C.1 C.2.1 dX12_goBy_10 rfl (lv_at hl 0 rfl) ?_
    refine gf11_5 C hP hb (m11 hb hL) q1384 dX12_goBy_11 ?_
    refine lv_iconst C.1 C.2.1 (v := 3) dX12_goBy_14 rfl ?_
    obtain ⟨hi, h⟩ := h
    refine z_iald C hP (k11_2 hb) (l11_2 hb) (m11_2 hb hL) hi dX12_goBy_15 ?_
    refine lv_bipush C.1 C.2.1 (v := 120) dX12_goBy_16 rfl ?_
    refine lv_icmp_lt C.1 C.2.1 (tgt := 39) dX12_goBy_18 (by decide) (fun hc => ?_) (fun hc => ?_)
    · have h := h.1 hc
      exact z_rv C hr hlk hP hS h dX12_goBy_39
    · have h := h.2 hc
      refine lv_aload_n C.1 C.2.1 dX12_goBy_21 rfl (lv_at hl 0 rfl) ?_
      refine gf11_5 C hP hb (m11 hb hL) q1384 dX12_goBy_22 ?_
      refine lv_iconst C.1 C.2.1 (v := 3) dX12_goBy_25 rfl ?_
      refine lv_dup2_11 C.1 C.2.1 dX12_goBy_26 rfl rfl ?_
      obtain ⟨hi, h⟩ := h
      refine z_iald C hP (k11_2 hb) (l11_2 hb) (m11_2 hb hL) hi dX12_goBy_27 ?_
      refine lv_bipush C.1 C.2.1 (v := 120) dX12_goBy_28 rfl ?_
      refine lv_isub C.1 C.2.1 dX12_goBy_30  ?_
      obtain ⟨hi, h⟩ := h
      refine z_iast C hP hS (k11_2 hb) (l11_2 hb) (m11_2 hb hL) hi dX12_goBy_31 (fun H locs hP hS => ?_)
      obtain ⟨st2, est2⟩ : ∃ z, z = uI st (b + 2) (3 : Int32).toNatClampNeg ((gI st (b + 2) (3 : Int32).toNatClampNeg) - 120) := ⟨_, rfl⟩
      rw [← est2] at hP; have h := h st2 est2
      refine lv_aload_n C.1 C.2.1 dX12_goBy_32 rfl (lv_at hl 0 rfl) ?_
      refine z_kv hS (z_runV (As := []) (rest := []) C hP hS (m11 hb hL) (e11 hb) rfl (tX12_nightOn C.2.2.2.2.2.2.1 (hL.mo (Nat.le_of_ble_eq_true rfl) (Nat.le_of_ble_eq_true rfl)) hb h) q1801 q1803 q82 q116 q1804 hdX12_nightOn ⟨Nat.le_of_ble_eq_true rfl, Nat.le_of_ble_eq_true rfl⟩ ⟨Nat.zero_le _, Nat.zero_le _⟩ rfl hl.1 rfl (lv_room (Nat.le_of_ble_eq_true rfl)) dX12_goBy_33) (fun st3 H locs h hP hS => ?_)
      refine lv_goto C.1 C.2.1 (tgt := 10) dX12_goBy_36 (by decide) ?_
      exact hR10 st3 _ _ _ h hl hP hS
set_option maxHeartbeats 4000000 in
set_option maxRecDepth 100000 in
theorem tX12_goBy {l : Launch} {E : En0} {L : List Nat} (hE : EK E L) (hL : Cov 54 67 L) {b : Nat} {p1 : Int32} {st : St} {Q : St → Prop} (hb : kd b = 11) (h : wX12_goBy b p1 st Q) : Mz l yX12_goBy cX12_goBy 2 none rmX12_goBy E L [.ref (E.2.1 b), .int p1] st (zV E L Q) := by
  refine Mz.of hE (by decide) (Nat.le_of_ble_eq_true rfl) ?_
  intro p e s m below meth c ls C hr hlk _ hl hP
  replace C : Cx E L "PlankBridgeModel" cX12_goBy 2 p s m _ c := C
  have hS : va_S (fA E L s.heap.size) s.heap s.heap [] := va_S.rf
  replace hl : lv_has ls 2 [(0, .ref (E.2.1 b)), (1, .int p1)] := hl
  unfold wX12_goBy at h
  refine lv_aload_n C.1 C.2.1 dX12_goBy_0 rfl (lv_at hl 0 rfl) ?_
  refine gf11_5 C hP hb (m11 hb hL) q1384 dX12_goBy_1 ?_
  refine lv_iconst C.1 C.2.1 (v := 3) dX12_goBy_4 rfl ?_
  refine lv_dup2_11 C.1 C.2.1 dX12_goBy_5 rfl rfl ?_
  obtain ⟨hi, h⟩ := h
  refine z_iald C hP (k11_2 hb) (l11_2 hb) (m11_2 hb hL) hi dX12_goBy_6 ?_
  refine lv_iload_n C.1 C.2.1 dX12_goBy_7 rfl (lv_at hl 1 rfl) ?_
  refine lv_iadd C.1 C.2.1 dX12_goBy_8  ?_
  obtain ⟨hi, h⟩ := h
  refine z_iast C hP hS (k11_2 hb) (l11_2 hb) (m11_2 hb hL) hi dX12_goBy_9 (fun H locs hP hS => ?_)
  obtain ⟨st1, est1⟩ : ∃ z, z = uI st (b + 2) (3 : Int32).toNatClampNeg ((gI st (b + 2) (3 : Int32).toNatClampNeg) + p1) := ⟨_, rfl⟩
  rw [← est1] at hP; have h := h st1 est1
  obtain ⟨n, h⟩ := h
  exact tX12_goBy_L10 hL C hr hlk hb n st1 _ _ _ h (lv_sub hl [0] rfl) hP hS
def rmX12_takes : Room := { frames := 1, cells := 0, slots := 0, locals := 21 }
def wX12_takes (b : Nat) (p1 : Int32) (p2 : Int32) (st : St) (Q : Int32 → St → Prop) : Prop :=
  ((¬ p2 = (-1) → (vp_in p1 9 ∧ (vp_in p2 9 ∧ Q (if (gI st 62 (p1 : Int32).toNatClampNeg) < (gI st 62 (p2 : Int32).toNatClampNeg) then (gI st 62 (p2 : Int32).toNatClampNeg) else (gI st 62 (p1 : Int32).toNatClampNeg)) st))) ∧ (p2 = (-1) → (vp_in p1 9 ∧ Q (gI st 62 (p1 : Int32).toNatClampNeg) st)))
theorem hdX12_takes : yX12_takes.cls = "PlankBridgeModel" ∧ yX12_takes.cls ≠ "java/lang/invoke/MethodHandle" ∧ yX12_takes.cls ≠ "java/lang/invoke/VarHandle" ∧ (parseMethodDescriptor yX12_takes.desc).map (fun d => d.parameters.length) = some 2 := by decide +kernel
set_option maxHeartbeats 4000000 in
set_option maxRecDepth 100000 in
theorem tX12_takes {l : Launch} {E : En0} {L : List Nat} (hE : EK E L) (hL : Cov 54 67 L) {b : Nat} {p1 : Int32} {p2 : Int32} {st : St} {Q : Int32 → St → Prop} (hb : kd b = 11) (h : wX12_takes b p1 p2 st Q) : Mz l yX12_takes cX12_takes 3 (some .int) rmX12_takes E L [.ref (E.2.1 b), .int p1, .int p2] st (zI E L Q) := by
  refine Mz.of hE (by decide) (Nat.le_of_ble_eq_true rfl) ?_
  intro p e s m below meth c ls C hr hlk _ hl hP
  replace C : Cx E L "PlankBridgeModel" cX12_takes 3 p s m _ c := C
  have hS : va_S (fA E L s.heap.size) s.heap s.heap [] := va_S.rf
  replace hl : lv_has ls 3 [(0, .ref (E.2.1 b)), (1, .int p1), (2, .int p2)] := hl
  unfold wX12_takes at h
  refine lv_iload_n C.1 C.2.1 dX12_takes_0 rfl (lv_at hl 2 rfl) ?_
  refine lv_iconst C.1 C.2.1 (v := (-1)) dX12_takes_1 rfl ?_
  refine lv_icmp_ne C.1 C.2.1 (tgt := 17) dX12_takes_2 (by decide) (fun hc => ?_) (fun hc => ?_)
  · have h := h.1 hc
    refine lv_aload_n C.1 C.2.1 dX12_takes_17 rfl (lv_at hl 0 rfl) ?_
    refine gf11_4 C hP hb (m11 hb hL) q1383 dX12_takes_18 ?_
    refine gf9_5 C hP (show kd 60 = 9 from rfl) (hL 60 (Nat.le_of_ble_eq_true rfl) (Nat.le_of_ble_eq_true rfl)) q1331 dX12_takes_21 ?_
    refine lv_iload_n C.1 C.2.1 dX12_takes_24 rfl (lv_at hl 1 rfl) ?_
    obtain ⟨hi, h⟩ := h
    refine z_iald C hP (show kd 62 = 20 from rfl) (show ln 62 = 9 from rfl) (hL 62 (Nat.le_of_ble_eq_true rfl) (Nat.le_of_ble_eq_true rfl)) hi dX12_takes_25 ?_
    refine lv_aload_n C.1 C.2.1 dX12_takes_26 rfl (lv_at hl 0 rfl) ?_
    refine gf11_4 C hP hb (m11 hb hL) q1383 dX12_takes_27 ?_
    refine gf9_5 C hP (show kd 60 = 9 from rfl) (hL 60 (Nat.le_of_ble_eq_true rfl) (Nat.le_of_ble_eq_true rfl)) q1331 dX12_takes_30 ?_
    refine lv_iload_n C.1 C.2.1 dX12_takes_33 rfl (lv_at hl 2 rfl) ?_
    obtain ⟨hi, h⟩ := h
    refine z_iald C hP (show kd 62 = 20 from rfl) (show ln 62 = 9 from rfl) (hL 62 (Nat.le_of_ble_eq_true rfl) (Nat.le_of_ble_eq_true rfl)) hi dX12_takes_34 ?_
    refine va_mmax (rest := []) C.1 C.2.1 (C.2.2.1.trans hl.1.symm) C.2.2.2.1 (C.T q1716) (C.T q1622) (C.T q129) (C.T q1623) (Nat.le_of_ble_eq_true rfl) (Nat.le_of_ble_eq_true rfl) (Nat.zero_le _) (Nat.zero_le _) dX12_takes_35 ?_
    exact z_ri C hr hlk rfl hP hS h dX12_takes_38
  · have h := h.2 hc
    refine lv_aload_n C.1 C.2.1 dX12_takes_5 rfl (lv_at hl 0 rfl) ?_
    refine gf11_4 C hP hb (m11 hb hL) q1383 dX12_takes_6 ?_
    refine gf9_5 C hP (show kd 60 = 9 from rfl) (hL 60 (Nat.le_of_ble_eq_true rfl) (Nat.le_of_ble_eq_true rfl)) q1331 dX12_takes_9 ?_
    refine lv_iload_n C.1 C.2.1 dX12_takes_12 rfl (lv_at hl 1 rfl) ?_
    obtain ⟨hi, h⟩ := h
    refine z_iald C hP (show kd 62 = 20 from rfl) (show ln 62 = 9 from rfl) (hL 62 (Nat.le_of_ble_eq_true rfl) (Nat.le_of_ble_eq_true rfl)) hi dX12_takes_13 ?_
    refine lv_goto C.1 C.2.1 (tgt := 38) dX12_takes_14 (by decide) ?_
    exact z_ri C hr hlk rfl hP hS h dX12_takes_38
def rmX12_isThere : Room := { frames := 0, cells := 0, slots := 0, locals := 0 }
def wX12_isThere_L23 (b : Nat) (p1 : Int32)   (st : St) (Q : Int32 → St → Prop) : Prop :=
  Q 1 st
def wX12_isThere (b : Nat) (p1 : Int32) (st : St) (Q : Int32 → St → Prop) : Prop :=
  ((p1 = (-1) → wX12_isThere_L23 b p1 st Q) ∧ (¬ p1 = (-1) → (vp_in ((8 : Int32) + p1) 50 ∧ (vp_in 0 50 ∧ ((¬ (gI st (b + 2) ((8 : Int32) + p1 : Int32).toNatClampNeg) = (gI st (b + 2) (0 : Int32).toNatClampNeg) → Q 0 st) ∧ ((gI st (b + 2) ((8 : Int32) + p1 : Int32).toNatClampNeg) = (gI st (b + 2) (0 : Int32).toNatClampNeg) → wX12_isThere_L23 b p1 st Q))))))
theorem hdX12_isThere : yX12_isThere.cls = "PlankBridgeModel" ∧ yX12_isThere.cls ≠ "java/lang/invoke/MethodHandle" ∧ yX12_isThere.cls ≠ "java/lang/invoke/VarHandle" ∧ (parseMethodDescriptor yX12_isThere.desc).map (fun d => d.parameters.length) = some 1 := by decide +kernel
set_option maxHeartbeats 4000000 in
set_option maxRecDepth 100000 in
theorem tX12_isThere_L23 {l : Launch} {p : Program} {e : Env} {s : State} {m : MethodId} {args : Array Value} {below : List Frame} {meth : Method} {c : Code} {E : En0} {L : List Nat} (hL : Cov 54 67 L) (C : Cx E L "PlankBridgeModel" cX12_isThere 2 p s m args c) (hr : meth.sig.returnType = (some .boolean)) (hlk : meth.locks = false) {b : Nat} {p1 : Int32} {Q : Int32 → St → Prop} (hb : kd b = 11)   {st : St} (H : Heap) (locs : List Loc) (ls : Array Slot) (h : wX12_isThere_L23 b p1 st Q) (hl : lv_has ls 2 []) (hP : va_P E.1 vwCl (wd E L st) H) (hS : va_S (fA E L s.heap.size) s.heap H locs) : W p l e rmX12_isThere s m args below meth c H locs 0 0 (MQ below (zI E L (fun r u => bz r ∧ Q r u) (fA E L s.heap.size)) args s rmX12_isThere.cells rmX12_isThere.slots (fA E L s.heap.size)) (F0 m 23 ls []) := by
  unfold wX12_isThere_L23 at h
  refine lv_iconst C.1 C.2.1 (v := 1) dX12_isThere_23 rfl ?_
  refine lv_goto C.1 C.2.1 (tgt := 28) dX12_isThere_24 (by decide) ?_
  exact z_ri C hr hlk (bz_n bz1) hP hS ⟨bz1, h⟩ dX12_isThere_28
set_option maxHeartbeats 4000000 in
set_option maxRecDepth 100000 in
theorem tX12_isThere {l : Launch} {E : En0} {L : List Nat} (hE : EK E L) (hL : Cov 54 67 L) {b : Nat} {p1 : Int32} {st : St} {Q : Int32 → St → Prop} (hb : kd b = 11) (h : wX12_isThere b p1 st Q) : Mz l yX12_isThere cX12_isThere 2 (some .boolean) rmX12_isThere E L [.ref (E.2.1 b), .int p1] st (zI E L (fun r u => bz r ∧ Q r u)) := by
  refine Mz.of hE (by decide) (Nat.le_of_ble_eq_true rfl) ?_
  intro p e s m below meth c ls C hr hlk _ hl hP
  replace C : Cx E L "PlankBridgeModel" cX12_isThere 2 p s m _ c := C
  have hS : va_S (fA E L s.heap.size) s.heap s.heap [] := va_S.rf
  replace hl : lv_has ls 2 [(0, .ref (E.2.1 b)), (1, .int p1)] := hl
  unfold wX12_isThere at h
  refine lv_iload_n C.1 C.2.1 dX12_isThere_0 rfl (lv_at hl 1 rfl) ?_
  refine lv_iconst C.1 C.2.1 (v := (-1)) dX12_isThere_1 rfl ?_
  refine lv_icmp_eq C.1 C.2.1 (tgt := 23) dX12_isThere_2 (by decide) (fun hc => ?_) (fun hc => ?_)
  · have h := h.1 hc
    exact tX12_isThere_L23 hL C hr hlk hb _ _ _ h (lv_sub hl [] rfl) hP hS
  · have h := h.2 hc
    refine lv_aload_n C.1 C.2.1 dX12_isThere_5 rfl (lv_at hl 0 rfl) ?_
    refine gf11_5 C hP hb (m11 hb hL) q1384 dX12_isThere_6 ?_
    refine lv_bipush C.1 C.2.1 (v := 8) dX12_isThere_9 rfl ?_
    refine lv_iload_n C.1 C.2.1 dX12_isThere_11 rfl (lv_at hl 1 rfl) ?_
    refine lv_iadd C.1 C.2.1 dX12_isThere_12  ?_
    obtain ⟨hi, h⟩ := h
    refine z_iald C hP (k11_2 hb) (l11_2 hb) (m11_2 hb hL) hi dX12_isThere_13 ?_
    refine lv_aload_n C.1 C.2.1 dX12_isThere_14 rfl (lv_at hl 0 rfl) ?_
    refine gf11_5 C hP hb (m11 hb hL) q1384 dX12_isThere_15 ?_
    refine lv_iconst C.1 C.2.1 (v := 0) dX12_isThere_18 rfl ?_
    obtain ⟨hi, h⟩ := h
    refine z_iald C hP (k11_2 hb) (l11_2 hb) (m11_2 hb hL) hi dX12_isThere_19 ?_
    refine lv_icmp_ne C.1 C.2.1 (tgt := 27) dX12_isThere_20 (by decide) (fun hc => ?_) (fun hc => ?_)
    · have h := h.1 hc
      refine lv_iconst C.1 C.2.1 (v := 0) dX12_isThere_27 rfl ?_
      exact z_ri C hr hlk (bz_n bz0) hP hS ⟨bz0, h⟩ dX12_isThere_28
    · have h := h.2 hc
      exact tX12_isThere_L23 hL C hr hlk hb _ _ _ h (lv_sub hl [] rfl) hP hS
def rmX12_canCross : Room := { frames := 2, cells := 0, slots := 0, locals := 43 }
def wX12_canCross (b : Nat) (p1 : Int32) (p2 : Int32) (st : St) (Q : Int32 → St → Prop) : Prop :=
  (wX12_takes b p1 p2 st (fun r2 st1 => (wX12_isThere b p1 st1 (fun r4 st3 => ((r4 = 0 → Q 0 st3) ∧ (¬ r4 = 0 → (wX12_isThere b p2 st3 (fun r6 st5 => ((r6 = 0 → Q 0 st5) ∧ (¬ r6 = 0 → (wX12_canPass b st5 (fun r8 st7 => ((r8 = 0 → Q 0 st7) ∧ (¬ r8 = 0 → (vp_in 1 50 ∧ (((gI st7 (b + 2) (1 : Int32).toNatClampNeg) < r2 → Q 0 st7) ∧ (¬ (gI st7 (b + 2) (1 : Int32).toNatClampNeg) < r2 → (vp_in 3 50 ∧ ((120 < ((gI st7 (b + 2) (3 : Int32).toNatClampNeg) + r2) → Q 0 st7) ∧ (¬ 120 < ((gI st7 (b + 2) (3 : Int32).toNatClampNeg) + r2) → Q 1 st7))))))))))))))))))))
theorem hdX12_canCross : yX12_canCross.cls = "PlankBridgeModel" ∧ yX12_canCross.cls ≠ "java/lang/invoke/MethodHandle" ∧ yX12_canCross.cls ≠ "java/lang/invoke/VarHandle" ∧ (parseMethodDescriptor yX12_canCross.desc).map (fun d => d.parameters.length) = some 2 := by decide +kernel
set_option maxHeartbeats 4000000 in
set_option maxRecDepth 100000 in
theorem tX12_canCross {l : Launch} {E : En0} {L : List Nat} (hE : EK E L) (hL : Cov 54 67 L) {b : Nat} {p1 : Int32} {p2 : Int32} {st : St} {Q : Int32 → St → Prop} (hb : kd b = 11) (h : wX12_canCross b p1 p2 st Q) : Mz l yX12_canCross cX12_canCross 4 (some .boolean) rmX12_canCross E L [.ref (E.2.1 b), .int p1, .int p2] st (zI E L (fun r u => bz r ∧ Q r u)) := by
  refine Mz.of hE (by decide) (Nat.le_of_ble_eq_true rfl) ?_
  intro p e s m below meth c ls C hr hlk _ hl hP
  replace C : Cx E L "PlankBridgeModel" cX12_canCross 4 p s m _ c := C
  have hS : va_S (fA E L s.heap.size) s.heap s.heap [] := va_S.rf
  replace hl : lv_has ls 4 [(0, .ref (E.2.1 b)), (1, .int p1), (2, .int p2)] := hl
  unfold wX12_canCross at h
  refine lv_aload_n C.1 C.2.1 dX12_canCross_0 rfl (lv_at hl 0 rfl) ?_
  refine lv_iload_n C.1 C.2.1 dX12_canCross_1 rfl (lv_at hl 1 rfl) ?_
  refine lv_iload_n C.1 C.2.1 dX12_canCross_2 rfl (lv_at hl 2 rfl) ?_
  refine z_ki hS (z_runV (As := [.int p1, .int p2]) (rest := []) C hP hS (m11 hb hL) (e11 hb) rfl (tX12_takes C.2.2.2.2.2.2.1 (hL.mo (Nat.le_of_ble_eq_true rfl) (Nat.le_of_ble_eq_true rfl)) hb h) q1781 q1783 q77 q116 q1784 hdX12_takes ⟨Nat.le_of_ble_eq_true rfl, Nat.le_of_ble_eq_true rfl⟩ ⟨Nat.zero_le _, Nat.zero_le _⟩ rfl hl.1 rfl (lv_room (Nat.le_of_ble_eq_true rfl)) dX12_canCross_3) (fun r2 st1 H locs h hP hS => ?_)
  refine lv_istore_n C.1 C.2.1 dX12_canCross_6 rfl hl (Nat.le_of_ble_eq_true rfl) rfl (fun ls hl => ?_)
  have hl : lv_has ls 4 [(3, .int r2), (0, .ref (E.2.1 b)), (1, .int p1), (2, .int p2)] := hl
  refine lv_aload_n C.1 C.2.1 dX12_canCross_7 rfl (lv_at hl 1 rfl) ?_
  refine lv_iload_n C.1 C.2.1 dX12_canCross_8 rfl (lv_at hl 2 rfl) ?_
  refine z_ki hS (z_runV (As := [.int p1]) (rest := []) C hP hS (m11 hb hL) (e11 hb) rfl (tX12_isThere C.2.2.2.2.2.2.1 (hL.mo (Nat.le_of_ble_eq_true rfl) (Nat.le_of_ble_eq_true rfl)) hb h) q1785 q1787 q78 q116 q1788 hdX12_isThere ⟨Nat.le_of_ble_eq_true rfl, Nat.le_of_ble_eq_true rfl⟩ ⟨Nat.zero_le _, Nat.zero_le _⟩ rfl hl.1 rfl (lv_room (Nat.le_of_ble_eq_true rfl)) dX12_canCross_9) (fun r4 st3 H locs h hP hS => ?_)
  obtain ⟨hr4, h⟩ := h
  refine lv_if_eq C.1 C.2.1 (tgt := 57) dX12_canCross_12 (by decide) (fun hc => ?_) (fun hc => ?_)
  · have h := h.1 hc
    refine lv_iconst C.1 C.2.1 (v := 0) dX12_canCross_57 rfl ?_
    exact z_ri C hr hlk (bz_n bz0) hP hS ⟨bz0, h⟩ dX12_canCross_58
  · have h := h.2 hc
    refine lv_aload_n C.1 C.2.1 dX12_canCross_15 rfl (lv_at hl 1 rfl) ?_
    refine lv_iload_n C.1 C.2.1 dX12_canCross_16 rfl (lv_at hl 3 rfl) ?_
    refine z_ki hS (z_runV (As := [.int p2]) (rest := []) C hP hS (m11 hb hL) (e11 hb) rfl (tX12_isThere C.2.2.2.2.2.2.1 (hL.mo (Nat.le_of_ble_eq_true rfl) (Nat.le_of_ble_eq_true rfl)) hb h) q1785 q1787 q78 q116 q1788 hdX12_isThere ⟨Nat.le_of_ble_eq_true rfl, Nat.le_of_ble_eq_true rfl⟩ ⟨Nat.zero_le _, Nat.zero_le _⟩ rfl hl.1 rfl (lv_room (Nat.le_of_ble_eq_true rfl)) dX12_canCross_17) (fun r6 st5 H locs h hP hS => ?_)
    obtain ⟨hr6, h⟩ := h
    refine lv_if_eq C.1 C.2.1 (tgt := 57) dX12_canCross_20 (by decide) (fun hc => ?_) (fun hc => ?_)
    · have h := h.1 hc
      refine lv_iconst C.1 C.2.1 (v := 0) dX12_canCross_57 rfl ?_
      exact z_ri C hr hlk (bz_n bz0) hP hS ⟨bz0, h⟩ dX12_canCross_58
    · have h := h.2 hc
      refine lv_aload_n C.1 C.2.1 dX12_canCross_23 rfl (lv_at hl 1 rfl) ?_
      refine z_ki hS (z_runV (As := []) (rest := []) C hP hS (m11 hb hL) (e11 hb) rfl (tX12_canPass C.2.2.2.2.2.2.1 (hL.mo (Nat.le_of_ble_eq_true rfl) (Nat.le_of_ble_eq_true rfl)) hb h) q1741 q1743 q74 q116 q1744 hdX12_canPass ⟨Nat.le_of_ble_eq_true rfl, Nat.le_of_ble_eq_true rfl⟩ ⟨Nat.zero_le _, Nat.zero_le _⟩ rfl hl.1 rfl (lv_room (Nat.le_of_ble_eq_true rfl)) dX12_canCross_24) (fun r8 st7 H locs h hP hS => ?_)
      obtain ⟨hr8, h⟩ := h
      refine lv_if_eq C.1 C.2.1 (tgt := 57) dX12_canCross_27 (by decide) (fun hc => ?_) (fun hc => ?_)
      · have h := h.1 hc
        refine lv_iconst C.1 C.2.1 (v := 0) dX12_canCross_57 rfl ?_
        exact z_ri C hr hlk (bz_n bz0) hP hS ⟨bz0, h⟩ dX12_canCross_58
      · have h := h.2 hc
        refine lv_aload_n C.1 C.2.1 dX12_canCross_30 rfl (lv_at hl 1 rfl) ?_
        refine gf11_5 C hP hb (m11 hb hL) q1384 dX12_canCross_31 ?_
        refine lv_iconst C.1 C.2.1 (v := 1) dX12_canCross_34 rfl ?_
        obtain ⟨hi, h⟩ := h
        refine z_iald C hP (k11_2 hb) (l11_2 hb) (m11_2 hb hL) hi dX12_canCross_35 ?_
        refine lv_iload_n C.1 C.2.1 dX12_canCross_36 rfl (lv_at hl 0 rfl) ?_
        refine lv_icmp_lt C.1 C.2.1 (tgt := 57) dX12_canCross_37 (by decide) (fun hc => ?_) (fun hc => ?_)
        · have h := h.1 hc
          refine lv_iconst C.1 C.2.1 (v := 0) dX12_canCross_57 rfl ?_
          exact z_ri C hr hlk (bz_n bz0) hP hS ⟨bz0, h⟩ dX12_canCross_58
        · have h := h.2 hc
          refine lv_aload_n C.1 C.2.1 dX12_canCross_40 rfl (lv_at hl 1 rfl) ?_
          refine gf11_5 C hP hb (m11 hb hL) q1384 dX12_canCross_41 ?_
          refine lv_iconst C.1 C.2.1 (v := 3) dX12_canCross_44 rfl ?_
          obtain ⟨hi, h⟩ := h
          refine z_iald C hP (k11_2 hb) (l11_2 hb) (m11_2 hb hL) hi dX12_canCross_45 ?_
          refine lv_iload_n C.1 C.2.1 dX12_canCross_46 rfl (lv_at hl 0 rfl) ?_
          refine lv_iadd C.1 C.2.1 dX12_canCross_47  ?_
          refine lv_bipush C.1 C.2.1 (v := 120) dX12_canCross_48 rfl ?_
          refine lv_icmp_gt C.1 C.2.1 (tgt := 57) dX12_canCross_50 (by decide) (fun hc => ?_) (fun hc => ?_)
          · have h := h.1 hc
            refine lv_iconst C.1 C.2.1 (v := 0) dX12_canCross_57 rfl ?_
            exact z_ri C hr hlk (bz_n bz0) hP hS ⟨bz0, h⟩ dX12_canCross_58
          · have h := h.2 hc
            refine lv_iconst C.1 C.2.1 (v := 1) dX12_canCross_53 rfl ?_
            refine lv_goto C.1 C.2.1 (tgt := 58) dX12_canCross_54 (by decide) ?_
            exact z_ri C hr hlk (bz_n bz1) hP hS ⟨bz1, h⟩ dX12_canCross_58
def rmX12_steps : Room := { frames := 2, cells := 0, slots := 0, locals := 42 }
def wX12_steps_L171 (b : Nat) (p1 : Int32) (R4 : Int32 × Int32 × Int32 × St → Prop) (v1 : Int32) (v3 : Int32) (v6 : Int32) (st : St) (Q : Int32 → St → Prop) : Prop :=
  (∀ x6 : Int32, x6 = v3 + 1 → R4 (v1, v6, x6, st))
def wX12_steps_L158 (b : Nat) (p1 : Int32) (R4 : Int32 × Int32 × Int32 × St → Prop) (v1 : Int32) (v2 : Int32) (v3 : Int32) (s0 : Int32) (st : St) (Q : Int32 → St → Prop) : Prop :=
  ((s0 = 0 → wX12_steps_L171 b p1 R4 v1 v3 s0 st Q) ∧ (¬ s0 = 0 → ((v2 = 0 → wX12_steps_L171 b p1 R4 v1 v3 s0 st Q) ∧ (¬ v2 = 0 → Q 0 st))))
def wX12_steps_L140 (b : Nat) (p1 : Int32) (R4 : Int32 × Int32 × Int32 × St → Prop) (v1 : Int32) (v2 : Int32) (v3 : Int32) (v4 : Int32) (st : St) (Q : Int32 → St → Prop) : Prop :=
  (vp_in ((16 : Int32) + v4) 50 ∧ ((¬ (gI st (b + 2) ((16 : Int32) + v4 : Int32).toNatClampNeg) = 0 → wX12_steps_L158 b p1 R4 v1 v2 v3 0 st Q) ∧ ((gI st (b + 2) ((16 : Int32) + v4 : Int32).toNatClampNeg) = 0 → wX12_steps_L158 b p1 R4 v1 v2 v3 1 st Q)))
def wX12_steps_L93 (b : Nat) (p1 : Int32) (R4 : Int32 × Int32 × Int32 × St → Prop) (v1 : Int32) (v2 : Int32) (v3 : Int32) (v4 : Int32) (v5 : Int32) (st : St) (Q : Int32 → St → Prop) : Prop :=
  (vp_in ((16 : Int32) + v4) 50 ∧ (((gI st (b + 2) ((16 : Int32) + v4 : Int32).toNatClampNeg) ≤ 0 → wX12_steps_L140 b p1 R4 v1 v2 v3 v4 st Q) ∧ (¬ (gI st (b + 2) ((16 : Int32) + v4 : Int32).toNatClampNeg) ≤ 0 → ((((2 : Int32) * v1) ≤ v5 → wX12_steps_L140 b p1 R4 v1 v2 v3 v4 st Q) ∧ (¬ ((2 : Int32) * v1) ≤ v5 → (vp_in ((16 : Int32) + v4) 50 ∧ (vp_in ((16 : Int32) + v4) 50 ∧ ∀ st5, st5 = uI st (b + 2) ((16 : Int32) + v4 : Int32).toNatClampNeg (if 1 < ((gI st (b + 2) ((16 : Int32) + v4 : Int32).toNatClampNeg) - 1) then ((gI st (b + 2) ((16 : Int32) + v4 : Int32).toNatClampNeg) - 1) else 1) → wX12_steps_L140 b p1 R4 v1 v2 v3 v4 st5 Q)))))))
def wX12_steps_L39 (b : Nat) (p1 : Int32) (R4 : Int32 × Int32 × Int32 × St → Prop) (v1 : Int32) (v2 : Int32) (v3 : Int32) (s0 : Int32) (st : St) (Q : Int32 → St → Prop) : Prop :=
  (wX12_bear b s0 st (fun r2 st1 => (vp_in ((16 : Int32) + s0) 50 ∧ (((gI st1 (b + 2) ((16 : Int32) + s0 : Int32).toNatClampNeg) ≤ 0 → wX12_steps_L93 b p1 R4 v1 v2 v3 s0 r2 st1 Q) ∧ (¬ (gI st1 (b + 2) ((16 : Int32) + s0 : Int32).toNatClampNeg) ≤ 0 → ((v1 ≤ r2 → wX12_steps_L93 b p1 R4 v1 v2 v3 s0 r2 st1 Q) ∧ (¬ v1 ≤ r2 → (vp_in ((16 : Int32) + s0) 50 ∧ ∀ st3, st3 = uI st1 (b + 2) ((16 : Int32) + s0 : Int32).toNatClampNeg 0 → (vp_in ((28 : Int32) + s0) 50 ∧ ∀ st4, st4 = uI st3 (b + 2) ((28 : Int32) + s0 : Int32).toNatClampNeg 0 → wX12_steps_L140 b p1 R4 v1 v2 v3 s0 st4 Q)))))))))
def wX12_steps_L4 (b : Nat) (p1 : Int32)  (R4 : Int32 × Int32 × Int32 × St → Prop) (v1 : Int32) (v2 : Int32) (v3 : Int32) (st : St) (Q : Int32 → St → Prop) : Prop :=
  (((gI st 60 1) ≤ v3 → Q 1 st) ∧ (¬ (gI st 60 1) ≤ v3 → (vp_in 0 50 ∧ ((¬ (gI st (b + 2) (0 : Int32).toNatClampNeg) = 0 → wX12_steps_L39 b p1 R4 v1 v2 v3 (((gI st 60 1) - 1) - v3) st Q) ∧ ((gI st (b + 2) (0 : Int32).toNatClampNeg) = 0 → wX12_steps_L39 b p1 R4 v1 v2 v3 v3 st Q)))))
def wX12_steps (b : Nat) (p1 : Int32) (st : St) (Q : Int32 → St → Prop) : Prop :=
  (∃ n, lp (fun R s => wX12_steps_L4 b p1 R s.1 s.2.1 s.2.2.1 s.2.2.2 Q) n (p1, 0, 0, st))
theorem hdX12_steps : yX12_steps.cls = "PlankBridgeModel" ∧ yX12_steps.cls ≠ "java/lang/invoke/MethodHandle" ∧ yX12_steps.cls ≠ "java/lang/invoke/VarHandle" ∧ (parseMethodDescriptor yX12_steps.desc).map (fun d => d.parameters.length) = some 1 := by decide +kernel
set_option maxHeartbeats 4000000 in
set_option maxRecDepth 100000 in
theorem tX12_steps_L171 {l : Launch} {p : Program} {e : Env} {s : State} {m : MethodId} {args : Array Value} {below : List Frame} {meth : Method} {c : Code} {E : En0} {L : List Nat} (hL : Cov 54 67 L) (C : Cx E L "PlankBridgeModel" cX12_steps 7 p s m args c) (hr : meth.sig.returnType = (some .boolean)) (hlk : meth.locks = false) {b : Nat} {p1 : Int32} {Q : Int32 → St → Prop} (hb : kd b = 11) {R4 : Int32 × Int32 × Int32 × St → Prop} (hR4 : ∀ (v1 : Int32) (v2 : Int32) (v3 : Int32) (st : St), ∀ (H : Heap) (locs : List Loc) (ls : Array Slot), R4 (v1, v2, v3, st) → lv_has ls 7 [(0, .ref (E.2.1 b)), (1, .int v1), (2, .int v2), (3, .int v3)] → va_P E.1 vwCl (wd E L st) H → va_S (fA E L s.heap.size) s.heap H locs → W p l e rmX12_steps s m args below meth c H locs 0 0 (MQ below (zI E L (fun r u => bz r ∧ Q r u) (fA E L s.heap.size)) args s rmX12_steps.cells rmX12_steps.slots (fA E L s.heap.size)) (F0 m 4 ls [])) {v1 : Int32} {v3 : Int32} {v6 : Int32}  {st : St} (H : Heap) (locs : List Loc) (ls : Array Slot) (h : wX12_steps_L171 b p1 R4 v1 v3 v6 st Q) (hl : lv_has ls 7 [(0, .ref (E.2.1 b)), (1, .int v1), (3, .int v3), (6, .int v6)]) (hP : va_P E.1 vwCl (wd E L st) H) (hS : va_S (fA E L s.heap.size) s.heap H locs) : W p l e rmX12_steps s m args below meth c H locs 0 0 (MQ below (zI E L (fun r u => bz r ∧ Q r u) (fA E L s.heap.size)) args s rmX12_steps.cells rmX12_steps.slots (fA E L s.heap.size)) (F0 m 171 ls []) := by
  unfold wX12_steps_L171 at h
  refine lv_iload C.1 C.2.1 dX12_steps_171 (lv_at hl 3 rfl) ?_
  refine lv_istore_n C.1 C.2.1 dX12_steps_173 rfl hl (Nat.le_of_ble_eq_true rfl) rfl (fun ls hl => ?_)
  have hl : lv_has ls 7 [(2, .int v6), (0, .ref (E.2.1 b)), (1, .int v1), (3, .int v3), (6, .int v6)] := hl
  obtain ⟨x6, ex6⟩ : ∃ z, z = v3 + 1 := ⟨_, rfl⟩
  have h := h x6 ex6
  refine lv_iinc C.1 C.2.1 dX12_steps_174 hl (k := 3) rfl ex6.symm (Nat.le_of_ble_eq_true rfl) rfl (fun ls hl => ?_)
  have hl : lv_has ls 7 [(3, .int x6), (2, .int v6), (0, .ref (E.2.1 b)), (1, .int v1), (6, .int v6)] := hl
  refine lv_goto C.1 C.2.1 (tgt := 4) dX12_steps_177 (by decide) ?_
  exact hR4 v1 v6 x6 st _ _ _ h (lv_sub hl [2, 3, 1, 0] rfl) hP hS
set_option maxHeartbeats 4000000 in
set_option maxRecDepth 100000 in
theorem tX12_steps_L158 {l : Launch} {p : Program} {e : Env} {s : State} {m : MethodId} {args : Array Value} {below : List Frame} {meth : Method} {c : Code} {E : En0} {L : List Nat} (hL : Cov 54 67 L) (C : Cx E L "PlankBridgeModel" cX12_steps 7 p s m args c) (hr : meth.sig.returnType = (some .boolean)) (hlk : meth.locks = false) {b : Nat} {p1 : Int32} {Q : Int32 → St → Prop} (hb : kd b = 11) {R4 : Int32 × Int32 × Int32 × St → Prop} (hR4 : ∀ (v1 : Int32) (v2 : Int32) (v3 : Int32) (st : St), ∀ (H : Heap) (locs : List Loc) (ls : Array Slot), R4 (v1, v2, v3, st) → lv_has ls 7 [(0, .ref (E.2.1 b)), (1, .int v1), (2, .int v2), (3, .int v3)] → va_P E.1 vwCl (wd E L st) H → va_S (fA E L s.heap.size) s.heap H locs → W p l e rmX12_steps s m args below meth c H locs 0 0 (MQ below (zI E L (fun r u => bz r ∧ Q r u) (fA E L s.heap.size)) args s rmX12_steps.cells rmX12_steps.slots (fA E L s.heap.size)) (F0 m 4 ls [])) {v1 : Int32} {v2 : Int32} {v3 : Int32} {s0 : Int32}  {st : St} (H : Heap) (locs : List Loc) (ls : Array Slot) (h : wX12_steps_L158 b p1 R4 v1 v2 v3 s0 st Q) (hl : lv_has ls 7 [(0, .ref (E.2.1 b)), (1, .int v1), (2, .int v2), (3, .int v3)]) (hP : va_P E.1 vwCl (wd E L st) H) (hS : va_S (fA E L s.heap.size) s.heap H locs) : W p l e rmX12_steps s m args below meth c H locs 0 0 (MQ below (zI E L (fun r u => bz r ∧ Q r u) (fA E L s.heap.size)) args s rmX12_steps.cells rmX12_steps.slots (fA E L s.heap.size)) (F0 m 158 ls [.int s0]) := by
  unfold wX12_steps_L158 at h
  refine lv_istore C.1 C.2.1 dX12_steps_158 hl (Nat.le_of_ble_eq_true rfl) rfl (fun ls hl => ?_)
  have hl : lv_has ls 7 [(6, .int s0), (0, .ref (E.2.1 b)), (1, .int v1), (2, .int v2), (3, .int v3)] := hl
  refine lv_iload C.1 C.2.1 dX12_steps_160 (lv_at hl 0 rfl) ?_
  refine lv_if_eq C.1 C.2.1 (tgt := 171) dX12_steps_162 (by decide) (fun hc => ?_) (fun hc => ?_)
  · have h := h.1 hc
    exact tX12_steps_L171 hL C hr hlk hb hR4 _ _ _ h (lv_sub hl [1, 2, 4, 0] rfl) hP hS
  · have h := h.2 hc
    refine lv_iload_n C.1 C.2.1 dX12_steps_165 rfl (lv_at hl 3 rfl) ?_
    refine lv_if_eq C.1 C.2.1 (tgt := 171) dX12_steps_166 (by decide) (fun hc => ?_) (fun hc => ?_)
    · have h := h.1 hc
      exact tX12_steps_L171 hL C hr hlk hb hR4 _ _ _ h (lv_sub hl [1, 2, 4, 0] rfl) hP hS
    · have h := h.2 hc
      refine lv_iconst C.1 C.2.1 (v := 0) dX12_steps_169 rfl ?_
      exact z_ri C hr hlk (bz_n bz0) hP hS ⟨bz0, h⟩ dX12_steps_170
set_option maxHeartbeats 4000000 in
set_option maxRecDepth 100000 in
theorem tX12_steps_L140 {l : Launch} {p : Program} {e : Env} {s : State} {m : MethodId} {args : Array Value} {below : List Frame} {meth : Method} {c : Code} {E : En0} {L : List Nat} (hL : Cov 54 67 L) (C : Cx E L "PlankBridgeModel" cX12_steps 7 p s m args c) (hr : meth.sig.returnType = (some .boolean)) (hlk : meth.locks = false) {b : Nat} {p1 : Int32} {Q : Int32 → St → Prop} (hb : kd b = 11) {R4 : Int32 × Int32 × Int32 × St → Prop} (hR4 : ∀ (v1 : Int32) (v2 : Int32) (v3 : Int32) (st : St), ∀ (H : Heap) (locs : List Loc) (ls : Array Slot), R4 (v1, v2, v3, st) → lv_has ls 7 [(0, .ref (E.2.1 b)), (1, .int v1), (2, .int v2), (3, .int v3)] → va_P E.1 vwCl (wd E L st) H → va_S (fA E L s.heap.size) s.heap H locs → W p l e rmX12_steps s m args below meth c H locs 0 0 (MQ below (zI E L (fun r u => bz r ∧ Q r u) (fA E L s.heap.size)) args s rmX12_steps.cells rmX12_steps.slots (fA E L s.heap.size)) (F0 m 4 ls [])) {v1 : Int32} {v2 : Int32} {v3 : Int32} {v4 : Int32}  {st : St} (H : Heap) (locs : List Loc) (ls : Array Slot) (h : wX12_steps_L140 b p1 R4 v1 v2 v3 v4 st Q) (hl : lv_has ls 7 [(0, .ref (E.2.1 b)), (1, .int v1), (2, .int v2), (3, .int v3), (4, .int v4)]) (hP : va_P E.1 vwCl (wd E L st) H) (hS : va_S (fA E L s.heap.size) s.heap H locs) : W p l e rmX12_steps s m args below meth c H locs 0 0 (MQ below (zI E L (fun r u => bz r ∧ Q r u) (fA E L s.heap.size)) args s rmX12_steps.cells rmX12_steps.slots (fA E L s.heap.size)) (F0 m 140 ls []) := by
  unfold wX12_steps_L140 at h
  refine lv_aload_n C.1 C.2.1 dX12_steps_140 rfl (lv_at hl 0 rfl) ?_
  refine gf11_5 C hP hb (m11 hb hL) q1384 dX12_steps_141 ?_
  refine lv_bipush C.1 C.2.1 (v := 16) dX12_steps_144 rfl ?_
  refine lv_iload C.1 C.2.1 dX12_steps_146 (lv_at hl 4 rfl) ?_
  refine lv_iadd C.1 C.2.1 dX12_steps_148  ?_
  obtain ⟨hi, h⟩ := h
  refine z_iald C hP (k11_2 hb) (l11_2 hb) (m11_2 hb hL) hi dX12_steps_149 ?_
  refine lv_if_ne C.1 C.2.1 (tgt := 157) dX12_steps_150 (by decide) (fun hc => ?_) (fun hc => ?_)
  · have h := h.1 hc
    refine lv_iconst C.1 C.2.1 (v := 0) dX12_steps_157 rfl ?_
    exact tX12_steps_L158 hL C hr hlk hb hR4 _ _ _ h (lv_sub hl [0, 1, 2, 3] rfl) hP hS
  · have h := h.2 hc
    refine lv_iconst C.1 C.2.1 (v := 1) dX12_steps_153 rfl ?_
    refine lv_goto C.1 C.2.1 (tgt := 158) dX12_steps_154 (by decide) ?_
    exact tX12_steps_L158 hL C hr hlk hb hR4 _ _ _ h (lv_sub hl [0, 1, 2, 3] rfl) hP hS
set_option maxHeartbeats 4000000 in
set_option maxRecDepth 100000 in
theorem tX12_steps_L93 {l : Launch} {p : Program} {e : Env} {s : State} {m : MethodId} {args : Array Value} {below : List Frame} {meth : Method} {c : Code} {E : En0} {L : List Nat} (hL : Cov 54 67 L) (C : Cx E L "PlankBridgeModel" cX12_steps 7 p s m args c) (hr : meth.sig.returnType = (some .boolean)) (hlk : meth.locks = false) {b : Nat} {p1 : Int32} {Q : Int32 → St → Prop} (hb : kd b = 11) {R4 : Int32 × Int32 × Int32 × St → Prop} (hR4 : ∀ (v1 : Int32) (v2 : Int32) (v3 : Int32) (st : St), ∀ (H : Heap) (locs : List Loc) (ls : Array Slot), R4 (v1, v2, v3, st) → lv_has ls 7 [(0, .ref (E.2.1 b)), (1, .int v1), (2, .int v2), (3, .int v3)] → va_P E.1 vwCl (wd E L st) H → va_S (fA E L s.heap.size) s.heap H locs → W p l e rmX12_steps s m args below meth c H locs 0 0 (MQ below (zI E L (fun r u => bz r ∧ Q r u) (fA E L s.heap.size)) args s rmX12_steps.cells rmX12_steps.slots (fA E L s.heap.size)) (F0 m 4 ls [])) {v1 : Int32} {v2 : Int32} {v3 : Int32} {v4 : Int32} {v5 : Int32}  {st : St} (H : Heap) (locs : List Loc) (ls : Array Slot) (h : wX12_steps_L93 b p1 R4 v1 v2 v3 v4 v5 st Q) (hl : lv_has ls 7 [(0, .ref (E.2.1 b)), (1, .int v1), (2, .int v2), (3, .int v3), (4, .int v4), (5, .int v5)]) (hP : va_P E.1 vwCl (wd E L st) H) (hS : va_S (fA E L s.heap.size) s.heap H locs) : W p l e rmX12_steps s m args below meth c H locs 0 0 (MQ below (zI E L (fun r u => bz r ∧ Q r u) (fA E L s.heap.size)) args s rmX12_steps.cells rmX12_steps.slots (fA E L s.heap.size)) (F0 m 93 ls []) := by
  unfold wX12_steps_L93 at h
  refine lv_aload_n C.1 C.2.1 dX12_steps_93 rfl (lv_at hl 0 rfl) ?_
  refine gf11_5 C hP hb (m11 hb hL) q1384 dX12_steps_94 ?_
  refine lv_bipush C.1 C.2.1 (v := 16) dX12_steps_97 rfl ?_
  refine lv_iload C.1 C.2.1 dX12_steps_99 (lv_at hl 4 rfl) ?_
  refine lv_iadd C.1 C.2.1 dX12_steps_101  ?_
  obtain ⟨hi, h⟩ := h
  refine z_iald C hP (k11_2 hb) (l11_2 hb) (m11_2 hb hL) hi dX12_steps_102 ?_
  refine lv_if_le C.1 C.2.1 (tgt := 140) dX12_steps_103 (by decide) (fun hc => ?_) (fun hc => ?_)
  · have h := h.1 hc
    exact tX12_steps_L140 hL C hr hlk hb hR4 _ _ _ h (lv_sub hl [0, 1, 2, 3, 4] rfl) hP hS
  · have h := h.2 hc
    refine lv_iload C.1 C.2.1 dX12_steps_106 (lv_at hl 5 rfl) ?_
    refine lv_iconst C.1 C.2.1 (v := 2) dX12_steps_108 rfl ?_
    refine lv_iload_n C.1 C.2.1 dX12_steps_109 rfl (lv_at hl 1 rfl) ?_
    refine lv_imul C.1 C.2.1 dX12_steps_110  ?_
    refine lv_icmp_ge C.1 C.2.1 (tgt := 140) dX12_steps_111 (by decide) (fun hc => ?_) (fun hc => ?_)
    · have h := h.1 hc
      exact tX12_steps_L140 hL C hr hlk hb hR4 _ _ _ h (lv_sub hl [0, 1, 2, 3, 4] rfl) hP hS
    · have h := h.2 hc
      refine lv_aload_n C.1 C.2.1 dX12_steps_114 rfl (lv_at hl 0 rfl) ?_
      refine gf11_5 C hP hb (m11 hb hL) q1384 dX12_steps_115 ?_
      refine lv_bipush C.1 C.2.1 (v := 16) dX12_steps_118 rfl ?_
      refine lv_iload C.1 C.2.1 dX12_steps_120 (lv_at hl 4 rfl) ?_
      refine lv_iadd C.1 C.2.1 dX12_steps_122  ?_
      refine lv_iconst C.1 C.2.1 (v := 1) dX12_steps_123 rfl ?_
      refine lv_aload_n C.1 C.2.1 dX12_steps_124 rfl (lv_at hl 0 rfl) ?_
      refine gf11_5 C hP hb (m11 hb hL) q1384 dX12_steps_125 ?_
      refine lv_bipush C.1 C.2.1 (v := 16) dX12_steps_128 rfl ?_
      refine lv_iload C.1 C.2.1 dX12_steps_130 (lv_at hl 4 rfl) ?_
      refine lv_iadd C.1 C.2.1 dX12_steps_132  ?_
      obtain ⟨hi, h⟩ := h
      refine z_iald C hP (k11_2 hb) (l11_2 hb) (m11_2 hb hL) hi dX12_steps_133 ?_
      refine lv_iconst C.1 C.2.1 (v := 1) dX12_steps_134 rfl ?_
      refine lv_isub C.1 C.2.1 dX12_steps_135  ?_
      refine va_mmax (rest := [.int ((16 : Int32) + v4), .ref (E.2.1 ((b + 2)))]) C.1 C.2.1 (C.2.2.1.trans hl.1.symm) C.2.2.2.1 (C.T q1716) (C.T q1622) (C.T q129) (C.T q1623) (Nat.le_of_ble_eq_true rfl) (Nat.le_of_ble_eq_true rfl) (Nat.zero_le _) (Nat.zero_le _) dX12_steps_136 ?_
      obtain ⟨hi, h⟩ := h
      refine z_iast C hP hS (k11_2 hb) (l11_2 hb) (m11_2 hb hL) hi dX12_steps_139 (fun H locs hP hS => ?_)
      obtain ⟨st5, est5⟩ : ∃ z, z = uI st (b + 2) ((16 : Int32) + v4 : Int32).toNatClampNeg (if 1 < ((gI st (b + 2) ((16 : Int32) + v4 : Int32).toNatClampNeg) - 1) then ((gI st (b + 2) ((16 : Int32) + v4 : Int32).toNatClampNeg) - 1) else 1) := ⟨_, rfl⟩
      rw [← est5] at hP; have h := h st5 est5
      exact tX12_steps_L140 hL C hr hlk hb hR4 _ _ _ h (lv_sub hl [0, 1, 2, 3, 4] rfl) hP hS
set_option maxHeartbeats 4000000 in
set_option maxRecDepth 100000 in
theorem tX12_steps_L39 {l : Launch} {p : Program} {e : Env} {s : State} {m : MethodId} {args : Array Value} {below : List Frame} {meth : Method} {c : Code} {E : En0} {L : List Nat} (hL : Cov 54 67 L) (C : Cx E L "PlankBridgeModel" cX12_steps 7 p s m args c) (hr : meth.sig.returnType = (some .boolean)) (hlk : meth.locks = false) {b : Nat} {p1 : Int32} {Q : Int32 → St → Prop} (hb : kd b = 11) {R4 : Int32 × Int32 × Int32 × St → Prop} (hR4 : ∀ (v1 : Int32) (v2 : Int32) (v3 : Int32) (st : St), ∀ (H : Heap) (locs : List Loc) (ls : Array Slot), R4 (v1, v2, v3, st) → lv_has ls 7 [(0, .ref (E.2.1 b)), (1, .int v1), (2, .int v2), (3, .int v3)] → va_P E.1 vwCl (wd E L st) H → va_S (fA E L s.heap.size) s.heap H locs → W p l e rmX12_steps s m args below meth c H locs 0 0 (MQ below (zI E L (fun r u => bz r ∧ Q r u) (fA E L s.heap.size)) args s rmX12_steps.cells rmX12_steps.slots (fA E L s.heap.size)) (F0 m 4 ls [])) {v1 : Int32} {v2 : Int32} {v3 : Int32} {s0 : Int32}  {st : St} (H : Heap) (locs : List Loc) (ls : Array Slot) (h : wX12_steps_L39 b p1 R4 v1 v2 v3 s0 st Q) (hl : lv_has ls 7 [(0, .ref (E.2.1 b)), (1, .int v1), (2, .int v2), (3, .int v3)]) (hP : va_P E.1 vwCl (wd E L st) H) (hS : va_S (fA E L s.heap.size) s.heap H locs) : W p l e rmX12_steps s m args below meth c H locs 0 0 (MQ below (zI E L (fun r u => bz r ∧ Q r u) (fA E L s.heap.size)) args s rmX12_steps.cells rmX12_steps.slots (fA E L s.heap.size)) (F0 m 39 ls [.int s0]) := by
  unfold wX12_steps_L39 at h
  refine lv_istore C.1 C.2.1 dX12_steps_39 hl (Nat.le_of_ble_eq_true rfl) rfl (fun ls hl => ?_)
  have hl : lv_has ls 7 [(4, .int s0), (0, .ref (E.2.1 b)), (1, .int v1), (2, .int v2), (3, .int v3)] := hl
  refine lv_aload_n C.1 C.2.1 dX12_steps_41 rfl (lv_at hl 1 rfl) ?_
  refine lv_iload C.1 C.2.1 dX12_steps_42 (lv_at hl 0 rfl) ?_
  refine z_ki hS (z_runV (As := [.int s0]) (rest := []) C hP hS (m11 hb hL) (e11 hb) rfl (tX12_bear C.2.2.2.2.2.2.1 (hL.mo (Nat.le_of_ble_eq_true rfl) (Nat.le_of_ble_eq_true rfl)) hb h) q1708 q1710 q70 q116 q1711 hdX12_bear ⟨Nat.le_of_ble_eq_true rfl, Nat.le_of_ble_eq_true rfl⟩ ⟨Nat.zero_le _, Nat.zero_le _⟩ rfl hl.1 rfl (lv_room (Nat.le_of_ble_eq_true rfl)) dX12_steps_44) (fun r2 st1 H locs h hP hS => ?_)
  refine lv_istore C.1 C.2.1 dX12_steps_47 hl (Nat.le_of_ble_eq_true rfl) rfl (fun ls hl => ?_)
  have hl : lv_has ls 7 [(5, .int r2), (4, .int s0), (0, .ref (E.2.1 b)), (1, .int v1), (2, .int v2), (3, .int v3)] := hl
  refine lv_aload_n C.1 C.2.1 dX12_steps_49 rfl (lv_at hl 2 rfl) ?_
  refine gf11_5 C hP hb (m11 hb hL) q1384 dX12_steps_50 ?_
  refine lv_bipush C.1 C.2.1 (v := 16) dX12_steps_53 rfl ?_
  refine lv_iload C.1 C.2.1 dX12_steps_55 (lv_at hl 1 rfl) ?_
  refine lv_iadd C.1 C.2.1 dX12_steps_57  ?_
  obtain ⟨hi, h⟩ := h
  refine z_iald C hP (k11_2 hb) (l11_2 hb) (m11_2 hb hL) hi dX12_steps_58 ?_
  refine lv_if_le C.1 C.2.1 (tgt := 93) dX12_steps_59 (by decide) (fun hc => ?_) (fun hc => ?_)
  · have h := h.1 hc
    exact tX12_steps_L93 hL C hr hlk hb hR4 _ _ _ h (lv_sub hl [2, 3, 4, 5, 1, 0] rfl) hP hS
  · have h := h.2 hc
    refine lv_iload C.1 C.2.1 dX12_steps_62 (lv_at hl 0 rfl) ?_
    refine lv_iload_n C.1 C.2.1 dX12_steps_64 rfl (lv_at hl 3 rfl) ?_
    refine lv_icmp_ge C.1 C.2.1 (tgt := 93) dX12_steps_65 (by decide) (fun hc => ?_) (fun hc => ?_)
    · have h := h.1 hc
      exact tX12_steps_L93 hL C hr hlk hb hR4 _ _ _ h (lv_sub hl [2, 3, 4, 5, 1, 0] rfl) hP hS
    · have h := h.2 hc
      refine lv_aload_n C.1 C.2.1 dX12_steps_68 rfl (lv_at hl 2 rfl) ?_
      refine gf11_5 C hP hb (m11 hb hL) q1384 dX12_steps_69 ?_
      refine lv_bipush C.1 C.2.1 (v := 16) dX12_steps_72 rfl ?_
      refine lv_iload C.1 C.2.1 dX12_steps_74 (lv_at hl 1 rfl) ?_
      refine lv_iadd C.1 C.2.1 dX12_steps_76  ?_
      refine lv_iconst C.1 C.2.1 (v := 0) dX12_steps_77 rfl ?_
      obtain ⟨hi, h⟩ := h
      refine z_iast C hP hS (k11_2 hb) (l11_2 hb) (m11_2 hb hL) hi dX12_steps_78 (fun H locs hP hS => ?_)
      obtain ⟨st3, est3⟩ : ∃ z, z = uI st1 (b + 2) ((16 : Int32) + s0 : Int32).toNatClampNeg 0 := ⟨_, rfl⟩
      rw [← est3] at hP; have h := h st3 est3
      refine lv_aload_n C.1 C.2.1 dX12_steps_79 rfl (lv_at hl 2 rfl) ?_
      refine gf11_5 C hP hb (m11 hb hL) q1384 dX12_steps_80 ?_
      refine lv_bipush C.1 C.2.1 (v := 28) dX12_steps_83 rfl ?_
      refine lv_iload C.1 C.2.1 dX12_steps_85 (lv_at hl 1 rfl) ?_
      refine lv_iadd C.1 C.2.1 dX12_steps_87  ?_
      refine lv_iconst C.1 C.2.1 (v := 0) dX12_steps_88 rfl ?_
      obtain ⟨hi, h⟩ := h
      refine z_iast C hP hS (k11_2 hb) (l11_2 hb) (m11_2 hb hL) hi dX12_steps_89 (fun H locs hP hS => ?_)
      obtain ⟨st4, est4⟩ : ∃ z, z = uI st3 (b + 2) ((28 : Int32) + s0 : Int32).toNatClampNeg 0 := ⟨_, rfl⟩
      rw [← est4] at hP; have h := h st4 est4
      refine lv_goto C.1 C.2.1 (tgt := 140) dX12_steps_90 (by decide) ?_
      exact tX12_steps_L140 hL C hr hlk hb hR4 _ _ _ h (lv_sub hl [2, 3, 4, 5, 1] rfl) hP hS
set_option maxHeartbeats 4000000 in
set_option maxRecDepth 100000 in
theorem tX12_steps_L4 {l : Launch} {p : Program} {e : Env} {s : State} {m : MethodId} {args : Array Value} {below : List Frame} {meth : Method} {c : Code} {E : En0} {L : List Nat} (hL : Cov 54 67 L) (C : Cx E L "PlankBridgeModel" cX12_steps 7 p s m args c) (hr : meth.sig.returnType = (some .boolean)) (hlk : meth.locks = false) {b : Nat} {p1 : Int32} {Q : Int32 → St → Prop} (hb : kd b = 11) : ∀ (n : Nat) (v1 : Int32) (v2 : Int32) (v3 : Int32) (st : St) (H : Heap) (locs : List Loc) (ls : Array Slot), lp (fun R s => wX12_steps_L4 b p1 R s.1 s.2.1 s.2.2.1 s.2.2.2 Q) n (v1, v2, v3, st) → lv_has ls 7 [(0, .ref (E.2.1 b)), (1, .int v1), (2, .int v2), (3, .int v3)] → va_P E.1 vwCl (wd E L st) H → va_S (fA E L s.heap.size) s.heap H locs → W p l e rmX12_steps s m args below meth c H locs 0 0 (MQ below (zI E L (fun r u => bz r ∧ Q r u) (fA E L s.heap.size)) args s rmX12_steps.cells rmX12_steps.slots (fA E L s.heap.size)) (F0 m 4 ls []) := by
  intro n
  induction n with
  | zero => exact fun _ _ _ _ _ _ _ h _ _ _ => False.elim ‹_›
  | succ n ih =>
    intro v1 v2 v3 st  H locs ls h hl hP hS
    have hR4 := ih
    replace h : wX12_steps_L4 b p1 (lp (fun R s => wX12_steps_L4 b p1 R s.1 s.2.1 s.2.2.1 s.2.2.2 Q) n) v1 v2 v3 st Q := h
    unfold wX12_steps_L4 at h
    refine lv_iload_n C.1 C.2.1 dX12_steps_4 rfl (lv_at hl 3 rfl) ?_
    refine lv_aload_n C.1 C.2.1 dX12_steps_5 rfl (lv_at hl 0 rfl) ?_
    refine gf11_4 C hP hb (m11 hb hL) q1383 dX12_steps_6 ?_
    refine gf9_1 C hP (show kd 60 = 9 from rfl) (hL 60 (Nat.le_of_ble_eq_true rfl) (Nat.le_of_ble_eq_true rfl)) q1321 dX12_steps_9 ?_
    refine lv_icmp_ge C.1 C.2.1 (tgt := 180) dX12_steps_12 (by decide) (fun hc => ?_) (fun hc => ?_)
    · have h := h.1 hc
      refine lv_iconst C.1 C.2.1 (v := 1) dX12_steps_180 rfl ?_
      exact z_ri C hr hlk (bz_n bz1) hP hS ⟨bz1, h⟩ dX12_steps_181
    · have h := h.2 hc
      refine lv_aload_n C.1 C.2.1 dX12_steps_15 rfl (lv_at hl 0 rfl) ?_
      refine gf11_5 C hP hb (m11 hb hL) q1384 dX12_steps_16 ?_
      refine lv_iconst C.1 C.2.1 (v := 0) dX12_steps_19 rfl ?_
      obtain ⟨hi, h⟩ := h
      refine z_iald C hP (k11_2 hb) (l11_2 hb) (m11_2 hb hL) hi dX12_steps_20 ?_
      refine lv_if_ne C.1 C.2.1 (tgt := 28) dX12_steps_21 (by decide) (fun hc => ?_) (fun hc => ?_)
      · have h := h.1 hc
        refine lv_aload_n C.1 C.2.1 dX12_steps_28 rfl (lv_at hl 0 rfl) ?_
        refine gf11_4 C hP hb (m11 hb hL) q1383 dX12_steps_29 ?_
        refine gf9_1 C hP (show kd 60 = 9 from rfl) (hL 60 (Nat.le_of_ble_eq_true rfl) (Nat.le_of_ble_eq_true rfl)) q1321 dX12_steps_32 ?_
        refine lv_iconst C.1 C.2.1 (v := 1) dX12_steps_35 rfl ?_
        refine lv_isub C.1 C.2.1 dX12_steps_36  ?_
        refine lv_iload_n C.1 C.2.1 dX12_steps_37 rfl (lv_at hl 3 rfl) ?_
        refine lv_isub C.1 C.2.1 dX12_steps_38  ?_
        exact tX12_steps_L39 hL C hr hlk hb hR4 _ _ _ h hl hP hS
      · have h := h.2 hc
        refine lv_iload_n C.1 C.2.1 dX12_steps_24 rfl (lv_at hl 3 rfl) ?_
        refine lv_goto C.1 C.2.1 (tgt := 39) dX12_steps_25 (by decide) ?_
        exact tX12_steps_L39 hL C hr hlk hb hR4 _ _ _ h hl hP hS
set_option maxHeartbeats 4000000 in
set_option maxRecDepth 100000 in
theorem tX12_steps {l : Launch} {E : En0} {L : List Nat} (hE : EK E L) (hL : Cov 54 67 L) {b : Nat} {p1 : Int32} {st : St} {Q : Int32 → St → Prop} (hb : kd b = 11) (h : wX12_steps b p1 st Q) : Mz l yX12_steps cX12_steps 7 (some .boolean) rmX12_steps E L [.ref (E.2.1 b), .int p1] st (zI E L (fun r u => bz r ∧ Q r u)) := by
  refine Mz.of hE (by decide) (Nat.le_of_ble_eq_true rfl) ?_
  intro p e s m below meth c ls C hr hlk _ hl hP
  replace C : Cx E L "PlankBridgeModel" cX12_steps 7 p s m _ c := C
  have hS : va_S (fA E L s.heap.size) s.heap s.heap [] := va_S.rf
  replace hl : lv_has ls 7 [(0, .ref (E.2.1 b)), (1, .int p1)] := hl
  unfold wX12_steps at h
  refine lv_iconst C.1 C.2.1 (v := 0) dX12_steps_0 rfl ?_
  refine lv_istore_n C.1 C.2.1 dX12_steps_1 rfl hl (Nat.le_of_ble_eq_true rfl) rfl (fun ls hl => ?_)
  have hl : lv_has ls 7 [(2, .int 0), (0, .ref (E.2.1 b)), (1, .int p1)] := hl
  refine lv_iconst C.1 C.2.1 (v := 0) dX12_steps_2 rfl ?_
  refine lv_istore_n C.1 C.2.1 dX12_steps_3 rfl hl (Nat.le_of_ble_eq_true rfl) rfl (fun ls hl => ?_)
  have hl : lv_has ls 7 [(3, .int 0), (2, .int 0), (0, .ref (E.2.1 b)), (1, .int p1)] := hl
  obtain ⟨n, h⟩ := h
  exact tX12_steps_L4 hL C hr hlk hb n p1 0 0 st _ _ _ h (lv_sub hl [2, 3, 1, 0] rfl) hP hS
def rmX12_cross : Room := { frames := 3, cells := 0, slots := 0, locals := 68 }
def wX12_cross_L118 (b : Nat) (p1 : Int32) (p2 : Int32)  (v3 : Int32) (v4 : Int32) (st : St) (Q : Int32 → St → Prop) : Prop :=
  (vp_in 1 50 ∧ (vp_in 1 50 ∧ ∀ st9, st9 = uI st (b + 2) (1 : Int32).toNatClampNeg ((gI st (b + 2) (1 : Int32).toNatClampNeg) - v3) → (wX12_goBy b v3 st9 (fun st10 => (bz v4 ∧ Q v4 st10)))))
def wX12_cross_L95 (b : Nat) (p1 : Int32) (p2 : Int32)  (v3 : Int32) (v4 : Int32) (st : St) (Q : Int32 → St → Prop) : Prop :=
  (vp_in 4 50 ∧ (vp_in 4 50 ∧ ∀ st11, st11 = uI st (b + 2) (4 : Int32).toNatClampNeg ((gI st (b + 2) (4 : Int32).toNatClampNeg) + 1) → wX12_cross_L118 b p1 p2 v3 v4 st11 Q))
def wX12_cross_L35 (b : Nat) (p1 : Int32) (p2 : Int32)  (v1 : Int32) (v2 : Int32) (v3 : Int32) (s0 : Int32) (s1 : Int32) (st : St) (Q : Int32 → St → Prop) : Prop :=
  (wX12_steps b (s1 + s0) st (fun r4 st3 => ((r4 = 0 → (vp_in 5 50 ∧ (vp_in 5 50 ∧ ∀ st5, st5 = uI st3 (b + 2) (5 : Int32).toNatClampNeg ((gI st3 (b + 2) (5 : Int32).toNatClampNeg) + 1) → wX12_cross_L118 b p1 p2 v3 r4 st5 Q))) ∧ (¬ r4 = 0 → (vp_in 0 50 ∧ (vp_in 0 50 ∧ ∀ st6, st6 = uI st3 (b + 2) (0 : Int32).toNatClampNeg ((1 : Int32) - (gI st3 (b + 2) (0 : Int32).toNatClampNeg)) → (vp_in 0 50 ∧ (vp_in ((8 : Int32) + v1) 50 ∧ ∀ st7, st7 = uI st6 (b + 2) ((8 : Int32) + v1 : Int32).toNatClampNeg (gI st6 (b + 2) (0 : Int32).toNatClampNeg) → ((v2 = (-1) → wX12_cross_L95 b p1 p2 v3 r4 st7 Q) ∧ (¬ v2 = (-1) → (vp_in 0 50 ∧ (vp_in ((8 : Int32) + v2) 50 ∧ ∀ st8, st8 = uI st7 (b + 2) ((8 : Int32) + v2 : Int32).toNatClampNeg (gI st7 (b + 2) (0 : Int32).toNatClampNeg) → wX12_cross_L95 b p1 p2 v3 r4 st8 Q))))))))))))
def wX12_cross (b : Nat) (p1 : Int32) (p2 : Int32) (st : St) (Q : Int32 → St → Prop) : Prop :=
  (wX12_takes b p1 p2 st (fun r2 st1 => (vp_in p1 9 ∧ ((¬ p2 = (-1) → (vp_in p2 9 ∧ wX12_cross_L35 b p1 p2 p1 p2 r2 (gI st1 61 (p2 : Int32).toNatClampNeg) (gI st1 61 (p1 : Int32).toNatClampNeg) st1 Q)) ∧ (p2 = (-1) → wX12_cross_L35 b p1 p2 p1 p2 r2 0 (gI st1 61 (p1 : Int32).toNatClampNeg) st1 Q)))))
theorem hdX12_cross : yX12_cross.cls = "PlankBridgeModel" ∧ yX12_cross.cls ≠ "java/lang/invoke/MethodHandle" ∧ yX12_cross.cls ≠ "java/lang/invoke/VarHandle" ∧ (parseMethodDescriptor yX12_cross.desc).map (fun d => d.parameters.length) = some 2 := by decide +kernel
set_option maxHeartbeats 4000000 in
set_option maxRecDepth 100000 in
theorem tX12_cross_L118 {l : Launch} {p : Program} {e : Env} {s : State} {m : MethodId} {args : Array Value} {below : List Frame} {meth : Method} {c : Code} {E : En0} {L : List Nat} (hL : Cov 54 67 L) (C : Cx E L "PlankBridgeModel" cX12_cross 5 p s m args c) (hr : meth.sig.returnType = (some .boolean)) (hlk : meth.locks = false) {b : Nat} {p1 : Int32} {p2 : Int32} {Q : Int32 → St → Prop} (hb : kd b = 11) {v3 : Int32} {v4 : Int32}  {st : St} (H : Heap) (locs : List Loc) (ls : Array Slot) (h : wX12_cross_L118 b p1 p2 v3 v4 st Q) (hl : lv_has ls 5 [(0, .ref (E.2.1 b)), (3, .int v3), (4, .int v4)]) (hP : va_P E.1 vwCl (wd E L st) H) (hS : va_S (fA E L s.heap.size) s.heap H locs) : W p l e rmX12_cross s m args below meth c H locs 0 0 (MQ below (zI E L (fun r u => bz r ∧ Q r u) (fA E L s.heap.size)) args s rmX12_cross.cells rmX12_cross.slots (fA E L s.heap.size)) (F0 m 118 ls []) := by
  unfold wX12_cross_L118 at h
  refine lv_aload_n C.1 C.2.1 dX12_cross_118 rfl (lv_at hl 0 rfl) ?_
  refine gf11_5 C hP hb (m11 hb hL) q1384 dX12_cross_119 ?_
  refine lv_iconst C.1 C.2.1 (v := 1) dX12_cross_122 rfl ?_
  refine lv_dup2_11 C.1 C.2.1 dX12_cross_123 rfl rfl ?_
  obtain ⟨hi, h⟩ := h
  refine z_iald C hP (k11_2 hb) (l11_2 hb) (m11_2 hb hL) hi dX12_cross_124 ?_
  refine lv_iload_n C.1 C.2.1 dX12_cross_125 rfl (lv_at hl 1 rfl) ?_
  refine lv_isub C.1 C.2.1 dX12_cross_126  ?_
  obtain ⟨hi, h⟩ := h
  refine z_iast C hP hS (k11_2 hb) (l11_2 hb) (m11_2 hb hL) hi dX12_cross_127 (fun H locs hP hS => ?_)
  obtain ⟨st9, est9⟩ : ∃ z, z = uI st (b + 2) (1 : Int32).toNatClampNeg ((gI st (b + 2) (1 : Int32).toNatClampNeg) - v3) := ⟨_, rfl⟩
  rw [← est9] at hP; have h := h st9 est9
  refine lv_aload_n C.1 C.2.1 dX12_cross_128 rfl (lv_at hl 0 rfl) ?_
  refine lv_iload_n C.1 C.2.1 dX12_cross_129 rfl (lv_at hl 1 rfl) ?_
  refine z_kv hS (z_runV (As := [.int v3]) (rest := []) C hP hS (m11 hb hL) (e11 hb) rfl (tX12_goBy C.2.2.2.2.2.2.1 (hL.mo (Nat.le_of_ble_eq_true rfl) (Nat.le_of_ble_eq_true rfl)) hb h) q1797 q1799 q81 q116 q1800 hdX12_goBy ⟨Nat.le_of_ble_eq_true rfl, Nat.le_of_ble_eq_true rfl⟩ ⟨Nat.zero_le _, Nat.zero_le _⟩ rfl hl.1 rfl (lv_room (Nat.le_of_ble_eq_true rfl)) dX12_cross_130) (fun st10 H locs h hP hS => ?_)
  refine lv_iload C.1 C.2.1 dX12_cross_133 (lv_at hl 2 rfl) ?_
  exact z_ri C hr hlk (bz_n h.1) hP hS h dX12_cross_135
set_option maxHeartbeats 4000000 in
set_option maxRecDepth 100000 in
theorem tX12_cross_L95 {l : Launch} {p : Program} {e : Env} {s : State} {m : MethodId} {args : Array Value} {below : List Frame} {meth : Method} {c : Code} {E : En0} {L : List Nat} (hL : Cov 54 67 L) (C : Cx E L "PlankBridgeModel" cX12_cross 5 p s m args c) (hr : meth.sig.returnType = (some .boolean)) (hlk : meth.locks = false) {b : Nat} {p1 : Int32} {p2 : Int32} {Q : Int32 → St → Prop} (hb : kd b = 11) {v3 : Int32} {v4 : Int32}  {st : St} (H : Heap) (locs : List Loc) (ls : Array Slot) (h : wX12_cross_L95 b p1 p2 v3 v4 st Q) (hl : lv_has ls 5 [(0, .ref (E.2.1 b)), (3, .int v3), (4, .int v4)]) (hP : va_P E.1 vwCl (wd E L st) H) (hS : va_S (fA E L s.heap.size) s.heap H locs) : W p l e rmX12_cross s m args below meth c H locs 0 0 (MQ below (zI E L (fun r u => bz r ∧ Q r u) (fA E L s.heap.size)) args s rmX12_cross.cells rmX12_cross.slots (fA E L s.heap.size)) (F0 m 95 ls []) := by
  unfold wX12_cross_L95 at h
  refine lv_aload_n C.1 C.2.1 dX12_cross_95 rfl (lv_at hl 0 rfl) ?_
  refine gf11_5 C hP hb (m11 hb hL) q1384 dX12_cross_96 ?_
  refine lv_iconst C.1 C.2.1 (v := 4) dX12_cross_99 rfl ?_
  refine lv_dup2_11 C.1 C.2.1 dX12_cross_100 rfl rfl ?_
  obtain ⟨hi, h⟩ := h
  refine z_iald C hP (k11_2 hb) (l11_2 hb) (m11_2 hb hL) hi dX12_cross_101 ?_
  refine lv_iconst C.1 C.2.1 (v := 1) dX12_cross_102 rfl ?_
  refine lv_iadd C.1 C.2.1 dX12_cross_103  ?_
  obtain ⟨hi, h⟩ := h
  refine z_iast C hP hS (k11_2 hb) (l11_2 hb) (m11_2 hb hL) hi dX12_cross_104 (fun H locs hP hS => ?_)
  obtain ⟨st11, est11⟩ : ∃ z, z = uI st (b + 2) (4 : Int32).toNatClampNeg ((gI st (b + 2) (4 : Int32).toNatClampNeg) + 1) := ⟨_, rfl⟩
  rw [← est11] at hP; have h := h st11 est11
  refine lv_goto C.1 C.2.1 (tgt := 118) dX12_cross_105 (by decide) ?_
  exact tX12_cross_L118 hL C hr hlk hb _ _ _ h hl hP hS
set_option maxHeartbeats 4000000 in
set_option maxRecDepth 100000 in
theorem tX12_cross_L35 {l : Launch} {p : Program} {e : Env} {s : State} {m : MethodId} {args : Array Value} {below : List Frame} {meth : Method} {c : Code} {E : En0} {L : List Nat} (hL : Cov 54 67 L) (C : Cx E L "PlankBridgeModel" cX12_cross 5 p s m args c) (hr : meth.sig.returnType = (some .boolean)) (hlk : meth.locks = false) {b : Nat} {p1 : Int32} {p2 : Int32} {Q : Int32 → St → Prop} (hb : kd b = 11) {v1 : Int32} {v2 : Int32} {v3 : Int32} {s0 : Int32} {s1 : Int32}  {st : St} (H : Heap) (locs : List Loc) (ls : Array Slot) (h : wX12_cross_L35 b p1 p2 v1 v2 v3 s0 s1 st Q) (hl : lv_has ls 5 [(0, .ref (E.2.1 b)), (1, .int v1), (2, .int v2), (3, .int v3)]) (hP : va_P E.1 vwCl (wd E L st) H) (hS : va_S (fA E L s.heap.size) s.heap H locs) : W p l e rmX12_cross s m args below meth c H locs 0 0 (MQ below (zI E L (fun r u => bz r ∧ Q r u) (fA E L s.heap.size)) args s rmX12_cross.cells rmX12_cross.slots (fA E L s.heap.size)) (F0 m 35 ls [.int s0, .int s1, .ref (E.2.1 b)]) := by
  unfold wX12_cross_L35 at h
  refine lv_iadd C.1 C.2.1 dX12_cross_35  ?_
  refine z_ki hS (z_runV (As := [.int (s1 + s0)]) (rest := []) C hP hS (m11 hb hL) (e11 hb) rfl (tX12_steps C.2.2.2.2.2.2.1 (hL.mo (Nat.le_of_ble_eq_true rfl) (Nat.le_of_ble_eq_true rfl)) hb h) q1793 q1795 q80 q116 q1796 hdX12_steps ⟨Nat.le_of_ble_eq_true rfl, Nat.le_of_ble_eq_true rfl⟩ ⟨Nat.zero_le _, Nat.zero_le _⟩ rfl hl.1 rfl (lv_room (Nat.le_of_ble_eq_true rfl)) dX12_cross_36) (fun r4 st3 H locs h hP hS => ?_)
  obtain ⟨hr4, h⟩ := h
  refine lv_istore C.1 C.2.1 dX12_cross_39 hl (Nat.le_of_ble_eq_true rfl) rfl (fun ls hl => ?_)
  have hl : lv_has ls 5 [(4, .int r4), (0, .ref (E.2.1 b)), (1, .int v1), (2, .int v2), (3, .int v3)] := hl
  refine lv_iload C.1 C.2.1 dX12_cross_41 (lv_at hl 0 rfl) ?_
  refine lv_if_eq C.1 C.2.1 (tgt := 108) dX12_cross_43 (by decide) (fun hc => ?_) (fun hc => ?_)
  · have h := h.1 hc
    refine lv_aload_n C.1 C.2.1 dX12_cross_108 rfl (lv_at hl 1 rfl) ?_
    refine gf11_5 C hP hb (m11 hb hL) q1384 dX12_cross_109 ?_
    refine lv_iconst C.1 C.2.1 (v := 5) dX12_cross_112 rfl ?_
    refine lv_dup2_11 C.1 C.2.1 dX12_cross_113 rfl rfl ?_
    obtain ⟨hi, h⟩ := h
    refine z_iald C hP (k11_2 hb) (l11_2 hb) (m11_2 hb hL) hi dX12_cross_114 ?_
    refine lv_iconst C.1 C.2.1 (v := 1) dX12_cross_115 rfl ?_
    refine lv_iadd C.1 C.2.1 dX12_cross_116  ?_
    obtain ⟨hi, h⟩ := h
    refine z_iast C hP hS (k11_2 hb) (l11_2 hb) (m11_2 hb hL) hi dX12_cross_117 (fun H locs hP hS => ?_)
    obtain ⟨st5, est5⟩ : ∃ z, z = uI st3 (b + 2) (5 : Int32).toNatClampNeg ((gI st3 (b + 2) (5 : Int32).toNatClampNeg) + 1) := ⟨_, rfl⟩
    rw [← est5] at hP; have h := h st5 est5
    exact tX12_cross_L118 hL C hr hlk hb _ _ _ h (lv_sub hl [1, 4, 0] rfl) hP hS
  · have h := h.2 hc
    refine lv_aload_n C.1 C.2.1 dX12_cross_46 rfl (lv_at hl 1 rfl) ?_
    refine gf11_5 C hP hb (m11 hb hL) q1384 dX12_cross_47 ?_
    refine lv_iconst C.1 C.2.1 (v := 0) dX12_cross_50 rfl ?_
    refine lv_iconst C.1 C.2.1 (v := 1) dX12_cross_51 rfl ?_
    refine lv_aload_n C.1 C.2.1 dX12_cross_52 rfl (lv_at hl 1 rfl) ?_
    refine gf11_5 C hP hb (m11 hb hL) q1384 dX12_cross_53 ?_
    refine lv_iconst C.1 C.2.1 (v := 0) dX12_cross_56 rfl ?_
    obtain ⟨hi, h⟩ := h
    refine z_iald C hP (k11_2 hb) (l11_2 hb) (m11_2 hb hL) hi dX12_cross_57 ?_
    refine lv_isub C.1 C.2.1 dX12_cross_58  ?_
    obtain ⟨hi, h⟩ := h
    refine z_iast C hP hS (k11_2 hb) (l11_2 hb) (m11_2 hb hL) hi dX12_cross_59 (fun H locs hP hS => ?_)
    obtain ⟨st6, est6⟩ : ∃ z, z = uI st3 (b + 2) (0 : Int32).toNatClampNeg ((1 : Int32) - (gI st3 (b + 2) (0 : Int32).toNatClampNeg)) := ⟨_, rfl⟩
    rw [← est6] at hP; have h := h st6 est6
    refine lv_aload_n C.1 C.2.1 dX12_cross_60 rfl (lv_at hl 1 rfl) ?_
    refine gf11_5 C hP hb (m11 hb hL) q1384 dX12_cross_61 ?_
    refine lv_bipush C.1 C.2.1 (v := 8) dX12_cross_64 rfl ?_
    refine lv_iload_n C.1 C.2.1 dX12_cross_66 rfl (lv_at hl 2 rfl) ?_
    refine lv_iadd C.1 C.2.1 dX12_cross_67  ?_
    refine lv_aload_n C.1 C.2.1 dX12_cross_68 rfl (lv_at hl 1 rfl) ?_
    refine gf11_5 C hP hb (m11 hb hL) q1384 dX12_cross_69 ?_
    refine lv_iconst C.1 C.2.1 (v := 0) dX12_cross_72 rfl ?_
    obtain ⟨hi, h⟩ := h
    refine z_iald C hP (k11_2 hb) (l11_2 hb) (m11_2 hb hL) hi dX12_cross_73 ?_
    obtain ⟨hi, h⟩ := h
    refine z_iast C hP hS (k11_2 hb) (l11_2 hb) (m11_2 hb hL) hi dX12_cross_74 (fun H locs hP hS => ?_)
    obtain ⟨st7, est7⟩ : ∃ z, z = uI st6 (b + 2) ((8 : Int32) + v1 : Int32).toNatClampNeg (gI st6 (b + 2) (0 : Int32).toNatClampNeg) := ⟨_, rfl⟩
    rw [← est7] at hP; have h := h st7 est7
    refine lv_iload_n C.1 C.2.1 dX12_cross_75 rfl (lv_at hl 3 rfl) ?_
    refine lv_iconst C.1 C.2.1 (v := (-1)) dX12_cross_76 rfl ?_
    refine lv_icmp_eq C.1 C.2.1 (tgt := 95) dX12_cross_77 (by decide) (fun hc => ?_) (fun hc => ?_)
    · have h := h.1 hc
      exact tX12_cross_L95 hL C hr hlk hb _ _ _ h (lv_sub hl [1, 4, 0] rfl) hP hS
    · have h := h.2 hc
      refine lv_aload_n C.1 C.2.1 dX12_cross_80 rfl (lv_at hl 1 rfl) ?_
      refine gf11_5 C hP hb (m11 hb hL) q1384 dX12_cross_81 ?_
      refine lv_bipush C.1 C.2.1 (v := 8) dX12_cross_84 rfl ?_
      refine lv_iload_n C.1 C.2.1 dX12_cross_86 rfl (lv_at hl 3 rfl) ?_
      refine lv_iadd C.1 C.2.1 dX12_cross_87  ?_
      refine lv_aload_n C.1 C.2.1 dX12_cross_88 rfl (lv_at hl 1 rfl) ?_
      refine gf11_5 C hP hb (m11 hb hL) q1384 dX12_cross_89 ?_
      refine lv_iconst C.1 C.2.1 (v := 0) dX12_cross_92 rfl ?_
      obtain ⟨hi, h⟩ := h
      refine z_iald C hP (k11_2 hb) (l11_2 hb) (m11_2 hb hL) hi dX12_cross_93 ?_
      obtain ⟨hi, h⟩ := h
      refine z_iast C hP hS (k11_2 hb) (l11_2 hb) (m11_2 hb hL) hi dX12_cross_94 (fun H locs hP hS => ?_)
      obtain ⟨st8, est8⟩ : ∃ z, z = uI st7 (b + 2) ((8 : Int32) + v2 : Int32).toNatClampNeg (gI st7 (b + 2) (0 : Int32).toNatClampNeg) := ⟨_, rfl⟩
      rw [← est8] at hP; have h := h st8 est8
      exact tX12_cross_L95 hL C hr hlk hb _ _ _ h (lv_sub hl [1, 4, 0] rfl) hP hS
set_option maxHeartbeats 4000000 in
set_option maxRecDepth 100000 in
theorem tX12_cross {l : Launch} {E : En0} {L : List Nat} (hE : EK E L) (hL : Cov 54 67 L) {b : Nat} {p1 : Int32} {p2 : Int32} {st : St} {Q : Int32 → St → Prop} (hb : kd b = 11) (h : wX12_cross b p1 p2 st Q) : Mz l yX12_cross cX12_cross 5 (some .boolean) rmX12_cross E L [.ref (E.2.1 b), .int p1, .int p2] st (zI E L (fun r u => bz r ∧ Q r u)) := by
  refine Mz.of hE (by decide) (Nat.le_of_ble_eq_true rfl) ?_
  intro p e s m below meth c ls C hr hlk _ hl hP
  replace C : Cx E L "PlankBridgeModel" cX12_cross 5 p s m _ c := C
  have hS : va_S (fA E L s.heap.size) s.heap s.heap [] := va_S.rf
  replace hl : lv_has ls 5 [(0, .ref (E.2.1 b)), (1, .int p1), (2, .int p2)] := hl
  unfold wX12_cross at h
  refine lv_aload_n C.1 C.2.1 dX12_cross_0 rfl (lv_at hl 0 rfl) ?_
  refine lv_iload_n C.1 C.2.1 dX12_cross_1 rfl (lv_at hl 1 rfl) ?_
  refine lv_iload_n C.1 C.2.1 dX12_cross_2 rfl (lv_at hl 2 rfl) ?_
  refine z_ki hS (z_runV (As := [.int p1, .int p2]) (rest := []) C hP hS (m11 hb hL) (e11 hb) rfl (tX12_takes C.2.2.2.2.2.2.1 (hL.mo (Nat.le_of_ble_eq_true rfl) (Nat.le_of_ble_eq_true rfl)) hb h) q1781 q1783 q77 q116 q1784 hdX12_takes ⟨Nat.le_of_ble_eq_true rfl, Nat.le_of_ble_eq_true rfl⟩ ⟨Nat.zero_le _, Nat.zero_le _⟩ rfl hl.1 rfl (lv_room (Nat.le_of_ble_eq_true rfl)) dX12_cross_3) (fun r2 st1 H locs h hP hS => ?_)
  refine lv_istore_n C.1 C.2.1 dX12_cross_6 rfl hl (Nat.le_of_ble_eq_true rfl) rfl (fun ls hl => ?_)
  have hl : lv_has ls 5 [(3, .int r2), (0, .ref (E.2.1 b)), (1, .int p1), (2, .int p2)] := hl
  refine lv_aload_n C.1 C.2.1 dX12_cross_7 rfl (lv_at hl 1 rfl) ?_
  refine lv_aload_n C.1 C.2.1 dX12_cross_8 rfl (lv_at hl 1 rfl) ?_
  refine gf11_4 C hP hb (m11 hb hL) q1383 dX12_cross_9 ?_
  refine gf9_4 C hP (show kd 60 = 9 from rfl) (hL 60 (Nat.le_of_ble_eq_true rfl) (Nat.le_of_ble_eq_true rfl)) q1328 dX12_cross_12 ?_
  refine lv_iload_n C.1 C.2.1 dX12_cross_15 rfl (lv_at hl 2 rfl) ?_
  obtain ⟨hi, h⟩ := h
  refine z_iald C hP (show kd 61 = 20 from rfl) (show ln 61 = 9 from rfl) (hL 61 (Nat.le_of_ble_eq_true rfl) (Nat.le_of_ble_eq_true rfl)) hi dX12_cross_16 ?_
  refine lv_iload_n C.1 C.2.1 dX12_cross_17 rfl (lv_at hl 3 rfl) ?_
  refine lv_iconst C.1 C.2.1 (v := (-1)) dX12_cross_18 rfl ?_
  refine lv_icmp_ne C.1 C.2.1 (tgt := 26) dX12_cross_19 (by decide) (fun hc => ?_) (fun hc => ?_)
  · have h := h.1 hc
    refine lv_aload_n C.1 C.2.1 dX12_cross_26 rfl (lv_at hl 1 rfl) ?_
    refine gf11_4 C hP hb (m11 hb hL) q1383 dX12_cross_27 ?_
    refine gf9_4 C hP (show kd 60 = 9 from rfl) (hL 60 (Nat.le_of_ble_eq_true rfl) (Nat.le_of_ble_eq_true rfl)) q1328 dX12_cross_30 ?_
    refine lv_iload_n C.1 C.2.1 dX12_cross_33 rfl (lv_at hl 3 rfl) ?_
    obtain ⟨hi, h⟩ := h
    refine z_iald C hP (show kd 61 = 20 from rfl) (show ln 61 = 9 from rfl) (hL 61 (Nat.le_of_ble_eq_true rfl) (Nat.le_of_ble_eq_true rfl)) hi dX12_cross_34 ?_
    exact tX12_cross_L35 hL C hr hlk hb _ _ _ h (lv_sub hl [1, 2, 3, 0] rfl) hP hS
  · have h := h.2 hc
    refine lv_iconst C.1 C.2.1 (v := 0) dX12_cross_22 rfl ?_
    refine lv_goto C.1 C.2.1 (tgt := 35) dX12_cross_23 (by decide) ?_
    exact tX12_cross_L35 hL C hr hlk hb _ _ _ h (lv_sub hl [1, 2, 3, 0] rfl) hP hS
def rmX12_near : Room := { frames := 0, cells := 0, slots := 0, locals := 0 }
def wX12_near_L4 (b : Nat)  (R4 : Int32 × Int32 × St → Prop) (v1 : Int32) (v2 : Int32) (st : St) (Q : Int32 → St → Prop) : Prop :=
  (((gI st 60 0) ≤ v2 → Q v1 st) ∧ (¬ (gI st 60 0) ≤ v2 → (vp_in ((8 : Int32) + v2) 50 ∧ (∀ x1 : Int32, x1 = (v1 + ((1 : Int32) - (gI st (b + 2) ((8 : Int32) + v2 : Int32).toNatClampNeg))) → (∀ x2 : Int32, x2 = v2 + 1 → R4 (x1, x2, st))))))
def wX12_near (b : Nat) (st : St) (Q : Int32 → St → Prop) : Prop :=
  (∃ n, lp (fun R s => wX12_near_L4 b R s.1 s.2.1 s.2.2 Q) n (0, 0, st))
theorem hdX12_near : yX12_near.cls = "PlankBridgeModel" ∧ yX12_near.cls ≠ "java/lang/invoke/MethodHandle" ∧ yX12_near.cls ≠ "java/lang/invoke/VarHandle" ∧ (parseMethodDescriptor yX12_near.desc).map (fun d => d.parameters.length) = some 0 := by decide +kernel
set_option maxHeartbeats 4000000 in
set_option maxRecDepth 100000 in
theorem tX12_near_L4 {l : Launch} {p : Program} {e : Env} {s : State} {m : MethodId} {args : Array Value} {below : List Frame} {meth : Method} {c : Code} {E : En0} {L : List Nat} (hL : Cov 54 67 L) (C : Cx E L "PlankBridgeModel" cX12_near 3 p s m args c) (hr : meth.sig.returnType = (some .int)) (hlk : meth.locks = false) {b : Nat} {Q : Int32 → St → Prop} (hb : kd b = 11) : ∀ (n : Nat) (v1 : Int32) (v2 : Int32) (st : St) (H : Heap) (locs : List Loc) (ls : Array Slot), lp (fun R s => wX12_near_L4 b R s.1 s.2.1 s.2.2 Q) n (v1, v2, st) → lv_has ls 3 [(0, .ref (E.2.1 b)), (1, .int v1), (2, .int v2)] → va_P E.1 vwCl (wd E L st) H → va_S (fA E L s.heap.size) s.heap H locs → W p l e rmX12_near s m args below meth c H locs 0 0 (MQ below (zI E L Q (fA E L s.heap.size)) args s rmX12_near.cells rmX12_near.slots (fA E L s.heap.size)) (F0 m 4 ls []) := by
  intro n
  induction n with
  | zero => exact fun _ _ _ _ _ _ h _ _ _ => False.elim ‹_›
  | succ n ih =>
    intro v1 v2 st  H locs ls h hl hP hS
    have hR4 := ih
    replace h : wX12_near_L4 b (lp (fun R s => wX12_near_L4 b R s.1 s.2.1 s.2.2 Q) n) v1 v2 st Q := h
    unfold wX12_near_L4 at h
    refine lv_iload_n C.1 C.2.1 dX12_near_4 rfl (lv_at hl 2 rfl) ?_
    refine lv_aload_n C.1 C.2.1 dX12_near_5 rfl (lv_at hl 0 rfl) ?_
    refine gf11_4 C hP hb (m11 hb hL) q1383 dX12_near_6 ?_
    refine gf9_0 C hP (show kd 60 = 9 from rfl) (hL 60 (Nat.le_of_ble_eq_true rfl) (Nat.le_of_ble_eq_true rfl)) q1320 dX12_near_9 ?_
    refine lv_icmp_ge C.1 C.2.1 (tgt := 35) dX12_near_12 (by decide) (fun hc => ?_) (fun hc => ?_)
    · have h := h.1 hc
      refine lv_iload_n C.1 C.2.1 dX12_near_35 rfl (lv_at hl 1 rfl) ?_
      exact z_ri C hr hlk rfl hP hS h dX12_near_36
    · have h := h.2 hc
      refine lv_iload_n C.1 C.2.1 dX12_near_15 rfl (lv_at hl 1 rfl) ?_
      refine lv_iconst C.1 C.2.1 (v := 1) dX12_near_16 rfl ?_
      refine lv_aload_n C.1 C.2.1 dX12_near_17 rfl (lv_at hl 0 rfl) ?_
      refine gf11_5 C hP hb (m11 hb hL) q1384 dX12_near_18 ?_
      refine lv_bipush C.1 C.2.1 (v := 8) dX12_near_21 rfl ?_
      refine lv_iload_n C.1 C.2.1 dX12_near_23 rfl (lv_at hl 2 rfl) ?_
      refine lv_iadd C.1 C.2.1 dX12_near_24  ?_
      obtain ⟨hi, h⟩ := h
      refine z_iald C hP (k11_2 hb) (l11_2 hb) (m11_2 hb hL) hi dX12_near_25 ?_
      refine lv_isub C.1 C.2.1 dX12_near_26  ?_
      refine lv_iadd C.1 C.2.1 dX12_near_27  ?_
      refine lv_topi (fun x1 ex1 => ?_)
      have h := h x1 ex1
      refine lv_istore_n C.1 C.2.1 dX12_near_28 rfl hl (Nat.le_of_ble_eq_true rfl) rfl (fun ls hl => ?_)
      have hl : lv_has ls 3 [(1, .int x1), (0, .ref (E.2.1 b)), (2, .int v2)] := hl
      obtain ⟨x2, ex2⟩ : ∃ z, z = v2 + 1 := ⟨_, rfl⟩
      have h := h x2 ex2
      refine lv_iinc C.1 C.2.1 dX12_near_29 hl (k := 2) rfl ex2.symm (Nat.le_of_ble_eq_true rfl) rfl (fun ls hl => ?_)
      have hl : lv_has ls 3 [(2, .int x2), (1, .int x1), (0, .ref (E.2.1 b))] := hl
      refine lv_goto C.1 C.2.1 (tgt := 4) dX12_near_32 (by decide) ?_
      exact hR4 x1 x2 st _ _ _ h (lv_sub hl [2, 1, 0] rfl) hP hS
set_option maxHeartbeats 4000000 in
set_option maxRecDepth 100000 in
theorem tX12_near {l : Launch} {E : En0} {L : List Nat} (hE : EK E L) (hL : Cov 54 67 L) {b : Nat} {st : St} {Q : Int32 → St → Prop} (hb : kd b = 11) (h : wX12_near b st Q) : Mz l yX12_near cX12_near 3 (some .int) rmX12_near E L [.ref (E.2.1 b)] st (zI E L Q) := by
  refine Mz.of hE (by decide) (Nat.le_of_ble_eq_true rfl) ?_
  intro p e s m below meth c ls C hr hlk _ hl hP
  replace C : Cx E L "PlankBridgeModel" cX12_near 3 p s m _ c := C
  have hS : va_S (fA E L s.heap.size) s.heap s.heap [] := va_S.rf
  replace hl : lv_has ls 3 [(0, .ref (E.2.1 b))] := hl
  unfold wX12_near at h
  refine lv_iconst C.1 C.2.1 (v := 0) dX12_near_0 rfl ?_
  refine lv_istore_n C.1 C.2.1 dX12_near_1 rfl hl (Nat.le_of_ble_eq_true rfl) rfl (fun ls hl => ?_)
  have hl : lv_has ls 3 [(1, .int 0), (0, .ref (E.2.1 b))] := hl
  refine lv_iconst C.1 C.2.1 (v := 0) dX12_near_2 rfl ?_
  refine lv_istore_n C.1 C.2.1 dX12_near_3 rfl hl (Nat.le_of_ble_eq_true rfl) rfl (fun ls hl => ?_)
  have hl : lv_has ls 3 [(2, .int 0), (1, .int 0), (0, .ref (E.2.1 b))] := hl
  obtain ⟨n, h⟩ := h
  exact tX12_near_L4 hL C hr hlk hb n 0 0 st _ _ _ h (lv_sub hl [2, 1, 0] rfl) hP hS
def rmX12_value : Room := { frames := 1, cells := 0, slots := 0, locals := 23 }
def wX12_value (b : Nat) (p1 : Int32) (st : St) (Q : Int32 → St → Prop) : Prop :=
  ((((p1 : Int32).toInt < -7 ∨ -1 < (p1 : Int32).toInt) → Q p1 st) ∧ ((p1 = -7 → (wX12_weakest b 0 st (fun r2 st1 => ((¬ r2 = (-1) → (wX12_weakest b 0 st1 (fun r4 st3 => (vp_in ((16 : Int32) + r4) 50 ∧ Q (gI st3 (b + 2) ((16 : Int32) + r4 : Int32).toNatClampNeg) st3)))) ∧ (r2 = (-1) → Q 0 st1))))) ∧ (p1 = -6 → (wX12_missing b st (fun r6 st5 => Q r6 st5))) ∧ (p1 = -5 → (vp_in 2 50 ∧ Q (gI st (b + 2) (2 : Int32).toNatClampNeg) st)) ∧ (p1 = -4 → (vp_in 3 50 ∧ Q (gI st (b + 2) (3 : Int32).toNatClampNeg) st)) ∧ (p1 = -3 → (vp_in 1 50 ∧ Q (gI st (b + 2) (1 : Int32).toNatClampNeg) st)) ∧ (p1 = -2 → (wX12_near b st (fun r8 st7 => Q ((gI st 60 0) - r8) st7))) ∧ (p1 = -1 → (wX12_near b st (fun r10 st9 => Q r10 st9)))))
theorem hdX12_value : yX12_value.cls = "PlankBridgeModel" ∧ yX12_value.cls ≠ "java/lang/invoke/MethodHandle" ∧ yX12_value.cls ≠ "java/lang/invoke/VarHandle" ∧ (parseMethodDescriptor yX12_value.desc).map (fun d => d.parameters.length) = some 1 := by decide +kernel
set_option maxHeartbeats 4000000 in
set_option maxRecDepth 100000 in
theorem tX12_value {l : Launch} {E : En0} {L : List Nat} (hE : EK E L) (hL : Cov 54 67 L) {b : Nat} {p1 : Int32} {st : St} {Q : Int32 → St → Prop} (hb : kd b = 11) (h : wX12_value b p1 st Q) : Mz l yX12_value cX12_value 2 (some .int) rmX12_value E L [.ref (E.2.1 b), .int p1] st (zI E L Q) := by
  refine Mz.of hE (by decide) (Nat.le_of_ble_eq_true rfl) ?_
  intro p e s m below meth c ls C hr hlk _ hl hP
  replace C : Cx E L "PlankBridgeModel" cX12_value 2 p s m _ c := C
  have hS : va_S (fA E L s.heap.size) s.heap s.heap [] := va_S.rf
  replace hl : lv_has ls 2 [(0, .ref (E.2.1 b)), (1, .int p1)] := hl
  unfold wX12_value at h
  refine lv_iload_n C.1 C.2.1 dX12_value_0 rfl (lv_at hl 1 rfl) ?_
  rcases Classical.em ((p1 : Int32).toInt < -7 ∨ -1 < (p1 : Int32).toInt) with hx | hx
  · have h := h.1 hx
    refine lv_tableOut C.1 C.2.1 (tgt := 115) dX12_value_1 hx (by decide) ?_
    refine lv_iload_n C.1 C.2.1 dX12_value_115 rfl (lv_at hl 1 rfl) ?_
    exact z_ri C hr hlk rfl hP hS h dX12_value_116
  · have h := h.2
    have hx : (p1 : Int32).toInt = -7 ∨ (p1 : Int32).toInt = -6 ∨ (p1 : Int32).toInt = -5 ∨ (p1 : Int32).toInt = -4 ∨ (p1 : Int32).toInt = -3 ∨ (p1 : Int32).toInt = -2 ∨ (p1 : Int32).toInt = -1 := by omega
    rcases hx with hx | hx | hx | hx | hx | hx | hx
    · have h := h.1 (i32_eq (hx.trans (by decide)))
      refine lv_tableIn C.1 C.2.1 (off := 87) (tgt := 88) dX12_value_1 (by omega) (by omega) (by rw [hx]; rfl) (by decide) ?_
      refine lv_aload_n C.1 C.2.1 dX12_value_88 rfl (lv_at hl 0 rfl) ?_
      refine lv_iconst C.1 C.2.1 (v := 0) dX12_value_89 rfl ?_
      refine z_ki hS (z_runV (As := [.int 0]) (rest := []) C hP hS (m11 hb hL) (e11 hb) rfl (tX12_weakest C.2.2.2.2.2.2.1 (hL.mo (Nat.le_of_ble_eq_true rfl) (Nat.le_of_ble_eq_true rfl)) hb h) q1733 q1735 q73 q116 q1736 hdX12_weakest ⟨Nat.le_of_ble_eq_true rfl, Nat.le_of_ble_eq_true rfl⟩ ⟨Nat.zero_le _, Nat.zero_le _⟩ rfl hl.1 rfl (lv_room (Nat.le_of_ble_eq_true rfl)) dX12_value_90) (fun r2 st1 H locs h hP hS => ?_)
      refine lv_iconst C.1 C.2.1 (v := (-1)) dX12_value_93 rfl ?_
      refine lv_icmp_ne C.1 C.2.1 (tgt := 101) dX12_value_94 (by decide) (fun hc => ?_) (fun hc => ?_)
      · have h := h.1 hc
        refine lv_aload_n C.1 C.2.1 dX12_value_101 rfl (lv_at hl 0 rfl) ?_
        refine gf11_5 C hP hb (m11 hb hL) q1384 dX12_value_102 ?_
        refine lv_bipush C.1 C.2.1 (v := 16) dX12_value_105 rfl ?_
        refine lv_aload_n C.1 C.2.1 dX12_value_107 rfl (lv_at hl 0 rfl) ?_
        refine lv_iconst C.1 C.2.1 (v := 0) dX12_value_108 rfl ?_
        refine z_ki hS (z_runV (As := [.int 0]) (rest := [.int 16, .ref (E.2.1 ((b + 2)))]) C hP hS (m11 hb hL) (e11 hb) rfl (tX12_weakest C.2.2.2.2.2.2.1 (hL.mo (Nat.le_of_ble_eq_true rfl) (Nat.le_of_ble_eq_true rfl)) hb h) q1733 q1735 q73 q116 q1736 hdX12_weakest ⟨Nat.le_of_ble_eq_true rfl, Nat.le_of_ble_eq_true rfl⟩ ⟨Nat.zero_le _, Nat.zero_le _⟩ rfl hl.1 rfl (lv_room (Nat.le_of_ble_eq_true rfl)) dX12_value_109) (fun r4 st3 H locs h hP hS => ?_)
        refine lv_iadd C.1 C.2.1 dX12_value_112  ?_
        obtain ⟨hi, h⟩ := h
        refine z_iald C hP (k11_2 hb) (l11_2 hb) (m11_2 hb hL) hi dX12_value_113 ?_
        exact z_ri C hr hlk rfl hP hS h dX12_value_114
      · have h := h.2 hc
        refine lv_iconst C.1 C.2.1 (v := 0) dX12_value_97 rfl ?_
        refine lv_goto C.1 C.2.1 (tgt := 114) dX12_value_98 (by decide) ?_
        exact z_ri C hr hlk rfl hP hS h dX12_value_114
    · have h := h.2.1 (i32_eq (hx.trans (by decide)))
      refine lv_tableIn C.1 C.2.1 (off := 82) (tgt := 83) dX12_value_1 (by omega) (by omega) (by rw [hx]; rfl) (by decide) ?_
      refine lv_aload_n C.1 C.2.1 dX12_value_83 rfl (lv_at hl 0 rfl) ?_
      refine z_ki hS (z_runV (As := []) (rest := []) C hP hS (m11 hb hL) (e11 hb) rfl (tX12_missing C.2.2.2.2.2.2.1 (hL.mo (Nat.le_of_ble_eq_true rfl) (Nat.le_of_ble_eq_true rfl)) hb h) q1725 q1727 q72 q116 q1728 hdX12_missing ⟨Nat.le_of_ble_eq_true rfl, Nat.le_of_ble_eq_true rfl⟩ ⟨Nat.zero_le _, Nat.zero_le _⟩ rfl hl.1 rfl (lv_room (Nat.le_of_ble_eq_true rfl)) dX12_value_84) (fun r6 st5 H locs h hP hS => ?_)
      exact z_ri C hr hlk rfl hP hS h dX12_value_87
    · have h := h.2.2.1 (i32_eq (hx.trans (by decide)))
      refine lv_tableIn C.1 C.2.1 (off := 75) (tgt := 76) dX12_value_1 (by omega) (by omega) (by rw [hx]; rfl) (by decide) ?_
      refine lv_aload_n C.1 C.2.1 dX12_value_76 rfl (lv_at hl 0 rfl) ?_
      refine gf11_5 C hP hb (m11 hb hL) q1384 dX12_value_77 ?_
      refine lv_iconst C.1 C.2.1 (v := 2) dX12_value_80 rfl ?_
      obtain ⟨hi, h⟩ := h
      refine z_iald C hP (k11_2 hb) (l11_2 hb) (m11_2 hb hL) hi dX12_value_81 ?_
      exact z_ri C hr hlk rfl hP hS h dX12_value_82
    · have h := h.2.2.2.1 (i32_eq (hx.trans (by decide)))
      refine lv_tableIn C.1 C.2.1 (off := 68) (tgt := 69) dX12_value_1 (by omega) (by omega) (by rw [hx]; rfl) (by decide) ?_
      refine lv_aload_n C.1 C.2.1 dX12_value_69 rfl (lv_at hl 0 rfl) ?_
      refine gf11_5 C hP hb (m11 hb hL) q1384 dX12_value_70 ?_
      refine lv_iconst C.1 C.2.1 (v := 3) dX12_value_73 rfl ?_
      obtain ⟨hi, h⟩ := h
      refine z_iald C hP (k11_2 hb) (l11_2 hb) (m11_2 hb hL) hi dX12_value_74 ?_
      exact z_ri C hr hlk rfl hP hS h dX12_value_75
    · have h := h.2.2.2.2.1 (i32_eq (hx.trans (by decide)))
      refine lv_tableIn C.1 C.2.1 (off := 61) (tgt := 62) dX12_value_1 (by omega) (by omega) (by rw [hx]; rfl) (by decide) ?_
      refine lv_aload_n C.1 C.2.1 dX12_value_62 rfl (lv_at hl 0 rfl) ?_
      refine gf11_5 C hP hb (m11 hb hL) q1384 dX12_value_63 ?_
      refine lv_iconst C.1 C.2.1 (v := 1) dX12_value_66 rfl ?_
      obtain ⟨hi, h⟩ := h
      refine z_iald C hP (k11_2 hb) (l11_2 hb) (m11_2 hb hL) hi dX12_value_67 ?_
      exact z_ri C hr hlk rfl hP hS h dX12_value_68
    · have h := h.2.2.2.2.2.1 (i32_eq (hx.trans (by decide)))
      refine lv_tableIn C.1 C.2.1 (off := 48) (tgt := 49) dX12_value_1 (by omega) (by omega) (by rw [hx]; rfl) (by decide) ?_
      refine lv_aload_n C.1 C.2.1 dX12_value_49 rfl (lv_at hl 0 rfl) ?_
      refine gf11_4 C hP hb (m11 hb hL) q1383 dX12_value_50 ?_
      refine gf9_0 C hP (show kd 60 = 9 from rfl) (hL 60 (Nat.le_of_ble_eq_true rfl) (Nat.le_of_ble_eq_true rfl)) q1320 dX12_value_53 ?_
      refine lv_aload_n C.1 C.2.1 dX12_value_56 rfl (lv_at hl 0 rfl) ?_
      refine z_ki hS (z_runV (As := []) (rest := [.int (gI st 60 0)]) C hP hS (m11 hb hL) (e11 hb) rfl (tX12_near C.2.2.2.2.2.2.1 (hL.mo (Nat.le_of_ble_eq_true rfl) (Nat.le_of_ble_eq_true rfl)) hb h) q1692 q1694 q68 q116 q1695 hdX12_near ⟨Nat.le_of_ble_eq_true rfl, Nat.le_of_ble_eq_true rfl⟩ ⟨Nat.zero_le _, Nat.zero_le _⟩ rfl hl.1 rfl (lv_room (Nat.le_of_ble_eq_true rfl)) dX12_value_57) (fun r8 st7 H locs h hP hS => ?_)
      refine lv_isub C.1 C.2.1 dX12_value_60  ?_
      exact z_ri C hr hlk rfl hP hS h dX12_value_61
    · have h := h.2.2.2.2.2.2 (i32_eq (hx.trans (by decide)))
      refine lv_tableIn C.1 C.2.1 (off := 43) (tgt := 44) dX12_value_1 (by omega) (by omega) (by rw [hx]; rfl) (by decide) ?_
      refine lv_aload_n C.1 C.2.1 dX12_value_44 rfl (lv_at hl 0 rfl) ?_
      refine z_ki hS (z_runV (As := []) (rest := []) C hP hS (m11 hb hL) (e11 hb) rfl (tX12_near C.2.2.2.2.2.2.1 (hL.mo (Nat.le_of_ble_eq_true rfl) (Nat.le_of_ble_eq_true rfl)) hb h) q1692 q1694 q68 q116 q1695 hdX12_near ⟨Nat.le_of_ble_eq_true rfl, Nat.le_of_ble_eq_true rfl⟩ ⟨Nat.zero_le _, Nat.zero_le _⟩ rfl hl.1 rfl (lv_room (Nat.le_of_ble_eq_true rfl)) dX12_value_45) (fun r10 st9 H locs h hP hS => ?_)
      exact z_ri C hr hlk rfl hP hS h dX12_value_48
def rmX12_areSo : Room := { frames := 2, cells := 0, slots := 0, locals := 44 }
def wX12_areSo_L118 (b : Nat) (p1 : Int32) (R6 : Int32 × Int32 × St → Prop) (v2 : Int32) (s0 : Int32) (st : St) (Q : Int32 → St → Prop) : Prop :=
  (∀ x7 : Int32, x7 = v2 + 4 → R6 (x7, s0, st))
def wX12_areSo_L98 (b : Nat) (p1 : Int32) (R6 : Int32 × Int32 × St → Prop) (v2 : Int32) (st : St) (Q : Int32 → St → Prop) : Prop :=
  (vp_in (v2 + 3) 1600 ∧ ((¬ (gI st 66 (v2 + 3 : Int32).toNatClampNeg) = 1 → wX12_areSo_L118 b p1 R6 v2 0 st Q) ∧ ((gI st 66 (v2 + 3 : Int32).toNatClampNeg) = 1 → wX12_areSo_L118 b p1 R6 v2 1 st Q)))
def wX12_areSo_L6 (b : Nat) (p1 : Int32)  (R6 : Int32 × Int32 × St → Prop) (v2 : Int32) (v3 : Int32) (st : St) (Q : Int32 → St → Prop) : Prop :=
  ((¬ v3 = 0 → Q 1 st) ∧ (v3 = 0 → (vp_in v2 1600 ∧ (wX12_value b (gI st 66 (v2 : Int32).toNatClampNeg) st (fun r3 st2 => (vp_in (v2 + 2) 1600 ∧ (wX12_value b (gI st2 66 (v2 + 2 : Int32).toNatClampNeg) st2 (fun r5 st4 => (vp_in (v2 + 1) 1600 ∧ (∀ x6 : Int32, x6 = (gI st4 66 (v2 + 1 : Int32).toNatClampNeg) → ((¬ x6 = 60 → ((¬ x6 = 62 → ((r3 = r5 → wX12_areSo_L98 b p1 R6 v2 st4 Q) ∧ (¬ r3 = r5 → Q 0 st4))) ∧ (x6 = 62 → ((r5 < r3 → wX12_areSo_L98 b p1 R6 v2 st4 Q) ∧ (¬ r5 < r3 → Q 0 st4))))) ∧ (x6 = 60 → ((r3 < r5 → wX12_areSo_L98 b p1 R6 v2 st4 Q) ∧ (¬ r3 < r5 → Q 0 st4))))))))))))))
def wX12_areSo (b : Nat) (p1 : Int32) (st : St) (Q : Int32 → St → Prop) : Prop :=
  (∀ x1 : Int32, x1 = ((4 : Int32) * p1) → (∃ n, lp (fun R s => wX12_areSo_L6 b p1 R s.1 s.2.1 s.2.2 Q) n (x1, 0, st)))
theorem hdX12_areSo : yX12_areSo.cls = "PlankBridgeModel" ∧ yX12_areSo.cls ≠ "java/lang/invoke/MethodHandle" ∧ yX12_areSo.cls ≠ "java/lang/invoke/VarHandle" ∧ (parseMethodDescriptor yX12_areSo.desc).map (fun d => d.parameters.length) = some 1 := by decide +kernel
set_option maxHeartbeats 4000000 in
set_option maxRecDepth 100000 in
theorem tX12_areSo_L118 {l : Launch} {p : Program} {e : Env} {s : State} {m : MethodId} {args : Array Value} {below : List Frame} {meth : Method} {c : Code} {E : En0} {L : List Nat} (hL : Cov 54 67 L) (C : Cx E L "PlankBridgeModel" cX12_areSo 7 p s m args c) (hr : meth.sig.returnType = (some .boolean)) (hlk : meth.locks = false) {b : Nat} {p1 : Int32} {Q : Int32 → St → Prop} (hb : kd b = 11) {R6 : Int32 × Int32 × St → Prop} (hR6 : ∀ (v2 : Int32) (v3 : Int32) (st : St), ∀ (H : Heap) (locs : List Loc) (ls : Array Slot), R6 (v2, v3, st) → lv_has ls 7 [(0, .ref (E.2.1 b)), (2, .int v2), (3, .int v3)] → va_P E.1 vwCl (wd E L st) H → va_S (fA E L s.heap.size) s.heap H locs → W p l e rmX12_areSo s m args below meth c H locs 0 0 (MQ below (zI E L (fun r u => bz r ∧ Q r u) (fA E L s.heap.size)) args s rmX12_areSo.cells rmX12_areSo.slots (fA E L s.heap.size)) (F0 m 6 ls [])) {v2 : Int32} {s0 : Int32}  {st : St} (H : Heap) (locs : List Loc) (ls : Array Slot) (h : wX12_areSo_L118 b p1 R6 v2 s0 st Q) (hl : lv_has ls 7 [(0, .ref (E.2.1 b)), (2, .int v2)]) (hP : va_P E.1 vwCl (wd E L st) H) (hS : va_S (fA E L s.heap.size) s.heap H locs) : W p l e rmX12_areSo s m args below meth c H locs 0 0 (MQ below (zI E L (fun r u => bz r ∧ Q r u) (fA E L s.heap.size)) args s rmX12_areSo.cells rmX12_areSo.slots (fA E L s.heap.size)) (F0 m 118 ls [.int s0]) := by
  unfold wX12_areSo_L118 at h
  refine lv_istore_n C.1 C.2.1 dX12_areSo_118 rfl hl (Nat.le_of_ble_eq_true rfl) rfl (fun ls hl => ?_)
  have hl : lv_has ls 7 [(3, .int s0), (0, .ref (E.2.1 b)), (2, .int v2)] := hl
  obtain ⟨x7, ex7⟩ : ∃ z, z = v2 + 4 := ⟨_, rfl⟩
  have h := h x7 ex7
  refine lv_iinc C.1 C.2.1 dX12_areSo_119 hl (k := 2) rfl ex7.symm (Nat.le_of_ble_eq_true rfl) rfl (fun ls hl => ?_)
  have hl : lv_has ls 7 [(2, .int x7), (3, .int s0), (0, .ref (E.2.1 b))] := hl
  refine lv_goto C.1 C.2.1 (tgt := 6) dX12_areSo_122 (by decide) ?_
  exact hR6 x7 s0 st _ _ _ h (lv_sub hl [2, 0, 1] rfl) hP hS
set_option maxHeartbeats 4000000 in
set_option maxRecDepth 100000 in
theorem tX12_areSo_L98 {l : Launch} {p : Program} {e : Env} {s : State} {m : MethodId} {args : Array Value} {below : List Frame} {meth : Method} {c : Code} {E : En0} {L : List Nat} (hL : Cov 54 67 L) (C : Cx E L "PlankBridgeModel" cX12_areSo 7 p s m args c) (hr : meth.sig.returnType = (some .boolean)) (hlk : meth.locks = false) {b : Nat} {p1 : Int32} {Q : Int32 → St → Prop} (hb : kd b = 11) {R6 : Int32 × Int32 × St → Prop} (hR6 : ∀ (v2 : Int32) (v3 : Int32) (st : St), ∀ (H : Heap) (locs : List Loc) (ls : Array Slot), R6 (v2, v3, st) → lv_has ls 7 [(0, .ref (E.2.1 b)), (2, .int v2), (3, .int v3)] → va_P E.1 vwCl (wd E L st) H → va_S (fA E L s.heap.size) s.heap H locs → W p l e rmX12_areSo s m args below meth c H locs 0 0 (MQ below (zI E L (fun r u => bz r ∧ Q r u) (fA E L s.heap.size)) args s rmX12_areSo.cells rmX12_areSo.slots (fA E L s.heap.size)) (F0 m 6 ls [])) {v2 : Int32}  {st : St} (H : Heap) (locs : List Loc) (ls : Array Slot) (h : wX12_areSo_L98 b p1 R6 v2 st Q) (hl : lv_has ls 7 [(0, .ref (E.2.1 b)), (2, .int v2)]) (hP : va_P E.1 vwCl (wd E L st) H) (hS : va_S (fA E L s.heap.size) s.heap H locs) : W p l e rmX12_areSo s m args below meth c H locs 0 0 (MQ below (zI E L (fun r u => bz r ∧ Q r u) (fA E L s.heap.size)) args s rmX12_areSo.cells rmX12_areSo.slots (fA E L s.heap.size)) (F0 m 98 ls []) := by
  unfold wX12_areSo_L98 at h
  refine lv_aload_n C.1 C.2.1 dX12_areSo_98 rfl (lv_at hl 0 rfl) ?_
  refine gf11_4 C hP hb (m11 hb hL) q1383 dX12_areSo_99 ?_
  refine gf9_10 C hP (show kd 60 = 9 from rfl) (hL 60 (Nat.le_of_ble_eq_true rfl) (Nat.le_of_ble_eq_true rfl)) q1345 dX12_areSo_102 ?_
  refine lv_iload_n C.1 C.2.1 dX12_areSo_105 rfl (lv_at hl 1 rfl) ?_
  refine lv_iconst C.1 C.2.1 (v := 3) dX12_areSo_106 rfl ?_
  refine lv_iadd C.1 C.2.1 dX12_areSo_107  ?_
  obtain ⟨hi, h⟩ := h
  refine z_iald C hP (show kd 66 = 20 from rfl) (show ln 66 = 1600 from rfl) (hL 66 (Nat.le_of_ble_eq_true rfl) (Nat.le_of_ble_eq_true rfl)) hi dX12_areSo_108 ?_
  refine lv_iconst C.1 C.2.1 (v := 1) dX12_areSo_109 rfl ?_
  refine lv_icmp_ne C.1 C.2.1 (tgt := 117) dX12_areSo_110 (by decide) (fun hc => ?_) (fun hc => ?_)
  · have h := h.1 hc
    refine lv_iconst C.1 C.2.1 (v := 0) dX12_areSo_117 rfl ?_
    exact tX12_areSo_L118 hL C hr hlk hb hR6 _ _ _ h hl hP hS
  · have h := h.2 hc
    refine lv_iconst C.1 C.2.1 (v := 1) dX12_areSo_113 rfl ?_
    refine lv_goto C.1 C.2.1 (tgt := 118) dX12_areSo_114 (by decide) ?_
    exact tX12_areSo_L118 hL C hr hlk hb hR6 _ _ _ h hl hP hS
set_option maxHeartbeats 4000000 in
set_option maxRecDepth 100000 in
theorem tX12_areSo_L6 {l : Launch} {p : Program} {e : Env} {s : State} {m : MethodId} {args : Array Value} {below : List Frame} {meth : Method} {c : Code} {E : En0} {L : List Nat} (hL : Cov 54 67 L) (C : Cx E L "PlankBridgeModel" cX12_areSo 7 p s m args c) (hr : meth.sig.returnType = (some .boolean)) (hlk : meth.locks = false) {b : Nat} {p1 : Int32} {Q : Int32 → St → Prop} (hb : kd b = 11) : ∀ (n : Nat) (v2 : Int32) (v3 : Int32) (st : St) (H : Heap) (locs : List Loc) (ls : Array Slot), lp (fun R s => wX12_areSo_L6 b p1 R s.1 s.2.1 s.2.2 Q) n (v2, v3, st) → lv_has ls 7 [(0, .ref (E.2.1 b)), (2, .int v2), (3, .int v3)] → va_P E.1 vwCl (wd E L st) H → va_S (fA E L s.heap.size) s.heap H locs → W p l e rmX12_areSo s m args below meth c H locs 0 0 (MQ below (zI E L (fun r u => bz r ∧ Q r u) (fA E L s.heap.size)) args s rmX12_areSo.cells rmX12_areSo.slots (fA E L s.heap.size)) (F0 m 6 ls []) := by
  intro n
  induction n with
  | zero => exact fun _ _ _ _ _ _ h _ _ _ => False.elim ‹_›
  | succ n ih =>
    intro v2 v3 st  H locs ls h hl hP hS
    have hR6 := ih
    replace h : wX12_areSo_L6 b p1 (lp (fun R s => wX12_areSo_L6 b p1 R s.1 s.2.1 s.2.2 Q) n) v2 v3 st Q := h
    unfold wX12_areSo_L6 at h
    refine lv_iload_n C.1 C.2.1 dX12_areSo_6 rfl (lv_at hl 2 rfl) ?_
    refine lv_if_ne C.1 C.2.1 (tgt := 125) dX12_areSo_7 (by decide) (fun hc => ?_) (fun hc => ?_)
    · have h := h.1 hc
      refine lv_iconst C.1 C.2.1 (v := 1) dX12_areSo_125 rfl ?_
      exact z_ri C hr hlk (bz_n bz1) hP hS ⟨bz1, h⟩ dX12_areSo_126
    · have h := h.2 hc
      refine lv_aload_n C.1 C.2.1 dX12_areSo_10 rfl (lv_at hl 0 rfl) ?_
      refine lv_aload_n C.1 C.2.1 dX12_areSo_11 rfl (lv_at hl 0 rfl) ?_
      refine gf11_4 C hP hb (m11 hb hL) q1383 dX12_areSo_12 ?_
      refine gf9_10 C hP (show kd 60 = 9 from rfl) (hL 60 (Nat.le_of_ble_eq_true rfl) (Nat.le_of_ble_eq_true rfl)) q1345 dX12_areSo_15 ?_
      refine lv_iload_n C.1 C.2.1 dX12_areSo_18 rfl (lv_at hl 1 rfl) ?_
      obtain ⟨hi, h⟩ := h
      refine z_iald C hP (show kd 66 = 20 from rfl) (show ln 66 = 1600 from rfl) (hL 66 (Nat.le_of_ble_eq_true rfl) (Nat.le_of_ble_eq_true rfl)) hi dX12_areSo_19 ?_
      refine z_ki hS (z_runV (As := [.int (gI st 66 (v2 : Int32).toNatClampNeg)]) (rest := []) C hP hS (m11 hb hL) (e11 hb) rfl (tX12_value C.2.2.2.2.2.2.1 (hL.mo (Nat.le_of_ble_eq_true rfl) (Nat.le_of_ble_eq_true rfl)) hb h) q1837 q1839 q87 q116 q1840 hdX12_value ⟨Nat.le_of_ble_eq_true rfl, Nat.le_of_ble_eq_true rfl⟩ ⟨Nat.zero_le _, Nat.zero_le _⟩ rfl hl.1 rfl (lv_room (Nat.le_of_ble_eq_true rfl)) dX12_areSo_20) (fun r3 st2 H locs h hP hS => ?_)
      refine lv_istore C.1 C.2.1 dX12_areSo_23 hl (Nat.le_of_ble_eq_true rfl) rfl (fun ls hl => ?_)
      have hl : lv_has ls 7 [(4, .int r3), (0, .ref (E.2.1 b)), (2, .int v2), (3, .int v3)] := hl
      refine lv_aload_n C.1 C.2.1 dX12_areSo_25 rfl (lv_at hl 1 rfl) ?_
      refine lv_aload_n C.1 C.2.1 dX12_areSo_26 rfl (lv_at hl 1 rfl) ?_
      refine gf11_4 C hP hb (m11 hb hL) q1383 dX12_areSo_27 ?_
      refine gf9_10 C hP (show kd 60 = 9 from rfl) (hL 60 (Nat.le_of_ble_eq_true rfl) (Nat.le_of_ble_eq_true rfl)) q1345 dX12_areSo_30 ?_
      refine lv_iload_n C.1 C.2.1 dX12_areSo_33 rfl (lv_at hl 2 rfl) ?_
      refine lv_iconst C.1 C.2.1 (v := 2) dX12_areSo_34 rfl ?_
      refine lv_iadd C.1 C.2.1 dX12_areSo_35  ?_
      obtain ⟨hi, h⟩ := h
      refine z_iald C hP (show kd 66 = 20 from rfl) (show ln 66 = 1600 from rfl) (hL 66 (Nat.le_of_ble_eq_true rfl) (Nat.le_of_ble_eq_true rfl)) hi dX12_areSo_36 ?_
      refine z_ki hS (z_runV (As := [.int (gI st2 66 (v2 + 2 : Int32).toNatClampNeg)]) (rest := []) C hP hS (m11 hb hL) (e11 hb) rfl (tX12_value C.2.2.2.2.2.2.1 (hL.mo (Nat.le_of_ble_eq_true rfl) (Nat.le_of_ble_eq_true rfl)) hb h) q1837 q1839 q87 q116 q1840 hdX12_value ⟨Nat.le_of_ble_eq_true rfl, Nat.le_of_ble_eq_true rfl⟩ ⟨Nat.zero_le _, Nat.zero_le _⟩ rfl hl.1 rfl (lv_room (Nat.le_of_ble_eq_true rfl)) dX12_areSo_37) (fun r5 st4 H locs h hP hS => ?_)
      refine lv_istore C.1 C.2.1 dX12_areSo_40 hl (Nat.le_of_ble_eq_true rfl) rfl (fun ls hl => ?_)
      have hl : lv_has ls 7 [(5, .int r5), (4, .int r3), (0, .ref (E.2.1 b)), (2, .int v2), (3, .int v3)] := hl
      refine lv_aload_n C.1 C.2.1 dX12_areSo_42 rfl (lv_at hl 2 rfl) ?_
      refine gf11_4 C hP hb (m11 hb hL) q1383 dX12_areSo_43 ?_
      refine gf9_10 C hP (show kd 60 = 9 from rfl) (hL 60 (Nat.le_of_ble_eq_true rfl) (Nat.le_of_ble_eq_true rfl)) q1345 dX12_areSo_46 ?_
      refine lv_iload_n C.1 C.2.1 dX12_areSo_49 rfl (lv_at hl 3 rfl) ?_
      refine lv_iconst C.1 C.2.1 (v := 1) dX12_areSo_50 rfl ?_
      refine lv_iadd C.1 C.2.1 dX12_areSo_51  ?_
      obtain ⟨hi, h⟩ := h
      refine z_iald C hP (show kd 66 = 20 from rfl) (show ln 66 = 1600 from rfl) (hL 66 (Nat.le_of_ble_eq_true rfl) (Nat.le_of_ble_eq_true rfl)) hi dX12_areSo_52 ?_
      refine lv_topi (fun x6 ex6 => ?_)
      have h := h x6 ex6
      refine lv_istore C.1 C.2.1 dX12_areSo_53 hl (Nat.le_of_ble_eq_true rfl) rfl (fun ls hl => ?_)
      have hl : lv_has ls 7 [(6, .int x6), (5, .int r5), (4, .int r3), (0, .ref (E.2.1 b)), (2, .int v2), (3, .int v3)] := hl
      refine lv_iload C.1 C.2.1 dX12_areSo_55 (lv_at hl 0 rfl) ?_
      refine lv_bipush C.1 C.2.1 (v := 60) dX12_areSo_57 rfl ?_
      refine lv_icmp_ne C.1 C.2.1 (tgt := 72) dX12_areSo_59 (by decide) (fun hc => ?_) (fun hc => ?_)
      · have h := h.1 hc
        refine lv_iload C.1 C.2.1 dX12_areSo_72 (lv_at hl 0 rfl) ?_
        refine lv_bipush C.1 C.2.1 (v := 62) dX12_areSo_74 rfl ?_
        refine lv_icmp_ne C.1 C.2.1 (tgt := 89) dX12_areSo_76 (by decide) (fun hc => ?_) (fun hc => ?_)
        · have h := h.1 hc
          refine lv_iload C.1 C.2.1 dX12_areSo_89 (lv_at hl 2 rfl) ?_
          refine lv_iload C.1 C.2.1 dX12_areSo_91 (lv_at hl 1 rfl) ?_
          refine lv_icmp_eq C.1 C.2.1 (tgt := 98) dX12_areSo_93 (by decide) (fun hc => ?_) (fun hc => ?_)
          · have h := h.1 hc
            exact tX12_areSo_L98 hL C hr hlk hb hR6 _ _ _ h (lv_sub hl [3, 4] rfl) hP hS
          · have h := h.2 hc
            refine lv_iconst C.1 C.2.1 (v := 0) dX12_areSo_96 rfl ?_
            exact z_ri C hr hlk (bz_n bz0) hP hS ⟨bz0, h⟩ dX12_areSo_97
        · have h := h.2 hc
          refine lv_iload C.1 C.2.1 dX12_areSo_79 (lv_at hl 2 rfl) ?_
          refine lv_iload C.1 C.2.1 dX12_areSo_81 (lv_at hl 1 rfl) ?_
          refine lv_icmp_gt C.1 C.2.1 (tgt := 98) dX12_areSo_83 (by decide) (fun hc => ?_) (fun hc => ?_)
          · have h := h.1 hc
            exact tX12_areSo_L98 hL C hr hlk hb hR6 _ _ _ h (lv_sub hl [3, 4] rfl) hP hS
          · have h := h.2 hc
            refine lv_goto C.1 C.2.1 (tgt := 96) dX12_areSo_86 (by decide) ?_
            refine lv_iconst C.1 C.2.1 (v := 0) dX12_areSo_96 rfl ?_
            exact z_ri C hr hlk (bz_n bz0) hP hS ⟨bz0, h⟩ dX12_areSo_97
      · have h := h.2 hc
        refine lv_iload C.1 C.2.1 dX12_areSo_62 (lv_at hl 2 rfl) ?_
        refine lv_iload C.1 C.2.1 dX12_areSo_64 (lv_at hl 1 rfl) ?_
        refine lv_icmp_lt C.1 C.2.1 (tgt := 98) dX12_areSo_66 (by decide) (fun hc => ?_) (fun hc => ?_)
        · have h := h.1 hc
          exact tX12_areSo_L98 hL C hr hlk hb hR6 _ _ _ h (lv_sub hl [3, 4] rfl) hP hS
        · have h := h.2 hc
          refine lv_goto C.1 C.2.1 (tgt := 96) dX12_areSo_69 (by decide) ?_
          refine lv_iconst C.1 C.2.1 (v := 0) dX12_areSo_96 rfl ?_
          exact z_ri C hr hlk (bz_n bz0) hP hS ⟨bz0, h⟩ dX12_areSo_97
set_option maxHeartbeats 4000000 in
set_option maxRecDepth 100000 in
theorem tX12_areSo {l : Launch} {E : En0} {L : List Nat} (hE : EK E L) (hL : Cov 54 67 L) {b : Nat} {p1 : Int32} {st : St} {Q : Int32 → St → Prop} (hb : kd b = 11) (h : wX12_areSo b p1 st Q) : Mz l yX12_areSo cX12_areSo 7 (some .boolean) rmX12_areSo E L [.ref (E.2.1 b), .int p1] st (zI E L (fun r u => bz r ∧ Q r u)) := by
  refine Mz.of hE (by decide) (Nat.le_of_ble_eq_true rfl) ?_
  intro p e s m below meth c ls C hr hlk _ hl hP
  replace C : Cx E L "PlankBridgeModel" cX12_areSo 7 p s m _ c := C
  have hS : va_S (fA E L s.heap.size) s.heap s.heap [] := va_S.rf
  replace hl : lv_has ls 7 [(0, .ref (E.2.1 b)), (1, .int p1)] := hl
  unfold wX12_areSo at h
  refine lv_iconst C.1 C.2.1 (v := 4) dX12_areSo_0 rfl ?_
  refine lv_iload_n C.1 C.2.1 dX12_areSo_1 rfl (lv_at hl 1 rfl) ?_
  refine lv_imul C.1 C.2.1 dX12_areSo_2  ?_
  refine lv_topi (fun x1 ex1 => ?_)
  have h := h x1 ex1
  refine lv_istore_n C.1 C.2.1 dX12_areSo_3 rfl hl (Nat.le_of_ble_eq_true rfl) rfl (fun ls hl => ?_)
  have hl : lv_has ls 7 [(2, .int x1), (0, .ref (E.2.1 b)), (1, .int p1)] := hl
  refine lv_iconst C.1 C.2.1 (v := 0) dX12_areSo_4 rfl ?_
  refine lv_istore_n C.1 C.2.1 dX12_areSo_5 rfl hl (Nat.le_of_ble_eq_true rfl) rfl (fun ls hl => ?_)
  have hl : lv_has ls 7 [(3, .int 0), (2, .int x1), (0, .ref (E.2.1 b)), (1, .int p1)] := hl
  obtain ⟨n, h⟩ := h
  exact tX12_areSo_L6 hL C hr hlk hb n x1 0 st _ _ _ h (lv_sub hl [2, 1, 0] rfl) hP hS
def rmX12_isRather : Room := { frames := 0, cells := 0, slots := 0, locals := 0 }
def wX12_isRather (b : Nat) (p1 : Int32) (p2 : Int32) (p3 : Int32) (st : St) (Q : Int32 → St → Prop) : Prop :=
  ((¬ p1 = (-2) → ((¬ p1 = (-3) → ((¬ p1 = (-4) → (vp_in p2 9 ∧ (vp_in p3 9 ∧ (((gI st 61 (p2 : Int32).toNatClampNeg) ≤ (gI st 61 (p3 : Int32).toNatClampNeg) → Q 0 st) ∧ (¬ (gI st 61 (p2 : Int32).toNatClampNeg) ≤ (gI st 61 (p3 : Int32).toNatClampNeg) → Q 1 st))))) ∧ (p1 = (-4) → (vp_in p2 9 ∧ (vp_in p3 9 ∧ (((gI st 61 (p3 : Int32).toNatClampNeg) ≤ (gI st 61 (p2 : Int32).toNatClampNeg) → Q 0 st) ∧ (¬ (gI st 61 (p3 : Int32).toNatClampNeg) ≤ (gI st 61 (p2 : Int32).toNatClampNeg) → Q 1 st))))))) ∧ (p1 = (-3) → (vp_in p2 9 ∧ (vp_in p3 9 ∧ (((gI st 62 (p2 : Int32).toNatClampNeg) ≤ (gI st 62 (p3 : Int32).toNatClampNeg) → Q 0 st) ∧ (¬ (gI st 62 (p2 : Int32).toNatClampNeg) ≤ (gI st 62 (p3 : Int32).toNatClampNeg) → Q 1 st))))))) ∧ (p1 = (-2) → (vp_in p2 9 ∧ (vp_in p3 9 ∧ (((gI st 62 (p3 : Int32).toNatClampNeg) ≤ (gI st 62 (p2 : Int32).toNatClampNeg) → Q 0 st) ∧ (¬ (gI st 62 (p3 : Int32).toNatClampNeg) ≤ (gI st 62 (p2 : Int32).toNatClampNeg) → Q 1 st))))))
theorem hdX12_isRather : yX12_isRather.cls = "PlankBridgeModel" ∧ yX12_isRather.cls ≠ "java/lang/invoke/MethodHandle" ∧ yX12_isRather.cls ≠ "java/lang/invoke/VarHandle" ∧ (parseMethodDescriptor yX12_isRather.desc).map (fun d => d.parameters.length) = some 3 := by decide +kernel
set_option maxHeartbeats 4000000 in
set_option maxRecDepth 100000 in
theorem tX12_isRather {l : Launch} {E : En0} {L : List Nat} (hE : EK E L) (hL : Cov 54 67 L) {b : Nat} {p1 : Int32} {p2 : Int32} {p3 : Int32} {st : St} {Q : Int32 → St → Prop} (hb : kd b = 11) (h : wX12_isRather b p1 p2 p3 st Q) : Mz l yX12_isRather cX12_isRather 4 (some .boolean) rmX12_isRather E L [.ref (E.2.1 b), .int p1, .int p2, .int p3] st (zI E L (fun r u => bz r ∧ Q r u)) := by
  refine Mz.of hE (by decide) (Nat.le_of_ble_eq_true rfl) ?_
  intro p e s m below meth c ls C hr hlk _ hl hP
  replace C : Cx E L "PlankBridgeModel" cX12_isRather 4 p s m _ c := C
  have hS : va_S (fA E L s.heap.size) s.heap s.heap [] := va_S.rf
  replace hl : lv_has ls 4 [(0, .ref (E.2.1 b)), (1, .int p1), (2, .int p2), (3, .int p3)] := hl
  unfold wX12_isRather at h
  refine lv_iload_n C.1 C.2.1 dX12_isRather_0 rfl (lv_at hl 1 rfl) ?_
  refine lv_bipush C.1 C.2.1 (v := (-2)) dX12_isRather_1 rfl ?_
  refine lv_icmp_ne C.1 C.2.1 (tgt := 33) dX12_isRather_3 (by decide) (fun hc => ?_) (fun hc => ?_)
  · have h := h.1 hc
    refine lv_iload_n C.1 C.2.1 dX12_isRather_33 rfl (lv_at hl 1 rfl) ?_
    refine lv_bipush C.1 C.2.1 (v := (-3)) dX12_isRather_34 rfl ?_
    refine lv_icmp_ne C.1 C.2.1 (tgt := 66) dX12_isRather_36 (by decide) (fun hc => ?_) (fun hc => ?_)
    · have h := h.1 hc
      refine lv_iload_n C.1 C.2.1 dX12_isRather_66 rfl (lv_at hl 1 rfl) ?_
      refine lv_bipush C.1 C.2.1 (v := (-4)) dX12_isRather_67 rfl ?_
      refine lv_icmp_ne C.1 C.2.1 (tgt := 101) dX12_isRather_69 (by decide) (fun hc => ?_) (fun hc => ?_)
      · have h := h.1 hc
        refine lv_aload_n C.1 C.2.1 dX12_isRather_101 rfl (lv_at hl 0 rfl) ?_
        refine gf11_4 C hP hb (m11 hb hL) q1383 dX12_isRather_102 ?_
        refine gf9_4 C hP (show kd 60 = 9 from rfl) (hL 60 (Nat.le_of_ble_eq_true rfl) (Nat.le_of_ble_eq_true rfl)) q1328 dX12_isRather_105 ?_
        refine lv_iload_n C.1 C.2.1 dX12_isRather_108 rfl (lv_at hl 2 rfl) ?_
        obtain ⟨hi, h⟩ := h
        refine z_iald C hP (show kd 61 = 20 from rfl) (show ln 61 = 9 from rfl) (hL 61 (Nat.le_of_ble_eq_true rfl) (Nat.le_of_ble_eq_true rfl)) hi dX12_isRather_109 ?_
        refine lv_aload_n C.1 C.2.1 dX12_isRather_110 rfl (lv_at hl 0 rfl) ?_
        refine gf11_4 C hP hb (m11 hb hL) q1383 dX12_isRather_111 ?_
        refine gf9_4 C hP (show kd 60 = 9 from rfl) (hL 60 (Nat.le_of_ble_eq_true rfl) (Nat.le_of_ble_eq_true rfl)) q1328 dX12_isRather_114 ?_
        refine lv_iload_n C.1 C.2.1 dX12_isRather_117 rfl (lv_at hl 3 rfl) ?_
        obtain ⟨hi, h⟩ := h
        refine z_iald C hP (show kd 61 = 20 from rfl) (show ln 61 = 9 from rfl) (hL 61 (Nat.le_of_ble_eq_true rfl) (Nat.le_of_ble_eq_true rfl)) hi dX12_isRather_118 ?_
        refine lv_icmp_le C.1 C.2.1 (tgt := 126) dX12_isRather_119 (by decide) (fun hc => ?_) (fun hc => ?_)
        · have h := h.1 hc
          refine lv_iconst C.1 C.2.1 (v := 0) dX12_isRather_126 rfl ?_
          exact z_ri C hr hlk (bz_n bz0) hP hS ⟨bz0, h⟩ dX12_isRather_127
        · have h := h.2 hc
          refine lv_iconst C.1 C.2.1 (v := 1) dX12_isRather_122 rfl ?_
          refine lv_goto C.1 C.2.1 (tgt := 127) dX12_isRather_123 (by decide) ?_
          exact z_ri C hr hlk (bz_n bz1) hP hS ⟨bz1, h⟩ dX12_isRather_127
      · have h := h.2 hc
        refine lv_aload_n C.1 C.2.1 dX12_isRather_72 rfl (lv_at hl 0 rfl) ?_
        refine gf11_4 C hP hb (m11 hb hL) q1383 dX12_isRather_73 ?_
        refine gf9_4 C hP (show kd 60 = 9 from rfl) (hL 60 (Nat.le_of_ble_eq_true rfl) (Nat.le_of_ble_eq_true rfl)) q1328 dX12_isRather_76 ?_
        refine lv_iload_n C.1 C.2.1 dX12_isRather_79 rfl (lv_at hl 2 rfl) ?_
        obtain ⟨hi, h⟩ := h
        refine z_iald C hP (show kd 61 = 20 from rfl) (show ln 61 = 9 from rfl) (hL 61 (Nat.le_of_ble_eq_true rfl) (Nat.le_of_ble_eq_true rfl)) hi dX12_isRather_80 ?_
        refine lv_aload_n C.1 C.2.1 dX12_isRather_81 rfl (lv_at hl 0 rfl) ?_
        refine gf11_4 C hP hb (m11 hb hL) q1383 dX12_isRather_82 ?_
        refine gf9_4 C hP (show kd 60 = 9 from rfl) (hL 60 (Nat.le_of_ble_eq_true rfl) (Nat.le_of_ble_eq_true rfl)) q1328 dX12_isRather_85 ?_
        refine lv_iload_n C.1 C.2.1 dX12_isRather_88 rfl (lv_at hl 3 rfl) ?_
        obtain ⟨hi, h⟩ := h
        refine z_iald C hP (show kd 61 = 20 from rfl) (show ln 61 = 9 from rfl) (hL 61 (Nat.le_of_ble_eq_true rfl) (Nat.le_of_ble_eq_true rfl)) hi dX12_isRather_89 ?_
        refine lv_icmp_ge C.1 C.2.1 (tgt := 97) dX12_isRather_90 (by decide) (fun hc => ?_) (fun hc => ?_)
        · have h := h.1 hc
          refine lv_iconst C.1 C.2.1 (v := 0) dX12_isRather_97 rfl ?_
          refine lv_goto C.1 C.2.1 (tgt := 127) dX12_isRather_98 (by decide) ?_
          exact z_ri C hr hlk (bz_n bz0) hP hS ⟨bz0, h⟩ dX12_isRather_127
        · have h := h.2 hc
          refine lv_iconst C.1 C.2.1 (v := 1) dX12_isRather_93 rfl ?_
          refine lv_goto C.1 C.2.1 (tgt := 127) dX12_isRather_94 (by decide) ?_
          exact z_ri C hr hlk (bz_n bz1) hP hS ⟨bz1, h⟩ dX12_isRather_127
    · have h := h.2 hc
      refine lv_aload_n C.1 C.2.1 dX12_isRather_39 rfl (lv_at hl 0 rfl) ?_
      refine gf11_4 C hP hb (m11 hb hL) q1383 dX12_isRather_40 ?_
      refine gf9_5 C hP (show kd 60 = 9 from rfl) (hL 60 (Nat.le_of_ble_eq_true rfl) (Nat.le_of_ble_eq_true rfl)) q1331 dX12_isRather_43 ?_
      refine lv_iload_n C.1 C.2.1 dX12_isRather_46 rfl (lv_at hl 2 rfl) ?_
      obtain ⟨hi, h⟩ := h
      refine z_iald C hP (show kd 62 = 20 from rfl) (show ln 62 = 9 from rfl) (hL 62 (Nat.le_of_ble_eq_true rfl) (Nat.le_of_ble_eq_true rfl)) hi dX12_isRather_47 ?_
      refine lv_aload_n C.1 C.2.1 dX12_isRather_48 rfl (lv_at hl 0 rfl) ?_
      refine gf11_4 C hP hb (m11 hb hL) q1383 dX12_isRather_49 ?_
      refine gf9_5 C hP (show kd 60 = 9 from rfl) (hL 60 (Nat.le_of_ble_eq_true rfl) (Nat.le_of_ble_eq_true rfl)) q1331 dX12_isRather_52 ?_
      refine lv_iload_n C.1 C.2.1 dX12_isRather_55 rfl (lv_at hl 3 rfl) ?_
      obtain ⟨hi, h⟩ := h
      refine z_iald C hP (show kd 62 = 20 from rfl) (show ln 62 = 9 from rfl) (hL 62 (Nat.le_of_ble_eq_true rfl) (Nat.le_of_ble_eq_true rfl)) hi dX12_isRather_56 ?_
      refine lv_icmp_le C.1 C.2.1 (tgt := 64) dX12_isRather_57 (by decide) (fun hc => ?_) (fun hc => ?_)
      · have h := h.1 hc
        refine lv_iconst C.1 C.2.1 (v := 0) dX12_isRather_64 rfl ?_
        exact z_ri C hr hlk (bz_n bz0) hP hS ⟨bz0, h⟩ dX12_isRather_65
      · have h := h.2 hc
        refine lv_iconst C.1 C.2.1 (v := 1) dX12_isRather_60 rfl ?_
        refine lv_goto C.1 C.2.1 (tgt := 65) dX12_isRather_61 (by decide) ?_
        exact z_ri C hr hlk (bz_n bz1) hP hS ⟨bz1, h⟩ dX12_isRather_65
  · have h := h.2 hc
    refine lv_aload_n C.1 C.2.1 dX12_isRather_6 rfl (lv_at hl 0 rfl) ?_
    refine gf11_4 C hP hb (m11 hb hL) q1383 dX12_isRather_7 ?_
    refine gf9_5 C hP (show kd 60 = 9 from rfl) (hL 60 (Nat.le_of_ble_eq_true rfl) (Nat.le_of_ble_eq_true rfl)) q1331 dX12_isRather_10 ?_
    refine lv_iload_n C.1 C.2.1 dX12_isRather_13 rfl (lv_at hl 2 rfl) ?_
    obtain ⟨hi, h⟩ := h
    refine z_iald C hP (show kd 62 = 20 from rfl) (show ln 62 = 9 from rfl) (hL 62 (Nat.le_of_ble_eq_true rfl) (Nat.le_of_ble_eq_true rfl)) hi dX12_isRather_14 ?_
    refine lv_aload_n C.1 C.2.1 dX12_isRather_15 rfl (lv_at hl 0 rfl) ?_
    refine gf11_4 C hP hb (m11 hb hL) q1383 dX12_isRather_16 ?_
    refine gf9_5 C hP (show kd 60 = 9 from rfl) (hL 60 (Nat.le_of_ble_eq_true rfl) (Nat.le_of_ble_eq_true rfl)) q1331 dX12_isRather_19 ?_
    refine lv_iload_n C.1 C.2.1 dX12_isRather_22 rfl (lv_at hl 3 rfl) ?_
    obtain ⟨hi, h⟩ := h
    refine z_iald C hP (show kd 62 = 20 from rfl) (show ln 62 = 9 from rfl) (hL 62 (Nat.le_of_ble_eq_true rfl) (Nat.le_of_ble_eq_true rfl)) hi dX12_isRather_23 ?_
    refine lv_icmp_ge C.1 C.2.1 (tgt := 31) dX12_isRather_24 (by decide) (fun hc => ?_) (fun hc => ?_)
    · have h := h.1 hc
      refine lv_iconst C.1 C.2.1 (v := 0) dX12_isRather_31 rfl ?_
      exact z_ri C hr hlk (bz_n bz0) hP hS ⟨bz0, h⟩ dX12_isRather_32
    · have h := h.2 hc
      refine lv_iconst C.1 C.2.1 (v := 1) dX12_isRather_27 rfl ?_
      refine lv_goto C.1 C.2.1 (tgt := 32) dX12_isRather_28 (by decide) ?_
      exact z_ri C hr hlk (bz_n bz1) hP hS ⟨bz1, h⟩ dX12_isRather_32
def rmX12_meant : Room := { frames := 1, cells := 0, slots := 0, locals := 23 }
def wX12_meant_L60 (b : Nat) (p1 : Int32) (p2 : Int32) (R11 : Int32 × Int32 × Int32 × Int32 × St → Prop) (v1 : Int32) (v2 : Int32) (v3 : Int32) (v4 : Int32) (st : St) (Q : Int32 → St → Prop) : Prop :=
  (∀ x5 : Int32, x5 = v4 + 1 → R11 (v1, v2, v3, x5, st))
def wX12_meant_L57 (b : Nat) (p1 : Int32) (p2 : Int32) (R11 : Int32 × Int32 × Int32 × Int32 × St → Prop) (v1 : Int32) (v2 : Int32) (v4 : Int32) (st : St) (Q : Int32 → St → Prop) : Prop :=
  wX12_meant_L60 b p1 p2 R11 v1 v2 v4 v4 st Q
def wX12_meant_L11 (b : Nat) (p1 : Int32) (p2 : Int32)  (R11 : Int32 × Int32 × Int32 × Int32 × St → Prop) (v1 : Int32) (v2 : Int32) (v3 : Int32) (v4 : Int32) (st : St) (Q : Int32 → St → Prop) : Prop :=
  (((gI st 60 0) ≤ v4 → Q v3 st) ∧ (¬ (gI st 60 0) ≤ v4 → ((v4 = v2 → wX12_meant_L60 b p1 p2 R11 v1 v2 v3 v4 st Q) ∧ (¬ v4 = v2 → (wX12_isThere b v4 st (fun r2 st1 => ((¬ r2 = 0 → ((v3 = (-1) → wX12_meant_L57 b p1 p2 R11 v1 v2 v4 st1 Q) ∧ (¬ v3 = (-1) → (wX12_isRather b v1 v4 v3 st1 (fun r4 st3 => ((r4 = 0 → wX12_meant_L60 b p1 p2 R11 v1 v2 v3 v4 st3 Q) ∧ (¬ r4 = 0 → wX12_meant_L57 b p1 p2 R11 v1 v2 v4 st3 Q))))))) ∧ (r2 = 0 → wX12_meant_L60 b p1 p2 R11 v1 v2 v3 v4 st1 Q))))))))
def wX12_meant (b : Nat) (p1 : Int32) (p2 : Int32) (st : St) (Q : Int32 → St → Prop) : Prop :=
  ((p1 < 0 → (∃ n, lp (fun R s => wX12_meant_L11 b p1 p2 R s.1 s.2.1 s.2.2.1 s.2.2.2.1 s.2.2.2.2 Q) n (p1, p2, (-1), 0, st))) ∧ (¬ p1 < 0 → Q p1 st))
theorem hdX12_meant : yX12_meant.cls = "PlankBridgeModel" ∧ yX12_meant.cls ≠ "java/lang/invoke/MethodHandle" ∧ yX12_meant.cls ≠ "java/lang/invoke/VarHandle" ∧ (parseMethodDescriptor yX12_meant.desc).map (fun d => d.parameters.length) = some 2 := by decide +kernel
set_option maxHeartbeats 4000000 in
set_option maxRecDepth 100000 in
theorem tX12_meant_L60 {l : Launch} {p : Program} {e : Env} {s : State} {m : MethodId} {args : Array Value} {below : List Frame} {meth : Method} {c : Code} {E : En0} {L : List Nat} (hL : Cov 54 67 L) (C : Cx E L "PlankBridgeModel" cX12_meant 5 p s m args c) (hr : meth.sig.returnType = (some .int)) (hlk : meth.locks = false) {b : Nat} {p1 : Int32} {p2 : Int32} {Q : Int32 → St → Prop} (hb : kd b = 11) {R11 : Int32 × Int32 × Int32 × Int32 × St → Prop} (hR11 : ∀ (v1 : Int32) (v2 : Int32) (v3 : Int32) (v4 : Int32) (st : St), ∀ (H : Heap) (locs : List Loc) (ls : Array Slot), R11 (v1, v2, v3, v4, st) → lv_has ls 5 [(0, .ref (E.2.1 b)), (1, .int v1), (2, .int v2), (3, .int v3), (4, .int v4)] → va_P E.1 vwCl (wd E L st) H → va_S (fA E L s.heap.size) s.heap H locs → W p l e rmX12_meant s m args below meth c H locs 0 0 (MQ below (zI E L Q (fA E L s.heap.size)) args s rmX12_meant.cells rmX12_meant.slots (fA E L s.heap.size)) (F0 m 11 ls [])) {v1 : Int32} {v2 : Int32} {v3 : Int32} {v4 : Int32}  {st : St} (H : Heap) (locs : List Loc) (ls : Array Slot) (h : wX12_meant_L60 b p1 p2 R11 v1 v2 v3 v4 st Q) (hl : lv_has ls 5 [(0, .ref (E.2.1 b)), (1, .int v1), (2, .int v2), (3, .int v3), (4, .int v4)]) (hP : va_P E.1 vwCl (wd E L st) H) (hS : va_S (fA E L s.heap.size) s.heap H locs) : W p l e rmX12_meant s m args below meth c H locs 0 0 (MQ below (zI E L Q (fA E L s.heap.size)) args s rmX12_meant.cells rmX12_meant.slots (fA E L s.heap.size)) (F0 m 60 ls []) := by
  unfold wX12_meant_L60 at h
  obtain ⟨x5, ex5⟩ : ∃ z, z = v4 + 1 := ⟨_, rfl⟩
  have h := h x5 ex5
  refine lv_iinc C.1 C.2.1 dX12_meant_60 hl (k := 4) rfl ex5.symm (Nat.le_of_ble_eq_true rfl) rfl (fun ls hl => ?_)
  have hl : lv_has ls 5 [(4, .int x5), (0, .ref (E.2.1 b)), (1, .int v1), (2, .int v2), (3, .int v3)] := hl
  refine lv_goto C.1 C.2.1 (tgt := 11) dX12_meant_63 (by decide) ?_
  exact hR11 v1 v2 v3 x5 st _ _ _ h (lv_sub hl [1, 2, 3, 4, 0] rfl) hP hS
set_option maxHeartbeats 4000000 in
set_option maxRecDepth 100000 in
theorem tX12_meant_L57 {l : Launch} {p : Program} {e : Env} {s : State} {m : MethodId} {args : Array Value} {below : List Frame} {meth : Method} {c : Code} {E : En0} {L : List Nat} (hL : Cov 54 67 L) (C : Cx E L "PlankBridgeModel" cX12_meant 5 p s m args c) (hr : meth.sig.returnType = (some .int)) (hlk : meth.locks = false) {b : Nat} {p1 : Int32} {p2 : Int32} {Q : Int32 → St → Prop} (hb : kd b = 11) {R11 : Int32 × Int32 × Int32 × Int32 × St → Prop} (hR11 : ∀ (v1 : Int32) (v2 : Int32) (v3 : Int32) (v4 : Int32) (st : St), ∀ (H : Heap) (locs : List Loc) (ls : Array Slot), R11 (v1, v2, v3, v4, st) → lv_has ls 5 [(0, .ref (E.2.1 b)), (1, .int v1), (2, .int v2), (3, .int v3), (4, .int v4)] → va_P E.1 vwCl (wd E L st) H → va_S (fA E L s.heap.size) s.heap H locs → W p l e rmX12_meant s m args below meth c H locs 0 0 (MQ below (zI E L Q (fA E L s.heap.size)) args s rmX12_meant.cells rmX12_meant.slots (fA E L s.heap.size)) (F0 m 11 ls [])) {v1 : Int32} {v2 : Int32} {v4 : Int32}  {st : St} (H : Heap) (locs : List Loc) (ls : Array Slot) (h : wX12_meant_L57 b p1 p2 R11 v1 v2 v4 st Q) (hl : lv_has ls 5 [(0, .ref (E.2.1 b)), (1, .int v1), (2, .int v2), (4, .int v4)]) (hP : va_P E.1 vwCl (wd E L st) H) (hS : va_S (fA E L s.heap.size) s.heap H locs) : W p l e rmX12_meant s m args below meth c H locs 0 0 (MQ below (zI E L Q (fA E L s.heap.size)) args s rmX12_meant.cells rmX12_meant.slots (fA E L s.heap.size)) (F0 m 57 ls []) := by
  unfold wX12_meant_L57 at h
  refine lv_iload C.1 C.2.1 dX12_meant_57 (lv_at hl 3 rfl) ?_
  refine lv_istore_n C.1 C.2.1 dX12_meant_59 rfl hl (Nat.le_of_ble_eq_true rfl) rfl (fun ls hl => ?_)
  have hl : lv_has ls 5 [(3, .int v4), (0, .ref (E.2.1 b)), (1, .int v1), (2, .int v2), (4, .int v4)] := hl
  exact tX12_meant_L60 hL C hr hlk hb hR11 _ _ _ h (lv_sub hl [1, 2, 3, 0, 4] rfl) hP hS
set_option maxHeartbeats 4000000 in
set_option maxRecDepth 100000 in
theorem tX12_meant_L11 {l : Launch} {p : Program} {e : Env} {s : State} {m : MethodId} {args : Array Value} {below : List Frame} {meth : Method} {c : Code} {E : En0} {L : List Nat} (hL : Cov 54 67 L) (C : Cx E L "PlankBridgeModel" cX12_meant 5 p s m args c) (hr : meth.sig.returnType = (some .int)) (hlk : meth.locks = false) {b : Nat} {p1 : Int32} {p2 : Int32} {Q : Int32 → St → Prop} (hb : kd b = 11) : ∀ (n : Nat) (v1 : Int32) (v2 : Int32) (v3 : Int32) (v4 : Int32) (st : St) (H : Heap) (locs : List Loc) (ls : Array Slot), lp (fun R s => wX12_meant_L11 b p1 p2 R s.1 s.2.1 s.2.2.1 s.2.2.2.1 s.2.2.2.2 Q) n (v1, v2, v3, v4, st) → lv_has ls 5 [(0, .ref (E.2.1 b)), (1, .int v1), (2, .int v2), (3, .int v3), (4, .int v4)] → va_P E.1 vwCl (wd E L st) H → va_S (fA E L s.heap.size) s.heap H locs → W p l e rmX12_meant s m args below meth c H locs 0 0 (MQ below (zI E L Q (fA E L s.heap.size)) args s rmX12_meant.cells rmX12_meant.slots (fA E L s.heap.size)) (F0 m 11 ls []) := by
  intro n
  induction n with
  | zero => exact fun _ _ _ _ _ _ _ _ h _ _ _ => False.elim ‹_›
  | succ n ih =>
    intro v1 v2 v3 v4 st  H locs ls h hl hP hS
    have hR11 := ih
    replace h : wX12_meant_L11 b p1 p2 (lp (fun R s => wX12_meant_L11 b p1 p2 R s.1 s.2.1 s.2.2.1 s.2.2.2.1 s.2.2.2.2 Q) n) v1 v2 v3 v4 st Q := h
    unfold wX12_meant_L11 at h
    refine lv_iload C.1 C.2.1 dX12_meant_11 (lv_at hl 4 rfl) ?_
    refine lv_aload_n C.1 C.2.1 dX12_meant_13 rfl (lv_at hl 0 rfl) ?_
    refine gf11_4 C hP hb (m11 hb hL) q1383 dX12_meant_14 ?_
    refine gf9_0 C hP (show kd 60 = 9 from rfl) (hL 60 (Nat.le_of_ble_eq_true rfl) (Nat.le_of_ble_eq_true rfl)) q1320 dX12_meant_17 ?_
    refine lv_icmp_ge C.1 C.2.1 (tgt := 66) dX12_meant_20 (by decide) (fun hc => ?_) (fun hc => ?_)
    · have h := h.1 hc
      refine lv_iload_n C.1 C.2.1 dX12_meant_66 rfl (lv_at hl 3 rfl) ?_
      exact z_ri C hr hlk rfl hP hS h dX12_meant_67
    · have h := h.2 hc
      refine lv_iload C.1 C.2.1 dX12_meant_23 (lv_at hl 4 rfl) ?_
      refine lv_iload_n C.1 C.2.1 dX12_meant_25 rfl (lv_at hl 2 rfl) ?_
      refine lv_icmp_eq C.1 C.2.1 (tgt := 60) dX12_meant_26 (by decide) (fun hc => ?_) (fun hc => ?_)
      · have h := h.1 hc
        exact tX12_meant_L60 hL C hr hlk hb hR11 _ _ _ h hl hP hS
      · have h := h.2 hc
        refine lv_aload_n C.1 C.2.1 dX12_meant_29 rfl (lv_at hl 0 rfl) ?_
        refine lv_iload C.1 C.2.1 dX12_meant_30 (lv_at hl 4 rfl) ?_
        refine z_ki hS (z_runV (As := [.int v4]) (rest := []) C hP hS (m11 hb hL) (e11 hb) rfl (tX12_isThere C.2.2.2.2.2.2.1 (hL.mo (Nat.le_of_ble_eq_true rfl) (Nat.le_of_ble_eq_true rfl)) hb h) q1785 q1787 q78 q116 q1788 hdX12_isThere ⟨Nat.le_of_ble_eq_true rfl, Nat.le_of_ble_eq_true rfl⟩ ⟨Nat.zero_le _, Nat.zero_le _⟩ rfl hl.1 rfl (lv_room (Nat.le_of_ble_eq_true rfl)) dX12_meant_32) (fun r2 st1 H locs h hP hS => ?_)
        obtain ⟨hr2, h⟩ := h
        refine lv_if_ne C.1 C.2.1 (tgt := 41) dX12_meant_35 (by decide) (fun hc => ?_) (fun hc => ?_)
        · have h := h.1 hc
          refine lv_iload_n C.1 C.2.1 dX12_meant_41 rfl (lv_at hl 3 rfl) ?_
          refine lv_iconst C.1 C.2.1 (v := (-1)) dX12_meant_42 rfl ?_
          refine lv_icmp_eq C.1 C.2.1 (tgt := 57) dX12_meant_43 (by decide) (fun hc => ?_) (fun hc => ?_)
          · have h := h.1 hc
            exact tX12_meant_L57 hL C hr hlk hb hR11 _ _ _ h (lv_sub hl [0, 1, 2, 4] rfl) hP hS
          · have h := h.2 hc
            refine lv_aload_n C.1 C.2.1 dX12_meant_46 rfl (lv_at hl 0 rfl) ?_
            refine lv_iload_n C.1 C.2.1 dX12_meant_47 rfl (lv_at hl 1 rfl) ?_
            refine lv_iload C.1 C.2.1 dX12_meant_48 (lv_at hl 4 rfl) ?_
            refine lv_iload_n C.1 C.2.1 dX12_meant_50 rfl (lv_at hl 3 rfl) ?_
            refine z_ki hS (z_runV (As := [.int v1, .int v4, .int v3]) (rest := []) C hP hS (m11 hb hL) (e11 hb) rfl (tX12_isRather C.2.2.2.2.2.2.1 (hL.mo (Nat.le_of_ble_eq_true rfl) (Nat.le_of_ble_eq_true rfl)) hb h) q1853 q1855 q91 q116 q1856 hdX12_isRather ⟨Nat.le_of_ble_eq_true rfl, Nat.le_of_ble_eq_true rfl⟩ ⟨Nat.zero_le _, Nat.zero_le _⟩ rfl hl.1 rfl (lv_room (Nat.le_of_ble_eq_true rfl)) dX12_meant_51) (fun r4 st3 H locs h hP hS => ?_)
            obtain ⟨hr4, h⟩ := h
            refine lv_if_eq C.1 C.2.1 (tgt := 60) dX12_meant_54 (by decide) (fun hc => ?_) (fun hc => ?_)
            · have h := h.1 hc
              exact tX12_meant_L60 hL C hr hlk hb hR11 _ _ _ h hl hP hS
            · have h := h.2 hc
              exact tX12_meant_L57 hL C hr hlk hb hR11 _ _ _ h (lv_sub hl [0, 1, 2, 4] rfl) hP hS
        · have h := h.2 hc
          refine lv_goto C.1 C.2.1 (tgt := 60) dX12_meant_38 (by decide) ?_
          exact tX12_meant_L60 hL C hr hlk hb hR11 _ _ _ h hl hP hS
set_option maxHeartbeats 4000000 in
set_option maxRecDepth 100000 in
theorem tX12_meant {l : Launch} {E : En0} {L : List Nat} (hE : EK E L) (hL : Cov 54 67 L) {b : Nat} {p1 : Int32} {p2 : Int32} {st : St} {Q : Int32 → St → Prop} (hb : kd b = 11) (h : wX12_meant b p1 p2 st Q) : Mz l yX12_meant cX12_meant 5 (some .int) rmX12_meant E L [.ref (E.2.1 b), .int p1, .int p2] st (zI E L Q) := by
  refine Mz.of hE (by decide) (Nat.le_of_ble_eq_true rfl) ?_
  intro p e s m below meth c ls C hr hlk _ hl hP
  replace C : Cx E L "PlankBridgeModel" cX12_meant 5 p s m _ c := C
  have hS : va_S (fA E L s.heap.size) s.heap s.heap [] := va_S.rf
  replace hl : lv_has ls 5 [(0, .ref (E.2.1 b)), (1, .int p1), (2, .int p2)] := hl
  unfold wX12_meant at h
  refine lv_iload_n C.1 C.2.1 dX12_meant_0 rfl (lv_at hl 1 rfl) ?_
  refine lv_if_lt C.1 C.2.1 (tgt := 6) dX12_meant_1 (by decide) (fun hc => ?_) (fun hc => ?_)
  · have h := h.1 hc
    refine lv_iconst C.1 C.2.1 (v := (-1)) dX12_meant_6 rfl ?_
    refine lv_istore_n C.1 C.2.1 dX12_meant_7 rfl hl (Nat.le_of_ble_eq_true rfl) rfl (fun ls hl => ?_)
    have hl : lv_has ls 5 [(3, .int (-1)), (0, .ref (E.2.1 b)), (1, .int p1), (2, .int p2)] := hl
    refine lv_iconst C.1 C.2.1 (v := 0) dX12_meant_8 rfl ?_
    refine lv_istore C.1 C.2.1 dX12_meant_9 hl (Nat.le_of_ble_eq_true rfl) rfl (fun ls hl => ?_)
    have hl : lv_has ls 5 [(4, .int 0), (3, .int (-1)), (0, .ref (E.2.1 b)), (1, .int p1), (2, .int p2)] := hl
    obtain ⟨n, h⟩ := h
    exact tX12_meant_L11 hL C hr hlk hb n p1 p2 (-1) 0 st _ _ _ h (lv_sub hl [2, 3, 4, 1, 0] rfl) hP hS
  · have h := h.2 hc
    refine lv_iload_n C.1 C.2.1 dX12_meant_4 rfl (lv_at hl 1 rfl) ?_
    exact z_ri C hr hlk rfl hP hS h dX12_meant_5
def rmX12_send : Room := { frames := 4, cells := 0, slots := 0, locals := 92 }
def wX12_send_L48 (b : Nat) (p1 : Int32) (p2 : Int32)  (v3 : Int32) (v4 : Int32) (st : St) (Q : Int32 → St → Prop) : Prop :=
  (wX12_canCross b v3 v4 st (fun r6 st5 => ((¬ r6 = 0 → (wX12_cross b v3 v4 st5 (fun r8 st7 => Q 1 st7))) ∧ (r6 = 0 → Q 0 st5))))
def wX12_send_L29 (b : Nat) (p1 : Int32) (p2 : Int32)  (v2 : Int32) (v3 : Int32) (s0 : Int32) (st : St) (Q : Int32 → St → Prop) : Prop :=
  ((v2 = (-1) → wX12_send_L48 b p1 p2 v3 s0 st Q) ∧ (¬ v2 = (-1) → ((s0 = (-1) → Q 0 st) ∧ (¬ s0 = (-1) → ((s0 = v3 → Q 0 st) ∧ (¬ s0 = v3 → wX12_send_L48 b p1 p2 v3 s0 st Q))))))
def wX12_send (b : Nat) (p1 : Int32) (p2 : Int32) (st : St) (Q : Int32 → St → Prop) : Prop :=
  (wX12_meant b p1 (-1) st (fun r2 st1 => ((¬ r2 = (-1) → ((¬ p2 = (-1) → (wX12_meant b p2 r2 st1 (fun r4 st3 => wX12_send_L29 b p1 p2 p2 r2 r4 st3 Q))) ∧ (p2 = (-1) → wX12_send_L29 b p1 p2 p2 r2 (-1) st1 Q))) ∧ (r2 = (-1) → Q 0 st1))))
theorem hdX12_send : yX12_send.cls = "PlankBridgeModel" ∧ yX12_send.cls ≠ "java/lang/invoke/MethodHandle" ∧ yX12_send.cls ≠ "java/lang/invoke/VarHandle" ∧ (parseMethodDescriptor yX12_send.desc).map (fun d => d.parameters.length) = some 2 := by decide +kernel
set_option maxHeartbeats 4000000 in
set_option maxRecDepth 100000 in
theorem tX12_send_L48 {l : Launch} {p : Program} {e : Env} {s : State} {m : MethodId} {args : Array Value} {below : List Frame} {meth : Method} {c : Code} {E : En0} {L : List Nat} (hL : Cov 54 67 L) (C : Cx E L "PlankBridgeModel" cX12_send 5 p s m args c) (hr : meth.sig.returnType = (some .boolean)) (hlk : meth.locks = false) {b : Nat} {p1 : Int32} {p2 : Int32} {Q : Int32 → St → Prop} (hb : kd b = 11) {v3 : Int32} {v4 : Int32}  {st : St} (H : Heap) (locs : List Loc) (ls : Array Slot) (h : wX12_send_L48 b p1 p2 v3 v4 st Q) (hl : lv_has ls 5 [(0, .ref (E.2.1 b)), (3, .int v3), (4, .int v4)]) (hP : va_P E.1 vwCl (wd E L st) H) (hS : va_S (fA E L s.heap.size) s.heap H locs) : W p l e rmX12_send s m args below meth c H locs 0 0 (MQ below (zI E L (fun r u => bz r ∧ Q r u) (fA E L s.heap.size)) args s rmX12_send.cells rmX12_send.slots (fA E L s.heap.size)) (F0 m 48 ls []) := by
  unfold wX12_send_L48 at h
  refine lv_aload_n C.1 C.2.1 dX12_send_48 rfl (lv_at hl 0 rfl) ?_
  refine lv_iload_n C.1 C.2.1 dX12_send_49 rfl (lv_at hl 1 rfl) ?_
  refine lv_iload C.1 C.2.1 dX12_send_50 (lv_at hl 2 rfl) ?_
  refine z_ki hS (z_runV (As := [.int v3, .int v4]) (rest := []) C hP hS (m11 hb hL) (e11 hb) rfl (tX12_canCross C.2.2.2.2.2.2.1 (hL.mo (Nat.le_of_ble_eq_true rfl) (Nat.le_of_ble_eq_true rfl)) hb h) q1777 q1779 q76 q116 q1780 hdX12_canCross ⟨Nat.le_of_ble_eq_true rfl, Nat.le_of_ble_eq_true rfl⟩ ⟨Nat.zero_le _, Nat.zero_le _⟩ rfl hl.1 rfl (lv_room (Nat.le_of_ble_eq_true rfl)) dX12_send_52) (fun r6 st5 H locs h hP hS => ?_)
  obtain ⟨hr6, h⟩ := h
  refine lv_if_ne C.1 C.2.1 (tgt := 60) dX12_send_55 (by decide) (fun hc => ?_) (fun hc => ?_)
  · have h := h.1 hc
    refine lv_aload_n C.1 C.2.1 dX12_send_60 rfl (lv_at hl 0 rfl) ?_
    refine lv_iload_n C.1 C.2.1 dX12_send_61 rfl (lv_at hl 1 rfl) ?_
    refine lv_iload C.1 C.2.1 dX12_send_62 (lv_at hl 2 rfl) ?_
    refine z_ki hS (z_runV (As := [.int v3, .int v4]) (rest := []) C hP hS (m11 hb hL) (e11 hb) rfl (tX12_cross C.2.2.2.2.2.2.1 (hL.mo (Nat.le_of_ble_eq_true rfl) (Nat.le_of_ble_eq_true rfl)) hb h) q1789 q1791 q79 q116 q1792 hdX12_cross ⟨Nat.le_of_ble_eq_true rfl, Nat.le_of_ble_eq_true rfl⟩ ⟨Nat.zero_le _, Nat.zero_le _⟩ rfl hl.1 rfl (lv_room (Nat.le_of_ble_eq_true rfl)) dX12_send_64) (fun r8 st7 H locs h hP hS => ?_)
    obtain ⟨hr8, h⟩ := h
    refine lv_pop C.1 C.2.1 dX12_send_67 rfl ?_
    refine lv_iconst C.1 C.2.1 (v := 1) dX12_send_68 rfl ?_
    exact z_ri C hr hlk (bz_n bz1) hP hS ⟨bz1, h⟩ dX12_send_69
  · have h := h.2 hc
    refine lv_iconst C.1 C.2.1 (v := 0) dX12_send_58 rfl ?_
    exact z_ri C hr hlk (bz_n bz0) hP hS ⟨bz0, h⟩ dX12_send_59
set_option maxHeartbeats 4000000 in
set_option maxRecDepth 100000 in
theorem tX12_send_L29 {l : Launch} {p : Program} {e : Env} {s : State} {m : MethodId} {args : Array Value} {below : List Frame} {meth : Method} {c : Code} {E : En0} {L : List Nat} (hL : Cov 54 67 L) (C : Cx E L "PlankBridgeModel" cX12_send 5 p s m args c) (hr : meth.sig.returnType = (some .boolean)) (hlk : meth.locks = false) {b : Nat} {p1 : Int32} {p2 : Int32} {Q : Int32 → St → Prop} (hb : kd b = 11) {v2 : Int32} {v3 : Int32} {s0 : Int32}  {st : St} (H : Heap) (locs : List Loc) (ls : Array Slot) (h : wX12_send_L29 b p1 p2 v2 v3 s0 st Q) (hl : lv_has ls 5 [(0, .ref (E.2.1 b)), (2, .int v2), (3, .int v3)]) (hP : va_P E.1 vwCl (wd E L st) H) (hS : va_S (fA E L s.heap.size) s.heap H locs) : W p l e rmX12_send s m args below meth c H locs 0 0 (MQ below (zI E L (fun r u => bz r ∧ Q r u) (fA E L s.heap.size)) args s rmX12_send.cells rmX12_send.slots (fA E L s.heap.size)) (F0 m 29 ls [.int s0]) := by
  unfold wX12_send_L29 at h
  refine lv_istore C.1 C.2.1 dX12_send_29 hl (Nat.le_of_ble_eq_true rfl) rfl (fun ls hl => ?_)
  have hl : lv_has ls 5 [(4, .int s0), (0, .ref (E.2.1 b)), (2, .int v2), (3, .int v3)] := hl
  refine lv_iload_n C.1 C.2.1 dX12_send_31 rfl (lv_at hl 2 rfl) ?_
  refine lv_iconst C.1 C.2.1 (v := (-1)) dX12_send_32 rfl ?_
  refine lv_icmp_eq C.1 C.2.1 (tgt := 48) dX12_send_33 (by decide) (fun hc => ?_) (fun hc => ?_)
  · have h := h.1 hc
    exact tX12_send_L48 hL C hr hlk hb _ _ _ h (lv_sub hl [1, 3, 0] rfl) hP hS
  · have h := h.2 hc
    refine lv_iload C.1 C.2.1 dX12_send_36 (lv_at hl 0 rfl) ?_
    refine lv_iconst C.1 C.2.1 (v := (-1)) dX12_send_38 rfl ?_
    refine lv_icmp_eq C.1 C.2.1 (tgt := 58) dX12_send_39 (by decide) (fun hc => ?_) (fun hc => ?_)
    · have h := h.1 hc
      refine lv_iconst C.1 C.2.1 (v := 0) dX12_send_58 rfl ?_
      exact z_ri C hr hlk (bz_n bz0) hP hS ⟨bz0, h⟩ dX12_send_59
    · have h := h.2 hc
      refine lv_iload C.1 C.2.1 dX12_send_42 (lv_at hl 0 rfl) ?_
      refine lv_iload_n C.1 C.2.1 dX12_send_44 rfl (lv_at hl 3 rfl) ?_
      refine lv_icmp_eq C.1 C.2.1 (tgt := 58) dX12_send_45 (by decide) (fun hc => ?_) (fun hc => ?_)
      · have h := h.1 hc
        refine lv_iconst C.1 C.2.1 (v := 0) dX12_send_58 rfl ?_
        exact z_ri C hr hlk (bz_n bz0) hP hS ⟨bz0, h⟩ dX12_send_59
      · have h := h.2 hc
        exact tX12_send_L48 hL C hr hlk hb _ _ _ h (lv_sub hl [1, 3, 0] rfl) hP hS
set_option maxHeartbeats 4000000 in
set_option maxRecDepth 100000 in
theorem tX12_send {l : Launch} {E : En0} {L : List Nat} (hE : EK E L) (hL : Cov 54 67 L) {b : Nat} {p1 : Int32} {p2 : Int32} {st : St} {Q : Int32 → St → Prop} (hb : kd b = 11) (h : wX12_send b p1 p2 st Q) : Mz l yX12_send cX12_send 5 (some .boolean) rmX12_send E L [.ref (E.2.1 b), .int p1, .int p2] st (zI E L (fun r u => bz r ∧ Q r u)) := by
  refine Mz.of hE (by decide) (Nat.le_of_ble_eq_true rfl) ?_
  intro p e s m below meth c ls C hr hlk _ hl hP
  replace C : Cx E L "PlankBridgeModel" cX12_send 5 p s m _ c := C
  have hS : va_S (fA E L s.heap.size) s.heap s.heap [] := va_S.rf
  replace hl : lv_has ls 5 [(0, .ref (E.2.1 b)), (1, .int p1), (2, .int p2)] := hl
  unfold wX12_send at h
  refine lv_aload_n C.1 C.2.1 dX12_send_0 rfl (lv_at hl 0 rfl) ?_
  refine lv_iload_n C.1 C.2.1 dX12_send_1 rfl (lv_at hl 1 rfl) ?_
  refine lv_iconst C.1 C.2.1 (v := (-1)) dX12_send_2 rfl ?_
  refine z_ki hS (z_runV (As := [.int p1, .int (-1)]) (rest := []) C hP hS (m11 hb hL) (e11 hb) rfl (tX12_meant C.2.2.2.2.2.2.1 (hL.mo (Nat.le_of_ble_eq_true rfl) (Nat.le_of_ble_eq_true rfl)) hb h) q1849 q1851 q90 q116 q1852 hdX12_meant ⟨Nat.le_of_ble_eq_true rfl, Nat.le_of_ble_eq_true rfl⟩ ⟨Nat.zero_le _, Nat.zero_le _⟩ rfl hl.1 rfl (lv_room (Nat.le_of_ble_eq_true rfl)) dX12_send_3) (fun r2 st1 H locs h hP hS => ?_)
  refine lv_istore_n C.1 C.2.1 dX12_send_6 rfl hl (Nat.le_of_ble_eq_true rfl) rfl (fun ls hl => ?_)
  have hl : lv_has ls 5 [(3, .int r2), (0, .ref (E.2.1 b)), (1, .int p1), (2, .int p2)] := hl
  refine lv_iload_n C.1 C.2.1 dX12_send_7 rfl (lv_at hl 0 rfl) ?_
  refine lv_iconst C.1 C.2.1 (v := (-1)) dX12_send_8 rfl ?_
  refine lv_icmp_ne C.1 C.2.1 (tgt := 14) dX12_send_9 (by decide) (fun hc => ?_) (fun hc => ?_)
  · have h := h.1 hc
    refine lv_iload_n C.1 C.2.1 dX12_send_14 rfl (lv_at hl 3 rfl) ?_
    refine lv_iconst C.1 C.2.1 (v := (-1)) dX12_send_15 rfl ?_
    refine lv_icmp_ne C.1 C.2.1 (tgt := 23) dX12_send_16 (by decide) (fun hc => ?_) (fun hc => ?_)
    · have h := h.1 hc
      refine lv_aload_n C.1 C.2.1 dX12_send_23 rfl (lv_at hl 1 rfl) ?_
      refine lv_iload_n C.1 C.2.1 dX12_send_24 rfl (lv_at hl 3 rfl) ?_
      refine lv_iload_n C.1 C.2.1 dX12_send_25 rfl (lv_at hl 0 rfl) ?_
      refine z_ki hS (z_runV (As := [.int p2, .int r2]) (rest := []) C hP hS (m11 hb hL) (e11 hb) rfl (tX12_meant C.2.2.2.2.2.2.1 (hL.mo (Nat.le_of_ble_eq_true rfl) (Nat.le_of_ble_eq_true rfl)) hb h) q1849 q1851 q90 q116 q1852 hdX12_meant ⟨Nat.le_of_ble_eq_true rfl, Nat.le_of_ble_eq_true rfl⟩ ⟨Nat.zero_le _, Nat.zero_le _⟩ rfl hl.1 rfl (lv_room (Nat.le_of_ble_eq_true rfl)) dX12_send_26) (fun r4 st3 H locs h hP hS => ?_)
      exact tX12_send_L29 hL C hr hlk hb _ _ _ h (lv_sub hl [1, 3, 0] rfl) hP hS
    · have h := h.2 hc
      refine lv_iconst C.1 C.2.1 (v := (-1)) dX12_send_19 rfl ?_
      refine lv_goto C.1 C.2.1 (tgt := 29) dX12_send_20 (by decide) ?_
      exact tX12_send_L29 hL C hr hlk hb _ _ _ h (lv_sub hl [1, 3, 0] rfl) hP hS
  · have h := h.2 hc
    refine lv_iconst C.1 C.2.1 (v := 0) dX12_send_12 rfl ?_
    exact z_ri C hr hlk (bz_n bz0) hP hS ⟨bz0, h⟩ dX12_send_13
def rmX12_mend : Room := { frames := 1, cells := 0, slots := 0, locals := 22 }
def wX12_mend_L14 (b : Nat) (p1 : Int32)  (R14 : Int32 × Int32 × St → Prop) (v1 : Int32) (v2 : Int32) (st : St) (Q : Int32 → St → Prop) : Prop :=
  (((gI st 60 1) ≤ v2 → Q 0 st) ∧ (¬ (gI st 60 1) ≤ v2 → (vp_in ((16 : Int32) + v2) 50 ∧ (((gI st (b + 2) ((16 : Int32) + v2 : Int32).toNatClampNeg) ≤ 0 → (vp_in ((16 : Int32) + v2) 50 ∧ ∀ st3, st3 = uI st (b + 2) ((16 : Int32) + v2 : Int32).toNatClampNeg v1 → (vp_in ((28 : Int32) + v2) 50 ∧ ∀ st4, st4 = uI st3 (b + 2) ((28 : Int32) + v2 : Int32).toNatClampNeg 0 → Q 1 st4))) ∧ (¬ (gI st (b + 2) ((16 : Int32) + v2 : Int32).toNatClampNeg) ≤ 0 → (∀ x5 : Int32, x5 = v2 + 1 → R14 (v1, x5, st)))))))
def wX12_mend (b : Nat) (p1 : Int32) (st : St) (Q : Int32 → St → Prop) : Prop :=
  (wX12_isIn p1 1 30 st (fun r2 st1 => ((¬ r2 = 0 → (∃ n, lp (fun R s => wX12_mend_L14 b p1 R s.1 s.2.1 s.2.2 Q) n (p1, 0, st1))) ∧ (r2 = 0 → Q 0 st1))))
theorem hdX12_mend : yX12_mend.cls = "PlankBridgeModel" ∧ yX12_mend.cls ≠ "java/lang/invoke/MethodHandle" ∧ yX12_mend.cls ≠ "java/lang/invoke/VarHandle" ∧ (parseMethodDescriptor yX12_mend.desc).map (fun d => d.parameters.length) = some 1 := by decide +kernel
set_option maxHeartbeats 4000000 in
set_option maxRecDepth 100000 in
theorem tX12_mend_L14 {l : Launch} {p : Program} {e : Env} {s : State} {m : MethodId} {args : Array Value} {below : List Frame} {meth : Method} {c : Code} {E : En0} {L : List Nat} (hL : Cov 54 67 L) (C : Cx E L "PlankBridgeModel" cX12_mend 3 p s m args c) (hr : meth.sig.returnType = (some .boolean)) (hlk : meth.locks = false) {b : Nat} {p1 : Int32} {Q : Int32 → St → Prop} (hb : kd b = 11) : ∀ (n : Nat) (v1 : Int32) (v2 : Int32) (st : St) (H : Heap) (locs : List Loc) (ls : Array Slot), lp (fun R s => wX12_mend_L14 b p1 R s.1 s.2.1 s.2.2 Q) n (v1, v2, st) → lv_has ls 3 [(0, .ref (E.2.1 b)), (1, .int v1), (2, .int v2)] → va_P E.1 vwCl (wd E L st) H → va_S (fA E L s.heap.size) s.heap H locs → W p l e rmX12_mend s m args below meth c H locs 0 0 (MQ below (zI E L (fun r u => bz r ∧ Q r u) (fA E L s.heap.size)) args s rmX12_mend.cells rmX12_mend.slots (fA E L s.heap.size)) (F0 m 14 ls []) := by
  intro n
  induction n with
  | zero => exact fun _ _ _ _ _ _ h _ _ _ => False.elim ‹_›
  | succ n ih =>
    intro v1 v2 st  H locs ls h hl hP hS
    have hR14 := ih
    replace h : wX12_mend_L14 b p1 (lp (fun R s => wX12_mend_L14 b p1 R s.1 s.2.1 s.2.2 Q) n) v1 v2 st Q := h
    unfold wX12_mend_L14 at h
    refine lv_iload_n C.1 C.2.1 dX12_mend_14 rfl (lv_at hl 2 rfl) ?_
    refine lv_aload_n C.1 C.2.1 dX12_mend_15 rfl (lv_at hl 0 rfl) ?_
    refine gf11_4 C hP hb (m11 hb hL) q1383 dX12_mend_16 ?_
    refine gf9_1 C hP (show kd 60 = 9 from rfl) (hL 60 (Nat.le_of_ble_eq_true rfl) (Nat.le_of_ble_eq_true rfl)) q1321 dX12_mend_19 ?_
    refine lv_icmp_ge C.1 C.2.1 (tgt := 68) dX12_mend_22 (by decide) (fun hc => ?_) (fun hc => ?_)
    · have h := h.1 hc
      refine lv_iconst C.1 C.2.1 (v := 0) dX12_mend_68 rfl ?_
      exact z_ri C hr hlk (bz_n bz0) hP hS ⟨bz0, h⟩ dX12_mend_69
    · have h := h.2 hc
      refine lv_aload_n C.1 C.2.1 dX12_mend_25 rfl (lv_at hl 0 rfl) ?_
      refine gf11_5 C hP hb (m11 hb hL) q1384 dX12_mend_26 ?_
      refine lv_bipush C.1 C.2.1 (v := 16) dX12_mend_29 rfl ?_
      refine lv_iload_n C.1 C.2.1 dX12_mend_31 rfl (lv_at hl 2 rfl) ?_
      refine lv_iadd C.1 C.2.1 dX12_mend_32  ?_
      obtain ⟨hi, h⟩ := h
      refine z_iald C hP (k11_2 hb) (l11_2 hb) (m11_2 hb hL) hi dX12_mend_33 ?_
      refine lv_if_le C.1 C.2.1 (tgt := 40) dX12_mend_34 (by decide) (fun hc => ?_) (fun hc => ?_)
      · have h := h.1 hc
        refine lv_aload_n C.1 C.2.1 dX12_mend_40 rfl (lv_at hl 0 rfl) ?_
        refine gf11_5 C hP hb (m11 hb hL) q1384 dX12_mend_41 ?_
        refine lv_bipush C.1 C.2.1 (v := 16) dX12_mend_44 rfl ?_
        refine lv_iload_n C.1 C.2.1 dX12_mend_46 rfl (lv_at hl 2 rfl) ?_
        refine lv_iadd C.1 C.2.1 dX12_mend_47  ?_
        refine lv_iload_n C.1 C.2.1 dX12_mend_48 rfl (lv_at hl 1 rfl) ?_
        obtain ⟨hi, h⟩ := h
        refine z_iast C hP hS (k11_2 hb) (l11_2 hb) (m11_2 hb hL) hi dX12_mend_49 (fun H locs hP hS => ?_)
        obtain ⟨st3, est3⟩ : ∃ z, z = uI st (b + 2) ((16 : Int32) + v2 : Int32).toNatClampNeg v1 := ⟨_, rfl⟩
        rw [← est3] at hP; have h := h st3 est3
        refine lv_aload_n C.1 C.2.1 dX12_mend_50 rfl (lv_at hl 0 rfl) ?_
        refine gf11_5 C hP hb (m11 hb hL) q1384 dX12_mend_51 ?_
        refine lv_bipush C.1 C.2.1 (v := 28) dX12_mend_54 rfl ?_
        refine lv_iload_n C.1 C.2.1 dX12_mend_56 rfl (lv_at hl 2 rfl) ?_
        refine lv_iadd C.1 C.2.1 dX12_mend_57  ?_
        refine lv_iconst C.1 C.2.1 (v := 0) dX12_mend_58 rfl ?_
        obtain ⟨hi, h⟩ := h
        refine z_iast C hP hS (k11_2 hb) (l11_2 hb) (m11_2 hb hL) hi dX12_mend_59 (fun H locs hP hS => ?_)
        obtain ⟨st4, est4⟩ : ∃ z, z = uI st3 (b + 2) ((28 : Int32) + v2 : Int32).toNatClampNeg 0 := ⟨_, rfl⟩
        rw [← est4] at hP; have h := h st4 est4
        refine lv_iconst C.1 C.2.1 (v := 1) dX12_mend_60 rfl ?_
        exact z_ri C hr hlk (bz_n bz1) hP hS ⟨bz1, h⟩ dX12_mend_61
      · have h := h.2 hc
        refine lv_goto C.1 C.2.1 (tgt := 62) dX12_mend_37 (by decide) ?_
        obtain ⟨x5, ex5⟩ : ∃ z, z = v2 + 1 := ⟨_, rfl⟩
        have h := h x5 ex5
        refine lv_iinc C.1 C.2.1 dX12_mend_62 hl (k := 2) rfl ex5.symm (Nat.le_of_ble_eq_true rfl) rfl (fun ls hl => ?_)
        have hl : lv_has ls 3 [(2, .int x5), (0, .ref (E.2.1 b)), (1, .int v1)] := hl
        refine lv_goto C.1 C.2.1 (tgt := 14) dX12_mend_65 (by decide) ?_
        exact hR14 v1 x5 st _ _ _ h (lv_sub hl [1, 2, 0] rfl) hP hS
set_option maxHeartbeats 4000000 in
set_option maxRecDepth 100000 in
theorem tX12_mend {l : Launch} {E : En0} {L : List Nat} (hE : EK E L) (hL : Cov 54 67 L) {b : Nat} {p1 : Int32} {st : St} {Q : Int32 → St → Prop} (hb : kd b = 11) (h : wX12_mend b p1 st Q) : Mz l yX12_mend cX12_mend 3 (some .boolean) rmX12_mend E L [.ref (E.2.1 b), .int p1] st (zI E L (fun r u => bz r ∧ Q r u)) := by
  refine Mz.of hE (by decide) (Nat.le_of_ble_eq_true rfl) ?_
  intro p e s m below meth c ls C hr hlk _ hl hP
  replace C : Cx E L "PlankBridgeModel" cX12_mend 3 p s m _ c := C
  have hS : va_S (fA E L s.heap.size) s.heap s.heap [] := va_S.rf
  replace hl : lv_has ls 3 [(0, .ref (E.2.1 b)), (1, .int p1)] := hl
  unfold wX12_mend at h
  refine lv_iload_n C.1 C.2.1 dX12_mend_0 rfl (lv_at hl 1 rfl) ?_
  refine lv_iconst C.1 C.2.1 (v := 1) dX12_mend_1 rfl ?_
  refine lv_bipush C.1 C.2.1 (v := 30) dX12_mend_2 rfl ?_
  refine z_ki hS (z_runS (As := [.int p1, .int 1, .int 30]) (rest := []) C hP hS (tX12_isIn C.2.2.2.2.2.2.1 (hL.mo (Nat.le_of_ble_eq_true rfl) (Nat.le_of_ble_eq_true rfl))  h) q1423 q1424 q116 q1425 hdX12_isIn ⟨Nat.le_of_ble_eq_true rfl, Nat.le_of_ble_eq_true rfl⟩ ⟨Nat.zero_le _, Nat.zero_le _⟩ rfl hl.1 rfl (lv_room (Nat.le_of_ble_eq_true rfl)) dX12_mend_4) (fun r2 st1 H locs h hP hS => ?_)
  obtain ⟨hr2, h⟩ := h
  refine lv_if_ne C.1 C.2.1 (tgt := 12) dX12_mend_7 (by decide) (fun hc => ?_) (fun hc => ?_)
  · have h := h.1 hc
    refine lv_iconst C.1 C.2.1 (v := 0) dX12_mend_12 rfl ?_
    refine lv_istore_n C.1 C.2.1 dX12_mend_13 rfl hl (Nat.le_of_ble_eq_true rfl) rfl (fun ls hl => ?_)
    have hl : lv_has ls 3 [(2, .int 0), (0, .ref (E.2.1 b)), (1, .int p1)] := hl
    obtain ⟨n, h⟩ := h
    exact tX12_mend_L14 hL C hr hlk hb n p1 0 st1 _ _ _ h (lv_sub hl [1, 2, 0] rfl) hP hS
  · have h := h.2 hc
    refine lv_iconst C.1 C.2.1 (v := 0) dX12_mend_10 rfl ?_
    exact z_ri C hr hlk (bz_n bz0) hP hS ⟨bz0, h⟩ dX12_mend_11
def rmX12_write : Room := { frames := 0, cells := 0, slots := 0, locals := 0 }
def wX12_write_L3 (b : Nat) (p1 : Int32)  (R3 : Int32 × Int32 × St → Prop) (v1 : Int32) (v2 : Int32) (st : St) (Q : St → Prop) : Prop :=
  ((v2 ≤ 0 → (vp_in 40 50 ∧ ∀ st1, st1 = uI st (b + 2) (40 : Int32).toNatClampNeg v1 → (vp_in 6 50 ∧ (vp_in 6 50 ∧ ∀ st2, st2 = uI st1 (b + 2) (6 : Int32).toNatClampNeg ((gI st1 (b + 2) (6 : Int32).toNatClampNeg) + 1) → Q st2)))) ∧ (¬ v2 ≤ 0 → (vp_in (((40 : Int32) + v2) - 1) 50 ∧ (vp_in ((40 : Int32) + v2) 50 ∧ ∀ st3, st3 = uI st (b + 2) ((40 : Int32) + v2 : Int32).toNatClampNeg (gI st (b + 2) (((40 : Int32) + v2) - 1 : Int32).toNatClampNeg) → (∀ x4 : Int32, x4 = v2 + (-1) → R3 (v1, x4, st3))))))
def wX12_write (b : Nat) (p1 : Int32) (st : St) (Q : St → Prop) : Prop :=
  (∃ n, lp (fun R s => wX12_write_L3 b p1 R s.1 s.2.1 s.2.2 Q) n (p1, 9, st))
theorem hdX12_write : yX12_write.cls = "PlankBridgeModel" ∧ yX12_write.cls ≠ "java/lang/invoke/MethodHandle" ∧ yX12_write.cls ≠ "java/lang/invoke/VarHandle" ∧ (parseMethodDescriptor yX12_write.desc).map (fun d => d.parameters.length) = some 1 := by decide +kernel
set_option maxHeartbeats 4000000 in
set_option maxRecDepth 100000 in
theorem tX12_write_L3 {l : Launch} {p : Program} {e : Env} {s : State} {m : MethodId} {args : Array Value} {below : List Frame} {meth : Method} {c : Code} {E : En0} {L : List Nat} (hL : Cov 54 67 L) (C : Cx E L "PlankBridgeModel" cX12_write 3 p s m args c) (hr : meth.sig.returnType = none) (hlk : meth.locks = false) {b : Nat} {p1 : Int32} {Q : St → Prop} (hb : kd b = 11) : ∀ (n : Nat) (v1 : Int32) (v2 : Int32) (st : St) (H : Heap) (locs : List Loc) (ls : Array Slot), lp (fun R s => wX12_write_L3 b p1 R s.1 s.2.1 s.2.2 Q) n (v1, v2, st) → lv_has ls 3 [(0, .ref (E.2.1 b)), (1, .int v1), (2, .int v2)] → va_P E.1 vwCl (wd E L st) H → va_S (fA E L s.heap.size) s.heap H locs → W p l e rmX12_write s m args below meth c H locs 0 0 (MQ below (zV E L Q (fA E L s.heap.size)) args s rmX12_write.cells rmX12_write.slots (fA E L s.heap.size)) (F0 m 3 ls []) := by
  intro n
  induction n with
  | zero => exact fun _ _ _ _ _ _ h _ _ _ => False.elim ‹_›
  | succ n ih =>
    intro v1 v2 st  H locs ls h hl hP hS
    have hR3 := ih
    replace h : wX12_write_L3 b p1 (lp (fun R s => wX12_write_L3 b p1 R s.1 s.2.1 s.2.2 Q) n) v1 v2 st Q := h
    unfold wX12_write_L3 at h
    refine lv_iload_n C.1 C.2.1 dX12_write_3 rfl (lv_at hl 2 rfl) ?_
    refine lv_if_le C.1 C.2.1 (tgt := 33) dX12_write_4 (by decide) (fun hc => ?_) (fun hc => ?_)
    · have h := h.1 hc
      refine lv_aload_n C.1 C.2.1 dX12_write_33 rfl (lv_at hl 0 rfl) ?_
      refine gf11_5 C hP hb (m11 hb hL) q1384 dX12_write_34 ?_
      refine lv_bipush C.1 C.2.1 (v := 40) dX12_write_37 rfl ?_
      refine lv_iload_n C.1 C.2.1 dX12_write_39 rfl (lv_at hl 1 rfl) ?_
      obtain ⟨hi, h⟩ := h
      refine z_iast C hP hS (k11_2 hb) (l11_2 hb) (m11_2 hb hL) hi dX12_write_40 (fun H locs hP hS => ?_)
      obtain ⟨st1, est1⟩ : ∃ z, z = uI st (b + 2) (40 : Int32).toNatClampNeg v1 := ⟨_, rfl⟩
      rw [← est1] at hP; have h := h st1 est1
      refine lv_aload_n C.1 C.2.1 dX12_write_41 rfl (lv_at hl 0 rfl) ?_
      refine gf11_5 C hP hb (m11 hb hL) q1384 dX12_write_42 ?_
      refine lv_bipush C.1 C.2.1 (v := 6) dX12_write_45 rfl ?_
      refine lv_dup2_11 C.1 C.2.1 dX12_write_47 rfl rfl ?_
      obtain ⟨hi, h⟩ := h
      refine z_iald C hP (k11_2 hb) (l11_2 hb) (m11_2 hb hL) hi dX12_write_48 ?_
      refine lv_iconst C.1 C.2.1 (v := 1) dX12_write_49 rfl ?_
      refine lv_iadd C.1 C.2.1 dX12_write_50  ?_
      obtain ⟨hi, h⟩ := h
      refine z_iast C hP hS (k11_2 hb) (l11_2 hb) (m11_2 hb hL) hi dX12_write_51 (fun H locs hP hS => ?_)
      obtain ⟨st2, est2⟩ : ∃ z, z = uI st1 (b + 2) (6 : Int32).toNatClampNeg ((gI st1 (b + 2) (6 : Int32).toNatClampNeg) + 1) := ⟨_, rfl⟩
      rw [← est2] at hP; have h := h st2 est2
      exact z_rv C hr hlk hP hS h dX12_write_52
    · have h := h.2 hc
      refine lv_aload_n C.1 C.2.1 dX12_write_7 rfl (lv_at hl 0 rfl) ?_
      refine gf11_5 C hP hb (m11 hb hL) q1384 dX12_write_8 ?_
      refine lv_bipush C.1 C.2.1 (v := 40) dX12_write_11 rfl ?_
      refine lv_iload_n C.1 C.2.1 dX12_write_13 rfl (lv_at hl 2 rfl) ?_
      refine lv_iadd C.1 C.2.1 dX12_write_14  ?_
      refine lv_aload_n C.1 C.2.1 dX12_write_15 rfl (lv_at hl 0 rfl) ?_
      refine gf11_5 C hP hb (m11 hb hL) q1384 dX12_write_16 ?_
      refine lv_bipush C.1 C.2.1 (v := 40) dX12_write_19 rfl ?_
      refine lv_iload_n C.1 C.2.1 dX12_write_21 rfl (lv_at hl 2 rfl) ?_
      refine lv_iadd C.1 C.2.1 dX12_write_22  ?_
      refine lv_iconst C.1 C.2.1 (v := 1) dX12_write_23 rfl ?_
      refine lv_isub C.1 C.2.1 dX12_write_24  ?_
      obtain ⟨hi, h⟩ := h
      refine z_iald C hP (k11_2 hb) (l11_2 hb) (m11_2 hb hL) hi dX12_write_25 ?_
      obtain ⟨hi, h⟩ := h
      refine z_iast C hP hS (k11_2 hb) (l11_2 hb) (m11_2 hb hL) hi dX12_write_26 (fun H locs hP hS => ?_)
      obtain ⟨st3, est3⟩ : ∃ z, z = uI st (b + 2) ((40 : Int32) + v2 : Int32).toNatClampNeg (gI st (b + 2) (((40 : Int32) + v2) - 1 : Int32).toNatClampNeg) := ⟨_, rfl⟩
      rw [← est3] at hP; have h := h st3 est3
      obtain ⟨x4, ex4⟩ : ∃ z, z = v2 + (-1) := ⟨_, rfl⟩
      have h := h x4 ex4
      refine lv_iinc C.1 C.2.1 dX12_write_27 hl (k := 2) rfl ex4.symm (Nat.le_of_ble_eq_true rfl) rfl (fun ls hl => ?_)
      have hl : lv_has ls 3 [(2, .int x4), (0, .ref (E.2.1 b)), (1, .int v1)] := hl
      refine lv_goto C.1 C.2.1 (tgt := 3) dX12_write_30 (by decide) ?_
      exact hR3 v1 x4 st3 _ _ _ h (lv_sub hl [1, 2, 0] rfl) hP hS
set_option maxHeartbeats 4000000 in
set_option maxRecDepth 100000 in
theorem tX12_write {l : Launch} {E : En0} {L : List Nat} (hE : EK E L) (hL : Cov 54 67 L) {b : Nat} {p1 : Int32} {st : St} {Q : St → Prop} (hb : kd b = 11) (h : wX12_write b p1 st Q) : Mz l yX12_write cX12_write 3 none rmX12_write E L [.ref (E.2.1 b), .int p1] st (zV E L Q) := by
  refine Mz.of hE (by decide) (Nat.le_of_ble_eq_true rfl) ?_
  intro p e s m below meth c ls C hr hlk _ hl hP
  replace C : Cx E L "PlankBridgeModel" cX12_write 3 p s m _ c := C
  have hS : va_S (fA E L s.heap.size) s.heap s.heap [] := va_S.rf
  replace hl : lv_has ls 3 [(0, .ref (E.2.1 b)), (1, .int p1)] := hl
  unfold wX12_write at h
  refine lv_bipush C.1 C.2.1 (v := 9) dX12_write_0 rfl ?_
  refine lv_istore_n C.1 C.2.1 dX12_write_2 rfl hl (Nat.le_of_ble_eq_true rfl) rfl (fun ls hl => ?_)
  have hl : lv_has ls 3 [(2, .int 9), (0, .ref (E.2.1 b)), (1, .int p1)] := hl
  obtain ⟨n, h⟩ := h
  exact tX12_write_L3 hL C hr hlk hb n p1 9 st _ _ _ h (lv_sub hl [1, 2, 0] rfl) hP hS
def rmX12_isDone : Room := { frames := 5, cells := 0, slots := 0, locals := 116 }
def wX12_isDone (b : Nat) (p1 : Int32) (p2 : Int32) (p3 : Int32) (st : St) (Q : Int32 → St → Prop) : Prop :=
  ((¬ p1 = 205 → (wX12_value b p2 st (fun r2 st1 => ((¬ p1 = 209 → ((¬ p1 = 208 → (wX12_goBy b (if 0 < (if r2 < 120 then r2 else 120) then (if r2 < 120 then r2 else 120) else 0) st1 (fun st3 => Q 1 st3))) ∧ (p1 = 208 → (wX12_write b r2 st1 (fun st4 => Q 1 st4))))) ∧ (p1 = 209 → (wX12_mend b r2 st1 (fun r6 st5 => Q r6 st5))))))) ∧ (p1 = 205 → (wX12_send b p2 p3 st (fun r8 st7 => Q r8 st7))))
theorem hdX12_isDone : yX12_isDone.cls = "PlankBridgeModel" ∧ yX12_isDone.cls ≠ "java/lang/invoke/MethodHandle" ∧ yX12_isDone.cls ≠ "java/lang/invoke/VarHandle" ∧ (parseMethodDescriptor yX12_isDone.desc).map (fun d => d.parameters.length) = some 3 := by decide +kernel
set_option maxHeartbeats 4000000 in
set_option maxRecDepth 100000 in
theorem tX12_isDone {l : Launch} {E : En0} {L : List Nat} (hE : EK E L) (hL : Cov 54 67 L) {b : Nat} {p1 : Int32} {p2 : Int32} {p3 : Int32} {st : St} {Q : Int32 → St → Prop} (hb : kd b = 11) (h : wX12_isDone b p1 p2 p3 st Q) : Mz l yX12_isDone cX12_isDone 5 (some .boolean) rmX12_isDone E L [.ref (E.2.1 b), .int p1, .int p2, .int p3] st (zI E L (fun r u => bz r ∧ Q r u)) := by
  refine Mz.of hE (by decide) (Nat.le_of_ble_eq_true rfl) ?_
  intro p e s m below meth c ls C hr hlk _ hl hP
  replace C : Cx E L "PlankBridgeModel" cX12_isDone 5 p s m _ c := C
  have hS : va_S (fA E L s.heap.size) s.heap s.heap [] := va_S.rf
  replace hl : lv_has ls 5 [(0, .ref (E.2.1 b)), (1, .int p1), (2, .int p2), (3, .int p3)] := hl
  unfold wX12_isDone at h
  refine lv_iload_n C.1 C.2.1 dX12_isDone_0 rfl (lv_at hl 1 rfl) ?_
  refine lv_sipush C.1 C.2.1 (v := 205) dX12_isDone_1 rfl ?_
  refine lv_icmp_ne C.1 C.2.1 (tgt := 14) dX12_isDone_4 (by decide) (fun hc => ?_) (fun hc => ?_)
  · have h := h.1 hc
    refine lv_aload_n C.1 C.2.1 dX12_isDone_14 rfl (lv_at hl 0 rfl) ?_
    refine lv_iload_n C.1 C.2.1 dX12_isDone_15 rfl (lv_at hl 2 rfl) ?_
    refine z_ki hS (z_runV (As := [.int p2]) (rest := []) C hP hS (m11 hb hL) (e11 hb) rfl (tX12_value C.2.2.2.2.2.2.1 (hL.mo (Nat.le_of_ble_eq_true rfl) (Nat.le_of_ble_eq_true rfl)) hb h) q1837 q1839 q87 q116 q1840 hdX12_value ⟨Nat.le_of_ble_eq_true rfl, Nat.le_of_ble_eq_true rfl⟩ ⟨Nat.zero_le _, Nat.zero_le _⟩ rfl hl.1 rfl (lv_room (Nat.le_of_ble_eq_true rfl)) dX12_isDone_16) (fun r2 st1 H locs h hP hS => ?_)
    refine lv_istore C.1 C.2.1 dX12_isDone_19 hl (Nat.le_of_ble_eq_true rfl) rfl (fun ls hl => ?_)
    have hl : lv_has ls 5 [(4, .int r2), (0, .ref (E.2.1 b)), (1, .int p1), (2, .int p2), (3, .int p3)] := hl
    refine lv_iload_n C.1 C.2.1 dX12_isDone_21 rfl (lv_at hl 2 rfl) ?_
    refine lv_sipush C.1 C.2.1 (v := 209) dX12_isDone_22 rfl ?_
    refine lv_icmp_ne C.1 C.2.1 (tgt := 35) dX12_isDone_25 (by decide) (fun hc => ?_) (fun hc => ?_)
    · have h := h.1 hc
      refine lv_iload_n C.1 C.2.1 dX12_isDone_35 rfl (lv_at hl 2 rfl) ?_
      refine lv_sipush C.1 C.2.1 (v := 208) dX12_isDone_36 rfl ?_
      refine lv_icmp_ne C.1 C.2.1 (tgt := 51) dX12_isDone_39 (by decide) (fun hc => ?_) (fun hc => ?_)
      · have h := h.1 hc
        refine lv_aload_n C.1 C.2.1 dX12_isDone_51 rfl (lv_at hl 1 rfl) ?_
        refine lv_iconst C.1 C.2.1 (v := 0) dX12_isDone_52 rfl ?_
        refine lv_bipush C.1 C.2.1 (v := 120) dX12_isDone_53 rfl ?_
        refine lv_iload C.1 C.2.1 dX12_isDone_55 (lv_at hl 0 rfl) ?_
        refine va_mmin (rest := [.int 0, .ref (E.2.1 b)]) C.1 C.2.1 (C.2.2.1.trans hl.1.symm) C.2.2.2.1 (C.T q1865) (C.T q1866) (C.T q129) (C.T q1867) (Nat.le_of_ble_eq_true rfl) (Nat.le_of_ble_eq_true rfl) (Nat.zero_le _) (Nat.zero_le _) dX12_isDone_57 ?_
        refine va_mmax (rest := [.ref (E.2.1 b)]) C.1 C.2.1 (C.2.2.1.trans hl.1.symm) C.2.2.2.1 (C.T q1716) (C.T q1622) (C.T q129) (C.T q1623) (Nat.le_of_ble_eq_true rfl) (Nat.le_of_ble_eq_true rfl) (Nat.zero_le _) (Nat.zero_le _) dX12_isDone_60 ?_
        refine z_kv hS (z_runV (As := [.int (if 0 < (if r2 < 120 then r2 else 120) then (if r2 < 120 then r2 else 120) else 0)]) (rest := []) C hP hS (m11 hb hL) (e11 hb) rfl (tX12_goBy C.2.2.2.2.2.2.1 (hL.mo (Nat.le_of_ble_eq_true rfl) (Nat.le_of_ble_eq_true rfl)) hb h) q1797 q1799 q81 q116 q1800 hdX12_goBy ⟨Nat.le_of_ble_eq_true rfl, Nat.le_of_ble_eq_true rfl⟩ ⟨Nat.zero_le _, Nat.zero_le _⟩ rfl hl.1 rfl (lv_room (Nat.le_of_ble_eq_true rfl)) dX12_isDone_63) (fun st3 H locs h hP hS => ?_)
        refine lv_iconst C.1 C.2.1 (v := 1) dX12_isDone_66 rfl ?_
        exact z_ri C hr hlk (bz_n bz1) hP hS ⟨bz1, h⟩ dX12_isDone_67
      · have h := h.2 hc
        refine lv_aload_n C.1 C.2.1 dX12_isDone_42 rfl (lv_at hl 1 rfl) ?_
        refine lv_iload C.1 C.2.1 dX12_isDone_43 (lv_at hl 0 rfl) ?_
        refine z_kv hS (z_runV (As := [.int r2]) (rest := []) C hP hS (m11 hb hL) (e11 hb) rfl (tX12_write C.2.2.2.2.2.2.1 (hL.mo (Nat.le_of_ble_eq_true rfl) (Nat.le_of_ble_eq_true rfl)) hb h) q1861 q1863 q93 q116 q1864 hdX12_write ⟨Nat.le_of_ble_eq_true rfl, Nat.le_of_ble_eq_true rfl⟩ ⟨Nat.zero_le _, Nat.zero_le _⟩ rfl hl.1 rfl (lv_room (Nat.le_of_ble_eq_true rfl)) dX12_isDone_45) (fun st4 H locs h hP hS => ?_)
        refine lv_goto C.1 C.2.1 (tgt := 66) dX12_isDone_48 (by decide) ?_
        refine lv_iconst C.1 C.2.1 (v := 1) dX12_isDone_66 rfl ?_
        exact z_ri C hr hlk (bz_n bz1) hP hS ⟨bz1, h⟩ dX12_isDone_67
    · have h := h.2 hc
      refine lv_aload_n C.1 C.2.1 dX12_isDone_28 rfl (lv_at hl 1 rfl) ?_
      refine lv_iload C.1 C.2.1 dX12_isDone_29 (lv_at hl 0 rfl) ?_
      refine z_ki hS (z_runV (As := [.int r2]) (rest := []) C hP hS (m11 hb hL) (e11 hb) rfl (tX12_mend C.2.2.2.2.2.2.1 (hL.mo (Nat.le_of_ble_eq_true rfl) (Nat.le_of_ble_eq_true rfl)) hb h) q1857 q1859 q92 q116 q1860 hdX12_mend ⟨Nat.le_of_ble_eq_true rfl, Nat.le_of_ble_eq_true rfl⟩ ⟨Nat.zero_le _, Nat.zero_le _⟩ rfl hl.1 rfl (lv_room (Nat.le_of_ble_eq_true rfl)) dX12_isDone_31) (fun r6 st5 H locs h hP hS => ?_)
      obtain ⟨hr6, h⟩ := h
      exact z_ri C hr hlk (bz_n hr6) hP hS ⟨hr6, h⟩ dX12_isDone_34
  · have h := h.2 hc
    refine lv_aload_n C.1 C.2.1 dX12_isDone_7 rfl (lv_at hl 0 rfl) ?_
    refine lv_iload_n C.1 C.2.1 dX12_isDone_8 rfl (lv_at hl 2 rfl) ?_
    refine lv_iload_n C.1 C.2.1 dX12_isDone_9 rfl (lv_at hl 3 rfl) ?_
    refine z_ki hS (z_runV (As := [.int p2, .int p3]) (rest := []) C hP hS (m11 hb hL) (e11 hb) rfl (tX12_send C.2.2.2.2.2.2.1 (hL.mo (Nat.le_of_ble_eq_true rfl) (Nat.le_of_ble_eq_true rfl)) hb h) q1845 q1847 q89 q116 q1848 hdX12_send ⟨Nat.le_of_ble_eq_true rfl, Nat.le_of_ble_eq_true rfl⟩ ⟨Nat.zero_le _, Nat.zero_le _⟩ rfl hl.1 rfl (lv_room (Nat.le_of_ble_eq_true rfl)) dX12_isDone_10) (fun r8 st7 H locs h hP hS => ?_)
    obtain ⟨hr8, h⟩ := h
    exact z_ri C hr hlk (bz_n hr8) hP hS ⟨hr8, h⟩ dX12_isDone_13
def rmX12_run : Room := { frames := 6, cells := 0, slots := 0, locals := 140 }
def wX12_run_L208 (b : Nat) (p1 : Int32) (R15 : Int32 × Int32 × Int32 × St → Prop) (v2 : Int32) (v3 : Int32) (v4 : Int32) (st : St) (Q : Int32 → St → Prop) : Prop :=
  R15 (v2, v3, v4, st)
def wX12_run_L173 (b : Nat) (p1 : Int32) (R15 : Int32 × Int32 × Int32 × St → Prop) (v2 : Int32) (v3 : Int32) (v4 : Int32) (st : St) (Q : Int32 → St → Prop) : Prop :=
  (∀ x18 : Int32, x18 = v4 + 1 → wX12_run_L208 b p1 R15 v2 v3 x18 st Q)
def wX12_run_L151 (b : Nat) (p1 : Int32) (R15 : Int32 × Int32 × Int32 × St → Prop) (v2 : Int32) (v3 : Int32) (v4 : Int32) (v5 : Int32) (v7 : Int32) (st : St) (Q : Int32 → St → Prop) : Prop :=
  (wX12_areSo b v7 st (fun r16 st15 => ((¬ r16 = 0 → wX12_run_L173 b p1 R15 v2 v3 v4 st15 Q) ∧ (r16 = 0 → (vp_in (v5 + 3) 1600 ∧ (∀ x17 : Int32, x17 = (gI st15 65 (v5 + 3 : Int32).toNatClampNeg) → wX12_run_L173 b p1 R15 x17 v3 v4 st15 Q))))))
def wX12_run_L15 (b : Nat) (p1 : Int32)  (R15 : Int32 × Int32 × Int32 × St → Prop) (v2 : Int32) (v3 : Int32) (v4 : Int32) (st : St) (Q : Int32 → St → Prop) : Prop :=
  ((100 ≤ v4 → Q v4 st) ∧ (¬ 100 ≤ v4 → (∀ x2 : Int32, x2 = ((4 : Int32) * v2) → (vp_in (x2 + 0) 1600 ∧ (∀ x3 : Int32, x3 = (gI st 65 (x2 + 0 : Int32).toNatClampNeg) → (vp_in (x2 + 1) 1600 ∧ (∀ x4 : Int32, x4 = (gI st 65 (x2 + 1 : Int32).toNatClampNeg) → (∀ x5 : Int32, x5 = v2 + 1 → ((¬ x3 = 300 → ((¬ x3 = 301 → ((¬ x3 = 210 → ((x3 = 211 → wX12_run_L151 b p1 R15 x5 v3 v4 x2 x4 st Q) ∧ (¬ x3 = 211 → ((¬ x3 = 212 → (vp_in (x2 + 2) 1600 ∧ (wX12_isDone b x3 x4 (gI st 65 (x2 + 2 : Int32).toNatClampNeg) st (fun r7 st6 => ((¬ r7 = 0 → (∀ x8 : Int32, x8 = v4 + 1 → wX12_run_L208 b p1 R15 x5 v3 x8 st6 Q)) ∧ (r7 = 0 → Q v4 st6)))))) ∧ (x3 = 212 → wX12_run_L151 b p1 R15 x5 v3 v4 x2 x4 st Q))))) ∧ (x3 = 210 → (vp_in v3 7 ∧ ∀ st9, st9 = uI st (b + 4) (v3 : Int32).toNatClampNeg x5 → (∀ x10 : Int32, x10 = v3 + 1 → (vp_in x4 7 ∧ (∀ x11 : Int32, x11 = (gI st9 64 (x4 : Int32).toNatClampNeg) → (∀ x12 : Int32, x12 = v4 + 1 → wX12_run_L208 b p1 R15 x11 x10 x12 st9 Q)))))))) ∧ (x3 = 301 → ((¬ v3 = 0 → (∀ x13 : Int32, x13 = v3 + (-1) → (vp_in x13 7 ∧ (∀ x14 : Int32, x14 = (gI st (b + 4) (x13 : Int32).toNatClampNeg) → wX12_run_L208 b p1 R15 x14 x13 v4 st Q)))) ∧ (v3 = 0 → Q v4 st))))) ∧ (x3 = 300 → wX12_run_L208 b p1 R15 x4 v3 v4 st Q))))))))))
def wX12_run (b : Nat) (p1 : Int32) (st : St) (Q : Int32 → St → Prop) : Prop :=
  (vp_in p1 7 ∧ (∀ x1 : Int32, x1 = (gI st 64 (p1 : Int32).toNatClampNeg) → (∃ n, lp (fun R s => wX12_run_L15 b p1 R s.1 s.2.1 s.2.2.1 s.2.2.2 Q) n (x1, 0, 0, st))))
theorem hdX12_run : yX12_run.cls = "PlankBridgeModel" ∧ yX12_run.cls ≠ "java/lang/invoke/MethodHandle" ∧ yX12_run.cls ≠ "java/lang/invoke/VarHandle" ∧ (parseMethodDescriptor yX12_run.desc).map (fun d => d.parameters.length) = some 1 := by decide +kernel
set_option maxHeartbeats 4000000 in
set_option maxRecDepth 100000 in
theorem tX12_run_L208 {l : Launch} {p : Program} {e : Env} {s : State} {m : MethodId} {args : Array Value} {below : List Frame} {meth : Method} {c : Code} {E : En0} {L : List Nat} (hL : Cov 54 67 L) (C : Cx E L "PlankBridgeModel" cX12_run 8 p s m args c) (hr : meth.sig.returnType = (some .int)) (hlk : meth.locks = false) {b : Nat} {p1 : Int32} {Q : Int32 → St → Prop} (hb : kd b = 11) {R15 : Int32 × Int32 × Int32 × St → Prop} (hR15 : ∀ (v2 : Int32) (v3 : Int32) (v4 : Int32) (st : St), ∀ (H : Heap) (locs : List Loc) (ls : Array Slot), R15 (v2, v3, v4, st) → lv_has ls 8 [(0, .ref (E.2.1 b)), (2, .int v2), (3, .int v3), (4, .int v4)] → va_P E.1 vwCl (wd E L st) H → va_S (fA E L s.heap.size) s.heap H locs → W p l e rmX12_run s m args below meth c H locs 0 0 (MQ below (zI E L Q (fA E L s.heap.size)) args s rmX12_run.cells rmX12_run.slots (fA E L s.heap.size)) (F0 m 15 ls [])) {v2 : Int32} {v3 : Int32} {v4 : Int32}  {st : St} (H : Heap) (locs : List Loc) (ls : Array Slot) (h : wX12_run_L208 b p1 R15 v2 v3 v4 st Q) (hl : lv_has ls 8 [(0, .ref (E.2.1 b)), (2, .int v2), (3, .int v3), (4, .int v4)]) (hP : va_P E.1 vwCl (wd E L st) H) (hS : va_S (fA E L s.heap.size) s.heap H locs) : W p l e rmX12_run s m args below meth c H locs 0 0 (MQ below (zI E L Q (fA E L s.heap.size)) args s rmX12_run.cells rmX12_run.slots (fA E L s.heap.size)) (F0 m 208 ls []) := by
  unfold wX12_run_L208 at h
  refine lv_goto C.1 C.2.1 (tgt := 15) dX12_run_208 (by decide) ?_
  exact hR15 v2 v3 v4 st _ _ _ h hl hP hS
set_option maxHeartbeats 4000000 in
set_option maxRecDepth 100000 in
theorem tX12_run_L173 {l : Launch} {p : Program} {e : Env} {s : State} {m : MethodId} {args : Array Value} {below : List Frame} {meth : Method} {c : Code} {E : En0} {L : List Nat} (hL : Cov 54 67 L) (C : Cx E L "PlankBridgeModel" cX12_run 8 p s m args c) (hr : meth.sig.returnType = (some .int)) (hlk : meth.locks = false) {b : Nat} {p1 : Int32} {Q : Int32 → St → Prop} (hb : kd b = 11) {R15 : Int32 × Int32 × Int32 × St → Prop} (hR15 : ∀ (v2 : Int32) (v3 : Int32) (v4 : Int32) (st : St), ∀ (H : Heap) (locs : List Loc) (ls : Array Slot), R15 (v2, v3, v4, st) → lv_has ls 8 [(0, .ref (E.2.1 b)), (2, .int v2), (3, .int v3), (4, .int v4)] → va_P E.1 vwCl (wd E L st) H → va_S (fA E L s.heap.size) s.heap H locs → W p l e rmX12_run s m args below meth c H locs 0 0 (MQ below (zI E L Q (fA E L s.heap.size)) args s rmX12_run.cells rmX12_run.slots (fA E L s.heap.size)) (F0 m 15 ls [])) {v2 : Int32} {v3 : Int32} {v4 : Int32}  {st : St} (H : Heap) (locs : List Loc) (ls : Array Slot) (h : wX12_run_L173 b p1 R15 v2 v3 v4 st Q) (hl : lv_has ls 8 [(0, .ref (E.2.1 b)), (2, .int v2), (3, .int v3), (4, .int v4)]) (hP : va_P E.1 vwCl (wd E L st) H) (hS : va_S (fA E L s.heap.size) s.heap H locs) : W p l e rmX12_run s m args below meth c H locs 0 0 (MQ below (zI E L Q (fA E L s.heap.size)) args s rmX12_run.cells rmX12_run.slots (fA E L s.heap.size)) (F0 m 173 ls []) := by
  unfold wX12_run_L173 at h
  obtain ⟨x18, ex18⟩ : ∃ z, z = v4 + 1 := ⟨_, rfl⟩
  have h := h x18 ex18
  refine lv_iinc C.1 C.2.1 dX12_run_173 hl (k := 3) rfl ex18.symm (Nat.le_of_ble_eq_true rfl) rfl (fun ls hl => ?_)
  have hl : lv_has ls 8 [(4, .int x18), (0, .ref (E.2.1 b)), (2, .int v2), (3, .int v3)] := hl
  refine lv_goto C.1 C.2.1 (tgt := 208) dX12_run_176 (by decide) ?_
  exact tX12_run_L208 hL C hr hlk hb hR15 _ _ _ h (lv_sub hl [1, 2, 3, 0] rfl) hP hS
set_option maxHeartbeats 4000000 in
set_option maxRecDepth 100000 in
theorem tX12_run_L151 {l : Launch} {p : Program} {e : Env} {s : State} {m : MethodId} {args : Array Value} {below : List Frame} {meth : Method} {c : Code} {E : En0} {L : List Nat} (hL : Cov 54 67 L) (C : Cx E L "PlankBridgeModel" cX12_run 8 p s m args c) (hr : meth.sig.returnType = (some .int)) (hlk : meth.locks = false) {b : Nat} {p1 : Int32} {Q : Int32 → St → Prop} (hb : kd b = 11) {R15 : Int32 × Int32 × Int32 × St → Prop} (hR15 : ∀ (v2 : Int32) (v3 : Int32) (v4 : Int32) (st : St), ∀ (H : Heap) (locs : List Loc) (ls : Array Slot), R15 (v2, v3, v4, st) → lv_has ls 8 [(0, .ref (E.2.1 b)), (2, .int v2), (3, .int v3), (4, .int v4)] → va_P E.1 vwCl (wd E L st) H → va_S (fA E L s.heap.size) s.heap H locs → W p l e rmX12_run s m args below meth c H locs 0 0 (MQ below (zI E L Q (fA E L s.heap.size)) args s rmX12_run.cells rmX12_run.slots (fA E L s.heap.size)) (F0 m 15 ls [])) {v2 : Int32} {v3 : Int32} {v4 : Int32} {v5 : Int32} {v7 : Int32}  {st : St} (H : Heap) (locs : List Loc) (ls : Array Slot) (h : wX12_run_L151 b p1 R15 v2 v3 v4 v5 v7 st Q) (hl : lv_has ls 8 [(0, .ref (E.2.1 b)), (2, .int v2), (3, .int v3), (4, .int v4), (5, .int v5), (7, .int v7)]) (hP : va_P E.1 vwCl (wd E L st) H) (hS : va_S (fA E L s.heap.size) s.heap H locs) : W p l e rmX12_run s m args below meth c H locs 0 0 (MQ below (zI E L Q (fA E L s.heap.size)) args s rmX12_run.cells rmX12_run.slots (fA E L s.heap.size)) (F0 m 151 ls []) := by
  unfold wX12_run_L151 at h
  refine lv_aload_n C.1 C.2.1 dX12_run_151 rfl (lv_at hl 0 rfl) ?_
  refine lv_iload C.1 C.2.1 dX12_run_152 (lv_at hl 5 rfl) ?_
  refine z_ki hS (z_runV (As := [.int v7]) (rest := []) C hP hS (m11 hb hL) (e11 hb) rfl (tX12_areSo C.2.2.2.2.2.2.1 (hL.mo (Nat.le_of_ble_eq_true rfl) (Nat.le_of_ble_eq_true rfl)) hb h) q1833 q1835 q86 q116 q1836 hdX12_areSo ⟨Nat.le_of_ble_eq_true rfl, Nat.le_of_ble_eq_true rfl⟩ ⟨Nat.zero_le _, Nat.zero_le _⟩ rfl hl.1 rfl (lv_room (Nat.le_of_ble_eq_true rfl)) dX12_run_154) (fun r16 st15 H locs h hP hS => ?_)
  obtain ⟨hr16, h⟩ := h
  refine lv_if_ne C.1 C.2.1 (tgt := 173) dX12_run_157 (by decide) (fun hc => ?_) (fun hc => ?_)
  · have h := h.1 hc
    exact tX12_run_L173 hL C hr hlk hb hR15 _ _ _ h (lv_sub hl [0, 1, 2, 3] rfl) hP hS
  · have h := h.2 hc
    refine lv_aload_n C.1 C.2.1 dX12_run_160 rfl (lv_at hl 0 rfl) ?_
    refine gf11_4 C hP hb (m11 hb hL) q1383 dX12_run_161 ?_
    refine gf9_8 C hP (show kd 60 = 9 from rfl) (hL 60 (Nat.le_of_ble_eq_true rfl) (Nat.le_of_ble_eq_true rfl)) q1340 dX12_run_164 ?_
    refine lv_iload C.1 C.2.1 dX12_run_167 (lv_at hl 4 rfl) ?_
    refine lv_iconst C.1 C.2.1 (v := 3) dX12_run_169 rfl ?_
    refine lv_iadd C.1 C.2.1 dX12_run_170  ?_
    obtain ⟨hi, h⟩ := h
    refine z_iald C hP (show kd 65 = 20 from rfl) (show ln 65 = 1600 from rfl) (hL 65 (Nat.le_of_ble_eq_true rfl) (Nat.le_of_ble_eq_true rfl)) hi dX12_run_171 ?_
    refine lv_topi (fun x17 ex17 => ?_)
    have h := h x17 ex17
    refine lv_istore_n C.1 C.2.1 dX12_run_172 rfl hl (Nat.le_of_ble_eq_true rfl) rfl (fun ls hl => ?_)
    have hl : lv_has ls 8 [(2, .int x17), (0, .ref (E.2.1 b)), (3, .int v3), (4, .int v4), (5, .int v5), (7, .int v7)] := hl
    exact tX12_run_L173 hL C hr hlk hb hR15 _ _ _ h (lv_sub hl [1, 0, 2, 3] rfl) hP hS
set_option maxHeartbeats 4000000 in
set_option maxRecDepth 100000 in
theorem tX12_run_L15 {l : Launch} {p : Program} {e : Env} {s : State} {m : MethodId} {args : Array Value} {below : List Frame} {meth : Method} {c : Code} {E : En0} {L : List Nat} (hL : Cov 54 67 L) (C : Cx E L "PlankBridgeModel" cX12_run 8 p s m args c) (hr : meth.sig.returnType = (some .int)) (hlk : meth.locks = false) {b : Nat} {p1 : Int32} {Q : Int32 → St → Prop} (hb : kd b = 11) : ∀ (n : Nat) (v2 : Int32) (v3 : Int32) (v4 : Int32) (st : St) (H : Heap) (locs : List Loc) (ls : Array Slot), lp (fun R s => wX12_run_L15 b p1 R s.1 s.2.1 s.2.2.1 s.2.2.2 Q) n (v2, v3, v4, st) → lv_has ls 8 [(0, .ref (E.2.1 b)), (2, .int v2), (3, .int v3), (4, .int v4)] → va_P E.1 vwCl (wd E L st) H → va_S (fA E L s.heap.size) s.heap H locs → W p l e rmX12_run s m args below meth c H locs 0 0 (MQ below (zI E L Q (fA E L s.heap.size)) args s rmX12_run.cells rmX12_run.slots (fA E L s.heap.size)) (F0 m 15 ls []) := by
  intro n
  induction n with
  | zero => exact fun _ _ _ _ _ _ _ h _ _ _ => False.elim ‹_›
  | succ n ih =>
    intro v2 v3 v4 st  H locs ls h hl hP hS
    have hR15 := ih
    replace h : wX12_run_L15 b p1 (lp (fun R s => wX12_run_L15 b p1 R s.1 s.2.1 s.2.2.1 s.2.2.2 Q) n) v2 v3 v4 st Q := h
    unfold wX12_run_L15 at h
    refine lv_iload C.1 C.2.1 dX12_run_15 (lv_at hl 3 rfl) ?_
    refine lv_bipush C.1 C.2.1 (v := 100) dX12_run_17 rfl ?_
    refine lv_icmp_ge C.1 C.2.1 (tgt := 211) dX12_run_19 (by decide) (fun hc => ?_) (fun hc => ?_)
    · have h := h.1 hc
      refine lv_iload C.1 C.2.1 dX12_run_211 (lv_at hl 3 rfl) ?_
      exact z_ri C hr hlk rfl hP hS h dX12_run_213
    · have h := h.2 hc
      refine lv_iconst C.1 C.2.1 (v := 4) dX12_run_22 rfl ?_
      refine lv_iload_n C.1 C.2.1 dX12_run_23 rfl (lv_at hl 1 rfl) ?_
      refine lv_imul C.1 C.2.1 dX12_run_24  ?_
      refine lv_topi (fun x2 ex2 => ?_)
      have h := h x2 ex2
      refine lv_istore C.1 C.2.1 dX12_run_25 hl (Nat.le_of_ble_eq_true rfl) rfl (fun ls hl => ?_)
      have hl : lv_has ls 8 [(5, .int x2), (0, .ref (E.2.1 b)), (2, .int v2), (3, .int v3), (4, .int v4)] := hl
      refine lv_aload_n C.1 C.2.1 dX12_run_27 rfl (lv_at hl 1 rfl) ?_
      refine gf11_4 C hP hb (m11 hb hL) q1383 dX12_run_28 ?_
      refine gf9_8 C hP (show kd 60 = 9 from rfl) (hL 60 (Nat.le_of_ble_eq_true rfl) (Nat.le_of_ble_eq_true rfl)) q1340 dX12_run_31 ?_
      refine lv_iload C.1 C.2.1 dX12_run_34 (lv_at hl 0 rfl) ?_
      refine lv_iconst C.1 C.2.1 (v := 0) dX12_run_36 rfl ?_
      refine lv_iadd C.1 C.2.1 dX12_run_37  ?_
      obtain ⟨hi, h⟩ := h
      refine z_iald C hP (show kd 65 = 20 from rfl) (show ln 65 = 1600 from rfl) (hL 65 (Nat.le_of_ble_eq_true rfl) (Nat.le_of_ble_eq_true rfl)) hi dX12_run_38 ?_
      refine lv_topi (fun x3 ex3 => ?_)
      have h := h x3 ex3
      refine lv_istore C.1 C.2.1 dX12_run_39 hl (Nat.le_of_ble_eq_true rfl) rfl (fun ls hl => ?_)
      have hl : lv_has ls 8 [(6, .int x3), (5, .int x2), (0, .ref (E.2.1 b)), (2, .int v2), (3, .int v3), (4, .int v4)] := hl
      refine lv_aload_n C.1 C.2.1 dX12_run_41 rfl (lv_at hl 2 rfl) ?_
      refine gf11_4 C hP hb (m11 hb hL) q1383 dX12_run_42 ?_
      refine gf9_8 C hP (show kd 60 = 9 from rfl) (hL 60 (Nat.le_of_ble_eq_true rfl) (Nat.le_of_ble_eq_true rfl)) q1340 dX12_run_45 ?_
      refine lv_iload C.1 C.2.1 dX12_run_48 (lv_at hl 1 rfl) ?_
      refine lv_iconst C.1 C.2.1 (v := 1) dX12_run_50 rfl ?_
      refine lv_iadd C.1 C.2.1 dX12_run_51  ?_
      obtain ⟨hi, h⟩ := h
      refine z_iald C hP (show kd 65 = 20 from rfl) (show ln 65 = 1600 from rfl) (hL 65 (Nat.le_of_ble_eq_true rfl) (Nat.le_of_ble_eq_true rfl)) hi dX12_run_52 ?_
      refine lv_topi (fun x4 ex4 => ?_)
      have h := h x4 ex4
      refine lv_istore C.1 C.2.1 dX12_run_53 hl (Nat.le_of_ble_eq_true rfl) rfl (fun ls hl => ?_)
      have hl : lv_has ls 8 [(7, .int x4), (6, .int x3), (5, .int x2), (0, .ref (E.2.1 b)), (2, .int v2), (3, .int v3), (4, .int v4)] := hl
      obtain ⟨x5, ex5⟩ : ∃ z, z = v2 + 1 := ⟨_, rfl⟩
      have h := h x5 ex5
      refine lv_iinc C.1 C.2.1 dX12_run_55 hl (k := 4) rfl ex5.symm (Nat.le_of_ble_eq_true rfl) rfl (fun ls hl => ?_)
      have hl : lv_has ls 8 [(2, .int x5), (7, .int x4), (6, .int x3), (5, .int x2), (0, .ref (E.2.1 b)), (3, .int v3), (4, .int v4)] := hl
      refine lv_iload C.1 C.2.1 dX12_run_58 (lv_at hl 2 rfl) ?_
      refine lv_sipush C.1 C.2.1 (v := 300) dX12_run_60 rfl ?_
      refine lv_icmp_ne C.1 C.2.1 (tgt := 72) dX12_run_63 (by decide) (fun hc => ?_) (fun hc => ?_)
      · have h := h.1 hc
        refine lv_iload C.1 C.2.1 dX12_run_72 (lv_at hl 2 rfl) ?_
        refine lv_sipush C.1 C.2.1 (v := 301) dX12_run_74 rfl ?_
        refine lv_icmp_ne C.1 C.2.1 (tgt := 100) dX12_run_77 (by decide) (fun hc => ?_) (fun hc => ?_)
        · have h := h.1 hc
          refine lv_iload C.1 C.2.1 dX12_run_100 (lv_at hl 2 rfl) ?_
          refine lv_sipush C.1 C.2.1 (v := 210) dX12_run_102 rfl ?_
          refine lv_icmp_ne C.1 C.2.1 (tgt := 135) dX12_run_105 (by decide) (fun hc => ?_) (fun hc => ?_)
          · have h := h.1 hc
            refine lv_iload C.1 C.2.1 dX12_run_135 (lv_at hl 2 rfl) ?_
            refine lv_sipush C.1 C.2.1 (v := 211) dX12_run_137 rfl ?_
            refine lv_icmp_eq C.1 C.2.1 (tgt := 151) dX12_run_140 (by decide) (fun hc => ?_) (fun hc => ?_)
            · have h := h.1 hc
              exact tX12_run_L151 hL C hr hlk hb hR15 _ _ _ h (lv_sub hl [4, 0, 5, 6, 3, 1] rfl) hP hS
            · have h := h.2 hc
              refine lv_iload C.1 C.2.1 dX12_run_143 (lv_at hl 2 rfl) ?_
              refine lv_sipush C.1 C.2.1 (v := 212) dX12_run_145 rfl ?_
              refine lv_icmp_ne C.1 C.2.1 (tgt := 179) dX12_run_148 (by decide) (fun hc => ?_) (fun hc => ?_)
              · have h := h.1 hc
                refine lv_aload_n C.1 C.2.1 dX12_run_179 rfl (lv_at hl 4 rfl) ?_
                refine lv_iload C.1 C.2.1 dX12_run_180 (lv_at hl 2 rfl) ?_
                refine lv_iload C.1 C.2.1 dX12_run_182 (lv_at hl 1 rfl) ?_
                refine lv_aload_n C.1 C.2.1 dX12_run_184 rfl (lv_at hl 4 rfl) ?_
                refine gf11_4 C hP hb (m11 hb hL) q1383 dX12_run_185 ?_
                refine gf9_8 C hP (show kd 60 = 9 from rfl) (hL 60 (Nat.le_of_ble_eq_true rfl) (Nat.le_of_ble_eq_true rfl)) q1340 dX12_run_188 ?_
                refine lv_iload C.1 C.2.1 dX12_run_191 (lv_at hl 3 rfl) ?_
                refine lv_iconst C.1 C.2.1 (v := 2) dX12_run_193 rfl ?_
                refine lv_iadd C.1 C.2.1 dX12_run_194  ?_
                obtain ⟨hi, h⟩ := h
                refine z_iald C hP (show kd 65 = 20 from rfl) (show ln 65 = 1600 from rfl) (hL 65 (Nat.le_of_ble_eq_true rfl) (Nat.le_of_ble_eq_true rfl)) hi dX12_run_195 ?_
                refine z_ki hS (z_runV (As := [.int x3, .int x4, .int (gI st 65 (x2 + 2 : Int32).toNatClampNeg)]) (rest := []) C hP hS (m11 hb hL) (e11 hb) rfl (tX12_isDone C.2.2.2.2.2.2.1 (hL.mo (Nat.le_of_ble_eq_true rfl) (Nat.le_of_ble_eq_true rfl)) hb h) q1841 q1843 q88 q116 q1844 hdX12_isDone ⟨Nat.le_of_ble_eq_true rfl, Nat.le_of_ble_eq_true rfl⟩ ⟨Nat.zero_le _, Nat.zero_le _⟩ rfl hl.1 rfl (lv_room (Nat.le_of_ble_eq_true rfl)) dX12_run_196) (fun r7 st6 H locs h hP hS => ?_)
                obtain ⟨hr7, h⟩ := h
                refine lv_if_ne C.1 C.2.1 (tgt := 205) dX12_run_199 (by decide) (fun hc => ?_) (fun hc => ?_)
                · have h := h.1 hc
                  obtain ⟨x8, ex8⟩ : ∃ z, z = v4 + 1 := ⟨_, rfl⟩
                  have h := h x8 ex8
                  refine lv_iinc C.1 C.2.1 dX12_run_205 hl (k := 6) rfl ex8.symm (Nat.le_of_ble_eq_true rfl) rfl (fun ls hl => ?_)
                  have hl : lv_has ls 8 [(4, .int x8), (2, .int x5), (7, .int x4), (6, .int x3), (5, .int x2), (0, .ref (E.2.1 b)), (3, .int v3)] := hl
                  exact tX12_run_L208 hL C hr hlk hb hR15 _ _ _ h (lv_sub hl [5, 1, 6, 0] rfl) hP hS
                · have h := h.2 hc
                  refine lv_iload C.1 C.2.1 dX12_run_202 (lv_at hl 6 rfl) ?_
                  exact z_ri C hr hlk rfl hP hS h dX12_run_204
              · have h := h.2 hc
                exact tX12_run_L151 hL C hr hlk hb hR15 _ _ _ h (lv_sub hl [4, 0, 5, 6, 3, 1] rfl) hP hS
          · have h := h.2 hc
            refine lv_aload_n C.1 C.2.1 dX12_run_108 rfl (lv_at hl 4 rfl) ?_
            refine gf11_7 C hP hb (m11 hb hL) q1386 dX12_run_109 ?_
            refine lv_iload_n C.1 C.2.1 dX12_run_112 rfl (lv_at hl 5 rfl) ?_
            refine lv_iload_n C.1 C.2.1 dX12_run_113 rfl (lv_at hl 0 rfl) ?_
            obtain ⟨hi, h⟩ := h
            refine z_iast C hP hS (k11_4 hb) (l11_4 hb) (m11_4 hb hL) hi dX12_run_114 (fun H locs hP hS => ?_)
            obtain ⟨st9, est9⟩ : ∃ z, z = uI st (b + 4) (v3 : Int32).toNatClampNeg x5 := ⟨_, rfl⟩
            rw [← est9] at hP; have h := h st9 est9
            obtain ⟨x10, ex10⟩ : ∃ z, z = v3 + 1 := ⟨_, rfl⟩
            have h := h x10 ex10
            refine lv_iinc C.1 C.2.1 dX12_run_115 hl (k := 5) rfl ex10.symm (Nat.le_of_ble_eq_true rfl) rfl (fun ls hl => ?_)
            have hl : lv_has ls 8 [(3, .int x10), (2, .int x5), (7, .int x4), (6, .int x3), (5, .int x2), (0, .ref (E.2.1 b)), (4, .int v4)] := hl
            refine lv_aload_n C.1 C.2.1 dX12_run_118 rfl (lv_at hl 5 rfl) ?_
            refine gf11_4 C hP hb (m11 hb hL) q1383 dX12_run_119 ?_
            refine gf9_7 C hP (show kd 60 = 9 from rfl) (hL 60 (Nat.le_of_ble_eq_true rfl) (Nat.le_of_ble_eq_true rfl)) q1337 dX12_run_122 ?_
            refine lv_iload C.1 C.2.1 dX12_run_125 (lv_at hl 2 rfl) ?_
            obtain ⟨hi, h⟩ := h
            refine z_iald C hP (show kd 64 = 20 from rfl) (show ln 64 = 7 from rfl) (hL 64 (Nat.le_of_ble_eq_true rfl) (Nat.le_of_ble_eq_true rfl)) hi dX12_run_127 ?_
            refine lv_topi (fun x11 ex11 => ?_)
            have h := h x11 ex11
            refine lv_istore_n C.1 C.2.1 dX12_run_128 rfl hl (Nat.le_of_ble_eq_true rfl) rfl (fun ls hl => ?_)
            have hl : lv_has ls 8 [(2, .int x11), (3, .int x10), (7, .int x4), (6, .int x3), (5, .int x2), (0, .ref (E.2.1 b)), (4, .int v4)] := hl
            obtain ⟨x12, ex12⟩ : ∃ z, z = v4 + 1 := ⟨_, rfl⟩
            have h := h x12 ex12
            refine lv_iinc C.1 C.2.1 dX12_run_129 hl (k := 6) rfl ex12.symm (Nat.le_of_ble_eq_true rfl) rfl (fun ls hl => ?_)
            have hl : lv_has ls 8 [(4, .int x12), (2, .int x11), (3, .int x10), (7, .int x4), (6, .int x3), (5, .int x2), (0, .ref (E.2.1 b))] := hl
            refine lv_goto C.1 C.2.1 (tgt := 208) dX12_run_132 (by decide) ?_
            exact tX12_run_L208 hL C hr hlk hb hR15 _ _ _ h (lv_sub hl [6, 1, 2, 0] rfl) hP hS
        · have h := h.2 hc
          refine lv_iload_n C.1 C.2.1 dX12_run_80 rfl (lv_at hl 5 rfl) ?_
          refine lv_if_ne C.1 C.2.1 (tgt := 87) dX12_run_81 (by decide) (fun hc => ?_) (fun hc => ?_)
          · have h := h.1 hc
            obtain ⟨x13, ex13⟩ : ∃ z, z = v3 + (-1) := ⟨_, rfl⟩
            have h := h x13 ex13
            refine lv_iinc C.1 C.2.1 dX12_run_87 hl (k := 5) rfl ex13.symm (Nat.le_of_ble_eq_true rfl) rfl (fun ls hl => ?_)
            have hl : lv_has ls 8 [(3, .int x13), (2, .int x5), (7, .int x4), (6, .int x3), (5, .int x2), (0, .ref (E.2.1 b)), (4, .int v4)] := hl
            refine lv_aload_n C.1 C.2.1 dX12_run_90 rfl (lv_at hl 5 rfl) ?_
            refine gf11_7 C hP hb (m11 hb hL) q1386 dX12_run_91 ?_
            refine lv_iload_n C.1 C.2.1 dX12_run_94 rfl (lv_at hl 0 rfl) ?_
            obtain ⟨hi, h⟩ := h
            refine z_iald C hP (k11_4 hb) (l11_4 hb) (m11_4 hb hL) hi dX12_run_95 ?_
            refine lv_topi (fun x14 ex14 => ?_)
            have h := h x14 ex14
            refine lv_istore_n C.1 C.2.1 dX12_run_96 rfl hl (Nat.le_of_ble_eq_true rfl) rfl (fun ls hl => ?_)
            have hl : lv_has ls 8 [(2, .int x14), (3, .int x13), (7, .int x4), (6, .int x3), (5, .int x2), (0, .ref (E.2.1 b)), (4, .int v4)] := hl
            refine lv_goto C.1 C.2.1 (tgt := 208) dX12_run_97 (by decide) ?_
            exact tX12_run_L208 hL C hr hlk hb hR15 _ _ _ h (lv_sub hl [5, 0, 1, 6] rfl) hP hS
          · have h := h.2 hc
            refine lv_iload C.1 C.2.1 dX12_run_84 (lv_at hl 6 rfl) ?_
            exact z_ri C hr hlk rfl hP hS h dX12_run_86
      · have h := h.2 hc
        refine lv_iload C.1 C.2.1 dX12_run_66 (lv_at hl 1 rfl) ?_
        refine lv_istore_n C.1 C.2.1 dX12_run_68 rfl hl (Nat.le_of_ble_eq_true rfl) rfl (fun ls hl => ?_)
        have hl : lv_has ls 8 [(2, .int x4), (7, .int x4), (6, .int x3), (5, .int x2), (0, .ref (E.2.1 b)), (3, .int v3), (4, .int v4)] := hl
        refine lv_goto C.1 C.2.1 (tgt := 208) dX12_run_69 (by decide) ?_
        exact tX12_run_L208 hL C hr hlk hb hR15 _ _ _ h (lv_sub hl [4, 0, 5, 6] rfl) hP hS
set_option maxHeartbeats 4000000 in
set_option maxRecDepth 100000 in
theorem tX12_run {l : Launch} {E : En0} {L : List Nat} (hE : EK E L) (hL : Cov 54 67 L) {b : Nat} {p1 : Int32} {st : St} {Q : Int32 → St → Prop} (hb : kd b = 11) (h : wX12_run b p1 st Q) : Mz l yX12_run cX12_run 8 (some .int) rmX12_run E L [.ref (E.2.1 b), .int p1] st (zI E L Q) := by
  refine Mz.of hE (by decide) (Nat.le_of_ble_eq_true rfl) ?_
  intro p e s m below meth c ls C hr hlk _ hl hP
  replace C : Cx E L "PlankBridgeModel" cX12_run 8 p s m _ c := C
  have hS : va_S (fA E L s.heap.size) s.heap s.heap [] := va_S.rf
  replace hl : lv_has ls 8 [(0, .ref (E.2.1 b)), (1, .int p1)] := hl
  unfold wX12_run at h
  refine lv_aload_n C.1 C.2.1 dX12_run_0 rfl (lv_at hl 0 rfl) ?_
  refine gf11_4 C hP hb (m11 hb hL) q1383 dX12_run_1 ?_
  refine gf9_7 C hP (show kd 60 = 9 from rfl) (hL 60 (Nat.le_of_ble_eq_true rfl) (Nat.le_of_ble_eq_true rfl)) q1337 dX12_run_4 ?_
  refine lv_iload_n C.1 C.2.1 dX12_run_7 rfl (lv_at hl 1 rfl) ?_
  obtain ⟨hi, h⟩ := h
  refine z_iald C hP (show kd 64 = 20 from rfl) (show ln 64 = 7 from rfl) (hL 64 (Nat.le_of_ble_eq_true rfl) (Nat.le_of_ble_eq_true rfl)) hi dX12_run_8 ?_
  refine lv_topi (fun x1 ex1 => ?_)
  have h := h x1 ex1
  refine lv_istore_n C.1 C.2.1 dX12_run_9 rfl hl (Nat.le_of_ble_eq_true rfl) rfl (fun ls hl => ?_)
  have hl : lv_has ls 8 [(2, .int x1), (0, .ref (E.2.1 b)), (1, .int p1)] := hl
  refine lv_iconst C.1 C.2.1 (v := 0) dX12_run_10 rfl ?_
  refine lv_istore_n C.1 C.2.1 dX12_run_11 rfl hl (Nat.le_of_ble_eq_true rfl) rfl (fun ls hl => ?_)
  have hl : lv_has ls 8 [(3, .int 0), (2, .int x1), (0, .ref (E.2.1 b)), (1, .int p1)] := hl
  refine lv_iconst C.1 C.2.1 (v := 0) dX12_run_12 rfl ?_
  refine lv_istore C.1 C.2.1 dX12_run_13 hl (Nat.le_of_ble_eq_true rfl) rfl (fun ls hl => ?_)
  have hl : lv_has ls 8 [(4, .int 0), (3, .int 0), (2, .int x1), (0, .ref (E.2.1 b)), (1, .int p1)] := hl
  obtain ⟨n, h⟩ := h
  exact tX12_run_L15 hL C hr hlk hb n x1 0 0 st _ _ _ h (lv_sub hl [3, 2, 1, 0] rfl) hP hS
def rmX12_betters : Room := { frames := 1, cells := 0, slots := 0, locals := 21 }
def wX12_betters_L103 (b : Nat) (p1 : Int32) (p2 : Int32) (p3 : Int32)  (v5 : Int32) (v6 : Int32) (v7 : Int32) (v8 : Int32) (st : St) (Q : Int32 → St → Prop) : Prop :=
  (vp_in v6 512 ∧ (vp_in v7 512 ∧ (((gI st (b + 5) (v7 : Int32).toNatClampNeg) ≤ ((gI st (b + 5) (v6 : Int32).toNatClampNeg) + v5) → (bz v8 ∧ Q v8 st)) ∧ (¬ (gI st (b + 5) (v7 : Int32).toNatClampNeg) ≤ ((gI st (b + 5) (v6 : Int32).toNatClampNeg) + v5) → (vp_in v6 512 ∧ (vp_in v7 512 ∧ ∀ st6, st6 = uI st (b + 5) (v7 : Int32).toNatClampNeg ((gI st (b + 5) (v6 : Int32).toNatClampNeg) + v5) → Q 1 st6))))))
def wX12_betters (b : Nat) (p1 : Int32) (p2 : Int32) (p3 : Int32) (st : St) (Q : Int32 → St → Prop) : Prop :=
  (∀ x1 : Int32, x1 = (((1 : Int32) <<< (p2 &&& 31)) ||| ((1 : Int32) <<< (p3 &&& 31))) → (((p1 &&& x1) = x1 → (vp_in p2 9 ∧ (vp_in p3 9 ∧ (∀ x2 : Int32, x2 = (if (gI st 62 (p2 : Int32).toNatClampNeg) < (gI st 62 (p3 : Int32).toNatClampNeg) then (gI st 62 (p3 : Int32).toNatClampNeg) else (gI st 62 (p2 : Int32).toNatClampNeg)) → (∀ x3 : Int32, x3 = ((2 : Int32) * p1) → (∀ x4 : Int32, x4 = (((2 : Int32) * (p1 &&& (x1 ^^^ (-1)))) + 1) → (vp_in x4 512 ∧ (vp_in x3 512 ∧ (((gI st (b + 5) (x3 : Int32).toNatClampNeg) ≤ ((gI st (b + 5) (x4 : Int32).toNatClampNeg) + x2) → wX12_betters_L103 b p1 p2 p3 x2 x3 x4 0 st Q) ∧ (¬ (gI st (b + 5) (x3 : Int32).toNatClampNeg) ≤ ((gI st (b + 5) (x4 : Int32).toNatClampNeg) + x2) → (vp_in x4 512 ∧ (vp_in x3 512 ∧ ∀ st5, st5 = uI st (b + 5) (x3 : Int32).toNatClampNeg ((gI st (b + 5) (x4 : Int32).toNatClampNeg) + x2) → wX12_betters_L103 b p1 p2 p3 x2 x3 x4 1 st5 Q)))))))))))) ∧ (¬ (p1 &&& x1) = x1 → Q 0 st)))
theorem hdX12_betters : yX12_betters.cls = "PlankBridgeModel" ∧ yX12_betters.cls ≠ "java/lang/invoke/MethodHandle" ∧ yX12_betters.cls ≠ "java/lang/invoke/VarHandle" ∧ (parseMethodDescriptor yX12_betters.desc).map (fun d => d.parameters.length) = some 3 := by decide +kernel
set_option maxHeartbeats 4000000 in
set_option maxRecDepth 100000 in
theorem tX12_betters_L103 {l : Launch} {p : Program} {e : Env} {s : State} {m : MethodId} {args : Array Value} {below : List Frame} {meth : Method} {c : Code} {E : En0} {L : List Nat} (hL : Cov 54 67 L) (C : Cx E L "PlankBridgeModel" cX12_betters 9 p s m args c) (hr : meth.sig.returnType = (some .boolean)) (hlk : meth.locks = false) {b : Nat} {p1 : Int32} {p2 : Int32} {p3 : Int32} {Q : Int32 → St → Prop} (hb : kd b = 11) {v5 : Int32} {v6 : Int32} {v7 : Int32} {v8 : Int32}  {st : St} (H : Heap) (locs : List Loc) (ls : Array Slot) (h : wX12_betters_L103 b p1 p2 p3 v5 v6 v7 v8 st Q) (hl : lv_has ls 9 [(0, .ref (E.2.1 b)), (5, .int v5), (6, .int v6), (7, .int v7), (8, .int v8)]) (hP : va_P E.1 vwCl (wd E L st) H) (hS : va_S (fA E L s.heap.size) s.heap H locs) : W p l e rmX12_betters s m args below meth c H locs 0 0 (MQ below (zI E L (fun r u => bz r ∧ Q r u) (fA E L s.heap.size)) args s rmX12_betters.cells rmX12_betters.slots (fA E L s.heap.size)) (F0 m 103 ls []) := by
  unfold wX12_betters_L103 at h
  refine lv_aload_n C.1 C.2.1 dX12_betters_103 rfl (lv_at hl 0 rfl) ?_
  refine gf11_8 C hP hb (m11 hb hL) q1387 dX12_betters_104 ?_
  refine lv_iload C.1 C.2.1 dX12_betters_107 (lv_at hl 2 rfl) ?_
  obtain ⟨hi, h⟩ := h
  refine z_iald C hP (k11_5 hb) (l11_5 hb) (m11_5 hb hL) hi dX12_betters_109 ?_
  refine lv_iload C.1 C.2.1 dX12_betters_110 (lv_at hl 1 rfl) ?_
  refine lv_iadd C.1 C.2.1 dX12_betters_112  ?_
  refine lv_aload_n C.1 C.2.1 dX12_betters_113 rfl (lv_at hl 0 rfl) ?_
  refine gf11_8 C hP hb (m11 hb hL) q1387 dX12_betters_114 ?_
  refine lv_iload C.1 C.2.1 dX12_betters_117 (lv_at hl 3 rfl) ?_
  obtain ⟨hi, h⟩ := h
  refine z_iald C hP (k11_5 hb) (l11_5 hb) (m11_5 hb hL) hi dX12_betters_119 ?_
  refine lv_icmp_ge C.1 C.2.1 (tgt := 143) dX12_betters_120 (by decide) (fun hc => ?_) (fun hc => ?_)
  · have h := h.1 hc
    refine lv_iload C.1 C.2.1 dX12_betters_143 (lv_at hl 4 rfl) ?_
    exact z_ri C hr hlk (bz_n h.1) hP hS h dX12_betters_145
  · have h := h.2 hc
    refine lv_aload_n C.1 C.2.1 dX12_betters_123 rfl (lv_at hl 0 rfl) ?_
    refine gf11_8 C hP hb (m11 hb hL) q1387 dX12_betters_124 ?_
    refine lv_iload C.1 C.2.1 dX12_betters_127 (lv_at hl 3 rfl) ?_
    refine lv_aload_n C.1 C.2.1 dX12_betters_129 rfl (lv_at hl 0 rfl) ?_
    refine gf11_8 C hP hb (m11 hb hL) q1387 dX12_betters_130 ?_
    refine lv_iload C.1 C.2.1 dX12_betters_133 (lv_at hl 2 rfl) ?_
    obtain ⟨hi, h⟩ := h
    refine z_iald C hP (k11_5 hb) (l11_5 hb) (m11_5 hb hL) hi dX12_betters_135 ?_
    refine lv_iload C.1 C.2.1 dX12_betters_136 (lv_at hl 1 rfl) ?_
    refine lv_iadd C.1 C.2.1 dX12_betters_138  ?_
    obtain ⟨hi, h⟩ := h
    refine z_iast C hP hS (k11_5 hb) (l11_5 hb) (m11_5 hb hL) hi dX12_betters_139 (fun H locs hP hS => ?_)
    obtain ⟨st6, est6⟩ : ∃ z, z = uI st (b + 5) (v7 : Int32).toNatClampNeg ((gI st (b + 5) (v6 : Int32).toNatClampNeg) + v5) := ⟨_, rfl⟩
    rw [← est6] at hP; have h := h st6 est6
    refine lv_iconst C.1 C.2.1 (v := 1) dX12_betters_140 rfl ?_
    refine lv_istore C.1 C.2.1 dX12_betters_141 hl (Nat.le_of_ble_eq_true rfl) rfl (fun ls hl => ?_)
    have hl : lv_has ls 9 [(8, .int 1), (0, .ref (E.2.1 b)), (5, .int v5), (6, .int v6), (7, .int v7)] := hl
    refine lv_iload C.1 C.2.1 dX12_betters_143 (lv_at hl 0 rfl) ?_
    exact z_ri C hr hlk (bz_n bz1) hP hS ⟨bz1, h⟩ dX12_betters_145
set_option maxHeartbeats 4000000 in
set_option maxRecDepth 100000 in
theorem tX12_betters {l : Launch} {E : En0} {L : List Nat} (hE : EK E L) (hL : Cov 54 67 L) {b : Nat} {p1 : Int32} {p2 : Int32} {p3 : Int32} {st : St} {Q : Int32 → St → Prop} (hb : kd b = 11) (h : wX12_betters b p1 p2 p3 st Q) : Mz l yX12_betters cX12_betters 9 (some .boolean) rmX12_betters E L [.ref (E.2.1 b), .int p1, .int p2, .int p3] st (zI E L (fun r u => bz r ∧ Q r u)) := by
  refine Mz.of hE (by decide) (Nat.le_of_ble_eq_true rfl) ?_
  intro p e s m below meth c ls C hr hlk _ hl hP
  replace C : Cx E L "PlankBridgeModel" cX12_betters 9 p s m _ c := C
  have hS : va_S (fA E L s.heap.size) s.heap s.heap [] := va_S.rf
  replace hl : lv_has ls 9 [(0, .ref (E.2.1 b)), (1, .int p1), (2, .int p2), (3, .int p3)] := hl
  unfold wX12_betters at h
  refine lv_iconst C.1 C.2.1 (v := 1) dX12_betters_0 rfl ?_
  refine lv_iload_n C.1 C.2.1 dX12_betters_1 rfl (lv_at hl 2 rfl) ?_
  refine lv_ishl C.1 C.2.1 dX12_betters_2  ?_
  refine lv_iconst C.1 C.2.1 (v := 1) dX12_betters_3 rfl ?_
  refine lv_iload_n C.1 C.2.1 dX12_betters_4 rfl (lv_at hl 3 rfl) ?_
  refine lv_ishl C.1 C.2.1 dX12_betters_5  ?_
  refine lv_ior C.1 C.2.1 dX12_betters_6  ?_
  refine lv_topi (fun x1 ex1 => ?_)
  have h := h x1 ex1
  refine lv_istore C.1 C.2.1 dX12_betters_7 hl (Nat.le_of_ble_eq_true rfl) rfl (fun ls hl => ?_)
  have hl : lv_has ls 9 [(4, .int x1), (0, .ref (E.2.1 b)), (1, .int p1), (2, .int p2), (3, .int p3)] := hl
  refine lv_iload_n C.1 C.2.1 dX12_betters_9 rfl (lv_at hl 2 rfl) ?_
  refine lv_iload C.1 C.2.1 dX12_betters_10 (lv_at hl 0 rfl) ?_
  refine lv_iand C.1 C.2.1 dX12_betters_12  ?_
  refine lv_iload C.1 C.2.1 dX12_betters_13 (lv_at hl 0 rfl) ?_
  refine lv_icmp_eq C.1 C.2.1 (tgt := 20) dX12_betters_15 (by decide) (fun hc => ?_) (fun hc => ?_)
  · have h := h.1 hc
    refine lv_aload_n C.1 C.2.1 dX12_betters_20 rfl (lv_at hl 1 rfl) ?_
    refine gf11_4 C hP hb (m11 hb hL) q1383 dX12_betters_21 ?_
    refine gf9_5 C hP (show kd 60 = 9 from rfl) (hL 60 (Nat.le_of_ble_eq_true rfl) (Nat.le_of_ble_eq_true rfl)) q1331 dX12_betters_24 ?_
    refine lv_iload_n C.1 C.2.1 dX12_betters_27 rfl (lv_at hl 3 rfl) ?_
    obtain ⟨hi, h⟩ := h
    refine z_iald C hP (show kd 62 = 20 from rfl) (show ln 62 = 9 from rfl) (hL 62 (Nat.le_of_ble_eq_true rfl) (Nat.le_of_ble_eq_true rfl)) hi dX12_betters_28 ?_
    refine lv_aload_n C.1 C.2.1 dX12_betters_29 rfl (lv_at hl 1 rfl) ?_
    refine gf11_4 C hP hb (m11 hb hL) q1383 dX12_betters_30 ?_
    refine gf9_5 C hP (show kd 60 = 9 from rfl) (hL 60 (Nat.le_of_ble_eq_true rfl) (Nat.le_of_ble_eq_true rfl)) q1331 dX12_betters_33 ?_
    refine lv_iload_n C.1 C.2.1 dX12_betters_36 rfl (lv_at hl 4 rfl) ?_
    obtain ⟨hi, h⟩ := h
    refine z_iald C hP (show kd 62 = 20 from rfl) (show ln 62 = 9 from rfl) (hL 62 (Nat.le_of_ble_eq_true rfl) (Nat.le_of_ble_eq_true rfl)) hi dX12_betters_37 ?_
    refine va_mmax (rest := []) C.1 C.2.1 (C.2.2.1.trans hl.1.symm) C.2.2.2.1 (C.T q1716) (C.T q1622) (C.T q129) (C.T q1623) (Nat.le_of_ble_eq_true rfl) (Nat.le_of_ble_eq_true rfl) (Nat.zero_le _) (Nat.zero_le _) dX12_betters_38 ?_
    refine lv_topi (fun x2 ex2 => ?_)
    have h := h x2 ex2
    refine lv_istore C.1 C.2.1 dX12_betters_41 hl (Nat.le_of_ble_eq_true rfl) rfl (fun ls hl => ?_)
    have hl : lv_has ls 9 [(5, .int x2), (4, .int x1), (0, .ref (E.2.1 b)), (1, .int p1), (2, .int p2), (3, .int p3)] := hl
    refine lv_iconst C.1 C.2.1 (v := 2) dX12_betters_43 rfl ?_
    refine lv_iload_n C.1 C.2.1 dX12_betters_44 rfl (lv_at hl 3 rfl) ?_
    refine lv_imul C.1 C.2.1 dX12_betters_45  ?_
    refine lv_topi (fun x3 ex3 => ?_)
    have h := h x3 ex3
    refine lv_istore C.1 C.2.1 dX12_betters_46 hl (Nat.le_of_ble_eq_true rfl) rfl (fun ls hl => ?_)
    have hl : lv_has ls 9 [(6, .int x3), (5, .int x2), (4, .int x1), (0, .ref (E.2.1 b)), (1, .int p1), (2, .int p2), (3, .int p3)] := hl
    refine lv_iconst C.1 C.2.1 (v := 2) dX12_betters_48 rfl ?_
    refine lv_iload_n C.1 C.2.1 dX12_betters_49 rfl (lv_at hl 4 rfl) ?_
    refine lv_iload C.1 C.2.1 dX12_betters_50 (lv_at hl 2 rfl) ?_
    refine lv_iconst C.1 C.2.1 (v := (-1)) dX12_betters_52 rfl ?_
    refine lv_ixor C.1 C.2.1 dX12_betters_53  ?_
    refine lv_iand C.1 C.2.1 dX12_betters_54  ?_
    refine lv_imul C.1 C.2.1 dX12_betters_55  ?_
    refine lv_iconst C.1 C.2.1 (v := 1) dX12_betters_56 rfl ?_
    refine lv_iadd C.1 C.2.1 dX12_betters_57  ?_
    refine lv_topi (fun x4 ex4 => ?_)
    have h := h x4 ex4
    refine lv_istore C.1 C.2.1 dX12_betters_58 hl (Nat.le_of_ble_eq_true rfl) rfl (fun ls hl => ?_)
    have hl : lv_has ls 9 [(7, .int x4), (6, .int x3), (5, .int x2), (4, .int x1), (0, .ref (E.2.1 b)), (1, .int p1), (2, .int p2), (3, .int p3)] := hl
    refine lv_iconst C.1 C.2.1 (v := 0) dX12_betters_60 rfl ?_
    refine lv_istore C.1 C.2.1 dX12_betters_61 hl (Nat.le_of_ble_eq_true rfl) rfl (fun ls hl => ?_)
    have hl : lv_has ls 9 [(8, .int 0), (7, .int x4), (6, .int x3), (5, .int x2), (4, .int x1), (0, .ref (E.2.1 b)), (1, .int p1), (2, .int p2), (3, .int p3)] := hl
    refine lv_aload_n C.1 C.2.1 dX12_betters_63 rfl (lv_at hl 5 rfl) ?_
    refine gf11_8 C hP hb (m11 hb hL) q1387 dX12_betters_64 ?_
    refine lv_iload C.1 C.2.1 dX12_betters_67 (lv_at hl 1 rfl) ?_
    obtain ⟨hi, h⟩ := h
    refine z_iald C hP (k11_5 hb) (l11_5 hb) (m11_5 hb hL) hi dX12_betters_69 ?_
    refine lv_iload C.1 C.2.1 dX12_betters_70 (lv_at hl 3 rfl) ?_
    refine lv_iadd C.1 C.2.1 dX12_betters_72  ?_
    refine lv_aload_n C.1 C.2.1 dX12_betters_73 rfl (lv_at hl 5 rfl) ?_
    refine gf11_8 C hP hb (m11 hb hL) q1387 dX12_betters_74 ?_
    refine lv_iload C.1 C.2.1 dX12_betters_77 (lv_at hl 2 rfl) ?_
    obtain ⟨hi, h⟩ := h
    refine z_iald C hP (k11_5 hb) (l11_5 hb) (m11_5 hb hL) hi dX12_betters_79 ?_
    refine lv_icmp_ge C.1 C.2.1 (tgt := 103) dX12_betters_80 (by decide) (fun hc => ?_) (fun hc => ?_)
    · have h := h.1 hc
      exact tX12_betters_L103 hL C hr hlk hb _ _ _ h (lv_sub hl [5, 3, 2, 1, 0] rfl) hP hS
    · have h := h.2 hc
      refine lv_aload_n C.1 C.2.1 dX12_betters_83 rfl (lv_at hl 5 rfl) ?_
      refine gf11_8 C hP hb (m11 hb hL) q1387 dX12_betters_84 ?_
      refine lv_iload C.1 C.2.1 dX12_betters_87 (lv_at hl 2 rfl) ?_
      refine lv_aload_n C.1 C.2.1 dX12_betters_89 rfl (lv_at hl 5 rfl) ?_
      refine gf11_8 C hP hb (m11 hb hL) q1387 dX12_betters_90 ?_
      refine lv_iload C.1 C.2.1 dX12_betters_93 (lv_at hl 1 rfl) ?_
      obtain ⟨hi, h⟩ := h
      refine z_iald C hP (k11_5 hb) (l11_5 hb) (m11_5 hb hL) hi dX12_betters_95 ?_
      refine lv_iload C.1 C.2.1 dX12_betters_96 (lv_at hl 3 rfl) ?_
      refine lv_iadd C.1 C.2.1 dX12_betters_98  ?_
      obtain ⟨hi, h⟩ := h
      refine z_iast C hP hS (k11_5 hb) (l11_5 hb) (m11_5 hb hL) hi dX12_betters_99 (fun H locs hP hS => ?_)
      obtain ⟨st5, est5⟩ : ∃ z, z = uI st (b + 5) (x3 : Int32).toNatClampNeg ((gI st (b + 5) (x4 : Int32).toNatClampNeg) + x2) := ⟨_, rfl⟩
      rw [← est5] at hP; have h := h st5 est5
      refine lv_iconst C.1 C.2.1 (v := 1) dX12_betters_100 rfl ?_
      refine lv_istore C.1 C.2.1 dX12_betters_101 hl (Nat.le_of_ble_eq_true rfl) rfl (fun ls hl => ?_)
      have hl : lv_has ls 9 [(8, .int 1), (7, .int x4), (6, .int x3), (5, .int x2), (4, .int x1), (0, .ref (E.2.1 b)), (1, .int p1), (2, .int p2), (3, .int p3)] := hl
      exact tX12_betters_L103 hL C hr hlk hb _ _ _ h (lv_sub hl [5, 3, 2, 1, 0] rfl) hP hS
  · have h := h.2 hc
    refine lv_iconst C.1 C.2.1 (v := 0) dX12_betters_18 rfl ?_
    exact z_ri C hr hlk (bz_n bz0) hP hS ⟨bz0, h⟩ dX12_betters_19
def rmX12_reckon : Room := { frames := 2, cells := 0, slots := 0, locals := 49 }
def wX12_reckon_L74 (b : Nat) (R42 : Int32 × Int32 × St → Prop) (R50 : Int32 × Int32 × Int32 × St → Prop) (R58 : Int32 × Int32 × Int32 × Int32 × St → Prop) (R74 : Int32 × Int32 × Int32 × Int32 × Int32 × St → Prop) (v1 : Int32) (v2 : Int32) (v3 : Int32) (v4 : Int32) (v5 : Int32) (st : St) (Q : St → Prop) : Prop :=
  (((gI st 60 0) ≤ v5 → (∀ x6 : Int32, x6 = v4 + 1 → R58 (v1, v2, v3, x6, st))) ∧ (¬ (gI st 60 0) ≤ v5 → (wX12_betters b v3 v4 v5 st (fun r8 st7 => (∀ x9 : Int32, x9 = (v2 ||| r8) → (∀ x10 : Int32, x10 = v5 + 1 → R74 (v1, x9, v3, v4, x10, st7)))))))
def wX12_reckon_L58 (b : Nat) (R42 : Int32 × Int32 × St → Prop) (R50 : Int32 × Int32 × Int32 × St → Prop) (R58 : Int32 × Int32 × Int32 × Int32 × St → Prop) (v1 : Int32) (v2 : Int32) (v3 : Int32) (v4 : Int32) (st : St) (Q : St → Prop) : Prop :=
  (((gI st 60 0) ≤ v4 → (∀ x5 : Int32, x5 = v3 + 1 → R50 (v1, v2, x5, st))) ∧ (¬ (gI st 60 0) ≤ v4 → (∃ n, lp (fun R s => wX12_reckon_L74 b R42 R50 R58 R s.1 s.2.1 s.2.2.1 s.2.2.2.1 s.2.2.2.2.1 s.2.2.2.2.2 Q) n (v1, v2, v3, v4, v4, st))))
def wX12_reckon_L50 (b : Nat) (R42 : Int32 × Int32 × St → Prop) (R50 : Int32 × Int32 × Int32 × St → Prop) (v1 : Int32) (v2 : Int32) (v3 : Int32) (st : St) (Q : St → Prop) : Prop :=
  ((v1 ≤ v3 → R42 (v1, v2, st)) ∧ (¬ v1 ≤ v3 → (∃ n, lp (fun R s => wX12_reckon_L58 b R42 R50 R s.1 s.2.1 s.2.2.1 s.2.2.2.1 s.2.2.2.2 Q) n (v1, v2, v3, 0, st))))
def wX12_reckon_L42 (b : Nat)  (R42 : Int32 × Int32 × St → Prop) (v1 : Int32) (v2 : Int32) (st : St) (Q : St → Prop) : Prop :=
  ((v2 = 0 → Q st) ∧ (¬ v2 = 0 → (∃ n, lp (fun R s => wX12_reckon_L50 b R42 R s.1 s.2.1 s.2.2.1 s.2.2.2 Q) n (v1, 0, 0, st))))
def wX12_reckon_L12 (b : Nat)  (R12 : Int32 × Int32 × St → Prop) (v1 : Int32) (v2 : Int32) (st : St) (Q : St → Prop) : Prop :=
  ((((2 : Int32) * v1) ≤ v2 → (vp_in 1 512 ∧ ∀ st2, st2 = uI st (b + 5) (1 : Int32).toNatClampNeg 0 → (∃ n, lp (fun R s => wX12_reckon_L42 b R s.1 s.2.1 s.2.2 Q) n (v1, 1, st2)))) ∧ (¬ ((2 : Int32) * v1) ≤ v2 → (vp_in v2 512 ∧ ∀ st3, st3 = uI st (b + 5) (v2 : Int32).toNatClampNeg 1000000 → (∀ x4 : Int32, x4 = v2 + 1 → R12 (v1, x4, st3)))))
def wX12_reckon (b : Nat) (st : St) (Q : St → Prop) : Prop :=
  (∀ x1 : Int32, x1 = ((1 : Int32) <<< ((gI st 60 0) &&& 31)) → (∃ n, lp (fun R s => wX12_reckon_L12 b R s.1 s.2.1 s.2.2 Q) n (x1, 0, st)))
theorem hdX12_reckon : yX12_reckon.cls = "PlankBridgeModel" ∧ yX12_reckon.cls ≠ "java/lang/invoke/MethodHandle" ∧ yX12_reckon.cls ≠ "java/lang/invoke/VarHandle" ∧ (parseMethodDescriptor yX12_reckon.desc).map (fun d => d.parameters.length) = some 0 := by decide +kernel
set_option maxHeartbeats 4000000 in
set_option maxRecDepth 100000 in
theorem tX12_reckon_L74 {l : Launch} {p : Program} {e : Env} {s : State} {m : MethodId} {args : Array Value} {below : List Frame} {meth : Method} {c : Code} {E : En0} {L : List Nat} (hL : Cov 54 67 L) (C : Cx E L "PlankBridgeModel" cX12_reckon 6 p s m args c) (hr : meth.sig.returnType = none) (hlk : meth.locks = false) {b : Nat} {Q : St → Prop} (hb : kd b = 11) {R42 : Int32 × Int32 × St → Prop} (hR42 : ∀ (v1 : Int32) (v2 : Int32) (st : St), ∀ (H : Heap) (locs : List Loc) (ls : Array Slot), R42 (v1, v2, st) → lv_has ls 6 [(0, .ref (E.2.1 b)), (1, .int v1), (2, .int v2)] → va_P E.1 vwCl (wd E L st) H → va_S (fA E L s.heap.size) s.heap H locs → W p l e rmX12_reckon s m args below meth c H locs 0 0 (MQ below (zV E L Q (fA E L s.heap.size)) args s rmX12_reckon.cells rmX12_reckon.slots (fA E L s.heap.size)) (F0 m 42 ls [])) {R50 : Int32 × Int32 × Int32 × St → Prop} (hR50 : ∀ (v1 : Int32) (v2 : Int32) (v3 : Int32) (st : St), ∀ (H : Heap) (locs : List Loc) (ls : Array Slot), R50 (v1, v2, v3, st) → lv_has ls 6 [(0, .ref (E.2.1 b)), (1, .int v1), (2, .int v2), (3, .int v3)] → va_P E.1 vwCl (wd E L st) H → va_S (fA E L s.heap.size) s.heap H locs → W p l e rmX12_reckon s m args below meth c H locs 0 0 (MQ below (zV E L Q (fA E L s.heap.size)) args s rmX12_reckon.cells rmX12_reckon.slots (fA E L s.heap.size)) (F0 m 50 ls [])) {R58 : Int32 × Int32 × Int32 × Int32 × St → Prop} (hR58 : ∀ (v1 : Int32) (v2 : Int32) (v3 : Int32) (v4 : Int32) (st : St), ∀ (H : Heap) (locs : List Loc) (ls : Array Slot), R58 (v1, v2, v3, v4, st) → lv_has ls 6 [(0, .ref (E.2.1 b)), (1, .int v1), (2, .int v2), (3, .int v3), (4, .int v4)] → va_P E.1 vwCl (wd E L st) H → va_S (fA E L s.heap.size) s.heap H locs → W p l e rmX12_reckon s m args below meth c H locs 0 0 (MQ below (zV E L Q (fA E L s.heap.size)) args s rmX12_reckon.cells rmX12_reckon.slots (fA E L s.heap.size)) (F0 m 58 ls [])) : ∀ (n : Nat) (v1 : Int32) (v2 : Int32) (v3 : Int32) (v4 : Int32) (v5 : Int32) (st : St) (H : Heap) (locs : List Loc) (ls : Array Slot), lp (fun R s => wX12_reckon_L74 b R42 R50 R58 R s.1 s.2.1 s.2.2.1 s.2.2.2.1 s.2.2.2.2.1 s.2.2.2.2.2 Q) n (v1, v2, v3, v4, v5, st) → lv_has ls 6 [(0, .ref (E.2.1 b)), (1, .int v1), (2, .int v2), (3, .int v3), (4, .int v4), (5, .int v5)] → va_P E.1 vwCl (wd E L st) H → va_S (fA E L s.heap.size) s.heap H locs → W p l e rmX12_reckon s m args below meth c H locs 0 0 (MQ below (zV E L Q (fA E L s.heap.size)) args s rmX12_reckon.cells rmX12_reckon.slots (fA E L s.heap.size)) (F0 m 74 ls []) := by
  intro n
  induction n with
  | zero => exact fun _ _ _ _ _ _ _ _ _ h _ _ _ => False.elim ‹_›
  | succ n ih =>
    intro v1 v2 v3 v4 v5 st  H locs ls h hl hP hS
    have hR74 := ih
    replace h : wX12_reckon_L74 b R42 R50 R58 (lp (fun R s => wX12_reckon_L74 b R42 R50 R58 R s.1 s.2.1 s.2.2.1 s.2.2.2.1 s.2.2.2.2.1 s.2.2.2.2.2 Q) n) v1 v2 v3 v4 v5 st Q := h
    unfold wX12_reckon_L74 at h
    refine lv_iload C.1 C.2.1 dX12_reckon_74 (lv_at hl 5 rfl) ?_
    refine lv_aload_n C.1 C.2.1 dX12_reckon_76 rfl (lv_at hl 0 rfl) ?_
    refine gf11_4 C hP hb (m11 hb hL) q1383 dX12_reckon_77 ?_
    refine gf9_0 C hP (show kd 60 = 9 from rfl) (hL 60 (Nat.le_of_ble_eq_true rfl) (Nat.le_of_ble_eq_true rfl)) q1320 dX12_reckon_80 ?_
    refine lv_icmp_ge C.1 C.2.1 (tgt := 104) dX12_reckon_83 (by decide) (fun hc => ?_) (fun hc => ?_)
    · have h := h.1 hc
      obtain ⟨x6, ex6⟩ : ∃ z, z = v4 + 1 := ⟨_, rfl⟩
      have h := h x6 ex6
      refine lv_iinc C.1 C.2.1 dX12_reckon_104 hl (k := 4) rfl ex6.symm (Nat.le_of_ble_eq_true rfl) rfl (fun ls hl => ?_)
      have hl : lv_has ls 6 [(4, .int x6), (0, .ref (E.2.1 b)), (1, .int v1), (2, .int v2), (3, .int v3), (5, .int v5)] := hl
      refine lv_goto C.1 C.2.1 (tgt := 58) dX12_reckon_107 (by decide) ?_
      exact hR58 v1 v2 v3 x6 st _ _ _ h (lv_sub hl [1, 2, 3, 4, 0] rfl) hP hS
    · have h := h.2 hc
      refine lv_iload_n C.1 C.2.1 dX12_reckon_86 rfl (lv_at hl 2 rfl) ?_
      refine lv_aload_n C.1 C.2.1 dX12_reckon_87 rfl (lv_at hl 0 rfl) ?_
      refine lv_iload_n C.1 C.2.1 dX12_reckon_88 rfl (lv_at hl 3 rfl) ?_
      refine lv_iload C.1 C.2.1 dX12_reckon_89 (lv_at hl 4 rfl) ?_
      refine lv_iload C.1 C.2.1 dX12_reckon_91 (lv_at hl 5 rfl) ?_
      refine z_ki hS (z_runV (As := [.int v3, .int v4, .int v5]) (rest := [.int v2]) C hP hS (m11 hb hL) (e11 hb) rfl (tX12_betters C.2.2.2.2.2.2.1 (hL.mo (Nat.le_of_ble_eq_true rfl) (Nat.le_of_ble_eq_true rfl)) hb h) q1917 q1919 q99 q116 q1920 hdX12_betters ⟨Nat.le_of_ble_eq_true rfl, Nat.le_of_ble_eq_true rfl⟩ ⟨Nat.zero_le _, Nat.zero_le _⟩ rfl hl.1 rfl (lv_room (Nat.le_of_ble_eq_true rfl)) dX12_reckon_93) (fun r8 st7 H locs h hP hS => ?_)
      obtain ⟨hr8, h⟩ := h
      refine lv_ior C.1 C.2.1 dX12_reckon_96  ?_
      refine lv_topi (fun x9 ex9 => ?_)
      have h := h x9 ex9
      refine lv_istore_n C.1 C.2.1 dX12_reckon_97 rfl hl (Nat.le_of_ble_eq_true rfl) rfl (fun ls hl => ?_)
      have hl : lv_has ls 6 [(2, .int x9), (0, .ref (E.2.1 b)), (1, .int v1), (3, .int v3), (4, .int v4), (5, .int v5)] := hl
      obtain ⟨x10, ex10⟩ : ∃ z, z = v5 + 1 := ⟨_, rfl⟩
      have h := h x10 ex10
      refine lv_iinc C.1 C.2.1 dX12_reckon_98 hl (k := 5) rfl ex10.symm (Nat.le_of_ble_eq_true rfl) rfl (fun ls hl => ?_)
      have hl : lv_has ls 6 [(5, .int x10), (2, .int x9), (0, .ref (E.2.1 b)), (1, .int v1), (3, .int v3), (4, .int v4)] := hl
      refine lv_goto C.1 C.2.1 (tgt := 74) dX12_reckon_101 (by decide) ?_
      exact hR74 v1 x9 v3 v4 x10 st7 _ _ _ h (lv_sub hl [2, 3, 1, 4, 5, 0] rfl) hP hS
set_option maxHeartbeats 4000000 in
set_option maxRecDepth 100000 in
theorem tX12_reckon_L58 {l : Launch} {p : Program} {e : Env} {s : State} {m : MethodId} {args : Array Value} {below : List Frame} {meth : Method} {c : Code} {E : En0} {L : List Nat} (hL : Cov 54 67 L) (C : Cx E L "PlankBridgeModel" cX12_reckon 6 p s m args c) (hr : meth.sig.returnType = none) (hlk : meth.locks = false) {b : Nat} {Q : St → Prop} (hb : kd b = 11) {R42 : Int32 × Int32 × St → Prop} (hR42 : ∀ (v1 : Int32) (v2 : Int32) (st : St), ∀ (H : Heap) (locs : List Loc) (ls : Array Slot), R42 (v1, v2, st) → lv_has ls 6 [(0, .ref (E.2.1 b)), (1, .int v1), (2, .int v2)] → va_P E.1 vwCl (wd E L st) H → va_S (fA E L s.heap.size) s.heap H locs → W p l e rmX12_reckon s m args below meth c H locs 0 0 (MQ below (zV E L Q (fA E L s.heap.size)) args s rmX12_reckon.cells rmX12_reckon.slots (fA E L s.heap.size)) (F0 m 42 ls [])) {R50 : Int32 × Int32 × Int32 × St → Prop} (hR50 : ∀ (v1 : Int32) (v2 : Int32) (v3 : Int32) (st : St), ∀ (H : Heap) (locs : List Loc) (ls : Array Slot), R50 (v1, v2, v3, st) → lv_has ls 6 [(0, .ref (E.2.1 b)), (1, .int v1), (2, .int v2), (3, .int v3)] → va_P E.1 vwCl (wd E L st) H → va_S (fA E L s.heap.size) s.heap H locs → W p l e rmX12_reckon s m args below meth c H locs 0 0 (MQ below (zV E L Q (fA E L s.heap.size)) args s rmX12_reckon.cells rmX12_reckon.slots (fA E L s.heap.size)) (F0 m 50 ls [])) : ∀ (n : Nat) (v1 : Int32) (v2 : Int32) (v3 : Int32) (v4 : Int32) (st : St) (H : Heap) (locs : List Loc) (ls : Array Slot), lp (fun R s => wX12_reckon_L58 b R42 R50 R s.1 s.2.1 s.2.2.1 s.2.2.2.1 s.2.2.2.2 Q) n (v1, v2, v3, v4, st) → lv_has ls 6 [(0, .ref (E.2.1 b)), (1, .int v1), (2, .int v2), (3, .int v3), (4, .int v4)] → va_P E.1 vwCl (wd E L st) H → va_S (fA E L s.heap.size) s.heap H locs → W p l e rmX12_reckon s m args below meth c H locs 0 0 (MQ below (zV E L Q (fA E L s.heap.size)) args s rmX12_reckon.cells rmX12_reckon.slots (fA E L s.heap.size)) (F0 m 58 ls []) := by
  intro n
  induction n with
  | zero => exact fun _ _ _ _ _ _ _ _ h _ _ _ => False.elim ‹_›
  | succ n ih =>
    intro v1 v2 v3 v4 st  H locs ls h hl hP hS
    have hR58 := ih
    replace h : wX12_reckon_L58 b R42 R50 (lp (fun R s => wX12_reckon_L58 b R42 R50 R s.1 s.2.1 s.2.2.1 s.2.2.2.1 s.2.2.2.2 Q) n) v1 v2 v3 v4 st Q := h
    unfold wX12_reckon_L58 at h
    refine lv_iload C.1 C.2.1 dX12_reckon_58 (lv_at hl 4 rfl) ?_
    refine lv_aload_n C.1 C.2.1 dX12_reckon_60 rfl (lv_at hl 0 rfl) ?_
    refine gf11_4 C hP hb (m11 hb hL) q1383 dX12_reckon_61 ?_
    refine gf9_0 C hP (show kd 60 = 9 from rfl) (hL 60 (Nat.le_of_ble_eq_true rfl) (Nat.le_of_ble_eq_true rfl)) q1320 dX12_reckon_64 ?_
    refine lv_icmp_ge C.1 C.2.1 (tgt := 110) dX12_reckon_67 (by decide) (fun hc => ?_) (fun hc => ?_)
    · have h := h.1 hc
      obtain ⟨x5, ex5⟩ : ∃ z, z = v3 + 1 := ⟨_, rfl⟩
      have h := h x5 ex5
      refine lv_iinc C.1 C.2.1 dX12_reckon_110 hl (k := 3) rfl ex5.symm (Nat.le_of_ble_eq_true rfl) rfl (fun ls hl => ?_)
      have hl : lv_has ls 6 [(3, .int x5), (0, .ref (E.2.1 b)), (1, .int v1), (2, .int v2), (4, .int v4)] := hl
      refine lv_goto C.1 C.2.1 (tgt := 50) dX12_reckon_113 (by decide) ?_
      exact hR50 v1 v2 x5 st _ _ _ h (lv_sub hl [1, 2, 3, 0] rfl) hP hS
    · have h := h.2 hc
      refine lv_iload C.1 C.2.1 dX12_reckon_70 (lv_at hl 4 rfl) ?_
      refine lv_istore C.1 C.2.1 dX12_reckon_72 hl (Nat.le_of_ble_eq_true rfl) rfl (fun ls hl => ?_)
      have hl : lv_has ls 6 [(5, .int v4), (0, .ref (E.2.1 b)), (1, .int v1), (2, .int v2), (3, .int v3), (4, .int v4)] := hl
      obtain ⟨n, h⟩ := h
      exact tX12_reckon_L74 hL C hr hlk hb hR42 hR50 hR58 n v1 v2 v3 v4 v4 st _ _ _ h (lv_sub hl [1, 2, 3, 4, 5, 0] rfl) hP hS
set_option maxHeartbeats 4000000 in
set_option maxRecDepth 100000 in
theorem tX12_reckon_L50 {l : Launch} {p : Program} {e : Env} {s : State} {m : MethodId} {args : Array Value} {below : List Frame} {meth : Method} {c : Code} {E : En0} {L : List Nat} (hL : Cov 54 67 L) (C : Cx E L "PlankBridgeModel" cX12_reckon 6 p s m args c) (hr : meth.sig.returnType = none) (hlk : meth.locks = false) {b : Nat} {Q : St → Prop} (hb : kd b = 11) {R42 : Int32 × Int32 × St → Prop} (hR42 : ∀ (v1 : Int32) (v2 : Int32) (st : St), ∀ (H : Heap) (locs : List Loc) (ls : Array Slot), R42 (v1, v2, st) → lv_has ls 6 [(0, .ref (E.2.1 b)), (1, .int v1), (2, .int v2)] → va_P E.1 vwCl (wd E L st) H → va_S (fA E L s.heap.size) s.heap H locs → W p l e rmX12_reckon s m args below meth c H locs 0 0 (MQ below (zV E L Q (fA E L s.heap.size)) args s rmX12_reckon.cells rmX12_reckon.slots (fA E L s.heap.size)) (F0 m 42 ls [])) : ∀ (n : Nat) (v1 : Int32) (v2 : Int32) (v3 : Int32) (st : St) (H : Heap) (locs : List Loc) (ls : Array Slot), lp (fun R s => wX12_reckon_L50 b R42 R s.1 s.2.1 s.2.2.1 s.2.2.2 Q) n (v1, v2, v3, st) → lv_has ls 6 [(0, .ref (E.2.1 b)), (1, .int v1), (2, .int v2), (3, .int v3)] → va_P E.1 vwCl (wd E L st) H → va_S (fA E L s.heap.size) s.heap H locs → W p l e rmX12_reckon s m args below meth c H locs 0 0 (MQ below (zV E L Q (fA E L s.heap.size)) args s rmX12_reckon.cells rmX12_reckon.slots (fA E L s.heap.size)) (F0 m 50 ls []) := by
  intro n
  induction n with
  | zero => exact fun _ _ _ _ _ _ _ h _ _ _ => False.elim ‹_›
  | succ n ih =>
    intro v1 v2 v3 st  H locs ls h hl hP hS
    have hR50 := ih
    replace h : wX12_reckon_L50 b R42 (lp (fun R s => wX12_reckon_L50 b R42 R s.1 s.2.1 s.2.2.1 s.2.2.2 Q) n) v1 v2 v3 st Q := h
    unfold wX12_reckon_L50 at h
    refine lv_iload_n C.1 C.2.1 dX12_reckon_50 rfl (lv_at hl 3 rfl) ?_
    refine lv_iload_n C.1 C.2.1 dX12_reckon_51 rfl (lv_at hl 1 rfl) ?_
    refine lv_icmp_ge C.1 C.2.1 (tgt := 116) dX12_reckon_52 (by decide) (fun hc => ?_) (fun hc => ?_)
    · have h := h.1 hc
      refine lv_goto C.1 C.2.1 (tgt := 42) dX12_reckon_116 (by decide) ?_
      exact hR42 v1 v2 st _ _ _ h (lv_sub hl [0, 1, 2] rfl) hP hS
    · have h := h.2 hc
      refine lv_iconst C.1 C.2.1 (v := 0) dX12_reckon_55 rfl ?_
      refine lv_istore C.1 C.2.1 dX12_reckon_56 hl (Nat.le_of_ble_eq_true rfl) rfl (fun ls hl => ?_)
      have hl : lv_has ls 6 [(4, .int 0), (0, .ref (E.2.1 b)), (1, .int v1), (2, .int v2), (3, .int v3)] := hl
      obtain ⟨n, h⟩ := h
      exact tX12_reckon_L58 hL C hr hlk hb hR42 hR50 n v1 v2 v3 0 st _ _ _ h (lv_sub hl [1, 2, 3, 4, 0] rfl) hP hS
set_option maxHeartbeats 4000000 in
set_option maxRecDepth 100000 in
theorem tX12_reckon_L42 {l : Launch} {p : Program} {e : Env} {s : State} {m : MethodId} {args : Array Value} {below : List Frame} {meth : Method} {c : Code} {E : En0} {L : List Nat} (hL : Cov 54 67 L) (C : Cx E L "PlankBridgeModel" cX12_reckon 6 p s m args c) (hr : meth.sig.returnType = none) (hlk : meth.locks = false) {b : Nat} {Q : St → Prop} (hb : kd b = 11) : ∀ (n : Nat) (v1 : Int32) (v2 : Int32) (st : St) (H : Heap) (locs : List Loc) (ls : Array Slot), lp (fun R s => wX12_reckon_L42 b R s.1 s.2.1 s.2.2 Q) n (v1, v2, st) → lv_has ls 6 [(0, .ref (E.2.1 b)), (1, .int v1), (2, .int v2)] → va_P E.1 vwCl (wd E L st) H → va_S (fA E L s.heap.size) s.heap H locs → W p l e rmX12_reckon s m args below meth c H locs 0 0 (MQ below (zV E L Q (fA E L s.heap.size)) args s rmX12_reckon.cells rmX12_reckon.slots (fA E L s.heap.size)) (F0 m 42 ls []) := by
  intro n
  induction n with
  | zero => exact fun _ _ _ _ _ _ h _ _ _ => False.elim ‹_›
  | succ n ih =>
    intro v1 v2 st  H locs ls h hl hP hS
    have hR42 := ih
    replace h : wX12_reckon_L42 b (lp (fun R s => wX12_reckon_L42 b R s.1 s.2.1 s.2.2 Q) n) v1 v2 st Q := h
    unfold wX12_reckon_L42 at h
    refine lv_iload_n C.1 C.2.1 dX12_reckon_42 rfl (lv_at hl 2 rfl) ?_
    refine lv_if_eq C.1 C.2.1 (tgt := 119) dX12_reckon_43 (by decide) (fun hc => ?_) (fun hc => ?_)
    · have h := h.1 hc
      exact z_rv C hr hlk hP hS h dX12_reckon_119
    · have h := h.2 hc
      refine lv_iconst C.1 C.2.1 (v := 0) dX12_reckon_46 rfl ?_
      refine lv_istore_n C.1 C.2.1 dX12_reckon_47 rfl hl (Nat.le_of_ble_eq_true rfl) rfl (fun ls hl => ?_)
      have hl : lv_has ls 6 [(2, .int 0), (0, .ref (E.2.1 b)), (1, .int v1)] := hl
      refine lv_iconst C.1 C.2.1 (v := 0) dX12_reckon_48 rfl ?_
      refine lv_istore_n C.1 C.2.1 dX12_reckon_49 rfl hl (Nat.le_of_ble_eq_true rfl) rfl (fun ls hl => ?_)
      have hl : lv_has ls 6 [(3, .int 0), (2, .int 0), (0, .ref (E.2.1 b)), (1, .int v1)] := hl
      obtain ⟨n, h⟩ := h
      exact tX12_reckon_L50 hL C hr hlk hb hR42 n v1 0 0 st _ _ _ h (lv_sub hl [2, 3, 1, 0] rfl) hP hS
set_option maxHeartbeats 4000000 in
set_option maxRecDepth 100000 in
theorem tX12_reckon_L12 {l : Launch} {p : Program} {e : Env} {s : State} {m : MethodId} {args : Array Value} {below : List Frame} {meth : Method} {c : Code} {E : En0} {L : List Nat} (hL : Cov 54 67 L) (C : Cx E L "PlankBridgeModel" cX12_reckon 6 p s m args c) (hr : meth.sig.returnType = none) (hlk : meth.locks = false) {b : Nat} {Q : St → Prop} (hb : kd b = 11) : ∀ (n : Nat) (v1 : Int32) (v2 : Int32) (st : St) (H : Heap) (locs : List Loc) (ls : Array Slot), lp (fun R s => wX12_reckon_L12 b R s.1 s.2.1 s.2.2 Q) n (v1, v2, st) → lv_has ls 6 [(0, .ref (E.2.1 b)), (1, .int v1), (2, .int v2)] → va_P E.1 vwCl (wd E L st) H → va_S (fA E L s.heap.size) s.heap H locs → W p l e rmX12_reckon s m args below meth c H locs 0 0 (MQ below (zV E L Q (fA E L s.heap.size)) args s rmX12_reckon.cells rmX12_reckon.slots (fA E L s.heap.size)) (F0 m 12 ls []) := by
  intro n
  induction n with
  | zero => exact fun _ _ _ _ _ _ h _ _ _ => False.elim ‹_›
  | succ n ih =>
    intro v1 v2 st  H locs ls h hl hP hS
    have hR12 := ih
    replace h : wX12_reckon_L12 b (lp (fun R s => wX12_reckon_L12 b R s.1 s.2.1 s.2.2 Q) n) v1 v2 st Q := h
    unfold wX12_reckon_L12 at h
    refine lv_iload_n C.1 C.2.1 dX12_reckon_12 rfl (lv_at hl 2 rfl) ?_
    refine lv_iconst C.1 C.2.1 (v := 2) dX12_reckon_13 rfl ?_
    refine lv_iload_n C.1 C.2.1 dX12_reckon_14 rfl (lv_at hl 1 rfl) ?_
    refine lv_imul C.1 C.2.1 dX12_reckon_15  ?_
    refine lv_icmp_ge C.1 C.2.1 (tgt := 33) dX12_reckon_16 (by decide) (fun hc => ?_) (fun hc => ?_)
    · have h := h.1 hc
      refine lv_aload_n C.1 C.2.1 dX12_reckon_33 rfl (lv_at hl 0 rfl) ?_
      refine gf11_8 C hP hb (m11 hb hL) q1387 dX12_reckon_34 ?_
      refine lv_iconst C.1 C.2.1 (v := 1) dX12_reckon_37 rfl ?_
      refine lv_iconst C.1 C.2.1 (v := 0) dX12_reckon_38 rfl ?_
      obtain ⟨hi, h⟩ := h
      refine z_iast C hP hS (k11_5 hb) (l11_5 hb) (m11_5 hb hL) hi dX12_reckon_39 (fun H locs hP hS => ?_)
      obtain ⟨st2, est2⟩ : ∃ z, z = uI st (b + 5) (1 : Int32).toNatClampNeg 0 := ⟨_, rfl⟩
      rw [← est2] at hP; have h := h st2 est2
      refine lv_iconst C.1 C.2.1 (v := 1) dX12_reckon_40 rfl ?_
      refine lv_istore_n C.1 C.2.1 dX12_reckon_41 rfl hl (Nat.le_of_ble_eq_true rfl) rfl (fun ls hl => ?_)
      have hl : lv_has ls 6 [(2, .int 1), (0, .ref (E.2.1 b)), (1, .int v1)] := hl
      obtain ⟨n, h⟩ := h
      exact tX12_reckon_L42 hL C hr hlk hb n v1 1 st2 _ _ _ h (lv_sub hl [1, 2, 0] rfl) hP hS
    · have h := h.2 hc
      refine lv_aload_n C.1 C.2.1 dX12_reckon_19 rfl (lv_at hl 0 rfl) ?_
      refine gf11_8 C hP hb (m11 hb hL) q1387 dX12_reckon_20 ?_
      refine lv_iload_n C.1 C.2.1 dX12_reckon_23 rfl (lv_at hl 2 rfl) ?_
      refine lv_ldc C.1 C.2.1 C.2.2.2.1 (C.T q1916) dX12_reckon_24 ?_
      obtain ⟨hi, h⟩ := h
      refine z_iast C hP hS (k11_5 hb) (l11_5 hb) (m11_5 hb hL) hi dX12_reckon_26 (fun H locs hP hS => ?_)
      obtain ⟨st3, est3⟩ : ∃ z, z = uI st (b + 5) (v2 : Int32).toNatClampNeg 1000000 := ⟨_, rfl⟩
      rw [← est3] at hP; have h := h st3 est3
      obtain ⟨x4, ex4⟩ : ∃ z, z = v2 + 1 := ⟨_, rfl⟩
      have h := h x4 ex4
      refine lv_iinc C.1 C.2.1 dX12_reckon_27 hl (k := 2) rfl ex4.symm (Nat.le_of_ble_eq_true rfl) rfl (fun ls hl => ?_)
      have hl : lv_has ls 6 [(2, .int x4), (0, .ref (E.2.1 b)), (1, .int v1)] := hl
      refine lv_goto C.1 C.2.1 (tgt := 12) dX12_reckon_30 (by decide) ?_
      exact hR12 v1 x4 st3 _ _ _ h (lv_sub hl [1, 2, 0] rfl) hP hS
set_option maxHeartbeats 4000000 in
set_option maxRecDepth 100000 in
theorem tX12_reckon {l : Launch} {E : En0} {L : List Nat} (hE : EK E L) (hL : Cov 54 67 L) {b : Nat} {st : St} {Q : St → Prop} (hb : kd b = 11) (h : wX12_reckon b st Q) : Mz l yX12_reckon cX12_reckon 6 none rmX12_reckon E L [.ref (E.2.1 b)] st (zV E L Q) := by
  refine Mz.of hE (by decide) (Nat.le_of_ble_eq_true rfl) ?_
  intro p e s m below meth c ls C hr hlk _ hl hP
  replace C : Cx E L "PlankBridgeModel" cX12_reckon 6 p s m _ c := C
  have hS : va_S (fA E L s.heap.size) s.heap s.heap [] := va_S.rf
  replace hl : lv_has ls 6 [(0, .ref (E.2.1 b))] := hl
  unfold wX12_reckon at h
  refine lv_iconst C.1 C.2.1 (v := 1) dX12_reckon_0 rfl ?_
  refine lv_aload_n C.1 C.2.1 dX12_reckon_1 rfl (lv_at hl 0 rfl) ?_
  refine gf11_4 C hP hb (m11 hb hL) q1383 dX12_reckon_2 ?_
  refine gf9_0 C hP (show kd 60 = 9 from rfl) (hL 60 (Nat.le_of_ble_eq_true rfl) (Nat.le_of_ble_eq_true rfl)) q1320 dX12_reckon_5 ?_
  refine lv_ishl C.1 C.2.1 dX12_reckon_8  ?_
  refine lv_topi (fun x1 ex1 => ?_)
  have h := h x1 ex1
  refine lv_istore_n C.1 C.2.1 dX12_reckon_9 rfl hl (Nat.le_of_ble_eq_true rfl) rfl (fun ls hl => ?_)
  have hl : lv_has ls 6 [(1, .int x1), (0, .ref (E.2.1 b))] := hl
  refine lv_iconst C.1 C.2.1 (v := 0) dX12_reckon_10 rfl ?_
  refine lv_istore_n C.1 C.2.1 dX12_reckon_11 rfl hl (Nat.le_of_ble_eq_true rfl) rfl (fun ls hl => ?_)
  have hl : lv_has ls 6 [(2, .int 0), (1, .int x1), (0, .ref (E.2.1 b))] := hl
  obtain ⟨n, h⟩ := h
  exact tX12_reckon_L12 hL C hr hlk hb n x1 0 st _ _ _ h (lv_sub hl [2, 1, 0] rfl) hP hS
def rmX12_state : Room := { frames := 0, cells := 0, slots := 0, locals := 0 }
def wX12_state_L4 (b : Nat)  (R4 : Int32 × Int32 × St → Prop) (v1 : Int32) (v2 : Int32) (st : St) (Q : Int32 → St → Prop) : Prop :=
  (((gI st 60 0) ≤ v2 → (vp_in 0 50 ∧ Q (((2 : Int32) * v1) + (gI st (b + 2) (0 : Int32).toNatClampNeg)) st)) ∧ (¬ (gI st 60 0) ≤ v2 → (vp_in ((8 : Int32) + v2) 50 ∧ (∀ x1 : Int32, x1 = (v1 ||| (((1 : Int32) - (gI st (b + 2) ((8 : Int32) + v2 : Int32).toNatClampNeg)) <<< (v2 &&& 31))) → (∀ x2 : Int32, x2 = v2 + 1 → R4 (x1, x2, st))))))
def wX12_state (b : Nat) (st : St) (Q : Int32 → St → Prop) : Prop :=
  (∃ n, lp (fun R s => wX12_state_L4 b R s.1 s.2.1 s.2.2 Q) n (0, 0, st))
theorem hdX12_state : yX12_state.cls = "PlankBridgeModel" ∧ yX12_state.cls ≠ "java/lang/invoke/MethodHandle" ∧ yX12_state.cls ≠ "java/lang/invoke/VarHandle" ∧ (parseMethodDescriptor yX12_state.desc).map (fun d => d.parameters.length) = some 0 := by decide +kernel
set_option maxHeartbeats 4000000 in
set_option maxRecDepth 100000 in
theorem tX12_state_L4 {l : Launch} {p : Program} {e : Env} {s : State} {m : MethodId} {args : Array Value} {below : List Frame} {meth : Method} {c : Code} {E : En0} {L : List Nat} (hL : Cov 54 67 L) (C : Cx E L "PlankBridgeModel" cX12_state 3 p s m args c) (hr : meth.sig.returnType = (some .int)) (hlk : meth.locks = false) {b : Nat} {Q : Int32 → St → Prop} (hb : kd b = 11) : ∀ (n : Nat) (v1 : Int32) (v2 : Int32) (st : St) (H : Heap) (locs : List Loc) (ls : Array Slot), lp (fun R s => wX12_state_L4 b R s.1 s.2.1 s.2.2 Q) n (v1, v2, st) → lv_has ls 3 [(0, .ref (E.2.1 b)), (1, .int v1), (2, .int v2)] → va_P E.1 vwCl (wd E L st) H → va_S (fA E L s.heap.size) s.heap H locs → W p l e rmX12_state s m args below meth c H locs 0 0 (MQ below (zI E L Q (fA E L s.heap.size)) args s rmX12_state.cells rmX12_state.slots (fA E L s.heap.size)) (F0 m 4 ls []) := by
  intro n
  induction n with
  | zero => exact fun _ _ _ _ _ _ h _ _ _ => False.elim ‹_›
  | succ n ih =>
    intro v1 v2 st  H locs ls h hl hP hS
    have hR4 := ih
    replace h : wX12_state_L4 b (lp (fun R s => wX12_state_L4 b R s.1 s.2.1 s.2.2 Q) n) v1 v2 st Q := h
    unfold wX12_state_L4 at h
    refine lv_iload_n C.1 C.2.1 dX12_state_4 rfl (lv_at hl 2 rfl) ?_
    refine lv_aload_n C.1 C.2.1 dX12_state_5 rfl (lv_at hl 0 rfl) ?_
    refine gf11_4 C hP hb (m11 hb hL) q1383 dX12_state_6 ?_
    refine gf9_0 C hP (show kd 60 = 9 from rfl) (hL 60 (Nat.le_of_ble_eq_true rfl) (Nat.le_of_ble_eq_true rfl)) q1320 dX12_state_9 ?_
    refine lv_icmp_ge C.1 C.2.1 (tgt := 37) dX12_state_12 (by decide) (fun hc => ?_) (fun hc => ?_)
    · have h := h.1 hc
      refine lv_iconst C.1 C.2.1 (v := 2) dX12_state_37 rfl ?_
      refine lv_iload_n C.1 C.2.1 dX12_state_38 rfl (lv_at hl 1 rfl) ?_
      refine lv_imul C.1 C.2.1 dX12_state_39  ?_
      refine lv_aload_n C.1 C.2.1 dX12_state_40 rfl (lv_at hl 0 rfl) ?_
      refine gf11_5 C hP hb (m11 hb hL) q1384 dX12_state_41 ?_
      refine lv_iconst C.1 C.2.1 (v := 0) dX12_state_44 rfl ?_
      obtain ⟨hi, h⟩ := h
      refine z_iald C hP (k11_2 hb) (l11_2 hb) (m11_2 hb hL) hi dX12_state_45 ?_
      refine lv_iadd C.1 C.2.1 dX12_state_46  ?_
      exact z_ri C hr hlk rfl hP hS h dX12_state_47
    · have h := h.2 hc
      refine lv_iload_n C.1 C.2.1 dX12_state_15 rfl (lv_at hl 1 rfl) ?_
      refine lv_iconst C.1 C.2.1 (v := 1) dX12_state_16 rfl ?_
      refine lv_aload_n C.1 C.2.1 dX12_state_17 rfl (lv_at hl 0 rfl) ?_
      refine gf11_5 C hP hb (m11 hb hL) q1384 dX12_state_18 ?_
      refine lv_bipush C.1 C.2.1 (v := 8) dX12_state_21 rfl ?_
      refine lv_iload_n C.1 C.2.1 dX12_state_23 rfl (lv_at hl 2 rfl) ?_
      refine lv_iadd C.1 C.2.1 dX12_state_24  ?_
      obtain ⟨hi, h⟩ := h
      refine z_iald C hP (k11_2 hb) (l11_2 hb) (m11_2 hb hL) hi dX12_state_25 ?_
      refine lv_isub C.1 C.2.1 dX12_state_26  ?_
      refine lv_iload_n C.1 C.2.1 dX12_state_27 rfl (lv_at hl 2 rfl) ?_
      refine lv_ishl C.1 C.2.1 dX12_state_28  ?_
      refine lv_ior C.1 C.2.1 dX12_state_29  ?_
      refine lv_topi (fun x1 ex1 => ?_)
      have h := h x1 ex1
      refine lv_istore_n C.1 C.2.1 dX12_state_30 rfl hl (Nat.le_of_ble_eq_true rfl) rfl (fun ls hl => ?_)
      have hl : lv_has ls 3 [(1, .int x1), (0, .ref (E.2.1 b)), (2, .int v2)] := hl
      obtain ⟨x2, ex2⟩ : ∃ z, z = v2 + 1 := ⟨_, rfl⟩
      have h := h x2 ex2
      refine lv_iinc C.1 C.2.1 dX12_state_31 hl (k := 2) rfl ex2.symm (Nat.le_of_ble_eq_true rfl) rfl (fun ls hl => ?_)
      have hl : lv_has ls 3 [(2, .int x2), (1, .int x1), (0, .ref (E.2.1 b))] := hl
      refine lv_goto C.1 C.2.1 (tgt := 4) dX12_state_34 (by decide) ?_
      exact hR4 x1 x2 st _ _ _ h (lv_sub hl [2, 1, 0] rfl) hP hS
set_option maxHeartbeats 4000000 in
set_option maxRecDepth 100000 in
theorem tX12_state {l : Launch} {E : En0} {L : List Nat} (hE : EK E L) (hL : Cov 54 67 L) {b : Nat} {st : St} {Q : Int32 → St → Prop} (hb : kd b = 11) (h : wX12_state b st Q) : Mz l yX12_state cX12_state 3 (some .int) rmX12_state E L [.ref (E.2.1 b)] st (zI E L Q) := by
  refine Mz.of hE (by decide) (Nat.le_of_ble_eq_true rfl) ?_
  intro p e s m below meth c ls C hr hlk _ hl hP
  replace C : Cx E L "PlankBridgeModel" cX12_state 3 p s m _ c := C
  have hS : va_S (fA E L s.heap.size) s.heap s.heap [] := va_S.rf
  replace hl : lv_has ls 3 [(0, .ref (E.2.1 b))] := hl
  unfold wX12_state at h
  refine lv_iconst C.1 C.2.1 (v := 0) dX12_state_0 rfl ?_
  refine lv_istore_n C.1 C.2.1 dX12_state_1 rfl hl (Nat.le_of_ble_eq_true rfl) rfl (fun ls hl => ?_)
  have hl : lv_has ls 3 [(1, .int 0), (0, .ref (E.2.1 b))] := hl
  refine lv_iconst C.1 C.2.1 (v := 0) dX12_state_2 rfl ?_
  refine lv_istore_n C.1 C.2.1 dX12_state_3 rfl hl (Nat.le_of_ble_eq_true rfl) rfl (fun ls hl => ?_)
  have hl : lv_has ls 3 [(2, .int 0), (1, .int 0), (0, .ref (E.2.1 b))] := hl
  obtain ⟨n, h⟩ := h
  exact tX12_state_L4 hL C hr hlk hb n 0 0 st _ _ _ h (lv_sub hl [2, 1, 0] rfl) hP hS
def rmX12_canBegin : Room := { frames := 1, cells := 0, slots := 0, locals := 22 }
def wX12_canBegin (b : Nat) (p1 : Int32) (p2 : Int32) (st : St) (Q : Int32 → St → Prop) : Prop :=
  (vp_in ((8 : Int32) + p1) 50 ∧ (vp_in 0 50 ∧ ((¬ (gI st (b + 2) ((8 : Int32) + p1 : Int32).toNatClampNeg) = (gI st (b + 2) (0 : Int32).toNatClampNeg) → Q 0 st) ∧ ((gI st (b + 2) ((8 : Int32) + p1 : Int32).toNatClampNeg) = (gI st (b + 2) (0 : Int32).toNatClampNeg) → (vp_in ((8 : Int32) + p2) 50 ∧ (vp_in 0 50 ∧ (((gI st (b + 2) ((8 : Int32) + p2 : Int32).toNatClampNeg) = (gI st (b + 2) (0 : Int32).toNatClampNeg) → (wX12_state b st (fun r2 st1 => (∀ x3 : Int32, x3 = ((r2 ^^^ ((2 : Int32) * (((1 : Int32) <<< (p1 &&& 31)) ||| ((1 : Int32) <<< (p2 &&& 31))))) ^^^ 1) → (vp_in r2 512 ∧ (vp_in x3 512 ∧ (vp_in p1 9 ∧ (vp_in p2 9 ∧ ((¬ (gI st1 (b + 5) (r2 : Int32).toNatClampNeg) = ((gI st1 (b + 5) (x3 : Int32).toNatClampNeg) + (if (gI st1 62 (p1 : Int32).toNatClampNeg) < (gI st1 62 (p2 : Int32).toNatClampNeg) then (gI st1 62 (p2 : Int32).toNatClampNeg) else (gI st1 62 (p1 : Int32).toNatClampNeg))) → Q 0 st1) ∧ ((gI st1 (b + 5) (r2 : Int32).toNatClampNeg) = ((gI st1 (b + 5) (x3 : Int32).toNatClampNeg) + (if (gI st1 62 (p1 : Int32).toNatClampNeg) < (gI st1 62 (p2 : Int32).toNatClampNeg) then (gI st1 62 (p2 : Int32).toNatClampNeg) else (gI st1 62 (p1 : Int32).toNatClampNeg))) → Q 1 st1)))))))))) ∧ (¬ (gI st (b + 2) ((8 : Int32) + p2 : Int32).toNatClampNeg) = (gI st (b + 2) (0 : Int32).toNatClampNeg) → Q 0 st))))))))
theorem hdX12_canBegin : yX12_canBegin.cls = "PlankBridgeModel" ∧ yX12_canBegin.cls ≠ "java/lang/invoke/MethodHandle" ∧ yX12_canBegin.cls ≠ "java/lang/invoke/VarHandle" ∧ (parseMethodDescriptor yX12_canBegin.desc).map (fun d => d.parameters.length) = some 2 := by decide +kernel
set_option maxHeartbeats 4000000 in
set_option maxRecDepth 100000 in
theorem tX12_canBegin {l : Launch} {E : En0} {L : List Nat} (hE : EK E L) (hL : Cov 54 67 L) {b : Nat} {p1 : Int32} {p2 : Int32} {st : St} {Q : Int32 → St → Prop} (hb : kd b = 11) (h : wX12_canBegin b p1 p2 st Q) : Mz l yX12_canBegin cX12_canBegin 5 (some .boolean) rmX12_canBegin E L [.ref (E.2.1 b), .int p1, .int p2] st (zI E L (fun r u => bz r ∧ Q r u)) := by
  refine Mz.of hE (by decide) (Nat.le_of_ble_eq_true rfl) ?_
  intro p e s m below meth c ls C hr hlk _ hl hP
  replace C : Cx E L "PlankBridgeModel" cX12_canBegin 5 p s m _ c := C
  have hS : va_S (fA E L s.heap.size) s.heap s.heap [] := va_S.rf
  replace hl : lv_has ls 5 [(0, .ref (E.2.1 b)), (1, .int p1), (2, .int p2)] := hl
  unfold wX12_canBegin at h
  refine lv_aload_n C.1 C.2.1 dX12_canBegin_0 rfl (lv_at hl 0 rfl) ?_
  refine gf11_5 C hP hb (m11 hb hL) q1384 dX12_canBegin_1 ?_
  refine lv_bipush C.1 C.2.1 (v := 8) dX12_canBegin_4 rfl ?_
  refine lv_iload_n C.1 C.2.1 dX12_canBegin_6 rfl (lv_at hl 1 rfl) ?_
  refine lv_iadd C.1 C.2.1 dX12_canBegin_7  ?_
  obtain ⟨hi, h⟩ := h
  refine z_iald C hP (k11_2 hb) (l11_2 hb) (m11_2 hb hL) hi dX12_canBegin_8 ?_
  refine lv_aload_n C.1 C.2.1 dX12_canBegin_9 rfl (lv_at hl 0 rfl) ?_
  refine gf11_5 C hP hb (m11 hb hL) q1384 dX12_canBegin_10 ?_
  refine lv_iconst C.1 C.2.1 (v := 0) dX12_canBegin_13 rfl ?_
  obtain ⟨hi, h⟩ := h
  refine z_iald C hP (k11_2 hb) (l11_2 hb) (m11_2 hb hL) hi dX12_canBegin_14 ?_
  refine lv_icmp_ne C.1 C.2.1 (tgt := 36) dX12_canBegin_15 (by decide) (fun hc => ?_) (fun hc => ?_)
  · have h := h.1 hc
    refine lv_iconst C.1 C.2.1 (v := 0) dX12_canBegin_36 rfl ?_
    exact z_ri C hr hlk (bz_n bz0) hP hS ⟨bz0, h⟩ dX12_canBegin_37
  · have h := h.2 hc
    refine lv_aload_n C.1 C.2.1 dX12_canBegin_18 rfl (lv_at hl 0 rfl) ?_
    refine gf11_5 C hP hb (m11 hb hL) q1384 dX12_canBegin_19 ?_
    refine lv_bipush C.1 C.2.1 (v := 8) dX12_canBegin_22 rfl ?_
    refine lv_iload_n C.1 C.2.1 dX12_canBegin_24 rfl (lv_at hl 2 rfl) ?_
    refine lv_iadd C.1 C.2.1 dX12_canBegin_25  ?_
    obtain ⟨hi, h⟩ := h
    refine z_iald C hP (k11_2 hb) (l11_2 hb) (m11_2 hb hL) hi dX12_canBegin_26 ?_
    refine lv_aload_n C.1 C.2.1 dX12_canBegin_27 rfl (lv_at hl 0 rfl) ?_
    refine gf11_5 C hP hb (m11 hb hL) q1384 dX12_canBegin_28 ?_
    refine lv_iconst C.1 C.2.1 (v := 0) dX12_canBegin_31 rfl ?_
    obtain ⟨hi, h⟩ := h
    refine z_iald C hP (k11_2 hb) (l11_2 hb) (m11_2 hb hL) hi dX12_canBegin_32 ?_
    refine lv_icmp_eq C.1 C.2.1 (tgt := 38) dX12_canBegin_33 (by decide) (fun hc => ?_) (fun hc => ?_)
    · have h := h.1 hc
      refine lv_aload_n C.1 C.2.1 dX12_canBegin_38 rfl (lv_at hl 0 rfl) ?_
      refine z_ki hS (z_runV (As := []) (rest := []) C hP hS (m11 hb hL) (e11 hb) rfl (tX12_state C.2.2.2.2.2.2.1 (hL.mo (Nat.le_of_ble_eq_true rfl) (Nat.le_of_ble_eq_true rfl)) hb h) q1921 q1923 q100 q116 q1924 hdX12_state ⟨Nat.le_of_ble_eq_true rfl, Nat.le_of_ble_eq_true rfl⟩ ⟨Nat.zero_le _, Nat.zero_le _⟩ rfl hl.1 rfl (lv_room (Nat.le_of_ble_eq_true rfl)) dX12_canBegin_39) (fun r2 st1 H locs h hP hS => ?_)
      refine lv_istore_n C.1 C.2.1 dX12_canBegin_42 rfl hl (Nat.le_of_ble_eq_true rfl) rfl (fun ls hl => ?_)
      have hl : lv_has ls 5 [(3, .int r2), (0, .ref (E.2.1 b)), (1, .int p1), (2, .int p2)] := hl
      refine lv_iload_n C.1 C.2.1 dX12_canBegin_43 rfl (lv_at hl 0 rfl) ?_
      refine lv_iconst C.1 C.2.1 (v := 2) dX12_canBegin_44 rfl ?_
      refine lv_iconst C.1 C.2.1 (v := 1) dX12_canBegin_45 rfl ?_
      refine lv_iload_n C.1 C.2.1 dX12_canBegin_46 rfl (lv_at hl 2 rfl) ?_
      refine lv_ishl C.1 C.2.1 dX12_canBegin_47  ?_
      refine lv_iconst C.1 C.2.1 (v := 1) dX12_canBegin_48 rfl ?_
      refine lv_iload_n C.1 C.2.1 dX12_canBegin_49 rfl (lv_at hl 3 rfl) ?_
      refine lv_ishl C.1 C.2.1 dX12_canBegin_50  ?_
      refine lv_ior C.1 C.2.1 dX12_canBegin_51  ?_
      refine lv_imul C.1 C.2.1 dX12_canBegin_52  ?_
      refine lv_ixor C.1 C.2.1 dX12_canBegin_53  ?_
      refine lv_iconst C.1 C.2.1 (v := 1) dX12_canBegin_54 rfl ?_
      refine lv_ixor C.1 C.2.1 dX12_canBegin_55  ?_
      refine lv_topi (fun x3 ex3 => ?_)
      have h := h x3 ex3
      refine lv_istore C.1 C.2.1 dX12_canBegin_56 hl (Nat.le_of_ble_eq_true rfl) rfl (fun ls hl => ?_)
      have hl : lv_has ls 5 [(4, .int x3), (3, .int r2), (0, .ref (E.2.1 b)), (1, .int p1), (2, .int p2)] := hl
      refine lv_aload_n C.1 C.2.1 dX12_canBegin_58 rfl (lv_at hl 2 rfl) ?_
      refine gf11_8 C hP hb (m11 hb hL) q1387 dX12_canBegin_59 ?_
      refine lv_iload_n C.1 C.2.1 dX12_canBegin_62 rfl (lv_at hl 1 rfl) ?_
      obtain ⟨hi, h⟩ := h
      refine z_iald C hP (k11_5 hb) (l11_5 hb) (m11_5 hb hL) hi dX12_canBegin_63 ?_
      refine lv_aload_n C.1 C.2.1 dX12_canBegin_64 rfl (lv_at hl 2 rfl) ?_
      refine gf11_8 C hP hb (m11 hb hL) q1387 dX12_canBegin_65 ?_
      refine lv_iload C.1 C.2.1 dX12_canBegin_68 (lv_at hl 0 rfl) ?_
      obtain ⟨hi, h⟩ := h
      refine z_iald C hP (k11_5 hb) (l11_5 hb) (m11_5 hb hL) hi dX12_canBegin_70 ?_
      refine lv_aload_n C.1 C.2.1 dX12_canBegin_71 rfl (lv_at hl 2 rfl) ?_
      refine gf11_4 C hP hb (m11 hb hL) q1383 dX12_canBegin_72 ?_
      refine gf9_5 C hP (show kd 60 = 9 from rfl) (hL 60 (Nat.le_of_ble_eq_true rfl) (Nat.le_of_ble_eq_true rfl)) q1331 dX12_canBegin_75 ?_
      refine lv_iload_n C.1 C.2.1 dX12_canBegin_78 rfl (lv_at hl 3 rfl) ?_
      obtain ⟨hi, h⟩ := h
      refine z_iald C hP (show kd 62 = 20 from rfl) (show ln 62 = 9 from rfl) (hL 62 (Nat.le_of_ble_eq_true rfl) (Nat.le_of_ble_eq_true rfl)) hi dX12_canBegin_79 ?_
      refine lv_aload_n C.1 C.2.1 dX12_canBegin_80 rfl (lv_at hl 2 rfl) ?_
      refine gf11_4 C hP hb (m11 hb hL) q1383 dX12_canBegin_81 ?_
      refine gf9_5 C hP (show kd 60 = 9 from rfl) (hL 60 (Nat.le_of_ble_eq_true rfl) (Nat.le_of_ble_eq_true rfl)) q1331 dX12_canBegin_84 ?_
      refine lv_iload_n C.1 C.2.1 dX12_canBegin_87 rfl (lv_at hl 4 rfl) ?_
      obtain ⟨hi, h⟩ := h
      refine z_iald C hP (show kd 62 = 20 from rfl) (show ln 62 = 9 from rfl) (hL 62 (Nat.le_of_ble_eq_true rfl) (Nat.le_of_ble_eq_true rfl)) hi dX12_canBegin_88 ?_
      refine va_mmax (rest := [.int (gI st1 (b + 5) (x3 : Int32).toNatClampNeg), .int (gI st1 (b + 5) (r2 : Int32).toNatClampNeg)]) C.1 C.2.1 (C.2.2.1.trans hl.1.symm) C.2.2.2.1 (C.T q1716) (C.T q1622) (C.T q129) (C.T q1623) (Nat.le_of_ble_eq_true rfl) (Nat.le_of_ble_eq_true rfl) (Nat.zero_le _) (Nat.zero_le _) dX12_canBegin_89 ?_
      refine lv_iadd C.1 C.2.1 dX12_canBegin_92  ?_
      refine lv_icmp_ne C.1 C.2.1 (tgt := 100) dX12_canBegin_93 (by decide) (fun hc => ?_) (fun hc => ?_)
      · have h := h.1 hc
        refine lv_iconst C.1 C.2.1 (v := 0) dX12_canBegin_100 rfl ?_
        exact z_ri C hr hlk (bz_n bz0) hP hS ⟨bz0, h⟩ dX12_canBegin_101
      · have h := h.2 hc
        refine lv_iconst C.1 C.2.1 (v := 1) dX12_canBegin_96 rfl ?_
        refine lv_goto C.1 C.2.1 (tgt := 101) dX12_canBegin_97 (by decide) ?_
        exact z_ri C hr hlk (bz_n bz1) hP hS ⟨bz1, h⟩ dX12_canBegin_101
    · have h := h.2 hc
      refine lv_iconst C.1 C.2.1 (v := 0) dX12_canBegin_36 rfl ?_
      exact z_ri C hr hlk (bz_n bz0) hP hS ⟨bz0, h⟩ dX12_canBegin_37
def rmX12_first : Room := { frames := 3, cells := 0, slots := 0, locals := 74 }
def wX12_first_L19 (b : Nat) (R6 : Int32 × St → Prop) (R19 : Int32 × Int32 × St → Prop) (v1 : Int32) (v2 : Int32) (st : St) (Q : Int32 → St → Prop) : Prop :=
  (((gI st 60 0) ≤ v2 → (∀ x2 : Int32, x2 = v1 + 1 → R6 (x2, st))) ∧ (¬ (gI st 60 0) ≤ v2 → (wX12_canBegin b v1 v2 st (fun r4 st3 => ((r4 = 0 → (∀ x5 : Int32, x5 = v2 + 1 → R19 (v1, x5, st3))) ∧ (¬ r4 = 0 → Q v1 st3))))))
def wX12_first_L6 (b : Nat)  (R6 : Int32 × St → Prop) (v1 : Int32) (st : St) (Q : Int32 → St → Prop) : Prop :=
  (((gI st 60 0) ≤ v1 → Q (-1) st) ∧ (¬ (gI st 60 0) ≤ v1 → (∃ n, lp (fun R s => wX12_first_L19 b R6 R s.1 s.2.1 s.2.2 Q) n (v1, 0, st))))
def wX12_first (b : Nat) (st : St) (Q : Int32 → St → Prop) : Prop :=
  (wX12_reckon b st (fun st1 => (∃ n, lp (fun R s => wX12_first_L6 b R s.1 s.2 Q) n (0, st1))))
theorem hdX12_first : yX12_first.cls = "PlankBridgeModel" ∧ yX12_first.cls ≠ "java/lang/invoke/MethodHandle" ∧ yX12_first.cls ≠ "java/lang/invoke/VarHandle" ∧ (parseMethodDescriptor yX12_first.desc).map (fun d => d.parameters.length) = some 0 := by decide +kernel
set_option maxHeartbeats 4000000 in
set_option maxRecDepth 100000 in
theorem tX12_first_L19 {l : Launch} {p : Program} {e : Env} {s : State} {m : MethodId} {args : Array Value} {below : List Frame} {meth : Method} {c : Code} {E : En0} {L : List Nat} (hL : Cov 54 67 L) (C : Cx E L "PlankBridgeModel" cX12_first 3 p s m args c) (hr : meth.sig.returnType = (some .int)) (hlk : meth.locks = false) {b : Nat} {Q : Int32 → St → Prop} (hb : kd b = 11) {R6 : Int32 × St → Prop} (hR6 : ∀ (v1 : Int32) (st : St), ∀ (H : Heap) (locs : List Loc) (ls : Array Slot), R6 (v1, st) → lv_has ls 3 [(0, .ref (E.2.1 b)), (1, .int v1)] → va_P E.1 vwCl (wd E L st) H → va_S (fA E L s.heap.size) s.heap H locs → W p l e rmX12_first s m args below meth c H locs 0 0 (MQ below (zI E L Q (fA E L s.heap.size)) args s rmX12_first.cells rmX12_first.slots (fA E L s.heap.size)) (F0 m 6 ls [])) : ∀ (n : Nat) (v1 : Int32) (v2 : Int32) (st : St) (H : Heap) (locs : List Loc) (ls : Array Slot), lp (fun R s => wX12_first_L19 b R6 R s.1 s.2.1 s.2.2 Q) n (v1, v2, st) → lv_has ls 3 [(0, .ref (E.2.1 b)), (1, .int v1), (2, .int v2)] → va_P E.1 vwCl (wd E L st) H → va_S (fA E L s.heap.size) s.heap H locs → W p l e rmX12_first s m args below meth c H locs 0 0 (MQ below (zI E L Q (fA E L s.heap.size)) args s rmX12_first.cells rmX12_first.slots (fA E L s.heap.size)) (F0 m 19 ls []) := by
  intro n
  induction n with
  | zero => exact fun _ _ _ _ _ _ h _ _ _ => False.elim ‹_›
  | succ n ih =>
    intro v1 v2 st  H locs ls h hl hP hS
    have hR19 := ih
    replace h : wX12_first_L19 b R6 (lp (fun R s => wX12_first_L19 b R6 R s.1 s.2.1 s.2.2 Q) n) v1 v2 st Q := h
    unfold wX12_first_L19 at h
    refine lv_iload_n C.1 C.2.1 dX12_first_19 rfl (lv_at hl 2 rfl) ?_
    refine lv_aload_n C.1 C.2.1 dX12_first_20 rfl (lv_at hl 0 rfl) ?_
    refine gf11_4 C hP hb (m11 hb hL) q1383 dX12_first_21 ?_
    refine gf9_0 C hP (show kd 60 = 9 from rfl) (hL 60 (Nat.le_of_ble_eq_true rfl) (Nat.le_of_ble_eq_true rfl)) q1320 dX12_first_24 ?_
    refine lv_icmp_ge C.1 C.2.1 (tgt := 47) dX12_first_27 (by decide) (fun hc => ?_) (fun hc => ?_)
    · have h := h.1 hc
      obtain ⟨x2, ex2⟩ : ∃ z, z = v1 + 1 := ⟨_, rfl⟩
      have h := h x2 ex2
      refine lv_iinc C.1 C.2.1 dX12_first_47 hl (k := 1) rfl ex2.symm (Nat.le_of_ble_eq_true rfl) rfl (fun ls hl => ?_)
      have hl : lv_has ls 3 [(1, .int x2), (0, .ref (E.2.1 b)), (2, .int v2)] := hl
      refine lv_goto C.1 C.2.1 (tgt := 6) dX12_first_50 (by decide) ?_
      exact hR6 x2 st _ _ _ h (lv_sub hl [1, 0] rfl) hP hS
    · have h := h.2 hc
      refine lv_aload_n C.1 C.2.1 dX12_first_30 rfl (lv_at hl 0 rfl) ?_
      refine lv_iload_n C.1 C.2.1 dX12_first_31 rfl (lv_at hl 1 rfl) ?_
      refine lv_iload_n C.1 C.2.1 dX12_first_32 rfl (lv_at hl 2 rfl) ?_
      refine z_ki hS (z_runV (As := [.int v1, .int v2]) (rest := []) C hP hS (m11 hb hL) (e11 hb) rfl (tX12_canBegin C.2.2.2.2.2.2.1 (hL.mo (Nat.le_of_ble_eq_true rfl) (Nat.le_of_ble_eq_true rfl)) hb h) q1933 q1935 q102 q116 q1936 hdX12_canBegin ⟨Nat.le_of_ble_eq_true rfl, Nat.le_of_ble_eq_true rfl⟩ ⟨Nat.zero_le _, Nat.zero_le _⟩ rfl hl.1 rfl (lv_room (Nat.le_of_ble_eq_true rfl)) dX12_first_33) (fun r4 st3 H locs h hP hS => ?_)
      obtain ⟨hr4, h⟩ := h
      refine lv_if_eq C.1 C.2.1 (tgt := 41) dX12_first_36 (by decide) (fun hc => ?_) (fun hc => ?_)
      · have h := h.1 hc
        obtain ⟨x5, ex5⟩ : ∃ z, z = v2 + 1 := ⟨_, rfl⟩
        have h := h x5 ex5
        refine lv_iinc C.1 C.2.1 dX12_first_41 hl (k := 2) rfl ex5.symm (Nat.le_of_ble_eq_true rfl) rfl (fun ls hl => ?_)
        have hl : lv_has ls 3 [(2, .int x5), (0, .ref (E.2.1 b)), (1, .int v1)] := hl
        refine lv_goto C.1 C.2.1 (tgt := 19) dX12_first_44 (by decide) ?_
        exact hR19 v1 x5 st3 _ _ _ h (lv_sub hl [1, 2, 0] rfl) hP hS
      · have h := h.2 hc
        refine lv_iload_n C.1 C.2.1 dX12_first_39 rfl (lv_at hl 1 rfl) ?_
        exact z_ri C hr hlk rfl hP hS h dX12_first_40
set_option maxHeartbeats 4000000 in
set_option maxRecDepth 100000 in
theorem tX12_first_L6 {l : Launch} {p : Program} {e : Env} {s : State} {m : MethodId} {args : Array Value} {below : List Frame} {meth : Method} {c : Code} {E : En0} {L : List Nat} (hL : Cov 54 67 L) (C : Cx E L "PlankBridgeModel" cX12_first 3 p s m args c) (hr : meth.sig.returnType = (some .int)) (hlk : meth.locks = false) {b : Nat} {Q : Int32 → St → Prop} (hb : kd b = 11) : ∀ (n : Nat) (v1 : Int32) (st : St) (H : Heap) (locs : List Loc) (ls : Array Slot), lp (fun R s => wX12_first_L6 b R s.1 s.2 Q) n (v1, st) → lv_has ls 3 [(0, .ref (E.2.1 b)), (1, .int v1)] → va_P E.1 vwCl (wd E L st) H → va_S (fA E L s.heap.size) s.heap H locs → W p l e rmX12_first s m args below meth c H locs 0 0 (MQ below (zI E L Q (fA E L s.heap.size)) args s rmX12_first.cells rmX12_first.slots (fA E L s.heap.size)) (F0 m 6 ls []) := by
  intro n
  induction n with
  | zero => exact fun _ _ _ _ _ h _ _ _ => False.elim ‹_›
  | succ n ih =>
    intro v1 st  H locs ls h hl hP hS
    have hR6 := ih
    replace h : wX12_first_L6 b (lp (fun R s => wX12_first_L6 b R s.1 s.2 Q) n) v1 st Q := h
    unfold wX12_first_L6 at h
    refine lv_iload_n C.1 C.2.1 dX12_first_6 rfl (lv_at hl 1 rfl) ?_
    refine lv_aload_n C.1 C.2.1 dX12_first_7 rfl (lv_at hl 0 rfl) ?_
    refine gf11_4 C hP hb (m11 hb hL) q1383 dX12_first_8 ?_
    refine gf9_0 C hP (show kd 60 = 9 from rfl) (hL 60 (Nat.le_of_ble_eq_true rfl) (Nat.le_of_ble_eq_true rfl)) q1320 dX12_first_11 ?_
    refine lv_icmp_ge C.1 C.2.1 (tgt := 53) dX12_first_14 (by decide) (fun hc => ?_) (fun hc => ?_)
    · have h := h.1 hc
      refine lv_iconst C.1 C.2.1 (v := (-1)) dX12_first_53 rfl ?_
      exact z_ri C hr hlk rfl hP hS h dX12_first_54
    · have h := h.2 hc
      refine lv_iconst C.1 C.2.1 (v := 0) dX12_first_17 rfl ?_
      refine lv_istore_n C.1 C.2.1 dX12_first_18 rfl hl (Nat.le_of_ble_eq_true rfl) rfl (fun ls hl => ?_)
      have hl : lv_has ls 3 [(2, .int 0), (0, .ref (E.2.1 b)), (1, .int v1)] := hl
      obtain ⟨n, h⟩ := h
      exact tX12_first_L19 hL C hr hlk hb hR6 n v1 0 st _ _ _ h (lv_sub hl [1, 2, 0] rfl) hP hS
set_option maxHeartbeats 4000000 in
set_option maxRecDepth 100000 in
theorem tX12_first {l : Launch} {E : En0} {L : List Nat} (hE : EK E L) (hL : Cov 54 67 L) {b : Nat} {st : St} {Q : Int32 → St → Prop} (hb : kd b = 11) (h : wX12_first b st Q) : Mz l yX12_first cX12_first 3 (some .int) rmX12_first E L [.ref (E.2.1 b)] st (zI E L Q) := by
  refine Mz.of hE (by decide) (Nat.le_of_ble_eq_true rfl) ?_
  intro p e s m below meth c ls C hr hlk _ hl hP
  replace C : Cx E L "PlankBridgeModel" cX12_first 3 p s m _ c := C
  have hS : va_S (fA E L s.heap.size) s.heap s.heap [] := va_S.rf
  replace hl : lv_has ls 3 [(0, .ref (E.2.1 b))] := hl
  unfold wX12_first at h
  refine lv_aload_n C.1 C.2.1 dX12_first_0 rfl (lv_at hl 0 rfl) ?_
  refine z_kv hS (z_runV (As := []) (rest := []) C hP hS (m11 hb hL) (e11 hb) rfl (tX12_reckon C.2.2.2.2.2.2.1 (hL.mo (Nat.le_of_ble_eq_true rfl) (Nat.le_of_ble_eq_true rfl)) hb h) q1912 q1914 q98 q116 q1915 hdX12_reckon ⟨Nat.le_of_ble_eq_true rfl, Nat.le_of_ble_eq_true rfl⟩ ⟨Nat.zero_le _, Nat.zero_le _⟩ rfl hl.1 rfl (lv_room (Nat.le_of_ble_eq_true rfl)) dX12_first_1) (fun st1 H locs h hP hS => ?_)
  refine lv_iconst C.1 C.2.1 (v := 0) dX12_first_4 rfl ?_
  refine lv_istore_n C.1 C.2.1 dX12_first_5 rfl hl (Nat.le_of_ble_eq_true rfl) rfl (fun ls hl => ?_)
  have hl : lv_has ls 3 [(1, .int 0), (0, .ref (E.2.1 b))] := hl
  obtain ⟨n, h⟩ := h
  exact tX12_first_L6 hL C hr hlk hb n 0 st1 _ _ _ h (lv_sub hl [1, 0] rfl) hP hS
def rmX12_walkers : Room := { frames := 1, cells := 0, slots := 0, locals := 21 }
def wX12_walkers (b : Nat) (st : St) (Q : Int32 → St → Prop) : Prop :=
  (wX12_told b (gI st 60 0) st (fun r2 st1 => Q r2 st1))
theorem hdX12_walkers : yX12_walkers.cls = "PlankBridgeModel" ∧ yX12_walkers.cls ≠ "java/lang/invoke/MethodHandle" ∧ yX12_walkers.cls ≠ "java/lang/invoke/VarHandle" ∧ (parseMethodDescriptor yX12_walkers.desc).map (fun d => d.parameters.length) = some 0 := by decide +kernel
set_option maxHeartbeats 4000000 in
set_option maxRecDepth 100000 in
theorem tX12_walkers {l : Launch} {E : En0} {L : List Nat} (hE : EK E L) (hL : Cov 54 67 L) {b : Nat} {st : St} {Q : Int32 → St → Prop} (hb : kd b = 11) (h : wX12_walkers b st Q) : Mz l yX12_walkers cX12_walkers 1 (some .int) rmX12_walkers E L [.ref (E.2.1 b)] st (zI E L Q) := by
  refine Mz.of hE (by decide) (Nat.le_of_ble_eq_true rfl) ?_
  intro p e s m below meth c ls C hr hlk _ hl hP
  replace C : Cx E L "PlankBridgeModel" cX12_walkers 1 p s m _ c := C
  have hS : va_S (fA E L s.heap.size) s.heap s.heap [] := va_S.rf
  replace hl : lv_has ls 1 [(0, .ref (E.2.1 b))] := hl
  unfold wX12_walkers at h
  refine lv_aload_n C.1 C.2.1 dX12_walkers_0 rfl (lv_at hl 0 rfl) ?_
  refine lv_aload_n C.1 C.2.1 dX12_walkers_1 rfl (lv_at hl 0 rfl) ?_
  refine gf11_4 C hP hb (m11 hb hL) q1383 dX12_walkers_2 ?_
  refine gf9_0 C hP (show kd 60 = 9 from rfl) (hL 60 (Nat.le_of_ble_eq_true rfl) (Nat.le_of_ble_eq_true rfl)) q1320 dX12_walkers_5 ?_
  refine z_ki hS (z_runV (As := [.int (gI st 60 0)]) (rest := []) C hP hS (m11 hb hL) (e11 hb) rfl (tX12_told C.2.2.2.2.2.2.1 (hL.mo (Nat.le_of_ble_eq_true rfl) (Nat.le_of_ble_eq_true rfl)) hb h) q1652 q1654 q65 q116 q1655 hdX12_told ⟨Nat.le_of_ble_eq_true rfl, Nat.le_of_ble_eq_true rfl⟩ ⟨Nat.zero_le _, Nat.zero_le _⟩ rfl hl.1 rfl (lv_room (Nat.le_of_ble_eq_true rfl)) dX12_walkers_8) (fun r2 st1 H locs h hP hS => ?_)
  exact z_ri C hr hlk rfl hP hS h dX12_walkers_11
def rmX12_planks : Room := { frames := 1, cells := 0, slots := 0, locals := 21 }
def wX12_planks (b : Nat) (st : St) (Q : Int32 → St → Prop) : Prop :=
  (wX12_told b (gI st 60 1) st (fun r2 st1 => Q r2 st1))
theorem hdX12_planks : yX12_planks.cls = "PlankBridgeModel" ∧ yX12_planks.cls ≠ "java/lang/invoke/MethodHandle" ∧ yX12_planks.cls ≠ "java/lang/invoke/VarHandle" ∧ (parseMethodDescriptor yX12_planks.desc).map (fun d => d.parameters.length) = some 0 := by decide +kernel
set_option maxHeartbeats 4000000 in
set_option maxRecDepth 100000 in
theorem tX12_planks {l : Launch} {E : En0} {L : List Nat} (hE : EK E L) (hL : Cov 54 67 L) {b : Nat} {st : St} {Q : Int32 → St → Prop} (hb : kd b = 11) (h : wX12_planks b st Q) : Mz l yX12_planks cX12_planks 1 (some .int) rmX12_planks E L [.ref (E.2.1 b)] st (zI E L Q) := by
  refine Mz.of hE (by decide) (Nat.le_of_ble_eq_true rfl) ?_
  intro p e s m below meth c ls C hr hlk _ hl hP
  replace C : Cx E L "PlankBridgeModel" cX12_planks 1 p s m _ c := C
  have hS : va_S (fA E L s.heap.size) s.heap s.heap [] := va_S.rf
  replace hl : lv_has ls 1 [(0, .ref (E.2.1 b))] := hl
  unfold wX12_planks at h
  refine lv_aload_n C.1 C.2.1 dX12_planks_0 rfl (lv_at hl 0 rfl) ?_
  refine lv_aload_n C.1 C.2.1 dX12_planks_1 rfl (lv_at hl 0 rfl) ?_
  refine gf11_4 C hP hb (m11 hb hL) q1383 dX12_planks_2 ?_
  refine gf9_1 C hP (show kd 60 = 9 from rfl) (hL 60 (Nat.le_of_ble_eq_true rfl) (Nat.le_of_ble_eq_true rfl)) q1321 dX12_planks_5 ?_
  refine z_ki hS (z_runV (As := [.int (gI st 60 1)]) (rest := []) C hP hS (m11 hb hL) (e11 hb) rfl (tX12_told C.2.2.2.2.2.2.1 (hL.mo (Nat.le_of_ble_eq_true rfl) (Nat.le_of_ble_eq_true rfl)) hb h) q1652 q1654 q65 q116 q1655 hdX12_told ⟨Nat.le_of_ble_eq_true rfl, Nat.le_of_ble_eq_true rfl⟩ ⟨Nat.zero_le _, Nat.zero_le _⟩ rfl hl.1 rfl (lv_room (Nat.le_of_ble_eq_true rfl)) dX12_planks_8) (fun r2 st1 H locs h hP hS => ?_)
  exact z_ri C hr hlk rfl hP hS h dX12_planks_11
def rmX12_plans : Room := { frames := 1, cells := 0, slots := 0, locals := 21 }
def wX12_plans (b : Nat) (st : St) (Q : Int32 → St → Prop) : Prop :=
  (wX12_told b (gI st 60 2) st (fun r2 st1 => Q r2 st1))
theorem hdX12_plans : yX12_plans.cls = "PlankBridgeModel" ∧ yX12_plans.cls ≠ "java/lang/invoke/MethodHandle" ∧ yX12_plans.cls ≠ "java/lang/invoke/VarHandle" ∧ (parseMethodDescriptor yX12_plans.desc).map (fun d => d.parameters.length) = some 0 := by decide +kernel
set_option maxHeartbeats 4000000 in
set_option maxRecDepth 100000 in
theorem tX12_plans {l : Launch} {E : En0} {L : List Nat} (hE : EK E L) (hL : Cov 54 67 L) {b : Nat} {st : St} {Q : Int32 → St → Prop} (hb : kd b = 11) (h : wX12_plans b st Q) : Mz l yX12_plans cX12_plans 1 (some .int) rmX12_plans E L [.ref (E.2.1 b)] st (zI E L Q) := by
  refine Mz.of hE (by decide) (Nat.le_of_ble_eq_true rfl) ?_
  intro p e s m below meth c ls C hr hlk _ hl hP
  replace C : Cx E L "PlankBridgeModel" cX12_plans 1 p s m _ c := C
  have hS : va_S (fA E L s.heap.size) s.heap s.heap [] := va_S.rf
  replace hl : lv_has ls 1 [(0, .ref (E.2.1 b))] := hl
  unfold wX12_plans at h
  refine lv_aload_n C.1 C.2.1 dX12_plans_0 rfl (lv_at hl 0 rfl) ?_
  refine lv_aload_n C.1 C.2.1 dX12_plans_1 rfl (lv_at hl 0 rfl) ?_
  refine gf11_4 C hP hb (m11 hb hL) q1383 dX12_plans_2 ?_
  refine gf9_2 C hP (show kd 60 = 9 from rfl) (hL 60 (Nat.le_of_ble_eq_true rfl) (Nat.le_of_ble_eq_true rfl)) q1324 dX12_plans_5 ?_
  refine z_ki hS (z_runV (As := [.int (gI st 60 2)]) (rest := []) C hP hS (m11 hb hL) (e11 hb) rfl (tX12_told C.2.2.2.2.2.2.1 (hL.mo (Nat.le_of_ble_eq_true rfl) (Nat.le_of_ble_eq_true rfl)) hb h) q1652 q1654 q65 q116 q1655 hdX12_told ⟨Nat.le_of_ble_eq_true rfl, Nat.le_of_ble_eq_true rfl⟩ ⟨Nat.zero_le _, Nat.zero_le _⟩ rfl hl.1 rfl (lv_room (Nat.le_of_ble_eq_true rfl)) dX12_plans_8) (fun r2 st1 H locs h hP hS => ?_)
  exact z_ri C hr hlk rfl hP hS h dX12_plans_11
def rmX12_isWalker : Room := { frames := 1, cells := 0, slots := 0, locals := 22 }
def wX12_isWalker (b : Nat) (p1 : Int32) (st : St) (Q : Int32 → St → Prop) : Prop :=
  (wX12_isIn p1 0 ((gI st 60 0) - 1) st (fun r2 st1 => Q r2 st1))
theorem hdX12_isWalker : yX12_isWalker.cls = "PlankBridgeModel" ∧ yX12_isWalker.cls ≠ "java/lang/invoke/MethodHandle" ∧ yX12_isWalker.cls ≠ "java/lang/invoke/VarHandle" ∧ (parseMethodDescriptor yX12_isWalker.desc).map (fun d => d.parameters.length) = some 1 := by decide +kernel
set_option maxHeartbeats 4000000 in
set_option maxRecDepth 100000 in
theorem tX12_isWalker {l : Launch} {E : En0} {L : List Nat} (hE : EK E L) (hL : Cov 54 67 L) {b : Nat} {p1 : Int32} {st : St} {Q : Int32 → St → Prop} (hb : kd b = 11) (h : wX12_isWalker b p1 st Q) : Mz l yX12_isWalker cX12_isWalker 2 (some .boolean) rmX12_isWalker E L [.ref (E.2.1 b), .int p1] st (zI E L (fun r u => bz r ∧ Q r u)) := by
  refine Mz.of hE (by decide) (Nat.le_of_ble_eq_true rfl) ?_
  intro p e s m below meth c ls C hr hlk _ hl hP
  replace C : Cx E L "PlankBridgeModel" cX12_isWalker 2 p s m _ c := C
  have hS : va_S (fA E L s.heap.size) s.heap s.heap [] := va_S.rf
  replace hl : lv_has ls 2 [(0, .ref (E.2.1 b)), (1, .int p1)] := hl
  unfold wX12_isWalker at h
  refine lv_iload_n C.1 C.2.1 dX12_isWalker_0 rfl (lv_at hl 1 rfl) ?_
  refine lv_iconst C.1 C.2.1 (v := 0) dX12_isWalker_1 rfl ?_
  refine lv_aload_n C.1 C.2.1 dX12_isWalker_2 rfl (lv_at hl 0 rfl) ?_
  refine gf11_4 C hP hb (m11 hb hL) q1383 dX12_isWalker_3 ?_
  refine gf9_0 C hP (show kd 60 = 9 from rfl) (hL 60 (Nat.le_of_ble_eq_true rfl) (Nat.le_of_ble_eq_true rfl)) q1320 dX12_isWalker_6 ?_
  refine lv_iconst C.1 C.2.1 (v := 1) dX12_isWalker_9 rfl ?_
  refine lv_isub C.1 C.2.1 dX12_isWalker_10  ?_
  refine z_ki hS (z_runS (As := [.int p1, .int 0, .int ((gI st 60 0) - 1)]) (rest := []) C hP hS (tX12_isIn C.2.2.2.2.2.2.1 (hL.mo (Nat.le_of_ble_eq_true rfl) (Nat.le_of_ble_eq_true rfl))  h) q1423 q1424 q116 q1425 hdX12_isIn ⟨Nat.le_of_ble_eq_true rfl, Nat.le_of_ble_eq_true rfl⟩ ⟨Nat.zero_le _, Nat.zero_le _⟩ rfl hl.1 rfl (lv_room (Nat.le_of_ble_eq_true rfl)) dX12_isWalker_11) (fun r2 st1 H locs h hP hS => ?_)
  obtain ⟨hr2, h⟩ := h
  exact z_ri C hr hlk (bz_n hr2) hP hS ⟨hr2, h⟩ dX12_isWalker_14
def rmX12_isPlank : Room := { frames := 1, cells := 0, slots := 0, locals := 22 }
def wX12_isPlank (b : Nat) (p1 : Int32) (st : St) (Q : Int32 → St → Prop) : Prop :=
  (wX12_isIn p1 0 ((gI st 60 1) - 1) st (fun r2 st1 => Q r2 st1))
theorem hdX12_isPlank : yX12_isPlank.cls = "PlankBridgeModel" ∧ yX12_isPlank.cls ≠ "java/lang/invoke/MethodHandle" ∧ yX12_isPlank.cls ≠ "java/lang/invoke/VarHandle" ∧ (parseMethodDescriptor yX12_isPlank.desc).map (fun d => d.parameters.length) = some 1 := by decide +kernel
set_option maxHeartbeats 4000000 in
set_option maxRecDepth 100000 in
theorem tX12_isPlank {l : Launch} {E : En0} {L : List Nat} (hE : EK E L) (hL : Cov 54 67 L) {b : Nat} {p1 : Int32} {st : St} {Q : Int32 → St → Prop} (hb : kd b = 11) (h : wX12_isPlank b p1 st Q) : Mz l yX12_isPlank cX12_isPlank 2 (some .boolean) rmX12_isPlank E L [.ref (E.2.1 b), .int p1] st (zI E L (fun r u => bz r ∧ Q r u)) := by
  refine Mz.of hE (by decide) (Nat.le_of_ble_eq_true rfl) ?_
  intro p e s m below meth c ls C hr hlk _ hl hP
  replace C : Cx E L "PlankBridgeModel" cX12_isPlank 2 p s m _ c := C
  have hS : va_S (fA E L s.heap.size) s.heap s.heap [] := va_S.rf
  replace hl : lv_has ls 2 [(0, .ref (E.2.1 b)), (1, .int p1)] := hl
  unfold wX12_isPlank at h
  refine lv_iload_n C.1 C.2.1 dX12_isPlank_0 rfl (lv_at hl 1 rfl) ?_
  refine lv_iconst C.1 C.2.1 (v := 0) dX12_isPlank_1 rfl ?_
  refine lv_aload_n C.1 C.2.1 dX12_isPlank_2 rfl (lv_at hl 0 rfl) ?_
  refine gf11_4 C hP hb (m11 hb hL) q1383 dX12_isPlank_3 ?_
  refine gf9_1 C hP (show kd 60 = 9 from rfl) (hL 60 (Nat.le_of_ble_eq_true rfl) (Nat.le_of_ble_eq_true rfl)) q1321 dX12_isPlank_6 ?_
  refine lv_iconst C.1 C.2.1 (v := 1) dX12_isPlank_9 rfl ?_
  refine lv_isub C.1 C.2.1 dX12_isPlank_10  ?_
  refine z_ki hS (z_runS (As := [.int p1, .int 0, .int ((gI st 60 1) - 1)]) (rest := []) C hP hS (tX12_isIn C.2.2.2.2.2.2.1 (hL.mo (Nat.le_of_ble_eq_true rfl) (Nat.le_of_ble_eq_true rfl))  h) q1423 q1424 q116 q1425 hdX12_isIn ⟨Nat.le_of_ble_eq_true rfl, Nat.le_of_ble_eq_true rfl⟩ ⟨Nat.zero_le _, Nat.zero_le _⟩ rfl hl.1 rfl (lv_room (Nat.le_of_ble_eq_true rfl)) dX12_isPlank_11) (fun r2 st1 H locs h hP hS => ?_)
  obtain ⟨hr2, h⟩ := h
  exact z_ri C hr hlk (bz_n hr2) hP hS ⟨hr2, h⟩ dX12_isPlank_14
def rmX12_isPlan : Room := { frames := 1, cells := 0, slots := 0, locals := 22 }
def wX12_isPlan (b : Nat) (p1 : Int32) (st : St) (Q : Int32 → St → Prop) : Prop :=
  (wX12_isIn p1 0 ((gI st 60 2) - 1) st (fun r2 st1 => Q r2 st1))
theorem hdX12_isPlan : yX12_isPlan.cls = "PlankBridgeModel" ∧ yX12_isPlan.cls ≠ "java/lang/invoke/MethodHandle" ∧ yX12_isPlan.cls ≠ "java/lang/invoke/VarHandle" ∧ (parseMethodDescriptor yX12_isPlan.desc).map (fun d => d.parameters.length) = some 1 := by decide +kernel
set_option maxHeartbeats 4000000 in
set_option maxRecDepth 100000 in
theorem tX12_isPlan {l : Launch} {E : En0} {L : List Nat} (hE : EK E L) (hL : Cov 54 67 L) {b : Nat} {p1 : Int32} {st : St} {Q : Int32 → St → Prop} (hb : kd b = 11) (h : wX12_isPlan b p1 st Q) : Mz l yX12_isPlan cX12_isPlan 2 (some .boolean) rmX12_isPlan E L [.ref (E.2.1 b), .int p1] st (zI E L (fun r u => bz r ∧ Q r u)) := by
  refine Mz.of hE (by decide) (Nat.le_of_ble_eq_true rfl) ?_
  intro p e s m below meth c ls C hr hlk _ hl hP
  replace C : Cx E L "PlankBridgeModel" cX12_isPlan 2 p s m _ c := C
  have hS : va_S (fA E L s.heap.size) s.heap s.heap [] := va_S.rf
  replace hl : lv_has ls 2 [(0, .ref (E.2.1 b)), (1, .int p1)] := hl
  unfold wX12_isPlan at h
  refine lv_iload_n C.1 C.2.1 dX12_isPlan_0 rfl (lv_at hl 1 rfl) ?_
  refine lv_iconst C.1 C.2.1 (v := 0) dX12_isPlan_1 rfl ?_
  refine lv_aload_n C.1 C.2.1 dX12_isPlan_2 rfl (lv_at hl 0 rfl) ?_
  refine gf11_4 C hP hb (m11 hb hL) q1383 dX12_isPlan_3 ?_
  refine gf9_2 C hP (show kd 60 = 9 from rfl) (hL 60 (Nat.le_of_ble_eq_true rfl) (Nat.le_of_ble_eq_true rfl)) q1324 dX12_isPlan_6 ?_
  refine lv_iconst C.1 C.2.1 (v := 1) dX12_isPlan_9 rfl ?_
  refine lv_isub C.1 C.2.1 dX12_isPlan_10  ?_
  refine z_ki hS (z_runS (As := [.int p1, .int 0, .int ((gI st 60 2) - 1)]) (rest := []) C hP hS (tX12_isIn C.2.2.2.2.2.2.1 (hL.mo (Nat.le_of_ble_eq_true rfl) (Nat.le_of_ble_eq_true rfl))  h) q1423 q1424 q116 q1425 hdX12_isIn ⟨Nat.le_of_ble_eq_true rfl, Nat.le_of_ble_eq_true rfl⟩ ⟨Nat.zero_le _, Nat.zero_le _⟩ rfl hl.1 rfl (lv_room (Nat.le_of_ble_eq_true rfl)) dX12_isPlan_11) (fun r2 st1 H locs h hP hS => ?_)
  obtain ⟨hr2, h⟩ := h
  exact z_ri C hr hlk (bz_n hr2) hP hS ⟨hr2, h⟩ dX12_isPlan_14
def rmX12_weightOf : Room := { frames := 2, cells := 0, slots := 0, locals := 43 }
def wX12_weightOf (b : Nat) (p1 : Int32) (st : St) (Q : Int32 → St → Prop) : Prop :=
  (∀ st1, st1 = uI st b 0 0 → (wX12_isWalker b p1 st1 (fun r3 st2 => ((r3 = 0 → (wX12_fail b 1 st2 (fun r5 st4 => Q r5 st4))) ∧ (¬ r3 = 0 → (vp_in p1 9 ∧ Q (gI st2 61 (p1 : Int32).toNatClampNeg) st2))))))
theorem hdX12_weightOf : yX12_weightOf.cls = "PlankBridgeModel" ∧ yX12_weightOf.cls ≠ "java/lang/invoke/MethodHandle" ∧ yX12_weightOf.cls ≠ "java/lang/invoke/VarHandle" ∧ (parseMethodDescriptor yX12_weightOf.desc).map (fun d => d.parameters.length) = some 1 := by decide +kernel
set_option maxHeartbeats 4000000 in
set_option maxRecDepth 100000 in
theorem tX12_weightOf {l : Launch} {E : En0} {L : List Nat} (hE : EK E L) (hL : Cov 54 67 L) {b : Nat} {p1 : Int32} {st : St} {Q : Int32 → St → Prop} (hb : kd b = 11) (h : wX12_weightOf b p1 st Q) : Mz l yX12_weightOf cX12_weightOf 2 (some .int) rmX12_weightOf E L [.ref (E.2.1 b), .int p1] st (zI E L Q) := by
  refine Mz.of hE (by decide) (Nat.le_of_ble_eq_true rfl) ?_
  intro p e s m below meth c ls C hr hlk _ hl hP
  replace C : Cx E L "PlankBridgeModel" cX12_weightOf 2 p s m _ c := C
  have hS : va_S (fA E L s.heap.size) s.heap s.heap [] := va_S.rf
  replace hl : lv_has ls 2 [(0, .ref (E.2.1 b)), (1, .int p1)] := hl
  unfold wX12_weightOf at h
  refine lv_aload_n C.1 C.2.1 dX12_weightOf_0 rfl (lv_at hl 0 rfl) ?_
  refine lv_iconst C.1 C.2.1 (v := 0) dX12_weightOf_1 rfl ?_
  refine pf11_0 C hP hS hb (m11 hb hL) q1377 dX12_weightOf_2 (fun H locs hP hS => ?_)
  obtain ⟨st1, est1⟩ : ∃ z, z = uI st b 0 0 := ⟨_, rfl⟩
  rw [← est1] at hP; have h := h st1 est1
  refine lv_aload_n C.1 C.2.1 dX12_weightOf_5 rfl (lv_at hl 0 rfl) ?_
  refine lv_iload_n C.1 C.2.1 dX12_weightOf_6 rfl (lv_at hl 1 rfl) ?_
  refine z_ki hS (z_runV (As := [.int p1]) (rest := []) C hP hS (m11 hb hL) (e11 hb) rfl (tX12_isWalker C.2.2.2.2.2.2.1 (hL.mo (Nat.le_of_ble_eq_true rfl) (Nat.le_of_ble_eq_true rfl)) hb h) q1672 q1674 q66 q116 q1675 hdX12_isWalker ⟨Nat.le_of_ble_eq_true rfl, Nat.le_of_ble_eq_true rfl⟩ ⟨Nat.zero_le _, Nat.zero_le _⟩ rfl hl.1 rfl (lv_room (Nat.le_of_ble_eq_true rfl)) dX12_weightOf_7) (fun r3 st2 H locs h hP hS => ?_)
  obtain ⟨hr3, h⟩ := h
  refine lv_if_eq C.1 C.2.1 (tgt := 25) dX12_weightOf_10 (by decide) (fun hc => ?_) (fun hc => ?_)
  · have h := h.1 hc
    refine lv_aload_n C.1 C.2.1 dX12_weightOf_25 rfl (lv_at hl 0 rfl) ?_
    refine lv_iconst C.1 C.2.1 (v := 1) dX12_weightOf_26 rfl ?_
    refine z_ki hS (z_runV (As := [.int 1]) (rest := []) C hP hS (m11 hb hL) (e11 hb) rfl (tX12_fail C.2.2.2.2.2.2.1 (hL.mo (Nat.le_of_ble_eq_true rfl) (Nat.le_of_ble_eq_true rfl)) hb h) q1415 q1417 q40 q116 q1418 hdX12_fail ⟨Nat.le_of_ble_eq_true rfl, Nat.le_of_ble_eq_true rfl⟩ ⟨Nat.zero_le _, Nat.zero_le _⟩ rfl hl.1 rfl (lv_room (Nat.le_of_ble_eq_true rfl)) dX12_weightOf_27) (fun r5 st4 H locs h hP hS => ?_)
    exact z_ri C hr hlk rfl hP hS h dX12_weightOf_30
  · have h := h.2 hc
    refine lv_aload_n C.1 C.2.1 dX12_weightOf_13 rfl (lv_at hl 0 rfl) ?_
    refine gf11_4 C hP hb (m11 hb hL) q1383 dX12_weightOf_14 ?_
    refine gf9_4 C hP (show kd 60 = 9 from rfl) (hL 60 (Nat.le_of_ble_eq_true rfl) (Nat.le_of_ble_eq_true rfl)) q1328 dX12_weightOf_17 ?_
    refine lv_iload_n C.1 C.2.1 dX12_weightOf_20 rfl (lv_at hl 1 rfl) ?_
    obtain ⟨hi, h⟩ := h
    refine z_iald C hP (show kd 61 = 20 from rfl) (show ln 61 = 9 from rfl) (hL 61 (Nat.le_of_ble_eq_true rfl) (Nat.le_of_ble_eq_true rfl)) hi dX12_weightOf_21 ?_
    refine lv_goto C.1 C.2.1 (tgt := 30) dX12_weightOf_22 (by decide) ?_
    exact z_ri C hr hlk rfl hP hS h dX12_weightOf_30
def rmX12_minutesOf : Room := { frames := 2, cells := 0, slots := 0, locals := 43 }
def wX12_minutesOf (b : Nat) (p1 : Int32) (st : St) (Q : Int32 → St → Prop) : Prop :=
  (∀ st1, st1 = uI st b 0 0 → (wX12_isWalker b p1 st1 (fun r3 st2 => ((r3 = 0 → (wX12_fail b 1 st2 (fun r5 st4 => Q r5 st4))) ∧ (¬ r3 = 0 → (vp_in p1 9 ∧ Q (gI st2 62 (p1 : Int32).toNatClampNeg) st2))))))
theorem hdX12_minutesOf : yX12_minutesOf.cls = "PlankBridgeModel" ∧ yX12_minutesOf.cls ≠ "java/lang/invoke/MethodHandle" ∧ yX12_minutesOf.cls ≠ "java/lang/invoke/VarHandle" ∧ (parseMethodDescriptor yX12_minutesOf.desc).map (fun d => d.parameters.length) = some 1 := by decide +kernel
set_option maxHeartbeats 4000000 in
set_option maxRecDepth 100000 in
theorem tX12_minutesOf {l : Launch} {E : En0} {L : List Nat} (hE : EK E L) (hL : Cov 54 67 L) {b : Nat} {p1 : Int32} {st : St} {Q : Int32 → St → Prop} (hb : kd b = 11) (h : wX12_minutesOf b p1 st Q) : Mz l yX12_minutesOf cX12_minutesOf 2 (some .int) rmX12_minutesOf E L [.ref (E.2.1 b), .int p1] st (zI E L Q) := by
  refine Mz.of hE (by decide) (Nat.le_of_ble_eq_true rfl) ?_
  intro p e s m below meth c ls C hr hlk _ hl hP
  replace C : Cx E L "PlankBridgeModel" cX12_minutesOf 2 p s m _ c := C
  have hS : va_S (fA E L s.heap.size) s.heap s.heap [] := va_S.rf
  replace hl : lv_has ls 2 [(0, .ref (E.2.1 b)), (1, .int p1)] := hl
  unfold wX12_minutesOf at h
  refine lv_aload_n C.1 C.2.1 dX12_minutesOf_0 rfl (lv_at hl 0 rfl) ?_
  refine lv_iconst C.1 C.2.1 (v := 0) dX12_minutesOf_1 rfl ?_
  refine pf11_0 C hP hS hb (m11 hb hL) q1377 dX12_minutesOf_2 (fun H locs hP hS => ?_)
  obtain ⟨st1, est1⟩ : ∃ z, z = uI st b 0 0 := ⟨_, rfl⟩
  rw [← est1] at hP; have h := h st1 est1
  refine lv_aload_n C.1 C.2.1 dX12_minutesOf_5 rfl (lv_at hl 0 rfl) ?_
  refine lv_iload_n C.1 C.2.1 dX12_minutesOf_6 rfl (lv_at hl 1 rfl) ?_
  refine z_ki hS (z_runV (As := [.int p1]) (rest := []) C hP hS (m11 hb hL) (e11 hb) rfl (tX12_isWalker C.2.2.2.2.2.2.1 (hL.mo (Nat.le_of_ble_eq_true rfl) (Nat.le_of_ble_eq_true rfl)) hb h) q1672 q1674 q66 q116 q1675 hdX12_isWalker ⟨Nat.le_of_ble_eq_true rfl, Nat.le_of_ble_eq_true rfl⟩ ⟨Nat.zero_le _, Nat.zero_le _⟩ rfl hl.1 rfl (lv_room (Nat.le_of_ble_eq_true rfl)) dX12_minutesOf_7) (fun r3 st2 H locs h hP hS => ?_)
  obtain ⟨hr3, h⟩ := h
  refine lv_if_eq C.1 C.2.1 (tgt := 25) dX12_minutesOf_10 (by decide) (fun hc => ?_) (fun hc => ?_)
  · have h := h.1 hc
    refine lv_aload_n C.1 C.2.1 dX12_minutesOf_25 rfl (lv_at hl 0 rfl) ?_
    refine lv_iconst C.1 C.2.1 (v := 1) dX12_minutesOf_26 rfl ?_
    refine z_ki hS (z_runV (As := [.int 1]) (rest := []) C hP hS (m11 hb hL) (e11 hb) rfl (tX12_fail C.2.2.2.2.2.2.1 (hL.mo (Nat.le_of_ble_eq_true rfl) (Nat.le_of_ble_eq_true rfl)) hb h) q1415 q1417 q40 q116 q1418 hdX12_fail ⟨Nat.le_of_ble_eq_true rfl, Nat.le_of_ble_eq_true rfl⟩ ⟨Nat.zero_le _, Nat.zero_le _⟩ rfl hl.1 rfl (lv_room (Nat.le_of_ble_eq_true rfl)) dX12_minutesOf_27) (fun r5 st4 H locs h hP hS => ?_)
    exact z_ri C hr hlk rfl hP hS h dX12_minutesOf_30
  · have h := h.2 hc
    refine lv_aload_n C.1 C.2.1 dX12_minutesOf_13 rfl (lv_at hl 0 rfl) ?_
    refine gf11_4 C hP hb (m11 hb hL) q1383 dX12_minutesOf_14 ?_
    refine gf9_5 C hP (show kd 60 = 9 from rfl) (hL 60 (Nat.le_of_ble_eq_true rfl) (Nat.le_of_ble_eq_true rfl)) q1331 dX12_minutesOf_17 ?_
    refine lv_iload_n C.1 C.2.1 dX12_minutesOf_20 rfl (lv_at hl 1 rfl) ?_
    obtain ⟨hi, h⟩ := h
    refine z_iald C hP (show kd 62 = 20 from rfl) (show ln 62 = 9 from rfl) (hL 62 (Nat.le_of_ble_eq_true rfl) (Nat.le_of_ble_eq_true rfl)) hi dX12_minutesOf_21 ?_
    refine lv_goto C.1 C.2.1 (tgt := 30) dX12_minutesOf_22 (by decide) ?_
    exact z_ri C hr hlk rfl hP hS h dX12_minutesOf_30
def rmX12_isNear : Room := { frames := 2, cells := 0, slots := 0, locals := 43 }
def wX12_isNear (b : Nat) (p1 : Int32) (st : St) (Q : Int32 → St → Prop) : Prop :=
  (∀ st1, st1 = uI st b 0 0 → (wX12_isWalker b p1 st1 (fun r3 st2 => ((r3 = 0 → (wX12_failed b 1 st2 (fun r5 st4 => Q r5 st4))) ∧ (¬ r3 = 0 → (vp_in ((8 : Int32) + p1) 50 ∧ ((¬ (gI st2 (b + 2) ((8 : Int32) + p1 : Int32).toNatClampNeg) = 0 → Q 0 st2) ∧ ((gI st2 (b + 2) ((8 : Int32) + p1 : Int32).toNatClampNeg) = 0 → Q 1 st2))))))))
theorem hdX12_isNear : yX12_isNear.cls = "PlankBridgeModel" ∧ yX12_isNear.cls ≠ "java/lang/invoke/MethodHandle" ∧ yX12_isNear.cls ≠ "java/lang/invoke/VarHandle" ∧ (parseMethodDescriptor yX12_isNear.desc).map (fun d => d.parameters.length) = some 1 := by decide +kernel
set_option maxHeartbeats 4000000 in
set_option maxRecDepth 100000 in
theorem tX12_isNear {l : Launch} {E : En0} {L : List Nat} (hE : EK E L) (hL : Cov 54 67 L) {b : Nat} {p1 : Int32} {st : St} {Q : Int32 → St → Prop} (hb : kd b = 11) (h : wX12_isNear b p1 st Q) : Mz l yX12_isNear cX12_isNear 2 (some .boolean) rmX12_isNear E L [.ref (E.2.1 b), .int p1] st (zI E L (fun r u => bz r ∧ Q r u)) := by
  refine Mz.of hE (by decide) (Nat.le_of_ble_eq_true rfl) ?_
  intro p e s m below meth c ls C hr hlk _ hl hP
  replace C : Cx E L "PlankBridgeModel" cX12_isNear 2 p s m _ c := C
  have hS : va_S (fA E L s.heap.size) s.heap s.heap [] := va_S.rf
  replace hl : lv_has ls 2 [(0, .ref (E.2.1 b)), (1, .int p1)] := hl
  unfold wX12_isNear at h
  refine lv_aload_n C.1 C.2.1 dX12_isNear_0 rfl (lv_at hl 0 rfl) ?_
  refine lv_iconst C.1 C.2.1 (v := 0) dX12_isNear_1 rfl ?_
  refine pf11_0 C hP hS hb (m11 hb hL) q1377 dX12_isNear_2 (fun H locs hP hS => ?_)
  obtain ⟨st1, est1⟩ : ∃ z, z = uI st b 0 0 := ⟨_, rfl⟩
  rw [← est1] at hP; have h := h st1 est1
  refine lv_aload_n C.1 C.2.1 dX12_isNear_5 rfl (lv_at hl 0 rfl) ?_
  refine lv_iload_n C.1 C.2.1 dX12_isNear_6 rfl (lv_at hl 1 rfl) ?_
  refine z_ki hS (z_runV (As := [.int p1]) (rest := []) C hP hS (m11 hb hL) (e11 hb) rfl (tX12_isWalker C.2.2.2.2.2.2.1 (hL.mo (Nat.le_of_ble_eq_true rfl) (Nat.le_of_ble_eq_true rfl)) hb h) q1672 q1674 q66 q116 q1675 hdX12_isWalker ⟨Nat.le_of_ble_eq_true rfl, Nat.le_of_ble_eq_true rfl⟩ ⟨Nat.zero_le _, Nat.zero_le _⟩ rfl hl.1 rfl (lv_room (Nat.le_of_ble_eq_true rfl)) dX12_isNear_7) (fun r3 st2 H locs h hP hS => ?_)
  obtain ⟨hr3, h⟩ := h
  refine lv_if_eq C.1 C.2.1 (tgt := 33) dX12_isNear_10 (by decide) (fun hc => ?_) (fun hc => ?_)
  · have h := h.1 hc
    refine lv_aload_n C.1 C.2.1 dX12_isNear_33 rfl (lv_at hl 0 rfl) ?_
    refine lv_iconst C.1 C.2.1 (v := 1) dX12_isNear_34 rfl ?_
    refine z_ki hS (z_runV (As := [.int 1]) (rest := []) C hP hS (m11 hb hL) (e11 hb) rfl (tX12_failed C.2.2.2.2.2.2.1 (hL.mo (Nat.le_of_ble_eq_true rfl) (Nat.le_of_ble_eq_true rfl)) hb h) q1684 q1686 q67 q116 q1687 hdX12_failed ⟨Nat.le_of_ble_eq_true rfl, Nat.le_of_ble_eq_true rfl⟩ ⟨Nat.zero_le _, Nat.zero_le _⟩ rfl hl.1 rfl (lv_room (Nat.le_of_ble_eq_true rfl)) dX12_isNear_35) (fun r5 st4 H locs h hP hS => ?_)
    obtain ⟨hr5, h⟩ := h
    exact z_ri C hr hlk (bz_n hr5) hP hS ⟨hr5, h⟩ dX12_isNear_38
  · have h := h.2 hc
    refine lv_aload_n C.1 C.2.1 dX12_isNear_13 rfl (lv_at hl 0 rfl) ?_
    refine gf11_5 C hP hb (m11 hb hL) q1384 dX12_isNear_14 ?_
    refine lv_bipush C.1 C.2.1 (v := 8) dX12_isNear_17 rfl ?_
    refine lv_iload_n C.1 C.2.1 dX12_isNear_19 rfl (lv_at hl 1 rfl) ?_
    refine lv_iadd C.1 C.2.1 dX12_isNear_20  ?_
    obtain ⟨hi, h⟩ := h
    refine z_iald C hP (k11_2 hb) (l11_2 hb) (m11_2 hb hL) hi dX12_isNear_21 ?_
    refine lv_if_ne C.1 C.2.1 (tgt := 29) dX12_isNear_22 (by decide) (fun hc => ?_) (fun hc => ?_)
    · have h := h.1 hc
      refine lv_iconst C.1 C.2.1 (v := 0) dX12_isNear_29 rfl ?_
      refine lv_goto C.1 C.2.1 (tgt := 38) dX12_isNear_30 (by decide) ?_
      exact z_ri C hr hlk (bz_n bz0) hP hS ⟨bz0, h⟩ dX12_isNear_38
    · have h := h.2 hc
      refine lv_iconst C.1 C.2.1 (v := 1) dX12_isNear_25 rfl ?_
      refine lv_goto C.1 C.2.1 (tgt := 38) dX12_isNear_26 (by decide) ?_
      exact z_ri C hr hlk (bz_n bz1) hP hS ⟨bz1, h⟩ dX12_isNear_38
def rmX12_walkersNear : Room := { frames := 1, cells := 0, slots := 0, locals := 22 }
def wX12_walkersNear (b : Nat) (st : St) (Q : Int32 → St → Prop) : Prop :=
  (wX12_near b st (fun r2 st1 => (wX12_told b r2 st1 (fun r4 st3 => Q r4 st3))))
theorem hdX12_walkersNear : yX12_walkersNear.cls = "PlankBridgeModel" ∧ yX12_walkersNear.cls ≠ "java/lang/invoke/MethodHandle" ∧ yX12_walkersNear.cls ≠ "java/lang/invoke/VarHandle" ∧ (parseMethodDescriptor yX12_walkersNear.desc).map (fun d => d.parameters.length) = some 0 := by decide +kernel
set_option maxHeartbeats 4000000 in
set_option maxRecDepth 100000 in
theorem tX12_walkersNear {l : Launch} {E : En0} {L : List Nat} (hE : EK E L) (hL : Cov 54 67 L) {b : Nat} {st : St} {Q : Int32 → St → Prop} (hb : kd b = 11) (h : wX12_walkersNear b st Q) : Mz l yX12_walkersNear cX12_walkersNear 1 (some .int) rmX12_walkersNear E L [.ref (E.2.1 b)] st (zI E L Q) := by
  refine Mz.of hE (by decide) (Nat.le_of_ble_eq_true rfl) ?_
  intro p e s m below meth c ls C hr hlk _ hl hP
  replace C : Cx E L "PlankBridgeModel" cX12_walkersNear 1 p s m _ c := C
  have hS : va_S (fA E L s.heap.size) s.heap s.heap [] := va_S.rf
  replace hl : lv_has ls 1 [(0, .ref (E.2.1 b))] := hl
  unfold wX12_walkersNear at h
  refine lv_aload_n C.1 C.2.1 dX12_walkersNear_0 rfl (lv_at hl 0 rfl) ?_
  refine lv_aload_n C.1 C.2.1 dX12_walkersNear_1 rfl (lv_at hl 0 rfl) ?_
  refine z_ki hS (z_runV (As := []) (rest := [.ref (E.2.1 b)]) C hP hS (m11 hb hL) (e11 hb) rfl (tX12_near C.2.2.2.2.2.2.1 (hL.mo (Nat.le_of_ble_eq_true rfl) (Nat.le_of_ble_eq_true rfl)) hb h) q1692 q1694 q68 q116 q1695 hdX12_near ⟨Nat.le_of_ble_eq_true rfl, Nat.le_of_ble_eq_true rfl⟩ ⟨Nat.zero_le _, Nat.zero_le _⟩ rfl hl.1 rfl (lv_room (Nat.le_of_ble_eq_true rfl)) dX12_walkersNear_2) (fun r2 st1 H locs h hP hS => ?_)
  refine z_ki hS (z_runV (As := [.int r2]) (rest := []) C hP hS (m11 hb hL) (e11 hb) rfl (tX12_told C.2.2.2.2.2.2.1 (hL.mo (Nat.le_of_ble_eq_true rfl) (Nat.le_of_ble_eq_true rfl)) hb h) q1652 q1654 q65 q116 q1655 hdX12_told ⟨Nat.le_of_ble_eq_true rfl, Nat.le_of_ble_eq_true rfl⟩ ⟨Nat.zero_le _, Nat.zero_le _⟩ rfl hl.1 rfl (lv_room (Nat.le_of_ble_eq_true rfl)) dX12_walkersNear_5) (fun r4 st3 H locs h hP hS => ?_)
  exact z_ri C hr hlk rfl hP hS h dX12_walkersNear_8
def rmX12_strengthOf : Room := { frames := 2, cells := 0, slots := 0, locals := 43 }
def wX12_strengthOf (b : Nat) (p1 : Int32) (st : St) (Q : Int32 → St → Prop) : Prop :=
  (∀ st1, st1 = uI st b 0 0 → (wX12_isPlank b p1 st1 (fun r3 st2 => ((r3 = 0 → (wX12_fail b 1 st2 (fun r5 st4 => Q r5 st4))) ∧ (¬ r3 = 0 → (vp_in ((16 : Int32) + p1) 50 ∧ Q (gI st2 (b + 2) ((16 : Int32) + p1 : Int32).toNatClampNeg) st2))))))
theorem hdX12_strengthOf : yX12_strengthOf.cls = "PlankBridgeModel" ∧ yX12_strengthOf.cls ≠ "java/lang/invoke/MethodHandle" ∧ yX12_strengthOf.cls ≠ "java/lang/invoke/VarHandle" ∧ (parseMethodDescriptor yX12_strengthOf.desc).map (fun d => d.parameters.length) = some 1 := by decide +kernel
set_option maxHeartbeats 4000000 in
set_option maxRecDepth 100000 in
theorem tX12_strengthOf {l : Launch} {E : En0} {L : List Nat} (hE : EK E L) (hL : Cov 54 67 L) {b : Nat} {p1 : Int32} {st : St} {Q : Int32 → St → Prop} (hb : kd b = 11) (h : wX12_strengthOf b p1 st Q) : Mz l yX12_strengthOf cX12_strengthOf 2 (some .int) rmX12_strengthOf E L [.ref (E.2.1 b), .int p1] st (zI E L Q) := by
  refine Mz.of hE (by decide) (Nat.le_of_ble_eq_true rfl) ?_
  intro p e s m below meth c ls C hr hlk _ hl hP
  replace C : Cx E L "PlankBridgeModel" cX12_strengthOf 2 p s m _ c := C
  have hS : va_S (fA E L s.heap.size) s.heap s.heap [] := va_S.rf
  replace hl : lv_has ls 2 [(0, .ref (E.2.1 b)), (1, .int p1)] := hl
  unfold wX12_strengthOf at h
  refine lv_aload_n C.1 C.2.1 dX12_strengthOf_0 rfl (lv_at hl 0 rfl) ?_
  refine lv_iconst C.1 C.2.1 (v := 0) dX12_strengthOf_1 rfl ?_
  refine pf11_0 C hP hS hb (m11 hb hL) q1377 dX12_strengthOf_2 (fun H locs hP hS => ?_)
  obtain ⟨st1, est1⟩ : ∃ z, z = uI st b 0 0 := ⟨_, rfl⟩
  rw [← est1] at hP; have h := h st1 est1
  refine lv_aload_n C.1 C.2.1 dX12_strengthOf_5 rfl (lv_at hl 0 rfl) ?_
  refine lv_iload_n C.1 C.2.1 dX12_strengthOf_6 rfl (lv_at hl 1 rfl) ?_
  refine z_ki hS (z_runV (As := [.int p1]) (rest := []) C hP hS (m11 hb hL) (e11 hb) rfl (tX12_isPlank C.2.2.2.2.2.2.1 (hL.mo (Nat.le_of_ble_eq_true rfl) (Nat.le_of_ble_eq_true rfl)) hb h) q1700 q1702 q69 q116 q1703 hdX12_isPlank ⟨Nat.le_of_ble_eq_true rfl, Nat.le_of_ble_eq_true rfl⟩ ⟨Nat.zero_le _, Nat.zero_le _⟩ rfl hl.1 rfl (lv_room (Nat.le_of_ble_eq_true rfl)) dX12_strengthOf_7) (fun r3 st2 H locs h hP hS => ?_)
  obtain ⟨hr3, h⟩ := h
  refine lv_if_eq C.1 C.2.1 (tgt := 25) dX12_strengthOf_10 (by decide) (fun hc => ?_) (fun hc => ?_)
  · have h := h.1 hc
    refine lv_aload_n C.1 C.2.1 dX12_strengthOf_25 rfl (lv_at hl 0 rfl) ?_
    refine lv_iconst C.1 C.2.1 (v := 1) dX12_strengthOf_26 rfl ?_
    refine z_ki hS (z_runV (As := [.int 1]) (rest := []) C hP hS (m11 hb hL) (e11 hb) rfl (tX12_fail C.2.2.2.2.2.2.1 (hL.mo (Nat.le_of_ble_eq_true rfl) (Nat.le_of_ble_eq_true rfl)) hb h) q1415 q1417 q40 q116 q1418 hdX12_fail ⟨Nat.le_of_ble_eq_true rfl, Nat.le_of_ble_eq_true rfl⟩ ⟨Nat.zero_le _, Nat.zero_le _⟩ rfl hl.1 rfl (lv_room (Nat.le_of_ble_eq_true rfl)) dX12_strengthOf_27) (fun r5 st4 H locs h hP hS => ?_)
    exact z_ri C hr hlk rfl hP hS h dX12_strengthOf_30
  · have h := h.2 hc
    refine lv_aload_n C.1 C.2.1 dX12_strengthOf_13 rfl (lv_at hl 0 rfl) ?_
    refine gf11_5 C hP hb (m11 hb hL) q1384 dX12_strengthOf_14 ?_
    refine lv_bipush C.1 C.2.1 (v := 16) dX12_strengthOf_17 rfl ?_
    refine lv_iload_n C.1 C.2.1 dX12_strengthOf_19 rfl (lv_at hl 1 rfl) ?_
    refine lv_iadd C.1 C.2.1 dX12_strengthOf_20  ?_
    obtain ⟨hi, h⟩ := h
    refine z_iald C hP (k11_2 hb) (l11_2 hb) (m11_2 hb hL) hi dX12_strengthOf_21 ?_
    refine lv_goto C.1 C.2.1 (tgt := 30) dX12_strengthOf_22 (by decide) ?_
    exact z_ri C hr hlk rfl hP hS h dX12_strengthOf_30
def rmX12_bears : Room := { frames := 2, cells := 0, slots := 0, locals := 43 }
def wX12_bears (b : Nat) (p1 : Int32) (st : St) (Q : Int32 → St → Prop) : Prop :=
  (∀ st1, st1 = uI st b 0 0 → (wX12_isPlank b p1 st1 (fun r3 st2 => ((r3 = 0 → (wX12_fail b 1 st2 (fun r5 st4 => Q r5 st4))) ∧ (¬ r3 = 0 → (wX12_bear b p1 st2 (fun r7 st6 => Q r7 st6)))))))
theorem hdX12_bears : yX12_bears.cls = "PlankBridgeModel" ∧ yX12_bears.cls ≠ "java/lang/invoke/MethodHandle" ∧ yX12_bears.cls ≠ "java/lang/invoke/VarHandle" ∧ (parseMethodDescriptor yX12_bears.desc).map (fun d => d.parameters.length) = some 1 := by decide +kernel
set_option maxHeartbeats 4000000 in
set_option maxRecDepth 100000 in
theorem tX12_bears {l : Launch} {E : En0} {L : List Nat} (hE : EK E L) (hL : Cov 54 67 L) {b : Nat} {p1 : Int32} {st : St} {Q : Int32 → St → Prop} (hb : kd b = 11) (h : wX12_bears b p1 st Q) : Mz l yX12_bears cX12_bears 2 (some .int) rmX12_bears E L [.ref (E.2.1 b), .int p1] st (zI E L Q) := by
  refine Mz.of hE (by decide) (Nat.le_of_ble_eq_true rfl) ?_
  intro p e s m below meth c ls C hr hlk _ hl hP
  replace C : Cx E L "PlankBridgeModel" cX12_bears 2 p s m _ c := C
  have hS : va_S (fA E L s.heap.size) s.heap s.heap [] := va_S.rf
  replace hl : lv_has ls 2 [(0, .ref (E.2.1 b)), (1, .int p1)] := hl
  unfold wX12_bears at h
  refine lv_aload_n C.1 C.2.1 dX12_bears_0 rfl (lv_at hl 0 rfl) ?_
  refine lv_iconst C.1 C.2.1 (v := 0) dX12_bears_1 rfl ?_
  refine pf11_0 C hP hS hb (m11 hb hL) q1377 dX12_bears_2 (fun H locs hP hS => ?_)
  obtain ⟨st1, est1⟩ : ∃ z, z = uI st b 0 0 := ⟨_, rfl⟩
  rw [← est1] at hP; have h := h st1 est1
  refine lv_aload_n C.1 C.2.1 dX12_bears_5 rfl (lv_at hl 0 rfl) ?_
  refine lv_iload_n C.1 C.2.1 dX12_bears_6 rfl (lv_at hl 1 rfl) ?_
  refine z_ki hS (z_runV (As := [.int p1]) (rest := []) C hP hS (m11 hb hL) (e11 hb) rfl (tX12_isPlank C.2.2.2.2.2.2.1 (hL.mo (Nat.le_of_ble_eq_true rfl) (Nat.le_of_ble_eq_true rfl)) hb h) q1700 q1702 q69 q116 q1703 hdX12_isPlank ⟨Nat.le_of_ble_eq_true rfl, Nat.le_of_ble_eq_true rfl⟩ ⟨Nat.zero_le _, Nat.zero_le _⟩ rfl hl.1 rfl (lv_room (Nat.le_of_ble_eq_true rfl)) dX12_bears_7) (fun r3 st2 H locs h hP hS => ?_)
  obtain ⟨hr3, h⟩ := h
  refine lv_if_eq C.1 C.2.1 (tgt := 21) dX12_bears_10 (by decide) (fun hc => ?_) (fun hc => ?_)
  · have h := h.1 hc
    refine lv_aload_n C.1 C.2.1 dX12_bears_21 rfl (lv_at hl 0 rfl) ?_
    refine lv_iconst C.1 C.2.1 (v := 1) dX12_bears_22 rfl ?_
    refine z_ki hS (z_runV (As := [.int 1]) (rest := []) C hP hS (m11 hb hL) (e11 hb) rfl (tX12_fail C.2.2.2.2.2.2.1 (hL.mo (Nat.le_of_ble_eq_true rfl) (Nat.le_of_ble_eq_true rfl)) hb h) q1415 q1417 q40 q116 q1418 hdX12_fail ⟨Nat.le_of_ble_eq_true rfl, Nat.le_of_ble_eq_true rfl⟩ ⟨Nat.zero_le _, Nat.zero_le _⟩ rfl hl.1 rfl (lv_room (Nat.le_of_ble_eq_true rfl)) dX12_bears_23) (fun r5 st4 H locs h hP hS => ?_)
    exact z_ri C hr hlk rfl hP hS h dX12_bears_26
  · have h := h.2 hc
    refine lv_aload_n C.1 C.2.1 dX12_bears_13 rfl (lv_at hl 0 rfl) ?_
    refine lv_iload_n C.1 C.2.1 dX12_bears_14 rfl (lv_at hl 1 rfl) ?_
    refine z_ki hS (z_runV (As := [.int p1]) (rest := []) C hP hS (m11 hb hL) (e11 hb) rfl (tX12_bear C.2.2.2.2.2.2.1 (hL.mo (Nat.le_of_ble_eq_true rfl) (Nat.le_of_ble_eq_true rfl)) hb h) q1708 q1710 q70 q116 q1711 hdX12_bear ⟨Nat.le_of_ble_eq_true rfl, Nat.le_of_ble_eq_true rfl⟩ ⟨Nat.zero_le _, Nat.zero_le _⟩ rfl hl.1 rfl (lv_room (Nat.le_of_ble_eq_true rfl)) dX12_bears_15) (fun r7 st6 H locs h hP hS => ?_)
    refine lv_goto C.1 C.2.1 (tgt := 26) dX12_bears_18 (by decide) ?_
    exact z_ri C hr hlk rfl hP hS h dX12_bears_26
def rmX12_isRotten : Room := { frames := 2, cells := 0, slots := 0, locals := 43 }
def wX12_isRotten (b : Nat) (p1 : Int32) (st : St) (Q : Int32 → St → Prop) : Prop :=
  (∀ st1, st1 = uI st b 0 0 → (wX12_isPlank b p1 st1 (fun r3 st2 => ((r3 = 0 → (wX12_failed b 1 st2 (fun r5 st4 => Q r5 st4))) ∧ (¬ r3 = 0 → (vp_in ((28 : Int32) + p1) 50 ∧ ((¬ (gI st2 (b + 2) ((28 : Int32) + p1 : Int32).toNatClampNeg) = 1 → Q 0 st2) ∧ ((gI st2 (b + 2) ((28 : Int32) + p1 : Int32).toNatClampNeg) = 1 → Q 1 st2))))))))
theorem hdX12_isRotten : yX12_isRotten.cls = "PlankBridgeModel" ∧ yX12_isRotten.cls ≠ "java/lang/invoke/MethodHandle" ∧ yX12_isRotten.cls ≠ "java/lang/invoke/VarHandle" ∧ (parseMethodDescriptor yX12_isRotten.desc).map (fun d => d.parameters.length) = some 1 := by decide +kernel
set_option maxHeartbeats 4000000 in
set_option maxRecDepth 100000 in
theorem tX12_isRotten {l : Launch} {E : En0} {L : List Nat} (hE : EK E L) (hL : Cov 54 67 L) {b : Nat} {p1 : Int32} {st : St} {Q : Int32 → St → Prop} (hb : kd b = 11) (h : wX12_isRotten b p1 st Q) : Mz l yX12_isRotten cX12_isRotten 2 (some .boolean) rmX12_isRotten E L [.ref (E.2.1 b), .int p1] st (zI E L (fun r u => bz r ∧ Q r u)) := by
  refine Mz.of hE (by decide) (Nat.le_of_ble_eq_true rfl) ?_
  intro p e s m below meth c ls C hr hlk _ hl hP
  replace C : Cx E L "PlankBridgeModel" cX12_isRotten 2 p s m _ c := C
  have hS : va_S (fA E L s.heap.size) s.heap s.heap [] := va_S.rf
  replace hl : lv_has ls 2 [(0, .ref (E.2.1 b)), (1, .int p1)] := hl
  unfold wX12_isRotten at h
  refine lv_aload_n C.1 C.2.1 dX12_isRotten_0 rfl (lv_at hl 0 rfl) ?_
  refine lv_iconst C.1 C.2.1 (v := 0) dX12_isRotten_1 rfl ?_
  refine pf11_0 C hP hS hb (m11 hb hL) q1377 dX12_isRotten_2 (fun H locs hP hS => ?_)
  obtain ⟨st1, est1⟩ : ∃ z, z = uI st b 0 0 := ⟨_, rfl⟩
  rw [← est1] at hP; have h := h st1 est1
  refine lv_aload_n C.1 C.2.1 dX12_isRotten_5 rfl (lv_at hl 0 rfl) ?_
  refine lv_iload_n C.1 C.2.1 dX12_isRotten_6 rfl (lv_at hl 1 rfl) ?_
  refine z_ki hS (z_runV (As := [.int p1]) (rest := []) C hP hS (m11 hb hL) (e11 hb) rfl (tX12_isPlank C.2.2.2.2.2.2.1 (hL.mo (Nat.le_of_ble_eq_true rfl) (Nat.le_of_ble_eq_true rfl)) hb h) q1700 q1702 q69 q116 q1703 hdX12_isPlank ⟨Nat.le_of_ble_eq_true rfl, Nat.le_of_ble_eq_true rfl⟩ ⟨Nat.zero_le _, Nat.zero_le _⟩ rfl hl.1 rfl (lv_room (Nat.le_of_ble_eq_true rfl)) dX12_isRotten_7) (fun r3 st2 H locs h hP hS => ?_)
  obtain ⟨hr3, h⟩ := h
  refine lv_if_eq C.1 C.2.1 (tgt := 34) dX12_isRotten_10 (by decide) (fun hc => ?_) (fun hc => ?_)
  · have h := h.1 hc
    refine lv_aload_n C.1 C.2.1 dX12_isRotten_34 rfl (lv_at hl 0 rfl) ?_
    refine lv_iconst C.1 C.2.1 (v := 1) dX12_isRotten_35 rfl ?_
    refine z_ki hS (z_runV (As := [.int 1]) (rest := []) C hP hS (m11 hb hL) (e11 hb) rfl (tX12_failed C.2.2.2.2.2.2.1 (hL.mo (Nat.le_of_ble_eq_true rfl) (Nat.le_of_ble_eq_true rfl)) hb h) q1684 q1686 q67 q116 q1687 hdX12_failed ⟨Nat.le_of_ble_eq_true rfl, Nat.le_of_ble_eq_true rfl⟩ ⟨Nat.zero_le _, Nat.zero_le _⟩ rfl hl.1 rfl (lv_room (Nat.le_of_ble_eq_true rfl)) dX12_isRotten_36) (fun r5 st4 H locs h hP hS => ?_)
    obtain ⟨hr5, h⟩ := h
    exact z_ri C hr hlk (bz_n hr5) hP hS ⟨hr5, h⟩ dX12_isRotten_39
  · have h := h.2 hc
    refine lv_aload_n C.1 C.2.1 dX12_isRotten_13 rfl (lv_at hl 0 rfl) ?_
    refine gf11_5 C hP hb (m11 hb hL) q1384 dX12_isRotten_14 ?_
    refine lv_bipush C.1 C.2.1 (v := 28) dX12_isRotten_17 rfl ?_
    refine lv_iload_n C.1 C.2.1 dX12_isRotten_19 rfl (lv_at hl 1 rfl) ?_
    refine lv_iadd C.1 C.2.1 dX12_isRotten_20  ?_
    obtain ⟨hi, h⟩ := h
    refine z_iald C hP (k11_2 hb) (l11_2 hb) (m11_2 hb hL) hi dX12_isRotten_21 ?_
    refine lv_iconst C.1 C.2.1 (v := 1) dX12_isRotten_22 rfl ?_
    refine lv_icmp_ne C.1 C.2.1 (tgt := 30) dX12_isRotten_23 (by decide) (fun hc => ?_) (fun hc => ?_)
    · have h := h.1 hc
      refine lv_iconst C.1 C.2.1 (v := 0) dX12_isRotten_30 rfl ?_
      refine lv_goto C.1 C.2.1 (tgt := 39) dX12_isRotten_31 (by decide) ?_
      exact z_ri C hr hlk (bz_n bz0) hP hS ⟨bz0, h⟩ dX12_isRotten_39
    · have h := h.2 hc
      refine lv_iconst C.1 C.2.1 (v := 1) dX12_isRotten_26 rfl ?_
      refine lv_goto C.1 C.2.1 (tgt := 39) dX12_isRotten_27 (by decide) ?_
      exact z_ri C hr hlk (bz_n bz1) hP hS ⟨bz1, h⟩ dX12_isRotten_39
def rmX12_missingPlanks : Room := { frames := 1, cells := 0, slots := 0, locals := 22 }
def wX12_missingPlanks (b : Nat) (st : St) (Q : Int32 → St → Prop) : Prop :=
  (wX12_missing b st (fun r2 st1 => (wX12_told b r2 st1 (fun r4 st3 => Q r4 st3))))
theorem hdX12_missingPlanks : yX12_missingPlanks.cls = "PlankBridgeModel" ∧ yX12_missingPlanks.cls ≠ "java/lang/invoke/MethodHandle" ∧ yX12_missingPlanks.cls ≠ "java/lang/invoke/VarHandle" ∧ (parseMethodDescriptor yX12_missingPlanks.desc).map (fun d => d.parameters.length) = some 0 := by decide +kernel
set_option maxHeartbeats 4000000 in
set_option maxRecDepth 100000 in
theorem tX12_missingPlanks {l : Launch} {E : En0} {L : List Nat} (hE : EK E L) (hL : Cov 54 67 L) {b : Nat} {st : St} {Q : Int32 → St → Prop} (hb : kd b = 11) (h : wX12_missingPlanks b st Q) : Mz l yX12_missingPlanks cX12_missingPlanks 1 (some .int) rmX12_missingPlanks E L [.ref (E.2.1 b)] st (zI E L Q) := by
  refine Mz.of hE (by decide) (Nat.le_of_ble_eq_true rfl) ?_
  intro p e s m below meth c ls C hr hlk _ hl hP
  replace C : Cx E L "PlankBridgeModel" cX12_missingPlanks 1 p s m _ c := C
  have hS : va_S (fA E L s.heap.size) s.heap s.heap [] := va_S.rf
  replace hl : lv_has ls 1 [(0, .ref (E.2.1 b))] := hl
  unfold wX12_missingPlanks at h
  refine lv_aload_n C.1 C.2.1 dX12_missingPlanks_0 rfl (lv_at hl 0 rfl) ?_
  refine lv_aload_n C.1 C.2.1 dX12_missingPlanks_1 rfl (lv_at hl 0 rfl) ?_
  refine z_ki hS (z_runV (As := []) (rest := [.ref (E.2.1 b)]) C hP hS (m11 hb hL) (e11 hb) rfl (tX12_missing C.2.2.2.2.2.2.1 (hL.mo (Nat.le_of_ble_eq_true rfl) (Nat.le_of_ble_eq_true rfl)) hb h) q1725 q1727 q72 q116 q1728 hdX12_missing ⟨Nat.le_of_ble_eq_true rfl, Nat.le_of_ble_eq_true rfl⟩ ⟨Nat.zero_le _, Nat.zero_le _⟩ rfl hl.1 rfl (lv_room (Nat.le_of_ble_eq_true rfl)) dX12_missingPlanks_2) (fun r2 st1 H locs h hP hS => ?_)
  refine z_ki hS (z_runV (As := [.int r2]) (rest := []) C hP hS (m11 hb hL) (e11 hb) rfl (tX12_told C.2.2.2.2.2.2.1 (hL.mo (Nat.le_of_ble_eq_true rfl) (Nat.le_of_ble_eq_true rfl)) hb h) q1652 q1654 q65 q116 q1655 hdX12_told ⟨Nat.le_of_ble_eq_true rfl, Nat.le_of_ble_eq_true rfl⟩ ⟨Nat.zero_le _, Nat.zero_le _⟩ rfl hl.1 rfl (lv_room (Nat.le_of_ble_eq_true rfl)) dX12_missingPlanks_5) (fun r4 st3 H locs h hP hS => ?_)
  exact z_ri C hr hlk rfl hP hS h dX12_missingPlanks_8
def rmX12_weakestPlank : Room := { frames := 1, cells := 0, slots := 0, locals := 23 }
def wX12_weakestPlank (b : Nat) (st : St) (Q : Int32 → St → Prop) : Prop :=
  (∀ st1, st1 = uI st b 0 0 → (wX12_weakest b 0 st1 (fun r3 st2 => ((¬ r3 = (-1) → (wX12_weakest b 0 st2 (fun r5 st4 => Q r5 st4))) ∧ (r3 = (-1) → (wX12_fail b 1 st2 (fun r7 st6 => Q r7 st6)))))))
theorem hdX12_weakestPlank : yX12_weakestPlank.cls = "PlankBridgeModel" ∧ yX12_weakestPlank.cls ≠ "java/lang/invoke/MethodHandle" ∧ yX12_weakestPlank.cls ≠ "java/lang/invoke/VarHandle" ∧ (parseMethodDescriptor yX12_weakestPlank.desc).map (fun d => d.parameters.length) = some 0 := by decide +kernel
set_option maxHeartbeats 4000000 in
set_option maxRecDepth 100000 in
theorem tX12_weakestPlank {l : Launch} {E : En0} {L : List Nat} (hE : EK E L) (hL : Cov 54 67 L) {b : Nat} {st : St} {Q : Int32 → St → Prop} (hb : kd b = 11) (h : wX12_weakestPlank b st Q) : Mz l yX12_weakestPlank cX12_weakestPlank 1 (some .int) rmX12_weakestPlank E L [.ref (E.2.1 b)] st (zI E L Q) := by
  refine Mz.of hE (by decide) (Nat.le_of_ble_eq_true rfl) ?_
  intro p e s m below meth c ls C hr hlk _ hl hP
  replace C : Cx E L "PlankBridgeModel" cX12_weakestPlank 1 p s m _ c := C
  have hS : va_S (fA E L s.heap.size) s.heap s.heap [] := va_S.rf
  replace hl : lv_has ls 1 [(0, .ref (E.2.1 b))] := hl
  unfold wX12_weakestPlank at h
  refine lv_aload_n C.1 C.2.1 dX12_weakestPlank_0 rfl (lv_at hl 0 rfl) ?_
  refine lv_iconst C.1 C.2.1 (v := 0) dX12_weakestPlank_1 rfl ?_
  refine pf11_0 C hP hS hb (m11 hb hL) q1377 dX12_weakestPlank_2 (fun H locs hP hS => ?_)
  obtain ⟨st1, est1⟩ : ∃ z, z = uI st b 0 0 := ⟨_, rfl⟩
  rw [← est1] at hP; have h := h st1 est1
  refine lv_aload_n C.1 C.2.1 dX12_weakestPlank_5 rfl (lv_at hl 0 rfl) ?_
  refine lv_iconst C.1 C.2.1 (v := 0) dX12_weakestPlank_6 rfl ?_
  refine z_ki hS (z_runV (As := [.int 0]) (rest := []) C hP hS (m11 hb hL) (e11 hb) rfl (tX12_weakest C.2.2.2.2.2.2.1 (hL.mo (Nat.le_of_ble_eq_true rfl) (Nat.le_of_ble_eq_true rfl)) hb h) q1733 q1735 q73 q116 q1736 hdX12_weakest ⟨Nat.le_of_ble_eq_true rfl, Nat.le_of_ble_eq_true rfl⟩ ⟨Nat.zero_le _, Nat.zero_le _⟩ rfl hl.1 rfl (lv_room (Nat.le_of_ble_eq_true rfl)) dX12_weakestPlank_7) (fun r3 st2 H locs h hP hS => ?_)
  refine lv_iconst C.1 C.2.1 (v := (-1)) dX12_weakestPlank_10 rfl ?_
  refine lv_icmp_ne C.1 C.2.1 (tgt := 22) dX12_weakestPlank_11 (by decide) (fun hc => ?_) (fun hc => ?_)
  · have h := h.1 hc
    refine lv_aload_n C.1 C.2.1 dX12_weakestPlank_22 rfl (lv_at hl 0 rfl) ?_
    refine lv_iconst C.1 C.2.1 (v := 0) dX12_weakestPlank_23 rfl ?_
    refine z_ki hS (z_runV (As := [.int 0]) (rest := []) C hP hS (m11 hb hL) (e11 hb) rfl (tX12_weakest C.2.2.2.2.2.2.1 (hL.mo (Nat.le_of_ble_eq_true rfl) (Nat.le_of_ble_eq_true rfl)) hb h) q1733 q1735 q73 q116 q1736 hdX12_weakest ⟨Nat.le_of_ble_eq_true rfl, Nat.le_of_ble_eq_true rfl⟩ ⟨Nat.zero_le _, Nat.zero_le _⟩ rfl hl.1 rfl (lv_room (Nat.le_of_ble_eq_true rfl)) dX12_weakestPlank_24) (fun r5 st4 H locs h hP hS => ?_)
    exact z_ri C hr hlk rfl hP hS h dX12_weakestPlank_27
  · have h := h.2 hc
    refine lv_aload_n C.1 C.2.1 dX12_weakestPlank_14 rfl (lv_at hl 0 rfl) ?_
    refine lv_iconst C.1 C.2.1 (v := 1) dX12_weakestPlank_15 rfl ?_
    refine z_ki hS (z_runV (As := [.int 1]) (rest := []) C hP hS (m11 hb hL) (e11 hb) rfl (tX12_fail C.2.2.2.2.2.2.1 (hL.mo (Nat.le_of_ble_eq_true rfl) (Nat.le_of_ble_eq_true rfl)) hb h) q1415 q1417 q40 q116 q1418 hdX12_fail ⟨Nat.le_of_ble_eq_true rfl, Nat.le_of_ble_eq_true rfl⟩ ⟨Nat.zero_le _, Nat.zero_le _⟩ rfl hl.1 rfl (lv_room (Nat.le_of_ble_eq_true rfl)) dX12_weakestPlank_16) (fun r7 st6 H locs h hP hS => ?_)
    refine lv_goto C.1 C.2.1 (tgt := 27) dX12_weakestPlank_19 (by decide) ?_
    exact z_ri C hr hlk rfl hP hS h dX12_weakestPlank_27
def rmX12_isPassable : Room := { frames := 1, cells := 0, slots := 0, locals := 21 }
def wX12_isPassable (b : Nat) (st : St) (Q : Int32 → St → Prop) : Prop :=
  (wX12_canPass b st (fun r2 st1 => (wX12_toldIs b r2 st1 (fun r4 st3 => Q r4 st3))))
theorem hdX12_isPassable : yX12_isPassable.cls = "PlankBridgeModel" ∧ yX12_isPassable.cls ≠ "java/lang/invoke/MethodHandle" ∧ yX12_isPassable.cls ≠ "java/lang/invoke/VarHandle" ∧ (parseMethodDescriptor yX12_isPassable.desc).map (fun d => d.parameters.length) = some 0 := by decide +kernel
set_option maxHeartbeats 4000000 in
set_option maxRecDepth 100000 in
theorem tX12_isPassable {l : Launch} {E : En0} {L : List Nat} (hE : EK E L) (hL : Cov 54 67 L) {b : Nat} {st : St} {Q : Int32 → St → Prop} (hb : kd b = 11) (h : wX12_isPassable b st Q) : Mz l yX12_isPassable cX12_isPassable 1 (some .boolean) rmX12_isPassable E L [.ref (E.2.1 b)] st (zI E L (fun r u => bz r ∧ Q r u)) := by
  refine Mz.of hE (by decide) (Nat.le_of_ble_eq_true rfl) ?_
  intro p e s m below meth c ls C hr hlk _ hl hP
  replace C : Cx E L "PlankBridgeModel" cX12_isPassable 1 p s m _ c := C
  have hS : va_S (fA E L s.heap.size) s.heap s.heap [] := va_S.rf
  replace hl : lv_has ls 1 [(0, .ref (E.2.1 b))] := hl
  unfold wX12_isPassable at h
  refine lv_aload_n C.1 C.2.1 dX12_isPassable_0 rfl (lv_at hl 0 rfl) ?_
  refine lv_aload_n C.1 C.2.1 dX12_isPassable_1 rfl (lv_at hl 0 rfl) ?_
  refine z_ki hS (z_runV (As := []) (rest := [.ref (E.2.1 b)]) C hP hS (m11 hb hL) (e11 hb) rfl (tX12_canPass C.2.2.2.2.2.2.1 (hL.mo (Nat.le_of_ble_eq_true rfl) (Nat.le_of_ble_eq_true rfl)) hb h) q1741 q1743 q74 q116 q1744 hdX12_canPass ⟨Nat.le_of_ble_eq_true rfl, Nat.le_of_ble_eq_true rfl⟩ ⟨Nat.zero_le _, Nat.zero_le _⟩ rfl hl.1 rfl (lv_room (Nat.le_of_ble_eq_true rfl)) dX12_isPassable_2) (fun r2 st1 H locs h hP hS => ?_)
  obtain ⟨hr2, h⟩ := h
  refine z_ki hS (z_runV (As := [.int r2]) (rest := []) C hP hS (m11 hb hL) (e11 hb) rfl (tX12_toldIs C.2.2.2.2.2.2.1 (hL.mo (Nat.le_of_ble_eq_true rfl) (Nat.le_of_ble_eq_true rfl)) hb h) q1745 q1747 q75 q116 q1748 hdX12_toldIs ⟨Nat.le_of_ble_eq_true rfl, Nat.le_of_ble_eq_true rfl⟩ ⟨Nat.zero_le _, Nat.zero_le _⟩ rfl hl.1 rfl (lv_room (Nat.le_of_ble_eq_true rfl)) dX12_isPassable_5) (fun r4 st3 H locs h hP hS => ?_)
  obtain ⟨hr4, h⟩ := h
  exact z_ri C hr hlk (bz_n hr4) hP hS ⟨hr4, h⟩ dX12_isPassable_8
def rmX12_heaviestLoad : Room := { frames := 2, cells := 0, slots := 0, locals := 42 }
def wX12_heaviestLoad (b : Nat) (st : St) (Q : Int32 → St → Prop) : Prop :=
  (∀ st1, st1 = uI st b 0 0 → (wX12_weakest b 0 st1 (fun r3 st2 => ((¬ r3 = (-1) → (wX12_weakest b 0 st2 (fun r5 st4 => (wX12_bear b r5 st4 (fun r7 st6 => Q r7 st6))))) ∧ (r3 = (-1) → (wX12_fail b 1 st2 (fun r9 st8 => Q r9 st8)))))))
theorem hdX12_heaviestLoad : yX12_heaviestLoad.cls = "PlankBridgeModel" ∧ yX12_heaviestLoad.cls ≠ "java/lang/invoke/MethodHandle" ∧ yX12_heaviestLoad.cls ≠ "java/lang/invoke/VarHandle" ∧ (parseMethodDescriptor yX12_heaviestLoad.desc).map (fun d => d.parameters.length) = some 0 := by decide +kernel
set_option maxHeartbeats 4000000 in
set_option maxRecDepth 100000 in
theorem tX12_heaviestLoad {l : Launch} {E : En0} {L : List Nat} (hE : EK E L) (hL : Cov 54 67 L) {b : Nat} {st : St} {Q : Int32 → St → Prop} (hb : kd b = 11) (h : wX12_heaviestLoad b st Q) : Mz l yX12_heaviestLoad cX12_heaviestLoad 1 (some .int) rmX12_heaviestLoad E L [.ref (E.2.1 b)] st (zI E L Q) := by
  refine Mz.of hE (by decide) (Nat.le_of_ble_eq_true rfl) ?_
  intro p e s m below meth c ls C hr hlk _ hl hP
  replace C : Cx E L "PlankBridgeModel" cX12_heaviestLoad 1 p s m _ c := C
  have hS : va_S (fA E L s.heap.size) s.heap s.heap [] := va_S.rf
  replace hl : lv_has ls 1 [(0, .ref (E.2.1 b))] := hl
  unfold wX12_heaviestLoad at h
  refine lv_aload_n C.1 C.2.1 dX12_heaviestLoad_0 rfl (lv_at hl 0 rfl) ?_
  refine lv_iconst C.1 C.2.1 (v := 0) dX12_heaviestLoad_1 rfl ?_
  refine pf11_0 C hP hS hb (m11 hb hL) q1377 dX12_heaviestLoad_2 (fun H locs hP hS => ?_)
  obtain ⟨st1, est1⟩ : ∃ z, z = uI st b 0 0 := ⟨_, rfl⟩
  rw [← est1] at hP; have h := h st1 est1
  refine lv_aload_n C.1 C.2.1 dX12_heaviestLoad_5 rfl (lv_at hl 0 rfl) ?_
  refine lv_iconst C.1 C.2.1 (v := 0) dX12_heaviestLoad_6 rfl ?_
  refine z_ki hS (z_runV (As := [.int 0]) (rest := []) C hP hS (m11 hb hL) (e11 hb) rfl (tX12_weakest C.2.2.2.2.2.2.1 (hL.mo (Nat.le_of_ble_eq_true rfl) (Nat.le_of_ble_eq_true rfl)) hb h) q1733 q1735 q73 q116 q1736 hdX12_weakest ⟨Nat.le_of_ble_eq_true rfl, Nat.le_of_ble_eq_true rfl⟩ ⟨Nat.zero_le _, Nat.zero_le _⟩ rfl hl.1 rfl (lv_room (Nat.le_of_ble_eq_true rfl)) dX12_heaviestLoad_7) (fun r3 st2 H locs h hP hS => ?_)
  refine lv_iconst C.1 C.2.1 (v := (-1)) dX12_heaviestLoad_10 rfl ?_
  refine lv_icmp_ne C.1 C.2.1 (tgt := 22) dX12_heaviestLoad_11 (by decide) (fun hc => ?_) (fun hc => ?_)
  · have h := h.1 hc
    refine lv_aload_n C.1 C.2.1 dX12_heaviestLoad_22 rfl (lv_at hl 0 rfl) ?_
    refine lv_aload_n C.1 C.2.1 dX12_heaviestLoad_23 rfl (lv_at hl 0 rfl) ?_
    refine lv_iconst C.1 C.2.1 (v := 0) dX12_heaviestLoad_24 rfl ?_
    refine z_ki hS (z_runV (As := [.int 0]) (rest := [.ref (E.2.1 b)]) C hP hS (m11 hb hL) (e11 hb) rfl (tX12_weakest C.2.2.2.2.2.2.1 (hL.mo (Nat.le_of_ble_eq_true rfl) (Nat.le_of_ble_eq_true rfl)) hb h) q1733 q1735 q73 q116 q1736 hdX12_weakest ⟨Nat.le_of_ble_eq_true rfl, Nat.le_of_ble_eq_true rfl⟩ ⟨Nat.zero_le _, Nat.zero_le _⟩ rfl hl.1 rfl (lv_room (Nat.le_of_ble_eq_true rfl)) dX12_heaviestLoad_25) (fun r5 st4 H locs h hP hS => ?_)
    refine z_ki hS (z_runV (As := [.int r5]) (rest := []) C hP hS (m11 hb hL) (e11 hb) rfl (tX12_bear C.2.2.2.2.2.2.1 (hL.mo (Nat.le_of_ble_eq_true rfl) (Nat.le_of_ble_eq_true rfl)) hb h) q1708 q1710 q70 q116 q1711 hdX12_bear ⟨Nat.le_of_ble_eq_true rfl, Nat.le_of_ble_eq_true rfl⟩ ⟨Nat.zero_le _, Nat.zero_le _⟩ rfl hl.1 rfl (lv_room (Nat.le_of_ble_eq_true rfl)) dX12_heaviestLoad_28) (fun r7 st6 H locs h hP hS => ?_)
    exact z_ri C hr hlk rfl hP hS h dX12_heaviestLoad_31
  · have h := h.2 hc
    refine lv_aload_n C.1 C.2.1 dX12_heaviestLoad_14 rfl (lv_at hl 0 rfl) ?_
    refine lv_iconst C.1 C.2.1 (v := 1) dX12_heaviestLoad_15 rfl ?_
    refine z_ki hS (z_runV (As := [.int 1]) (rest := []) C hP hS (m11 hb hL) (e11 hb) rfl (tX12_fail C.2.2.2.2.2.2.1 (hL.mo (Nat.le_of_ble_eq_true rfl) (Nat.le_of_ble_eq_true rfl)) hb h) q1415 q1417 q40 q116 q1418 hdX12_fail ⟨Nat.le_of_ble_eq_true rfl, Nat.le_of_ble_eq_true rfl⟩ ⟨Nat.zero_le _, Nat.zero_le _⟩ rfl hl.1 rfl (lv_room (Nat.le_of_ble_eq_true rfl)) dX12_heaviestLoad_16) (fun r9 st8 H locs h hP hS => ?_)
    refine lv_goto C.1 C.2.1 (tgt := 31) dX12_heaviestLoad_19 (by decide) ?_
    exact z_ri C hr hlk rfl hP hS h dX12_heaviestLoad_31
def rmX12_isLampNear : Room := { frames := 1, cells := 0, slots := 0, locals := 21 }
def wX12_isLampNear_L15 (b : Nat)  (s0 : Int32) (st : St) (Q : Int32 → St → Prop) : Prop :=
  (wX12_toldIs b s0 st (fun r2 st1 => Q r2 st1))
def wX12_isLampNear (b : Nat) (st : St) (Q : Int32 → St → Prop) : Prop :=
  (vp_in 0 50 ∧ ((¬ (gI st (b + 2) (0 : Int32).toNatClampNeg) = 0 → wX12_isLampNear_L15 b 0 st Q) ∧ ((gI st (b + 2) (0 : Int32).toNatClampNeg) = 0 → wX12_isLampNear_L15 b 1 st Q)))
theorem hdX12_isLampNear : yX12_isLampNear.cls = "PlankBridgeModel" ∧ yX12_isLampNear.cls ≠ "java/lang/invoke/MethodHandle" ∧ yX12_isLampNear.cls ≠ "java/lang/invoke/VarHandle" ∧ (parseMethodDescriptor yX12_isLampNear.desc).map (fun d => d.parameters.length) = some 0 := by decide +kernel
set_option maxHeartbeats 4000000 in
set_option maxRecDepth 100000 in
theorem tX12_isLampNear_L15 {l : Launch} {p : Program} {e : Env} {s : State} {m : MethodId} {args : Array Value} {below : List Frame} {meth : Method} {c : Code} {E : En0} {L : List Nat} (hL : Cov 54 67 L) (C : Cx E L "PlankBridgeModel" cX12_isLampNear 1 p s m args c) (hr : meth.sig.returnType = (some .boolean)) (hlk : meth.locks = false) {b : Nat} {Q : Int32 → St → Prop} (hb : kd b = 11) {s0 : Int32}  {st : St} (H : Heap) (locs : List Loc) (ls : Array Slot) (h : wX12_isLampNear_L15 b s0 st Q) (hl : lv_has ls 1 []) (hP : va_P E.1 vwCl (wd E L st) H) (hS : va_S (fA E L s.heap.size) s.heap H locs) : W p l e rmX12_isLampNear s m args below meth c H locs 0 0 (MQ below (zI E L (fun r u => bz r ∧ Q r u) (fA E L s.heap.size)) args s rmX12_isLampNear.cells rmX12_isLampNear.slots (fA E L s.heap.size)) (F0 m 15 ls [.int s0, .ref (E.2.1 b)]) := by
  unfold wX12_isLampNear_L15 at h
  refine z_ki hS (z_runV (As := [.int s0]) (rest := []) C hP hS (m11 hb hL) (e11 hb) rfl (tX12_toldIs C.2.2.2.2.2.2.1 (hL.mo (Nat.le_of_ble_eq_true rfl) (Nat.le_of_ble_eq_true rfl)) hb h) q1745 q1747 q75 q116 q1748 hdX12_toldIs ⟨Nat.le_of_ble_eq_true rfl, Nat.le_of_ble_eq_true rfl⟩ ⟨Nat.zero_le _, Nat.zero_le _⟩ rfl hl.1 rfl (lv_room (Nat.le_of_ble_eq_true rfl)) dX12_isLampNear_15) (fun r2 st1 H locs h hP hS => ?_)
  obtain ⟨hr2, h⟩ := h
  exact z_ri C hr hlk (bz_n hr2) hP hS ⟨hr2, h⟩ dX12_isLampNear_18
set_option maxHeartbeats 4000000 in
set_option maxRecDepth 100000 in
theorem tX12_isLampNear {l : Launch} {E : En0} {L : List Nat} (hE : EK E L) (hL : Cov 54 67 L) {b : Nat} {st : St} {Q : Int32 → St → Prop} (hb : kd b = 11) (h : wX12_isLampNear b st Q) : Mz l yX12_isLampNear cX12_isLampNear 1 (some .boolean) rmX12_isLampNear E L [.ref (E.2.1 b)] st (zI E L (fun r u => bz r ∧ Q r u)) := by
  refine Mz.of hE (by decide) (Nat.le_of_ble_eq_true rfl) ?_
  intro p e s m below meth c ls C hr hlk _ hl hP
  replace C : Cx E L "PlankBridgeModel" cX12_isLampNear 1 p s m _ c := C
  have hS : va_S (fA E L s.heap.size) s.heap s.heap [] := va_S.rf
  replace hl : lv_has ls 1 [(0, .ref (E.2.1 b))] := hl
  unfold wX12_isLampNear at h
  refine lv_aload_n C.1 C.2.1 dX12_isLampNear_0 rfl (lv_at hl 0 rfl) ?_
  refine lv_aload_n C.1 C.2.1 dX12_isLampNear_1 rfl (lv_at hl 0 rfl) ?_
  refine gf11_5 C hP hb (m11 hb hL) q1384 dX12_isLampNear_2 ?_
  refine lv_iconst C.1 C.2.1 (v := 0) dX12_isLampNear_5 rfl ?_
  obtain ⟨hi, h⟩ := h
  refine z_iald C hP (k11_2 hb) (l11_2 hb) (m11_2 hb hL) hi dX12_isLampNear_6 ?_
  refine lv_if_ne C.1 C.2.1 (tgt := 14) dX12_isLampNear_7 (by decide) (fun hc => ?_) (fun hc => ?_)
  · have h := h.1 hc
    refine lv_iconst C.1 C.2.1 (v := 0) dX12_isLampNear_14 rfl ?_
    exact tX12_isLampNear_L15 hL C hr hlk hb _ _ _ h (lv_sub hl [] rfl) hP hS
  · have h := h.2 hc
    refine lv_iconst C.1 C.2.1 (v := 1) dX12_isLampNear_10 rfl ?_
    refine lv_goto C.1 C.2.1 (tgt := 15) dX12_isLampNear_11 (by decide) ?_
    exact tX12_isLampNear_L15 hL C hr hlk hb _ _ _ h (lv_sub hl [] rfl) hP hS
def rmX12_oilLeft : Room := { frames := 1, cells := 0, slots := 0, locals := 21 }
def wX12_oilLeft (b : Nat) (st : St) (Q : Int32 → St → Prop) : Prop :=
  (vp_in 1 50 ∧ (wX12_told b (gI st (b + 2) (1 : Int32).toNatClampNeg) st (fun r2 st1 => Q r2 st1)))
theorem hdX12_oilLeft : yX12_oilLeft.cls = "PlankBridgeModel" ∧ yX12_oilLeft.cls ≠ "java/lang/invoke/MethodHandle" ∧ yX12_oilLeft.cls ≠ "java/lang/invoke/VarHandle" ∧ (parseMethodDescriptor yX12_oilLeft.desc).map (fun d => d.parameters.length) = some 0 := by decide +kernel
set_option maxHeartbeats 4000000 in
set_option maxRecDepth 100000 in
theorem tX12_oilLeft {l : Launch} {E : En0} {L : List Nat} (hE : EK E L) (hL : Cov 54 67 L) {b : Nat} {st : St} {Q : Int32 → St → Prop} (hb : kd b = 11) (h : wX12_oilLeft b st Q) : Mz l yX12_oilLeft cX12_oilLeft 1 (some .int) rmX12_oilLeft E L [.ref (E.2.1 b)] st (zI E L Q) := by
  refine Mz.of hE (by decide) (Nat.le_of_ble_eq_true rfl) ?_
  intro p e s m below meth c ls C hr hlk _ hl hP
  replace C : Cx E L "PlankBridgeModel" cX12_oilLeft 1 p s m _ c := C
  have hS : va_S (fA E L s.heap.size) s.heap s.heap [] := va_S.rf
  replace hl : lv_has ls 1 [(0, .ref (E.2.1 b))] := hl
  unfold wX12_oilLeft at h
  refine lv_aload_n C.1 C.2.1 dX12_oilLeft_0 rfl (lv_at hl 0 rfl) ?_
  refine lv_aload_n C.1 C.2.1 dX12_oilLeft_1 rfl (lv_at hl 0 rfl) ?_
  refine gf11_5 C hP hb (m11 hb hL) q1384 dX12_oilLeft_2 ?_
  refine lv_iconst C.1 C.2.1 (v := 1) dX12_oilLeft_5 rfl ?_
  obtain ⟨hi, h⟩ := h
  refine z_iald C hP (k11_2 hb) (l11_2 hb) (m11_2 hb hL) hi dX12_oilLeft_6 ?_
  refine z_ki hS (z_runV (As := [.int (gI st (b + 2) (1 : Int32).toNatClampNeg)]) (rest := []) C hP hS (m11 hb hL) (e11 hb) rfl (tX12_told C.2.2.2.2.2.2.1 (hL.mo (Nat.le_of_ble_eq_true rfl) (Nat.le_of_ble_eq_true rfl)) hb h) q1652 q1654 q65 q116 q1655 hdX12_told ⟨Nat.le_of_ble_eq_true rfl, Nat.le_of_ble_eq_true rfl⟩ ⟨Nat.zero_le _, Nat.zero_le _⟩ rfl hl.1 rfl (lv_room (Nat.le_of_ble_eq_true rfl)) dX12_oilLeft_7) (fun r2 st1 H locs h hP hS => ?_)
  exact z_ri C hr hlk rfl hP hS h dX12_oilLeft_10
def rmX12_night : Room := { frames := 1, cells := 0, slots := 0, locals := 21 }
def wX12_night (b : Nat) (st : St) (Q : Int32 → St → Prop) : Prop :=
  (vp_in 2 50 ∧ (wX12_told b (gI st (b + 2) (2 : Int32).toNatClampNeg) st (fun r2 st1 => Q r2 st1)))
theorem hdX12_night : yX12_night.cls = "PlankBridgeModel" ∧ yX12_night.cls ≠ "java/lang/invoke/MethodHandle" ∧ yX12_night.cls ≠ "java/lang/invoke/VarHandle" ∧ (parseMethodDescriptor yX12_night.desc).map (fun d => d.parameters.length) = some 0 := by decide +kernel
set_option maxHeartbeats 4000000 in
set_option maxRecDepth 100000 in
theorem tX12_night {l : Launch} {E : En0} {L : List Nat} (hE : EK E L) (hL : Cov 54 67 L) {b : Nat} {st : St} {Q : Int32 → St → Prop} (hb : kd b = 11) (h : wX12_night b st Q) : Mz l yX12_night cX12_night 1 (some .int) rmX12_night E L [.ref (E.2.1 b)] st (zI E L Q) := by
  refine Mz.of hE (by decide) (Nat.le_of_ble_eq_true rfl) ?_
  intro p e s m below meth c ls C hr hlk _ hl hP
  replace C : Cx E L "PlankBridgeModel" cX12_night 1 p s m _ c := C
  have hS : va_S (fA E L s.heap.size) s.heap s.heap [] := va_S.rf
  replace hl : lv_has ls 1 [(0, .ref (E.2.1 b))] := hl
  unfold wX12_night at h
  refine lv_aload_n C.1 C.2.1 dX12_night_0 rfl (lv_at hl 0 rfl) ?_
  refine lv_aload_n C.1 C.2.1 dX12_night_1 rfl (lv_at hl 0 rfl) ?_
  refine gf11_5 C hP hb (m11 hb hL) q1384 dX12_night_2 ?_
  refine lv_iconst C.1 C.2.1 (v := 2) dX12_night_5 rfl ?_
  obtain ⟨hi, h⟩ := h
  refine z_iald C hP (k11_2 hb) (l11_2 hb) (m11_2 hb hL) hi dX12_night_6 ?_
  refine z_ki hS (z_runV (As := [.int (gI st (b + 2) (2 : Int32).toNatClampNeg)]) (rest := []) C hP hS (m11 hb hL) (e11 hb) rfl (tX12_told C.2.2.2.2.2.2.1 (hL.mo (Nat.le_of_ble_eq_true rfl) (Nat.le_of_ble_eq_true rfl)) hb h) q1652 q1654 q65 q116 q1655 hdX12_told ⟨Nat.le_of_ble_eq_true rfl, Nat.le_of_ble_eq_true rfl⟩ ⟨Nat.zero_le _, Nat.zero_le _⟩ rfl hl.1 rfl (lv_room (Nat.le_of_ble_eq_true rfl)) dX12_night_7) (fun r2 st1 H locs h hP hS => ?_)
  exact z_ri C hr hlk rfl hP hS h dX12_night_10
def rmX12_minute : Room := { frames := 1, cells := 0, slots := 0, locals := 21 }
def wX12_minute (b : Nat) (st : St) (Q : Int32 → St → Prop) : Prop :=
  (vp_in 3 50 ∧ (wX12_told b (gI st (b + 2) (3 : Int32).toNatClampNeg) st (fun r2 st1 => Q r2 st1)))
theorem hdX12_minute : yX12_minute.cls = "PlankBridgeModel" ∧ yX12_minute.cls ≠ "java/lang/invoke/MethodHandle" ∧ yX12_minute.cls ≠ "java/lang/invoke/VarHandle" ∧ (parseMethodDescriptor yX12_minute.desc).map (fun d => d.parameters.length) = some 0 := by decide +kernel
set_option maxHeartbeats 4000000 in
set_option maxRecDepth 100000 in
theorem tX12_minute {l : Launch} {E : En0} {L : List Nat} (hE : EK E L) (hL : Cov 54 67 L) {b : Nat} {st : St} {Q : Int32 → St → Prop} (hb : kd b = 11) (h : wX12_minute b st Q) : Mz l yX12_minute cX12_minute 1 (some .int) rmX12_minute E L [.ref (E.2.1 b)] st (zI E L Q) := by
  refine Mz.of hE (by decide) (Nat.le_of_ble_eq_true rfl) ?_
  intro p e s m below meth c ls C hr hlk _ hl hP
  replace C : Cx E L "PlankBridgeModel" cX12_minute 1 p s m _ c := C
  have hS : va_S (fA E L s.heap.size) s.heap s.heap [] := va_S.rf
  replace hl : lv_has ls 1 [(0, .ref (E.2.1 b))] := hl
  unfold wX12_minute at h
  refine lv_aload_n C.1 C.2.1 dX12_minute_0 rfl (lv_at hl 0 rfl) ?_
  refine lv_aload_n C.1 C.2.1 dX12_minute_1 rfl (lv_at hl 0 rfl) ?_
  refine gf11_5 C hP hb (m11 hb hL) q1384 dX12_minute_2 ?_
  refine lv_iconst C.1 C.2.1 (v := 3) dX12_minute_5 rfl ?_
  obtain ⟨hi, h⟩ := h
  refine z_iald C hP (k11_2 hb) (l11_2 hb) (m11_2 hb hL) hi dX12_minute_6 ?_
  refine z_ki hS (z_runV (As := [.int (gI st (b + 2) (3 : Int32).toNatClampNeg)]) (rest := []) C hP hS (m11 hb hL) (e11 hb) rfl (tX12_told C.2.2.2.2.2.2.1 (hL.mo (Nat.le_of_ble_eq_true rfl) (Nat.le_of_ble_eq_true rfl)) hb h) q1652 q1654 q65 q116 q1655 hdX12_told ⟨Nat.le_of_ble_eq_true rfl, Nat.le_of_ble_eq_true rfl⟩ ⟨Nat.zero_le _, Nat.zero_le _⟩ rfl hl.1 rfl (lv_room (Nat.le_of_ble_eq_true rfl)) dX12_minute_7) (fun r2 st1 H locs h hP hS => ?_)
  exact z_ri C hr hlk rfl hP hS h dX12_minute_10
def rmX12_isWeakNight : Room := { frames := 1, cells := 0, slots := 0, locals := 21 }
def wX12_isWeakNight (b : Nat) (st : St) (Q : Int32 → St → Prop) : Prop :=
  (wX12_isWeak b st (fun r2 st1 => (wX12_toldIs b r2 st1 (fun r4 st3 => Q r4 st3))))
theorem hdX12_isWeakNight : yX12_isWeakNight.cls = "PlankBridgeModel" ∧ yX12_isWeakNight.cls ≠ "java/lang/invoke/MethodHandle" ∧ yX12_isWeakNight.cls ≠ "java/lang/invoke/VarHandle" ∧ (parseMethodDescriptor yX12_isWeakNight.desc).map (fun d => d.parameters.length) = some 0 := by decide +kernel
set_option maxHeartbeats 4000000 in
set_option maxRecDepth 100000 in
theorem tX12_isWeakNight {l : Launch} {E : En0} {L : List Nat} (hE : EK E L) (hL : Cov 54 67 L) {b : Nat} {st : St} {Q : Int32 → St → Prop} (hb : kd b = 11) (h : wX12_isWeakNight b st Q) : Mz l yX12_isWeakNight cX12_isWeakNight 1 (some .boolean) rmX12_isWeakNight E L [.ref (E.2.1 b)] st (zI E L (fun r u => bz r ∧ Q r u)) := by
  refine Mz.of hE (by decide) (Nat.le_of_ble_eq_true rfl) ?_
  intro p e s m below meth c ls C hr hlk _ hl hP
  replace C : Cx E L "PlankBridgeModel" cX12_isWeakNight 1 p s m _ c := C
  have hS : va_S (fA E L s.heap.size) s.heap s.heap [] := va_S.rf
  replace hl : lv_has ls 1 [(0, .ref (E.2.1 b))] := hl
  unfold wX12_isWeakNight at h
  refine lv_aload_n C.1 C.2.1 dX12_isWeakNight_0 rfl (lv_at hl 0 rfl) ?_
  refine lv_aload_n C.1 C.2.1 dX12_isWeakNight_1 rfl (lv_at hl 0 rfl) ?_
  refine z_ki hS (z_runV (As := []) (rest := [.ref (E.2.1 b)]) C hP hS (m11 hb hL) (e11 hb) rfl (tX12_isWeak C.2.2.2.2.2.2.1 (hL.mo (Nat.le_of_ble_eq_true rfl) (Nat.le_of_ble_eq_true rfl)) hb h) q1712 q1714 q71 q116 q1715 hdX12_isWeak ⟨Nat.le_of_ble_eq_true rfl, Nat.le_of_ble_eq_true rfl⟩ ⟨Nat.zero_le _, Nat.zero_le _⟩ rfl hl.1 rfl (lv_room (Nat.le_of_ble_eq_true rfl)) dX12_isWeakNight_2) (fun r2 st1 H locs h hP hS => ?_)
  obtain ⟨hr2, h⟩ := h
  refine z_ki hS (z_runV (As := [.int r2]) (rest := []) C hP hS (m11 hb hL) (e11 hb) rfl (tX12_toldIs C.2.2.2.2.2.2.1 (hL.mo (Nat.le_of_ble_eq_true rfl) (Nat.le_of_ble_eq_true rfl)) hb h) q1745 q1747 q75 q116 q1748 hdX12_toldIs ⟨Nat.le_of_ble_eq_true rfl, Nat.le_of_ble_eq_true rfl⟩ ⟨Nat.zero_le _, Nat.zero_le _⟩ rfl hl.1 rfl (lv_room (Nat.le_of_ble_eq_true rfl)) dX12_isWeakNight_5) (fun r4 st3 H locs h hP hS => ?_)
  obtain ⟨hr4, h⟩ := h
  exact z_ri C hr hlk (bz_n hr4) hP hS ⟨hr4, h⟩ dX12_isWeakNight_8
def rmX12_crossAlone : Room := { frames := 4, cells := 0, slots := 0, locals := 92 }
def wX12_crossAlone (b : Nat) (p1 : Int32) (st : St) (Q : Int32 → St → Prop) : Prop :=
  (∀ st1, st1 = uI st b 0 0 → (wX12_isWalker b p1 st1 (fun r3 st2 => ((¬ r3 = 0 → (wX12_canCross b p1 (-1) st2 (fun r5 st4 => ((r5 = 0 → (wX12_failed b 2 st4 (fun r7 st6 => Q r7 st6))) ∧ (¬ r5 = 0 → (wX12_cross b p1 (-1) st4 (fun r9 st8 => Q r9 st8))))))) ∧ (r3 = 0 → (wX12_failed b 1 st2 (fun r11 st10 => Q r11 st10)))))))
theorem hdX12_crossAlone : yX12_crossAlone.cls = "PlankBridgeModel" ∧ yX12_crossAlone.cls ≠ "java/lang/invoke/MethodHandle" ∧ yX12_crossAlone.cls ≠ "java/lang/invoke/VarHandle" ∧ (parseMethodDescriptor yX12_crossAlone.desc).map (fun d => d.parameters.length) = some 1 := by decide +kernel
set_option maxHeartbeats 4000000 in
set_option maxRecDepth 100000 in
theorem tX12_crossAlone {l : Launch} {E : En0} {L : List Nat} (hE : EK E L) (hL : Cov 54 67 L) {b : Nat} {p1 : Int32} {st : St} {Q : Int32 → St → Prop} (hb : kd b = 11) (h : wX12_crossAlone b p1 st Q) : Mz l yX12_crossAlone cX12_crossAlone 2 (some .boolean) rmX12_crossAlone E L [.ref (E.2.1 b), .int p1] st (zI E L (fun r u => bz r ∧ Q r u)) := by
  refine Mz.of hE (by decide) (Nat.le_of_ble_eq_true rfl) ?_
  intro p e s m below meth c ls C hr hlk _ hl hP
  replace C : Cx E L "PlankBridgeModel" cX12_crossAlone 2 p s m _ c := C
  have hS : va_S (fA E L s.heap.size) s.heap s.heap [] := va_S.rf
  replace hl : lv_has ls 2 [(0, .ref (E.2.1 b)), (1, .int p1)] := hl
  unfold wX12_crossAlone at h
  refine lv_aload_n C.1 C.2.1 dX12_crossAlone_0 rfl (lv_at hl 0 rfl) ?_
  refine lv_iconst C.1 C.2.1 (v := 0) dX12_crossAlone_1 rfl ?_
  refine pf11_0 C hP hS hb (m11 hb hL) q1377 dX12_crossAlone_2 (fun H locs hP hS => ?_)
  obtain ⟨st1, est1⟩ : ∃ z, z = uI st b 0 0 := ⟨_, rfl⟩
  rw [← est1] at hP; have h := h st1 est1
  refine lv_aload_n C.1 C.2.1 dX12_crossAlone_5 rfl (lv_at hl 0 rfl) ?_
  refine lv_iload_n C.1 C.2.1 dX12_crossAlone_6 rfl (lv_at hl 1 rfl) ?_
  refine z_ki hS (z_runV (As := [.int p1]) (rest := []) C hP hS (m11 hb hL) (e11 hb) rfl (tX12_isWalker C.2.2.2.2.2.2.1 (hL.mo (Nat.le_of_ble_eq_true rfl) (Nat.le_of_ble_eq_true rfl)) hb h) q1672 q1674 q66 q116 q1675 hdX12_isWalker ⟨Nat.le_of_ble_eq_true rfl, Nat.le_of_ble_eq_true rfl⟩ ⟨Nat.zero_le _, Nat.zero_le _⟩ rfl hl.1 rfl (lv_room (Nat.le_of_ble_eq_true rfl)) dX12_crossAlone_7) (fun r3 st2 H locs h hP hS => ?_)
  obtain ⟨hr3, h⟩ := h
  refine lv_if_ne C.1 C.2.1 (tgt := 19) dX12_crossAlone_10 (by decide) (fun hc => ?_) (fun hc => ?_)
  · have h := h.1 hc
    refine lv_aload_n C.1 C.2.1 dX12_crossAlone_19 rfl (lv_at hl 0 rfl) ?_
    refine lv_iload_n C.1 C.2.1 dX12_crossAlone_20 rfl (lv_at hl 1 rfl) ?_
    refine lv_iconst C.1 C.2.1 (v := (-1)) dX12_crossAlone_21 rfl ?_
    refine z_ki hS (z_runV (As := [.int p1, .int (-1)]) (rest := []) C hP hS (m11 hb hL) (e11 hb) rfl (tX12_canCross C.2.2.2.2.2.2.1 (hL.mo (Nat.le_of_ble_eq_true rfl) (Nat.le_of_ble_eq_true rfl)) hb h) q1777 q1779 q76 q116 q1780 hdX12_canCross ⟨Nat.le_of_ble_eq_true rfl, Nat.le_of_ble_eq_true rfl⟩ ⟨Nat.zero_le _, Nat.zero_le _⟩ rfl hl.1 rfl (lv_room (Nat.le_of_ble_eq_true rfl)) dX12_crossAlone_22) (fun r5 st4 H locs h hP hS => ?_)
    obtain ⟨hr5, h⟩ := h
    refine lv_if_eq C.1 C.2.1 (tgt := 37) dX12_crossAlone_25 (by decide) (fun hc => ?_) (fun hc => ?_)
    · have h := h.1 hc
      refine lv_aload_n C.1 C.2.1 dX12_crossAlone_37 rfl (lv_at hl 0 rfl) ?_
      refine lv_iconst C.1 C.2.1 (v := 2) dX12_crossAlone_38 rfl ?_
      refine z_ki hS (z_runV (As := [.int 2]) (rest := []) C hP hS (m11 hb hL) (e11 hb) rfl (tX12_failed C.2.2.2.2.2.2.1 (hL.mo (Nat.le_of_ble_eq_true rfl) (Nat.le_of_ble_eq_true rfl)) hb h) q1684 q1686 q67 q116 q1687 hdX12_failed ⟨Nat.le_of_ble_eq_true rfl, Nat.le_of_ble_eq_true rfl⟩ ⟨Nat.zero_le _, Nat.zero_le _⟩ rfl hl.1 rfl (lv_room (Nat.le_of_ble_eq_true rfl)) dX12_crossAlone_39) (fun r7 st6 H locs h hP hS => ?_)
      obtain ⟨hr7, h⟩ := h
      exact z_ri C hr hlk (bz_n hr7) hP hS ⟨hr7, h⟩ dX12_crossAlone_42
    · have h := h.2 hc
      refine lv_aload_n C.1 C.2.1 dX12_crossAlone_28 rfl (lv_at hl 0 rfl) ?_
      refine lv_iload_n C.1 C.2.1 dX12_crossAlone_29 rfl (lv_at hl 1 rfl) ?_
      refine lv_iconst C.1 C.2.1 (v := (-1)) dX12_crossAlone_30 rfl ?_
      refine z_ki hS (z_runV (As := [.int p1, .int (-1)]) (rest := []) C hP hS (m11 hb hL) (e11 hb) rfl (tX12_cross C.2.2.2.2.2.2.1 (hL.mo (Nat.le_of_ble_eq_true rfl) (Nat.le_of_ble_eq_true rfl)) hb h) q1789 q1791 q79 q116 q1792 hdX12_cross ⟨Nat.le_of_ble_eq_true rfl, Nat.le_of_ble_eq_true rfl⟩ ⟨Nat.zero_le _, Nat.zero_le _⟩ rfl hl.1 rfl (lv_room (Nat.le_of_ble_eq_true rfl)) dX12_crossAlone_31) (fun r9 st8 H locs h hP hS => ?_)
      obtain ⟨hr9, h⟩ := h
      refine lv_goto C.1 C.2.1 (tgt := 42) dX12_crossAlone_34 (by decide) ?_
      exact z_ri C hr hlk (bz_n hr9) hP hS ⟨hr9, h⟩ dX12_crossAlone_42
  · have h := h.2 hc
    refine lv_aload_n C.1 C.2.1 dX12_crossAlone_13 rfl (lv_at hl 0 rfl) ?_
    refine lv_iconst C.1 C.2.1 (v := 1) dX12_crossAlone_14 rfl ?_
    refine z_ki hS (z_runV (As := [.int 1]) (rest := []) C hP hS (m11 hb hL) (e11 hb) rfl (tX12_failed C.2.2.2.2.2.2.1 (hL.mo (Nat.le_of_ble_eq_true rfl) (Nat.le_of_ble_eq_true rfl)) hb h) q1684 q1686 q67 q116 q1687 hdX12_failed ⟨Nat.le_of_ble_eq_true rfl, Nat.le_of_ble_eq_true rfl⟩ ⟨Nat.zero_le _, Nat.zero_le _⟩ rfl hl.1 rfl (lv_room (Nat.le_of_ble_eq_true rfl)) dX12_crossAlone_15) (fun r11 st10 H locs h hP hS => ?_)
    obtain ⟨hr11, h⟩ := h
    exact z_ri C hr hlk (bz_n hr11) hP hS ⟨hr11, h⟩ dX12_crossAlone_18
def rmX12_areTwo : Room := { frames := 2, cells := 0, slots := 0, locals := 43 }
def wX12_areTwo_L31 (b : Nat) (p1 : Int32) (p2 : Int32)  (s0 : Int32) (st : St) (Q : Int32 → St → Prop) : Prop :=
  (∀ st5, st5 = uI st b 0 s0 → ((¬ (gI st5 b 0) = 0 → Q 0 st5) ∧ ((gI st5 b 0) = 0 → Q 1 st5)))
def wX12_areTwo_L17 (b : Nat) (p1 : Int32) (p2 : Int32)   (st : St) (Q : Int32 → St → Prop) : Prop :=
  wX12_areTwo_L31 b p1 p2 1 st Q
def wX12_areTwo (b : Nat) (p1 : Int32) (p2 : Int32) (st : St) (Q : Int32 → St → Prop) : Prop :=
  (wX12_isWalker b p1 st (fun r2 st1 => ((r2 = 0 → wX12_areTwo_L17 b p1 p2 st1 Q) ∧ (¬ r2 = 0 → (wX12_isWalker b p2 st1 (fun r4 st3 => ((¬ r4 = 0 → ((¬ p1 = p2 → wX12_areTwo_L31 b p1 p2 0 st3 Q) ∧ (p1 = p2 → wX12_areTwo_L31 b p1 p2 2 st3 Q))) ∧ (r4 = 0 → wX12_areTwo_L17 b p1 p2 st3 Q))))))))
theorem hdX12_areTwo : yX12_areTwo.cls = "PlankBridgeModel" ∧ yX12_areTwo.cls ≠ "java/lang/invoke/MethodHandle" ∧ yX12_areTwo.cls ≠ "java/lang/invoke/VarHandle" ∧ (parseMethodDescriptor yX12_areTwo.desc).map (fun d => d.parameters.length) = some 2 := by decide +kernel
set_option maxHeartbeats 4000000 in
set_option maxRecDepth 100000 in
theorem tX12_areTwo_L31 {l : Launch} {p : Program} {e : Env} {s : State} {m : MethodId} {args : Array Value} {below : List Frame} {meth : Method} {c : Code} {E : En0} {L : List Nat} (hL : Cov 54 67 L) (C : Cx E L "PlankBridgeModel" cX12_areTwo 3 p s m args c) (hr : meth.sig.returnType = (some .boolean)) (hlk : meth.locks = false) {b : Nat} {p1 : Int32} {p2 : Int32} {Q : Int32 → St → Prop} (hb : kd b = 11) {s0 : Int32}  {st : St} (H : Heap) (locs : List Loc) (ls : Array Slot) (h : wX12_areTwo_L31 b p1 p2 s0 st Q) (hl : lv_has ls 3 [(0, .ref (E.2.1 b))]) (hP : va_P E.1 vwCl (wd E L st) H) (hS : va_S (fA E L s.heap.size) s.heap H locs) : W p l e rmX12_areTwo s m args below meth c H locs 0 0 (MQ below (zI E L (fun r u => bz r ∧ Q r u) (fA E L s.heap.size)) args s rmX12_areTwo.cells rmX12_areTwo.slots (fA E L s.heap.size)) (F0 m 31 ls [.int s0, .ref (E.2.1 b)]) := by
  unfold wX12_areTwo_L31 at h
  refine pf11_0 C hP hS hb (m11 hb hL) q1377 dX12_areTwo_31 (fun H locs hP hS => ?_)
  obtain ⟨st5, est5⟩ : ∃ z, z = uI st b 0 s0 := ⟨_, rfl⟩
  rw [← est5] at hP; have h := h st5 est5
  refine lv_aload_n C.1 C.2.1 dX12_areTwo_34 rfl (lv_at hl 0 rfl) ?_
  refine gf11_0 C hP hb (m11 hb hL) q1377 dX12_areTwo_35 ?_
  refine lv_if_ne C.1 C.2.1 (tgt := 45) dX12_areTwo_38 (by decide) (fun hc => ?_) (fun hc => ?_)
  · have h := h.1 hc
    refine lv_iconst C.1 C.2.1 (v := 0) dX12_areTwo_45 rfl ?_
    exact z_ri C hr hlk (bz_n bz0) hP hS ⟨bz0, h⟩ dX12_areTwo_46
  · have h := h.2 hc
    refine lv_iconst C.1 C.2.1 (v := 1) dX12_areTwo_41 rfl ?_
    refine lv_goto C.1 C.2.1 (tgt := 46) dX12_areTwo_42 (by decide) ?_
    exact z_ri C hr hlk (bz_n bz1) hP hS ⟨bz1, h⟩ dX12_areTwo_46
set_option maxHeartbeats 4000000 in
set_option maxRecDepth 100000 in
theorem tX12_areTwo_L17 {l : Launch} {p : Program} {e : Env} {s : State} {m : MethodId} {args : Array Value} {below : List Frame} {meth : Method} {c : Code} {E : En0} {L : List Nat} (hL : Cov 54 67 L) (C : Cx E L "PlankBridgeModel" cX12_areTwo 3 p s m args c) (hr : meth.sig.returnType = (some .boolean)) (hlk : meth.locks = false) {b : Nat} {p1 : Int32} {p2 : Int32} {Q : Int32 → St → Prop} (hb : kd b = 11)   {st : St} (H : Heap) (locs : List Loc) (ls : Array Slot) (h : wX12_areTwo_L17 b p1 p2 st Q) (hl : lv_has ls 3 [(0, .ref (E.2.1 b))]) (hP : va_P E.1 vwCl (wd E L st) H) (hS : va_S (fA E L s.heap.size) s.heap H locs) : W p l e rmX12_areTwo s m args below meth c H locs 0 0 (MQ below (zI E L (fun r u => bz r ∧ Q r u) (fA E L s.heap.size)) args s rmX12_areTwo.cells rmX12_areTwo.slots (fA E L s.heap.size)) (F0 m 17 ls [.ref (E.2.1 b)]) := by
  unfold wX12_areTwo_L17 at h
  refine lv_iconst C.1 C.2.1 (v := 1) dX12_areTwo_17 rfl ?_
  refine lv_goto C.1 C.2.1 (tgt := 31) dX12_areTwo_18 (by decide) ?_
  exact tX12_areTwo_L31 hL C hr hlk hb _ _ _ h hl hP hS
set_option maxHeartbeats 4000000 in
set_option maxRecDepth 100000 in
theorem tX12_areTwo {l : Launch} {E : En0} {L : List Nat} (hE : EK E L) (hL : Cov 54 67 L) {b : Nat} {p1 : Int32} {p2 : Int32} {st : St} {Q : Int32 → St → Prop} (hb : kd b = 11) (h : wX12_areTwo b p1 p2 st Q) : Mz l yX12_areTwo cX12_areTwo 3 (some .boolean) rmX12_areTwo E L [.ref (E.2.1 b), .int p1, .int p2] st (zI E L (fun r u => bz r ∧ Q r u)) := by
  refine Mz.of hE (by decide) (Nat.le_of_ble_eq_true rfl) ?_
  intro p e s m below meth c ls C hr hlk _ hl hP
  replace C : Cx E L "PlankBridgeModel" cX12_areTwo 3 p s m _ c := C
  have hS : va_S (fA E L s.heap.size) s.heap s.heap [] := va_S.rf
  replace hl : lv_has ls 3 [(0, .ref (E.2.1 b)), (1, .int p1), (2, .int p2)] := hl
  unfold wX12_areTwo at h
  refine lv_aload_n C.1 C.2.1 dX12_areTwo_0 rfl (lv_at hl 0 rfl) ?_
  refine lv_aload_n C.1 C.2.1 dX12_areTwo_1 rfl (lv_at hl 0 rfl) ?_
  refine lv_iload_n C.1 C.2.1 dX12_areTwo_2 rfl (lv_at hl 1 rfl) ?_
  refine z_ki hS (z_runV (As := [.int p1]) (rest := [.ref (E.2.1 b)]) C hP hS (m11 hb hL) (e11 hb) rfl (tX12_isWalker C.2.2.2.2.2.2.1 (hL.mo (Nat.le_of_ble_eq_true rfl) (Nat.le_of_ble_eq_true rfl)) hb h) q1672 q1674 q66 q116 q1675 hdX12_isWalker ⟨Nat.le_of_ble_eq_true rfl, Nat.le_of_ble_eq_true rfl⟩ ⟨Nat.zero_le _, Nat.zero_le _⟩ rfl hl.1 rfl (lv_room (Nat.le_of_ble_eq_true rfl)) dX12_areTwo_3) (fun r2 st1 H locs h hP hS => ?_)
  obtain ⟨hr2, h⟩ := h
  refine lv_if_eq C.1 C.2.1 (tgt := 17) dX12_areTwo_6 (by decide) (fun hc => ?_) (fun hc => ?_)
  · have h := h.1 hc
    exact tX12_areTwo_L17 hL C hr hlk hb _ _ _ h (lv_sub hl [0] rfl) hP hS
  · have h := h.2 hc
    refine lv_aload_n C.1 C.2.1 dX12_areTwo_9 rfl (lv_at hl 0 rfl) ?_
    refine lv_iload_n C.1 C.2.1 dX12_areTwo_10 rfl (lv_at hl 2 rfl) ?_
    refine z_ki hS (z_runV (As := [.int p2]) (rest := [.ref (E.2.1 b)]) C hP hS (m11 hb hL) (e11 hb) rfl (tX12_isWalker C.2.2.2.2.2.2.1 (hL.mo (Nat.le_of_ble_eq_true rfl) (Nat.le_of_ble_eq_true rfl)) hb h) q1672 q1674 q66 q116 q1675 hdX12_isWalker ⟨Nat.le_of_ble_eq_true rfl, Nat.le_of_ble_eq_true rfl⟩ ⟨Nat.zero_le _, Nat.zero_le _⟩ rfl hl.1 rfl (lv_room (Nat.le_of_ble_eq_true rfl)) dX12_areTwo_11) (fun r4 st3 H locs h hP hS => ?_)
    obtain ⟨hr4, h⟩ := h
    refine lv_if_ne C.1 C.2.1 (tgt := 21) dX12_areTwo_14 (by decide) (fun hc => ?_) (fun hc => ?_)
    · have h := h.1 hc
      refine lv_iload_n C.1 C.2.1 dX12_areTwo_21 rfl (lv_at hl 1 rfl) ?_
      refine lv_iload_n C.1 C.2.1 dX12_areTwo_22 rfl (lv_at hl 2 rfl) ?_
      refine lv_icmp_ne C.1 C.2.1 (tgt := 30) dX12_areTwo_23 (by decide) (fun hc => ?_) (fun hc => ?_)
      · have h := h.1 hc
        refine lv_iconst C.1 C.2.1 (v := 0) dX12_areTwo_30 rfl ?_
        exact tX12_areTwo_L31 hL C hr hlk hb _ _ _ h (lv_sub hl [0] rfl) hP hS
      · have h := h.2 hc
        refine lv_iconst C.1 C.2.1 (v := 2) dX12_areTwo_26 rfl ?_
        refine lv_goto C.1 C.2.1 (tgt := 31) dX12_areTwo_27 (by decide) ?_
        exact tX12_areTwo_L31 hL C hr hlk hb _ _ _ h (lv_sub hl [0] rfl) hP hS
    · have h := h.2 hc
      exact tX12_areTwo_L17 hL C hr hlk hb _ _ _ h (lv_sub hl [0] rfl) hP hS
def rmX12_crossTogether : Room := { frames := 4, cells := 0, slots := 0, locals := 92 }
def wX12_crossTogether (b : Nat) (p1 : Int32) (p2 : Int32) (st : St) (Q : Int32 → St → Prop) : Prop :=
  (wX12_areTwo b p1 p2 st (fun r2 st1 => ((¬ r2 = 0 → (wX12_canCross b p1 p2 st1 (fun r4 st3 => ((r4 = 0 → (wX12_failed b 3 st3 (fun r6 st5 => Q r6 st5))) ∧ (¬ r4 = 0 → (wX12_cross b p1 p2 st3 (fun r8 st7 => Q r8 st7))))))) ∧ (r2 = 0 → Q 0 st1))))
theorem hdX12_crossTogether : yX12_crossTogether.cls = "PlankBridgeModel" ∧ yX12_crossTogether.cls ≠ "java/lang/invoke/MethodHandle" ∧ yX12_crossTogether.cls ≠ "java/lang/invoke/VarHandle" ∧ (parseMethodDescriptor yX12_crossTogether.desc).map (fun d => d.parameters.length) = some 2 := by decide +kernel
set_option maxHeartbeats 4000000 in
set_option maxRecDepth 100000 in
theorem tX12_crossTogether {l : Launch} {E : En0} {L : List Nat} (hE : EK E L) (hL : Cov 54 67 L) {b : Nat} {p1 : Int32} {p2 : Int32} {st : St} {Q : Int32 → St → Prop} (hb : kd b = 11) (h : wX12_crossTogether b p1 p2 st Q) : Mz l yX12_crossTogether cX12_crossTogether 3 (some .boolean) rmX12_crossTogether E L [.ref (E.2.1 b), .int p1, .int p2] st (zI E L (fun r u => bz r ∧ Q r u)) := by
  refine Mz.of hE (by decide) (Nat.le_of_ble_eq_true rfl) ?_
  intro p e s m below meth c ls C hr hlk _ hl hP
  replace C : Cx E L "PlankBridgeModel" cX12_crossTogether 3 p s m _ c := C
  have hS : va_S (fA E L s.heap.size) s.heap s.heap [] := va_S.rf
  replace hl : lv_has ls 3 [(0, .ref (E.2.1 b)), (1, .int p1), (2, .int p2)] := hl
  unfold wX12_crossTogether at h
  refine lv_aload_n C.1 C.2.1 dX12_crossTogether_0 rfl (lv_at hl 0 rfl) ?_
  refine lv_iload_n C.1 C.2.1 dX12_crossTogether_1 rfl (lv_at hl 1 rfl) ?_
  refine lv_iload_n C.1 C.2.1 dX12_crossTogether_2 rfl (lv_at hl 2 rfl) ?_
  refine z_ki hS (z_runV (As := [.int p1, .int p2]) (rest := []) C hP hS (m11 hb hL) (e11 hb) rfl (tX12_areTwo C.2.2.2.2.2.2.1 (hL.mo (Nat.le_of_ble_eq_true rfl) (Nat.le_of_ble_eq_true rfl)) hb h) q1809 q1811 q83 q116 q1812 hdX12_areTwo ⟨Nat.le_of_ble_eq_true rfl, Nat.le_of_ble_eq_true rfl⟩ ⟨Nat.zero_le _, Nat.zero_le _⟩ rfl hl.1 rfl (lv_room (Nat.le_of_ble_eq_true rfl)) dX12_crossTogether_3) (fun r2 st1 H locs h hP hS => ?_)
  obtain ⟨hr2, h⟩ := h
  refine lv_if_ne C.1 C.2.1 (tgt := 11) dX12_crossTogether_6 (by decide) (fun hc => ?_) (fun hc => ?_)
  · have h := h.1 hc
    refine lv_aload_n C.1 C.2.1 dX12_crossTogether_11 rfl (lv_at hl 0 rfl) ?_
    refine lv_iload_n C.1 C.2.1 dX12_crossTogether_12 rfl (lv_at hl 1 rfl) ?_
    refine lv_iload_n C.1 C.2.1 dX12_crossTogether_13 rfl (lv_at hl 2 rfl) ?_
    refine z_ki hS (z_runV (As := [.int p1, .int p2]) (rest := []) C hP hS (m11 hb hL) (e11 hb) rfl (tX12_canCross C.2.2.2.2.2.2.1 (hL.mo (Nat.le_of_ble_eq_true rfl) (Nat.le_of_ble_eq_true rfl)) hb h) q1777 q1779 q76 q116 q1780 hdX12_canCross ⟨Nat.le_of_ble_eq_true rfl, Nat.le_of_ble_eq_true rfl⟩ ⟨Nat.zero_le _, Nat.zero_le _⟩ rfl hl.1 rfl (lv_room (Nat.le_of_ble_eq_true rfl)) dX12_crossTogether_14) (fun r4 st3 H locs h hP hS => ?_)
    obtain ⟨hr4, h⟩ := h
    refine lv_if_eq C.1 C.2.1 (tgt := 29) dX12_crossTogether_17 (by decide) (fun hc => ?_) (fun hc => ?_)
    · have h := h.1 hc
      refine lv_aload_n C.1 C.2.1 dX12_crossTogether_29 rfl (lv_at hl 0 rfl) ?_
      refine lv_iconst C.1 C.2.1 (v := 3) dX12_crossTogether_30 rfl ?_
      refine z_ki hS (z_runV (As := [.int 3]) (rest := []) C hP hS (m11 hb hL) (e11 hb) rfl (tX12_failed C.2.2.2.2.2.2.1 (hL.mo (Nat.le_of_ble_eq_true rfl) (Nat.le_of_ble_eq_true rfl)) hb h) q1684 q1686 q67 q116 q1687 hdX12_failed ⟨Nat.le_of_ble_eq_true rfl, Nat.le_of_ble_eq_true rfl⟩ ⟨Nat.zero_le _, Nat.zero_le _⟩ rfl hl.1 rfl (lv_room (Nat.le_of_ble_eq_true rfl)) dX12_crossTogether_31) (fun r6 st5 H locs h hP hS => ?_)
      obtain ⟨hr6, h⟩ := h
      exact z_ri C hr hlk (bz_n hr6) hP hS ⟨hr6, h⟩ dX12_crossTogether_34
    · have h := h.2 hc
      refine lv_aload_n C.1 C.2.1 dX12_crossTogether_20 rfl (lv_at hl 0 rfl) ?_
      refine lv_iload_n C.1 C.2.1 dX12_crossTogether_21 rfl (lv_at hl 1 rfl) ?_
      refine lv_iload_n C.1 C.2.1 dX12_crossTogether_22 rfl (lv_at hl 2 rfl) ?_
      refine z_ki hS (z_runV (As := [.int p1, .int p2]) (rest := []) C hP hS (m11 hb hL) (e11 hb) rfl (tX12_cross C.2.2.2.2.2.2.1 (hL.mo (Nat.le_of_ble_eq_true rfl) (Nat.le_of_ble_eq_true rfl)) hb h) q1789 q1791 q79 q116 q1792 hdX12_cross ⟨Nat.le_of_ble_eq_true rfl, Nat.le_of_ble_eq_true rfl⟩ ⟨Nat.zero_le _, Nat.zero_le _⟩ rfl hl.1 rfl (lv_room (Nat.le_of_ble_eq_true rfl)) dX12_crossTogether_23) (fun r8 st7 H locs h hP hS => ?_)
      obtain ⟨hr8, h⟩ := h
      refine lv_goto C.1 C.2.1 (tgt := 34) dX12_crossTogether_26 (by decide) ?_
      exact z_ri C hr hlk (bz_n hr8) hP hS ⟨hr8, h⟩ dX12_crossTogether_34
  · have h := h.2 hc
    refine lv_iconst C.1 C.2.1 (v := 0) dX12_crossTogether_9 rfl ?_
    exact z_ri C hr hlk (bz_n bz0) hP hS ⟨bz0, h⟩ dX12_crossTogether_10
def rmX12_rest : Room := { frames := 3, cells := 0, slots := 0, locals := 65 }
def wX12_rest (b : Nat) (p1 : Int32) (st : St) (Q : Int32 → St → Prop) : Prop :=
  (∀ st1, st1 = uI st b 0 0 → (wX12_isIn p1 1 600 st1 (fun r3 st2 => ((¬ r3 = 0 → (vp_in 2 50 ∧ (∀ x4 : Int32, x4 = (gI st2 (b + 2) (2 : Int32).toNatClampNeg) → (wX12_goBy b p1 st2 (fun st5 => (vp_in 2 50 ∧ Q ((gI st5 (b + 2) (2 : Int32).toNatClampNeg) - x4) st5)))))) ∧ (r3 = 0 → (wX12_fail b 1 st2 (fun r7 st6 => Q r7 st6)))))))
theorem hdX12_rest : yX12_rest.cls = "PlankBridgeModel" ∧ yX12_rest.cls ≠ "java/lang/invoke/MethodHandle" ∧ yX12_rest.cls ≠ "java/lang/invoke/VarHandle" ∧ (parseMethodDescriptor yX12_rest.desc).map (fun d => d.parameters.length) = some 1 := by decide +kernel
set_option maxHeartbeats 4000000 in
set_option maxRecDepth 100000 in
theorem tX12_rest {l : Launch} {E : En0} {L : List Nat} (hE : EK E L) (hL : Cov 54 67 L) {b : Nat} {p1 : Int32} {st : St} {Q : Int32 → St → Prop} (hb : kd b = 11) (h : wX12_rest b p1 st Q) : Mz l yX12_rest cX12_rest 3 (some .int) rmX12_rest E L [.ref (E.2.1 b), .int p1] st (zI E L Q) := by
  refine Mz.of hE (by decide) (Nat.le_of_ble_eq_true rfl) ?_
  intro p e s m below meth c ls C hr hlk _ hl hP
  replace C : Cx E L "PlankBridgeModel" cX12_rest 3 p s m _ c := C
  have hS : va_S (fA E L s.heap.size) s.heap s.heap [] := va_S.rf
  replace hl : lv_has ls 3 [(0, .ref (E.2.1 b)), (1, .int p1)] := hl
  unfold wX12_rest at h
  refine lv_aload_n C.1 C.2.1 dX12_rest_0 rfl (lv_at hl 0 rfl) ?_
  refine lv_iconst C.1 C.2.1 (v := 0) dX12_rest_1 rfl ?_
  refine pf11_0 C hP hS hb (m11 hb hL) q1377 dX12_rest_2 (fun H locs hP hS => ?_)
  obtain ⟨st1, est1⟩ : ∃ z, z = uI st b 0 0 := ⟨_, rfl⟩
  rw [← est1] at hP; have h := h st1 est1
  refine lv_iload_n C.1 C.2.1 dX12_rest_5 rfl (lv_at hl 1 rfl) ?_
  refine lv_iconst C.1 C.2.1 (v := 1) dX12_rest_6 rfl ?_
  refine lv_sipush C.1 C.2.1 (v := 600) dX12_rest_7 rfl ?_
  refine z_ki hS (z_runS (As := [.int p1, .int 1, .int 600]) (rest := []) C hP hS (tX12_isIn C.2.2.2.2.2.2.1 (hL.mo (Nat.le_of_ble_eq_true rfl) (Nat.le_of_ble_eq_true rfl))  h) q1423 q1424 q116 q1425 hdX12_isIn ⟨Nat.le_of_ble_eq_true rfl, Nat.le_of_ble_eq_true rfl⟩ ⟨Nat.zero_le _, Nat.zero_le _⟩ rfl hl.1 rfl (lv_room (Nat.le_of_ble_eq_true rfl)) dX12_rest_10) (fun r3 st2 H locs h hP hS => ?_)
  obtain ⟨hr3, h⟩ := h
  refine lv_if_ne C.1 C.2.1 (tgt := 22) dX12_rest_13 (by decide) (fun hc => ?_) (fun hc => ?_)
  · have h := h.1 hc
    refine lv_aload_n C.1 C.2.1 dX12_rest_22 rfl (lv_at hl 0 rfl) ?_
    refine gf11_5 C hP hb (m11 hb hL) q1384 dX12_rest_23 ?_
    refine lv_iconst C.1 C.2.1 (v := 2) dX12_rest_26 rfl ?_
    obtain ⟨hi, h⟩ := h
    refine z_iald C hP (k11_2 hb) (l11_2 hb) (m11_2 hb hL) hi dX12_rest_27 ?_
    refine lv_topi (fun x4 ex4 => ?_)
    have h := h x4 ex4
    refine lv_istore_n C.1 C.2.1 dX12_rest_28 rfl hl (Nat.le_of_ble_eq_true rfl) rfl (fun ls hl => ?_)
    have hl : lv_has ls 3 [(2, .int x4), (0, .ref (E.2.1 b)), (1, .int p1)] := hl
    refine lv_aload_n C.1 C.2.1 dX12_rest_29 rfl (lv_at hl 1 rfl) ?_
    refine lv_iload_n C.1 C.2.1 dX12_rest_30 rfl (lv_at hl 2 rfl) ?_
    refine z_kv hS (z_runV (As := [.int p1]) (rest := []) C hP hS (m11 hb hL) (e11 hb) rfl (tX12_goBy C.2.2.2.2.2.2.1 (hL.mo (Nat.le_of_ble_eq_true rfl) (Nat.le_of_ble_eq_true rfl)) hb h) q1797 q1799 q81 q116 q1800 hdX12_goBy ⟨Nat.le_of_ble_eq_true rfl, Nat.le_of_ble_eq_true rfl⟩ ⟨Nat.zero_le _, Nat.zero_le _⟩ rfl hl.1 rfl (lv_room (Nat.le_of_ble_eq_true rfl)) dX12_rest_31) (fun st5 H locs h hP hS => ?_)
    refine lv_aload_n C.1 C.2.1 dX12_rest_34 rfl (lv_at hl 1 rfl) ?_
    refine gf11_5 C hP hb (m11 hb hL) q1384 dX12_rest_35 ?_
    refine lv_iconst C.1 C.2.1 (v := 2) dX12_rest_38 rfl ?_
    obtain ⟨hi, h⟩ := h
    refine z_iald C hP (k11_2 hb) (l11_2 hb) (m11_2 hb hL) hi dX12_rest_39 ?_
    refine lv_iload_n C.1 C.2.1 dX12_rest_40 rfl (lv_at hl 0 rfl) ?_
    refine lv_isub C.1 C.2.1 dX12_rest_41  ?_
    exact z_ri C hr hlk rfl hP hS h dX12_rest_42
  · have h := h.2 hc
    refine lv_aload_n C.1 C.2.1 dX12_rest_16 rfl (lv_at hl 0 rfl) ?_
    refine lv_iconst C.1 C.2.1 (v := 1) dX12_rest_17 rfl ?_
    refine z_ki hS (z_runV (As := [.int 1]) (rest := []) C hP hS (m11 hb hL) (e11 hb) rfl (tX12_fail C.2.2.2.2.2.2.1 (hL.mo (Nat.le_of_ble_eq_true rfl) (Nat.le_of_ble_eq_true rfl)) hb h) q1415 q1417 q40 q116 q1418 hdX12_fail ⟨Nat.le_of_ble_eq_true rfl, Nat.le_of_ble_eq_true rfl⟩ ⟨Nat.zero_le _, Nat.zero_le _⟩ rfl hl.1 rfl (lv_room (Nat.le_of_ble_eq_true rfl)) dX12_rest_18) (fun r7 st6 H locs h hP hS => ?_)
    exact z_ri C hr hlk rfl hP hS h dX12_rest_21
def rmX12_layPlank : Room := { frames := 2, cells := 0, slots := 0, locals := 43 }
def wX12_layPlank (b : Nat) (p1 : Int32) (p2 : Int32) (st : St) (Q : Int32 → St → Prop) : Prop :=
  (∀ st1, st1 = uI st b 0 0 → (wX12_isPlank b p1 st1 (fun r3 st2 => ((¬ r3 = 0 → (wX12_isIn p2 1 30 st2 (fun r5 st4 => ((¬ r5 = 0 → (vp_in ((16 : Int32) + p1) 50 ∧ (∀ x6 : Int32, x6 = (gI st4 (b + 2) ((16 : Int32) + p1 : Int32).toNatClampNeg) → (vp_in ((16 : Int32) + p1) 50 ∧ ∀ st7, st7 = uI st4 (b + 2) ((16 : Int32) + p1 : Int32).toNatClampNeg p2 → (vp_in ((28 : Int32) + p1) 50 ∧ ∀ st8, st8 = uI st7 (b + 2) ((28 : Int32) + p1 : Int32).toNatClampNeg 0 → Q x6 st8))))) ∧ (r5 = 0 → (wX12_fail b 2 st4 (fun r10 st9 => Q r10 st9))))))) ∧ (r3 = 0 → (wX12_fail b 1 st2 (fun r12 st11 => Q r12 st11)))))))
theorem hdX12_layPlank : yX12_layPlank.cls = "PlankBridgeModel" ∧ yX12_layPlank.cls ≠ "java/lang/invoke/MethodHandle" ∧ yX12_layPlank.cls ≠ "java/lang/invoke/VarHandle" ∧ (parseMethodDescriptor yX12_layPlank.desc).map (fun d => d.parameters.length) = some 2 := by decide +kernel
set_option maxHeartbeats 4000000 in
set_option maxRecDepth 100000 in
theorem tX12_layPlank {l : Launch} {E : En0} {L : List Nat} (hE : EK E L) (hL : Cov 54 67 L) {b : Nat} {p1 : Int32} {p2 : Int32} {st : St} {Q : Int32 → St → Prop} (hb : kd b = 11) (h : wX12_layPlank b p1 p2 st Q) : Mz l yX12_layPlank cX12_layPlank 4 (some .int) rmX12_layPlank E L [.ref (E.2.1 b), .int p1, .int p2] st (zI E L Q) := by
  refine Mz.of hE (by decide) (Nat.le_of_ble_eq_true rfl) ?_
  intro p e s m below meth c ls C hr hlk _ hl hP
  replace C : Cx E L "PlankBridgeModel" cX12_layPlank 4 p s m _ c := C
  have hS : va_S (fA E L s.heap.size) s.heap s.heap [] := va_S.rf
  replace hl : lv_has ls 4 [(0, .ref (E.2.1 b)), (1, .int p1), (2, .int p2)] := hl
  unfold wX12_layPlank at h
  refine lv_aload_n C.1 C.2.1 dX12_layPlank_0 rfl (lv_at hl 0 rfl) ?_
  refine lv_iconst C.1 C.2.1 (v := 0) dX12_layPlank_1 rfl ?_
  refine pf11_0 C hP hS hb (m11 hb hL) q1377 dX12_layPlank_2 (fun H locs hP hS => ?_)
  obtain ⟨st1, est1⟩ : ∃ z, z = uI st b 0 0 := ⟨_, rfl⟩
  rw [← est1] at hP; have h := h st1 est1
  refine lv_aload_n C.1 C.2.1 dX12_layPlank_5 rfl (lv_at hl 0 rfl) ?_
  refine lv_iload_n C.1 C.2.1 dX12_layPlank_6 rfl (lv_at hl 1 rfl) ?_
  refine z_ki hS (z_runV (As := [.int p1]) (rest := []) C hP hS (m11 hb hL) (e11 hb) rfl (tX12_isPlank C.2.2.2.2.2.2.1 (hL.mo (Nat.le_of_ble_eq_true rfl) (Nat.le_of_ble_eq_true rfl)) hb h) q1700 q1702 q69 q116 q1703 hdX12_isPlank ⟨Nat.le_of_ble_eq_true rfl, Nat.le_of_ble_eq_true rfl⟩ ⟨Nat.zero_le _, Nat.zero_le _⟩ rfl hl.1 rfl (lv_room (Nat.le_of_ble_eq_true rfl)) dX12_layPlank_7) (fun r3 st2 H locs h hP hS => ?_)
  obtain ⟨hr3, h⟩ := h
  refine lv_if_ne C.1 C.2.1 (tgt := 19) dX12_layPlank_10 (by decide) (fun hc => ?_) (fun hc => ?_)
  · have h := h.1 hc
    refine lv_iload_n C.1 C.2.1 dX12_layPlank_19 rfl (lv_at hl 2 rfl) ?_
    refine lv_iconst C.1 C.2.1 (v := 1) dX12_layPlank_20 rfl ?_
    refine lv_bipush C.1 C.2.1 (v := 30) dX12_layPlank_21 rfl ?_
    refine z_ki hS (z_runS (As := [.int p2, .int 1, .int 30]) (rest := []) C hP hS (tX12_isIn C.2.2.2.2.2.2.1 (hL.mo (Nat.le_of_ble_eq_true rfl) (Nat.le_of_ble_eq_true rfl))  h) q1423 q1424 q116 q1425 hdX12_isIn ⟨Nat.le_of_ble_eq_true rfl, Nat.le_of_ble_eq_true rfl⟩ ⟨Nat.zero_le _, Nat.zero_le _⟩ rfl hl.1 rfl (lv_room (Nat.le_of_ble_eq_true rfl)) dX12_layPlank_23) (fun r5 st4 H locs h hP hS => ?_)
    obtain ⟨hr5, h⟩ := h
    refine lv_if_ne C.1 C.2.1 (tgt := 35) dX12_layPlank_26 (by decide) (fun hc => ?_) (fun hc => ?_)
    · have h := h.1 hc
      refine lv_aload_n C.1 C.2.1 dX12_layPlank_35 rfl (lv_at hl 0 rfl) ?_
      refine gf11_5 C hP hb (m11 hb hL) q1384 dX12_layPlank_36 ?_
      refine lv_bipush C.1 C.2.1 (v := 16) dX12_layPlank_39 rfl ?_
      refine lv_iload_n C.1 C.2.1 dX12_layPlank_41 rfl (lv_at hl 1 rfl) ?_
      refine lv_iadd C.1 C.2.1 dX12_layPlank_42  ?_
      obtain ⟨hi, h⟩ := h
      refine z_iald C hP (k11_2 hb) (l11_2 hb) (m11_2 hb hL) hi dX12_layPlank_43 ?_
      refine lv_topi (fun x6 ex6 => ?_)
      have h := h x6 ex6
      refine lv_istore_n C.1 C.2.1 dX12_layPlank_44 rfl hl (Nat.le_of_ble_eq_true rfl) rfl (fun ls hl => ?_)
      have hl : lv_has ls 4 [(3, .int x6), (0, .ref (E.2.1 b)), (1, .int p1), (2, .int p2)] := hl
      refine lv_aload_n C.1 C.2.1 dX12_layPlank_45 rfl (lv_at hl 1 rfl) ?_
      refine gf11_5 C hP hb (m11 hb hL) q1384 dX12_layPlank_46 ?_
      refine lv_bipush C.1 C.2.1 (v := 16) dX12_layPlank_49 rfl ?_
      refine lv_iload_n C.1 C.2.1 dX12_layPlank_51 rfl (lv_at hl 2 rfl) ?_
      refine lv_iadd C.1 C.2.1 dX12_layPlank_52  ?_
      refine lv_iload_n C.1 C.2.1 dX12_layPlank_53 rfl (lv_at hl 3 rfl) ?_
      obtain ⟨hi, h⟩ := h
      refine z_iast C hP hS (k11_2 hb) (l11_2 hb) (m11_2 hb hL) hi dX12_layPlank_54 (fun H locs hP hS => ?_)
      obtain ⟨st7, est7⟩ : ∃ z, z = uI st4 (b + 2) ((16 : Int32) + p1 : Int32).toNatClampNeg p2 := ⟨_, rfl⟩
      rw [← est7] at hP; have h := h st7 est7
      refine lv_aload_n C.1 C.2.1 dX12_layPlank_55 rfl (lv_at hl 1 rfl) ?_
      refine gf11_5 C hP hb (m11 hb hL) q1384 dX12_layPlank_56 ?_
      refine lv_bipush C.1 C.2.1 (v := 28) dX12_layPlank_59 rfl ?_
      refine lv_iload_n C.1 C.2.1 dX12_layPlank_61 rfl (lv_at hl 2 rfl) ?_
      refine lv_iadd C.1 C.2.1 dX12_layPlank_62  ?_
      refine lv_iconst C.1 C.2.1 (v := 0) dX12_layPlank_63 rfl ?_
      obtain ⟨hi, h⟩ := h
      refine z_iast C hP hS (k11_2 hb) (l11_2 hb) (m11_2 hb hL) hi dX12_layPlank_64 (fun H locs hP hS => ?_)
      obtain ⟨st8, est8⟩ : ∃ z, z = uI st7 (b + 2) ((28 : Int32) + p1 : Int32).toNatClampNeg 0 := ⟨_, rfl⟩
      rw [← est8] at hP; have h := h st8 est8
      refine lv_iload_n C.1 C.2.1 dX12_layPlank_65 rfl (lv_at hl 0 rfl) ?_
      exact z_ri C hr hlk rfl hP hS h dX12_layPlank_66
    · have h := h.2 hc
      refine lv_aload_n C.1 C.2.1 dX12_layPlank_29 rfl (lv_at hl 0 rfl) ?_
      refine lv_iconst C.1 C.2.1 (v := 2) dX12_layPlank_30 rfl ?_
      refine z_ki hS (z_runV (As := [.int 2]) (rest := []) C hP hS (m11 hb hL) (e11 hb) rfl (tX12_fail C.2.2.2.2.2.2.1 (hL.mo (Nat.le_of_ble_eq_true rfl) (Nat.le_of_ble_eq_true rfl)) hb h) q1415 q1417 q40 q116 q1418 hdX12_fail ⟨Nat.le_of_ble_eq_true rfl, Nat.le_of_ble_eq_true rfl⟩ ⟨Nat.zero_le _, Nat.zero_le _⟩ rfl hl.1 rfl (lv_room (Nat.le_of_ble_eq_true rfl)) dX12_layPlank_31) (fun r10 st9 H locs h hP hS => ?_)
      exact z_ri C hr hlk rfl hP hS h dX12_layPlank_34
  · have h := h.2 hc
    refine lv_aload_n C.1 C.2.1 dX12_layPlank_13 rfl (lv_at hl 0 rfl) ?_
    refine lv_iconst C.1 C.2.1 (v := 1) dX12_layPlank_14 rfl ?_
    refine z_ki hS (z_runV (As := [.int 1]) (rest := []) C hP hS (m11 hb hL) (e11 hb) rfl (tX12_fail C.2.2.2.2.2.2.1 (hL.mo (Nat.le_of_ble_eq_true rfl) (Nat.le_of_ble_eq_true rfl)) hb h) q1415 q1417 q40 q116 q1418 hdX12_fail ⟨Nat.le_of_ble_eq_true rfl, Nat.le_of_ble_eq_true rfl⟩ ⟨Nat.zero_le _, Nat.zero_le _⟩ rfl hl.1 rfl (lv_room (Nat.le_of_ble_eq_true rfl)) dX12_layPlank_15) (fun r12 st11 H locs h hP hS => ?_)
    exact z_ri C hr hlk rfl hP hS h dX12_layPlank_18
def rmX12_runPlan : Room := { frames := 7, cells := 0, slots := 0, locals := 167 }
def wX12_runPlan (b : Nat) (p1 : Int32) (st : St) (Q : Int32 → St → Prop) : Prop :=
  (∀ st1, st1 = uI st b 0 0 → (wX12_isPlan b p1 st1 (fun r3 st2 => ((r3 = 0 → (wX12_fail b 1 st2 (fun r5 st4 => Q r5 st4))) ∧ (¬ r3 = 0 → (wX12_run b p1 st2 (fun r7 st6 => Q r7 st6)))))))
theorem hdX12_runPlan : yX12_runPlan.cls = "PlankBridgeModel" ∧ yX12_runPlan.cls ≠ "java/lang/invoke/MethodHandle" ∧ yX12_runPlan.cls ≠ "java/lang/invoke/VarHandle" ∧ (parseMethodDescriptor yX12_runPlan.desc).map (fun d => d.parameters.length) = some 1 := by decide +kernel
set_option maxHeartbeats 4000000 in
set_option maxRecDepth 100000 in
theorem tX12_runPlan {l : Launch} {E : En0} {L : List Nat} (hE : EK E L) (hL : Cov 54 67 L) {b : Nat} {p1 : Int32} {st : St} {Q : Int32 → St → Prop} (hb : kd b = 11) (h : wX12_runPlan b p1 st Q) : Mz l yX12_runPlan cX12_runPlan 2 (some .int) rmX12_runPlan E L [.ref (E.2.1 b), .int p1] st (zI E L Q) := by
  refine Mz.of hE (by decide) (Nat.le_of_ble_eq_true rfl) ?_
  intro p e s m below meth c ls C hr hlk _ hl hP
  replace C : Cx E L "PlankBridgeModel" cX12_runPlan 2 p s m _ c := C
  have hS : va_S (fA E L s.heap.size) s.heap s.heap [] := va_S.rf
  replace hl : lv_has ls 2 [(0, .ref (E.2.1 b)), (1, .int p1)] := hl
  unfold wX12_runPlan at h
  refine lv_aload_n C.1 C.2.1 dX12_runPlan_0 rfl (lv_at hl 0 rfl) ?_
  refine lv_iconst C.1 C.2.1 (v := 0) dX12_runPlan_1 rfl ?_
  refine pf11_0 C hP hS hb (m11 hb hL) q1377 dX12_runPlan_2 (fun H locs hP hS => ?_)
  obtain ⟨st1, est1⟩ : ∃ z, z = uI st b 0 0 := ⟨_, rfl⟩
  rw [← est1] at hP; have h := h st1 est1
  refine lv_aload_n C.1 C.2.1 dX12_runPlan_5 rfl (lv_at hl 0 rfl) ?_
  refine lv_iload_n C.1 C.2.1 dX12_runPlan_6 rfl (lv_at hl 1 rfl) ?_
  refine z_ki hS (z_runV (As := [.int p1]) (rest := []) C hP hS (m11 hb hL) (e11 hb) rfl (tX12_isPlan C.2.2.2.2.2.2.1 (hL.mo (Nat.le_of_ble_eq_true rfl) (Nat.le_of_ble_eq_true rfl)) hb h) q1825 q1827 q84 q116 q1828 hdX12_isPlan ⟨Nat.le_of_ble_eq_true rfl, Nat.le_of_ble_eq_true rfl⟩ ⟨Nat.zero_le _, Nat.zero_le _⟩ rfl hl.1 rfl (lv_room (Nat.le_of_ble_eq_true rfl)) dX12_runPlan_7) (fun r3 st2 H locs h hP hS => ?_)
  obtain ⟨hr3, h⟩ := h
  refine lv_if_eq C.1 C.2.1 (tgt := 21) dX12_runPlan_10 (by decide) (fun hc => ?_) (fun hc => ?_)
  · have h := h.1 hc
    refine lv_aload_n C.1 C.2.1 dX12_runPlan_21 rfl (lv_at hl 0 rfl) ?_
    refine lv_iconst C.1 C.2.1 (v := 1) dX12_runPlan_22 rfl ?_
    refine z_ki hS (z_runV (As := [.int 1]) (rest := []) C hP hS (m11 hb hL) (e11 hb) rfl (tX12_fail C.2.2.2.2.2.2.1 (hL.mo (Nat.le_of_ble_eq_true rfl) (Nat.le_of_ble_eq_true rfl)) hb h) q1415 q1417 q40 q116 q1418 hdX12_fail ⟨Nat.le_of_ble_eq_true rfl, Nat.le_of_ble_eq_true rfl⟩ ⟨Nat.zero_le _, Nat.zero_le _⟩ rfl hl.1 rfl (lv_room (Nat.le_of_ble_eq_true rfl)) dX12_runPlan_23) (fun r5 st4 H locs h hP hS => ?_)
    exact z_ri C hr hlk rfl hP hS h dX12_runPlan_26
  · have h := h.2 hc
    refine lv_aload_n C.1 C.2.1 dX12_runPlan_13 rfl (lv_at hl 0 rfl) ?_
    refine lv_iload_n C.1 C.2.1 dX12_runPlan_14 rfl (lv_at hl 1 rfl) ?_
    refine z_ki hS (z_runV (As := [.int p1]) (rest := []) C hP hS (m11 hb hL) (e11 hb) rfl (tX12_run C.2.2.2.2.2.2.1 (hL.mo (Nat.le_of_ble_eq_true rfl) (Nat.le_of_ble_eq_true rfl)) hb h) q1829 q1831 q85 q116 q1832 hdX12_run ⟨Nat.le_of_ble_eq_true rfl, Nat.le_of_ble_eq_true rfl⟩ ⟨Nat.zero_le _, Nat.zero_le _⟩ rfl hl.1 rfl (lv_room (Nat.le_of_ble_eq_true rfl)) dX12_runPlan_15) (fun r7 st6 H locs h hP hS => ?_)
    refine lv_goto C.1 C.2.1 (tgt := 26) dX12_runPlan_18 (by decide) ?_
    exact z_ri C hr hlk rfl hP hS h dX12_runPlan_26
def rmX12_crossings : Room := { frames := 1, cells := 0, slots := 0, locals := 21 }
def wX12_crossings (b : Nat) (st : St) (Q : Int32 → St → Prop) : Prop :=
  (vp_in 4 50 ∧ (wX12_told b (gI st (b + 2) (4 : Int32).toNatClampNeg) st (fun r2 st1 => Q r2 st1)))
theorem hdX12_crossings : yX12_crossings.cls = "PlankBridgeModel" ∧ yX12_crossings.cls ≠ "java/lang/invoke/MethodHandle" ∧ yX12_crossings.cls ≠ "java/lang/invoke/VarHandle" ∧ (parseMethodDescriptor yX12_crossings.desc).map (fun d => d.parameters.length) = some 0 := by decide +kernel
set_option maxHeartbeats 4000000 in
set_option maxRecDepth 100000 in
theorem tX12_crossings {l : Launch} {E : En0} {L : List Nat} (hE : EK E L) (hL : Cov 54 67 L) {b : Nat} {st : St} {Q : Int32 → St → Prop} (hb : kd b = 11) (h : wX12_crossings b st Q) : Mz l yX12_crossings cX12_crossings 1 (some .int) rmX12_crossings E L [.ref (E.2.1 b)] st (zI E L Q) := by
  refine Mz.of hE (by decide) (Nat.le_of_ble_eq_true rfl) ?_
  intro p e s m below meth c ls C hr hlk _ hl hP
  replace C : Cx E L "PlankBridgeModel" cX12_crossings 1 p s m _ c := C
  have hS : va_S (fA E L s.heap.size) s.heap s.heap [] := va_S.rf
  replace hl : lv_has ls 1 [(0, .ref (E.2.1 b))] := hl
  unfold wX12_crossings at h
  refine lv_aload_n C.1 C.2.1 dX12_crossings_0 rfl (lv_at hl 0 rfl) ?_
  refine lv_aload_n C.1 C.2.1 dX12_crossings_1 rfl (lv_at hl 0 rfl) ?_
  refine gf11_5 C hP hb (m11 hb hL) q1384 dX12_crossings_2 ?_
  refine lv_iconst C.1 C.2.1 (v := 4) dX12_crossings_5 rfl ?_
  obtain ⟨hi, h⟩ := h
  refine z_iald C hP (k11_2 hb) (l11_2 hb) (m11_2 hb hL) hi dX12_crossings_6 ?_
  refine z_ki hS (z_runV (As := [.int (gI st (b + 2) (4 : Int32).toNatClampNeg)]) (rest := []) C hP hS (m11 hb hL) (e11 hb) rfl (tX12_told C.2.2.2.2.2.2.1 (hL.mo (Nat.le_of_ble_eq_true rfl) (Nat.le_of_ble_eq_true rfl)) hb h) q1652 q1654 q65 q116 q1655 hdX12_told ⟨Nat.le_of_ble_eq_true rfl, Nat.le_of_ble_eq_true rfl⟩ ⟨Nat.zero_le _, Nat.zero_le _⟩ rfl hl.1 rfl (lv_room (Nat.le_of_ble_eq_true rfl)) dX12_crossings_7) (fun r2 st1 H locs h hP hS => ?_)
  exact z_ri C hr hlk rfl hP hS h dX12_crossings_10
def rmX12_falls : Room := { frames := 1, cells := 0, slots := 0, locals := 21 }
def wX12_falls (b : Nat) (st : St) (Q : Int32 → St → Prop) : Prop :=
  (vp_in 5 50 ∧ (wX12_told b (gI st (b + 2) (5 : Int32).toNatClampNeg) st (fun r2 st1 => Q r2 st1)))
theorem hdX12_falls : yX12_falls.cls = "PlankBridgeModel" ∧ yX12_falls.cls ≠ "java/lang/invoke/MethodHandle" ∧ yX12_falls.cls ≠ "java/lang/invoke/VarHandle" ∧ (parseMethodDescriptor yX12_falls.desc).map (fun d => d.parameters.length) = some 0 := by decide +kernel
set_option maxHeartbeats 4000000 in
set_option maxRecDepth 100000 in
theorem tX12_falls {l : Launch} {E : En0} {L : List Nat} (hE : EK E L) (hL : Cov 54 67 L) {b : Nat} {st : St} {Q : Int32 → St → Prop} (hb : kd b = 11) (h : wX12_falls b st Q) : Mz l yX12_falls cX12_falls 1 (some .int) rmX12_falls E L [.ref (E.2.1 b)] st (zI E L Q) := by
  refine Mz.of hE (by decide) (Nat.le_of_ble_eq_true rfl) ?_
  intro p e s m below meth c ls C hr hlk _ hl hP
  replace C : Cx E L "PlankBridgeModel" cX12_falls 1 p s m _ c := C
  have hS : va_S (fA E L s.heap.size) s.heap s.heap [] := va_S.rf
  replace hl : lv_has ls 1 [(0, .ref (E.2.1 b))] := hl
  unfold wX12_falls at h
  refine lv_aload_n C.1 C.2.1 dX12_falls_0 rfl (lv_at hl 0 rfl) ?_
  refine lv_aload_n C.1 C.2.1 dX12_falls_1 rfl (lv_at hl 0 rfl) ?_
  refine gf11_5 C hP hb (m11 hb hL) q1384 dX12_falls_2 ?_
  refine lv_iconst C.1 C.2.1 (v := 5) dX12_falls_5 rfl ?_
  obtain ⟨hi, h⟩ := h
  refine z_iald C hP (k11_2 hb) (l11_2 hb) (m11_2 hb hL) hi dX12_falls_6 ?_
  refine z_ki hS (z_runV (As := [.int (gI st (b + 2) (5 : Int32).toNatClampNeg)]) (rest := []) C hP hS (m11 hb hL) (e11 hb) rfl (tX12_told C.2.2.2.2.2.2.1 (hL.mo (Nat.le_of_ble_eq_true rfl) (Nat.le_of_ble_eq_true rfl)) hb h) q1652 q1654 q65 q116 q1655 hdX12_told ⟨Nat.le_of_ble_eq_true rfl, Nat.le_of_ble_eq_true rfl⟩ ⟨Nat.zero_le _, Nat.zero_le _⟩ rfl hl.1 rfl (lv_room (Nat.le_of_ble_eq_true rfl)) dX12_falls_7) (fun r2 st1 H locs h hP hS => ?_)
  exact z_ri C hr hlk rfl hP hS h dX12_falls_10
def rmX12_notes : Room := { frames := 1, cells := 0, slots := 0, locals := 21 }
def wX12_notes (b : Nat) (st : St) (Q : Int32 → St → Prop) : Prop :=
  (vp_in 6 50 ∧ (wX12_told b (gI st (b + 2) (6 : Int32).toNatClampNeg) st (fun r2 st1 => Q r2 st1)))
theorem hdX12_notes : yX12_notes.cls = "PlankBridgeModel" ∧ yX12_notes.cls ≠ "java/lang/invoke/MethodHandle" ∧ yX12_notes.cls ≠ "java/lang/invoke/VarHandle" ∧ (parseMethodDescriptor yX12_notes.desc).map (fun d => d.parameters.length) = some 0 := by decide +kernel
set_option maxHeartbeats 4000000 in
set_option maxRecDepth 100000 in
theorem tX12_notes {l : Launch} {E : En0} {L : List Nat} (hE : EK E L) (hL : Cov 54 67 L) {b : Nat} {st : St} {Q : Int32 → St → Prop} (hb : kd b = 11) (h : wX12_notes b st Q) : Mz l yX12_notes cX12_notes 1 (some .int) rmX12_notes E L [.ref (E.2.1 b)] st (zI E L Q) := by
  refine Mz.of hE (by decide) (Nat.le_of_ble_eq_true rfl) ?_
  intro p e s m below meth c ls C hr hlk _ hl hP
  replace C : Cx E L "PlankBridgeModel" cX12_notes 1 p s m _ c := C
  have hS : va_S (fA E L s.heap.size) s.heap s.heap [] := va_S.rf
  replace hl : lv_has ls 1 [(0, .ref (E.2.1 b))] := hl
  unfold wX12_notes at h
  refine lv_aload_n C.1 C.2.1 dX12_notes_0 rfl (lv_at hl 0 rfl) ?_
  refine lv_aload_n C.1 C.2.1 dX12_notes_1 rfl (lv_at hl 0 rfl) ?_
  refine gf11_5 C hP hb (m11 hb hL) q1384 dX12_notes_2 ?_
  refine lv_bipush C.1 C.2.1 (v := 6) dX12_notes_5 rfl ?_
  obtain ⟨hi, h⟩ := h
  refine z_iald C hP (k11_2 hb) (l11_2 hb) (m11_2 hb hL) hi dX12_notes_7 ?_
  refine z_ki hS (z_runV (As := [.int (gI st (b + 2) (6 : Int32).toNatClampNeg)]) (rest := []) C hP hS (m11 hb hL) (e11 hb) rfl (tX12_told C.2.2.2.2.2.2.1 (hL.mo (Nat.le_of_ble_eq_true rfl) (Nat.le_of_ble_eq_true rfl)) hb h) q1652 q1654 q65 q116 q1655 hdX12_told ⟨Nat.le_of_ble_eq_true rfl, Nat.le_of_ble_eq_true rfl⟩ ⟨Nat.zero_le _, Nat.zero_le _⟩ rfl hl.1 rfl (lv_room (Nat.le_of_ble_eq_true rfl)) dX12_notes_8) (fun r2 st1 H locs h hP hS => ?_)
  exact z_ri C hr hlk rfl hP hS h dX12_notes_11
def rmX12_noteOf : Room := { frames := 1, cells := 0, slots := 0, locals := 22 }
def wX12_noteOf (b : Nat) (p1 : Int32) (st : St) (Q : Int32 → St → Prop) : Prop :=
  (∀ st1, st1 = uI st b 0 0 → (vp_in 6 50 ∧ (wX12_isIn p1 0 ((if (gI st1 (b + 2) (6 : Int32).toNatClampNeg) < 10 then (gI st1 (b + 2) (6 : Int32).toNatClampNeg) else 10) - 1) st1 (fun r3 st2 => ((r3 = 0 → (wX12_fail b 1 st2 (fun r5 st4 => Q r5 st4))) ∧ (¬ r3 = 0 → (vp_in ((40 : Int32) + p1) 50 ∧ Q (gI st2 (b + 2) ((40 : Int32) + p1 : Int32).toNatClampNeg) st2)))))))
theorem hdX12_noteOf : yX12_noteOf.cls = "PlankBridgeModel" ∧ yX12_noteOf.cls ≠ "java/lang/invoke/MethodHandle" ∧ yX12_noteOf.cls ≠ "java/lang/invoke/VarHandle" ∧ (parseMethodDescriptor yX12_noteOf.desc).map (fun d => d.parameters.length) = some 1 := by decide +kernel
set_option maxHeartbeats 4000000 in
set_option maxRecDepth 100000 in
theorem tX12_noteOf {l : Launch} {E : En0} {L : List Nat} (hE : EK E L) (hL : Cov 54 67 L) {b : Nat} {p1 : Int32} {st : St} {Q : Int32 → St → Prop} (hb : kd b = 11) (h : wX12_noteOf b p1 st Q) : Mz l yX12_noteOf cX12_noteOf 2 (some .int) rmX12_noteOf E L [.ref (E.2.1 b), .int p1] st (zI E L Q) := by
  refine Mz.of hE (by decide) (Nat.le_of_ble_eq_true rfl) ?_
  intro p e s m below meth c ls C hr hlk _ hl hP
  replace C : Cx E L "PlankBridgeModel" cX12_noteOf 2 p s m _ c := C
  have hS : va_S (fA E L s.heap.size) s.heap s.heap [] := va_S.rf
  replace hl : lv_has ls 2 [(0, .ref (E.2.1 b)), (1, .int p1)] := hl
  unfold wX12_noteOf at h
  refine lv_aload_n C.1 C.2.1 dX12_noteOf_0 rfl (lv_at hl 0 rfl) ?_
  refine lv_iconst C.1 C.2.1 (v := 0) dX12_noteOf_1 rfl ?_
  refine pf11_0 C hP hS hb (m11 hb hL) q1377 dX12_noteOf_2 (fun H locs hP hS => ?_)
  obtain ⟨st1, est1⟩ : ∃ z, z = uI st b 0 0 := ⟨_, rfl⟩
  rw [← est1] at hP; have h := h st1 est1
  refine lv_iload_n C.1 C.2.1 dX12_noteOf_5 rfl (lv_at hl 1 rfl) ?_
  refine lv_iconst C.1 C.2.1 (v := 0) dX12_noteOf_6 rfl ?_
  refine lv_bipush C.1 C.2.1 (v := 10) dX12_noteOf_7 rfl ?_
  refine lv_aload_n C.1 C.2.1 dX12_noteOf_9 rfl (lv_at hl 0 rfl) ?_
  refine gf11_5 C hP hb (m11 hb hL) q1384 dX12_noteOf_10 ?_
  refine lv_bipush C.1 C.2.1 (v := 6) dX12_noteOf_13 rfl ?_
  obtain ⟨hi, h⟩ := h
  refine z_iald C hP (k11_2 hb) (l11_2 hb) (m11_2 hb hL) hi dX12_noteOf_15 ?_
  refine va_mmin (rest := [.int 0, .int p1]) C.1 C.2.1 (C.2.2.1.trans hl.1.symm) C.2.2.2.1 (C.T q1865) (C.T q1866) (C.T q129) (C.T q1867) (Nat.le_of_ble_eq_true rfl) (Nat.le_of_ble_eq_true rfl) (Nat.zero_le _) (Nat.zero_le _) dX12_noteOf_16 ?_
  refine lv_iconst C.1 C.2.1 (v := 1) dX12_noteOf_19 rfl ?_
  refine lv_isub C.1 C.2.1 dX12_noteOf_20  ?_
  refine z_ki hS (z_runS (As := [.int p1, .int 0, .int ((if (gI st1 (b + 2) (6 : Int32).toNatClampNeg) < 10 then (gI st1 (b + 2) (6 : Int32).toNatClampNeg) else 10) - 1)]) (rest := []) C hP hS (tX12_isIn C.2.2.2.2.2.2.1 (hL.mo (Nat.le_of_ble_eq_true rfl) (Nat.le_of_ble_eq_true rfl))  h) q1423 q1424 q116 q1425 hdX12_isIn ⟨Nat.le_of_ble_eq_true rfl, Nat.le_of_ble_eq_true rfl⟩ ⟨Nat.zero_le _, Nat.zero_le _⟩ rfl hl.1 rfl (lv_room (Nat.le_of_ble_eq_true rfl)) dX12_noteOf_21) (fun r3 st2 H locs h hP hS => ?_)
  obtain ⟨hr3, h⟩ := h
  refine lv_if_eq C.1 C.2.1 (tgt := 39) dX12_noteOf_24 (by decide) (fun hc => ?_) (fun hc => ?_)
  · have h := h.1 hc
    refine lv_aload_n C.1 C.2.1 dX12_noteOf_39 rfl (lv_at hl 0 rfl) ?_
    refine lv_iconst C.1 C.2.1 (v := 1) dX12_noteOf_40 rfl ?_
    refine z_ki hS (z_runV (As := [.int 1]) (rest := []) C hP hS (m11 hb hL) (e11 hb) rfl (tX12_fail C.2.2.2.2.2.2.1 (hL.mo (Nat.le_of_ble_eq_true rfl) (Nat.le_of_ble_eq_true rfl)) hb h) q1415 q1417 q40 q116 q1418 hdX12_fail ⟨Nat.le_of_ble_eq_true rfl, Nat.le_of_ble_eq_true rfl⟩ ⟨Nat.zero_le _, Nat.zero_le _⟩ rfl hl.1 rfl (lv_room (Nat.le_of_ble_eq_true rfl)) dX12_noteOf_41) (fun r5 st4 H locs h hP hS => ?_)
    exact z_ri C hr hlk rfl hP hS h dX12_noteOf_44
  · have h := h.2 hc
    refine lv_aload_n C.1 C.2.1 dX12_noteOf_27 rfl (lv_at hl 0 rfl) ?_
    refine gf11_5 C hP hb (m11 hb hL) q1384 dX12_noteOf_28 ?_
    refine lv_bipush C.1 C.2.1 (v := 40) dX12_noteOf_31 rfl ?_
    refine lv_iload_n C.1 C.2.1 dX12_noteOf_33 rfl (lv_at hl 1 rfl) ?_
    refine lv_iadd C.1 C.2.1 dX12_noteOf_34  ?_
    obtain ⟨hi, h⟩ := h
    refine z_iald C hP (k11_2 hb) (l11_2 hb) (m11_2 hb hL) hi dX12_noteOf_35 ?_
    refine lv_goto C.1 C.2.1 (tgt := 44) dX12_noteOf_36 (by decide) ?_
    exact z_ri C hr hlk rfl hP hS h dX12_noteOf_44
def rmX12_leads : Room := { frames := 4, cells := 0, slots := 0, locals := 92 }
def wX12_leads (b : Nat) (p1 : Int32) (p2 : Int32) (st : St) (Q : Int32 → St → Prop) : Prop :=
  (wX12_canCross b p1 p2 st (fun r2 st1 => ((¬ r2 = 0 → (wX12_keep b st1 (fun st3 => (wX12_cross b p1 p2 st3 (fun r5 st4 => (wX12_bringBack b st4 (fun st6 => Q r5 st6))))))) ∧ (r2 = 0 → Q 0 st1))))
theorem hdX12_leads : yX12_leads.cls = "PlankBridgeModel" ∧ yX12_leads.cls ≠ "java/lang/invoke/MethodHandle" ∧ yX12_leads.cls ≠ "java/lang/invoke/VarHandle" ∧ (parseMethodDescriptor yX12_leads.desc).map (fun d => d.parameters.length) = some 2 := by decide +kernel
set_option maxHeartbeats 4000000 in
set_option maxRecDepth 100000 in
theorem tX12_leads {l : Launch} {E : En0} {L : List Nat} (hE : EK E L) (hL : Cov 54 67 L) {b : Nat} {p1 : Int32} {p2 : Int32} {st : St} {Q : Int32 → St → Prop} (hb : kd b = 11) (h : wX12_leads b p1 p2 st Q) : Mz l yX12_leads cX12_leads 4 (some .boolean) rmX12_leads E L [.ref (E.2.1 b), .int p1, .int p2] st (zI E L (fun r u => bz r ∧ Q r u)) := by
  refine Mz.of hE (by decide) (Nat.le_of_ble_eq_true rfl) ?_
  intro p e s m below meth c ls C hr hlk _ hl hP
  replace C : Cx E L "PlankBridgeModel" cX12_leads 4 p s m _ c := C
  have hS : va_S (fA E L s.heap.size) s.heap s.heap [] := va_S.rf
  replace hl : lv_has ls 4 [(0, .ref (E.2.1 b)), (1, .int p1), (2, .int p2)] := hl
  unfold wX12_leads at h
  refine lv_aload_n C.1 C.2.1 dX12_leads_0 rfl (lv_at hl 0 rfl) ?_
  refine lv_iload_n C.1 C.2.1 dX12_leads_1 rfl (lv_at hl 1 rfl) ?_
  refine lv_iload_n C.1 C.2.1 dX12_leads_2 rfl (lv_at hl 2 rfl) ?_
  refine z_ki hS (z_runV (As := [.int p1, .int p2]) (rest := []) C hP hS (m11 hb hL) (e11 hb) rfl (tX12_canCross C.2.2.2.2.2.2.1 (hL.mo (Nat.le_of_ble_eq_true rfl) (Nat.le_of_ble_eq_true rfl)) hb h) q1777 q1779 q76 q116 q1780 hdX12_canCross ⟨Nat.le_of_ble_eq_true rfl, Nat.le_of_ble_eq_true rfl⟩ ⟨Nat.zero_le _, Nat.zero_le _⟩ rfl hl.1 rfl (lv_room (Nat.le_of_ble_eq_true rfl)) dX12_leads_3) (fun r2 st1 H locs h hP hS => ?_)
  obtain ⟨hr2, h⟩ := h
  refine lv_if_ne C.1 C.2.1 (tgt := 11) dX12_leads_6 (by decide) (fun hc => ?_) (fun hc => ?_)
  · have h := h.1 hc
    refine lv_aload_n C.1 C.2.1 dX12_leads_11 rfl (lv_at hl 0 rfl) ?_
    refine z_kv hS (z_runV (As := []) (rest := []) C hP hS (m11 hb hL) (e11 hb) rfl (tX12_keep C.2.2.2.2.2.2.1 (hL.mo (Nat.le_of_ble_eq_true rfl) (Nat.le_of_ble_eq_true rfl)) hb h) q1892 q1894 q95 q116 q1895 hdX12_keep ⟨Nat.le_of_ble_eq_true rfl, Nat.le_of_ble_eq_true rfl⟩ ⟨Nat.zero_le _, Nat.zero_le _⟩ rfl hl.1 rfl (lv_room (Nat.le_of_ble_eq_true rfl)) dX12_leads_12) (fun st3 H locs h hP hS => ?_)
    refine lv_aload_n C.1 C.2.1 dX12_leads_15 rfl (lv_at hl 0 rfl) ?_
    refine lv_iload_n C.1 C.2.1 dX12_leads_16 rfl (lv_at hl 1 rfl) ?_
    refine lv_iload_n C.1 C.2.1 dX12_leads_17 rfl (lv_at hl 2 rfl) ?_
    refine z_ki hS (z_runV (As := [.int p1, .int p2]) (rest := []) C hP hS (m11 hb hL) (e11 hb) rfl (tX12_cross C.2.2.2.2.2.2.1 (hL.mo (Nat.le_of_ble_eq_true rfl) (Nat.le_of_ble_eq_true rfl)) hb h) q1789 q1791 q79 q116 q1792 hdX12_cross ⟨Nat.le_of_ble_eq_true rfl, Nat.le_of_ble_eq_true rfl⟩ ⟨Nat.zero_le _, Nat.zero_le _⟩ rfl hl.1 rfl (lv_room (Nat.le_of_ble_eq_true rfl)) dX12_leads_18) (fun r5 st4 H locs h hP hS => ?_)
    obtain ⟨hr5, h⟩ := h
    refine lv_istore_n C.1 C.2.1 dX12_leads_21 rfl hl (Nat.le_of_ble_eq_true rfl) rfl (fun ls hl => ?_)
    have hl : lv_has ls 4 [(3, .int r5), (0, .ref (E.2.1 b)), (1, .int p1), (2, .int p2)] := hl
    refine lv_aload_n C.1 C.2.1 dX12_leads_22 rfl (lv_at hl 1 rfl) ?_
    refine z_kv hS (z_runV (As := []) (rest := []) C hP hS (m11 hb hL) (e11 hb) rfl (tX12_bringBack C.2.2.2.2.2.2.1 (hL.mo (Nat.le_of_ble_eq_true rfl) (Nat.le_of_ble_eq_true rfl)) hb h) q1896 q1898 q96 q116 q1899 hdX12_bringBack ⟨Nat.le_of_ble_eq_true rfl, Nat.le_of_ble_eq_true rfl⟩ ⟨Nat.zero_le _, Nat.zero_le _⟩ rfl hl.1 rfl (lv_room (Nat.le_of_ble_eq_true rfl)) dX12_leads_23) (fun st6 H locs h hP hS => ?_)
    refine lv_iload_n C.1 C.2.1 dX12_leads_26 rfl (lv_at hl 0 rfl) ?_
    exact z_ri C hr hlk (bz_n hr5) hP hS ⟨hr5, h⟩ dX12_leads_27
  · have h := h.2 hc
    refine lv_iconst C.1 C.2.1 (v := 0) dX12_leads_9 rfl ?_
    exact z_ri C hr hlk (bz_n bz0) hP hS ⟨bz0, h⟩ dX12_leads_10
def rmX12_canCrossAlone : Room := { frames := 5, cells := 0, slots := 0, locals := 115 }
def wX12_canCrossAlone (b : Nat) (p1 : Int32) (st : St) (Q : Int32 → St → Prop) : Prop :=
  (∀ st1, st1 = uI st b 0 0 → (wX12_isWalker b p1 st1 (fun r3 st2 => ((r3 = 0 → (wX12_failed b 1 st2 (fun r5 st4 => Q r5 st4))) ∧ (¬ r3 = 0 → (wX12_leads b p1 (-1) st2 (fun r7 st6 => Q r7 st6)))))))
theorem hdX12_canCrossAlone : yX12_canCrossAlone.cls = "PlankBridgeModel" ∧ yX12_canCrossAlone.cls ≠ "java/lang/invoke/MethodHandle" ∧ yX12_canCrossAlone.cls ≠ "java/lang/invoke/VarHandle" ∧ (parseMethodDescriptor yX12_canCrossAlone.desc).map (fun d => d.parameters.length) = some 1 := by decide +kernel
set_option maxHeartbeats 4000000 in
set_option maxRecDepth 100000 in
theorem tX12_canCrossAlone {l : Launch} {E : En0} {L : List Nat} (hE : EK E L) (hL : Cov 54 67 L) {b : Nat} {p1 : Int32} {st : St} {Q : Int32 → St → Prop} (hb : kd b = 11) (h : wX12_canCrossAlone b p1 st Q) : Mz l yX12_canCrossAlone cX12_canCrossAlone 2 (some .boolean) rmX12_canCrossAlone E L [.ref (E.2.1 b), .int p1] st (zI E L (fun r u => bz r ∧ Q r u)) := by
  refine Mz.of hE (by decide) (Nat.le_of_ble_eq_true rfl) ?_
  intro p e s m below meth c ls C hr hlk _ hl hP
  replace C : Cx E L "PlankBridgeModel" cX12_canCrossAlone 2 p s m _ c := C
  have hS : va_S (fA E L s.heap.size) s.heap s.heap [] := va_S.rf
  replace hl : lv_has ls 2 [(0, .ref (E.2.1 b)), (1, .int p1)] := hl
  unfold wX12_canCrossAlone at h
  refine lv_aload_n C.1 C.2.1 dX12_canCrossAlone_0 rfl (lv_at hl 0 rfl) ?_
  refine lv_iconst C.1 C.2.1 (v := 0) dX12_canCrossAlone_1 rfl ?_
  refine pf11_0 C hP hS hb (m11 hb hL) q1377 dX12_canCrossAlone_2 (fun H locs hP hS => ?_)
  obtain ⟨st1, est1⟩ : ∃ z, z = uI st b 0 0 := ⟨_, rfl⟩
  rw [← est1] at hP; have h := h st1 est1
  refine lv_aload_n C.1 C.2.1 dX12_canCrossAlone_5 rfl (lv_at hl 0 rfl) ?_
  refine lv_iload_n C.1 C.2.1 dX12_canCrossAlone_6 rfl (lv_at hl 1 rfl) ?_
  refine z_ki hS (z_runV (As := [.int p1]) (rest := []) C hP hS (m11 hb hL) (e11 hb) rfl (tX12_isWalker C.2.2.2.2.2.2.1 (hL.mo (Nat.le_of_ble_eq_true rfl) (Nat.le_of_ble_eq_true rfl)) hb h) q1672 q1674 q66 q116 q1675 hdX12_isWalker ⟨Nat.le_of_ble_eq_true rfl, Nat.le_of_ble_eq_true rfl⟩ ⟨Nat.zero_le _, Nat.zero_le _⟩ rfl hl.1 rfl (lv_room (Nat.le_of_ble_eq_true rfl)) dX12_canCrossAlone_7) (fun r3 st2 H locs h hP hS => ?_)
  obtain ⟨hr3, h⟩ := h
  refine lv_if_eq C.1 C.2.1 (tgt := 22) dX12_canCrossAlone_10 (by decide) (fun hc => ?_) (fun hc => ?_)
  · have h := h.1 hc
    refine lv_aload_n C.1 C.2.1 dX12_canCrossAlone_22 rfl (lv_at hl 0 rfl) ?_
    refine lv_iconst C.1 C.2.1 (v := 1) dX12_canCrossAlone_23 rfl ?_
    refine z_ki hS (z_runV (As := [.int 1]) (rest := []) C hP hS (m11 hb hL) (e11 hb) rfl (tX12_failed C.2.2.2.2.2.2.1 (hL.mo (Nat.le_of_ble_eq_true rfl) (Nat.le_of_ble_eq_true rfl)) hb h) q1684 q1686 q67 q116 q1687 hdX12_failed ⟨Nat.le_of_ble_eq_true rfl, Nat.le_of_ble_eq_true rfl⟩ ⟨Nat.zero_le _, Nat.zero_le _⟩ rfl hl.1 rfl (lv_room (Nat.le_of_ble_eq_true rfl)) dX12_canCrossAlone_24) (fun r5 st4 H locs h hP hS => ?_)
    obtain ⟨hr5, h⟩ := h
    exact z_ri C hr hlk (bz_n hr5) hP hS ⟨hr5, h⟩ dX12_canCrossAlone_27
  · have h := h.2 hc
    refine lv_aload_n C.1 C.2.1 dX12_canCrossAlone_13 rfl (lv_at hl 0 rfl) ?_
    refine lv_iload_n C.1 C.2.1 dX12_canCrossAlone_14 rfl (lv_at hl 1 rfl) ?_
    refine lv_iconst C.1 C.2.1 (v := (-1)) dX12_canCrossAlone_15 rfl ?_
    refine z_ki hS (z_runV (As := [.int p1, .int (-1)]) (rest := []) C hP hS (m11 hb hL) (e11 hb) rfl (tX12_leads C.2.2.2.2.2.2.1 (hL.mo (Nat.le_of_ble_eq_true rfl) (Nat.le_of_ble_eq_true rfl)) hb h) q1888 q1890 q94 q116 q1891 hdX12_leads ⟨Nat.le_of_ble_eq_true rfl, Nat.le_of_ble_eq_true rfl⟩ ⟨Nat.zero_le _, Nat.zero_le _⟩ rfl hl.1 rfl (lv_room (Nat.le_of_ble_eq_true rfl)) dX12_canCrossAlone_16) (fun r7 st6 H locs h hP hS => ?_)
    obtain ⟨hr7, h⟩ := h
    refine lv_goto C.1 C.2.1 (tgt := 27) dX12_canCrossAlone_19 (by decide) ?_
    exact z_ri C hr hlk (bz_n hr7) hP hS ⟨hr7, h⟩ dX12_canCrossAlone_27
def rmX12_canCrossTogether : Room := { frames := 5, cells := 0, slots := 0, locals := 115 }
def wX12_canCrossTogether (b : Nat) (p1 : Int32) (p2 : Int32) (st : St) (Q : Int32 → St → Prop) : Prop :=
  (wX12_areTwo b p1 p2 st (fun r2 st1 => ((r2 = 0 → Q 0 st1) ∧ (¬ r2 = 0 → (wX12_leads b p1 p2 st1 (fun r4 st3 => ((r4 = 0 → Q 0 st3) ∧ (¬ r4 = 0 → Q 1 st3))))))))
theorem hdX12_canCrossTogether : yX12_canCrossTogether.cls = "PlankBridgeModel" ∧ yX12_canCrossTogether.cls ≠ "java/lang/invoke/MethodHandle" ∧ yX12_canCrossTogether.cls ≠ "java/lang/invoke/VarHandle" ∧ (parseMethodDescriptor yX12_canCrossTogether.desc).map (fun d => d.parameters.length) = some 2 := by decide +kernel
set_option maxHeartbeats 4000000 in
set_option maxRecDepth 100000 in
theorem tX12_canCrossTogether {l : Launch} {E : En0} {L : List Nat} (hE : EK E L) (hL : Cov 54 67 L) {b : Nat} {p1 : Int32} {p2 : Int32} {st : St} {Q : Int32 → St → Prop} (hb : kd b = 11) (h : wX12_canCrossTogether b p1 p2 st Q) : Mz l yX12_canCrossTogether cX12_canCrossTogether 3 (some .boolean) rmX12_canCrossTogether E L [.ref (E.2.1 b), .int p1, .int p2] st (zI E L (fun r u => bz r ∧ Q r u)) := by
  refine Mz.of hE (by decide) (Nat.le_of_ble_eq_true rfl) ?_
  intro p e s m below meth c ls C hr hlk _ hl hP
  replace C : Cx E L "PlankBridgeModel" cX12_canCrossTogether 3 p s m _ c := C
  have hS : va_S (fA E L s.heap.size) s.heap s.heap [] := va_S.rf
  replace hl : lv_has ls 3 [(0, .ref (E.2.1 b)), (1, .int p1), (2, .int p2)] := hl
  unfold wX12_canCrossTogether at h
  refine lv_aload_n C.1 C.2.1 dX12_canCrossTogether_0 rfl (lv_at hl 0 rfl) ?_
  refine lv_iload_n C.1 C.2.1 dX12_canCrossTogether_1 rfl (lv_at hl 1 rfl) ?_
  refine lv_iload_n C.1 C.2.1 dX12_canCrossTogether_2 rfl (lv_at hl 2 rfl) ?_
  refine z_ki hS (z_runV (As := [.int p1, .int p2]) (rest := []) C hP hS (m11 hb hL) (e11 hb) rfl (tX12_areTwo C.2.2.2.2.2.2.1 (hL.mo (Nat.le_of_ble_eq_true rfl) (Nat.le_of_ble_eq_true rfl)) hb h) q1809 q1811 q83 q116 q1812 hdX12_areTwo ⟨Nat.le_of_ble_eq_true rfl, Nat.le_of_ble_eq_true rfl⟩ ⟨Nat.zero_le _, Nat.zero_le _⟩ rfl hl.1 rfl (lv_room (Nat.le_of_ble_eq_true rfl)) dX12_canCrossTogether_3) (fun r2 st1 H locs h hP hS => ?_)
  obtain ⟨hr2, h⟩ := h
  refine lv_if_eq C.1 C.2.1 (tgt := 22) dX12_canCrossTogether_6 (by decide) (fun hc => ?_) (fun hc => ?_)
  · have h := h.1 hc
    refine lv_iconst C.1 C.2.1 (v := 0) dX12_canCrossTogether_22 rfl ?_
    exact z_ri C hr hlk (bz_n bz0) hP hS ⟨bz0, h⟩ dX12_canCrossTogether_23
  · have h := h.2 hc
    refine lv_aload_n C.1 C.2.1 dX12_canCrossTogether_9 rfl (lv_at hl 0 rfl) ?_
    refine lv_iload_n C.1 C.2.1 dX12_canCrossTogether_10 rfl (lv_at hl 1 rfl) ?_
    refine lv_iload_n C.1 C.2.1 dX12_canCrossTogether_11 rfl (lv_at hl 2 rfl) ?_
    refine z_ki hS (z_runV (As := [.int p1, .int p2]) (rest := []) C hP hS (m11 hb hL) (e11 hb) rfl (tX12_leads C.2.2.2.2.2.2.1 (hL.mo (Nat.le_of_ble_eq_true rfl) (Nat.le_of_ble_eq_true rfl)) hb h) q1888 q1890 q94 q116 q1891 hdX12_leads ⟨Nat.le_of_ble_eq_true rfl, Nat.le_of_ble_eq_true rfl⟩ ⟨Nat.zero_le _, Nat.zero_le _⟩ rfl hl.1 rfl (lv_room (Nat.le_of_ble_eq_true rfl)) dX12_canCrossTogether_12) (fun r4 st3 H locs h hP hS => ?_)
    obtain ⟨hr4, h⟩ := h
    refine lv_if_eq C.1 C.2.1 (tgt := 22) dX12_canCrossTogether_15 (by decide) (fun hc => ?_) (fun hc => ?_)
    · have h := h.1 hc
      refine lv_iconst C.1 C.2.1 (v := 0) dX12_canCrossTogether_22 rfl ?_
      exact z_ri C hr hlk (bz_n bz0) hP hS ⟨bz0, h⟩ dX12_canCrossTogether_23
    · have h := h.2 hc
      refine lv_iconst C.1 C.2.1 (v := 1) dX12_canCrossTogether_18 rfl ?_
      refine lv_goto C.1 C.2.1 (tgt := 23) dX12_canCrossTogether_19 (by decide) ?_
      exact z_ri C hr hlk (bz_n bz1) hP hS ⟨bz1, h⟩ dX12_canCrossTogether_23
def rmX12_fewest : Room := { frames := 3, cells := 0, slots := 0, locals := 74 }
def wX12_fewest (b : Nat) (st : St) (Q : Int32 → St → Prop) : Prop :=
  (wX12_near b st (fun r2 st1 => ((¬ r2 = 0 → (wX12_reckon b st1 (fun st3 => (wX12_state b st3 (fun r5 st4 => (vp_in r5 512 ∧ Q (gI st4 (b + 5) (r5 : Int32).toNatClampNeg) st4)))))) ∧ (r2 = 0 → Q 0 st1))))
theorem hdX12_fewest : yX12_fewest.cls = "PlankBridgeModel" ∧ yX12_fewest.cls ≠ "java/lang/invoke/MethodHandle" ∧ yX12_fewest.cls ≠ "java/lang/invoke/VarHandle" ∧ (parseMethodDescriptor yX12_fewest.desc).map (fun d => d.parameters.length) = some 0 := by decide +kernel
set_option maxHeartbeats 4000000 in
set_option maxRecDepth 100000 in
theorem tX12_fewest {l : Launch} {E : En0} {L : List Nat} (hE : EK E L) (hL : Cov 54 67 L) {b : Nat} {st : St} {Q : Int32 → St → Prop} (hb : kd b = 11) (h : wX12_fewest b st Q) : Mz l yX12_fewest cX12_fewest 1 (some .int) rmX12_fewest E L [.ref (E.2.1 b)] st (zI E L Q) := by
  refine Mz.of hE (by decide) (Nat.le_of_ble_eq_true rfl) ?_
  intro p e s m below meth c ls C hr hlk _ hl hP
  replace C : Cx E L "PlankBridgeModel" cX12_fewest 1 p s m _ c := C
  have hS : va_S (fA E L s.heap.size) s.heap s.heap [] := va_S.rf
  replace hl : lv_has ls 1 [(0, .ref (E.2.1 b))] := hl
  unfold wX12_fewest at h
  refine lv_aload_n C.1 C.2.1 dX12_fewest_0 rfl (lv_at hl 0 rfl) ?_
  refine z_ki hS (z_runV (As := []) (rest := []) C hP hS (m11 hb hL) (e11 hb) rfl (tX12_near C.2.2.2.2.2.2.1 (hL.mo (Nat.le_of_ble_eq_true rfl) (Nat.le_of_ble_eq_true rfl)) hb h) q1692 q1694 q68 q116 q1695 hdX12_near ⟨Nat.le_of_ble_eq_true rfl, Nat.le_of_ble_eq_true rfl⟩ ⟨Nat.zero_le _, Nat.zero_le _⟩ rfl hl.1 rfl (lv_room (Nat.le_of_ble_eq_true rfl)) dX12_fewest_1) (fun r2 st1 H locs h hP hS => ?_)
  refine lv_if_ne C.1 C.2.1 (tgt := 9) dX12_fewest_4 (by decide) (fun hc => ?_) (fun hc => ?_)
  · have h := h.1 hc
    refine lv_aload_n C.1 C.2.1 dX12_fewest_9 rfl (lv_at hl 0 rfl) ?_
    refine z_kv hS (z_runV (As := []) (rest := []) C hP hS (m11 hb hL) (e11 hb) rfl (tX12_reckon C.2.2.2.2.2.2.1 (hL.mo (Nat.le_of_ble_eq_true rfl) (Nat.le_of_ble_eq_true rfl)) hb h) q1912 q1914 q98 q116 q1915 hdX12_reckon ⟨Nat.le_of_ble_eq_true rfl, Nat.le_of_ble_eq_true rfl⟩ ⟨Nat.zero_le _, Nat.zero_le _⟩ rfl hl.1 rfl (lv_room (Nat.le_of_ble_eq_true rfl)) dX12_fewest_10) (fun st3 H locs h hP hS => ?_)
    refine lv_aload_n C.1 C.2.1 dX12_fewest_13 rfl (lv_at hl 0 rfl) ?_
    refine gf11_8 C hP hb (m11 hb hL) q1387 dX12_fewest_14 ?_
    refine lv_aload_n C.1 C.2.1 dX12_fewest_17 rfl (lv_at hl 0 rfl) ?_
    refine z_ki hS (z_runV (As := []) (rest := [.ref (E.2.1 ((b + 5)))]) C hP hS (m11 hb hL) (e11 hb) rfl (tX12_state C.2.2.2.2.2.2.1 (hL.mo (Nat.le_of_ble_eq_true rfl) (Nat.le_of_ble_eq_true rfl)) hb h) q1921 q1923 q100 q116 q1924 hdX12_state ⟨Nat.le_of_ble_eq_true rfl, Nat.le_of_ble_eq_true rfl⟩ ⟨Nat.zero_le _, Nat.zero_le _⟩ rfl hl.1 rfl (lv_room (Nat.le_of_ble_eq_true rfl)) dX12_fewest_18) (fun r5 st4 H locs h hP hS => ?_)
    obtain ⟨hi, h⟩ := h
    refine z_iald C hP (k11_5 hb) (l11_5 hb) (m11_5 hb hL) hi dX12_fewest_21 ?_
    exact z_ri C hr hlk rfl hP hS h dX12_fewest_22
  · have h := h.2 hc
    refine lv_iconst C.1 C.2.1 (v := 0) dX12_fewest_7 rfl ?_
    exact z_ri C hr hlk rfl hP hS h dX12_fewest_8
def rmX12_fewestMinutes : Room := { frames := 4, cells := 0, slots := 0, locals := 94 }
def wX12_fewestMinutes (b : Nat) (st : St) (Q : Int32 → St → Prop) : Prop :=
  (wX12_fewest b st (fun r2 st1 => (wX12_told b r2 st1 (fun r4 st3 => Q r4 st3))))
theorem hdX12_fewestMinutes : yX12_fewestMinutes.cls = "PlankBridgeModel" ∧ yX12_fewestMinutes.cls ≠ "java/lang/invoke/MethodHandle" ∧ yX12_fewestMinutes.cls ≠ "java/lang/invoke/VarHandle" ∧ (parseMethodDescriptor yX12_fewestMinutes.desc).map (fun d => d.parameters.length) = some 0 := by decide +kernel
set_option maxHeartbeats 4000000 in
set_option maxRecDepth 100000 in
theorem tX12_fewestMinutes {l : Launch} {E : En0} {L : List Nat} (hE : EK E L) (hL : Cov 54 67 L) {b : Nat} {st : St} {Q : Int32 → St → Prop} (hb : kd b = 11) (h : wX12_fewestMinutes b st Q) : Mz l yX12_fewestMinutes cX12_fewestMinutes 1 (some .int) rmX12_fewestMinutes E L [.ref (E.2.1 b)] st (zI E L Q) := by
  refine Mz.of hE (by decide) (Nat.le_of_ble_eq_true rfl) ?_
  intro p e s m below meth c ls C hr hlk _ hl hP
  replace C : Cx E L "PlankBridgeModel" cX12_fewestMinutes 1 p s m _ c := C
  have hS : va_S (fA E L s.heap.size) s.heap s.heap [] := va_S.rf
  replace hl : lv_has ls 1 [(0, .ref (E.2.1 b))] := hl
  unfold wX12_fewestMinutes at h
  refine lv_aload_n C.1 C.2.1 dX12_fewestMinutes_0 rfl (lv_at hl 0 rfl) ?_
  refine lv_aload_n C.1 C.2.1 dX12_fewestMinutes_1 rfl (lv_at hl 0 rfl) ?_
  refine z_ki hS (z_runV (As := []) (rest := [.ref (E.2.1 b)]) C hP hS (m11 hb hL) (e11 hb) rfl (tX12_fewest C.2.2.2.2.2.2.1 (hL.mo (Nat.le_of_ble_eq_true rfl) (Nat.le_of_ble_eq_true rfl)) hb h) q1908 q1910 q97 q116 q1911 hdX12_fewest ⟨Nat.le_of_ble_eq_true rfl, Nat.le_of_ble_eq_true rfl⟩ ⟨Nat.zero_le _, Nat.zero_le _⟩ rfl hl.1 rfl (lv_room (Nat.le_of_ble_eq_true rfl)) dX12_fewestMinutes_2) (fun r2 st1 H locs h hP hS => ?_)
  refine z_ki hS (z_runV (As := [.int r2]) (rest := []) C hP hS (m11 hb hL) (e11 hb) rfl (tX12_told C.2.2.2.2.2.2.1 (hL.mo (Nat.le_of_ble_eq_true rfl) (Nat.le_of_ble_eq_true rfl)) hb h) q1652 q1654 q65 q116 q1655 hdX12_told ⟨Nat.le_of_ble_eq_true rfl, Nat.le_of_ble_eq_true rfl⟩ ⟨Nat.zero_le _, Nat.zero_le _⟩ rfl hl.1 rfl (lv_room (Nat.le_of_ble_eq_true rfl)) dX12_fewestMinutes_5) (fun r4 st3 H locs h hP hS => ?_)
  exact z_ri C hr hlk rfl hP hS h dX12_fewestMinutes_8
def rmX12_firstToCross : Room := { frames := 4, cells := 0, slots := 0, locals := 96 }
def wX12_firstToCross (b : Nat) (st : St) (Q : Int32 → St → Prop) : Prop :=
  (∀ st1, st1 = uI st b 0 0 → (wX12_near b st1 (fun r3 st2 => ((¬ r3 = 0 → (wX12_first b st2 (fun r5 st4 => Q r5 st4))) ∧ (r3 = 0 → (wX12_fail b 1 st2 (fun r7 st6 => Q r7 st6)))))))
theorem hdX12_firstToCross : yX12_firstToCross.cls = "PlankBridgeModel" ∧ yX12_firstToCross.cls ≠ "java/lang/invoke/MethodHandle" ∧ yX12_firstToCross.cls ≠ "java/lang/invoke/VarHandle" ∧ (parseMethodDescriptor yX12_firstToCross.desc).map (fun d => d.parameters.length) = some 0 := by decide +kernel
set_option maxHeartbeats 4000000 in
set_option maxRecDepth 100000 in
theorem tX12_firstToCross {l : Launch} {E : En0} {L : List Nat} (hE : EK E L) (hL : Cov 54 67 L) {b : Nat} {st : St} {Q : Int32 → St → Prop} (hb : kd b = 11) (h : wX12_firstToCross b st Q) : Mz l yX12_firstToCross cX12_firstToCross 1 (some .int) rmX12_firstToCross E L [.ref (E.2.1 b)] st (zI E L Q) := by
  refine Mz.of hE (by decide) (Nat.le_of_ble_eq_true rfl) ?_
  intro p e s m below meth c ls C hr hlk _ hl hP
  replace C : Cx E L "PlankBridgeModel" cX12_firstToCross 1 p s m _ c := C
  have hS : va_S (fA E L s.heap.size) s.heap s.heap [] := va_S.rf
  replace hl : lv_has ls 1 [(0, .ref (E.2.1 b))] := hl
  unfold wX12_firstToCross at h
  refine lv_aload_n C.1 C.2.1 dX12_firstToCross_0 rfl (lv_at hl 0 rfl) ?_
  refine lv_iconst C.1 C.2.1 (v := 0) dX12_firstToCross_1 rfl ?_
  refine pf11_0 C hP hS hb (m11 hb hL) q1377 dX12_firstToCross_2 (fun H locs hP hS => ?_)
  obtain ⟨st1, est1⟩ : ∃ z, z = uI st b 0 0 := ⟨_, rfl⟩
  rw [← est1] at hP; have h := h st1 est1
  refine lv_aload_n C.1 C.2.1 dX12_firstToCross_5 rfl (lv_at hl 0 rfl) ?_
  refine z_ki hS (z_runV (As := []) (rest := []) C hP hS (m11 hb hL) (e11 hb) rfl (tX12_near C.2.2.2.2.2.2.1 (hL.mo (Nat.le_of_ble_eq_true rfl) (Nat.le_of_ble_eq_true rfl)) hb h) q1692 q1694 q68 q116 q1695 hdX12_near ⟨Nat.le_of_ble_eq_true rfl, Nat.le_of_ble_eq_true rfl⟩ ⟨Nat.zero_le _, Nat.zero_le _⟩ rfl hl.1 rfl (lv_room (Nat.le_of_ble_eq_true rfl)) dX12_firstToCross_6) (fun r3 st2 H locs h hP hS => ?_)
  refine lv_if_ne C.1 C.2.1 (tgt := 20) dX12_firstToCross_9 (by decide) (fun hc => ?_) (fun hc => ?_)
  · have h := h.1 hc
    refine lv_aload_n C.1 C.2.1 dX12_firstToCross_20 rfl (lv_at hl 0 rfl) ?_
    refine z_ki hS (z_runV (As := []) (rest := []) C hP hS (m11 hb hL) (e11 hb) rfl (tX12_first C.2.2.2.2.2.2.1 (hL.mo (Nat.le_of_ble_eq_true rfl) (Nat.le_of_ble_eq_true rfl)) hb h) q1929 q1931 q101 q116 q1932 hdX12_first ⟨Nat.le_of_ble_eq_true rfl, Nat.le_of_ble_eq_true rfl⟩ ⟨Nat.zero_le _, Nat.zero_le _⟩ rfl hl.1 rfl (lv_room (Nat.le_of_ble_eq_true rfl)) dX12_firstToCross_21) (fun r5 st4 H locs h hP hS => ?_)
    exact z_ri C hr hlk rfl hP hS h dX12_firstToCross_24
  · have h := h.2 hc
    refine lv_aload_n C.1 C.2.1 dX12_firstToCross_12 rfl (lv_at hl 0 rfl) ?_
    refine lv_iconst C.1 C.2.1 (v := 1) dX12_firstToCross_13 rfl ?_
    refine z_ki hS (z_runV (As := [.int 1]) (rest := []) C hP hS (m11 hb hL) (e11 hb) rfl (tX12_fail C.2.2.2.2.2.2.1 (hL.mo (Nat.le_of_ble_eq_true rfl) (Nat.le_of_ble_eq_true rfl)) hb h) q1415 q1417 q40 q116 q1418 hdX12_fail ⟨Nat.le_of_ble_eq_true rfl, Nat.le_of_ble_eq_true rfl⟩ ⟨Nat.zero_le _, Nat.zero_le _⟩ rfl hl.1 rfl (lv_room (Nat.le_of_ble_eq_true rfl)) dX12_firstToCross_14) (fun r7 st6 H locs h hP hS => ?_)
    refine lv_goto C.1 C.2.1 (tgt := 24) dX12_firstToCross_17 (by decide) ?_
    exact z_ri C hr hlk rfl hP hS h dX12_firstToCross_24
def rmX12_secondToCross : Room := { frames := 4, cells := 0, slots := 0, locals := 96 }
def wX12_secondToCross_L36 (b : Nat)  (R36 : Int32 × Int32 × St → Prop) (v1 : Int32) (v2 : Int32) (st : St) (Q : Int32 → St → Prop) : Prop :=
  (((gI st 60 0) ≤ v2 → Q (-1) st) ∧ (¬ (gI st 60 0) ≤ v2 → (wX12_canBegin b v1 v2 st (fun r11 st10 => ((r11 = 0 → (∀ x12 : Int32, x12 = v2 + 1 → R36 (v1, x12, st10))) ∧ (¬ r11 = 0 → Q v2 st10))))))
def wX12_secondToCross (b : Nat) (st : St) (Q : Int32 → St → Prop) : Prop :=
  (∀ st1, st1 = uI st b 0 0 → (wX12_near b st1 (fun r3 st2 => ((¬ r3 = 0 → (wX12_first b st2 (fun r5 st4 => (wX12_canBegin b r5 r5 st4 (fun r7 st6 => ((r7 = 0 → (∃ n, lp (fun R s => wX12_secondToCross_L36 b R s.1 s.2.1 s.2.2 Q) n (r5, 0, st6))) ∧ (¬ r7 = 0 → Q (-1) st6))))))) ∧ (r3 = 0 → (wX12_fail b 1 st2 (fun r9 st8 => Q r9 st8)))))))
theorem hdX12_secondToCross : yX12_secondToCross.cls = "PlankBridgeModel" ∧ yX12_secondToCross.cls ≠ "java/lang/invoke/MethodHandle" ∧ yX12_secondToCross.cls ≠ "java/lang/invoke/VarHandle" ∧ (parseMethodDescriptor yX12_secondToCross.desc).map (fun d => d.parameters.length) = some 0 := by decide +kernel
set_option maxHeartbeats 4000000 in
set_option maxRecDepth 100000 in
theorem tX12_secondToCross_L36 {l : Launch} {p : Program} {e : Env} {s : State} {m : MethodId} {args : Array Value} {below : List Frame} {meth : Method} {c : Code} {E : En0} {L : List Nat} (hL : Cov 54 67 L) (C : Cx E L "PlankBridgeModel" cX12_secondToCross 3 p s m args c) (hr : meth.sig.returnType = (some .int)) (hlk : meth.locks = false) {b : Nat} {Q : Int32 → St → Prop} (hb : kd b = 11) : ∀ (n : Nat) (v1 : Int32) (v2 : Int32) (st : St) (H : Heap) (locs : List Loc) (ls : Array Slot), lp (fun R s => wX12_secondToCross_L36 b R s.1 s.2.1 s.2.2 Q) n (v1, v2, st) → lv_has ls 3 [(0, .ref (E.2.1 b)), (1, .int v1), (2, .int v2)] → va_P E.1 vwCl (wd E L st) H → va_S (fA E L s.heap.size) s.heap H locs → W p l e rmX12_secondToCross s m args below meth c H locs 0 0 (MQ below (zI E L Q (fA E L s.heap.size)) args s rmX12_secondToCross.cells rmX12_secondToCross.slots (fA E L s.heap.size)) (F0 m 36 ls []) := by
  intro n
  induction n with
  | zero => exact fun _ _ _ _ _ _ h _ _ _ => False.elim ‹_›
  | succ n ih =>
    intro v1 v2 st  H locs ls h hl hP hS
    have hR36 := ih
    replace h : wX12_secondToCross_L36 b (lp (fun R s => wX12_secondToCross_L36 b R s.1 s.2.1 s.2.2 Q) n) v1 v2 st Q := h
    unfold wX12_secondToCross_L36 at h
    refine lv_iload_n C.1 C.2.1 dX12_secondToCross_36 rfl (lv_at hl 2 rfl) ?_
    refine lv_aload_n C.1 C.2.1 dX12_secondToCross_37 rfl (lv_at hl 0 rfl) ?_
    refine gf11_4 C hP hb (m11 hb hL) q1383 dX12_secondToCross_38 ?_
    refine gf9_0 C hP (show kd 60 = 9 from rfl) (hL 60 (Nat.le_of_ble_eq_true rfl) (Nat.le_of_ble_eq_true rfl)) q1320 dX12_secondToCross_41 ?_
    refine lv_icmp_ge C.1 C.2.1 (tgt := 64) dX12_secondToCross_44 (by decide) (fun hc => ?_) (fun hc => ?_)
    · have h := h.1 hc
      refine lv_iconst C.1 C.2.1 (v := (-1)) dX12_secondToCross_64 rfl ?_
      exact z_ri C hr hlk rfl hP hS h dX12_secondToCross_65
    · have h := h.2 hc
      refine lv_aload_n C.1 C.2.1 dX12_secondToCross_47 rfl (lv_at hl 0 rfl) ?_
      refine lv_iload_n C.1 C.2.1 dX12_secondToCross_48 rfl (lv_at hl 1 rfl) ?_
      refine lv_iload_n C.1 C.2.1 dX12_secondToCross_49 rfl (lv_at hl 2 rfl) ?_
      refine z_ki hS (z_runV (As := [.int v1, .int v2]) (rest := []) C hP hS (m11 hb hL) (e11 hb) rfl (tX12_canBegin C.2.2.2.2.2.2.1 (hL.mo (Nat.le_of_ble_eq_true rfl) (Nat.le_of_ble_eq_true rfl)) hb h) q1933 q1935 q102 q116 q1936 hdX12_canBegin ⟨Nat.le_of_ble_eq_true rfl, Nat.le_of_ble_eq_true rfl⟩ ⟨Nat.zero_le _, Nat.zero_le _⟩ rfl hl.1 rfl (lv_room (Nat.le_of_ble_eq_true rfl)) dX12_secondToCross_50) (fun r11 st10 H locs h hP hS => ?_)
      obtain ⟨hr11, h⟩ := h
      refine lv_if_eq C.1 C.2.1 (tgt := 58) dX12_secondToCross_53 (by decide) (fun hc => ?_) (fun hc => ?_)
      · have h := h.1 hc
        obtain ⟨x12, ex12⟩ : ∃ z, z = v2 + 1 := ⟨_, rfl⟩
        have h := h x12 ex12
        refine lv_iinc C.1 C.2.1 dX12_secondToCross_58 hl (k := 2) rfl ex12.symm (Nat.le_of_ble_eq_true rfl) rfl (fun ls hl => ?_)
        have hl : lv_has ls 3 [(2, .int x12), (0, .ref (E.2.1 b)), (1, .int v1)] := hl
        refine lv_goto C.1 C.2.1 (tgt := 36) dX12_secondToCross_61 (by decide) ?_
        exact hR36 v1 x12 st10 _ _ _ h (lv_sub hl [1, 2, 0] rfl) hP hS
      · have h := h.2 hc
        refine lv_iload_n C.1 C.2.1 dX12_secondToCross_56 rfl (lv_at hl 2 rfl) ?_
        exact z_ri C hr hlk rfl hP hS h dX12_secondToCross_57
set_option maxHeartbeats 4000000 in
set_option maxRecDepth 100000 in
theorem tX12_secondToCross {l : Launch} {E : En0} {L : List Nat} (hE : EK E L) (hL : Cov 54 67 L) {b : Nat} {st : St} {Q : Int32 → St → Prop} (hb : kd b = 11) (h : wX12_secondToCross b st Q) : Mz l yX12_secondToCross cX12_secondToCross 3 (some .int) rmX12_secondToCross E L [.ref (E.2.1 b)] st (zI E L Q) := by
  refine Mz.of hE (by decide) (Nat.le_of_ble_eq_true rfl) ?_
  intro p e s m below meth c ls C hr hlk _ hl hP
  replace C : Cx E L "PlankBridgeModel" cX12_secondToCross 3 p s m _ c := C
  have hS : va_S (fA E L s.heap.size) s.heap s.heap [] := va_S.rf
  replace hl : lv_has ls 3 [(0, .ref (E.2.1 b))] := hl
  unfold wX12_secondToCross at h
  refine lv_aload_n C.1 C.2.1 dX12_secondToCross_0 rfl (lv_at hl 0 rfl) ?_
  refine lv_iconst C.1 C.2.1 (v := 0) dX12_secondToCross_1 rfl ?_
  refine pf11_0 C hP hS hb (m11 hb hL) q1377 dX12_secondToCross_2 (fun H locs hP hS => ?_)
  obtain ⟨st1, est1⟩ : ∃ z, z = uI st b 0 0 := ⟨_, rfl⟩
  rw [← est1] at hP; have h := h st1 est1
  refine lv_aload_n C.1 C.2.1 dX12_secondToCross_5 rfl (lv_at hl 0 rfl) ?_
  refine z_ki hS (z_runV (As := []) (rest := []) C hP hS (m11 hb hL) (e11 hb) rfl (tX12_near C.2.2.2.2.2.2.1 (hL.mo (Nat.le_of_ble_eq_true rfl) (Nat.le_of_ble_eq_true rfl)) hb h) q1692 q1694 q68 q116 q1695 hdX12_near ⟨Nat.le_of_ble_eq_true rfl, Nat.le_of_ble_eq_true rfl⟩ ⟨Nat.zero_le _, Nat.zero_le _⟩ rfl hl.1 rfl (lv_room (Nat.le_of_ble_eq_true rfl)) dX12_secondToCross_6) (fun r3 st2 H locs h hP hS => ?_)
  refine lv_if_ne C.1 C.2.1 (tgt := 18) dX12_secondToCross_9 (by decide) (fun hc => ?_) (fun hc => ?_)
  · have h := h.1 hc
    refine lv_aload_n C.1 C.2.1 dX12_secondToCross_18 rfl (lv_at hl 0 rfl) ?_
    refine z_ki hS (z_runV (As := []) (rest := []) C hP hS (m11 hb hL) (e11 hb) rfl (tX12_first C.2.2.2.2.2.2.1 (hL.mo (Nat.le_of_ble_eq_true rfl) (Nat.le_of_ble_eq_true rfl)) hb h) q1929 q1931 q101 q116 q1932 hdX12_first ⟨Nat.le_of_ble_eq_true rfl, Nat.le_of_ble_eq_true rfl⟩ ⟨Nat.zero_le _, Nat.zero_le _⟩ rfl hl.1 rfl (lv_room (Nat.le_of_ble_eq_true rfl)) dX12_secondToCross_19) (fun r5 st4 H locs h hP hS => ?_)
    refine lv_istore_n C.1 C.2.1 dX12_secondToCross_22 rfl hl (Nat.le_of_ble_eq_true rfl) rfl (fun ls hl => ?_)
    have hl : lv_has ls 3 [(1, .int r5), (0, .ref (E.2.1 b))] := hl
    refine lv_aload_n C.1 C.2.1 dX12_secondToCross_23 rfl (lv_at hl 1 rfl) ?_
    refine lv_iload_n C.1 C.2.1 dX12_secondToCross_24 rfl (lv_at hl 0 rfl) ?_
    refine lv_iload_n C.1 C.2.1 dX12_secondToCross_25 rfl (lv_at hl 0 rfl) ?_
    refine z_ki hS (z_runV (As := [.int r5, .int r5]) (rest := []) C hP hS (m11 hb hL) (e11 hb) rfl (tX12_canBegin C.2.2.2.2.2.2.1 (hL.mo (Nat.le_of_ble_eq_true rfl) (Nat.le_of_ble_eq_true rfl)) hb h) q1933 q1935 q102 q116 q1936 hdX12_canBegin ⟨Nat.le_of_ble_eq_true rfl, Nat.le_of_ble_eq_true rfl⟩ ⟨Nat.zero_le _, Nat.zero_le _⟩ rfl hl.1 rfl (lv_room (Nat.le_of_ble_eq_true rfl)) dX12_secondToCross_26) (fun r7 st6 H locs h hP hS => ?_)
    obtain ⟨hr7, h⟩ := h
    refine lv_if_eq C.1 C.2.1 (tgt := 34) dX12_secondToCross_29 (by decide) (fun hc => ?_) (fun hc => ?_)
    · have h := h.1 hc
      refine lv_iconst C.1 C.2.1 (v := 0) dX12_secondToCross_34 rfl ?_
      refine lv_istore_n C.1 C.2.1 dX12_secondToCross_35 rfl hl (Nat.le_of_ble_eq_true rfl) rfl (fun ls hl => ?_)
      have hl : lv_has ls 3 [(2, .int 0), (1, .int r5), (0, .ref (E.2.1 b))] := hl
      obtain ⟨n, h⟩ := h
      exact tX12_secondToCross_L36 hL C hr hlk hb n r5 0 st6 _ _ _ h (lv_sub hl [2, 1, 0] rfl) hP hS
    · have h := h.2 hc
      refine lv_iconst C.1 C.2.1 (v := (-1)) dX12_secondToCross_32 rfl ?_
      exact z_ri C hr hlk rfl hP hS h dX12_secondToCross_33
  · have h := h.2 hc
    refine lv_aload_n C.1 C.2.1 dX12_secondToCross_12 rfl (lv_at hl 0 rfl) ?_
    refine lv_iconst C.1 C.2.1 (v := 1) dX12_secondToCross_13 rfl ?_
    refine z_ki hS (z_runV (As := [.int 1]) (rest := []) C hP hS (m11 hb hL) (e11 hb) rfl (tX12_fail C.2.2.2.2.2.2.1 (hL.mo (Nat.le_of_ble_eq_true rfl) (Nat.le_of_ble_eq_true rfl)) hb h) q1415 q1417 q40 q116 q1418 hdX12_fail ⟨Nat.le_of_ble_eq_true rfl, Nat.le_of_ble_eq_true rfl⟩ ⟨Nat.zero_le _, Nat.zero_le _⟩ rfl hl.1 rfl (lv_room (Nat.le_of_ble_eq_true rfl)) dX12_secondToCross_14) (fun r9 st8 H locs h hP hS => ?_)
    exact z_ri C hr hlk rfl hP hS h dX12_secondToCross_17
def rmX12_allMinutes : Room := { frames := 0, cells := 0, slots := 0, locals := 0 }
def wX12_allMinutes (b : Nat) (st : St) (Q : Int32 → St → Prop) : Prop :=
  (vp_in 2 50 ∧ (vp_in 3 50 ∧ Q (((120 : Int32) * (gI st (b + 2) (2 : Int32).toNatClampNeg)) + (gI st (b + 2) (3 : Int32).toNatClampNeg)) st))
theorem hdX12_allMinutes : yX12_allMinutes.cls = "PlankBridgeModel" ∧ yX12_allMinutes.cls ≠ "java/lang/invoke/MethodHandle" ∧ yX12_allMinutes.cls ≠ "java/lang/invoke/VarHandle" ∧ (parseMethodDescriptor yX12_allMinutes.desc).map (fun d => d.parameters.length) = some 0 := by decide +kernel
set_option maxHeartbeats 4000000 in
set_option maxRecDepth 100000 in
theorem tX12_allMinutes {l : Launch} {E : En0} {L : List Nat} (hE : EK E L) (hL : Cov 54 67 L) {b : Nat} {st : St} {Q : Int32 → St → Prop} (hb : kd b = 11) (h : wX12_allMinutes b st Q) : Mz l yX12_allMinutes cX12_allMinutes 1 (some .int) rmX12_allMinutes E L [.ref (E.2.1 b)] st (zI E L Q) := by
  refine Mz.of hE (by decide) (Nat.le_of_ble_eq_true rfl) ?_
  intro p e s m below meth c ls C hr hlk _ hl hP
  replace C : Cx E L "PlankBridgeModel" cX12_allMinutes 1 p s m _ c := C
  have hS : va_S (fA E L s.heap.size) s.heap s.heap [] := va_S.rf
  replace hl : lv_has ls 1 [(0, .ref (E.2.1 b))] := hl
  unfold wX12_allMinutes at h
  refine lv_bipush C.1 C.2.1 (v := 120) dX12_allMinutes_0 rfl ?_
  refine lv_aload_n C.1 C.2.1 dX12_allMinutes_2 rfl (lv_at hl 0 rfl) ?_
  refine gf11_5 C hP hb (m11 hb hL) q1384 dX12_allMinutes_3 ?_
  refine lv_iconst C.1 C.2.1 (v := 2) dX12_allMinutes_6 rfl ?_
  obtain ⟨hi, h⟩ := h
  refine z_iald C hP (k11_2 hb) (l11_2 hb) (m11_2 hb hL) hi dX12_allMinutes_7 ?_
  refine lv_imul C.1 C.2.1 dX12_allMinutes_8  ?_
  refine lv_aload_n C.1 C.2.1 dX12_allMinutes_9 rfl (lv_at hl 0 rfl) ?_
  refine gf11_5 C hP hb (m11 hb hL) q1384 dX12_allMinutes_10 ?_
  refine lv_iconst C.1 C.2.1 (v := 3) dX12_allMinutes_13 rfl ?_
  obtain ⟨hi, h⟩ := h
  refine z_iald C hP (k11_2 hb) (l11_2 hb) (m11_2 hb hL) hi dX12_allMinutes_14 ?_
  refine lv_iadd C.1 C.2.1 dX12_allMinutes_15  ?_
  exact z_ri C hr hlk rfl hP hS h dX12_allMinutes_16
def rmX12_actsOfPlan : Room := { frames := 7, cells := 0, slots := 0, locals := 167 }
def wX12_actsOfPlan (b : Nat) (p1 : Int32) (st : St) (Q : Int32 → St → Prop) : Prop :=
  (∀ st1, st1 = uI st b 0 0 → (wX12_isPlan b p1 st1 (fun r3 st2 => ((¬ r3 = 0 → (wX12_keep b st2 (fun st4 => (wX12_run b p1 st4 (fun r6 st5 => (wX12_bringBack b st5 (fun st7 => Q r6 st7))))))) ∧ (r3 = 0 → (wX12_fail b 1 st2 (fun r9 st8 => Q r9 st8)))))))
theorem hdX12_actsOfPlan : yX12_actsOfPlan.cls = "PlankBridgeModel" ∧ yX12_actsOfPlan.cls ≠ "java/lang/invoke/MethodHandle" ∧ yX12_actsOfPlan.cls ≠ "java/lang/invoke/VarHandle" ∧ (parseMethodDescriptor yX12_actsOfPlan.desc).map (fun d => d.parameters.length) = some 1 := by decide +kernel
set_option maxHeartbeats 4000000 in
set_option maxRecDepth 100000 in
theorem tX12_actsOfPlan {l : Launch} {E : En0} {L : List Nat} (hE : EK E L) (hL : Cov 54 67 L) {b : Nat} {p1 : Int32} {st : St} {Q : Int32 → St → Prop} (hb : kd b = 11) (h : wX12_actsOfPlan b p1 st Q) : Mz l yX12_actsOfPlan cX12_actsOfPlan 3 (some .int) rmX12_actsOfPlan E L [.ref (E.2.1 b), .int p1] st (zI E L Q) := by
  refine Mz.of hE (by decide) (Nat.le_of_ble_eq_true rfl) ?_
  intro p e s m below meth c ls C hr hlk _ hl hP
  replace C : Cx E L "PlankBridgeModel" cX12_actsOfPlan 3 p s m _ c := C
  have hS : va_S (fA E L s.heap.size) s.heap s.heap [] := va_S.rf
  replace hl : lv_has ls 3 [(0, .ref (E.2.1 b)), (1, .int p1)] := hl
  unfold wX12_actsOfPlan at h
  refine lv_aload_n C.1 C.2.1 dX12_actsOfPlan_0 rfl (lv_at hl 0 rfl) ?_
  refine lv_iconst C.1 C.2.1 (v := 0) dX12_actsOfPlan_1 rfl ?_
  refine pf11_0 C hP hS hb (m11 hb hL) q1377 dX12_actsOfPlan_2 (fun H locs hP hS => ?_)
  obtain ⟨st1, est1⟩ : ∃ z, z = uI st b 0 0 := ⟨_, rfl⟩
  rw [← est1] at hP; have h := h st1 est1
  refine lv_aload_n C.1 C.2.1 dX12_actsOfPlan_5 rfl (lv_at hl 0 rfl) ?_
  refine lv_iload_n C.1 C.2.1 dX12_actsOfPlan_6 rfl (lv_at hl 1 rfl) ?_
  refine z_ki hS (z_runV (As := [.int p1]) (rest := []) C hP hS (m11 hb hL) (e11 hb) rfl (tX12_isPlan C.2.2.2.2.2.2.1 (hL.mo (Nat.le_of_ble_eq_true rfl) (Nat.le_of_ble_eq_true rfl)) hb h) q1825 q1827 q84 q116 q1828 hdX12_isPlan ⟨Nat.le_of_ble_eq_true rfl, Nat.le_of_ble_eq_true rfl⟩ ⟨Nat.zero_le _, Nat.zero_le _⟩ rfl hl.1 rfl (lv_room (Nat.le_of_ble_eq_true rfl)) dX12_actsOfPlan_7) (fun r3 st2 H locs h hP hS => ?_)
  obtain ⟨hr3, h⟩ := h
  refine lv_if_ne C.1 C.2.1 (tgt := 19) dX12_actsOfPlan_10 (by decide) (fun hc => ?_) (fun hc => ?_)
  · have h := h.1 hc
    refine lv_aload_n C.1 C.2.1 dX12_actsOfPlan_19 rfl (lv_at hl 0 rfl) ?_
    refine z_kv hS (z_runV (As := []) (rest := []) C hP hS (m11 hb hL) (e11 hb) rfl (tX12_keep C.2.2.2.2.2.2.1 (hL.mo (Nat.le_of_ble_eq_true rfl) (Nat.le_of_ble_eq_true rfl)) hb h) q1892 q1894 q95 q116 q1895 hdX12_keep ⟨Nat.le_of_ble_eq_true rfl, Nat.le_of_ble_eq_true rfl⟩ ⟨Nat.zero_le _, Nat.zero_le _⟩ rfl hl.1 rfl (lv_room (Nat.le_of_ble_eq_true rfl)) dX12_actsOfPlan_20) (fun st4 H locs h hP hS => ?_)
    refine lv_aload_n C.1 C.2.1 dX12_actsOfPlan_23 rfl (lv_at hl 0 rfl) ?_
    refine lv_iload_n C.1 C.2.1 dX12_actsOfPlan_24 rfl (lv_at hl 1 rfl) ?_
    refine z_ki hS (z_runV (As := [.int p1]) (rest := []) C hP hS (m11 hb hL) (e11 hb) rfl (tX12_run C.2.2.2.2.2.2.1 (hL.mo (Nat.le_of_ble_eq_true rfl) (Nat.le_of_ble_eq_true rfl)) hb h) q1829 q1831 q85 q116 q1832 hdX12_run ⟨Nat.le_of_ble_eq_true rfl, Nat.le_of_ble_eq_true rfl⟩ ⟨Nat.zero_le _, Nat.zero_le _⟩ rfl hl.1 rfl (lv_room (Nat.le_of_ble_eq_true rfl)) dX12_actsOfPlan_25) (fun r6 st5 H locs h hP hS => ?_)
    refine lv_istore_n C.1 C.2.1 dX12_actsOfPlan_28 rfl hl (Nat.le_of_ble_eq_true rfl) rfl (fun ls hl => ?_)
    have hl : lv_has ls 3 [(2, .int r6), (0, .ref (E.2.1 b)), (1, .int p1)] := hl
    refine lv_aload_n C.1 C.2.1 dX12_actsOfPlan_29 rfl (lv_at hl 1 rfl) ?_
    refine z_kv hS (z_runV (As := []) (rest := []) C hP hS (m11 hb hL) (e11 hb) rfl (tX12_bringBack C.2.2.2.2.2.2.1 (hL.mo (Nat.le_of_ble_eq_true rfl) (Nat.le_of_ble_eq_true rfl)) hb h) q1896 q1898 q96 q116 q1899 hdX12_bringBack ⟨Nat.le_of_ble_eq_true rfl, Nat.le_of_ble_eq_true rfl⟩ ⟨Nat.zero_le _, Nat.zero_le _⟩ rfl hl.1 rfl (lv_room (Nat.le_of_ble_eq_true rfl)) dX12_actsOfPlan_30) (fun st7 H locs h hP hS => ?_)
    refine lv_iload_n C.1 C.2.1 dX12_actsOfPlan_33 rfl (lv_at hl 0 rfl) ?_
    exact z_ri C hr hlk rfl hP hS h dX12_actsOfPlan_34
  · have h := h.2 hc
    refine lv_aload_n C.1 C.2.1 dX12_actsOfPlan_13 rfl (lv_at hl 0 rfl) ?_
    refine lv_iconst C.1 C.2.1 (v := 1) dX12_actsOfPlan_14 rfl ?_
    refine z_ki hS (z_runV (As := [.int 1]) (rest := []) C hP hS (m11 hb hL) (e11 hb) rfl (tX12_fail C.2.2.2.2.2.2.1 (hL.mo (Nat.le_of_ble_eq_true rfl) (Nat.le_of_ble_eq_true rfl)) hb h) q1415 q1417 q40 q116 q1418 hdX12_fail ⟨Nat.le_of_ble_eq_true rfl, Nat.le_of_ble_eq_true rfl⟩ ⟨Nat.zero_le _, Nat.zero_le _⟩ rfl hl.1 rfl (lv_room (Nat.le_of_ble_eq_true rfl)) dX12_actsOfPlan_15) (fun r9 st8 H locs h hP hS => ?_)
    exact z_ri C hr hlk rfl hP hS h dX12_actsOfPlan_18
def rmX12_farBehindPlan : Room := { frames := 7, cells := 0, slots := 0, locals := 167 }
def wX12_farBehindPlan (b : Nat) (p1 : Int32) (st : St) (Q : Int32 → St → Prop) : Prop :=
  (∀ st1, st1 = uI st b 0 0 → (wX12_isPlan b p1 st1 (fun r3 st2 => ((¬ r3 = 0 → (wX12_keep b st2 (fun st4 => (wX12_run b p1 st4 (fun r6 st5 => (wX12_near b st5 (fun r8 st7 => (∀ x9 : Int32, x9 = ((gI st5 60 0) - r8) → (wX12_bringBack b st7 (fun st10 => Q x9 st10)))))))))) ∧ (r3 = 0 → (wX12_fail b 1 st2 (fun r12 st11 => Q r12 st11)))))))
theorem hdX12_farBehindPlan : yX12_farBehindPlan.cls = "PlankBridgeModel" ∧ yX12_farBehindPlan.cls ≠ "java/lang/invoke/MethodHandle" ∧ yX12_farBehindPlan.cls ≠ "java/lang/invoke/VarHandle" ∧ (parseMethodDescriptor yX12_farBehindPlan.desc).map (fun d => d.parameters.length) = some 1 := by decide +kernel
set_option maxHeartbeats 4000000 in
set_option maxRecDepth 100000 in
theorem tX12_farBehindPlan {l : Launch} {E : En0} {L : List Nat} (hE : EK E L) (hL : Cov 54 67 L) {b : Nat} {p1 : Int32} {st : St} {Q : Int32 → St → Prop} (hb : kd b = 11) (h : wX12_farBehindPlan b p1 st Q) : Mz l yX12_farBehindPlan cX12_farBehindPlan 3 (some .int) rmX12_farBehindPlan E L [.ref (E.2.1 b), .int p1] st (zI E L Q) := by
  refine Mz.of hE (by decide) (Nat.le_of_ble_eq_true rfl) ?_
  intro p e s m below meth c ls C hr hlk _ hl hP
  replace C : Cx E L "PlankBridgeModel" cX12_farBehindPlan 3 p s m _ c := C
  have hS : va_S (fA E L s.heap.size) s.heap s.heap [] := va_S.rf
  replace hl : lv_has ls 3 [(0, .ref (E.2.1 b)), (1, .int p1)] := hl
  unfold wX12_farBehindPlan at h
  refine lv_aload_n C.1 C.2.1 dX12_farBehindPlan_0 rfl (lv_at hl 0 rfl) ?_
  refine lv_iconst C.1 C.2.1 (v := 0) dX12_farBehindPlan_1 rfl ?_
  refine pf11_0 C hP hS hb (m11 hb hL) q1377 dX12_farBehindPlan_2 (fun H locs hP hS => ?_)
  obtain ⟨st1, est1⟩ : ∃ z, z = uI st b 0 0 := ⟨_, rfl⟩
  rw [← est1] at hP; have h := h st1 est1
  refine lv_aload_n C.1 C.2.1 dX12_farBehindPlan_5 rfl (lv_at hl 0 rfl) ?_
  refine lv_iload_n C.1 C.2.1 dX12_farBehindPlan_6 rfl (lv_at hl 1 rfl) ?_
  refine z_ki hS (z_runV (As := [.int p1]) (rest := []) C hP hS (m11 hb hL) (e11 hb) rfl (tX12_isPlan C.2.2.2.2.2.2.1 (hL.mo (Nat.le_of_ble_eq_true rfl) (Nat.le_of_ble_eq_true rfl)) hb h) q1825 q1827 q84 q116 q1828 hdX12_isPlan ⟨Nat.le_of_ble_eq_true rfl, Nat.le_of_ble_eq_true rfl⟩ ⟨Nat.zero_le _, Nat.zero_le _⟩ rfl hl.1 rfl (lv_room (Nat.le_of_ble_eq_true rfl)) dX12_farBehindPlan_7) (fun r3 st2 H locs h hP hS => ?_)
  obtain ⟨hr3, h⟩ := h
  refine lv_if_ne C.1 C.2.1 (tgt := 19) dX12_farBehindPlan_10 (by decide) (fun hc => ?_) (fun hc => ?_)
  · have h := h.1 hc
    refine lv_aload_n C.1 C.2.1 dX12_farBehindPlan_19 rfl (lv_at hl 0 rfl) ?_
    refine z_kv hS (z_runV (As := []) (rest := []) C hP hS (m11 hb hL) (e11 hb) rfl (tX12_keep C.2.2.2.2.2.2.1 (hL.mo (Nat.le_of_ble_eq_true rfl) (Nat.le_of_ble_eq_true rfl)) hb h) q1892 q1894 q95 q116 q1895 hdX12_keep ⟨Nat.le_of_ble_eq_true rfl, Nat.le_of_ble_eq_true rfl⟩ ⟨Nat.zero_le _, Nat.zero_le _⟩ rfl hl.1 rfl (lv_room (Nat.le_of_ble_eq_true rfl)) dX12_farBehindPlan_20) (fun st4 H locs h hP hS => ?_)
    refine lv_aload_n C.1 C.2.1 dX12_farBehindPlan_23 rfl (lv_at hl 0 rfl) ?_
    refine lv_iload_n C.1 C.2.1 dX12_farBehindPlan_24 rfl (lv_at hl 1 rfl) ?_
    refine z_ki hS (z_runV (As := [.int p1]) (rest := []) C hP hS (m11 hb hL) (e11 hb) rfl (tX12_run C.2.2.2.2.2.2.1 (hL.mo (Nat.le_of_ble_eq_true rfl) (Nat.le_of_ble_eq_true rfl)) hb h) q1829 q1831 q85 q116 q1832 hdX12_run ⟨Nat.le_of_ble_eq_true rfl, Nat.le_of_ble_eq_true rfl⟩ ⟨Nat.zero_le _, Nat.zero_le _⟩ rfl hl.1 rfl (lv_room (Nat.le_of_ble_eq_true rfl)) dX12_farBehindPlan_25) (fun r6 st5 H locs h hP hS => ?_)
    refine lv_pop C.1 C.2.1 dX12_farBehindPlan_28 rfl ?_
    refine lv_aload_n C.1 C.2.1 dX12_farBehindPlan_29 rfl (lv_at hl 0 rfl) ?_
    refine gf11_4 C hP hb (m11 hb hL) q1383 dX12_farBehindPlan_30 ?_
    refine gf9_0 C hP (show kd 60 = 9 from rfl) (hL 60 (Nat.le_of_ble_eq_true rfl) (Nat.le_of_ble_eq_true rfl)) q1320 dX12_farBehindPlan_33 ?_
    refine lv_aload_n C.1 C.2.1 dX12_farBehindPlan_36 rfl (lv_at hl 0 rfl) ?_
    refine z_ki hS (z_runV (As := []) (rest := [.int (gI st5 60 0)]) C hP hS (m11 hb hL) (e11 hb) rfl (tX12_near C.2.2.2.2.2.2.1 (hL.mo (Nat.le_of_ble_eq_true rfl) (Nat.le_of_ble_eq_true rfl)) hb h) q1692 q1694 q68 q116 q1695 hdX12_near ⟨Nat.le_of_ble_eq_true rfl, Nat.le_of_ble_eq_true rfl⟩ ⟨Nat.zero_le _, Nat.zero_le _⟩ rfl hl.1 rfl (lv_room (Nat.le_of_ble_eq_true rfl)) dX12_farBehindPlan_37) (fun r8 st7 H locs h hP hS => ?_)
    refine lv_isub C.1 C.2.1 dX12_farBehindPlan_40  ?_
    refine lv_topi (fun x9 ex9 => ?_)
    have h := h x9 ex9
    refine lv_istore_n C.1 C.2.1 dX12_farBehindPlan_41 rfl hl (Nat.le_of_ble_eq_true rfl) rfl (fun ls hl => ?_)
    have hl : lv_has ls 3 [(2, .int x9), (0, .ref (E.2.1 b)), (1, .int p1)] := hl
    refine lv_aload_n C.1 C.2.1 dX12_farBehindPlan_42 rfl (lv_at hl 1 rfl) ?_
    refine z_kv hS (z_runV (As := []) (rest := []) C hP hS (m11 hb hL) (e11 hb) rfl (tX12_bringBack C.2.2.2.2.2.2.1 (hL.mo (Nat.le_of_ble_eq_true rfl) (Nat.le_of_ble_eq_true rfl)) hb h) q1896 q1898 q96 q116 q1899 hdX12_bringBack ⟨Nat.le_of_ble_eq_true rfl, Nat.le_of_ble_eq_true rfl⟩ ⟨Nat.zero_le _, Nat.zero_le _⟩ rfl hl.1 rfl (lv_room (Nat.le_of_ble_eq_true rfl)) dX12_farBehindPlan_43) (fun st10 H locs h hP hS => ?_)
    refine lv_iload_n C.1 C.2.1 dX12_farBehindPlan_46 rfl (lv_at hl 0 rfl) ?_
    exact z_ri C hr hlk rfl hP hS h dX12_farBehindPlan_47
  · have h := h.2 hc
    refine lv_aload_n C.1 C.2.1 dX12_farBehindPlan_13 rfl (lv_at hl 0 rfl) ?_
    refine lv_iconst C.1 C.2.1 (v := 1) dX12_farBehindPlan_14 rfl ?_
    refine z_ki hS (z_runV (As := [.int 1]) (rest := []) C hP hS (m11 hb hL) (e11 hb) rfl (tX12_fail C.2.2.2.2.2.2.1 (hL.mo (Nat.le_of_ble_eq_true rfl) (Nat.le_of_ble_eq_true rfl)) hb h) q1415 q1417 q40 q116 q1418 hdX12_fail ⟨Nat.le_of_ble_eq_true rfl, Nat.le_of_ble_eq_true rfl⟩ ⟨Nat.zero_le _, Nat.zero_le _⟩ rfl hl.1 rfl (lv_room (Nat.le_of_ble_eq_true rfl)) dX12_farBehindPlan_15) (fun r12 st11 H locs h hP hS => ?_)
    exact z_ri C hr hlk rfl hP hS h dX12_farBehindPlan_18
def rmX12_minutesOfPlan : Room := { frames := 7, cells := 0, slots := 0, locals := 167 }
def wX12_minutesOfPlan (b : Nat) (p1 : Int32) (st : St) (Q : Int32 → St → Prop) : Prop :=
  (∀ st1, st1 = uI st b 0 0 → (wX12_isPlan b p1 st1 (fun r3 st2 => ((¬ r3 = 0 → (wX12_keep b st2 (fun st4 => (wX12_allMinutes b st4 (fun r6 st5 => (wX12_run b p1 st5 (fun r8 st7 => (wX12_allMinutes b st7 (fun r10 st9 => (∀ x11 : Int32, x11 = (r10 - r6) → (wX12_bringBack b st9 (fun st12 => Q x11 st12)))))))))))) ∧ (r3 = 0 → (wX12_fail b 1 st2 (fun r14 st13 => Q r14 st13)))))))
theorem hdX12_minutesOfPlan : yX12_minutesOfPlan.cls = "PlankBridgeModel" ∧ yX12_minutesOfPlan.cls ≠ "java/lang/invoke/MethodHandle" ∧ yX12_minutesOfPlan.cls ≠ "java/lang/invoke/VarHandle" ∧ (parseMethodDescriptor yX12_minutesOfPlan.desc).map (fun d => d.parameters.length) = some 1 := by decide +kernel
set_option maxHeartbeats 4000000 in
set_option maxRecDepth 100000 in
theorem tX12_minutesOfPlan {l : Launch} {E : En0} {L : List Nat} (hE : EK E L) (hL : Cov 54 67 L) {b : Nat} {p1 : Int32} {st : St} {Q : Int32 → St → Prop} (hb : kd b = 11) (h : wX12_minutesOfPlan b p1 st Q) : Mz l yX12_minutesOfPlan cX12_minutesOfPlan 4 (some .int) rmX12_minutesOfPlan E L [.ref (E.2.1 b), .int p1] st (zI E L Q) := by
  refine Mz.of hE (by decide) (Nat.le_of_ble_eq_true rfl) ?_
  intro p e s m below meth c ls C hr hlk _ hl hP
  replace C : Cx E L "PlankBridgeModel" cX12_minutesOfPlan 4 p s m _ c := C
  have hS : va_S (fA E L s.heap.size) s.heap s.heap [] := va_S.rf
  replace hl : lv_has ls 4 [(0, .ref (E.2.1 b)), (1, .int p1)] := hl
  unfold wX12_minutesOfPlan at h
  refine lv_aload_n C.1 C.2.1 dX12_minutesOfPlan_0 rfl (lv_at hl 0 rfl) ?_
  refine lv_iconst C.1 C.2.1 (v := 0) dX12_minutesOfPlan_1 rfl ?_
  refine pf11_0 C hP hS hb (m11 hb hL) q1377 dX12_minutesOfPlan_2 (fun H locs hP hS => ?_)
  obtain ⟨st1, est1⟩ : ∃ z, z = uI st b 0 0 := ⟨_, rfl⟩
  rw [← est1] at hP; have h := h st1 est1
  refine lv_aload_n C.1 C.2.1 dX12_minutesOfPlan_5 rfl (lv_at hl 0 rfl) ?_
  refine lv_iload_n C.1 C.2.1 dX12_minutesOfPlan_6 rfl (lv_at hl 1 rfl) ?_
  refine z_ki hS (z_runV (As := [.int p1]) (rest := []) C hP hS (m11 hb hL) (e11 hb) rfl (tX12_isPlan C.2.2.2.2.2.2.1 (hL.mo (Nat.le_of_ble_eq_true rfl) (Nat.le_of_ble_eq_true rfl)) hb h) q1825 q1827 q84 q116 q1828 hdX12_isPlan ⟨Nat.le_of_ble_eq_true rfl, Nat.le_of_ble_eq_true rfl⟩ ⟨Nat.zero_le _, Nat.zero_le _⟩ rfl hl.1 rfl (lv_room (Nat.le_of_ble_eq_true rfl)) dX12_minutesOfPlan_7) (fun r3 st2 H locs h hP hS => ?_)
  obtain ⟨hr3, h⟩ := h
  refine lv_if_ne C.1 C.2.1 (tgt := 19) dX12_minutesOfPlan_10 (by decide) (fun hc => ?_) (fun hc => ?_)
  · have h := h.1 hc
    refine lv_aload_n C.1 C.2.1 dX12_minutesOfPlan_19 rfl (lv_at hl 0 rfl) ?_
    refine z_kv hS (z_runV (As := []) (rest := []) C hP hS (m11 hb hL) (e11 hb) rfl (tX12_keep C.2.2.2.2.2.2.1 (hL.mo (Nat.le_of_ble_eq_true rfl) (Nat.le_of_ble_eq_true rfl)) hb h) q1892 q1894 q95 q116 q1895 hdX12_keep ⟨Nat.le_of_ble_eq_true rfl, Nat.le_of_ble_eq_true rfl⟩ ⟨Nat.zero_le _, Nat.zero_le _⟩ rfl hl.1 rfl (lv_room (Nat.le_of_ble_eq_true rfl)) dX12_minutesOfPlan_20) (fun st4 H locs h hP hS => ?_)
    refine lv_aload_n C.1 C.2.1 dX12_minutesOfPlan_23 rfl (lv_at hl 0 rfl) ?_
    refine z_ki hS (z_runV (As := []) (rest := []) C hP hS (m11 hb hL) (e11 hb) rfl (tX12_allMinutes C.2.2.2.2.2.2.1 (hL.mo (Nat.le_of_ble_eq_true rfl) (Nat.le_of_ble_eq_true rfl)) hb h) q1953 q1955 q103 q116 q1956 hdX12_allMinutes ⟨Nat.le_of_ble_eq_true rfl, Nat.le_of_ble_eq_true rfl⟩ ⟨Nat.zero_le _, Nat.zero_le _⟩ rfl hl.1 rfl (lv_room (Nat.le_of_ble_eq_true rfl)) dX12_minutesOfPlan_24) (fun r6 st5 H locs h hP hS => ?_)
    refine lv_istore_n C.1 C.2.1 dX12_minutesOfPlan_27 rfl hl (Nat.le_of_ble_eq_true rfl) rfl (fun ls hl => ?_)
    have hl : lv_has ls 4 [(2, .int r6), (0, .ref (E.2.1 b)), (1, .int p1)] := hl
    refine lv_aload_n C.1 C.2.1 dX12_minutesOfPlan_28 rfl (lv_at hl 1 rfl) ?_
    refine lv_iload_n C.1 C.2.1 dX12_minutesOfPlan_29 rfl (lv_at hl 2 rfl) ?_
    refine z_ki hS (z_runV (As := [.int p1]) (rest := []) C hP hS (m11 hb hL) (e11 hb) rfl (tX12_run C.2.2.2.2.2.2.1 (hL.mo (Nat.le_of_ble_eq_true rfl) (Nat.le_of_ble_eq_true rfl)) hb h) q1829 q1831 q85 q116 q1832 hdX12_run ⟨Nat.le_of_ble_eq_true rfl, Nat.le_of_ble_eq_true rfl⟩ ⟨Nat.zero_le _, Nat.zero_le _⟩ rfl hl.1 rfl (lv_room (Nat.le_of_ble_eq_true rfl)) dX12_minutesOfPlan_30) (fun r8 st7 H locs h hP hS => ?_)
    refine lv_pop C.1 C.2.1 dX12_minutesOfPlan_33 rfl ?_
    refine lv_aload_n C.1 C.2.1 dX12_minutesOfPlan_34 rfl (lv_at hl 1 rfl) ?_
    refine z_ki hS (z_runV (As := []) (rest := []) C hP hS (m11 hb hL) (e11 hb) rfl (tX12_allMinutes C.2.2.2.2.2.2.1 (hL.mo (Nat.le_of_ble_eq_true rfl) (Nat.le_of_ble_eq_true rfl)) hb h) q1953 q1955 q103 q116 q1956 hdX12_allMinutes ⟨Nat.le_of_ble_eq_true rfl, Nat.le_of_ble_eq_true rfl⟩ ⟨Nat.zero_le _, Nat.zero_le _⟩ rfl hl.1 rfl (lv_room (Nat.le_of_ble_eq_true rfl)) dX12_minutesOfPlan_35) (fun r10 st9 H locs h hP hS => ?_)
    refine lv_iload_n C.1 C.2.1 dX12_minutesOfPlan_38 rfl (lv_at hl 0 rfl) ?_
    refine lv_isub C.1 C.2.1 dX12_minutesOfPlan_39  ?_
    refine lv_topi (fun x11 ex11 => ?_)
    have h := h x11 ex11
    refine lv_istore_n C.1 C.2.1 dX12_minutesOfPlan_40 rfl hl (Nat.le_of_ble_eq_true rfl) rfl (fun ls hl => ?_)
    have hl : lv_has ls 4 [(3, .int x11), (2, .int r6), (0, .ref (E.2.1 b)), (1, .int p1)] := hl
    refine lv_aload_n C.1 C.2.1 dX12_minutesOfPlan_41 rfl (lv_at hl 2 rfl) ?_
    refine z_kv hS (z_runV (As := []) (rest := []) C hP hS (m11 hb hL) (e11 hb) rfl (tX12_bringBack C.2.2.2.2.2.2.1 (hL.mo (Nat.le_of_ble_eq_true rfl) (Nat.le_of_ble_eq_true rfl)) hb h) q1896 q1898 q96 q116 q1899 hdX12_bringBack ⟨Nat.le_of_ble_eq_true rfl, Nat.le_of_ble_eq_true rfl⟩ ⟨Nat.zero_le _, Nat.zero_le _⟩ rfl hl.1 rfl (lv_room (Nat.le_of_ble_eq_true rfl)) dX12_minutesOfPlan_42) (fun st12 H locs h hP hS => ?_)
    refine lv_iload_n C.1 C.2.1 dX12_minutesOfPlan_45 rfl (lv_at hl 0 rfl) ?_
    exact z_ri C hr hlk rfl hP hS h dX12_minutesOfPlan_46
  · have h := h.2 hc
    refine lv_aload_n C.1 C.2.1 dX12_minutesOfPlan_13 rfl (lv_at hl 0 rfl) ?_
    refine lv_iconst C.1 C.2.1 (v := 1) dX12_minutesOfPlan_14 rfl ?_
    refine z_ki hS (z_runV (As := [.int 1]) (rest := []) C hP hS (m11 hb hL) (e11 hb) rfl (tX12_fail C.2.2.2.2.2.2.1 (hL.mo (Nat.le_of_ble_eq_true rfl) (Nat.le_of_ble_eq_true rfl)) hb h) q1415 q1417 q40 q116 q1418 hdX12_fail ⟨Nat.le_of_ble_eq_true rfl, Nat.le_of_ble_eq_true rfl⟩ ⟨Nat.zero_le _, Nat.zero_le _⟩ rfl hl.1 rfl (lv_room (Nat.le_of_ble_eq_true rfl)) dX12_minutesOfPlan_15) (fun r14 st13 H locs h hP hS => ?_)
    exact z_ri C hr hlk rfl hP hS h dX12_minutesOfPlan_18
def rmX12_bestPlan : Room := { frames := 7, cells := 0, slots := 0, locals := 167 }
def wX12_bestPlan_L116 (b : Nat) (R34 : Int32 × Int32 × Int32 × Int32 × St → Prop) (v1 : Int32) (v2 : Int32) (v3 : Int32) (v4 : Int32) (st : St) (Q : Int32 → St → Prop) : Prop :=
  (∀ x16 : Int32, x16 = v4 + 1 → R34 (v1, v2, v3, x16, st))
def wX12_bestPlan_L107 (b : Nat) (R34 : Int32 × Int32 × Int32 × Int32 × St → Prop) (v4 : Int32) (v6 : Int32) (v7 : Int32) (st : St) (Q : Int32 → St → Prop) : Prop :=
  wX12_bestPlan_L116 b R34 v4 v6 v7 v4 st Q
def wX12_bestPlan_L34 (b : Nat)  (R34 : Int32 × Int32 × Int32 × Int32 × St → Prop) (v1 : Int32) (v2 : Int32) (v3 : Int32) (v4 : Int32) (st : St) (Q : Int32 → St → Prop) : Prop :=
  (((gI st 60 2) ≤ v4 → Q v1 st) ∧ (¬ (gI st 60 2) ≤ v4 → (wX12_allMinutes b st (fun r6 st5 => (wX12_run b v4 st5 (fun r8 st7 => (wX12_near b st7 (fun r10 st9 => (∀ x11 : Int32, x11 = ((gI st7 60 0) - r10) → (wX12_allMinutes b st9 (fun r13 st12 => (∀ x14 : Int32, x14 = (r13 - r6) → (wX12_bringBack b st12 (fun st15 => ((x11 < v2 → wX12_bestPlan_L116 b R34 v1 v2 v3 v4 st15 Q) ∧ (¬ x11 < v2 → ((¬ x11 = v2 → wX12_bestPlan_L107 b R34 v4 x11 x14 st15 Q) ∧ (x11 = v2 → ((x14 < v3 → wX12_bestPlan_L107 b R34 v4 x11 x14 st15 Q) ∧ (¬ x14 < v3 → wX12_bestPlan_L116 b R34 v1 v2 v3 v4 st15 Q))))))))))))))))))))
def wX12_bestPlan (b : Nat) (st : St) (Q : Int32 → St → Prop) : Prop :=
  (∀ st1, st1 = uI st b 0 0 → ((¬ (gI st1 60 2) = 0 → (wX12_keep b st1 (fun st2 => (∃ n, lp (fun R s => wX12_bestPlan_L34 b R s.1 s.2.1 s.2.2.1 s.2.2.2.1 s.2.2.2.2 Q) n ((-1), (-1), 0, 0, st2))))) ∧ ((gI st1 60 2) = 0 → (wX12_fail b 1 st1 (fun r4 st3 => Q r4 st3)))))
theorem hdX12_bestPlan : yX12_bestPlan.cls = "PlankBridgeModel" ∧ yX12_bestPlan.cls ≠ "java/lang/invoke/MethodHandle" ∧ yX12_bestPlan.cls ≠ "java/lang/invoke/VarHandle" ∧ (parseMethodDescriptor yX12_bestPlan.desc).map (fun d => d.parameters.length) = some 0 := by decide +kernel
set_option maxHeartbeats 4000000 in
set_option maxRecDepth 100000 in
theorem tX12_bestPlan_L116 {l : Launch} {p : Program} {e : Env} {s : State} {m : MethodId} {args : Array Value} {below : List Frame} {meth : Method} {c : Code} {E : En0} {L : List Nat} (hL : Cov 54 67 L) (C : Cx E L "PlankBridgeModel" cX12_bestPlan 8 p s m args c) (hr : meth.sig.returnType = (some .int)) (hlk : meth.locks = false) {b : Nat} {Q : Int32 → St → Prop} (hb : kd b = 11) {R34 : Int32 × Int32 × Int32 × Int32 × St → Prop} (hR34 : ∀ (v1 : Int32) (v2 : Int32) (v3 : Int32) (v4 : Int32) (st : St), ∀ (H : Heap) (locs : List Loc) (ls : Array Slot), R34 (v1, v2, v3, v4, st) → lv_has ls 8 [(0, .ref (E.2.1 b)), (1, .int v1), (2, .int v2), (3, .int v3), (4, .int v4)] → va_P E.1 vwCl (wd E L st) H → va_S (fA E L s.heap.size) s.heap H locs → W p l e rmX12_bestPlan s m args below meth c H locs 0 0 (MQ below (zI E L Q (fA E L s.heap.size)) args s rmX12_bestPlan.cells rmX12_bestPlan.slots (fA E L s.heap.size)) (F0 m 34 ls [])) {v1 : Int32} {v2 : Int32} {v3 : Int32} {v4 : Int32}  {st : St} (H : Heap) (locs : List Loc) (ls : Array Slot) (h : wX12_bestPlan_L116 b R34 v1 v2 v3 v4 st Q) (hl : lv_has ls 8 [(0, .ref (E.2.1 b)), (1, .int v1), (2, .int v2), (3, .int v3), (4, .int v4)]) (hP : va_P E.1 vwCl (wd E L st) H) (hS : va_S (fA E L s.heap.size) s.heap H locs) : W p l e rmX12_bestPlan s m args below meth c H locs 0 0 (MQ below (zI E L Q (fA E L s.heap.size)) args s rmX12_bestPlan.cells rmX12_bestPlan.slots (fA E L s.heap.size)) (F0 m 116 ls []) := by
  unfold wX12_bestPlan_L116 at h
  obtain ⟨x16, ex16⟩ : ∃ z, z = v4 + 1 := ⟨_, rfl⟩
  have h := h x16 ex16
  refine lv_iinc C.1 C.2.1 dX12_bestPlan_116 hl (k := 4) rfl ex16.symm (Nat.le_of_ble_eq_true rfl) rfl (fun ls hl => ?_)
  have hl : lv_has ls 8 [(4, .int x16), (0, .ref (E.2.1 b)), (1, .int v1), (2, .int v2), (3, .int v3)] := hl
  refine lv_goto C.1 C.2.1 (tgt := 34) dX12_bestPlan_119 (by decide) ?_
  exact hR34 v1 v2 v3 x16 st _ _ _ h (lv_sub hl [1, 2, 3, 4, 0] rfl) hP hS
set_option maxHeartbeats 4000000 in
set_option maxRecDepth 100000 in
theorem tX12_bestPlan_L107 {l : Launch} {p : Program} {e : Env} {s : State} {m : MethodId} {args : Array Value} {below : List Frame} {meth : Method} {c : Code} {E : En0} {L : List Nat} (hL : Cov 54 67 L) (C : Cx E L "PlankBridgeModel" cX12_bestPlan 8 p s m args c) (hr : meth.sig.returnType = (some .int)) (hlk : meth.locks = false) {b : Nat} {Q : Int32 → St → Prop} (hb : kd b = 11) {R34 : Int32 × Int32 × Int32 × Int32 × St → Prop} (hR34 : ∀ (v1 : Int32) (v2 : Int32) (v3 : Int32) (v4 : Int32) (st : St), ∀ (H : Heap) (locs : List Loc) (ls : Array Slot), R34 (v1, v2, v3, v4, st) → lv_has ls 8 [(0, .ref (E.2.1 b)), (1, .int v1), (2, .int v2), (3, .int v3), (4, .int v4)] → va_P E.1 vwCl (wd E L st) H → va_S (fA E L s.heap.size) s.heap H locs → W p l e rmX12_bestPlan s m args below meth c H locs 0 0 (MQ below (zI E L Q (fA E L s.heap.size)) args s rmX12_bestPlan.cells rmX12_bestPlan.slots (fA E L s.heap.size)) (F0 m 34 ls [])) {v4 : Int32} {v6 : Int32} {v7 : Int32}  {st : St} (H : Heap) (locs : List Loc) (ls : Array Slot) (h : wX12_bestPlan_L107 b R34 v4 v6 v7 st Q) (hl : lv_has ls 8 [(0, .ref (E.2.1 b)), (4, .int v4), (6, .int v6), (7, .int v7)]) (hP : va_P E.1 vwCl (wd E L st) H) (hS : va_S (fA E L s.heap.size) s.heap H locs) : W p l e rmX12_bestPlan s m args below meth c H locs 0 0 (MQ below (zI E L Q (fA E L s.heap.size)) args s rmX12_bestPlan.cells rmX12_bestPlan.slots (fA E L s.heap.size)) (F0 m 107 ls []) := by
  unfold wX12_bestPlan_L107 at h
  refine lv_iload C.1 C.2.1 dX12_bestPlan_107 (lv_at hl 1 rfl) ?_
  refine lv_istore_n C.1 C.2.1 dX12_bestPlan_109 rfl hl (Nat.le_of_ble_eq_true rfl) rfl (fun ls hl => ?_)
  have hl : lv_has ls 8 [(1, .int v4), (0, .ref (E.2.1 b)), (4, .int v4), (6, .int v6), (7, .int v7)] := hl
  refine lv_iload C.1 C.2.1 dX12_bestPlan_110 (lv_at hl 3 rfl) ?_
  refine lv_istore_n C.1 C.2.1 dX12_bestPlan_112 rfl hl (Nat.le_of_ble_eq_true rfl) rfl (fun ls hl => ?_)
  have hl : lv_has ls 8 [(2, .int v6), (1, .int v4), (0, .ref (E.2.1 b)), (4, .int v4), (6, .int v6), (7, .int v7)] := hl
  refine lv_iload C.1 C.2.1 dX12_bestPlan_113 (lv_at hl 5 rfl) ?_
  refine lv_istore_n C.1 C.2.1 dX12_bestPlan_115 rfl hl (Nat.le_of_ble_eq_true rfl) rfl (fun ls hl => ?_)
  have hl : lv_has ls 8 [(3, .int v7), (2, .int v6), (1, .int v4), (0, .ref (E.2.1 b)), (4, .int v4), (6, .int v6), (7, .int v7)] := hl
  exact tX12_bestPlan_L116 hL C hr hlk hb hR34 _ _ _ h (lv_sub hl [3, 2, 1, 0, 4] rfl) hP hS
set_option maxHeartbeats 4000000 in
set_option maxRecDepth 100000 in
theorem tX12_bestPlan_L34 {l : Launch} {p : Program} {e : Env} {s : State} {m : MethodId} {args : Array Value} {below : List Frame} {meth : Method} {c : Code} {E : En0} {L : List Nat} (hL : Cov 54 67 L) (C : Cx E L "PlankBridgeModel" cX12_bestPlan 8 p s m args c) (hr : meth.sig.returnType = (some .int)) (hlk : meth.locks = false) {b : Nat} {Q : Int32 → St → Prop} (hb : kd b = 11) : ∀ (n : Nat) (v1 : Int32) (v2 : Int32) (v3 : Int32) (v4 : Int32) (st : St) (H : Heap) (locs : List Loc) (ls : Array Slot), lp (fun R s => wX12_bestPlan_L34 b R s.1 s.2.1 s.2.2.1 s.2.2.2.1 s.2.2.2.2 Q) n (v1, v2, v3, v4, st) → lv_has ls 8 [(0, .ref (E.2.1 b)), (1, .int v1), (2, .int v2), (3, .int v3), (4, .int v4)] → va_P E.1 vwCl (wd E L st) H → va_S (fA E L s.heap.size) s.heap H locs → W p l e rmX12_bestPlan s m args below meth c H locs 0 0 (MQ below (zI E L Q (fA E L s.heap.size)) args s rmX12_bestPlan.cells rmX12_bestPlan.slots (fA E L s.heap.size)) (F0 m 34 ls []) := by
  intro n
  induction n with
  | zero => exact fun _ _ _ _ _ _ _ _ h _ _ _ => False.elim ‹_›
  | succ n ih =>
    intro v1 v2 v3 v4 st  H locs ls h hl hP hS
    have hR34 := ih
    replace h : wX12_bestPlan_L34 b (lp (fun R s => wX12_bestPlan_L34 b R s.1 s.2.1 s.2.2.1 s.2.2.2.1 s.2.2.2.2 Q) n) v1 v2 v3 v4 st Q := h
    unfold wX12_bestPlan_L34 at h
    refine lv_iload C.1 C.2.1 dX12_bestPlan_34 (lv_at hl 4 rfl) ?_
    refine lv_aload_n C.1 C.2.1 dX12_bestPlan_36 rfl (lv_at hl 0 rfl) ?_
    refine gf11_4 C hP hb (m11 hb hL) q1383 dX12_bestPlan_37 ?_
    refine gf9_2 C hP (show kd 60 = 9 from rfl) (hL 60 (Nat.le_of_ble_eq_true rfl) (Nat.le_of_ble_eq_true rfl)) q1324 dX12_bestPlan_40 ?_
    refine lv_icmp_ge C.1 C.2.1 (tgt := 122) dX12_bestPlan_43 (by decide) (fun hc => ?_) (fun hc => ?_)
    · have h := h.1 hc
      refine lv_iload_n C.1 C.2.1 dX12_bestPlan_122 rfl (lv_at hl 1 rfl) ?_
      exact z_ri C hr hlk rfl hP hS h dX12_bestPlan_123
    · have h := h.2 hc
      refine lv_aload_n C.1 C.2.1 dX12_bestPlan_46 rfl (lv_at hl 0 rfl) ?_
      refine z_ki hS (z_runV (As := []) (rest := []) C hP hS (m11 hb hL) (e11 hb) rfl (tX12_allMinutes C.2.2.2.2.2.2.1 (hL.mo (Nat.le_of_ble_eq_true rfl) (Nat.le_of_ble_eq_true rfl)) hb h) q1953 q1955 q103 q116 q1956 hdX12_allMinutes ⟨Nat.le_of_ble_eq_true rfl, Nat.le_of_ble_eq_true rfl⟩ ⟨Nat.zero_le _, Nat.zero_le _⟩ rfl hl.1 rfl (lv_room (Nat.le_of_ble_eq_true rfl)) dX12_bestPlan_47) (fun r6 st5 H locs h hP hS => ?_)
      refine lv_istore C.1 C.2.1 dX12_bestPlan_50 hl (Nat.le_of_ble_eq_true rfl) rfl (fun ls hl => ?_)
      have hl : lv_has ls 8 [(5, .int r6), (0, .ref (E.2.1 b)), (1, .int v1), (2, .int v2), (3, .int v3), (4, .int v4)] := hl
      refine lv_aload_n C.1 C.2.1 dX12_bestPlan_52 rfl (lv_at hl 1 rfl) ?_
      refine lv_iload C.1 C.2.1 dX12_bestPlan_53 (lv_at hl 5 rfl) ?_
      refine z_ki hS (z_runV (As := [.int v4]) (rest := []) C hP hS (m11 hb hL) (e11 hb) rfl (tX12_run C.2.2.2.2.2.2.1 (hL.mo (Nat.le_of_ble_eq_true rfl) (Nat.le_of_ble_eq_true rfl)) hb h) q1829 q1831 q85 q116 q1832 hdX12_run ⟨Nat.le_of_ble_eq_true rfl, Nat.le_of_ble_eq_true rfl⟩ ⟨Nat.zero_le _, Nat.zero_le _⟩ rfl hl.1 rfl (lv_room (Nat.le_of_ble_eq_true rfl)) dX12_bestPlan_55) (fun r8 st7 H locs h hP hS => ?_)
      refine lv_pop C.1 C.2.1 dX12_bestPlan_58 rfl ?_
      refine lv_aload_n C.1 C.2.1 dX12_bestPlan_59 rfl (lv_at hl 1 rfl) ?_
      refine gf11_4 C hP hb (m11 hb hL) q1383 dX12_bestPlan_60 ?_
      refine gf9_0 C hP (show kd 60 = 9 from rfl) (hL 60 (Nat.le_of_ble_eq_true rfl) (Nat.le_of_ble_eq_true rfl)) q1320 dX12_bestPlan_63 ?_
      refine lv_aload_n C.1 C.2.1 dX12_bestPlan_66 rfl (lv_at hl 1 rfl) ?_
      refine z_ki hS (z_runV (As := []) (rest := [.int (gI st7 60 0)]) C hP hS (m11 hb hL) (e11 hb) rfl (tX12_near C.2.2.2.2.2.2.1 (hL.mo (Nat.le_of_ble_eq_true rfl) (Nat.le_of_ble_eq_true rfl)) hb h) q1692 q1694 q68 q116 q1695 hdX12_near ⟨Nat.le_of_ble_eq_true rfl, Nat.le_of_ble_eq_true rfl⟩ ⟨Nat.zero_le _, Nat.zero_le _⟩ rfl hl.1 rfl (lv_room (Nat.le_of_ble_eq_true rfl)) dX12_bestPlan_67) (fun r10 st9 H locs h hP hS => ?_)
      refine lv_isub C.1 C.2.1 dX12_bestPlan_70  ?_
      refine lv_topi (fun x11 ex11 => ?_)
      have h := h x11 ex11
      refine lv_istore C.1 C.2.1 dX12_bestPlan_71 hl (Nat.le_of_ble_eq_true rfl) rfl (fun ls hl => ?_)
      have hl : lv_has ls 8 [(6, .int x11), (5, .int r6), (0, .ref (E.2.1 b)), (1, .int v1), (2, .int v2), (3, .int v3), (4, .int v4)] := hl
      refine lv_aload_n C.1 C.2.1 dX12_bestPlan_73 rfl (lv_at hl 2 rfl) ?_
      refine z_ki hS (z_runV (As := []) (rest := []) C hP hS (m11 hb hL) (e11 hb) rfl (tX12_allMinutes C.2.2.2.2.2.2.1 (hL.mo (Nat.le_of_ble_eq_true rfl) (Nat.le_of_ble_eq_true rfl)) hb h) q1953 q1955 q103 q116 q1956 hdX12_allMinutes ⟨Nat.le_of_ble_eq_true rfl, Nat.le_of_ble_eq_true rfl⟩ ⟨Nat.zero_le _, Nat.zero_le _⟩ rfl hl.1 rfl (lv_room (Nat.le_of_ble_eq_true rfl)) dX12_bestPlan_74) (fun r13 st12 H locs h hP hS => ?_)
      refine lv_iload C.1 C.2.1 dX12_bestPlan_77 (lv_at hl 1 rfl) ?_
      refine lv_isub C.1 C.2.1 dX12_bestPlan_79  ?_
      refine lv_topi (fun x14 ex14 => ?_)
      have h := h x14 ex14
      refine lv_istore C.1 C.2.1 dX12_bestPlan_80 hl (Nat.le_of_ble_eq_true rfl) rfl (fun ls hl => ?_)
      have hl : lv_has ls 8 [(7, .int x14), (6, .int x11), (5, .int r6), (0, .ref (E.2.1 b)), (1, .int v1), (2, .int v2), (3, .int v3), (4, .int v4)] := hl
      refine lv_aload_n C.1 C.2.1 dX12_bestPlan_82 rfl (lv_at hl 3 rfl) ?_
      refine z_kv hS (z_runV (As := []) (rest := []) C hP hS (m11 hb hL) (e11 hb) rfl (tX12_bringBack C.2.2.2.2.2.2.1 (hL.mo (Nat.le_of_ble_eq_true rfl) (Nat.le_of_ble_eq_true rfl)) hb h) q1896 q1898 q96 q116 q1899 hdX12_bringBack ⟨Nat.le_of_ble_eq_true rfl, Nat.le_of_ble_eq_true rfl⟩ ⟨Nat.zero_le _, Nat.zero_le _⟩ rfl hl.1 rfl (lv_room (Nat.le_of_ble_eq_true rfl)) dX12_bestPlan_83) (fun st15 H locs h hP hS => ?_)
      refine lv_iload C.1 C.2.1 dX12_bestPlan_86 (lv_at hl 1 rfl) ?_
      refine lv_iload_n C.1 C.2.1 dX12_bestPlan_88 rfl (lv_at hl 5 rfl) ?_
      refine lv_icmp_lt C.1 C.2.1 (tgt := 116) dX12_bestPlan_89 (by decide) (fun hc => ?_) (fun hc => ?_)
      · have h := h.1 hc
        exact tX12_bestPlan_L116 hL C hr hlk hb hR34 _ _ _ h (lv_sub hl [3, 4, 5, 6, 7] rfl) hP hS
      · have h := h.2 hc
        refine lv_iload C.1 C.2.1 dX12_bestPlan_92 (lv_at hl 1 rfl) ?_
        refine lv_iload_n C.1 C.2.1 dX12_bestPlan_94 rfl (lv_at hl 5 rfl) ?_
        refine lv_icmp_ne C.1 C.2.1 (tgt := 107) dX12_bestPlan_95 (by decide) (fun hc => ?_) (fun hc => ?_)
        · have h := h.1 hc
          exact tX12_bestPlan_L107 hL C hr hlk hb hR34 _ _ _ h (lv_sub hl [3, 7, 1, 0] rfl) hP hS
        · have h := h.2 hc
          refine lv_iload C.1 C.2.1 dX12_bestPlan_98 (lv_at hl 0 rfl) ?_
          refine lv_iload_n C.1 C.2.1 dX12_bestPlan_100 rfl (lv_at hl 6 rfl) ?_
          refine lv_icmp_lt C.1 C.2.1 (tgt := 107) dX12_bestPlan_101 (by decide) (fun hc => ?_) (fun hc => ?_)
          · have h := h.1 hc
            exact tX12_bestPlan_L107 hL C hr hlk hb hR34 _ _ _ h (lv_sub hl [3, 7, 1, 0] rfl) hP hS
          · have h := h.2 hc
            refine lv_goto C.1 C.2.1 (tgt := 116) dX12_bestPlan_104 (by decide) ?_
            exact tX12_bestPlan_L116 hL C hr hlk hb hR34 _ _ _ h (lv_sub hl [3, 4, 5, 6, 7] rfl) hP hS
set_option maxHeartbeats 4000000 in
set_option maxRecDepth 100000 in
theorem tX12_bestPlan {l : Launch} {E : En0} {L : List Nat} (hE : EK E L) (hL : Cov 54 67 L) {b : Nat} {st : St} {Q : Int32 → St → Prop} (hb : kd b = 11) (h : wX12_bestPlan b st Q) : Mz l yX12_bestPlan cX12_bestPlan 8 (some .int) rmX12_bestPlan E L [.ref (E.2.1 b)] st (zI E L Q) := by
  refine Mz.of hE (by decide) (Nat.le_of_ble_eq_true rfl) ?_
  intro p e s m below meth c ls C hr hlk _ hl hP
  replace C : Cx E L "PlankBridgeModel" cX12_bestPlan 8 p s m _ c := C
  have hS : va_S (fA E L s.heap.size) s.heap s.heap [] := va_S.rf
  replace hl : lv_has ls 8 [(0, .ref (E.2.1 b))] := hl
  unfold wX12_bestPlan at h
  refine lv_aload_n C.1 C.2.1 dX12_bestPlan_0 rfl (lv_at hl 0 rfl) ?_
  refine lv_iconst C.1 C.2.1 (v := 0) dX12_bestPlan_1 rfl ?_
  refine pf11_0 C hP hS hb (m11 hb hL) q1377 dX12_bestPlan_2 (fun H locs hP hS => ?_)
  obtain ⟨st1, est1⟩ : ∃ z, z = uI st b 0 0 := ⟨_, rfl⟩
  rw [← est1] at hP; have h := h st1 est1
  refine lv_aload_n C.1 C.2.1 dX12_bestPlan_5 rfl (lv_at hl 0 rfl) ?_
  refine gf11_4 C hP hb (m11 hb hL) q1383 dX12_bestPlan_6 ?_
  refine gf9_2 C hP (show kd 60 = 9 from rfl) (hL 60 (Nat.le_of_ble_eq_true rfl) (Nat.le_of_ble_eq_true rfl)) q1324 dX12_bestPlan_9 ?_
  refine lv_if_ne C.1 C.2.1 (tgt := 21) dX12_bestPlan_12 (by decide) (fun hc => ?_) (fun hc => ?_)
  · have h := h.1 hc
    refine lv_iconst C.1 C.2.1 (v := (-1)) dX12_bestPlan_21 rfl ?_
    refine lv_istore_n C.1 C.2.1 dX12_bestPlan_22 rfl hl (Nat.le_of_ble_eq_true rfl) rfl (fun ls hl => ?_)
    have hl : lv_has ls 8 [(1, .int (-1)), (0, .ref (E.2.1 b))] := hl
    refine lv_iconst C.1 C.2.1 (v := (-1)) dX12_bestPlan_23 rfl ?_
    refine lv_istore_n C.1 C.2.1 dX12_bestPlan_24 rfl hl (Nat.le_of_ble_eq_true rfl) rfl (fun ls hl => ?_)
    have hl : lv_has ls 8 [(2, .int (-1)), (1, .int (-1)), (0, .ref (E.2.1 b))] := hl
    refine lv_iconst C.1 C.2.1 (v := 0) dX12_bestPlan_25 rfl ?_
    refine lv_istore_n C.1 C.2.1 dX12_bestPlan_26 rfl hl (Nat.le_of_ble_eq_true rfl) rfl (fun ls hl => ?_)
    have hl : lv_has ls 8 [(3, .int 0), (2, .int (-1)), (1, .int (-1)), (0, .ref (E.2.1 b))] := hl
    refine lv_aload_n C.1 C.2.1 dX12_bestPlan_27 rfl (lv_at hl 3 rfl) ?_
    refine z_kv hS (z_runV (As := []) (rest := []) C hP hS (m11 hb hL) (e11 hb) rfl (tX12_keep C.2.2.2.2.2.2.1 (hL.mo (Nat.le_of_ble_eq_true rfl) (Nat.le_of_ble_eq_true rfl)) hb h) q1892 q1894 q95 q116 q1895 hdX12_keep ⟨Nat.le_of_ble_eq_true rfl, Nat.le_of_ble_eq_true rfl⟩ ⟨Nat.zero_le _, Nat.zero_le _⟩ rfl hl.1 rfl (lv_room (Nat.le_of_ble_eq_true rfl)) dX12_bestPlan_28) (fun st2 H locs h hP hS => ?_)
    refine lv_iconst C.1 C.2.1 (v := 0) dX12_bestPlan_31 rfl ?_
    refine lv_istore C.1 C.2.1 dX12_bestPlan_32 hl (Nat.le_of_ble_eq_true rfl) rfl (fun ls hl => ?_)
    have hl : lv_has ls 8 [(4, .int 0), (3, .int 0), (2, .int (-1)), (1, .int (-1)), (0, .ref (E.2.1 b))] := hl
    obtain ⟨n, h⟩ := h
    exact tX12_bestPlan_L34 hL C hr hlk hb n (-1) (-1) 0 0 st2 _ _ _ h (lv_sub hl [4, 3, 2, 1, 0] rfl) hP hS
  · have h := h.2 hc
    refine lv_aload_n C.1 C.2.1 dX12_bestPlan_15 rfl (lv_at hl 0 rfl) ?_
    refine lv_iconst C.1 C.2.1 (v := 1) dX12_bestPlan_16 rfl ?_
    refine z_ki hS (z_runV (As := [.int 1]) (rest := []) C hP hS (m11 hb hL) (e11 hb) rfl (tX12_fail C.2.2.2.2.2.2.1 (hL.mo (Nat.le_of_ble_eq_true rfl) (Nat.le_of_ble_eq_true rfl)) hb h) q1415 q1417 q40 q116 q1418 hdX12_fail ⟨Nat.le_of_ble_eq_true rfl, Nat.le_of_ble_eq_true rfl⟩ ⟨Nat.zero_le _, Nat.zero_le _⟩ rfl hl.1 rfl (lv_room (Nat.le_of_ble_eq_true rfl)) dX12_bestPlan_17) (fun r4 st3 H locs h hP hS => ?_)
    exact z_ri C hr hlk rfl hP hS h dX12_bestPlan_20

def rmX9_meanStrength : Room := { frames := 0, cells := 0, slots := 0, locals := 0 }
def wX9_meanStrength_L4 (b : Nat)  (R4 : Int32 × Int32 × St → Prop) (v1 : Int32) (v2 : Int32) (st : St) (Q : UInt64 → St → Prop) : Prop :=
  (((gI st (b + 4) 4) ≤ v2 → (((gI st (b + 4) 4) ≤ 0 → False) ∧ (¬ (gI st (b + 4) 4) ≤ 0 → (vf_n64 (FP.ddiv (FP.i2d v1) (FP.i2d (gI st (b + 4) 4))) ∧ Q (FP.ddiv (FP.i2d v1) (FP.i2d (gI st (b + 4) 4))) st)))) ∧ (¬ (gI st (b + 4) 4) ≤ v2 → (vp_in v2 12 ∧ (∀ x1 : Int32, x1 = (v1 + (gI st ((b + 4) + 3) (v2 : Int32).toNatClampNeg)) → (∀ x2 : Int32, x2 = v2 + 1 → R4 (x1, x2, st))))))
def wX9_meanStrength (b : Nat) (st : St) (Q : UInt64 → St → Prop) : Prop :=
  (∃ n, lp (fun R s => wX9_meanStrength_L4 b R s.1 s.2.1 s.2.2 Q) n (0, 0, st))
theorem hdX9_meanStrength : yX9_meanStrength.cls = "PlankBridge" ∧ yX9_meanStrength.cls ≠ "java/lang/invoke/MethodHandle" ∧ yX9_meanStrength.cls ≠ "java/lang/invoke/VarHandle" ∧ (parseMethodDescriptor yX9_meanStrength.desc).map (fun d => d.parameters.length) = some 0 := by decide +kernel
set_option maxHeartbeats 4000000 in
set_option maxRecDepth 100000 in
theorem tX9_meanStrength_L4 {l : Launch} {p : Program} {e : Env} {s : State} {m : MethodId} {args : Array Value} {below : List Frame} {meth : Method} {c : Code} {E : En0} {L : List Nat} (hL : Cov 0 54 L) (C : Cx E L "PlankBridge" cX9_meanStrength 3 p s m args c) (hr : meth.sig.returnType = (some .double)) (hlk : meth.locks = false) {b : Nat} {Q : UInt64 → St → Prop} (hb : kd b = 8) : ∀ (n : Nat) (v1 : Int32) (v2 : Int32) (st : St) (H : Heap) (locs : List Loc) (ls : Array Slot), lp (fun R s => wX9_meanStrength_L4 b R s.1 s.2.1 s.2.2 Q) n (v1, v2, st) → lv_has ls 3 [(0, .ref (E.2.1 b)), (1, .int v1), (2, .int v2)] → va_P E.1 vwCl (wd E L st) H → va_S (fA E L s.heap.size) s.heap H locs → W p l e rmX9_meanStrength s m args below meth c H locs 0 0 (MQ below (zD E L Q (fA E L s.heap.size)) args s rmX9_meanStrength.cells rmX9_meanStrength.slots (fA E L s.heap.size)) (F0 m 4 ls []) := by
  intro n
  induction n with
  | zero => exact fun _ _ _ _ _ _ h _ _ _ => False.elim ‹_›
  | succ n ih =>
    intro v1 v2 st  H locs ls h hl hP hS
    have hR4 := ih
    replace h : wX9_meanStrength_L4 b (lp (fun R s => wX9_meanStrength_L4 b R s.1 s.2.1 s.2.2 Q) n) v1 v2 st Q := h
    unfold wX9_meanStrength_L4 at h
    refine lv_iload_n C.1 C.2.1 dX9_meanStrength_4 rfl (lv_at hl 2 rfl) ?_
    refine lv_aload_n C.1 C.2.1 dX9_meanStrength_5 rfl (lv_at hl 0 rfl) ?_
    refine gf8_2 C hP hb (m8 hb hL) q412 dX9_meanStrength_6 ?_
    refine gn2_4 C hP (k8_4 hb) (m8_4 hb hL) q300 dX9_meanStrength_9 ?_
    refine lv_icmp_ge C.1 C.2.1 (tgt := 33) dX9_meanStrength_12 (by decide) (fun hc => ?_) (fun hc => ?_)
    · have h := h.1 hc
      refine lv_aload_n C.1 C.2.1 dX9_meanStrength_33 rfl (lv_at hl 0 rfl) ?_
      refine gf8_2 C hP hb (m8 hb hL) q412 dX9_meanStrength_34 ?_
      refine gn2_4 C hP (k8_4 hb) (m8_4 hb hL) q300 dX9_meanStrength_37 ?_
      refine lv_if_le C.1 C.2.1 (tgt := 57) dX9_meanStrength_40 (by decide) (fun hc => ?_) (fun hc => ?_)
      · have h := h.1 hc
        exact h.elim
      · have h := h.2 hc
        refine lv_iload_n C.1 C.2.1 dX9_meanStrength_43 rfl (lv_at hl 1 rfl) ?_
        refine lv_i2d C.1 C.2.1 dX9_meanStrength_44 ?_
        refine lv_aload_n C.1 C.2.1 dX9_meanStrength_45 rfl (lv_at hl 0 rfl) ?_
        refine gf8_2 C hP hb (m8 hb hL) q412 dX9_meanStrength_46 ?_
        refine gn2_4 C hP (k8_4 hb) (m8_4 hb hL) q300 dX9_meanStrength_49 ?_
        refine lv_i2d C.1 C.2.1 dX9_meanStrength_52 ?_
        obtain ⟨hdv, h⟩ := h
        refine lv_ddiv C.1 C.2.1 dX9_meanStrength_53 hdv ?_
        refine lv_goto C.1 C.2.1 (tgt := 58) dX9_meanStrength_54 (by decide) ?_
        exact z_rd C hr hlk hP hS h dX9_meanStrength_58
    · have h := h.2 hc
      refine lv_iload_n C.1 C.2.1 dX9_meanStrength_15 rfl (lv_at hl 1 rfl) ?_
      refine lv_aload_n C.1 C.2.1 dX9_meanStrength_16 rfl (lv_at hl 0 rfl) ?_
      refine gf8_2 C hP hb (m8 hb hL) q412 dX9_meanStrength_17 ?_
      refine gn2_5 C hP (k8_4 hb) (m8_4 hb hL) q302 dX9_meanStrength_20 ?_
      refine lv_iload_n C.1 C.2.1 dX9_meanStrength_23 rfl (lv_at hl 2 rfl) ?_
      obtain ⟨hi, h⟩ := h
      refine z_iald C hP (k2_3 (k8_4 hb)) (l2_3 (k8_4 hb)) (m2_3 (k8_4 hb) hL) hi dX9_meanStrength_24 ?_
      refine lv_iadd C.1 C.2.1 dX9_meanStrength_25  ?_
      refine lv_topi (fun x1 ex1 => ?_)
      have h := h x1 ex1
      refine lv_istore_n C.1 C.2.1 dX9_meanStrength_26 rfl hl (Nat.le_of_ble_eq_true rfl) rfl (fun ls hl => ?_)
      have hl : lv_has ls 3 [(1, .int x1), (0, .ref (E.2.1 b)), (2, .int v2)] := hl
      obtain ⟨x2, ex2⟩ : ∃ z, z = v2 + 1 := ⟨_, rfl⟩
      have h := h x2 ex2
      refine lv_iinc C.1 C.2.1 dX9_meanStrength_27 hl (k := 2) rfl ex2.symm (Nat.le_of_ble_eq_true rfl) rfl (fun ls hl => ?_)
      have hl : lv_has ls 3 [(2, .int x2), (1, .int x1), (0, .ref (E.2.1 b))] := hl
      refine lv_goto C.1 C.2.1 (tgt := 4) dX9_meanStrength_30 (by decide) ?_
      exact hR4 x1 x2 st _ _ _ h (lv_sub hl [2, 1, 0] rfl) hP hS
set_option maxHeartbeats 4000000 in
set_option maxRecDepth 100000 in
theorem tX9_meanStrength {l : Launch} {E : En0} {L : List Nat} (hE : EK E L) (hL : Cov 0 54 L) {b : Nat} {st : St} {Q : UInt64 → St → Prop} (hb : kd b = 8) (h : wX9_meanStrength b st Q) : Mz l yX9_meanStrength cX9_meanStrength 3 (some .double) rmX9_meanStrength E L [.ref (E.2.1 b)] st (zD E L Q) := by
  refine Mz.of hE (by decide) (Nat.le_of_ble_eq_true rfl) ?_
  intro p e s m below meth c ls C hr hlk _ hl hP
  replace C : Cx E L "PlankBridge" cX9_meanStrength 3 p s m _ c := C
  have hS : va_S (fA E L s.heap.size) s.heap s.heap [] := va_S.rf
  replace hl : lv_has ls 3 [(0, .ref (E.2.1 b))] := hl
  unfold wX9_meanStrength at h
  refine lv_iconst C.1 C.2.1 (v := 0) dX9_meanStrength_0 rfl ?_
  refine lv_istore_n C.1 C.2.1 dX9_meanStrength_1 rfl hl (Nat.le_of_ble_eq_true rfl) rfl (fun ls hl => ?_)
  have hl : lv_has ls 3 [(1, .int 0), (0, .ref (E.2.1 b))] := hl
  refine lv_iconst C.1 C.2.1 (v := 0) dX9_meanStrength_2 rfl ?_
  refine lv_istore_n C.1 C.2.1 dX9_meanStrength_3 rfl hl (Nat.le_of_ble_eq_true rfl) rfl (fun ls hl => ?_)
  have hl : lv_has ls 3 [(2, .int 0), (1, .int 0), (0, .ref (E.2.1 b))] := hl
  obtain ⟨n, h⟩ := h
  exact tX9_meanStrength_L4 hL C hr hlk hb n 0 0 st _ _ _ h (lv_sub hl [2, 1, 0] rfl) hP hS
def rmX12_meanStrength : Room := { frames := 0, cells := 0, slots := 0, locals := 0 }
def wX12_meanStrength_L9 (b : Nat)  (R9 : Int32 × Int32 × St → Prop) (v1 : Int32) (v2 : Int32) (st : St) (Q : UInt64 → St → Prop) : Prop :=
  (((gI st 60 1) ≤ v2 → (vf_n64 (FP.ddiv (FP.i2d v1) (FP.i2d (gI st 60 1))) ∧ Q (FP.ddiv (FP.i2d v1) (FP.i2d (gI st 60 1))) st)) ∧ (¬ (gI st 60 1) ≤ v2 → (vp_in ((16 : Int32) + v2) 50 ∧ (∀ x2 : Int32, x2 = (v1 + (gI st (b + 2) ((16 : Int32) + v2 : Int32).toNatClampNeg)) → (∀ x3 : Int32, x3 = v2 + 1 → R9 (x2, x3, st))))))
def wX12_meanStrength (b : Nat) (st : St) (Q : UInt64 → St → Prop) : Prop :=
  (∀ st1, st1 = uI st b 0 0 → (∃ n, lp (fun R s => wX12_meanStrength_L9 b R s.1 s.2.1 s.2.2 Q) n (0, 0, st1)))
theorem hdX12_meanStrength : yX12_meanStrength.cls = "PlankBridgeModel" ∧ yX12_meanStrength.cls ≠ "java/lang/invoke/MethodHandle" ∧ yX12_meanStrength.cls ≠ "java/lang/invoke/VarHandle" ∧ (parseMethodDescriptor yX12_meanStrength.desc).map (fun d => d.parameters.length) = some 0 := by decide +kernel
set_option maxHeartbeats 4000000 in
set_option maxRecDepth 100000 in
theorem tX12_meanStrength_L9 {l : Launch} {p : Program} {e : Env} {s : State} {m : MethodId} {args : Array Value} {below : List Frame} {meth : Method} {c : Code} {E : En0} {L : List Nat} (hL : Cov 54 67 L) (C : Cx E L "PlankBridgeModel" cX12_meanStrength 3 p s m args c) (hr : meth.sig.returnType = (some .double)) (hlk : meth.locks = false) {b : Nat} {Q : UInt64 → St → Prop} (hb : kd b = 11) : ∀ (n : Nat) (v1 : Int32) (v2 : Int32) (st : St) (H : Heap) (locs : List Loc) (ls : Array Slot), lp (fun R s => wX12_meanStrength_L9 b R s.1 s.2.1 s.2.2 Q) n (v1, v2, st) → lv_has ls 3 [(0, .ref (E.2.1 b)), (1, .int v1), (2, .int v2)] → va_P E.1 vwCl (wd E L st) H → va_S (fA E L s.heap.size) s.heap H locs → W p l e rmX12_meanStrength s m args below meth c H locs 0 0 (MQ below (zD E L Q (fA E L s.heap.size)) args s rmX12_meanStrength.cells rmX12_meanStrength.slots (fA E L s.heap.size)) (F0 m 9 ls []) := by
  intro n
  induction n with
  | zero => exact fun _ _ _ _ _ _ h _ _ _ => False.elim ‹_›
  | succ n ih =>
    intro v1 v2 st  H locs ls h hl hP hS
    have hR9 := ih
    replace h : wX12_meanStrength_L9 b (lp (fun R s => wX12_meanStrength_L9 b R s.1 s.2.1 s.2.2 Q) n) v1 v2 st Q := h
    unfold wX12_meanStrength_L9 at h
    refine lv_iload_n C.1 C.2.1 dX12_meanStrength_9 rfl (lv_at hl 2 rfl) ?_
    refine lv_aload_n C.1 C.2.1 dX12_meanStrength_10 rfl (lv_at hl 0 rfl) ?_
    refine gf11_4 C hP hb (m11 hb hL) q1383 dX12_meanStrength_11 ?_
    refine gf9_1 C hP (show kd 60 = 9 from rfl) (hL 60 (Nat.le_of_ble_eq_true rfl) (Nat.le_of_ble_eq_true rfl)) q1321 dX12_meanStrength_14 ?_
    refine lv_icmp_ge C.1 C.2.1 (tgt := 38) dX12_meanStrength_17 (by decide) (fun hc => ?_) (fun hc => ?_)
    · have h := h.1 hc
      refine lv_iload_n C.1 C.2.1 dX12_meanStrength_38 rfl (lv_at hl 1 rfl) ?_
      refine lv_i2d C.1 C.2.1 dX12_meanStrength_39 ?_
      refine lv_aload_n C.1 C.2.1 dX12_meanStrength_40 rfl (lv_at hl 0 rfl) ?_
      refine gf11_4 C hP hb (m11 hb hL) q1383 dX12_meanStrength_41 ?_
      refine gf9_1 C hP (show kd 60 = 9 from rfl) (hL 60 (Nat.le_of_ble_eq_true rfl) (Nat.le_of_ble_eq_true rfl)) q1321 dX12_meanStrength_44 ?_
      refine lv_i2d C.1 C.2.1 dX12_meanStrength_47 ?_
      obtain ⟨hdv, h⟩ := h
      refine lv_ddiv C.1 C.2.1 dX12_meanStrength_48 hdv ?_
      exact z_rd C hr hlk hP hS h dX12_meanStrength_49
    · have h := h.2 hc
      refine lv_iload_n C.1 C.2.1 dX12_meanStrength_20 rfl (lv_at hl 1 rfl) ?_
      refine lv_aload_n C.1 C.2.1 dX12_meanStrength_21 rfl (lv_at hl 0 rfl) ?_
      refine gf11_5 C hP hb (m11 hb hL) q1384 dX12_meanStrength_22 ?_
      refine lv_bipush C.1 C.2.1 (v := 16) dX12_meanStrength_25 rfl ?_
      refine lv_iload_n C.1 C.2.1 dX12_meanStrength_27 rfl (lv_at hl 2 rfl) ?_
      refine lv_iadd C.1 C.2.1 dX12_meanStrength_28  ?_
      obtain ⟨hi, h⟩ := h
      refine z_iald C hP (k11_2 hb) (l11_2 hb) (m11_2 hb hL) hi dX12_meanStrength_29 ?_
      refine lv_iadd C.1 C.2.1 dX12_meanStrength_30  ?_
      refine lv_topi (fun x2 ex2 => ?_)
      have h := h x2 ex2
      refine lv_istore_n C.1 C.2.1 dX12_meanStrength_31 rfl hl (Nat.le_of_ble_eq_true rfl) rfl (fun ls hl => ?_)
      have hl : lv_has ls 3 [(1, .int x2), (0, .ref (E.2.1 b)), (2, .int v2)] := hl
      obtain ⟨x3, ex3⟩ : ∃ z, z = v2 + 1 := ⟨_, rfl⟩
      have h := h x3 ex3
      refine lv_iinc C.1 C.2.1 dX12_meanStrength_32 hl (k := 2) rfl ex3.symm (Nat.le_of_ble_eq_true rfl) rfl (fun ls hl => ?_)
      have hl : lv_has ls 3 [(2, .int x3), (1, .int x2), (0, .ref (E.2.1 b))] := hl
      refine lv_goto C.1 C.2.1 (tgt := 9) dX12_meanStrength_35 (by decide) ?_
      exact hR9 x2 x3 st _ _ _ h (lv_sub hl [2, 1, 0] rfl) hP hS
set_option maxHeartbeats 4000000 in
set_option maxRecDepth 100000 in
theorem tX12_meanStrength {l : Launch} {E : En0} {L : List Nat} (hE : EK E L) (hL : Cov 54 67 L) {b : Nat} {st : St} {Q : UInt64 → St → Prop} (hb : kd b = 11) (h : wX12_meanStrength b st Q) : Mz l yX12_meanStrength cX12_meanStrength 3 (some .double) rmX12_meanStrength E L [.ref (E.2.1 b)] st (zD E L Q) := by
  refine Mz.of hE (by decide) (Nat.le_of_ble_eq_true rfl) ?_
  intro p e s m below meth c ls C hr hlk _ hl hP
  replace C : Cx E L "PlankBridgeModel" cX12_meanStrength 3 p s m _ c := C
  have hS : va_S (fA E L s.heap.size) s.heap s.heap [] := va_S.rf
  replace hl : lv_has ls 3 [(0, .ref (E.2.1 b))] := hl
  unfold wX12_meanStrength at h
  refine lv_aload_n C.1 C.2.1 dX12_meanStrength_0 rfl (lv_at hl 0 rfl) ?_
  refine lv_iconst C.1 C.2.1 (v := 0) dX12_meanStrength_1 rfl ?_
  refine pf11_0 C hP hS hb (m11 hb hL) q1377 dX12_meanStrength_2 (fun H locs hP hS => ?_)
  obtain ⟨st1, est1⟩ : ∃ z, z = uI st b 0 0 := ⟨_, rfl⟩
  rw [← est1] at hP; have h := h st1 est1
  refine lv_iconst C.1 C.2.1 (v := 0) dX12_meanStrength_5 rfl ?_
  refine lv_istore_n C.1 C.2.1 dX12_meanStrength_6 rfl hl (Nat.le_of_ble_eq_true rfl) rfl (fun ls hl => ?_)
  have hl : lv_has ls 3 [(1, .int 0), (0, .ref (E.2.1 b))] := hl
  refine lv_iconst C.1 C.2.1 (v := 0) dX12_meanStrength_7 rfl ?_
  refine lv_istore_n C.1 C.2.1 dX12_meanStrength_8 rfl hl (Nat.le_of_ble_eq_true rfl) rfl (fun ls hl => ?_)
  have hl : lv_has ls 3 [(2, .int 0), (1, .int 0), (0, .ref (E.2.1 b))] := hl
  obtain ⟨n, h⟩ := h
  exact tX12_meanStrength_L9 hL C hr hlk hb n 0 0 st1 _ _ _ h (lv_sub hl [2, 1, 0] rfl) hP hS
def rmX12_feed : Room := { frames := 1, cells := 1, slots := 5, locals := 21 }
def wX12_feed_L54 (b : Nat) (p1 : Int32) (p2 : Int32) (p3 : Int32) (p4 : Int32) (p5 : Int32)  (R54 : Int32 × St → Prop) (v7 : Int32) (st : St) (Q : Int32 → St → Prop) : Prop :=
  ((20 ≤ v7 → (∀ st10, st10 = uI st b 2 ((gI st b 2) + 20) → Q (gI st10 b 2) st10)) ∧ (¬ 20 ≤ v7 → (vp_in (v7 / 4) 5 ∧ (vp_in ((gI st b 2) + v7) 1600 ∧ ∀ st11, st11 = uI st (b + 1) ((gI st b 2) + v7 : Int32).toNatClampNeg (((gI st 77 (v7 / 4 : Int32).toNatClampNeg) >>> (((24 : Int32) - ((8 : Int32) * (v7 - v7 / 4 * 4))) &&& 31) : Int32).toInt8.toInt32) → (∀ x12 : Int32, x12 = v7 + 1 → R54 (x12, st11))))))
def wX12_feed (b : Nat) (p1 : Int32) (p2 : Int32) (p3 : Int32) (p4 : Int32) (p5 : Int32) (st : St) (Q : Int32 → St → Prop) : Prop :=
  (∀ st1, st1 = uI st b 0 0 → ((((gI st1 b 2) + 20) ≤ 1600 → (rOK st1 ∧ ∀ st2, st2 = sI st1 77 (fun _ => 0) → (vp_in 0 5 ∧ ∀ st3, st3 = uI st2 77 (0 : Int32).toNatClampNeg p1 → (vp_in 1 5 ∧ ∀ st4, st4 = uI st3 77 (1 : Int32).toNatClampNeg p2 → (vp_in 2 5 ∧ ∀ st5, st5 = uI st4 77 (2 : Int32).toNatClampNeg p3 → (vp_in 3 5 ∧ ∀ st6, st6 = uI st5 77 (3 : Int32).toNatClampNeg p4 → (vp_in 4 5 ∧ ∀ st7, st7 = uI st6 77 (4 : Int32).toNatClampNeg p5 → (∃ n, lp (fun R s => wX12_feed_L54 b p1 p2 p3 p4 p5 R s.1 s.2 (fun r u => rOK u ∧ Q r u)) n (0, st7))))))))) ∧ (¬ ((gI st1 b 2) + 20) ≤ 1600 → (wX12_fail b 1 st1 (fun r9 st8 => Q r9 st8)))))
theorem hdX12_feed : yX12_feed.cls = "PlankBridgeModel" ∧ yX12_feed.cls ≠ "java/lang/invoke/MethodHandle" ∧ yX12_feed.cls ≠ "java/lang/invoke/VarHandle" ∧ (parseMethodDescriptor yX12_feed.desc).map (fun d => d.parameters.length) = some 5 := by decide +kernel
set_option maxHeartbeats 4000000 in
set_option maxRecDepth 100000 in
theorem tX12_feed_L54 {l : Launch} {p : Program} {e : Env} {s : State} {m : MethodId} {args : Array Value} {below : List Frame} {meth : Method} {c : Code} {E : En0} {L : List Nat} (hL : Cov 54 67 L) (C : Cx E L "PlankBridgeModel" cX12_feed 8 p s m args c) (hr : meth.sig.returnType = (some .int)) (hlk : meth.locks = false) (m77 : 77 ∈ L) {b : Nat} {p1 : Int32} {p2 : Int32} {p3 : Int32} {p4 : Int32} {p5 : Int32} {Q : Int32 → St → Prop} (hb : kd b = 11) : ∀ (n : Nat) (v7 : Int32) (st : St) (H : Heap) (locs : List Loc) (ls : Array Slot), lp (fun R s => wX12_feed_L54 b p1 p2 p3 p4 p5 R s.1 s.2 Q) n (v7, st) → lv_has ls 8 [(0, .ref (E.2.1 b)), (6, .ref (E.2.1 77)), (7, .int v7)] → va_P E.1 vwCl (wd E L st) H → va_S (fA E L s.heap.size) s.heap H locs → W p l e rmX12_feed s m args below meth c H locs 1 5 (MQ below (zI E L Q (fA E L s.heap.size)) args s rmX12_feed.cells rmX12_feed.slots (fA E L s.heap.size)) (F0 m 54 ls []) := by
  intro n
  induction n with
  | zero => exact fun _ _ _ _ _ h _ _ _ => False.elim ‹_›
  | succ n ih =>
    intro v7 st  H locs ls h hl hP hS
    have hR54 := ih
    replace h : wX12_feed_L54 b p1 p2 p3 p4 p5 (lp (fun R s => wX12_feed_L54 b p1 p2 p3 p4 p5 R s.1 s.2 Q) n) v7 st Q := h
    unfold wX12_feed_L54 at h
    refine lv_iload C.1 C.2.1 dX12_feed_54 (lv_at hl 2 rfl) ?_
    refine lv_bipush C.1 C.2.1 (v := 20) dX12_feed_56 rfl ?_
    refine lv_icmp_ge C.1 C.2.1 (tgt := 98) dX12_feed_58 (by decide) (fun hc => ?_) (fun hc => ?_)
    · have h := h.1 hc
      refine lv_aload_n C.1 C.2.1 dX12_feed_98 rfl (lv_at hl 0 rfl) ?_
      refine lv_dup C.1 C.2.1 dX12_feed_99 rfl ?_
      refine gf11_2 C hP hb (m11 hb hL) q1381 dX12_feed_100 ?_
      refine lv_bipush C.1 C.2.1 (v := 20) dX12_feed_103 rfl ?_
      refine lv_iadd C.1 C.2.1 dX12_feed_105  ?_
      refine pf11_2 C hP hS hb (m11 hb hL) q1381 dX12_feed_106 (fun H locs hP hS => ?_)
      obtain ⟨st10, est10⟩ : ∃ z, z = uI st b 2 ((gI st b 2) + 20) := ⟨_, rfl⟩
      rw [← est10] at hP; have h := h st10 est10
      refine lv_aload_n C.1 C.2.1 dX12_feed_109 rfl (lv_at hl 0 rfl) ?_
      refine gf11_2 C hP hb (m11 hb hL) q1381 dX12_feed_110 ?_
      refine W.widen (k := rmX12_feed.cells) (n := rmX12_feed.slots) (Nat.le_of_ble_eq_true rfl) (Nat.le_of_ble_eq_true rfl) ?_
      exact z_ri C hr hlk rfl hP hS h dX12_feed_113
    · have h := h.2 hc
      refine lv_aload_n C.1 C.2.1 dX12_feed_61 rfl (lv_at hl 0 rfl) ?_
      refine gf11_1 C hP hb (m11 hb hL) q1378 dX12_feed_62 ?_
      refine lv_aload_n C.1 C.2.1 dX12_feed_65 rfl (lv_at hl 0 rfl) ?_
      refine gf11_2 C hP hb (m11 hb hL) q1381 dX12_feed_66 ?_
      refine lv_iload C.1 C.2.1 dX12_feed_69 (lv_at hl 2 rfl) ?_
      refine lv_iadd C.1 C.2.1 dX12_feed_71  ?_
      refine lv_aload C.1 C.2.1 dX12_feed_72 (lv_at hl 1 rfl) ?_
      refine lv_iload C.1 C.2.1 dX12_feed_74 (lv_at hl 2 rfl) ?_
      refine lv_iconst C.1 C.2.1 (v := 4) dX12_feed_76 rfl ?_
      refine lv_idiv C.1 C.2.1 dX12_feed_77  (by decide) ?_
      obtain ⟨hi, h⟩ := h
      refine z_iald C hP (show kd 77 = 20 from rfl) (show ln 77 = 5 from rfl) m77 hi dX12_feed_78 ?_
      refine lv_bipush C.1 C.2.1 (v := 24) dX12_feed_79 rfl ?_
      refine lv_bipush C.1 C.2.1 (v := 8) dX12_feed_81 rfl ?_
      refine lv_iload C.1 C.2.1 dX12_feed_83 (lv_at hl 2 rfl) ?_
      refine lv_iconst C.1 C.2.1 (v := 4) dX12_feed_85 rfl ?_
      refine lv_irem C.1 C.2.1 dX12_feed_86  (by decide) ?_
      refine lv_imul C.1 C.2.1 dX12_feed_87  ?_
      refine lv_isub C.1 C.2.1 dX12_feed_88  ?_
      refine lv_ishr C.1 C.2.1 dX12_feed_89  ?_
      refine t_i2b C.1 C.2.1 dX12_feed_90 rfl ?_
      obtain ⟨hi, h⟩ := h
      refine z_bast C hP hS (k11_1 hb) (l11_1 hb) (m11_1 hb hL) hi (pk_vb _) dX12_feed_91 (fun H locs hP hS => ?_)
      obtain ⟨st11, est11⟩ : ∃ z, z = uI st (b + 1) ((gI st b 2) + v7 : Int32).toNatClampNeg (((gI st 77 (v7 / 4 : Int32).toNatClampNeg) >>> (((24 : Int32) - ((8 : Int32) * (v7 - v7 / 4 * 4))) &&& 31) : Int32).toInt8.toInt32) := ⟨_, rfl⟩
      rw [← est11] at hP; have h := h st11 est11
      obtain ⟨x12, ex12⟩ : ∃ z, z = v7 + 1 := ⟨_, rfl⟩
      have h := h x12 ex12
      refine lv_iinc C.1 C.2.1 dX12_feed_92 hl (k := 2) rfl ex12.symm (Nat.le_of_ble_eq_true rfl) rfl (fun ls hl => ?_)
      have hl : lv_has ls 8 [(7, .int x12), (0, .ref (E.2.1 b)), (6, .ref (E.2.1 77))] := hl
      refine lv_goto C.1 C.2.1 (tgt := 54) dX12_feed_95 (by decide) ?_
      exact hR54 x12 st11 _ _ _ h (lv_sub hl [1, 2, 0] rfl) hP hS
set_option maxHeartbeats 4000000 in
set_option maxRecDepth 100000 in
theorem tX12_feed {l : Launch} {E : En0} {L : List Nat} (hE : EK E L) (hL : Cov 54 67 L) (hu : ∀ c ∈ L, c < 77) {b : Nat} {p1 : Int32} {p2 : Int32} {p3 : Int32} {p4 : Int32} {p5 : Int32} {st : St} {Q : Int32 → St → Prop} (hb : kd b = 11) (h : wX12_feed b p1 p2 p3 p4 p5 st Q) : Mz l yX12_feed cX12_feed 8 (some .int) rmX12_feed E L [.ref (E.2.1 b), .int p1, .int p2, .int p3, .int p4, .int p5] st (zI E L Q) := by
  refine Mz.of hE (by decide) (Nat.le_of_ble_eq_true rfl) ?_
  intro p e s m below meth c ls C hr hlk _ hl hP
  replace C : Cx E L "PlankBridgeModel" cX12_feed 8 p s m _ c := C
  have hS : va_S (fA E L s.heap.size) s.heap s.heap [] := va_S.rf
  replace hl : lv_has ls 8 [(0, .ref (E.2.1 b)), (1, .int p1), (2, .int p2), (3, .int p3), (4, .int p4), (5, .int p5)] := hl
  unfold wX12_feed at h
  refine lv_aload_n C.1 C.2.1 dX12_feed_0 rfl (lv_at hl 0 rfl) ?_
  refine lv_iconst C.1 C.2.1 (v := 0) dX12_feed_1 rfl ?_
  refine pf11_0 C hP hS hb (m11 hb hL) q1377 dX12_feed_2 (fun H locs hP hS => ?_)
  obtain ⟨st1, est1⟩ : ∃ z, z = uI st b 0 0 := ⟨_, rfl⟩
  rw [← est1] at hP; have h := h st1 est1
  refine lv_aload_n C.1 C.2.1 dX12_feed_5 rfl (lv_at hl 0 rfl) ?_
  refine gf11_2 C hP hb (m11 hb hL) q1381 dX12_feed_6 ?_
  refine lv_bipush C.1 C.2.1 (v := 20) dX12_feed_9 rfl ?_
  refine lv_iadd C.1 C.2.1 dX12_feed_11  ?_
  refine lv_sipush C.1 C.2.1 (v := 1600) dX12_feed_12 rfl ?_
  refine lv_icmp_le C.1 C.2.1 (tgt := 24) dX12_feed_15 (by decide) (fun hc => ?_) (fun hc => ?_)
  · have h := h.1 hc
    refine lv_iconst C.1 C.2.1 (v := 5) dX12_feed_24 rfl ?_
    obtain ⟨hrk, h⟩ := h
    refine z_newI (x := 77) (Nat.le_of_ble_eq_true rfl) rfl hu C hP hS hrk (n' := 5) (by decide) rfl rfl (Nat.le_of_ble_eq_true rfl) (Nat.le_of_ble_eq_true rfl) (Nat.le_of_ble_eq_true rfl) q187 dX12_feed_25 (fun E2 L2 H heq hsub m77 C hP hS => ?_)
    rw [← heq b (by intro e0; rw [e0] at hb; exact absurd hb (by decide))] at hl
    replace hL : Cov 54 67 L2 := fun c h1 h2 => hsub c (hL c h1 h2)
    obtain ⟨st2, est2⟩ : ∃ z, z = sI st1 77 (fun _ => 0) := ⟨_, rfl⟩
    rw [← est2] at hP; have h := h st2 est2
    refine lv_dup C.1 C.2.1 dX12_feed_27 rfl ?_
    refine lv_iconst C.1 C.2.1 (v := 0) dX12_feed_28 rfl ?_
    refine lv_iload_n C.1 C.2.1 dX12_feed_29 rfl (lv_at hl 1 rfl) ?_
    obtain ⟨hi, h⟩ := h
    refine z_iast C hP hS (show kd 77 = 20 from rfl) (show ln 77 = 5 from rfl) m77 hi dX12_feed_30 (fun H locs hP hS => ?_)
    obtain ⟨st3, est3⟩ : ∃ z, z = uI st2 77 (0 : Int32).toNatClampNeg p1 := ⟨_, rfl⟩
    rw [← est3] at hP; have h := h st3 est3
    refine lv_dup C.1 C.2.1 dX12_feed_31 rfl ?_
    refine lv_iconst C.1 C.2.1 (v := 1) dX12_feed_32 rfl ?_
    refine lv_iload_n C.1 C.2.1 dX12_feed_33 rfl (lv_at hl 2 rfl) ?_
    obtain ⟨hi, h⟩ := h
    refine z_iast C hP hS (show kd 77 = 20 from rfl) (show ln 77 = 5 from rfl) m77 hi dX12_feed_34 (fun H locs hP hS => ?_)
    obtain ⟨st4, est4⟩ : ∃ z, z = uI st3 77 (1 : Int32).toNatClampNeg p2 := ⟨_, rfl⟩
    rw [← est4] at hP; have h := h st4 est4
    refine lv_dup C.1 C.2.1 dX12_feed_35 rfl ?_
    refine lv_iconst C.1 C.2.1 (v := 2) dX12_feed_36 rfl ?_
    refine lv_iload_n C.1 C.2.1 dX12_feed_37 rfl (lv_at hl 3 rfl) ?_
    obtain ⟨hi, h⟩ := h
    refine z_iast C hP hS (show kd 77 = 20 from rfl) (show ln 77 = 5 from rfl) m77 hi dX12_feed_38 (fun H locs hP hS => ?_)
    obtain ⟨st5, est5⟩ : ∃ z, z = uI st4 77 (2 : Int32).toNatClampNeg p3 := ⟨_, rfl⟩
    rw [← est5] at hP; have h := h st5 est5
    refine lv_dup C.1 C.2.1 dX12_feed_39 rfl ?_
    refine lv_iconst C.1 C.2.1 (v := 3) dX12_feed_40 rfl ?_
    refine lv_iload C.1 C.2.1 dX12_feed_41 (lv_at hl 4 rfl) ?_
    obtain ⟨hi, h⟩ := h
    refine z_iast C hP hS (show kd 77 = 20 from rfl) (show ln 77 = 5 from rfl) m77 hi dX12_feed_43 (fun H locs hP hS => ?_)
    obtain ⟨st6, est6⟩ : ∃ z, z = uI st5 77 (3 : Int32).toNatClampNeg p4 := ⟨_, rfl⟩
    rw [← est6] at hP; have h := h st6 est6
    refine lv_dup C.1 C.2.1 dX12_feed_44 rfl ?_
    refine lv_iconst C.1 C.2.1 (v := 4) dX12_feed_45 rfl ?_
    refine lv_iload C.1 C.2.1 dX12_feed_46 (lv_at hl 5 rfl) ?_
    obtain ⟨hi, h⟩ := h
    refine z_iast C hP hS (show kd 77 = 20 from rfl) (show ln 77 = 5 from rfl) m77 hi dX12_feed_48 (fun H locs hP hS => ?_)
    obtain ⟨st7, est7⟩ : ∃ z, z = uI st6 77 (4 : Int32).toNatClampNeg p5 := ⟨_, rfl⟩
    rw [← est7] at hP; have h := h st7 est7
    refine lv_astore C.1 C.2.1 dX12_feed_49 hl (Nat.le_of_ble_eq_true rfl) rfl (fun ls hl => ?_)
    have hl : lv_has ls 8 [(6, .ref (E2.2.1 77)), (0, .ref (E2.2.1 b)), (1, .int p1), (2, .int p2), (3, .int p3), (4, .int p4), (5, .int p5)] := hl
    refine lv_iconst C.1 C.2.1 (v := 0) dX12_feed_51 rfl ?_
    refine lv_istore C.1 C.2.1 dX12_feed_52 hl (Nat.le_of_ble_eq_true rfl) rfl (fun ls hl => ?_)
    have hl : lv_has ls 8 [(7, .int 0), (6, .ref (E2.2.1 77)), (0, .ref (E2.2.1 b)), (1, .int p1), (2, .int p2), (3, .int p3), (4, .int p4), (5, .int p5)] := hl
    obtain ⟨n, h⟩ := h
    exact tX12_feed_L54 hL C hr hlk m77 hb n 0 st7 _ _ _ h (lv_sub hl [2, 1, 0] rfl) hP hS
  · have h := h.2 hc
    refine lv_aload_n C.1 C.2.1 dX12_feed_18 rfl (lv_at hl 0 rfl) ?_
    refine lv_iconst C.1 C.2.1 (v := 1) dX12_feed_19 rfl ?_
    refine z_ki hS (z_runV (As := [.int 1]) (rest := []) C hP hS (m11 hb hL) (e11 hb) rfl (tX12_fail C.2.2.2.2.2.2.1 (hL.mo (Nat.le_of_ble_eq_true rfl) (Nat.le_of_ble_eq_true rfl)) hb h) q1415 q1417 q40 q116 q1418 hdX12_fail ⟨Nat.le_of_ble_eq_true rfl, Nat.le_of_ble_eq_true rfl⟩ ⟨Nat.le_of_ble_eq_true rfl, Nat.le_of_ble_eq_true rfl⟩ rfl hl.1 rfl (lv_room (Nat.le_of_ble_eq_true rfl)) dX12_feed_20) (fun r9 st8 H locs h hP hS => ?_)
    refine W.widen (k := rmX12_feed.cells) (n := rmX12_feed.slots) (Nat.le_of_ble_eq_true rfl) (Nat.le_of_ble_eq_true rfl) ?_
    exact z_ri C hr hlk rfl hP hS h dX12_feed_23
def rmX12_digest : Room := { frames := 4, cells := 1, slots := 13, locals := 94 }
def wX12_digest_L338 (b : Nat)  (R338 : Int64 × Int32 × St → Prop) (v2 : Int64) (v4 : Int32) (st : St) (Q : Int64 → St → Prop) : Prop :=
  (vp_in 6 50 ∧ (((if (gI st (b + 2) (6 : Int32).toNatClampNeg) < 10 then (gI st (b + 2) (6 : Int32).toNatClampNeg) else 10) ≤ v4 → Q v2 st) ∧ (¬ (if (gI st (b + 2) (6 : Int32).toNatClampNeg) < 10 then (gI st (b + 2) (6 : Int32).toNatClampNeg) else 10) ≤ v4 → (vp_in ((40 : Int32) + v4) 50 ∧ (∀ x35 : Int64, x35 = ((v2 * 31) + ((gI st (b + 2) ((40 : Int32) + v4 : Int32).toNatClampNeg : Int32).toInt64)) → (∀ x36 : Int32, x36 = v4 + 1 → R338 (x35, x36, st)))))))
def wX12_digest_L267 (b : Nat)  (R267 : Int64 × Int32 × St → Prop) (v2 : Int64) (v4 : Int32) (st : St) (Q : Int64 → St → Prop) : Prop :=
  (((gI st 60 1) ≤ v4 → (∃ n, lp (fun R s => wX12_digest_L338 b R s.1 s.2.1 s.2.2 Q) n (v2, 0, st))) ∧ (¬ (gI st 60 1) ≤ v4 → (vp_in ((16 : Int32) + v4) 50 ∧ (∀ x29 : Int64, x29 = ((v2 * 31) + ((gI st (b + 2) ((16 : Int32) + v4 : Int32).toNatClampNeg : Int32).toInt64)) → (wX12_bear b v4 st (fun r31 st30 => (∀ x32 : Int64, x32 = ((x29 * 31) + ((r31 : Int32).toInt64)) → (vp_in ((28 : Int32) + v4) 50 ∧ (∀ x33 : Int64, x33 = ((x32 * 31) + ((gI st30 (b + 2) ((28 : Int32) + v4 : Int32).toNatClampNeg : Int32).toInt64)) → (∀ x34 : Int32, x34 = v4 + 1 → R267 (x33, x34, st30)))))))))))
def wX12_digest_L190 (b : Nat)  (R190 : Int64 × Int32 × St → Prop) (v2 : Int64) (v4 : Int32) (st : St) (Q : Int64 → St → Prop) : Prop :=
  (((gI st 60 0) ≤ v4 → (∃ n, lp (fun R s => wX12_digest_L267 b R s.1 s.2.1 s.2.2 Q) n (v2, 0, st))) ∧ (¬ (gI st 60 0) ≤ v4 → (vp_in v4 9 ∧ (∀ x25 : Int64, x25 = ((v2 * 31) + ((gI st 61 (v4 : Int32).toNatClampNeg : Int32).toInt64)) → (vp_in v4 9 ∧ (∀ x26 : Int64, x26 = ((x25 * 31) + ((gI st 62 (v4 : Int32).toNatClampNeg : Int32).toInt64)) → (vp_in ((8 : Int32) + v4) 50 ∧ (∀ x27 : Int64, x27 = (((x26 * 31) + 1) - ((gI st (b + 2) ((8 : Int32) + v4 : Int32).toNatClampNeg : Int32).toInt64)) → (∀ x28 : Int32, x28 = v4 + 1 → R190 (x27, x28, st))))))))))
def wX12_digest_L157 (b : Nat)  (R157 : Int64 × Int32 × Int32 × St → Prop) (v2 : Int64) (v5 : Int32) (v6 : Int32) (st : St) (Q : Int64 → St → Prop) : Prop :=
  ((v5 ≤ v6 → (∃ n, lp (fun R s => wX12_digest_L190 b R s.1 s.2.1 s.2.2 Q) n (v2, 0, st))) ∧ (¬ v5 ≤ v6 → (vp_in v6 13 ∧ (∀ x22 : Int32, x22 = (gI st 78 (v6 : Int32).toNatClampNeg) → (∀ x23 : Int64, x23 = ((v2 * 31) + ((x22 : Int32).toInt64)) → (∀ x24 : Int32, x24 = v6 + 1 → R157 (x23, v5, x24, st)))))))
def wX12_digest_L132 (b : Nat)  (s0 : Int32) (s1 : Int32) (st : St) (Q : Int64 → St → Prop) : Prop :=
  (vp_in s1 13 ∧ ∀ st18, st18 = uI st 78 (s1 : Int32).toNatClampNeg s0 → (wX12_fewest b st18 (fun r20 st19 => (vp_in 12 13 ∧ ∀ st21, st21 = uI st19 78 (12 : Int32).toNatClampNeg r20 → (∃ n, lp (fun R s => wX12_digest_L157 b R s.1 s.2.1 s.2.2.1 s.2.2.2 Q) n (1889, 13, 0, st21))))))
def wX12_digest (b : Nat) (st : St) (Q : Int64 → St → Prop) : Prop :=
  (∀ st1, st1 = uI st b 0 0 → (rOK st1 ∧ ∀ st2, st2 = sI st1 78 (fun _ => 0) → (vp_in 0 13 ∧ ∀ st3, st3 = uI st2 78 (0 : Int32).toNatClampNeg (gI st2 60 0) → (vp_in 1 13 ∧ ∀ st4, st4 = uI st3 78 (1 : Int32).toNatClampNeg (gI st3 60 1) → (vp_in 2 13 ∧ ∀ st5, st5 = uI st4 78 (2 : Int32).toNatClampNeg (gI st4 60 2) → (vp_in 0 50 ∧ (vp_in 3 13 ∧ ∀ st6, st6 = uI st5 78 (3 : Int32).toNatClampNeg ((1 : Int32) - (gI st5 (b + 2) (0 : Int32).toNatClampNeg)) → (vp_in 1 50 ∧ (vp_in 4 13 ∧ ∀ st7, st7 = uI st6 78 (4 : Int32).toNatClampNeg (gI st6 (b + 2) (1 : Int32).toNatClampNeg) → (vp_in 2 50 ∧ (vp_in 5 13 ∧ ∀ st8, st8 = uI st7 78 (5 : Int32).toNatClampNeg (gI st7 (b + 2) (2 : Int32).toNatClampNeg) → (vp_in 3 50 ∧ (vp_in 6 13 ∧ ∀ st9, st9 = uI st8 78 (6 : Int32).toNatClampNeg (gI st8 (b + 2) (3 : Int32).toNatClampNeg) → (vp_in 4 50 ∧ (vp_in 7 13 ∧ ∀ st10, st10 = uI st9 78 (7 : Int32).toNatClampNeg (gI st9 (b + 2) (4 : Int32).toNatClampNeg) → (vp_in 5 50 ∧ (vp_in 8 13 ∧ ∀ st11, st11 = uI st10 78 (8 : Int32).toNatClampNeg (gI st10 (b + 2) (5 : Int32).toNatClampNeg) → (vp_in 6 50 ∧ (vp_in 9 13 ∧ ∀ st12, st12 = uI st11 78 (9 : Int32).toNatClampNeg (gI st11 (b + 2) (6 : Int32).toNatClampNeg) → (wX12_missing b st12 (fun r14 st13 => (vp_in 10 13 ∧ ∀ st15, st15 = uI st13 78 (10 : Int32).toNatClampNeg r14 → (wX12_canPass b st15 (fun r17 st16 => ((r17 = 0 → wX12_digest_L132 b 0 11 st16 (fun r u => rOK u ∧ Q r u)) ∧ (¬ r17 = 0 → wX12_digest_L132 b 1 11 st16 (fun r u => rOK u ∧ Q r u)))))))))))))))))))))))))))
theorem hdX12_digest : yX12_digest.cls = "PlankBridgeModel" ∧ yX12_digest.cls ≠ "java/lang/invoke/MethodHandle" ∧ yX12_digest.cls ≠ "java/lang/invoke/VarHandle" ∧ (parseMethodDescriptor yX12_digest.desc).map (fun d => d.parameters.length) = some 0 := by decide +kernel
set_option maxHeartbeats 4000000 in
set_option maxRecDepth 100000 in
theorem tX12_digest_L338 {l : Launch} {p : Program} {e : Env} {s : State} {m : MethodId} {args : Array Value} {below : List Frame} {meth : Method} {c : Code} {E : En0} {L : List Nat} (hL : Cov 54 67 L) (C : Cx E L "PlankBridgeModel" cX12_digest 8 p s m args c) (hr : meth.sig.returnType = (some .long)) (hlk : meth.locks = false) (m78 : 78 ∈ L) {b : Nat} {Q : Int64 → St → Prop} (hb : kd b = 11) : ∀ (n : Nat) (v2 : Int64) (v4 : Int32) (st : St) (H : Heap) (locs : List Loc) (ls : Array Slot), lp (fun R s => wX12_digest_L338 b R s.1 s.2.1 s.2.2 Q) n (v2, v4, st) → lv_has ls 8 [(0, .ref (E.2.1 b)), (2, .long v2), (4, .int v4)] → va_P E.1 vwCl (wd E L st) H → va_S (fA E L s.heap.size) s.heap H locs → W p l e rmX12_digest s m args below meth c H locs 1 13 (MQ below (zJ E L Q (fA E L s.heap.size)) args s rmX12_digest.cells rmX12_digest.slots (fA E L s.heap.size)) (F0 m 338 ls []) := by
  intro n
  induction n with
  | zero => exact fun _ _ _ _ _ _ h _ _ _ => False.elim ‹_›
  | succ n ih =>
    intro v2 v4 st  H locs ls h hl hP hS
    have hR338 := ih
    replace h : wX12_digest_L338 b (lp (fun R s => wX12_digest_L338 b R s.1 s.2.1 s.2.2 Q) n) v2 v4 st Q := h
    unfold wX12_digest_L338 at h
    refine lv_iload C.1 C.2.1 dX12_digest_338 (lv_at hl 2 rfl) ?_
    refine lv_bipush C.1 C.2.1 (v := 10) dX12_digest_340 rfl ?_
    refine lv_aload_n C.1 C.2.1 dX12_digest_342 rfl (lv_at hl 0 rfl) ?_
    refine gf11_5 C hP hb (m11 hb hL) q1384 dX12_digest_343 ?_
    refine lv_bipush C.1 C.2.1 (v := 6) dX12_digest_346 rfl ?_
    obtain ⟨hi, h⟩ := h
    refine z_iald C hP (k11_2 hb) (l11_2 hb) (m11_2 hb hL) hi dX12_digest_348 ?_
    refine va_mmin (rest := [.int v4]) C.1 C.2.1 (C.2.2.1.trans hl.1.symm) C.2.2.2.1 (C.T q1865) (C.T q1866) (C.T q129) (C.T q1867) (Nat.le_of_ble_eq_true rfl) (Nat.le_of_ble_eq_true rfl) (Nat.le_of_ble_eq_true rfl) (Nat.le_of_ble_eq_true rfl) dX12_digest_349 ?_
    refine lv_icmp_ge C.1 C.2.1 (tgt := 379) dX12_digest_352 (by decide) (fun hc => ?_) (fun hc => ?_)
    · have h := h.1 hc
      refine lv_lload_n C.1 C.2.1 dX12_digest_379 rfl (lv_at hl 1 rfl) ?_
      refine W.widen (k := rmX12_digest.cells) (n := rmX12_digest.slots) (Nat.le_of_ble_eq_true rfl) (Nat.le_of_ble_eq_true rfl) ?_
      exact z_rj C hr hlk hP hS h dX12_digest_380
    · have h := h.2 hc
      refine lv_lload_n C.1 C.2.1 dX12_digest_355 rfl (lv_at hl 1 rfl) ?_
      refine lv_ldc2 C.1 C.2.1 C.2.2.2.1 (C.T q1970) dX12_digest_356 ?_
      refine lv_lmul C.1 C.2.1 dX12_digest_359 ?_
      refine lv_aload_n C.1 C.2.1 dX12_digest_360 rfl (lv_at hl 0 rfl) ?_
      refine gf11_5 C hP hb (m11 hb hL) q1384 dX12_digest_361 ?_
      refine lv_bipush C.1 C.2.1 (v := 40) dX12_digest_364 rfl ?_
      refine lv_iload C.1 C.2.1 dX12_digest_366 (lv_at hl 2 rfl) ?_
      refine lv_iadd C.1 C.2.1 dX12_digest_368  ?_
      obtain ⟨hi, h⟩ := h
      refine z_iald C hP (k11_2 hb) (l11_2 hb) (m11_2 hb hL) hi dX12_digest_369 ?_
      refine t_i2l C.1 C.2.1 dX12_digest_370 rfl ?_
      refine lv_ladd C.1 C.2.1 dX12_digest_371 ?_
      refine lv_topl (fun x35 ex35 => ?_)
      have h := h x35 ex35
      refine lv_lstore_n C.1 C.2.1 dX12_digest_372 rfl hl (Nat.le_of_ble_eq_true rfl) rfl (fun ls hl => ?_)
      have hl : lv_has ls 8 [(2, .long x35), (0, .ref (E.2.1 b)), (4, .int v4)] := hl
      obtain ⟨x36, ex36⟩ : ∃ z, z = v4 + 1 := ⟨_, rfl⟩
      have h := h x36 ex36
      refine lv_iinc C.1 C.2.1 dX12_digest_373 hl (k := 2) rfl ex36.symm (Nat.le_of_ble_eq_true rfl) rfl (fun ls hl => ?_)
      have hl : lv_has ls 8 [(4, .int x36), (2, .long x35), (0, .ref (E.2.1 b))] := hl
      refine lv_goto C.1 C.2.1 (tgt := 338) dX12_digest_376 (by decide) ?_
      exact hR338 x35 x36 st _ _ _ h (lv_sub hl [2, 1, 0] rfl) hP hS
set_option maxHeartbeats 4000000 in
set_option maxRecDepth 100000 in
theorem tX12_digest_L267 {l : Launch} {p : Program} {e : Env} {s : State} {m : MethodId} {args : Array Value} {below : List Frame} {meth : Method} {c : Code} {E : En0} {L : List Nat} (hL : Cov 54 67 L) (C : Cx E L "PlankBridgeModel" cX12_digest 8 p s m args c) (hr : meth.sig.returnType = (some .long)) (hlk : meth.locks = false) (m78 : 78 ∈ L) {b : Nat} {Q : Int64 → St → Prop} (hb : kd b = 11) : ∀ (n : Nat) (v2 : Int64) (v4 : Int32) (st : St) (H : Heap) (locs : List Loc) (ls : Array Slot), lp (fun R s => wX12_digest_L267 b R s.1 s.2.1 s.2.2 Q) n (v2, v4, st) → lv_has ls 8 [(0, .ref (E.2.1 b)), (2, .long v2), (4, .int v4)] → va_P E.1 vwCl (wd E L st) H → va_S (fA E L s.heap.size) s.heap H locs → W p l e rmX12_digest s m args below meth c H locs 1 13 (MQ below (zJ E L Q (fA E L s.heap.size)) args s rmX12_digest.cells rmX12_digest.slots (fA E L s.heap.size)) (F0 m 267 ls []) := by
  intro n
  induction n with
  | zero => exact fun _ _ _ _ _ _ h _ _ _ => False.elim ‹_›
  | succ n ih =>
    intro v2 v4 st  H locs ls h hl hP hS
    have hR267 := ih
    replace h : wX12_digest_L267 b (lp (fun R s => wX12_digest_L267 b R s.1 s.2.1 s.2.2 Q) n) v2 v4 st Q := h
    unfold wX12_digest_L267 at h
    refine lv_iload C.1 C.2.1 dX12_digest_267 (lv_at hl 2 rfl) ?_
    refine lv_aload_n C.1 C.2.1 dX12_digest_269 rfl (lv_at hl 0 rfl) ?_
    refine gf11_4 C hP hb (m11 hb hL) q1383 dX12_digest_270 ?_
    refine gf9_1 C hP (show kd 60 = 9 from rfl) (hL 60 (Nat.le_of_ble_eq_true rfl) (Nat.le_of_ble_eq_true rfl)) q1321 dX12_digest_273 ?_
    refine lv_icmp_ge C.1 C.2.1 (tgt := 335) dX12_digest_276 (by decide) (fun hc => ?_) (fun hc => ?_)
    · have h := h.1 hc
      refine lv_iconst C.1 C.2.1 (v := 0) dX12_digest_335 rfl ?_
      refine lv_istore C.1 C.2.1 dX12_digest_336 hl (Nat.le_of_ble_eq_true rfl) rfl (fun ls hl => ?_)
      have hl : lv_has ls 8 [(4, .int 0), (0, .ref (E.2.1 b)), (2, .long v2)] := hl
      obtain ⟨n, h⟩ := h
      exact tX12_digest_L338 hL C hr hlk m78 hb n v2 0 st _ _ _ h (lv_sub hl [1, 2, 0] rfl) hP hS
    · have h := h.2 hc
      refine lv_lload_n C.1 C.2.1 dX12_digest_279 rfl (lv_at hl 1 rfl) ?_
      refine lv_ldc2 C.1 C.2.1 C.2.2.2.1 (C.T q1970) dX12_digest_280 ?_
      refine lv_lmul C.1 C.2.1 dX12_digest_283 ?_
      refine lv_aload_n C.1 C.2.1 dX12_digest_284 rfl (lv_at hl 0 rfl) ?_
      refine gf11_5 C hP hb (m11 hb hL) q1384 dX12_digest_285 ?_
      refine lv_bipush C.1 C.2.1 (v := 16) dX12_digest_288 rfl ?_
      refine lv_iload C.1 C.2.1 dX12_digest_290 (lv_at hl 2 rfl) ?_
      refine lv_iadd C.1 C.2.1 dX12_digest_292  ?_
      obtain ⟨hi, h⟩ := h
      refine z_iald C hP (k11_2 hb) (l11_2 hb) (m11_2 hb hL) hi dX12_digest_293 ?_
      refine t_i2l C.1 C.2.1 dX12_digest_294 rfl ?_
      refine lv_ladd C.1 C.2.1 dX12_digest_295 ?_
      refine lv_topl (fun x29 ex29 => ?_)
      have h := h x29 ex29
      refine lv_lstore_n C.1 C.2.1 dX12_digest_296 rfl hl (Nat.le_of_ble_eq_true rfl) rfl (fun ls hl => ?_)
      have hl : lv_has ls 8 [(2, .long x29), (0, .ref (E.2.1 b)), (4, .int v4)] := hl
      refine lv_lload_n C.1 C.2.1 dX12_digest_297 rfl (lv_at hl 0 rfl) ?_
      refine lv_ldc2 C.1 C.2.1 C.2.2.2.1 (C.T q1970) dX12_digest_298 ?_
      refine lv_lmul C.1 C.2.1 dX12_digest_301 ?_
      refine lv_aload_n C.1 C.2.1 dX12_digest_302 rfl (lv_at hl 1 rfl) ?_
      refine lv_iload C.1 C.2.1 dX12_digest_303 (lv_at hl 2 rfl) ?_
      refine z_ki hS (z_runV (As := [.int v4]) (rest := [.long (x29 * 31)]) C hP hS (m11 hb hL) (e11 hb) rfl (tX12_bear C.2.2.2.2.2.2.1 (hL.mo (Nat.le_of_ble_eq_true rfl) (Nat.le_of_ble_eq_true rfl)) hb h) q1708 q1710 q70 q116 q1711 hdX12_bear ⟨Nat.le_of_ble_eq_true rfl, Nat.le_of_ble_eq_true rfl⟩ ⟨Nat.le_of_ble_eq_true rfl, Nat.le_of_ble_eq_true rfl⟩ rfl hl.1 rfl (lv_room (Nat.le_of_ble_eq_true rfl)) dX12_digest_305) (fun r31 st30 H locs h hP hS => ?_)
      refine t_i2l C.1 C.2.1 dX12_digest_308 rfl ?_
      refine lv_ladd C.1 C.2.1 dX12_digest_309 ?_
      refine lv_topl (fun x32 ex32 => ?_)
      have h := h x32 ex32
      refine lv_lstore_n C.1 C.2.1 dX12_digest_310 rfl hl (Nat.le_of_ble_eq_true rfl) rfl (fun ls hl => ?_)
      have hl : lv_has ls 8 [(2, .long x32), (0, .ref (E.2.1 b)), (4, .int v4)] := hl
      refine lv_lload_n C.1 C.2.1 dX12_digest_311 rfl (lv_at hl 0 rfl) ?_
      refine lv_ldc2 C.1 C.2.1 C.2.2.2.1 (C.T q1970) dX12_digest_312 ?_
      refine lv_lmul C.1 C.2.1 dX12_digest_315 ?_
      refine lv_aload_n C.1 C.2.1 dX12_digest_316 rfl (lv_at hl 1 rfl) ?_
      refine gf11_5 C hP hb (m11 hb hL) q1384 dX12_digest_317 ?_
      refine lv_bipush C.1 C.2.1 (v := 28) dX12_digest_320 rfl ?_
      refine lv_iload C.1 C.2.1 dX12_digest_322 (lv_at hl 2 rfl) ?_
      refine lv_iadd C.1 C.2.1 dX12_digest_324  ?_
      obtain ⟨hi, h⟩ := h
      refine z_iald C hP (k11_2 hb) (l11_2 hb) (m11_2 hb hL) hi dX12_digest_325 ?_
      refine t_i2l C.1 C.2.1 dX12_digest_326 rfl ?_
      refine lv_ladd C.1 C.2.1 dX12_digest_327 ?_
      refine lv_topl (fun x33 ex33 => ?_)
      have h := h x33 ex33
      refine lv_lstore_n C.1 C.2.1 dX12_digest_328 rfl hl (Nat.le_of_ble_eq_true rfl) rfl (fun ls hl => ?_)
      have hl : lv_has ls 8 [(2, .long x33), (0, .ref (E.2.1 b)), (4, .int v4)] := hl
      obtain ⟨x34, ex34⟩ : ∃ z, z = v4 + 1 := ⟨_, rfl⟩
      have h := h x34 ex34
      refine lv_iinc C.1 C.2.1 dX12_digest_329 hl (k := 2) rfl ex34.symm (Nat.le_of_ble_eq_true rfl) rfl (fun ls hl => ?_)
      have hl : lv_has ls 8 [(4, .int x34), (2, .long x33), (0, .ref (E.2.1 b))] := hl
      refine lv_goto C.1 C.2.1 (tgt := 267) dX12_digest_332 (by decide) ?_
      exact hR267 x33 x34 st30 _ _ _ h (lv_sub hl [2, 1, 0] rfl) hP hS
set_option maxHeartbeats 4000000 in
set_option maxRecDepth 100000 in
theorem tX12_digest_L190 {l : Launch} {p : Program} {e : Env} {s : State} {m : MethodId} {args : Array Value} {below : List Frame} {meth : Method} {c : Code} {E : En0} {L : List Nat} (hL : Cov 54 67 L) (C : Cx E L "PlankBridgeModel" cX12_digest 8 p s m args c) (hr : meth.sig.returnType = (some .long)) (hlk : meth.locks = false) (m78 : 78 ∈ L) {b : Nat} {Q : Int64 → St → Prop} (hb : kd b = 11) : ∀ (n : Nat) (v2 : Int64) (v4 : Int32) (st : St) (H : Heap) (locs : List Loc) (ls : Array Slot), lp (fun R s => wX12_digest_L190 b R s.1 s.2.1 s.2.2 Q) n (v2, v4, st) → lv_has ls 8 [(0, .ref (E.2.1 b)), (2, .long v2), (4, .int v4)] → va_P E.1 vwCl (wd E L st) H → va_S (fA E L s.heap.size) s.heap H locs → W p l e rmX12_digest s m args below meth c H locs 1 13 (MQ below (zJ E L Q (fA E L s.heap.size)) args s rmX12_digest.cells rmX12_digest.slots (fA E L s.heap.size)) (F0 m 190 ls []) := by
  intro n
  induction n with
  | zero => exact fun _ _ _ _ _ _ h _ _ _ => False.elim ‹_›
  | succ n ih =>
    intro v2 v4 st  H locs ls h hl hP hS
    have hR190 := ih
    replace h : wX12_digest_L190 b (lp (fun R s => wX12_digest_L190 b R s.1 s.2.1 s.2.2 Q) n) v2 v4 st Q := h
    unfold wX12_digest_L190 at h
    refine lv_iload C.1 C.2.1 dX12_digest_190 (lv_at hl 2 rfl) ?_
    refine lv_aload_n C.1 C.2.1 dX12_digest_192 rfl (lv_at hl 0 rfl) ?_
    refine gf11_4 C hP hb (m11 hb hL) q1383 dX12_digest_193 ?_
    refine gf9_0 C hP (show kd 60 = 9 from rfl) (hL 60 (Nat.le_of_ble_eq_true rfl) (Nat.le_of_ble_eq_true rfl)) q1320 dX12_digest_196 ?_
    refine lv_icmp_ge C.1 C.2.1 (tgt := 264) dX12_digest_199 (by decide) (fun hc => ?_) (fun hc => ?_)
    · have h := h.1 hc
      refine lv_iconst C.1 C.2.1 (v := 0) dX12_digest_264 rfl ?_
      refine lv_istore C.1 C.2.1 dX12_digest_265 hl (Nat.le_of_ble_eq_true rfl) rfl (fun ls hl => ?_)
      have hl : lv_has ls 8 [(4, .int 0), (0, .ref (E.2.1 b)), (2, .long v2)] := hl
      obtain ⟨n, h⟩ := h
      exact tX12_digest_L267 hL C hr hlk m78 hb n v2 0 st _ _ _ h (lv_sub hl [1, 2, 0] rfl) hP hS
    · have h := h.2 hc
      refine lv_lload_n C.1 C.2.1 dX12_digest_202 rfl (lv_at hl 1 rfl) ?_
      refine lv_ldc2 C.1 C.2.1 C.2.2.2.1 (C.T q1970) dX12_digest_203 ?_
      refine lv_lmul C.1 C.2.1 dX12_digest_206 ?_
      refine lv_aload_n C.1 C.2.1 dX12_digest_207 rfl (lv_at hl 0 rfl) ?_
      refine gf11_4 C hP hb (m11 hb hL) q1383 dX12_digest_208 ?_
      refine gf9_4 C hP (show kd 60 = 9 from rfl) (hL 60 (Nat.le_of_ble_eq_true rfl) (Nat.le_of_ble_eq_true rfl)) q1328 dX12_digest_211 ?_
      refine lv_iload C.1 C.2.1 dX12_digest_214 (lv_at hl 2 rfl) ?_
      obtain ⟨hi, h⟩ := h
      refine z_iald C hP (show kd 61 = 20 from rfl) (show ln 61 = 9 from rfl) (hL 61 (Nat.le_of_ble_eq_true rfl) (Nat.le_of_ble_eq_true rfl)) hi dX12_digest_216 ?_
      refine t_i2l C.1 C.2.1 dX12_digest_217 rfl ?_
      refine lv_ladd C.1 C.2.1 dX12_digest_218 ?_
      refine lv_topl (fun x25 ex25 => ?_)
      have h := h x25 ex25
      refine lv_lstore_n C.1 C.2.1 dX12_digest_219 rfl hl (Nat.le_of_ble_eq_true rfl) rfl (fun ls hl => ?_)
      have hl : lv_has ls 8 [(2, .long x25), (0, .ref (E.2.1 b)), (4, .int v4)] := hl
      refine lv_lload_n C.1 C.2.1 dX12_digest_220 rfl (lv_at hl 0 rfl) ?_
      refine lv_ldc2 C.1 C.2.1 C.2.2.2.1 (C.T q1970) dX12_digest_221 ?_
      refine lv_lmul C.1 C.2.1 dX12_digest_224 ?_
      refine lv_aload_n C.1 C.2.1 dX12_digest_225 rfl (lv_at hl 1 rfl) ?_
      refine gf11_4 C hP hb (m11 hb hL) q1383 dX12_digest_226 ?_
      refine gf9_5 C hP (show kd 60 = 9 from rfl) (hL 60 (Nat.le_of_ble_eq_true rfl) (Nat.le_of_ble_eq_true rfl)) q1331 dX12_digest_229 ?_
      refine lv_iload C.1 C.2.1 dX12_digest_232 (lv_at hl 2 rfl) ?_
      obtain ⟨hi, h⟩ := h
      refine z_iald C hP (show kd 62 = 20 from rfl) (show ln 62 = 9 from rfl) (hL 62 (Nat.le_of_ble_eq_true rfl) (Nat.le_of_ble_eq_true rfl)) hi dX12_digest_234 ?_
      refine t_i2l C.1 C.2.1 dX12_digest_235 rfl ?_
      refine lv_ladd C.1 C.2.1 dX12_digest_236 ?_
      refine lv_topl (fun x26 ex26 => ?_)
      have h := h x26 ex26
      refine lv_lstore_n C.1 C.2.1 dX12_digest_237 rfl hl (Nat.le_of_ble_eq_true rfl) rfl (fun ls hl => ?_)
      have hl : lv_has ls 8 [(2, .long x26), (0, .ref (E.2.1 b)), (4, .int v4)] := hl
      refine lv_lload_n C.1 C.2.1 dX12_digest_238 rfl (lv_at hl 0 rfl) ?_
      refine lv_ldc2 C.1 C.2.1 C.2.2.2.1 (C.T q1970) dX12_digest_239 ?_
      refine lv_lmul C.1 C.2.1 dX12_digest_242 ?_
      refine lv_lconst C.1 C.2.1 (v := 1) dX12_digest_243 rfl ?_
      refine lv_ladd C.1 C.2.1 dX12_digest_244 ?_
      refine lv_aload_n C.1 C.2.1 dX12_digest_245 rfl (lv_at hl 1 rfl) ?_
      refine gf11_5 C hP hb (m11 hb hL) q1384 dX12_digest_246 ?_
      refine lv_bipush C.1 C.2.1 (v := 8) dX12_digest_249 rfl ?_
      refine lv_iload C.1 C.2.1 dX12_digest_251 (lv_at hl 2 rfl) ?_
      refine lv_iadd C.1 C.2.1 dX12_digest_253  ?_
      obtain ⟨hi, h⟩ := h
      refine z_iald C hP (k11_2 hb) (l11_2 hb) (m11_2 hb hL) hi dX12_digest_254 ?_
      refine t_i2l C.1 C.2.1 dX12_digest_255 rfl ?_
      refine lv_lsub C.1 C.2.1 dX12_digest_256 ?_
      refine lv_topl (fun x27 ex27 => ?_)
      have h := h x27 ex27
      refine lv_lstore_n C.1 C.2.1 dX12_digest_257 rfl hl (Nat.le_of_ble_eq_true rfl) rfl (fun ls hl => ?_)
      have hl : lv_has ls 8 [(2, .long x27), (0, .ref (E.2.1 b)), (4, .int v4)] := hl
      obtain ⟨x28, ex28⟩ : ∃ z, z = v4 + 1 := ⟨_, rfl⟩
      have h := h x28 ex28
      refine lv_iinc C.1 C.2.1 dX12_digest_258 hl (k := 2) rfl ex28.symm (Nat.le_of_ble_eq_true rfl) rfl (fun ls hl => ?_)
      have hl : lv_has ls 8 [(4, .int x28), (2, .long x27), (0, .ref (E.2.1 b))] := hl
      refine lv_goto C.1 C.2.1 (tgt := 190) dX12_digest_261 (by decide) ?_
      exact hR190 x27 x28 st _ _ _ h (lv_sub hl [2, 1, 0] rfl) hP hS
set_option maxHeartbeats 4000000 in
set_option maxRecDepth 100000 in
theorem tX12_digest_L157 {l : Launch} {p : Program} {e : Env} {s : State} {m : MethodId} {args : Array Value} {below : List Frame} {meth : Method} {c : Code} {E : En0} {L : List Nat} (hL : Cov 54 67 L) (C : Cx E L "PlankBridgeModel" cX12_digest 8 p s m args c) (hr : meth.sig.returnType = (some .long)) (hlk : meth.locks = false) (m78 : 78 ∈ L) {b : Nat} {Q : Int64 → St → Prop} (hb : kd b = 11) : ∀ (n : Nat) (v2 : Int64) (v5 : Int32) (v6 : Int32) (st : St) (H : Heap) (locs : List Loc) (ls : Array Slot), lp (fun R s => wX12_digest_L157 b R s.1 s.2.1 s.2.2.1 s.2.2.2 Q) n (v2, v5, v6, st) → lv_has ls 8 [(0, .ref (E.2.1 b)), (2, .long v2), (4, .ref (E.2.1 78)), (5, .int v5), (6, .int v6)] → va_P E.1 vwCl (wd E L st) H → va_S (fA E L s.heap.size) s.heap H locs → W p l e rmX12_digest s m args below meth c H locs 1 13 (MQ below (zJ E L Q (fA E L s.heap.size)) args s rmX12_digest.cells rmX12_digest.slots (fA E L s.heap.size)) (F0 m 157 ls []) := by
  intro n
  induction n with
  | zero => exact fun _ _ _ _ _ _ _ h _ _ _ => False.elim ‹_›
  | succ n ih =>
    intro v2 v5 v6 st  H locs ls h hl hP hS
    have hR157 := ih
    replace h : wX12_digest_L157 b (lp (fun R s => wX12_digest_L157 b R s.1 s.2.1 s.2.2.1 s.2.2.2 Q) n) v2 v5 v6 st Q := h
    unfold wX12_digest_L157 at h
    refine lv_iload C.1 C.2.1 dX12_digest_157 (lv_at hl 4 rfl) ?_
    refine lv_iload C.1 C.2.1 dX12_digest_159 (lv_at hl 3 rfl) ?_
    refine lv_icmp_ge C.1 C.2.1 (tgt := 187) dX12_digest_161 (by decide) (fun hc => ?_) (fun hc => ?_)
    · have h := h.1 hc
      refine lv_iconst C.1 C.2.1 (v := 0) dX12_digest_187 rfl ?_
      refine lv_istore C.1 C.2.1 dX12_digest_188 hl (Nat.le_of_ble_eq_true rfl) rfl (fun ls hl => ?_)
      have hl : lv_has ls 8 [(4, .int 0), (0, .ref (E.2.1 b)), (2, .long v2), (5, .int v5), (6, .int v6)] := hl
      obtain ⟨n, h⟩ := h
      exact tX12_digest_L190 hL C hr hlk m78 hb n v2 0 st _ _ _ h (lv_sub hl [1, 2, 0] rfl) hP hS
    · have h := h.2 hc
      refine lv_aload C.1 C.2.1 dX12_digest_164 (lv_at hl 2 rfl) ?_
      refine lv_iload C.1 C.2.1 dX12_digest_166 (lv_at hl 4 rfl) ?_
      obtain ⟨hi, h⟩ := h
      refine z_iald C hP (show kd 78 = 20 from rfl) (show ln 78 = 13 from rfl) m78 hi dX12_digest_168 ?_
      refine lv_topi (fun x22 ex22 => ?_)
      have h := h x22 ex22
      refine lv_istore C.1 C.2.1 dX12_digest_169 hl (Nat.le_of_ble_eq_true rfl) rfl (fun ls hl => ?_)
      have hl : lv_has ls 8 [(7, .int x22), (0, .ref (E.2.1 b)), (2, .long v2), (4, .ref (E.2.1 78)), (5, .int v5), (6, .int v6)] := hl
      refine lv_lload_n C.1 C.2.1 dX12_digest_171 rfl (lv_at hl 2 rfl) ?_
      refine lv_ldc2 C.1 C.2.1 C.2.2.2.1 (C.T q1970) dX12_digest_172 ?_
      refine lv_lmul C.1 C.2.1 dX12_digest_175 ?_
      refine lv_iload C.1 C.2.1 dX12_digest_176 (lv_at hl 0 rfl) ?_
      refine t_i2l C.1 C.2.1 dX12_digest_178 rfl ?_
      refine lv_ladd C.1 C.2.1 dX12_digest_179 ?_
      refine lv_topl (fun x23 ex23 => ?_)
      have h := h x23 ex23
      refine lv_lstore_n C.1 C.2.1 dX12_digest_180 rfl hl (Nat.le_of_ble_eq_true rfl) rfl (fun ls hl => ?_)
      have hl : lv_has ls 8 [(2, .long x23), (7, .int x22), (0, .ref (E.2.1 b)), (4, .ref (E.2.1 78)), (5, .int v5), (6, .int v6)] := hl
      obtain ⟨x24, ex24⟩ : ∃ z, z = v6 + 1 := ⟨_, rfl⟩
      have h := h x24 ex24
      refine lv_iinc C.1 C.2.1 dX12_digest_181 hl (k := 5) rfl ex24.symm (Nat.le_of_ble_eq_true rfl) rfl (fun ls hl => ?_)
      have hl : lv_has ls 8 [(6, .int x24), (2, .long x23), (7, .int x22), (0, .ref (E.2.1 b)), (4, .ref (E.2.1 78)), (5, .int v5)] := hl
      refine lv_goto C.1 C.2.1 (tgt := 157) dX12_digest_184 (by decide) ?_
      exact hR157 x23 v5 x24 st _ _ _ h (lv_sub hl [3, 1, 4, 5, 0] rfl) hP hS
set_option maxHeartbeats 4000000 in
set_option maxRecDepth 100000 in
theorem tX12_digest_L132 {l : Launch} {p : Program} {e : Env} {s : State} {m : MethodId} {args : Array Value} {below : List Frame} {meth : Method} {c : Code} {E : En0} {L : List Nat} (hL : Cov 54 67 L) (C : Cx E L "PlankBridgeModel" cX12_digest 8 p s m args c) (hr : meth.sig.returnType = (some .long)) (hlk : meth.locks = false) (m78 : 78 ∈ L) {b : Nat} {Q : Int64 → St → Prop} (hb : kd b = 11) {s0 : Int32} {s1 : Int32}  {st : St} (H : Heap) (locs : List Loc) (ls : Array Slot) (h : wX12_digest_L132 b s0 s1 st Q) (hl : lv_has ls 8 [(0, .ref (E.2.1 b))]) (hP : va_P E.1 vwCl (wd E L st) H) (hS : va_S (fA E L s.heap.size) s.heap H locs) : W p l e rmX12_digest s m args below meth c H locs 1 13 (MQ below (zJ E L Q (fA E L s.heap.size)) args s rmX12_digest.cells rmX12_digest.slots (fA E L s.heap.size)) (F0 m 132 ls [.int s0, .int s1, .ref (E.2.1 78), .ref (E.2.1 78)]) := by
  unfold wX12_digest_L132 at h
  obtain ⟨hi, h⟩ := h
  refine z_iast C hP hS (show kd 78 = 20 from rfl) (show ln 78 = 13 from rfl) m78 hi dX12_digest_132 (fun H locs hP hS => ?_)
  obtain ⟨st18, est18⟩ : ∃ z, z = uI st 78 (s1 : Int32).toNatClampNeg s0 := ⟨_, rfl⟩
  rw [← est18] at hP; have h := h st18 est18
  refine lv_dup C.1 C.2.1 dX12_digest_133 rfl ?_
  refine lv_bipush C.1 C.2.1 (v := 12) dX12_digest_134 rfl ?_
  refine lv_aload_n C.1 C.2.1 dX12_digest_136 rfl (lv_at hl 0 rfl) ?_
  refine z_ki hS (z_runV (As := []) (rest := [.int 12, .ref (E.2.1 78), .ref (E.2.1 78)]) C hP hS (m11 hb hL) (e11 hb) rfl (tX12_fewest C.2.2.2.2.2.2.1 (hL.mo (Nat.le_of_ble_eq_true rfl) (Nat.le_of_ble_eq_true rfl)) hb h) q1908 q1910 q97 q116 q1911 hdX12_fewest ⟨Nat.le_of_ble_eq_true rfl, Nat.le_of_ble_eq_true rfl⟩ ⟨Nat.le_of_ble_eq_true rfl, Nat.le_of_ble_eq_true rfl⟩ rfl hl.1 rfl (lv_room (Nat.le_of_ble_eq_true rfl)) dX12_digest_137) (fun r20 st19 H locs h hP hS => ?_)
  obtain ⟨hi, h⟩ := h
  refine z_iast C hP hS (show kd 78 = 20 from rfl) (show ln 78 = 13 from rfl) m78 hi dX12_digest_140 (fun H locs hP hS => ?_)
  obtain ⟨st21, est21⟩ : ∃ z, z = uI st19 78 (12 : Int32).toNatClampNeg r20 := ⟨_, rfl⟩
  rw [← est21] at hP; have h := h st21 est21
  refine lv_astore_n C.1 C.2.1 dX12_digest_141 rfl hl (Nat.le_of_ble_eq_true rfl) rfl (fun ls hl => ?_)
  have hl : lv_has ls 8 [(1, .ref (E.2.1 78)), (0, .ref (E.2.1 b))] := hl
  refine lv_ldc2 C.1 C.2.1 C.2.2.2.1 (C.T q1969) dX12_digest_142 ?_
  refine lv_lstore_n C.1 C.2.1 dX12_digest_145 rfl hl (Nat.le_of_ble_eq_true rfl) rfl (fun ls hl => ?_)
  have hl : lv_has ls 8 [(2, .long 1889), (1, .ref (E.2.1 78)), (0, .ref (E.2.1 b))] := hl
  refine lv_aload_n C.1 C.2.1 dX12_digest_146 rfl (lv_at hl 1 rfl) ?_
  refine lv_astore C.1 C.2.1 dX12_digest_147 hl (Nat.le_of_ble_eq_true rfl) rfl (fun ls hl => ?_)
  have hl : lv_has ls 8 [(4, .ref (E.2.1 78)), (2, .long 1889), (1, .ref (E.2.1 78)), (0, .ref (E.2.1 b))] := hl
  refine lv_aload C.1 C.2.1 dX12_digest_149 (lv_at hl 0 rfl) ?_
  refine z_alen C hP (show kd 78 = 20 from rfl) (show ln 78 = 13 from rfl) m78 (v := 13) rfl dX12_digest_151 ?_
  refine lv_istore C.1 C.2.1 dX12_digest_152 hl (Nat.le_of_ble_eq_true rfl) rfl (fun ls hl => ?_)
  have hl : lv_has ls 8 [(5, .int 13), (4, .ref (E.2.1 78)), (2, .long 1889), (1, .ref (E.2.1 78)), (0, .ref (E.2.1 b))] := hl
  refine lv_iconst C.1 C.2.1 (v := 0) dX12_digest_154 rfl ?_
  refine lv_istore C.1 C.2.1 dX12_digest_155 hl (Nat.le_of_ble_eq_true rfl) rfl (fun ls hl => ?_)
  have hl : lv_has ls 8 [(6, .int 0), (5, .int 13), (4, .ref (E.2.1 78)), (2, .long 1889), (1, .ref (E.2.1 78)), (0, .ref (E.2.1 b))] := hl
  obtain ⟨n, h⟩ := h
  exact tX12_digest_L157 hL C hr hlk m78 hb n 1889 13 0 st21 _ _ _ h (lv_sub hl [5, 3, 2, 1, 0] rfl) hP hS
set_option maxHeartbeats 4000000 in
set_option maxRecDepth 100000 in
theorem tX12_digest {l : Launch} {E : En0} {L : List Nat} (hE : EK E L) (hL : Cov 54 67 L) (hu : ∀ c ∈ L, c < 77) {b : Nat} {st : St} {Q : Int64 → St → Prop} (hb : kd b = 11) (h : wX12_digest b st Q) : Mz l yX12_digest cX12_digest 8 (some .long) rmX12_digest E L [.ref (E.2.1 b)] st (zJ E L Q) := by
  refine Mz.of hE (by decide) (Nat.le_of_ble_eq_true rfl) ?_
  intro p e s m below meth c ls C hr hlk _ hl hP
  replace C : Cx E L "PlankBridgeModel" cX12_digest 8 p s m _ c := C
  have hS : va_S (fA E L s.heap.size) s.heap s.heap [] := va_S.rf
  replace hl : lv_has ls 8 [(0, .ref (E.2.1 b))] := hl
  unfold wX12_digest at h
  refine lv_aload_n C.1 C.2.1 dX12_digest_0 rfl (lv_at hl 0 rfl) ?_
  refine lv_iconst C.1 C.2.1 (v := 0) dX12_digest_1 rfl ?_
  refine pf11_0 C hP hS hb (m11 hb hL) q1377 dX12_digest_2 (fun H locs hP hS => ?_)
  obtain ⟨st1, est1⟩ : ∃ z, z = uI st b 0 0 := ⟨_, rfl⟩
  rw [← est1] at hP; have h := h st1 est1
  refine lv_bipush C.1 C.2.1 (v := 13) dX12_digest_5 rfl ?_
  obtain ⟨hrk, h⟩ := h
  refine z_newJ (x := 78) (Nat.le_of_ble_eq_true rfl) rfl hu C hP hS hrk (n' := 13) (by decide) rfl rfl (Nat.le_of_ble_eq_true rfl) (Nat.le_of_ble_eq_true rfl) (Nat.le_of_ble_eq_true rfl) q187 dX12_digest_7 (fun E2 L2 H heq hsub m78 C hP hS => ?_)
  rw [← heq b (by intro e0; rw [e0] at hb; exact absurd hb (by decide))] at hl
  replace hL : Cov 54 67 L2 := fun c h1 h2 => hsub c (hL c h1 h2)
  obtain ⟨st2, est2⟩ : ∃ z, z = sI st1 78 (fun _ => 0) := ⟨_, rfl⟩
  rw [← est2] at hP; have h := h st2 est2
  refine lv_dup C.1 C.2.1 dX12_digest_9 rfl ?_
  refine lv_iconst C.1 C.2.1 (v := 0) dX12_digest_10 rfl ?_
  refine lv_aload_n C.1 C.2.1 dX12_digest_11 rfl (lv_at hl 0 rfl) ?_
  refine gf11_4 C hP hb (m11 hb hL) q1383 dX12_digest_12 ?_
  refine gf9_0 C hP (show kd 60 = 9 from rfl) (hL 60 (Nat.le_of_ble_eq_true rfl) (Nat.le_of_ble_eq_true rfl)) q1320 dX12_digest_15 ?_
  obtain ⟨hi, h⟩ := h
  refine z_iast C hP hS (show kd 78 = 20 from rfl) (show ln 78 = 13 from rfl) m78 hi dX12_digest_18 (fun H locs hP hS => ?_)
  obtain ⟨st3, est3⟩ : ∃ z, z = uI st2 78 (0 : Int32).toNatClampNeg (gI st2 60 0) := ⟨_, rfl⟩
  rw [← est3] at hP; have h := h st3 est3
  refine lv_dup C.1 C.2.1 dX12_digest_19 rfl ?_
  refine lv_iconst C.1 C.2.1 (v := 1) dX12_digest_20 rfl ?_
  refine lv_aload_n C.1 C.2.1 dX12_digest_21 rfl (lv_at hl 0 rfl) ?_
  refine gf11_4 C hP hb (m11 hb hL) q1383 dX12_digest_22 ?_
  refine gf9_1 C hP (show kd 60 = 9 from rfl) (hL 60 (Nat.le_of_ble_eq_true rfl) (Nat.le_of_ble_eq_true rfl)) q1321 dX12_digest_25 ?_
  obtain ⟨hi, h⟩ := h
  refine z_iast C hP hS (show kd 78 = 20 from rfl) (show ln 78 = 13 from rfl) m78 hi dX12_digest_28 (fun H locs hP hS => ?_)
  obtain ⟨st4, est4⟩ : ∃ z, z = uI st3 78 (1 : Int32).toNatClampNeg (gI st3 60 1) := ⟨_, rfl⟩
  rw [← est4] at hP; have h := h st4 est4
  refine lv_dup C.1 C.2.1 dX12_digest_29 rfl ?_
  refine lv_iconst C.1 C.2.1 (v := 2) dX12_digest_30 rfl ?_
  refine lv_aload_n C.1 C.2.1 dX12_digest_31 rfl (lv_at hl 0 rfl) ?_
  refine gf11_4 C hP hb (m11 hb hL) q1383 dX12_digest_32 ?_
  refine gf9_2 C hP (show kd 60 = 9 from rfl) (hL 60 (Nat.le_of_ble_eq_true rfl) (Nat.le_of_ble_eq_true rfl)) q1324 dX12_digest_35 ?_
  obtain ⟨hi, h⟩ := h
  refine z_iast C hP hS (show kd 78 = 20 from rfl) (show ln 78 = 13 from rfl) m78 hi dX12_digest_38 (fun H locs hP hS => ?_)
  obtain ⟨st5, est5⟩ : ∃ z, z = uI st4 78 (2 : Int32).toNatClampNeg (gI st4 60 2) := ⟨_, rfl⟩
  rw [← est5] at hP; have h := h st5 est5
  refine lv_dup C.1 C.2.1 dX12_digest_39 rfl ?_
  refine lv_iconst C.1 C.2.1 (v := 3) dX12_digest_40 rfl ?_
  refine lv_iconst C.1 C.2.1 (v := 1) dX12_digest_41 rfl ?_
  refine lv_aload_n C.1 C.2.1 dX12_digest_42 rfl (lv_at hl 0 rfl) ?_
  refine gf11_5 C hP hb (m11 hb hL) q1384 dX12_digest_43 ?_
  refine lv_iconst C.1 C.2.1 (v := 0) dX12_digest_46 rfl ?_
  obtain ⟨hi, h⟩ := h
  refine z_iald C hP (k11_2 hb) (l11_2 hb) (m11_2 hb hL) hi dX12_digest_47 ?_
  refine lv_isub C.1 C.2.1 dX12_digest_48  ?_
  obtain ⟨hi, h⟩ := h
  refine z_iast C hP hS (show kd 78 = 20 from rfl) (show ln 78 = 13 from rfl) m78 hi dX12_digest_49 (fun H locs hP hS => ?_)
  obtain ⟨st6, est6⟩ : ∃ z, z = uI st5 78 (3 : Int32).toNatClampNeg ((1 : Int32) - (gI st5 (b + 2) (0 : Int32).toNatClampNeg)) := ⟨_, rfl⟩
  rw [← est6] at hP; have h := h st6 est6
  refine lv_dup C.1 C.2.1 dX12_digest_50 rfl ?_
  refine lv_iconst C.1 C.2.1 (v := 4) dX12_digest_51 rfl ?_
  refine lv_aload_n C.1 C.2.1 dX12_digest_52 rfl (lv_at hl 0 rfl) ?_
  refine gf11_5 C hP hb (m11 hb hL) q1384 dX12_digest_53 ?_
  refine lv_iconst C.1 C.2.1 (v := 1) dX12_digest_56 rfl ?_
  obtain ⟨hi, h⟩ := h
  refine z_iald C hP (k11_2 hb) (l11_2 hb) (m11_2 hb hL) hi dX12_digest_57 ?_
  obtain ⟨hi, h⟩ := h
  refine z_iast C hP hS (show kd 78 = 20 from rfl) (show ln 78 = 13 from rfl) m78 hi dX12_digest_58 (fun H locs hP hS => ?_)
  obtain ⟨st7, est7⟩ : ∃ z, z = uI st6 78 (4 : Int32).toNatClampNeg (gI st6 (b + 2) (1 : Int32).toNatClampNeg) := ⟨_, rfl⟩
  rw [← est7] at hP; have h := h st7 est7
  refine lv_dup C.1 C.2.1 dX12_digest_59 rfl ?_
  refine lv_iconst C.1 C.2.1 (v := 5) dX12_digest_60 rfl ?_
  refine lv_aload_n C.1 C.2.1 dX12_digest_61 rfl (lv_at hl 0 rfl) ?_
  refine gf11_5 C hP hb (m11 hb hL) q1384 dX12_digest_62 ?_
  refine lv_iconst C.1 C.2.1 (v := 2) dX12_digest_65 rfl ?_
  obtain ⟨hi, h⟩ := h
  refine z_iald C hP (k11_2 hb) (l11_2 hb) (m11_2 hb hL) hi dX12_digest_66 ?_
  obtain ⟨hi, h⟩ := h
  refine z_iast C hP hS (show kd 78 = 20 from rfl) (show ln 78 = 13 from rfl) m78 hi dX12_digest_67 (fun H locs hP hS => ?_)
  obtain ⟨st8, est8⟩ : ∃ z, z = uI st7 78 (5 : Int32).toNatClampNeg (gI st7 (b + 2) (2 : Int32).toNatClampNeg) := ⟨_, rfl⟩
  rw [← est8] at hP; have h := h st8 est8
  refine lv_dup C.1 C.2.1 dX12_digest_68 rfl ?_
  refine lv_bipush C.1 C.2.1 (v := 6) dX12_digest_69 rfl ?_
  refine lv_aload_n C.1 C.2.1 dX12_digest_71 rfl (lv_at hl 0 rfl) ?_
  refine gf11_5 C hP hb (m11 hb hL) q1384 dX12_digest_72 ?_
  refine lv_iconst C.1 C.2.1 (v := 3) dX12_digest_75 rfl ?_
  obtain ⟨hi, h⟩ := h
  refine z_iald C hP (k11_2 hb) (l11_2 hb) (m11_2 hb hL) hi dX12_digest_76 ?_
  obtain ⟨hi, h⟩ := h
  refine z_iast C hP hS (show kd 78 = 20 from rfl) (show ln 78 = 13 from rfl) m78 hi dX12_digest_77 (fun H locs hP hS => ?_)
  obtain ⟨st9, est9⟩ : ∃ z, z = uI st8 78 (6 : Int32).toNatClampNeg (gI st8 (b + 2) (3 : Int32).toNatClampNeg) := ⟨_, rfl⟩
  rw [← est9] at hP; have h := h st9 est9
  refine lv_dup C.1 C.2.1 dX12_digest_78 rfl ?_
  refine lv_bipush C.1 C.2.1 (v := 7) dX12_digest_79 rfl ?_
  refine lv_aload_n C.1 C.2.1 dX12_digest_81 rfl (lv_at hl 0 rfl) ?_
  refine gf11_5 C hP hb (m11 hb hL) q1384 dX12_digest_82 ?_
  refine lv_iconst C.1 C.2.1 (v := 4) dX12_digest_85 rfl ?_
  obtain ⟨hi, h⟩ := h
  refine z_iald C hP (k11_2 hb) (l11_2 hb) (m11_2 hb hL) hi dX12_digest_86 ?_
  obtain ⟨hi, h⟩ := h
  refine z_iast C hP hS (show kd 78 = 20 from rfl) (show ln 78 = 13 from rfl) m78 hi dX12_digest_87 (fun H locs hP hS => ?_)
  obtain ⟨st10, est10⟩ : ∃ z, z = uI st9 78 (7 : Int32).toNatClampNeg (gI st9 (b + 2) (4 : Int32).toNatClampNeg) := ⟨_, rfl⟩
  rw [← est10] at hP; have h := h st10 est10
  refine lv_dup C.1 C.2.1 dX12_digest_88 rfl ?_
  refine lv_bipush C.1 C.2.1 (v := 8) dX12_digest_89 rfl ?_
  refine lv_aload_n C.1 C.2.1 dX12_digest_91 rfl (lv_at hl 0 rfl) ?_
  refine gf11_5 C hP hb (m11 hb hL) q1384 dX12_digest_92 ?_
  refine lv_iconst C.1 C.2.1 (v := 5) dX12_digest_95 rfl ?_
  obtain ⟨hi, h⟩ := h
  refine z_iald C hP (k11_2 hb) (l11_2 hb) (m11_2 hb hL) hi dX12_digest_96 ?_
  obtain ⟨hi, h⟩ := h
  refine z_iast C hP hS (show kd 78 = 20 from rfl) (show ln 78 = 13 from rfl) m78 hi dX12_digest_97 (fun H locs hP hS => ?_)
  obtain ⟨st11, est11⟩ : ∃ z, z = uI st10 78 (8 : Int32).toNatClampNeg (gI st10 (b + 2) (5 : Int32).toNatClampNeg) := ⟨_, rfl⟩
  rw [← est11] at hP; have h := h st11 est11
  refine lv_dup C.1 C.2.1 dX12_digest_98 rfl ?_
  refine lv_bipush C.1 C.2.1 (v := 9) dX12_digest_99 rfl ?_
  refine lv_aload_n C.1 C.2.1 dX12_digest_101 rfl (lv_at hl 0 rfl) ?_
  refine gf11_5 C hP hb (m11 hb hL) q1384 dX12_digest_102 ?_
  refine lv_bipush C.1 C.2.1 (v := 6) dX12_digest_105 rfl ?_
  obtain ⟨hi, h⟩ := h
  refine z_iald C hP (k11_2 hb) (l11_2 hb) (m11_2 hb hL) hi dX12_digest_107 ?_
  obtain ⟨hi, h⟩ := h
  refine z_iast C hP hS (show kd 78 = 20 from rfl) (show ln 78 = 13 from rfl) m78 hi dX12_digest_108 (fun H locs hP hS => ?_)
  obtain ⟨st12, est12⟩ : ∃ z, z = uI st11 78 (9 : Int32).toNatClampNeg (gI st11 (b + 2) (6 : Int32).toNatClampNeg) := ⟨_, rfl⟩
  rw [← est12] at hP; have h := h st12 est12
  refine lv_dup C.1 C.2.1 dX12_digest_109 rfl ?_
  refine lv_bipush C.1 C.2.1 (v := 10) dX12_digest_110 rfl ?_
  refine lv_aload_n C.1 C.2.1 dX12_digest_112 rfl (lv_at hl 0 rfl) ?_
  refine z_ki hS (z_runV (As := []) (rest := [.int 10, .ref (E2.2.1 78), .ref (E2.2.1 78)]) C hP hS (m11 hb hL) (e11 hb) rfl (tX12_missing C.2.2.2.2.2.2.1 (hL.mo (Nat.le_of_ble_eq_true rfl) (Nat.le_of_ble_eq_true rfl)) hb h) q1725 q1727 q72 q116 q1728 hdX12_missing ⟨Nat.le_of_ble_eq_true rfl, Nat.le_of_ble_eq_true rfl⟩ ⟨Nat.le_of_ble_eq_true rfl, Nat.le_of_ble_eq_true rfl⟩ rfl hl.1 rfl (lv_room (Nat.le_of_ble_eq_true rfl)) dX12_digest_113) (fun r14 st13 H locs h hP hS => ?_)
  obtain ⟨hi, h⟩ := h
  refine z_iast C hP hS (show kd 78 = 20 from rfl) (show ln 78 = 13 from rfl) m78 hi dX12_digest_116 (fun H locs hP hS => ?_)
  obtain ⟨st15, est15⟩ : ∃ z, z = uI st13 78 (10 : Int32).toNatClampNeg r14 := ⟨_, rfl⟩
  rw [← est15] at hP; have h := h st15 est15
  refine lv_dup C.1 C.2.1 dX12_digest_117 rfl ?_
  refine lv_bipush C.1 C.2.1 (v := 11) dX12_digest_118 rfl ?_
  refine lv_aload_n C.1 C.2.1 dX12_digest_120 rfl (lv_at hl 0 rfl) ?_
  refine z_ki hS (z_runV (As := []) (rest := [.int 11, .ref (E2.2.1 78), .ref (E2.2.1 78)]) C hP hS (m11 hb hL) (e11 hb) rfl (tX12_canPass C.2.2.2.2.2.2.1 (hL.mo (Nat.le_of_ble_eq_true rfl) (Nat.le_of_ble_eq_true rfl)) hb h) q1741 q1743 q74 q116 q1744 hdX12_canPass ⟨Nat.le_of_ble_eq_true rfl, Nat.le_of_ble_eq_true rfl⟩ ⟨Nat.le_of_ble_eq_true rfl, Nat.le_of_ble_eq_true rfl⟩ rfl hl.1 rfl (lv_room (Nat.le_of_ble_eq_true rfl)) dX12_digest_121) (fun r17 st16 H locs h hP hS => ?_)
  obtain ⟨hr17, h⟩ := h
  refine lv_if_eq C.1 C.2.1 (tgt := 131) dX12_digest_124 (by decide) (fun hc => ?_) (fun hc => ?_)
  · have h := h.1 hc
    refine lv_iconst C.1 C.2.1 (v := 0) dX12_digest_131 rfl ?_
    exact tX12_digest_L132 hL C hr hlk m78 hb _ _ _ h hl hP hS
  · have h := h.2 hc
    refine lv_iconst C.1 C.2.1 (v := 1) dX12_digest_127 rfl ?_
    refine lv_goto C.1 C.2.1 (tgt := 132) dX12_digest_128 (by decide) ?_
    exact tX12_digest_L132 hL C hr hlk m78 hb _ _ _ h hl hP hS

def rmJ7_fill_53178 : Room := { frames := 0, cells := 0, slots := 0, locals := 0 }
def wJ7_fill_53178_L5 (p1 : Nat) (p2 : Int32)  (R5 : Int32 × Int32 × Int32 × St → Prop) (v1 : Int32) (v2 : Int32) (v3 : Int32) (st : St) (Q : St → Prop) : Prop :=
  ((v3 ≤ v2 → Q st) ∧ (¬ v3 ≤ v2 → (vp_in v2 512 ∧ ∀ st1, st1 = uI st p1 (v2 : Int32).toNatClampNeg v1 → (∀ x2 : Int32, x2 = v2 + 1 → R5 (v1, x2, v3, st1)))))
def wJ7_fill_53178 (p1 : Nat) (p2 : Int32) (st : St) (Q : St → Prop) : Prop :=
  (∃ n, lp (fun R s => wJ7_fill_53178_L5 p1 p2 R s.1 s.2.1 s.2.2.1 s.2.2.2 Q) n (p2, 0, 512, st))
theorem hdJ7_fill_53178 : yJ7_fill_53178.cls ≠ "java/lang/invoke/MethodHandle" ∧ yJ7_fill_53178.cls ≠ "java/lang/invoke/VarHandle" ∧ (parseMethodDescriptor yJ7_fill_53178.desc).map (fun d => d.parameters.length) = some 2 := by decide +kernel
set_option maxHeartbeats 4000000 in
set_option maxRecDepth 100000 in
theorem tJ7_fill_53178_L5 {l : Launch} {p : Program} {e : Env} {s : State} {m : MethodId} {args : Array Value} {below : List Frame} {meth : Method} {c : Code} {E : En0} {L : List Nat} (hL : Cov 0 54 L) (C : Cx E L "java/util/Arrays" cJ7_fill_53178 4 p s m args c) (hr : meth.sig.returnType = none) (hlk : meth.locks = false) {p1 : Nat} {p2 : Int32} {Q : St → Prop} (hp1 : kd p1 = 20) (lp1 : ln p1 = 512) (mp1 : p1 ∈ L) : ∀ (n : Nat) (v1 : Int32) (v2 : Int32) (v3 : Int32) (st : St) (H : Heap) (locs : List Loc) (ls : Array Slot), lp (fun R s => wJ7_fill_53178_L5 p1 p2 R s.1 s.2.1 s.2.2.1 s.2.2.2 Q) n (v1, v2, v3, st) → lv_has ls 4 [(0, .ref (E.2.1 p1)), (1, .int v1), (2, .int v2), (3, .int v3)] → va_P E.1 vwCl (wd E L st) H → va_S (fA E L s.heap.size) s.heap H locs → W p l e rmJ7_fill_53178 s m args below meth c H locs 0 0 (MQ below (zV E L Q (fA E L s.heap.size)) args s rmJ7_fill_53178.cells rmJ7_fill_53178.slots (fA E L s.heap.size)) (F0 m 5 ls []) := by
  intro n
  induction n with
  | zero => exact fun _ _ _ _ _ _ _ h _ _ _ => False.elim ‹_›
  | succ n ih =>
    intro v1 v2 v3 st  H locs ls h hl hP hS
    have hR5 := ih
    replace h : wJ7_fill_53178_L5 p1 p2 (lp (fun R s => wJ7_fill_53178_L5 p1 p2 R s.1 s.2.1 s.2.2.1 s.2.2.2 Q) n) v1 v2 v3 st Q := h
    unfold wJ7_fill_53178_L5 at h
    refine lv_iload_n C.1 C.2.1 dJ7_fill_53178_5 rfl (lv_at hl 2 rfl) ?_
    refine lv_iload_n C.1 C.2.1 dJ7_fill_53178_6 rfl (lv_at hl 3 rfl) ?_
    refine lv_icmp_ge C.1 C.2.1 (tgt := 20) dJ7_fill_53178_7 (by decide) (fun hc => ?_) (fun hc => ?_)
    · have h := h.1 hc
      exact z_rv C hr hlk hP hS h dJ7_fill_53178_20
    · have h := h.2 hc
      refine lv_aload_n C.1 C.2.1 dJ7_fill_53178_10 rfl (lv_at hl 0 rfl) ?_
      refine lv_iload_n C.1 C.2.1 dJ7_fill_53178_11 rfl (lv_at hl 2 rfl) ?_
      refine lv_iload_n C.1 C.2.1 dJ7_fill_53178_12 rfl (lv_at hl 1 rfl) ?_
      obtain ⟨hi, h⟩ := h
      refine z_iast C hP hS hp1 lp1 mp1 hi dJ7_fill_53178_13 (fun H locs hP hS => ?_)
      obtain ⟨st1, est1⟩ : ∃ z, z = uI st p1 (v2 : Int32).toNatClampNeg v1 := ⟨_, rfl⟩
      rw [← est1] at hP; have h := h st1 est1
      obtain ⟨x2, ex2⟩ : ∃ z, z = v2 + 1 := ⟨_, rfl⟩
      have h := h x2 ex2
      refine lv_iinc C.1 C.2.1 dJ7_fill_53178_14 hl (k := 2) rfl ex2.symm (Nat.le_of_ble_eq_true rfl) rfl (fun ls hl => ?_)
      have hl : lv_has ls 4 [(2, .int x2), (0, .ref (E.2.1 p1)), (1, .int v1), (3, .int v3)] := hl
      refine lv_goto C.1 C.2.1 (tgt := 5) dJ7_fill_53178_17 (by decide) ?_
      exact hR5 v1 x2 v3 st1 _ _ _ h (lv_sub hl [1, 2, 0, 3] rfl) hP hS
set_option maxHeartbeats 4000000 in
set_option maxRecDepth 100000 in
theorem tJ7_fill_53178 {l : Launch} {E : En0} {L : List Nat} (hE : EK E L) (hL : Cov 0 54 L) {p1 : Nat} {p2 : Int32} {st : St} {Q : St → Prop} (hp1 : kd p1 = 20) (lp1 : ln p1 = 512) (mp1 : p1 ∈ L) (h : wJ7_fill_53178 p1 p2 st Q) : Mz l yJ7_fill_53178 cJ7_fill_53178 4 none rmJ7_fill_53178 E L [.ref (E.2.1 p1), .int p2] st (zV E L Q) := by
  refine Mz.of hE (by decide) (Nat.le_of_ble_eq_true rfl) ?_
  intro p e s m below meth c ls C hr hlk _ hl hP
  replace C : Cx E L "java/util/Arrays" cJ7_fill_53178 4 p s m _ c := C
  have hS : va_S (fA E L s.heap.size) s.heap s.heap [] := va_S.rf
  replace hl : lv_has ls 4 [(0, .ref (E.2.1 p1)), (1, .int p2)] := hl
  unfold wJ7_fill_53178 at h
  refine lv_iconst C.1 C.2.1 (v := 0) dJ7_fill_53178_0 rfl ?_
  refine lv_istore_n C.1 C.2.1 dJ7_fill_53178_1 rfl hl (Nat.le_of_ble_eq_true rfl) rfl (fun ls hl => ?_)
  have hl : lv_has ls 4 [(2, .int 0), (0, .ref (E.2.1 p1)), (1, .int p2)] := hl
  refine lv_aload_n C.1 C.2.1 dJ7_fill_53178_2 rfl (lv_at hl 1 rfl) ?_
  refine z_alen C hP hp1 lp1 mp1 (v := 512) rfl dJ7_fill_53178_3 ?_
  refine lv_istore_n C.1 C.2.1 dJ7_fill_53178_4 rfl hl (Nat.le_of_ble_eq_true rfl) rfl (fun ls hl => ?_)
  have hl : lv_has ls 4 [(3, .int 512), (2, .int 0), (0, .ref (E.2.1 p1)), (1, .int p2)] := hl
  obtain ⟨n, h⟩ := h
  exact tJ7_fill_53178_L5 hL C hr hlk hp1 lp1 mp1 n p2 0 512 st _ _ _ h (lv_sub hl [2, 3, 1, 0] rfl) hP hS
def rmX8_forget : Room := { frames := 0, cells := 0, slots := 0, locals := 0 }
def wX8_forget (b : Nat) (st : St) (Q : St → Prop) : Prop :=
  (∀ st1, st1 = uI st b 2 0 → Q st1)
theorem hdX8_forget : yX8_forget.cls = "PlankBridge$Ways" ∧ yX8_forget.cls ≠ "java/lang/invoke/MethodHandle" ∧ yX8_forget.cls ≠ "java/lang/invoke/VarHandle" ∧ (parseMethodDescriptor yX8_forget.desc).map (fun d => d.parameters.length) = some 0 := by decide +kernel
set_option maxHeartbeats 4000000 in
set_option maxRecDepth 100000 in
theorem tX8_forget {l : Launch} {E : En0} {L : List Nat} (hE : EK E L) (hL : Cov 0 54 L) {b : Nat} {st : St} {Q : St → Prop} (hb : kd b = 7) (h : wX8_forget b st Q) : Mz l yX8_forget cX8_forget 1 none rmX8_forget E L [.ref (E.2.1 b)] st (zV E L Q) := by
  refine Mz.of hE (by decide) (Nat.le_of_ble_eq_true rfl) ?_
  intro p e s m below meth c ls C hr hlk _ hl hP
  replace C : Cx E L "PlankBridge$Ways" cX8_forget 1 p s m _ c := C
  have hS : va_S (fA E L s.heap.size) s.heap s.heap [] := va_S.rf
  replace hl : lv_has ls 1 [(0, .ref (E.2.1 b))] := hl
  unfold wX8_forget at h
  refine lv_aload_n C.1 C.2.1 dX8_forget_0 rfl (lv_at hl 0 rfl) ?_
  refine lv_iconst C.1 C.2.1 (v := 0) dX8_forget_1 rfl ?_
  refine pf7_2 C hP hS hb (m7 hb hL) bz0 q383 dX8_forget_2 (fun H locs hP hS => ?_)
  obtain ⟨st1, est1⟩ : ∃ z, z = uI st b 2 0 := ⟨_, rfl⟩
  rw [← est1] at hP; have h := h st1 est1
  exact z_rv C hr hlk hP hS h dX8_forget_5
def rmX8_known : Room := { frames := 0, cells := 0, slots := 0, locals := 0 }
def wX8_known_L15 (b : Nat) (p1 : Int32) (p2 : Int32)  (s0 : Int32) (st : St) (Q : Int32 → St → Prop) : Prop :=
  ((s0 < 0 → Q 1000000 st) ∧ (¬ s0 < 0 → ((512 ≤ s0 → Q 1000000 st) ∧ (¬ 512 ≤ s0 → (vp_in s0 512 ∧ Q (gI st (b + 1) (s0 : Int32).toNatClampNeg) st)))))
def wX8_known (b : Nat) (p1 : Int32) (p2 : Int32) (st : St) (Q : Int32 → St → Prop) : Prop :=
  ((p2 = 0 → wX8_known_L15 b p1 p2 (p1 * 2) st Q) ∧ (¬ p2 = 0 → wX8_known_L15 b p1 p2 ((p1 * 2) + 1) st Q))
theorem hdX8_known : yX8_known.cls = "PlankBridge$Ways" ∧ yX8_known.cls ≠ "java/lang/invoke/MethodHandle" ∧ yX8_known.cls ≠ "java/lang/invoke/VarHandle" ∧ (parseMethodDescriptor yX8_known.desc).map (fun d => d.parameters.length) = some 2 := by decide +kernel
set_option maxHeartbeats 4000000 in
set_option maxRecDepth 100000 in
theorem tX8_known_L15 {l : Launch} {p : Program} {e : Env} {s : State} {m : MethodId} {args : Array Value} {below : List Frame} {meth : Method} {c : Code} {E : En0} {L : List Nat} (hL : Cov 0 54 L) (C : Cx E L "PlankBridge$Ways" cX8_known 4 p s m args c) (hr : meth.sig.returnType = (some .int)) (hlk : meth.locks = false) {b : Nat} {p1 : Int32} {p2 : Int32} {Q : Int32 → St → Prop} (hb : kd b = 7) {s0 : Int32}  {st : St} (H : Heap) (locs : List Loc) (ls : Array Slot) (h : wX8_known_L15 b p1 p2 s0 st Q) (hl : lv_has ls 4 [(0, .ref (E.2.1 b))]) (hP : va_P E.1 vwCl (wd E L st) H) (hS : va_S (fA E L s.heap.size) s.heap H locs) : W p l e rmX8_known s m args below meth c H locs 0 0 (MQ below (zI E L Q (fA E L s.heap.size)) args s rmX8_known.cells rmX8_known.slots (fA E L s.heap.size)) (F0 m 15 ls [.int s0]) := by
  unfold wX8_known_L15 at h
  refine lv_istore_n C.1 C.2.1 dX8_known_15 rfl hl (Nat.le_of_ble_eq_true rfl) rfl (fun ls hl => ?_)
  have hl : lv_has ls 4 [(3, .int s0), (0, .ref (E.2.1 b))] := hl
  refine lv_iload_n C.1 C.2.1 dX8_known_16 rfl (lv_at hl 0 rfl) ?_
  refine lv_if_lt C.1 C.2.1 (tgt := 36) dX8_known_17 (by decide) (fun hc => ?_) (fun hc => ?_)
  · have h := h.1 hc
    refine lv_ldc C.1 C.2.1 C.2.2.2.1 (C.T q786) dX8_known_36 ?_
    exact z_ri C hr hlk rfl hP hS h dX8_known_38
  · have h := h.2 hc
    refine lv_iload_n C.1 C.2.1 dX8_known_20 rfl (lv_at hl 0 rfl) ?_
    refine lv_sipush C.1 C.2.1 (v := 512) dX8_known_21 rfl ?_
    refine lv_icmp_ge C.1 C.2.1 (tgt := 36) dX8_known_24 (by decide) (fun hc => ?_) (fun hc => ?_)
    · have h := h.1 hc
      refine lv_ldc C.1 C.2.1 C.2.2.2.1 (C.T q786) dX8_known_36 ?_
      exact z_ri C hr hlk rfl hP hS h dX8_known_38
    · have h := h.2 hc
      refine lv_aload_n C.1 C.2.1 dX8_known_27 rfl (lv_at hl 1 rfl) ?_
      refine gf7_1 C hP hb (m7 hb hL) q382 dX8_known_28 ?_
      refine lv_iload_n C.1 C.2.1 dX8_known_31 rfl (lv_at hl 0 rfl) ?_
      obtain ⟨hi, h⟩ := h
      refine z_iald C hP (k7_1 hb) (l7_1 hb) (m7_1 hb hL) hi dX8_known_32 ?_
      refine lv_goto C.1 C.2.1 (tgt := 38) dX8_known_33 (by decide) ?_
      exact z_ri C hr hlk rfl hP hS h dX8_known_38
set_option maxHeartbeats 4000000 in
set_option maxRecDepth 100000 in
theorem tX8_known {l : Launch} {E : En0} {L : List Nat} (hE : EK E L) (hL : Cov 0 54 L) {b : Nat} {p1 : Int32} {p2 : Int32} {st : St} {Q : Int32 → St → Prop} (hb : kd b = 7) (h : wX8_known b p1 p2 st Q) : Mz l yX8_known cX8_known 4 (some .int) rmX8_known E L [.ref (E.2.1 b), .int p1, .int p2] st (zI E L Q) := by
  refine Mz.of hE (by decide) (Nat.le_of_ble_eq_true rfl) ?_
  intro p e s m below meth c ls C hr hlk _ hl hP
  replace C : Cx E L "PlankBridge$Ways" cX8_known 4 p s m _ c := C
  have hS : va_S (fA E L s.heap.size) s.heap s.heap [] := va_S.rf
  replace hl : lv_has ls 4 [(0, .ref (E.2.1 b)), (1, .int p1), (2, .int p2)] := hl
  unfold wX8_known at h
  refine lv_iload_n C.1 C.2.1 dX8_known_0 rfl (lv_at hl 2 rfl) ?_
  refine lv_if_eq C.1 C.2.1 (tgt := 12) dX8_known_1 (by decide) (fun hc => ?_) (fun hc => ?_)
  · have h := h.1 hc
    refine lv_iload_n C.1 C.2.1 dX8_known_12 rfl (lv_at hl 1 rfl) ?_
    refine lv_iconst C.1 C.2.1 (v := 2) dX8_known_13 rfl ?_
    refine lv_imul C.1 C.2.1 dX8_known_14  ?_
    exact tX8_known_L15 hL C hr hlk hb _ _ _ h (lv_sub hl [0] rfl) hP hS
  · have h := h.2 hc
    refine lv_iload_n C.1 C.2.1 dX8_known_4 rfl (lv_at hl 1 rfl) ?_
    refine lv_iconst C.1 C.2.1 (v := 2) dX8_known_5 rfl ?_
    refine lv_imul C.1 C.2.1 dX8_known_6  ?_
    refine lv_iconst C.1 C.2.1 (v := 1) dX8_known_7 rfl ?_
    refine lv_iadd C.1 C.2.1 dX8_known_8  ?_
    refine lv_goto C.1 C.2.1 (tgt := 15) dX8_known_9 (by decide) ?_
    exact tX8_known_L15 hL C hr hlk hb _ _ _ h (lv_sub hl [0] rfl) hP hS
def rmX8_through : Room := { frames := 2, cells := 0, slots := 0, locals := 44 }
def wX8_through_L60 (b : Nat) (p1 : Int32) (p2 : Int32) (p3 : Int32) (p4 : Int32)  (s0 : Int32) (s1 : Int32) (s3 : Int32) (st : St) (Q : Int32 → St → Prop) : Prop :=
  (wX8_known b s1 s0 st (fun r5 st4 => Q (s3 + r5) st4))
def wX8_through_L21 (b : Nat) (p1 : Int32) (p2 : Int32) (p3 : Int32) (p4 : Int32)  (v1 : Int32) (v2 : Int32) (v3 : Int32) (v4 : Int32) (v5 : Int32) (s0 : Int32) (st : St) (Q : Int32 → St → Prop) : Prop :=
  (((s0 &&& v5) = v5 → (wX2_minutesFor 4 v3 v4 st (fun r3 st2 => ((¬ v2 = 0 → wX8_through_L60 b p1 p2 p3 p4 0 (v1 ^^^ v5) r3 st2 Q) ∧ (v2 = 0 → wX8_through_L60 b p1 p2 p3 p4 1 (v1 ^^^ v5) r3 st2 Q))))) ∧ (¬ (s0 &&& v5) = v5 → Q 1000000 st))
def wX8_through (b : Nat) (p1 : Int32) (p2 : Int32) (p3 : Int32) (p4 : Int32) (st : St) (Q : Int32 → St → Prop) : Prop :=
  (∀ x1 : Int32, x1 = (((1 : Int32) <<< (p3 &&& 31)) ||| ((1 : Int32) <<< (p4 &&& 31))) → ((p2 = 0 → wX8_through_L21 b p1 p2 p3 p4 p1 p2 p3 p4 x1 (p1 ^^^ (-1)) st Q) ∧ (¬ p2 = 0 → wX8_through_L21 b p1 p2 p3 p4 p1 p2 p3 p4 x1 p1 st Q)))
theorem hdX8_through : yX8_through.cls = "PlankBridge$Ways" ∧ yX8_through.cls ≠ "java/lang/invoke/MethodHandle" ∧ yX8_through.cls ≠ "java/lang/invoke/VarHandle" ∧ (parseMethodDescriptor yX8_through.desc).map (fun d => d.parameters.length) = some 4 := by decide +kernel
set_option maxHeartbeats 4000000 in
set_option maxRecDepth 100000 in
theorem tX8_through_L60 {l : Launch} {p : Program} {e : Env} {s : State} {m : MethodId} {args : Array Value} {below : List Frame} {meth : Method} {c : Code} {E : En0} {L : List Nat} (hL : Cov 0 54 L) (C : Cx E L "PlankBridge$Ways" cX8_through 7 p s m args c) (hr : meth.sig.returnType = (some .int)) (hlk : meth.locks = false) {b : Nat} {p1 : Int32} {p2 : Int32} {p3 : Int32} {p4 : Int32} {Q : Int32 → St → Prop} (hb : kd b = 7) {s0 : Int32} {s1 : Int32} {s3 : Int32}  {st : St} (H : Heap) (locs : List Loc) (ls : Array Slot) (h : wX8_through_L60 b p1 p2 p3 p4 s0 s1 s3 st Q) (hl : lv_has ls 7 []) (hP : va_P E.1 vwCl (wd E L st) H) (hS : va_S (fA E L s.heap.size) s.heap H locs) : W p l e rmX8_through s m args below meth c H locs 0 0 (MQ below (zI E L Q (fA E L s.heap.size)) args s rmX8_through.cells rmX8_through.slots (fA E L s.heap.size)) (F0 m 60 ls [.int s0, .int s1, .ref (E.2.1 b), .int s3]) := by
  unfold wX8_through_L60 at h
  refine z_ki hS (z_runV (As := [.int s1, .int s0]) (rest := [.int s3]) C hP hS (m7 hb hL) (e7 hb) rfl (tX8_known C.2.2.2.2.2.2.1 (hL.mo (Nat.le_of_ble_eq_true rfl) (Nat.le_of_ble_eq_true rfl)) hb h) q799 q801 q16 q114 q802 hdX8_known ⟨Nat.le_of_ble_eq_true rfl, Nat.le_of_ble_eq_true rfl⟩ ⟨Nat.zero_le _, Nat.zero_le _⟩ rfl hl.1 rfl (lv_room (Nat.le_of_ble_eq_true rfl)) dX8_through_60) (fun r5 st4 H locs h hP hS => ?_)
  refine lv_iadd C.1 C.2.1 dX8_through_63  ?_
  exact z_ri C hr hlk rfl hP hS h dX8_through_64
set_option maxHeartbeats 4000000 in
set_option maxRecDepth 100000 in
theorem tX8_through_L21 {l : Launch} {p : Program} {e : Env} {s : State} {m : MethodId} {args : Array Value} {below : List Frame} {meth : Method} {c : Code} {E : En0} {L : List Nat} (hL : Cov 0 54 L) (C : Cx E L "PlankBridge$Ways" cX8_through 7 p s m args c) (hr : meth.sig.returnType = (some .int)) (hlk : meth.locks = false) {b : Nat} {p1 : Int32} {p2 : Int32} {p3 : Int32} {p4 : Int32} {Q : Int32 → St → Prop} (hb : kd b = 7) {v1 : Int32} {v2 : Int32} {v3 : Int32} {v4 : Int32} {v5 : Int32} {s0 : Int32}  {st : St} (H : Heap) (locs : List Loc) (ls : Array Slot) (h : wX8_through_L21 b p1 p2 p3 p4 v1 v2 v3 v4 v5 s0 st Q) (hl : lv_has ls 7 [(0, .ref (E.2.1 b)), (1, .int v1), (2, .int v2), (3, .int v3), (4, .int v4), (5, .int v5)]) (hP : va_P E.1 vwCl (wd E L st) H) (hS : va_S (fA E L s.heap.size) s.heap H locs) : W p l e rmX8_through s m args below meth c H locs 0 0 (MQ below (zI E L Q (fA E L s.heap.size)) args s rmX8_through.cells rmX8_through.slots (fA E L s.heap.size)) (F0 m 21 ls [.int s0]) := by
  unfold wX8_through_L21 at h
  refine lv_istore C.1 C.2.1 dX8_through_21 hl (Nat.le_of_ble_eq_true rfl) rfl (fun ls hl => ?_)
  have hl : lv_has ls 7 [(6, .int s0), (0, .ref (E.2.1 b)), (1, .int v1), (2, .int v2), (3, .int v3), (4, .int v4), (5, .int v5)] := hl
  refine lv_iload C.1 C.2.1 dX8_through_23 (lv_at hl 0 rfl) ?_
  refine lv_iload C.1 C.2.1 dX8_through_25 (lv_at hl 6 rfl) ?_
  refine lv_iand C.1 C.2.1 dX8_through_27  ?_
  refine lv_iload C.1 C.2.1 dX8_through_28 (lv_at hl 6 rfl) ?_
  refine lv_icmp_eq C.1 C.2.1 (tgt := 36) dX8_through_30 (by decide) (fun hc => ?_) (fun hc => ?_)
  · have h := h.1 hc
    refine lv_aload_n C.1 C.2.1 dX8_through_36 rfl (lv_at hl 1 rfl) ?_
    refine gf7_0 C hP hb (m7 hb hL) q381 dX8_through_37 ?_
    refine lv_iload_n C.1 C.2.1 dX8_through_40 rfl (lv_at hl 4 rfl) ?_
    refine lv_iload C.1 C.2.1 dX8_through_41 (lv_at hl 5 rfl) ?_
    refine z_ki hS (z_runV (As := [.int v3, .int v4]) (rest := []) C hP hS (hL 4 (Nat.le_of_ble_eq_true rfl) (Nat.le_of_ble_eq_true rfl)) (e2 (show kd 4 = 2 from rfl)) rfl (tX2_minutesFor C.2.2.2.2.2.2.1 (hL.mo (Nat.le_of_ble_eq_true rfl) (Nat.le_of_ble_eq_true rfl)) (show kd 4 = 2 from rfl) h) q807 q808 q809 q112 q810 hdX2_minutesFor ⟨Nat.le_of_ble_eq_true rfl, Nat.le_of_ble_eq_true rfl⟩ ⟨Nat.zero_le _, Nat.zero_le _⟩ rfl hl.1 rfl (lv_room (Nat.le_of_ble_eq_true rfl)) dX8_through_43) (fun r3 st2 H locs h hP hS => ?_)
    refine lv_aload_n C.1 C.2.1 dX8_through_46 rfl (lv_at hl 1 rfl) ?_
    refine lv_iload_n C.1 C.2.1 dX8_through_47 rfl (lv_at hl 2 rfl) ?_
    refine lv_iload C.1 C.2.1 dX8_through_48 (lv_at hl 6 rfl) ?_
    refine lv_ixor C.1 C.2.1 dX8_through_50  ?_
    refine lv_iload_n C.1 C.2.1 dX8_through_51 rfl (lv_at hl 3 rfl) ?_
    refine lv_if_ne C.1 C.2.1 (tgt := 59) dX8_through_52 (by decide) (fun hc => ?_) (fun hc => ?_)
    · have h := h.1 hc
      refine lv_iconst C.1 C.2.1 (v := 0) dX8_through_59 rfl ?_
      exact tX8_through_L60 hL C hr hlk hb _ _ _ h (lv_sub hl [] rfl) hP hS
    · have h := h.2 hc
      refine lv_iconst C.1 C.2.1 (v := 1) dX8_through_55 rfl ?_
      refine lv_goto C.1 C.2.1 (tgt := 60) dX8_through_56 (by decide) ?_
      exact tX8_through_L60 hL C hr hlk hb _ _ _ h (lv_sub hl [] rfl) hP hS
  · have h := h.2 hc
    refine lv_ldc C.1 C.2.1 C.2.2.2.1 (C.T q786) dX8_through_33 ?_
    exact z_ri C hr hlk rfl hP hS h dX8_through_35
set_option maxHeartbeats 4000000 in
set_option maxRecDepth 100000 in
theorem tX8_through {l : Launch} {E : En0} {L : List Nat} (hE : EK E L) (hL : Cov 0 54 L) {b : Nat} {p1 : Int32} {p2 : Int32} {p3 : Int32} {p4 : Int32} {st : St} {Q : Int32 → St → Prop} (hb : kd b = 7) (h : wX8_through b p1 p2 p3 p4 st Q) : Mz l yX8_through cX8_through 7 (some .int) rmX8_through E L [.ref (E.2.1 b), .int p1, .int p2, .int p3, .int p4] st (zI E L Q) := by
  refine Mz.of hE (by decide) (Nat.le_of_ble_eq_true rfl) ?_
  intro p e s m below meth c ls C hr hlk _ hl hP
  replace C : Cx E L "PlankBridge$Ways" cX8_through 7 p s m _ c := C
  have hS : va_S (fA E L s.heap.size) s.heap s.heap [] := va_S.rf
  replace hl : lv_has ls 7 [(0, .ref (E.2.1 b)), (1, .int p1), (2, .int p2), (3, .int p3), (4, .int p4)] := hl
  unfold wX8_through at h
  refine lv_iconst C.1 C.2.1 (v := 1) dX8_through_0 rfl ?_
  refine lv_iload_n C.1 C.2.1 dX8_through_1 rfl (lv_at hl 3 rfl) ?_
  refine lv_ishl C.1 C.2.1 dX8_through_2  ?_
  refine lv_iconst C.1 C.2.1 (v := 1) dX8_through_3 rfl ?_
  refine lv_iload C.1 C.2.1 dX8_through_4 (lv_at hl 4 rfl) ?_
  refine lv_ishl C.1 C.2.1 dX8_through_6  ?_
  refine lv_ior C.1 C.2.1 dX8_through_7  ?_
  refine lv_topi (fun x1 ex1 => ?_)
  have h := h x1 ex1
  refine lv_istore C.1 C.2.1 dX8_through_8 hl (Nat.le_of_ble_eq_true rfl) rfl (fun ls hl => ?_)
  have hl : lv_has ls 7 [(5, .int x1), (0, .ref (E.2.1 b)), (1, .int p1), (2, .int p2), (3, .int p3), (4, .int p4)] := hl
  refine lv_iload_n C.1 C.2.1 dX8_through_10 rfl (lv_at hl 3 rfl) ?_
  refine lv_if_eq C.1 C.2.1 (tgt := 18) dX8_through_11 (by decide) (fun hc => ?_) (fun hc => ?_)
  · have h := h.1 hc
    refine lv_iload_n C.1 C.2.1 dX8_through_18 rfl (lv_at hl 2 rfl) ?_
    refine lv_iconst C.1 C.2.1 (v := (-1)) dX8_through_19 rfl ?_
    refine lv_ixor C.1 C.2.1 dX8_through_20  ?_
    exact tX8_through_L21 hL C hr hlk hb _ _ _ h (lv_sub hl [1, 2, 3, 4, 5, 0] rfl) hP hS
  · have h := h.2 hc
    refine lv_iload_n C.1 C.2.1 dX8_through_14 rfl (lv_at hl 2 rfl) ?_
    refine lv_goto C.1 C.2.1 (tgt := 21) dX8_through_15 (by decide) ?_
    exact tX8_through_L21 hL C hr hlk hb _ _ _ h (lv_sub hl [1, 2, 3, 4, 5, 0] rfl) hP hS
def rmX8_improve : Room := { frames := 3, cells := 0, slots := 0, locals := 70 }
def wX8_improve_L92 (b : Nat) (p1 : Int32) (p2 : Int32)  (v3 : Int32) (v4 : Int32) (s0 : Int32) (st : St) (Q : Int32 → St → Prop) : Prop :=
  ((v4 = 0 → (bz v4 ∧ Q v4 st)) ∧ (¬ v4 = 0 → ((s0 < 0 → (bz v4 ∧ Q v4 st)) ∧ (¬ s0 < 0 → ((512 ≤ s0 → (bz v4 ∧ Q v4 st)) ∧ (¬ 512 ≤ s0 → (vp_in s0 512 ∧ ∀ st3, st3 = uI st (b + 1) (s0 : Int32).toNatClampNeg v3 → (bz v4 ∧ Q v4 st3))))))))
def wX8_improve_L65 (b : Nat) (p1 : Int32) (p2 : Int32) (R13 : Int32 × Int32 × Int32 × Int32 × Int32 × St → Prop) (R29 : Int32 × Int32 × Int32 × Int32 × Int32 × Int32 × St → Prop) (v1 : Int32) (v2 : Int32) (v3 : Int32) (v4 : Int32) (v5 : Int32) (v6 : Int32) (st : St) (Q : Int32 → St → Prop) : Prop :=
  (∀ x7 : Int32, x7 = v6 + 1 → R29 (v1, v2, v3, v4, v5, x7, st))
def wX8_improve_L29 (b : Nat) (p1 : Int32) (p2 : Int32) (R13 : Int32 × Int32 × Int32 × Int32 × Int32 × St → Prop) (R29 : Int32 × Int32 × Int32 × Int32 × Int32 × Int32 × St → Prop) (v1 : Int32) (v2 : Int32) (v3 : Int32) (v4 : Int32) (v5 : Int32) (v6 : Int32) (st : St) (Q : Int32 → St → Prop) : Prop :=
  (((gI st 4 0) ≤ v6 → (∀ x4 : Int32, x4 = v5 + 1 → R13 (v1, v2, v3, v4, x4, st))) ∧ (¬ (gI st 4 0) ≤ v6 → (wX8_through b v1 v2 v5 v6 st (fun r6 st5 => ((v3 ≤ r6 → wX8_improve_L65 b p1 p2 R13 R29 v1 v2 v3 v4 v5 v6 st5 Q) ∧ (¬ v3 ≤ r6 → wX8_improve_L65 b p1 p2 R13 R29 v1 v2 r6 1 v5 v6 st5 Q))))))
def wX8_improve_L13 (b : Nat) (p1 : Int32) (p2 : Int32)  (R13 : Int32 × Int32 × Int32 × Int32 × Int32 × St → Prop) (v1 : Int32) (v2 : Int32) (v3 : Int32) (v4 : Int32) (v5 : Int32) (st : St) (Q : Int32 → St → Prop) : Prop :=
  (((gI st 4 0) ≤ v5 → ((v2 = 0 → wX8_improve_L92 b p1 p2 v3 v4 (v1 * 2) st Q) ∧ (¬ v2 = 0 → wX8_improve_L92 b p1 p2 v3 v4 ((v1 * 2) + 1) st Q))) ∧ (¬ (gI st 4 0) ≤ v5 → (∃ n, lp (fun R s => wX8_improve_L29 b p1 p2 R13 R s.1 s.2.1 s.2.2.1 s.2.2.2.1 s.2.2.2.2.1 s.2.2.2.2.2.1 s.2.2.2.2.2.2 Q) n (v1, v2, v3, v4, v5, v5, st))))
def wX8_improve (b : Nat) (p1 : Int32) (p2 : Int32) (st : St) (Q : Int32 → St → Prop) : Prop :=
  (wX8_known b p1 p2 st (fun r2 st1 => (∃ n, lp (fun R s => wX8_improve_L13 b p1 p2 R s.1 s.2.1 s.2.2.1 s.2.2.2.1 s.2.2.2.2.1 s.2.2.2.2.2 Q) n (p1, p2, r2, 0, 0, st1))))
theorem hdX8_improve : yX8_improve.cls = "PlankBridge$Ways" ∧ yX8_improve.cls ≠ "java/lang/invoke/MethodHandle" ∧ yX8_improve.cls ≠ "java/lang/invoke/VarHandle" ∧ (parseMethodDescriptor yX8_improve.desc).map (fun d => d.parameters.length) = some 2 := by decide +kernel
set_option maxHeartbeats 4000000 in
set_option maxRecDepth 100000 in
theorem tX8_improve_L92 {l : Launch} {p : Program} {e : Env} {s : State} {m : MethodId} {args : Array Value} {below : List Frame} {meth : Method} {c : Code} {E : En0} {L : List Nat} (hL : Cov 0 54 L) (C : Cx E L "PlankBridge$Ways" cX8_improve 8 p s m args c) (hr : meth.sig.returnType = (some .boolean)) (hlk : meth.locks = false) {b : Nat} {p1 : Int32} {p2 : Int32} {Q : Int32 → St → Prop} (hb : kd b = 7) {v3 : Int32} {v4 : Int32} {s0 : Int32}  {st : St} (H : Heap) (locs : List Loc) (ls : Array Slot) (h : wX8_improve_L92 b p1 p2 v3 v4 s0 st Q) (hl : lv_has ls 8 [(0, .ref (E.2.1 b)), (3, .int v3), (4, .int v4)]) (hP : va_P E.1 vwCl (wd E L st) H) (hS : va_S (fA E L s.heap.size) s.heap H locs) : W p l e rmX8_improve s m args below meth c H locs 0 0 (MQ below (zI E L (fun r u => bz r ∧ Q r u) (fA E L s.heap.size)) args s rmX8_improve.cells rmX8_improve.slots (fA E L s.heap.size)) (F0 m 92 ls [.int s0]) := by
  unfold wX8_improve_L92 at h
  refine lv_istore C.1 C.2.1 dX8_improve_92 hl (Nat.le_of_ble_eq_true rfl) rfl (fun ls hl => ?_)
  have hl : lv_has ls 8 [(5, .int s0), (0, .ref (E.2.1 b)), (3, .int v3), (4, .int v4)] := hl
  refine lv_iload C.1 C.2.1 dX8_improve_94 (lv_at hl 3 rfl) ?_
  refine lv_if_eq C.1 C.2.1 (tgt := 120) dX8_improve_96 (by decide) (fun hc => ?_) (fun hc => ?_)
  · have h := h.1 hc
    refine lv_iload C.1 C.2.1 dX8_improve_120 (lv_at hl 3 rfl) ?_
    exact z_ri C hr hlk (bz_n h.1) hP hS h dX8_improve_122
  · have h := h.2 hc
    refine lv_iload C.1 C.2.1 dX8_improve_99 (lv_at hl 0 rfl) ?_
    refine lv_if_lt C.1 C.2.1 (tgt := 120) dX8_improve_101 (by decide) (fun hc => ?_) (fun hc => ?_)
    · have h := h.1 hc
      refine lv_iload C.1 C.2.1 dX8_improve_120 (lv_at hl 3 rfl) ?_
      exact z_ri C hr hlk (bz_n h.1) hP hS h dX8_improve_122
    · have h := h.2 hc
      refine lv_iload C.1 C.2.1 dX8_improve_104 (lv_at hl 0 rfl) ?_
      refine lv_sipush C.1 C.2.1 (v := 512) dX8_improve_106 rfl ?_
      refine lv_icmp_ge C.1 C.2.1 (tgt := 120) dX8_improve_109 (by decide) (fun hc => ?_) (fun hc => ?_)
      · have h := h.1 hc
        refine lv_iload C.1 C.2.1 dX8_improve_120 (lv_at hl 3 rfl) ?_
        exact z_ri C hr hlk (bz_n h.1) hP hS h dX8_improve_122
      · have h := h.2 hc
        refine lv_aload_n C.1 C.2.1 dX8_improve_112 rfl (lv_at hl 1 rfl) ?_
        refine gf7_1 C hP hb (m7 hb hL) q382 dX8_improve_113 ?_
        refine lv_iload C.1 C.2.1 dX8_improve_116 (lv_at hl 0 rfl) ?_
        refine lv_iload_n C.1 C.2.1 dX8_improve_118 rfl (lv_at hl 2 rfl) ?_
        obtain ⟨hi, h⟩ := h
        refine z_iast C hP hS (k7_1 hb) (l7_1 hb) (m7_1 hb hL) hi dX8_improve_119 (fun H locs hP hS => ?_)
        obtain ⟨st3, est3⟩ : ∃ z, z = uI st (b + 1) (s0 : Int32).toNatClampNeg v3 := ⟨_, rfl⟩
        rw [← est3] at hP; have h := h st3 est3
        refine lv_iload C.1 C.2.1 dX8_improve_120 (lv_at hl 3 rfl) ?_
        exact z_ri C hr hlk (bz_n h.1) hP hS h dX8_improve_122
set_option maxHeartbeats 4000000 in
set_option maxRecDepth 100000 in
theorem tX8_improve_L65 {l : Launch} {p : Program} {e : Env} {s : State} {m : MethodId} {args : Array Value} {below : List Frame} {meth : Method} {c : Code} {E : En0} {L : List Nat} (hL : Cov 0 54 L) (C : Cx E L "PlankBridge$Ways" cX8_improve 8 p s m args c) (hr : meth.sig.returnType = (some .boolean)) (hlk : meth.locks = false) {b : Nat} {p1 : Int32} {p2 : Int32} {Q : Int32 → St → Prop} (hb : kd b = 7) {R13 : Int32 × Int32 × Int32 × Int32 × Int32 × St → Prop} (hR13 : ∀ (v1 : Int32) (v2 : Int32) (v3 : Int32) (v4 : Int32) (v5 : Int32) (st : St), ∀ (H : Heap) (locs : List Loc) (ls : Array Slot), R13 (v1, v2, v3, v4, v5, st) → lv_has ls 8 [(0, .ref (E.2.1 b)), (1, .int v1), (2, .int v2), (3, .int v3), (4, .int v4), (5, .int v5)] → va_P E.1 vwCl (wd E L st) H → va_S (fA E L s.heap.size) s.heap H locs → W p l e rmX8_improve s m args below meth c H locs 0 0 (MQ below (zI E L (fun r u => bz r ∧ Q r u) (fA E L s.heap.size)) args s rmX8_improve.cells rmX8_improve.slots (fA E L s.heap.size)) (F0 m 13 ls [])) {R29 : Int32 × Int32 × Int32 × Int32 × Int32 × Int32 × St → Prop} (hR29 : ∀ (v1 : Int32) (v2 : Int32) (v3 : Int32) (v4 : Int32) (v5 : Int32) (v6 : Int32) (st : St), ∀ (H : Heap) (locs : List Loc) (ls : Array Slot), R29 (v1, v2, v3, v4, v5, v6, st) → lv_has ls 8 [(0, .ref (E.2.1 b)), (1, .int v1), (2, .int v2), (3, .int v3), (4, .int v4), (5, .int v5), (6, .int v6)] → va_P E.1 vwCl (wd E L st) H → va_S (fA E L s.heap.size) s.heap H locs → W p l e rmX8_improve s m args below meth c H locs 0 0 (MQ below (zI E L (fun r u => bz r ∧ Q r u) (fA E L s.heap.size)) args s rmX8_improve.cells rmX8_improve.slots (fA E L s.heap.size)) (F0 m 29 ls [])) {v1 : Int32} {v2 : Int32} {v3 : Int32} {v4 : Int32} {v5 : Int32} {v6 : Int32}  {st : St} (H : Heap) (locs : List Loc) (ls : Array Slot) (h : wX8_improve_L65 b p1 p2 R13 R29 v1 v2 v3 v4 v5 v6 st Q) (hl : lv_has ls 8 [(0, .ref (E.2.1 b)), (1, .int v1), (2, .int v2), (3, .int v3), (4, .int v4), (5, .int v5), (6, .int v6)]) (hP : va_P E.1 vwCl (wd E L st) H) (hS : va_S (fA E L s.heap.size) s.heap H locs) : W p l e rmX8_improve s m args below meth c H locs 0 0 (MQ below (zI E L (fun r u => bz r ∧ Q r u) (fA E L s.heap.size)) args s rmX8_improve.cells rmX8_improve.slots (fA E L s.heap.size)) (F0 m 65 ls []) := by
  unfold wX8_improve_L65 at h
  obtain ⟨x7, ex7⟩ : ∃ z, z = v6 + 1 := ⟨_, rfl⟩
  have h := h x7 ex7
  refine lv_iinc C.1 C.2.1 dX8_improve_65 hl (k := 6) rfl ex7.symm (Nat.le_of_ble_eq_true rfl) rfl (fun ls hl => ?_)
  have hl : lv_has ls 8 [(6, .int x7), (0, .ref (E.2.1 b)), (1, .int v1), (2, .int v2), (3, .int v3), (4, .int v4), (5, .int v5)] := hl
  refine lv_goto C.1 C.2.1 (tgt := 29) dX8_improve_68 (by decide) ?_
  exact hR29 v1 v2 v3 v4 v5 x7 st _ _ _ h (lv_sub hl [1, 2, 3, 4, 5, 6, 0] rfl) hP hS
set_option maxHeartbeats 4000000 in
set_option maxRecDepth 100000 in
theorem tX8_improve_L29 {l : Launch} {p : Program} {e : Env} {s : State} {m : MethodId} {args : Array Value} {below : List Frame} {meth : Method} {c : Code} {E : En0} {L : List Nat} (hL : Cov 0 54 L) (C : Cx E L "PlankBridge$Ways" cX8_improve 8 p s m args c) (hr : meth.sig.returnType = (some .boolean)) (hlk : meth.locks = false) {b : Nat} {p1 : Int32} {p2 : Int32} {Q : Int32 → St → Prop} (hb : kd b = 7) {R13 : Int32 × Int32 × Int32 × Int32 × Int32 × St → Prop} (hR13 : ∀ (v1 : Int32) (v2 : Int32) (v3 : Int32) (v4 : Int32) (v5 : Int32) (st : St), ∀ (H : Heap) (locs : List Loc) (ls : Array Slot), R13 (v1, v2, v3, v4, v5, st) → lv_has ls 8 [(0, .ref (E.2.1 b)), (1, .int v1), (2, .int v2), (3, .int v3), (4, .int v4), (5, .int v5)] → va_P E.1 vwCl (wd E L st) H → va_S (fA E L s.heap.size) s.heap H locs → W p l e rmX8_improve s m args below meth c H locs 0 0 (MQ below (zI E L (fun r u => bz r ∧ Q r u) (fA E L s.heap.size)) args s rmX8_improve.cells rmX8_improve.slots (fA E L s.heap.size)) (F0 m 13 ls [])) : ∀ (n : Nat) (v1 : Int32) (v2 : Int32) (v3 : Int32) (v4 : Int32) (v5 : Int32) (v6 : Int32) (st : St) (H : Heap) (locs : List Loc) (ls : Array Slot), lp (fun R s => wX8_improve_L29 b p1 p2 R13 R s.1 s.2.1 s.2.2.1 s.2.2.2.1 s.2.2.2.2.1 s.2.2.2.2.2.1 s.2.2.2.2.2.2 Q) n (v1, v2, v3, v4, v5, v6, st) → lv_has ls 8 [(0, .ref (E.2.1 b)), (1, .int v1), (2, .int v2), (3, .int v3), (4, .int v4), (5, .int v5), (6, .int v6)] → va_P E.1 vwCl (wd E L st) H → va_S (fA E L s.heap.size) s.heap H locs → W p l e rmX8_improve s m args below meth c H locs 0 0 (MQ below (zI E L (fun r u => bz r ∧ Q r u) (fA E L s.heap.size)) args s rmX8_improve.cells rmX8_improve.slots (fA E L s.heap.size)) (F0 m 29 ls []) := by
  intro n
  induction n with
  | zero => exact fun _ _ _ _ _ _ _ _ _ _ h _ _ _ => False.elim ‹_›
  | succ n ih =>
    intro v1 v2 v3 v4 v5 v6 st  H locs ls h hl hP hS
    have hR29 := ih
    replace h : wX8_improve_L29 b p1 p2 R13 (lp (fun R s => wX8_improve_L29 b p1 p2 R13 R s.1 s.2.1 s.2.2.1 s.2.2.2.1 s.2.2.2.2.1 s.2.2.2.2.2.1 s.2.2.2.2.2.2 Q) n) v1 v2 v3 v4 v5 v6 st Q := h
    unfold wX8_improve_L29 at h
    refine lv_iload C.1 C.2.1 dX8_improve_29 (lv_at hl 6 rfl) ?_
    refine lv_aload_n C.1 C.2.1 dX8_improve_31 rfl (lv_at hl 0 rfl) ?_
    refine gf7_0 C hP hb (m7 hb hL) q381 dX8_improve_32 ?_
    refine gn2_0 C hP (show kd 4 = 2 from rfl) (hL 4 (Nat.le_of_ble_eq_true rfl) (Nat.le_of_ble_eq_true rfl)) q290 dX8_improve_35 ?_
    refine lv_icmp_ge C.1 C.2.1 (tgt := 71) dX8_improve_38 (by decide) (fun hc => ?_) (fun hc => ?_)
    · have h := h.1 hc
      obtain ⟨x4, ex4⟩ : ∃ z, z = v5 + 1 := ⟨_, rfl⟩
      have h := h x4 ex4
      refine lv_iinc C.1 C.2.1 dX8_improve_71 hl (k := 5) rfl ex4.symm (Nat.le_of_ble_eq_true rfl) rfl (fun ls hl => ?_)
      have hl : lv_has ls 8 [(5, .int x4), (0, .ref (E.2.1 b)), (1, .int v1), (2, .int v2), (3, .int v3), (4, .int v4), (6, .int v6)] := hl
      refine lv_goto C.1 C.2.1 (tgt := 13) dX8_improve_74 (by decide) ?_
      exact hR13 v1 v2 v3 v4 x4 st _ _ _ h (lv_sub hl [1, 2, 3, 4, 5, 0] rfl) hP hS
    · have h := h.2 hc
      refine lv_aload_n C.1 C.2.1 dX8_improve_41 rfl (lv_at hl 0 rfl) ?_
      refine lv_iload_n C.1 C.2.1 dX8_improve_42 rfl (lv_at hl 1 rfl) ?_
      refine lv_iload_n C.1 C.2.1 dX8_improve_43 rfl (lv_at hl 2 rfl) ?_
      refine lv_iload C.1 C.2.1 dX8_improve_44 (lv_at hl 5 rfl) ?_
      refine lv_iload C.1 C.2.1 dX8_improve_46 (lv_at hl 6 rfl) ?_
      refine z_ki hS (z_runV (As := [.int v1, .int v2, .int v5, .int v6]) (rest := []) C hP hS (m7 hb hL) (e7 hb) rfl (tX8_through C.2.2.2.2.2.2.1 (hL.mo (Nat.le_of_ble_eq_true rfl) (Nat.le_of_ble_eq_true rfl)) hb h) q803 q805 q17 q114 q806 hdX8_through ⟨Nat.le_of_ble_eq_true rfl, Nat.le_of_ble_eq_true rfl⟩ ⟨Nat.zero_le _, Nat.zero_le _⟩ rfl hl.1 rfl (lv_room (Nat.le_of_ble_eq_true rfl)) dX8_improve_48) (fun r6 st5 H locs h hP hS => ?_)
      refine lv_istore C.1 C.2.1 dX8_improve_51 hl (Nat.le_of_ble_eq_true rfl) rfl (fun ls hl => ?_)
      have hl : lv_has ls 8 [(7, .int r6), (0, .ref (E.2.1 b)), (1, .int v1), (2, .int v2), (3, .int v3), (4, .int v4), (5, .int v5), (6, .int v6)] := hl
      refine lv_iload C.1 C.2.1 dX8_improve_53 (lv_at hl 0 rfl) ?_
      refine lv_iload_n C.1 C.2.1 dX8_improve_55 rfl (lv_at hl 4 rfl) ?_
      refine lv_icmp_ge C.1 C.2.1 (tgt := 65) dX8_improve_56 (by decide) (fun hc => ?_) (fun hc => ?_)
      · have h := h.1 hc
        exact tX8_improve_L65 hL C hr hlk hb hR13 hR29 _ _ _ h (lv_sub hl [1, 2, 3, 4, 5, 6, 7] rfl) hP hS
      · have h := h.2 hc
        refine lv_iload C.1 C.2.1 dX8_improve_59 (lv_at hl 0 rfl) ?_
        refine lv_istore_n C.1 C.2.1 dX8_improve_61 rfl hl (Nat.le_of_ble_eq_true rfl) rfl (fun ls hl => ?_)
        have hl : lv_has ls 8 [(3, .int r6), (7, .int r6), (0, .ref (E.2.1 b)), (1, .int v1), (2, .int v2), (4, .int v4), (5, .int v5), (6, .int v6)] := hl
        refine lv_iconst C.1 C.2.1 (v := 1) dX8_improve_62 rfl ?_
        refine lv_istore C.1 C.2.1 dX8_improve_63 hl (Nat.le_of_ble_eq_true rfl) rfl (fun ls hl => ?_)
        have hl : lv_has ls 8 [(4, .int 1), (3, .int r6), (7, .int r6), (0, .ref (E.2.1 b)), (1, .int v1), (2, .int v2), (5, .int v5), (6, .int v6)] := hl
        exact tX8_improve_L65 hL C hr hlk hb hR13 hR29 _ _ _ h (lv_sub hl [3, 4, 5, 1, 0, 6, 7] rfl) hP hS
set_option maxHeartbeats 4000000 in
set_option maxRecDepth 100000 in
theorem tX8_improve_L13 {l : Launch} {p : Program} {e : Env} {s : State} {m : MethodId} {args : Array Value} {below : List Frame} {meth : Method} {c : Code} {E : En0} {L : List Nat} (hL : Cov 0 54 L) (C : Cx E L "PlankBridge$Ways" cX8_improve 8 p s m args c) (hr : meth.sig.returnType = (some .boolean)) (hlk : meth.locks = false) {b : Nat} {p1 : Int32} {p2 : Int32} {Q : Int32 → St → Prop} (hb : kd b = 7) : ∀ (n : Nat) (v1 : Int32) (v2 : Int32) (v3 : Int32) (v4 : Int32) (v5 : Int32) (st : St) (H : Heap) (locs : List Loc) (ls : Array Slot), lp (fun R s => wX8_improve_L13 b p1 p2 R s.1 s.2.1 s.2.2.1 s.2.2.2.1 s.2.2.2.2.1 s.2.2.2.2.2 Q) n (v1, v2, v3, v4, v5, st) → lv_has ls 8 [(0, .ref (E.2.1 b)), (1, .int v1), (2, .int v2), (3, .int v3), (4, .int v4), (5, .int v5)] → va_P E.1 vwCl (wd E L st) H → va_S (fA E L s.heap.size) s.heap H locs → W p l e rmX8_improve s m args below meth c H locs 0 0 (MQ below (zI E L (fun r u => bz r ∧ Q r u) (fA E L s.heap.size)) args s rmX8_improve.cells rmX8_improve.slots (fA E L s.heap.size)) (F0 m 13 ls []) := by
  intro n
  induction n with
  | zero => exact fun _ _ _ _ _ _ _ _ _ h _ _ _ => False.elim ‹_›
  | succ n ih =>
    intro v1 v2 v3 v4 v5 st  H locs ls h hl hP hS
    have hR13 := ih
    replace h : wX8_improve_L13 b p1 p2 (lp (fun R s => wX8_improve_L13 b p1 p2 R s.1 s.2.1 s.2.2.1 s.2.2.2.1 s.2.2.2.2.1 s.2.2.2.2.2 Q) n) v1 v2 v3 v4 v5 st Q := h
    unfold wX8_improve_L13 at h
    refine lv_iload C.1 C.2.1 dX8_improve_13 (lv_at hl 5 rfl) ?_
    refine lv_aload_n C.1 C.2.1 dX8_improve_15 rfl (lv_at hl 0 rfl) ?_
    refine gf7_0 C hP hb (m7 hb hL) q381 dX8_improve_16 ?_
    refine gn2_0 C hP (show kd 4 = 2 from rfl) (hL 4 (Nat.le_of_ble_eq_true rfl) (Nat.le_of_ble_eq_true rfl)) q290 dX8_improve_19 ?_
    refine lv_icmp_ge C.1 C.2.1 (tgt := 77) dX8_improve_22 (by decide) (fun hc => ?_) (fun hc => ?_)
    · have h := h.1 hc
      refine lv_iload_n C.1 C.2.1 dX8_improve_77 rfl (lv_at hl 2 rfl) ?_
      refine lv_if_eq C.1 C.2.1 (tgt := 89) dX8_improve_78 (by decide) (fun hc => ?_) (fun hc => ?_)
      · have h := h.1 hc
        refine lv_iload_n C.1 C.2.1 dX8_improve_89 rfl (lv_at hl 1 rfl) ?_
        refine lv_iconst C.1 C.2.1 (v := 2) dX8_improve_90 rfl ?_
        refine lv_imul C.1 C.2.1 dX8_improve_91  ?_
        exact tX8_improve_L92 hL C hr hlk hb _ _ _ h (lv_sub hl [0, 3, 4] rfl) hP hS
      · have h := h.2 hc
        refine lv_iload_n C.1 C.2.1 dX8_improve_81 rfl (lv_at hl 1 rfl) ?_
        refine lv_iconst C.1 C.2.1 (v := 2) dX8_improve_82 rfl ?_
        refine lv_imul C.1 C.2.1 dX8_improve_83  ?_
        refine lv_iconst C.1 C.2.1 (v := 1) dX8_improve_84 rfl ?_
        refine lv_iadd C.1 C.2.1 dX8_improve_85  ?_
        refine lv_goto C.1 C.2.1 (tgt := 92) dX8_improve_86 (by decide) ?_
        exact tX8_improve_L92 hL C hr hlk hb _ _ _ h (lv_sub hl [0, 3, 4] rfl) hP hS
    · have h := h.2 hc
      refine lv_iload C.1 C.2.1 dX8_improve_25 (lv_at hl 5 rfl) ?_
      refine lv_istore C.1 C.2.1 dX8_improve_27 hl (Nat.le_of_ble_eq_true rfl) rfl (fun ls hl => ?_)
      have hl : lv_has ls 8 [(6, .int v5), (0, .ref (E.2.1 b)), (1, .int v1), (2, .int v2), (3, .int v3), (4, .int v4), (5, .int v5)] := hl
      obtain ⟨n, h⟩ := h
      exact tX8_improve_L29 hL C hr hlk hb hR13 n v1 v2 v3 v4 v5 v5 st _ _ _ h (lv_sub hl [1, 2, 3, 4, 5, 6, 0] rfl) hP hS
set_option maxHeartbeats 4000000 in
set_option maxRecDepth 100000 in
theorem tX8_improve {l : Launch} {E : En0} {L : List Nat} (hE : EK E L) (hL : Cov 0 54 L) {b : Nat} {p1 : Int32} {p2 : Int32} {st : St} {Q : Int32 → St → Prop} (hb : kd b = 7) (h : wX8_improve b p1 p2 st Q) : Mz l yX8_improve cX8_improve 8 (some .boolean) rmX8_improve E L [.ref (E.2.1 b), .int p1, .int p2] st (zI E L (fun r u => bz r ∧ Q r u)) := by
  refine Mz.of hE (by decide) (Nat.le_of_ble_eq_true rfl) ?_
  intro p e s m below meth c ls C hr hlk _ hl hP
  replace C : Cx E L "PlankBridge$Ways" cX8_improve 8 p s m _ c := C
  have hS : va_S (fA E L s.heap.size) s.heap s.heap [] := va_S.rf
  replace hl : lv_has ls 8 [(0, .ref (E.2.1 b)), (1, .int p1), (2, .int p2)] := hl
  unfold wX8_improve at h
  refine lv_aload_n C.1 C.2.1 dX8_improve_0 rfl (lv_at hl 0 rfl) ?_
  refine lv_iload_n C.1 C.2.1 dX8_improve_1 rfl (lv_at hl 1 rfl) ?_
  refine lv_iload_n C.1 C.2.1 dX8_improve_2 rfl (lv_at hl 2 rfl) ?_
  refine z_ki hS (z_runV (As := [.int p1, .int p2]) (rest := []) C hP hS (m7 hb hL) (e7 hb) rfl (tX8_known C.2.2.2.2.2.2.1 (hL.mo (Nat.le_of_ble_eq_true rfl) (Nat.le_of_ble_eq_true rfl)) hb h) q799 q801 q16 q114 q802 hdX8_known ⟨Nat.le_of_ble_eq_true rfl, Nat.le_of_ble_eq_true rfl⟩ ⟨Nat.zero_le _, Nat.zero_le _⟩ rfl hl.1 rfl (lv_room (Nat.le_of_ble_eq_true rfl)) dX8_improve_3) (fun r2 st1 H locs h hP hS => ?_)
  refine lv_istore_n C.1 C.2.1 dX8_improve_6 rfl hl (Nat.le_of_ble_eq_true rfl) rfl (fun ls hl => ?_)
  have hl : lv_has ls 8 [(3, .int r2), (0, .ref (E.2.1 b)), (1, .int p1), (2, .int p2)] := hl
  refine lv_iconst C.1 C.2.1 (v := 0) dX8_improve_7 rfl ?_
  refine lv_istore C.1 C.2.1 dX8_improve_8 hl (Nat.le_of_ble_eq_true rfl) rfl (fun ls hl => ?_)
  have hl : lv_has ls 8 [(4, .int 0), (3, .int r2), (0, .ref (E.2.1 b)), (1, .int p1), (2, .int p2)] := hl
  refine lv_iconst C.1 C.2.1 (v := 0) dX8_improve_10 rfl ?_
  refine lv_istore C.1 C.2.1 dX8_improve_11 hl (Nat.le_of_ble_eq_true rfl) rfl (fun ls hl => ?_)
  have hl : lv_has ls 8 [(5, .int 0), (4, .int 0), (3, .int r2), (0, .ref (E.2.1 b)), (1, .int p1), (2, .int p2)] := hl
  obtain ⟨n, h⟩ := h
  exact tX8_improve_L13 hL C hr hlk hb n p1 p2 r2 0 0 st1 _ _ _ h (lv_sub hl [3, 4, 5, 2, 1, 0] rfl) hP hS
def rmX8_improveAll : Room := { frames := 4, cells := 0, slots := 0, locals := 97 }
def wX8_improveAll_L53 (b : Nat) (R14 : Int32 × Int32 × Int32 × St → Prop) (R28 : Int32 × Int32 × Int32 × Int32 × St → Prop) (v1 : Int32) (v2 : Int32) (v3 : Int32) (v4 : Int32) (st : St) (Q : Int32 → St → Prop) : Prop :=
  (∀ x13 : Int32, x13 = v4 + 1 → R28 (v1, v2, v3, x13, st))
def wX8_improveAll_L89 (b : Nat) (R14 : Int32 × Int32 × Int32 × St → Prop) (R62 : Int32 × Int32 × Int32 × Int32 × St → Prop) (v1 : Int32) (v2 : Int32) (v3 : Int32) (v4 : Int32) (st : St) (Q : Int32 → St → Prop) : Prop :=
  (∀ x14 : Int32, x14 = v4 + 1 → R62 (v1, v2, v3, x14, st))
def wX8_improveAll_L62 (b : Nat) (R14 : Int32 × Int32 × Int32 × St → Prop) (R62 : Int32 × Int32 × Int32 × Int32 × St → Prop) (v1 : Int32) (v2 : Int32) (v3 : Int32) (v4 : Int32) (st : St) (Q : Int32 → St → Prop) : Prop :=
  ((v2 ≤ v4 → (∀ x7 : Int32, x7 = v3 + 1 → R14 (v1, v2, x7, st))) ∧ (¬ v2 ≤ v4 → (wJ6_bitCount_0f7a4 v4 st (fun r9 st8 => ((¬ r9 = (v3 - 1) → wX8_improveAll_L89 b R14 R62 v1 v2 v3 v4 st8 Q) ∧ (r9 = (v3 - 1) → (wX8_improve b v4 0 st8 (fun r11 st10 => (∀ x12 : Int32, x12 = (v1 ||| r11) → wX8_improveAll_L89 b R14 R62 x12 v2 v3 v4 st10 Q)))))))))
def wX8_improveAll_L28 (b : Nat) (R14 : Int32 × Int32 × Int32 × St → Prop) (R28 : Int32 × Int32 × Int32 × Int32 × St → Prop) (v1 : Int32) (v2 : Int32) (v3 : Int32) (v4 : Int32) (st : St) (Q : Int32 → St → Prop) : Prop :=
  ((v2 ≤ v4 → (∃ n, lp (fun R s => wX8_improveAll_L62 b R14 R s.1 s.2.1 s.2.2.1 s.2.2.2.1 s.2.2.2.2 Q) n (v1, v2, v3, 1, st))) ∧ (¬ v2 ≤ v4 → (wJ6_bitCount_0f7a4 v4 st (fun r3 st2 => ((¬ r3 = v3 → wX8_improveAll_L53 b R14 R28 v1 v2 v3 v4 st2 Q) ∧ (r3 = v3 → (wX8_improve b v4 1 st2 (fun r5 st4 => (∀ x6 : Int32, x6 = (v1 ||| r5) → wX8_improveAll_L53 b R14 R28 x6 v2 v3 v4 st4 Q)))))))))
def wX8_improveAll_L14 (b : Nat)  (R14 : Int32 × Int32 × Int32 × St → Prop) (v1 : Int32) (v2 : Int32) (v3 : Int32) (st : St) (Q : Int32 → St → Prop) : Prop :=
  (((gI st 4 0) < v3 → (bz v1 ∧ Q v1 st)) ∧ (¬ (gI st 4 0) < v3 → (∃ n, lp (fun R s => wX8_improveAll_L28 b R14 R s.1 s.2.1 s.2.2.1 s.2.2.2.1 s.2.2.2.2 Q) n (v1, v2, v3, 1, st))))
def wX8_improveAll (b : Nat) (st : St) (Q : Int32 → St → Prop) : Prop :=
  (∀ x1 : Int32, x1 = ((1 : Int32) <<< ((gI st 4 0) &&& 31)) → (∃ n, lp (fun R s => wX8_improveAll_L14 b R s.1 s.2.1 s.2.2.1 s.2.2.2 Q) n (0, x1, 1, st)))
theorem hdX8_improveAll : yX8_improveAll.cls = "PlankBridge$Ways" ∧ yX8_improveAll.cls ≠ "java/lang/invoke/MethodHandle" ∧ yX8_improveAll.cls ≠ "java/lang/invoke/VarHandle" ∧ (parseMethodDescriptor yX8_improveAll.desc).map (fun d => d.parameters.length) = some 0 := by decide +kernel
set_option maxHeartbeats 4000000 in
set_option maxRecDepth 100000 in
theorem tX8_improveAll_L53 {l : Launch} {p : Program} {e : Env} {s : State} {m : MethodId} {args : Array Value} {below : List Frame} {meth : Method} {c : Code} {E : En0} {L : List Nat} (hL : Cov 0 54 L) (C : Cx E L "PlankBridge$Ways" cX8_improveAll 5 p s m args c) (hr : meth.sig.returnType = (some .boolean)) (hlk : meth.locks = false) {b : Nat} {Q : Int32 → St → Prop} (hb : kd b = 7) {R14 : Int32 × Int32 × Int32 × St → Prop} (hR14 : ∀ (v1 : Int32) (v2 : Int32) (v3 : Int32) (st : St), ∀ (H : Heap) (locs : List Loc) (ls : Array Slot), R14 (v1, v2, v3, st) → lv_has ls 5 [(0, .ref (E.2.1 b)), (1, .int v1), (2, .int v2), (3, .int v3)] → va_P E.1 vwCl (wd E L st) H → va_S (fA E L s.heap.size) s.heap H locs → W p l e rmX8_improveAll s m args below meth c H locs 0 0 (MQ below (zI E L (fun r u => bz r ∧ Q r u) (fA E L s.heap.size)) args s rmX8_improveAll.cells rmX8_improveAll.slots (fA E L s.heap.size)) (F0 m 14 ls [])) {R28 : Int32 × Int32 × Int32 × Int32 × St → Prop} (hR28 : ∀ (v1 : Int32) (v2 : Int32) (v3 : Int32) (v4 : Int32) (st : St), ∀ (H : Heap) (locs : List Loc) (ls : Array Slot), R28 (v1, v2, v3, v4, st) → lv_has ls 5 [(0, .ref (E.2.1 b)), (1, .int v1), (2, .int v2), (3, .int v3), (4, .int v4)] → va_P E.1 vwCl (wd E L st) H → va_S (fA E L s.heap.size) s.heap H locs → W p l e rmX8_improveAll s m args below meth c H locs 0 0 (MQ below (zI E L (fun r u => bz r ∧ Q r u) (fA E L s.heap.size)) args s rmX8_improveAll.cells rmX8_improveAll.slots (fA E L s.heap.size)) (F0 m 28 ls [])) {v1 : Int32} {v2 : Int32} {v3 : Int32} {v4 : Int32}  {st : St} (H : Heap) (locs : List Loc) (ls : Array Slot) (h : wX8_improveAll_L53 b R14 R28 v1 v2 v3 v4 st Q) (hl : lv_has ls 5 [(0, .ref (E.2.1 b)), (1, .int v1), (2, .int v2), (3, .int v3), (4, .int v4)]) (hP : va_P E.1 vwCl (wd E L st) H) (hS : va_S (fA E L s.heap.size) s.heap H locs) : W p l e rmX8_improveAll s m args below meth c H locs 0 0 (MQ below (zI E L (fun r u => bz r ∧ Q r u) (fA E L s.heap.size)) args s rmX8_improveAll.cells rmX8_improveAll.slots (fA E L s.heap.size)) (F0 m 53 ls []) := by
  unfold wX8_improveAll_L53 at h
  obtain ⟨x13, ex13⟩ : ∃ z, z = v4 + 1 := ⟨_, rfl⟩
  have h := h x13 ex13
  refine lv_iinc C.1 C.2.1 dX8_improveAll_53 hl (k := 4) rfl ex13.symm (Nat.le_of_ble_eq_true rfl) rfl (fun ls hl => ?_)
  have hl : lv_has ls 5 [(4, .int x13), (0, .ref (E.2.1 b)), (1, .int v1), (2, .int v2), (3, .int v3)] := hl
  refine lv_goto C.1 C.2.1 (tgt := 28) dX8_improveAll_56 (by decide) ?_
  exact hR28 v1 v2 v3 x13 st _ _ _ h (lv_sub hl [1, 2, 3, 4, 0] rfl) hP hS
set_option maxHeartbeats 4000000 in
set_option maxRecDepth 100000 in
theorem tX8_improveAll_L89 {l : Launch} {p : Program} {e : Env} {s : State} {m : MethodId} {args : Array Value} {below : List Frame} {meth : Method} {c : Code} {E : En0} {L : List Nat} (hL : Cov 0 54 L) (C : Cx E L "PlankBridge$Ways" cX8_improveAll 5 p s m args c) (hr : meth.sig.returnType = (some .boolean)) (hlk : meth.locks = false) {b : Nat} {Q : Int32 → St → Prop} (hb : kd b = 7) {R14 : Int32 × Int32 × Int32 × St → Prop} (hR14 : ∀ (v1 : Int32) (v2 : Int32) (v3 : Int32) (st : St), ∀ (H : Heap) (locs : List Loc) (ls : Array Slot), R14 (v1, v2, v3, st) → lv_has ls 5 [(0, .ref (E.2.1 b)), (1, .int v1), (2, .int v2), (3, .int v3)] → va_P E.1 vwCl (wd E L st) H → va_S (fA E L s.heap.size) s.heap H locs → W p l e rmX8_improveAll s m args below meth c H locs 0 0 (MQ below (zI E L (fun r u => bz r ∧ Q r u) (fA E L s.heap.size)) args s rmX8_improveAll.cells rmX8_improveAll.slots (fA E L s.heap.size)) (F0 m 14 ls [])) {R62 : Int32 × Int32 × Int32 × Int32 × St → Prop} (hR62 : ∀ (v1 : Int32) (v2 : Int32) (v3 : Int32) (v4 : Int32) (st : St), ∀ (H : Heap) (locs : List Loc) (ls : Array Slot), R62 (v1, v2, v3, v4, st) → lv_has ls 5 [(0, .ref (E.2.1 b)), (1, .int v1), (2, .int v2), (3, .int v3), (4, .int v4)] → va_P E.1 vwCl (wd E L st) H → va_S (fA E L s.heap.size) s.heap H locs → W p l e rmX8_improveAll s m args below meth c H locs 0 0 (MQ below (zI E L (fun r u => bz r ∧ Q r u) (fA E L s.heap.size)) args s rmX8_improveAll.cells rmX8_improveAll.slots (fA E L s.heap.size)) (F0 m 62 ls [])) {v1 : Int32} {v2 : Int32} {v3 : Int32} {v4 : Int32}  {st : St} (H : Heap) (locs : List Loc) (ls : Array Slot) (h : wX8_improveAll_L89 b R14 R62 v1 v2 v3 v4 st Q) (hl : lv_has ls 5 [(0, .ref (E.2.1 b)), (1, .int v1), (2, .int v2), (3, .int v3), (4, .int v4)]) (hP : va_P E.1 vwCl (wd E L st) H) (hS : va_S (fA E L s.heap.size) s.heap H locs) : W p l e rmX8_improveAll s m args below meth c H locs 0 0 (MQ below (zI E L (fun r u => bz r ∧ Q r u) (fA E L s.heap.size)) args s rmX8_improveAll.cells rmX8_improveAll.slots (fA E L s.heap.size)) (F0 m 89 ls []) := by
  unfold wX8_improveAll_L89 at h
  obtain ⟨x14, ex14⟩ : ∃ z, z = v4 + 1 := ⟨_, rfl⟩
  have h := h x14 ex14
  refine lv_iinc C.1 C.2.1 dX8_improveAll_89 hl (k := 4) rfl ex14.symm (Nat.le_of_ble_eq_true rfl) rfl (fun ls hl => ?_)
  have hl : lv_has ls 5 [(4, .int x14), (0, .ref (E.2.1 b)), (1, .int v1), (2, .int v2), (3, .int v3)] := hl
  refine lv_goto C.1 C.2.1 (tgt := 62) dX8_improveAll_92 (by decide) ?_
  exact hR62 v1 v2 v3 x14 st _ _ _ h (lv_sub hl [1, 2, 3, 4, 0] rfl) hP hS
set_option maxHeartbeats 4000000 in
set_option maxRecDepth 100000 in
theorem tX8_improveAll_L62 {l : Launch} {p : Program} {e : Env} {s : State} {m : MethodId} {args : Array Value} {below : List Frame} {meth : Method} {c : Code} {E : En0} {L : List Nat} (hL : Cov 0 54 L) (C : Cx E L "PlankBridge$Ways" cX8_improveAll 5 p s m args c) (hr : meth.sig.returnType = (some .boolean)) (hlk : meth.locks = false) {b : Nat} {Q : Int32 → St → Prop} (hb : kd b = 7) {R14 : Int32 × Int32 × Int32 × St → Prop} (hR14 : ∀ (v1 : Int32) (v2 : Int32) (v3 : Int32) (st : St), ∀ (H : Heap) (locs : List Loc) (ls : Array Slot), R14 (v1, v2, v3, st) → lv_has ls 5 [(0, .ref (E.2.1 b)), (1, .int v1), (2, .int v2), (3, .int v3)] → va_P E.1 vwCl (wd E L st) H → va_S (fA E L s.heap.size) s.heap H locs → W p l e rmX8_improveAll s m args below meth c H locs 0 0 (MQ below (zI E L (fun r u => bz r ∧ Q r u) (fA E L s.heap.size)) args s rmX8_improveAll.cells rmX8_improveAll.slots (fA E L s.heap.size)) (F0 m 14 ls [])) : ∀ (n : Nat) (v1 : Int32) (v2 : Int32) (v3 : Int32) (v4 : Int32) (st : St) (H : Heap) (locs : List Loc) (ls : Array Slot), lp (fun R s => wX8_improveAll_L62 b R14 R s.1 s.2.1 s.2.2.1 s.2.2.2.1 s.2.2.2.2 Q) n (v1, v2, v3, v4, st) → lv_has ls 5 [(0, .ref (E.2.1 b)), (1, .int v1), (2, .int v2), (3, .int v3), (4, .int v4)] → va_P E.1 vwCl (wd E L st) H → va_S (fA E L s.heap.size) s.heap H locs → W p l e rmX8_improveAll s m args below meth c H locs 0 0 (MQ below (zI E L (fun r u => bz r ∧ Q r u) (fA E L s.heap.size)) args s rmX8_improveAll.cells rmX8_improveAll.slots (fA E L s.heap.size)) (F0 m 62 ls []) := by
  intro n
  induction n with
  | zero => exact fun _ _ _ _ _ _ _ _ h _ _ _ => False.elim ‹_›
  | succ n ih =>
    intro v1 v2 v3 v4 st  H locs ls h hl hP hS
    have hR62 := ih
    replace h : wX8_improveAll_L62 b R14 (lp (fun R s => wX8_improveAll_L62 b R14 R s.1 s.2.1 s.2.2.1 s.2.2.2.1 s.2.2.2.2 Q) n) v1 v2 v3 v4 st Q := h
    unfold wX8_improveAll_L62 at h
    refine lv_iload C.1 C.2.1 dX8_improveAll_62 (lv_at hl 4 rfl) ?_
    refine lv_iload_n C.1 C.2.1 dX8_improveAll_64 rfl (lv_at hl 2 rfl) ?_
    refine lv_icmp_ge C.1 C.2.1 (tgt := 95) dX8_improveAll_65 (by decide) (fun hc => ?_) (fun hc => ?_)
    · have h := h.1 hc
      obtain ⟨x7, ex7⟩ : ∃ z, z = v3 + 1 := ⟨_, rfl⟩
      have h := h x7 ex7
      refine lv_iinc C.1 C.2.1 dX8_improveAll_95 hl (k := 3) rfl ex7.symm (Nat.le_of_ble_eq_true rfl) rfl (fun ls hl => ?_)
      have hl : lv_has ls 5 [(3, .int x7), (0, .ref (E.2.1 b)), (1, .int v1), (2, .int v2), (4, .int v4)] := hl
      refine lv_goto C.1 C.2.1 (tgt := 14) dX8_improveAll_98 (by decide) ?_
      exact hR14 v1 v2 x7 st _ _ _ h (lv_sub hl [1, 2, 3, 0] rfl) hP hS
    · have h := h.2 hc
      refine lv_iload C.1 C.2.1 dX8_improveAll_68 (lv_at hl 4 rfl) ?_
      refine z_ki hS (z_runS (As := [.int v4]) (rest := []) C hP hS (tJ6_bitCount_0f7a4 C.2.2.2.2.2.2.1 (hL.mo (Nat.le_of_ble_eq_true rfl) (Nat.le_of_ble_eq_true rfl))  h) q794 q717 q131 q718 hdJ6_bitCount_0f7a4 ⟨Nat.le_of_ble_eq_true rfl, Nat.le_of_ble_eq_true rfl⟩ ⟨Nat.zero_le _, Nat.zero_le _⟩ rfl hl.1 rfl (lv_room (Nat.le_of_ble_eq_true rfl)) dX8_improveAll_70) (fun r9 st8 H locs h hP hS => ?_)
      refine lv_iload_n C.1 C.2.1 dX8_improveAll_73 rfl (lv_at hl 3 rfl) ?_
      refine lv_iconst C.1 C.2.1 (v := 1) dX8_improveAll_74 rfl ?_
      refine lv_isub C.1 C.2.1 dX8_improveAll_75  ?_
      refine lv_icmp_ne C.1 C.2.1 (tgt := 89) dX8_improveAll_76 (by decide) (fun hc => ?_) (fun hc => ?_)
      · have h := h.1 hc
        exact tX8_improveAll_L89 hL C hr hlk hb hR14 hR62 _ _ _ h hl hP hS
      · have h := h.2 hc
        refine lv_iload_n C.1 C.2.1 dX8_improveAll_79 rfl (lv_at hl 1 rfl) ?_
        refine lv_aload_n C.1 C.2.1 dX8_improveAll_80 rfl (lv_at hl 0 rfl) ?_
        refine lv_iload C.1 C.2.1 dX8_improveAll_81 (lv_at hl 4 rfl) ?_
        refine lv_iconst C.1 C.2.1 (v := 0) dX8_improveAll_83 rfl ?_
        refine z_ki hS (z_runV (As := [.int v4, .int 0]) (rest := [.int v1]) C hP hS (m7 hb hL) (e7 hb) rfl (tX8_improve C.2.2.2.2.2.2.1 (hL.mo (Nat.le_of_ble_eq_true rfl) (Nat.le_of_ble_eq_true rfl)) hb h) q795 q797 q15 q114 q798 hdX8_improve ⟨Nat.le_of_ble_eq_true rfl, Nat.le_of_ble_eq_true rfl⟩ ⟨Nat.zero_le _, Nat.zero_le _⟩ rfl hl.1 rfl (lv_room (Nat.le_of_ble_eq_true rfl)) dX8_improveAll_84) (fun r11 st10 H locs h hP hS => ?_)
        obtain ⟨hr11, h⟩ := h
        refine lv_ior C.1 C.2.1 dX8_improveAll_87  ?_
        refine lv_topi (fun x12 ex12 => ?_)
        have h := h x12 ex12
        refine lv_istore_n C.1 C.2.1 dX8_improveAll_88 rfl hl (Nat.le_of_ble_eq_true rfl) rfl (fun ls hl => ?_)
        have hl : lv_has ls 5 [(1, .int x12), (0, .ref (E.2.1 b)), (2, .int v2), (3, .int v3), (4, .int v4)] := hl
        exact tX8_improveAll_L89 hL C hr hlk hb hR14 hR62 _ _ _ h (lv_sub hl [1, 0, 2, 3, 4] rfl) hP hS
set_option maxHeartbeats 4000000 in
set_option maxRecDepth 100000 in
theorem tX8_improveAll_L28 {l : Launch} {p : Program} {e : Env} {s : State} {m : MethodId} {args : Array Value} {below : List Frame} {meth : Method} {c : Code} {E : En0} {L : List Nat} (hL : Cov 0 54 L) (C : Cx E L "PlankBridge$Ways" cX8_improveAll 5 p s m args c) (hr : meth.sig.returnType = (some .boolean)) (hlk : meth.locks = false) {b : Nat} {Q : Int32 → St → Prop} (hb : kd b = 7) {R14 : Int32 × Int32 × Int32 × St → Prop} (hR14 : ∀ (v1 : Int32) (v2 : Int32) (v3 : Int32) (st : St), ∀ (H : Heap) (locs : List Loc) (ls : Array Slot), R14 (v1, v2, v3, st) → lv_has ls 5 [(0, .ref (E.2.1 b)), (1, .int v1), (2, .int v2), (3, .int v3)] → va_P E.1 vwCl (wd E L st) H → va_S (fA E L s.heap.size) s.heap H locs → W p l e rmX8_improveAll s m args below meth c H locs 0 0 (MQ below (zI E L (fun r u => bz r ∧ Q r u) (fA E L s.heap.size)) args s rmX8_improveAll.cells rmX8_improveAll.slots (fA E L s.heap.size)) (F0 m 14 ls [])) : ∀ (n : Nat) (v1 : Int32) (v2 : Int32) (v3 : Int32) (v4 : Int32) (st : St) (H : Heap) (locs : List Loc) (ls : Array Slot), lp (fun R s => wX8_improveAll_L28 b R14 R s.1 s.2.1 s.2.2.1 s.2.2.2.1 s.2.2.2.2 Q) n (v1, v2, v3, v4, st) → lv_has ls 5 [(0, .ref (E.2.1 b)), (1, .int v1), (2, .int v2), (3, .int v3), (4, .int v4)] → va_P E.1 vwCl (wd E L st) H → va_S (fA E L s.heap.size) s.heap H locs → W p l e rmX8_improveAll s m args below meth c H locs 0 0 (MQ below (zI E L (fun r u => bz r ∧ Q r u) (fA E L s.heap.size)) args s rmX8_improveAll.cells rmX8_improveAll.slots (fA E L s.heap.size)) (F0 m 28 ls []) := by
  intro n
  induction n with
  | zero => exact fun _ _ _ _ _ _ _ _ h _ _ _ => False.elim ‹_›
  | succ n ih =>
    intro v1 v2 v3 v4 st  H locs ls h hl hP hS
    have hR28 := ih
    replace h : wX8_improveAll_L28 b R14 (lp (fun R s => wX8_improveAll_L28 b R14 R s.1 s.2.1 s.2.2.1 s.2.2.2.1 s.2.2.2.2 Q) n) v1 v2 v3 v4 st Q := h
    unfold wX8_improveAll_L28 at h
    refine lv_iload C.1 C.2.1 dX8_improveAll_28 (lv_at hl 4 rfl) ?_
    refine lv_iload_n C.1 C.2.1 dX8_improveAll_30 rfl (lv_at hl 2 rfl) ?_
    refine lv_icmp_ge C.1 C.2.1 (tgt := 59) dX8_improveAll_31 (by decide) (fun hc => ?_) (fun hc => ?_)
    · have h := h.1 hc
      refine lv_iconst C.1 C.2.1 (v := 1) dX8_improveAll_59 rfl ?_
      refine lv_istore C.1 C.2.1 dX8_improveAll_60 hl (Nat.le_of_ble_eq_true rfl) rfl (fun ls hl => ?_)
      have hl : lv_has ls 5 [(4, .int 1), (0, .ref (E.2.1 b)), (1, .int v1), (2, .int v2), (3, .int v3)] := hl
      obtain ⟨n, h⟩ := h
      exact tX8_improveAll_L62 hL C hr hlk hb hR14 n v1 v2 v3 1 st _ _ _ h (lv_sub hl [1, 2, 3, 4, 0] rfl) hP hS
    · have h := h.2 hc
      refine lv_iload C.1 C.2.1 dX8_improveAll_34 (lv_at hl 4 rfl) ?_
      refine z_ki hS (z_runS (As := [.int v4]) (rest := []) C hP hS (tJ6_bitCount_0f7a4 C.2.2.2.2.2.2.1 (hL.mo (Nat.le_of_ble_eq_true rfl) (Nat.le_of_ble_eq_true rfl))  h) q794 q717 q131 q718 hdJ6_bitCount_0f7a4 ⟨Nat.le_of_ble_eq_true rfl, Nat.le_of_ble_eq_true rfl⟩ ⟨Nat.zero_le _, Nat.zero_le _⟩ rfl hl.1 rfl (lv_room (Nat.le_of_ble_eq_true rfl)) dX8_improveAll_36) (fun r3 st2 H locs h hP hS => ?_)
      refine lv_iload_n C.1 C.2.1 dX8_improveAll_39 rfl (lv_at hl 3 rfl) ?_
      refine lv_icmp_ne C.1 C.2.1 (tgt := 53) dX8_improveAll_40 (by decide) (fun hc => ?_) (fun hc => ?_)
      · have h := h.1 hc
        exact tX8_improveAll_L53 hL C hr hlk hb hR14 hR28 _ _ _ h hl hP hS
      · have h := h.2 hc
        refine lv_iload_n C.1 C.2.1 dX8_improveAll_43 rfl (lv_at hl 1 rfl) ?_
        refine lv_aload_n C.1 C.2.1 dX8_improveAll_44 rfl (lv_at hl 0 rfl) ?_
        refine lv_iload C.1 C.2.1 dX8_improveAll_45 (lv_at hl 4 rfl) ?_
        refine lv_iconst C.1 C.2.1 (v := 1) dX8_improveAll_47 rfl ?_
        refine z_ki hS (z_runV (As := [.int v4, .int 1]) (rest := [.int v1]) C hP hS (m7 hb hL) (e7 hb) rfl (tX8_improve C.2.2.2.2.2.2.1 (hL.mo (Nat.le_of_ble_eq_true rfl) (Nat.le_of_ble_eq_true rfl)) hb h) q795 q797 q15 q114 q798 hdX8_improve ⟨Nat.le_of_ble_eq_true rfl, Nat.le_of_ble_eq_true rfl⟩ ⟨Nat.zero_le _, Nat.zero_le _⟩ rfl hl.1 rfl (lv_room (Nat.le_of_ble_eq_true rfl)) dX8_improveAll_48) (fun r5 st4 H locs h hP hS => ?_)
        obtain ⟨hr5, h⟩ := h
        refine lv_ior C.1 C.2.1 dX8_improveAll_51  ?_
        refine lv_topi (fun x6 ex6 => ?_)
        have h := h x6 ex6
        refine lv_istore_n C.1 C.2.1 dX8_improveAll_52 rfl hl (Nat.le_of_ble_eq_true rfl) rfl (fun ls hl => ?_)
        have hl : lv_has ls 5 [(1, .int x6), (0, .ref (E.2.1 b)), (2, .int v2), (3, .int v3), (4, .int v4)] := hl
        exact tX8_improveAll_L53 hL C hr hlk hb hR14 hR28 _ _ _ h (lv_sub hl [1, 0, 2, 3, 4] rfl) hP hS
set_option maxHeartbeats 4000000 in
set_option maxRecDepth 100000 in
theorem tX8_improveAll_L14 {l : Launch} {p : Program} {e : Env} {s : State} {m : MethodId} {args : Array Value} {below : List Frame} {meth : Method} {c : Code} {E : En0} {L : List Nat} (hL : Cov 0 54 L) (C : Cx E L "PlankBridge$Ways" cX8_improveAll 5 p s m args c) (hr : meth.sig.returnType = (some .boolean)) (hlk : meth.locks = false) {b : Nat} {Q : Int32 → St → Prop} (hb : kd b = 7) : ∀ (n : Nat) (v1 : Int32) (v2 : Int32) (v3 : Int32) (st : St) (H : Heap) (locs : List Loc) (ls : Array Slot), lp (fun R s => wX8_improveAll_L14 b R s.1 s.2.1 s.2.2.1 s.2.2.2 Q) n (v1, v2, v3, st) → lv_has ls 5 [(0, .ref (E.2.1 b)), (1, .int v1), (2, .int v2), (3, .int v3)] → va_P E.1 vwCl (wd E L st) H → va_S (fA E L s.heap.size) s.heap H locs → W p l e rmX8_improveAll s m args below meth c H locs 0 0 (MQ below (zI E L (fun r u => bz r ∧ Q r u) (fA E L s.heap.size)) args s rmX8_improveAll.cells rmX8_improveAll.slots (fA E L s.heap.size)) (F0 m 14 ls []) := by
  intro n
  induction n with
  | zero => exact fun _ _ _ _ _ _ _ h _ _ _ => False.elim ‹_›
  | succ n ih =>
    intro v1 v2 v3 st  H locs ls h hl hP hS
    have hR14 := ih
    replace h : wX8_improveAll_L14 b (lp (fun R s => wX8_improveAll_L14 b R s.1 s.2.1 s.2.2.1 s.2.2.2 Q) n) v1 v2 v3 st Q := h
    unfold wX8_improveAll_L14 at h
    refine lv_iload_n C.1 C.2.1 dX8_improveAll_14 rfl (lv_at hl 3 rfl) ?_
    refine lv_aload_n C.1 C.2.1 dX8_improveAll_15 rfl (lv_at hl 0 rfl) ?_
    refine gf7_0 C hP hb (m7 hb hL) q381 dX8_improveAll_16 ?_
    refine gn2_0 C hP (show kd 4 = 2 from rfl) (hL 4 (Nat.le_of_ble_eq_true rfl) (Nat.le_of_ble_eq_true rfl)) q290 dX8_improveAll_19 ?_
    refine lv_icmp_gt C.1 C.2.1 (tgt := 101) dX8_improveAll_22 (by decide) (fun hc => ?_) (fun hc => ?_)
    · have h := h.1 hc
      refine lv_iload_n C.1 C.2.1 dX8_improveAll_101 rfl (lv_at hl 1 rfl) ?_
      exact z_ri C hr hlk (bz_n h.1) hP hS h dX8_improveAll_102
    · have h := h.2 hc
      refine lv_iconst C.1 C.2.1 (v := 1) dX8_improveAll_25 rfl ?_
      refine lv_istore C.1 C.2.1 dX8_improveAll_26 hl (Nat.le_of_ble_eq_true rfl) rfl (fun ls hl => ?_)
      have hl : lv_has ls 5 [(4, .int 1), (0, .ref (E.2.1 b)), (1, .int v1), (2, .int v2), (3, .int v3)] := hl
      obtain ⟨n, h⟩ := h
      exact tX8_improveAll_L28 hL C hr hlk hb hR14 n v1 v2 v3 1 st _ _ _ h (lv_sub hl [1, 2, 3, 4, 0] rfl) hP hS
set_option maxHeartbeats 4000000 in
set_option maxRecDepth 100000 in
theorem tX8_improveAll {l : Launch} {E : En0} {L : List Nat} (hE : EK E L) (hL : Cov 0 54 L) {b : Nat} {st : St} {Q : Int32 → St → Prop} (hb : kd b = 7) (h : wX8_improveAll b st Q) : Mz l yX8_improveAll cX8_improveAll 5 (some .boolean) rmX8_improveAll E L [.ref (E.2.1 b)] st (zI E L (fun r u => bz r ∧ Q r u)) := by
  refine Mz.of hE (by decide) (Nat.le_of_ble_eq_true rfl) ?_
  intro p e s m below meth c ls C hr hlk _ hl hP
  replace C : Cx E L "PlankBridge$Ways" cX8_improveAll 5 p s m _ c := C
  have hS : va_S (fA E L s.heap.size) s.heap s.heap [] := va_S.rf
  replace hl : lv_has ls 5 [(0, .ref (E.2.1 b))] := hl
  unfold wX8_improveAll at h
  refine lv_iconst C.1 C.2.1 (v := 0) dX8_improveAll_0 rfl ?_
  refine lv_istore_n C.1 C.2.1 dX8_improveAll_1 rfl hl (Nat.le_of_ble_eq_true rfl) rfl (fun ls hl => ?_)
  have hl : lv_has ls 5 [(1, .int 0), (0, .ref (E.2.1 b))] := hl
  refine lv_iconst C.1 C.2.1 (v := 1) dX8_improveAll_2 rfl ?_
  refine lv_aload_n C.1 C.2.1 dX8_improveAll_3 rfl (lv_at hl 1 rfl) ?_
  refine gf7_0 C hP hb (m7 hb hL) q381 dX8_improveAll_4 ?_
  refine gn2_0 C hP (show kd 4 = 2 from rfl) (hL 4 (Nat.le_of_ble_eq_true rfl) (Nat.le_of_ble_eq_true rfl)) q290 dX8_improveAll_7 ?_
  refine lv_ishl C.1 C.2.1 dX8_improveAll_10  ?_
  refine lv_topi (fun x1 ex1 => ?_)
  have h := h x1 ex1
  refine lv_istore_n C.1 C.2.1 dX8_improveAll_11 rfl hl (Nat.le_of_ble_eq_true rfl) rfl (fun ls hl => ?_)
  have hl : lv_has ls 5 [(2, .int x1), (1, .int 0), (0, .ref (E.2.1 b))] := hl
  refine lv_iconst C.1 C.2.1 (v := 1) dX8_improveAll_12 rfl ?_
  refine lv_istore_n C.1 C.2.1 dX8_improveAll_13 rfl hl (Nat.le_of_ble_eq_true rfl) rfl (fun ls hl => ?_)
  have hl : lv_has ls 5 [(3, .int 1), (2, .int x1), (1, .int 0), (0, .ref (E.2.1 b))] := hl
  obtain ⟨n, h⟩ := h
  exact tX8_improveAll_L14 hL C hr hlk hb n 0 x1 1 st _ _ _ h (lv_sub hl [3, 2, 1, 0] rfl) hP hS
def rmX8_prepare : Room := { frames := 5, cells := 0, slots := 0, locals := 121 }
def wX8_prepare_L35 (b : Nat)  (R35 : Int32 × Int32 × St → Prop) (v1 : Int32) (v2 : Int32) (st : St) (Q : St → Prop) : Prop :=
  ((512 ≤ v2 → (∀ st4, st4 = uI st b 2 1 → Q st4)) ∧ (¬ 512 ≤ v2 → ((v1 = 0 → (∀ st5, st5 = uI st b 2 1 → Q st5)) ∧ (¬ v1 = 0 → (wX8_improveAll b st (fun r7 st6 => (∀ x8 : Int32, x8 = v2 + 1 → R35 (r7, x8, st6))))))))
def wX8_prepare (b : Nat) (st : St) (Q : St → Prop) : Prop :=
  (((gI st b 2) = 0 → (wJ7_fill_53178 ((b + 1)) 1000000 st (fun st1 => (vp_in 0 512 ∧ ∀ st2, st2 = uI st1 (b + 1) (0 : Int32).toNatClampNeg 0 → (vp_in 1 512 ∧ ∀ st3, st3 = uI st2 (b + 1) (1 : Int32).toNatClampNeg 0 → (∃ n, lp (fun R s => wX8_prepare_L35 b R s.1 s.2.1 s.2.2 Q) n (1, 0, st3))))))) ∧ (¬ (gI st b 2) = 0 → Q st))
theorem hdX8_prepare : yX8_prepare.cls = "PlankBridge$Ways" ∧ yX8_prepare.cls ≠ "java/lang/invoke/MethodHandle" ∧ yX8_prepare.cls ≠ "java/lang/invoke/VarHandle" ∧ (parseMethodDescriptor yX8_prepare.desc).map (fun d => d.parameters.length) = some 0 := by decide +kernel
set_option maxHeartbeats 4000000 in
set_option maxRecDepth 100000 in
theorem tX8_prepare_L35 {l : Launch} {p : Program} {e : Env} {s : State} {m : MethodId} {args : Array Value} {below : List Frame} {meth : Method} {c : Code} {E : En0} {L : List Nat} (hL : Cov 0 54 L) (C : Cx E L "PlankBridge$Ways" cX8_prepare 3 p s m args c) (hr : meth.sig.returnType = none) (hlk : meth.locks = false) {b : Nat} {Q : St → Prop} (hb : kd b = 7) : ∀ (n : Nat) (v1 : Int32) (v2 : Int32) (st : St) (H : Heap) (locs : List Loc) (ls : Array Slot), lp (fun R s => wX8_prepare_L35 b R s.1 s.2.1 s.2.2 Q) n (v1, v2, st) → lv_has ls 3 [(0, .ref (E.2.1 b)), (1, .int v1), (2, .int v2)] → va_P E.1 vwCl (wd E L st) H → va_S (fA E L s.heap.size) s.heap H locs → W p l e rmX8_prepare s m args below meth c H locs 0 0 (MQ below (zV E L Q (fA E L s.heap.size)) args s rmX8_prepare.cells rmX8_prepare.slots (fA E L s.heap.size)) (F0 m 35 ls []) := by
  intro n
  induction n with
  | zero => exact fun _ _ _ _ _ _ h _ _ _ => False.elim ‹_›
  | succ n ih =>
    intro v1 v2 st  H locs ls h hl hP hS
    have hR35 := ih
    replace h : wX8_prepare_L35 b (lp (fun R s => wX8_prepare_L35 b R s.1 s.2.1 s.2.2 Q) n) v1 v2 st Q := h
    unfold wX8_prepare_L35 at h
    refine lv_iload_n C.1 C.2.1 dX8_prepare_35 rfl (lv_at hl 2 rfl) ?_
    refine lv_sipush C.1 C.2.1 (v := 512) dX8_prepare_36 rfl ?_
    refine lv_icmp_ge C.1 C.2.1 (tgt := 57) dX8_prepare_39 (by decide) (fun hc => ?_) (fun hc => ?_)
    · have h := h.1 hc
      refine lv_aload_n C.1 C.2.1 dX8_prepare_57 rfl (lv_at hl 0 rfl) ?_
      refine lv_iconst C.1 C.2.1 (v := 1) dX8_prepare_58 rfl ?_
      refine pf7_2 C hP hS hb (m7 hb hL) bz1 q383 dX8_prepare_59 (fun H locs hP hS => ?_)
      obtain ⟨st4, est4⟩ : ∃ z, z = uI st b 2 1 := ⟨_, rfl⟩
      rw [← est4] at hP; have h := h st4 est4
      exact z_rv C hr hlk hP hS h dX8_prepare_62
    · have h := h.2 hc
      refine lv_iload_n C.1 C.2.1 dX8_prepare_42 rfl (lv_at hl 1 rfl) ?_
      refine lv_if_eq C.1 C.2.1 (tgt := 57) dX8_prepare_43 (by decide) (fun hc => ?_) (fun hc => ?_)
      · have h := h.1 hc
        refine lv_aload_n C.1 C.2.1 dX8_prepare_57 rfl (lv_at hl 0 rfl) ?_
        refine lv_iconst C.1 C.2.1 (v := 1) dX8_prepare_58 rfl ?_
        refine pf7_2 C hP hS hb (m7 hb hL) bz1 q383 dX8_prepare_59 (fun H locs hP hS => ?_)
        obtain ⟨st5, est5⟩ : ∃ z, z = uI st b 2 1 := ⟨_, rfl⟩
        rw [← est5] at hP; have h := h st5 est5
        exact z_rv C hr hlk hP hS h dX8_prepare_62
      · have h := h.2 hc
        refine lv_aload_n C.1 C.2.1 dX8_prepare_46 rfl (lv_at hl 0 rfl) ?_
        refine z_ki hS (z_runV (As := []) (rest := []) C hP hS (m7 hb hL) (e7 hb) rfl (tX8_improveAll C.2.2.2.2.2.2.1 (hL.mo (Nat.le_of_ble_eq_true rfl) (Nat.le_of_ble_eq_true rfl)) hb h) q790 q792 q14 q114 q793 hdX8_improveAll ⟨Nat.le_of_ble_eq_true rfl, Nat.le_of_ble_eq_true rfl⟩ ⟨Nat.zero_le _, Nat.zero_le _⟩ rfl hl.1 rfl (lv_room (Nat.le_of_ble_eq_true rfl)) dX8_prepare_47) (fun r7 st6 H locs h hP hS => ?_)
        obtain ⟨hr7, h⟩ := h
        refine lv_istore_n C.1 C.2.1 dX8_prepare_50 rfl hl (Nat.le_of_ble_eq_true rfl) rfl (fun ls hl => ?_)
        have hl : lv_has ls 3 [(1, .int r7), (0, .ref (E.2.1 b)), (2, .int v2)] := hl
        obtain ⟨x8, ex8⟩ : ∃ z, z = v2 + 1 := ⟨_, rfl⟩
        have h := h x8 ex8
        refine lv_iinc C.1 C.2.1 dX8_prepare_51 hl (k := 2) rfl ex8.symm (Nat.le_of_ble_eq_true rfl) rfl (fun ls hl => ?_)
        have hl : lv_has ls 3 [(2, .int x8), (1, .int r7), (0, .ref (E.2.1 b))] := hl
        refine lv_goto C.1 C.2.1 (tgt := 35) dX8_prepare_54 (by decide) ?_
        exact hR35 r7 x8 st6 _ _ _ h (lv_sub hl [2, 1, 0] rfl) hP hS
set_option maxHeartbeats 4000000 in
set_option maxRecDepth 100000 in
theorem tX8_prepare {l : Launch} {E : En0} {L : List Nat} (hE : EK E L) (hL : Cov 0 54 L) {b : Nat} {st : St} {Q : St → Prop} (hb : kd b = 7) (h : wX8_prepare b st Q) : Mz l yX8_prepare cX8_prepare 3 none rmX8_prepare E L [.ref (E.2.1 b)] st (zV E L Q) := by
  refine Mz.of hE (by decide) (Nat.le_of_ble_eq_true rfl) ?_
  intro p e s m below meth c ls C hr hlk _ hl hP
  replace C : Cx E L "PlankBridge$Ways" cX8_prepare 3 p s m _ c := C
  have hS : va_S (fA E L s.heap.size) s.heap s.heap [] := va_S.rf
  replace hl : lv_has ls 3 [(0, .ref (E.2.1 b))] := hl
  unfold wX8_prepare at h
  refine lv_aload_n C.1 C.2.1 dX8_prepare_0 rfl (lv_at hl 0 rfl) ?_
  refine gf7_2 C hP hb (m7 hb hL) q383 dX8_prepare_1 ?_
  refine lv_if_eq C.1 C.2.1 (tgt := 8) dX8_prepare_4 (by decide) (fun hc => ?_) (fun hc => ?_)
  · have h := h.1 hc
    refine lv_aload_n C.1 C.2.1 dX8_prepare_8 rfl (lv_at hl 0 rfl) ?_
    refine gf7_1 C hP hb (m7 hb hL) q382 dX8_prepare_9 ?_
    refine lv_ldc C.1 C.2.1 C.2.2.2.1 (C.T q786) dX8_prepare_12 ?_
    refine z_kv hS (z_runS (As := [.ref (E.2.1 ((b + 1))), .int 1000000]) (rest := []) C hP hS (tJ7_fill_53178 C.2.2.2.2.2.2.1 (hL.mo (Nat.le_of_ble_eq_true rfl) (Nat.le_of_ble_eq_true rfl)) (k7_1 hb) (l7_1 hb) (m7_1 hb hL) h) q787 q788 q132 q789 hdJ7_fill_53178 ⟨Nat.le_of_ble_eq_true rfl, Nat.le_of_ble_eq_true rfl⟩ ⟨Nat.zero_le _, Nat.zero_le _⟩ rfl hl.1 rfl (lv_room (Nat.le_of_ble_eq_true rfl)) dX8_prepare_14) (fun st1 H locs h hP hS => ?_)
    refine lv_aload_n C.1 C.2.1 dX8_prepare_17 rfl (lv_at hl 0 rfl) ?_
    refine gf7_1 C hP hb (m7 hb hL) q382 dX8_prepare_18 ?_
    refine lv_iconst C.1 C.2.1 (v := 0) dX8_prepare_21 rfl ?_
    refine lv_iconst C.1 C.2.1 (v := 0) dX8_prepare_22 rfl ?_
    obtain ⟨hi, h⟩ := h
    refine z_iast C hP hS (k7_1 hb) (l7_1 hb) (m7_1 hb hL) hi dX8_prepare_23 (fun H locs hP hS => ?_)
    obtain ⟨st2, est2⟩ : ∃ z, z = uI st1 (b + 1) (0 : Int32).toNatClampNeg 0 := ⟨_, rfl⟩
    rw [← est2] at hP; have h := h st2 est2
    refine lv_aload_n C.1 C.2.1 dX8_prepare_24 rfl (lv_at hl 0 rfl) ?_
    refine gf7_1 C hP hb (m7 hb hL) q382 dX8_prepare_25 ?_
    refine lv_iconst C.1 C.2.1 (v := 1) dX8_prepare_28 rfl ?_
    refine lv_iconst C.1 C.2.1 (v := 0) dX8_prepare_29 rfl ?_
    obtain ⟨hi, h⟩ := h
    refine z_iast C hP hS (k7_1 hb) (l7_1 hb) (m7_1 hb hL) hi dX8_prepare_30 (fun H locs hP hS => ?_)
    obtain ⟨st3, est3⟩ : ∃ z, z = uI st2 (b + 1) (1 : Int32).toNatClampNeg 0 := ⟨_, rfl⟩
    rw [← est3] at hP; have h := h st3 est3
    refine lv_iconst C.1 C.2.1 (v := 1) dX8_prepare_31 rfl ?_
    refine lv_istore_n C.1 C.2.1 dX8_prepare_32 rfl hl (Nat.le_of_ble_eq_true rfl) rfl (fun ls hl => ?_)
    have hl : lv_has ls 3 [(1, .int 1), (0, .ref (E.2.1 b))] := hl
    refine lv_iconst C.1 C.2.1 (v := 0) dX8_prepare_33 rfl ?_
    refine lv_istore_n C.1 C.2.1 dX8_prepare_34 rfl hl (Nat.le_of_ble_eq_true rfl) rfl (fun ls hl => ?_)
    have hl : lv_has ls 3 [(2, .int 0), (1, .int 1), (0, .ref (E.2.1 b))] := hl
    obtain ⟨n, h⟩ := h
    exact tX8_prepare_L35 hL C hr hlk hb n 1 0 st3 _ _ _ h (lv_sub hl [2, 1, 0] rfl) hP hS
  · have h := h.2 hc
    exact z_rv C hr hlk hP hS h dX8_prepare_7
def rmX8_minutesLeft : Room := { frames := 6, cells := 0, slots := 0, locals := 143 }
def wX8_minutesLeft (b : Nat) (st : St) (Q : Int32 → St → Prop) : Prop :=
  (wX8_prepare b st (fun st1 => (wX8_known b (gI st1 4 3) (gI st1 4 7) st1 (fun r3 st2 => Q r3 st2))))
theorem hdX8_minutesLeft : yX8_minutesLeft.cls = "PlankBridge$Ways" ∧ yX8_minutesLeft.cls ≠ "java/lang/invoke/MethodHandle" ∧ yX8_minutesLeft.cls ≠ "java/lang/invoke/VarHandle" ∧ (parseMethodDescriptor yX8_minutesLeft.desc).map (fun d => d.parameters.length) = some 0 := by decide +kernel
set_option maxHeartbeats 4000000 in
set_option maxRecDepth 100000 in
theorem tX8_minutesLeft {l : Launch} {E : En0} {L : List Nat} (hE : EK E L) (hL : Cov 0 54 L) {b : Nat} {st : St} {Q : Int32 → St → Prop} (hb : kd b = 7) (h : wX8_minutesLeft b st Q) : Mz l yX8_minutesLeft cX8_minutesLeft 1 (some .int) rmX8_minutesLeft E L [.ref (E.2.1 b)] st (zI E L Q) := by
  refine Mz.of hE (by decide) (Nat.le_of_ble_eq_true rfl) ?_
  intro p e s m below meth c ls C hr hlk _ hl hP
  replace C : Cx E L "PlankBridge$Ways" cX8_minutesLeft 1 p s m _ c := C
  have hS : va_S (fA E L s.heap.size) s.heap s.heap [] := va_S.rf
  replace hl : lv_has ls 1 [(0, .ref (E.2.1 b))] := hl
  unfold wX8_minutesLeft at h
  refine lv_aload_n C.1 C.2.1 dX8_minutesLeft_0 rfl (lv_at hl 0 rfl) ?_
  refine z_kv hS (z_runV (As := []) (rest := []) C hP hS (m7 hb hL) (e7 hb) rfl (tX8_prepare C.2.2.2.2.2.2.1 (hL.mo (Nat.le_of_ble_eq_true rfl) (Nat.le_of_ble_eq_true rfl)) hb h) q782 q784 q13 q114 q785 hdX8_prepare ⟨Nat.le_of_ble_eq_true rfl, Nat.le_of_ble_eq_true rfl⟩ ⟨Nat.zero_le _, Nat.zero_le _⟩ rfl hl.1 rfl (lv_room (Nat.le_of_ble_eq_true rfl)) dX8_minutesLeft_1) (fun st1 H locs h hP hS => ?_)
  refine lv_aload_n C.1 C.2.1 dX8_minutesLeft_4 rfl (lv_at hl 0 rfl) ?_
  refine lv_aload_n C.1 C.2.1 dX8_minutesLeft_5 rfl (lv_at hl 0 rfl) ?_
  refine gf7_0 C hP hb (m7 hb hL) q381 dX8_minutesLeft_6 ?_
  refine gn2_3 C hP (show kd 4 = 2 from rfl) (hL 4 (Nat.le_of_ble_eq_true rfl) (Nat.le_of_ble_eq_true rfl)) q297 dX8_minutesLeft_9 ?_
  refine lv_aload_n C.1 C.2.1 dX8_minutesLeft_12 rfl (lv_at hl 0 rfl) ?_
  refine gf7_0 C hP hb (m7 hb hL) q381 dX8_minutesLeft_13 ?_
  refine gn2_7 C hP (show kd 4 = 2 from rfl) (hL 4 (Nat.le_of_ble_eq_true rfl) (Nat.le_of_ble_eq_true rfl)) q306 dX8_minutesLeft_16 ?_
  refine z_ki hS (z_runV (As := [.int (gI st1 4 3), .int (gI st1 4 7)]) (rest := []) C hP hS (m7 hb hL) (e7 hb) rfl (tX8_known C.2.2.2.2.2.2.1 (hL.mo (Nat.le_of_ble_eq_true rfl) (Nat.le_of_ble_eq_true rfl)) hb h) q799 q801 q16 q114 q802 hdX8_known ⟨Nat.le_of_ble_eq_true rfl, Nat.le_of_ble_eq_true rfl⟩ ⟨Nat.zero_le _, Nat.zero_le _⟩ rfl hl.1 rfl (lv_room (Nat.le_of_ble_eq_true rfl)) dX8_minutesLeft_19) (fun r3 st2 H locs h hP hS => ?_)
  exact z_ri C hr hlk rfl hP hS h dX8_minutesLeft_22
def rmX8_findFirst : Room := { frames := 6, cells := 0, slots := 0, locals := 143 }
def wX8_findFirst_L38 (b : Nat) (R25 : Int32 × Int32 × St → Prop) (R38 : Int32 × Int32 × Int32 × St → Prop) (v1 : Int32) (v2 : Int32) (v3 : Int32) (st : St) (Q : Int32 → St → Prop) : Prop :=
  (((gI st 4 0) ≤ v3 → (∀ x4 : Int32, x4 = v2 + 1 → R25 (v1, x4, st))) ∧ (¬ (gI st 4 0) ≤ v3 → (wX8_through b (gI st 4 3) (gI st 4 7) v2 v3 st (fun r6 st5 => ((¬ r6 = v1 → (∀ x7 : Int32, x7 = v3 + 1 → R38 (v1, v2, x7, st5))) ∧ (r6 = v1 → Q v2 st5))))))
def wX8_findFirst_L25 (b : Nat)  (R25 : Int32 × Int32 × St → Prop) (v1 : Int32) (v2 : Int32) (st : St) (Q : Int32 → St → Prop) : Prop :=
  (((gI st 4 0) ≤ v2 → Q (-1) st) ∧ (¬ (gI st 4 0) ≤ v2 → (∃ n, lp (fun R s => wX8_findFirst_L38 b R25 R s.1 s.2.1 s.2.2.1 s.2.2.2 Q) n (v1, v2, v2, st))))
def wX8_findFirst (b : Nat) (st : St) (Q : Int32 → St → Prop) : Prop :=
  (wX8_prepare b st (fun st1 => (wX8_known b (gI st1 4 3) (gI st1 4 7) st1 (fun r3 st2 => (∃ n, lp (fun R s => wX8_findFirst_L25 b R s.1 s.2.1 s.2.2 Q) n (r3, 0, st2))))))
theorem hdX8_findFirst : yX8_findFirst.cls = "PlankBridge$Ways" ∧ yX8_findFirst.cls ≠ "java/lang/invoke/MethodHandle" ∧ yX8_findFirst.cls ≠ "java/lang/invoke/VarHandle" ∧ (parseMethodDescriptor yX8_findFirst.desc).map (fun d => d.parameters.length) = some 0 := by decide +kernel
set_option maxHeartbeats 4000000 in
set_option maxRecDepth 100000 in
theorem tX8_findFirst_L38 {l : Launch} {p : Program} {e : Env} {s : State} {m : MethodId} {args : Array Value} {below : List Frame} {meth : Method} {c : Code} {E : En0} {L : List Nat} (hL : Cov 0 54 L) (C : Cx E L "PlankBridge$Ways" cX8_findFirst 4 p s m args c) (hr : meth.sig.returnType = (some .int)) (hlk : meth.locks = false) {b : Nat} {Q : Int32 → St → Prop} (hb : kd b = 7) {R25 : Int32 × Int32 × St → Prop} (hR25 : ∀ (v1 : Int32) (v2 : Int32) (st : St), ∀ (H : Heap) (locs : List Loc) (ls : Array Slot), R25 (v1, v2, st) → lv_has ls 4 [(0, .ref (E.2.1 b)), (1, .int v1), (2, .int v2)] → va_P E.1 vwCl (wd E L st) H → va_S (fA E L s.heap.size) s.heap H locs → W p l e rmX8_findFirst s m args below meth c H locs 0 0 (MQ below (zI E L Q (fA E L s.heap.size)) args s rmX8_findFirst.cells rmX8_findFirst.slots (fA E L s.heap.size)) (F0 m 25 ls [])) : ∀ (n : Nat) (v1 : Int32) (v2 : Int32) (v3 : Int32) (st : St) (H : Heap) (locs : List Loc) (ls : Array Slot), lp (fun R s => wX8_findFirst_L38 b R25 R s.1 s.2.1 s.2.2.1 s.2.2.2 Q) n (v1, v2, v3, st) → lv_has ls 4 [(0, .ref (E.2.1 b)), (1, .int v1), (2, .int v2), (3, .int v3)] → va_P E.1 vwCl (wd E L st) H → va_S (fA E L s.heap.size) s.heap H locs → W p l e rmX8_findFirst s m args below meth c H locs 0 0 (MQ below (zI E L Q (fA E L s.heap.size)) args s rmX8_findFirst.cells rmX8_findFirst.slots (fA E L s.heap.size)) (F0 m 38 ls []) := by
  intro n
  induction n with
  | zero => exact fun _ _ _ _ _ _ _ h _ _ _ => False.elim ‹_›
  | succ n ih =>
    intro v1 v2 v3 st  H locs ls h hl hP hS
    have hR38 := ih
    replace h : wX8_findFirst_L38 b R25 (lp (fun R s => wX8_findFirst_L38 b R25 R s.1 s.2.1 s.2.2.1 s.2.2.2 Q) n) v1 v2 v3 st Q := h
    unfold wX8_findFirst_L38 at h
    refine lv_iload_n C.1 C.2.1 dX8_findFirst_38 rfl (lv_at hl 3 rfl) ?_
    refine lv_aload_n C.1 C.2.1 dX8_findFirst_39 rfl (lv_at hl 0 rfl) ?_
    refine gf7_0 C hP hb (m7 hb hL) q381 dX8_findFirst_40 ?_
    refine gn2_0 C hP (show kd 4 = 2 from rfl) (hL 4 (Nat.le_of_ble_eq_true rfl) (Nat.le_of_ble_eq_true rfl)) q290 dX8_findFirst_43 ?_
    refine lv_icmp_ge C.1 C.2.1 (tgt := 81) dX8_findFirst_46 (by decide) (fun hc => ?_) (fun hc => ?_)
    · have h := h.1 hc
      obtain ⟨x4, ex4⟩ : ∃ z, z = v2 + 1 := ⟨_, rfl⟩
      have h := h x4 ex4
      refine lv_iinc C.1 C.2.1 dX8_findFirst_81 hl (k := 2) rfl ex4.symm (Nat.le_of_ble_eq_true rfl) rfl (fun ls hl => ?_)
      have hl : lv_has ls 4 [(2, .int x4), (0, .ref (E.2.1 b)), (1, .int v1), (3, .int v3)] := hl
      refine lv_goto C.1 C.2.1 (tgt := 25) dX8_findFirst_84 (by decide) ?_
      exact hR25 v1 x4 st _ _ _ h (lv_sub hl [1, 2, 0] rfl) hP hS
    · have h := h.2 hc
      refine lv_aload_n C.1 C.2.1 dX8_findFirst_49 rfl (lv_at hl 0 rfl) ?_
      refine lv_aload_n C.1 C.2.1 dX8_findFirst_50 rfl (lv_at hl 0 rfl) ?_
      refine gf7_0 C hP hb (m7 hb hL) q381 dX8_findFirst_51 ?_
      refine gn2_3 C hP (show kd 4 = 2 from rfl) (hL 4 (Nat.le_of_ble_eq_true rfl) (Nat.le_of_ble_eq_true rfl)) q297 dX8_findFirst_54 ?_
      refine lv_aload_n C.1 C.2.1 dX8_findFirst_57 rfl (lv_at hl 0 rfl) ?_
      refine gf7_0 C hP hb (m7 hb hL) q381 dX8_findFirst_58 ?_
      refine gn2_7 C hP (show kd 4 = 2 from rfl) (hL 4 (Nat.le_of_ble_eq_true rfl) (Nat.le_of_ble_eq_true rfl)) q306 dX8_findFirst_61 ?_
      refine lv_iload_n C.1 C.2.1 dX8_findFirst_64 rfl (lv_at hl 2 rfl) ?_
      refine lv_iload_n C.1 C.2.1 dX8_findFirst_65 rfl (lv_at hl 3 rfl) ?_
      refine z_ki hS (z_runV (As := [.int (gI st 4 3), .int (gI st 4 7), .int v2, .int v3]) (rest := []) C hP hS (m7 hb hL) (e7 hb) rfl (tX8_through C.2.2.2.2.2.2.1 (hL.mo (Nat.le_of_ble_eq_true rfl) (Nat.le_of_ble_eq_true rfl)) hb h) q803 q805 q17 q114 q806 hdX8_through ⟨Nat.le_of_ble_eq_true rfl, Nat.le_of_ble_eq_true rfl⟩ ⟨Nat.zero_le _, Nat.zero_le _⟩ rfl hl.1 rfl (lv_room (Nat.le_of_ble_eq_true rfl)) dX8_findFirst_66) (fun r6 st5 H locs h hP hS => ?_)
      refine lv_iload_n C.1 C.2.1 dX8_findFirst_69 rfl (lv_at hl 1 rfl) ?_
      refine lv_icmp_ne C.1 C.2.1 (tgt := 75) dX8_findFirst_70 (by decide) (fun hc => ?_) (fun hc => ?_)
      · have h := h.1 hc
        obtain ⟨x7, ex7⟩ : ∃ z, z = v3 + 1 := ⟨_, rfl⟩
        have h := h x7 ex7
        refine lv_iinc C.1 C.2.1 dX8_findFirst_75 hl (k := 3) rfl ex7.symm (Nat.le_of_ble_eq_true rfl) rfl (fun ls hl => ?_)
        have hl : lv_has ls 4 [(3, .int x7), (0, .ref (E.2.1 b)), (1, .int v1), (2, .int v2)] := hl
        refine lv_goto C.1 C.2.1 (tgt := 38) dX8_findFirst_78 (by decide) ?_
        exact hR38 v1 v2 x7 st5 _ _ _ h (lv_sub hl [1, 2, 3, 0] rfl) hP hS
      · have h := h.2 hc
        refine lv_iload_n C.1 C.2.1 dX8_findFirst_73 rfl (lv_at hl 2 rfl) ?_
        exact z_ri C hr hlk rfl hP hS h dX8_findFirst_74
set_option maxHeartbeats 4000000 in
set_option maxRecDepth 100000 in
theorem tX8_findFirst_L25 {l : Launch} {p : Program} {e : Env} {s : State} {m : MethodId} {args : Array Value} {below : List Frame} {meth : Method} {c : Code} {E : En0} {L : List Nat} (hL : Cov 0 54 L) (C : Cx E L "PlankBridge$Ways" cX8_findFirst 4 p s m args c) (hr : meth.sig.returnType = (some .int)) (hlk : meth.locks = false) {b : Nat} {Q : Int32 → St → Prop} (hb : kd b = 7) : ∀ (n : Nat) (v1 : Int32) (v2 : Int32) (st : St) (H : Heap) (locs : List Loc) (ls : Array Slot), lp (fun R s => wX8_findFirst_L25 b R s.1 s.2.1 s.2.2 Q) n (v1, v2, st) → lv_has ls 4 [(0, .ref (E.2.1 b)), (1, .int v1), (2, .int v2)] → va_P E.1 vwCl (wd E L st) H → va_S (fA E L s.heap.size) s.heap H locs → W p l e rmX8_findFirst s m args below meth c H locs 0 0 (MQ below (zI E L Q (fA E L s.heap.size)) args s rmX8_findFirst.cells rmX8_findFirst.slots (fA E L s.heap.size)) (F0 m 25 ls []) := by
  intro n
  induction n with
  | zero => exact fun _ _ _ _ _ _ h _ _ _ => False.elim ‹_›
  | succ n ih =>
    intro v1 v2 st  H locs ls h hl hP hS
    have hR25 := ih
    replace h : wX8_findFirst_L25 b (lp (fun R s => wX8_findFirst_L25 b R s.1 s.2.1 s.2.2 Q) n) v1 v2 st Q := h
    unfold wX8_findFirst_L25 at h
    refine lv_iload_n C.1 C.2.1 dX8_findFirst_25 rfl (lv_at hl 2 rfl) ?_
    refine lv_aload_n C.1 C.2.1 dX8_findFirst_26 rfl (lv_at hl 0 rfl) ?_
    refine gf7_0 C hP hb (m7 hb hL) q381 dX8_findFirst_27 ?_
    refine gn2_0 C hP (show kd 4 = 2 from rfl) (hL 4 (Nat.le_of_ble_eq_true rfl) (Nat.le_of_ble_eq_true rfl)) q290 dX8_findFirst_30 ?_
    refine lv_icmp_ge C.1 C.2.1 (tgt := 87) dX8_findFirst_33 (by decide) (fun hc => ?_) (fun hc => ?_)
    · have h := h.1 hc
      refine lv_iconst C.1 C.2.1 (v := (-1)) dX8_findFirst_87 rfl ?_
      exact z_ri C hr hlk rfl hP hS h dX8_findFirst_88
    · have h := h.2 hc
      refine lv_iload_n C.1 C.2.1 dX8_findFirst_36 rfl (lv_at hl 2 rfl) ?_
      refine lv_istore_n C.1 C.2.1 dX8_findFirst_37 rfl hl (Nat.le_of_ble_eq_true rfl) rfl (fun ls hl => ?_)
      have hl : lv_has ls 4 [(3, .int v2), (0, .ref (E.2.1 b)), (1, .int v1), (2, .int v2)] := hl
      obtain ⟨n, h⟩ := h
      exact tX8_findFirst_L38 hL C hr hlk hb hR25 n v1 v2 v2 st _ _ _ h (lv_sub hl [1, 2, 3, 0] rfl) hP hS
set_option maxHeartbeats 4000000 in
set_option maxRecDepth 100000 in
theorem tX8_findFirst {l : Launch} {E : En0} {L : List Nat} (hE : EK E L) (hL : Cov 0 54 L) {b : Nat} {st : St} {Q : Int32 → St → Prop} (hb : kd b = 7) (h : wX8_findFirst b st Q) : Mz l yX8_findFirst cX8_findFirst 4 (some .int) rmX8_findFirst E L [.ref (E.2.1 b)] st (zI E L Q) := by
  refine Mz.of hE (by decide) (Nat.le_of_ble_eq_true rfl) ?_
  intro p e s m below meth c ls C hr hlk _ hl hP
  replace C : Cx E L "PlankBridge$Ways" cX8_findFirst 4 p s m _ c := C
  have hS : va_S (fA E L s.heap.size) s.heap s.heap [] := va_S.rf
  replace hl : lv_has ls 4 [(0, .ref (E.2.1 b))] := hl
  unfold wX8_findFirst at h
  refine lv_aload_n C.1 C.2.1 dX8_findFirst_0 rfl (lv_at hl 0 rfl) ?_
  refine z_kv hS (z_runV (As := []) (rest := []) C hP hS (m7 hb hL) (e7 hb) rfl (tX8_prepare C.2.2.2.2.2.2.1 (hL.mo (Nat.le_of_ble_eq_true rfl) (Nat.le_of_ble_eq_true rfl)) hb h) q782 q784 q13 q114 q785 hdX8_prepare ⟨Nat.le_of_ble_eq_true rfl, Nat.le_of_ble_eq_true rfl⟩ ⟨Nat.zero_le _, Nat.zero_le _⟩ rfl hl.1 rfl (lv_room (Nat.le_of_ble_eq_true rfl)) dX8_findFirst_1) (fun st1 H locs h hP hS => ?_)
  refine lv_aload_n C.1 C.2.1 dX8_findFirst_4 rfl (lv_at hl 0 rfl) ?_
  refine lv_aload_n C.1 C.2.1 dX8_findFirst_5 rfl (lv_at hl 0 rfl) ?_
  refine gf7_0 C hP hb (m7 hb hL) q381 dX8_findFirst_6 ?_
  refine gn2_3 C hP (show kd 4 = 2 from rfl) (hL 4 (Nat.le_of_ble_eq_true rfl) (Nat.le_of_ble_eq_true rfl)) q297 dX8_findFirst_9 ?_
  refine lv_aload_n C.1 C.2.1 dX8_findFirst_12 rfl (lv_at hl 0 rfl) ?_
  refine gf7_0 C hP hb (m7 hb hL) q381 dX8_findFirst_13 ?_
  refine gn2_7 C hP (show kd 4 = 2 from rfl) (hL 4 (Nat.le_of_ble_eq_true rfl) (Nat.le_of_ble_eq_true rfl)) q306 dX8_findFirst_16 ?_
  refine z_ki hS (z_runV (As := [.int (gI st1 4 3), .int (gI st1 4 7)]) (rest := []) C hP hS (m7 hb hL) (e7 hb) rfl (tX8_known C.2.2.2.2.2.2.1 (hL.mo (Nat.le_of_ble_eq_true rfl) (Nat.le_of_ble_eq_true rfl)) hb h) q799 q801 q16 q114 q802 hdX8_known ⟨Nat.le_of_ble_eq_true rfl, Nat.le_of_ble_eq_true rfl⟩ ⟨Nat.zero_le _, Nat.zero_le _⟩ rfl hl.1 rfl (lv_room (Nat.le_of_ble_eq_true rfl)) dX8_findFirst_19) (fun r3 st2 H locs h hP hS => ?_)
  refine lv_istore_n C.1 C.2.1 dX8_findFirst_22 rfl hl (Nat.le_of_ble_eq_true rfl) rfl (fun ls hl => ?_)
  have hl : lv_has ls 4 [(1, .int r3), (0, .ref (E.2.1 b))] := hl
  refine lv_iconst C.1 C.2.1 (v := 0) dX8_findFirst_23 rfl ?_
  refine lv_istore_n C.1 C.2.1 dX8_findFirst_24 rfl hl (Nat.le_of_ble_eq_true rfl) rfl (fun ls hl => ?_)
  have hl : lv_has ls 4 [(2, .int 0), (1, .int r3), (0, .ref (E.2.1 b))] := hl
  obtain ⟨n, h⟩ := h
  exact tX8_findFirst_L25 hL C hr hlk hb n r3 0 st2 _ _ _ h (lv_sub hl [2, 1, 0] rfl) hP hS
def rmX8_findSecond : Room := { frames := 3, cells := 0, slots := 0, locals := 70 }
def wX8_findSecond_L47 (b : Nat) (p1 : Int32)  (R47 : Int32 × Int32 × Int32 × St → Prop) (v1 : Int32) (v2 : Int32) (v3 : Int32) (st : St) (Q : Int32 → St → Prop) : Prop :=
  (((gI st 4 0) ≤ v3 → Q (-1) st) ∧ (¬ (gI st 4 0) ≤ v3 → (wX8_through b (gI st 4 3) (gI st 4 7) v1 v3 st (fun r6 st5 => ((¬ r6 = v2 → (∀ x7 : Int32, x7 = v3 + 1 → R47 (v1, v2, x7, st5))) ∧ (r6 = v2 → Q v3 st5))))))
def wX8_findSecond (b : Nat) (p1 : Int32) (st : St) (Q : Int32 → St → Prop) : Prop :=
  (wX8_known b (gI st 4 3) (gI st 4 7) st (fun r2 st1 => (wX8_through b (gI st1 4 3) (gI st1 4 7) p1 p1 st1 (fun r4 st3 => ((¬ r4 = r2 → (∃ n, lp (fun R s => wX8_findSecond_L47 b p1 R s.1 s.2.1 s.2.2.1 s.2.2.2 Q) n (p1, r2, 0, st3))) ∧ (r4 = r2 → Q (-1) st3))))))
theorem hdX8_findSecond : yX8_findSecond.cls = "PlankBridge$Ways" ∧ yX8_findSecond.cls ≠ "java/lang/invoke/MethodHandle" ∧ yX8_findSecond.cls ≠ "java/lang/invoke/VarHandle" ∧ (parseMethodDescriptor yX8_findSecond.desc).map (fun d => d.parameters.length) = some 1 := by decide +kernel
set_option maxHeartbeats 4000000 in
set_option maxRecDepth 100000 in
theorem tX8_findSecond_L47 {l : Launch} {p : Program} {e : Env} {s : State} {m : MethodId} {args : Array Value} {below : List Frame} {meth : Method} {c : Code} {E : En0} {L : List Nat} (hL : Cov 0 54 L) (C : Cx E L "PlankBridge$Ways" cX8_findSecond 4 p s m args c) (hr : meth.sig.returnType = (some .int)) (hlk : meth.locks = false) {b : Nat} {p1 : Int32} {Q : Int32 → St → Prop} (hb : kd b = 7) : ∀ (n : Nat) (v1 : Int32) (v2 : Int32) (v3 : Int32) (st : St) (H : Heap) (locs : List Loc) (ls : Array Slot), lp (fun R s => wX8_findSecond_L47 b p1 R s.1 s.2.1 s.2.2.1 s.2.2.2 Q) n (v1, v2, v3, st) → lv_has ls 4 [(0, .ref (E.2.1 b)), (1, .int v1), (2, .int v2), (3, .int v3)] → va_P E.1 vwCl (wd E L st) H → va_S (fA E L s.heap.size) s.heap H locs → W p l e rmX8_findSecond s m args below meth c H locs 0 0 (MQ below (zI E L Q (fA E L s.heap.size)) args s rmX8_findSecond.cells rmX8_findSecond.slots (fA E L s.heap.size)) (F0 m 47 ls []) := by
  intro n
  induction n with
  | zero => exact fun _ _ _ _ _ _ _ h _ _ _ => False.elim ‹_›
  | succ n ih =>
    intro v1 v2 v3 st  H locs ls h hl hP hS
    have hR47 := ih
    replace h : wX8_findSecond_L47 b p1 (lp (fun R s => wX8_findSecond_L47 b p1 R s.1 s.2.1 s.2.2.1 s.2.2.2 Q) n) v1 v2 v3 st Q := h
    unfold wX8_findSecond_L47 at h
    refine lv_iload_n C.1 C.2.1 dX8_findSecond_47 rfl (lv_at hl 3 rfl) ?_
    refine lv_aload_n C.1 C.2.1 dX8_findSecond_48 rfl (lv_at hl 0 rfl) ?_
    refine gf7_0 C hP hb (m7 hb hL) q381 dX8_findSecond_49 ?_
    refine gn2_0 C hP (show kd 4 = 2 from rfl) (hL 4 (Nat.le_of_ble_eq_true rfl) (Nat.le_of_ble_eq_true rfl)) q290 dX8_findSecond_52 ?_
    refine lv_icmp_ge C.1 C.2.1 (tgt := 90) dX8_findSecond_55 (by decide) (fun hc => ?_) (fun hc => ?_)
    · have h := h.1 hc
      refine lv_iconst C.1 C.2.1 (v := (-1)) dX8_findSecond_90 rfl ?_
      exact z_ri C hr hlk rfl hP hS h dX8_findSecond_91
    · have h := h.2 hc
      refine lv_aload_n C.1 C.2.1 dX8_findSecond_58 rfl (lv_at hl 0 rfl) ?_
      refine lv_aload_n C.1 C.2.1 dX8_findSecond_59 rfl (lv_at hl 0 rfl) ?_
      refine gf7_0 C hP hb (m7 hb hL) q381 dX8_findSecond_60 ?_
      refine gn2_3 C hP (show kd 4 = 2 from rfl) (hL 4 (Nat.le_of_ble_eq_true rfl) (Nat.le_of_ble_eq_true rfl)) q297 dX8_findSecond_63 ?_
      refine lv_aload_n C.1 C.2.1 dX8_findSecond_66 rfl (lv_at hl 0 rfl) ?_
      refine gf7_0 C hP hb (m7 hb hL) q381 dX8_findSecond_67 ?_
      refine gn2_7 C hP (show kd 4 = 2 from rfl) (hL 4 (Nat.le_of_ble_eq_true rfl) (Nat.le_of_ble_eq_true rfl)) q306 dX8_findSecond_70 ?_
      refine lv_iload_n C.1 C.2.1 dX8_findSecond_73 rfl (lv_at hl 1 rfl) ?_
      refine lv_iload_n C.1 C.2.1 dX8_findSecond_74 rfl (lv_at hl 3 rfl) ?_
      refine z_ki hS (z_runV (As := [.int (gI st 4 3), .int (gI st 4 7), .int v1, .int v3]) (rest := []) C hP hS (m7 hb hL) (e7 hb) rfl (tX8_through C.2.2.2.2.2.2.1 (hL.mo (Nat.le_of_ble_eq_true rfl) (Nat.le_of_ble_eq_true rfl)) hb h) q803 q805 q17 q114 q806 hdX8_through ⟨Nat.le_of_ble_eq_true rfl, Nat.le_of_ble_eq_true rfl⟩ ⟨Nat.zero_le _, Nat.zero_le _⟩ rfl hl.1 rfl (lv_room (Nat.le_of_ble_eq_true rfl)) dX8_findSecond_75) (fun r6 st5 H locs h hP hS => ?_)
      refine lv_iload_n C.1 C.2.1 dX8_findSecond_78 rfl (lv_at hl 2 rfl) ?_
      refine lv_icmp_ne C.1 C.2.1 (tgt := 84) dX8_findSecond_79 (by decide) (fun hc => ?_) (fun hc => ?_)
      · have h := h.1 hc
        obtain ⟨x7, ex7⟩ : ∃ z, z = v3 + 1 := ⟨_, rfl⟩
        have h := h x7 ex7
        refine lv_iinc C.1 C.2.1 dX8_findSecond_84 hl (k := 3) rfl ex7.symm (Nat.le_of_ble_eq_true rfl) rfl (fun ls hl => ?_)
        have hl : lv_has ls 4 [(3, .int x7), (0, .ref (E.2.1 b)), (1, .int v1), (2, .int v2)] := hl
        refine lv_goto C.1 C.2.1 (tgt := 47) dX8_findSecond_87 (by decide) ?_
        exact hR47 v1 v2 x7 st5 _ _ _ h (lv_sub hl [1, 2, 3, 0] rfl) hP hS
      · have h := h.2 hc
        refine lv_iload_n C.1 C.2.1 dX8_findSecond_82 rfl (lv_at hl 3 rfl) ?_
        exact z_ri C hr hlk rfl hP hS h dX8_findSecond_83
set_option maxHeartbeats 4000000 in
set_option maxRecDepth 100000 in
theorem tX8_findSecond {l : Launch} {E : En0} {L : List Nat} (hE : EK E L) (hL : Cov 0 54 L) {b : Nat} {p1 : Int32} {st : St} {Q : Int32 → St → Prop} (hb : kd b = 7) (h : wX8_findSecond b p1 st Q) : Mz l yX8_findSecond cX8_findSecond 4 (some .int) rmX8_findSecond E L [.ref (E.2.1 b), .int p1] st (zI E L Q) := by
  refine Mz.of hE (by decide) (Nat.le_of_ble_eq_true rfl) ?_
  intro p e s m below meth c ls C hr hlk _ hl hP
  replace C : Cx E L "PlankBridge$Ways" cX8_findSecond 4 p s m _ c := C
  have hS : va_S (fA E L s.heap.size) s.heap s.heap [] := va_S.rf
  replace hl : lv_has ls 4 [(0, .ref (E.2.1 b)), (1, .int p1)] := hl
  unfold wX8_findSecond at h
  refine lv_aload_n C.1 C.2.1 dX8_findSecond_0 rfl (lv_at hl 0 rfl) ?_
  refine lv_aload_n C.1 C.2.1 dX8_findSecond_1 rfl (lv_at hl 0 rfl) ?_
  refine gf7_0 C hP hb (m7 hb hL) q381 dX8_findSecond_2 ?_
  refine gn2_3 C hP (show kd 4 = 2 from rfl) (hL 4 (Nat.le_of_ble_eq_true rfl) (Nat.le_of_ble_eq_true rfl)) q297 dX8_findSecond_5 ?_
  refine lv_aload_n C.1 C.2.1 dX8_findSecond_8 rfl (lv_at hl 0 rfl) ?_
  refine gf7_0 C hP hb (m7 hb hL) q381 dX8_findSecond_9 ?_
  refine gn2_7 C hP (show kd 4 = 2 from rfl) (hL 4 (Nat.le_of_ble_eq_true rfl) (Nat.le_of_ble_eq_true rfl)) q306 dX8_findSecond_12 ?_
  refine z_ki hS (z_runV (As := [.int (gI st 4 3), .int (gI st 4 7)]) (rest := []) C hP hS (m7 hb hL) (e7 hb) rfl (tX8_known C.2.2.2.2.2.2.1 (hL.mo (Nat.le_of_ble_eq_true rfl) (Nat.le_of_ble_eq_true rfl)) hb h) q799 q801 q16 q114 q802 hdX8_known ⟨Nat.le_of_ble_eq_true rfl, Nat.le_of_ble_eq_true rfl⟩ ⟨Nat.zero_le _, Nat.zero_le _⟩ rfl hl.1 rfl (lv_room (Nat.le_of_ble_eq_true rfl)) dX8_findSecond_15) (fun r2 st1 H locs h hP hS => ?_)
  refine lv_istore_n C.1 C.2.1 dX8_findSecond_18 rfl hl (Nat.le_of_ble_eq_true rfl) rfl (fun ls hl => ?_)
  have hl : lv_has ls 4 [(2, .int r2), (0, .ref (E.2.1 b)), (1, .int p1)] := hl
  refine lv_aload_n C.1 C.2.1 dX8_findSecond_19 rfl (lv_at hl 1 rfl) ?_
  refine lv_aload_n C.1 C.2.1 dX8_findSecond_20 rfl (lv_at hl 1 rfl) ?_
  refine gf7_0 C hP hb (m7 hb hL) q381 dX8_findSecond_21 ?_
  refine gn2_3 C hP (show kd 4 = 2 from rfl) (hL 4 (Nat.le_of_ble_eq_true rfl) (Nat.le_of_ble_eq_true rfl)) q297 dX8_findSecond_24 ?_
  refine lv_aload_n C.1 C.2.1 dX8_findSecond_27 rfl (lv_at hl 1 rfl) ?_
  refine gf7_0 C hP hb (m7 hb hL) q381 dX8_findSecond_28 ?_
  refine gn2_7 C hP (show kd 4 = 2 from rfl) (hL 4 (Nat.le_of_ble_eq_true rfl) (Nat.le_of_ble_eq_true rfl)) q306 dX8_findSecond_31 ?_
  refine lv_iload_n C.1 C.2.1 dX8_findSecond_34 rfl (lv_at hl 2 rfl) ?_
  refine lv_iload_n C.1 C.2.1 dX8_findSecond_35 rfl (lv_at hl 2 rfl) ?_
  refine z_ki hS (z_runV (As := [.int (gI st1 4 3), .int (gI st1 4 7), .int p1, .int p1]) (rest := []) C hP hS (m7 hb hL) (e7 hb) rfl (tX8_through C.2.2.2.2.2.2.1 (hL.mo (Nat.le_of_ble_eq_true rfl) (Nat.le_of_ble_eq_true rfl)) hb h) q803 q805 q17 q114 q806 hdX8_through ⟨Nat.le_of_ble_eq_true rfl, Nat.le_of_ble_eq_true rfl⟩ ⟨Nat.zero_le _, Nat.zero_le _⟩ rfl hl.1 rfl (lv_room (Nat.le_of_ble_eq_true rfl)) dX8_findSecond_36) (fun r4 st3 H locs h hP hS => ?_)
  refine lv_iload_n C.1 C.2.1 dX8_findSecond_39 rfl (lv_at hl 0 rfl) ?_
  refine lv_icmp_ne C.1 C.2.1 (tgt := 45) dX8_findSecond_40 (by decide) (fun hc => ?_) (fun hc => ?_)
  · have h := h.1 hc
    refine lv_iconst C.1 C.2.1 (v := 0) dX8_findSecond_45 rfl ?_
    refine lv_istore_n C.1 C.2.1 dX8_findSecond_46 rfl hl (Nat.le_of_ble_eq_true rfl) rfl (fun ls hl => ?_)
    have hl : lv_has ls 4 [(3, .int 0), (2, .int r2), (0, .ref (E.2.1 b)), (1, .int p1)] := hl
    obtain ⟨n, h⟩ := h
    exact tX8_findSecond_L47 hL C hr hlk hb n p1 r2 0 st3 _ _ _ h (lv_sub hl [2, 3, 1, 0] rfl) hP hS
  · have h := h.2 hc
    refine lv_iconst C.1 C.2.1 (v := (-1)) dX8_findSecond_43 rfl ?_
    exact z_ri C hr hlk rfl hP hS h dX8_findSecond_44

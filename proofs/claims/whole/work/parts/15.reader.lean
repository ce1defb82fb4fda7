def rmX4_mark : Room := { frames := 0, cells := 0, slots := 0, locals := 0 }
def wX4_mark (b : Nat) (p1 : Int32) (st : St) (Q : St → Prop) : Prop :=
  ((¬ (gI st b 4) = 0 → Q st) ∧ ((gI st b 4) = 0 → (∀ st1, st1 = uI st b 4 p1 → (∀ st2, st2 = uI st1 b 5 (gI st1 b 2) → Q st2))))
theorem hdX4_mark : yX4_mark.cls = "PlankBridge$Reader" ∧ yX4_mark.cls ≠ "java/lang/invoke/MethodHandle" ∧ yX4_mark.cls ≠ "java/lang/invoke/VarHandle" ∧ (parseMethodDescriptor yX4_mark.desc).map (fun d => d.parameters.length) = some 1 := by decide +kernel
set_option maxHeartbeats 4000000 in
set_option maxRecDepth 100000 in
theorem tX4_mark {l : Launch} {E : En0} {L : List Nat} (hE : EK E L) (hL : Cov 0 54 L) {b : Nat} {p1 : Int32} {st : St} {Q : St → Prop} (hb : kd b = 3) (h : wX4_mark b p1 st Q) : Mz l yX4_mark cX4_mark 2 none rmX4_mark E L [.ref (E.2.1 b), .int p1] st (zV E L Q) := by
  refine Mz.of hE (by decide) (Nat.le_of_ble_eq_true rfl) ?_
  intro p e s m below meth c ls C hr hlk _ hl hP
  replace C : Cx E L "PlankBridge$Reader" cX4_mark 2 p s m _ c := C
  have hS : va_S (fA E L s.heap.size) s.heap s.heap [] := va_S.rf
  replace hl : lv_has ls 2 [(0, .ref (E.2.1 b)), (1, .int p1)] := hl
  unfold wX4_mark at h
  refine lv_aload_n C.1 C.2.1 dX4_mark_0 rfl (lv_at hl 0 rfl) ?_
  refine gf3_4 C hP hb (m3 hb hL) q268 dX4_mark_1 ?_
  refine lv_if_ne C.1 C.2.1 (tgt := 20) dX4_mark_4 (by decide) (fun hc => ?_) (fun hc => ?_)
  · have h := h.1 hc
    exact z_rv C hr hlk hP hS h dX4_mark_20
  · have h := h.2 hc
    refine lv_aload_n C.1 C.2.1 dX4_mark_7 rfl (lv_at hl 0 rfl) ?_
    refine lv_iload_n C.1 C.2.1 dX4_mark_8 rfl (lv_at hl 1 rfl) ?_
    refine pf3_4 C hP hS hb (m3 hb hL) q268 dX4_mark_9 (fun H locs hP hS => ?_)
    obtain ⟨st1, est1⟩ : ∃ z, z = uI st b 4 p1 := ⟨_, rfl⟩
    rw [← est1] at hP; have h := h st1 est1
    refine lv_aload_n C.1 C.2.1 dX4_mark_12 rfl (lv_at hl 0 rfl) ?_
    refine lv_aload_n C.1 C.2.1 dX4_mark_13 rfl (lv_at hl 0 rfl) ?_
    refine gf3_2 C hP hb (m3 hb hL) q266 dX4_mark_14 ?_
    refine pf3_5 C hP hS hb (m3 hb hL) q269 dX4_mark_17 (fun H locs hP hS => ?_)
    obtain ⟨st2, est2⟩ : ∃ z, z = uI st1 b 5 (gI st1 b 2) := ⟨_, rfl⟩
    rw [← est2] at hP; have h := h st2 est2
    exact z_rv C hr hlk hP hS h dX4_mark_20
def rmX4_take : Room := { frames := 1, cells := 0, slots := 0, locals := 22 }
def wX4_take (b : Nat) (p1 : Option Nat) (st : St) (Q : Int32 → St → Prop) : Prop :=
  (kin (gK st b 3) ∧ kin p1 ∧ ((gK st b 3) = p1 → (∀ st3, st3 = uI st b 2 ((gI st b 2) + 1) → (kd (gR st3 b 0) = 6 ∧ ∀ c4, c4 = gR st3 b 0 → (wX7_kindAt c4 (gI st3 b 2) st3 (fun r6 st5 => (∀ st7, st7 = uK st5 b 3 r6 → Q 1 st7)))))) ∧ (¬ (gK st b 3) = p1 → Q 0 st))
theorem hdX4_take : yX4_take.cls = "PlankBridge$Reader" ∧ yX4_take.cls ≠ "java/lang/invoke/MethodHandle" ∧ yX4_take.cls ≠ "java/lang/invoke/VarHandle" ∧ (parseMethodDescriptor yX4_take.desc).map (fun d => d.parameters.length) = some 1 := by decide +kernel
set_option maxHeartbeats 4000000 in
set_option maxRecDepth 100000 in
theorem tX4_take {l : Launch} {E : En0} {L : List Nat} (hE : EK E L) (hL : Cov 0 54 L) {b : Nat} {p1 : Option Nat} {st : St} {Q : Int32 → St → Prop} (hb : kd b = 3) (h : wX4_take b p1 st Q) : Mz l yX4_take cX4_take 2 (some .boolean) rmX4_take E L [.ref (E.2.1 b), va_re E.2.2.1 p1] st (zI E L (fun r u => bz r ∧ Q r u)) := by
  refine Mz.of hE (by decide) (by cases p1 <;> exact Nat.le_of_ble_eq_true rfl) ?_
  intro p e s m below meth c ls C hr hlk _ hl hP
  replace C : Cx E L "PlankBridge$Reader" cX4_take 2 p s m _ c := C
  have hS : va_S (fA E L s.heap.size) s.heap s.heap [] := va_S.rf
  replace hl : lv_has ls 2 [(0, .ref (E.2.1 b)), (1, va_re E.2.2.1 p1)] := (by cases p1 <;> exact hl)
  unfold wX4_take at h
  refine lv_aload_n C.1 C.2.1 dX4_take_0 rfl (lv_at hl 0 rfl) ?_
  refine gf3_3 C hP hb (m3 hb hL) q267 dX4_take_1 ?_
  refine z_aloadE_n C.1 C.2.1 dX4_take_4 rfl (lv_at hl 1 rfl) ?_
  obtain ⟨hk1, h⟩ := h
  obtain ⟨hk2, h⟩ := h
  refine z_acmp_eq C hk1 hk2 (tgt := 10) dX4_take_5 (by decide) (fun hc => ?_) (fun hc => ?_)
  · have h := h.1 hc
    refine lv_aload_n C.1 C.2.1 dX4_take_10 rfl (lv_at hl 0 rfl) ?_
    refine lv_dup C.1 C.2.1 dX4_take_11 rfl ?_
    refine gf3_2 C hP hb (m3 hb hL) q266 dX4_take_12 ?_
    refine lv_iconst C.1 C.2.1 (v := 1) dX4_take_15 rfl ?_
    refine lv_iadd C.1 C.2.1 dX4_take_16  ?_
    refine pf3_2 C hP hS hb (m3 hb hL) q266 dX4_take_17 (fun H locs hP hS => ?_)
    obtain ⟨st3, est3⟩ : ∃ z, z = uI st b 2 ((gI st b 2) + 1) := ⟨_, rfl⟩
    rw [← est3] at hP; have h := h st3 est3
    refine lv_aload_n C.1 C.2.1 dX4_take_20 rfl (lv_at hl 0 rfl) ?_
    refine lv_aload_n C.1 C.2.1 dX4_take_21 rfl (lv_at hl 0 rfl) ?_
    refine gf3_0 C hP hb (m3 hb hL) q264 dX4_take_22 ?_
    obtain ⟨hc4, h⟩ := h
    obtain ⟨c4, ec4⟩ : ∃ z, z = gR st3 b 0 := ⟨_, rfl⟩
    rw [← ec4]; rw [← ec4] at hc4; have h := h c4 ec4
    refine lv_aload_n C.1 C.2.1 dX4_take_25 rfl (lv_at hl 0 rfl) ?_
    refine gf3_2 C hP hb (m3 hb hL) q266 dX4_take_26 ?_
    refine z_ke hS (z_runV (As := [.int (gI st3 b 2)]) (rest := [.ref (E.2.1 b)]) C hP hS (m6 hc4 hL) (e6 hc4) rfl (tX7_kindAt C.2.2.2.2.2.2.1 (hL.mo (Nat.le_of_ble_eq_true rfl) (Nat.le_of_ble_eq_true rfl)) hc4 h) q492 q493 q494 q108 q495 hdX7_kindAt ⟨Nat.le_of_ble_eq_true rfl, Nat.le_of_ble_eq_true rfl⟩ ⟨Nat.zero_le _, Nat.zero_le _⟩ rfl hl.1 rfl (lv_room (Nat.le_of_ble_eq_true rfl)) dX4_take_29) (fun r6 st5 H locs h hP hS => ?_)
    obtain ⟨hr6, h⟩ := h
    refine pf3_3 C hP hS hb (m3 hb hL) q267 dX4_take_32 (fun H locs hP hS => ?_)
    obtain ⟨st7, est7⟩ : ∃ z, z = uK st5 b 3 r6 := ⟨_, rfl⟩
    rw [← est7] at hP; have h := h st7 est7
    refine lv_iconst C.1 C.2.1 (v := 1) dX4_take_35 rfl ?_
    exact z_ri C hr hlk (bz_n bz1) hP hS ⟨bz1, h⟩ dX4_take_36
  · have h := h.2 hc
    refine lv_iconst C.1 C.2.1 (v := 0) dX4_take_8 rfl ?_
    exact z_ri C hr hlk (bz_n bz0) hP hS ⟨bz0, h⟩ dX4_take_9
def rmX4_markOutside : Room := { frames := 1, cells := 0, slots := 0, locals := 21 }
def wX4_markOutside_L22 (b : Nat) (p1 : Int32) (p2 : Int32)   (st : St) (Q : St → Prop) : Prop :=
  (wX4_mark b 5 st (fun st4 => Q st4))
def wX4_markOutside (b : Nat) (p1 : Int32) (p2 : Int32) (st : St) (Q : St → Prop) : Prop :=
  (kd (gR st b 0) = 6 ∧ ∀ c1, c1 = gR st b 0 → (wX7_numberAt c1 (gI st b 2) st (fun r3 st2 => ((r3 < p1 → wX4_markOutside_L22 b p1 p2 st2 Q) ∧ (¬ r3 < p1 → ((r3 ≤ p2 → Q st2) ∧ (¬ r3 ≤ p2 → wX4_markOutside_L22 b p1 p2 st2 Q)))))))
theorem hdX4_markOutside : yX4_markOutside.cls = "PlankBridge$Reader" ∧ yX4_markOutside.cls ≠ "java/lang/invoke/MethodHandle" ∧ yX4_markOutside.cls ≠ "java/lang/invoke/VarHandle" ∧ (parseMethodDescriptor yX4_markOutside.desc).map (fun d => d.parameters.length) = some 2 := by decide +kernel
set_option maxHeartbeats 4000000 in
set_option maxRecDepth 100000 in
theorem tX4_markOutside_L22 {l : Launch} {p : Program} {e : Env} {s : State} {m : MethodId} {args : Array Value} {below : List Frame} {meth : Method} {c : Code} {E : En0} {L : List Nat} (hL : Cov 0 54 L) (C : Cx E L "PlankBridge$Reader" cX4_markOutside 4 p s m args c) (hr : meth.sig.returnType = none) (hlk : meth.locks = false) {b : Nat} {p1 : Int32} {p2 : Int32} {Q : St → Prop} (hb : kd b = 3)   {st : St} (H : Heap) (locs : List Loc) (ls : Array Slot) (h : wX4_markOutside_L22 b p1 p2 st Q) (hl : lv_has ls 4 [(0, .ref (E.2.1 b))]) (hP : va_P E.1 vwCl (wd E L st) H) (hS : va_S (fA E L s.heap.size) s.heap H locs) : W p l e rmX4_markOutside s m args below meth c H locs 0 0 (MQ below (zV E L Q (fA E L s.heap.size)) args s rmX4_markOutside.cells rmX4_markOutside.slots (fA E L s.heap.size)) (F0 m 22 ls []) := by
  unfold wX4_markOutside_L22 at h
  refine lv_aload_n C.1 C.2.1 dX4_markOutside_22 rfl (lv_at hl 0 rfl) ?_
  refine lv_iconst C.1 C.2.1 (v := 5) dX4_markOutside_23 rfl ?_
  refine z_kv hS (z_runV (As := [.int 5]) (rest := []) C hP hS (m3 hb hL) (e3 hb) rfl (tX4_mark C.2.2.2.2.2.2.1 (hL.mo (Nat.le_of_ble_eq_true rfl) (Nat.le_of_ble_eq_true rfl)) hb h) q522 q524 q2 q109 q525 hdX4_mark ⟨Nat.le_of_ble_eq_true rfl, Nat.le_of_ble_eq_true rfl⟩ ⟨Nat.zero_le _, Nat.zero_le _⟩ rfl hl.1 rfl (lv_room (Nat.le_of_ble_eq_true rfl)) dX4_markOutside_24) (fun st4 H locs h hP hS => ?_)
  exact z_rv C hr hlk hP hS h dX4_markOutside_27
set_option maxHeartbeats 4000000 in
set_option maxRecDepth 100000 in
theorem tX4_markOutside {l : Launch} {E : En0} {L : List Nat} (hE : EK E L) (hL : Cov 0 54 L) {b : Nat} {p1 : Int32} {p2 : Int32} {st : St} {Q : St → Prop} (hb : kd b = 3) (h : wX4_markOutside b p1 p2 st Q) : Mz l yX4_markOutside cX4_markOutside 4 none rmX4_markOutside E L [.ref (E.2.1 b), .int p1, .int p2] st (zV E L Q) := by
  refine Mz.of hE (by decide) (Nat.le_of_ble_eq_true rfl) ?_
  intro p e s m below meth c ls C hr hlk _ hl hP
  replace C : Cx E L "PlankBridge$Reader" cX4_markOutside 4 p s m _ c := C
  have hS : va_S (fA E L s.heap.size) s.heap s.heap [] := va_S.rf
  replace hl : lv_has ls 4 [(0, .ref (E.2.1 b)), (1, .int p1), (2, .int p2)] := hl
  unfold wX4_markOutside at h
  refine lv_aload_n C.1 C.2.1 dX4_markOutside_0 rfl (lv_at hl 0 rfl) ?_
  refine gf3_0 C hP hb (m3 hb hL) q264 dX4_markOutside_1 ?_
  obtain ⟨hc1, h⟩ := h
  obtain ⟨c1, ec1⟩ : ∃ z, z = gR st b 0 := ⟨_, rfl⟩
  rw [← ec1]; rw [← ec1] at hc1; have h := h c1 ec1
  refine lv_aload_n C.1 C.2.1 dX4_markOutside_4 rfl (lv_at hl 0 rfl) ?_
  refine gf3_2 C hP hb (m3 hb hL) q266 dX4_markOutside_5 ?_
  refine z_ki hS (z_runV (As := [.int (gI st b 2)]) (rest := []) C hP hS (m6 hc1 hL) (e6 hc1) rfl (tX7_numberAt C.2.2.2.2.2.2.1 (hL.mo (Nat.le_of_ble_eq_true rfl) (Nat.le_of_ble_eq_true rfl)) hc1 h) q537 q538 q539 q108 q540 hdX7_numberAt ⟨Nat.le_of_ble_eq_true rfl, Nat.le_of_ble_eq_true rfl⟩ ⟨Nat.zero_le _, Nat.zero_le _⟩ rfl hl.1 rfl (lv_room (Nat.le_of_ble_eq_true rfl)) dX4_markOutside_8) (fun r3 st2 H locs h hP hS => ?_)
  refine lv_istore_n C.1 C.2.1 dX4_markOutside_11 rfl hl (Nat.le_of_ble_eq_true rfl) rfl (fun ls hl => ?_)
  have hl : lv_has ls 4 [(3, .int r3), (0, .ref (E.2.1 b)), (1, .int p1), (2, .int p2)] := hl
  refine lv_iload_n C.1 C.2.1 dX4_markOutside_12 rfl (lv_at hl 0 rfl) ?_
  refine lv_iload_n C.1 C.2.1 dX4_markOutside_13 rfl (lv_at hl 2 rfl) ?_
  refine lv_icmp_lt C.1 C.2.1 (tgt := 22) dX4_markOutside_14 (by decide) (fun hc => ?_) (fun hc => ?_)
  · have h := h.1 hc
    exact tX4_markOutside_L22 hL C hr hlk hb _ _ _ h (lv_sub hl [1] rfl) hP hS
  · have h := h.2 hc
    refine lv_iload_n C.1 C.2.1 dX4_markOutside_17 rfl (lv_at hl 0 rfl) ?_
    refine lv_iload_n C.1 C.2.1 dX4_markOutside_18 rfl (lv_at hl 3 rfl) ?_
    refine lv_icmp_le C.1 C.2.1 (tgt := 27) dX4_markOutside_19 (by decide) (fun hc => ?_) (fun hc => ?_)
    · have h := h.1 hc
      exact z_rv C hr hlk hP hS h dX4_markOutside_27
    · have h := h.2 hc
      exact tX4_markOutside_L22 hL C hr hlk hb _ _ _ h (lv_sub hl [1] rfl) hP hS
def rmX4_takeNumber : Room := { frames := 2, cells := 0, slots := 0, locals := 44 }
def wX4_takeNumber (b : Nat) (p1 : Int32) (p2 : Int32) (st : St) (Q : Int32 → St → Prop) : Prop :=
  (wX4_markOutside b p1 p2 st (fun st1 => (wX4_take b (some 3) st1 (fun r3 st2 => Q r3 st2))))
theorem hdX4_takeNumber : yX4_takeNumber.cls = "PlankBridge$Reader" ∧ yX4_takeNumber.cls ≠ "java/lang/invoke/MethodHandle" ∧ yX4_takeNumber.cls ≠ "java/lang/invoke/VarHandle" ∧ (parseMethodDescriptor yX4_takeNumber.desc).map (fun d => d.parameters.length) = some 2 := by decide +kernel
set_option maxHeartbeats 4000000 in
set_option maxRecDepth 100000 in
theorem tX4_takeNumber {l : Launch} {E : En0} {L : List Nat} (hE : EK E L) (hL : Cov 0 54 L) {b : Nat} {p1 : Int32} {p2 : Int32} {st : St} {Q : Int32 → St → Prop} (hb : kd b = 3) (h : wX4_takeNumber b p1 p2 st Q) : Mz l yX4_takeNumber cX4_takeNumber 3 (some .boolean) rmX4_takeNumber E L [.ref (E.2.1 b), .int p1, .int p2] st (zI E L (fun r u => bz r ∧ Q r u)) := by
  refine Mz.of hE (by decide) (Nat.le_of_ble_eq_true rfl) ?_
  intro p e s m below meth c ls C hr hlk _ hl hP
  replace C : Cx E L "PlankBridge$Reader" cX4_takeNumber 3 p s m _ c := C
  have hS : va_S (fA E L s.heap.size) s.heap s.heap [] := va_S.rf
  replace hl : lv_has ls 3 [(0, .ref (E.2.1 b)), (1, .int p1), (2, .int p2)] := hl
  unfold wX4_takeNumber at h
  refine lv_aload_n C.1 C.2.1 dX4_takeNumber_0 rfl (lv_at hl 0 rfl) ?_
  refine lv_iload_n C.1 C.2.1 dX4_takeNumber_1 rfl (lv_at hl 1 rfl) ?_
  refine lv_iload_n C.1 C.2.1 dX4_takeNumber_2 rfl (lv_at hl 2 rfl) ?_
  refine z_kv hS (z_runV (As := [.int p1, .int p2]) (rest := []) C hP hS (m3 hb hL) (e3 hb) rfl (tX4_markOutside C.2.2.2.2.2.2.1 (hL.mo (Nat.le_of_ble_eq_true rfl) (Nat.le_of_ble_eq_true rfl)) hb h) q533 q535 q4 q109 q536 hdX4_markOutside ⟨Nat.le_of_ble_eq_true rfl, Nat.le_of_ble_eq_true rfl⟩ ⟨Nat.zero_le _, Nat.zero_le _⟩ rfl hl.1 rfl (lv_room (Nat.le_of_ble_eq_true rfl)) dX4_takeNumber_3) (fun st1 H locs h hP hS => ?_)
  refine lv_aload_n C.1 C.2.1 dX4_takeNumber_6 rfl (lv_at hl 0 rfl) ?_
  refine z_kst C hS (i := 3) (by decide) rfl q541 dX4_takeNumber_7 ?_
  refine z_ki hS (z_runV (As := [va_re E.2.2.1 (some 3)]) (rest := []) C hP hS (m3 hb hL) (e3 hb) rfl (tX4_take C.2.2.2.2.2.2.1 (hL.mo (Nat.le_of_ble_eq_true rfl) (Nat.le_of_ble_eq_true rfl)) hb h) q502 q504 q0 q109 q505 hdX4_take ⟨Nat.le_of_ble_eq_true rfl, Nat.le_of_ble_eq_true rfl⟩ ⟨Nat.zero_le _, Nat.zero_le _⟩ rfl hl.1 rfl (lv_room (Nat.le_of_ble_eq_true rfl)) dX4_takeNumber_10) (fun r3 st2 H locs h hP hS => ?_)
  obtain ⟨hr3, h⟩ := h
  exact z_ri C hr hlk (bz_n hr3) hP hS ⟨hr3, h⟩ dX4_takeNumber_13
def rmX4_takePlank : Room := { frames := 3, cells := 0, slots := 0, locals := 66 }
def wX4_takePlank_L17 (b : Nat)   (st : St) (Q : Int32 → St → Prop) : Prop :=
  (kd (gR st b 1) = 1 ∧ ∀ c3, c3 = gR st b 1 → (kd (gR st b 0) = 6 ∧ ∀ c4, c4 = gR st b 0 → (wX7_numberAt c4 (gI st b 2) st (fun r6 st5 => (wX1_addPlank c3 r6 st5 (fun st7 => (wX4_takeNumber b 1 30 st7 (fun r9 st8 => Q r9 st8))))))))
def wX4_takePlank (b : Nat) (st : St) (Q : Int32 → St → Prop) : Prop :=
  (kd (gR st b 1) = 1 ∧ ∀ c1, c1 = gR st b 1 → (((gI st c1 6) < 12 → wX4_takePlank_L17 b st Q) ∧ (¬ (gI st c1 6) < 12 → (wX4_mark b 4 st (fun st2 => wX4_takePlank_L17 b st2 Q)))))
theorem hdX4_takePlank : yX4_takePlank.cls = "PlankBridge$Reader" ∧ yX4_takePlank.cls ≠ "java/lang/invoke/MethodHandle" ∧ yX4_takePlank.cls ≠ "java/lang/invoke/VarHandle" ∧ (parseMethodDescriptor yX4_takePlank.desc).map (fun d => d.parameters.length) = some 0 := by decide +kernel
set_option maxHeartbeats 4000000 in
set_option maxRecDepth 100000 in
theorem tX4_takePlank_L17 {l : Launch} {p : Program} {e : Env} {s : State} {m : MethodId} {args : Array Value} {below : List Frame} {meth : Method} {c : Code} {E : En0} {L : List Nat} (hL : Cov 0 54 L) (C : Cx E L "PlankBridge$Reader" cX4_takePlank 1 p s m args c) (hr : meth.sig.returnType = (some .boolean)) (hlk : meth.locks = false) {b : Nat} {Q : Int32 → St → Prop} (hb : kd b = 3)   {st : St} (H : Heap) (locs : List Loc) (ls : Array Slot) (h : wX4_takePlank_L17 b st Q) (hl : lv_has ls 1 [(0, .ref (E.2.1 b))]) (hP : va_P E.1 vwCl (wd E L st) H) (hS : va_S (fA E L s.heap.size) s.heap H locs) : W p l e rmX4_takePlank s m args below meth c H locs 0 0 (MQ below (zI E L (fun r u => bz r ∧ Q r u) (fA E L s.heap.size)) args s rmX4_takePlank.cells rmX4_takePlank.slots (fA E L s.heap.size)) (F0 m 17 ls []) := by
  unfold wX4_takePlank_L17 at h
  refine lv_aload_n C.1 C.2.1 dX4_takePlank_17 rfl (lv_at hl 0 rfl) ?_
  refine gf3_1 C hP hb (m3 hb hL) q265 dX4_takePlank_18 ?_
  obtain ⟨hc3, h⟩ := h
  obtain ⟨c3, ec3⟩ : ∃ z, z = gR st b 1 := ⟨_, rfl⟩
  rw [← ec3]; rw [← ec3] at hc3; have h := h c3 ec3
  refine lv_aload_n C.1 C.2.1 dX4_takePlank_21 rfl (lv_at hl 0 rfl) ?_
  refine gf3_0 C hP hb (m3 hb hL) q264 dX4_takePlank_22 ?_
  obtain ⟨hc4, h⟩ := h
  obtain ⟨c4, ec4⟩ : ∃ z, z = gR st b 0 := ⟨_, rfl⟩
  rw [← ec4]; rw [← ec4] at hc4; have h := h c4 ec4
  refine lv_aload_n C.1 C.2.1 dX4_takePlank_25 rfl (lv_at hl 0 rfl) ?_
  refine gf3_2 C hP hb (m3 hb hL) q266 dX4_takePlank_26 ?_
  refine z_ki hS (z_runV (As := [.int (gI st b 2)]) (rest := [.ref (E.2.1 c3)]) C hP hS (m6 hc4 hL) (e6 hc4) rfl (tX7_numberAt C.2.2.2.2.2.2.1 (hL.mo (Nat.le_of_ble_eq_true rfl) (Nat.le_of_ble_eq_true rfl)) hc4 h) q537 q538 q539 q108 q540 hdX7_numberAt ⟨Nat.le_of_ble_eq_true rfl, Nat.le_of_ble_eq_true rfl⟩ ⟨Nat.zero_le _, Nat.zero_le _⟩ rfl hl.1 rfl (lv_room (Nat.le_of_ble_eq_true rfl)) dX4_takePlank_29) (fun r6 st5 H locs h hP hS => ?_)
  refine z_kv hS (z_runV (As := [.int r6]) (rest := []) C hP hS (m1 hc3 hL) (e1 hc3) rfl (tX1_addPlank C.2.2.2.2.2.2.1 (hL.mo (Nat.le_of_ble_eq_true rfl) (Nat.le_of_ble_eq_true rfl)) hc3 h) q560 q400 q401 q107 q402 hdX1_addPlank ⟨Nat.le_of_ble_eq_true rfl, Nat.le_of_ble_eq_true rfl⟩ ⟨Nat.zero_le _, Nat.zero_le _⟩ rfl hl.1 rfl (lv_room (Nat.le_of_ble_eq_true rfl)) dX4_takePlank_32) (fun st7 H locs h hP hS => ?_)
  refine lv_aload_n C.1 C.2.1 dX4_takePlank_35 rfl (lv_at hl 0 rfl) ?_
  refine lv_iconst C.1 C.2.1 (v := 1) dX4_takePlank_36 rfl ?_
  refine lv_bipush C.1 C.2.1 (v := 30) dX4_takePlank_37 rfl ?_
  refine z_ki hS (z_runV (As := [.int 1, .int 30]) (rest := []) C hP hS (m3 hb hL) (e3 hb) rfl (tX4_takeNumber C.2.2.2.2.2.2.1 (hL.mo (Nat.le_of_ble_eq_true rfl) (Nat.le_of_ble_eq_true rfl)) hb h) q529 q531 q3 q109 q532 hdX4_takeNumber ⟨Nat.le_of_ble_eq_true rfl, Nat.le_of_ble_eq_true rfl⟩ ⟨Nat.zero_le _, Nat.zero_le _⟩ rfl hl.1 rfl (lv_room (Nat.le_of_ble_eq_true rfl)) dX4_takePlank_39) (fun r9 st8 H locs h hP hS => ?_)
  obtain ⟨hr9, h⟩ := h
  exact z_ri C hr hlk (bz_n hr9) hP hS ⟨hr9, h⟩ dX4_takePlank_42
set_option maxHeartbeats 4000000 in
set_option maxRecDepth 100000 in
theorem tX4_takePlank {l : Launch} {E : En0} {L : List Nat} (hE : EK E L) (hL : Cov 0 54 L) {b : Nat} {st : St} {Q : Int32 → St → Prop} (hb : kd b = 3) (h : wX4_takePlank b st Q) : Mz l yX4_takePlank cX4_takePlank 1 (some .boolean) rmX4_takePlank E L [.ref (E.2.1 b)] st (zI E L (fun r u => bz r ∧ Q r u)) := by
  refine Mz.of hE (by decide) (Nat.le_of_ble_eq_true rfl) ?_
  intro p e s m below meth c ls C hr hlk _ hl hP
  replace C : Cx E L "PlankBridge$Reader" cX4_takePlank 1 p s m _ c := C
  have hS : va_S (fA E L s.heap.size) s.heap s.heap [] := va_S.rf
  replace hl : lv_has ls 1 [(0, .ref (E.2.1 b))] := hl
  unfold wX4_takePlank at h
  refine lv_aload_n C.1 C.2.1 dX4_takePlank_0 rfl (lv_at hl 0 rfl) ?_
  refine gf3_1 C hP hb (m3 hb hL) q265 dX4_takePlank_1 ?_
  obtain ⟨hc1, h⟩ := h
  obtain ⟨c1, ec1⟩ : ∃ z, z = gR st b 1 := ⟨_, rfl⟩
  rw [← ec1]; rw [← ec1] at hc1; have h := h c1 ec1
  refine gn1_6 C hP hc1 (m1 hc1 hL) q204 dX4_takePlank_4 ?_
  refine lv_bipush C.1 C.2.1 (v := 12) dX4_takePlank_7 rfl ?_
  refine lv_icmp_lt C.1 C.2.1 (tgt := 17) dX4_takePlank_9 (by decide) (fun hc => ?_) (fun hc => ?_)
  · have h := h.1 hc
    exact tX4_takePlank_L17 hL C hr hlk hb _ _ _ h hl hP hS
  · have h := h.2 hc
    refine lv_aload_n C.1 C.2.1 dX4_takePlank_12 rfl (lv_at hl 0 rfl) ?_
    refine lv_iconst C.1 C.2.1 (v := 4) dX4_takePlank_13 rfl ?_
    refine z_kv hS (z_runV (As := [.int 4]) (rest := []) C hP hS (m3 hb hL) (e3 hb) rfl (tX4_mark C.2.2.2.2.2.2.1 (hL.mo (Nat.le_of_ble_eq_true rfl) (Nat.le_of_ble_eq_true rfl)) hb h) q522 q524 q2 q109 q525 hdX4_mark ⟨Nat.le_of_ble_eq_true rfl, Nat.le_of_ble_eq_true rfl⟩ ⟨Nat.zero_le _, Nat.zero_le _⟩ rfl hl.1 rfl (lv_room (Nat.le_of_ble_eq_true rfl)) dX4_takePlank_14) (fun st2 H locs h hP hS => ?_)
    exact tX4_takePlank_L17 hL C hr hlk hb _ _ _ h hl hP hS
def rmX4_takeNewName : Room := { frames := 2, cells := 0, slots := 0, locals := 43 }
def wX4_takeNewName_L53 (b : Nat) (p1 : Int32)   (st : St) (Q : Int32 → St → Prop) : Prop :=
  (wX4_take b (some 2) st (fun r13 st12 => Q r13 st12))
def wX4_takeNewName_L36 (b : Nat) (p1 : Int32)   (st : St) (Q : Int32 → St → Prop) : Prop :=
  (wX4_mark b 2 st (fun st11 => wX4_takeNewName_L53 b p1 st11 Q))
def wX4_takeNewName (b : Nat) (p1 : Int32) (st : St) (Q : Int32 → St → Prop) : Prop :=
  (kd (gR st b 0) = 6 ∧ ∀ c1, c1 = gR st b 0 → (wX7_wordAt c1 (gI st b 2) st (fun r3 st2 => (kd (gR st2 b 1) = 1 ∧ ∀ c4, c4 = gR st2 b 1 → (wX1_findWalker c4 r3 st2 (fun r6 st5 => ((¬ r6 = (-1) → wX4_takeNewName_L36 b p1 st5 Q) ∧ (r6 = (-1) → (kd (gR st5 b 1) = 1 ∧ ∀ c7, c7 = gR st5 b 1 → (wX1_findPlan c7 r3 st5 (fun r9 st8 => ((r9 = (-1) → ((p1 = 0 → wX4_takeNewName_L53 b p1 st8 Q) ∧ (¬ p1 = 0 → (wX4_mark b 4 st8 (fun st10 => wX4_takeNewName_L53 b p1 st10 Q))))) ∧ (¬ r9 = (-1) → wX4_takeNewName_L36 b p1 st8 Q)))))))))))))
theorem hdX4_takeNewName : yX4_takeNewName.cls = "PlankBridge$Reader" ∧ yX4_takeNewName.cls ≠ "java/lang/invoke/MethodHandle" ∧ yX4_takeNewName.cls ≠ "java/lang/invoke/VarHandle" ∧ (parseMethodDescriptor yX4_takeNewName.desc).map (fun d => d.parameters.length) = some 1 := by decide +kernel
set_option maxHeartbeats 4000000 in
set_option maxRecDepth 100000 in
theorem tX4_takeNewName_L53 {l : Launch} {p : Program} {e : Env} {s : State} {m : MethodId} {args : Array Value} {below : List Frame} {meth : Method} {c : Code} {E : En0} {L : List Nat} (hL : Cov 0 54 L) (C : Cx E L "PlankBridge$Reader" cX4_takeNewName 4 p s m args c) (hr : meth.sig.returnType = (some .boolean)) (hlk : meth.locks = false) {b : Nat} {p1 : Int32} {Q : Int32 → St → Prop} (hb : kd b = 3)   {st : St} (H : Heap) (locs : List Loc) (ls : Array Slot) (h : wX4_takeNewName_L53 b p1 st Q) (hl : lv_has ls 4 [(0, .ref (E.2.1 b))]) (hP : va_P E.1 vwCl (wd E L st) H) (hS : va_S (fA E L s.heap.size) s.heap H locs) : W p l e rmX4_takeNewName s m args below meth c H locs 0 0 (MQ below (zI E L (fun r u => bz r ∧ Q r u) (fA E L s.heap.size)) args s rmX4_takeNewName.cells rmX4_takeNewName.slots (fA E L s.heap.size)) (F0 m 53 ls []) := by
  unfold wX4_takeNewName_L53 at h
  refine lv_aload_n C.1 C.2.1 dX4_takeNewName_53 rfl (lv_at hl 0 rfl) ?_
  refine z_kst C hS (i := 2) (by decide) rfl q526 dX4_takeNewName_54 ?_
  refine z_ki hS (z_runV (As := [va_re E.2.2.1 (some 2)]) (rest := []) C hP hS (m3 hb hL) (e3 hb) rfl (tX4_take C.2.2.2.2.2.2.1 (hL.mo (Nat.le_of_ble_eq_true rfl) (Nat.le_of_ble_eq_true rfl)) hb h) q502 q504 q0 q109 q505 hdX4_take ⟨Nat.le_of_ble_eq_true rfl, Nat.le_of_ble_eq_true rfl⟩ ⟨Nat.zero_le _, Nat.zero_le _⟩ rfl hl.1 rfl (lv_room (Nat.le_of_ble_eq_true rfl)) dX4_takeNewName_57) (fun r13 st12 H locs h hP hS => ?_)
  obtain ⟨hr13, h⟩ := h
  exact z_ri C hr hlk (bz_n hr13) hP hS ⟨hr13, h⟩ dX4_takeNewName_60
set_option maxHeartbeats 4000000 in
set_option maxRecDepth 100000 in
theorem tX4_takeNewName_L36 {l : Launch} {p : Program} {e : Env} {s : State} {m : MethodId} {args : Array Value} {below : List Frame} {meth : Method} {c : Code} {E : En0} {L : List Nat} (hL : Cov 0 54 L) (C : Cx E L "PlankBridge$Reader" cX4_takeNewName 4 p s m args c) (hr : meth.sig.returnType = (some .boolean)) (hlk : meth.locks = false) {b : Nat} {p1 : Int32} {Q : Int32 → St → Prop} (hb : kd b = 3)   {st : St} (H : Heap) (locs : List Loc) (ls : Array Slot) (h : wX4_takeNewName_L36 b p1 st Q) (hl : lv_has ls 4 [(0, .ref (E.2.1 b))]) (hP : va_P E.1 vwCl (wd E L st) H) (hS : va_S (fA E L s.heap.size) s.heap H locs) : W p l e rmX4_takeNewName s m args below meth c H locs 0 0 (MQ below (zI E L (fun r u => bz r ∧ Q r u) (fA E L s.heap.size)) args s rmX4_takeNewName.cells rmX4_takeNewName.slots (fA E L s.heap.size)) (F0 m 36 ls []) := by
  unfold wX4_takeNewName_L36 at h
  refine lv_aload_n C.1 C.2.1 dX4_takeNewName_36 rfl (lv_at hl 0 rfl) ?_
  refine lv_iconst C.1 C.2.1 (v := 2) dX4_takeNewName_37 rfl ?_
  refine z_kv hS (z_runV (As := [.int 2]) (rest := []) C hP hS (m3 hb hL) (e3 hb) rfl (tX4_mark C.2.2.2.2.2.2.1 (hL.mo (Nat.le_of_ble_eq_true rfl) (Nat.le_of_ble_eq_true rfl)) hb h) q522 q524 q2 q109 q525 hdX4_mark ⟨Nat.le_of_ble_eq_true rfl, Nat.le_of_ble_eq_true rfl⟩ ⟨Nat.zero_le _, Nat.zero_le _⟩ rfl hl.1 rfl (lv_room (Nat.le_of_ble_eq_true rfl)) dX4_takeNewName_38) (fun st11 H locs h hP hS => ?_)
  refine lv_goto C.1 C.2.1 (tgt := 53) dX4_takeNewName_41 (by decide) ?_
  exact tX4_takeNewName_L53 hL C hr hlk hb _ _ _ h hl hP hS
set_option maxHeartbeats 4000000 in
set_option maxRecDepth 100000 in
theorem tX4_takeNewName {l : Launch} {E : En0} {L : List Nat} (hE : EK E L) (hL : Cov 0 54 L) {b : Nat} {p1 : Int32} {st : St} {Q : Int32 → St → Prop} (hb : kd b = 3) (h : wX4_takeNewName b p1 st Q) : Mz l yX4_takeNewName cX4_takeNewName 4 (some .boolean) rmX4_takeNewName E L [.ref (E.2.1 b), .int p1] st (zI E L (fun r u => bz r ∧ Q r u)) := by
  refine Mz.of hE (by decide) (Nat.le_of_ble_eq_true rfl) ?_
  intro p e s m below meth c ls C hr hlk _ hl hP
  replace C : Cx E L "PlankBridge$Reader" cX4_takeNewName 4 p s m _ c := C
  have hS : va_S (fA E L s.heap.size) s.heap s.heap [] := va_S.rf
  replace hl : lv_has ls 4 [(0, .ref (E.2.1 b)), (1, .int p1)] := hl
  unfold wX4_takeNewName at h
  refine lv_aload_n C.1 C.2.1 dX4_takeNewName_0 rfl (lv_at hl 0 rfl) ?_
  refine gf3_0 C hP hb (m3 hb hL) q264 dX4_takeNewName_1 ?_
  obtain ⟨hc1, h⟩ := h
  obtain ⟨c1, ec1⟩ : ∃ z, z = gR st b 0 := ⟨_, rfl⟩
  rw [← ec1]; rw [← ec1] at hc1; have h := h c1 ec1
  refine lv_aload_n C.1 C.2.1 dX4_takeNewName_4 rfl (lv_at hl 0 rfl) ?_
  refine gf3_2 C hP hb (m3 hb hL) q266 dX4_takeNewName_5 ?_
  refine z_kj hS (z_runV (As := [.int (gI st b 2)]) (rest := []) C hP hS (m6 hc1 hL) (e6 hc1) rfl (tX7_wordAt C.2.2.2.2.2.2.1 (hL.mo (Nat.le_of_ble_eq_true rfl) (Nat.le_of_ble_eq_true rfl)) hc1 h) q510 q511 q512 q108 q513 hdX7_wordAt ⟨Nat.le_of_ble_eq_true rfl, Nat.le_of_ble_eq_true rfl⟩ ⟨Nat.zero_le _, Nat.zero_le _⟩ rfl hl.1 rfl (lv_room (Nat.le_of_ble_eq_true rfl)) dX4_takeNewName_8) (fun r3 st2 H locs h hP hS => ?_)
  refine lv_lstore_n C.1 C.2.1 dX4_takeNewName_11 rfl hl (Nat.le_of_ble_eq_true rfl) rfl (fun ls hl => ?_)
  have hl : lv_has ls 4 [(2, .long r3), (0, .ref (E.2.1 b)), (1, .int p1)] := hl
  refine lv_aload_n C.1 C.2.1 dX4_takeNewName_12 rfl (lv_at hl 1 rfl) ?_
  refine gf3_1 C hP hb (m3 hb hL) q265 dX4_takeNewName_13 ?_
  obtain ⟨hc4, h⟩ := h
  obtain ⟨c4, ec4⟩ : ∃ z, z = gR st2 b 1 := ⟨_, rfl⟩
  rw [← ec4]; rw [← ec4] at hc4; have h := h c4 ec4
  refine lv_lload_n C.1 C.2.1 dX4_takeNewName_16 rfl (lv_at hl 0 rfl) ?_
  refine z_ki hS (z_runV (As := [.long r3]) (rest := []) C hP hS (m1 hc4 hL) (e1 hc4) rfl (tX1_findWalker C.2.2.2.2.2.2.1 (hL.mo (Nat.le_of_ble_eq_true rfl) (Nat.le_of_ble_eq_true rfl)) hc4 h) q514 q515 q516 q107 q517 hdX1_findWalker ⟨Nat.le_of_ble_eq_true rfl, Nat.le_of_ble_eq_true rfl⟩ ⟨Nat.zero_le _, Nat.zero_le _⟩ rfl hl.1 rfl (lv_room (Nat.le_of_ble_eq_true rfl)) dX4_takeNewName_17) (fun r6 st5 H locs h hP hS => ?_)
  refine lv_iconst C.1 C.2.1 (v := (-1)) dX4_takeNewName_20 rfl ?_
  refine lv_icmp_ne C.1 C.2.1 (tgt := 36) dX4_takeNewName_21 (by decide) (fun hc => ?_) (fun hc => ?_)
  · have h := h.1 hc
    exact tX4_takeNewName_L36 hL C hr hlk hb _ _ _ h (lv_sub hl [1] rfl) hP hS
  · have h := h.2 hc
    refine lv_aload_n C.1 C.2.1 dX4_takeNewName_24 rfl (lv_at hl 1 rfl) ?_
    refine gf3_1 C hP hb (m3 hb hL) q265 dX4_takeNewName_25 ?_
    obtain ⟨hc7, h⟩ := h
    obtain ⟨c7, ec7⟩ : ∃ z, z = gR st5 b 1 := ⟨_, rfl⟩
    rw [← ec7]; rw [← ec7] at hc7; have h := h c7 ec7
    refine lv_lload_n C.1 C.2.1 dX4_takeNewName_28 rfl (lv_at hl 0 rfl) ?_
    refine z_ki hS (z_runV (As := [.long r3]) (rest := []) C hP hS (m1 hc7 hL) (e1 hc7) rfl (tX1_findPlan C.2.2.2.2.2.2.1 (hL.mo (Nat.le_of_ble_eq_true rfl) (Nat.le_of_ble_eq_true rfl)) hc7 h) q518 q519 q520 q107 q521 hdX1_findPlan ⟨Nat.le_of_ble_eq_true rfl, Nat.le_of_ble_eq_true rfl⟩ ⟨Nat.zero_le _, Nat.zero_le _⟩ rfl hl.1 rfl (lv_room (Nat.le_of_ble_eq_true rfl)) dX4_takeNewName_29) (fun r9 st8 H locs h hP hS => ?_)
    refine lv_iconst C.1 C.2.1 (v := (-1)) dX4_takeNewName_32 rfl ?_
    refine lv_icmp_eq C.1 C.2.1 (tgt := 44) dX4_takeNewName_33 (by decide) (fun hc => ?_) (fun hc => ?_)
    · have h := h.1 hc
      refine lv_iload_n C.1 C.2.1 dX4_takeNewName_44 rfl (lv_at hl 2 rfl) ?_
      refine lv_if_eq C.1 C.2.1 (tgt := 53) dX4_takeNewName_45 (by decide) (fun hc => ?_) (fun hc => ?_)
      · have h := h.1 hc
        exact tX4_takeNewName_L53 hL C hr hlk hb _ _ _ h (lv_sub hl [1] rfl) hP hS
      · have h := h.2 hc
        refine lv_aload_n C.1 C.2.1 dX4_takeNewName_48 rfl (lv_at hl 1 rfl) ?_
        refine lv_iconst C.1 C.2.1 (v := 4) dX4_takeNewName_49 rfl ?_
        refine z_kv hS (z_runV (As := [.int 4]) (rest := []) C hP hS (m3 hb hL) (e3 hb) rfl (tX4_mark C.2.2.2.2.2.2.1 (hL.mo (Nat.le_of_ble_eq_true rfl) (Nat.le_of_ble_eq_true rfl)) hb h) q522 q524 q2 q109 q525 hdX4_mark ⟨Nat.le_of_ble_eq_true rfl, Nat.le_of_ble_eq_true rfl⟩ ⟨Nat.zero_le _, Nat.zero_le _⟩ rfl hl.1 rfl (lv_room (Nat.le_of_ble_eq_true rfl)) dX4_takeNewName_50) (fun st10 H locs h hP hS => ?_)
        exact tX4_takeNewName_L53 hL C hr hlk hb _ _ _ h (lv_sub hl [1] rfl) hP hS
    · have h := h.2 hc
      exact tX4_takeNewName_L36 hL C hr hlk hb _ _ _ h (lv_sub hl [1] rfl) hP hS
def rmX4_takePlanName : Room := { frames := 2, cells := 0, slots := 0, locals := 43 }
def wX4_takePlanName_L29 (b : Nat)  (v1 : Int32) (st : St) (Q : Int32 → St → Prop) : Prop :=
  (kd (gR st b 0) = 6 ∧ ∀ c8, c8 = gR st b 0 → (wX7_resolve c8 (gI st b 2) v1 st (fun st9 => (wX4_take b (some 2) st9 (fun r11 st10 => Q r11 st10)))))
def wX4_takePlanName (b : Nat) (st : St) (Q : Int32 → St → Prop) : Prop :=
  (kd (gR st b 1) = 1 ∧ ∀ c1, c1 = gR st b 1 → (kd (gR st b 0) = 6 ∧ ∀ c2, c2 = gR st b 0 → (wX7_wordAt c2 (gI st b 2) st (fun r4 st3 => (wX1_findPlan c1 r4 st3 (fun r6 st5 => ((¬ r6 = (-1) → wX4_takePlanName_L29 b r6 st5 Q) ∧ (r6 = (-1) → (wX4_mark b 3 st5 (fun st7 => wX4_takePlanName_L29 b r6 st7 Q))))))))))
theorem hdX4_takePlanName : yX4_takePlanName.cls = "PlankBridge$Reader" ∧ yX4_takePlanName.cls ≠ "java/lang/invoke/MethodHandle" ∧ yX4_takePlanName.cls ≠ "java/lang/invoke/VarHandle" ∧ (parseMethodDescriptor yX4_takePlanName.desc).map (fun d => d.parameters.length) = some 0 := by decide +kernel
set_option maxHeartbeats 4000000 in
set_option maxRecDepth 100000 in
theorem tX4_takePlanName_L29 {l : Launch} {p : Program} {e : Env} {s : State} {m : MethodId} {args : Array Value} {below : List Frame} {meth : Method} {c : Code} {E : En0} {L : List Nat} (hL : Cov 0 54 L) (C : Cx E L "PlankBridge$Reader" cX4_takePlanName 2 p s m args c) (hr : meth.sig.returnType = (some .boolean)) (hlk : meth.locks = false) {b : Nat} {Q : Int32 → St → Prop} (hb : kd b = 3) {v1 : Int32}  {st : St} (H : Heap) (locs : List Loc) (ls : Array Slot) (h : wX4_takePlanName_L29 b v1 st Q) (hl : lv_has ls 2 [(0, .ref (E.2.1 b)), (1, .int v1)]) (hP : va_P E.1 vwCl (wd E L st) H) (hS : va_S (fA E L s.heap.size) s.heap H locs) : W p l e rmX4_takePlanName s m args below meth c H locs 0 0 (MQ below (zI E L (fun r u => bz r ∧ Q r u) (fA E L s.heap.size)) args s rmX4_takePlanName.cells rmX4_takePlanName.slots (fA E L s.heap.size)) (F0 m 29 ls []) := by
  unfold wX4_takePlanName_L29 at h
  refine lv_aload_n C.1 C.2.1 dX4_takePlanName_29 rfl (lv_at hl 0 rfl) ?_
  refine gf3_0 C hP hb (m3 hb hL) q264 dX4_takePlanName_30 ?_
  obtain ⟨hc8, h⟩ := h
  obtain ⟨c8, ec8⟩ : ∃ z, z = gR st b 0 := ⟨_, rfl⟩
  rw [← ec8]; rw [← ec8] at hc8; have h := h c8 ec8
  refine lv_aload_n C.1 C.2.1 dX4_takePlanName_33 rfl (lv_at hl 0 rfl) ?_
  refine gf3_2 C hP hb (m3 hb hL) q266 dX4_takePlanName_34 ?_
  refine lv_iload_n C.1 C.2.1 dX4_takePlanName_37 rfl (lv_at hl 1 rfl) ?_
  refine z_kv hS (z_runV (As := [.int (gI st b 2), .int v1]) (rest := []) C hP hS (m6 hc8 hL) (e6 hc8) rfl (tX7_resolve C.2.2.2.2.2.2.1 (hL.mo (Nat.le_of_ble_eq_true rfl) (Nat.le_of_ble_eq_true rfl)) hc8 h) q613 q614 q615 q108 q616 hdX7_resolve ⟨Nat.le_of_ble_eq_true rfl, Nat.le_of_ble_eq_true rfl⟩ ⟨Nat.zero_le _, Nat.zero_le _⟩ rfl hl.1 rfl (lv_room (Nat.le_of_ble_eq_true rfl)) dX4_takePlanName_38) (fun st9 H locs h hP hS => ?_)
  refine lv_aload_n C.1 C.2.1 dX4_takePlanName_41 rfl (lv_at hl 0 rfl) ?_
  refine z_kst C hS (i := 2) (by decide) rfl q526 dX4_takePlanName_42 ?_
  refine z_ki hS (z_runV (As := [va_re E.2.2.1 (some 2)]) (rest := []) C hP hS (m3 hb hL) (e3 hb) rfl (tX4_take C.2.2.2.2.2.2.1 (hL.mo (Nat.le_of_ble_eq_true rfl) (Nat.le_of_ble_eq_true rfl)) hb h) q502 q504 q0 q109 q505 hdX4_take ⟨Nat.le_of_ble_eq_true rfl, Nat.le_of_ble_eq_true rfl⟩ ⟨Nat.zero_le _, Nat.zero_le _⟩ rfl hl.1 rfl (lv_room (Nat.le_of_ble_eq_true rfl)) dX4_takePlanName_45) (fun r11 st10 H locs h hP hS => ?_)
  obtain ⟨hr11, h⟩ := h
  exact z_ri C hr hlk (bz_n hr11) hP hS ⟨hr11, h⟩ dX4_takePlanName_48
set_option maxHeartbeats 4000000 in
set_option maxRecDepth 100000 in
theorem tX4_takePlanName {l : Launch} {E : En0} {L : List Nat} (hE : EK E L) (hL : Cov 0 54 L) {b : Nat} {st : St} {Q : Int32 → St → Prop} (hb : kd b = 3) (h : wX4_takePlanName b st Q) : Mz l yX4_takePlanName cX4_takePlanName 2 (some .boolean) rmX4_takePlanName E L [.ref (E.2.1 b)] st (zI E L (fun r u => bz r ∧ Q r u)) := by
  refine Mz.of hE (by decide) (Nat.le_of_ble_eq_true rfl) ?_
  intro p e s m below meth c ls C hr hlk _ hl hP
  replace C : Cx E L "PlankBridge$Reader" cX4_takePlanName 2 p s m _ c := C
  have hS : va_S (fA E L s.heap.size) s.heap s.heap [] := va_S.rf
  replace hl : lv_has ls 2 [(0, .ref (E.2.1 b))] := hl
  unfold wX4_takePlanName at h
  refine lv_aload_n C.1 C.2.1 dX4_takePlanName_0 rfl (lv_at hl 0 rfl) ?_
  refine gf3_1 C hP hb (m3 hb hL) q265 dX4_takePlanName_1 ?_
  obtain ⟨hc1, h⟩ := h
  obtain ⟨c1, ec1⟩ : ∃ z, z = gR st b 1 := ⟨_, rfl⟩
  rw [← ec1]; rw [← ec1] at hc1; have h := h c1 ec1
  refine lv_aload_n C.1 C.2.1 dX4_takePlanName_4 rfl (lv_at hl 0 rfl) ?_
  refine gf3_0 C hP hb (m3 hb hL) q264 dX4_takePlanName_5 ?_
  obtain ⟨hc2, h⟩ := h
  obtain ⟨c2, ec2⟩ : ∃ z, z = gR st b 0 := ⟨_, rfl⟩
  rw [← ec2]; rw [← ec2] at hc2; have h := h c2 ec2
  refine lv_aload_n C.1 C.2.1 dX4_takePlanName_8 rfl (lv_at hl 0 rfl) ?_
  refine gf3_2 C hP hb (m3 hb hL) q266 dX4_takePlanName_9 ?_
  refine z_kj hS (z_runV (As := [.int (gI st b 2)]) (rest := [.ref (E.2.1 c1)]) C hP hS (m6 hc2 hL) (e6 hc2) rfl (tX7_wordAt C.2.2.2.2.2.2.1 (hL.mo (Nat.le_of_ble_eq_true rfl) (Nat.le_of_ble_eq_true rfl)) hc2 h) q510 q511 q512 q108 q513 hdX7_wordAt ⟨Nat.le_of_ble_eq_true rfl, Nat.le_of_ble_eq_true rfl⟩ ⟨Nat.zero_le _, Nat.zero_le _⟩ rfl hl.1 rfl (lv_room (Nat.le_of_ble_eq_true rfl)) dX4_takePlanName_12) (fun r4 st3 H locs h hP hS => ?_)
  refine z_ki hS (z_runV (As := [.long r4]) (rest := []) C hP hS (m1 hc1 hL) (e1 hc1) rfl (tX1_findPlan C.2.2.2.2.2.2.1 (hL.mo (Nat.le_of_ble_eq_true rfl) (Nat.le_of_ble_eq_true rfl)) hc1 h) q518 q519 q520 q107 q521 hdX1_findPlan ⟨Nat.le_of_ble_eq_true rfl, Nat.le_of_ble_eq_true rfl⟩ ⟨Nat.zero_le _, Nat.zero_le _⟩ rfl hl.1 rfl (lv_room (Nat.le_of_ble_eq_true rfl)) dX4_takePlanName_15) (fun r6 st5 H locs h hP hS => ?_)
  refine lv_istore_n C.1 C.2.1 dX4_takePlanName_18 rfl hl (Nat.le_of_ble_eq_true rfl) rfl (fun ls hl => ?_)
  have hl : lv_has ls 2 [(1, .int r6), (0, .ref (E.2.1 b))] := hl
  refine lv_iload_n C.1 C.2.1 dX4_takePlanName_19 rfl (lv_at hl 0 rfl) ?_
  refine lv_iconst C.1 C.2.1 (v := (-1)) dX4_takePlanName_20 rfl ?_
  refine lv_icmp_ne C.1 C.2.1 (tgt := 29) dX4_takePlanName_21 (by decide) (fun hc => ?_) (fun hc => ?_)
  · have h := h.1 hc
    exact tX4_takePlanName_L29 hL C hr hlk hb _ _ _ h (lv_sub hl [1, 0] rfl) hP hS
  · have h := h.2 hc
    refine lv_aload_n C.1 C.2.1 dX4_takePlanName_24 rfl (lv_at hl 1 rfl) ?_
    refine lv_iconst C.1 C.2.1 (v := 3) dX4_takePlanName_25 rfl ?_
    refine z_kv hS (z_runV (As := [.int 3]) (rest := []) C hP hS (m3 hb hL) (e3 hb) rfl (tX4_mark C.2.2.2.2.2.2.1 (hL.mo (Nat.le_of_ble_eq_true rfl) (Nat.le_of_ble_eq_true rfl)) hb h) q522 q524 q2 q109 q525 hdX4_mark ⟨Nat.le_of_ble_eq_true rfl, Nat.le_of_ble_eq_true rfl⟩ ⟨Nat.zero_le _, Nat.zero_le _⟩ rfl hl.1 rfl (lv_room (Nat.le_of_ble_eq_true rfl)) dX4_takePlanName_26) (fun st7 H locs h hP hS => ?_)
    exact tX4_takePlanName_L29 hL C hr hlk hb _ _ _ h (lv_sub hl [1, 0] rfl) hP hS
def rmX4_takeWho : Room := { frames := 2, cells := 0, slots := 0, locals := 43 }
def wX4_takeWho_L48 (b : Nat)  (v1 : Int32) (st : St) (Q : Int32 → St → Prop) : Prop :=
  (kd (gR st b 0) = 6 ∧ ∀ c13, c13 = gR st b 0 → (wX7_resolve c13 (gI st b 2) v1 st (fun st14 => (wX4_take b (some 2) st14 (fun r16 st15 => Q r16 st15)))))
def wX4_takeWho (b : Nat) (st : St) (Q : Int32 → St → Prop) : Prop :=
  (∃ k1, (gK st b 3) = some k1 ∧ k1 < 37 ∧ (wX3_isChoice k1 st (fun r3 st2 => ((r3 = 0 → (kd (gR st2 b 1) = 1 ∧ ∀ c4, c4 = gR st2 b 1 → (kd (gR st2 b 0) = 6 ∧ ∀ c5, c5 = gR st2 b 0 → (wX7_wordAt c5 (gI st2 b 2) st2 (fun r7 st6 => (wX1_findWalker c4 r7 st6 (fun r9 st8 => ((¬ r9 = (-1) → wX4_takeWho_L48 b r9 st8 Q) ∧ (r9 = (-1) → (wX4_mark b 3 st8 (fun st10 => wX4_takeWho_L48 b r9 st10 Q))))))))))) ∧ (¬ r3 = 0 → (wX4_take b (gK st2 b 3) st2 (fun r12 st11 => Q r12 st11)))))))
theorem hdX4_takeWho : yX4_takeWho.cls = "PlankBridge$Reader" ∧ yX4_takeWho.cls ≠ "java/lang/invoke/MethodHandle" ∧ yX4_takeWho.cls ≠ "java/lang/invoke/VarHandle" ∧ (parseMethodDescriptor yX4_takeWho.desc).map (fun d => d.parameters.length) = some 0 := by decide +kernel
set_option maxHeartbeats 4000000 in
set_option maxRecDepth 100000 in
theorem tX4_takeWho_L48 {l : Launch} {p : Program} {e : Env} {s : State} {m : MethodId} {args : Array Value} {below : List Frame} {meth : Method} {c : Code} {E : En0} {L : List Nat} (hL : Cov 0 54 L) (C : Cx E L "PlankBridge$Reader" cX4_takeWho 2 p s m args c) (hr : meth.sig.returnType = (some .boolean)) (hlk : meth.locks = false) {b : Nat} {Q : Int32 → St → Prop} (hb : kd b = 3) {v1 : Int32}  {st : St} (H : Heap) (locs : List Loc) (ls : Array Slot) (h : wX4_takeWho_L48 b v1 st Q) (hl : lv_has ls 2 [(0, .ref (E.2.1 b)), (1, .int v1)]) (hP : va_P E.1 vwCl (wd E L st) H) (hS : va_S (fA E L s.heap.size) s.heap H locs) : W p l e rmX4_takeWho s m args below meth c H locs 0 0 (MQ below (zI E L (fun r u => bz r ∧ Q r u) (fA E L s.heap.size)) args s rmX4_takeWho.cells rmX4_takeWho.slots (fA E L s.heap.size)) (F0 m 48 ls []) := by
  unfold wX4_takeWho_L48 at h
  refine lv_aload_n C.1 C.2.1 dX4_takeWho_48 rfl (lv_at hl 0 rfl) ?_
  refine gf3_0 C hP hb (m3 hb hL) q264 dX4_takeWho_49 ?_
  obtain ⟨hc13, h⟩ := h
  obtain ⟨c13, ec13⟩ : ∃ z, z = gR st b 0 := ⟨_, rfl⟩
  rw [← ec13]; rw [← ec13] at hc13; have h := h c13 ec13
  refine lv_aload_n C.1 C.2.1 dX4_takeWho_52 rfl (lv_at hl 0 rfl) ?_
  refine gf3_2 C hP hb (m3 hb hL) q266 dX4_takeWho_53 ?_
  refine lv_iload_n C.1 C.2.1 dX4_takeWho_56 rfl (lv_at hl 1 rfl) ?_
  refine z_kv hS (z_runV (As := [.int (gI st b 2), .int v1]) (rest := []) C hP hS (m6 hc13 hL) (e6 hc13) rfl (tX7_resolve C.2.2.2.2.2.2.1 (hL.mo (Nat.le_of_ble_eq_true rfl) (Nat.le_of_ble_eq_true rfl)) hc13 h) q613 q614 q615 q108 q616 hdX7_resolve ⟨Nat.le_of_ble_eq_true rfl, Nat.le_of_ble_eq_true rfl⟩ ⟨Nat.zero_le _, Nat.zero_le _⟩ rfl hl.1 rfl (lv_room (Nat.le_of_ble_eq_true rfl)) dX4_takeWho_57) (fun st14 H locs h hP hS => ?_)
  refine lv_aload_n C.1 C.2.1 dX4_takeWho_60 rfl (lv_at hl 0 rfl) ?_
  refine z_kst C hS (i := 2) (by decide) rfl q526 dX4_takeWho_61 ?_
  refine z_ki hS (z_runV (As := [va_re E.2.2.1 (some 2)]) (rest := []) C hP hS (m3 hb hL) (e3 hb) rfl (tX4_take C.2.2.2.2.2.2.1 (hL.mo (Nat.le_of_ble_eq_true rfl) (Nat.le_of_ble_eq_true rfl)) hb h) q502 q504 q0 q109 q505 hdX4_take ⟨Nat.le_of_ble_eq_true rfl, Nat.le_of_ble_eq_true rfl⟩ ⟨Nat.zero_le _, Nat.zero_le _⟩ rfl hl.1 rfl (lv_room (Nat.le_of_ble_eq_true rfl)) dX4_takeWho_64) (fun r16 st15 H locs h hP hS => ?_)
  obtain ⟨hr16, h⟩ := h
  exact z_ri C hr hlk (bz_n hr16) hP hS ⟨hr16, h⟩ dX4_takeWho_67
set_option maxHeartbeats 4000000 in
set_option maxRecDepth 100000 in
theorem tX4_takeWho {l : Launch} {E : En0} {L : List Nat} (hE : EK E L) (hL : Cov 0 54 L) {b : Nat} {st : St} {Q : Int32 → St → Prop} (hb : kd b = 3) (h : wX4_takeWho b st Q) : Mz l yX4_takeWho cX4_takeWho 2 (some .boolean) rmX4_takeWho E L [.ref (E.2.1 b)] st (zI E L (fun r u => bz r ∧ Q r u)) := by
  refine Mz.of hE (by decide) (Nat.le_of_ble_eq_true rfl) ?_
  intro p e s m below meth c ls C hr hlk _ hl hP
  replace C : Cx E L "PlankBridge$Reader" cX4_takeWho 2 p s m _ c := C
  have hS : va_S (fA E L s.heap.size) s.heap s.heap [] := va_S.rf
  replace hl : lv_has ls 2 [(0, .ref (E.2.1 b))] := hl
  unfold wX4_takeWho at h
  refine lv_aload_n C.1 C.2.1 dX4_takeWho_0 rfl (lv_at hl 0 rfl) ?_
  refine gf3_3 C hP hb (m3 hb hL) q267 dX4_takeWho_1 ?_
  obtain ⟨k1, ek1, lk1, h⟩ := h
  refine z_ki hS (z_runKE (As := []) (rest := []) C hP hS ek1 lk1 (tX3_isChoice C.2.2.2.2.2.2.1 (hL.mo (Nat.le_of_ble_eq_true rfl) (Nat.le_of_ble_eq_true rfl)) lk1 h) q601 q602 q603 q111 q604 hdX3_isChoice ⟨Nat.le_of_ble_eq_true rfl, Nat.le_of_ble_eq_true rfl⟩ ⟨Nat.zero_le _, Nat.zero_le _⟩ rfl hl.1 (lv_room (Nat.le_of_ble_eq_true rfl)) dX4_takeWho_4) (fun r3 st2 H locs h hP hS => ?_)
  obtain ⟨hr3, h⟩ := h
  refine lv_if_eq C.1 C.2.1 (tgt := 19) dX4_takeWho_7 (by decide) (fun hc => ?_) (fun hc => ?_)
  · have h := h.1 hc
    refine lv_aload_n C.1 C.2.1 dX4_takeWho_19 rfl (lv_at hl 0 rfl) ?_
    refine gf3_1 C hP hb (m3 hb hL) q265 dX4_takeWho_20 ?_
    obtain ⟨hc4, h⟩ := h
    obtain ⟨c4, ec4⟩ : ∃ z, z = gR st2 b 1 := ⟨_, rfl⟩
    rw [← ec4]; rw [← ec4] at hc4; have h := h c4 ec4
    refine lv_aload_n C.1 C.2.1 dX4_takeWho_23 rfl (lv_at hl 0 rfl) ?_
    refine gf3_0 C hP hb (m3 hb hL) q264 dX4_takeWho_24 ?_
    obtain ⟨hc5, h⟩ := h
    obtain ⟨c5, ec5⟩ : ∃ z, z = gR st2 b 0 := ⟨_, rfl⟩
    rw [← ec5]; rw [← ec5] at hc5; have h := h c5 ec5
    refine lv_aload_n C.1 C.2.1 dX4_takeWho_27 rfl (lv_at hl 0 rfl) ?_
    refine gf3_2 C hP hb (m3 hb hL) q266 dX4_takeWho_28 ?_
    refine z_kj hS (z_runV (As := [.int (gI st2 b 2)]) (rest := [.ref (E.2.1 c4)]) C hP hS (m6 hc5 hL) (e6 hc5) rfl (tX7_wordAt C.2.2.2.2.2.2.1 (hL.mo (Nat.le_of_ble_eq_true rfl) (Nat.le_of_ble_eq_true rfl)) hc5 h) q510 q511 q512 q108 q513 hdX7_wordAt ⟨Nat.le_of_ble_eq_true rfl, Nat.le_of_ble_eq_true rfl⟩ ⟨Nat.zero_le _, Nat.zero_le _⟩ rfl hl.1 rfl (lv_room (Nat.le_of_ble_eq_true rfl)) dX4_takeWho_31) (fun r7 st6 H locs h hP hS => ?_)
    refine z_ki hS (z_runV (As := [.long r7]) (rest := []) C hP hS (m1 hc4 hL) (e1 hc4) rfl (tX1_findWalker C.2.2.2.2.2.2.1 (hL.mo (Nat.le_of_ble_eq_true rfl) (Nat.le_of_ble_eq_true rfl)) hc4 h) q514 q515 q516 q107 q517 hdX1_findWalker ⟨Nat.le_of_ble_eq_true rfl, Nat.le_of_ble_eq_true rfl⟩ ⟨Nat.zero_le _, Nat.zero_le _⟩ rfl hl.1 rfl (lv_room (Nat.le_of_ble_eq_true rfl)) dX4_takeWho_34) (fun r9 st8 H locs h hP hS => ?_)
    refine lv_istore_n C.1 C.2.1 dX4_takeWho_37 rfl hl (Nat.le_of_ble_eq_true rfl) rfl (fun ls hl => ?_)
    have hl : lv_has ls 2 [(1, .int r9), (0, .ref (E.2.1 b))] := hl
    refine lv_iload_n C.1 C.2.1 dX4_takeWho_38 rfl (lv_at hl 0 rfl) ?_
    refine lv_iconst C.1 C.2.1 (v := (-1)) dX4_takeWho_39 rfl ?_
    refine lv_icmp_ne C.1 C.2.1 (tgt := 48) dX4_takeWho_40 (by decide) (fun hc => ?_) (fun hc => ?_)
    · have h := h.1 hc
      exact tX4_takeWho_L48 hL C hr hlk hb _ _ _ h (lv_sub hl [1, 0] rfl) hP hS
    · have h := h.2 hc
      refine lv_aload_n C.1 C.2.1 dX4_takeWho_43 rfl (lv_at hl 1 rfl) ?_
      refine lv_iconst C.1 C.2.1 (v := 3) dX4_takeWho_44 rfl ?_
      refine z_kv hS (z_runV (As := [.int 3]) (rest := []) C hP hS (m3 hb hL) (e3 hb) rfl (tX4_mark C.2.2.2.2.2.2.1 (hL.mo (Nat.le_of_ble_eq_true rfl) (Nat.le_of_ble_eq_true rfl)) hb h) q522 q524 q2 q109 q525 hdX4_mark ⟨Nat.le_of_ble_eq_true rfl, Nat.le_of_ble_eq_true rfl⟩ ⟨Nat.zero_le _, Nat.zero_le _⟩ rfl hl.1 rfl (lv_room (Nat.le_of_ble_eq_true rfl)) dX4_takeWho_45) (fun st10 H locs h hP hS => ?_)
      exact tX4_takeWho_L48 hL C hr hlk hb _ _ _ h (lv_sub hl [1, 0] rfl) hP hS
  · have h := h.2 hc
    refine lv_aload_n C.1 C.2.1 dX4_takeWho_10 rfl (lv_at hl 0 rfl) ?_
    refine lv_aload_n C.1 C.2.1 dX4_takeWho_11 rfl (lv_at hl 0 rfl) ?_
    refine gf3_3 C hP hb (m3 hb hL) q267 dX4_takeWho_12 ?_
    refine z_ki hS (z_runV (As := [va_re E.2.2.1 (gK st2 b 3)]) (rest := []) C hP hS (m3 hb hL) (e3 hb) rfl (tX4_take C.2.2.2.2.2.2.1 (hL.mo (Nat.le_of_ble_eq_true rfl) (Nat.le_of_ble_eq_true rfl)) hb h) q502 q504 q0 q109 q505 hdX4_take ⟨Nat.le_of_ble_eq_true rfl, Nat.le_of_ble_eq_true rfl⟩ ⟨Nat.zero_le _, Nat.zero_le _⟩ rfl hl.1 rfl (lv_room (Nat.le_of_ble_eq_true rfl)) dX4_takeWho_15) (fun r12 st11 H locs h hP hS => ?_)
    obtain ⟨hr12, h⟩ := h
    exact z_ri C hr hlk (bz_n hr12) hP hS ⟨hr12, h⟩ dX4_takeWho_18
def rmX4_takeValue : Room := { frames := 2, cells := 0, slots := 0, locals := 44 }
def wX4_takeValue (b : Nat) (st : St) (Q : Int32 → St → Prop) : Prop :=
  (∃ k1, (gK st b 3) = some k1 ∧ k1 < 37 ∧ (wX3_isMeasure k1 st (fun r3 st2 => ((r3 = 0 → (wX4_markOutside b 0 99 st2 (fun st4 => (wX4_take b (some 3) st4 (fun r6 st5 => Q r6 st5))))) ∧ (¬ r3 = 0 → (wX4_take b (gK st2 b 3) st2 (fun r8 st7 => Q r8 st7)))))))
theorem hdX4_takeValue : yX4_takeValue.cls = "PlankBridge$Reader" ∧ yX4_takeValue.cls ≠ "java/lang/invoke/MethodHandle" ∧ yX4_takeValue.cls ≠ "java/lang/invoke/VarHandle" ∧ (parseMethodDescriptor yX4_takeValue.desc).map (fun d => d.parameters.length) = some 0 := by decide +kernel
set_option maxHeartbeats 4000000 in
set_option maxRecDepth 100000 in
theorem tX4_takeValue {l : Launch} {E : En0} {L : List Nat} (hE : EK E L) (hL : Cov 0 54 L) {b : Nat} {st : St} {Q : Int32 → St → Prop} (hb : kd b = 3) (h : wX4_takeValue b st Q) : Mz l yX4_takeValue cX4_takeValue 1 (some .boolean) rmX4_takeValue E L [.ref (E.2.1 b)] st (zI E L (fun r u => bz r ∧ Q r u)) := by
  refine Mz.of hE (by decide) (Nat.le_of_ble_eq_true rfl) ?_
  intro p e s m below meth c ls C hr hlk _ hl hP
  replace C : Cx E L "PlankBridge$Reader" cX4_takeValue 1 p s m _ c := C
  have hS : va_S (fA E L s.heap.size) s.heap s.heap [] := va_S.rf
  replace hl : lv_has ls 1 [(0, .ref (E.2.1 b))] := hl
  unfold wX4_takeValue at h
  refine lv_aload_n C.1 C.2.1 dX4_takeValue_0 rfl (lv_at hl 0 rfl) ?_
  refine gf3_3 C hP hb (m3 hb hL) q267 dX4_takeValue_1 ?_
  obtain ⟨k1, ek1, lk1, h⟩ := h
  refine z_ki hS (z_runKE (As := []) (rest := []) C hP hS ek1 lk1 (tX3_isMeasure C.2.2.2.2.2.2.1 (hL.mo (Nat.le_of_ble_eq_true rfl) (Nat.le_of_ble_eq_true rfl)) lk1 h) q623 q624 q625 q111 q626 hdX3_isMeasure ⟨Nat.le_of_ble_eq_true rfl, Nat.le_of_ble_eq_true rfl⟩ ⟨Nat.zero_le _, Nat.zero_le _⟩ rfl hl.1 (lv_room (Nat.le_of_ble_eq_true rfl)) dX4_takeValue_4) (fun r3 st2 H locs h hP hS => ?_)
  obtain ⟨hr3, h⟩ := h
  refine lv_if_eq C.1 C.2.1 (tgt := 19) dX4_takeValue_7 (by decide) (fun hc => ?_) (fun hc => ?_)
  · have h := h.1 hc
    refine lv_aload_n C.1 C.2.1 dX4_takeValue_19 rfl (lv_at hl 0 rfl) ?_
    refine lv_iconst C.1 C.2.1 (v := 0) dX4_takeValue_20 rfl ?_
    refine lv_bipush C.1 C.2.1 (v := 99) dX4_takeValue_21 rfl ?_
    refine z_kv hS (z_runV (As := [.int 0, .int 99]) (rest := []) C hP hS (m3 hb hL) (e3 hb) rfl (tX4_markOutside C.2.2.2.2.2.2.1 (hL.mo (Nat.le_of_ble_eq_true rfl) (Nat.le_of_ble_eq_true rfl)) hb h) q533 q535 q4 q109 q536 hdX4_markOutside ⟨Nat.le_of_ble_eq_true rfl, Nat.le_of_ble_eq_true rfl⟩ ⟨Nat.zero_le _, Nat.zero_le _⟩ rfl hl.1 rfl (lv_room (Nat.le_of_ble_eq_true rfl)) dX4_takeValue_23) (fun st4 H locs h hP hS => ?_)
    refine lv_aload_n C.1 C.2.1 dX4_takeValue_26 rfl (lv_at hl 0 rfl) ?_
    refine z_kst C hS (i := 3) (by decide) rfl q541 dX4_takeValue_27 ?_
    refine z_ki hS (z_runV (As := [va_re E.2.2.1 (some 3)]) (rest := []) C hP hS (m3 hb hL) (e3 hb) rfl (tX4_take C.2.2.2.2.2.2.1 (hL.mo (Nat.le_of_ble_eq_true rfl) (Nat.le_of_ble_eq_true rfl)) hb h) q502 q504 q0 q109 q505 hdX4_take ⟨Nat.le_of_ble_eq_true rfl, Nat.le_of_ble_eq_true rfl⟩ ⟨Nat.zero_le _, Nat.zero_le _⟩ rfl hl.1 rfl (lv_room (Nat.le_of_ble_eq_true rfl)) dX4_takeValue_30) (fun r6 st5 H locs h hP hS => ?_)
    obtain ⟨hr6, h⟩ := h
    exact z_ri C hr hlk (bz_n hr6) hP hS ⟨hr6, h⟩ dX4_takeValue_33
  · have h := h.2 hc
    refine lv_aload_n C.1 C.2.1 dX4_takeValue_10 rfl (lv_at hl 0 rfl) ?_
    refine lv_aload_n C.1 C.2.1 dX4_takeValue_11 rfl (lv_at hl 0 rfl) ?_
    refine gf3_3 C hP hb (m3 hb hL) q267 dX4_takeValue_12 ?_
    refine z_ki hS (z_runV (As := [va_re E.2.2.1 (gK st2 b 3)]) (rest := []) C hP hS (m3 hb hL) (e3 hb) rfl (tX4_take C.2.2.2.2.2.2.1 (hL.mo (Nat.le_of_ble_eq_true rfl) (Nat.le_of_ble_eq_true rfl)) hb h) q502 q504 q0 q109 q505 hdX4_take ⟨Nat.le_of_ble_eq_true rfl, Nat.le_of_ble_eq_true rfl⟩ ⟨Nat.zero_le _, Nat.zero_le _⟩ rfl hl.1 rfl (lv_room (Nat.le_of_ble_eq_true rfl)) dX4_takeValue_15) (fun r8 st7 H locs h hP hS => ?_)
    obtain ⟨hr8, h⟩ := h
    exact z_ri C hr hlk (bz_n hr8) hP hS ⟨hr8, h⟩ dX4_takeValue_18
def rmX4_takeCompares : Room := { frames := 3, cells := 0, slots := 0, locals := 64 }
def wX4_takeCompares_L2 (b : Nat)  (R2 : Int32 × St → Prop) (v1 : Int32) (st : St) (Q : Int32 → St → Prop) : Prop :=
  ((400 ≤ v1 → Q 0 st) ∧ (¬ 400 ≤ v1 → (wX4_takeValue b st (fun r2 st1 => ((r2 = 0 → Q 0 st1) ∧ (¬ r2 = 0 → (∃ k3, (gK st1 b 3) = some k3 ∧ k3 < 37 ∧ (wX3_isComparison k3 st1 (fun r5 st4 => ((r5 = 0 → Q 0 st4) ∧ (¬ r5 = 0 → (wX4_take b (gK st4 b 3) st4 (fun r7 st6 => ((r7 = 0 → Q 0 st6) ∧ (¬ r7 = 0 → (wX4_takeValue b st6 (fun r9 st8 => ((¬ r9 = 0 → (kin (gK st8 b 3) ∧ ((gK st8 b 3) = ((some 25)) → (wX4_take b (some 25) st8 (fun r12 st11 => (∀ x13 : Int32, x13 = v1 + 1 → R2 (x13, st11))))) ∧ (¬ (gK st8 b 3) = ((some 25)) → Q 1 st8))) ∧ (r9 = 0 → Q 0 st8)))))))))))))))))))
def wX4_takeCompares (b : Nat) (st : St) (Q : Int32 → St → Prop) : Prop :=
  (∃ n, lp (fun R s => wX4_takeCompares_L2 b R s.1 s.2 Q) n (0, st))
theorem hdX4_takeCompares : yX4_takeCompares.cls = "PlankBridge$Reader" ∧ yX4_takeCompares.cls ≠ "java/lang/invoke/MethodHandle" ∧ yX4_takeCompares.cls ≠ "java/lang/invoke/VarHandle" ∧ (parseMethodDescriptor yX4_takeCompares.desc).map (fun d => d.parameters.length) = some 0 := by decide +kernel
set_option maxHeartbeats 4000000 in
set_option maxRecDepth 100000 in
theorem tX4_takeCompares_L2 {l : Launch} {p : Program} {e : Env} {s : State} {m : MethodId} {args : Array Value} {below : List Frame} {meth : Method} {c : Code} {E : En0} {L : List Nat} (hL : Cov 0 54 L) (C : Cx E L "PlankBridge$Reader" cX4_takeCompares 2 p s m args c) (hr : meth.sig.returnType = (some .boolean)) (hlk : meth.locks = false) {b : Nat} {Q : Int32 → St → Prop} (hb : kd b = 3) : ∀ (n : Nat) (v1 : Int32) (st : St) (H : Heap) (locs : List Loc) (ls : Array Slot), lp (fun R s => wX4_takeCompares_L2 b R s.1 s.2 Q) n (v1, st) → lv_has ls 2 [(0, .ref (E.2.1 b)), (1, .int v1)] → va_P E.1 vwCl (wd E L st) H → va_S (fA E L s.heap.size) s.heap H locs → W p l e rmX4_takeCompares s m args below meth c H locs 0 0 (MQ below (zI E L (fun r u => bz r ∧ Q r u) (fA E L s.heap.size)) args s rmX4_takeCompares.cells rmX4_takeCompares.slots (fA E L s.heap.size)) (F0 m 2 ls []) := by
  intro n
  induction n with
  | zero => exact fun _ _ _ _ _ h _ _ _ => False.elim ‹_›
  | succ n ih =>
    intro v1 st  H locs ls h hl hP hS
    have hR2 := ih
    replace h : wX4_takeCompares_L2 b (lp (fun R s => wX4_takeCompares_L2 b R s.1 s.2 Q) n) v1 st Q := h
    unfold wX4_takeCompares_L2 at h
    refine lv_iload_n C.1 C.2.1 dX4_takeCompares_2 rfl (lv_at hl 1 rfl) ?_
    refine lv_sipush C.1 C.2.1 (v := 400) dX4_takeCompares_3 rfl ?_
    refine lv_icmp_ge C.1 C.2.1 (tgt := 72) dX4_takeCompares_6 (by decide) (fun hc => ?_) (fun hc => ?_)
    · have h := h.1 hc
      refine lv_iconst C.1 C.2.1 (v := 0) dX4_takeCompares_72 rfl ?_
      exact z_ri C hr hlk (bz_n bz0) hP hS ⟨bz0, h⟩ dX4_takeCompares_73
    · have h := h.2 hc
      refine lv_aload_n C.1 C.2.1 dX4_takeCompares_9 rfl (lv_at hl 0 rfl) ?_
      refine z_ki hS (z_runV (As := []) (rest := []) C hP hS (m3 hb hL) (e3 hb) rfl (tX4_takeValue C.2.2.2.2.2.2.1 (hL.mo (Nat.le_of_ble_eq_true rfl) (Nat.le_of_ble_eq_true rfl)) hb h) q619 q621 q9 q109 q622 hdX4_takeValue ⟨Nat.le_of_ble_eq_true rfl, Nat.le_of_ble_eq_true rfl⟩ ⟨Nat.zero_le _, Nat.zero_le _⟩ rfl hl.1 rfl (lv_room (Nat.le_of_ble_eq_true rfl)) dX4_takeCompares_10) (fun r2 st1 H locs h hP hS => ?_)
      obtain ⟨hr2, h⟩ := h
      refine lv_if_eq C.1 C.2.1 (tgt := 44) dX4_takeCompares_13 (by decide) (fun hc => ?_) (fun hc => ?_)
      · have h := h.1 hc
        refine lv_iconst C.1 C.2.1 (v := 0) dX4_takeCompares_44 rfl ?_
        exact z_ri C hr hlk (bz_n bz0) hP hS ⟨bz0, h⟩ dX4_takeCompares_45
      · have h := h.2 hc
        refine lv_aload_n C.1 C.2.1 dX4_takeCompares_16 rfl (lv_at hl 0 rfl) ?_
        refine gf3_3 C hP hb (m3 hb hL) q267 dX4_takeCompares_17 ?_
        obtain ⟨k3, ek3, lk3, h⟩ := h
        refine z_ki hS (z_runKE (As := []) (rest := []) C hP hS ek3 lk3 (tX3_isComparison C.2.2.2.2.2.2.1 (hL.mo (Nat.le_of_ble_eq_true rfl) (Nat.le_of_ble_eq_true rfl)) lk3 h) q649 q650 q651 q111 q652 hdX3_isComparison ⟨Nat.le_of_ble_eq_true rfl, Nat.le_of_ble_eq_true rfl⟩ ⟨Nat.zero_le _, Nat.zero_le _⟩ rfl hl.1 (lv_room (Nat.le_of_ble_eq_true rfl)) dX4_takeCompares_20) (fun r5 st4 H locs h hP hS => ?_)
        obtain ⟨hr5, h⟩ := h
        refine lv_if_eq C.1 C.2.1 (tgt := 44) dX4_takeCompares_23 (by decide) (fun hc => ?_) (fun hc => ?_)
        · have h := h.1 hc
          refine lv_iconst C.1 C.2.1 (v := 0) dX4_takeCompares_44 rfl ?_
          exact z_ri C hr hlk (bz_n bz0) hP hS ⟨bz0, h⟩ dX4_takeCompares_45
        · have h := h.2 hc
          refine lv_aload_n C.1 C.2.1 dX4_takeCompares_26 rfl (lv_at hl 0 rfl) ?_
          refine lv_aload_n C.1 C.2.1 dX4_takeCompares_27 rfl (lv_at hl 0 rfl) ?_
          refine gf3_3 C hP hb (m3 hb hL) q267 dX4_takeCompares_28 ?_
          refine z_ki hS (z_runV (As := [va_re E.2.2.1 (gK st4 b 3)]) (rest := []) C hP hS (m3 hb hL) (e3 hb) rfl (tX4_take C.2.2.2.2.2.2.1 (hL.mo (Nat.le_of_ble_eq_true rfl) (Nat.le_of_ble_eq_true rfl)) hb h) q502 q504 q0 q109 q505 hdX4_take ⟨Nat.le_of_ble_eq_true rfl, Nat.le_of_ble_eq_true rfl⟩ ⟨Nat.zero_le _, Nat.zero_le _⟩ rfl hl.1 rfl (lv_room (Nat.le_of_ble_eq_true rfl)) dX4_takeCompares_31) (fun r7 st6 H locs h hP hS => ?_)
          obtain ⟨hr7, h⟩ := h
          refine lv_if_eq C.1 C.2.1 (tgt := 44) dX4_takeCompares_34 (by decide) (fun hc => ?_) (fun hc => ?_)
          · have h := h.1 hc
            refine lv_iconst C.1 C.2.1 (v := 0) dX4_takeCompares_44 rfl ?_
            exact z_ri C hr hlk (bz_n bz0) hP hS ⟨bz0, h⟩ dX4_takeCompares_45
          · have h := h.2 hc
            refine lv_aload_n C.1 C.2.1 dX4_takeCompares_37 rfl (lv_at hl 0 rfl) ?_
            refine z_ki hS (z_runV (As := []) (rest := []) C hP hS (m3 hb hL) (e3 hb) rfl (tX4_takeValue C.2.2.2.2.2.2.1 (hL.mo (Nat.le_of_ble_eq_true rfl) (Nat.le_of_ble_eq_true rfl)) hb h) q619 q621 q9 q109 q622 hdX4_takeValue ⟨Nat.le_of_ble_eq_true rfl, Nat.le_of_ble_eq_true rfl⟩ ⟨Nat.zero_le _, Nat.zero_le _⟩ rfl hl.1 rfl (lv_room (Nat.le_of_ble_eq_true rfl)) dX4_takeCompares_38) (fun r9 st8 H locs h hP hS => ?_)
            obtain ⟨hr9, h⟩ := h
            refine lv_if_ne C.1 C.2.1 (tgt := 46) dX4_takeCompares_41 (by decide) (fun hc => ?_) (fun hc => ?_)
            · have h := h.1 hc
              refine lv_aload_n C.1 C.2.1 dX4_takeCompares_46 rfl (lv_at hl 0 rfl) ?_
              refine gf3_3 C hP hb (m3 hb hL) q267 dX4_takeCompares_47 ?_
              refine z_kst C hS (i := 25) (by decide) rfl q659 dX4_takeCompares_50 ?_
              obtain ⟨hk10, h⟩ := h
              refine z_acmp_eq C hk10 (kin_l (by decide)) (tgt := 58) dX4_takeCompares_53 (by decide) (fun hc => ?_) (fun hc => ?_)
              · have h := h.1 hc
                refine lv_aload_n C.1 C.2.1 dX4_takeCompares_58 rfl (lv_at hl 0 rfl) ?_
                refine z_kst C hS (i := 25) (by decide) rfl q659 dX4_takeCompares_59 ?_
                refine z_ki hS (z_runV (As := [va_re E.2.2.1 (some 25)]) (rest := []) C hP hS (m3 hb hL) (e3 hb) rfl (tX4_take C.2.2.2.2.2.2.1 (hL.mo (Nat.le_of_ble_eq_true rfl) (Nat.le_of_ble_eq_true rfl)) hb h) q502 q504 q0 q109 q505 hdX4_take ⟨Nat.le_of_ble_eq_true rfl, Nat.le_of_ble_eq_true rfl⟩ ⟨Nat.zero_le _, Nat.zero_le _⟩ rfl hl.1 rfl (lv_room (Nat.le_of_ble_eq_true rfl)) dX4_takeCompares_62) (fun r12 st11 H locs h hP hS => ?_)
                obtain ⟨hr12, h⟩ := h
                refine lv_pop C.1 C.2.1 dX4_takeCompares_65 rfl ?_
                obtain ⟨x13, ex13⟩ : ∃ z, z = v1 + 1 := ⟨_, rfl⟩
                have h := h x13 ex13
                refine lv_iinc C.1 C.2.1 dX4_takeCompares_66 hl (k := 1) rfl ex13.symm (Nat.le_of_ble_eq_true rfl) rfl (fun ls hl => ?_)
                have hl : lv_has ls 2 [(1, .int x13), (0, .ref (E.2.1 b))] := hl
                refine lv_goto C.1 C.2.1 (tgt := 2) dX4_takeCompares_69 (by decide) ?_
                exact hR2 x13 st11 _ _ _ h (lv_sub hl [1, 0] rfl) hP hS
              · have h := h.2 hc
                refine lv_iconst C.1 C.2.1 (v := 1) dX4_takeCompares_56 rfl ?_
                exact z_ri C hr hlk (bz_n bz1) hP hS ⟨bz1, h⟩ dX4_takeCompares_57
            · have h := h.2 hc
              refine lv_iconst C.1 C.2.1 (v := 0) dX4_takeCompares_44 rfl ?_
              exact z_ri C hr hlk (bz_n bz0) hP hS ⟨bz0, h⟩ dX4_takeCompares_45
set_option maxHeartbeats 4000000 in
set_option maxRecDepth 100000 in
theorem tX4_takeCompares {l : Launch} {E : En0} {L : List Nat} (hE : EK E L) (hL : Cov 0 54 L) {b : Nat} {st : St} {Q : Int32 → St → Prop} (hb : kd b = 3) (h : wX4_takeCompares b st Q) : Mz l yX4_takeCompares cX4_takeCompares 2 (some .boolean) rmX4_takeCompares E L [.ref (E.2.1 b)] st (zI E L (fun r u => bz r ∧ Q r u)) := by
  refine Mz.of hE (by decide) (Nat.le_of_ble_eq_true rfl) ?_
  intro p e s m below meth c ls C hr hlk _ hl hP
  replace C : Cx E L "PlankBridge$Reader" cX4_takeCompares 2 p s m _ c := C
  have hS : va_S (fA E L s.heap.size) s.heap s.heap [] := va_S.rf
  replace hl : lv_has ls 2 [(0, .ref (E.2.1 b))] := hl
  unfold wX4_takeCompares at h
  refine lv_iconst C.1 C.2.1 (v := 0) dX4_takeCompares_0 rfl ?_
  refine lv_istore_n C.1 C.2.1 dX4_takeCompares_1 rfl hl (Nat.le_of_ble_eq_true rfl) rfl (fun ls hl => ?_)
  have hl : lv_has ls 2 [(1, .int 0), (0, .ref (E.2.1 b))] := hl
  obtain ⟨n, h⟩ := h
  exact tX4_takeCompares_L2 hL C hr hlk hb n 0 st _ _ _ h (lv_sub hl [1, 0] rfl) hP hS
def rmX4_errorPosition : Room := { frames := 1, cells := 0, slots := 0, locals := 21 }
def wX4_errorPosition (b : Nat) (st : St) (Q : Int32 → St → Prop) : Prop :=
  (kd (gR st b 0) = 6 ∧ ∀ c1, c1 = gR st b 0 → (wX7_positionAt c1 (gI st b 5) st (fun r3 st2 => Q r3 st2)))
theorem hdX4_errorPosition : yX4_errorPosition.cls = "PlankBridge$Reader" ∧ yX4_errorPosition.cls ≠ "java/lang/invoke/MethodHandle" ∧ yX4_errorPosition.cls ≠ "java/lang/invoke/VarHandle" ∧ (parseMethodDescriptor yX4_errorPosition.desc).map (fun d => d.parameters.length) = some 0 := by decide +kernel
set_option maxHeartbeats 4000000 in
set_option maxRecDepth 100000 in
theorem tX4_errorPosition {l : Launch} {E : En0} {L : List Nat} (hE : EK E L) (hL : Cov 0 54 L) {b : Nat} {st : St} {Q : Int32 → St → Prop} (hb : kd b = 3) (h : wX4_errorPosition b st Q) : Mz l yX4_errorPosition cX4_errorPosition 1 (some .int) rmX4_errorPosition E L [.ref (E.2.1 b)] st (zI E L Q) := by
  refine Mz.of hE (by decide) (Nat.le_of_ble_eq_true rfl) ?_
  intro p e s m below meth c ls C hr hlk _ hl hP
  replace C : Cx E L "PlankBridge$Reader" cX4_errorPosition 1 p s m _ c := C
  have hS : va_S (fA E L s.heap.size) s.heap s.heap [] := va_S.rf
  replace hl : lv_has ls 1 [(0, .ref (E.2.1 b))] := hl
  unfold wX4_errorPosition at h
  refine lv_aload_n C.1 C.2.1 dX4_errorPosition_0 rfl (lv_at hl 0 rfl) ?_
  refine gf3_0 C hP hb (m3 hb hL) q264 dX4_errorPosition_1 ?_
  obtain ⟨hc1, h⟩ := h
  obtain ⟨c1, ec1⟩ : ∃ z, z = gR st b 0 := ⟨_, rfl⟩
  rw [← ec1]; rw [← ec1] at hc1; have h := h c1 ec1
  refine lv_aload_n C.1 C.2.1 dX4_errorPosition_4 rfl (lv_at hl 0 rfl) ?_
  refine gf3_5 C hP hb (m3 hb hL) q269 dX4_errorPosition_5 ?_
  refine z_ki hS (z_runV (As := [.int (gI st b 5)]) (rest := []) C hP hS (m6 hc1 hL) (e6 hc1) rfl (tX7_positionAt C.2.2.2.2.2.2.1 (hL.mo (Nat.le_of_ble_eq_true rfl) (Nat.le_of_ble_eq_true rfl)) hc1 h) q684 q685 q686 q108 q687 hdX7_positionAt ⟨Nat.le_of_ble_eq_true rfl, Nat.le_of_ble_eq_true rfl⟩ ⟨Nat.zero_le _, Nat.zero_le _⟩ rfl hl.1 rfl (lv_room (Nat.le_of_ble_eq_true rfl)) dX4_errorPosition_8) (fun r3 st2 H locs h hP hS => ?_)
  exact z_ri C hr hlk rfl hP hS h dX4_errorPosition_11
def rmX4_close : Room := { frames := 0, cells := 0, slots := 0, locals := 0 }
def wX4_close_L14 (b : Nat) (p1 : Int32)   (st : St) (Q : Int32 → St → Prop) : Prop :=
  (∀ st2, st2 = uI st b 4 1 → (∀ st3, st3 = uI st2 b 5 (gI st2 b 2) → Q (gI st3 b 4) st3))
def wX4_close (b : Nat) (p1 : Int32) (st : St) (Q : Int32 → St → Prop) : Prop :=
  ((p1 = 0 → wX4_close_L14 b p1 st Q) ∧ (¬ p1 = 0 → (kin (gK st b 3) ∧ ((gK st b 3) = ((some 0)) → Q (gI st b 4) st) ∧ (¬ (gK st b 3) = ((some 0)) → wX4_close_L14 b p1 st Q))))
theorem hdX4_close : yX4_close.cls = "PlankBridge$Reader" ∧ yX4_close.cls ≠ "java/lang/invoke/MethodHandle" ∧ yX4_close.cls ≠ "java/lang/invoke/VarHandle" ∧ (parseMethodDescriptor yX4_close.desc).map (fun d => d.parameters.length) = some 1 := by decide +kernel
set_option maxHeartbeats 4000000 in
set_option maxRecDepth 100000 in
theorem tX4_close_L14 {l : Launch} {p : Program} {e : Env} {s : State} {m : MethodId} {args : Array Value} {below : List Frame} {meth : Method} {c : Code} {E : En0} {L : List Nat} (hL : Cov 0 54 L) (C : Cx E L "PlankBridge$Reader" cX4_close 2 p s m args c) (hr : meth.sig.returnType = (some .int)) (hlk : meth.locks = false) {b : Nat} {p1 : Int32} {Q : Int32 → St → Prop} (hb : kd b = 3)   {st : St} (H : Heap) (locs : List Loc) (ls : Array Slot) (h : wX4_close_L14 b p1 st Q) (hl : lv_has ls 2 [(0, .ref (E.2.1 b))]) (hP : va_P E.1 vwCl (wd E L st) H) (hS : va_S (fA E L s.heap.size) s.heap H locs) : W p l e rmX4_close s m args below meth c H locs 0 0 (MQ below (zI E L Q (fA E L s.heap.size)) args s rmX4_close.cells rmX4_close.slots (fA E L s.heap.size)) (F0 m 14 ls []) := by
  unfold wX4_close_L14 at h
  refine lv_aload_n C.1 C.2.1 dX4_close_14 rfl (lv_at hl 0 rfl) ?_
  refine lv_iconst C.1 C.2.1 (v := 1) dX4_close_15 rfl ?_
  refine pf3_4 C hP hS hb (m3 hb hL) q268 dX4_close_16 (fun H locs hP hS => ?_)
  obtain ⟨st2, est2⟩ : ∃ z, z = uI st b 4 1 := ⟨_, rfl⟩
  rw [← est2] at hP; have h := h st2 est2
  refine lv_aload_n C.1 C.2.1 dX4_close_19 rfl (lv_at hl 0 rfl) ?_
  refine lv_aload_n C.1 C.2.1 dX4_close_20 rfl (lv_at hl 0 rfl) ?_
  refine gf3_2 C hP hb (m3 hb hL) q266 dX4_close_21 ?_
  refine pf3_5 C hP hS hb (m3 hb hL) q269 dX4_close_24 (fun H locs hP hS => ?_)
  obtain ⟨st3, est3⟩ : ∃ z, z = uI st2 b 5 (gI st2 b 2) := ⟨_, rfl⟩
  rw [← est3] at hP; have h := h st3 est3
  refine lv_aload_n C.1 C.2.1 dX4_close_27 rfl (lv_at hl 0 rfl) ?_
  refine gf3_4 C hP hb (m3 hb hL) q268 dX4_close_28 ?_
  exact z_ri C hr hlk rfl hP hS h dX4_close_31
set_option maxHeartbeats 4000000 in
set_option maxRecDepth 100000 in
theorem tX4_close {l : Launch} {E : En0} {L : List Nat} (hE : EK E L) (hL : Cov 0 54 L) {b : Nat} {p1 : Int32} {st : St} {Q : Int32 → St → Prop} (hb : kd b = 3) (h : wX4_close b p1 st Q) : Mz l yX4_close cX4_close 2 (some .int) rmX4_close E L [.ref (E.2.1 b), .int p1] st (zI E L Q) := by
  refine Mz.of hE (by decide) (Nat.le_of_ble_eq_true rfl) ?_
  intro p e s m below meth c ls C hr hlk _ hl hP
  replace C : Cx E L "PlankBridge$Reader" cX4_close 2 p s m _ c := C
  have hS : va_S (fA E L s.heap.size) s.heap s.heap [] := va_S.rf
  replace hl : lv_has ls 2 [(0, .ref (E.2.1 b)), (1, .int p1)] := hl
  unfold wX4_close at h
  refine lv_iload_n C.1 C.2.1 dX4_close_0 rfl (lv_at hl 1 rfl) ?_
  refine lv_if_eq C.1 C.2.1 (tgt := 14) dX4_close_1 (by decide) (fun hc => ?_) (fun hc => ?_)
  · have h := h.1 hc
    exact tX4_close_L14 hL C hr hlk hb _ _ _ h (lv_sub hl [0] rfl) hP hS
  · have h := h.2 hc
    refine lv_aload_n C.1 C.2.1 dX4_close_4 rfl (lv_at hl 0 rfl) ?_
    refine gf3_3 C hP hb (m3 hb hL) q267 dX4_close_5 ?_
    refine z_kst C hS (i := 0) (by decide) rfl q679 dX4_close_8 ?_
    obtain ⟨hk1, h⟩ := h
    refine z_acmp_eq C hk1 (kin_l (by decide)) (tgt := 27) dX4_close_11 (by decide) (fun hc => ?_) (fun hc => ?_)
    · have h := h.1 hc
      refine lv_aload_n C.1 C.2.1 dX4_close_27 rfl (lv_at hl 0 rfl) ?_
      refine gf3_4 C hP hb (m3 hb hL) q268 dX4_close_28 ?_
      exact z_ri C hr hlk rfl hP hS h dX4_close_31
    · have h := h.2 hc
      exact tX4_close_L14 hL C hr hlk hb _ _ _ h (lv_sub hl [0] rfl) hP hS
def rmX4_open : Room := { frames := 4, cells := 0, slots := 0, locals := 96 }
def wX4_open (b : Nat) (p1 : Nat) (p2 : Nat) (st : St) (Q : St → Prop) : Prop :=
  (∀ st1, st1 = uR st b 1 p2 → (∀ st2, st2 = uR st1 b 0 ((p2 + 12)) → (kd (gR st2 b 1) = 1 ∧ ∀ c3, c3 = gR st2 b 1 → (wX1_clear c3 st2 (fun st4 => (kd (gR st4 b 0) = 6 ∧ ∀ c5, c5 = gR st4 b 0 → (wX7_scan c5 p1 st4 (fun st6 => (∀ st7, st7 = uI st6 b 2 0 → (kd (gR st7 b 0) = 6 ∧ ∀ c8, c8 = gR st7 b 0 → (wX7_kindAt c8 0 st7 (fun r10 st9 => (∀ st11, st11 = uK st9 b 3 r10 → (∀ st12, st12 = uI st11 b 4 0 → (∀ st13, st13 = uI st12 b 5 (-1) → Q st13)))))))))))))))
theorem hdX4_open : yX4_open.cls = "PlankBridge$Reader" ∧ yX4_open.cls ≠ "java/lang/invoke/MethodHandle" ∧ yX4_open.cls ≠ "java/lang/invoke/VarHandle" ∧ (parseMethodDescriptor yX4_open.desc).map (fun d => d.parameters.length) = some 2 := by decide +kernel
set_option maxHeartbeats 4000000 in
set_option maxRecDepth 100000 in
theorem tX4_open {l : Launch} {E : En0} {L : List Nat} (hE : EK E L) (hL : Cov 0 54 L) {b : Nat} {p1 : Nat} {p2 : Nat} {st : St} {Q : St → Prop} (hb : kd b = 3) (hp1 : kd p1 = 5) (hp2 : kd p2 = 1) (h : wX4_open b p1 p2 st Q) : Mz l yX4_open cX4_open 3 none rmX4_open E L [.ref (E.2.1 b), .ref (E.2.1 p1), .ref (E.2.1 p2)] st (zV E L Q) := by
  refine Mz.of hE (by decide) (Nat.le_of_ble_eq_true rfl) ?_
  intro p e s m below meth c ls C hr hlk _ hl hP
  replace C : Cx E L "PlankBridge$Reader" cX4_open 3 p s m _ c := C
  have hS : va_S (fA E L s.heap.size) s.heap s.heap [] := va_S.rf
  replace hl : lv_has ls 3 [(0, .ref (E.2.1 b)), (1, .ref (E.2.1 p1)), (2, .ref (E.2.1 p2))] := hl
  unfold wX4_open at h
  refine lv_aload_n C.1 C.2.1 dX4_open_0 rfl (lv_at hl 0 rfl) ?_
  refine lv_aload_n C.1 C.2.1 dX4_open_1 rfl (lv_at hl 2 rfl) ?_
  refine pf3_1 C hP hS hb (m3 hb hL) q265 dX4_open_2 (fun H locs hP hS => ?_)
  obtain ⟨st1, est1⟩ : ∃ z, z = uR st b 1 p2 := ⟨_, rfl⟩
  rw [← est1] at hP; have h := h st1 est1
  refine lv_aload_n C.1 C.2.1 dX4_open_5 rfl (lv_at hl 0 rfl) ?_
  refine lv_aload_n C.1 C.2.1 dX4_open_6 rfl (lv_at hl 2 rfl) ?_
  refine gn1_0 C hP hp2 (m1 hp2 hL) q189 dX4_open_7 ?_
  refine pf3_0 C hP hS hb (m3 hb hL) q264 dX4_open_10 (fun H locs hP hS => ?_)
  obtain ⟨st2, est2⟩ : ∃ z, z = uR st1 b 0 ((p2 + 12)) := ⟨_, rfl⟩
  rw [← est2] at hP; have h := h st2 est2
  refine lv_aload_n C.1 C.2.1 dX4_open_13 rfl (lv_at hl 0 rfl) ?_
  refine gf3_1 C hP hb (m3 hb hL) q265 dX4_open_14 ?_
  obtain ⟨hc3, h⟩ := h
  obtain ⟨c3, ec3⟩ : ∃ z, z = gR st2 b 1 := ⟨_, rfl⟩
  rw [← ec3]; rw [← ec3] at hc3; have h := h c3 ec3
  refine z_kv hS (z_runV (As := []) (rest := []) C hP hS (m1 hc3 hL) (e1 hc3) rfl (tX1_clear C.2.2.2.2.2.2.1 (hL.mo (Nat.le_of_ble_eq_true rfl) (Nat.le_of_ble_eq_true rfl)) hc3 h) q446 q396 q397 q107 q398 hdX1_clear ⟨Nat.le_of_ble_eq_true rfl, Nat.le_of_ble_eq_true rfl⟩ ⟨Nat.zero_le _, Nat.zero_le _⟩ rfl hl.1 rfl (lv_room (Nat.le_of_ble_eq_true rfl)) dX4_open_17) (fun st4 H locs h hP hS => ?_)
  refine lv_aload_n C.1 C.2.1 dX4_open_20 rfl (lv_at hl 0 rfl) ?_
  refine gf3_0 C hP hb (m3 hb hL) q264 dX4_open_21 ?_
  obtain ⟨hc5, h⟩ := h
  obtain ⟨c5, ec5⟩ : ∃ z, z = gR st4 b 0 := ⟨_, rfl⟩
  rw [← ec5]; rw [← ec5] at hc5; have h := h c5 ec5
  refine lv_aload_n C.1 C.2.1 dX4_open_24 rfl (lv_at hl 1 rfl) ?_
  refine z_kv hS (z_runV (As := [.ref (E.2.1 p1)]) (rest := []) C hP hS (m6 hc5 hL) (e6 hc5) rfl (tX7_scan C.2.2.2.2.2.2.1 (hL.mo (Nat.le_of_ble_eq_true rfl) (Nat.le_of_ble_eq_true rfl)) hc5 hp1 h) q447 q448 q449 q108 q450 hdX7_scan ⟨Nat.le_of_ble_eq_true rfl, Nat.le_of_ble_eq_true rfl⟩ ⟨Nat.zero_le _, Nat.zero_le _⟩ rfl hl.1 rfl (lv_room (Nat.le_of_ble_eq_true rfl)) dX4_open_25) (fun st6 H locs h hP hS => ?_)
  refine lv_aload_n C.1 C.2.1 dX4_open_28 rfl (lv_at hl 0 rfl) ?_
  refine lv_iconst C.1 C.2.1 (v := 0) dX4_open_29 rfl ?_
  refine pf3_2 C hP hS hb (m3 hb hL) q266 dX4_open_30 (fun H locs hP hS => ?_)
  obtain ⟨st7, est7⟩ : ∃ z, z = uI st6 b 2 0 := ⟨_, rfl⟩
  rw [← est7] at hP; have h := h st7 est7
  refine lv_aload_n C.1 C.2.1 dX4_open_33 rfl (lv_at hl 0 rfl) ?_
  refine lv_aload_n C.1 C.2.1 dX4_open_34 rfl (lv_at hl 0 rfl) ?_
  refine gf3_0 C hP hb (m3 hb hL) q264 dX4_open_35 ?_
  obtain ⟨hc8, h⟩ := h
  obtain ⟨c8, ec8⟩ : ∃ z, z = gR st7 b 0 := ⟨_, rfl⟩
  rw [← ec8]; rw [← ec8] at hc8; have h := h c8 ec8
  refine lv_iconst C.1 C.2.1 (v := 0) dX4_open_38 rfl ?_
  refine z_ke hS (z_runV (As := [.int 0]) (rest := [.ref (E.2.1 b)]) C hP hS (m6 hc8 hL) (e6 hc8) rfl (tX7_kindAt C.2.2.2.2.2.2.1 (hL.mo (Nat.le_of_ble_eq_true rfl) (Nat.le_of_ble_eq_true rfl)) hc8 h) q492 q493 q494 q108 q495 hdX7_kindAt ⟨Nat.le_of_ble_eq_true rfl, Nat.le_of_ble_eq_true rfl⟩ ⟨Nat.zero_le _, Nat.zero_le _⟩ rfl hl.1 rfl (lv_room (Nat.le_of_ble_eq_true rfl)) dX4_open_39) (fun r10 st9 H locs h hP hS => ?_)
  obtain ⟨hr10, h⟩ := h
  refine pf3_3 C hP hS hb (m3 hb hL) q267 dX4_open_42 (fun H locs hP hS => ?_)
  obtain ⟨st11, est11⟩ : ∃ z, z = uK st9 b 3 r10 := ⟨_, rfl⟩
  rw [← est11] at hP; have h := h st11 est11
  refine lv_aload_n C.1 C.2.1 dX4_open_45 rfl (lv_at hl 0 rfl) ?_
  refine lv_iconst C.1 C.2.1 (v := 0) dX4_open_46 rfl ?_
  refine pf3_4 C hP hS hb (m3 hb hL) q268 dX4_open_47 (fun H locs hP hS => ?_)
  obtain ⟨st12, est12⟩ : ∃ z, z = uI st11 b 4 0 := ⟨_, rfl⟩
  rw [← est12] at hP; have h := h st12 est12
  refine lv_aload_n C.1 C.2.1 dX4_open_50 rfl (lv_at hl 0 rfl) ?_
  refine lv_iconst C.1 C.2.1 (v := (-1)) dX4_open_51 rfl ?_
  refine pf3_5 C hP hS hb (m3 hb hL) q269 dX4_open_52 (fun H locs hP hS => ?_)
  obtain ⟨st13, est13⟩ : ∃ z, z = uI st12 b 5 (-1) := ⟨_, rfl⟩
  rw [← est13] at hP; have h := h st13 est13
  exact z_rv C hr hlk hP hS h dX4_open_55
def rmX4_readPlanks : Room := { frames := 4, cells := 0, slots := 0, locals := 86 }
def wX4_readPlanks_L79 (b : Nat)   (st : St) (Q : Int32 → St → Prop) : Prop :=
  (wX4_take b (some 6) st (fun r14 st13 => Q r14 st13))
def wX4_readPlanks_L63 (b : Nat)   (st : St) (Q : Int32 → St → Prop) : Prop :=
  (kd (gR st b 1) = 1 ∧ ∀ c11, c11 = gR st b 1 → ((4 ≤ (gI st c11 6) → wX4_readPlanks_L79 b st Q) ∧ (¬ 4 ≤ (gI st c11 6) → (wX4_mark b 5 st (fun st12 => wX4_readPlanks_L79 b st12 Q)))))
def wX4_readPlanks_L21 (b : Nat)  (R21 : Int32 × St → Prop) (v1 : Int32) (st : St) (Q : Int32 → St → Prop) : Prop :=
  ((400 ≤ v1 → wX4_readPlanks_L63 b st Q) ∧ (¬ 400 ≤ v1 → (kin (gK st b 3) ∧ (¬ (gK st b 3) = ((some 7)) → wX4_readPlanks_L63 b st Q) ∧ ((gK st b 3) = ((some 7)) → (wX4_take b (some 7) st (fun r7 st6 => ((r7 = 0 → Q 0 st6) ∧ (¬ r7 = 0 → (wX4_takePlank b st6 (fun r9 st8 => ((¬ r9 = 0 → (∀ x10 : Int32, x10 = v1 + 1 → R21 (x10, st8))) ∧ (r9 = 0 → Q 0 st8))))))))))))
def wX4_readPlanks (b : Nat) (st : St) (Q : Int32 → St → Prop) : Prop :=
  (wX4_take b (some 14) st (fun r2 st1 => ((r2 = 0 → Q 0 st1) ∧ (¬ r2 = 0 → (wX4_takePlank b st1 (fun r4 st3 => ((¬ r4 = 0 → (∃ n, lp (fun R s => wX4_readPlanks_L21 b R s.1 s.2 Q) n (0, st3))) ∧ (r4 = 0 → Q 0 st3))))))))
theorem hdX4_readPlanks : yX4_readPlanks.cls = "PlankBridge$Reader" ∧ yX4_readPlanks.cls ≠ "java/lang/invoke/MethodHandle" ∧ yX4_readPlanks.cls ≠ "java/lang/invoke/VarHandle" ∧ (parseMethodDescriptor yX4_readPlanks.desc).map (fun d => d.parameters.length) = some 0 := by decide +kernel
set_option maxHeartbeats 4000000 in
set_option maxRecDepth 100000 in
theorem tX4_readPlanks_L79 {l : Launch} {p : Program} {e : Env} {s : State} {m : MethodId} {args : Array Value} {below : List Frame} {meth : Method} {c : Code} {E : En0} {L : List Nat} (hL : Cov 0 54 L) (C : Cx E L "PlankBridge$Reader" cX4_readPlanks 2 p s m args c) (hr : meth.sig.returnType = (some .boolean)) (hlk : meth.locks = false) {b : Nat} {Q : Int32 → St → Prop} (hb : kd b = 3)   {st : St} (H : Heap) (locs : List Loc) (ls : Array Slot) (h : wX4_readPlanks_L79 b st Q) (hl : lv_has ls 2 [(0, .ref (E.2.1 b))]) (hP : va_P E.1 vwCl (wd E L st) H) (hS : va_S (fA E L s.heap.size) s.heap H locs) : W p l e rmX4_readPlanks s m args below meth c H locs 0 0 (MQ below (zI E L (fun r u => bz r ∧ Q r u) (fA E L s.heap.size)) args s rmX4_readPlanks.cells rmX4_readPlanks.slots (fA E L s.heap.size)) (F0 m 79 ls []) := by
  unfold wX4_readPlanks_L79 at h
  refine lv_aload_n C.1 C.2.1 dX4_readPlanks_79 rfl (lv_at hl 0 rfl) ?_
  refine z_kst C hS (i := 6) (by decide) rfl q544 dX4_readPlanks_80 ?_
  refine z_ki hS (z_runV (As := [va_re E.2.2.1 (some 6)]) (rest := []) C hP hS (m3 hb hL) (e3 hb) rfl (tX4_take C.2.2.2.2.2.2.1 (hL.mo (Nat.le_of_ble_eq_true rfl) (Nat.le_of_ble_eq_true rfl)) hb h) q502 q504 q0 q109 q505 hdX4_take ⟨Nat.le_of_ble_eq_true rfl, Nat.le_of_ble_eq_true rfl⟩ ⟨Nat.zero_le _, Nat.zero_le _⟩ rfl hl.1 rfl (lv_room (Nat.le_of_ble_eq_true rfl)) dX4_readPlanks_83) (fun r14 st13 H locs h hP hS => ?_)
  obtain ⟨hr14, h⟩ := h
  exact z_ri C hr hlk (bz_n hr14) hP hS ⟨hr14, h⟩ dX4_readPlanks_86
set_option maxHeartbeats 4000000 in
set_option maxRecDepth 100000 in
theorem tX4_readPlanks_L63 {l : Launch} {p : Program} {e : Env} {s : State} {m : MethodId} {args : Array Value} {below : List Frame} {meth : Method} {c : Code} {E : En0} {L : List Nat} (hL : Cov 0 54 L) (C : Cx E L "PlankBridge$Reader" cX4_readPlanks 2 p s m args c) (hr : meth.sig.returnType = (some .boolean)) (hlk : meth.locks = false) {b : Nat} {Q : Int32 → St → Prop} (hb : kd b = 3)   {st : St} (H : Heap) (locs : List Loc) (ls : Array Slot) (h : wX4_readPlanks_L63 b st Q) (hl : lv_has ls 2 [(0, .ref (E.2.1 b))]) (hP : va_P E.1 vwCl (wd E L st) H) (hS : va_S (fA E L s.heap.size) s.heap H locs) : W p l e rmX4_readPlanks s m args below meth c H locs 0 0 (MQ below (zI E L (fun r u => bz r ∧ Q r u) (fA E L s.heap.size)) args s rmX4_readPlanks.cells rmX4_readPlanks.slots (fA E L s.heap.size)) (F0 m 63 ls []) := by
  unfold wX4_readPlanks_L63 at h
  refine lv_aload_n C.1 C.2.1 dX4_readPlanks_63 rfl (lv_at hl 0 rfl) ?_
  refine gf3_1 C hP hb (m3 hb hL) q265 dX4_readPlanks_64 ?_
  obtain ⟨hc11, h⟩ := h
  obtain ⟨c11, ec11⟩ : ∃ z, z = gR st b 1 := ⟨_, rfl⟩
  rw [← ec11]; rw [← ec11] at hc11; have h := h c11 ec11
  refine gn1_6 C hP hc11 (m1 hc11 hL) q204 dX4_readPlanks_67 ?_
  refine lv_iconst C.1 C.2.1 (v := 4) dX4_readPlanks_70 rfl ?_
  refine lv_icmp_ge C.1 C.2.1 (tgt := 79) dX4_readPlanks_71 (by decide) (fun hc => ?_) (fun hc => ?_)
  · have h := h.1 hc
    exact tX4_readPlanks_L79 hL C hr hlk hb _ _ _ h hl hP hS
  · have h := h.2 hc
    refine lv_aload_n C.1 C.2.1 dX4_readPlanks_74 rfl (lv_at hl 0 rfl) ?_
    refine lv_iconst C.1 C.2.1 (v := 5) dX4_readPlanks_75 rfl ?_
    refine z_kv hS (z_runV (As := [.int 5]) (rest := []) C hP hS (m3 hb hL) (e3 hb) rfl (tX4_mark C.2.2.2.2.2.2.1 (hL.mo (Nat.le_of_ble_eq_true rfl) (Nat.le_of_ble_eq_true rfl)) hb h) q522 q524 q2 q109 q525 hdX4_mark ⟨Nat.le_of_ble_eq_true rfl, Nat.le_of_ble_eq_true rfl⟩ ⟨Nat.zero_le _, Nat.zero_le _⟩ rfl hl.1 rfl (lv_room (Nat.le_of_ble_eq_true rfl)) dX4_readPlanks_76) (fun st12 H locs h hP hS => ?_)
    exact tX4_readPlanks_L79 hL C hr hlk hb _ _ _ h hl hP hS
set_option maxHeartbeats 4000000 in
set_option maxRecDepth 100000 in
theorem tX4_readPlanks_L21 {l : Launch} {p : Program} {e : Env} {s : State} {m : MethodId} {args : Array Value} {below : List Frame} {meth : Method} {c : Code} {E : En0} {L : List Nat} (hL : Cov 0 54 L) (C : Cx E L "PlankBridge$Reader" cX4_readPlanks 2 p s m args c) (hr : meth.sig.returnType = (some .boolean)) (hlk : meth.locks = false) {b : Nat} {Q : Int32 → St → Prop} (hb : kd b = 3) : ∀ (n : Nat) (v1 : Int32) (st : St) (H : Heap) (locs : List Loc) (ls : Array Slot), lp (fun R s => wX4_readPlanks_L21 b R s.1 s.2 Q) n (v1, st) → lv_has ls 2 [(0, .ref (E.2.1 b)), (1, .int v1)] → va_P E.1 vwCl (wd E L st) H → va_S (fA E L s.heap.size) s.heap H locs → W p l e rmX4_readPlanks s m args below meth c H locs 0 0 (MQ below (zI E L (fun r u => bz r ∧ Q r u) (fA E L s.heap.size)) args s rmX4_readPlanks.cells rmX4_readPlanks.slots (fA E L s.heap.size)) (F0 m 21 ls []) := by
  intro n
  induction n with
  | zero => exact fun _ _ _ _ _ h _ _ _ => False.elim ‹_›
  | succ n ih =>
    intro v1 st  H locs ls h hl hP hS
    have hR21 := ih
    replace h : wX4_readPlanks_L21 b (lp (fun R s => wX4_readPlanks_L21 b R s.1 s.2 Q) n) v1 st Q := h
    unfold wX4_readPlanks_L21 at h
    refine lv_iload_n C.1 C.2.1 dX4_readPlanks_21 rfl (lv_at hl 1 rfl) ?_
    refine lv_sipush C.1 C.2.1 (v := 400) dX4_readPlanks_22 rfl ?_
    refine lv_icmp_ge C.1 C.2.1 (tgt := 63) dX4_readPlanks_25 (by decide) (fun hc => ?_) (fun hc => ?_)
    · have h := h.1 hc
      exact tX4_readPlanks_L63 hL C hr hlk hb _ _ _ h (lv_sub hl [0] rfl) hP hS
    · have h := h.2 hc
      refine lv_aload_n C.1 C.2.1 dX4_readPlanks_28 rfl (lv_at hl 0 rfl) ?_
      refine gf3_3 C hP hb (m3 hb hL) q267 dX4_readPlanks_29 ?_
      refine z_kst C hS (i := 7) (by decide) rfl q561 dX4_readPlanks_32 ?_
      obtain ⟨hk5, h⟩ := h
      refine z_acmp_ne C hk5 (kin_l (by decide)) (tgt := 63) dX4_readPlanks_35 (by decide) (fun hc => ?_) (fun hc => ?_)
      · have h := h.1 hc
        exact tX4_readPlanks_L63 hL C hr hlk hb _ _ _ h (lv_sub hl [0] rfl) hP hS
      · have h := h.2 hc
        refine lv_aload_n C.1 C.2.1 dX4_readPlanks_38 rfl (lv_at hl 0 rfl) ?_
        refine z_kst C hS (i := 7) (by decide) rfl q561 dX4_readPlanks_39 ?_
        refine z_ki hS (z_runV (As := [va_re E.2.2.1 (some 7)]) (rest := []) C hP hS (m3 hb hL) (e3 hb) rfl (tX4_take C.2.2.2.2.2.2.1 (hL.mo (Nat.le_of_ble_eq_true rfl) (Nat.le_of_ble_eq_true rfl)) hb h) q502 q504 q0 q109 q505 hdX4_take ⟨Nat.le_of_ble_eq_true rfl, Nat.le_of_ble_eq_true rfl⟩ ⟨Nat.zero_le _, Nat.zero_le _⟩ rfl hl.1 rfl (lv_room (Nat.le_of_ble_eq_true rfl)) dX4_readPlanks_42) (fun r7 st6 H locs h hP hS => ?_)
        obtain ⟨hr7, h⟩ := h
        refine lv_if_eq C.1 C.2.1 (tgt := 55) dX4_readPlanks_45 (by decide) (fun hc => ?_) (fun hc => ?_)
        · have h := h.1 hc
          refine lv_iconst C.1 C.2.1 (v := 0) dX4_readPlanks_55 rfl ?_
          exact z_ri C hr hlk (bz_n bz0) hP hS ⟨bz0, h⟩ dX4_readPlanks_56
        · have h := h.2 hc
          refine lv_aload_n C.1 C.2.1 dX4_readPlanks_48 rfl (lv_at hl 0 rfl) ?_
          refine z_ki hS (z_runV (As := []) (rest := []) C hP hS (m3 hb hL) (e3 hb) rfl (tX4_takePlank C.2.2.2.2.2.2.1 (hL.mo (Nat.le_of_ble_eq_true rfl) (Nat.le_of_ble_eq_true rfl)) hb h) q556 q558 q5 q109 q559 hdX4_takePlank ⟨Nat.le_of_ble_eq_true rfl, Nat.le_of_ble_eq_true rfl⟩ ⟨Nat.zero_le _, Nat.zero_le _⟩ rfl hl.1 rfl (lv_room (Nat.le_of_ble_eq_true rfl)) dX4_readPlanks_49) (fun r9 st8 H locs h hP hS => ?_)
          obtain ⟨hr9, h⟩ := h
          refine lv_if_ne C.1 C.2.1 (tgt := 57) dX4_readPlanks_52 (by decide) (fun hc => ?_) (fun hc => ?_)
          · have h := h.1 hc
            obtain ⟨x10, ex10⟩ : ∃ z, z = v1 + 1 := ⟨_, rfl⟩
            have h := h x10 ex10
            refine lv_iinc C.1 C.2.1 dX4_readPlanks_57 hl (k := 1) rfl ex10.symm (Nat.le_of_ble_eq_true rfl) rfl (fun ls hl => ?_)
            have hl : lv_has ls 2 [(1, .int x10), (0, .ref (E.2.1 b))] := hl
            refine lv_goto C.1 C.2.1 (tgt := 21) dX4_readPlanks_60 (by decide) ?_
            exact hR21 x10 st8 _ _ _ h (lv_sub hl [1, 0] rfl) hP hS
          · have h := h.2 hc
            refine lv_iconst C.1 C.2.1 (v := 0) dX4_readPlanks_55 rfl ?_
            exact z_ri C hr hlk (bz_n bz0) hP hS ⟨bz0, h⟩ dX4_readPlanks_56
set_option maxHeartbeats 4000000 in
set_option maxRecDepth 100000 in
theorem tX4_readPlanks {l : Launch} {E : En0} {L : List Nat} (hE : EK E L) (hL : Cov 0 54 L) {b : Nat} {st : St} {Q : Int32 → St → Prop} (hb : kd b = 3) (h : wX4_readPlanks b st Q) : Mz l yX4_readPlanks cX4_readPlanks 2 (some .boolean) rmX4_readPlanks E L [.ref (E.2.1 b)] st (zI E L (fun r u => bz r ∧ Q r u)) := by
  refine Mz.of hE (by decide) (Nat.le_of_ble_eq_true rfl) ?_
  intro p e s m below meth c ls C hr hlk _ hl hP
  replace C : Cx E L "PlankBridge$Reader" cX4_readPlanks 2 p s m _ c := C
  have hS : va_S (fA E L s.heap.size) s.heap s.heap [] := va_S.rf
  replace hl : lv_has ls 2 [(0, .ref (E.2.1 b))] := hl
  unfold wX4_readPlanks at h
  refine lv_aload_n C.1 C.2.1 dX4_readPlanks_0 rfl (lv_at hl 0 rfl) ?_
  refine z_kst C hS (i := 14) (by decide) rfl q554 dX4_readPlanks_1 ?_
  refine z_ki hS (z_runV (As := [va_re E.2.2.1 (some 14)]) (rest := []) C hP hS (m3 hb hL) (e3 hb) rfl (tX4_take C.2.2.2.2.2.2.1 (hL.mo (Nat.le_of_ble_eq_true rfl) (Nat.le_of_ble_eq_true rfl)) hb h) q502 q504 q0 q109 q505 hdX4_take ⟨Nat.le_of_ble_eq_true rfl, Nat.le_of_ble_eq_true rfl⟩ ⟨Nat.zero_le _, Nat.zero_le _⟩ rfl hl.1 rfl (lv_room (Nat.le_of_ble_eq_true rfl)) dX4_readPlanks_4) (fun r2 st1 H locs h hP hS => ?_)
  obtain ⟨hr2, h⟩ := h
  refine lv_if_eq C.1 C.2.1 (tgt := 17) dX4_readPlanks_7 (by decide) (fun hc => ?_) (fun hc => ?_)
  · have h := h.1 hc
    refine lv_iconst C.1 C.2.1 (v := 0) dX4_readPlanks_17 rfl ?_
    exact z_ri C hr hlk (bz_n bz0) hP hS ⟨bz0, h⟩ dX4_readPlanks_18
  · have h := h.2 hc
    refine lv_aload_n C.1 C.2.1 dX4_readPlanks_10 rfl (lv_at hl 0 rfl) ?_
    refine z_ki hS (z_runV (As := []) (rest := []) C hP hS (m3 hb hL) (e3 hb) rfl (tX4_takePlank C.2.2.2.2.2.2.1 (hL.mo (Nat.le_of_ble_eq_true rfl) (Nat.le_of_ble_eq_true rfl)) hb h) q556 q558 q5 q109 q559 hdX4_takePlank ⟨Nat.le_of_ble_eq_true rfl, Nat.le_of_ble_eq_true rfl⟩ ⟨Nat.zero_le _, Nat.zero_le _⟩ rfl hl.1 rfl (lv_room (Nat.le_of_ble_eq_true rfl)) dX4_readPlanks_11) (fun r4 st3 H locs h hP hS => ?_)
    obtain ⟨hr4, h⟩ := h
    refine lv_if_ne C.1 C.2.1 (tgt := 19) dX4_readPlanks_14 (by decide) (fun hc => ?_) (fun hc => ?_)
    · have h := h.1 hc
      refine lv_iconst C.1 C.2.1 (v := 0) dX4_readPlanks_19 rfl ?_
      refine lv_istore_n C.1 C.2.1 dX4_readPlanks_20 rfl hl (Nat.le_of_ble_eq_true rfl) rfl (fun ls hl => ?_)
      have hl : lv_has ls 2 [(1, .int 0), (0, .ref (E.2.1 b))] := hl
      obtain ⟨n, h⟩ := h
      exact tX4_readPlanks_L21 hL C hr hlk hb n 0 st3 _ _ _ h (lv_sub hl [1, 0] rfl) hP hS
    · have h := h.2 hc
      refine lv_iconst C.1 C.2.1 (v := 0) dX4_readPlanks_17 rfl ?_
      exact z_ri C hr hlk (bz_n bz0) hP hS ⟨bz0, h⟩ dX4_readPlanks_18
def rmX4_readWalkers : Room := { frames := 3, cells := 0, slots := 0, locals := 66 }
def wX4_readWalkers_L113 (b : Nat) (R2 : Int32 × St → Prop) (v1 : Int32) (v2 : Int32) (s0 : Int32) (st : St) (Q : Int32 → St → Prop) : Prop :=
  ((¬ s0 = 0 → (kd (gR st b 1) = 1 ∧ ∀ c18, c18 = gR st b 1 → (kd (gR st b 0) = 6 ∧ ∀ c19, c19 = gR st b 0 → (wX7_wordAt c19 (v2 + 1) st (fun r21 st20 => (kd (gR st20 b 0) = 6 ∧ ∀ c22, c22 = gR st20 b 0 → (wX7_numberAt c22 (v2 + 3) st20 (fun r24 st23 => (kd (gR st23 b 0) = 6 ∧ ∀ c25, c25 = gR st23 b 0 → (wX7_numberAt c25 (v2 + 5) st23 (fun r27 st26 => (wX1_addWalker c18 r21 r24 r27 st26 (fun st28 => (∀ x29 : Int32, x29 = v1 + 1 → R2 (x29, st28))))))))))))))) ∧ (s0 = 0 → Q 0 st))
def wX4_readWalkers_L112 (b : Nat) (R2 : Int32 × St → Prop) (v1 : Int32) (v2 : Int32) (st : St) (Q : Int32 → St → Prop) : Prop :=
  wX4_readWalkers_L113 b R2 v1 v2 0 st Q
def wX4_readWalkers_L52 (b : Nat) (R2 : Int32 × St → Prop) (v1 : Int32) (v2 : Int32) (s0 : Int32) (st : St) (Q : Int32 → St → Prop) : Prop :=
  (wX4_takeNewName b s0 st (fun r7 st6 => ((r7 = 0 → wX4_readWalkers_L112 b R2 v1 v2 st6 Q) ∧ (¬ r7 = 0 → (wX4_take b (some 12) st6 (fun r9 st8 => ((r9 = 0 → wX4_readWalkers_L112 b R2 v1 v2 st8 Q) ∧ (¬ r9 = 0 → (wX4_takeNumber b 1 9 st8 (fun r11 st10 => ((r11 = 0 → wX4_readWalkers_L112 b R2 v1 v2 st10 Q) ∧ (¬ r11 = 0 → (wX4_take b (some 13) st10 (fun r13 st12 => ((r13 = 0 → wX4_readWalkers_L112 b R2 v1 v2 st12 Q) ∧ (¬ r13 = 0 → (wX4_takeNumber b 1 20 st12 (fun r15 st14 => ((r15 = 0 → wX4_readWalkers_L112 b R2 v1 v2 st14 Q) ∧ (¬ r15 = 0 → (wX4_take b (some 6) st14 (fun r17 st16 => ((r17 = 0 → wX4_readWalkers_L112 b R2 v1 v2 st16 Q) ∧ (¬ r17 = 0 → wX4_readWalkers_L113 b R2 v1 v2 1 st16 Q))))))))))))))))))))))))
def wX4_readWalkers_L2 (b : Nat)  (R2 : Int32 × St → Prop) (v1 : Int32) (st : St) (Q : Int32 → St → Prop) : Prop :=
  ((400 ≤ v1 → Q 1 st) ∧ (¬ 400 ≤ v1 → (kin (gK st b 3) ∧ (¬ (gK st b 3) = ((some 11)) → Q 1 st) ∧ ((gK st b 3) = ((some 11)) → (∀ x2 : Int32, x2 = (gI st b 2) → (wX4_take b (some 11) st (fun r4 st3 => ((r4 = 0 → wX4_readWalkers_L112 b R2 v1 x2 st3 Q) ∧ (¬ r4 = 0 → (kd (gR st3 b 1) = 1 ∧ ∀ c5, c5 = gR st3 b 1 → (((gI st3 c5 4) < 8 → wX4_readWalkers_L52 b R2 v1 x2 0 st3 Q) ∧ (¬ (gI st3 c5 4) < 8 → wX4_readWalkers_L52 b R2 v1 x2 1 st3 Q))))))))))))
def wX4_readWalkers (b : Nat) (st : St) (Q : Int32 → St → Prop) : Prop :=
  (∃ n, lp (fun R s => wX4_readWalkers_L2 b R s.1 s.2 Q) n (0, st))
theorem hdX4_readWalkers : yX4_readWalkers.cls = "PlankBridge$Reader" ∧ yX4_readWalkers.cls ≠ "java/lang/invoke/MethodHandle" ∧ yX4_readWalkers.cls ≠ "java/lang/invoke/VarHandle" ∧ (parseMethodDescriptor yX4_readWalkers.desc).map (fun d => d.parameters.length) = some 0 := by decide +kernel
set_option maxHeartbeats 4000000 in
set_option maxRecDepth 100000 in
theorem tX4_readWalkers_L113 {l : Launch} {p : Program} {e : Env} {s : State} {m : MethodId} {args : Array Value} {below : List Frame} {meth : Method} {c : Code} {E : En0} {L : List Nat} (hL : Cov 0 54 L) (C : Cx E L "PlankBridge$Reader" cX4_readWalkers 4 p s m args c) (hr : meth.sig.returnType = (some .boolean)) (hlk : meth.locks = false) {b : Nat} {Q : Int32 → St → Prop} (hb : kd b = 3) {R2 : Int32 × St → Prop} (hR2 : ∀ (v1 : Int32) (st : St), ∀ (H : Heap) (locs : List Loc) (ls : Array Slot), R2 (v1, st) → lv_has ls 4 [(0, .ref (E.2.1 b)), (1, .int v1)] → va_P E.1 vwCl (wd E L st) H → va_S (fA E L s.heap.size) s.heap H locs → W p l e rmX4_readWalkers s m args below meth c H locs 0 0 (MQ below (zI E L (fun r u => bz r ∧ Q r u) (fA E L s.heap.size)) args s rmX4_readWalkers.cells rmX4_readWalkers.slots (fA E L s.heap.size)) (F0 m 2 ls [])) {v1 : Int32} {v2 : Int32} {s0 : Int32}  {st : St} (H : Heap) (locs : List Loc) (ls : Array Slot) (h : wX4_readWalkers_L113 b R2 v1 v2 s0 st Q) (hl : lv_has ls 4 [(0, .ref (E.2.1 b)), (1, .int v1), (2, .int v2)]) (hP : va_P E.1 vwCl (wd E L st) H) (hS : va_S (fA E L s.heap.size) s.heap H locs) : W p l e rmX4_readWalkers s m args below meth c H locs 0 0 (MQ below (zI E L (fun r u => bz r ∧ Q r u) (fA E L s.heap.size)) args s rmX4_readWalkers.cells rmX4_readWalkers.slots (fA E L s.heap.size)) (F0 m 113 ls [.int s0]) := by
  unfold wX4_readWalkers_L113 at h
  refine lv_istore_n C.1 C.2.1 dX4_readWalkers_113 rfl hl (Nat.le_of_ble_eq_true rfl) rfl (fun ls hl => ?_)
  have hl : lv_has ls 4 [(3, .int s0), (0, .ref (E.2.1 b)), (1, .int v1), (2, .int v2)] := hl
  refine lv_iload_n C.1 C.2.1 dX4_readWalkers_114 rfl (lv_at hl 0 rfl) ?_
  refine lv_if_ne C.1 C.2.1 (tgt := 120) dX4_readWalkers_115 (by decide) (fun hc => ?_) (fun hc => ?_)
  · have h := h.1 hc
    refine lv_aload_n C.1 C.2.1 dX4_readWalkers_120 rfl (lv_at hl 1 rfl) ?_
    refine gf3_1 C hP hb (m3 hb hL) q265 dX4_readWalkers_121 ?_
    obtain ⟨hc18, h⟩ := h
    obtain ⟨c18, ec18⟩ : ∃ z, z = gR st b 1 := ⟨_, rfl⟩
    rw [← ec18]; rw [← ec18] at hc18; have h := h c18 ec18
    refine lv_aload_n C.1 C.2.1 dX4_readWalkers_124 rfl (lv_at hl 1 rfl) ?_
    refine gf3_0 C hP hb (m3 hb hL) q264 dX4_readWalkers_125 ?_
    obtain ⟨hc19, h⟩ := h
    obtain ⟨c19, ec19⟩ : ∃ z, z = gR st b 0 := ⟨_, rfl⟩
    rw [← ec19]; rw [← ec19] at hc19; have h := h c19 ec19
    refine lv_iload_n C.1 C.2.1 dX4_readWalkers_128 rfl (lv_at hl 3 rfl) ?_
    refine lv_iconst C.1 C.2.1 (v := 1) dX4_readWalkers_129 rfl ?_
    refine lv_iadd C.1 C.2.1 dX4_readWalkers_130  ?_
    refine z_kj hS (z_runV (As := [.int (v2 + 1)]) (rest := [.ref (E.2.1 c18)]) C hP hS (m6 hc19 hL) (e6 hc19) rfl (tX7_wordAt C.2.2.2.2.2.2.1 (hL.mo (Nat.le_of_ble_eq_true rfl) (Nat.le_of_ble_eq_true rfl)) hc19 h) q510 q511 q512 q108 q513 hdX7_wordAt ⟨Nat.le_of_ble_eq_true rfl, Nat.le_of_ble_eq_true rfl⟩ ⟨Nat.zero_le _, Nat.zero_le _⟩ rfl hl.1 rfl (lv_room (Nat.le_of_ble_eq_true rfl)) dX4_readWalkers_131) (fun r21 st20 H locs h hP hS => ?_)
    refine lv_aload_n C.1 C.2.1 dX4_readWalkers_134 rfl (lv_at hl 1 rfl) ?_
    refine gf3_0 C hP hb (m3 hb hL) q264 dX4_readWalkers_135 ?_
    obtain ⟨hc22, h⟩ := h
    obtain ⟨c22, ec22⟩ : ∃ z, z = gR st20 b 0 := ⟨_, rfl⟩
    rw [← ec22]; rw [← ec22] at hc22; have h := h c22 ec22
    refine lv_iload_n C.1 C.2.1 dX4_readWalkers_138 rfl (lv_at hl 3 rfl) ?_
    refine lv_iconst C.1 C.2.1 (v := 3) dX4_readWalkers_139 rfl ?_
    refine lv_iadd C.1 C.2.1 dX4_readWalkers_140  ?_
    refine z_ki hS (z_runV (As := [.int (v2 + 3)]) (rest := [.long r21, .ref (E.2.1 c18)]) C hP hS (m6 hc22 hL) (e6 hc22) rfl (tX7_numberAt C.2.2.2.2.2.2.1 (hL.mo (Nat.le_of_ble_eq_true rfl) (Nat.le_of_ble_eq_true rfl)) hc22 h) q537 q538 q539 q108 q540 hdX7_numberAt ⟨Nat.le_of_ble_eq_true rfl, Nat.le_of_ble_eq_true rfl⟩ ⟨Nat.zero_le _, Nat.zero_le _⟩ rfl hl.1 rfl (lv_room (Nat.le_of_ble_eq_true rfl)) dX4_readWalkers_141) (fun r24 st23 H locs h hP hS => ?_)
    refine lv_aload_n C.1 C.2.1 dX4_readWalkers_144 rfl (lv_at hl 1 rfl) ?_
    refine gf3_0 C hP hb (m3 hb hL) q264 dX4_readWalkers_145 ?_
    obtain ⟨hc25, h⟩ := h
    obtain ⟨c25, ec25⟩ : ∃ z, z = gR st23 b 0 := ⟨_, rfl⟩
    rw [← ec25]; rw [← ec25] at hc25; have h := h c25 ec25
    refine lv_iload_n C.1 C.2.1 dX4_readWalkers_148 rfl (lv_at hl 3 rfl) ?_
    refine lv_iconst C.1 C.2.1 (v := 5) dX4_readWalkers_149 rfl ?_
    refine lv_iadd C.1 C.2.1 dX4_readWalkers_150  ?_
    refine z_ki hS (z_runV (As := [.int (v2 + 5)]) (rest := [.int r24, .long r21, .ref (E.2.1 c18)]) C hP hS (m6 hc25 hL) (e6 hc25) rfl (tX7_numberAt C.2.2.2.2.2.2.1 (hL.mo (Nat.le_of_ble_eq_true rfl) (Nat.le_of_ble_eq_true rfl)) hc25 h) q537 q538 q539 q108 q540 hdX7_numberAt ⟨Nat.le_of_ble_eq_true rfl, Nat.le_of_ble_eq_true rfl⟩ ⟨Nat.zero_le _, Nat.zero_le _⟩ rfl hl.1 rfl (lv_room (Nat.le_of_ble_eq_true rfl)) dX4_readWalkers_151) (fun r27 st26 H locs h hP hS => ?_)
    refine z_kv hS (z_runV (As := [.long r21, .int r24, .int r27]) (rest := []) C hP hS (m1 hc18 hL) (e1 hc18) rfl (tX1_addWalker C.2.2.2.2.2.2.1 (hL.mo (Nat.le_of_ble_eq_true rfl) (Nat.le_of_ble_eq_true rfl)) hc18 h) q546 q547 q548 q107 q549 hdX1_addWalker ⟨Nat.le_of_ble_eq_true rfl, Nat.le_of_ble_eq_true rfl⟩ ⟨Nat.zero_le _, Nat.zero_le _⟩ rfl hl.1 rfl (lv_room (Nat.le_of_ble_eq_true rfl)) dX4_readWalkers_154) (fun st28 H locs h hP hS => ?_)
    obtain ⟨x29, ex29⟩ : ∃ z, z = v1 + 1 := ⟨_, rfl⟩
    have h := h x29 ex29
    refine lv_iinc C.1 C.2.1 dX4_readWalkers_157 hl (k := 2) rfl ex29.symm (Nat.le_of_ble_eq_true rfl) rfl (fun ls hl => ?_)
    have hl : lv_has ls 4 [(1, .int x29), (3, .int s0), (0, .ref (E.2.1 b)), (2, .int v2)] := hl
    refine lv_goto C.1 C.2.1 (tgt := 2) dX4_readWalkers_160 (by decide) ?_
    exact hR2 x29 st28 _ _ _ h (lv_sub hl [2, 0] rfl) hP hS
  · have h := h.2 hc
    refine lv_iconst C.1 C.2.1 (v := 0) dX4_readWalkers_118 rfl ?_
    exact z_ri C hr hlk (bz_n bz0) hP hS ⟨bz0, h⟩ dX4_readWalkers_119
set_option maxHeartbeats 4000000 in
set_option maxRecDepth 100000 in
theorem tX4_readWalkers_L112 {l : Launch} {p : Program} {e : Env} {s : State} {m : MethodId} {args : Array Value} {below : List Frame} {meth : Method} {c : Code} {E : En0} {L : List Nat} (hL : Cov 0 54 L) (C : Cx E L "PlankBridge$Reader" cX4_readWalkers 4 p s m args c) (hr : meth.sig.returnType = (some .boolean)) (hlk : meth.locks = false) {b : Nat} {Q : Int32 → St → Prop} (hb : kd b = 3) {R2 : Int32 × St → Prop} (hR2 : ∀ (v1 : Int32) (st : St), ∀ (H : Heap) (locs : List Loc) (ls : Array Slot), R2 (v1, st) → lv_has ls 4 [(0, .ref (E.2.1 b)), (1, .int v1)] → va_P E.1 vwCl (wd E L st) H → va_S (fA E L s.heap.size) s.heap H locs → W p l e rmX4_readWalkers s m args below meth c H locs 0 0 (MQ below (zI E L (fun r u => bz r ∧ Q r u) (fA E L s.heap.size)) args s rmX4_readWalkers.cells rmX4_readWalkers.slots (fA E L s.heap.size)) (F0 m 2 ls [])) {v1 : Int32} {v2 : Int32}  {st : St} (H : Heap) (locs : List Loc) (ls : Array Slot) (h : wX4_readWalkers_L112 b R2 v1 v2 st Q) (hl : lv_has ls 4 [(0, .ref (E.2.1 b)), (1, .int v1), (2, .int v2)]) (hP : va_P E.1 vwCl (wd E L st) H) (hS : va_S (fA E L s.heap.size) s.heap H locs) : W p l e rmX4_readWalkers s m args below meth c H locs 0 0 (MQ below (zI E L (fun r u => bz r ∧ Q r u) (fA E L s.heap.size)) args s rmX4_readWalkers.cells rmX4_readWalkers.slots (fA E L s.heap.size)) (F0 m 112 ls []) := by
  unfold wX4_readWalkers_L112 at h
  refine lv_iconst C.1 C.2.1 (v := 0) dX4_readWalkers_112 rfl ?_
  exact tX4_readWalkers_L113 hL C hr hlk hb hR2 _ _ _ h hl hP hS
set_option maxHeartbeats 4000000 in
set_option maxRecDepth 100000 in
theorem tX4_readWalkers_L52 {l : Launch} {p : Program} {e : Env} {s : State} {m : MethodId} {args : Array Value} {below : List Frame} {meth : Method} {c : Code} {E : En0} {L : List Nat} (hL : Cov 0 54 L) (C : Cx E L "PlankBridge$Reader" cX4_readWalkers 4 p s m args c) (hr : meth.sig.returnType = (some .boolean)) (hlk : meth.locks = false) {b : Nat} {Q : Int32 → St → Prop} (hb : kd b = 3) {R2 : Int32 × St → Prop} (hR2 : ∀ (v1 : Int32) (st : St), ∀ (H : Heap) (locs : List Loc) (ls : Array Slot), R2 (v1, st) → lv_has ls 4 [(0, .ref (E.2.1 b)), (1, .int v1)] → va_P E.1 vwCl (wd E L st) H → va_S (fA E L s.heap.size) s.heap H locs → W p l e rmX4_readWalkers s m args below meth c H locs 0 0 (MQ below (zI E L (fun r u => bz r ∧ Q r u) (fA E L s.heap.size)) args s rmX4_readWalkers.cells rmX4_readWalkers.slots (fA E L s.heap.size)) (F0 m 2 ls [])) {v1 : Int32} {v2 : Int32} {s0 : Int32}  {st : St} (H : Heap) (locs : List Loc) (ls : Array Slot) (h : wX4_readWalkers_L52 b R2 v1 v2 s0 st Q) (hl : lv_has ls 4 [(0, .ref (E.2.1 b)), (1, .int v1), (2, .int v2)]) (hP : va_P E.1 vwCl (wd E L st) H) (hS : va_S (fA E L s.heap.size) s.heap H locs) : W p l e rmX4_readWalkers s m args below meth c H locs 0 0 (MQ below (zI E L (fun r u => bz r ∧ Q r u) (fA E L s.heap.size)) args s rmX4_readWalkers.cells rmX4_readWalkers.slots (fA E L s.heap.size)) (F0 m 52 ls [.int s0, .ref (E.2.1 b)]) := by
  unfold wX4_readWalkers_L52 at h
  refine z_ki hS (z_runV (As := [.int s0]) (rest := []) C hP hS (m3 hb hL) (e3 hb) rfl (tX4_takeNewName C.2.2.2.2.2.2.1 (hL.mo (Nat.le_of_ble_eq_true rfl) (Nat.le_of_ble_eq_true rfl)) hb h) q506 q508 q1 q109 q509 hdX4_takeNewName ⟨Nat.le_of_ble_eq_true rfl, Nat.le_of_ble_eq_true rfl⟩ ⟨Nat.zero_le _, Nat.zero_le _⟩ rfl hl.1 rfl (lv_room (Nat.le_of_ble_eq_true rfl)) dX4_readWalkers_52) (fun r7 st6 H locs h hP hS => ?_)
  obtain ⟨hr7, h⟩ := h
  refine lv_if_eq C.1 C.2.1 (tgt := 112) dX4_readWalkers_55 (by decide) (fun hc => ?_) (fun hc => ?_)
  · have h := h.1 hc
    exact tX4_readWalkers_L112 hL C hr hlk hb hR2 _ _ _ h hl hP hS
  · have h := h.2 hc
    refine lv_aload_n C.1 C.2.1 dX4_readWalkers_58 rfl (lv_at hl 0 rfl) ?_
    refine z_kst C hS (i := 12) (by decide) rfl q527 dX4_readWalkers_59 ?_
    refine z_ki hS (z_runV (As := [va_re E.2.2.1 (some 12)]) (rest := []) C hP hS (m3 hb hL) (e3 hb) rfl (tX4_take C.2.2.2.2.2.2.1 (hL.mo (Nat.le_of_ble_eq_true rfl) (Nat.le_of_ble_eq_true rfl)) hb h) q502 q504 q0 q109 q505 hdX4_take ⟨Nat.le_of_ble_eq_true rfl, Nat.le_of_ble_eq_true rfl⟩ ⟨Nat.zero_le _, Nat.zero_le _⟩ rfl hl.1 rfl (lv_room (Nat.le_of_ble_eq_true rfl)) dX4_readWalkers_62) (fun r9 st8 H locs h hP hS => ?_)
    obtain ⟨hr9, h⟩ := h
    refine lv_if_eq C.1 C.2.1 (tgt := 112) dX4_readWalkers_65 (by decide) (fun hc => ?_) (fun hc => ?_)
    · have h := h.1 hc
      exact tX4_readWalkers_L112 hL C hr hlk hb hR2 _ _ _ h hl hP hS
    · have h := h.2 hc
      refine lv_aload_n C.1 C.2.1 dX4_readWalkers_68 rfl (lv_at hl 0 rfl) ?_
      refine lv_iconst C.1 C.2.1 (v := 1) dX4_readWalkers_69 rfl ?_
      refine lv_bipush C.1 C.2.1 (v := 9) dX4_readWalkers_70 rfl ?_
      refine z_ki hS (z_runV (As := [.int 1, .int 9]) (rest := []) C hP hS (m3 hb hL) (e3 hb) rfl (tX4_takeNumber C.2.2.2.2.2.2.1 (hL.mo (Nat.le_of_ble_eq_true rfl) (Nat.le_of_ble_eq_true rfl)) hb h) q529 q531 q3 q109 q532 hdX4_takeNumber ⟨Nat.le_of_ble_eq_true rfl, Nat.le_of_ble_eq_true rfl⟩ ⟨Nat.zero_le _, Nat.zero_le _⟩ rfl hl.1 rfl (lv_room (Nat.le_of_ble_eq_true rfl)) dX4_readWalkers_72) (fun r11 st10 H locs h hP hS => ?_)
      obtain ⟨hr11, h⟩ := h
      refine lv_if_eq C.1 C.2.1 (tgt := 112) dX4_readWalkers_75 (by decide) (fun hc => ?_) (fun hc => ?_)
      · have h := h.1 hc
        exact tX4_readWalkers_L112 hL C hr hlk hb hR2 _ _ _ h hl hP hS
      · have h := h.2 hc
        refine lv_aload_n C.1 C.2.1 dX4_readWalkers_78 rfl (lv_at hl 0 rfl) ?_
        refine z_kst C hS (i := 13) (by decide) rfl q542 dX4_readWalkers_79 ?_
        refine z_ki hS (z_runV (As := [va_re E.2.2.1 (some 13)]) (rest := []) C hP hS (m3 hb hL) (e3 hb) rfl (tX4_take C.2.2.2.2.2.2.1 (hL.mo (Nat.le_of_ble_eq_true rfl) (Nat.le_of_ble_eq_true rfl)) hb h) q502 q504 q0 q109 q505 hdX4_take ⟨Nat.le_of_ble_eq_true rfl, Nat.le_of_ble_eq_true rfl⟩ ⟨Nat.zero_le _, Nat.zero_le _⟩ rfl hl.1 rfl (lv_room (Nat.le_of_ble_eq_true rfl)) dX4_readWalkers_82) (fun r13 st12 H locs h hP hS => ?_)
        obtain ⟨hr13, h⟩ := h
        refine lv_if_eq C.1 C.2.1 (tgt := 112) dX4_readWalkers_85 (by decide) (fun hc => ?_) (fun hc => ?_)
        · have h := h.1 hc
          exact tX4_readWalkers_L112 hL C hr hlk hb hR2 _ _ _ h hl hP hS
        · have h := h.2 hc
          refine lv_aload_n C.1 C.2.1 dX4_readWalkers_88 rfl (lv_at hl 0 rfl) ?_
          refine lv_iconst C.1 C.2.1 (v := 1) dX4_readWalkers_89 rfl ?_
          refine lv_bipush C.1 C.2.1 (v := 20) dX4_readWalkers_90 rfl ?_
          refine z_ki hS (z_runV (As := [.int 1, .int 20]) (rest := []) C hP hS (m3 hb hL) (e3 hb) rfl (tX4_takeNumber C.2.2.2.2.2.2.1 (hL.mo (Nat.le_of_ble_eq_true rfl) (Nat.le_of_ble_eq_true rfl)) hb h) q529 q531 q3 q109 q532 hdX4_takeNumber ⟨Nat.le_of_ble_eq_true rfl, Nat.le_of_ble_eq_true rfl⟩ ⟨Nat.zero_le _, Nat.zero_le _⟩ rfl hl.1 rfl (lv_room (Nat.le_of_ble_eq_true rfl)) dX4_readWalkers_92) (fun r15 st14 H locs h hP hS => ?_)
          obtain ⟨hr15, h⟩ := h
          refine lv_if_eq C.1 C.2.1 (tgt := 112) dX4_readWalkers_95 (by decide) (fun hc => ?_) (fun hc => ?_)
          · have h := h.1 hc
            exact tX4_readWalkers_L112 hL C hr hlk hb hR2 _ _ _ h hl hP hS
          · have h := h.2 hc
            refine lv_aload_n C.1 C.2.1 dX4_readWalkers_98 rfl (lv_at hl 0 rfl) ?_
            refine z_kst C hS (i := 6) (by decide) rfl q544 dX4_readWalkers_99 ?_
            refine z_ki hS (z_runV (As := [va_re E.2.2.1 (some 6)]) (rest := []) C hP hS (m3 hb hL) (e3 hb) rfl (tX4_take C.2.2.2.2.2.2.1 (hL.mo (Nat.le_of_ble_eq_true rfl) (Nat.le_of_ble_eq_true rfl)) hb h) q502 q504 q0 q109 q505 hdX4_take ⟨Nat.le_of_ble_eq_true rfl, Nat.le_of_ble_eq_true rfl⟩ ⟨Nat.zero_le _, Nat.zero_le _⟩ rfl hl.1 rfl (lv_room (Nat.le_of_ble_eq_true rfl)) dX4_readWalkers_102) (fun r17 st16 H locs h hP hS => ?_)
            obtain ⟨hr17, h⟩ := h
            refine lv_if_eq C.1 C.2.1 (tgt := 112) dX4_readWalkers_105 (by decide) (fun hc => ?_) (fun hc => ?_)
            · have h := h.1 hc
              exact tX4_readWalkers_L112 hL C hr hlk hb hR2 _ _ _ h hl hP hS
            · have h := h.2 hc
              refine lv_iconst C.1 C.2.1 (v := 1) dX4_readWalkers_108 rfl ?_
              refine lv_goto C.1 C.2.1 (tgt := 113) dX4_readWalkers_109 (by decide) ?_
              exact tX4_readWalkers_L113 hL C hr hlk hb hR2 _ _ _ h hl hP hS
set_option maxHeartbeats 4000000 in
set_option maxRecDepth 100000 in
theorem tX4_readWalkers_L2 {l : Launch} {p : Program} {e : Env} {s : State} {m : MethodId} {args : Array Value} {below : List Frame} {meth : Method} {c : Code} {E : En0} {L : List Nat} (hL : Cov 0 54 L) (C : Cx E L "PlankBridge$Reader" cX4_readWalkers 4 p s m args c) (hr : meth.sig.returnType = (some .boolean)) (hlk : meth.locks = false) {b : Nat} {Q : Int32 → St → Prop} (hb : kd b = 3) : ∀ (n : Nat) (v1 : Int32) (st : St) (H : Heap) (locs : List Loc) (ls : Array Slot), lp (fun R s => wX4_readWalkers_L2 b R s.1 s.2 Q) n (v1, st) → lv_has ls 4 [(0, .ref (E.2.1 b)), (1, .int v1)] → va_P E.1 vwCl (wd E L st) H → va_S (fA E L s.heap.size) s.heap H locs → W p l e rmX4_readWalkers s m args below meth c H locs 0 0 (MQ below (zI E L (fun r u => bz r ∧ Q r u) (fA E L s.heap.size)) args s rmX4_readWalkers.cells rmX4_readWalkers.slots (fA E L s.heap.size)) (F0 m 2 ls []) := by
  intro n
  induction n with
  | zero => exact fun _ _ _ _ _ h _ _ _ => False.elim ‹_›
  | succ n ih =>
    intro v1 st  H locs ls h hl hP hS
    have hR2 := ih
    replace h : wX4_readWalkers_L2 b (lp (fun R s => wX4_readWalkers_L2 b R s.1 s.2 Q) n) v1 st Q := h
    unfold wX4_readWalkers_L2 at h
    refine lv_iload_n C.1 C.2.1 dX4_readWalkers_2 rfl (lv_at hl 1 rfl) ?_
    refine lv_sipush C.1 C.2.1 (v := 400) dX4_readWalkers_3 rfl ?_
    refine lv_icmp_ge C.1 C.2.1 (tgt := 163) dX4_readWalkers_6 (by decide) (fun hc => ?_) (fun hc => ?_)
    · have h := h.1 hc
      refine lv_iconst C.1 C.2.1 (v := 1) dX4_readWalkers_163 rfl ?_
      exact z_ri C hr hlk (bz_n bz1) hP hS ⟨bz1, h⟩ dX4_readWalkers_164
    · have h := h.2 hc
      refine lv_aload_n C.1 C.2.1 dX4_readWalkers_9 rfl (lv_at hl 0 rfl) ?_
      refine gf3_3 C hP hb (m3 hb hL) q267 dX4_readWalkers_10 ?_
      refine z_kst C hS (i := 11) (by decide) rfl q500 dX4_readWalkers_13 ?_
      obtain ⟨hk1, h⟩ := h
      refine z_acmp_ne C hk1 (kin_l (by decide)) (tgt := 163) dX4_readWalkers_16 (by decide) (fun hc => ?_) (fun hc => ?_)
      · have h := h.1 hc
        refine lv_iconst C.1 C.2.1 (v := 1) dX4_readWalkers_163 rfl ?_
        exact z_ri C hr hlk (bz_n bz1) hP hS ⟨bz1, h⟩ dX4_readWalkers_164
      · have h := h.2 hc
        refine lv_aload_n C.1 C.2.1 dX4_readWalkers_19 rfl (lv_at hl 0 rfl) ?_
        refine gf3_2 C hP hb (m3 hb hL) q266 dX4_readWalkers_20 ?_
        refine lv_topi (fun x2 ex2 => ?_)
        have h := h x2 ex2
        refine lv_istore_n C.1 C.2.1 dX4_readWalkers_23 rfl hl (Nat.le_of_ble_eq_true rfl) rfl (fun ls hl => ?_)
        have hl : lv_has ls 4 [(2, .int x2), (0, .ref (E.2.1 b)), (1, .int v1)] := hl
        refine lv_aload_n C.1 C.2.1 dX4_readWalkers_24 rfl (lv_at hl 1 rfl) ?_
        refine z_kst C hS (i := 11) (by decide) rfl q500 dX4_readWalkers_25 ?_
        refine z_ki hS (z_runV (As := [va_re E.2.2.1 (some 11)]) (rest := []) C hP hS (m3 hb hL) (e3 hb) rfl (tX4_take C.2.2.2.2.2.2.1 (hL.mo (Nat.le_of_ble_eq_true rfl) (Nat.le_of_ble_eq_true rfl)) hb h) q502 q504 q0 q109 q505 hdX4_take ⟨Nat.le_of_ble_eq_true rfl, Nat.le_of_ble_eq_true rfl⟩ ⟨Nat.zero_le _, Nat.zero_le _⟩ rfl hl.1 rfl (lv_room (Nat.le_of_ble_eq_true rfl)) dX4_readWalkers_28) (fun r4 st3 H locs h hP hS => ?_)
        obtain ⟨hr4, h⟩ := h
        refine lv_if_eq C.1 C.2.1 (tgt := 112) dX4_readWalkers_31 (by decide) (fun hc => ?_) (fun hc => ?_)
        · have h := h.1 hc
          exact tX4_readWalkers_L112 hL C hr hlk hb hR2 _ _ _ h (lv_sub hl [1, 2, 0] rfl) hP hS
        · have h := h.2 hc
          refine lv_aload_n C.1 C.2.1 dX4_readWalkers_34 rfl (lv_at hl 1 rfl) ?_
          refine lv_aload_n C.1 C.2.1 dX4_readWalkers_35 rfl (lv_at hl 1 rfl) ?_
          refine gf3_1 C hP hb (m3 hb hL) q265 dX4_readWalkers_36 ?_
          obtain ⟨hc5, h⟩ := h
          obtain ⟨c5, ec5⟩ : ∃ z, z = gR st3 b 1 := ⟨_, rfl⟩
          rw [← ec5]; rw [← ec5] at hc5; have h := h c5 ec5
          refine gn1_4 C hP hc5 (m1 hc5 hL) q199 dX4_readWalkers_39 ?_
          refine lv_bipush C.1 C.2.1 (v := 8) dX4_readWalkers_42 rfl ?_
          refine lv_icmp_lt C.1 C.2.1 (tgt := 51) dX4_readWalkers_44 (by decide) (fun hc => ?_) (fun hc => ?_)
          · have h := h.1 hc
            refine lv_iconst C.1 C.2.1 (v := 0) dX4_readWalkers_51 rfl ?_
            exact tX4_readWalkers_L52 hL C hr hlk hb hR2 _ _ _ h (lv_sub hl [1, 2, 0] rfl) hP hS
          · have h := h.2 hc
            refine lv_iconst C.1 C.2.1 (v := 1) dX4_readWalkers_47 rfl ?_
            refine lv_goto C.1 C.2.1 (tgt := 52) dX4_readWalkers_48 (by decide) ?_
            exact tX4_readWalkers_L52 hL C hr hlk hb hR2 _ _ _ h (lv_sub hl [1, 2, 0] rfl) hP hS
set_option maxHeartbeats 4000000 in
set_option maxRecDepth 100000 in
theorem tX4_readWalkers {l : Launch} {E : En0} {L : List Nat} (hE : EK E L) (hL : Cov 0 54 L) {b : Nat} {st : St} {Q : Int32 → St → Prop} (hb : kd b = 3) (h : wX4_readWalkers b st Q) : Mz l yX4_readWalkers cX4_readWalkers 4 (some .boolean) rmX4_readWalkers E L [.ref (E.2.1 b)] st (zI E L (fun r u => bz r ∧ Q r u)) := by
  refine Mz.of hE (by decide) (Nat.le_of_ble_eq_true rfl) ?_
  intro p e s m below meth c ls C hr hlk _ hl hP
  replace C : Cx E L "PlankBridge$Reader" cX4_readWalkers 4 p s m _ c := C
  have hS : va_S (fA E L s.heap.size) s.heap s.heap [] := va_S.rf
  replace hl : lv_has ls 4 [(0, .ref (E.2.1 b))] := hl
  unfold wX4_readWalkers at h
  refine lv_iconst C.1 C.2.1 (v := 0) dX4_readWalkers_0 rfl ?_
  refine lv_istore_n C.1 C.2.1 dX4_readWalkers_1 rfl hl (Nat.le_of_ble_eq_true rfl) rfl (fun ls hl => ?_)
  have hl : lv_has ls 4 [(1, .int 0), (0, .ref (E.2.1 b))] := hl
  obtain ⟨n, h⟩ := h
  exact tX4_readWalkers_L2 hL C hr hlk hb n 0 st _ _ _ h (lv_sub hl [1, 0] rfl) hP hS

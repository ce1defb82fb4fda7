def rmX4_readBlock_0 : Room := { frames := 0, cells := 0, slots := 0, locals := 0 }
def wX4_readBlock_0 (b : Nat) (p1 : Int32) (p2 : Int32) (st : St) (Q : Int32 → St → Prop) : Prop := False
theorem hdX4_readBlock_0 : yX4_readBlock.cls = "PlankBridge$Reader" ∧ yX4_readBlock.cls ≠ "java/lang/invoke/MethodHandle" ∧ yX4_readBlock.cls ≠ "java/lang/invoke/VarHandle" ∧ (parseMethodDescriptor yX4_readBlock.desc).map (fun d => d.parameters.length) = some 2 := by decide +kernel
theorem tX4_readBlock_0 {l : Launch} {E : En0} {L : List Nat} (hE : EK E L) (hL : Cov 0 54 L) {b : Nat} {p1 : Int32} {p2 : Int32} {st : St} {Q : Int32 → St → Prop} (hb : kd b = 3) (h : wX4_readBlock_0 b p1 p2 st Q) : Mz l yX4_readBlock cX4_readBlock 6 (some .boolean) rmX4_readBlock_0 E L [.ref (E.2.1 b), .int p1, .int p2] st (zI E L (fun r u => bz r ∧ Q r u)) := False.elim h
def rmX4_readBlockOf_1 : Room := { frames := 1, cells := 0, slots := 0, locals := 25 }
def wX4_readBlockOf_1 (b : Nat) (p1 : Int32) (p2 : Int32) (p3 : Nat) (st : St) (Q : Int32 → St → Prop) : Prop :=
  (kd (gR st b 1) = 1 ∧ ∀ c1, c1 = gR st b 1 → (∀ x2 : Int32, x2 = (gI st c1 15) → (wX4_readBlock_0 b p1 (p2 + 1) st (fun r4 st3 => ((p1 < 0 → Q r4 st3) ∧ (¬ p1 < 0 → ((60 ≤ p1 → Q r4 st3) ∧ (¬ 60 ≤ p1 → (kd (gR st3 b 1) = 1 ∧ ∀ c5, c5 = gR st3 b 1 → (wX1_firstSince c5 x2 st3 (fun r7 st6 => (vp_in p1 60 ∧ ∀ st8, st8 = uI st6 p3 (p1 : Int32).toNatClampNeg r7 → Q r4 st8))))))))))))
theorem hdX4_readBlockOf_1 : yX4_readBlockOf.cls = "PlankBridge$Reader" ∧ yX4_readBlockOf.cls ≠ "java/lang/invoke/MethodHandle" ∧ yX4_readBlockOf.cls ≠ "java/lang/invoke/VarHandle" ∧ (parseMethodDescriptor yX4_readBlockOf.desc).map (fun d => d.parameters.length) = some 3 := by decide +kernel
set_option maxHeartbeats 4000000 in
set_option maxRecDepth 100000 in
theorem tX4_readBlockOf_1 {l : Launch} {E : En0} {L : List Nat} (hE : EK E L) (hL : Cov 0 54 L) {b : Nat} {p1 : Int32} {p2 : Int32} {p3 : Nat} {st : St} {Q : Int32 → St → Prop} (hb : kd b = 3) (hp3 : kd p3 = 20) (lp3 : ln p3 = 60) (mp3 : p3 ∈ L) (h : wX4_readBlockOf_1 b p1 p2 p3 st Q) : Mz l yX4_readBlockOf cX4_readBlockOf 6 (some .boolean) rmX4_readBlockOf_1 E L [.ref (E.2.1 b), .int p1, .int p2, .ref (E.2.1 p3)] st (zI E L (fun r u => bz r ∧ Q r u)) := by
  refine Mz.of hE (by decide) (Nat.le_of_ble_eq_true rfl) ?_
  intro p e s m below meth c ls C hr hlk _ hl hP
  replace C : Cx E L "PlankBridge$Reader" cX4_readBlockOf 6 p s m _ c := C
  have hS : va_S (fA E L s.heap.size) s.heap s.heap [] := va_S.rf
  replace hl : lv_has ls 6 [(0, .ref (E.2.1 b)), (1, .int p1), (2, .int p2), (3, .ref (E.2.1 p3))] := hl
  unfold wX4_readBlockOf_1 at h
  refine lv_aload_n C.1 C.2.1 dX4_readBlockOf_0 rfl (lv_at hl 0 rfl) ?_
  refine gf3_1 C hP hb (m3 hb hL) q265 dX4_readBlockOf_1 ?_
  obtain ⟨hc1, h⟩ := h
  obtain ⟨c1, ec1⟩ : ∃ z, z = gR st b 1 := ⟨_, rfl⟩
  rw [← ec1]; rw [← ec1] at hc1; have h := h c1 ec1
  refine gn1_15 C hP hc1 (m1 hc1 hL) q222 dX4_readBlockOf_4 ?_
  refine lv_topi (fun x2 ex2 => ?_)
  have h := h x2 ex2
  refine lv_istore C.1 C.2.1 dX4_readBlockOf_7 hl (Nat.le_of_ble_eq_true rfl) rfl (fun ls hl => ?_)
  have hl : lv_has ls 6 [(4, .int x2), (0, .ref (E.2.1 b)), (1, .int p1), (2, .int p2), (3, .ref (E.2.1 p3))] := hl
  refine lv_aload_n C.1 C.2.1 dX4_readBlockOf_9 rfl (lv_at hl 1 rfl) ?_
  refine lv_iload_n C.1 C.2.1 dX4_readBlockOf_10 rfl (lv_at hl 2 rfl) ?_
  refine lv_iload_n C.1 C.2.1 dX4_readBlockOf_11 rfl (lv_at hl 3 rfl) ?_
  refine lv_iconst C.1 C.2.1 (v := 1) dX4_readBlockOf_12 rfl ?_
  refine lv_iadd C.1 C.2.1 dX4_readBlockOf_13  ?_
  refine z_ki hS (z_runV (As := [.int p1, .int (p2 + 1)]) (rest := []) C hP hS (m3 hb hL) (e3 hb) rfl (tX4_readBlock_0 C.2.2.2.2.2.2.1 (hL.mo (Nat.le_of_ble_eq_true rfl) (Nat.le_of_ble_eq_true rfl)) hb h) q569 q571 q6 q109 q572 hdX4_readBlock_0 ⟨Nat.le_of_ble_eq_true rfl, Nat.le_of_ble_eq_true rfl⟩ ⟨Nat.zero_le _, Nat.zero_le _⟩ rfl hl.1 rfl (lv_room (Nat.le_of_ble_eq_true rfl)) dX4_readBlockOf_14) (fun r4 st3 H locs h hP hS => ?_)
  obtain ⟨hr4, h⟩ := h
  refine lv_istore C.1 C.2.1 dX4_readBlockOf_17 hl (Nat.le_of_ble_eq_true rfl) rfl (fun ls hl => ?_)
  have hl : lv_has ls 6 [(5, .int r4), (4, .int x2), (0, .ref (E.2.1 b)), (1, .int p1), (2, .int p2), (3, .ref (E.2.1 p3))] := hl
  refine lv_iload_n C.1 C.2.1 dX4_readBlockOf_19 rfl (lv_at hl 3 rfl) ?_
  refine lv_if_lt C.1 C.2.1 (tgt := 41) dX4_readBlockOf_20 (by decide) (fun hc => ?_) (fun hc => ?_)
  · have h := h.1 hc
    refine lv_iload C.1 C.2.1 dX4_readBlockOf_41 (lv_at hl 0 rfl) ?_
    exact z_ri C hr hlk (bz_n hr4) hP hS ⟨hr4, h⟩ dX4_readBlockOf_43
  · have h := h.2 hc
    refine lv_iload_n C.1 C.2.1 dX4_readBlockOf_23 rfl (lv_at hl 3 rfl) ?_
    refine lv_aload_n C.1 C.2.1 dX4_readBlockOf_24 rfl (lv_at hl 5 rfl) ?_
    refine z_alen C hP hp3 lp3 mp3 (v := 60) rfl dX4_readBlockOf_25 ?_
    refine lv_icmp_ge C.1 C.2.1 (tgt := 41) dX4_readBlockOf_26 (by decide) (fun hc => ?_) (fun hc => ?_)
    · have h := h.1 hc
      refine lv_iload C.1 C.2.1 dX4_readBlockOf_41 (lv_at hl 0 rfl) ?_
      exact z_ri C hr hlk (bz_n hr4) hP hS ⟨hr4, h⟩ dX4_readBlockOf_43
    · have h := h.2 hc
      refine lv_aload_n C.1 C.2.1 dX4_readBlockOf_29 rfl (lv_at hl 5 rfl) ?_
      refine lv_iload_n C.1 C.2.1 dX4_readBlockOf_30 rfl (lv_at hl 3 rfl) ?_
      refine lv_aload_n C.1 C.2.1 dX4_readBlockOf_31 rfl (lv_at hl 2 rfl) ?_
      refine gf3_1 C hP hb (m3 hb hL) q265 dX4_readBlockOf_32 ?_
      obtain ⟨hc5, h⟩ := h
      obtain ⟨c5, ec5⟩ : ∃ z, z = gR st3 b 1 := ⟨_, rfl⟩
      rw [← ec5]; rw [← ec5] at hc5; have h := h c5 ec5
      refine lv_iload C.1 C.2.1 dX4_readBlockOf_35 (lv_at hl 1 rfl) ?_
      refine z_ki hS (z_runV (As := [.int x2]) (rest := [.int p1, .ref (E.2.1 p3)]) C hP hS (m1 hc5 hL) (e1 hc5) rfl (tX1_firstSince C.2.2.2.2.2.2.1 (hL.mo (Nat.le_of_ble_eq_true rfl) (Nat.le_of_ble_eq_true rfl)) hc5 h) q665 q666 q667 q107 q668 hdX1_firstSince ⟨Nat.le_of_ble_eq_true rfl, Nat.le_of_ble_eq_true rfl⟩ ⟨Nat.zero_le _, Nat.zero_le _⟩ rfl hl.1 rfl (lv_room (Nat.le_of_ble_eq_true rfl)) dX4_readBlockOf_37) (fun r7 st6 H locs h hP hS => ?_)
      obtain ⟨hi, h⟩ := h
      refine z_iast C hP hS hp3 lp3 mp3 hi dX4_readBlockOf_40 (fun H locs hP hS => ?_)
      obtain ⟨st8, est8⟩ : ∃ z, z = uI st6 p3 (p1 : Int32).toNatClampNeg r7 := ⟨_, rfl⟩
      rw [← est8] at hP; have h := h st8 est8
      refine lv_iload C.1 C.2.1 dX4_readBlockOf_41 (lv_at hl 0 rfl) ?_
      exact z_ri C hr hlk (bz_n hr4) hP hS ⟨hr4, h⟩ dX4_readBlockOf_43
def rmX4_readAct_1 : Room := { frames := 4, cells := 0, slots := 0, locals := 85 }
def wX4_readAct_1_L98 (b : Nat) (p1 : Int32) (p2 : Int32)   (st : St) (Q : Int32 → St → Prop) : Prop :=
  (wX4_take b (some 6) st (fun r41 st40 => ((r41 = 0 → Q 0 st40) ∧ (¬ r41 = 0 → Q 1 st40))))
def wX4_readAct_1_L114 (b : Nat) (p1 : Int32) (p2 : Int32)  (v3 : Option Nat) (st : St) (Q : Int32 → St → Prop) : Prop :=
  (wX4_take b v3 st (fun r43 st42 => ((r43 = 0 → Q 0 st42) ∧ (¬ r43 = 0 → (wX4_takeValue b st42 (fun r45 st44 => ((r45 = 0 → Q 0 st44) ∧ (¬ r45 = 0 → (wX4_take b (some 6) st44 (fun r47 st46 => ((r47 = 0 → Q 0 st46) ∧ (¬ r47 = 0 → Q 1 st46))))))))))))
def wX4_readAct_1_L280 (b : Nat) (p1 : Int32) (p2 : Int32)   (st : St) (Q : Int32 → St → Prop) : Prop :=
  Q 1 st
def wX4_readAct_1 (b : Nat) (p1 : Int32) (p2 : Int32) (st : St) (Q : Int32 → St → Prop) : Prop :=
  (∀ x1, x1 = gK st b 3 → (∃ k3, x1 = some k3 ∧ k3 < 37 ∧ (vp_in (Int32.ofNat k3) 37 ∧ ((((kSw (Int32.ofNat k3 : Int32).toNatClampNeg : Int32).toInt < 1 ∨ 7 < (kSw (Int32.ofNat k3 : Int32).toNatClampNeg : Int32).toInt) → Q 0 st) ∧ (((kSw (Int32.ofNat k3 : Int32).toNatClampNeg) = 1 → (wX4_take b x1 st (fun r6 st5 => ((r6 = 0 → Q 0 st5) ∧ (¬ r6 = 0 → (wX4_takeWho b st5 (fun r8 st7 => ((r8 = 0 → Q 0 st7) ∧ (¬ r8 = 0 → (kin (gK st7 b 3) ∧ (¬ (gK st7 b 3) = ((some 17)) → wX4_readAct_1_L98 b p1 p2 st7 Q) ∧ ((gK st7 b 3) = ((some 17)) → (wX4_take b (some 17) st7 (fun r11 st10 => ((r11 = 0 → Q 0 st10) ∧ (¬ r11 = 0 → (wX4_takeWho b st10 (fun r13 st12 => ((r13 = 0 → Q 0 st12) ∧ (¬ r13 = 0 → wX4_readAct_1_L98 b p1 p2 st12 Q))))))))))))))))))) ∧ ((kSw (Int32.ofNat k3 : Int32).toNatClampNeg) = 2 → wX4_readAct_1_L114 b p1 p2 x1 st Q) ∧ ((kSw (Int32.ofNat k3 : Int32).toNatClampNeg) = 3 → wX4_readAct_1_L114 b p1 p2 x1 st Q) ∧ ((kSw (Int32.ofNat k3 : Int32).toNatClampNeg) = 4 → wX4_readAct_1_L114 b p1 p2 x1 st Q) ∧ ((kSw (Int32.ofNat k3 : Int32).toNatClampNeg) = 5 → (wX4_take b x1 st (fun r15 st14 => ((r15 = 0 → Q 0 st14) ∧ (¬ r15 = 0 → (wX4_takePlanName b st14 (fun r17 st16 => ((r17 = 0 → Q 0 st16) ∧ (¬ r17 = 0 → (wX4_take b (some 6) st16 (fun r19 st18 => ((r19 = 0 → Q 0 st18) ∧ (¬ r19 = 0 → Q 1 st18))))))))))))) ∧ ((kSw (Int32.ofNat k3 : Int32).toNatClampNeg) = 6 → (wX4_take b x1 st (fun r21 st20 => ((r21 = 0 → Q 0 st20) ∧ (¬ r21 = 0 → (wX4_takeCompares b st20 (fun r23 st22 => ((r23 = 0 → Q 0 st22) ∧ (¬ r23 = 0 → (kd (gR st22 b 1) = 1 ∧ ∀ c24, c24 = gR st22 b 1 → (wX4_readBlockOf_1 b p1 p2 ((c24 + 10)) st22 (fun r26 st25 => ((r26 = 0 → Q 0 st25) ∧ (¬ r26 = 0 → Q 1 st25)))))))))))))) ∧ ((kSw (Int32.ofNat k3 : Int32).toNatClampNeg) = 7 → (wX4_take b x1 st (fun r28 st27 => ((r28 = 0 → Q 0 st27) ∧ (¬ r28 = 0 → (wX4_takeCompares b st27 (fun r30 st29 => ((r30 = 0 → Q 0 st29) ∧ (¬ r30 = 0 → (kd (gR st29 b 1) = 1 ∧ ∀ c31, c31 = gR st29 b 1 → (wX4_readBlockOf_1 b p1 p2 ((c31 + 10)) st29 (fun r33 st32 => ((r33 = 0 → Q 0 st32) ∧ (¬ r33 = 0 → (kin (gK st32 b 3) ∧ (¬ (gK st32 b 3) = ((some 24)) → wX4_readAct_1_L280 b p1 p2 st32 Q) ∧ ((gK st32 b 3) = ((some 24)) → (wX4_take b (some 24) st32 (fun r36 st35 => ((r36 = 0 → Q 0 st35) ∧ (¬ r36 = 0 → (kd (gR st35 b 1) = 1 ∧ ∀ c37, c37 = gR st35 b 1 → (wX4_readBlockOf_1 b p1 p2 ((c37 + 11)) st35 (fun r39 st38 => ((r39 = 0 → Q 0 st38) ∧ (¬ r39 = 0 → wX4_readAct_1_L280 b p1 p2 st38 Q))))))))))))))))))))))))))))))
theorem hdX4_readAct_1 : yX4_readAct.cls = "PlankBridge$Reader" ∧ yX4_readAct.cls ≠ "java/lang/invoke/MethodHandle" ∧ yX4_readAct.cls ≠ "java/lang/invoke/VarHandle" ∧ (parseMethodDescriptor yX4_readAct.desc).map (fun d => d.parameters.length) = some 2 := by decide +kernel
set_option maxHeartbeats 4000000 in
set_option maxRecDepth 100000 in
theorem tX4_readAct_1_L98 {l : Launch} {p : Program} {e : Env} {s : State} {m : MethodId} {args : Array Value} {below : List Frame} {meth : Method} {c : Code} {E : En0} {L : List Nat} (hL : Cov 0 54 L) (C : Cx E L "PlankBridge$Reader" cX4_readAct 4 p s m args c) (hr : meth.sig.returnType = (some .boolean)) (hlk : meth.locks = false) {b : Nat} {p1 : Int32} {p2 : Int32} {Q : Int32 → St → Prop} (hb : kd b = 3)   {st : St} (H : Heap) (locs : List Loc) (ls : Array Slot) (h : wX4_readAct_1_L98 b p1 p2 st Q) (hl : lv_has ls 4 [(0, .ref (E.2.1 b))]) (hP : va_P E.1 vwCl (wd E L st) H) (hS : va_S (fA E L s.heap.size) s.heap H locs) : W p l e rmX4_readAct_1 s m args below meth c H locs 0 0 (MQ below (zI E L (fun r u => bz r ∧ Q r u) (fA E L s.heap.size)) args s rmX4_readAct_1.cells rmX4_readAct_1.slots (fA E L s.heap.size)) (F0 m 98 ls []) := by
  unfold wX4_readAct_1_L98 at h
  refine lv_aload_n C.1 C.2.1 dX4_readAct_98 rfl (lv_at hl 0 rfl) ?_
  refine z_kst C hS (i := 6) (by decide) rfl q544 dX4_readAct_99 ?_
  refine z_ki hS (z_runV (As := [va_re E.2.2.1 (some 6)]) (rest := []) C hP hS (m3 hb hL) (e3 hb) rfl (tX4_take C.2.2.2.2.2.2.1 (hL.mo (Nat.le_of_ble_eq_true rfl) (Nat.le_of_ble_eq_true rfl)) hb h) q502 q504 q0 q109 q505 hdX4_take ⟨Nat.le_of_ble_eq_true rfl, Nat.le_of_ble_eq_true rfl⟩ ⟨Nat.zero_le _, Nat.zero_le _⟩ rfl hl.1 rfl (lv_room (Nat.le_of_ble_eq_true rfl)) dX4_readAct_102) (fun r41 st40 H locs h hP hS => ?_)
  obtain ⟨hr41, h⟩ := h
  refine lv_if_eq C.1 C.2.1 (tgt := 112) dX4_readAct_105 (by decide) (fun hc => ?_) (fun hc => ?_)
  · have h := h.1 hc
    refine lv_iconst C.1 C.2.1 (v := 0) dX4_readAct_112 rfl ?_
    exact z_ri C hr hlk (bz_n bz0) hP hS ⟨bz0, h⟩ dX4_readAct_113
  · have h := h.2 hc
    refine lv_iconst C.1 C.2.1 (v := 1) dX4_readAct_108 rfl ?_
    refine lv_goto C.1 C.2.1 (tgt := 113) dX4_readAct_109 (by decide) ?_
    exact z_ri C hr hlk (bz_n bz1) hP hS ⟨bz1, h⟩ dX4_readAct_113
set_option maxHeartbeats 4000000 in
set_option maxRecDepth 100000 in
theorem tX4_readAct_1_L114 {l : Launch} {p : Program} {e : Env} {s : State} {m : MethodId} {args : Array Value} {below : List Frame} {meth : Method} {c : Code} {E : En0} {L : List Nat} (hL : Cov 0 54 L) (C : Cx E L "PlankBridge$Reader" cX4_readAct 4 p s m args c) (hr : meth.sig.returnType = (some .boolean)) (hlk : meth.locks = false) {b : Nat} {p1 : Int32} {p2 : Int32} {Q : Int32 → St → Prop} (hb : kd b = 3) {v3 : Option Nat}  {st : St} (H : Heap) (locs : List Loc) (ls : Array Slot) (h : wX4_readAct_1_L114 b p1 p2 v3 st Q) (hl : lv_has ls 4 [(0, .ref (E.2.1 b)), (3, va_re E.2.2.1 v3)]) (hP : va_P E.1 vwCl (wd E L st) H) (hS : va_S (fA E L s.heap.size) s.heap H locs) : W p l e rmX4_readAct_1 s m args below meth c H locs 0 0 (MQ below (zI E L (fun r u => bz r ∧ Q r u) (fA E L s.heap.size)) args s rmX4_readAct_1.cells rmX4_readAct_1.slots (fA E L s.heap.size)) (F0 m 114 ls []) := by
  unfold wX4_readAct_1_L114 at h
  refine lv_aload_n C.1 C.2.1 dX4_readAct_114 rfl (lv_at hl 0 rfl) ?_
  refine z_aloadE_n C.1 C.2.1 dX4_readAct_115 rfl (lv_at hl 1 rfl) ?_
  refine z_ki hS (z_runV (As := [va_re E.2.2.1 v3]) (rest := []) C hP hS (m3 hb hL) (e3 hb) rfl (tX4_take C.2.2.2.2.2.2.1 (hL.mo (Nat.le_of_ble_eq_true rfl) (Nat.le_of_ble_eq_true rfl)) hb h) q502 q504 q0 q109 q505 hdX4_take ⟨Nat.le_of_ble_eq_true rfl, Nat.le_of_ble_eq_true rfl⟩ ⟨Nat.zero_le _, Nat.zero_le _⟩ rfl hl.1 rfl (lv_room (Nat.le_of_ble_eq_true rfl)) dX4_readAct_116) (fun r43 st42 H locs h hP hS => ?_)
  obtain ⟨hr43, h⟩ := h
  refine lv_if_eq C.1 C.2.1 (tgt := 143) dX4_readAct_119 (by decide) (fun hc => ?_) (fun hc => ?_)
  · have h := h.1 hc
    refine lv_iconst C.1 C.2.1 (v := 0) dX4_readAct_143 rfl ?_
    exact z_ri C hr hlk (bz_n bz0) hP hS ⟨bz0, h⟩ dX4_readAct_144
  · have h := h.2 hc
    refine lv_aload_n C.1 C.2.1 dX4_readAct_122 rfl (lv_at hl 0 rfl) ?_
    refine z_ki hS (z_runV (As := []) (rest := []) C hP hS (m3 hb hL) (e3 hb) rfl (tX4_takeValue C.2.2.2.2.2.2.1 (hL.mo (Nat.le_of_ble_eq_true rfl) (Nat.le_of_ble_eq_true rfl)) hb h) q619 q621 q9 q109 q622 hdX4_takeValue ⟨Nat.le_of_ble_eq_true rfl, Nat.le_of_ble_eq_true rfl⟩ ⟨Nat.zero_le _, Nat.zero_le _⟩ rfl hl.1 rfl (lv_room (Nat.le_of_ble_eq_true rfl)) dX4_readAct_123) (fun r45 st44 H locs h hP hS => ?_)
    obtain ⟨hr45, h⟩ := h
    refine lv_if_eq C.1 C.2.1 (tgt := 143) dX4_readAct_126 (by decide) (fun hc => ?_) (fun hc => ?_)
    · have h := h.1 hc
      refine lv_iconst C.1 C.2.1 (v := 0) dX4_readAct_143 rfl ?_
      exact z_ri C hr hlk (bz_n bz0) hP hS ⟨bz0, h⟩ dX4_readAct_144
    · have h := h.2 hc
      refine lv_aload_n C.1 C.2.1 dX4_readAct_129 rfl (lv_at hl 0 rfl) ?_
      refine z_kst C hS (i := 6) (by decide) rfl q544 dX4_readAct_130 ?_
      refine z_ki hS (z_runV (As := [va_re E.2.2.1 (some 6)]) (rest := []) C hP hS (m3 hb hL) (e3 hb) rfl (tX4_take C.2.2.2.2.2.2.1 (hL.mo (Nat.le_of_ble_eq_true rfl) (Nat.le_of_ble_eq_true rfl)) hb h) q502 q504 q0 q109 q505 hdX4_take ⟨Nat.le_of_ble_eq_true rfl, Nat.le_of_ble_eq_true rfl⟩ ⟨Nat.zero_le _, Nat.zero_le _⟩ rfl hl.1 rfl (lv_room (Nat.le_of_ble_eq_true rfl)) dX4_readAct_133) (fun r47 st46 H locs h hP hS => ?_)
      obtain ⟨hr47, h⟩ := h
      refine lv_if_eq C.1 C.2.1 (tgt := 143) dX4_readAct_136 (by decide) (fun hc => ?_) (fun hc => ?_)
      · have h := h.1 hc
        refine lv_iconst C.1 C.2.1 (v := 0) dX4_readAct_143 rfl ?_
        exact z_ri C hr hlk (bz_n bz0) hP hS ⟨bz0, h⟩ dX4_readAct_144
      · have h := h.2 hc
        refine lv_iconst C.1 C.2.1 (v := 1) dX4_readAct_139 rfl ?_
        refine lv_goto C.1 C.2.1 (tgt := 144) dX4_readAct_140 (by decide) ?_
        exact z_ri C hr hlk (bz_n bz1) hP hS ⟨bz1, h⟩ dX4_readAct_144
set_option maxHeartbeats 4000000 in
set_option maxRecDepth 100000 in
theorem tX4_readAct_1_L280 {l : Launch} {p : Program} {e : Env} {s : State} {m : MethodId} {args : Array Value} {below : List Frame} {meth : Method} {c : Code} {E : En0} {L : List Nat} (hL : Cov 0 54 L) (C : Cx E L "PlankBridge$Reader" cX4_readAct 4 p s m args c) (hr : meth.sig.returnType = (some .boolean)) (hlk : meth.locks = false) {b : Nat} {p1 : Int32} {p2 : Int32} {Q : Int32 → St → Prop} (hb : kd b = 3)   {st : St} (H : Heap) (locs : List Loc) (ls : Array Slot) (h : wX4_readAct_1_L280 b p1 p2 st Q) (hl : lv_has ls 4 []) (hP : va_P E.1 vwCl (wd E L st) H) (hS : va_S (fA E L s.heap.size) s.heap H locs) : W p l e rmX4_readAct_1 s m args below meth c H locs 0 0 (MQ below (zI E L (fun r u => bz r ∧ Q r u) (fA E L s.heap.size)) args s rmX4_readAct_1.cells rmX4_readAct_1.slots (fA E L s.heap.size)) (F0 m 280 ls []) := by
  unfold wX4_readAct_1_L280 at h
  refine lv_iconst C.1 C.2.1 (v := 1) dX4_readAct_280 rfl ?_
  refine lv_goto C.1 C.2.1 (tgt := 285) dX4_readAct_281 (by decide) ?_
  exact z_ri C hr hlk (bz_n bz1) hP hS ⟨bz1, h⟩ dX4_readAct_285
set_option maxHeartbeats 4000000 in
set_option maxRecDepth 100000 in
theorem tX4_readAct_1 {l : Launch} {E : En0} {L : List Nat} (hE : EK E L) (hL : Cov 0 54 L) {b : Nat} {p1 : Int32} {p2 : Int32} {st : St} {Q : Int32 → St → Prop} (hb : kd b = 3) (h : wX4_readAct_1 b p1 p2 st Q) : Mz l yX4_readAct cX4_readAct 4 (some .boolean) rmX4_readAct_1 E L [.ref (E.2.1 b), .int p1, .int p2] st (zI E L (fun r u => bz r ∧ Q r u)) := by
  refine Mz.of hE (by decide) (Nat.le_of_ble_eq_true rfl) ?_
  intro p e s m below meth c ls C hr hlk _ hl hP
  replace C : Cx E L "PlankBridge$Reader" cX4_readAct 4 p s m _ c := C
  have hS : va_S (fA E L s.heap.size) s.heap s.heap [] := va_S.rf
  replace hl : lv_has ls 4 [(0, .ref (E.2.1 b)), (1, .int p1), (2, .int p2)] := hl
  unfold wX4_readAct_1 at h
  refine lv_aload_n C.1 C.2.1 dX4_readAct_0 rfl (lv_at hl 0 rfl) ?_
  refine gf3_3 C hP hb (m3 hb hL) q267 dX4_readAct_1 ?_
  obtain ⟨x1, ex1⟩ : ∃ z, z = gK st b 3 := ⟨_, rfl⟩
  rw [← ex1]; have h := h x1 ex1
  refine z_astoreE_n C.1 C.2.1 dX4_readAct_4 rfl hl (Nat.le_of_ble_eq_true rfl) rfl (fun ls hl => ?_)
  have hl : lv_has ls 4 [(3, va_re E.2.2.1 x1), (0, .ref (E.2.1 b)), (1, .int p1), (2, .int p2)] := hl
  refine z_sw C hS q589 dX4_readAct_5 (fun t2 ht2 => ?_)
  refine z_aloadE_n C.1 C.2.1 dX4_readAct_8 rfl (lv_at hl 0 rfl) ?_
  obtain ⟨k3, ek3, lk3, h⟩ := h
  refine z_ordE C hP hS ek3 lk3 q591 ⟨Nat.le_of_ble_eq_true rfl, Nat.le_of_ble_eq_true rfl⟩ ⟨Nat.zero_le _, Nat.zero_le _⟩ hl.1 (lv_room (Nat.le_of_ble_eq_true rfl)) dX4_readAct_9 (fun H locs hP hS => ?_)
  obtain ⟨hi4, h⟩ := h
  refine va_ti C.1 C.2.1 ht2 hS hi4 rfl dX4_readAct_12 ?_
  rcases Classical.em ((kSw (Int32.ofNat k3 : Int32).toNatClampNeg : Int32).toInt < 1 ∨ 7 < (kSw (Int32.ofNat k3 : Int32).toNatClampNeg : Int32).toInt) with hx | hx
  · have h := h.1 hx
    refine lv_tableOut C.1 C.2.1 (tgt := 286) dX4_readAct_13 hx (by decide) ?_
    refine lv_iconst C.1 C.2.1 (v := 0) dX4_readAct_286 rfl ?_
    exact z_ri C hr hlk (bz_n bz0) hP hS ⟨bz0, h⟩ dX4_readAct_287
  · have h := h.2
    have hx : (kSw (Int32.ofNat k3 : Int32).toNatClampNeg : Int32).toInt = 1 ∨ (kSw (Int32.ofNat k3 : Int32).toNatClampNeg : Int32).toInt = 2 ∨ (kSw (Int32.ofNat k3 : Int32).toNatClampNeg : Int32).toInt = 3 ∨ (kSw (Int32.ofNat k3 : Int32).toNatClampNeg : Int32).toInt = 4 ∨ (kSw (Int32.ofNat k3 : Int32).toNatClampNeg : Int32).toInt = 5 ∨ (kSw (Int32.ofNat k3 : Int32).toNatClampNeg : Int32).toInt = 6 ∨ (kSw (Int32.ofNat k3 : Int32).toNatClampNeg : Int32).toInt = 7 := by omega
    rcases hx with hx | hx | hx | hx | hx | hx | hx
    · have h := h.1 (i32_eq (hx.trans (by decide)))
      refine lv_tableIn C.1 C.2.1 (off := 43) (tgt := 56) dX4_readAct_13 (by omega) (by omega) (by rw [hx]; rfl) (by decide) ?_
      refine lv_aload_n C.1 C.2.1 dX4_readAct_56 rfl (lv_at hl 1 rfl) ?_
      refine z_aloadE_n C.1 C.2.1 dX4_readAct_57 rfl (lv_at hl 0 rfl) ?_
      refine z_ki hS (z_runV (As := [va_re E.2.2.1 x1]) (rest := []) C hP hS (m3 hb hL) (e3 hb) rfl (tX4_take C.2.2.2.2.2.2.1 (hL.mo (Nat.le_of_ble_eq_true rfl) (Nat.le_of_ble_eq_true rfl)) hb h) q502 q504 q0 q109 q505 hdX4_take ⟨Nat.le_of_ble_eq_true rfl, Nat.le_of_ble_eq_true rfl⟩ ⟨Nat.zero_le _, Nat.zero_le _⟩ rfl hl.1 rfl (lv_room (Nat.le_of_ble_eq_true rfl)) dX4_readAct_58) (fun r6 st5 H locs h hP hS => ?_)
      obtain ⟨hr6, h⟩ := h
      refine lv_if_eq C.1 C.2.1 (tgt := 112) dX4_readAct_61 (by decide) (fun hc => ?_) (fun hc => ?_)
      · have h := h.1 hc
        refine lv_iconst C.1 C.2.1 (v := 0) dX4_readAct_112 rfl ?_
        exact z_ri C hr hlk (bz_n bz0) hP hS ⟨bz0, h⟩ dX4_readAct_113
      · have h := h.2 hc
        refine lv_aload_n C.1 C.2.1 dX4_readAct_64 rfl (lv_at hl 1 rfl) ?_
        refine z_ki hS (z_runV (As := []) (rest := []) C hP hS (m3 hb hL) (e3 hb) rfl (tX4_takeWho C.2.2.2.2.2.2.1 (hL.mo (Nat.le_of_ble_eq_true rfl) (Nat.le_of_ble_eq_true rfl)) hb h) q597 q599 q8 q109 q600 hdX4_takeWho ⟨Nat.le_of_ble_eq_true rfl, Nat.le_of_ble_eq_true rfl⟩ ⟨Nat.zero_le _, Nat.zero_le _⟩ rfl hl.1 rfl (lv_room (Nat.le_of_ble_eq_true rfl)) dX4_readAct_65) (fun r8 st7 H locs h hP hS => ?_)
        obtain ⟨hr8, h⟩ := h
        refine lv_if_eq C.1 C.2.1 (tgt := 112) dX4_readAct_68 (by decide) (fun hc => ?_) (fun hc => ?_)
        · have h := h.1 hc
          refine lv_iconst C.1 C.2.1 (v := 0) dX4_readAct_112 rfl ?_
          exact z_ri C hr hlk (bz_n bz0) hP hS ⟨bz0, h⟩ dX4_readAct_113
        · have h := h.2 hc
          refine lv_aload_n C.1 C.2.1 dX4_readAct_71 rfl (lv_at hl 1 rfl) ?_
          refine gf3_3 C hP hb (m3 hb hL) q267 dX4_readAct_72 ?_
          refine z_kst C hS (i := 17) (by decide) rfl q617 dX4_readAct_75 ?_
          obtain ⟨hk9, h⟩ := h
          refine z_acmp_ne C hk9 (kin_l (by decide)) (tgt := 98) dX4_readAct_78 (by decide) (fun hc => ?_) (fun hc => ?_)
          · have h := h.1 hc
            exact tX4_readAct_1_L98 hL C hr hlk hb _ _ _ h (lv_sub hl [1] rfl) hP hS
          · have h := h.2 hc
            refine lv_aload_n C.1 C.2.1 dX4_readAct_81 rfl (lv_at hl 1 rfl) ?_
            refine z_kst C hS (i := 17) (by decide) rfl q617 dX4_readAct_82 ?_
            refine z_ki hS (z_runV (As := [va_re E.2.2.1 (some 17)]) (rest := []) C hP hS (m3 hb hL) (e3 hb) rfl (tX4_take C.2.2.2.2.2.2.1 (hL.mo (Nat.le_of_ble_eq_true rfl) (Nat.le_of_ble_eq_true rfl)) hb h) q502 q504 q0 q109 q505 hdX4_take ⟨Nat.le_of_ble_eq_true rfl, Nat.le_of_ble_eq_true rfl⟩ ⟨Nat.zero_le _, Nat.zero_le _⟩ rfl hl.1 rfl (lv_room (Nat.le_of_ble_eq_true rfl)) dX4_readAct_85) (fun r11 st10 H locs h hP hS => ?_)
            obtain ⟨hr11, h⟩ := h
            refine lv_if_eq C.1 C.2.1 (tgt := 112) dX4_readAct_88 (by decide) (fun hc => ?_) (fun hc => ?_)
            · have h := h.1 hc
              refine lv_iconst C.1 C.2.1 (v := 0) dX4_readAct_112 rfl ?_
              exact z_ri C hr hlk (bz_n bz0) hP hS ⟨bz0, h⟩ dX4_readAct_113
            · have h := h.2 hc
              refine lv_aload_n C.1 C.2.1 dX4_readAct_91 rfl (lv_at hl 1 rfl) ?_
              refine z_ki hS (z_runV (As := []) (rest := []) C hP hS (m3 hb hL) (e3 hb) rfl (tX4_takeWho C.2.2.2.2.2.2.1 (hL.mo (Nat.le_of_ble_eq_true rfl) (Nat.le_of_ble_eq_true rfl)) hb h) q597 q599 q8 q109 q600 hdX4_takeWho ⟨Nat.le_of_ble_eq_true rfl, Nat.le_of_ble_eq_true rfl⟩ ⟨Nat.zero_le _, Nat.zero_le _⟩ rfl hl.1 rfl (lv_room (Nat.le_of_ble_eq_true rfl)) dX4_readAct_92) (fun r13 st12 H locs h hP hS => ?_)
              obtain ⟨hr13, h⟩ := h
              refine lv_if_eq C.1 C.2.1 (tgt := 112) dX4_readAct_95 (by decide) (fun hc => ?_) (fun hc => ?_)
              · have h := h.1 hc
                refine lv_iconst C.1 C.2.1 (v := 0) dX4_readAct_112 rfl ?_
                exact z_ri C hr hlk (bz_n bz0) hP hS ⟨bz0, h⟩ dX4_readAct_113
              · have h := h.2 hc
                exact tX4_readAct_1_L98 hL C hr hlk hb _ _ _ h (lv_sub hl [1] rfl) hP hS
    · have h := h.2.1 (i32_eq (hx.trans (by decide)))
      refine lv_tableIn C.1 C.2.1 (off := 101) (tgt := 114) dX4_readAct_13 (by omega) (by omega) (by rw [hx]; rfl) (by decide) ?_
      exact tX4_readAct_1_L114 hL C hr hlk hb _ _ _ h (lv_sub hl [1, 0] rfl) hP hS
    · have h := h.2.2.1 (i32_eq (hx.trans (by decide)))
      refine lv_tableIn C.1 C.2.1 (off := 101) (tgt := 114) dX4_readAct_13 (by omega) (by omega) (by rw [hx]; rfl) (by decide) ?_
      exact tX4_readAct_1_L114 hL C hr hlk hb _ _ _ h (lv_sub hl [1, 0] rfl) hP hS
    · have h := h.2.2.2.1 (i32_eq (hx.trans (by decide)))
      refine lv_tableIn C.1 C.2.1 (off := 101) (tgt := 114) dX4_readAct_13 (by omega) (by omega) (by rw [hx]; rfl) (by decide) ?_
      exact tX4_readAct_1_L114 hL C hr hlk hb _ _ _ h (lv_sub hl [1, 0] rfl) hP hS
    · have h := h.2.2.2.2.1 (i32_eq (hx.trans (by decide)))
      refine lv_tableIn C.1 C.2.1 (off := 132) (tgt := 145) dX4_readAct_13 (by omega) (by omega) (by rw [hx]; rfl) (by decide) ?_
      refine lv_aload_n C.1 C.2.1 dX4_readAct_145 rfl (lv_at hl 1 rfl) ?_
      refine z_aloadE_n C.1 C.2.1 dX4_readAct_146 rfl (lv_at hl 0 rfl) ?_
      refine z_ki hS (z_runV (As := [va_re E.2.2.1 x1]) (rest := []) C hP hS (m3 hb hL) (e3 hb) rfl (tX4_take C.2.2.2.2.2.2.1 (hL.mo (Nat.le_of_ble_eq_true rfl) (Nat.le_of_ble_eq_true rfl)) hb h) q502 q504 q0 q109 q505 hdX4_take ⟨Nat.le_of_ble_eq_true rfl, Nat.le_of_ble_eq_true rfl⟩ ⟨Nat.zero_le _, Nat.zero_le _⟩ rfl hl.1 rfl (lv_room (Nat.le_of_ble_eq_true rfl)) dX4_readAct_147) (fun r15 st14 H locs h hP hS => ?_)
      obtain ⟨hr15, h⟩ := h
      refine lv_if_eq C.1 C.2.1 (tgt := 174) dX4_readAct_150 (by decide) (fun hc => ?_) (fun hc => ?_)
      · have h := h.1 hc
        refine lv_iconst C.1 C.2.1 (v := 0) dX4_readAct_174 rfl ?_
        exact z_ri C hr hlk (bz_n bz0) hP hS ⟨bz0, h⟩ dX4_readAct_175
      · have h := h.2 hc
        refine lv_aload_n C.1 C.2.1 dX4_readAct_153 rfl (lv_at hl 1 rfl) ?_
        refine z_ki hS (z_runV (As := []) (rest := []) C hP hS (m3 hb hL) (e3 hb) rfl (tX4_takePlanName C.2.2.2.2.2.2.1 (hL.mo (Nat.le_of_ble_eq_true rfl) (Nat.le_of_ble_eq_true rfl)) hb h) q641 q643 q10 q109 q644 hdX4_takePlanName ⟨Nat.le_of_ble_eq_true rfl, Nat.le_of_ble_eq_true rfl⟩ ⟨Nat.zero_le _, Nat.zero_le _⟩ rfl hl.1 rfl (lv_room (Nat.le_of_ble_eq_true rfl)) dX4_readAct_154) (fun r17 st16 H locs h hP hS => ?_)
        obtain ⟨hr17, h⟩ := h
        refine lv_if_eq C.1 C.2.1 (tgt := 174) dX4_readAct_157 (by decide) (fun hc => ?_) (fun hc => ?_)
        · have h := h.1 hc
          refine lv_iconst C.1 C.2.1 (v := 0) dX4_readAct_174 rfl ?_
          exact z_ri C hr hlk (bz_n bz0) hP hS ⟨bz0, h⟩ dX4_readAct_175
        · have h := h.2 hc
          refine lv_aload_n C.1 C.2.1 dX4_readAct_160 rfl (lv_at hl 1 rfl) ?_
          refine z_kst C hS (i := 6) (by decide) rfl q544 dX4_readAct_161 ?_
          refine z_ki hS (z_runV (As := [va_re E.2.2.1 (some 6)]) (rest := []) C hP hS (m3 hb hL) (e3 hb) rfl (tX4_take C.2.2.2.2.2.2.1 (hL.mo (Nat.le_of_ble_eq_true rfl) (Nat.le_of_ble_eq_true rfl)) hb h) q502 q504 q0 q109 q505 hdX4_take ⟨Nat.le_of_ble_eq_true rfl, Nat.le_of_ble_eq_true rfl⟩ ⟨Nat.zero_le _, Nat.zero_le _⟩ rfl hl.1 rfl (lv_room (Nat.le_of_ble_eq_true rfl)) dX4_readAct_164) (fun r19 st18 H locs h hP hS => ?_)
          obtain ⟨hr19, h⟩ := h
          refine lv_if_eq C.1 C.2.1 (tgt := 174) dX4_readAct_167 (by decide) (fun hc => ?_) (fun hc => ?_)
          · have h := h.1 hc
            refine lv_iconst C.1 C.2.1 (v := 0) dX4_readAct_174 rfl ?_
            exact z_ri C hr hlk (bz_n bz0) hP hS ⟨bz0, h⟩ dX4_readAct_175
          · have h := h.2 hc
            refine lv_iconst C.1 C.2.1 (v := 1) dX4_readAct_170 rfl ?_
            refine lv_goto C.1 C.2.1 (tgt := 175) dX4_readAct_171 (by decide) ?_
            exact z_ri C hr hlk (bz_n bz1) hP hS ⟨bz1, h⟩ dX4_readAct_175
    · have h := h.2.2.2.2.2.1 (i32_eq (hx.trans (by decide)))
      refine lv_tableIn C.1 C.2.1 (off := 163) (tgt := 176) dX4_readAct_13 (by omega) (by omega) (by rw [hx]; rfl) (by decide) ?_
      refine lv_aload_n C.1 C.2.1 dX4_readAct_176 rfl (lv_at hl 1 rfl) ?_
      refine z_aloadE_n C.1 C.2.1 dX4_readAct_177 rfl (lv_at hl 0 rfl) ?_
      refine z_ki hS (z_runV (As := [va_re E.2.2.1 x1]) (rest := []) C hP hS (m3 hb hL) (e3 hb) rfl (tX4_take C.2.2.2.2.2.2.1 (hL.mo (Nat.le_of_ble_eq_true rfl) (Nat.le_of_ble_eq_true rfl)) hb h) q502 q504 q0 q109 q505 hdX4_take ⟨Nat.le_of_ble_eq_true rfl, Nat.le_of_ble_eq_true rfl⟩ ⟨Nat.zero_le _, Nat.zero_le _⟩ rfl hl.1 rfl (lv_room (Nat.le_of_ble_eq_true rfl)) dX4_readAct_178) (fun r21 st20 H locs h hP hS => ?_)
      obtain ⟨hr21, h⟩ := h
      refine lv_if_eq C.1 C.2.1 (tgt := 211) dX4_readAct_181 (by decide) (fun hc => ?_) (fun hc => ?_)
      · have h := h.1 hc
        refine lv_iconst C.1 C.2.1 (v := 0) dX4_readAct_211 rfl ?_
        exact z_ri C hr hlk (bz_n bz0) hP hS ⟨bz0, h⟩ dX4_readAct_212
      · have h := h.2 hc
        refine lv_aload_n C.1 C.2.1 dX4_readAct_184 rfl (lv_at hl 1 rfl) ?_
        refine z_ki hS (z_runV (As := []) (rest := []) C hP hS (m3 hb hL) (e3 hb) rfl (tX4_takeCompares C.2.2.2.2.2.2.1 (hL.mo (Nat.le_of_ble_eq_true rfl) (Nat.le_of_ble_eq_true rfl)) hb h) q645 q647 q11 q109 q648 hdX4_takeCompares ⟨Nat.le_of_ble_eq_true rfl, Nat.le_of_ble_eq_true rfl⟩ ⟨Nat.zero_le _, Nat.zero_le _⟩ rfl hl.1 rfl (lv_room (Nat.le_of_ble_eq_true rfl)) dX4_readAct_185) (fun r23 st22 H locs h hP hS => ?_)
        obtain ⟨hr23, h⟩ := h
        refine lv_if_eq C.1 C.2.1 (tgt := 211) dX4_readAct_188 (by decide) (fun hc => ?_) (fun hc => ?_)
        · have h := h.1 hc
          refine lv_iconst C.1 C.2.1 (v := 0) dX4_readAct_211 rfl ?_
          exact z_ri C hr hlk (bz_n bz0) hP hS ⟨bz0, h⟩ dX4_readAct_212
        · have h := h.2 hc
          refine lv_aload_n C.1 C.2.1 dX4_readAct_191 rfl (lv_at hl 1 rfl) ?_
          refine lv_iload_n C.1 C.2.1 dX4_readAct_192 rfl (lv_at hl 2 rfl) ?_
          refine lv_iload_n C.1 C.2.1 dX4_readAct_193 rfl (lv_at hl 3 rfl) ?_
          refine lv_aload_n C.1 C.2.1 dX4_readAct_194 rfl (lv_at hl 1 rfl) ?_
          refine gf3_1 C hP hb (m3 hb hL) q265 dX4_readAct_195 ?_
          obtain ⟨hc24, h⟩ := h
          obtain ⟨c24, ec24⟩ : ∃ z, z = gR st22 b 1 := ⟨_, rfl⟩
          rw [← ec24]; rw [← ec24] at hc24; have h := h c24 ec24
          refine gn1_13 C hP hc24 (m1 hc24 hL) q217 dX4_readAct_198 ?_
          refine z_ki hS (z_runV (As := [.int p1, .int p2, .ref (E.2.1 ((c24 + 10)))]) (rest := []) C hP hS (m3 hb hL) (e3 hb) rfl (tX4_readBlockOf_1 C.2.2.2.2.2.2.1 (hL.mo (Nat.le_of_ble_eq_true rfl) (Nat.le_of_ble_eq_true rfl)) hb (k1_10 hc24) (l1_10 hc24) (m1_10 hc24 hL) h) q661 q663 q12 q109 q664 hdX4_readBlockOf_1 ⟨Nat.le_of_ble_eq_true rfl, Nat.le_of_ble_eq_true rfl⟩ ⟨Nat.zero_le _, Nat.zero_le _⟩ rfl hl.1 rfl (lv_room (Nat.le_of_ble_eq_true rfl)) dX4_readAct_201) (fun r26 st25 H locs h hP hS => ?_)
          obtain ⟨hr26, h⟩ := h
          refine lv_if_eq C.1 C.2.1 (tgt := 211) dX4_readAct_204 (by decide) (fun hc => ?_) (fun hc => ?_)
          · have h := h.1 hc
            refine lv_iconst C.1 C.2.1 (v := 0) dX4_readAct_211 rfl ?_
            exact z_ri C hr hlk (bz_n bz0) hP hS ⟨bz0, h⟩ dX4_readAct_212
          · have h := h.2 hc
            refine lv_iconst C.1 C.2.1 (v := 1) dX4_readAct_207 rfl ?_
            refine lv_goto C.1 C.2.1 (tgt := 212) dX4_readAct_208 (by decide) ?_
            exact z_ri C hr hlk (bz_n bz1) hP hS ⟨bz1, h⟩ dX4_readAct_212
    · have h := h.2.2.2.2.2.2 (i32_eq (hx.trans (by decide)))
      refine lv_tableIn C.1 C.2.1 (off := 200) (tgt := 213) dX4_readAct_13 (by omega) (by omega) (by rw [hx]; rfl) (by decide) ?_
      refine lv_aload_n C.1 C.2.1 dX4_readAct_213 rfl (lv_at hl 1 rfl) ?_
      refine z_aloadE_n C.1 C.2.1 dX4_readAct_214 rfl (lv_at hl 0 rfl) ?_
      refine z_ki hS (z_runV (As := [va_re E.2.2.1 x1]) (rest := []) C hP hS (m3 hb hL) (e3 hb) rfl (tX4_take C.2.2.2.2.2.2.1 (hL.mo (Nat.le_of_ble_eq_true rfl) (Nat.le_of_ble_eq_true rfl)) hb h) q502 q504 q0 q109 q505 hdX4_take ⟨Nat.le_of_ble_eq_true rfl, Nat.le_of_ble_eq_true rfl⟩ ⟨Nat.zero_le _, Nat.zero_le _⟩ rfl hl.1 rfl (lv_room (Nat.le_of_ble_eq_true rfl)) dX4_readAct_215) (fun r28 st27 H locs h hP hS => ?_)
      obtain ⟨hr28, h⟩ := h
      refine lv_if_eq C.1 C.2.1 (tgt := 284) dX4_readAct_218 (by decide) (fun hc => ?_) (fun hc => ?_)
      · have h := h.1 hc
        refine lv_iconst C.1 C.2.1 (v := 0) dX4_readAct_284 rfl ?_
        exact z_ri C hr hlk (bz_n bz0) hP hS ⟨bz0, h⟩ dX4_readAct_285
      · have h := h.2 hc
        refine lv_aload_n C.1 C.2.1 dX4_readAct_221 rfl (lv_at hl 1 rfl) ?_
        refine z_ki hS (z_runV (As := []) (rest := []) C hP hS (m3 hb hL) (e3 hb) rfl (tX4_takeCompares C.2.2.2.2.2.2.1 (hL.mo (Nat.le_of_ble_eq_true rfl) (Nat.le_of_ble_eq_true rfl)) hb h) q645 q647 q11 q109 q648 hdX4_takeCompares ⟨Nat.le_of_ble_eq_true rfl, Nat.le_of_ble_eq_true rfl⟩ ⟨Nat.zero_le _, Nat.zero_le _⟩ rfl hl.1 rfl (lv_room (Nat.le_of_ble_eq_true rfl)) dX4_readAct_222) (fun r30 st29 H locs h hP hS => ?_)
        obtain ⟨hr30, h⟩ := h
        refine lv_if_eq C.1 C.2.1 (tgt := 284) dX4_readAct_225 (by decide) (fun hc => ?_) (fun hc => ?_)
        · have h := h.1 hc
          refine lv_iconst C.1 C.2.1 (v := 0) dX4_readAct_284 rfl ?_
          exact z_ri C hr hlk (bz_n bz0) hP hS ⟨bz0, h⟩ dX4_readAct_285
        · have h := h.2 hc
          refine lv_aload_n C.1 C.2.1 dX4_readAct_228 rfl (lv_at hl 1 rfl) ?_
          refine lv_iload_n C.1 C.2.1 dX4_readAct_229 rfl (lv_at hl 2 rfl) ?_
          refine lv_iload_n C.1 C.2.1 dX4_readAct_230 rfl (lv_at hl 3 rfl) ?_
          refine lv_aload_n C.1 C.2.1 dX4_readAct_231 rfl (lv_at hl 1 rfl) ?_
          refine gf3_1 C hP hb (m3 hb hL) q265 dX4_readAct_232 ?_
          obtain ⟨hc31, h⟩ := h
          obtain ⟨c31, ec31⟩ : ∃ z, z = gR st29 b 1 := ⟨_, rfl⟩
          rw [← ec31]; rw [← ec31] at hc31; have h := h c31 ec31
          refine gn1_13 C hP hc31 (m1 hc31 hL) q217 dX4_readAct_235 ?_
          refine z_ki hS (z_runV (As := [.int p1, .int p2, .ref (E.2.1 ((c31 + 10)))]) (rest := []) C hP hS (m3 hb hL) (e3 hb) rfl (tX4_readBlockOf_1 C.2.2.2.2.2.2.1 (hL.mo (Nat.le_of_ble_eq_true rfl) (Nat.le_of_ble_eq_true rfl)) hb (k1_10 hc31) (l1_10 hc31) (m1_10 hc31 hL) h) q661 q663 q12 q109 q664 hdX4_readBlockOf_1 ⟨Nat.le_of_ble_eq_true rfl, Nat.le_of_ble_eq_true rfl⟩ ⟨Nat.zero_le _, Nat.zero_le _⟩ rfl hl.1 rfl (lv_room (Nat.le_of_ble_eq_true rfl)) dX4_readAct_238) (fun r33 st32 H locs h hP hS => ?_)
          obtain ⟨hr33, h⟩ := h
          refine lv_if_eq C.1 C.2.1 (tgt := 284) dX4_readAct_241 (by decide) (fun hc => ?_) (fun hc => ?_)
          · have h := h.1 hc
            refine lv_iconst C.1 C.2.1 (v := 0) dX4_readAct_284 rfl ?_
            exact z_ri C hr hlk (bz_n bz0) hP hS ⟨bz0, h⟩ dX4_readAct_285
          · have h := h.2 hc
            refine lv_aload_n C.1 C.2.1 dX4_readAct_244 rfl (lv_at hl 1 rfl) ?_
            refine gf3_3 C hP hb (m3 hb hL) q267 dX4_readAct_245 ?_
            refine z_kst C hS (i := 24) (by decide) rfl q669 dX4_readAct_248 ?_
            obtain ⟨hk34, h⟩ := h
            refine z_acmp_ne C hk34 (kin_l (by decide)) (tgt := 280) dX4_readAct_251 (by decide) (fun hc => ?_) (fun hc => ?_)
            · have h := h.1 hc
              exact tX4_readAct_1_L280 hL C hr hlk hb _ _ _ h (lv_sub hl [] rfl) hP hS
            · have h := h.2 hc
              refine lv_aload_n C.1 C.2.1 dX4_readAct_254 rfl (lv_at hl 1 rfl) ?_
              refine z_kst C hS (i := 24) (by decide) rfl q669 dX4_readAct_255 ?_
              refine z_ki hS (z_runV (As := [va_re E.2.2.1 (some 24)]) (rest := []) C hP hS (m3 hb hL) (e3 hb) rfl (tX4_take C.2.2.2.2.2.2.1 (hL.mo (Nat.le_of_ble_eq_true rfl) (Nat.le_of_ble_eq_true rfl)) hb h) q502 q504 q0 q109 q505 hdX4_take ⟨Nat.le_of_ble_eq_true rfl, Nat.le_of_ble_eq_true rfl⟩ ⟨Nat.zero_le _, Nat.zero_le _⟩ rfl hl.1 rfl (lv_room (Nat.le_of_ble_eq_true rfl)) dX4_readAct_258) (fun r36 st35 H locs h hP hS => ?_)
              obtain ⟨hr36, h⟩ := h
              refine lv_if_eq C.1 C.2.1 (tgt := 284) dX4_readAct_261 (by decide) (fun hc => ?_) (fun hc => ?_)
              · have h := h.1 hc
                refine lv_iconst C.1 C.2.1 (v := 0) dX4_readAct_284 rfl ?_
                exact z_ri C hr hlk (bz_n bz0) hP hS ⟨bz0, h⟩ dX4_readAct_285
              · have h := h.2 hc
                refine lv_aload_n C.1 C.2.1 dX4_readAct_264 rfl (lv_at hl 1 rfl) ?_
                refine lv_iload_n C.1 C.2.1 dX4_readAct_265 rfl (lv_at hl 2 rfl) ?_
                refine lv_iload_n C.1 C.2.1 dX4_readAct_266 rfl (lv_at hl 3 rfl) ?_
                refine lv_aload_n C.1 C.2.1 dX4_readAct_267 rfl (lv_at hl 1 rfl) ?_
                refine gf3_1 C hP hb (m3 hb hL) q265 dX4_readAct_268 ?_
                obtain ⟨hc37, h⟩ := h
                obtain ⟨c37, ec37⟩ : ∃ z, z = gR st35 b 1 := ⟨_, rfl⟩
                rw [← ec37]; rw [← ec37] at hc37; have h := h c37 ec37
                refine gn1_14 C hP hc37 (m1 hc37 hL) q220 dX4_readAct_271 ?_
                refine z_ki hS (z_runV (As := [.int p1, .int p2, .ref (E.2.1 ((c37 + 11)))]) (rest := []) C hP hS (m3 hb hL) (e3 hb) rfl (tX4_readBlockOf_1 C.2.2.2.2.2.2.1 (hL.mo (Nat.le_of_ble_eq_true rfl) (Nat.le_of_ble_eq_true rfl)) hb (k1_11 hc37) (l1_11 hc37) (m1_11 hc37 hL) h) q661 q663 q12 q109 q664 hdX4_readBlockOf_1 ⟨Nat.le_of_ble_eq_true rfl, Nat.le_of_ble_eq_true rfl⟩ ⟨Nat.zero_le _, Nat.zero_le _⟩ rfl hl.1 rfl (lv_room (Nat.le_of_ble_eq_true rfl)) dX4_readAct_274) (fun r39 st38 H locs h hP hS => ?_)
                obtain ⟨hr39, h⟩ := h
                refine lv_if_eq C.1 C.2.1 (tgt := 284) dX4_readAct_277 (by decide) (fun hc => ?_) (fun hc => ?_)
                · have h := h.1 hc
                  refine lv_iconst C.1 C.2.1 (v := 0) dX4_readAct_284 rfl ?_
                  exact z_ri C hr hlk (bz_n bz0) hP hS ⟨bz0, h⟩ dX4_readAct_285
                · have h := h.2 hc
                  exact tX4_readAct_1_L280 hL C hr hlk hb _ _ _ h (lv_sub hl [] rfl) hP hS
def rmX4_readBlock_1 : Room := { frames := 5, cells := 0, slots := 0, locals := 108 }
def wX4_readBlock_1_L87 (b : Nat) (p1 : Int32) (p2 : Int32) (R22 : Int32 × Int32 × Int32 × Int32 × St → Prop) (v1 : Int32) (v2 : Int32) (v4 : Int32) (v5 : Int32) (st : St) (Q : Int32 → St → Prop) : Prop :=
  (wX4_readAct_1 b v5 v2 st (fun r16 st15 => ((¬ r16 = 0 → (∀ x17 : Int32, x17 = v4 + 1 → R22 (v1, v2, v5, x17, st15))) ∧ (r16 = 0 → Q 0 st15))))
def wX4_readBlock_1_L65 (b : Nat) (p1 : Int32) (p2 : Int32) (R22 : Int32 × Int32 × Int32 × Int32 × St → Prop) (v1 : Int32) (v2 : Int32) (v3 : Int32) (v4 : Int32) (v5 : Int32) (st : St) (Q : Int32 → St → Prop) : Prop :=
  (kd (gR st b 1) = 1 ∧ ∀ c10, c10 = gR st b 1 → (wX1_hasAct c10 v3 st (fun r12 st11 => ((r12 = 0 → wX4_readBlock_1_L87 b p1 p2 R22 v1 v2 v4 v5 st11 Q) ∧ (¬ r12 = 0 → (kd (gR st11 b 1) = 1 ∧ ∀ c13, c13 = gR st11 b 1 → (vp_in v3 60 ∧ ∀ st14, st14 = uI st11 (c13 + 9) (v3 : Int32).toNatClampNeg v5 → wX4_readBlock_1_L87 b p1 p2 R22 v1 v2 v4 v5 st14 Q)))))))
def wX4_readBlock_1_L108 (b : Nat) (p1 : Int32) (p2 : Int32)   (st : St) (Q : Int32 → St → Prop) : Prop :=
  (wX4_take b (some 5) st (fun r9 st8 => Q r9 st8))
def wX4_readBlock_1_L22 (b : Nat) (p1 : Int32) (p2 : Int32)  (R22 : Int32 × Int32 × Int32 × Int32 × St → Prop) (v1 : Int32) (v2 : Int32) (v3 : Int32) (v4 : Int32) (st : St) (Q : Int32 → St → Prop) : Prop :=
  ((400 ≤ v4 → wX4_readBlock_1_L108 b p1 p2 st Q) ∧ (¬ 400 ≤ v4 → (kin (gK st b 3) ∧ ((gK st b 3) = ((some 5)) → wX4_readBlock_1_L108 b p1 p2 st Q) ∧ (¬ (gK st b 3) = ((some 5)) → (kd (gR st b 1) = 1 ∧ ∀ c4, c4 = gR st b 1 → (wX1_addAct c4 (gI st b 2) v1 st (fun r6 st5 => ((¬ r6 = (-1) → wX4_readBlock_1_L65 b p1 p2 R22 v1 v2 v3 v4 r6 st5 Q) ∧ (r6 = (-1) → (wX4_mark b 4 st5 (fun st7 => wX4_readBlock_1_L65 b p1 p2 R22 v1 v2 v3 v4 r6 st7 Q)))))))))))
def wX4_readBlock_1 (b : Nat) (p1 : Int32) (p2 : Int32) (st : St) (Q : Int32 → St → Prop) : Prop :=
  ((3 < p2 → Q 0 st) ∧ (¬ 3 < p2 → (wX4_take b (some 4) st (fun r2 st1 => ((¬ r2 = 0 → (∃ n, lp (fun R s => wX4_readBlock_1_L22 b p1 p2 R s.1 s.2.1 s.2.2.1 s.2.2.2.1 s.2.2.2.2 Q) n (p1, p2, (-1), 0, st1))) ∧ (r2 = 0 → Q 0 st1))))))
theorem hdX4_readBlock_1 : yX4_readBlock.cls = "PlankBridge$Reader" ∧ yX4_readBlock.cls ≠ "java/lang/invoke/MethodHandle" ∧ yX4_readBlock.cls ≠ "java/lang/invoke/VarHandle" ∧ (parseMethodDescriptor yX4_readBlock.desc).map (fun d => d.parameters.length) = some 2 := by decide +kernel
set_option maxHeartbeats 4000000 in
set_option maxRecDepth 100000 in
theorem tX4_readBlock_1_L87 {l : Launch} {p : Program} {e : Env} {s : State} {m : MethodId} {args : Array Value} {below : List Frame} {meth : Method} {c : Code} {E : En0} {L : List Nat} (hL : Cov 0 54 L) (C : Cx E L "PlankBridge$Reader" cX4_readBlock 6 p s m args c) (hr : meth.sig.returnType = (some .boolean)) (hlk : meth.locks = false) {b : Nat} {p1 : Int32} {p2 : Int32} {Q : Int32 → St → Prop} (hb : kd b = 3) {R22 : Int32 × Int32 × Int32 × Int32 × St → Prop} (hR22 : ∀ (v1 : Int32) (v2 : Int32) (v3 : Int32) (v4 : Int32) (st : St), ∀ (H : Heap) (locs : List Loc) (ls : Array Slot), R22 (v1, v2, v3, v4, st) → lv_has ls 6 [(0, .ref (E.2.1 b)), (1, .int v1), (2, .int v2), (3, .int v3), (4, .int v4)] → va_P E.1 vwCl (wd E L st) H → va_S (fA E L s.heap.size) s.heap H locs → W p l e rmX4_readBlock_1 s m args below meth c H locs 0 0 (MQ below (zI E L (fun r u => bz r ∧ Q r u) (fA E L s.heap.size)) args s rmX4_readBlock_1.cells rmX4_readBlock_1.slots (fA E L s.heap.size)) (F0 m 22 ls [])) {v1 : Int32} {v2 : Int32} {v4 : Int32} {v5 : Int32}  {st : St} (H : Heap) (locs : List Loc) (ls : Array Slot) (h : wX4_readBlock_1_L87 b p1 p2 R22 v1 v2 v4 v5 st Q) (hl : lv_has ls 6 [(0, .ref (E.2.1 b)), (1, .int v1), (2, .int v2), (4, .int v4), (5, .int v5)]) (hP : va_P E.1 vwCl (wd E L st) H) (hS : va_S (fA E L s.heap.size) s.heap H locs) : W p l e rmX4_readBlock_1 s m args below meth c H locs 0 0 (MQ below (zI E L (fun r u => bz r ∧ Q r u) (fA E L s.heap.size)) args s rmX4_readBlock_1.cells rmX4_readBlock_1.slots (fA E L s.heap.size)) (F0 m 87 ls []) := by
  unfold wX4_readBlock_1_L87 at h
  refine lv_iload C.1 C.2.1 dX4_readBlock_87 (lv_at hl 4 rfl) ?_
  refine lv_istore_n C.1 C.2.1 dX4_readBlock_89 rfl hl (Nat.le_of_ble_eq_true rfl) rfl (fun ls hl => ?_)
  have hl : lv_has ls 6 [(3, .int v5), (0, .ref (E.2.1 b)), (1, .int v1), (2, .int v2), (4, .int v4), (5, .int v5)] := hl
  refine lv_aload_n C.1 C.2.1 dX4_readBlock_90 rfl (lv_at hl 1 rfl) ?_
  refine lv_iload C.1 C.2.1 dX4_readBlock_91 (lv_at hl 5 rfl) ?_
  refine lv_iload_n C.1 C.2.1 dX4_readBlock_93 rfl (lv_at hl 3 rfl) ?_
  refine z_ki hS (z_runV (As := [.int v5, .int v2]) (rest := []) C hP hS (m3 hb hL) (e3 hb) rfl (tX4_readAct_1 C.2.2.2.2.2.2.1 (hL.mo (Nat.le_of_ble_eq_true rfl) (Nat.le_of_ble_eq_true rfl)) hb h) q585 q587 q7 q109 q588 hdX4_readAct_1 ⟨Nat.le_of_ble_eq_true rfl, Nat.le_of_ble_eq_true rfl⟩ ⟨Nat.zero_le _, Nat.zero_le _⟩ rfl hl.1 rfl (lv_room (Nat.le_of_ble_eq_true rfl)) dX4_readBlock_94) (fun r16 st15 H locs h hP hS => ?_)
  obtain ⟨hr16, h⟩ := h
  refine lv_if_ne C.1 C.2.1 (tgt := 102) dX4_readBlock_97 (by decide) (fun hc => ?_) (fun hc => ?_)
  · have h := h.1 hc
    obtain ⟨x17, ex17⟩ : ∃ z, z = v4 + 1 := ⟨_, rfl⟩
    have h := h x17 ex17
    refine lv_iinc C.1 C.2.1 dX4_readBlock_102 hl (k := 4) rfl ex17.symm (Nat.le_of_ble_eq_true rfl) rfl (fun ls hl => ?_)
    have hl : lv_has ls 6 [(4, .int x17), (3, .int v5), (0, .ref (E.2.1 b)), (1, .int v1), (2, .int v2), (5, .int v5)] := hl
    refine lv_goto C.1 C.2.1 (tgt := 22) dX4_readBlock_105 (by decide) ?_
    exact hR22 v1 v2 v5 x17 st15 _ _ _ h (lv_sub hl [2, 3, 4, 1, 0] rfl) hP hS
  · have h := h.2 hc
    refine lv_iconst C.1 C.2.1 (v := 0) dX4_readBlock_100 rfl ?_
    exact z_ri C hr hlk (bz_n bz0) hP hS ⟨bz0, h⟩ dX4_readBlock_101
set_option maxHeartbeats 4000000 in
set_option maxRecDepth 100000 in
theorem tX4_readBlock_1_L65 {l : Launch} {p : Program} {e : Env} {s : State} {m : MethodId} {args : Array Value} {below : List Frame} {meth : Method} {c : Code} {E : En0} {L : List Nat} (hL : Cov 0 54 L) (C : Cx E L "PlankBridge$Reader" cX4_readBlock 6 p s m args c) (hr : meth.sig.returnType = (some .boolean)) (hlk : meth.locks = false) {b : Nat} {p1 : Int32} {p2 : Int32} {Q : Int32 → St → Prop} (hb : kd b = 3) {R22 : Int32 × Int32 × Int32 × Int32 × St → Prop} (hR22 : ∀ (v1 : Int32) (v2 : Int32) (v3 : Int32) (v4 : Int32) (st : St), ∀ (H : Heap) (locs : List Loc) (ls : Array Slot), R22 (v1, v2, v3, v4, st) → lv_has ls 6 [(0, .ref (E.2.1 b)), (1, .int v1), (2, .int v2), (3, .int v3), (4, .int v4)] → va_P E.1 vwCl (wd E L st) H → va_S (fA E L s.heap.size) s.heap H locs → W p l e rmX4_readBlock_1 s m args below meth c H locs 0 0 (MQ below (zI E L (fun r u => bz r ∧ Q r u) (fA E L s.heap.size)) args s rmX4_readBlock_1.cells rmX4_readBlock_1.slots (fA E L s.heap.size)) (F0 m 22 ls [])) {v1 : Int32} {v2 : Int32} {v3 : Int32} {v4 : Int32} {v5 : Int32}  {st : St} (H : Heap) (locs : List Loc) (ls : Array Slot) (h : wX4_readBlock_1_L65 b p1 p2 R22 v1 v2 v3 v4 v5 st Q) (hl : lv_has ls 6 [(0, .ref (E.2.1 b)), (1, .int v1), (2, .int v2), (3, .int v3), (4, .int v4), (5, .int v5)]) (hP : va_P E.1 vwCl (wd E L st) H) (hS : va_S (fA E L s.heap.size) s.heap H locs) : W p l e rmX4_readBlock_1 s m args below meth c H locs 0 0 (MQ below (zI E L (fun r u => bz r ∧ Q r u) (fA E L s.heap.size)) args s rmX4_readBlock_1.cells rmX4_readBlock_1.slots (fA E L s.heap.size)) (F0 m 65 ls []) := by
  unfold wX4_readBlock_1_L65 at h
  refine lv_aload_n C.1 C.2.1 dX4_readBlock_65 rfl (lv_at hl 0 rfl) ?_
  refine gf3_1 C hP hb (m3 hb hL) q265 dX4_readBlock_66 ?_
  obtain ⟨hc10, h⟩ := h
  obtain ⟨c10, ec10⟩ : ∃ z, z = gR st b 1 := ⟨_, rfl⟩
  rw [← ec10]; rw [← ec10] at hc10; have h := h c10 ec10
  refine lv_iload_n C.1 C.2.1 dX4_readBlock_69 rfl (lv_at hl 3 rfl) ?_
  refine z_ki hS (z_runV (As := [.int v3]) (rest := []) C hP hS (m1 hc10 hL) (e1 hc10) rfl (tX1_hasAct C.2.2.2.2.2.2.1 (hL.mo (Nat.le_of_ble_eq_true rfl) (Nat.le_of_ble_eq_true rfl)) hc10 h) q581 q582 q583 q107 q584 hdX1_hasAct ⟨Nat.le_of_ble_eq_true rfl, Nat.le_of_ble_eq_true rfl⟩ ⟨Nat.zero_le _, Nat.zero_le _⟩ rfl hl.1 rfl (lv_room (Nat.le_of_ble_eq_true rfl)) dX4_readBlock_70) (fun r12 st11 H locs h hP hS => ?_)
  obtain ⟨hr12, h⟩ := h
  refine lv_if_eq C.1 C.2.1 (tgt := 87) dX4_readBlock_73 (by decide) (fun hc => ?_) (fun hc => ?_)
  · have h := h.1 hc
    exact tX4_readBlock_1_L87 hL C hr hlk hb hR22 _ _ _ h (lv_sub hl [0, 1, 2, 4, 5] rfl) hP hS
  · have h := h.2 hc
    refine lv_aload_n C.1 C.2.1 dX4_readBlock_76 rfl (lv_at hl 0 rfl) ?_
    refine gf3_1 C hP hb (m3 hb hL) q265 dX4_readBlock_77 ?_
    obtain ⟨hc13, h⟩ := h
    obtain ⟨c13, ec13⟩ : ∃ z, z = gR st11 b 1 := ⟨_, rfl⟩
    rw [← ec13]; rw [← ec13] at hc13; have h := h c13 ec13
    refine gn1_12 C hP hc13 (m1 hc13 hL) q214 dX4_readBlock_80 ?_
    refine lv_iload_n C.1 C.2.1 dX4_readBlock_83 rfl (lv_at hl 3 rfl) ?_
    refine lv_iload C.1 C.2.1 dX4_readBlock_84 (lv_at hl 5 rfl) ?_
    obtain ⟨hi, h⟩ := h
    refine z_iast C hP hS (k1_9 hc13) (l1_9 hc13) (m1_9 hc13 hL) hi dX4_readBlock_86 (fun H locs hP hS => ?_)
    obtain ⟨st14, est14⟩ : ∃ z, z = uI st11 (c13 + 9) (v3 : Int32).toNatClampNeg v5 := ⟨_, rfl⟩
    rw [← est14] at hP; have h := h st14 est14
    exact tX4_readBlock_1_L87 hL C hr hlk hb hR22 _ _ _ h (lv_sub hl [0, 1, 2, 4, 5] rfl) hP hS
set_option maxHeartbeats 4000000 in
set_option maxRecDepth 100000 in
theorem tX4_readBlock_1_L108 {l : Launch} {p : Program} {e : Env} {s : State} {m : MethodId} {args : Array Value} {below : List Frame} {meth : Method} {c : Code} {E : En0} {L : List Nat} (hL : Cov 0 54 L) (C : Cx E L "PlankBridge$Reader" cX4_readBlock 6 p s m args c) (hr : meth.sig.returnType = (some .boolean)) (hlk : meth.locks = false) {b : Nat} {p1 : Int32} {p2 : Int32} {Q : Int32 → St → Prop} (hb : kd b = 3)   {st : St} (H : Heap) (locs : List Loc) (ls : Array Slot) (h : wX4_readBlock_1_L108 b p1 p2 st Q) (hl : lv_has ls 6 [(0, .ref (E.2.1 b))]) (hP : va_P E.1 vwCl (wd E L st) H) (hS : va_S (fA E L s.heap.size) s.heap H locs) : W p l e rmX4_readBlock_1 s m args below meth c H locs 0 0 (MQ below (zI E L (fun r u => bz r ∧ Q r u) (fA E L s.heap.size)) args s rmX4_readBlock_1.cells rmX4_readBlock_1.slots (fA E L s.heap.size)) (F0 m 108 ls []) := by
  unfold wX4_readBlock_1_L108 at h
  refine lv_aload_n C.1 C.2.1 dX4_readBlock_108 rfl (lv_at hl 0 rfl) ?_
  refine z_kst C hS (i := 5) (by decide) rfl q575 dX4_readBlock_109 ?_
  refine z_ki hS (z_runV (As := [va_re E.2.2.1 (some 5)]) (rest := []) C hP hS (m3 hb hL) (e3 hb) rfl (tX4_take C.2.2.2.2.2.2.1 (hL.mo (Nat.le_of_ble_eq_true rfl) (Nat.le_of_ble_eq_true rfl)) hb h) q502 q504 q0 q109 q505 hdX4_take ⟨Nat.le_of_ble_eq_true rfl, Nat.le_of_ble_eq_true rfl⟩ ⟨Nat.zero_le _, Nat.zero_le _⟩ rfl hl.1 rfl (lv_room (Nat.le_of_ble_eq_true rfl)) dX4_readBlock_112) (fun r9 st8 H locs h hP hS => ?_)
  obtain ⟨hr9, h⟩ := h
  exact z_ri C hr hlk (bz_n hr9) hP hS ⟨hr9, h⟩ dX4_readBlock_115
set_option maxHeartbeats 4000000 in
set_option maxRecDepth 100000 in
theorem tX4_readBlock_1_L22 {l : Launch} {p : Program} {e : Env} {s : State} {m : MethodId} {args : Array Value} {below : List Frame} {meth : Method} {c : Code} {E : En0} {L : List Nat} (hL : Cov 0 54 L) (C : Cx E L "PlankBridge$Reader" cX4_readBlock 6 p s m args c) (hr : meth.sig.returnType = (some .boolean)) (hlk : meth.locks = false) {b : Nat} {p1 : Int32} {p2 : Int32} {Q : Int32 → St → Prop} (hb : kd b = 3) : ∀ (n : Nat) (v1 : Int32) (v2 : Int32) (v3 : Int32) (v4 : Int32) (st : St) (H : Heap) (locs : List Loc) (ls : Array Slot), lp (fun R s => wX4_readBlock_1_L22 b p1 p2 R s.1 s.2.1 s.2.2.1 s.2.2.2.1 s.2.2.2.2 Q) n (v1, v2, v3, v4, st) → lv_has ls 6 [(0, .ref (E.2.1 b)), (1, .int v1), (2, .int v2), (3, .int v3), (4, .int v4)] → va_P E.1 vwCl (wd E L st) H → va_S (fA E L s.heap.size) s.heap H locs → W p l e rmX4_readBlock_1 s m args below meth c H locs 0 0 (MQ below (zI E L (fun r u => bz r ∧ Q r u) (fA E L s.heap.size)) args s rmX4_readBlock_1.cells rmX4_readBlock_1.slots (fA E L s.heap.size)) (F0 m 22 ls []) := by
  intro n
  induction n with
  | zero => exact fun _ _ _ _ _ _ _ _ h _ _ _ => False.elim ‹_›
  | succ n ih =>
    intro v1 v2 v3 v4 st  H locs ls h hl hP hS
    have hR22 := ih
    replace h : wX4_readBlock_1_L22 b p1 p2 (lp (fun R s => wX4_readBlock_1_L22 b p1 p2 R s.1 s.2.1 s.2.2.1 s.2.2.2.1 s.2.2.2.2 Q) n) v1 v2 v3 v4 st Q := h
    unfold wX4_readBlock_1_L22 at h
    refine lv_iload C.1 C.2.1 dX4_readBlock_22 (lv_at hl 4 rfl) ?_
    refine lv_sipush C.1 C.2.1 (v := 400) dX4_readBlock_24 rfl ?_
    refine lv_icmp_ge C.1 C.2.1 (tgt := 108) dX4_readBlock_27 (by decide) (fun hc => ?_) (fun hc => ?_)
    · have h := h.1 hc
      exact tX4_readBlock_1_L108 hL C hr hlk hb _ _ _ h (lv_sub hl [0] rfl) hP hS
    · have h := h.2 hc
      refine lv_aload_n C.1 C.2.1 dX4_readBlock_30 rfl (lv_at hl 0 rfl) ?_
      refine gf3_3 C hP hb (m3 hb hL) q267 dX4_readBlock_31 ?_
      refine z_kst C hS (i := 5) (by decide) rfl q575 dX4_readBlock_34 ?_
      obtain ⟨hk3, h⟩ := h
      refine z_acmp_eq C hk3 (kin_l (by decide)) (tgt := 108) dX4_readBlock_37 (by decide) (fun hc => ?_) (fun hc => ?_)
      · have h := h.1 hc
        exact tX4_readBlock_1_L108 hL C hr hlk hb _ _ _ h (lv_sub hl [0] rfl) hP hS
      · have h := h.2 hc
        refine lv_aload_n C.1 C.2.1 dX4_readBlock_40 rfl (lv_at hl 0 rfl) ?_
        refine gf3_1 C hP hb (m3 hb hL) q265 dX4_readBlock_41 ?_
        obtain ⟨hc4, h⟩ := h
        obtain ⟨c4, ec4⟩ : ∃ z, z = gR st b 1 := ⟨_, rfl⟩
        rw [← ec4]; rw [← ec4] at hc4; have h := h c4 ec4
        refine lv_aload_n C.1 C.2.1 dX4_readBlock_44 rfl (lv_at hl 0 rfl) ?_
        refine gf3_2 C hP hb (m3 hb hL) q266 dX4_readBlock_45 ?_
        refine lv_iload_n C.1 C.2.1 dX4_readBlock_48 rfl (lv_at hl 1 rfl) ?_
        refine z_ki hS (z_runV (As := [.int (gI st b 2), .int v1]) (rest := []) C hP hS (m1 hc4 hL) (e1 hc4) rfl (tX1_addAct C.2.2.2.2.2.2.1 (hL.mo (Nat.le_of_ble_eq_true rfl) (Nat.le_of_ble_eq_true rfl)) hc4 h) q577 q578 q579 q107 q580 hdX1_addAct ⟨Nat.le_of_ble_eq_true rfl, Nat.le_of_ble_eq_true rfl⟩ ⟨Nat.zero_le _, Nat.zero_le _⟩ rfl hl.1 rfl (lv_room (Nat.le_of_ble_eq_true rfl)) dX4_readBlock_49) (fun r6 st5 H locs h hP hS => ?_)
        refine lv_istore C.1 C.2.1 dX4_readBlock_52 hl (Nat.le_of_ble_eq_true rfl) rfl (fun ls hl => ?_)
        have hl : lv_has ls 6 [(5, .int r6), (0, .ref (E.2.1 b)), (1, .int v1), (2, .int v2), (3, .int v3), (4, .int v4)] := hl
        refine lv_iload C.1 C.2.1 dX4_readBlock_54 (lv_at hl 0 rfl) ?_
        refine lv_iconst C.1 C.2.1 (v := (-1)) dX4_readBlock_56 rfl ?_
        refine lv_icmp_ne C.1 C.2.1 (tgt := 65) dX4_readBlock_57 (by decide) (fun hc => ?_) (fun hc => ?_)
        · have h := h.1 hc
          exact tX4_readBlock_1_L65 hL C hr hlk hb hR22 _ _ _ h (lv_sub hl [1, 2, 3, 4, 5, 0] rfl) hP hS
        · have h := h.2 hc
          refine lv_aload_n C.1 C.2.1 dX4_readBlock_60 rfl (lv_at hl 1 rfl) ?_
          refine lv_iconst C.1 C.2.1 (v := 4) dX4_readBlock_61 rfl ?_
          refine z_kv hS (z_runV (As := [.int 4]) (rest := []) C hP hS (m3 hb hL) (e3 hb) rfl (tX4_mark C.2.2.2.2.2.2.1 (hL.mo (Nat.le_of_ble_eq_true rfl) (Nat.le_of_ble_eq_true rfl)) hb h) q522 q524 q2 q109 q525 hdX4_mark ⟨Nat.le_of_ble_eq_true rfl, Nat.le_of_ble_eq_true rfl⟩ ⟨Nat.zero_le _, Nat.zero_le _⟩ rfl hl.1 rfl (lv_room (Nat.le_of_ble_eq_true rfl)) dX4_readBlock_62) (fun st7 H locs h hP hS => ?_)
          exact tX4_readBlock_1_L65 hL C hr hlk hb hR22 _ _ _ h (lv_sub hl [1, 2, 3, 4, 5, 0] rfl) hP hS
set_option maxHeartbeats 4000000 in
set_option maxRecDepth 100000 in
theorem tX4_readBlock_1 {l : Launch} {E : En0} {L : List Nat} (hE : EK E L) (hL : Cov 0 54 L) {b : Nat} {p1 : Int32} {p2 : Int32} {st : St} {Q : Int32 → St → Prop} (hb : kd b = 3) (h : wX4_readBlock_1 b p1 p2 st Q) : Mz l yX4_readBlock cX4_readBlock 6 (some .boolean) rmX4_readBlock_1 E L [.ref (E.2.1 b), .int p1, .int p2] st (zI E L (fun r u => bz r ∧ Q r u)) := by
  refine Mz.of hE (by decide) (Nat.le_of_ble_eq_true rfl) ?_
  intro p e s m below meth c ls C hr hlk _ hl hP
  replace C : Cx E L "PlankBridge$Reader" cX4_readBlock 6 p s m _ c := C
  have hS : va_S (fA E L s.heap.size) s.heap s.heap [] := va_S.rf
  replace hl : lv_has ls 6 [(0, .ref (E.2.1 b)), (1, .int p1), (2, .int p2)] := hl
  unfold wX4_readBlock_1 at h
  refine lv_iload_n C.1 C.2.1 dX4_readBlock_0 rfl (lv_at hl 2 rfl) ?_
  refine lv_iconst C.1 C.2.1 (v := 3) dX4_readBlock_1 rfl ?_
  refine lv_icmp_gt C.1 C.2.1 (tgt := 15) dX4_readBlock_2 (by decide) (fun hc => ?_) (fun hc => ?_)
  · have h := h.1 hc
    refine lv_iconst C.1 C.2.1 (v := 0) dX4_readBlock_15 rfl ?_
    exact z_ri C hr hlk (bz_n bz0) hP hS ⟨bz0, h⟩ dX4_readBlock_16
  · have h := h.2 hc
    refine lv_aload_n C.1 C.2.1 dX4_readBlock_5 rfl (lv_at hl 0 rfl) ?_
    refine z_kst C hS (i := 4) (by decide) rfl q573 dX4_readBlock_6 ?_
    refine z_ki hS (z_runV (As := [va_re E.2.2.1 (some 4)]) (rest := []) C hP hS (m3 hb hL) (e3 hb) rfl (tX4_take C.2.2.2.2.2.2.1 (hL.mo (Nat.le_of_ble_eq_true rfl) (Nat.le_of_ble_eq_true rfl)) hb h) q502 q504 q0 q109 q505 hdX4_take ⟨Nat.le_of_ble_eq_true rfl, Nat.le_of_ble_eq_true rfl⟩ ⟨Nat.zero_le _, Nat.zero_le _⟩ rfl hl.1 rfl (lv_room (Nat.le_of_ble_eq_true rfl)) dX4_readBlock_9) (fun r2 st1 H locs h hP hS => ?_)
    obtain ⟨hr2, h⟩ := h
    refine lv_if_ne C.1 C.2.1 (tgt := 17) dX4_readBlock_12 (by decide) (fun hc => ?_) (fun hc => ?_)
    · have h := h.1 hc
      refine lv_iconst C.1 C.2.1 (v := (-1)) dX4_readBlock_17 rfl ?_
      refine lv_istore_n C.1 C.2.1 dX4_readBlock_18 rfl hl (Nat.le_of_ble_eq_true rfl) rfl (fun ls hl => ?_)
      have hl : lv_has ls 6 [(3, .int (-1)), (0, .ref (E.2.1 b)), (1, .int p1), (2, .int p2)] := hl
      refine lv_iconst C.1 C.2.1 (v := 0) dX4_readBlock_19 rfl ?_
      refine lv_istore C.1 C.2.1 dX4_readBlock_20 hl (Nat.le_of_ble_eq_true rfl) rfl (fun ls hl => ?_)
      have hl : lv_has ls 6 [(4, .int 0), (3, .int (-1)), (0, .ref (E.2.1 b)), (1, .int p1), (2, .int p2)] := hl
      obtain ⟨n, h⟩ := h
      exact tX4_readBlock_1_L22 hL C hr hlk hb n p1 p2 (-1) 0 st1 _ _ _ h (lv_sub hl [2, 3, 4, 1, 0] rfl) hP hS
    · have h := h.2 hc
      refine lv_iconst C.1 C.2.1 (v := 0) dX4_readBlock_15 rfl ?_
      exact z_ri C hr hlk (bz_n bz0) hP hS ⟨bz0, h⟩ dX4_readBlock_16
def rmX4_readBlockOf_2 : Room := { frames := 6, cells := 0, slots := 0, locals := 133 }
def wX4_readBlockOf_2 (b : Nat) (p1 : Int32) (p2 : Int32) (p3 : Nat) (st : St) (Q : Int32 → St → Prop) : Prop :=
  (kd (gR st b 1) = 1 ∧ ∀ c1, c1 = gR st b 1 → (∀ x2 : Int32, x2 = (gI st c1 15) → (wX4_readBlock_1 b p1 (p2 + 1) st (fun r4 st3 => ((p1 < 0 → Q r4 st3) ∧ (¬ p1 < 0 → ((60 ≤ p1 → Q r4 st3) ∧ (¬ 60 ≤ p1 → (kd (gR st3 b 1) = 1 ∧ ∀ c5, c5 = gR st3 b 1 → (wX1_firstSince c5 x2 st3 (fun r7 st6 => (vp_in p1 60 ∧ ∀ st8, st8 = uI st6 p3 (p1 : Int32).toNatClampNeg r7 → Q r4 st8))))))))))))
theorem hdX4_readBlockOf_2 : yX4_readBlockOf.cls = "PlankBridge$Reader" ∧ yX4_readBlockOf.cls ≠ "java/lang/invoke/MethodHandle" ∧ yX4_readBlockOf.cls ≠ "java/lang/invoke/VarHandle" ∧ (parseMethodDescriptor yX4_readBlockOf.desc).map (fun d => d.parameters.length) = some 3 := by decide +kernel
set_option maxHeartbeats 4000000 in
set_option maxRecDepth 100000 in
theorem tX4_readBlockOf_2 {l : Launch} {E : En0} {L : List Nat} (hE : EK E L) (hL : Cov 0 54 L) {b : Nat} {p1 : Int32} {p2 : Int32} {p3 : Nat} {st : St} {Q : Int32 → St → Prop} (hb : kd b = 3) (hp3 : kd p3 = 20) (lp3 : ln p3 = 60) (mp3 : p3 ∈ L) (h : wX4_readBlockOf_2 b p1 p2 p3 st Q) : Mz l yX4_readBlockOf cX4_readBlockOf 6 (some .boolean) rmX4_readBlockOf_2 E L [.ref (E.2.1 b), .int p1, .int p2, .ref (E.2.1 p3)] st (zI E L (fun r u => bz r ∧ Q r u)) := by
  refine Mz.of hE (by decide) (Nat.le_of_ble_eq_true rfl) ?_
  intro p e s m below meth c ls C hr hlk _ hl hP
  replace C : Cx E L "PlankBridge$Reader" cX4_readBlockOf 6 p s m _ c := C
  have hS : va_S (fA E L s.heap.size) s.heap s.heap [] := va_S.rf
  replace hl : lv_has ls 6 [(0, .ref (E.2.1 b)), (1, .int p1), (2, .int p2), (3, .ref (E.2.1 p3))] := hl
  unfold wX4_readBlockOf_2 at h
  refine lv_aload_n C.1 C.2.1 dX4_readBlockOf_0 rfl (lv_at hl 0 rfl) ?_
  refine gf3_1 C hP hb (m3 hb hL) q265 dX4_readBlockOf_1 ?_
  obtain ⟨hc1, h⟩ := h
  obtain ⟨c1, ec1⟩ : ∃ z, z = gR st b 1 := ⟨_, rfl⟩
  rw [← ec1]; rw [← ec1] at hc1; have h := h c1 ec1
  refine gn1_15 C hP hc1 (m1 hc1 hL) q222 dX4_readBlockOf_4 ?_
  refine lv_topi (fun x2 ex2 => ?_)
  have h := h x2 ex2
  refine lv_istore C.1 C.2.1 dX4_readBlockOf_7 hl (Nat.le_of_ble_eq_true rfl) rfl (fun ls hl => ?_)
  have hl : lv_has ls 6 [(4, .int x2), (0, .ref (E.2.1 b)), (1, .int p1), (2, .int p2), (3, .ref (E.2.1 p3))] := hl
  refine lv_aload_n C.1 C.2.1 dX4_readBlockOf_9 rfl (lv_at hl 1 rfl) ?_
  refine lv_iload_n C.1 C.2.1 dX4_readBlockOf_10 rfl (lv_at hl 2 rfl) ?_
  refine lv_iload_n C.1 C.2.1 dX4_readBlockOf_11 rfl (lv_at hl 3 rfl) ?_
  refine lv_iconst C.1 C.2.1 (v := 1) dX4_readBlockOf_12 rfl ?_
  refine lv_iadd C.1 C.2.1 dX4_readBlockOf_13  ?_
  refine z_ki hS (z_runV (As := [.int p1, .int (p2 + 1)]) (rest := []) C hP hS (m3 hb hL) (e3 hb) rfl (tX4_readBlock_1 C.2.2.2.2.2.2.1 (hL.mo (Nat.le_of_ble_eq_true rfl) (Nat.le_of_ble_eq_true rfl)) hb h) q569 q571 q6 q109 q572 hdX4_readBlock_1 ⟨Nat.le_of_ble_eq_true rfl, Nat.le_of_ble_eq_true rfl⟩ ⟨Nat.zero_le _, Nat.zero_le _⟩ rfl hl.1 rfl (lv_room (Nat.le_of_ble_eq_true rfl)) dX4_readBlockOf_14) (fun r4 st3 H locs h hP hS => ?_)
  obtain ⟨hr4, h⟩ := h
  refine lv_istore C.1 C.2.1 dX4_readBlockOf_17 hl (Nat.le_of_ble_eq_true rfl) rfl (fun ls hl => ?_)
  have hl : lv_has ls 6 [(5, .int r4), (4, .int x2), (0, .ref (E.2.1 b)), (1, .int p1), (2, .int p2), (3, .ref (E.2.1 p3))] := hl
  refine lv_iload_n C.1 C.2.1 dX4_readBlockOf_19 rfl (lv_at hl 3 rfl) ?_
  refine lv_if_lt C.1 C.2.1 (tgt := 41) dX4_readBlockOf_20 (by decide) (fun hc => ?_) (fun hc => ?_)
  · have h := h.1 hc
    refine lv_iload C.1 C.2.1 dX4_readBlockOf_41 (lv_at hl 0 rfl) ?_
    exact z_ri C hr hlk (bz_n hr4) hP hS ⟨hr4, h⟩ dX4_readBlockOf_43
  · have h := h.2 hc
    refine lv_iload_n C.1 C.2.1 dX4_readBlockOf_23 rfl (lv_at hl 3 rfl) ?_
    refine lv_aload_n C.1 C.2.1 dX4_readBlockOf_24 rfl (lv_at hl 5 rfl) ?_
    refine z_alen C hP hp3 lp3 mp3 (v := 60) rfl dX4_readBlockOf_25 ?_
    refine lv_icmp_ge C.1 C.2.1 (tgt := 41) dX4_readBlockOf_26 (by decide) (fun hc => ?_) (fun hc => ?_)
    · have h := h.1 hc
      refine lv_iload C.1 C.2.1 dX4_readBlockOf_41 (lv_at hl 0 rfl) ?_
      exact z_ri C hr hlk (bz_n hr4) hP hS ⟨hr4, h⟩ dX4_readBlockOf_43
    · have h := h.2 hc
      refine lv_aload_n C.1 C.2.1 dX4_readBlockOf_29 rfl (lv_at hl 5 rfl) ?_
      refine lv_iload_n C.1 C.2.1 dX4_readBlockOf_30 rfl (lv_at hl 3 rfl) ?_
      refine lv_aload_n C.1 C.2.1 dX4_readBlockOf_31 rfl (lv_at hl 2 rfl) ?_
      refine gf3_1 C hP hb (m3 hb hL) q265 dX4_readBlockOf_32 ?_
      obtain ⟨hc5, h⟩ := h
      obtain ⟨c5, ec5⟩ : ∃ z, z = gR st3 b 1 := ⟨_, rfl⟩
      rw [← ec5]; rw [← ec5] at hc5; have h := h c5 ec5
      refine lv_iload C.1 C.2.1 dX4_readBlockOf_35 (lv_at hl 1 rfl) ?_
      refine z_ki hS (z_runV (As := [.int x2]) (rest := [.int p1, .ref (E.2.1 p3)]) C hP hS (m1 hc5 hL) (e1 hc5) rfl (tX1_firstSince C.2.2.2.2.2.2.1 (hL.mo (Nat.le_of_ble_eq_true rfl) (Nat.le_of_ble_eq_true rfl)) hc5 h) q665 q666 q667 q107 q668 hdX1_firstSince ⟨Nat.le_of_ble_eq_true rfl, Nat.le_of_ble_eq_true rfl⟩ ⟨Nat.zero_le _, Nat.zero_le _⟩ rfl hl.1 rfl (lv_room (Nat.le_of_ble_eq_true rfl)) dX4_readBlockOf_37) (fun r7 st6 H locs h hP hS => ?_)
      obtain ⟨hi, h⟩ := h
      refine z_iast C hP hS hp3 lp3 mp3 hi dX4_readBlockOf_40 (fun H locs hP hS => ?_)
      obtain ⟨st8, est8⟩ : ∃ z, z = uI st6 p3 (p1 : Int32).toNatClampNeg r7 := ⟨_, rfl⟩
      rw [← est8] at hP; have h := h st8 est8
      refine lv_iload C.1 C.2.1 dX4_readBlockOf_41 (lv_at hl 0 rfl) ?_
      exact z_ri C hr hlk (bz_n hr4) hP hS ⟨hr4, h⟩ dX4_readBlockOf_43
def rmX4_readAct_2 : Room := { frames := 7, cells := 0, slots := 0, locals := 158 }
def wX4_readAct_2_L98 (b : Nat) (p1 : Int32) (p2 : Int32)   (st : St) (Q : Int32 → St → Prop) : Prop :=
  (wX4_take b (some 6) st (fun r41 st40 => ((r41 = 0 → Q 0 st40) ∧ (¬ r41 = 0 → Q 1 st40))))
def wX4_readAct_2_L114 (b : Nat) (p1 : Int32) (p2 : Int32)  (v3 : Option Nat) (st : St) (Q : Int32 → St → Prop) : Prop :=
  (wX4_take b v3 st (fun r43 st42 => ((r43 = 0 → Q 0 st42) ∧ (¬ r43 = 0 → (wX4_takeValue b st42 (fun r45 st44 => ((r45 = 0 → Q 0 st44) ∧ (¬ r45 = 0 → (wX4_take b (some 6) st44 (fun r47 st46 => ((r47 = 0 → Q 0 st46) ∧ (¬ r47 = 0 → Q 1 st46))))))))))))
def wX4_readAct_2_L280 (b : Nat) (p1 : Int32) (p2 : Int32)   (st : St) (Q : Int32 → St → Prop) : Prop :=
  Q 1 st
def wX4_readAct_2 (b : Nat) (p1 : Int32) (p2 : Int32) (st : St) (Q : Int32 → St → Prop) : Prop :=
  (∀ x1, x1 = gK st b 3 → (∃ k3, x1 = some k3 ∧ k3 < 37 ∧ (vp_in (Int32.ofNat k3) 37 ∧ ((((kSw (Int32.ofNat k3 : Int32).toNatClampNeg : Int32).toInt < 1 ∨ 7 < (kSw (Int32.ofNat k3 : Int32).toNatClampNeg : Int32).toInt) → Q 0 st) ∧ (((kSw (Int32.ofNat k3 : Int32).toNatClampNeg) = 1 → (wX4_take b x1 st (fun r6 st5 => ((r6 = 0 → Q 0 st5) ∧ (¬ r6 = 0 → (wX4_takeWho b st5 (fun r8 st7 => ((r8 = 0 → Q 0 st7) ∧ (¬ r8 = 0 → (kin (gK st7 b 3) ∧ (¬ (gK st7 b 3) = ((some 17)) → wX4_readAct_2_L98 b p1 p2 st7 Q) ∧ ((gK st7 b 3) = ((some 17)) → (wX4_take b (some 17) st7 (fun r11 st10 => ((r11 = 0 → Q 0 st10) ∧ (¬ r11 = 0 → (wX4_takeWho b st10 (fun r13 st12 => ((r13 = 0 → Q 0 st12) ∧ (¬ r13 = 0 → wX4_readAct_2_L98 b p1 p2 st12 Q))))))))))))))))))) ∧ ((kSw (Int32.ofNat k3 : Int32).toNatClampNeg) = 2 → wX4_readAct_2_L114 b p1 p2 x1 st Q) ∧ ((kSw (Int32.ofNat k3 : Int32).toNatClampNeg) = 3 → wX4_readAct_2_L114 b p1 p2 x1 st Q) ∧ ((kSw (Int32.ofNat k3 : Int32).toNatClampNeg) = 4 → wX4_readAct_2_L114 b p1 p2 x1 st Q) ∧ ((kSw (Int32.ofNat k3 : Int32).toNatClampNeg) = 5 → (wX4_take b x1 st (fun r15 st14 => ((r15 = 0 → Q 0 st14) ∧ (¬ r15 = 0 → (wX4_takePlanName b st14 (fun r17 st16 => ((r17 = 0 → Q 0 st16) ∧ (¬ r17 = 0 → (wX4_take b (some 6) st16 (fun r19 st18 => ((r19 = 0 → Q 0 st18) ∧ (¬ r19 = 0 → Q 1 st18))))))))))))) ∧ ((kSw (Int32.ofNat k3 : Int32).toNatClampNeg) = 6 → (wX4_take b x1 st (fun r21 st20 => ((r21 = 0 → Q 0 st20) ∧ (¬ r21 = 0 → (wX4_takeCompares b st20 (fun r23 st22 => ((r23 = 0 → Q 0 st22) ∧ (¬ r23 = 0 → (kd (gR st22 b 1) = 1 ∧ ∀ c24, c24 = gR st22 b 1 → (wX4_readBlockOf_2 b p1 p2 ((c24 + 10)) st22 (fun r26 st25 => ((r26 = 0 → Q 0 st25) ∧ (¬ r26 = 0 → Q 1 st25)))))))))))))) ∧ ((kSw (Int32.ofNat k3 : Int32).toNatClampNeg) = 7 → (wX4_take b x1 st (fun r28 st27 => ((r28 = 0 → Q 0 st27) ∧ (¬ r28 = 0 → (wX4_takeCompares b st27 (fun r30 st29 => ((r30 = 0 → Q 0 st29) ∧ (¬ r30 = 0 → (kd (gR st29 b 1) = 1 ∧ ∀ c31, c31 = gR st29 b 1 → (wX4_readBlockOf_2 b p1 p2 ((c31 + 10)) st29 (fun r33 st32 => ((r33 = 0 → Q 0 st32) ∧ (¬ r33 = 0 → (kin (gK st32 b 3) ∧ (¬ (gK st32 b 3) = ((some 24)) → wX4_readAct_2_L280 b p1 p2 st32 Q) ∧ ((gK st32 b 3) = ((some 24)) → (wX4_take b (some 24) st32 (fun r36 st35 => ((r36 = 0 → Q 0 st35) ∧ (¬ r36 = 0 → (kd (gR st35 b 1) = 1 ∧ ∀ c37, c37 = gR st35 b 1 → (wX4_readBlockOf_2 b p1 p2 ((c37 + 11)) st35 (fun r39 st38 => ((r39 = 0 → Q 0 st38) ∧ (¬ r39 = 0 → wX4_readAct_2_L280 b p1 p2 st38 Q))))))))))))))))))))))))))))))
theorem hdX4_readAct_2 : yX4_readAct.cls = "PlankBridge$Reader" ∧ yX4_readAct.cls ≠ "java/lang/invoke/MethodHandle" ∧ yX4_readAct.cls ≠ "java/lang/invoke/VarHandle" ∧ (parseMethodDescriptor yX4_readAct.desc).map (fun d => d.parameters.length) = some 2 := by decide +kernel
set_option maxHeartbeats 4000000 in
set_option maxRecDepth 100000 in
theorem tX4_readAct_2_L98 {l : Launch} {p : Program} {e : Env} {s : State} {m : MethodId} {args : Array Value} {below : List Frame} {meth : Method} {c : Code} {E : En0} {L : List Nat} (hL : Cov 0 54 L) (C : Cx E L "PlankBridge$Reader" cX4_readAct 4 p s m args c) (hr : meth.sig.returnType = (some .boolean)) (hlk : meth.locks = false) {b : Nat} {p1 : Int32} {p2 : Int32} {Q : Int32 → St → Prop} (hb : kd b = 3)   {st : St} (H : Heap) (locs : List Loc) (ls : Array Slot) (h : wX4_readAct_2_L98 b p1 p2 st Q) (hl : lv_has ls 4 [(0, .ref (E.2.1 b))]) (hP : va_P E.1 vwCl (wd E L st) H) (hS : va_S (fA E L s.heap.size) s.heap H locs) : W p l e rmX4_readAct_2 s m args below meth c H locs 0 0 (MQ below (zI E L (fun r u => bz r ∧ Q r u) (fA E L s.heap.size)) args s rmX4_readAct_2.cells rmX4_readAct_2.slots (fA E L s.heap.size)) (F0 m 98 ls []) := by
  unfold wX4_readAct_2_L98 at h
  refine lv_aload_n C.1 C.2.1 dX4_readAct_98 rfl (lv_at hl 0 rfl) ?_
  refine z_kst C hS (i := 6) (by decide) rfl q544 dX4_readAct_99 ?_
  refine z_ki hS (z_runV (As := [va_re E.2.2.1 (some 6)]) (rest := []) C hP hS (m3 hb hL) (e3 hb) rfl (tX4_take C.2.2.2.2.2.2.1 (hL.mo (Nat.le_of_ble_eq_true rfl) (Nat.le_of_ble_eq_true rfl)) hb h) q502 q504 q0 q109 q505 hdX4_take ⟨Nat.le_of_ble_eq_true rfl, Nat.le_of_ble_eq_true rfl⟩ ⟨Nat.zero_le _, Nat.zero_le _⟩ rfl hl.1 rfl (lv_room (Nat.le_of_ble_eq_true rfl)) dX4_readAct_102) (fun r41 st40 H locs h hP hS => ?_)
  obtain ⟨hr41, h⟩ := h
  refine lv_if_eq C.1 C.2.1 (tgt := 112) dX4_readAct_105 (by decide) (fun hc => ?_) (fun hc => ?_)
  · have h := h.1 hc
    refine lv_iconst C.1 C.2.1 (v := 0) dX4_readAct_112 rfl ?_
    exact z_ri C hr hlk (bz_n bz0) hP hS ⟨bz0, h⟩ dX4_readAct_113
  · have h := h.2 hc
    refine lv_iconst C.1 C.2.1 (v := 1) dX4_readAct_108 rfl ?_
    refine lv_goto C.1 C.2.1 (tgt := 113) dX4_readAct_109 (by decide) ?_
    exact z_ri C hr hlk (bz_n bz1) hP hS ⟨bz1, h⟩ dX4_readAct_113
set_option maxHeartbeats 4000000 in
set_option maxRecDepth 100000 in
theorem tX4_readAct_2_L114 {l : Launch} {p : Program} {e : Env} {s : State} {m : MethodId} {args : Array Value} {below : List Frame} {meth : Method} {c : Code} {E : En0} {L : List Nat} (hL : Cov 0 54 L) (C : Cx E L "PlankBridge$Reader" cX4_readAct 4 p s m args c) (hr : meth.sig.returnType = (some .boolean)) (hlk : meth.locks = false) {b : Nat} {p1 : Int32} {p2 : Int32} {Q : Int32 → St → Prop} (hb : kd b = 3) {v3 : Option Nat}  {st : St} (H : Heap) (locs : List Loc) (ls : Array Slot) (h : wX4_readAct_2_L114 b p1 p2 v3 st Q) (hl : lv_has ls 4 [(0, .ref (E.2.1 b)), (3, va_re E.2.2.1 v3)]) (hP : va_P E.1 vwCl (wd E L st) H) (hS : va_S (fA E L s.heap.size) s.heap H locs) : W p l e rmX4_readAct_2 s m args below meth c H locs 0 0 (MQ below (zI E L (fun r u => bz r ∧ Q r u) (fA E L s.heap.size)) args s rmX4_readAct_2.cells rmX4_readAct_2.slots (fA E L s.heap.size)) (F0 m 114 ls []) := by
  unfold wX4_readAct_2_L114 at h
  refine lv_aload_n C.1 C.2.1 dX4_readAct_114 rfl (lv_at hl 0 rfl) ?_
  refine z_aloadE_n C.1 C.2.1 dX4_readAct_115 rfl (lv_at hl 1 rfl) ?_
  refine z_ki hS (z_runV (As := [va_re E.2.2.1 v3]) (rest := []) C hP hS (m3 hb hL) (e3 hb) rfl (tX4_take C.2.2.2.2.2.2.1 (hL.mo (Nat.le_of_ble_eq_true rfl) (Nat.le_of_ble_eq_true rfl)) hb h) q502 q504 q0 q109 q505 hdX4_take ⟨Nat.le_of_ble_eq_true rfl, Nat.le_of_ble_eq_true rfl⟩ ⟨Nat.zero_le _, Nat.zero_le _⟩ rfl hl.1 rfl (lv_room (Nat.le_of_ble_eq_true rfl)) dX4_readAct_116) (fun r43 st42 H locs h hP hS => ?_)
  obtain ⟨hr43, h⟩ := h
  refine lv_if_eq C.1 C.2.1 (tgt := 143) dX4_readAct_119 (by decide) (fun hc => ?_) (fun hc => ?_)
  · have h := h.1 hc
    refine lv_iconst C.1 C.2.1 (v := 0) dX4_readAct_143 rfl ?_
    exact z_ri C hr hlk (bz_n bz0) hP hS ⟨bz0, h⟩ dX4_readAct_144
  · have h := h.2 hc
    refine lv_aload_n C.1 C.2.1 dX4_readAct_122 rfl (lv_at hl 0 rfl) ?_
    refine z_ki hS (z_runV (As := []) (rest := []) C hP hS (m3 hb hL) (e3 hb) rfl (tX4_takeValue C.2.2.2.2.2.2.1 (hL.mo (Nat.le_of_ble_eq_true rfl) (Nat.le_of_ble_eq_true rfl)) hb h) q619 q621 q9 q109 q622 hdX4_takeValue ⟨Nat.le_of_ble_eq_true rfl, Nat.le_of_ble_eq_true rfl⟩ ⟨Nat.zero_le _, Nat.zero_le _⟩ rfl hl.1 rfl (lv_room (Nat.le_of_ble_eq_true rfl)) dX4_readAct_123) (fun r45 st44 H locs h hP hS => ?_)
    obtain ⟨hr45, h⟩ := h
    refine lv_if_eq C.1 C.2.1 (tgt := 143) dX4_readAct_126 (by decide) (fun hc => ?_) (fun hc => ?_)
    · have h := h.1 hc
      refine lv_iconst C.1 C.2.1 (v := 0) dX4_readAct_143 rfl ?_
      exact z_ri C hr hlk (bz_n bz0) hP hS ⟨bz0, h⟩ dX4_readAct_144
    · have h := h.2 hc
      refine lv_aload_n C.1 C.2.1 dX4_readAct_129 rfl (lv_at hl 0 rfl) ?_
      refine z_kst C hS (i := 6) (by decide) rfl q544 dX4_readAct_130 ?_
      refine z_ki hS (z_runV (As := [va_re E.2.2.1 (some 6)]) (rest := []) C hP hS (m3 hb hL) (e3 hb) rfl (tX4_take C.2.2.2.2.2.2.1 (hL.mo (Nat.le_of_ble_eq_true rfl) (Nat.le_of_ble_eq_true rfl)) hb h) q502 q504 q0 q109 q505 hdX4_take ⟨Nat.le_of_ble_eq_true rfl, Nat.le_of_ble_eq_true rfl⟩ ⟨Nat.zero_le _, Nat.zero_le _⟩ rfl hl.1 rfl (lv_room (Nat.le_of_ble_eq_true rfl)) dX4_readAct_133) (fun r47 st46 H locs h hP hS => ?_)
      obtain ⟨hr47, h⟩ := h
      refine lv_if_eq C.1 C.2.1 (tgt := 143) dX4_readAct_136 (by decide) (fun hc => ?_) (fun hc => ?_)
      · have h := h.1 hc
        refine lv_iconst C.1 C.2.1 (v := 0) dX4_readAct_143 rfl ?_
        exact z_ri C hr hlk (bz_n bz0) hP hS ⟨bz0, h⟩ dX4_readAct_144
      · have h := h.2 hc
        refine lv_iconst C.1 C.2.1 (v := 1) dX4_readAct_139 rfl ?_
        refine lv_goto C.1 C.2.1 (tgt := 144) dX4_readAct_140 (by decide) ?_
        exact z_ri C hr hlk (bz_n bz1) hP hS ⟨bz1, h⟩ dX4_readAct_144
set_option maxHeartbeats 4000000 in
set_option maxRecDepth 100000 in
theorem tX4_readAct_2_L280 {l : Launch} {p : Program} {e : Env} {s : State} {m : MethodId} {args : Array Value} {below : List Frame} {meth : Method} {c : Code} {E : En0} {L : List Nat} (hL : Cov 0 54 L) (C : Cx E L "PlankBridge$Reader" cX4_readAct 4 p s m args c) (hr : meth.sig.returnType = (some .boolean)) (hlk : meth.locks = false) {b : Nat} {p1 : Int32} {p2 : Int32} {Q : Int32 → St → Prop} (hb : kd b = 3)   {st : St} (H : Heap) (locs : List Loc) (ls : Array Slot) (h : wX4_readAct_2_L280 b p1 p2 st Q) (hl : lv_has ls 4 []) (hP : va_P E.1 vwCl (wd E L st) H) (hS : va_S (fA E L s.heap.size) s.heap H locs) : W p l e rmX4_readAct_2 s m args below meth c H locs 0 0 (MQ below (zI E L (fun r u => bz r ∧ Q r u) (fA E L s.heap.size)) args s rmX4_readAct_2.cells rmX4_readAct_2.slots (fA E L s.heap.size)) (F0 m 280 ls []) := by
  unfold wX4_readAct_2_L280 at h
  refine lv_iconst C.1 C.2.1 (v := 1) dX4_readAct_280 rfl ?_
  refine lv_goto C.1 C.2.1 (tgt := 285) dX4_readAct_281 (by decide) ?_
  exact z_ri C hr hlk (bz_n bz1) hP hS ⟨bz1, h⟩ dX4_readAct_285
set_option maxHeartbeats 4000000 in
set_option maxRecDepth 100000 in
theorem tX4_readAct_2 {l : Launch} {E : En0} {L : List Nat} (hE : EK E L) (hL : Cov 0 54 L) {b : Nat} {p1 : Int32} {p2 : Int32} {st : St} {Q : Int32 → St → Prop} (hb : kd b = 3) (h : wX4_readAct_2 b p1 p2 st Q) : Mz l yX4_readAct cX4_readAct 4 (some .boolean) rmX4_readAct_2 E L [.ref (E.2.1 b), .int p1, .int p2] st (zI E L (fun r u => bz r ∧ Q r u)) := by
  refine Mz.of hE (by decide) (Nat.le_of_ble_eq_true rfl) ?_
  intro p e s m below meth c ls C hr hlk _ hl hP
  replace C : Cx E L "PlankBridge$Reader" cX4_readAct 4 p s m _ c := C
  have hS : va_S (fA E L s.heap.size) s.heap s.heap [] := va_S.rf
  replace hl : lv_has ls 4 [(0, .ref (E.2.1 b)), (1, .int p1), (2, .int p2)] := hl
  unfold wX4_readAct_2 at h
  refine lv_aload_n C.1 C.2.1 dX4_readAct_0 rfl (lv_at hl 0 rfl) ?_
  refine gf3_3 C hP hb (m3 hb hL) q267 dX4_readAct_1 ?_
  obtain ⟨x1, ex1⟩ : ∃ z, z = gK st b 3 := ⟨_, rfl⟩
  rw [← ex1]; have h := h x1 ex1
  refine z_astoreE_n C.1 C.2.1 dX4_readAct_4 rfl hl (Nat.le_of_ble_eq_true rfl) rfl (fun ls hl => ?_)
  have hl : lv_has ls 4 [(3, va_re E.2.2.1 x1), (0, .ref (E.2.1 b)), (1, .int p1), (2, .int p2)] := hl
  refine z_sw C hS q589 dX4_readAct_5 (fun t2 ht2 => ?_)
  refine z_aloadE_n C.1 C.2.1 dX4_readAct_8 rfl (lv_at hl 0 rfl) ?_
  obtain ⟨k3, ek3, lk3, h⟩ := h
  refine z_ordE C hP hS ek3 lk3 q591 ⟨Nat.le_of_ble_eq_true rfl, Nat.le_of_ble_eq_true rfl⟩ ⟨Nat.zero_le _, Nat.zero_le _⟩ hl.1 (lv_room (Nat.le_of_ble_eq_true rfl)) dX4_readAct_9 (fun H locs hP hS => ?_)
  obtain ⟨hi4, h⟩ := h
  refine va_ti C.1 C.2.1 ht2 hS hi4 rfl dX4_readAct_12 ?_
  rcases Classical.em ((kSw (Int32.ofNat k3 : Int32).toNatClampNeg : Int32).toInt < 1 ∨ 7 < (kSw (Int32.ofNat k3 : Int32).toNatClampNeg : Int32).toInt) with hx | hx
  · have h := h.1 hx
    refine lv_tableOut C.1 C.2.1 (tgt := 286) dX4_readAct_13 hx (by decide) ?_
    refine lv_iconst C.1 C.2.1 (v := 0) dX4_readAct_286 rfl ?_
    exact z_ri C hr hlk (bz_n bz0) hP hS ⟨bz0, h⟩ dX4_readAct_287
  · have h := h.2
    have hx : (kSw (Int32.ofNat k3 : Int32).toNatClampNeg : Int32).toInt = 1 ∨ (kSw (Int32.ofNat k3 : Int32).toNatClampNeg : Int32).toInt = 2 ∨ (kSw (Int32.ofNat k3 : Int32).toNatClampNeg : Int32).toInt = 3 ∨ (kSw (Int32.ofNat k3 : Int32).toNatClampNeg : Int32).toInt = 4 ∨ (kSw (Int32.ofNat k3 : Int32).toNatClampNeg : Int32).toInt = 5 ∨ (kSw (Int32.ofNat k3 : Int32).toNatClampNeg : Int32).toInt = 6 ∨ (kSw (Int32.ofNat k3 : Int32).toNatClampNeg : Int32).toInt = 7 := by omega
    rcases hx with hx | hx | hx | hx | hx | hx | hx
    · have h := h.1 (i32_eq (hx.trans (by decide)))
      refine lv_tableIn C.1 C.2.1 (off := 43) (tgt := 56) dX4_readAct_13 (by omega) (by omega) (by rw [hx]; rfl) (by decide) ?_
      refine lv_aload_n C.1 C.2.1 dX4_readAct_56 rfl (lv_at hl 1 rfl) ?_
      refine z_aloadE_n C.1 C.2.1 dX4_readAct_57 rfl (lv_at hl 0 rfl) ?_
      refine z_ki hS (z_runV (As := [va_re E.2.2.1 x1]) (rest := []) C hP hS (m3 hb hL) (e3 hb) rfl (tX4_take C.2.2.2.2.2.2.1 (hL.mo (Nat.le_of_ble_eq_true rfl) (Nat.le_of_ble_eq_true rfl)) hb h) q502 q504 q0 q109 q505 hdX4_take ⟨Nat.le_of_ble_eq_true rfl, Nat.le_of_ble_eq_true rfl⟩ ⟨Nat.zero_le _, Nat.zero_le _⟩ rfl hl.1 rfl (lv_room (Nat.le_of_ble_eq_true rfl)) dX4_readAct_58) (fun r6 st5 H locs h hP hS => ?_)
      obtain ⟨hr6, h⟩ := h
      refine lv_if_eq C.1 C.2.1 (tgt := 112) dX4_readAct_61 (by decide) (fun hc => ?_) (fun hc => ?_)
      · have h := h.1 hc
        refine lv_iconst C.1 C.2.1 (v := 0) dX4_readAct_112 rfl ?_
        exact z_ri C hr hlk (bz_n bz0) hP hS ⟨bz0, h⟩ dX4_readAct_113
      · have h := h.2 hc
        refine lv_aload_n C.1 C.2.1 dX4_readAct_64 rfl (lv_at hl 1 rfl) ?_
        refine z_ki hS (z_runV (As := []) (rest := []) C hP hS (m3 hb hL) (e3 hb) rfl (tX4_takeWho C.2.2.2.2.2.2.1 (hL.mo (Nat.le_of_ble_eq_true rfl) (Nat.le_of_ble_eq_true rfl)) hb h) q597 q599 q8 q109 q600 hdX4_takeWho ⟨Nat.le_of_ble_eq_true rfl, Nat.le_of_ble_eq_true rfl⟩ ⟨Nat.zero_le _, Nat.zero_le _⟩ rfl hl.1 rfl (lv_room (Nat.le_of_ble_eq_true rfl)) dX4_readAct_65) (fun r8 st7 H locs h hP hS => ?_)
        obtain ⟨hr8, h⟩ := h
        refine lv_if_eq C.1 C.2.1 (tgt := 112) dX4_readAct_68 (by decide) (fun hc => ?_) (fun hc => ?_)
        · have h := h.1 hc
          refine lv_iconst C.1 C.2.1 (v := 0) dX4_readAct_112 rfl ?_
          exact z_ri C hr hlk (bz_n bz0) hP hS ⟨bz0, h⟩ dX4_readAct_113
        · have h := h.2 hc
          refine lv_aload_n C.1 C.2.1 dX4_readAct_71 rfl (lv_at hl 1 rfl) ?_
          refine gf3_3 C hP hb (m3 hb hL) q267 dX4_readAct_72 ?_
          refine z_kst C hS (i := 17) (by decide) rfl q617 dX4_readAct_75 ?_
          obtain ⟨hk9, h⟩ := h
          refine z_acmp_ne C hk9 (kin_l (by decide)) (tgt := 98) dX4_readAct_78 (by decide) (fun hc => ?_) (fun hc => ?_)
          · have h := h.1 hc
            exact tX4_readAct_2_L98 hL C hr hlk hb _ _ _ h (lv_sub hl [1] rfl) hP hS
          · have h := h.2 hc
            refine lv_aload_n C.1 C.2.1 dX4_readAct_81 rfl (lv_at hl 1 rfl) ?_
            refine z_kst C hS (i := 17) (by decide) rfl q617 dX4_readAct_82 ?_
            refine z_ki hS (z_runV (As := [va_re E.2.2.1 (some 17)]) (rest := []) C hP hS (m3 hb hL) (e3 hb) rfl (tX4_take C.2.2.2.2.2.2.1 (hL.mo (Nat.le_of_ble_eq_true rfl) (Nat.le_of_ble_eq_true rfl)) hb h) q502 q504 q0 q109 q505 hdX4_take ⟨Nat.le_of_ble_eq_true rfl, Nat.le_of_ble_eq_true rfl⟩ ⟨Nat.zero_le _, Nat.zero_le _⟩ rfl hl.1 rfl (lv_room (Nat.le_of_ble_eq_true rfl)) dX4_readAct_85) (fun r11 st10 H locs h hP hS => ?_)
            obtain ⟨hr11, h⟩ := h
            refine lv_if_eq C.1 C.2.1 (tgt := 112) dX4_readAct_88 (by decide) (fun hc => ?_) (fun hc => ?_)
            · have h := h.1 hc
              refine lv_iconst C.1 C.2.1 (v := 0) dX4_readAct_112 rfl ?_
              exact z_ri C hr hlk (bz_n bz0) hP hS ⟨bz0, h⟩ dX4_readAct_113
            · have h := h.2 hc
              refine lv_aload_n C.1 C.2.1 dX4_readAct_91 rfl (lv_at hl 1 rfl) ?_
              refine z_ki hS (z_runV (As := []) (rest := []) C hP hS (m3 hb hL) (e3 hb) rfl (tX4_takeWho C.2.2.2.2.2.2.1 (hL.mo (Nat.le_of_ble_eq_true rfl) (Nat.le_of_ble_eq_true rfl)) hb h) q597 q599 q8 q109 q600 hdX4_takeWho ⟨Nat.le_of_ble_eq_true rfl, Nat.le_of_ble_eq_true rfl⟩ ⟨Nat.zero_le _, Nat.zero_le _⟩ rfl hl.1 rfl (lv_room (Nat.le_of_ble_eq_true rfl)) dX4_readAct_92) (fun r13 st12 H locs h hP hS => ?_)
              obtain ⟨hr13, h⟩ := h
              refine lv_if_eq C.1 C.2.1 (tgt := 112) dX4_readAct_95 (by decide) (fun hc => ?_) (fun hc => ?_)
              · have h := h.1 hc
                refine lv_iconst C.1 C.2.1 (v := 0) dX4_readAct_112 rfl ?_
                exact z_ri C hr hlk (bz_n bz0) hP hS ⟨bz0, h⟩ dX4_readAct_113
              · have h := h.2 hc
                exact tX4_readAct_2_L98 hL C hr hlk hb _ _ _ h (lv_sub hl [1] rfl) hP hS
    · have h := h.2.1 (i32_eq (hx.trans (by decide)))
      refine lv_tableIn C.1 C.2.1 (off := 101) (tgt := 114) dX4_readAct_13 (by omega) (by omega) (by rw [hx]; rfl) (by decide) ?_
      exact tX4_readAct_2_L114 hL C hr hlk hb _ _ _ h (lv_sub hl [1, 0] rfl) hP hS
    · have h := h.2.2.1 (i32_eq (hx.trans (by decide)))
      refine lv_tableIn C.1 C.2.1 (off := 101) (tgt := 114) dX4_readAct_13 (by omega) (by omega) (by rw [hx]; rfl) (by decide) ?_
      exact tX4_readAct_2_L114 hL C hr hlk hb _ _ _ h (lv_sub hl [1, 0] rfl) hP hS
    · have h := h.2.2.2.1 (i32_eq (hx.trans (by decide)))
      refine lv_tableIn C.1 C.2.1 (off := 101) (tgt := 114) dX4_readAct_13 (by omega) (by omega) (by rw [hx]; rfl) (by decide) ?_
      exact tX4_readAct_2_L114 hL C hr hlk hb _ _ _ h (lv_sub hl [1, 0] rfl) hP hS
    · have h := h.2.2.2.2.1 (i32_eq (hx.trans (by decide)))
      refine lv_tableIn C.1 C.2.1 (off := 132) (tgt := 145) dX4_readAct_13 (by omega) (by omega) (by rw [hx]; rfl) (by decide) ?_
      refine lv_aload_n C.1 C.2.1 dX4_readAct_145 rfl (lv_at hl 1 rfl) ?_
      refine z_aloadE_n C.1 C.2.1 dX4_readAct_146 rfl (lv_at hl 0 rfl) ?_
      refine z_ki hS (z_runV (As := [va_re E.2.2.1 x1]) (rest := []) C hP hS (m3 hb hL) (e3 hb) rfl (tX4_take C.2.2.2.2.2.2.1 (hL.mo (Nat.le_of_ble_eq_true rfl) (Nat.le_of_ble_eq_true rfl)) hb h) q502 q504 q0 q109 q505 hdX4_take ⟨Nat.le_of_ble_eq_true rfl, Nat.le_of_ble_eq_true rfl⟩ ⟨Nat.zero_le _, Nat.zero_le _⟩ rfl hl.1 rfl (lv_room (Nat.le_of_ble_eq_true rfl)) dX4_readAct_147) (fun r15 st14 H locs h hP hS => ?_)
      obtain ⟨hr15, h⟩ := h
      refine lv_if_eq C.1 C.2.1 (tgt := 174) dX4_readAct_150 (by decide) (fun hc => ?_) (fun hc => ?_)
      · have h := h.1 hc
        refine lv_iconst C.1 C.2.1 (v := 0) dX4_readAct_174 rfl ?_
        exact z_ri C hr hlk (bz_n bz0) hP hS ⟨bz0, h⟩ dX4_readAct_175
      · have h := h.2 hc
        refine lv_aload_n C.1 C.2.1 dX4_readAct_153 rfl (lv_at hl 1 rfl) ?_
        refine z_ki hS (z_runV (As := []) (rest := []) C hP hS (m3 hb hL) (e3 hb) rfl (tX4_takePlanName C.2.2.2.2.2.2.1 (hL.mo (Nat.le_of_ble_eq_true rfl) (Nat.le_of_ble_eq_true rfl)) hb h) q641 q643 q10 q109 q644 hdX4_takePlanName ⟨Nat.le_of_ble_eq_true rfl, Nat.le_of_ble_eq_true rfl⟩ ⟨Nat.zero_le _, Nat.zero_le _⟩ rfl hl.1 rfl (lv_room (Nat.le_of_ble_eq_true rfl)) dX4_readAct_154) (fun r17 st16 H locs h hP hS => ?_)
        obtain ⟨hr17, h⟩ := h
        refine lv_if_eq C.1 C.2.1 (tgt := 174) dX4_readAct_157 (by decide) (fun hc => ?_) (fun hc => ?_)
        · have h := h.1 hc
          refine lv_iconst C.1 C.2.1 (v := 0) dX4_readAct_174 rfl ?_
          exact z_ri C hr hlk (bz_n bz0) hP hS ⟨bz0, h⟩ dX4_readAct_175
        · have h := h.2 hc
          refine lv_aload_n C.1 C.2.1 dX4_readAct_160 rfl (lv_at hl 1 rfl) ?_
          refine z_kst C hS (i := 6) (by decide) rfl q544 dX4_readAct_161 ?_
          refine z_ki hS (z_runV (As := [va_re E.2.2.1 (some 6)]) (rest := []) C hP hS (m3 hb hL) (e3 hb) rfl (tX4_take C.2.2.2.2.2.2.1 (hL.mo (Nat.le_of_ble_eq_true rfl) (Nat.le_of_ble_eq_true rfl)) hb h) q502 q504 q0 q109 q505 hdX4_take ⟨Nat.le_of_ble_eq_true rfl, Nat.le_of_ble_eq_true rfl⟩ ⟨Nat.zero_le _, Nat.zero_le _⟩ rfl hl.1 rfl (lv_room (Nat.le_of_ble_eq_true rfl)) dX4_readAct_164) (fun r19 st18 H locs h hP hS => ?_)
          obtain ⟨hr19, h⟩ := h
          refine lv_if_eq C.1 C.2.1 (tgt := 174) dX4_readAct_167 (by decide) (fun hc => ?_) (fun hc => ?_)
          · have h := h.1 hc
            refine lv_iconst C.1 C.2.1 (v := 0) dX4_readAct_174 rfl ?_
            exact z_ri C hr hlk (bz_n bz0) hP hS ⟨bz0, h⟩ dX4_readAct_175
          · have h := h.2 hc
            refine lv_iconst C.1 C.2.1 (v := 1) dX4_readAct_170 rfl ?_
            refine lv_goto C.1 C.2.1 (tgt := 175) dX4_readAct_171 (by decide) ?_
            exact z_ri C hr hlk (bz_n bz1) hP hS ⟨bz1, h⟩ dX4_readAct_175
    · have h := h.2.2.2.2.2.1 (i32_eq (hx.trans (by decide)))
      refine lv_tableIn C.1 C.2.1 (off := 163) (tgt := 176) dX4_readAct_13 (by omega) (by omega) (by rw [hx]; rfl) (by decide) ?_
      refine lv_aload_n C.1 C.2.1 dX4_readAct_176 rfl (lv_at hl 1 rfl) ?_
      refine z_aloadE_n C.1 C.2.1 dX4_readAct_177 rfl (lv_at hl 0 rfl) ?_
      refine z_ki hS (z_runV (As := [va_re E.2.2.1 x1]) (rest := []) C hP hS (m3 hb hL) (e3 hb) rfl (tX4_take C.2.2.2.2.2.2.1 (hL.mo (Nat.le_of_ble_eq_true rfl) (Nat.le_of_ble_eq_true rfl)) hb h) q502 q504 q0 q109 q505 hdX4_take ⟨Nat.le_of_ble_eq_true rfl, Nat.le_of_ble_eq_true rfl⟩ ⟨Nat.zero_le _, Nat.zero_le _⟩ rfl hl.1 rfl (lv_room (Nat.le_of_ble_eq_true rfl)) dX4_readAct_178) (fun r21 st20 H locs h hP hS => ?_)
      obtain ⟨hr21, h⟩ := h
      refine lv_if_eq C.1 C.2.1 (tgt := 211) dX4_readAct_181 (by decide) (fun hc => ?_) (fun hc => ?_)
      · have h := h.1 hc
        refine lv_iconst C.1 C.2.1 (v := 0) dX4_readAct_211 rfl ?_
        exact z_ri C hr hlk (bz_n bz0) hP hS ⟨bz0, h⟩ dX4_readAct_212
      · have h := h.2 hc
        refine lv_aload_n C.1 C.2.1 dX4_readAct_184 rfl (lv_at hl 1 rfl) ?_
        refine z_ki hS (z_runV (As := []) (rest := []) C hP hS (m3 hb hL) (e3 hb) rfl (tX4_takeCompares C.2.2.2.2.2.2.1 (hL.mo (Nat.le_of_ble_eq_true rfl) (Nat.le_of_ble_eq_true rfl)) hb h) q645 q647 q11 q109 q648 hdX4_takeCompares ⟨Nat.le_of_ble_eq_true rfl, Nat.le_of_ble_eq_true rfl⟩ ⟨Nat.zero_le _, Nat.zero_le _⟩ rfl hl.1 rfl (lv_room (Nat.le_of_ble_eq_true rfl)) dX4_readAct_185) (fun r23 st22 H locs h hP hS => ?_)
        obtain ⟨hr23, h⟩ := h
        refine lv_if_eq C.1 C.2.1 (tgt := 211) dX4_readAct_188 (by decide) (fun hc => ?_) (fun hc => ?_)
        · have h := h.1 hc
          refine lv_iconst C.1 C.2.1 (v := 0) dX4_readAct_211 rfl ?_
          exact z_ri C hr hlk (bz_n bz0) hP hS ⟨bz0, h⟩ dX4_readAct_212
        · have h := h.2 hc
          refine lv_aload_n C.1 C.2.1 dX4_readAct_191 rfl (lv_at hl 1 rfl) ?_
          refine lv_iload_n C.1 C.2.1 dX4_readAct_192 rfl (lv_at hl 2 rfl) ?_
          refine lv_iload_n C.1 C.2.1 dX4_readAct_193 rfl (lv_at hl 3 rfl) ?_
          refine lv_aload_n C.1 C.2.1 dX4_readAct_194 rfl (lv_at hl 1 rfl) ?_
          refine gf3_1 C hP hb (m3 hb hL) q265 dX4_readAct_195 ?_
          obtain ⟨hc24, h⟩ := h
          obtain ⟨c24, ec24⟩ : ∃ z, z = gR st22 b 1 := ⟨_, rfl⟩
          rw [← ec24]; rw [← ec24] at hc24; have h := h c24 ec24
          refine gn1_13 C hP hc24 (m1 hc24 hL) q217 dX4_readAct_198 ?_
          refine z_ki hS (z_runV (As := [.int p1, .int p2, .ref (E.2.1 ((c24 + 10)))]) (rest := []) C hP hS (m3 hb hL) (e3 hb) rfl (tX4_readBlockOf_2 C.2.2.2.2.2.2.1 (hL.mo (Nat.le_of_ble_eq_true rfl) (Nat.le_of_ble_eq_true rfl)) hb (k1_10 hc24) (l1_10 hc24) (m1_10 hc24 hL) h) q661 q663 q12 q109 q664 hdX4_readBlockOf_2 ⟨Nat.le_of_ble_eq_true rfl, Nat.le_of_ble_eq_true rfl⟩ ⟨Nat.zero_le _, Nat.zero_le _⟩ rfl hl.1 rfl (lv_room (Nat.le_of_ble_eq_true rfl)) dX4_readAct_201) (fun r26 st25 H locs h hP hS => ?_)
          obtain ⟨hr26, h⟩ := h
          refine lv_if_eq C.1 C.2.1 (tgt := 211) dX4_readAct_204 (by decide) (fun hc => ?_) (fun hc => ?_)
          · have h := h.1 hc
            refine lv_iconst C.1 C.2.1 (v := 0) dX4_readAct_211 rfl ?_
            exact z_ri C hr hlk (bz_n bz0) hP hS ⟨bz0, h⟩ dX4_readAct_212
          · have h := h.2 hc
            refine lv_iconst C.1 C.2.1 (v := 1) dX4_readAct_207 rfl ?_
            refine lv_goto C.1 C.2.1 (tgt := 212) dX4_readAct_208 (by decide) ?_
            exact z_ri C hr hlk (bz_n bz1) hP hS ⟨bz1, h⟩ dX4_readAct_212
    · have h := h.2.2.2.2.2.2 (i32_eq (hx.trans (by decide)))
      refine lv_tableIn C.1 C.2.1 (off := 200) (tgt := 213) dX4_readAct_13 (by omega) (by omega) (by rw [hx]; rfl) (by decide) ?_
      refine lv_aload_n C.1 C.2.1 dX4_readAct_213 rfl (lv_at hl 1 rfl) ?_
      refine z_aloadE_n C.1 C.2.1 dX4_readAct_214 rfl (lv_at hl 0 rfl) ?_
      refine z_ki hS (z_runV (As := [va_re E.2.2.1 x1]) (rest := []) C hP hS (m3 hb hL) (e3 hb) rfl (tX4_take C.2.2.2.2.2.2.1 (hL.mo (Nat.le_of_ble_eq_true rfl) (Nat.le_of_ble_eq_true rfl)) hb h) q502 q504 q0 q109 q505 hdX4_take ⟨Nat.le_of_ble_eq_true rfl, Nat.le_of_ble_eq_true rfl⟩ ⟨Nat.zero_le _, Nat.zero_le _⟩ rfl hl.1 rfl (lv_room (Nat.le_of_ble_eq_true rfl)) dX4_readAct_215) (fun r28 st27 H locs h hP hS => ?_)
      obtain ⟨hr28, h⟩ := h
      refine lv_if_eq C.1 C.2.1 (tgt := 284) dX4_readAct_218 (by decide) (fun hc => ?_) (fun hc => ?_)
      · have h := h.1 hc
        refine lv_iconst C.1 C.2.1 (v := 0) dX4_readAct_284 rfl ?_
        exact z_ri C hr hlk (bz_n bz0) hP hS ⟨bz0, h⟩ dX4_readAct_285
      · have h := h.2 hc
        refine lv_aload_n C.1 C.2.1 dX4_readAct_221 rfl (lv_at hl 1 rfl) ?_
        refine z_ki hS (z_runV (As := []) (rest := []) C hP hS (m3 hb hL) (e3 hb) rfl (tX4_takeCompares C.2.2.2.2.2.2.1 (hL.mo (Nat.le_of_ble_eq_true rfl) (Nat.le_of_ble_eq_true rfl)) hb h) q645 q647 q11 q109 q648 hdX4_takeCompares ⟨Nat.le_of_ble_eq_true rfl, Nat.le_of_ble_eq_true rfl⟩ ⟨Nat.zero_le _, Nat.zero_le _⟩ rfl hl.1 rfl (lv_room (Nat.le_of_ble_eq_true rfl)) dX4_readAct_222) (fun r30 st29 H locs h hP hS => ?_)
        obtain ⟨hr30, h⟩ := h
        refine lv_if_eq C.1 C.2.1 (tgt := 284) dX4_readAct_225 (by decide) (fun hc => ?_) (fun hc => ?_)
        · have h := h.1 hc
          refine lv_iconst C.1 C.2.1 (v := 0) dX4_readAct_284 rfl ?_
          exact z_ri C hr hlk (bz_n bz0) hP hS ⟨bz0, h⟩ dX4_readAct_285
        · have h := h.2 hc
          refine lv_aload_n C.1 C.2.1 dX4_readAct_228 rfl (lv_at hl 1 rfl) ?_
          refine lv_iload_n C.1 C.2.1 dX4_readAct_229 rfl (lv_at hl 2 rfl) ?_
          refine lv_iload_n C.1 C.2.1 dX4_readAct_230 rfl (lv_at hl 3 rfl) ?_
          refine lv_aload_n C.1 C.2.1 dX4_readAct_231 rfl (lv_at hl 1 rfl) ?_
          refine gf3_1 C hP hb (m3 hb hL) q265 dX4_readAct_232 ?_
          obtain ⟨hc31, h⟩ := h
          obtain ⟨c31, ec31⟩ : ∃ z, z = gR st29 b 1 := ⟨_, rfl⟩
          rw [← ec31]; rw [← ec31] at hc31; have h := h c31 ec31
          refine gn1_13 C hP hc31 (m1 hc31 hL) q217 dX4_readAct_235 ?_
          refine z_ki hS (z_runV (As := [.int p1, .int p2, .ref (E.2.1 ((c31 + 10)))]) (rest := []) C hP hS (m3 hb hL) (e3 hb) rfl (tX4_readBlockOf_2 C.2.2.2.2.2.2.1 (hL.mo (Nat.le_of_ble_eq_true rfl) (Nat.le_of_ble_eq_true rfl)) hb (k1_10 hc31) (l1_10 hc31) (m1_10 hc31 hL) h) q661 q663 q12 q109 q664 hdX4_readBlockOf_2 ⟨Nat.le_of_ble_eq_true rfl, Nat.le_of_ble_eq_true rfl⟩ ⟨Nat.zero_le _, Nat.zero_le _⟩ rfl hl.1 rfl (lv_room (Nat.le_of_ble_eq_true rfl)) dX4_readAct_238) (fun r33 st32 H locs h hP hS => ?_)
          obtain ⟨hr33, h⟩ := h
          refine lv_if_eq C.1 C.2.1 (tgt := 284) dX4_readAct_241 (by decide) (fun hc => ?_) (fun hc => ?_)
          · have h := h.1 hc
            refine lv_iconst C.1 C.2.1 (v := 0) dX4_readAct_284 rfl ?_
            exact z_ri C hr hlk (bz_n bz0) hP hS ⟨bz0, h⟩ dX4_readAct_285
          · have h := h.2 hc
            refine lv_aload_n C.1 C.2.1 dX4_readAct_244 rfl (lv_at hl 1 rfl) ?_
            refine gf3_3 C hP hb (m3 hb hL) q267 dX4_readAct_245 ?_
            refine z_kst C hS (i := 24) (by decide) rfl q669 dX4_readAct_248 ?_
            obtain ⟨hk34, h⟩ := h
            refine z_acmp_ne C hk34 (kin_l (by decide)) (tgt := 280) dX4_readAct_251 (by decide) (fun hc => ?_) (fun hc => ?_)
            · have h := h.1 hc
              exact tX4_readAct_2_L280 hL C hr hlk hb _ _ _ h (lv_sub hl [] rfl) hP hS
            · have h := h.2 hc
              refine lv_aload_n C.1 C.2.1 dX4_readAct_254 rfl (lv_at hl 1 rfl) ?_
              refine z_kst C hS (i := 24) (by decide) rfl q669 dX4_readAct_255 ?_
              refine z_ki hS (z_runV (As := [va_re E.2.2.1 (some 24)]) (rest := []) C hP hS (m3 hb hL) (e3 hb) rfl (tX4_take C.2.2.2.2.2.2.1 (hL.mo (Nat.le_of_ble_eq_true rfl) (Nat.le_of_ble_eq_true rfl)) hb h) q502 q504 q0 q109 q505 hdX4_take ⟨Nat.le_of_ble_eq_true rfl, Nat.le_of_ble_eq_true rfl⟩ ⟨Nat.zero_le _, Nat.zero_le _⟩ rfl hl.1 rfl (lv_room (Nat.le_of_ble_eq_true rfl)) dX4_readAct_258) (fun r36 st35 H locs h hP hS => ?_)
              obtain ⟨hr36, h⟩ := h
              refine lv_if_eq C.1 C.2.1 (tgt := 284) dX4_readAct_261 (by decide) (fun hc => ?_) (fun hc => ?_)
              · have h := h.1 hc
                refine lv_iconst C.1 C.2.1 (v := 0) dX4_readAct_284 rfl ?_
                exact z_ri C hr hlk (bz_n bz0) hP hS ⟨bz0, h⟩ dX4_readAct_285
              · have h := h.2 hc
                refine lv_aload_n C.1 C.2.1 dX4_readAct_264 rfl (lv_at hl 1 rfl) ?_
                refine lv_iload_n C.1 C.2.1 dX4_readAct_265 rfl (lv_at hl 2 rfl) ?_
                refine lv_iload_n C.1 C.2.1 dX4_readAct_266 rfl (lv_at hl 3 rfl) ?_
                refine lv_aload_n C.1 C.2.1 dX4_readAct_267 rfl (lv_at hl 1 rfl) ?_
                refine gf3_1 C hP hb (m3 hb hL) q265 dX4_readAct_268 ?_
                obtain ⟨hc37, h⟩ := h
                obtain ⟨c37, ec37⟩ : ∃ z, z = gR st35 b 1 := ⟨_, rfl⟩
                rw [← ec37]; rw [← ec37] at hc37; have h := h c37 ec37
                refine gn1_14 C hP hc37 (m1 hc37 hL) q220 dX4_readAct_271 ?_
                refine z_ki hS (z_runV (As := [.int p1, .int p2, .ref (E.2.1 ((c37 + 11)))]) (rest := []) C hP hS (m3 hb hL) (e3 hb) rfl (tX4_readBlockOf_2 C.2.2.2.2.2.2.1 (hL.mo (Nat.le_of_ble_eq_true rfl) (Nat.le_of_ble_eq_true rfl)) hb (k1_11 hc37) (l1_11 hc37) (m1_11 hc37 hL) h) q661 q663 q12 q109 q664 hdX4_readBlockOf_2 ⟨Nat.le_of_ble_eq_true rfl, Nat.le_of_ble_eq_true rfl⟩ ⟨Nat.zero_le _, Nat.zero_le _⟩ rfl hl.1 rfl (lv_room (Nat.le_of_ble_eq_true rfl)) dX4_readAct_274) (fun r39 st38 H locs h hP hS => ?_)
                obtain ⟨hr39, h⟩ := h
                refine lv_if_eq C.1 C.2.1 (tgt := 284) dX4_readAct_277 (by decide) (fun hc => ?_) (fun hc => ?_)
                · have h := h.1 hc
                  refine lv_iconst C.1 C.2.1 (v := 0) dX4_readAct_284 rfl ?_
                  exact z_ri C hr hlk (bz_n bz0) hP hS ⟨bz0, h⟩ dX4_readAct_285
                · have h := h.2 hc
                  exact tX4_readAct_2_L280 hL C hr hlk hb _ _ _ h (lv_sub hl [] rfl) hP hS
def rmX4_readBlock_2 : Room := { frames := 8, cells := 0, slots := 0, locals := 181 }
def wX4_readBlock_2_L87 (b : Nat) (p1 : Int32) (p2 : Int32) (R22 : Int32 × Int32 × Int32 × Int32 × St → Prop) (v1 : Int32) (v2 : Int32) (v4 : Int32) (v5 : Int32) (st : St) (Q : Int32 → St → Prop) : Prop :=
  (wX4_readAct_2 b v5 v2 st (fun r16 st15 => ((¬ r16 = 0 → (∀ x17 : Int32, x17 = v4 + 1 → R22 (v1, v2, v5, x17, st15))) ∧ (r16 = 0 → Q 0 st15))))
def wX4_readBlock_2_L65 (b : Nat) (p1 : Int32) (p2 : Int32) (R22 : Int32 × Int32 × Int32 × Int32 × St → Prop) (v1 : Int32) (v2 : Int32) (v3 : Int32) (v4 : Int32) (v5 : Int32) (st : St) (Q : Int32 → St → Prop) : Prop :=
  (kd (gR st b 1) = 1 ∧ ∀ c10, c10 = gR st b 1 → (wX1_hasAct c10 v3 st (fun r12 st11 => ((r12 = 0 → wX4_readBlock_2_L87 b p1 p2 R22 v1 v2 v4 v5 st11 Q) ∧ (¬ r12 = 0 → (kd (gR st11 b 1) = 1 ∧ ∀ c13, c13 = gR st11 b 1 → (vp_in v3 60 ∧ ∀ st14, st14 = uI st11 (c13 + 9) (v3 : Int32).toNatClampNeg v5 → wX4_readBlock_2_L87 b p1 p2 R22 v1 v2 v4 v5 st14 Q)))))))
def wX4_readBlock_2_L108 (b : Nat) (p1 : Int32) (p2 : Int32)   (st : St) (Q : Int32 → St → Prop) : Prop :=
  (wX4_take b (some 5) st (fun r9 st8 => Q r9 st8))
def wX4_readBlock_2_L22 (b : Nat) (p1 : Int32) (p2 : Int32)  (R22 : Int32 × Int32 × Int32 × Int32 × St → Prop) (v1 : Int32) (v2 : Int32) (v3 : Int32) (v4 : Int32) (st : St) (Q : Int32 → St → Prop) : Prop :=
  ((400 ≤ v4 → wX4_readBlock_2_L108 b p1 p2 st Q) ∧ (¬ 400 ≤ v4 → (kin (gK st b 3) ∧ ((gK st b 3) = ((some 5)) → wX4_readBlock_2_L108 b p1 p2 st Q) ∧ (¬ (gK st b 3) = ((some 5)) → (kd (gR st b 1) = 1 ∧ ∀ c4, c4 = gR st b 1 → (wX1_addAct c4 (gI st b 2) v1 st (fun r6 st5 => ((¬ r6 = (-1) → wX4_readBlock_2_L65 b p1 p2 R22 v1 v2 v3 v4 r6 st5 Q) ∧ (r6 = (-1) → (wX4_mark b 4 st5 (fun st7 => wX4_readBlock_2_L65 b p1 p2 R22 v1 v2 v3 v4 r6 st7 Q)))))))))))
def wX4_readBlock_2 (b : Nat) (p1 : Int32) (p2 : Int32) (st : St) (Q : Int32 → St → Prop) : Prop :=
  ((3 < p2 → Q 0 st) ∧ (¬ 3 < p2 → (wX4_take b (some 4) st (fun r2 st1 => ((¬ r2 = 0 → (∃ n, lp (fun R s => wX4_readBlock_2_L22 b p1 p2 R s.1 s.2.1 s.2.2.1 s.2.2.2.1 s.2.2.2.2 Q) n (p1, p2, (-1), 0, st1))) ∧ (r2 = 0 → Q 0 st1))))))
theorem hdX4_readBlock_2 : yX4_readBlock.cls = "PlankBridge$Reader" ∧ yX4_readBlock.cls ≠ "java/lang/invoke/MethodHandle" ∧ yX4_readBlock.cls ≠ "java/lang/invoke/VarHandle" ∧ (parseMethodDescriptor yX4_readBlock.desc).map (fun d => d.parameters.length) = some 2 := by decide +kernel
set_option maxHeartbeats 4000000 in
set_option maxRecDepth 100000 in
theorem tX4_readBlock_2_L87 {l : Launch} {p : Program} {e : Env} {s : State} {m : MethodId} {args : Array Value} {below : List Frame} {meth : Method} {c : Code} {E : En0} {L : List Nat} (hL : Cov 0 54 L) (C : Cx E L "PlankBridge$Reader" cX4_readBlock 6 p s m args c) (hr : meth.sig.returnType = (some .boolean)) (hlk : meth.locks = false) {b : Nat} {p1 : Int32} {p2 : Int32} {Q : Int32 → St → Prop} (hb : kd b = 3) {R22 : Int32 × Int32 × Int32 × Int32 × St → Prop} (hR22 : ∀ (v1 : Int32) (v2 : Int32) (v3 : Int32) (v4 : Int32) (st : St), ∀ (H : Heap) (locs : List Loc) (ls : Array Slot), R22 (v1, v2, v3, v4, st) → lv_has ls 6 [(0, .ref (E.2.1 b)), (1, .int v1), (2, .int v2), (3, .int v3), (4, .int v4)] → va_P E.1 vwCl (wd E L st) H → va_S (fA E L s.heap.size) s.heap H locs → W p l e rmX4_readBlock_2 s m args below meth c H locs 0 0 (MQ below (zI E L (fun r u => bz r ∧ Q r u) (fA E L s.heap.size)) args s rmX4_readBlock_2.cells rmX4_readBlock_2.slots (fA E L s.heap.size)) (F0 m 22 ls [])) {v1 : Int32} {v2 : Int32} {v4 : Int32} {v5 : Int32}  {st : St} (H : Heap) (locs : List Loc) (ls : Array Slot) (h : wX4_readBlock_2_L87 b p1 p2 R22 v1 v2 v4 v5 st Q) (hl : lv_has ls 6 [(0, .ref (E.2.1 b)), (1, .int v1), (2, .int v2), (4, .int v4), (5, .int v5)]) (hP : va_P E.1 vwCl (wd E L st) H) (hS : va_S (fA E L s.heap.size) s.heap H locs) : W p l e rmX4_readBlock_2 s m args below meth c H locs 0 0 (MQ below (zI E L (fun r u => bz r ∧ Q r u) (fA E L s.heap.size)) args s rmX4_readBlock_2.cells rmX4_readBlock_2.slots (fA E L s.heap.size)) (F0 m 87 ls []) := by
  unfold wX4_readBlock_2_L87 at h
  refine lv_iload C.1 C.2.1 dX4_readBlock_87 (lv_at hl 4 rfl) ?_
  refine lv_istore_n C.1 C.2.1 dX4_readBlock_89 rfl hl (Nat.le_of_ble_eq_true rfl) rfl (fun ls hl => ?_)
  have hl : lv_has ls 6 [(3, .int v5), (0, .ref (E.2.1 b)), (1, .int v1), (2, .int v2), (4, .int v4), (5, .int v5)] := hl
  refine lv_aload_n C.1 C.2.1 dX4_readBlock_90 rfl (lv_at hl 1 rfl) ?_
  refine lv_iload C.1 C.2.1 dX4_readBlock_91 (lv_at hl 5 rfl) ?_
  refine lv_iload_n C.1 C.2.1 dX4_readBlock_93 rfl (lv_at hl 3 rfl) ?_
  refine z_ki hS (z_runV (As := [.int v5, .int v2]) (rest := []) C hP hS (m3 hb hL) (e3 hb) rfl (tX4_readAct_2 C.2.2.2.2.2.2.1 (hL.mo (Nat.le_of_ble_eq_true rfl) (Nat.le_of_ble_eq_true rfl)) hb h) q585 q587 q7 q109 q588 hdX4_readAct_2 ⟨Nat.le_of_ble_eq_true rfl, Nat.le_of_ble_eq_true rfl⟩ ⟨Nat.zero_le _, Nat.zero_le _⟩ rfl hl.1 rfl (lv_room (Nat.le_of_ble_eq_true rfl)) dX4_readBlock_94) (fun r16 st15 H locs h hP hS => ?_)
  obtain ⟨hr16, h⟩ := h
  refine lv_if_ne C.1 C.2.1 (tgt := 102) dX4_readBlock_97 (by decide) (fun hc => ?_) (fun hc => ?_)
  · have h := h.1 hc
    obtain ⟨x17, ex17⟩ : ∃ z, z = v4 + 1 := ⟨_, rfl⟩
    have h := h x17 ex17
    refine lv_iinc C.1 C.2.1 dX4_readBlock_102 hl (k := 4) rfl ex17.symm (Nat.le_of_ble_eq_true rfl) rfl (fun ls hl => ?_)
    have hl : lv_has ls 6 [(4, .int x17), (3, .int v5), (0, .ref (E.2.1 b)), (1, .int v1), (2, .int v2), (5, .int v5)] := hl
    refine lv_goto C.1 C.2.1 (tgt := 22) dX4_readBlock_105 (by decide) ?_
    exact hR22 v1 v2 v5 x17 st15 _ _ _ h (lv_sub hl [2, 3, 4, 1, 0] rfl) hP hS
  · have h := h.2 hc
    refine lv_iconst C.1 C.2.1 (v := 0) dX4_readBlock_100 rfl ?_
    exact z_ri C hr hlk (bz_n bz0) hP hS ⟨bz0, h⟩ dX4_readBlock_101
set_option maxHeartbeats 4000000 in
set_option maxRecDepth 100000 in
theorem tX4_readBlock_2_L65 {l : Launch} {p : Program} {e : Env} {s : State} {m : MethodId} {args : Array Value} {below : List Frame} {meth : Method} {c : Code} {E : En0} {L : List Nat} (hL : Cov 0 54 L) (C : Cx E L "PlankBridge$Reader" cX4_readBlock 6 p s m args c) (hr : meth.sig.returnType = (some .boolean)) (hlk : meth.locks = false) {b : Nat} {p1 : Int32} {p2 : Int32} {Q : Int32 → St → Prop} (hb : kd b = 3) {R22 : Int32 × Int32 × Int32 × Int32 × St → Prop} (hR22 : ∀ (v1 : Int32) (v2 : Int32) (v3 : Int32) (v4 : Int32) (st : St), ∀ (H : Heap) (locs : List Loc) (ls : Array Slot), R22 (v1, v2, v3, v4, st) → lv_has ls 6 [(0, .ref (E.2.1 b)), (1, .int v1), (2, .int v2), (3, .int v3), (4, .int v4)] → va_P E.1 vwCl (wd E L st) H → va_S (fA E L s.heap.size) s.heap H locs → W p l e rmX4_readBlock_2 s m args below meth c H locs 0 0 (MQ below (zI E L (fun r u => bz r ∧ Q r u) (fA E L s.heap.size)) args s rmX4_readBlock_2.cells rmX4_readBlock_2.slots (fA E L s.heap.size)) (F0 m 22 ls [])) {v1 : Int32} {v2 : Int32} {v3 : Int32} {v4 : Int32} {v5 : Int32}  {st : St} (H : Heap) (locs : List Loc) (ls : Array Slot) (h : wX4_readBlock_2_L65 b p1 p2 R22 v1 v2 v3 v4 v5 st Q) (hl : lv_has ls 6 [(0, .ref (E.2.1 b)), (1, .int v1), (2, .int v2), (3, .int v3), (4, .int v4), (5, .int v5)]) (hP : va_P E.1 vwCl (wd E L st) H) (hS : va_S (fA E L s.heap.size) s.heap H locs) : W p l e rmX4_readBlock_2 s m args below meth c H locs 0 0 (MQ below (zI E L (fun r u => bz r ∧ Q r u) (fA E L s.heap.size)) args s rmX4_readBlock_2.cells rmX4_readBlock_2.slots (fA E L s.heap.size)) (F0 m 65 ls []) := by
  unfold wX4_readBlock_2_L65 at h
  refine lv_aload_n C.1 C.2.1 dX4_readBlock_65 rfl (lv_at hl 0 rfl) ?_
  refine gf3_1 C hP hb (m3 hb hL) q265 dX4_readBlock_66 ?_
  obtain ⟨hc10, h⟩ := h
  obtain ⟨c10, ec10⟩ : ∃ z, z = gR st b 1 := ⟨_, rfl⟩
  rw [← ec10]; rw [← ec10] at hc10; have h := h c10 ec10
  refine lv_iload_n C.1 C.2.1 dX4_readBlock_69 rfl (lv_at hl 3 rfl) ?_
  refine z_ki hS (z_runV (As := [.int v3]) (rest := []) C hP hS (m1 hc10 hL) (e1 hc10) rfl (tX1_hasAct C.2.2.2.2.2.2.1 (hL.mo (Nat.le_of_ble_eq_true rfl) (Nat.le_of_ble_eq_true rfl)) hc10 h) q581 q582 q583 q107 q584 hdX1_hasAct ⟨Nat.le_of_ble_eq_true rfl, Nat.le_of_ble_eq_true rfl⟩ ⟨Nat.zero_le _, Nat.zero_le _⟩ rfl hl.1 rfl (lv_room (Nat.le_of_ble_eq_true rfl)) dX4_readBlock_70) (fun r12 st11 H locs h hP hS => ?_)
  obtain ⟨hr12, h⟩ := h
  refine lv_if_eq C.1 C.2.1 (tgt := 87) dX4_readBlock_73 (by decide) (fun hc => ?_) (fun hc => ?_)
  · have h := h.1 hc
    exact tX4_readBlock_2_L87 hL C hr hlk hb hR22 _ _ _ h (lv_sub hl [0, 1, 2, 4, 5] rfl) hP hS
  · have h := h.2 hc
    refine lv_aload_n C.1 C.2.1 dX4_readBlock_76 rfl (lv_at hl 0 rfl) ?_
    refine gf3_1 C hP hb (m3 hb hL) q265 dX4_readBlock_77 ?_
    obtain ⟨hc13, h⟩ := h
    obtain ⟨c13, ec13⟩ : ∃ z, z = gR st11 b 1 := ⟨_, rfl⟩
    rw [← ec13]; rw [← ec13] at hc13; have h := h c13 ec13
    refine gn1_12 C hP hc13 (m1 hc13 hL) q214 dX4_readBlock_80 ?_
    refine lv_iload_n C.1 C.2.1 dX4_readBlock_83 rfl (lv_at hl 3 rfl) ?_
    refine lv_iload C.1 C.2.1 dX4_readBlock_84 (lv_at hl 5 rfl) ?_
    obtain ⟨hi, h⟩ := h
    refine z_iast C hP hS (k1_9 hc13) (l1_9 hc13) (m1_9 hc13 hL) hi dX4_readBlock_86 (fun H locs hP hS => ?_)
    obtain ⟨st14, est14⟩ : ∃ z, z = uI st11 (c13 + 9) (v3 : Int32).toNatClampNeg v5 := ⟨_, rfl⟩
    rw [← est14] at hP; have h := h st14 est14
    exact tX4_readBlock_2_L87 hL C hr hlk hb hR22 _ _ _ h (lv_sub hl [0, 1, 2, 4, 5] rfl) hP hS
set_option maxHeartbeats 4000000 in
set_option maxRecDepth 100000 in
theorem tX4_readBlock_2_L108 {l : Launch} {p : Program} {e : Env} {s : State} {m : MethodId} {args : Array Value} {below : List Frame} {meth : Method} {c : Code} {E : En0} {L : List Nat} (hL : Cov 0 54 L) (C : Cx E L "PlankBridge$Reader" cX4_readBlock 6 p s m args c) (hr : meth.sig.returnType = (some .boolean)) (hlk : meth.locks = false) {b : Nat} {p1 : Int32} {p2 : Int32} {Q : Int32 → St → Prop} (hb : kd b = 3)   {st : St} (H : Heap) (locs : List Loc) (ls : Array Slot) (h : wX4_readBlock_2_L108 b p1 p2 st Q) (hl : lv_has ls 6 [(0, .ref (E.2.1 b))]) (hP : va_P E.1 vwCl (wd E L st) H) (hS : va_S (fA E L s.heap.size) s.heap H locs) : W p l e rmX4_readBlock_2 s m args below meth c H locs 0 0 (MQ below (zI E L (fun r u => bz r ∧ Q r u) (fA E L s.heap.size)) args s rmX4_readBlock_2.cells rmX4_readBlock_2.slots (fA E L s.heap.size)) (F0 m 108 ls []) := by
  unfold wX4_readBlock_2_L108 at h
  refine lv_aload_n C.1 C.2.1 dX4_readBlock_108 rfl (lv_at hl 0 rfl) ?_
  refine z_kst C hS (i := 5) (by decide) rfl q575 dX4_readBlock_109 ?_
  refine z_ki hS (z_runV (As := [va_re E.2.2.1 (some 5)]) (rest := []) C hP hS (m3 hb hL) (e3 hb) rfl (tX4_take C.2.2.2.2.2.2.1 (hL.mo (Nat.le_of_ble_eq_true rfl) (Nat.le_of_ble_eq_true rfl)) hb h) q502 q504 q0 q109 q505 hdX4_take ⟨Nat.le_of_ble_eq_true rfl, Nat.le_of_ble_eq_true rfl⟩ ⟨Nat.zero_le _, Nat.zero_le _⟩ rfl hl.1 rfl (lv_room (Nat.le_of_ble_eq_true rfl)) dX4_readBlock_112) (fun r9 st8 H locs h hP hS => ?_)
  obtain ⟨hr9, h⟩ := h
  exact z_ri C hr hlk (bz_n hr9) hP hS ⟨hr9, h⟩ dX4_readBlock_115
set_option maxHeartbeats 4000000 in
set_option maxRecDepth 100000 in
theorem tX4_readBlock_2_L22 {l : Launch} {p : Program} {e : Env} {s : State} {m : MethodId} {args : Array Value} {below : List Frame} {meth : Method} {c : Code} {E : En0} {L : List Nat} (hL : Cov 0 54 L) (C : Cx E L "PlankBridge$Reader" cX4_readBlock 6 p s m args c) (hr : meth.sig.returnType = (some .boolean)) (hlk : meth.locks = false) {b : Nat} {p1 : Int32} {p2 : Int32} {Q : Int32 → St → Prop} (hb : kd b = 3) : ∀ (n : Nat) (v1 : Int32) (v2 : Int32) (v3 : Int32) (v4 : Int32) (st : St) (H : Heap) (locs : List Loc) (ls : Array Slot), lp (fun R s => wX4_readBlock_2_L22 b p1 p2 R s.1 s.2.1 s.2.2.1 s.2.2.2.1 s.2.2.2.2 Q) n (v1, v2, v3, v4, st) → lv_has ls 6 [(0, .ref (E.2.1 b)), (1, .int v1), (2, .int v2), (3, .int v3), (4, .int v4)] → va_P E.1 vwCl (wd E L st) H → va_S (fA E L s.heap.size) s.heap H locs → W p l e rmX4_readBlock_2 s m args below meth c H locs 0 0 (MQ below (zI E L (fun r u => bz r ∧ Q r u) (fA E L s.heap.size)) args s rmX4_readBlock_2.cells rmX4_readBlock_2.slots (fA E L s.heap.size)) (F0 m 22 ls []) := by
  intro n
  induction n with
  | zero => exact fun _ _ _ _ _ _ _ _ h _ _ _ => False.elim ‹_›
  | succ n ih =>
    intro v1 v2 v3 v4 st  H locs ls h hl hP hS
    have hR22 := ih
    replace h : wX4_readBlock_2_L22 b p1 p2 (lp (fun R s => wX4_readBlock_2_L22 b p1 p2 R s.1 s.2.1 s.2.2.1 s.2.2.2.1 s.2.2.2.2 Q) n) v1 v2 v3 v4 st Q := h
    unfold wX4_readBlock_2_L22 at h
    refine lv_iload C.1 C.2.1 dX4_readBlock_22 (lv_at hl 4 rfl) ?_
    refine lv_sipush C.1 C.2.1 (v := 400) dX4_readBlock_24 rfl ?_
    refine lv_icmp_ge C.1 C.2.1 (tgt := 108) dX4_readBlock_27 (by decide) (fun hc => ?_) (fun hc => ?_)
    · have h := h.1 hc
      exact tX4_readBlock_2_L108 hL C hr hlk hb _ _ _ h (lv_sub hl [0] rfl) hP hS
    · have h := h.2 hc
      refine lv_aload_n C.1 C.2.1 dX4_readBlock_30 rfl (lv_at hl 0 rfl) ?_
      refine gf3_3 C hP hb (m3 hb hL) q267 dX4_readBlock_31 ?_
      refine z_kst C hS (i := 5) (by decide) rfl q575 dX4_readBlock_34 ?_
      obtain ⟨hk3, h⟩ := h
      refine z_acmp_eq C hk3 (kin_l (by decide)) (tgt := 108) dX4_readBlock_37 (by decide) (fun hc => ?_) (fun hc => ?_)
      · have h := h.1 hc
        exact tX4_readBlock_2_L108 hL C hr hlk hb _ _ _ h (lv_sub hl [0] rfl) hP hS
      · have h := h.2 hc
        refine lv_aload_n C.1 C.2.1 dX4_readBlock_40 rfl (lv_at hl 0 rfl) ?_
        refine gf3_1 C hP hb (m3 hb hL) q265 dX4_readBlock_41 ?_
        obtain ⟨hc4, h⟩ := h
        obtain ⟨c4, ec4⟩ : ∃ z, z = gR st b 1 := ⟨_, rfl⟩
        rw [← ec4]; rw [← ec4] at hc4; have h := h c4 ec4
        refine lv_aload_n C.1 C.2.1 dX4_readBlock_44 rfl (lv_at hl 0 rfl) ?_
        refine gf3_2 C hP hb (m3 hb hL) q266 dX4_readBlock_45 ?_
        refine lv_iload_n C.1 C.2.1 dX4_readBlock_48 rfl (lv_at hl 1 rfl) ?_
        refine z_ki hS (z_runV (As := [.int (gI st b 2), .int v1]) (rest := []) C hP hS (m1 hc4 hL) (e1 hc4) rfl (tX1_addAct C.2.2.2.2.2.2.1 (hL.mo (Nat.le_of_ble_eq_true rfl) (Nat.le_of_ble_eq_true rfl)) hc4 h) q577 q578 q579 q107 q580 hdX1_addAct ⟨Nat.le_of_ble_eq_true rfl, Nat.le_of_ble_eq_true rfl⟩ ⟨Nat.zero_le _, Nat.zero_le _⟩ rfl hl.1 rfl (lv_room (Nat.le_of_ble_eq_true rfl)) dX4_readBlock_49) (fun r6 st5 H locs h hP hS => ?_)
        refine lv_istore C.1 C.2.1 dX4_readBlock_52 hl (Nat.le_of_ble_eq_true rfl) rfl (fun ls hl => ?_)
        have hl : lv_has ls 6 [(5, .int r6), (0, .ref (E.2.1 b)), (1, .int v1), (2, .int v2), (3, .int v3), (4, .int v4)] := hl
        refine lv_iload C.1 C.2.1 dX4_readBlock_54 (lv_at hl 0 rfl) ?_
        refine lv_iconst C.1 C.2.1 (v := (-1)) dX4_readBlock_56 rfl ?_
        refine lv_icmp_ne C.1 C.2.1 (tgt := 65) dX4_readBlock_57 (by decide) (fun hc => ?_) (fun hc => ?_)
        · have h := h.1 hc
          exact tX4_readBlock_2_L65 hL C hr hlk hb hR22 _ _ _ h (lv_sub hl [1, 2, 3, 4, 5, 0] rfl) hP hS
        · have h := h.2 hc
          refine lv_aload_n C.1 C.2.1 dX4_readBlock_60 rfl (lv_at hl 1 rfl) ?_
          refine lv_iconst C.1 C.2.1 (v := 4) dX4_readBlock_61 rfl ?_
          refine z_kv hS (z_runV (As := [.int 4]) (rest := []) C hP hS (m3 hb hL) (e3 hb) rfl (tX4_mark C.2.2.2.2.2.2.1 (hL.mo (Nat.le_of_ble_eq_true rfl) (Nat.le_of_ble_eq_true rfl)) hb h) q522 q524 q2 q109 q525 hdX4_mark ⟨Nat.le_of_ble_eq_true rfl, Nat.le_of_ble_eq_true rfl⟩ ⟨Nat.zero_le _, Nat.zero_le _⟩ rfl hl.1 rfl (lv_room (Nat.le_of_ble_eq_true rfl)) dX4_readBlock_62) (fun st7 H locs h hP hS => ?_)
          exact tX4_readBlock_2_L65 hL C hr hlk hb hR22 _ _ _ h (lv_sub hl [1, 2, 3, 4, 5, 0] rfl) hP hS
set_option maxHeartbeats 4000000 in
set_option maxRecDepth 100000 in
theorem tX4_readBlock_2 {l : Launch} {E : En0} {L : List Nat} (hE : EK E L) (hL : Cov 0 54 L) {b : Nat} {p1 : Int32} {p2 : Int32} {st : St} {Q : Int32 → St → Prop} (hb : kd b = 3) (h : wX4_readBlock_2 b p1 p2 st Q) : Mz l yX4_readBlock cX4_readBlock 6 (some .boolean) rmX4_readBlock_2 E L [.ref (E.2.1 b), .int p1, .int p2] st (zI E L (fun r u => bz r ∧ Q r u)) := by
  refine Mz.of hE (by decide) (Nat.le_of_ble_eq_true rfl) ?_
  intro p e s m below meth c ls C hr hlk _ hl hP
  replace C : Cx E L "PlankBridge$Reader" cX4_readBlock 6 p s m _ c := C
  have hS : va_S (fA E L s.heap.size) s.heap s.heap [] := va_S.rf
  replace hl : lv_has ls 6 [(0, .ref (E.2.1 b)), (1, .int p1), (2, .int p2)] := hl
  unfold wX4_readBlock_2 at h
  refine lv_iload_n C.1 C.2.1 dX4_readBlock_0 rfl (lv_at hl 2 rfl) ?_
  refine lv_iconst C.1 C.2.1 (v := 3) dX4_readBlock_1 rfl ?_
  refine lv_icmp_gt C.1 C.2.1 (tgt := 15) dX4_readBlock_2 (by decide) (fun hc => ?_) (fun hc => ?_)
  · have h := h.1 hc
    refine lv_iconst C.1 C.2.1 (v := 0) dX4_readBlock_15 rfl ?_
    exact z_ri C hr hlk (bz_n bz0) hP hS ⟨bz0, h⟩ dX4_readBlock_16
  · have h := h.2 hc
    refine lv_aload_n C.1 C.2.1 dX4_readBlock_5 rfl (lv_at hl 0 rfl) ?_
    refine z_kst C hS (i := 4) (by decide) rfl q573 dX4_readBlock_6 ?_
    refine z_ki hS (z_runV (As := [va_re E.2.2.1 (some 4)]) (rest := []) C hP hS (m3 hb hL) (e3 hb) rfl (tX4_take C.2.2.2.2.2.2.1 (hL.mo (Nat.le_of_ble_eq_true rfl) (Nat.le_of_ble_eq_true rfl)) hb h) q502 q504 q0 q109 q505 hdX4_take ⟨Nat.le_of_ble_eq_true rfl, Nat.le_of_ble_eq_true rfl⟩ ⟨Nat.zero_le _, Nat.zero_le _⟩ rfl hl.1 rfl (lv_room (Nat.le_of_ble_eq_true rfl)) dX4_readBlock_9) (fun r2 st1 H locs h hP hS => ?_)
    obtain ⟨hr2, h⟩ := h
    refine lv_if_ne C.1 C.2.1 (tgt := 17) dX4_readBlock_12 (by decide) (fun hc => ?_) (fun hc => ?_)
    · have h := h.1 hc
      refine lv_iconst C.1 C.2.1 (v := (-1)) dX4_readBlock_17 rfl ?_
      refine lv_istore_n C.1 C.2.1 dX4_readBlock_18 rfl hl (Nat.le_of_ble_eq_true rfl) rfl (fun ls hl => ?_)
      have hl : lv_has ls 6 [(3, .int (-1)), (0, .ref (E.2.1 b)), (1, .int p1), (2, .int p2)] := hl
      refine lv_iconst C.1 C.2.1 (v := 0) dX4_readBlock_19 rfl ?_
      refine lv_istore C.1 C.2.1 dX4_readBlock_20 hl (Nat.le_of_ble_eq_true rfl) rfl (fun ls hl => ?_)
      have hl : lv_has ls 6 [(4, .int 0), (3, .int (-1)), (0, .ref (E.2.1 b)), (1, .int p1), (2, .int p2)] := hl
      obtain ⟨n, h⟩ := h
      exact tX4_readBlock_2_L22 hL C hr hlk hb n p1 p2 (-1) 0 st1 _ _ _ h (lv_sub hl [2, 3, 4, 1, 0] rfl) hP hS
    · have h := h.2 hc
      refine lv_iconst C.1 C.2.1 (v := 0) dX4_readBlock_15 rfl ?_
      exact z_ri C hr hlk (bz_n bz0) hP hS ⟨bz0, h⟩ dX4_readBlock_16
def rmX4_readBlockOf_3 : Room := { frames := 9, cells := 0, slots := 0, locals := 206 }
def wX4_readBlockOf_3 (b : Nat) (p1 : Int32) (p2 : Int32) (p3 : Nat) (st : St) (Q : Int32 → St → Prop) : Prop :=
  (kd (gR st b 1) = 1 ∧ ∀ c1, c1 = gR st b 1 → (∀ x2 : Int32, x2 = (gI st c1 15) → (wX4_readBlock_2 b p1 (p2 + 1) st (fun r4 st3 => ((p1 < 0 → Q r4 st3) ∧ (¬ p1 < 0 → ((60 ≤ p1 → Q r4 st3) ∧ (¬ 60 ≤ p1 → (kd (gR st3 b 1) = 1 ∧ ∀ c5, c5 = gR st3 b 1 → (wX1_firstSince c5 x2 st3 (fun r7 st6 => (vp_in p1 60 ∧ ∀ st8, st8 = uI st6 p3 (p1 : Int32).toNatClampNeg r7 → Q r4 st8))))))))))))
theorem hdX4_readBlockOf_3 : yX4_readBlockOf.cls = "PlankBridge$Reader" ∧ yX4_readBlockOf.cls ≠ "java/lang/invoke/MethodHandle" ∧ yX4_readBlockOf.cls ≠ "java/lang/invoke/VarHandle" ∧ (parseMethodDescriptor yX4_readBlockOf.desc).map (fun d => d.parameters.length) = some 3 := by decide +kernel
set_option maxHeartbeats 4000000 in
set_option maxRecDepth 100000 in
theorem tX4_readBlockOf_3 {l : Launch} {E : En0} {L : List Nat} (hE : EK E L) (hL : Cov 0 54 L) {b : Nat} {p1 : Int32} {p2 : Int32} {p3 : Nat} {st : St} {Q : Int32 → St → Prop} (hb : kd b = 3) (hp3 : kd p3 = 20) (lp3 : ln p3 = 60) (mp3 : p3 ∈ L) (h : wX4_readBlockOf_3 b p1 p2 p3 st Q) : Mz l yX4_readBlockOf cX4_readBlockOf 6 (some .boolean) rmX4_readBlockOf_3 E L [.ref (E.2.1 b), .int p1, .int p2, .ref (E.2.1 p3)] st (zI E L (fun r u => bz r ∧ Q r u)) := by
  refine Mz.of hE (by decide) (Nat.le_of_ble_eq_true rfl) ?_
  intro p e s m below meth c ls C hr hlk _ hl hP
  replace C : Cx E L "PlankBridge$Reader" cX4_readBlockOf 6 p s m _ c := C
  have hS : va_S (fA E L s.heap.size) s.heap s.heap [] := va_S.rf
  replace hl : lv_has ls 6 [(0, .ref (E.2.1 b)), (1, .int p1), (2, .int p2), (3, .ref (E.2.1 p3))] := hl
  unfold wX4_readBlockOf_3 at h
  refine lv_aload_n C.1 C.2.1 dX4_readBlockOf_0 rfl (lv_at hl 0 rfl) ?_
  refine gf3_1 C hP hb (m3 hb hL) q265 dX4_readBlockOf_1 ?_
  obtain ⟨hc1, h⟩ := h
  obtain ⟨c1, ec1⟩ : ∃ z, z = gR st b 1 := ⟨_, rfl⟩
  rw [← ec1]; rw [← ec1] at hc1; have h := h c1 ec1
  refine gn1_15 C hP hc1 (m1 hc1 hL) q222 dX4_readBlockOf_4 ?_
  refine lv_topi (fun x2 ex2 => ?_)
  have h := h x2 ex2
  refine lv_istore C.1 C.2.1 dX4_readBlockOf_7 hl (Nat.le_of_ble_eq_true rfl) rfl (fun ls hl => ?_)
  have hl : lv_has ls 6 [(4, .int x2), (0, .ref (E.2.1 b)), (1, .int p1), (2, .int p2), (3, .ref (E.2.1 p3))] := hl
  refine lv_aload_n C.1 C.2.1 dX4_readBlockOf_9 rfl (lv_at hl 1 rfl) ?_
  refine lv_iload_n C.1 C.2.1 dX4_readBlockOf_10 rfl (lv_at hl 2 rfl) ?_
  refine lv_iload_n C.1 C.2.1 dX4_readBlockOf_11 rfl (lv_at hl 3 rfl) ?_
  refine lv_iconst C.1 C.2.1 (v := 1) dX4_readBlockOf_12 rfl ?_
  refine lv_iadd C.1 C.2.1 dX4_readBlockOf_13  ?_
  refine z_ki hS (z_runV (As := [.int p1, .int (p2 + 1)]) (rest := []) C hP hS (m3 hb hL) (e3 hb) rfl (tX4_readBlock_2 C.2.2.2.2.2.2.1 (hL.mo (Nat.le_of_ble_eq_true rfl) (Nat.le_of_ble_eq_true rfl)) hb h) q569 q571 q6 q109 q572 hdX4_readBlock_2 ⟨Nat.le_of_ble_eq_true rfl, Nat.le_of_ble_eq_true rfl⟩ ⟨Nat.zero_le _, Nat.zero_le _⟩ rfl hl.1 rfl (lv_room (Nat.le_of_ble_eq_true rfl)) dX4_readBlockOf_14) (fun r4 st3 H locs h hP hS => ?_)
  obtain ⟨hr4, h⟩ := h
  refine lv_istore C.1 C.2.1 dX4_readBlockOf_17 hl (Nat.le_of_ble_eq_true rfl) rfl (fun ls hl => ?_)
  have hl : lv_has ls 6 [(5, .int r4), (4, .int x2), (0, .ref (E.2.1 b)), (1, .int p1), (2, .int p2), (3, .ref (E.2.1 p3))] := hl
  refine lv_iload_n C.1 C.2.1 dX4_readBlockOf_19 rfl (lv_at hl 3 rfl) ?_
  refine lv_if_lt C.1 C.2.1 (tgt := 41) dX4_readBlockOf_20 (by decide) (fun hc => ?_) (fun hc => ?_)
  · have h := h.1 hc
    refine lv_iload C.1 C.2.1 dX4_readBlockOf_41 (lv_at hl 0 rfl) ?_
    exact z_ri C hr hlk (bz_n hr4) hP hS ⟨hr4, h⟩ dX4_readBlockOf_43
  · have h := h.2 hc
    refine lv_iload_n C.1 C.2.1 dX4_readBlockOf_23 rfl (lv_at hl 3 rfl) ?_
    refine lv_aload_n C.1 C.2.1 dX4_readBlockOf_24 rfl (lv_at hl 5 rfl) ?_
    refine z_alen C hP hp3 lp3 mp3 (v := 60) rfl dX4_readBlockOf_25 ?_
    refine lv_icmp_ge C.1 C.2.1 (tgt := 41) dX4_readBlockOf_26 (by decide) (fun hc => ?_) (fun hc => ?_)
    · have h := h.1 hc
      refine lv_iload C.1 C.2.1 dX4_readBlockOf_41 (lv_at hl 0 rfl) ?_
      exact z_ri C hr hlk (bz_n hr4) hP hS ⟨hr4, h⟩ dX4_readBlockOf_43
    · have h := h.2 hc
      refine lv_aload_n C.1 C.2.1 dX4_readBlockOf_29 rfl (lv_at hl 5 rfl) ?_
      refine lv_iload_n C.1 C.2.1 dX4_readBlockOf_30 rfl (lv_at hl 3 rfl) ?_
      refine lv_aload_n C.1 C.2.1 dX4_readBlockOf_31 rfl (lv_at hl 2 rfl) ?_
      refine gf3_1 C hP hb (m3 hb hL) q265 dX4_readBlockOf_32 ?_
      obtain ⟨hc5, h⟩ := h
      obtain ⟨c5, ec5⟩ : ∃ z, z = gR st3 b 1 := ⟨_, rfl⟩
      rw [← ec5]; rw [← ec5] at hc5; have h := h c5 ec5
      refine lv_iload C.1 C.2.1 dX4_readBlockOf_35 (lv_at hl 1 rfl) ?_
      refine z_ki hS (z_runV (As := [.int x2]) (rest := [.int p1, .ref (E.2.1 p3)]) C hP hS (m1 hc5 hL) (e1 hc5) rfl (tX1_firstSince C.2.2.2.2.2.2.1 (hL.mo (Nat.le_of_ble_eq_true rfl) (Nat.le_of_ble_eq_true rfl)) hc5 h) q665 q666 q667 q107 q668 hdX1_firstSince ⟨Nat.le_of_ble_eq_true rfl, Nat.le_of_ble_eq_true rfl⟩ ⟨Nat.zero_le _, Nat.zero_le _⟩ rfl hl.1 rfl (lv_room (Nat.le_of_ble_eq_true rfl)) dX4_readBlockOf_37) (fun r7 st6 H locs h hP hS => ?_)
      obtain ⟨hi, h⟩ := h
      refine z_iast C hP hS hp3 lp3 mp3 hi dX4_readBlockOf_40 (fun H locs hP hS => ?_)
      obtain ⟨st8, est8⟩ : ∃ z, z = uI st6 p3 (p1 : Int32).toNatClampNeg r7 := ⟨_, rfl⟩
      rw [← est8] at hP; have h := h st8 est8
      refine lv_iload C.1 C.2.1 dX4_readBlockOf_41 (lv_at hl 0 rfl) ?_
      exact z_ri C hr hlk (bz_n hr4) hP hS ⟨hr4, h⟩ dX4_readBlockOf_43
def rmX4_readAct_3 : Room := { frames := 10, cells := 0, slots := 0, locals := 231 }
def wX4_readAct_3_L98 (b : Nat) (p1 : Int32) (p2 : Int32)   (st : St) (Q : Int32 → St → Prop) : Prop :=
  (wX4_take b (some 6) st (fun r41 st40 => ((r41 = 0 → Q 0 st40) ∧ (¬ r41 = 0 → Q 1 st40))))
def wX4_readAct_3_L114 (b : Nat) (p1 : Int32) (p2 : Int32)  (v3 : Option Nat) (st : St) (Q : Int32 → St → Prop) : Prop :=
  (wX4_take b v3 st (fun r43 st42 => ((r43 = 0 → Q 0 st42) ∧ (¬ r43 = 0 → (wX4_takeValue b st42 (fun r45 st44 => ((r45 = 0 → Q 0 st44) ∧ (¬ r45 = 0 → (wX4_take b (some 6) st44 (fun r47 st46 => ((r47 = 0 → Q 0 st46) ∧ (¬ r47 = 0 → Q 1 st46))))))))))))
def wX4_readAct_3_L280 (b : Nat) (p1 : Int32) (p2 : Int32)   (st : St) (Q : Int32 → St → Prop) : Prop :=
  Q 1 st
def wX4_readAct_3 (b : Nat) (p1 : Int32) (p2 : Int32) (st : St) (Q : Int32 → St → Prop) : Prop :=
  (∀ x1, x1 = gK st b 3 → (∃ k3, x1 = some k3 ∧ k3 < 37 ∧ (vp_in (Int32.ofNat k3) 37 ∧ ((((kSw (Int32.ofNat k3 : Int32).toNatClampNeg : Int32).toInt < 1 ∨ 7 < (kSw (Int32.ofNat k3 : Int32).toNatClampNeg : Int32).toInt) → Q 0 st) ∧ (((kSw (Int32.ofNat k3 : Int32).toNatClampNeg) = 1 → (wX4_take b x1 st (fun r6 st5 => ((r6 = 0 → Q 0 st5) ∧ (¬ r6 = 0 → (wX4_takeWho b st5 (fun r8 st7 => ((r8 = 0 → Q 0 st7) ∧ (¬ r8 = 0 → (kin (gK st7 b 3) ∧ (¬ (gK st7 b 3) = ((some 17)) → wX4_readAct_3_L98 b p1 p2 st7 Q) ∧ ((gK st7 b 3) = ((some 17)) → (wX4_take b (some 17) st7 (fun r11 st10 => ((r11 = 0 → Q 0 st10) ∧ (¬ r11 = 0 → (wX4_takeWho b st10 (fun r13 st12 => ((r13 = 0 → Q 0 st12) ∧ (¬ r13 = 0 → wX4_readAct_3_L98 b p1 p2 st12 Q))))))))))))))))))) ∧ ((kSw (Int32.ofNat k3 : Int32).toNatClampNeg) = 2 → wX4_readAct_3_L114 b p1 p2 x1 st Q) ∧ ((kSw (Int32.ofNat k3 : Int32).toNatClampNeg) = 3 → wX4_readAct_3_L114 b p1 p2 x1 st Q) ∧ ((kSw (Int32.ofNat k3 : Int32).toNatClampNeg) = 4 → wX4_readAct_3_L114 b p1 p2 x1 st Q) ∧ ((kSw (Int32.ofNat k3 : Int32).toNatClampNeg) = 5 → (wX4_take b x1 st (fun r15 st14 => ((r15 = 0 → Q 0 st14) ∧ (¬ r15 = 0 → (wX4_takePlanName b st14 (fun r17 st16 => ((r17 = 0 → Q 0 st16) ∧ (¬ r17 = 0 → (wX4_take b (some 6) st16 (fun r19 st18 => ((r19 = 0 → Q 0 st18) ∧ (¬ r19 = 0 → Q 1 st18))))))))))))) ∧ ((kSw (Int32.ofNat k3 : Int32).toNatClampNeg) = 6 → (wX4_take b x1 st (fun r21 st20 => ((r21 = 0 → Q 0 st20) ∧ (¬ r21 = 0 → (wX4_takeCompares b st20 (fun r23 st22 => ((r23 = 0 → Q 0 st22) ∧ (¬ r23 = 0 → (kd (gR st22 b 1) = 1 ∧ ∀ c24, c24 = gR st22 b 1 → (wX4_readBlockOf_3 b p1 p2 ((c24 + 10)) st22 (fun r26 st25 => ((r26 = 0 → Q 0 st25) ∧ (¬ r26 = 0 → Q 1 st25)))))))))))))) ∧ ((kSw (Int32.ofNat k3 : Int32).toNatClampNeg) = 7 → (wX4_take b x1 st (fun r28 st27 => ((r28 = 0 → Q 0 st27) ∧ (¬ r28 = 0 → (wX4_takeCompares b st27 (fun r30 st29 => ((r30 = 0 → Q 0 st29) ∧ (¬ r30 = 0 → (kd (gR st29 b 1) = 1 ∧ ∀ c31, c31 = gR st29 b 1 → (wX4_readBlockOf_3 b p1 p2 ((c31 + 10)) st29 (fun r33 st32 => ((r33 = 0 → Q 0 st32) ∧ (¬ r33 = 0 → (kin (gK st32 b 3) ∧ (¬ (gK st32 b 3) = ((some 24)) → wX4_readAct_3_L280 b p1 p2 st32 Q) ∧ ((gK st32 b 3) = ((some 24)) → (wX4_take b (some 24) st32 (fun r36 st35 => ((r36 = 0 → Q 0 st35) ∧ (¬ r36 = 0 → (kd (gR st35 b 1) = 1 ∧ ∀ c37, c37 = gR st35 b 1 → (wX4_readBlockOf_3 b p1 p2 ((c37 + 11)) st35 (fun r39 st38 => ((r39 = 0 → Q 0 st38) ∧ (¬ r39 = 0 → wX4_readAct_3_L280 b p1 p2 st38 Q))))))))))))))))))))))))))))))
theorem hdX4_readAct_3 : yX4_readAct.cls = "PlankBridge$Reader" ∧ yX4_readAct.cls ≠ "java/lang/invoke/MethodHandle" ∧ yX4_readAct.cls ≠ "java/lang/invoke/VarHandle" ∧ (parseMethodDescriptor yX4_readAct.desc).map (fun d => d.parameters.length) = some 2 := by decide +kernel
set_option maxHeartbeats 4000000 in
set_option maxRecDepth 100000 in
theorem tX4_readAct_3_L98 {l : Launch} {p : Program} {e : Env} {s : State} {m : MethodId} {args : Array Value} {below : List Frame} {meth : Method} {c : Code} {E : En0} {L : List Nat} (hL : Cov 0 54 L) (C : Cx E L "PlankBridge$Reader" cX4_readAct 4 p s m args c) (hr : meth.sig.returnType = (some .boolean)) (hlk : meth.locks = false) {b : Nat} {p1 : Int32} {p2 : Int32} {Q : Int32 → St → Prop} (hb : kd b = 3)   {st : St} (H : Heap) (locs : List Loc) (ls : Array Slot) (h : wX4_readAct_3_L98 b p1 p2 st Q) (hl : lv_has ls 4 [(0, .ref (E.2.1 b))]) (hP : va_P E.1 vwCl (wd E L st) H) (hS : va_S (fA E L s.heap.size) s.heap H locs) : W p l e rmX4_readAct_3 s m args below meth c H locs 0 0 (MQ below (zI E L (fun r u => bz r ∧ Q r u) (fA E L s.heap.size)) args s rmX4_readAct_3.cells rmX4_readAct_3.slots (fA E L s.heap.size)) (F0 m 98 ls []) := by
  unfold wX4_readAct_3_L98 at h
  refine lv_aload_n C.1 C.2.1 dX4_readAct_98 rfl (lv_at hl 0 rfl) ?_
  refine z_kst C hS (i := 6) (by decide) rfl q544 dX4_readAct_99 ?_
  refine z_ki hS (z_runV (As := [va_re E.2.2.1 (some 6)]) (rest := []) C hP hS (m3 hb hL) (e3 hb) rfl (tX4_take C.2.2.2.2.2.2.1 (hL.mo (Nat.le_of_ble_eq_true rfl) (Nat.le_of_ble_eq_true rfl)) hb h) q502 q504 q0 q109 q505 hdX4_take ⟨Nat.le_of_ble_eq_true rfl, Nat.le_of_ble_eq_true rfl⟩ ⟨Nat.zero_le _, Nat.zero_le _⟩ rfl hl.1 rfl (lv_room (Nat.le_of_ble_eq_true rfl)) dX4_readAct_102) (fun r41 st40 H locs h hP hS => ?_)
  obtain ⟨hr41, h⟩ := h
  refine lv_if_eq C.1 C.2.1 (tgt := 112) dX4_readAct_105 (by decide) (fun hc => ?_) (fun hc => ?_)
  · have h := h.1 hc
    refine lv_iconst C.1 C.2.1 (v := 0) dX4_readAct_112 rfl ?_
    exact z_ri C hr hlk (bz_n bz0) hP hS ⟨bz0, h⟩ dX4_readAct_113
  · have h := h.2 hc
    refine lv_iconst C.1 C.2.1 (v := 1) dX4_readAct_108 rfl ?_
    refine lv_goto C.1 C.2.1 (tgt := 113) dX4_readAct_109 (by decide) ?_
    exact z_ri C hr hlk (bz_n bz1) hP hS ⟨bz1, h⟩ dX4_readAct_113
set_option maxHeartbeats 4000000 in
set_option maxRecDepth 100000 in
theorem tX4_readAct_3_L114 {l : Launch} {p : Program} {e : Env} {s : State} {m : MethodId} {args : Array Value} {below : List Frame} {meth : Method} {c : Code} {E : En0} {L : List Nat} (hL : Cov 0 54 L) (C : Cx E L "PlankBridge$Reader" cX4_readAct 4 p s m args c) (hr : meth.sig.returnType = (some .boolean)) (hlk : meth.locks = false) {b : Nat} {p1 : Int32} {p2 : Int32} {Q : Int32 → St → Prop} (hb : kd b = 3) {v3 : Option Nat}  {st : St} (H : Heap) (locs : List Loc) (ls : Array Slot) (h : wX4_readAct_3_L114 b p1 p2 v3 st Q) (hl : lv_has ls 4 [(0, .ref (E.2.1 b)), (3, va_re E.2.2.1 v3)]) (hP : va_P E.1 vwCl (wd E L st) H) (hS : va_S (fA E L s.heap.size) s.heap H locs) : W p l e rmX4_readAct_3 s m args below meth c H locs 0 0 (MQ below (zI E L (fun r u => bz r ∧ Q r u) (fA E L s.heap.size)) args s rmX4_readAct_3.cells rmX4_readAct_3.slots (fA E L s.heap.size)) (F0 m 114 ls []) := by
  unfold wX4_readAct_3_L114 at h
  refine lv_aload_n C.1 C.2.1 dX4_readAct_114 rfl (lv_at hl 0 rfl) ?_
  refine z_aloadE_n C.1 C.2.1 dX4_readAct_115 rfl (lv_at hl 1 rfl) ?_
  refine z_ki hS (z_runV (As := [va_re E.2.2.1 v3]) (rest := []) C hP hS (m3 hb hL) (e3 hb) rfl (tX4_take C.2.2.2.2.2.2.1 (hL.mo (Nat.le_of_ble_eq_true rfl) (Nat.le_of_ble_eq_true rfl)) hb h) q502 q504 q0 q109 q505 hdX4_take ⟨Nat.le_of_ble_eq_true rfl, Nat.le_of_ble_eq_true rfl⟩ ⟨Nat.zero_le _, Nat.zero_le _⟩ rfl hl.1 rfl (lv_room (Nat.le_of_ble_eq_true rfl)) dX4_readAct_116) (fun r43 st42 H locs h hP hS => ?_)
  obtain ⟨hr43, h⟩ := h
  refine lv_if_eq C.1 C.2.1 (tgt := 143) dX4_readAct_119 (by decide) (fun hc => ?_) (fun hc => ?_)
  · have h := h.1 hc
    refine lv_iconst C.1 C.2.1 (v := 0) dX4_readAct_143 rfl ?_
    exact z_ri C hr hlk (bz_n bz0) hP hS ⟨bz0, h⟩ dX4_readAct_144
  · have h := h.2 hc
    refine lv_aload_n C.1 C.2.1 dX4_readAct_122 rfl (lv_at hl 0 rfl) ?_
    refine z_ki hS (z_runV (As := []) (rest := []) C hP hS (m3 hb hL) (e3 hb) rfl (tX4_takeValue C.2.2.2.2.2.2.1 (hL.mo (Nat.le_of_ble_eq_true rfl) (Nat.le_of_ble_eq_true rfl)) hb h) q619 q621 q9 q109 q622 hdX4_takeValue ⟨Nat.le_of_ble_eq_true rfl, Nat.le_of_ble_eq_true rfl⟩ ⟨Nat.zero_le _, Nat.zero_le _⟩ rfl hl.1 rfl (lv_room (Nat.le_of_ble_eq_true rfl)) dX4_readAct_123) (fun r45 st44 H locs h hP hS => ?_)
    obtain ⟨hr45, h⟩ := h
    refine lv_if_eq C.1 C.2.1 (tgt := 143) dX4_readAct_126 (by decide) (fun hc => ?_) (fun hc => ?_)
    · have h := h.1 hc
      refine lv_iconst C.1 C.2.1 (v := 0) dX4_readAct_143 rfl ?_
      exact z_ri C hr hlk (bz_n bz0) hP hS ⟨bz0, h⟩ dX4_readAct_144
    · have h := h.2 hc
      refine lv_aload_n C.1 C.2.1 dX4_readAct_129 rfl (lv_at hl 0 rfl) ?_
      refine z_kst C hS (i := 6) (by decide) rfl q544 dX4_readAct_130 ?_
      refine z_ki hS (z_runV (As := [va_re E.2.2.1 (some 6)]) (rest := []) C hP hS (m3 hb hL) (e3 hb) rfl (tX4_take C.2.2.2.2.2.2.1 (hL.mo (Nat.le_of_ble_eq_true rfl) (Nat.le_of_ble_eq_true rfl)) hb h) q502 q504 q0 q109 q505 hdX4_take ⟨Nat.le_of_ble_eq_true rfl, Nat.le_of_ble_eq_true rfl⟩ ⟨Nat.zero_le _, Nat.zero_le _⟩ rfl hl.1 rfl (lv_room (Nat.le_of_ble_eq_true rfl)) dX4_readAct_133) (fun r47 st46 H locs h hP hS => ?_)
      obtain ⟨hr47, h⟩ := h
      refine lv_if_eq C.1 C.2.1 (tgt := 143) dX4_readAct_136 (by decide) (fun hc => ?_) (fun hc => ?_)
      · have h := h.1 hc
        refine lv_iconst C.1 C.2.1 (v := 0) dX4_readAct_143 rfl ?_
        exact z_ri C hr hlk (bz_n bz0) hP hS ⟨bz0, h⟩ dX4_readAct_144
      · have h := h.2 hc
        refine lv_iconst C.1 C.2.1 (v := 1) dX4_readAct_139 rfl ?_
        refine lv_goto C.1 C.2.1 (tgt := 144) dX4_readAct_140 (by decide) ?_
        exact z_ri C hr hlk (bz_n bz1) hP hS ⟨bz1, h⟩ dX4_readAct_144
set_option maxHeartbeats 4000000 in
set_option maxRecDepth 100000 in
theorem tX4_readAct_3_L280 {l : Launch} {p : Program} {e : Env} {s : State} {m : MethodId} {args : Array Value} {below : List Frame} {meth : Method} {c : Code} {E : En0} {L : List Nat} (hL : Cov 0 54 L) (C : Cx E L "PlankBridge$Reader" cX4_readAct 4 p s m args c) (hr : meth.sig.returnType = (some .boolean)) (hlk : meth.locks = false) {b : Nat} {p1 : Int32} {p2 : Int32} {Q : Int32 → St → Prop} (hb : kd b = 3)   {st : St} (H : Heap) (locs : List Loc) (ls : Array Slot) (h : wX4_readAct_3_L280 b p1 p2 st Q) (hl : lv_has ls 4 []) (hP : va_P E.1 vwCl (wd E L st) H) (hS : va_S (fA E L s.heap.size) s.heap H locs) : W p l e rmX4_readAct_3 s m args below meth c H locs 0 0 (MQ below (zI E L (fun r u => bz r ∧ Q r u) (fA E L s.heap.size)) args s rmX4_readAct_3.cells rmX4_readAct_3.slots (fA E L s.heap.size)) (F0 m 280 ls []) := by
  unfold wX4_readAct_3_L280 at h
  refine lv_iconst C.1 C.2.1 (v := 1) dX4_readAct_280 rfl ?_
  refine lv_goto C.1 C.2.1 (tgt := 285) dX4_readAct_281 (by decide) ?_
  exact z_ri C hr hlk (bz_n bz1) hP hS ⟨bz1, h⟩ dX4_readAct_285
set_option maxHeartbeats 4000000 in
set_option maxRecDepth 100000 in
theorem tX4_readAct_3 {l : Launch} {E : En0} {L : List Nat} (hE : EK E L) (hL : Cov 0 54 L) {b : Nat} {p1 : Int32} {p2 : Int32} {st : St} {Q : Int32 → St → Prop} (hb : kd b = 3) (h : wX4_readAct_3 b p1 p2 st Q) : Mz l yX4_readAct cX4_readAct 4 (some .boolean) rmX4_readAct_3 E L [.ref (E.2.1 b), .int p1, .int p2] st (zI E L (fun r u => bz r ∧ Q r u)) := by
  refine Mz.of hE (by decide) (Nat.le_of_ble_eq_true rfl) ?_
  intro p e s m below meth c ls C hr hlk _ hl hP
  replace C : Cx E L "PlankBridge$Reader" cX4_readAct 4 p s m _ c := C
  have hS : va_S (fA E L s.heap.size) s.heap s.heap [] := va_S.rf
  replace hl : lv_has ls 4 [(0, .ref (E.2.1 b)), (1, .int p1), (2, .int p2)] := hl
  unfold wX4_readAct_3 at h
  refine lv_aload_n C.1 C.2.1 dX4_readAct_0 rfl (lv_at hl 0 rfl) ?_
  refine gf3_3 C hP hb (m3 hb hL) q267 dX4_readAct_1 ?_
  obtain ⟨x1, ex1⟩ : ∃ z, z = gK st b 3 := ⟨_, rfl⟩
  rw [← ex1]; have h := h x1 ex1
  refine z_astoreE_n C.1 C.2.1 dX4_readAct_4 rfl hl (Nat.le_of_ble_eq_true rfl) rfl (fun ls hl => ?_)
  have hl : lv_has ls 4 [(3, va_re E.2.2.1 x1), (0, .ref (E.2.1 b)), (1, .int p1), (2, .int p2)] := hl
  refine z_sw C hS q589 dX4_readAct_5 (fun t2 ht2 => ?_)
  refine z_aloadE_n C.1 C.2.1 dX4_readAct_8 rfl (lv_at hl 0 rfl) ?_
  obtain ⟨k3, ek3, lk3, h⟩ := h
  refine z_ordE C hP hS ek3 lk3 q591 ⟨Nat.le_of_ble_eq_true rfl, Nat.le_of_ble_eq_true rfl⟩ ⟨Nat.zero_le _, Nat.zero_le _⟩ hl.1 (lv_room (Nat.le_of_ble_eq_true rfl)) dX4_readAct_9 (fun H locs hP hS => ?_)
  obtain ⟨hi4, h⟩ := h
  refine va_ti C.1 C.2.1 ht2 hS hi4 rfl dX4_readAct_12 ?_
  rcases Classical.em ((kSw (Int32.ofNat k3 : Int32).toNatClampNeg : Int32).toInt < 1 ∨ 7 < (kSw (Int32.ofNat k3 : Int32).toNatClampNeg : Int32).toInt) with hx | hx
  · have h := h.1 hx
    refine lv_tableOut C.1 C.2.1 (tgt := 286) dX4_readAct_13 hx (by decide) ?_
    refine lv_iconst C.1 C.2.1 (v := 0) dX4_readAct_286 rfl ?_
    exact z_ri C hr hlk (bz_n bz0) hP hS ⟨bz0, h⟩ dX4_readAct_287
  · have h := h.2
    have hx : (kSw (Int32.ofNat k3 : Int32).toNatClampNeg : Int32).toInt = 1 ∨ (kSw (Int32.ofNat k3 : Int32).toNatClampNeg : Int32).toInt = 2 ∨ (kSw (Int32.ofNat k3 : Int32).toNatClampNeg : Int32).toInt = 3 ∨ (kSw (Int32.ofNat k3 : Int32).toNatClampNeg : Int32).toInt = 4 ∨ (kSw (Int32.ofNat k3 : Int32).toNatClampNeg : Int32).toInt = 5 ∨ (kSw (Int32.ofNat k3 : Int32).toNatClampNeg : Int32).toInt = 6 ∨ (kSw (Int32.ofNat k3 : Int32).toNatClampNeg : Int32).toInt = 7 := by omega
    rcases hx with hx | hx | hx | hx | hx | hx | hx
    · have h := h.1 (i32_eq (hx.trans (by decide)))
      refine lv_tableIn C.1 C.2.1 (off := 43) (tgt := 56) dX4_readAct_13 (by omega) (by omega) (by rw [hx]; rfl) (by decide) ?_
      refine lv_aload_n C.1 C.2.1 dX4_readAct_56 rfl (lv_at hl 1 rfl) ?_
      refine z_aloadE_n C.1 C.2.1 dX4_readAct_57 rfl (lv_at hl 0 rfl) ?_
      refine z_ki hS (z_runV (As := [va_re E.2.2.1 x1]) (rest := []) C hP hS (m3 hb hL) (e3 hb) rfl (tX4_take C.2.2.2.2.2.2.1 (hL.mo (Nat.le_of_ble_eq_true rfl) (Nat.le_of_ble_eq_true rfl)) hb h) q502 q504 q0 q109 q505 hdX4_take ⟨Nat.le_of_ble_eq_true rfl, Nat.le_of_ble_eq_true rfl⟩ ⟨Nat.zero_le _, Nat.zero_le _⟩ rfl hl.1 rfl (lv_room (Nat.le_of_ble_eq_true rfl)) dX4_readAct_58) (fun r6 st5 H locs h hP hS => ?_)
      obtain ⟨hr6, h⟩ := h
      refine lv_if_eq C.1 C.2.1 (tgt := 112) dX4_readAct_61 (by decide) (fun hc => ?_) (fun hc => ?_)
      · have h := h.1 hc
        refine lv_iconst C.1 C.2.1 (v := 0) dX4_readAct_112 rfl ?_
        exact z_ri C hr hlk (bz_n bz0) hP hS ⟨bz0, h⟩ dX4_readAct_113
      · have h := h.2 hc
        refine lv_aload_n C.1 C.2.1 dX4_readAct_64 rfl (lv_at hl 1 rfl) ?_
        refine z_ki hS (z_runV (As := []) (rest := []) C hP hS (m3 hb hL) (e3 hb) rfl (tX4_takeWho C.2.2.2.2.2.2.1 (hL.mo (Nat.le_of_ble_eq_true rfl) (Nat.le_of_ble_eq_true rfl)) hb h) q597 q599 q8 q109 q600 hdX4_takeWho ⟨Nat.le_of_ble_eq_true rfl, Nat.le_of_ble_eq_true rfl⟩ ⟨Nat.zero_le _, Nat.zero_le _⟩ rfl hl.1 rfl (lv_room (Nat.le_of_ble_eq_true rfl)) dX4_readAct_65) (fun r8 st7 H locs h hP hS => ?_)
        obtain ⟨hr8, h⟩ := h
        refine lv_if_eq C.1 C.2.1 (tgt := 112) dX4_readAct_68 (by decide) (fun hc => ?_) (fun hc => ?_)
        · have h := h.1 hc
          refine lv_iconst C.1 C.2.1 (v := 0) dX4_readAct_112 rfl ?_
          exact z_ri C hr hlk (bz_n bz0) hP hS ⟨bz0, h⟩ dX4_readAct_113
        · have h := h.2 hc
          refine lv_aload_n C.1 C.2.1 dX4_readAct_71 rfl (lv_at hl 1 rfl) ?_
          refine gf3_3 C hP hb (m3 hb hL) q267 dX4_readAct_72 ?_
          refine z_kst C hS (i := 17) (by decide) rfl q617 dX4_readAct_75 ?_
          obtain ⟨hk9, h⟩ := h
          refine z_acmp_ne C hk9 (kin_l (by decide)) (tgt := 98) dX4_readAct_78 (by decide) (fun hc => ?_) (fun hc => ?_)
          · have h := h.1 hc
            exact tX4_readAct_3_L98 hL C hr hlk hb _ _ _ h (lv_sub hl [1] rfl) hP hS
          · have h := h.2 hc
            refine lv_aload_n C.1 C.2.1 dX4_readAct_81 rfl (lv_at hl 1 rfl) ?_
            refine z_kst C hS (i := 17) (by decide) rfl q617 dX4_readAct_82 ?_
            refine z_ki hS (z_runV (As := [va_re E.2.2.1 (some 17)]) (rest := []) C hP hS (m3 hb hL) (e3 hb) rfl (tX4_take C.2.2.2.2.2.2.1 (hL.mo (Nat.le_of_ble_eq_true rfl) (Nat.le_of_ble_eq_true rfl)) hb h) q502 q504 q0 q109 q505 hdX4_take ⟨Nat.le_of_ble_eq_true rfl, Nat.le_of_ble_eq_true rfl⟩ ⟨Nat.zero_le _, Nat.zero_le _⟩ rfl hl.1 rfl (lv_room (Nat.le_of_ble_eq_true rfl)) dX4_readAct_85) (fun r11 st10 H locs h hP hS => ?_)
            obtain ⟨hr11, h⟩ := h
            refine lv_if_eq C.1 C.2.1 (tgt := 112) dX4_readAct_88 (by decide) (fun hc => ?_) (fun hc => ?_)
            · have h := h.1 hc
              refine lv_iconst C.1 C.2.1 (v := 0) dX4_readAct_112 rfl ?_
              exact z_ri C hr hlk (bz_n bz0) hP hS ⟨bz0, h⟩ dX4_readAct_113
            · have h := h.2 hc
              refine lv_aload_n C.1 C.2.1 dX4_readAct_91 rfl (lv_at hl 1 rfl) ?_
              refine z_ki hS (z_runV (As := []) (rest := []) C hP hS (m3 hb hL) (e3 hb) rfl (tX4_takeWho C.2.2.2.2.2.2.1 (hL.mo (Nat.le_of_ble_eq_true rfl) (Nat.le_of_ble_eq_true rfl)) hb h) q597 q599 q8 q109 q600 hdX4_takeWho ⟨Nat.le_of_ble_eq_true rfl, Nat.le_of_ble_eq_true rfl⟩ ⟨Nat.zero_le _, Nat.zero_le _⟩ rfl hl.1 rfl (lv_room (Nat.le_of_ble_eq_true rfl)) dX4_readAct_92) (fun r13 st12 H locs h hP hS => ?_)
              obtain ⟨hr13, h⟩ := h
              refine lv_if_eq C.1 C.2.1 (tgt := 112) dX4_readAct_95 (by decide) (fun hc => ?_) (fun hc => ?_)
              · have h := h.1 hc
                refine lv_iconst C.1 C.2.1 (v := 0) dX4_readAct_112 rfl ?_
                exact z_ri C hr hlk (bz_n bz0) hP hS ⟨bz0, h⟩ dX4_readAct_113
              · have h := h.2 hc
                exact tX4_readAct_3_L98 hL C hr hlk hb _ _ _ h (lv_sub hl [1] rfl) hP hS
    · have h := h.2.1 (i32_eq (hx.trans (by decide)))
      refine lv_tableIn C.1 C.2.1 (off := 101) (tgt := 114) dX4_readAct_13 (by omega) (by omega) (by rw [hx]; rfl) (by decide) ?_
      exact tX4_readAct_3_L114 hL C hr hlk hb _ _ _ h (lv_sub hl [1, 0] rfl) hP hS
    · have h := h.2.2.1 (i32_eq (hx.trans (by decide)))
      refine lv_tableIn C.1 C.2.1 (off := 101) (tgt := 114) dX4_readAct_13 (by omega) (by omega) (by rw [hx]; rfl) (by decide) ?_
      exact tX4_readAct_3_L114 hL C hr hlk hb _ _ _ h (lv_sub hl [1, 0] rfl) hP hS
    · have h := h.2.2.2.1 (i32_eq (hx.trans (by decide)))
      refine lv_tableIn C.1 C.2.1 (off := 101) (tgt := 114) dX4_readAct_13 (by omega) (by omega) (by rw [hx]; rfl) (by decide) ?_
      exact tX4_readAct_3_L114 hL C hr hlk hb _ _ _ h (lv_sub hl [1, 0] rfl) hP hS
    · have h := h.2.2.2.2.1 (i32_eq (hx.trans (by decide)))
      refine lv_tableIn C.1 C.2.1 (off := 132) (tgt := 145) dX4_readAct_13 (by omega) (by omega) (by rw [hx]; rfl) (by decide) ?_
      refine lv_aload_n C.1 C.2.1 dX4_readAct_145 rfl (lv_at hl 1 rfl) ?_
      refine z_aloadE_n C.1 C.2.1 dX4_readAct_146 rfl (lv_at hl 0 rfl) ?_
      refine z_ki hS (z_runV (As := [va_re E.2.2.1 x1]) (rest := []) C hP hS (m3 hb hL) (e3 hb) rfl (tX4_take C.2.2.2.2.2.2.1 (hL.mo (Nat.le_of_ble_eq_true rfl) (Nat.le_of_ble_eq_true rfl)) hb h) q502 q504 q0 q109 q505 hdX4_take ⟨Nat.le_of_ble_eq_true rfl, Nat.le_of_ble_eq_true rfl⟩ ⟨Nat.zero_le _, Nat.zero_le _⟩ rfl hl.1 rfl (lv_room (Nat.le_of_ble_eq_true rfl)) dX4_readAct_147) (fun r15 st14 H locs h hP hS => ?_)
      obtain ⟨hr15, h⟩ := h
      refine lv_if_eq C.1 C.2.1 (tgt := 174) dX4_readAct_150 (by decide) (fun hc => ?_) (fun hc => ?_)
      · have h := h.1 hc
        refine lv_iconst C.1 C.2.1 (v := 0) dX4_readAct_174 rfl ?_
        exact z_ri C hr hlk (bz_n bz0) hP hS ⟨bz0, h⟩ dX4_readAct_175
      · have h := h.2 hc
        refine lv_aload_n C.1 C.2.1 dX4_readAct_153 rfl (lv_at hl 1 rfl) ?_
        refine z_ki hS (z_runV (As := []) (rest := []) C hP hS (m3 hb hL) (e3 hb) rfl (tX4_takePlanName C.2.2.2.2.2.2.1 (hL.mo (Nat.le_of_ble_eq_true rfl) (Nat.le_of_ble_eq_true rfl)) hb h) q641 q643 q10 q109 q644 hdX4_takePlanName ⟨Nat.le_of_ble_eq_true rfl, Nat.le_of_ble_eq_true rfl⟩ ⟨Nat.zero_le _, Nat.zero_le _⟩ rfl hl.1 rfl (lv_room (Nat.le_of_ble_eq_true rfl)) dX4_readAct_154) (fun r17 st16 H locs h hP hS => ?_)
        obtain ⟨hr17, h⟩ := h
        refine lv_if_eq C.1 C.2.1 (tgt := 174) dX4_readAct_157 (by decide) (fun hc => ?_) (fun hc => ?_)
        · have h := h.1 hc
          refine lv_iconst C.1 C.2.1 (v := 0) dX4_readAct_174 rfl ?_
          exact z_ri C hr hlk (bz_n bz0) hP hS ⟨bz0, h⟩ dX4_readAct_175
        · have h := h.2 hc
          refine lv_aload_n C.1 C.2.1 dX4_readAct_160 rfl (lv_at hl 1 rfl) ?_
          refine z_kst C hS (i := 6) (by decide) rfl q544 dX4_readAct_161 ?_
          refine z_ki hS (z_runV (As := [va_re E.2.2.1 (some 6)]) (rest := []) C hP hS (m3 hb hL) (e3 hb) rfl (tX4_take C.2.2.2.2.2.2.1 (hL.mo (Nat.le_of_ble_eq_true rfl) (Nat.le_of_ble_eq_true rfl)) hb h) q502 q504 q0 q109 q505 hdX4_take ⟨Nat.le_of_ble_eq_true rfl, Nat.le_of_ble_eq_true rfl⟩ ⟨Nat.zero_le _, Nat.zero_le _⟩ rfl hl.1 rfl (lv_room (Nat.le_of_ble_eq_true rfl)) dX4_readAct_164) (fun r19 st18 H locs h hP hS => ?_)
          obtain ⟨hr19, h⟩ := h
          refine lv_if_eq C.1 C.2.1 (tgt := 174) dX4_readAct_167 (by decide) (fun hc => ?_) (fun hc => ?_)
          · have h := h.1 hc
            refine lv_iconst C.1 C.2.1 (v := 0) dX4_readAct_174 rfl ?_
            exact z_ri C hr hlk (bz_n bz0) hP hS ⟨bz0, h⟩ dX4_readAct_175
          · have h := h.2 hc
            refine lv_iconst C.1 C.2.1 (v := 1) dX4_readAct_170 rfl ?_
            refine lv_goto C.1 C.2.1 (tgt := 175) dX4_readAct_171 (by decide) ?_
            exact z_ri C hr hlk (bz_n bz1) hP hS ⟨bz1, h⟩ dX4_readAct_175
    · have h := h.2.2.2.2.2.1 (i32_eq (hx.trans (by decide)))
      refine lv_tableIn C.1 C.2.1 (off := 163) (tgt := 176) dX4_readAct_13 (by omega) (by omega) (by rw [hx]; rfl) (by decide) ?_
      refine lv_aload_n C.1 C.2.1 dX4_readAct_176 rfl (lv_at hl 1 rfl) ?_
      refine z_aloadE_n C.1 C.2.1 dX4_readAct_177 rfl (lv_at hl 0 rfl) ?_
      refine z_ki hS (z_runV (As := [va_re E.2.2.1 x1]) (rest := []) C hP hS (m3 hb hL) (e3 hb) rfl (tX4_take C.2.2.2.2.2.2.1 (hL.mo (Nat.le_of_ble_eq_true rfl) (Nat.le_of_ble_eq_true rfl)) hb h) q502 q504 q0 q109 q505 hdX4_take ⟨Nat.le_of_ble_eq_true rfl, Nat.le_of_ble_eq_true rfl⟩ ⟨Nat.zero_le _, Nat.zero_le _⟩ rfl hl.1 rfl (lv_room (Nat.le_of_ble_eq_true rfl)) dX4_readAct_178) (fun r21 st20 H locs h hP hS => ?_)
      obtain ⟨hr21, h⟩ := h
      refine lv_if_eq C.1 C.2.1 (tgt := 211) dX4_readAct_181 (by decide) (fun hc => ?_) (fun hc => ?_)
      · have h := h.1 hc
        refine lv_iconst C.1 C.2.1 (v := 0) dX4_readAct_211 rfl ?_
        exact z_ri C hr hlk (bz_n bz0) hP hS ⟨bz0, h⟩ dX4_readAct_212
      · have h := h.2 hc
        refine lv_aload_n C.1 C.2.1 dX4_readAct_184 rfl (lv_at hl 1 rfl) ?_
        refine z_ki hS (z_runV (As := []) (rest := []) C hP hS (m3 hb hL) (e3 hb) rfl (tX4_takeCompares C.2.2.2.2.2.2.1 (hL.mo (Nat.le_of_ble_eq_true rfl) (Nat.le_of_ble_eq_true rfl)) hb h) q645 q647 q11 q109 q648 hdX4_takeCompares ⟨Nat.le_of_ble_eq_true rfl, Nat.le_of_ble_eq_true rfl⟩ ⟨Nat.zero_le _, Nat.zero_le _⟩ rfl hl.1 rfl (lv_room (Nat.le_of_ble_eq_true rfl)) dX4_readAct_185) (fun r23 st22 H locs h hP hS => ?_)
        obtain ⟨hr23, h⟩ := h
        refine lv_if_eq C.1 C.2.1 (tgt := 211) dX4_readAct_188 (by decide) (fun hc => ?_) (fun hc => ?_)
        · have h := h.1 hc
          refine lv_iconst C.1 C.2.1 (v := 0) dX4_readAct_211 rfl ?_
          exact z_ri C hr hlk (bz_n bz0) hP hS ⟨bz0, h⟩ dX4_readAct_212
        · have h := h.2 hc
          refine lv_aload_n C.1 C.2.1 dX4_readAct_191 rfl (lv_at hl 1 rfl) ?_
          refine lv_iload_n C.1 C.2.1 dX4_readAct_192 rfl (lv_at hl 2 rfl) ?_
          refine lv_iload_n C.1 C.2.1 dX4_readAct_193 rfl (lv_at hl 3 rfl) ?_
          refine lv_aload_n C.1 C.2.1 dX4_readAct_194 rfl (lv_at hl 1 rfl) ?_
          refine gf3_1 C hP hb (m3 hb hL) q265 dX4_readAct_195 ?_
          obtain ⟨hc24, h⟩ := h
          obtain ⟨c24, ec24⟩ : ∃ z, z = gR st22 b 1 := ⟨_, rfl⟩
          rw [← ec24]; rw [← ec24] at hc24; have h := h c24 ec24
          refine gn1_13 C hP hc24 (m1 hc24 hL) q217 dX4_readAct_198 ?_
          refine z_ki hS (z_runV (As := [.int p1, .int p2, .ref (E.2.1 ((c24 + 10)))]) (rest := []) C hP hS (m3 hb hL) (e3 hb) rfl (tX4_readBlockOf_3 C.2.2.2.2.2.2.1 (hL.mo (Nat.le_of_ble_eq_true rfl) (Nat.le_of_ble_eq_true rfl)) hb (k1_10 hc24) (l1_10 hc24) (m1_10 hc24 hL) h) q661 q663 q12 q109 q664 hdX4_readBlockOf_3 ⟨Nat.le_of_ble_eq_true rfl, Nat.le_of_ble_eq_true rfl⟩ ⟨Nat.zero_le _, Nat.zero_le _⟩ rfl hl.1 rfl (lv_room (Nat.le_of_ble_eq_true rfl)) dX4_readAct_201) (fun r26 st25 H locs h hP hS => ?_)
          obtain ⟨hr26, h⟩ := h
          refine lv_if_eq C.1 C.2.1 (tgt := 211) dX4_readAct_204 (by decide) (fun hc => ?_) (fun hc => ?_)
          · have h := h.1 hc
            refine lv_iconst C.1 C.2.1 (v := 0) dX4_readAct_211 rfl ?_
            exact z_ri C hr hlk (bz_n bz0) hP hS ⟨bz0, h⟩ dX4_readAct_212
          · have h := h.2 hc
            refine lv_iconst C.1 C.2.1 (v := 1) dX4_readAct_207 rfl ?_
            refine lv_goto C.1 C.2.1 (tgt := 212) dX4_readAct_208 (by decide) ?_
            exact z_ri C hr hlk (bz_n bz1) hP hS ⟨bz1, h⟩ dX4_readAct_212
    · have h := h.2.2.2.2.2.2 (i32_eq (hx.trans (by decide)))
      refine lv_tableIn C.1 C.2.1 (off := 200) (tgt := 213) dX4_readAct_13 (by omega) (by omega) (by rw [hx]; rfl) (by decide) ?_
      refine lv_aload_n C.1 C.2.1 dX4_readAct_213 rfl (lv_at hl 1 rfl) ?_
      refine z_aloadE_n C.1 C.2.1 dX4_readAct_214 rfl (lv_at hl 0 rfl) ?_
      refine z_ki hS (z_runV (As := [va_re E.2.2.1 x1]) (rest := []) C hP hS (m3 hb hL) (e3 hb) rfl (tX4_take C.2.2.2.2.2.2.1 (hL.mo (Nat.le_of_ble_eq_true rfl) (Nat.le_of_ble_eq_true rfl)) hb h) q502 q504 q0 q109 q505 hdX4_take ⟨Nat.le_of_ble_eq_true rfl, Nat.le_of_ble_eq_true rfl⟩ ⟨Nat.zero_le _, Nat.zero_le _⟩ rfl hl.1 rfl (lv_room (Nat.le_of_ble_eq_true rfl)) dX4_readAct_215) (fun r28 st27 H locs h hP hS => ?_)
      obtain ⟨hr28, h⟩ := h
      refine lv_if_eq C.1 C.2.1 (tgt := 284) dX4_readAct_218 (by decide) (fun hc => ?_) (fun hc => ?_)
      · have h := h.1 hc
        refine lv_iconst C.1 C.2.1 (v := 0) dX4_readAct_284 rfl ?_
        exact z_ri C hr hlk (bz_n bz0) hP hS ⟨bz0, h⟩ dX4_readAct_285
      · have h := h.2 hc
        refine lv_aload_n C.1 C.2.1 dX4_readAct_221 rfl (lv_at hl 1 rfl) ?_
        refine z_ki hS (z_runV (As := []) (rest := []) C hP hS (m3 hb hL) (e3 hb) rfl (tX4_takeCompares C.2.2.2.2.2.2.1 (hL.mo (Nat.le_of_ble_eq_true rfl) (Nat.le_of_ble_eq_true rfl)) hb h) q645 q647 q11 q109 q648 hdX4_takeCompares ⟨Nat.le_of_ble_eq_true rfl, Nat.le_of_ble_eq_true rfl⟩ ⟨Nat.zero_le _, Nat.zero_le _⟩ rfl hl.1 rfl (lv_room (Nat.le_of_ble_eq_true rfl)) dX4_readAct_222) (fun r30 st29 H locs h hP hS => ?_)
        obtain ⟨hr30, h⟩ := h
        refine lv_if_eq C.1 C.2.1 (tgt := 284) dX4_readAct_225 (by decide) (fun hc => ?_) (fun hc => ?_)
        · have h := h.1 hc
          refine lv_iconst C.1 C.2.1 (v := 0) dX4_readAct_284 rfl ?_
          exact z_ri C hr hlk (bz_n bz0) hP hS ⟨bz0, h⟩ dX4_readAct_285
        · have h := h.2 hc
          refine lv_aload_n C.1 C.2.1 dX4_readAct_228 rfl (lv_at hl 1 rfl) ?_
          refine lv_iload_n C.1 C.2.1 dX4_readAct_229 rfl (lv_at hl 2 rfl) ?_
          refine lv_iload_n C.1 C.2.1 dX4_readAct_230 rfl (lv_at hl 3 rfl) ?_
          refine lv_aload_n C.1 C.2.1 dX4_readAct_231 rfl (lv_at hl 1 rfl) ?_
          refine gf3_1 C hP hb (m3 hb hL) q265 dX4_readAct_232 ?_
          obtain ⟨hc31, h⟩ := h
          obtain ⟨c31, ec31⟩ : ∃ z, z = gR st29 b 1 := ⟨_, rfl⟩
          rw [← ec31]; rw [← ec31] at hc31; have h := h c31 ec31
          refine gn1_13 C hP hc31 (m1 hc31 hL) q217 dX4_readAct_235 ?_
          refine z_ki hS (z_runV (As := [.int p1, .int p2, .ref (E.2.1 ((c31 + 10)))]) (rest := []) C hP hS (m3 hb hL) (e3 hb) rfl (tX4_readBlockOf_3 C.2.2.2.2.2.2.1 (hL.mo (Nat.le_of_ble_eq_true rfl) (Nat.le_of_ble_eq_true rfl)) hb (k1_10 hc31) (l1_10 hc31) (m1_10 hc31 hL) h) q661 q663 q12 q109 q664 hdX4_readBlockOf_3 ⟨Nat.le_of_ble_eq_true rfl, Nat.le_of_ble_eq_true rfl⟩ ⟨Nat.zero_le _, Nat.zero_le _⟩ rfl hl.1 rfl (lv_room (Nat.le_of_ble_eq_true rfl)) dX4_readAct_238) (fun r33 st32 H locs h hP hS => ?_)
          obtain ⟨hr33, h⟩ := h
          refine lv_if_eq C.1 C.2.1 (tgt := 284) dX4_readAct_241 (by decide) (fun hc => ?_) (fun hc => ?_)
          · have h := h.1 hc
            refine lv_iconst C.1 C.2.1 (v := 0) dX4_readAct_284 rfl ?_
            exact z_ri C hr hlk (bz_n bz0) hP hS ⟨bz0, h⟩ dX4_readAct_285
          · have h := h.2 hc
            refine lv_aload_n C.1 C.2.1 dX4_readAct_244 rfl (lv_at hl 1 rfl) ?_
            refine gf3_3 C hP hb (m3 hb hL) q267 dX4_readAct_245 ?_
            refine z_kst C hS (i := 24) (by decide) rfl q669 dX4_readAct_248 ?_
            obtain ⟨hk34, h⟩ := h
            refine z_acmp_ne C hk34 (kin_l (by decide)) (tgt := 280) dX4_readAct_251 (by decide) (fun hc => ?_) (fun hc => ?_)
            · have h := h.1 hc
              exact tX4_readAct_3_L280 hL C hr hlk hb _ _ _ h (lv_sub hl [] rfl) hP hS
            · have h := h.2 hc
              refine lv_aload_n C.1 C.2.1 dX4_readAct_254 rfl (lv_at hl 1 rfl) ?_
              refine z_kst C hS (i := 24) (by decide) rfl q669 dX4_readAct_255 ?_
              refine z_ki hS (z_runV (As := [va_re E.2.2.1 (some 24)]) (rest := []) C hP hS (m3 hb hL) (e3 hb) rfl (tX4_take C.2.2.2.2.2.2.1 (hL.mo (Nat.le_of_ble_eq_true rfl) (Nat.le_of_ble_eq_true rfl)) hb h) q502 q504 q0 q109 q505 hdX4_take ⟨Nat.le_of_ble_eq_true rfl, Nat.le_of_ble_eq_true rfl⟩ ⟨Nat.zero_le _, Nat.zero_le _⟩ rfl hl.1 rfl (lv_room (Nat.le_of_ble_eq_true rfl)) dX4_readAct_258) (fun r36 st35 H locs h hP hS => ?_)
              obtain ⟨hr36, h⟩ := h
              refine lv_if_eq C.1 C.2.1 (tgt := 284) dX4_readAct_261 (by decide) (fun hc => ?_) (fun hc => ?_)
              · have h := h.1 hc
                refine lv_iconst C.1 C.2.1 (v := 0) dX4_readAct_284 rfl ?_
                exact z_ri C hr hlk (bz_n bz0) hP hS ⟨bz0, h⟩ dX4_readAct_285
              · have h := h.2 hc
                refine lv_aload_n C.1 C.2.1 dX4_readAct_264 rfl (lv_at hl 1 rfl) ?_
                refine lv_iload_n C.1 C.2.1 dX4_readAct_265 rfl (lv_at hl 2 rfl) ?_
                refine lv_iload_n C.1 C.2.1 dX4_readAct_266 rfl (lv_at hl 3 rfl) ?_
                refine lv_aload_n C.1 C.2.1 dX4_readAct_267 rfl (lv_at hl 1 rfl) ?_
                refine gf3_1 C hP hb (m3 hb hL) q265 dX4_readAct_268 ?_
                obtain ⟨hc37, h⟩ := h
                obtain ⟨c37, ec37⟩ : ∃ z, z = gR st35 b 1 := ⟨_, rfl⟩
                rw [← ec37]; rw [← ec37] at hc37; have h := h c37 ec37
                refine gn1_14 C hP hc37 (m1 hc37 hL) q220 dX4_readAct_271 ?_
                refine z_ki hS (z_runV (As := [.int p1, .int p2, .ref (E.2.1 ((c37 + 11)))]) (rest := []) C hP hS (m3 hb hL) (e3 hb) rfl (tX4_readBlockOf_3 C.2.2.2.2.2.2.1 (hL.mo (Nat.le_of_ble_eq_true rfl) (Nat.le_of_ble_eq_true rfl)) hb (k1_11 hc37) (l1_11 hc37) (m1_11 hc37 hL) h) q661 q663 q12 q109 q664 hdX4_readBlockOf_3 ⟨Nat.le_of_ble_eq_true rfl, Nat.le_of_ble_eq_true rfl⟩ ⟨Nat.zero_le _, Nat.zero_le _⟩ rfl hl.1 rfl (lv_room (Nat.le_of_ble_eq_true rfl)) dX4_readAct_274) (fun r39 st38 H locs h hP hS => ?_)
                obtain ⟨hr39, h⟩ := h
                refine lv_if_eq C.1 C.2.1 (tgt := 284) dX4_readAct_277 (by decide) (fun hc => ?_) (fun hc => ?_)
                · have h := h.1 hc
                  refine lv_iconst C.1 C.2.1 (v := 0) dX4_readAct_284 rfl ?_
                  exact z_ri C hr hlk (bz_n bz0) hP hS ⟨bz0, h⟩ dX4_readAct_285
                · have h := h.2 hc
                  exact tX4_readAct_3_L280 hL C hr hlk hb _ _ _ h (lv_sub hl [] rfl) hP hS
def rmX4_readBlock_3 : Room := { frames := 11, cells := 0, slots := 0, locals := 254 }
def wX4_readBlock_3_L87 (b : Nat) (p1 : Int32) (p2 : Int32) (R22 : Int32 × Int32 × Int32 × Int32 × St → Prop) (v1 : Int32) (v2 : Int32) (v4 : Int32) (v5 : Int32) (st : St) (Q : Int32 → St → Prop) : Prop :=
  (wX4_readAct_3 b v5 v2 st (fun r16 st15 => ((¬ r16 = 0 → (∀ x17 : Int32, x17 = v4 + 1 → R22 (v1, v2, v5, x17, st15))) ∧ (r16 = 0 → Q 0 st15))))
def wX4_readBlock_3_L65 (b : Nat) (p1 : Int32) (p2 : Int32) (R22 : Int32 × Int32 × Int32 × Int32 × St → Prop) (v1 : Int32) (v2 : Int32) (v3 : Int32) (v4 : Int32) (v5 : Int32) (st : St) (Q : Int32 → St → Prop) : Prop :=
  (kd (gR st b 1) = 1 ∧ ∀ c10, c10 = gR st b 1 → (wX1_hasAct c10 v3 st (fun r12 st11 => ((r12 = 0 → wX4_readBlock_3_L87 b p1 p2 R22 v1 v2 v4 v5 st11 Q) ∧ (¬ r12 = 0 → (kd (gR st11 b 1) = 1 ∧ ∀ c13, c13 = gR st11 b 1 → (vp_in v3 60 ∧ ∀ st14, st14 = uI st11 (c13 + 9) (v3 : Int32).toNatClampNeg v5 → wX4_readBlock_3_L87 b p1 p2 R22 v1 v2 v4 v5 st14 Q)))))))
def wX4_readBlock_3_L108 (b : Nat) (p1 : Int32) (p2 : Int32)   (st : St) (Q : Int32 → St → Prop) : Prop :=
  (wX4_take b (some 5) st (fun r9 st8 => Q r9 st8))
def wX4_readBlock_3_L22 (b : Nat) (p1 : Int32) (p2 : Int32)  (R22 : Int32 × Int32 × Int32 × Int32 × St → Prop) (v1 : Int32) (v2 : Int32) (v3 : Int32) (v4 : Int32) (st : St) (Q : Int32 → St → Prop) : Prop :=
  ((400 ≤ v4 → wX4_readBlock_3_L108 b p1 p2 st Q) ∧ (¬ 400 ≤ v4 → (kin (gK st b 3) ∧ ((gK st b 3) = ((some 5)) → wX4_readBlock_3_L108 b p1 p2 st Q) ∧ (¬ (gK st b 3) = ((some 5)) → (kd (gR st b 1) = 1 ∧ ∀ c4, c4 = gR st b 1 → (wX1_addAct c4 (gI st b 2) v1 st (fun r6 st5 => ((¬ r6 = (-1) → wX4_readBlock_3_L65 b p1 p2 R22 v1 v2 v3 v4 r6 st5 Q) ∧ (r6 = (-1) → (wX4_mark b 4 st5 (fun st7 => wX4_readBlock_3_L65 b p1 p2 R22 v1 v2 v3 v4 r6 st7 Q)))))))))))
def wX4_readBlock_3 (b : Nat) (p1 : Int32) (p2 : Int32) (st : St) (Q : Int32 → St → Prop) : Prop :=
  ((3 < p2 → Q 0 st) ∧ (¬ 3 < p2 → (wX4_take b (some 4) st (fun r2 st1 => ((¬ r2 = 0 → (∃ n, lp (fun R s => wX4_readBlock_3_L22 b p1 p2 R s.1 s.2.1 s.2.2.1 s.2.2.2.1 s.2.2.2.2 Q) n (p1, p2, (-1), 0, st1))) ∧ (r2 = 0 → Q 0 st1))))))
theorem hdX4_readBlock_3 : yX4_readBlock.cls = "PlankBridge$Reader" ∧ yX4_readBlock.cls ≠ "java/lang/invoke/MethodHandle" ∧ yX4_readBlock.cls ≠ "java/lang/invoke/VarHandle" ∧ (parseMethodDescriptor yX4_readBlock.desc).map (fun d => d.parameters.length) = some 2 := by decide +kernel
set_option maxHeartbeats 4000000 in
set_option maxRecDepth 100000 in
theorem tX4_readBlock_3_L87 {l : Launch} {p : Program} {e : Env} {s : State} {m : MethodId} {args : Array Value} {below : List Frame} {meth : Method} {c : Code} {E : En0} {L : List Nat} (hL : Cov 0 54 L) (C : Cx E L "PlankBridge$Reader" cX4_readBlock 6 p s m args c) (hr : meth.sig.returnType = (some .boolean)) (hlk : meth.locks = false) {b : Nat} {p1 : Int32} {p2 : Int32} {Q : Int32 → St → Prop} (hb : kd b = 3) {R22 : Int32 × Int32 × Int32 × Int32 × St → Prop} (hR22 : ∀ (v1 : Int32) (v2 : Int32) (v3 : Int32) (v4 : Int32) (st : St), ∀ (H : Heap) (locs : List Loc) (ls : Array Slot), R22 (v1, v2, v3, v4, st) → lv_has ls 6 [(0, .ref (E.2.1 b)), (1, .int v1), (2, .int v2), (3, .int v3), (4, .int v4)] → va_P E.1 vwCl (wd E L st) H → va_S (fA E L s.heap.size) s.heap H locs → W p l e rmX4_readBlock_3 s m args below meth c H locs 0 0 (MQ below (zI E L (fun r u => bz r ∧ Q r u) (fA E L s.heap.size)) args s rmX4_readBlock_3.cells rmX4_readBlock_3.slots (fA E L s.heap.size)) (F0 m 22 ls [])) {v1 : Int32} {v2 : Int32} {v4 : Int32} {v5 : Int32}  {st : St} (H : Heap) (locs : List Loc) (ls : Array Slot) (h : wX4_readBlock_3_L87 b p1 p2 R22 v1 v2 v4 v5 st Q) (hl : lv_has ls 6 [(0, .ref (E.2.1 b)), (1, .int v1), (2, .int v2), (4, .int v4), (5, .int v5)]) (hP : va_P E.1 vwCl (wd E L st) H) (hS : va_S (fA E L s.heap.size) s.heap H locs) : W p l e rmX4_readBlock_3 s m args below meth c H locs 0 0 (MQ below (zI E L (fun r u => bz r ∧ Q r u) (fA E L s.heap.size)) args s rmX4_readBlock_3.cells rmX4_readBlock_3.slots (fA E L s.heap.size)) (F0 m 87 ls []) := by
  unfold wX4_readBlock_3_L87 at h
  refine lv_iload C.1 C.2.1 dX4_readBlock_87 (lv_at hl 4 rfl) ?_
  refine lv_istore_n C.1 C.2.1 dX4_readBlock_89 rfl hl (Nat.le_of_ble_eq_true rfl) rfl (fun ls hl => ?_)
  have hl : lv_has ls 6 [(3, .int v5), (0, .ref (E.2.1 b)), (1, .int v1), (2, .int v2), (4, .int v4), (5, .int v5)] := hl
  refine lv_aload_n C.1 C.2.1 dX4_readBlock_90 rfl (lv_at hl 1 rfl) ?_
  refine lv_iload C.1 C.2.1 dX4_readBlock_91 (lv_at hl 5 rfl) ?_
  refine lv_iload_n C.1 C.2.1 dX4_readBlock_93 rfl (lv_at hl 3 rfl) ?_
  refine z_ki hS (z_runV (As := [.int v5, .int v2]) (rest := []) C hP hS (m3 hb hL) (e3 hb) rfl (tX4_readAct_3 C.2.2.2.2.2.2.1 (hL.mo (Nat.le_of_ble_eq_true rfl) (Nat.le_of_ble_eq_true rfl)) hb h) q585 q587 q7 q109 q588 hdX4_readAct_3 ⟨Nat.le_of_ble_eq_true rfl, Nat.le_of_ble_eq_true rfl⟩ ⟨Nat.zero_le _, Nat.zero_le _⟩ rfl hl.1 rfl (lv_room (Nat.le_of_ble_eq_true rfl)) dX4_readBlock_94) (fun r16 st15 H locs h hP hS => ?_)
  obtain ⟨hr16, h⟩ := h
  refine lv_if_ne C.1 C.2.1 (tgt := 102) dX4_readBlock_97 (by decide) (fun hc => ?_) (fun hc => ?_)
  · have h := h.1 hc
    obtain ⟨x17, ex17⟩ : ∃ z, z = v4 + 1 := ⟨_, rfl⟩
    have h := h x17 ex17
    refine lv_iinc C.1 C.2.1 dX4_readBlock_102 hl (k := 4) rfl ex17.symm (Nat.le_of_ble_eq_true rfl) rfl (fun ls hl => ?_)
    have hl : lv_has ls 6 [(4, .int x17), (3, .int v5), (0, .ref (E.2.1 b)), (1, .int v1), (2, .int v2), (5, .int v5)] := hl
    refine lv_goto C.1 C.2.1 (tgt := 22) dX4_readBlock_105 (by decide) ?_
    exact hR22 v1 v2 v5 x17 st15 _ _ _ h (lv_sub hl [2, 3, 4, 1, 0] rfl) hP hS
  · have h := h.2 hc
    refine lv_iconst C.1 C.2.1 (v := 0) dX4_readBlock_100 rfl ?_
    exact z_ri C hr hlk (bz_n bz0) hP hS ⟨bz0, h⟩ dX4_readBlock_101
set_option maxHeartbeats 4000000 in
set_option maxRecDepth 100000 in
theorem tX4_readBlock_3_L65 {l : Launch} {p : Program} {e : Env} {s : State} {m : MethodId} {args : Array Value} {below : List Frame} {meth : Method} {c : Code} {E : En0} {L : List Nat} (hL : Cov 0 54 L) (C : Cx E L "PlankBridge$Reader" cX4_readBlock 6 p s m args c) (hr : meth.sig.returnType = (some .boolean)) (hlk : meth.locks = false) {b : Nat} {p1 : Int32} {p2 : Int32} {Q : Int32 → St → Prop} (hb : kd b = 3) {R22 : Int32 × Int32 × Int32 × Int32 × St → Prop} (hR22 : ∀ (v1 : Int32) (v2 : Int32) (v3 : Int32) (v4 : Int32) (st : St), ∀ (H : Heap) (locs : List Loc) (ls : Array Slot), R22 (v1, v2, v3, v4, st) → lv_has ls 6 [(0, .ref (E.2.1 b)), (1, .int v1), (2, .int v2), (3, .int v3), (4, .int v4)] → va_P E.1 vwCl (wd E L st) H → va_S (fA E L s.heap.size) s.heap H locs → W p l e rmX4_readBlock_3 s m args below meth c H locs 0 0 (MQ below (zI E L (fun r u => bz r ∧ Q r u) (fA E L s.heap.size)) args s rmX4_readBlock_3.cells rmX4_readBlock_3.slots (fA E L s.heap.size)) (F0 m 22 ls [])) {v1 : Int32} {v2 : Int32} {v3 : Int32} {v4 : Int32} {v5 : Int32}  {st : St} (H : Heap) (locs : List Loc) (ls : Array Slot) (h : wX4_readBlock_3_L65 b p1 p2 R22 v1 v2 v3 v4 v5 st Q) (hl : lv_has ls 6 [(0, .ref (E.2.1 b)), (1, .int v1), (2, .int v2), (3, .int v3), (4, .int v4), (5, .int v5)]) (hP : va_P E.1 vwCl (wd E L st) H) (hS : va_S (fA E L s.heap.size) s.heap H locs) : W p l e rmX4_readBlock_3 s m args below meth c H locs 0 0 (MQ below (zI E L (fun r u => bz r ∧ Q r u) (fA E L s.heap.size)) args s rmX4_readBlock_3.cells rmX4_readBlock_3.slots (fA E L s.heap.size)) (F0 m 65 ls []) := by
  unfold wX4_readBlock_3_L65 at h
  refine lv_aload_n C.1 C.2.1 dX4_readBlock_65 rfl (lv_at hl 0 rfl) ?_
  refine gf3_1 C hP hb (m3 hb hL) q265 dX4_readBlock_66 ?_
  obtain ⟨hc10, h⟩ := h
  obtain ⟨c10, ec10⟩ : ∃ z, z = gR st b 1 := ⟨_, rfl⟩
  rw [← ec10]; rw [← ec10] at hc10; have h := h c10 ec10
  refine lv_iload_n C.1 C.2.1 dX4_readBlock_69 rfl (lv_at hl 3 rfl) ?_
  refine z_ki hS (z_runV (As := [.int v3]) (rest := []) C hP hS (m1 hc10 hL) (e1 hc10) rfl (tX1_hasAct C.2.2.2.2.2.2.1 (hL.mo (Nat.le_of_ble_eq_true rfl) (Nat.le_of_ble_eq_true rfl)) hc10 h) q581 q582 q583 q107 q584 hdX1_hasAct ⟨Nat.le_of_ble_eq_true rfl, Nat.le_of_ble_eq_true rfl⟩ ⟨Nat.zero_le _, Nat.zero_le _⟩ rfl hl.1 rfl (lv_room (Nat.le_of_ble_eq_true rfl)) dX4_readBlock_70) (fun r12 st11 H locs h hP hS => ?_)
  obtain ⟨hr12, h⟩ := h
  refine lv_if_eq C.1 C.2.1 (tgt := 87) dX4_readBlock_73 (by decide) (fun hc => ?_) (fun hc => ?_)
  · have h := h.1 hc
    exact tX4_readBlock_3_L87 hL C hr hlk hb hR22 _ _ _ h (lv_sub hl [0, 1, 2, 4, 5] rfl) hP hS
  · have h := h.2 hc
    refine lv_aload_n C.1 C.2.1 dX4_readBlock_76 rfl (lv_at hl 0 rfl) ?_
    refine gf3_1 C hP hb (m3 hb hL) q265 dX4_readBlock_77 ?_
    obtain ⟨hc13, h⟩ := h
    obtain ⟨c13, ec13⟩ : ∃ z, z = gR st11 b 1 := ⟨_, rfl⟩
    rw [← ec13]; rw [← ec13] at hc13; have h := h c13 ec13
    refine gn1_12 C hP hc13 (m1 hc13 hL) q214 dX4_readBlock_80 ?_
    refine lv_iload_n C.1 C.2.1 dX4_readBlock_83 rfl (lv_at hl 3 rfl) ?_
    refine lv_iload C.1 C.2.1 dX4_readBlock_84 (lv_at hl 5 rfl) ?_
    obtain ⟨hi, h⟩ := h
    refine z_iast C hP hS (k1_9 hc13) (l1_9 hc13) (m1_9 hc13 hL) hi dX4_readBlock_86 (fun H locs hP hS => ?_)
    obtain ⟨st14, est14⟩ : ∃ z, z = uI st11 (c13 + 9) (v3 : Int32).toNatClampNeg v5 := ⟨_, rfl⟩
    rw [← est14] at hP; have h := h st14 est14
    exact tX4_readBlock_3_L87 hL C hr hlk hb hR22 _ _ _ h (lv_sub hl [0, 1, 2, 4, 5] rfl) hP hS
set_option maxHeartbeats 4000000 in
set_option maxRecDepth 100000 in
theorem tX4_readBlock_3_L108 {l : Launch} {p : Program} {e : Env} {s : State} {m : MethodId} {args : Array Value} {below : List Frame} {meth : Method} {c : Code} {E : En0} {L : List Nat} (hL : Cov 0 54 L) (C : Cx E L "PlankBridge$Reader" cX4_readBlock 6 p s m args c) (hr : meth.sig.returnType = (some .boolean)) (hlk : meth.locks = false) {b : Nat} {p1 : Int32} {p2 : Int32} {Q : Int32 → St → Prop} (hb : kd b = 3)   {st : St} (H : Heap) (locs : List Loc) (ls : Array Slot) (h : wX4_readBlock_3_L108 b p1 p2 st Q) (hl : lv_has ls 6 [(0, .ref (E.2.1 b))]) (hP : va_P E.1 vwCl (wd E L st) H) (hS : va_S (fA E L s.heap.size) s.heap H locs) : W p l e rmX4_readBlock_3 s m args below meth c H locs 0 0 (MQ below (zI E L (fun r u => bz r ∧ Q r u) (fA E L s.heap.size)) args s rmX4_readBlock_3.cells rmX4_readBlock_3.slots (fA E L s.heap.size)) (F0 m 108 ls []) := by
  unfold wX4_readBlock_3_L108 at h
  refine lv_aload_n C.1 C.2.1 dX4_readBlock_108 rfl (lv_at hl 0 rfl) ?_
  refine z_kst C hS (i := 5) (by decide) rfl q575 dX4_readBlock_109 ?_
  refine z_ki hS (z_runV (As := [va_re E.2.2.1 (some 5)]) (rest := []) C hP hS (m3 hb hL) (e3 hb) rfl (tX4_take C.2.2.2.2.2.2.1 (hL.mo (Nat.le_of_ble_eq_true rfl) (Nat.le_of_ble_eq_true rfl)) hb h) q502 q504 q0 q109 q505 hdX4_take ⟨Nat.le_of_ble_eq_true rfl, Nat.le_of_ble_eq_true rfl⟩ ⟨Nat.zero_le _, Nat.zero_le _⟩ rfl hl.1 rfl (lv_room (Nat.le_of_ble_eq_true rfl)) dX4_readBlock_112) (fun r9 st8 H locs h hP hS => ?_)
  obtain ⟨hr9, h⟩ := h
  exact z_ri C hr hlk (bz_n hr9) hP hS ⟨hr9, h⟩ dX4_readBlock_115
set_option maxHeartbeats 4000000 in
set_option maxRecDepth 100000 in
theorem tX4_readBlock_3_L22 {l : Launch} {p : Program} {e : Env} {s : State} {m : MethodId} {args : Array Value} {below : List Frame} {meth : Method} {c : Code} {E : En0} {L : List Nat} (hL : Cov 0 54 L) (C : Cx E L "PlankBridge$Reader" cX4_readBlock 6 p s m args c) (hr : meth.sig.returnType = (some .boolean)) (hlk : meth.locks = false) {b : Nat} {p1 : Int32} {p2 : Int32} {Q : Int32 → St → Prop} (hb : kd b = 3) : ∀ (n : Nat) (v1 : Int32) (v2 : Int32) (v3 : Int32) (v4 : Int32) (st : St) (H : Heap) (locs : List Loc) (ls : Array Slot), lp (fun R s => wX4_readBlock_3_L22 b p1 p2 R s.1 s.2.1 s.2.2.1 s.2.2.2.1 s.2.2.2.2 Q) n (v1, v2, v3, v4, st) → lv_has ls 6 [(0, .ref (E.2.1 b)), (1, .int v1), (2, .int v2), (3, .int v3), (4, .int v4)] → va_P E.1 vwCl (wd E L st) H → va_S (fA E L s.heap.size) s.heap H locs → W p l e rmX4_readBlock_3 s m args below meth c H locs 0 0 (MQ below (zI E L (fun r u => bz r ∧ Q r u) (fA E L s.heap.size)) args s rmX4_readBlock_3.cells rmX4_readBlock_3.slots (fA E L s.heap.size)) (F0 m 22 ls []) := by
  intro n
  induction n with
  | zero => exact fun _ _ _ _ _ _ _ _ h _ _ _ => False.elim ‹_›
  | succ n ih =>
    intro v1 v2 v3 v4 st  H locs ls h hl hP hS
    have hR22 := ih
    replace h : wX4_readBlock_3_L22 b p1 p2 (lp (fun R s => wX4_readBlock_3_L22 b p1 p2 R s.1 s.2.1 s.2.2.1 s.2.2.2.1 s.2.2.2.2 Q) n) v1 v2 v3 v4 st Q := h
    unfold wX4_readBlock_3_L22 at h
    refine lv_iload C.1 C.2.1 dX4_readBlock_22 (lv_at hl 4 rfl) ?_
    refine lv_sipush C.1 C.2.1 (v := 400) dX4_readBlock_24 rfl ?_
    refine lv_icmp_ge C.1 C.2.1 (tgt := 108) dX4_readBlock_27 (by decide) (fun hc => ?_) (fun hc => ?_)
    · have h := h.1 hc
      exact tX4_readBlock_3_L108 hL C hr hlk hb _ _ _ h (lv_sub hl [0] rfl) hP hS
    · have h := h.2 hc
      refine lv_aload_n C.1 C.2.1 dX4_readBlock_30 rfl (lv_at hl 0 rfl) ?_
      refine gf3_3 C hP hb (m3 hb hL) q267 dX4_readBlock_31 ?_
      refine z_kst C hS (i := 5) (by decide) rfl q575 dX4_readBlock_34 ?_
      obtain ⟨hk3, h⟩ := h
      refine z_acmp_eq C hk3 (kin_l (by decide)) (tgt := 108) dX4_readBlock_37 (by decide) (fun hc => ?_) (fun hc => ?_)
      · have h := h.1 hc
        exact tX4_readBlock_3_L108 hL C hr hlk hb _ _ _ h (lv_sub hl [0] rfl) hP hS
      · have h := h.2 hc
        refine lv_aload_n C.1 C.2.1 dX4_readBlock_40 rfl (lv_at hl 0 rfl) ?_
        refine gf3_1 C hP hb (m3 hb hL) q265 dX4_readBlock_41 ?_
        obtain ⟨hc4, h⟩ := h
        obtain ⟨c4, ec4⟩ : ∃ z, z = gR st b 1 := ⟨_, rfl⟩
        rw [← ec4]; rw [← ec4] at hc4; have h := h c4 ec4
        refine lv_aload_n C.1 C.2.1 dX4_readBlock_44 rfl (lv_at hl 0 rfl) ?_
        refine gf3_2 C hP hb (m3 hb hL) q266 dX4_readBlock_45 ?_
        refine lv_iload_n C.1 C.2.1 dX4_readBlock_48 rfl (lv_at hl 1 rfl) ?_
        refine z_ki hS (z_runV (As := [.int (gI st b 2), .int v1]) (rest := []) C hP hS (m1 hc4 hL) (e1 hc4) rfl (tX1_addAct C.2.2.2.2.2.2.1 (hL.mo (Nat.le_of_ble_eq_true rfl) (Nat.le_of_ble_eq_true rfl)) hc4 h) q577 q578 q579 q107 q580 hdX1_addAct ⟨Nat.le_of_ble_eq_true rfl, Nat.le_of_ble_eq_true rfl⟩ ⟨Nat.zero_le _, Nat.zero_le _⟩ rfl hl.1 rfl (lv_room (Nat.le_of_ble_eq_true rfl)) dX4_readBlock_49) (fun r6 st5 H locs h hP hS => ?_)
        refine lv_istore C.1 C.2.1 dX4_readBlock_52 hl (Nat.le_of_ble_eq_true rfl) rfl (fun ls hl => ?_)
        have hl : lv_has ls 6 [(5, .int r6), (0, .ref (E.2.1 b)), (1, .int v1), (2, .int v2), (3, .int v3), (4, .int v4)] := hl
        refine lv_iload C.1 C.2.1 dX4_readBlock_54 (lv_at hl 0 rfl) ?_
        refine lv_iconst C.1 C.2.1 (v := (-1)) dX4_readBlock_56 rfl ?_
        refine lv_icmp_ne C.1 C.2.1 (tgt := 65) dX4_readBlock_57 (by decide) (fun hc => ?_) (fun hc => ?_)
        · have h := h.1 hc
          exact tX4_readBlock_3_L65 hL C hr hlk hb hR22 _ _ _ h (lv_sub hl [1, 2, 3, 4, 5, 0] rfl) hP hS
        · have h := h.2 hc
          refine lv_aload_n C.1 C.2.1 dX4_readBlock_60 rfl (lv_at hl 1 rfl) ?_
          refine lv_iconst C.1 C.2.1 (v := 4) dX4_readBlock_61 rfl ?_
          refine z_kv hS (z_runV (As := [.int 4]) (rest := []) C hP hS (m3 hb hL) (e3 hb) rfl (tX4_mark C.2.2.2.2.2.2.1 (hL.mo (Nat.le_of_ble_eq_true rfl) (Nat.le_of_ble_eq_true rfl)) hb h) q522 q524 q2 q109 q525 hdX4_mark ⟨Nat.le_of_ble_eq_true rfl, Nat.le_of_ble_eq_true rfl⟩ ⟨Nat.zero_le _, Nat.zero_le _⟩ rfl hl.1 rfl (lv_room (Nat.le_of_ble_eq_true rfl)) dX4_readBlock_62) (fun st7 H locs h hP hS => ?_)
          exact tX4_readBlock_3_L65 hL C hr hlk hb hR22 _ _ _ h (lv_sub hl [1, 2, 3, 4, 5, 0] rfl) hP hS
set_option maxHeartbeats 4000000 in
set_option maxRecDepth 100000 in
theorem tX4_readBlock_3 {l : Launch} {E : En0} {L : List Nat} (hE : EK E L) (hL : Cov 0 54 L) {b : Nat} {p1 : Int32} {p2 : Int32} {st : St} {Q : Int32 → St → Prop} (hb : kd b = 3) (h : wX4_readBlock_3 b p1 p2 st Q) : Mz l yX4_readBlock cX4_readBlock 6 (some .boolean) rmX4_readBlock_3 E L [.ref (E.2.1 b), .int p1, .int p2] st (zI E L (fun r u => bz r ∧ Q r u)) := by
  refine Mz.of hE (by decide) (Nat.le_of_ble_eq_true rfl) ?_
  intro p e s m below meth c ls C hr hlk _ hl hP
  replace C : Cx E L "PlankBridge$Reader" cX4_readBlock 6 p s m _ c := C
  have hS : va_S (fA E L s.heap.size) s.heap s.heap [] := va_S.rf
  replace hl : lv_has ls 6 [(0, .ref (E.2.1 b)), (1, .int p1), (2, .int p2)] := hl
  unfold wX4_readBlock_3 at h
  refine lv_iload_n C.1 C.2.1 dX4_readBlock_0 rfl (lv_at hl 2 rfl) ?_
  refine lv_iconst C.1 C.2.1 (v := 3) dX4_readBlock_1 rfl ?_
  refine lv_icmp_gt C.1 C.2.1 (tgt := 15) dX4_readBlock_2 (by decide) (fun hc => ?_) (fun hc => ?_)
  · have h := h.1 hc
    refine lv_iconst C.1 C.2.1 (v := 0) dX4_readBlock_15 rfl ?_
    exact z_ri C hr hlk (bz_n bz0) hP hS ⟨bz0, h⟩ dX4_readBlock_16
  · have h := h.2 hc
    refine lv_aload_n C.1 C.2.1 dX4_readBlock_5 rfl (lv_at hl 0 rfl) ?_
    refine z_kst C hS (i := 4) (by decide) rfl q573 dX4_readBlock_6 ?_
    refine z_ki hS (z_runV (As := [va_re E.2.2.1 (some 4)]) (rest := []) C hP hS (m3 hb hL) (e3 hb) rfl (tX4_take C.2.2.2.2.2.2.1 (hL.mo (Nat.le_of_ble_eq_true rfl) (Nat.le_of_ble_eq_true rfl)) hb h) q502 q504 q0 q109 q505 hdX4_take ⟨Nat.le_of_ble_eq_true rfl, Nat.le_of_ble_eq_true rfl⟩ ⟨Nat.zero_le _, Nat.zero_le _⟩ rfl hl.1 rfl (lv_room (Nat.le_of_ble_eq_true rfl)) dX4_readBlock_9) (fun r2 st1 H locs h hP hS => ?_)
    obtain ⟨hr2, h⟩ := h
    refine lv_if_ne C.1 C.2.1 (tgt := 17) dX4_readBlock_12 (by decide) (fun hc => ?_) (fun hc => ?_)
    · have h := h.1 hc
      refine lv_iconst C.1 C.2.1 (v := (-1)) dX4_readBlock_17 rfl ?_
      refine lv_istore_n C.1 C.2.1 dX4_readBlock_18 rfl hl (Nat.le_of_ble_eq_true rfl) rfl (fun ls hl => ?_)
      have hl : lv_has ls 6 [(3, .int (-1)), (0, .ref (E.2.1 b)), (1, .int p1), (2, .int p2)] := hl
      refine lv_iconst C.1 C.2.1 (v := 0) dX4_readBlock_19 rfl ?_
      refine lv_istore C.1 C.2.1 dX4_readBlock_20 hl (Nat.le_of_ble_eq_true rfl) rfl (fun ls hl => ?_)
      have hl : lv_has ls 6 [(4, .int 0), (3, .int (-1)), (0, .ref (E.2.1 b)), (1, .int p1), (2, .int p2)] := hl
      obtain ⟨n, h⟩ := h
      exact tX4_readBlock_3_L22 hL C hr hlk hb n p1 p2 (-1) 0 st1 _ _ _ h (lv_sub hl [2, 3, 4, 1, 0] rfl) hP hS
    · have h := h.2 hc
      refine lv_iconst C.1 C.2.1 (v := 0) dX4_readBlock_15 rfl ?_
      exact z_ri C hr hlk (bz_n bz0) hP hS ⟨bz0, h⟩ dX4_readBlock_16
def rmX4_readBlockOf_4 : Room := { frames := 12, cells := 0, slots := 0, locals := 279 }
def wX4_readBlockOf_4 (b : Nat) (p1 : Int32) (p2 : Int32) (p3 : Nat) (st : St) (Q : Int32 → St → Prop) : Prop :=
  (kd (gR st b 1) = 1 ∧ ∀ c1, c1 = gR st b 1 → (∀ x2 : Int32, x2 = (gI st c1 15) → (wX4_readBlock_3 b p1 (p2 + 1) st (fun r4 st3 => ((p1 < 0 → Q r4 st3) ∧ (¬ p1 < 0 → ((60 ≤ p1 → Q r4 st3) ∧ (¬ 60 ≤ p1 → (kd (gR st3 b 1) = 1 ∧ ∀ c5, c5 = gR st3 b 1 → (wX1_firstSince c5 x2 st3 (fun r7 st6 => (vp_in p1 60 ∧ ∀ st8, st8 = uI st6 p3 (p1 : Int32).toNatClampNeg r7 → Q r4 st8))))))))))))
theorem hdX4_readBlockOf_4 : yX4_readBlockOf.cls = "PlankBridge$Reader" ∧ yX4_readBlockOf.cls ≠ "java/lang/invoke/MethodHandle" ∧ yX4_readBlockOf.cls ≠ "java/lang/invoke/VarHandle" ∧ (parseMethodDescriptor yX4_readBlockOf.desc).map (fun d => d.parameters.length) = some 3 := by decide +kernel
set_option maxHeartbeats 4000000 in
set_option maxRecDepth 100000 in
theorem tX4_readBlockOf_4 {l : Launch} {E : En0} {L : List Nat} (hE : EK E L) (hL : Cov 0 54 L) {b : Nat} {p1 : Int32} {p2 : Int32} {p3 : Nat} {st : St} {Q : Int32 → St → Prop} (hb : kd b = 3) (hp3 : kd p3 = 20) (lp3 : ln p3 = 60) (mp3 : p3 ∈ L) (h : wX4_readBlockOf_4 b p1 p2 p3 st Q) : Mz l yX4_readBlockOf cX4_readBlockOf 6 (some .boolean) rmX4_readBlockOf_4 E L [.ref (E.2.1 b), .int p1, .int p2, .ref (E.2.1 p3)] st (zI E L (fun r u => bz r ∧ Q r u)) := by
  refine Mz.of hE (by decide) (Nat.le_of_ble_eq_true rfl) ?_
  intro p e s m below meth c ls C hr hlk _ hl hP
  replace C : Cx E L "PlankBridge$Reader" cX4_readBlockOf 6 p s m _ c := C
  have hS : va_S (fA E L s.heap.size) s.heap s.heap [] := va_S.rf
  replace hl : lv_has ls 6 [(0, .ref (E.2.1 b)), (1, .int p1), (2, .int p2), (3, .ref (E.2.1 p3))] := hl
  unfold wX4_readBlockOf_4 at h
  refine lv_aload_n C.1 C.2.1 dX4_readBlockOf_0 rfl (lv_at hl 0 rfl) ?_
  refine gf3_1 C hP hb (m3 hb hL) q265 dX4_readBlockOf_1 ?_
  obtain ⟨hc1, h⟩ := h
  obtain ⟨c1, ec1⟩ : ∃ z, z = gR st b 1 := ⟨_, rfl⟩
  rw [← ec1]; rw [← ec1] at hc1; have h := h c1 ec1
  refine gn1_15 C hP hc1 (m1 hc1 hL) q222 dX4_readBlockOf_4 ?_
  refine lv_topi (fun x2 ex2 => ?_)
  have h := h x2 ex2
  refine lv_istore C.1 C.2.1 dX4_readBlockOf_7 hl (Nat.le_of_ble_eq_true rfl) rfl (fun ls hl => ?_)
  have hl : lv_has ls 6 [(4, .int x2), (0, .ref (E.2.1 b)), (1, .int p1), (2, .int p2), (3, .ref (E.2.1 p3))] := hl
  refine lv_aload_n C.1 C.2.1 dX4_readBlockOf_9 rfl (lv_at hl 1 rfl) ?_
  refine lv_iload_n C.1 C.2.1 dX4_readBlockOf_10 rfl (lv_at hl 2 rfl) ?_
  refine lv_iload_n C.1 C.2.1 dX4_readBlockOf_11 rfl (lv_at hl 3 rfl) ?_
  refine lv_iconst C.1 C.2.1 (v := 1) dX4_readBlockOf_12 rfl ?_
  refine lv_iadd C.1 C.2.1 dX4_readBlockOf_13  ?_
  refine z_ki hS (z_runV (As := [.int p1, .int (p2 + 1)]) (rest := []) C hP hS (m3 hb hL) (e3 hb) rfl (tX4_readBlock_3 C.2.2.2.2.2.2.1 (hL.mo (Nat.le_of_ble_eq_true rfl) (Nat.le_of_ble_eq_true rfl)) hb h) q569 q571 q6 q109 q572 hdX4_readBlock_3 ⟨Nat.le_of_ble_eq_true rfl, Nat.le_of_ble_eq_true rfl⟩ ⟨Nat.zero_le _, Nat.zero_le _⟩ rfl hl.1 rfl (lv_room (Nat.le_of_ble_eq_true rfl)) dX4_readBlockOf_14) (fun r4 st3 H locs h hP hS => ?_)
  obtain ⟨hr4, h⟩ := h
  refine lv_istore C.1 C.2.1 dX4_readBlockOf_17 hl (Nat.le_of_ble_eq_true rfl) rfl (fun ls hl => ?_)
  have hl : lv_has ls 6 [(5, .int r4), (4, .int x2), (0, .ref (E.2.1 b)), (1, .int p1), (2, .int p2), (3, .ref (E.2.1 p3))] := hl
  refine lv_iload_n C.1 C.2.1 dX4_readBlockOf_19 rfl (lv_at hl 3 rfl) ?_
  refine lv_if_lt C.1 C.2.1 (tgt := 41) dX4_readBlockOf_20 (by decide) (fun hc => ?_) (fun hc => ?_)
  · have h := h.1 hc
    refine lv_iload C.1 C.2.1 dX4_readBlockOf_41 (lv_at hl 0 rfl) ?_
    exact z_ri C hr hlk (bz_n hr4) hP hS ⟨hr4, h⟩ dX4_readBlockOf_43
  · have h := h.2 hc
    refine lv_iload_n C.1 C.2.1 dX4_readBlockOf_23 rfl (lv_at hl 3 rfl) ?_
    refine lv_aload_n C.1 C.2.1 dX4_readBlockOf_24 rfl (lv_at hl 5 rfl) ?_
    refine z_alen C hP hp3 lp3 mp3 (v := 60) rfl dX4_readBlockOf_25 ?_
    refine lv_icmp_ge C.1 C.2.1 (tgt := 41) dX4_readBlockOf_26 (by decide) (fun hc => ?_) (fun hc => ?_)
    · have h := h.1 hc
      refine lv_iload C.1 C.2.1 dX4_readBlockOf_41 (lv_at hl 0 rfl) ?_
      exact z_ri C hr hlk (bz_n hr4) hP hS ⟨hr4, h⟩ dX4_readBlockOf_43
    · have h := h.2 hc
      refine lv_aload_n C.1 C.2.1 dX4_readBlockOf_29 rfl (lv_at hl 5 rfl) ?_
      refine lv_iload_n C.1 C.2.1 dX4_readBlockOf_30 rfl (lv_at hl 3 rfl) ?_
      refine lv_aload_n C.1 C.2.1 dX4_readBlockOf_31 rfl (lv_at hl 2 rfl) ?_
      refine gf3_1 C hP hb (m3 hb hL) q265 dX4_readBlockOf_32 ?_
      obtain ⟨hc5, h⟩ := h
      obtain ⟨c5, ec5⟩ : ∃ z, z = gR st3 b 1 := ⟨_, rfl⟩
      rw [← ec5]; rw [← ec5] at hc5; have h := h c5 ec5
      refine lv_iload C.1 C.2.1 dX4_readBlockOf_35 (lv_at hl 1 rfl) ?_
      refine z_ki hS (z_runV (As := [.int x2]) (rest := [.int p1, .ref (E.2.1 p3)]) C hP hS (m1 hc5 hL) (e1 hc5) rfl (tX1_firstSince C.2.2.2.2.2.2.1 (hL.mo (Nat.le_of_ble_eq_true rfl) (Nat.le_of_ble_eq_true rfl)) hc5 h) q665 q666 q667 q107 q668 hdX1_firstSince ⟨Nat.le_of_ble_eq_true rfl, Nat.le_of_ble_eq_true rfl⟩ ⟨Nat.zero_le _, Nat.zero_le _⟩ rfl hl.1 rfl (lv_room (Nat.le_of_ble_eq_true rfl)) dX4_readBlockOf_37) (fun r7 st6 H locs h hP hS => ?_)
      obtain ⟨hi, h⟩ := h
      refine z_iast C hP hS hp3 lp3 mp3 hi dX4_readBlockOf_40 (fun H locs hP hS => ?_)
      obtain ⟨st8, est8⟩ : ∃ z, z = uI st6 p3 (p1 : Int32).toNatClampNeg r7 := ⟨_, rfl⟩
      rw [← est8] at hP; have h := h st8 est8
      refine lv_iload C.1 C.2.1 dX4_readBlockOf_41 (lv_at hl 0 rfl) ?_
      exact z_ri C hr hlk (bz_n hr4) hP hS ⟨hr4, h⟩ dX4_readBlockOf_43
def rmX4_readAct_4 : Room := { frames := 13, cells := 0, slots := 0, locals := 304 }
def wX4_readAct_4_L98 (b : Nat) (p1 : Int32) (p2 : Int32)   (st : St) (Q : Int32 → St → Prop) : Prop :=
  (wX4_take b (some 6) st (fun r41 st40 => ((r41 = 0 → Q 0 st40) ∧ (¬ r41 = 0 → Q 1 st40))))
def wX4_readAct_4_L114 (b : Nat) (p1 : Int32) (p2 : Int32)  (v3 : Option Nat) (st : St) (Q : Int32 → St → Prop) : Prop :=
  (wX4_take b v3 st (fun r43 st42 => ((r43 = 0 → Q 0 st42) ∧ (¬ r43 = 0 → (wX4_takeValue b st42 (fun r45 st44 => ((r45 = 0 → Q 0 st44) ∧ (¬ r45 = 0 → (wX4_take b (some 6) st44 (fun r47 st46 => ((r47 = 0 → Q 0 st46) ∧ (¬ r47 = 0 → Q 1 st46))))))))))))
def wX4_readAct_4_L280 (b : Nat) (p1 : Int32) (p2 : Int32)   (st : St) (Q : Int32 → St → Prop) : Prop :=
  Q 1 st
def wX4_readAct_4 (b : Nat) (p1 : Int32) (p2 : Int32) (st : St) (Q : Int32 → St → Prop) : Prop :=
  (∀ x1, x1 = gK st b 3 → (∃ k3, x1 = some k3 ∧ k3 < 37 ∧ (vp_in (Int32.ofNat k3) 37 ∧ ((((kSw (Int32.ofNat k3 : Int32).toNatClampNeg : Int32).toInt < 1 ∨ 7 < (kSw (Int32.ofNat k3 : Int32).toNatClampNeg : Int32).toInt) → Q 0 st) ∧ (((kSw (Int32.ofNat k3 : Int32).toNatClampNeg) = 1 → (wX4_take b x1 st (fun r6 st5 => ((r6 = 0 → Q 0 st5) ∧ (¬ r6 = 0 → (wX4_takeWho b st5 (fun r8 st7 => ((r8 = 0 → Q 0 st7) ∧ (¬ r8 = 0 → (kin (gK st7 b 3) ∧ (¬ (gK st7 b 3) = ((some 17)) → wX4_readAct_4_L98 b p1 p2 st7 Q) ∧ ((gK st7 b 3) = ((some 17)) → (wX4_take b (some 17) st7 (fun r11 st10 => ((r11 = 0 → Q 0 st10) ∧ (¬ r11 = 0 → (wX4_takeWho b st10 (fun r13 st12 => ((r13 = 0 → Q 0 st12) ∧ (¬ r13 = 0 → wX4_readAct_4_L98 b p1 p2 st12 Q))))))))))))))))))) ∧ ((kSw (Int32.ofNat k3 : Int32).toNatClampNeg) = 2 → wX4_readAct_4_L114 b p1 p2 x1 st Q) ∧ ((kSw (Int32.ofNat k3 : Int32).toNatClampNeg) = 3 → wX4_readAct_4_L114 b p1 p2 x1 st Q) ∧ ((kSw (Int32.ofNat k3 : Int32).toNatClampNeg) = 4 → wX4_readAct_4_L114 b p1 p2 x1 st Q) ∧ ((kSw (Int32.ofNat k3 : Int32).toNatClampNeg) = 5 → (wX4_take b x1 st (fun r15 st14 => ((r15 = 0 → Q 0 st14) ∧ (¬ r15 = 0 → (wX4_takePlanName b st14 (fun r17 st16 => ((r17 = 0 → Q 0 st16) ∧ (¬ r17 = 0 → (wX4_take b (some 6) st16 (fun r19 st18 => ((r19 = 0 → Q 0 st18) ∧ (¬ r19 = 0 → Q 1 st18))))))))))))) ∧ ((kSw (Int32.ofNat k3 : Int32).toNatClampNeg) = 6 → (wX4_take b x1 st (fun r21 st20 => ((r21 = 0 → Q 0 st20) ∧ (¬ r21 = 0 → (wX4_takeCompares b st20 (fun r23 st22 => ((r23 = 0 → Q 0 st22) ∧ (¬ r23 = 0 → (kd (gR st22 b 1) = 1 ∧ ∀ c24, c24 = gR st22 b 1 → (wX4_readBlockOf_4 b p1 p2 ((c24 + 10)) st22 (fun r26 st25 => ((r26 = 0 → Q 0 st25) ∧ (¬ r26 = 0 → Q 1 st25)))))))))))))) ∧ ((kSw (Int32.ofNat k3 : Int32).toNatClampNeg) = 7 → (wX4_take b x1 st (fun r28 st27 => ((r28 = 0 → Q 0 st27) ∧ (¬ r28 = 0 → (wX4_takeCompares b st27 (fun r30 st29 => ((r30 = 0 → Q 0 st29) ∧ (¬ r30 = 0 → (kd (gR st29 b 1) = 1 ∧ ∀ c31, c31 = gR st29 b 1 → (wX4_readBlockOf_4 b p1 p2 ((c31 + 10)) st29 (fun r33 st32 => ((r33 = 0 → Q 0 st32) ∧ (¬ r33 = 0 → (kin (gK st32 b 3) ∧ (¬ (gK st32 b 3) = ((some 24)) → wX4_readAct_4_L280 b p1 p2 st32 Q) ∧ ((gK st32 b 3) = ((some 24)) → (wX4_take b (some 24) st32 (fun r36 st35 => ((r36 = 0 → Q 0 st35) ∧ (¬ r36 = 0 → (kd (gR st35 b 1) = 1 ∧ ∀ c37, c37 = gR st35 b 1 → (wX4_readBlockOf_4 b p1 p2 ((c37 + 11)) st35 (fun r39 st38 => ((r39 = 0 → Q 0 st38) ∧ (¬ r39 = 0 → wX4_readAct_4_L280 b p1 p2 st38 Q))))))))))))))))))))))))))))))
theorem hdX4_readAct_4 : yX4_readAct.cls = "PlankBridge$Reader" ∧ yX4_readAct.cls ≠ "java/lang/invoke/MethodHandle" ∧ yX4_readAct.cls ≠ "java/lang/invoke/VarHandle" ∧ (parseMethodDescriptor yX4_readAct.desc).map (fun d => d.parameters.length) = some 2 := by decide +kernel
set_option maxHeartbeats 4000000 in
set_option maxRecDepth 100000 in
theorem tX4_readAct_4_L98 {l : Launch} {p : Program} {e : Env} {s : State} {m : MethodId} {args : Array Value} {below : List Frame} {meth : Method} {c : Code} {E : En0} {L : List Nat} (hL : Cov 0 54 L) (C : Cx E L "PlankBridge$Reader" cX4_readAct 4 p s m args c) (hr : meth.sig.returnType = (some .boolean)) (hlk : meth.locks = false) {b : Nat} {p1 : Int32} {p2 : Int32} {Q : Int32 → St → Prop} (hb : kd b = 3)   {st : St} (H : Heap) (locs : List Loc) (ls : Array Slot) (h : wX4_readAct_4_L98 b p1 p2 st Q) (hl : lv_has ls 4 [(0, .ref (E.2.1 b))]) (hP : va_P E.1 vwCl (wd E L st) H) (hS : va_S (fA E L s.heap.size) s.heap H locs) : W p l e rmX4_readAct_4 s m args below meth c H locs 0 0 (MQ below (zI E L (fun r u => bz r ∧ Q r u) (fA E L s.heap.size)) args s rmX4_readAct_4.cells rmX4_readAct_4.slots (fA E L s.heap.size)) (F0 m 98 ls []) := by
  unfold wX4_readAct_4_L98 at h
  refine lv_aload_n C.1 C.2.1 dX4_readAct_98 rfl (lv_at hl 0 rfl) ?_
  refine z_kst C hS (i := 6) (by decide) rfl q544 dX4_readAct_99 ?_
  refine z_ki hS (z_runV (As := [va_re E.2.2.1 (some 6)]) (rest := []) C hP hS (m3 hb hL) (e3 hb) rfl (tX4_take C.2.2.2.2.2.2.1 (hL.mo (Nat.le_of_ble_eq_true rfl) (Nat.le_of_ble_eq_true rfl)) hb h) q502 q504 q0 q109 q505 hdX4_take ⟨Nat.le_of_ble_eq_true rfl, Nat.le_of_ble_eq_true rfl⟩ ⟨Nat.zero_le _, Nat.zero_le _⟩ rfl hl.1 rfl (lv_room (Nat.le_of_ble_eq_true rfl)) dX4_readAct_102) (fun r41 st40 H locs h hP hS => ?_)
  obtain ⟨hr41, h⟩ := h
  refine lv_if_eq C.1 C.2.1 (tgt := 112) dX4_readAct_105 (by decide) (fun hc => ?_) (fun hc => ?_)
  · have h := h.1 hc
    refine lv_iconst C.1 C.2.1 (v := 0) dX4_readAct_112 rfl ?_
    exact z_ri C hr hlk (bz_n bz0) hP hS ⟨bz0, h⟩ dX4_readAct_113
  · have h := h.2 hc
    refine lv_iconst C.1 C.2.1 (v := 1) dX4_readAct_108 rfl ?_
    refine lv_goto C.1 C.2.1 (tgt := 113) dX4_readAct_109 (by decide) ?_
    exact z_ri C hr hlk (bz_n bz1) hP hS ⟨bz1, h⟩ dX4_readAct_113
set_option maxHeartbeats 4000000 in
set_option maxRecDepth 100000 in
theorem tX4_readAct_4_L114 {l : Launch} {p : Program} {e : Env} {s : State} {m : MethodId} {args : Array Value} {below : List Frame} {meth : Method} {c : Code} {E : En0} {L : List Nat} (hL : Cov 0 54 L) (C : Cx E L "PlankBridge$Reader" cX4_readAct 4 p s m args c) (hr : meth.sig.returnType = (some .boolean)) (hlk : meth.locks = false) {b : Nat} {p1 : Int32} {p2 : Int32} {Q : Int32 → St → Prop} (hb : kd b = 3) {v3 : Option Nat}  {st : St} (H : Heap) (locs : List Loc) (ls : Array Slot) (h : wX4_readAct_4_L114 b p1 p2 v3 st Q) (hl : lv_has ls 4 [(0, .ref (E.2.1 b)), (3, va_re E.2.2.1 v3)]) (hP : va_P E.1 vwCl (wd E L st) H) (hS : va_S (fA E L s.heap.size) s.heap H locs) : W p l e rmX4_readAct_4 s m args below meth c H locs 0 0 (MQ below (zI E L (fun r u => bz r ∧ Q r u) (fA E L s.heap.size)) args s rmX4_readAct_4.cells rmX4_readAct_4.slots (fA E L s.heap.size)) (F0 m 114 ls []) := by
  unfold wX4_readAct_4_L114 at h
  refine lv_aload_n C.1 C.2.1 dX4_readAct_114 rfl (lv_at hl 0 rfl) ?_
  refine z_aloadE_n C.1 C.2.1 dX4_readAct_115 rfl (lv_at hl 1 rfl) ?_
  refine z_ki hS (z_runV (As := [va_re E.2.2.1 v3]) (rest := []) C hP hS (m3 hb hL) (e3 hb) rfl (tX4_take C.2.2.2.2.2.2.1 (hL.mo (Nat.le_of_ble_eq_true rfl) (Nat.le_of_ble_eq_true rfl)) hb h) q502 q504 q0 q109 q505 hdX4_take ⟨Nat.le_of_ble_eq_true rfl, Nat.le_of_ble_eq_true rfl⟩ ⟨Nat.zero_le _, Nat.zero_le _⟩ rfl hl.1 rfl (lv_room (Nat.le_of_ble_eq_true rfl)) dX4_readAct_116) (fun r43 st42 H locs h hP hS => ?_)
  obtain ⟨hr43, h⟩ := h
  refine lv_if_eq C.1 C.2.1 (tgt := 143) dX4_readAct_119 (by decide) (fun hc => ?_) (fun hc => ?_)
  · have h := h.1 hc
    refine lv_iconst C.1 C.2.1 (v := 0) dX4_readAct_143 rfl ?_
    exact z_ri C hr hlk (bz_n bz0) hP hS ⟨bz0, h⟩ dX4_readAct_144
  · have h := h.2 hc
    refine lv_aload_n C.1 C.2.1 dX4_readAct_122 rfl (lv_at hl 0 rfl) ?_
    refine z_ki hS (z_runV (As := []) (rest := []) C hP hS (m3 hb hL) (e3 hb) rfl (tX4_takeValue C.2.2.2.2.2.2.1 (hL.mo (Nat.le_of_ble_eq_true rfl) (Nat.le_of_ble_eq_true rfl)) hb h) q619 q621 q9 q109 q622 hdX4_takeValue ⟨Nat.le_of_ble_eq_true rfl, Nat.le_of_ble_eq_true rfl⟩ ⟨Nat.zero_le _, Nat.zero_le _⟩ rfl hl.1 rfl (lv_room (Nat.le_of_ble_eq_true rfl)) dX4_readAct_123) (fun r45 st44 H locs h hP hS => ?_)
    obtain ⟨hr45, h⟩ := h
    refine lv_if_eq C.1 C.2.1 (tgt := 143) dX4_readAct_126 (by decide) (fun hc => ?_) (fun hc => ?_)
    · have h := h.1 hc
      refine lv_iconst C.1 C.2.1 (v := 0) dX4_readAct_143 rfl ?_
      exact z_ri C hr hlk (bz_n bz0) hP hS ⟨bz0, h⟩ dX4_readAct_144
    · have h := h.2 hc
      refine lv_aload_n C.1 C.2.1 dX4_readAct_129 rfl (lv_at hl 0 rfl) ?_
      refine z_kst C hS (i := 6) (by decide) rfl q544 dX4_readAct_130 ?_
      refine z_ki hS (z_runV (As := [va_re E.2.2.1 (some 6)]) (rest := []) C hP hS (m3 hb hL) (e3 hb) rfl (tX4_take C.2.2.2.2.2.2.1 (hL.mo (Nat.le_of_ble_eq_true rfl) (Nat.le_of_ble_eq_true rfl)) hb h) q502 q504 q0 q109 q505 hdX4_take ⟨Nat.le_of_ble_eq_true rfl, Nat.le_of_ble_eq_true rfl⟩ ⟨Nat.zero_le _, Nat.zero_le _⟩ rfl hl.1 rfl (lv_room (Nat.le_of_ble_eq_true rfl)) dX4_readAct_133) (fun r47 st46 H locs h hP hS => ?_)
      obtain ⟨hr47, h⟩ := h
      refine lv_if_eq C.1 C.2.1 (tgt := 143) dX4_readAct_136 (by decide) (fun hc => ?_) (fun hc => ?_)
      · have h := h.1 hc
        refine lv_iconst C.1 C.2.1 (v := 0) dX4_readAct_143 rfl ?_
        exact z_ri C hr hlk (bz_n bz0) hP hS ⟨bz0, h⟩ dX4_readAct_144
      · have h := h.2 hc
        refine lv_iconst C.1 C.2.1 (v := 1) dX4_readAct_139 rfl ?_
        refine lv_goto C.1 C.2.1 (tgt := 144) dX4_readAct_140 (by decide) ?_
        exact z_ri C hr hlk (bz_n bz1) hP hS ⟨bz1, h⟩ dX4_readAct_144
set_option maxHeartbeats 4000000 in
set_option maxRecDepth 100000 in
theorem tX4_readAct_4_L280 {l : Launch} {p : Program} {e : Env} {s : State} {m : MethodId} {args : Array Value} {below : List Frame} {meth : Method} {c : Code} {E : En0} {L : List Nat} (hL : Cov 0 54 L) (C : Cx E L "PlankBridge$Reader" cX4_readAct 4 p s m args c) (hr : meth.sig.returnType = (some .boolean)) (hlk : meth.locks = false) {b : Nat} {p1 : Int32} {p2 : Int32} {Q : Int32 → St → Prop} (hb : kd b = 3)   {st : St} (H : Heap) (locs : List Loc) (ls : Array Slot) (h : wX4_readAct_4_L280 b p1 p2 st Q) (hl : lv_has ls 4 []) (hP : va_P E.1 vwCl (wd E L st) H) (hS : va_S (fA E L s.heap.size) s.heap H locs) : W p l e rmX4_readAct_4 s m args below meth c H locs 0 0 (MQ below (zI E L (fun r u => bz r ∧ Q r u) (fA E L s.heap.size)) args s rmX4_readAct_4.cells rmX4_readAct_4.slots (fA E L s.heap.size)) (F0 m 280 ls []) := by
  unfold wX4_readAct_4_L280 at h
  refine lv_iconst C.1 C.2.1 (v := 1) dX4_readAct_280 rfl ?_
  refine lv_goto C.1 C.2.1 (tgt := 285) dX4_readAct_281 (by decide) ?_
  exact z_ri C hr hlk (bz_n bz1) hP hS ⟨bz1, h⟩ dX4_readAct_285
set_option maxHeartbeats 4000000 in
set_option maxRecDepth 100000 in
theorem tX4_readAct_4 {l : Launch} {E : En0} {L : List Nat} (hE : EK E L) (hL : Cov 0 54 L) {b : Nat} {p1 : Int32} {p2 : Int32} {st : St} {Q : Int32 → St → Prop} (hb : kd b = 3) (h : wX4_readAct_4 b p1 p2 st Q) : Mz l yX4_readAct cX4_readAct 4 (some .boolean) rmX4_readAct_4 E L [.ref (E.2.1 b), .int p1, .int p2] st (zI E L (fun r u => bz r ∧ Q r u)) := by
  refine Mz.of hE (by decide) (Nat.le_of_ble_eq_true rfl) ?_
  intro p e s m below meth c ls C hr hlk _ hl hP
  replace C : Cx E L "PlankBridge$Reader" cX4_readAct 4 p s m _ c := C
  have hS : va_S (fA E L s.heap.size) s.heap s.heap [] := va_S.rf
  replace hl : lv_has ls 4 [(0, .ref (E.2.1 b)), (1, .int p1), (2, .int p2)] := hl
  unfold wX4_readAct_4 at h
  refine lv_aload_n C.1 C.2.1 dX4_readAct_0 rfl (lv_at hl 0 rfl) ?_
  refine gf3_3 C hP hb (m3 hb hL) q267 dX4_readAct_1 ?_
  obtain ⟨x1, ex1⟩ : ∃ z, z = gK st b 3 := ⟨_, rfl⟩
  rw [← ex1]; have h := h x1 ex1
  refine z_astoreE_n C.1 C.2.1 dX4_readAct_4 rfl hl (Nat.le_of_ble_eq_true rfl) rfl (fun ls hl => ?_)
  have hl : lv_has ls 4 [(3, va_re E.2.2.1 x1), (0, .ref (E.2.1 b)), (1, .int p1), (2, .int p2)] := hl
  refine z_sw C hS q589 dX4_readAct_5 (fun t2 ht2 => ?_)
  refine z_aloadE_n C.1 C.2.1 dX4_readAct_8 rfl (lv_at hl 0 rfl) ?_
  obtain ⟨k3, ek3, lk3, h⟩ := h
  refine z_ordE C hP hS ek3 lk3 q591 ⟨Nat.le_of_ble_eq_true rfl, Nat.le_of_ble_eq_true rfl⟩ ⟨Nat.zero_le _, Nat.zero_le _⟩ hl.1 (lv_room (Nat.le_of_ble_eq_true rfl)) dX4_readAct_9 (fun H locs hP hS => ?_)
  obtain ⟨hi4, h⟩ := h
  refine va_ti C.1 C.2.1 ht2 hS hi4 rfl dX4_readAct_12 ?_
  rcases Classical.em ((kSw (Int32.ofNat k3 : Int32).toNatClampNeg : Int32).toInt < 1 ∨ 7 < (kSw (Int32.ofNat k3 : Int32).toNatClampNeg : Int32).toInt) with hx | hx
  · have h := h.1 hx
    refine lv_tableOut C.1 C.2.1 (tgt := 286) dX4_readAct_13 hx (by decide) ?_
    refine lv_iconst C.1 C.2.1 (v := 0) dX4_readAct_286 rfl ?_
    exact z_ri C hr hlk (bz_n bz0) hP hS ⟨bz0, h⟩ dX4_readAct_287
  · have h := h.2
    have hx : (kSw (Int32.ofNat k3 : Int32).toNatClampNeg : Int32).toInt = 1 ∨ (kSw (Int32.ofNat k3 : Int32).toNatClampNeg : Int32).toInt = 2 ∨ (kSw (Int32.ofNat k3 : Int32).toNatClampNeg : Int32).toInt = 3 ∨ (kSw (Int32.ofNat k3 : Int32).toNatClampNeg : Int32).toInt = 4 ∨ (kSw (Int32.ofNat k3 : Int32).toNatClampNeg : Int32).toInt = 5 ∨ (kSw (Int32.ofNat k3 : Int32).toNatClampNeg : Int32).toInt = 6 ∨ (kSw (Int32.ofNat k3 : Int32).toNatClampNeg : Int32).toInt = 7 := by omega
    rcases hx with hx | hx | hx | hx | hx | hx | hx
    · have h := h.1 (i32_eq (hx.trans (by decide)))
      refine lv_tableIn C.1 C.2.1 (off := 43) (tgt := 56) dX4_readAct_13 (by omega) (by omega) (by rw [hx]; rfl) (by decide) ?_
      refine lv_aload_n C.1 C.2.1 dX4_readAct_56 rfl (lv_at hl 1 rfl) ?_
      refine z_aloadE_n C.1 C.2.1 dX4_readAct_57 rfl (lv_at hl 0 rfl) ?_
      refine z_ki hS (z_runV (As := [va_re E.2.2.1 x1]) (rest := []) C hP hS (m3 hb hL) (e3 hb) rfl (tX4_take C.2.2.2.2.2.2.1 (hL.mo (Nat.le_of_ble_eq_true rfl) (Nat.le_of_ble_eq_true rfl)) hb h) q502 q504 q0 q109 q505 hdX4_take ⟨Nat.le_of_ble_eq_true rfl, Nat.le_of_ble_eq_true rfl⟩ ⟨Nat.zero_le _, Nat.zero_le _⟩ rfl hl.1 rfl (lv_room (Nat.le_of_ble_eq_true rfl)) dX4_readAct_58) (fun r6 st5 H locs h hP hS => ?_)
      obtain ⟨hr6, h⟩ := h
      refine lv_if_eq C.1 C.2.1 (tgt := 112) dX4_readAct_61 (by decide) (fun hc => ?_) (fun hc => ?_)
      · have h := h.1 hc
        refine lv_iconst C.1 C.2.1 (v := 0) dX4_readAct_112 rfl ?_
        exact z_ri C hr hlk (bz_n bz0) hP hS ⟨bz0, h⟩ dX4_readAct_113
      · have h := h.2 hc
        refine lv_aload_n C.1 C.2.1 dX4_readAct_64 rfl (lv_at hl 1 rfl) ?_
        refine z_ki hS (z_runV (As := []) (rest := []) C hP hS (m3 hb hL) (e3 hb) rfl (tX4_takeWho C.2.2.2.2.2.2.1 (hL.mo (Nat.le_of_ble_eq_true rfl) (Nat.le_of_ble_eq_true rfl)) hb h) q597 q599 q8 q109 q600 hdX4_takeWho ⟨Nat.le_of_ble_eq_true rfl, Nat.le_of_ble_eq_true rfl⟩ ⟨Nat.zero_le _, Nat.zero_le _⟩ rfl hl.1 rfl (lv_room (Nat.le_of_ble_eq_true rfl)) dX4_readAct_65) (fun r8 st7 H locs h hP hS => ?_)
        obtain ⟨hr8, h⟩ := h
        refine lv_if_eq C.1 C.2.1 (tgt := 112) dX4_readAct_68 (by decide) (fun hc => ?_) (fun hc => ?_)
        · have h := h.1 hc
          refine lv_iconst C.1 C.2.1 (v := 0) dX4_readAct_112 rfl ?_
          exact z_ri C hr hlk (bz_n bz0) hP hS ⟨bz0, h⟩ dX4_readAct_113
        · have h := h.2 hc
          refine lv_aload_n C.1 C.2.1 dX4_readAct_71 rfl (lv_at hl 1 rfl) ?_
          refine gf3_3 C hP hb (m3 hb hL) q267 dX4_readAct_72 ?_
          refine z_kst C hS (i := 17) (by decide) rfl q617 dX4_readAct_75 ?_
          obtain ⟨hk9, h⟩ := h
          refine z_acmp_ne C hk9 (kin_l (by decide)) (tgt := 98) dX4_readAct_78 (by decide) (fun hc => ?_) (fun hc => ?_)
          · have h := h.1 hc
            exact tX4_readAct_4_L98 hL C hr hlk hb _ _ _ h (lv_sub hl [1] rfl) hP hS
          · have h := h.2 hc
            refine lv_aload_n C.1 C.2.1 dX4_readAct_81 rfl (lv_at hl 1 rfl) ?_
            refine z_kst C hS (i := 17) (by decide) rfl q617 dX4_readAct_82 ?_
            refine z_ki hS (z_runV (As := [va_re E.2.2.1 (some 17)]) (rest := []) C hP hS (m3 hb hL) (e3 hb) rfl (tX4_take C.2.2.2.2.2.2.1 (hL.mo (Nat.le_of_ble_eq_true rfl) (Nat.le_of_ble_eq_true rfl)) hb h) q502 q504 q0 q109 q505 hdX4_take ⟨Nat.le_of_ble_eq_true rfl, Nat.le_of_ble_eq_true rfl⟩ ⟨Nat.zero_le _, Nat.zero_le _⟩ rfl hl.1 rfl (lv_room (Nat.le_of_ble_eq_true rfl)) dX4_readAct_85) (fun r11 st10 H locs h hP hS => ?_)
            obtain ⟨hr11, h⟩ := h
            refine lv_if_eq C.1 C.2.1 (tgt := 112) dX4_readAct_88 (by decide) (fun hc => ?_) (fun hc => ?_)
            · have h := h.1 hc
              refine lv_iconst C.1 C.2.1 (v := 0) dX4_readAct_112 rfl ?_
              exact z_ri C hr hlk (bz_n bz0) hP hS ⟨bz0, h⟩ dX4_readAct_113
            · have h := h.2 hc
              refine lv_aload_n C.1 C.2.1 dX4_readAct_91 rfl (lv_at hl 1 rfl) ?_
              refine z_ki hS (z_runV (As := []) (rest := []) C hP hS (m3 hb hL) (e3 hb) rfl (tX4_takeWho C.2.2.2.2.2.2.1 (hL.mo (Nat.le_of_ble_eq_true rfl) (Nat.le_of_ble_eq_true rfl)) hb h) q597 q599 q8 q109 q600 hdX4_takeWho ⟨Nat.le_of_ble_eq_true rfl, Nat.le_of_ble_eq_true rfl⟩ ⟨Nat.zero_le _, Nat.zero_le _⟩ rfl hl.1 rfl (lv_room (Nat.le_of_ble_eq_true rfl)) dX4_readAct_92) (fun r13 st12 H locs h hP hS => ?_)
              obtain ⟨hr13, h⟩ := h
              refine lv_if_eq C.1 C.2.1 (tgt := 112) dX4_readAct_95 (by decide) (fun hc => ?_) (fun hc => ?_)
              · have h := h.1 hc
                refine lv_iconst C.1 C.2.1 (v := 0) dX4_readAct_112 rfl ?_
                exact z_ri C hr hlk (bz_n bz0) hP hS ⟨bz0, h⟩ dX4_readAct_113
              · have h := h.2 hc
                exact tX4_readAct_4_L98 hL C hr hlk hb _ _ _ h (lv_sub hl [1] rfl) hP hS
    · have h := h.2.1 (i32_eq (hx.trans (by decide)))
      refine lv_tableIn C.1 C.2.1 (off := 101) (tgt := 114) dX4_readAct_13 (by omega) (by omega) (by rw [hx]; rfl) (by decide) ?_
      exact tX4_readAct_4_L114 hL C hr hlk hb _ _ _ h (lv_sub hl [1, 0] rfl) hP hS
    · have h := h.2.2.1 (i32_eq (hx.trans (by decide)))
      refine lv_tableIn C.1 C.2.1 (off := 101) (tgt := 114) dX4_readAct_13 (by omega) (by omega) (by rw [hx]; rfl) (by decide) ?_
      exact tX4_readAct_4_L114 hL C hr hlk hb _ _ _ h (lv_sub hl [1, 0] rfl) hP hS
    · have h := h.2.2.2.1 (i32_eq (hx.trans (by decide)))
      refine lv_tableIn C.1 C.2.1 (off := 101) (tgt := 114) dX4_readAct_13 (by omega) (by omega) (by rw [hx]; rfl) (by decide) ?_
      exact tX4_readAct_4_L114 hL C hr hlk hb _ _ _ h (lv_sub hl [1, 0] rfl) hP hS
    · have h := h.2.2.2.2.1 (i32_eq (hx.trans (by decide)))
      refine lv_tableIn C.1 C.2.1 (off := 132) (tgt := 145) dX4_readAct_13 (by omega) (by omega) (by rw [hx]; rfl) (by decide) ?_
      refine lv_aload_n C.1 C.2.1 dX4_readAct_145 rfl (lv_at hl 1 rfl) ?_
      refine z_aloadE_n C.1 C.2.1 dX4_readAct_146 rfl (lv_at hl 0 rfl) ?_
      refine z_ki hS (z_runV (As := [va_re E.2.2.1 x1]) (rest := []) C hP hS (m3 hb hL) (e3 hb) rfl (tX4_take C.2.2.2.2.2.2.1 (hL.mo (Nat.le_of_ble_eq_true rfl) (Nat.le_of_ble_eq_true rfl)) hb h) q502 q504 q0 q109 q505 hdX4_take ⟨Nat.le_of_ble_eq_true rfl, Nat.le_of_ble_eq_true rfl⟩ ⟨Nat.zero_le _, Nat.zero_le _⟩ rfl hl.1 rfl (lv_room (Nat.le_of_ble_eq_true rfl)) dX4_readAct_147) (fun r15 st14 H locs h hP hS => ?_)
      obtain ⟨hr15, h⟩ := h
      refine lv_if_eq C.1 C.2.1 (tgt := 174) dX4_readAct_150 (by decide) (fun hc => ?_) (fun hc => ?_)
      · have h := h.1 hc
        refine lv_iconst C.1 C.2.1 (v := 0) dX4_readAct_174 rfl ?_
        exact z_ri C hr hlk (bz_n bz0) hP hS ⟨bz0, h⟩ dX4_readAct_175
      · have h := h.2 hc
        refine lv_aload_n C.1 C.2.1 dX4_readAct_153 rfl (lv_at hl 1 rfl) ?_
        refine z_ki hS (z_runV (As := []) (rest := []) C hP hS (m3 hb hL) (e3 hb) rfl (tX4_takePlanName C.2.2.2.2.2.2.1 (hL.mo (Nat.le_of_ble_eq_true rfl) (Nat.le_of_ble_eq_true rfl)) hb h) q641 q643 q10 q109 q644 hdX4_takePlanName ⟨Nat.le_of_ble_eq_true rfl, Nat.le_of_ble_eq_true rfl⟩ ⟨Nat.zero_le _, Nat.zero_le _⟩ rfl hl.1 rfl (lv_room (Nat.le_of_ble_eq_true rfl)) dX4_readAct_154) (fun r17 st16 H locs h hP hS => ?_)
        obtain ⟨hr17, h⟩ := h
        refine lv_if_eq C.1 C.2.1 (tgt := 174) dX4_readAct_157 (by decide) (fun hc => ?_) (fun hc => ?_)
        · have h := h.1 hc
          refine lv_iconst C.1 C.2.1 (v := 0) dX4_readAct_174 rfl ?_
          exact z_ri C hr hlk (bz_n bz0) hP hS ⟨bz0, h⟩ dX4_readAct_175
        · have h := h.2 hc
          refine lv_aload_n C.1 C.2.1 dX4_readAct_160 rfl (lv_at hl 1 rfl) ?_
          refine z_kst C hS (i := 6) (by decide) rfl q544 dX4_readAct_161 ?_
          refine z_ki hS (z_runV (As := [va_re E.2.2.1 (some 6)]) (rest := []) C hP hS (m3 hb hL) (e3 hb) rfl (tX4_take C.2.2.2.2.2.2.1 (hL.mo (Nat.le_of_ble_eq_true rfl) (Nat.le_of_ble_eq_true rfl)) hb h) q502 q504 q0 q109 q505 hdX4_take ⟨Nat.le_of_ble_eq_true rfl, Nat.le_of_ble_eq_true rfl⟩ ⟨Nat.zero_le _, Nat.zero_le _⟩ rfl hl.1 rfl (lv_room (Nat.le_of_ble_eq_true rfl)) dX4_readAct_164) (fun r19 st18 H locs h hP hS => ?_)
          obtain ⟨hr19, h⟩ := h
          refine lv_if_eq C.1 C.2.1 (tgt := 174) dX4_readAct_167 (by decide) (fun hc => ?_) (fun hc => ?_)
          · have h := h.1 hc
            refine lv_iconst C.1 C.2.1 (v := 0) dX4_readAct_174 rfl ?_
            exact z_ri C hr hlk (bz_n bz0) hP hS ⟨bz0, h⟩ dX4_readAct_175
          · have h := h.2 hc
            refine lv_iconst C.1 C.2.1 (v := 1) dX4_readAct_170 rfl ?_
            refine lv_goto C.1 C.2.1 (tgt := 175) dX4_readAct_171 (by decide) ?_
            exact z_ri C hr hlk (bz_n bz1) hP hS ⟨bz1, h⟩ dX4_readAct_175
    · have h := h.2.2.2.2.2.1 (i32_eq (hx.trans (by decide)))
      refine lv_tableIn C.1 C.2.1 (off := 163) (tgt := 176) dX4_readAct_13 (by omega) (by omega) (by rw [hx]; rfl) (by decide) ?_
      refine lv_aload_n C.1 C.2.1 dX4_readAct_176 rfl (lv_at hl 1 rfl) ?_
      refine z_aloadE_n C.1 C.2.1 dX4_readAct_177 rfl (lv_at hl 0 rfl) ?_
      refine z_ki hS (z_runV (As := [va_re E.2.2.1 x1]) (rest := []) C hP hS (m3 hb hL) (e3 hb) rfl (tX4_take C.2.2.2.2.2.2.1 (hL.mo (Nat.le_of_ble_eq_true rfl) (Nat.le_of_ble_eq_true rfl)) hb h) q502 q504 q0 q109 q505 hdX4_take ⟨Nat.le_of_ble_eq_true rfl, Nat.le_of_ble_eq_true rfl⟩ ⟨Nat.zero_le _, Nat.zero_le _⟩ rfl hl.1 rfl (lv_room (Nat.le_of_ble_eq_true rfl)) dX4_readAct_178) (fun r21 st20 H locs h hP hS => ?_)
      obtain ⟨hr21, h⟩ := h
      refine lv_if_eq C.1 C.2.1 (tgt := 211) dX4_readAct_181 (by decide) (fun hc => ?_) (fun hc => ?_)
      · have h := h.1 hc
        refine lv_iconst C.1 C.2.1 (v := 0) dX4_readAct_211 rfl ?_
        exact z_ri C hr hlk (bz_n bz0) hP hS ⟨bz0, h⟩ dX4_readAct_212
      · have h := h.2 hc
        refine lv_aload_n C.1 C.2.1 dX4_readAct_184 rfl (lv_at hl 1 rfl) ?_
        refine z_ki hS (z_runV (As := []) (rest := []) C hP hS (m3 hb hL) (e3 hb) rfl (tX4_takeCompares C.2.2.2.2.2.2.1 (hL.mo (Nat.le_of_ble_eq_true rfl) (Nat.le_of_ble_eq_true rfl)) hb h) q645 q647 q11 q109 q648 hdX4_takeCompares ⟨Nat.le_of_ble_eq_true rfl, Nat.le_of_ble_eq_true rfl⟩ ⟨Nat.zero_le _, Nat.zero_le _⟩ rfl hl.1 rfl (lv_room (Nat.le_of_ble_eq_true rfl)) dX4_readAct_185) (fun r23 st22 H locs h hP hS => ?_)
        obtain ⟨hr23, h⟩ := h
        refine lv_if_eq C.1 C.2.1 (tgt := 211) dX4_readAct_188 (by decide) (fun hc => ?_) (fun hc => ?_)
        · have h := h.1 hc
          refine lv_iconst C.1 C.2.1 (v := 0) dX4_readAct_211 rfl ?_
          exact z_ri C hr hlk (bz_n bz0) hP hS ⟨bz0, h⟩ dX4_readAct_212
        · have h := h.2 hc
          refine lv_aload_n C.1 C.2.1 dX4_readAct_191 rfl (lv_at hl 1 rfl) ?_
          refine lv_iload_n C.1 C.2.1 dX4_readAct_192 rfl (lv_at hl 2 rfl) ?_
          refine lv_iload_n C.1 C.2.1 dX4_readAct_193 rfl (lv_at hl 3 rfl) ?_
          refine lv_aload_n C.1 C.2.1 dX4_readAct_194 rfl (lv_at hl 1 rfl) ?_
          refine gf3_1 C hP hb (m3 hb hL) q265 dX4_readAct_195 ?_
          obtain ⟨hc24, h⟩ := h
          obtain ⟨c24, ec24⟩ : ∃ z, z = gR st22 b 1 := ⟨_, rfl⟩
          rw [← ec24]; rw [← ec24] at hc24; have h := h c24 ec24
          refine gn1_13 C hP hc24 (m1 hc24 hL) q217 dX4_readAct_198 ?_
          refine z_ki hS (z_runV (As := [.int p1, .int p2, .ref (E.2.1 ((c24 + 10)))]) (rest := []) C hP hS (m3 hb hL) (e3 hb) rfl (tX4_readBlockOf_4 C.2.2.2.2.2.2.1 (hL.mo (Nat.le_of_ble_eq_true rfl) (Nat.le_of_ble_eq_true rfl)) hb (k1_10 hc24) (l1_10 hc24) (m1_10 hc24 hL) h) q661 q663 q12 q109 q664 hdX4_readBlockOf_4 ⟨Nat.le_of_ble_eq_true rfl, Nat.le_of_ble_eq_true rfl⟩ ⟨Nat.zero_le _, Nat.zero_le _⟩ rfl hl.1 rfl (lv_room (Nat.le_of_ble_eq_true rfl)) dX4_readAct_201) (fun r26 st25 H locs h hP hS => ?_)
          obtain ⟨hr26, h⟩ := h
          refine lv_if_eq C.1 C.2.1 (tgt := 211) dX4_readAct_204 (by decide) (fun hc => ?_) (fun hc => ?_)
          · have h := h.1 hc
            refine lv_iconst C.1 C.2.1 (v := 0) dX4_readAct_211 rfl ?_
            exact z_ri C hr hlk (bz_n bz0) hP hS ⟨bz0, h⟩ dX4_readAct_212
          · have h := h.2 hc
            refine lv_iconst C.1 C.2.1 (v := 1) dX4_readAct_207 rfl ?_
            refine lv_goto C.1 C.2.1 (tgt := 212) dX4_readAct_208 (by decide) ?_
            exact z_ri C hr hlk (bz_n bz1) hP hS ⟨bz1, h⟩ dX4_readAct_212
    · have h := h.2.2.2.2.2.2 (i32_eq (hx.trans (by decide)))
      refine lv_tableIn C.1 C.2.1 (off := 200) (tgt := 213) dX4_readAct_13 (by omega) (by omega) (by rw [hx]; rfl) (by decide) ?_
      refine lv_aload_n C.1 C.2.1 dX4_readAct_213 rfl (lv_at hl 1 rfl) ?_
      refine z_aloadE_n C.1 C.2.1 dX4_readAct_214 rfl (lv_at hl 0 rfl) ?_
      refine z_ki hS (z_runV (As := [va_re E.2.2.1 x1]) (rest := []) C hP hS (m3 hb hL) (e3 hb) rfl (tX4_take C.2.2.2.2.2.2.1 (hL.mo (Nat.le_of_ble_eq_true rfl) (Nat.le_of_ble_eq_true rfl)) hb h) q502 q504 q0 q109 q505 hdX4_take ⟨Nat.le_of_ble_eq_true rfl, Nat.le_of_ble_eq_true rfl⟩ ⟨Nat.zero_le _, Nat.zero_le _⟩ rfl hl.1 rfl (lv_room (Nat.le_of_ble_eq_true rfl)) dX4_readAct_215) (fun r28 st27 H locs h hP hS => ?_)
      obtain ⟨hr28, h⟩ := h
      refine lv_if_eq C.1 C.2.1 (tgt := 284) dX4_readAct_218 (by decide) (fun hc => ?_) (fun hc => ?_)
      · have h := h.1 hc
        refine lv_iconst C.1 C.2.1 (v := 0) dX4_readAct_284 rfl ?_
        exact z_ri C hr hlk (bz_n bz0) hP hS ⟨bz0, h⟩ dX4_readAct_285
      · have h := h.2 hc
        refine lv_aload_n C.1 C.2.1 dX4_readAct_221 rfl (lv_at hl 1 rfl) ?_
        refine z_ki hS (z_runV (As := []) (rest := []) C hP hS (m3 hb hL) (e3 hb) rfl (tX4_takeCompares C.2.2.2.2.2.2.1 (hL.mo (Nat.le_of_ble_eq_true rfl) (Nat.le_of_ble_eq_true rfl)) hb h) q645 q647 q11 q109 q648 hdX4_takeCompares ⟨Nat.le_of_ble_eq_true rfl, Nat.le_of_ble_eq_true rfl⟩ ⟨Nat.zero_le _, Nat.zero_le _⟩ rfl hl.1 rfl (lv_room (Nat.le_of_ble_eq_true rfl)) dX4_readAct_222) (fun r30 st29 H locs h hP hS => ?_)
        obtain ⟨hr30, h⟩ := h
        refine lv_if_eq C.1 C.2.1 (tgt := 284) dX4_readAct_225 (by decide) (fun hc => ?_) (fun hc => ?_)
        · have h := h.1 hc
          refine lv_iconst C.1 C.2.1 (v := 0) dX4_readAct_284 rfl ?_
          exact z_ri C hr hlk (bz_n bz0) hP hS ⟨bz0, h⟩ dX4_readAct_285
        · have h := h.2 hc
          refine lv_aload_n C.1 C.2.1 dX4_readAct_228 rfl (lv_at hl 1 rfl) ?_
          refine lv_iload_n C.1 C.2.1 dX4_readAct_229 rfl (lv_at hl 2 rfl) ?_
          refine lv_iload_n C.1 C.2.1 dX4_readAct_230 rfl (lv_at hl 3 rfl) ?_
          refine lv_aload_n C.1 C.2.1 dX4_readAct_231 rfl (lv_at hl 1 rfl) ?_
          refine gf3_1 C hP hb (m3 hb hL) q265 dX4_readAct_232 ?_
          obtain ⟨hc31, h⟩ := h
          obtain ⟨c31, ec31⟩ : ∃ z, z = gR st29 b 1 := ⟨_, rfl⟩
          rw [← ec31]; rw [← ec31] at hc31; have h := h c31 ec31
          refine gn1_13 C hP hc31 (m1 hc31 hL) q217 dX4_readAct_235 ?_
          refine z_ki hS (z_runV (As := [.int p1, .int p2, .ref (E.2.1 ((c31 + 10)))]) (rest := []) C hP hS (m3 hb hL) (e3 hb) rfl (tX4_readBlockOf_4 C.2.2.2.2.2.2.1 (hL.mo (Nat.le_of_ble_eq_true rfl) (Nat.le_of_ble_eq_true rfl)) hb (k1_10 hc31) (l1_10 hc31) (m1_10 hc31 hL) h) q661 q663 q12 q109 q664 hdX4_readBlockOf_4 ⟨Nat.le_of_ble_eq_true rfl, Nat.le_of_ble_eq_true rfl⟩ ⟨Nat.zero_le _, Nat.zero_le _⟩ rfl hl.1 rfl (lv_room (Nat.le_of_ble_eq_true rfl)) dX4_readAct_238) (fun r33 st32 H locs h hP hS => ?_)
          obtain ⟨hr33, h⟩ := h
          refine lv_if_eq C.1 C.2.1 (tgt := 284) dX4_readAct_241 (by decide) (fun hc => ?_) (fun hc => ?_)
          · have h := h.1 hc
            refine lv_iconst C.1 C.2.1 (v := 0) dX4_readAct_284 rfl ?_
            exact z_ri C hr hlk (bz_n bz0) hP hS ⟨bz0, h⟩ dX4_readAct_285
          · have h := h.2 hc
            refine lv_aload_n C.1 C.2.1 dX4_readAct_244 rfl (lv_at hl 1 rfl) ?_
            refine gf3_3 C hP hb (m3 hb hL) q267 dX4_readAct_245 ?_
            refine z_kst C hS (i := 24) (by decide) rfl q669 dX4_readAct_248 ?_
            obtain ⟨hk34, h⟩ := h
            refine z_acmp_ne C hk34 (kin_l (by decide)) (tgt := 280) dX4_readAct_251 (by decide) (fun hc => ?_) (fun hc => ?_)
            · have h := h.1 hc
              exact tX4_readAct_4_L280 hL C hr hlk hb _ _ _ h (lv_sub hl [] rfl) hP hS
            · have h := h.2 hc
              refine lv_aload_n C.1 C.2.1 dX4_readAct_254 rfl (lv_at hl 1 rfl) ?_
              refine z_kst C hS (i := 24) (by decide) rfl q669 dX4_readAct_255 ?_
              refine z_ki hS (z_runV (As := [va_re E.2.2.1 (some 24)]) (rest := []) C hP hS (m3 hb hL) (e3 hb) rfl (tX4_take C.2.2.2.2.2.2.1 (hL.mo (Nat.le_of_ble_eq_true rfl) (Nat.le_of_ble_eq_true rfl)) hb h) q502 q504 q0 q109 q505 hdX4_take ⟨Nat.le_of_ble_eq_true rfl, Nat.le_of_ble_eq_true rfl⟩ ⟨Nat.zero_le _, Nat.zero_le _⟩ rfl hl.1 rfl (lv_room (Nat.le_of_ble_eq_true rfl)) dX4_readAct_258) (fun r36 st35 H locs h hP hS => ?_)
              obtain ⟨hr36, h⟩ := h
              refine lv_if_eq C.1 C.2.1 (tgt := 284) dX4_readAct_261 (by decide) (fun hc => ?_) (fun hc => ?_)
              · have h := h.1 hc
                refine lv_iconst C.1 C.2.1 (v := 0) dX4_readAct_284 rfl ?_
                exact z_ri C hr hlk (bz_n bz0) hP hS ⟨bz0, h⟩ dX4_readAct_285
              · have h := h.2 hc
                refine lv_aload_n C.1 C.2.1 dX4_readAct_264 rfl (lv_at hl 1 rfl) ?_
                refine lv_iload_n C.1 C.2.1 dX4_readAct_265 rfl (lv_at hl 2 rfl) ?_
                refine lv_iload_n C.1 C.2.1 dX4_readAct_266 rfl (lv_at hl 3 rfl) ?_
                refine lv_aload_n C.1 C.2.1 dX4_readAct_267 rfl (lv_at hl 1 rfl) ?_
                refine gf3_1 C hP hb (m3 hb hL) q265 dX4_readAct_268 ?_
                obtain ⟨hc37, h⟩ := h
                obtain ⟨c37, ec37⟩ : ∃ z, z = gR st35 b 1 := ⟨_, rfl⟩
                rw [← ec37]; rw [← ec37] at hc37; have h := h c37 ec37
                refine gn1_14 C hP hc37 (m1 hc37 hL) q220 dX4_readAct_271 ?_
                refine z_ki hS (z_runV (As := [.int p1, .int p2, .ref (E.2.1 ((c37 + 11)))]) (rest := []) C hP hS (m3 hb hL) (e3 hb) rfl (tX4_readBlockOf_4 C.2.2.2.2.2.2.1 (hL.mo (Nat.le_of_ble_eq_true rfl) (Nat.le_of_ble_eq_true rfl)) hb (k1_11 hc37) (l1_11 hc37) (m1_11 hc37 hL) h) q661 q663 q12 q109 q664 hdX4_readBlockOf_4 ⟨Nat.le_of_ble_eq_true rfl, Nat.le_of_ble_eq_true rfl⟩ ⟨Nat.zero_le _, Nat.zero_le _⟩ rfl hl.1 rfl (lv_room (Nat.le_of_ble_eq_true rfl)) dX4_readAct_274) (fun r39 st38 H locs h hP hS => ?_)
                obtain ⟨hr39, h⟩ := h
                refine lv_if_eq C.1 C.2.1 (tgt := 284) dX4_readAct_277 (by decide) (fun hc => ?_) (fun hc => ?_)
                · have h := h.1 hc
                  refine lv_iconst C.1 C.2.1 (v := 0) dX4_readAct_284 rfl ?_
                  exact z_ri C hr hlk (bz_n bz0) hP hS ⟨bz0, h⟩ dX4_readAct_285
                · have h := h.2 hc
                  exact tX4_readAct_4_L280 hL C hr hlk hb _ _ _ h (lv_sub hl [] rfl) hP hS
def rmX4_readBlock_4 : Room := { frames := 14, cells := 0, slots := 0, locals := 327 }
def wX4_readBlock_4_L87 (b : Nat) (p1 : Int32) (p2 : Int32) (R22 : Int32 × Int32 × Int32 × Int32 × St → Prop) (v1 : Int32) (v2 : Int32) (v4 : Int32) (v5 : Int32) (st : St) (Q : Int32 → St → Prop) : Prop :=
  (wX4_readAct_4 b v5 v2 st (fun r16 st15 => ((¬ r16 = 0 → (∀ x17 : Int32, x17 = v4 + 1 → R22 (v1, v2, v5, x17, st15))) ∧ (r16 = 0 → Q 0 st15))))
def wX4_readBlock_4_L65 (b : Nat) (p1 : Int32) (p2 : Int32) (R22 : Int32 × Int32 × Int32 × Int32 × St → Prop) (v1 : Int32) (v2 : Int32) (v3 : Int32) (v4 : Int32) (v5 : Int32) (st : St) (Q : Int32 → St → Prop) : Prop :=
  (kd (gR st b 1) = 1 ∧ ∀ c10, c10 = gR st b 1 → (wX1_hasAct c10 v3 st (fun r12 st11 => ((r12 = 0 → wX4_readBlock_4_L87 b p1 p2 R22 v1 v2 v4 v5 st11 Q) ∧ (¬ r12 = 0 → (kd (gR st11 b 1) = 1 ∧ ∀ c13, c13 = gR st11 b 1 → (vp_in v3 60 ∧ ∀ st14, st14 = uI st11 (c13 + 9) (v3 : Int32).toNatClampNeg v5 → wX4_readBlock_4_L87 b p1 p2 R22 v1 v2 v4 v5 st14 Q)))))))
def wX4_readBlock_4_L108 (b : Nat) (p1 : Int32) (p2 : Int32)   (st : St) (Q : Int32 → St → Prop) : Prop :=
  (wX4_take b (some 5) st (fun r9 st8 => Q r9 st8))
def wX4_readBlock_4_L22 (b : Nat) (p1 : Int32) (p2 : Int32)  (R22 : Int32 × Int32 × Int32 × Int32 × St → Prop) (v1 : Int32) (v2 : Int32) (v3 : Int32) (v4 : Int32) (st : St) (Q : Int32 → St → Prop) : Prop :=
  ((400 ≤ v4 → wX4_readBlock_4_L108 b p1 p2 st Q) ∧ (¬ 400 ≤ v4 → (kin (gK st b 3) ∧ ((gK st b 3) = ((some 5)) → wX4_readBlock_4_L108 b p1 p2 st Q) ∧ (¬ (gK st b 3) = ((some 5)) → (kd (gR st b 1) = 1 ∧ ∀ c4, c4 = gR st b 1 → (wX1_addAct c4 (gI st b 2) v1 st (fun r6 st5 => ((¬ r6 = (-1) → wX4_readBlock_4_L65 b p1 p2 R22 v1 v2 v3 v4 r6 st5 Q) ∧ (r6 = (-1) → (wX4_mark b 4 st5 (fun st7 => wX4_readBlock_4_L65 b p1 p2 R22 v1 v2 v3 v4 r6 st7 Q)))))))))))
def wX4_readBlock_4 (b : Nat) (p1 : Int32) (p2 : Int32) (st : St) (Q : Int32 → St → Prop) : Prop :=
  ((3 < p2 → Q 0 st) ∧ (¬ 3 < p2 → (wX4_take b (some 4) st (fun r2 st1 => ((¬ r2 = 0 → (∃ n, lp (fun R s => wX4_readBlock_4_L22 b p1 p2 R s.1 s.2.1 s.2.2.1 s.2.2.2.1 s.2.2.2.2 Q) n (p1, p2, (-1), 0, st1))) ∧ (r2 = 0 → Q 0 st1))))))
theorem hdX4_readBlock_4 : yX4_readBlock.cls = "PlankBridge$Reader" ∧ yX4_readBlock.cls ≠ "java/lang/invoke/MethodHandle" ∧ yX4_readBlock.cls ≠ "java/lang/invoke/VarHandle" ∧ (parseMethodDescriptor yX4_readBlock.desc).map (fun d => d.parameters.length) = some 2 := by decide +kernel
set_option maxHeartbeats 4000000 in
set_option maxRecDepth 100000 in
theorem tX4_readBlock_4_L87 {l : Launch} {p : Program} {e : Env} {s : State} {m : MethodId} {args : Array Value} {below : List Frame} {meth : Method} {c : Code} {E : En0} {L : List Nat} (hL : Cov 0 54 L) (C : Cx E L "PlankBridge$Reader" cX4_readBlock 6 p s m args c) (hr : meth.sig.returnType = (some .boolean)) (hlk : meth.locks = false) {b : Nat} {p1 : Int32} {p2 : Int32} {Q : Int32 → St → Prop} (hb : kd b = 3) {R22 : Int32 × Int32 × Int32 × Int32 × St → Prop} (hR22 : ∀ (v1 : Int32) (v2 : Int32) (v3 : Int32) (v4 : Int32) (st : St), ∀ (H : Heap) (locs : List Loc) (ls : Array Slot), R22 (v1, v2, v3, v4, st) → lv_has ls 6 [(0, .ref (E.2.1 b)), (1, .int v1), (2, .int v2), (3, .int v3), (4, .int v4)] → va_P E.1 vwCl (wd E L st) H → va_S (fA E L s.heap.size) s.heap H locs → W p l e rmX4_readBlock_4 s m args below meth c H locs 0 0 (MQ below (zI E L (fun r u => bz r ∧ Q r u) (fA E L s.heap.size)) args s rmX4_readBlock_4.cells rmX4_readBlock_4.slots (fA E L s.heap.size)) (F0 m 22 ls [])) {v1 : Int32} {v2 : Int32} {v4 : Int32} {v5 : Int32}  {st : St} (H : Heap) (locs : List Loc) (ls : Array Slot) (h : wX4_readBlock_4_L87 b p1 p2 R22 v1 v2 v4 v5 st Q) (hl : lv_has ls 6 [(0, .ref (E.2.1 b)), (1, .int v1), (2, .int v2), (4, .int v4), (5, .int v5)]) (hP : va_P E.1 vwCl (wd E L st) H) (hS : va_S (fA E L s.heap.size) s.heap H locs) : W p l e rmX4_readBlock_4 s m args below meth c H locs 0 0 (MQ below (zI E L (fun r u => bz r ∧ Q r u) (fA E L s.heap.size)) args s rmX4_readBlock_4.cells rmX4_readBlock_4.slots (fA E L s.heap.size)) (F0 m 87 ls []) := by
  unfold wX4_readBlock_4_L87 at h
  refine lv_iload C.1 C.2.1 dX4_readBlock_87 (lv_at hl 4 rfl) ?_
  refine lv_istore_n C.1 C.2.1 dX4_readBlock_89 rfl hl (Nat.le_of_ble_eq_true rfl) rfl (fun ls hl => ?_)
  have hl : lv_has ls 6 [(3, .int v5), (0, .ref (E.2.1 b)), (1, .int v1), (2, .int v2), (4, .int v4), (5, .int v5)] := hl
  refine lv_aload_n C.1 C.2.1 dX4_readBlock_90 rfl (lv_at hl 1 rfl) ?_
  refine lv_iload C.1 C.2.1 dX4_readBlock_91 (lv_at hl 5 rfl) ?_
  refine lv_iload_n C.1 C.2.1 dX4_readBlock_93 rfl (lv_at hl 3 rfl) ?_
  refine z_ki hS (z_runV (As := [.int v5, .int v2]) (rest := []) C hP hS (m3 hb hL) (e3 hb) rfl (tX4_readAct_4 C.2.2.2.2.2.2.1 (hL.mo (Nat.le_of_ble_eq_true rfl) (Nat.le_of_ble_eq_true rfl)) hb h) q585 q587 q7 q109 q588 hdX4_readAct_4 ⟨Nat.le_of_ble_eq_true rfl, Nat.le_of_ble_eq_true rfl⟩ ⟨Nat.zero_le _, Nat.zero_le _⟩ rfl hl.1 rfl (lv_room (Nat.le_of_ble_eq_true rfl)) dX4_readBlock_94) (fun r16 st15 H locs h hP hS => ?_)
  obtain ⟨hr16, h⟩ := h
  refine lv_if_ne C.1 C.2.1 (tgt := 102) dX4_readBlock_97 (by decide) (fun hc => ?_) (fun hc => ?_)
  · have h := h.1 hc
    obtain ⟨x17, ex17⟩ : ∃ z, z = v4 + 1 := ⟨_, rfl⟩
    have h := h x17 ex17
    refine lv_iinc C.1 C.2.1 dX4_readBlock_102 hl (k := 4) rfl ex17.symm (Nat.le_of_ble_eq_true rfl) rfl (fun ls hl => ?_)
    have hl : lv_has ls 6 [(4, .int x17), (3, .int v5), (0, .ref (E.2.1 b)), (1, .int v1), (2, .int v2), (5, .int v5)] := hl
    refine lv_goto C.1 C.2.1 (tgt := 22) dX4_readBlock_105 (by decide) ?_
    exact hR22 v1 v2 v5 x17 st15 _ _ _ h (lv_sub hl [2, 3, 4, 1, 0] rfl) hP hS
  · have h := h.2 hc
    refine lv_iconst C.1 C.2.1 (v := 0) dX4_readBlock_100 rfl ?_
    exact z_ri C hr hlk (bz_n bz0) hP hS ⟨bz0, h⟩ dX4_readBlock_101
set_option maxHeartbeats 4000000 in
set_option maxRecDepth 100000 in
theorem tX4_readBlock_4_L65 {l : Launch} {p : Program} {e : Env} {s : State} {m : MethodId} {args : Array Value} {below : List Frame} {meth : Method} {c : Code} {E : En0} {L : List Nat} (hL : Cov 0 54 L) (C : Cx E L "PlankBridge$Reader" cX4_readBlock 6 p s m args c) (hr : meth.sig.returnType = (some .boolean)) (hlk : meth.locks = false) {b : Nat} {p1 : Int32} {p2 : Int32} {Q : Int32 → St → Prop} (hb : kd b = 3) {R22 : Int32 × Int32 × Int32 × Int32 × St → Prop} (hR22 : ∀ (v1 : Int32) (v2 : Int32) (v3 : Int32) (v4 : Int32) (st : St), ∀ (H : Heap) (locs : List Loc) (ls : Array Slot), R22 (v1, v2, v3, v4, st) → lv_has ls 6 [(0, .ref (E.2.1 b)), (1, .int v1), (2, .int v2), (3, .int v3), (4, .int v4)] → va_P E.1 vwCl (wd E L st) H → va_S (fA E L s.heap.size) s.heap H locs → W p l e rmX4_readBlock_4 s m args below meth c H locs 0 0 (MQ below (zI E L (fun r u => bz r ∧ Q r u) (fA E L s.heap.size)) args s rmX4_readBlock_4.cells rmX4_readBlock_4.slots (fA E L s.heap.size)) (F0 m 22 ls [])) {v1 : Int32} {v2 : Int32} {v3 : Int32} {v4 : Int32} {v5 : Int32}  {st : St} (H : Heap) (locs : List Loc) (ls : Array Slot) (h : wX4_readBlock_4_L65 b p1 p2 R22 v1 v2 v3 v4 v5 st Q) (hl : lv_has ls 6 [(0, .ref (E.2.1 b)), (1, .int v1), (2, .int v2), (3, .int v3), (4, .int v4), (5, .int v5)]) (hP : va_P E.1 vwCl (wd E L st) H) (hS : va_S (fA E L s.heap.size) s.heap H locs) : W p l e rmX4_readBlock_4 s m args below meth c H locs 0 0 (MQ below (zI E L (fun r u => bz r ∧ Q r u) (fA E L s.heap.size)) args s rmX4_readBlock_4.cells rmX4_readBlock_4.slots (fA E L s.heap.size)) (F0 m 65 ls []) := by
  unfold wX4_readBlock_4_L65 at h
  refine lv_aload_n C.1 C.2.1 dX4_readBlock_65 rfl (lv_at hl 0 rfl) ?_
  refine gf3_1 C hP hb (m3 hb hL) q265 dX4_readBlock_66 ?_
  obtain ⟨hc10, h⟩ := h
  obtain ⟨c10, ec10⟩ : ∃ z, z = gR st b 1 := ⟨_, rfl⟩
  rw [← ec10]; rw [← ec10] at hc10; have h := h c10 ec10
  refine lv_iload_n C.1 C.2.1 dX4_readBlock_69 rfl (lv_at hl 3 rfl) ?_
  refine z_ki hS (z_runV (As := [.int v3]) (rest := []) C hP hS (m1 hc10 hL) (e1 hc10) rfl (tX1_hasAct C.2.2.2.2.2.2.1 (hL.mo (Nat.le_of_ble_eq_true rfl) (Nat.le_of_ble_eq_true rfl)) hc10 h) q581 q582 q583 q107 q584 hdX1_hasAct ⟨Nat.le_of_ble_eq_true rfl, Nat.le_of_ble_eq_true rfl⟩ ⟨Nat.zero_le _, Nat.zero_le _⟩ rfl hl.1 rfl (lv_room (Nat.le_of_ble_eq_true rfl)) dX4_readBlock_70) (fun r12 st11 H locs h hP hS => ?_)
  obtain ⟨hr12, h⟩ := h
  refine lv_if_eq C.1 C.2.1 (tgt := 87) dX4_readBlock_73 (by decide) (fun hc => ?_) (fun hc => ?_)
  · have h := h.1 hc
    exact tX4_readBlock_4_L87 hL C hr hlk hb hR22 _ _ _ h (lv_sub hl [0, 1, 2, 4, 5] rfl) hP hS
  · have h := h.2 hc
    refine lv_aload_n C.1 C.2.1 dX4_readBlock_76 rfl (lv_at hl 0 rfl) ?_
    refine gf3_1 C hP hb (m3 hb hL) q265 dX4_readBlock_77 ?_
    obtain ⟨hc13, h⟩ := h
    obtain ⟨c13, ec13⟩ : ∃ z, z = gR st11 b 1 := ⟨_, rfl⟩
    rw [← ec13]; rw [← ec13] at hc13; have h := h c13 ec13
    refine gn1_12 C hP hc13 (m1 hc13 hL) q214 dX4_readBlock_80 ?_
    refine lv_iload_n C.1 C.2.1 dX4_readBlock_83 rfl (lv_at hl 3 rfl) ?_
    refine lv_iload C.1 C.2.1 dX4_readBlock_84 (lv_at hl 5 rfl) ?_
    obtain ⟨hi, h⟩ := h
    refine z_iast C hP hS (k1_9 hc13) (l1_9 hc13) (m1_9 hc13 hL) hi dX4_readBlock_86 (fun H locs hP hS => ?_)
    obtain ⟨st14, est14⟩ : ∃ z, z = uI st11 (c13 + 9) (v3 : Int32).toNatClampNeg v5 := ⟨_, rfl⟩
    rw [← est14] at hP; have h := h st14 est14
    exact tX4_readBlock_4_L87 hL C hr hlk hb hR22 _ _ _ h (lv_sub hl [0, 1, 2, 4, 5] rfl) hP hS
set_option maxHeartbeats 4000000 in
set_option maxRecDepth 100000 in
theorem tX4_readBlock_4_L108 {l : Launch} {p : Program} {e : Env} {s : State} {m : MethodId} {args : Array Value} {below : List Frame} {meth : Method} {c : Code} {E : En0} {L : List Nat} (hL : Cov 0 54 L) (C : Cx E L "PlankBridge$Reader" cX4_readBlock 6 p s m args c) (hr : meth.sig.returnType = (some .boolean)) (hlk : meth.locks = false) {b : Nat} {p1 : Int32} {p2 : Int32} {Q : Int32 → St → Prop} (hb : kd b = 3)   {st : St} (H : Heap) (locs : List Loc) (ls : Array Slot) (h : wX4_readBlock_4_L108 b p1 p2 st Q) (hl : lv_has ls 6 [(0, .ref (E.2.1 b))]) (hP : va_P E.1 vwCl (wd E L st) H) (hS : va_S (fA E L s.heap.size) s.heap H locs) : W p l e rmX4_readBlock_4 s m args below meth c H locs 0 0 (MQ below (zI E L (fun r u => bz r ∧ Q r u) (fA E L s.heap.size)) args s rmX4_readBlock_4.cells rmX4_readBlock_4.slots (fA E L s.heap.size)) (F0 m 108 ls []) := by
  unfold wX4_readBlock_4_L108 at h
  refine lv_aload_n C.1 C.2.1 dX4_readBlock_108 rfl (lv_at hl 0 rfl) ?_
  refine z_kst C hS (i := 5) (by decide) rfl q575 dX4_readBlock_109 ?_
  refine z_ki hS (z_runV (As := [va_re E.2.2.1 (some 5)]) (rest := []) C hP hS (m3 hb hL) (e3 hb) rfl (tX4_take C.2.2.2.2.2.2.1 (hL.mo (Nat.le_of_ble_eq_true rfl) (Nat.le_of_ble_eq_true rfl)) hb h) q502 q504 q0 q109 q505 hdX4_take ⟨Nat.le_of_ble_eq_true rfl, Nat.le_of_ble_eq_true rfl⟩ ⟨Nat.zero_le _, Nat.zero_le _⟩ rfl hl.1 rfl (lv_room (Nat.le_of_ble_eq_true rfl)) dX4_readBlock_112) (fun r9 st8 H locs h hP hS => ?_)
  obtain ⟨hr9, h⟩ := h
  exact z_ri C hr hlk (bz_n hr9) hP hS ⟨hr9, h⟩ dX4_readBlock_115
set_option maxHeartbeats 4000000 in
set_option maxRecDepth 100000 in
theorem tX4_readBlock_4_L22 {l : Launch} {p : Program} {e : Env} {s : State} {m : MethodId} {args : Array Value} {below : List Frame} {meth : Method} {c : Code} {E : En0} {L : List Nat} (hL : Cov 0 54 L) (C : Cx E L "PlankBridge$Reader" cX4_readBlock 6 p s m args c) (hr : meth.sig.returnType = (some .boolean)) (hlk : meth.locks = false) {b : Nat} {p1 : Int32} {p2 : Int32} {Q : Int32 → St → Prop} (hb : kd b = 3) : ∀ (n : Nat) (v1 : Int32) (v2 : Int32) (v3 : Int32) (v4 : Int32) (st : St) (H : Heap) (locs : List Loc) (ls : Array Slot), lp (fun R s => wX4_readBlock_4_L22 b p1 p2 R s.1 s.2.1 s.2.2.1 s.2.2.2.1 s.2.2.2.2 Q) n (v1, v2, v3, v4, st) → lv_has ls 6 [(0, .ref (E.2.1 b)), (1, .int v1), (2, .int v2), (3, .int v3), (4, .int v4)] → va_P E.1 vwCl (wd E L st) H → va_S (fA E L s.heap.size) s.heap H locs → W p l e rmX4_readBlock_4 s m args below meth c H locs 0 0 (MQ below (zI E L (fun r u => bz r ∧ Q r u) (fA E L s.heap.size)) args s rmX4_readBlock_4.cells rmX4_readBlock_4.slots (fA E L s.heap.size)) (F0 m 22 ls []) := by
  intro n
  induction n with
  | zero => exact fun _ _ _ _ _ _ _ _ h _ _ _ => False.elim ‹_›
  | succ n ih =>
    intro v1 v2 v3 v4 st  H locs ls h hl hP hS
    have hR22 := ih
    replace h : wX4_readBlock_4_L22 b p1 p2 (lp (fun R s => wX4_readBlock_4_L22 b p1 p2 R s.1 s.2.1 s.2.2.1 s.2.2.2.1 s.2.2.2.2 Q) n) v1 v2 v3 v4 st Q := h
    unfold wX4_readBlock_4_L22 at h
    refine lv_iload C.1 C.2.1 dX4_readBlock_22 (lv_at hl 4 rfl) ?_
    refine lv_sipush C.1 C.2.1 (v := 400) dX4_readBlock_24 rfl ?_
    refine lv_icmp_ge C.1 C.2.1 (tgt := 108) dX4_readBlock_27 (by decide) (fun hc => ?_) (fun hc => ?_)
    · have h := h.1 hc
      exact tX4_readBlock_4_L108 hL C hr hlk hb _ _ _ h (lv_sub hl [0] rfl) hP hS
    · have h := h.2 hc
      refine lv_aload_n C.1 C.2.1 dX4_readBlock_30 rfl (lv_at hl 0 rfl) ?_
      refine gf3_3 C hP hb (m3 hb hL) q267 dX4_readBlock_31 ?_
      refine z_kst C hS (i := 5) (by decide) rfl q575 dX4_readBlock_34 ?_
      obtain ⟨hk3, h⟩ := h
      refine z_acmp_eq C hk3 (kin_l (by decide)) (tgt := 108) dX4_readBlock_37 (by decide) (fun hc => ?_) (fun hc => ?_)
      · have h := h.1 hc
        exact tX4_readBlock_4_L108 hL C hr hlk hb _ _ _ h (lv_sub hl [0] rfl) hP hS
      · have h := h.2 hc
        refine lv_aload_n C.1 C.2.1 dX4_readBlock_40 rfl (lv_at hl 0 rfl) ?_
        refine gf3_1 C hP hb (m3 hb hL) q265 dX4_readBlock_41 ?_
        obtain ⟨hc4, h⟩ := h
        obtain ⟨c4, ec4⟩ : ∃ z, z = gR st b 1 := ⟨_, rfl⟩
        rw [← ec4]; rw [← ec4] at hc4; have h := h c4 ec4
        refine lv_aload_n C.1 C.2.1 dX4_readBlock_44 rfl (lv_at hl 0 rfl) ?_
        refine gf3_2 C hP hb (m3 hb hL) q266 dX4_readBlock_45 ?_
        refine lv_iload_n C.1 C.2.1 dX4_readBlock_48 rfl (lv_at hl 1 rfl) ?_
        refine z_ki hS (z_runV (As := [.int (gI st b 2), .int v1]) (rest := []) C hP hS (m1 hc4 hL) (e1 hc4) rfl (tX1_addAct C.2.2.2.2.2.2.1 (hL.mo (Nat.le_of_ble_eq_true rfl) (Nat.le_of_ble_eq_true rfl)) hc4 h) q577 q578 q579 q107 q580 hdX1_addAct ⟨Nat.le_of_ble_eq_true rfl, Nat.le_of_ble_eq_true rfl⟩ ⟨Nat.zero_le _, Nat.zero_le _⟩ rfl hl.1 rfl (lv_room (Nat.le_of_ble_eq_true rfl)) dX4_readBlock_49) (fun r6 st5 H locs h hP hS => ?_)
        refine lv_istore C.1 C.2.1 dX4_readBlock_52 hl (Nat.le_of_ble_eq_true rfl) rfl (fun ls hl => ?_)
        have hl : lv_has ls 6 [(5, .int r6), (0, .ref (E.2.1 b)), (1, .int v1), (2, .int v2), (3, .int v3), (4, .int v4)] := hl
        refine lv_iload C.1 C.2.1 dX4_readBlock_54 (lv_at hl 0 rfl) ?_
        refine lv_iconst C.1 C.2.1 (v := (-1)) dX4_readBlock_56 rfl ?_
        refine lv_icmp_ne C.1 C.2.1 (tgt := 65) dX4_readBlock_57 (by decide) (fun hc => ?_) (fun hc => ?_)
        · have h := h.1 hc
          exact tX4_readBlock_4_L65 hL C hr hlk hb hR22 _ _ _ h (lv_sub hl [1, 2, 3, 4, 5, 0] rfl) hP hS
        · have h := h.2 hc
          refine lv_aload_n C.1 C.2.1 dX4_readBlock_60 rfl (lv_at hl 1 rfl) ?_
          refine lv_iconst C.1 C.2.1 (v := 4) dX4_readBlock_61 rfl ?_
          refine z_kv hS (z_runV (As := [.int 4]) (rest := []) C hP hS (m3 hb hL) (e3 hb) rfl (tX4_mark C.2.2.2.2.2.2.1 (hL.mo (Nat.le_of_ble_eq_true rfl) (Nat.le_of_ble_eq_true rfl)) hb h) q522 q524 q2 q109 q525 hdX4_mark ⟨Nat.le_of_ble_eq_true rfl, Nat.le_of_ble_eq_true rfl⟩ ⟨Nat.zero_le _, Nat.zero_le _⟩ rfl hl.1 rfl (lv_room (Nat.le_of_ble_eq_true rfl)) dX4_readBlock_62) (fun st7 H locs h hP hS => ?_)
          exact tX4_readBlock_4_L65 hL C hr hlk hb hR22 _ _ _ h (lv_sub hl [1, 2, 3, 4, 5, 0] rfl) hP hS
set_option maxHeartbeats 4000000 in
set_option maxRecDepth 100000 in
theorem tX4_readBlock_4 {l : Launch} {E : En0} {L : List Nat} (hE : EK E L) (hL : Cov 0 54 L) {b : Nat} {p1 : Int32} {p2 : Int32} {st : St} {Q : Int32 → St → Prop} (hb : kd b = 3) (h : wX4_readBlock_4 b p1 p2 st Q) : Mz l yX4_readBlock cX4_readBlock 6 (some .boolean) rmX4_readBlock_4 E L [.ref (E.2.1 b), .int p1, .int p2] st (zI E L (fun r u => bz r ∧ Q r u)) := by
  refine Mz.of hE (by decide) (Nat.le_of_ble_eq_true rfl) ?_
  intro p e s m below meth c ls C hr hlk _ hl hP
  replace C : Cx E L "PlankBridge$Reader" cX4_readBlock 6 p s m _ c := C
  have hS : va_S (fA E L s.heap.size) s.heap s.heap [] := va_S.rf
  replace hl : lv_has ls 6 [(0, .ref (E.2.1 b)), (1, .int p1), (2, .int p2)] := hl
  unfold wX4_readBlock_4 at h
  refine lv_iload_n C.1 C.2.1 dX4_readBlock_0 rfl (lv_at hl 2 rfl) ?_
  refine lv_iconst C.1 C.2.1 (v := 3) dX4_readBlock_1 rfl ?_
  refine lv_icmp_gt C.1 C.2.1 (tgt := 15) dX4_readBlock_2 (by decide) (fun hc => ?_) (fun hc => ?_)
  · have h := h.1 hc
    refine lv_iconst C.1 C.2.1 (v := 0) dX4_readBlock_15 rfl ?_
    exact z_ri C hr hlk (bz_n bz0) hP hS ⟨bz0, h⟩ dX4_readBlock_16
  · have h := h.2 hc
    refine lv_aload_n C.1 C.2.1 dX4_readBlock_5 rfl (lv_at hl 0 rfl) ?_
    refine z_kst C hS (i := 4) (by decide) rfl q573 dX4_readBlock_6 ?_
    refine z_ki hS (z_runV (As := [va_re E.2.2.1 (some 4)]) (rest := []) C hP hS (m3 hb hL) (e3 hb) rfl (tX4_take C.2.2.2.2.2.2.1 (hL.mo (Nat.le_of_ble_eq_true rfl) (Nat.le_of_ble_eq_true rfl)) hb h) q502 q504 q0 q109 q505 hdX4_take ⟨Nat.le_of_ble_eq_true rfl, Nat.le_of_ble_eq_true rfl⟩ ⟨Nat.zero_le _, Nat.zero_le _⟩ rfl hl.1 rfl (lv_room (Nat.le_of_ble_eq_true rfl)) dX4_readBlock_9) (fun r2 st1 H locs h hP hS => ?_)
    obtain ⟨hr2, h⟩ := h
    refine lv_if_ne C.1 C.2.1 (tgt := 17) dX4_readBlock_12 (by decide) (fun hc => ?_) (fun hc => ?_)
    · have h := h.1 hc
      refine lv_iconst C.1 C.2.1 (v := (-1)) dX4_readBlock_17 rfl ?_
      refine lv_istore_n C.1 C.2.1 dX4_readBlock_18 rfl hl (Nat.le_of_ble_eq_true rfl) rfl (fun ls hl => ?_)
      have hl : lv_has ls 6 [(3, .int (-1)), (0, .ref (E.2.1 b)), (1, .int p1), (2, .int p2)] := hl
      refine lv_iconst C.1 C.2.1 (v := 0) dX4_readBlock_19 rfl ?_
      refine lv_istore C.1 C.2.1 dX4_readBlock_20 hl (Nat.le_of_ble_eq_true rfl) rfl (fun ls hl => ?_)
      have hl : lv_has ls 6 [(4, .int 0), (3, .int (-1)), (0, .ref (E.2.1 b)), (1, .int p1), (2, .int p2)] := hl
      obtain ⟨n, h⟩ := h
      exact tX4_readBlock_4_L22 hL C hr hlk hb n p1 p2 (-1) 0 st1 _ _ _ h (lv_sub hl [2, 3, 4, 1, 0] rfl) hP hS
    · have h := h.2 hc
      refine lv_iconst C.1 C.2.1 (v := 0) dX4_readBlock_15 rfl ?_
      exact z_ri C hr hlk (bz_n bz0) hP hS ⟨bz0, h⟩ dX4_readBlock_16
def rmX4_readPlans : Room := { frames := 15, cells := 0, slots := 0, locals := 352 }
def wX4_readPlans_L82 (b : Nat) (R2 : Int32 × St → Prop) (v1 : Int32) (v2 : Int32) (v3 : Int32) (s0 : Int32) (st : St) (Q : Int32 → St → Prop) : Prop :=
  ((¬ s0 = 0 → (kd (gR st b 1) = 1 ∧ ∀ c12, c12 = gR st b 1 → (kd (gR st b 0) = 6 ∧ ∀ c13, c13 = gR st b 0 → (wX7_wordAt c13 v2 st (fun r15 st14 => (kd (gR st14 b 1) = 1 ∧ ∀ c16, c16 = gR st14 b 1 → (wX1_firstSince c16 v3 st14 (fun r18 st17 => (wX1_addPlan c12 r15 r18 st17 (fun st19 => (∀ x20 : Int32, x20 = v1 + 1 → R2 (x20, st19)))))))))))) ∧ (s0 = 0 → Q 0 st))
def wX4_readPlans_L81 (b : Nat) (R2 : Int32 × St → Prop) (v1 : Int32) (v2 : Int32) (v3 : Int32) (st : St) (Q : Int32 → St → Prop) : Prop :=
  wX4_readPlans_L82 b R2 v1 v2 v3 0 st Q
def wX4_readPlans_L62 (b : Nat) (R2 : Int32 × St → Prop) (v1 : Int32) (v2 : Int32) (v3 : Int32) (s0 : Int32) (st : St) (Q : Int32 → St → Prop) : Prop :=
  (wX4_takeNewName b s0 st (fun r9 st8 => ((r9 = 0 → wX4_readPlans_L81 b R2 v1 v2 v3 st8 Q) ∧ (¬ r9 = 0 → (wX4_readBlock_4 b (-1) 1 st8 (fun r11 st10 => ((r11 = 0 → wX4_readPlans_L81 b R2 v1 v2 v3 st10 Q) ∧ (¬ r11 = 0 → wX4_readPlans_L82 b R2 v1 v2 v3 1 st10 Q))))))))
def wX4_readPlans_L2 (b : Nat)  (R2 : Int32 × St → Prop) (v1 : Int32) (st : St) (Q : Int32 → St → Prop) : Prop :=
  ((400 ≤ v1 → Q 1 st) ∧ (¬ 400 ≤ v1 → (kin (gK st b 3) ∧ (¬ (gK st b 3) = ((some 15)) → Q 1 st) ∧ ((gK st b 3) = ((some 15)) → (∀ x2 : Int32, x2 = ((gI st b 2) + 1) → (kd (gR st b 1) = 1 ∧ ∀ c3, c3 = gR st b 1 → (∀ x4 : Int32, x4 = (gI st c3 15) → (wX4_take b (some 15) st (fun r6 st5 => ((r6 = 0 → wX4_readPlans_L81 b R2 v1 x2 x4 st5 Q) ∧ (¬ r6 = 0 → (kd (gR st5 b 1) = 1 ∧ ∀ c7, c7 = gR st5 b 1 → (((gI st5 c7 9) < 6 → wX4_readPlans_L62 b R2 v1 x2 x4 0 st5 Q) ∧ (¬ (gI st5 c7 9) < 6 → wX4_readPlans_L62 b R2 v1 x2 x4 1 st5 Q))))))))))))))
def wX4_readPlans (b : Nat) (st : St) (Q : Int32 → St → Prop) : Prop :=
  (∃ n, lp (fun R s => wX4_readPlans_L2 b R s.1 s.2 Q) n (0, st))
theorem hdX4_readPlans : yX4_readPlans.cls = "PlankBridge$Reader" ∧ yX4_readPlans.cls ≠ "java/lang/invoke/MethodHandle" ∧ yX4_readPlans.cls ≠ "java/lang/invoke/VarHandle" ∧ (parseMethodDescriptor yX4_readPlans.desc).map (fun d => d.parameters.length) = some 0 := by decide +kernel
set_option maxHeartbeats 4000000 in
set_option maxRecDepth 100000 in
theorem tX4_readPlans_L82 {l : Launch} {p : Program} {e : Env} {s : State} {m : MethodId} {args : Array Value} {below : List Frame} {meth : Method} {c : Code} {E : En0} {L : List Nat} (hL : Cov 0 54 L) (C : Cx E L "PlankBridge$Reader" cX4_readPlans 5 p s m args c) (hr : meth.sig.returnType = (some .boolean)) (hlk : meth.locks = false) {b : Nat} {Q : Int32 → St → Prop} (hb : kd b = 3) {R2 : Int32 × St → Prop} (hR2 : ∀ (v1 : Int32) (st : St), ∀ (H : Heap) (locs : List Loc) (ls : Array Slot), R2 (v1, st) → lv_has ls 5 [(0, .ref (E.2.1 b)), (1, .int v1)] → va_P E.1 vwCl (wd E L st) H → va_S (fA E L s.heap.size) s.heap H locs → W p l e rmX4_readPlans s m args below meth c H locs 0 0 (MQ below (zI E L (fun r u => bz r ∧ Q r u) (fA E L s.heap.size)) args s rmX4_readPlans.cells rmX4_readPlans.slots (fA E L s.heap.size)) (F0 m 2 ls [])) {v1 : Int32} {v2 : Int32} {v3 : Int32} {s0 : Int32}  {st : St} (H : Heap) (locs : List Loc) (ls : Array Slot) (h : wX4_readPlans_L82 b R2 v1 v2 v3 s0 st Q) (hl : lv_has ls 5 [(0, .ref (E.2.1 b)), (1, .int v1), (2, .int v2), (3, .int v3)]) (hP : va_P E.1 vwCl (wd E L st) H) (hS : va_S (fA E L s.heap.size) s.heap H locs) : W p l e rmX4_readPlans s m args below meth c H locs 0 0 (MQ below (zI E L (fun r u => bz r ∧ Q r u) (fA E L s.heap.size)) args s rmX4_readPlans.cells rmX4_readPlans.slots (fA E L s.heap.size)) (F0 m 82 ls [.int s0]) := by
  unfold wX4_readPlans_L82 at h
  refine lv_istore C.1 C.2.1 dX4_readPlans_82 hl (Nat.le_of_ble_eq_true rfl) rfl (fun ls hl => ?_)
  have hl : lv_has ls 5 [(4, .int s0), (0, .ref (E.2.1 b)), (1, .int v1), (2, .int v2), (3, .int v3)] := hl
  refine lv_iload C.1 C.2.1 dX4_readPlans_84 (lv_at hl 0 rfl) ?_
  refine lv_if_ne C.1 C.2.1 (tgt := 91) dX4_readPlans_86 (by decide) (fun hc => ?_) (fun hc => ?_)
  · have h := h.1 hc
    refine lv_aload_n C.1 C.2.1 dX4_readPlans_91 rfl (lv_at hl 1 rfl) ?_
    refine gf3_1 C hP hb (m3 hb hL) q265 dX4_readPlans_92 ?_
    obtain ⟨hc12, h⟩ := h
    obtain ⟨c12, ec12⟩ : ∃ z, z = gR st b 1 := ⟨_, rfl⟩
    rw [← ec12]; rw [← ec12] at hc12; have h := h c12 ec12
    refine lv_aload_n C.1 C.2.1 dX4_readPlans_95 rfl (lv_at hl 1 rfl) ?_
    refine gf3_0 C hP hb (m3 hb hL) q264 dX4_readPlans_96 ?_
    obtain ⟨hc13, h⟩ := h
    obtain ⟨c13, ec13⟩ : ∃ z, z = gR st b 0 := ⟨_, rfl⟩
    rw [← ec13]; rw [← ec13] at hc13; have h := h c13 ec13
    refine lv_iload_n C.1 C.2.1 dX4_readPlans_99 rfl (lv_at hl 3 rfl) ?_
    refine z_kj hS (z_runV (As := [.int v2]) (rest := [.ref (E.2.1 c12)]) C hP hS (m6 hc13 hL) (e6 hc13) rfl (tX7_wordAt C.2.2.2.2.2.2.1 (hL.mo (Nat.le_of_ble_eq_true rfl) (Nat.le_of_ble_eq_true rfl)) hc13 h) q510 q511 q512 q108 q513 hdX7_wordAt ⟨Nat.le_of_ble_eq_true rfl, Nat.le_of_ble_eq_true rfl⟩ ⟨Nat.zero_le _, Nat.zero_le _⟩ rfl hl.1 rfl (lv_room (Nat.le_of_ble_eq_true rfl)) dX4_readPlans_100) (fun r15 st14 H locs h hP hS => ?_)
    refine lv_aload_n C.1 C.2.1 dX4_readPlans_103 rfl (lv_at hl 1 rfl) ?_
    refine gf3_1 C hP hb (m3 hb hL) q265 dX4_readPlans_104 ?_
    obtain ⟨hc16, h⟩ := h
    obtain ⟨c16, ec16⟩ : ∃ z, z = gR st14 b 1 := ⟨_, rfl⟩
    rw [← ec16]; rw [← ec16] at hc16; have h := h c16 ec16
    refine lv_iload_n C.1 C.2.1 dX4_readPlans_107 rfl (lv_at hl 4 rfl) ?_
    refine z_ki hS (z_runV (As := [.int v3]) (rest := [.long r15, .ref (E.2.1 c12)]) C hP hS (m1 hc16 hL) (e1 hc16) rfl (tX1_firstSince C.2.2.2.2.2.2.1 (hL.mo (Nat.le_of_ble_eq_true rfl) (Nat.le_of_ble_eq_true rfl)) hc16 h) q665 q666 q667 q107 q668 hdX1_firstSince ⟨Nat.le_of_ble_eq_true rfl, Nat.le_of_ble_eq_true rfl⟩ ⟨Nat.zero_le _, Nat.zero_le _⟩ rfl hl.1 rfl (lv_room (Nat.le_of_ble_eq_true rfl)) dX4_readPlans_108) (fun r18 st17 H locs h hP hS => ?_)
    refine z_kv hS (z_runV (As := [.long r15, .int r18]) (rest := []) C hP hS (m1 hc12 hL) (e1 hc12) rfl (tX1_addPlan C.2.2.2.2.2.2.1 (hL.mo (Nat.le_of_ble_eq_true rfl) (Nat.le_of_ble_eq_true rfl)) hc12 h) q671 q672 q673 q107 q674 hdX1_addPlan ⟨Nat.le_of_ble_eq_true rfl, Nat.le_of_ble_eq_true rfl⟩ ⟨Nat.zero_le _, Nat.zero_le _⟩ rfl hl.1 rfl (lv_room (Nat.le_of_ble_eq_true rfl)) dX4_readPlans_111) (fun st19 H locs h hP hS => ?_)
    obtain ⟨x20, ex20⟩ : ∃ z, z = v1 + 1 := ⟨_, rfl⟩
    have h := h x20 ex20
    refine lv_iinc C.1 C.2.1 dX4_readPlans_114 hl (k := 2) rfl ex20.symm (Nat.le_of_ble_eq_true rfl) rfl (fun ls hl => ?_)
    have hl : lv_has ls 5 [(1, .int x20), (4, .int s0), (0, .ref (E.2.1 b)), (2, .int v2), (3, .int v3)] := hl
    refine lv_goto C.1 C.2.1 (tgt := 2) dX4_readPlans_117 (by decide) ?_
    exact hR2 x20 st19 _ _ _ h (lv_sub hl [2, 0] rfl) hP hS
  · have h := h.2 hc
    refine lv_iconst C.1 C.2.1 (v := 0) dX4_readPlans_89 rfl ?_
    exact z_ri C hr hlk (bz_n bz0) hP hS ⟨bz0, h⟩ dX4_readPlans_90
set_option maxHeartbeats 4000000 in
set_option maxRecDepth 100000 in
theorem tX4_readPlans_L81 {l : Launch} {p : Program} {e : Env} {s : State} {m : MethodId} {args : Array Value} {below : List Frame} {meth : Method} {c : Code} {E : En0} {L : List Nat} (hL : Cov 0 54 L) (C : Cx E L "PlankBridge$Reader" cX4_readPlans 5 p s m args c) (hr : meth.sig.returnType = (some .boolean)) (hlk : meth.locks = false) {b : Nat} {Q : Int32 → St → Prop} (hb : kd b = 3) {R2 : Int32 × St → Prop} (hR2 : ∀ (v1 : Int32) (st : St), ∀ (H : Heap) (locs : List Loc) (ls : Array Slot), R2 (v1, st) → lv_has ls 5 [(0, .ref (E.2.1 b)), (1, .int v1)] → va_P E.1 vwCl (wd E L st) H → va_S (fA E L s.heap.size) s.heap H locs → W p l e rmX4_readPlans s m args below meth c H locs 0 0 (MQ below (zI E L (fun r u => bz r ∧ Q r u) (fA E L s.heap.size)) args s rmX4_readPlans.cells rmX4_readPlans.slots (fA E L s.heap.size)) (F0 m 2 ls [])) {v1 : Int32} {v2 : Int32} {v3 : Int32}  {st : St} (H : Heap) (locs : List Loc) (ls : Array Slot) (h : wX4_readPlans_L81 b R2 v1 v2 v3 st Q) (hl : lv_has ls 5 [(0, .ref (E.2.1 b)), (1, .int v1), (2, .int v2), (3, .int v3)]) (hP : va_P E.1 vwCl (wd E L st) H) (hS : va_S (fA E L s.heap.size) s.heap H locs) : W p l e rmX4_readPlans s m args below meth c H locs 0 0 (MQ below (zI E L (fun r u => bz r ∧ Q r u) (fA E L s.heap.size)) args s rmX4_readPlans.cells rmX4_readPlans.slots (fA E L s.heap.size)) (F0 m 81 ls []) := by
  unfold wX4_readPlans_L81 at h
  refine lv_iconst C.1 C.2.1 (v := 0) dX4_readPlans_81 rfl ?_
  exact tX4_readPlans_L82 hL C hr hlk hb hR2 _ _ _ h hl hP hS
set_option maxHeartbeats 4000000 in
set_option maxRecDepth 100000 in
theorem tX4_readPlans_L62 {l : Launch} {p : Program} {e : Env} {s : State} {m : MethodId} {args : Array Value} {below : List Frame} {meth : Method} {c : Code} {E : En0} {L : List Nat} (hL : Cov 0 54 L) (C : Cx E L "PlankBridge$Reader" cX4_readPlans 5 p s m args c) (hr : meth.sig.returnType = (some .boolean)) (hlk : meth.locks = false) {b : Nat} {Q : Int32 → St → Prop} (hb : kd b = 3) {R2 : Int32 × St → Prop} (hR2 : ∀ (v1 : Int32) (st : St), ∀ (H : Heap) (locs : List Loc) (ls : Array Slot), R2 (v1, st) → lv_has ls 5 [(0, .ref (E.2.1 b)), (1, .int v1)] → va_P E.1 vwCl (wd E L st) H → va_S (fA E L s.heap.size) s.heap H locs → W p l e rmX4_readPlans s m args below meth c H locs 0 0 (MQ below (zI E L (fun r u => bz r ∧ Q r u) (fA E L s.heap.size)) args s rmX4_readPlans.cells rmX4_readPlans.slots (fA E L s.heap.size)) (F0 m 2 ls [])) {v1 : Int32} {v2 : Int32} {v3 : Int32} {s0 : Int32}  {st : St} (H : Heap) (locs : List Loc) (ls : Array Slot) (h : wX4_readPlans_L62 b R2 v1 v2 v3 s0 st Q) (hl : lv_has ls 5 [(0, .ref (E.2.1 b)), (1, .int v1), (2, .int v2), (3, .int v3)]) (hP : va_P E.1 vwCl (wd E L st) H) (hS : va_S (fA E L s.heap.size) s.heap H locs) : W p l e rmX4_readPlans s m args below meth c H locs 0 0 (MQ below (zI E L (fun r u => bz r ∧ Q r u) (fA E L s.heap.size)) args s rmX4_readPlans.cells rmX4_readPlans.slots (fA E L s.heap.size)) (F0 m 62 ls [.int s0, .ref (E.2.1 b)]) := by
  unfold wX4_readPlans_L62 at h
  refine z_ki hS (z_runV (As := [.int s0]) (rest := []) C hP hS (m3 hb hL) (e3 hb) rfl (tX4_takeNewName C.2.2.2.2.2.2.1 (hL.mo (Nat.le_of_ble_eq_true rfl) (Nat.le_of_ble_eq_true rfl)) hb h) q506 q508 q1 q109 q509 hdX4_takeNewName ⟨Nat.le_of_ble_eq_true rfl, Nat.le_of_ble_eq_true rfl⟩ ⟨Nat.zero_le _, Nat.zero_le _⟩ rfl hl.1 rfl (lv_room (Nat.le_of_ble_eq_true rfl)) dX4_readPlans_62) (fun r9 st8 H locs h hP hS => ?_)
  obtain ⟨hr9, h⟩ := h
  refine lv_if_eq C.1 C.2.1 (tgt := 81) dX4_readPlans_65 (by decide) (fun hc => ?_) (fun hc => ?_)
  · have h := h.1 hc
    exact tX4_readPlans_L81 hL C hr hlk hb hR2 _ _ _ h hl hP hS
  · have h := h.2 hc
    refine lv_aload_n C.1 C.2.1 dX4_readPlans_68 rfl (lv_at hl 0 rfl) ?_
    refine lv_iconst C.1 C.2.1 (v := (-1)) dX4_readPlans_69 rfl ?_
    refine lv_iconst C.1 C.2.1 (v := 1) dX4_readPlans_70 rfl ?_
    refine z_ki hS (z_runV (As := [.int (-1), .int 1]) (rest := []) C hP hS (m3 hb hL) (e3 hb) rfl (tX4_readBlock_4 C.2.2.2.2.2.2.1 (hL.mo (Nat.le_of_ble_eq_true rfl) (Nat.le_of_ble_eq_true rfl)) hb h) q569 q571 q6 q109 q572 hdX4_readBlock_4 ⟨Nat.le_of_ble_eq_true rfl, Nat.le_of_ble_eq_true rfl⟩ ⟨Nat.zero_le _, Nat.zero_le _⟩ rfl hl.1 rfl (lv_room (Nat.le_of_ble_eq_true rfl)) dX4_readPlans_71) (fun r11 st10 H locs h hP hS => ?_)
    obtain ⟨hr11, h⟩ := h
    refine lv_if_eq C.1 C.2.1 (tgt := 81) dX4_readPlans_74 (by decide) (fun hc => ?_) (fun hc => ?_)
    · have h := h.1 hc
      exact tX4_readPlans_L81 hL C hr hlk hb hR2 _ _ _ h hl hP hS
    · have h := h.2 hc
      refine lv_iconst C.1 C.2.1 (v := 1) dX4_readPlans_77 rfl ?_
      refine lv_goto C.1 C.2.1 (tgt := 82) dX4_readPlans_78 (by decide) ?_
      exact tX4_readPlans_L82 hL C hr hlk hb hR2 _ _ _ h hl hP hS
set_option maxHeartbeats 4000000 in
set_option maxRecDepth 100000 in
theorem tX4_readPlans_L2 {l : Launch} {p : Program} {e : Env} {s : State} {m : MethodId} {args : Array Value} {below : List Frame} {meth : Method} {c : Code} {E : En0} {L : List Nat} (hL : Cov 0 54 L) (C : Cx E L "PlankBridge$Reader" cX4_readPlans 5 p s m args c) (hr : meth.sig.returnType = (some .boolean)) (hlk : meth.locks = false) {b : Nat} {Q : Int32 → St → Prop} (hb : kd b = 3) : ∀ (n : Nat) (v1 : Int32) (st : St) (H : Heap) (locs : List Loc) (ls : Array Slot), lp (fun R s => wX4_readPlans_L2 b R s.1 s.2 Q) n (v1, st) → lv_has ls 5 [(0, .ref (E.2.1 b)), (1, .int v1)] → va_P E.1 vwCl (wd E L st) H → va_S (fA E L s.heap.size) s.heap H locs → W p l e rmX4_readPlans s m args below meth c H locs 0 0 (MQ below (zI E L (fun r u => bz r ∧ Q r u) (fA E L s.heap.size)) args s rmX4_readPlans.cells rmX4_readPlans.slots (fA E L s.heap.size)) (F0 m 2 ls []) := by
  intro n
  induction n with
  | zero => exact fun _ _ _ _ _ h _ _ _ => False.elim ‹_›
  | succ n ih =>
    intro v1 st  H locs ls h hl hP hS
    have hR2 := ih
    replace h : wX4_readPlans_L2 b (lp (fun R s => wX4_readPlans_L2 b R s.1 s.2 Q) n) v1 st Q := h
    unfold wX4_readPlans_L2 at h
    refine lv_iload_n C.1 C.2.1 dX4_readPlans_2 rfl (lv_at hl 1 rfl) ?_
    refine lv_sipush C.1 C.2.1 (v := 400) dX4_readPlans_3 rfl ?_
    refine lv_icmp_ge C.1 C.2.1 (tgt := 120) dX4_readPlans_6 (by decide) (fun hc => ?_) (fun hc => ?_)
    · have h := h.1 hc
      refine lv_iconst C.1 C.2.1 (v := 1) dX4_readPlans_120 rfl ?_
      exact z_ri C hr hlk (bz_n bz1) hP hS ⟨bz1, h⟩ dX4_readPlans_121
    · have h := h.2 hc
      refine lv_aload_n C.1 C.2.1 dX4_readPlans_9 rfl (lv_at hl 0 rfl) ?_
      refine gf3_3 C hP hb (m3 hb hL) q267 dX4_readPlans_10 ?_
      refine z_kst C hS (i := 15) (by decide) rfl q567 dX4_readPlans_13 ?_
      obtain ⟨hk1, h⟩ := h
      refine z_acmp_ne C hk1 (kin_l (by decide)) (tgt := 120) dX4_readPlans_16 (by decide) (fun hc => ?_) (fun hc => ?_)
      · have h := h.1 hc
        refine lv_iconst C.1 C.2.1 (v := 1) dX4_readPlans_120 rfl ?_
        exact z_ri C hr hlk (bz_n bz1) hP hS ⟨bz1, h⟩ dX4_readPlans_121
      · have h := h.2 hc
        refine lv_aload_n C.1 C.2.1 dX4_readPlans_19 rfl (lv_at hl 0 rfl) ?_
        refine gf3_2 C hP hb (m3 hb hL) q266 dX4_readPlans_20 ?_
        refine lv_iconst C.1 C.2.1 (v := 1) dX4_readPlans_23 rfl ?_
        refine lv_iadd C.1 C.2.1 dX4_readPlans_24  ?_
        refine lv_topi (fun x2 ex2 => ?_)
        have h := h x2 ex2
        refine lv_istore_n C.1 C.2.1 dX4_readPlans_25 rfl hl (Nat.le_of_ble_eq_true rfl) rfl (fun ls hl => ?_)
        have hl : lv_has ls 5 [(2, .int x2), (0, .ref (E.2.1 b)), (1, .int v1)] := hl
        refine lv_aload_n C.1 C.2.1 dX4_readPlans_26 rfl (lv_at hl 1 rfl) ?_
        refine gf3_1 C hP hb (m3 hb hL) q265 dX4_readPlans_27 ?_
        obtain ⟨hc3, h⟩ := h
        obtain ⟨c3, ec3⟩ : ∃ z, z = gR st b 1 := ⟨_, rfl⟩
        rw [← ec3]; rw [← ec3] at hc3; have h := h c3 ec3
        refine gn1_15 C hP hc3 (m1 hc3 hL) q222 dX4_readPlans_30 ?_
        refine lv_topi (fun x4 ex4 => ?_)
        have h := h x4 ex4
        refine lv_istore_n C.1 C.2.1 dX4_readPlans_33 rfl hl (Nat.le_of_ble_eq_true rfl) rfl (fun ls hl => ?_)
        have hl : lv_has ls 5 [(3, .int x4), (2, .int x2), (0, .ref (E.2.1 b)), (1, .int v1)] := hl
        refine lv_aload_n C.1 C.2.1 dX4_readPlans_34 rfl (lv_at hl 2 rfl) ?_
        refine z_kst C hS (i := 15) (by decide) rfl q567 dX4_readPlans_35 ?_
        refine z_ki hS (z_runV (As := [va_re E.2.2.1 (some 15)]) (rest := []) C hP hS (m3 hb hL) (e3 hb) rfl (tX4_take C.2.2.2.2.2.2.1 (hL.mo (Nat.le_of_ble_eq_true rfl) (Nat.le_of_ble_eq_true rfl)) hb h) q502 q504 q0 q109 q505 hdX4_take ⟨Nat.le_of_ble_eq_true rfl, Nat.le_of_ble_eq_true rfl⟩ ⟨Nat.zero_le _, Nat.zero_le _⟩ rfl hl.1 rfl (lv_room (Nat.le_of_ble_eq_true rfl)) dX4_readPlans_38) (fun r6 st5 H locs h hP hS => ?_)
        obtain ⟨hr6, h⟩ := h
        refine lv_if_eq C.1 C.2.1 (tgt := 81) dX4_readPlans_41 (by decide) (fun hc => ?_) (fun hc => ?_)
        · have h := h.1 hc
          exact tX4_readPlans_L81 hL C hr hlk hb hR2 _ _ _ h (lv_sub hl [2, 3, 1, 0] rfl) hP hS
        · have h := h.2 hc
          refine lv_aload_n C.1 C.2.1 dX4_readPlans_44 rfl (lv_at hl 2 rfl) ?_
          refine lv_aload_n C.1 C.2.1 dX4_readPlans_45 rfl (lv_at hl 2 rfl) ?_
          refine gf3_1 C hP hb (m3 hb hL) q265 dX4_readPlans_46 ?_
          obtain ⟨hc7, h⟩ := h
          obtain ⟨c7, ec7⟩ : ∃ z, z = gR st5 b 1 := ⟨_, rfl⟩
          rw [← ec7]; rw [← ec7] at hc7; have h := h c7 ec7
          refine gn1_9 C hP hc7 (m1 hc7 hL) q208 dX4_readPlans_49 ?_
          refine lv_bipush C.1 C.2.1 (v := 6) dX4_readPlans_52 rfl ?_
          refine lv_icmp_lt C.1 C.2.1 (tgt := 61) dX4_readPlans_54 (by decide) (fun hc => ?_) (fun hc => ?_)
          · have h := h.1 hc
            refine lv_iconst C.1 C.2.1 (v := 0) dX4_readPlans_61 rfl ?_
            exact tX4_readPlans_L62 hL C hr hlk hb hR2 _ _ _ h (lv_sub hl [2, 3, 1, 0] rfl) hP hS
          · have h := h.2 hc
            refine lv_iconst C.1 C.2.1 (v := 1) dX4_readPlans_57 rfl ?_
            refine lv_goto C.1 C.2.1 (tgt := 62) dX4_readPlans_58 (by decide) ?_
            exact tX4_readPlans_L62 hL C hr hlk hb hR2 _ _ _ h (lv_sub hl [2, 3, 1, 0] rfl) hP hS
set_option maxHeartbeats 4000000 in
set_option maxRecDepth 100000 in
theorem tX4_readPlans {l : Launch} {E : En0} {L : List Nat} (hE : EK E L) (hL : Cov 0 54 L) {b : Nat} {st : St} {Q : Int32 → St → Prop} (hb : kd b = 3) (h : wX4_readPlans b st Q) : Mz l yX4_readPlans cX4_readPlans 5 (some .boolean) rmX4_readPlans E L [.ref (E.2.1 b)] st (zI E L (fun r u => bz r ∧ Q r u)) := by
  refine Mz.of hE (by decide) (Nat.le_of_ble_eq_true rfl) ?_
  intro p e s m below meth c ls C hr hlk _ hl hP
  replace C : Cx E L "PlankBridge$Reader" cX4_readPlans 5 p s m _ c := C
  have hS : va_S (fA E L s.heap.size) s.heap s.heap [] := va_S.rf
  replace hl : lv_has ls 5 [(0, .ref (E.2.1 b))] := hl
  unfold wX4_readPlans at h
  refine lv_iconst C.1 C.2.1 (v := 0) dX4_readPlans_0 rfl ?_
  refine lv_istore_n C.1 C.2.1 dX4_readPlans_1 rfl hl (Nat.le_of_ble_eq_true rfl) rfl (fun ls hl => ?_)
  have hl : lv_has ls 5 [(1, .int 0), (0, .ref (E.2.1 b))] := hl
  obtain ⟨n, h⟩ := h
  exact tX4_readPlans_L2 hL C hr hlk hb n 0 st _ _ _ h (lv_sub hl [1, 0] rfl) hP hS

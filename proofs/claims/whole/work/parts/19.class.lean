def rmX9_feed : Room := { frames := 6, cells := 1, slots := 6, locals := 90 }
def wX9_feed (b : Nat) (p1 : Int32) (p2 : Int32) (p3 : Int32) (p4 : Int32) (p5 : Int32) (st : St) (Q : Int32 → St → Prop) (X : String → St → Prop) : Prop :=
  (wX6_hasRoomFor (b + 1) 20 st (fun r2 st1 => ((¬ r2 = 0 → (wX6_append (b + 1) p1 st1 (fun st3 => (wX6_append (b + 1) p2 st3 (fun st4 => (wX6_append (b + 1) p3 st4 (fun st5 => (wX6_append (b + 1) p4 st5 (fun st6 => (wX6_append (b + 1) p5 st6 (fun st7 => Q (gI st7 (b + 1) 1) st7))))))))))) ∧ (r2 = 0 → X "java/lang/IllegalStateException" st1))))
theorem hdX9_feed : yX9_feed.cls = "PlankBridge" ∧ yX9_feed.cls ≠ "java/lang/invoke/MethodHandle" ∧ yX9_feed.cls ≠ "java/lang/invoke/VarHandle" ∧ (parseMethodDescriptor yX9_feed.desc).map (fun d => d.parameters.length) = some 5 := by decide +kernel
set_option maxHeartbeats 4000000 in
set_option maxRecDepth 100000 in
theorem tX9_feed {l : Launch} {E : En0} {L : List Nat} (hE : EK E L) (hL : Cov 0 54 L) {b : Nat} {p1 : Int32} {p2 : Int32} {p3 : Int32} {p4 : Int32} {p5 : Int32} {st : St} {Q : Int32 → St → Prop} {X : String → St → Prop} (hb : kd b = 8) (hfl : l.stackTraces = false) (h : wX9_feed b p1 p2 p3 p4 p5 st Q X) : Mx l yX9_feed cX9_feed 6 (some .int) rmX9_feed E L [.ref (E.2.1 b), .int p1, .int p2, .int p3, .int p4, .int p5] st (zI E L Q) X := by
  refine Mx.of hE (by decide) (Nat.le_of_ble_eq_true rfl) ?_
  intro p e s m below meth c ls C hr hlk htab hl hP
  replace C : Cx E L "PlankBridge" cX9_feed 6 p s m _ c := C
  have hS : va_S (fA E L s.heap.size) s.heap s.heap [] := va_S.rf
  replace hl : lv_has ls 6 [(0, .ref (E.2.1 b)), (1, .int p1), (2, .int p2), (3, .int p3), (4, .int p4), (5, .int p5)] := hl
  unfold wX9_feed at h
  refine lv_aload_n C.1 C.2.1 dX9_feed_0 rfl (lv_at hl 0 rfl) ?_
  refine gf8_0 C hP hb (m8 hb hL) q410 dX9_feed_1 ?_
  refine lv_bipush C.1 C.2.1 (v := 20) dX9_feed_4 rfl ?_
  refine z_ki hS (z_runV (As := [.int 20]) (rest := []) C hP hS (m8_1 hb hL) (e5 (k8_1 hb)) rfl (tX6_hasRoomFor C.2.2.2.2.2.2.1 (hL.mo (Nat.le_of_ble_eq_true rfl) (Nat.le_of_ble_eq_true rfl)) (k8_1 hb) h) q853 q854 q855 q106 q856 hdX6_hasRoomFor ⟨Nat.le_of_ble_eq_true rfl, Nat.le_of_ble_eq_true rfl⟩ ⟨Nat.le_of_ble_eq_true rfl, Nat.le_of_ble_eq_true rfl⟩ rfl hl.1 rfl (lv_room (Nat.le_of_ble_eq_true rfl)) dX9_feed_6) (fun r2 st1 H locs h hP hS => ?_)
  obtain ⟨hr2, h⟩ := h
  refine lv_if_ne C.1 C.2.1 (tgt := 22) dX9_feed_9 (by decide) (fun hc => ?_) (fun hc => ?_)
  · have h := h.1 hc
    refine lv_aload_n C.1 C.2.1 dX9_feed_22 rfl (lv_at hl 0 rfl) ?_
    refine gf8_0 C hP hb (m8 hb hL) q410 dX9_feed_23 ?_
    refine lv_iload_n C.1 C.2.1 dX9_feed_26 rfl (lv_at hl 1 rfl) ?_
    refine z_kv hS (z_runV (As := [.int p1]) (rest := []) C hP hS (m8_1 hb hL) (e5 (k8_1 hb)) rfl (tX6_append C.2.2.2.2.2.2.1 (hL.mo (Nat.le_of_ble_eq_true rfl) (Nat.le_of_ble_eq_true rfl)) (k8_1 hb) h) q924 q925 q926 q106 q927 hdX6_append ⟨Nat.le_of_ble_eq_true rfl, Nat.le_of_ble_eq_true rfl⟩ ⟨Nat.le_of_ble_eq_true rfl, Nat.le_of_ble_eq_true rfl⟩ rfl hl.1 rfl (lv_room (Nat.le_of_ble_eq_true rfl)) dX9_feed_27) (fun st3 H locs h hP hS => ?_)
    refine lv_aload_n C.1 C.2.1 dX9_feed_30 rfl (lv_at hl 0 rfl) ?_
    refine gf8_0 C hP hb (m8 hb hL) q410 dX9_feed_31 ?_
    refine lv_iload_n C.1 C.2.1 dX9_feed_34 rfl (lv_at hl 2 rfl) ?_
    refine z_kv hS (z_runV (As := [.int p2]) (rest := []) C hP hS (m8_1 hb hL) (e5 (k8_1 hb)) rfl (tX6_append C.2.2.2.2.2.2.1 (hL.mo (Nat.le_of_ble_eq_true rfl) (Nat.le_of_ble_eq_true rfl)) (k8_1 hb) h) q924 q925 q926 q106 q927 hdX6_append ⟨Nat.le_of_ble_eq_true rfl, Nat.le_of_ble_eq_true rfl⟩ ⟨Nat.le_of_ble_eq_true rfl, Nat.le_of_ble_eq_true rfl⟩ rfl hl.1 rfl (lv_room (Nat.le_of_ble_eq_true rfl)) dX9_feed_35) (fun st4 H locs h hP hS => ?_)
    refine lv_aload_n C.1 C.2.1 dX9_feed_38 rfl (lv_at hl 0 rfl) ?_
    refine gf8_0 C hP hb (m8 hb hL) q410 dX9_feed_39 ?_
    refine lv_iload_n C.1 C.2.1 dX9_feed_42 rfl (lv_at hl 3 rfl) ?_
    refine z_kv hS (z_runV (As := [.int p3]) (rest := []) C hP hS (m8_1 hb hL) (e5 (k8_1 hb)) rfl (tX6_append C.2.2.2.2.2.2.1 (hL.mo (Nat.le_of_ble_eq_true rfl) (Nat.le_of_ble_eq_true rfl)) (k8_1 hb) h) q924 q925 q926 q106 q927 hdX6_append ⟨Nat.le_of_ble_eq_true rfl, Nat.le_of_ble_eq_true rfl⟩ ⟨Nat.le_of_ble_eq_true rfl, Nat.le_of_ble_eq_true rfl⟩ rfl hl.1 rfl (lv_room (Nat.le_of_ble_eq_true rfl)) dX9_feed_43) (fun st5 H locs h hP hS => ?_)
    refine lv_aload_n C.1 C.2.1 dX9_feed_46 rfl (lv_at hl 0 rfl) ?_
    refine gf8_0 C hP hb (m8 hb hL) q410 dX9_feed_47 ?_
    refine lv_iload C.1 C.2.1 dX9_feed_50 (lv_at hl 4 rfl) ?_
    refine z_kv hS (z_runV (As := [.int p4]) (rest := []) C hP hS (m8_1 hb hL) (e5 (k8_1 hb)) rfl (tX6_append C.2.2.2.2.2.2.1 (hL.mo (Nat.le_of_ble_eq_true rfl) (Nat.le_of_ble_eq_true rfl)) (k8_1 hb) h) q924 q925 q926 q106 q927 hdX6_append ⟨Nat.le_of_ble_eq_true rfl, Nat.le_of_ble_eq_true rfl⟩ ⟨Nat.le_of_ble_eq_true rfl, Nat.le_of_ble_eq_true rfl⟩ rfl hl.1 rfl (lv_room (Nat.le_of_ble_eq_true rfl)) dX9_feed_52) (fun st6 H locs h hP hS => ?_)
    refine lv_aload_n C.1 C.2.1 dX9_feed_55 rfl (lv_at hl 0 rfl) ?_
    refine gf8_0 C hP hb (m8 hb hL) q410 dX9_feed_56 ?_
    refine lv_iload C.1 C.2.1 dX9_feed_59 (lv_at hl 5 rfl) ?_
    refine z_kv hS (z_runV (As := [.int p5]) (rest := []) C hP hS (m8_1 hb hL) (e5 (k8_1 hb)) rfl (tX6_append C.2.2.2.2.2.2.1 (hL.mo (Nat.le_of_ble_eq_true rfl) (Nat.le_of_ble_eq_true rfl)) (k8_1 hb) h) q924 q925 q926 q106 q927 hdX6_append ⟨Nat.le_of_ble_eq_true rfl, Nat.le_of_ble_eq_true rfl⟩ ⟨Nat.le_of_ble_eq_true rfl, Nat.le_of_ble_eq_true rfl⟩ rfl hl.1 rfl (lv_room (Nat.le_of_ble_eq_true rfl)) dX9_feed_61) (fun st7 H locs h hP hS => ?_)
    refine lv_aload_n C.1 C.2.1 dX9_feed_64 rfl (lv_at hl 0 rfl) ?_
    refine gf8_0 C hP hb (m8 hb hL) q410 dX9_feed_65 ?_
    refine gn5_1 C hP (k8_1 hb) (m8_1 hb hL) q150 dX9_feed_68 ?_
    refine W.widen (k := rmX9_feed.cells) (n := rmX9_feed.slots) (Nat.le_of_ble_eq_true rfl) (Nat.le_of_ble_eq_true rfl) (vx_ret ?_)
    exact z_ri C hr hlk rfl hP hS h dX9_feed_71
  · have h := h.2 hc
    exact z_throw C hfl htab hlk hP hS hl.1 (text := "the tape has at most 1600 bytes") (by decide) q857 q121 (by decide +kernel) xw_ise dX9_feed_12 dX9_feed_15 dX9_feed_16 dX9_feed_18 dX9_feed_21 (Nat.le_of_ble_eq_true rfl) (Nat.le_of_ble_eq_true rfl) (Nat.le_of_ble_eq_true rfl) (Nat.le_of_ble_eq_true rfl) h (Nat.le_of_ble_eq_true rfl) (Nat.le_of_ble_eq_true rfl)
def rmX9_trim : Room := { frames := 6, cells := 1, slots := 6, locals := 90 }
def wX9_trim_L15 (b : Nat) (p1 : Int32)   (st : St) (Q : Int32 → St → Prop) (X : String → St → Prop) : Prop :=
  X "java/lang/IllegalArgumentException" st
def wX9_trim (b : Nat) (p1 : Int32) (st : St) (Q : Int32 → St → Prop) (X : String → St → Prop) : Prop :=
  ((p1 < 0 → wX9_trim_L15 b p1 st Q X) ∧ (¬ p1 < 0 → ((p1 ≤ (gI st (b + 1) 1) → (∀ st1, st1 = uI st (b + 1) 1 p1 → Q p1 st1)) ∧ (¬ p1 ≤ (gI st (b + 1) 1) → wX9_trim_L15 b p1 st Q X))))
theorem hdX9_trim : yX9_trim.cls = "PlankBridge" ∧ yX9_trim.cls ≠ "java/lang/invoke/MethodHandle" ∧ yX9_trim.cls ≠ "java/lang/invoke/VarHandle" ∧ (parseMethodDescriptor yX9_trim.desc).map (fun d => d.parameters.length) = some 1 := by decide +kernel
set_option maxHeartbeats 4000000 in
set_option maxRecDepth 100000 in
theorem tX9_trim_L15 {l : Launch} {p : Program} {e : Env} {s : State} {m : MethodId} {args : Array Value} {below : List Frame} {meth : Method} {c : Code} {E : En0} {L : List Nat} (hL : Cov 0 54 L) (C : Cx E L "PlankBridge" cX9_trim 2 p s m args c) (hr : meth.sig.returnType = (some .int)) (hlk : meth.locks = false) (hfl : l.stackTraces = false) (htab : ∀ x ∈ c.exceptionTable.toList, False) {b : Nat} {p1 : Int32} {Q : Int32 → St → Prop} {X : String → St → Prop} (hb : kd b = 8)   {st : St} (H : Heap) (locs : List Loc) (ls : Array Slot) (h : wX9_trim_L15 b p1 st Q X) (hl : lv_has ls 2 []) (hP : va_P E.1 vwCl (wd E L st) H) (hS : va_S (fA E L s.heap.size) s.heap H locs) : W p l e rmX9_trim s m args below meth c H locs 0 0 (vx_MQ below (zI E L Q (fA E L s.heap.size)) (zX E L X (fA E L s.heap.size)) args s rmX9_trim.cells rmX9_trim.slots (fA E L s.heap.size)) (F0 m 15 ls []) := by
  unfold wX9_trim_L15 at h
  exact z_throw C hfl htab hlk hP hS hl.1 (text := "the tape has fewer bytes") (by decide) q936 q122 (by decide +kernel) xw_iae dX9_trim_15 dX9_trim_18 dX9_trim_19 dX9_trim_21 dX9_trim_24 (Nat.le_of_ble_eq_true rfl) (Nat.le_of_ble_eq_true rfl) (Nat.le_of_ble_eq_true rfl) (Nat.le_of_ble_eq_true rfl) h (Nat.le_of_ble_eq_true rfl) (Nat.le_of_ble_eq_true rfl)
set_option maxHeartbeats 4000000 in
set_option maxRecDepth 100000 in
theorem tX9_trim {l : Launch} {E : En0} {L : List Nat} (hE : EK E L) (hL : Cov 0 54 L) {b : Nat} {p1 : Int32} {st : St} {Q : Int32 → St → Prop} {X : String → St → Prop} (hb : kd b = 8) (hfl : l.stackTraces = false) (h : wX9_trim b p1 st Q X) : Mx l yX9_trim cX9_trim 2 (some .int) rmX9_trim E L [.ref (E.2.1 b), .int p1] st (zI E L Q) X := by
  refine Mx.of hE (by decide) (Nat.le_of_ble_eq_true rfl) ?_
  intro p e s m below meth c ls C hr hlk htab hl hP
  replace C : Cx E L "PlankBridge" cX9_trim 2 p s m _ c := C
  have hS : va_S (fA E L s.heap.size) s.heap s.heap [] := va_S.rf
  replace hl : lv_has ls 2 [(0, .ref (E.2.1 b)), (1, .int p1)] := hl
  unfold wX9_trim at h
  refine lv_iload_n C.1 C.2.1 dX9_trim_0 rfl (lv_at hl 1 rfl) ?_
  refine lv_if_lt C.1 C.2.1 (tgt := 15) dX9_trim_1 (by decide) (fun hc => ?_) (fun hc => ?_)
  · have h := h.1 hc
    exact tX9_trim_L15 hL C hr hlk hfl htab hb _ _ _ h (lv_sub hl [] rfl) hP hS
  · have h := h.2 hc
    refine lv_iload_n C.1 C.2.1 dX9_trim_4 rfl (lv_at hl 1 rfl) ?_
    refine lv_aload_n C.1 C.2.1 dX9_trim_5 rfl (lv_at hl 0 rfl) ?_
    refine gf8_0 C hP hb (m8 hb hL) q410 dX9_trim_6 ?_
    refine gn5_1 C hP (k8_1 hb) (m8_1 hb hL) q150 dX9_trim_9 ?_
    refine lv_icmp_le C.1 C.2.1 (tgt := 25) dX9_trim_12 (by decide) (fun hc => ?_) (fun hc => ?_)
    · have h := h.1 hc
      refine lv_aload_n C.1 C.2.1 dX9_trim_25 rfl (lv_at hl 0 rfl) ?_
      refine gf8_0 C hP hb (m8 hb hL) q410 dX9_trim_26 ?_
      refine lv_iload_n C.1 C.2.1 dX9_trim_29 rfl (lv_at hl 1 rfl) ?_
      refine pn5_1 C hP hS (k8_1 hb) (m8_1 hb hL) q150 dX9_trim_30 (fun H locs hP hS => ?_)
      obtain ⟨st1, est1⟩ : ∃ z, z = uI st (b + 1) 1 p1 := ⟨_, rfl⟩
      rw [← est1] at hP; have h := h st1 est1
      refine lv_iload_n C.1 C.2.1 dX9_trim_33 rfl (lv_at hl 1 rfl) ?_
      refine W.widen (k := rmX9_trim.cells) (n := rmX9_trim.slots) (Nat.le_of_ble_eq_true rfl) (Nat.le_of_ble_eq_true rfl) (vx_ret ?_)
      exact z_ri C hr hlk rfl hP hS h dX9_trim_34
    · have h := h.2 hc
      exact tX9_trim_L15 hL C hr hlk hfl htab hb _ _ _ h (lv_sub hl [] rfl) hP hS
def rmX9_teach : Room := { frames := 16, cells := 0, slots := 0, locals := 376 }
def wX9_teach_L50 (b : Nat)  (s0 : Int32) (st : St) (Q : Int32 → St → Prop) : Prop :=
  (wX4_close (b + 3) s0 st (fun r10 st9 => (wX4_errorPosition (b + 3) st9 (fun r12 st11 => (∀ st13, st13 = uI st11 b 8 r12 → (∀ st14, st14 = uI st13 (b + 1) 1 0 → ((¬ r10 = 0 → Q r10 st14) ∧ (r10 = 0 → (kd (gR st14 b 6) = 1 ∧ ∀ c15, c15 = gR st14 b 6 → (kd (gR st14 b 7) = 1 ∧ ∀ c16, c16 = gR st14 b 7 → (∀ st17, st17 = uR st14 b 6 c16 → (∀ st18, st18 = uR st17 b 7 c15 → (kd (gR st18 b 6) = 1 ∧ ∀ c19, c19 = gR st18 b 6 → (wX2_begin (b + 4) c19 st18 (fun st20 => (wX8_forget (b + 18) st20 (fun st21 => Q r10 st21)))))))))))))))))
def wX9_teach_L49 (b : Nat)   (st : St) (Q : Int32 → St → Prop) : Prop :=
  wX9_teach_L50 b 0 st Q
def wX9_teach (b : Nat) (st : St) (Q : Int32 → St → Prop) : Prop :=
  (kd (gR st b 7) = 1 ∧ ∀ c1, c1 = gR st b 7 → (wX4_open (b + 3) ((b + 1)) c1 st (fun st2 => (wX4_readWalkers (b + 3) st2 (fun r4 st3 => ((r4 = 0 → wX9_teach_L49 b st3 Q) ∧ (¬ r4 = 0 → (wX4_readPlanks (b + 3) st3 (fun r6 st5 => ((r6 = 0 → wX9_teach_L49 b st5 Q) ∧ (¬ r6 = 0 → (wX4_readPlans (b + 3) st5 (fun r8 st7 => ((r8 = 0 → wX9_teach_L49 b st7 Q) ∧ (¬ r8 = 0 → wX9_teach_L50 b 1 st7 Q)))))))))))))))
theorem hdX9_teach : yX9_teach.cls = "PlankBridge" ∧ yX9_teach.cls ≠ "java/lang/invoke/MethodHandle" ∧ yX9_teach.cls ≠ "java/lang/invoke/VarHandle" ∧ (parseMethodDescriptor yX9_teach.desc).map (fun d => d.parameters.length) = some 0 := by decide +kernel
set_option maxHeartbeats 4000000 in
set_option maxRecDepth 100000 in
theorem tX9_teach_L50 {l : Launch} {p : Program} {e : Env} {s : State} {m : MethodId} {args : Array Value} {below : List Frame} {meth : Method} {c : Code} {E : En0} {L : List Nat} (hL : Cov 0 54 L) (C : Cx E L "PlankBridge" cX9_teach 4 p s m args c) (hr : meth.sig.returnType = (some .int)) (hlk : meth.locks = false) {b : Nat} {Q : Int32 → St → Prop} (hb : kd b = 8) {s0 : Int32}  {st : St} (H : Heap) (locs : List Loc) (ls : Array Slot) (h : wX9_teach_L50 b s0 st Q) (hl : lv_has ls 4 [(0, .ref (E.2.1 b))]) (hP : va_P E.1 vwCl (wd E L st) H) (hS : va_S (fA E L s.heap.size) s.heap H locs) : W p l e rmX9_teach s m args below meth c H locs 0 0 (MQ below (zI E L Q (fA E L s.heap.size)) args s rmX9_teach.cells rmX9_teach.slots (fA E L s.heap.size)) (F0 m 50 ls [.int s0]) := by
  unfold wX9_teach_L50 at h
  refine lv_istore_n C.1 C.2.1 dX9_teach_50 rfl hl (Nat.le_of_ble_eq_true rfl) rfl (fun ls hl => ?_)
  have hl : lv_has ls 4 [(1, .int s0), (0, .ref (E.2.1 b))] := hl
  refine lv_aload_n C.1 C.2.1 dX9_teach_51 rfl (lv_at hl 1 rfl) ?_
  refine gf8_1 C hP hb (m8 hb hL) q411 dX9_teach_52 ?_
  refine lv_iload_n C.1 C.2.1 dX9_teach_55 rfl (lv_at hl 0 rfl) ?_
  refine z_ki hS (z_runV (As := [.int s0]) (rest := []) C hP hS (m8_3 hb hL) (e3 (k8_3 hb)) rfl (tX4_close C.2.2.2.2.2.2.1 (hL.mo (Nat.le_of_ble_eq_true rfl) (Nat.le_of_ble_eq_true rfl)) (k8_3 hb) h) q675 q676 q677 q109 q678 hdX4_close ⟨Nat.le_of_ble_eq_true rfl, Nat.le_of_ble_eq_true rfl⟩ ⟨Nat.zero_le _, Nat.zero_le _⟩ rfl hl.1 rfl (lv_room (Nat.le_of_ble_eq_true rfl)) dX9_teach_56) (fun r10 st9 H locs h hP hS => ?_)
  refine lv_istore_n C.1 C.2.1 dX9_teach_59 rfl hl (Nat.le_of_ble_eq_true rfl) rfl (fun ls hl => ?_)
  have hl : lv_has ls 4 [(2, .int r10), (1, .int s0), (0, .ref (E.2.1 b))] := hl
  refine lv_aload_n C.1 C.2.1 dX9_teach_60 rfl (lv_at hl 2 rfl) ?_
  refine lv_aload_n C.1 C.2.1 dX9_teach_61 rfl (lv_at hl 2 rfl) ?_
  refine gf8_1 C hP hb (m8 hb hL) q411 dX9_teach_62 ?_
  refine z_ki hS (z_runV (As := []) (rest := [.ref (E.2.1 b)]) C hP hS (m8_3 hb hL) (e3 (k8_3 hb)) rfl (tX4_errorPosition C.2.2.2.2.2.2.1 (hL.mo (Nat.le_of_ble_eq_true rfl) (Nat.le_of_ble_eq_true rfl)) (k8_3 hb) h) q680 q681 q682 q109 q683 hdX4_errorPosition ⟨Nat.le_of_ble_eq_true rfl, Nat.le_of_ble_eq_true rfl⟩ ⟨Nat.zero_le _, Nat.zero_le _⟩ rfl hl.1 rfl (lv_room (Nat.le_of_ble_eq_true rfl)) dX9_teach_65) (fun r12 st11 H locs h hP hS => ?_)
  refine pf8_8 C hP hS hb (m8 hb hL) q418 dX9_teach_68 (fun H locs hP hS => ?_)
  obtain ⟨st13, est13⟩ : ∃ z, z = uI st11 b 8 r12 := ⟨_, rfl⟩
  rw [← est13] at hP; have h := h st13 est13
  refine lv_aload_n C.1 C.2.1 dX9_teach_71 rfl (lv_at hl 2 rfl) ?_
  refine gf8_0 C hP hb (m8 hb hL) q410 dX9_teach_72 ?_
  refine lv_iconst C.1 C.2.1 (v := 0) dX9_teach_75 rfl ?_
  refine pn5_1 C hP hS (k8_1 hb) (m8_1 hb hL) q150 dX9_teach_76 (fun H locs hP hS => ?_)
  obtain ⟨st14, est14⟩ : ∃ z, z = uI st13 (b + 1) 1 0 := ⟨_, rfl⟩
  rw [← est14] at hP; have h := h st14 est14
  refine lv_iload_n C.1 C.2.1 dX9_teach_79 rfl (lv_at hl 0 rfl) ?_
  refine lv_if_ne C.1 C.2.1 (tgt := 119) dX9_teach_80 (by decide) (fun hc => ?_) (fun hc => ?_)
  · have h := h.1 hc
    refine lv_iload_n C.1 C.2.1 dX9_teach_119 rfl (lv_at hl 0 rfl) ?_
    exact z_ri C hr hlk rfl hP hS h dX9_teach_120
  · have h := h.2 hc
    refine lv_aload_n C.1 C.2.1 dX9_teach_83 rfl (lv_at hl 2 rfl) ?_
    refine gf8_6 C hP hb (m8 hb hL) q416 dX9_teach_84 ?_
    obtain ⟨hc15, h⟩ := h
    obtain ⟨c15, ec15⟩ : ∃ z, z = gR st14 b 6 := ⟨_, rfl⟩
    rw [← ec15]; rw [← ec15] at hc15; have h := h c15 ec15
    refine lv_astore_n C.1 C.2.1 dX9_teach_87 rfl hl (Nat.le_of_ble_eq_true rfl) rfl (fun ls hl => ?_)
    have hl : lv_has ls 4 [(3, .ref (E.2.1 c15)), (2, .int r10), (1, .int s0), (0, .ref (E.2.1 b))] := hl
    refine lv_aload_n C.1 C.2.1 dX9_teach_88 rfl (lv_at hl 3 rfl) ?_
    refine lv_aload_n C.1 C.2.1 dX9_teach_89 rfl (lv_at hl 3 rfl) ?_
    refine gf8_7 C hP hb (m8 hb hL) q417 dX9_teach_90 ?_
    obtain ⟨hc16, h⟩ := h
    obtain ⟨c16, ec16⟩ : ∃ z, z = gR st14 b 7 := ⟨_, rfl⟩
    rw [← ec16]; rw [← ec16] at hc16; have h := h c16 ec16
    refine pf8_6 C hP hS hb (m8 hb hL) q416 dX9_teach_93 (fun H locs hP hS => ?_)
    obtain ⟨st17, est17⟩ : ∃ z, z = uR st14 b 6 c16 := ⟨_, rfl⟩
    rw [← est17] at hP; have h := h st17 est17
    refine lv_aload_n C.1 C.2.1 dX9_teach_96 rfl (lv_at hl 3 rfl) ?_
    refine lv_aload_n C.1 C.2.1 dX9_teach_97 rfl (lv_at hl 0 rfl) ?_
    refine pf8_7 C hP hS hb (m8 hb hL) q417 dX9_teach_98 (fun H locs hP hS => ?_)
    obtain ⟨st18, est18⟩ : ∃ z, z = uR st17 b 7 c15 := ⟨_, rfl⟩
    rw [← est18] at hP; have h := h st18 est18
    refine lv_aload_n C.1 C.2.1 dX9_teach_101 rfl (lv_at hl 3 rfl) ?_
    refine gf8_2 C hP hb (m8 hb hL) q412 dX9_teach_102 ?_
    refine lv_aload_n C.1 C.2.1 dX9_teach_105 rfl (lv_at hl 3 rfl) ?_
    refine gf8_6 C hP hb (m8 hb hL) q416 dX9_teach_106 ?_
    obtain ⟨hc19, h⟩ := h
    obtain ⟨c19, ec19⟩ : ∃ z, z = gR st18 b 6 := ⟨_, rfl⟩
    rw [← ec19]; rw [← ec19] at hc19; have h := h c19 ec19
    refine z_kv hS (z_runV (As := [.ref (E.2.1 c19)]) (rest := []) C hP hS (m8_4 hb hL) (e2 (k8_4 hb)) rfl (tX2_begin C.2.2.2.2.2.2.1 (hL.mo (Nat.le_of_ble_eq_true rfl) (Nat.le_of_ble_eq_true rfl)) (k8_4 hb) hc19 h) q403 q404 q405 q112 q406 hdX2_begin ⟨Nat.le_of_ble_eq_true rfl, Nat.le_of_ble_eq_true rfl⟩ ⟨Nat.zero_le _, Nat.zero_le _⟩ rfl hl.1 rfl (lv_room (Nat.le_of_ble_eq_true rfl)) dX9_teach_109) (fun st20 H locs h hP hS => ?_)
    refine lv_aload_n C.1 C.2.1 dX9_teach_112 rfl (lv_at hl 3 rfl) ?_
    refine gf8_5 C hP hb (m8 hb hL) q415 dX9_teach_113 ?_
    refine z_kv hS (z_runV (As := []) (rest := []) C hP hS (m8_18 hb hL) (e7 (k8_18 hb)) rfl (tX8_forget C.2.2.2.2.2.2.1 (hL.mo (Nat.le_of_ble_eq_true rfl) (Nat.le_of_ble_eq_true rfl)) (k8_18 hb) h) q688 q689 q690 q114 q691 hdX8_forget ⟨Nat.le_of_ble_eq_true rfl, Nat.le_of_ble_eq_true rfl⟩ ⟨Nat.zero_le _, Nat.zero_le _⟩ rfl hl.1 rfl (lv_room (Nat.le_of_ble_eq_true rfl)) dX9_teach_116) (fun st21 H locs h hP hS => ?_)
    refine lv_iload_n C.1 C.2.1 dX9_teach_119 rfl (lv_at hl 1 rfl) ?_
    exact z_ri C hr hlk rfl hP hS h dX9_teach_120
set_option maxHeartbeats 4000000 in
set_option maxRecDepth 100000 in
theorem tX9_teach_L49 {l : Launch} {p : Program} {e : Env} {s : State} {m : MethodId} {args : Array Value} {below : List Frame} {meth : Method} {c : Code} {E : En0} {L : List Nat} (hL : Cov 0 54 L) (C : Cx E L "PlankBridge" cX9_teach 4 p s m args c) (hr : meth.sig.returnType = (some .int)) (hlk : meth.locks = false) {b : Nat} {Q : Int32 → St → Prop} (hb : kd b = 8)   {st : St} (H : Heap) (locs : List Loc) (ls : Array Slot) (h : wX9_teach_L49 b st Q) (hl : lv_has ls 4 [(0, .ref (E.2.1 b))]) (hP : va_P E.1 vwCl (wd E L st) H) (hS : va_S (fA E L s.heap.size) s.heap H locs) : W p l e rmX9_teach s m args below meth c H locs 0 0 (MQ below (zI E L Q (fA E L s.heap.size)) args s rmX9_teach.cells rmX9_teach.slots (fA E L s.heap.size)) (F0 m 49 ls []) := by
  unfold wX9_teach_L49 at h
  refine lv_iconst C.1 C.2.1 (v := 0) dX9_teach_49 rfl ?_
  exact tX9_teach_L50 hL C hr hlk hb _ _ _ h hl hP hS
set_option maxHeartbeats 4000000 in
set_option maxRecDepth 100000 in
theorem tX9_teach {l : Launch} {E : En0} {L : List Nat} (hE : EK E L) (hL : Cov 0 54 L) {b : Nat} {st : St} {Q : Int32 → St → Prop} (hb : kd b = 8) (h : wX9_teach b st Q) : Mz l yX9_teach cX9_teach 4 (some .int) rmX9_teach E L [.ref (E.2.1 b)] st (zI E L Q) := by
  refine Mz.of hE (by decide) (Nat.le_of_ble_eq_true rfl) ?_
  intro p e s m below meth c ls C hr hlk _ hl hP
  replace C : Cx E L "PlankBridge" cX9_teach 4 p s m _ c := C
  have hS : va_S (fA E L s.heap.size) s.heap s.heap [] := va_S.rf
  replace hl : lv_has ls 4 [(0, .ref (E.2.1 b))] := hl
  unfold wX9_teach at h
  refine lv_aload_n C.1 C.2.1 dX9_teach_0 rfl (lv_at hl 0 rfl) ?_
  refine gf8_1 C hP hb (m8 hb hL) q411 dX9_teach_1 ?_
  refine lv_aload_n C.1 C.2.1 dX9_teach_4 rfl (lv_at hl 0 rfl) ?_
  refine gf8_0 C hP hb (m8 hb hL) q410 dX9_teach_5 ?_
  refine lv_aload_n C.1 C.2.1 dX9_teach_8 rfl (lv_at hl 0 rfl) ?_
  refine gf8_7 C hP hb (m8 hb hL) q417 dX9_teach_9 ?_
  obtain ⟨hc1, h⟩ := h
  obtain ⟨c1, ec1⟩ : ∃ z, z = gR st b 7 := ⟨_, rfl⟩
  rw [← ec1]; rw [← ec1] at hc1; have h := h c1 ec1
  refine z_kv hS (z_runV (As := [.ref (E.2.1 ((b + 1))), .ref (E.2.1 c1)]) (rest := []) C hP hS (m8_3 hb hL) (e3 (k8_3 hb)) rfl (tX4_open C.2.2.2.2.2.2.1 (hL.mo (Nat.le_of_ble_eq_true rfl) (Nat.le_of_ble_eq_true rfl)) (k8_3 hb) (k8_1 hb) hc1 h) q442 q443 q444 q109 q445 hdX4_open ⟨Nat.le_of_ble_eq_true rfl, Nat.le_of_ble_eq_true rfl⟩ ⟨Nat.zero_le _, Nat.zero_le _⟩ rfl hl.1 rfl (lv_room (Nat.le_of_ble_eq_true rfl)) dX9_teach_12) (fun st2 H locs h hP hS => ?_)
  refine lv_aload_n C.1 C.2.1 dX9_teach_15 rfl (lv_at hl 0 rfl) ?_
  refine gf8_1 C hP hb (m8 hb hL) q411 dX9_teach_16 ?_
  refine z_ki hS (z_runV (As := []) (rest := []) C hP hS (m8_3 hb hL) (e3 (k8_3 hb)) rfl (tX4_readWalkers C.2.2.2.2.2.2.1 (hL.mo (Nat.le_of_ble_eq_true rfl) (Nat.le_of_ble_eq_true rfl)) (k8_3 hb) h) q496 q497 q498 q109 q499 hdX4_readWalkers ⟨Nat.le_of_ble_eq_true rfl, Nat.le_of_ble_eq_true rfl⟩ ⟨Nat.zero_le _, Nat.zero_le _⟩ rfl hl.1 rfl (lv_room (Nat.le_of_ble_eq_true rfl)) dX9_teach_19) (fun r4 st3 H locs h hP hS => ?_)
  obtain ⟨hr4, h⟩ := h
  refine lv_if_eq C.1 C.2.1 (tgt := 49) dX9_teach_22 (by decide) (fun hc => ?_) (fun hc => ?_)
  · have h := h.1 hc
    exact tX9_teach_L49 hL C hr hlk hb _ _ _ h hl hP hS
  · have h := h.2 hc
    refine lv_aload_n C.1 C.2.1 dX9_teach_25 rfl (lv_at hl 0 rfl) ?_
    refine gf8_1 C hP hb (m8 hb hL) q411 dX9_teach_26 ?_
    refine z_ki hS (z_runV (As := []) (rest := []) C hP hS (m8_3 hb hL) (e3 (k8_3 hb)) rfl (tX4_readPlanks C.2.2.2.2.2.2.1 (hL.mo (Nat.le_of_ble_eq_true rfl) (Nat.le_of_ble_eq_true rfl)) (k8_3 hb) h) q550 q551 q552 q109 q553 hdX4_readPlanks ⟨Nat.le_of_ble_eq_true rfl, Nat.le_of_ble_eq_true rfl⟩ ⟨Nat.zero_le _, Nat.zero_le _⟩ rfl hl.1 rfl (lv_room (Nat.le_of_ble_eq_true rfl)) dX9_teach_29) (fun r6 st5 H locs h hP hS => ?_)
    obtain ⟨hr6, h⟩ := h
    refine lv_if_eq C.1 C.2.1 (tgt := 49) dX9_teach_32 (by decide) (fun hc => ?_) (fun hc => ?_)
    · have h := h.1 hc
      exact tX9_teach_L49 hL C hr hlk hb _ _ _ h hl hP hS
    · have h := h.2 hc
      refine lv_aload_n C.1 C.2.1 dX9_teach_35 rfl (lv_at hl 0 rfl) ?_
      refine gf8_1 C hP hb (m8 hb hL) q411 dX9_teach_36 ?_
      refine z_ki hS (z_runV (As := []) (rest := []) C hP hS (m8_3 hb hL) (e3 (k8_3 hb)) rfl (tX4_readPlans C.2.2.2.2.2.2.1 (hL.mo (Nat.le_of_ble_eq_true rfl) (Nat.le_of_ble_eq_true rfl)) (k8_3 hb) h) q563 q564 q565 q109 q566 hdX4_readPlans ⟨Nat.le_of_ble_eq_true rfl, Nat.le_of_ble_eq_true rfl⟩ ⟨Nat.zero_le _, Nat.zero_le _⟩ rfl hl.1 rfl (lv_room (Nat.le_of_ble_eq_true rfl)) dX9_teach_39) (fun r8 st7 H locs h hP hS => ?_)
      obtain ⟨hr8, h⟩ := h
      refine lv_if_eq C.1 C.2.1 (tgt := 49) dX9_teach_42 (by decide) (fun hc => ?_) (fun hc => ?_)
      · have h := h.1 hc
        exact tX9_teach_L49 hL C hr hlk hb _ _ _ h hl hP hS
      · have h := h.2 hc
        refine lv_iconst C.1 C.2.1 (v := 1) dX9_teach_45 rfl ?_
        refine lv_goto C.1 C.2.1 (tgt := 50) dX9_teach_46 (by decide) ?_
        exact tX9_teach_L50 hL C hr hlk hb _ _ _ h hl hP hS
def rmX9_errorAt : Room := { frames := 0, cells := 0, slots := 0, locals := 0 }
def wX9_errorAt (b : Nat) (st : St) (Q : Int32 → St → Prop) : Prop :=
  Q (gI st b 8) st
theorem hdX9_errorAt : yX9_errorAt.cls = "PlankBridge" ∧ yX9_errorAt.cls ≠ "java/lang/invoke/MethodHandle" ∧ yX9_errorAt.cls ≠ "java/lang/invoke/VarHandle" ∧ (parseMethodDescriptor yX9_errorAt.desc).map (fun d => d.parameters.length) = some 0 := by decide +kernel
set_option maxHeartbeats 4000000 in
set_option maxRecDepth 100000 in
theorem tX9_errorAt {l : Launch} {E : En0} {L : List Nat} (hE : EK E L) (hL : Cov 0 54 L) {b : Nat} {st : St} {Q : Int32 → St → Prop} (hb : kd b = 8) (h : wX9_errorAt b st Q) : Mz l yX9_errorAt cX9_errorAt 1 (some .int) rmX9_errorAt E L [.ref (E.2.1 b)] st (zI E L Q) := by
  refine Mz.of hE (by decide) (Nat.le_of_ble_eq_true rfl) ?_
  intro p e s m below meth c ls C hr hlk _ hl hP
  replace C : Cx E L "PlankBridge" cX9_errorAt 1 p s m _ c := C
  have hS : va_S (fA E L s.heap.size) s.heap s.heap [] := va_S.rf
  replace hl : lv_has ls 1 [(0, .ref (E.2.1 b))] := hl
  unfold wX9_errorAt at h
  refine lv_aload_n C.1 C.2.1 dX9_errorAt_0 rfl (lv_at hl 0 rfl) ?_
  refine gf8_8 C hP hb (m8 hb hL) q418 dX9_errorAt_1 ?_
  exact z_ri C hr hlk rfl hP hS h dX9_errorAt_4
def rmX9_walkers : Room := { frames := 0, cells := 0, slots := 0, locals := 0 }
def wX9_walkers (b : Nat) (st : St) (Q : Int32 → St → Prop) : Prop :=
  Q (gI st (b + 4) 0) st
theorem hdX9_walkers : yX9_walkers.cls = "PlankBridge" ∧ yX9_walkers.cls ≠ "java/lang/invoke/MethodHandle" ∧ yX9_walkers.cls ≠ "java/lang/invoke/VarHandle" ∧ (parseMethodDescriptor yX9_walkers.desc).map (fun d => d.parameters.length) = some 0 := by decide +kernel
set_option maxHeartbeats 4000000 in
set_option maxRecDepth 100000 in
theorem tX9_walkers {l : Launch} {E : En0} {L : List Nat} (hE : EK E L) (hL : Cov 0 54 L) {b : Nat} {st : St} {Q : Int32 → St → Prop} (hb : kd b = 8) (h : wX9_walkers b st Q) : Mz l yX9_walkers cX9_walkers 1 (some .int) rmX9_walkers E L [.ref (E.2.1 b)] st (zI E L Q) := by
  refine Mz.of hE (by decide) (Nat.le_of_ble_eq_true rfl) ?_
  intro p e s m below meth c ls C hr hlk _ hl hP
  replace C : Cx E L "PlankBridge" cX9_walkers 1 p s m _ c := C
  have hS : va_S (fA E L s.heap.size) s.heap s.heap [] := va_S.rf
  replace hl : lv_has ls 1 [(0, .ref (E.2.1 b))] := hl
  unfold wX9_walkers at h
  refine lv_aload_n C.1 C.2.1 dX9_walkers_0 rfl (lv_at hl 0 rfl) ?_
  refine gf8_2 C hP hb (m8 hb hL) q412 dX9_walkers_1 ?_
  refine gn2_0 C hP (k8_4 hb) (m8_4 hb hL) q291 dX9_walkers_4 ?_
  exact z_ri C hr hlk rfl hP hS h dX9_walkers_7
def rmX9_planks : Room := { frames := 0, cells := 0, slots := 0, locals := 0 }
def wX9_planks (b : Nat) (st : St) (Q : Int32 → St → Prop) : Prop :=
  Q (gI st (b + 4) 4) st
theorem hdX9_planks : yX9_planks.cls = "PlankBridge" ∧ yX9_planks.cls ≠ "java/lang/invoke/MethodHandle" ∧ yX9_planks.cls ≠ "java/lang/invoke/VarHandle" ∧ (parseMethodDescriptor yX9_planks.desc).map (fun d => d.parameters.length) = some 0 := by decide +kernel
set_option maxHeartbeats 4000000 in
set_option maxRecDepth 100000 in
theorem tX9_planks {l : Launch} {E : En0} {L : List Nat} (hE : EK E L) (hL : Cov 0 54 L) {b : Nat} {st : St} {Q : Int32 → St → Prop} (hb : kd b = 8) (h : wX9_planks b st Q) : Mz l yX9_planks cX9_planks 1 (some .int) rmX9_planks E L [.ref (E.2.1 b)] st (zI E L Q) := by
  refine Mz.of hE (by decide) (Nat.le_of_ble_eq_true rfl) ?_
  intro p e s m below meth c ls C hr hlk _ hl hP
  replace C : Cx E L "PlankBridge" cX9_planks 1 p s m _ c := C
  have hS : va_S (fA E L s.heap.size) s.heap s.heap [] := va_S.rf
  replace hl : lv_has ls 1 [(0, .ref (E.2.1 b))] := hl
  unfold wX9_planks at h
  refine lv_aload_n C.1 C.2.1 dX9_planks_0 rfl (lv_at hl 0 rfl) ?_
  refine gf8_2 C hP hb (m8 hb hL) q412 dX9_planks_1 ?_
  refine gn2_4 C hP (k8_4 hb) (m8_4 hb hL) q300 dX9_planks_4 ?_
  exact z_ri C hr hlk rfl hP hS h dX9_planks_7
def rmX9_plans : Room := { frames := 0, cells := 0, slots := 0, locals := 0 }
def wX9_plans (b : Nat) (st : St) (Q : Int32 → St → Prop) : Prop :=
  (kd (gR st b 6) = 1 ∧ ∀ c1, c1 = gR st b 6 → Q (gI st c1 9) st)
theorem hdX9_plans : yX9_plans.cls = "PlankBridge" ∧ yX9_plans.cls ≠ "java/lang/invoke/MethodHandle" ∧ yX9_plans.cls ≠ "java/lang/invoke/VarHandle" ∧ (parseMethodDescriptor yX9_plans.desc).map (fun d => d.parameters.length) = some 0 := by decide +kernel
set_option maxHeartbeats 4000000 in
set_option maxRecDepth 100000 in
theorem tX9_plans {l : Launch} {E : En0} {L : List Nat} (hE : EK E L) (hL : Cov 0 54 L) {b : Nat} {st : St} {Q : Int32 → St → Prop} (hb : kd b = 8) (h : wX9_plans b st Q) : Mz l yX9_plans cX9_plans 1 (some .int) rmX9_plans E L [.ref (E.2.1 b)] st (zI E L Q) := by
  refine Mz.of hE (by decide) (Nat.le_of_ble_eq_true rfl) ?_
  intro p e s m below meth c ls C hr hlk _ hl hP
  replace C : Cx E L "PlankBridge" cX9_plans 1 p s m _ c := C
  have hS : va_S (fA E L s.heap.size) s.heap s.heap [] := va_S.rf
  replace hl : lv_has ls 1 [(0, .ref (E.2.1 b))] := hl
  unfold wX9_plans at h
  refine lv_aload_n C.1 C.2.1 dX9_plans_0 rfl (lv_at hl 0 rfl) ?_
  refine gf8_6 C hP hb (m8 hb hL) q416 dX9_plans_1 ?_
  obtain ⟨hc1, h⟩ := h
  obtain ⟨c1, ec1⟩ : ∃ z, z = gR st b 6 := ⟨_, rfl⟩
  rw [← ec1]; rw [← ec1] at hc1; have h := h c1 ec1
  refine gn1_9 C hP hc1 (m1 hc1 hL) q209 dX9_plans_4 ?_
  exact z_ri C hr hlk rfl hP hS h dX9_plans_7
def rmX9_requireWalker : Room := { frames := 6, cells := 1, slots := 6, locals := 90 }
def wX9_requireWalker_L15 (b : Nat) (p1 : Int32)   (st : St) (Q : St → Prop) (X : String → St → Prop) : Prop :=
  X "java/lang/IndexOutOfBoundsException" st
def wX9_requireWalker (b : Nat) (p1 : Int32) (st : St) (Q : St → Prop) (X : String → St → Prop) : Prop :=
  ((p1 < 0 → wX9_requireWalker_L15 b p1 st Q X) ∧ (¬ p1 < 0 → ((p1 < (gI st (b + 4) 0) → Q st) ∧ (¬ p1 < (gI st (b + 4) 0) → wX9_requireWalker_L15 b p1 st Q X))))
theorem hdX9_requireWalker : yX9_requireWalker.cls = "PlankBridge" ∧ yX9_requireWalker.cls ≠ "java/lang/invoke/MethodHandle" ∧ yX9_requireWalker.cls ≠ "java/lang/invoke/VarHandle" ∧ (parseMethodDescriptor yX9_requireWalker.desc).map (fun d => d.parameters.length) = some 1 := by decide +kernel
set_option maxHeartbeats 4000000 in
set_option maxRecDepth 100000 in
theorem tX9_requireWalker_L15 {l : Launch} {p : Program} {e : Env} {s : State} {m : MethodId} {args : Array Value} {below : List Frame} {meth : Method} {c : Code} {E : En0} {L : List Nat} (hL : Cov 0 54 L) (C : Cx E L "PlankBridge" cX9_requireWalker 2 p s m args c) (hr : meth.sig.returnType = none) (hlk : meth.locks = false) (hfl : l.stackTraces = false) (htab : ∀ x ∈ c.exceptionTable.toList, False) {b : Nat} {p1 : Int32} {Q : St → Prop} {X : String → St → Prop} (hb : kd b = 8)   {st : St} (H : Heap) (locs : List Loc) (ls : Array Slot) (h : wX9_requireWalker_L15 b p1 st Q X) (hl : lv_has ls 2 []) (hP : va_P E.1 vwCl (wd E L st) H) (hS : va_S (fA E L s.heap.size) s.heap H locs) : W p l e rmX9_requireWalker s m args below meth c H locs 0 0 (vx_MQ below (zV E L Q (fA E L s.heap.size)) (zX E L X (fA E L s.heap.size)) args s rmX9_requireWalker.cells rmX9_requireWalker.slots (fA E L s.heap.size)) (F0 m 15 ls []) := by
  unfold wX9_requireWalker_L15 at h
  exact z_throwW C hfl htab hlk hP hS hl.1 (text := "no such walker") (by decide) q964 q130 (by decide +kernel) xw_ioo dX9_requireWalker_15 dX9_requireWalker_18 dX9_requireWalker_19 dX9_requireWalker_22 dX9_requireWalker_25 (Nat.le_of_ble_eq_true rfl) (Nat.le_of_ble_eq_true rfl) (Nat.le_of_ble_eq_true rfl) (Nat.le_of_ble_eq_true rfl) h (Nat.le_of_ble_eq_true rfl) (Nat.le_of_ble_eq_true rfl)
set_option maxHeartbeats 4000000 in
set_option maxRecDepth 100000 in
theorem tX9_requireWalker {l : Launch} {E : En0} {L : List Nat} (hE : EK E L) (hL : Cov 0 54 L) {b : Nat} {p1 : Int32} {st : St} {Q : St → Prop} {X : String → St → Prop} (hb : kd b = 8) (hfl : l.stackTraces = false) (h : wX9_requireWalker b p1 st Q X) : Mx l yX9_requireWalker cX9_requireWalker 2 none rmX9_requireWalker E L [.ref (E.2.1 b), .int p1] st (zV E L Q) X := by
  refine Mx.of hE (by decide) (Nat.le_of_ble_eq_true rfl) ?_
  intro p e s m below meth c ls C hr hlk htab hl hP
  replace C : Cx E L "PlankBridge" cX9_requireWalker 2 p s m _ c := C
  have hS : va_S (fA E L s.heap.size) s.heap s.heap [] := va_S.rf
  replace hl : lv_has ls 2 [(0, .ref (E.2.1 b)), (1, .int p1)] := hl
  unfold wX9_requireWalker at h
  refine lv_iload_n C.1 C.2.1 dX9_requireWalker_0 rfl (lv_at hl 1 rfl) ?_
  refine lv_if_lt C.1 C.2.1 (tgt := 15) dX9_requireWalker_1 (by decide) (fun hc => ?_) (fun hc => ?_)
  · have h := h.1 hc
    exact tX9_requireWalker_L15 hL C hr hlk hfl htab hb _ _ _ h (lv_sub hl [] rfl) hP hS
  · have h := h.2 hc
    refine lv_iload_n C.1 C.2.1 dX9_requireWalker_4 rfl (lv_at hl 1 rfl) ?_
    refine lv_aload_n C.1 C.2.1 dX9_requireWalker_5 rfl (lv_at hl 0 rfl) ?_
    refine gf8_2 C hP hb (m8 hb hL) q412 dX9_requireWalker_6 ?_
    refine gn2_0 C hP (k8_4 hb) (m8_4 hb hL) q291 dX9_requireWalker_9 ?_
    refine lv_icmp_lt C.1 C.2.1 (tgt := 26) dX9_requireWalker_12 (by decide) (fun hc => ?_) (fun hc => ?_)
    · have h := h.1 hc
      refine W.widen (k := rmX9_requireWalker.cells) (n := rmX9_requireWalker.slots) (Nat.le_of_ble_eq_true rfl) (Nat.le_of_ble_eq_true rfl) (vx_ret ?_)
      exact z_rv C hr hlk hP hS h dX9_requireWalker_26
    · have h := h.2 hc
      exact tX9_requireWalker_L15 hL C hr hlk hfl htab hb _ _ _ h (lv_sub hl [] rfl) hP hS
def rmX9_weightOf : Room := { frames := 7, cells := 1, slots := 6, locals := 111 }
def wX9_weightOf (b : Nat) (p1 : Int32) (st : St) (Q : Int32 → St → Prop) (X : String → St → Prop) : Prop :=
  (wX9_requireWalker b p1 st (fun st1 => (vp_in p1 8 ∧ Q (gI st1 ((b + 4) + 1) (p1 : Int32).toNatClampNeg) st1)) X)
theorem hdX9_weightOf : yX9_weightOf.cls = "PlankBridge" ∧ yX9_weightOf.cls ≠ "java/lang/invoke/MethodHandle" ∧ yX9_weightOf.cls ≠ "java/lang/invoke/VarHandle" ∧ (parseMethodDescriptor yX9_weightOf.desc).map (fun d => d.parameters.length) = some 1 := by decide +kernel
set_option maxHeartbeats 4000000 in
set_option maxRecDepth 100000 in
theorem tX9_weightOf {l : Launch} {E : En0} {L : List Nat} (hE : EK E L) (hL : Cov 0 54 L) {b : Nat} {p1 : Int32} {st : St} {Q : Int32 → St → Prop} {X : String → St → Prop} (hb : kd b = 8) (hfl : l.stackTraces = false) (h : wX9_weightOf b p1 st Q X) : Mx l yX9_weightOf cX9_weightOf 2 (some .int) rmX9_weightOf E L [.ref (E.2.1 b), .int p1] st (zI E L Q) X := by
  refine Mx.of hE (by decide) (Nat.le_of_ble_eq_true rfl) ?_
  intro p e s m below meth c ls C hr hlk htab hl hP
  replace C : Cx E L "PlankBridge" cX9_weightOf 2 p s m _ c := C
  have hS : va_S (fA E L s.heap.size) s.heap s.heap [] := va_S.rf
  replace hl : lv_has ls 2 [(0, .ref (E.2.1 b)), (1, .int p1)] := hl
  unfold wX9_weightOf at h
  refine lv_aload_n C.1 C.2.1 dX9_weightOf_0 rfl (lv_at hl 0 rfl) ?_
  refine lv_iload_n C.1 C.2.1 dX9_weightOf_1 rfl (lv_at hl 1 rfl) ?_
  refine z_kvx htab hlk (Nat.le_of_ble_eq_true rfl) (Nat.le_of_ble_eq_true rfl) hS (z_runVx (As := [.int p1]) (rest := []) C hP hS (m8 hb hL) (e8 hb) rfl (tX9_requireWalker C.2.2.2.2.2.2.1 (hL.mo (Nat.le_of_ble_eq_true rfl) (Nat.le_of_ble_eq_true rfl)) hb hfl h) q960 q962 q20 q105 q963 hdX9_requireWalker ⟨Nat.le_of_ble_eq_true rfl, Nat.le_of_ble_eq_true rfl⟩ ⟨Nat.le_of_ble_eq_true rfl, Nat.le_of_ble_eq_true rfl⟩ rfl hl.1 rfl (lv_room (Nat.le_of_ble_eq_true rfl)) dX9_weightOf_2) (fun st1 H locs h hP hS => ?_)
  refine lv_aload_n C.1 C.2.1 dX9_weightOf_5 rfl (lv_at hl 0 rfl) ?_
  refine gf8_2 C hP hb (m8 hb hL) q412 dX9_weightOf_6 ?_
  refine gn2_1 C hP (k8_4 hb) (m8_4 hb hL) q293 dX9_weightOf_9 ?_
  refine lv_iload_n C.1 C.2.1 dX9_weightOf_12 rfl (lv_at hl 1 rfl) ?_
  obtain ⟨hi, h⟩ := h
  refine z_iald C hP (k2_1 (k8_4 hb)) (l2_1 (k8_4 hb)) (m2_1 (k8_4 hb) hL) hi dX9_weightOf_13 ?_
  refine W.widen (k := rmX9_weightOf.cells) (n := rmX9_weightOf.slots) (Nat.le_of_ble_eq_true rfl) (Nat.le_of_ble_eq_true rfl) (vx_ret ?_)
  exact z_ri C hr hlk rfl hP hS h dX9_weightOf_14
def rmX9_minutesOf : Room := { frames := 7, cells := 1, slots := 6, locals := 111 }
def wX9_minutesOf (b : Nat) (p1 : Int32) (st : St) (Q : Int32 → St → Prop) (X : String → St → Prop) : Prop :=
  (wX9_requireWalker b p1 st (fun st1 => (vp_in p1 8 ∧ Q (gI st1 ((b + 4) + 2) (p1 : Int32).toNatClampNeg) st1)) X)
theorem hdX9_minutesOf : yX9_minutesOf.cls = "PlankBridge" ∧ yX9_minutesOf.cls ≠ "java/lang/invoke/MethodHandle" ∧ yX9_minutesOf.cls ≠ "java/lang/invoke/VarHandle" ∧ (parseMethodDescriptor yX9_minutesOf.desc).map (fun d => d.parameters.length) = some 1 := by decide +kernel
set_option maxHeartbeats 4000000 in
set_option maxRecDepth 100000 in
theorem tX9_minutesOf {l : Launch} {E : En0} {L : List Nat} (hE : EK E L) (hL : Cov 0 54 L) {b : Nat} {p1 : Int32} {st : St} {Q : Int32 → St → Prop} {X : String → St → Prop} (hb : kd b = 8) (hfl : l.stackTraces = false) (h : wX9_minutesOf b p1 st Q X) : Mx l yX9_minutesOf cX9_minutesOf 2 (some .int) rmX9_minutesOf E L [.ref (E.2.1 b), .int p1] st (zI E L Q) X := by
  refine Mx.of hE (by decide) (Nat.le_of_ble_eq_true rfl) ?_
  intro p e s m below meth c ls C hr hlk htab hl hP
  replace C : Cx E L "PlankBridge" cX9_minutesOf 2 p s m _ c := C
  have hS : va_S (fA E L s.heap.size) s.heap s.heap [] := va_S.rf
  replace hl : lv_has ls 2 [(0, .ref (E.2.1 b)), (1, .int p1)] := hl
  unfold wX9_minutesOf at h
  refine lv_aload_n C.1 C.2.1 dX9_minutesOf_0 rfl (lv_at hl 0 rfl) ?_
  refine lv_iload_n C.1 C.2.1 dX9_minutesOf_1 rfl (lv_at hl 1 rfl) ?_
  refine z_kvx htab hlk (Nat.le_of_ble_eq_true rfl) (Nat.le_of_ble_eq_true rfl) hS (z_runVx (As := [.int p1]) (rest := []) C hP hS (m8 hb hL) (e8 hb) rfl (tX9_requireWalker C.2.2.2.2.2.2.1 (hL.mo (Nat.le_of_ble_eq_true rfl) (Nat.le_of_ble_eq_true rfl)) hb hfl h) q960 q962 q20 q105 q963 hdX9_requireWalker ⟨Nat.le_of_ble_eq_true rfl, Nat.le_of_ble_eq_true rfl⟩ ⟨Nat.le_of_ble_eq_true rfl, Nat.le_of_ble_eq_true rfl⟩ rfl hl.1 rfl (lv_room (Nat.le_of_ble_eq_true rfl)) dX9_minutesOf_2) (fun st1 H locs h hP hS => ?_)
  refine lv_aload_n C.1 C.2.1 dX9_minutesOf_5 rfl (lv_at hl 0 rfl) ?_
  refine gf8_2 C hP hb (m8 hb hL) q412 dX9_minutesOf_6 ?_
  refine gn2_2 C hP (k8_4 hb) (m8_4 hb hL) q295 dX9_minutesOf_9 ?_
  refine lv_iload_n C.1 C.2.1 dX9_minutesOf_12 rfl (lv_at hl 1 rfl) ?_
  obtain ⟨hi, h⟩ := h
  refine z_iald C hP (k2_2 (k8_4 hb)) (l2_2 (k8_4 hb)) (m2_2 (k8_4 hb) hL) hi dX9_minutesOf_13 ?_
  refine W.widen (k := rmX9_minutesOf.cells) (n := rmX9_minutesOf.slots) (Nat.le_of_ble_eq_true rfl) (Nat.le_of_ble_eq_true rfl) (vx_ret ?_)
  exact z_ri C hr hlk rfl hP hS h dX9_minutesOf_14
def rmX9_isNear : Room := { frames := 7, cells := 1, slots := 6, locals := 111 }
def wX9_isNear (b : Nat) (p1 : Int32) (st : St) (Q : Int32 → St → Prop) (X : String → St → Prop) : Prop :=
  (wX9_requireWalker b p1 st (fun st1 => (wX2_standsNear (b + 4) p1 st1 (fun r3 st2 => Q r3 st2))) X)
theorem hdX9_isNear : yX9_isNear.cls = "PlankBridge" ∧ yX9_isNear.cls ≠ "java/lang/invoke/MethodHandle" ∧ yX9_isNear.cls ≠ "java/lang/invoke/VarHandle" ∧ (parseMethodDescriptor yX9_isNear.desc).map (fun d => d.parameters.length) = some 1 := by decide +kernel
set_option maxHeartbeats 4000000 in
set_option maxRecDepth 100000 in
theorem tX9_isNear {l : Launch} {E : En0} {L : List Nat} (hE : EK E L) (hL : Cov 0 54 L) {b : Nat} {p1 : Int32} {st : St} {Q : Int32 → St → Prop} {X : String → St → Prop} (hb : kd b = 8) (hfl : l.stackTraces = false) (h : wX9_isNear b p1 st Q X) : Mx l yX9_isNear cX9_isNear 2 (some .boolean) rmX9_isNear E L [.ref (E.2.1 b), .int p1] st (zI E L (fun r u => bz r ∧ Q r u)) X := by
  refine Mx.of hE (by decide) (Nat.le_of_ble_eq_true rfl) ?_
  intro p e s m below meth c ls C hr hlk htab hl hP
  replace C : Cx E L "PlankBridge" cX9_isNear 2 p s m _ c := C
  have hS : va_S (fA E L s.heap.size) s.heap s.heap [] := va_S.rf
  replace hl : lv_has ls 2 [(0, .ref (E.2.1 b)), (1, .int p1)] := hl
  unfold wX9_isNear at h
  refine lv_aload_n C.1 C.2.1 dX9_isNear_0 rfl (lv_at hl 0 rfl) ?_
  refine lv_iload_n C.1 C.2.1 dX9_isNear_1 rfl (lv_at hl 1 rfl) ?_
  refine z_kvx htab hlk (Nat.le_of_ble_eq_true rfl) (Nat.le_of_ble_eq_true rfl) hS (z_runVx (As := [.int p1]) (rest := []) C hP hS (m8 hb hL) (e8 hb) rfl (tX9_requireWalker C.2.2.2.2.2.2.1 (hL.mo (Nat.le_of_ble_eq_true rfl) (Nat.le_of_ble_eq_true rfl)) hb hfl h) q960 q962 q20 q105 q963 hdX9_requireWalker ⟨Nat.le_of_ble_eq_true rfl, Nat.le_of_ble_eq_true rfl⟩ ⟨Nat.le_of_ble_eq_true rfl, Nat.le_of_ble_eq_true rfl⟩ rfl hl.1 rfl (lv_room (Nat.le_of_ble_eq_true rfl)) dX9_isNear_2) (fun st1 H locs h hP hS => ?_)
  refine lv_aload_n C.1 C.2.1 dX9_isNear_5 rfl (lv_at hl 0 rfl) ?_
  refine gf8_2 C hP hb (m8 hb hL) q412 dX9_isNear_6 ?_
  refine lv_iload_n C.1 C.2.1 dX9_isNear_9 rfl (lv_at hl 1 rfl) ?_
  refine z_ki hS (z_runV (As := [.int p1]) (rest := []) C hP hS (m8_4 hb hL) (e2 (k8_4 hb)) rfl (tX2_standsNear C.2.2.2.2.2.2.1 (hL.mo (Nat.le_of_ble_eq_true rfl) (Nat.le_of_ble_eq_true rfl)) (k8_4 hb) h) q832 q833 q834 q112 q835 hdX2_standsNear ⟨Nat.le_of_ble_eq_true rfl, Nat.le_of_ble_eq_true rfl⟩ ⟨Nat.le_of_ble_eq_true rfl, Nat.le_of_ble_eq_true rfl⟩ rfl hl.1 rfl (lv_room (Nat.le_of_ble_eq_true rfl)) dX9_isNear_10) (fun r3 st2 H locs h hP hS => ?_)
  obtain ⟨hr3, h⟩ := h
  refine W.widen (k := rmX9_isNear.cells) (n := rmX9_isNear.slots) (Nat.le_of_ble_eq_true rfl) (Nat.le_of_ble_eq_true rfl) (vx_ret ?_)
  exact z_ri C hr hlk (bz_n hr3) hP hS ⟨hr3, h⟩ dX9_isNear_13
def rmX9_walkersNear : Room := { frames := 2, cells := 0, slots := 0, locals := 40 }
def wX9_walkersNear (b : Nat) (st : St) (Q : Int32 → St → Prop) : Prop :=
  (wX2_countNear (b + 4) st (fun r2 st1 => Q r2 st1))
theorem hdX9_walkersNear : yX9_walkersNear.cls = "PlankBridge" ∧ yX9_walkersNear.cls ≠ "java/lang/invoke/MethodHandle" ∧ yX9_walkersNear.cls ≠ "java/lang/invoke/VarHandle" ∧ (parseMethodDescriptor yX9_walkersNear.desc).map (fun d => d.parameters.length) = some 0 := by decide +kernel
set_option maxHeartbeats 4000000 in
set_option maxRecDepth 100000 in
theorem tX9_walkersNear {l : Launch} {E : En0} {L : List Nat} (hE : EK E L) (hL : Cov 0 54 L) {b : Nat} {st : St} {Q : Int32 → St → Prop} (hb : kd b = 8) (h : wX9_walkersNear b st Q) : Mz l yX9_walkersNear cX9_walkersNear 1 (some .int) rmX9_walkersNear E L [.ref (E.2.1 b)] st (zI E L Q) := by
  refine Mz.of hE (by decide) (Nat.le_of_ble_eq_true rfl) ?_
  intro p e s m below meth c ls C hr hlk _ hl hP
  replace C : Cx E L "PlankBridge" cX9_walkersNear 1 p s m _ c := C
  have hS : va_S (fA E L s.heap.size) s.heap s.heap [] := va_S.rf
  replace hl : lv_has ls 1 [(0, .ref (E.2.1 b))] := hl
  unfold wX9_walkersNear at h
  refine lv_aload_n C.1 C.2.1 dX9_walkersNear_0 rfl (lv_at hl 0 rfl) ?_
  refine gf8_2 C hP hb (m8 hb hL) q412 dX9_walkersNear_1 ?_
  refine z_ki hS (z_runV (As := []) (rest := []) C hP hS (m8_4 hb hL) (e2 (k8_4 hb)) rfl (tX2_countNear C.2.2.2.2.2.2.1 (hL.mo (Nat.le_of_ble_eq_true rfl) (Nat.le_of_ble_eq_true rfl)) (k8_4 hb) h) q712 q713 q714 q112 q715 hdX2_countNear ⟨Nat.le_of_ble_eq_true rfl, Nat.le_of_ble_eq_true rfl⟩ ⟨Nat.zero_le _, Nat.zero_le _⟩ rfl hl.1 rfl (lv_room (Nat.le_of_ble_eq_true rfl)) dX9_walkersNear_4) (fun r2 st1 H locs h hP hS => ?_)
  exact z_ri C hr hlk rfl hP hS h dX9_walkersNear_7
def rmX9_requirePlank : Room := { frames := 6, cells := 1, slots := 6, locals := 90 }
def wX9_requirePlank_L15 (b : Nat) (p1 : Int32)   (st : St) (Q : St → Prop) (X : String → St → Prop) : Prop :=
  X "java/lang/IndexOutOfBoundsException" st
def wX9_requirePlank (b : Nat) (p1 : Int32) (st : St) (Q : St → Prop) (X : String → St → Prop) : Prop :=
  ((p1 < 0 → wX9_requirePlank_L15 b p1 st Q X) ∧ (¬ p1 < 0 → ((p1 < (gI st (b + 4) 4) → Q st) ∧ (¬ p1 < (gI st (b + 4) 4) → wX9_requirePlank_L15 b p1 st Q X))))
theorem hdX9_requirePlank : yX9_requirePlank.cls = "PlankBridge" ∧ yX9_requirePlank.cls ≠ "java/lang/invoke/MethodHandle" ∧ yX9_requirePlank.cls ≠ "java/lang/invoke/VarHandle" ∧ (parseMethodDescriptor yX9_requirePlank.desc).map (fun d => d.parameters.length) = some 1 := by decide +kernel
set_option maxHeartbeats 4000000 in
set_option maxRecDepth 100000 in
theorem tX9_requirePlank_L15 {l : Launch} {p : Program} {e : Env} {s : State} {m : MethodId} {args : Array Value} {below : List Frame} {meth : Method} {c : Code} {E : En0} {L : List Nat} (hL : Cov 0 54 L) (C : Cx E L "PlankBridge" cX9_requirePlank 2 p s m args c) (hr : meth.sig.returnType = none) (hlk : meth.locks = false) (hfl : l.stackTraces = false) (htab : ∀ x ∈ c.exceptionTable.toList, False) {b : Nat} {p1 : Int32} {Q : St → Prop} {X : String → St → Prop} (hb : kd b = 8)   {st : St} (H : Heap) (locs : List Loc) (ls : Array Slot) (h : wX9_requirePlank_L15 b p1 st Q X) (hl : lv_has ls 2 []) (hP : va_P E.1 vwCl (wd E L st) H) (hS : va_S (fA E L s.heap.size) s.heap H locs) : W p l e rmX9_requirePlank s m args below meth c H locs 0 0 (vx_MQ below (zV E L Q (fA E L s.heap.size)) (zX E L X (fA E L s.heap.size)) args s rmX9_requirePlank.cells rmX9_requirePlank.slots (fA E L s.heap.size)) (F0 m 15 ls []) := by
  unfold wX9_requirePlank_L15 at h
  exact z_throwW C hfl htab hlk hP hS hl.1 (text := "no such plank") (by decide) q964 q130 (by decide +kernel) xw_ioo dX9_requirePlank_15 dX9_requirePlank_18 dX9_requirePlank_19 dX9_requirePlank_22 dX9_requirePlank_25 (Nat.le_of_ble_eq_true rfl) (Nat.le_of_ble_eq_true rfl) (Nat.le_of_ble_eq_true rfl) (Nat.le_of_ble_eq_true rfl) h (Nat.le_of_ble_eq_true rfl) (Nat.le_of_ble_eq_true rfl)
set_option maxHeartbeats 4000000 in
set_option maxRecDepth 100000 in
theorem tX9_requirePlank {l : Launch} {E : En0} {L : List Nat} (hE : EK E L) (hL : Cov 0 54 L) {b : Nat} {p1 : Int32} {st : St} {Q : St → Prop} {X : String → St → Prop} (hb : kd b = 8) (hfl : l.stackTraces = false) (h : wX9_requirePlank b p1 st Q X) : Mx l yX9_requirePlank cX9_requirePlank 2 none rmX9_requirePlank E L [.ref (E.2.1 b), .int p1] st (zV E L Q) X := by
  refine Mx.of hE (by decide) (Nat.le_of_ble_eq_true rfl) ?_
  intro p e s m below meth c ls C hr hlk htab hl hP
  replace C : Cx E L "PlankBridge" cX9_requirePlank 2 p s m _ c := C
  have hS : va_S (fA E L s.heap.size) s.heap s.heap [] := va_S.rf
  replace hl : lv_has ls 2 [(0, .ref (E.2.1 b)), (1, .int p1)] := hl
  unfold wX9_requirePlank at h
  refine lv_iload_n C.1 C.2.1 dX9_requirePlank_0 rfl (lv_at hl 1 rfl) ?_
  refine lv_if_lt C.1 C.2.1 (tgt := 15) dX9_requirePlank_1 (by decide) (fun hc => ?_) (fun hc => ?_)
  · have h := h.1 hc
    exact tX9_requirePlank_L15 hL C hr hlk hfl htab hb _ _ _ h (lv_sub hl [] rfl) hP hS
  · have h := h.2 hc
    refine lv_iload_n C.1 C.2.1 dX9_requirePlank_4 rfl (lv_at hl 1 rfl) ?_
    refine lv_aload_n C.1 C.2.1 dX9_requirePlank_5 rfl (lv_at hl 0 rfl) ?_
    refine gf8_2 C hP hb (m8 hb hL) q412 dX9_requirePlank_6 ?_
    refine gn2_4 C hP (k8_4 hb) (m8_4 hb hL) q300 dX9_requirePlank_9 ?_
    refine lv_icmp_lt C.1 C.2.1 (tgt := 26) dX9_requirePlank_12 (by decide) (fun hc => ?_) (fun hc => ?_)
    · have h := h.1 hc
      refine W.widen (k := rmX9_requirePlank.cells) (n := rmX9_requirePlank.slots) (Nat.le_of_ble_eq_true rfl) (Nat.le_of_ble_eq_true rfl) (vx_ret ?_)
      exact z_rv C hr hlk hP hS h dX9_requirePlank_26
    · have h := h.2 hc
      exact tX9_requirePlank_L15 hL C hr hlk hfl htab hb _ _ _ h (lv_sub hl [] rfl) hP hS
def rmX9_strengthOf : Room := { frames := 7, cells := 1, slots := 6, locals := 111 }
def wX9_strengthOf (b : Nat) (p1 : Int32) (st : St) (Q : Int32 → St → Prop) (X : String → St → Prop) : Prop :=
  (wX9_requirePlank b p1 st (fun st1 => (vp_in p1 12 ∧ Q (gI st1 ((b + 4) + 3) (p1 : Int32).toNatClampNeg) st1)) X)
theorem hdX9_strengthOf : yX9_strengthOf.cls = "PlankBridge" ∧ yX9_strengthOf.cls ≠ "java/lang/invoke/MethodHandle" ∧ yX9_strengthOf.cls ≠ "java/lang/invoke/VarHandle" ∧ (parseMethodDescriptor yX9_strengthOf.desc).map (fun d => d.parameters.length) = some 1 := by decide +kernel
set_option maxHeartbeats 4000000 in
set_option maxRecDepth 100000 in
theorem tX9_strengthOf {l : Launch} {E : En0} {L : List Nat} (hE : EK E L) (hL : Cov 0 54 L) {b : Nat} {p1 : Int32} {st : St} {Q : Int32 → St → Prop} {X : String → St → Prop} (hb : kd b = 8) (hfl : l.stackTraces = false) (h : wX9_strengthOf b p1 st Q X) : Mx l yX9_strengthOf cX9_strengthOf 2 (some .int) rmX9_strengthOf E L [.ref (E.2.1 b), .int p1] st (zI E L Q) X := by
  refine Mx.of hE (by decide) (Nat.le_of_ble_eq_true rfl) ?_
  intro p e s m below meth c ls C hr hlk htab hl hP
  replace C : Cx E L "PlankBridge" cX9_strengthOf 2 p s m _ c := C
  have hS : va_S (fA E L s.heap.size) s.heap s.heap [] := va_S.rf
  replace hl : lv_has ls 2 [(0, .ref (E.2.1 b)), (1, .int p1)] := hl
  unfold wX9_strengthOf at h
  refine lv_aload_n C.1 C.2.1 dX9_strengthOf_0 rfl (lv_at hl 0 rfl) ?_
  refine lv_iload_n C.1 C.2.1 dX9_strengthOf_1 rfl (lv_at hl 1 rfl) ?_
  refine z_kvx htab hlk (Nat.le_of_ble_eq_true rfl) (Nat.le_of_ble_eq_true rfl) hS (z_runVx (As := [.int p1]) (rest := []) C hP hS (m8 hb hL) (e8 hb) rfl (tX9_requirePlank C.2.2.2.2.2.2.1 (hL.mo (Nat.le_of_ble_eq_true rfl) (Nat.le_of_ble_eq_true rfl)) hb hfl h) q1001 q1003 q21 q105 q1004 hdX9_requirePlank ⟨Nat.le_of_ble_eq_true rfl, Nat.le_of_ble_eq_true rfl⟩ ⟨Nat.le_of_ble_eq_true rfl, Nat.le_of_ble_eq_true rfl⟩ rfl hl.1 rfl (lv_room (Nat.le_of_ble_eq_true rfl)) dX9_strengthOf_2) (fun st1 H locs h hP hS => ?_)
  refine lv_aload_n C.1 C.2.1 dX9_strengthOf_5 rfl (lv_at hl 0 rfl) ?_
  refine gf8_2 C hP hb (m8 hb hL) q412 dX9_strengthOf_6 ?_
  refine gn2_5 C hP (k8_4 hb) (m8_4 hb hL) q302 dX9_strengthOf_9 ?_
  refine lv_iload_n C.1 C.2.1 dX9_strengthOf_12 rfl (lv_at hl 1 rfl) ?_
  obtain ⟨hi, h⟩ := h
  refine z_iald C hP (k2_3 (k8_4 hb)) (l2_3 (k8_4 hb)) (m2_3 (k8_4 hb) hL) hi dX9_strengthOf_13 ?_
  refine W.widen (k := rmX9_strengthOf.cells) (n := rmX9_strengthOf.slots) (Nat.le_of_ble_eq_true rfl) (Nat.le_of_ble_eq_true rfl) (vx_ret ?_)
  exact z_ri C hr hlk rfl hP hS h dX9_strengthOf_14
def rmX9_bears : Room := { frames := 7, cells := 1, slots := 6, locals := 111 }
def wX9_bears (b : Nat) (p1 : Int32) (st : St) (Q : Int32 → St → Prop) (X : String → St → Prop) : Prop :=
  (wX9_requirePlank b p1 st (fun st1 => (wX2_loadOf (b + 4) p1 st1 (fun r3 st2 => Q r3 st2))) X)
theorem hdX9_bears : yX9_bears.cls = "PlankBridge" ∧ yX9_bears.cls ≠ "java/lang/invoke/MethodHandle" ∧ yX9_bears.cls ≠ "java/lang/invoke/VarHandle" ∧ (parseMethodDescriptor yX9_bears.desc).map (fun d => d.parameters.length) = some 1 := by decide +kernel
set_option maxHeartbeats 4000000 in
set_option maxRecDepth 100000 in
theorem tX9_bears {l : Launch} {E : En0} {L : List Nat} (hE : EK E L) (hL : Cov 0 54 L) {b : Nat} {p1 : Int32} {st : St} {Q : Int32 → St → Prop} {X : String → St → Prop} (hb : kd b = 8) (hfl : l.stackTraces = false) (h : wX9_bears b p1 st Q X) : Mx l yX9_bears cX9_bears 2 (some .int) rmX9_bears E L [.ref (E.2.1 b), .int p1] st (zI E L Q) X := by
  refine Mx.of hE (by decide) (Nat.le_of_ble_eq_true rfl) ?_
  intro p e s m below meth c ls C hr hlk htab hl hP
  replace C : Cx E L "PlankBridge" cX9_bears 2 p s m _ c := C
  have hS : va_S (fA E L s.heap.size) s.heap s.heap [] := va_S.rf
  replace hl : lv_has ls 2 [(0, .ref (E.2.1 b)), (1, .int p1)] := hl
  unfold wX9_bears at h
  refine lv_aload_n C.1 C.2.1 dX9_bears_0 rfl (lv_at hl 0 rfl) ?_
  refine lv_iload_n C.1 C.2.1 dX9_bears_1 rfl (lv_at hl 1 rfl) ?_
  refine z_kvx htab hlk (Nat.le_of_ble_eq_true rfl) (Nat.le_of_ble_eq_true rfl) hS (z_runVx (As := [.int p1]) (rest := []) C hP hS (m8 hb hL) (e8 hb) rfl (tX9_requirePlank C.2.2.2.2.2.2.1 (hL.mo (Nat.le_of_ble_eq_true rfl) (Nat.le_of_ble_eq_true rfl)) hb hfl h) q1001 q1003 q21 q105 q1004 hdX9_requirePlank ⟨Nat.le_of_ble_eq_true rfl, Nat.le_of_ble_eq_true rfl⟩ ⟨Nat.le_of_ble_eq_true rfl, Nat.le_of_ble_eq_true rfl⟩ rfl hl.1 rfl (lv_room (Nat.le_of_ble_eq_true rfl)) dX9_bears_2) (fun st1 H locs h hP hS => ?_)
  refine lv_aload_n C.1 C.2.1 dX9_bears_5 rfl (lv_at hl 0 rfl) ?_
  refine gf8_2 C hP hb (m8 hb hL) q412 dX9_bears_6 ?_
  refine lv_iload_n C.1 C.2.1 dX9_bears_9 rfl (lv_at hl 1 rfl) ?_
  refine z_ki hS (z_runV (As := [.int p1]) (rest := []) C hP hS (m8_4 hb hL) (e2 (k8_4 hb)) rfl (tX2_loadOf C.2.2.2.2.2.2.1 (hL.mo (Nat.le_of_ble_eq_true rfl) (Nat.le_of_ble_eq_true rfl)) (k8_4 hb) h) q836 q837 q838 q112 q839 hdX2_loadOf ⟨Nat.le_of_ble_eq_true rfl, Nat.le_of_ble_eq_true rfl⟩ ⟨Nat.le_of_ble_eq_true rfl, Nat.le_of_ble_eq_true rfl⟩ rfl hl.1 rfl (lv_room (Nat.le_of_ble_eq_true rfl)) dX9_bears_10) (fun r3 st2 H locs h hP hS => ?_)
  refine W.widen (k := rmX9_bears.cells) (n := rmX9_bears.slots) (Nat.le_of_ble_eq_true rfl) (Nat.le_of_ble_eq_true rfl) (vx_ret ?_)
  exact z_ri C hr hlk rfl hP hS h dX9_bears_13
def rmX9_isRotten : Room := { frames := 7, cells := 1, slots := 6, locals := 111 }
def wX9_isRotten (b : Nat) (p1 : Int32) (st : St) (Q : Int32 → St → Prop) (X : String → St → Prop) : Prop :=
  (wX9_requirePlank b p1 st (fun st1 => (vp_in p1 12 ∧ (bz (gI st1 ((b + 4) + 4) (p1 : Int32).toNatClampNeg) ∧ Q (gI st1 ((b + 4) + 4) (p1 : Int32).toNatClampNeg) st1))) X)
theorem hdX9_isRotten : yX9_isRotten.cls = "PlankBridge" ∧ yX9_isRotten.cls ≠ "java/lang/invoke/MethodHandle" ∧ yX9_isRotten.cls ≠ "java/lang/invoke/VarHandle" ∧ (parseMethodDescriptor yX9_isRotten.desc).map (fun d => d.parameters.length) = some 1 := by decide +kernel
set_option maxHeartbeats 4000000 in
set_option maxRecDepth 100000 in
theorem tX9_isRotten {l : Launch} {E : En0} {L : List Nat} (hE : EK E L) (hL : Cov 0 54 L) {b : Nat} {p1 : Int32} {st : St} {Q : Int32 → St → Prop} {X : String → St → Prop} (hb : kd b = 8) (hfl : l.stackTraces = false) (h : wX9_isRotten b p1 st Q X) : Mx l yX9_isRotten cX9_isRotten 2 (some .boolean) rmX9_isRotten E L [.ref (E.2.1 b), .int p1] st (zI E L (fun r u => bz r ∧ Q r u)) X := by
  refine Mx.of hE (by decide) (Nat.le_of_ble_eq_true rfl) ?_
  intro p e s m below meth c ls C hr hlk htab hl hP
  replace C : Cx E L "PlankBridge" cX9_isRotten 2 p s m _ c := C
  have hS : va_S (fA E L s.heap.size) s.heap s.heap [] := va_S.rf
  replace hl : lv_has ls 2 [(0, .ref (E.2.1 b)), (1, .int p1)] := hl
  unfold wX9_isRotten at h
  refine lv_aload_n C.1 C.2.1 dX9_isRotten_0 rfl (lv_at hl 0 rfl) ?_
  refine lv_iload_n C.1 C.2.1 dX9_isRotten_1 rfl (lv_at hl 1 rfl) ?_
  refine z_kvx htab hlk (Nat.le_of_ble_eq_true rfl) (Nat.le_of_ble_eq_true rfl) hS (z_runVx (As := [.int p1]) (rest := []) C hP hS (m8 hb hL) (e8 hb) rfl (tX9_requirePlank C.2.2.2.2.2.2.1 (hL.mo (Nat.le_of_ble_eq_true rfl) (Nat.le_of_ble_eq_true rfl)) hb hfl h) q1001 q1003 q21 q105 q1004 hdX9_requirePlank ⟨Nat.le_of_ble_eq_true rfl, Nat.le_of_ble_eq_true rfl⟩ ⟨Nat.le_of_ble_eq_true rfl, Nat.le_of_ble_eq_true rfl⟩ rfl hl.1 rfl (lv_room (Nat.le_of_ble_eq_true rfl)) dX9_isRotten_2) (fun st1 H locs h hP hS => ?_)
  refine lv_aload_n C.1 C.2.1 dX9_isRotten_5 rfl (lv_at hl 0 rfl) ?_
  refine gf8_2 C hP hb (m8 hb hL) q412 dX9_isRotten_6 ?_
  refine gn2_6 C hP (k8_4 hb) (m8_4 hb hL) q304 dX9_isRotten_9 ?_
  refine lv_iload_n C.1 C.2.1 dX9_isRotten_12 rfl (lv_at hl 1 rfl) ?_
  obtain ⟨hi, h⟩ := h
  refine z_zald C hP (k2_4 (k8_4 hb)) (l2_4 (k8_4 hb)) (m2_4 (k8_4 hb) hL) hi dX9_isRotten_13 ?_
  refine W.widen (k := rmX9_isRotten.cells) (n := rmX9_isRotten.slots) (Nat.le_of_ble_eq_true rfl) (Nat.le_of_ble_eq_true rfl) (vx_ret ?_)
  exact z_ri C hr hlk (bz_n h.1) hP hS h dX9_isRotten_14
def rmX9_missingPlanks : Room := { frames := 1, cells := 0, slots := 0, locals := 22 }
def wX9_missingPlanks (b : Nat) (st : St) (Q : Int32 → St → Prop) : Prop :=
  (wX2_countMissing (b + 4) st (fun r2 st1 => Q r2 st1))
theorem hdX9_missingPlanks : yX9_missingPlanks.cls = "PlankBridge" ∧ yX9_missingPlanks.cls ≠ "java/lang/invoke/MethodHandle" ∧ yX9_missingPlanks.cls ≠ "java/lang/invoke/VarHandle" ∧ (parseMethodDescriptor yX9_missingPlanks.desc).map (fun d => d.parameters.length) = some 0 := by decide +kernel
set_option maxHeartbeats 4000000 in
set_option maxRecDepth 100000 in
theorem tX9_missingPlanks {l : Launch} {E : En0} {L : List Nat} (hE : EK E L) (hL : Cov 0 54 L) {b : Nat} {st : St} {Q : Int32 → St → Prop} (hb : kd b = 8) (h : wX9_missingPlanks b st Q) : Mz l yX9_missingPlanks cX9_missingPlanks 1 (some .int) rmX9_missingPlanks E L [.ref (E.2.1 b)] st (zI E L Q) := by
  refine Mz.of hE (by decide) (Nat.le_of_ble_eq_true rfl) ?_
  intro p e s m below meth c ls C hr hlk _ hl hP
  replace C : Cx E L "PlankBridge" cX9_missingPlanks 1 p s m _ c := C
  have hS : va_S (fA E L s.heap.size) s.heap s.heap [] := va_S.rf
  replace hl : lv_has ls 1 [(0, .ref (E.2.1 b))] := hl
  unfold wX9_missingPlanks at h
  refine lv_aload_n C.1 C.2.1 dX9_missingPlanks_0 rfl (lv_at hl 0 rfl) ?_
  refine gf8_2 C hP hb (m8 hb hL) q412 dX9_missingPlanks_1 ?_
  refine z_ki hS (z_runV (As := []) (rest := []) C hP hS (m8_4 hb hL) (e2 (k8_4 hb)) rfl (tX2_countMissing C.2.2.2.2.2.2.1 (hL.mo (Nat.le_of_ble_eq_true rfl) (Nat.le_of_ble_eq_true rfl)) (k8_4 hb) h) q726 q727 q728 q112 q729 hdX2_countMissing ⟨Nat.le_of_ble_eq_true rfl, Nat.le_of_ble_eq_true rfl⟩ ⟨Nat.zero_le _, Nat.zero_le _⟩ rfl hl.1 rfl (lv_room (Nat.le_of_ble_eq_true rfl)) dX9_missingPlanks_4) (fun r2 st1 H locs h hP hS => ?_)
  exact z_ri C hr hlk rfl hP hS h dX9_missingPlanks_7
def rmX9_requireSomePlank : Room := { frames := 6, cells := 1, slots := 6, locals := 90 }
def wX9_requireSomePlank (b : Nat) (st : St) (Q : St → Prop) (X : String → St → Prop) : Prop :=
  (wX2_findWeakest (b + 4) 1 st (fun r2 st1 => ((¬ r2 = (-1) → Q st1) ∧ (r2 = (-1) → X "java/lang/IllegalStateException" st1))))
theorem hdX9_requireSomePlank : yX9_requireSomePlank.cls = "PlankBridge" ∧ yX9_requireSomePlank.cls ≠ "java/lang/invoke/MethodHandle" ∧ yX9_requireSomePlank.cls ≠ "java/lang/invoke/VarHandle" ∧ (parseMethodDescriptor yX9_requireSomePlank.desc).map (fun d => d.parameters.length) = some 0 := by decide +kernel
set_option maxHeartbeats 4000000 in
set_option maxRecDepth 100000 in
theorem tX9_requireSomePlank {l : Launch} {E : En0} {L : List Nat} (hE : EK E L) (hL : Cov 0 54 L) {b : Nat} {st : St} {Q : St → Prop} {X : String → St → Prop} (hb : kd b = 8) (hfl : l.stackTraces = false) (h : wX9_requireSomePlank b st Q X) : Mx l yX9_requireSomePlank cX9_requireSomePlank 1 none rmX9_requireSomePlank E L [.ref (E.2.1 b)] st (zV E L Q) X := by
  refine Mx.of hE (by decide) (Nat.le_of_ble_eq_true rfl) ?_
  intro p e s m below meth c ls C hr hlk htab hl hP
  replace C : Cx E L "PlankBridge" cX9_requireSomePlank 1 p s m _ c := C
  have hS : va_S (fA E L s.heap.size) s.heap s.heap [] := va_S.rf
  replace hl : lv_has ls 1 [(0, .ref (E.2.1 b))] := hl
  unfold wX9_requireSomePlank at h
  refine lv_aload_n C.1 C.2.1 dX9_requireSomePlank_0 rfl (lv_at hl 0 rfl) ?_
  refine gf8_2 C hP hb (m8 hb hL) q412 dX9_requireSomePlank_1 ?_
  refine lv_iconst C.1 C.2.1 (v := 1) dX9_requireSomePlank_4 rfl ?_
  refine z_ki hS (z_runV (As := [.int 1]) (rest := []) C hP hS (m8_4 hb hL) (e2 (k8_4 hb)) rfl (tX2_findWeakest C.2.2.2.2.2.2.1 (hL.mo (Nat.le_of_ble_eq_true rfl) (Nat.le_of_ble_eq_true rfl)) (k8_4 hb) h) q1031 q1032 q1033 q112 q1034 hdX2_findWeakest ⟨Nat.le_of_ble_eq_true rfl, Nat.le_of_ble_eq_true rfl⟩ ⟨Nat.le_of_ble_eq_true rfl, Nat.le_of_ble_eq_true rfl⟩ rfl hl.1 rfl (lv_room (Nat.le_of_ble_eq_true rfl)) dX9_requireSomePlank_5) (fun r2 st1 H locs h hP hS => ?_)
  refine lv_iconst C.1 C.2.1 (v := (-1)) dX9_requireSomePlank_8 rfl ?_
  refine lv_icmp_ne C.1 C.2.1 (tgt := 23) dX9_requireSomePlank_9 (by decide) (fun hc => ?_) (fun hc => ?_)
  · have h := h.1 hc
    refine W.widen (k := rmX9_requireSomePlank.cells) (n := rmX9_requireSomePlank.slots) (Nat.le_of_ble_eq_true rfl) (Nat.le_of_ble_eq_true rfl) (vx_ret ?_)
    exact z_rv C hr hlk hP hS h dX9_requireSomePlank_23
  · have h := h.2 hc
    exact z_throwW C hfl htab hlk hP hS hl.1 (text := "all planks are missing") (by decide) q857 q121 (by decide +kernel) xw_ise dX9_requireSomePlank_12 dX9_requireSomePlank_15 dX9_requireSomePlank_16 dX9_requireSomePlank_19 dX9_requireSomePlank_22 (Nat.le_of_ble_eq_true rfl) (Nat.le_of_ble_eq_true rfl) (Nat.le_of_ble_eq_true rfl) (Nat.le_of_ble_eq_true rfl) h (Nat.le_of_ble_eq_true rfl) (Nat.le_of_ble_eq_true rfl)
def rmX9_weakestPlank : Room := { frames := 7, cells := 1, slots := 6, locals := 110 }
def wX9_weakestPlank (b : Nat) (st : St) (Q : Int32 → St → Prop) (X : String → St → Prop) : Prop :=
  (wX9_requireSomePlank b st (fun st1 => (wX2_findWeakest (b + 4) 1 st1 (fun r3 st2 => Q r3 st2))) X)
theorem hdX9_weakestPlank : yX9_weakestPlank.cls = "PlankBridge" ∧ yX9_weakestPlank.cls ≠ "java/lang/invoke/MethodHandle" ∧ yX9_weakestPlank.cls ≠ "java/lang/invoke/VarHandle" ∧ (parseMethodDescriptor yX9_weakestPlank.desc).map (fun d => d.parameters.length) = some 0 := by decide +kernel
set_option maxHeartbeats 4000000 in
set_option maxRecDepth 100000 in
theorem tX9_weakestPlank {l : Launch} {E : En0} {L : List Nat} (hE : EK E L) (hL : Cov 0 54 L) {b : Nat} {st : St} {Q : Int32 → St → Prop} {X : String → St → Prop} (hb : kd b = 8) (hfl : l.stackTraces = false) (h : wX9_weakestPlank b st Q X) : Mx l yX9_weakestPlank cX9_weakestPlank 1 (some .int) rmX9_weakestPlank E L [.ref (E.2.1 b)] st (zI E L Q) X := by
  refine Mx.of hE (by decide) (Nat.le_of_ble_eq_true rfl) ?_
  intro p e s m below meth c ls C hr hlk htab hl hP
  replace C : Cx E L "PlankBridge" cX9_weakestPlank 1 p s m _ c := C
  have hS : va_S (fA E L s.heap.size) s.heap s.heap [] := va_S.rf
  replace hl : lv_has ls 1 [(0, .ref (E.2.1 b))] := hl
  unfold wX9_weakestPlank at h
  refine lv_aload_n C.1 C.2.1 dX9_weakestPlank_0 rfl (lv_at hl 0 rfl) ?_
  refine z_kvx htab hlk (Nat.le_of_ble_eq_true rfl) (Nat.le_of_ble_eq_true rfl) hS (z_runVx (As := []) (rest := []) C hP hS (m8 hb hL) (e8 hb) rfl (tX9_requireSomePlank C.2.2.2.2.2.2.1 (hL.mo (Nat.le_of_ble_eq_true rfl) (Nat.le_of_ble_eq_true rfl)) hb hfl h) q1027 q1029 q22 q105 q1030 hdX9_requireSomePlank ⟨Nat.le_of_ble_eq_true rfl, Nat.le_of_ble_eq_true rfl⟩ ⟨Nat.le_of_ble_eq_true rfl, Nat.le_of_ble_eq_true rfl⟩ rfl hl.1 rfl (lv_room (Nat.le_of_ble_eq_true rfl)) dX9_weakestPlank_1) (fun st1 H locs h hP hS => ?_)
  refine lv_aload_n C.1 C.2.1 dX9_weakestPlank_4 rfl (lv_at hl 0 rfl) ?_
  refine gf8_2 C hP hb (m8 hb hL) q412 dX9_weakestPlank_5 ?_
  refine lv_iconst C.1 C.2.1 (v := 1) dX9_weakestPlank_8 rfl ?_
  refine z_ki hS (z_runV (As := [.int 1]) (rest := []) C hP hS (m8_4 hb hL) (e2 (k8_4 hb)) rfl (tX2_findWeakest C.2.2.2.2.2.2.1 (hL.mo (Nat.le_of_ble_eq_true rfl) (Nat.le_of_ble_eq_true rfl)) (k8_4 hb) h) q1031 q1032 q1033 q112 q1034 hdX2_findWeakest ⟨Nat.le_of_ble_eq_true rfl, Nat.le_of_ble_eq_true rfl⟩ ⟨Nat.le_of_ble_eq_true rfl, Nat.le_of_ble_eq_true rfl⟩ rfl hl.1 rfl (lv_room (Nat.le_of_ble_eq_true rfl)) dX9_weakestPlank_9) (fun r3 st2 H locs h hP hS => ?_)
  refine W.widen (k := rmX9_weakestPlank.cells) (n := rmX9_weakestPlank.slots) (Nat.le_of_ble_eq_true rfl) (Nat.le_of_ble_eq_true rfl) (vx_ret ?_)
  exact z_ri C hr hlk rfl hP hS h dX9_weakestPlank_12
def rmX9_isPassable : Room := { frames := 1, cells := 0, slots := 0, locals := 21 }
def wX9_isPassable (b : Nat) (st : St) (Q : Int32 → St → Prop) : Prop :=
  (wX2_canBePassed (b + 4) st (fun r2 st1 => Q r2 st1))
theorem hdX9_isPassable : yX9_isPassable.cls = "PlankBridge" ∧ yX9_isPassable.cls ≠ "java/lang/invoke/MethodHandle" ∧ yX9_isPassable.cls ≠ "java/lang/invoke/VarHandle" ∧ (parseMethodDescriptor yX9_isPassable.desc).map (fun d => d.parameters.length) = some 0 := by decide +kernel
set_option maxHeartbeats 4000000 in
set_option maxRecDepth 100000 in
theorem tX9_isPassable {l : Launch} {E : En0} {L : List Nat} (hE : EK E L) (hL : Cov 0 54 L) {b : Nat} {st : St} {Q : Int32 → St → Prop} (hb : kd b = 8) (h : wX9_isPassable b st Q) : Mz l yX9_isPassable cX9_isPassable 1 (some .boolean) rmX9_isPassable E L [.ref (E.2.1 b)] st (zI E L (fun r u => bz r ∧ Q r u)) := by
  refine Mz.of hE (by decide) (Nat.le_of_ble_eq_true rfl) ?_
  intro p e s m below meth c ls C hr hlk _ hl hP
  replace C : Cx E L "PlankBridge" cX9_isPassable 1 p s m _ c := C
  have hS : va_S (fA E L s.heap.size) s.heap s.heap [] := va_S.rf
  replace hl : lv_has ls 1 [(0, .ref (E.2.1 b))] := hl
  unfold wX9_isPassable at h
  refine lv_aload_n C.1 C.2.1 dX9_isPassable_0 rfl (lv_at hl 0 rfl) ?_
  refine gf8_2 C hP hb (m8 hb hL) q412 dX9_isPassable_1 ?_
  refine z_ki hS (z_runV (As := []) (rest := []) C hP hS (m8_4 hb hL) (e2 (k8_4 hb)) rfl (tX2_canBePassed C.2.2.2.2.2.2.1 (hL.mo (Nat.le_of_ble_eq_true rfl) (Nat.le_of_ble_eq_true rfl)) (k8_4 hb) h) q734 q735 q736 q112 q737 hdX2_canBePassed ⟨Nat.le_of_ble_eq_true rfl, Nat.le_of_ble_eq_true rfl⟩ ⟨Nat.zero_le _, Nat.zero_le _⟩ rfl hl.1 rfl (lv_room (Nat.le_of_ble_eq_true rfl)) dX9_isPassable_4) (fun r2 st1 H locs h hP hS => ?_)
  obtain ⟨hr2, h⟩ := h
  exact z_ri C hr hlk (bz_n hr2) hP hS ⟨hr2, h⟩ dX9_isPassable_7
def rmX9_heaviestLoad : Room := { frames := 7, cells := 1, slots := 6, locals := 110 }
def wX9_heaviestLoad (b : Nat) (st : St) (Q : Int32 → St → Prop) (X : String → St → Prop) : Prop :=
  (wX9_requireSomePlank b st (fun st1 => (wX2_findWeakest (b + 4) 1 st1 (fun r3 st2 => (wX2_loadOf (b + 4) r3 st2 (fun r5 st4 => Q r5 st4))))) X)
theorem hdX9_heaviestLoad : yX9_heaviestLoad.cls = "PlankBridge" ∧ yX9_heaviestLoad.cls ≠ "java/lang/invoke/MethodHandle" ∧ yX9_heaviestLoad.cls ≠ "java/lang/invoke/VarHandle" ∧ (parseMethodDescriptor yX9_heaviestLoad.desc).map (fun d => d.parameters.length) = some 0 := by decide +kernel
set_option maxHeartbeats 4000000 in
set_option maxRecDepth 100000 in
theorem tX9_heaviestLoad {l : Launch} {E : En0} {L : List Nat} (hE : EK E L) (hL : Cov 0 54 L) {b : Nat} {st : St} {Q : Int32 → St → Prop} {X : String → St → Prop} (hb : kd b = 8) (hfl : l.stackTraces = false) (h : wX9_heaviestLoad b st Q X) : Mx l yX9_heaviestLoad cX9_heaviestLoad 1 (some .int) rmX9_heaviestLoad E L [.ref (E.2.1 b)] st (zI E L Q) X := by
  refine Mx.of hE (by decide) (Nat.le_of_ble_eq_true rfl) ?_
  intro p e s m below meth c ls C hr hlk htab hl hP
  replace C : Cx E L "PlankBridge" cX9_heaviestLoad 1 p s m _ c := C
  have hS : va_S (fA E L s.heap.size) s.heap s.heap [] := va_S.rf
  replace hl : lv_has ls 1 [(0, .ref (E.2.1 b))] := hl
  unfold wX9_heaviestLoad at h
  refine lv_aload_n C.1 C.2.1 dX9_heaviestLoad_0 rfl (lv_at hl 0 rfl) ?_
  refine z_kvx htab hlk (Nat.le_of_ble_eq_true rfl) (Nat.le_of_ble_eq_true rfl) hS (z_runVx (As := []) (rest := []) C hP hS (m8 hb hL) (e8 hb) rfl (tX9_requireSomePlank C.2.2.2.2.2.2.1 (hL.mo (Nat.le_of_ble_eq_true rfl) (Nat.le_of_ble_eq_true rfl)) hb hfl h) q1027 q1029 q22 q105 q1030 hdX9_requireSomePlank ⟨Nat.le_of_ble_eq_true rfl, Nat.le_of_ble_eq_true rfl⟩ ⟨Nat.le_of_ble_eq_true rfl, Nat.le_of_ble_eq_true rfl⟩ rfl hl.1 rfl (lv_room (Nat.le_of_ble_eq_true rfl)) dX9_heaviestLoad_1) (fun st1 H locs h hP hS => ?_)
  refine lv_aload_n C.1 C.2.1 dX9_heaviestLoad_4 rfl (lv_at hl 0 rfl) ?_
  refine gf8_2 C hP hb (m8 hb hL) q412 dX9_heaviestLoad_5 ?_
  refine lv_aload_n C.1 C.2.1 dX9_heaviestLoad_8 rfl (lv_at hl 0 rfl) ?_
  refine gf8_2 C hP hb (m8 hb hL) q412 dX9_heaviestLoad_9 ?_
  refine lv_iconst C.1 C.2.1 (v := 1) dX9_heaviestLoad_12 rfl ?_
  refine z_ki hS (z_runV (As := [.int 1]) (rest := [.ref (E.2.1 ((b + 4)))]) C hP hS (m8_4 hb hL) (e2 (k8_4 hb)) rfl (tX2_findWeakest C.2.2.2.2.2.2.1 (hL.mo (Nat.le_of_ble_eq_true rfl) (Nat.le_of_ble_eq_true rfl)) (k8_4 hb) h) q1031 q1032 q1033 q112 q1034 hdX2_findWeakest ⟨Nat.le_of_ble_eq_true rfl, Nat.le_of_ble_eq_true rfl⟩ ⟨Nat.le_of_ble_eq_true rfl, Nat.le_of_ble_eq_true rfl⟩ rfl hl.1 rfl (lv_room (Nat.le_of_ble_eq_true rfl)) dX9_heaviestLoad_13) (fun r3 st2 H locs h hP hS => ?_)
  refine z_ki hS (z_runV (As := [.int r3]) (rest := []) C hP hS (m8_4 hb hL) (e2 (k8_4 hb)) rfl (tX2_loadOf C.2.2.2.2.2.2.1 (hL.mo (Nat.le_of_ble_eq_true rfl) (Nat.le_of_ble_eq_true rfl)) (k8_4 hb) h) q836 q837 q838 q112 q839 hdX2_loadOf ⟨Nat.le_of_ble_eq_true rfl, Nat.le_of_ble_eq_true rfl⟩ ⟨Nat.le_of_ble_eq_true rfl, Nat.le_of_ble_eq_true rfl⟩ rfl hl.1 rfl (lv_room (Nat.le_of_ble_eq_true rfl)) dX9_heaviestLoad_16) (fun r5 st4 H locs h hP hS => ?_)
  refine W.widen (k := rmX9_heaviestLoad.cells) (n := rmX9_heaviestLoad.slots) (Nat.le_of_ble_eq_true rfl) (Nat.le_of_ble_eq_true rfl) (vx_ret ?_)
  exact z_ri C hr hlk rfl hP hS h dX9_heaviestLoad_19
def rmX9_isLampNear : Room := { frames := 0, cells := 0, slots := 0, locals := 0 }
def wX9_isLampNear (b : Nat) (st : St) (Q : Int32 → St → Prop) : Prop :=
  (bz (gI st (b + 4) 7) ∧ Q (gI st (b + 4) 7) st)
theorem hdX9_isLampNear : yX9_isLampNear.cls = "PlankBridge" ∧ yX9_isLampNear.cls ≠ "java/lang/invoke/MethodHandle" ∧ yX9_isLampNear.cls ≠ "java/lang/invoke/VarHandle" ∧ (parseMethodDescriptor yX9_isLampNear.desc).map (fun d => d.parameters.length) = some 0 := by decide +kernel
set_option maxHeartbeats 4000000 in
set_option maxRecDepth 100000 in
theorem tX9_isLampNear {l : Launch} {E : En0} {L : List Nat} (hE : EK E L) (hL : Cov 0 54 L) {b : Nat} {st : St} {Q : Int32 → St → Prop} (hb : kd b = 8) (h : wX9_isLampNear b st Q) : Mz l yX9_isLampNear cX9_isLampNear 1 (some .boolean) rmX9_isLampNear E L [.ref (E.2.1 b)] st (zI E L (fun r u => bz r ∧ Q r u)) := by
  refine Mz.of hE (by decide) (Nat.le_of_ble_eq_true rfl) ?_
  intro p e s m below meth c ls C hr hlk _ hl hP
  replace C : Cx E L "PlankBridge" cX9_isLampNear 1 p s m _ c := C
  have hS : va_S (fA E L s.heap.size) s.heap s.heap [] := va_S.rf
  replace hl : lv_has ls 1 [(0, .ref (E.2.1 b))] := hl
  unfold wX9_isLampNear at h
  refine lv_aload_n C.1 C.2.1 dX9_isLampNear_0 rfl (lv_at hl 0 rfl) ?_
  refine gf8_2 C hP hb (m8 hb hL) q412 dX9_isLampNear_1 ?_
  refine gn2_7 C hP (k8_4 hb) (m8_4 hb hL) q307 dX9_isLampNear_4 ?_
  exact z_ri C hr hlk (bz_n h.1) hP hS h dX9_isLampNear_7
def rmX9_oilLeft : Room := { frames := 0, cells := 0, slots := 0, locals := 0 }
def wX9_oilLeft (b : Nat) (st : St) (Q : Int32 → St → Prop) : Prop :=
  Q (gI st (b + 4) 8) st
theorem hdX9_oilLeft : yX9_oilLeft.cls = "PlankBridge" ∧ yX9_oilLeft.cls ≠ "java/lang/invoke/MethodHandle" ∧ yX9_oilLeft.cls ≠ "java/lang/invoke/VarHandle" ∧ (parseMethodDescriptor yX9_oilLeft.desc).map (fun d => d.parameters.length) = some 0 := by decide +kernel
set_option maxHeartbeats 4000000 in
set_option maxRecDepth 100000 in
theorem tX9_oilLeft {l : Launch} {E : En0} {L : List Nat} (hE : EK E L) (hL : Cov 0 54 L) {b : Nat} {st : St} {Q : Int32 → St → Prop} (hb : kd b = 8) (h : wX9_oilLeft b st Q) : Mz l yX9_oilLeft cX9_oilLeft 1 (some .int) rmX9_oilLeft E L [.ref (E.2.1 b)] st (zI E L Q) := by
  refine Mz.of hE (by decide) (Nat.le_of_ble_eq_true rfl) ?_
  intro p e s m below meth c ls C hr hlk _ hl hP
  replace C : Cx E L "PlankBridge" cX9_oilLeft 1 p s m _ c := C
  have hS : va_S (fA E L s.heap.size) s.heap s.heap [] := va_S.rf
  replace hl : lv_has ls 1 [(0, .ref (E.2.1 b))] := hl
  unfold wX9_oilLeft at h
  refine lv_aload_n C.1 C.2.1 dX9_oilLeft_0 rfl (lv_at hl 0 rfl) ?_
  refine gf8_2 C hP hb (m8 hb hL) q412 dX9_oilLeft_1 ?_
  refine gn2_8 C hP (k8_4 hb) (m8_4 hb hL) q309 dX9_oilLeft_4 ?_
  exact z_ri C hr hlk rfl hP hS h dX9_oilLeft_7
def rmX9_night : Room := { frames := 0, cells := 0, slots := 0, locals := 0 }
def wX9_night (b : Nat) (st : St) (Q : Int32 → St → Prop) : Prop :=
  Q (gI st (b + 4) 9) st
theorem hdX9_night : yX9_night.cls = "PlankBridge" ∧ yX9_night.cls ≠ "java/lang/invoke/MethodHandle" ∧ yX9_night.cls ≠ "java/lang/invoke/VarHandle" ∧ (parseMethodDescriptor yX9_night.desc).map (fun d => d.parameters.length) = some 0 := by decide +kernel
set_option maxHeartbeats 4000000 in
set_option maxRecDepth 100000 in
theorem tX9_night {l : Launch} {E : En0} {L : List Nat} (hE : EK E L) (hL : Cov 0 54 L) {b : Nat} {st : St} {Q : Int32 → St → Prop} (hb : kd b = 8) (h : wX9_night b st Q) : Mz l yX9_night cX9_night 1 (some .int) rmX9_night E L [.ref (E.2.1 b)] st (zI E L Q) := by
  refine Mz.of hE (by decide) (Nat.le_of_ble_eq_true rfl) ?_
  intro p e s m below meth c ls C hr hlk _ hl hP
  replace C : Cx E L "PlankBridge" cX9_night 1 p s m _ c := C
  have hS : va_S (fA E L s.heap.size) s.heap s.heap [] := va_S.rf
  replace hl : lv_has ls 1 [(0, .ref (E.2.1 b))] := hl
  unfold wX9_night at h
  refine lv_aload_n C.1 C.2.1 dX9_night_0 rfl (lv_at hl 0 rfl) ?_
  refine gf8_2 C hP hb (m8 hb hL) q412 dX9_night_1 ?_
  refine gn2_9 C hP (k8_4 hb) (m8_4 hb hL) q311 dX9_night_4 ?_
  exact z_ri C hr hlk rfl hP hS h dX9_night_7
def rmX9_minute : Room := { frames := 0, cells := 0, slots := 0, locals := 0 }
def wX9_minute (b : Nat) (st : St) (Q : Int32 → St → Prop) : Prop :=
  Q (gI st (b + 4) 10) st
theorem hdX9_minute : yX9_minute.cls = "PlankBridge" ∧ yX9_minute.cls ≠ "java/lang/invoke/MethodHandle" ∧ yX9_minute.cls ≠ "java/lang/invoke/VarHandle" ∧ (parseMethodDescriptor yX9_minute.desc).map (fun d => d.parameters.length) = some 0 := by decide +kernel
set_option maxHeartbeats 4000000 in
set_option maxRecDepth 100000 in
theorem tX9_minute {l : Launch} {E : En0} {L : List Nat} (hE : EK E L) (hL : Cov 0 54 L) {b : Nat} {st : St} {Q : Int32 → St → Prop} (hb : kd b = 8) (h : wX9_minute b st Q) : Mz l yX9_minute cX9_minute 1 (some .int) rmX9_minute E L [.ref (E.2.1 b)] st (zI E L Q) := by
  refine Mz.of hE (by decide) (Nat.le_of_ble_eq_true rfl) ?_
  intro p e s m below meth c ls C hr hlk _ hl hP
  replace C : Cx E L "PlankBridge" cX9_minute 1 p s m _ c := C
  have hS : va_S (fA E L s.heap.size) s.heap s.heap [] := va_S.rf
  replace hl : lv_has ls 1 [(0, .ref (E.2.1 b))] := hl
  unfold wX9_minute at h
  refine lv_aload_n C.1 C.2.1 dX9_minute_0 rfl (lv_at hl 0 rfl) ?_
  refine gf8_2 C hP hb (m8 hb hL) q412 dX9_minute_1 ?_
  refine gn2_10 C hP (k8_4 hb) (m8_4 hb hL) q313 dX9_minute_4 ?_
  exact z_ri C hr hlk rfl hP hS h dX9_minute_7
def rmX9_isWeakNight : Room := { frames := 1, cells := 0, slots := 0, locals := 20 }
def wX9_isWeakNight (b : Nat) (st : St) (Q : Int32 → St → Prop) : Prop :=
  (wX2_nightIsWeak (b + 4) st (fun r2 st1 => Q r2 st1))
theorem hdX9_isWeakNight : yX9_isWeakNight.cls = "PlankBridge" ∧ yX9_isWeakNight.cls ≠ "java/lang/invoke/MethodHandle" ∧ yX9_isWeakNight.cls ≠ "java/lang/invoke/VarHandle" ∧ (parseMethodDescriptor yX9_isWeakNight.desc).map (fun d => d.parameters.length) = some 0 := by decide +kernel
set_option maxHeartbeats 4000000 in
set_option maxRecDepth 100000 in
theorem tX9_isWeakNight {l : Launch} {E : En0} {L : List Nat} (hE : EK E L) (hL : Cov 0 54 L) {b : Nat} {st : St} {Q : Int32 → St → Prop} (hb : kd b = 8) (h : wX9_isWeakNight b st Q) : Mz l yX9_isWeakNight cX9_isWeakNight 1 (some .boolean) rmX9_isWeakNight E L [.ref (E.2.1 b)] st (zI E L (fun r u => bz r ∧ Q r u)) := by
  refine Mz.of hE (by decide) (Nat.le_of_ble_eq_true rfl) ?_
  intro p e s m below meth c ls C hr hlk _ hl hP
  replace C : Cx E L "PlankBridge" cX9_isWeakNight 1 p s m _ c := C
  have hS : va_S (fA E L s.heap.size) s.heap s.heap [] := va_S.rf
  replace hl : lv_has ls 1 [(0, .ref (E.2.1 b))] := hl
  unfold wX9_isWeakNight at h
  refine lv_aload_n C.1 C.2.1 dX9_isWeakNight_0 rfl (lv_at hl 0 rfl) ?_
  refine gf8_2 C hP hb (m8 hb hL) q412 dX9_isWeakNight_1 ?_
  refine z_ki hS (z_runV (As := []) (rest := []) C hP hS (m8_4 hb hL) (e2 (k8_4 hb)) rfl (tX2_nightIsWeak C.2.2.2.2.2.2.1 (hL.mo (Nat.le_of_ble_eq_true rfl) (Nat.le_of_ble_eq_true rfl)) (k8_4 hb) h) q758 q759 q760 q112 q761 hdX2_nightIsWeak ⟨Nat.le_of_ble_eq_true rfl, Nat.le_of_ble_eq_true rfl⟩ ⟨Nat.zero_le _, Nat.zero_le _⟩ rfl hl.1 rfl (lv_room (Nat.le_of_ble_eq_true rfl)) dX9_isWeakNight_4) (fun r2 st1 H locs h hP hS => ?_)
  obtain ⟨hr2, h⟩ := h
  exact z_ri C hr hlk (bz_n hr2) hP hS ⟨hr2, h⟩ dX9_isWeakNight_7
def rmX9_crossNow : Room := { frames := 6, cells := 1, slots := 6, locals := 92 }
def wX9_crossNow (b : Nat) (p1 : Int32) (p2 : Int32) (st : St) (Q : Int32 → St → Prop) (X : String → St → Prop) : Prop :=
  (wX2_canGo (b + 4) p1 p2 st (fun r2 st1 => ((¬ r2 = 0 → (wX2_go (b + 4) p1 p2 st1 (fun r4 st3 => Q r4 st3))) ∧ (r2 = 0 → X "java/lang/IllegalStateException" st1))))
theorem hdX9_crossNow : yX9_crossNow.cls = "PlankBridge" ∧ yX9_crossNow.cls ≠ "java/lang/invoke/MethodHandle" ∧ yX9_crossNow.cls ≠ "java/lang/invoke/VarHandle" ∧ (parseMethodDescriptor yX9_crossNow.desc).map (fun d => d.parameters.length) = some 2 := by decide +kernel
set_option maxHeartbeats 4000000 in
set_option maxRecDepth 100000 in
theorem tX9_crossNow {l : Launch} {E : En0} {L : List Nat} (hE : EK E L) (hL : Cov 0 54 L) {b : Nat} {p1 : Int32} {p2 : Int32} {st : St} {Q : Int32 → St → Prop} {X : String → St → Prop} (hb : kd b = 8) (hfl : l.stackTraces = false) (h : wX9_crossNow b p1 p2 st Q X) : Mx l yX9_crossNow cX9_crossNow 3 (some .boolean) rmX9_crossNow E L [.ref (E.2.1 b), .int p1, .int p2] st (zI E L (fun r u => bz r ∧ Q r u)) X := by
  refine Mx.of hE (by decide) (Nat.le_of_ble_eq_true rfl) ?_
  intro p e s m below meth c ls C hr hlk htab hl hP
  replace C : Cx E L "PlankBridge" cX9_crossNow 3 p s m _ c := C
  have hS : va_S (fA E L s.heap.size) s.heap s.heap [] := va_S.rf
  replace hl : lv_has ls 3 [(0, .ref (E.2.1 b)), (1, .int p1), (2, .int p2)] := hl
  unfold wX9_crossNow at h
  refine lv_aload_n C.1 C.2.1 dX9_crossNow_0 rfl (lv_at hl 0 rfl) ?_
  refine gf8_2 C hP hb (m8 hb hL) q412 dX9_crossNow_1 ?_
  refine lv_iload_n C.1 C.2.1 dX9_crossNow_4 rfl (lv_at hl 1 rfl) ?_
  refine lv_iload_n C.1 C.2.1 dX9_crossNow_5 rfl (lv_at hl 2 rfl) ?_
  refine z_ki hS (z_runV (As := [.int p1, .int p2]) (rest := []) C hP hS (m8_4 hb hL) (e2 (k8_4 hb)) rfl (tX2_canGo C.2.2.2.2.2.2.1 (hL.mo (Nat.le_of_ble_eq_true rfl) (Nat.le_of_ble_eq_true rfl)) (k8_4 hb) h) q1054 q1055 q1056 q112 q1057 hdX2_canGo ⟨Nat.le_of_ble_eq_true rfl, Nat.le_of_ble_eq_true rfl⟩ ⟨Nat.le_of_ble_eq_true rfl, Nat.le_of_ble_eq_true rfl⟩ rfl hl.1 rfl (lv_room (Nat.le_of_ble_eq_true rfl)) dX9_crossNow_6) (fun r2 st1 H locs h hP hS => ?_)
  obtain ⟨hr2, h⟩ := h
  refine lv_if_ne C.1 C.2.1 (tgt := 23) dX9_crossNow_9 (by decide) (fun hc => ?_) (fun hc => ?_)
  · have h := h.1 hc
    refine lv_aload_n C.1 C.2.1 dX9_crossNow_23 rfl (lv_at hl 0 rfl) ?_
    refine gf8_2 C hP hb (m8 hb hL) q412 dX9_crossNow_24 ?_
    refine lv_iload_n C.1 C.2.1 dX9_crossNow_27 rfl (lv_at hl 1 rfl) ?_
    refine lv_iload_n C.1 C.2.1 dX9_crossNow_28 rfl (lv_at hl 2 rfl) ?_
    refine z_ki hS (z_runV (As := [.int p1, .int p2]) (rest := []) C hP hS (m8_4 hb hL) (e2 (k8_4 hb)) rfl (tX2_go C.2.2.2.2.2.2.1 (hL.mo (Nat.le_of_ble_eq_true rfl) (Nat.le_of_ble_eq_true rfl)) (k8_4 hb) h) q1062 q1063 q1064 q112 q1065 hdX2_go ⟨Nat.le_of_ble_eq_true rfl, Nat.le_of_ble_eq_true rfl⟩ ⟨Nat.le_of_ble_eq_true rfl, Nat.le_of_ble_eq_true rfl⟩ rfl hl.1 rfl (lv_room (Nat.le_of_ble_eq_true rfl)) dX9_crossNow_29) (fun r4 st3 H locs h hP hS => ?_)
    obtain ⟨hr4, h⟩ := h
    refine W.widen (k := rmX9_crossNow.cells) (n := rmX9_crossNow.slots) (Nat.le_of_ble_eq_true rfl) (Nat.le_of_ble_eq_true rfl) (vx_ret ?_)
    exact z_ri C hr hlk (bz_n hr4) hP hS ⟨hr4, h⟩ dX9_crossNow_32
  · have h := h.2 hc
    exact z_throwW C hfl htab hlk hP hS hl.1 (text := "this crossing cannot be made") (by decide) q857 q121 (by decide +kernel) xw_ise dX9_crossNow_12 dX9_crossNow_15 dX9_crossNow_16 dX9_crossNow_19 dX9_crossNow_22 (Nat.le_of_ble_eq_true rfl) (Nat.le_of_ble_eq_true rfl) (Nat.le_of_ble_eq_true rfl) (Nat.le_of_ble_eq_true rfl) h (Nat.le_of_ble_eq_true rfl) (Nat.le_of_ble_eq_true rfl)
def rmX9_crossAlone : Room := { frames := 7, cells := 2, slots := 12, locals := 114 }
def wX9_crossAlone (b : Nat) (p1 : Int32) (st : St) (Q : Int32 → St → Prop) (X : String → St → Prop) : Prop :=
  (wX9_requireWalker b p1 st (fun st1 => (wX9_crossNow b p1 (-1) st1 (fun r3 st2 => Q r3 st2) X)) X)
theorem hdX9_crossAlone : yX9_crossAlone.cls = "PlankBridge" ∧ yX9_crossAlone.cls ≠ "java/lang/invoke/MethodHandle" ∧ yX9_crossAlone.cls ≠ "java/lang/invoke/VarHandle" ∧ (parseMethodDescriptor yX9_crossAlone.desc).map (fun d => d.parameters.length) = some 1 := by decide +kernel
set_option maxHeartbeats 4000000 in
set_option maxRecDepth 100000 in
theorem tX9_crossAlone {l : Launch} {E : En0} {L : List Nat} (hE : EK E L) (hL : Cov 0 54 L) {b : Nat} {p1 : Int32} {st : St} {Q : Int32 → St → Prop} {X : String → St → Prop} (hb : kd b = 8) (hfl : l.stackTraces = false) (h : wX9_crossAlone b p1 st Q X) : Mx l yX9_crossAlone cX9_crossAlone 2 (some .boolean) rmX9_crossAlone E L [.ref (E.2.1 b), .int p1] st (zI E L (fun r u => bz r ∧ Q r u)) X := by
  refine Mx.of hE (by decide) (Nat.le_of_ble_eq_true rfl) ?_
  intro p e s m below meth c ls C hr hlk htab hl hP
  replace C : Cx E L "PlankBridge" cX9_crossAlone 2 p s m _ c := C
  have hS : va_S (fA E L s.heap.size) s.heap s.heap [] := va_S.rf
  replace hl : lv_has ls 2 [(0, .ref (E.2.1 b)), (1, .int p1)] := hl
  unfold wX9_crossAlone at h
  refine lv_aload_n C.1 C.2.1 dX9_crossAlone_0 rfl (lv_at hl 0 rfl) ?_
  refine lv_iload_n C.1 C.2.1 dX9_crossAlone_1 rfl (lv_at hl 1 rfl) ?_
  refine z_kvx htab hlk (Nat.le_of_ble_eq_true rfl) (Nat.le_of_ble_eq_true rfl) hS (z_runVx (As := [.int p1]) (rest := []) C hP hS (m8 hb hL) (e8 hb) rfl (tX9_requireWalker C.2.2.2.2.2.2.1 (hL.mo (Nat.le_of_ble_eq_true rfl) (Nat.le_of_ble_eq_true rfl)) hb hfl h) q960 q962 q20 q105 q963 hdX9_requireWalker ⟨Nat.le_of_ble_eq_true rfl, Nat.le_of_ble_eq_true rfl⟩ ⟨Nat.le_of_ble_eq_true rfl, Nat.le_of_ble_eq_true rfl⟩ rfl hl.1 rfl (lv_room (Nat.le_of_ble_eq_true rfl)) dX9_crossAlone_2) (fun st1 H locs h hP hS => ?_)
  refine lv_aload_n C.1 C.2.1 dX9_crossAlone_5 rfl (lv_at hl 0 rfl) ?_
  refine lv_iload_n C.1 C.2.1 dX9_crossAlone_6 rfl (lv_at hl 1 rfl) ?_
  refine lv_iconst C.1 C.2.1 (v := (-1)) dX9_crossAlone_7 rfl ?_
  refine z_kix htab hlk (Nat.le_of_ble_eq_true rfl) (Nat.le_of_ble_eq_true rfl) hS (z_runVx (As := [.int p1, .int (-1)]) (rest := []) C hP hS (m8 hb hL) (e8 hb) rfl (tX9_crossNow C.2.2.2.2.2.2.1 (hL.mo (Nat.le_of_ble_eq_true rfl) (Nat.le_of_ble_eq_true rfl)) hb hfl h) q1050 q1052 q23 q105 q1053 hdX9_crossNow ⟨Nat.le_of_ble_eq_true rfl, Nat.le_of_ble_eq_true rfl⟩ ⟨Nat.le_of_ble_eq_true rfl, Nat.le_of_ble_eq_true rfl⟩ rfl hl.1 rfl (lv_room (Nat.le_of_ble_eq_true rfl)) dX9_crossAlone_8) (fun r3 st2 H locs h hP hS => ?_)
  obtain ⟨hr3, h⟩ := h
  refine W.widen (k := rmX9_crossAlone.cells) (n := rmX9_crossAlone.slots) (Nat.le_of_ble_eq_true rfl) (Nat.le_of_ble_eq_true rfl) (vx_ret ?_)
  exact z_ri C hr hlk (bz_n hr3) hP hS ⟨hr3, h⟩ dX9_crossAlone_11
def rmX9_requireTwo : Room := { frames := 7, cells := 3, slots := 18, locals := 111 }
def wX9_requireTwo (b : Nat) (p1 : Int32) (p2 : Int32) (st : St) (Q : St → Prop) (X : String → St → Prop) : Prop :=
  (wX9_requireWalker b p1 st (fun st1 => (wX9_requireWalker b p2 st1 (fun st2 => ((¬ p1 = p2 → Q st2) ∧ (p1 = p2 → X "java/lang/IllegalArgumentException" st2))) X)) X)
theorem hdX9_requireTwo : yX9_requireTwo.cls = "PlankBridge" ∧ yX9_requireTwo.cls ≠ "java/lang/invoke/MethodHandle" ∧ yX9_requireTwo.cls ≠ "java/lang/invoke/VarHandle" ∧ (parseMethodDescriptor yX9_requireTwo.desc).map (fun d => d.parameters.length) = some 2 := by decide +kernel
set_option maxHeartbeats 4000000 in
set_option maxRecDepth 100000 in
theorem tX9_requireTwo {l : Launch} {E : En0} {L : List Nat} (hE : EK E L) (hL : Cov 0 54 L) {b : Nat} {p1 : Int32} {p2 : Int32} {st : St} {Q : St → Prop} {X : String → St → Prop} (hb : kd b = 8) (hfl : l.stackTraces = false) (h : wX9_requireTwo b p1 p2 st Q X) : Mx l yX9_requireTwo cX9_requireTwo 3 none rmX9_requireTwo E L [.ref (E.2.1 b), .int p1, .int p2] st (zV E L Q) X := by
  refine Mx.of hE (by decide) (Nat.le_of_ble_eq_true rfl) ?_
  intro p e s m below meth c ls C hr hlk htab hl hP
  replace C : Cx E L "PlankBridge" cX9_requireTwo 3 p s m _ c := C
  have hS : va_S (fA E L s.heap.size) s.heap s.heap [] := va_S.rf
  replace hl : lv_has ls 3 [(0, .ref (E.2.1 b)), (1, .int p1), (2, .int p2)] := hl
  unfold wX9_requireTwo at h
  refine lv_aload_n C.1 C.2.1 dX9_requireTwo_0 rfl (lv_at hl 0 rfl) ?_
  refine lv_iload_n C.1 C.2.1 dX9_requireTwo_1 rfl (lv_at hl 1 rfl) ?_
  refine z_kvx htab hlk (Nat.le_of_ble_eq_true rfl) (Nat.le_of_ble_eq_true rfl) hS (z_runVx (As := [.int p1]) (rest := []) C hP hS (m8 hb hL) (e8 hb) rfl (tX9_requireWalker C.2.2.2.2.2.2.1 (hL.mo (Nat.le_of_ble_eq_true rfl) (Nat.le_of_ble_eq_true rfl)) hb hfl h) q960 q962 q20 q105 q963 hdX9_requireWalker ⟨Nat.le_of_ble_eq_true rfl, Nat.le_of_ble_eq_true rfl⟩ ⟨Nat.le_of_ble_eq_true rfl, Nat.le_of_ble_eq_true rfl⟩ rfl hl.1 rfl (lv_room (Nat.le_of_ble_eq_true rfl)) dX9_requireTwo_2) (fun st1 H locs h hP hS => ?_)
  refine lv_aload_n C.1 C.2.1 dX9_requireTwo_5 rfl (lv_at hl 0 rfl) ?_
  refine lv_iload_n C.1 C.2.1 dX9_requireTwo_6 rfl (lv_at hl 2 rfl) ?_
  refine z_kvx htab hlk (Nat.le_of_ble_eq_true rfl) (Nat.le_of_ble_eq_true rfl) hS (z_runVx (As := [.int p2]) (rest := []) C hP hS (m8 hb hL) (e8 hb) rfl (tX9_requireWalker C.2.2.2.2.2.2.1 (hL.mo (Nat.le_of_ble_eq_true rfl) (Nat.le_of_ble_eq_true rfl)) hb hfl h) q960 q962 q20 q105 q963 hdX9_requireWalker ⟨Nat.le_of_ble_eq_true rfl, Nat.le_of_ble_eq_true rfl⟩ ⟨Nat.le_of_ble_eq_true rfl, Nat.le_of_ble_eq_true rfl⟩ rfl hl.1 rfl (lv_room (Nat.le_of_ble_eq_true rfl)) dX9_requireTwo_7) (fun st2 H locs h hP hS => ?_)
  refine lv_iload_n C.1 C.2.1 dX9_requireTwo_10 rfl (lv_at hl 1 rfl) ?_
  refine lv_iload_n C.1 C.2.1 dX9_requireTwo_11 rfl (lv_at hl 2 rfl) ?_
  refine lv_icmp_ne C.1 C.2.1 (tgt := 26) dX9_requireTwo_12 (by decide) (fun hc => ?_) (fun hc => ?_)
  · have h := h.1 hc
    refine W.widen (k := rmX9_requireTwo.cells) (n := rmX9_requireTwo.slots) (Nat.le_of_ble_eq_true rfl) (Nat.le_of_ble_eq_true rfl) (vx_ret ?_)
    exact z_rv C hr hlk hP hS h dX9_requireTwo_26
  · have h := h.2 hc
    exact z_throwW C hfl htab hlk hP hS hl.1 (text := "both are the same") (by decide) q936 q122 (by decide +kernel) xw_iae dX9_requireTwo_15 dX9_requireTwo_18 dX9_requireTwo_19 dX9_requireTwo_22 dX9_requireTwo_25 (Nat.le_of_ble_eq_true rfl) (Nat.le_of_ble_eq_true rfl) (Nat.le_of_ble_eq_true rfl) (Nat.le_of_ble_eq_true rfl) h (Nat.le_of_ble_eq_true rfl) (Nat.le_of_ble_eq_true rfl)
def rmX9_crossTogether : Room := { frames := 8, cells := 4, slots := 24, locals := 133 }
def wX9_crossTogether (b : Nat) (p1 : Int32) (p2 : Int32) (st : St) (Q : Int32 → St → Prop) (X : String → St → Prop) : Prop :=
  (wX9_requireTwo b p1 p2 st (fun st1 => (wX9_crossNow b p1 p2 st1 (fun r3 st2 => Q r3 st2) X)) X)
theorem hdX9_crossTogether : yX9_crossTogether.cls = "PlankBridge" ∧ yX9_crossTogether.cls ≠ "java/lang/invoke/MethodHandle" ∧ yX9_crossTogether.cls ≠ "java/lang/invoke/VarHandle" ∧ (parseMethodDescriptor yX9_crossTogether.desc).map (fun d => d.parameters.length) = some 2 := by decide +kernel
set_option maxHeartbeats 4000000 in
set_option maxRecDepth 100000 in
theorem tX9_crossTogether {l : Launch} {E : En0} {L : List Nat} (hE : EK E L) (hL : Cov 0 54 L) {b : Nat} {p1 : Int32} {p2 : Int32} {st : St} {Q : Int32 → St → Prop} {X : String → St → Prop} (hb : kd b = 8) (hfl : l.stackTraces = false) (h : wX9_crossTogether b p1 p2 st Q X) : Mx l yX9_crossTogether cX9_crossTogether 3 (some .boolean) rmX9_crossTogether E L [.ref (E.2.1 b), .int p1, .int p2] st (zI E L (fun r u => bz r ∧ Q r u)) X := by
  refine Mx.of hE (by decide) (Nat.le_of_ble_eq_true rfl) ?_
  intro p e s m below meth c ls C hr hlk htab hl hP
  replace C : Cx E L "PlankBridge" cX9_crossTogether 3 p s m _ c := C
  have hS : va_S (fA E L s.heap.size) s.heap s.heap [] := va_S.rf
  replace hl : lv_has ls 3 [(0, .ref (E.2.1 b)), (1, .int p1), (2, .int p2)] := hl
  unfold wX9_crossTogether at h
  refine lv_aload_n C.1 C.2.1 dX9_crossTogether_0 rfl (lv_at hl 0 rfl) ?_
  refine lv_iload_n C.1 C.2.1 dX9_crossTogether_1 rfl (lv_at hl 1 rfl) ?_
  refine lv_iload_n C.1 C.2.1 dX9_crossTogether_2 rfl (lv_at hl 2 rfl) ?_
  refine z_kvx htab hlk (Nat.le_of_ble_eq_true rfl) (Nat.le_of_ble_eq_true rfl) hS (z_runVx (As := [.int p1, .int p2]) (rest := []) C hP hS (m8 hb hL) (e8 hb) rfl (tX9_requireTwo C.2.2.2.2.2.2.1 (hL.mo (Nat.le_of_ble_eq_true rfl) (Nat.le_of_ble_eq_true rfl)) hb hfl h) q1095 q1097 q27 q105 q1098 hdX9_requireTwo ⟨Nat.le_of_ble_eq_true rfl, Nat.le_of_ble_eq_true rfl⟩ ⟨Nat.le_of_ble_eq_true rfl, Nat.le_of_ble_eq_true rfl⟩ rfl hl.1 rfl (lv_room (Nat.le_of_ble_eq_true rfl)) dX9_crossTogether_3) (fun st1 H locs h hP hS => ?_)
  refine lv_aload_n C.1 C.2.1 dX9_crossTogether_6 rfl (lv_at hl 0 rfl) ?_
  refine lv_iload_n C.1 C.2.1 dX9_crossTogether_7 rfl (lv_at hl 1 rfl) ?_
  refine lv_iload_n C.1 C.2.1 dX9_crossTogether_8 rfl (lv_at hl 2 rfl) ?_
  refine z_kix htab hlk (Nat.le_of_ble_eq_true rfl) (Nat.le_of_ble_eq_true rfl) hS (z_runVx (As := [.int p1, .int p2]) (rest := []) C hP hS (m8 hb hL) (e8 hb) rfl (tX9_crossNow C.2.2.2.2.2.2.1 (hL.mo (Nat.le_of_ble_eq_true rfl) (Nat.le_of_ble_eq_true rfl)) hb hfl h) q1050 q1052 q23 q105 q1053 hdX9_crossNow ⟨Nat.le_of_ble_eq_true rfl, Nat.le_of_ble_eq_true rfl⟩ ⟨Nat.le_of_ble_eq_true rfl, Nat.le_of_ble_eq_true rfl⟩ rfl hl.1 rfl (lv_room (Nat.le_of_ble_eq_true rfl)) dX9_crossTogether_9) (fun r3 st2 H locs h hP hS => ?_)
  obtain ⟨hr3, h⟩ := h
  refine W.widen (k := rmX9_crossTogether.cells) (n := rmX9_crossTogether.slots) (Nat.le_of_ble_eq_true rfl) (Nat.le_of_ble_eq_true rfl) (vx_ret ?_)
  exact z_ri C hr hlk (bz_n hr3) hP hS ⟨hr3, h⟩ dX9_crossTogether_12
def rmX9_rest : Room := { frames := 6, cells := 1, slots := 6, locals := 90 }
def wX9_rest_L12 (b : Nat) (p1 : Int32)   (st : St) (Q : Int32 → St → Prop) (X : String → St → Prop) : Prop :=
  X "java/lang/IllegalArgumentException" st
def wX9_rest (b : Nat) (p1 : Int32) (st : St) (Q : Int32 → St → Prop) (X : String → St → Prop) : Prop :=
  ((p1 < 1 → wX9_rest_L12 b p1 st Q X) ∧ (¬ p1 < 1 → ((p1 ≤ 600 → (wX2_letGoBy (b + 4) p1 st (fun r2 st1 => Q r2 st1))) ∧ (¬ p1 ≤ 600 → wX9_rest_L12 b p1 st Q X))))
theorem hdX9_rest : yX9_rest.cls = "PlankBridge" ∧ yX9_rest.cls ≠ "java/lang/invoke/MethodHandle" ∧ yX9_rest.cls ≠ "java/lang/invoke/VarHandle" ∧ (parseMethodDescriptor yX9_rest.desc).map (fun d => d.parameters.length) = some 1 := by decide +kernel
set_option maxHeartbeats 4000000 in
set_option maxRecDepth 100000 in
theorem tX9_rest_L12 {l : Launch} {p : Program} {e : Env} {s : State} {m : MethodId} {args : Array Value} {below : List Frame} {meth : Method} {c : Code} {E : En0} {L : List Nat} (hL : Cov 0 54 L) (C : Cx E L "PlankBridge" cX9_rest 2 p s m args c) (hr : meth.sig.returnType = (some .int)) (hlk : meth.locks = false) (hfl : l.stackTraces = false) (htab : ∀ x ∈ c.exceptionTable.toList, False) {b : Nat} {p1 : Int32} {Q : Int32 → St → Prop} {X : String → St → Prop} (hb : kd b = 8)   {st : St} (H : Heap) (locs : List Loc) (ls : Array Slot) (h : wX9_rest_L12 b p1 st Q X) (hl : lv_has ls 2 []) (hP : va_P E.1 vwCl (wd E L st) H) (hS : va_S (fA E L s.heap.size) s.heap H locs) : W p l e rmX9_rest s m args below meth c H locs 0 0 (vx_MQ below (zI E L Q (fA E L s.heap.size)) (zX E L X (fA E L s.heap.size)) args s rmX9_rest.cells rmX9_rest.slots (fA E L s.heap.size)) (F0 m 12 ls []) := by
  unfold wX9_rest_L12 at h
  exact z_throw C hfl htab hlk hP hS hl.1 (text := "a rest has 1 to 600 minutes") (by decide) q936 q122 (by decide +kernel) xw_iae dX9_rest_12 dX9_rest_15 dX9_rest_16 dX9_rest_18 dX9_rest_21 (Nat.le_of_ble_eq_true rfl) (Nat.le_of_ble_eq_true rfl) (Nat.le_of_ble_eq_true rfl) (Nat.le_of_ble_eq_true rfl) h (Nat.le_of_ble_eq_true rfl) (Nat.le_of_ble_eq_true rfl)
set_option maxHeartbeats 4000000 in
set_option maxRecDepth 100000 in
theorem tX9_rest {l : Launch} {E : En0} {L : List Nat} (hE : EK E L) (hL : Cov 0 54 L) {b : Nat} {p1 : Int32} {st : St} {Q : Int32 → St → Prop} {X : String → St → Prop} (hb : kd b = 8) (hfl : l.stackTraces = false) (h : wX9_rest b p1 st Q X) : Mx l yX9_rest cX9_rest 2 (some .int) rmX9_rest E L [.ref (E.2.1 b), .int p1] st (zI E L Q) X := by
  refine Mx.of hE (by decide) (Nat.le_of_ble_eq_true rfl) ?_
  intro p e s m below meth c ls C hr hlk htab hl hP
  replace C : Cx E L "PlankBridge" cX9_rest 2 p s m _ c := C
  have hS : va_S (fA E L s.heap.size) s.heap s.heap [] := va_S.rf
  replace hl : lv_has ls 2 [(0, .ref (E.2.1 b)), (1, .int p1)] := hl
  unfold wX9_rest at h
  refine lv_iload_n C.1 C.2.1 dX9_rest_0 rfl (lv_at hl 1 rfl) ?_
  refine lv_iconst C.1 C.2.1 (v := 1) dX9_rest_1 rfl ?_
  refine lv_icmp_lt C.1 C.2.1 (tgt := 12) dX9_rest_2 (by decide) (fun hc => ?_) (fun hc => ?_)
  · have h := h.1 hc
    exact tX9_rest_L12 hL C hr hlk hfl htab hb _ _ _ h (lv_sub hl [] rfl) hP hS
  · have h := h.2 hc
    refine lv_iload_n C.1 C.2.1 dX9_rest_5 rfl (lv_at hl 1 rfl) ?_
    refine lv_sipush C.1 C.2.1 (v := 600) dX9_rest_6 rfl ?_
    refine lv_icmp_le C.1 C.2.1 (tgt := 22) dX9_rest_9 (by decide) (fun hc => ?_) (fun hc => ?_)
    · have h := h.1 hc
      refine lv_aload_n C.1 C.2.1 dX9_rest_22 rfl (lv_at hl 0 rfl) ?_
      refine gf8_2 C hP hb (m8 hb hL) q412 dX9_rest_23 ?_
      refine lv_iload_n C.1 C.2.1 dX9_rest_26 rfl (lv_at hl 1 rfl) ?_
      refine z_ki hS (z_runV (As := [.int p1]) (rest := []) C hP hS (m8_4 hb hL) (e2 (k8_4 hb)) rfl (tX2_letGoBy C.2.2.2.2.2.2.1 (hL.mo (Nat.le_of_ble_eq_true rfl) (Nat.le_of_ble_eq_true rfl)) (k8_4 hb) h) q1108 q1080 q1081 q112 q1082 hdX2_letGoBy ⟨Nat.le_of_ble_eq_true rfl, Nat.le_of_ble_eq_true rfl⟩ ⟨Nat.le_of_ble_eq_true rfl, Nat.le_of_ble_eq_true rfl⟩ rfl hl.1 rfl (lv_room (Nat.le_of_ble_eq_true rfl)) dX9_rest_27) (fun r2 st1 H locs h hP hS => ?_)
      refine W.widen (k := rmX9_rest.cells) (n := rmX9_rest.slots) (Nat.le_of_ble_eq_true rfl) (Nat.le_of_ble_eq_true rfl) (vx_ret ?_)
      exact z_ri C hr hlk rfl hP hS h dX9_rest_30
    · have h := h.2 hc
      exact tX9_rest_L12 hL C hr hlk hfl htab hb _ _ _ h (lv_sub hl [] rfl) hP hS
def rmX9_layPlank : Room := { frames := 7, cells := 2, slots := 12, locals := 111 }
def wX9_layPlank_L16 (b : Nat) (p1 : Int32) (p2 : Int32)   (st : St) (Q : Int32 → St → Prop) (X : String → St → Prop) : Prop :=
  X "java/lang/IllegalArgumentException" st
def wX9_layPlank (b : Nat) (p1 : Int32) (p2 : Int32) (st : St) (Q : Int32 → St → Prop) (X : String → St → Prop) : Prop :=
  (wX9_requirePlank b p1 st (fun st1 => ((p2 < 1 → wX9_layPlank_L16 b p1 p2 st1 Q X) ∧ (¬ p2 < 1 → ((p2 ≤ 30 → (vp_in p1 12 ∧ (∀ x2 : Int32, x2 = (gI st1 ((b + 4) + 3) (p1 : Int32).toNatClampNeg) → (wX2_lay (b + 4) p1 p2 st1 (fun st3 => Q x2 st3))))) ∧ (¬ p2 ≤ 30 → wX9_layPlank_L16 b p1 p2 st1 Q X))))) X)
theorem hdX9_layPlank : yX9_layPlank.cls = "PlankBridge" ∧ yX9_layPlank.cls ≠ "java/lang/invoke/MethodHandle" ∧ yX9_layPlank.cls ≠ "java/lang/invoke/VarHandle" ∧ (parseMethodDescriptor yX9_layPlank.desc).map (fun d => d.parameters.length) = some 2 := by decide +kernel
set_option maxHeartbeats 4000000 in
set_option maxRecDepth 100000 in
theorem tX9_layPlank_L16 {l : Launch} {p : Program} {e : Env} {s : State} {m : MethodId} {args : Array Value} {below : List Frame} {meth : Method} {c : Code} {E : En0} {L : List Nat} (hL : Cov 0 54 L) (C : Cx E L "PlankBridge" cX9_layPlank 4 p s m args c) (hr : meth.sig.returnType = (some .int)) (hlk : meth.locks = false) (hfl : l.stackTraces = false) (htab : ∀ x ∈ c.exceptionTable.toList, False) {b : Nat} {p1 : Int32} {p2 : Int32} {Q : Int32 → St → Prop} {X : String → St → Prop} (hb : kd b = 8)   {st : St} (H : Heap) (locs : List Loc) (ls : Array Slot) (h : wX9_layPlank_L16 b p1 p2 st Q X) (hl : lv_has ls 4 []) (hP : va_P E.1 vwCl (wd E L st) H) (hS : va_S (fA E L s.heap.size) s.heap H locs) : W p l e rmX9_layPlank s m args below meth c H locs 1 6 (vx_MQ below (zI E L Q (fA E L s.heap.size)) (zX E L X (fA E L s.heap.size)) args s rmX9_layPlank.cells rmX9_layPlank.slots (fA E L s.heap.size)) (F0 m 16 ls []) := by
  unfold wX9_layPlank_L16 at h
  exact z_throw C hfl htab hlk hP hS hl.1 (text := "a strength is 1 to 30") (by decide) q936 q122 (by decide +kernel) xw_iae dX9_layPlank_16 dX9_layPlank_19 dX9_layPlank_20 dX9_layPlank_22 dX9_layPlank_25 (Nat.le_of_ble_eq_true rfl) (Nat.le_of_ble_eq_true rfl) (Nat.le_of_ble_eq_true rfl) (Nat.le_of_ble_eq_true rfl) h (Nat.le_of_ble_eq_true rfl) (Nat.le_of_ble_eq_true rfl)
set_option maxHeartbeats 4000000 in
set_option maxRecDepth 100000 in
theorem tX9_layPlank {l : Launch} {E : En0} {L : List Nat} (hE : EK E L) (hL : Cov 0 54 L) {b : Nat} {p1 : Int32} {p2 : Int32} {st : St} {Q : Int32 → St → Prop} {X : String → St → Prop} (hb : kd b = 8) (hfl : l.stackTraces = false) (h : wX9_layPlank b p1 p2 st Q X) : Mx l yX9_layPlank cX9_layPlank 4 (some .int) rmX9_layPlank E L [.ref (E.2.1 b), .int p1, .int p2] st (zI E L Q) X := by
  refine Mx.of hE (by decide) (Nat.le_of_ble_eq_true rfl) ?_
  intro p e s m below meth c ls C hr hlk htab hl hP
  replace C : Cx E L "PlankBridge" cX9_layPlank 4 p s m _ c := C
  have hS : va_S (fA E L s.heap.size) s.heap s.heap [] := va_S.rf
  replace hl : lv_has ls 4 [(0, .ref (E.2.1 b)), (1, .int p1), (2, .int p2)] := hl
  unfold wX9_layPlank at h
  refine lv_aload_n C.1 C.2.1 dX9_layPlank_0 rfl (lv_at hl 0 rfl) ?_
  refine lv_iload_n C.1 C.2.1 dX9_layPlank_1 rfl (lv_at hl 1 rfl) ?_
  refine z_kvx htab hlk (Nat.le_of_ble_eq_true rfl) (Nat.le_of_ble_eq_true rfl) hS (z_runVx (As := [.int p1]) (rest := []) C hP hS (m8 hb hL) (e8 hb) rfl (tX9_requirePlank C.2.2.2.2.2.2.1 (hL.mo (Nat.le_of_ble_eq_true rfl) (Nat.le_of_ble_eq_true rfl)) hb hfl h) q1001 q1003 q21 q105 q1004 hdX9_requirePlank ⟨Nat.le_of_ble_eq_true rfl, Nat.le_of_ble_eq_true rfl⟩ ⟨Nat.le_of_ble_eq_true rfl, Nat.le_of_ble_eq_true rfl⟩ rfl hl.1 rfl (lv_room (Nat.le_of_ble_eq_true rfl)) dX9_layPlank_2) (fun st1 H locs h hP hS => ?_)
  refine lv_iload_n C.1 C.2.1 dX9_layPlank_5 rfl (lv_at hl 2 rfl) ?_
  refine lv_iconst C.1 C.2.1 (v := 1) dX9_layPlank_6 rfl ?_
  refine lv_icmp_lt C.1 C.2.1 (tgt := 16) dX9_layPlank_7 (by decide) (fun hc => ?_) (fun hc => ?_)
  · have h := h.1 hc
    exact tX9_layPlank_L16 hL C hr hlk hfl htab hb _ _ _ h (lv_sub hl [] rfl) hP hS
  · have h := h.2 hc
    refine lv_iload_n C.1 C.2.1 dX9_layPlank_10 rfl (lv_at hl 2 rfl) ?_
    refine lv_bipush C.1 C.2.1 (v := 30) dX9_layPlank_11 rfl ?_
    refine lv_icmp_le C.1 C.2.1 (tgt := 26) dX9_layPlank_13 (by decide) (fun hc => ?_) (fun hc => ?_)
    · have h := h.1 hc
      refine lv_aload_n C.1 C.2.1 dX9_layPlank_26 rfl (lv_at hl 0 rfl) ?_
      refine gf8_2 C hP hb (m8 hb hL) q412 dX9_layPlank_27 ?_
      refine gn2_5 C hP (k8_4 hb) (m8_4 hb hL) q302 dX9_layPlank_30 ?_
      refine lv_iload_n C.1 C.2.1 dX9_layPlank_33 rfl (lv_at hl 1 rfl) ?_
      obtain ⟨hi, h⟩ := h
      refine z_iald C hP (k2_3 (k8_4 hb)) (l2_3 (k8_4 hb)) (m2_3 (k8_4 hb) hL) hi dX9_layPlank_34 ?_
      refine lv_topi (fun x2 ex2 => ?_)
      have h := h x2 ex2
      refine lv_istore_n C.1 C.2.1 dX9_layPlank_35 rfl hl (Nat.le_of_ble_eq_true rfl) rfl (fun ls hl => ?_)
      have hl : lv_has ls 4 [(3, .int x2), (0, .ref (E.2.1 b)), (1, .int p1), (2, .int p2)] := hl
      refine lv_aload_n C.1 C.2.1 dX9_layPlank_36 rfl (lv_at hl 1 rfl) ?_
      refine gf8_2 C hP hb (m8 hb hL) q412 dX9_layPlank_37 ?_
      refine lv_iload_n C.1 C.2.1 dX9_layPlank_40 rfl (lv_at hl 2 rfl) ?_
      refine lv_iload_n C.1 C.2.1 dX9_layPlank_41 rfl (lv_at hl 3 rfl) ?_
      refine z_kv hS (z_runV (As := [.int p1, .int p2]) (rest := []) C hP hS (m8_4 hb hL) (e2 (k8_4 hb)) rfl (tX2_lay C.2.2.2.2.2.2.1 (hL.mo (Nat.le_of_ble_eq_true rfl) (Nat.le_of_ble_eq_true rfl)) (k8_4 hb) h) q1117 q1076 q1077 q112 q1078 hdX2_lay ⟨Nat.le_of_ble_eq_true rfl, Nat.le_of_ble_eq_true rfl⟩ ⟨Nat.le_of_ble_eq_true rfl, Nat.le_of_ble_eq_true rfl⟩ rfl hl.1 rfl (lv_room (Nat.le_of_ble_eq_true rfl)) dX9_layPlank_42) (fun st3 H locs h hP hS => ?_)
      refine lv_iload_n C.1 C.2.1 dX9_layPlank_45 rfl (lv_at hl 0 rfl) ?_
      refine W.widen (k := rmX9_layPlank.cells) (n := rmX9_layPlank.slots) (Nat.le_of_ble_eq_true rfl) (Nat.le_of_ble_eq_true rfl) (vx_ret ?_)
      exact z_ri C hr hlk rfl hP hS h dX9_layPlank_46
    · have h := h.2 hc
      exact tX9_layPlank_L16 hL C hr hlk hfl htab hb _ _ _ h (lv_sub hl [] rfl) hP hS
def rmX9_requirePlan : Room := { frames := 6, cells := 1, slots := 6, locals := 90 }
def wX9_requirePlan_L15 (b : Nat) (p1 : Int32)   (st : St) (Q : St → Prop) (X : String → St → Prop) : Prop :=
  X "java/lang/IndexOutOfBoundsException" st
def wX9_requirePlan (b : Nat) (p1 : Int32) (st : St) (Q : St → Prop) (X : String → St → Prop) : Prop :=
  ((p1 < 0 → wX9_requirePlan_L15 b p1 st Q X) ∧ (¬ p1 < 0 → (kd (gR st b 6) = 1 ∧ ∀ c1, c1 = gR st b 6 → ((p1 < (gI st c1 9) → Q st) ∧ (¬ p1 < (gI st c1 9) → wX9_requirePlan_L15 b p1 st Q X)))))
theorem hdX9_requirePlan : yX9_requirePlan.cls = "PlankBridge" ∧ yX9_requirePlan.cls ≠ "java/lang/invoke/MethodHandle" ∧ yX9_requirePlan.cls ≠ "java/lang/invoke/VarHandle" ∧ (parseMethodDescriptor yX9_requirePlan.desc).map (fun d => d.parameters.length) = some 1 := by decide +kernel
set_option maxHeartbeats 4000000 in
set_option maxRecDepth 100000 in
theorem tX9_requirePlan_L15 {l : Launch} {p : Program} {e : Env} {s : State} {m : MethodId} {args : Array Value} {below : List Frame} {meth : Method} {c : Code} {E : En0} {L : List Nat} (hL : Cov 0 54 L) (C : Cx E L "PlankBridge" cX9_requirePlan 2 p s m args c) (hr : meth.sig.returnType = none) (hlk : meth.locks = false) (hfl : l.stackTraces = false) (htab : ∀ x ∈ c.exceptionTable.toList, False) {b : Nat} {p1 : Int32} {Q : St → Prop} {X : String → St → Prop} (hb : kd b = 8)   {st : St} (H : Heap) (locs : List Loc) (ls : Array Slot) (h : wX9_requirePlan_L15 b p1 st Q X) (hl : lv_has ls 2 []) (hP : va_P E.1 vwCl (wd E L st) H) (hS : va_S (fA E L s.heap.size) s.heap H locs) : W p l e rmX9_requirePlan s m args below meth c H locs 0 0 (vx_MQ below (zV E L Q (fA E L s.heap.size)) (zX E L X (fA E L s.heap.size)) args s rmX9_requirePlan.cells rmX9_requirePlan.slots (fA E L s.heap.size)) (F0 m 15 ls []) := by
  unfold wX9_requirePlan_L15 at h
  exact z_throwW C hfl htab hlk hP hS hl.1 (text := "no such plan") (by decide) q964 q130 (by decide +kernel) xw_ioo dX9_requirePlan_15 dX9_requirePlan_18 dX9_requirePlan_19 dX9_requirePlan_22 dX9_requirePlan_25 (Nat.le_of_ble_eq_true rfl) (Nat.le_of_ble_eq_true rfl) (Nat.le_of_ble_eq_true rfl) (Nat.le_of_ble_eq_true rfl) h (Nat.le_of_ble_eq_true rfl) (Nat.le_of_ble_eq_true rfl)
set_option maxHeartbeats 4000000 in
set_option maxRecDepth 100000 in
theorem tX9_requirePlan {l : Launch} {E : En0} {L : List Nat} (hE : EK E L) (hL : Cov 0 54 L) {b : Nat} {p1 : Int32} {st : St} {Q : St → Prop} {X : String → St → Prop} (hb : kd b = 8) (hfl : l.stackTraces = false) (h : wX9_requirePlan b p1 st Q X) : Mx l yX9_requirePlan cX9_requirePlan 2 none rmX9_requirePlan E L [.ref (E.2.1 b), .int p1] st (zV E L Q) X := by
  refine Mx.of hE (by decide) (Nat.le_of_ble_eq_true rfl) ?_
  intro p e s m below meth c ls C hr hlk htab hl hP
  replace C : Cx E L "PlankBridge" cX9_requirePlan 2 p s m _ c := C
  have hS : va_S (fA E L s.heap.size) s.heap s.heap [] := va_S.rf
  replace hl : lv_has ls 2 [(0, .ref (E.2.1 b)), (1, .int p1)] := hl
  unfold wX9_requirePlan at h
  refine lv_iload_n C.1 C.2.1 dX9_requirePlan_0 rfl (lv_at hl 1 rfl) ?_
  refine lv_if_lt C.1 C.2.1 (tgt := 15) dX9_requirePlan_1 (by decide) (fun hc => ?_) (fun hc => ?_)
  · have h := h.1 hc
    exact tX9_requirePlan_L15 hL C hr hlk hfl htab hb _ _ _ h (lv_sub hl [] rfl) hP hS
  · have h := h.2 hc
    refine lv_iload_n C.1 C.2.1 dX9_requirePlan_4 rfl (lv_at hl 1 rfl) ?_
    refine lv_aload_n C.1 C.2.1 dX9_requirePlan_5 rfl (lv_at hl 0 rfl) ?_
    refine gf8_6 C hP hb (m8 hb hL) q416 dX9_requirePlan_6 ?_
    obtain ⟨hc1, h⟩ := h
    obtain ⟨c1, ec1⟩ : ∃ z, z = gR st b 6 := ⟨_, rfl⟩
    rw [← ec1]; rw [← ec1] at hc1; have h := h c1 ec1
    refine gn1_9 C hP hc1 (m1 hc1 hL) q209 dX9_requirePlan_9 ?_
    refine lv_icmp_lt C.1 C.2.1 (tgt := 26) dX9_requirePlan_12 (by decide) (fun hc => ?_) (fun hc => ?_)
    · have h := h.1 hc
      refine W.widen (k := rmX9_requirePlan.cells) (n := rmX9_requirePlan.slots) (Nat.le_of_ble_eq_true rfl) (Nat.le_of_ble_eq_true rfl) (vx_ret ?_)
      exact z_rv C hr hlk hP hS h dX9_requirePlan_26
    · have h := h.2 hc
      exact tX9_requirePlan_L15 hL C hr hlk hfl htab hb _ _ _ h (lv_sub hl [] rfl) hP hS
def rmX9_runPlan : Room := { frames := 7, cells := 1, slots := 6, locals := 164 }
def wX9_runPlan (b : Nat) (p1 : Int32) (st : St) (Q : Int32 → St → Prop) (X : String → St → Prop) : Prop :=
  (wX9_requirePlan b p1 st (fun st1 => (kd (gR st1 b 6) = 1 ∧ ∀ c2, c2 = gR st1 b 6 → (wX5_perform (b + 16) c2 ((b + 4)) p1 st1 (fun r4 st3 => Q r4 st3)))) X)
theorem hdX9_runPlan : yX9_runPlan.cls = "PlankBridge" ∧ yX9_runPlan.cls ≠ "java/lang/invoke/MethodHandle" ∧ yX9_runPlan.cls ≠ "java/lang/invoke/VarHandle" ∧ (parseMethodDescriptor yX9_runPlan.desc).map (fun d => d.parameters.length) = some 1 := by decide +kernel
set_option maxHeartbeats 4000000 in
set_option maxRecDepth 100000 in
theorem tX9_runPlan {l : Launch} {E : En0} {L : List Nat} (hE : EK E L) (hL : Cov 0 54 L) {b : Nat} {p1 : Int32} {st : St} {Q : Int32 → St → Prop} {X : String → St → Prop} (hb : kd b = 8) (hfl : l.stackTraces = false) (h : wX9_runPlan b p1 st Q X) : Mx l yX9_runPlan cX9_runPlan 2 (some .int) rmX9_runPlan E L [.ref (E.2.1 b), .int p1] st (zI E L Q) X := by
  refine Mx.of hE (by decide) (Nat.le_of_ble_eq_true rfl) ?_
  intro p e s m below meth c ls C hr hlk htab hl hP
  replace C : Cx E L "PlankBridge" cX9_runPlan 2 p s m _ c := C
  have hS : va_S (fA E L s.heap.size) s.heap s.heap [] := va_S.rf
  replace hl : lv_has ls 2 [(0, .ref (E.2.1 b)), (1, .int p1)] := hl
  unfold wX9_runPlan at h
  refine lv_aload_n C.1 C.2.1 dX9_runPlan_0 rfl (lv_at hl 0 rfl) ?_
  refine lv_iload_n C.1 C.2.1 dX9_runPlan_1 rfl (lv_at hl 1 rfl) ?_
  refine z_kvx htab hlk (Nat.le_of_ble_eq_true rfl) (Nat.le_of_ble_eq_true rfl) hS (z_runVx (As := [.int p1]) (rest := []) C hP hS (m8 hb hL) (e8 hb) rfl (tX9_requirePlan C.2.2.2.2.2.2.1 (hL.mo (Nat.le_of_ble_eq_true rfl) (Nat.le_of_ble_eq_true rfl)) hb hfl h) q1125 q1127 q28 q105 q1128 hdX9_requirePlan ⟨Nat.le_of_ble_eq_true rfl, Nat.le_of_ble_eq_true rfl⟩ ⟨Nat.le_of_ble_eq_true rfl, Nat.le_of_ble_eq_true rfl⟩ rfl hl.1 rfl (lv_room (Nat.le_of_ble_eq_true rfl)) dX9_runPlan_2) (fun st1 H locs h hP hS => ?_)
  refine lv_aload_n C.1 C.2.1 dX9_runPlan_5 rfl (lv_at hl 0 rfl) ?_
  refine gf8_4 C hP hb (m8 hb hL) q414 dX9_runPlan_6 ?_
  refine lv_aload_n C.1 C.2.1 dX9_runPlan_9 rfl (lv_at hl 0 rfl) ?_
  refine gf8_6 C hP hb (m8 hb hL) q416 dX9_runPlan_10 ?_
  obtain ⟨hc2, h⟩ := h
  obtain ⟨c2, ec2⟩ : ∃ z, z = gR st1 b 6 := ⟨_, rfl⟩
  rw [← ec2]; rw [← ec2] at hc2; have h := h c2 ec2
  refine lv_aload_n C.1 C.2.1 dX9_runPlan_13 rfl (lv_at hl 0 rfl) ?_
  refine gf8_2 C hP hb (m8 hb hL) q412 dX9_runPlan_14 ?_
  refine lv_iload_n C.1 C.2.1 dX9_runPlan_17 rfl (lv_at hl 1 rfl) ?_
  refine z_ki hS (z_runV (As := [.ref (E.2.1 c2), .ref (E.2.1 ((b + 4))), .int p1]) (rest := []) C hP hS (m8_16 hb hL) (e4 (k8_16 hb)) rfl (tX5_perform C.2.2.2.2.2.2.1 (hL.mo (Nat.le_of_ble_eq_true rfl) (Nat.le_of_ble_eq_true rfl)) (k8_16 hb) hc2 (k8_4 hb) h) q1130 q1131 q1132 q113 q1133 hdX5_perform ⟨Nat.le_of_ble_eq_true rfl, Nat.le_of_ble_eq_true rfl⟩ ⟨Nat.le_of_ble_eq_true rfl, Nat.le_of_ble_eq_true rfl⟩ rfl hl.1 rfl (lv_room (Nat.le_of_ble_eq_true rfl)) dX9_runPlan_18) (fun r4 st3 H locs h hP hS => ?_)
  refine W.widen (k := rmX9_runPlan.cells) (n := rmX9_runPlan.slots) (Nat.le_of_ble_eq_true rfl) (Nat.le_of_ble_eq_true rfl) (vx_ret ?_)
  exact z_ri C hr hlk rfl hP hS h dX9_runPlan_21
def rmX9_crossings : Room := { frames := 0, cells := 0, slots := 0, locals := 0 }
def wX9_crossings (b : Nat) (st : St) (Q : Int32 → St → Prop) : Prop :=
  Q (gI st (b + 4) 11) st
theorem hdX9_crossings : yX9_crossings.cls = "PlankBridge" ∧ yX9_crossings.cls ≠ "java/lang/invoke/MethodHandle" ∧ yX9_crossings.cls ≠ "java/lang/invoke/VarHandle" ∧ (parseMethodDescriptor yX9_crossings.desc).map (fun d => d.parameters.length) = some 0 := by decide +kernel
set_option maxHeartbeats 4000000 in
set_option maxRecDepth 100000 in
theorem tX9_crossings {l : Launch} {E : En0} {L : List Nat} (hE : EK E L) (hL : Cov 0 54 L) {b : Nat} {st : St} {Q : Int32 → St → Prop} (hb : kd b = 8) (h : wX9_crossings b st Q) : Mz l yX9_crossings cX9_crossings 1 (some .int) rmX9_crossings E L [.ref (E.2.1 b)] st (zI E L Q) := by
  refine Mz.of hE (by decide) (Nat.le_of_ble_eq_true rfl) ?_
  intro p e s m below meth c ls C hr hlk _ hl hP
  replace C : Cx E L "PlankBridge" cX9_crossings 1 p s m _ c := C
  have hS : va_S (fA E L s.heap.size) s.heap s.heap [] := va_S.rf
  replace hl : lv_has ls 1 [(0, .ref (E.2.1 b))] := hl
  unfold wX9_crossings at h
  refine lv_aload_n C.1 C.2.1 dX9_crossings_0 rfl (lv_at hl 0 rfl) ?_
  refine gf8_2 C hP hb (m8 hb hL) q412 dX9_crossings_1 ?_
  refine gn2_11 C hP (k8_4 hb) (m8_4 hb hL) q315 dX9_crossings_4 ?_
  exact z_ri C hr hlk rfl hP hS h dX9_crossings_7
def rmX9_falls : Room := { frames := 0, cells := 0, slots := 0, locals := 0 }
def wX9_falls (b : Nat) (st : St) (Q : Int32 → St → Prop) : Prop :=
  Q (gI st (b + 4) 12) st
theorem hdX9_falls : yX9_falls.cls = "PlankBridge" ∧ yX9_falls.cls ≠ "java/lang/invoke/MethodHandle" ∧ yX9_falls.cls ≠ "java/lang/invoke/VarHandle" ∧ (parseMethodDescriptor yX9_falls.desc).map (fun d => d.parameters.length) = some 0 := by decide +kernel
set_option maxHeartbeats 4000000 in
set_option maxRecDepth 100000 in
theorem tX9_falls {l : Launch} {E : En0} {L : List Nat} (hE : EK E L) (hL : Cov 0 54 L) {b : Nat} {st : St} {Q : Int32 → St → Prop} (hb : kd b = 8) (h : wX9_falls b st Q) : Mz l yX9_falls cX9_falls 1 (some .int) rmX9_falls E L [.ref (E.2.1 b)] st (zI E L Q) := by
  refine Mz.of hE (by decide) (Nat.le_of_ble_eq_true rfl) ?_
  intro p e s m below meth c ls C hr hlk _ hl hP
  replace C : Cx E L "PlankBridge" cX9_falls 1 p s m _ c := C
  have hS : va_S (fA E L s.heap.size) s.heap s.heap [] := va_S.rf
  replace hl : lv_has ls 1 [(0, .ref (E.2.1 b))] := hl
  unfold wX9_falls at h
  refine lv_aload_n C.1 C.2.1 dX9_falls_0 rfl (lv_at hl 0 rfl) ?_
  refine gf8_2 C hP hb (m8 hb hL) q412 dX9_falls_1 ?_
  refine gn2_12 C hP (k8_4 hb) (m8_4 hb hL) q317 dX9_falls_4 ?_
  exact z_ri C hr hlk rfl hP hS h dX9_falls_7
def rmX9_notes : Room := { frames := 0, cells := 0, slots := 0, locals := 0 }
def wX9_notes (b : Nat) (st : St) (Q : Int32 → St → Prop) : Prop :=
  Q (gI st (b + 4) 13) st
theorem hdX9_notes : yX9_notes.cls = "PlankBridge" ∧ yX9_notes.cls ≠ "java/lang/invoke/MethodHandle" ∧ yX9_notes.cls ≠ "java/lang/invoke/VarHandle" ∧ (parseMethodDescriptor yX9_notes.desc).map (fun d => d.parameters.length) = some 0 := by decide +kernel
set_option maxHeartbeats 4000000 in
set_option maxRecDepth 100000 in
theorem tX9_notes {l : Launch} {E : En0} {L : List Nat} (hE : EK E L) (hL : Cov 0 54 L) {b : Nat} {st : St} {Q : Int32 → St → Prop} (hb : kd b = 8) (h : wX9_notes b st Q) : Mz l yX9_notes cX9_notes 1 (some .int) rmX9_notes E L [.ref (E.2.1 b)] st (zI E L Q) := by
  refine Mz.of hE (by decide) (Nat.le_of_ble_eq_true rfl) ?_
  intro p e s m below meth c ls C hr hlk _ hl hP
  replace C : Cx E L "PlankBridge" cX9_notes 1 p s m _ c := C
  have hS : va_S (fA E L s.heap.size) s.heap s.heap [] := va_S.rf
  replace hl : lv_has ls 1 [(0, .ref (E.2.1 b))] := hl
  unfold wX9_notes at h
  refine lv_aload_n C.1 C.2.1 dX9_notes_0 rfl (lv_at hl 0 rfl) ?_
  refine gf8_2 C hP hb (m8 hb hL) q412 dX9_notes_1 ?_
  refine gn2_13 C hP (k8_4 hb) (m8_4 hb hL) q319 dX9_notes_4 ?_
  exact z_ri C hr hlk rfl hP hS h dX9_notes_7
def rmX9_noteOf : Room := { frames := 6, cells := 1, slots := 6, locals := 90 }
def wX9_noteOf_L21 (b : Nat) (p1 : Int32)   (st : St) (Q : Int32 → St → Prop) (X : String → St → Prop) : Prop :=
  X "java/lang/IndexOutOfBoundsException" st
def wX9_noteOf (b : Nat) (p1 : Int32) (st : St) (Q : Int32 → St → Prop) (X : String → St → Prop) : Prop :=
  ((p1 < 0 → wX9_noteOf_L21 b p1 st Q X) ∧ (¬ p1 < 0 → ((10 ≤ p1 → wX9_noteOf_L21 b p1 st Q X) ∧ (¬ 10 ≤ p1 → ((p1 < (gI st (b + 4) 13) → (wX2_readNote (b + 4) p1 st (fun r2 st1 => Q r2 st1))) ∧ (¬ p1 < (gI st (b + 4) 13) → wX9_noteOf_L21 b p1 st Q X))))))
theorem hdX9_noteOf : yX9_noteOf.cls = "PlankBridge" ∧ yX9_noteOf.cls ≠ "java/lang/invoke/MethodHandle" ∧ yX9_noteOf.cls ≠ "java/lang/invoke/VarHandle" ∧ (parseMethodDescriptor yX9_noteOf.desc).map (fun d => d.parameters.length) = some 1 := by decide +kernel
set_option maxHeartbeats 4000000 in
set_option maxRecDepth 100000 in
theorem tX9_noteOf_L21 {l : Launch} {p : Program} {e : Env} {s : State} {m : MethodId} {args : Array Value} {below : List Frame} {meth : Method} {c : Code} {E : En0} {L : List Nat} (hL : Cov 0 54 L) (C : Cx E L "PlankBridge" cX9_noteOf 2 p s m args c) (hr : meth.sig.returnType = (some .int)) (hlk : meth.locks = false) (hfl : l.stackTraces = false) (htab : ∀ x ∈ c.exceptionTable.toList, False) {b : Nat} {p1 : Int32} {Q : Int32 → St → Prop} {X : String → St → Prop} (hb : kd b = 8)   {st : St} (H : Heap) (locs : List Loc) (ls : Array Slot) (h : wX9_noteOf_L21 b p1 st Q X) (hl : lv_has ls 2 []) (hP : va_P E.1 vwCl (wd E L st) H) (hS : va_S (fA E L s.heap.size) s.heap H locs) : W p l e rmX9_noteOf s m args below meth c H locs 0 0 (vx_MQ below (zI E L Q (fA E L s.heap.size)) (zX E L X (fA E L s.heap.size)) args s rmX9_noteOf.cells rmX9_noteOf.slots (fA E L s.heap.size)) (F0 m 21 ls []) := by
  unfold wX9_noteOf_L21 at h
  exact z_throw C hfl htab hlk hP hS hl.1 (text := "no such note") (by decide) q964 q130 (by decide +kernel) xw_ioo dX9_noteOf_21 dX9_noteOf_24 dX9_noteOf_25 dX9_noteOf_27 dX9_noteOf_30 (Nat.le_of_ble_eq_true rfl) (Nat.le_of_ble_eq_true rfl) (Nat.le_of_ble_eq_true rfl) (Nat.le_of_ble_eq_true rfl) h (Nat.le_of_ble_eq_true rfl) (Nat.le_of_ble_eq_true rfl)
set_option maxHeartbeats 4000000 in
set_option maxRecDepth 100000 in
theorem tX9_noteOf {l : Launch} {E : En0} {L : List Nat} (hE : EK E L) (hL : Cov 0 54 L) {b : Nat} {p1 : Int32} {st : St} {Q : Int32 → St → Prop} {X : String → St → Prop} (hb : kd b = 8) (hfl : l.stackTraces = false) (h : wX9_noteOf b p1 st Q X) : Mx l yX9_noteOf cX9_noteOf 2 (some .int) rmX9_noteOf E L [.ref (E.2.1 b), .int p1] st (zI E L Q) X := by
  refine Mx.of hE (by decide) (Nat.le_of_ble_eq_true rfl) ?_
  intro p e s m below meth c ls C hr hlk htab hl hP
  replace C : Cx E L "PlankBridge" cX9_noteOf 2 p s m _ c := C
  have hS : va_S (fA E L s.heap.size) s.heap s.heap [] := va_S.rf
  replace hl : lv_has ls 2 [(0, .ref (E.2.1 b)), (1, .int p1)] := hl
  unfold wX9_noteOf at h
  refine lv_iload_n C.1 C.2.1 dX9_noteOf_0 rfl (lv_at hl 1 rfl) ?_
  refine lv_if_lt C.1 C.2.1 (tgt := 21) dX9_noteOf_1 (by decide) (fun hc => ?_) (fun hc => ?_)
  · have h := h.1 hc
    exact tX9_noteOf_L21 hL C hr hlk hfl htab hb _ _ _ h (lv_sub hl [] rfl) hP hS
  · have h := h.2 hc
    refine lv_iload_n C.1 C.2.1 dX9_noteOf_4 rfl (lv_at hl 1 rfl) ?_
    refine lv_bipush C.1 C.2.1 (v := 10) dX9_noteOf_5 rfl ?_
    refine lv_icmp_ge C.1 C.2.1 (tgt := 21) dX9_noteOf_7 (by decide) (fun hc => ?_) (fun hc => ?_)
    · have h := h.1 hc
      exact tX9_noteOf_L21 hL C hr hlk hfl htab hb _ _ _ h (lv_sub hl [] rfl) hP hS
    · have h := h.2 hc
      refine lv_iload_n C.1 C.2.1 dX9_noteOf_10 rfl (lv_at hl 1 rfl) ?_
      refine lv_aload_n C.1 C.2.1 dX9_noteOf_11 rfl (lv_at hl 0 rfl) ?_
      refine gf8_2 C hP hb (m8 hb hL) q412 dX9_noteOf_12 ?_
      refine gn2_13 C hP (k8_4 hb) (m8_4 hb hL) q319 dX9_noteOf_15 ?_
      refine lv_icmp_lt C.1 C.2.1 (tgt := 31) dX9_noteOf_18 (by decide) (fun hc => ?_) (fun hc => ?_)
      · have h := h.1 hc
        refine lv_aload_n C.1 C.2.1 dX9_noteOf_31 rfl (lv_at hl 0 rfl) ?_
        refine gf8_2 C hP hb (m8 hb hL) q412 dX9_noteOf_32 ?_
        refine lv_iload_n C.1 C.2.1 dX9_noteOf_35 rfl (lv_at hl 1 rfl) ?_
        refine z_ki hS (z_runV (As := [.int p1]) (rest := []) C hP hS (m8_4 hb hL) (e2 (k8_4 hb)) rfl (tX2_readNote C.2.2.2.2.2.2.1 (hL.mo (Nat.le_of_ble_eq_true rfl) (Nat.le_of_ble_eq_true rfl)) (k8_4 hb) h) q841 q842 q843 q112 q844 hdX2_readNote ⟨Nat.le_of_ble_eq_true rfl, Nat.le_of_ble_eq_true rfl⟩ ⟨Nat.le_of_ble_eq_true rfl, Nat.le_of_ble_eq_true rfl⟩ rfl hl.1 rfl (lv_room (Nat.le_of_ble_eq_true rfl)) dX9_noteOf_36) (fun r2 st1 H locs h hP hS => ?_)
        refine W.widen (k := rmX9_noteOf.cells) (n := rmX9_noteOf.slots) (Nat.le_of_ble_eq_true rfl) (Nat.le_of_ble_eq_true rfl) (vx_ret ?_)
        exact z_ri C hr hlk rfl hP hS h dX9_noteOf_39
      · have h := h.2 hc
        exact tX9_noteOf_L21 hL C hr hlk hfl htab hb _ _ _ h (lv_sub hl [] rfl) hP hS
def rmX9_wouldCross : Room := { frames := 4, cells := 0, slots := 0, locals := 92 }
def wX9_wouldCross (b : Nat) (p1 : Int32) (p2 : Int32) (st : St) (Q : Int32 → St → Prop) : Prop :=
  (wX2_canGo (b + 4) p1 p2 st (fun r2 st1 => ((¬ r2 = 0 → (wX2_copyFrom (b + 10) ((b + 4)) st1 (fun st3 => (wX2_go (b + 10) p1 p2 st3 (fun r5 st4 => Q r5 st4))))) ∧ (r2 = 0 → Q 0 st1))))
theorem hdX9_wouldCross : yX9_wouldCross.cls = "PlankBridge" ∧ yX9_wouldCross.cls ≠ "java/lang/invoke/MethodHandle" ∧ yX9_wouldCross.cls ≠ "java/lang/invoke/VarHandle" ∧ (parseMethodDescriptor yX9_wouldCross.desc).map (fun d => d.parameters.length) = some 2 := by decide +kernel
set_option maxHeartbeats 4000000 in
set_option maxRecDepth 100000 in
theorem tX9_wouldCross {l : Launch} {E : En0} {L : List Nat} (hE : EK E L) (hL : Cov 0 54 L) {b : Nat} {p1 : Int32} {p2 : Int32} {st : St} {Q : Int32 → St → Prop} (hb : kd b = 8) (h : wX9_wouldCross b p1 p2 st Q) : Mz l yX9_wouldCross cX9_wouldCross 3 (some .boolean) rmX9_wouldCross E L [.ref (E.2.1 b), .int p1, .int p2] st (zI E L (fun r u => bz r ∧ Q r u)) := by
  refine Mz.of hE (by decide) (Nat.le_of_ble_eq_true rfl) ?_
  intro p e s m below meth c ls C hr hlk _ hl hP
  replace C : Cx E L "PlankBridge" cX9_wouldCross 3 p s m _ c := C
  have hS : va_S (fA E L s.heap.size) s.heap s.heap [] := va_S.rf
  replace hl : lv_has ls 3 [(0, .ref (E.2.1 b)), (1, .int p1), (2, .int p2)] := hl
  unfold wX9_wouldCross at h
  refine lv_aload_n C.1 C.2.1 dX9_wouldCross_0 rfl (lv_at hl 0 rfl) ?_
  refine gf8_2 C hP hb (m8 hb hL) q412 dX9_wouldCross_1 ?_
  refine lv_iload_n C.1 C.2.1 dX9_wouldCross_4 rfl (lv_at hl 1 rfl) ?_
  refine lv_iload_n C.1 C.2.1 dX9_wouldCross_5 rfl (lv_at hl 2 rfl) ?_
  refine z_ki hS (z_runV (As := [.int p1, .int p2]) (rest := []) C hP hS (m8_4 hb hL) (e2 (k8_4 hb)) rfl (tX2_canGo C.2.2.2.2.2.2.1 (hL.mo (Nat.le_of_ble_eq_true rfl) (Nat.le_of_ble_eq_true rfl)) (k8_4 hb) h) q1054 q1055 q1056 q112 q1057 hdX2_canGo ⟨Nat.le_of_ble_eq_true rfl, Nat.le_of_ble_eq_true rfl⟩ ⟨Nat.zero_le _, Nat.zero_le _⟩ rfl hl.1 rfl (lv_room (Nat.le_of_ble_eq_true rfl)) dX9_wouldCross_6) (fun r2 st1 H locs h hP hS => ?_)
  obtain ⟨hr2, h⟩ := h
  refine lv_if_ne C.1 C.2.1 (tgt := 14) dX9_wouldCross_9 (by decide) (fun hc => ?_) (fun hc => ?_)
  · have h := h.1 hc
    refine lv_aload_n C.1 C.2.1 dX9_wouldCross_14 rfl (lv_at hl 0 rfl) ?_
    refine gf8_3 C hP hb (m8 hb hL) q413 dX9_wouldCross_15 ?_
    refine lv_aload_n C.1 C.2.1 dX9_wouldCross_18 rfl (lv_at hl 0 rfl) ?_
    refine gf8_2 C hP hb (m8 hb hL) q412 dX9_wouldCross_19 ?_
    refine z_kv hS (z_runV (As := [.ref (E.2.1 ((b + 4)))]) (rest := []) C hP hS (m8_10 hb hL) (e2 (k8_10 hb)) rfl (tX2_copyFrom C.2.2.2.2.2.2.1 (hL.mo (Nat.le_of_ble_eq_true rfl) (Nat.le_of_ble_eq_true rfl)) (k8_10 hb) (k8_4 hb) h) q1235 q1236 q1237 q112 q1238 hdX2_copyFrom ⟨Nat.le_of_ble_eq_true rfl, Nat.le_of_ble_eq_true rfl⟩ ⟨Nat.zero_le _, Nat.zero_le _⟩ rfl hl.1 rfl (lv_room (Nat.le_of_ble_eq_true rfl)) dX9_wouldCross_22) (fun st3 H locs h hP hS => ?_)
    refine lv_aload_n C.1 C.2.1 dX9_wouldCross_25 rfl (lv_at hl 0 rfl) ?_
    refine gf8_3 C hP hb (m8 hb hL) q413 dX9_wouldCross_26 ?_
    refine lv_iload_n C.1 C.2.1 dX9_wouldCross_29 rfl (lv_at hl 1 rfl) ?_
    refine lv_iload_n C.1 C.2.1 dX9_wouldCross_30 rfl (lv_at hl 2 rfl) ?_
    refine z_ki hS (z_runV (As := [.int p1, .int p2]) (rest := []) C hP hS (m8_10 hb hL) (e2 (k8_10 hb)) rfl (tX2_go C.2.2.2.2.2.2.1 (hL.mo (Nat.le_of_ble_eq_true rfl) (Nat.le_of_ble_eq_true rfl)) (k8_10 hb) h) q1062 q1063 q1064 q112 q1065 hdX2_go ⟨Nat.le_of_ble_eq_true rfl, Nat.le_of_ble_eq_true rfl⟩ ⟨Nat.zero_le _, Nat.zero_le _⟩ rfl hl.1 rfl (lv_room (Nat.le_of_ble_eq_true rfl)) dX9_wouldCross_31) (fun r5 st4 H locs h hP hS => ?_)
    obtain ⟨hr5, h⟩ := h
    exact z_ri C hr hlk (bz_n hr5) hP hS ⟨hr5, h⟩ dX9_wouldCross_34
  · have h := h.2 hc
    refine lv_iconst C.1 C.2.1 (v := 0) dX9_wouldCross_12 rfl ?_
    exact z_ri C hr hlk (bz_n bz0) hP hS ⟨bz0, h⟩ dX9_wouldCross_13
def rmX9_canCrossAlone : Room := { frames := 7, cells := 1, slots := 6, locals := 114 }
def wX9_canCrossAlone (b : Nat) (p1 : Int32) (st : St) (Q : Int32 → St → Prop) (X : String → St → Prop) : Prop :=
  (wX9_requireWalker b p1 st (fun st1 => (wX9_wouldCross b p1 (-1) st1 (fun r3 st2 => Q r3 st2))) X)
theorem hdX9_canCrossAlone : yX9_canCrossAlone.cls = "PlankBridge" ∧ yX9_canCrossAlone.cls ≠ "java/lang/invoke/MethodHandle" ∧ yX9_canCrossAlone.cls ≠ "java/lang/invoke/VarHandle" ∧ (parseMethodDescriptor yX9_canCrossAlone.desc).map (fun d => d.parameters.length) = some 1 := by decide +kernel
set_option maxHeartbeats 4000000 in
set_option maxRecDepth 100000 in
theorem tX9_canCrossAlone {l : Launch} {E : En0} {L : List Nat} (hE : EK E L) (hL : Cov 0 54 L) {b : Nat} {p1 : Int32} {st : St} {Q : Int32 → St → Prop} {X : String → St → Prop} (hb : kd b = 8) (hfl : l.stackTraces = false) (h : wX9_canCrossAlone b p1 st Q X) : Mx l yX9_canCrossAlone cX9_canCrossAlone 2 (some .boolean) rmX9_canCrossAlone E L [.ref (E.2.1 b), .int p1] st (zI E L (fun r u => bz r ∧ Q r u)) X := by
  refine Mx.of hE (by decide) (Nat.le_of_ble_eq_true rfl) ?_
  intro p e s m below meth c ls C hr hlk htab hl hP
  replace C : Cx E L "PlankBridge" cX9_canCrossAlone 2 p s m _ c := C
  have hS : va_S (fA E L s.heap.size) s.heap s.heap [] := va_S.rf
  replace hl : lv_has ls 2 [(0, .ref (E.2.1 b)), (1, .int p1)] := hl
  unfold wX9_canCrossAlone at h
  refine lv_aload_n C.1 C.2.1 dX9_canCrossAlone_0 rfl (lv_at hl 0 rfl) ?_
  refine lv_iload_n C.1 C.2.1 dX9_canCrossAlone_1 rfl (lv_at hl 1 rfl) ?_
  refine z_kvx htab hlk (Nat.le_of_ble_eq_true rfl) (Nat.le_of_ble_eq_true rfl) hS (z_runVx (As := [.int p1]) (rest := []) C hP hS (m8 hb hL) (e8 hb) rfl (tX9_requireWalker C.2.2.2.2.2.2.1 (hL.mo (Nat.le_of_ble_eq_true rfl) (Nat.le_of_ble_eq_true rfl)) hb hfl h) q960 q962 q20 q105 q963 hdX9_requireWalker ⟨Nat.le_of_ble_eq_true rfl, Nat.le_of_ble_eq_true rfl⟩ ⟨Nat.le_of_ble_eq_true rfl, Nat.le_of_ble_eq_true rfl⟩ rfl hl.1 rfl (lv_room (Nat.le_of_ble_eq_true rfl)) dX9_canCrossAlone_2) (fun st1 H locs h hP hS => ?_)
  refine lv_aload_n C.1 C.2.1 dX9_canCrossAlone_5 rfl (lv_at hl 0 rfl) ?_
  refine lv_iload_n C.1 C.2.1 dX9_canCrossAlone_6 rfl (lv_at hl 1 rfl) ?_
  refine lv_iconst C.1 C.2.1 (v := (-1)) dX9_canCrossAlone_7 rfl ?_
  refine z_ki hS (z_runV (As := [.int p1, .int (-1)]) (rest := []) C hP hS (m8 hb hL) (e8 hb) rfl (tX9_wouldCross C.2.2.2.2.2.2.1 (hL.mo (Nat.le_of_ble_eq_true rfl) (Nat.le_of_ble_eq_true rfl)) hb h) q1231 q1233 q37 q105 q1234 hdX9_wouldCross ⟨Nat.le_of_ble_eq_true rfl, Nat.le_of_ble_eq_true rfl⟩ ⟨Nat.le_of_ble_eq_true rfl, Nat.le_of_ble_eq_true rfl⟩ rfl hl.1 rfl (lv_room (Nat.le_of_ble_eq_true rfl)) dX9_canCrossAlone_8) (fun r3 st2 H locs h hP hS => ?_)
  obtain ⟨hr3, h⟩ := h
  refine W.widen (k := rmX9_canCrossAlone.cells) (n := rmX9_canCrossAlone.slots) (Nat.le_of_ble_eq_true rfl) (Nat.le_of_ble_eq_true rfl) (vx_ret ?_)
  exact z_ri C hr hlk (bz_n hr3) hP hS ⟨hr3, h⟩ dX9_canCrossAlone_11
def rmX9_canCrossTogether : Room := { frames := 8, cells := 3, slots := 18, locals := 133 }
def wX9_canCrossTogether (b : Nat) (p1 : Int32) (p2 : Int32) (st : St) (Q : Int32 → St → Prop) (X : String → St → Prop) : Prop :=
  (wX9_requireTwo b p1 p2 st (fun st1 => (wX9_wouldCross b p1 p2 st1 (fun r3 st2 => Q r3 st2))) X)
theorem hdX9_canCrossTogether : yX9_canCrossTogether.cls = "PlankBridge" ∧ yX9_canCrossTogether.cls ≠ "java/lang/invoke/MethodHandle" ∧ yX9_canCrossTogether.cls ≠ "java/lang/invoke/VarHandle" ∧ (parseMethodDescriptor yX9_canCrossTogether.desc).map (fun d => d.parameters.length) = some 2 := by decide +kernel
set_option maxHeartbeats 4000000 in
set_option maxRecDepth 100000 in
theorem tX9_canCrossTogether {l : Launch} {E : En0} {L : List Nat} (hE : EK E L) (hL : Cov 0 54 L) {b : Nat} {p1 : Int32} {p2 : Int32} {st : St} {Q : Int32 → St → Prop} {X : String → St → Prop} (hb : kd b = 8) (hfl : l.stackTraces = false) (h : wX9_canCrossTogether b p1 p2 st Q X) : Mx l yX9_canCrossTogether cX9_canCrossTogether 3 (some .boolean) rmX9_canCrossTogether E L [.ref (E.2.1 b), .int p1, .int p2] st (zI E L (fun r u => bz r ∧ Q r u)) X := by
  refine Mx.of hE (by decide) (Nat.le_of_ble_eq_true rfl) ?_
  intro p e s m below meth c ls C hr hlk htab hl hP
  replace C : Cx E L "PlankBridge" cX9_canCrossTogether 3 p s m _ c := C
  have hS : va_S (fA E L s.heap.size) s.heap s.heap [] := va_S.rf
  replace hl : lv_has ls 3 [(0, .ref (E.2.1 b)), (1, .int p1), (2, .int p2)] := hl
  unfold wX9_canCrossTogether at h
  refine lv_aload_n C.1 C.2.1 dX9_canCrossTogether_0 rfl (lv_at hl 0 rfl) ?_
  refine lv_iload_n C.1 C.2.1 dX9_canCrossTogether_1 rfl (lv_at hl 1 rfl) ?_
  refine lv_iload_n C.1 C.2.1 dX9_canCrossTogether_2 rfl (lv_at hl 2 rfl) ?_
  refine z_kvx htab hlk (Nat.le_of_ble_eq_true rfl) (Nat.le_of_ble_eq_true rfl) hS (z_runVx (As := [.int p1, .int p2]) (rest := []) C hP hS (m8 hb hL) (e8 hb) rfl (tX9_requireTwo C.2.2.2.2.2.2.1 (hL.mo (Nat.le_of_ble_eq_true rfl) (Nat.le_of_ble_eq_true rfl)) hb hfl h) q1095 q1097 q27 q105 q1098 hdX9_requireTwo ⟨Nat.le_of_ble_eq_true rfl, Nat.le_of_ble_eq_true rfl⟩ ⟨Nat.le_of_ble_eq_true rfl, Nat.le_of_ble_eq_true rfl⟩ rfl hl.1 rfl (lv_room (Nat.le_of_ble_eq_true rfl)) dX9_canCrossTogether_3) (fun st1 H locs h hP hS => ?_)
  refine lv_aload_n C.1 C.2.1 dX9_canCrossTogether_6 rfl (lv_at hl 0 rfl) ?_
  refine lv_iload_n C.1 C.2.1 dX9_canCrossTogether_7 rfl (lv_at hl 1 rfl) ?_
  refine lv_iload_n C.1 C.2.1 dX9_canCrossTogether_8 rfl (lv_at hl 2 rfl) ?_
  refine z_ki hS (z_runV (As := [.int p1, .int p2]) (rest := []) C hP hS (m8 hb hL) (e8 hb) rfl (tX9_wouldCross C.2.2.2.2.2.2.1 (hL.mo (Nat.le_of_ble_eq_true rfl) (Nat.le_of_ble_eq_true rfl)) hb h) q1231 q1233 q37 q105 q1234 hdX9_wouldCross ⟨Nat.le_of_ble_eq_true rfl, Nat.le_of_ble_eq_true rfl⟩ ⟨Nat.le_of_ble_eq_true rfl, Nat.le_of_ble_eq_true rfl⟩ rfl hl.1 rfl (lv_room (Nat.le_of_ble_eq_true rfl)) dX9_canCrossTogether_9) (fun r3 st2 H locs h hP hS => ?_)
  obtain ⟨hr3, h⟩ := h
  refine W.widen (k := rmX9_canCrossTogether.cells) (n := rmX9_canCrossTogether.slots) (Nat.le_of_ble_eq_true rfl) (Nat.le_of_ble_eq_true rfl) (vx_ret ?_)
  exact z_ri C hr hlk (bz_n hr3) hP hS ⟨hr3, h⟩ dX9_canCrossTogether_12
def rmX9_fewestMinutes : Room := { frames := 7, cells := 0, slots := 0, locals := 163 }
def wX9_fewestMinutes (b : Nat) (st : St) (Q : Int32 → St → Prop) : Prop :=
  (wX8_minutesLeft (b + 18) st (fun r2 st1 => Q r2 st1))
theorem hdX9_fewestMinutes : yX9_fewestMinutes.cls = "PlankBridge" ∧ yX9_fewestMinutes.cls ≠ "java/lang/invoke/MethodHandle" ∧ yX9_fewestMinutes.cls ≠ "java/lang/invoke/VarHandle" ∧ (parseMethodDescriptor yX9_fewestMinutes.desc).map (fun d => d.parameters.length) = some 0 := by decide +kernel
set_option maxHeartbeats 4000000 in
set_option maxRecDepth 100000 in
theorem tX9_fewestMinutes {l : Launch} {E : En0} {L : List Nat} (hE : EK E L) (hL : Cov 0 54 L) {b : Nat} {st : St} {Q : Int32 → St → Prop} (hb : kd b = 8) (h : wX9_fewestMinutes b st Q) : Mz l yX9_fewestMinutes cX9_fewestMinutes 1 (some .int) rmX9_fewestMinutes E L [.ref (E.2.1 b)] st (zI E L Q) := by
  refine Mz.of hE (by decide) (Nat.le_of_ble_eq_true rfl) ?_
  intro p e s m below meth c ls C hr hlk _ hl hP
  replace C : Cx E L "PlankBridge" cX9_fewestMinutes 1 p s m _ c := C
  have hS : va_S (fA E L s.heap.size) s.heap s.heap [] := va_S.rf
  replace hl : lv_has ls 1 [(0, .ref (E.2.1 b))] := hl
  unfold wX9_fewestMinutes at h
  refine lv_aload_n C.1 C.2.1 dX9_fewestMinutes_0 rfl (lv_at hl 0 rfl) ?_
  refine gf8_5 C hP hb (m8 hb hL) q415 dX9_fewestMinutes_1 ?_
  refine z_ki hS (z_runV (As := []) (rest := []) C hP hS (m8_18 hb hL) (e7 (k8_18 hb)) rfl (tX8_minutesLeft C.2.2.2.2.2.2.1 (hL.mo (Nat.le_of_ble_eq_true rfl) (Nat.le_of_ble_eq_true rfl)) (k8_18 hb) h) q778 q779 q780 q114 q781 hdX8_minutesLeft ⟨Nat.le_of_ble_eq_true rfl, Nat.le_of_ble_eq_true rfl⟩ ⟨Nat.zero_le _, Nat.zero_le _⟩ rfl hl.1 rfl (lv_room (Nat.le_of_ble_eq_true rfl)) dX9_fewestMinutes_4) (fun r2 st1 H locs h hP hS => ?_)
  exact z_ri C hr hlk rfl hP hS h dX9_fewestMinutes_7
def rmX9_requireSomebodyNear : Room := { frames := 6, cells := 1, slots := 6, locals := 90 }
def wX9_requireSomebodyNear (b : Nat) (st : St) (Q : St → Prop) (X : String → St → Prop) : Prop :=
  ((¬ (gI st (b + 4) 3) = 0 → Q st) ∧ ((gI st (b + 4) 3) = 0 → X "java/lang/IllegalStateException" st))
theorem hdX9_requireSomebodyNear : yX9_requireSomebodyNear.cls = "PlankBridge" ∧ yX9_requireSomebodyNear.cls ≠ "java/lang/invoke/MethodHandle" ∧ yX9_requireSomebodyNear.cls ≠ "java/lang/invoke/VarHandle" ∧ (parseMethodDescriptor yX9_requireSomebodyNear.desc).map (fun d => d.parameters.length) = some 0 := by decide +kernel
set_option maxHeartbeats 4000000 in
set_option maxRecDepth 100000 in
theorem tX9_requireSomebodyNear {l : Launch} {E : En0} {L : List Nat} (hE : EK E L) (hL : Cov 0 54 L) {b : Nat} {st : St} {Q : St → Prop} {X : String → St → Prop} (hb : kd b = 8) (hfl : l.stackTraces = false) (h : wX9_requireSomebodyNear b st Q X) : Mx l yX9_requireSomebodyNear cX9_requireSomebodyNear 1 none rmX9_requireSomebodyNear E L [.ref (E.2.1 b)] st (zV E L Q) X := by
  refine Mx.of hE (by decide) (Nat.le_of_ble_eq_true rfl) ?_
  intro p e s m below meth c ls C hr hlk htab hl hP
  replace C : Cx E L "PlankBridge" cX9_requireSomebodyNear 1 p s m _ c := C
  have hS : va_S (fA E L s.heap.size) s.heap s.heap [] := va_S.rf
  replace hl : lv_has ls 1 [(0, .ref (E.2.1 b))] := hl
  unfold wX9_requireSomebodyNear at h
  refine lv_aload_n C.1 C.2.1 dX9_requireSomebodyNear_0 rfl (lv_at hl 0 rfl) ?_
  refine gf8_2 C hP hb (m8 hb hL) q412 dX9_requireSomebodyNear_1 ?_
  refine gn2_3 C hP (k8_4 hb) (m8_4 hb hL) q298 dX9_requireSomebodyNear_4 ?_
  refine lv_if_ne C.1 C.2.1 (tgt := 21) dX9_requireSomebodyNear_7 (by decide) (fun hc => ?_) (fun hc => ?_)
  · have h := h.1 hc
    refine W.widen (k := rmX9_requireSomebodyNear.cells) (n := rmX9_requireSomebodyNear.slots) (Nat.le_of_ble_eq_true rfl) (Nat.le_of_ble_eq_true rfl) (vx_ret ?_)
    exact z_rv C hr hlk hP hS h dX9_requireSomebodyNear_21
  · have h := h.2 hc
    exact z_throwW C hfl htab hlk hP hS hl.1 (text := "all are far") (by decide) q857 q121 (by decide +kernel) xw_ise dX9_requireSomebodyNear_10 dX9_requireSomebodyNear_13 dX9_requireSomebodyNear_14 dX9_requireSomebodyNear_17 dX9_requireSomebodyNear_20 (Nat.le_of_ble_eq_true rfl) (Nat.le_of_ble_eq_true rfl) (Nat.le_of_ble_eq_true rfl) (Nat.le_of_ble_eq_true rfl) h (Nat.le_of_ble_eq_true rfl) (Nat.le_of_ble_eq_true rfl)
def rmX9_firstToCross : Room := { frames := 7, cells := 1, slots := 6, locals := 166 }
def wX9_firstToCross (b : Nat) (st : St) (Q : Int32 → St → Prop) (X : String → St → Prop) : Prop :=
  (wX9_requireSomebodyNear b st (fun st1 => (wX8_findFirst (b + 18) st1 (fun r3 st2 => Q r3 st2))) X)
theorem hdX9_firstToCross : yX9_firstToCross.cls = "PlankBridge" ∧ yX9_firstToCross.cls ≠ "java/lang/invoke/MethodHandle" ∧ yX9_firstToCross.cls ≠ "java/lang/invoke/VarHandle" ∧ (parseMethodDescriptor yX9_firstToCross.desc).map (fun d => d.parameters.length) = some 0 := by decide +kernel
set_option maxHeartbeats 4000000 in
set_option maxRecDepth 100000 in
theorem tX9_firstToCross {l : Launch} {E : En0} {L : List Nat} (hE : EK E L) (hL : Cov 0 54 L) {b : Nat} {st : St} {Q : Int32 → St → Prop} {X : String → St → Prop} (hb : kd b = 8) (hfl : l.stackTraces = false) (h : wX9_firstToCross b st Q X) : Mx l yX9_firstToCross cX9_firstToCross 1 (some .int) rmX9_firstToCross E L [.ref (E.2.1 b)] st (zI E L Q) X := by
  refine Mx.of hE (by decide) (Nat.le_of_ble_eq_true rfl) ?_
  intro p e s m below meth c ls C hr hlk htab hl hP
  replace C : Cx E L "PlankBridge" cX9_firstToCross 1 p s m _ c := C
  have hS : va_S (fA E L s.heap.size) s.heap s.heap [] := va_S.rf
  replace hl : lv_has ls 1 [(0, .ref (E.2.1 b))] := hl
  unfold wX9_firstToCross at h
  refine lv_aload_n C.1 C.2.1 dX9_firstToCross_0 rfl (lv_at hl 0 rfl) ?_
  refine z_kvx htab hlk (Nat.le_of_ble_eq_true rfl) (Nat.le_of_ble_eq_true rfl) hS (z_runVx (As := []) (rest := []) C hP hS (m8 hb hL) (e8 hb) rfl (tX9_requireSomebodyNear C.2.2.2.2.2.2.1 (hL.mo (Nat.le_of_ble_eq_true rfl) (Nat.le_of_ble_eq_true rfl)) hb hfl h) q1253 q1255 q38 q105 q1256 hdX9_requireSomebodyNear ⟨Nat.le_of_ble_eq_true rfl, Nat.le_of_ble_eq_true rfl⟩ ⟨Nat.le_of_ble_eq_true rfl, Nat.le_of_ble_eq_true rfl⟩ rfl hl.1 rfl (lv_room (Nat.le_of_ble_eq_true rfl)) dX9_firstToCross_1) (fun st1 H locs h hP hS => ?_)
  refine lv_aload_n C.1 C.2.1 dX9_firstToCross_4 rfl (lv_at hl 0 rfl) ?_
  refine gf8_5 C hP hb (m8 hb hL) q415 dX9_firstToCross_5 ?_
  refine z_ki hS (z_runV (As := []) (rest := []) C hP hS (m8_18 hb hL) (e7 (k8_18 hb)) rfl (tX8_findFirst C.2.2.2.2.2.2.1 (hL.mo (Nat.le_of_ble_eq_true rfl) (Nat.le_of_ble_eq_true rfl)) (k8_18 hb) h) q1258 q1259 q1260 q114 q1261 hdX8_findFirst ⟨Nat.le_of_ble_eq_true rfl, Nat.le_of_ble_eq_true rfl⟩ ⟨Nat.le_of_ble_eq_true rfl, Nat.le_of_ble_eq_true rfl⟩ rfl hl.1 rfl (lv_room (Nat.le_of_ble_eq_true rfl)) dX9_firstToCross_8) (fun r3 st2 H locs h hP hS => ?_)
  refine W.widen (k := rmX9_firstToCross.cells) (n := rmX9_firstToCross.slots) (Nat.le_of_ble_eq_true rfl) (Nat.le_of_ble_eq_true rfl) (vx_ret ?_)
  exact z_ri C hr hlk rfl hP hS h dX9_firstToCross_11
def rmX9_secondToCross : Room := { frames := 7, cells := 1, slots := 6, locals := 166 }
def wX9_secondToCross (b : Nat) (st : St) (Q : Int32 → St → Prop) (X : String → St → Prop) : Prop :=
  (wX9_requireSomebodyNear b st (fun st1 => (wX8_findFirst (b + 18) st1 (fun r3 st2 => (wX8_findSecond (b + 18) r3 st2 (fun r5 st4 => Q r5 st4))))) X)
theorem hdX9_secondToCross : yX9_secondToCross.cls = "PlankBridge" ∧ yX9_secondToCross.cls ≠ "java/lang/invoke/MethodHandle" ∧ yX9_secondToCross.cls ≠ "java/lang/invoke/VarHandle" ∧ (parseMethodDescriptor yX9_secondToCross.desc).map (fun d => d.parameters.length) = some 0 := by decide +kernel
set_option maxHeartbeats 4000000 in
set_option maxRecDepth 100000 in
theorem tX9_secondToCross {l : Launch} {E : En0} {L : List Nat} (hE : EK E L) (hL : Cov 0 54 L) {b : Nat} {st : St} {Q : Int32 → St → Prop} {X : String → St → Prop} (hb : kd b = 8) (hfl : l.stackTraces = false) (h : wX9_secondToCross b st Q X) : Mx l yX9_secondToCross cX9_secondToCross 1 (some .int) rmX9_secondToCross E L [.ref (E.2.1 b)] st (zI E L Q) X := by
  refine Mx.of hE (by decide) (Nat.le_of_ble_eq_true rfl) ?_
  intro p e s m below meth c ls C hr hlk htab hl hP
  replace C : Cx E L "PlankBridge" cX9_secondToCross 1 p s m _ c := C
  have hS : va_S (fA E L s.heap.size) s.heap s.heap [] := va_S.rf
  replace hl : lv_has ls 1 [(0, .ref (E.2.1 b))] := hl
  unfold wX9_secondToCross at h
  refine lv_aload_n C.1 C.2.1 dX9_secondToCross_0 rfl (lv_at hl 0 rfl) ?_
  refine z_kvx htab hlk (Nat.le_of_ble_eq_true rfl) (Nat.le_of_ble_eq_true rfl) hS (z_runVx (As := []) (rest := []) C hP hS (m8 hb hL) (e8 hb) rfl (tX9_requireSomebodyNear C.2.2.2.2.2.2.1 (hL.mo (Nat.le_of_ble_eq_true rfl) (Nat.le_of_ble_eq_true rfl)) hb hfl h) q1253 q1255 q38 q105 q1256 hdX9_requireSomebodyNear ⟨Nat.le_of_ble_eq_true rfl, Nat.le_of_ble_eq_true rfl⟩ ⟨Nat.le_of_ble_eq_true rfl, Nat.le_of_ble_eq_true rfl⟩ rfl hl.1 rfl (lv_room (Nat.le_of_ble_eq_true rfl)) dX9_secondToCross_1) (fun st1 H locs h hP hS => ?_)
  refine lv_aload_n C.1 C.2.1 dX9_secondToCross_4 rfl (lv_at hl 0 rfl) ?_
  refine gf8_5 C hP hb (m8 hb hL) q415 dX9_secondToCross_5 ?_
  refine lv_aload_n C.1 C.2.1 dX9_secondToCross_8 rfl (lv_at hl 0 rfl) ?_
  refine gf8_5 C hP hb (m8 hb hL) q415 dX9_secondToCross_9 ?_
  refine z_ki hS (z_runV (As := []) (rest := [.ref (E.2.1 ((b + 18)))]) C hP hS (m8_18 hb hL) (e7 (k8_18 hb)) rfl (tX8_findFirst C.2.2.2.2.2.2.1 (hL.mo (Nat.le_of_ble_eq_true rfl) (Nat.le_of_ble_eq_true rfl)) (k8_18 hb) h) q1258 q1259 q1260 q114 q1261 hdX8_findFirst ⟨Nat.le_of_ble_eq_true rfl, Nat.le_of_ble_eq_true rfl⟩ ⟨Nat.le_of_ble_eq_true rfl, Nat.le_of_ble_eq_true rfl⟩ rfl hl.1 rfl (lv_room (Nat.le_of_ble_eq_true rfl)) dX9_secondToCross_12) (fun r3 st2 H locs h hP hS => ?_)
  refine z_ki hS (z_runV (As := [.int r3]) (rest := []) C hP hS (m8_18 hb hL) (e7 (k8_18 hb)) rfl (tX8_findSecond C.2.2.2.2.2.2.1 (hL.mo (Nat.le_of_ble_eq_true rfl) (Nat.le_of_ble_eq_true rfl)) (k8_18 hb) h) q1269 q1270 q1271 q114 q1272 hdX8_findSecond ⟨Nat.le_of_ble_eq_true rfl, Nat.le_of_ble_eq_true rfl⟩ ⟨Nat.le_of_ble_eq_true rfl, Nat.le_of_ble_eq_true rfl⟩ rfl hl.1 rfl (lv_room (Nat.le_of_ble_eq_true rfl)) dX9_secondToCross_15) (fun r5 st4 H locs h hP hS => ?_)
  refine W.widen (k := rmX9_secondToCross.cells) (n := rmX9_secondToCross.slots) (Nat.le_of_ble_eq_true rfl) (Nat.le_of_ble_eq_true rfl) (vx_ret ?_)
  exact z_ri C hr hlk rfl hP hS h dX9_secondToCross_18
def rmX9_actsOfPlan : Room := { frames := 7, cells := 1, slots := 6, locals := 164 }
def wX9_actsOfPlan (b : Nat) (p1 : Int32) (st : St) (Q : Int32 → St → Prop) (X : String → St → Prop) : Prop :=
  (wX9_requirePlan b p1 st (fun st1 => (wX2_copyFrom (b + 10) ((b + 4)) st1 (fun st2 => (kd (gR st2 b 6) = 1 ∧ ∀ c3, c3 = gR st2 b 6 → (wX5_perform (b + 16) c3 ((b + 10)) p1 st2 (fun r5 st4 => Q r5 st4)))))) X)
theorem hdX9_actsOfPlan : yX9_actsOfPlan.cls = "PlankBridge" ∧ yX9_actsOfPlan.cls ≠ "java/lang/invoke/MethodHandle" ∧ yX9_actsOfPlan.cls ≠ "java/lang/invoke/VarHandle" ∧ (parseMethodDescriptor yX9_actsOfPlan.desc).map (fun d => d.parameters.length) = some 1 := by decide +kernel
set_option maxHeartbeats 4000000 in
set_option maxRecDepth 100000 in
theorem tX9_actsOfPlan {l : Launch} {E : En0} {L : List Nat} (hE : EK E L) (hL : Cov 0 54 L) {b : Nat} {p1 : Int32} {st : St} {Q : Int32 → St → Prop} {X : String → St → Prop} (hb : kd b = 8) (hfl : l.stackTraces = false) (h : wX9_actsOfPlan b p1 st Q X) : Mx l yX9_actsOfPlan cX9_actsOfPlan 2 (some .int) rmX9_actsOfPlan E L [.ref (E.2.1 b), .int p1] st (zI E L Q) X := by
  refine Mx.of hE (by decide) (Nat.le_of_ble_eq_true rfl) ?_
  intro p e s m below meth c ls C hr hlk htab hl hP
  replace C : Cx E L "PlankBridge" cX9_actsOfPlan 2 p s m _ c := C
  have hS : va_S (fA E L s.heap.size) s.heap s.heap [] := va_S.rf
  replace hl : lv_has ls 2 [(0, .ref (E.2.1 b)), (1, .int p1)] := hl
  unfold wX9_actsOfPlan at h
  refine lv_aload_n C.1 C.2.1 dX9_actsOfPlan_0 rfl (lv_at hl 0 rfl) ?_
  refine lv_iload_n C.1 C.2.1 dX9_actsOfPlan_1 rfl (lv_at hl 1 rfl) ?_
  refine z_kvx htab hlk (Nat.le_of_ble_eq_true rfl) (Nat.le_of_ble_eq_true rfl) hS (z_runVx (As := [.int p1]) (rest := []) C hP hS (m8 hb hL) (e8 hb) rfl (tX9_requirePlan C.2.2.2.2.2.2.1 (hL.mo (Nat.le_of_ble_eq_true rfl) (Nat.le_of_ble_eq_true rfl)) hb hfl h) q1125 q1127 q28 q105 q1128 hdX9_requirePlan ⟨Nat.le_of_ble_eq_true rfl, Nat.le_of_ble_eq_true rfl⟩ ⟨Nat.le_of_ble_eq_true rfl, Nat.le_of_ble_eq_true rfl⟩ rfl hl.1 rfl (lv_room (Nat.le_of_ble_eq_true rfl)) dX9_actsOfPlan_2) (fun st1 H locs h hP hS => ?_)
  refine lv_aload_n C.1 C.2.1 dX9_actsOfPlan_5 rfl (lv_at hl 0 rfl) ?_
  refine gf8_3 C hP hb (m8 hb hL) q413 dX9_actsOfPlan_6 ?_
  refine lv_aload_n C.1 C.2.1 dX9_actsOfPlan_9 rfl (lv_at hl 0 rfl) ?_
  refine gf8_2 C hP hb (m8 hb hL) q412 dX9_actsOfPlan_10 ?_
  refine z_kv hS (z_runV (As := [.ref (E.2.1 ((b + 4)))]) (rest := []) C hP hS (m8_10 hb hL) (e2 (k8_10 hb)) rfl (tX2_copyFrom C.2.2.2.2.2.2.1 (hL.mo (Nat.le_of_ble_eq_true rfl) (Nat.le_of_ble_eq_true rfl)) (k8_10 hb) (k8_4 hb) h) q1235 q1236 q1237 q112 q1238 hdX2_copyFrom ⟨Nat.le_of_ble_eq_true rfl, Nat.le_of_ble_eq_true rfl⟩ ⟨Nat.le_of_ble_eq_true rfl, Nat.le_of_ble_eq_true rfl⟩ rfl hl.1 rfl (lv_room (Nat.le_of_ble_eq_true rfl)) dX9_actsOfPlan_13) (fun st2 H locs h hP hS => ?_)
  refine lv_aload_n C.1 C.2.1 dX9_actsOfPlan_16 rfl (lv_at hl 0 rfl) ?_
  refine gf8_4 C hP hb (m8 hb hL) q414 dX9_actsOfPlan_17 ?_
  refine lv_aload_n C.1 C.2.1 dX9_actsOfPlan_20 rfl (lv_at hl 0 rfl) ?_
  refine gf8_6 C hP hb (m8 hb hL) q416 dX9_actsOfPlan_21 ?_
  obtain ⟨hc3, h⟩ := h
  obtain ⟨c3, ec3⟩ : ∃ z, z = gR st2 b 6 := ⟨_, rfl⟩
  rw [← ec3]; rw [← ec3] at hc3; have h := h c3 ec3
  refine lv_aload_n C.1 C.2.1 dX9_actsOfPlan_24 rfl (lv_at hl 0 rfl) ?_
  refine gf8_3 C hP hb (m8 hb hL) q413 dX9_actsOfPlan_25 ?_
  refine lv_iload_n C.1 C.2.1 dX9_actsOfPlan_28 rfl (lv_at hl 1 rfl) ?_
  refine z_ki hS (z_runV (As := [.ref (E.2.1 c3), .ref (E.2.1 ((b + 10))), .int p1]) (rest := []) C hP hS (m8_16 hb hL) (e4 (k8_16 hb)) rfl (tX5_perform C.2.2.2.2.2.2.1 (hL.mo (Nat.le_of_ble_eq_true rfl) (Nat.le_of_ble_eq_true rfl)) (k8_16 hb) hc3 (k8_10 hb) h) q1130 q1131 q1132 q113 q1133 hdX5_perform ⟨Nat.le_of_ble_eq_true rfl, Nat.le_of_ble_eq_true rfl⟩ ⟨Nat.le_of_ble_eq_true rfl, Nat.le_of_ble_eq_true rfl⟩ rfl hl.1 rfl (lv_room (Nat.le_of_ble_eq_true rfl)) dX9_actsOfPlan_29) (fun r5 st4 H locs h hP hS => ?_)
  refine W.widen (k := rmX9_actsOfPlan.cells) (n := rmX9_actsOfPlan.slots) (Nat.le_of_ble_eq_true rfl) (Nat.le_of_ble_eq_true rfl) (vx_ret ?_)
  exact z_ri C hr hlk rfl hP hS h dX9_actsOfPlan_32
def rmX9_farBehindPlan : Room := { frames := 7, cells := 1, slots := 6, locals := 164 }
def wX9_farBehindPlan (b : Nat) (p1 : Int32) (st : St) (Q : Int32 → St → Prop) (X : String → St → Prop) : Prop :=
  (wX9_requirePlan b p1 st (fun st1 => (wX2_copyFrom (b + 10) ((b + 4)) st1 (fun st2 => (kd (gR st2 b 6) = 1 ∧ ∀ c3, c3 = gR st2 b 6 → (wX5_perform (b + 16) c3 ((b + 10)) p1 st2 (fun r5 st4 => (wX2_countFar (b + 10) st4 (fun r7 st6 => Q r7 st6)))))))) X)
theorem hdX9_farBehindPlan : yX9_farBehindPlan.cls = "PlankBridge" ∧ yX9_farBehindPlan.cls ≠ "java/lang/invoke/MethodHandle" ∧ yX9_farBehindPlan.cls ≠ "java/lang/invoke/VarHandle" ∧ (parseMethodDescriptor yX9_farBehindPlan.desc).map (fun d => d.parameters.length) = some 1 := by decide +kernel
set_option maxHeartbeats 4000000 in
set_option maxRecDepth 100000 in
theorem tX9_farBehindPlan {l : Launch} {E : En0} {L : List Nat} (hE : EK E L) (hL : Cov 0 54 L) {b : Nat} {p1 : Int32} {st : St} {Q : Int32 → St → Prop} {X : String → St → Prop} (hb : kd b = 8) (hfl : l.stackTraces = false) (h : wX9_farBehindPlan b p1 st Q X) : Mx l yX9_farBehindPlan cX9_farBehindPlan 2 (some .int) rmX9_farBehindPlan E L [.ref (E.2.1 b), .int p1] st (zI E L Q) X := by
  refine Mx.of hE (by decide) (Nat.le_of_ble_eq_true rfl) ?_
  intro p e s m below meth c ls C hr hlk htab hl hP
  replace C : Cx E L "PlankBridge" cX9_farBehindPlan 2 p s m _ c := C
  have hS : va_S (fA E L s.heap.size) s.heap s.heap [] := va_S.rf
  replace hl : lv_has ls 2 [(0, .ref (E.2.1 b)), (1, .int p1)] := hl
  unfold wX9_farBehindPlan at h
  refine lv_aload_n C.1 C.2.1 dX9_farBehindPlan_0 rfl (lv_at hl 0 rfl) ?_
  refine lv_iload_n C.1 C.2.1 dX9_farBehindPlan_1 rfl (lv_at hl 1 rfl) ?_
  refine z_kvx htab hlk (Nat.le_of_ble_eq_true rfl) (Nat.le_of_ble_eq_true rfl) hS (z_runVx (As := [.int p1]) (rest := []) C hP hS (m8 hb hL) (e8 hb) rfl (tX9_requirePlan C.2.2.2.2.2.2.1 (hL.mo (Nat.le_of_ble_eq_true rfl) (Nat.le_of_ble_eq_true rfl)) hb hfl h) q1125 q1127 q28 q105 q1128 hdX9_requirePlan ⟨Nat.le_of_ble_eq_true rfl, Nat.le_of_ble_eq_true rfl⟩ ⟨Nat.le_of_ble_eq_true rfl, Nat.le_of_ble_eq_true rfl⟩ rfl hl.1 rfl (lv_room (Nat.le_of_ble_eq_true rfl)) dX9_farBehindPlan_2) (fun st1 H locs h hP hS => ?_)
  refine lv_aload_n C.1 C.2.1 dX9_farBehindPlan_5 rfl (lv_at hl 0 rfl) ?_
  refine gf8_3 C hP hb (m8 hb hL) q413 dX9_farBehindPlan_6 ?_
  refine lv_aload_n C.1 C.2.1 dX9_farBehindPlan_9 rfl (lv_at hl 0 rfl) ?_
  refine gf8_2 C hP hb (m8 hb hL) q412 dX9_farBehindPlan_10 ?_
  refine z_kv hS (z_runV (As := [.ref (E.2.1 ((b + 4)))]) (rest := []) C hP hS (m8_10 hb hL) (e2 (k8_10 hb)) rfl (tX2_copyFrom C.2.2.2.2.2.2.1 (hL.mo (Nat.le_of_ble_eq_true rfl) (Nat.le_of_ble_eq_true rfl)) (k8_10 hb) (k8_4 hb) h) q1235 q1236 q1237 q112 q1238 hdX2_copyFrom ⟨Nat.le_of_ble_eq_true rfl, Nat.le_of_ble_eq_true rfl⟩ ⟨Nat.le_of_ble_eq_true rfl, Nat.le_of_ble_eq_true rfl⟩ rfl hl.1 rfl (lv_room (Nat.le_of_ble_eq_true rfl)) dX9_farBehindPlan_13) (fun st2 H locs h hP hS => ?_)
  refine lv_aload_n C.1 C.2.1 dX9_farBehindPlan_16 rfl (lv_at hl 0 rfl) ?_
  refine gf8_4 C hP hb (m8 hb hL) q414 dX9_farBehindPlan_17 ?_
  refine lv_aload_n C.1 C.2.1 dX9_farBehindPlan_20 rfl (lv_at hl 0 rfl) ?_
  refine gf8_6 C hP hb (m8 hb hL) q416 dX9_farBehindPlan_21 ?_
  obtain ⟨hc3, h⟩ := h
  obtain ⟨c3, ec3⟩ : ∃ z, z = gR st2 b 6 := ⟨_, rfl⟩
  rw [← ec3]; rw [← ec3] at hc3; have h := h c3 ec3
  refine lv_aload_n C.1 C.2.1 dX9_farBehindPlan_24 rfl (lv_at hl 0 rfl) ?_
  refine gf8_3 C hP hb (m8 hb hL) q413 dX9_farBehindPlan_25 ?_
  refine lv_iload_n C.1 C.2.1 dX9_farBehindPlan_28 rfl (lv_at hl 1 rfl) ?_
  refine z_ki hS (z_runV (As := [.ref (E.2.1 c3), .ref (E.2.1 ((b + 10))), .int p1]) (rest := []) C hP hS (m8_16 hb hL) (e4 (k8_16 hb)) rfl (tX5_perform C.2.2.2.2.2.2.1 (hL.mo (Nat.le_of_ble_eq_true rfl) (Nat.le_of_ble_eq_true rfl)) (k8_16 hb) hc3 (k8_10 hb) h) q1130 q1131 q1132 q113 q1133 hdX5_perform ⟨Nat.le_of_ble_eq_true rfl, Nat.le_of_ble_eq_true rfl⟩ ⟨Nat.le_of_ble_eq_true rfl, Nat.le_of_ble_eq_true rfl⟩ rfl hl.1 rfl (lv_room (Nat.le_of_ble_eq_true rfl)) dX9_farBehindPlan_29) (fun r5 st4 H locs h hP hS => ?_)
  refine lv_pop C.1 C.2.1 dX9_farBehindPlan_32 rfl ?_
  refine lv_aload_n C.1 C.2.1 dX9_farBehindPlan_33 rfl (lv_at hl 0 rfl) ?_
  refine gf8_3 C hP hb (m8 hb hL) q413 dX9_farBehindPlan_34 ?_
  refine z_ki hS (z_runV (As := []) (rest := []) C hP hS (m8_10 hb hL) (e2 (k8_10 hb)) rfl (tX2_countFar C.2.2.2.2.2.2.1 (hL.mo (Nat.le_of_ble_eq_true rfl) (Nat.le_of_ble_eq_true rfl)) (k8_10 hb) h) q1287 q1188 q1189 q112 q1190 hdX2_countFar ⟨Nat.le_of_ble_eq_true rfl, Nat.le_of_ble_eq_true rfl⟩ ⟨Nat.le_of_ble_eq_true rfl, Nat.le_of_ble_eq_true rfl⟩ rfl hl.1 rfl (lv_room (Nat.le_of_ble_eq_true rfl)) dX9_farBehindPlan_37) (fun r7 st6 H locs h hP hS => ?_)
  refine W.widen (k := rmX9_farBehindPlan.cells) (n := rmX9_farBehindPlan.slots) (Nat.le_of_ble_eq_true rfl) (Nat.le_of_ble_eq_true rfl) (vx_ret ?_)
  exact z_ri C hr hlk rfl hP hS h dX9_farBehindPlan_40
def rmX9_minutesOfPlan : Room := { frames := 7, cells := 1, slots := 6, locals := 164 }
def wX9_minutesOfPlan (b : Nat) (p1 : Int32) (st : St) (Q : Int32 → St → Prop) (X : String → St → Prop) : Prop :=
  (wX9_requirePlan b p1 st (fun st1 => (wX2_copyFrom (b + 10) ((b + 4)) st1 (fun st2 => (kd (gR st2 b 6) = 1 ∧ ∀ c3, c3 = gR st2 b 6 → (wX5_perform (b + 16) c3 ((b + 10)) p1 st2 (fun r5 st4 => (wX2_minutesInAll (b + 10) st4 (fun r7 st6 => (wX2_minutesInAll (b + 4) st6 (fun r9 st8 => Q (r7 - r9) st8)))))))))) X)
theorem hdX9_minutesOfPlan : yX9_minutesOfPlan.cls = "PlankBridge" ∧ yX9_minutesOfPlan.cls ≠ "java/lang/invoke/MethodHandle" ∧ yX9_minutesOfPlan.cls ≠ "java/lang/invoke/VarHandle" ∧ (parseMethodDescriptor yX9_minutesOfPlan.desc).map (fun d => d.parameters.length) = some 1 := by decide +kernel
set_option maxHeartbeats 4000000 in
set_option maxRecDepth 100000 in
theorem tX9_minutesOfPlan {l : Launch} {E : En0} {L : List Nat} (hE : EK E L) (hL : Cov 0 54 L) {b : Nat} {p1 : Int32} {st : St} {Q : Int32 → St → Prop} {X : String → St → Prop} (hb : kd b = 8) (hfl : l.stackTraces = false) (h : wX9_minutesOfPlan b p1 st Q X) : Mx l yX9_minutesOfPlan cX9_minutesOfPlan 2 (some .int) rmX9_minutesOfPlan E L [.ref (E.2.1 b), .int p1] st (zI E L Q) X := by
  refine Mx.of hE (by decide) (Nat.le_of_ble_eq_true rfl) ?_
  intro p e s m below meth c ls C hr hlk htab hl hP
  replace C : Cx E L "PlankBridge" cX9_minutesOfPlan 2 p s m _ c := C
  have hS : va_S (fA E L s.heap.size) s.heap s.heap [] := va_S.rf
  replace hl : lv_has ls 2 [(0, .ref (E.2.1 b)), (1, .int p1)] := hl
  unfold wX9_minutesOfPlan at h
  refine lv_aload_n C.1 C.2.1 dX9_minutesOfPlan_0 rfl (lv_at hl 0 rfl) ?_
  refine lv_iload_n C.1 C.2.1 dX9_minutesOfPlan_1 rfl (lv_at hl 1 rfl) ?_
  refine z_kvx htab hlk (Nat.le_of_ble_eq_true rfl) (Nat.le_of_ble_eq_true rfl) hS (z_runVx (As := [.int p1]) (rest := []) C hP hS (m8 hb hL) (e8 hb) rfl (tX9_requirePlan C.2.2.2.2.2.2.1 (hL.mo (Nat.le_of_ble_eq_true rfl) (Nat.le_of_ble_eq_true rfl)) hb hfl h) q1125 q1127 q28 q105 q1128 hdX9_requirePlan ⟨Nat.le_of_ble_eq_true rfl, Nat.le_of_ble_eq_true rfl⟩ ⟨Nat.le_of_ble_eq_true rfl, Nat.le_of_ble_eq_true rfl⟩ rfl hl.1 rfl (lv_room (Nat.le_of_ble_eq_true rfl)) dX9_minutesOfPlan_2) (fun st1 H locs h hP hS => ?_)
  refine lv_aload_n C.1 C.2.1 dX9_minutesOfPlan_5 rfl (lv_at hl 0 rfl) ?_
  refine gf8_3 C hP hb (m8 hb hL) q413 dX9_minutesOfPlan_6 ?_
  refine lv_aload_n C.1 C.2.1 dX9_minutesOfPlan_9 rfl (lv_at hl 0 rfl) ?_
  refine gf8_2 C hP hb (m8 hb hL) q412 dX9_minutesOfPlan_10 ?_
  refine z_kv hS (z_runV (As := [.ref (E.2.1 ((b + 4)))]) (rest := []) C hP hS (m8_10 hb hL) (e2 (k8_10 hb)) rfl (tX2_copyFrom C.2.2.2.2.2.2.1 (hL.mo (Nat.le_of_ble_eq_true rfl) (Nat.le_of_ble_eq_true rfl)) (k8_10 hb) (k8_4 hb) h) q1235 q1236 q1237 q112 q1238 hdX2_copyFrom ⟨Nat.le_of_ble_eq_true rfl, Nat.le_of_ble_eq_true rfl⟩ ⟨Nat.le_of_ble_eq_true rfl, Nat.le_of_ble_eq_true rfl⟩ rfl hl.1 rfl (lv_room (Nat.le_of_ble_eq_true rfl)) dX9_minutesOfPlan_13) (fun st2 H locs h hP hS => ?_)
  refine lv_aload_n C.1 C.2.1 dX9_minutesOfPlan_16 rfl (lv_at hl 0 rfl) ?_
  refine gf8_4 C hP hb (m8 hb hL) q414 dX9_minutesOfPlan_17 ?_
  refine lv_aload_n C.1 C.2.1 dX9_minutesOfPlan_20 rfl (lv_at hl 0 rfl) ?_
  refine gf8_6 C hP hb (m8 hb hL) q416 dX9_minutesOfPlan_21 ?_
  obtain ⟨hc3, h⟩ := h
  obtain ⟨c3, ec3⟩ : ∃ z, z = gR st2 b 6 := ⟨_, rfl⟩
  rw [← ec3]; rw [← ec3] at hc3; have h := h c3 ec3
  refine lv_aload_n C.1 C.2.1 dX9_minutesOfPlan_24 rfl (lv_at hl 0 rfl) ?_
  refine gf8_3 C hP hb (m8 hb hL) q413 dX9_minutesOfPlan_25 ?_
  refine lv_iload_n C.1 C.2.1 dX9_minutesOfPlan_28 rfl (lv_at hl 1 rfl) ?_
  refine z_ki hS (z_runV (As := [.ref (E.2.1 c3), .ref (E.2.1 ((b + 10))), .int p1]) (rest := []) C hP hS (m8_16 hb hL) (e4 (k8_16 hb)) rfl (tX5_perform C.2.2.2.2.2.2.1 (hL.mo (Nat.le_of_ble_eq_true rfl) (Nat.le_of_ble_eq_true rfl)) (k8_16 hb) hc3 (k8_10 hb) h) q1130 q1131 q1132 q113 q1133 hdX5_perform ⟨Nat.le_of_ble_eq_true rfl, Nat.le_of_ble_eq_true rfl⟩ ⟨Nat.le_of_ble_eq_true rfl, Nat.le_of_ble_eq_true rfl⟩ rfl hl.1 rfl (lv_room (Nat.le_of_ble_eq_true rfl)) dX9_minutesOfPlan_29) (fun r5 st4 H locs h hP hS => ?_)
  refine lv_pop C.1 C.2.1 dX9_minutesOfPlan_32 rfl ?_
  refine lv_aload_n C.1 C.2.1 dX9_minutesOfPlan_33 rfl (lv_at hl 0 rfl) ?_
  refine gf8_3 C hP hb (m8 hb hL) q413 dX9_minutesOfPlan_34 ?_
  refine z_ki hS (z_runV (As := []) (rest := []) C hP hS (m8_10 hb hL) (e2 (k8_10 hb)) rfl (tX2_minutesInAll C.2.2.2.2.2.2.1 (hL.mo (Nat.le_of_ble_eq_true rfl) (Nat.le_of_ble_eq_true rfl)) (k8_10 hb) h) q1295 q1296 q1297 q112 q1298 hdX2_minutesInAll ⟨Nat.le_of_ble_eq_true rfl, Nat.le_of_ble_eq_true rfl⟩ ⟨Nat.le_of_ble_eq_true rfl, Nat.le_of_ble_eq_true rfl⟩ rfl hl.1 rfl (lv_room (Nat.le_of_ble_eq_true rfl)) dX9_minutesOfPlan_37) (fun r7 st6 H locs h hP hS => ?_)
  refine lv_aload_n C.1 C.2.1 dX9_minutesOfPlan_40 rfl (lv_at hl 0 rfl) ?_
  refine gf8_2 C hP hb (m8 hb hL) q412 dX9_minutesOfPlan_41 ?_
  refine z_ki hS (z_runV (As := []) (rest := [.int r7]) C hP hS (m8_4 hb hL) (e2 (k8_4 hb)) rfl (tX2_minutesInAll C.2.2.2.2.2.2.1 (hL.mo (Nat.le_of_ble_eq_true rfl) (Nat.le_of_ble_eq_true rfl)) (k8_4 hb) h) q1295 q1296 q1297 q112 q1298 hdX2_minutesInAll ⟨Nat.le_of_ble_eq_true rfl, Nat.le_of_ble_eq_true rfl⟩ ⟨Nat.le_of_ble_eq_true rfl, Nat.le_of_ble_eq_true rfl⟩ rfl hl.1 rfl (lv_room (Nat.le_of_ble_eq_true rfl)) dX9_minutesOfPlan_44) (fun r9 st8 H locs h hP hS => ?_)
  refine lv_isub C.1 C.2.1 dX9_minutesOfPlan_47  ?_
  refine W.widen (k := rmX9_minutesOfPlan.cells) (n := rmX9_minutesOfPlan.slots) (Nat.le_of_ble_eq_true rfl) (Nat.le_of_ble_eq_true rfl) (vx_ret ?_)
  exact z_ri C hr hlk rfl hP hS h dX9_minutesOfPlan_48
def rmX9_bestPlan : Room := { frames := 7, cells := 1, slots := 6, locals := 164 }
def wX9_bestPlan_L123 (b : Nat) (R29 : Int32 × Int32 × Int32 × Int32 × St → Prop) (v1 : Int32) (v2 : Int32) (v3 : Int32) (v4 : Int32) (st : St) (Q : Int32 → St → Prop) (X : String → St → Prop) : Prop :=
  (∀ x14 : Int32, x14 = v4 + 1 → R29 (v1, v2, v3, x14, st))
def wX9_bestPlan_L114 (b : Nat) (R29 : Int32 × Int32 × Int32 × Int32 × St → Prop) (v4 : Int32) (v5 : Int32) (v6 : Int32) (st : St) (Q : Int32 → St → Prop) (X : String → St → Prop) : Prop :=
  wX9_bestPlan_L123 b R29 v4 v5 v6 v4 st Q X
def wX9_bestPlan_L29 (b : Nat)  (R29 : Int32 × Int32 × Int32 × Int32 × St → Prop) (v1 : Int32) (v2 : Int32) (v3 : Int32) (v4 : Int32) (st : St) (Q : Int32 → St → Prop) (X : String → St → Prop) : Prop :=
  (kd (gR st b 6) = 1 ∧ ∀ c2, c2 = gR st b 6 → (((gI st c2 9) ≤ v4 → Q v1 st) ∧ (¬ (gI st c2 9) ≤ v4 → (wX2_copyFrom (b + 10) ((b + 4)) st (fun st3 => (kd (gR st3 b 6) = 1 ∧ ∀ c4, c4 = gR st3 b 6 → (wX5_perform (b + 16) c4 ((b + 10)) v4 st3 (fun r6 st5 => (wX2_countFar (b + 10) st5 (fun r8 st7 => (wX2_minutesInAll (b + 10) st7 (fun r10 st9 => (wX2_minutesInAll (b + 4) st9 (fun r12 st11 => (∀ x13 : Int32, x13 = (r10 - r12) → ((v2 < r8 → wX9_bestPlan_L114 b R29 v4 r8 x13 st11 Q X) ∧ (¬ v2 < r8 → ((¬ r8 = v2 → wX9_bestPlan_L123 b R29 v1 v2 v3 v4 st11 Q X) ∧ (r8 = v2 → ((v3 ≤ x13 → wX9_bestPlan_L123 b R29 v1 v2 v3 v4 st11 Q X) ∧ (¬ v3 ≤ x13 → wX9_bestPlan_L114 b R29 v4 r8 x13 st11 Q X)))))))))))))))))))))
def wX9_bestPlan (b : Nat) (st : St) (Q : Int32 → St → Prop) (X : String → St → Prop) : Prop :=
  (kd (gR st b 6) = 1 ∧ ∀ c1, c1 = gR st b 6 → ((¬ (gI st c1 9) = 0 → (∃ n, lp (fun R s => wX9_bestPlan_L29 b R s.1 s.2.1 s.2.2.1 s.2.2.2.1 s.2.2.2.2 Q X) n (0, (-1), 0, 0, st))) ∧ ((gI st c1 9) = 0 → X "java/lang/IllegalStateException" st)))
theorem hdX9_bestPlan : yX9_bestPlan.cls = "PlankBridge" ∧ yX9_bestPlan.cls ≠ "java/lang/invoke/MethodHandle" ∧ yX9_bestPlan.cls ≠ "java/lang/invoke/VarHandle" ∧ (parseMethodDescriptor yX9_bestPlan.desc).map (fun d => d.parameters.length) = some 0 := by decide +kernel
set_option maxHeartbeats 4000000 in
set_option maxRecDepth 100000 in
theorem tX9_bestPlan_L123 {l : Launch} {p : Program} {e : Env} {s : State} {m : MethodId} {args : Array Value} {below : List Frame} {meth : Method} {c : Code} {E : En0} {L : List Nat} (hL : Cov 0 54 L) (C : Cx E L "PlankBridge" cX9_bestPlan 7 p s m args c) (hr : meth.sig.returnType = (some .int)) (hlk : meth.locks = false) (hfl : l.stackTraces = false) (htab : ∀ x ∈ c.exceptionTable.toList, False) {b : Nat} {Q : Int32 → St → Prop} {X : String → St → Prop} (hb : kd b = 8) {R29 : Int32 × Int32 × Int32 × Int32 × St → Prop} (hR29 : ∀ (v1 : Int32) (v2 : Int32) (v3 : Int32) (v4 : Int32) (st : St), ∀ (H : Heap) (locs : List Loc) (ls : Array Slot), R29 (v1, v2, v3, v4, st) → lv_has ls 7 [(0, .ref (E.2.1 b)), (1, .int v1), (2, .int v2), (3, .int v3), (4, .int v4)] → va_P E.1 vwCl (wd E L st) H → va_S (fA E L s.heap.size) s.heap H locs → W p l e rmX9_bestPlan s m args below meth c H locs 0 0 (vx_MQ below (zI E L Q (fA E L s.heap.size)) (zX E L X (fA E L s.heap.size)) args s rmX9_bestPlan.cells rmX9_bestPlan.slots (fA E L s.heap.size)) (F0 m 29 ls [])) {v1 : Int32} {v2 : Int32} {v3 : Int32} {v4 : Int32}  {st : St} (H : Heap) (locs : List Loc) (ls : Array Slot) (h : wX9_bestPlan_L123 b R29 v1 v2 v3 v4 st Q X) (hl : lv_has ls 7 [(0, .ref (E.2.1 b)), (1, .int v1), (2, .int v2), (3, .int v3), (4, .int v4)]) (hP : va_P E.1 vwCl (wd E L st) H) (hS : va_S (fA E L s.heap.size) s.heap H locs) : W p l e rmX9_bestPlan s m args below meth c H locs 0 0 (vx_MQ below (zI E L Q (fA E L s.heap.size)) (zX E L X (fA E L s.heap.size)) args s rmX9_bestPlan.cells rmX9_bestPlan.slots (fA E L s.heap.size)) (F0 m 123 ls []) := by
  unfold wX9_bestPlan_L123 at h
  obtain ⟨x14, ex14⟩ : ∃ z, z = v4 + 1 := ⟨_, rfl⟩
  have h := h x14 ex14
  refine lv_iinc C.1 C.2.1 dX9_bestPlan_123 hl (k := 4) rfl ex14.symm (Nat.le_of_ble_eq_true rfl) rfl (fun ls hl => ?_)
  have hl : lv_has ls 7 [(4, .int x14), (0, .ref (E.2.1 b)), (1, .int v1), (2, .int v2), (3, .int v3)] := hl
  refine lv_goto C.1 C.2.1 (tgt := 29) dX9_bestPlan_126 (by decide) ?_
  exact hR29 v1 v2 v3 x14 st _ _ _ h (lv_sub hl [1, 2, 3, 4, 0] rfl) hP hS
set_option maxHeartbeats 4000000 in
set_option maxRecDepth 100000 in
theorem tX9_bestPlan_L114 {l : Launch} {p : Program} {e : Env} {s : State} {m : MethodId} {args : Array Value} {below : List Frame} {meth : Method} {c : Code} {E : En0} {L : List Nat} (hL : Cov 0 54 L) (C : Cx E L "PlankBridge" cX9_bestPlan 7 p s m args c) (hr : meth.sig.returnType = (some .int)) (hlk : meth.locks = false) (hfl : l.stackTraces = false) (htab : ∀ x ∈ c.exceptionTable.toList, False) {b : Nat} {Q : Int32 → St → Prop} {X : String → St → Prop} (hb : kd b = 8) {R29 : Int32 × Int32 × Int32 × Int32 × St → Prop} (hR29 : ∀ (v1 : Int32) (v2 : Int32) (v3 : Int32) (v4 : Int32) (st : St), ∀ (H : Heap) (locs : List Loc) (ls : Array Slot), R29 (v1, v2, v3, v4, st) → lv_has ls 7 [(0, .ref (E.2.1 b)), (1, .int v1), (2, .int v2), (3, .int v3), (4, .int v4)] → va_P E.1 vwCl (wd E L st) H → va_S (fA E L s.heap.size) s.heap H locs → W p l e rmX9_bestPlan s m args below meth c H locs 0 0 (vx_MQ below (zI E L Q (fA E L s.heap.size)) (zX E L X (fA E L s.heap.size)) args s rmX9_bestPlan.cells rmX9_bestPlan.slots (fA E L s.heap.size)) (F0 m 29 ls [])) {v4 : Int32} {v5 : Int32} {v6 : Int32}  {st : St} (H : Heap) (locs : List Loc) (ls : Array Slot) (h : wX9_bestPlan_L114 b R29 v4 v5 v6 st Q X) (hl : lv_has ls 7 [(0, .ref (E.2.1 b)), (4, .int v4), (5, .int v5), (6, .int v6)]) (hP : va_P E.1 vwCl (wd E L st) H) (hS : va_S (fA E L s.heap.size) s.heap H locs) : W p l e rmX9_bestPlan s m args below meth c H locs 0 0 (vx_MQ below (zI E L Q (fA E L s.heap.size)) (zX E L X (fA E L s.heap.size)) args s rmX9_bestPlan.cells rmX9_bestPlan.slots (fA E L s.heap.size)) (F0 m 114 ls []) := by
  unfold wX9_bestPlan_L114 at h
  refine lv_iload C.1 C.2.1 dX9_bestPlan_114 (lv_at hl 1 rfl) ?_
  refine lv_istore_n C.1 C.2.1 dX9_bestPlan_116 rfl hl (Nat.le_of_ble_eq_true rfl) rfl (fun ls hl => ?_)
  have hl : lv_has ls 7 [(1, .int v4), (0, .ref (E.2.1 b)), (4, .int v4), (5, .int v5), (6, .int v6)] := hl
  refine lv_iload C.1 C.2.1 dX9_bestPlan_117 (lv_at hl 3 rfl) ?_
  refine lv_istore_n C.1 C.2.1 dX9_bestPlan_119 rfl hl (Nat.le_of_ble_eq_true rfl) rfl (fun ls hl => ?_)
  have hl : lv_has ls 7 [(2, .int v5), (1, .int v4), (0, .ref (E.2.1 b)), (4, .int v4), (5, .int v5), (6, .int v6)] := hl
  refine lv_iload C.1 C.2.1 dX9_bestPlan_120 (lv_at hl 5 rfl) ?_
  refine lv_istore_n C.1 C.2.1 dX9_bestPlan_122 rfl hl (Nat.le_of_ble_eq_true rfl) rfl (fun ls hl => ?_)
  have hl : lv_has ls 7 [(3, .int v6), (2, .int v5), (1, .int v4), (0, .ref (E.2.1 b)), (4, .int v4), (5, .int v5), (6, .int v6)] := hl
  exact tX9_bestPlan_L123 hL C hr hlk hfl htab hb hR29 _ _ _ h (lv_sub hl [3, 2, 1, 0, 4] rfl) hP hS
set_option maxHeartbeats 4000000 in
set_option maxRecDepth 100000 in
theorem tX9_bestPlan_L29 {l : Launch} {p : Program} {e : Env} {s : State} {m : MethodId} {args : Array Value} {below : List Frame} {meth : Method} {c : Code} {E : En0} {L : List Nat} (hL : Cov 0 54 L) (C : Cx E L "PlankBridge" cX9_bestPlan 7 p s m args c) (hr : meth.sig.returnType = (some .int)) (hlk : meth.locks = false) (hfl : l.stackTraces = false) (htab : ∀ x ∈ c.exceptionTable.toList, False) {b : Nat} {Q : Int32 → St → Prop} {X : String → St → Prop} (hb : kd b = 8) : ∀ (n : Nat) (v1 : Int32) (v2 : Int32) (v3 : Int32) (v4 : Int32) (st : St) (H : Heap) (locs : List Loc) (ls : Array Slot), lp (fun R s => wX9_bestPlan_L29 b R s.1 s.2.1 s.2.2.1 s.2.2.2.1 s.2.2.2.2 Q X) n (v1, v2, v3, v4, st) → lv_has ls 7 [(0, .ref (E.2.1 b)), (1, .int v1), (2, .int v2), (3, .int v3), (4, .int v4)] → va_P E.1 vwCl (wd E L st) H → va_S (fA E L s.heap.size) s.heap H locs → W p l e rmX9_bestPlan s m args below meth c H locs 0 0 (vx_MQ below (zI E L Q (fA E L s.heap.size)) (zX E L X (fA E L s.heap.size)) args s rmX9_bestPlan.cells rmX9_bestPlan.slots (fA E L s.heap.size)) (F0 m 29 ls []) := by
  intro n
  induction n with
  | zero => exact fun _ _ _ _ _ _ _ _ h _ _ _ => False.elim ‹_›
  | succ n ih =>
    intro v1 v2 v3 v4 st  H locs ls h hl hP hS
    have hR29 := ih
    replace h : wX9_bestPlan_L29 b (lp (fun R s => wX9_bestPlan_L29 b R s.1 s.2.1 s.2.2.1 s.2.2.2.1 s.2.2.2.2 Q X) n) v1 v2 v3 v4 st Q X := h
    unfold wX9_bestPlan_L29 at h
    refine lv_iload C.1 C.2.1 dX9_bestPlan_29 (lv_at hl 4 rfl) ?_
    refine lv_aload_n C.1 C.2.1 dX9_bestPlan_31 rfl (lv_at hl 0 rfl) ?_
    refine gf8_6 C hP hb (m8 hb hL) q416 dX9_bestPlan_32 ?_
    obtain ⟨hc2, h⟩ := h
    obtain ⟨c2, ec2⟩ : ∃ z, z = gR st b 6 := ⟨_, rfl⟩
    rw [← ec2]; rw [← ec2] at hc2; have h := h c2 ec2
    refine gn1_9 C hP hc2 (m1 hc2 hL) q209 dX9_bestPlan_35 ?_
    refine lv_icmp_ge C.1 C.2.1 (tgt := 129) dX9_bestPlan_38 (by decide) (fun hc => ?_) (fun hc => ?_)
    · have h := h.1 hc
      refine lv_iload_n C.1 C.2.1 dX9_bestPlan_129 rfl (lv_at hl 1 rfl) ?_
      refine W.widen (k := rmX9_bestPlan.cells) (n := rmX9_bestPlan.slots) (Nat.le_of_ble_eq_true rfl) (Nat.le_of_ble_eq_true rfl) (vx_ret ?_)
      exact z_ri C hr hlk rfl hP hS h dX9_bestPlan_130
    · have h := h.2 hc
      refine lv_aload_n C.1 C.2.1 dX9_bestPlan_41 rfl (lv_at hl 0 rfl) ?_
      refine gf8_3 C hP hb (m8 hb hL) q413 dX9_bestPlan_42 ?_
      refine lv_aload_n C.1 C.2.1 dX9_bestPlan_45 rfl (lv_at hl 0 rfl) ?_
      refine gf8_2 C hP hb (m8 hb hL) q412 dX9_bestPlan_46 ?_
      refine z_kv hS (z_runV (As := [.ref (E.2.1 ((b + 4)))]) (rest := []) C hP hS (m8_10 hb hL) (e2 (k8_10 hb)) rfl (tX2_copyFrom C.2.2.2.2.2.2.1 (hL.mo (Nat.le_of_ble_eq_true rfl) (Nat.le_of_ble_eq_true rfl)) (k8_10 hb) (k8_4 hb) h) q1235 q1236 q1237 q112 q1238 hdX2_copyFrom ⟨Nat.le_of_ble_eq_true rfl, Nat.le_of_ble_eq_true rfl⟩ ⟨Nat.le_of_ble_eq_true rfl, Nat.le_of_ble_eq_true rfl⟩ rfl hl.1 rfl (lv_room (Nat.le_of_ble_eq_true rfl)) dX9_bestPlan_49) (fun st3 H locs h hP hS => ?_)
      refine lv_aload_n C.1 C.2.1 dX9_bestPlan_52 rfl (lv_at hl 0 rfl) ?_
      refine gf8_4 C hP hb (m8 hb hL) q414 dX9_bestPlan_53 ?_
      refine lv_aload_n C.1 C.2.1 dX9_bestPlan_56 rfl (lv_at hl 0 rfl) ?_
      refine gf8_6 C hP hb (m8 hb hL) q416 dX9_bestPlan_57 ?_
      obtain ⟨hc4, h⟩ := h
      obtain ⟨c4, ec4⟩ : ∃ z, z = gR st3 b 6 := ⟨_, rfl⟩
      rw [← ec4]; rw [← ec4] at hc4; have h := h c4 ec4
      refine lv_aload_n C.1 C.2.1 dX9_bestPlan_60 rfl (lv_at hl 0 rfl) ?_
      refine gf8_3 C hP hb (m8 hb hL) q413 dX9_bestPlan_61 ?_
      refine lv_iload C.1 C.2.1 dX9_bestPlan_64 (lv_at hl 4 rfl) ?_
      refine z_ki hS (z_runV (As := [.ref (E.2.1 c4), .ref (E.2.1 ((b + 10))), .int v4]) (rest := []) C hP hS (m8_16 hb hL) (e4 (k8_16 hb)) rfl (tX5_perform C.2.2.2.2.2.2.1 (hL.mo (Nat.le_of_ble_eq_true rfl) (Nat.le_of_ble_eq_true rfl)) (k8_16 hb) hc4 (k8_10 hb) h) q1130 q1131 q1132 q113 q1133 hdX5_perform ⟨Nat.le_of_ble_eq_true rfl, Nat.le_of_ble_eq_true rfl⟩ ⟨Nat.le_of_ble_eq_true rfl, Nat.le_of_ble_eq_true rfl⟩ rfl hl.1 rfl (lv_room (Nat.le_of_ble_eq_true rfl)) dX9_bestPlan_66) (fun r6 st5 H locs h hP hS => ?_)
      refine lv_pop C.1 C.2.1 dX9_bestPlan_69 rfl ?_
      refine lv_aload_n C.1 C.2.1 dX9_bestPlan_70 rfl (lv_at hl 0 rfl) ?_
      refine gf8_3 C hP hb (m8 hb hL) q413 dX9_bestPlan_71 ?_
      refine z_ki hS (z_runV (As := []) (rest := []) C hP hS (m8_10 hb hL) (e2 (k8_10 hb)) rfl (tX2_countFar C.2.2.2.2.2.2.1 (hL.mo (Nat.le_of_ble_eq_true rfl) (Nat.le_of_ble_eq_true rfl)) (k8_10 hb) h) q1287 q1188 q1189 q112 q1190 hdX2_countFar ⟨Nat.le_of_ble_eq_true rfl, Nat.le_of_ble_eq_true rfl⟩ ⟨Nat.le_of_ble_eq_true rfl, Nat.le_of_ble_eq_true rfl⟩ rfl hl.1 rfl (lv_room (Nat.le_of_ble_eq_true rfl)) dX9_bestPlan_74) (fun r8 st7 H locs h hP hS => ?_)
      refine lv_istore C.1 C.2.1 dX9_bestPlan_77 hl (Nat.le_of_ble_eq_true rfl) rfl (fun ls hl => ?_)
      have hl : lv_has ls 7 [(5, .int r8), (0, .ref (E.2.1 b)), (1, .int v1), (2, .int v2), (3, .int v3), (4, .int v4)] := hl
      refine lv_aload_n C.1 C.2.1 dX9_bestPlan_79 rfl (lv_at hl 1 rfl) ?_
      refine gf8_3 C hP hb (m8 hb hL) q413 dX9_bestPlan_80 ?_
      refine z_ki hS (z_runV (As := []) (rest := []) C hP hS (m8_10 hb hL) (e2 (k8_10 hb)) rfl (tX2_minutesInAll C.2.2.2.2.2.2.1 (hL.mo (Nat.le_of_ble_eq_true rfl) (Nat.le_of_ble_eq_true rfl)) (k8_10 hb) h) q1295 q1296 q1297 q112 q1298 hdX2_minutesInAll ⟨Nat.le_of_ble_eq_true rfl, Nat.le_of_ble_eq_true rfl⟩ ⟨Nat.le_of_ble_eq_true rfl, Nat.le_of_ble_eq_true rfl⟩ rfl hl.1 rfl (lv_room (Nat.le_of_ble_eq_true rfl)) dX9_bestPlan_83) (fun r10 st9 H locs h hP hS => ?_)
      refine lv_aload_n C.1 C.2.1 dX9_bestPlan_86 rfl (lv_at hl 1 rfl) ?_
      refine gf8_2 C hP hb (m8 hb hL) q412 dX9_bestPlan_87 ?_
      refine z_ki hS (z_runV (As := []) (rest := [.int r10]) C hP hS (m8_4 hb hL) (e2 (k8_4 hb)) rfl (tX2_minutesInAll C.2.2.2.2.2.2.1 (hL.mo (Nat.le_of_ble_eq_true rfl) (Nat.le_of_ble_eq_true rfl)) (k8_4 hb) h) q1295 q1296 q1297 q112 q1298 hdX2_minutesInAll ⟨Nat.le_of_ble_eq_true rfl, Nat.le_of_ble_eq_true rfl⟩ ⟨Nat.le_of_ble_eq_true rfl, Nat.le_of_ble_eq_true rfl⟩ rfl hl.1 rfl (lv_room (Nat.le_of_ble_eq_true rfl)) dX9_bestPlan_90) (fun r12 st11 H locs h hP hS => ?_)
      refine lv_isub C.1 C.2.1 dX9_bestPlan_93  ?_
      refine lv_topi (fun x13 ex13 => ?_)
      have h := h x13 ex13
      refine lv_istore C.1 C.2.1 dX9_bestPlan_94 hl (Nat.le_of_ble_eq_true rfl) rfl (fun ls hl => ?_)
      have hl : lv_has ls 7 [(6, .int x13), (5, .int r8), (0, .ref (E.2.1 b)), (1, .int v1), (2, .int v2), (3, .int v3), (4, .int v4)] := hl
      refine lv_iload C.1 C.2.1 dX9_bestPlan_96 (lv_at hl 1 rfl) ?_
      refine lv_iload_n C.1 C.2.1 dX9_bestPlan_98 rfl (lv_at hl 4 rfl) ?_
      refine lv_icmp_gt C.1 C.2.1 (tgt := 114) dX9_bestPlan_99 (by decide) (fun hc => ?_) (fun hc => ?_)
      · have h := h.1 hc
        exact tX9_bestPlan_L114 hL C hr hlk hfl htab hb hR29 _ _ _ h (lv_sub hl [2, 6, 1, 0] rfl) hP hS
      · have h := h.2 hc
        refine lv_iload C.1 C.2.1 dX9_bestPlan_102 (lv_at hl 1 rfl) ?_
        refine lv_iload_n C.1 C.2.1 dX9_bestPlan_104 rfl (lv_at hl 4 rfl) ?_
        refine lv_icmp_ne C.1 C.2.1 (tgt := 123) dX9_bestPlan_105 (by decide) (fun hc => ?_) (fun hc => ?_)
        · have h := h.1 hc
          exact tX9_bestPlan_L123 hL C hr hlk hfl htab hb hR29 _ _ _ h (lv_sub hl [2, 3, 4, 5, 6] rfl) hP hS
        · have h := h.2 hc
          refine lv_iload C.1 C.2.1 dX9_bestPlan_108 (lv_at hl 0 rfl) ?_
          refine lv_iload_n C.1 C.2.1 dX9_bestPlan_110 rfl (lv_at hl 5 rfl) ?_
          refine lv_icmp_ge C.1 C.2.1 (tgt := 123) dX9_bestPlan_111 (by decide) (fun hc => ?_) (fun hc => ?_)
          · have h := h.1 hc
            exact tX9_bestPlan_L123 hL C hr hlk hfl htab hb hR29 _ _ _ h (lv_sub hl [2, 3, 4, 5, 6] rfl) hP hS
          · have h := h.2 hc
            exact tX9_bestPlan_L114 hL C hr hlk hfl htab hb hR29 _ _ _ h (lv_sub hl [2, 6, 1, 0] rfl) hP hS
set_option maxHeartbeats 4000000 in
set_option maxRecDepth 100000 in
theorem tX9_bestPlan {l : Launch} {E : En0} {L : List Nat} (hE : EK E L) (hL : Cov 0 54 L) {b : Nat} {st : St} {Q : Int32 → St → Prop} {X : String → St → Prop} (hb : kd b = 8) (hfl : l.stackTraces = false) (h : wX9_bestPlan b st Q X) : Mx l yX9_bestPlan cX9_bestPlan 7 (some .int) rmX9_bestPlan E L [.ref (E.2.1 b)] st (zI E L Q) X := by
  refine Mx.of hE (by decide) (Nat.le_of_ble_eq_true rfl) ?_
  intro p e s m below meth c ls C hr hlk htab hl hP
  replace C : Cx E L "PlankBridge" cX9_bestPlan 7 p s m _ c := C
  have hS : va_S (fA E L s.heap.size) s.heap s.heap [] := va_S.rf
  replace hl : lv_has ls 7 [(0, .ref (E.2.1 b))] := hl
  unfold wX9_bestPlan at h
  refine lv_aload_n C.1 C.2.1 dX9_bestPlan_0 rfl (lv_at hl 0 rfl) ?_
  refine gf8_6 C hP hb (m8 hb hL) q416 dX9_bestPlan_1 ?_
  obtain ⟨hc1, h⟩ := h
  obtain ⟨c1, ec1⟩ : ∃ z, z = gR st b 6 := ⟨_, rfl⟩
  rw [← ec1]; rw [← ec1] at hc1; have h := h c1 ec1
  refine gn1_9 C hP hc1 (m1 hc1 hL) q209 dX9_bestPlan_4 ?_
  refine lv_if_ne C.1 C.2.1 (tgt := 20) dX9_bestPlan_7 (by decide) (fun hc => ?_) (fun hc => ?_)
  · have h := h.1 hc
    refine lv_iconst C.1 C.2.1 (v := 0) dX9_bestPlan_20 rfl ?_
    refine lv_istore_n C.1 C.2.1 dX9_bestPlan_21 rfl hl (Nat.le_of_ble_eq_true rfl) rfl (fun ls hl => ?_)
    have hl : lv_has ls 7 [(1, .int 0), (0, .ref (E.2.1 b))] := hl
    refine lv_iconst C.1 C.2.1 (v := (-1)) dX9_bestPlan_22 rfl ?_
    refine lv_istore_n C.1 C.2.1 dX9_bestPlan_23 rfl hl (Nat.le_of_ble_eq_true rfl) rfl (fun ls hl => ?_)
    have hl : lv_has ls 7 [(2, .int (-1)), (1, .int 0), (0, .ref (E.2.1 b))] := hl
    refine lv_iconst C.1 C.2.1 (v := 0) dX9_bestPlan_24 rfl ?_
    refine lv_istore_n C.1 C.2.1 dX9_bestPlan_25 rfl hl (Nat.le_of_ble_eq_true rfl) rfl (fun ls hl => ?_)
    have hl : lv_has ls 7 [(3, .int 0), (2, .int (-1)), (1, .int 0), (0, .ref (E.2.1 b))] := hl
    refine lv_iconst C.1 C.2.1 (v := 0) dX9_bestPlan_26 rfl ?_
    refine lv_istore C.1 C.2.1 dX9_bestPlan_27 hl (Nat.le_of_ble_eq_true rfl) rfl (fun ls hl => ?_)
    have hl : lv_has ls 7 [(4, .int 0), (3, .int 0), (2, .int (-1)), (1, .int 0), (0, .ref (E.2.1 b))] := hl
    obtain ⟨n, h⟩ := h
    exact tX9_bestPlan_L29 hL C hr hlk hfl htab hb n 0 (-1) 0 0 st _ _ _ h (lv_sub hl [4, 3, 2, 1, 0] rfl) hP hS
  · have h := h.2 hc
    exact z_throw C hfl htab hlk hP hS hl.1 (text := "there are no plans") (by decide) q857 q121 (by decide +kernel) xw_ise dX9_bestPlan_10 dX9_bestPlan_13 dX9_bestPlan_14 dX9_bestPlan_16 dX9_bestPlan_19 (Nat.le_of_ble_eq_true rfl) (Nat.le_of_ble_eq_true rfl) (Nat.le_of_ble_eq_true rfl) (Nat.le_of_ble_eq_true rfl) h (Nat.le_of_ble_eq_true rfl) (Nat.le_of_ble_eq_true rfl)
def rmX9_oneIf : Room := { frames := 0, cells := 0, slots := 0, locals := 0 }
def wX9_oneIf (p1 : Int32) (st : St) (Q : Int32 → St → Prop) : Prop :=
  ((p1 = 0 → Q 0 st) ∧ (¬ p1 = 0 → Q 1 st))
theorem hdX9_oneIf : yX9_oneIf.cls ≠ "java/lang/invoke/MethodHandle" ∧ yX9_oneIf.cls ≠ "java/lang/invoke/VarHandle" ∧ (parseMethodDescriptor yX9_oneIf.desc).map (fun d => d.parameters.length) = some 1 := by decide +kernel
set_option maxHeartbeats 4000000 in
set_option maxRecDepth 100000 in
theorem tX9_oneIf {l : Launch} {E : En0} {L : List Nat} (hE : EK E L) (hL : Cov 0 54 L) {p1 : Int32} {st : St} {Q : Int32 → St → Prop}  (h : wX9_oneIf p1 st Q) : Mz l yX9_oneIf cX9_oneIf 1 (some .int) rmX9_oneIf E L [.int p1] st (zI E L Q) := by
  refine Mz.of hE (by decide) (Nat.le_of_ble_eq_true rfl) ?_
  intro p e s m below meth c ls C hr hlk _ hl hP
  replace C : Cx E L "PlankBridge" cX9_oneIf 1 p s m _ c := C
  have hS : va_S (fA E L s.heap.size) s.heap s.heap [] := va_S.rf
  replace hl : lv_has ls 1 [(0, .int p1)] := hl
  unfold wX9_oneIf at h
  refine lv_iload_n C.1 C.2.1 dX9_oneIf_0 rfl (lv_at hl 0 rfl) ?_
  refine lv_if_eq C.1 C.2.1 (tgt := 8) dX9_oneIf_1 (by decide) (fun hc => ?_) (fun hc => ?_)
  · have h := h.1 hc
    refine lv_iconst C.1 C.2.1 (v := 0) dX9_oneIf_8 rfl ?_
    exact z_ri C hr hlk rfl hP hS h dX9_oneIf_9
  · have h := h.2 hc
    refine lv_iconst C.1 C.2.1 (v := 1) dX9_oneIf_4 rfl ?_
    refine lv_goto C.1 C.2.1 (tgt := 9) dX9_oneIf_5 (by decide) ?_
    exact z_ri C hr hlk rfl hP hS h dX9_oneIf_9
def rmX9_digestRows : Room := { frames := 2, cells := 0, slots := 0, locals := 42 }
def wX9_digestRows_L159 (b : Nat) (p1 : Int64)  (R159 : Int64 × Int32 × St → Prop) (v3 : Int64) (v5 : Int32) (st : St) (Q : Int64 → St → Prop) : Prop :=
  ((10 ≤ v5 → Q v3 st) ∧ (¬ 10 ≤ v5 → (((gI st (b + 4) 13) ≤ v5 → Q v3 st) ∧ (¬ (gI st (b + 4) 13) ≤ v5 → (wX2_readNote (b + 4) v5 st (fun r18 st17 => (∀ x19 : Int64, x19 = ((v3 * 31) + ((r18 : Int32).toInt64)) → (∀ x20 : Int32, x20 = v5 + 1 → R159 (x19, x20, st17)))))))))
def wX9_digestRows_L82 (b : Nat) (p1 : Int64)  (R82 : Int64 × Int32 × St → Prop) (v3 : Int64) (v5 : Int32) (st : St) (Q : Int64 → St → Prop) : Prop :=
  (((gI st (b + 4) 4) ≤ v5 → (∃ n, lp (fun R s => wX9_digestRows_L159 b p1 R s.1 s.2.1 s.2.2 Q) n (v3, 0, st))) ∧ (¬ (gI st (b + 4) 4) ≤ v5 → (vp_in v5 12 ∧ (∀ x9 : Int64, x9 = ((v3 * 31) + ((gI st ((b + 4) + 3) (v5 : Int32).toNatClampNeg : Int32).toInt64)) → (wX2_loadOf (b + 4) v5 st (fun r11 st10 => (∀ x12 : Int64, x12 = ((x9 * 31) + ((r11 : Int32).toInt64)) → (vp_in v5 12 ∧ (wX9_oneIf (gI st10 ((b + 4) + 4) (v5 : Int32).toNatClampNeg) st10 (fun r14 st13 => (∀ x15 : Int64, x15 = ((x12 * 31) + ((r14 : Int32).toInt64)) → (∀ x16 : Int32, x16 = v5 + 1 → R82 (x15, x16, st13)))))))))))))
def wX9_digestRows_L5 (b : Nat) (p1 : Int64)  (R5 : Int64 × Int32 × St → Prop) (v3 : Int64) (v5 : Int32) (st : St) (Q : Int64 → St → Prop) : Prop :=
  (((gI st (b + 4) 0) ≤ v5 → (∃ n, lp (fun R s => wX9_digestRows_L82 b p1 R s.1 s.2.1 s.2.2 Q) n (v3, 0, st))) ∧ (¬ (gI st (b + 4) 0) ≤ v5 → (vp_in v5 8 ∧ (∀ x1 : Int64, x1 = ((v3 * 31) + ((gI st ((b + 4) + 1) (v5 : Int32).toNatClampNeg : Int32).toInt64)) → (vp_in v5 8 ∧ (∀ x2 : Int64, x2 = ((x1 * 31) + ((gI st ((b + 4) + 2) (v5 : Int32).toNatClampNeg : Int32).toInt64)) → (wX2_standsNear (b + 4) v5 st (fun r4 st3 => (wX9_oneIf r4 st3 (fun r6 st5 => (∀ x7 : Int64, x7 = ((x2 * 31) + ((r6 : Int32).toInt64)) → (∀ x8 : Int32, x8 = v5 + 1 → R5 (x7, x8, st5)))))))))))))
def wX9_digestRows (b : Nat) (p1 : Int64) (st : St) (Q : Int64 → St → Prop) : Prop :=
  (∃ n, lp (fun R s => wX9_digestRows_L5 b p1 R s.1 s.2.1 s.2.2 Q) n (p1, 0, st))
theorem hdX9_digestRows : yX9_digestRows.cls = "PlankBridge" ∧ yX9_digestRows.cls ≠ "java/lang/invoke/MethodHandle" ∧ yX9_digestRows.cls ≠ "java/lang/invoke/VarHandle" ∧ (parseMethodDescriptor yX9_digestRows.desc).map (fun d => d.parameters.length) = some 1 := by decide +kernel
set_option maxHeartbeats 4000000 in
set_option maxRecDepth 100000 in
theorem tX9_digestRows_L159 {l : Launch} {p : Program} {e : Env} {s : State} {m : MethodId} {args : Array Value} {below : List Frame} {meth : Method} {c : Code} {E : En0} {L : List Nat} (hL : Cov 0 54 L) (C : Cx E L "PlankBridge" cX9_digestRows 6 p s m args c) (hr : meth.sig.returnType = (some .long)) (hlk : meth.locks = false) {b : Nat} {p1 : Int64} {Q : Int64 → St → Prop} (hb : kd b = 8) : ∀ (n : Nat) (v3 : Int64) (v5 : Int32) (st : St) (H : Heap) (locs : List Loc) (ls : Array Slot), lp (fun R s => wX9_digestRows_L159 b p1 R s.1 s.2.1 s.2.2 Q) n (v3, v5, st) → lv_has ls 6 [(0, .ref (E.2.1 b)), (3, .long v3), (5, .int v5)] → va_P E.1 vwCl (wd E L st) H → va_S (fA E L s.heap.size) s.heap H locs → W p l e rmX9_digestRows s m args below meth c H locs 0 0 (MQ below (zJ E L Q (fA E L s.heap.size)) args s rmX9_digestRows.cells rmX9_digestRows.slots (fA E L s.heap.size)) (F0 m 159 ls []) := by
  intro n
  induction n with
  | zero => exact fun _ _ _ _ _ _ h _ _ _ => False.elim ‹_›
  | succ n ih =>
    intro v3 v5 st  H locs ls h hl hP hS
    have hR159 := ih
    replace h : wX9_digestRows_L159 b p1 (lp (fun R s => wX9_digestRows_L159 b p1 R s.1 s.2.1 s.2.2 Q) n) v3 v5 st Q := h
    unfold wX9_digestRows_L159 at h
    refine lv_iload C.1 C.2.1 dX9_digestRows_159 (lv_at hl 2 rfl) ?_
    refine lv_bipush C.1 C.2.1 (v := 10) dX9_digestRows_161 rfl ?_
    refine lv_icmp_ge C.1 C.2.1 (tgt := 201) dX9_digestRows_163 (by decide) (fun hc => ?_) (fun hc => ?_)
    · have h := h.1 hc
      refine lv_lload_n C.1 C.2.1 dX9_digestRows_201 rfl (lv_at hl 1 rfl) ?_
      exact z_rj C hr hlk hP hS h dX9_digestRows_202
    · have h := h.2 hc
      refine lv_iload C.1 C.2.1 dX9_digestRows_166 (lv_at hl 2 rfl) ?_
      refine lv_aload_n C.1 C.2.1 dX9_digestRows_168 rfl (lv_at hl 0 rfl) ?_
      refine gf8_2 C hP hb (m8 hb hL) q412 dX9_digestRows_169 ?_
      refine gn2_13 C hP (k8_4 hb) (m8_4 hb hL) q319 dX9_digestRows_172 ?_
      refine lv_icmp_ge C.1 C.2.1 (tgt := 201) dX9_digestRows_175 (by decide) (fun hc => ?_) (fun hc => ?_)
      · have h := h.1 hc
        refine lv_lload_n C.1 C.2.1 dX9_digestRows_201 rfl (lv_at hl 1 rfl) ?_
        exact z_rj C hr hlk hP hS h dX9_digestRows_202
      · have h := h.2 hc
        refine lv_lload_n C.1 C.2.1 dX9_digestRows_178 rfl (lv_at hl 1 rfl) ?_
        refine lv_ldc2 C.1 C.2.1 C.2.2.2.1 (C.T q824) dX9_digestRows_179 ?_
        refine lv_lmul C.1 C.2.1 dX9_digestRows_182 ?_
        refine lv_aload_n C.1 C.2.1 dX9_digestRows_183 rfl (lv_at hl 0 rfl) ?_
        refine gf8_2 C hP hb (m8 hb hL) q412 dX9_digestRows_184 ?_
        refine lv_iload C.1 C.2.1 dX9_digestRows_187 (lv_at hl 2 rfl) ?_
        refine z_ki hS (z_runV (As := [.int v5]) (rest := [.long (v3 * 31)]) C hP hS (m8_4 hb hL) (e2 (k8_4 hb)) rfl (tX2_readNote C.2.2.2.2.2.2.1 (hL.mo (Nat.le_of_ble_eq_true rfl) (Nat.le_of_ble_eq_true rfl)) (k8_4 hb) h) q841 q842 q843 q112 q844 hdX2_readNote ⟨Nat.le_of_ble_eq_true rfl, Nat.le_of_ble_eq_true rfl⟩ ⟨Nat.zero_le _, Nat.zero_le _⟩ rfl hl.1 rfl (lv_room (Nat.le_of_ble_eq_true rfl)) dX9_digestRows_189) (fun r18 st17 H locs h hP hS => ?_)
        refine t_i2l C.1 C.2.1 dX9_digestRows_192 rfl ?_
        refine lv_ladd C.1 C.2.1 dX9_digestRows_193 ?_
        refine lv_topl (fun x19 ex19 => ?_)
        have h := h x19 ex19
        refine lv_lstore_n C.1 C.2.1 dX9_digestRows_194 rfl hl (Nat.le_of_ble_eq_true rfl) rfl (fun ls hl => ?_)
        have hl : lv_has ls 6 [(3, .long x19), (0, .ref (E.2.1 b)), (5, .int v5)] := hl
        obtain ⟨x20, ex20⟩ : ∃ z, z = v5 + 1 := ⟨_, rfl⟩
        have h := h x20 ex20
        refine lv_iinc C.1 C.2.1 dX9_digestRows_195 hl (k := 2) rfl ex20.symm (Nat.le_of_ble_eq_true rfl) rfl (fun ls hl => ?_)
        have hl : lv_has ls 6 [(5, .int x20), (3, .long x19), (0, .ref (E.2.1 b))] := hl
        refine lv_goto C.1 C.2.1 (tgt := 159) dX9_digestRows_198 (by decide) ?_
        exact hR159 x19 x20 st17 _ _ _ h (lv_sub hl [2, 1, 0] rfl) hP hS
set_option maxHeartbeats 4000000 in
set_option maxRecDepth 100000 in
theorem tX9_digestRows_L82 {l : Launch} {p : Program} {e : Env} {s : State} {m : MethodId} {args : Array Value} {below : List Frame} {meth : Method} {c : Code} {E : En0} {L : List Nat} (hL : Cov 0 54 L) (C : Cx E L "PlankBridge" cX9_digestRows 6 p s m args c) (hr : meth.sig.returnType = (some .long)) (hlk : meth.locks = false) {b : Nat} {p1 : Int64} {Q : Int64 → St → Prop} (hb : kd b = 8) : ∀ (n : Nat) (v3 : Int64) (v5 : Int32) (st : St) (H : Heap) (locs : List Loc) (ls : Array Slot), lp (fun R s => wX9_digestRows_L82 b p1 R s.1 s.2.1 s.2.2 Q) n (v3, v5, st) → lv_has ls 6 [(0, .ref (E.2.1 b)), (3, .long v3), (5, .int v5)] → va_P E.1 vwCl (wd E L st) H → va_S (fA E L s.heap.size) s.heap H locs → W p l e rmX9_digestRows s m args below meth c H locs 0 0 (MQ below (zJ E L Q (fA E L s.heap.size)) args s rmX9_digestRows.cells rmX9_digestRows.slots (fA E L s.heap.size)) (F0 m 82 ls []) := by
  intro n
  induction n with
  | zero => exact fun _ _ _ _ _ _ h _ _ _ => False.elim ‹_›
  | succ n ih =>
    intro v3 v5 st  H locs ls h hl hP hS
    have hR82 := ih
    replace h : wX9_digestRows_L82 b p1 (lp (fun R s => wX9_digestRows_L82 b p1 R s.1 s.2.1 s.2.2 Q) n) v3 v5 st Q := h
    unfold wX9_digestRows_L82 at h
    refine lv_iload C.1 C.2.1 dX9_digestRows_82 (lv_at hl 2 rfl) ?_
    refine lv_aload_n C.1 C.2.1 dX9_digestRows_84 rfl (lv_at hl 0 rfl) ?_
    refine gf8_2 C hP hb (m8 hb hL) q412 dX9_digestRows_85 ?_
    refine gn2_4 C hP (k8_4 hb) (m8_4 hb hL) q300 dX9_digestRows_88 ?_
    refine lv_icmp_ge C.1 C.2.1 (tgt := 156) dX9_digestRows_91 (by decide) (fun hc => ?_) (fun hc => ?_)
    · have h := h.1 hc
      refine lv_iconst C.1 C.2.1 (v := 0) dX9_digestRows_156 rfl ?_
      refine lv_istore C.1 C.2.1 dX9_digestRows_157 hl (Nat.le_of_ble_eq_true rfl) rfl (fun ls hl => ?_)
      have hl : lv_has ls 6 [(5, .int 0), (0, .ref (E.2.1 b)), (3, .long v3)] := hl
      obtain ⟨n, h⟩ := h
      exact tX9_digestRows_L159 hL C hr hlk hb n v3 0 st _ _ _ h (lv_sub hl [1, 2, 0] rfl) hP hS
    · have h := h.2 hc
      refine lv_lload_n C.1 C.2.1 dX9_digestRows_94 rfl (lv_at hl 1 rfl) ?_
      refine lv_ldc2 C.1 C.2.1 C.2.2.2.1 (C.T q824) dX9_digestRows_95 ?_
      refine lv_lmul C.1 C.2.1 dX9_digestRows_98 ?_
      refine lv_aload_n C.1 C.2.1 dX9_digestRows_99 rfl (lv_at hl 0 rfl) ?_
      refine gf8_2 C hP hb (m8 hb hL) q412 dX9_digestRows_100 ?_
      refine gn2_5 C hP (k8_4 hb) (m8_4 hb hL) q302 dX9_digestRows_103 ?_
      refine lv_iload C.1 C.2.1 dX9_digestRows_106 (lv_at hl 2 rfl) ?_
      obtain ⟨hi, h⟩ := h
      refine z_iald C hP (k2_3 (k8_4 hb)) (l2_3 (k8_4 hb)) (m2_3 (k8_4 hb) hL) hi dX9_digestRows_108 ?_
      refine t_i2l C.1 C.2.1 dX9_digestRows_109 rfl ?_
      refine lv_ladd C.1 C.2.1 dX9_digestRows_110 ?_
      refine lv_topl (fun x9 ex9 => ?_)
      have h := h x9 ex9
      refine lv_lstore_n C.1 C.2.1 dX9_digestRows_111 rfl hl (Nat.le_of_ble_eq_true rfl) rfl (fun ls hl => ?_)
      have hl : lv_has ls 6 [(3, .long x9), (0, .ref (E.2.1 b)), (5, .int v5)] := hl
      refine lv_lload_n C.1 C.2.1 dX9_digestRows_112 rfl (lv_at hl 0 rfl) ?_
      refine lv_ldc2 C.1 C.2.1 C.2.2.2.1 (C.T q824) dX9_digestRows_113 ?_
      refine lv_lmul C.1 C.2.1 dX9_digestRows_116 ?_
      refine lv_aload_n C.1 C.2.1 dX9_digestRows_117 rfl (lv_at hl 1 rfl) ?_
      refine gf8_2 C hP hb (m8 hb hL) q412 dX9_digestRows_118 ?_
      refine lv_iload C.1 C.2.1 dX9_digestRows_121 (lv_at hl 2 rfl) ?_
      refine z_ki hS (z_runV (As := [.int v5]) (rest := [.long (x9 * 31)]) C hP hS (m8_4 hb hL) (e2 (k8_4 hb)) rfl (tX2_loadOf C.2.2.2.2.2.2.1 (hL.mo (Nat.le_of_ble_eq_true rfl) (Nat.le_of_ble_eq_true rfl)) (k8_4 hb) h) q836 q837 q838 q112 q839 hdX2_loadOf ⟨Nat.le_of_ble_eq_true rfl, Nat.le_of_ble_eq_true rfl⟩ ⟨Nat.zero_le _, Nat.zero_le _⟩ rfl hl.1 rfl (lv_room (Nat.le_of_ble_eq_true rfl)) dX9_digestRows_123) (fun r11 st10 H locs h hP hS => ?_)
      refine t_i2l C.1 C.2.1 dX9_digestRows_126 rfl ?_
      refine lv_ladd C.1 C.2.1 dX9_digestRows_127 ?_
      refine lv_topl (fun x12 ex12 => ?_)
      have h := h x12 ex12
      refine lv_lstore_n C.1 C.2.1 dX9_digestRows_128 rfl hl (Nat.le_of_ble_eq_true rfl) rfl (fun ls hl => ?_)
      have hl : lv_has ls 6 [(3, .long x12), (0, .ref (E.2.1 b)), (5, .int v5)] := hl
      refine lv_lload_n C.1 C.2.1 dX9_digestRows_129 rfl (lv_at hl 0 rfl) ?_
      refine lv_ldc2 C.1 C.2.1 C.2.2.2.1 (C.T q824) dX9_digestRows_130 ?_
      refine lv_lmul C.1 C.2.1 dX9_digestRows_133 ?_
      refine lv_aload_n C.1 C.2.1 dX9_digestRows_134 rfl (lv_at hl 1 rfl) ?_
      refine gf8_2 C hP hb (m8 hb hL) q412 dX9_digestRows_135 ?_
      refine gn2_6 C hP (k8_4 hb) (m8_4 hb hL) q304 dX9_digestRows_138 ?_
      refine lv_iload C.1 C.2.1 dX9_digestRows_141 (lv_at hl 2 rfl) ?_
      obtain ⟨hi, h⟩ := h
      refine z_zald C hP (k2_4 (k8_4 hb)) (l2_4 (k8_4 hb)) (m2_4 (k8_4 hb) hL) hi dX9_digestRows_143 ?_
      refine z_ki hS (z_runS (As := [.int (gI st10 ((b + 4) + 4) (v5 : Int32).toNatClampNeg)]) (rest := [.long (x12 * 31)]) C hP hS (tX9_oneIf C.2.2.2.2.2.2.1 (hL.mo (Nat.le_of_ble_eq_true rfl) (Nat.le_of_ble_eq_true rfl))  h) q825 q826 q105 q827 hdX9_oneIf ⟨Nat.le_of_ble_eq_true rfl, Nat.le_of_ble_eq_true rfl⟩ ⟨Nat.zero_le _, Nat.zero_le _⟩ rfl hl.1 rfl (lv_room (Nat.le_of_ble_eq_true rfl)) dX9_digestRows_144) (fun r14 st13 H locs h hP hS => ?_)
      refine t_i2l C.1 C.2.1 dX9_digestRows_147 rfl ?_
      refine lv_ladd C.1 C.2.1 dX9_digestRows_148 ?_
      refine lv_topl (fun x15 ex15 => ?_)
      have h := h x15 ex15
      refine lv_lstore_n C.1 C.2.1 dX9_digestRows_149 rfl hl (Nat.le_of_ble_eq_true rfl) rfl (fun ls hl => ?_)
      have hl : lv_has ls 6 [(3, .long x15), (0, .ref (E.2.1 b)), (5, .int v5)] := hl
      obtain ⟨x16, ex16⟩ : ∃ z, z = v5 + 1 := ⟨_, rfl⟩
      have h := h x16 ex16
      refine lv_iinc C.1 C.2.1 dX9_digestRows_150 hl (k := 2) rfl ex16.symm (Nat.le_of_ble_eq_true rfl) rfl (fun ls hl => ?_)
      have hl : lv_has ls 6 [(5, .int x16), (3, .long x15), (0, .ref (E.2.1 b))] := hl
      refine lv_goto C.1 C.2.1 (tgt := 82) dX9_digestRows_153 (by decide) ?_
      exact hR82 x15 x16 st13 _ _ _ h (lv_sub hl [2, 1, 0] rfl) hP hS
set_option maxHeartbeats 4000000 in
set_option maxRecDepth 100000 in
theorem tX9_digestRows_L5 {l : Launch} {p : Program} {e : Env} {s : State} {m : MethodId} {args : Array Value} {below : List Frame} {meth : Method} {c : Code} {E : En0} {L : List Nat} (hL : Cov 0 54 L) (C : Cx E L "PlankBridge" cX9_digestRows 6 p s m args c) (hr : meth.sig.returnType = (some .long)) (hlk : meth.locks = false) {b : Nat} {p1 : Int64} {Q : Int64 → St → Prop} (hb : kd b = 8) : ∀ (n : Nat) (v3 : Int64) (v5 : Int32) (st : St) (H : Heap) (locs : List Loc) (ls : Array Slot), lp (fun R s => wX9_digestRows_L5 b p1 R s.1 s.2.1 s.2.2 Q) n (v3, v5, st) → lv_has ls 6 [(0, .ref (E.2.1 b)), (3, .long v3), (5, .int v5)] → va_P E.1 vwCl (wd E L st) H → va_S (fA E L s.heap.size) s.heap H locs → W p l e rmX9_digestRows s m args below meth c H locs 0 0 (MQ below (zJ E L Q (fA E L s.heap.size)) args s rmX9_digestRows.cells rmX9_digestRows.slots (fA E L s.heap.size)) (F0 m 5 ls []) := by
  intro n
  induction n with
  | zero => exact fun _ _ _ _ _ _ h _ _ _ => False.elim ‹_›
  | succ n ih =>
    intro v3 v5 st  H locs ls h hl hP hS
    have hR5 := ih
    replace h : wX9_digestRows_L5 b p1 (lp (fun R s => wX9_digestRows_L5 b p1 R s.1 s.2.1 s.2.2 Q) n) v3 v5 st Q := h
    unfold wX9_digestRows_L5 at h
    refine lv_iload C.1 C.2.1 dX9_digestRows_5 (lv_at hl 2 rfl) ?_
    refine lv_aload_n C.1 C.2.1 dX9_digestRows_7 rfl (lv_at hl 0 rfl) ?_
    refine gf8_2 C hP hb (m8 hb hL) q412 dX9_digestRows_8 ?_
    refine gn2_0 C hP (k8_4 hb) (m8_4 hb hL) q291 dX9_digestRows_11 ?_
    refine lv_icmp_ge C.1 C.2.1 (tgt := 79) dX9_digestRows_14 (by decide) (fun hc => ?_) (fun hc => ?_)
    · have h := h.1 hc
      refine lv_iconst C.1 C.2.1 (v := 0) dX9_digestRows_79 rfl ?_
      refine lv_istore C.1 C.2.1 dX9_digestRows_80 hl (Nat.le_of_ble_eq_true rfl) rfl (fun ls hl => ?_)
      have hl : lv_has ls 6 [(5, .int 0), (0, .ref (E.2.1 b)), (3, .long v3)] := hl
      obtain ⟨n, h⟩ := h
      exact tX9_digestRows_L82 hL C hr hlk hb n v3 0 st _ _ _ h (lv_sub hl [1, 2, 0] rfl) hP hS
    · have h := h.2 hc
      refine lv_lload_n C.1 C.2.1 dX9_digestRows_17 rfl (lv_at hl 1 rfl) ?_
      refine lv_ldc2 C.1 C.2.1 C.2.2.2.1 (C.T q824) dX9_digestRows_18 ?_
      refine lv_lmul C.1 C.2.1 dX9_digestRows_21 ?_
      refine lv_aload_n C.1 C.2.1 dX9_digestRows_22 rfl (lv_at hl 0 rfl) ?_
      refine gf8_2 C hP hb (m8 hb hL) q412 dX9_digestRows_23 ?_
      refine gn2_1 C hP (k8_4 hb) (m8_4 hb hL) q293 dX9_digestRows_26 ?_
      refine lv_iload C.1 C.2.1 dX9_digestRows_29 (lv_at hl 2 rfl) ?_
      obtain ⟨hi, h⟩ := h
      refine z_iald C hP (k2_1 (k8_4 hb)) (l2_1 (k8_4 hb)) (m2_1 (k8_4 hb) hL) hi dX9_digestRows_31 ?_
      refine t_i2l C.1 C.2.1 dX9_digestRows_32 rfl ?_
      refine lv_ladd C.1 C.2.1 dX9_digestRows_33 ?_
      refine lv_topl (fun x1 ex1 => ?_)
      have h := h x1 ex1
      refine lv_lstore_n C.1 C.2.1 dX9_digestRows_34 rfl hl (Nat.le_of_ble_eq_true rfl) rfl (fun ls hl => ?_)
      have hl : lv_has ls 6 [(3, .long x1), (0, .ref (E.2.1 b)), (5, .int v5)] := hl
      refine lv_lload_n C.1 C.2.1 dX9_digestRows_35 rfl (lv_at hl 0 rfl) ?_
      refine lv_ldc2 C.1 C.2.1 C.2.2.2.1 (C.T q824) dX9_digestRows_36 ?_
      refine lv_lmul C.1 C.2.1 dX9_digestRows_39 ?_
      refine lv_aload_n C.1 C.2.1 dX9_digestRows_40 rfl (lv_at hl 1 rfl) ?_
      refine gf8_2 C hP hb (m8 hb hL) q412 dX9_digestRows_41 ?_
      refine gn2_2 C hP (k8_4 hb) (m8_4 hb hL) q295 dX9_digestRows_44 ?_
      refine lv_iload C.1 C.2.1 dX9_digestRows_47 (lv_at hl 2 rfl) ?_
      obtain ⟨hi, h⟩ := h
      refine z_iald C hP (k2_2 (k8_4 hb)) (l2_2 (k8_4 hb)) (m2_2 (k8_4 hb) hL) hi dX9_digestRows_49 ?_
      refine t_i2l C.1 C.2.1 dX9_digestRows_50 rfl ?_
      refine lv_ladd C.1 C.2.1 dX9_digestRows_51 ?_
      refine lv_topl (fun x2 ex2 => ?_)
      have h := h x2 ex2
      refine lv_lstore_n C.1 C.2.1 dX9_digestRows_52 rfl hl (Nat.le_of_ble_eq_true rfl) rfl (fun ls hl => ?_)
      have hl : lv_has ls 6 [(3, .long x2), (0, .ref (E.2.1 b)), (5, .int v5)] := hl
      refine lv_lload_n C.1 C.2.1 dX9_digestRows_53 rfl (lv_at hl 0 rfl) ?_
      refine lv_ldc2 C.1 C.2.1 C.2.2.2.1 (C.T q824) dX9_digestRows_54 ?_
      refine lv_lmul C.1 C.2.1 dX9_digestRows_57 ?_
      refine lv_aload_n C.1 C.2.1 dX9_digestRows_58 rfl (lv_at hl 1 rfl) ?_
      refine gf8_2 C hP hb (m8 hb hL) q412 dX9_digestRows_59 ?_
      refine lv_iload C.1 C.2.1 dX9_digestRows_62 (lv_at hl 2 rfl) ?_
      refine z_ki hS (z_runV (As := [.int v5]) (rest := [.long (x2 * 31)]) C hP hS (m8_4 hb hL) (e2 (k8_4 hb)) rfl (tX2_standsNear C.2.2.2.2.2.2.1 (hL.mo (Nat.le_of_ble_eq_true rfl) (Nat.le_of_ble_eq_true rfl)) (k8_4 hb) h) q832 q833 q834 q112 q835 hdX2_standsNear ⟨Nat.le_of_ble_eq_true rfl, Nat.le_of_ble_eq_true rfl⟩ ⟨Nat.zero_le _, Nat.zero_le _⟩ rfl hl.1 rfl (lv_room (Nat.le_of_ble_eq_true rfl)) dX9_digestRows_64) (fun r4 st3 H locs h hP hS => ?_)
      obtain ⟨hr4, h⟩ := h
      refine z_ki hS (z_runS (As := [.int r4]) (rest := [.long (x2 * 31)]) C hP hS (tX9_oneIf C.2.2.2.2.2.2.1 (hL.mo (Nat.le_of_ble_eq_true rfl) (Nat.le_of_ble_eq_true rfl))  h) q825 q826 q105 q827 hdX9_oneIf ⟨Nat.le_of_ble_eq_true rfl, Nat.le_of_ble_eq_true rfl⟩ ⟨Nat.zero_le _, Nat.zero_le _⟩ rfl hl.1 rfl (lv_room (Nat.le_of_ble_eq_true rfl)) dX9_digestRows_67) (fun r6 st5 H locs h hP hS => ?_)
      refine t_i2l C.1 C.2.1 dX9_digestRows_70 rfl ?_
      refine lv_ladd C.1 C.2.1 dX9_digestRows_71 ?_
      refine lv_topl (fun x7 ex7 => ?_)
      have h := h x7 ex7
      refine lv_lstore_n C.1 C.2.1 dX9_digestRows_72 rfl hl (Nat.le_of_ble_eq_true rfl) rfl (fun ls hl => ?_)
      have hl : lv_has ls 6 [(3, .long x7), (0, .ref (E.2.1 b)), (5, .int v5)] := hl
      obtain ⟨x8, ex8⟩ : ∃ z, z = v5 + 1 := ⟨_, rfl⟩
      have h := h x8 ex8
      refine lv_iinc C.1 C.2.1 dX9_digestRows_73 hl (k := 2) rfl ex8.symm (Nat.le_of_ble_eq_true rfl) rfl (fun ls hl => ?_)
      have hl : lv_has ls 6 [(5, .int x8), (3, .long x7), (0, .ref (E.2.1 b))] := hl
      refine lv_goto C.1 C.2.1 (tgt := 5) dX9_digestRows_76 (by decide) ?_
      exact hR5 x7 x8 st5 _ _ _ h (lv_sub hl [2, 1, 0] rfl) hP hS
set_option maxHeartbeats 4000000 in
set_option maxRecDepth 100000 in
theorem tX9_digestRows {l : Launch} {E : En0} {L : List Nat} (hE : EK E L) (hL : Cov 0 54 L) {b : Nat} {p1 : Int64} {st : St} {Q : Int64 → St → Prop} (hb : kd b = 8) (h : wX9_digestRows b p1 st Q) : Mz l yX9_digestRows cX9_digestRows 6 (some .long) rmX9_digestRows E L [.ref (E.2.1 b), .long p1] st (zJ E L Q) := by
  refine Mz.of hE (by decide) (Nat.le_of_ble_eq_true rfl) ?_
  intro p e s m below meth c ls C hr hlk _ hl hP
  replace C : Cx E L "PlankBridge" cX9_digestRows 6 p s m _ c := C
  have hS : va_S (fA E L s.heap.size) s.heap s.heap [] := va_S.rf
  replace hl : lv_has ls 6 [(0, .ref (E.2.1 b)), (1, .long p1)] := hl
  unfold wX9_digestRows at h
  refine lv_lload_n C.1 C.2.1 dX9_digestRows_0 rfl (lv_at hl 1 rfl) ?_
  refine lv_lstore_n C.1 C.2.1 dX9_digestRows_1 rfl hl (Nat.le_of_ble_eq_true rfl) rfl (fun ls hl => ?_)
  have hl : lv_has ls 6 [(3, .long p1), (0, .ref (E.2.1 b)), (1, .long p1)] := hl
  refine lv_iconst C.1 C.2.1 (v := 0) dX9_digestRows_2 rfl ?_
  refine lv_istore C.1 C.2.1 dX9_digestRows_3 hl (Nat.le_of_ble_eq_true rfl) rfl (fun ls hl => ?_)
  have hl : lv_has ls 6 [(5, .int 0), (3, .long p1), (0, .ref (E.2.1 b)), (1, .long p1)] := hl
  obtain ⟨n, h⟩ := h
  exact tX9_digestRows_L5 hL C hr hlk hb n p1 0 st _ _ _ h (lv_sub hl [2, 1, 0] rfl) hP hS
def rmX9_digest : Room := { frames := 7, cells := 0, slots := 0, locals := 163 }
def wX9_digest (b : Nat) (st : St) (Q : Int64 → St → Prop) : Prop :=
  (∀ x1 : Int64, x1 = ((1889 * 31) + ((gI st (b + 4) 0 : Int32).toInt64)) → (∀ x2 : Int64, x2 = ((x1 * 31) + ((gI st (b + 4) 4 : Int32).toInt64)) → (kd (gR st b 6) = 1 ∧ ∀ c3, c3 = gR st b 6 → (∀ x4 : Int64, x4 = ((x2 * 31) + ((gI st c3 9 : Int32).toInt64)) → (wX9_oneIf (gI st (b + 4) 7) st (fun r6 st5 => (∀ x7 : Int64, x7 = ((x4 * 31) + ((r6 : Int32).toInt64)) → (∀ x8 : Int64, x8 = ((x7 * 31) + ((gI st5 (b + 4) 8 : Int32).toInt64)) → (∀ x9 : Int64, x9 = ((x8 * 31) + ((gI st5 (b + 4) 9 : Int32).toInt64)) → (∀ x10 : Int64, x10 = ((x9 * 31) + ((gI st5 (b + 4) 10 : Int32).toInt64)) → (∀ x11 : Int64, x11 = ((x10 * 31) + ((gI st5 (b + 4) 11 : Int32).toInt64)) → (∀ x12 : Int64, x12 = ((x11 * 31) + ((gI st5 (b + 4) 12 : Int32).toInt64)) → (∀ x13 : Int64, x13 = ((x12 * 31) + ((gI st5 (b + 4) 13 : Int32).toInt64)) → (wX2_countMissing (b + 4) st5 (fun r15 st14 => (∀ x16 : Int64, x16 = ((x13 * 31) + ((r15 : Int32).toInt64)) → (wX2_canBePassed (b + 4) st14 (fun r18 st17 => (wX9_oneIf r18 st17 (fun r20 st19 => (∀ x21 : Int64, x21 = ((x16 * 31) + ((r20 : Int32).toInt64)) → (wX8_minutesLeft (b + 18) st19 (fun r23 st22 => (∀ x24 : Int64, x24 = ((x21 * 31) + ((r23 : Int32).toInt64)) → (wX9_digestRows b x24 st22 (fun r26 st25 => Q r26 st25))))))))))))))))))))))))))
theorem hdX9_digest : yX9_digest.cls = "PlankBridge" ∧ yX9_digest.cls ≠ "java/lang/invoke/MethodHandle" ∧ yX9_digest.cls ≠ "java/lang/invoke/VarHandle" ∧ (parseMethodDescriptor yX9_digest.desc).map (fun d => d.parameters.length) = some 0 := by decide +kernel
set_option maxHeartbeats 4000000 in
set_option maxRecDepth 100000 in
theorem tX9_digest {l : Launch} {E : En0} {L : List Nat} (hE : EK E L) (hL : Cov 0 54 L) {b : Nat} {st : St} {Q : Int64 → St → Prop} (hb : kd b = 8) (h : wX9_digest b st Q) : Mz l yX9_digest cX9_digest 3 (some .long) rmX9_digest E L [.ref (E.2.1 b)] st (zJ E L Q) := by
  refine Mz.of hE (by decide) (Nat.le_of_ble_eq_true rfl) ?_
  intro p e s m below meth c ls C hr hlk _ hl hP
  replace C : Cx E L "PlankBridge" cX9_digest 3 p s m _ c := C
  have hS : va_S (fA E L s.heap.size) s.heap s.heap [] := va_S.rf
  replace hl : lv_has ls 3 [(0, .ref (E.2.1 b))] := hl
  unfold wX9_digest at h
  refine lv_ldc2 C.1 C.2.1 C.2.2.2.1 (C.T q823) dX9_digest_0 ?_
  refine lv_lstore_n C.1 C.2.1 dX9_digest_3 rfl hl (Nat.le_of_ble_eq_true rfl) rfl (fun ls hl => ?_)
  have hl : lv_has ls 3 [(1, .long 1889), (0, .ref (E.2.1 b))] := hl
  refine lv_lload_n C.1 C.2.1 dX9_digest_4 rfl (lv_at hl 0 rfl) ?_
  refine lv_ldc2 C.1 C.2.1 C.2.2.2.1 (C.T q824) dX9_digest_5 ?_
  refine lv_lmul C.1 C.2.1 dX9_digest_8 ?_
  refine lv_aload_n C.1 C.2.1 dX9_digest_9 rfl (lv_at hl 1 rfl) ?_
  refine gf8_2 C hP hb (m8 hb hL) q412 dX9_digest_10 ?_
  refine gn2_0 C hP (k8_4 hb) (m8_4 hb hL) q291 dX9_digest_13 ?_
  refine t_i2l C.1 C.2.1 dX9_digest_16 rfl ?_
  refine lv_ladd C.1 C.2.1 dX9_digest_17 ?_
  refine lv_topl (fun x1 ex1 => ?_)
  have h := h x1 ex1
  refine lv_lstore_n C.1 C.2.1 dX9_digest_18 rfl hl (Nat.le_of_ble_eq_true rfl) rfl (fun ls hl => ?_)
  have hl : lv_has ls 3 [(1, .long x1), (0, .ref (E.2.1 b))] := hl
  refine lv_lload_n C.1 C.2.1 dX9_digest_19 rfl (lv_at hl 0 rfl) ?_
  refine lv_ldc2 C.1 C.2.1 C.2.2.2.1 (C.T q824) dX9_digest_20 ?_
  refine lv_lmul C.1 C.2.1 dX9_digest_23 ?_
  refine lv_aload_n C.1 C.2.1 dX9_digest_24 rfl (lv_at hl 1 rfl) ?_
  refine gf8_2 C hP hb (m8 hb hL) q412 dX9_digest_25 ?_
  refine gn2_4 C hP (k8_4 hb) (m8_4 hb hL) q300 dX9_digest_28 ?_
  refine t_i2l C.1 C.2.1 dX9_digest_31 rfl ?_
  refine lv_ladd C.1 C.2.1 dX9_digest_32 ?_
  refine lv_topl (fun x2 ex2 => ?_)
  have h := h x2 ex2
  refine lv_lstore_n C.1 C.2.1 dX9_digest_33 rfl hl (Nat.le_of_ble_eq_true rfl) rfl (fun ls hl => ?_)
  have hl : lv_has ls 3 [(1, .long x2), (0, .ref (E.2.1 b))] := hl
  refine lv_lload_n C.1 C.2.1 dX9_digest_34 rfl (lv_at hl 0 rfl) ?_
  refine lv_ldc2 C.1 C.2.1 C.2.2.2.1 (C.T q824) dX9_digest_35 ?_
  refine lv_lmul C.1 C.2.1 dX9_digest_38 ?_
  refine lv_aload_n C.1 C.2.1 dX9_digest_39 rfl (lv_at hl 1 rfl) ?_
  refine gf8_6 C hP hb (m8 hb hL) q416 dX9_digest_40 ?_
  obtain ⟨hc3, h⟩ := h
  obtain ⟨c3, ec3⟩ : ∃ z, z = gR st b 6 := ⟨_, rfl⟩
  rw [← ec3]; rw [← ec3] at hc3; have h := h c3 ec3
  refine gn1_9 C hP hc3 (m1 hc3 hL) q209 dX9_digest_43 ?_
  refine t_i2l C.1 C.2.1 dX9_digest_46 rfl ?_
  refine lv_ladd C.1 C.2.1 dX9_digest_47 ?_
  refine lv_topl (fun x4 ex4 => ?_)
  have h := h x4 ex4
  refine lv_lstore_n C.1 C.2.1 dX9_digest_48 rfl hl (Nat.le_of_ble_eq_true rfl) rfl (fun ls hl => ?_)
  have hl : lv_has ls 3 [(1, .long x4), (0, .ref (E.2.1 b))] := hl
  refine lv_lload_n C.1 C.2.1 dX9_digest_49 rfl (lv_at hl 0 rfl) ?_
  refine lv_ldc2 C.1 C.2.1 C.2.2.2.1 (C.T q824) dX9_digest_50 ?_
  refine lv_lmul C.1 C.2.1 dX9_digest_53 ?_
  refine lv_aload_n C.1 C.2.1 dX9_digest_54 rfl (lv_at hl 1 rfl) ?_
  refine gf8_2 C hP hb (m8 hb hL) q412 dX9_digest_55 ?_
  refine gn2_7 C hP (k8_4 hb) (m8_4 hb hL) q307 dX9_digest_58 ?_
  refine z_ki hS (z_runS (As := [.int (gI st (b + 4) 7)]) (rest := [.long (x4 * 31)]) C hP hS (tX9_oneIf C.2.2.2.2.2.2.1 (hL.mo (Nat.le_of_ble_eq_true rfl) (Nat.le_of_ble_eq_true rfl))  h) q825 q826 q105 q827 hdX9_oneIf ⟨Nat.le_of_ble_eq_true rfl, Nat.le_of_ble_eq_true rfl⟩ ⟨Nat.zero_le _, Nat.zero_le _⟩ rfl hl.1 rfl (lv_room (Nat.le_of_ble_eq_true rfl)) dX9_digest_61) (fun r6 st5 H locs h hP hS => ?_)
  refine t_i2l C.1 C.2.1 dX9_digest_64 rfl ?_
  refine lv_ladd C.1 C.2.1 dX9_digest_65 ?_
  refine lv_topl (fun x7 ex7 => ?_)
  have h := h x7 ex7
  refine lv_lstore_n C.1 C.2.1 dX9_digest_66 rfl hl (Nat.le_of_ble_eq_true rfl) rfl (fun ls hl => ?_)
  have hl : lv_has ls 3 [(1, .long x7), (0, .ref (E.2.1 b))] := hl
  refine lv_lload_n C.1 C.2.1 dX9_digest_67 rfl (lv_at hl 0 rfl) ?_
  refine lv_ldc2 C.1 C.2.1 C.2.2.2.1 (C.T q824) dX9_digest_68 ?_
  refine lv_lmul C.1 C.2.1 dX9_digest_71 ?_
  refine lv_aload_n C.1 C.2.1 dX9_digest_72 rfl (lv_at hl 1 rfl) ?_
  refine gf8_2 C hP hb (m8 hb hL) q412 dX9_digest_73 ?_
  refine gn2_8 C hP (k8_4 hb) (m8_4 hb hL) q309 dX9_digest_76 ?_
  refine t_i2l C.1 C.2.1 dX9_digest_79 rfl ?_
  refine lv_ladd C.1 C.2.1 dX9_digest_80 ?_
  refine lv_topl (fun x8 ex8 => ?_)
  have h := h x8 ex8
  refine lv_lstore_n C.1 C.2.1 dX9_digest_81 rfl hl (Nat.le_of_ble_eq_true rfl) rfl (fun ls hl => ?_)
  have hl : lv_has ls 3 [(1, .long x8), (0, .ref (E.2.1 b))] := hl
  refine lv_lload_n C.1 C.2.1 dX9_digest_82 rfl (lv_at hl 0 rfl) ?_
  refine lv_ldc2 C.1 C.2.1 C.2.2.2.1 (C.T q824) dX9_digest_83 ?_
  refine lv_lmul C.1 C.2.1 dX9_digest_86 ?_
  refine lv_aload_n C.1 C.2.1 dX9_digest_87 rfl (lv_at hl 1 rfl) ?_
  refine gf8_2 C hP hb (m8 hb hL) q412 dX9_digest_88 ?_
  refine gn2_9 C hP (k8_4 hb) (m8_4 hb hL) q311 dX9_digest_91 ?_
  refine t_i2l C.1 C.2.1 dX9_digest_94 rfl ?_
  refine lv_ladd C.1 C.2.1 dX9_digest_95 ?_
  refine lv_topl (fun x9 ex9 => ?_)
  have h := h x9 ex9
  refine lv_lstore_n C.1 C.2.1 dX9_digest_96 rfl hl (Nat.le_of_ble_eq_true rfl) rfl (fun ls hl => ?_)
  have hl : lv_has ls 3 [(1, .long x9), (0, .ref (E.2.1 b))] := hl
  refine lv_lload_n C.1 C.2.1 dX9_digest_97 rfl (lv_at hl 0 rfl) ?_
  refine lv_ldc2 C.1 C.2.1 C.2.2.2.1 (C.T q824) dX9_digest_98 ?_
  refine lv_lmul C.1 C.2.1 dX9_digest_101 ?_
  refine lv_aload_n C.1 C.2.1 dX9_digest_102 rfl (lv_at hl 1 rfl) ?_
  refine gf8_2 C hP hb (m8 hb hL) q412 dX9_digest_103 ?_
  refine gn2_10 C hP (k8_4 hb) (m8_4 hb hL) q313 dX9_digest_106 ?_
  refine t_i2l C.1 C.2.1 dX9_digest_109 rfl ?_
  refine lv_ladd C.1 C.2.1 dX9_digest_110 ?_
  refine lv_topl (fun x10 ex10 => ?_)
  have h := h x10 ex10
  refine lv_lstore_n C.1 C.2.1 dX9_digest_111 rfl hl (Nat.le_of_ble_eq_true rfl) rfl (fun ls hl => ?_)
  have hl : lv_has ls 3 [(1, .long x10), (0, .ref (E.2.1 b))] := hl
  refine lv_lload_n C.1 C.2.1 dX9_digest_112 rfl (lv_at hl 0 rfl) ?_
  refine lv_ldc2 C.1 C.2.1 C.2.2.2.1 (C.T q824) dX9_digest_113 ?_
  refine lv_lmul C.1 C.2.1 dX9_digest_116 ?_
  refine lv_aload_n C.1 C.2.1 dX9_digest_117 rfl (lv_at hl 1 rfl) ?_
  refine gf8_2 C hP hb (m8 hb hL) q412 dX9_digest_118 ?_
  refine gn2_11 C hP (k8_4 hb) (m8_4 hb hL) q315 dX9_digest_121 ?_
  refine t_i2l C.1 C.2.1 dX9_digest_124 rfl ?_
  refine lv_ladd C.1 C.2.1 dX9_digest_125 ?_
  refine lv_topl (fun x11 ex11 => ?_)
  have h := h x11 ex11
  refine lv_lstore_n C.1 C.2.1 dX9_digest_126 rfl hl (Nat.le_of_ble_eq_true rfl) rfl (fun ls hl => ?_)
  have hl : lv_has ls 3 [(1, .long x11), (0, .ref (E.2.1 b))] := hl
  refine lv_lload_n C.1 C.2.1 dX9_digest_127 rfl (lv_at hl 0 rfl) ?_
  refine lv_ldc2 C.1 C.2.1 C.2.2.2.1 (C.T q824) dX9_digest_128 ?_
  refine lv_lmul C.1 C.2.1 dX9_digest_131 ?_
  refine lv_aload_n C.1 C.2.1 dX9_digest_132 rfl (lv_at hl 1 rfl) ?_
  refine gf8_2 C hP hb (m8 hb hL) q412 dX9_digest_133 ?_
  refine gn2_12 C hP (k8_4 hb) (m8_4 hb hL) q317 dX9_digest_136 ?_
  refine t_i2l C.1 C.2.1 dX9_digest_139 rfl ?_
  refine lv_ladd C.1 C.2.1 dX9_digest_140 ?_
  refine lv_topl (fun x12 ex12 => ?_)
  have h := h x12 ex12
  refine lv_lstore_n C.1 C.2.1 dX9_digest_141 rfl hl (Nat.le_of_ble_eq_true rfl) rfl (fun ls hl => ?_)
  have hl : lv_has ls 3 [(1, .long x12), (0, .ref (E.2.1 b))] := hl
  refine lv_lload_n C.1 C.2.1 dX9_digest_142 rfl (lv_at hl 0 rfl) ?_
  refine lv_ldc2 C.1 C.2.1 C.2.2.2.1 (C.T q824) dX9_digest_143 ?_
  refine lv_lmul C.1 C.2.1 dX9_digest_146 ?_
  refine lv_aload_n C.1 C.2.1 dX9_digest_147 rfl (lv_at hl 1 rfl) ?_
  refine gf8_2 C hP hb (m8 hb hL) q412 dX9_digest_148 ?_
  refine gn2_13 C hP (k8_4 hb) (m8_4 hb hL) q319 dX9_digest_151 ?_
  refine t_i2l C.1 C.2.1 dX9_digest_154 rfl ?_
  refine lv_ladd C.1 C.2.1 dX9_digest_155 ?_
  refine lv_topl (fun x13 ex13 => ?_)
  have h := h x13 ex13
  refine lv_lstore_n C.1 C.2.1 dX9_digest_156 rfl hl (Nat.le_of_ble_eq_true rfl) rfl (fun ls hl => ?_)
  have hl : lv_has ls 3 [(1, .long x13), (0, .ref (E.2.1 b))] := hl
  refine lv_lload_n C.1 C.2.1 dX9_digest_157 rfl (lv_at hl 0 rfl) ?_
  refine lv_ldc2 C.1 C.2.1 C.2.2.2.1 (C.T q824) dX9_digest_158 ?_
  refine lv_lmul C.1 C.2.1 dX9_digest_161 ?_
  refine lv_aload_n C.1 C.2.1 dX9_digest_162 rfl (lv_at hl 1 rfl) ?_
  refine gf8_2 C hP hb (m8 hb hL) q412 dX9_digest_163 ?_
  refine z_ki hS (z_runV (As := []) (rest := [.long (x13 * 31)]) C hP hS (m8_4 hb hL) (e2 (k8_4 hb)) rfl (tX2_countMissing C.2.2.2.2.2.2.1 (hL.mo (Nat.le_of_ble_eq_true rfl) (Nat.le_of_ble_eq_true rfl)) (k8_4 hb) h) q726 q727 q728 q112 q729 hdX2_countMissing ⟨Nat.le_of_ble_eq_true rfl, Nat.le_of_ble_eq_true rfl⟩ ⟨Nat.zero_le _, Nat.zero_le _⟩ rfl hl.1 rfl (lv_room (Nat.le_of_ble_eq_true rfl)) dX9_digest_166) (fun r15 st14 H locs h hP hS => ?_)
  refine t_i2l C.1 C.2.1 dX9_digest_169 rfl ?_
  refine lv_ladd C.1 C.2.1 dX9_digest_170 ?_
  refine lv_topl (fun x16 ex16 => ?_)
  have h := h x16 ex16
  refine lv_lstore_n C.1 C.2.1 dX9_digest_171 rfl hl (Nat.le_of_ble_eq_true rfl) rfl (fun ls hl => ?_)
  have hl : lv_has ls 3 [(1, .long x16), (0, .ref (E.2.1 b))] := hl
  refine lv_lload_n C.1 C.2.1 dX9_digest_172 rfl (lv_at hl 0 rfl) ?_
  refine lv_ldc2 C.1 C.2.1 C.2.2.2.1 (C.T q824) dX9_digest_173 ?_
  refine lv_lmul C.1 C.2.1 dX9_digest_176 ?_
  refine lv_aload_n C.1 C.2.1 dX9_digest_177 rfl (lv_at hl 1 rfl) ?_
  refine gf8_2 C hP hb (m8 hb hL) q412 dX9_digest_178 ?_
  refine z_ki hS (z_runV (As := []) (rest := [.long (x16 * 31)]) C hP hS (m8_4 hb hL) (e2 (k8_4 hb)) rfl (tX2_canBePassed C.2.2.2.2.2.2.1 (hL.mo (Nat.le_of_ble_eq_true rfl) (Nat.le_of_ble_eq_true rfl)) (k8_4 hb) h) q734 q735 q736 q112 q737 hdX2_canBePassed ⟨Nat.le_of_ble_eq_true rfl, Nat.le_of_ble_eq_true rfl⟩ ⟨Nat.zero_le _, Nat.zero_le _⟩ rfl hl.1 rfl (lv_room (Nat.le_of_ble_eq_true rfl)) dX9_digest_181) (fun r18 st17 H locs h hP hS => ?_)
  obtain ⟨hr18, h⟩ := h
  refine z_ki hS (z_runS (As := [.int r18]) (rest := [.long (x16 * 31)]) C hP hS (tX9_oneIf C.2.2.2.2.2.2.1 (hL.mo (Nat.le_of_ble_eq_true rfl) (Nat.le_of_ble_eq_true rfl))  h) q825 q826 q105 q827 hdX9_oneIf ⟨Nat.le_of_ble_eq_true rfl, Nat.le_of_ble_eq_true rfl⟩ ⟨Nat.zero_le _, Nat.zero_le _⟩ rfl hl.1 rfl (lv_room (Nat.le_of_ble_eq_true rfl)) dX9_digest_184) (fun r20 st19 H locs h hP hS => ?_)
  refine t_i2l C.1 C.2.1 dX9_digest_187 rfl ?_
  refine lv_ladd C.1 C.2.1 dX9_digest_188 ?_
  refine lv_topl (fun x21 ex21 => ?_)
  have h := h x21 ex21
  refine lv_lstore_n C.1 C.2.1 dX9_digest_189 rfl hl (Nat.le_of_ble_eq_true rfl) rfl (fun ls hl => ?_)
  have hl : lv_has ls 3 [(1, .long x21), (0, .ref (E.2.1 b))] := hl
  refine lv_lload_n C.1 C.2.1 dX9_digest_190 rfl (lv_at hl 0 rfl) ?_
  refine lv_ldc2 C.1 C.2.1 C.2.2.2.1 (C.T q824) dX9_digest_191 ?_
  refine lv_lmul C.1 C.2.1 dX9_digest_194 ?_
  refine lv_aload_n C.1 C.2.1 dX9_digest_195 rfl (lv_at hl 1 rfl) ?_
  refine gf8_5 C hP hb (m8 hb hL) q415 dX9_digest_196 ?_
  refine z_ki hS (z_runV (As := []) (rest := [.long (x21 * 31)]) C hP hS (m8_18 hb hL) (e7 (k8_18 hb)) rfl (tX8_minutesLeft C.2.2.2.2.2.2.1 (hL.mo (Nat.le_of_ble_eq_true rfl) (Nat.le_of_ble_eq_true rfl)) (k8_18 hb) h) q778 q779 q780 q114 q781 hdX8_minutesLeft ⟨Nat.le_of_ble_eq_true rfl, Nat.le_of_ble_eq_true rfl⟩ ⟨Nat.zero_le _, Nat.zero_le _⟩ rfl hl.1 rfl (lv_room (Nat.le_of_ble_eq_true rfl)) dX9_digest_199) (fun r23 st22 H locs h hP hS => ?_)
  refine t_i2l C.1 C.2.1 dX9_digest_202 rfl ?_
  refine lv_ladd C.1 C.2.1 dX9_digest_203 ?_
  refine lv_topl (fun x24 ex24 => ?_)
  have h := h x24 ex24
  refine lv_lstore_n C.1 C.2.1 dX9_digest_204 rfl hl (Nat.le_of_ble_eq_true rfl) rfl (fun ls hl => ?_)
  have hl : lv_has ls 3 [(1, .long x24), (0, .ref (E.2.1 b))] := hl
  refine lv_aload_n C.1 C.2.1 dX9_digest_205 rfl (lv_at hl 1 rfl) ?_
  refine lv_lload_n C.1 C.2.1 dX9_digest_206 rfl (lv_at hl 0 rfl) ?_
  refine z_kj hS (z_runV (As := [.long x24]) (rest := []) C hP hS (m8 hb hL) (e8 hb) rfl (tX9_digestRows C.2.2.2.2.2.2.1 (hL.mo (Nat.le_of_ble_eq_true rfl) (Nat.le_of_ble_eq_true rfl)) hb h) q828 q830 q18 q105 q831 hdX9_digestRows ⟨Nat.le_of_ble_eq_true rfl, Nat.le_of_ble_eq_true rfl⟩ ⟨Nat.zero_le _, Nat.zero_le _⟩ rfl hl.1 rfl (lv_room (Nat.le_of_ble_eq_true rfl)) dX9_digest_207) (fun r26 st25 H locs h hP hS => ?_)
  exact z_rj C hr hlk hP hS h dX9_digest_210

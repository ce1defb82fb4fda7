def rmX11_block_0 : Room := { frames := 0, cells := 0, slots := 0, locals := 0 }
def wX11_block_0 (b : Nat) (p1 : Int32) (st : St) (Q : Int32 → St → Prop) : Prop := False
theorem hdX11_block_0 : yX11_block.cls = "PlankBridgeModel$Reader" ∧ yX11_block.cls ≠ "java/lang/invoke/MethodHandle" ∧ yX11_block.cls ≠ "java/lang/invoke/VarHandle" ∧ (parseMethodDescriptor yX11_block.desc).map (fun d => d.parameters.length) = some 1 := by decide +kernel
theorem tX11_block_0 {l : Launch} {E : En0} {L : List Nat} (hE : EK E L) (hL : Cov 54 77 L) {b : Nat} {p1 : Int32} {st : St} {Q : Int32 → St → Prop} (hb : kd b = 10) (h : wX11_block_0 b p1 st Q) : Mz l yX11_block cX11_block 2 (some .boolean) rmX11_block_0 E L [.ref (E.2.1 b), .int p1] st (zI E L (fun r u => bz r ∧ Q r u)) := False.elim h
def rmX11_loop_1 : Room := { frames := 10, cells := 0, slots := 0, locals := 218 }
def wX11_loop_1 (b : Nat) (p1 : Int32) (st : St) (Q : Int32 → St → Prop) : Prop :=
  (wX11_row b st (fun r2 st1 => ((¬ r2 = (-100) → (wX10_put (b + 2) 211 r2 0 st1 (fun r4 st3 => (wX11_block_0 b (p1 + 1) st3 (fun r6 st5 => ((¬ r6 = 0 → (wX10_put (b + 2) 300 r4 0 st5 (fun r8 st7 => (vp_in (((4 : Int32) * r4) + 3) 1600 ∧ ∀ st9, st9 = uI st7 ((b + 2) + 5) (((4 : Int32) * r4) + 3 : Int32).toNatClampNeg (gI st7 (b + 2) 9) → Q 1 st9)))) ∧ (r6 = 0 → Q 0 st5))))))) ∧ (r2 = (-100) → Q 0 st1))))
theorem hdX11_loop_1 : yX11_loop.cls = "PlankBridgeModel$Reader" ∧ yX11_loop.cls ≠ "java/lang/invoke/MethodHandle" ∧ yX11_loop.cls ≠ "java/lang/invoke/VarHandle" ∧ (parseMethodDescriptor yX11_loop.desc).map (fun d => d.parameters.length) = some 1 := by decide +kernel
set_option maxHeartbeats 4000000 in
set_option maxRecDepth 100000 in
theorem tX11_loop_1 {l : Launch} {E : En0} {L : List Nat} (hE : EK E L) (hL : Cov 54 77 L) {b : Nat} {p1 : Int32} {st : St} {Q : Int32 → St → Prop} (hb : kd b = 10) (h : wX11_loop_1 b p1 st Q) : Mz l yX11_loop cX11_loop 4 (some .boolean) rmX11_loop_1 E L [.ref (E.2.1 b), .int p1] st (zI E L (fun r u => bz r ∧ Q r u)) := by
  refine Mz.of hE (by decide) (Nat.le_of_ble_eq_true rfl) ?_
  intro p e s m below meth c ls C hr hlk _ hl hP
  replace C : Cx E L "PlankBridgeModel$Reader" cX11_loop 4 p s m _ c := C
  have hS : va_S (fA E L s.heap.size) s.heap s.heap [] := va_S.rf
  replace hl : lv_has ls 4 [(0, .ref (E.2.1 b)), (1, .int p1)] := hl
  unfold wX11_loop_1 at h
  refine lv_aload_n C.1 C.2.1 dX11_loop_0 rfl (lv_at hl 0 rfl) ?_
  refine z_ki hS (z_runV (As := []) (rest := []) C hP hS (m10 hb hL) (e10 hb) rfl (tX11_row C.2.2.2.2.2.2.1 (hL.mo (Nat.le_of_ble_eq_true rfl) (Nat.le_of_ble_eq_true rfl)) hb h) q1636 q1638 q62 q124 q1639 hdX11_row ⟨Nat.le_of_ble_eq_true rfl, Nat.le_of_ble_eq_true rfl⟩ ⟨Nat.zero_le _, Nat.zero_le _⟩ rfl hl.1 rfl (lv_room (Nat.le_of_ble_eq_true rfl)) dX11_loop_1) (fun r2 st1 H locs h hP hS => ?_)
  refine lv_istore_n C.1 C.2.1 dX11_loop_4 rfl hl (Nat.le_of_ble_eq_true rfl) rfl (fun ls hl => ?_)
  have hl : lv_has ls 4 [(2, .int r2), (0, .ref (E.2.1 b)), (1, .int p1)] := hl
  refine lv_iload_n C.1 C.2.1 dX11_loop_5 rfl (lv_at hl 0 rfl) ?_
  refine lv_bipush C.1 C.2.1 (v := (-100)) dX11_loop_6 rfl ?_
  refine lv_icmp_ne C.1 C.2.1 (tgt := 13) dX11_loop_8 (by decide) (fun hc => ?_) (fun hc => ?_)
  · have h := h.1 hc
    refine lv_aload_n C.1 C.2.1 dX11_loop_13 rfl (lv_at hl 1 rfl) ?_
    refine gf10_0 C hP hb (m10 hb hL) q1438 dX11_loop_14 ?_
    refine lv_sipush C.1 C.2.1 (v := 211) dX11_loop_17 rfl ?_
    refine lv_iload_n C.1 C.2.1 dX11_loop_20 rfl (lv_at hl 0 rfl) ?_
    refine lv_iconst C.1 C.2.1 (v := 0) dX11_loop_21 rfl ?_
    refine z_ki hS (z_runV (As := [.int 211, .int r2, .int 0]) (rest := []) C hP hS (m10_2 hb hL) (e9 (k10_2 hb)) rfl (tX10_put C.2.2.2.2.2.2.1 (hL.mo (Nat.le_of_ble_eq_true rfl) (Nat.le_of_ble_eq_true rfl)) (k10_2 hb) h) q1624 q1625 q1626 q117 q1627 hdX10_put ⟨Nat.le_of_ble_eq_true rfl, Nat.le_of_ble_eq_true rfl⟩ ⟨Nat.zero_le _, Nat.zero_le _⟩ rfl hl.1 rfl (lv_room (Nat.le_of_ble_eq_true rfl)) dX11_loop_22) (fun r4 st3 H locs h hP hS => ?_)
    refine lv_istore_n C.1 C.2.1 dX11_loop_25 rfl hl (Nat.le_of_ble_eq_true rfl) rfl (fun ls hl => ?_)
    have hl : lv_has ls 4 [(3, .int r4), (2, .int r2), (0, .ref (E.2.1 b)), (1, .int p1)] := hl
    refine lv_aload_n C.1 C.2.1 dX11_loop_26 rfl (lv_at hl 2 rfl) ?_
    refine lv_iload_n C.1 C.2.1 dX11_loop_27 rfl (lv_at hl 3 rfl) ?_
    refine lv_iconst C.1 C.2.1 (v := 1) dX11_loop_28 rfl ?_
    refine lv_iadd C.1 C.2.1 dX11_loop_29  ?_
    refine z_ki hS (z_runV (As := [.int (p1 + 1)]) (rest := []) C hP hS (m10 hb hL) (e10 hb) rfl (tX11_block_0 C.2.2.2.2.2.2.1 (hL.mo (Nat.le_of_ble_eq_true rfl) (Nat.le_of_ble_eq_true rfl)) hb h) q1605 q1607 q56 q124 q1608 hdX11_block_0 ⟨Nat.le_of_ble_eq_true rfl, Nat.le_of_ble_eq_true rfl⟩ ⟨Nat.zero_le _, Nat.zero_le _⟩ rfl hl.1 rfl (lv_room (Nat.le_of_ble_eq_true rfl)) dX11_loop_30) (fun r6 st5 H locs h hP hS => ?_)
    obtain ⟨hr6, h⟩ := h
    refine lv_if_ne C.1 C.2.1 (tgt := 38) dX11_loop_33 (by decide) (fun hc => ?_) (fun hc => ?_)
    · have h := h.1 hc
      refine lv_aload_n C.1 C.2.1 dX11_loop_38 rfl (lv_at hl 2 rfl) ?_
      refine gf10_0 C hP hb (m10 hb hL) q1438 dX11_loop_39 ?_
      refine lv_sipush C.1 C.2.1 (v := 300) dX11_loop_42 rfl ?_
      refine lv_iload_n C.1 C.2.1 dX11_loop_45 rfl (lv_at hl 0 rfl) ?_
      refine lv_iconst C.1 C.2.1 (v := 0) dX11_loop_46 rfl ?_
      refine z_ki hS (z_runV (As := [.int 300, .int r4, .int 0]) (rest := []) C hP hS (m10_2 hb hL) (e9 (k10_2 hb)) rfl (tX10_put C.2.2.2.2.2.2.1 (hL.mo (Nat.le_of_ble_eq_true rfl) (Nat.le_of_ble_eq_true rfl)) (k10_2 hb) h) q1624 q1625 q1626 q117 q1627 hdX10_put ⟨Nat.le_of_ble_eq_true rfl, Nat.le_of_ble_eq_true rfl⟩ ⟨Nat.zero_le _, Nat.zero_le _⟩ rfl hl.1 rfl (lv_room (Nat.le_of_ble_eq_true rfl)) dX11_loop_47) (fun r8 st7 H locs h hP hS => ?_)
      refine lv_pop C.1 C.2.1 dX11_loop_50 rfl ?_
      refine lv_aload_n C.1 C.2.1 dX11_loop_51 rfl (lv_at hl 2 rfl) ?_
      refine gf10_0 C hP hb (m10 hb hL) q1438 dX11_loop_52 ?_
      refine gf9_8 C hP (k10_2 hb) (m10_2 hb hL) q1339 dX11_loop_55 ?_
      refine lv_iconst C.1 C.2.1 (v := 4) dX11_loop_58 rfl ?_
      refine lv_iload_n C.1 C.2.1 dX11_loop_59 rfl (lv_at hl 0 rfl) ?_
      refine lv_imul C.1 C.2.1 dX11_loop_60  ?_
      refine lv_iconst C.1 C.2.1 (v := 3) dX11_loop_61 rfl ?_
      refine lv_iadd C.1 C.2.1 dX11_loop_62  ?_
      refine lv_aload_n C.1 C.2.1 dX11_loop_63 rfl (lv_at hl 2 rfl) ?_
      refine gf10_0 C hP hb (m10 hb hL) q1438 dX11_loop_64 ?_
      refine gf9_9 C hP (k10_2 hb) (m10_2 hb hL) q1342 dX11_loop_67 ?_
      obtain ⟨hi, h⟩ := h
      refine z_iast C hP hS (k9_5 (k10_2 hb)) (l9_5 (k10_2 hb)) (m9_5 (k10_2 hb) hL) hi dX11_loop_70 (fun H locs hP hS => ?_)
      obtain ⟨st9, est9⟩ : ∃ z, z = uI st7 ((b + 2) + 5) (((4 : Int32) * r4) + 3 : Int32).toNatClampNeg (gI st7 (b + 2) 9) := ⟨_, rfl⟩
      rw [← est9] at hP; have h := h st9 est9
      refine lv_iconst C.1 C.2.1 (v := 1) dX11_loop_71 rfl ?_
      exact z_ri C hr hlk (bz_n bz1) hP hS ⟨bz1, h⟩ dX11_loop_72
    · have h := h.2 hc
      refine lv_iconst C.1 C.2.1 (v := 0) dX11_loop_36 rfl ?_
      exact z_ri C hr hlk (bz_n bz0) hP hS ⟨bz0, h⟩ dX11_loop_37
  · have h := h.2 hc
    refine lv_iconst C.1 C.2.1 (v := 0) dX11_loop_11 rfl ?_
    exact z_ri C hr hlk (bz_n bz0) hP hS ⟨bz0, h⟩ dX11_loop_12
def rmX11_choice_1 : Room := { frames := 10, cells := 0, slots := 0, locals := 218 }
def wX11_choice_1_L64 (b : Nat) (p1 : Int32)  (v1 : Int32) (v3 : Int32) (s0 : Int32) (st : St) (Q : Int32 → St → Prop) : Prop :=
  (vp_in (((4 : Int32) * v3) + 3) 1600 ∧ ∀ st9, st9 = uI st ((b + 2) + 5) (((4 : Int32) * v3) + 3 : Int32).toNatClampNeg (gI st (b + 2) 9) → ((¬ s0 = (-1) → (wX11_next b st9 (fun st10 => (wX11_block_0 b (v1 + 1) st10 (fun r12 st11 => ((¬ r12 = 0 → (vp_in (((4 : Int32) * s0) + 1) 1600 ∧ ∀ st13, st13 = uI st11 ((b + 2) + 5) (((4 : Int32) * s0) + 1 : Int32).toNatClampNeg (gI st11 (b + 2) 9) → Q 1 st13)) ∧ (r12 = 0 → Q 0 st11))))))) ∧ (s0 = (-1) → Q 1 st9)))
def wX11_choice_1 (b : Nat) (p1 : Int32) (st : St) (Q : Int32 → St → Prop) : Prop :=
  (wX11_row b st (fun r2 st1 => ((¬ r2 = (-100) → (wX10_put (b + 2) 212 r2 0 st1 (fun r4 st3 => (wX11_block_0 b (p1 + 1) st3 (fun r6 st5 => ((¬ r6 = 0 → ((¬ (gI st5 b 6) = 213 → wX11_choice_1_L64 b p1 p1 r4 (-1) st5 Q) ∧ ((gI st5 b 6) = 213 → (wX10_put (b + 2) 300 0 0 st5 (fun r8 st7 => wX11_choice_1_L64 b p1 p1 r4 r8 st7 Q))))) ∧ (r6 = 0 → Q 0 st5))))))) ∧ (r2 = (-100) → Q 0 st1))))
theorem hdX11_choice_1 : yX11_choice.cls = "PlankBridgeModel$Reader" ∧ yX11_choice.cls ≠ "java/lang/invoke/MethodHandle" ∧ yX11_choice.cls ≠ "java/lang/invoke/VarHandle" ∧ (parseMethodDescriptor yX11_choice.desc).map (fun d => d.parameters.length) = some 1 := by decide +kernel
set_option maxHeartbeats 4000000 in
set_option maxRecDepth 100000 in
theorem tX11_choice_1_L64 {l : Launch} {p : Program} {e : Env} {s : State} {m : MethodId} {args : Array Value} {below : List Frame} {meth : Method} {c : Code} {E : En0} {L : List Nat} (hL : Cov 54 77 L) (C : Cx E L "PlankBridgeModel$Reader" cX11_choice 5 p s m args c) (hr : meth.sig.returnType = (some .boolean)) (hlk : meth.locks = false) {b : Nat} {p1 : Int32} {Q : Int32 → St → Prop} (hb : kd b = 10) {v1 : Int32} {v3 : Int32} {s0 : Int32}  {st : St} (H : Heap) (locs : List Loc) (ls : Array Slot) (h : wX11_choice_1_L64 b p1 v1 v3 s0 st Q) (hl : lv_has ls 5 [(0, .ref (E.2.1 b)), (1, .int v1), (3, .int v3)]) (hP : va_P E.1 vwCl (wd E L st) H) (hS : va_S (fA E L s.heap.size) s.heap H locs) : W p l e rmX11_choice_1 s m args below meth c H locs 0 0 (MQ below (zI E L (fun r u => bz r ∧ Q r u) (fA E L s.heap.size)) args s rmX11_choice_1.cells rmX11_choice_1.slots (fA E L s.heap.size)) (F0 m 64 ls [.int s0]) := by
  unfold wX11_choice_1_L64 at h
  refine lv_istore C.1 C.2.1 dX11_choice_64 hl (Nat.le_of_ble_eq_true rfl) rfl (fun ls hl => ?_)
  have hl : lv_has ls 5 [(4, .int s0), (0, .ref (E.2.1 b)), (1, .int v1), (3, .int v3)] := hl
  refine lv_aload_n C.1 C.2.1 dX11_choice_66 rfl (lv_at hl 1 rfl) ?_
  refine gf10_0 C hP hb (m10 hb hL) q1438 dX11_choice_67 ?_
  refine gf9_8 C hP (k10_2 hb) (m10_2 hb hL) q1339 dX11_choice_70 ?_
  refine lv_iconst C.1 C.2.1 (v := 4) dX11_choice_73 rfl ?_
  refine lv_iload_n C.1 C.2.1 dX11_choice_74 rfl (lv_at hl 3 rfl) ?_
  refine lv_imul C.1 C.2.1 dX11_choice_75  ?_
  refine lv_iconst C.1 C.2.1 (v := 3) dX11_choice_76 rfl ?_
  refine lv_iadd C.1 C.2.1 dX11_choice_77  ?_
  refine lv_aload_n C.1 C.2.1 dX11_choice_78 rfl (lv_at hl 1 rfl) ?_
  refine gf10_0 C hP hb (m10 hb hL) q1438 dX11_choice_79 ?_
  refine gf9_9 C hP (k10_2 hb) (m10_2 hb hL) q1342 dX11_choice_82 ?_
  obtain ⟨hi, h⟩ := h
  refine z_iast C hP hS (k9_5 (k10_2 hb)) (l9_5 (k10_2 hb)) (m9_5 (k10_2 hb) hL) hi dX11_choice_85 (fun H locs hP hS => ?_)
  obtain ⟨st9, est9⟩ : ∃ z, z = uI st ((b + 2) + 5) (((4 : Int32) * v3) + 3 : Int32).toNatClampNeg (gI st (b + 2) 9) := ⟨_, rfl⟩
  rw [← est9] at hP; have h := h st9 est9
  refine lv_iload C.1 C.2.1 dX11_choice_86 (lv_at hl 0 rfl) ?_
  refine lv_iconst C.1 C.2.1 (v := (-1)) dX11_choice_88 rfl ?_
  refine lv_icmp_ne C.1 C.2.1 (tgt := 94) dX11_choice_89 (by decide) (fun hc => ?_) (fun hc => ?_)
  · have h := h.1 hc
    refine lv_aload_n C.1 C.2.1 dX11_choice_94 rfl (lv_at hl 1 rfl) ?_
    refine z_kv hS (z_runV (As := []) (rest := []) C hP hS (m10 hb hL) (e10 hb) rfl (tX11_next C.2.2.2.2.2.2.1 (hL.mo (Nat.le_of_ble_eq_true rfl) (Nat.le_of_ble_eq_true rfl)) hb h) q1492 q1494 q41 q124 q1495 hdX11_next ⟨Nat.le_of_ble_eq_true rfl, Nat.le_of_ble_eq_true rfl⟩ ⟨Nat.zero_le _, Nat.zero_le _⟩ rfl hl.1 rfl (lv_room (Nat.le_of_ble_eq_true rfl)) dX11_choice_95) (fun st10 H locs h hP hS => ?_)
    refine lv_aload_n C.1 C.2.1 dX11_choice_98 rfl (lv_at hl 1 rfl) ?_
    refine lv_iload_n C.1 C.2.1 dX11_choice_99 rfl (lv_at hl 2 rfl) ?_
    refine lv_iconst C.1 C.2.1 (v := 1) dX11_choice_100 rfl ?_
    refine lv_iadd C.1 C.2.1 dX11_choice_101  ?_
    refine z_ki hS (z_runV (As := [.int (v1 + 1)]) (rest := []) C hP hS (m10 hb hL) (e10 hb) rfl (tX11_block_0 C.2.2.2.2.2.2.1 (hL.mo (Nat.le_of_ble_eq_true rfl) (Nat.le_of_ble_eq_true rfl)) hb h) q1605 q1607 q56 q124 q1608 hdX11_block_0 ⟨Nat.le_of_ble_eq_true rfl, Nat.le_of_ble_eq_true rfl⟩ ⟨Nat.zero_le _, Nat.zero_le _⟩ rfl hl.1 rfl (lv_room (Nat.le_of_ble_eq_true rfl)) dX11_choice_102) (fun r12 st11 H locs h hP hS => ?_)
    obtain ⟨hr12, h⟩ := h
    refine lv_if_ne C.1 C.2.1 (tgt := 110) dX11_choice_105 (by decide) (fun hc => ?_) (fun hc => ?_)
    · have h := h.1 hc
      refine lv_aload_n C.1 C.2.1 dX11_choice_110 rfl (lv_at hl 1 rfl) ?_
      refine gf10_0 C hP hb (m10 hb hL) q1438 dX11_choice_111 ?_
      refine gf9_8 C hP (k10_2 hb) (m10_2 hb hL) q1339 dX11_choice_114 ?_
      refine lv_iconst C.1 C.2.1 (v := 4) dX11_choice_117 rfl ?_
      refine lv_iload C.1 C.2.1 dX11_choice_118 (lv_at hl 0 rfl) ?_
      refine lv_imul C.1 C.2.1 dX11_choice_120  ?_
      refine lv_iconst C.1 C.2.1 (v := 1) dX11_choice_121 rfl ?_
      refine lv_iadd C.1 C.2.1 dX11_choice_122  ?_
      refine lv_aload_n C.1 C.2.1 dX11_choice_123 rfl (lv_at hl 1 rfl) ?_
      refine gf10_0 C hP hb (m10 hb hL) q1438 dX11_choice_124 ?_
      refine gf9_9 C hP (k10_2 hb) (m10_2 hb hL) q1342 dX11_choice_127 ?_
      obtain ⟨hi, h⟩ := h
      refine z_iast C hP hS (k9_5 (k10_2 hb)) (l9_5 (k10_2 hb)) (m9_5 (k10_2 hb) hL) hi dX11_choice_130 (fun H locs hP hS => ?_)
      obtain ⟨st13, est13⟩ : ∃ z, z = uI st11 ((b + 2) + 5) (((4 : Int32) * s0) + 1 : Int32).toNatClampNeg (gI st11 (b + 2) 9) := ⟨_, rfl⟩
      rw [← est13] at hP; have h := h st13 est13
      refine lv_iconst C.1 C.2.1 (v := 1) dX11_choice_131 rfl ?_
      exact z_ri C hr hlk (bz_n bz1) hP hS ⟨bz1, h⟩ dX11_choice_132
    · have h := h.2 hc
      refine lv_iconst C.1 C.2.1 (v := 0) dX11_choice_108 rfl ?_
      exact z_ri C hr hlk (bz_n bz0) hP hS ⟨bz0, h⟩ dX11_choice_109
  · have h := h.2 hc
    refine lv_iconst C.1 C.2.1 (v := 1) dX11_choice_92 rfl ?_
    exact z_ri C hr hlk (bz_n bz1) hP hS ⟨bz1, h⟩ dX11_choice_93
set_option maxHeartbeats 4000000 in
set_option maxRecDepth 100000 in
theorem tX11_choice_1 {l : Launch} {E : En0} {L : List Nat} (hE : EK E L) (hL : Cov 54 77 L) {b : Nat} {p1 : Int32} {st : St} {Q : Int32 → St → Prop} (hb : kd b = 10) (h : wX11_choice_1 b p1 st Q) : Mz l yX11_choice cX11_choice 5 (some .boolean) rmX11_choice_1 E L [.ref (E.2.1 b), .int p1] st (zI E L (fun r u => bz r ∧ Q r u)) := by
  refine Mz.of hE (by decide) (Nat.le_of_ble_eq_true rfl) ?_
  intro p e s m below meth c ls C hr hlk _ hl hP
  replace C : Cx E L "PlankBridgeModel$Reader" cX11_choice 5 p s m _ c := C
  have hS : va_S (fA E L s.heap.size) s.heap s.heap [] := va_S.rf
  replace hl : lv_has ls 5 [(0, .ref (E.2.1 b)), (1, .int p1)] := hl
  unfold wX11_choice_1 at h
  refine lv_aload_n C.1 C.2.1 dX11_choice_0 rfl (lv_at hl 0 rfl) ?_
  refine z_ki hS (z_runV (As := []) (rest := []) C hP hS (m10 hb hL) (e10 hb) rfl (tX11_row C.2.2.2.2.2.2.1 (hL.mo (Nat.le_of_ble_eq_true rfl) (Nat.le_of_ble_eq_true rfl)) hb h) q1636 q1638 q62 q124 q1639 hdX11_row ⟨Nat.le_of_ble_eq_true rfl, Nat.le_of_ble_eq_true rfl⟩ ⟨Nat.zero_le _, Nat.zero_le _⟩ rfl hl.1 rfl (lv_room (Nat.le_of_ble_eq_true rfl)) dX11_choice_1) (fun r2 st1 H locs h hP hS => ?_)
  refine lv_istore_n C.1 C.2.1 dX11_choice_4 rfl hl (Nat.le_of_ble_eq_true rfl) rfl (fun ls hl => ?_)
  have hl : lv_has ls 5 [(2, .int r2), (0, .ref (E.2.1 b)), (1, .int p1)] := hl
  refine lv_iload_n C.1 C.2.1 dX11_choice_5 rfl (lv_at hl 0 rfl) ?_
  refine lv_bipush C.1 C.2.1 (v := (-100)) dX11_choice_6 rfl ?_
  refine lv_icmp_ne C.1 C.2.1 (tgt := 13) dX11_choice_8 (by decide) (fun hc => ?_) (fun hc => ?_)
  · have h := h.1 hc
    refine lv_aload_n C.1 C.2.1 dX11_choice_13 rfl (lv_at hl 1 rfl) ?_
    refine gf10_0 C hP hb (m10 hb hL) q1438 dX11_choice_14 ?_
    refine lv_sipush C.1 C.2.1 (v := 212) dX11_choice_17 rfl ?_
    refine lv_iload_n C.1 C.2.1 dX11_choice_20 rfl (lv_at hl 0 rfl) ?_
    refine lv_iconst C.1 C.2.1 (v := 0) dX11_choice_21 rfl ?_
    refine z_ki hS (z_runV (As := [.int 212, .int r2, .int 0]) (rest := []) C hP hS (m10_2 hb hL) (e9 (k10_2 hb)) rfl (tX10_put C.2.2.2.2.2.2.1 (hL.mo (Nat.le_of_ble_eq_true rfl) (Nat.le_of_ble_eq_true rfl)) (k10_2 hb) h) q1624 q1625 q1626 q117 q1627 hdX10_put ⟨Nat.le_of_ble_eq_true rfl, Nat.le_of_ble_eq_true rfl⟩ ⟨Nat.zero_le _, Nat.zero_le _⟩ rfl hl.1 rfl (lv_room (Nat.le_of_ble_eq_true rfl)) dX11_choice_22) (fun r4 st3 H locs h hP hS => ?_)
    refine lv_istore_n C.1 C.2.1 dX11_choice_25 rfl hl (Nat.le_of_ble_eq_true rfl) rfl (fun ls hl => ?_)
    have hl : lv_has ls 5 [(3, .int r4), (2, .int r2), (0, .ref (E.2.1 b)), (1, .int p1)] := hl
    refine lv_aload_n C.1 C.2.1 dX11_choice_26 rfl (lv_at hl 2 rfl) ?_
    refine lv_iload_n C.1 C.2.1 dX11_choice_27 rfl (lv_at hl 3 rfl) ?_
    refine lv_iconst C.1 C.2.1 (v := 1) dX11_choice_28 rfl ?_
    refine lv_iadd C.1 C.2.1 dX11_choice_29  ?_
    refine z_ki hS (z_runV (As := [.int (p1 + 1)]) (rest := []) C hP hS (m10 hb hL) (e10 hb) rfl (tX11_block_0 C.2.2.2.2.2.2.1 (hL.mo (Nat.le_of_ble_eq_true rfl) (Nat.le_of_ble_eq_true rfl)) hb h) q1605 q1607 q56 q124 q1608 hdX11_block_0 ⟨Nat.le_of_ble_eq_true rfl, Nat.le_of_ble_eq_true rfl⟩ ⟨Nat.zero_le _, Nat.zero_le _⟩ rfl hl.1 rfl (lv_room (Nat.le_of_ble_eq_true rfl)) dX11_choice_30) (fun r6 st5 H locs h hP hS => ?_)
    obtain ⟨hr6, h⟩ := h
    refine lv_if_ne C.1 C.2.1 (tgt := 38) dX11_choice_33 (by decide) (fun hc => ?_) (fun hc => ?_)
    · have h := h.1 hc
      refine lv_aload_n C.1 C.2.1 dX11_choice_38 rfl (lv_at hl 2 rfl) ?_
      refine gf10_6 C hP hb (m10 hb hL) q1445 dX11_choice_39 ?_
      refine lv_sipush C.1 C.2.1 (v := 213) dX11_choice_42 rfl ?_
      refine lv_icmp_ne C.1 C.2.1 (tgt := 63) dX11_choice_45 (by decide) (fun hc => ?_) (fun hc => ?_)
      · have h := h.1 hc
        refine lv_iconst C.1 C.2.1 (v := (-1)) dX11_choice_63 rfl ?_
        exact tX11_choice_1_L64 hL C hr hlk hb _ _ _ h (lv_sub hl [2, 3, 0] rfl) hP hS
      · have h := h.2 hc
        refine lv_aload_n C.1 C.2.1 dX11_choice_48 rfl (lv_at hl 2 rfl) ?_
        refine gf10_0 C hP hb (m10 hb hL) q1438 dX11_choice_49 ?_
        refine lv_sipush C.1 C.2.1 (v := 300) dX11_choice_52 rfl ?_
        refine lv_iconst C.1 C.2.1 (v := 0) dX11_choice_55 rfl ?_
        refine lv_iconst C.1 C.2.1 (v := 0) dX11_choice_56 rfl ?_
        refine z_ki hS (z_runV (As := [.int 300, .int 0, .int 0]) (rest := []) C hP hS (m10_2 hb hL) (e9 (k10_2 hb)) rfl (tX10_put C.2.2.2.2.2.2.1 (hL.mo (Nat.le_of_ble_eq_true rfl) (Nat.le_of_ble_eq_true rfl)) (k10_2 hb) h) q1624 q1625 q1626 q117 q1627 hdX10_put ⟨Nat.le_of_ble_eq_true rfl, Nat.le_of_ble_eq_true rfl⟩ ⟨Nat.zero_le _, Nat.zero_le _⟩ rfl hl.1 rfl (lv_room (Nat.le_of_ble_eq_true rfl)) dX11_choice_57) (fun r8 st7 H locs h hP hS => ?_)
        refine lv_goto C.1 C.2.1 (tgt := 64) dX11_choice_60 (by decide) ?_
        exact tX11_choice_1_L64 hL C hr hlk hb _ _ _ h (lv_sub hl [2, 3, 0] rfl) hP hS
    · have h := h.2 hc
      refine lv_iconst C.1 C.2.1 (v := 0) dX11_choice_36 rfl ?_
      exact z_ri C hr hlk (bz_n bz0) hP hS ⟨bz0, h⟩ dX11_choice_37
  · have h := h.2 hc
    refine lv_iconst C.1 C.2.1 (v := 0) dX11_choice_11 rfl ?_
    exact z_ri C hr hlk (bz_n bz0) hP hS ⟨bz0, h⟩ dX11_choice_12
def rmX11_act_1 : Room := { frames := 11, cells := 0, slots := 0, locals := 242 }
def wX11_act_1_L30 (b : Nat) (p1 : Int32)   (st : St) (Q : Int32 → St → Prop) : Prop :=
  (wX11_wrong b st (fun r3 st2 => Q r3 st2))
def wX11_act_1_L154 (b : Nat) (p1 : Int32)  (v2 : Int32) (st : St) (Q : Int32 → St → Prop) : Prop :=
  (wX11_value b st (fun r16 st15 => ((¬ r16 = (-100) → (wX10_put (b + 2) v2 r16 0 st15 (fun r18 st17 => (wX11_take b 59 st17 (fun r20 st19 => Q r20 st19))))) ∧ (r16 = (-100) → Q 0 st15))))
def wX11_act_1_L77 (b : Nat) (p1 : Int32)  (v1 : Int32) (st : St) (Q : Int32 → St → Prop) : Prop :=
  (∀ x5 : Int32, x5 = (gI st b 6) → (wX11_next b st (fun st6 => ((((x5 : Int32).toInt < 205 ∨ 212 < (x5 : Int32).toInt) → wX11_act_1_L154 b p1 x5 st6 Q) ∧ ((x5 = 205 → (wX11_send b st6 (fun r8 st7 => Q r8 st7))) ∧ (x5 = 206 → wX11_act_1_L154 b p1 x5 st6 Q) ∧ (x5 = 207 → wX11_act_1_L154 b p1 x5 st6 Q) ∧ (x5 = 208 → wX11_act_1_L154 b p1 x5 st6 Q) ∧ (x5 = 209 → wX11_act_1_L154 b p1 x5 st6 Q) ∧ (x5 = 210 → (wX11_does b st6 (fun r10 st9 => Q r10 st9))) ∧ (x5 = 211 → (wX11_loop_1 b v1 st6 (fun r12 st11 => Q r12 st11))) ∧ (x5 = 212 → (wX11_choice_1 b v1 st6 (fun r14 st13 => Q r14 st13))))))))
def wX11_act_1_L52 (b : Nat) (p1 : Int32)  (v1 : Int32) (st : St) (Q : Int32 → St → Prop) : Prop :=
  ((60 ≤ (gI st (b + 2) 3) → wX11_act_1_L77 b p1 v1 st Q) ∧ (¬ 60 ≤ (gI st (b + 2) 3) → (∀ st4, st4 = uI st (b + 2) 3 ((gI st (b + 2) 3) + 1) → wX11_act_1_L77 b p1 v1 st4 Q)))
def wX11_act_1 (b : Nat) (p1 : Int32) (st : St) (Q : Int32 → St → Prop) : Prop :=
  (((gI st b 6) < 205 → wX11_act_1_L30 b p1 st Q) ∧ (¬ (gI st b 6) < 205 → ((212 < (gI st b 6) → wX11_act_1_L30 b p1 st Q) ∧ (¬ 212 < (gI st b 6) → ((¬ (gI st b 6) = 206 → ((¬ (gI st (b + 2) 3) = 60 → wX11_act_1_L52 b p1 p1 st Q) ∧ ((gI st (b + 2) 3) = 60 → (wX11_note b 4 st (fun st1 => wX11_act_1_L52 b p1 p1 st1 Q))))) ∧ ((gI st b 6) = 206 → wX11_act_1_L30 b p1 st Q))))))
theorem hdX11_act_1 : yX11_act.cls = "PlankBridgeModel$Reader" ∧ yX11_act.cls ≠ "java/lang/invoke/MethodHandle" ∧ yX11_act.cls ≠ "java/lang/invoke/VarHandle" ∧ (parseMethodDescriptor yX11_act.desc).map (fun d => d.parameters.length) = some 1 := by decide +kernel
set_option maxHeartbeats 4000000 in
set_option maxRecDepth 100000 in
theorem tX11_act_1_L30 {l : Launch} {p : Program} {e : Env} {s : State} {m : MethodId} {args : Array Value} {below : List Frame} {meth : Method} {c : Code} {E : En0} {L : List Nat} (hL : Cov 54 77 L) (C : Cx E L "PlankBridgeModel$Reader" cX11_act 4 p s m args c) (hr : meth.sig.returnType = (some .boolean)) (hlk : meth.locks = false) {b : Nat} {p1 : Int32} {Q : Int32 → St → Prop} (hb : kd b = 10)   {st : St} (H : Heap) (locs : List Loc) (ls : Array Slot) (h : wX11_act_1_L30 b p1 st Q) (hl : lv_has ls 4 [(0, .ref (E.2.1 b))]) (hP : va_P E.1 vwCl (wd E L st) H) (hS : va_S (fA E L s.heap.size) s.heap H locs) : W p l e rmX11_act_1 s m args below meth c H locs 0 0 (MQ below (zI E L (fun r u => bz r ∧ Q r u) (fA E L s.heap.size)) args s rmX11_act_1.cells rmX11_act_1.slots (fA E L s.heap.size)) (F0 m 30 ls []) := by
  unfold wX11_act_1_L30 at h
  refine lv_aload_n C.1 C.2.1 dX11_act_30 rfl (lv_at hl 0 rfl) ?_
  refine z_ki hS (z_runV (As := []) (rest := []) C hP hS (m10 hb hL) (e10 hb) rfl (tX11_wrong C.2.2.2.2.2.2.1 (hL.mo (Nat.le_of_ble_eq_true rfl) (Nat.le_of_ble_eq_true rfl)) hb h) q1576 q1578 q49 q124 q1579 hdX11_wrong ⟨Nat.le_of_ble_eq_true rfl, Nat.le_of_ble_eq_true rfl⟩ ⟨Nat.zero_le _, Nat.zero_le _⟩ rfl hl.1 rfl (lv_room (Nat.le_of_ble_eq_true rfl)) dX11_act_31) (fun r3 st2 H locs h hP hS => ?_)
  obtain ⟨hr3, h⟩ := h
  exact z_ri C hr hlk (bz_n hr3) hP hS ⟨hr3, h⟩ dX11_act_34
set_option maxHeartbeats 4000000 in
set_option maxRecDepth 100000 in
theorem tX11_act_1_L154 {l : Launch} {p : Program} {e : Env} {s : State} {m : MethodId} {args : Array Value} {below : List Frame} {meth : Method} {c : Code} {E : En0} {L : List Nat} (hL : Cov 54 77 L) (C : Cx E L "PlankBridgeModel$Reader" cX11_act 4 p s m args c) (hr : meth.sig.returnType = (some .boolean)) (hlk : meth.locks = false) {b : Nat} {p1 : Int32} {Q : Int32 → St → Prop} (hb : kd b = 10) {v2 : Int32}  {st : St} (H : Heap) (locs : List Loc) (ls : Array Slot) (h : wX11_act_1_L154 b p1 v2 st Q) (hl : lv_has ls 4 [(0, .ref (E.2.1 b)), (2, .int v2)]) (hP : va_P E.1 vwCl (wd E L st) H) (hS : va_S (fA E L s.heap.size) s.heap H locs) : W p l e rmX11_act_1 s m args below meth c H locs 0 0 (MQ below (zI E L (fun r u => bz r ∧ Q r u) (fA E L s.heap.size)) args s rmX11_act_1.cells rmX11_act_1.slots (fA E L s.heap.size)) (F0 m 154 ls []) := by
  unfold wX11_act_1_L154 at h
  refine lv_aload_n C.1 C.2.1 dX11_act_154 rfl (lv_at hl 0 rfl) ?_
  refine z_ki hS (z_runV (As := []) (rest := []) C hP hS (m10 hb hL) (e10 hb) rfl (tX11_value C.2.2.2.2.2.2.1 (hL.mo (Nat.le_of_ble_eq_true rfl) (Nat.le_of_ble_eq_true rfl)) hb h) q1640 q1642 q63 q124 q1643 hdX11_value ⟨Nat.le_of_ble_eq_true rfl, Nat.le_of_ble_eq_true rfl⟩ ⟨Nat.zero_le _, Nat.zero_le _⟩ rfl hl.1 rfl (lv_room (Nat.le_of_ble_eq_true rfl)) dX11_act_155) (fun r16 st15 H locs h hP hS => ?_)
  refine lv_istore_n C.1 C.2.1 dX11_act_158 rfl hl (Nat.le_of_ble_eq_true rfl) rfl (fun ls hl => ?_)
  have hl : lv_has ls 4 [(3, .int r16), (0, .ref (E.2.1 b)), (2, .int v2)] := hl
  refine lv_iload_n C.1 C.2.1 dX11_act_159 rfl (lv_at hl 0 rfl) ?_
  refine lv_bipush C.1 C.2.1 (v := (-100)) dX11_act_160 rfl ?_
  refine lv_icmp_ne C.1 C.2.1 (tgt := 167) dX11_act_162 (by decide) (fun hc => ?_) (fun hc => ?_)
  · have h := h.1 hc
    refine lv_aload_n C.1 C.2.1 dX11_act_167 rfl (lv_at hl 1 rfl) ?_
    refine gf10_0 C hP hb (m10 hb hL) q1438 dX11_act_168 ?_
    refine lv_iload_n C.1 C.2.1 dX11_act_171 rfl (lv_at hl 2 rfl) ?_
    refine lv_iload_n C.1 C.2.1 dX11_act_172 rfl (lv_at hl 0 rfl) ?_
    refine lv_iconst C.1 C.2.1 (v := 0) dX11_act_173 rfl ?_
    refine z_ki hS (z_runV (As := [.int v2, .int r16, .int 0]) (rest := []) C hP hS (m10_2 hb hL) (e9 (k10_2 hb)) rfl (tX10_put C.2.2.2.2.2.2.1 (hL.mo (Nat.le_of_ble_eq_true rfl) (Nat.le_of_ble_eq_true rfl)) (k10_2 hb) h) q1624 q1625 q1626 q117 q1627 hdX10_put ⟨Nat.le_of_ble_eq_true rfl, Nat.le_of_ble_eq_true rfl⟩ ⟨Nat.zero_le _, Nat.zero_le _⟩ rfl hl.1 rfl (lv_room (Nat.le_of_ble_eq_true rfl)) dX11_act_174) (fun r18 st17 H locs h hP hS => ?_)
    refine lv_pop C.1 C.2.1 dX11_act_177 rfl ?_
    refine lv_aload_n C.1 C.2.1 dX11_act_178 rfl (lv_at hl 1 rfl) ?_
    refine lv_bipush C.1 C.2.1 (v := 59) dX11_act_179 rfl ?_
    refine z_ki hS (z_runV (As := [.int 59]) (rest := []) C hP hS (m10 hb hL) (e10 hb) rfl (tX11_take C.2.2.2.2.2.2.1 (hL.mo (Nat.le_of_ble_eq_true rfl) (Nat.le_of_ble_eq_true rfl)) hb h) q1588 q1590 q52 q124 q1591 hdX11_take ⟨Nat.le_of_ble_eq_true rfl, Nat.le_of_ble_eq_true rfl⟩ ⟨Nat.zero_le _, Nat.zero_le _⟩ rfl hl.1 rfl (lv_room (Nat.le_of_ble_eq_true rfl)) dX11_act_181) (fun r20 st19 H locs h hP hS => ?_)
    obtain ⟨hr20, h⟩ := h
    exact z_ri C hr hlk (bz_n hr20) hP hS ⟨hr20, h⟩ dX11_act_184
  · have h := h.2 hc
    refine lv_iconst C.1 C.2.1 (v := 0) dX11_act_165 rfl ?_
    exact z_ri C hr hlk (bz_n bz0) hP hS ⟨bz0, h⟩ dX11_act_166
set_option maxHeartbeats 4000000 in
set_option maxRecDepth 100000 in
theorem tX11_act_1_L77 {l : Launch} {p : Program} {e : Env} {s : State} {m : MethodId} {args : Array Value} {below : List Frame} {meth : Method} {c : Code} {E : En0} {L : List Nat} (hL : Cov 54 77 L) (C : Cx E L "PlankBridgeModel$Reader" cX11_act 4 p s m args c) (hr : meth.sig.returnType = (some .boolean)) (hlk : meth.locks = false) {b : Nat} {p1 : Int32} {Q : Int32 → St → Prop} (hb : kd b = 10) {v1 : Int32}  {st : St} (H : Heap) (locs : List Loc) (ls : Array Slot) (h : wX11_act_1_L77 b p1 v1 st Q) (hl : lv_has ls 4 [(0, .ref (E.2.1 b)), (1, .int v1)]) (hP : va_P E.1 vwCl (wd E L st) H) (hS : va_S (fA E L s.heap.size) s.heap H locs) : W p l e rmX11_act_1 s m args below meth c H locs 0 0 (MQ below (zI E L (fun r u => bz r ∧ Q r u) (fA E L s.heap.size)) args s rmX11_act_1.cells rmX11_act_1.slots (fA E L s.heap.size)) (F0 m 77 ls []) := by
  unfold wX11_act_1_L77 at h
  refine lv_aload_n C.1 C.2.1 dX11_act_77 rfl (lv_at hl 0 rfl) ?_
  refine gf10_6 C hP hb (m10 hb hL) q1445 dX11_act_78 ?_
  refine lv_topi (fun x5 ex5 => ?_)
  have h := h x5 ex5
  refine lv_istore_n C.1 C.2.1 dX11_act_81 rfl hl (Nat.le_of_ble_eq_true rfl) rfl (fun ls hl => ?_)
  have hl : lv_has ls 4 [(2, .int x5), (0, .ref (E.2.1 b)), (1, .int v1)] := hl
  refine lv_aload_n C.1 C.2.1 dX11_act_82 rfl (lv_at hl 1 rfl) ?_
  refine z_kv hS (z_runV (As := []) (rest := []) C hP hS (m10 hb hL) (e10 hb) rfl (tX11_next C.2.2.2.2.2.2.1 (hL.mo (Nat.le_of_ble_eq_true rfl) (Nat.le_of_ble_eq_true rfl)) hb h) q1492 q1494 q41 q124 q1495 hdX11_next ⟨Nat.le_of_ble_eq_true rfl, Nat.le_of_ble_eq_true rfl⟩ ⟨Nat.zero_le _, Nat.zero_le _⟩ rfl hl.1 rfl (lv_room (Nat.le_of_ble_eq_true rfl)) dX11_act_83) (fun st6 H locs h hP hS => ?_)
  refine lv_iload_n C.1 C.2.1 dX11_act_86 rfl (lv_at hl 0 rfl) ?_
  rcases Classical.em ((x5 : Int32).toInt < 205 ∨ 212 < (x5 : Int32).toInt) with hx | hx
  · have h := h.1 hx
    refine lv_tableOut C.1 C.2.1 (tgt := 154) dX11_act_87 hx (by decide) ?_
    exact tX11_act_1_L154 hL C hr hlk hb _ _ _ h (lv_sub hl [1, 0] rfl) hP hS
  · have h := h.2
    have hx : (x5 : Int32).toInt = 205 ∨ (x5 : Int32).toInt = 206 ∨ (x5 : Int32).toInt = 207 ∨ (x5 : Int32).toInt = 208 ∨ (x5 : Int32).toInt = 209 ∨ (x5 : Int32).toInt = 210 ∨ (x5 : Int32).toInt = 211 ∨ (x5 : Int32).toInt = 212 := by omega
    rcases hx with hx | hx | hx | hx | hx | hx | hx | hx
    · have h := h.1 (i32_eq (hx.trans (by decide)))
      refine lv_tableIn C.1 C.2.1 (off := 45) (tgt := 132) dX11_act_87 (by omega) (by omega) (by rw [hx]; rfl) (by decide) ?_
      refine lv_aload_n C.1 C.2.1 dX11_act_132 rfl (lv_at hl 1 rfl) ?_
      refine z_ki hS (z_runV (As := []) (rest := []) C hP hS (m10 hb hL) (e10 hb) rfl (tX11_send C.2.2.2.2.2.2.1 (hL.mo (Nat.le_of_ble_eq_true rfl) (Nat.le_of_ble_eq_true rfl)) hb h) q1613 q1615 q58 q124 q1616 hdX11_send ⟨Nat.le_of_ble_eq_true rfl, Nat.le_of_ble_eq_true rfl⟩ ⟨Nat.zero_le _, Nat.zero_le _⟩ rfl hl.1 rfl (lv_room (Nat.le_of_ble_eq_true rfl)) dX11_act_133) (fun r8 st7 H locs h hP hS => ?_)
      obtain ⟨hr8, h⟩ := h
      exact z_ri C hr hlk (bz_n hr8) hP hS ⟨hr8, h⟩ dX11_act_136
    · have h := h.2.1 (i32_eq (hx.trans (by decide)))
      refine lv_tableIn C.1 C.2.1 (off := 67) (tgt := 154) dX11_act_87 (by omega) (by omega) (by rw [hx]; rfl) (by decide) ?_
      exact tX11_act_1_L154 hL C hr hlk hb _ _ _ h (lv_sub hl [1, 0] rfl) hP hS
    · have h := h.2.2.1 (i32_eq (hx.trans (by decide)))
      refine lv_tableIn C.1 C.2.1 (off := 67) (tgt := 154) dX11_act_87 (by omega) (by omega) (by rw [hx]; rfl) (by decide) ?_
      exact tX11_act_1_L154 hL C hr hlk hb _ _ _ h (lv_sub hl [1, 0] rfl) hP hS
    · have h := h.2.2.2.1 (i32_eq (hx.trans (by decide)))
      refine lv_tableIn C.1 C.2.1 (off := 67) (tgt := 154) dX11_act_87 (by omega) (by omega) (by rw [hx]; rfl) (by decide) ?_
      exact tX11_act_1_L154 hL C hr hlk hb _ _ _ h (lv_sub hl [1, 0] rfl) hP hS
    · have h := h.2.2.2.2.1 (i32_eq (hx.trans (by decide)))
      refine lv_tableIn C.1 C.2.1 (off := 67) (tgt := 154) dX11_act_87 (by omega) (by omega) (by rw [hx]; rfl) (by decide) ?_
      exact tX11_act_1_L154 hL C hr hlk hb _ _ _ h (lv_sub hl [1, 0] rfl) hP hS
    · have h := h.2.2.2.2.2.1 (i32_eq (hx.trans (by decide)))
      refine lv_tableIn C.1 C.2.1 (off := 50) (tgt := 137) dX11_act_87 (by omega) (by omega) (by rw [hx]; rfl) (by decide) ?_
      refine lv_aload_n C.1 C.2.1 dX11_act_137 rfl (lv_at hl 1 rfl) ?_
      refine z_ki hS (z_runV (As := []) (rest := []) C hP hS (m10 hb hL) (e10 hb) rfl (tX11_does C.2.2.2.2.2.2.1 (hL.mo (Nat.le_of_ble_eq_true rfl) (Nat.le_of_ble_eq_true rfl)) hb h) q1628 q1630 q60 q124 q1631 hdX11_does ⟨Nat.le_of_ble_eq_true rfl, Nat.le_of_ble_eq_true rfl⟩ ⟨Nat.zero_le _, Nat.zero_le _⟩ rfl hl.1 rfl (lv_room (Nat.le_of_ble_eq_true rfl)) dX11_act_138) (fun r10 st9 H locs h hP hS => ?_)
      obtain ⟨hr10, h⟩ := h
      exact z_ri C hr hlk (bz_n hr10) hP hS ⟨hr10, h⟩ dX11_act_141
    · have h := h.2.2.2.2.2.2.1 (i32_eq (hx.trans (by decide)))
      refine lv_tableIn C.1 C.2.1 (off := 55) (tgt := 142) dX11_act_87 (by omega) (by omega) (by rw [hx]; rfl) (by decide) ?_
      refine lv_aload_n C.1 C.2.1 dX11_act_142 rfl (lv_at hl 1 rfl) ?_
      refine lv_iload_n C.1 C.2.1 dX11_act_143 rfl (lv_at hl 2 rfl) ?_
      refine z_ki hS (z_runV (As := [.int v1]) (rest := []) C hP hS (m10 hb hL) (e10 hb) rfl (tX11_loop_1 C.2.2.2.2.2.2.1 (hL.mo (Nat.le_of_ble_eq_true rfl) (Nat.le_of_ble_eq_true rfl)) hb h) q1632 q1634 q61 q124 q1635 hdX11_loop_1 ⟨Nat.le_of_ble_eq_true rfl, Nat.le_of_ble_eq_true rfl⟩ ⟨Nat.zero_le _, Nat.zero_le _⟩ rfl hl.1 rfl (lv_room (Nat.le_of_ble_eq_true rfl)) dX11_act_144) (fun r12 st11 H locs h hP hS => ?_)
      obtain ⟨hr12, h⟩ := h
      exact z_ri C hr hlk (bz_n hr12) hP hS ⟨hr12, h⟩ dX11_act_147
    · have h := h.2.2.2.2.2.2.2 (i32_eq (hx.trans (by decide)))
      refine lv_tableIn C.1 C.2.1 (off := 61) (tgt := 148) dX11_act_87 (by omega) (by omega) (by rw [hx]; rfl) (by decide) ?_
      refine lv_aload_n C.1 C.2.1 dX11_act_148 rfl (lv_at hl 1 rfl) ?_
      refine lv_iload_n C.1 C.2.1 dX11_act_149 rfl (lv_at hl 2 rfl) ?_
      refine z_ki hS (z_runV (As := [.int v1]) (rest := []) C hP hS (m10 hb hL) (e10 hb) rfl (tX11_choice_1 C.2.2.2.2.2.2.1 (hL.mo (Nat.le_of_ble_eq_true rfl) (Nat.le_of_ble_eq_true rfl)) hb h) q1644 q1646 q64 q124 q1647 hdX11_choice_1 ⟨Nat.le_of_ble_eq_true rfl, Nat.le_of_ble_eq_true rfl⟩ ⟨Nat.zero_le _, Nat.zero_le _⟩ rfl hl.1 rfl (lv_room (Nat.le_of_ble_eq_true rfl)) dX11_act_150) (fun r14 st13 H locs h hP hS => ?_)
      obtain ⟨hr14, h⟩ := h
      exact z_ri C hr hlk (bz_n hr14) hP hS ⟨hr14, h⟩ dX11_act_153
set_option maxHeartbeats 4000000 in
set_option maxRecDepth 100000 in
theorem tX11_act_1_L52 {l : Launch} {p : Program} {e : Env} {s : State} {m : MethodId} {args : Array Value} {below : List Frame} {meth : Method} {c : Code} {E : En0} {L : List Nat} (hL : Cov 54 77 L) (C : Cx E L "PlankBridgeModel$Reader" cX11_act 4 p s m args c) (hr : meth.sig.returnType = (some .boolean)) (hlk : meth.locks = false) {b : Nat} {p1 : Int32} {Q : Int32 → St → Prop} (hb : kd b = 10) {v1 : Int32}  {st : St} (H : Heap) (locs : List Loc) (ls : Array Slot) (h : wX11_act_1_L52 b p1 v1 st Q) (hl : lv_has ls 4 [(0, .ref (E.2.1 b)), (1, .int v1)]) (hP : va_P E.1 vwCl (wd E L st) H) (hS : va_S (fA E L s.heap.size) s.heap H locs) : W p l e rmX11_act_1 s m args below meth c H locs 0 0 (MQ below (zI E L (fun r u => bz r ∧ Q r u) (fA E L s.heap.size)) args s rmX11_act_1.cells rmX11_act_1.slots (fA E L s.heap.size)) (F0 m 52 ls []) := by
  unfold wX11_act_1_L52 at h
  refine lv_aload_n C.1 C.2.1 dX11_act_52 rfl (lv_at hl 0 rfl) ?_
  refine gf10_0 C hP hb (m10 hb hL) q1438 dX11_act_53 ?_
  refine gf9_3 C hP (k10_2 hb) (m10_2 hb hL) q1325 dX11_act_56 ?_
  refine lv_bipush C.1 C.2.1 (v := 60) dX11_act_59 rfl ?_
  refine lv_icmp_ge C.1 C.2.1 (tgt := 77) dX11_act_61 (by decide) (fun hc => ?_) (fun hc => ?_)
  · have h := h.1 hc
    exact tX11_act_1_L77 hL C hr hlk hb _ _ _ h hl hP hS
  · have h := h.2 hc
    refine lv_aload_n C.1 C.2.1 dX11_act_64 rfl (lv_at hl 0 rfl) ?_
    refine gf10_0 C hP hb (m10 hb hL) q1438 dX11_act_65 ?_
    refine lv_dup C.1 C.2.1 dX11_act_68 rfl ?_
    refine gf9_3 C hP (k10_2 hb) (m10_2 hb hL) q1325 dX11_act_69 ?_
    refine lv_iconst C.1 C.2.1 (v := 1) dX11_act_72 rfl ?_
    refine lv_iadd C.1 C.2.1 dX11_act_73  ?_
    refine pf9_3 C hP hS (k10_2 hb) (m10_2 hb hL) q1325 dX11_act_74 (fun H locs hP hS => ?_)
    obtain ⟨st4, est4⟩ : ∃ z, z = uI st (b + 2) 3 ((gI st (b + 2) 3) + 1) := ⟨_, rfl⟩
    rw [← est4] at hP; have h := h st4 est4
    exact tX11_act_1_L77 hL C hr hlk hb _ _ _ h hl hP hS
set_option maxHeartbeats 4000000 in
set_option maxRecDepth 100000 in
theorem tX11_act_1 {l : Launch} {E : En0} {L : List Nat} (hE : EK E L) (hL : Cov 54 77 L) {b : Nat} {p1 : Int32} {st : St} {Q : Int32 → St → Prop} (hb : kd b = 10) (h : wX11_act_1 b p1 st Q) : Mz l yX11_act cX11_act 4 (some .boolean) rmX11_act_1 E L [.ref (E.2.1 b), .int p1] st (zI E L (fun r u => bz r ∧ Q r u)) := by
  refine Mz.of hE (by decide) (Nat.le_of_ble_eq_true rfl) ?_
  intro p e s m below meth c ls C hr hlk _ hl hP
  replace C : Cx E L "PlankBridgeModel$Reader" cX11_act 4 p s m _ c := C
  have hS : va_S (fA E L s.heap.size) s.heap s.heap [] := va_S.rf
  replace hl : lv_has ls 4 [(0, .ref (E.2.1 b)), (1, .int p1)] := hl
  unfold wX11_act_1 at h
  refine lv_aload_n C.1 C.2.1 dX11_act_0 rfl (lv_at hl 0 rfl) ?_
  refine gf10_6 C hP hb (m10 hb hL) q1445 dX11_act_1 ?_
  refine lv_sipush C.1 C.2.1 (v := 205) dX11_act_4 rfl ?_
  refine lv_icmp_lt C.1 C.2.1 (tgt := 30) dX11_act_7 (by decide) (fun hc => ?_) (fun hc => ?_)
  · have h := h.1 hc
    exact tX11_act_1_L30 hL C hr hlk hb _ _ _ h (lv_sub hl [0] rfl) hP hS
  · have h := h.2 hc
    refine lv_aload_n C.1 C.2.1 dX11_act_10 rfl (lv_at hl 0 rfl) ?_
    refine gf10_6 C hP hb (m10 hb hL) q1445 dX11_act_11 ?_
    refine lv_sipush C.1 C.2.1 (v := 212) dX11_act_14 rfl ?_
    refine lv_icmp_gt C.1 C.2.1 (tgt := 30) dX11_act_17 (by decide) (fun hc => ?_) (fun hc => ?_)
    · have h := h.1 hc
      exact tX11_act_1_L30 hL C hr hlk hb _ _ _ h (lv_sub hl [0] rfl) hP hS
    · have h := h.2 hc
      refine lv_aload_n C.1 C.2.1 dX11_act_20 rfl (lv_at hl 0 rfl) ?_
      refine gf10_6 C hP hb (m10 hb hL) q1445 dX11_act_21 ?_
      refine lv_sipush C.1 C.2.1 (v := 206) dX11_act_24 rfl ?_
      refine lv_icmp_ne C.1 C.2.1 (tgt := 35) dX11_act_27 (by decide) (fun hc => ?_) (fun hc => ?_)
      · have h := h.1 hc
        refine lv_aload_n C.1 C.2.1 dX11_act_35 rfl (lv_at hl 0 rfl) ?_
        refine gf10_0 C hP hb (m10 hb hL) q1438 dX11_act_36 ?_
        refine gf9_3 C hP (k10_2 hb) (m10_2 hb hL) q1325 dX11_act_39 ?_
        refine lv_bipush C.1 C.2.1 (v := 60) dX11_act_42 rfl ?_
        refine lv_icmp_ne C.1 C.2.1 (tgt := 52) dX11_act_44 (by decide) (fun hc => ?_) (fun hc => ?_)
        · have h := h.1 hc
          exact tX11_act_1_L52 hL C hr hlk hb _ _ _ h hl hP hS
        · have h := h.2 hc
          refine lv_aload_n C.1 C.2.1 dX11_act_47 rfl (lv_at hl 0 rfl) ?_
          refine lv_iconst C.1 C.2.1 (v := 4) dX11_act_48 rfl ?_
          refine z_kv hS (z_runV (As := [.int 4]) (rest := []) C hP hS (m10 hb hL) (e10 hb) rfl (tX11_note C.2.2.2.2.2.2.1 (hL.mo (Nat.le_of_ble_eq_true rfl) (Nat.le_of_ble_eq_true rfl)) hb h) q1584 q1586 q51 q124 q1587 hdX11_note ⟨Nat.le_of_ble_eq_true rfl, Nat.le_of_ble_eq_true rfl⟩ ⟨Nat.zero_le _, Nat.zero_le _⟩ rfl hl.1 rfl (lv_room (Nat.le_of_ble_eq_true rfl)) dX11_act_49) (fun st1 H locs h hP hS => ?_)
          exact tX11_act_1_L52 hL C hr hlk hb _ _ _ h hl hP hS
      · have h := h.2 hc
        exact tX11_act_1_L30 hL C hr hlk hb _ _ _ h (lv_sub hl [0] rfl) hP hS
def rmX11_block_1 : Room := { frames := 12, cells := 0, slots := 0, locals := 265 }
def wX11_block_1_L14 (b : Nat) (p1 : Int32)   (st : St) (Q : Int32 → St → Prop) : Prop :=
  (wX11_wrong b st (fun r3 st2 => Q r3 st2))
def wX11_block_1_L23 (b : Nat) (p1 : Int32)  (R23 : Int32 × St → Prop) (v1 : Int32) (st : St) (Q : Int32 → St → Prop) : Prop :=
  (((gI st b 6) = 41 → (wX11_next b st (fun st4 => Q 1 st4))) ∧ (¬ (gI st b 6) = 41 → (wX11_act_1 b v1 st (fun r6 st5 => ((¬ r6 = 0 → R23 (v1, st5)) ∧ (r6 = 0 → Q 0 st5))))))
def wX11_block_1 (b : Nat) (p1 : Int32) (st : St) (Q : Int32 → St → Prop) : Prop :=
  ((¬ (gI st b 6) = 40 → wX11_block_1_L14 b p1 st Q) ∧ ((gI st b 6) = 40 → ((p1 ≤ 3 → (wX11_next b st (fun st1 => (∃ n, lp (fun R s => wX11_block_1_L23 b p1 R s.1 s.2 Q) n (p1, st1))))) ∧ (¬ p1 ≤ 3 → wX11_block_1_L14 b p1 st Q))))
theorem hdX11_block_1 : yX11_block.cls = "PlankBridgeModel$Reader" ∧ yX11_block.cls ≠ "java/lang/invoke/MethodHandle" ∧ yX11_block.cls ≠ "java/lang/invoke/VarHandle" ∧ (parseMethodDescriptor yX11_block.desc).map (fun d => d.parameters.length) = some 1 := by decide +kernel
set_option maxHeartbeats 4000000 in
set_option maxRecDepth 100000 in
theorem tX11_block_1_L14 {l : Launch} {p : Program} {e : Env} {s : State} {m : MethodId} {args : Array Value} {below : List Frame} {meth : Method} {c : Code} {E : En0} {L : List Nat} (hL : Cov 54 77 L) (C : Cx E L "PlankBridgeModel$Reader" cX11_block 2 p s m args c) (hr : meth.sig.returnType = (some .boolean)) (hlk : meth.locks = false) {b : Nat} {p1 : Int32} {Q : Int32 → St → Prop} (hb : kd b = 10)   {st : St} (H : Heap) (locs : List Loc) (ls : Array Slot) (h : wX11_block_1_L14 b p1 st Q) (hl : lv_has ls 2 [(0, .ref (E.2.1 b))]) (hP : va_P E.1 vwCl (wd E L st) H) (hS : va_S (fA E L s.heap.size) s.heap H locs) : W p l e rmX11_block_1 s m args below meth c H locs 0 0 (MQ below (zI E L (fun r u => bz r ∧ Q r u) (fA E L s.heap.size)) args s rmX11_block_1.cells rmX11_block_1.slots (fA E L s.heap.size)) (F0 m 14 ls []) := by
  unfold wX11_block_1_L14 at h
  refine lv_aload_n C.1 C.2.1 dX11_block_14 rfl (lv_at hl 0 rfl) ?_
  refine z_ki hS (z_runV (As := []) (rest := []) C hP hS (m10 hb hL) (e10 hb) rfl (tX11_wrong C.2.2.2.2.2.2.1 (hL.mo (Nat.le_of_ble_eq_true rfl) (Nat.le_of_ble_eq_true rfl)) hb h) q1576 q1578 q49 q124 q1579 hdX11_wrong ⟨Nat.le_of_ble_eq_true rfl, Nat.le_of_ble_eq_true rfl⟩ ⟨Nat.zero_le _, Nat.zero_le _⟩ rfl hl.1 rfl (lv_room (Nat.le_of_ble_eq_true rfl)) dX11_block_15) (fun r3 st2 H locs h hP hS => ?_)
  obtain ⟨hr3, h⟩ := h
  exact z_ri C hr hlk (bz_n hr3) hP hS ⟨hr3, h⟩ dX11_block_18
set_option maxHeartbeats 4000000 in
set_option maxRecDepth 100000 in
theorem tX11_block_1_L23 {l : Launch} {p : Program} {e : Env} {s : State} {m : MethodId} {args : Array Value} {below : List Frame} {meth : Method} {c : Code} {E : En0} {L : List Nat} (hL : Cov 54 77 L) (C : Cx E L "PlankBridgeModel$Reader" cX11_block 2 p s m args c) (hr : meth.sig.returnType = (some .boolean)) (hlk : meth.locks = false) {b : Nat} {p1 : Int32} {Q : Int32 → St → Prop} (hb : kd b = 10) : ∀ (n : Nat) (v1 : Int32) (st : St) (H : Heap) (locs : List Loc) (ls : Array Slot), lp (fun R s => wX11_block_1_L23 b p1 R s.1 s.2 Q) n (v1, st) → lv_has ls 2 [(0, .ref (E.2.1 b)), (1, .int v1)] → va_P E.1 vwCl (wd E L st) H → va_S (fA E L s.heap.size) s.heap H locs → W p l e rmX11_block_1 s m args below meth c H locs 0 0 (MQ below (zI E L (fun r u => bz r ∧ Q r u) (fA E L s.heap.size)) args s rmX11_block_1.cells rmX11_block_1.slots (fA E L s.heap.size)) (F0 m 23 ls []) := by
  intro n
  induction n with
  | zero => exact fun _ _ _ _ _ h _ _ _ => False.elim ‹_›
  | succ n ih =>
    intro v1 st  H locs ls h hl hP hS
    have hR23 := ih
    replace h : wX11_block_1_L23 b p1 (lp (fun R s => wX11_block_1_L23 b p1 R s.1 s.2 Q) n) v1 st Q := h
    unfold wX11_block_1_L23 at h
    refine lv_aload_n C.1 C.2.1 dX11_block_23 rfl (lv_at hl 0 rfl) ?_
    refine gf10_6 C hP hb (m10 hb hL) q1445 dX11_block_24 ?_
    refine lv_bipush C.1 C.2.1 (v := 41) dX11_block_27 rfl ?_
    refine lv_icmp_eq C.1 C.2.1 (tgt := 42) dX11_block_29 (by decide) (fun hc => ?_) (fun hc => ?_)
    · have h := h.1 hc
      refine lv_aload_n C.1 C.2.1 dX11_block_42 rfl (lv_at hl 0 rfl) ?_
      refine z_kv hS (z_runV (As := []) (rest := []) C hP hS (m10 hb hL) (e10 hb) rfl (tX11_next C.2.2.2.2.2.2.1 (hL.mo (Nat.le_of_ble_eq_true rfl) (Nat.le_of_ble_eq_true rfl)) hb h) q1492 q1494 q41 q124 q1495 hdX11_next ⟨Nat.le_of_ble_eq_true rfl, Nat.le_of_ble_eq_true rfl⟩ ⟨Nat.zero_le _, Nat.zero_le _⟩ rfl hl.1 rfl (lv_room (Nat.le_of_ble_eq_true rfl)) dX11_block_43) (fun st4 H locs h hP hS => ?_)
      refine lv_iconst C.1 C.2.1 (v := 1) dX11_block_46 rfl ?_
      exact z_ri C hr hlk (bz_n bz1) hP hS ⟨bz1, h⟩ dX11_block_47
    · have h := h.2 hc
      refine lv_aload_n C.1 C.2.1 dX11_block_32 rfl (lv_at hl 0 rfl) ?_
      refine lv_iload_n C.1 C.2.1 dX11_block_33 rfl (lv_at hl 1 rfl) ?_
      refine z_ki hS (z_runV (As := [.int v1]) (rest := []) C hP hS (m10 hb hL) (e10 hb) rfl (tX11_act_1 C.2.2.2.2.2.2.1 (hL.mo (Nat.le_of_ble_eq_true rfl) (Nat.le_of_ble_eq_true rfl)) hb h) q1609 q1611 q57 q124 q1612 hdX11_act_1 ⟨Nat.le_of_ble_eq_true rfl, Nat.le_of_ble_eq_true rfl⟩ ⟨Nat.zero_le _, Nat.zero_le _⟩ rfl hl.1 rfl (lv_room (Nat.le_of_ble_eq_true rfl)) dX11_block_34) (fun r6 st5 H locs h hP hS => ?_)
      obtain ⟨hr6, h⟩ := h
      refine lv_if_ne C.1 C.2.1 (tgt := 23) dX11_block_37 (by decide) (fun hc => ?_) (fun hc => ?_)
      · have h := h.1 hc
        exact hR23 v1 st5 _ _ _ h hl hP hS
      · have h := h.2 hc
        refine lv_iconst C.1 C.2.1 (v := 0) dX11_block_40 rfl ?_
        exact z_ri C hr hlk (bz_n bz0) hP hS ⟨bz0, h⟩ dX11_block_41
set_option maxHeartbeats 4000000 in
set_option maxRecDepth 100000 in
theorem tX11_block_1 {l : Launch} {E : En0} {L : List Nat} (hE : EK E L) (hL : Cov 54 77 L) {b : Nat} {p1 : Int32} {st : St} {Q : Int32 → St → Prop} (hb : kd b = 10) (h : wX11_block_1 b p1 st Q) : Mz l yX11_block cX11_block 2 (some .boolean) rmX11_block_1 E L [.ref (E.2.1 b), .int p1] st (zI E L (fun r u => bz r ∧ Q r u)) := by
  refine Mz.of hE (by decide) (Nat.le_of_ble_eq_true rfl) ?_
  intro p e s m below meth c ls C hr hlk _ hl hP
  replace C : Cx E L "PlankBridgeModel$Reader" cX11_block 2 p s m _ c := C
  have hS : va_S (fA E L s.heap.size) s.heap s.heap [] := va_S.rf
  replace hl : lv_has ls 2 [(0, .ref (E.2.1 b)), (1, .int p1)] := hl
  unfold wX11_block_1 at h
  refine lv_aload_n C.1 C.2.1 dX11_block_0 rfl (lv_at hl 0 rfl) ?_
  refine gf10_6 C hP hb (m10 hb hL) q1445 dX11_block_1 ?_
  refine lv_bipush C.1 C.2.1 (v := 40) dX11_block_4 rfl ?_
  refine lv_icmp_ne C.1 C.2.1 (tgt := 14) dX11_block_6 (by decide) (fun hc => ?_) (fun hc => ?_)
  · have h := h.1 hc
    exact tX11_block_1_L14 hL C hr hlk hb _ _ _ h (lv_sub hl [0] rfl) hP hS
  · have h := h.2 hc
    refine lv_iload_n C.1 C.2.1 dX11_block_9 rfl (lv_at hl 1 rfl) ?_
    refine lv_iconst C.1 C.2.1 (v := 3) dX11_block_10 rfl ?_
    refine lv_icmp_le C.1 C.2.1 (tgt := 19) dX11_block_11 (by decide) (fun hc => ?_) (fun hc => ?_)
    · have h := h.1 hc
      refine lv_aload_n C.1 C.2.1 dX11_block_19 rfl (lv_at hl 0 rfl) ?_
      refine z_kv hS (z_runV (As := []) (rest := []) C hP hS (m10 hb hL) (e10 hb) rfl (tX11_next C.2.2.2.2.2.2.1 (hL.mo (Nat.le_of_ble_eq_true rfl) (Nat.le_of_ble_eq_true rfl)) hb h) q1492 q1494 q41 q124 q1495 hdX11_next ⟨Nat.le_of_ble_eq_true rfl, Nat.le_of_ble_eq_true rfl⟩ ⟨Nat.zero_le _, Nat.zero_le _⟩ rfl hl.1 rfl (lv_room (Nat.le_of_ble_eq_true rfl)) dX11_block_20) (fun st1 H locs h hP hS => ?_)
      obtain ⟨n, h⟩ := h
      exact tX11_block_1_L23 hL C hr hlk hb n p1 st1 _ _ _ h hl hP hS
    · have h := h.2 hc
      exact tX11_block_1_L14 hL C hr hlk hb _ _ _ h (lv_sub hl [0] rfl) hP hS
def rmX11_loop_2 : Room := { frames := 13, cells := 0, slots := 0, locals := 286 }
def wX11_loop_2 (b : Nat) (p1 : Int32) (st : St) (Q : Int32 → St → Prop) : Prop :=
  (wX11_row b st (fun r2 st1 => ((¬ r2 = (-100) → (wX10_put (b + 2) 211 r2 0 st1 (fun r4 st3 => (wX11_block_1 b (p1 + 1) st3 (fun r6 st5 => ((¬ r6 = 0 → (wX10_put (b + 2) 300 r4 0 st5 (fun r8 st7 => (vp_in (((4 : Int32) * r4) + 3) 1600 ∧ ∀ st9, st9 = uI st7 ((b + 2) + 5) (((4 : Int32) * r4) + 3 : Int32).toNatClampNeg (gI st7 (b + 2) 9) → Q 1 st9)))) ∧ (r6 = 0 → Q 0 st5))))))) ∧ (r2 = (-100) → Q 0 st1))))
theorem hdX11_loop_2 : yX11_loop.cls = "PlankBridgeModel$Reader" ∧ yX11_loop.cls ≠ "java/lang/invoke/MethodHandle" ∧ yX11_loop.cls ≠ "java/lang/invoke/VarHandle" ∧ (parseMethodDescriptor yX11_loop.desc).map (fun d => d.parameters.length) = some 1 := by decide +kernel
set_option maxHeartbeats 4000000 in
set_option maxRecDepth 100000 in
theorem tX11_loop_2 {l : Launch} {E : En0} {L : List Nat} (hE : EK E L) (hL : Cov 54 77 L) {b : Nat} {p1 : Int32} {st : St} {Q : Int32 → St → Prop} (hb : kd b = 10) (h : wX11_loop_2 b p1 st Q) : Mz l yX11_loop cX11_loop 4 (some .boolean) rmX11_loop_2 E L [.ref (E.2.1 b), .int p1] st (zI E L (fun r u => bz r ∧ Q r u)) := by
  refine Mz.of hE (by decide) (Nat.le_of_ble_eq_true rfl) ?_
  intro p e s m below meth c ls C hr hlk _ hl hP
  replace C : Cx E L "PlankBridgeModel$Reader" cX11_loop 4 p s m _ c := C
  have hS : va_S (fA E L s.heap.size) s.heap s.heap [] := va_S.rf
  replace hl : lv_has ls 4 [(0, .ref (E.2.1 b)), (1, .int p1)] := hl
  unfold wX11_loop_2 at h
  refine lv_aload_n C.1 C.2.1 dX11_loop_0 rfl (lv_at hl 0 rfl) ?_
  refine z_ki hS (z_runV (As := []) (rest := []) C hP hS (m10 hb hL) (e10 hb) rfl (tX11_row C.2.2.2.2.2.2.1 (hL.mo (Nat.le_of_ble_eq_true rfl) (Nat.le_of_ble_eq_true rfl)) hb h) q1636 q1638 q62 q124 q1639 hdX11_row ⟨Nat.le_of_ble_eq_true rfl, Nat.le_of_ble_eq_true rfl⟩ ⟨Nat.zero_le _, Nat.zero_le _⟩ rfl hl.1 rfl (lv_room (Nat.le_of_ble_eq_true rfl)) dX11_loop_1) (fun r2 st1 H locs h hP hS => ?_)
  refine lv_istore_n C.1 C.2.1 dX11_loop_4 rfl hl (Nat.le_of_ble_eq_true rfl) rfl (fun ls hl => ?_)
  have hl : lv_has ls 4 [(2, .int r2), (0, .ref (E.2.1 b)), (1, .int p1)] := hl
  refine lv_iload_n C.1 C.2.1 dX11_loop_5 rfl (lv_at hl 0 rfl) ?_
  refine lv_bipush C.1 C.2.1 (v := (-100)) dX11_loop_6 rfl ?_
  refine lv_icmp_ne C.1 C.2.1 (tgt := 13) dX11_loop_8 (by decide) (fun hc => ?_) (fun hc => ?_)
  · have h := h.1 hc
    refine lv_aload_n C.1 C.2.1 dX11_loop_13 rfl (lv_at hl 1 rfl) ?_
    refine gf10_0 C hP hb (m10 hb hL) q1438 dX11_loop_14 ?_
    refine lv_sipush C.1 C.2.1 (v := 211) dX11_loop_17 rfl ?_
    refine lv_iload_n C.1 C.2.1 dX11_loop_20 rfl (lv_at hl 0 rfl) ?_
    refine lv_iconst C.1 C.2.1 (v := 0) dX11_loop_21 rfl ?_
    refine z_ki hS (z_runV (As := [.int 211, .int r2, .int 0]) (rest := []) C hP hS (m10_2 hb hL) (e9 (k10_2 hb)) rfl (tX10_put C.2.2.2.2.2.2.1 (hL.mo (Nat.le_of_ble_eq_true rfl) (Nat.le_of_ble_eq_true rfl)) (k10_2 hb) h) q1624 q1625 q1626 q117 q1627 hdX10_put ⟨Nat.le_of_ble_eq_true rfl, Nat.le_of_ble_eq_true rfl⟩ ⟨Nat.zero_le _, Nat.zero_le _⟩ rfl hl.1 rfl (lv_room (Nat.le_of_ble_eq_true rfl)) dX11_loop_22) (fun r4 st3 H locs h hP hS => ?_)
    refine lv_istore_n C.1 C.2.1 dX11_loop_25 rfl hl (Nat.le_of_ble_eq_true rfl) rfl (fun ls hl => ?_)
    have hl : lv_has ls 4 [(3, .int r4), (2, .int r2), (0, .ref (E.2.1 b)), (1, .int p1)] := hl
    refine lv_aload_n C.1 C.2.1 dX11_loop_26 rfl (lv_at hl 2 rfl) ?_
    refine lv_iload_n C.1 C.2.1 dX11_loop_27 rfl (lv_at hl 3 rfl) ?_
    refine lv_iconst C.1 C.2.1 (v := 1) dX11_loop_28 rfl ?_
    refine lv_iadd C.1 C.2.1 dX11_loop_29  ?_
    refine z_ki hS (z_runV (As := [.int (p1 + 1)]) (rest := []) C hP hS (m10 hb hL) (e10 hb) rfl (tX11_block_1 C.2.2.2.2.2.2.1 (hL.mo (Nat.le_of_ble_eq_true rfl) (Nat.le_of_ble_eq_true rfl)) hb h) q1605 q1607 q56 q124 q1608 hdX11_block_1 ⟨Nat.le_of_ble_eq_true rfl, Nat.le_of_ble_eq_true rfl⟩ ⟨Nat.zero_le _, Nat.zero_le _⟩ rfl hl.1 rfl (lv_room (Nat.le_of_ble_eq_true rfl)) dX11_loop_30) (fun r6 st5 H locs h hP hS => ?_)
    obtain ⟨hr6, h⟩ := h
    refine lv_if_ne C.1 C.2.1 (tgt := 38) dX11_loop_33 (by decide) (fun hc => ?_) (fun hc => ?_)
    · have h := h.1 hc
      refine lv_aload_n C.1 C.2.1 dX11_loop_38 rfl (lv_at hl 2 rfl) ?_
      refine gf10_0 C hP hb (m10 hb hL) q1438 dX11_loop_39 ?_
      refine lv_sipush C.1 C.2.1 (v := 300) dX11_loop_42 rfl ?_
      refine lv_iload_n C.1 C.2.1 dX11_loop_45 rfl (lv_at hl 0 rfl) ?_
      refine lv_iconst C.1 C.2.1 (v := 0) dX11_loop_46 rfl ?_
      refine z_ki hS (z_runV (As := [.int 300, .int r4, .int 0]) (rest := []) C hP hS (m10_2 hb hL) (e9 (k10_2 hb)) rfl (tX10_put C.2.2.2.2.2.2.1 (hL.mo (Nat.le_of_ble_eq_true rfl) (Nat.le_of_ble_eq_true rfl)) (k10_2 hb) h) q1624 q1625 q1626 q117 q1627 hdX10_put ⟨Nat.le_of_ble_eq_true rfl, Nat.le_of_ble_eq_true rfl⟩ ⟨Nat.zero_le _, Nat.zero_le _⟩ rfl hl.1 rfl (lv_room (Nat.le_of_ble_eq_true rfl)) dX11_loop_47) (fun r8 st7 H locs h hP hS => ?_)
      refine lv_pop C.1 C.2.1 dX11_loop_50 rfl ?_
      refine lv_aload_n C.1 C.2.1 dX11_loop_51 rfl (lv_at hl 2 rfl) ?_
      refine gf10_0 C hP hb (m10 hb hL) q1438 dX11_loop_52 ?_
      refine gf9_8 C hP (k10_2 hb) (m10_2 hb hL) q1339 dX11_loop_55 ?_
      refine lv_iconst C.1 C.2.1 (v := 4) dX11_loop_58 rfl ?_
      refine lv_iload_n C.1 C.2.1 dX11_loop_59 rfl (lv_at hl 0 rfl) ?_
      refine lv_imul C.1 C.2.1 dX11_loop_60  ?_
      refine lv_iconst C.1 C.2.1 (v := 3) dX11_loop_61 rfl ?_
      refine lv_iadd C.1 C.2.1 dX11_loop_62  ?_
      refine lv_aload_n C.1 C.2.1 dX11_loop_63 rfl (lv_at hl 2 rfl) ?_
      refine gf10_0 C hP hb (m10 hb hL) q1438 dX11_loop_64 ?_
      refine gf9_9 C hP (k10_2 hb) (m10_2 hb hL) q1342 dX11_loop_67 ?_
      obtain ⟨hi, h⟩ := h
      refine z_iast C hP hS (k9_5 (k10_2 hb)) (l9_5 (k10_2 hb)) (m9_5 (k10_2 hb) hL) hi dX11_loop_70 (fun H locs hP hS => ?_)
      obtain ⟨st9, est9⟩ : ∃ z, z = uI st7 ((b + 2) + 5) (((4 : Int32) * r4) + 3 : Int32).toNatClampNeg (gI st7 (b + 2) 9) := ⟨_, rfl⟩
      rw [← est9] at hP; have h := h st9 est9
      refine lv_iconst C.1 C.2.1 (v := 1) dX11_loop_71 rfl ?_
      exact z_ri C hr hlk (bz_n bz1) hP hS ⟨bz1, h⟩ dX11_loop_72
    · have h := h.2 hc
      refine lv_iconst C.1 C.2.1 (v := 0) dX11_loop_36 rfl ?_
      exact z_ri C hr hlk (bz_n bz0) hP hS ⟨bz0, h⟩ dX11_loop_37
  · have h := h.2 hc
    refine lv_iconst C.1 C.2.1 (v := 0) dX11_loop_11 rfl ?_
    exact z_ri C hr hlk (bz_n bz0) hP hS ⟨bz0, h⟩ dX11_loop_12
def rmX11_choice_2 : Room := { frames := 13, cells := 0, slots := 0, locals := 286 }
def wX11_choice_2_L64 (b : Nat) (p1 : Int32)  (v1 : Int32) (v3 : Int32) (s0 : Int32) (st : St) (Q : Int32 → St → Prop) : Prop :=
  (vp_in (((4 : Int32) * v3) + 3) 1600 ∧ ∀ st9, st9 = uI st ((b + 2) + 5) (((4 : Int32) * v3) + 3 : Int32).toNatClampNeg (gI st (b + 2) 9) → ((¬ s0 = (-1) → (wX11_next b st9 (fun st10 => (wX11_block_1 b (v1 + 1) st10 (fun r12 st11 => ((¬ r12 = 0 → (vp_in (((4 : Int32) * s0) + 1) 1600 ∧ ∀ st13, st13 = uI st11 ((b + 2) + 5) (((4 : Int32) * s0) + 1 : Int32).toNatClampNeg (gI st11 (b + 2) 9) → Q 1 st13)) ∧ (r12 = 0 → Q 0 st11))))))) ∧ (s0 = (-1) → Q 1 st9)))
def wX11_choice_2 (b : Nat) (p1 : Int32) (st : St) (Q : Int32 → St → Prop) : Prop :=
  (wX11_row b st (fun r2 st1 => ((¬ r2 = (-100) → (wX10_put (b + 2) 212 r2 0 st1 (fun r4 st3 => (wX11_block_1 b (p1 + 1) st3 (fun r6 st5 => ((¬ r6 = 0 → ((¬ (gI st5 b 6) = 213 → wX11_choice_2_L64 b p1 p1 r4 (-1) st5 Q) ∧ ((gI st5 b 6) = 213 → (wX10_put (b + 2) 300 0 0 st5 (fun r8 st7 => wX11_choice_2_L64 b p1 p1 r4 r8 st7 Q))))) ∧ (r6 = 0 → Q 0 st5))))))) ∧ (r2 = (-100) → Q 0 st1))))
theorem hdX11_choice_2 : yX11_choice.cls = "PlankBridgeModel$Reader" ∧ yX11_choice.cls ≠ "java/lang/invoke/MethodHandle" ∧ yX11_choice.cls ≠ "java/lang/invoke/VarHandle" ∧ (parseMethodDescriptor yX11_choice.desc).map (fun d => d.parameters.length) = some 1 := by decide +kernel
set_option maxHeartbeats 4000000 in
set_option maxRecDepth 100000 in
theorem tX11_choice_2_L64 {l : Launch} {p : Program} {e : Env} {s : State} {m : MethodId} {args : Array Value} {below : List Frame} {meth : Method} {c : Code} {E : En0} {L : List Nat} (hL : Cov 54 77 L) (C : Cx E L "PlankBridgeModel$Reader" cX11_choice 5 p s m args c) (hr : meth.sig.returnType = (some .boolean)) (hlk : meth.locks = false) {b : Nat} {p1 : Int32} {Q : Int32 → St → Prop} (hb : kd b = 10) {v1 : Int32} {v3 : Int32} {s0 : Int32}  {st : St} (H : Heap) (locs : List Loc) (ls : Array Slot) (h : wX11_choice_2_L64 b p1 v1 v3 s0 st Q) (hl : lv_has ls 5 [(0, .ref (E.2.1 b)), (1, .int v1), (3, .int v3)]) (hP : va_P E.1 vwCl (wd E L st) H) (hS : va_S (fA E L s.heap.size) s.heap H locs) : W p l e rmX11_choice_2 s m args below meth c H locs 0 0 (MQ below (zI E L (fun r u => bz r ∧ Q r u) (fA E L s.heap.size)) args s rmX11_choice_2.cells rmX11_choice_2.slots (fA E L s.heap.size)) (F0 m 64 ls [.int s0]) := by
  unfold wX11_choice_2_L64 at h
  refine lv_istore C.1 C.2.1 dX11_choice_64 hl (Nat.le_of_ble_eq_true rfl) rfl (fun ls hl => ?_)
  have hl : lv_has ls 5 [(4, .int s0), (0, .ref (E.2.1 b)), (1, .int v1), (3, .int v3)] := hl
  refine lv_aload_n C.1 C.2.1 dX11_choice_66 rfl (lv_at hl 1 rfl) ?_
  refine gf10_0 C hP hb (m10 hb hL) q1438 dX11_choice_67 ?_
  refine gf9_8 C hP (k10_2 hb) (m10_2 hb hL) q1339 dX11_choice_70 ?_
  refine lv_iconst C.1 C.2.1 (v := 4) dX11_choice_73 rfl ?_
  refine lv_iload_n C.1 C.2.1 dX11_choice_74 rfl (lv_at hl 3 rfl) ?_
  refine lv_imul C.1 C.2.1 dX11_choice_75  ?_
  refine lv_iconst C.1 C.2.1 (v := 3) dX11_choice_76 rfl ?_
  refine lv_iadd C.1 C.2.1 dX11_choice_77  ?_
  refine lv_aload_n C.1 C.2.1 dX11_choice_78 rfl (lv_at hl 1 rfl) ?_
  refine gf10_0 C hP hb (m10 hb hL) q1438 dX11_choice_79 ?_
  refine gf9_9 C hP (k10_2 hb) (m10_2 hb hL) q1342 dX11_choice_82 ?_
  obtain ⟨hi, h⟩ := h
  refine z_iast C hP hS (k9_5 (k10_2 hb)) (l9_5 (k10_2 hb)) (m9_5 (k10_2 hb) hL) hi dX11_choice_85 (fun H locs hP hS => ?_)
  obtain ⟨st9, est9⟩ : ∃ z, z = uI st ((b + 2) + 5) (((4 : Int32) * v3) + 3 : Int32).toNatClampNeg (gI st (b + 2) 9) := ⟨_, rfl⟩
  rw [← est9] at hP; have h := h st9 est9
  refine lv_iload C.1 C.2.1 dX11_choice_86 (lv_at hl 0 rfl) ?_
  refine lv_iconst C.1 C.2.1 (v := (-1)) dX11_choice_88 rfl ?_
  refine lv_icmp_ne C.1 C.2.1 (tgt := 94) dX11_choice_89 (by decide) (fun hc => ?_) (fun hc => ?_)
  · have h := h.1 hc
    refine lv_aload_n C.1 C.2.1 dX11_choice_94 rfl (lv_at hl 1 rfl) ?_
    refine z_kv hS (z_runV (As := []) (rest := []) C hP hS (m10 hb hL) (e10 hb) rfl (tX11_next C.2.2.2.2.2.2.1 (hL.mo (Nat.le_of_ble_eq_true rfl) (Nat.le_of_ble_eq_true rfl)) hb h) q1492 q1494 q41 q124 q1495 hdX11_next ⟨Nat.le_of_ble_eq_true rfl, Nat.le_of_ble_eq_true rfl⟩ ⟨Nat.zero_le _, Nat.zero_le _⟩ rfl hl.1 rfl (lv_room (Nat.le_of_ble_eq_true rfl)) dX11_choice_95) (fun st10 H locs h hP hS => ?_)
    refine lv_aload_n C.1 C.2.1 dX11_choice_98 rfl (lv_at hl 1 rfl) ?_
    refine lv_iload_n C.1 C.2.1 dX11_choice_99 rfl (lv_at hl 2 rfl) ?_
    refine lv_iconst C.1 C.2.1 (v := 1) dX11_choice_100 rfl ?_
    refine lv_iadd C.1 C.2.1 dX11_choice_101  ?_
    refine z_ki hS (z_runV (As := [.int (v1 + 1)]) (rest := []) C hP hS (m10 hb hL) (e10 hb) rfl (tX11_block_1 C.2.2.2.2.2.2.1 (hL.mo (Nat.le_of_ble_eq_true rfl) (Nat.le_of_ble_eq_true rfl)) hb h) q1605 q1607 q56 q124 q1608 hdX11_block_1 ⟨Nat.le_of_ble_eq_true rfl, Nat.le_of_ble_eq_true rfl⟩ ⟨Nat.zero_le _, Nat.zero_le _⟩ rfl hl.1 rfl (lv_room (Nat.le_of_ble_eq_true rfl)) dX11_choice_102) (fun r12 st11 H locs h hP hS => ?_)
    obtain ⟨hr12, h⟩ := h
    refine lv_if_ne C.1 C.2.1 (tgt := 110) dX11_choice_105 (by decide) (fun hc => ?_) (fun hc => ?_)
    · have h := h.1 hc
      refine lv_aload_n C.1 C.2.1 dX11_choice_110 rfl (lv_at hl 1 rfl) ?_
      refine gf10_0 C hP hb (m10 hb hL) q1438 dX11_choice_111 ?_
      refine gf9_8 C hP (k10_2 hb) (m10_2 hb hL) q1339 dX11_choice_114 ?_
      refine lv_iconst C.1 C.2.1 (v := 4) dX11_choice_117 rfl ?_
      refine lv_iload C.1 C.2.1 dX11_choice_118 (lv_at hl 0 rfl) ?_
      refine lv_imul C.1 C.2.1 dX11_choice_120  ?_
      refine lv_iconst C.1 C.2.1 (v := 1) dX11_choice_121 rfl ?_
      refine lv_iadd C.1 C.2.1 dX11_choice_122  ?_
      refine lv_aload_n C.1 C.2.1 dX11_choice_123 rfl (lv_at hl 1 rfl) ?_
      refine gf10_0 C hP hb (m10 hb hL) q1438 dX11_choice_124 ?_
      refine gf9_9 C hP (k10_2 hb) (m10_2 hb hL) q1342 dX11_choice_127 ?_
      obtain ⟨hi, h⟩ := h
      refine z_iast C hP hS (k9_5 (k10_2 hb)) (l9_5 (k10_2 hb)) (m9_5 (k10_2 hb) hL) hi dX11_choice_130 (fun H locs hP hS => ?_)
      obtain ⟨st13, est13⟩ : ∃ z, z = uI st11 ((b + 2) + 5) (((4 : Int32) * s0) + 1 : Int32).toNatClampNeg (gI st11 (b + 2) 9) := ⟨_, rfl⟩
      rw [← est13] at hP; have h := h st13 est13
      refine lv_iconst C.1 C.2.1 (v := 1) dX11_choice_131 rfl ?_
      exact z_ri C hr hlk (bz_n bz1) hP hS ⟨bz1, h⟩ dX11_choice_132
    · have h := h.2 hc
      refine lv_iconst C.1 C.2.1 (v := 0) dX11_choice_108 rfl ?_
      exact z_ri C hr hlk (bz_n bz0) hP hS ⟨bz0, h⟩ dX11_choice_109
  · have h := h.2 hc
    refine lv_iconst C.1 C.2.1 (v := 1) dX11_choice_92 rfl ?_
    exact z_ri C hr hlk (bz_n bz1) hP hS ⟨bz1, h⟩ dX11_choice_93
set_option maxHeartbeats 4000000 in
set_option maxRecDepth 100000 in
theorem tX11_choice_2 {l : Launch} {E : En0} {L : List Nat} (hE : EK E L) (hL : Cov 54 77 L) {b : Nat} {p1 : Int32} {st : St} {Q : Int32 → St → Prop} (hb : kd b = 10) (h : wX11_choice_2 b p1 st Q) : Mz l yX11_choice cX11_choice 5 (some .boolean) rmX11_choice_2 E L [.ref (E.2.1 b), .int p1] st (zI E L (fun r u => bz r ∧ Q r u)) := by
  refine Mz.of hE (by decide) (Nat.le_of_ble_eq_true rfl) ?_
  intro p e s m below meth c ls C hr hlk _ hl hP
  replace C : Cx E L "PlankBridgeModel$Reader" cX11_choice 5 p s m _ c := C
  have hS : va_S (fA E L s.heap.size) s.heap s.heap [] := va_S.rf
  replace hl : lv_has ls 5 [(0, .ref (E.2.1 b)), (1, .int p1)] := hl
  unfold wX11_choice_2 at h
  refine lv_aload_n C.1 C.2.1 dX11_choice_0 rfl (lv_at hl 0 rfl) ?_
  refine z_ki hS (z_runV (As := []) (rest := []) C hP hS (m10 hb hL) (e10 hb) rfl (tX11_row C.2.2.2.2.2.2.1 (hL.mo (Nat.le_of_ble_eq_true rfl) (Nat.le_of_ble_eq_true rfl)) hb h) q1636 q1638 q62 q124 q1639 hdX11_row ⟨Nat.le_of_ble_eq_true rfl, Nat.le_of_ble_eq_true rfl⟩ ⟨Nat.zero_le _, Nat.zero_le _⟩ rfl hl.1 rfl (lv_room (Nat.le_of_ble_eq_true rfl)) dX11_choice_1) (fun r2 st1 H locs h hP hS => ?_)
  refine lv_istore_n C.1 C.2.1 dX11_choice_4 rfl hl (Nat.le_of_ble_eq_true rfl) rfl (fun ls hl => ?_)
  have hl : lv_has ls 5 [(2, .int r2), (0, .ref (E.2.1 b)), (1, .int p1)] := hl
  refine lv_iload_n C.1 C.2.1 dX11_choice_5 rfl (lv_at hl 0 rfl) ?_
  refine lv_bipush C.1 C.2.1 (v := (-100)) dX11_choice_6 rfl ?_
  refine lv_icmp_ne C.1 C.2.1 (tgt := 13) dX11_choice_8 (by decide) (fun hc => ?_) (fun hc => ?_)
  · have h := h.1 hc
    refine lv_aload_n C.1 C.2.1 dX11_choice_13 rfl (lv_at hl 1 rfl) ?_
    refine gf10_0 C hP hb (m10 hb hL) q1438 dX11_choice_14 ?_
    refine lv_sipush C.1 C.2.1 (v := 212) dX11_choice_17 rfl ?_
    refine lv_iload_n C.1 C.2.1 dX11_choice_20 rfl (lv_at hl 0 rfl) ?_
    refine lv_iconst C.1 C.2.1 (v := 0) dX11_choice_21 rfl ?_
    refine z_ki hS (z_runV (As := [.int 212, .int r2, .int 0]) (rest := []) C hP hS (m10_2 hb hL) (e9 (k10_2 hb)) rfl (tX10_put C.2.2.2.2.2.2.1 (hL.mo (Nat.le_of_ble_eq_true rfl) (Nat.le_of_ble_eq_true rfl)) (k10_2 hb) h) q1624 q1625 q1626 q117 q1627 hdX10_put ⟨Nat.le_of_ble_eq_true rfl, Nat.le_of_ble_eq_true rfl⟩ ⟨Nat.zero_le _, Nat.zero_le _⟩ rfl hl.1 rfl (lv_room (Nat.le_of_ble_eq_true rfl)) dX11_choice_22) (fun r4 st3 H locs h hP hS => ?_)
    refine lv_istore_n C.1 C.2.1 dX11_choice_25 rfl hl (Nat.le_of_ble_eq_true rfl) rfl (fun ls hl => ?_)
    have hl : lv_has ls 5 [(3, .int r4), (2, .int r2), (0, .ref (E.2.1 b)), (1, .int p1)] := hl
    refine lv_aload_n C.1 C.2.1 dX11_choice_26 rfl (lv_at hl 2 rfl) ?_
    refine lv_iload_n C.1 C.2.1 dX11_choice_27 rfl (lv_at hl 3 rfl) ?_
    refine lv_iconst C.1 C.2.1 (v := 1) dX11_choice_28 rfl ?_
    refine lv_iadd C.1 C.2.1 dX11_choice_29  ?_
    refine z_ki hS (z_runV (As := [.int (p1 + 1)]) (rest := []) C hP hS (m10 hb hL) (e10 hb) rfl (tX11_block_1 C.2.2.2.2.2.2.1 (hL.mo (Nat.le_of_ble_eq_true rfl) (Nat.le_of_ble_eq_true rfl)) hb h) q1605 q1607 q56 q124 q1608 hdX11_block_1 ⟨Nat.le_of_ble_eq_true rfl, Nat.le_of_ble_eq_true rfl⟩ ⟨Nat.zero_le _, Nat.zero_le _⟩ rfl hl.1 rfl (lv_room (Nat.le_of_ble_eq_true rfl)) dX11_choice_30) (fun r6 st5 H locs h hP hS => ?_)
    obtain ⟨hr6, h⟩ := h
    refine lv_if_ne C.1 C.2.1 (tgt := 38) dX11_choice_33 (by decide) (fun hc => ?_) (fun hc => ?_)
    · have h := h.1 hc
      refine lv_aload_n C.1 C.2.1 dX11_choice_38 rfl (lv_at hl 2 rfl) ?_
      refine gf10_6 C hP hb (m10 hb hL) q1445 dX11_choice_39 ?_
      refine lv_sipush C.1 C.2.1 (v := 213) dX11_choice_42 rfl ?_
      refine lv_icmp_ne C.1 C.2.1 (tgt := 63) dX11_choice_45 (by decide) (fun hc => ?_) (fun hc => ?_)
      · have h := h.1 hc
        refine lv_iconst C.1 C.2.1 (v := (-1)) dX11_choice_63 rfl ?_
        exact tX11_choice_2_L64 hL C hr hlk hb _ _ _ h (lv_sub hl [2, 3, 0] rfl) hP hS
      · have h := h.2 hc
        refine lv_aload_n C.1 C.2.1 dX11_choice_48 rfl (lv_at hl 2 rfl) ?_
        refine gf10_0 C hP hb (m10 hb hL) q1438 dX11_choice_49 ?_
        refine lv_sipush C.1 C.2.1 (v := 300) dX11_choice_52 rfl ?_
        refine lv_iconst C.1 C.2.1 (v := 0) dX11_choice_55 rfl ?_
        refine lv_iconst C.1 C.2.1 (v := 0) dX11_choice_56 rfl ?_
        refine z_ki hS (z_runV (As := [.int 300, .int 0, .int 0]) (rest := []) C hP hS (m10_2 hb hL) (e9 (k10_2 hb)) rfl (tX10_put C.2.2.2.2.2.2.1 (hL.mo (Nat.le_of_ble_eq_true rfl) (Nat.le_of_ble_eq_true rfl)) (k10_2 hb) h) q1624 q1625 q1626 q117 q1627 hdX10_put ⟨Nat.le_of_ble_eq_true rfl, Nat.le_of_ble_eq_true rfl⟩ ⟨Nat.zero_le _, Nat.zero_le _⟩ rfl hl.1 rfl (lv_room (Nat.le_of_ble_eq_true rfl)) dX11_choice_57) (fun r8 st7 H locs h hP hS => ?_)
        refine lv_goto C.1 C.2.1 (tgt := 64) dX11_choice_60 (by decide) ?_
        exact tX11_choice_2_L64 hL C hr hlk hb _ _ _ h (lv_sub hl [2, 3, 0] rfl) hP hS
    · have h := h.2 hc
      refine lv_iconst C.1 C.2.1 (v := 0) dX11_choice_36 rfl ?_
      exact z_ri C hr hlk (bz_n bz0) hP hS ⟨bz0, h⟩ dX11_choice_37
  · have h := h.2 hc
    refine lv_iconst C.1 C.2.1 (v := 0) dX11_choice_11 rfl ?_
    exact z_ri C hr hlk (bz_n bz0) hP hS ⟨bz0, h⟩ dX11_choice_12
def rmX11_act_2 : Room := { frames := 14, cells := 0, slots := 0, locals := 310 }
def wX11_act_2_L30 (b : Nat) (p1 : Int32)   (st : St) (Q : Int32 → St → Prop) : Prop :=
  (wX11_wrong b st (fun r3 st2 => Q r3 st2))
def wX11_act_2_L154 (b : Nat) (p1 : Int32)  (v2 : Int32) (st : St) (Q : Int32 → St → Prop) : Prop :=
  (wX11_value b st (fun r16 st15 => ((¬ r16 = (-100) → (wX10_put (b + 2) v2 r16 0 st15 (fun r18 st17 => (wX11_take b 59 st17 (fun r20 st19 => Q r20 st19))))) ∧ (r16 = (-100) → Q 0 st15))))
def wX11_act_2_L77 (b : Nat) (p1 : Int32)  (v1 : Int32) (st : St) (Q : Int32 → St → Prop) : Prop :=
  (∀ x5 : Int32, x5 = (gI st b 6) → (wX11_next b st (fun st6 => ((((x5 : Int32).toInt < 205 ∨ 212 < (x5 : Int32).toInt) → wX11_act_2_L154 b p1 x5 st6 Q) ∧ ((x5 = 205 → (wX11_send b st6 (fun r8 st7 => Q r8 st7))) ∧ (x5 = 206 → wX11_act_2_L154 b p1 x5 st6 Q) ∧ (x5 = 207 → wX11_act_2_L154 b p1 x5 st6 Q) ∧ (x5 = 208 → wX11_act_2_L154 b p1 x5 st6 Q) ∧ (x5 = 209 → wX11_act_2_L154 b p1 x5 st6 Q) ∧ (x5 = 210 → (wX11_does b st6 (fun r10 st9 => Q r10 st9))) ∧ (x5 = 211 → (wX11_loop_2 b v1 st6 (fun r12 st11 => Q r12 st11))) ∧ (x5 = 212 → (wX11_choice_2 b v1 st6 (fun r14 st13 => Q r14 st13))))))))
def wX11_act_2_L52 (b : Nat) (p1 : Int32)  (v1 : Int32) (st : St) (Q : Int32 → St → Prop) : Prop :=
  ((60 ≤ (gI st (b + 2) 3) → wX11_act_2_L77 b p1 v1 st Q) ∧ (¬ 60 ≤ (gI st (b + 2) 3) → (∀ st4, st4 = uI st (b + 2) 3 ((gI st (b + 2) 3) + 1) → wX11_act_2_L77 b p1 v1 st4 Q)))
def wX11_act_2 (b : Nat) (p1 : Int32) (st : St) (Q : Int32 → St → Prop) : Prop :=
  (((gI st b 6) < 205 → wX11_act_2_L30 b p1 st Q) ∧ (¬ (gI st b 6) < 205 → ((212 < (gI st b 6) → wX11_act_2_L30 b p1 st Q) ∧ (¬ 212 < (gI st b 6) → ((¬ (gI st b 6) = 206 → ((¬ (gI st (b + 2) 3) = 60 → wX11_act_2_L52 b p1 p1 st Q) ∧ ((gI st (b + 2) 3) = 60 → (wX11_note b 4 st (fun st1 => wX11_act_2_L52 b p1 p1 st1 Q))))) ∧ ((gI st b 6) = 206 → wX11_act_2_L30 b p1 st Q))))))
theorem hdX11_act_2 : yX11_act.cls = "PlankBridgeModel$Reader" ∧ yX11_act.cls ≠ "java/lang/invoke/MethodHandle" ∧ yX11_act.cls ≠ "java/lang/invoke/VarHandle" ∧ (parseMethodDescriptor yX11_act.desc).map (fun d => d.parameters.length) = some 1 := by decide +kernel
set_option maxHeartbeats 4000000 in
set_option maxRecDepth 100000 in
theorem tX11_act_2_L30 {l : Launch} {p : Program} {e : Env} {s : State} {m : MethodId} {args : Array Value} {below : List Frame} {meth : Method} {c : Code} {E : En0} {L : List Nat} (hL : Cov 54 77 L) (C : Cx E L "PlankBridgeModel$Reader" cX11_act 4 p s m args c) (hr : meth.sig.returnType = (some .boolean)) (hlk : meth.locks = false) {b : Nat} {p1 : Int32} {Q : Int32 → St → Prop} (hb : kd b = 10)   {st : St} (H : Heap) (locs : List Loc) (ls : Array Slot) (h : wX11_act_2_L30 b p1 st Q) (hl : lv_has ls 4 [(0, .ref (E.2.1 b))]) (hP : va_P E.1 vwCl (wd E L st) H) (hS : va_S (fA E L s.heap.size) s.heap H locs) : W p l e rmX11_act_2 s m args below meth c H locs 0 0 (MQ below (zI E L (fun r u => bz r ∧ Q r u) (fA E L s.heap.size)) args s rmX11_act_2.cells rmX11_act_2.slots (fA E L s.heap.size)) (F0 m 30 ls []) := by
  unfold wX11_act_2_L30 at h
  refine lv_aload_n C.1 C.2.1 dX11_act_30 rfl (lv_at hl 0 rfl) ?_
  refine z_ki hS (z_runV (As := []) (rest := []) C hP hS (m10 hb hL) (e10 hb) rfl (tX11_wrong C.2.2.2.2.2.2.1 (hL.mo (Nat.le_of_ble_eq_true rfl) (Nat.le_of_ble_eq_true rfl)) hb h) q1576 q1578 q49 q124 q1579 hdX11_wrong ⟨Nat.le_of_ble_eq_true rfl, Nat.le_of_ble_eq_true rfl⟩ ⟨Nat.zero_le _, Nat.zero_le _⟩ rfl hl.1 rfl (lv_room (Nat.le_of_ble_eq_true rfl)) dX11_act_31) (fun r3 st2 H locs h hP hS => ?_)
  obtain ⟨hr3, h⟩ := h
  exact z_ri C hr hlk (bz_n hr3) hP hS ⟨hr3, h⟩ dX11_act_34
set_option maxHeartbeats 4000000 in
set_option maxRecDepth 100000 in
theorem tX11_act_2_L154 {l : Launch} {p : Program} {e : Env} {s : State} {m : MethodId} {args : Array Value} {below : List Frame} {meth : Method} {c : Code} {E : En0} {L : List Nat} (hL : Cov 54 77 L) (C : Cx E L "PlankBridgeModel$Reader" cX11_act 4 p s m args c) (hr : meth.sig.returnType = (some .boolean)) (hlk : meth.locks = false) {b : Nat} {p1 : Int32} {Q : Int32 → St → Prop} (hb : kd b = 10) {v2 : Int32}  {st : St} (H : Heap) (locs : List Loc) (ls : Array Slot) (h : wX11_act_2_L154 b p1 v2 st Q) (hl : lv_has ls 4 [(0, .ref (E.2.1 b)), (2, .int v2)]) (hP : va_P E.1 vwCl (wd E L st) H) (hS : va_S (fA E L s.heap.size) s.heap H locs) : W p l e rmX11_act_2 s m args below meth c H locs 0 0 (MQ below (zI E L (fun r u => bz r ∧ Q r u) (fA E L s.heap.size)) args s rmX11_act_2.cells rmX11_act_2.slots (fA E L s.heap.size)) (F0 m 154 ls []) := by
  unfold wX11_act_2_L154 at h
  refine lv_aload_n C.1 C.2.1 dX11_act_154 rfl (lv_at hl 0 rfl) ?_
  refine z_ki hS (z_runV (As := []) (rest := []) C hP hS (m10 hb hL) (e10 hb) rfl (tX11_value C.2.2.2.2.2.2.1 (hL.mo (Nat.le_of_ble_eq_true rfl) (Nat.le_of_ble_eq_true rfl)) hb h) q1640 q1642 q63 q124 q1643 hdX11_value ⟨Nat.le_of_ble_eq_true rfl, Nat.le_of_ble_eq_true rfl⟩ ⟨Nat.zero_le _, Nat.zero_le _⟩ rfl hl.1 rfl (lv_room (Nat.le_of_ble_eq_true rfl)) dX11_act_155) (fun r16 st15 H locs h hP hS => ?_)
  refine lv_istore_n C.1 C.2.1 dX11_act_158 rfl hl (Nat.le_of_ble_eq_true rfl) rfl (fun ls hl => ?_)
  have hl : lv_has ls 4 [(3, .int r16), (0, .ref (E.2.1 b)), (2, .int v2)] := hl
  refine lv_iload_n C.1 C.2.1 dX11_act_159 rfl (lv_at hl 0 rfl) ?_
  refine lv_bipush C.1 C.2.1 (v := (-100)) dX11_act_160 rfl ?_
  refine lv_icmp_ne C.1 C.2.1 (tgt := 167) dX11_act_162 (by decide) (fun hc => ?_) (fun hc => ?_)
  · have h := h.1 hc
    refine lv_aload_n C.1 C.2.1 dX11_act_167 rfl (lv_at hl 1 rfl) ?_
    refine gf10_0 C hP hb (m10 hb hL) q1438 dX11_act_168 ?_
    refine lv_iload_n C.1 C.2.1 dX11_act_171 rfl (lv_at hl 2 rfl) ?_
    refine lv_iload_n C.1 C.2.1 dX11_act_172 rfl (lv_at hl 0 rfl) ?_
    refine lv_iconst C.1 C.2.1 (v := 0) dX11_act_173 rfl ?_
    refine z_ki hS (z_runV (As := [.int v2, .int r16, .int 0]) (rest := []) C hP hS (m10_2 hb hL) (e9 (k10_2 hb)) rfl (tX10_put C.2.2.2.2.2.2.1 (hL.mo (Nat.le_of_ble_eq_true rfl) (Nat.le_of_ble_eq_true rfl)) (k10_2 hb) h) q1624 q1625 q1626 q117 q1627 hdX10_put ⟨Nat.le_of_ble_eq_true rfl, Nat.le_of_ble_eq_true rfl⟩ ⟨Nat.zero_le _, Nat.zero_le _⟩ rfl hl.1 rfl (lv_room (Nat.le_of_ble_eq_true rfl)) dX11_act_174) (fun r18 st17 H locs h hP hS => ?_)
    refine lv_pop C.1 C.2.1 dX11_act_177 rfl ?_
    refine lv_aload_n C.1 C.2.1 dX11_act_178 rfl (lv_at hl 1 rfl) ?_
    refine lv_bipush C.1 C.2.1 (v := 59) dX11_act_179 rfl ?_
    refine z_ki hS (z_runV (As := [.int 59]) (rest := []) C hP hS (m10 hb hL) (e10 hb) rfl (tX11_take C.2.2.2.2.2.2.1 (hL.mo (Nat.le_of_ble_eq_true rfl) (Nat.le_of_ble_eq_true rfl)) hb h) q1588 q1590 q52 q124 q1591 hdX11_take ⟨Nat.le_of_ble_eq_true rfl, Nat.le_of_ble_eq_true rfl⟩ ⟨Nat.zero_le _, Nat.zero_le _⟩ rfl hl.1 rfl (lv_room (Nat.le_of_ble_eq_true rfl)) dX11_act_181) (fun r20 st19 H locs h hP hS => ?_)
    obtain ⟨hr20, h⟩ := h
    exact z_ri C hr hlk (bz_n hr20) hP hS ⟨hr20, h⟩ dX11_act_184
  · have h := h.2 hc
    refine lv_iconst C.1 C.2.1 (v := 0) dX11_act_165 rfl ?_
    exact z_ri C hr hlk (bz_n bz0) hP hS ⟨bz0, h⟩ dX11_act_166
set_option maxHeartbeats 4000000 in
set_option maxRecDepth 100000 in
theorem tX11_act_2_L77 {l : Launch} {p : Program} {e : Env} {s : State} {m : MethodId} {args : Array Value} {below : List Frame} {meth : Method} {c : Code} {E : En0} {L : List Nat} (hL : Cov 54 77 L) (C : Cx E L "PlankBridgeModel$Reader" cX11_act 4 p s m args c) (hr : meth.sig.returnType = (some .boolean)) (hlk : meth.locks = false) {b : Nat} {p1 : Int32} {Q : Int32 → St → Prop} (hb : kd b = 10) {v1 : Int32}  {st : St} (H : Heap) (locs : List Loc) (ls : Array Slot) (h : wX11_act_2_L77 b p1 v1 st Q) (hl : lv_has ls 4 [(0, .ref (E.2.1 b)), (1, .int v1)]) (hP : va_P E.1 vwCl (wd E L st) H) (hS : va_S (fA E L s.heap.size) s.heap H locs) : W p l e rmX11_act_2 s m args below meth c H locs 0 0 (MQ below (zI E L (fun r u => bz r ∧ Q r u) (fA E L s.heap.size)) args s rmX11_act_2.cells rmX11_act_2.slots (fA E L s.heap.size)) (F0 m 77 ls []) := by
  unfold wX11_act_2_L77 at h
  refine lv_aload_n C.1 C.2.1 dX11_act_77 rfl (lv_at hl 0 rfl) ?_
  refine gf10_6 C hP hb (m10 hb hL) q1445 dX11_act_78 ?_
  refine lv_topi (fun x5 ex5 => ?_)
  have h := h x5 ex5
  refine lv_istore_n C.1 C.2.1 dX11_act_81 rfl hl (Nat.le_of_ble_eq_true rfl) rfl (fun ls hl => ?_)
  have hl : lv_has ls 4 [(2, .int x5), (0, .ref (E.2.1 b)), (1, .int v1)] := hl
  refine lv_aload_n C.1 C.2.1 dX11_act_82 rfl (lv_at hl 1 rfl) ?_
  refine z_kv hS (z_runV (As := []) (rest := []) C hP hS (m10 hb hL) (e10 hb) rfl (tX11_next C.2.2.2.2.2.2.1 (hL.mo (Nat.le_of_ble_eq_true rfl) (Nat.le_of_ble_eq_true rfl)) hb h) q1492 q1494 q41 q124 q1495 hdX11_next ⟨Nat.le_of_ble_eq_true rfl, Nat.le_of_ble_eq_true rfl⟩ ⟨Nat.zero_le _, Nat.zero_le _⟩ rfl hl.1 rfl (lv_room (Nat.le_of_ble_eq_true rfl)) dX11_act_83) (fun st6 H locs h hP hS => ?_)
  refine lv_iload_n C.1 C.2.1 dX11_act_86 rfl (lv_at hl 0 rfl) ?_
  rcases Classical.em ((x5 : Int32).toInt < 205 ∨ 212 < (x5 : Int32).toInt) with hx | hx
  · have h := h.1 hx
    refine lv_tableOut C.1 C.2.1 (tgt := 154) dX11_act_87 hx (by decide) ?_
    exact tX11_act_2_L154 hL C hr hlk hb _ _ _ h (lv_sub hl [1, 0] rfl) hP hS
  · have h := h.2
    have hx : (x5 : Int32).toInt = 205 ∨ (x5 : Int32).toInt = 206 ∨ (x5 : Int32).toInt = 207 ∨ (x5 : Int32).toInt = 208 ∨ (x5 : Int32).toInt = 209 ∨ (x5 : Int32).toInt = 210 ∨ (x5 : Int32).toInt = 211 ∨ (x5 : Int32).toInt = 212 := by omega
    rcases hx with hx | hx | hx | hx | hx | hx | hx | hx
    · have h := h.1 (i32_eq (hx.trans (by decide)))
      refine lv_tableIn C.1 C.2.1 (off := 45) (tgt := 132) dX11_act_87 (by omega) (by omega) (by rw [hx]; rfl) (by decide) ?_
      refine lv_aload_n C.1 C.2.1 dX11_act_132 rfl (lv_at hl 1 rfl) ?_
      refine z_ki hS (z_runV (As := []) (rest := []) C hP hS (m10 hb hL) (e10 hb) rfl (tX11_send C.2.2.2.2.2.2.1 (hL.mo (Nat.le_of_ble_eq_true rfl) (Nat.le_of_ble_eq_true rfl)) hb h) q1613 q1615 q58 q124 q1616 hdX11_send ⟨Nat.le_of_ble_eq_true rfl, Nat.le_of_ble_eq_true rfl⟩ ⟨Nat.zero_le _, Nat.zero_le _⟩ rfl hl.1 rfl (lv_room (Nat.le_of_ble_eq_true rfl)) dX11_act_133) (fun r8 st7 H locs h hP hS => ?_)
      obtain ⟨hr8, h⟩ := h
      exact z_ri C hr hlk (bz_n hr8) hP hS ⟨hr8, h⟩ dX11_act_136
    · have h := h.2.1 (i32_eq (hx.trans (by decide)))
      refine lv_tableIn C.1 C.2.1 (off := 67) (tgt := 154) dX11_act_87 (by omega) (by omega) (by rw [hx]; rfl) (by decide) ?_
      exact tX11_act_2_L154 hL C hr hlk hb _ _ _ h (lv_sub hl [1, 0] rfl) hP hS
    · have h := h.2.2.1 (i32_eq (hx.trans (by decide)))
      refine lv_tableIn C.1 C.2.1 (off := 67) (tgt := 154) dX11_act_87 (by omega) (by omega) (by rw [hx]; rfl) (by decide) ?_
      exact tX11_act_2_L154 hL C hr hlk hb _ _ _ h (lv_sub hl [1, 0] rfl) hP hS
    · have h := h.2.2.2.1 (i32_eq (hx.trans (by decide)))
      refine lv_tableIn C.1 C.2.1 (off := 67) (tgt := 154) dX11_act_87 (by omega) (by omega) (by rw [hx]; rfl) (by decide) ?_
      exact tX11_act_2_L154 hL C hr hlk hb _ _ _ h (lv_sub hl [1, 0] rfl) hP hS
    · have h := h.2.2.2.2.1 (i32_eq (hx.trans (by decide)))
      refine lv_tableIn C.1 C.2.1 (off := 67) (tgt := 154) dX11_act_87 (by omega) (by omega) (by rw [hx]; rfl) (by decide) ?_
      exact tX11_act_2_L154 hL C hr hlk hb _ _ _ h (lv_sub hl [1, 0] rfl) hP hS
    · have h := h.2.2.2.2.2.1 (i32_eq (hx.trans (by decide)))
      refine lv_tableIn C.1 C.2.1 (off := 50) (tgt := 137) dX11_act_87 (by omega) (by omega) (by rw [hx]; rfl) (by decide) ?_
      refine lv_aload_n C.1 C.2.1 dX11_act_137 rfl (lv_at hl 1 rfl) ?_
      refine z_ki hS (z_runV (As := []) (rest := []) C hP hS (m10 hb hL) (e10 hb) rfl (tX11_does C.2.2.2.2.2.2.1 (hL.mo (Nat.le_of_ble_eq_true rfl) (Nat.le_of_ble_eq_true rfl)) hb h) q1628 q1630 q60 q124 q1631 hdX11_does ⟨Nat.le_of_ble_eq_true rfl, Nat.le_of_ble_eq_true rfl⟩ ⟨Nat.zero_le _, Nat.zero_le _⟩ rfl hl.1 rfl (lv_room (Nat.le_of_ble_eq_true rfl)) dX11_act_138) (fun r10 st9 H locs h hP hS => ?_)
      obtain ⟨hr10, h⟩ := h
      exact z_ri C hr hlk (bz_n hr10) hP hS ⟨hr10, h⟩ dX11_act_141
    · have h := h.2.2.2.2.2.2.1 (i32_eq (hx.trans (by decide)))
      refine lv_tableIn C.1 C.2.1 (off := 55) (tgt := 142) dX11_act_87 (by omega) (by omega) (by rw [hx]; rfl) (by decide) ?_
      refine lv_aload_n C.1 C.2.1 dX11_act_142 rfl (lv_at hl 1 rfl) ?_
      refine lv_iload_n C.1 C.2.1 dX11_act_143 rfl (lv_at hl 2 rfl) ?_
      refine z_ki hS (z_runV (As := [.int v1]) (rest := []) C hP hS (m10 hb hL) (e10 hb) rfl (tX11_loop_2 C.2.2.2.2.2.2.1 (hL.mo (Nat.le_of_ble_eq_true rfl) (Nat.le_of_ble_eq_true rfl)) hb h) q1632 q1634 q61 q124 q1635 hdX11_loop_2 ⟨Nat.le_of_ble_eq_true rfl, Nat.le_of_ble_eq_true rfl⟩ ⟨Nat.zero_le _, Nat.zero_le _⟩ rfl hl.1 rfl (lv_room (Nat.le_of_ble_eq_true rfl)) dX11_act_144) (fun r12 st11 H locs h hP hS => ?_)
      obtain ⟨hr12, h⟩ := h
      exact z_ri C hr hlk (bz_n hr12) hP hS ⟨hr12, h⟩ dX11_act_147
    · have h := h.2.2.2.2.2.2.2 (i32_eq (hx.trans (by decide)))
      refine lv_tableIn C.1 C.2.1 (off := 61) (tgt := 148) dX11_act_87 (by omega) (by omega) (by rw [hx]; rfl) (by decide) ?_
      refine lv_aload_n C.1 C.2.1 dX11_act_148 rfl (lv_at hl 1 rfl) ?_
      refine lv_iload_n C.1 C.2.1 dX11_act_149 rfl (lv_at hl 2 rfl) ?_
      refine z_ki hS (z_runV (As := [.int v1]) (rest := []) C hP hS (m10 hb hL) (e10 hb) rfl (tX11_choice_2 C.2.2.2.2.2.2.1 (hL.mo (Nat.le_of_ble_eq_true rfl) (Nat.le_of_ble_eq_true rfl)) hb h) q1644 q1646 q64 q124 q1647 hdX11_choice_2 ⟨Nat.le_of_ble_eq_true rfl, Nat.le_of_ble_eq_true rfl⟩ ⟨Nat.zero_le _, Nat.zero_le _⟩ rfl hl.1 rfl (lv_room (Nat.le_of_ble_eq_true rfl)) dX11_act_150) (fun r14 st13 H locs h hP hS => ?_)
      obtain ⟨hr14, h⟩ := h
      exact z_ri C hr hlk (bz_n hr14) hP hS ⟨hr14, h⟩ dX11_act_153
set_option maxHeartbeats 4000000 in
set_option maxRecDepth 100000 in
theorem tX11_act_2_L52 {l : Launch} {p : Program} {e : Env} {s : State} {m : MethodId} {args : Array Value} {below : List Frame} {meth : Method} {c : Code} {E : En0} {L : List Nat} (hL : Cov 54 77 L) (C : Cx E L "PlankBridgeModel$Reader" cX11_act 4 p s m args c) (hr : meth.sig.returnType = (some .boolean)) (hlk : meth.locks = false) {b : Nat} {p1 : Int32} {Q : Int32 → St → Prop} (hb : kd b = 10) {v1 : Int32}  {st : St} (H : Heap) (locs : List Loc) (ls : Array Slot) (h : wX11_act_2_L52 b p1 v1 st Q) (hl : lv_has ls 4 [(0, .ref (E.2.1 b)), (1, .int v1)]) (hP : va_P E.1 vwCl (wd E L st) H) (hS : va_S (fA E L s.heap.size) s.heap H locs) : W p l e rmX11_act_2 s m args below meth c H locs 0 0 (MQ below (zI E L (fun r u => bz r ∧ Q r u) (fA E L s.heap.size)) args s rmX11_act_2.cells rmX11_act_2.slots (fA E L s.heap.size)) (F0 m 52 ls []) := by
  unfold wX11_act_2_L52 at h
  refine lv_aload_n C.1 C.2.1 dX11_act_52 rfl (lv_at hl 0 rfl) ?_
  refine gf10_0 C hP hb (m10 hb hL) q1438 dX11_act_53 ?_
  refine gf9_3 C hP (k10_2 hb) (m10_2 hb hL) q1325 dX11_act_56 ?_
  refine lv_bipush C.1 C.2.1 (v := 60) dX11_act_59 rfl ?_
  refine lv_icmp_ge C.1 C.2.1 (tgt := 77) dX11_act_61 (by decide) (fun hc => ?_) (fun hc => ?_)
  · have h := h.1 hc
    exact tX11_act_2_L77 hL C hr hlk hb _ _ _ h hl hP hS
  · have h := h.2 hc
    refine lv_aload_n C.1 C.2.1 dX11_act_64 rfl (lv_at hl 0 rfl) ?_
    refine gf10_0 C hP hb (m10 hb hL) q1438 dX11_act_65 ?_
    refine lv_dup C.1 C.2.1 dX11_act_68 rfl ?_
    refine gf9_3 C hP (k10_2 hb) (m10_2 hb hL) q1325 dX11_act_69 ?_
    refine lv_iconst C.1 C.2.1 (v := 1) dX11_act_72 rfl ?_
    refine lv_iadd C.1 C.2.1 dX11_act_73  ?_
    refine pf9_3 C hP hS (k10_2 hb) (m10_2 hb hL) q1325 dX11_act_74 (fun H locs hP hS => ?_)
    obtain ⟨st4, est4⟩ : ∃ z, z = uI st (b + 2) 3 ((gI st (b + 2) 3) + 1) := ⟨_, rfl⟩
    rw [← est4] at hP; have h := h st4 est4
    exact tX11_act_2_L77 hL C hr hlk hb _ _ _ h hl hP hS
set_option maxHeartbeats 4000000 in
set_option maxRecDepth 100000 in
theorem tX11_act_2 {l : Launch} {E : En0} {L : List Nat} (hE : EK E L) (hL : Cov 54 77 L) {b : Nat} {p1 : Int32} {st : St} {Q : Int32 → St → Prop} (hb : kd b = 10) (h : wX11_act_2 b p1 st Q) : Mz l yX11_act cX11_act 4 (some .boolean) rmX11_act_2 E L [.ref (E.2.1 b), .int p1] st (zI E L (fun r u => bz r ∧ Q r u)) := by
  refine Mz.of hE (by decide) (Nat.le_of_ble_eq_true rfl) ?_
  intro p e s m below meth c ls C hr hlk _ hl hP
  replace C : Cx E L "PlankBridgeModel$Reader" cX11_act 4 p s m _ c := C
  have hS : va_S (fA E L s.heap.size) s.heap s.heap [] := va_S.rf
  replace hl : lv_has ls 4 [(0, .ref (E.2.1 b)), (1, .int p1)] := hl
  unfold wX11_act_2 at h
  refine lv_aload_n C.1 C.2.1 dX11_act_0 rfl (lv_at hl 0 rfl) ?_
  refine gf10_6 C hP hb (m10 hb hL) q1445 dX11_act_1 ?_
  refine lv_sipush C.1 C.2.1 (v := 205) dX11_act_4 rfl ?_
  refine lv_icmp_lt C.1 C.2.1 (tgt := 30) dX11_act_7 (by decide) (fun hc => ?_) (fun hc => ?_)
  · have h := h.1 hc
    exact tX11_act_2_L30 hL C hr hlk hb _ _ _ h (lv_sub hl [0] rfl) hP hS
  · have h := h.2 hc
    refine lv_aload_n C.1 C.2.1 dX11_act_10 rfl (lv_at hl 0 rfl) ?_
    refine gf10_6 C hP hb (m10 hb hL) q1445 dX11_act_11 ?_
    refine lv_sipush C.1 C.2.1 (v := 212) dX11_act_14 rfl ?_
    refine lv_icmp_gt C.1 C.2.1 (tgt := 30) dX11_act_17 (by decide) (fun hc => ?_) (fun hc => ?_)
    · have h := h.1 hc
      exact tX11_act_2_L30 hL C hr hlk hb _ _ _ h (lv_sub hl [0] rfl) hP hS
    · have h := h.2 hc
      refine lv_aload_n C.1 C.2.1 dX11_act_20 rfl (lv_at hl 0 rfl) ?_
      refine gf10_6 C hP hb (m10 hb hL) q1445 dX11_act_21 ?_
      refine lv_sipush C.1 C.2.1 (v := 206) dX11_act_24 rfl ?_
      refine lv_icmp_ne C.1 C.2.1 (tgt := 35) dX11_act_27 (by decide) (fun hc => ?_) (fun hc => ?_)
      · have h := h.1 hc
        refine lv_aload_n C.1 C.2.1 dX11_act_35 rfl (lv_at hl 0 rfl) ?_
        refine gf10_0 C hP hb (m10 hb hL) q1438 dX11_act_36 ?_
        refine gf9_3 C hP (k10_2 hb) (m10_2 hb hL) q1325 dX11_act_39 ?_
        refine lv_bipush C.1 C.2.1 (v := 60) dX11_act_42 rfl ?_
        refine lv_icmp_ne C.1 C.2.1 (tgt := 52) dX11_act_44 (by decide) (fun hc => ?_) (fun hc => ?_)
        · have h := h.1 hc
          exact tX11_act_2_L52 hL C hr hlk hb _ _ _ h hl hP hS
        · have h := h.2 hc
          refine lv_aload_n C.1 C.2.1 dX11_act_47 rfl (lv_at hl 0 rfl) ?_
          refine lv_iconst C.1 C.2.1 (v := 4) dX11_act_48 rfl ?_
          refine z_kv hS (z_runV (As := [.int 4]) (rest := []) C hP hS (m10 hb hL) (e10 hb) rfl (tX11_note C.2.2.2.2.2.2.1 (hL.mo (Nat.le_of_ble_eq_true rfl) (Nat.le_of_ble_eq_true rfl)) hb h) q1584 q1586 q51 q124 q1587 hdX11_note ⟨Nat.le_of_ble_eq_true rfl, Nat.le_of_ble_eq_true rfl⟩ ⟨Nat.zero_le _, Nat.zero_le _⟩ rfl hl.1 rfl (lv_room (Nat.le_of_ble_eq_true rfl)) dX11_act_49) (fun st1 H locs h hP hS => ?_)
          exact tX11_act_2_L52 hL C hr hlk hb _ _ _ h hl hP hS
      · have h := h.2 hc
        exact tX11_act_2_L30 hL C hr hlk hb _ _ _ h (lv_sub hl [0] rfl) hP hS
def rmX11_block_2 : Room := { frames := 15, cells := 0, slots := 0, locals := 333 }
def wX11_block_2_L14 (b : Nat) (p1 : Int32)   (st : St) (Q : Int32 → St → Prop) : Prop :=
  (wX11_wrong b st (fun r3 st2 => Q r3 st2))
def wX11_block_2_L23 (b : Nat) (p1 : Int32)  (R23 : Int32 × St → Prop) (v1 : Int32) (st : St) (Q : Int32 → St → Prop) : Prop :=
  (((gI st b 6) = 41 → (wX11_next b st (fun st4 => Q 1 st4))) ∧ (¬ (gI st b 6) = 41 → (wX11_act_2 b v1 st (fun r6 st5 => ((¬ r6 = 0 → R23 (v1, st5)) ∧ (r6 = 0 → Q 0 st5))))))
def wX11_block_2 (b : Nat) (p1 : Int32) (st : St) (Q : Int32 → St → Prop) : Prop :=
  ((¬ (gI st b 6) = 40 → wX11_block_2_L14 b p1 st Q) ∧ ((gI st b 6) = 40 → ((p1 ≤ 3 → (wX11_next b st (fun st1 => (∃ n, lp (fun R s => wX11_block_2_L23 b p1 R s.1 s.2 Q) n (p1, st1))))) ∧ (¬ p1 ≤ 3 → wX11_block_2_L14 b p1 st Q))))
theorem hdX11_block_2 : yX11_block.cls = "PlankBridgeModel$Reader" ∧ yX11_block.cls ≠ "java/lang/invoke/MethodHandle" ∧ yX11_block.cls ≠ "java/lang/invoke/VarHandle" ∧ (parseMethodDescriptor yX11_block.desc).map (fun d => d.parameters.length) = some 1 := by decide +kernel
set_option maxHeartbeats 4000000 in
set_option maxRecDepth 100000 in
theorem tX11_block_2_L14 {l : Launch} {p : Program} {e : Env} {s : State} {m : MethodId} {args : Array Value} {below : List Frame} {meth : Method} {c : Code} {E : En0} {L : List Nat} (hL : Cov 54 77 L) (C : Cx E L "PlankBridgeModel$Reader" cX11_block 2 p s m args c) (hr : meth.sig.returnType = (some .boolean)) (hlk : meth.locks = false) {b : Nat} {p1 : Int32} {Q : Int32 → St → Prop} (hb : kd b = 10)   {st : St} (H : Heap) (locs : List Loc) (ls : Array Slot) (h : wX11_block_2_L14 b p1 st Q) (hl : lv_has ls 2 [(0, .ref (E.2.1 b))]) (hP : va_P E.1 vwCl (wd E L st) H) (hS : va_S (fA E L s.heap.size) s.heap H locs) : W p l e rmX11_block_2 s m args below meth c H locs 0 0 (MQ below (zI E L (fun r u => bz r ∧ Q r u) (fA E L s.heap.size)) args s rmX11_block_2.cells rmX11_block_2.slots (fA E L s.heap.size)) (F0 m 14 ls []) := by
  unfold wX11_block_2_L14 at h
  refine lv_aload_n C.1 C.2.1 dX11_block_14 rfl (lv_at hl 0 rfl) ?_
  refine z_ki hS (z_runV (As := []) (rest := []) C hP hS (m10 hb hL) (e10 hb) rfl (tX11_wrong C.2.2.2.2.2.2.1 (hL.mo (Nat.le_of_ble_eq_true rfl) (Nat.le_of_ble_eq_true rfl)) hb h) q1576 q1578 q49 q124 q1579 hdX11_wrong ⟨Nat.le_of_ble_eq_true rfl, Nat.le_of_ble_eq_true rfl⟩ ⟨Nat.zero_le _, Nat.zero_le _⟩ rfl hl.1 rfl (lv_room (Nat.le_of_ble_eq_true rfl)) dX11_block_15) (fun r3 st2 H locs h hP hS => ?_)
  obtain ⟨hr3, h⟩ := h
  exact z_ri C hr hlk (bz_n hr3) hP hS ⟨hr3, h⟩ dX11_block_18
set_option maxHeartbeats 4000000 in
set_option maxRecDepth 100000 in
theorem tX11_block_2_L23 {l : Launch} {p : Program} {e : Env} {s : State} {m : MethodId} {args : Array Value} {below : List Frame} {meth : Method} {c : Code} {E : En0} {L : List Nat} (hL : Cov 54 77 L) (C : Cx E L "PlankBridgeModel$Reader" cX11_block 2 p s m args c) (hr : meth.sig.returnType = (some .boolean)) (hlk : meth.locks = false) {b : Nat} {p1 : Int32} {Q : Int32 → St → Prop} (hb : kd b = 10) : ∀ (n : Nat) (v1 : Int32) (st : St) (H : Heap) (locs : List Loc) (ls : Array Slot), lp (fun R s => wX11_block_2_L23 b p1 R s.1 s.2 Q) n (v1, st) → lv_has ls 2 [(0, .ref (E.2.1 b)), (1, .int v1)] → va_P E.1 vwCl (wd E L st) H → va_S (fA E L s.heap.size) s.heap H locs → W p l e rmX11_block_2 s m args below meth c H locs 0 0 (MQ below (zI E L (fun r u => bz r ∧ Q r u) (fA E L s.heap.size)) args s rmX11_block_2.cells rmX11_block_2.slots (fA E L s.heap.size)) (F0 m 23 ls []) := by
  intro n
  induction n with
  | zero => exact fun _ _ _ _ _ h _ _ _ => False.elim ‹_›
  | succ n ih =>
    intro v1 st  H locs ls h hl hP hS
    have hR23 := ih
    replace h : wX11_block_2_L23 b p1 (lp (fun R s => wX11_block_2_L23 b p1 R s.1 s.2 Q) n) v1 st Q := h
    unfold wX11_block_2_L23 at h
    refine lv_aload_n C.1 C.2.1 dX11_block_23 rfl (lv_at hl 0 rfl) ?_
    refine gf10_6 C hP hb (m10 hb hL) q1445 dX11_block_24 ?_
    refine lv_bipush C.1 C.2.1 (v := 41) dX11_block_27 rfl ?_
    refine lv_icmp_eq C.1 C.2.1 (tgt := 42) dX11_block_29 (by decide) (fun hc => ?_) (fun hc => ?_)
    · have h := h.1 hc
      refine lv_aload_n C.1 C.2.1 dX11_block_42 rfl (lv_at hl 0 rfl) ?_
      refine z_kv hS (z_runV (As := []) (rest := []) C hP hS (m10 hb hL) (e10 hb) rfl (tX11_next C.2.2.2.2.2.2.1 (hL.mo (Nat.le_of_ble_eq_true rfl) (Nat.le_of_ble_eq_true rfl)) hb h) q1492 q1494 q41 q124 q1495 hdX11_next ⟨Nat.le_of_ble_eq_true rfl, Nat.le_of_ble_eq_true rfl⟩ ⟨Nat.zero_le _, Nat.zero_le _⟩ rfl hl.1 rfl (lv_room (Nat.le_of_ble_eq_true rfl)) dX11_block_43) (fun st4 H locs h hP hS => ?_)
      refine lv_iconst C.1 C.2.1 (v := 1) dX11_block_46 rfl ?_
      exact z_ri C hr hlk (bz_n bz1) hP hS ⟨bz1, h⟩ dX11_block_47
    · have h := h.2 hc
      refine lv_aload_n C.1 C.2.1 dX11_block_32 rfl (lv_at hl 0 rfl) ?_
      refine lv_iload_n C.1 C.2.1 dX11_block_33 rfl (lv_at hl 1 rfl) ?_
      refine z_ki hS (z_runV (As := [.int v1]) (rest := []) C hP hS (m10 hb hL) (e10 hb) rfl (tX11_act_2 C.2.2.2.2.2.2.1 (hL.mo (Nat.le_of_ble_eq_true rfl) (Nat.le_of_ble_eq_true rfl)) hb h) q1609 q1611 q57 q124 q1612 hdX11_act_2 ⟨Nat.le_of_ble_eq_true rfl, Nat.le_of_ble_eq_true rfl⟩ ⟨Nat.zero_le _, Nat.zero_le _⟩ rfl hl.1 rfl (lv_room (Nat.le_of_ble_eq_true rfl)) dX11_block_34) (fun r6 st5 H locs h hP hS => ?_)
      obtain ⟨hr6, h⟩ := h
      refine lv_if_ne C.1 C.2.1 (tgt := 23) dX11_block_37 (by decide) (fun hc => ?_) (fun hc => ?_)
      · have h := h.1 hc
        exact hR23 v1 st5 _ _ _ h hl hP hS
      · have h := h.2 hc
        refine lv_iconst C.1 C.2.1 (v := 0) dX11_block_40 rfl ?_
        exact z_ri C hr hlk (bz_n bz0) hP hS ⟨bz0, h⟩ dX11_block_41
set_option maxHeartbeats 4000000 in
set_option maxRecDepth 100000 in
theorem tX11_block_2 {l : Launch} {E : En0} {L : List Nat} (hE : EK E L) (hL : Cov 54 77 L) {b : Nat} {p1 : Int32} {st : St} {Q : Int32 → St → Prop} (hb : kd b = 10) (h : wX11_block_2 b p1 st Q) : Mz l yX11_block cX11_block 2 (some .boolean) rmX11_block_2 E L [.ref (E.2.1 b), .int p1] st (zI E L (fun r u => bz r ∧ Q r u)) := by
  refine Mz.of hE (by decide) (Nat.le_of_ble_eq_true rfl) ?_
  intro p e s m below meth c ls C hr hlk _ hl hP
  replace C : Cx E L "PlankBridgeModel$Reader" cX11_block 2 p s m _ c := C
  have hS : va_S (fA E L s.heap.size) s.heap s.heap [] := va_S.rf
  replace hl : lv_has ls 2 [(0, .ref (E.2.1 b)), (1, .int p1)] := hl
  unfold wX11_block_2 at h
  refine lv_aload_n C.1 C.2.1 dX11_block_0 rfl (lv_at hl 0 rfl) ?_
  refine gf10_6 C hP hb (m10 hb hL) q1445 dX11_block_1 ?_
  refine lv_bipush C.1 C.2.1 (v := 40) dX11_block_4 rfl ?_
  refine lv_icmp_ne C.1 C.2.1 (tgt := 14) dX11_block_6 (by decide) (fun hc => ?_) (fun hc => ?_)
  · have h := h.1 hc
    exact tX11_block_2_L14 hL C hr hlk hb _ _ _ h (lv_sub hl [0] rfl) hP hS
  · have h := h.2 hc
    refine lv_iload_n C.1 C.2.1 dX11_block_9 rfl (lv_at hl 1 rfl) ?_
    refine lv_iconst C.1 C.2.1 (v := 3) dX11_block_10 rfl ?_
    refine lv_icmp_le C.1 C.2.1 (tgt := 19) dX11_block_11 (by decide) (fun hc => ?_) (fun hc => ?_)
    · have h := h.1 hc
      refine lv_aload_n C.1 C.2.1 dX11_block_19 rfl (lv_at hl 0 rfl) ?_
      refine z_kv hS (z_runV (As := []) (rest := []) C hP hS (m10 hb hL) (e10 hb) rfl (tX11_next C.2.2.2.2.2.2.1 (hL.mo (Nat.le_of_ble_eq_true rfl) (Nat.le_of_ble_eq_true rfl)) hb h) q1492 q1494 q41 q124 q1495 hdX11_next ⟨Nat.le_of_ble_eq_true rfl, Nat.le_of_ble_eq_true rfl⟩ ⟨Nat.zero_le _, Nat.zero_le _⟩ rfl hl.1 rfl (lv_room (Nat.le_of_ble_eq_true rfl)) dX11_block_20) (fun st1 H locs h hP hS => ?_)
      obtain ⟨n, h⟩ := h
      exact tX11_block_2_L23 hL C hr hlk hb n p1 st1 _ _ _ h hl hP hS
    · have h := h.2 hc
      exact tX11_block_2_L14 hL C hr hlk hb _ _ _ h (lv_sub hl [0] rfl) hP hS
def rmX11_loop_3 : Room := { frames := 16, cells := 0, slots := 0, locals := 354 }
def wX11_loop_3 (b : Nat) (p1 : Int32) (st : St) (Q : Int32 → St → Prop) : Prop :=
  (wX11_row b st (fun r2 st1 => ((¬ r2 = (-100) → (wX10_put (b + 2) 211 r2 0 st1 (fun r4 st3 => (wX11_block_2 b (p1 + 1) st3 (fun r6 st5 => ((¬ r6 = 0 → (wX10_put (b + 2) 300 r4 0 st5 (fun r8 st7 => (vp_in (((4 : Int32) * r4) + 3) 1600 ∧ ∀ st9, st9 = uI st7 ((b + 2) + 5) (((4 : Int32) * r4) + 3 : Int32).toNatClampNeg (gI st7 (b + 2) 9) → Q 1 st9)))) ∧ (r6 = 0 → Q 0 st5))))))) ∧ (r2 = (-100) → Q 0 st1))))
theorem hdX11_loop_3 : yX11_loop.cls = "PlankBridgeModel$Reader" ∧ yX11_loop.cls ≠ "java/lang/invoke/MethodHandle" ∧ yX11_loop.cls ≠ "java/lang/invoke/VarHandle" ∧ (parseMethodDescriptor yX11_loop.desc).map (fun d => d.parameters.length) = some 1 := by decide +kernel
set_option maxHeartbeats 4000000 in
set_option maxRecDepth 100000 in
theorem tX11_loop_3 {l : Launch} {E : En0} {L : List Nat} (hE : EK E L) (hL : Cov 54 77 L) {b : Nat} {p1 : Int32} {st : St} {Q : Int32 → St → Prop} (hb : kd b = 10) (h : wX11_loop_3 b p1 st Q) : Mz l yX11_loop cX11_loop 4 (some .boolean) rmX11_loop_3 E L [.ref (E.2.1 b), .int p1] st (zI E L (fun r u => bz r ∧ Q r u)) := by
  refine Mz.of hE (by decide) (Nat.le_of_ble_eq_true rfl) ?_
  intro p e s m below meth c ls C hr hlk _ hl hP
  replace C : Cx E L "PlankBridgeModel$Reader" cX11_loop 4 p s m _ c := C
  have hS : va_S (fA E L s.heap.size) s.heap s.heap [] := va_S.rf
  replace hl : lv_has ls 4 [(0, .ref (E.2.1 b)), (1, .int p1)] := hl
  unfold wX11_loop_3 at h
  refine lv_aload_n C.1 C.2.1 dX11_loop_0 rfl (lv_at hl 0 rfl) ?_
  refine z_ki hS (z_runV (As := []) (rest := []) C hP hS (m10 hb hL) (e10 hb) rfl (tX11_row C.2.2.2.2.2.2.1 (hL.mo (Nat.le_of_ble_eq_true rfl) (Nat.le_of_ble_eq_true rfl)) hb h) q1636 q1638 q62 q124 q1639 hdX11_row ⟨Nat.le_of_ble_eq_true rfl, Nat.le_of_ble_eq_true rfl⟩ ⟨Nat.zero_le _, Nat.zero_le _⟩ rfl hl.1 rfl (lv_room (Nat.le_of_ble_eq_true rfl)) dX11_loop_1) (fun r2 st1 H locs h hP hS => ?_)
  refine lv_istore_n C.1 C.2.1 dX11_loop_4 rfl hl (Nat.le_of_ble_eq_true rfl) rfl (fun ls hl => ?_)
  have hl : lv_has ls 4 [(2, .int r2), (0, .ref (E.2.1 b)), (1, .int p1)] := hl
  refine lv_iload_n C.1 C.2.1 dX11_loop_5 rfl (lv_at hl 0 rfl) ?_
  refine lv_bipush C.1 C.2.1 (v := (-100)) dX11_loop_6 rfl ?_
  refine lv_icmp_ne C.1 C.2.1 (tgt := 13) dX11_loop_8 (by decide) (fun hc => ?_) (fun hc => ?_)
  · have h := h.1 hc
    refine lv_aload_n C.1 C.2.1 dX11_loop_13 rfl (lv_at hl 1 rfl) ?_
    refine gf10_0 C hP hb (m10 hb hL) q1438 dX11_loop_14 ?_
    refine lv_sipush C.1 C.2.1 (v := 211) dX11_loop_17 rfl ?_
    refine lv_iload_n C.1 C.2.1 dX11_loop_20 rfl (lv_at hl 0 rfl) ?_
    refine lv_iconst C.1 C.2.1 (v := 0) dX11_loop_21 rfl ?_
    refine z_ki hS (z_runV (As := [.int 211, .int r2, .int 0]) (rest := []) C hP hS (m10_2 hb hL) (e9 (k10_2 hb)) rfl (tX10_put C.2.2.2.2.2.2.1 (hL.mo (Nat.le_of_ble_eq_true rfl) (Nat.le_of_ble_eq_true rfl)) (k10_2 hb) h) q1624 q1625 q1626 q117 q1627 hdX10_put ⟨Nat.le_of_ble_eq_true rfl, Nat.le_of_ble_eq_true rfl⟩ ⟨Nat.zero_le _, Nat.zero_le _⟩ rfl hl.1 rfl (lv_room (Nat.le_of_ble_eq_true rfl)) dX11_loop_22) (fun r4 st3 H locs h hP hS => ?_)
    refine lv_istore_n C.1 C.2.1 dX11_loop_25 rfl hl (Nat.le_of_ble_eq_true rfl) rfl (fun ls hl => ?_)
    have hl : lv_has ls 4 [(3, .int r4), (2, .int r2), (0, .ref (E.2.1 b)), (1, .int p1)] := hl
    refine lv_aload_n C.1 C.2.1 dX11_loop_26 rfl (lv_at hl 2 rfl) ?_
    refine lv_iload_n C.1 C.2.1 dX11_loop_27 rfl (lv_at hl 3 rfl) ?_
    refine lv_iconst C.1 C.2.1 (v := 1) dX11_loop_28 rfl ?_
    refine lv_iadd C.1 C.2.1 dX11_loop_29  ?_
    refine z_ki hS (z_runV (As := [.int (p1 + 1)]) (rest := []) C hP hS (m10 hb hL) (e10 hb) rfl (tX11_block_2 C.2.2.2.2.2.2.1 (hL.mo (Nat.le_of_ble_eq_true rfl) (Nat.le_of_ble_eq_true rfl)) hb h) q1605 q1607 q56 q124 q1608 hdX11_block_2 ⟨Nat.le_of_ble_eq_true rfl, Nat.le_of_ble_eq_true rfl⟩ ⟨Nat.zero_le _, Nat.zero_le _⟩ rfl hl.1 rfl (lv_room (Nat.le_of_ble_eq_true rfl)) dX11_loop_30) (fun r6 st5 H locs h hP hS => ?_)
    obtain ⟨hr6, h⟩ := h
    refine lv_if_ne C.1 C.2.1 (tgt := 38) dX11_loop_33 (by decide) (fun hc => ?_) (fun hc => ?_)
    · have h := h.1 hc
      refine lv_aload_n C.1 C.2.1 dX11_loop_38 rfl (lv_at hl 2 rfl) ?_
      refine gf10_0 C hP hb (m10 hb hL) q1438 dX11_loop_39 ?_
      refine lv_sipush C.1 C.2.1 (v := 300) dX11_loop_42 rfl ?_
      refine lv_iload_n C.1 C.2.1 dX11_loop_45 rfl (lv_at hl 0 rfl) ?_
      refine lv_iconst C.1 C.2.1 (v := 0) dX11_loop_46 rfl ?_
      refine z_ki hS (z_runV (As := [.int 300, .int r4, .int 0]) (rest := []) C hP hS (m10_2 hb hL) (e9 (k10_2 hb)) rfl (tX10_put C.2.2.2.2.2.2.1 (hL.mo (Nat.le_of_ble_eq_true rfl) (Nat.le_of_ble_eq_true rfl)) (k10_2 hb) h) q1624 q1625 q1626 q117 q1627 hdX10_put ⟨Nat.le_of_ble_eq_true rfl, Nat.le_of_ble_eq_true rfl⟩ ⟨Nat.zero_le _, Nat.zero_le _⟩ rfl hl.1 rfl (lv_room (Nat.le_of_ble_eq_true rfl)) dX11_loop_47) (fun r8 st7 H locs h hP hS => ?_)
      refine lv_pop C.1 C.2.1 dX11_loop_50 rfl ?_
      refine lv_aload_n C.1 C.2.1 dX11_loop_51 rfl (lv_at hl 2 rfl) ?_
      refine gf10_0 C hP hb (m10 hb hL) q1438 dX11_loop_52 ?_
      refine gf9_8 C hP (k10_2 hb) (m10_2 hb hL) q1339 dX11_loop_55 ?_
      refine lv_iconst C.1 C.2.1 (v := 4) dX11_loop_58 rfl ?_
      refine lv_iload_n C.1 C.2.1 dX11_loop_59 rfl (lv_at hl 0 rfl) ?_
      refine lv_imul C.1 C.2.1 dX11_loop_60  ?_
      refine lv_iconst C.1 C.2.1 (v := 3) dX11_loop_61 rfl ?_
      refine lv_iadd C.1 C.2.1 dX11_loop_62  ?_
      refine lv_aload_n C.1 C.2.1 dX11_loop_63 rfl (lv_at hl 2 rfl) ?_
      refine gf10_0 C hP hb (m10 hb hL) q1438 dX11_loop_64 ?_
      refine gf9_9 C hP (k10_2 hb) (m10_2 hb hL) q1342 dX11_loop_67 ?_
      obtain ⟨hi, h⟩ := h
      refine z_iast C hP hS (k9_5 (k10_2 hb)) (l9_5 (k10_2 hb)) (m9_5 (k10_2 hb) hL) hi dX11_loop_70 (fun H locs hP hS => ?_)
      obtain ⟨st9, est9⟩ : ∃ z, z = uI st7 ((b + 2) + 5) (((4 : Int32) * r4) + 3 : Int32).toNatClampNeg (gI st7 (b + 2) 9) := ⟨_, rfl⟩
      rw [← est9] at hP; have h := h st9 est9
      refine lv_iconst C.1 C.2.1 (v := 1) dX11_loop_71 rfl ?_
      exact z_ri C hr hlk (bz_n bz1) hP hS ⟨bz1, h⟩ dX11_loop_72
    · have h := h.2 hc
      refine lv_iconst C.1 C.2.1 (v := 0) dX11_loop_36 rfl ?_
      exact z_ri C hr hlk (bz_n bz0) hP hS ⟨bz0, h⟩ dX11_loop_37
  · have h := h.2 hc
    refine lv_iconst C.1 C.2.1 (v := 0) dX11_loop_11 rfl ?_
    exact z_ri C hr hlk (bz_n bz0) hP hS ⟨bz0, h⟩ dX11_loop_12
def rmX11_choice_3 : Room := { frames := 16, cells := 0, slots := 0, locals := 354 }
def wX11_choice_3_L64 (b : Nat) (p1 : Int32)  (v1 : Int32) (v3 : Int32) (s0 : Int32) (st : St) (Q : Int32 → St → Prop) : Prop :=
  (vp_in (((4 : Int32) * v3) + 3) 1600 ∧ ∀ st9, st9 = uI st ((b + 2) + 5) (((4 : Int32) * v3) + 3 : Int32).toNatClampNeg (gI st (b + 2) 9) → ((¬ s0 = (-1) → (wX11_next b st9 (fun st10 => (wX11_block_2 b (v1 + 1) st10 (fun r12 st11 => ((¬ r12 = 0 → (vp_in (((4 : Int32) * s0) + 1) 1600 ∧ ∀ st13, st13 = uI st11 ((b + 2) + 5) (((4 : Int32) * s0) + 1 : Int32).toNatClampNeg (gI st11 (b + 2) 9) → Q 1 st13)) ∧ (r12 = 0 → Q 0 st11))))))) ∧ (s0 = (-1) → Q 1 st9)))
def wX11_choice_3 (b : Nat) (p1 : Int32) (st : St) (Q : Int32 → St → Prop) : Prop :=
  (wX11_row b st (fun r2 st1 => ((¬ r2 = (-100) → (wX10_put (b + 2) 212 r2 0 st1 (fun r4 st3 => (wX11_block_2 b (p1 + 1) st3 (fun r6 st5 => ((¬ r6 = 0 → ((¬ (gI st5 b 6) = 213 → wX11_choice_3_L64 b p1 p1 r4 (-1) st5 Q) ∧ ((gI st5 b 6) = 213 → (wX10_put (b + 2) 300 0 0 st5 (fun r8 st7 => wX11_choice_3_L64 b p1 p1 r4 r8 st7 Q))))) ∧ (r6 = 0 → Q 0 st5))))))) ∧ (r2 = (-100) → Q 0 st1))))
theorem hdX11_choice_3 : yX11_choice.cls = "PlankBridgeModel$Reader" ∧ yX11_choice.cls ≠ "java/lang/invoke/MethodHandle" ∧ yX11_choice.cls ≠ "java/lang/invoke/VarHandle" ∧ (parseMethodDescriptor yX11_choice.desc).map (fun d => d.parameters.length) = some 1 := by decide +kernel
set_option maxHeartbeats 4000000 in
set_option maxRecDepth 100000 in
theorem tX11_choice_3_L64 {l : Launch} {p : Program} {e : Env} {s : State} {m : MethodId} {args : Array Value} {below : List Frame} {meth : Method} {c : Code} {E : En0} {L : List Nat} (hL : Cov 54 77 L) (C : Cx E L "PlankBridgeModel$Reader" cX11_choice 5 p s m args c) (hr : meth.sig.returnType = (some .boolean)) (hlk : meth.locks = false) {b : Nat} {p1 : Int32} {Q : Int32 → St → Prop} (hb : kd b = 10) {v1 : Int32} {v3 : Int32} {s0 : Int32}  {st : St} (H : Heap) (locs : List Loc) (ls : Array Slot) (h : wX11_choice_3_L64 b p1 v1 v3 s0 st Q) (hl : lv_has ls 5 [(0, .ref (E.2.1 b)), (1, .int v1), (3, .int v3)]) (hP : va_P E.1 vwCl (wd E L st) H) (hS : va_S (fA E L s.heap.size) s.heap H locs) : W p l e rmX11_choice_3 s m args below meth c H locs 0 0 (MQ below (zI E L (fun r u => bz r ∧ Q r u) (fA E L s.heap.size)) args s rmX11_choice_3.cells rmX11_choice_3.slots (fA E L s.heap.size)) (F0 m 64 ls [.int s0]) := by
  unfold wX11_choice_3_L64 at h
  refine lv_istore C.1 C.2.1 dX11_choice_64 hl (Nat.le_of_ble_eq_true rfl) rfl (fun ls hl => ?_)
  have hl : lv_has ls 5 [(4, .int s0), (0, .ref (E.2.1 b)), (1, .int v1), (3, .int v3)] := hl
  refine lv_aload_n C.1 C.2.1 dX11_choice_66 rfl (lv_at hl 1 rfl) ?_
  refine gf10_0 C hP hb (m10 hb hL) q1438 dX11_choice_67 ?_
  refine gf9_8 C hP (k10_2 hb) (m10_2 hb hL) q1339 dX11_choice_70 ?_
  refine lv_iconst C.1 C.2.1 (v := 4) dX11_choice_73 rfl ?_
  refine lv_iload_n C.1 C.2.1 dX11_choice_74 rfl (lv_at hl 3 rfl) ?_
  refine lv_imul C.1 C.2.1 dX11_choice_75  ?_
  refine lv_iconst C.1 C.2.1 (v := 3) dX11_choice_76 rfl ?_
  refine lv_iadd C.1 C.2.1 dX11_choice_77  ?_
  refine lv_aload_n C.1 C.2.1 dX11_choice_78 rfl (lv_at hl 1 rfl) ?_
  refine gf10_0 C hP hb (m10 hb hL) q1438 dX11_choice_79 ?_
  refine gf9_9 C hP (k10_2 hb) (m10_2 hb hL) q1342 dX11_choice_82 ?_
  obtain ⟨hi, h⟩ := h
  refine z_iast C hP hS (k9_5 (k10_2 hb)) (l9_5 (k10_2 hb)) (m9_5 (k10_2 hb) hL) hi dX11_choice_85 (fun H locs hP hS => ?_)
  obtain ⟨st9, est9⟩ : ∃ z, z = uI st ((b + 2) + 5) (((4 : Int32) * v3) + 3 : Int32).toNatClampNeg (gI st (b + 2) 9) := ⟨_, rfl⟩
  rw [← est9] at hP; have h := h st9 est9
  refine lv_iload C.1 C.2.1 dX11_choice_86 (lv_at hl 0 rfl) ?_
  refine lv_iconst C.1 C.2.1 (v := (-1)) dX11_choice_88 rfl ?_
  refine lv_icmp_ne C.1 C.2.1 (tgt := 94) dX11_choice_89 (by decide) (fun hc => ?_) (fun hc => ?_)
  · have h := h.1 hc
    refine lv_aload_n C.1 C.2.1 dX11_choice_94 rfl (lv_at hl 1 rfl) ?_
    refine z_kv hS (z_runV (As := []) (rest := []) C hP hS (m10 hb hL) (e10 hb) rfl (tX11_next C.2.2.2.2.2.2.1 (hL.mo (Nat.le_of_ble_eq_true rfl) (Nat.le_of_ble_eq_true rfl)) hb h) q1492 q1494 q41 q124 q1495 hdX11_next ⟨Nat.le_of_ble_eq_true rfl, Nat.le_of_ble_eq_true rfl⟩ ⟨Nat.zero_le _, Nat.zero_le _⟩ rfl hl.1 rfl (lv_room (Nat.le_of_ble_eq_true rfl)) dX11_choice_95) (fun st10 H locs h hP hS => ?_)
    refine lv_aload_n C.1 C.2.1 dX11_choice_98 rfl (lv_at hl 1 rfl) ?_
    refine lv_iload_n C.1 C.2.1 dX11_choice_99 rfl (lv_at hl 2 rfl) ?_
    refine lv_iconst C.1 C.2.1 (v := 1) dX11_choice_100 rfl ?_
    refine lv_iadd C.1 C.2.1 dX11_choice_101  ?_
    refine z_ki hS (z_runV (As := [.int (v1 + 1)]) (rest := []) C hP hS (m10 hb hL) (e10 hb) rfl (tX11_block_2 C.2.2.2.2.2.2.1 (hL.mo (Nat.le_of_ble_eq_true rfl) (Nat.le_of_ble_eq_true rfl)) hb h) q1605 q1607 q56 q124 q1608 hdX11_block_2 ⟨Nat.le_of_ble_eq_true rfl, Nat.le_of_ble_eq_true rfl⟩ ⟨Nat.zero_le _, Nat.zero_le _⟩ rfl hl.1 rfl (lv_room (Nat.le_of_ble_eq_true rfl)) dX11_choice_102) (fun r12 st11 H locs h hP hS => ?_)
    obtain ⟨hr12, h⟩ := h
    refine lv_if_ne C.1 C.2.1 (tgt := 110) dX11_choice_105 (by decide) (fun hc => ?_) (fun hc => ?_)
    · have h := h.1 hc
      refine lv_aload_n C.1 C.2.1 dX11_choice_110 rfl (lv_at hl 1 rfl) ?_
      refine gf10_0 C hP hb (m10 hb hL) q1438 dX11_choice_111 ?_
      refine gf9_8 C hP (k10_2 hb) (m10_2 hb hL) q1339 dX11_choice_114 ?_
      refine lv_iconst C.1 C.2.1 (v := 4) dX11_choice_117 rfl ?_
      refine lv_iload C.1 C.2.1 dX11_choice_118 (lv_at hl 0 rfl) ?_
      refine lv_imul C.1 C.2.1 dX11_choice_120  ?_
      refine lv_iconst C.1 C.2.1 (v := 1) dX11_choice_121 rfl ?_
      refine lv_iadd C.1 C.2.1 dX11_choice_122  ?_
      refine lv_aload_n C.1 C.2.1 dX11_choice_123 rfl (lv_at hl 1 rfl) ?_
      refine gf10_0 C hP hb (m10 hb hL) q1438 dX11_choice_124 ?_
      refine gf9_9 C hP (k10_2 hb) (m10_2 hb hL) q1342 dX11_choice_127 ?_
      obtain ⟨hi, h⟩ := h
      refine z_iast C hP hS (k9_5 (k10_2 hb)) (l9_5 (k10_2 hb)) (m9_5 (k10_2 hb) hL) hi dX11_choice_130 (fun H locs hP hS => ?_)
      obtain ⟨st13, est13⟩ : ∃ z, z = uI st11 ((b + 2) + 5) (((4 : Int32) * s0) + 1 : Int32).toNatClampNeg (gI st11 (b + 2) 9) := ⟨_, rfl⟩
      rw [← est13] at hP; have h := h st13 est13
      refine lv_iconst C.1 C.2.1 (v := 1) dX11_choice_131 rfl ?_
      exact z_ri C hr hlk (bz_n bz1) hP hS ⟨bz1, h⟩ dX11_choice_132
    · have h := h.2 hc
      refine lv_iconst C.1 C.2.1 (v := 0) dX11_choice_108 rfl ?_
      exact z_ri C hr hlk (bz_n bz0) hP hS ⟨bz0, h⟩ dX11_choice_109
  · have h := h.2 hc
    refine lv_iconst C.1 C.2.1 (v := 1) dX11_choice_92 rfl ?_
    exact z_ri C hr hlk (bz_n bz1) hP hS ⟨bz1, h⟩ dX11_choice_93
set_option maxHeartbeats 4000000 in
set_option maxRecDepth 100000 in
theorem tX11_choice_3 {l : Launch} {E : En0} {L : List Nat} (hE : EK E L) (hL : Cov 54 77 L) {b : Nat} {p1 : Int32} {st : St} {Q : Int32 → St → Prop} (hb : kd b = 10) (h : wX11_choice_3 b p1 st Q) : Mz l yX11_choice cX11_choice 5 (some .boolean) rmX11_choice_3 E L [.ref (E.2.1 b), .int p1] st (zI E L (fun r u => bz r ∧ Q r u)) := by
  refine Mz.of hE (by decide) (Nat.le_of_ble_eq_true rfl) ?_
  intro p e s m below meth c ls C hr hlk _ hl hP
  replace C : Cx E L "PlankBridgeModel$Reader" cX11_choice 5 p s m _ c := C
  have hS : va_S (fA E L s.heap.size) s.heap s.heap [] := va_S.rf
  replace hl : lv_has ls 5 [(0, .ref (E.2.1 b)), (1, .int p1)] := hl
  unfold wX11_choice_3 at h
  refine lv_aload_n C.1 C.2.1 dX11_choice_0 rfl (lv_at hl 0 rfl) ?_
  refine z_ki hS (z_runV (As := []) (rest := []) C hP hS (m10 hb hL) (e10 hb) rfl (tX11_row C.2.2.2.2.2.2.1 (hL.mo (Nat.le_of_ble_eq_true rfl) (Nat.le_of_ble_eq_true rfl)) hb h) q1636 q1638 q62 q124 q1639 hdX11_row ⟨Nat.le_of_ble_eq_true rfl, Nat.le_of_ble_eq_true rfl⟩ ⟨Nat.zero_le _, Nat.zero_le _⟩ rfl hl.1 rfl (lv_room (Nat.le_of_ble_eq_true rfl)) dX11_choice_1) (fun r2 st1 H locs h hP hS => ?_)
  refine lv_istore_n C.1 C.2.1 dX11_choice_4 rfl hl (Nat.le_of_ble_eq_true rfl) rfl (fun ls hl => ?_)
  have hl : lv_has ls 5 [(2, .int r2), (0, .ref (E.2.1 b)), (1, .int p1)] := hl
  refine lv_iload_n C.1 C.2.1 dX11_choice_5 rfl (lv_at hl 0 rfl) ?_
  refine lv_bipush C.1 C.2.1 (v := (-100)) dX11_choice_6 rfl ?_
  refine lv_icmp_ne C.1 C.2.1 (tgt := 13) dX11_choice_8 (by decide) (fun hc => ?_) (fun hc => ?_)
  · have h := h.1 hc
    refine lv_aload_n C.1 C.2.1 dX11_choice_13 rfl (lv_at hl 1 rfl) ?_
    refine gf10_0 C hP hb (m10 hb hL) q1438 dX11_choice_14 ?_
    refine lv_sipush C.1 C.2.1 (v := 212) dX11_choice_17 rfl ?_
    refine lv_iload_n C.1 C.2.1 dX11_choice_20 rfl (lv_at hl 0 rfl) ?_
    refine lv_iconst C.1 C.2.1 (v := 0) dX11_choice_21 rfl ?_
    refine z_ki hS (z_runV (As := [.int 212, .int r2, .int 0]) (rest := []) C hP hS (m10_2 hb hL) (e9 (k10_2 hb)) rfl (tX10_put C.2.2.2.2.2.2.1 (hL.mo (Nat.le_of_ble_eq_true rfl) (Nat.le_of_ble_eq_true rfl)) (k10_2 hb) h) q1624 q1625 q1626 q117 q1627 hdX10_put ⟨Nat.le_of_ble_eq_true rfl, Nat.le_of_ble_eq_true rfl⟩ ⟨Nat.zero_le _, Nat.zero_le _⟩ rfl hl.1 rfl (lv_room (Nat.le_of_ble_eq_true rfl)) dX11_choice_22) (fun r4 st3 H locs h hP hS => ?_)
    refine lv_istore_n C.1 C.2.1 dX11_choice_25 rfl hl (Nat.le_of_ble_eq_true rfl) rfl (fun ls hl => ?_)
    have hl : lv_has ls 5 [(3, .int r4), (2, .int r2), (0, .ref (E.2.1 b)), (1, .int p1)] := hl
    refine lv_aload_n C.1 C.2.1 dX11_choice_26 rfl (lv_at hl 2 rfl) ?_
    refine lv_iload_n C.1 C.2.1 dX11_choice_27 rfl (lv_at hl 3 rfl) ?_
    refine lv_iconst C.1 C.2.1 (v := 1) dX11_choice_28 rfl ?_
    refine lv_iadd C.1 C.2.1 dX11_choice_29  ?_
    refine z_ki hS (z_runV (As := [.int (p1 + 1)]) (rest := []) C hP hS (m10 hb hL) (e10 hb) rfl (tX11_block_2 C.2.2.2.2.2.2.1 (hL.mo (Nat.le_of_ble_eq_true rfl) (Nat.le_of_ble_eq_true rfl)) hb h) q1605 q1607 q56 q124 q1608 hdX11_block_2 ⟨Nat.le_of_ble_eq_true rfl, Nat.le_of_ble_eq_true rfl⟩ ⟨Nat.zero_le _, Nat.zero_le _⟩ rfl hl.1 rfl (lv_room (Nat.le_of_ble_eq_true rfl)) dX11_choice_30) (fun r6 st5 H locs h hP hS => ?_)
    obtain ⟨hr6, h⟩ := h
    refine lv_if_ne C.1 C.2.1 (tgt := 38) dX11_choice_33 (by decide) (fun hc => ?_) (fun hc => ?_)
    · have h := h.1 hc
      refine lv_aload_n C.1 C.2.1 dX11_choice_38 rfl (lv_at hl 2 rfl) ?_
      refine gf10_6 C hP hb (m10 hb hL) q1445 dX11_choice_39 ?_
      refine lv_sipush C.1 C.2.1 (v := 213) dX11_choice_42 rfl ?_
      refine lv_icmp_ne C.1 C.2.1 (tgt := 63) dX11_choice_45 (by decide) (fun hc => ?_) (fun hc => ?_)
      · have h := h.1 hc
        refine lv_iconst C.1 C.2.1 (v := (-1)) dX11_choice_63 rfl ?_
        exact tX11_choice_3_L64 hL C hr hlk hb _ _ _ h (lv_sub hl [2, 3, 0] rfl) hP hS
      · have h := h.2 hc
        refine lv_aload_n C.1 C.2.1 dX11_choice_48 rfl (lv_at hl 2 rfl) ?_
        refine gf10_0 C hP hb (m10 hb hL) q1438 dX11_choice_49 ?_
        refine lv_sipush C.1 C.2.1 (v := 300) dX11_choice_52 rfl ?_
        refine lv_iconst C.1 C.2.1 (v := 0) dX11_choice_55 rfl ?_
        refine lv_iconst C.1 C.2.1 (v := 0) dX11_choice_56 rfl ?_
        refine z_ki hS (z_runV (As := [.int 300, .int 0, .int 0]) (rest := []) C hP hS (m10_2 hb hL) (e9 (k10_2 hb)) rfl (tX10_put C.2.2.2.2.2.2.1 (hL.mo (Nat.le_of_ble_eq_true rfl) (Nat.le_of_ble_eq_true rfl)) (k10_2 hb) h) q1624 q1625 q1626 q117 q1627 hdX10_put ⟨Nat.le_of_ble_eq_true rfl, Nat.le_of_ble_eq_true rfl⟩ ⟨Nat.zero_le _, Nat.zero_le _⟩ rfl hl.1 rfl (lv_room (Nat.le_of_ble_eq_true rfl)) dX11_choice_57) (fun r8 st7 H locs h hP hS => ?_)
        refine lv_goto C.1 C.2.1 (tgt := 64) dX11_choice_60 (by decide) ?_
        exact tX11_choice_3_L64 hL C hr hlk hb _ _ _ h (lv_sub hl [2, 3, 0] rfl) hP hS
    · have h := h.2 hc
      refine lv_iconst C.1 C.2.1 (v := 0) dX11_choice_36 rfl ?_
      exact z_ri C hr hlk (bz_n bz0) hP hS ⟨bz0, h⟩ dX11_choice_37
  · have h := h.2 hc
    refine lv_iconst C.1 C.2.1 (v := 0) dX11_choice_11 rfl ?_
    exact z_ri C hr hlk (bz_n bz0) hP hS ⟨bz0, h⟩ dX11_choice_12
def rmX11_act_3 : Room := { frames := 17, cells := 0, slots := 0, locals := 378 }
def wX11_act_3_L30 (b : Nat) (p1 : Int32)   (st : St) (Q : Int32 → St → Prop) : Prop :=
  (wX11_wrong b st (fun r3 st2 => Q r3 st2))
def wX11_act_3_L154 (b : Nat) (p1 : Int32)  (v2 : Int32) (st : St) (Q : Int32 → St → Prop) : Prop :=
  (wX11_value b st (fun r16 st15 => ((¬ r16 = (-100) → (wX10_put (b + 2) v2 r16 0 st15 (fun r18 st17 => (wX11_take b 59 st17 (fun r20 st19 => Q r20 st19))))) ∧ (r16 = (-100) → Q 0 st15))))
def wX11_act_3_L77 (b : Nat) (p1 : Int32)  (v1 : Int32) (st : St) (Q : Int32 → St → Prop) : Prop :=
  (∀ x5 : Int32, x5 = (gI st b 6) → (wX11_next b st (fun st6 => ((((x5 : Int32).toInt < 205 ∨ 212 < (x5 : Int32).toInt) → wX11_act_3_L154 b p1 x5 st6 Q) ∧ ((x5 = 205 → (wX11_send b st6 (fun r8 st7 => Q r8 st7))) ∧ (x5 = 206 → wX11_act_3_L154 b p1 x5 st6 Q) ∧ (x5 = 207 → wX11_act_3_L154 b p1 x5 st6 Q) ∧ (x5 = 208 → wX11_act_3_L154 b p1 x5 st6 Q) ∧ (x5 = 209 → wX11_act_3_L154 b p1 x5 st6 Q) ∧ (x5 = 210 → (wX11_does b st6 (fun r10 st9 => Q r10 st9))) ∧ (x5 = 211 → (wX11_loop_3 b v1 st6 (fun r12 st11 => Q r12 st11))) ∧ (x5 = 212 → (wX11_choice_3 b v1 st6 (fun r14 st13 => Q r14 st13))))))))
def wX11_act_3_L52 (b : Nat) (p1 : Int32)  (v1 : Int32) (st : St) (Q : Int32 → St → Prop) : Prop :=
  ((60 ≤ (gI st (b + 2) 3) → wX11_act_3_L77 b p1 v1 st Q) ∧ (¬ 60 ≤ (gI st (b + 2) 3) → (∀ st4, st4 = uI st (b + 2) 3 ((gI st (b + 2) 3) + 1) → wX11_act_3_L77 b p1 v1 st4 Q)))
def wX11_act_3 (b : Nat) (p1 : Int32) (st : St) (Q : Int32 → St → Prop) : Prop :=
  (((gI st b 6) < 205 → wX11_act_3_L30 b p1 st Q) ∧ (¬ (gI st b 6) < 205 → ((212 < (gI st b 6) → wX11_act_3_L30 b p1 st Q) ∧ (¬ 212 < (gI st b 6) → ((¬ (gI st b 6) = 206 → ((¬ (gI st (b + 2) 3) = 60 → wX11_act_3_L52 b p1 p1 st Q) ∧ ((gI st (b + 2) 3) = 60 → (wX11_note b 4 st (fun st1 => wX11_act_3_L52 b p1 p1 st1 Q))))) ∧ ((gI st b 6) = 206 → wX11_act_3_L30 b p1 st Q))))))
theorem hdX11_act_3 : yX11_act.cls = "PlankBridgeModel$Reader" ∧ yX11_act.cls ≠ "java/lang/invoke/MethodHandle" ∧ yX11_act.cls ≠ "java/lang/invoke/VarHandle" ∧ (parseMethodDescriptor yX11_act.desc).map (fun d => d.parameters.length) = some 1 := by decide +kernel
set_option maxHeartbeats 4000000 in
set_option maxRecDepth 100000 in
theorem tX11_act_3_L30 {l : Launch} {p : Program} {e : Env} {s : State} {m : MethodId} {args : Array Value} {below : List Frame} {meth : Method} {c : Code} {E : En0} {L : List Nat} (hL : Cov 54 77 L) (C : Cx E L "PlankBridgeModel$Reader" cX11_act 4 p s m args c) (hr : meth.sig.returnType = (some .boolean)) (hlk : meth.locks = false) {b : Nat} {p1 : Int32} {Q : Int32 → St → Prop} (hb : kd b = 10)   {st : St} (H : Heap) (locs : List Loc) (ls : Array Slot) (h : wX11_act_3_L30 b p1 st Q) (hl : lv_has ls 4 [(0, .ref (E.2.1 b))]) (hP : va_P E.1 vwCl (wd E L st) H) (hS : va_S (fA E L s.heap.size) s.heap H locs) : W p l e rmX11_act_3 s m args below meth c H locs 0 0 (MQ below (zI E L (fun r u => bz r ∧ Q r u) (fA E L s.heap.size)) args s rmX11_act_3.cells rmX11_act_3.slots (fA E L s.heap.size)) (F0 m 30 ls []) := by
  unfold wX11_act_3_L30 at h
  refine lv_aload_n C.1 C.2.1 dX11_act_30 rfl (lv_at hl 0 rfl) ?_
  refine z_ki hS (z_runV (As := []) (rest := []) C hP hS (m10 hb hL) (e10 hb) rfl (tX11_wrong C.2.2.2.2.2.2.1 (hL.mo (Nat.le_of_ble_eq_true rfl) (Nat.le_of_ble_eq_true rfl)) hb h) q1576 q1578 q49 q124 q1579 hdX11_wrong ⟨Nat.le_of_ble_eq_true rfl, Nat.le_of_ble_eq_true rfl⟩ ⟨Nat.zero_le _, Nat.zero_le _⟩ rfl hl.1 rfl (lv_room (Nat.le_of_ble_eq_true rfl)) dX11_act_31) (fun r3 st2 H locs h hP hS => ?_)
  obtain ⟨hr3, h⟩ := h
  exact z_ri C hr hlk (bz_n hr3) hP hS ⟨hr3, h⟩ dX11_act_34
set_option maxHeartbeats 4000000 in
set_option maxRecDepth 100000 in
theorem tX11_act_3_L154 {l : Launch} {p : Program} {e : Env} {s : State} {m : MethodId} {args : Array Value} {below : List Frame} {meth : Method} {c : Code} {E : En0} {L : List Nat} (hL : Cov 54 77 L) (C : Cx E L "PlankBridgeModel$Reader" cX11_act 4 p s m args c) (hr : meth.sig.returnType = (some .boolean)) (hlk : meth.locks = false) {b : Nat} {p1 : Int32} {Q : Int32 → St → Prop} (hb : kd b = 10) {v2 : Int32}  {st : St} (H : Heap) (locs : List Loc) (ls : Array Slot) (h : wX11_act_3_L154 b p1 v2 st Q) (hl : lv_has ls 4 [(0, .ref (E.2.1 b)), (2, .int v2)]) (hP : va_P E.1 vwCl (wd E L st) H) (hS : va_S (fA E L s.heap.size) s.heap H locs) : W p l e rmX11_act_3 s m args below meth c H locs 0 0 (MQ below (zI E L (fun r u => bz r ∧ Q r u) (fA E L s.heap.size)) args s rmX11_act_3.cells rmX11_act_3.slots (fA E L s.heap.size)) (F0 m 154 ls []) := by
  unfold wX11_act_3_L154 at h
  refine lv_aload_n C.1 C.2.1 dX11_act_154 rfl (lv_at hl 0 rfl) ?_
  refine z_ki hS (z_runV (As := []) (rest := []) C hP hS (m10 hb hL) (e10 hb) rfl (tX11_value C.2.2.2.2.2.2.1 (hL.mo (Nat.le_of_ble_eq_true rfl) (Nat.le_of_ble_eq_true rfl)) hb h) q1640 q1642 q63 q124 q1643 hdX11_value ⟨Nat.le_of_ble_eq_true rfl, Nat.le_of_ble_eq_true rfl⟩ ⟨Nat.zero_le _, Nat.zero_le _⟩ rfl hl.1 rfl (lv_room (Nat.le_of_ble_eq_true rfl)) dX11_act_155) (fun r16 st15 H locs h hP hS => ?_)
  refine lv_istore_n C.1 C.2.1 dX11_act_158 rfl hl (Nat.le_of_ble_eq_true rfl) rfl (fun ls hl => ?_)
  have hl : lv_has ls 4 [(3, .int r16), (0, .ref (E.2.1 b)), (2, .int v2)] := hl
  refine lv_iload_n C.1 C.2.1 dX11_act_159 rfl (lv_at hl 0 rfl) ?_
  refine lv_bipush C.1 C.2.1 (v := (-100)) dX11_act_160 rfl ?_
  refine lv_icmp_ne C.1 C.2.1 (tgt := 167) dX11_act_162 (by decide) (fun hc => ?_) (fun hc => ?_)
  · have h := h.1 hc
    refine lv_aload_n C.1 C.2.1 dX11_act_167 rfl (lv_at hl 1 rfl) ?_
    refine gf10_0 C hP hb (m10 hb hL) q1438 dX11_act_168 ?_
    refine lv_iload_n C.1 C.2.1 dX11_act_171 rfl (lv_at hl 2 rfl) ?_
    refine lv_iload_n C.1 C.2.1 dX11_act_172 rfl (lv_at hl 0 rfl) ?_
    refine lv_iconst C.1 C.2.1 (v := 0) dX11_act_173 rfl ?_
    refine z_ki hS (z_runV (As := [.int v2, .int r16, .int 0]) (rest := []) C hP hS (m10_2 hb hL) (e9 (k10_2 hb)) rfl (tX10_put C.2.2.2.2.2.2.1 (hL.mo (Nat.le_of_ble_eq_true rfl) (Nat.le_of_ble_eq_true rfl)) (k10_2 hb) h) q1624 q1625 q1626 q117 q1627 hdX10_put ⟨Nat.le_of_ble_eq_true rfl, Nat.le_of_ble_eq_true rfl⟩ ⟨Nat.zero_le _, Nat.zero_le _⟩ rfl hl.1 rfl (lv_room (Nat.le_of_ble_eq_true rfl)) dX11_act_174) (fun r18 st17 H locs h hP hS => ?_)
    refine lv_pop C.1 C.2.1 dX11_act_177 rfl ?_
    refine lv_aload_n C.1 C.2.1 dX11_act_178 rfl (lv_at hl 1 rfl) ?_
    refine lv_bipush C.1 C.2.1 (v := 59) dX11_act_179 rfl ?_
    refine z_ki hS (z_runV (As := [.int 59]) (rest := []) C hP hS (m10 hb hL) (e10 hb) rfl (tX11_take C.2.2.2.2.2.2.1 (hL.mo (Nat.le_of_ble_eq_true rfl) (Nat.le_of_ble_eq_true rfl)) hb h) q1588 q1590 q52 q124 q1591 hdX11_take ⟨Nat.le_of_ble_eq_true rfl, Nat.le_of_ble_eq_true rfl⟩ ⟨Nat.zero_le _, Nat.zero_le _⟩ rfl hl.1 rfl (lv_room (Nat.le_of_ble_eq_true rfl)) dX11_act_181) (fun r20 st19 H locs h hP hS => ?_)
    obtain ⟨hr20, h⟩ := h
    exact z_ri C hr hlk (bz_n hr20) hP hS ⟨hr20, h⟩ dX11_act_184
  · have h := h.2 hc
    refine lv_iconst C.1 C.2.1 (v := 0) dX11_act_165 rfl ?_
    exact z_ri C hr hlk (bz_n bz0) hP hS ⟨bz0, h⟩ dX11_act_166
set_option maxHeartbeats 4000000 in
set_option maxRecDepth 100000 in
theorem tX11_act_3_L77 {l : Launch} {p : Program} {e : Env} {s : State} {m : MethodId} {args : Array Value} {below : List Frame} {meth : Method} {c : Code} {E : En0} {L : List Nat} (hL : Cov 54 77 L) (C : Cx E L "PlankBridgeModel$Reader" cX11_act 4 p s m args c) (hr : meth.sig.returnType = (some .boolean)) (hlk : meth.locks = false) {b : Nat} {p1 : Int32} {Q : Int32 → St → Prop} (hb : kd b = 10) {v1 : Int32}  {st : St} (H : Heap) (locs : List Loc) (ls : Array Slot) (h : wX11_act_3_L77 b p1 v1 st Q) (hl : lv_has ls 4 [(0, .ref (E.2.1 b)), (1, .int v1)]) (hP : va_P E.1 vwCl (wd E L st) H) (hS : va_S (fA E L s.heap.size) s.heap H locs) : W p l e rmX11_act_3 s m args below meth c H locs 0 0 (MQ below (zI E L (fun r u => bz r ∧ Q r u) (fA E L s.heap.size)) args s rmX11_act_3.cells rmX11_act_3.slots (fA E L s.heap.size)) (F0 m 77 ls []) := by
  unfold wX11_act_3_L77 at h
  refine lv_aload_n C.1 C.2.1 dX11_act_77 rfl (lv_at hl 0 rfl) ?_
  refine gf10_6 C hP hb (m10 hb hL) q1445 dX11_act_78 ?_
  refine lv_topi (fun x5 ex5 => ?_)
  have h := h x5 ex5
  refine lv_istore_n C.1 C.2.1 dX11_act_81 rfl hl (Nat.le_of_ble_eq_true rfl) rfl (fun ls hl => ?_)
  have hl : lv_has ls 4 [(2, .int x5), (0, .ref (E.2.1 b)), (1, .int v1)] := hl
  refine lv_aload_n C.1 C.2.1 dX11_act_82 rfl (lv_at hl 1 rfl) ?_
  refine z_kv hS (z_runV (As := []) (rest := []) C hP hS (m10 hb hL) (e10 hb) rfl (tX11_next C.2.2.2.2.2.2.1 (hL.mo (Nat.le_of_ble_eq_true rfl) (Nat.le_of_ble_eq_true rfl)) hb h) q1492 q1494 q41 q124 q1495 hdX11_next ⟨Nat.le_of_ble_eq_true rfl, Nat.le_of_ble_eq_true rfl⟩ ⟨Nat.zero_le _, Nat.zero_le _⟩ rfl hl.1 rfl (lv_room (Nat.le_of_ble_eq_true rfl)) dX11_act_83) (fun st6 H locs h hP hS => ?_)
  refine lv_iload_n C.1 C.2.1 dX11_act_86 rfl (lv_at hl 0 rfl) ?_
  rcases Classical.em ((x5 : Int32).toInt < 205 ∨ 212 < (x5 : Int32).toInt) with hx | hx
  · have h := h.1 hx
    refine lv_tableOut C.1 C.2.1 (tgt := 154) dX11_act_87 hx (by decide) ?_
    exact tX11_act_3_L154 hL C hr hlk hb _ _ _ h (lv_sub hl [1, 0] rfl) hP hS
  · have h := h.2
    have hx : (x5 : Int32).toInt = 205 ∨ (x5 : Int32).toInt = 206 ∨ (x5 : Int32).toInt = 207 ∨ (x5 : Int32).toInt = 208 ∨ (x5 : Int32).toInt = 209 ∨ (x5 : Int32).toInt = 210 ∨ (x5 : Int32).toInt = 211 ∨ (x5 : Int32).toInt = 212 := by omega
    rcases hx with hx | hx | hx | hx | hx | hx | hx | hx
    · have h := h.1 (i32_eq (hx.trans (by decide)))
      refine lv_tableIn C.1 C.2.1 (off := 45) (tgt := 132) dX11_act_87 (by omega) (by omega) (by rw [hx]; rfl) (by decide) ?_
      refine lv_aload_n C.1 C.2.1 dX11_act_132 rfl (lv_at hl 1 rfl) ?_
      refine z_ki hS (z_runV (As := []) (rest := []) C hP hS (m10 hb hL) (e10 hb) rfl (tX11_send C.2.2.2.2.2.2.1 (hL.mo (Nat.le_of_ble_eq_true rfl) (Nat.le_of_ble_eq_true rfl)) hb h) q1613 q1615 q58 q124 q1616 hdX11_send ⟨Nat.le_of_ble_eq_true rfl, Nat.le_of_ble_eq_true rfl⟩ ⟨Nat.zero_le _, Nat.zero_le _⟩ rfl hl.1 rfl (lv_room (Nat.le_of_ble_eq_true rfl)) dX11_act_133) (fun r8 st7 H locs h hP hS => ?_)
      obtain ⟨hr8, h⟩ := h
      exact z_ri C hr hlk (bz_n hr8) hP hS ⟨hr8, h⟩ dX11_act_136
    · have h := h.2.1 (i32_eq (hx.trans (by decide)))
      refine lv_tableIn C.1 C.2.1 (off := 67) (tgt := 154) dX11_act_87 (by omega) (by omega) (by rw [hx]; rfl) (by decide) ?_
      exact tX11_act_3_L154 hL C hr hlk hb _ _ _ h (lv_sub hl [1, 0] rfl) hP hS
    · have h := h.2.2.1 (i32_eq (hx.trans (by decide)))
      refine lv_tableIn C.1 C.2.1 (off := 67) (tgt := 154) dX11_act_87 (by omega) (by omega) (by rw [hx]; rfl) (by decide) ?_
      exact tX11_act_3_L154 hL C hr hlk hb _ _ _ h (lv_sub hl [1, 0] rfl) hP hS
    · have h := h.2.2.2.1 (i32_eq (hx.trans (by decide)))
      refine lv_tableIn C.1 C.2.1 (off := 67) (tgt := 154) dX11_act_87 (by omega) (by omega) (by rw [hx]; rfl) (by decide) ?_
      exact tX11_act_3_L154 hL C hr hlk hb _ _ _ h (lv_sub hl [1, 0] rfl) hP hS
    · have h := h.2.2.2.2.1 (i32_eq (hx.trans (by decide)))
      refine lv_tableIn C.1 C.2.1 (off := 67) (tgt := 154) dX11_act_87 (by omega) (by omega) (by rw [hx]; rfl) (by decide) ?_
      exact tX11_act_3_L154 hL C hr hlk hb _ _ _ h (lv_sub hl [1, 0] rfl) hP hS
    · have h := h.2.2.2.2.2.1 (i32_eq (hx.trans (by decide)))
      refine lv_tableIn C.1 C.2.1 (off := 50) (tgt := 137) dX11_act_87 (by omega) (by omega) (by rw [hx]; rfl) (by decide) ?_
      refine lv_aload_n C.1 C.2.1 dX11_act_137 rfl (lv_at hl 1 rfl) ?_
      refine z_ki hS (z_runV (As := []) (rest := []) C hP hS (m10 hb hL) (e10 hb) rfl (tX11_does C.2.2.2.2.2.2.1 (hL.mo (Nat.le_of_ble_eq_true rfl) (Nat.le_of_ble_eq_true rfl)) hb h) q1628 q1630 q60 q124 q1631 hdX11_does ⟨Nat.le_of_ble_eq_true rfl, Nat.le_of_ble_eq_true rfl⟩ ⟨Nat.zero_le _, Nat.zero_le _⟩ rfl hl.1 rfl (lv_room (Nat.le_of_ble_eq_true rfl)) dX11_act_138) (fun r10 st9 H locs h hP hS => ?_)
      obtain ⟨hr10, h⟩ := h
      exact z_ri C hr hlk (bz_n hr10) hP hS ⟨hr10, h⟩ dX11_act_141
    · have h := h.2.2.2.2.2.2.1 (i32_eq (hx.trans (by decide)))
      refine lv_tableIn C.1 C.2.1 (off := 55) (tgt := 142) dX11_act_87 (by omega) (by omega) (by rw [hx]; rfl) (by decide) ?_
      refine lv_aload_n C.1 C.2.1 dX11_act_142 rfl (lv_at hl 1 rfl) ?_
      refine lv_iload_n C.1 C.2.1 dX11_act_143 rfl (lv_at hl 2 rfl) ?_
      refine z_ki hS (z_runV (As := [.int v1]) (rest := []) C hP hS (m10 hb hL) (e10 hb) rfl (tX11_loop_3 C.2.2.2.2.2.2.1 (hL.mo (Nat.le_of_ble_eq_true rfl) (Nat.le_of_ble_eq_true rfl)) hb h) q1632 q1634 q61 q124 q1635 hdX11_loop_3 ⟨Nat.le_of_ble_eq_true rfl, Nat.le_of_ble_eq_true rfl⟩ ⟨Nat.zero_le _, Nat.zero_le _⟩ rfl hl.1 rfl (lv_room (Nat.le_of_ble_eq_true rfl)) dX11_act_144) (fun r12 st11 H locs h hP hS => ?_)
      obtain ⟨hr12, h⟩ := h
      exact z_ri C hr hlk (bz_n hr12) hP hS ⟨hr12, h⟩ dX11_act_147
    · have h := h.2.2.2.2.2.2.2 (i32_eq (hx.trans (by decide)))
      refine lv_tableIn C.1 C.2.1 (off := 61) (tgt := 148) dX11_act_87 (by omega) (by omega) (by rw [hx]; rfl) (by decide) ?_
      refine lv_aload_n C.1 C.2.1 dX11_act_148 rfl (lv_at hl 1 rfl) ?_
      refine lv_iload_n C.1 C.2.1 dX11_act_149 rfl (lv_at hl 2 rfl) ?_
      refine z_ki hS (z_runV (As := [.int v1]) (rest := []) C hP hS (m10 hb hL) (e10 hb) rfl (tX11_choice_3 C.2.2.2.2.2.2.1 (hL.mo (Nat.le_of_ble_eq_true rfl) (Nat.le_of_ble_eq_true rfl)) hb h) q1644 q1646 q64 q124 q1647 hdX11_choice_3 ⟨Nat.le_of_ble_eq_true rfl, Nat.le_of_ble_eq_true rfl⟩ ⟨Nat.zero_le _, Nat.zero_le _⟩ rfl hl.1 rfl (lv_room (Nat.le_of_ble_eq_true rfl)) dX11_act_150) (fun r14 st13 H locs h hP hS => ?_)
      obtain ⟨hr14, h⟩ := h
      exact z_ri C hr hlk (bz_n hr14) hP hS ⟨hr14, h⟩ dX11_act_153
set_option maxHeartbeats 4000000 in
set_option maxRecDepth 100000 in
theorem tX11_act_3_L52 {l : Launch} {p : Program} {e : Env} {s : State} {m : MethodId} {args : Array Value} {below : List Frame} {meth : Method} {c : Code} {E : En0} {L : List Nat} (hL : Cov 54 77 L) (C : Cx E L "PlankBridgeModel$Reader" cX11_act 4 p s m args c) (hr : meth.sig.returnType = (some .boolean)) (hlk : meth.locks = false) {b : Nat} {p1 : Int32} {Q : Int32 → St → Prop} (hb : kd b = 10) {v1 : Int32}  {st : St} (H : Heap) (locs : List Loc) (ls : Array Slot) (h : wX11_act_3_L52 b p1 v1 st Q) (hl : lv_has ls 4 [(0, .ref (E.2.1 b)), (1, .int v1)]) (hP : va_P E.1 vwCl (wd E L st) H) (hS : va_S (fA E L s.heap.size) s.heap H locs) : W p l e rmX11_act_3 s m args below meth c H locs 0 0 (MQ below (zI E L (fun r u => bz r ∧ Q r u) (fA E L s.heap.size)) args s rmX11_act_3.cells rmX11_act_3.slots (fA E L s.heap.size)) (F0 m 52 ls []) := by
  unfold wX11_act_3_L52 at h
  refine lv_aload_n C.1 C.2.1 dX11_act_52 rfl (lv_at hl 0 rfl) ?_
  refine gf10_0 C hP hb (m10 hb hL) q1438 dX11_act_53 ?_
  refine gf9_3 C hP (k10_2 hb) (m10_2 hb hL) q1325 dX11_act_56 ?_
  refine lv_bipush C.1 C.2.1 (v := 60) dX11_act_59 rfl ?_
  refine lv_icmp_ge C.1 C.2.1 (tgt := 77) dX11_act_61 (by decide) (fun hc => ?_) (fun hc => ?_)
  · have h := h.1 hc
    exact tX11_act_3_L77 hL C hr hlk hb _ _ _ h hl hP hS
  · have h := h.2 hc
    refine lv_aload_n C.1 C.2.1 dX11_act_64 rfl (lv_at hl 0 rfl) ?_
    refine gf10_0 C hP hb (m10 hb hL) q1438 dX11_act_65 ?_
    refine lv_dup C.1 C.2.1 dX11_act_68 rfl ?_
    refine gf9_3 C hP (k10_2 hb) (m10_2 hb hL) q1325 dX11_act_69 ?_
    refine lv_iconst C.1 C.2.1 (v := 1) dX11_act_72 rfl ?_
    refine lv_iadd C.1 C.2.1 dX11_act_73  ?_
    refine pf9_3 C hP hS (k10_2 hb) (m10_2 hb hL) q1325 dX11_act_74 (fun H locs hP hS => ?_)
    obtain ⟨st4, est4⟩ : ∃ z, z = uI st (b + 2) 3 ((gI st (b + 2) 3) + 1) := ⟨_, rfl⟩
    rw [← est4] at hP; have h := h st4 est4
    exact tX11_act_3_L77 hL C hr hlk hb _ _ _ h hl hP hS
set_option maxHeartbeats 4000000 in
set_option maxRecDepth 100000 in
theorem tX11_act_3 {l : Launch} {E : En0} {L : List Nat} (hE : EK E L) (hL : Cov 54 77 L) {b : Nat} {p1 : Int32} {st : St} {Q : Int32 → St → Prop} (hb : kd b = 10) (h : wX11_act_3 b p1 st Q) : Mz l yX11_act cX11_act 4 (some .boolean) rmX11_act_3 E L [.ref (E.2.1 b), .int p1] st (zI E L (fun r u => bz r ∧ Q r u)) := by
  refine Mz.of hE (by decide) (Nat.le_of_ble_eq_true rfl) ?_
  intro p e s m below meth c ls C hr hlk _ hl hP
  replace C : Cx E L "PlankBridgeModel$Reader" cX11_act 4 p s m _ c := C
  have hS : va_S (fA E L s.heap.size) s.heap s.heap [] := va_S.rf
  replace hl : lv_has ls 4 [(0, .ref (E.2.1 b)), (1, .int p1)] := hl
  unfold wX11_act_3 at h
  refine lv_aload_n C.1 C.2.1 dX11_act_0 rfl (lv_at hl 0 rfl) ?_
  refine gf10_6 C hP hb (m10 hb hL) q1445 dX11_act_1 ?_
  refine lv_sipush C.1 C.2.1 (v := 205) dX11_act_4 rfl ?_
  refine lv_icmp_lt C.1 C.2.1 (tgt := 30) dX11_act_7 (by decide) (fun hc => ?_) (fun hc => ?_)
  · have h := h.1 hc
    exact tX11_act_3_L30 hL C hr hlk hb _ _ _ h (lv_sub hl [0] rfl) hP hS
  · have h := h.2 hc
    refine lv_aload_n C.1 C.2.1 dX11_act_10 rfl (lv_at hl 0 rfl) ?_
    refine gf10_6 C hP hb (m10 hb hL) q1445 dX11_act_11 ?_
    refine lv_sipush C.1 C.2.1 (v := 212) dX11_act_14 rfl ?_
    refine lv_icmp_gt C.1 C.2.1 (tgt := 30) dX11_act_17 (by decide) (fun hc => ?_) (fun hc => ?_)
    · have h := h.1 hc
      exact tX11_act_3_L30 hL C hr hlk hb _ _ _ h (lv_sub hl [0] rfl) hP hS
    · have h := h.2 hc
      refine lv_aload_n C.1 C.2.1 dX11_act_20 rfl (lv_at hl 0 rfl) ?_
      refine gf10_6 C hP hb (m10 hb hL) q1445 dX11_act_21 ?_
      refine lv_sipush C.1 C.2.1 (v := 206) dX11_act_24 rfl ?_
      refine lv_icmp_ne C.1 C.2.1 (tgt := 35) dX11_act_27 (by decide) (fun hc => ?_) (fun hc => ?_)
      · have h := h.1 hc
        refine lv_aload_n C.1 C.2.1 dX11_act_35 rfl (lv_at hl 0 rfl) ?_
        refine gf10_0 C hP hb (m10 hb hL) q1438 dX11_act_36 ?_
        refine gf9_3 C hP (k10_2 hb) (m10_2 hb hL) q1325 dX11_act_39 ?_
        refine lv_bipush C.1 C.2.1 (v := 60) dX11_act_42 rfl ?_
        refine lv_icmp_ne C.1 C.2.1 (tgt := 52) dX11_act_44 (by decide) (fun hc => ?_) (fun hc => ?_)
        · have h := h.1 hc
          exact tX11_act_3_L52 hL C hr hlk hb _ _ _ h hl hP hS
        · have h := h.2 hc
          refine lv_aload_n C.1 C.2.1 dX11_act_47 rfl (lv_at hl 0 rfl) ?_
          refine lv_iconst C.1 C.2.1 (v := 4) dX11_act_48 rfl ?_
          refine z_kv hS (z_runV (As := [.int 4]) (rest := []) C hP hS (m10 hb hL) (e10 hb) rfl (tX11_note C.2.2.2.2.2.2.1 (hL.mo (Nat.le_of_ble_eq_true rfl) (Nat.le_of_ble_eq_true rfl)) hb h) q1584 q1586 q51 q124 q1587 hdX11_note ⟨Nat.le_of_ble_eq_true rfl, Nat.le_of_ble_eq_true rfl⟩ ⟨Nat.zero_le _, Nat.zero_le _⟩ rfl hl.1 rfl (lv_room (Nat.le_of_ble_eq_true rfl)) dX11_act_49) (fun st1 H locs h hP hS => ?_)
          exact tX11_act_3_L52 hL C hr hlk hb _ _ _ h hl hP hS
      · have h := h.2 hc
        exact tX11_act_3_L30 hL C hr hlk hb _ _ _ h (lv_sub hl [0] rfl) hP hS
def rmX11_block_3 : Room := { frames := 18, cells := 0, slots := 0, locals := 401 }
def wX11_block_3_L14 (b : Nat) (p1 : Int32)   (st : St) (Q : Int32 → St → Prop) : Prop :=
  (wX11_wrong b st (fun r3 st2 => Q r3 st2))
def wX11_block_3_L23 (b : Nat) (p1 : Int32)  (R23 : Int32 × St → Prop) (v1 : Int32) (st : St) (Q : Int32 → St → Prop) : Prop :=
  (((gI st b 6) = 41 → (wX11_next b st (fun st4 => Q 1 st4))) ∧ (¬ (gI st b 6) = 41 → (wX11_act_3 b v1 st (fun r6 st5 => ((¬ r6 = 0 → R23 (v1, st5)) ∧ (r6 = 0 → Q 0 st5))))))
def wX11_block_3 (b : Nat) (p1 : Int32) (st : St) (Q : Int32 → St → Prop) : Prop :=
  ((¬ (gI st b 6) = 40 → wX11_block_3_L14 b p1 st Q) ∧ ((gI st b 6) = 40 → ((p1 ≤ 3 → (wX11_next b st (fun st1 => (∃ n, lp (fun R s => wX11_block_3_L23 b p1 R s.1 s.2 Q) n (p1, st1))))) ∧ (¬ p1 ≤ 3 → wX11_block_3_L14 b p1 st Q))))
theorem hdX11_block_3 : yX11_block.cls = "PlankBridgeModel$Reader" ∧ yX11_block.cls ≠ "java/lang/invoke/MethodHandle" ∧ yX11_block.cls ≠ "java/lang/invoke/VarHandle" ∧ (parseMethodDescriptor yX11_block.desc).map (fun d => d.parameters.length) = some 1 := by decide +kernel
set_option maxHeartbeats 4000000 in
set_option maxRecDepth 100000 in
theorem tX11_block_3_L14 {l : Launch} {p : Program} {e : Env} {s : State} {m : MethodId} {args : Array Value} {below : List Frame} {meth : Method} {c : Code} {E : En0} {L : List Nat} (hL : Cov 54 77 L) (C : Cx E L "PlankBridgeModel$Reader" cX11_block 2 p s m args c) (hr : meth.sig.returnType = (some .boolean)) (hlk : meth.locks = false) {b : Nat} {p1 : Int32} {Q : Int32 → St → Prop} (hb : kd b = 10)   {st : St} (H : Heap) (locs : List Loc) (ls : Array Slot) (h : wX11_block_3_L14 b p1 st Q) (hl : lv_has ls 2 [(0, .ref (E.2.1 b))]) (hP : va_P E.1 vwCl (wd E L st) H) (hS : va_S (fA E L s.heap.size) s.heap H locs) : W p l e rmX11_block_3 s m args below meth c H locs 0 0 (MQ below (zI E L (fun r u => bz r ∧ Q r u) (fA E L s.heap.size)) args s rmX11_block_3.cells rmX11_block_3.slots (fA E L s.heap.size)) (F0 m 14 ls []) := by
  unfold wX11_block_3_L14 at h
  refine lv_aload_n C.1 C.2.1 dX11_block_14 rfl (lv_at hl 0 rfl) ?_
  refine z_ki hS (z_runV (As := []) (rest := []) C hP hS (m10 hb hL) (e10 hb) rfl (tX11_wrong C.2.2.2.2.2.2.1 (hL.mo (Nat.le_of_ble_eq_true rfl) (Nat.le_of_ble_eq_true rfl)) hb h) q1576 q1578 q49 q124 q1579 hdX11_wrong ⟨Nat.le_of_ble_eq_true rfl, Nat.le_of_ble_eq_true rfl⟩ ⟨Nat.zero_le _, Nat.zero_le _⟩ rfl hl.1 rfl (lv_room (Nat.le_of_ble_eq_true rfl)) dX11_block_15) (fun r3 st2 H locs h hP hS => ?_)
  obtain ⟨hr3, h⟩ := h
  exact z_ri C hr hlk (bz_n hr3) hP hS ⟨hr3, h⟩ dX11_block_18
set_option maxHeartbeats 4000000 in
set_option maxRecDepth 100000 in
theorem tX11_block_3_L23 {l : Launch} {p : Program} {e : Env} {s : State} {m : MethodId} {args : Array Value} {below : List Frame} {meth : Method} {c : Code} {E : En0} {L : List Nat} (hL : Cov 54 77 L) (C : Cx E L "PlankBridgeModel$Reader" cX11_block 2 p s m args c) (hr : meth.sig.returnType = (some .boolean)) (hlk : meth.locks = false) {b : Nat} {p1 : Int32} {Q : Int32 → St → Prop} (hb : kd b = 10) : ∀ (n : Nat) (v1 : Int32) (st : St) (H : Heap) (locs : List Loc) (ls : Array Slot), lp (fun R s => wX11_block_3_L23 b p1 R s.1 s.2 Q) n (v1, st) → lv_has ls 2 [(0, .ref (E.2.1 b)), (1, .int v1)] → va_P E.1 vwCl (wd E L st) H → va_S (fA E L s.heap.size) s.heap H locs → W p l e rmX11_block_3 s m args below meth c H locs 0 0 (MQ below (zI E L (fun r u => bz r ∧ Q r u) (fA E L s.heap.size)) args s rmX11_block_3.cells rmX11_block_3.slots (fA E L s.heap.size)) (F0 m 23 ls []) := by
  intro n
  induction n with
  | zero => exact fun _ _ _ _ _ h _ _ _ => False.elim ‹_›
  | succ n ih =>
    intro v1 st  H locs ls h hl hP hS
    have hR23 := ih
    replace h : wX11_block_3_L23 b p1 (lp (fun R s => wX11_block_3_L23 b p1 R s.1 s.2 Q) n) v1 st Q := h
    unfold wX11_block_3_L23 at h
    refine lv_aload_n C.1 C.2.1 dX11_block_23 rfl (lv_at hl 0 rfl) ?_
    refine gf10_6 C hP hb (m10 hb hL) q1445 dX11_block_24 ?_
    refine lv_bipush C.1 C.2.1 (v := 41) dX11_block_27 rfl ?_
    refine lv_icmp_eq C.1 C.2.1 (tgt := 42) dX11_block_29 (by decide) (fun hc => ?_) (fun hc => ?_)
    · have h := h.1 hc
      refine lv_aload_n C.1 C.2.1 dX11_block_42 rfl (lv_at hl 0 rfl) ?_
      refine z_kv hS (z_runV (As := []) (rest := []) C hP hS (m10 hb hL) (e10 hb) rfl (tX11_next C.2.2.2.2.2.2.1 (hL.mo (Nat.le_of_ble_eq_true rfl) (Nat.le_of_ble_eq_true rfl)) hb h) q1492 q1494 q41 q124 q1495 hdX11_next ⟨Nat.le_of_ble_eq_true rfl, Nat.le_of_ble_eq_true rfl⟩ ⟨Nat.zero_le _, Nat.zero_le _⟩ rfl hl.1 rfl (lv_room (Nat.le_of_ble_eq_true rfl)) dX11_block_43) (fun st4 H locs h hP hS => ?_)
      refine lv_iconst C.1 C.2.1 (v := 1) dX11_block_46 rfl ?_
      exact z_ri C hr hlk (bz_n bz1) hP hS ⟨bz1, h⟩ dX11_block_47
    · have h := h.2 hc
      refine lv_aload_n C.1 C.2.1 dX11_block_32 rfl (lv_at hl 0 rfl) ?_
      refine lv_iload_n C.1 C.2.1 dX11_block_33 rfl (lv_at hl 1 rfl) ?_
      refine z_ki hS (z_runV (As := [.int v1]) (rest := []) C hP hS (m10 hb hL) (e10 hb) rfl (tX11_act_3 C.2.2.2.2.2.2.1 (hL.mo (Nat.le_of_ble_eq_true rfl) (Nat.le_of_ble_eq_true rfl)) hb h) q1609 q1611 q57 q124 q1612 hdX11_act_3 ⟨Nat.le_of_ble_eq_true rfl, Nat.le_of_ble_eq_true rfl⟩ ⟨Nat.zero_le _, Nat.zero_le _⟩ rfl hl.1 rfl (lv_room (Nat.le_of_ble_eq_true rfl)) dX11_block_34) (fun r6 st5 H locs h hP hS => ?_)
      obtain ⟨hr6, h⟩ := h
      refine lv_if_ne C.1 C.2.1 (tgt := 23) dX11_block_37 (by decide) (fun hc => ?_) (fun hc => ?_)
      · have h := h.1 hc
        exact hR23 v1 st5 _ _ _ h hl hP hS
      · have h := h.2 hc
        refine lv_iconst C.1 C.2.1 (v := 0) dX11_block_40 rfl ?_
        exact z_ri C hr hlk (bz_n bz0) hP hS ⟨bz0, h⟩ dX11_block_41
set_option maxHeartbeats 4000000 in
set_option maxRecDepth 100000 in
theorem tX11_block_3 {l : Launch} {E : En0} {L : List Nat} (hE : EK E L) (hL : Cov 54 77 L) {b : Nat} {p1 : Int32} {st : St} {Q : Int32 → St → Prop} (hb : kd b = 10) (h : wX11_block_3 b p1 st Q) : Mz l yX11_block cX11_block 2 (some .boolean) rmX11_block_3 E L [.ref (E.2.1 b), .int p1] st (zI E L (fun r u => bz r ∧ Q r u)) := by
  refine Mz.of hE (by decide) (Nat.le_of_ble_eq_true rfl) ?_
  intro p e s m below meth c ls C hr hlk _ hl hP
  replace C : Cx E L "PlankBridgeModel$Reader" cX11_block 2 p s m _ c := C
  have hS : va_S (fA E L s.heap.size) s.heap s.heap [] := va_S.rf
  replace hl : lv_has ls 2 [(0, .ref (E.2.1 b)), (1, .int p1)] := hl
  unfold wX11_block_3 at h
  refine lv_aload_n C.1 C.2.1 dX11_block_0 rfl (lv_at hl 0 rfl) ?_
  refine gf10_6 C hP hb (m10 hb hL) q1445 dX11_block_1 ?_
  refine lv_bipush C.1 C.2.1 (v := 40) dX11_block_4 rfl ?_
  refine lv_icmp_ne C.1 C.2.1 (tgt := 14) dX11_block_6 (by decide) (fun hc => ?_) (fun hc => ?_)
  · have h := h.1 hc
    exact tX11_block_3_L14 hL C hr hlk hb _ _ _ h (lv_sub hl [0] rfl) hP hS
  · have h := h.2 hc
    refine lv_iload_n C.1 C.2.1 dX11_block_9 rfl (lv_at hl 1 rfl) ?_
    refine lv_iconst C.1 C.2.1 (v := 3) dX11_block_10 rfl ?_
    refine lv_icmp_le C.1 C.2.1 (tgt := 19) dX11_block_11 (by decide) (fun hc => ?_) (fun hc => ?_)
    · have h := h.1 hc
      refine lv_aload_n C.1 C.2.1 dX11_block_19 rfl (lv_at hl 0 rfl) ?_
      refine z_kv hS (z_runV (As := []) (rest := []) C hP hS (m10 hb hL) (e10 hb) rfl (tX11_next C.2.2.2.2.2.2.1 (hL.mo (Nat.le_of_ble_eq_true rfl) (Nat.le_of_ble_eq_true rfl)) hb h) q1492 q1494 q41 q124 q1495 hdX11_next ⟨Nat.le_of_ble_eq_true rfl, Nat.le_of_ble_eq_true rfl⟩ ⟨Nat.zero_le _, Nat.zero_le _⟩ rfl hl.1 rfl (lv_room (Nat.le_of_ble_eq_true rfl)) dX11_block_20) (fun st1 H locs h hP hS => ?_)
      obtain ⟨n, h⟩ := h
      exact tX11_block_3_L23 hL C hr hlk hb n p1 st1 _ _ _ h hl hP hS
    · have h := h.2 hc
      exact tX11_block_3_L14 hL C hr hlk hb _ _ _ h (lv_sub hl [0] rfl) hP hS
def rmX11_loop_4 : Room := { frames := 19, cells := 0, slots := 0, locals := 422 }
def wX11_loop_4 (b : Nat) (p1 : Int32) (st : St) (Q : Int32 → St → Prop) : Prop :=
  (wX11_row b st (fun r2 st1 => ((¬ r2 = (-100) → (wX10_put (b + 2) 211 r2 0 st1 (fun r4 st3 => (wX11_block_3 b (p1 + 1) st3 (fun r6 st5 => ((¬ r6 = 0 → (wX10_put (b + 2) 300 r4 0 st5 (fun r8 st7 => (vp_in (((4 : Int32) * r4) + 3) 1600 ∧ ∀ st9, st9 = uI st7 ((b + 2) + 5) (((4 : Int32) * r4) + 3 : Int32).toNatClampNeg (gI st7 (b + 2) 9) → Q 1 st9)))) ∧ (r6 = 0 → Q 0 st5))))))) ∧ (r2 = (-100) → Q 0 st1))))
theorem hdX11_loop_4 : yX11_loop.cls = "PlankBridgeModel$Reader" ∧ yX11_loop.cls ≠ "java/lang/invoke/MethodHandle" ∧ yX11_loop.cls ≠ "java/lang/invoke/VarHandle" ∧ (parseMethodDescriptor yX11_loop.desc).map (fun d => d.parameters.length) = some 1 := by decide +kernel
set_option maxHeartbeats 4000000 in
set_option maxRecDepth 100000 in
theorem tX11_loop_4 {l : Launch} {E : En0} {L : List Nat} (hE : EK E L) (hL : Cov 54 77 L) {b : Nat} {p1 : Int32} {st : St} {Q : Int32 → St → Prop} (hb : kd b = 10) (h : wX11_loop_4 b p1 st Q) : Mz l yX11_loop cX11_loop 4 (some .boolean) rmX11_loop_4 E L [.ref (E.2.1 b), .int p1] st (zI E L (fun r u => bz r ∧ Q r u)) := by
  refine Mz.of hE (by decide) (Nat.le_of_ble_eq_true rfl) ?_
  intro p e s m below meth c ls C hr hlk _ hl hP
  replace C : Cx E L "PlankBridgeModel$Reader" cX11_loop 4 p s m _ c := C
  have hS : va_S (fA E L s.heap.size) s.heap s.heap [] := va_S.rf
  replace hl : lv_has ls 4 [(0, .ref (E.2.1 b)), (1, .int p1)] := hl
  unfold wX11_loop_4 at h
  refine lv_aload_n C.1 C.2.1 dX11_loop_0 rfl (lv_at hl 0 rfl) ?_
  refine z_ki hS (z_runV (As := []) (rest := []) C hP hS (m10 hb hL) (e10 hb) rfl (tX11_row C.2.2.2.2.2.2.1 (hL.mo (Nat.le_of_ble_eq_true rfl) (Nat.le_of_ble_eq_true rfl)) hb h) q1636 q1638 q62 q124 q1639 hdX11_row ⟨Nat.le_of_ble_eq_true rfl, Nat.le_of_ble_eq_true rfl⟩ ⟨Nat.zero_le _, Nat.zero_le _⟩ rfl hl.1 rfl (lv_room (Nat.le_of_ble_eq_true rfl)) dX11_loop_1) (fun r2 st1 H locs h hP hS => ?_)
  refine lv_istore_n C.1 C.2.1 dX11_loop_4 rfl hl (Nat.le_of_ble_eq_true rfl) rfl (fun ls hl => ?_)
  have hl : lv_has ls 4 [(2, .int r2), (0, .ref (E.2.1 b)), (1, .int p1)] := hl
  refine lv_iload_n C.1 C.2.1 dX11_loop_5 rfl (lv_at hl 0 rfl) ?_
  refine lv_bipush C.1 C.2.1 (v := (-100)) dX11_loop_6 rfl ?_
  refine lv_icmp_ne C.1 C.2.1 (tgt := 13) dX11_loop_8 (by decide) (fun hc => ?_) (fun hc => ?_)
  · have h := h.1 hc
    refine lv_aload_n C.1 C.2.1 dX11_loop_13 rfl (lv_at hl 1 rfl) ?_
    refine gf10_0 C hP hb (m10 hb hL) q1438 dX11_loop_14 ?_
    refine lv_sipush C.1 C.2.1 (v := 211) dX11_loop_17 rfl ?_
    refine lv_iload_n C.1 C.2.1 dX11_loop_20 rfl (lv_at hl 0 rfl) ?_
    refine lv_iconst C.1 C.2.1 (v := 0) dX11_loop_21 rfl ?_
    refine z_ki hS (z_runV (As := [.int 211, .int r2, .int 0]) (rest := []) C hP hS (m10_2 hb hL) (e9 (k10_2 hb)) rfl (tX10_put C.2.2.2.2.2.2.1 (hL.mo (Nat.le_of_ble_eq_true rfl) (Nat.le_of_ble_eq_true rfl)) (k10_2 hb) h) q1624 q1625 q1626 q117 q1627 hdX10_put ⟨Nat.le_of_ble_eq_true rfl, Nat.le_of_ble_eq_true rfl⟩ ⟨Nat.zero_le _, Nat.zero_le _⟩ rfl hl.1 rfl (lv_room (Nat.le_of_ble_eq_true rfl)) dX11_loop_22) (fun r4 st3 H locs h hP hS => ?_)
    refine lv_istore_n C.1 C.2.1 dX11_loop_25 rfl hl (Nat.le_of_ble_eq_true rfl) rfl (fun ls hl => ?_)
    have hl : lv_has ls 4 [(3, .int r4), (2, .int r2), (0, .ref (E.2.1 b)), (1, .int p1)] := hl
    refine lv_aload_n C.1 C.2.1 dX11_loop_26 rfl (lv_at hl 2 rfl) ?_
    refine lv_iload_n C.1 C.2.1 dX11_loop_27 rfl (lv_at hl 3 rfl) ?_
    refine lv_iconst C.1 C.2.1 (v := 1) dX11_loop_28 rfl ?_
    refine lv_iadd C.1 C.2.1 dX11_loop_29  ?_
    refine z_ki hS (z_runV (As := [.int (p1 + 1)]) (rest := []) C hP hS (m10 hb hL) (e10 hb) rfl (tX11_block_3 C.2.2.2.2.2.2.1 (hL.mo (Nat.le_of_ble_eq_true rfl) (Nat.le_of_ble_eq_true rfl)) hb h) q1605 q1607 q56 q124 q1608 hdX11_block_3 ⟨Nat.le_of_ble_eq_true rfl, Nat.le_of_ble_eq_true rfl⟩ ⟨Nat.zero_le _, Nat.zero_le _⟩ rfl hl.1 rfl (lv_room (Nat.le_of_ble_eq_true rfl)) dX11_loop_30) (fun r6 st5 H locs h hP hS => ?_)
    obtain ⟨hr6, h⟩ := h
    refine lv_if_ne C.1 C.2.1 (tgt := 38) dX11_loop_33 (by decide) (fun hc => ?_) (fun hc => ?_)
    · have h := h.1 hc
      refine lv_aload_n C.1 C.2.1 dX11_loop_38 rfl (lv_at hl 2 rfl) ?_
      refine gf10_0 C hP hb (m10 hb hL) q1438 dX11_loop_39 ?_
      refine lv_sipush C.1 C.2.1 (v := 300) dX11_loop_42 rfl ?_
      refine lv_iload_n C.1 C.2.1 dX11_loop_45 rfl (lv_at hl 0 rfl) ?_
      refine lv_iconst C.1 C.2.1 (v := 0) dX11_loop_46 rfl ?_
      refine z_ki hS (z_runV (As := [.int 300, .int r4, .int 0]) (rest := []) C hP hS (m10_2 hb hL) (e9 (k10_2 hb)) rfl (tX10_put C.2.2.2.2.2.2.1 (hL.mo (Nat.le_of_ble_eq_true rfl) (Nat.le_of_ble_eq_true rfl)) (k10_2 hb) h) q1624 q1625 q1626 q117 q1627 hdX10_put ⟨Nat.le_of_ble_eq_true rfl, Nat.le_of_ble_eq_true rfl⟩ ⟨Nat.zero_le _, Nat.zero_le _⟩ rfl hl.1 rfl (lv_room (Nat.le_of_ble_eq_true rfl)) dX11_loop_47) (fun r8 st7 H locs h hP hS => ?_)
      refine lv_pop C.1 C.2.1 dX11_loop_50 rfl ?_
      refine lv_aload_n C.1 C.2.1 dX11_loop_51 rfl (lv_at hl 2 rfl) ?_
      refine gf10_0 C hP hb (m10 hb hL) q1438 dX11_loop_52 ?_
      refine gf9_8 C hP (k10_2 hb) (m10_2 hb hL) q1339 dX11_loop_55 ?_
      refine lv_iconst C.1 C.2.1 (v := 4) dX11_loop_58 rfl ?_
      refine lv_iload_n C.1 C.2.1 dX11_loop_59 rfl (lv_at hl 0 rfl) ?_
      refine lv_imul C.1 C.2.1 dX11_loop_60  ?_
      refine lv_iconst C.1 C.2.1 (v := 3) dX11_loop_61 rfl ?_
      refine lv_iadd C.1 C.2.1 dX11_loop_62  ?_
      refine lv_aload_n C.1 C.2.1 dX11_loop_63 rfl (lv_at hl 2 rfl) ?_
      refine gf10_0 C hP hb (m10 hb hL) q1438 dX11_loop_64 ?_
      refine gf9_9 C hP (k10_2 hb) (m10_2 hb hL) q1342 dX11_loop_67 ?_
      obtain ⟨hi, h⟩ := h
      refine z_iast C hP hS (k9_5 (k10_2 hb)) (l9_5 (k10_2 hb)) (m9_5 (k10_2 hb) hL) hi dX11_loop_70 (fun H locs hP hS => ?_)
      obtain ⟨st9, est9⟩ : ∃ z, z = uI st7 ((b + 2) + 5) (((4 : Int32) * r4) + 3 : Int32).toNatClampNeg (gI st7 (b + 2) 9) := ⟨_, rfl⟩
      rw [← est9] at hP; have h := h st9 est9
      refine lv_iconst C.1 C.2.1 (v := 1) dX11_loop_71 rfl ?_
      exact z_ri C hr hlk (bz_n bz1) hP hS ⟨bz1, h⟩ dX11_loop_72
    · have h := h.2 hc
      refine lv_iconst C.1 C.2.1 (v := 0) dX11_loop_36 rfl ?_
      exact z_ri C hr hlk (bz_n bz0) hP hS ⟨bz0, h⟩ dX11_loop_37
  · have h := h.2 hc
    refine lv_iconst C.1 C.2.1 (v := 0) dX11_loop_11 rfl ?_
    exact z_ri C hr hlk (bz_n bz0) hP hS ⟨bz0, h⟩ dX11_loop_12
def rmX11_choice_4 : Room := { frames := 19, cells := 0, slots := 0, locals := 422 }
def wX11_choice_4_L64 (b : Nat) (p1 : Int32)  (v1 : Int32) (v3 : Int32) (s0 : Int32) (st : St) (Q : Int32 → St → Prop) : Prop :=
  (vp_in (((4 : Int32) * v3) + 3) 1600 ∧ ∀ st9, st9 = uI st ((b + 2) + 5) (((4 : Int32) * v3) + 3 : Int32).toNatClampNeg (gI st (b + 2) 9) → ((¬ s0 = (-1) → (wX11_next b st9 (fun st10 => (wX11_block_3 b (v1 + 1) st10 (fun r12 st11 => ((¬ r12 = 0 → (vp_in (((4 : Int32) * s0) + 1) 1600 ∧ ∀ st13, st13 = uI st11 ((b + 2) + 5) (((4 : Int32) * s0) + 1 : Int32).toNatClampNeg (gI st11 (b + 2) 9) → Q 1 st13)) ∧ (r12 = 0 → Q 0 st11))))))) ∧ (s0 = (-1) → Q 1 st9)))
def wX11_choice_4 (b : Nat) (p1 : Int32) (st : St) (Q : Int32 → St → Prop) : Prop :=
  (wX11_row b st (fun r2 st1 => ((¬ r2 = (-100) → (wX10_put (b + 2) 212 r2 0 st1 (fun r4 st3 => (wX11_block_3 b (p1 + 1) st3 (fun r6 st5 => ((¬ r6 = 0 → ((¬ (gI st5 b 6) = 213 → wX11_choice_4_L64 b p1 p1 r4 (-1) st5 Q) ∧ ((gI st5 b 6) = 213 → (wX10_put (b + 2) 300 0 0 st5 (fun r8 st7 => wX11_choice_4_L64 b p1 p1 r4 r8 st7 Q))))) ∧ (r6 = 0 → Q 0 st5))))))) ∧ (r2 = (-100) → Q 0 st1))))
theorem hdX11_choice_4 : yX11_choice.cls = "PlankBridgeModel$Reader" ∧ yX11_choice.cls ≠ "java/lang/invoke/MethodHandle" ∧ yX11_choice.cls ≠ "java/lang/invoke/VarHandle" ∧ (parseMethodDescriptor yX11_choice.desc).map (fun d => d.parameters.length) = some 1 := by decide +kernel
set_option maxHeartbeats 4000000 in
set_option maxRecDepth 100000 in
theorem tX11_choice_4_L64 {l : Launch} {p : Program} {e : Env} {s : State} {m : MethodId} {args : Array Value} {below : List Frame} {meth : Method} {c : Code} {E : En0} {L : List Nat} (hL : Cov 54 77 L) (C : Cx E L "PlankBridgeModel$Reader" cX11_choice 5 p s m args c) (hr : meth.sig.returnType = (some .boolean)) (hlk : meth.locks = false) {b : Nat} {p1 : Int32} {Q : Int32 → St → Prop} (hb : kd b = 10) {v1 : Int32} {v3 : Int32} {s0 : Int32}  {st : St} (H : Heap) (locs : List Loc) (ls : Array Slot) (h : wX11_choice_4_L64 b p1 v1 v3 s0 st Q) (hl : lv_has ls 5 [(0, .ref (E.2.1 b)), (1, .int v1), (3, .int v3)]) (hP : va_P E.1 vwCl (wd E L st) H) (hS : va_S (fA E L s.heap.size) s.heap H locs) : W p l e rmX11_choice_4 s m args below meth c H locs 0 0 (MQ below (zI E L (fun r u => bz r ∧ Q r u) (fA E L s.heap.size)) args s rmX11_choice_4.cells rmX11_choice_4.slots (fA E L s.heap.size)) (F0 m 64 ls [.int s0]) := by
  unfold wX11_choice_4_L64 at h
  refine lv_istore C.1 C.2.1 dX11_choice_64 hl (Nat.le_of_ble_eq_true rfl) rfl (fun ls hl => ?_)
  have hl : lv_has ls 5 [(4, .int s0), (0, .ref (E.2.1 b)), (1, .int v1), (3, .int v3)] := hl
  refine lv_aload_n C.1 C.2.1 dX11_choice_66 rfl (lv_at hl 1 rfl) ?_
  refine gf10_0 C hP hb (m10 hb hL) q1438 dX11_choice_67 ?_
  refine gf9_8 C hP (k10_2 hb) (m10_2 hb hL) q1339 dX11_choice_70 ?_
  refine lv_iconst C.1 C.2.1 (v := 4) dX11_choice_73 rfl ?_
  refine lv_iload_n C.1 C.2.1 dX11_choice_74 rfl (lv_at hl 3 rfl) ?_
  refine lv_imul C.1 C.2.1 dX11_choice_75  ?_
  refine lv_iconst C.1 C.2.1 (v := 3) dX11_choice_76 rfl ?_
  refine lv_iadd C.1 C.2.1 dX11_choice_77  ?_
  refine lv_aload_n C.1 C.2.1 dX11_choice_78 rfl (lv_at hl 1 rfl) ?_
  refine gf10_0 C hP hb (m10 hb hL) q1438 dX11_choice_79 ?_
  refine gf9_9 C hP (k10_2 hb) (m10_2 hb hL) q1342 dX11_choice_82 ?_
  obtain ⟨hi, h⟩ := h
  refine z_iast C hP hS (k9_5 (k10_2 hb)) (l9_5 (k10_2 hb)) (m9_5 (k10_2 hb) hL) hi dX11_choice_85 (fun H locs hP hS => ?_)
  obtain ⟨st9, est9⟩ : ∃ z, z = uI st ((b + 2) + 5) (((4 : Int32) * v3) + 3 : Int32).toNatClampNeg (gI st (b + 2) 9) := ⟨_, rfl⟩
  rw [← est9] at hP; have h := h st9 est9
  refine lv_iload C.1 C.2.1 dX11_choice_86 (lv_at hl 0 rfl) ?_
  refine lv_iconst C.1 C.2.1 (v := (-1)) dX11_choice_88 rfl ?_
  refine lv_icmp_ne C.1 C.2.1 (tgt := 94) dX11_choice_89 (by decide) (fun hc => ?_) (fun hc => ?_)
  · have h := h.1 hc
    refine lv_aload_n C.1 C.2.1 dX11_choice_94 rfl (lv_at hl 1 rfl) ?_
    refine z_kv hS (z_runV (As := []) (rest := []) C hP hS (m10 hb hL) (e10 hb) rfl (tX11_next C.2.2.2.2.2.2.1 (hL.mo (Nat.le_of_ble_eq_true rfl) (Nat.le_of_ble_eq_true rfl)) hb h) q1492 q1494 q41 q124 q1495 hdX11_next ⟨Nat.le_of_ble_eq_true rfl, Nat.le_of_ble_eq_true rfl⟩ ⟨Nat.zero_le _, Nat.zero_le _⟩ rfl hl.1 rfl (lv_room (Nat.le_of_ble_eq_true rfl)) dX11_choice_95) (fun st10 H locs h hP hS => ?_)
    refine lv_aload_n C.1 C.2.1 dX11_choice_98 rfl (lv_at hl 1 rfl) ?_
    refine lv_iload_n C.1 C.2.1 dX11_choice_99 rfl (lv_at hl 2 rfl) ?_
    refine lv_iconst C.1 C.2.1 (v := 1) dX11_choice_100 rfl ?_
    refine lv_iadd C.1 C.2.1 dX11_choice_101  ?_
    refine z_ki hS (z_runV (As := [.int (v1 + 1)]) (rest := []) C hP hS (m10 hb hL) (e10 hb) rfl (tX11_block_3 C.2.2.2.2.2.2.1 (hL.mo (Nat.le_of_ble_eq_true rfl) (Nat.le_of_ble_eq_true rfl)) hb h) q1605 q1607 q56 q124 q1608 hdX11_block_3 ⟨Nat.le_of_ble_eq_true rfl, Nat.le_of_ble_eq_true rfl⟩ ⟨Nat.zero_le _, Nat.zero_le _⟩ rfl hl.1 rfl (lv_room (Nat.le_of_ble_eq_true rfl)) dX11_choice_102) (fun r12 st11 H locs h hP hS => ?_)
    obtain ⟨hr12, h⟩ := h
    refine lv_if_ne C.1 C.2.1 (tgt := 110) dX11_choice_105 (by decide) (fun hc => ?_) (fun hc => ?_)
    · have h := h.1 hc
      refine lv_aload_n C.1 C.2.1 dX11_choice_110 rfl (lv_at hl 1 rfl) ?_
      refine gf10_0 C hP hb (m10 hb hL) q1438 dX11_choice_111 ?_
      refine gf9_8 C hP (k10_2 hb) (m10_2 hb hL) q1339 dX11_choice_114 ?_
      refine lv_iconst C.1 C.2.1 (v := 4) dX11_choice_117 rfl ?_
      refine lv_iload C.1 C.2.1 dX11_choice_118 (lv_at hl 0 rfl) ?_
      refine lv_imul C.1 C.2.1 dX11_choice_120  ?_
      refine lv_iconst C.1 C.2.1 (v := 1) dX11_choice_121 rfl ?_
      refine lv_iadd C.1 C.2.1 dX11_choice_122  ?_
      refine lv_aload_n C.1 C.2.1 dX11_choice_123 rfl (lv_at hl 1 rfl) ?_
      refine gf10_0 C hP hb (m10 hb hL) q1438 dX11_choice_124 ?_
      refine gf9_9 C hP (k10_2 hb) (m10_2 hb hL) q1342 dX11_choice_127 ?_
      obtain ⟨hi, h⟩ := h
      refine z_iast C hP hS (k9_5 (k10_2 hb)) (l9_5 (k10_2 hb)) (m9_5 (k10_2 hb) hL) hi dX11_choice_130 (fun H locs hP hS => ?_)
      obtain ⟨st13, est13⟩ : ∃ z, z = uI st11 ((b + 2) + 5) (((4 : Int32) * s0) + 1 : Int32).toNatClampNeg (gI st11 (b + 2) 9) := ⟨_, rfl⟩
      rw [← est13] at hP; have h := h st13 est13
      refine lv_iconst C.1 C.2.1 (v := 1) dX11_choice_131 rfl ?_
      exact z_ri C hr hlk (bz_n bz1) hP hS ⟨bz1, h⟩ dX11_choice_132
    · have h := h.2 hc
      refine lv_iconst C.1 C.2.1 (v := 0) dX11_choice_108 rfl ?_
      exact z_ri C hr hlk (bz_n bz0) hP hS ⟨bz0, h⟩ dX11_choice_109
  · have h := h.2 hc
    refine lv_iconst C.1 C.2.1 (v := 1) dX11_choice_92 rfl ?_
    exact z_ri C hr hlk (bz_n bz1) hP hS ⟨bz1, h⟩ dX11_choice_93
set_option maxHeartbeats 4000000 in
set_option maxRecDepth 100000 in
theorem tX11_choice_4 {l : Launch} {E : En0} {L : List Nat} (hE : EK E L) (hL : Cov 54 77 L) {b : Nat} {p1 : Int32} {st : St} {Q : Int32 → St → Prop} (hb : kd b = 10) (h : wX11_choice_4 b p1 st Q) : Mz l yX11_choice cX11_choice 5 (some .boolean) rmX11_choice_4 E L [.ref (E.2.1 b), .int p1] st (zI E L (fun r u => bz r ∧ Q r u)) := by
  refine Mz.of hE (by decide) (Nat.le_of_ble_eq_true rfl) ?_
  intro p e s m below meth c ls C hr hlk _ hl hP
  replace C : Cx E L "PlankBridgeModel$Reader" cX11_choice 5 p s m _ c := C
  have hS : va_S (fA E L s.heap.size) s.heap s.heap [] := va_S.rf
  replace hl : lv_has ls 5 [(0, .ref (E.2.1 b)), (1, .int p1)] := hl
  unfold wX11_choice_4 at h
  refine lv_aload_n C.1 C.2.1 dX11_choice_0 rfl (lv_at hl 0 rfl) ?_
  refine z_ki hS (z_runV (As := []) (rest := []) C hP hS (m10 hb hL) (e10 hb) rfl (tX11_row C.2.2.2.2.2.2.1 (hL.mo (Nat.le_of_ble_eq_true rfl) (Nat.le_of_ble_eq_true rfl)) hb h) q1636 q1638 q62 q124 q1639 hdX11_row ⟨Nat.le_of_ble_eq_true rfl, Nat.le_of_ble_eq_true rfl⟩ ⟨Nat.zero_le _, Nat.zero_le _⟩ rfl hl.1 rfl (lv_room (Nat.le_of_ble_eq_true rfl)) dX11_choice_1) (fun r2 st1 H locs h hP hS => ?_)
  refine lv_istore_n C.1 C.2.1 dX11_choice_4 rfl hl (Nat.le_of_ble_eq_true rfl) rfl (fun ls hl => ?_)
  have hl : lv_has ls 5 [(2, .int r2), (0, .ref (E.2.1 b)), (1, .int p1)] := hl
  refine lv_iload_n C.1 C.2.1 dX11_choice_5 rfl (lv_at hl 0 rfl) ?_
  refine lv_bipush C.1 C.2.1 (v := (-100)) dX11_choice_6 rfl ?_
  refine lv_icmp_ne C.1 C.2.1 (tgt := 13) dX11_choice_8 (by decide) (fun hc => ?_) (fun hc => ?_)
  · have h := h.1 hc
    refine lv_aload_n C.1 C.2.1 dX11_choice_13 rfl (lv_at hl 1 rfl) ?_
    refine gf10_0 C hP hb (m10 hb hL) q1438 dX11_choice_14 ?_
    refine lv_sipush C.1 C.2.1 (v := 212) dX11_choice_17 rfl ?_
    refine lv_iload_n C.1 C.2.1 dX11_choice_20 rfl (lv_at hl 0 rfl) ?_
    refine lv_iconst C.1 C.2.1 (v := 0) dX11_choice_21 rfl ?_
    refine z_ki hS (z_runV (As := [.int 212, .int r2, .int 0]) (rest := []) C hP hS (m10_2 hb hL) (e9 (k10_2 hb)) rfl (tX10_put C.2.2.2.2.2.2.1 (hL.mo (Nat.le_of_ble_eq_true rfl) (Nat.le_of_ble_eq_true rfl)) (k10_2 hb) h) q1624 q1625 q1626 q117 q1627 hdX10_put ⟨Nat.le_of_ble_eq_true rfl, Nat.le_of_ble_eq_true rfl⟩ ⟨Nat.zero_le _, Nat.zero_le _⟩ rfl hl.1 rfl (lv_room (Nat.le_of_ble_eq_true rfl)) dX11_choice_22) (fun r4 st3 H locs h hP hS => ?_)
    refine lv_istore_n C.1 C.2.1 dX11_choice_25 rfl hl (Nat.le_of_ble_eq_true rfl) rfl (fun ls hl => ?_)
    have hl : lv_has ls 5 [(3, .int r4), (2, .int r2), (0, .ref (E.2.1 b)), (1, .int p1)] := hl
    refine lv_aload_n C.1 C.2.1 dX11_choice_26 rfl (lv_at hl 2 rfl) ?_
    refine lv_iload_n C.1 C.2.1 dX11_choice_27 rfl (lv_at hl 3 rfl) ?_
    refine lv_iconst C.1 C.2.1 (v := 1) dX11_choice_28 rfl ?_
    refine lv_iadd C.1 C.2.1 dX11_choice_29  ?_
    refine z_ki hS (z_runV (As := [.int (p1 + 1)]) (rest := []) C hP hS (m10 hb hL) (e10 hb) rfl (tX11_block_3 C.2.2.2.2.2.2.1 (hL.mo (Nat.le_of_ble_eq_true rfl) (Nat.le_of_ble_eq_true rfl)) hb h) q1605 q1607 q56 q124 q1608 hdX11_block_3 ⟨Nat.le_of_ble_eq_true rfl, Nat.le_of_ble_eq_true rfl⟩ ⟨Nat.zero_le _, Nat.zero_le _⟩ rfl hl.1 rfl (lv_room (Nat.le_of_ble_eq_true rfl)) dX11_choice_30) (fun r6 st5 H locs h hP hS => ?_)
    obtain ⟨hr6, h⟩ := h
    refine lv_if_ne C.1 C.2.1 (tgt := 38) dX11_choice_33 (by decide) (fun hc => ?_) (fun hc => ?_)
    · have h := h.1 hc
      refine lv_aload_n C.1 C.2.1 dX11_choice_38 rfl (lv_at hl 2 rfl) ?_
      refine gf10_6 C hP hb (m10 hb hL) q1445 dX11_choice_39 ?_
      refine lv_sipush C.1 C.2.1 (v := 213) dX11_choice_42 rfl ?_
      refine lv_icmp_ne C.1 C.2.1 (tgt := 63) dX11_choice_45 (by decide) (fun hc => ?_) (fun hc => ?_)
      · have h := h.1 hc
        refine lv_iconst C.1 C.2.1 (v := (-1)) dX11_choice_63 rfl ?_
        exact tX11_choice_4_L64 hL C hr hlk hb _ _ _ h (lv_sub hl [2, 3, 0] rfl) hP hS
      · have h := h.2 hc
        refine lv_aload_n C.1 C.2.1 dX11_choice_48 rfl (lv_at hl 2 rfl) ?_
        refine gf10_0 C hP hb (m10 hb hL) q1438 dX11_choice_49 ?_
        refine lv_sipush C.1 C.2.1 (v := 300) dX11_choice_52 rfl ?_
        refine lv_iconst C.1 C.2.1 (v := 0) dX11_choice_55 rfl ?_
        refine lv_iconst C.1 C.2.1 (v := 0) dX11_choice_56 rfl ?_
        refine z_ki hS (z_runV (As := [.int 300, .int 0, .int 0]) (rest := []) C hP hS (m10_2 hb hL) (e9 (k10_2 hb)) rfl (tX10_put C.2.2.2.2.2.2.1 (hL.mo (Nat.le_of_ble_eq_true rfl) (Nat.le_of_ble_eq_true rfl)) (k10_2 hb) h) q1624 q1625 q1626 q117 q1627 hdX10_put ⟨Nat.le_of_ble_eq_true rfl, Nat.le_of_ble_eq_true rfl⟩ ⟨Nat.zero_le _, Nat.zero_le _⟩ rfl hl.1 rfl (lv_room (Nat.le_of_ble_eq_true rfl)) dX11_choice_57) (fun r8 st7 H locs h hP hS => ?_)
        refine lv_goto C.1 C.2.1 (tgt := 64) dX11_choice_60 (by decide) ?_
        exact tX11_choice_4_L64 hL C hr hlk hb _ _ _ h (lv_sub hl [2, 3, 0] rfl) hP hS
    · have h := h.2 hc
      refine lv_iconst C.1 C.2.1 (v := 0) dX11_choice_36 rfl ?_
      exact z_ri C hr hlk (bz_n bz0) hP hS ⟨bz0, h⟩ dX11_choice_37
  · have h := h.2 hc
    refine lv_iconst C.1 C.2.1 (v := 0) dX11_choice_11 rfl ?_
    exact z_ri C hr hlk (bz_n bz0) hP hS ⟨bz0, h⟩ dX11_choice_12
def rmX11_act_4 : Room := { frames := 20, cells := 0, slots := 0, locals := 446 }
def wX11_act_4_L30 (b : Nat) (p1 : Int32)   (st : St) (Q : Int32 → St → Prop) : Prop :=
  (wX11_wrong b st (fun r3 st2 => Q r3 st2))
def wX11_act_4_L154 (b : Nat) (p1 : Int32)  (v2 : Int32) (st : St) (Q : Int32 → St → Prop) : Prop :=
  (wX11_value b st (fun r16 st15 => ((¬ r16 = (-100) → (wX10_put (b + 2) v2 r16 0 st15 (fun r18 st17 => (wX11_take b 59 st17 (fun r20 st19 => Q r20 st19))))) ∧ (r16 = (-100) → Q 0 st15))))
def wX11_act_4_L77 (b : Nat) (p1 : Int32)  (v1 : Int32) (st : St) (Q : Int32 → St → Prop) : Prop :=
  (∀ x5 : Int32, x5 = (gI st b 6) → (wX11_next b st (fun st6 => ((((x5 : Int32).toInt < 205 ∨ 212 < (x5 : Int32).toInt) → wX11_act_4_L154 b p1 x5 st6 Q) ∧ ((x5 = 205 → (wX11_send b st6 (fun r8 st7 => Q r8 st7))) ∧ (x5 = 206 → wX11_act_4_L154 b p1 x5 st6 Q) ∧ (x5 = 207 → wX11_act_4_L154 b p1 x5 st6 Q) ∧ (x5 = 208 → wX11_act_4_L154 b p1 x5 st6 Q) ∧ (x5 = 209 → wX11_act_4_L154 b p1 x5 st6 Q) ∧ (x5 = 210 → (wX11_does b st6 (fun r10 st9 => Q r10 st9))) ∧ (x5 = 211 → (wX11_loop_4 b v1 st6 (fun r12 st11 => Q r12 st11))) ∧ (x5 = 212 → (wX11_choice_4 b v1 st6 (fun r14 st13 => Q r14 st13))))))))
def wX11_act_4_L52 (b : Nat) (p1 : Int32)  (v1 : Int32) (st : St) (Q : Int32 → St → Prop) : Prop :=
  ((60 ≤ (gI st (b + 2) 3) → wX11_act_4_L77 b p1 v1 st Q) ∧ (¬ 60 ≤ (gI st (b + 2) 3) → (∀ st4, st4 = uI st (b + 2) 3 ((gI st (b + 2) 3) + 1) → wX11_act_4_L77 b p1 v1 st4 Q)))
def wX11_act_4 (b : Nat) (p1 : Int32) (st : St) (Q : Int32 → St → Prop) : Prop :=
  (((gI st b 6) < 205 → wX11_act_4_L30 b p1 st Q) ∧ (¬ (gI st b 6) < 205 → ((212 < (gI st b 6) → wX11_act_4_L30 b p1 st Q) ∧ (¬ 212 < (gI st b 6) → ((¬ (gI st b 6) = 206 → ((¬ (gI st (b + 2) 3) = 60 → wX11_act_4_L52 b p1 p1 st Q) ∧ ((gI st (b + 2) 3) = 60 → (wX11_note b 4 st (fun st1 => wX11_act_4_L52 b p1 p1 st1 Q))))) ∧ ((gI st b 6) = 206 → wX11_act_4_L30 b p1 st Q))))))
theorem hdX11_act_4 : yX11_act.cls = "PlankBridgeModel$Reader" ∧ yX11_act.cls ≠ "java/lang/invoke/MethodHandle" ∧ yX11_act.cls ≠ "java/lang/invoke/VarHandle" ∧ (parseMethodDescriptor yX11_act.desc).map (fun d => d.parameters.length) = some 1 := by decide +kernel
set_option maxHeartbeats 4000000 in
set_option maxRecDepth 100000 in
theorem tX11_act_4_L30 {l : Launch} {p : Program} {e : Env} {s : State} {m : MethodId} {args : Array Value} {below : List Frame} {meth : Method} {c : Code} {E : En0} {L : List Nat} (hL : Cov 54 77 L) (C : Cx E L "PlankBridgeModel$Reader" cX11_act 4 p s m args c) (hr : meth.sig.returnType = (some .boolean)) (hlk : meth.locks = false) {b : Nat} {p1 : Int32} {Q : Int32 → St → Prop} (hb : kd b = 10)   {st : St} (H : Heap) (locs : List Loc) (ls : Array Slot) (h : wX11_act_4_L30 b p1 st Q) (hl : lv_has ls 4 [(0, .ref (E.2.1 b))]) (hP : va_P E.1 vwCl (wd E L st) H) (hS : va_S (fA E L s.heap.size) s.heap H locs) : W p l e rmX11_act_4 s m args below meth c H locs 0 0 (MQ below (zI E L (fun r u => bz r ∧ Q r u) (fA E L s.heap.size)) args s rmX11_act_4.cells rmX11_act_4.slots (fA E L s.heap.size)) (F0 m 30 ls []) := by
  unfold wX11_act_4_L30 at h
  refine lv_aload_n C.1 C.2.1 dX11_act_30 rfl (lv_at hl 0 rfl) ?_
  refine z_ki hS (z_runV (As := []) (rest := []) C hP hS (m10 hb hL) (e10 hb) rfl (tX11_wrong C.2.2.2.2.2.2.1 (hL.mo (Nat.le_of_ble_eq_true rfl) (Nat.le_of_ble_eq_true rfl)) hb h) q1576 q1578 q49 q124 q1579 hdX11_wrong ⟨Nat.le_of_ble_eq_true rfl, Nat.le_of_ble_eq_true rfl⟩ ⟨Nat.zero_le _, Nat.zero_le _⟩ rfl hl.1 rfl (lv_room (Nat.le_of_ble_eq_true rfl)) dX11_act_31) (fun r3 st2 H locs h hP hS => ?_)
  obtain ⟨hr3, h⟩ := h
  exact z_ri C hr hlk (bz_n hr3) hP hS ⟨hr3, h⟩ dX11_act_34
set_option maxHeartbeats 4000000 in
set_option maxRecDepth 100000 in
theorem tX11_act_4_L154 {l : Launch} {p : Program} {e : Env} {s : State} {m : MethodId} {args : Array Value} {below : List Frame} {meth : Method} {c : Code} {E : En0} {L : List Nat} (hL : Cov 54 77 L) (C : Cx E L "PlankBridgeModel$Reader" cX11_act 4 p s m args c) (hr : meth.sig.returnType = (some .boolean)) (hlk : meth.locks = false) {b : Nat} {p1 : Int32} {Q : Int32 → St → Prop} (hb : kd b = 10) {v2 : Int32}  {st : St} (H : Heap) (locs : List Loc) (ls : Array Slot) (h : wX11_act_4_L154 b p1 v2 st Q) (hl : lv_has ls 4 [(0, .ref (E.2.1 b)), (2, .int v2)]) (hP : va_P E.1 vwCl (wd E L st) H) (hS : va_S (fA E L s.heap.size) s.heap H locs) : W p l e rmX11_act_4 s m args below meth c H locs 0 0 (MQ below (zI E L (fun r u => bz r ∧ Q r u) (fA E L s.heap.size)) args s rmX11_act_4.cells rmX11_act_4.slots (fA E L s.heap.size)) (F0 m 154 ls []) := by
  unfold wX11_act_4_L154 at h
  refine lv_aload_n C.1 C.2.1 dX11_act_154 rfl (lv_at hl 0 rfl) ?_
  refine z_ki hS (z_runV (As := []) (rest := []) C hP hS (m10 hb hL) (e10 hb) rfl (tX11_value C.2.2.2.2.2.2.1 (hL.mo (Nat.le_of_ble_eq_true rfl) (Nat.le_of_ble_eq_true rfl)) hb h) q1640 q1642 q63 q124 q1643 hdX11_value ⟨Nat.le_of_ble_eq_true rfl, Nat.le_of_ble_eq_true rfl⟩ ⟨Nat.zero_le _, Nat.zero_le _⟩ rfl hl.1 rfl (lv_room (Nat.le_of_ble_eq_true rfl)) dX11_act_155) (fun r16 st15 H locs h hP hS => ?_)
  refine lv_istore_n C.1 C.2.1 dX11_act_158 rfl hl (Nat.le_of_ble_eq_true rfl) rfl (fun ls hl => ?_)
  have hl : lv_has ls 4 [(3, .int r16), (0, .ref (E.2.1 b)), (2, .int v2)] := hl
  refine lv_iload_n C.1 C.2.1 dX11_act_159 rfl (lv_at hl 0 rfl) ?_
  refine lv_bipush C.1 C.2.1 (v := (-100)) dX11_act_160 rfl ?_
  refine lv_icmp_ne C.1 C.2.1 (tgt := 167) dX11_act_162 (by decide) (fun hc => ?_) (fun hc => ?_)
  · have h := h.1 hc
    refine lv_aload_n C.1 C.2.1 dX11_act_167 rfl (lv_at hl 1 rfl) ?_
    refine gf10_0 C hP hb (m10 hb hL) q1438 dX11_act_168 ?_
    refine lv_iload_n C.1 C.2.1 dX11_act_171 rfl (lv_at hl 2 rfl) ?_
    refine lv_iload_n C.1 C.2.1 dX11_act_172 rfl (lv_at hl 0 rfl) ?_
    refine lv_iconst C.1 C.2.1 (v := 0) dX11_act_173 rfl ?_
    refine z_ki hS (z_runV (As := [.int v2, .int r16, .int 0]) (rest := []) C hP hS (m10_2 hb hL) (e9 (k10_2 hb)) rfl (tX10_put C.2.2.2.2.2.2.1 (hL.mo (Nat.le_of_ble_eq_true rfl) (Nat.le_of_ble_eq_true rfl)) (k10_2 hb) h) q1624 q1625 q1626 q117 q1627 hdX10_put ⟨Nat.le_of_ble_eq_true rfl, Nat.le_of_ble_eq_true rfl⟩ ⟨Nat.zero_le _, Nat.zero_le _⟩ rfl hl.1 rfl (lv_room (Nat.le_of_ble_eq_true rfl)) dX11_act_174) (fun r18 st17 H locs h hP hS => ?_)
    refine lv_pop C.1 C.2.1 dX11_act_177 rfl ?_
    refine lv_aload_n C.1 C.2.1 dX11_act_178 rfl (lv_at hl 1 rfl) ?_
    refine lv_bipush C.1 C.2.1 (v := 59) dX11_act_179 rfl ?_
    refine z_ki hS (z_runV (As := [.int 59]) (rest := []) C hP hS (m10 hb hL) (e10 hb) rfl (tX11_take C.2.2.2.2.2.2.1 (hL.mo (Nat.le_of_ble_eq_true rfl) (Nat.le_of_ble_eq_true rfl)) hb h) q1588 q1590 q52 q124 q1591 hdX11_take ⟨Nat.le_of_ble_eq_true rfl, Nat.le_of_ble_eq_true rfl⟩ ⟨Nat.zero_le _, Nat.zero_le _⟩ rfl hl.1 rfl (lv_room (Nat.le_of_ble_eq_true rfl)) dX11_act_181) (fun r20 st19 H locs h hP hS => ?_)
    obtain ⟨hr20, h⟩ := h
    exact z_ri C hr hlk (bz_n hr20) hP hS ⟨hr20, h⟩ dX11_act_184
  · have h := h.2 hc
    refine lv_iconst C.1 C.2.1 (v := 0) dX11_act_165 rfl ?_
    exact z_ri C hr hlk (bz_n bz0) hP hS ⟨bz0, h⟩ dX11_act_166
set_option maxHeartbeats 4000000 in
set_option maxRecDepth 100000 in
theorem tX11_act_4_L77 {l : Launch} {p : Program} {e : Env} {s : State} {m : MethodId} {args : Array Value} {below : List Frame} {meth : Method} {c : Code} {E : En0} {L : List Nat} (hL : Cov 54 77 L) (C : Cx E L "PlankBridgeModel$Reader" cX11_act 4 p s m args c) (hr : meth.sig.returnType = (some .boolean)) (hlk : meth.locks = false) {b : Nat} {p1 : Int32} {Q : Int32 → St → Prop} (hb : kd b = 10) {v1 : Int32}  {st : St} (H : Heap) (locs : List Loc) (ls : Array Slot) (h : wX11_act_4_L77 b p1 v1 st Q) (hl : lv_has ls 4 [(0, .ref (E.2.1 b)), (1, .int v1)]) (hP : va_P E.1 vwCl (wd E L st) H) (hS : va_S (fA E L s.heap.size) s.heap H locs) : W p l e rmX11_act_4 s m args below meth c H locs 0 0 (MQ below (zI E L (fun r u => bz r ∧ Q r u) (fA E L s.heap.size)) args s rmX11_act_4.cells rmX11_act_4.slots (fA E L s.heap.size)) (F0 m 77 ls []) := by
  unfold wX11_act_4_L77 at h
  refine lv_aload_n C.1 C.2.1 dX11_act_77 rfl (lv_at hl 0 rfl) ?_
  refine gf10_6 C hP hb (m10 hb hL) q1445 dX11_act_78 ?_
  refine lv_topi (fun x5 ex5 => ?_)
  have h := h x5 ex5
  refine lv_istore_n C.1 C.2.1 dX11_act_81 rfl hl (Nat.le_of_ble_eq_true rfl) rfl (fun ls hl => ?_)
  have hl : lv_has ls 4 [(2, .int x5), (0, .ref (E.2.1 b)), (1, .int v1)] := hl
  refine lv_aload_n C.1 C.2.1 dX11_act_82 rfl (lv_at hl 1 rfl) ?_
  refine z_kv hS (z_runV (As := []) (rest := []) C hP hS (m10 hb hL) (e10 hb) rfl (tX11_next C.2.2.2.2.2.2.1 (hL.mo (Nat.le_of_ble_eq_true rfl) (Nat.le_of_ble_eq_true rfl)) hb h) q1492 q1494 q41 q124 q1495 hdX11_next ⟨Nat.le_of_ble_eq_true rfl, Nat.le_of_ble_eq_true rfl⟩ ⟨Nat.zero_le _, Nat.zero_le _⟩ rfl hl.1 rfl (lv_room (Nat.le_of_ble_eq_true rfl)) dX11_act_83) (fun st6 H locs h hP hS => ?_)
  refine lv_iload_n C.1 C.2.1 dX11_act_86 rfl (lv_at hl 0 rfl) ?_
  rcases Classical.em ((x5 : Int32).toInt < 205 ∨ 212 < (x5 : Int32).toInt) with hx | hx
  · have h := h.1 hx
    refine lv_tableOut C.1 C.2.1 (tgt := 154) dX11_act_87 hx (by decide) ?_
    exact tX11_act_4_L154 hL C hr hlk hb _ _ _ h (lv_sub hl [1, 0] rfl) hP hS
  · have h := h.2
    have hx : (x5 : Int32).toInt = 205 ∨ (x5 : Int32).toInt = 206 ∨ (x5 : Int32).toInt = 207 ∨ (x5 : Int32).toInt = 208 ∨ (x5 : Int32).toInt = 209 ∨ (x5 : Int32).toInt = 210 ∨ (x5 : Int32).toInt = 211 ∨ (x5 : Int32).toInt = 212 := by omega
    rcases hx with hx | hx | hx | hx | hx | hx | hx | hx
    · have h := h.1 (i32_eq (hx.trans (by decide)))
      refine lv_tableIn C.1 C.2.1 (off := 45) (tgt := 132) dX11_act_87 (by omega) (by omega) (by rw [hx]; rfl) (by decide) ?_
      refine lv_aload_n C.1 C.2.1 dX11_act_132 rfl (lv_at hl 1 rfl) ?_
      refine z_ki hS (z_runV (As := []) (rest := []) C hP hS (m10 hb hL) (e10 hb) rfl (tX11_send C.2.2.2.2.2.2.1 (hL.mo (Nat.le_of_ble_eq_true rfl) (Nat.le_of_ble_eq_true rfl)) hb h) q1613 q1615 q58 q124 q1616 hdX11_send ⟨Nat.le_of_ble_eq_true rfl, Nat.le_of_ble_eq_true rfl⟩ ⟨Nat.zero_le _, Nat.zero_le _⟩ rfl hl.1 rfl (lv_room (Nat.le_of_ble_eq_true rfl)) dX11_act_133) (fun r8 st7 H locs h hP hS => ?_)
      obtain ⟨hr8, h⟩ := h
      exact z_ri C hr hlk (bz_n hr8) hP hS ⟨hr8, h⟩ dX11_act_136
    · have h := h.2.1 (i32_eq (hx.trans (by decide)))
      refine lv_tableIn C.1 C.2.1 (off := 67) (tgt := 154) dX11_act_87 (by omega) (by omega) (by rw [hx]; rfl) (by decide) ?_
      exact tX11_act_4_L154 hL C hr hlk hb _ _ _ h (lv_sub hl [1, 0] rfl) hP hS
    · have h := h.2.2.1 (i32_eq (hx.trans (by decide)))
      refine lv_tableIn C.1 C.2.1 (off := 67) (tgt := 154) dX11_act_87 (by omega) (by omega) (by rw [hx]; rfl) (by decide) ?_
      exact tX11_act_4_L154 hL C hr hlk hb _ _ _ h (lv_sub hl [1, 0] rfl) hP hS
    · have h := h.2.2.2.1 (i32_eq (hx.trans (by decide)))
      refine lv_tableIn C.1 C.2.1 (off := 67) (tgt := 154) dX11_act_87 (by omega) (by omega) (by rw [hx]; rfl) (by decide) ?_
      exact tX11_act_4_L154 hL C hr hlk hb _ _ _ h (lv_sub hl [1, 0] rfl) hP hS
    · have h := h.2.2.2.2.1 (i32_eq (hx.trans (by decide)))
      refine lv_tableIn C.1 C.2.1 (off := 67) (tgt := 154) dX11_act_87 (by omega) (by omega) (by rw [hx]; rfl) (by decide) ?_
      exact tX11_act_4_L154 hL C hr hlk hb _ _ _ h (lv_sub hl [1, 0] rfl) hP hS
    · have h := h.2.2.2.2.2.1 (i32_eq (hx.trans (by decide)))
      refine lv_tableIn C.1 C.2.1 (off := 50) (tgt := 137) dX11_act_87 (by omega) (by omega) (by rw [hx]; rfl) (by decide) ?_
      refine lv_aload_n C.1 C.2.1 dX11_act_137 rfl (lv_at hl 1 rfl) ?_
      refine z_ki hS (z_runV (As := []) (rest := []) C hP hS (m10 hb hL) (e10 hb) rfl (tX11_does C.2.2.2.2.2.2.1 (hL.mo (Nat.le_of_ble_eq_true rfl) (Nat.le_of_ble_eq_true rfl)) hb h) q1628 q1630 q60 q124 q1631 hdX11_does ⟨Nat.le_of_ble_eq_true rfl, Nat.le_of_ble_eq_true rfl⟩ ⟨Nat.zero_le _, Nat.zero_le _⟩ rfl hl.1 rfl (lv_room (Nat.le_of_ble_eq_true rfl)) dX11_act_138) (fun r10 st9 H locs h hP hS => ?_)
      obtain ⟨hr10, h⟩ := h
      exact z_ri C hr hlk (bz_n hr10) hP hS ⟨hr10, h⟩ dX11_act_141
    · have h := h.2.2.2.2.2.2.1 (i32_eq (hx.trans (by decide)))
      refine lv_tableIn C.1 C.2.1 (off := 55) (tgt := 142) dX11_act_87 (by omega) (by omega) (by rw [hx]; rfl) (by decide) ?_
      refine lv_aload_n C.1 C.2.1 dX11_act_142 rfl (lv_at hl 1 rfl) ?_
      refine lv_iload_n C.1 C.2.1 dX11_act_143 rfl (lv_at hl 2 rfl) ?_
      refine z_ki hS (z_runV (As := [.int v1]) (rest := []) C hP hS (m10 hb hL) (e10 hb) rfl (tX11_loop_4 C.2.2.2.2.2.2.1 (hL.mo (Nat.le_of_ble_eq_true rfl) (Nat.le_of_ble_eq_true rfl)) hb h) q1632 q1634 q61 q124 q1635 hdX11_loop_4 ⟨Nat.le_of_ble_eq_true rfl, Nat.le_of_ble_eq_true rfl⟩ ⟨Nat.zero_le _, Nat.zero_le _⟩ rfl hl.1 rfl (lv_room (Nat.le_of_ble_eq_true rfl)) dX11_act_144) (fun r12 st11 H locs h hP hS => ?_)
      obtain ⟨hr12, h⟩ := h
      exact z_ri C hr hlk (bz_n hr12) hP hS ⟨hr12, h⟩ dX11_act_147
    · have h := h.2.2.2.2.2.2.2 (i32_eq (hx.trans (by decide)))
      refine lv_tableIn C.1 C.2.1 (off := 61) (tgt := 148) dX11_act_87 (by omega) (by omega) (by rw [hx]; rfl) (by decide) ?_
      refine lv_aload_n C.1 C.2.1 dX11_act_148 rfl (lv_at hl 1 rfl) ?_
      refine lv_iload_n C.1 C.2.1 dX11_act_149 rfl (lv_at hl 2 rfl) ?_
      refine z_ki hS (z_runV (As := [.int v1]) (rest := []) C hP hS (m10 hb hL) (e10 hb) rfl (tX11_choice_4 C.2.2.2.2.2.2.1 (hL.mo (Nat.le_of_ble_eq_true rfl) (Nat.le_of_ble_eq_true rfl)) hb h) q1644 q1646 q64 q124 q1647 hdX11_choice_4 ⟨Nat.le_of_ble_eq_true rfl, Nat.le_of_ble_eq_true rfl⟩ ⟨Nat.zero_le _, Nat.zero_le _⟩ rfl hl.1 rfl (lv_room (Nat.le_of_ble_eq_true rfl)) dX11_act_150) (fun r14 st13 H locs h hP hS => ?_)
      obtain ⟨hr14, h⟩ := h
      exact z_ri C hr hlk (bz_n hr14) hP hS ⟨hr14, h⟩ dX11_act_153
set_option maxHeartbeats 4000000 in
set_option maxRecDepth 100000 in
theorem tX11_act_4_L52 {l : Launch} {p : Program} {e : Env} {s : State} {m : MethodId} {args : Array Value} {below : List Frame} {meth : Method} {c : Code} {E : En0} {L : List Nat} (hL : Cov 54 77 L) (C : Cx E L "PlankBridgeModel$Reader" cX11_act 4 p s m args c) (hr : meth.sig.returnType = (some .boolean)) (hlk : meth.locks = false) {b : Nat} {p1 : Int32} {Q : Int32 → St → Prop} (hb : kd b = 10) {v1 : Int32}  {st : St} (H : Heap) (locs : List Loc) (ls : Array Slot) (h : wX11_act_4_L52 b p1 v1 st Q) (hl : lv_has ls 4 [(0, .ref (E.2.1 b)), (1, .int v1)]) (hP : va_P E.1 vwCl (wd E L st) H) (hS : va_S (fA E L s.heap.size) s.heap H locs) : W p l e rmX11_act_4 s m args below meth c H locs 0 0 (MQ below (zI E L (fun r u => bz r ∧ Q r u) (fA E L s.heap.size)) args s rmX11_act_4.cells rmX11_act_4.slots (fA E L s.heap.size)) (F0 m 52 ls []) := by
  unfold wX11_act_4_L52 at h
  refine lv_aload_n C.1 C.2.1 dX11_act_52 rfl (lv_at hl 0 rfl) ?_
  refine gf10_0 C hP hb (m10 hb hL) q1438 dX11_act_53 ?_
  refine gf9_3 C hP (k10_2 hb) (m10_2 hb hL) q1325 dX11_act_56 ?_
  refine lv_bipush C.1 C.2.1 (v := 60) dX11_act_59 rfl ?_
  refine lv_icmp_ge C.1 C.2.1 (tgt := 77) dX11_act_61 (by decide) (fun hc => ?_) (fun hc => ?_)
  · have h := h.1 hc
    exact tX11_act_4_L77 hL C hr hlk hb _ _ _ h hl hP hS
  · have h := h.2 hc
    refine lv_aload_n C.1 C.2.1 dX11_act_64 rfl (lv_at hl 0 rfl) ?_
    refine gf10_0 C hP hb (m10 hb hL) q1438 dX11_act_65 ?_
    refine lv_dup C.1 C.2.1 dX11_act_68 rfl ?_
    refine gf9_3 C hP (k10_2 hb) (m10_2 hb hL) q1325 dX11_act_69 ?_
    refine lv_iconst C.1 C.2.1 (v := 1) dX11_act_72 rfl ?_
    refine lv_iadd C.1 C.2.1 dX11_act_73  ?_
    refine pf9_3 C hP hS (k10_2 hb) (m10_2 hb hL) q1325 dX11_act_74 (fun H locs hP hS => ?_)
    obtain ⟨st4, est4⟩ : ∃ z, z = uI st (b + 2) 3 ((gI st (b + 2) 3) + 1) := ⟨_, rfl⟩
    rw [← est4] at hP; have h := h st4 est4
    exact tX11_act_4_L77 hL C hr hlk hb _ _ _ h hl hP hS
set_option maxHeartbeats 4000000 in
set_option maxRecDepth 100000 in
theorem tX11_act_4 {l : Launch} {E : En0} {L : List Nat} (hE : EK E L) (hL : Cov 54 77 L) {b : Nat} {p1 : Int32} {st : St} {Q : Int32 → St → Prop} (hb : kd b = 10) (h : wX11_act_4 b p1 st Q) : Mz l yX11_act cX11_act 4 (some .boolean) rmX11_act_4 E L [.ref (E.2.1 b), .int p1] st (zI E L (fun r u => bz r ∧ Q r u)) := by
  refine Mz.of hE (by decide) (Nat.le_of_ble_eq_true rfl) ?_
  intro p e s m below meth c ls C hr hlk _ hl hP
  replace C : Cx E L "PlankBridgeModel$Reader" cX11_act 4 p s m _ c := C
  have hS : va_S (fA E L s.heap.size) s.heap s.heap [] := va_S.rf
  replace hl : lv_has ls 4 [(0, .ref (E.2.1 b)), (1, .int p1)] := hl
  unfold wX11_act_4 at h
  refine lv_aload_n C.1 C.2.1 dX11_act_0 rfl (lv_at hl 0 rfl) ?_
  refine gf10_6 C hP hb (m10 hb hL) q1445 dX11_act_1 ?_
  refine lv_sipush C.1 C.2.1 (v := 205) dX11_act_4 rfl ?_
  refine lv_icmp_lt C.1 C.2.1 (tgt := 30) dX11_act_7 (by decide) (fun hc => ?_) (fun hc => ?_)
  · have h := h.1 hc
    exact tX11_act_4_L30 hL C hr hlk hb _ _ _ h (lv_sub hl [0] rfl) hP hS
  · have h := h.2 hc
    refine lv_aload_n C.1 C.2.1 dX11_act_10 rfl (lv_at hl 0 rfl) ?_
    refine gf10_6 C hP hb (m10 hb hL) q1445 dX11_act_11 ?_
    refine lv_sipush C.1 C.2.1 (v := 212) dX11_act_14 rfl ?_
    refine lv_icmp_gt C.1 C.2.1 (tgt := 30) dX11_act_17 (by decide) (fun hc => ?_) (fun hc => ?_)
    · have h := h.1 hc
      exact tX11_act_4_L30 hL C hr hlk hb _ _ _ h (lv_sub hl [0] rfl) hP hS
    · have h := h.2 hc
      refine lv_aload_n C.1 C.2.1 dX11_act_20 rfl (lv_at hl 0 rfl) ?_
      refine gf10_6 C hP hb (m10 hb hL) q1445 dX11_act_21 ?_
      refine lv_sipush C.1 C.2.1 (v := 206) dX11_act_24 rfl ?_
      refine lv_icmp_ne C.1 C.2.1 (tgt := 35) dX11_act_27 (by decide) (fun hc => ?_) (fun hc => ?_)
      · have h := h.1 hc
        refine lv_aload_n C.1 C.2.1 dX11_act_35 rfl (lv_at hl 0 rfl) ?_
        refine gf10_0 C hP hb (m10 hb hL) q1438 dX11_act_36 ?_
        refine gf9_3 C hP (k10_2 hb) (m10_2 hb hL) q1325 dX11_act_39 ?_
        refine lv_bipush C.1 C.2.1 (v := 60) dX11_act_42 rfl ?_
        refine lv_icmp_ne C.1 C.2.1 (tgt := 52) dX11_act_44 (by decide) (fun hc => ?_) (fun hc => ?_)
        · have h := h.1 hc
          exact tX11_act_4_L52 hL C hr hlk hb _ _ _ h hl hP hS
        · have h := h.2 hc
          refine lv_aload_n C.1 C.2.1 dX11_act_47 rfl (lv_at hl 0 rfl) ?_
          refine lv_iconst C.1 C.2.1 (v := 4) dX11_act_48 rfl ?_
          refine z_kv hS (z_runV (As := [.int 4]) (rest := []) C hP hS (m10 hb hL) (e10 hb) rfl (tX11_note C.2.2.2.2.2.2.1 (hL.mo (Nat.le_of_ble_eq_true rfl) (Nat.le_of_ble_eq_true rfl)) hb h) q1584 q1586 q51 q124 q1587 hdX11_note ⟨Nat.le_of_ble_eq_true rfl, Nat.le_of_ble_eq_true rfl⟩ ⟨Nat.zero_le _, Nat.zero_le _⟩ rfl hl.1 rfl (lv_room (Nat.le_of_ble_eq_true rfl)) dX11_act_49) (fun st1 H locs h hP hS => ?_)
          exact tX11_act_4_L52 hL C hr hlk hb _ _ _ h hl hP hS
      · have h := h.2 hc
        exact tX11_act_4_L30 hL C hr hlk hb _ _ _ h (lv_sub hl [0] rfl) hP hS
def rmX11_block_4 : Room := { frames := 21, cells := 0, slots := 0, locals := 469 }
def wX11_block_4_L14 (b : Nat) (p1 : Int32)   (st : St) (Q : Int32 → St → Prop) : Prop :=
  (wX11_wrong b st (fun r3 st2 => Q r3 st2))
def wX11_block_4_L23 (b : Nat) (p1 : Int32)  (R23 : Int32 × St → Prop) (v1 : Int32) (st : St) (Q : Int32 → St → Prop) : Prop :=
  (((gI st b 6) = 41 → (wX11_next b st (fun st4 => Q 1 st4))) ∧ (¬ (gI st b 6) = 41 → (wX11_act_4 b v1 st (fun r6 st5 => ((¬ r6 = 0 → R23 (v1, st5)) ∧ (r6 = 0 → Q 0 st5))))))
def wX11_block_4 (b : Nat) (p1 : Int32) (st : St) (Q : Int32 → St → Prop) : Prop :=
  ((¬ (gI st b 6) = 40 → wX11_block_4_L14 b p1 st Q) ∧ ((gI st b 6) = 40 → ((p1 ≤ 3 → (wX11_next b st (fun st1 => (∃ n, lp (fun R s => wX11_block_4_L23 b p1 R s.1 s.2 Q) n (p1, st1))))) ∧ (¬ p1 ≤ 3 → wX11_block_4_L14 b p1 st Q))))
theorem hdX11_block_4 : yX11_block.cls = "PlankBridgeModel$Reader" ∧ yX11_block.cls ≠ "java/lang/invoke/MethodHandle" ∧ yX11_block.cls ≠ "java/lang/invoke/VarHandle" ∧ (parseMethodDescriptor yX11_block.desc).map (fun d => d.parameters.length) = some 1 := by decide +kernel
set_option maxHeartbeats 4000000 in
set_option maxRecDepth 100000 in
theorem tX11_block_4_L14 {l : Launch} {p : Program} {e : Env} {s : State} {m : MethodId} {args : Array Value} {below : List Frame} {meth : Method} {c : Code} {E : En0} {L : List Nat} (hL : Cov 54 77 L) (C : Cx E L "PlankBridgeModel$Reader" cX11_block 2 p s m args c) (hr : meth.sig.returnType = (some .boolean)) (hlk : meth.locks = false) {b : Nat} {p1 : Int32} {Q : Int32 → St → Prop} (hb : kd b = 10)   {st : St} (H : Heap) (locs : List Loc) (ls : Array Slot) (h : wX11_block_4_L14 b p1 st Q) (hl : lv_has ls 2 [(0, .ref (E.2.1 b))]) (hP : va_P E.1 vwCl (wd E L st) H) (hS : va_S (fA E L s.heap.size) s.heap H locs) : W p l e rmX11_block_4 s m args below meth c H locs 0 0 (MQ below (zI E L (fun r u => bz r ∧ Q r u) (fA E L s.heap.size)) args s rmX11_block_4.cells rmX11_block_4.slots (fA E L s.heap.size)) (F0 m 14 ls []) := by
  unfold wX11_block_4_L14 at h
  refine lv_aload_n C.1 C.2.1 dX11_block_14 rfl (lv_at hl 0 rfl) ?_
  refine z_ki hS (z_runV (As := []) (rest := []) C hP hS (m10 hb hL) (e10 hb) rfl (tX11_wrong C.2.2.2.2.2.2.1 (hL.mo (Nat.le_of_ble_eq_true rfl) (Nat.le_of_ble_eq_true rfl)) hb h) q1576 q1578 q49 q124 q1579 hdX11_wrong ⟨Nat.le_of_ble_eq_true rfl, Nat.le_of_ble_eq_true rfl⟩ ⟨Nat.zero_le _, Nat.zero_le _⟩ rfl hl.1 rfl (lv_room (Nat.le_of_ble_eq_true rfl)) dX11_block_15) (fun r3 st2 H locs h hP hS => ?_)
  obtain ⟨hr3, h⟩ := h
  exact z_ri C hr hlk (bz_n hr3) hP hS ⟨hr3, h⟩ dX11_block_18
set_option maxHeartbeats 4000000 in
set_option maxRecDepth 100000 in
theorem tX11_block_4_L23 {l : Launch} {p : Program} {e : Env} {s : State} {m : MethodId} {args : Array Value} {below : List Frame} {meth : Method} {c : Code} {E : En0} {L : List Nat} (hL : Cov 54 77 L) (C : Cx E L "PlankBridgeModel$Reader" cX11_block 2 p s m args c) (hr : meth.sig.returnType = (some .boolean)) (hlk : meth.locks = false) {b : Nat} {p1 : Int32} {Q : Int32 → St → Prop} (hb : kd b = 10) : ∀ (n : Nat) (v1 : Int32) (st : St) (H : Heap) (locs : List Loc) (ls : Array Slot), lp (fun R s => wX11_block_4_L23 b p1 R s.1 s.2 Q) n (v1, st) → lv_has ls 2 [(0, .ref (E.2.1 b)), (1, .int v1)] → va_P E.1 vwCl (wd E L st) H → va_S (fA E L s.heap.size) s.heap H locs → W p l e rmX11_block_4 s m args below meth c H locs 0 0 (MQ below (zI E L (fun r u => bz r ∧ Q r u) (fA E L s.heap.size)) args s rmX11_block_4.cells rmX11_block_4.slots (fA E L s.heap.size)) (F0 m 23 ls []) := by
  intro n
  induction n with
  | zero => exact fun _ _ _ _ _ h _ _ _ => False.elim ‹_›
  | succ n ih =>
    intro v1 st  H locs ls h hl hP hS
    have hR23 := ih
    replace h : wX11_block_4_L23 b p1 (lp (fun R s => wX11_block_4_L23 b p1 R s.1 s.2 Q) n) v1 st Q := h
    unfold wX11_block_4_L23 at h
    refine lv_aload_n C.1 C.2.1 dX11_block_23 rfl (lv_at hl 0 rfl) ?_
    refine gf10_6 C hP hb (m10 hb hL) q1445 dX11_block_24 ?_
    refine lv_bipush C.1 C.2.1 (v := 41) dX11_block_27 rfl ?_
    refine lv_icmp_eq C.1 C.2.1 (tgt := 42) dX11_block_29 (by decide) (fun hc => ?_) (fun hc => ?_)
    · have h := h.1 hc
      refine lv_aload_n C.1 C.2.1 dX11_block_42 rfl (lv_at hl 0 rfl) ?_
      refine z_kv hS (z_runV (As := []) (rest := []) C hP hS (m10 hb hL) (e10 hb) rfl (tX11_next C.2.2.2.2.2.2.1 (hL.mo (Nat.le_of_ble_eq_true rfl) (Nat.le_of_ble_eq_true rfl)) hb h) q1492 q1494 q41 q124 q1495 hdX11_next ⟨Nat.le_of_ble_eq_true rfl, Nat.le_of_ble_eq_true rfl⟩ ⟨Nat.zero_le _, Nat.zero_le _⟩ rfl hl.1 rfl (lv_room (Nat.le_of_ble_eq_true rfl)) dX11_block_43) (fun st4 H locs h hP hS => ?_)
      refine lv_iconst C.1 C.2.1 (v := 1) dX11_block_46 rfl ?_
      exact z_ri C hr hlk (bz_n bz1) hP hS ⟨bz1, h⟩ dX11_block_47
    · have h := h.2 hc
      refine lv_aload_n C.1 C.2.1 dX11_block_32 rfl (lv_at hl 0 rfl) ?_
      refine lv_iload_n C.1 C.2.1 dX11_block_33 rfl (lv_at hl 1 rfl) ?_
      refine z_ki hS (z_runV (As := [.int v1]) (rest := []) C hP hS (m10 hb hL) (e10 hb) rfl (tX11_act_4 C.2.2.2.2.2.2.1 (hL.mo (Nat.le_of_ble_eq_true rfl) (Nat.le_of_ble_eq_true rfl)) hb h) q1609 q1611 q57 q124 q1612 hdX11_act_4 ⟨Nat.le_of_ble_eq_true rfl, Nat.le_of_ble_eq_true rfl⟩ ⟨Nat.zero_le _, Nat.zero_le _⟩ rfl hl.1 rfl (lv_room (Nat.le_of_ble_eq_true rfl)) dX11_block_34) (fun r6 st5 H locs h hP hS => ?_)
      obtain ⟨hr6, h⟩ := h
      refine lv_if_ne C.1 C.2.1 (tgt := 23) dX11_block_37 (by decide) (fun hc => ?_) (fun hc => ?_)
      · have h := h.1 hc
        exact hR23 v1 st5 _ _ _ h hl hP hS
      · have h := h.2 hc
        refine lv_iconst C.1 C.2.1 (v := 0) dX11_block_40 rfl ?_
        exact z_ri C hr hlk (bz_n bz0) hP hS ⟨bz0, h⟩ dX11_block_41
set_option maxHeartbeats 4000000 in
set_option maxRecDepth 100000 in
theorem tX11_block_4 {l : Launch} {E : En0} {L : List Nat} (hE : EK E L) (hL : Cov 54 77 L) {b : Nat} {p1 : Int32} {st : St} {Q : Int32 → St → Prop} (hb : kd b = 10) (h : wX11_block_4 b p1 st Q) : Mz l yX11_block cX11_block 2 (some .boolean) rmX11_block_4 E L [.ref (E.2.1 b), .int p1] st (zI E L (fun r u => bz r ∧ Q r u)) := by
  refine Mz.of hE (by decide) (Nat.le_of_ble_eq_true rfl) ?_
  intro p e s m below meth c ls C hr hlk _ hl hP
  replace C : Cx E L "PlankBridgeModel$Reader" cX11_block 2 p s m _ c := C
  have hS : va_S (fA E L s.heap.size) s.heap s.heap [] := va_S.rf
  replace hl : lv_has ls 2 [(0, .ref (E.2.1 b)), (1, .int p1)] := hl
  unfold wX11_block_4 at h
  refine lv_aload_n C.1 C.2.1 dX11_block_0 rfl (lv_at hl 0 rfl) ?_
  refine gf10_6 C hP hb (m10 hb hL) q1445 dX11_block_1 ?_
  refine lv_bipush C.1 C.2.1 (v := 40) dX11_block_4 rfl ?_
  refine lv_icmp_ne C.1 C.2.1 (tgt := 14) dX11_block_6 (by decide) (fun hc => ?_) (fun hc => ?_)
  · have h := h.1 hc
    exact tX11_block_4_L14 hL C hr hlk hb _ _ _ h (lv_sub hl [0] rfl) hP hS
  · have h := h.2 hc
    refine lv_iload_n C.1 C.2.1 dX11_block_9 rfl (lv_at hl 1 rfl) ?_
    refine lv_iconst C.1 C.2.1 (v := 3) dX11_block_10 rfl ?_
    refine lv_icmp_le C.1 C.2.1 (tgt := 19) dX11_block_11 (by decide) (fun hc => ?_) (fun hc => ?_)
    · have h := h.1 hc
      refine lv_aload_n C.1 C.2.1 dX11_block_19 rfl (lv_at hl 0 rfl) ?_
      refine z_kv hS (z_runV (As := []) (rest := []) C hP hS (m10 hb hL) (e10 hb) rfl (tX11_next C.2.2.2.2.2.2.1 (hL.mo (Nat.le_of_ble_eq_true rfl) (Nat.le_of_ble_eq_true rfl)) hb h) q1492 q1494 q41 q124 q1495 hdX11_next ⟨Nat.le_of_ble_eq_true rfl, Nat.le_of_ble_eq_true rfl⟩ ⟨Nat.zero_le _, Nat.zero_le _⟩ rfl hl.1 rfl (lv_room (Nat.le_of_ble_eq_true rfl)) dX11_block_20) (fun st1 H locs h hP hS => ?_)
      obtain ⟨n, h⟩ := h
      exact tX11_block_4_L23 hL C hr hlk hb n p1 st1 _ _ _ h hl hP hS
    · have h := h.2 hc
      exact tX11_block_4_L14 hL C hr hlk hb _ _ _ h (lv_sub hl [0] rfl) hP hS
def rmX11_plan : Room := { frames := 22, cells := 0, slots := 0, locals := 490 }
def wX11_plan_L96 (b : Nat)   (st : St) (Q : Int32 → St → Prop) : Prop :=
  (∀ st11, st11 = uI st b 4 (gI st b 2) → Q 1 st11)
def wX11_plan_L21 (b : Nat)  (s0 : Int32) (st : St) (Q : Int32 → St → Prop) : Prop :=
  (wX11_naming b s0 st (fun r3 st2 => ((¬ r3 = 0 → (∀ x4 : Int32, x4 = (gI st2 (b + 2) 9) → (wX11_block_4 b 1 st2 (fun r6 st5 => ((¬ r6 = 0 → (wX10_put (b + 2) 301 0 0 st5 (fun r8 st7 => (vp_in (gI st7 (b + 2) 2) 7 ∧ ∀ st9, st9 = uI st7 ((b + 2) + 4) (gI st7 (b + 2) 2 : Int32).toNatClampNeg x4 → ((¬ s0 = 0 → wX11_plan_L96 b st9 Q) ∧ (s0 = 0 → (∀ st10, st10 = uI st9 (b + 2) 2 ((gI st9 (b + 2) 2) + 1) → wX11_plan_L96 b st10 Q))))))) ∧ (r6 = 0 → Q 0 st5)))))) ∧ (r3 = 0 → Q 0 st2))))
def wX11_plan (b : Nat) (st : St) (Q : Int32 → St → Prop) : Prop :=
  (wX11_next b st (fun st1 => ((¬ (gI st1 (b + 2) 2) = 6 → wX11_plan_L21 b 0 st1 Q) ∧ ((gI st1 (b + 2) 2) = 6 → wX11_plan_L21 b 1 st1 Q))))
theorem hdX11_plan : yX11_plan.cls = "PlankBridgeModel$Reader" ∧ yX11_plan.cls ≠ "java/lang/invoke/MethodHandle" ∧ yX11_plan.cls ≠ "java/lang/invoke/VarHandle" ∧ (parseMethodDescriptor yX11_plan.desc).map (fun d => d.parameters.length) = some 0 := by decide +kernel
set_option maxHeartbeats 4000000 in
set_option maxRecDepth 100000 in
theorem tX11_plan_L96 {l : Launch} {p : Program} {e : Env} {s : State} {m : MethodId} {args : Array Value} {below : List Frame} {meth : Method} {c : Code} {E : En0} {L : List Nat} (hL : Cov 54 77 L) (C : Cx E L "PlankBridgeModel$Reader" cX11_plan 3 p s m args c) (hr : meth.sig.returnType = (some .boolean)) (hlk : meth.locks = false) {b : Nat} {Q : Int32 → St → Prop} (hb : kd b = 10)   {st : St} (H : Heap) (locs : List Loc) (ls : Array Slot) (h : wX11_plan_L96 b st Q) (hl : lv_has ls 3 [(0, .ref (E.2.1 b))]) (hP : va_P E.1 vwCl (wd E L st) H) (hS : va_S (fA E L s.heap.size) s.heap H locs) : W p l e rmX11_plan s m args below meth c H locs 0 0 (MQ below (zI E L (fun r u => bz r ∧ Q r u) (fA E L s.heap.size)) args s rmX11_plan.cells rmX11_plan.slots (fA E L s.heap.size)) (F0 m 96 ls []) := by
  unfold wX11_plan_L96 at h
  refine lv_aload_n C.1 C.2.1 dX11_plan_96 rfl (lv_at hl 0 rfl) ?_
  refine lv_aload_n C.1 C.2.1 dX11_plan_97 rfl (lv_at hl 0 rfl) ?_
  refine gf10_2 C hP hb (m10 hb hL) q1441 dX11_plan_98 ?_
  refine pf10_4 C hP hS hb (m10 hb hL) q1443 dX11_plan_101 (fun H locs hP hS => ?_)
  obtain ⟨st11, est11⟩ : ∃ z, z = uI st b 4 (gI st b 2) := ⟨_, rfl⟩
  rw [← est11] at hP; have h := h st11 est11
  refine lv_iconst C.1 C.2.1 (v := 1) dX11_plan_104 rfl ?_
  exact z_ri C hr hlk (bz_n bz1) hP hS ⟨bz1, h⟩ dX11_plan_105
set_option maxHeartbeats 4000000 in
set_option maxRecDepth 100000 in
theorem tX11_plan_L21 {l : Launch} {p : Program} {e : Env} {s : State} {m : MethodId} {args : Array Value} {below : List Frame} {meth : Method} {c : Code} {E : En0} {L : List Nat} (hL : Cov 54 77 L) (C : Cx E L "PlankBridgeModel$Reader" cX11_plan 3 p s m args c) (hr : meth.sig.returnType = (some .boolean)) (hlk : meth.locks = false) {b : Nat} {Q : Int32 → St → Prop} (hb : kd b = 10) {s0 : Int32}  {st : St} (H : Heap) (locs : List Loc) (ls : Array Slot) (h : wX11_plan_L21 b s0 st Q) (hl : lv_has ls 3 [(0, .ref (E.2.1 b))]) (hP : va_P E.1 vwCl (wd E L st) H) (hS : va_S (fA E L s.heap.size) s.heap H locs) : W p l e rmX11_plan s m args below meth c H locs 0 0 (MQ below (zI E L (fun r u => bz r ∧ Q r u) (fA E L s.heap.size)) args s rmX11_plan.cells rmX11_plan.slots (fA E L s.heap.size)) (F0 m 21 ls [.int s0]) := by
  unfold wX11_plan_L21 at h
  refine lv_istore_n C.1 C.2.1 dX11_plan_21 rfl hl (Nat.le_of_ble_eq_true rfl) rfl (fun ls hl => ?_)
  have hl : lv_has ls 3 [(1, .int s0), (0, .ref (E.2.1 b))] := hl
  refine lv_aload_n C.1 C.2.1 dX11_plan_22 rfl (lv_at hl 1 rfl) ?_
  refine lv_iload_n C.1 C.2.1 dX11_plan_23 rfl (lv_at hl 0 rfl) ?_
  refine z_ki hS (z_runV (As := [.int s0]) (rest := []) C hP hS (m10 hb hL) (e10 hb) rfl (tX11_naming C.2.2.2.2.2.2.1 (hL.mo (Nat.le_of_ble_eq_true rfl) (Nat.le_of_ble_eq_true rfl)) hb h) q1572 q1574 q48 q124 q1575 hdX11_naming ⟨Nat.le_of_ble_eq_true rfl, Nat.le_of_ble_eq_true rfl⟩ ⟨Nat.zero_le _, Nat.zero_le _⟩ rfl hl.1 rfl (lv_room (Nat.le_of_ble_eq_true rfl)) dX11_plan_24) (fun r3 st2 H locs h hP hS => ?_)
  obtain ⟨hr3, h⟩ := h
  refine lv_if_ne C.1 C.2.1 (tgt := 32) dX11_plan_27 (by decide) (fun hc => ?_) (fun hc => ?_)
  · have h := h.1 hc
    refine lv_aload_n C.1 C.2.1 dX11_plan_32 rfl (lv_at hl 1 rfl) ?_
    refine gf10_0 C hP hb (m10 hb hL) q1438 dX11_plan_33 ?_
    refine gf9_9 C hP (k10_2 hb) (m10_2 hb hL) q1342 dX11_plan_36 ?_
    refine lv_topi (fun x4 ex4 => ?_)
    have h := h x4 ex4
    refine lv_istore_n C.1 C.2.1 dX11_plan_39 rfl hl (Nat.le_of_ble_eq_true rfl) rfl (fun ls hl => ?_)
    have hl : lv_has ls 3 [(2, .int x4), (1, .int s0), (0, .ref (E.2.1 b))] := hl
    refine lv_aload_n C.1 C.2.1 dX11_plan_40 rfl (lv_at hl 2 rfl) ?_
    refine lv_iconst C.1 C.2.1 (v := 1) dX11_plan_41 rfl ?_
    refine z_ki hS (z_runV (As := [.int 1]) (rest := []) C hP hS (m10 hb hL) (e10 hb) rfl (tX11_block_4 C.2.2.2.2.2.2.1 (hL.mo (Nat.le_of_ble_eq_true rfl) (Nat.le_of_ble_eq_true rfl)) hb h) q1605 q1607 q56 q124 q1608 hdX11_block_4 ⟨Nat.le_of_ble_eq_true rfl, Nat.le_of_ble_eq_true rfl⟩ ⟨Nat.zero_le _, Nat.zero_le _⟩ rfl hl.1 rfl (lv_room (Nat.le_of_ble_eq_true rfl)) dX11_plan_42) (fun r6 st5 H locs h hP hS => ?_)
    obtain ⟨hr6, h⟩ := h
    refine lv_if_ne C.1 C.2.1 (tgt := 50) dX11_plan_45 (by decide) (fun hc => ?_) (fun hc => ?_)
    · have h := h.1 hc
      refine lv_aload_n C.1 C.2.1 dX11_plan_50 rfl (lv_at hl 2 rfl) ?_
      refine gf10_0 C hP hb (m10 hb hL) q1438 dX11_plan_51 ?_
      refine lv_sipush C.1 C.2.1 (v := 301) dX11_plan_54 rfl ?_
      refine lv_iconst C.1 C.2.1 (v := 0) dX11_plan_57 rfl ?_
      refine lv_iconst C.1 C.2.1 (v := 0) dX11_plan_58 rfl ?_
      refine z_ki hS (z_runV (As := [.int 301, .int 0, .int 0]) (rest := []) C hP hS (m10_2 hb hL) (e9 (k10_2 hb)) rfl (tX10_put C.2.2.2.2.2.2.1 (hL.mo (Nat.le_of_ble_eq_true rfl) (Nat.le_of_ble_eq_true rfl)) (k10_2 hb) h) q1624 q1625 q1626 q117 q1627 hdX10_put ⟨Nat.le_of_ble_eq_true rfl, Nat.le_of_ble_eq_true rfl⟩ ⟨Nat.zero_le _, Nat.zero_le _⟩ rfl hl.1 rfl (lv_room (Nat.le_of_ble_eq_true rfl)) dX11_plan_59) (fun r8 st7 H locs h hP hS => ?_)
      refine lv_pop C.1 C.2.1 dX11_plan_62 rfl ?_
      refine lv_aload_n C.1 C.2.1 dX11_plan_63 rfl (lv_at hl 2 rfl) ?_
      refine gf10_0 C hP hb (m10 hb hL) q1438 dX11_plan_64 ?_
      refine gf9_7 C hP (k10_2 hb) (m10_2 hb hL) q1336 dX11_plan_67 ?_
      refine lv_aload_n C.1 C.2.1 dX11_plan_70 rfl (lv_at hl 2 rfl) ?_
      refine gf10_0 C hP hb (m10 hb hL) q1438 dX11_plan_71 ?_
      refine gf9_2 C hP (k10_2 hb) (m10_2 hb hL) q1323 dX11_plan_74 ?_
      refine lv_iload_n C.1 C.2.1 dX11_plan_77 rfl (lv_at hl 0 rfl) ?_
      obtain ⟨hi, h⟩ := h
      refine z_iast C hP hS (k9_4 (k10_2 hb)) (l9_4 (k10_2 hb)) (m9_4 (k10_2 hb) hL) hi dX11_plan_78 (fun H locs hP hS => ?_)
      obtain ⟨st9, est9⟩ : ∃ z, z = uI st7 ((b + 2) + 4) (gI st7 (b + 2) 2 : Int32).toNatClampNeg x4 := ⟨_, rfl⟩
      rw [← est9] at hP; have h := h st9 est9
      refine lv_iload_n C.1 C.2.1 dX11_plan_79 rfl (lv_at hl 1 rfl) ?_
      refine lv_if_ne C.1 C.2.1 (tgt := 96) dX11_plan_80 (by decide) (fun hc => ?_) (fun hc => ?_)
      · have h := h.1 hc
        exact tX11_plan_L96 hL C hr hlk hb _ _ _ h (lv_sub hl [2] rfl) hP hS
      · have h := h.2 hc
        refine lv_aload_n C.1 C.2.1 dX11_plan_83 rfl (lv_at hl 2 rfl) ?_
        refine gf10_0 C hP hb (m10 hb hL) q1438 dX11_plan_84 ?_
        refine lv_dup C.1 C.2.1 dX11_plan_87 rfl ?_
        refine gf9_2 C hP (k10_2 hb) (m10_2 hb hL) q1323 dX11_plan_88 ?_
        refine lv_iconst C.1 C.2.1 (v := 1) dX11_plan_91 rfl ?_
        refine lv_iadd C.1 C.2.1 dX11_plan_92  ?_
        refine pf9_2 C hP hS (k10_2 hb) (m10_2 hb hL) q1323 dX11_plan_93 (fun H locs hP hS => ?_)
        obtain ⟨st10, est10⟩ : ∃ z, z = uI st9 (b + 2) 2 ((gI st9 (b + 2) 2) + 1) := ⟨_, rfl⟩
        rw [← est10] at hP; have h := h st10 est10
        exact tX11_plan_L96 hL C hr hlk hb _ _ _ h (lv_sub hl [2] rfl) hP hS
    · have h := h.2 hc
      refine lv_iconst C.1 C.2.1 (v := 0) dX11_plan_48 rfl ?_
      exact z_ri C hr hlk (bz_n bz0) hP hS ⟨bz0, h⟩ dX11_plan_49
  · have h := h.2 hc
    refine lv_iconst C.1 C.2.1 (v := 0) dX11_plan_30 rfl ?_
    exact z_ri C hr hlk (bz_n bz0) hP hS ⟨bz0, h⟩ dX11_plan_31
set_option maxHeartbeats 4000000 in
set_option maxRecDepth 100000 in
theorem tX11_plan {l : Launch} {E : En0} {L : List Nat} (hE : EK E L) (hL : Cov 54 77 L) {b : Nat} {st : St} {Q : Int32 → St → Prop} (hb : kd b = 10) (h : wX11_plan b st Q) : Mz l yX11_plan cX11_plan 3 (some .boolean) rmX11_plan E L [.ref (E.2.1 b)] st (zI E L (fun r u => bz r ∧ Q r u)) := by
  refine Mz.of hE (by decide) (Nat.le_of_ble_eq_true rfl) ?_
  intro p e s m below meth c ls C hr hlk _ hl hP
  replace C : Cx E L "PlankBridgeModel$Reader" cX11_plan 3 p s m _ c := C
  have hS : va_S (fA E L s.heap.size) s.heap s.heap [] := va_S.rf
  replace hl : lv_has ls 3 [(0, .ref (E.2.1 b))] := hl
  unfold wX11_plan at h
  refine lv_aload_n C.1 C.2.1 dX11_plan_0 rfl (lv_at hl 0 rfl) ?_
  refine z_kv hS (z_runV (As := []) (rest := []) C hP hS (m10 hb hL) (e10 hb) rfl (tX11_next C.2.2.2.2.2.2.1 (hL.mo (Nat.le_of_ble_eq_true rfl) (Nat.le_of_ble_eq_true rfl)) hb h) q1492 q1494 q41 q124 q1495 hdX11_next ⟨Nat.le_of_ble_eq_true rfl, Nat.le_of_ble_eq_true rfl⟩ ⟨Nat.zero_le _, Nat.zero_le _⟩ rfl hl.1 rfl (lv_room (Nat.le_of_ble_eq_true rfl)) dX11_plan_1) (fun st1 H locs h hP hS => ?_)
  refine lv_aload_n C.1 C.2.1 dX11_plan_4 rfl (lv_at hl 0 rfl) ?_
  refine gf10_0 C hP hb (m10 hb hL) q1438 dX11_plan_5 ?_
  refine gf9_2 C hP (k10_2 hb) (m10_2 hb hL) q1323 dX11_plan_8 ?_
  refine lv_bipush C.1 C.2.1 (v := 6) dX11_plan_11 rfl ?_
  refine lv_icmp_ne C.1 C.2.1 (tgt := 20) dX11_plan_13 (by decide) (fun hc => ?_) (fun hc => ?_)
  · have h := h.1 hc
    refine lv_iconst C.1 C.2.1 (v := 0) dX11_plan_20 rfl ?_
    exact tX11_plan_L21 hL C hr hlk hb _ _ _ h hl hP hS
  · have h := h.2 hc
    refine lv_iconst C.1 C.2.1 (v := 1) dX11_plan_16 rfl ?_
    refine lv_goto C.1 C.2.1 (tgt := 21) dX11_plan_17 (by decide) ?_
    exact tX11_plan_L21 hL C hr hlk hb _ _ _ h hl hP hS
def rmX11_book : Room := { frames := 23, cells := 0, slots := 0, locals := 512 }
def wX11_book_L73 (b : Nat)   (st : St) (Q : Int32 → St → Prop) : Prop :=
  Q 1 st
def wX11_book_L40 (b : Nat)  (R40 : St → Prop)  (st : St) (Q : Int32 → St → Prop) : Prop :=
  ((¬ (gI st b 6) = 204 → (((gI st b 6) = 0 → wX11_book_L73 b st Q) ∧ (¬ (gI st b 6) = 0 → (wX11_wrong b st (fun r8 st7 => ((r8 = 0 → Q 0 st7) ∧ (¬ r8 = 0 → wX11_book_L73 b st7 Q))))))) ∧ ((gI st b 6) = 204 → (wX11_plan b st (fun r10 st9 => ((¬ r10 = 0 → R40 st9) ∧ (r10 = 0 → Q 0 st9))))))
def wX11_book_L4 (b : Nat)  (R4 : St → Prop)  (st : St) (Q : Int32 → St → Prop) : Prop :=
  ((¬ (gI st b 6) = 200 → (∀ st2, st2 = uI st b 3 (gI st b 2) → (wX11_bridge b st2 (fun r4 st3 => ((¬ r4 = 0 → (∃ n, lp (fun R s => wX11_book_L40 b R s Q) n st3)) ∧ (r4 = 0 → Q 0 st3)))))) ∧ ((gI st b 6) = 200 → (wX11_walker b st (fun r6 st5 => ((¬ r6 = 0 → R4 st5) ∧ (r6 = 0 → Q 0 st5))))))
def wX11_book (b : Nat) (st : St) (Q : Int32 → St → Prop) : Prop :=
  (wX11_next b st (fun st1 => (∃ n, lp (fun R s => wX11_book_L4 b R s Q) n st1)))
theorem hdX11_book : yX11_book.cls = "PlankBridgeModel$Reader" ∧ yX11_book.cls ≠ "java/lang/invoke/MethodHandle" ∧ yX11_book.cls ≠ "java/lang/invoke/VarHandle" ∧ (parseMethodDescriptor yX11_book.desc).map (fun d => d.parameters.length) = some 0 := by decide +kernel
set_option maxHeartbeats 4000000 in
set_option maxRecDepth 100000 in
theorem tX11_book_L73 {l : Launch} {p : Program} {e : Env} {s : State} {m : MethodId} {args : Array Value} {below : List Frame} {meth : Method} {c : Code} {E : En0} {L : List Nat} (hL : Cov 54 77 L) (C : Cx E L "PlankBridgeModel$Reader" cX11_book 1 p s m args c) (hr : meth.sig.returnType = (some .boolean)) (hlk : meth.locks = false) {b : Nat} {Q : Int32 → St → Prop} (hb : kd b = 10)   {st : St} (H : Heap) (locs : List Loc) (ls : Array Slot) (h : wX11_book_L73 b st Q) (hl : lv_has ls 1 []) (hP : va_P E.1 vwCl (wd E L st) H) (hS : va_S (fA E L s.heap.size) s.heap H locs) : W p l e rmX11_book s m args below meth c H locs 0 0 (MQ below (zI E L (fun r u => bz r ∧ Q r u) (fA E L s.heap.size)) args s rmX11_book.cells rmX11_book.slots (fA E L s.heap.size)) (F0 m 73 ls []) := by
  unfold wX11_book_L73 at h
  refine lv_iconst C.1 C.2.1 (v := 1) dX11_book_73 rfl ?_
  refine lv_goto C.1 C.2.1 (tgt := 78) dX11_book_74 (by decide) ?_
  exact z_ri C hr hlk (bz_n bz1) hP hS ⟨bz1, h⟩ dX11_book_78
set_option maxHeartbeats 4000000 in
set_option maxRecDepth 100000 in
theorem tX11_book_L40 {l : Launch} {p : Program} {e : Env} {s : State} {m : MethodId} {args : Array Value} {below : List Frame} {meth : Method} {c : Code} {E : En0} {L : List Nat} (hL : Cov 54 77 L) (C : Cx E L "PlankBridgeModel$Reader" cX11_book 1 p s m args c) (hr : meth.sig.returnType = (some .boolean)) (hlk : meth.locks = false) {b : Nat} {Q : Int32 → St → Prop} (hb : kd b = 10) : ∀ (n : Nat)  (st : St) (H : Heap) (locs : List Loc) (ls : Array Slot), lp (fun R s => wX11_book_L40 b R s Q) n st → lv_has ls 1 [(0, .ref (E.2.1 b))] → va_P E.1 vwCl (wd E L st) H → va_S (fA E L s.heap.size) s.heap H locs → W p l e rmX11_book s m args below meth c H locs 0 0 (MQ below (zI E L (fun r u => bz r ∧ Q r u) (fA E L s.heap.size)) args s rmX11_book.cells rmX11_book.slots (fA E L s.heap.size)) (F0 m 40 ls []) := by
  intro n
  induction n with
  | zero => exact fun _ _ _ _ h _ _ _ => False.elim ‹_›
  | succ n ih =>
    intro  st  H locs ls h hl hP hS
    have hR40 := ih
    replace h : wX11_book_L40 b (lp (fun R s => wX11_book_L40 b R s Q) n) st Q := h
    unfold wX11_book_L40 at h
    refine lv_aload_n C.1 C.2.1 dX11_book_40 rfl (lv_at hl 0 rfl) ?_
    refine gf10_6 C hP hb (m10 hb hL) q1445 dX11_book_41 ?_
    refine lv_sipush C.1 C.2.1 (v := 204) dX11_book_44 rfl ?_
    refine lv_icmp_ne C.1 C.2.1 (tgt := 59) dX11_book_47 (by decide) (fun hc => ?_) (fun hc => ?_)
    · have h := h.1 hc
      refine lv_aload_n C.1 C.2.1 dX11_book_59 rfl (lv_at hl 0 rfl) ?_
      refine gf10_6 C hP hb (m10 hb hL) q1445 dX11_book_60 ?_
      refine lv_if_eq C.1 C.2.1 (tgt := 73) dX11_book_63 (by decide) (fun hc => ?_) (fun hc => ?_)
      · have h := h.1 hc
        exact tX11_book_L73 hL C hr hlk hb _ _ _ h (lv_sub hl [] rfl) hP hS
      · have h := h.2 hc
        refine lv_aload_n C.1 C.2.1 dX11_book_66 rfl (lv_at hl 0 rfl) ?_
        refine z_ki hS (z_runV (As := []) (rest := []) C hP hS (m10 hb hL) (e10 hb) rfl (tX11_wrong C.2.2.2.2.2.2.1 (hL.mo (Nat.le_of_ble_eq_true rfl) (Nat.le_of_ble_eq_true rfl)) hb h) q1576 q1578 q49 q124 q1579 hdX11_wrong ⟨Nat.le_of_ble_eq_true rfl, Nat.le_of_ble_eq_true rfl⟩ ⟨Nat.zero_le _, Nat.zero_le _⟩ rfl hl.1 rfl (lv_room (Nat.le_of_ble_eq_true rfl)) dX11_book_67) (fun r8 st7 H locs h hP hS => ?_)
        obtain ⟨hr8, h⟩ := h
        refine lv_if_eq C.1 C.2.1 (tgt := 77) dX11_book_70 (by decide) (fun hc => ?_) (fun hc => ?_)
        · have h := h.1 hc
          refine lv_iconst C.1 C.2.1 (v := 0) dX11_book_77 rfl ?_
          exact z_ri C hr hlk (bz_n bz0) hP hS ⟨bz0, h⟩ dX11_book_78
        · have h := h.2 hc
          exact tX11_book_L73 hL C hr hlk hb _ _ _ h (lv_sub hl [] rfl) hP hS
    · have h := h.2 hc
      refine lv_aload_n C.1 C.2.1 dX11_book_50 rfl (lv_at hl 0 rfl) ?_
      refine z_ki hS (z_runV (As := []) (rest := []) C hP hS (m10 hb hL) (e10 hb) rfl (tX11_plan C.2.2.2.2.2.2.1 (hL.mo (Nat.le_of_ble_eq_true rfl) (Nat.le_of_ble_eq_true rfl)) hb h) q1601 q1603 q55 q124 q1604 hdX11_plan ⟨Nat.le_of_ble_eq_true rfl, Nat.le_of_ble_eq_true rfl⟩ ⟨Nat.zero_le _, Nat.zero_le _⟩ rfl hl.1 rfl (lv_room (Nat.le_of_ble_eq_true rfl)) dX11_book_51) (fun r10 st9 H locs h hP hS => ?_)
      obtain ⟨hr10, h⟩ := h
      refine lv_if_ne C.1 C.2.1 (tgt := 40) dX11_book_54 (by decide) (fun hc => ?_) (fun hc => ?_)
      · have h := h.1 hc
        exact hR40 st9 _ _ _ h hl hP hS
      · have h := h.2 hc
        refine lv_iconst C.1 C.2.1 (v := 0) dX11_book_57 rfl ?_
        exact z_ri C hr hlk (bz_n bz0) hP hS ⟨bz0, h⟩ dX11_book_58
set_option maxHeartbeats 4000000 in
set_option maxRecDepth 100000 in
theorem tX11_book_L4 {l : Launch} {p : Program} {e : Env} {s : State} {m : MethodId} {args : Array Value} {below : List Frame} {meth : Method} {c : Code} {E : En0} {L : List Nat} (hL : Cov 54 77 L) (C : Cx E L "PlankBridgeModel$Reader" cX11_book 1 p s m args c) (hr : meth.sig.returnType = (some .boolean)) (hlk : meth.locks = false) {b : Nat} {Q : Int32 → St → Prop} (hb : kd b = 10) : ∀ (n : Nat)  (st : St) (H : Heap) (locs : List Loc) (ls : Array Slot), lp (fun R s => wX11_book_L4 b R s Q) n st → lv_has ls 1 [(0, .ref (E.2.1 b))] → va_P E.1 vwCl (wd E L st) H → va_S (fA E L s.heap.size) s.heap H locs → W p l e rmX11_book s m args below meth c H locs 0 0 (MQ below (zI E L (fun r u => bz r ∧ Q r u) (fA E L s.heap.size)) args s rmX11_book.cells rmX11_book.slots (fA E L s.heap.size)) (F0 m 4 ls []) := by
  intro n
  induction n with
  | zero => exact fun _ _ _ _ h _ _ _ => False.elim ‹_›
  | succ n ih =>
    intro  st  H locs ls h hl hP hS
    have hR4 := ih
    replace h : wX11_book_L4 b (lp (fun R s => wX11_book_L4 b R s Q) n) st Q := h
    unfold wX11_book_L4 at h
    refine lv_aload_n C.1 C.2.1 dX11_book_4 rfl (lv_at hl 0 rfl) ?_
    refine gf10_6 C hP hb (m10 hb hL) q1445 dX11_book_5 ?_
    refine lv_sipush C.1 C.2.1 (v := 200) dX11_book_8 rfl ?_
    refine lv_icmp_ne C.1 C.2.1 (tgt := 23) dX11_book_11 (by decide) (fun hc => ?_) (fun hc => ?_)
    · have h := h.1 hc
      refine lv_aload_n C.1 C.2.1 dX11_book_23 rfl (lv_at hl 0 rfl) ?_
      refine lv_aload_n C.1 C.2.1 dX11_book_24 rfl (lv_at hl 0 rfl) ?_
      refine gf10_2 C hP hb (m10 hb hL) q1441 dX11_book_25 ?_
      refine pf10_3 C hP hS hb (m10 hb hL) q1442 dX11_book_28 (fun H locs hP hS => ?_)
      obtain ⟨st2, est2⟩ : ∃ z, z = uI st b 3 (gI st b 2) := ⟨_, rfl⟩
      rw [← est2] at hP; have h := h st2 est2
      refine lv_aload_n C.1 C.2.1 dX11_book_31 rfl (lv_at hl 0 rfl) ?_
      refine z_ki hS (z_runV (As := []) (rest := []) C hP hS (m10 hb hL) (e10 hb) rfl (tX11_bridge C.2.2.2.2.2.2.1 (hL.mo (Nat.le_of_ble_eq_true rfl) (Nat.le_of_ble_eq_true rfl)) hb h) q1597 q1599 q54 q124 q1600 hdX11_bridge ⟨Nat.le_of_ble_eq_true rfl, Nat.le_of_ble_eq_true rfl⟩ ⟨Nat.zero_le _, Nat.zero_le _⟩ rfl hl.1 rfl (lv_room (Nat.le_of_ble_eq_true rfl)) dX11_book_32) (fun r4 st3 H locs h hP hS => ?_)
      obtain ⟨hr4, h⟩ := h
      refine lv_if_ne C.1 C.2.1 (tgt := 40) dX11_book_35 (by decide) (fun hc => ?_) (fun hc => ?_)
      · have h := h.1 hc
        obtain ⟨n, h⟩ := h
        exact tX11_book_L40 hL C hr hlk hb n st3 _ _ _ h hl hP hS
      · have h := h.2 hc
        refine lv_iconst C.1 C.2.1 (v := 0) dX11_book_38 rfl ?_
        exact z_ri C hr hlk (bz_n bz0) hP hS ⟨bz0, h⟩ dX11_book_39
    · have h := h.2 hc
      refine lv_aload_n C.1 C.2.1 dX11_book_14 rfl (lv_at hl 0 rfl) ?_
      refine z_ki hS (z_runV (As := []) (rest := []) C hP hS (m10 hb hL) (e10 hb) rfl (tX11_walker C.2.2.2.2.2.2.1 (hL.mo (Nat.le_of_ble_eq_true rfl) (Nat.le_of_ble_eq_true rfl)) hb h) q1568 q1570 q47 q124 q1571 hdX11_walker ⟨Nat.le_of_ble_eq_true rfl, Nat.le_of_ble_eq_true rfl⟩ ⟨Nat.zero_le _, Nat.zero_le _⟩ rfl hl.1 rfl (lv_room (Nat.le_of_ble_eq_true rfl)) dX11_book_15) (fun r6 st5 H locs h hP hS => ?_)
      obtain ⟨hr6, h⟩ := h
      refine lv_if_ne C.1 C.2.1 (tgt := 4) dX11_book_18 (by decide) (fun hc => ?_) (fun hc => ?_)
      · have h := h.1 hc
        exact hR4 st5 _ _ _ h hl hP hS
      · have h := h.2 hc
        refine lv_iconst C.1 C.2.1 (v := 0) dX11_book_21 rfl ?_
        exact z_ri C hr hlk (bz_n bz0) hP hS ⟨bz0, h⟩ dX11_book_22
set_option maxHeartbeats 4000000 in
set_option maxRecDepth 100000 in
theorem tX11_book {l : Launch} {E : En0} {L : List Nat} (hE : EK E L) (hL : Cov 54 77 L) {b : Nat} {st : St} {Q : Int32 → St → Prop} (hb : kd b = 10) (h : wX11_book b st Q) : Mz l yX11_book cX11_book 1 (some .boolean) rmX11_book E L [.ref (E.2.1 b)] st (zI E L (fun r u => bz r ∧ Q r u)) := by
  refine Mz.of hE (by decide) (Nat.le_of_ble_eq_true rfl) ?_
  intro p e s m below meth c ls C hr hlk _ hl hP
  replace C : Cx E L "PlankBridgeModel$Reader" cX11_book 1 p s m _ c := C
  have hS : va_S (fA E L s.heap.size) s.heap s.heap [] := va_S.rf
  replace hl : lv_has ls 1 [(0, .ref (E.2.1 b))] := hl
  unfold wX11_book at h
  refine lv_aload_n C.1 C.2.1 dX11_book_0 rfl (lv_at hl 0 rfl) ?_
  refine z_kv hS (z_runV (As := []) (rest := []) C hP hS (m10 hb hL) (e10 hb) rfl (tX11_next C.2.2.2.2.2.2.1 (hL.mo (Nat.le_of_ble_eq_true rfl) (Nat.le_of_ble_eq_true rfl)) hb h) q1492 q1494 q41 q124 q1495 hdX11_next ⟨Nat.le_of_ble_eq_true rfl, Nat.le_of_ble_eq_true rfl⟩ ⟨Nat.zero_le _, Nat.zero_le _⟩ rfl hl.1 rfl (lv_room (Nat.le_of_ble_eq_true rfl)) dX11_book_1) (fun st1 H locs h hP hS => ?_)
  obtain ⟨n, h⟩ := h
  exact tX11_book_L4 hL C hr hlk hb n st1 _ _ _ h hl hP hS

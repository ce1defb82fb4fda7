def rmX1_clear : Room := { frames := 0, cells := 0, slots := 0, locals := 0 }
def wX1_clear (b : Nat) (st : St) (Q : St → Prop) : Prop :=
  (∀ st1, st1 = uI st b 4 0 → (∀ st2, st2 = uI st1 b 6 0 → (∀ st3, st3 = uI st2 b 9 0 → (∀ st4, st4 = uI st3 b 15 0 → Q st4))))
theorem hdX1_clear : yX1_clear.cls = "PlankBridge$Book" ∧ yX1_clear.cls ≠ "java/lang/invoke/MethodHandle" ∧ yX1_clear.cls ≠ "java/lang/invoke/VarHandle" ∧ (parseMethodDescriptor yX1_clear.desc).map (fun d => d.parameters.length) = some 0 := by decide +kernel
set_option maxHeartbeats 4000000 in
set_option maxRecDepth 100000 in
theorem tX1_clear {l : Launch} {E : En0} {L : List Nat} (hE : EK E L) (hL : Cov 0 54 L) {b : Nat} {st : St} {Q : St → Prop} (hb : kd b = 1) (h : wX1_clear b st Q) : Mz l yX1_clear cX1_clear 1 none rmX1_clear E L [.ref (E.2.1 b)] st (zV E L Q) := by
  refine Mz.of hE (by decide) (Nat.le_of_ble_eq_true rfl) ?_
  intro p e s m below meth c ls C hr hlk _ hl hP
  replace C : Cx E L "PlankBridge$Book" cX1_clear 1 p s m _ c := C
  have hS : va_S (fA E L s.heap.size) s.heap s.heap [] := va_S.rf
  replace hl : lv_has ls 1 [(0, .ref (E.2.1 b))] := hl
  unfold wX1_clear at h
  refine lv_aload_n C.1 C.2.1 dX1_clear_0 rfl (lv_at hl 0 rfl) ?_
  refine lv_iconst C.1 C.2.1 (v := 0) dX1_clear_1 rfl ?_
  refine pf1_4 C hP hS hb (m1 hb hL) q197 dX1_clear_2 (fun H locs hP hS => ?_)
  obtain ⟨st1, est1⟩ : ∃ z, z = uI st b 4 0 := ⟨_, rfl⟩
  rw [← est1] at hP; have h := h st1 est1
  refine lv_aload_n C.1 C.2.1 dX1_clear_5 rfl (lv_at hl 0 rfl) ?_
  refine lv_iconst C.1 C.2.1 (v := 0) dX1_clear_6 rfl ?_
  refine pf1_6 C hP hS hb (m1 hb hL) q202 dX1_clear_7 (fun H locs hP hS => ?_)
  obtain ⟨st2, est2⟩ : ∃ z, z = uI st1 b 6 0 := ⟨_, rfl⟩
  rw [← est2] at hP; have h := h st2 est2
  refine lv_aload_n C.1 C.2.1 dX1_clear_10 rfl (lv_at hl 0 rfl) ?_
  refine lv_iconst C.1 C.2.1 (v := 0) dX1_clear_11 rfl ?_
  refine pf1_9 C hP hS hb (m1 hb hL) q207 dX1_clear_12 (fun H locs hP hS => ?_)
  obtain ⟨st3, est3⟩ : ∃ z, z = uI st2 b 9 0 := ⟨_, rfl⟩
  rw [← est3] at hP; have h := h st3 est3
  refine lv_aload_n C.1 C.2.1 dX1_clear_15 rfl (lv_at hl 0 rfl) ?_
  refine lv_iconst C.1 C.2.1 (v := 0) dX1_clear_16 rfl ?_
  refine pf1_15 C hP hS hb (m1 hb hL) q221 dX1_clear_17 (fun H locs hP hS => ?_)
  obtain ⟨st4, est4⟩ : ∃ z, z = uI st3 b 15 0 := ⟨_, rfl⟩
  rw [← est4] at hP; have h := h st4 est4
  exact z_rv C hr hlk hP hS h dX1_clear_20
def rmX1_addWalker : Room := { frames := 0, cells := 0, slots := 0, locals := 0 }
def wX1_addWalker (b : Nat) (p1 : Int64) (p2 : Int32) (p3 : Int32) (st : St) (Q : St → Prop) : Prop :=
  ((8 ≤ (gI st b 4) → Q st) ∧ (¬ 8 ≤ (gI st b 4) → (vp_in (gI st b 4) 8 ∧ ∀ st1, st1 = uJ st (b + 1) (gI st b 4 : Int32).toNatClampNeg p1 → (vp_in (gI st1 b 4) 8 ∧ ∀ st2, st2 = uI st1 (b + 2) (gI st1 b 4 : Int32).toNatClampNeg p2 → (vp_in (gI st2 b 4) 8 ∧ ∀ st3, st3 = uI st2 (b + 3) (gI st2 b 4 : Int32).toNatClampNeg p3 → (∀ st4, st4 = uI st3 b 4 ((gI st3 b 4) + 1) → Q st4))))))
theorem hdX1_addWalker : yX1_addWalker.cls = "PlankBridge$Book" ∧ yX1_addWalker.cls ≠ "java/lang/invoke/MethodHandle" ∧ yX1_addWalker.cls ≠ "java/lang/invoke/VarHandle" ∧ (parseMethodDescriptor yX1_addWalker.desc).map (fun d => d.parameters.length) = some 3 := by decide +kernel
set_option maxHeartbeats 4000000 in
set_option maxRecDepth 100000 in
theorem tX1_addWalker {l : Launch} {E : En0} {L : List Nat} (hE : EK E L) (hL : Cov 0 54 L) {b : Nat} {p1 : Int64} {p2 : Int32} {p3 : Int32} {st : St} {Q : St → Prop} (hb : kd b = 1) (h : wX1_addWalker b p1 p2 p3 st Q) : Mz l yX1_addWalker cX1_addWalker 5 none rmX1_addWalker E L [.ref (E.2.1 b), .long p1, .int p2, .int p3] st (zV E L Q) := by
  refine Mz.of hE (by decide) (Nat.le_of_ble_eq_true rfl) ?_
  intro p e s m below meth c ls C hr hlk _ hl hP
  replace C : Cx E L "PlankBridge$Book" cX1_addWalker 5 p s m _ c := C
  have hS : va_S (fA E L s.heap.size) s.heap s.heap [] := va_S.rf
  replace hl : lv_has ls 5 [(0, .ref (E.2.1 b)), (1, .long p1), (3, .int p2), (4, .int p3)] := hl
  unfold wX1_addWalker at h
  refine lv_aload_n C.1 C.2.1 dX1_addWalker_0 rfl (lv_at hl 0 rfl) ?_
  refine gf1_4 C hP hb (m1 hb hL) q197 dX1_addWalker_1 ?_
  refine lv_bipush C.1 C.2.1 (v := 8) dX1_addWalker_4 rfl ?_
  refine lv_icmp_ge C.1 C.2.1 (tgt := 50) dX1_addWalker_6 (by decide) (fun hc => ?_) (fun hc => ?_)
  · have h := h.1 hc
    exact z_rv C hr hlk hP hS h dX1_addWalker_50
  · have h := h.2 hc
    refine lv_aload_n C.1 C.2.1 dX1_addWalker_9 rfl (lv_at hl 0 rfl) ?_
    refine gf1_1 C hP hb (m1 hb hL) q192 dX1_addWalker_10 ?_
    refine lv_aload_n C.1 C.2.1 dX1_addWalker_13 rfl (lv_at hl 0 rfl) ?_
    refine gf1_4 C hP hb (m1 hb hL) q197 dX1_addWalker_14 ?_
    refine lv_lload_n C.1 C.2.1 dX1_addWalker_17 rfl (lv_at hl 1 rfl) ?_
    obtain ⟨hi, h⟩ := h
    refine z_last C hP hS (k1_1 hb) (l1_1 hb) (m1_1 hb hL) hi dX1_addWalker_18 (fun H locs hP hS => ?_)
    obtain ⟨st1, est1⟩ : ∃ z, z = uJ st (b + 1) (gI st b 4 : Int32).toNatClampNeg p1 := ⟨_, rfl⟩
    rw [← est1] at hP; have h := h st1 est1
    refine lv_aload_n C.1 C.2.1 dX1_addWalker_19 rfl (lv_at hl 0 rfl) ?_
    refine gf1_2 C hP hb (m1 hb hL) q193 dX1_addWalker_20 ?_
    refine lv_aload_n C.1 C.2.1 dX1_addWalker_23 rfl (lv_at hl 0 rfl) ?_
    refine gf1_4 C hP hb (m1 hb hL) q197 dX1_addWalker_24 ?_
    refine lv_iload_n C.1 C.2.1 dX1_addWalker_27 rfl (lv_at hl 2 rfl) ?_
    obtain ⟨hi, h⟩ := h
    refine z_iast C hP hS (k1_2 hb) (l1_2 hb) (m1_2 hb hL) hi dX1_addWalker_28 (fun H locs hP hS => ?_)
    obtain ⟨st2, est2⟩ : ∃ z, z = uI st1 (b + 2) (gI st1 b 4 : Int32).toNatClampNeg p2 := ⟨_, rfl⟩
    rw [← est2] at hP; have h := h st2 est2
    refine lv_aload_n C.1 C.2.1 dX1_addWalker_29 rfl (lv_at hl 0 rfl) ?_
    refine gf1_3 C hP hb (m1 hb hL) q195 dX1_addWalker_30 ?_
    refine lv_aload_n C.1 C.2.1 dX1_addWalker_33 rfl (lv_at hl 0 rfl) ?_
    refine gf1_4 C hP hb (m1 hb hL) q197 dX1_addWalker_34 ?_
    refine lv_iload C.1 C.2.1 dX1_addWalker_37 (lv_at hl 3 rfl) ?_
    obtain ⟨hi, h⟩ := h
    refine z_iast C hP hS (k1_3 hb) (l1_3 hb) (m1_3 hb hL) hi dX1_addWalker_39 (fun H locs hP hS => ?_)
    obtain ⟨st3, est3⟩ : ∃ z, z = uI st2 (b + 3) (gI st2 b 4 : Int32).toNatClampNeg p3 := ⟨_, rfl⟩
    rw [← est3] at hP; have h := h st3 est3
    refine lv_aload_n C.1 C.2.1 dX1_addWalker_40 rfl (lv_at hl 0 rfl) ?_
    refine lv_dup C.1 C.2.1 dX1_addWalker_41 rfl ?_
    refine gf1_4 C hP hb (m1 hb hL) q197 dX1_addWalker_42 ?_
    refine lv_iconst C.1 C.2.1 (v := 1) dX1_addWalker_45 rfl ?_
    refine lv_iadd C.1 C.2.1 dX1_addWalker_46  ?_
    refine pf1_4 C hP hS hb (m1 hb hL) q197 dX1_addWalker_47 (fun H locs hP hS => ?_)
    obtain ⟨st4, est4⟩ : ∃ z, z = uI st3 b 4 ((gI st3 b 4) + 1) := ⟨_, rfl⟩
    rw [← est4] at hP; have h := h st4 est4
    exact z_rv C hr hlk hP hS h dX1_addWalker_50
def rmX1_addPlank : Room := { frames := 0, cells := 0, slots := 0, locals := 0 }
def wX1_addPlank (b : Nat) (p1 : Int32) (st : St) (Q : St → Prop) : Prop :=
  ((12 ≤ (gI st b 6) → Q st) ∧ (¬ 12 ≤ (gI st b 6) → (vp_in (gI st b 6) 12 ∧ ∀ st1, st1 = uI st (b + 4) (gI st b 6 : Int32).toNatClampNeg p1 → (∀ st2, st2 = uI st1 b 6 ((gI st1 b 6) + 1) → Q st2))))
theorem hdX1_addPlank : yX1_addPlank.cls = "PlankBridge$Book" ∧ yX1_addPlank.cls ≠ "java/lang/invoke/MethodHandle" ∧ yX1_addPlank.cls ≠ "java/lang/invoke/VarHandle" ∧ (parseMethodDescriptor yX1_addPlank.desc).map (fun d => d.parameters.length) = some 1 := by decide +kernel
set_option maxHeartbeats 4000000 in
set_option maxRecDepth 100000 in
theorem tX1_addPlank {l : Launch} {E : En0} {L : List Nat} (hE : EK E L) (hL : Cov 0 54 L) {b : Nat} {p1 : Int32} {st : St} {Q : St → Prop} (hb : kd b = 1) (h : wX1_addPlank b p1 st Q) : Mz l yX1_addPlank cX1_addPlank 2 none rmX1_addPlank E L [.ref (E.2.1 b), .int p1] st (zV E L Q) := by
  refine Mz.of hE (by decide) (Nat.le_of_ble_eq_true rfl) ?_
  intro p e s m below meth c ls C hr hlk _ hl hP
  replace C : Cx E L "PlankBridge$Book" cX1_addPlank 2 p s m _ c := C
  have hS : va_S (fA E L s.heap.size) s.heap s.heap [] := va_S.rf
  replace hl : lv_has ls 2 [(0, .ref (E.2.1 b)), (1, .int p1)] := hl
  unfold wX1_addPlank at h
  refine lv_aload_n C.1 C.2.1 dX1_addPlank_0 rfl (lv_at hl 0 rfl) ?_
  refine gf1_6 C hP hb (m1 hb hL) q202 dX1_addPlank_1 ?_
  refine lv_bipush C.1 C.2.1 (v := 12) dX1_addPlank_4 rfl ?_
  refine lv_icmp_ge C.1 C.2.1 (tgt := 29) dX1_addPlank_6 (by decide) (fun hc => ?_) (fun hc => ?_)
  · have h := h.1 hc
    exact z_rv C hr hlk hP hS h dX1_addPlank_29
  · have h := h.2 hc
    refine lv_aload_n C.1 C.2.1 dX1_addPlank_9 rfl (lv_at hl 0 rfl) ?_
    refine gf1_5 C hP hb (m1 hb hL) q200 dX1_addPlank_10 ?_
    refine lv_aload_n C.1 C.2.1 dX1_addPlank_13 rfl (lv_at hl 0 rfl) ?_
    refine gf1_6 C hP hb (m1 hb hL) q202 dX1_addPlank_14 ?_
    refine lv_iload_n C.1 C.2.1 dX1_addPlank_17 rfl (lv_at hl 1 rfl) ?_
    obtain ⟨hi, h⟩ := h
    refine z_iast C hP hS (k1_4 hb) (l1_4 hb) (m1_4 hb hL) hi dX1_addPlank_18 (fun H locs hP hS => ?_)
    obtain ⟨st1, est1⟩ : ∃ z, z = uI st (b + 4) (gI st b 6 : Int32).toNatClampNeg p1 := ⟨_, rfl⟩
    rw [← est1] at hP; have h := h st1 est1
    refine lv_aload_n C.1 C.2.1 dX1_addPlank_19 rfl (lv_at hl 0 rfl) ?_
    refine lv_dup C.1 C.2.1 dX1_addPlank_20 rfl ?_
    refine gf1_6 C hP hb (m1 hb hL) q202 dX1_addPlank_21 ?_
    refine lv_iconst C.1 C.2.1 (v := 1) dX1_addPlank_24 rfl ?_
    refine lv_iadd C.1 C.2.1 dX1_addPlank_25  ?_
    refine pf1_6 C hP hS hb (m1 hb hL) q202 dX1_addPlank_26 (fun H locs hP hS => ?_)
    obtain ⟨st2, est2⟩ : ∃ z, z = uI st1 b 6 ((gI st1 b 6) + 1) := ⟨_, rfl⟩
    rw [← est2] at hP; have h := h st2 est2
    exact z_rv C hr hlk hP hS h dX1_addPlank_29
def rmX1_addPlan : Room := { frames := 0, cells := 0, slots := 0, locals := 0 }
def wX1_addPlan (b : Nat) (p1 : Int64) (p2 : Int32) (st : St) (Q : St → Prop) : Prop :=
  ((6 ≤ (gI st b 9) → Q st) ∧ (¬ 6 ≤ (gI st b 9) → (vp_in (gI st b 9) 6 ∧ ∀ st1, st1 = uJ st (b + 5) (gI st b 9 : Int32).toNatClampNeg p1 → (vp_in (gI st1 b 9) 6 ∧ ∀ st2, st2 = uI st1 (b + 6) (gI st1 b 9 : Int32).toNatClampNeg p2 → (∀ st3, st3 = uI st2 b 9 ((gI st2 b 9) + 1) → Q st3)))))
theorem hdX1_addPlan : yX1_addPlan.cls = "PlankBridge$Book" ∧ yX1_addPlan.cls ≠ "java/lang/invoke/MethodHandle" ∧ yX1_addPlan.cls ≠ "java/lang/invoke/VarHandle" ∧ (parseMethodDescriptor yX1_addPlan.desc).map (fun d => d.parameters.length) = some 2 := by decide +kernel
set_option maxHeartbeats 4000000 in
set_option maxRecDepth 100000 in
theorem tX1_addPlan {l : Launch} {E : En0} {L : List Nat} (hE : EK E L) (hL : Cov 0 54 L) {b : Nat} {p1 : Int64} {p2 : Int32} {st : St} {Q : St → Prop} (hb : kd b = 1) (h : wX1_addPlan b p1 p2 st Q) : Mz l yX1_addPlan cX1_addPlan 4 none rmX1_addPlan E L [.ref (E.2.1 b), .long p1, .int p2] st (zV E L Q) := by
  refine Mz.of hE (by decide) (Nat.le_of_ble_eq_true rfl) ?_
  intro p e s m below meth c ls C hr hlk _ hl hP
  replace C : Cx E L "PlankBridge$Book" cX1_addPlan 4 p s m _ c := C
  have hS : va_S (fA E L s.heap.size) s.heap s.heap [] := va_S.rf
  replace hl : lv_has ls 4 [(0, .ref (E.2.1 b)), (1, .long p1), (3, .int p2)] := hl
  unfold wX1_addPlan at h
  refine lv_aload_n C.1 C.2.1 dX1_addPlan_0 rfl (lv_at hl 0 rfl) ?_
  refine gf1_9 C hP hb (m1 hb hL) q207 dX1_addPlan_1 ?_
  refine lv_bipush C.1 C.2.1 (v := 6) dX1_addPlan_4 rfl ?_
  refine lv_icmp_ge C.1 C.2.1 (tgt := 39) dX1_addPlan_6 (by decide) (fun hc => ?_) (fun hc => ?_)
  · have h := h.1 hc
    exact z_rv C hr hlk hP hS h dX1_addPlan_39
  · have h := h.2 hc
    refine lv_aload_n C.1 C.2.1 dX1_addPlan_9 rfl (lv_at hl 0 rfl) ?_
    refine gf1_7 C hP hb (m1 hb hL) q205 dX1_addPlan_10 ?_
    refine lv_aload_n C.1 C.2.1 dX1_addPlan_13 rfl (lv_at hl 0 rfl) ?_
    refine gf1_9 C hP hb (m1 hb hL) q207 dX1_addPlan_14 ?_
    refine lv_lload_n C.1 C.2.1 dX1_addPlan_17 rfl (lv_at hl 1 rfl) ?_
    obtain ⟨hi, h⟩ := h
    refine z_last C hP hS (k1_5 hb) (l1_5 hb) (m1_5 hb hL) hi dX1_addPlan_18 (fun H locs hP hS => ?_)
    obtain ⟨st1, est1⟩ : ∃ z, z = uJ st (b + 5) (gI st b 9 : Int32).toNatClampNeg p1 := ⟨_, rfl⟩
    rw [← est1] at hP; have h := h st1 est1
    refine lv_aload_n C.1 C.2.1 dX1_addPlan_19 rfl (lv_at hl 0 rfl) ?_
    refine gf1_8 C hP hb (m1 hb hL) q206 dX1_addPlan_20 ?_
    refine lv_aload_n C.1 C.2.1 dX1_addPlan_23 rfl (lv_at hl 0 rfl) ?_
    refine gf1_9 C hP hb (m1 hb hL) q207 dX1_addPlan_24 ?_
    refine lv_iload_n C.1 C.2.1 dX1_addPlan_27 rfl (lv_at hl 2 rfl) ?_
    obtain ⟨hi, h⟩ := h
    refine z_iast C hP hS (k1_6 hb) (l1_6 hb) (m1_6 hb hL) hi dX1_addPlan_28 (fun H locs hP hS => ?_)
    obtain ⟨st2, est2⟩ : ∃ z, z = uI st1 (b + 6) (gI st1 b 9 : Int32).toNatClampNeg p2 := ⟨_, rfl⟩
    rw [← est2] at hP; have h := h st2 est2
    refine lv_aload_n C.1 C.2.1 dX1_addPlan_29 rfl (lv_at hl 0 rfl) ?_
    refine lv_dup C.1 C.2.1 dX1_addPlan_30 rfl ?_
    refine gf1_9 C hP hb (m1 hb hL) q207 dX1_addPlan_31 ?_
    refine lv_iconst C.1 C.2.1 (v := 1) dX1_addPlan_34 rfl ?_
    refine lv_iadd C.1 C.2.1 dX1_addPlan_35  ?_
    refine pf1_9 C hP hS hb (m1 hb hL) q207 dX1_addPlan_36 (fun H locs hP hS => ?_)
    obtain ⟨st3, est3⟩ : ∃ z, z = uI st2 b 9 ((gI st2 b 9) + 1) := ⟨_, rfl⟩
    rw [← est3] at hP; have h := h st3 est3
    exact z_rv C hr hlk hP hS h dX1_addPlan_39
def rmX1_addAct : Room := { frames := 0, cells := 0, slots := 0, locals := 0 }
def wX1_addAct (b : Nat) (p1 : Int32) (p2 : Int32) (st : St) (Q : Int32 → St → Prop) : Prop :=
  (((gI st b 15) < 60 → (vp_in (gI st b 15) 60 ∧ ∀ st1, st1 = uI st (b + 7) (gI st b 15 : Int32).toNatClampNeg p1 → (vp_in (gI st1 b 15) 60 ∧ ∀ st2, st2 = uI st1 (b + 8) (gI st1 b 15 : Int32).toNatClampNeg p2 → (vp_in (gI st2 b 15) 60 ∧ ∀ st3, st3 = uI st2 (b + 9) (gI st2 b 15 : Int32).toNatClampNeg (-1) → (vp_in (gI st3 b 15) 60 ∧ ∀ st4, st4 = uI st3 (b + 10) (gI st3 b 15 : Int32).toNatClampNeg (-1) → (vp_in (gI st4 b 15) 60 ∧ ∀ st5, st5 = uI st4 (b + 11) (gI st4 b 15 : Int32).toNatClampNeg (-1) → (∀ st6, st6 = uI st5 b 15 ((gI st5 b 15) + 1) → Q ((gI st6 b 15) - 1) st6))))))) ∧ (¬ (gI st b 15) < 60 → Q (-1) st))
theorem hdX1_addAct : yX1_addAct.cls = "PlankBridge$Book" ∧ yX1_addAct.cls ≠ "java/lang/invoke/MethodHandle" ∧ yX1_addAct.cls ≠ "java/lang/invoke/VarHandle" ∧ (parseMethodDescriptor yX1_addAct.desc).map (fun d => d.parameters.length) = some 2 := by decide +kernel
set_option maxHeartbeats 4000000 in
set_option maxRecDepth 100000 in
theorem tX1_addAct {l : Launch} {E : En0} {L : List Nat} (hE : EK E L) (hL : Cov 0 54 L) {b : Nat} {p1 : Int32} {p2 : Int32} {st : St} {Q : Int32 → St → Prop} (hb : kd b = 1) (h : wX1_addAct b p1 p2 st Q) : Mz l yX1_addAct cX1_addAct 3 (some .int) rmX1_addAct E L [.ref (E.2.1 b), .int p1, .int p2] st (zI E L Q) := by
  refine Mz.of hE (by decide) (Nat.le_of_ble_eq_true rfl) ?_
  intro p e s m below meth c ls C hr hlk _ hl hP
  replace C : Cx E L "PlankBridge$Book" cX1_addAct 3 p s m _ c := C
  have hS : va_S (fA E L s.heap.size) s.heap s.heap [] := va_S.rf
  replace hl : lv_has ls 3 [(0, .ref (E.2.1 b)), (1, .int p1), (2, .int p2)] := hl
  unfold wX1_addAct at h
  refine lv_aload_n C.1 C.2.1 dX1_addAct_0 rfl (lv_at hl 0 rfl) ?_
  refine gf1_15 C hP hb (m1 hb hL) q221 dX1_addAct_1 ?_
  refine lv_bipush C.1 C.2.1 (v := 60) dX1_addAct_4 rfl ?_
  refine lv_icmp_lt C.1 C.2.1 (tgt := 11) dX1_addAct_6 (by decide) (fun hc => ?_) (fun hc => ?_)
  · have h := h.1 hc
    refine lv_aload_n C.1 C.2.1 dX1_addAct_11 rfl (lv_at hl 0 rfl) ?_
    refine gf1_10 C hP hb (m1 hb hL) q210 dX1_addAct_12 ?_
    refine lv_aload_n C.1 C.2.1 dX1_addAct_15 rfl (lv_at hl 0 rfl) ?_
    refine gf1_15 C hP hb (m1 hb hL) q221 dX1_addAct_16 ?_
    refine lv_iload_n C.1 C.2.1 dX1_addAct_19 rfl (lv_at hl 1 rfl) ?_
    obtain ⟨hi, h⟩ := h
    refine z_iast C hP hS (k1_7 hb) (l1_7 hb) (m1_7 hb hL) hi dX1_addAct_20 (fun H locs hP hS => ?_)
    obtain ⟨st1, est1⟩ : ∃ z, z = uI st (b + 7) (gI st b 15 : Int32).toNatClampNeg p1 := ⟨_, rfl⟩
    rw [← est1] at hP; have h := h st1 est1
    refine lv_aload_n C.1 C.2.1 dX1_addAct_21 rfl (lv_at hl 0 rfl) ?_
    refine gf1_11 C hP hb (m1 hb hL) q212 dX1_addAct_22 ?_
    refine lv_aload_n C.1 C.2.1 dX1_addAct_25 rfl (lv_at hl 0 rfl) ?_
    refine gf1_15 C hP hb (m1 hb hL) q221 dX1_addAct_26 ?_
    refine lv_iload_n C.1 C.2.1 dX1_addAct_29 rfl (lv_at hl 2 rfl) ?_
    obtain ⟨hi, h⟩ := h
    refine z_iast C hP hS (k1_8 hb) (l1_8 hb) (m1_8 hb hL) hi dX1_addAct_30 (fun H locs hP hS => ?_)
    obtain ⟨st2, est2⟩ : ∃ z, z = uI st1 (b + 8) (gI st1 b 15 : Int32).toNatClampNeg p2 := ⟨_, rfl⟩
    rw [← est2] at hP; have h := h st2 est2
    refine lv_aload_n C.1 C.2.1 dX1_addAct_31 rfl (lv_at hl 0 rfl) ?_
    refine gf1_12 C hP hb (m1 hb hL) q213 dX1_addAct_32 ?_
    refine lv_aload_n C.1 C.2.1 dX1_addAct_35 rfl (lv_at hl 0 rfl) ?_
    refine gf1_15 C hP hb (m1 hb hL) q221 dX1_addAct_36 ?_
    refine lv_iconst C.1 C.2.1 (v := (-1)) dX1_addAct_39 rfl ?_
    obtain ⟨hi, h⟩ := h
    refine z_iast C hP hS (k1_9 hb) (l1_9 hb) (m1_9 hb hL) hi dX1_addAct_40 (fun H locs hP hS => ?_)
    obtain ⟨st3, est3⟩ : ∃ z, z = uI st2 (b + 9) (gI st2 b 15 : Int32).toNatClampNeg (-1) := ⟨_, rfl⟩
    rw [← est3] at hP; have h := h st3 est3
    refine lv_aload_n C.1 C.2.1 dX1_addAct_41 rfl (lv_at hl 0 rfl) ?_
    refine gf1_13 C hP hb (m1 hb hL) q215 dX1_addAct_42 ?_
    refine lv_aload_n C.1 C.2.1 dX1_addAct_45 rfl (lv_at hl 0 rfl) ?_
    refine gf1_15 C hP hb (m1 hb hL) q221 dX1_addAct_46 ?_
    refine lv_iconst C.1 C.2.1 (v := (-1)) dX1_addAct_49 rfl ?_
    obtain ⟨hi, h⟩ := h
    refine z_iast C hP hS (k1_10 hb) (l1_10 hb) (m1_10 hb hL) hi dX1_addAct_50 (fun H locs hP hS => ?_)
    obtain ⟨st4, est4⟩ : ∃ z, z = uI st3 (b + 10) (gI st3 b 15 : Int32).toNatClampNeg (-1) := ⟨_, rfl⟩
    rw [← est4] at hP; have h := h st4 est4
    refine lv_aload_n C.1 C.2.1 dX1_addAct_51 rfl (lv_at hl 0 rfl) ?_
    refine gf1_14 C hP hb (m1 hb hL) q218 dX1_addAct_52 ?_
    refine lv_aload_n C.1 C.2.1 dX1_addAct_55 rfl (lv_at hl 0 rfl) ?_
    refine gf1_15 C hP hb (m1 hb hL) q221 dX1_addAct_56 ?_
    refine lv_iconst C.1 C.2.1 (v := (-1)) dX1_addAct_59 rfl ?_
    obtain ⟨hi, h⟩ := h
    refine z_iast C hP hS (k1_11 hb) (l1_11 hb) (m1_11 hb hL) hi dX1_addAct_60 (fun H locs hP hS => ?_)
    obtain ⟨st5, est5⟩ : ∃ z, z = uI st4 (b + 11) (gI st4 b 15 : Int32).toNatClampNeg (-1) := ⟨_, rfl⟩
    rw [← est5] at hP; have h := h st5 est5
    refine lv_aload_n C.1 C.2.1 dX1_addAct_61 rfl (lv_at hl 0 rfl) ?_
    refine lv_dup C.1 C.2.1 dX1_addAct_62 rfl ?_
    refine gf1_15 C hP hb (m1 hb hL) q221 dX1_addAct_63 ?_
    refine lv_iconst C.1 C.2.1 (v := 1) dX1_addAct_66 rfl ?_
    refine lv_iadd C.1 C.2.1 dX1_addAct_67  ?_
    refine pf1_15 C hP hS hb (m1 hb hL) q221 dX1_addAct_68 (fun H locs hP hS => ?_)
    obtain ⟨st6, est6⟩ : ∃ z, z = uI st5 b 15 ((gI st5 b 15) + 1) := ⟨_, rfl⟩
    rw [← est6] at hP; have h := h st6 est6
    refine lv_aload_n C.1 C.2.1 dX1_addAct_71 rfl (lv_at hl 0 rfl) ?_
    refine gf1_15 C hP hb (m1 hb hL) q221 dX1_addAct_72 ?_
    refine lv_iconst C.1 C.2.1 (v := 1) dX1_addAct_75 rfl ?_
    refine lv_isub C.1 C.2.1 dX1_addAct_76  ?_
    exact z_ri C hr hlk rfl hP hS h dX1_addAct_77
  · have h := h.2 hc
    refine lv_iconst C.1 C.2.1 (v := (-1)) dX1_addAct_9 rfl ?_
    exact z_ri C hr hlk rfl hP hS h dX1_addAct_10
def rmX1_firstSince : Room := { frames := 0, cells := 0, slots := 0, locals := 0 }
def wX1_firstSince (b : Nat) (p1 : Int32) (st : St) (Q : Int32 → St → Prop) : Prop :=
  (((gI st b 15) ≤ p1 → Q (-1) st) ∧ (¬ (gI st b 15) ≤ p1 → Q p1 st))
theorem hdX1_firstSince : yX1_firstSince.cls = "PlankBridge$Book" ∧ yX1_firstSince.cls ≠ "java/lang/invoke/MethodHandle" ∧ yX1_firstSince.cls ≠ "java/lang/invoke/VarHandle" ∧ (parseMethodDescriptor yX1_firstSince.desc).map (fun d => d.parameters.length) = some 1 := by decide +kernel
set_option maxHeartbeats 4000000 in
set_option maxRecDepth 100000 in
theorem tX1_firstSince {l : Launch} {E : En0} {L : List Nat} (hE : EK E L) (hL : Cov 0 54 L) {b : Nat} {p1 : Int32} {st : St} {Q : Int32 → St → Prop} (hb : kd b = 1) (h : wX1_firstSince b p1 st Q) : Mz l yX1_firstSince cX1_firstSince 2 (some .int) rmX1_firstSince E L [.ref (E.2.1 b), .int p1] st (zI E L Q) := by
  refine Mz.of hE (by decide) (Nat.le_of_ble_eq_true rfl) ?_
  intro p e s m below meth c ls C hr hlk _ hl hP
  replace C : Cx E L "PlankBridge$Book" cX1_firstSince 2 p s m _ c := C
  have hS : va_S (fA E L s.heap.size) s.heap s.heap [] := va_S.rf
  replace hl : lv_has ls 2 [(0, .ref (E.2.1 b)), (1, .int p1)] := hl
  unfold wX1_firstSince at h
  refine lv_aload_n C.1 C.2.1 dX1_firstSince_0 rfl (lv_at hl 0 rfl) ?_
  refine gf1_15 C hP hb (m1 hb hL) q221 dX1_firstSince_1 ?_
  refine lv_iload_n C.1 C.2.1 dX1_firstSince_4 rfl (lv_at hl 1 rfl) ?_
  refine lv_icmp_le C.1 C.2.1 (tgt := 12) dX1_firstSince_5 (by decide) (fun hc => ?_) (fun hc => ?_)
  · have h := h.1 hc
    refine lv_iconst C.1 C.2.1 (v := (-1)) dX1_firstSince_12 rfl ?_
    exact z_ri C hr hlk rfl hP hS h dX1_firstSince_13
  · have h := h.2 hc
    refine lv_iload_n C.1 C.2.1 dX1_firstSince_8 rfl (lv_at hl 1 rfl) ?_
    refine lv_goto C.1 C.2.1 (tgt := 13) dX1_firstSince_9 (by decide) ?_
    exact z_ri C hr hlk rfl hP hS h dX1_firstSince_13
def rmX1_hasAct : Room := { frames := 0, cells := 0, slots := 0, locals := 0 }
def wX1_hasAct (b : Nat) (p1 : Int32) (st : St) (Q : Int32 → St → Prop) : Prop :=
  ((p1 < 0 → Q 0 st) ∧ (¬ p1 < 0 → (((gI st b 15) ≤ p1 → Q 0 st) ∧ (¬ (gI st b 15) ≤ p1 → Q 1 st))))
theorem hdX1_hasAct : yX1_hasAct.cls = "PlankBridge$Book" ∧ yX1_hasAct.cls ≠ "java/lang/invoke/MethodHandle" ∧ yX1_hasAct.cls ≠ "java/lang/invoke/VarHandle" ∧ (parseMethodDescriptor yX1_hasAct.desc).map (fun d => d.parameters.length) = some 1 := by decide +kernel
set_option maxHeartbeats 4000000 in
set_option maxRecDepth 100000 in
theorem tX1_hasAct {l : Launch} {E : En0} {L : List Nat} (hE : EK E L) (hL : Cov 0 54 L) {b : Nat} {p1 : Int32} {st : St} {Q : Int32 → St → Prop} (hb : kd b = 1) (h : wX1_hasAct b p1 st Q) : Mz l yX1_hasAct cX1_hasAct 2 (some .boolean) rmX1_hasAct E L [.ref (E.2.1 b), .int p1] st (zI E L (fun r u => bz r ∧ Q r u)) := by
  refine Mz.of hE (by decide) (Nat.le_of_ble_eq_true rfl) ?_
  intro p e s m below meth c ls C hr hlk _ hl hP
  replace C : Cx E L "PlankBridge$Book" cX1_hasAct 2 p s m _ c := C
  have hS : va_S (fA E L s.heap.size) s.heap s.heap [] := va_S.rf
  replace hl : lv_has ls 2 [(0, .ref (E.2.1 b)), (1, .int p1)] := hl
  unfold wX1_hasAct at h
  refine lv_iload_n C.1 C.2.1 dX1_hasAct_0 rfl (lv_at hl 1 rfl) ?_
  refine lv_if_lt C.1 C.2.1 (tgt := 16) dX1_hasAct_1 (by decide) (fun hc => ?_) (fun hc => ?_)
  · have h := h.1 hc
    refine lv_iconst C.1 C.2.1 (v := 0) dX1_hasAct_16 rfl ?_
    exact z_ri C hr hlk (bz_n bz0) hP hS ⟨bz0, h⟩ dX1_hasAct_17
  · have h := h.2 hc
    refine lv_iload_n C.1 C.2.1 dX1_hasAct_4 rfl (lv_at hl 1 rfl) ?_
    refine lv_aload_n C.1 C.2.1 dX1_hasAct_5 rfl (lv_at hl 0 rfl) ?_
    refine gf1_15 C hP hb (m1 hb hL) q221 dX1_hasAct_6 ?_
    refine lv_icmp_ge C.1 C.2.1 (tgt := 16) dX1_hasAct_9 (by decide) (fun hc => ?_) (fun hc => ?_)
    · have h := h.1 hc
      refine lv_iconst C.1 C.2.1 (v := 0) dX1_hasAct_16 rfl ?_
      exact z_ri C hr hlk (bz_n bz0) hP hS ⟨bz0, h⟩ dX1_hasAct_17
    · have h := h.2 hc
      refine lv_iconst C.1 C.2.1 (v := 1) dX1_hasAct_12 rfl ?_
      refine lv_goto C.1 C.2.1 (tgt := 17) dX1_hasAct_13 (by decide) ?_
      exact z_ri C hr hlk (bz_n bz1) hP hS ⟨bz1, h⟩ dX1_hasAct_17
def rmX1_findWalker : Room := { frames := 0, cells := 0, slots := 0, locals := 0 }
def wX1_findWalker_L2 (b : Nat) (p1 : Int64)  (R2 : Int64 × Int32 × St → Prop) (v1 : Int64) (v3 : Int32) (st : St) (Q : Int32 → St → Prop) : Prop :=
  (((gI st b 4) ≤ v3 → Q (-1) st) ∧ (¬ (gI st b 4) ≤ v3 → (vp_in v3 8 ∧ ((¬ (lg_cmp (gJ st (b + 1) (v3 : Int32).toNatClampNeg) v1) = 0 → (∀ x1 : Int32, x1 = v3 + 1 → R2 (v1, x1, st))) ∧ ((lg_cmp (gJ st (b + 1) (v3 : Int32).toNatClampNeg) v1) = 0 → Q v3 st)))))
def wX1_findWalker (b : Nat) (p1 : Int64) (st : St) (Q : Int32 → St → Prop) : Prop :=
  (∃ n, lp (fun R s => wX1_findWalker_L2 b p1 R s.1 s.2.1 s.2.2 Q) n (p1, 0, st))
theorem hdX1_findWalker : yX1_findWalker.cls = "PlankBridge$Book" ∧ yX1_findWalker.cls ≠ "java/lang/invoke/MethodHandle" ∧ yX1_findWalker.cls ≠ "java/lang/invoke/VarHandle" ∧ (parseMethodDescriptor yX1_findWalker.desc).map (fun d => d.parameters.length) = some 1 := by decide +kernel
set_option maxHeartbeats 4000000 in
set_option maxRecDepth 100000 in
theorem tX1_findWalker_L2 {l : Launch} {p : Program} {e : Env} {s : State} {m : MethodId} {args : Array Value} {below : List Frame} {meth : Method} {c : Code} {E : En0} {L : List Nat} (hL : Cov 0 54 L) (C : Cx E L "PlankBridge$Book" cX1_findWalker 4 p s m args c) (hr : meth.sig.returnType = (some .int)) (hlk : meth.locks = false) {b : Nat} {p1 : Int64} {Q : Int32 → St → Prop} (hb : kd b = 1) : ∀ (n : Nat) (v1 : Int64) (v3 : Int32) (st : St) (H : Heap) (locs : List Loc) (ls : Array Slot), lp (fun R s => wX1_findWalker_L2 b p1 R s.1 s.2.1 s.2.2 Q) n (v1, v3, st) → lv_has ls 4 [(0, .ref (E.2.1 b)), (1, .long v1), (3, .int v3)] → va_P E.1 vwCl (wd E L st) H → va_S (fA E L s.heap.size) s.heap H locs → W p l e rmX1_findWalker s m args below meth c H locs 0 0 (MQ below (zI E L Q (fA E L s.heap.size)) args s rmX1_findWalker.cells rmX1_findWalker.slots (fA E L s.heap.size)) (F0 m 2 ls []) := by
  intro n
  induction n with
  | zero => exact fun _ _ _ _ _ _ h _ _ _ => False.elim ‹_›
  | succ n ih =>
    intro v1 v3 st  H locs ls h hl hP hS
    have hR2 := ih
    replace h : wX1_findWalker_L2 b p1 (lp (fun R s => wX1_findWalker_L2 b p1 R s.1 s.2.1 s.2.2 Q) n) v1 v3 st Q := h
    unfold wX1_findWalker_L2 at h
    refine lv_iload_n C.1 C.2.1 dX1_findWalker_2 rfl (lv_at hl 2 rfl) ?_
    refine lv_aload_n C.1 C.2.1 dX1_findWalker_3 rfl (lv_at hl 0 rfl) ?_
    refine gf1_4 C hP hb (m1 hb hL) q197 dX1_findWalker_4 ?_
    refine lv_icmp_ge C.1 C.2.1 (tgt := 29) dX1_findWalker_7 (by decide) (fun hc => ?_) (fun hc => ?_)
    · have h := h.1 hc
      refine lv_iconst C.1 C.2.1 (v := (-1)) dX1_findWalker_29 rfl ?_
      exact z_ri C hr hlk rfl hP hS h dX1_findWalker_30
    · have h := h.2 hc
      refine lv_aload_n C.1 C.2.1 dX1_findWalker_10 rfl (lv_at hl 0 rfl) ?_
      refine gf1_1 C hP hb (m1 hb hL) q192 dX1_findWalker_11 ?_
      refine lv_iload_n C.1 C.2.1 dX1_findWalker_14 rfl (lv_at hl 2 rfl) ?_
      obtain ⟨hi, h⟩ := h
      refine z_lald C hP (k1_1 hb) (l1_1 hb) (m1_1 hb hL) hi dX1_findWalker_15 ?_
      refine lv_lload_n C.1 C.2.1 dX1_findWalker_16 rfl (lv_at hl 1 rfl) ?_
      refine W.lcmp C.1 C.2.1 dX1_findWalker_17 ?_
      refine lv_if_ne C.1 C.2.1 (tgt := 23) dX1_findWalker_18 (by decide) (fun hc => ?_) (fun hc => ?_)
      · have h := h.1 hc
        obtain ⟨x1, ex1⟩ : ∃ z, z = v3 + 1 := ⟨_, rfl⟩
        have h := h x1 ex1
        refine lv_iinc C.1 C.2.1 dX1_findWalker_23 hl (k := 2) rfl ex1.symm (Nat.le_of_ble_eq_true rfl) rfl (fun ls hl => ?_)
        have hl : lv_has ls 4 [(3, .int x1), (0, .ref (E.2.1 b)), (1, .long v1)] := hl
        refine lv_goto C.1 C.2.1 (tgt := 2) dX1_findWalker_26 (by decide) ?_
        exact hR2 v1 x1 st _ _ _ h (lv_sub hl [1, 2, 0] rfl) hP hS
      · have h := h.2 hc
        refine lv_iload_n C.1 C.2.1 dX1_findWalker_21 rfl (lv_at hl 2 rfl) ?_
        exact z_ri C hr hlk rfl hP hS h dX1_findWalker_22
set_option maxHeartbeats 4000000 in
set_option maxRecDepth 100000 in
theorem tX1_findWalker {l : Launch} {E : En0} {L : List Nat} (hE : EK E L) (hL : Cov 0 54 L) {b : Nat} {p1 : Int64} {st : St} {Q : Int32 → St → Prop} (hb : kd b = 1) (h : wX1_findWalker b p1 st Q) : Mz l yX1_findWalker cX1_findWalker 4 (some .int) rmX1_findWalker E L [.ref (E.2.1 b), .long p1] st (zI E L Q) := by
  refine Mz.of hE (by decide) (Nat.le_of_ble_eq_true rfl) ?_
  intro p e s m below meth c ls C hr hlk _ hl hP
  replace C : Cx E L "PlankBridge$Book" cX1_findWalker 4 p s m _ c := C
  have hS : va_S (fA E L s.heap.size) s.heap s.heap [] := va_S.rf
  replace hl : lv_has ls 4 [(0, .ref (E.2.1 b)), (1, .long p1)] := hl
  unfold wX1_findWalker at h
  refine lv_iconst C.1 C.2.1 (v := 0) dX1_findWalker_0 rfl ?_
  refine lv_istore_n C.1 C.2.1 dX1_findWalker_1 rfl hl (Nat.le_of_ble_eq_true rfl) rfl (fun ls hl => ?_)
  have hl : lv_has ls 4 [(3, .int 0), (0, .ref (E.2.1 b)), (1, .long p1)] := hl
  obtain ⟨n, h⟩ := h
  exact tX1_findWalker_L2 hL C hr hlk hb n p1 0 st _ _ _ h (lv_sub hl [1, 2, 0] rfl) hP hS
def rmX1_findPlan : Room := { frames := 0, cells := 0, slots := 0, locals := 0 }
def wX1_findPlan_L2 (b : Nat) (p1 : Int64)  (R2 : Int64 × Int32 × St → Prop) (v1 : Int64) (v3 : Int32) (st : St) (Q : Int32 → St → Prop) : Prop :=
  (((gI st b 9) ≤ v3 → Q (-1) st) ∧ (¬ (gI st b 9) ≤ v3 → (vp_in v3 6 ∧ ((¬ (lg_cmp (gJ st (b + 5) (v3 : Int32).toNatClampNeg) v1) = 0 → (∀ x1 : Int32, x1 = v3 + 1 → R2 (v1, x1, st))) ∧ ((lg_cmp (gJ st (b + 5) (v3 : Int32).toNatClampNeg) v1) = 0 → Q v3 st)))))
def wX1_findPlan (b : Nat) (p1 : Int64) (st : St) (Q : Int32 → St → Prop) : Prop :=
  (∃ n, lp (fun R s => wX1_findPlan_L2 b p1 R s.1 s.2.1 s.2.2 Q) n (p1, 0, st))
theorem hdX1_findPlan : yX1_findPlan.cls = "PlankBridge$Book" ∧ yX1_findPlan.cls ≠ "java/lang/invoke/MethodHandle" ∧ yX1_findPlan.cls ≠ "java/lang/invoke/VarHandle" ∧ (parseMethodDescriptor yX1_findPlan.desc).map (fun d => d.parameters.length) = some 1 := by decide +kernel
set_option maxHeartbeats 4000000 in
set_option maxRecDepth 100000 in
theorem tX1_findPlan_L2 {l : Launch} {p : Program} {e : Env} {s : State} {m : MethodId} {args : Array Value} {below : List Frame} {meth : Method} {c : Code} {E : En0} {L : List Nat} (hL : Cov 0 54 L) (C : Cx E L "PlankBridge$Book" cX1_findPlan 4 p s m args c) (hr : meth.sig.returnType = (some .int)) (hlk : meth.locks = false) {b : Nat} {p1 : Int64} {Q : Int32 → St → Prop} (hb : kd b = 1) : ∀ (n : Nat) (v1 : Int64) (v3 : Int32) (st : St) (H : Heap) (locs : List Loc) (ls : Array Slot), lp (fun R s => wX1_findPlan_L2 b p1 R s.1 s.2.1 s.2.2 Q) n (v1, v3, st) → lv_has ls 4 [(0, .ref (E.2.1 b)), (1, .long v1), (3, .int v3)] → va_P E.1 vwCl (wd E L st) H → va_S (fA E L s.heap.size) s.heap H locs → W p l e rmX1_findPlan s m args below meth c H locs 0 0 (MQ below (zI E L Q (fA E L s.heap.size)) args s rmX1_findPlan.cells rmX1_findPlan.slots (fA E L s.heap.size)) (F0 m 2 ls []) := by
  intro n
  induction n with
  | zero => exact fun _ _ _ _ _ _ h _ _ _ => False.elim ‹_›
  | succ n ih =>
    intro v1 v3 st  H locs ls h hl hP hS
    have hR2 := ih
    replace h : wX1_findPlan_L2 b p1 (lp (fun R s => wX1_findPlan_L2 b p1 R s.1 s.2.1 s.2.2 Q) n) v1 v3 st Q := h
    unfold wX1_findPlan_L2 at h
    refine lv_iload_n C.1 C.2.1 dX1_findPlan_2 rfl (lv_at hl 2 rfl) ?_
    refine lv_aload_n C.1 C.2.1 dX1_findPlan_3 rfl (lv_at hl 0 rfl) ?_
    refine gf1_9 C hP hb (m1 hb hL) q207 dX1_findPlan_4 ?_
    refine lv_icmp_ge C.1 C.2.1 (tgt := 29) dX1_findPlan_7 (by decide) (fun hc => ?_) (fun hc => ?_)
    · have h := h.1 hc
      refine lv_iconst C.1 C.2.1 (v := (-1)) dX1_findPlan_29 rfl ?_
      exact z_ri C hr hlk rfl hP hS h dX1_findPlan_30
    · have h := h.2 hc
      refine lv_aload_n C.1 C.2.1 dX1_findPlan_10 rfl (lv_at hl 0 rfl) ?_
      refine gf1_7 C hP hb (m1 hb hL) q205 dX1_findPlan_11 ?_
      refine lv_iload_n C.1 C.2.1 dX1_findPlan_14 rfl (lv_at hl 2 rfl) ?_
      obtain ⟨hi, h⟩ := h
      refine z_lald C hP (k1_5 hb) (l1_5 hb) (m1_5 hb hL) hi dX1_findPlan_15 ?_
      refine lv_lload_n C.1 C.2.1 dX1_findPlan_16 rfl (lv_at hl 1 rfl) ?_
      refine W.lcmp C.1 C.2.1 dX1_findPlan_17 ?_
      refine lv_if_ne C.1 C.2.1 (tgt := 23) dX1_findPlan_18 (by decide) (fun hc => ?_) (fun hc => ?_)
      · have h := h.1 hc
        obtain ⟨x1, ex1⟩ : ∃ z, z = v3 + 1 := ⟨_, rfl⟩
        have h := h x1 ex1
        refine lv_iinc C.1 C.2.1 dX1_findPlan_23 hl (k := 2) rfl ex1.symm (Nat.le_of_ble_eq_true rfl) rfl (fun ls hl => ?_)
        have hl : lv_has ls 4 [(3, .int x1), (0, .ref (E.2.1 b)), (1, .long v1)] := hl
        refine lv_goto C.1 C.2.1 (tgt := 2) dX1_findPlan_26 (by decide) ?_
        exact hR2 v1 x1 st _ _ _ h (lv_sub hl [1, 2, 0] rfl) hP hS
      · have h := h.2 hc
        refine lv_iload_n C.1 C.2.1 dX1_findPlan_21 rfl (lv_at hl 2 rfl) ?_
        exact z_ri C hr hlk rfl hP hS h dX1_findPlan_22
set_option maxHeartbeats 4000000 in
set_option maxRecDepth 100000 in
theorem tX1_findPlan {l : Launch} {E : En0} {L : List Nat} (hE : EK E L) (hL : Cov 0 54 L) {b : Nat} {p1 : Int64} {st : St} {Q : Int32 → St → Prop} (hb : kd b = 1) (h : wX1_findPlan b p1 st Q) : Mz l yX1_findPlan cX1_findPlan 4 (some .int) rmX1_findPlan E L [.ref (E.2.1 b), .long p1] st (zI E L Q) := by
  refine Mz.of hE (by decide) (Nat.le_of_ble_eq_true rfl) ?_
  intro p e s m below meth c ls C hr hlk _ hl hP
  replace C : Cx E L "PlankBridge$Book" cX1_findPlan 4 p s m _ c := C
  have hS : va_S (fA E L s.heap.size) s.heap s.heap [] := va_S.rf
  replace hl : lv_has ls 4 [(0, .ref (E.2.1 b)), (1, .long p1)] := hl
  unfold wX1_findPlan at h
  refine lv_iconst C.1 C.2.1 (v := 0) dX1_findPlan_0 rfl ?_
  refine lv_istore_n C.1 C.2.1 dX1_findPlan_1 rfl hl (Nat.le_of_ble_eq_true rfl) rfl (fun ls hl => ?_)
  have hl : lv_has ls 4 [(3, .int 0), (0, .ref (E.2.1 b)), (1, .long p1)] := hl
  obtain ⟨n, h⟩ := h
  exact tX1_findPlan_L2 hL C hr hlk hb n p1 0 st _ _ _ h (lv_sub hl [1, 2, 0] rfl) hP hS
def rmX1_firstActOf : Room := { frames := 0, cells := 0, slots := 0, locals := 0 }
def wX1_firstActOf (b : Nat) (p1 : Int32) (st : St) (Q : Int32 → St → Prop) : Prop :=
  ((p1 < 0 → Q (-1) st) ∧ (¬ p1 < 0 → (((gI st b 9) ≤ p1 → Q (-1) st) ∧ (¬ (gI st b 9) ≤ p1 → (vp_in p1 6 ∧ Q (gI st (b + 6) (p1 : Int32).toNatClampNeg) st)))))
theorem hdX1_firstActOf : yX1_firstActOf.cls = "PlankBridge$Book" ∧ yX1_firstActOf.cls ≠ "java/lang/invoke/MethodHandle" ∧ yX1_firstActOf.cls ≠ "java/lang/invoke/VarHandle" ∧ (parseMethodDescriptor yX1_firstActOf.desc).map (fun d => d.parameters.length) = some 1 := by decide +kernel
set_option maxHeartbeats 4000000 in
set_option maxRecDepth 100000 in
theorem tX1_firstActOf {l : Launch} {E : En0} {L : List Nat} (hE : EK E L) (hL : Cov 0 54 L) {b : Nat} {p1 : Int32} {st : St} {Q : Int32 → St → Prop} (hb : kd b = 1) (h : wX1_firstActOf b p1 st Q) : Mz l yX1_firstActOf cX1_firstActOf 2 (some .int) rmX1_firstActOf E L [.ref (E.2.1 b), .int p1] st (zI E L Q) := by
  refine Mz.of hE (by decide) (Nat.le_of_ble_eq_true rfl) ?_
  intro p e s m below meth c ls C hr hlk _ hl hP
  replace C : Cx E L "PlankBridge$Book" cX1_firstActOf 2 p s m _ c := C
  have hS : va_S (fA E L s.heap.size) s.heap s.heap [] := va_S.rf
  replace hl : lv_has ls 2 [(0, .ref (E.2.1 b)), (1, .int p1)] := hl
  unfold wX1_firstActOf at h
  refine lv_iload_n C.1 C.2.1 dX1_firstActOf_0 rfl (lv_at hl 1 rfl) ?_
  refine lv_if_lt C.1 C.2.1 (tgt := 21) dX1_firstActOf_1 (by decide) (fun hc => ?_) (fun hc => ?_)
  · have h := h.1 hc
    refine lv_iconst C.1 C.2.1 (v := (-1)) dX1_firstActOf_21 rfl ?_
    exact z_ri C hr hlk rfl hP hS h dX1_firstActOf_22
  · have h := h.2 hc
    refine lv_iload_n C.1 C.2.1 dX1_firstActOf_4 rfl (lv_at hl 1 rfl) ?_
    refine lv_aload_n C.1 C.2.1 dX1_firstActOf_5 rfl (lv_at hl 0 rfl) ?_
    refine gf1_9 C hP hb (m1 hb hL) q207 dX1_firstActOf_6 ?_
    refine lv_icmp_ge C.1 C.2.1 (tgt := 21) dX1_firstActOf_9 (by decide) (fun hc => ?_) (fun hc => ?_)
    · have h := h.1 hc
      refine lv_iconst C.1 C.2.1 (v := (-1)) dX1_firstActOf_21 rfl ?_
      exact z_ri C hr hlk rfl hP hS h dX1_firstActOf_22
    · have h := h.2 hc
      refine lv_aload_n C.1 C.2.1 dX1_firstActOf_12 rfl (lv_at hl 0 rfl) ?_
      refine gf1_8 C hP hb (m1 hb hL) q206 dX1_firstActOf_13 ?_
      refine lv_iload_n C.1 C.2.1 dX1_firstActOf_16 rfl (lv_at hl 1 rfl) ?_
      obtain ⟨hi, h⟩ := h
      refine z_iald C hP (k1_6 hb) (l1_6 hb) (m1_6 hb hL) hi dX1_firstActOf_17 ?_
      refine lv_goto C.1 C.2.1 (tgt := 22) dX1_firstActOf_18 (by decide) ?_
      exact z_ri C hr hlk rfl hP hS h dX1_firstActOf_22
def rmX1_actBehind : Room := { frames := 1, cells := 0, slots := 0, locals := 22 }
def wX1_actBehind_L70 (b : Nat) (p1 : Int32) (R4 : Int32 × Int32 × St → Prop) (v2 : Int32) (v3 : Int32) (st : St) (Q : Int32 → St → Prop) : Prop :=
  (∀ x8 : Int32, x8 = v3 + 1 → R4 (v2, x8, st))
def wX1_actBehind_L4 (b : Nat) (p1 : Int32)  (R4 : Int32 × Int32 × St → Prop) (v2 : Int32) (v3 : Int32) (st : St) (Q : Int32 → St → Prop) : Prop :=
  ((3 < v3 → Q (-1) st) ∧ (¬ 3 < v3 → (wX1_hasAct b v2 st (fun r2 st1 => ((r2 = 0 → Q (-1) st1) ∧ (¬ r2 = 0 → (vp_in v2 60 ∧ (((gI st1 (b + 9) (v2 : Int32).toNatClampNeg) = (-1) → (vp_in v2 60 ∧ (∀ x3 : Int32, x3 = (gI st1 (b + 8) (v2 : Int32).toNatClampNeg) → (wX1_hasAct b x3 st1 (fun r5 st4 => ((r5 = 0 → wX1_actBehind_L70 b p1 R4 x3 v3 st4 Q) ∧ (¬ r5 = 0 → (vp_in x3 60 ∧ (wX7_kindAt (b + 12) (gI st4 (b + 7) (x3 : Int32).toNatClampNeg) st4 (fun r7 st6 => ((¬ r7 = ((some 22)) → wX1_actBehind_L70 b p1 R4 x3 v3 st6 Q) ∧ (r7 = ((some 22)) → Q x3 st6)))))))))))) ∧ (¬ (gI st1 (b + 9) (v2 : Int32).toNatClampNeg) = (-1) → (vp_in v2 60 ∧ Q (gI st1 (b + 9) (v2 : Int32).toNatClampNeg) st1))))))))))
def wX1_actBehind (b : Nat) (p1 : Int32) (st : St) (Q : Int32 → St → Prop) : Prop :=
  (∃ n, lp (fun R s => wX1_actBehind_L4 b p1 R s.1 s.2.1 s.2.2 Q) n (p1, 0, st))
theorem hdX1_actBehind : yX1_actBehind.cls = "PlankBridge$Book" ∧ yX1_actBehind.cls ≠ "java/lang/invoke/MethodHandle" ∧ yX1_actBehind.cls ≠ "java/lang/invoke/VarHandle" ∧ (parseMethodDescriptor yX1_actBehind.desc).map (fun d => d.parameters.length) = some 1 := by decide +kernel
set_option maxHeartbeats 4000000 in
set_option maxRecDepth 100000 in
theorem tX1_actBehind_L70 {l : Launch} {p : Program} {e : Env} {s : State} {m : MethodId} {args : Array Value} {below : List Frame} {meth : Method} {c : Code} {E : En0} {L : List Nat} (hL : Cov 0 54 L) (C : Cx E L "PlankBridge$Book" cX1_actBehind 4 p s m args c) (hr : meth.sig.returnType = (some .int)) (hlk : meth.locks = false) {b : Nat} {p1 : Int32} {Q : Int32 → St → Prop} (hb : kd b = 1) {R4 : Int32 × Int32 × St → Prop} (hR4 : ∀ (v2 : Int32) (v3 : Int32) (st : St), ∀ (H : Heap) (locs : List Loc) (ls : Array Slot), R4 (v2, v3, st) → lv_has ls 4 [(0, .ref (E.2.1 b)), (2, .int v2), (3, .int v3)] → va_P E.1 vwCl (wd E L st) H → va_S (fA E L s.heap.size) s.heap H locs → W p l e rmX1_actBehind s m args below meth c H locs 0 0 (MQ below (zI E L Q (fA E L s.heap.size)) args s rmX1_actBehind.cells rmX1_actBehind.slots (fA E L s.heap.size)) (F0 m 4 ls [])) {v2 : Int32} {v3 : Int32}  {st : St} (H : Heap) (locs : List Loc) (ls : Array Slot) (h : wX1_actBehind_L70 b p1 R4 v2 v3 st Q) (hl : lv_has ls 4 [(0, .ref (E.2.1 b)), (2, .int v2), (3, .int v3)]) (hP : va_P E.1 vwCl (wd E L st) H) (hS : va_S (fA E L s.heap.size) s.heap H locs) : W p l e rmX1_actBehind s m args below meth c H locs 0 0 (MQ below (zI E L Q (fA E L s.heap.size)) args s rmX1_actBehind.cells rmX1_actBehind.slots (fA E L s.heap.size)) (F0 m 70 ls []) := by
  unfold wX1_actBehind_L70 at h
  obtain ⟨x8, ex8⟩ : ∃ z, z = v3 + 1 := ⟨_, rfl⟩
  have h := h x8 ex8
  refine lv_iinc C.1 C.2.1 dX1_actBehind_70 hl (k := 2) rfl ex8.symm (Nat.le_of_ble_eq_true rfl) rfl (fun ls hl => ?_)
  have hl : lv_has ls 4 [(3, .int x8), (0, .ref (E.2.1 b)), (2, .int v2)] := hl
  refine lv_goto C.1 C.2.1 (tgt := 4) dX1_actBehind_73 (by decide) ?_
  exact hR4 v2 x8 st _ _ _ h (lv_sub hl [1, 2, 0] rfl) hP hS
set_option maxHeartbeats 4000000 in
set_option maxRecDepth 100000 in
theorem tX1_actBehind_L4 {l : Launch} {p : Program} {e : Env} {s : State} {m : MethodId} {args : Array Value} {below : List Frame} {meth : Method} {c : Code} {E : En0} {L : List Nat} (hL : Cov 0 54 L) (C : Cx E L "PlankBridge$Book" cX1_actBehind 4 p s m args c) (hr : meth.sig.returnType = (some .int)) (hlk : meth.locks = false) {b : Nat} {p1 : Int32} {Q : Int32 → St → Prop} (hb : kd b = 1) : ∀ (n : Nat) (v2 : Int32) (v3 : Int32) (st : St) (H : Heap) (locs : List Loc) (ls : Array Slot), lp (fun R s => wX1_actBehind_L4 b p1 R s.1 s.2.1 s.2.2 Q) n (v2, v3, st) → lv_has ls 4 [(0, .ref (E.2.1 b)), (2, .int v2), (3, .int v3)] → va_P E.1 vwCl (wd E L st) H → va_S (fA E L s.heap.size) s.heap H locs → W p l e rmX1_actBehind s m args below meth c H locs 0 0 (MQ below (zI E L Q (fA E L s.heap.size)) args s rmX1_actBehind.cells rmX1_actBehind.slots (fA E L s.heap.size)) (F0 m 4 ls []) := by
  intro n
  induction n with
  | zero => exact fun _ _ _ _ _ _ h _ _ _ => False.elim ‹_›
  | succ n ih =>
    intro v2 v3 st  H locs ls h hl hP hS
    have hR4 := ih
    replace h : wX1_actBehind_L4 b p1 (lp (fun R s => wX1_actBehind_L4 b p1 R s.1 s.2.1 s.2.2 Q) n) v2 v3 st Q := h
    unfold wX1_actBehind_L4 at h
    refine lv_iload_n C.1 C.2.1 dX1_actBehind_4 rfl (lv_at hl 2 rfl) ?_
    refine lv_iconst C.1 C.2.1 (v := 3) dX1_actBehind_5 rfl ?_
    refine lv_icmp_gt C.1 C.2.1 (tgt := 76) dX1_actBehind_6 (by decide) (fun hc => ?_) (fun hc => ?_)
    · have h := h.1 hc
      refine lv_iconst C.1 C.2.1 (v := (-1)) dX1_actBehind_76 rfl ?_
      exact z_ri C hr hlk rfl hP hS h dX1_actBehind_77
    · have h := h.2 hc
      refine lv_aload_n C.1 C.2.1 dX1_actBehind_9 rfl (lv_at hl 0 rfl) ?_
      refine lv_iload_n C.1 C.2.1 dX1_actBehind_10 rfl (lv_at hl 1 rfl) ?_
      refine z_ki hS (z_runV (As := [.int v2]) (rest := []) C hP hS (m1 hb hL) (e1 hb) rfl (tX1_hasAct C.2.2.2.2.2.2.1 (hL.mo (Nat.le_of_ble_eq_true rfl) (Nat.le_of_ble_eq_true rfl)) hb h) q1147 q582 q583 q107 q584 hdX1_hasAct ⟨Nat.le_of_ble_eq_true rfl, Nat.le_of_ble_eq_true rfl⟩ ⟨Nat.zero_le _, Nat.zero_le _⟩ rfl hl.1 rfl (lv_room (Nat.le_of_ble_eq_true rfl)) dX1_actBehind_11) (fun r2 st1 H locs h hP hS => ?_)
      obtain ⟨hr2, h⟩ := h
      refine lv_if_eq C.1 C.2.1 (tgt := 76) dX1_actBehind_14 (by decide) (fun hc => ?_) (fun hc => ?_)
      · have h := h.1 hc
        refine lv_iconst C.1 C.2.1 (v := (-1)) dX1_actBehind_76 rfl ?_
        exact z_ri C hr hlk rfl hP hS h dX1_actBehind_77
      · have h := h.2 hc
        refine lv_aload_n C.1 C.2.1 dX1_actBehind_17 rfl (lv_at hl 0 rfl) ?_
        refine gf1_12 C hP hb (m1 hb hL) q213 dX1_actBehind_18 ?_
        refine lv_iload_n C.1 C.2.1 dX1_actBehind_21 rfl (lv_at hl 1 rfl) ?_
        obtain ⟨hi, h⟩ := h
        refine z_iald C hP (k1_9 hb) (l1_9 hb) (m1_9 hb hL) hi dX1_actBehind_22 ?_
        refine lv_iconst C.1 C.2.1 (v := (-1)) dX1_actBehind_23 rfl ?_
        refine lv_icmp_eq C.1 C.2.1 (tgt := 34) dX1_actBehind_24 (by decide) (fun hc => ?_) (fun hc => ?_)
        · have h := h.1 hc
          refine lv_aload_n C.1 C.2.1 dX1_actBehind_34 rfl (lv_at hl 0 rfl) ?_
          refine gf1_11 C hP hb (m1 hb hL) q212 dX1_actBehind_35 ?_
          refine lv_iload_n C.1 C.2.1 dX1_actBehind_38 rfl (lv_at hl 1 rfl) ?_
          obtain ⟨hi, h⟩ := h
          refine z_iald C hP (k1_8 hb) (l1_8 hb) (m1_8 hb hL) hi dX1_actBehind_39 ?_
          refine lv_topi (fun x3 ex3 => ?_)
          have h := h x3 ex3
          refine lv_istore_n C.1 C.2.1 dX1_actBehind_40 rfl hl (Nat.le_of_ble_eq_true rfl) rfl (fun ls hl => ?_)
          have hl : lv_has ls 4 [(2, .int x3), (0, .ref (E.2.1 b)), (3, .int v3)] := hl
          refine lv_aload_n C.1 C.2.1 dX1_actBehind_41 rfl (lv_at hl 1 rfl) ?_
          refine lv_iload_n C.1 C.2.1 dX1_actBehind_42 rfl (lv_at hl 0 rfl) ?_
          refine z_ki hS (z_runV (As := [.int x3]) (rest := []) C hP hS (m1 hb hL) (e1 hb) rfl (tX1_hasAct C.2.2.2.2.2.2.1 (hL.mo (Nat.le_of_ble_eq_true rfl) (Nat.le_of_ble_eq_true rfl)) hb h) q1147 q582 q583 q107 q584 hdX1_hasAct ⟨Nat.le_of_ble_eq_true rfl, Nat.le_of_ble_eq_true rfl⟩ ⟨Nat.zero_le _, Nat.zero_le _⟩ rfl hl.1 rfl (lv_room (Nat.le_of_ble_eq_true rfl)) dX1_actBehind_43) (fun r5 st4 H locs h hP hS => ?_)
          obtain ⟨hr5, h⟩ := h
          refine lv_if_eq C.1 C.2.1 (tgt := 70) dX1_actBehind_46 (by decide) (fun hc => ?_) (fun hc => ?_)
          · have h := h.1 hc
            exact tX1_actBehind_L70 hL C hr hlk hb hR4 _ _ _ h (lv_sub hl [1, 0, 2] rfl) hP hS
          · have h := h.2 hc
            refine lv_aload_n C.1 C.2.1 dX1_actBehind_49 rfl (lv_at hl 1 rfl) ?_
            refine gf1_0 C hP hb (m1 hb hL) q190 dX1_actBehind_50 ?_
            refine lv_aload_n C.1 C.2.1 dX1_actBehind_53 rfl (lv_at hl 1 rfl) ?_
            refine gf1_10 C hP hb (m1 hb hL) q210 dX1_actBehind_54 ?_
            refine lv_iload_n C.1 C.2.1 dX1_actBehind_57 rfl (lv_at hl 0 rfl) ?_
            obtain ⟨hi, h⟩ := h
            refine z_iald C hP (k1_7 hb) (l1_7 hb) (m1_7 hb hL) hi dX1_actBehind_58 ?_
            refine z_ke hS (z_runV (As := [.int (gI st4 (b + 7) (x3 : Int32).toNatClampNeg)]) (rest := []) C hP hS (m1_12 hb hL) (e6 (k1_12 hb)) rfl (tX7_kindAt C.2.2.2.2.2.2.1 (hL.mo (Nat.le_of_ble_eq_true rfl) (Nat.le_of_ble_eq_true rfl)) (k1_12 hb) h) q1148 q493 q494 q108 q495 hdX7_kindAt ⟨Nat.le_of_ble_eq_true rfl, Nat.le_of_ble_eq_true rfl⟩ ⟨Nat.zero_le _, Nat.zero_le _⟩ rfl hl.1 rfl (lv_room (Nat.le_of_ble_eq_true rfl)) dX1_actBehind_59) (fun r7 st6 H locs h hP hS => ?_)
            obtain ⟨hr7, h⟩ := h
            refine z_kst C hS (i := 22) (by decide) rfl q1149 dX1_actBehind_62 ?_
            refine z_acmp_ne C hr7 (kin_l (by decide)) (tgt := 70) dX1_actBehind_65 (by decide) (fun hc => ?_) (fun hc => ?_)
            · have h := h.1 hc
              exact tX1_actBehind_L70 hL C hr hlk hb hR4 _ _ _ h (lv_sub hl [1, 0, 2] rfl) hP hS
            · have h := h.2 hc
              refine lv_iload_n C.1 C.2.1 dX1_actBehind_68 rfl (lv_at hl 0 rfl) ?_
              exact z_ri C hr hlk rfl hP hS h dX1_actBehind_69
        · have h := h.2 hc
          refine lv_aload_n C.1 C.2.1 dX1_actBehind_27 rfl (lv_at hl 0 rfl) ?_
          refine gf1_12 C hP hb (m1 hb hL) q213 dX1_actBehind_28 ?_
          refine lv_iload_n C.1 C.2.1 dX1_actBehind_31 rfl (lv_at hl 1 rfl) ?_
          obtain ⟨hi, h⟩ := h
          refine z_iald C hP (k1_9 hb) (l1_9 hb) (m1_9 hb hL) hi dX1_actBehind_32 ?_
          exact z_ri C hr hlk rfl hP hS h dX1_actBehind_33
set_option maxHeartbeats 4000000 in
set_option maxRecDepth 100000 in
theorem tX1_actBehind {l : Launch} {E : En0} {L : List Nat} (hE : EK E L) (hL : Cov 0 54 L) {b : Nat} {p1 : Int32} {st : St} {Q : Int32 → St → Prop} (hb : kd b = 1) (h : wX1_actBehind b p1 st Q) : Mz l yX1_actBehind cX1_actBehind 4 (some .int) rmX1_actBehind E L [.ref (E.2.1 b), .int p1] st (zI E L Q) := by
  refine Mz.of hE (by decide) (Nat.le_of_ble_eq_true rfl) ?_
  intro p e s m below meth c ls C hr hlk _ hl hP
  replace C : Cx E L "PlankBridge$Book" cX1_actBehind 4 p s m _ c := C
  have hS : va_S (fA E L s.heap.size) s.heap s.heap [] := va_S.rf
  replace hl : lv_has ls 4 [(0, .ref (E.2.1 b)), (1, .int p1)] := hl
  unfold wX1_actBehind at h
  refine lv_iload_n C.1 C.2.1 dX1_actBehind_0 rfl (lv_at hl 1 rfl) ?_
  refine lv_istore_n C.1 C.2.1 dX1_actBehind_1 rfl hl (Nat.le_of_ble_eq_true rfl) rfl (fun ls hl => ?_)
  have hl : lv_has ls 4 [(2, .int p1), (0, .ref (E.2.1 b)), (1, .int p1)] := hl
  refine lv_iconst C.1 C.2.1 (v := 0) dX1_actBehind_2 rfl ?_
  refine lv_istore_n C.1 C.2.1 dX1_actBehind_3 rfl hl (Nat.le_of_ble_eq_true rfl) rfl (fun ls hl => ?_)
  have hl : lv_has ls 4 [(3, .int 0), (2, .int p1), (0, .ref (E.2.1 b)), (1, .int p1)] := hl
  obtain ⟨n, h⟩ := h
  exact tX1_actBehind_L4 hL C hr hlk hb n p1 0 st _ _ _ h (lv_sub hl [2, 1, 0] rfl) hP hS
def rmX1_becomeFirst : Room := { frames := 1, cells := 0, slots := 0, locals := 21 }
def wX1_becomeFirst_L6 (b : Nat)  (R6 : Int32 × St → Prop) (v1 : Int32) (st : St) (Q : St → Prop) : Prop :=
  ((4 ≤ v1 → Q st) ∧ (¬ 4 ≤ v1 → (wX1_addPlank b 10 st (fun st2 => (∀ x3 : Int32, x3 = v1 + 1 → R6 (x3, st2))))))
def wX1_becomeFirst (b : Nat) (st : St) (Q : St → Prop) : Prop :=
  (wX1_clear b st (fun st1 => (∃ n, lp (fun R s => wX1_becomeFirst_L6 b R s.1 s.2 Q) n (0, st1))))
theorem hdX1_becomeFirst : yX1_becomeFirst.cls = "PlankBridge$Book" ∧ yX1_becomeFirst.cls ≠ "java/lang/invoke/MethodHandle" ∧ yX1_becomeFirst.cls ≠ "java/lang/invoke/VarHandle" ∧ (parseMethodDescriptor yX1_becomeFirst.desc).map (fun d => d.parameters.length) = some 0 := by decide +kernel
set_option maxHeartbeats 4000000 in
set_option maxRecDepth 100000 in
theorem tX1_becomeFirst_L6 {l : Launch} {p : Program} {e : Env} {s : State} {m : MethodId} {args : Array Value} {below : List Frame} {meth : Method} {c : Code} {E : En0} {L : List Nat} (hL : Cov 0 54 L) (C : Cx E L "PlankBridge$Book" cX1_becomeFirst 2 p s m args c) (hr : meth.sig.returnType = none) (hlk : meth.locks = false) {b : Nat} {Q : St → Prop} (hb : kd b = 1) : ∀ (n : Nat) (v1 : Int32) (st : St) (H : Heap) (locs : List Loc) (ls : Array Slot), lp (fun R s => wX1_becomeFirst_L6 b R s.1 s.2 Q) n (v1, st) → lv_has ls 2 [(0, .ref (E.2.1 b)), (1, .int v1)] → va_P E.1 vwCl (wd E L st) H → va_S (fA E L s.heap.size) s.heap H locs → W p l e rmX1_becomeFirst s m args below meth c H locs 0 0 (MQ below (zV E L Q (fA E L s.heap.size)) args s rmX1_becomeFirst.cells rmX1_becomeFirst.slots (fA E L s.heap.size)) (F0 m 6 ls []) := by
  intro n
  induction n with
  | zero => exact fun _ _ _ _ _ h _ _ _ => False.elim ‹_›
  | succ n ih =>
    intro v1 st  H locs ls h hl hP hS
    have hR6 := ih
    replace h : wX1_becomeFirst_L6 b (lp (fun R s => wX1_becomeFirst_L6 b R s.1 s.2 Q) n) v1 st Q := h
    unfold wX1_becomeFirst_L6 at h
    refine lv_iload_n C.1 C.2.1 dX1_becomeFirst_6 rfl (lv_at hl 1 rfl) ?_
    refine lv_iconst C.1 C.2.1 (v := 4) dX1_becomeFirst_7 rfl ?_
    refine lv_icmp_ge C.1 C.2.1 (tgt := 23) dX1_becomeFirst_8 (by decide) (fun hc => ?_) (fun hc => ?_)
    · have h := h.1 hc
      exact z_rv C hr hlk hP hS h dX1_becomeFirst_23
    · have h := h.2 hc
      refine lv_aload_n C.1 C.2.1 dX1_becomeFirst_11 rfl (lv_at hl 0 rfl) ?_
      refine lv_bipush C.1 C.2.1 (v := 10) dX1_becomeFirst_12 rfl ?_
      refine z_kv hS (z_runV (As := [.int 10]) (rest := []) C hP hS (m1 hb hL) (e1 hb) rfl (tX1_addPlank C.2.2.2.2.2.2.1 (hL.mo (Nat.le_of_ble_eq_true rfl) (Nat.le_of_ble_eq_true rfl)) hb h) q399 q400 q401 q107 q402 hdX1_addPlank ⟨Nat.le_of_ble_eq_true rfl, Nat.le_of_ble_eq_true rfl⟩ ⟨Nat.zero_le _, Nat.zero_le _⟩ rfl hl.1 rfl (lv_room (Nat.le_of_ble_eq_true rfl)) dX1_becomeFirst_14) (fun st2 H locs h hP hS => ?_)
      obtain ⟨x3, ex3⟩ : ∃ z, z = v1 + 1 := ⟨_, rfl⟩
      have h := h x3 ex3
      refine lv_iinc C.1 C.2.1 dX1_becomeFirst_17 hl (k := 1) rfl ex3.symm (Nat.le_of_ble_eq_true rfl) rfl (fun ls hl => ?_)
      have hl : lv_has ls 2 [(1, .int x3), (0, .ref (E.2.1 b))] := hl
      refine lv_goto C.1 C.2.1 (tgt := 6) dX1_becomeFirst_20 (by decide) ?_
      exact hR6 x3 st2 _ _ _ h (lv_sub hl [1, 0] rfl) hP hS
set_option maxHeartbeats 4000000 in
set_option maxRecDepth 100000 in
theorem tX1_becomeFirst {l : Launch} {E : En0} {L : List Nat} (hE : EK E L) (hL : Cov 0 54 L) {b : Nat} {st : St} {Q : St → Prop} (hb : kd b = 1) (h : wX1_becomeFirst b st Q) : Mz l yX1_becomeFirst cX1_becomeFirst 2 none rmX1_becomeFirst E L [.ref (E.2.1 b)] st (zV E L Q) := by
  refine Mz.of hE (by decide) (Nat.le_of_ble_eq_true rfl) ?_
  intro p e s m below meth c ls C hr hlk _ hl hP
  replace C : Cx E L "PlankBridge$Book" cX1_becomeFirst 2 p s m _ c := C
  have hS : va_S (fA E L s.heap.size) s.heap s.heap [] := va_S.rf
  replace hl : lv_has ls 2 [(0, .ref (E.2.1 b))] := hl
  unfold wX1_becomeFirst at h
  refine lv_aload_n C.1 C.2.1 dX1_becomeFirst_0 rfl (lv_at hl 0 rfl) ?_
  refine z_kv hS (z_runV (As := []) (rest := []) C hP hS (m1 hb hL) (e1 hb) rfl (tX1_clear C.2.2.2.2.2.2.1 (hL.mo (Nat.le_of_ble_eq_true rfl) (Nat.le_of_ble_eq_true rfl)) hb h) q395 q396 q397 q107 q398 hdX1_clear ⟨Nat.le_of_ble_eq_true rfl, Nat.le_of_ble_eq_true rfl⟩ ⟨Nat.zero_le _, Nat.zero_le _⟩ rfl hl.1 rfl (lv_room (Nat.le_of_ble_eq_true rfl)) dX1_becomeFirst_1) (fun st1 H locs h hP hS => ?_)
  refine lv_iconst C.1 C.2.1 (v := 0) dX1_becomeFirst_4 rfl ?_
  refine lv_istore_n C.1 C.2.1 dX1_becomeFirst_5 rfl hl (Nat.le_of_ble_eq_true rfl) rfl (fun ls hl => ?_)
  have hl : lv_has ls 2 [(1, .int 0), (0, .ref (E.2.1 b))] := hl
  obtain ⟨n, h⟩ := h
  exact tX1_becomeFirst_L6 hL C hr hlk hb n 0 st1 _ _ _ h (lv_sub hl [1, 0] rfl) hP hS
def rmX2_begin : Room := { frames := 1, cells := 0, slots := 0, locals := 60 }
def wX2_begin_L75 (b : Nat) (p1 : Nat)  (R75 : Int32 × St → Prop) (v2 : Int32) (st : St) (Q : St → Prop) : Prop :=
  ((12 ≤ v2 → (∀ st7, st7 = uI st b 7 1 → (∀ st8, st8 = uI st7 b 8 60 → (∀ st9, st9 = uI st8 b 9 0 → (∀ st10, st10 = uI st9 b 10 0 → (∀ st11, st11 = uI st10 b 11 0 → (∀ st12, st12 = uI st11 b 12 0 → (∀ st13, st13 = uI st12 b 13 0 → Q st13)))))))) ∧ (¬ 12 ≤ v2 → (vp_in v2 12 ∧ ∀ st14, st14 = uI st (b + 4) (v2 : Int32).toNatClampNeg 0 → (∀ x15 : Int32, x15 = v2 + 1 → R75 (x15, st14)))))
def wX2_begin (b : Nat) (p1 : Nat) (st : St) (Q : St → Prop) : Prop :=
  (∀ st1, st1 = uI st b 0 (gI st p1 4) → (∀ st2, st2 = sI st1 (b + 1) (va_cpy (st1.1 (p1 + 2)) (st1.1 (b + 1)) (0 : Int32).toNatClampNeg (0 : Int32).toNatClampNeg (8 : Int32).toNatClampNeg) → (∀ st3, st3 = sI st2 (b + 2) (va_cpy (st2.1 (p1 + 3)) (st2.1 (b + 2)) (0 : Int32).toNatClampNeg (0 : Int32).toNatClampNeg (8 : Int32).toNatClampNeg) → (∀ st4, st4 = uI st3 b 3 (((1 : Int32) <<< ((gI st3 b 0) &&& 31)) - 1) → (∀ st5, st5 = uI st4 b 4 (gI st4 p1 6) → (∀ st6, st6 = sI st5 (b + 3) (va_cpy (st5.1 (p1 + 4)) (st5.1 (b + 3)) (0 : Int32).toNatClampNeg (0 : Int32).toNatClampNeg (12 : Int32).toNatClampNeg) → (∃ n, lp (fun R s => wX2_begin_L75 b p1 R s.1 s.2 Q) n (0, st6))))))))
theorem hdX2_begin : yX2_begin.cls = "PlankBridge$Bridge" ∧ yX2_begin.cls ≠ "java/lang/invoke/MethodHandle" ∧ yX2_begin.cls ≠ "java/lang/invoke/VarHandle" ∧ (parseMethodDescriptor yX2_begin.desc).map (fun d => d.parameters.length) = some 1 := by decide +kernel
set_option maxHeartbeats 4000000 in
set_option maxRecDepth 100000 in
theorem tX2_begin_L75 {l : Launch} {p : Program} {e : Env} {s : State} {m : MethodId} {args : Array Value} {below : List Frame} {meth : Method} {c : Code} {E : En0} {L : List Nat} (hL : Cov 0 54 L) (C : Cx E L "PlankBridge$Bridge" cX2_begin 3 p s m args c) (hr : meth.sig.returnType = none) (hlk : meth.locks = false) {b : Nat} {p1 : Nat} {Q : St → Prop} (hb : kd b = 2) (hp1 : kd p1 = 1) : ∀ (n : Nat) (v2 : Int32) (st : St) (H : Heap) (locs : List Loc) (ls : Array Slot), lp (fun R s => wX2_begin_L75 b p1 R s.1 s.2 Q) n (v2, st) → lv_has ls 3 [(0, .ref (E.2.1 b)), (2, .int v2)] → va_P E.1 vwCl (wd E L st) H → va_S (fA E L s.heap.size) s.heap H locs → W p l e rmX2_begin s m args below meth c H locs 0 0 (MQ below (zV E L Q (fA E L s.heap.size)) args s rmX2_begin.cells rmX2_begin.slots (fA E L s.heap.size)) (F0 m 75 ls []) := by
  intro n
  induction n with
  | zero => exact fun _ _ _ _ _ h _ _ _ => False.elim ‹_›
  | succ n ih =>
    intro v2 st  H locs ls h hl hP hS
    have hR75 := ih
    replace h : wX2_begin_L75 b p1 (lp (fun R s => wX2_begin_L75 b p1 R s.1 s.2 Q) n) v2 st Q := h
    unfold wX2_begin_L75 at h
    refine lv_iload_n C.1 C.2.1 dX2_begin_75 rfl (lv_at hl 1 rfl) ?_
    refine lv_bipush C.1 C.2.1 (v := 12) dX2_begin_76 rfl ?_
    refine lv_icmp_ge C.1 C.2.1 (tgt := 94) dX2_begin_78 (by decide) (fun hc => ?_) (fun hc => ?_)
    · have h := h.1 hc
      refine lv_aload_n C.1 C.2.1 dX2_begin_94 rfl (lv_at hl 0 rfl) ?_
      refine lv_iconst C.1 C.2.1 (v := 1) dX2_begin_95 rfl ?_
      refine pf2_7 C hP hS hb (m2 hb hL) bz1 q305 dX2_begin_96 (fun H locs hP hS => ?_)
      obtain ⟨st7, est7⟩ : ∃ z, z = uI st b 7 1 := ⟨_, rfl⟩
      rw [← est7] at hP; have h := h st7 est7
      refine lv_aload_n C.1 C.2.1 dX2_begin_99 rfl (lv_at hl 0 rfl) ?_
      refine lv_bipush C.1 C.2.1 (v := 60) dX2_begin_100 rfl ?_
      refine pf2_8 C hP hS hb (m2 hb hL) q308 dX2_begin_102 (fun H locs hP hS => ?_)
      obtain ⟨st8, est8⟩ : ∃ z, z = uI st7 b 8 60 := ⟨_, rfl⟩
      rw [← est8] at hP; have h := h st8 est8
      refine lv_aload_n C.1 C.2.1 dX2_begin_105 rfl (lv_at hl 0 rfl) ?_
      refine lv_iconst C.1 C.2.1 (v := 0) dX2_begin_106 rfl ?_
      refine pf2_9 C hP hS hb (m2 hb hL) q310 dX2_begin_107 (fun H locs hP hS => ?_)
      obtain ⟨st9, est9⟩ : ∃ z, z = uI st8 b 9 0 := ⟨_, rfl⟩
      rw [← est9] at hP; have h := h st9 est9
      refine lv_aload_n C.1 C.2.1 dX2_begin_110 rfl (lv_at hl 0 rfl) ?_
      refine lv_iconst C.1 C.2.1 (v := 0) dX2_begin_111 rfl ?_
      refine pf2_10 C hP hS hb (m2 hb hL) q312 dX2_begin_112 (fun H locs hP hS => ?_)
      obtain ⟨st10, est10⟩ : ∃ z, z = uI st9 b 10 0 := ⟨_, rfl⟩
      rw [← est10] at hP; have h := h st10 est10
      refine lv_aload_n C.1 C.2.1 dX2_begin_115 rfl (lv_at hl 0 rfl) ?_
      refine lv_iconst C.1 C.2.1 (v := 0) dX2_begin_116 rfl ?_
      refine pf2_11 C hP hS hb (m2 hb hL) q314 dX2_begin_117 (fun H locs hP hS => ?_)
      obtain ⟨st11, est11⟩ : ∃ z, z = uI st10 b 11 0 := ⟨_, rfl⟩
      rw [← est11] at hP; have h := h st11 est11
      refine lv_aload_n C.1 C.2.1 dX2_begin_120 rfl (lv_at hl 0 rfl) ?_
      refine lv_iconst C.1 C.2.1 (v := 0) dX2_begin_121 rfl ?_
      refine pf2_12 C hP hS hb (m2 hb hL) q316 dX2_begin_122 (fun H locs hP hS => ?_)
      obtain ⟨st12, est12⟩ : ∃ z, z = uI st11 b 12 0 := ⟨_, rfl⟩
      rw [← est12] at hP; have h := h st12 est12
      refine lv_aload_n C.1 C.2.1 dX2_begin_125 rfl (lv_at hl 0 rfl) ?_
      refine lv_iconst C.1 C.2.1 (v := 0) dX2_begin_126 rfl ?_
      refine pf2_13 C hP hS hb (m2 hb hL) q318 dX2_begin_127 (fun H locs hP hS => ?_)
      obtain ⟨st13, est13⟩ : ∃ z, z = uI st12 b 13 0 := ⟨_, rfl⟩
      rw [← est13] at hP; have h := h st13 est13
      exact z_rv C hr hlk hP hS h dX2_begin_130
    · have h := h.2 hc
      refine lv_aload_n C.1 C.2.1 dX2_begin_81 rfl (lv_at hl 0 rfl) ?_
      refine gf2_6 C hP hb (m2 hb hL) q303 dX2_begin_82 ?_
      refine lv_iload_n C.1 C.2.1 dX2_begin_85 rfl (lv_at hl 1 rfl) ?_
      refine lv_iconst C.1 C.2.1 (v := 0) dX2_begin_86 rfl ?_
      obtain ⟨hi, h⟩ := h
      refine z_zast C hP hS (k2_4 hb) (l2_4 hb) (m2_4 hb hL) hi bz0 dX2_begin_87 (fun H locs hP hS => ?_)
      obtain ⟨st14, est14⟩ : ∃ z, z = uI st (b + 4) (v2 : Int32).toNatClampNeg 0 := ⟨_, rfl⟩
      rw [← est14] at hP; have h := h st14 est14
      obtain ⟨x15, ex15⟩ : ∃ z, z = v2 + 1 := ⟨_, rfl⟩
      have h := h x15 ex15
      refine lv_iinc C.1 C.2.1 dX2_begin_88 hl (k := 1) rfl ex15.symm (Nat.le_of_ble_eq_true rfl) rfl (fun ls hl => ?_)
      have hl : lv_has ls 3 [(2, .int x15), (0, .ref (E.2.1 b))] := hl
      refine lv_goto C.1 C.2.1 (tgt := 75) dX2_begin_91 (by decide) ?_
      exact hR75 x15 st14 _ _ _ h (lv_sub hl [1, 0] rfl) hP hS
set_option maxHeartbeats 4000000 in
set_option maxRecDepth 100000 in
theorem tX2_begin {l : Launch} {E : En0} {L : List Nat} (hE : EK E L) (hL : Cov 0 54 L) {b : Nat} {p1 : Nat} {st : St} {Q : St → Prop} (hb : kd b = 2) (hp1 : kd p1 = 1) (h : wX2_begin b p1 st Q) : Mz l yX2_begin cX2_begin 3 none rmX2_begin E L [.ref (E.2.1 b), .ref (E.2.1 p1)] st (zV E L Q) := by
  refine Mz.of hE (by decide) (Nat.le_of_ble_eq_true rfl) ?_
  intro p e s m below meth c ls C hr hlk _ hl hP
  replace C : Cx E L "PlankBridge$Bridge" cX2_begin 3 p s m _ c := C
  have hS : va_S (fA E L s.heap.size) s.heap s.heap [] := va_S.rf
  replace hl : lv_has ls 3 [(0, .ref (E.2.1 b)), (1, .ref (E.2.1 p1))] := hl
  unfold wX2_begin at h
  refine lv_aload_n C.1 C.2.1 dX2_begin_0 rfl (lv_at hl 0 rfl) ?_
  refine lv_aload_n C.1 C.2.1 dX2_begin_1 rfl (lv_at hl 1 rfl) ?_
  refine gn1_4 C hP hp1 (m1 hp1 hL) q198 dX2_begin_2 ?_
  refine pf2_0 C hP hS hb (m2 hb hL) q289 dX2_begin_5 (fun H locs hP hS => ?_)
  obtain ⟨st1, est1⟩ : ∃ z, z = uI st b 0 (gI st p1 4) := ⟨_, rfl⟩
  rw [← est1] at hP; have h := h st1 est1
  refine lv_aload_n C.1 C.2.1 dX2_begin_8 rfl (lv_at hl 1 rfl) ?_
  refine gn1_2 C hP hp1 (m1 hp1 hL) q194 dX2_begin_9 ?_
  refine lv_iconst C.1 C.2.1 (v := 0) dX2_begin_12 rfl ?_
  refine lv_aload_n C.1 C.2.1 dX2_begin_13 rfl (lv_at hl 0 rfl) ?_
  refine gf2_1 C hP hb (m2 hb hL) q292 dX2_begin_14 ?_
  refine lv_iconst C.1 C.2.1 (v := 0) dX2_begin_17 rfl ?_
  refine lv_bipush C.1 C.2.1 (v := 8) dX2_begin_18 rfl ?_
  refine z_copyi C hP hS hl (k1_2 hp1) (l1_2 hp1) (m1_2 hp1 hL) (k2_1 hb) (l2_1 hb) (m2_1 hb hL) q407 q409 q408 q115 (by decide) (by decide) (by decide) (Nat.le_of_ble_eq_true rfl) (Nat.le_of_ble_eq_true rfl) (Nat.le_of_ble_eq_true rfl) (Nat.le_of_ble_eq_true rfl) dX2_begin_20 (fun H locs hP hS => ?_)
  obtain ⟨st2, est2⟩ : ∃ z, z = sI st1 (b + 1) (va_cpy (st1.1 (p1 + 2)) (st1.1 (b + 1)) (0 : Int32).toNatClampNeg (0 : Int32).toNatClampNeg (8 : Int32).toNatClampNeg) := ⟨_, rfl⟩
  rw [← est2] at hP; have h := h st2 est2
  refine lv_aload_n C.1 C.2.1 dX2_begin_23 rfl (lv_at hl 1 rfl) ?_
  refine gn1_3 C hP hp1 (m1 hp1 hL) q196 dX2_begin_24 ?_
  refine lv_iconst C.1 C.2.1 (v := 0) dX2_begin_27 rfl ?_
  refine lv_aload_n C.1 C.2.1 dX2_begin_28 rfl (lv_at hl 0 rfl) ?_
  refine gf2_2 C hP hb (m2 hb hL) q294 dX2_begin_29 ?_
  refine lv_iconst C.1 C.2.1 (v := 0) dX2_begin_32 rfl ?_
  refine lv_bipush C.1 C.2.1 (v := 8) dX2_begin_33 rfl ?_
  refine z_copyi C hP hS hl (k1_3 hp1) (l1_3 hp1) (m1_3 hp1 hL) (k2_2 hb) (l2_2 hb) (m2_2 hb hL) q407 q409 q408 q115 (by decide) (by decide) (by decide) (Nat.le_of_ble_eq_true rfl) (Nat.le_of_ble_eq_true rfl) (Nat.le_of_ble_eq_true rfl) (Nat.le_of_ble_eq_true rfl) dX2_begin_35 (fun H locs hP hS => ?_)
  obtain ⟨st3, est3⟩ : ∃ z, z = sI st2 (b + 2) (va_cpy (st2.1 (p1 + 3)) (st2.1 (b + 2)) (0 : Int32).toNatClampNeg (0 : Int32).toNatClampNeg (8 : Int32).toNatClampNeg) := ⟨_, rfl⟩
  rw [← est3] at hP; have h := h st3 est3
  refine lv_aload_n C.1 C.2.1 dX2_begin_38 rfl (lv_at hl 0 rfl) ?_
  refine lv_iconst C.1 C.2.1 (v := 1) dX2_begin_39 rfl ?_
  refine lv_aload_n C.1 C.2.1 dX2_begin_40 rfl (lv_at hl 0 rfl) ?_
  refine gf2_0 C hP hb (m2 hb hL) q289 dX2_begin_41 ?_
  refine lv_ishl C.1 C.2.1 dX2_begin_44  ?_
  refine lv_iconst C.1 C.2.1 (v := 1) dX2_begin_45 rfl ?_
  refine lv_isub C.1 C.2.1 dX2_begin_46  ?_
  refine pf2_3 C hP hS hb (m2 hb hL) q296 dX2_begin_47 (fun H locs hP hS => ?_)
  obtain ⟨st4, est4⟩ : ∃ z, z = uI st3 b 3 (((1 : Int32) <<< ((gI st3 b 0) &&& 31)) - 1) := ⟨_, rfl⟩
  rw [← est4] at hP; have h := h st4 est4
  refine lv_aload_n C.1 C.2.1 dX2_begin_50 rfl (lv_at hl 0 rfl) ?_
  refine lv_aload_n C.1 C.2.1 dX2_begin_51 rfl (lv_at hl 1 rfl) ?_
  refine gn1_6 C hP hp1 (m1 hp1 hL) q203 dX2_begin_52 ?_
  refine pf2_4 C hP hS hb (m2 hb hL) q299 dX2_begin_55 (fun H locs hP hS => ?_)
  obtain ⟨st5, est5⟩ : ∃ z, z = uI st4 b 4 (gI st4 p1 6) := ⟨_, rfl⟩
  rw [← est5] at hP; have h := h st5 est5
  refine lv_aload_n C.1 C.2.1 dX2_begin_58 rfl (lv_at hl 1 rfl) ?_
  refine gn1_5 C hP hp1 (m1 hp1 hL) q201 dX2_begin_59 ?_
  refine lv_iconst C.1 C.2.1 (v := 0) dX2_begin_62 rfl ?_
  refine lv_aload_n C.1 C.2.1 dX2_begin_63 rfl (lv_at hl 0 rfl) ?_
  refine gf2_5 C hP hb (m2 hb hL) q301 dX2_begin_64 ?_
  refine lv_iconst C.1 C.2.1 (v := 0) dX2_begin_67 rfl ?_
  refine lv_bipush C.1 C.2.1 (v := 12) dX2_begin_68 rfl ?_
  refine z_copyi C hP hS hl (k1_4 hp1) (l1_4 hp1) (m1_4 hp1 hL) (k2_3 hb) (l2_3 hb) (m2_3 hb hL) q407 q409 q408 q115 (by decide) (by decide) (by decide) (Nat.le_of_ble_eq_true rfl) (Nat.le_of_ble_eq_true rfl) (Nat.le_of_ble_eq_true rfl) (Nat.le_of_ble_eq_true rfl) dX2_begin_70 (fun H locs hP hS => ?_)
  obtain ⟨st6, est6⟩ : ∃ z, z = sI st5 (b + 3) (va_cpy (st5.1 (p1 + 4)) (st5.1 (b + 3)) (0 : Int32).toNatClampNeg (0 : Int32).toNatClampNeg (12 : Int32).toNatClampNeg) := ⟨_, rfl⟩
  rw [← est6] at hP; have h := h st6 est6
  refine lv_iconst C.1 C.2.1 (v := 0) dX2_begin_73 rfl ?_
  refine lv_istore_n C.1 C.2.1 dX2_begin_74 rfl hl (Nat.le_of_ble_eq_true rfl) rfl (fun ls hl => ?_)
  have hl : lv_has ls 3 [(2, .int 0), (0, .ref (E.2.1 b)), (1, .ref (E.2.1 p1))] := hl
  obtain ⟨n, h⟩ := h
  exact tX2_begin_L75 hL C hr hlk hb hp1 n 0 st6 _ _ _ h (lv_sub hl [1, 0] rfl) hP hS
def rmX2_copyFrom : Room := { frames := 1, cells := 0, slots := 0, locals := 60 }
def wX2_copyFrom_L71 (b : Nat) (p1 : Nat)  (R71 : Int32 × St → Prop) (v2 : Int32) (st : St) (Q : St → Prop) : Prop :=
  ((12 ≤ v2 → (bz (gI st p1 7) ∧ ∀ st7, st7 = uI st b 7 (gI st p1 7) → (∀ st8, st8 = uI st7 b 8 (gI st7 p1 8) → (∀ st9, st9 = uI st8 b 9 (gI st8 p1 9) → (∀ st10, st10 = uI st9 b 10 (gI st9 p1 10) → (∀ st11, st11 = uI st10 b 11 (gI st10 p1 11) → (∀ st12, st12 = uI st11 b 12 (gI st11 p1 12) → (∀ st13, st13 = uI st12 b 13 (gI st12 p1 13) → (∀ st14, st14 = sI st13 (b + 5) (va_cpy (st13.1 (p1 + 5)) (st13.1 (b + 5)) (0 : Int32).toNatClampNeg (0 : Int32).toNatClampNeg (10 : Int32).toNatClampNeg) → Q st14))))))))) ∧ (¬ 12 ≤ v2 → (vp_in v2 12 ∧ (vp_in v2 12 ∧ bz (gI st (p1 + 4) (v2 : Int32).toNatClampNeg) ∧ ∀ st15, st15 = uI st (b + 4) (v2 : Int32).toNatClampNeg (gI st (p1 + 4) (v2 : Int32).toNatClampNeg) → (∀ x16 : Int32, x16 = v2 + 1 → R71 (x16, st15))))))
def wX2_copyFrom (b : Nat) (p1 : Nat) (st : St) (Q : St → Prop) : Prop :=
  (∀ st1, st1 = uI st b 0 (gI st p1 0) → (∀ st2, st2 = sI st1 (b + 1) (va_cpy (st1.1 (p1 + 1)) (st1.1 (b + 1)) (0 : Int32).toNatClampNeg (0 : Int32).toNatClampNeg (8 : Int32).toNatClampNeg) → (∀ st3, st3 = sI st2 (b + 2) (va_cpy (st2.1 (p1 + 2)) (st2.1 (b + 2)) (0 : Int32).toNatClampNeg (0 : Int32).toNatClampNeg (8 : Int32).toNatClampNeg) → (∀ st4, st4 = uI st3 b 3 (gI st3 p1 3) → (∀ st5, st5 = uI st4 b 4 (gI st4 p1 4) → (∀ st6, st6 = sI st5 (b + 3) (va_cpy (st5.1 (p1 + 3)) (st5.1 (b + 3)) (0 : Int32).toNatClampNeg (0 : Int32).toNatClampNeg (12 : Int32).toNatClampNeg) → (∃ n, lp (fun R s => wX2_copyFrom_L71 b p1 R s.1 s.2 Q) n (0, st6))))))))
theorem hdX2_copyFrom : yX2_copyFrom.cls = "PlankBridge$Bridge" ∧ yX2_copyFrom.cls ≠ "java/lang/invoke/MethodHandle" ∧ yX2_copyFrom.cls ≠ "java/lang/invoke/VarHandle" ∧ (parseMethodDescriptor yX2_copyFrom.desc).map (fun d => d.parameters.length) = some 1 := by decide +kernel
set_option maxHeartbeats 4000000 in
set_option maxRecDepth 100000 in
theorem tX2_copyFrom_L71 {l : Launch} {p : Program} {e : Env} {s : State} {m : MethodId} {args : Array Value} {below : List Frame} {meth : Method} {c : Code} {E : En0} {L : List Nat} (hL : Cov 0 54 L) (C : Cx E L "PlankBridge$Bridge" cX2_copyFrom 3 p s m args c) (hr : meth.sig.returnType = none) (hlk : meth.locks = false) {b : Nat} {p1 : Nat} {Q : St → Prop} (hb : kd b = 2) (hp1 : kd p1 = 2) : ∀ (n : Nat) (v2 : Int32) (st : St) (H : Heap) (locs : List Loc) (ls : Array Slot), lp (fun R s => wX2_copyFrom_L71 b p1 R s.1 s.2 Q) n (v2, st) → lv_has ls 3 [(0, .ref (E.2.1 b)), (1, .ref (E.2.1 p1)), (2, .int v2)] → va_P E.1 vwCl (wd E L st) H → va_S (fA E L s.heap.size) s.heap H locs → W p l e rmX2_copyFrom s m args below meth c H locs 0 0 (MQ below (zV E L Q (fA E L s.heap.size)) args s rmX2_copyFrom.cells rmX2_copyFrom.slots (fA E L s.heap.size)) (F0 m 71 ls []) := by
  intro n
  induction n with
  | zero => exact fun _ _ _ _ _ h _ _ _ => False.elim ‹_›
  | succ n ih =>
    intro v2 st  H locs ls h hl hP hS
    have hR71 := ih
    replace h : wX2_copyFrom_L71 b p1 (lp (fun R s => wX2_copyFrom_L71 b p1 R s.1 s.2 Q) n) v2 st Q := h
    unfold wX2_copyFrom_L71 at h
    refine lv_iload_n C.1 C.2.1 dX2_copyFrom_71 rfl (lv_at hl 2 rfl) ?_
    refine lv_bipush C.1 C.2.1 (v := 12) dX2_copyFrom_72 rfl ?_
    refine lv_icmp_ge C.1 C.2.1 (tgt := 95) dX2_copyFrom_74 (by decide) (fun hc => ?_) (fun hc => ?_)
    · have h := h.1 hc
      refine lv_aload_n C.1 C.2.1 dX2_copyFrom_95 rfl (lv_at hl 0 rfl) ?_
      refine lv_aload_n C.1 C.2.1 dX2_copyFrom_96 rfl (lv_at hl 1 rfl) ?_
      refine gf2_7 C hP hp1 (m2 hp1 hL) q305 dX2_copyFrom_97 ?_
      obtain ⟨hz, h⟩ := h
      refine pf2_7 C hP hS hb (m2 hb hL) hz q305 dX2_copyFrom_100 (fun H locs hP hS => ?_)
      obtain ⟨st7, est7⟩ : ∃ z, z = uI st b 7 (gI st p1 7) := ⟨_, rfl⟩
      rw [← est7] at hP; have h := h st7 est7
      refine lv_aload_n C.1 C.2.1 dX2_copyFrom_103 rfl (lv_at hl 0 rfl) ?_
      refine lv_aload_n C.1 C.2.1 dX2_copyFrom_104 rfl (lv_at hl 1 rfl) ?_
      refine gf2_8 C hP hp1 (m2 hp1 hL) q308 dX2_copyFrom_105 ?_
      refine pf2_8 C hP hS hb (m2 hb hL) q308 dX2_copyFrom_108 (fun H locs hP hS => ?_)
      obtain ⟨st8, est8⟩ : ∃ z, z = uI st7 b 8 (gI st7 p1 8) := ⟨_, rfl⟩
      rw [← est8] at hP; have h := h st8 est8
      refine lv_aload_n C.1 C.2.1 dX2_copyFrom_111 rfl (lv_at hl 0 rfl) ?_
      refine lv_aload_n C.1 C.2.1 dX2_copyFrom_112 rfl (lv_at hl 1 rfl) ?_
      refine gf2_9 C hP hp1 (m2 hp1 hL) q310 dX2_copyFrom_113 ?_
      refine pf2_9 C hP hS hb (m2 hb hL) q310 dX2_copyFrom_116 (fun H locs hP hS => ?_)
      obtain ⟨st9, est9⟩ : ∃ z, z = uI st8 b 9 (gI st8 p1 9) := ⟨_, rfl⟩
      rw [← est9] at hP; have h := h st9 est9
      refine lv_aload_n C.1 C.2.1 dX2_copyFrom_119 rfl (lv_at hl 0 rfl) ?_
      refine lv_aload_n C.1 C.2.1 dX2_copyFrom_120 rfl (lv_at hl 1 rfl) ?_
      refine gf2_10 C hP hp1 (m2 hp1 hL) q312 dX2_copyFrom_121 ?_
      refine pf2_10 C hP hS hb (m2 hb hL) q312 dX2_copyFrom_124 (fun H locs hP hS => ?_)
      obtain ⟨st10, est10⟩ : ∃ z, z = uI st9 b 10 (gI st9 p1 10) := ⟨_, rfl⟩
      rw [← est10] at hP; have h := h st10 est10
      refine lv_aload_n C.1 C.2.1 dX2_copyFrom_127 rfl (lv_at hl 0 rfl) ?_
      refine lv_aload_n C.1 C.2.1 dX2_copyFrom_128 rfl (lv_at hl 1 rfl) ?_
      refine gf2_11 C hP hp1 (m2 hp1 hL) q314 dX2_copyFrom_129 ?_
      refine pf2_11 C hP hS hb (m2 hb hL) q314 dX2_copyFrom_132 (fun H locs hP hS => ?_)
      obtain ⟨st11, est11⟩ : ∃ z, z = uI st10 b 11 (gI st10 p1 11) := ⟨_, rfl⟩
      rw [← est11] at hP; have h := h st11 est11
      refine lv_aload_n C.1 C.2.1 dX2_copyFrom_135 rfl (lv_at hl 0 rfl) ?_
      refine lv_aload_n C.1 C.2.1 dX2_copyFrom_136 rfl (lv_at hl 1 rfl) ?_
      refine gf2_12 C hP hp1 (m2 hp1 hL) q316 dX2_copyFrom_137 ?_
      refine pf2_12 C hP hS hb (m2 hb hL) q316 dX2_copyFrom_140 (fun H locs hP hS => ?_)
      obtain ⟨st12, est12⟩ : ∃ z, z = uI st11 b 12 (gI st11 p1 12) := ⟨_, rfl⟩
      rw [← est12] at hP; have h := h st12 est12
      refine lv_aload_n C.1 C.2.1 dX2_copyFrom_143 rfl (lv_at hl 0 rfl) ?_
      refine lv_aload_n C.1 C.2.1 dX2_copyFrom_144 rfl (lv_at hl 1 rfl) ?_
      refine gf2_13 C hP hp1 (m2 hp1 hL) q318 dX2_copyFrom_145 ?_
      refine pf2_13 C hP hS hb (m2 hb hL) q318 dX2_copyFrom_148 (fun H locs hP hS => ?_)
      obtain ⟨st13, est13⟩ : ∃ z, z = uI st12 b 13 (gI st12 p1 13) := ⟨_, rfl⟩
      rw [← est13] at hP; have h := h st13 est13
      refine lv_aload_n C.1 C.2.1 dX2_copyFrom_151 rfl (lv_at hl 1 rfl) ?_
      refine gf2_14 C hP hp1 (m2 hp1 hL) q320 dX2_copyFrom_152 ?_
      refine lv_iconst C.1 C.2.1 (v := 0) dX2_copyFrom_155 rfl ?_
      refine lv_aload_n C.1 C.2.1 dX2_copyFrom_156 rfl (lv_at hl 0 rfl) ?_
      refine gf2_14 C hP hb (m2 hb hL) q320 dX2_copyFrom_157 ?_
      refine lv_iconst C.1 C.2.1 (v := 0) dX2_copyFrom_160 rfl ?_
      refine lv_bipush C.1 C.2.1 (v := 10) dX2_copyFrom_161 rfl ?_
      refine z_copyi C hP hS hl (k2_5 hp1) (l2_5 hp1) (m2_5 hp1 hL) (k2_5 hb) (l2_5 hb) (m2_5 hb hL) q407 q409 q408 q115 (by decide) (by decide) (by decide) (Nat.le_of_ble_eq_true rfl) (Nat.le_of_ble_eq_true rfl) (Nat.le_of_ble_eq_true rfl) (Nat.le_of_ble_eq_true rfl) dX2_copyFrom_163 (fun H locs hP hS => ?_)
      obtain ⟨st14, est14⟩ : ∃ z, z = sI st13 (b + 5) (va_cpy (st13.1 (p1 + 5)) (st13.1 (b + 5)) (0 : Int32).toNatClampNeg (0 : Int32).toNatClampNeg (10 : Int32).toNatClampNeg) := ⟨_, rfl⟩
      rw [← est14] at hP; have h := h st14 est14
      exact z_rv C hr hlk hP hS h dX2_copyFrom_166
    · have h := h.2 hc
      refine lv_aload_n C.1 C.2.1 dX2_copyFrom_77 rfl (lv_at hl 0 rfl) ?_
      refine gf2_6 C hP hb (m2 hb hL) q303 dX2_copyFrom_78 ?_
      refine lv_iload_n C.1 C.2.1 dX2_copyFrom_81 rfl (lv_at hl 2 rfl) ?_
      refine lv_aload_n C.1 C.2.1 dX2_copyFrom_82 rfl (lv_at hl 1 rfl) ?_
      refine gf2_6 C hP hp1 (m2 hp1 hL) q303 dX2_copyFrom_83 ?_
      refine lv_iload_n C.1 C.2.1 dX2_copyFrom_86 rfl (lv_at hl 2 rfl) ?_
      obtain ⟨hi, h⟩ := h
      refine z_zald C hP (k2_4 hp1) (l2_4 hp1) (m2_4 hp1 hL) hi dX2_copyFrom_87 ?_
      obtain ⟨hi, h⟩ := h
      obtain ⟨hz, h⟩ := h
      refine z_zast C hP hS (k2_4 hb) (l2_4 hb) (m2_4 hb hL) hi hz dX2_copyFrom_88 (fun H locs hP hS => ?_)
      obtain ⟨st15, est15⟩ : ∃ z, z = uI st (b + 4) (v2 : Int32).toNatClampNeg (gI st (p1 + 4) (v2 : Int32).toNatClampNeg) := ⟨_, rfl⟩
      rw [← est15] at hP; have h := h st15 est15
      obtain ⟨x16, ex16⟩ : ∃ z, z = v2 + 1 := ⟨_, rfl⟩
      have h := h x16 ex16
      refine lv_iinc C.1 C.2.1 dX2_copyFrom_89 hl (k := 2) rfl ex16.symm (Nat.le_of_ble_eq_true rfl) rfl (fun ls hl => ?_)
      have hl : lv_has ls 3 [(2, .int x16), (0, .ref (E.2.1 b)), (1, .ref (E.2.1 p1))] := hl
      refine lv_goto C.1 C.2.1 (tgt := 71) dX2_copyFrom_92 (by decide) ?_
      exact hR71 x16 st15 _ _ _ h (lv_sub hl [1, 2, 0] rfl) hP hS
set_option maxHeartbeats 4000000 in
set_option maxRecDepth 100000 in
theorem tX2_copyFrom {l : Launch} {E : En0} {L : List Nat} (hE : EK E L) (hL : Cov 0 54 L) {b : Nat} {p1 : Nat} {st : St} {Q : St → Prop} (hb : kd b = 2) (hp1 : kd p1 = 2) (h : wX2_copyFrom b p1 st Q) : Mz l yX2_copyFrom cX2_copyFrom 3 none rmX2_copyFrom E L [.ref (E.2.1 b), .ref (E.2.1 p1)] st (zV E L Q) := by
  refine Mz.of hE (by decide) (Nat.le_of_ble_eq_true rfl) ?_
  intro p e s m below meth c ls C hr hlk _ hl hP
  replace C : Cx E L "PlankBridge$Bridge" cX2_copyFrom 3 p s m _ c := C
  have hS : va_S (fA E L s.heap.size) s.heap s.heap [] := va_S.rf
  replace hl : lv_has ls 3 [(0, .ref (E.2.1 b)), (1, .ref (E.2.1 p1))] := hl
  unfold wX2_copyFrom at h
  refine lv_aload_n C.1 C.2.1 dX2_copyFrom_0 rfl (lv_at hl 0 rfl) ?_
  refine lv_aload_n C.1 C.2.1 dX2_copyFrom_1 rfl (lv_at hl 1 rfl) ?_
  refine gf2_0 C hP hp1 (m2 hp1 hL) q289 dX2_copyFrom_2 ?_
  refine pf2_0 C hP hS hb (m2 hb hL) q289 dX2_copyFrom_5 (fun H locs hP hS => ?_)
  obtain ⟨st1, est1⟩ : ∃ z, z = uI st b 0 (gI st p1 0) := ⟨_, rfl⟩
  rw [← est1] at hP; have h := h st1 est1
  refine lv_aload_n C.1 C.2.1 dX2_copyFrom_8 rfl (lv_at hl 1 rfl) ?_
  refine gf2_1 C hP hp1 (m2 hp1 hL) q292 dX2_copyFrom_9 ?_
  refine lv_iconst C.1 C.2.1 (v := 0) dX2_copyFrom_12 rfl ?_
  refine lv_aload_n C.1 C.2.1 dX2_copyFrom_13 rfl (lv_at hl 0 rfl) ?_
  refine gf2_1 C hP hb (m2 hb hL) q292 dX2_copyFrom_14 ?_
  refine lv_iconst C.1 C.2.1 (v := 0) dX2_copyFrom_17 rfl ?_
  refine lv_bipush C.1 C.2.1 (v := 8) dX2_copyFrom_18 rfl ?_
  refine z_copyi C hP hS hl (k2_1 hp1) (l2_1 hp1) (m2_1 hp1 hL) (k2_1 hb) (l2_1 hb) (m2_1 hb hL) q407 q409 q408 q115 (by decide) (by decide) (by decide) (Nat.le_of_ble_eq_true rfl) (Nat.le_of_ble_eq_true rfl) (Nat.le_of_ble_eq_true rfl) (Nat.le_of_ble_eq_true rfl) dX2_copyFrom_20 (fun H locs hP hS => ?_)
  obtain ⟨st2, est2⟩ : ∃ z, z = sI st1 (b + 1) (va_cpy (st1.1 (p1 + 1)) (st1.1 (b + 1)) (0 : Int32).toNatClampNeg (0 : Int32).toNatClampNeg (8 : Int32).toNatClampNeg) := ⟨_, rfl⟩
  rw [← est2] at hP; have h := h st2 est2
  refine lv_aload_n C.1 C.2.1 dX2_copyFrom_23 rfl (lv_at hl 1 rfl) ?_
  refine gf2_2 C hP hp1 (m2 hp1 hL) q294 dX2_copyFrom_24 ?_
  refine lv_iconst C.1 C.2.1 (v := 0) dX2_copyFrom_27 rfl ?_
  refine lv_aload_n C.1 C.2.1 dX2_copyFrom_28 rfl (lv_at hl 0 rfl) ?_
  refine gf2_2 C hP hb (m2 hb hL) q294 dX2_copyFrom_29 ?_
  refine lv_iconst C.1 C.2.1 (v := 0) dX2_copyFrom_32 rfl ?_
  refine lv_bipush C.1 C.2.1 (v := 8) dX2_copyFrom_33 rfl ?_
  refine z_copyi C hP hS hl (k2_2 hp1) (l2_2 hp1) (m2_2 hp1 hL) (k2_2 hb) (l2_2 hb) (m2_2 hb hL) q407 q409 q408 q115 (by decide) (by decide) (by decide) (Nat.le_of_ble_eq_true rfl) (Nat.le_of_ble_eq_true rfl) (Nat.le_of_ble_eq_true rfl) (Nat.le_of_ble_eq_true rfl) dX2_copyFrom_35 (fun H locs hP hS => ?_)
  obtain ⟨st3, est3⟩ : ∃ z, z = sI st2 (b + 2) (va_cpy (st2.1 (p1 + 2)) (st2.1 (b + 2)) (0 : Int32).toNatClampNeg (0 : Int32).toNatClampNeg (8 : Int32).toNatClampNeg) := ⟨_, rfl⟩
  rw [← est3] at hP; have h := h st3 est3
  refine lv_aload_n C.1 C.2.1 dX2_copyFrom_38 rfl (lv_at hl 0 rfl) ?_
  refine lv_aload_n C.1 C.2.1 dX2_copyFrom_39 rfl (lv_at hl 1 rfl) ?_
  refine gf2_3 C hP hp1 (m2 hp1 hL) q296 dX2_copyFrom_40 ?_
  refine pf2_3 C hP hS hb (m2 hb hL) q296 dX2_copyFrom_43 (fun H locs hP hS => ?_)
  obtain ⟨st4, est4⟩ : ∃ z, z = uI st3 b 3 (gI st3 p1 3) := ⟨_, rfl⟩
  rw [← est4] at hP; have h := h st4 est4
  refine lv_aload_n C.1 C.2.1 dX2_copyFrom_46 rfl (lv_at hl 0 rfl) ?_
  refine lv_aload_n C.1 C.2.1 dX2_copyFrom_47 rfl (lv_at hl 1 rfl) ?_
  refine gf2_4 C hP hp1 (m2 hp1 hL) q299 dX2_copyFrom_48 ?_
  refine pf2_4 C hP hS hb (m2 hb hL) q299 dX2_copyFrom_51 (fun H locs hP hS => ?_)
  obtain ⟨st5, est5⟩ : ∃ z, z = uI st4 b 4 (gI st4 p1 4) := ⟨_, rfl⟩
  rw [← est5] at hP; have h := h st5 est5
  refine lv_aload_n C.1 C.2.1 dX2_copyFrom_54 rfl (lv_at hl 1 rfl) ?_
  refine gf2_5 C hP hp1 (m2 hp1 hL) q301 dX2_copyFrom_55 ?_
  refine lv_iconst C.1 C.2.1 (v := 0) dX2_copyFrom_58 rfl ?_
  refine lv_aload_n C.1 C.2.1 dX2_copyFrom_59 rfl (lv_at hl 0 rfl) ?_
  refine gf2_5 C hP hb (m2 hb hL) q301 dX2_copyFrom_60 ?_
  refine lv_iconst C.1 C.2.1 (v := 0) dX2_copyFrom_63 rfl ?_
  refine lv_bipush C.1 C.2.1 (v := 12) dX2_copyFrom_64 rfl ?_
  refine z_copyi C hP hS hl (k2_3 hp1) (l2_3 hp1) (m2_3 hp1 hL) (k2_3 hb) (l2_3 hb) (m2_3 hb hL) q407 q409 q408 q115 (by decide) (by decide) (by decide) (Nat.le_of_ble_eq_true rfl) (Nat.le_of_ble_eq_true rfl) (Nat.le_of_ble_eq_true rfl) (Nat.le_of_ble_eq_true rfl) dX2_copyFrom_66 (fun H locs hP hS => ?_)
  obtain ⟨st6, est6⟩ : ∃ z, z = sI st5 (b + 3) (va_cpy (st5.1 (p1 + 3)) (st5.1 (b + 3)) (0 : Int32).toNatClampNeg (0 : Int32).toNatClampNeg (12 : Int32).toNatClampNeg) := ⟨_, rfl⟩
  rw [← est6] at hP; have h := h st6 est6
  refine lv_iconst C.1 C.2.1 (v := 0) dX2_copyFrom_69 rfl ?_
  refine lv_istore_n C.1 C.2.1 dX2_copyFrom_70 rfl hl (Nat.le_of_ble_eq_true rfl) rfl (fun ls hl => ?_)
  have hl : lv_has ls 3 [(2, .int 0), (0, .ref (E.2.1 b)), (1, .ref (E.2.1 p1))] := hl
  obtain ⟨n, h⟩ := h
  exact tX2_copyFrom_L71 hL C hr hlk hb hp1 n 0 st6 _ _ _ h (lv_sub hl [1, 2, 0] rfl) hP hS

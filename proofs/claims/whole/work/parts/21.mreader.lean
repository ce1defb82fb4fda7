def rmX11_note : Room := { frames := 0, cells := 0, slots := 0, locals := 0 }
def wX11_note_L27 (b : Nat) (p1 : Int32)  (v1 : Int32) (st : St) (Q : St → Prop) : Prop :=
  (∀ st1, st1 = uI st b 11 v1 → (∀ st2, st2 = uI st1 b 12 (gI st1 b 7) → Q st2))
def wX11_note (b : Nat) (p1 : Int32) (st : St) (Q : St → Prop) : Prop :=
  (((gI st b 11) = 0 → wX11_note_L27 b p1 p1 st Q) ∧ (¬ (gI st b 11) = 0 → (((gI st b 12) < (gI st b 7) → Q st) ∧ (¬ (gI st b 12) < (gI st b 7) → ((p1 ≤ (gI st b 11) → wX11_note_L27 b p1 p1 st Q) ∧ (¬ p1 ≤ (gI st b 11) → Q st))))))
theorem hdX11_note : yX11_note.cls = "PlankBridgeModel$Reader" ∧ yX11_note.cls ≠ "java/lang/invoke/MethodHandle" ∧ yX11_note.cls ≠ "java/lang/invoke/VarHandle" ∧ (parseMethodDescriptor yX11_note.desc).map (fun d => d.parameters.length) = some 1 := by decide +kernel
set_option maxHeartbeats 4000000 in
set_option maxRecDepth 100000 in
theorem tX11_note_L27 {l : Launch} {p : Program} {e : Env} {s : State} {m : MethodId} {args : Array Value} {below : List Frame} {meth : Method} {c : Code} {E : En0} {L : List Nat} (hL : Cov 54 77 L) (C : Cx E L "PlankBridgeModel$Reader" cX11_note 2 p s m args c) (hr : meth.sig.returnType = none) (hlk : meth.locks = false) {b : Nat} {p1 : Int32} {Q : St → Prop} (hb : kd b = 10) {v1 : Int32}  {st : St} (H : Heap) (locs : List Loc) (ls : Array Slot) (h : wX11_note_L27 b p1 v1 st Q) (hl : lv_has ls 2 [(0, .ref (E.2.1 b)), (1, .int v1)]) (hP : va_P E.1 vwCl (wd E L st) H) (hS : va_S (fA E L s.heap.size) s.heap H locs) : W p l e rmX11_note s m args below meth c H locs 0 0 (MQ below (zV E L Q (fA E L s.heap.size)) args s rmX11_note.cells rmX11_note.slots (fA E L s.heap.size)) (F0 m 27 ls []) := by
  unfold wX11_note_L27 at h
  refine lv_aload_n C.1 C.2.1 dX11_note_27 rfl (lv_at hl 0 rfl) ?_
  refine lv_iload_n C.1 C.2.1 dX11_note_28 rfl (lv_at hl 1 rfl) ?_
  refine pf10_11 C hP hS hb (m10 hb hL) q1450 dX11_note_29 (fun H locs hP hS => ?_)
  obtain ⟨st1, est1⟩ : ∃ z, z = uI st b 11 v1 := ⟨_, rfl⟩
  rw [← est1] at hP; have h := h st1 est1
  refine lv_aload_n C.1 C.2.1 dX11_note_32 rfl (lv_at hl 0 rfl) ?_
  refine lv_aload_n C.1 C.2.1 dX11_note_33 rfl (lv_at hl 0 rfl) ?_
  refine gf10_7 C hP hb (m10 hb hL) q1446 dX11_note_34 ?_
  refine pf10_12 C hP hS hb (m10 hb hL) q1452 dX11_note_37 (fun H locs hP hS => ?_)
  obtain ⟨st2, est2⟩ : ∃ z, z = uI st1 b 12 (gI st1 b 7) := ⟨_, rfl⟩
  rw [← est2] at hP; have h := h st2 est2
  exact z_rv C hr hlk hP hS h dX11_note_40
set_option maxHeartbeats 4000000 in
set_option maxRecDepth 100000 in
theorem tX11_note {l : Launch} {E : En0} {L : List Nat} (hE : EK E L) (hL : Cov 54 77 L) {b : Nat} {p1 : Int32} {st : St} {Q : St → Prop} (hb : kd b = 10) (h : wX11_note b p1 st Q) : Mz l yX11_note cX11_note 2 none rmX11_note E L [.ref (E.2.1 b), .int p1] st (zV E L Q) := by
  refine Mz.of hE (by decide) (Nat.le_of_ble_eq_true rfl) ?_
  intro p e s m below meth c ls C hr hlk _ hl hP
  replace C : Cx E L "PlankBridgeModel$Reader" cX11_note 2 p s m _ c := C
  have hS : va_S (fA E L s.heap.size) s.heap s.heap [] := va_S.rf
  replace hl : lv_has ls 2 [(0, .ref (E.2.1 b)), (1, .int p1)] := hl
  unfold wX11_note at h
  refine lv_aload_n C.1 C.2.1 dX11_note_0 rfl (lv_at hl 0 rfl) ?_
  refine gf10_11 C hP hb (m10 hb hL) q1450 dX11_note_1 ?_
  refine lv_if_eq C.1 C.2.1 (tgt := 27) dX11_note_4 (by decide) (fun hc => ?_) (fun hc => ?_)
  · have h := h.1 hc
    exact tX11_note_L27 hL C hr hlk hb _ _ _ h hl hP hS
  · have h := h.2 hc
    refine lv_aload_n C.1 C.2.1 dX11_note_7 rfl (lv_at hl 0 rfl) ?_
    refine gf10_12 C hP hb (m10 hb hL) q1452 dX11_note_8 ?_
    refine lv_aload_n C.1 C.2.1 dX11_note_11 rfl (lv_at hl 0 rfl) ?_
    refine gf10_7 C hP hb (m10 hb hL) q1446 dX11_note_12 ?_
    refine lv_icmp_lt C.1 C.2.1 (tgt := 26) dX11_note_15 (by decide) (fun hc => ?_) (fun hc => ?_)
    · have h := h.1 hc
      exact z_rv C hr hlk hP hS h dX11_note_26
    · have h := h.2 hc
      refine lv_aload_n C.1 C.2.1 dX11_note_18 rfl (lv_at hl 0 rfl) ?_
      refine gf10_11 C hP hb (m10 hb hL) q1450 dX11_note_19 ?_
      refine lv_iload_n C.1 C.2.1 dX11_note_22 rfl (lv_at hl 1 rfl) ?_
      refine lv_icmp_ge C.1 C.2.1 (tgt := 27) dX11_note_23 (by decide) (fun hc => ?_) (fun hc => ?_)
      · have h := h.1 hc
        exact tX11_note_L27 hL C hr hlk hb _ _ _ h hl hP hS
      · have h := h.2 hc
        exact z_rv C hr hlk hP hS h dX11_note_26
def rmX11_wrong : Room := { frames := 0, cells := 0, slots := 0, locals := 0 }
def wX11_wrong (b : Nat) (st : St) (Q : Int32 → St → Prop) : Prop :=
  (∀ st1, st1 = uI st b 13 (gI st b 7) → Q 0 st1)
theorem hdX11_wrong : yX11_wrong.cls = "PlankBridgeModel$Reader" ∧ yX11_wrong.cls ≠ "java/lang/invoke/MethodHandle" ∧ yX11_wrong.cls ≠ "java/lang/invoke/VarHandle" ∧ (parseMethodDescriptor yX11_wrong.desc).map (fun d => d.parameters.length) = some 0 := by decide +kernel
set_option maxHeartbeats 4000000 in
set_option maxRecDepth 100000 in
theorem tX11_wrong {l : Launch} {E : En0} {L : List Nat} (hE : EK E L) (hL : Cov 54 77 L) {b : Nat} {st : St} {Q : Int32 → St → Prop} (hb : kd b = 10) (h : wX11_wrong b st Q) : Mz l yX11_wrong cX11_wrong 1 (some .boolean) rmX11_wrong E L [.ref (E.2.1 b)] st (zI E L (fun r u => bz r ∧ Q r u)) := by
  refine Mz.of hE (by decide) (Nat.le_of_ble_eq_true rfl) ?_
  intro p e s m below meth c ls C hr hlk _ hl hP
  replace C : Cx E L "PlankBridgeModel$Reader" cX11_wrong 1 p s m _ c := C
  have hS : va_S (fA E L s.heap.size) s.heap s.heap [] := va_S.rf
  replace hl : lv_has ls 1 [(0, .ref (E.2.1 b))] := hl
  unfold wX11_wrong at h
  refine lv_aload_n C.1 C.2.1 dX11_wrong_0 rfl (lv_at hl 0 rfl) ?_
  refine lv_aload_n C.1 C.2.1 dX11_wrong_1 rfl (lv_at hl 0 rfl) ?_
  refine gf10_7 C hP hb (m10 hb hL) q1446 dX11_wrong_2 ?_
  refine pf10_13 C hP hS hb (m10 hb hL) q1454 dX11_wrong_5 (fun H locs hP hS => ?_)
  obtain ⟨st1, est1⟩ : ∃ z, z = uI st b 13 (gI st b 7) := ⟨_, rfl⟩
  rw [← est1] at hP; have h := h st1 est1
  refine lv_iconst C.1 C.2.1 (v := 0) dX11_wrong_8 rfl ?_
  exact z_ri C hr hlk (bz_n bz0) hP hS ⟨bz0, h⟩ dX11_wrong_9
def rmX11_isLetter : Room := { frames := 0, cells := 0, slots := 0, locals := 0 }
def wX11_isLetter (b : Nat) (p1 : Int32) (st : St) (Q : Int32 → St → Prop) : Prop :=
  (((gI st 54 2) ≤ p1 → Q 0 st) ∧ (¬ (gI st 54 2) ≤ p1 → (vp_in p1 1600 ∧ (((gI st 55 (p1 : Int32).toNatClampNeg) < 97 → Q 0 st) ∧ (¬ (gI st 55 (p1 : Int32).toNatClampNeg) < 97 → (vp_in p1 1600 ∧ ((122 < (gI st 55 (p1 : Int32).toNatClampNeg) → Q 0 st) ∧ (¬ 122 < (gI st 55 (p1 : Int32).toNatClampNeg) → Q 1 st))))))))
theorem hdX11_isLetter : yX11_isLetter.cls = "PlankBridgeModel$Reader" ∧ yX11_isLetter.cls ≠ "java/lang/invoke/MethodHandle" ∧ yX11_isLetter.cls ≠ "java/lang/invoke/VarHandle" ∧ (parseMethodDescriptor yX11_isLetter.desc).map (fun d => d.parameters.length) = some 1 := by decide +kernel
set_option maxHeartbeats 4000000 in
set_option maxRecDepth 100000 in
theorem tX11_isLetter {l : Launch} {E : En0} {L : List Nat} (hE : EK E L) (hL : Cov 54 77 L) {b : Nat} {p1 : Int32} {st : St} {Q : Int32 → St → Prop} (hb : kd b = 10) (h : wX11_isLetter b p1 st Q) : Mz l yX11_isLetter cX11_isLetter 2 (some .boolean) rmX11_isLetter E L [.ref (E.2.1 b), .int p1] st (zI E L (fun r u => bz r ∧ Q r u)) := by
  refine Mz.of hE (by decide) (Nat.le_of_ble_eq_true rfl) ?_
  intro p e s m below meth c ls C hr hlk _ hl hP
  replace C : Cx E L "PlankBridgeModel$Reader" cX11_isLetter 2 p s m _ c := C
  have hS : va_S (fA E L s.heap.size) s.heap s.heap [] := va_S.rf
  replace hl : lv_has ls 2 [(0, .ref (E.2.1 b)), (1, .int p1)] := hl
  unfold wX11_isLetter at h
  refine lv_iload_n C.1 C.2.1 dX11_isLetter_0 rfl (lv_at hl 1 rfl) ?_
  refine lv_aload_n C.1 C.2.1 dX11_isLetter_1 rfl (lv_at hl 0 rfl) ?_
  refine gf10_14 C hP hb (m10 hb hL) q1456 dX11_isLetter_2 ?_
  refine gn11_2 C hP (show kd 54 = 11 from rfl) (hL 54 (Nat.le_of_ble_eq_true rfl) (Nat.le_of_ble_eq_true rfl)) q1380 dX11_isLetter_5 ?_
  refine lv_icmp_ge C.1 C.2.1 (tgt := 43) dX11_isLetter_8 (by decide) (fun hc => ?_) (fun hc => ?_)
  · have h := h.1 hc
    refine lv_iconst C.1 C.2.1 (v := 0) dX11_isLetter_43 rfl ?_
    exact z_ri C hr hlk (bz_n bz0) hP hS ⟨bz0, h⟩ dX11_isLetter_44
  · have h := h.2 hc
    refine lv_aload_n C.1 C.2.1 dX11_isLetter_11 rfl (lv_at hl 0 rfl) ?_
    refine gf10_14 C hP hb (m10 hb hL) q1456 dX11_isLetter_12 ?_
    refine gn11_1 C hP (show kd 54 = 11 from rfl) (hL 54 (Nat.le_of_ble_eq_true rfl) (Nat.le_of_ble_eq_true rfl)) q1379 dX11_isLetter_15 ?_
    refine lv_iload_n C.1 C.2.1 dX11_isLetter_18 rfl (lv_at hl 1 rfl) ?_
    obtain ⟨hi, h⟩ := h
    refine z_bald C hP (show kd 55 = 22 from rfl) (show ln 55 = 1600 from rfl) (hL 55 (Nat.le_of_ble_eq_true rfl) (Nat.le_of_ble_eq_true rfl)) hi dX11_isLetter_19 ?_
    refine lv_bipush C.1 C.2.1 (v := 97) dX11_isLetter_20 rfl ?_
    refine lv_icmp_lt C.1 C.2.1 (tgt := 43) dX11_isLetter_22 (by decide) (fun hc => ?_) (fun hc => ?_)
    · have h := h.1 hc
      refine lv_iconst C.1 C.2.1 (v := 0) dX11_isLetter_43 rfl ?_
      exact z_ri C hr hlk (bz_n bz0) hP hS ⟨bz0, h⟩ dX11_isLetter_44
    · have h := h.2 hc
      refine lv_aload_n C.1 C.2.1 dX11_isLetter_25 rfl (lv_at hl 0 rfl) ?_
      refine gf10_14 C hP hb (m10 hb hL) q1456 dX11_isLetter_26 ?_
      refine gn11_1 C hP (show kd 54 = 11 from rfl) (hL 54 (Nat.le_of_ble_eq_true rfl) (Nat.le_of_ble_eq_true rfl)) q1379 dX11_isLetter_29 ?_
      refine lv_iload_n C.1 C.2.1 dX11_isLetter_32 rfl (lv_at hl 1 rfl) ?_
      obtain ⟨hi, h⟩ := h
      refine z_bald C hP (show kd 55 = 22 from rfl) (show ln 55 = 1600 from rfl) (hL 55 (Nat.le_of_ble_eq_true rfl) (Nat.le_of_ble_eq_true rfl)) hi dX11_isLetter_33 ?_
      refine lv_bipush C.1 C.2.1 (v := 122) dX11_isLetter_34 rfl ?_
      refine lv_icmp_gt C.1 C.2.1 (tgt := 43) dX11_isLetter_36 (by decide) (fun hc => ?_) (fun hc => ?_)
      · have h := h.1 hc
        refine lv_iconst C.1 C.2.1 (v := 0) dX11_isLetter_43 rfl ?_
        exact z_ri C hr hlk (bz_n bz0) hP hS ⟨bz0, h⟩ dX11_isLetter_44
      · have h := h.2 hc
        refine lv_iconst C.1 C.2.1 (v := 1) dX11_isLetter_39 rfl ?_
        refine lv_goto C.1 C.2.1 (tgt := 44) dX11_isLetter_40 (by decide) ?_
        exact z_ri C hr hlk (bz_n bz1) hP hS ⟨bz1, h⟩ dX11_isLetter_44
def rmX11_isDigit : Room := { frames := 0, cells := 0, slots := 0, locals := 0 }
def wX11_isDigit (b : Nat) (p1 : Int32) (st : St) (Q : Int32 → St → Prop) : Prop :=
  (((gI st 54 2) ≤ p1 → Q 0 st) ∧ (¬ (gI st 54 2) ≤ p1 → (vp_in p1 1600 ∧ (((gI st 55 (p1 : Int32).toNatClampNeg) < 48 → Q 0 st) ∧ (¬ (gI st 55 (p1 : Int32).toNatClampNeg) < 48 → (vp_in p1 1600 ∧ ((57 < (gI st 55 (p1 : Int32).toNatClampNeg) → Q 0 st) ∧ (¬ 57 < (gI st 55 (p1 : Int32).toNatClampNeg) → Q 1 st))))))))
theorem hdX11_isDigit : yX11_isDigit.cls = "PlankBridgeModel$Reader" ∧ yX11_isDigit.cls ≠ "java/lang/invoke/MethodHandle" ∧ yX11_isDigit.cls ≠ "java/lang/invoke/VarHandle" ∧ (parseMethodDescriptor yX11_isDigit.desc).map (fun d => d.parameters.length) = some 1 := by decide +kernel
set_option maxHeartbeats 4000000 in
set_option maxRecDepth 100000 in
theorem tX11_isDigit {l : Launch} {E : En0} {L : List Nat} (hE : EK E L) (hL : Cov 54 77 L) {b : Nat} {p1 : Int32} {st : St} {Q : Int32 → St → Prop} (hb : kd b = 10) (h : wX11_isDigit b p1 st Q) : Mz l yX11_isDigit cX11_isDigit 2 (some .boolean) rmX11_isDigit E L [.ref (E.2.1 b), .int p1] st (zI E L (fun r u => bz r ∧ Q r u)) := by
  refine Mz.of hE (by decide) (Nat.le_of_ble_eq_true rfl) ?_
  intro p e s m below meth c ls C hr hlk _ hl hP
  replace C : Cx E L "PlankBridgeModel$Reader" cX11_isDigit 2 p s m _ c := C
  have hS : va_S (fA E L s.heap.size) s.heap s.heap [] := va_S.rf
  replace hl : lv_has ls 2 [(0, .ref (E.2.1 b)), (1, .int p1)] := hl
  unfold wX11_isDigit at h
  refine lv_iload_n C.1 C.2.1 dX11_isDigit_0 rfl (lv_at hl 1 rfl) ?_
  refine lv_aload_n C.1 C.2.1 dX11_isDigit_1 rfl (lv_at hl 0 rfl) ?_
  refine gf10_14 C hP hb (m10 hb hL) q1456 dX11_isDigit_2 ?_
  refine gn11_2 C hP (show kd 54 = 11 from rfl) (hL 54 (Nat.le_of_ble_eq_true rfl) (Nat.le_of_ble_eq_true rfl)) q1380 dX11_isDigit_5 ?_
  refine lv_icmp_ge C.1 C.2.1 (tgt := 43) dX11_isDigit_8 (by decide) (fun hc => ?_) (fun hc => ?_)
  · have h := h.1 hc
    refine lv_iconst C.1 C.2.1 (v := 0) dX11_isDigit_43 rfl ?_
    exact z_ri C hr hlk (bz_n bz0) hP hS ⟨bz0, h⟩ dX11_isDigit_44
  · have h := h.2 hc
    refine lv_aload_n C.1 C.2.1 dX11_isDigit_11 rfl (lv_at hl 0 rfl) ?_
    refine gf10_14 C hP hb (m10 hb hL) q1456 dX11_isDigit_12 ?_
    refine gn11_1 C hP (show kd 54 = 11 from rfl) (hL 54 (Nat.le_of_ble_eq_true rfl) (Nat.le_of_ble_eq_true rfl)) q1379 dX11_isDigit_15 ?_
    refine lv_iload_n C.1 C.2.1 dX11_isDigit_18 rfl (lv_at hl 1 rfl) ?_
    obtain ⟨hi, h⟩ := h
    refine z_bald C hP (show kd 55 = 22 from rfl) (show ln 55 = 1600 from rfl) (hL 55 (Nat.le_of_ble_eq_true rfl) (Nat.le_of_ble_eq_true rfl)) hi dX11_isDigit_19 ?_
    refine lv_bipush C.1 C.2.1 (v := 48) dX11_isDigit_20 rfl ?_
    refine lv_icmp_lt C.1 C.2.1 (tgt := 43) dX11_isDigit_22 (by decide) (fun hc => ?_) (fun hc => ?_)
    · have h := h.1 hc
      refine lv_iconst C.1 C.2.1 (v := 0) dX11_isDigit_43 rfl ?_
      exact z_ri C hr hlk (bz_n bz0) hP hS ⟨bz0, h⟩ dX11_isDigit_44
    · have h := h.2 hc
      refine lv_aload_n C.1 C.2.1 dX11_isDigit_25 rfl (lv_at hl 0 rfl) ?_
      refine gf10_14 C hP hb (m10 hb hL) q1456 dX11_isDigit_26 ?_
      refine gn11_1 C hP (show kd 54 = 11 from rfl) (hL 54 (Nat.le_of_ble_eq_true rfl) (Nat.le_of_ble_eq_true rfl)) q1379 dX11_isDigit_29 ?_
      refine lv_iload_n C.1 C.2.1 dX11_isDigit_32 rfl (lv_at hl 1 rfl) ?_
      obtain ⟨hi, h⟩ := h
      refine z_bald C hP (show kd 55 = 22 from rfl) (show ln 55 = 1600 from rfl) (hL 55 (Nat.le_of_ble_eq_true rfl) (Nat.le_of_ble_eq_true rfl)) hi dX11_isDigit_33 ?_
      refine lv_bipush C.1 C.2.1 (v := 57) dX11_isDigit_34 rfl ?_
      refine lv_icmp_gt C.1 C.2.1 (tgt := 43) dX11_isDigit_36 (by decide) (fun hc => ?_) (fun hc => ?_)
      · have h := h.1 hc
        refine lv_iconst C.1 C.2.1 (v := 0) dX11_isDigit_43 rfl ?_
        exact z_ri C hr hlk (bz_n bz0) hP hS ⟨bz0, h⟩ dX11_isDigit_44
      · have h := h.2 hc
        refine lv_iconst C.1 C.2.1 (v := 1) dX11_isDigit_39 rfl ?_
        refine lv_goto C.1 C.2.1 (tgt := 44) dX11_isDigit_40 (by decide) ?_
        exact z_ri C hr hlk (bz_n bz1) hP hS ⟨bz1, h⟩ dX11_isDigit_44
def rmX11_code : Room := { frames := 4, cells := 0, slots := 0, locals := 85 }
def wX11_code_L5 (b : Nat) (p1 : Nat)  (R5 : Int64 × Int32 × St → Prop) (v2 : Int64) (v4 : Int32) (st : St) (Q : Int64 → St → Prop) : Prop :=
  (((nI (sLen.getD p1 0)) ≤ v4 → Q v2 st) ∧ (¬ (nI (sLen.getD p1 0)) ≤ v4 → (vp_in v4 (sLen.getD p1 0) ∧ (∀ x1 : Int64, x1 = ((((27 * v2) + ((sCh p1 (v4 : Int32).toNatClampNeg : Int32).toInt64)) - 97) + 1) → (∀ x2 : Int32, x2 = v4 + 1 → R5 (x1, x2, st))))))
def wX11_code (b : Nat) (p1 : Nat) (st : St) (Q : Int64 → St → Prop) : Prop :=
  (∃ n, lp (fun R s => wX11_code_L5 b p1 R s.1 s.2.1 s.2.2 Q) n (0, 0, st))
theorem hdX11_code : yX11_code.cls = "PlankBridgeModel$Reader" ∧ yX11_code.cls ≠ "java/lang/invoke/MethodHandle" ∧ yX11_code.cls ≠ "java/lang/invoke/VarHandle" ∧ (parseMethodDescriptor yX11_code.desc).map (fun d => d.parameters.length) = some 1 := by decide +kernel
set_option maxHeartbeats 4000000 in
set_option maxRecDepth 100000 in
theorem tX11_code_L5 {l : Launch} {p : Program} {e : Env} {s : State} {m : MethodId} {args : Array Value} {below : List Frame} {meth : Method} {c : Code} {E : En0} {L : List Nat} (hL : Cov 54 77 L) (C : Cx E L "PlankBridgeModel$Reader" cX11_code 5 p s m args c) (hr : meth.sig.returnType = (some .long)) (hlk : meth.locks = false) {b : Nat} {p1 : Nat} {Q : Int64 → St → Prop} (hb : kd b = 10) (hp1 : p1 < 26) : ∀ (n : Nat) (v2 : Int64) (v4 : Int32) (st : St) (H : Heap) (locs : List Loc) (ls : Array Slot), lp (fun R s => wX11_code_L5 b p1 R s.1 s.2.1 s.2.2 Q) n (v2, v4, st) → lv_has ls 5 [(1, .ref (E.2.2.1 (100 + p1))), (2, .long v2), (4, .int v4)] → va_P E.1 vwCl (wd E L st) H → va_S (fA E L s.heap.size) s.heap H locs → W p l e rmX11_code s m args below meth c H locs 0 0 (MQ below (zJ E L Q (fA E L s.heap.size)) args s rmX11_code.cells rmX11_code.slots (fA E L s.heap.size)) (F0 m 5 ls []) := by
  intro n
  induction n with
  | zero => exact fun _ _ _ _ _ _ h _ _ _ => False.elim ‹_›
  | succ n ih =>
    intro v2 v4 st  H locs ls h hl hP hS
    have hR5 := ih
    replace h : wX11_code_L5 b p1 (lp (fun R s => wX11_code_L5 b p1 R s.1 s.2.1 s.2.2 Q) n) v2 v4 st Q := h
    unfold wX11_code_L5 at h
    refine lv_iload C.1 C.2.1 dX11_code_5 (lv_at hl 2 rfl) ?_
    refine lv_aload_n C.1 C.2.1 dX11_code_7 rfl (lv_at hl 0 rfl) ?_
    refine z_len C hP hS hp1 q1516 ⟨Nat.le_of_ble_eq_true rfl, Nat.le_of_ble_eq_true rfl⟩ ⟨Nat.zero_le _, Nat.zero_le _⟩ hl.1 (lv_room (Nat.le_of_ble_eq_true rfl)) dX11_code_8 (fun H locs hP hS => ?_)
    refine lv_icmp_ge C.1 C.2.1 (tgt := 40) dX11_code_11 (by decide) (fun hc => ?_) (fun hc => ?_)
    · have h := h.1 hc
      refine lv_lload_n C.1 C.2.1 dX11_code_40 rfl (lv_at hl 1 rfl) ?_
      exact z_rj C hr hlk hP hS h dX11_code_41
    · have h := h.2 hc
      refine lv_ldc2 C.1 C.2.1 C.2.2.2.1 (C.T q1508) dX11_code_14 ?_
      refine lv_lload_n C.1 C.2.1 dX11_code_17 rfl (lv_at hl 1 rfl) ?_
      refine lv_lmul C.1 C.2.1 dX11_code_18 ?_
      refine lv_aload_n C.1 C.2.1 dX11_code_19 rfl (lv_at hl 0 rfl) ?_
      refine lv_iload C.1 C.2.1 dX11_code_20 (lv_at hl 2 rfl) ?_
      obtain ⟨hi, h⟩ := h
      refine z_chr C hP hS hp1 hi q1526 ⟨Nat.le_of_ble_eq_true rfl, Nat.le_of_ble_eq_true rfl⟩ ⟨Nat.zero_le _, Nat.zero_le _⟩ hl.1 (lv_room (Nat.le_of_ble_eq_true rfl)) dX11_code_22 (fun H locs hP hS => ?_)
      refine t_i2l C.1 C.2.1 dX11_code_25 rfl ?_
      refine lv_ladd C.1 C.2.1 dX11_code_26 ?_
      refine lv_ldc2 C.1 C.2.1 C.2.2.2.1 (C.T q1509) dX11_code_27 ?_
      refine lv_lsub C.1 C.2.1 dX11_code_30 ?_
      refine lv_lconst C.1 C.2.1 (v := 1) dX11_code_31 rfl ?_
      refine lv_ladd C.1 C.2.1 dX11_code_32 ?_
      refine lv_topl (fun x1 ex1 => ?_)
      have h := h x1 ex1
      refine lv_lstore_n C.1 C.2.1 dX11_code_33 rfl hl (Nat.le_of_ble_eq_true rfl) rfl (fun ls hl => ?_)
      have hl : lv_has ls 5 [(2, .long x1), (1, .ref (E.2.2.1 (100 + p1))), (4, .int v4)] := hl
      obtain ⟨x2, ex2⟩ : ∃ z, z = v4 + 1 := ⟨_, rfl⟩
      have h := h x2 ex2
      refine lv_iinc C.1 C.2.1 dX11_code_34 hl (k := 2) rfl ex2.symm (Nat.le_of_ble_eq_true rfl) rfl (fun ls hl => ?_)
      have hl : lv_has ls 5 [(4, .int x2), (2, .long x1), (1, .ref (E.2.2.1 (100 + p1)))] := hl
      refine lv_goto C.1 C.2.1 (tgt := 5) dX11_code_37 (by decide) ?_
      exact hR5 x1 x2 st _ _ _ h (lv_sub hl [2, 1, 0] rfl) hP hS
set_option maxHeartbeats 4000000 in
set_option maxRecDepth 100000 in
theorem tX11_code {l : Launch} {E : En0} {L : List Nat} (hE : EK E L) (hL : Cov 54 77 L) {b : Nat} {p1 : Nat} {st : St} {Q : Int64 → St → Prop} (hb : kd b = 10) (hp1 : p1 < 26) (h : wX11_code b p1 st Q) : Mz l yX11_code cX11_code 5 (some .long) rmX11_code E L [.ref (E.2.1 b), .ref (E.2.2.1 (100 + p1))] st (zJ E L Q) := by
  refine Mz.of hE (by decide) (Nat.le_of_ble_eq_true rfl) ?_
  intro p e s m below meth c ls C hr hlk _ hl hP
  replace C : Cx E L "PlankBridgeModel$Reader" cX11_code 5 p s m _ c := C
  have hS : va_S (fA E L s.heap.size) s.heap s.heap [] := va_S.rf
  replace hl : lv_has ls 5 [(0, .ref (E.2.1 b)), (1, .ref (E.2.2.1 (100 + p1)))] := hl
  unfold wX11_code at h
  refine lv_lconst C.1 C.2.1 (v := 0) dX11_code_0 rfl ?_
  refine lv_lstore_n C.1 C.2.1 dX11_code_1 rfl hl (Nat.le_of_ble_eq_true rfl) rfl (fun ls hl => ?_)
  have hl : lv_has ls 5 [(2, .long 0), (0, .ref (E.2.1 b)), (1, .ref (E.2.2.1 (100 + p1)))] := hl
  refine lv_iconst C.1 C.2.1 (v := 0) dX11_code_2 rfl ?_
  refine lv_istore C.1 C.2.1 dX11_code_3 hl (Nat.le_of_ble_eq_true rfl) rfl (fun ls hl => ?_)
  have hl : lv_has ls 5 [(4, .int 0), (2, .long 0), (0, .ref (E.2.1 b)), (1, .ref (E.2.2.1 (100 + p1)))] := hl
  obtain ⟨n, h⟩ := h
  exact tX11_code_L5 hL C hr hlk hb hp1 n 0 0 st _ _ _ h (lv_sub hl [3, 1, 0] rfl) hP hS
def rmX11_word : Room := { frames := 5, cells := 0, slots := 0, locals := 109 }
def wX11_word_L93 (b : Nat)  (R93 : Int32 × St → Prop) (v1 : Int32) (st : St) (Q : Int32 → St → Prop) : Prop :=
  ((26 ≤ v1 → Q 2 st) ∧ (¬ 26 ≤ v1 → (vp_in v1 26 ∧ (wX11_code b ((v1 : Int32).toNatClampNeg) st (fun r10 st9 => ((¬ (lg_cmp r10 (gJ st9 b 9)) = 0 → (∀ x11 : Int32, x11 = v1 + 1 → R93 (x11, st9))) ∧ ((lg_cmp r10 (gJ st9 b 9)) = 0 → Q ((200 : Int32) + v1) st9)))))))
def wX11_word_L75 (b : Nat)   (st : St) (Q : Int32 → St → Prop) : Prop :=
  ((((gI st b 5) - (gI st b 7)) ≤ 8 → (∃ n, lp (fun R s => wX11_word_L93 b R s.1 s.2 Q) n (0, st))) ∧ (¬ ((gI st b 5) - (gI st b 7)) ≤ 8 → Q 1 st))
def wX11_word_L5 (b : Nat)  (R5 : St → Prop)  (st : St) (Q : Int32 → St → Prop) : Prop :=
  (wX11_isLetter b (gI st b 5) st (fun r3 st2 => ((r3 = 0 → wX11_word_L75 b st2 Q) ∧ (¬ r3 = 0 → ((9 ≤ ((gI st2 b 5) - (gI st2 b 7)) → wX11_word_L75 b st2 Q) ∧ (¬ 9 ≤ ((gI st2 b 5) - (gI st2 b 7)) → (vp_in (gI st2 b 5) 1600 ∧ (∀ st4, st4 = uJ st2 b 9 ((((27 * (gJ st2 b 9)) + ((gI st2 55 (gI st2 b 5 : Int32).toNatClampNeg : Int32).toInt64)) - 97) + 1) → (∀ st5, st5 = uI st4 b 5 ((gI st4 b 5) + 1) → R5 st5)))))))))
def wX11_word (b : Nat) (st : St) (Q : Int32 → St → Prop) : Prop :=
  (∀ st1, st1 = uJ st b 9 0 → (∃ n, lp (fun R s => wX11_word_L5 b R s Q) n st1))
theorem hdX11_word : yX11_word.cls = "PlankBridgeModel$Reader" ∧ yX11_word.cls ≠ "java/lang/invoke/MethodHandle" ∧ yX11_word.cls ≠ "java/lang/invoke/VarHandle" ∧ (parseMethodDescriptor yX11_word.desc).map (fun d => d.parameters.length) = some 0 := by decide +kernel
set_option maxHeartbeats 4000000 in
set_option maxRecDepth 100000 in
theorem tX11_word_L93 {l : Launch} {p : Program} {e : Env} {s : State} {m : MethodId} {args : Array Value} {below : List Frame} {meth : Method} {c : Code} {E : En0} {L : List Nat} (hL : Cov 54 77 L) (C : Cx E L "PlankBridgeModel$Reader" cX11_word 2 p s m args c) (hr : meth.sig.returnType = (some .int)) (hlk : meth.locks = false) {b : Nat} {Q : Int32 → St → Prop} (hb : kd b = 10) : ∀ (n : Nat) (v1 : Int32) (st : St) (H : Heap) (locs : List Loc) (ls : Array Slot), lp (fun R s => wX11_word_L93 b R s.1 s.2 Q) n (v1, st) → lv_has ls 2 [(0, .ref (E.2.1 b)), (1, .int v1)] → va_P E.1 vwCl (wd E L st) H → va_S (fA E L s.heap.size) s.heap H locs → W p l e rmX11_word s m args below meth c H locs 0 0 (MQ below (zI E L Q (fA E L s.heap.size)) args s rmX11_word.cells rmX11_word.slots (fA E L s.heap.size)) (F0 m 93 ls []) := by
  intro n
  induction n with
  | zero => exact fun _ _ _ _ _ h _ _ _ => False.elim ‹_›
  | succ n ih =>
    intro v1 st  H locs ls h hl hP hS
    have hR93 := ih
    replace h : wX11_word_L93 b (lp (fun R s => wX11_word_L93 b R s.1 s.2 Q) n) v1 st Q := h
    unfold wX11_word_L93 at h
    refine lv_iload_n C.1 C.2.1 dX11_word_93 rfl (lv_at hl 1 rfl) ?_
    refine z_words C hS q1510 dX11_word_94 (fun t6 ht6 => ?_)
    refine va_tlen C.1 C.2.1 ht6 hS (v := 26) rfl dX11_word_97 ?_
    refine lv_icmp_ge C.1 C.2.1 (tgt := 130) dX11_word_98 (by decide) (fun hc => ?_) (fun hc => ?_)
    · have h := h.1 hc
      refine lv_iconst C.1 C.2.1 (v := 2) dX11_word_130 rfl ?_
      exact z_ri C hr hlk rfl hP hS h dX11_word_131
    · have h := h.2 hc
      refine lv_aload_n C.1 C.2.1 dX11_word_101 rfl (lv_at hl 0 rfl) ?_
      refine z_words C hS q1510 dX11_word_102 (fun t7 ht7 => ?_)
      refine lv_iload_n C.1 C.2.1 dX11_word_105 rfl (lv_at hl 1 rfl) ?_
      obtain ⟨hi8, h⟩ := h
      refine z_wordat C hS ht7 hi8 dX11_word_106 ?_
      refine z_kj hS (z_runV (As := [.ref (E.2.2.1 (100 + (v1 : Int32).toNatClampNeg))]) (rest := []) C hP hS (m10 hb hL) (e10 hb) rfl (tX11_code C.2.2.2.2.2.2.1 (hL.mo (Nat.le_of_ble_eq_true rfl) (Nat.le_of_ble_eq_true rfl)) hb (Nat.not_le.mp fun q => hi8 (Or.inr q)) h) q1512 q1514 q45 q124 q1515 hdX11_code ⟨Nat.le_of_ble_eq_true rfl, Nat.le_of_ble_eq_true rfl⟩ ⟨Nat.zero_le _, Nat.zero_le _⟩ rfl hl.1 rfl (lv_room (Nat.le_of_ble_eq_true rfl)) dX11_word_107) (fun r10 st9 H locs h hP hS => ?_)
      refine lv_aload_n C.1 C.2.1 dX11_word_110 rfl (lv_at hl 0 rfl) ?_
      refine gf10_9 C hP hb (m10 hb hL) q1448 dX11_word_111 ?_
      refine W.lcmp C.1 C.2.1 dX11_word_114 ?_
      refine lv_if_ne C.1 C.2.1 (tgt := 124) dX11_word_115 (by decide) (fun hc => ?_) (fun hc => ?_)
      · have h := h.1 hc
        obtain ⟨x11, ex11⟩ : ∃ z, z = v1 + 1 := ⟨_, rfl⟩
        have h := h x11 ex11
        refine lv_iinc C.1 C.2.1 dX11_word_124 hl (k := 1) rfl ex11.symm (Nat.le_of_ble_eq_true rfl) rfl (fun ls hl => ?_)
        have hl : lv_has ls 2 [(1, .int x11), (0, .ref (E.2.1 b))] := hl
        refine lv_goto C.1 C.2.1 (tgt := 93) dX11_word_127 (by decide) ?_
        exact hR93 x11 st9 _ _ _ h (lv_sub hl [1, 0] rfl) hP hS
      · have h := h.2 hc
        refine lv_sipush C.1 C.2.1 (v := 200) dX11_word_118 rfl ?_
        refine lv_iload_n C.1 C.2.1 dX11_word_121 rfl (lv_at hl 1 rfl) ?_
        refine lv_iadd C.1 C.2.1 dX11_word_122  ?_
        exact z_ri C hr hlk rfl hP hS h dX11_word_123
set_option maxHeartbeats 4000000 in
set_option maxRecDepth 100000 in
theorem tX11_word_L75 {l : Launch} {p : Program} {e : Env} {s : State} {m : MethodId} {args : Array Value} {below : List Frame} {meth : Method} {c : Code} {E : En0} {L : List Nat} (hL : Cov 54 77 L) (C : Cx E L "PlankBridgeModel$Reader" cX11_word 2 p s m args c) (hr : meth.sig.returnType = (some .int)) (hlk : meth.locks = false) {b : Nat} {Q : Int32 → St → Prop} (hb : kd b = 10)   {st : St} (H : Heap) (locs : List Loc) (ls : Array Slot) (h : wX11_word_L75 b st Q) (hl : lv_has ls 2 [(0, .ref (E.2.1 b))]) (hP : va_P E.1 vwCl (wd E L st) H) (hS : va_S (fA E L s.heap.size) s.heap H locs) : W p l e rmX11_word s m args below meth c H locs 0 0 (MQ below (zI E L Q (fA E L s.heap.size)) args s rmX11_word.cells rmX11_word.slots (fA E L s.heap.size)) (F0 m 75 ls []) := by
  unfold wX11_word_L75 at h
  refine lv_aload_n C.1 C.2.1 dX11_word_75 rfl (lv_at hl 0 rfl) ?_
  refine gf10_5 C hP hb (m10 hb hL) q1444 dX11_word_76 ?_
  refine lv_aload_n C.1 C.2.1 dX11_word_79 rfl (lv_at hl 0 rfl) ?_
  refine gf10_7 C hP hb (m10 hb hL) q1446 dX11_word_80 ?_
  refine lv_isub C.1 C.2.1 dX11_word_83  ?_
  refine lv_bipush C.1 C.2.1 (v := 8) dX11_word_84 rfl ?_
  refine lv_icmp_le C.1 C.2.1 (tgt := 91) dX11_word_86 (by decide) (fun hc => ?_) (fun hc => ?_)
  · have h := h.1 hc
    refine lv_iconst C.1 C.2.1 (v := 0) dX11_word_91 rfl ?_
    refine lv_istore_n C.1 C.2.1 dX11_word_92 rfl hl (Nat.le_of_ble_eq_true rfl) rfl (fun ls hl => ?_)
    have hl : lv_has ls 2 [(1, .int 0), (0, .ref (E.2.1 b))] := hl
    obtain ⟨n, h⟩ := h
    exact tX11_word_L93 hL C hr hlk hb n 0 st _ _ _ h (lv_sub hl [1, 0] rfl) hP hS
  · have h := h.2 hc
    refine lv_iconst C.1 C.2.1 (v := 1) dX11_word_89 rfl ?_
    exact z_ri C hr hlk rfl hP hS h dX11_word_90
set_option maxHeartbeats 4000000 in
set_option maxRecDepth 100000 in
theorem tX11_word_L5 {l : Launch} {p : Program} {e : Env} {s : State} {m : MethodId} {args : Array Value} {below : List Frame} {meth : Method} {c : Code} {E : En0} {L : List Nat} (hL : Cov 54 77 L) (C : Cx E L "PlankBridgeModel$Reader" cX11_word 2 p s m args c) (hr : meth.sig.returnType = (some .int)) (hlk : meth.locks = false) {b : Nat} {Q : Int32 → St → Prop} (hb : kd b = 10) : ∀ (n : Nat)  (st : St) (H : Heap) (locs : List Loc) (ls : Array Slot), lp (fun R s => wX11_word_L5 b R s Q) n st → lv_has ls 2 [(0, .ref (E.2.1 b))] → va_P E.1 vwCl (wd E L st) H → va_S (fA E L s.heap.size) s.heap H locs → W p l e rmX11_word s m args below meth c H locs 0 0 (MQ below (zI E L Q (fA E L s.heap.size)) args s rmX11_word.cells rmX11_word.slots (fA E L s.heap.size)) (F0 m 5 ls []) := by
  intro n
  induction n with
  | zero => exact fun _ _ _ _ h _ _ _ => False.elim ‹_›
  | succ n ih =>
    intro  st  H locs ls h hl hP hS
    have hR5 := ih
    replace h : wX11_word_L5 b (lp (fun R s => wX11_word_L5 b R s Q) n) st Q := h
    unfold wX11_word_L5 at h
    refine lv_aload_n C.1 C.2.1 dX11_word_5 rfl (lv_at hl 0 rfl) ?_
    refine lv_aload_n C.1 C.2.1 dX11_word_6 rfl (lv_at hl 0 rfl) ?_
    refine gf10_5 C hP hb (m10 hb hL) q1444 dX11_word_7 ?_
    refine z_ki hS (z_runV (As := [.int (gI st b 5)]) (rest := []) C hP hS (m10 hb hL) (e10 hb) rfl (tX11_isLetter C.2.2.2.2.2.2.1 (hL.mo (Nat.le_of_ble_eq_true rfl) (Nat.le_of_ble_eq_true rfl)) hb h) q1500 q1502 q43 q124 q1503 hdX11_isLetter ⟨Nat.le_of_ble_eq_true rfl, Nat.le_of_ble_eq_true rfl⟩ ⟨Nat.zero_le _, Nat.zero_le _⟩ rfl hl.1 rfl (lv_room (Nat.le_of_ble_eq_true rfl)) dX11_word_10) (fun r3 st2 H locs h hP hS => ?_)
    obtain ⟨hr3, h⟩ := h
    refine lv_if_eq C.1 C.2.1 (tgt := 75) dX11_word_13 (by decide) (fun hc => ?_) (fun hc => ?_)
    · have h := h.1 hc
      exact tX11_word_L75 hL C hr hlk hb _ _ _ h hl hP hS
    · have h := h.2 hc
      refine lv_aload_n C.1 C.2.1 dX11_word_16 rfl (lv_at hl 0 rfl) ?_
      refine gf10_5 C hP hb (m10 hb hL) q1444 dX11_word_17 ?_
      refine lv_aload_n C.1 C.2.1 dX11_word_20 rfl (lv_at hl 0 rfl) ?_
      refine gf10_7 C hP hb (m10 hb hL) q1446 dX11_word_21 ?_
      refine lv_isub C.1 C.2.1 dX11_word_24  ?_
      refine lv_bipush C.1 C.2.1 (v := 9) dX11_word_25 rfl ?_
      refine lv_icmp_ge C.1 C.2.1 (tgt := 75) dX11_word_27 (by decide) (fun hc => ?_) (fun hc => ?_)
      · have h := h.1 hc
        exact tX11_word_L75 hL C hr hlk hb _ _ _ h hl hP hS
      · have h := h.2 hc
        refine lv_aload_n C.1 C.2.1 dX11_word_30 rfl (lv_at hl 0 rfl) ?_
        refine lv_ldc2 C.1 C.2.1 C.2.2.2.1 (C.T q1508) dX11_word_31 ?_
        refine lv_aload_n C.1 C.2.1 dX11_word_34 rfl (lv_at hl 0 rfl) ?_
        refine gf10_9 C hP hb (m10 hb hL) q1448 dX11_word_35 ?_
        refine lv_lmul C.1 C.2.1 dX11_word_38 ?_
        refine lv_aload_n C.1 C.2.1 dX11_word_39 rfl (lv_at hl 0 rfl) ?_
        refine gf10_14 C hP hb (m10 hb hL) q1456 dX11_word_40 ?_
        refine gn11_1 C hP (show kd 54 = 11 from rfl) (hL 54 (Nat.le_of_ble_eq_true rfl) (Nat.le_of_ble_eq_true rfl)) q1379 dX11_word_43 ?_
        refine lv_aload_n C.1 C.2.1 dX11_word_46 rfl (lv_at hl 0 rfl) ?_
        refine gf10_5 C hP hb (m10 hb hL) q1444 dX11_word_47 ?_
        obtain ⟨hi, h⟩ := h
        refine z_bald C hP (show kd 55 = 22 from rfl) (show ln 55 = 1600 from rfl) (hL 55 (Nat.le_of_ble_eq_true rfl) (Nat.le_of_ble_eq_true rfl)) hi dX11_word_50 ?_
        refine t_i2l C.1 C.2.1 dX11_word_51 rfl ?_
        refine lv_ladd C.1 C.2.1 dX11_word_52 ?_
        refine lv_ldc2 C.1 C.2.1 C.2.2.2.1 (C.T q1509) dX11_word_53 ?_
        refine lv_lsub C.1 C.2.1 dX11_word_56 ?_
        refine lv_lconst C.1 C.2.1 (v := 1) dX11_word_57 rfl ?_
        refine lv_ladd C.1 C.2.1 dX11_word_58 ?_
        refine pf10_9 C hP hS hb (m10 hb hL) q1448 dX11_word_59 (fun H locs hP hS => ?_)
        obtain ⟨st4, est4⟩ : ∃ z, z = uJ st2 b 9 ((((27 * (gJ st2 b 9)) + ((gI st2 55 (gI st2 b 5 : Int32).toNatClampNeg : Int32).toInt64)) - 97) + 1) := ⟨_, rfl⟩
        rw [← est4] at hP; have h := h st4 est4
        refine lv_aload_n C.1 C.2.1 dX11_word_62 rfl (lv_at hl 0 rfl) ?_
        refine lv_dup C.1 C.2.1 dX11_word_63 rfl ?_
        refine gf10_5 C hP hb (m10 hb hL) q1444 dX11_word_64 ?_
        refine lv_iconst C.1 C.2.1 (v := 1) dX11_word_67 rfl ?_
        refine lv_iadd C.1 C.2.1 dX11_word_68  ?_
        refine pf10_5 C hP hS hb (m10 hb hL) q1444 dX11_word_69 (fun H locs hP hS => ?_)
        obtain ⟨st5, est5⟩ : ∃ z, z = uI st4 b 5 ((gI st4 b 5) + 1) := ⟨_, rfl⟩
        rw [← est5] at hP; have h := h st5 est5
        refine lv_goto C.1 C.2.1 (tgt := 5) dX11_word_72 (by decide) ?_
        exact hR5 st5 _ _ _ h hl hP hS
set_option maxHeartbeats 4000000 in
set_option maxRecDepth 100000 in
theorem tX11_word {l : Launch} {E : En0} {L : List Nat} (hE : EK E L) (hL : Cov 54 77 L) {b : Nat} {st : St} {Q : Int32 → St → Prop} (hb : kd b = 10) (h : wX11_word b st Q) : Mz l yX11_word cX11_word 2 (some .int) rmX11_word E L [.ref (E.2.1 b)] st (zI E L Q) := by
  refine Mz.of hE (by decide) (Nat.le_of_ble_eq_true rfl) ?_
  intro p e s m below meth c ls C hr hlk _ hl hP
  replace C : Cx E L "PlankBridgeModel$Reader" cX11_word 2 p s m _ c := C
  have hS : va_S (fA E L s.heap.size) s.heap s.heap [] := va_S.rf
  replace hl : lv_has ls 2 [(0, .ref (E.2.1 b))] := hl
  unfold wX11_word at h
  refine lv_aload_n C.1 C.2.1 dX11_word_0 rfl (lv_at hl 0 rfl) ?_
  refine lv_lconst C.1 C.2.1 (v := 0) dX11_word_1 rfl ?_
  refine pf10_9 C hP hS hb (m10 hb hL) q1448 dX11_word_2 (fun H locs hP hS => ?_)
  obtain ⟨st1, est1⟩ : ∃ z, z = uJ st b 9 0 := ⟨_, rfl⟩
  rw [← est1] at hP; have h := h st1 est1
  obtain ⟨n, h⟩ := h
  exact tX11_word_L5 hL C hr hlk hb n st1 _ _ _ h hl hP hS
def rmX11_token : Room := { frames := 6, cells := 0, slots := 0, locals := 130 }
def wX11_token_L196 (b : Nat)  (v1 : Int32) (st : St) (Q : Int32 → St → Prop) : Prop :=
  Q v1 st
def wX11_token_L112 (b : Nat)   (st : St) (Q : Int32 → St → Prop) : Prop :=
  ((((gI st b 5) - (gI st b 7)) ≤ 3 → Q 3 st) ∧ (¬ ((gI st b 5) - (gI st b 7)) ≤ 3 → Q 1 st))
def wX11_token_L48 (b : Nat)  (R48 : St → Prop)  (st : St) (Q : Int32 → St → Prop) : Prop :=
  (wX11_isDigit b (gI st b 5) st (fun r11 st10 => ((r11 = 0 → wX11_token_L112 b st10 Q) ∧ (¬ r11 = 0 → ((4 ≤ ((gI st10 b 5) - (gI st10 b 7)) → wX11_token_L112 b st10 Q) ∧ (¬ 4 ≤ ((gI st10 b 5) - (gI st10 b 7)) → (vp_in (gI st10 b 5) 1600 ∧ (∀ st12, st12 = uI st10 b 8 ((((10 : Int32) * (gI st10 b 8)) + (gI st10 55 (gI st10 b 5 : Int32).toNatClampNeg)) - 48) → (∀ st13, st13 = uI st12 b 5 ((gI st12 b 5) + 1) → R48 st13)))))))))
def wX11_token (b : Nat) (st : St) (Q : Int32 → St → Prop) : Prop :=
  (((gI st b 5) < (gI st 54 2) → (wX11_isLetter b (gI st b 5) st (fun r2 st1 => ((r2 = 0 → (wX11_isDigit b (gI st1 b 5) st1 (fun r4 st3 => ((r4 = 0 → (vp_in (gI st3 b 5) 1600 ∧ (∀ x5 : Int32, x5 = (gI st3 55 (gI st3 b 5 : Int32).toNatClampNeg) → (∀ st6, st6 = uI st3 b 5 ((gI st3 b 5) + 1) → ((x5 = 40 → wX11_token_L196 b x5 st6 Q) ∧ (¬ x5 = 40 → ((x5 = 41 → wX11_token_L196 b x5 st6 Q) ∧ (¬ x5 = 41 → ((x5 = 59 → wX11_token_L196 b x5 st6 Q) ∧ (¬ x5 = 59 → ((x5 = 44 → wX11_token_L196 b x5 st6 Q) ∧ (¬ x5 = 44 → ((x5 = 60 → wX11_token_L196 b x5 st6 Q) ∧ (¬ x5 = 60 → ((x5 = 62 → wX11_token_L196 b x5 st6 Q) ∧ (¬ x5 = 62 → ((¬ x5 = 61 → Q 1 st6) ∧ (x5 = 61 → wX11_token_L196 b x5 st6 Q)))))))))))))))))) ∧ (¬ r4 = 0 → (∀ st7, st7 = uI st3 b 8 0 → (∃ n, lp (fun R s => wX11_token_L48 b R s Q) n st7))))))) ∧ (¬ r2 = 0 → (wX11_word b st1 (fun r9 st8 => Q r9 st8))))))) ∧ (¬ (gI st b 5) < (gI st 54 2) → Q 0 st))
theorem hdX11_token : yX11_token.cls = "PlankBridgeModel$Reader" ∧ yX11_token.cls ≠ "java/lang/invoke/MethodHandle" ∧ yX11_token.cls ≠ "java/lang/invoke/VarHandle" ∧ (parseMethodDescriptor yX11_token.desc).map (fun d => d.parameters.length) = some 0 := by decide +kernel
set_option maxHeartbeats 4000000 in
set_option maxRecDepth 100000 in
theorem tX11_token_L196 {l : Launch} {p : Program} {e : Env} {s : State} {m : MethodId} {args : Array Value} {below : List Frame} {meth : Method} {c : Code} {E : En0} {L : List Nat} (hL : Cov 54 77 L) (C : Cx E L "PlankBridgeModel$Reader" cX11_token 2 p s m args c) (hr : meth.sig.returnType = (some .int)) (hlk : meth.locks = false) {b : Nat} {Q : Int32 → St → Prop} (hb : kd b = 10) {v1 : Int32}  {st : St} (H : Heap) (locs : List Loc) (ls : Array Slot) (h : wX11_token_L196 b v1 st Q) (hl : lv_has ls 2 [(1, .int v1)]) (hP : va_P E.1 vwCl (wd E L st) H) (hS : va_S (fA E L s.heap.size) s.heap H locs) : W p l e rmX11_token s m args below meth c H locs 0 0 (MQ below (zI E L Q (fA E L s.heap.size)) args s rmX11_token.cells rmX11_token.slots (fA E L s.heap.size)) (F0 m 196 ls []) := by
  unfold wX11_token_L196 at h
  refine lv_iload_n C.1 C.2.1 dX11_token_196 rfl (lv_at hl 0 rfl) ?_
  refine lv_goto C.1 C.2.1 (tgt := 201) dX11_token_197 (by decide) ?_
  exact z_ri C hr hlk rfl hP hS h dX11_token_201
set_option maxHeartbeats 4000000 in
set_option maxRecDepth 100000 in
theorem tX11_token_L112 {l : Launch} {p : Program} {e : Env} {s : State} {m : MethodId} {args : Array Value} {below : List Frame} {meth : Method} {c : Code} {E : En0} {L : List Nat} (hL : Cov 54 77 L) (C : Cx E L "PlankBridgeModel$Reader" cX11_token 2 p s m args c) (hr : meth.sig.returnType = (some .int)) (hlk : meth.locks = false) {b : Nat} {Q : Int32 → St → Prop} (hb : kd b = 10)   {st : St} (H : Heap) (locs : List Loc) (ls : Array Slot) (h : wX11_token_L112 b st Q) (hl : lv_has ls 2 [(0, .ref (E.2.1 b))]) (hP : va_P E.1 vwCl (wd E L st) H) (hS : va_S (fA E L s.heap.size) s.heap H locs) : W p l e rmX11_token s m args below meth c H locs 0 0 (MQ below (zI E L Q (fA E L s.heap.size)) args s rmX11_token.cells rmX11_token.slots (fA E L s.heap.size)) (F0 m 112 ls []) := by
  unfold wX11_token_L112 at h
  refine lv_aload_n C.1 C.2.1 dX11_token_112 rfl (lv_at hl 0 rfl) ?_
  refine gf10_5 C hP hb (m10 hb hL) q1444 dX11_token_113 ?_
  refine lv_aload_n C.1 C.2.1 dX11_token_116 rfl (lv_at hl 0 rfl) ?_
  refine gf10_7 C hP hb (m10 hb hL) q1446 dX11_token_117 ?_
  refine lv_isub C.1 C.2.1 dX11_token_120  ?_
  refine lv_iconst C.1 C.2.1 (v := 3) dX11_token_121 rfl ?_
  refine lv_icmp_le C.1 C.2.1 (tgt := 129) dX11_token_122 (by decide) (fun hc => ?_) (fun hc => ?_)
  · have h := h.1 hc
    refine lv_iconst C.1 C.2.1 (v := 3) dX11_token_129 rfl ?_
    exact z_ri C hr hlk rfl hP hS h dX11_token_130
  · have h := h.2 hc
    refine lv_iconst C.1 C.2.1 (v := 1) dX11_token_125 rfl ?_
    refine lv_goto C.1 C.2.1 (tgt := 130) dX11_token_126 (by decide) ?_
    exact z_ri C hr hlk rfl hP hS h dX11_token_130
set_option maxHeartbeats 4000000 in
set_option maxRecDepth 100000 in
theorem tX11_token_L48 {l : Launch} {p : Program} {e : Env} {s : State} {m : MethodId} {args : Array Value} {below : List Frame} {meth : Method} {c : Code} {E : En0} {L : List Nat} (hL : Cov 54 77 L) (C : Cx E L "PlankBridgeModel$Reader" cX11_token 2 p s m args c) (hr : meth.sig.returnType = (some .int)) (hlk : meth.locks = false) {b : Nat} {Q : Int32 → St → Prop} (hb : kd b = 10) : ∀ (n : Nat)  (st : St) (H : Heap) (locs : List Loc) (ls : Array Slot), lp (fun R s => wX11_token_L48 b R s Q) n st → lv_has ls 2 [(0, .ref (E.2.1 b))] → va_P E.1 vwCl (wd E L st) H → va_S (fA E L s.heap.size) s.heap H locs → W p l e rmX11_token s m args below meth c H locs 0 0 (MQ below (zI E L Q (fA E L s.heap.size)) args s rmX11_token.cells rmX11_token.slots (fA E L s.heap.size)) (F0 m 48 ls []) := by
  intro n
  induction n with
  | zero => exact fun _ _ _ _ h _ _ _ => False.elim ‹_›
  | succ n ih =>
    intro  st  H locs ls h hl hP hS
    have hR48 := ih
    replace h : wX11_token_L48 b (lp (fun R s => wX11_token_L48 b R s Q) n) st Q := h
    unfold wX11_token_L48 at h
    refine lv_aload_n C.1 C.2.1 dX11_token_48 rfl (lv_at hl 0 rfl) ?_
    refine lv_aload_n C.1 C.2.1 dX11_token_49 rfl (lv_at hl 0 rfl) ?_
    refine gf10_5 C hP hb (m10 hb hL) q1444 dX11_token_50 ?_
    refine z_ki hS (z_runV (As := [.int (gI st b 5)]) (rest := []) C hP hS (m10 hb hL) (e10 hb) rfl (tX11_isDigit C.2.2.2.2.2.2.1 (hL.mo (Nat.le_of_ble_eq_true rfl) (Nat.le_of_ble_eq_true rfl)) hb h) q1564 q1566 q46 q124 q1567 hdX11_isDigit ⟨Nat.le_of_ble_eq_true rfl, Nat.le_of_ble_eq_true rfl⟩ ⟨Nat.zero_le _, Nat.zero_le _⟩ rfl hl.1 rfl (lv_room (Nat.le_of_ble_eq_true rfl)) dX11_token_53) (fun r11 st10 H locs h hP hS => ?_)
    obtain ⟨hr11, h⟩ := h
    refine lv_if_eq C.1 C.2.1 (tgt := 112) dX11_token_56 (by decide) (fun hc => ?_) (fun hc => ?_)
    · have h := h.1 hc
      exact tX11_token_L112 hL C hr hlk hb _ _ _ h hl hP hS
    · have h := h.2 hc
      refine lv_aload_n C.1 C.2.1 dX11_token_59 rfl (lv_at hl 0 rfl) ?_
      refine gf10_5 C hP hb (m10 hb hL) q1444 dX11_token_60 ?_
      refine lv_aload_n C.1 C.2.1 dX11_token_63 rfl (lv_at hl 0 rfl) ?_
      refine gf10_7 C hP hb (m10 hb hL) q1446 dX11_token_64 ?_
      refine lv_isub C.1 C.2.1 dX11_token_67  ?_
      refine lv_iconst C.1 C.2.1 (v := 4) dX11_token_68 rfl ?_
      refine lv_icmp_ge C.1 C.2.1 (tgt := 112) dX11_token_69 (by decide) (fun hc => ?_) (fun hc => ?_)
      · have h := h.1 hc
        exact tX11_token_L112 hL C hr hlk hb _ _ _ h hl hP hS
      · have h := h.2 hc
        refine lv_aload_n C.1 C.2.1 dX11_token_72 rfl (lv_at hl 0 rfl) ?_
        refine lv_bipush C.1 C.2.1 (v := 10) dX11_token_73 rfl ?_
        refine lv_aload_n C.1 C.2.1 dX11_token_75 rfl (lv_at hl 0 rfl) ?_
        refine gf10_8 C hP hb (m10 hb hL) q1447 dX11_token_76 ?_
        refine lv_imul C.1 C.2.1 dX11_token_79  ?_
        refine lv_aload_n C.1 C.2.1 dX11_token_80 rfl (lv_at hl 0 rfl) ?_
        refine gf10_14 C hP hb (m10 hb hL) q1456 dX11_token_81 ?_
        refine gn11_1 C hP (show kd 54 = 11 from rfl) (hL 54 (Nat.le_of_ble_eq_true rfl) (Nat.le_of_ble_eq_true rfl)) q1379 dX11_token_84 ?_
        refine lv_aload_n C.1 C.2.1 dX11_token_87 rfl (lv_at hl 0 rfl) ?_
        refine gf10_5 C hP hb (m10 hb hL) q1444 dX11_token_88 ?_
        obtain ⟨hi, h⟩ := h
        refine z_bald C hP (show kd 55 = 22 from rfl) (show ln 55 = 1600 from rfl) (hL 55 (Nat.le_of_ble_eq_true rfl) (Nat.le_of_ble_eq_true rfl)) hi dX11_token_91 ?_
        refine lv_iadd C.1 C.2.1 dX11_token_92  ?_
        refine lv_bipush C.1 C.2.1 (v := 48) dX11_token_93 rfl ?_
        refine lv_isub C.1 C.2.1 dX11_token_95  ?_
        refine pf10_8 C hP hS hb (m10 hb hL) q1447 dX11_token_96 (fun H locs hP hS => ?_)
        obtain ⟨st12, est12⟩ : ∃ z, z = uI st10 b 8 ((((10 : Int32) * (gI st10 b 8)) + (gI st10 55 (gI st10 b 5 : Int32).toNatClampNeg)) - 48) := ⟨_, rfl⟩
        rw [← est12] at hP; have h := h st12 est12
        refine lv_aload_n C.1 C.2.1 dX11_token_99 rfl (lv_at hl 0 rfl) ?_
        refine lv_dup C.1 C.2.1 dX11_token_100 rfl ?_
        refine gf10_5 C hP hb (m10 hb hL) q1444 dX11_token_101 ?_
        refine lv_iconst C.1 C.2.1 (v := 1) dX11_token_104 rfl ?_
        refine lv_iadd C.1 C.2.1 dX11_token_105  ?_
        refine pf10_5 C hP hS hb (m10 hb hL) q1444 dX11_token_106 (fun H locs hP hS => ?_)
        obtain ⟨st13, est13⟩ : ∃ z, z = uI st12 b 5 ((gI st12 b 5) + 1) := ⟨_, rfl⟩
        rw [← est13] at hP; have h := h st13 est13
        refine lv_goto C.1 C.2.1 (tgt := 48) dX11_token_109 (by decide) ?_
        exact hR48 st13 _ _ _ h hl hP hS
set_option maxHeartbeats 4000000 in
set_option maxRecDepth 100000 in
theorem tX11_token {l : Launch} {E : En0} {L : List Nat} (hE : EK E L) (hL : Cov 54 77 L) {b : Nat} {st : St} {Q : Int32 → St → Prop} (hb : kd b = 10) (h : wX11_token b st Q) : Mz l yX11_token cX11_token 2 (some .int) rmX11_token E L [.ref (E.2.1 b)] st (zI E L Q) := by
  refine Mz.of hE (by decide) (Nat.le_of_ble_eq_true rfl) ?_
  intro p e s m below meth c ls C hr hlk _ hl hP
  replace C : Cx E L "PlankBridgeModel$Reader" cX11_token 2 p s m _ c := C
  have hS : va_S (fA E L s.heap.size) s.heap s.heap [] := va_S.rf
  replace hl : lv_has ls 2 [(0, .ref (E.2.1 b))] := hl
  unfold wX11_token at h
  refine lv_aload_n C.1 C.2.1 dX11_token_0 rfl (lv_at hl 0 rfl) ?_
  refine gf10_5 C hP hb (m10 hb hL) q1444 dX11_token_1 ?_
  refine lv_aload_n C.1 C.2.1 dX11_token_4 rfl (lv_at hl 0 rfl) ?_
  refine gf10_14 C hP hb (m10 hb hL) q1456 dX11_token_5 ?_
  refine gn11_2 C hP (show kd 54 = 11 from rfl) (hL 54 (Nat.le_of_ble_eq_true rfl) (Nat.le_of_ble_eq_true rfl)) q1380 dX11_token_8 ?_
  refine lv_icmp_lt C.1 C.2.1 (tgt := 16) dX11_token_11 (by decide) (fun hc => ?_) (fun hc => ?_)
  · have h := h.1 hc
    refine lv_aload_n C.1 C.2.1 dX11_token_16 rfl (lv_at hl 0 rfl) ?_
    refine lv_aload_n C.1 C.2.1 dX11_token_17 rfl (lv_at hl 0 rfl) ?_
    refine gf10_5 C hP hb (m10 hb hL) q1444 dX11_token_18 ?_
    refine z_ki hS (z_runV (As := [.int (gI st b 5)]) (rest := []) C hP hS (m10 hb hL) (e10 hb) rfl (tX11_isLetter C.2.2.2.2.2.2.1 (hL.mo (Nat.le_of_ble_eq_true rfl) (Nat.le_of_ble_eq_true rfl)) hb h) q1500 q1502 q43 q124 q1503 hdX11_isLetter ⟨Nat.le_of_ble_eq_true rfl, Nat.le_of_ble_eq_true rfl⟩ ⟨Nat.zero_le _, Nat.zero_le _⟩ rfl hl.1 rfl (lv_room (Nat.le_of_ble_eq_true rfl)) dX11_token_21) (fun r2 st1 H locs h hP hS => ?_)
    obtain ⟨hr2, h⟩ := h
    refine lv_if_eq C.1 C.2.1 (tgt := 32) dX11_token_24 (by decide) (fun hc => ?_) (fun hc => ?_)
    · have h := h.1 hc
      refine lv_aload_n C.1 C.2.1 dX11_token_32 rfl (lv_at hl 0 rfl) ?_
      refine lv_aload_n C.1 C.2.1 dX11_token_33 rfl (lv_at hl 0 rfl) ?_
      refine gf10_5 C hP hb (m10 hb hL) q1444 dX11_token_34 ?_
      refine z_ki hS (z_runV (As := [.int (gI st1 b 5)]) (rest := []) C hP hS (m10 hb hL) (e10 hb) rfl (tX11_isDigit C.2.2.2.2.2.2.1 (hL.mo (Nat.le_of_ble_eq_true rfl) (Nat.le_of_ble_eq_true rfl)) hb h) q1564 q1566 q46 q124 q1567 hdX11_isDigit ⟨Nat.le_of_ble_eq_true rfl, Nat.le_of_ble_eq_true rfl⟩ ⟨Nat.zero_le _, Nat.zero_le _⟩ rfl hl.1 rfl (lv_room (Nat.le_of_ble_eq_true rfl)) dX11_token_37) (fun r4 st3 H locs h hP hS => ?_)
      obtain ⟨hr4, h⟩ := h
      refine lv_if_eq C.1 C.2.1 (tgt := 131) dX11_token_40 (by decide) (fun hc => ?_) (fun hc => ?_)
      · have h := h.1 hc
        refine lv_aload_n C.1 C.2.1 dX11_token_131 rfl (lv_at hl 0 rfl) ?_
        refine gf10_14 C hP hb (m10 hb hL) q1456 dX11_token_132 ?_
        refine gn11_1 C hP (show kd 54 = 11 from rfl) (hL 54 (Nat.le_of_ble_eq_true rfl) (Nat.le_of_ble_eq_true rfl)) q1379 dX11_token_135 ?_
        refine lv_aload_n C.1 C.2.1 dX11_token_138 rfl (lv_at hl 0 rfl) ?_
        refine gf10_5 C hP hb (m10 hb hL) q1444 dX11_token_139 ?_
        obtain ⟨hi, h⟩ := h
        refine z_bald C hP (show kd 55 = 22 from rfl) (show ln 55 = 1600 from rfl) (hL 55 (Nat.le_of_ble_eq_true rfl) (Nat.le_of_ble_eq_true rfl)) hi dX11_token_142 ?_
        refine lv_topi (fun x5 ex5 => ?_)
        have h := h x5 ex5
        refine lv_istore_n C.1 C.2.1 dX11_token_143 rfl hl (Nat.le_of_ble_eq_true rfl) rfl (fun ls hl => ?_)
        have hl : lv_has ls 2 [(1, .int x5), (0, .ref (E.2.1 b))] := hl
        refine lv_aload_n C.1 C.2.1 dX11_token_144 rfl (lv_at hl 1 rfl) ?_
        refine lv_dup C.1 C.2.1 dX11_token_145 rfl ?_
        refine gf10_5 C hP hb (m10 hb hL) q1444 dX11_token_146 ?_
        refine lv_iconst C.1 C.2.1 (v := 1) dX11_token_149 rfl ?_
        refine lv_iadd C.1 C.2.1 dX11_token_150  ?_
        refine pf10_5 C hP hS hb (m10 hb hL) q1444 dX11_token_151 (fun H locs hP hS => ?_)
        obtain ⟨st6, est6⟩ : ∃ z, z = uI st3 b 5 ((gI st3 b 5) + 1) := ⟨_, rfl⟩
        rw [← est6] at hP; have h := h st6 est6
        refine lv_iload_n C.1 C.2.1 dX11_token_154 rfl (lv_at hl 0 rfl) ?_
        refine lv_bipush C.1 C.2.1 (v := 40) dX11_token_155 rfl ?_
        refine lv_icmp_eq C.1 C.2.1 (tgt := 196) dX11_token_157 (by decide) (fun hc => ?_) (fun hc => ?_)
        · have h := h.1 hc
          exact tX11_token_L196 hL C hr hlk hb _ _ _ h (lv_sub hl [0] rfl) hP hS
        · have h := h.2 hc
          refine lv_iload_n C.1 C.2.1 dX11_token_160 rfl (lv_at hl 0 rfl) ?_
          refine lv_bipush C.1 C.2.1 (v := 41) dX11_token_161 rfl ?_
          refine lv_icmp_eq C.1 C.2.1 (tgt := 196) dX11_token_163 (by decide) (fun hc => ?_) (fun hc => ?_)
          · have h := h.1 hc
            exact tX11_token_L196 hL C hr hlk hb _ _ _ h (lv_sub hl [0] rfl) hP hS
          · have h := h.2 hc
            refine lv_iload_n C.1 C.2.1 dX11_token_166 rfl (lv_at hl 0 rfl) ?_
            refine lv_bipush C.1 C.2.1 (v := 59) dX11_token_167 rfl ?_
            refine lv_icmp_eq C.1 C.2.1 (tgt := 196) dX11_token_169 (by decide) (fun hc => ?_) (fun hc => ?_)
            · have h := h.1 hc
              exact tX11_token_L196 hL C hr hlk hb _ _ _ h (lv_sub hl [0] rfl) hP hS
            · have h := h.2 hc
              refine lv_iload_n C.1 C.2.1 dX11_token_172 rfl (lv_at hl 0 rfl) ?_
              refine lv_bipush C.1 C.2.1 (v := 44) dX11_token_173 rfl ?_
              refine lv_icmp_eq C.1 C.2.1 (tgt := 196) dX11_token_175 (by decide) (fun hc => ?_) (fun hc => ?_)
              · have h := h.1 hc
                exact tX11_token_L196 hL C hr hlk hb _ _ _ h (lv_sub hl [0] rfl) hP hS
              · have h := h.2 hc
                refine lv_iload_n C.1 C.2.1 dX11_token_178 rfl (lv_at hl 0 rfl) ?_
                refine lv_bipush C.1 C.2.1 (v := 60) dX11_token_179 rfl ?_
                refine lv_icmp_eq C.1 C.2.1 (tgt := 196) dX11_token_181 (by decide) (fun hc => ?_) (fun hc => ?_)
                · have h := h.1 hc
                  exact tX11_token_L196 hL C hr hlk hb _ _ _ h (lv_sub hl [0] rfl) hP hS
                · have h := h.2 hc
                  refine lv_iload_n C.1 C.2.1 dX11_token_184 rfl (lv_at hl 0 rfl) ?_
                  refine lv_bipush C.1 C.2.1 (v := 62) dX11_token_185 rfl ?_
                  refine lv_icmp_eq C.1 C.2.1 (tgt := 196) dX11_token_187 (by decide) (fun hc => ?_) (fun hc => ?_)
                  · have h := h.1 hc
                    exact tX11_token_L196 hL C hr hlk hb _ _ _ h (lv_sub hl [0] rfl) hP hS
                  · have h := h.2 hc
                    refine lv_iload_n C.1 C.2.1 dX11_token_190 rfl (lv_at hl 0 rfl) ?_
                    refine lv_bipush C.1 C.2.1 (v := 61) dX11_token_191 rfl ?_
                    refine lv_icmp_ne C.1 C.2.1 (tgt := 200) dX11_token_193 (by decide) (fun hc => ?_) (fun hc => ?_)
                    · have h := h.1 hc
                      refine lv_iconst C.1 C.2.1 (v := 1) dX11_token_200 rfl ?_
                      exact z_ri C hr hlk rfl hP hS h dX11_token_201
                    · have h := h.2 hc
                      exact tX11_token_L196 hL C hr hlk hb _ _ _ h (lv_sub hl [0] rfl) hP hS
      · have h := h.2 hc
        refine lv_aload_n C.1 C.2.1 dX11_token_43 rfl (lv_at hl 0 rfl) ?_
        refine lv_iconst C.1 C.2.1 (v := 0) dX11_token_44 rfl ?_
        refine pf10_8 C hP hS hb (m10 hb hL) q1447 dX11_token_45 (fun H locs hP hS => ?_)
        obtain ⟨st7, est7⟩ : ∃ z, z = uI st3 b 8 0 := ⟨_, rfl⟩
        rw [← est7] at hP; have h := h st7 est7
        obtain ⟨n, h⟩ := h
        exact tX11_token_L48 hL C hr hlk hb n st7 _ _ _ h hl hP hS
    · have h := h.2 hc
      refine lv_aload_n C.1 C.2.1 dX11_token_27 rfl (lv_at hl 0 rfl) ?_
      refine z_ki hS (z_runV (As := []) (rest := []) C hP hS (m10 hb hL) (e10 hb) rfl (tX11_word C.2.2.2.2.2.2.1 (hL.mo (Nat.le_of_ble_eq_true rfl) (Nat.le_of_ble_eq_true rfl)) hb h) q1504 q1506 q44 q124 q1507 hdX11_word ⟨Nat.le_of_ble_eq_true rfl, Nat.le_of_ble_eq_true rfl⟩ ⟨Nat.zero_le _, Nat.zero_le _⟩ rfl hl.1 rfl (lv_room (Nat.le_of_ble_eq_true rfl)) dX11_token_28) (fun r9 st8 H locs h hP hS => ?_)
      exact z_ri C hr hlk rfl hP hS h dX11_token_31
  · have h := h.2 hc
    refine lv_iconst C.1 C.2.1 (v := 0) dX11_token_14 rfl ?_
    exact z_ri C hr hlk rfl hP hS h dX11_token_15
def rmX11_next : Room := { frames := 7, cells := 0, slots := 0, locals := 151 }
def wX11_next_L48 (b : Nat) (R0 : St → Prop)  (st : St) (Q : St → Prop) : Prop :=
  (∀ st6, st6 = uI st b 5 ((gI st b 5) + 1) → R0 st6)
def wX11_next_L99 (b : Nat)   (st : St) (Q : St → Prop) : Prop :=
  (∀ st7, st7 = uI st b 10 ((gI st b 10) + 1) → Q st7)
def wX11_next_L61 (b : Nat)   (st : St) (Q : St → Prop) : Prop :=
  (∀ st1, st1 = uI st b 7 (gI st b 5) → (wX11_token b st1 (fun r3 st2 => (∀ st4, st4 = uI st2 b 6 r3 → (((gI st4 b 6) = 0 → wX11_next_L99 b st4 Q) ∧ (¬ (gI st4 b 6) = 0 → ((¬ (gI st4 b 10) = 400 → wX11_next_L99 b st4 Q) ∧ ((gI st4 b 10) = 400 → (∀ st5, st5 = uI st4 b 6 1 → wX11_next_L99 b st5 Q)))))))))
def wX11_next_L0 (b : Nat)  (R0 : St → Prop)  (st : St) (Q : St → Prop) : Prop :=
  (((gI st 54 2) ≤ (gI st b 5) → wX11_next_L61 b st Q) ∧ (¬ (gI st 54 2) ≤ (gI st b 5) → (vp_in (gI st b 5) 1600 ∧ (((gI st 55 (gI st b 5 : Int32).toNatClampNeg) = 32 → wX11_next_L48 b R0 st Q) ∧ (¬ (gI st 55 (gI st b 5 : Int32).toNatClampNeg) = 32 → (vp_in (gI st b 5) 1600 ∧ ((¬ (gI st 55 (gI st b 5 : Int32).toNatClampNeg) = 10 → wX11_next_L61 b st Q) ∧ ((gI st 55 (gI st b 5 : Int32).toNatClampNeg) = 10 → wX11_next_L48 b R0 st Q))))))))
def wX11_next (b : Nat) (st : St) (Q : St → Prop) : Prop :=
  (∃ n, lp (fun R s => wX11_next_L0 b R s Q) n st)
theorem hdX11_next : yX11_next.cls = "PlankBridgeModel$Reader" ∧ yX11_next.cls ≠ "java/lang/invoke/MethodHandle" ∧ yX11_next.cls ≠ "java/lang/invoke/VarHandle" ∧ (parseMethodDescriptor yX11_next.desc).map (fun d => d.parameters.length) = some 0 := by decide +kernel
set_option maxHeartbeats 4000000 in
set_option maxRecDepth 100000 in
theorem tX11_next_L48 {l : Launch} {p : Program} {e : Env} {s : State} {m : MethodId} {args : Array Value} {below : List Frame} {meth : Method} {c : Code} {E : En0} {L : List Nat} (hL : Cov 54 77 L) (C : Cx E L "PlankBridgeModel$Reader" cX11_next 1 p s m args c) (hr : meth.sig.returnType = none) (hlk : meth.locks = false) {b : Nat} {Q : St → Prop} (hb : kd b = 10) {R0 : St → Prop} (hR0 : ∀  (st : St), ∀ (H : Heap) (locs : List Loc) (ls : Array Slot), R0 st → lv_has ls 1 [(0, .ref (E.2.1 b))] → va_P E.1 vwCl (wd E L st) H → va_S (fA E L s.heap.size) s.heap H locs → W p l e rmX11_next s m args below meth c H locs 0 0 (MQ below (zV E L Q (fA E L s.heap.size)) args s rmX11_next.cells rmX11_next.slots (fA E L s.heap.size)) (F0 m 0 ls []))   {st : St} (H : Heap) (locs : List Loc) (ls : Array Slot) (h : wX11_next_L48 b R0 st Q) (hl : lv_has ls 1 [(0, .ref (E.2.1 b))]) (hP : va_P E.1 vwCl (wd E L st) H) (hS : va_S (fA E L s.heap.size) s.heap H locs) : W p l e rmX11_next s m args below meth c H locs 0 0 (MQ below (zV E L Q (fA E L s.heap.size)) args s rmX11_next.cells rmX11_next.slots (fA E L s.heap.size)) (F0 m 48 ls []) := by
  unfold wX11_next_L48 at h
  refine lv_aload_n C.1 C.2.1 dX11_next_48 rfl (lv_at hl 0 rfl) ?_
  refine lv_dup C.1 C.2.1 dX11_next_49 rfl ?_
  refine gf10_5 C hP hb (m10 hb hL) q1444 dX11_next_50 ?_
  refine lv_iconst C.1 C.2.1 (v := 1) dX11_next_53 rfl ?_
  refine lv_iadd C.1 C.2.1 dX11_next_54  ?_
  refine pf10_5 C hP hS hb (m10 hb hL) q1444 dX11_next_55 (fun H locs hP hS => ?_)
  obtain ⟨st6, est6⟩ : ∃ z, z = uI st b 5 ((gI st b 5) + 1) := ⟨_, rfl⟩
  rw [← est6] at hP; have h := h st6 est6
  refine lv_goto C.1 C.2.1 (tgt := 0) dX11_next_58 (by decide) ?_
  exact hR0 st6 _ _ _ h hl hP hS
set_option maxHeartbeats 4000000 in
set_option maxRecDepth 100000 in
theorem tX11_next_L99 {l : Launch} {p : Program} {e : Env} {s : State} {m : MethodId} {args : Array Value} {below : List Frame} {meth : Method} {c : Code} {E : En0} {L : List Nat} (hL : Cov 54 77 L) (C : Cx E L "PlankBridgeModel$Reader" cX11_next 1 p s m args c) (hr : meth.sig.returnType = none) (hlk : meth.locks = false) {b : Nat} {Q : St → Prop} (hb : kd b = 10)   {st : St} (H : Heap) (locs : List Loc) (ls : Array Slot) (h : wX11_next_L99 b st Q) (hl : lv_has ls 1 [(0, .ref (E.2.1 b))]) (hP : va_P E.1 vwCl (wd E L st) H) (hS : va_S (fA E L s.heap.size) s.heap H locs) : W p l e rmX11_next s m args below meth c H locs 0 0 (MQ below (zV E L Q (fA E L s.heap.size)) args s rmX11_next.cells rmX11_next.slots (fA E L s.heap.size)) (F0 m 99 ls []) := by
  unfold wX11_next_L99 at h
  refine lv_aload_n C.1 C.2.1 dX11_next_99 rfl (lv_at hl 0 rfl) ?_
  refine lv_dup C.1 C.2.1 dX11_next_100 rfl ?_
  refine gf10_10 C hP hb (m10 hb hL) q1449 dX11_next_101 ?_
  refine lv_iconst C.1 C.2.1 (v := 1) dX11_next_104 rfl ?_
  refine lv_iadd C.1 C.2.1 dX11_next_105  ?_
  refine pf10_10 C hP hS hb (m10 hb hL) q1449 dX11_next_106 (fun H locs hP hS => ?_)
  obtain ⟨st7, est7⟩ : ∃ z, z = uI st b 10 ((gI st b 10) + 1) := ⟨_, rfl⟩
  rw [← est7] at hP; have h := h st7 est7
  exact z_rv C hr hlk hP hS h dX11_next_109
set_option maxHeartbeats 4000000 in
set_option maxRecDepth 100000 in
theorem tX11_next_L61 {l : Launch} {p : Program} {e : Env} {s : State} {m : MethodId} {args : Array Value} {below : List Frame} {meth : Method} {c : Code} {E : En0} {L : List Nat} (hL : Cov 54 77 L) (C : Cx E L "PlankBridgeModel$Reader" cX11_next 1 p s m args c) (hr : meth.sig.returnType = none) (hlk : meth.locks = false) {b : Nat} {Q : St → Prop} (hb : kd b = 10)   {st : St} (H : Heap) (locs : List Loc) (ls : Array Slot) (h : wX11_next_L61 b st Q) (hl : lv_has ls 1 [(0, .ref (E.2.1 b))]) (hP : va_P E.1 vwCl (wd E L st) H) (hS : va_S (fA E L s.heap.size) s.heap H locs) : W p l e rmX11_next s m args below meth c H locs 0 0 (MQ below (zV E L Q (fA E L s.heap.size)) args s rmX11_next.cells rmX11_next.slots (fA E L s.heap.size)) (F0 m 61 ls []) := by
  unfold wX11_next_L61 at h
  refine lv_aload_n C.1 C.2.1 dX11_next_61 rfl (lv_at hl 0 rfl) ?_
  refine lv_aload_n C.1 C.2.1 dX11_next_62 rfl (lv_at hl 0 rfl) ?_
  refine gf10_5 C hP hb (m10 hb hL) q1444 dX11_next_63 ?_
  refine pf10_7 C hP hS hb (m10 hb hL) q1446 dX11_next_66 (fun H locs hP hS => ?_)
  obtain ⟨st1, est1⟩ : ∃ z, z = uI st b 7 (gI st b 5) := ⟨_, rfl⟩
  rw [← est1] at hP; have h := h st1 est1
  refine lv_aload_n C.1 C.2.1 dX11_next_69 rfl (lv_at hl 0 rfl) ?_
  refine lv_aload_n C.1 C.2.1 dX11_next_70 rfl (lv_at hl 0 rfl) ?_
  refine z_ki hS (z_runV (As := []) (rest := [.ref (E.2.1 b)]) C hP hS (m10 hb hL) (e10 hb) rfl (tX11_token C.2.2.2.2.2.2.1 (hL.mo (Nat.le_of_ble_eq_true rfl) (Nat.le_of_ble_eq_true rfl)) hb h) q1496 q1498 q42 q124 q1499 hdX11_token ⟨Nat.le_of_ble_eq_true rfl, Nat.le_of_ble_eq_true rfl⟩ ⟨Nat.zero_le _, Nat.zero_le _⟩ rfl hl.1 rfl (lv_room (Nat.le_of_ble_eq_true rfl)) dX11_next_71) (fun r3 st2 H locs h hP hS => ?_)
  refine pf10_6 C hP hS hb (m10 hb hL) q1445 dX11_next_74 (fun H locs hP hS => ?_)
  obtain ⟨st4, est4⟩ : ∃ z, z = uI st2 b 6 r3 := ⟨_, rfl⟩
  rw [← est4] at hP; have h := h st4 est4
  refine lv_aload_n C.1 C.2.1 dX11_next_77 rfl (lv_at hl 0 rfl) ?_
  refine gf10_6 C hP hb (m10 hb hL) q1445 dX11_next_78 ?_
  refine lv_if_eq C.1 C.2.1 (tgt := 99) dX11_next_81 (by decide) (fun hc => ?_) (fun hc => ?_)
  · have h := h.1 hc
    exact tX11_next_L99 hL C hr hlk hb _ _ _ h hl hP hS
  · have h := h.2 hc
    refine lv_aload_n C.1 C.2.1 dX11_next_84 rfl (lv_at hl 0 rfl) ?_
    refine gf10_10 C hP hb (m10 hb hL) q1449 dX11_next_85 ?_
    refine lv_sipush C.1 C.2.1 (v := 400) dX11_next_88 rfl ?_
    refine lv_icmp_ne C.1 C.2.1 (tgt := 99) dX11_next_91 (by decide) (fun hc => ?_) (fun hc => ?_)
    · have h := h.1 hc
      exact tX11_next_L99 hL C hr hlk hb _ _ _ h hl hP hS
    · have h := h.2 hc
      refine lv_aload_n C.1 C.2.1 dX11_next_94 rfl (lv_at hl 0 rfl) ?_
      refine lv_iconst C.1 C.2.1 (v := 1) dX11_next_95 rfl ?_
      refine pf10_6 C hP hS hb (m10 hb hL) q1445 dX11_next_96 (fun H locs hP hS => ?_)
      obtain ⟨st5, est5⟩ : ∃ z, z = uI st4 b 6 1 := ⟨_, rfl⟩
      rw [← est5] at hP; have h := h st5 est5
      exact tX11_next_L99 hL C hr hlk hb _ _ _ h hl hP hS
set_option maxHeartbeats 4000000 in
set_option maxRecDepth 100000 in
theorem tX11_next_L0 {l : Launch} {p : Program} {e : Env} {s : State} {m : MethodId} {args : Array Value} {below : List Frame} {meth : Method} {c : Code} {E : En0} {L : List Nat} (hL : Cov 54 77 L) (C : Cx E L "PlankBridgeModel$Reader" cX11_next 1 p s m args c) (hr : meth.sig.returnType = none) (hlk : meth.locks = false) {b : Nat} {Q : St → Prop} (hb : kd b = 10) : ∀ (n : Nat)  (st : St) (H : Heap) (locs : List Loc) (ls : Array Slot), lp (fun R s => wX11_next_L0 b R s Q) n st → lv_has ls 1 [(0, .ref (E.2.1 b))] → va_P E.1 vwCl (wd E L st) H → va_S (fA E L s.heap.size) s.heap H locs → W p l e rmX11_next s m args below meth c H locs 0 0 (MQ below (zV E L Q (fA E L s.heap.size)) args s rmX11_next.cells rmX11_next.slots (fA E L s.heap.size)) (F0 m 0 ls []) := by
  intro n
  induction n with
  | zero => exact fun _ _ _ _ h _ _ _ => False.elim ‹_›
  | succ n ih =>
    intro  st  H locs ls h hl hP hS
    have hR0 := ih
    replace h : wX11_next_L0 b (lp (fun R s => wX11_next_L0 b R s Q) n) st Q := h
    unfold wX11_next_L0 at h
    refine lv_aload_n C.1 C.2.1 dX11_next_0 rfl (lv_at hl 0 rfl) ?_
    refine gf10_5 C hP hb (m10 hb hL) q1444 dX11_next_1 ?_
    refine lv_aload_n C.1 C.2.1 dX11_next_4 rfl (lv_at hl 0 rfl) ?_
    refine gf10_14 C hP hb (m10 hb hL) q1456 dX11_next_5 ?_
    refine gn11_2 C hP (show kd 54 = 11 from rfl) (hL 54 (Nat.le_of_ble_eq_true rfl) (Nat.le_of_ble_eq_true rfl)) q1380 dX11_next_8 ?_
    refine lv_icmp_ge C.1 C.2.1 (tgt := 61) dX11_next_11 (by decide) (fun hc => ?_) (fun hc => ?_)
    · have h := h.1 hc
      exact tX11_next_L61 hL C hr hlk hb _ _ _ h hl hP hS
    · have h := h.2 hc
      refine lv_aload_n C.1 C.2.1 dX11_next_14 rfl (lv_at hl 0 rfl) ?_
      refine gf10_14 C hP hb (m10 hb hL) q1456 dX11_next_15 ?_
      refine gn11_1 C hP (show kd 54 = 11 from rfl) (hL 54 (Nat.le_of_ble_eq_true rfl) (Nat.le_of_ble_eq_true rfl)) q1379 dX11_next_18 ?_
      refine lv_aload_n C.1 C.2.1 dX11_next_21 rfl (lv_at hl 0 rfl) ?_
      refine gf10_5 C hP hb (m10 hb hL) q1444 dX11_next_22 ?_
      obtain ⟨hi, h⟩ := h
      refine z_bald C hP (show kd 55 = 22 from rfl) (show ln 55 = 1600 from rfl) (hL 55 (Nat.le_of_ble_eq_true rfl) (Nat.le_of_ble_eq_true rfl)) hi dX11_next_25 ?_
      refine lv_bipush C.1 C.2.1 (v := 32) dX11_next_26 rfl ?_
      refine lv_icmp_eq C.1 C.2.1 (tgt := 48) dX11_next_28 (by decide) (fun hc => ?_) (fun hc => ?_)
      · have h := h.1 hc
        exact tX11_next_L48 hL C hr hlk hb hR0 _ _ _ h hl hP hS
      · have h := h.2 hc
        refine lv_aload_n C.1 C.2.1 dX11_next_31 rfl (lv_at hl 0 rfl) ?_
        refine gf10_14 C hP hb (m10 hb hL) q1456 dX11_next_32 ?_
        refine gn11_1 C hP (show kd 54 = 11 from rfl) (hL 54 (Nat.le_of_ble_eq_true rfl) (Nat.le_of_ble_eq_true rfl)) q1379 dX11_next_35 ?_
        refine lv_aload_n C.1 C.2.1 dX11_next_38 rfl (lv_at hl 0 rfl) ?_
        refine gf10_5 C hP hb (m10 hb hL) q1444 dX11_next_39 ?_
        obtain ⟨hi, h⟩ := h
        refine z_bald C hP (show kd 55 = 22 from rfl) (show ln 55 = 1600 from rfl) (hL 55 (Nat.le_of_ble_eq_true rfl) (Nat.le_of_ble_eq_true rfl)) hi dX11_next_42 ?_
        refine lv_bipush C.1 C.2.1 (v := 10) dX11_next_43 rfl ?_
        refine lv_icmp_ne C.1 C.2.1 (tgt := 61) dX11_next_45 (by decide) (fun hc => ?_) (fun hc => ?_)
        · have h := h.1 hc
          exact tX11_next_L61 hL C hr hlk hb _ _ _ h hl hP hS
        · have h := h.2 hc
          exact tX11_next_L48 hL C hr hlk hb hR0 _ _ _ h hl hP hS
set_option maxHeartbeats 4000000 in
set_option maxRecDepth 100000 in
theorem tX11_next {l : Launch} {E : En0} {L : List Nat} (hE : EK E L) (hL : Cov 54 77 L) {b : Nat} {st : St} {Q : St → Prop} (hb : kd b = 10) (h : wX11_next b st Q) : Mz l yX11_next cX11_next 1 none rmX11_next E L [.ref (E.2.1 b)] st (zV E L Q) := by
  refine Mz.of hE (by decide) (Nat.le_of_ble_eq_true rfl) ?_
  intro p e s m below meth c ls C hr hlk _ hl hP
  replace C : Cx E L "PlankBridgeModel$Reader" cX11_next 1 p s m _ c := C
  have hS : va_S (fA E L s.heap.size) s.heap s.heap [] := va_S.rf
  replace hl : lv_has ls 1 [(0, .ref (E.2.1 b))] := hl
  unfold wX11_next at h
  obtain ⟨n, h⟩ := h
  exact tX11_next_L0 hL C hr hlk hb n st _ _ _ h hl hP hS
def rmX11_take : Room := { frames := 8, cells := 0, slots := 0, locals := 171 }
def wX11_take (b : Nat) (p1 : Int32) (st : St) (Q : Int32 → St → Prop) : Prop :=
  (((gI st b 6) = p1 → (wX11_next b st (fun st1 => Q 1 st1))) ∧ (¬ (gI st b 6) = p1 → (wX11_wrong b st (fun r3 st2 => Q r3 st2))))
theorem hdX11_take : yX11_take.cls = "PlankBridgeModel$Reader" ∧ yX11_take.cls ≠ "java/lang/invoke/MethodHandle" ∧ yX11_take.cls ≠ "java/lang/invoke/VarHandle" ∧ (parseMethodDescriptor yX11_take.desc).map (fun d => d.parameters.length) = some 1 := by decide +kernel
set_option maxHeartbeats 4000000 in
set_option maxRecDepth 100000 in
theorem tX11_take {l : Launch} {E : En0} {L : List Nat} (hE : EK E L) (hL : Cov 54 77 L) {b : Nat} {p1 : Int32} {st : St} {Q : Int32 → St → Prop} (hb : kd b = 10) (h : wX11_take b p1 st Q) : Mz l yX11_take cX11_take 2 (some .boolean) rmX11_take E L [.ref (E.2.1 b), .int p1] st (zI E L (fun r u => bz r ∧ Q r u)) := by
  refine Mz.of hE (by decide) (Nat.le_of_ble_eq_true rfl) ?_
  intro p e s m below meth c ls C hr hlk _ hl hP
  replace C : Cx E L "PlankBridgeModel$Reader" cX11_take 2 p s m _ c := C
  have hS : va_S (fA E L s.heap.size) s.heap s.heap [] := va_S.rf
  replace hl : lv_has ls 2 [(0, .ref (E.2.1 b)), (1, .int p1)] := hl
  unfold wX11_take at h
  refine lv_aload_n C.1 C.2.1 dX11_take_0 rfl (lv_at hl 0 rfl) ?_
  refine gf10_6 C hP hb (m10 hb hL) q1445 dX11_take_1 ?_
  refine lv_iload_n C.1 C.2.1 dX11_take_4 rfl (lv_at hl 1 rfl) ?_
  refine lv_icmp_eq C.1 C.2.1 (tgt := 13) dX11_take_5 (by decide) (fun hc => ?_) (fun hc => ?_)
  · have h := h.1 hc
    refine lv_aload_n C.1 C.2.1 dX11_take_13 rfl (lv_at hl 0 rfl) ?_
    refine z_kv hS (z_runV (As := []) (rest := []) C hP hS (m10 hb hL) (e10 hb) rfl (tX11_next C.2.2.2.2.2.2.1 (hL.mo (Nat.le_of_ble_eq_true rfl) (Nat.le_of_ble_eq_true rfl)) hb h) q1492 q1494 q41 q124 q1495 hdX11_next ⟨Nat.le_of_ble_eq_true rfl, Nat.le_of_ble_eq_true rfl⟩ ⟨Nat.zero_le _, Nat.zero_le _⟩ rfl hl.1 rfl (lv_room (Nat.le_of_ble_eq_true rfl)) dX11_take_14) (fun st1 H locs h hP hS => ?_)
    refine lv_iconst C.1 C.2.1 (v := 1) dX11_take_17 rfl ?_
    exact z_ri C hr hlk (bz_n bz1) hP hS ⟨bz1, h⟩ dX11_take_18
  · have h := h.2 hc
    refine lv_aload_n C.1 C.2.1 dX11_take_8 rfl (lv_at hl 0 rfl) ?_
    refine z_ki hS (z_runV (As := []) (rest := []) C hP hS (m10 hb hL) (e10 hb) rfl (tX11_wrong C.2.2.2.2.2.2.1 (hL.mo (Nat.le_of_ble_eq_true rfl) (Nat.le_of_ble_eq_true rfl)) hb h) q1576 q1578 q49 q124 q1579 hdX11_wrong ⟨Nat.le_of_ble_eq_true rfl, Nat.le_of_ble_eq_true rfl⟩ ⟨Nat.zero_le _, Nat.zero_le _⟩ rfl hl.1 rfl (lv_room (Nat.le_of_ble_eq_true rfl)) dX11_take_9) (fun r3 st2 H locs h hP hS => ?_)
    obtain ⟨hr3, h⟩ := h
    exact z_ri C hr hlk (bz_n hr3) hP hS ⟨hr3, h⟩ dX11_take_12
def rmX11_find : Room := { frames := 0, cells := 0, slots := 0, locals := 0 }
def wX11_find_L3 (b : Nat) (p1 : Int64) (p2 : Int32) (p3 : Int32)  (R3 : Int64 × Int32 × Int32 × Int32 × St → Prop) (v1 : Int64) (v3 : Int32) (v4 : Int32) (v5 : Int32) (st : St) (Q : Int32 → St → Prop) : Prop :=
  ((v4 ≤ v5 → Q (-1) st) ∧ (¬ v4 ≤ v5 → (vp_in v5 16 ∧ ((¬ (lg_cmp (gJ st (b + 1) (v5 : Int32).toNatClampNeg) v1) = 0 → (∀ x1 : Int32, x1 = v5 + 1 → R3 (v1, v3, v4, x1, st))) ∧ ((lg_cmp (gJ st (b + 1) (v5 : Int32).toNatClampNeg) v1) = 0 → Q (v5 - v3) st)))))
def wX11_find (b : Nat) (p1 : Int64) (p2 : Int32) (p3 : Int32) (st : St) (Q : Int32 → St → Prop) : Prop :=
  (∃ n, lp (fun R s => wX11_find_L3 b p1 p2 p3 R s.1 s.2.1 s.2.2.1 s.2.2.2.1 s.2.2.2.2 Q) n (p1, p2, p3, p2, st))
theorem hdX11_find : yX11_find.cls = "PlankBridgeModel$Reader" ∧ yX11_find.cls ≠ "java/lang/invoke/MethodHandle" ∧ yX11_find.cls ≠ "java/lang/invoke/VarHandle" ∧ (parseMethodDescriptor yX11_find.desc).map (fun d => d.parameters.length) = some 3 := by decide +kernel
set_option maxHeartbeats 4000000 in
set_option maxRecDepth 100000 in
theorem tX11_find_L3 {l : Launch} {p : Program} {e : Env} {s : State} {m : MethodId} {args : Array Value} {below : List Frame} {meth : Method} {c : Code} {E : En0} {L : List Nat} (hL : Cov 54 77 L) (C : Cx E L "PlankBridgeModel$Reader" cX11_find 6 p s m args c) (hr : meth.sig.returnType = (some .int)) (hlk : meth.locks = false) {b : Nat} {p1 : Int64} {p2 : Int32} {p3 : Int32} {Q : Int32 → St → Prop} (hb : kd b = 10) : ∀ (n : Nat) (v1 : Int64) (v3 : Int32) (v4 : Int32) (v5 : Int32) (st : St) (H : Heap) (locs : List Loc) (ls : Array Slot), lp (fun R s => wX11_find_L3 b p1 p2 p3 R s.1 s.2.1 s.2.2.1 s.2.2.2.1 s.2.2.2.2 Q) n (v1, v3, v4, v5, st) → lv_has ls 6 [(0, .ref (E.2.1 b)), (1, .long v1), (3, .int v3), (4, .int v4), (5, .int v5)] → va_P E.1 vwCl (wd E L st) H → va_S (fA E L s.heap.size) s.heap H locs → W p l e rmX11_find s m args below meth c H locs 0 0 (MQ below (zI E L Q (fA E L s.heap.size)) args s rmX11_find.cells rmX11_find.slots (fA E L s.heap.size)) (F0 m 3 ls []) := by
  intro n
  induction n with
  | zero => exact fun _ _ _ _ _ _ _ _ h _ _ _ => False.elim ‹_›
  | succ n ih =>
    intro v1 v3 v4 v5 st  H locs ls h hl hP hS
    have hR3 := ih
    replace h : wX11_find_L3 b p1 p2 p3 (lp (fun R s => wX11_find_L3 b p1 p2 p3 R s.1 s.2.1 s.2.2.1 s.2.2.2.1 s.2.2.2.2 Q) n) v1 v3 v4 v5 st Q := h
    unfold wX11_find_L3 at h
    refine lv_iload C.1 C.2.1 dX11_find_3 (lv_at hl 4 rfl) ?_
    refine lv_iload C.1 C.2.1 dX11_find_5 (lv_at hl 3 rfl) ?_
    refine lv_icmp_ge C.1 C.2.1 (tgt := 33) dX11_find_7 (by decide) (fun hc => ?_) (fun hc => ?_)
    · have h := h.1 hc
      refine lv_iconst C.1 C.2.1 (v := (-1)) dX11_find_33 rfl ?_
      exact z_ri C hr hlk rfl hP hS h dX11_find_34
    · have h := h.2 hc
      refine lv_aload_n C.1 C.2.1 dX11_find_10 rfl (lv_at hl 0 rfl) ?_
      refine gf10_1 C hP hb (m10 hb hL) q1440 dX11_find_11 ?_
      refine lv_iload C.1 C.2.1 dX11_find_14 (lv_at hl 4 rfl) ?_
      obtain ⟨hi, h⟩ := h
      refine z_lald C hP (k10_1 hb) (l10_1 hb) (m10_1 hb hL) hi dX11_find_16 ?_
      refine lv_lload_n C.1 C.2.1 dX11_find_17 rfl (lv_at hl 1 rfl) ?_
      refine W.lcmp C.1 C.2.1 dX11_find_18 ?_
      refine lv_if_ne C.1 C.2.1 (tgt := 27) dX11_find_19 (by decide) (fun hc => ?_) (fun hc => ?_)
      · have h := h.1 hc
        obtain ⟨x1, ex1⟩ : ∃ z, z = v5 + 1 := ⟨_, rfl⟩
        have h := h x1 ex1
        refine lv_iinc C.1 C.2.1 dX11_find_27 hl (k := 4) rfl ex1.symm (Nat.le_of_ble_eq_true rfl) rfl (fun ls hl => ?_)
        have hl : lv_has ls 6 [(5, .int x1), (0, .ref (E.2.1 b)), (1, .long v1), (3, .int v3), (4, .int v4)] := hl
        refine lv_goto C.1 C.2.1 (tgt := 3) dX11_find_30 (by decide) ?_
        exact hR3 v1 v3 v4 x1 st _ _ _ h (lv_sub hl [1, 2, 3, 4, 0] rfl) hP hS
      · have h := h.2 hc
        refine lv_iload C.1 C.2.1 dX11_find_22 (lv_at hl 4 rfl) ?_
        refine lv_iload_n C.1 C.2.1 dX11_find_24 rfl (lv_at hl 2 rfl) ?_
        refine lv_isub C.1 C.2.1 dX11_find_25  ?_
        exact z_ri C hr hlk rfl hP hS h dX11_find_26
set_option maxHeartbeats 4000000 in
set_option maxRecDepth 100000 in
theorem tX11_find {l : Launch} {E : En0} {L : List Nat} (hE : EK E L) (hL : Cov 54 77 L) {b : Nat} {p1 : Int64} {p2 : Int32} {p3 : Int32} {st : St} {Q : Int32 → St → Prop} (hb : kd b = 10) (h : wX11_find b p1 p2 p3 st Q) : Mz l yX11_find cX11_find 6 (some .int) rmX11_find E L [.ref (E.2.1 b), .long p1, .int p2, .int p3] st (zI E L Q) := by
  refine Mz.of hE (by decide) (Nat.le_of_ble_eq_true rfl) ?_
  intro p e s m below meth c ls C hr hlk _ hl hP
  replace C : Cx E L "PlankBridgeModel$Reader" cX11_find 6 p s m _ c := C
  have hS : va_S (fA E L s.heap.size) s.heap s.heap [] := va_S.rf
  replace hl : lv_has ls 6 [(0, .ref (E.2.1 b)), (1, .long p1), (3, .int p2), (4, .int p3)] := hl
  unfold wX11_find at h
  refine lv_iload_n C.1 C.2.1 dX11_find_0 rfl (lv_at hl 2 rfl) ?_
  refine lv_istore C.1 C.2.1 dX11_find_1 hl (Nat.le_of_ble_eq_true rfl) rfl (fun ls hl => ?_)
  have hl : lv_has ls 6 [(5, .int p2), (0, .ref (E.2.1 b)), (1, .long p1), (3, .int p2), (4, .int p3)] := hl
  obtain ⟨n, h⟩ := h
  exact tX11_find_L3 hL C hr hlk hb n p1 p2 p3 p2 st _ _ _ h (lv_sub hl [1, 2, 3, 4, 0] rfl) hP hS
def rmX11_naming : Room := { frames := 8, cells := 0, slots := 0, locals := 171 }
def wX11_naming_L91 (b : Nat) (p1 : Int32)   (st : St) (Q : Int32 → St → Prop) : Prop :=
  (wX11_next b st (fun st9 => Q 1 st9))
def wX11_naming_L69 (b : Nat) (p1 : Int32)   (st : St) (Q : Int32 → St → Prop) : Prop :=
  ((16 ≤ (gI st b 2) → wX11_naming_L91 b p1 st Q) ∧ (¬ 16 ≤ (gI st b 2) → (∀ st8, st8 = uI st b 2 ((gI st b 2) + 1) → wX11_naming_L91 b p1 st8 Q)))
def wX11_naming_L44 (b : Nat) (p1 : Int32)   (st : St) (Q : Int32 → St → Prop) : Prop :=
  ((16 ≤ (gI st b 2) → wX11_naming_L69 b p1 st Q) ∧ (¬ 16 ≤ (gI st b 2) → (vp_in (gI st b 2) 16 ∧ ∀ st7, st7 = uJ st (b + 1) (gI st b 2 : Int32).toNatClampNeg (gJ st b 9) → wX11_naming_L69 b p1 st7 Q)))
def wX11_naming_L35 (b : Nat) (p1 : Int32)  (v1 : Int32) (st : St) (Q : Int32 → St → Prop) : Prop :=
  ((v1 = 0 → wX11_naming_L44 b p1 st Q) ∧ (¬ v1 = 0 → (wX11_note b 4 st (fun st6 => wX11_naming_L44 b p1 st6 Q))))
def wX11_naming (b : Nat) (p1 : Int32) (st : St) (Q : Int32 → St → Prop) : Prop :=
  (((gI st b 6) = 2 → (wX11_find b (gJ st b 9) 0 (gI st b 2) st (fun r2 st1 => ((r2 = (-1) → wX11_naming_L35 b p1 p1 st1 Q) ∧ (¬ r2 = (-1) → (wX11_note b 2 st1 (fun st3 => wX11_naming_L35 b p1 p1 st3 Q))))))) ∧ (¬ (gI st b 6) = 2 → (wX11_wrong b st (fun r5 st4 => Q r5 st4))))
theorem hdX11_naming : yX11_naming.cls = "PlankBridgeModel$Reader" ∧ yX11_naming.cls ≠ "java/lang/invoke/MethodHandle" ∧ yX11_naming.cls ≠ "java/lang/invoke/VarHandle" ∧ (parseMethodDescriptor yX11_naming.desc).map (fun d => d.parameters.length) = some 1 := by decide +kernel
set_option maxHeartbeats 4000000 in
set_option maxRecDepth 100000 in
theorem tX11_naming_L91 {l : Launch} {p : Program} {e : Env} {s : State} {m : MethodId} {args : Array Value} {below : List Frame} {meth : Method} {c : Code} {E : En0} {L : List Nat} (hL : Cov 54 77 L) (C : Cx E L "PlankBridgeModel$Reader" cX11_naming 2 p s m args c) (hr : meth.sig.returnType = (some .boolean)) (hlk : meth.locks = false) {b : Nat} {p1 : Int32} {Q : Int32 → St → Prop} (hb : kd b = 10)   {st : St} (H : Heap) (locs : List Loc) (ls : Array Slot) (h : wX11_naming_L91 b p1 st Q) (hl : lv_has ls 2 [(0, .ref (E.2.1 b))]) (hP : va_P E.1 vwCl (wd E L st) H) (hS : va_S (fA E L s.heap.size) s.heap H locs) : W p l e rmX11_naming s m args below meth c H locs 0 0 (MQ below (zI E L (fun r u => bz r ∧ Q r u) (fA E L s.heap.size)) args s rmX11_naming.cells rmX11_naming.slots (fA E L s.heap.size)) (F0 m 91 ls []) := by
  unfold wX11_naming_L91 at h
  refine lv_aload_n C.1 C.2.1 dX11_naming_91 rfl (lv_at hl 0 rfl) ?_
  refine z_kv hS (z_runV (As := []) (rest := []) C hP hS (m10 hb hL) (e10 hb) rfl (tX11_next C.2.2.2.2.2.2.1 (hL.mo (Nat.le_of_ble_eq_true rfl) (Nat.le_of_ble_eq_true rfl)) hb h) q1492 q1494 q41 q124 q1495 hdX11_next ⟨Nat.le_of_ble_eq_true rfl, Nat.le_of_ble_eq_true rfl⟩ ⟨Nat.zero_le _, Nat.zero_le _⟩ rfl hl.1 rfl (lv_room (Nat.le_of_ble_eq_true rfl)) dX11_naming_92) (fun st9 H locs h hP hS => ?_)
  refine lv_iconst C.1 C.2.1 (v := 1) dX11_naming_95 rfl ?_
  exact z_ri C hr hlk (bz_n bz1) hP hS ⟨bz1, h⟩ dX11_naming_96
set_option maxHeartbeats 4000000 in
set_option maxRecDepth 100000 in
theorem tX11_naming_L69 {l : Launch} {p : Program} {e : Env} {s : State} {m : MethodId} {args : Array Value} {below : List Frame} {meth : Method} {c : Code} {E : En0} {L : List Nat} (hL : Cov 54 77 L) (C : Cx E L "PlankBridgeModel$Reader" cX11_naming 2 p s m args c) (hr : meth.sig.returnType = (some .boolean)) (hlk : meth.locks = false) {b : Nat} {p1 : Int32} {Q : Int32 → St → Prop} (hb : kd b = 10)   {st : St} (H : Heap) (locs : List Loc) (ls : Array Slot) (h : wX11_naming_L69 b p1 st Q) (hl : lv_has ls 2 [(0, .ref (E.2.1 b))]) (hP : va_P E.1 vwCl (wd E L st) H) (hS : va_S (fA E L s.heap.size) s.heap H locs) : W p l e rmX11_naming s m args below meth c H locs 0 0 (MQ below (zI E L (fun r u => bz r ∧ Q r u) (fA E L s.heap.size)) args s rmX11_naming.cells rmX11_naming.slots (fA E L s.heap.size)) (F0 m 69 ls []) := by
  unfold wX11_naming_L69 at h
  refine lv_aload_n C.1 C.2.1 dX11_naming_69 rfl (lv_at hl 0 rfl) ?_
  refine gf10_2 C hP hb (m10 hb hL) q1441 dX11_naming_70 ?_
  refine lv_aload_n C.1 C.2.1 dX11_naming_73 rfl (lv_at hl 0 rfl) ?_
  refine gf10_1 C hP hb (m10 hb hL) q1440 dX11_naming_74 ?_
  refine z_alenJ C hP (k10_1 hb) (l10_1 hb) (m10_1 hb hL) (v := 16) rfl dX11_naming_77 ?_
  refine lv_icmp_ge C.1 C.2.1 (tgt := 91) dX11_naming_78 (by decide) (fun hc => ?_) (fun hc => ?_)
  · have h := h.1 hc
    exact tX11_naming_L91 hL C hr hlk hb _ _ _ h hl hP hS
  · have h := h.2 hc
    refine lv_aload_n C.1 C.2.1 dX11_naming_81 rfl (lv_at hl 0 rfl) ?_
    refine lv_dup C.1 C.2.1 dX11_naming_82 rfl ?_
    refine gf10_2 C hP hb (m10 hb hL) q1441 dX11_naming_83 ?_
    refine lv_iconst C.1 C.2.1 (v := 1) dX11_naming_86 rfl ?_
    refine lv_iadd C.1 C.2.1 dX11_naming_87  ?_
    refine pf10_2 C hP hS hb (m10 hb hL) q1441 dX11_naming_88 (fun H locs hP hS => ?_)
    obtain ⟨st8, est8⟩ : ∃ z, z = uI st b 2 ((gI st b 2) + 1) := ⟨_, rfl⟩
    rw [← est8] at hP; have h := h st8 est8
    exact tX11_naming_L91 hL C hr hlk hb _ _ _ h hl hP hS
set_option maxHeartbeats 4000000 in
set_option maxRecDepth 100000 in
theorem tX11_naming_L44 {l : Launch} {p : Program} {e : Env} {s : State} {m : MethodId} {args : Array Value} {below : List Frame} {meth : Method} {c : Code} {E : En0} {L : List Nat} (hL : Cov 54 77 L) (C : Cx E L "PlankBridgeModel$Reader" cX11_naming 2 p s m args c) (hr : meth.sig.returnType = (some .boolean)) (hlk : meth.locks = false) {b : Nat} {p1 : Int32} {Q : Int32 → St → Prop} (hb : kd b = 10)   {st : St} (H : Heap) (locs : List Loc) (ls : Array Slot) (h : wX11_naming_L44 b p1 st Q) (hl : lv_has ls 2 [(0, .ref (E.2.1 b))]) (hP : va_P E.1 vwCl (wd E L st) H) (hS : va_S (fA E L s.heap.size) s.heap H locs) : W p l e rmX11_naming s m args below meth c H locs 0 0 (MQ below (zI E L (fun r u => bz r ∧ Q r u) (fA E L s.heap.size)) args s rmX11_naming.cells rmX11_naming.slots (fA E L s.heap.size)) (F0 m 44 ls []) := by
  unfold wX11_naming_L44 at h
  refine lv_aload_n C.1 C.2.1 dX11_naming_44 rfl (lv_at hl 0 rfl) ?_
  refine gf10_2 C hP hb (m10 hb hL) q1441 dX11_naming_45 ?_
  refine lv_aload_n C.1 C.2.1 dX11_naming_48 rfl (lv_at hl 0 rfl) ?_
  refine gf10_1 C hP hb (m10 hb hL) q1440 dX11_naming_49 ?_
  refine z_alenJ C hP (k10_1 hb) (l10_1 hb) (m10_1 hb hL) (v := 16) rfl dX11_naming_52 ?_
  refine lv_icmp_ge C.1 C.2.1 (tgt := 69) dX11_naming_53 (by decide) (fun hc => ?_) (fun hc => ?_)
  · have h := h.1 hc
    exact tX11_naming_L69 hL C hr hlk hb _ _ _ h hl hP hS
  · have h := h.2 hc
    refine lv_aload_n C.1 C.2.1 dX11_naming_56 rfl (lv_at hl 0 rfl) ?_
    refine gf10_1 C hP hb (m10 hb hL) q1440 dX11_naming_57 ?_
    refine lv_aload_n C.1 C.2.1 dX11_naming_60 rfl (lv_at hl 0 rfl) ?_
    refine gf10_2 C hP hb (m10 hb hL) q1441 dX11_naming_61 ?_
    refine lv_aload_n C.1 C.2.1 dX11_naming_64 rfl (lv_at hl 0 rfl) ?_
    refine gf10_9 C hP hb (m10 hb hL) q1448 dX11_naming_65 ?_
    obtain ⟨hi, h⟩ := h
    refine z_last C hP hS (k10_1 hb) (l10_1 hb) (m10_1 hb hL) hi dX11_naming_68 (fun H locs hP hS => ?_)
    obtain ⟨st7, est7⟩ : ∃ z, z = uJ st (b + 1) (gI st b 2 : Int32).toNatClampNeg (gJ st b 9) := ⟨_, rfl⟩
    rw [← est7] at hP; have h := h st7 est7
    exact tX11_naming_L69 hL C hr hlk hb _ _ _ h hl hP hS
set_option maxHeartbeats 4000000 in
set_option maxRecDepth 100000 in
theorem tX11_naming_L35 {l : Launch} {p : Program} {e : Env} {s : State} {m : MethodId} {args : Array Value} {below : List Frame} {meth : Method} {c : Code} {E : En0} {L : List Nat} (hL : Cov 54 77 L) (C : Cx E L "PlankBridgeModel$Reader" cX11_naming 2 p s m args c) (hr : meth.sig.returnType = (some .boolean)) (hlk : meth.locks = false) {b : Nat} {p1 : Int32} {Q : Int32 → St → Prop} (hb : kd b = 10) {v1 : Int32}  {st : St} (H : Heap) (locs : List Loc) (ls : Array Slot) (h : wX11_naming_L35 b p1 v1 st Q) (hl : lv_has ls 2 [(0, .ref (E.2.1 b)), (1, .int v1)]) (hP : va_P E.1 vwCl (wd E L st) H) (hS : va_S (fA E L s.heap.size) s.heap H locs) : W p l e rmX11_naming s m args below meth c H locs 0 0 (MQ below (zI E L (fun r u => bz r ∧ Q r u) (fA E L s.heap.size)) args s rmX11_naming.cells rmX11_naming.slots (fA E L s.heap.size)) (F0 m 35 ls []) := by
  unfold wX11_naming_L35 at h
  refine lv_iload_n C.1 C.2.1 dX11_naming_35 rfl (lv_at hl 1 rfl) ?_
  refine lv_if_eq C.1 C.2.1 (tgt := 44) dX11_naming_36 (by decide) (fun hc => ?_) (fun hc => ?_)
  · have h := h.1 hc
    exact tX11_naming_L44 hL C hr hlk hb _ _ _ h (lv_sub hl [0] rfl) hP hS
  · have h := h.2 hc
    refine lv_aload_n C.1 C.2.1 dX11_naming_39 rfl (lv_at hl 0 rfl) ?_
    refine lv_iconst C.1 C.2.1 (v := 4) dX11_naming_40 rfl ?_
    refine z_kv hS (z_runV (As := [.int 4]) (rest := []) C hP hS (m10 hb hL) (e10 hb) rfl (tX11_note C.2.2.2.2.2.2.1 (hL.mo (Nat.le_of_ble_eq_true rfl) (Nat.le_of_ble_eq_true rfl)) hb h) q1584 q1586 q51 q124 q1587 hdX11_note ⟨Nat.le_of_ble_eq_true rfl, Nat.le_of_ble_eq_true rfl⟩ ⟨Nat.zero_le _, Nat.zero_le _⟩ rfl hl.1 rfl (lv_room (Nat.le_of_ble_eq_true rfl)) dX11_naming_41) (fun st6 H locs h hP hS => ?_)
    exact tX11_naming_L44 hL C hr hlk hb _ _ _ h (lv_sub hl [0] rfl) hP hS
set_option maxHeartbeats 4000000 in
set_option maxRecDepth 100000 in
theorem tX11_naming {l : Launch} {E : En0} {L : List Nat} (hE : EK E L) (hL : Cov 54 77 L) {b : Nat} {p1 : Int32} {st : St} {Q : Int32 → St → Prop} (hb : kd b = 10) (h : wX11_naming b p1 st Q) : Mz l yX11_naming cX11_naming 2 (some .boolean) rmX11_naming E L [.ref (E.2.1 b), .int p1] st (zI E L (fun r u => bz r ∧ Q r u)) := by
  refine Mz.of hE (by decide) (Nat.le_of_ble_eq_true rfl) ?_
  intro p e s m below meth c ls C hr hlk _ hl hP
  replace C : Cx E L "PlankBridgeModel$Reader" cX11_naming 2 p s m _ c := C
  have hS : va_S (fA E L s.heap.size) s.heap s.heap [] := va_S.rf
  replace hl : lv_has ls 2 [(0, .ref (E.2.1 b)), (1, .int p1)] := hl
  unfold wX11_naming at h
  refine lv_aload_n C.1 C.2.1 dX11_naming_0 rfl (lv_at hl 0 rfl) ?_
  refine gf10_6 C hP hb (m10 hb hL) q1445 dX11_naming_1 ?_
  refine lv_iconst C.1 C.2.1 (v := 2) dX11_naming_4 rfl ?_
  refine lv_icmp_eq C.1 C.2.1 (tgt := 13) dX11_naming_5 (by decide) (fun hc => ?_) (fun hc => ?_)
  · have h := h.1 hc
    refine lv_aload_n C.1 C.2.1 dX11_naming_13 rfl (lv_at hl 0 rfl) ?_
    refine lv_aload_n C.1 C.2.1 dX11_naming_14 rfl (lv_at hl 0 rfl) ?_
    refine gf10_9 C hP hb (m10 hb hL) q1448 dX11_naming_15 ?_
    refine lv_iconst C.1 C.2.1 (v := 0) dX11_naming_18 rfl ?_
    refine lv_aload_n C.1 C.2.1 dX11_naming_19 rfl (lv_at hl 0 rfl) ?_
    refine gf10_2 C hP hb (m10 hb hL) q1441 dX11_naming_20 ?_
    refine z_ki hS (z_runV (As := [.long (gJ st b 9), .int 0, .int (gI st b 2)]) (rest := []) C hP hS (m10 hb hL) (e10 hb) rfl (tX11_find C.2.2.2.2.2.2.1 (hL.mo (Nat.le_of_ble_eq_true rfl) (Nat.le_of_ble_eq_true rfl)) hb h) q1580 q1582 q50 q124 q1583 hdX11_find ⟨Nat.le_of_ble_eq_true rfl, Nat.le_of_ble_eq_true rfl⟩ ⟨Nat.zero_le _, Nat.zero_le _⟩ rfl hl.1 rfl (lv_room (Nat.le_of_ble_eq_true rfl)) dX11_naming_23) (fun r2 st1 H locs h hP hS => ?_)
    refine lv_iconst C.1 C.2.1 (v := (-1)) dX11_naming_26 rfl ?_
    refine lv_icmp_eq C.1 C.2.1 (tgt := 35) dX11_naming_27 (by decide) (fun hc => ?_) (fun hc => ?_)
    · have h := h.1 hc
      exact tX11_naming_L35 hL C hr hlk hb _ _ _ h hl hP hS
    · have h := h.2 hc
      refine lv_aload_n C.1 C.2.1 dX11_naming_30 rfl (lv_at hl 0 rfl) ?_
      refine lv_iconst C.1 C.2.1 (v := 2) dX11_naming_31 rfl ?_
      refine z_kv hS (z_runV (As := [.int 2]) (rest := []) C hP hS (m10 hb hL) (e10 hb) rfl (tX11_note C.2.2.2.2.2.2.1 (hL.mo (Nat.le_of_ble_eq_true rfl) (Nat.le_of_ble_eq_true rfl)) hb h) q1584 q1586 q51 q124 q1587 hdX11_note ⟨Nat.le_of_ble_eq_true rfl, Nat.le_of_ble_eq_true rfl⟩ ⟨Nat.zero_le _, Nat.zero_le _⟩ rfl hl.1 rfl (lv_room (Nat.le_of_ble_eq_true rfl)) dX11_naming_32) (fun st3 H locs h hP hS => ?_)
      exact tX11_naming_L35 hL C hr hlk hb _ _ _ h hl hP hS
  · have h := h.2 hc
    refine lv_aload_n C.1 C.2.1 dX11_naming_8 rfl (lv_at hl 0 rfl) ?_
    refine z_ki hS (z_runV (As := []) (rest := []) C hP hS (m10 hb hL) (e10 hb) rfl (tX11_wrong C.2.2.2.2.2.2.1 (hL.mo (Nat.le_of_ble_eq_true rfl) (Nat.le_of_ble_eq_true rfl)) hb h) q1576 q1578 q49 q124 q1579 hdX11_wrong ⟨Nat.le_of_ble_eq_true rfl, Nat.le_of_ble_eq_true rfl⟩ ⟨Nat.zero_le _, Nat.zero_le _⟩ rfl hl.1 rfl (lv_room (Nat.le_of_ble_eq_true rfl)) dX11_naming_9) (fun r5 st4 H locs h hP hS => ?_)
    obtain ⟨hr5, h⟩ := h
    exact z_ri C hr hlk (bz_n hr5) hP hS ⟨hr5, h⟩ dX11_naming_12
def rmX11_number : Room := { frames := 1, cells := 0, slots := 0, locals := 22 }
def wX11_number (b : Nat) (p1 : Int32) (p2 : Int32) (st : St) (Q : Int32 → St → Prop) : Prop :=
  (((gI st b 6) = 3 → (wX12_isIn (gI st b 8) p1 p2 st (fun r2 st1 => ((¬ r2 = 0 → Q 1 st1) ∧ (r2 = 0 → (wX11_note b 5 st1 (fun st3 => Q 1 st3))))))) ∧ (¬ (gI st b 6) = 3 → (wX11_wrong b st (fun r5 st4 => Q r5 st4))))
theorem hdX11_number : yX11_number.cls = "PlankBridgeModel$Reader" ∧ yX11_number.cls ≠ "java/lang/invoke/MethodHandle" ∧ yX11_number.cls ≠ "java/lang/invoke/VarHandle" ∧ (parseMethodDescriptor yX11_number.desc).map (fun d => d.parameters.length) = some 2 := by decide +kernel
set_option maxHeartbeats 4000000 in
set_option maxRecDepth 100000 in
theorem tX11_number {l : Launch} {E : En0} {L : List Nat} (hE : EK E L) (hL : Cov 54 77 L) {b : Nat} {p1 : Int32} {p2 : Int32} {st : St} {Q : Int32 → St → Prop} (hb : kd b = 10) (h : wX11_number b p1 p2 st Q) : Mz l yX11_number cX11_number 3 (some .boolean) rmX11_number E L [.ref (E.2.1 b), .int p1, .int p2] st (zI E L (fun r u => bz r ∧ Q r u)) := by
  refine Mz.of hE (by decide) (Nat.le_of_ble_eq_true rfl) ?_
  intro p e s m below meth c ls C hr hlk _ hl hP
  replace C : Cx E L "PlankBridgeModel$Reader" cX11_number 3 p s m _ c := C
  have hS : va_S (fA E L s.heap.size) s.heap s.heap [] := va_S.rf
  replace hl : lv_has ls 3 [(0, .ref (E.2.1 b)), (1, .int p1), (2, .int p2)] := hl
  unfold wX11_number at h
  refine lv_aload_n C.1 C.2.1 dX11_number_0 rfl (lv_at hl 0 rfl) ?_
  refine gf10_6 C hP hb (m10 hb hL) q1445 dX11_number_1 ?_
  refine lv_iconst C.1 C.2.1 (v := 3) dX11_number_4 rfl ?_
  refine lv_icmp_eq C.1 C.2.1 (tgt := 13) dX11_number_5 (by decide) (fun hc => ?_) (fun hc => ?_)
  · have h := h.1 hc
    refine lv_aload_n C.1 C.2.1 dX11_number_13 rfl (lv_at hl 0 rfl) ?_
    refine gf10_8 C hP hb (m10 hb hL) q1447 dX11_number_14 ?_
    refine lv_iload_n C.1 C.2.1 dX11_number_17 rfl (lv_at hl 1 rfl) ?_
    refine lv_iload_n C.1 C.2.1 dX11_number_18 rfl (lv_at hl 2 rfl) ?_
    refine z_ki hS (z_runSN (As := [.int (gI st b 8), .int p1, .int p2]) (rest := []) C hP hS (tX12_isIn C.2.2.2.2.2.2.1 (hL.mo (Nat.le_of_ble_eq_true rfl) (Nat.le_of_ble_eq_true rfl))  h) q1596 q1424 q116 q1425 hdX12_isIn ⟨Nat.le_of_ble_eq_true rfl, Nat.le_of_ble_eq_true rfl⟩ ⟨Nat.zero_le _, Nat.zero_le _⟩ rfl hl.1 rfl (lv_room (Nat.le_of_ble_eq_true rfl)) dX11_number_19) (fun r2 st1 H locs h hP hS => ?_)
    obtain ⟨hr2, h⟩ := h
    refine lv_if_ne C.1 C.2.1 (tgt := 30) dX11_number_22 (by decide) (fun hc => ?_) (fun hc => ?_)
    · have h := h.1 hc
      refine lv_iconst C.1 C.2.1 (v := 1) dX11_number_30 rfl ?_
      exact z_ri C hr hlk (bz_n bz1) hP hS ⟨bz1, h⟩ dX11_number_31
    · have h := h.2 hc
      refine lv_aload_n C.1 C.2.1 dX11_number_25 rfl (lv_at hl 0 rfl) ?_
      refine lv_iconst C.1 C.2.1 (v := 5) dX11_number_26 rfl ?_
      refine z_kv hS (z_runV (As := [.int 5]) (rest := []) C hP hS (m10 hb hL) (e10 hb) rfl (tX11_note C.2.2.2.2.2.2.1 (hL.mo (Nat.le_of_ble_eq_true rfl) (Nat.le_of_ble_eq_true rfl)) hb h) q1584 q1586 q51 q124 q1587 hdX11_note ⟨Nat.le_of_ble_eq_true rfl, Nat.le_of_ble_eq_true rfl⟩ ⟨Nat.zero_le _, Nat.zero_le _⟩ rfl hl.1 rfl (lv_room (Nat.le_of_ble_eq_true rfl)) dX11_number_27) (fun st3 H locs h hP hS => ?_)
      refine lv_iconst C.1 C.2.1 (v := 1) dX11_number_30 rfl ?_
      exact z_ri C hr hlk (bz_n bz1) hP hS ⟨bz1, h⟩ dX11_number_31
  · have h := h.2 hc
    refine lv_aload_n C.1 C.2.1 dX11_number_8 rfl (lv_at hl 0 rfl) ?_
    refine z_ki hS (z_runV (As := []) (rest := []) C hP hS (m10 hb hL) (e10 hb) rfl (tX11_wrong C.2.2.2.2.2.2.1 (hL.mo (Nat.le_of_ble_eq_true rfl) (Nat.le_of_ble_eq_true rfl)) hb h) q1576 q1578 q49 q124 q1579 hdX11_wrong ⟨Nat.le_of_ble_eq_true rfl, Nat.le_of_ble_eq_true rfl⟩ ⟨Nat.zero_le _, Nat.zero_le _⟩ rfl hl.1 rfl (lv_room (Nat.le_of_ble_eq_true rfl)) dX11_number_9) (fun r5 st4 H locs h hP hS => ?_)
    obtain ⟨hr5, h⟩ := h
    exact z_ri C hr hlk (bz_n hr5) hP hS ⟨hr5, h⟩ dX11_number_12
def rmX11_walker : Room := { frames := 9, cells := 0, slots := 0, locals := 192 }
def wX11_walker_L133 (b : Nat)   (st : St) (Q : Int32 → St → Prop) : Prop :=
  (wX11_next b st (fun st16 => (wX11_take b 59 st16 (fun r18 st17 => Q r18 st17))))
def wX11_walker_L21 (b : Nat)  (s0 : Int32) (st : St) (Q : Int32 → St → Prop) : Prop :=
  (wX11_naming b s0 st (fun r3 st2 => ((r3 = 0 → Q 0 st2) ∧ (¬ r3 = 0 → (wX11_take b 201 st2 (fun r5 st4 => ((r5 = 0 → Q 0 st4) ∧ (¬ r5 = 0 → (wX11_number b 1 9 st4 (fun r7 st6 => ((¬ r7 = 0 → (vp_in (gI st6 (b + 2) 0) 9 ∧ ∀ st8, st8 = uI st6 ((b + 2) + 1) (gI st6 (b + 2) 0 : Int32).toNatClampNeg (gI st6 b 8) → (wX11_next b st8 (fun st9 => (wX11_take b 202 st9 (fun r11 st10 => ((r11 = 0 → Q 0 st10) ∧ (¬ r11 = 0 → (wX11_number b 1 20 st10 (fun r13 st12 => ((¬ r13 = 0 → (vp_in (gI st12 (b + 2) 0) 9 ∧ ∀ st14, st14 = uI st12 ((b + 2) + 2) (gI st12 (b + 2) 0 : Int32).toNatClampNeg (gI st12 b 8) → ((¬ s0 = 0 → wX11_walker_L133 b st14 Q) ∧ (s0 = 0 → (∀ st15, st15 = uI st14 (b + 2) 0 ((gI st14 (b + 2) 0) + 1) → wX11_walker_L133 b st15 Q))))) ∧ (r13 = 0 → Q 0 st12)))))))))))) ∧ (r7 = 0 → Q 0 st6))))))))))))
def wX11_walker (b : Nat) (st : St) (Q : Int32 → St → Prop) : Prop :=
  (wX11_next b st (fun st1 => ((¬ (gI st1 (b + 2) 0) = 8 → wX11_walker_L21 b 0 st1 Q) ∧ ((gI st1 (b + 2) 0) = 8 → wX11_walker_L21 b 1 st1 Q))))
theorem hdX11_walker : yX11_walker.cls = "PlankBridgeModel$Reader" ∧ yX11_walker.cls ≠ "java/lang/invoke/MethodHandle" ∧ yX11_walker.cls ≠ "java/lang/invoke/VarHandle" ∧ (parseMethodDescriptor yX11_walker.desc).map (fun d => d.parameters.length) = some 0 := by decide +kernel
set_option maxHeartbeats 4000000 in
set_option maxRecDepth 100000 in
theorem tX11_walker_L133 {l : Launch} {p : Program} {e : Env} {s : State} {m : MethodId} {args : Array Value} {below : List Frame} {meth : Method} {c : Code} {E : En0} {L : List Nat} (hL : Cov 54 77 L) (C : Cx E L "PlankBridgeModel$Reader" cX11_walker 2 p s m args c) (hr : meth.sig.returnType = (some .boolean)) (hlk : meth.locks = false) {b : Nat} {Q : Int32 → St → Prop} (hb : kd b = 10)   {st : St} (H : Heap) (locs : List Loc) (ls : Array Slot) (h : wX11_walker_L133 b st Q) (hl : lv_has ls 2 [(0, .ref (E.2.1 b))]) (hP : va_P E.1 vwCl (wd E L st) H) (hS : va_S (fA E L s.heap.size) s.heap H locs) : W p l e rmX11_walker s m args below meth c H locs 0 0 (MQ below (zI E L (fun r u => bz r ∧ Q r u) (fA E L s.heap.size)) args s rmX11_walker.cells rmX11_walker.slots (fA E L s.heap.size)) (F0 m 133 ls []) := by
  unfold wX11_walker_L133 at h
  refine lv_aload_n C.1 C.2.1 dX11_walker_133 rfl (lv_at hl 0 rfl) ?_
  refine z_kv hS (z_runV (As := []) (rest := []) C hP hS (m10 hb hL) (e10 hb) rfl (tX11_next C.2.2.2.2.2.2.1 (hL.mo (Nat.le_of_ble_eq_true rfl) (Nat.le_of_ble_eq_true rfl)) hb h) q1492 q1494 q41 q124 q1495 hdX11_next ⟨Nat.le_of_ble_eq_true rfl, Nat.le_of_ble_eq_true rfl⟩ ⟨Nat.zero_le _, Nat.zero_le _⟩ rfl hl.1 rfl (lv_room (Nat.le_of_ble_eq_true rfl)) dX11_walker_134) (fun st16 H locs h hP hS => ?_)
  refine lv_aload_n C.1 C.2.1 dX11_walker_137 rfl (lv_at hl 0 rfl) ?_
  refine lv_bipush C.1 C.2.1 (v := 59) dX11_walker_138 rfl ?_
  refine z_ki hS (z_runV (As := [.int 59]) (rest := []) C hP hS (m10 hb hL) (e10 hb) rfl (tX11_take C.2.2.2.2.2.2.1 (hL.mo (Nat.le_of_ble_eq_true rfl) (Nat.le_of_ble_eq_true rfl)) hb h) q1588 q1590 q52 q124 q1591 hdX11_take ⟨Nat.le_of_ble_eq_true rfl, Nat.le_of_ble_eq_true rfl⟩ ⟨Nat.zero_le _, Nat.zero_le _⟩ rfl hl.1 rfl (lv_room (Nat.le_of_ble_eq_true rfl)) dX11_walker_140) (fun r18 st17 H locs h hP hS => ?_)
  obtain ⟨hr18, h⟩ := h
  exact z_ri C hr hlk (bz_n hr18) hP hS ⟨hr18, h⟩ dX11_walker_143
set_option maxHeartbeats 4000000 in
set_option maxRecDepth 100000 in
theorem tX11_walker_L21 {l : Launch} {p : Program} {e : Env} {s : State} {m : MethodId} {args : Array Value} {below : List Frame} {meth : Method} {c : Code} {E : En0} {L : List Nat} (hL : Cov 54 77 L) (C : Cx E L "PlankBridgeModel$Reader" cX11_walker 2 p s m args c) (hr : meth.sig.returnType = (some .boolean)) (hlk : meth.locks = false) {b : Nat} {Q : Int32 → St → Prop} (hb : kd b = 10) {s0 : Int32}  {st : St} (H : Heap) (locs : List Loc) (ls : Array Slot) (h : wX11_walker_L21 b s0 st Q) (hl : lv_has ls 2 [(0, .ref (E.2.1 b))]) (hP : va_P E.1 vwCl (wd E L st) H) (hS : va_S (fA E L s.heap.size) s.heap H locs) : W p l e rmX11_walker s m args below meth c H locs 0 0 (MQ below (zI E L (fun r u => bz r ∧ Q r u) (fA E L s.heap.size)) args s rmX11_walker.cells rmX11_walker.slots (fA E L s.heap.size)) (F0 m 21 ls [.int s0]) := by
  unfold wX11_walker_L21 at h
  refine lv_istore_n C.1 C.2.1 dX11_walker_21 rfl hl (Nat.le_of_ble_eq_true rfl) rfl (fun ls hl => ?_)
  have hl : lv_has ls 2 [(1, .int s0), (0, .ref (E.2.1 b))] := hl
  refine lv_aload_n C.1 C.2.1 dX11_walker_22 rfl (lv_at hl 1 rfl) ?_
  refine lv_iload_n C.1 C.2.1 dX11_walker_23 rfl (lv_at hl 0 rfl) ?_
  refine z_ki hS (z_runV (As := [.int s0]) (rest := []) C hP hS (m10 hb hL) (e10 hb) rfl (tX11_naming C.2.2.2.2.2.2.1 (hL.mo (Nat.le_of_ble_eq_true rfl) (Nat.le_of_ble_eq_true rfl)) hb h) q1572 q1574 q48 q124 q1575 hdX11_naming ⟨Nat.le_of_ble_eq_true rfl, Nat.le_of_ble_eq_true rfl⟩ ⟨Nat.zero_le _, Nat.zero_le _⟩ rfl hl.1 rfl (lv_room (Nat.le_of_ble_eq_true rfl)) dX11_walker_24) (fun r3 st2 H locs h hP hS => ?_)
  obtain ⟨hr3, h⟩ := h
  refine lv_if_eq C.1 C.2.1 (tgt := 50) dX11_walker_27 (by decide) (fun hc => ?_) (fun hc => ?_)
  · have h := h.1 hc
    refine lv_iconst C.1 C.2.1 (v := 0) dX11_walker_50 rfl ?_
    exact z_ri C hr hlk (bz_n bz0) hP hS ⟨bz0, h⟩ dX11_walker_51
  · have h := h.2 hc
    refine lv_aload_n C.1 C.2.1 dX11_walker_30 rfl (lv_at hl 1 rfl) ?_
    refine lv_sipush C.1 C.2.1 (v := 201) dX11_walker_31 rfl ?_
    refine z_ki hS (z_runV (As := [.int 201]) (rest := []) C hP hS (m10 hb hL) (e10 hb) rfl (tX11_take C.2.2.2.2.2.2.1 (hL.mo (Nat.le_of_ble_eq_true rfl) (Nat.le_of_ble_eq_true rfl)) hb h) q1588 q1590 q52 q124 q1591 hdX11_take ⟨Nat.le_of_ble_eq_true rfl, Nat.le_of_ble_eq_true rfl⟩ ⟨Nat.zero_le _, Nat.zero_le _⟩ rfl hl.1 rfl (lv_room (Nat.le_of_ble_eq_true rfl)) dX11_walker_34) (fun r5 st4 H locs h hP hS => ?_)
    obtain ⟨hr5, h⟩ := h
    refine lv_if_eq C.1 C.2.1 (tgt := 50) dX11_walker_37 (by decide) (fun hc => ?_) (fun hc => ?_)
    · have h := h.1 hc
      refine lv_iconst C.1 C.2.1 (v := 0) dX11_walker_50 rfl ?_
      exact z_ri C hr hlk (bz_n bz0) hP hS ⟨bz0, h⟩ dX11_walker_51
    · have h := h.2 hc
      refine lv_aload_n C.1 C.2.1 dX11_walker_40 rfl (lv_at hl 1 rfl) ?_
      refine lv_iconst C.1 C.2.1 (v := 1) dX11_walker_41 rfl ?_
      refine lv_bipush C.1 C.2.1 (v := 9) dX11_walker_42 rfl ?_
      refine z_ki hS (z_runV (As := [.int 1, .int 9]) (rest := []) C hP hS (m10 hb hL) (e10 hb) rfl (tX11_number C.2.2.2.2.2.2.1 (hL.mo (Nat.le_of_ble_eq_true rfl) (Nat.le_of_ble_eq_true rfl)) hb h) q1592 q1594 q53 q124 q1595 hdX11_number ⟨Nat.le_of_ble_eq_true rfl, Nat.le_of_ble_eq_true rfl⟩ ⟨Nat.zero_le _, Nat.zero_le _⟩ rfl hl.1 rfl (lv_room (Nat.le_of_ble_eq_true rfl)) dX11_walker_44) (fun r7 st6 H locs h hP hS => ?_)
      obtain ⟨hr7, h⟩ := h
      refine lv_if_ne C.1 C.2.1 (tgt := 52) dX11_walker_47 (by decide) (fun hc => ?_) (fun hc => ?_)
      · have h := h.1 hc
        refine lv_aload_n C.1 C.2.1 dX11_walker_52 rfl (lv_at hl 1 rfl) ?_
        refine gf10_0 C hP hb (m10 hb hL) q1438 dX11_walker_53 ?_
        refine gf9_4 C hP (k10_2 hb) (m10_2 hb hL) q1327 dX11_walker_56 ?_
        refine lv_aload_n C.1 C.2.1 dX11_walker_59 rfl (lv_at hl 1 rfl) ?_
        refine gf10_0 C hP hb (m10 hb hL) q1438 dX11_walker_60 ?_
        refine gf9_0 C hP (k10_2 hb) (m10_2 hb hL) q1319 dX11_walker_63 ?_
        refine lv_aload_n C.1 C.2.1 dX11_walker_66 rfl (lv_at hl 1 rfl) ?_
        refine gf10_8 C hP hb (m10 hb hL) q1447 dX11_walker_67 ?_
        obtain ⟨hi, h⟩ := h
        refine z_iast C hP hS (k9_1 (k10_2 hb)) (l9_1 (k10_2 hb)) (m9_1 (k10_2 hb) hL) hi dX11_walker_70 (fun H locs hP hS => ?_)
        obtain ⟨st8, est8⟩ : ∃ z, z = uI st6 ((b + 2) + 1) (gI st6 (b + 2) 0 : Int32).toNatClampNeg (gI st6 b 8) := ⟨_, rfl⟩
        rw [← est8] at hP; have h := h st8 est8
        refine lv_aload_n C.1 C.2.1 dX11_walker_71 rfl (lv_at hl 1 rfl) ?_
        refine z_kv hS (z_runV (As := []) (rest := []) C hP hS (m10 hb hL) (e10 hb) rfl (tX11_next C.2.2.2.2.2.2.1 (hL.mo (Nat.le_of_ble_eq_true rfl) (Nat.le_of_ble_eq_true rfl)) hb h) q1492 q1494 q41 q124 q1495 hdX11_next ⟨Nat.le_of_ble_eq_true rfl, Nat.le_of_ble_eq_true rfl⟩ ⟨Nat.zero_le _, Nat.zero_le _⟩ rfl hl.1 rfl (lv_room (Nat.le_of_ble_eq_true rfl)) dX11_walker_72) (fun st9 H locs h hP hS => ?_)
        refine lv_aload_n C.1 C.2.1 dX11_walker_75 rfl (lv_at hl 1 rfl) ?_
        refine lv_sipush C.1 C.2.1 (v := 202) dX11_walker_76 rfl ?_
        refine z_ki hS (z_runV (As := [.int 202]) (rest := []) C hP hS (m10 hb hL) (e10 hb) rfl (tX11_take C.2.2.2.2.2.2.1 (hL.mo (Nat.le_of_ble_eq_true rfl) (Nat.le_of_ble_eq_true rfl)) hb h) q1588 q1590 q52 q124 q1591 hdX11_take ⟨Nat.le_of_ble_eq_true rfl, Nat.le_of_ble_eq_true rfl⟩ ⟨Nat.zero_le _, Nat.zero_le _⟩ rfl hl.1 rfl (lv_room (Nat.le_of_ble_eq_true rfl)) dX11_walker_79) (fun r11 st10 H locs h hP hS => ?_)
        obtain ⟨hr11, h⟩ := h
        refine lv_if_eq C.1 C.2.1 (tgt := 95) dX11_walker_82 (by decide) (fun hc => ?_) (fun hc => ?_)
        · have h := h.1 hc
          refine lv_iconst C.1 C.2.1 (v := 0) dX11_walker_95 rfl ?_
          exact z_ri C hr hlk (bz_n bz0) hP hS ⟨bz0, h⟩ dX11_walker_96
        · have h := h.2 hc
          refine lv_aload_n C.1 C.2.1 dX11_walker_85 rfl (lv_at hl 1 rfl) ?_
          refine lv_iconst C.1 C.2.1 (v := 1) dX11_walker_86 rfl ?_
          refine lv_bipush C.1 C.2.1 (v := 20) dX11_walker_87 rfl ?_
          refine z_ki hS (z_runV (As := [.int 1, .int 20]) (rest := []) C hP hS (m10 hb hL) (e10 hb) rfl (tX11_number C.2.2.2.2.2.2.1 (hL.mo (Nat.le_of_ble_eq_true rfl) (Nat.le_of_ble_eq_true rfl)) hb h) q1592 q1594 q53 q124 q1595 hdX11_number ⟨Nat.le_of_ble_eq_true rfl, Nat.le_of_ble_eq_true rfl⟩ ⟨Nat.zero_le _, Nat.zero_le _⟩ rfl hl.1 rfl (lv_room (Nat.le_of_ble_eq_true rfl)) dX11_walker_89) (fun r13 st12 H locs h hP hS => ?_)
          obtain ⟨hr13, h⟩ := h
          refine lv_if_ne C.1 C.2.1 (tgt := 97) dX11_walker_92 (by decide) (fun hc => ?_) (fun hc => ?_)
          · have h := h.1 hc
            refine lv_aload_n C.1 C.2.1 dX11_walker_97 rfl (lv_at hl 1 rfl) ?_
            refine gf10_0 C hP hb (m10 hb hL) q1438 dX11_walker_98 ?_
            refine gf9_5 C hP (k10_2 hb) (m10_2 hb hL) q1330 dX11_walker_101 ?_
            refine lv_aload_n C.1 C.2.1 dX11_walker_104 rfl (lv_at hl 1 rfl) ?_
            refine gf10_0 C hP hb (m10 hb hL) q1438 dX11_walker_105 ?_
            refine gf9_0 C hP (k10_2 hb) (m10_2 hb hL) q1319 dX11_walker_108 ?_
            refine lv_aload_n C.1 C.2.1 dX11_walker_111 rfl (lv_at hl 1 rfl) ?_
            refine gf10_8 C hP hb (m10 hb hL) q1447 dX11_walker_112 ?_
            obtain ⟨hi, h⟩ := h
            refine z_iast C hP hS (k9_2 (k10_2 hb)) (l9_2 (k10_2 hb)) (m9_2 (k10_2 hb) hL) hi dX11_walker_115 (fun H locs hP hS => ?_)
            obtain ⟨st14, est14⟩ : ∃ z, z = uI st12 ((b + 2) + 2) (gI st12 (b + 2) 0 : Int32).toNatClampNeg (gI st12 b 8) := ⟨_, rfl⟩
            rw [← est14] at hP; have h := h st14 est14
            refine lv_iload_n C.1 C.2.1 dX11_walker_116 rfl (lv_at hl 0 rfl) ?_
            refine lv_if_ne C.1 C.2.1 (tgt := 133) dX11_walker_117 (by decide) (fun hc => ?_) (fun hc => ?_)
            · have h := h.1 hc
              exact tX11_walker_L133 hL C hr hlk hb _ _ _ h (lv_sub hl [1] rfl) hP hS
            · have h := h.2 hc
              refine lv_aload_n C.1 C.2.1 dX11_walker_120 rfl (lv_at hl 1 rfl) ?_
              refine gf10_0 C hP hb (m10 hb hL) q1438 dX11_walker_121 ?_
              refine lv_dup C.1 C.2.1 dX11_walker_124 rfl ?_
              refine gf9_0 C hP (k10_2 hb) (m10_2 hb hL) q1319 dX11_walker_125 ?_
              refine lv_iconst C.1 C.2.1 (v := 1) dX11_walker_128 rfl ?_
              refine lv_iadd C.1 C.2.1 dX11_walker_129  ?_
              refine pf9_0 C hP hS (k10_2 hb) (m10_2 hb hL) q1319 dX11_walker_130 (fun H locs hP hS => ?_)
              obtain ⟨st15, est15⟩ : ∃ z, z = uI st14 (b + 2) 0 ((gI st14 (b + 2) 0) + 1) := ⟨_, rfl⟩
              rw [← est15] at hP; have h := h st15 est15
              exact tX11_walker_L133 hL C hr hlk hb _ _ _ h (lv_sub hl [1] rfl) hP hS
          · have h := h.2 hc
            refine lv_iconst C.1 C.2.1 (v := 0) dX11_walker_95 rfl ?_
            exact z_ri C hr hlk (bz_n bz0) hP hS ⟨bz0, h⟩ dX11_walker_96
      · have h := h.2 hc
        refine lv_iconst C.1 C.2.1 (v := 0) dX11_walker_50 rfl ?_
        exact z_ri C hr hlk (bz_n bz0) hP hS ⟨bz0, h⟩ dX11_walker_51
set_option maxHeartbeats 4000000 in
set_option maxRecDepth 100000 in
theorem tX11_walker {l : Launch} {E : En0} {L : List Nat} (hE : EK E L) (hL : Cov 54 77 L) {b : Nat} {st : St} {Q : Int32 → St → Prop} (hb : kd b = 10) (h : wX11_walker b st Q) : Mz l yX11_walker cX11_walker 2 (some .boolean) rmX11_walker E L [.ref (E.2.1 b)] st (zI E L (fun r u => bz r ∧ Q r u)) := by
  refine Mz.of hE (by decide) (Nat.le_of_ble_eq_true rfl) ?_
  intro p e s m below meth c ls C hr hlk _ hl hP
  replace C : Cx E L "PlankBridgeModel$Reader" cX11_walker 2 p s m _ c := C
  have hS : va_S (fA E L s.heap.size) s.heap s.heap [] := va_S.rf
  replace hl : lv_has ls 2 [(0, .ref (E.2.1 b))] := hl
  unfold wX11_walker at h
  refine lv_aload_n C.1 C.2.1 dX11_walker_0 rfl (lv_at hl 0 rfl) ?_
  refine z_kv hS (z_runV (As := []) (rest := []) C hP hS (m10 hb hL) (e10 hb) rfl (tX11_next C.2.2.2.2.2.2.1 (hL.mo (Nat.le_of_ble_eq_true rfl) (Nat.le_of_ble_eq_true rfl)) hb h) q1492 q1494 q41 q124 q1495 hdX11_next ⟨Nat.le_of_ble_eq_true rfl, Nat.le_of_ble_eq_true rfl⟩ ⟨Nat.zero_le _, Nat.zero_le _⟩ rfl hl.1 rfl (lv_room (Nat.le_of_ble_eq_true rfl)) dX11_walker_1) (fun st1 H locs h hP hS => ?_)
  refine lv_aload_n C.1 C.2.1 dX11_walker_4 rfl (lv_at hl 0 rfl) ?_
  refine gf10_0 C hP hb (m10 hb hL) q1438 dX11_walker_5 ?_
  refine gf9_0 C hP (k10_2 hb) (m10_2 hb hL) q1319 dX11_walker_8 ?_
  refine lv_bipush C.1 C.2.1 (v := 8) dX11_walker_11 rfl ?_
  refine lv_icmp_ne C.1 C.2.1 (tgt := 20) dX11_walker_13 (by decide) (fun hc => ?_) (fun hc => ?_)
  · have h := h.1 hc
    refine lv_iconst C.1 C.2.1 (v := 0) dX11_walker_20 rfl ?_
    exact tX11_walker_L21 hL C hr hlk hb _ _ _ h hl hP hS
  · have h := h.2 hc
    refine lv_iconst C.1 C.2.1 (v := 1) dX11_walker_16 rfl ?_
    refine lv_goto C.1 C.2.1 (tgt := 21) dX11_walker_17 (by decide) ?_
    exact tX11_walker_L21 hL C hr hlk hb _ _ _ h hl hP hS
def rmX11_bridge : Room := { frames := 9, cells := 0, slots := 0, locals := 192 }
def wX11_bridge_L154 (b : Nat)   (st : St) (Q : Int32 → St → Prop) : Prop :=
  (wX11_take b 59 st (fun r6 st5 => Q r6 st5))
def wX11_bridge_L117 (b : Nat) (R14 : Int32 × St → Prop) (s0 : Int32) (st : St) (Q : Int32 → St → Prop) : Prop :=
  ((s0 = 0 → R14 (s0, st)) ∧ (¬ s0 = 0 → (wX11_next b st (fun st12 => R14 (s0, st12)))))
def wX11_bridge_L99 (b : Nat) (R14 : Int32 × St → Prop)  (st : St) (Q : Int32 → St → Prop) : Prop :=
  (wX11_next b st (fun st11 => ((¬ (gI st11 b 6) = 44 → wX11_bridge_L117 b R14 0 st11 Q) ∧ ((gI st11 b 6) = 44 → wX11_bridge_L117 b R14 1 st11 Q))))
def wX11_bridge_L43 (b : Nat) (R14 : Int32 × St → Prop)  (st : St) (Q : Int32 → St → Prop) : Prop :=
  (wX11_number b 1 30 st (fun r8 st7 => ((¬ r8 = 0 → (vp_in (gI st7 (b + 2) 1) 13 ∧ ∀ st9, st9 = uI st7 ((b + 2) + 3) (gI st7 (b + 2) 1 : Int32).toNatClampNeg (gI st7 b 8) → ((12 ≤ (gI st9 (b + 2) 1) → wX11_bridge_L99 b R14 st9 Q) ∧ (¬ 12 ≤ (gI st9 (b + 2) 1) → (∀ st10, st10 = uI st9 (b + 2) 1 ((gI st9 (b + 2) 1) + 1) → wX11_bridge_L99 b R14 st10 Q))))) ∧ (r8 = 0 → Q 0 st7))))
def wX11_bridge_L14 (b : Nat)  (R14 : Int32 × St → Prop) (v1 : Int32) (st : St) (Q : Int32 → St → Prop) : Prop :=
  ((v1 = 0 → ((¬ (gI st b 6) = 59 → wX11_bridge_L154 b st Q) ∧ ((gI st b 6) = 59 → ((4 ≤ (gI st (b + 2) 1) → wX11_bridge_L154 b st Q) ∧ (¬ 4 ≤ (gI st (b + 2) 1) → (wX11_note b 5 st (fun st3 => wX11_bridge_L154 b st3 Q))))))) ∧ (¬ v1 = 0 → ((¬ (gI st b 6) = 3 → wX11_bridge_L43 b R14 st Q) ∧ ((gI st b 6) = 3 → ((¬ (gI st (b + 2) 1) = 12 → wX11_bridge_L43 b R14 st Q) ∧ ((gI st (b + 2) 1) = 12 → (wX11_note b 4 st (fun st4 => wX11_bridge_L43 b R14 st4 Q))))))))
def wX11_bridge (b : Nat) (st : St) (Q : Int32 → St → Prop) : Prop :=
  (wX11_take b 203 st (fun r2 st1 => ((¬ r2 = 0 → (∃ n, lp (fun R s => wX11_bridge_L14 b R s.1 s.2 Q) n (1, st1))) ∧ (r2 = 0 → Q 0 st1))))
theorem hdX11_bridge : yX11_bridge.cls = "PlankBridgeModel$Reader" ∧ yX11_bridge.cls ≠ "java/lang/invoke/MethodHandle" ∧ yX11_bridge.cls ≠ "java/lang/invoke/VarHandle" ∧ (parseMethodDescriptor yX11_bridge.desc).map (fun d => d.parameters.length) = some 0 := by decide +kernel
set_option maxHeartbeats 4000000 in
set_option maxRecDepth 100000 in
theorem tX11_bridge_L154 {l : Launch} {p : Program} {e : Env} {s : State} {m : MethodId} {args : Array Value} {below : List Frame} {meth : Method} {c : Code} {E : En0} {L : List Nat} (hL : Cov 54 77 L) (C : Cx E L "PlankBridgeModel$Reader" cX11_bridge 2 p s m args c) (hr : meth.sig.returnType = (some .boolean)) (hlk : meth.locks = false) {b : Nat} {Q : Int32 → St → Prop} (hb : kd b = 10)   {st : St} (H : Heap) (locs : List Loc) (ls : Array Slot) (h : wX11_bridge_L154 b st Q) (hl : lv_has ls 2 [(0, .ref (E.2.1 b))]) (hP : va_P E.1 vwCl (wd E L st) H) (hS : va_S (fA E L s.heap.size) s.heap H locs) : W p l e rmX11_bridge s m args below meth c H locs 0 0 (MQ below (zI E L (fun r u => bz r ∧ Q r u) (fA E L s.heap.size)) args s rmX11_bridge.cells rmX11_bridge.slots (fA E L s.heap.size)) (F0 m 154 ls []) := by
  unfold wX11_bridge_L154 at h
  refine lv_aload_n C.1 C.2.1 dX11_bridge_154 rfl (lv_at hl 0 rfl) ?_
  refine lv_bipush C.1 C.2.1 (v := 59) dX11_bridge_155 rfl ?_
  refine z_ki hS (z_runV (As := [.int 59]) (rest := []) C hP hS (m10 hb hL) (e10 hb) rfl (tX11_take C.2.2.2.2.2.2.1 (hL.mo (Nat.le_of_ble_eq_true rfl) (Nat.le_of_ble_eq_true rfl)) hb h) q1588 q1590 q52 q124 q1591 hdX11_take ⟨Nat.le_of_ble_eq_true rfl, Nat.le_of_ble_eq_true rfl⟩ ⟨Nat.zero_le _, Nat.zero_le _⟩ rfl hl.1 rfl (lv_room (Nat.le_of_ble_eq_true rfl)) dX11_bridge_157) (fun r6 st5 H locs h hP hS => ?_)
  obtain ⟨hr6, h⟩ := h
  exact z_ri C hr hlk (bz_n hr6) hP hS ⟨hr6, h⟩ dX11_bridge_160
set_option maxHeartbeats 4000000 in
set_option maxRecDepth 100000 in
theorem tX11_bridge_L117 {l : Launch} {p : Program} {e : Env} {s : State} {m : MethodId} {args : Array Value} {below : List Frame} {meth : Method} {c : Code} {E : En0} {L : List Nat} (hL : Cov 54 77 L) (C : Cx E L "PlankBridgeModel$Reader" cX11_bridge 2 p s m args c) (hr : meth.sig.returnType = (some .boolean)) (hlk : meth.locks = false) {b : Nat} {Q : Int32 → St → Prop} (hb : kd b = 10) {R14 : Int32 × St → Prop} (hR14 : ∀ (v1 : Int32) (st : St), ∀ (H : Heap) (locs : List Loc) (ls : Array Slot), R14 (v1, st) → lv_has ls 2 [(0, .ref (E.2.1 b)), (1, .int v1)] → va_P E.1 vwCl (wd E L st) H → va_S (fA E L s.heap.size) s.heap H locs → W p l e rmX11_bridge s m args below meth c H locs 0 0 (MQ below (zI E L (fun r u => bz r ∧ Q r u) (fA E L s.heap.size)) args s rmX11_bridge.cells rmX11_bridge.slots (fA E L s.heap.size)) (F0 m 14 ls [])) {s0 : Int32}  {st : St} (H : Heap) (locs : List Loc) (ls : Array Slot) (h : wX11_bridge_L117 b R14 s0 st Q) (hl : lv_has ls 2 [(0, .ref (E.2.1 b))]) (hP : va_P E.1 vwCl (wd E L st) H) (hS : va_S (fA E L s.heap.size) s.heap H locs) : W p l e rmX11_bridge s m args below meth c H locs 0 0 (MQ below (zI E L (fun r u => bz r ∧ Q r u) (fA E L s.heap.size)) args s rmX11_bridge.cells rmX11_bridge.slots (fA E L s.heap.size)) (F0 m 117 ls [.int s0]) := by
  unfold wX11_bridge_L117 at h
  refine lv_istore_n C.1 C.2.1 dX11_bridge_117 rfl hl (Nat.le_of_ble_eq_true rfl) rfl (fun ls hl => ?_)
  have hl : lv_has ls 2 [(1, .int s0), (0, .ref (E.2.1 b))] := hl
  refine lv_iload_n C.1 C.2.1 dX11_bridge_118 rfl (lv_at hl 0 rfl) ?_
  refine lv_if_eq C.1 C.2.1 (tgt := 14) dX11_bridge_119 (by decide) (fun hc => ?_) (fun hc => ?_)
  · have h := h.1 hc
    exact hR14 s0 st _ _ _ h (lv_sub hl [1, 0] rfl) hP hS
  · have h := h.2 hc
    refine lv_aload_n C.1 C.2.1 dX11_bridge_122 rfl (lv_at hl 1 rfl) ?_
    refine z_kv hS (z_runV (As := []) (rest := []) C hP hS (m10 hb hL) (e10 hb) rfl (tX11_next C.2.2.2.2.2.2.1 (hL.mo (Nat.le_of_ble_eq_true rfl) (Nat.le_of_ble_eq_true rfl)) hb h) q1492 q1494 q41 q124 q1495 hdX11_next ⟨Nat.le_of_ble_eq_true rfl, Nat.le_of_ble_eq_true rfl⟩ ⟨Nat.zero_le _, Nat.zero_le _⟩ rfl hl.1 rfl (lv_room (Nat.le_of_ble_eq_true rfl)) dX11_bridge_123) (fun st12 H locs h hP hS => ?_)
    refine lv_goto C.1 C.2.1 (tgt := 14) dX11_bridge_126 (by decide) ?_
    exact hR14 s0 st12 _ _ _ h (lv_sub hl [1, 0] rfl) hP hS
set_option maxHeartbeats 4000000 in
set_option maxRecDepth 100000 in
theorem tX11_bridge_L99 {l : Launch} {p : Program} {e : Env} {s : State} {m : MethodId} {args : Array Value} {below : List Frame} {meth : Method} {c : Code} {E : En0} {L : List Nat} (hL : Cov 54 77 L) (C : Cx E L "PlankBridgeModel$Reader" cX11_bridge 2 p s m args c) (hr : meth.sig.returnType = (some .boolean)) (hlk : meth.locks = false) {b : Nat} {Q : Int32 → St → Prop} (hb : kd b = 10) {R14 : Int32 × St → Prop} (hR14 : ∀ (v1 : Int32) (st : St), ∀ (H : Heap) (locs : List Loc) (ls : Array Slot), R14 (v1, st) → lv_has ls 2 [(0, .ref (E.2.1 b)), (1, .int v1)] → va_P E.1 vwCl (wd E L st) H → va_S (fA E L s.heap.size) s.heap H locs → W p l e rmX11_bridge s m args below meth c H locs 0 0 (MQ below (zI E L (fun r u => bz r ∧ Q r u) (fA E L s.heap.size)) args s rmX11_bridge.cells rmX11_bridge.slots (fA E L s.heap.size)) (F0 m 14 ls []))   {st : St} (H : Heap) (locs : List Loc) (ls : Array Slot) (h : wX11_bridge_L99 b R14 st Q) (hl : lv_has ls 2 [(0, .ref (E.2.1 b))]) (hP : va_P E.1 vwCl (wd E L st) H) (hS : va_S (fA E L s.heap.size) s.heap H locs) : W p l e rmX11_bridge s m args below meth c H locs 0 0 (MQ below (zI E L (fun r u => bz r ∧ Q r u) (fA E L s.heap.size)) args s rmX11_bridge.cells rmX11_bridge.slots (fA E L s.heap.size)) (F0 m 99 ls []) := by
  unfold wX11_bridge_L99 at h
  refine lv_aload_n C.1 C.2.1 dX11_bridge_99 rfl (lv_at hl 0 rfl) ?_
  refine z_kv hS (z_runV (As := []) (rest := []) C hP hS (m10 hb hL) (e10 hb) rfl (tX11_next C.2.2.2.2.2.2.1 (hL.mo (Nat.le_of_ble_eq_true rfl) (Nat.le_of_ble_eq_true rfl)) hb h) q1492 q1494 q41 q124 q1495 hdX11_next ⟨Nat.le_of_ble_eq_true rfl, Nat.le_of_ble_eq_true rfl⟩ ⟨Nat.zero_le _, Nat.zero_le _⟩ rfl hl.1 rfl (lv_room (Nat.le_of_ble_eq_true rfl)) dX11_bridge_100) (fun st11 H locs h hP hS => ?_)
  refine lv_aload_n C.1 C.2.1 dX11_bridge_103 rfl (lv_at hl 0 rfl) ?_
  refine gf10_6 C hP hb (m10 hb hL) q1445 dX11_bridge_104 ?_
  refine lv_bipush C.1 C.2.1 (v := 44) dX11_bridge_107 rfl ?_
  refine lv_icmp_ne C.1 C.2.1 (tgt := 116) dX11_bridge_109 (by decide) (fun hc => ?_) (fun hc => ?_)
  · have h := h.1 hc
    refine lv_iconst C.1 C.2.1 (v := 0) dX11_bridge_116 rfl ?_
    exact tX11_bridge_L117 hL C hr hlk hb hR14 _ _ _ h hl hP hS
  · have h := h.2 hc
    refine lv_iconst C.1 C.2.1 (v := 1) dX11_bridge_112 rfl ?_
    refine lv_goto C.1 C.2.1 (tgt := 117) dX11_bridge_113 (by decide) ?_
    exact tX11_bridge_L117 hL C hr hlk hb hR14 _ _ _ h hl hP hS
set_option maxHeartbeats 4000000 in
set_option maxRecDepth 100000 in
theorem tX11_bridge_L43 {l : Launch} {p : Program} {e : Env} {s : State} {m : MethodId} {args : Array Value} {below : List Frame} {meth : Method} {c : Code} {E : En0} {L : List Nat} (hL : Cov 54 77 L) (C : Cx E L "PlankBridgeModel$Reader" cX11_bridge 2 p s m args c) (hr : meth.sig.returnType = (some .boolean)) (hlk : meth.locks = false) {b : Nat} {Q : Int32 → St → Prop} (hb : kd b = 10) {R14 : Int32 × St → Prop} (hR14 : ∀ (v1 : Int32) (st : St), ∀ (H : Heap) (locs : List Loc) (ls : Array Slot), R14 (v1, st) → lv_has ls 2 [(0, .ref (E.2.1 b)), (1, .int v1)] → va_P E.1 vwCl (wd E L st) H → va_S (fA E L s.heap.size) s.heap H locs → W p l e rmX11_bridge s m args below meth c H locs 0 0 (MQ below (zI E L (fun r u => bz r ∧ Q r u) (fA E L s.heap.size)) args s rmX11_bridge.cells rmX11_bridge.slots (fA E L s.heap.size)) (F0 m 14 ls []))   {st : St} (H : Heap) (locs : List Loc) (ls : Array Slot) (h : wX11_bridge_L43 b R14 st Q) (hl : lv_has ls 2 [(0, .ref (E.2.1 b))]) (hP : va_P E.1 vwCl (wd E L st) H) (hS : va_S (fA E L s.heap.size) s.heap H locs) : W p l e rmX11_bridge s m args below meth c H locs 0 0 (MQ below (zI E L (fun r u => bz r ∧ Q r u) (fA E L s.heap.size)) args s rmX11_bridge.cells rmX11_bridge.slots (fA E L s.heap.size)) (F0 m 43 ls []) := by
  unfold wX11_bridge_L43 at h
  refine lv_aload_n C.1 C.2.1 dX11_bridge_43 rfl (lv_at hl 0 rfl) ?_
  refine lv_iconst C.1 C.2.1 (v := 1) dX11_bridge_44 rfl ?_
  refine lv_bipush C.1 C.2.1 (v := 30) dX11_bridge_45 rfl ?_
  refine z_ki hS (z_runV (As := [.int 1, .int 30]) (rest := []) C hP hS (m10 hb hL) (e10 hb) rfl (tX11_number C.2.2.2.2.2.2.1 (hL.mo (Nat.le_of_ble_eq_true rfl) (Nat.le_of_ble_eq_true rfl)) hb h) q1592 q1594 q53 q124 q1595 hdX11_number ⟨Nat.le_of_ble_eq_true rfl, Nat.le_of_ble_eq_true rfl⟩ ⟨Nat.zero_le _, Nat.zero_le _⟩ rfl hl.1 rfl (lv_room (Nat.le_of_ble_eq_true rfl)) dX11_bridge_47) (fun r8 st7 H locs h hP hS => ?_)
  obtain ⟨hr8, h⟩ := h
  refine lv_if_ne C.1 C.2.1 (tgt := 55) dX11_bridge_50 (by decide) (fun hc => ?_) (fun hc => ?_)
  · have h := h.1 hc
    refine lv_aload_n C.1 C.2.1 dX11_bridge_55 rfl (lv_at hl 0 rfl) ?_
    refine gf10_0 C hP hb (m10 hb hL) q1438 dX11_bridge_56 ?_
    refine gf9_6 C hP (k10_2 hb) (m10_2 hb hL) q1334 dX11_bridge_59 ?_
    refine lv_aload_n C.1 C.2.1 dX11_bridge_62 rfl (lv_at hl 0 rfl) ?_
    refine gf10_0 C hP hb (m10 hb hL) q1438 dX11_bridge_63 ?_
    refine gf9_1 C hP (k10_2 hb) (m10_2 hb hL) q1322 dX11_bridge_66 ?_
    refine lv_aload_n C.1 C.2.1 dX11_bridge_69 rfl (lv_at hl 0 rfl) ?_
    refine gf10_8 C hP hb (m10 hb hL) q1447 dX11_bridge_70 ?_
    obtain ⟨hi, h⟩ := h
    refine z_iast C hP hS (k9_3 (k10_2 hb)) (l9_3 (k10_2 hb)) (m9_3 (k10_2 hb) hL) hi dX11_bridge_73 (fun H locs hP hS => ?_)
    obtain ⟨st9, est9⟩ : ∃ z, z = uI st7 ((b + 2) + 3) (gI st7 (b + 2) 1 : Int32).toNatClampNeg (gI st7 b 8) := ⟨_, rfl⟩
    rw [← est9] at hP; have h := h st9 est9
    refine lv_aload_n C.1 C.2.1 dX11_bridge_74 rfl (lv_at hl 0 rfl) ?_
    refine gf10_0 C hP hb (m10 hb hL) q1438 dX11_bridge_75 ?_
    refine gf9_1 C hP (k10_2 hb) (m10_2 hb hL) q1322 dX11_bridge_78 ?_
    refine lv_bipush C.1 C.2.1 (v := 12) dX11_bridge_81 rfl ?_
    refine lv_icmp_ge C.1 C.2.1 (tgt := 99) dX11_bridge_83 (by decide) (fun hc => ?_) (fun hc => ?_)
    · have h := h.1 hc
      exact tX11_bridge_L99 hL C hr hlk hb hR14 _ _ _ h hl hP hS
    · have h := h.2 hc
      refine lv_aload_n C.1 C.2.1 dX11_bridge_86 rfl (lv_at hl 0 rfl) ?_
      refine gf10_0 C hP hb (m10 hb hL) q1438 dX11_bridge_87 ?_
      refine lv_dup C.1 C.2.1 dX11_bridge_90 rfl ?_
      refine gf9_1 C hP (k10_2 hb) (m10_2 hb hL) q1322 dX11_bridge_91 ?_
      refine lv_iconst C.1 C.2.1 (v := 1) dX11_bridge_94 rfl ?_
      refine lv_iadd C.1 C.2.1 dX11_bridge_95  ?_
      refine pf9_1 C hP hS (k10_2 hb) (m10_2 hb hL) q1322 dX11_bridge_96 (fun H locs hP hS => ?_)
      obtain ⟨st10, est10⟩ : ∃ z, z = uI st9 (b + 2) 1 ((gI st9 (b + 2) 1) + 1) := ⟨_, rfl⟩
      rw [← est10] at hP; have h := h st10 est10
      exact tX11_bridge_L99 hL C hr hlk hb hR14 _ _ _ h hl hP hS
  · have h := h.2 hc
    refine lv_iconst C.1 C.2.1 (v := 0) dX11_bridge_53 rfl ?_
    exact z_ri C hr hlk (bz_n bz0) hP hS ⟨bz0, h⟩ dX11_bridge_54
set_option maxHeartbeats 4000000 in
set_option maxRecDepth 100000 in
theorem tX11_bridge_L14 {l : Launch} {p : Program} {e : Env} {s : State} {m : MethodId} {args : Array Value} {below : List Frame} {meth : Method} {c : Code} {E : En0} {L : List Nat} (hL : Cov 54 77 L) (C : Cx E L "PlankBridgeModel$Reader" cX11_bridge 2 p s m args c) (hr : meth.sig.returnType = (some .boolean)) (hlk : meth.locks = false) {b : Nat} {Q : Int32 → St → Prop} (hb : kd b = 10) : ∀ (n : Nat) (v1 : Int32) (st : St) (H : Heap) (locs : List Loc) (ls : Array Slot), lp (fun R s => wX11_bridge_L14 b R s.1 s.2 Q) n (v1, st) → lv_has ls 2 [(0, .ref (E.2.1 b)), (1, .int v1)] → va_P E.1 vwCl (wd E L st) H → va_S (fA E L s.heap.size) s.heap H locs → W p l e rmX11_bridge s m args below meth c H locs 0 0 (MQ below (zI E L (fun r u => bz r ∧ Q r u) (fA E L s.heap.size)) args s rmX11_bridge.cells rmX11_bridge.slots (fA E L s.heap.size)) (F0 m 14 ls []) := by
  intro n
  induction n with
  | zero => exact fun _ _ _ _ _ h _ _ _ => False.elim ‹_›
  | succ n ih =>
    intro v1 st  H locs ls h hl hP hS
    have hR14 := ih
    replace h : wX11_bridge_L14 b (lp (fun R s => wX11_bridge_L14 b R s.1 s.2 Q) n) v1 st Q := h
    unfold wX11_bridge_L14 at h
    refine lv_iload_n C.1 C.2.1 dX11_bridge_14 rfl (lv_at hl 1 rfl) ?_
    refine lv_if_eq C.1 C.2.1 (tgt := 129) dX11_bridge_15 (by decide) (fun hc => ?_) (fun hc => ?_)
    · have h := h.1 hc
      refine lv_aload_n C.1 C.2.1 dX11_bridge_129 rfl (lv_at hl 0 rfl) ?_
      refine gf10_6 C hP hb (m10 hb hL) q1445 dX11_bridge_130 ?_
      refine lv_bipush C.1 C.2.1 (v := 59) dX11_bridge_133 rfl ?_
      refine lv_icmp_ne C.1 C.2.1 (tgt := 154) dX11_bridge_135 (by decide) (fun hc => ?_) (fun hc => ?_)
      · have h := h.1 hc
        exact tX11_bridge_L154 hL C hr hlk hb _ _ _ h (lv_sub hl [0] rfl) hP hS
      · have h := h.2 hc
        refine lv_aload_n C.1 C.2.1 dX11_bridge_138 rfl (lv_at hl 0 rfl) ?_
        refine gf10_0 C hP hb (m10 hb hL) q1438 dX11_bridge_139 ?_
        refine gf9_1 C hP (k10_2 hb) (m10_2 hb hL) q1322 dX11_bridge_142 ?_
        refine lv_iconst C.1 C.2.1 (v := 4) dX11_bridge_145 rfl ?_
        refine lv_icmp_ge C.1 C.2.1 (tgt := 154) dX11_bridge_146 (by decide) (fun hc => ?_) (fun hc => ?_)
        · have h := h.1 hc
          exact tX11_bridge_L154 hL C hr hlk hb _ _ _ h (lv_sub hl [0] rfl) hP hS
        · have h := h.2 hc
          refine lv_aload_n C.1 C.2.1 dX11_bridge_149 rfl (lv_at hl 0 rfl) ?_
          refine lv_iconst C.1 C.2.1 (v := 5) dX11_bridge_150 rfl ?_
          refine z_kv hS (z_runV (As := [.int 5]) (rest := []) C hP hS (m10 hb hL) (e10 hb) rfl (tX11_note C.2.2.2.2.2.2.1 (hL.mo (Nat.le_of_ble_eq_true rfl) (Nat.le_of_ble_eq_true rfl)) hb h) q1584 q1586 q51 q124 q1587 hdX11_note ⟨Nat.le_of_ble_eq_true rfl, Nat.le_of_ble_eq_true rfl⟩ ⟨Nat.zero_le _, Nat.zero_le _⟩ rfl hl.1 rfl (lv_room (Nat.le_of_ble_eq_true rfl)) dX11_bridge_151) (fun st3 H locs h hP hS => ?_)
          exact tX11_bridge_L154 hL C hr hlk hb _ _ _ h (lv_sub hl [0] rfl) hP hS
    · have h := h.2 hc
      refine lv_aload_n C.1 C.2.1 dX11_bridge_18 rfl (lv_at hl 0 rfl) ?_
      refine gf10_6 C hP hb (m10 hb hL) q1445 dX11_bridge_19 ?_
      refine lv_iconst C.1 C.2.1 (v := 3) dX11_bridge_22 rfl ?_
      refine lv_icmp_ne C.1 C.2.1 (tgt := 43) dX11_bridge_23 (by decide) (fun hc => ?_) (fun hc => ?_)
      · have h := h.1 hc
        exact tX11_bridge_L43 hL C hr hlk hb hR14 _ _ _ h (lv_sub hl [0] rfl) hP hS
      · have h := h.2 hc
        refine lv_aload_n C.1 C.2.1 dX11_bridge_26 rfl (lv_at hl 0 rfl) ?_
        refine gf10_0 C hP hb (m10 hb hL) q1438 dX11_bridge_27 ?_
        refine gf9_1 C hP (k10_2 hb) (m10_2 hb hL) q1322 dX11_bridge_30 ?_
        refine lv_bipush C.1 C.2.1 (v := 12) dX11_bridge_33 rfl ?_
        refine lv_icmp_ne C.1 C.2.1 (tgt := 43) dX11_bridge_35 (by decide) (fun hc => ?_) (fun hc => ?_)
        · have h := h.1 hc
          exact tX11_bridge_L43 hL C hr hlk hb hR14 _ _ _ h (lv_sub hl [0] rfl) hP hS
        · have h := h.2 hc
          refine lv_aload_n C.1 C.2.1 dX11_bridge_38 rfl (lv_at hl 0 rfl) ?_
          refine lv_iconst C.1 C.2.1 (v := 4) dX11_bridge_39 rfl ?_
          refine z_kv hS (z_runV (As := [.int 4]) (rest := []) C hP hS (m10 hb hL) (e10 hb) rfl (tX11_note C.2.2.2.2.2.2.1 (hL.mo (Nat.le_of_ble_eq_true rfl) (Nat.le_of_ble_eq_true rfl)) hb h) q1584 q1586 q51 q124 q1587 hdX11_note ⟨Nat.le_of_ble_eq_true rfl, Nat.le_of_ble_eq_true rfl⟩ ⟨Nat.zero_le _, Nat.zero_le _⟩ rfl hl.1 rfl (lv_room (Nat.le_of_ble_eq_true rfl)) dX11_bridge_40) (fun st4 H locs h hP hS => ?_)
          exact tX11_bridge_L43 hL C hr hlk hb hR14 _ _ _ h (lv_sub hl [0] rfl) hP hS
set_option maxHeartbeats 4000000 in
set_option maxRecDepth 100000 in
theorem tX11_bridge {l : Launch} {E : En0} {L : List Nat} (hE : EK E L) (hL : Cov 54 77 L) {b : Nat} {st : St} {Q : Int32 → St → Prop} (hb : kd b = 10) (h : wX11_bridge b st Q) : Mz l yX11_bridge cX11_bridge 2 (some .boolean) rmX11_bridge E L [.ref (E.2.1 b)] st (zI E L (fun r u => bz r ∧ Q r u)) := by
  refine Mz.of hE (by decide) (Nat.le_of_ble_eq_true rfl) ?_
  intro p e s m below meth c ls C hr hlk _ hl hP
  replace C : Cx E L "PlankBridgeModel$Reader" cX11_bridge 2 p s m _ c := C
  have hS : va_S (fA E L s.heap.size) s.heap s.heap [] := va_S.rf
  replace hl : lv_has ls 2 [(0, .ref (E.2.1 b))] := hl
  unfold wX11_bridge at h
  refine lv_aload_n C.1 C.2.1 dX11_bridge_0 rfl (lv_at hl 0 rfl) ?_
  refine lv_sipush C.1 C.2.1 (v := 203) dX11_bridge_1 rfl ?_
  refine z_ki hS (z_runV (As := [.int 203]) (rest := []) C hP hS (m10 hb hL) (e10 hb) rfl (tX11_take C.2.2.2.2.2.2.1 (hL.mo (Nat.le_of_ble_eq_true rfl) (Nat.le_of_ble_eq_true rfl)) hb h) q1588 q1590 q52 q124 q1591 hdX11_take ⟨Nat.le_of_ble_eq_true rfl, Nat.le_of_ble_eq_true rfl⟩ ⟨Nat.zero_le _, Nat.zero_le _⟩ rfl hl.1 rfl (lv_room (Nat.le_of_ble_eq_true rfl)) dX11_bridge_4) (fun r2 st1 H locs h hP hS => ?_)
  obtain ⟨hr2, h⟩ := h
  refine lv_if_ne C.1 C.2.1 (tgt := 12) dX11_bridge_7 (by decide) (fun hc => ?_) (fun hc => ?_)
  · have h := h.1 hc
    refine lv_iconst C.1 C.2.1 (v := 1) dX11_bridge_12 rfl ?_
    refine lv_istore_n C.1 C.2.1 dX11_bridge_13 rfl hl (Nat.le_of_ble_eq_true rfl) rfl (fun ls hl => ?_)
    have hl : lv_has ls 2 [(1, .int 1), (0, .ref (E.2.1 b))] := hl
    obtain ⟨n, h⟩ := h
    exact tX11_bridge_L14 hL C hr hlk hb n 1 st1 _ _ _ h (lv_sub hl [1, 0] rfl) hP hS
  · have h := h.2 hc
    refine lv_iconst C.1 C.2.1 (v := 0) dX11_bridge_10 rfl ?_
    exact z_ri C hr hlk (bz_n bz0) hP hS ⟨bz0, h⟩ dX11_bridge_11
def rmX11_who : Room := { frames := 8, cells := 0, slots := 0, locals := 171 }
def wX11_who_L76 (b : Nat)  (v1 : Int32) (st : St) (Q : Int32 → St → Prop) : Prop :=
  ((¬ v1 = (-100) → (wX11_next b st (fun st5 => Q v1 st5))) ∧ (v1 = (-100) → (wX11_wrong b st (fun r7 st6 => Q v1 st6))))
def wX11_who_L35 (b : Nat)  (v1 : Int32) (st : St) (Q : Int32 → St → Prop) : Prop :=
  (∀ x8 : Int32, x8 = (if 0 < v1 then v1 else 0) → wX11_who_L76 b x8 st Q)
def wX11_who (b : Nat) (st : St) (Q : Int32 → St → Prop) : Prop :=
  ((¬ (gI st b 6) = 2 → (((gI st b 6) < 215 → wX11_who_L76 b (-100) st Q) ∧ (¬ (gI st b 6) < 215 → ((219 ≤ (gI st b 6) → wX11_who_L76 b (-100) st Q) ∧ (¬ 219 ≤ (gI st b 6) → (∀ x1 : Int32, x1 = ((-2 : Int32) - ((gI st b 6) - 215)) → wX11_who_L76 b x1 st Q)))))) ∧ ((gI st b 6) = 2 → (wX11_find b (gJ st b 9) 0 (gI st b 3) st (fun r3 st2 => ((¬ r3 = (-1) → wX11_who_L35 b r3 st2 Q) ∧ (r3 = (-1) → (wX11_note b 3 st2 (fun st4 => wX11_who_L35 b r3 st4 Q))))))))
theorem hdX11_who : yX11_who.cls = "PlankBridgeModel$Reader" ∧ yX11_who.cls ≠ "java/lang/invoke/MethodHandle" ∧ yX11_who.cls ≠ "java/lang/invoke/VarHandle" ∧ (parseMethodDescriptor yX11_who.desc).map (fun d => d.parameters.length) = some 0 := by decide +kernel
set_option maxHeartbeats 4000000 in
set_option maxRecDepth 100000 in
theorem tX11_who_L76 {l : Launch} {p : Program} {e : Env} {s : State} {m : MethodId} {args : Array Value} {below : List Frame} {meth : Method} {c : Code} {E : En0} {L : List Nat} (hL : Cov 54 77 L) (C : Cx E L "PlankBridgeModel$Reader" cX11_who 2 p s m args c) (hr : meth.sig.returnType = (some .int)) (hlk : meth.locks = false) {b : Nat} {Q : Int32 → St → Prop} (hb : kd b = 10) {v1 : Int32}  {st : St} (H : Heap) (locs : List Loc) (ls : Array Slot) (h : wX11_who_L76 b v1 st Q) (hl : lv_has ls 2 [(0, .ref (E.2.1 b)), (1, .int v1)]) (hP : va_P E.1 vwCl (wd E L st) H) (hS : va_S (fA E L s.heap.size) s.heap H locs) : W p l e rmX11_who s m args below meth c H locs 0 0 (MQ below (zI E L Q (fA E L s.heap.size)) args s rmX11_who.cells rmX11_who.slots (fA E L s.heap.size)) (F0 m 76 ls []) := by
  unfold wX11_who_L76 at h
  refine lv_iload_n C.1 C.2.1 dX11_who_76 rfl (lv_at hl 1 rfl) ?_
  refine lv_bipush C.1 C.2.1 (v := (-100)) dX11_who_77 rfl ?_
  refine lv_icmp_ne C.1 C.2.1 (tgt := 90) dX11_who_79 (by decide) (fun hc => ?_) (fun hc => ?_)
  · have h := h.1 hc
    refine lv_aload_n C.1 C.2.1 dX11_who_90 rfl (lv_at hl 0 rfl) ?_
    refine z_kv hS (z_runV (As := []) (rest := []) C hP hS (m10 hb hL) (e10 hb) rfl (tX11_next C.2.2.2.2.2.2.1 (hL.mo (Nat.le_of_ble_eq_true rfl) (Nat.le_of_ble_eq_true rfl)) hb h) q1492 q1494 q41 q124 q1495 hdX11_next ⟨Nat.le_of_ble_eq_true rfl, Nat.le_of_ble_eq_true rfl⟩ ⟨Nat.zero_le _, Nat.zero_le _⟩ rfl hl.1 rfl (lv_room (Nat.le_of_ble_eq_true rfl)) dX11_who_91) (fun st5 H locs h hP hS => ?_)
    refine lv_iload_n C.1 C.2.1 dX11_who_94 rfl (lv_at hl 1 rfl) ?_
    exact z_ri C hr hlk rfl hP hS h dX11_who_95
  · have h := h.2 hc
    refine lv_aload_n C.1 C.2.1 dX11_who_82 rfl (lv_at hl 0 rfl) ?_
    refine z_ki hS (z_runV (As := []) (rest := []) C hP hS (m10 hb hL) (e10 hb) rfl (tX11_wrong C.2.2.2.2.2.2.1 (hL.mo (Nat.le_of_ble_eq_true rfl) (Nat.le_of_ble_eq_true rfl)) hb h) q1576 q1578 q49 q124 q1579 hdX11_wrong ⟨Nat.le_of_ble_eq_true rfl, Nat.le_of_ble_eq_true rfl⟩ ⟨Nat.zero_le _, Nat.zero_le _⟩ rfl hl.1 rfl (lv_room (Nat.le_of_ble_eq_true rfl)) dX11_who_83) (fun r7 st6 H locs h hP hS => ?_)
    obtain ⟨hr7, h⟩ := h
    refine lv_pop C.1 C.2.1 dX11_who_86 rfl ?_
    refine lv_goto C.1 C.2.1 (tgt := 94) dX11_who_87 (by decide) ?_
    refine lv_iload_n C.1 C.2.1 dX11_who_94 rfl (lv_at hl 1 rfl) ?_
    exact z_ri C hr hlk rfl hP hS h dX11_who_95
set_option maxHeartbeats 4000000 in
set_option maxRecDepth 100000 in
theorem tX11_who_L35 {l : Launch} {p : Program} {e : Env} {s : State} {m : MethodId} {args : Array Value} {below : List Frame} {meth : Method} {c : Code} {E : En0} {L : List Nat} (hL : Cov 54 77 L) (C : Cx E L "PlankBridgeModel$Reader" cX11_who 2 p s m args c) (hr : meth.sig.returnType = (some .int)) (hlk : meth.locks = false) {b : Nat} {Q : Int32 → St → Prop} (hb : kd b = 10) {v1 : Int32}  {st : St} (H : Heap) (locs : List Loc) (ls : Array Slot) (h : wX11_who_L35 b v1 st Q) (hl : lv_has ls 2 [(0, .ref (E.2.1 b)), (1, .int v1)]) (hP : va_P E.1 vwCl (wd E L st) H) (hS : va_S (fA E L s.heap.size) s.heap H locs) : W p l e rmX11_who s m args below meth c H locs 0 0 (MQ below (zI E L Q (fA E L s.heap.size)) args s rmX11_who.cells rmX11_who.slots (fA E L s.heap.size)) (F0 m 35 ls []) := by
  unfold wX11_who_L35 at h
  refine lv_iconst C.1 C.2.1 (v := 0) dX11_who_35 rfl ?_
  refine lv_iload_n C.1 C.2.1 dX11_who_36 rfl (lv_at hl 1 rfl) ?_
  refine va_mmax (rest := []) C.1 C.2.1 (C.2.2.1.trans hl.1.symm) C.2.2.2.1 (C.T q1621) (C.T q1622) (C.T q129) (C.T q1623) (Nat.le_of_ble_eq_true rfl) (Nat.le_of_ble_eq_true rfl) (Nat.zero_le _) (Nat.zero_le _) dX11_who_37 ?_
  refine lv_topi (fun x8 ex8 => ?_)
  have h := h x8 ex8
  refine lv_istore_n C.1 C.2.1 dX11_who_40 rfl hl (Nat.le_of_ble_eq_true rfl) rfl (fun ls hl => ?_)
  have hl : lv_has ls 2 [(1, .int x8), (0, .ref (E.2.1 b))] := hl
  refine lv_goto C.1 C.2.1 (tgt := 76) dX11_who_41 (by decide) ?_
  exact tX11_who_L76 hL C hr hlk hb _ _ _ h (lv_sub hl [1, 0] rfl) hP hS
set_option maxHeartbeats 4000000 in
set_option maxRecDepth 100000 in
theorem tX11_who {l : Launch} {E : En0} {L : List Nat} (hE : EK E L) (hL : Cov 54 77 L) {b : Nat} {st : St} {Q : Int32 → St → Prop} (hb : kd b = 10) (h : wX11_who b st Q) : Mz l yX11_who cX11_who 2 (some .int) rmX11_who E L [.ref (E.2.1 b)] st (zI E L Q) := by
  refine Mz.of hE (by decide) (Nat.le_of_ble_eq_true rfl) ?_
  intro p e s m below meth c ls C hr hlk _ hl hP
  replace C : Cx E L "PlankBridgeModel$Reader" cX11_who 2 p s m _ c := C
  have hS : va_S (fA E L s.heap.size) s.heap s.heap [] := va_S.rf
  replace hl : lv_has ls 2 [(0, .ref (E.2.1 b))] := hl
  unfold wX11_who at h
  refine lv_bipush C.1 C.2.1 (v := (-100)) dX11_who_0 rfl ?_
  refine lv_istore_n C.1 C.2.1 dX11_who_2 rfl hl (Nat.le_of_ble_eq_true rfl) rfl (fun ls hl => ?_)
  have hl : lv_has ls 2 [(1, .int (-100)), (0, .ref (E.2.1 b))] := hl
  refine lv_aload_n C.1 C.2.1 dX11_who_3 rfl (lv_at hl 1 rfl) ?_
  refine gf10_6 C hP hb (m10 hb hL) q1445 dX11_who_4 ?_
  refine lv_iconst C.1 C.2.1 (v := 2) dX11_who_7 rfl ?_
  refine lv_icmp_ne C.1 C.2.1 (tgt := 44) dX11_who_8 (by decide) (fun hc => ?_) (fun hc => ?_)
  · have h := h.1 hc
    refine lv_aload_n C.1 C.2.1 dX11_who_44 rfl (lv_at hl 1 rfl) ?_
    refine gf10_6 C hP hb (m10 hb hL) q1445 dX11_who_45 ?_
    refine lv_sipush C.1 C.2.1 (v := 215) dX11_who_48 rfl ?_
    refine lv_icmp_lt C.1 C.2.1 (tgt := 76) dX11_who_51 (by decide) (fun hc => ?_) (fun hc => ?_)
    · have h := h.1 hc
      exact tX11_who_L76 hL C hr hlk hb _ _ _ h (lv_sub hl [1, 0] rfl) hP hS
    · have h := h.2 hc
      refine lv_aload_n C.1 C.2.1 dX11_who_54 rfl (lv_at hl 1 rfl) ?_
      refine gf10_6 C hP hb (m10 hb hL) q1445 dX11_who_55 ?_
      refine lv_sipush C.1 C.2.1 (v := 219) dX11_who_58 rfl ?_
      refine lv_icmp_ge C.1 C.2.1 (tgt := 76) dX11_who_61 (by decide) (fun hc => ?_) (fun hc => ?_)
      · have h := h.1 hc
        exact tX11_who_L76 hL C hr hlk hb _ _ _ h (lv_sub hl [1, 0] rfl) hP hS
      · have h := h.2 hc
        refine lv_bipush C.1 C.2.1 (v := (-2)) dX11_who_64 rfl ?_
        refine lv_aload_n C.1 C.2.1 dX11_who_66 rfl (lv_at hl 1 rfl) ?_
        refine gf10_6 C hP hb (m10 hb hL) q1445 dX11_who_67 ?_
        refine lv_sipush C.1 C.2.1 (v := 215) dX11_who_70 rfl ?_
        refine lv_isub C.1 C.2.1 dX11_who_73  ?_
        refine lv_isub C.1 C.2.1 dX11_who_74  ?_
        refine lv_topi (fun x1 ex1 => ?_)
        have h := h x1 ex1
        refine lv_istore_n C.1 C.2.1 dX11_who_75 rfl hl (Nat.le_of_ble_eq_true rfl) rfl (fun ls hl => ?_)
        have hl : lv_has ls 2 [(1, .int x1), (0, .ref (E.2.1 b))] := hl
        exact tX11_who_L76 hL C hr hlk hb _ _ _ h (lv_sub hl [1, 0] rfl) hP hS
  · have h := h.2 hc
    refine lv_aload_n C.1 C.2.1 dX11_who_11 rfl (lv_at hl 1 rfl) ?_
    refine lv_aload_n C.1 C.2.1 dX11_who_12 rfl (lv_at hl 1 rfl) ?_
    refine gf10_9 C hP hb (m10 hb hL) q1448 dX11_who_13 ?_
    refine lv_iconst C.1 C.2.1 (v := 0) dX11_who_16 rfl ?_
    refine lv_aload_n C.1 C.2.1 dX11_who_17 rfl (lv_at hl 1 rfl) ?_
    refine gf10_3 C hP hb (m10 hb hL) q1442 dX11_who_18 ?_
    refine z_ki hS (z_runV (As := [.long (gJ st b 9), .int 0, .int (gI st b 3)]) (rest := []) C hP hS (m10 hb hL) (e10 hb) rfl (tX11_find C.2.2.2.2.2.2.1 (hL.mo (Nat.le_of_ble_eq_true rfl) (Nat.le_of_ble_eq_true rfl)) hb h) q1580 q1582 q50 q124 q1583 hdX11_find ⟨Nat.le_of_ble_eq_true rfl, Nat.le_of_ble_eq_true rfl⟩ ⟨Nat.zero_le _, Nat.zero_le _⟩ rfl hl.1 rfl (lv_room (Nat.le_of_ble_eq_true rfl)) dX11_who_21) (fun r3 st2 H locs h hP hS => ?_)
    refine lv_istore_n C.1 C.2.1 dX11_who_24 rfl hl (Nat.le_of_ble_eq_true rfl) rfl (fun ls hl => ?_)
    have hl : lv_has ls 2 [(1, .int r3), (0, .ref (E.2.1 b))] := hl
    refine lv_iload_n C.1 C.2.1 dX11_who_25 rfl (lv_at hl 0 rfl) ?_
    refine lv_iconst C.1 C.2.1 (v := (-1)) dX11_who_26 rfl ?_
    refine lv_icmp_ne C.1 C.2.1 (tgt := 35) dX11_who_27 (by decide) (fun hc => ?_) (fun hc => ?_)
    · have h := h.1 hc
      exact tX11_who_L35 hL C hr hlk hb _ _ _ h (lv_sub hl [1, 0] rfl) hP hS
    · have h := h.2 hc
      refine lv_aload_n C.1 C.2.1 dX11_who_30 rfl (lv_at hl 1 rfl) ?_
      refine lv_iconst C.1 C.2.1 (v := 3) dX11_who_31 rfl ?_
      refine z_kv hS (z_runV (As := [.int 3]) (rest := []) C hP hS (m10 hb hL) (e10 hb) rfl (tX11_note C.2.2.2.2.2.2.1 (hL.mo (Nat.le_of_ble_eq_true rfl) (Nat.le_of_ble_eq_true rfl)) hb h) q1584 q1586 q51 q124 q1587 hdX11_note ⟨Nat.le_of_ble_eq_true rfl, Nat.le_of_ble_eq_true rfl⟩ ⟨Nat.zero_le _, Nat.zero_le _⟩ rfl hl.1 rfl (lv_room (Nat.le_of_ble_eq_true rfl)) dX11_who_32) (fun st4 H locs h hP hS => ?_)
      exact tX11_who_L35 hL C hr hlk hb _ _ _ h (lv_sub hl [1, 0] rfl) hP hS
def rmX11_send : Room := { frames := 9, cells := 0, slots := 0, locals := 192 }
def wX11_send_L42 (b : Nat)  (v1 : Int32) (v2 : Int32) (st : St) (Q : Int32 → St → Prop) : Prop :=
  (wX10_put (b + 2) 205 v1 v2 st (fun r7 st6 => (wX11_take b 59 st6 (fun r9 st8 => Q r9 st8))))
def wX11_send (b : Nat) (st : St) (Q : Int32 → St → Prop) : Prop :=
  (wX11_who b st (fun r2 st1 => ((¬ r2 = (-100) → ((¬ (gI st1 b 6) = 206 → wX11_send_L42 b r2 (-1) st1 Q) ∧ ((gI st1 b 6) = 206 → (wX11_next b st1 (fun st3 => (wX11_who b st3 (fun r5 st4 => ((¬ r5 = (-100) → wX11_send_L42 b r2 r5 st4 Q) ∧ (r5 = (-100) → Q 0 st4))))))))) ∧ (r2 = (-100) → Q 0 st1))))
theorem hdX11_send : yX11_send.cls = "PlankBridgeModel$Reader" ∧ yX11_send.cls ≠ "java/lang/invoke/MethodHandle" ∧ yX11_send.cls ≠ "java/lang/invoke/VarHandle" ∧ (parseMethodDescriptor yX11_send.desc).map (fun d => d.parameters.length) = some 0 := by decide +kernel
set_option maxHeartbeats 4000000 in
set_option maxRecDepth 100000 in
theorem tX11_send_L42 {l : Launch} {p : Program} {e : Env} {s : State} {m : MethodId} {args : Array Value} {below : List Frame} {meth : Method} {c : Code} {E : En0} {L : List Nat} (hL : Cov 54 77 L) (C : Cx E L "PlankBridgeModel$Reader" cX11_send 3 p s m args c) (hr : meth.sig.returnType = (some .boolean)) (hlk : meth.locks = false) {b : Nat} {Q : Int32 → St → Prop} (hb : kd b = 10) {v1 : Int32} {v2 : Int32}  {st : St} (H : Heap) (locs : List Loc) (ls : Array Slot) (h : wX11_send_L42 b v1 v2 st Q) (hl : lv_has ls 3 [(0, .ref (E.2.1 b)), (1, .int v1), (2, .int v2)]) (hP : va_P E.1 vwCl (wd E L st) H) (hS : va_S (fA E L s.heap.size) s.heap H locs) : W p l e rmX11_send s m args below meth c H locs 0 0 (MQ below (zI E L (fun r u => bz r ∧ Q r u) (fA E L s.heap.size)) args s rmX11_send.cells rmX11_send.slots (fA E L s.heap.size)) (F0 m 42 ls []) := by
  unfold wX11_send_L42 at h
  refine lv_aload_n C.1 C.2.1 dX11_send_42 rfl (lv_at hl 0 rfl) ?_
  refine gf10_0 C hP hb (m10 hb hL) q1438 dX11_send_43 ?_
  refine lv_sipush C.1 C.2.1 (v := 205) dX11_send_46 rfl ?_
  refine lv_iload_n C.1 C.2.1 dX11_send_49 rfl (lv_at hl 1 rfl) ?_
  refine lv_iload_n C.1 C.2.1 dX11_send_50 rfl (lv_at hl 2 rfl) ?_
  refine z_ki hS (z_runV (As := [.int 205, .int v1, .int v2]) (rest := []) C hP hS (m10_2 hb hL) (e9 (k10_2 hb)) rfl (tX10_put C.2.2.2.2.2.2.1 (hL.mo (Nat.le_of_ble_eq_true rfl) (Nat.le_of_ble_eq_true rfl)) (k10_2 hb) h) q1624 q1625 q1626 q117 q1627 hdX10_put ⟨Nat.le_of_ble_eq_true rfl, Nat.le_of_ble_eq_true rfl⟩ ⟨Nat.zero_le _, Nat.zero_le _⟩ rfl hl.1 rfl (lv_room (Nat.le_of_ble_eq_true rfl)) dX11_send_51) (fun r7 st6 H locs h hP hS => ?_)
  refine lv_pop C.1 C.2.1 dX11_send_54 rfl ?_
  refine lv_aload_n C.1 C.2.1 dX11_send_55 rfl (lv_at hl 0 rfl) ?_
  refine lv_bipush C.1 C.2.1 (v := 59) dX11_send_56 rfl ?_
  refine z_ki hS (z_runV (As := [.int 59]) (rest := []) C hP hS (m10 hb hL) (e10 hb) rfl (tX11_take C.2.2.2.2.2.2.1 (hL.mo (Nat.le_of_ble_eq_true rfl) (Nat.le_of_ble_eq_true rfl)) hb h) q1588 q1590 q52 q124 q1591 hdX11_take ⟨Nat.le_of_ble_eq_true rfl, Nat.le_of_ble_eq_true rfl⟩ ⟨Nat.zero_le _, Nat.zero_le _⟩ rfl hl.1 rfl (lv_room (Nat.le_of_ble_eq_true rfl)) dX11_send_58) (fun r9 st8 H locs h hP hS => ?_)
  obtain ⟨hr9, h⟩ := h
  exact z_ri C hr hlk (bz_n hr9) hP hS ⟨hr9, h⟩ dX11_send_61
set_option maxHeartbeats 4000000 in
set_option maxRecDepth 100000 in
theorem tX11_send {l : Launch} {E : En0} {L : List Nat} (hE : EK E L) (hL : Cov 54 77 L) {b : Nat} {st : St} {Q : Int32 → St → Prop} (hb : kd b = 10) (h : wX11_send b st Q) : Mz l yX11_send cX11_send 3 (some .boolean) rmX11_send E L [.ref (E.2.1 b)] st (zI E L (fun r u => bz r ∧ Q r u)) := by
  refine Mz.of hE (by decide) (Nat.le_of_ble_eq_true rfl) ?_
  intro p e s m below meth c ls C hr hlk _ hl hP
  replace C : Cx E L "PlankBridgeModel$Reader" cX11_send 3 p s m _ c := C
  have hS : va_S (fA E L s.heap.size) s.heap s.heap [] := va_S.rf
  replace hl : lv_has ls 3 [(0, .ref (E.2.1 b))] := hl
  unfold wX11_send at h
  refine lv_aload_n C.1 C.2.1 dX11_send_0 rfl (lv_at hl 0 rfl) ?_
  refine z_ki hS (z_runV (As := []) (rest := []) C hP hS (m10 hb hL) (e10 hb) rfl (tX11_who C.2.2.2.2.2.2.1 (hL.mo (Nat.le_of_ble_eq_true rfl) (Nat.le_of_ble_eq_true rfl)) hb h) q1617 q1619 q59 q124 q1620 hdX11_who ⟨Nat.le_of_ble_eq_true rfl, Nat.le_of_ble_eq_true rfl⟩ ⟨Nat.zero_le _, Nat.zero_le _⟩ rfl hl.1 rfl (lv_room (Nat.le_of_ble_eq_true rfl)) dX11_send_1) (fun r2 st1 H locs h hP hS => ?_)
  refine lv_istore_n C.1 C.2.1 dX11_send_4 rfl hl (Nat.le_of_ble_eq_true rfl) rfl (fun ls hl => ?_)
  have hl : lv_has ls 3 [(1, .int r2), (0, .ref (E.2.1 b))] := hl
  refine lv_iload_n C.1 C.2.1 dX11_send_5 rfl (lv_at hl 0 rfl) ?_
  refine lv_bipush C.1 C.2.1 (v := (-100)) dX11_send_6 rfl ?_
  refine lv_icmp_ne C.1 C.2.1 (tgt := 13) dX11_send_8 (by decide) (fun hc => ?_) (fun hc => ?_)
  · have h := h.1 hc
    refine lv_iconst C.1 C.2.1 (v := (-1)) dX11_send_13 rfl ?_
    refine lv_istore_n C.1 C.2.1 dX11_send_14 rfl hl (Nat.le_of_ble_eq_true rfl) rfl (fun ls hl => ?_)
    have hl : lv_has ls 3 [(2, .int (-1)), (1, .int r2), (0, .ref (E.2.1 b))] := hl
    refine lv_aload_n C.1 C.2.1 dX11_send_15 rfl (lv_at hl 2 rfl) ?_
    refine gf10_6 C hP hb (m10 hb hL) q1445 dX11_send_16 ?_
    refine lv_sipush C.1 C.2.1 (v := 206) dX11_send_19 rfl ?_
    refine lv_icmp_ne C.1 C.2.1 (tgt := 42) dX11_send_22 (by decide) (fun hc => ?_) (fun hc => ?_)
    · have h := h.1 hc
      exact tX11_send_L42 hL C hr hlk hb _ _ _ h (lv_sub hl [2, 1, 0] rfl) hP hS
    · have h := h.2 hc
      refine lv_aload_n C.1 C.2.1 dX11_send_25 rfl (lv_at hl 2 rfl) ?_
      refine z_kv hS (z_runV (As := []) (rest := []) C hP hS (m10 hb hL) (e10 hb) rfl (tX11_next C.2.2.2.2.2.2.1 (hL.mo (Nat.le_of_ble_eq_true rfl) (Nat.le_of_ble_eq_true rfl)) hb h) q1492 q1494 q41 q124 q1495 hdX11_next ⟨Nat.le_of_ble_eq_true rfl, Nat.le_of_ble_eq_true rfl⟩ ⟨Nat.zero_le _, Nat.zero_le _⟩ rfl hl.1 rfl (lv_room (Nat.le_of_ble_eq_true rfl)) dX11_send_26) (fun st3 H locs h hP hS => ?_)
      refine lv_aload_n C.1 C.2.1 dX11_send_29 rfl (lv_at hl 2 rfl) ?_
      refine z_ki hS (z_runV (As := []) (rest := []) C hP hS (m10 hb hL) (e10 hb) rfl (tX11_who C.2.2.2.2.2.2.1 (hL.mo (Nat.le_of_ble_eq_true rfl) (Nat.le_of_ble_eq_true rfl)) hb h) q1617 q1619 q59 q124 q1620 hdX11_who ⟨Nat.le_of_ble_eq_true rfl, Nat.le_of_ble_eq_true rfl⟩ ⟨Nat.zero_le _, Nat.zero_le _⟩ rfl hl.1 rfl (lv_room (Nat.le_of_ble_eq_true rfl)) dX11_send_30) (fun r5 st4 H locs h hP hS => ?_)
      refine lv_istore_n C.1 C.2.1 dX11_send_33 rfl hl (Nat.le_of_ble_eq_true rfl) rfl (fun ls hl => ?_)
      have hl : lv_has ls 3 [(2, .int r5), (1, .int r2), (0, .ref (E.2.1 b))] := hl
      refine lv_iload_n C.1 C.2.1 dX11_send_34 rfl (lv_at hl 0 rfl) ?_
      refine lv_bipush C.1 C.2.1 (v := (-100)) dX11_send_35 rfl ?_
      refine lv_icmp_ne C.1 C.2.1 (tgt := 42) dX11_send_37 (by decide) (fun hc => ?_) (fun hc => ?_)
      · have h := h.1 hc
        exact tX11_send_L42 hL C hr hlk hb _ _ _ h (lv_sub hl [2, 1, 0] rfl) hP hS
      · have h := h.2 hc
        refine lv_iconst C.1 C.2.1 (v := 0) dX11_send_40 rfl ?_
        exact z_ri C hr hlk (bz_n bz0) hP hS ⟨bz0, h⟩ dX11_send_41
  · have h := h.2 hc
    refine lv_iconst C.1 C.2.1 (v := 0) dX11_send_11 rfl ?_
    exact z_ri C hr hlk (bz_n bz0) hP hS ⟨bz0, h⟩ dX11_send_12
def rmX11_does : Room := { frames := 9, cells := 0, slots := 0, locals := 192 }
def wX11_does_L47 (b : Nat)  (v1 : Int32) (st : St) (Q : Int32 → St → Prop) : Prop :=
  (wX10_put (b + 2) 210 (if 0 < v1 then v1 else 0) 0 st (fun r7 st6 => (wX11_next b st6 (fun st8 => (wX11_take b 59 st8 (fun r10 st9 => Q r10 st9))))))
def wX11_does (b : Nat) (st : St) (Q : Int32 → St → Prop) : Prop :=
  (((gI st b 6) = 2 → (wX11_find b (gJ st b 9) (gI st b 3) (if (gI st b 3) < (gI st b 4) then (gI st b 4) else (gI st b 3)) st (fun r2 st1 => ((¬ r2 = (-1) → wX11_does_L47 b r2 st1 Q) ∧ (r2 = (-1) → (wX11_note b 3 st1 (fun st3 => wX11_does_L47 b r2 st3 Q))))))) ∧ (¬ (gI st b 6) = 2 → (wX11_wrong b st (fun r5 st4 => Q r5 st4))))
theorem hdX11_does : yX11_does.cls = "PlankBridgeModel$Reader" ∧ yX11_does.cls ≠ "java/lang/invoke/MethodHandle" ∧ yX11_does.cls ≠ "java/lang/invoke/VarHandle" ∧ (parseMethodDescriptor yX11_does.desc).map (fun d => d.parameters.length) = some 0 := by decide +kernel
set_option maxHeartbeats 4000000 in
set_option maxRecDepth 100000 in
theorem tX11_does_L47 {l : Launch} {p : Program} {e : Env} {s : State} {m : MethodId} {args : Array Value} {below : List Frame} {meth : Method} {c : Code} {E : En0} {L : List Nat} (hL : Cov 54 77 L) (C : Cx E L "PlankBridgeModel$Reader" cX11_does 2 p s m args c) (hr : meth.sig.returnType = (some .boolean)) (hlk : meth.locks = false) {b : Nat} {Q : Int32 → St → Prop} (hb : kd b = 10) {v1 : Int32}  {st : St} (H : Heap) (locs : List Loc) (ls : Array Slot) (h : wX11_does_L47 b v1 st Q) (hl : lv_has ls 2 [(0, .ref (E.2.1 b)), (1, .int v1)]) (hP : va_P E.1 vwCl (wd E L st) H) (hS : va_S (fA E L s.heap.size) s.heap H locs) : W p l e rmX11_does s m args below meth c H locs 0 0 (MQ below (zI E L (fun r u => bz r ∧ Q r u) (fA E L s.heap.size)) args s rmX11_does.cells rmX11_does.slots (fA E L s.heap.size)) (F0 m 47 ls []) := by
  unfold wX11_does_L47 at h
  refine lv_aload_n C.1 C.2.1 dX11_does_47 rfl (lv_at hl 0 rfl) ?_
  refine gf10_0 C hP hb (m10 hb hL) q1438 dX11_does_48 ?_
  refine lv_sipush C.1 C.2.1 (v := 210) dX11_does_51 rfl ?_
  refine lv_iconst C.1 C.2.1 (v := 0) dX11_does_54 rfl ?_
  refine lv_iload_n C.1 C.2.1 dX11_does_55 rfl (lv_at hl 1 rfl) ?_
  refine va_mmax (rest := [.int 210, .ref (E.2.1 ((b + 2)))]) C.1 C.2.1 (C.2.2.1.trans hl.1.symm) C.2.2.2.1 (C.T q1621) (C.T q1622) (C.T q129) (C.T q1623) (Nat.le_of_ble_eq_true rfl) (Nat.le_of_ble_eq_true rfl) (Nat.zero_le _) (Nat.zero_le _) dX11_does_56 ?_
  refine lv_iconst C.1 C.2.1 (v := 0) dX11_does_59 rfl ?_
  refine z_ki hS (z_runV (As := [.int 210, .int (if 0 < v1 then v1 else 0), .int 0]) (rest := []) C hP hS (m10_2 hb hL) (e9 (k10_2 hb)) rfl (tX10_put C.2.2.2.2.2.2.1 (hL.mo (Nat.le_of_ble_eq_true rfl) (Nat.le_of_ble_eq_true rfl)) (k10_2 hb) h) q1624 q1625 q1626 q117 q1627 hdX10_put ⟨Nat.le_of_ble_eq_true rfl, Nat.le_of_ble_eq_true rfl⟩ ⟨Nat.zero_le _, Nat.zero_le _⟩ rfl hl.1 rfl (lv_room (Nat.le_of_ble_eq_true rfl)) dX11_does_60) (fun r7 st6 H locs h hP hS => ?_)
  refine lv_pop C.1 C.2.1 dX11_does_63 rfl ?_
  refine lv_aload_n C.1 C.2.1 dX11_does_64 rfl (lv_at hl 0 rfl) ?_
  refine z_kv hS (z_runV (As := []) (rest := []) C hP hS (m10 hb hL) (e10 hb) rfl (tX11_next C.2.2.2.2.2.2.1 (hL.mo (Nat.le_of_ble_eq_true rfl) (Nat.le_of_ble_eq_true rfl)) hb h) q1492 q1494 q41 q124 q1495 hdX11_next ⟨Nat.le_of_ble_eq_true rfl, Nat.le_of_ble_eq_true rfl⟩ ⟨Nat.zero_le _, Nat.zero_le _⟩ rfl hl.1 rfl (lv_room (Nat.le_of_ble_eq_true rfl)) dX11_does_65) (fun st8 H locs h hP hS => ?_)
  refine lv_aload_n C.1 C.2.1 dX11_does_68 rfl (lv_at hl 0 rfl) ?_
  refine lv_bipush C.1 C.2.1 (v := 59) dX11_does_69 rfl ?_
  refine z_ki hS (z_runV (As := [.int 59]) (rest := []) C hP hS (m10 hb hL) (e10 hb) rfl (tX11_take C.2.2.2.2.2.2.1 (hL.mo (Nat.le_of_ble_eq_true rfl) (Nat.le_of_ble_eq_true rfl)) hb h) q1588 q1590 q52 q124 q1591 hdX11_take ⟨Nat.le_of_ble_eq_true rfl, Nat.le_of_ble_eq_true rfl⟩ ⟨Nat.zero_le _, Nat.zero_le _⟩ rfl hl.1 rfl (lv_room (Nat.le_of_ble_eq_true rfl)) dX11_does_71) (fun r10 st9 H locs h hP hS => ?_)
  obtain ⟨hr10, h⟩ := h
  exact z_ri C hr hlk (bz_n hr10) hP hS ⟨hr10, h⟩ dX11_does_74
set_option maxHeartbeats 4000000 in
set_option maxRecDepth 100000 in
theorem tX11_does {l : Launch} {E : En0} {L : List Nat} (hE : EK E L) (hL : Cov 54 77 L) {b : Nat} {st : St} {Q : Int32 → St → Prop} (hb : kd b = 10) (h : wX11_does b st Q) : Mz l yX11_does cX11_does 2 (some .boolean) rmX11_does E L [.ref (E.2.1 b)] st (zI E L (fun r u => bz r ∧ Q r u)) := by
  refine Mz.of hE (by decide) (Nat.le_of_ble_eq_true rfl) ?_
  intro p e s m below meth c ls C hr hlk _ hl hP
  replace C : Cx E L "PlankBridgeModel$Reader" cX11_does 2 p s m _ c := C
  have hS : va_S (fA E L s.heap.size) s.heap s.heap [] := va_S.rf
  replace hl : lv_has ls 2 [(0, .ref (E.2.1 b))] := hl
  unfold wX11_does at h
  refine lv_aload_n C.1 C.2.1 dX11_does_0 rfl (lv_at hl 0 rfl) ?_
  refine gf10_6 C hP hb (m10 hb hL) q1445 dX11_does_1 ?_
  refine lv_iconst C.1 C.2.1 (v := 2) dX11_does_4 rfl ?_
  refine lv_icmp_eq C.1 C.2.1 (tgt := 13) dX11_does_5 (by decide) (fun hc => ?_) (fun hc => ?_)
  · have h := h.1 hc
    refine lv_aload_n C.1 C.2.1 dX11_does_13 rfl (lv_at hl 0 rfl) ?_
    refine lv_aload_n C.1 C.2.1 dX11_does_14 rfl (lv_at hl 0 rfl) ?_
    refine gf10_9 C hP hb (m10 hb hL) q1448 dX11_does_15 ?_
    refine lv_aload_n C.1 C.2.1 dX11_does_18 rfl (lv_at hl 0 rfl) ?_
    refine gf10_3 C hP hb (m10 hb hL) q1442 dX11_does_19 ?_
    refine lv_aload_n C.1 C.2.1 dX11_does_22 rfl (lv_at hl 0 rfl) ?_
    refine gf10_3 C hP hb (m10 hb hL) q1442 dX11_does_23 ?_
    refine lv_aload_n C.1 C.2.1 dX11_does_26 rfl (lv_at hl 0 rfl) ?_
    refine gf10_4 C hP hb (m10 hb hL) q1443 dX11_does_27 ?_
    refine va_mmax (rest := [.int (gI st b 3), .long (gJ st b 9), .ref (E.2.1 b)]) C.1 C.2.1 (C.2.2.1.trans hl.1.symm) C.2.2.2.1 (C.T q1621) (C.T q1622) (C.T q129) (C.T q1623) (Nat.le_of_ble_eq_true rfl) (Nat.le_of_ble_eq_true rfl) (Nat.zero_le _) (Nat.zero_le _) dX11_does_30 ?_
    refine z_ki hS (z_runV (As := [.long (gJ st b 9), .int (gI st b 3), .int (if (gI st b 3) < (gI st b 4) then (gI st b 4) else (gI st b 3))]) (rest := []) C hP hS (m10 hb hL) (e10 hb) rfl (tX11_find C.2.2.2.2.2.2.1 (hL.mo (Nat.le_of_ble_eq_true rfl) (Nat.le_of_ble_eq_true rfl)) hb h) q1580 q1582 q50 q124 q1583 hdX11_find ⟨Nat.le_of_ble_eq_true rfl, Nat.le_of_ble_eq_true rfl⟩ ⟨Nat.zero_le _, Nat.zero_le _⟩ rfl hl.1 rfl (lv_room (Nat.le_of_ble_eq_true rfl)) dX11_does_33) (fun r2 st1 H locs h hP hS => ?_)
    refine lv_istore_n C.1 C.2.1 dX11_does_36 rfl hl (Nat.le_of_ble_eq_true rfl) rfl (fun ls hl => ?_)
    have hl : lv_has ls 2 [(1, .int r2), (0, .ref (E.2.1 b))] := hl
    refine lv_iload_n C.1 C.2.1 dX11_does_37 rfl (lv_at hl 0 rfl) ?_
    refine lv_iconst C.1 C.2.1 (v := (-1)) dX11_does_38 rfl ?_
    refine lv_icmp_ne C.1 C.2.1 (tgt := 47) dX11_does_39 (by decide) (fun hc => ?_) (fun hc => ?_)
    · have h := h.1 hc
      exact tX11_does_L47 hL C hr hlk hb _ _ _ h (lv_sub hl [1, 0] rfl) hP hS
    · have h := h.2 hc
      refine lv_aload_n C.1 C.2.1 dX11_does_42 rfl (lv_at hl 1 rfl) ?_
      refine lv_iconst C.1 C.2.1 (v := 3) dX11_does_43 rfl ?_
      refine z_kv hS (z_runV (As := [.int 3]) (rest := []) C hP hS (m10 hb hL) (e10 hb) rfl (tX11_note C.2.2.2.2.2.2.1 (hL.mo (Nat.le_of_ble_eq_true rfl) (Nat.le_of_ble_eq_true rfl)) hb h) q1584 q1586 q51 q124 q1587 hdX11_note ⟨Nat.le_of_ble_eq_true rfl, Nat.le_of_ble_eq_true rfl⟩ ⟨Nat.zero_le _, Nat.zero_le _⟩ rfl hl.1 rfl (lv_room (Nat.le_of_ble_eq_true rfl)) dX11_does_44) (fun st3 H locs h hP hS => ?_)
      exact tX11_does_L47 hL C hr hlk hb _ _ _ h (lv_sub hl [1, 0] rfl) hP hS
  · have h := h.2 hc
    refine lv_aload_n C.1 C.2.1 dX11_does_8 rfl (lv_at hl 0 rfl) ?_
    refine z_ki hS (z_runV (As := []) (rest := []) C hP hS (m10 hb hL) (e10 hb) rfl (tX11_wrong C.2.2.2.2.2.2.1 (hL.mo (Nat.le_of_ble_eq_true rfl) (Nat.le_of_ble_eq_true rfl)) hb h) q1576 q1578 q49 q124 q1579 hdX11_wrong ⟨Nat.le_of_ble_eq_true rfl, Nat.le_of_ble_eq_true rfl⟩ ⟨Nat.zero_le _, Nat.zero_le _⟩ rfl hl.1 rfl (lv_room (Nat.le_of_ble_eq_true rfl)) dX11_does_9) (fun r5 st4 H locs h hP hS => ?_)
    obtain ⟨hr5, h⟩ := h
    exact z_ri C hr hlk (bz_n hr5) hP hS ⟨hr5, h⟩ dX11_does_12
def rmX11_value : Room := { frames := 8, cells := 0, slots := 0, locals := 171 }
def wX11_value_L64 (b : Nat)  (v1 : Int32) (st : St) (Q : Int32 → St → Prop) : Prop :=
  ((¬ v1 = (-100) → (wX11_next b st (fun st3 => Q v1 st3))) ∧ (v1 = (-100) → (wX11_wrong b st (fun r5 st4 => Q v1 st4))))
def wX11_value_L25 (b : Nat)   (st : St) (Q : Int32 → St → Prop) : Prop :=
  (∀ x6 : Int32, x6 = (gI st b 8) → wX11_value_L64 b x6 st Q)
def wX11_value (b : Nat) (st : St) (Q : Int32 → St → Prop) : Prop :=
  ((¬ (gI st b 6) = 3 → (((gI st b 6) < 219 → wX11_value_L64 b (-100) st Q) ∧ (¬ (gI st b 6) < 219 → ((225 < (gI st b 6) → wX11_value_L64 b (-100) st Q) ∧ (¬ 225 < (gI st b 6) → (∀ x1 : Int32, x1 = ((-1 : Int32) - ((gI st b 6) - 219)) → wX11_value_L64 b x1 st Q)))))) ∧ ((gI st b 6) = 3 → (((gI st b 8) ≤ 99 → wX11_value_L25 b st Q) ∧ (¬ (gI st b 8) ≤ 99 → (wX11_note b 5 st (fun st2 => wX11_value_L25 b st2 Q))))))
theorem hdX11_value : yX11_value.cls = "PlankBridgeModel$Reader" ∧ yX11_value.cls ≠ "java/lang/invoke/MethodHandle" ∧ yX11_value.cls ≠ "java/lang/invoke/VarHandle" ∧ (parseMethodDescriptor yX11_value.desc).map (fun d => d.parameters.length) = some 0 := by decide +kernel
set_option maxHeartbeats 4000000 in
set_option maxRecDepth 100000 in
theorem tX11_value_L64 {l : Launch} {p : Program} {e : Env} {s : State} {m : MethodId} {args : Array Value} {below : List Frame} {meth : Method} {c : Code} {E : En0} {L : List Nat} (hL : Cov 54 77 L) (C : Cx E L "PlankBridgeModel$Reader" cX11_value 2 p s m args c) (hr : meth.sig.returnType = (some .int)) (hlk : meth.locks = false) {b : Nat} {Q : Int32 → St → Prop} (hb : kd b = 10) {v1 : Int32}  {st : St} (H : Heap) (locs : List Loc) (ls : Array Slot) (h : wX11_value_L64 b v1 st Q) (hl : lv_has ls 2 [(0, .ref (E.2.1 b)), (1, .int v1)]) (hP : va_P E.1 vwCl (wd E L st) H) (hS : va_S (fA E L s.heap.size) s.heap H locs) : W p l e rmX11_value s m args below meth c H locs 0 0 (MQ below (zI E L Q (fA E L s.heap.size)) args s rmX11_value.cells rmX11_value.slots (fA E L s.heap.size)) (F0 m 64 ls []) := by
  unfold wX11_value_L64 at h
  refine lv_iload_n C.1 C.2.1 dX11_value_64 rfl (lv_at hl 1 rfl) ?_
  refine lv_bipush C.1 C.2.1 (v := (-100)) dX11_value_65 rfl ?_
  refine lv_icmp_ne C.1 C.2.1 (tgt := 78) dX11_value_67 (by decide) (fun hc => ?_) (fun hc => ?_)
  · have h := h.1 hc
    refine lv_aload_n C.1 C.2.1 dX11_value_78 rfl (lv_at hl 0 rfl) ?_
    refine z_kv hS (z_runV (As := []) (rest := []) C hP hS (m10 hb hL) (e10 hb) rfl (tX11_next C.2.2.2.2.2.2.1 (hL.mo (Nat.le_of_ble_eq_true rfl) (Nat.le_of_ble_eq_true rfl)) hb h) q1492 q1494 q41 q124 q1495 hdX11_next ⟨Nat.le_of_ble_eq_true rfl, Nat.le_of_ble_eq_true rfl⟩ ⟨Nat.zero_le _, Nat.zero_le _⟩ rfl hl.1 rfl (lv_room (Nat.le_of_ble_eq_true rfl)) dX11_value_79) (fun st3 H locs h hP hS => ?_)
    refine lv_iload_n C.1 C.2.1 dX11_value_82 rfl (lv_at hl 1 rfl) ?_
    exact z_ri C hr hlk rfl hP hS h dX11_value_83
  · have h := h.2 hc
    refine lv_aload_n C.1 C.2.1 dX11_value_70 rfl (lv_at hl 0 rfl) ?_
    refine z_ki hS (z_runV (As := []) (rest := []) C hP hS (m10 hb hL) (e10 hb) rfl (tX11_wrong C.2.2.2.2.2.2.1 (hL.mo (Nat.le_of_ble_eq_true rfl) (Nat.le_of_ble_eq_true rfl)) hb h) q1576 q1578 q49 q124 q1579 hdX11_wrong ⟨Nat.le_of_ble_eq_true rfl, Nat.le_of_ble_eq_true rfl⟩ ⟨Nat.zero_le _, Nat.zero_le _⟩ rfl hl.1 rfl (lv_room (Nat.le_of_ble_eq_true rfl)) dX11_value_71) (fun r5 st4 H locs h hP hS => ?_)
    obtain ⟨hr5, h⟩ := h
    refine lv_pop C.1 C.2.1 dX11_value_74 rfl ?_
    refine lv_goto C.1 C.2.1 (tgt := 82) dX11_value_75 (by decide) ?_
    refine lv_iload_n C.1 C.2.1 dX11_value_82 rfl (lv_at hl 1 rfl) ?_
    exact z_ri C hr hlk rfl hP hS h dX11_value_83
set_option maxHeartbeats 4000000 in
set_option maxRecDepth 100000 in
theorem tX11_value_L25 {l : Launch} {p : Program} {e : Env} {s : State} {m : MethodId} {args : Array Value} {below : List Frame} {meth : Method} {c : Code} {E : En0} {L : List Nat} (hL : Cov 54 77 L) (C : Cx E L "PlankBridgeModel$Reader" cX11_value 2 p s m args c) (hr : meth.sig.returnType = (some .int)) (hlk : meth.locks = false) {b : Nat} {Q : Int32 → St → Prop} (hb : kd b = 10)   {st : St} (H : Heap) (locs : List Loc) (ls : Array Slot) (h : wX11_value_L25 b st Q) (hl : lv_has ls 2 [(0, .ref (E.2.1 b))]) (hP : va_P E.1 vwCl (wd E L st) H) (hS : va_S (fA E L s.heap.size) s.heap H locs) : W p l e rmX11_value s m args below meth c H locs 0 0 (MQ below (zI E L Q (fA E L s.heap.size)) args s rmX11_value.cells rmX11_value.slots (fA E L s.heap.size)) (F0 m 25 ls []) := by
  unfold wX11_value_L25 at h
  refine lv_aload_n C.1 C.2.1 dX11_value_25 rfl (lv_at hl 0 rfl) ?_
  refine gf10_8 C hP hb (m10 hb hL) q1447 dX11_value_26 ?_
  refine lv_topi (fun x6 ex6 => ?_)
  have h := h x6 ex6
  refine lv_istore_n C.1 C.2.1 dX11_value_29 rfl hl (Nat.le_of_ble_eq_true rfl) rfl (fun ls hl => ?_)
  have hl : lv_has ls 2 [(1, .int x6), (0, .ref (E.2.1 b))] := hl
  refine lv_goto C.1 C.2.1 (tgt := 64) dX11_value_30 (by decide) ?_
  exact tX11_value_L64 hL C hr hlk hb _ _ _ h (lv_sub hl [1, 0] rfl) hP hS
set_option maxHeartbeats 4000000 in
set_option maxRecDepth 100000 in
theorem tX11_value {l : Launch} {E : En0} {L : List Nat} (hE : EK E L) (hL : Cov 54 77 L) {b : Nat} {st : St} {Q : Int32 → St → Prop} (hb : kd b = 10) (h : wX11_value b st Q) : Mz l yX11_value cX11_value 2 (some .int) rmX11_value E L [.ref (E.2.1 b)] st (zI E L Q) := by
  refine Mz.of hE (by decide) (Nat.le_of_ble_eq_true rfl) ?_
  intro p e s m below meth c ls C hr hlk _ hl hP
  replace C : Cx E L "PlankBridgeModel$Reader" cX11_value 2 p s m _ c := C
  have hS : va_S (fA E L s.heap.size) s.heap s.heap [] := va_S.rf
  replace hl : lv_has ls 2 [(0, .ref (E.2.1 b))] := hl
  unfold wX11_value at h
  refine lv_bipush C.1 C.2.1 (v := (-100)) dX11_value_0 rfl ?_
  refine lv_istore_n C.1 C.2.1 dX11_value_2 rfl hl (Nat.le_of_ble_eq_true rfl) rfl (fun ls hl => ?_)
  have hl : lv_has ls 2 [(1, .int (-100)), (0, .ref (E.2.1 b))] := hl
  refine lv_aload_n C.1 C.2.1 dX11_value_3 rfl (lv_at hl 1 rfl) ?_
  refine gf10_6 C hP hb (m10 hb hL) q1445 dX11_value_4 ?_
  refine lv_iconst C.1 C.2.1 (v := 3) dX11_value_7 rfl ?_
  refine lv_icmp_ne C.1 C.2.1 (tgt := 33) dX11_value_8 (by decide) (fun hc => ?_) (fun hc => ?_)
  · have h := h.1 hc
    refine lv_aload_n C.1 C.2.1 dX11_value_33 rfl (lv_at hl 1 rfl) ?_
    refine gf10_6 C hP hb (m10 hb hL) q1445 dX11_value_34 ?_
    refine lv_sipush C.1 C.2.1 (v := 219) dX11_value_37 rfl ?_
    refine lv_icmp_lt C.1 C.2.1 (tgt := 64) dX11_value_40 (by decide) (fun hc => ?_) (fun hc => ?_)
    · have h := h.1 hc
      exact tX11_value_L64 hL C hr hlk hb _ _ _ h (lv_sub hl [1, 0] rfl) hP hS
    · have h := h.2 hc
      refine lv_aload_n C.1 C.2.1 dX11_value_43 rfl (lv_at hl 1 rfl) ?_
      refine gf10_6 C hP hb (m10 hb hL) q1445 dX11_value_44 ?_
      refine lv_sipush C.1 C.2.1 (v := 225) dX11_value_47 rfl ?_
      refine lv_icmp_gt C.1 C.2.1 (tgt := 64) dX11_value_50 (by decide) (fun hc => ?_) (fun hc => ?_)
      · have h := h.1 hc
        exact tX11_value_L64 hL C hr hlk hb _ _ _ h (lv_sub hl [1, 0] rfl) hP hS
      · have h := h.2 hc
        refine lv_iconst C.1 C.2.1 (v := (-1)) dX11_value_53 rfl ?_
        refine lv_aload_n C.1 C.2.1 dX11_value_54 rfl (lv_at hl 1 rfl) ?_
        refine gf10_6 C hP hb (m10 hb hL) q1445 dX11_value_55 ?_
        refine lv_sipush C.1 C.2.1 (v := 219) dX11_value_58 rfl ?_
        refine lv_isub C.1 C.2.1 dX11_value_61  ?_
        refine lv_isub C.1 C.2.1 dX11_value_62  ?_
        refine lv_topi (fun x1 ex1 => ?_)
        have h := h x1 ex1
        refine lv_istore_n C.1 C.2.1 dX11_value_63 rfl hl (Nat.le_of_ble_eq_true rfl) rfl (fun ls hl => ?_)
        have hl : lv_has ls 2 [(1, .int x1), (0, .ref (E.2.1 b))] := hl
        exact tX11_value_L64 hL C hr hlk hb _ _ _ h (lv_sub hl [1, 0] rfl) hP hS
  · have h := h.2 hc
    refine lv_aload_n C.1 C.2.1 dX11_value_11 rfl (lv_at hl 1 rfl) ?_
    refine gf10_8 C hP hb (m10 hb hL) q1447 dX11_value_12 ?_
    refine lv_bipush C.1 C.2.1 (v := 99) dX11_value_15 rfl ?_
    refine lv_icmp_le C.1 C.2.1 (tgt := 25) dX11_value_17 (by decide) (fun hc => ?_) (fun hc => ?_)
    · have h := h.1 hc
      exact tX11_value_L25 hL C hr hlk hb _ _ _ h (lv_sub hl [1] rfl) hP hS
    · have h := h.2 hc
      refine lv_aload_n C.1 C.2.1 dX11_value_20 rfl (lv_at hl 1 rfl) ?_
      refine lv_iconst C.1 C.2.1 (v := 5) dX11_value_21 rfl ?_
      refine z_kv hS (z_runV (As := [.int 5]) (rest := []) C hP hS (m10 hb hL) (e10 hb) rfl (tX11_note C.2.2.2.2.2.2.1 (hL.mo (Nat.le_of_ble_eq_true rfl) (Nat.le_of_ble_eq_true rfl)) hb h) q1584 q1586 q51 q124 q1587 hdX11_note ⟨Nat.le_of_ble_eq_true rfl, Nat.le_of_ble_eq_true rfl⟩ ⟨Nat.zero_le _, Nat.zero_le _⟩ rfl hl.1 rfl (lv_room (Nat.le_of_ble_eq_true rfl)) dX11_value_22) (fun st2 H locs h hP hS => ?_)
      exact tX11_value_L25 hL C hr hlk hb _ _ _ h (lv_sub hl [1] rfl) hP hS
def rmX11_row : Room := { frames := 9, cells := 0, slots := 0, locals := 192 }
def wX11_row_L191 (b : Nat) (R10 : Int32 × Int32 × St → Prop) (v1 : Int32) (v2 : Int32) (st : St) (Q : Int32 → St → Prop) : Prop :=
  R10 (v1, v2, st)
def wX11_row_L169 (b : Nat) (R10 : Int32 × Int32 × St → Prop) (v1 : Int32) (v2 : Int32) (s0 : Int32) (s1 : Int32) (st : St) (Q : Int32 → St → Prop) : Prop :=
  (vp_in s1 1600 ∧ ∀ st14, st14 = uI st ((b + 2) + 6) (s1 : Int32).toNatClampNeg s0 → (∀ st15, st15 = uI st14 (b + 2) 11 ((gI st14 (b + 2) 11) + 1) → ((v2 = 0 → wX11_row_L191 b R10 v1 v2 st15 Q) ∧ (¬ v2 = 0 → (wX11_next b st15 (fun st16 => wX11_row_L191 b R10 v1 v2 st16 Q))))))
def wX11_row_L148 (b : Nat) (R10 : Int32 × Int32 × St → Prop) (v1 : Int32) (v6 : Int32) (s0 : Int32) (st : St) (Q : Int32 → St → Prop) : Prop :=
  ((s0 = 0 → wX11_row_L169 b R10 v1 s0 1 (v6 + 3) st Q) ∧ (¬ s0 = 0 → wX11_row_L169 b R10 v1 s0 0 (v6 + 3) st Q))
def wX11_row_L63 (b : Nat) (R10 : Int32 × Int32 × St → Prop) (v1 : Int32) (v3 : Int32) (v4 : Int32) (st : St) (Q : Int32 → St → Prop) : Prop :=
  (wX11_next b st (fun st7 => (wX11_value b st7 (fun r9 st8 => ((¬ r9 = (-100) → (∀ x10 : Int32, x10 = ((4 : Int32) * (gI st8 (b + 2) 11)) → (vp_in x10 1600 ∧ ∀ st11, st11 = uI st8 ((b + 2) + 6) (x10 : Int32).toNatClampNeg v3 → (vp_in (x10 + 1) 1600 ∧ ∀ st12, st12 = uI st11 ((b + 2) + 6) (x10 + 1 : Int32).toNatClampNeg v4 → (vp_in (x10 + 2) 1600 ∧ ∀ st13, st13 = uI st12 ((b + 2) + 6) (x10 + 2 : Int32).toNatClampNeg r9 → ((¬ (gI st13 b 6) = 214 → wX11_row_L148 b R10 v1 x10 0 st13 Q) ∧ ((gI st13 b 6) = 214 → wX11_row_L148 b R10 v1 x10 1 st13 Q))))))) ∧ (r9 = (-100) → Q (-100) st8))))))
def wX11_row_L10 (b : Nat)  (R10 : Int32 × Int32 × St → Prop) (v1 : Int32) (v2 : Int32) (st : St) (Q : Int32 → St → Prop) : Prop :=
  ((v2 = 0 → Q v1 st) ∧ (¬ v2 = 0 → (wX11_value b st (fun r3 st2 => ((¬ r3 = (-100) → (∀ x4 : Int32, x4 = (gI st2 b 6) → ((x4 = 60 → wX11_row_L63 b R10 v1 r3 x4 st2 Q) ∧ (¬ x4 = 60 → ((x4 = 62 → wX11_row_L63 b R10 v1 r3 x4 st2 Q) ∧ (¬ x4 = 62 → ((x4 = 61 → wX11_row_L63 b R10 v1 r3 x4 st2 Q) ∧ (¬ x4 = 61 → (wX11_wrong b st2 (fun r6 st5 => Q (-100) st5)))))))))) ∧ (r3 = (-100) → Q (-100) st2))))))
def wX11_row (b : Nat) (st : St) (Q : Int32 → St → Prop) : Prop :=
  (∀ x1 : Int32, x1 = (gI st (b + 2) 11) → (∃ n, lp (fun R s => wX11_row_L10 b R s.1 s.2.1 s.2.2 Q) n (x1, 1, st)))
theorem hdX11_row : yX11_row.cls = "PlankBridgeModel$Reader" ∧ yX11_row.cls ≠ "java/lang/invoke/MethodHandle" ∧ yX11_row.cls ≠ "java/lang/invoke/VarHandle" ∧ (parseMethodDescriptor yX11_row.desc).map (fun d => d.parameters.length) = some 0 := by decide +kernel
set_option maxHeartbeats 4000000 in
set_option maxRecDepth 100000 in
theorem tX11_row_L191 {l : Launch} {p : Program} {e : Env} {s : State} {m : MethodId} {args : Array Value} {below : List Frame} {meth : Method} {c : Code} {E : En0} {L : List Nat} (hL : Cov 54 77 L) (C : Cx E L "PlankBridgeModel$Reader" cX11_row 7 p s m args c) (hr : meth.sig.returnType = (some .int)) (hlk : meth.locks = false) {b : Nat} {Q : Int32 → St → Prop} (hb : kd b = 10) {R10 : Int32 × Int32 × St → Prop} (hR10 : ∀ (v1 : Int32) (v2 : Int32) (st : St), ∀ (H : Heap) (locs : List Loc) (ls : Array Slot), R10 (v1, v2, st) → lv_has ls 7 [(0, .ref (E.2.1 b)), (1, .int v1), (2, .int v2)] → va_P E.1 vwCl (wd E L st) H → va_S (fA E L s.heap.size) s.heap H locs → W p l e rmX11_row s m args below meth c H locs 0 0 (MQ below (zI E L Q (fA E L s.heap.size)) args s rmX11_row.cells rmX11_row.slots (fA E L s.heap.size)) (F0 m 10 ls [])) {v1 : Int32} {v2 : Int32}  {st : St} (H : Heap) (locs : List Loc) (ls : Array Slot) (h : wX11_row_L191 b R10 v1 v2 st Q) (hl : lv_has ls 7 [(0, .ref (E.2.1 b)), (1, .int v1), (2, .int v2)]) (hP : va_P E.1 vwCl (wd E L st) H) (hS : va_S (fA E L s.heap.size) s.heap H locs) : W p l e rmX11_row s m args below meth c H locs 0 0 (MQ below (zI E L Q (fA E L s.heap.size)) args s rmX11_row.cells rmX11_row.slots (fA E L s.heap.size)) (F0 m 191 ls []) := by
  unfold wX11_row_L191 at h
  refine lv_goto C.1 C.2.1 (tgt := 10) dX11_row_191 (by decide) ?_
  exact hR10 v1 v2 st _ _ _ h hl hP hS
set_option maxHeartbeats 4000000 in
set_option maxRecDepth 100000 in
theorem tX11_row_L169 {l : Launch} {p : Program} {e : Env} {s : State} {m : MethodId} {args : Array Value} {below : List Frame} {meth : Method} {c : Code} {E : En0} {L : List Nat} (hL : Cov 54 77 L) (C : Cx E L "PlankBridgeModel$Reader" cX11_row 7 p s m args c) (hr : meth.sig.returnType = (some .int)) (hlk : meth.locks = false) {b : Nat} {Q : Int32 → St → Prop} (hb : kd b = 10) {R10 : Int32 × Int32 × St → Prop} (hR10 : ∀ (v1 : Int32) (v2 : Int32) (st : St), ∀ (H : Heap) (locs : List Loc) (ls : Array Slot), R10 (v1, v2, st) → lv_has ls 7 [(0, .ref (E.2.1 b)), (1, .int v1), (2, .int v2)] → va_P E.1 vwCl (wd E L st) H → va_S (fA E L s.heap.size) s.heap H locs → W p l e rmX11_row s m args below meth c H locs 0 0 (MQ below (zI E L Q (fA E L s.heap.size)) args s rmX11_row.cells rmX11_row.slots (fA E L s.heap.size)) (F0 m 10 ls [])) {v1 : Int32} {v2 : Int32} {s0 : Int32} {s1 : Int32}  {st : St} (H : Heap) (locs : List Loc) (ls : Array Slot) (h : wX11_row_L169 b R10 v1 v2 s0 s1 st Q) (hl : lv_has ls 7 [(0, .ref (E.2.1 b)), (1, .int v1), (2, .int v2)]) (hP : va_P E.1 vwCl (wd E L st) H) (hS : va_S (fA E L s.heap.size) s.heap H locs) : W p l e rmX11_row s m args below meth c H locs 0 0 (MQ below (zI E L Q (fA E L s.heap.size)) args s rmX11_row.cells rmX11_row.slots (fA E L s.heap.size)) (F0 m 169 ls [.int s0, .int s1, .ref (E.2.1 (((b + 2) + 6)))]) := by
  unfold wX11_row_L169 at h
  obtain ⟨hi, h⟩ := h
  refine z_iast C hP hS (k9_6 (k10_2 hb)) (l9_6 (k10_2 hb)) (m9_6 (k10_2 hb) hL) hi dX11_row_169 (fun H locs hP hS => ?_)
  obtain ⟨st14, est14⟩ : ∃ z, z = uI st ((b + 2) + 6) (s1 : Int32).toNatClampNeg s0 := ⟨_, rfl⟩
  rw [← est14] at hP; have h := h st14 est14
  refine lv_aload_n C.1 C.2.1 dX11_row_170 rfl (lv_at hl 0 rfl) ?_
  refine gf10_0 C hP hb (m10 hb hL) q1438 dX11_row_171 ?_
  refine lv_dup C.1 C.2.1 dX11_row_174 rfl ?_
  refine gf9_11 C hP (k10_2 hb) (m10_2 hb hL) q1346 dX11_row_175 ?_
  refine lv_iconst C.1 C.2.1 (v := 1) dX11_row_178 rfl ?_
  refine lv_iadd C.1 C.2.1 dX11_row_179  ?_
  refine pf9_11 C hP hS (k10_2 hb) (m10_2 hb hL) q1346 dX11_row_180 (fun H locs hP hS => ?_)
  obtain ⟨st15, est15⟩ : ∃ z, z = uI st14 (b + 2) 11 ((gI st14 (b + 2) 11) + 1) := ⟨_, rfl⟩
  rw [← est15] at hP; have h := h st15 est15
  refine lv_iload_n C.1 C.2.1 dX11_row_183 rfl (lv_at hl 2 rfl) ?_
  refine lv_if_eq C.1 C.2.1 (tgt := 191) dX11_row_184 (by decide) (fun hc => ?_) (fun hc => ?_)
  · have h := h.1 hc
    exact tX11_row_L191 hL C hr hlk hb hR10 _ _ _ h hl hP hS
  · have h := h.2 hc
    refine lv_aload_n C.1 C.2.1 dX11_row_187 rfl (lv_at hl 0 rfl) ?_
    refine z_kv hS (z_runV (As := []) (rest := []) C hP hS (m10 hb hL) (e10 hb) rfl (tX11_next C.2.2.2.2.2.2.1 (hL.mo (Nat.le_of_ble_eq_true rfl) (Nat.le_of_ble_eq_true rfl)) hb h) q1492 q1494 q41 q124 q1495 hdX11_next ⟨Nat.le_of_ble_eq_true rfl, Nat.le_of_ble_eq_true rfl⟩ ⟨Nat.zero_le _, Nat.zero_le _⟩ rfl hl.1 rfl (lv_room (Nat.le_of_ble_eq_true rfl)) dX11_row_188) (fun st16 H locs h hP hS => ?_)
    exact tX11_row_L191 hL C hr hlk hb hR10 _ _ _ h hl hP hS
set_option maxHeartbeats 4000000 in
set_option maxRecDepth 100000 in
theorem tX11_row_L148 {l : Launch} {p : Program} {e : Env} {s : State} {m : MethodId} {args : Array Value} {below : List Frame} {meth : Method} {c : Code} {E : En0} {L : List Nat} (hL : Cov 54 77 L) (C : Cx E L "PlankBridgeModel$Reader" cX11_row 7 p s m args c) (hr : meth.sig.returnType = (some .int)) (hlk : meth.locks = false) {b : Nat} {Q : Int32 → St → Prop} (hb : kd b = 10) {R10 : Int32 × Int32 × St → Prop} (hR10 : ∀ (v1 : Int32) (v2 : Int32) (st : St), ∀ (H : Heap) (locs : List Loc) (ls : Array Slot), R10 (v1, v2, st) → lv_has ls 7 [(0, .ref (E.2.1 b)), (1, .int v1), (2, .int v2)] → va_P E.1 vwCl (wd E L st) H → va_S (fA E L s.heap.size) s.heap H locs → W p l e rmX11_row s m args below meth c H locs 0 0 (MQ below (zI E L Q (fA E L s.heap.size)) args s rmX11_row.cells rmX11_row.slots (fA E L s.heap.size)) (F0 m 10 ls [])) {v1 : Int32} {v6 : Int32} {s0 : Int32}  {st : St} (H : Heap) (locs : List Loc) (ls : Array Slot) (h : wX11_row_L148 b R10 v1 v6 s0 st Q) (hl : lv_has ls 7 [(0, .ref (E.2.1 b)), (1, .int v1), (6, .int v6)]) (hP : va_P E.1 vwCl (wd E L st) H) (hS : va_S (fA E L s.heap.size) s.heap H locs) : W p l e rmX11_row s m args below meth c H locs 0 0 (MQ below (zI E L Q (fA E L s.heap.size)) args s rmX11_row.cells rmX11_row.slots (fA E L s.heap.size)) (F0 m 148 ls [.int s0]) := by
  unfold wX11_row_L148 at h
  refine lv_istore_n C.1 C.2.1 dX11_row_148 rfl hl (Nat.le_of_ble_eq_true rfl) rfl (fun ls hl => ?_)
  have hl : lv_has ls 7 [(2, .int s0), (0, .ref (E.2.1 b)), (1, .int v1), (6, .int v6)] := hl
  refine lv_aload_n C.1 C.2.1 dX11_row_149 rfl (lv_at hl 1 rfl) ?_
  refine gf10_0 C hP hb (m10 hb hL) q1438 dX11_row_150 ?_
  refine gf9_10 C hP (k10_2 hb) (m10_2 hb hL) q1344 dX11_row_153 ?_
  refine lv_iload C.1 C.2.1 dX11_row_156 (lv_at hl 3 rfl) ?_
  refine lv_iconst C.1 C.2.1 (v := 3) dX11_row_158 rfl ?_
  refine lv_iadd C.1 C.2.1 dX11_row_159  ?_
  refine lv_iload_n C.1 C.2.1 dX11_row_160 rfl (lv_at hl 0 rfl) ?_
  refine lv_if_eq C.1 C.2.1 (tgt := 168) dX11_row_161 (by decide) (fun hc => ?_) (fun hc => ?_)
  · have h := h.1 hc
    refine lv_iconst C.1 C.2.1 (v := 1) dX11_row_168 rfl ?_
    exact tX11_row_L169 hL C hr hlk hb hR10 _ _ _ h (lv_sub hl [1, 2, 0] rfl) hP hS
  · have h := h.2 hc
    refine lv_iconst C.1 C.2.1 (v := 0) dX11_row_164 rfl ?_
    refine lv_goto C.1 C.2.1 (tgt := 169) dX11_row_165 (by decide) ?_
    exact tX11_row_L169 hL C hr hlk hb hR10 _ _ _ h (lv_sub hl [1, 2, 0] rfl) hP hS
set_option maxHeartbeats 4000000 in
set_option maxRecDepth 100000 in
theorem tX11_row_L63 {l : Launch} {p : Program} {e : Env} {s : State} {m : MethodId} {args : Array Value} {below : List Frame} {meth : Method} {c : Code} {E : En0} {L : List Nat} (hL : Cov 54 77 L) (C : Cx E L "PlankBridgeModel$Reader" cX11_row 7 p s m args c) (hr : meth.sig.returnType = (some .int)) (hlk : meth.locks = false) {b : Nat} {Q : Int32 → St → Prop} (hb : kd b = 10) {R10 : Int32 × Int32 × St → Prop} (hR10 : ∀ (v1 : Int32) (v2 : Int32) (st : St), ∀ (H : Heap) (locs : List Loc) (ls : Array Slot), R10 (v1, v2, st) → lv_has ls 7 [(0, .ref (E.2.1 b)), (1, .int v1), (2, .int v2)] → va_P E.1 vwCl (wd E L st) H → va_S (fA E L s.heap.size) s.heap H locs → W p l e rmX11_row s m args below meth c H locs 0 0 (MQ below (zI E L Q (fA E L s.heap.size)) args s rmX11_row.cells rmX11_row.slots (fA E L s.heap.size)) (F0 m 10 ls [])) {v1 : Int32} {v3 : Int32} {v4 : Int32}  {st : St} (H : Heap) (locs : List Loc) (ls : Array Slot) (h : wX11_row_L63 b R10 v1 v3 v4 st Q) (hl : lv_has ls 7 [(0, .ref (E.2.1 b)), (1, .int v1), (3, .int v3), (4, .int v4)]) (hP : va_P E.1 vwCl (wd E L st) H) (hS : va_S (fA E L s.heap.size) s.heap H locs) : W p l e rmX11_row s m args below meth c H locs 0 0 (MQ below (zI E L Q (fA E L s.heap.size)) args s rmX11_row.cells rmX11_row.slots (fA E L s.heap.size)) (F0 m 63 ls []) := by
  unfold wX11_row_L63 at h
  refine lv_aload_n C.1 C.2.1 dX11_row_63 rfl (lv_at hl 0 rfl) ?_
  refine z_kv hS (z_runV (As := []) (rest := []) C hP hS (m10 hb hL) (e10 hb) rfl (tX11_next C.2.2.2.2.2.2.1 (hL.mo (Nat.le_of_ble_eq_true rfl) (Nat.le_of_ble_eq_true rfl)) hb h) q1492 q1494 q41 q124 q1495 hdX11_next ⟨Nat.le_of_ble_eq_true rfl, Nat.le_of_ble_eq_true rfl⟩ ⟨Nat.zero_le _, Nat.zero_le _⟩ rfl hl.1 rfl (lv_room (Nat.le_of_ble_eq_true rfl)) dX11_row_64) (fun st7 H locs h hP hS => ?_)
  refine lv_aload_n C.1 C.2.1 dX11_row_67 rfl (lv_at hl 0 rfl) ?_
  refine z_ki hS (z_runV (As := []) (rest := []) C hP hS (m10 hb hL) (e10 hb) rfl (tX11_value C.2.2.2.2.2.2.1 (hL.mo (Nat.le_of_ble_eq_true rfl) (Nat.le_of_ble_eq_true rfl)) hb h) q1640 q1642 q63 q124 q1643 hdX11_value ⟨Nat.le_of_ble_eq_true rfl, Nat.le_of_ble_eq_true rfl⟩ ⟨Nat.zero_le _, Nat.zero_le _⟩ rfl hl.1 rfl (lv_room (Nat.le_of_ble_eq_true rfl)) dX11_row_68) (fun r9 st8 H locs h hP hS => ?_)
  refine lv_istore C.1 C.2.1 dX11_row_71 hl (Nat.le_of_ble_eq_true rfl) rfl (fun ls hl => ?_)
  have hl : lv_has ls 7 [(5, .int r9), (0, .ref (E.2.1 b)), (1, .int v1), (3, .int v3), (4, .int v4)] := hl
  refine lv_iload C.1 C.2.1 dX11_row_73 (lv_at hl 0 rfl) ?_
  refine lv_bipush C.1 C.2.1 (v := (-100)) dX11_row_75 rfl ?_
  refine lv_icmp_ne C.1 C.2.1 (tgt := 83) dX11_row_77 (by decide) (fun hc => ?_) (fun hc => ?_)
  · have h := h.1 hc
    refine lv_iconst C.1 C.2.1 (v := 4) dX11_row_83 rfl ?_
    refine lv_aload_n C.1 C.2.1 dX11_row_84 rfl (lv_at hl 1 rfl) ?_
    refine gf10_0 C hP hb (m10 hb hL) q1438 dX11_row_85 ?_
    refine gf9_11 C hP (k10_2 hb) (m10_2 hb hL) q1346 dX11_row_88 ?_
    refine lv_imul C.1 C.2.1 dX11_row_91  ?_
    refine lv_topi (fun x10 ex10 => ?_)
    have h := h x10 ex10
    refine lv_istore C.1 C.2.1 dX11_row_92 hl (Nat.le_of_ble_eq_true rfl) rfl (fun ls hl => ?_)
    have hl : lv_has ls 7 [(6, .int x10), (5, .int r9), (0, .ref (E.2.1 b)), (1, .int v1), (3, .int v3), (4, .int v4)] := hl
    refine lv_aload_n C.1 C.2.1 dX11_row_94 rfl (lv_at hl 2 rfl) ?_
    refine gf10_0 C hP hb (m10 hb hL) q1438 dX11_row_95 ?_
    refine gf9_10 C hP (k10_2 hb) (m10_2 hb hL) q1344 dX11_row_98 ?_
    refine lv_iload C.1 C.2.1 dX11_row_101 (lv_at hl 0 rfl) ?_
    refine lv_iload_n C.1 C.2.1 dX11_row_103 rfl (lv_at hl 4 rfl) ?_
    obtain ⟨hi, h⟩ := h
    refine z_iast C hP hS (k9_6 (k10_2 hb)) (l9_6 (k10_2 hb)) (m9_6 (k10_2 hb) hL) hi dX11_row_104 (fun H locs hP hS => ?_)
    obtain ⟨st11, est11⟩ : ∃ z, z = uI st8 ((b + 2) + 6) (x10 : Int32).toNatClampNeg v3 := ⟨_, rfl⟩
    rw [← est11] at hP; have h := h st11 est11
    refine lv_aload_n C.1 C.2.1 dX11_row_105 rfl (lv_at hl 2 rfl) ?_
    refine gf10_0 C hP hb (m10 hb hL) q1438 dX11_row_106 ?_
    refine gf9_10 C hP (k10_2 hb) (m10_2 hb hL) q1344 dX11_row_109 ?_
    refine lv_iload C.1 C.2.1 dX11_row_112 (lv_at hl 0 rfl) ?_
    refine lv_iconst C.1 C.2.1 (v := 1) dX11_row_114 rfl ?_
    refine lv_iadd C.1 C.2.1 dX11_row_115  ?_
    refine lv_iload C.1 C.2.1 dX11_row_116 (lv_at hl 5 rfl) ?_
    obtain ⟨hi, h⟩ := h
    refine z_iast C hP hS (k9_6 (k10_2 hb)) (l9_6 (k10_2 hb)) (m9_6 (k10_2 hb) hL) hi dX11_row_118 (fun H locs hP hS => ?_)
    obtain ⟨st12, est12⟩ : ∃ z, z = uI st11 ((b + 2) + 6) (x10 + 1 : Int32).toNatClampNeg v4 := ⟨_, rfl⟩
    rw [← est12] at hP; have h := h st12 est12
    refine lv_aload_n C.1 C.2.1 dX11_row_119 rfl (lv_at hl 2 rfl) ?_
    refine gf10_0 C hP hb (m10 hb hL) q1438 dX11_row_120 ?_
    refine gf9_10 C hP (k10_2 hb) (m10_2 hb hL) q1344 dX11_row_123 ?_
    refine lv_iload C.1 C.2.1 dX11_row_126 (lv_at hl 0 rfl) ?_
    refine lv_iconst C.1 C.2.1 (v := 2) dX11_row_128 rfl ?_
    refine lv_iadd C.1 C.2.1 dX11_row_129  ?_
    refine lv_iload C.1 C.2.1 dX11_row_130 (lv_at hl 1 rfl) ?_
    obtain ⟨hi, h⟩ := h
    refine z_iast C hP hS (k9_6 (k10_2 hb)) (l9_6 (k10_2 hb)) (m9_6 (k10_2 hb) hL) hi dX11_row_132 (fun H locs hP hS => ?_)
    obtain ⟨st13, est13⟩ : ∃ z, z = uI st12 ((b + 2) + 6) (x10 + 2 : Int32).toNatClampNeg r9 := ⟨_, rfl⟩
    rw [← est13] at hP; have h := h st13 est13
    refine lv_aload_n C.1 C.2.1 dX11_row_133 rfl (lv_at hl 2 rfl) ?_
    refine gf10_6 C hP hb (m10 hb hL) q1445 dX11_row_134 ?_
    refine lv_sipush C.1 C.2.1 (v := 214) dX11_row_137 rfl ?_
    refine lv_icmp_ne C.1 C.2.1 (tgt := 147) dX11_row_140 (by decide) (fun hc => ?_) (fun hc => ?_)
    · have h := h.1 hc
      refine lv_iconst C.1 C.2.1 (v := 0) dX11_row_147 rfl ?_
      exact tX11_row_L148 hL C hr hlk hb hR10 _ _ _ h (lv_sub hl [2, 3, 0] rfl) hP hS
    · have h := h.2 hc
      refine lv_iconst C.1 C.2.1 (v := 1) dX11_row_143 rfl ?_
      refine lv_goto C.1 C.2.1 (tgt := 148) dX11_row_144 (by decide) ?_
      exact tX11_row_L148 hL C hr hlk hb hR10 _ _ _ h (lv_sub hl [2, 3, 0] rfl) hP hS
  · have h := h.2 hc
    refine lv_bipush C.1 C.2.1 (v := (-100)) dX11_row_80 rfl ?_
    exact z_ri C hr hlk rfl hP hS h dX11_row_82
set_option maxHeartbeats 4000000 in
set_option maxRecDepth 100000 in
theorem tX11_row_L10 {l : Launch} {p : Program} {e : Env} {s : State} {m : MethodId} {args : Array Value} {below : List Frame} {meth : Method} {c : Code} {E : En0} {L : List Nat} (hL : Cov 54 77 L) (C : Cx E L "PlankBridgeModel$Reader" cX11_row 7 p s m args c) (hr : meth.sig.returnType = (some .int)) (hlk : meth.locks = false) {b : Nat} {Q : Int32 → St → Prop} (hb : kd b = 10) : ∀ (n : Nat) (v1 : Int32) (v2 : Int32) (st : St) (H : Heap) (locs : List Loc) (ls : Array Slot), lp (fun R s => wX11_row_L10 b R s.1 s.2.1 s.2.2 Q) n (v1, v2, st) → lv_has ls 7 [(0, .ref (E.2.1 b)), (1, .int v1), (2, .int v2)] → va_P E.1 vwCl (wd E L st) H → va_S (fA E L s.heap.size) s.heap H locs → W p l e rmX11_row s m args below meth c H locs 0 0 (MQ below (zI E L Q (fA E L s.heap.size)) args s rmX11_row.cells rmX11_row.slots (fA E L s.heap.size)) (F0 m 10 ls []) := by
  intro n
  induction n with
  | zero => exact fun _ _ _ _ _ _ h _ _ _ => False.elim ‹_›
  | succ n ih =>
    intro v1 v2 st  H locs ls h hl hP hS
    have hR10 := ih
    replace h : wX11_row_L10 b (lp (fun R s => wX11_row_L10 b R s.1 s.2.1 s.2.2 Q) n) v1 v2 st Q := h
    unfold wX11_row_L10 at h
    refine lv_iload_n C.1 C.2.1 dX11_row_10 rfl (lv_at hl 2 rfl) ?_
    refine lv_if_eq C.1 C.2.1 (tgt := 194) dX11_row_11 (by decide) (fun hc => ?_) (fun hc => ?_)
    · have h := h.1 hc
      refine lv_iload_n C.1 C.2.1 dX11_row_194 rfl (lv_at hl 1 rfl) ?_
      exact z_ri C hr hlk rfl hP hS h dX11_row_195
    · have h := h.2 hc
      refine lv_aload_n C.1 C.2.1 dX11_row_14 rfl (lv_at hl 0 rfl) ?_
      refine z_ki hS (z_runV (As := []) (rest := []) C hP hS (m10 hb hL) (e10 hb) rfl (tX11_value C.2.2.2.2.2.2.1 (hL.mo (Nat.le_of_ble_eq_true rfl) (Nat.le_of_ble_eq_true rfl)) hb h) q1640 q1642 q63 q124 q1643 hdX11_value ⟨Nat.le_of_ble_eq_true rfl, Nat.le_of_ble_eq_true rfl⟩ ⟨Nat.zero_le _, Nat.zero_le _⟩ rfl hl.1 rfl (lv_room (Nat.le_of_ble_eq_true rfl)) dX11_row_15) (fun r3 st2 H locs h hP hS => ?_)
      refine lv_istore_n C.1 C.2.1 dX11_row_18 rfl hl (Nat.le_of_ble_eq_true rfl) rfl (fun ls hl => ?_)
      have hl : lv_has ls 7 [(3, .int r3), (0, .ref (E.2.1 b)), (1, .int v1), (2, .int v2)] := hl
      refine lv_iload_n C.1 C.2.1 dX11_row_19 rfl (lv_at hl 0 rfl) ?_
      refine lv_bipush C.1 C.2.1 (v := (-100)) dX11_row_20 rfl ?_
      refine lv_icmp_ne C.1 C.2.1 (tgt := 28) dX11_row_22 (by decide) (fun hc => ?_) (fun hc => ?_)
      · have h := h.1 hc
        refine lv_aload_n C.1 C.2.1 dX11_row_28 rfl (lv_at hl 1 rfl) ?_
        refine gf10_6 C hP hb (m10 hb hL) q1445 dX11_row_29 ?_
        refine lv_topi (fun x4 ex4 => ?_)
        have h := h x4 ex4
        refine lv_istore C.1 C.2.1 dX11_row_32 hl (Nat.le_of_ble_eq_true rfl) rfl (fun ls hl => ?_)
        have hl : lv_has ls 7 [(4, .int x4), (3, .int r3), (0, .ref (E.2.1 b)), (1, .int v1), (2, .int v2)] := hl
        refine lv_iload C.1 C.2.1 dX11_row_34 (lv_at hl 0 rfl) ?_
        refine lv_bipush C.1 C.2.1 (v := 60) dX11_row_36 rfl ?_
        refine lv_icmp_eq C.1 C.2.1 (tgt := 63) dX11_row_38 (by decide) (fun hc => ?_) (fun hc => ?_)
        · have h := h.1 hc
          exact tX11_row_L63 hL C hr hlk hb hR10 _ _ _ h (lv_sub hl [2, 3, 1, 0] rfl) hP hS
        · have h := h.2 hc
          refine lv_iload C.1 C.2.1 dX11_row_41 (lv_at hl 0 rfl) ?_
          refine lv_bipush C.1 C.2.1 (v := 62) dX11_row_43 rfl ?_
          refine lv_icmp_eq C.1 C.2.1 (tgt := 63) dX11_row_45 (by decide) (fun hc => ?_) (fun hc => ?_)
          · have h := h.1 hc
            exact tX11_row_L63 hL C hr hlk hb hR10 _ _ _ h (lv_sub hl [2, 3, 1, 0] rfl) hP hS
          · have h := h.2 hc
            refine lv_iload C.1 C.2.1 dX11_row_48 (lv_at hl 0 rfl) ?_
            refine lv_bipush C.1 C.2.1 (v := 61) dX11_row_50 rfl ?_
            refine lv_icmp_eq C.1 C.2.1 (tgt := 63) dX11_row_52 (by decide) (fun hc => ?_) (fun hc => ?_)
            · have h := h.1 hc
              exact tX11_row_L63 hL C hr hlk hb hR10 _ _ _ h (lv_sub hl [2, 3, 1, 0] rfl) hP hS
            · have h := h.2 hc
              refine lv_aload_n C.1 C.2.1 dX11_row_55 rfl (lv_at hl 2 rfl) ?_
              refine z_ki hS (z_runV (As := []) (rest := []) C hP hS (m10 hb hL) (e10 hb) rfl (tX11_wrong C.2.2.2.2.2.2.1 (hL.mo (Nat.le_of_ble_eq_true rfl) (Nat.le_of_ble_eq_true rfl)) hb h) q1576 q1578 q49 q124 q1579 hdX11_wrong ⟨Nat.le_of_ble_eq_true rfl, Nat.le_of_ble_eq_true rfl⟩ ⟨Nat.zero_le _, Nat.zero_le _⟩ rfl hl.1 rfl (lv_room (Nat.le_of_ble_eq_true rfl)) dX11_row_56) (fun r6 st5 H locs h hP hS => ?_)
              obtain ⟨hr6, h⟩ := h
              refine lv_pop C.1 C.2.1 dX11_row_59 rfl ?_
              refine lv_bipush C.1 C.2.1 (v := (-100)) dX11_row_60 rfl ?_
              exact z_ri C hr hlk rfl hP hS h dX11_row_62
      · have h := h.2 hc
        refine lv_bipush C.1 C.2.1 (v := (-100)) dX11_row_25 rfl ?_
        exact z_ri C hr hlk rfl hP hS h dX11_row_27
set_option maxHeartbeats 4000000 in
set_option maxRecDepth 100000 in
theorem tX11_row {l : Launch} {E : En0} {L : List Nat} (hE : EK E L) (hL : Cov 54 77 L) {b : Nat} {st : St} {Q : Int32 → St → Prop} (hb : kd b = 10) (h : wX11_row b st Q) : Mz l yX11_row cX11_row 7 (some .int) rmX11_row E L [.ref (E.2.1 b)] st (zI E L Q) := by
  refine Mz.of hE (by decide) (Nat.le_of_ble_eq_true rfl) ?_
  intro p e s m below meth c ls C hr hlk _ hl hP
  replace C : Cx E L "PlankBridgeModel$Reader" cX11_row 7 p s m _ c := C
  have hS : va_S (fA E L s.heap.size) s.heap s.heap [] := va_S.rf
  replace hl : lv_has ls 7 [(0, .ref (E.2.1 b))] := hl
  unfold wX11_row at h
  refine lv_aload_n C.1 C.2.1 dX11_row_0 rfl (lv_at hl 0 rfl) ?_
  refine gf10_0 C hP hb (m10 hb hL) q1438 dX11_row_1 ?_
  refine gf9_11 C hP (k10_2 hb) (m10_2 hb hL) q1346 dX11_row_4 ?_
  refine lv_topi (fun x1 ex1 => ?_)
  have h := h x1 ex1
  refine lv_istore_n C.1 C.2.1 dX11_row_7 rfl hl (Nat.le_of_ble_eq_true rfl) rfl (fun ls hl => ?_)
  have hl : lv_has ls 7 [(1, .int x1), (0, .ref (E.2.1 b))] := hl
  refine lv_iconst C.1 C.2.1 (v := 1) dX11_row_8 rfl ?_
  refine lv_istore_n C.1 C.2.1 dX11_row_9 rfl hl (Nat.le_of_ble_eq_true rfl) rfl (fun ls hl => ?_)
  have hl : lv_has ls 7 [(2, .int 1), (1, .int x1), (0, .ref (E.2.1 b))] := hl
  obtain ⟨n, h⟩ := h
  exact tX11_row_L10 hL C hr hlk hb n x1 1 st _ _ _ h (lv_sub hl [2, 1, 0] rfl) hP hS

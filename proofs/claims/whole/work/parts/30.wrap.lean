def rmL_feed : Room := { frames := 7, cells := 1, slots := 6, locals := 115 }
def wL_feed (p1 : Nat) (p2 : Int32) (p3 : Int32) (p4 : Int32) (p5 : Int32) (p6 : Int32) (p7 : Nat) (st : St) (Q : Int32 → St → Prop) : Prop :=
  (wX9_feed p1 p2 p3 p4 p5 p6 st (fun r1 st2 => (vp_in 0 1 ∧ ∀ st4, st4 = uJ st2 p7 (0 : Int32).toNatClampNeg ((r1 : Int32).toInt64) → Q 0 st4)) (fun cls u9 => cls = "java/lang/IllegalStateException" ∧ Q 1 u9))
theorem hdL_feed : yL_feed.cls ≠ "java/lang/invoke/MethodHandle" ∧ yL_feed.cls ≠ "java/lang/invoke/VarHandle" ∧ (parseMethodDescriptor yL_feed.desc).map (fun d => d.parameters.length) = some 7 := by decide +kernel
set_option maxHeartbeats 4000000 in
set_option maxRecDepth 100000 in
theorem tL_feed {l : Launch} {E : En0} {L : List Nat} (hE : EK E L) (hL : Cov 0 68 L) {p1 : Nat} {p2 : Int32} {p3 : Int32} {p4 : Int32} {p5 : Int32} {p6 : Int32} {p7 : Nat} {st : St} {Q : Int32 → St → Prop} (hp1 : kd p1 = 8) (hp7 : kd p7 = 23) (lp7 : ln p7 = 1) (mp7 : p7 ∈ L) (hfl : l.stackTraces = false) (h : wL_feed p1 p2 p3 p4 p5 p6 p7 st Q) : Mw l yL_feed cL_feed 8 (some .int) [(0, 16, 19, 13)] rmL_feed E L [.ref (E.2.1 p1), .int p2, .int p3, .int p4, .int p5, .int p6, .ref (E.2.1 p7)] st (zI E L Q) := by
  refine Mw.of hE (by decide) (Nat.le_of_ble_eq_true rfl) ?_
  intro p e s m below meth c ls C hr hlk htab hNC hl hP
  replace C : Cx E L "PlankBridgeLaw" cL_feed 8 p s m _ c := C
  have hS : va_S (fA E L s.heap.size) s.heap s.heap [] := va_S.rf
  replace hl : lv_has ls 8 [(0, .ref (E.2.1 p1)), (1, .int p2), (2, .int p3), (3, .int p4), (4, .int p5), (5, .int p6), (6, .ref (E.2.1 p7))] := hl
  unfold wL_feed at h
  refine lv_aload C.1 C.2.1 dL_feed_0 (lv_at hl 6 rfl) ?_
  refine lv_iconst C.1 C.2.1 (v := 0) dL_feed_2 rfl ?_
  refine lv_aload_n C.1 C.2.1 dL_feed_3 rfl (lv_at hl 0 rfl) ?_
  refine lv_iload_n C.1 C.2.1 dL_feed_4 rfl (lv_at hl 1 rfl) ?_
  refine lv_iload_n C.1 C.2.1 dL_feed_5 rfl (lv_at hl 2 rfl) ?_
  refine lv_iload_n C.1 C.2.1 dL_feed_6 rfl (lv_at hl 3 rfl) ?_
  refine lv_iload C.1 C.2.1 dL_feed_7 (lv_at hl 4 rfl) ?_
  refine lv_iload C.1 C.2.1 dL_feed_9 (lv_at hl 5 rfl) ?_
  refine z_kiw hS (z_runVx (As := [.int p2, .int p3, .int p4, .int p5, .int p6]) (rest := [.int 0, .ref (E.2.1 p7)]) C hP hS (m8 hp1 (hL.mo (Nat.le_of_ble_eq_true rfl) (Nat.le_of_ble_eq_true rfl))) (e8 hp1) rfl (tX9_feed C.2.2.2.2.2.2.1 (hL.mo (Nat.le_of_ble_eq_true rfl) (Nat.le_of_ble_eq_true rfl)) hp1 hfl h) q849 q850 q851 q105 q852 hdX9_feed ⟨Nat.le_of_ble_eq_true rfl, Nat.le_of_ble_eq_true rfl⟩ ⟨Nat.le_of_ble_eq_true rfl, Nat.le_of_ble_eq_true rfl⟩ rfl hl.1 rfl (lv_room (Nat.le_of_ble_eq_true rfl)) dL_feed_11) (fun Ex ce q9 st3 H locs h hP hS hce hcv hcl => ?_) (fun r1 st2 H locs h hP hS => ?_)
  · obtain ⟨rfl, h⟩ := h
    refine vx_catch (name := "java/lang/IllegalStateException") C.2.2.2.1 [] ⟨0, 16, 19, 13⟩ [] (htab.trans rfl) (fun z hz => absurd hz List.not_mem_nil) rfl (by decide) (C.T q848) (va_Nw.use rfl (C.NE9.1 _ q859 rfl)) hce hcv hcl ?_
    refine lv_astore C.1 C.2.1 dL_feed_19 hl (Nat.le_of_ble_eq_true rfl) rfl (fun ls hl => ?_)
    have hl : lv_has ls 8 [(7, .ref q9), (0, .ref (E.2.1 p1)), (1, .int p2), (2, .int p3), (3, .int p4), (4, .int p5), (5, .int p6), (6, .ref (E.2.1 p7))] := hl
    refine lv_iconst C.1 C.2.1 (v := 1) dL_feed_21 rfl ?_
    refine W.widen (k := rmL_feed.cells) (n := rmL_feed.slots) (Nat.le_of_ble_eq_true rfl) (Nat.le_of_ble_eq_true rfl) ?_
    exact z_ri C hr hlk rfl hP hS h dL_feed_22
  · skip
    refine t_i2l C.1 C.2.1 dL_feed_14 rfl ?_
    obtain ⟨hi, h⟩ := h
    refine z_last C hP hS hp7 lp7 mp7 hi dL_feed_15 (fun H locs hP hS => ?_)
    obtain ⟨st4, est4⟩ : ∃ z, z = uJ st2 p7 (0 : Int32).toNatClampNeg ((r1 : Int32).toInt64) := ⟨_, rfl⟩
    rw [← est4] at hP; have h := h st4 est4
    refine lv_goto C.1 C.2.1 (tgt := 23) dL_feed_16 (by decide) ?_
    refine lv_iconst C.1 C.2.1 (v := 0) dL_feed_23 rfl ?_
    refine W.widen (k := rmL_feed.cells) (n := rmL_feed.slots) (Nat.le_of_ble_eq_true rfl) (Nat.le_of_ble_eq_true rfl) ?_
    exact z_ri C hr hlk rfl hP hS h dL_feed_24
def rmL_trim : Room := { frames := 7, cells := 1, slots := 6, locals := 111 }
def wL_trim (p1 : Nat) (p2 : Int32) (p3 : Nat) (st : St) (Q : Int32 → St → Prop) : Prop :=
  (wX9_trim p1 p2 st (fun r1 st2 => (vp_in 0 1 ∧ ∀ st4, st4 = uJ st2 p3 (0 : Int32).toNatClampNeg ((r1 : Int32).toInt64) → Q 0 st4)) (fun cls u9 => cls = "java/lang/IllegalArgumentException" ∧ Q 1 u9))
theorem hdL_trim : yL_trim.cls ≠ "java/lang/invoke/MethodHandle" ∧ yL_trim.cls ≠ "java/lang/invoke/VarHandle" ∧ (parseMethodDescriptor yL_trim.desc).map (fun d => d.parameters.length) = some 3 := by decide +kernel
set_option maxHeartbeats 4000000 in
set_option maxRecDepth 100000 in
theorem tL_trim {l : Launch} {E : En0} {L : List Nat} (hE : EK E L) (hL : Cov 0 68 L) {p1 : Nat} {p2 : Int32} {p3 : Nat} {st : St} {Q : Int32 → St → Prop} (hp1 : kd p1 = 8) (hp3 : kd p3 = 23) (lp3 : ln p3 = 1) (mp3 : p3 ∈ L) (hfl : l.stackTraces = false) (h : wL_trim p1 p2 p3 st Q) : Mw l yL_trim cL_trim 4 (some .int) [(0, 9, 12, 19)] rmL_trim E L [.ref (E.2.1 p1), .int p2, .ref (E.2.1 p3)] st (zI E L Q) := by
  refine Mw.of hE (by decide) (Nat.le_of_ble_eq_true rfl) ?_
  intro p e s m below meth c ls C hr hlk htab hNC hl hP
  replace C : Cx E L "PlankBridgeLaw" cL_trim 4 p s m _ c := C
  have hS : va_S (fA E L s.heap.size) s.heap s.heap [] := va_S.rf
  replace hl : lv_has ls 4 [(0, .ref (E.2.1 p1)), (1, .int p2), (2, .ref (E.2.1 p3))] := hl
  unfold wL_trim at h
  refine lv_aload_n C.1 C.2.1 dL_trim_0 rfl (lv_at hl 2 rfl) ?_
  refine lv_iconst C.1 C.2.1 (v := 0) dL_trim_1 rfl ?_
  refine lv_aload_n C.1 C.2.1 dL_trim_2 rfl (lv_at hl 0 rfl) ?_
  refine lv_iload_n C.1 C.2.1 dL_trim_3 rfl (lv_at hl 1 rfl) ?_
  refine z_kiw hS (z_runVx (As := [.int p2]) (rest := [.int 0, .ref (E.2.1 p3)]) C hP hS (m8 hp1 (hL.mo (Nat.le_of_ble_eq_true rfl) (Nat.le_of_ble_eq_true rfl))) (e8 hp1) rfl (tX9_trim C.2.2.2.2.2.2.1 (hL.mo (Nat.le_of_ble_eq_true rfl) (Nat.le_of_ble_eq_true rfl)) hp1 hfl h) q932 q933 q934 q105 q935 hdX9_trim ⟨Nat.le_of_ble_eq_true rfl, Nat.le_of_ble_eq_true rfl⟩ ⟨Nat.le_of_ble_eq_true rfl, Nat.le_of_ble_eq_true rfl⟩ rfl hl.1 rfl (lv_room (Nat.le_of_ble_eq_true rfl)) dL_trim_4) (fun Ex ce q9 st3 H locs h hP hS hce hcv hcl => ?_) (fun r1 st2 H locs h hP hS => ?_)
  · obtain ⟨rfl, h⟩ := h
    refine vx_catch (name := "java/lang/IllegalArgumentException") C.2.2.2.1 [] ⟨0, 9, 12, 19⟩ [] (htab.trans rfl) (fun z hz => absurd hz List.not_mem_nil) rfl (by decide) (C.T q931) (va_Nw.use rfl (C.NE9.1 _ q938 rfl)) hce hcv hcl ?_
    refine lv_astore_n C.1 C.2.1 dL_trim_12 rfl hl (Nat.le_of_ble_eq_true rfl) rfl (fun ls hl => ?_)
    have hl : lv_has ls 4 [(3, .ref q9), (0, .ref (E.2.1 p1)), (1, .int p2), (2, .ref (E.2.1 p3))] := hl
    refine lv_iconst C.1 C.2.1 (v := 1) dL_trim_13 rfl ?_
    refine W.widen (k := rmL_trim.cells) (n := rmL_trim.slots) (Nat.le_of_ble_eq_true rfl) (Nat.le_of_ble_eq_true rfl) ?_
    exact z_ri C hr hlk rfl hP hS h dL_trim_14
  · skip
    refine t_i2l C.1 C.2.1 dL_trim_7 rfl ?_
    obtain ⟨hi, h⟩ := h
    refine z_last C hP hS hp3 lp3 mp3 hi dL_trim_8 (fun H locs hP hS => ?_)
    obtain ⟨st4, est4⟩ : ∃ z, z = uJ st2 p3 (0 : Int32).toNatClampNeg ((r1 : Int32).toInt64) := ⟨_, rfl⟩
    rw [← est4] at hP; have h := h st4 est4
    refine lv_goto C.1 C.2.1 (tgt := 15) dL_trim_9 (by decide) ?_
    refine lv_iconst C.1 C.2.1 (v := 0) dL_trim_15 rfl ?_
    refine W.widen (k := rmL_trim.cells) (n := rmL_trim.slots) (Nat.le_of_ble_eq_true rfl) (Nat.le_of_ble_eq_true rfl) ?_
    exact z_ri C hr hlk rfl hP hS h dL_trim_16
def rmL_weightOf : Room := { frames := 8, cells := 1, slots := 6, locals := 132 }
def wL_weightOf (p1 : Nat) (p2 : Int32) (p3 : Nat) (st : St) (Q : Int32 → St → Prop) : Prop :=
  (wX9_weightOf p1 p2 st (fun r1 st2 => (vp_in 0 1 ∧ ∀ st4, st4 = uJ st2 p3 (0 : Int32).toNatClampNeg ((r1 : Int32).toInt64) → Q 0 st4)) (fun cls u9 => cls = "java/lang/IndexOutOfBoundsException" ∧ Q 1 u9))
theorem hdL_weightOf : yL_weightOf.cls ≠ "java/lang/invoke/MethodHandle" ∧ yL_weightOf.cls ≠ "java/lang/invoke/VarHandle" ∧ (parseMethodDescriptor yL_weightOf.desc).map (fun d => d.parameters.length) = some 3 := by decide +kernel
set_option maxHeartbeats 4000000 in
set_option maxRecDepth 100000 in
theorem tL_weightOf {l : Launch} {E : En0} {L : List Nat} (hE : EK E L) (hL : Cov 0 68 L) {p1 : Nat} {p2 : Int32} {p3 : Nat} {st : St} {Q : Int32 → St → Prop} (hp1 : kd p1 = 8) (hp3 : kd p3 = 23) (lp3 : ln p3 = 1) (mp3 : p3 ∈ L) (hfl : l.stackTraces = false) (h : wL_weightOf p1 p2 p3 st Q) : Mw l yL_weightOf cL_weightOf 4 (some .int) [(0, 9, 12, 24)] rmL_weightOf E L [.ref (E.2.1 p1), .int p2, .ref (E.2.1 p3)] st (zI E L Q) := by
  refine Mw.of hE (by decide) (Nat.le_of_ble_eq_true rfl) ?_
  intro p e s m below meth c ls C hr hlk htab hNC hl hP
  replace C : Cx E L "PlankBridgeLaw" cL_weightOf 4 p s m _ c := C
  have hS : va_S (fA E L s.heap.size) s.heap s.heap [] := va_S.rf
  replace hl : lv_has ls 4 [(0, .ref (E.2.1 p1)), (1, .int p2), (2, .ref (E.2.1 p3))] := hl
  unfold wL_weightOf at h
  refine lv_aload_n C.1 C.2.1 dL_weightOf_0 rfl (lv_at hl 2 rfl) ?_
  refine lv_iconst C.1 C.2.1 (v := 0) dL_weightOf_1 rfl ?_
  refine lv_aload_n C.1 C.2.1 dL_weightOf_2 rfl (lv_at hl 0 rfl) ?_
  refine lv_iload_n C.1 C.2.1 dL_weightOf_3 rfl (lv_at hl 1 rfl) ?_
  refine z_kiw hS (z_runVx (As := [.int p2]) (rest := [.int 0, .ref (E.2.1 p3)]) C hP hS (m8 hp1 (hL.mo (Nat.le_of_ble_eq_true rfl) (Nat.le_of_ble_eq_true rfl))) (e8 hp1) rfl (tX9_weightOf C.2.2.2.2.2.2.1 (hL.mo (Nat.le_of_ble_eq_true rfl) (Nat.le_of_ble_eq_true rfl)) hp1 hfl h) q956 q957 q958 q105 q959 hdX9_weightOf ⟨Nat.le_of_ble_eq_true rfl, Nat.le_of_ble_eq_true rfl⟩ ⟨Nat.le_of_ble_eq_true rfl, Nat.le_of_ble_eq_true rfl⟩ rfl hl.1 rfl (lv_room (Nat.le_of_ble_eq_true rfl)) dL_weightOf_4) (fun Ex ce q9 st3 H locs h hP hS hce hcv hcl => ?_) (fun r1 st2 H locs h hP hS => ?_)
  · obtain ⟨rfl, h⟩ := h
    refine vx_catch (name := "java/lang/IndexOutOfBoundsException") C.2.2.2.1 [] ⟨0, 9, 12, 24⟩ [] (htab.trans rfl) (fun z hz => absurd hz List.not_mem_nil) rfl (by decide) (C.T q955) (va_Nw.use rfl (C.NE9.1 _ q966 rfl)) hce hcv hcl ?_
    refine lv_astore_n C.1 C.2.1 dL_weightOf_12 rfl hl (Nat.le_of_ble_eq_true rfl) rfl (fun ls hl => ?_)
    have hl : lv_has ls 4 [(3, .ref q9), (0, .ref (E.2.1 p1)), (1, .int p2), (2, .ref (E.2.1 p3))] := hl
    refine lv_iconst C.1 C.2.1 (v := 1) dL_weightOf_13 rfl ?_
    refine W.widen (k := rmL_weightOf.cells) (n := rmL_weightOf.slots) (Nat.le_of_ble_eq_true rfl) (Nat.le_of_ble_eq_true rfl) ?_
    exact z_ri C hr hlk rfl hP hS h dL_weightOf_14
  · skip
    refine t_i2l C.1 C.2.1 dL_weightOf_7 rfl ?_
    obtain ⟨hi, h⟩ := h
    refine z_last C hP hS hp3 lp3 mp3 hi dL_weightOf_8 (fun H locs hP hS => ?_)
    obtain ⟨st4, est4⟩ : ∃ z, z = uJ st2 p3 (0 : Int32).toNatClampNeg ((r1 : Int32).toInt64) := ⟨_, rfl⟩
    rw [← est4] at hP; have h := h st4 est4
    refine lv_goto C.1 C.2.1 (tgt := 15) dL_weightOf_9 (by decide) ?_
    refine lv_iconst C.1 C.2.1 (v := 0) dL_weightOf_15 rfl ?_
    refine W.widen (k := rmL_weightOf.cells) (n := rmL_weightOf.slots) (Nat.le_of_ble_eq_true rfl) (Nat.le_of_ble_eq_true rfl) ?_
    exact z_ri C hr hlk rfl hP hS h dL_weightOf_16
def rmL_minutesOf : Room := { frames := 8, cells := 1, slots := 6, locals := 132 }
def wL_minutesOf (p1 : Nat) (p2 : Int32) (p3 : Nat) (st : St) (Q : Int32 → St → Prop) : Prop :=
  (wX9_minutesOf p1 p2 st (fun r1 st2 => (vp_in 0 1 ∧ ∀ st4, st4 = uJ st2 p3 (0 : Int32).toNatClampNeg ((r1 : Int32).toInt64) → Q 0 st4)) (fun cls u9 => cls = "java/lang/IndexOutOfBoundsException" ∧ Q 1 u9))
theorem hdL_minutesOf : yL_minutesOf.cls ≠ "java/lang/invoke/MethodHandle" ∧ yL_minutesOf.cls ≠ "java/lang/invoke/VarHandle" ∧ (parseMethodDescriptor yL_minutesOf.desc).map (fun d => d.parameters.length) = some 3 := by decide +kernel
set_option maxHeartbeats 4000000 in
set_option maxRecDepth 100000 in
theorem tL_minutesOf {l : Launch} {E : En0} {L : List Nat} (hE : EK E L) (hL : Cov 0 68 L) {p1 : Nat} {p2 : Int32} {p3 : Nat} {st : St} {Q : Int32 → St → Prop} (hp1 : kd p1 = 8) (hp3 : kd p3 = 23) (lp3 : ln p3 = 1) (mp3 : p3 ∈ L) (hfl : l.stackTraces = false) (h : wL_minutesOf p1 p2 p3 st Q) : Mw l yL_minutesOf cL_minutesOf 4 (some .int) [(0, 9, 12, 24)] rmL_minutesOf E L [.ref (E.2.1 p1), .int p2, .ref (E.2.1 p3)] st (zI E L Q) := by
  refine Mw.of hE (by decide) (Nat.le_of_ble_eq_true rfl) ?_
  intro p e s m below meth c ls C hr hlk htab hNC hl hP
  replace C : Cx E L "PlankBridgeLaw" cL_minutesOf 4 p s m _ c := C
  have hS : va_S (fA E L s.heap.size) s.heap s.heap [] := va_S.rf
  replace hl : lv_has ls 4 [(0, .ref (E.2.1 p1)), (1, .int p2), (2, .ref (E.2.1 p3))] := hl
  unfold wL_minutesOf at h
  refine lv_aload_n C.1 C.2.1 dL_minutesOf_0 rfl (lv_at hl 2 rfl) ?_
  refine lv_iconst C.1 C.2.1 (v := 0) dL_minutesOf_1 rfl ?_
  refine lv_aload_n C.1 C.2.1 dL_minutesOf_2 rfl (lv_at hl 0 rfl) ?_
  refine lv_iload_n C.1 C.2.1 dL_minutesOf_3 rfl (lv_at hl 1 rfl) ?_
  refine z_kiw hS (z_runVx (As := [.int p2]) (rest := [.int 0, .ref (E.2.1 p3)]) C hP hS (m8 hp1 (hL.mo (Nat.le_of_ble_eq_true rfl) (Nat.le_of_ble_eq_true rfl))) (e8 hp1) rfl (tX9_minutesOf C.2.2.2.2.2.2.1 (hL.mo (Nat.le_of_ble_eq_true rfl) (Nat.le_of_ble_eq_true rfl)) hp1 hfl h) q983 q984 q985 q105 q986 hdX9_minutesOf ⟨Nat.le_of_ble_eq_true rfl, Nat.le_of_ble_eq_true rfl⟩ ⟨Nat.le_of_ble_eq_true rfl, Nat.le_of_ble_eq_true rfl⟩ rfl hl.1 rfl (lv_room (Nat.le_of_ble_eq_true rfl)) dL_minutesOf_4) (fun Ex ce q9 st3 H locs h hP hS hce hcv hcl => ?_) (fun r1 st2 H locs h hP hS => ?_)
  · obtain ⟨rfl, h⟩ := h
    refine vx_catch (name := "java/lang/IndexOutOfBoundsException") C.2.2.2.1 [] ⟨0, 9, 12, 24⟩ [] (htab.trans rfl) (fun z hz => absurd hz List.not_mem_nil) rfl (by decide) (C.T q955) (va_Nw.use rfl (C.NE9.1 _ q966 rfl)) hce hcv hcl ?_
    refine lv_astore_n C.1 C.2.1 dL_minutesOf_12 rfl hl (Nat.le_of_ble_eq_true rfl) rfl (fun ls hl => ?_)
    have hl : lv_has ls 4 [(3, .ref q9), (0, .ref (E.2.1 p1)), (1, .int p2), (2, .ref (E.2.1 p3))] := hl
    refine lv_iconst C.1 C.2.1 (v := 1) dL_minutesOf_13 rfl ?_
    refine W.widen (k := rmL_minutesOf.cells) (n := rmL_minutesOf.slots) (Nat.le_of_ble_eq_true rfl) (Nat.le_of_ble_eq_true rfl) ?_
    exact z_ri C hr hlk rfl hP hS h dL_minutesOf_14
  · skip
    refine t_i2l C.1 C.2.1 dL_minutesOf_7 rfl ?_
    obtain ⟨hi, h⟩ := h
    refine z_last C hP hS hp3 lp3 mp3 hi dL_minutesOf_8 (fun H locs hP hS => ?_)
    obtain ⟨st4, est4⟩ : ∃ z, z = uJ st2 p3 (0 : Int32).toNatClampNeg ((r1 : Int32).toInt64) := ⟨_, rfl⟩
    rw [← est4] at hP; have h := h st4 est4
    refine lv_goto C.1 C.2.1 (tgt := 15) dL_minutesOf_9 (by decide) ?_
    refine lv_iconst C.1 C.2.1 (v := 0) dL_minutesOf_15 rfl ?_
    refine W.widen (k := rmL_minutesOf.cells) (n := rmL_minutesOf.slots) (Nat.le_of_ble_eq_true rfl) (Nat.le_of_ble_eq_true rfl) ?_
    exact z_ri C hr hlk rfl hP hS h dL_minutesOf_16
def rmL_isNear : Room := { frames := 8, cells := 1, slots := 6, locals := 132 }
def wL_isNear_L15 (p1 : Nat) (p2 : Int32) (p3 : Nat)  (s0 : Int64) (s1 : Int32) (st : St) (Q : Int32 → St → Prop) : Prop :=
  (vp_in s1 1 ∧ ∀ st4, st4 = uJ st p3 (s1 : Int32).toNatClampNeg s0 → Q 0 st4)
def wL_isNear (p1 : Nat) (p2 : Int32) (p3 : Nat) (st : St) (Q : Int32 → St → Prop) : Prop :=
  (wX9_isNear p1 p2 st (fun r1 st2 => ((r1 = 0 → wL_isNear_L15 p1 p2 p3 0 0 st2 Q) ∧ (¬ r1 = 0 → wL_isNear_L15 p1 p2 p3 1 0 st2 Q))) (fun cls u9 => cls = "java/lang/IndexOutOfBoundsException" ∧ Q 1 u9))
theorem hdL_isNear : yL_isNear.cls ≠ "java/lang/invoke/MethodHandle" ∧ yL_isNear.cls ≠ "java/lang/invoke/VarHandle" ∧ (parseMethodDescriptor yL_isNear.desc).map (fun d => d.parameters.length) = some 3 := by decide +kernel
set_option maxHeartbeats 4000000 in
set_option maxRecDepth 100000 in
theorem tL_isNear_L15 {l : Launch} {p : Program} {e : Env} {s : State} {m : MethodId} {args : Array Value} {below : List Frame} {meth : Method} {c : Code} {E : En0} {L : List Nat} (hL : Cov 0 68 L) (C : Cx E L "PlankBridgeLaw" cL_isNear 4 p s m args c) (hr : meth.sig.returnType = (some .int)) (hlk : meth.locks = false) {p1 : Nat} {p2 : Int32} {p3 : Nat} {Q : Int32 → St → Prop} (hp1 : kd p1 = 8) (hp3 : kd p3 = 23) (lp3 : ln p3 = 1) (mp3 : p3 ∈ L) {s0 : Int64} {s1 : Int32}  {st : St} (H : Heap) (locs : List Loc) (ls : Array Slot) (h : wL_isNear_L15 p1 p2 p3 s0 s1 st Q) (hl : lv_has ls 4 []) (hP : va_P E.1 vwCl (wd E L st) H) (hS : va_S (fA E L s.heap.size) s.heap H locs) : W p l e rmL_isNear s m args below meth c H locs 1 6 (MQ below (zI E L Q (fA E L s.heap.size)) args s rmL_isNear.cells rmL_isNear.slots (fA E L s.heap.size)) (F0 m 15 ls [.long s0, .int s1, .ref (E.2.1 p3)]) := by
  unfold wL_isNear_L15 at h
  obtain ⟨hi, h⟩ := h
  refine z_last C hP hS hp3 lp3 mp3 hi dL_isNear_15 (fun H locs hP hS => ?_)
  obtain ⟨st4, est4⟩ : ∃ z, z = uJ st p3 (s1 : Int32).toNatClampNeg s0 := ⟨_, rfl⟩
  rw [← est4] at hP; have h := h st4 est4
  refine lv_goto C.1 C.2.1 (tgt := 22) dL_isNear_16 (by decide) ?_
  refine lv_iconst C.1 C.2.1 (v := 0) dL_isNear_22 rfl ?_
  refine W.widen (k := rmL_isNear.cells) (n := rmL_isNear.slots) (Nat.le_of_ble_eq_true rfl) (Nat.le_of_ble_eq_true rfl) ?_
  exact z_ri C hr hlk rfl hP hS h dL_isNear_23
set_option maxHeartbeats 4000000 in
set_option maxRecDepth 100000 in
theorem tL_isNear {l : Launch} {E : En0} {L : List Nat} (hE : EK E L) (hL : Cov 0 68 L) {p1 : Nat} {p2 : Int32} {p3 : Nat} {st : St} {Q : Int32 → St → Prop} (hp1 : kd p1 = 8) (hp3 : kd p3 = 23) (lp3 : ln p3 = 1) (mp3 : p3 ∈ L) (hfl : l.stackTraces = false) (h : wL_isNear p1 p2 p3 st Q) : Mw l yL_isNear cL_isNear 4 (some .int) [(0, 16, 19, 24)] rmL_isNear E L [.ref (E.2.1 p1), .int p2, .ref (E.2.1 p3)] st (zI E L Q) := by
  refine Mw.of hE (by decide) (Nat.le_of_ble_eq_true rfl) ?_
  intro p e s m below meth c ls C hr hlk htab hNC hl hP
  replace C : Cx E L "PlankBridgeLaw" cL_isNear 4 p s m _ c := C
  have hS : va_S (fA E L s.heap.size) s.heap s.heap [] := va_S.rf
  replace hl : lv_has ls 4 [(0, .ref (E.2.1 p1)), (1, .int p2), (2, .ref (E.2.1 p3))] := hl
  unfold wL_isNear at h
  refine lv_aload_n C.1 C.2.1 dL_isNear_0 rfl (lv_at hl 2 rfl) ?_
  refine lv_iconst C.1 C.2.1 (v := 0) dL_isNear_1 rfl ?_
  refine lv_aload_n C.1 C.2.1 dL_isNear_2 rfl (lv_at hl 0 rfl) ?_
  refine lv_iload_n C.1 C.2.1 dL_isNear_3 rfl (lv_at hl 1 rfl) ?_
  refine z_kiw hS (z_runVx (As := [.int p2]) (rest := [.int 0, .ref (E.2.1 p3)]) C hP hS (m8 hp1 (hL.mo (Nat.le_of_ble_eq_true rfl) (Nat.le_of_ble_eq_true rfl))) (e8 hp1) rfl (tX9_isNear C.2.2.2.2.2.2.1 (hL.mo (Nat.le_of_ble_eq_true rfl) (Nat.le_of_ble_eq_true rfl)) hp1 hfl h) q990 q991 q992 q105 q993 hdX9_isNear ⟨Nat.le_of_ble_eq_true rfl, Nat.le_of_ble_eq_true rfl⟩ ⟨Nat.le_of_ble_eq_true rfl, Nat.le_of_ble_eq_true rfl⟩ rfl hl.1 rfl (lv_room (Nat.le_of_ble_eq_true rfl)) dL_isNear_4) (fun Ex ce q9 st3 H locs h hP hS hce hcv hcl => ?_) (fun r1 st2 H locs h hP hS => ?_)
  · obtain ⟨rfl, h⟩ := h
    refine vx_catch (name := "java/lang/IndexOutOfBoundsException") C.2.2.2.1 [] ⟨0, 16, 19, 24⟩ [] (htab.trans rfl) (fun z hz => absurd hz List.not_mem_nil) rfl (by decide) (C.T q955) (va_Nw.use rfl (C.NE9.1 _ q966 rfl)) hce hcv hcl ?_
    refine lv_astore_n C.1 C.2.1 dL_isNear_19 rfl hl (Nat.le_of_ble_eq_true rfl) rfl (fun ls hl => ?_)
    have hl : lv_has ls 4 [(3, .ref q9), (0, .ref (E.2.1 p1)), (1, .int p2), (2, .ref (E.2.1 p3))] := hl
    refine lv_iconst C.1 C.2.1 (v := 1) dL_isNear_20 rfl ?_
    refine W.widen (k := rmL_isNear.cells) (n := rmL_isNear.slots) (Nat.le_of_ble_eq_true rfl) (Nat.le_of_ble_eq_true rfl) ?_
    exact z_ri C hr hlk rfl hP hS h dL_isNear_21
  · skip
    obtain ⟨hr1, h⟩ := h
    refine lv_if_eq C.1 C.2.1 (tgt := 14) dL_isNear_7 (by decide) (fun hc => ?_) (fun hc => ?_)
    · have h := h.1 hc
      refine lv_lconst C.1 C.2.1 (v := 0) dL_isNear_14 rfl ?_
      exact tL_isNear_L15 hL C hr hlk hp1 hp3 lp3 mp3 _ _ _ h (lv_sub hl [] rfl) hP hS
    · have h := h.2 hc
      refine lv_lconst C.1 C.2.1 (v := 1) dL_isNear_10 rfl ?_
      refine lv_goto C.1 C.2.1 (tgt := 15) dL_isNear_11 (by decide) ?_
      exact tL_isNear_L15 hL C hr hlk hp1 hp3 lp3 mp3 _ _ _ h (lv_sub hl [] rfl) hP hS
def rmL_strengthOf : Room := { frames := 8, cells := 1, slots := 6, locals := 132 }
def wL_strengthOf (p1 : Nat) (p2 : Int32) (p3 : Nat) (st : St) (Q : Int32 → St → Prop) : Prop :=
  (wX9_strengthOf p1 p2 st (fun r1 st2 => (vp_in 0 1 ∧ ∀ st4, st4 = uJ st2 p3 (0 : Int32).toNatClampNeg ((r1 : Int32).toInt64) → Q 0 st4)) (fun cls u9 => cls = "java/lang/IndexOutOfBoundsException" ∧ Q 1 u9))
theorem hdL_strengthOf : yL_strengthOf.cls ≠ "java/lang/invoke/MethodHandle" ∧ yL_strengthOf.cls ≠ "java/lang/invoke/VarHandle" ∧ (parseMethodDescriptor yL_strengthOf.desc).map (fun d => d.parameters.length) = some 3 := by decide +kernel
set_option maxHeartbeats 4000000 in
set_option maxRecDepth 100000 in
theorem tL_strengthOf {l : Launch} {E : En0} {L : List Nat} (hE : EK E L) (hL : Cov 0 68 L) {p1 : Nat} {p2 : Int32} {p3 : Nat} {st : St} {Q : Int32 → St → Prop} (hp1 : kd p1 = 8) (hp3 : kd p3 = 23) (lp3 : ln p3 = 1) (mp3 : p3 ∈ L) (hfl : l.stackTraces = false) (h : wL_strengthOf p1 p2 p3 st Q) : Mw l yL_strengthOf cL_strengthOf 4 (some .int) [(0, 9, 12, 24)] rmL_strengthOf E L [.ref (E.2.1 p1), .int p2, .ref (E.2.1 p3)] st (zI E L Q) := by
  refine Mw.of hE (by decide) (Nat.le_of_ble_eq_true rfl) ?_
  intro p e s m below meth c ls C hr hlk htab hNC hl hP
  replace C : Cx E L "PlankBridgeLaw" cL_strengthOf 4 p s m _ c := C
  have hS : va_S (fA E L s.heap.size) s.heap s.heap [] := va_S.rf
  replace hl : lv_has ls 4 [(0, .ref (E.2.1 p1)), (1, .int p2), (2, .ref (E.2.1 p3))] := hl
  unfold wL_strengthOf at h
  refine lv_aload_n C.1 C.2.1 dL_strengthOf_0 rfl (lv_at hl 2 rfl) ?_
  refine lv_iconst C.1 C.2.1 (v := 0) dL_strengthOf_1 rfl ?_
  refine lv_aload_n C.1 C.2.1 dL_strengthOf_2 rfl (lv_at hl 0 rfl) ?_
  refine lv_iload_n C.1 C.2.1 dL_strengthOf_3 rfl (lv_at hl 1 rfl) ?_
  refine z_kiw hS (z_runVx (As := [.int p2]) (rest := [.int 0, .ref (E.2.1 p3)]) C hP hS (m8 hp1 (hL.mo (Nat.le_of_ble_eq_true rfl) (Nat.le_of_ble_eq_true rfl))) (e8 hp1) rfl (tX9_strengthOf C.2.2.2.2.2.2.1 (hL.mo (Nat.le_of_ble_eq_true rfl) (Nat.le_of_ble_eq_true rfl)) hp1 hfl h) q997 q998 q999 q105 q1000 hdX9_strengthOf ⟨Nat.le_of_ble_eq_true rfl, Nat.le_of_ble_eq_true rfl⟩ ⟨Nat.le_of_ble_eq_true rfl, Nat.le_of_ble_eq_true rfl⟩ rfl hl.1 rfl (lv_room (Nat.le_of_ble_eq_true rfl)) dL_strengthOf_4) (fun Ex ce q9 st3 H locs h hP hS hce hcv hcl => ?_) (fun r1 st2 H locs h hP hS => ?_)
  · obtain ⟨rfl, h⟩ := h
    refine vx_catch (name := "java/lang/IndexOutOfBoundsException") C.2.2.2.1 [] ⟨0, 9, 12, 24⟩ [] (htab.trans rfl) (fun z hz => absurd hz List.not_mem_nil) rfl (by decide) (C.T q955) (va_Nw.use rfl (C.NE9.1 _ q966 rfl)) hce hcv hcl ?_
    refine lv_astore_n C.1 C.2.1 dL_strengthOf_12 rfl hl (Nat.le_of_ble_eq_true rfl) rfl (fun ls hl => ?_)
    have hl : lv_has ls 4 [(3, .ref q9), (0, .ref (E.2.1 p1)), (1, .int p2), (2, .ref (E.2.1 p3))] := hl
    refine lv_iconst C.1 C.2.1 (v := 1) dL_strengthOf_13 rfl ?_
    refine W.widen (k := rmL_strengthOf.cells) (n := rmL_strengthOf.slots) (Nat.le_of_ble_eq_true rfl) (Nat.le_of_ble_eq_true rfl) ?_
    exact z_ri C hr hlk rfl hP hS h dL_strengthOf_14
  · skip
    refine t_i2l C.1 C.2.1 dL_strengthOf_7 rfl ?_
    obtain ⟨hi, h⟩ := h
    refine z_last C hP hS hp3 lp3 mp3 hi dL_strengthOf_8 (fun H locs hP hS => ?_)
    obtain ⟨st4, est4⟩ : ∃ z, z = uJ st2 p3 (0 : Int32).toNatClampNeg ((r1 : Int32).toInt64) := ⟨_, rfl⟩
    rw [← est4] at hP; have h := h st4 est4
    refine lv_goto C.1 C.2.1 (tgt := 15) dL_strengthOf_9 (by decide) ?_
    refine lv_iconst C.1 C.2.1 (v := 0) dL_strengthOf_15 rfl ?_
    refine W.widen (k := rmL_strengthOf.cells) (n := rmL_strengthOf.slots) (Nat.le_of_ble_eq_true rfl) (Nat.le_of_ble_eq_true rfl) ?_
    exact z_ri C hr hlk rfl hP hS h dL_strengthOf_16
def rmL_bears : Room := { frames := 8, cells := 1, slots := 6, locals := 132 }
def wL_bears (p1 : Nat) (p2 : Int32) (p3 : Nat) (st : St) (Q : Int32 → St → Prop) : Prop :=
  (wX9_bears p1 p2 st (fun r1 st2 => (vp_in 0 1 ∧ ∀ st4, st4 = uJ st2 p3 (0 : Int32).toNatClampNeg ((r1 : Int32).toInt64) → Q 0 st4)) (fun cls u9 => cls = "java/lang/IndexOutOfBoundsException" ∧ Q 1 u9))
theorem hdL_bears : yL_bears.cls ≠ "java/lang/invoke/MethodHandle" ∧ yL_bears.cls ≠ "java/lang/invoke/VarHandle" ∧ (parseMethodDescriptor yL_bears.desc).map (fun d => d.parameters.length) = some 3 := by decide +kernel
set_option maxHeartbeats 4000000 in
set_option maxRecDepth 100000 in
theorem tL_bears {l : Launch} {E : En0} {L : List Nat} (hE : EK E L) (hL : Cov 0 68 L) {p1 : Nat} {p2 : Int32} {p3 : Nat} {st : St} {Q : Int32 → St → Prop} (hp1 : kd p1 = 8) (hp3 : kd p3 = 23) (lp3 : ln p3 = 1) (mp3 : p3 ∈ L) (hfl : l.stackTraces = false) (h : wL_bears p1 p2 p3 st Q) : Mw l yL_bears cL_bears 4 (some .int) [(0, 9, 12, 24)] rmL_bears E L [.ref (E.2.1 p1), .int p2, .ref (E.2.1 p3)] st (zI E L Q) := by
  refine Mw.of hE (by decide) (Nat.le_of_ble_eq_true rfl) ?_
  intro p e s m below meth c ls C hr hlk htab hNC hl hP
  replace C : Cx E L "PlankBridgeLaw" cL_bears 4 p s m _ c := C
  have hS : va_S (fA E L s.heap.size) s.heap s.heap [] := va_S.rf
  replace hl : lv_has ls 4 [(0, .ref (E.2.1 p1)), (1, .int p2), (2, .ref (E.2.1 p3))] := hl
  unfold wL_bears at h
  refine lv_aload_n C.1 C.2.1 dL_bears_0 rfl (lv_at hl 2 rfl) ?_
  refine lv_iconst C.1 C.2.1 (v := 0) dL_bears_1 rfl ?_
  refine lv_aload_n C.1 C.2.1 dL_bears_2 rfl (lv_at hl 0 rfl) ?_
  refine lv_iload_n C.1 C.2.1 dL_bears_3 rfl (lv_at hl 1 rfl) ?_
  refine z_kiw hS (z_runVx (As := [.int p2]) (rest := [.int 0, .ref (E.2.1 p3)]) C hP hS (m8 hp1 (hL.mo (Nat.le_of_ble_eq_true rfl) (Nat.le_of_ble_eq_true rfl))) (e8 hp1) rfl (tX9_bears C.2.2.2.2.2.2.1 (hL.mo (Nat.le_of_ble_eq_true rfl) (Nat.le_of_ble_eq_true rfl)) hp1 hfl h) q1009 q1010 q1011 q105 q1012 hdX9_bears ⟨Nat.le_of_ble_eq_true rfl, Nat.le_of_ble_eq_true rfl⟩ ⟨Nat.le_of_ble_eq_true rfl, Nat.le_of_ble_eq_true rfl⟩ rfl hl.1 rfl (lv_room (Nat.le_of_ble_eq_true rfl)) dL_bears_4) (fun Ex ce q9 st3 H locs h hP hS hce hcv hcl => ?_) (fun r1 st2 H locs h hP hS => ?_)
  · obtain ⟨rfl, h⟩ := h
    refine vx_catch (name := "java/lang/IndexOutOfBoundsException") C.2.2.2.1 [] ⟨0, 9, 12, 24⟩ [] (htab.trans rfl) (fun z hz => absurd hz List.not_mem_nil) rfl (by decide) (C.T q955) (va_Nw.use rfl (C.NE9.1 _ q966 rfl)) hce hcv hcl ?_
    refine lv_astore_n C.1 C.2.1 dL_bears_12 rfl hl (Nat.le_of_ble_eq_true rfl) rfl (fun ls hl => ?_)
    have hl : lv_has ls 4 [(3, .ref q9), (0, .ref (E.2.1 p1)), (1, .int p2), (2, .ref (E.2.1 p3))] := hl
    refine lv_iconst C.1 C.2.1 (v := 1) dL_bears_13 rfl ?_
    refine W.widen (k := rmL_bears.cells) (n := rmL_bears.slots) (Nat.le_of_ble_eq_true rfl) (Nat.le_of_ble_eq_true rfl) ?_
    exact z_ri C hr hlk rfl hP hS h dL_bears_14
  · skip
    refine t_i2l C.1 C.2.1 dL_bears_7 rfl ?_
    obtain ⟨hi, h⟩ := h
    refine z_last C hP hS hp3 lp3 mp3 hi dL_bears_8 (fun H locs hP hS => ?_)
    obtain ⟨st4, est4⟩ : ∃ z, z = uJ st2 p3 (0 : Int32).toNatClampNeg ((r1 : Int32).toInt64) := ⟨_, rfl⟩
    rw [← est4] at hP; have h := h st4 est4
    refine lv_goto C.1 C.2.1 (tgt := 15) dL_bears_9 (by decide) ?_
    refine lv_iconst C.1 C.2.1 (v := 0) dL_bears_15 rfl ?_
    refine W.widen (k := rmL_bears.cells) (n := rmL_bears.slots) (Nat.le_of_ble_eq_true rfl) (Nat.le_of_ble_eq_true rfl) ?_
    exact z_ri C hr hlk rfl hP hS h dL_bears_16
def rmL_isRotten : Room := { frames := 8, cells := 1, slots := 6, locals := 132 }
def wL_isRotten_L15 (p1 : Nat) (p2 : Int32) (p3 : Nat)  (s0 : Int64) (s1 : Int32) (st : St) (Q : Int32 → St → Prop) : Prop :=
  (vp_in s1 1 ∧ ∀ st4, st4 = uJ st p3 (s1 : Int32).toNatClampNeg s0 → Q 0 st4)
def wL_isRotten (p1 : Nat) (p2 : Int32) (p3 : Nat) (st : St) (Q : Int32 → St → Prop) : Prop :=
  (wX9_isRotten p1 p2 st (fun r1 st2 => ((r1 = 0 → wL_isRotten_L15 p1 p2 p3 0 0 st2 Q) ∧ (¬ r1 = 0 → wL_isRotten_L15 p1 p2 p3 1 0 st2 Q))) (fun cls u9 => cls = "java/lang/IndexOutOfBoundsException" ∧ Q 1 u9))
theorem hdL_isRotten : yL_isRotten.cls ≠ "java/lang/invoke/MethodHandle" ∧ yL_isRotten.cls ≠ "java/lang/invoke/VarHandle" ∧ (parseMethodDescriptor yL_isRotten.desc).map (fun d => d.parameters.length) = some 3 := by decide +kernel
set_option maxHeartbeats 4000000 in
set_option maxRecDepth 100000 in
theorem tL_isRotten_L15 {l : Launch} {p : Program} {e : Env} {s : State} {m : MethodId} {args : Array Value} {below : List Frame} {meth : Method} {c : Code} {E : En0} {L : List Nat} (hL : Cov 0 68 L) (C : Cx E L "PlankBridgeLaw" cL_isRotten 4 p s m args c) (hr : meth.sig.returnType = (some .int)) (hlk : meth.locks = false) {p1 : Nat} {p2 : Int32} {p3 : Nat} {Q : Int32 → St → Prop} (hp1 : kd p1 = 8) (hp3 : kd p3 = 23) (lp3 : ln p3 = 1) (mp3 : p3 ∈ L) {s0 : Int64} {s1 : Int32}  {st : St} (H : Heap) (locs : List Loc) (ls : Array Slot) (h : wL_isRotten_L15 p1 p2 p3 s0 s1 st Q) (hl : lv_has ls 4 []) (hP : va_P E.1 vwCl (wd E L st) H) (hS : va_S (fA E L s.heap.size) s.heap H locs) : W p l e rmL_isRotten s m args below meth c H locs 1 6 (MQ below (zI E L Q (fA E L s.heap.size)) args s rmL_isRotten.cells rmL_isRotten.slots (fA E L s.heap.size)) (F0 m 15 ls [.long s0, .int s1, .ref (E.2.1 p3)]) := by
  unfold wL_isRotten_L15 at h
  obtain ⟨hi, h⟩ := h
  refine z_last C hP hS hp3 lp3 mp3 hi dL_isRotten_15 (fun H locs hP hS => ?_)
  obtain ⟨st4, est4⟩ : ∃ z, z = uJ st p3 (s1 : Int32).toNatClampNeg s0 := ⟨_, rfl⟩
  rw [← est4] at hP; have h := h st4 est4
  refine lv_goto C.1 C.2.1 (tgt := 22) dL_isRotten_16 (by decide) ?_
  refine lv_iconst C.1 C.2.1 (v := 0) dL_isRotten_22 rfl ?_
  refine W.widen (k := rmL_isRotten.cells) (n := rmL_isRotten.slots) (Nat.le_of_ble_eq_true rfl) (Nat.le_of_ble_eq_true rfl) ?_
  exact z_ri C hr hlk rfl hP hS h dL_isRotten_23
set_option maxHeartbeats 4000000 in
set_option maxRecDepth 100000 in
theorem tL_isRotten {l : Launch} {E : En0} {L : List Nat} (hE : EK E L) (hL : Cov 0 68 L) {p1 : Nat} {p2 : Int32} {p3 : Nat} {st : St} {Q : Int32 → St → Prop} (hp1 : kd p1 = 8) (hp3 : kd p3 = 23) (lp3 : ln p3 = 1) (mp3 : p3 ∈ L) (hfl : l.stackTraces = false) (h : wL_isRotten p1 p2 p3 st Q) : Mw l yL_isRotten cL_isRotten 4 (some .int) [(0, 16, 19, 24)] rmL_isRotten E L [.ref (E.2.1 p1), .int p2, .ref (E.2.1 p3)] st (zI E L Q) := by
  refine Mw.of hE (by decide) (Nat.le_of_ble_eq_true rfl) ?_
  intro p e s m below meth c ls C hr hlk htab hNC hl hP
  replace C : Cx E L "PlankBridgeLaw" cL_isRotten 4 p s m _ c := C
  have hS : va_S (fA E L s.heap.size) s.heap s.heap [] := va_S.rf
  replace hl : lv_has ls 4 [(0, .ref (E.2.1 p1)), (1, .int p2), (2, .ref (E.2.1 p3))] := hl
  unfold wL_isRotten at h
  refine lv_aload_n C.1 C.2.1 dL_isRotten_0 rfl (lv_at hl 2 rfl) ?_
  refine lv_iconst C.1 C.2.1 (v := 0) dL_isRotten_1 rfl ?_
  refine lv_aload_n C.1 C.2.1 dL_isRotten_2 rfl (lv_at hl 0 rfl) ?_
  refine lv_iload_n C.1 C.2.1 dL_isRotten_3 rfl (lv_at hl 1 rfl) ?_
  refine z_kiw hS (z_runVx (As := [.int p2]) (rest := [.int 0, .ref (E.2.1 p3)]) C hP hS (m8 hp1 (hL.mo (Nat.le_of_ble_eq_true rfl) (Nat.le_of_ble_eq_true rfl))) (e8 hp1) rfl (tX9_isRotten C.2.2.2.2.2.2.1 (hL.mo (Nat.le_of_ble_eq_true rfl) (Nat.le_of_ble_eq_true rfl)) hp1 hfl h) q1016 q1017 q1018 q105 q1019 hdX9_isRotten ⟨Nat.le_of_ble_eq_true rfl, Nat.le_of_ble_eq_true rfl⟩ ⟨Nat.le_of_ble_eq_true rfl, Nat.le_of_ble_eq_true rfl⟩ rfl hl.1 rfl (lv_room (Nat.le_of_ble_eq_true rfl)) dL_isRotten_4) (fun Ex ce q9 st3 H locs h hP hS hce hcv hcl => ?_) (fun r1 st2 H locs h hP hS => ?_)
  · obtain ⟨rfl, h⟩ := h
    refine vx_catch (name := "java/lang/IndexOutOfBoundsException") C.2.2.2.1 [] ⟨0, 16, 19, 24⟩ [] (htab.trans rfl) (fun z hz => absurd hz List.not_mem_nil) rfl (by decide) (C.T q955) (va_Nw.use rfl (C.NE9.1 _ q966 rfl)) hce hcv hcl ?_
    refine lv_astore_n C.1 C.2.1 dL_isRotten_19 rfl hl (Nat.le_of_ble_eq_true rfl) rfl (fun ls hl => ?_)
    have hl : lv_has ls 4 [(3, .ref q9), (0, .ref (E.2.1 p1)), (1, .int p2), (2, .ref (E.2.1 p3))] := hl
    refine lv_iconst C.1 C.2.1 (v := 1) dL_isRotten_20 rfl ?_
    refine W.widen (k := rmL_isRotten.cells) (n := rmL_isRotten.slots) (Nat.le_of_ble_eq_true rfl) (Nat.le_of_ble_eq_true rfl) ?_
    exact z_ri C hr hlk rfl hP hS h dL_isRotten_21
  · skip
    obtain ⟨hr1, h⟩ := h
    refine lv_if_eq C.1 C.2.1 (tgt := 14) dL_isRotten_7 (by decide) (fun hc => ?_) (fun hc => ?_)
    · have h := h.1 hc
      refine lv_lconst C.1 C.2.1 (v := 0) dL_isRotten_14 rfl ?_
      exact tL_isRotten_L15 hL C hr hlk hp1 hp3 lp3 mp3 _ _ _ h (lv_sub hl [] rfl) hP hS
    · have h := h.2 hc
      refine lv_lconst C.1 C.2.1 (v := 1) dL_isRotten_10 rfl ?_
      refine lv_goto C.1 C.2.1 (tgt := 15) dL_isRotten_11 (by decide) ?_
      exact tL_isRotten_L15 hL C hr hlk hp1 hp3 lp3 mp3 _ _ _ h (lv_sub hl [] rfl) hP hS
def rmL_weakestPlank : Room := { frames := 8, cells := 1, slots := 6, locals := 130 }
def wL_weakestPlank (p1 : Nat) (p2 : Nat) (st : St) (Q : Int32 → St → Prop) : Prop :=
  (wX9_weakestPlank p1 st (fun r1 st2 => (vp_in 0 1 ∧ ∀ st4, st4 = uJ st2 p2 (0 : Int32).toNatClampNeg ((r1 : Int32).toInt64) → Q 0 st4)) (fun cls u9 => cls = "java/lang/IllegalStateException" ∧ Q 1 u9))
theorem hdL_weakestPlank : yL_weakestPlank.cls ≠ "java/lang/invoke/MethodHandle" ∧ yL_weakestPlank.cls ≠ "java/lang/invoke/VarHandle" ∧ (parseMethodDescriptor yL_weakestPlank.desc).map (fun d => d.parameters.length) = some 2 := by decide +kernel
set_option maxHeartbeats 4000000 in
set_option maxRecDepth 100000 in
theorem tL_weakestPlank {l : Launch} {E : En0} {L : List Nat} (hE : EK E L) (hL : Cov 0 68 L) {p1 : Nat} {p2 : Nat} {st : St} {Q : Int32 → St → Prop} (hp1 : kd p1 = 8) (hp2 : kd p2 = 23) (lp2 : ln p2 = 1) (mp2 : p2 ∈ L) (hfl : l.stackTraces = false) (h : wL_weakestPlank p1 p2 st Q) : Mw l yL_weakestPlank cL_weakestPlank 3 (some .int) [(0, 8, 11, 13)] rmL_weakestPlank E L [.ref (E.2.1 p1), .ref (E.2.1 p2)] st (zI E L Q) := by
  refine Mw.of hE (by decide) (Nat.le_of_ble_eq_true rfl) ?_
  intro p e s m below meth c ls C hr hlk htab hNC hl hP
  replace C : Cx E L "PlankBridgeLaw" cL_weakestPlank 3 p s m _ c := C
  have hS : va_S (fA E L s.heap.size) s.heap s.heap [] := va_S.rf
  replace hl : lv_has ls 3 [(0, .ref (E.2.1 p1)), (1, .ref (E.2.1 p2))] := hl
  unfold wL_weakestPlank at h
  refine lv_aload_n C.1 C.2.1 dL_weakestPlank_0 rfl (lv_at hl 1 rfl) ?_
  refine lv_iconst C.1 C.2.1 (v := 0) dL_weakestPlank_1 rfl ?_
  refine lv_aload_n C.1 C.2.1 dL_weakestPlank_2 rfl (lv_at hl 0 rfl) ?_
  refine z_kiw hS (z_runVx (As := []) (rest := [.int 0, .ref (E.2.1 p2)]) C hP hS (m8 hp1 (hL.mo (Nat.le_of_ble_eq_true rfl) (Nat.le_of_ble_eq_true rfl))) (e8 hp1) rfl (tX9_weakestPlank C.2.2.2.2.2.2.1 (hL.mo (Nat.le_of_ble_eq_true rfl) (Nat.le_of_ble_eq_true rfl)) hp1 hfl h) q1023 q1024 q1025 q105 q1026 hdX9_weakestPlank ⟨Nat.le_of_ble_eq_true rfl, Nat.le_of_ble_eq_true rfl⟩ ⟨Nat.le_of_ble_eq_true rfl, Nat.le_of_ble_eq_true rfl⟩ rfl hl.1 rfl (lv_room (Nat.le_of_ble_eq_true rfl)) dL_weakestPlank_3) (fun Ex ce q9 st3 H locs h hP hS hce hcv hcl => ?_) (fun r1 st2 H locs h hP hS => ?_)
  · obtain ⟨rfl, h⟩ := h
    refine vx_catch (name := "java/lang/IllegalStateException") C.2.2.2.1 [] ⟨0, 8, 11, 13⟩ [] (htab.trans rfl) (fun z hz => absurd hz List.not_mem_nil) rfl (by decide) (C.T q848) (va_Nw.use rfl (C.NE9.1 _ q859 rfl)) hce hcv hcl ?_
    refine lv_astore_n C.1 C.2.1 dL_weakestPlank_11 rfl hl (Nat.le_of_ble_eq_true rfl) rfl (fun ls hl => ?_)
    have hl : lv_has ls 3 [(2, .ref q9), (0, .ref (E.2.1 p1)), (1, .ref (E.2.1 p2))] := hl
    refine lv_iconst C.1 C.2.1 (v := 1) dL_weakestPlank_12 rfl ?_
    refine W.widen (k := rmL_weakestPlank.cells) (n := rmL_weakestPlank.slots) (Nat.le_of_ble_eq_true rfl) (Nat.le_of_ble_eq_true rfl) ?_
    exact z_ri C hr hlk rfl hP hS h dL_weakestPlank_13
  · skip
    refine t_i2l C.1 C.2.1 dL_weakestPlank_6 rfl ?_
    obtain ⟨hi, h⟩ := h
    refine z_last C hP hS hp2 lp2 mp2 hi dL_weakestPlank_7 (fun H locs hP hS => ?_)
    obtain ⟨st4, est4⟩ : ∃ z, z = uJ st2 p2 (0 : Int32).toNatClampNeg ((r1 : Int32).toInt64) := ⟨_, rfl⟩
    rw [← est4] at hP; have h := h st4 est4
    refine lv_goto C.1 C.2.1 (tgt := 14) dL_weakestPlank_8 (by decide) ?_
    refine lv_iconst C.1 C.2.1 (v := 0) dL_weakestPlank_14 rfl ?_
    refine W.widen (k := rmL_weakestPlank.cells) (n := rmL_weakestPlank.slots) (Nat.le_of_ble_eq_true rfl) (Nat.le_of_ble_eq_true rfl) ?_
    exact z_ri C hr hlk rfl hP hS h dL_weakestPlank_15
def rmL_heaviestLoad : Room := { frames := 8, cells := 1, slots := 6, locals := 130 }
def wL_heaviestLoad (p1 : Nat) (p2 : Nat) (st : St) (Q : Int32 → St → Prop) : Prop :=
  (wX9_heaviestLoad p1 st (fun r1 st2 => (vp_in 0 1 ∧ ∀ st4, st4 = uJ st2 p2 (0 : Int32).toNatClampNeg ((r1 : Int32).toInt64) → Q 0 st4)) (fun cls u9 => cls = "java/lang/IllegalStateException" ∧ Q 1 u9))
theorem hdL_heaviestLoad : yL_heaviestLoad.cls ≠ "java/lang/invoke/MethodHandle" ∧ yL_heaviestLoad.cls ≠ "java/lang/invoke/VarHandle" ∧ (parseMethodDescriptor yL_heaviestLoad.desc).map (fun d => d.parameters.length) = some 2 := by decide +kernel
set_option maxHeartbeats 4000000 in
set_option maxRecDepth 100000 in
theorem tL_heaviestLoad {l : Launch} {E : En0} {L : List Nat} (hE : EK E L) (hL : Cov 0 68 L) {p1 : Nat} {p2 : Nat} {st : St} {Q : Int32 → St → Prop} (hp1 : kd p1 = 8) (hp2 : kd p2 = 23) (lp2 : ln p2 = 1) (mp2 : p2 ∈ L) (hfl : l.stackTraces = false) (h : wL_heaviestLoad p1 p2 st Q) : Mw l yL_heaviestLoad cL_heaviestLoad 3 (some .int) [(0, 8, 11, 13)] rmL_heaviestLoad E L [.ref (E.2.1 p1), .ref (E.2.1 p2)] st (zI E L Q) := by
  refine Mw.of hE (by decide) (Nat.le_of_ble_eq_true rfl) ?_
  intro p e s m below meth c ls C hr hlk htab hNC hl hP
  replace C : Cx E L "PlankBridgeLaw" cL_heaviestLoad 3 p s m _ c := C
  have hS : va_S (fA E L s.heap.size) s.heap s.heap [] := va_S.rf
  replace hl : lv_has ls 3 [(0, .ref (E.2.1 p1)), (1, .ref (E.2.1 p2))] := hl
  unfold wL_heaviestLoad at h
  refine lv_aload_n C.1 C.2.1 dL_heaviestLoad_0 rfl (lv_at hl 1 rfl) ?_
  refine lv_iconst C.1 C.2.1 (v := 0) dL_heaviestLoad_1 rfl ?_
  refine lv_aload_n C.1 C.2.1 dL_heaviestLoad_2 rfl (lv_at hl 0 rfl) ?_
  refine z_kiw hS (z_runVx (As := []) (rest := [.int 0, .ref (E.2.1 p2)]) C hP hS (m8 hp1 (hL.mo (Nat.le_of_ble_eq_true rfl) (Nat.le_of_ble_eq_true rfl))) (e8 hp1) rfl (tX9_heaviestLoad C.2.2.2.2.2.2.1 (hL.mo (Nat.le_of_ble_eq_true rfl) (Nat.le_of_ble_eq_true rfl)) hp1 hfl h) q1039 q1040 q1041 q105 q1042 hdX9_heaviestLoad ⟨Nat.le_of_ble_eq_true rfl, Nat.le_of_ble_eq_true rfl⟩ ⟨Nat.le_of_ble_eq_true rfl, Nat.le_of_ble_eq_true rfl⟩ rfl hl.1 rfl (lv_room (Nat.le_of_ble_eq_true rfl)) dL_heaviestLoad_3) (fun Ex ce q9 st3 H locs h hP hS hce hcv hcl => ?_) (fun r1 st2 H locs h hP hS => ?_)
  · obtain ⟨rfl, h⟩ := h
    refine vx_catch (name := "java/lang/IllegalStateException") C.2.2.2.1 [] ⟨0, 8, 11, 13⟩ [] (htab.trans rfl) (fun z hz => absurd hz List.not_mem_nil) rfl (by decide) (C.T q848) (va_Nw.use rfl (C.NE9.1 _ q859 rfl)) hce hcv hcl ?_
    refine lv_astore_n C.1 C.2.1 dL_heaviestLoad_11 rfl hl (Nat.le_of_ble_eq_true rfl) rfl (fun ls hl => ?_)
    have hl : lv_has ls 3 [(2, .ref q9), (0, .ref (E.2.1 p1)), (1, .ref (E.2.1 p2))] := hl
    refine lv_iconst C.1 C.2.1 (v := 1) dL_heaviestLoad_12 rfl ?_
    refine W.widen (k := rmL_heaviestLoad.cells) (n := rmL_heaviestLoad.slots) (Nat.le_of_ble_eq_true rfl) (Nat.le_of_ble_eq_true rfl) ?_
    exact z_ri C hr hlk rfl hP hS h dL_heaviestLoad_13
  · skip
    refine t_i2l C.1 C.2.1 dL_heaviestLoad_6 rfl ?_
    obtain ⟨hi, h⟩ := h
    refine z_last C hP hS hp2 lp2 mp2 hi dL_heaviestLoad_7 (fun H locs hP hS => ?_)
    obtain ⟨st4, est4⟩ : ∃ z, z = uJ st2 p2 (0 : Int32).toNatClampNeg ((r1 : Int32).toInt64) := ⟨_, rfl⟩
    rw [← est4] at hP; have h := h st4 est4
    refine lv_goto C.1 C.2.1 (tgt := 14) dL_heaviestLoad_8 (by decide) ?_
    refine lv_iconst C.1 C.2.1 (v := 0) dL_heaviestLoad_14 rfl ?_
    refine W.widen (k := rmL_heaviestLoad.cells) (n := rmL_heaviestLoad.slots) (Nat.le_of_ble_eq_true rfl) (Nat.le_of_ble_eq_true rfl) ?_
    exact z_ri C hr hlk rfl hP hS h dL_heaviestLoad_15
def rmL_crossAlone : Room := { frames := 8, cells := 2, slots := 12, locals := 135 }
def wL_crossAlone_L15 (p1 : Nat) (p2 : Int32) (p3 : Nat)  (s0 : Int64) (s1 : Int32) (st : St) (Q : Int32 → St → Prop) : Prop :=
  (vp_in s1 1 ∧ ∀ st4, st4 = uJ st p3 (s1 : Int32).toNatClampNeg s0 → Q 0 st4)
def wL_crossAlone (p1 : Nat) (p2 : Int32) (p3 : Nat) (st : St) (Q : Int32 → St → Prop) : Prop :=
  (wX9_crossAlone p1 p2 st (fun r1 st2 => ((r1 = 0 → wL_crossAlone_L15 p1 p2 p3 0 0 st2 Q) ∧ (¬ r1 = 0 → wL_crossAlone_L15 p1 p2 p3 1 0 st2 Q))) (fun cls u9 => (cls = "java/lang/IndexOutOfBoundsException" ∧ Q 1 u9) ∨ (cls = "java/lang/IllegalStateException" ∧ Q 2 u9)))
theorem hdL_crossAlone : yL_crossAlone.cls ≠ "java/lang/invoke/MethodHandle" ∧ yL_crossAlone.cls ≠ "java/lang/invoke/VarHandle" ∧ (parseMethodDescriptor yL_crossAlone.desc).map (fun d => d.parameters.length) = some 3 := by decide +kernel
set_option maxHeartbeats 4000000 in
set_option maxRecDepth 100000 in
theorem tL_crossAlone_L15 {l : Launch} {p : Program} {e : Env} {s : State} {m : MethodId} {args : Array Value} {below : List Frame} {meth : Method} {c : Code} {E : En0} {L : List Nat} (hL : Cov 0 68 L) (C : Cx E L "PlankBridgeLaw" cL_crossAlone 4 p s m args c) (hr : meth.sig.returnType = (some .int)) (hlk : meth.locks = false) {p1 : Nat} {p2 : Int32} {p3 : Nat} {Q : Int32 → St → Prop} (hp1 : kd p1 = 8) (hp3 : kd p3 = 23) (lp3 : ln p3 = 1) (mp3 : p3 ∈ L) {s0 : Int64} {s1 : Int32}  {st : St} (H : Heap) (locs : List Loc) (ls : Array Slot) (h : wL_crossAlone_L15 p1 p2 p3 s0 s1 st Q) (hl : lv_has ls 4 []) (hP : va_P E.1 vwCl (wd E L st) H) (hS : va_S (fA E L s.heap.size) s.heap H locs) : W p l e rmL_crossAlone s m args below meth c H locs 2 12 (MQ below (zI E L Q (fA E L s.heap.size)) args s rmL_crossAlone.cells rmL_crossAlone.slots (fA E L s.heap.size)) (F0 m 15 ls [.long s0, .int s1, .ref (E.2.1 p3)]) := by
  unfold wL_crossAlone_L15 at h
  obtain ⟨hi, h⟩ := h
  refine z_last C hP hS hp3 lp3 mp3 hi dL_crossAlone_15 (fun H locs hP hS => ?_)
  obtain ⟨st4, est4⟩ : ∃ z, z = uJ st p3 (s1 : Int32).toNatClampNeg s0 := ⟨_, rfl⟩
  rw [← est4] at hP; have h := h st4 est4
  refine lv_goto C.1 C.2.1 (tgt := 25) dL_crossAlone_16 (by decide) ?_
  refine lv_iconst C.1 C.2.1 (v := 0) dL_crossAlone_25 rfl ?_
  refine W.widen (k := rmL_crossAlone.cells) (n := rmL_crossAlone.slots) (Nat.le_of_ble_eq_true rfl) (Nat.le_of_ble_eq_true rfl) ?_
  exact z_ri C hr hlk rfl hP hS h dL_crossAlone_26
set_option maxHeartbeats 4000000 in
set_option maxRecDepth 100000 in
theorem tL_crossAlone {l : Launch} {E : En0} {L : List Nat} (hE : EK E L) (hL : Cov 0 68 L) {p1 : Nat} {p2 : Int32} {p3 : Nat} {st : St} {Q : Int32 → St → Prop} (hp1 : kd p1 = 8) (hp3 : kd p3 = 23) (lp3 : ln p3 = 1) (mp3 : p3 ∈ L) (hfl : l.stackTraces = false) (h : wL_crossAlone p1 p2 p3 st Q) : Mw l yL_crossAlone cL_crossAlone 4 (some .int) [(0, 16, 19, 24), (0, 16, 22, 13)] rmL_crossAlone E L [.ref (E.2.1 p1), .int p2, .ref (E.2.1 p3)] st (zI E L Q) := by
  refine Mw.of hE (by decide) (Nat.le_of_ble_eq_true rfl) ?_
  intro p e s m below meth c ls C hr hlk htab hNC hl hP
  replace C : Cx E L "PlankBridgeLaw" cL_crossAlone 4 p s m _ c := C
  have hS : va_S (fA E L s.heap.size) s.heap s.heap [] := va_S.rf
  replace hl : lv_has ls 4 [(0, .ref (E.2.1 p1)), (1, .int p2), (2, .ref (E.2.1 p3))] := hl
  unfold wL_crossAlone at h
  refine lv_aload_n C.1 C.2.1 dL_crossAlone_0 rfl (lv_at hl 2 rfl) ?_
  refine lv_iconst C.1 C.2.1 (v := 0) dL_crossAlone_1 rfl ?_
  refine lv_aload_n C.1 C.2.1 dL_crossAlone_2 rfl (lv_at hl 0 rfl) ?_
  refine lv_iload_n C.1 C.2.1 dL_crossAlone_3 rfl (lv_at hl 1 rfl) ?_
  refine z_kiw hS (z_runVx (As := [.int p2]) (rest := [.int 0, .ref (E.2.1 p3)]) C hP hS (m8 hp1 (hL.mo (Nat.le_of_ble_eq_true rfl) (Nat.le_of_ble_eq_true rfl))) (e8 hp1) rfl (tX9_crossAlone C.2.2.2.2.2.2.1 (hL.mo (Nat.le_of_ble_eq_true rfl) (Nat.le_of_ble_eq_true rfl)) hp1 hfl h) q1046 q1047 q1048 q105 q1049 hdX9_crossAlone ⟨Nat.le_of_ble_eq_true rfl, Nat.le_of_ble_eq_true rfl⟩ ⟨Nat.le_of_ble_eq_true rfl, Nat.le_of_ble_eq_true rfl⟩ rfl hl.1 rfl (lv_room (Nat.le_of_ble_eq_true rfl)) dL_crossAlone_4) (fun Ex ce q9 st3 H locs h hP hS hce hcv hcl => ?_) (fun r1 st2 H locs h hP hS => ?_)
  · rcases h with ⟨rfl, h⟩ | ⟨rfl, h⟩
    · skip
      refine vx_catch (name := "java/lang/IndexOutOfBoundsException") C.2.2.2.1 [] ⟨0, 16, 19, 24⟩ [⟨0, 16, 22, 13⟩] (htab.trans rfl) (fun z hz => absurd hz List.not_mem_nil) rfl (by decide) (C.T q955) (va_Nw.use rfl (C.NE9.1 _ q966 rfl)) hce hcv hcl ?_
      refine lv_astore_n C.1 C.2.1 dL_crossAlone_19 rfl hl (Nat.le_of_ble_eq_true rfl) rfl (fun ls hl => ?_)
      have hl : lv_has ls 4 [(3, .ref q9), (0, .ref (E.2.1 p1)), (1, .int p2), (2, .ref (E.2.1 p3))] := hl
      refine lv_iconst C.1 C.2.1 (v := 1) dL_crossAlone_20 rfl ?_
      refine W.widen (k := rmL_crossAlone.cells) (n := rmL_crossAlone.slots) (Nat.le_of_ble_eq_true rfl) (Nat.le_of_ble_eq_true rfl) ?_
      exact z_ri C hr hlk rfl hP hS h dL_crossAlone_21
    · skip
      refine vx_catch (name := "java/lang/IllegalStateException") C.2.2.2.1 [⟨0, 16, 19, 24⟩] ⟨0, 16, 22, 13⟩ [] (htab.trans rfl) (List.forall_mem_cons.mpr ⟨Or.inr ⟨by decide, "java/lang/IndexOutOfBoundsException", C.T q955, hNC.1⟩, (fun z hz => absurd hz List.not_mem_nil)⟩) rfl (by decide) (C.T q848) (va_Nw.use rfl (C.NE9.1 _ q859 rfl)) hce hcv hcl ?_
      refine lv_astore_n C.1 C.2.1 dL_crossAlone_22 rfl hl (Nat.le_of_ble_eq_true rfl) rfl (fun ls hl => ?_)
      have hl : lv_has ls 4 [(3, .ref q9), (0, .ref (E.2.1 p1)), (1, .int p2), (2, .ref (E.2.1 p3))] := hl
      refine lv_iconst C.1 C.2.1 (v := 2) dL_crossAlone_23 rfl ?_
      refine W.widen (k := rmL_crossAlone.cells) (n := rmL_crossAlone.slots) (Nat.le_of_ble_eq_true rfl) (Nat.le_of_ble_eq_true rfl) ?_
      exact z_ri C hr hlk rfl hP hS h dL_crossAlone_24
  · skip
    obtain ⟨hr1, h⟩ := h
    refine lv_if_eq C.1 C.2.1 (tgt := 14) dL_crossAlone_7 (by decide) (fun hc => ?_) (fun hc => ?_)
    · have h := h.1 hc
      refine lv_lconst C.1 C.2.1 (v := 0) dL_crossAlone_14 rfl ?_
      exact tL_crossAlone_L15 hL C hr hlk hp1 hp3 lp3 mp3 _ _ _ h (lv_sub hl [] rfl) hP hS
    · have h := h.2 hc
      refine lv_lconst C.1 C.2.1 (v := 1) dL_crossAlone_10 rfl ?_
      refine lv_goto C.1 C.2.1 (tgt := 15) dL_crossAlone_11 (by decide) ?_
      exact tL_crossAlone_L15 hL C hr hlk hp1 hp3 lp3 mp3 _ _ _ h (lv_sub hl [] rfl) hP hS
def rmL_crossTogether : Room := { frames := 9, cells := 4, slots := 24, locals := 155 }
def wL_crossTogether_L16 (p1 : Nat) (p2 : Int32) (p3 : Int32) (p4 : Nat)  (s0 : Int64) (s1 : Int32) (st : St) (Q : Int32 → St → Prop) : Prop :=
  (vp_in s1 1 ∧ ∀ st4, st4 = uJ st p4 (s1 : Int32).toNatClampNeg s0 → Q 0 st4)
def wL_crossTogether (p1 : Nat) (p2 : Int32) (p3 : Int32) (p4 : Nat) (st : St) (Q : Int32 → St → Prop) : Prop :=
  (wX9_crossTogether p1 p2 p3 st (fun r1 st2 => ((r1 = 0 → wL_crossTogether_L16 p1 p2 p3 p4 0 0 st2 Q) ∧ (¬ r1 = 0 → wL_crossTogether_L16 p1 p2 p3 p4 1 0 st2 Q))) (fun cls u9 => (cls = "java/lang/IndexOutOfBoundsException" ∧ Q 1 u9) ∨ (cls = "java/lang/IllegalArgumentException" ∧ Q 2 u9) ∨ (cls = "java/lang/IllegalStateException" ∧ Q 3 u9)))
theorem hdL_crossTogether : yL_crossTogether.cls ≠ "java/lang/invoke/MethodHandle" ∧ yL_crossTogether.cls ≠ "java/lang/invoke/VarHandle" ∧ (parseMethodDescriptor yL_crossTogether.desc).map (fun d => d.parameters.length) = some 4 := by decide +kernel
set_option maxHeartbeats 4000000 in
set_option maxRecDepth 100000 in
theorem tL_crossTogether_L16 {l : Launch} {p : Program} {e : Env} {s : State} {m : MethodId} {args : Array Value} {below : List Frame} {meth : Method} {c : Code} {E : En0} {L : List Nat} (hL : Cov 0 68 L) (C : Cx E L "PlankBridgeLaw" cL_crossTogether 5 p s m args c) (hr : meth.sig.returnType = (some .int)) (hlk : meth.locks = false) {p1 : Nat} {p2 : Int32} {p3 : Int32} {p4 : Nat} {Q : Int32 → St → Prop} (hp1 : kd p1 = 8) (hp4 : kd p4 = 23) (lp4 : ln p4 = 1) (mp4 : p4 ∈ L) {s0 : Int64} {s1 : Int32}  {st : St} (H : Heap) (locs : List Loc) (ls : Array Slot) (h : wL_crossTogether_L16 p1 p2 p3 p4 s0 s1 st Q) (hl : lv_has ls 5 []) (hP : va_P E.1 vwCl (wd E L st) H) (hS : va_S (fA E L s.heap.size) s.heap H locs) : W p l e rmL_crossTogether s m args below meth c H locs 4 24 (MQ below (zI E L Q (fA E L s.heap.size)) args s rmL_crossTogether.cells rmL_crossTogether.slots (fA E L s.heap.size)) (F0 m 16 ls [.long s0, .int s1, .ref (E.2.1 p4)]) := by
  unfold wL_crossTogether_L16 at h
  obtain ⟨hi, h⟩ := h
  refine z_last C hP hS hp4 lp4 mp4 hi dL_crossTogether_16 (fun H locs hP hS => ?_)
  obtain ⟨st4, est4⟩ : ∃ z, z = uJ st p4 (s1 : Int32).toNatClampNeg s0 := ⟨_, rfl⟩
  rw [← est4] at hP; have h := h st4 est4
  refine lv_goto C.1 C.2.1 (tgt := 32) dL_crossTogether_17 (by decide) ?_
  refine lv_iconst C.1 C.2.1 (v := 0) dL_crossTogether_32 rfl ?_
  refine W.widen (k := rmL_crossTogether.cells) (n := rmL_crossTogether.slots) (Nat.le_of_ble_eq_true rfl) (Nat.le_of_ble_eq_true rfl) ?_
  exact z_ri C hr hlk rfl hP hS h dL_crossTogether_33
set_option maxHeartbeats 4000000 in
set_option maxRecDepth 100000 in
theorem tL_crossTogether {l : Launch} {E : En0} {L : List Nat} (hE : EK E L) (hL : Cov 0 68 L) {p1 : Nat} {p2 : Int32} {p3 : Int32} {p4 : Nat} {st : St} {Q : Int32 → St → Prop} (hp1 : kd p1 = 8) (hp4 : kd p4 = 23) (lp4 : ln p4 = 1) (mp4 : p4 ∈ L) (hfl : l.stackTraces = false) (h : wL_crossTogether p1 p2 p3 p4 st Q) : Mw l yL_crossTogether cL_crossTogether 5 (some .int) [(0, 17, 20, 24), (0, 17, 24, 19), (0, 17, 28, 13)] rmL_crossTogether E L [.ref (E.2.1 p1), .int p2, .int p3, .ref (E.2.1 p4)] st (zI E L Q) := by
  refine Mw.of hE (by decide) (Nat.le_of_ble_eq_true rfl) ?_
  intro p e s m below meth c ls C hr hlk htab hNC hl hP
  replace C : Cx E L "PlankBridgeLaw" cL_crossTogether 5 p s m _ c := C
  have hS : va_S (fA E L s.heap.size) s.heap s.heap [] := va_S.rf
  replace hl : lv_has ls 5 [(0, .ref (E.2.1 p1)), (1, .int p2), (2, .int p3), (3, .ref (E.2.1 p4))] := hl
  unfold wL_crossTogether at h
  refine lv_aload_n C.1 C.2.1 dL_crossTogether_0 rfl (lv_at hl 3 rfl) ?_
  refine lv_iconst C.1 C.2.1 (v := 0) dL_crossTogether_1 rfl ?_
  refine lv_aload_n C.1 C.2.1 dL_crossTogether_2 rfl (lv_at hl 0 rfl) ?_
  refine lv_iload_n C.1 C.2.1 dL_crossTogether_3 rfl (lv_at hl 1 rfl) ?_
  refine lv_iload_n C.1 C.2.1 dL_crossTogether_4 rfl (lv_at hl 2 rfl) ?_
  refine z_kiw hS (z_runVx (As := [.int p2, .int p3]) (rest := [.int 0, .ref (E.2.1 p4)]) C hP hS (m8 hp1 (hL.mo (Nat.le_of_ble_eq_true rfl) (Nat.le_of_ble_eq_true rfl))) (e8 hp1) rfl (tX9_crossTogether C.2.2.2.2.2.2.1 (hL.mo (Nat.le_of_ble_eq_true rfl) (Nat.le_of_ble_eq_true rfl)) hp1 hfl h) q1091 q1092 q1093 q105 q1094 hdX9_crossTogether ⟨Nat.le_of_ble_eq_true rfl, Nat.le_of_ble_eq_true rfl⟩ ⟨Nat.le_of_ble_eq_true rfl, Nat.le_of_ble_eq_true rfl⟩ rfl hl.1 rfl (lv_room (Nat.le_of_ble_eq_true rfl)) dL_crossTogether_5) (fun Ex ce q9 st3 H locs h hP hS hce hcv hcl => ?_) (fun r1 st2 H locs h hP hS => ?_)
  · rcases h with ⟨rfl, h⟩ | ⟨rfl, h⟩ | ⟨rfl, h⟩
    · skip
      refine vx_catch (name := "java/lang/IndexOutOfBoundsException") C.2.2.2.1 [] ⟨0, 17, 20, 24⟩ [⟨0, 17, 24, 19⟩, ⟨0, 17, 28, 13⟩] (htab.trans rfl) (fun z hz => absurd hz List.not_mem_nil) rfl (by decide) (C.T q955) (va_Nw.use rfl (C.NE9.1 _ q966 rfl)) hce hcv hcl ?_
      refine lv_astore C.1 C.2.1 dL_crossTogether_20 hl (Nat.le_of_ble_eq_true rfl) rfl (fun ls hl => ?_)
      have hl : lv_has ls 5 [(4, .ref q9), (0, .ref (E.2.1 p1)), (1, .int p2), (2, .int p3), (3, .ref (E.2.1 p4))] := hl
      refine lv_iconst C.1 C.2.1 (v := 1) dL_crossTogether_22 rfl ?_
      refine W.widen (k := rmL_crossTogether.cells) (n := rmL_crossTogether.slots) (Nat.le_of_ble_eq_true rfl) (Nat.le_of_ble_eq_true rfl) ?_
      exact z_ri C hr hlk rfl hP hS h dL_crossTogether_23
    · skip
      refine vx_catch (name := "java/lang/IllegalArgumentException") C.2.2.2.1 [⟨0, 17, 20, 24⟩] ⟨0, 17, 24, 19⟩ [⟨0, 17, 28, 13⟩] (htab.trans rfl) (List.forall_mem_cons.mpr ⟨Or.inr ⟨by decide, "java/lang/IndexOutOfBoundsException", C.T q955, hNC.2.2⟩, (fun z hz => absurd hz List.not_mem_nil)⟩) rfl (by decide) (C.T q931) (va_Nw.use rfl (C.NE9.1 _ q938 rfl)) hce hcv hcl ?_
      refine lv_astore C.1 C.2.1 dL_crossTogether_24 hl (Nat.le_of_ble_eq_true rfl) rfl (fun ls hl => ?_)
      have hl : lv_has ls 5 [(4, .ref q9), (0, .ref (E.2.1 p1)), (1, .int p2), (2, .int p3), (3, .ref (E.2.1 p4))] := hl
      refine lv_iconst C.1 C.2.1 (v := 2) dL_crossTogether_26 rfl ?_
      refine W.widen (k := rmL_crossTogether.cells) (n := rmL_crossTogether.slots) (Nat.le_of_ble_eq_true rfl) (Nat.le_of_ble_eq_true rfl) ?_
      exact z_ri C hr hlk rfl hP hS h dL_crossTogether_27
    · skip
      refine vx_catch (name := "java/lang/IllegalStateException") C.2.2.2.1 [⟨0, 17, 20, 24⟩, ⟨0, 17, 24, 19⟩] ⟨0, 17, 28, 13⟩ [] (htab.trans rfl) (List.forall_mem_cons.mpr ⟨Or.inr ⟨by decide, "java/lang/IndexOutOfBoundsException", C.T q955, hNC.1⟩, (List.forall_mem_cons.mpr ⟨Or.inr ⟨by decide, "java/lang/IllegalArgumentException", C.T q931, hNC.2.1⟩, (fun z hz => absurd hz List.not_mem_nil)⟩)⟩) rfl (by decide) (C.T q848) (va_Nw.use rfl (C.NE9.1 _ q859 rfl)) hce hcv hcl ?_
      refine lv_astore C.1 C.2.1 dL_crossTogether_28 hl (Nat.le_of_ble_eq_true rfl) rfl (fun ls hl => ?_)
      have hl : lv_has ls 5 [(4, .ref q9), (0, .ref (E.2.1 p1)), (1, .int p2), (2, .int p3), (3, .ref (E.2.1 p4))] := hl
      refine lv_iconst C.1 C.2.1 (v := 3) dL_crossTogether_30 rfl ?_
      refine W.widen (k := rmL_crossTogether.cells) (n := rmL_crossTogether.slots) (Nat.le_of_ble_eq_true rfl) (Nat.le_of_ble_eq_true rfl) ?_
      exact z_ri C hr hlk rfl hP hS h dL_crossTogether_31
  · skip
    obtain ⟨hr1, h⟩ := h
    refine lv_if_eq C.1 C.2.1 (tgt := 15) dL_crossTogether_8 (by decide) (fun hc => ?_) (fun hc => ?_)
    · have h := h.1 hc
      refine lv_lconst C.1 C.2.1 (v := 0) dL_crossTogether_15 rfl ?_
      exact tL_crossTogether_L16 hL C hr hlk hp1 hp4 lp4 mp4 _ _ _ h (lv_sub hl [] rfl) hP hS
    · have h := h.2 hc
      refine lv_lconst C.1 C.2.1 (v := 1) dL_crossTogether_11 rfl ?_
      refine lv_goto C.1 C.2.1 (tgt := 16) dL_crossTogether_12 (by decide) ?_
      exact tL_crossTogether_L16 hL C hr hlk hp1 hp4 lp4 mp4 _ _ _ h (lv_sub hl [] rfl) hP hS
def rmL_rest : Room := { frames := 7, cells := 1, slots := 6, locals := 111 }
def wL_rest (p1 : Nat) (p2 : Int32) (p3 : Nat) (st : St) (Q : Int32 → St → Prop) : Prop :=
  (wX9_rest p1 p2 st (fun r1 st2 => (vp_in 0 1 ∧ ∀ st4, st4 = uJ st2 p3 (0 : Int32).toNatClampNeg ((r1 : Int32).toInt64) → Q 0 st4)) (fun cls u9 => cls = "java/lang/IllegalArgumentException" ∧ Q 1 u9))
theorem hdL_rest : yL_rest.cls ≠ "java/lang/invoke/MethodHandle" ∧ yL_rest.cls ≠ "java/lang/invoke/VarHandle" ∧ (parseMethodDescriptor yL_rest.desc).map (fun d => d.parameters.length) = some 3 := by decide +kernel
set_option maxHeartbeats 4000000 in
set_option maxRecDepth 100000 in
theorem tL_rest {l : Launch} {E : En0} {L : List Nat} (hE : EK E L) (hL : Cov 0 68 L) {p1 : Nat} {p2 : Int32} {p3 : Nat} {st : St} {Q : Int32 → St → Prop} (hp1 : kd p1 = 8) (hp3 : kd p3 = 23) (lp3 : ln p3 = 1) (mp3 : p3 ∈ L) (hfl : l.stackTraces = false) (h : wL_rest p1 p2 p3 st Q) : Mw l yL_rest cL_rest 4 (some .int) [(0, 9, 12, 19)] rmL_rest E L [.ref (E.2.1 p1), .int p2, .ref (E.2.1 p3)] st (zI E L Q) := by
  refine Mw.of hE (by decide) (Nat.le_of_ble_eq_true rfl) ?_
  intro p e s m below meth c ls C hr hlk htab hNC hl hP
  replace C : Cx E L "PlankBridgeLaw" cL_rest 4 p s m _ c := C
  have hS : va_S (fA E L s.heap.size) s.heap s.heap [] := va_S.rf
  replace hl : lv_has ls 4 [(0, .ref (E.2.1 p1)), (1, .int p2), (2, .ref (E.2.1 p3))] := hl
  unfold wL_rest at h
  refine lv_aload_n C.1 C.2.1 dL_rest_0 rfl (lv_at hl 2 rfl) ?_
  refine lv_iconst C.1 C.2.1 (v := 0) dL_rest_1 rfl ?_
  refine lv_aload_n C.1 C.2.1 dL_rest_2 rfl (lv_at hl 0 rfl) ?_
  refine lv_iload_n C.1 C.2.1 dL_rest_3 rfl (lv_at hl 1 rfl) ?_
  refine z_kiw hS (z_runVx (As := [.int p2]) (rest := [.int 0, .ref (E.2.1 p3)]) C hP hS (m8 hp1 (hL.mo (Nat.le_of_ble_eq_true rfl) (Nat.le_of_ble_eq_true rfl))) (e8 hp1) rfl (tX9_rest C.2.2.2.2.2.2.1 (hL.mo (Nat.le_of_ble_eq_true rfl) (Nat.le_of_ble_eq_true rfl)) hp1 hfl h) q1103 q1104 q1105 q105 q1106 hdX9_rest ⟨Nat.le_of_ble_eq_true rfl, Nat.le_of_ble_eq_true rfl⟩ ⟨Nat.le_of_ble_eq_true rfl, Nat.le_of_ble_eq_true rfl⟩ rfl hl.1 rfl (lv_room (Nat.le_of_ble_eq_true rfl)) dL_rest_4) (fun Ex ce q9 st3 H locs h hP hS hce hcv hcl => ?_) (fun r1 st2 H locs h hP hS => ?_)
  · obtain ⟨rfl, h⟩ := h
    refine vx_catch (name := "java/lang/IllegalArgumentException") C.2.2.2.1 [] ⟨0, 9, 12, 19⟩ [] (htab.trans rfl) (fun z hz => absurd hz List.not_mem_nil) rfl (by decide) (C.T q931) (va_Nw.use rfl (C.NE9.1 _ q938 rfl)) hce hcv hcl ?_
    refine lv_astore_n C.1 C.2.1 dL_rest_12 rfl hl (Nat.le_of_ble_eq_true rfl) rfl (fun ls hl => ?_)
    have hl : lv_has ls 4 [(3, .ref q9), (0, .ref (E.2.1 p1)), (1, .int p2), (2, .ref (E.2.1 p3))] := hl
    refine lv_iconst C.1 C.2.1 (v := 1) dL_rest_13 rfl ?_
    refine W.widen (k := rmL_rest.cells) (n := rmL_rest.slots) (Nat.le_of_ble_eq_true rfl) (Nat.le_of_ble_eq_true rfl) ?_
    exact z_ri C hr hlk rfl hP hS h dL_rest_14
  · skip
    refine t_i2l C.1 C.2.1 dL_rest_7 rfl ?_
    obtain ⟨hi, h⟩ := h
    refine z_last C hP hS hp3 lp3 mp3 hi dL_rest_8 (fun H locs hP hS => ?_)
    obtain ⟨st4, est4⟩ : ∃ z, z = uJ st2 p3 (0 : Int32).toNatClampNeg ((r1 : Int32).toInt64) := ⟨_, rfl⟩
    rw [← est4] at hP; have h := h st4 est4
    refine lv_goto C.1 C.2.1 (tgt := 15) dL_rest_9 (by decide) ?_
    refine lv_iconst C.1 C.2.1 (v := 0) dL_rest_15 rfl ?_
    refine W.widen (k := rmL_rest.cells) (n := rmL_rest.slots) (Nat.le_of_ble_eq_true rfl) (Nat.le_of_ble_eq_true rfl) ?_
    exact z_ri C hr hlk rfl hP hS h dL_rest_16
def rmL_layPlank : Room := { frames := 8, cells := 2, slots := 12, locals := 134 }
def wL_layPlank (p1 : Nat) (p2 : Int32) (p3 : Int32) (p4 : Nat) (st : St) (Q : Int32 → St → Prop) : Prop :=
  (wX9_layPlank p1 p2 p3 st (fun r1 st2 => (vp_in 0 1 ∧ ∀ st4, st4 = uJ st2 p4 (0 : Int32).toNatClampNeg ((r1 : Int32).toInt64) → Q 0 st4)) (fun cls u9 => (cls = "java/lang/IndexOutOfBoundsException" ∧ Q 1 u9) ∨ (cls = "java/lang/IllegalArgumentException" ∧ Q 2 u9)))
theorem hdL_layPlank : yL_layPlank.cls ≠ "java/lang/invoke/MethodHandle" ∧ yL_layPlank.cls ≠ "java/lang/invoke/VarHandle" ∧ (parseMethodDescriptor yL_layPlank.desc).map (fun d => d.parameters.length) = some 4 := by decide +kernel
set_option maxHeartbeats 4000000 in
set_option maxRecDepth 100000 in
theorem tL_layPlank {l : Launch} {E : En0} {L : List Nat} (hE : EK E L) (hL : Cov 0 68 L) {p1 : Nat} {p2 : Int32} {p3 : Int32} {p4 : Nat} {st : St} {Q : Int32 → St → Prop} (hp1 : kd p1 = 8) (hp4 : kd p4 = 23) (lp4 : ln p4 = 1) (mp4 : p4 ∈ L) (hfl : l.stackTraces = false) (h : wL_layPlank p1 p2 p3 p4 st Q) : Mw l yL_layPlank cL_layPlank 5 (some .int) [(0, 10, 13, 24), (0, 10, 17, 19)] rmL_layPlank E L [.ref (E.2.1 p1), .int p2, .int p3, .ref (E.2.1 p4)] st (zI E L Q) := by
  refine Mw.of hE (by decide) (Nat.le_of_ble_eq_true rfl) ?_
  intro p e s m below meth c ls C hr hlk htab hNC hl hP
  replace C : Cx E L "PlankBridgeLaw" cL_layPlank 5 p s m _ c := C
  have hS : va_S (fA E L s.heap.size) s.heap s.heap [] := va_S.rf
  replace hl : lv_has ls 5 [(0, .ref (E.2.1 p1)), (1, .int p2), (2, .int p3), (3, .ref (E.2.1 p4))] := hl
  unfold wL_layPlank at h
  refine lv_aload_n C.1 C.2.1 dL_layPlank_0 rfl (lv_at hl 3 rfl) ?_
  refine lv_iconst C.1 C.2.1 (v := 0) dL_layPlank_1 rfl ?_
  refine lv_aload_n C.1 C.2.1 dL_layPlank_2 rfl (lv_at hl 0 rfl) ?_
  refine lv_iload_n C.1 C.2.1 dL_layPlank_3 rfl (lv_at hl 1 rfl) ?_
  refine lv_iload_n C.1 C.2.1 dL_layPlank_4 rfl (lv_at hl 2 rfl) ?_
  refine z_kiw hS (z_runVx (As := [.int p2, .int p3]) (rest := [.int 0, .ref (E.2.1 p4)]) C hP hS (m8 hp1 (hL.mo (Nat.le_of_ble_eq_true rfl) (Nat.le_of_ble_eq_true rfl))) (e8 hp1) rfl (tX9_layPlank C.2.2.2.2.2.2.1 (hL.mo (Nat.le_of_ble_eq_true rfl) (Nat.le_of_ble_eq_true rfl)) hp1 hfl h) q1112 q1113 q1114 q105 q1115 hdX9_layPlank ⟨Nat.le_of_ble_eq_true rfl, Nat.le_of_ble_eq_true rfl⟩ ⟨Nat.le_of_ble_eq_true rfl, Nat.le_of_ble_eq_true rfl⟩ rfl hl.1 rfl (lv_room (Nat.le_of_ble_eq_true rfl)) dL_layPlank_5) (fun Ex ce q9 st3 H locs h hP hS hce hcv hcl => ?_) (fun r1 st2 H locs h hP hS => ?_)
  · rcases h with ⟨rfl, h⟩ | ⟨rfl, h⟩
    · skip
      refine vx_catch (name := "java/lang/IndexOutOfBoundsException") C.2.2.2.1 [] ⟨0, 10, 13, 24⟩ [⟨0, 10, 17, 19⟩] (htab.trans rfl) (fun z hz => absurd hz List.not_mem_nil) rfl (by decide) (C.T q955) (va_Nw.use rfl (C.NE9.1 _ q966 rfl)) hce hcv hcl ?_
      refine lv_astore C.1 C.2.1 dL_layPlank_13 hl (Nat.le_of_ble_eq_true rfl) rfl (fun ls hl => ?_)
      have hl : lv_has ls 5 [(4, .ref q9), (0, .ref (E.2.1 p1)), (1, .int p2), (2, .int p3), (3, .ref (E.2.1 p4))] := hl
      refine lv_iconst C.1 C.2.1 (v := 1) dL_layPlank_15 rfl ?_
      refine W.widen (k := rmL_layPlank.cells) (n := rmL_layPlank.slots) (Nat.le_of_ble_eq_true rfl) (Nat.le_of_ble_eq_true rfl) ?_
      exact z_ri C hr hlk rfl hP hS h dL_layPlank_16
    · skip
      refine vx_catch (name := "java/lang/IllegalArgumentException") C.2.2.2.1 [⟨0, 10, 13, 24⟩] ⟨0, 10, 17, 19⟩ [] (htab.trans rfl) (List.forall_mem_cons.mpr ⟨Or.inr ⟨by decide, "java/lang/IndexOutOfBoundsException", C.T q955, hNC.2.2⟩, (fun z hz => absurd hz List.not_mem_nil)⟩) rfl (by decide) (C.T q931) (va_Nw.use rfl (C.NE9.1 _ q938 rfl)) hce hcv hcl ?_
      refine lv_astore C.1 C.2.1 dL_layPlank_17 hl (Nat.le_of_ble_eq_true rfl) rfl (fun ls hl => ?_)
      have hl : lv_has ls 5 [(4, .ref q9), (0, .ref (E.2.1 p1)), (1, .int p2), (2, .int p3), (3, .ref (E.2.1 p4))] := hl
      refine lv_iconst C.1 C.2.1 (v := 2) dL_layPlank_19 rfl ?_
      refine W.widen (k := rmL_layPlank.cells) (n := rmL_layPlank.slots) (Nat.le_of_ble_eq_true rfl) (Nat.le_of_ble_eq_true rfl) ?_
      exact z_ri C hr hlk rfl hP hS h dL_layPlank_20
  · skip
    refine t_i2l C.1 C.2.1 dL_layPlank_8 rfl ?_
    obtain ⟨hi, h⟩ := h
    refine z_last C hP hS hp4 lp4 mp4 hi dL_layPlank_9 (fun H locs hP hS => ?_)
    obtain ⟨st4, est4⟩ : ∃ z, z = uJ st2 p4 (0 : Int32).toNatClampNeg ((r1 : Int32).toInt64) := ⟨_, rfl⟩
    rw [← est4] at hP; have h := h st4 est4
    refine lv_goto C.1 C.2.1 (tgt := 21) dL_layPlank_10 (by decide) ?_
    refine lv_iconst C.1 C.2.1 (v := 0) dL_layPlank_21 rfl ?_
    refine W.widen (k := rmL_layPlank.cells) (n := rmL_layPlank.slots) (Nat.le_of_ble_eq_true rfl) (Nat.le_of_ble_eq_true rfl) ?_
    exact z_ri C hr hlk rfl hP hS h dL_layPlank_22
def rmL_runPlan : Room := { frames := 8, cells := 1, slots := 6, locals := 185 }
def wL_runPlan (p1 : Nat) (p2 : Int32) (p3 : Nat) (st : St) (Q : Int32 → St → Prop) : Prop :=
  (wX9_runPlan p1 p2 st (fun r1 st2 => (vp_in 0 1 ∧ ∀ st4, st4 = uJ st2 p3 (0 : Int32).toNatClampNeg ((r1 : Int32).toInt64) → Q 0 st4)) (fun cls u9 => cls = "java/lang/IndexOutOfBoundsException" ∧ Q 1 u9))
theorem hdL_runPlan : yL_runPlan.cls ≠ "java/lang/invoke/MethodHandle" ∧ yL_runPlan.cls ≠ "java/lang/invoke/VarHandle" ∧ (parseMethodDescriptor yL_runPlan.desc).map (fun d => d.parameters.length) = some 3 := by decide +kernel
set_option maxHeartbeats 4000000 in
set_option maxRecDepth 100000 in
theorem tL_runPlan {l : Launch} {E : En0} {L : List Nat} (hE : EK E L) (hL : Cov 0 68 L) {p1 : Nat} {p2 : Int32} {p3 : Nat} {st : St} {Q : Int32 → St → Prop} (hp1 : kd p1 = 8) (hp3 : kd p3 = 23) (lp3 : ln p3 = 1) (mp3 : p3 ∈ L) (hfl : l.stackTraces = false) (h : wL_runPlan p1 p2 p3 st Q) : Mw l yL_runPlan cL_runPlan 4 (some .int) [(0, 9, 12, 24)] rmL_runPlan E L [.ref (E.2.1 p1), .int p2, .ref (E.2.1 p3)] st (zI E L Q) := by
  refine Mw.of hE (by decide) (Nat.le_of_ble_eq_true rfl) ?_
  intro p e s m below meth c ls C hr hlk htab hNC hl hP
  replace C : Cx E L "PlankBridgeLaw" cL_runPlan 4 p s m _ c := C
  have hS : va_S (fA E L s.heap.size) s.heap s.heap [] := va_S.rf
  replace hl : lv_has ls 4 [(0, .ref (E.2.1 p1)), (1, .int p2), (2, .ref (E.2.1 p3))] := hl
  unfold wL_runPlan at h
  refine lv_aload_n C.1 C.2.1 dL_runPlan_0 rfl (lv_at hl 2 rfl) ?_
  refine lv_iconst C.1 C.2.1 (v := 0) dL_runPlan_1 rfl ?_
  refine lv_aload_n C.1 C.2.1 dL_runPlan_2 rfl (lv_at hl 0 rfl) ?_
  refine lv_iload_n C.1 C.2.1 dL_runPlan_3 rfl (lv_at hl 1 rfl) ?_
  refine z_kiw hS (z_runVx (As := [.int p2]) (rest := [.int 0, .ref (E.2.1 p3)]) C hP hS (m8 hp1 (hL.mo (Nat.le_of_ble_eq_true rfl) (Nat.le_of_ble_eq_true rfl))) (e8 hp1) rfl (tX9_runPlan C.2.2.2.2.2.2.1 (hL.mo (Nat.le_of_ble_eq_true rfl) (Nat.le_of_ble_eq_true rfl)) hp1 hfl h) q1121 q1122 q1123 q105 q1124 hdX9_runPlan ⟨Nat.le_of_ble_eq_true rfl, Nat.le_of_ble_eq_true rfl⟩ ⟨Nat.le_of_ble_eq_true rfl, Nat.le_of_ble_eq_true rfl⟩ rfl hl.1 rfl (lv_room (Nat.le_of_ble_eq_true rfl)) dL_runPlan_4) (fun Ex ce q9 st3 H locs h hP hS hce hcv hcl => ?_) (fun r1 st2 H locs h hP hS => ?_)
  · obtain ⟨rfl, h⟩ := h
    refine vx_catch (name := "java/lang/IndexOutOfBoundsException") C.2.2.2.1 [] ⟨0, 9, 12, 24⟩ [] (htab.trans rfl) (fun z hz => absurd hz List.not_mem_nil) rfl (by decide) (C.T q955) (va_Nw.use rfl (C.NE9.1 _ q966 rfl)) hce hcv hcl ?_
    refine lv_astore_n C.1 C.2.1 dL_runPlan_12 rfl hl (Nat.le_of_ble_eq_true rfl) rfl (fun ls hl => ?_)
    have hl : lv_has ls 4 [(3, .ref q9), (0, .ref (E.2.1 p1)), (1, .int p2), (2, .ref (E.2.1 p3))] := hl
    refine lv_iconst C.1 C.2.1 (v := 1) dL_runPlan_13 rfl ?_
    refine W.widen (k := rmL_runPlan.cells) (n := rmL_runPlan.slots) (Nat.le_of_ble_eq_true rfl) (Nat.le_of_ble_eq_true rfl) ?_
    exact z_ri C hr hlk rfl hP hS h dL_runPlan_14
  · skip
    refine t_i2l C.1 C.2.1 dL_runPlan_7 rfl ?_
    obtain ⟨hi, h⟩ := h
    refine z_last C hP hS hp3 lp3 mp3 hi dL_runPlan_8 (fun H locs hP hS => ?_)
    obtain ⟨st4, est4⟩ : ∃ z, z = uJ st2 p3 (0 : Int32).toNatClampNeg ((r1 : Int32).toInt64) := ⟨_, rfl⟩
    rw [← est4] at hP; have h := h st4 est4
    refine lv_goto C.1 C.2.1 (tgt := 15) dL_runPlan_9 (by decide) ?_
    refine lv_iconst C.1 C.2.1 (v := 0) dL_runPlan_15 rfl ?_
    refine W.widen (k := rmL_runPlan.cells) (n := rmL_runPlan.slots) (Nat.le_of_ble_eq_true rfl) (Nat.le_of_ble_eq_true rfl) ?_
    exact z_ri C hr hlk rfl hP hS h dL_runPlan_16
def rmL_noteOf : Room := { frames := 7, cells := 1, slots := 6, locals := 111 }
def wL_noteOf (p1 : Nat) (p2 : Int32) (p3 : Nat) (st : St) (Q : Int32 → St → Prop) : Prop :=
  (wX9_noteOf p1 p2 st (fun r1 st2 => (vp_in 0 1 ∧ ∀ st4, st4 = uJ st2 p3 (0 : Int32).toNatClampNeg ((r1 : Int32).toInt64) → Q 0 st4)) (fun cls u9 => cls = "java/lang/IndexOutOfBoundsException" ∧ Q 1 u9))
theorem hdL_noteOf : yL_noteOf.cls ≠ "java/lang/invoke/MethodHandle" ∧ yL_noteOf.cls ≠ "java/lang/invoke/VarHandle" ∧ (parseMethodDescriptor yL_noteOf.desc).map (fun d => d.parameters.length) = some 3 := by decide +kernel
set_option maxHeartbeats 4000000 in
set_option maxRecDepth 100000 in
theorem tL_noteOf {l : Launch} {E : En0} {L : List Nat} (hE : EK E L) (hL : Cov 0 68 L) {p1 : Nat} {p2 : Int32} {p3 : Nat} {st : St} {Q : Int32 → St → Prop} (hp1 : kd p1 = 8) (hp3 : kd p3 = 23) (lp3 : ln p3 = 1) (mp3 : p3 ∈ L) (hfl : l.stackTraces = false) (h : wL_noteOf p1 p2 p3 st Q) : Mw l yL_noteOf cL_noteOf 4 (some .int) [(0, 9, 12, 24)] rmL_noteOf E L [.ref (E.2.1 p1), .int p2, .ref (E.2.1 p3)] st (zI E L Q) := by
  refine Mw.of hE (by decide) (Nat.le_of_ble_eq_true rfl) ?_
  intro p e s m below meth c ls C hr hlk htab hNC hl hP
  replace C : Cx E L "PlankBridgeLaw" cL_noteOf 4 p s m _ c := C
  have hS : va_S (fA E L s.heap.size) s.heap s.heap [] := va_S.rf
  replace hl : lv_has ls 4 [(0, .ref (E.2.1 p1)), (1, .int p2), (2, .ref (E.2.1 p3))] := hl
  unfold wL_noteOf at h
  refine lv_aload_n C.1 C.2.1 dL_noteOf_0 rfl (lv_at hl 2 rfl) ?_
  refine lv_iconst C.1 C.2.1 (v := 0) dL_noteOf_1 rfl ?_
  refine lv_aload_n C.1 C.2.1 dL_noteOf_2 rfl (lv_at hl 0 rfl) ?_
  refine lv_iload_n C.1 C.2.1 dL_noteOf_3 rfl (lv_at hl 1 rfl) ?_
  refine z_kiw hS (z_runVx (As := [.int p2]) (rest := [.int 0, .ref (E.2.1 p3)]) C hP hS (m8 hp1 (hL.mo (Nat.le_of_ble_eq_true rfl) (Nat.le_of_ble_eq_true rfl))) (e8 hp1) rfl (tX9_noteOf C.2.2.2.2.2.2.1 (hL.mo (Nat.le_of_ble_eq_true rfl) (Nat.le_of_ble_eq_true rfl)) hp1 hfl h) q1219 q1220 q1221 q105 q1222 hdX9_noteOf ⟨Nat.le_of_ble_eq_true rfl, Nat.le_of_ble_eq_true rfl⟩ ⟨Nat.le_of_ble_eq_true rfl, Nat.le_of_ble_eq_true rfl⟩ rfl hl.1 rfl (lv_room (Nat.le_of_ble_eq_true rfl)) dL_noteOf_4) (fun Ex ce q9 st3 H locs h hP hS hce hcv hcl => ?_) (fun r1 st2 H locs h hP hS => ?_)
  · obtain ⟨rfl, h⟩ := h
    refine vx_catch (name := "java/lang/IndexOutOfBoundsException") C.2.2.2.1 [] ⟨0, 9, 12, 24⟩ [] (htab.trans rfl) (fun z hz => absurd hz List.not_mem_nil) rfl (by decide) (C.T q955) (va_Nw.use rfl (C.NE9.1 _ q966 rfl)) hce hcv hcl ?_
    refine lv_astore_n C.1 C.2.1 dL_noteOf_12 rfl hl (Nat.le_of_ble_eq_true rfl) rfl (fun ls hl => ?_)
    have hl : lv_has ls 4 [(3, .ref q9), (0, .ref (E.2.1 p1)), (1, .int p2), (2, .ref (E.2.1 p3))] := hl
    refine lv_iconst C.1 C.2.1 (v := 1) dL_noteOf_13 rfl ?_
    refine W.widen (k := rmL_noteOf.cells) (n := rmL_noteOf.slots) (Nat.le_of_ble_eq_true rfl) (Nat.le_of_ble_eq_true rfl) ?_
    exact z_ri C hr hlk rfl hP hS h dL_noteOf_14
  · skip
    refine t_i2l C.1 C.2.1 dL_noteOf_7 rfl ?_
    obtain ⟨hi, h⟩ := h
    refine z_last C hP hS hp3 lp3 mp3 hi dL_noteOf_8 (fun H locs hP hS => ?_)
    obtain ⟨st4, est4⟩ : ∃ z, z = uJ st2 p3 (0 : Int32).toNatClampNeg ((r1 : Int32).toInt64) := ⟨_, rfl⟩
    rw [← est4] at hP; have h := h st4 est4
    refine lv_goto C.1 C.2.1 (tgt := 15) dL_noteOf_9 (by decide) ?_
    refine lv_iconst C.1 C.2.1 (v := 0) dL_noteOf_15 rfl ?_
    refine W.widen (k := rmL_noteOf.cells) (n := rmL_noteOf.slots) (Nat.le_of_ble_eq_true rfl) (Nat.le_of_ble_eq_true rfl) ?_
    exact z_ri C hr hlk rfl hP hS h dL_noteOf_16
def rmL_canCrossAlone : Room := { frames := 8, cells := 1, slots := 6, locals := 135 }
def wL_canCrossAlone_L15 (p1 : Nat) (p2 : Int32) (p3 : Nat)  (s0 : Int64) (s1 : Int32) (st : St) (Q : Int32 → St → Prop) : Prop :=
  (vp_in s1 1 ∧ ∀ st4, st4 = uJ st p3 (s1 : Int32).toNatClampNeg s0 → Q 0 st4)
def wL_canCrossAlone (p1 : Nat) (p2 : Int32) (p3 : Nat) (st : St) (Q : Int32 → St → Prop) : Prop :=
  (wX9_canCrossAlone p1 p2 st (fun r1 st2 => ((r1 = 0 → wL_canCrossAlone_L15 p1 p2 p3 0 0 st2 Q) ∧ (¬ r1 = 0 → wL_canCrossAlone_L15 p1 p2 p3 1 0 st2 Q))) (fun cls u9 => cls = "java/lang/IndexOutOfBoundsException" ∧ Q 1 u9))
theorem hdL_canCrossAlone : yL_canCrossAlone.cls ≠ "java/lang/invoke/MethodHandle" ∧ yL_canCrossAlone.cls ≠ "java/lang/invoke/VarHandle" ∧ (parseMethodDescriptor yL_canCrossAlone.desc).map (fun d => d.parameters.length) = some 3 := by decide +kernel
set_option maxHeartbeats 4000000 in
set_option maxRecDepth 100000 in
theorem tL_canCrossAlone_L15 {l : Launch} {p : Program} {e : Env} {s : State} {m : MethodId} {args : Array Value} {below : List Frame} {meth : Method} {c : Code} {E : En0} {L : List Nat} (hL : Cov 0 68 L) (C : Cx E L "PlankBridgeLaw" cL_canCrossAlone 4 p s m args c) (hr : meth.sig.returnType = (some .int)) (hlk : meth.locks = false) {p1 : Nat} {p2 : Int32} {p3 : Nat} {Q : Int32 → St → Prop} (hp1 : kd p1 = 8) (hp3 : kd p3 = 23) (lp3 : ln p3 = 1) (mp3 : p3 ∈ L) {s0 : Int64} {s1 : Int32}  {st : St} (H : Heap) (locs : List Loc) (ls : Array Slot) (h : wL_canCrossAlone_L15 p1 p2 p3 s0 s1 st Q) (hl : lv_has ls 4 []) (hP : va_P E.1 vwCl (wd E L st) H) (hS : va_S (fA E L s.heap.size) s.heap H locs) : W p l e rmL_canCrossAlone s m args below meth c H locs 1 6 (MQ below (zI E L Q (fA E L s.heap.size)) args s rmL_canCrossAlone.cells rmL_canCrossAlone.slots (fA E L s.heap.size)) (F0 m 15 ls [.long s0, .int s1, .ref (E.2.1 p3)]) := by
  unfold wL_canCrossAlone_L15 at h
  obtain ⟨hi, h⟩ := h
  refine z_last C hP hS hp3 lp3 mp3 hi dL_canCrossAlone_15 (fun H locs hP hS => ?_)
  obtain ⟨st4, est4⟩ : ∃ z, z = uJ st p3 (s1 : Int32).toNatClampNeg s0 := ⟨_, rfl⟩
  rw [← est4] at hP; have h := h st4 est4
  refine lv_goto C.1 C.2.1 (tgt := 22) dL_canCrossAlone_16 (by decide) ?_
  refine lv_iconst C.1 C.2.1 (v := 0) dL_canCrossAlone_22 rfl ?_
  refine W.widen (k := rmL_canCrossAlone.cells) (n := rmL_canCrossAlone.slots) (Nat.le_of_ble_eq_true rfl) (Nat.le_of_ble_eq_true rfl) ?_
  exact z_ri C hr hlk rfl hP hS h dL_canCrossAlone_23
set_option maxHeartbeats 4000000 in
set_option maxRecDepth 100000 in
theorem tL_canCrossAlone {l : Launch} {E : En0} {L : List Nat} (hE : EK E L) (hL : Cov 0 68 L) {p1 : Nat} {p2 : Int32} {p3 : Nat} {st : St} {Q : Int32 → St → Prop} (hp1 : kd p1 = 8) (hp3 : kd p3 = 23) (lp3 : ln p3 = 1) (mp3 : p3 ∈ L) (hfl : l.stackTraces = false) (h : wL_canCrossAlone p1 p2 p3 st Q) : Mw l yL_canCrossAlone cL_canCrossAlone 4 (some .int) [(0, 16, 19, 24)] rmL_canCrossAlone E L [.ref (E.2.1 p1), .int p2, .ref (E.2.1 p3)] st (zI E L Q) := by
  refine Mw.of hE (by decide) (Nat.le_of_ble_eq_true rfl) ?_
  intro p e s m below meth c ls C hr hlk htab hNC hl hP
  replace C : Cx E L "PlankBridgeLaw" cL_canCrossAlone 4 p s m _ c := C
  have hS : va_S (fA E L s.heap.size) s.heap s.heap [] := va_S.rf
  replace hl : lv_has ls 4 [(0, .ref (E.2.1 p1)), (1, .int p2), (2, .ref (E.2.1 p3))] := hl
  unfold wL_canCrossAlone at h
  refine lv_aload_n C.1 C.2.1 dL_canCrossAlone_0 rfl (lv_at hl 2 rfl) ?_
  refine lv_iconst C.1 C.2.1 (v := 0) dL_canCrossAlone_1 rfl ?_
  refine lv_aload_n C.1 C.2.1 dL_canCrossAlone_2 rfl (lv_at hl 0 rfl) ?_
  refine lv_iload_n C.1 C.2.1 dL_canCrossAlone_3 rfl (lv_at hl 1 rfl) ?_
  refine z_kiw hS (z_runVx (As := [.int p2]) (rest := [.int 0, .ref (E.2.1 p3)]) C hP hS (m8 hp1 (hL.mo (Nat.le_of_ble_eq_true rfl) (Nat.le_of_ble_eq_true rfl))) (e8 hp1) rfl (tX9_canCrossAlone C.2.2.2.2.2.2.1 (hL.mo (Nat.le_of_ble_eq_true rfl) (Nat.le_of_ble_eq_true rfl)) hp1 hfl h) q1227 q1228 q1229 q105 q1230 hdX9_canCrossAlone ⟨Nat.le_of_ble_eq_true rfl, Nat.le_of_ble_eq_true rfl⟩ ⟨Nat.le_of_ble_eq_true rfl, Nat.le_of_ble_eq_true rfl⟩ rfl hl.1 rfl (lv_room (Nat.le_of_ble_eq_true rfl)) dL_canCrossAlone_4) (fun Ex ce q9 st3 H locs h hP hS hce hcv hcl => ?_) (fun r1 st2 H locs h hP hS => ?_)
  · obtain ⟨rfl, h⟩ := h
    refine vx_catch (name := "java/lang/IndexOutOfBoundsException") C.2.2.2.1 [] ⟨0, 16, 19, 24⟩ [] (htab.trans rfl) (fun z hz => absurd hz List.not_mem_nil) rfl (by decide) (C.T q955) (va_Nw.use rfl (C.NE9.1 _ q966 rfl)) hce hcv hcl ?_
    refine lv_astore_n C.1 C.2.1 dL_canCrossAlone_19 rfl hl (Nat.le_of_ble_eq_true rfl) rfl (fun ls hl => ?_)
    have hl : lv_has ls 4 [(3, .ref q9), (0, .ref (E.2.1 p1)), (1, .int p2), (2, .ref (E.2.1 p3))] := hl
    refine lv_iconst C.1 C.2.1 (v := 1) dL_canCrossAlone_20 rfl ?_
    refine W.widen (k := rmL_canCrossAlone.cells) (n := rmL_canCrossAlone.slots) (Nat.le_of_ble_eq_true rfl) (Nat.le_of_ble_eq_true rfl) ?_
    exact z_ri C hr hlk rfl hP hS h dL_canCrossAlone_21
  · skip
    obtain ⟨hr1, h⟩ := h
    refine lv_if_eq C.1 C.2.1 (tgt := 14) dL_canCrossAlone_7 (by decide) (fun hc => ?_) (fun hc => ?_)
    · have h := h.1 hc
      refine lv_lconst C.1 C.2.1 (v := 0) dL_canCrossAlone_14 rfl ?_
      exact tL_canCrossAlone_L15 hL C hr hlk hp1 hp3 lp3 mp3 _ _ _ h (lv_sub hl [] rfl) hP hS
    · have h := h.2 hc
      refine lv_lconst C.1 C.2.1 (v := 1) dL_canCrossAlone_10 rfl ?_
      refine lv_goto C.1 C.2.1 (tgt := 15) dL_canCrossAlone_11 (by decide) ?_
      exact tL_canCrossAlone_L15 hL C hr hlk hp1 hp3 lp3 mp3 _ _ _ h (lv_sub hl [] rfl) hP hS
def rmL_canCrossTogether : Room := { frames := 9, cells := 3, slots := 18, locals := 155 }
def wL_canCrossTogether_L16 (p1 : Nat) (p2 : Int32) (p3 : Int32) (p4 : Nat)  (s0 : Int64) (s1 : Int32) (st : St) (Q : Int32 → St → Prop) : Prop :=
  (vp_in s1 1 ∧ ∀ st4, st4 = uJ st p4 (s1 : Int32).toNatClampNeg s0 → Q 0 st4)
def wL_canCrossTogether (p1 : Nat) (p2 : Int32) (p3 : Int32) (p4 : Nat) (st : St) (Q : Int32 → St → Prop) : Prop :=
  (wX9_canCrossTogether p1 p2 p3 st (fun r1 st2 => ((r1 = 0 → wL_canCrossTogether_L16 p1 p2 p3 p4 0 0 st2 Q) ∧ (¬ r1 = 0 → wL_canCrossTogether_L16 p1 p2 p3 p4 1 0 st2 Q))) (fun cls u9 => (cls = "java/lang/IndexOutOfBoundsException" ∧ Q 1 u9) ∨ (cls = "java/lang/IllegalArgumentException" ∧ Q 2 u9)))
theorem hdL_canCrossTogether : yL_canCrossTogether.cls ≠ "java/lang/invoke/MethodHandle" ∧ yL_canCrossTogether.cls ≠ "java/lang/invoke/VarHandle" ∧ (parseMethodDescriptor yL_canCrossTogether.desc).map (fun d => d.parameters.length) = some 4 := by decide +kernel
set_option maxHeartbeats 4000000 in
set_option maxRecDepth 100000 in
theorem tL_canCrossTogether_L16 {l : Launch} {p : Program} {e : Env} {s : State} {m : MethodId} {args : Array Value} {below : List Frame} {meth : Method} {c : Code} {E : En0} {L : List Nat} (hL : Cov 0 68 L) (C : Cx E L "PlankBridgeLaw" cL_canCrossTogether 5 p s m args c) (hr : meth.sig.returnType = (some .int)) (hlk : meth.locks = false) {p1 : Nat} {p2 : Int32} {p3 : Int32} {p4 : Nat} {Q : Int32 → St → Prop} (hp1 : kd p1 = 8) (hp4 : kd p4 = 23) (lp4 : ln p4 = 1) (mp4 : p4 ∈ L) {s0 : Int64} {s1 : Int32}  {st : St} (H : Heap) (locs : List Loc) (ls : Array Slot) (h : wL_canCrossTogether_L16 p1 p2 p3 p4 s0 s1 st Q) (hl : lv_has ls 5 []) (hP : va_P E.1 vwCl (wd E L st) H) (hS : va_S (fA E L s.heap.size) s.heap H locs) : W p l e rmL_canCrossTogether s m args below meth c H locs 3 18 (MQ below (zI E L Q (fA E L s.heap.size)) args s rmL_canCrossTogether.cells rmL_canCrossTogether.slots (fA E L s.heap.size)) (F0 m 16 ls [.long s0, .int s1, .ref (E.2.1 p4)]) := by
  unfold wL_canCrossTogether_L16 at h
  obtain ⟨hi, h⟩ := h
  refine z_last C hP hS hp4 lp4 mp4 hi dL_canCrossTogether_16 (fun H locs hP hS => ?_)
  obtain ⟨st4, est4⟩ : ∃ z, z = uJ st p4 (s1 : Int32).toNatClampNeg s0 := ⟨_, rfl⟩
  rw [← est4] at hP; have h := h st4 est4
  refine lv_goto C.1 C.2.1 (tgt := 28) dL_canCrossTogether_17 (by decide) ?_
  refine lv_iconst C.1 C.2.1 (v := 0) dL_canCrossTogether_28 rfl ?_
  refine W.widen (k := rmL_canCrossTogether.cells) (n := rmL_canCrossTogether.slots) (Nat.le_of_ble_eq_true rfl) (Nat.le_of_ble_eq_true rfl) ?_
  exact z_ri C hr hlk rfl hP hS h dL_canCrossTogether_29
set_option maxHeartbeats 4000000 in
set_option maxRecDepth 100000 in
theorem tL_canCrossTogether {l : Launch} {E : En0} {L : List Nat} (hE : EK E L) (hL : Cov 0 68 L) {p1 : Nat} {p2 : Int32} {p3 : Int32} {p4 : Nat} {st : St} {Q : Int32 → St → Prop} (hp1 : kd p1 = 8) (hp4 : kd p4 = 23) (lp4 : ln p4 = 1) (mp4 : p4 ∈ L) (hfl : l.stackTraces = false) (h : wL_canCrossTogether p1 p2 p3 p4 st Q) : Mw l yL_canCrossTogether cL_canCrossTogether 5 (some .int) [(0, 17, 20, 24), (0, 17, 24, 19)] rmL_canCrossTogether E L [.ref (E.2.1 p1), .int p2, .int p3, .ref (E.2.1 p4)] st (zI E L Q) := by
  refine Mw.of hE (by decide) (Nat.le_of_ble_eq_true rfl) ?_
  intro p e s m below meth c ls C hr hlk htab hNC hl hP
  replace C : Cx E L "PlankBridgeLaw" cL_canCrossTogether 5 p s m _ c := C
  have hS : va_S (fA E L s.heap.size) s.heap s.heap [] := va_S.rf
  replace hl : lv_has ls 5 [(0, .ref (E.2.1 p1)), (1, .int p2), (2, .int p3), (3, .ref (E.2.1 p4))] := hl
  unfold wL_canCrossTogether at h
  refine lv_aload_n C.1 C.2.1 dL_canCrossTogether_0 rfl (lv_at hl 3 rfl) ?_
  refine lv_iconst C.1 C.2.1 (v := 0) dL_canCrossTogether_1 rfl ?_
  refine lv_aload_n C.1 C.2.1 dL_canCrossTogether_2 rfl (lv_at hl 0 rfl) ?_
  refine lv_iload_n C.1 C.2.1 dL_canCrossTogether_3 rfl (lv_at hl 1 rfl) ?_
  refine lv_iload_n C.1 C.2.1 dL_canCrossTogether_4 rfl (lv_at hl 2 rfl) ?_
  refine z_kiw hS (z_runVx (As := [.int p2, .int p3]) (rest := [.int 0, .ref (E.2.1 p4)]) C hP hS (m8 hp1 (hL.mo (Nat.le_of_ble_eq_true rfl) (Nat.le_of_ble_eq_true rfl))) (e8 hp1) rfl (tX9_canCrossTogether C.2.2.2.2.2.2.1 (hL.mo (Nat.le_of_ble_eq_true rfl) (Nat.le_of_ble_eq_true rfl)) hp1 hfl h) q1242 q1243 q1244 q105 q1245 hdX9_canCrossTogether ⟨Nat.le_of_ble_eq_true rfl, Nat.le_of_ble_eq_true rfl⟩ ⟨Nat.le_of_ble_eq_true rfl, Nat.le_of_ble_eq_true rfl⟩ rfl hl.1 rfl (lv_room (Nat.le_of_ble_eq_true rfl)) dL_canCrossTogether_5) (fun Ex ce q9 st3 H locs h hP hS hce hcv hcl => ?_) (fun r1 st2 H locs h hP hS => ?_)
  · rcases h with ⟨rfl, h⟩ | ⟨rfl, h⟩
    · skip
      refine vx_catch (name := "java/lang/IndexOutOfBoundsException") C.2.2.2.1 [] ⟨0, 17, 20, 24⟩ [⟨0, 17, 24, 19⟩] (htab.trans rfl) (fun z hz => absurd hz List.not_mem_nil) rfl (by decide) (C.T q955) (va_Nw.use rfl (C.NE9.1 _ q966 rfl)) hce hcv hcl ?_
      refine lv_astore C.1 C.2.1 dL_canCrossTogether_20 hl (Nat.le_of_ble_eq_true rfl) rfl (fun ls hl => ?_)
      have hl : lv_has ls 5 [(4, .ref q9), (0, .ref (E.2.1 p1)), (1, .int p2), (2, .int p3), (3, .ref (E.2.1 p4))] := hl
      refine lv_iconst C.1 C.2.1 (v := 1) dL_canCrossTogether_22 rfl ?_
      refine W.widen (k := rmL_canCrossTogether.cells) (n := rmL_canCrossTogether.slots) (Nat.le_of_ble_eq_true rfl) (Nat.le_of_ble_eq_true rfl) ?_
      exact z_ri C hr hlk rfl hP hS h dL_canCrossTogether_23
    · skip
      refine vx_catch (name := "java/lang/IllegalArgumentException") C.2.2.2.1 [⟨0, 17, 20, 24⟩] ⟨0, 17, 24, 19⟩ [] (htab.trans rfl) (List.forall_mem_cons.mpr ⟨Or.inr ⟨by decide, "java/lang/IndexOutOfBoundsException", C.T q955, hNC.2.2⟩, (fun z hz => absurd hz List.not_mem_nil)⟩) rfl (by decide) (C.T q931) (va_Nw.use rfl (C.NE9.1 _ q938 rfl)) hce hcv hcl ?_
      refine lv_astore C.1 C.2.1 dL_canCrossTogether_24 hl (Nat.le_of_ble_eq_true rfl) rfl (fun ls hl => ?_)
      have hl : lv_has ls 5 [(4, .ref q9), (0, .ref (E.2.1 p1)), (1, .int p2), (2, .int p3), (3, .ref (E.2.1 p4))] := hl
      refine lv_iconst C.1 C.2.1 (v := 2) dL_canCrossTogether_26 rfl ?_
      refine W.widen (k := rmL_canCrossTogether.cells) (n := rmL_canCrossTogether.slots) (Nat.le_of_ble_eq_true rfl) (Nat.le_of_ble_eq_true rfl) ?_
      exact z_ri C hr hlk rfl hP hS h dL_canCrossTogether_27
  · skip
    obtain ⟨hr1, h⟩ := h
    refine lv_if_eq C.1 C.2.1 (tgt := 15) dL_canCrossTogether_8 (by decide) (fun hc => ?_) (fun hc => ?_)
    · have h := h.1 hc
      refine lv_lconst C.1 C.2.1 (v := 0) dL_canCrossTogether_15 rfl ?_
      exact tL_canCrossTogether_L16 hL C hr hlk hp1 hp4 lp4 mp4 _ _ _ h (lv_sub hl [] rfl) hP hS
    · have h := h.2 hc
      refine lv_lconst C.1 C.2.1 (v := 1) dL_canCrossTogether_11 rfl ?_
      refine lv_goto C.1 C.2.1 (tgt := 16) dL_canCrossTogether_12 (by decide) ?_
      exact tL_canCrossTogether_L16 hL C hr hlk hp1 hp4 lp4 mp4 _ _ _ h (lv_sub hl [] rfl) hP hS
def rmL_firstToCross : Room := { frames := 8, cells := 1, slots := 6, locals := 186 }
def wL_firstToCross (p1 : Nat) (p2 : Nat) (st : St) (Q : Int32 → St → Prop) : Prop :=
  (wX9_firstToCross p1 st (fun r1 st2 => (vp_in 0 1 ∧ ∀ st4, st4 = uJ st2 p2 (0 : Int32).toNatClampNeg ((r1 : Int32).toInt64) → Q 0 st4)) (fun cls u9 => cls = "java/lang/IllegalStateException" ∧ Q 1 u9))
theorem hdL_firstToCross : yL_firstToCross.cls ≠ "java/lang/invoke/MethodHandle" ∧ yL_firstToCross.cls ≠ "java/lang/invoke/VarHandle" ∧ (parseMethodDescriptor yL_firstToCross.desc).map (fun d => d.parameters.length) = some 2 := by decide +kernel
set_option maxHeartbeats 4000000 in
set_option maxRecDepth 100000 in
theorem tL_firstToCross {l : Launch} {E : En0} {L : List Nat} (hE : EK E L) (hL : Cov 0 68 L) {p1 : Nat} {p2 : Nat} {st : St} {Q : Int32 → St → Prop} (hp1 : kd p1 = 8) (hp2 : kd p2 = 23) (lp2 : ln p2 = 1) (mp2 : p2 ∈ L) (hfl : l.stackTraces = false) (h : wL_firstToCross p1 p2 st Q) : Mw l yL_firstToCross cL_firstToCross 3 (some .int) [(0, 8, 11, 13)] rmL_firstToCross E L [.ref (E.2.1 p1), .ref (E.2.1 p2)] st (zI E L Q) := by
  refine Mw.of hE (by decide) (Nat.le_of_ble_eq_true rfl) ?_
  intro p e s m below meth c ls C hr hlk htab hNC hl hP
  replace C : Cx E L "PlankBridgeLaw" cL_firstToCross 3 p s m _ c := C
  have hS : va_S (fA E L s.heap.size) s.heap s.heap [] := va_S.rf
  replace hl : lv_has ls 3 [(0, .ref (E.2.1 p1)), (1, .ref (E.2.1 p2))] := hl
  unfold wL_firstToCross at h
  refine lv_aload_n C.1 C.2.1 dL_firstToCross_0 rfl (lv_at hl 1 rfl) ?_
  refine lv_iconst C.1 C.2.1 (v := 0) dL_firstToCross_1 rfl ?_
  refine lv_aload_n C.1 C.2.1 dL_firstToCross_2 rfl (lv_at hl 0 rfl) ?_
  refine z_kiw hS (z_runVx (As := []) (rest := [.int 0, .ref (E.2.1 p2)]) C hP hS (m8 hp1 (hL.mo (Nat.le_of_ble_eq_true rfl) (Nat.le_of_ble_eq_true rfl))) (e8 hp1) rfl (tX9_firstToCross C.2.2.2.2.2.2.1 (hL.mo (Nat.le_of_ble_eq_true rfl) (Nat.le_of_ble_eq_true rfl)) hp1 hfl h) q1249 q1250 q1251 q105 q1252 hdX9_firstToCross ⟨Nat.le_of_ble_eq_true rfl, Nat.le_of_ble_eq_true rfl⟩ ⟨Nat.le_of_ble_eq_true rfl, Nat.le_of_ble_eq_true rfl⟩ rfl hl.1 rfl (lv_room (Nat.le_of_ble_eq_true rfl)) dL_firstToCross_3) (fun Ex ce q9 st3 H locs h hP hS hce hcv hcl => ?_) (fun r1 st2 H locs h hP hS => ?_)
  · obtain ⟨rfl, h⟩ := h
    refine vx_catch (name := "java/lang/IllegalStateException") C.2.2.2.1 [] ⟨0, 8, 11, 13⟩ [] (htab.trans rfl) (fun z hz => absurd hz List.not_mem_nil) rfl (by decide) (C.T q848) (va_Nw.use rfl (C.NE9.1 _ q859 rfl)) hce hcv hcl ?_
    refine lv_astore_n C.1 C.2.1 dL_firstToCross_11 rfl hl (Nat.le_of_ble_eq_true rfl) rfl (fun ls hl => ?_)
    have hl : lv_has ls 3 [(2, .ref q9), (0, .ref (E.2.1 p1)), (1, .ref (E.2.1 p2))] := hl
    refine lv_iconst C.1 C.2.1 (v := 1) dL_firstToCross_12 rfl ?_
    refine W.widen (k := rmL_firstToCross.cells) (n := rmL_firstToCross.slots) (Nat.le_of_ble_eq_true rfl) (Nat.le_of_ble_eq_true rfl) ?_
    exact z_ri C hr hlk rfl hP hS h dL_firstToCross_13
  · skip
    refine t_i2l C.1 C.2.1 dL_firstToCross_6 rfl ?_
    obtain ⟨hi, h⟩ := h
    refine z_last C hP hS hp2 lp2 mp2 hi dL_firstToCross_7 (fun H locs hP hS => ?_)
    obtain ⟨st4, est4⟩ : ∃ z, z = uJ st2 p2 (0 : Int32).toNatClampNeg ((r1 : Int32).toInt64) := ⟨_, rfl⟩
    rw [← est4] at hP; have h := h st4 est4
    refine lv_goto C.1 C.2.1 (tgt := 14) dL_firstToCross_8 (by decide) ?_
    refine lv_iconst C.1 C.2.1 (v := 0) dL_firstToCross_14 rfl ?_
    refine W.widen (k := rmL_firstToCross.cells) (n := rmL_firstToCross.slots) (Nat.le_of_ble_eq_true rfl) (Nat.le_of_ble_eq_true rfl) ?_
    exact z_ri C hr hlk rfl hP hS h dL_firstToCross_15
def rmL_secondToCross : Room := { frames := 8, cells := 1, slots := 6, locals := 186 }
def wL_secondToCross (p1 : Nat) (p2 : Nat) (st : St) (Q : Int32 → St → Prop) : Prop :=
  (wX9_secondToCross p1 st (fun r1 st2 => (vp_in 0 1 ∧ ∀ st4, st4 = uJ st2 p2 (0 : Int32).toNatClampNeg ((r1 : Int32).toInt64) → Q 0 st4)) (fun cls u9 => cls = "java/lang/IllegalStateException" ∧ Q 1 u9))
theorem hdL_secondToCross : yL_secondToCross.cls ≠ "java/lang/invoke/MethodHandle" ∧ yL_secondToCross.cls ≠ "java/lang/invoke/VarHandle" ∧ (parseMethodDescriptor yL_secondToCross.desc).map (fun d => d.parameters.length) = some 2 := by decide +kernel
set_option maxHeartbeats 4000000 in
set_option maxRecDepth 100000 in
theorem tL_secondToCross {l : Launch} {E : En0} {L : List Nat} (hE : EK E L) (hL : Cov 0 68 L) {p1 : Nat} {p2 : Nat} {st : St} {Q : Int32 → St → Prop} (hp1 : kd p1 = 8) (hp2 : kd p2 = 23) (lp2 : ln p2 = 1) (mp2 : p2 ∈ L) (hfl : l.stackTraces = false) (h : wL_secondToCross p1 p2 st Q) : Mw l yL_secondToCross cL_secondToCross 3 (some .int) [(0, 8, 11, 13)] rmL_secondToCross E L [.ref (E.2.1 p1), .ref (E.2.1 p2)] st (zI E L Q) := by
  refine Mw.of hE (by decide) (Nat.le_of_ble_eq_true rfl) ?_
  intro p e s m below meth c ls C hr hlk htab hNC hl hP
  replace C : Cx E L "PlankBridgeLaw" cL_secondToCross 3 p s m _ c := C
  have hS : va_S (fA E L s.heap.size) s.heap s.heap [] := va_S.rf
  replace hl : lv_has ls 3 [(0, .ref (E.2.1 p1)), (1, .ref (E.2.1 p2))] := hl
  unfold wL_secondToCross at h
  refine lv_aload_n C.1 C.2.1 dL_secondToCross_0 rfl (lv_at hl 1 rfl) ?_
  refine lv_iconst C.1 C.2.1 (v := 0) dL_secondToCross_1 rfl ?_
  refine lv_aload_n C.1 C.2.1 dL_secondToCross_2 rfl (lv_at hl 0 rfl) ?_
  refine z_kiw hS (z_runVx (As := []) (rest := [.int 0, .ref (E.2.1 p2)]) C hP hS (m8 hp1 (hL.mo (Nat.le_of_ble_eq_true rfl) (Nat.le_of_ble_eq_true rfl))) (e8 hp1) rfl (tX9_secondToCross C.2.2.2.2.2.2.1 (hL.mo (Nat.le_of_ble_eq_true rfl) (Nat.le_of_ble_eq_true rfl)) hp1 hfl h) q1265 q1266 q1267 q105 q1268 hdX9_secondToCross ⟨Nat.le_of_ble_eq_true rfl, Nat.le_of_ble_eq_true rfl⟩ ⟨Nat.le_of_ble_eq_true rfl, Nat.le_of_ble_eq_true rfl⟩ rfl hl.1 rfl (lv_room (Nat.le_of_ble_eq_true rfl)) dL_secondToCross_3) (fun Ex ce q9 st3 H locs h hP hS hce hcv hcl => ?_) (fun r1 st2 H locs h hP hS => ?_)
  · obtain ⟨rfl, h⟩ := h
    refine vx_catch (name := "java/lang/IllegalStateException") C.2.2.2.1 [] ⟨0, 8, 11, 13⟩ [] (htab.trans rfl) (fun z hz => absurd hz List.not_mem_nil) rfl (by decide) (C.T q848) (va_Nw.use rfl (C.NE9.1 _ q859 rfl)) hce hcv hcl ?_
    refine lv_astore_n C.1 C.2.1 dL_secondToCross_11 rfl hl (Nat.le_of_ble_eq_true rfl) rfl (fun ls hl => ?_)
    have hl : lv_has ls 3 [(2, .ref q9), (0, .ref (E.2.1 p1)), (1, .ref (E.2.1 p2))] := hl
    refine lv_iconst C.1 C.2.1 (v := 1) dL_secondToCross_12 rfl ?_
    refine W.widen (k := rmL_secondToCross.cells) (n := rmL_secondToCross.slots) (Nat.le_of_ble_eq_true rfl) (Nat.le_of_ble_eq_true rfl) ?_
    exact z_ri C hr hlk rfl hP hS h dL_secondToCross_13
  · skip
    refine t_i2l C.1 C.2.1 dL_secondToCross_6 rfl ?_
    obtain ⟨hi, h⟩ := h
    refine z_last C hP hS hp2 lp2 mp2 hi dL_secondToCross_7 (fun H locs hP hS => ?_)
    obtain ⟨st4, est4⟩ : ∃ z, z = uJ st2 p2 (0 : Int32).toNatClampNeg ((r1 : Int32).toInt64) := ⟨_, rfl⟩
    rw [← est4] at hP; have h := h st4 est4
    refine lv_goto C.1 C.2.1 (tgt := 14) dL_secondToCross_8 (by decide) ?_
    refine lv_iconst C.1 C.2.1 (v := 0) dL_secondToCross_14 rfl ?_
    refine W.widen (k := rmL_secondToCross.cells) (n := rmL_secondToCross.slots) (Nat.le_of_ble_eq_true rfl) (Nat.le_of_ble_eq_true rfl) ?_
    exact z_ri C hr hlk rfl hP hS h dL_secondToCross_15
def rmL_actsOfPlan : Room := { frames := 8, cells := 1, slots := 6, locals := 185 }
def wL_actsOfPlan (p1 : Nat) (p2 : Int32) (p3 : Nat) (st : St) (Q : Int32 → St → Prop) : Prop :=
  (wX9_actsOfPlan p1 p2 st (fun r1 st2 => (vp_in 0 1 ∧ ∀ st4, st4 = uJ st2 p3 (0 : Int32).toNatClampNeg ((r1 : Int32).toInt64) → Q 0 st4)) (fun cls u9 => cls = "java/lang/IndexOutOfBoundsException" ∧ Q 1 u9))
theorem hdL_actsOfPlan : yL_actsOfPlan.cls ≠ "java/lang/invoke/MethodHandle" ∧ yL_actsOfPlan.cls ≠ "java/lang/invoke/VarHandle" ∧ (parseMethodDescriptor yL_actsOfPlan.desc).map (fun d => d.parameters.length) = some 3 := by decide +kernel
set_option maxHeartbeats 4000000 in
set_option maxRecDepth 100000 in
theorem tL_actsOfPlan {l : Launch} {E : En0} {L : List Nat} (hE : EK E L) (hL : Cov 0 68 L) {p1 : Nat} {p2 : Int32} {p3 : Nat} {st : St} {Q : Int32 → St → Prop} (hp1 : kd p1 = 8) (hp3 : kd p3 = 23) (lp3 : ln p3 = 1) (mp3 : p3 ∈ L) (hfl : l.stackTraces = false) (h : wL_actsOfPlan p1 p2 p3 st Q) : Mw l yL_actsOfPlan cL_actsOfPlan 4 (some .int) [(0, 9, 12, 24)] rmL_actsOfPlan E L [.ref (E.2.1 p1), .int p2, .ref (E.2.1 p3)] st (zI E L Q) := by
  refine Mw.of hE (by decide) (Nat.le_of_ble_eq_true rfl) ?_
  intro p e s m below meth c ls C hr hlk htab hNC hl hP
  replace C : Cx E L "PlankBridgeLaw" cL_actsOfPlan 4 p s m _ c := C
  have hS : va_S (fA E L s.heap.size) s.heap s.heap [] := va_S.rf
  replace hl : lv_has ls 4 [(0, .ref (E.2.1 p1)), (1, .int p2), (2, .ref (E.2.1 p3))] := hl
  unfold wL_actsOfPlan at h
  refine lv_aload_n C.1 C.2.1 dL_actsOfPlan_0 rfl (lv_at hl 2 rfl) ?_
  refine lv_iconst C.1 C.2.1 (v := 0) dL_actsOfPlan_1 rfl ?_
  refine lv_aload_n C.1 C.2.1 dL_actsOfPlan_2 rfl (lv_at hl 0 rfl) ?_
  refine lv_iload_n C.1 C.2.1 dL_actsOfPlan_3 rfl (lv_at hl 1 rfl) ?_
  refine z_kiw hS (z_runVx (As := [.int p2]) (rest := [.int 0, .ref (E.2.1 p3)]) C hP hS (m8 hp1 (hL.mo (Nat.le_of_ble_eq_true rfl) (Nat.le_of_ble_eq_true rfl))) (e8 hp1) rfl (tX9_actsOfPlan C.2.2.2.2.2.2.1 (hL.mo (Nat.le_of_ble_eq_true rfl) (Nat.le_of_ble_eq_true rfl)) hp1 hfl h) q1276 q1277 q1278 q105 q1279 hdX9_actsOfPlan ⟨Nat.le_of_ble_eq_true rfl, Nat.le_of_ble_eq_true rfl⟩ ⟨Nat.le_of_ble_eq_true rfl, Nat.le_of_ble_eq_true rfl⟩ rfl hl.1 rfl (lv_room (Nat.le_of_ble_eq_true rfl)) dL_actsOfPlan_4) (fun Ex ce q9 st3 H locs h hP hS hce hcv hcl => ?_) (fun r1 st2 H locs h hP hS => ?_)
  · obtain ⟨rfl, h⟩ := h
    refine vx_catch (name := "java/lang/IndexOutOfBoundsException") C.2.2.2.1 [] ⟨0, 9, 12, 24⟩ [] (htab.trans rfl) (fun z hz => absurd hz List.not_mem_nil) rfl (by decide) (C.T q955) (va_Nw.use rfl (C.NE9.1 _ q966 rfl)) hce hcv hcl ?_
    refine lv_astore_n C.1 C.2.1 dL_actsOfPlan_12 rfl hl (Nat.le_of_ble_eq_true rfl) rfl (fun ls hl => ?_)
    have hl : lv_has ls 4 [(3, .ref q9), (0, .ref (E.2.1 p1)), (1, .int p2), (2, .ref (E.2.1 p3))] := hl
    refine lv_iconst C.1 C.2.1 (v := 1) dL_actsOfPlan_13 rfl ?_
    refine W.widen (k := rmL_actsOfPlan.cells) (n := rmL_actsOfPlan.slots) (Nat.le_of_ble_eq_true rfl) (Nat.le_of_ble_eq_true rfl) ?_
    exact z_ri C hr hlk rfl hP hS h dL_actsOfPlan_14
  · skip
    refine t_i2l C.1 C.2.1 dL_actsOfPlan_7 rfl ?_
    obtain ⟨hi, h⟩ := h
    refine z_last C hP hS hp3 lp3 mp3 hi dL_actsOfPlan_8 (fun H locs hP hS => ?_)
    obtain ⟨st4, est4⟩ : ∃ z, z = uJ st2 p3 (0 : Int32).toNatClampNeg ((r1 : Int32).toInt64) := ⟨_, rfl⟩
    rw [← est4] at hP; have h := h st4 est4
    refine lv_goto C.1 C.2.1 (tgt := 15) dL_actsOfPlan_9 (by decide) ?_
    refine lv_iconst C.1 C.2.1 (v := 0) dL_actsOfPlan_15 rfl ?_
    refine W.widen (k := rmL_actsOfPlan.cells) (n := rmL_actsOfPlan.slots) (Nat.le_of_ble_eq_true rfl) (Nat.le_of_ble_eq_true rfl) ?_
    exact z_ri C hr hlk rfl hP hS h dL_actsOfPlan_16
def rmL_farBehindPlan : Room := { frames := 8, cells := 1, slots := 6, locals := 185 }
def wL_farBehindPlan (p1 : Nat) (p2 : Int32) (p3 : Nat) (st : St) (Q : Int32 → St → Prop) : Prop :=
  (wX9_farBehindPlan p1 p2 st (fun r1 st2 => (vp_in 0 1 ∧ ∀ st4, st4 = uJ st2 p3 (0 : Int32).toNatClampNeg ((r1 : Int32).toInt64) → Q 0 st4)) (fun cls u9 => cls = "java/lang/IndexOutOfBoundsException" ∧ Q 1 u9))
theorem hdL_farBehindPlan : yL_farBehindPlan.cls ≠ "java/lang/invoke/MethodHandle" ∧ yL_farBehindPlan.cls ≠ "java/lang/invoke/VarHandle" ∧ (parseMethodDescriptor yL_farBehindPlan.desc).map (fun d => d.parameters.length) = some 3 := by decide +kernel
set_option maxHeartbeats 4000000 in
set_option maxRecDepth 100000 in
theorem tL_farBehindPlan {l : Launch} {E : En0} {L : List Nat} (hE : EK E L) (hL : Cov 0 68 L) {p1 : Nat} {p2 : Int32} {p3 : Nat} {st : St} {Q : Int32 → St → Prop} (hp1 : kd p1 = 8) (hp3 : kd p3 = 23) (lp3 : ln p3 = 1) (mp3 : p3 ∈ L) (hfl : l.stackTraces = false) (h : wL_farBehindPlan p1 p2 p3 st Q) : Mw l yL_farBehindPlan cL_farBehindPlan 4 (some .int) [(0, 9, 12, 24)] rmL_farBehindPlan E L [.ref (E.2.1 p1), .int p2, .ref (E.2.1 p3)] st (zI E L Q) := by
  refine Mw.of hE (by decide) (Nat.le_of_ble_eq_true rfl) ?_
  intro p e s m below meth c ls C hr hlk htab hNC hl hP
  replace C : Cx E L "PlankBridgeLaw" cL_farBehindPlan 4 p s m _ c := C
  have hS : va_S (fA E L s.heap.size) s.heap s.heap [] := va_S.rf
  replace hl : lv_has ls 4 [(0, .ref (E.2.1 p1)), (1, .int p2), (2, .ref (E.2.1 p3))] := hl
  unfold wL_farBehindPlan at h
  refine lv_aload_n C.1 C.2.1 dL_farBehindPlan_0 rfl (lv_at hl 2 rfl) ?_
  refine lv_iconst C.1 C.2.1 (v := 0) dL_farBehindPlan_1 rfl ?_
  refine lv_aload_n C.1 C.2.1 dL_farBehindPlan_2 rfl (lv_at hl 0 rfl) ?_
  refine lv_iload_n C.1 C.2.1 dL_farBehindPlan_3 rfl (lv_at hl 1 rfl) ?_
  refine z_kiw hS (z_runVx (As := [.int p2]) (rest := [.int 0, .ref (E.2.1 p3)]) C hP hS (m8 hp1 (hL.mo (Nat.le_of_ble_eq_true rfl) (Nat.le_of_ble_eq_true rfl))) (e8 hp1) rfl (tX9_farBehindPlan C.2.2.2.2.2.2.1 (hL.mo (Nat.le_of_ble_eq_true rfl) (Nat.le_of_ble_eq_true rfl)) hp1 hfl h) q1283 q1284 q1285 q105 q1286 hdX9_farBehindPlan ⟨Nat.le_of_ble_eq_true rfl, Nat.le_of_ble_eq_true rfl⟩ ⟨Nat.le_of_ble_eq_true rfl, Nat.le_of_ble_eq_true rfl⟩ rfl hl.1 rfl (lv_room (Nat.le_of_ble_eq_true rfl)) dL_farBehindPlan_4) (fun Ex ce q9 st3 H locs h hP hS hce hcv hcl => ?_) (fun r1 st2 H locs h hP hS => ?_)
  · obtain ⟨rfl, h⟩ := h
    refine vx_catch (name := "java/lang/IndexOutOfBoundsException") C.2.2.2.1 [] ⟨0, 9, 12, 24⟩ [] (htab.trans rfl) (fun z hz => absurd hz List.not_mem_nil) rfl (by decide) (C.T q955) (va_Nw.use rfl (C.NE9.1 _ q966 rfl)) hce hcv hcl ?_
    refine lv_astore_n C.1 C.2.1 dL_farBehindPlan_12 rfl hl (Nat.le_of_ble_eq_true rfl) rfl (fun ls hl => ?_)
    have hl : lv_has ls 4 [(3, .ref q9), (0, .ref (E.2.1 p1)), (1, .int p2), (2, .ref (E.2.1 p3))] := hl
    refine lv_iconst C.1 C.2.1 (v := 1) dL_farBehindPlan_13 rfl ?_
    refine W.widen (k := rmL_farBehindPlan.cells) (n := rmL_farBehindPlan.slots) (Nat.le_of_ble_eq_true rfl) (Nat.le_of_ble_eq_true rfl) ?_
    exact z_ri C hr hlk rfl hP hS h dL_farBehindPlan_14
  · skip
    refine t_i2l C.1 C.2.1 dL_farBehindPlan_7 rfl ?_
    obtain ⟨hi, h⟩ := h
    refine z_last C hP hS hp3 lp3 mp3 hi dL_farBehindPlan_8 (fun H locs hP hS => ?_)
    obtain ⟨st4, est4⟩ : ∃ z, z = uJ st2 p3 (0 : Int32).toNatClampNeg ((r1 : Int32).toInt64) := ⟨_, rfl⟩
    rw [← est4] at hP; have h := h st4 est4
    refine lv_goto C.1 C.2.1 (tgt := 15) dL_farBehindPlan_9 (by decide) ?_
    refine lv_iconst C.1 C.2.1 (v := 0) dL_farBehindPlan_15 rfl ?_
    refine W.widen (k := rmL_farBehindPlan.cells) (n := rmL_farBehindPlan.slots) (Nat.le_of_ble_eq_true rfl) (Nat.le_of_ble_eq_true rfl) ?_
    exact z_ri C hr hlk rfl hP hS h dL_farBehindPlan_16
def rmL_minutesOfPlan : Room := { frames := 8, cells := 1, slots := 6, locals := 185 }
def wL_minutesOfPlan (p1 : Nat) (p2 : Int32) (p3 : Nat) (st : St) (Q : Int32 → St → Prop) : Prop :=
  (wX9_minutesOfPlan p1 p2 st (fun r1 st2 => (vp_in 0 1 ∧ ∀ st4, st4 = uJ st2 p3 (0 : Int32).toNatClampNeg ((r1 : Int32).toInt64) → Q 0 st4)) (fun cls u9 => cls = "java/lang/IndexOutOfBoundsException" ∧ Q 1 u9))
theorem hdL_minutesOfPlan : yL_minutesOfPlan.cls ≠ "java/lang/invoke/MethodHandle" ∧ yL_minutesOfPlan.cls ≠ "java/lang/invoke/VarHandle" ∧ (parseMethodDescriptor yL_minutesOfPlan.desc).map (fun d => d.parameters.length) = some 3 := by decide +kernel
set_option maxHeartbeats 4000000 in
set_option maxRecDepth 100000 in
theorem tL_minutesOfPlan {l : Launch} {E : En0} {L : List Nat} (hE : EK E L) (hL : Cov 0 68 L) {p1 : Nat} {p2 : Int32} {p3 : Nat} {st : St} {Q : Int32 → St → Prop} (hp1 : kd p1 = 8) (hp3 : kd p3 = 23) (lp3 : ln p3 = 1) (mp3 : p3 ∈ L) (hfl : l.stackTraces = false) (h : wL_minutesOfPlan p1 p2 p3 st Q) : Mw l yL_minutesOfPlan cL_minutesOfPlan 4 (some .int) [(0, 9, 12, 24)] rmL_minutesOfPlan E L [.ref (E.2.1 p1), .int p2, .ref (E.2.1 p3)] st (zI E L Q) := by
  refine Mw.of hE (by decide) (Nat.le_of_ble_eq_true rfl) ?_
  intro p e s m below meth c ls C hr hlk htab hNC hl hP
  replace C : Cx E L "PlankBridgeLaw" cL_minutesOfPlan 4 p s m _ c := C
  have hS : va_S (fA E L s.heap.size) s.heap s.heap [] := va_S.rf
  replace hl : lv_has ls 4 [(0, .ref (E.2.1 p1)), (1, .int p2), (2, .ref (E.2.1 p3))] := hl
  unfold wL_minutesOfPlan at h
  refine lv_aload_n C.1 C.2.1 dL_minutesOfPlan_0 rfl (lv_at hl 2 rfl) ?_
  refine lv_iconst C.1 C.2.1 (v := 0) dL_minutesOfPlan_1 rfl ?_
  refine lv_aload_n C.1 C.2.1 dL_minutesOfPlan_2 rfl (lv_at hl 0 rfl) ?_
  refine lv_iload_n C.1 C.2.1 dL_minutesOfPlan_3 rfl (lv_at hl 1 rfl) ?_
  refine z_kiw hS (z_runVx (As := [.int p2]) (rest := [.int 0, .ref (E.2.1 p3)]) C hP hS (m8 hp1 (hL.mo (Nat.le_of_ble_eq_true rfl) (Nat.le_of_ble_eq_true rfl))) (e8 hp1) rfl (tX9_minutesOfPlan C.2.2.2.2.2.2.1 (hL.mo (Nat.le_of_ble_eq_true rfl) (Nat.le_of_ble_eq_true rfl)) hp1 hfl h) q1291 q1292 q1293 q105 q1294 hdX9_minutesOfPlan ⟨Nat.le_of_ble_eq_true rfl, Nat.le_of_ble_eq_true rfl⟩ ⟨Nat.le_of_ble_eq_true rfl, Nat.le_of_ble_eq_true rfl⟩ rfl hl.1 rfl (lv_room (Nat.le_of_ble_eq_true rfl)) dL_minutesOfPlan_4) (fun Ex ce q9 st3 H locs h hP hS hce hcv hcl => ?_) (fun r1 st2 H locs h hP hS => ?_)
  · obtain ⟨rfl, h⟩ := h
    refine vx_catch (name := "java/lang/IndexOutOfBoundsException") C.2.2.2.1 [] ⟨0, 9, 12, 24⟩ [] (htab.trans rfl) (fun z hz => absurd hz List.not_mem_nil) rfl (by decide) (C.T q955) (va_Nw.use rfl (C.NE9.1 _ q966 rfl)) hce hcv hcl ?_
    refine lv_astore_n C.1 C.2.1 dL_minutesOfPlan_12 rfl hl (Nat.le_of_ble_eq_true rfl) rfl (fun ls hl => ?_)
    have hl : lv_has ls 4 [(3, .ref q9), (0, .ref (E.2.1 p1)), (1, .int p2), (2, .ref (E.2.1 p3))] := hl
    refine lv_iconst C.1 C.2.1 (v := 1) dL_minutesOfPlan_13 rfl ?_
    refine W.widen (k := rmL_minutesOfPlan.cells) (n := rmL_minutesOfPlan.slots) (Nat.le_of_ble_eq_true rfl) (Nat.le_of_ble_eq_true rfl) ?_
    exact z_ri C hr hlk rfl hP hS h dL_minutesOfPlan_14
  · skip
    refine t_i2l C.1 C.2.1 dL_minutesOfPlan_7 rfl ?_
    obtain ⟨hi, h⟩ := h
    refine z_last C hP hS hp3 lp3 mp3 hi dL_minutesOfPlan_8 (fun H locs hP hS => ?_)
    obtain ⟨st4, est4⟩ : ∃ z, z = uJ st2 p3 (0 : Int32).toNatClampNeg ((r1 : Int32).toInt64) := ⟨_, rfl⟩
    rw [← est4] at hP; have h := h st4 est4
    refine lv_goto C.1 C.2.1 (tgt := 15) dL_minutesOfPlan_9 (by decide) ?_
    refine lv_iconst C.1 C.2.1 (v := 0) dL_minutesOfPlan_15 rfl ?_
    refine W.widen (k := rmL_minutesOfPlan.cells) (n := rmL_minutesOfPlan.slots) (Nat.le_of_ble_eq_true rfl) (Nat.le_of_ble_eq_true rfl) ?_
    exact z_ri C hr hlk rfl hP hS h dL_minutesOfPlan_16
def rmL_bestPlan : Room := { frames := 8, cells := 1, slots := 6, locals := 190 }
def wL_bestPlan (p1 : Nat) (p2 : Nat) (st : St) (Q : Int32 → St → Prop) : Prop :=
  (wX9_bestPlan p1 st (fun r1 st2 => (vp_in 0 1 ∧ ∀ st4, st4 = uJ st2 p2 (0 : Int32).toNatClampNeg ((r1 : Int32).toInt64) → Q 0 st4)) (fun cls u9 => cls = "java/lang/IllegalStateException" ∧ Q 1 u9))
theorem hdL_bestPlan : yL_bestPlan.cls ≠ "java/lang/invoke/MethodHandle" ∧ yL_bestPlan.cls ≠ "java/lang/invoke/VarHandle" ∧ (parseMethodDescriptor yL_bestPlan.desc).map (fun d => d.parameters.length) = some 2 := by decide +kernel
set_option maxHeartbeats 4000000 in
set_option maxRecDepth 100000 in
theorem tL_bestPlan {l : Launch} {E : En0} {L : List Nat} (hE : EK E L) (hL : Cov 0 68 L) {p1 : Nat} {p2 : Nat} {st : St} {Q : Int32 → St → Prop} (hp1 : kd p1 = 8) (hp2 : kd p2 = 23) (lp2 : ln p2 = 1) (mp2 : p2 ∈ L) (hfl : l.stackTraces = false) (h : wL_bestPlan p1 p2 st Q) : Mw l yL_bestPlan cL_bestPlan 3 (some .int) [(0, 8, 11, 13)] rmL_bestPlan E L [.ref (E.2.1 p1), .ref (E.2.1 p2)] st (zI E L Q) := by
  refine Mw.of hE (by decide) (Nat.le_of_ble_eq_true rfl) ?_
  intro p e s m below meth c ls C hr hlk htab hNC hl hP
  replace C : Cx E L "PlankBridgeLaw" cL_bestPlan 3 p s m _ c := C
  have hS : va_S (fA E L s.heap.size) s.heap s.heap [] := va_S.rf
  replace hl : lv_has ls 3 [(0, .ref (E.2.1 p1)), (1, .ref (E.2.1 p2))] := hl
  unfold wL_bestPlan at h
  refine lv_aload_n C.1 C.2.1 dL_bestPlan_0 rfl (lv_at hl 1 rfl) ?_
  refine lv_iconst C.1 C.2.1 (v := 0) dL_bestPlan_1 rfl ?_
  refine lv_aload_n C.1 C.2.1 dL_bestPlan_2 rfl (lv_at hl 0 rfl) ?_
  refine z_kiw hS (z_runVx (As := []) (rest := [.int 0, .ref (E.2.1 p2)]) C hP hS (m8 hp1 (hL.mo (Nat.le_of_ble_eq_true rfl) (Nat.le_of_ble_eq_true rfl))) (e8 hp1) rfl (tX9_bestPlan C.2.2.2.2.2.2.1 (hL.mo (Nat.le_of_ble_eq_true rfl) (Nat.le_of_ble_eq_true rfl)) hp1 hfl h) q1302 q1303 q1304 q105 q1305 hdX9_bestPlan ⟨Nat.le_of_ble_eq_true rfl, Nat.le_of_ble_eq_true rfl⟩ ⟨Nat.le_of_ble_eq_true rfl, Nat.le_of_ble_eq_true rfl⟩ rfl hl.1 rfl (lv_room (Nat.le_of_ble_eq_true rfl)) dL_bestPlan_3) (fun Ex ce q9 st3 H locs h hP hS hce hcv hcl => ?_) (fun r1 st2 H locs h hP hS => ?_)
  · obtain ⟨rfl, h⟩ := h
    refine vx_catch (name := "java/lang/IllegalStateException") C.2.2.2.1 [] ⟨0, 8, 11, 13⟩ [] (htab.trans rfl) (fun z hz => absurd hz List.not_mem_nil) rfl (by decide) (C.T q848) (va_Nw.use rfl (C.NE9.1 _ q859 rfl)) hce hcv hcl ?_
    refine lv_astore_n C.1 C.2.1 dL_bestPlan_11 rfl hl (Nat.le_of_ble_eq_true rfl) rfl (fun ls hl => ?_)
    have hl : lv_has ls 3 [(2, .ref q9), (0, .ref (E.2.1 p1)), (1, .ref (E.2.1 p2))] := hl
    refine lv_iconst C.1 C.2.1 (v := 1) dL_bestPlan_12 rfl ?_
    refine W.widen (k := rmL_bestPlan.cells) (n := rmL_bestPlan.slots) (Nat.le_of_ble_eq_true rfl) (Nat.le_of_ble_eq_true rfl) ?_
    exact z_ri C hr hlk rfl hP hS h dL_bestPlan_13
  · skip
    refine t_i2l C.1 C.2.1 dL_bestPlan_6 rfl ?_
    obtain ⟨hi, h⟩ := h
    refine z_last C hP hS hp2 lp2 mp2 hi dL_bestPlan_7 (fun H locs hP hS => ?_)
    obtain ⟨st4, est4⟩ : ∃ z, z = uJ st2 p2 (0 : Int32).toNatClampNeg ((r1 : Int32).toInt64) := ⟨_, rfl⟩
    rw [← est4] at hP; have h := h st4 est4
    refine lv_goto C.1 C.2.1 (tgt := 14) dL_bestPlan_8 (by decide) ?_
    refine lv_iconst C.1 C.2.1 (v := 0) dL_bestPlan_14 rfl ?_
    refine W.widen (k := rmL_bestPlan.cells) (n := rmL_bestPlan.slots) (Nat.le_of_ble_eq_true rfl) (Nat.le_of_ble_eq_true rfl) ?_
    exact z_ri C hr hlk rfl hP hS h dL_bestPlan_15

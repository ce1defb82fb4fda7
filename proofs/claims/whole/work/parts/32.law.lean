/-! the law's cases, one by one: from the case's first row to the end of the loop's body -/
theorem lw_f0 {a k n r1 : Nat} (h : a + k ≤ n) (h1 : r1 ≤ k) : a + r1 ≤ n := by omega
theorem lw_f1 {a k n r1 r2 : Nat} (h : a + k ≤ n) (h1 : r1 + r2 ≤ k) : a + r1 + r2 ≤ n := by omega
theorem lw_f2 {a k n r1 r2 r3 : Nat} (h : a + k ≤ n) (h1 : r1 + r2 + r3 ≤ k) : a + r1 + r2 + r3 ≤ n := by omega
theorem lw_g2 {a k r1 r2 : Nat} (h1 : r1 + r2 ≤ k) : a + r1 + r2 ≤ a + k := by omega
theorem lw_g3 {a k r1 r2 r3 : Nat} (h1 : r1 + r2 + r3 ≤ k) : a + r1 + r2 + r3 ≤ a + k := by omega
theorem law_sld {p : Program} {l : Launch} {e : Env} {R : Room} {s : State} {m : MethodId} {args : Array Value} {below : List Frame} {meth : Method} {c : Code} {H : Heap} {locs : List Loc} {cells slots : Nat} {Q : State → Prop} {E : En0} {L : List Nat} {own : String} {cc : ByteArray} {nL b0 n pc : Nat} {xs : Nat → Int32} {A : Nat → Prop} {ls : Array Slot} {rest : List Value}
    (C : Cx E L own cc nL p s m args c) (hX : va_X b0 n xs s s.heap) (hbl : b0 < s.heap.size) (hbA : ¬ A b0) (hS : va_S A s.heap H locs) {i a : Int32} (hin : vp_in i n) (ha : xs i.toNatClampNeg = a) (hdg : decode cc pc = .ok (.iaload, 1))
    (kk : W p l e R s m args below meth c H locs cells slots Q (F0 m (pc + 1) ls (.int a :: rest))) : W p l e R s m args below meth c H locs cells slots Q (F0 m pc ls (.int i :: .ref b0 :: rest)) := by
  subst ha
  exact va_sld C.1 C.2.1 hX hbl hbA hS hin hdg kk
def wLc_0 (a1 a2 a3 a4 a5 : Int32) (st : St) (R : St → Prop) : Prop :=
  (wL_feed 0 a1 a2 a3 a4 a5 67 st (fun r2 st1 => (wX12_feed 54 a1 a2 a3 a4 a5 st1 (fun r4 st3 => (wX12_thrown 54 st3 (fun r6 st5 => ((r6 = r2 → ((¬ r2 = 0 → R st5) ∧ (r2 = 0 → (vp_in 0 1 ∧ (((lg_cmp (gJ st5 67 (0 : Int32).toNatClampNeg) ((r4 : Int32).toInt64)) = 0 → R st5) ∧ (¬ (lg_cmp (gJ st5 67 (0 : Int32).toNatClampNeg) ((r4 : Int32).toInt64)) = 0 → False)))))) ∧ (¬ r6 = r2 → False))))))))
set_option maxHeartbeats 4000000 in
set_option maxRecDepth 100000 in
theorem tLc_0 {p : Program} {l : Launch} {e : Env} {s : State} {m : MethodId} {args : Array Value} {below : List Frame} {meth : Method} {c : Code} {H : Heap} {locs : List Loc} {cells slots : Nat} {Q : State → Prop} {E : En0} {b0 n : Nat} {xs : Nat → Int32} {i a1 a2 a3 a4 a5 : Int32} {st : St} {R : St → Prop} {ls : Array Slot}
    (C : Cx E L68 "PlankBridgeLaw" cL_law 9 p s m args c) (hNC : NC s) (hfl : l.stackTraces = false) (hX : va_X b0 n xs s s.heap) (hbl : b0 < s.heap.size) (hbA : ¬ fA E L68 s.heap.size b0)
    (hin1 : vp_in (i + 1) n) (hin2 : vp_in (i + 2) n) (hin3 : vp_in (i + 3) n) (hin4 : vp_in (i + 4) n) (hin5 : vp_in (i + 5) n) (ha1 : xs (i + 1).toNatClampNeg = a1) (ha2 : xs (i + 2).toNatClampNeg = a2) (ha3 : xs (i + 3).toNatClampNeg = a3) (ha4 : xs (i + 4).toNatClampNeg = a4) (ha5 : xs (i + 5).toNatClampNeg = a5)
    (hcs : cells + 12 ≤ 601024) (hss : slots + 3300 ≤ 7293034) (hl : lv_has ls 9 [(0, .ref b0), (1, .ref (E.2.1 0)), (2, .ref (E.2.1 54)), (3, .ref (E.2.1 67)), (4, .int i)]) (hP : va_P E.1 vwCl (wd E L68 st) H) (hS : va_S (fA E L68 s.heap.size) s.heap H locs) (h : wLc_0 a1 a2 a3 a4 a5 st R)
    (hk : ∀ (u : St) (H1 : Heap) (locs1 : List Loc) (ls1 : Array Slot) (c1 s1 : Nat), R u → c1 ≤ cells + 12 → s1 ≤ slots + 3300 → lv_has ls1 9 [(0, .ref b0), (1, .ref (E.2.1 0)), (2, .ref (E.2.1 54)), (3, .ref (E.2.1 67)), (4, .int i)] → va_P E.1 vwCl (wd E L68 u) H1 → va_S (fA E L68 s.heap.size) s.heap H1 locs1 → W p l e room_1 s m args below meth c H1 locs1 c1 s1 Q (F0 m 1914 ls1 [])) :
    W p l e room_1 s m args below meth c H locs cells slots Q (F0 m 228 ls []) := by
  have hL : Cov 0 68 L68 := fun c _ h2 => List.mem_range.mpr h2
  unfold wLc_0 at h
  refine lv_aload_n C.1 C.2.1 dL_law_228 rfl (lv_at hl 1 rfl) ?_
  refine lv_aload_n C.1 C.2.1 dL_law_229 rfl (lv_at hl 0 rfl) ?_
  refine lv_iload C.1 C.2.1 dL_law_230 (lv_at hl 4 rfl) ?_
  refine lv_iconst C.1 C.2.1 (v := 1) dL_law_232 rfl ?_
  refine lv_iadd C.1 C.2.1 dL_law_233  ?_
  refine law_sld C hX hbl hbA hS hin1 ha1 dL_law_234 ?_
  refine lv_aload_n C.1 C.2.1 dL_law_235 rfl (lv_at hl 0 rfl) ?_
  refine lv_iload C.1 C.2.1 dL_law_236 (lv_at hl 4 rfl) ?_
  refine lv_iconst C.1 C.2.1 (v := 2) dL_law_238 rfl ?_
  refine lv_iadd C.1 C.2.1 dL_law_239  ?_
  refine law_sld C hX hbl hbA hS hin2 ha2 dL_law_240 ?_
  refine lv_aload_n C.1 C.2.1 dL_law_241 rfl (lv_at hl 0 rfl) ?_
  refine lv_iload C.1 C.2.1 dL_law_242 (lv_at hl 4 rfl) ?_
  refine lv_iconst C.1 C.2.1 (v := 3) dL_law_244 rfl ?_
  refine lv_iadd C.1 C.2.1 dL_law_245  ?_
  refine law_sld C hX hbl hbA hS hin3 ha3 dL_law_246 ?_
  refine lv_aload_n C.1 C.2.1 dL_law_247 rfl (lv_at hl 0 rfl) ?_
  refine lv_iload C.1 C.2.1 dL_law_248 (lv_at hl 4 rfl) ?_
  refine lv_iconst C.1 C.2.1 (v := 4) dL_law_250 rfl ?_
  refine lv_iadd C.1 C.2.1 dL_law_251  ?_
  refine law_sld C hX hbl hbA hS hin4 ha4 dL_law_252 ?_
  refine lv_aload_n C.1 C.2.1 dL_law_253 rfl (lv_at hl 0 rfl) ?_
  refine lv_iload C.1 C.2.1 dL_law_254 (lv_at hl 4 rfl) ?_
  refine lv_iconst C.1 C.2.1 (v := 5) dL_law_256 rfl ?_
  refine lv_iadd C.1 C.2.1 dL_law_257  ?_
  refine law_sld C hX hbl hbA hS hin5 ha5 dL_law_258 ?_
  refine lv_aload_n C.1 C.2.1 dL_law_259 rfl (lv_at hl 3 rfl) ?_
  refine z_ki hS (z_runSW (As := [.ref (E.2.1 0), .int a1, .int a2, .int a3, .int a4, .int a5, .ref (E.2.1 67)]) (rest := []) C hNC hP hS (tL_feed C.2.2.2.2.2.2.1 hL (show kd 0 = 8 from rfl) (show kd 67 = 23 from rfl) (show ln 67 = 1 from rfl) (hL 67 (Nat.le_of_ble_eq_true rfl) (Nat.le_of_ble_eq_true rfl)) hfl h) q845 q846 q104 q847 hdL_feed ⟨(Nat.le_of_ble_eq_true rfl), (Nat.le_of_ble_eq_true rfl)⟩ ⟨lw_f0 hcs (Nat.le_of_ble_eq_true rfl), lw_f0 hss (Nat.le_of_ble_eq_true rfl)⟩ rfl hl.1 rfl (lv_room (Nat.le_of_ble_eq_true rfl)) dL_law_260) (fun r2 st1 H locs h hP hS => ?_)
  refine lv_istore C.1 C.2.1 dL_law_263 hl (Nat.le_of_ble_eq_true rfl) rfl (fun ls hl => ?_)
  have hl : lv_has ls 9 [(5, .int r2), (0, .ref b0), (1, .ref (E.2.1 0)), (2, .ref (E.2.1 54)), (3, .ref (E.2.1 67)), (4, .int i)] := hl
  refine lv_aload_n C.1 C.2.1 dL_law_265 rfl (lv_at hl 3 rfl) ?_
  refine lv_aload_n C.1 C.2.1 dL_law_266 rfl (lv_at hl 1 rfl) ?_
  refine lv_iload C.1 C.2.1 dL_law_267 (lv_at hl 5 rfl) ?_
  refine lv_iconst C.1 C.2.1 (v := 1) dL_law_269 rfl ?_
  refine lv_iadd C.1 C.2.1 dL_law_270  ?_
  refine law_sld C hX hbl hbA hS hin1 ha1 dL_law_271 ?_
  refine lv_aload_n C.1 C.2.1 dL_law_272 rfl (lv_at hl 1 rfl) ?_
  refine lv_iload C.1 C.2.1 dL_law_273 (lv_at hl 5 rfl) ?_
  refine lv_iconst C.1 C.2.1 (v := 2) dL_law_275 rfl ?_
  refine lv_iadd C.1 C.2.1 dL_law_276  ?_
  refine law_sld C hX hbl hbA hS hin2 ha2 dL_law_277 ?_
  refine lv_aload_n C.1 C.2.1 dL_law_278 rfl (lv_at hl 1 rfl) ?_
  refine lv_iload C.1 C.2.1 dL_law_279 (lv_at hl 5 rfl) ?_
  refine lv_iconst C.1 C.2.1 (v := 3) dL_law_281 rfl ?_
  refine lv_iadd C.1 C.2.1 dL_law_282  ?_
  refine law_sld C hX hbl hbA hS hin3 ha3 dL_law_283 ?_
  refine lv_aload_n C.1 C.2.1 dL_law_284 rfl (lv_at hl 1 rfl) ?_
  refine lv_iload C.1 C.2.1 dL_law_285 (lv_at hl 5 rfl) ?_
  refine lv_iconst C.1 C.2.1 (v := 4) dL_law_287 rfl ?_
  refine lv_iadd C.1 C.2.1 dL_law_288  ?_
  refine law_sld C hX hbl hbA hS hin4 ha4 dL_law_289 ?_
  refine lv_aload_n C.1 C.2.1 dL_law_290 rfl (lv_at hl 1 rfl) ?_
  refine lv_iload C.1 C.2.1 dL_law_291 (lv_at hl 5 rfl) ?_
  refine lv_iconst C.1 C.2.1 (v := 5) dL_law_293 rfl ?_
  refine lv_iadd C.1 C.2.1 dL_law_294  ?_
  refine law_sld C hX hbl hbA hS hin5 ha5 dL_law_295 ?_
  refine z_ki hS (z_runV (As := [.int a1, .int a2, .int a3, .int a4, .int a5]) (rest := []) C hP hS (hL 54 (Nat.le_of_ble_eq_true rfl) (Nat.le_of_ble_eq_true rfl)) (e11 (show kd 54 = 11 from rfl)) rfl (tX12_feed C.2.2.2.2.2.2.1 (hL.mo (Nat.le_of_ble_eq_true rfl) (Nat.le_of_ble_eq_true rfl)) (fun c hc => Nat.lt_of_lt_of_le (List.mem_range.mp hc) (by decide)) (show kd 54 = 11 from rfl) h) q1411 q1412 q1413 q116 q1414 hdX12_feed ⟨(Nat.le_of_ble_eq_true rfl), (Nat.le_of_ble_eq_true rfl)⟩ ⟨lw_f1 hcs (Nat.le_of_ble_eq_true rfl), lw_f1 hss (Nat.le_of_ble_eq_true rfl)⟩ rfl hl.1 rfl (lv_room (Nat.le_of_ble_eq_true rfl)) dL_law_296) (fun r4 st3 H locs h hP hS => ?_)
  refine lv_istore C.1 C.2.1 dL_law_299 hl (Nat.le_of_ble_eq_true rfl) rfl (fun ls hl => ?_)
  have hl : lv_has ls 9 [(6, .int r4), (5, .int r2), (0, .ref b0), (1, .ref (E.2.1 0)), (2, .ref (E.2.1 54)), (3, .ref (E.2.1 67)), (4, .int i)] := hl
  refine lv_aload_n C.1 C.2.1 dL_law_301 rfl (lv_at hl 4 rfl) ?_
  refine z_ki hS (z_runV (As := []) (rest := []) C hP hS (hL 54 (Nat.le_of_ble_eq_true rfl) (Nat.le_of_ble_eq_true rfl)) (e11 (show kd 54 = 11 from rfl)) rfl (tX12_thrown C.2.2.2.2.2.2.1 (hL.mo (Nat.le_of_ble_eq_true rfl) (Nat.le_of_ble_eq_true rfl)) (show kd 54 = 11 from rfl) h) q1407 q1408 q1409 q116 q1410 hdX12_thrown ⟨(Nat.le_of_ble_eq_true rfl), (Nat.le_of_ble_eq_true rfl)⟩ ⟨lw_f2 hcs (Nat.le_of_ble_eq_true rfl), lw_f2 hss (Nat.le_of_ble_eq_true rfl)⟩ rfl hl.1 rfl (lv_room (Nat.le_of_ble_eq_true rfl)) dL_law_302) (fun r6 st5 H locs h hP hS => ?_)
  refine lv_iload C.1 C.2.1 dL_law_305 (lv_at hl 1 rfl) ?_
  refine lv_icmp_eq C.1 C.2.1 (tgt := 312) dL_law_307 (by decide) (fun hc => ?_) (fun hc => ?_)
  · have h := h.1 hc
    refine lv_iload C.1 C.2.1 dL_law_312 (lv_at hl 1 rfl) ?_
    refine lv_if_ne C.1 C.2.1 (tgt := 329) dL_law_314 (by decide) (fun hc => ?_) (fun hc => ?_)
    · have h := h.1 hc
      refine lv_goto C.1 C.2.1 (tgt := 1914) dL_law_329 (by decide) ?_
      exact hk _ _ _ _ _ _ h (lw_g3 (Nat.le_of_ble_eq_true rfl)) (lw_g3 (Nat.le_of_ble_eq_true rfl)) (lv_sub hl [2, 3, 4, 5, 6] rfl) hP hS
    · have h := h.2 hc
      refine lv_aload_n C.1 C.2.1 dL_law_317 rfl (lv_at hl 5 rfl) ?_
      refine lv_iconst C.1 C.2.1 (v := 0) dL_law_318 rfl ?_
      obtain ⟨hi, h⟩ := h
      refine z_lald C hP (show kd 67 = 23 from rfl) (show ln 67 = 1 from rfl) (hL 67 (Nat.le_of_ble_eq_true rfl) (Nat.le_of_ble_eq_true rfl)) hi dL_law_319 ?_
      refine lv_iload C.1 C.2.1 dL_law_320 (lv_at hl 0 rfl) ?_
      refine t_i2l C.1 C.2.1 dL_law_322 rfl ?_
      refine W.lcmp C.1 C.2.1 dL_law_323 ?_
      refine lv_if_eq C.1 C.2.1 (tgt := 329) dL_law_324 (by decide) (fun hc => ?_) (fun hc => ?_)
      · have h := h.1 hc
        refine lv_goto C.1 C.2.1 (tgt := 1914) dL_law_329 (by decide) ?_
        exact hk _ _ _ _ _ _ h (lw_g3 (Nat.le_of_ble_eq_true rfl)) (lw_g3 (Nat.le_of_ble_eq_true rfl)) (lv_sub hl [2, 3, 4, 5, 6] rfl) hP hS
      · have h := h.2 hc
        exact h.elim
  · have h := h.2 hc
    exact h.elim
def wLc_1 (a1 a2 a3 a4 a5 : Int32) (st : St) (R : St → Prop) : Prop :=
  (wL_trim 0 a1 67 st (fun r2 st1 => (wX12_trim 54 a1 st1 (fun r4 st3 => (wX12_thrown 54 st3 (fun r6 st5 => ((r6 = r2 → ((¬ r2 = 0 → R st5) ∧ (r2 = 0 → (vp_in 0 1 ∧ (((lg_cmp (gJ st5 67 (0 : Int32).toNatClampNeg) ((r4 : Int32).toInt64)) = 0 → R st5) ∧ (¬ (lg_cmp (gJ st5 67 (0 : Int32).toNatClampNeg) ((r4 : Int32).toInt64)) = 0 → False)))))) ∧ (¬ r6 = r2 → False))))))))
set_option maxHeartbeats 4000000 in
set_option maxRecDepth 100000 in
theorem tLc_1 {p : Program} {l : Launch} {e : Env} {s : State} {m : MethodId} {args : Array Value} {below : List Frame} {meth : Method} {c : Code} {H : Heap} {locs : List Loc} {cells slots : Nat} {Q : State → Prop} {E : En0} {b0 n : Nat} {xs : Nat → Int32} {i a1 a2 a3 a4 a5 : Int32} {st : St} {R : St → Prop} {ls : Array Slot}
    (C : Cx E L68 "PlankBridgeLaw" cL_law 9 p s m args c) (hNC : NC s) (hfl : l.stackTraces = false) (hX : va_X b0 n xs s s.heap) (hbl : b0 < s.heap.size) (hbA : ¬ fA E L68 s.heap.size b0)
    (hin1 : vp_in (i + 1) n) (hin2 : vp_in (i + 2) n) (hin3 : vp_in (i + 3) n) (hin4 : vp_in (i + 4) n) (hin5 : vp_in (i + 5) n) (ha1 : xs (i + 1).toNatClampNeg = a1) (ha2 : xs (i + 2).toNatClampNeg = a2) (ha3 : xs (i + 3).toNatClampNeg = a3) (ha4 : xs (i + 4).toNatClampNeg = a4) (ha5 : xs (i + 5).toNatClampNeg = a5)
    (hcs : cells + 12 ≤ 601024) (hss : slots + 3300 ≤ 7293034) (hl : lv_has ls 9 [(0, .ref b0), (1, .ref (E.2.1 0)), (2, .ref (E.2.1 54)), (3, .ref (E.2.1 67)), (4, .int i)]) (hP : va_P E.1 vwCl (wd E L68 st) H) (hS : va_S (fA E L68 s.heap.size) s.heap H locs) (h : wLc_1 a1 a2 a3 a4 a5 st R)
    (hk : ∀ (u : St) (H1 : Heap) (locs1 : List Loc) (ls1 : Array Slot) (c1 s1 : Nat), R u → c1 ≤ cells + 12 → s1 ≤ slots + 3300 → lv_has ls1 9 [(0, .ref b0), (1, .ref (E.2.1 0)), (2, .ref (E.2.1 54)), (3, .ref (E.2.1 67)), (4, .int i)] → va_P E.1 vwCl (wd E L68 u) H1 → va_S (fA E L68 s.heap.size) s.heap H1 locs1 → W p l e room_1 s m args below meth c H1 locs1 c1 s1 Q (F0 m 1914 ls1 [])) :
    W p l e room_1 s m args below meth c H locs cells slots Q (F0 m 332 ls []) := by
  have hL : Cov 0 68 L68 := fun c _ h2 => List.mem_range.mpr h2
  unfold wLc_1 at h
  refine lv_aload_n C.1 C.2.1 dL_law_332 rfl (lv_at hl 1 rfl) ?_
  refine lv_aload_n C.1 C.2.1 dL_law_333 rfl (lv_at hl 0 rfl) ?_
  refine lv_iload C.1 C.2.1 dL_law_334 (lv_at hl 4 rfl) ?_
  refine lv_iconst C.1 C.2.1 (v := 1) dL_law_336 rfl ?_
  refine lv_iadd C.1 C.2.1 dL_law_337  ?_
  refine law_sld C hX hbl hbA hS hin1 ha1 dL_law_338 ?_
  refine lv_aload_n C.1 C.2.1 dL_law_339 rfl (lv_at hl 3 rfl) ?_
  refine z_ki hS (z_runSW (As := [.ref (E.2.1 0), .int a1, .ref (E.2.1 67)]) (rest := []) C hNC hP hS (tL_trim C.2.2.2.2.2.2.1 hL (show kd 0 = 8 from rfl) (show kd 67 = 23 from rfl) (show ln 67 = 1 from rfl) (hL 67 (Nat.le_of_ble_eq_true rfl) (Nat.le_of_ble_eq_true rfl)) hfl h) q928 q929 q104 q930 hdL_trim ⟨(Nat.le_of_ble_eq_true rfl), (Nat.le_of_ble_eq_true rfl)⟩ ⟨lw_f0 hcs (Nat.le_of_ble_eq_true rfl), lw_f0 hss (Nat.le_of_ble_eq_true rfl)⟩ rfl hl.1 rfl (lv_room (Nat.le_of_ble_eq_true rfl)) dL_law_340) (fun r2 st1 H locs h hP hS => ?_)
  refine lv_istore C.1 C.2.1 dL_law_343 hl (Nat.le_of_ble_eq_true rfl) rfl (fun ls hl => ?_)
  have hl : lv_has ls 9 [(5, .int r2), (0, .ref b0), (1, .ref (E.2.1 0)), (2, .ref (E.2.1 54)), (3, .ref (E.2.1 67)), (4, .int i)] := hl
  refine lv_aload_n C.1 C.2.1 dL_law_345 rfl (lv_at hl 3 rfl) ?_
  refine lv_aload_n C.1 C.2.1 dL_law_346 rfl (lv_at hl 1 rfl) ?_
  refine lv_iload C.1 C.2.1 dL_law_347 (lv_at hl 5 rfl) ?_
  refine lv_iconst C.1 C.2.1 (v := 1) dL_law_349 rfl ?_
  refine lv_iadd C.1 C.2.1 dL_law_350  ?_
  refine law_sld C hX hbl hbA hS hin1 ha1 dL_law_351 ?_
  refine z_ki hS (z_runV (As := [.int a1]) (rest := []) C hP hS (hL 54 (Nat.le_of_ble_eq_true rfl) (Nat.le_of_ble_eq_true rfl)) (e11 (show kd 54 = 11 from rfl)) rfl (tX12_trim C.2.2.2.2.2.2.1 (hL.mo (Nat.le_of_ble_eq_true rfl) (Nat.le_of_ble_eq_true rfl)) (show kd 54 = 11 from rfl) h) q1419 q1420 q1421 q116 q1422 hdX12_trim ⟨(Nat.le_of_ble_eq_true rfl), (Nat.le_of_ble_eq_true rfl)⟩ ⟨lw_f1 hcs (Nat.le_of_ble_eq_true rfl), lw_f1 hss (Nat.le_of_ble_eq_true rfl)⟩ rfl hl.1 rfl (lv_room (Nat.le_of_ble_eq_true rfl)) dL_law_352) (fun r4 st3 H locs h hP hS => ?_)
  refine lv_istore C.1 C.2.1 dL_law_355 hl (Nat.le_of_ble_eq_true rfl) rfl (fun ls hl => ?_)
  have hl : lv_has ls 9 [(6, .int r4), (5, .int r2), (0, .ref b0), (1, .ref (E.2.1 0)), (2, .ref (E.2.1 54)), (3, .ref (E.2.1 67)), (4, .int i)] := hl
  refine lv_aload_n C.1 C.2.1 dL_law_357 rfl (lv_at hl 4 rfl) ?_
  refine z_ki hS (z_runV (As := []) (rest := []) C hP hS (hL 54 (Nat.le_of_ble_eq_true rfl) (Nat.le_of_ble_eq_true rfl)) (e11 (show kd 54 = 11 from rfl)) rfl (tX12_thrown C.2.2.2.2.2.2.1 (hL.mo (Nat.le_of_ble_eq_true rfl) (Nat.le_of_ble_eq_true rfl)) (show kd 54 = 11 from rfl) h) q1407 q1408 q1409 q116 q1410 hdX12_thrown ⟨(Nat.le_of_ble_eq_true rfl), (Nat.le_of_ble_eq_true rfl)⟩ ⟨lw_f2 hcs (Nat.le_of_ble_eq_true rfl), lw_f2 hss (Nat.le_of_ble_eq_true rfl)⟩ rfl hl.1 rfl (lv_room (Nat.le_of_ble_eq_true rfl)) dL_law_358) (fun r6 st5 H locs h hP hS => ?_)
  refine lv_iload C.1 C.2.1 dL_law_361 (lv_at hl 1 rfl) ?_
  refine lv_icmp_eq C.1 C.2.1 (tgt := 368) dL_law_363 (by decide) (fun hc => ?_) (fun hc => ?_)
  · have h := h.1 hc
    refine lv_iload C.1 C.2.1 dL_law_368 (lv_at hl 1 rfl) ?_
    refine lv_if_ne C.1 C.2.1 (tgt := 385) dL_law_370 (by decide) (fun hc => ?_) (fun hc => ?_)
    · have h := h.1 hc
      refine lv_goto C.1 C.2.1 (tgt := 1914) dL_law_385 (by decide) ?_
      exact hk _ _ _ _ _ _ h (lw_g3 (Nat.le_of_ble_eq_true rfl)) (lw_g3 (Nat.le_of_ble_eq_true rfl)) (lv_sub hl [2, 3, 4, 5, 6] rfl) hP hS
    · have h := h.2 hc
      refine lv_aload_n C.1 C.2.1 dL_law_373 rfl (lv_at hl 5 rfl) ?_
      refine lv_iconst C.1 C.2.1 (v := 0) dL_law_374 rfl ?_
      obtain ⟨hi, h⟩ := h
      refine z_lald C hP (show kd 67 = 23 from rfl) (show ln 67 = 1 from rfl) (hL 67 (Nat.le_of_ble_eq_true rfl) (Nat.le_of_ble_eq_true rfl)) hi dL_law_375 ?_
      refine lv_iload C.1 C.2.1 dL_law_376 (lv_at hl 0 rfl) ?_
      refine t_i2l C.1 C.2.1 dL_law_378 rfl ?_
      refine W.lcmp C.1 C.2.1 dL_law_379 ?_
      refine lv_if_eq C.1 C.2.1 (tgt := 385) dL_law_380 (by decide) (fun hc => ?_) (fun hc => ?_)
      · have h := h.1 hc
        refine lv_goto C.1 C.2.1 (tgt := 1914) dL_law_385 (by decide) ?_
        exact hk _ _ _ _ _ _ h (lw_g3 (Nat.le_of_ble_eq_true rfl)) (lw_g3 (Nat.le_of_ble_eq_true rfl)) (lv_sub hl [2, 3, 4, 5, 6] rfl) hP hS
      · have h := h.2 hc
        exact h.elim
  · have h := h.2 hc
    exact h.elim
def wLc_3 (a1 a2 a3 a4 a5 : Int32) (st : St) (R : St → Prop) : Prop :=
  (wX9_errorAt 0 st (fun r2 st1 => (wX12_errorAt 54 st1 (fun r4 st3 => ((r2 = r4 → R st3) ∧ (¬ r2 = r4 → False))))))
set_option maxHeartbeats 4000000 in
set_option maxRecDepth 100000 in
theorem tLc_3 {p : Program} {l : Launch} {e : Env} {s : State} {m : MethodId} {args : Array Value} {below : List Frame} {meth : Method} {c : Code} {H : Heap} {locs : List Loc} {cells slots : Nat} {Q : State → Prop} {E : En0} {b0 n : Nat} {xs : Nat → Int32} {i a1 a2 a3 a4 a5 : Int32} {st : St} {R : St → Prop} {ls : Array Slot}
    (C : Cx E L68 "PlankBridgeLaw" cL_law 9 p s m args c) (hNC : NC s) (hfl : l.stackTraces = false) (hX : va_X b0 n xs s s.heap) (hbl : b0 < s.heap.size) (hbA : ¬ fA E L68 s.heap.size b0)
    (hin1 : vp_in (i + 1) n) (hin2 : vp_in (i + 2) n) (hin3 : vp_in (i + 3) n) (hin4 : vp_in (i + 4) n) (hin5 : vp_in (i + 5) n) (ha1 : xs (i + 1).toNatClampNeg = a1) (ha2 : xs (i + 2).toNatClampNeg = a2) (ha3 : xs (i + 3).toNatClampNeg = a3) (ha4 : xs (i + 4).toNatClampNeg = a4) (ha5 : xs (i + 5).toNatClampNeg = a5)
    (hcs : cells + 12 ≤ 601024) (hss : slots + 3300 ≤ 7293034) (hl : lv_has ls 9 [(0, .ref b0), (1, .ref (E.2.1 0)), (2, .ref (E.2.1 54)), (3, .ref (E.2.1 67)), (4, .int i)]) (hP : va_P E.1 vwCl (wd E L68 st) H) (hS : va_S (fA E L68 s.heap.size) s.heap H locs) (h : wLc_3 a1 a2 a3 a4 a5 st R)
    (hk : ∀ (u : St) (H1 : Heap) (locs1 : List Loc) (ls1 : Array Slot) (c1 s1 : Nat), R u → c1 ≤ cells + 12 → s1 ≤ slots + 3300 → lv_has ls1 9 [(0, .ref b0), (1, .ref (E.2.1 0)), (2, .ref (E.2.1 54)), (3, .ref (E.2.1 67)), (4, .int i)] → va_P E.1 vwCl (wd E L68 u) H1 → va_S (fA E L68 s.heap.size) s.heap H1 locs1 → W p l e room_1 s m args below meth c H1 locs1 c1 s1 Q (F0 m 1914 ls1 [])) :
    W p l e room_1 s m args below meth c H locs cells slots Q (F0 m 401 ls []) := by
  have hL : Cov 0 68 L68 := fun c _ h2 => List.mem_range.mpr h2
  unfold wLc_3 at h
  refine lv_aload_n C.1 C.2.1 dL_law_401 rfl (lv_at hl 1 rfl) ?_
  refine z_ki hS (z_runV (As := []) (rest := []) C hP hS (hL 0 (Nat.le_of_ble_eq_true rfl) (Nat.le_of_ble_eq_true rfl)) (e8 (show kd 0 = 8 from rfl)) rfl (tX9_errorAt C.2.2.2.2.2.2.1 (hL.mo (Nat.le_of_ble_eq_true rfl) (Nat.le_of_ble_eq_true rfl)) (show kd 0 = 8 from rfl) h) q692 q693 q694 q105 q695 hdX9_errorAt ⟨(Nat.le_of_ble_eq_true rfl), (Nat.le_of_ble_eq_true rfl)⟩ ⟨lw_f0 hcs (Nat.le_of_ble_eq_true rfl), lw_f0 hss (Nat.le_of_ble_eq_true rfl)⟩ rfl hl.1 rfl (lv_room (Nat.le_of_ble_eq_true rfl)) dL_law_402) (fun r2 st1 H locs h hP hS => ?_)
  refine lv_aload_n C.1 C.2.1 dL_law_405 rfl (lv_at hl 2 rfl) ?_
  refine z_ki hS (z_runV (As := []) (rest := [.int r2]) C hP hS (hL 54 (Nat.le_of_ble_eq_true rfl) (Nat.le_of_ble_eq_true rfl)) (e11 (show kd 54 = 11 from rfl)) rfl (tX12_errorAt C.2.2.2.2.2.2.1 (hL.mo (Nat.le_of_ble_eq_true rfl) (Nat.le_of_ble_eq_true rfl)) (show kd 54 = 11 from rfl) h) q1648 q1649 q1650 q116 q1651 hdX12_errorAt ⟨(Nat.le_of_ble_eq_true rfl), (Nat.le_of_ble_eq_true rfl)⟩ ⟨lw_f1 hcs (Nat.le_of_ble_eq_true rfl), lw_f1 hss (Nat.le_of_ble_eq_true rfl)⟩ rfl hl.1 rfl (lv_room (Nat.le_of_ble_eq_true rfl)) dL_law_406) (fun r4 st3 H locs h hP hS => ?_)
  refine lv_icmp_eq C.1 C.2.1 (tgt := 1914) dL_law_409 (by decide) (fun hc => ?_) (fun hc => ?_)
  · have h := h.1 hc
    exact hk _ _ _ _ _ _ h (lw_g2 (Nat.le_of_ble_eq_true rfl)) (lw_g2 (Nat.le_of_ble_eq_true rfl)) hl hP hS
  · have h := h.2 hc
    exact h.elim
def wLc_4 (a1 a2 a3 a4 a5 : Int32) (st : St) (R : St → Prop) : Prop :=
  (wX9_walkers 0 st (fun r2 st1 => (wX12_walkers 54 st1 (fun r4 st3 => ((r2 = r4 → R st3) ∧ (¬ r2 = r4 → False))))))
set_option maxHeartbeats 4000000 in
set_option maxRecDepth 100000 in
theorem tLc_4 {p : Program} {l : Launch} {e : Env} {s : State} {m : MethodId} {args : Array Value} {below : List Frame} {meth : Method} {c : Code} {H : Heap} {locs : List Loc} {cells slots : Nat} {Q : State → Prop} {E : En0} {b0 n : Nat} {xs : Nat → Int32} {i a1 a2 a3 a4 a5 : Int32} {st : St} {R : St → Prop} {ls : Array Slot}
    (C : Cx E L68 "PlankBridgeLaw" cL_law 9 p s m args c) (hNC : NC s) (hfl : l.stackTraces = false) (hX : va_X b0 n xs s s.heap) (hbl : b0 < s.heap.size) (hbA : ¬ fA E L68 s.heap.size b0)
    (hin1 : vp_in (i + 1) n) (hin2 : vp_in (i + 2) n) (hin3 : vp_in (i + 3) n) (hin4 : vp_in (i + 4) n) (hin5 : vp_in (i + 5) n) (ha1 : xs (i + 1).toNatClampNeg = a1) (ha2 : xs (i + 2).toNatClampNeg = a2) (ha3 : xs (i + 3).toNatClampNeg = a3) (ha4 : xs (i + 4).toNatClampNeg = a4) (ha5 : xs (i + 5).toNatClampNeg = a5)
    (hcs : cells + 12 ≤ 601024) (hss : slots + 3300 ≤ 7293034) (hl : lv_has ls 9 [(0, .ref b0), (1, .ref (E.2.1 0)), (2, .ref (E.2.1 54)), (3, .ref (E.2.1 67)), (4, .int i)]) (hP : va_P E.1 vwCl (wd E L68 st) H) (hS : va_S (fA E L68 s.heap.size) s.heap H locs) (h : wLc_4 a1 a2 a3 a4 a5 st R)
    (hk : ∀ (u : St) (H1 : Heap) (locs1 : List Loc) (ls1 : Array Slot) (c1 s1 : Nat), R u → c1 ≤ cells + 12 → s1 ≤ slots + 3300 → lv_has ls1 9 [(0, .ref b0), (1, .ref (E.2.1 0)), (2, .ref (E.2.1 54)), (3, .ref (E.2.1 67)), (4, .int i)] → va_P E.1 vwCl (wd E L68 u) H1 → va_S (fA E L68 s.heap.size) s.heap H1 locs1 → W p l e room_1 s m args below meth c H1 locs1 c1 s1 Q (F0 m 1914 ls1 [])) :
    W p l e room_1 s m args below meth c H locs cells slots Q (F0 m 414 ls []) := by
  have hL : Cov 0 68 L68 := fun c _ h2 => List.mem_range.mpr h2
  unfold wLc_4 at h
  refine lv_aload_n C.1 C.2.1 dL_law_414 rfl (lv_at hl 1 rfl) ?_
  refine z_ki hS (z_runV (As := []) (rest := []) C hP hS (hL 0 (Nat.le_of_ble_eq_true rfl) (Nat.le_of_ble_eq_true rfl)) (e8 (show kd 0 = 8 from rfl)) rfl (tX9_walkers C.2.2.2.2.2.2.1 (hL.mo (Nat.le_of_ble_eq_true rfl) (Nat.le_of_ble_eq_true rfl)) (show kd 0 = 8 from rfl) h) q696 q697 q698 q105 q699 hdX9_walkers ⟨(Nat.le_of_ble_eq_true rfl), (Nat.le_of_ble_eq_true rfl)⟩ ⟨lw_f0 hcs (Nat.le_of_ble_eq_true rfl), lw_f0 hss (Nat.le_of_ble_eq_true rfl)⟩ rfl hl.1 rfl (lv_room (Nat.le_of_ble_eq_true rfl)) dL_law_415) (fun r2 st1 H locs h hP hS => ?_)
  refine lv_aload_n C.1 C.2.1 dL_law_418 rfl (lv_at hl 2 rfl) ?_
  refine z_ki hS (z_runV (As := []) (rest := [.int r2]) C hP hS (hL 54 (Nat.le_of_ble_eq_true rfl) (Nat.le_of_ble_eq_true rfl)) (e11 (show kd 54 = 11 from rfl)) rfl (tX12_walkers C.2.2.2.2.2.2.1 (hL.mo (Nat.le_of_ble_eq_true rfl) (Nat.le_of_ble_eq_true rfl)) (show kd 54 = 11 from rfl) h) q1656 q1657 q1658 q116 q1659 hdX12_walkers ⟨(Nat.le_of_ble_eq_true rfl), (Nat.le_of_ble_eq_true rfl)⟩ ⟨lw_f1 hcs (Nat.le_of_ble_eq_true rfl), lw_f1 hss (Nat.le_of_ble_eq_true rfl)⟩ rfl hl.1 rfl (lv_room (Nat.le_of_ble_eq_true rfl)) dL_law_419) (fun r4 st3 H locs h hP hS => ?_)
  refine lv_icmp_eq C.1 C.2.1 (tgt := 1914) dL_law_422 (by decide) (fun hc => ?_) (fun hc => ?_)
  · have h := h.1 hc
    exact hk _ _ _ _ _ _ h (lw_g2 (Nat.le_of_ble_eq_true rfl)) (lw_g2 (Nat.le_of_ble_eq_true rfl)) hl hP hS
  · have h := h.2 hc
    exact h.elim
def wLc_5 (a1 a2 a3 a4 a5 : Int32) (st : St) (R : St → Prop) : Prop :=
  (wX9_planks 0 st (fun r2 st1 => (wX12_planks 54 st1 (fun r4 st3 => ((r2 = r4 → R st3) ∧ (¬ r2 = r4 → False))))))
set_option maxHeartbeats 4000000 in
set_option maxRecDepth 100000 in
theorem tLc_5 {p : Program} {l : Launch} {e : Env} {s : State} {m : MethodId} {args : Array Value} {below : List Frame} {meth : Method} {c : Code} {H : Heap} {locs : List Loc} {cells slots : Nat} {Q : State → Prop} {E : En0} {b0 n : Nat} {xs : Nat → Int32} {i a1 a2 a3 a4 a5 : Int32} {st : St} {R : St → Prop} {ls : Array Slot}
    (C : Cx E L68 "PlankBridgeLaw" cL_law 9 p s m args c) (hNC : NC s) (hfl : l.stackTraces = false) (hX : va_X b0 n xs s s.heap) (hbl : b0 < s.heap.size) (hbA : ¬ fA E L68 s.heap.size b0)
    (hin1 : vp_in (i + 1) n) (hin2 : vp_in (i + 2) n) (hin3 : vp_in (i + 3) n) (hin4 : vp_in (i + 4) n) (hin5 : vp_in (i + 5) n) (ha1 : xs (i + 1).toNatClampNeg = a1) (ha2 : xs (i + 2).toNatClampNeg = a2) (ha3 : xs (i + 3).toNatClampNeg = a3) (ha4 : xs (i + 4).toNatClampNeg = a4) (ha5 : xs (i + 5).toNatClampNeg = a5)
    (hcs : cells + 12 ≤ 601024) (hss : slots + 3300 ≤ 7293034) (hl : lv_has ls 9 [(0, .ref b0), (1, .ref (E.2.1 0)), (2, .ref (E.2.1 54)), (3, .ref (E.2.1 67)), (4, .int i)]) (hP : va_P E.1 vwCl (wd E L68 st) H) (hS : va_S (fA E L68 s.heap.size) s.heap H locs) (h : wLc_5 a1 a2 a3 a4 a5 st R)
    (hk : ∀ (u : St) (H1 : Heap) (locs1 : List Loc) (ls1 : Array Slot) (c1 s1 : Nat), R u → c1 ≤ cells + 12 → s1 ≤ slots + 3300 → lv_has ls1 9 [(0, .ref b0), (1, .ref (E.2.1 0)), (2, .ref (E.2.1 54)), (3, .ref (E.2.1 67)), (4, .int i)] → va_P E.1 vwCl (wd E L68 u) H1 → va_S (fA E L68 s.heap.size) s.heap H1 locs1 → W p l e room_1 s m args below meth c H1 locs1 c1 s1 Q (F0 m 1914 ls1 [])) :
    W p l e room_1 s m args below meth c H locs cells slots Q (F0 m 427 ls []) := by
  have hL : Cov 0 68 L68 := fun c _ h2 => List.mem_range.mpr h2
  unfold wLc_5 at h
  refine lv_aload_n C.1 C.2.1 dL_law_427 rfl (lv_at hl 1 rfl) ?_
  refine z_ki hS (z_runV (As := []) (rest := []) C hP hS (hL 0 (Nat.le_of_ble_eq_true rfl) (Nat.le_of_ble_eq_true rfl)) (e8 (show kd 0 = 8 from rfl)) rfl (tX9_planks C.2.2.2.2.2.2.1 (hL.mo (Nat.le_of_ble_eq_true rfl) (Nat.le_of_ble_eq_true rfl)) (show kd 0 = 8 from rfl) h) q700 q701 q702 q105 q703 hdX9_planks ⟨(Nat.le_of_ble_eq_true rfl), (Nat.le_of_ble_eq_true rfl)⟩ ⟨lw_f0 hcs (Nat.le_of_ble_eq_true rfl), lw_f0 hss (Nat.le_of_ble_eq_true rfl)⟩ rfl hl.1 rfl (lv_room (Nat.le_of_ble_eq_true rfl)) dL_law_428) (fun r2 st1 H locs h hP hS => ?_)
  refine lv_aload_n C.1 C.2.1 dL_law_431 rfl (lv_at hl 2 rfl) ?_
  refine z_ki hS (z_runV (As := []) (rest := [.int r2]) C hP hS (hL 54 (Nat.le_of_ble_eq_true rfl) (Nat.le_of_ble_eq_true rfl)) (e11 (show kd 54 = 11 from rfl)) rfl (tX12_planks C.2.2.2.2.2.2.1 (hL.mo (Nat.le_of_ble_eq_true rfl) (Nat.le_of_ble_eq_true rfl)) (show kd 54 = 11 from rfl) h) q1660 q1661 q1662 q116 q1663 hdX12_planks ⟨(Nat.le_of_ble_eq_true rfl), (Nat.le_of_ble_eq_true rfl)⟩ ⟨lw_f1 hcs (Nat.le_of_ble_eq_true rfl), lw_f1 hss (Nat.le_of_ble_eq_true rfl)⟩ rfl hl.1 rfl (lv_room (Nat.le_of_ble_eq_true rfl)) dL_law_432) (fun r4 st3 H locs h hP hS => ?_)
  refine lv_icmp_eq C.1 C.2.1 (tgt := 1914) dL_law_435 (by decide) (fun hc => ?_) (fun hc => ?_)
  · have h := h.1 hc
    exact hk _ _ _ _ _ _ h (lw_g2 (Nat.le_of_ble_eq_true rfl)) (lw_g2 (Nat.le_of_ble_eq_true rfl)) hl hP hS
  · have h := h.2 hc
    exact h.elim
def wLc_6 (a1 a2 a3 a4 a5 : Int32) (st : St) (R : St → Prop) : Prop :=
  (wX9_plans 0 st (fun r2 st1 => (wX12_plans 54 st1 (fun r4 st3 => ((r2 = r4 → R st3) ∧ (¬ r2 = r4 → False))))))
set_option maxHeartbeats 4000000 in
set_option maxRecDepth 100000 in
theorem tLc_6 {p : Program} {l : Launch} {e : Env} {s : State} {m : MethodId} {args : Array Value} {below : List Frame} {meth : Method} {c : Code} {H : Heap} {locs : List Loc} {cells slots : Nat} {Q : State → Prop} {E : En0} {b0 n : Nat} {xs : Nat → Int32} {i a1 a2 a3 a4 a5 : Int32} {st : St} {R : St → Prop} {ls : Array Slot}
    (C : Cx E L68 "PlankBridgeLaw" cL_law 9 p s m args c) (hNC : NC s) (hfl : l.stackTraces = false) (hX : va_X b0 n xs s s.heap) (hbl : b0 < s.heap.size) (hbA : ¬ fA E L68 s.heap.size b0)
    (hin1 : vp_in (i + 1) n) (hin2 : vp_in (i + 2) n) (hin3 : vp_in (i + 3) n) (hin4 : vp_in (i + 4) n) (hin5 : vp_in (i + 5) n) (ha1 : xs (i + 1).toNatClampNeg = a1) (ha2 : xs (i + 2).toNatClampNeg = a2) (ha3 : xs (i + 3).toNatClampNeg = a3) (ha4 : xs (i + 4).toNatClampNeg = a4) (ha5 : xs (i + 5).toNatClampNeg = a5)
    (hcs : cells + 12 ≤ 601024) (hss : slots + 3300 ≤ 7293034) (hl : lv_has ls 9 [(0, .ref b0), (1, .ref (E.2.1 0)), (2, .ref (E.2.1 54)), (3, .ref (E.2.1 67)), (4, .int i)]) (hP : va_P E.1 vwCl (wd E L68 st) H) (hS : va_S (fA E L68 s.heap.size) s.heap H locs) (h : wLc_6 a1 a2 a3 a4 a5 st R)
    (hk : ∀ (u : St) (H1 : Heap) (locs1 : List Loc) (ls1 : Array Slot) (c1 s1 : Nat), R u → c1 ≤ cells + 12 → s1 ≤ slots + 3300 → lv_has ls1 9 [(0, .ref b0), (1, .ref (E.2.1 0)), (2, .ref (E.2.1 54)), (3, .ref (E.2.1 67)), (4, .int i)] → va_P E.1 vwCl (wd E L68 u) H1 → va_S (fA E L68 s.heap.size) s.heap H1 locs1 → W p l e room_1 s m args below meth c H1 locs1 c1 s1 Q (F0 m 1914 ls1 [])) :
    W p l e room_1 s m args below meth c H locs cells slots Q (F0 m 440 ls []) := by
  have hL : Cov 0 68 L68 := fun c _ h2 => List.mem_range.mpr h2
  unfold wLc_6 at h
  refine lv_aload_n C.1 C.2.1 dL_law_440 rfl (lv_at hl 1 rfl) ?_
  refine z_ki hS (z_runV (As := []) (rest := []) C hP hS (hL 0 (Nat.le_of_ble_eq_true rfl) (Nat.le_of_ble_eq_true rfl)) (e8 (show kd 0 = 8 from rfl)) rfl (tX9_plans C.2.2.2.2.2.2.1 (hL.mo (Nat.le_of_ble_eq_true rfl) (Nat.le_of_ble_eq_true rfl)) (show kd 0 = 8 from rfl) h) q704 q705 q706 q105 q707 hdX9_plans ⟨(Nat.le_of_ble_eq_true rfl), (Nat.le_of_ble_eq_true rfl)⟩ ⟨lw_f0 hcs (Nat.le_of_ble_eq_true rfl), lw_f0 hss (Nat.le_of_ble_eq_true rfl)⟩ rfl hl.1 rfl (lv_room (Nat.le_of_ble_eq_true rfl)) dL_law_441) (fun r2 st1 H locs h hP hS => ?_)
  refine lv_aload_n C.1 C.2.1 dL_law_444 rfl (lv_at hl 2 rfl) ?_
  refine z_ki hS (z_runV (As := []) (rest := [.int r2]) C hP hS (hL 54 (Nat.le_of_ble_eq_true rfl) (Nat.le_of_ble_eq_true rfl)) (e11 (show kd 54 = 11 from rfl)) rfl (tX12_plans C.2.2.2.2.2.2.1 (hL.mo (Nat.le_of_ble_eq_true rfl) (Nat.le_of_ble_eq_true rfl)) (show kd 54 = 11 from rfl) h) q1664 q1665 q1666 q116 q1667 hdX12_plans ⟨(Nat.le_of_ble_eq_true rfl), (Nat.le_of_ble_eq_true rfl)⟩ ⟨lw_f1 hcs (Nat.le_of_ble_eq_true rfl), lw_f1 hss (Nat.le_of_ble_eq_true rfl)⟩ rfl hl.1 rfl (lv_room (Nat.le_of_ble_eq_true rfl)) dL_law_445) (fun r4 st3 H locs h hP hS => ?_)
  refine lv_icmp_eq C.1 C.2.1 (tgt := 1914) dL_law_448 (by decide) (fun hc => ?_) (fun hc => ?_)
  · have h := h.1 hc
    exact hk _ _ _ _ _ _ h (lw_g2 (Nat.le_of_ble_eq_true rfl)) (lw_g2 (Nat.le_of_ble_eq_true rfl)) hl hP hS
  · have h := h.2 hc
    exact h.elim
def wLc_7 (a1 a2 a3 a4 a5 : Int32) (st : St) (R : St → Prop) : Prop :=
  (wL_weightOf 0 a1 67 st (fun r2 st1 => (wX12_weightOf 54 a1 st1 (fun r4 st3 => (wX12_thrown 54 st3 (fun r6 st5 => ((r6 = r2 → ((¬ r2 = 0 → R st5) ∧ (r2 = 0 → (vp_in 0 1 ∧ (((lg_cmp (gJ st5 67 (0 : Int32).toNatClampNeg) ((r4 : Int32).toInt64)) = 0 → R st5) ∧ (¬ (lg_cmp (gJ st5 67 (0 : Int32).toNatClampNeg) ((r4 : Int32).toInt64)) = 0 → False)))))) ∧ (¬ r6 = r2 → False))))))))
set_option maxHeartbeats 4000000 in
set_option maxRecDepth 100000 in
theorem tLc_7 {p : Program} {l : Launch} {e : Env} {s : State} {m : MethodId} {args : Array Value} {below : List Frame} {meth : Method} {c : Code} {H : Heap} {locs : List Loc} {cells slots : Nat} {Q : State → Prop} {E : En0} {b0 n : Nat} {xs : Nat → Int32} {i a1 a2 a3 a4 a5 : Int32} {st : St} {R : St → Prop} {ls : Array Slot}
    (C : Cx E L68 "PlankBridgeLaw" cL_law 9 p s m args c) (hNC : NC s) (hfl : l.stackTraces = false) (hX : va_X b0 n xs s s.heap) (hbl : b0 < s.heap.size) (hbA : ¬ fA E L68 s.heap.size b0)
    (hin1 : vp_in (i + 1) n) (hin2 : vp_in (i + 2) n) (hin3 : vp_in (i + 3) n) (hin4 : vp_in (i + 4) n) (hin5 : vp_in (i + 5) n) (ha1 : xs (i + 1).toNatClampNeg = a1) (ha2 : xs (i + 2).toNatClampNeg = a2) (ha3 : xs (i + 3).toNatClampNeg = a3) (ha4 : xs (i + 4).toNatClampNeg = a4) (ha5 : xs (i + 5).toNatClampNeg = a5)
    (hcs : cells + 12 ≤ 601024) (hss : slots + 3300 ≤ 7293034) (hl : lv_has ls 9 [(0, .ref b0), (1, .ref (E.2.1 0)), (2, .ref (E.2.1 54)), (3, .ref (E.2.1 67)), (4, .int i)]) (hP : va_P E.1 vwCl (wd E L68 st) H) (hS : va_S (fA E L68 s.heap.size) s.heap H locs) (h : wLc_7 a1 a2 a3 a4 a5 st R)
    (hk : ∀ (u : St) (H1 : Heap) (locs1 : List Loc) (ls1 : Array Slot) (c1 s1 : Nat), R u → c1 ≤ cells + 12 → s1 ≤ slots + 3300 → lv_has ls1 9 [(0, .ref b0), (1, .ref (E.2.1 0)), (2, .ref (E.2.1 54)), (3, .ref (E.2.1 67)), (4, .int i)] → va_P E.1 vwCl (wd E L68 u) H1 → va_S (fA E L68 s.heap.size) s.heap H1 locs1 → W p l e room_1 s m args below meth c H1 locs1 c1 s1 Q (F0 m 1914 ls1 [])) :
    W p l e room_1 s m args below meth c H locs cells slots Q (F0 m 453 ls []) := by
  have hL : Cov 0 68 L68 := fun c _ h2 => List.mem_range.mpr h2
  unfold wLc_7 at h
  refine lv_aload_n C.1 C.2.1 dL_law_453 rfl (lv_at hl 1 rfl) ?_
  refine lv_aload_n C.1 C.2.1 dL_law_454 rfl (lv_at hl 0 rfl) ?_
  refine lv_iload C.1 C.2.1 dL_law_455 (lv_at hl 4 rfl) ?_
  refine lv_iconst C.1 C.2.1 (v := 1) dL_law_457 rfl ?_
  refine lv_iadd C.1 C.2.1 dL_law_458  ?_
  refine law_sld C hX hbl hbA hS hin1 ha1 dL_law_459 ?_
  refine lv_aload_n C.1 C.2.1 dL_law_460 rfl (lv_at hl 3 rfl) ?_
  refine z_ki hS (z_runSW (As := [.ref (E.2.1 0), .int a1, .ref (E.2.1 67)]) (rest := []) C hNC hP hS (tL_weightOf C.2.2.2.2.2.2.1 hL (show kd 0 = 8 from rfl) (show kd 67 = 23 from rfl) (show ln 67 = 1 from rfl) (hL 67 (Nat.le_of_ble_eq_true rfl) (Nat.le_of_ble_eq_true rfl)) hfl h) q952 q953 q104 q954 hdL_weightOf ⟨(Nat.le_of_ble_eq_true rfl), (Nat.le_of_ble_eq_true rfl)⟩ ⟨lw_f0 hcs (Nat.le_of_ble_eq_true rfl), lw_f0 hss (Nat.le_of_ble_eq_true rfl)⟩ rfl hl.1 rfl (lv_room (Nat.le_of_ble_eq_true rfl)) dL_law_461) (fun r2 st1 H locs h hP hS => ?_)
  refine lv_istore C.1 C.2.1 dL_law_464 hl (Nat.le_of_ble_eq_true rfl) rfl (fun ls hl => ?_)
  have hl : lv_has ls 9 [(5, .int r2), (0, .ref b0), (1, .ref (E.2.1 0)), (2, .ref (E.2.1 54)), (3, .ref (E.2.1 67)), (4, .int i)] := hl
  refine lv_aload_n C.1 C.2.1 dL_law_466 rfl (lv_at hl 3 rfl) ?_
  refine lv_aload_n C.1 C.2.1 dL_law_467 rfl (lv_at hl 1 rfl) ?_
  refine lv_iload C.1 C.2.1 dL_law_468 (lv_at hl 5 rfl) ?_
  refine lv_iconst C.1 C.2.1 (v := 1) dL_law_470 rfl ?_
  refine lv_iadd C.1 C.2.1 dL_law_471  ?_
  refine law_sld C hX hbl hbA hS hin1 ha1 dL_law_472 ?_
  refine z_ki hS (z_runV (As := [.int a1]) (rest := []) C hP hS (hL 54 (Nat.le_of_ble_eq_true rfl) (Nat.le_of_ble_eq_true rfl)) (e11 (show kd 54 = 11 from rfl)) rfl (tX12_weightOf C.2.2.2.2.2.2.1 (hL.mo (Nat.le_of_ble_eq_true rfl) (Nat.le_of_ble_eq_true rfl)) (show kd 54 = 11 from rfl) h) q1668 q1669 q1670 q116 q1671 hdX12_weightOf ⟨(Nat.le_of_ble_eq_true rfl), (Nat.le_of_ble_eq_true rfl)⟩ ⟨lw_f1 hcs (Nat.le_of_ble_eq_true rfl), lw_f1 hss (Nat.le_of_ble_eq_true rfl)⟩ rfl hl.1 rfl (lv_room (Nat.le_of_ble_eq_true rfl)) dL_law_473) (fun r4 st3 H locs h hP hS => ?_)
  refine lv_istore C.1 C.2.1 dL_law_476 hl (Nat.le_of_ble_eq_true rfl) rfl (fun ls hl => ?_)
  have hl : lv_has ls 9 [(6, .int r4), (5, .int r2), (0, .ref b0), (1, .ref (E.2.1 0)), (2, .ref (E.2.1 54)), (3, .ref (E.2.1 67)), (4, .int i)] := hl
  refine lv_aload_n C.1 C.2.1 dL_law_478 rfl (lv_at hl 4 rfl) ?_
  refine z_ki hS (z_runV (As := []) (rest := []) C hP hS (hL 54 (Nat.le_of_ble_eq_true rfl) (Nat.le_of_ble_eq_true rfl)) (e11 (show kd 54 = 11 from rfl)) rfl (tX12_thrown C.2.2.2.2.2.2.1 (hL.mo (Nat.le_of_ble_eq_true rfl) (Nat.le_of_ble_eq_true rfl)) (show kd 54 = 11 from rfl) h) q1407 q1408 q1409 q116 q1410 hdX12_thrown ⟨(Nat.le_of_ble_eq_true rfl), (Nat.le_of_ble_eq_true rfl)⟩ ⟨lw_f2 hcs (Nat.le_of_ble_eq_true rfl), lw_f2 hss (Nat.le_of_ble_eq_true rfl)⟩ rfl hl.1 rfl (lv_room (Nat.le_of_ble_eq_true rfl)) dL_law_479) (fun r6 st5 H locs h hP hS => ?_)
  refine lv_iload C.1 C.2.1 dL_law_482 (lv_at hl 1 rfl) ?_
  refine lv_icmp_eq C.1 C.2.1 (tgt := 489) dL_law_484 (by decide) (fun hc => ?_) (fun hc => ?_)
  · have h := h.1 hc
    refine lv_iload C.1 C.2.1 dL_law_489 (lv_at hl 1 rfl) ?_
    refine lv_if_ne C.1 C.2.1 (tgt := 506) dL_law_491 (by decide) (fun hc => ?_) (fun hc => ?_)
    · have h := h.1 hc
      refine lv_goto C.1 C.2.1 (tgt := 1914) dL_law_506 (by decide) ?_
      exact hk _ _ _ _ _ _ h (lw_g3 (Nat.le_of_ble_eq_true rfl)) (lw_g3 (Nat.le_of_ble_eq_true rfl)) (lv_sub hl [2, 3, 4, 5, 6] rfl) hP hS
    · have h := h.2 hc
      refine lv_aload_n C.1 C.2.1 dL_law_494 rfl (lv_at hl 5 rfl) ?_
      refine lv_iconst C.1 C.2.1 (v := 0) dL_law_495 rfl ?_
      obtain ⟨hi, h⟩ := h
      refine z_lald C hP (show kd 67 = 23 from rfl) (show ln 67 = 1 from rfl) (hL 67 (Nat.le_of_ble_eq_true rfl) (Nat.le_of_ble_eq_true rfl)) hi dL_law_496 ?_
      refine lv_iload C.1 C.2.1 dL_law_497 (lv_at hl 0 rfl) ?_
      refine t_i2l C.1 C.2.1 dL_law_499 rfl ?_
      refine W.lcmp C.1 C.2.1 dL_law_500 ?_
      refine lv_if_eq C.1 C.2.1 (tgt := 506) dL_law_501 (by decide) (fun hc => ?_) (fun hc => ?_)
      · have h := h.1 hc
        refine lv_goto C.1 C.2.1 (tgt := 1914) dL_law_506 (by decide) ?_
        exact hk _ _ _ _ _ _ h (lw_g3 (Nat.le_of_ble_eq_true rfl)) (lw_g3 (Nat.le_of_ble_eq_true rfl)) (lv_sub hl [2, 3, 4, 5, 6] rfl) hP hS
      · have h := h.2 hc
        exact h.elim
  · have h := h.2 hc
    exact h.elim
def wLc_8 (a1 a2 a3 a4 a5 : Int32) (st : St) (R : St → Prop) : Prop :=
  (wL_minutesOf 0 a1 67 st (fun r2 st1 => (wX12_minutesOf 54 a1 st1 (fun r4 st3 => (wX12_thrown 54 st3 (fun r6 st5 => ((r6 = r2 → ((¬ r2 = 0 → R st5) ∧ (r2 = 0 → (vp_in 0 1 ∧ (((lg_cmp (gJ st5 67 (0 : Int32).toNatClampNeg) ((r4 : Int32).toInt64)) = 0 → R st5) ∧ (¬ (lg_cmp (gJ st5 67 (0 : Int32).toNatClampNeg) ((r4 : Int32).toInt64)) = 0 → False)))))) ∧ (¬ r6 = r2 → False))))))))
set_option maxHeartbeats 4000000 in
set_option maxRecDepth 100000 in
theorem tLc_8 {p : Program} {l : Launch} {e : Env} {s : State} {m : MethodId} {args : Array Value} {below : List Frame} {meth : Method} {c : Code} {H : Heap} {locs : List Loc} {cells slots : Nat} {Q : State → Prop} {E : En0} {b0 n : Nat} {xs : Nat → Int32} {i a1 a2 a3 a4 a5 : Int32} {st : St} {R : St → Prop} {ls : Array Slot}
    (C : Cx E L68 "PlankBridgeLaw" cL_law 9 p s m args c) (hNC : NC s) (hfl : l.stackTraces = false) (hX : va_X b0 n xs s s.heap) (hbl : b0 < s.heap.size) (hbA : ¬ fA E L68 s.heap.size b0)
    (hin1 : vp_in (i + 1) n) (hin2 : vp_in (i + 2) n) (hin3 : vp_in (i + 3) n) (hin4 : vp_in (i + 4) n) (hin5 : vp_in (i + 5) n) (ha1 : xs (i + 1).toNatClampNeg = a1) (ha2 : xs (i + 2).toNatClampNeg = a2) (ha3 : xs (i + 3).toNatClampNeg = a3) (ha4 : xs (i + 4).toNatClampNeg = a4) (ha5 : xs (i + 5).toNatClampNeg = a5)
    (hcs : cells + 12 ≤ 601024) (hss : slots + 3300 ≤ 7293034) (hl : lv_has ls 9 [(0, .ref b0), (1, .ref (E.2.1 0)), (2, .ref (E.2.1 54)), (3, .ref (E.2.1 67)), (4, .int i)]) (hP : va_P E.1 vwCl (wd E L68 st) H) (hS : va_S (fA E L68 s.heap.size) s.heap H locs) (h : wLc_8 a1 a2 a3 a4 a5 st R)
    (hk : ∀ (u : St) (H1 : Heap) (locs1 : List Loc) (ls1 : Array Slot) (c1 s1 : Nat), R u → c1 ≤ cells + 12 → s1 ≤ slots + 3300 → lv_has ls1 9 [(0, .ref b0), (1, .ref (E.2.1 0)), (2, .ref (E.2.1 54)), (3, .ref (E.2.1 67)), (4, .int i)] → va_P E.1 vwCl (wd E L68 u) H1 → va_S (fA E L68 s.heap.size) s.heap H1 locs1 → W p l e room_1 s m args below meth c H1 locs1 c1 s1 Q (F0 m 1914 ls1 [])) :
    W p l e room_1 s m args below meth c H locs cells slots Q (F0 m 509 ls []) := by
  have hL : Cov 0 68 L68 := fun c _ h2 => List.mem_range.mpr h2
  unfold wLc_8 at h
  refine lv_aload_n C.1 C.2.1 dL_law_509 rfl (lv_at hl 1 rfl) ?_
  refine lv_aload_n C.1 C.2.1 dL_law_510 rfl (lv_at hl 0 rfl) ?_
  refine lv_iload C.1 C.2.1 dL_law_511 (lv_at hl 4 rfl) ?_
  refine lv_iconst C.1 C.2.1 (v := 1) dL_law_513 rfl ?_
  refine lv_iadd C.1 C.2.1 dL_law_514  ?_
  refine law_sld C hX hbl hbA hS hin1 ha1 dL_law_515 ?_
  refine lv_aload_n C.1 C.2.1 dL_law_516 rfl (lv_at hl 3 rfl) ?_
  refine z_ki hS (z_runSW (As := [.ref (E.2.1 0), .int a1, .ref (E.2.1 67)]) (rest := []) C hNC hP hS (tL_minutesOf C.2.2.2.2.2.2.1 hL (show kd 0 = 8 from rfl) (show kd 67 = 23 from rfl) (show ln 67 = 1 from rfl) (hL 67 (Nat.le_of_ble_eq_true rfl) (Nat.le_of_ble_eq_true rfl)) hfl h) q980 q981 q104 q982 hdL_minutesOf ⟨(Nat.le_of_ble_eq_true rfl), (Nat.le_of_ble_eq_true rfl)⟩ ⟨lw_f0 hcs (Nat.le_of_ble_eq_true rfl), lw_f0 hss (Nat.le_of_ble_eq_true rfl)⟩ rfl hl.1 rfl (lv_room (Nat.le_of_ble_eq_true rfl)) dL_law_517) (fun r2 st1 H locs h hP hS => ?_)
  refine lv_istore C.1 C.2.1 dL_law_520 hl (Nat.le_of_ble_eq_true rfl) rfl (fun ls hl => ?_)
  have hl : lv_has ls 9 [(5, .int r2), (0, .ref b0), (1, .ref (E.2.1 0)), (2, .ref (E.2.1 54)), (3, .ref (E.2.1 67)), (4, .int i)] := hl
  refine lv_aload_n C.1 C.2.1 dL_law_522 rfl (lv_at hl 3 rfl) ?_
  refine lv_aload_n C.1 C.2.1 dL_law_523 rfl (lv_at hl 1 rfl) ?_
  refine lv_iload C.1 C.2.1 dL_law_524 (lv_at hl 5 rfl) ?_
  refine lv_iconst C.1 C.2.1 (v := 1) dL_law_526 rfl ?_
  refine lv_iadd C.1 C.2.1 dL_law_527  ?_
  refine law_sld C hX hbl hbA hS hin1 ha1 dL_law_528 ?_
  refine z_ki hS (z_runV (As := [.int a1]) (rest := []) C hP hS (hL 54 (Nat.le_of_ble_eq_true rfl) (Nat.le_of_ble_eq_true rfl)) (e11 (show kd 54 = 11 from rfl)) rfl (tX12_minutesOf C.2.2.2.2.2.2.1 (hL.mo (Nat.le_of_ble_eq_true rfl) (Nat.le_of_ble_eq_true rfl)) (show kd 54 = 11 from rfl) h) q1676 q1677 q1678 q116 q1679 hdX12_minutesOf ⟨(Nat.le_of_ble_eq_true rfl), (Nat.le_of_ble_eq_true rfl)⟩ ⟨lw_f1 hcs (Nat.le_of_ble_eq_true rfl), lw_f1 hss (Nat.le_of_ble_eq_true rfl)⟩ rfl hl.1 rfl (lv_room (Nat.le_of_ble_eq_true rfl)) dL_law_529) (fun r4 st3 H locs h hP hS => ?_)
  refine lv_istore C.1 C.2.1 dL_law_532 hl (Nat.le_of_ble_eq_true rfl) rfl (fun ls hl => ?_)
  have hl : lv_has ls 9 [(6, .int r4), (5, .int r2), (0, .ref b0), (1, .ref (E.2.1 0)), (2, .ref (E.2.1 54)), (3, .ref (E.2.1 67)), (4, .int i)] := hl
  refine lv_aload_n C.1 C.2.1 dL_law_534 rfl (lv_at hl 4 rfl) ?_
  refine z_ki hS (z_runV (As := []) (rest := []) C hP hS (hL 54 (Nat.le_of_ble_eq_true rfl) (Nat.le_of_ble_eq_true rfl)) (e11 (show kd 54 = 11 from rfl)) rfl (tX12_thrown C.2.2.2.2.2.2.1 (hL.mo (Nat.le_of_ble_eq_true rfl) (Nat.le_of_ble_eq_true rfl)) (show kd 54 = 11 from rfl) h) q1407 q1408 q1409 q116 q1410 hdX12_thrown ⟨(Nat.le_of_ble_eq_true rfl), (Nat.le_of_ble_eq_true rfl)⟩ ⟨lw_f2 hcs (Nat.le_of_ble_eq_true rfl), lw_f2 hss (Nat.le_of_ble_eq_true rfl)⟩ rfl hl.1 rfl (lv_room (Nat.le_of_ble_eq_true rfl)) dL_law_535) (fun r6 st5 H locs h hP hS => ?_)
  refine lv_iload C.1 C.2.1 dL_law_538 (lv_at hl 1 rfl) ?_
  refine lv_icmp_eq C.1 C.2.1 (tgt := 545) dL_law_540 (by decide) (fun hc => ?_) (fun hc => ?_)
  · have h := h.1 hc
    refine lv_iload C.1 C.2.1 dL_law_545 (lv_at hl 1 rfl) ?_
    refine lv_if_ne C.1 C.2.1 (tgt := 562) dL_law_547 (by decide) (fun hc => ?_) (fun hc => ?_)
    · have h := h.1 hc
      refine lv_goto C.1 C.2.1 (tgt := 1914) dL_law_562 (by decide) ?_
      exact hk _ _ _ _ _ _ h (lw_g3 (Nat.le_of_ble_eq_true rfl)) (lw_g3 (Nat.le_of_ble_eq_true rfl)) (lv_sub hl [2, 3, 4, 5, 6] rfl) hP hS
    · have h := h.2 hc
      refine lv_aload_n C.1 C.2.1 dL_law_550 rfl (lv_at hl 5 rfl) ?_
      refine lv_iconst C.1 C.2.1 (v := 0) dL_law_551 rfl ?_
      obtain ⟨hi, h⟩ := h
      refine z_lald C hP (show kd 67 = 23 from rfl) (show ln 67 = 1 from rfl) (hL 67 (Nat.le_of_ble_eq_true rfl) (Nat.le_of_ble_eq_true rfl)) hi dL_law_552 ?_
      refine lv_iload C.1 C.2.1 dL_law_553 (lv_at hl 0 rfl) ?_
      refine t_i2l C.1 C.2.1 dL_law_555 rfl ?_
      refine W.lcmp C.1 C.2.1 dL_law_556 ?_
      refine lv_if_eq C.1 C.2.1 (tgt := 562) dL_law_557 (by decide) (fun hc => ?_) (fun hc => ?_)
      · have h := h.1 hc
        refine lv_goto C.1 C.2.1 (tgt := 1914) dL_law_562 (by decide) ?_
        exact hk _ _ _ _ _ _ h (lw_g3 (Nat.le_of_ble_eq_true rfl)) (lw_g3 (Nat.le_of_ble_eq_true rfl)) (lv_sub hl [2, 3, 4, 5, 6] rfl) hP hS
      · have h := h.2 hc
        exact h.elim
  · have h := h.2 hc
    exact h.elim
def wLc_9 (a1 a2 a3 a4 a5 : Int32) (st : St) (R : St → Prop) : Prop :=
  (wL_isNear 0 a1 67 st (fun r2 st1 => (wX12_isNear 54 a1 st1 (fun r4 st3 => (wX12_thrown 54 st3 (fun r6 st5 => ((r6 = r2 → ((¬ r2 = 0 → R st5) ∧ (r2 = 0 → (vp_in 0 1 ∧ ((r4 = 0 → (((lg_cmp (gJ st5 67 (0 : Int32).toNatClampNeg) 0) = 0 → R st5) ∧ (¬ (lg_cmp (gJ st5 67 (0 : Int32).toNatClampNeg) 0) = 0 → False))) ∧ (¬ r4 = 0 → (((lg_cmp (gJ st5 67 (0 : Int32).toNatClampNeg) 1) = 0 → R st5) ∧ (¬ (lg_cmp (gJ st5 67 (0 : Int32).toNatClampNeg) 1) = 0 → False)))))))) ∧ (¬ r6 = r2 → False))))))))
set_option maxHeartbeats 4000000 in
set_option maxRecDepth 100000 in
theorem tLc_9 {p : Program} {l : Launch} {e : Env} {s : State} {m : MethodId} {args : Array Value} {below : List Frame} {meth : Method} {c : Code} {H : Heap} {locs : List Loc} {cells slots : Nat} {Q : State → Prop} {E : En0} {b0 n : Nat} {xs : Nat → Int32} {i a1 a2 a3 a4 a5 : Int32} {st : St} {R : St → Prop} {ls : Array Slot}
    (C : Cx E L68 "PlankBridgeLaw" cL_law 9 p s m args c) (hNC : NC s) (hfl : l.stackTraces = false) (hX : va_X b0 n xs s s.heap) (hbl : b0 < s.heap.size) (hbA : ¬ fA E L68 s.heap.size b0)
    (hin1 : vp_in (i + 1) n) (hin2 : vp_in (i + 2) n) (hin3 : vp_in (i + 3) n) (hin4 : vp_in (i + 4) n) (hin5 : vp_in (i + 5) n) (ha1 : xs (i + 1).toNatClampNeg = a1) (ha2 : xs (i + 2).toNatClampNeg = a2) (ha3 : xs (i + 3).toNatClampNeg = a3) (ha4 : xs (i + 4).toNatClampNeg = a4) (ha5 : xs (i + 5).toNatClampNeg = a5)
    (hcs : cells + 12 ≤ 601024) (hss : slots + 3300 ≤ 7293034) (hl : lv_has ls 9 [(0, .ref b0), (1, .ref (E.2.1 0)), (2, .ref (E.2.1 54)), (3, .ref (E.2.1 67)), (4, .int i)]) (hP : va_P E.1 vwCl (wd E L68 st) H) (hS : va_S (fA E L68 s.heap.size) s.heap H locs) (h : wLc_9 a1 a2 a3 a4 a5 st R)
    (hk : ∀ (u : St) (H1 : Heap) (locs1 : List Loc) (ls1 : Array Slot) (c1 s1 : Nat), R u → c1 ≤ cells + 12 → s1 ≤ slots + 3300 → lv_has ls1 9 [(0, .ref b0), (1, .ref (E.2.1 0)), (2, .ref (E.2.1 54)), (3, .ref (E.2.1 67)), (4, .int i)] → va_P E.1 vwCl (wd E L68 u) H1 → va_S (fA E L68 s.heap.size) s.heap H1 locs1 → W p l e room_1 s m args below meth c H1 locs1 c1 s1 Q (F0 m 1914 ls1 [])) :
    W p l e room_1 s m args below meth c H locs cells slots Q (F0 m 565 ls []) := by
  have hL : Cov 0 68 L68 := fun c _ h2 => List.mem_range.mpr h2
  unfold wLc_9 at h
  refine lv_aload_n C.1 C.2.1 dL_law_565 rfl (lv_at hl 1 rfl) ?_
  refine lv_aload_n C.1 C.2.1 dL_law_566 rfl (lv_at hl 0 rfl) ?_
  refine lv_iload C.1 C.2.1 dL_law_567 (lv_at hl 4 rfl) ?_
  refine lv_iconst C.1 C.2.1 (v := 1) dL_law_569 rfl ?_
  refine lv_iadd C.1 C.2.1 dL_law_570  ?_
  refine law_sld C hX hbl hbA hS hin1 ha1 dL_law_571 ?_
  refine lv_aload_n C.1 C.2.1 dL_law_572 rfl (lv_at hl 3 rfl) ?_
  refine z_ki hS (z_runSW (As := [.ref (E.2.1 0), .int a1, .ref (E.2.1 67)]) (rest := []) C hNC hP hS (tL_isNear C.2.2.2.2.2.2.1 hL (show kd 0 = 8 from rfl) (show kd 67 = 23 from rfl) (show ln 67 = 1 from rfl) (hL 67 (Nat.le_of_ble_eq_true rfl) (Nat.le_of_ble_eq_true rfl)) hfl h) q987 q988 q104 q989 hdL_isNear ⟨(Nat.le_of_ble_eq_true rfl), (Nat.le_of_ble_eq_true rfl)⟩ ⟨lw_f0 hcs (Nat.le_of_ble_eq_true rfl), lw_f0 hss (Nat.le_of_ble_eq_true rfl)⟩ rfl hl.1 rfl (lv_room (Nat.le_of_ble_eq_true rfl)) dL_law_573) (fun r2 st1 H locs h hP hS => ?_)
  refine lv_istore C.1 C.2.1 dL_law_576 hl (Nat.le_of_ble_eq_true rfl) rfl (fun ls hl => ?_)
  have hl : lv_has ls 9 [(5, .int r2), (0, .ref b0), (1, .ref (E.2.1 0)), (2, .ref (E.2.1 54)), (3, .ref (E.2.1 67)), (4, .int i)] := hl
  refine lv_aload_n C.1 C.2.1 dL_law_578 rfl (lv_at hl 3 rfl) ?_
  refine lv_aload_n C.1 C.2.1 dL_law_579 rfl (lv_at hl 1 rfl) ?_
  refine lv_iload C.1 C.2.1 dL_law_580 (lv_at hl 5 rfl) ?_
  refine lv_iconst C.1 C.2.1 (v := 1) dL_law_582 rfl ?_
  refine lv_iadd C.1 C.2.1 dL_law_583  ?_
  refine law_sld C hX hbl hbA hS hin1 ha1 dL_law_584 ?_
  refine z_ki hS (z_runV (As := [.int a1]) (rest := []) C hP hS (hL 54 (Nat.le_of_ble_eq_true rfl) (Nat.le_of_ble_eq_true rfl)) (e11 (show kd 54 = 11 from rfl)) rfl (tX12_isNear C.2.2.2.2.2.2.1 (hL.mo (Nat.le_of_ble_eq_true rfl) (Nat.le_of_ble_eq_true rfl)) (show kd 54 = 11 from rfl) h) q1680 q1681 q1682 q116 q1683 hdX12_isNear ⟨(Nat.le_of_ble_eq_true rfl), (Nat.le_of_ble_eq_true rfl)⟩ ⟨lw_f1 hcs (Nat.le_of_ble_eq_true rfl), lw_f1 hss (Nat.le_of_ble_eq_true rfl)⟩ rfl hl.1 rfl (lv_room (Nat.le_of_ble_eq_true rfl)) dL_law_585) (fun r4 st3 H locs h hP hS => ?_)
  obtain ⟨hr4, h⟩ := h
  refine lv_istore C.1 C.2.1 dL_law_588 hl (Nat.le_of_ble_eq_true rfl) rfl (fun ls hl => ?_)
  have hl : lv_has ls 9 [(6, .int r4), (5, .int r2), (0, .ref b0), (1, .ref (E.2.1 0)), (2, .ref (E.2.1 54)), (3, .ref (E.2.1 67)), (4, .int i)] := hl
  refine lv_aload_n C.1 C.2.1 dL_law_590 rfl (lv_at hl 4 rfl) ?_
  refine z_ki hS (z_runV (As := []) (rest := []) C hP hS (hL 54 (Nat.le_of_ble_eq_true rfl) (Nat.le_of_ble_eq_true rfl)) (e11 (show kd 54 = 11 from rfl)) rfl (tX12_thrown C.2.2.2.2.2.2.1 (hL.mo (Nat.le_of_ble_eq_true rfl) (Nat.le_of_ble_eq_true rfl)) (show kd 54 = 11 from rfl) h) q1407 q1408 q1409 q116 q1410 hdX12_thrown ⟨(Nat.le_of_ble_eq_true rfl), (Nat.le_of_ble_eq_true rfl)⟩ ⟨lw_f2 hcs (Nat.le_of_ble_eq_true rfl), lw_f2 hss (Nat.le_of_ble_eq_true rfl)⟩ rfl hl.1 rfl (lv_room (Nat.le_of_ble_eq_true rfl)) dL_law_591) (fun r6 st5 H locs h hP hS => ?_)
  refine lv_iload C.1 C.2.1 dL_law_594 (lv_at hl 1 rfl) ?_
  refine lv_icmp_eq C.1 C.2.1 (tgt := 601) dL_law_596 (by decide) (fun hc => ?_) (fun hc => ?_)
  · have h := h.1 hc
    refine lv_iload C.1 C.2.1 dL_law_601 (lv_at hl 1 rfl) ?_
    refine lv_if_ne C.1 C.2.1 (tgt := 625) dL_law_603 (by decide) (fun hc => ?_) (fun hc => ?_)
    · have h := h.1 hc
      refine lv_goto C.1 C.2.1 (tgt := 1914) dL_law_625 (by decide) ?_
      exact hk _ _ _ _ _ _ h (lw_g3 (Nat.le_of_ble_eq_true rfl)) (lw_g3 (Nat.le_of_ble_eq_true rfl)) (lv_sub hl [2, 3, 4, 5, 6] rfl) hP hS
    · have h := h.2 hc
      refine lv_aload_n C.1 C.2.1 dL_law_606 rfl (lv_at hl 5 rfl) ?_
      refine lv_iconst C.1 C.2.1 (v := 0) dL_law_607 rfl ?_
      obtain ⟨hi, h⟩ := h
      refine z_lald C hP (show kd 67 = 23 from rfl) (show ln 67 = 1 from rfl) (hL 67 (Nat.le_of_ble_eq_true rfl) (Nat.le_of_ble_eq_true rfl)) hi dL_law_608 ?_
      refine lv_iload C.1 C.2.1 dL_law_609 (lv_at hl 0 rfl) ?_
      refine lv_if_eq C.1 C.2.1 (tgt := 618) dL_law_611 (by decide) (fun hc => ?_) (fun hc => ?_)
      · have h := h.1 hc
        refine lv_lconst C.1 C.2.1 (v := 0) dL_law_618 rfl ?_
        refine W.lcmp C.1 C.2.1 dL_law_619 ?_
        refine lv_if_eq C.1 C.2.1 (tgt := 625) dL_law_620 (by decide) (fun hc => ?_) (fun hc => ?_)
        · have h := h.1 hc
          refine lv_goto C.1 C.2.1 (tgt := 1914) dL_law_625 (by decide) ?_
          exact hk _ _ _ _ _ _ h (lw_g3 (Nat.le_of_ble_eq_true rfl)) (lw_g3 (Nat.le_of_ble_eq_true rfl)) (lv_sub hl [2, 3, 4, 5, 6] rfl) hP hS
        · have h := h.2 hc
          exact h.elim
      · have h := h.2 hc
        refine lv_lconst C.1 C.2.1 (v := 1) dL_law_614 rfl ?_
        refine lv_goto C.1 C.2.1 (tgt := 619) dL_law_615 (by decide) ?_
        refine W.lcmp C.1 C.2.1 dL_law_619 ?_
        refine lv_if_eq C.1 C.2.1 (tgt := 625) dL_law_620 (by decide) (fun hc => ?_) (fun hc => ?_)
        · have h := h.1 hc
          refine lv_goto C.1 C.2.1 (tgt := 1914) dL_law_625 (by decide) ?_
          exact hk _ _ _ _ _ _ h (lw_g3 (Nat.le_of_ble_eq_true rfl)) (lw_g3 (Nat.le_of_ble_eq_true rfl)) (lv_sub hl [2, 3, 4, 5, 6] rfl) hP hS
        · have h := h.2 hc
          exact h.elim
  · have h := h.2 hc
    exact h.elim
def wLc_10 (a1 a2 a3 a4 a5 : Int32) (st : St) (R : St → Prop) : Prop :=
  (wX9_walkersNear 0 st (fun r2 st1 => (wX12_walkersNear 54 st1 (fun r4 st3 => ((r2 = r4 → R st3) ∧ (¬ r2 = r4 → False))))))
set_option maxHeartbeats 4000000 in
set_option maxRecDepth 100000 in
theorem tLc_10 {p : Program} {l : Launch} {e : Env} {s : State} {m : MethodId} {args : Array Value} {below : List Frame} {meth : Method} {c : Code} {H : Heap} {locs : List Loc} {cells slots : Nat} {Q : State → Prop} {E : En0} {b0 n : Nat} {xs : Nat → Int32} {i a1 a2 a3 a4 a5 : Int32} {st : St} {R : St → Prop} {ls : Array Slot}
    (C : Cx E L68 "PlankBridgeLaw" cL_law 9 p s m args c) (hNC : NC s) (hfl : l.stackTraces = false) (hX : va_X b0 n xs s s.heap) (hbl : b0 < s.heap.size) (hbA : ¬ fA E L68 s.heap.size b0)
    (hin1 : vp_in (i + 1) n) (hin2 : vp_in (i + 2) n) (hin3 : vp_in (i + 3) n) (hin4 : vp_in (i + 4) n) (hin5 : vp_in (i + 5) n) (ha1 : xs (i + 1).toNatClampNeg = a1) (ha2 : xs (i + 2).toNatClampNeg = a2) (ha3 : xs (i + 3).toNatClampNeg = a3) (ha4 : xs (i + 4).toNatClampNeg = a4) (ha5 : xs (i + 5).toNatClampNeg = a5)
    (hcs : cells + 12 ≤ 601024) (hss : slots + 3300 ≤ 7293034) (hl : lv_has ls 9 [(0, .ref b0), (1, .ref (E.2.1 0)), (2, .ref (E.2.1 54)), (3, .ref (E.2.1 67)), (4, .int i)]) (hP : va_P E.1 vwCl (wd E L68 st) H) (hS : va_S (fA E L68 s.heap.size) s.heap H locs) (h : wLc_10 a1 a2 a3 a4 a5 st R)
    (hk : ∀ (u : St) (H1 : Heap) (locs1 : List Loc) (ls1 : Array Slot) (c1 s1 : Nat), R u → c1 ≤ cells + 12 → s1 ≤ slots + 3300 → lv_has ls1 9 [(0, .ref b0), (1, .ref (E.2.1 0)), (2, .ref (E.2.1 54)), (3, .ref (E.2.1 67)), (4, .int i)] → va_P E.1 vwCl (wd E L68 u) H1 → va_S (fA E L68 s.heap.size) s.heap H1 locs1 → W p l e room_1 s m args below meth c H1 locs1 c1 s1 Q (F0 m 1914 ls1 [])) :
    W p l e room_1 s m args below meth c H locs cells slots Q (F0 m 628 ls []) := by
  have hL : Cov 0 68 L68 := fun c _ h2 => List.mem_range.mpr h2
  unfold wLc_10 at h
  refine lv_aload_n C.1 C.2.1 dL_law_628 rfl (lv_at hl 1 rfl) ?_
  refine z_ki hS (z_runV (As := []) (rest := []) C hP hS (hL 0 (Nat.le_of_ble_eq_true rfl) (Nat.le_of_ble_eq_true rfl)) (e8 (show kd 0 = 8 from rfl)) rfl (tX9_walkersNear C.2.2.2.2.2.2.1 (hL.mo (Nat.le_of_ble_eq_true rfl) (Nat.le_of_ble_eq_true rfl)) (show kd 0 = 8 from rfl) h) q708 q709 q710 q105 q711 hdX9_walkersNear ⟨(Nat.le_of_ble_eq_true rfl), (Nat.le_of_ble_eq_true rfl)⟩ ⟨lw_f0 hcs (Nat.le_of_ble_eq_true rfl), lw_f0 hss (Nat.le_of_ble_eq_true rfl)⟩ rfl hl.1 rfl (lv_room (Nat.le_of_ble_eq_true rfl)) dL_law_629) (fun r2 st1 H locs h hP hS => ?_)
  refine lv_aload_n C.1 C.2.1 dL_law_632 rfl (lv_at hl 2 rfl) ?_
  refine z_ki hS (z_runV (As := []) (rest := [.int r2]) C hP hS (hL 54 (Nat.le_of_ble_eq_true rfl) (Nat.le_of_ble_eq_true rfl)) (e11 (show kd 54 = 11 from rfl)) rfl (tX12_walkersNear C.2.2.2.2.2.2.1 (hL.mo (Nat.le_of_ble_eq_true rfl) (Nat.le_of_ble_eq_true rfl)) (show kd 54 = 11 from rfl) h) q1688 q1689 q1690 q116 q1691 hdX12_walkersNear ⟨(Nat.le_of_ble_eq_true rfl), (Nat.le_of_ble_eq_true rfl)⟩ ⟨lw_f1 hcs (Nat.le_of_ble_eq_true rfl), lw_f1 hss (Nat.le_of_ble_eq_true rfl)⟩ rfl hl.1 rfl (lv_room (Nat.le_of_ble_eq_true rfl)) dL_law_633) (fun r4 st3 H locs h hP hS => ?_)
  refine lv_icmp_eq C.1 C.2.1 (tgt := 1914) dL_law_636 (by decide) (fun hc => ?_) (fun hc => ?_)
  · have h := h.1 hc
    exact hk _ _ _ _ _ _ h (lw_g2 (Nat.le_of_ble_eq_true rfl)) (lw_g2 (Nat.le_of_ble_eq_true rfl)) hl hP hS
  · have h := h.2 hc
    exact h.elim
def wLc_11 (a1 a2 a3 a4 a5 : Int32) (st : St) (R : St → Prop) : Prop :=
  (wL_strengthOf 0 a1 67 st (fun r2 st1 => (wX12_strengthOf 54 a1 st1 (fun r4 st3 => (wX12_thrown 54 st3 (fun r6 st5 => ((r6 = r2 → ((¬ r2 = 0 → R st5) ∧ (r2 = 0 → (vp_in 0 1 ∧ (((lg_cmp (gJ st5 67 (0 : Int32).toNatClampNeg) ((r4 : Int32).toInt64)) = 0 → R st5) ∧ (¬ (lg_cmp (gJ st5 67 (0 : Int32).toNatClampNeg) ((r4 : Int32).toInt64)) = 0 → False)))))) ∧ (¬ r6 = r2 → False))))))))
set_option maxHeartbeats 4000000 in
set_option maxRecDepth 100000 in
theorem tLc_11 {p : Program} {l : Launch} {e : Env} {s : State} {m : MethodId} {args : Array Value} {below : List Frame} {meth : Method} {c : Code} {H : Heap} {locs : List Loc} {cells slots : Nat} {Q : State → Prop} {E : En0} {b0 n : Nat} {xs : Nat → Int32} {i a1 a2 a3 a4 a5 : Int32} {st : St} {R : St → Prop} {ls : Array Slot}
    (C : Cx E L68 "PlankBridgeLaw" cL_law 9 p s m args c) (hNC : NC s) (hfl : l.stackTraces = false) (hX : va_X b0 n xs s s.heap) (hbl : b0 < s.heap.size) (hbA : ¬ fA E L68 s.heap.size b0)
    (hin1 : vp_in (i + 1) n) (hin2 : vp_in (i + 2) n) (hin3 : vp_in (i + 3) n) (hin4 : vp_in (i + 4) n) (hin5 : vp_in (i + 5) n) (ha1 : xs (i + 1).toNatClampNeg = a1) (ha2 : xs (i + 2).toNatClampNeg = a2) (ha3 : xs (i + 3).toNatClampNeg = a3) (ha4 : xs (i + 4).toNatClampNeg = a4) (ha5 : xs (i + 5).toNatClampNeg = a5)
    (hcs : cells + 12 ≤ 601024) (hss : slots + 3300 ≤ 7293034) (hl : lv_has ls 9 [(0, .ref b0), (1, .ref (E.2.1 0)), (2, .ref (E.2.1 54)), (3, .ref (E.2.1 67)), (4, .int i)]) (hP : va_P E.1 vwCl (wd E L68 st) H) (hS : va_S (fA E L68 s.heap.size) s.heap H locs) (h : wLc_11 a1 a2 a3 a4 a5 st R)
    (hk : ∀ (u : St) (H1 : Heap) (locs1 : List Loc) (ls1 : Array Slot) (c1 s1 : Nat), R u → c1 ≤ cells + 12 → s1 ≤ slots + 3300 → lv_has ls1 9 [(0, .ref b0), (1, .ref (E.2.1 0)), (2, .ref (E.2.1 54)), (3, .ref (E.2.1 67)), (4, .int i)] → va_P E.1 vwCl (wd E L68 u) H1 → va_S (fA E L68 s.heap.size) s.heap H1 locs1 → W p l e room_1 s m args below meth c H1 locs1 c1 s1 Q (F0 m 1914 ls1 [])) :
    W p l e room_1 s m args below meth c H locs cells slots Q (F0 m 641 ls []) := by
  have hL : Cov 0 68 L68 := fun c _ h2 => List.mem_range.mpr h2
  unfold wLc_11 at h
  refine lv_aload_n C.1 C.2.1 dL_law_641 rfl (lv_at hl 1 rfl) ?_
  refine lv_aload_n C.1 C.2.1 dL_law_642 rfl (lv_at hl 0 rfl) ?_
  refine lv_iload C.1 C.2.1 dL_law_643 (lv_at hl 4 rfl) ?_
  refine lv_iconst C.1 C.2.1 (v := 1) dL_law_645 rfl ?_
  refine lv_iadd C.1 C.2.1 dL_law_646  ?_
  refine law_sld C hX hbl hbA hS hin1 ha1 dL_law_647 ?_
  refine lv_aload_n C.1 C.2.1 dL_law_648 rfl (lv_at hl 3 rfl) ?_
  refine z_ki hS (z_runSW (As := [.ref (E.2.1 0), .int a1, .ref (E.2.1 67)]) (rest := []) C hNC hP hS (tL_strengthOf C.2.2.2.2.2.2.1 hL (show kd 0 = 8 from rfl) (show kd 67 = 23 from rfl) (show ln 67 = 1 from rfl) (hL 67 (Nat.le_of_ble_eq_true rfl) (Nat.le_of_ble_eq_true rfl)) hfl h) q994 q995 q104 q996 hdL_strengthOf ⟨(Nat.le_of_ble_eq_true rfl), (Nat.le_of_ble_eq_true rfl)⟩ ⟨lw_f0 hcs (Nat.le_of_ble_eq_true rfl), lw_f0 hss (Nat.le_of_ble_eq_true rfl)⟩ rfl hl.1 rfl (lv_room (Nat.le_of_ble_eq_true rfl)) dL_law_649) (fun r2 st1 H locs h hP hS => ?_)
  refine lv_istore C.1 C.2.1 dL_law_652 hl (Nat.le_of_ble_eq_true rfl) rfl (fun ls hl => ?_)
  have hl : lv_has ls 9 [(5, .int r2), (0, .ref b0), (1, .ref (E.2.1 0)), (2, .ref (E.2.1 54)), (3, .ref (E.2.1 67)), (4, .int i)] := hl
  refine lv_aload_n C.1 C.2.1 dL_law_654 rfl (lv_at hl 3 rfl) ?_
  refine lv_aload_n C.1 C.2.1 dL_law_655 rfl (lv_at hl 1 rfl) ?_
  refine lv_iload C.1 C.2.1 dL_law_656 (lv_at hl 5 rfl) ?_
  refine lv_iconst C.1 C.2.1 (v := 1) dL_law_658 rfl ?_
  refine lv_iadd C.1 C.2.1 dL_law_659  ?_
  refine law_sld C hX hbl hbA hS hin1 ha1 dL_law_660 ?_
  refine z_ki hS (z_runV (As := [.int a1]) (rest := []) C hP hS (hL 54 (Nat.le_of_ble_eq_true rfl) (Nat.le_of_ble_eq_true rfl)) (e11 (show kd 54 = 11 from rfl)) rfl (tX12_strengthOf C.2.2.2.2.2.2.1 (hL.mo (Nat.le_of_ble_eq_true rfl) (Nat.le_of_ble_eq_true rfl)) (show kd 54 = 11 from rfl) h) q1696 q1697 q1698 q116 q1699 hdX12_strengthOf ⟨(Nat.le_of_ble_eq_true rfl), (Nat.le_of_ble_eq_true rfl)⟩ ⟨lw_f1 hcs (Nat.le_of_ble_eq_true rfl), lw_f1 hss (Nat.le_of_ble_eq_true rfl)⟩ rfl hl.1 rfl (lv_room (Nat.le_of_ble_eq_true rfl)) dL_law_661) (fun r4 st3 H locs h hP hS => ?_)
  refine lv_istore C.1 C.2.1 dL_law_664 hl (Nat.le_of_ble_eq_true rfl) rfl (fun ls hl => ?_)
  have hl : lv_has ls 9 [(6, .int r4), (5, .int r2), (0, .ref b0), (1, .ref (E.2.1 0)), (2, .ref (E.2.1 54)), (3, .ref (E.2.1 67)), (4, .int i)] := hl
  refine lv_aload_n C.1 C.2.1 dL_law_666 rfl (lv_at hl 4 rfl) ?_
  refine z_ki hS (z_runV (As := []) (rest := []) C hP hS (hL 54 (Nat.le_of_ble_eq_true rfl) (Nat.le_of_ble_eq_true rfl)) (e11 (show kd 54 = 11 from rfl)) rfl (tX12_thrown C.2.2.2.2.2.2.1 (hL.mo (Nat.le_of_ble_eq_true rfl) (Nat.le_of_ble_eq_true rfl)) (show kd 54 = 11 from rfl) h) q1407 q1408 q1409 q116 q1410 hdX12_thrown ⟨(Nat.le_of_ble_eq_true rfl), (Nat.le_of_ble_eq_true rfl)⟩ ⟨lw_f2 hcs (Nat.le_of_ble_eq_true rfl), lw_f2 hss (Nat.le_of_ble_eq_true rfl)⟩ rfl hl.1 rfl (lv_room (Nat.le_of_ble_eq_true rfl)) dL_law_667) (fun r6 st5 H locs h hP hS => ?_)
  refine lv_iload C.1 C.2.1 dL_law_670 (lv_at hl 1 rfl) ?_
  refine lv_icmp_eq C.1 C.2.1 (tgt := 677) dL_law_672 (by decide) (fun hc => ?_) (fun hc => ?_)
  · have h := h.1 hc
    refine lv_iload C.1 C.2.1 dL_law_677 (lv_at hl 1 rfl) ?_
    refine lv_if_ne C.1 C.2.1 (tgt := 694) dL_law_679 (by decide) (fun hc => ?_) (fun hc => ?_)
    · have h := h.1 hc
      refine lv_goto C.1 C.2.1 (tgt := 1914) dL_law_694 (by decide) ?_
      exact hk _ _ _ _ _ _ h (lw_g3 (Nat.le_of_ble_eq_true rfl)) (lw_g3 (Nat.le_of_ble_eq_true rfl)) (lv_sub hl [2, 3, 4, 5, 6] rfl) hP hS
    · have h := h.2 hc
      refine lv_aload_n C.1 C.2.1 dL_law_682 rfl (lv_at hl 5 rfl) ?_
      refine lv_iconst C.1 C.2.1 (v := 0) dL_law_683 rfl ?_
      obtain ⟨hi, h⟩ := h
      refine z_lald C hP (show kd 67 = 23 from rfl) (show ln 67 = 1 from rfl) (hL 67 (Nat.le_of_ble_eq_true rfl) (Nat.le_of_ble_eq_true rfl)) hi dL_law_684 ?_
      refine lv_iload C.1 C.2.1 dL_law_685 (lv_at hl 0 rfl) ?_
      refine t_i2l C.1 C.2.1 dL_law_687 rfl ?_
      refine W.lcmp C.1 C.2.1 dL_law_688 ?_
      refine lv_if_eq C.1 C.2.1 (tgt := 694) dL_law_689 (by decide) (fun hc => ?_) (fun hc => ?_)
      · have h := h.1 hc
        refine lv_goto C.1 C.2.1 (tgt := 1914) dL_law_694 (by decide) ?_
        exact hk _ _ _ _ _ _ h (lw_g3 (Nat.le_of_ble_eq_true rfl)) (lw_g3 (Nat.le_of_ble_eq_true rfl)) (lv_sub hl [2, 3, 4, 5, 6] rfl) hP hS
      · have h := h.2 hc
        exact h.elim
  · have h := h.2 hc
    exact h.elim
def wLc_12 (a1 a2 a3 a4 a5 : Int32) (st : St) (R : St → Prop) : Prop :=
  (wL_bears 0 a1 67 st (fun r2 st1 => (wX12_bears 54 a1 st1 (fun r4 st3 => (wX12_thrown 54 st3 (fun r6 st5 => ((r6 = r2 → ((¬ r2 = 0 → R st5) ∧ (r2 = 0 → (vp_in 0 1 ∧ (((lg_cmp (gJ st5 67 (0 : Int32).toNatClampNeg) ((r4 : Int32).toInt64)) = 0 → R st5) ∧ (¬ (lg_cmp (gJ st5 67 (0 : Int32).toNatClampNeg) ((r4 : Int32).toInt64)) = 0 → False)))))) ∧ (¬ r6 = r2 → False))))))))
set_option maxHeartbeats 4000000 in
set_option maxRecDepth 100000 in
theorem tLc_12 {p : Program} {l : Launch} {e : Env} {s : State} {m : MethodId} {args : Array Value} {below : List Frame} {meth : Method} {c : Code} {H : Heap} {locs : List Loc} {cells slots : Nat} {Q : State → Prop} {E : En0} {b0 n : Nat} {xs : Nat → Int32} {i a1 a2 a3 a4 a5 : Int32} {st : St} {R : St → Prop} {ls : Array Slot}
    (C : Cx E L68 "PlankBridgeLaw" cL_law 9 p s m args c) (hNC : NC s) (hfl : l.stackTraces = false) (hX : va_X b0 n xs s s.heap) (hbl : b0 < s.heap.size) (hbA : ¬ fA E L68 s.heap.size b0)
    (hin1 : vp_in (i + 1) n) (hin2 : vp_in (i + 2) n) (hin3 : vp_in (i + 3) n) (hin4 : vp_in (i + 4) n) (hin5 : vp_in (i + 5) n) (ha1 : xs (i + 1).toNatClampNeg = a1) (ha2 : xs (i + 2).toNatClampNeg = a2) (ha3 : xs (i + 3).toNatClampNeg = a3) (ha4 : xs (i + 4).toNatClampNeg = a4) (ha5 : xs (i + 5).toNatClampNeg = a5)
    (hcs : cells + 12 ≤ 601024) (hss : slots + 3300 ≤ 7293034) (hl : lv_has ls 9 [(0, .ref b0), (1, .ref (E.2.1 0)), (2, .ref (E.2.1 54)), (3, .ref (E.2.1 67)), (4, .int i)]) (hP : va_P E.1 vwCl (wd E L68 st) H) (hS : va_S (fA E L68 s.heap.size) s.heap H locs) (h : wLc_12 a1 a2 a3 a4 a5 st R)
    (hk : ∀ (u : St) (H1 : Heap) (locs1 : List Loc) (ls1 : Array Slot) (c1 s1 : Nat), R u → c1 ≤ cells + 12 → s1 ≤ slots + 3300 → lv_has ls1 9 [(0, .ref b0), (1, .ref (E.2.1 0)), (2, .ref (E.2.1 54)), (3, .ref (E.2.1 67)), (4, .int i)] → va_P E.1 vwCl (wd E L68 u) H1 → va_S (fA E L68 s.heap.size) s.heap H1 locs1 → W p l e room_1 s m args below meth c H1 locs1 c1 s1 Q (F0 m 1914 ls1 [])) :
    W p l e room_1 s m args below meth c H locs cells slots Q (F0 m 697 ls []) := by
  have hL : Cov 0 68 L68 := fun c _ h2 => List.mem_range.mpr h2
  unfold wLc_12 at h
  refine lv_aload_n C.1 C.2.1 dL_law_697 rfl (lv_at hl 1 rfl) ?_
  refine lv_aload_n C.1 C.2.1 dL_law_698 rfl (lv_at hl 0 rfl) ?_
  refine lv_iload C.1 C.2.1 dL_law_699 (lv_at hl 4 rfl) ?_
  refine lv_iconst C.1 C.2.1 (v := 1) dL_law_701 rfl ?_
  refine lv_iadd C.1 C.2.1 dL_law_702  ?_
  refine law_sld C hX hbl hbA hS hin1 ha1 dL_law_703 ?_
  refine lv_aload_n C.1 C.2.1 dL_law_704 rfl (lv_at hl 3 rfl) ?_
  refine z_ki hS (z_runSW (As := [.ref (E.2.1 0), .int a1, .ref (E.2.1 67)]) (rest := []) C hNC hP hS (tL_bears C.2.2.2.2.2.2.1 hL (show kd 0 = 8 from rfl) (show kd 67 = 23 from rfl) (show ln 67 = 1 from rfl) (hL 67 (Nat.le_of_ble_eq_true rfl) (Nat.le_of_ble_eq_true rfl)) hfl h) q1006 q1007 q104 q1008 hdL_bears ⟨(Nat.le_of_ble_eq_true rfl), (Nat.le_of_ble_eq_true rfl)⟩ ⟨lw_f0 hcs (Nat.le_of_ble_eq_true rfl), lw_f0 hss (Nat.le_of_ble_eq_true rfl)⟩ rfl hl.1 rfl (lv_room (Nat.le_of_ble_eq_true rfl)) dL_law_705) (fun r2 st1 H locs h hP hS => ?_)
  refine lv_istore C.1 C.2.1 dL_law_708 hl (Nat.le_of_ble_eq_true rfl) rfl (fun ls hl => ?_)
  have hl : lv_has ls 9 [(5, .int r2), (0, .ref b0), (1, .ref (E.2.1 0)), (2, .ref (E.2.1 54)), (3, .ref (E.2.1 67)), (4, .int i)] := hl
  refine lv_aload_n C.1 C.2.1 dL_law_710 rfl (lv_at hl 3 rfl) ?_
  refine lv_aload_n C.1 C.2.1 dL_law_711 rfl (lv_at hl 1 rfl) ?_
  refine lv_iload C.1 C.2.1 dL_law_712 (lv_at hl 5 rfl) ?_
  refine lv_iconst C.1 C.2.1 (v := 1) dL_law_714 rfl ?_
  refine lv_iadd C.1 C.2.1 dL_law_715  ?_
  refine law_sld C hX hbl hbA hS hin1 ha1 dL_law_716 ?_
  refine z_ki hS (z_runV (As := [.int a1]) (rest := []) C hP hS (hL 54 (Nat.le_of_ble_eq_true rfl) (Nat.le_of_ble_eq_true rfl)) (e11 (show kd 54 = 11 from rfl)) rfl (tX12_bears C.2.2.2.2.2.2.1 (hL.mo (Nat.le_of_ble_eq_true rfl) (Nat.le_of_ble_eq_true rfl)) (show kd 54 = 11 from rfl) h) q1704 q1705 q1706 q116 q1707 hdX12_bears ⟨(Nat.le_of_ble_eq_true rfl), (Nat.le_of_ble_eq_true rfl)⟩ ⟨lw_f1 hcs (Nat.le_of_ble_eq_true rfl), lw_f1 hss (Nat.le_of_ble_eq_true rfl)⟩ rfl hl.1 rfl (lv_room (Nat.le_of_ble_eq_true rfl)) dL_law_717) (fun r4 st3 H locs h hP hS => ?_)
  refine lv_istore C.1 C.2.1 dL_law_720 hl (Nat.le_of_ble_eq_true rfl) rfl (fun ls hl => ?_)
  have hl : lv_has ls 9 [(6, .int r4), (5, .int r2), (0, .ref b0), (1, .ref (E.2.1 0)), (2, .ref (E.2.1 54)), (3, .ref (E.2.1 67)), (4, .int i)] := hl
  refine lv_aload_n C.1 C.2.1 dL_law_722 rfl (lv_at hl 4 rfl) ?_
  refine z_ki hS (z_runV (As := []) (rest := []) C hP hS (hL 54 (Nat.le_of_ble_eq_true rfl) (Nat.le_of_ble_eq_true rfl)) (e11 (show kd 54 = 11 from rfl)) rfl (tX12_thrown C.2.2.2.2.2.2.1 (hL.mo (Nat.le_of_ble_eq_true rfl) (Nat.le_of_ble_eq_true rfl)) (show kd 54 = 11 from rfl) h) q1407 q1408 q1409 q116 q1410 hdX12_thrown ⟨(Nat.le_of_ble_eq_true rfl), (Nat.le_of_ble_eq_true rfl)⟩ ⟨lw_f2 hcs (Nat.le_of_ble_eq_true rfl), lw_f2 hss (Nat.le_of_ble_eq_true rfl)⟩ rfl hl.1 rfl (lv_room (Nat.le_of_ble_eq_true rfl)) dL_law_723) (fun r6 st5 H locs h hP hS => ?_)
  refine lv_iload C.1 C.2.1 dL_law_726 (lv_at hl 1 rfl) ?_
  refine lv_icmp_eq C.1 C.2.1 (tgt := 733) dL_law_728 (by decide) (fun hc => ?_) (fun hc => ?_)
  · have h := h.1 hc
    refine lv_iload C.1 C.2.1 dL_law_733 (lv_at hl 1 rfl) ?_
    refine lv_if_ne C.1 C.2.1 (tgt := 750) dL_law_735 (by decide) (fun hc => ?_) (fun hc => ?_)
    · have h := h.1 hc
      refine lv_goto C.1 C.2.1 (tgt := 1914) dL_law_750 (by decide) ?_
      exact hk _ _ _ _ _ _ h (lw_g3 (Nat.le_of_ble_eq_true rfl)) (lw_g3 (Nat.le_of_ble_eq_true rfl)) (lv_sub hl [2, 3, 4, 5, 6] rfl) hP hS
    · have h := h.2 hc
      refine lv_aload_n C.1 C.2.1 dL_law_738 rfl (lv_at hl 5 rfl) ?_
      refine lv_iconst C.1 C.2.1 (v := 0) dL_law_739 rfl ?_
      obtain ⟨hi, h⟩ := h
      refine z_lald C hP (show kd 67 = 23 from rfl) (show ln 67 = 1 from rfl) (hL 67 (Nat.le_of_ble_eq_true rfl) (Nat.le_of_ble_eq_true rfl)) hi dL_law_740 ?_
      refine lv_iload C.1 C.2.1 dL_law_741 (lv_at hl 0 rfl) ?_
      refine t_i2l C.1 C.2.1 dL_law_743 rfl ?_
      refine W.lcmp C.1 C.2.1 dL_law_744 ?_
      refine lv_if_eq C.1 C.2.1 (tgt := 750) dL_law_745 (by decide) (fun hc => ?_) (fun hc => ?_)
      · have h := h.1 hc
        refine lv_goto C.1 C.2.1 (tgt := 1914) dL_law_750 (by decide) ?_
        exact hk _ _ _ _ _ _ h (lw_g3 (Nat.le_of_ble_eq_true rfl)) (lw_g3 (Nat.le_of_ble_eq_true rfl)) (lv_sub hl [2, 3, 4, 5, 6] rfl) hP hS
      · have h := h.2 hc
        exact h.elim
  · have h := h.2 hc
    exact h.elim
def wLc_13 (a1 a2 a3 a4 a5 : Int32) (st : St) (R : St → Prop) : Prop :=
  (wL_isRotten 0 a1 67 st (fun r2 st1 => (wX12_isRotten 54 a1 st1 (fun r4 st3 => (wX12_thrown 54 st3 (fun r6 st5 => ((r6 = r2 → ((¬ r2 = 0 → R st5) ∧ (r2 = 0 → (vp_in 0 1 ∧ ((r4 = 0 → (((lg_cmp (gJ st5 67 (0 : Int32).toNatClampNeg) 0) = 0 → R st5) ∧ (¬ (lg_cmp (gJ st5 67 (0 : Int32).toNatClampNeg) 0) = 0 → False))) ∧ (¬ r4 = 0 → (((lg_cmp (gJ st5 67 (0 : Int32).toNatClampNeg) 1) = 0 → R st5) ∧ (¬ (lg_cmp (gJ st5 67 (0 : Int32).toNatClampNeg) 1) = 0 → False)))))))) ∧ (¬ r6 = r2 → False))))))))
set_option maxHeartbeats 4000000 in
set_option maxRecDepth 100000 in
theorem tLc_13 {p : Program} {l : Launch} {e : Env} {s : State} {m : MethodId} {args : Array Value} {below : List Frame} {meth : Method} {c : Code} {H : Heap} {locs : List Loc} {cells slots : Nat} {Q : State → Prop} {E : En0} {b0 n : Nat} {xs : Nat → Int32} {i a1 a2 a3 a4 a5 : Int32} {st : St} {R : St → Prop} {ls : Array Slot}
    (C : Cx E L68 "PlankBridgeLaw" cL_law 9 p s m args c) (hNC : NC s) (hfl : l.stackTraces = false) (hX : va_X b0 n xs s s.heap) (hbl : b0 < s.heap.size) (hbA : ¬ fA E L68 s.heap.size b0)
    (hin1 : vp_in (i + 1) n) (hin2 : vp_in (i + 2) n) (hin3 : vp_in (i + 3) n) (hin4 : vp_in (i + 4) n) (hin5 : vp_in (i + 5) n) (ha1 : xs (i + 1).toNatClampNeg = a1) (ha2 : xs (i + 2).toNatClampNeg = a2) (ha3 : xs (i + 3).toNatClampNeg = a3) (ha4 : xs (i + 4).toNatClampNeg = a4) (ha5 : xs (i + 5).toNatClampNeg = a5)
    (hcs : cells + 12 ≤ 601024) (hss : slots + 3300 ≤ 7293034) (hl : lv_has ls 9 [(0, .ref b0), (1, .ref (E.2.1 0)), (2, .ref (E.2.1 54)), (3, .ref (E.2.1 67)), (4, .int i)]) (hP : va_P E.1 vwCl (wd E L68 st) H) (hS : va_S (fA E L68 s.heap.size) s.heap H locs) (h : wLc_13 a1 a2 a3 a4 a5 st R)
    (hk : ∀ (u : St) (H1 : Heap) (locs1 : List Loc) (ls1 : Array Slot) (c1 s1 : Nat), R u → c1 ≤ cells + 12 → s1 ≤ slots + 3300 → lv_has ls1 9 [(0, .ref b0), (1, .ref (E.2.1 0)), (2, .ref (E.2.1 54)), (3, .ref (E.2.1 67)), (4, .int i)] → va_P E.1 vwCl (wd E L68 u) H1 → va_S (fA E L68 s.heap.size) s.heap H1 locs1 → W p l e room_1 s m args below meth c H1 locs1 c1 s1 Q (F0 m 1914 ls1 [])) :
    W p l e room_1 s m args below meth c H locs cells slots Q (F0 m 753 ls []) := by
  have hL : Cov 0 68 L68 := fun c _ h2 => List.mem_range.mpr h2
  unfold wLc_13 at h
  refine lv_aload_n C.1 C.2.1 dL_law_753 rfl (lv_at hl 1 rfl) ?_
  refine lv_aload_n C.1 C.2.1 dL_law_754 rfl (lv_at hl 0 rfl) ?_
  refine lv_iload C.1 C.2.1 dL_law_755 (lv_at hl 4 rfl) ?_
  refine lv_iconst C.1 C.2.1 (v := 1) dL_law_757 rfl ?_
  refine lv_iadd C.1 C.2.1 dL_law_758  ?_
  refine law_sld C hX hbl hbA hS hin1 ha1 dL_law_759 ?_
  refine lv_aload_n C.1 C.2.1 dL_law_760 rfl (lv_at hl 3 rfl) ?_
  refine z_ki hS (z_runSW (As := [.ref (E.2.1 0), .int a1, .ref (E.2.1 67)]) (rest := []) C hNC hP hS (tL_isRotten C.2.2.2.2.2.2.1 hL (show kd 0 = 8 from rfl) (show kd 67 = 23 from rfl) (show ln 67 = 1 from rfl) (hL 67 (Nat.le_of_ble_eq_true rfl) (Nat.le_of_ble_eq_true rfl)) hfl h) q1013 q1014 q104 q1015 hdL_isRotten ⟨(Nat.le_of_ble_eq_true rfl), (Nat.le_of_ble_eq_true rfl)⟩ ⟨lw_f0 hcs (Nat.le_of_ble_eq_true rfl), lw_f0 hss (Nat.le_of_ble_eq_true rfl)⟩ rfl hl.1 rfl (lv_room (Nat.le_of_ble_eq_true rfl)) dL_law_761) (fun r2 st1 H locs h hP hS => ?_)
  refine lv_istore C.1 C.2.1 dL_law_764 hl (Nat.le_of_ble_eq_true rfl) rfl (fun ls hl => ?_)
  have hl : lv_has ls 9 [(5, .int r2), (0, .ref b0), (1, .ref (E.2.1 0)), (2, .ref (E.2.1 54)), (3, .ref (E.2.1 67)), (4, .int i)] := hl
  refine lv_aload_n C.1 C.2.1 dL_law_766 rfl (lv_at hl 3 rfl) ?_
  refine lv_aload_n C.1 C.2.1 dL_law_767 rfl (lv_at hl 1 rfl) ?_
  refine lv_iload C.1 C.2.1 dL_law_768 (lv_at hl 5 rfl) ?_
  refine lv_iconst C.1 C.2.1 (v := 1) dL_law_770 rfl ?_
  refine lv_iadd C.1 C.2.1 dL_law_771  ?_
  refine law_sld C hX hbl hbA hS hin1 ha1 dL_law_772 ?_
  refine z_ki hS (z_runV (As := [.int a1]) (rest := []) C hP hS (hL 54 (Nat.le_of_ble_eq_true rfl) (Nat.le_of_ble_eq_true rfl)) (e11 (show kd 54 = 11 from rfl)) rfl (tX12_isRotten C.2.2.2.2.2.2.1 (hL.mo (Nat.le_of_ble_eq_true rfl) (Nat.le_of_ble_eq_true rfl)) (show kd 54 = 11 from rfl) h) q1717 q1718 q1719 q116 q1720 hdX12_isRotten ⟨(Nat.le_of_ble_eq_true rfl), (Nat.le_of_ble_eq_true rfl)⟩ ⟨lw_f1 hcs (Nat.le_of_ble_eq_true rfl), lw_f1 hss (Nat.le_of_ble_eq_true rfl)⟩ rfl hl.1 rfl (lv_room (Nat.le_of_ble_eq_true rfl)) dL_law_773) (fun r4 st3 H locs h hP hS => ?_)
  obtain ⟨hr4, h⟩ := h
  refine lv_istore C.1 C.2.1 dL_law_776 hl (Nat.le_of_ble_eq_true rfl) rfl (fun ls hl => ?_)
  have hl : lv_has ls 9 [(6, .int r4), (5, .int r2), (0, .ref b0), (1, .ref (E.2.1 0)), (2, .ref (E.2.1 54)), (3, .ref (E.2.1 67)), (4, .int i)] := hl
  refine lv_aload_n C.1 C.2.1 dL_law_778 rfl (lv_at hl 4 rfl) ?_
  refine z_ki hS (z_runV (As := []) (rest := []) C hP hS (hL 54 (Nat.le_of_ble_eq_true rfl) (Nat.le_of_ble_eq_true rfl)) (e11 (show kd 54 = 11 from rfl)) rfl (tX12_thrown C.2.2.2.2.2.2.1 (hL.mo (Nat.le_of_ble_eq_true rfl) (Nat.le_of_ble_eq_true rfl)) (show kd 54 = 11 from rfl) h) q1407 q1408 q1409 q116 q1410 hdX12_thrown ⟨(Nat.le_of_ble_eq_true rfl), (Nat.le_of_ble_eq_true rfl)⟩ ⟨lw_f2 hcs (Nat.le_of_ble_eq_true rfl), lw_f2 hss (Nat.le_of_ble_eq_true rfl)⟩ rfl hl.1 rfl (lv_room (Nat.le_of_ble_eq_true rfl)) dL_law_779) (fun r6 st5 H locs h hP hS => ?_)
  refine lv_iload C.1 C.2.1 dL_law_782 (lv_at hl 1 rfl) ?_
  refine lv_icmp_eq C.1 C.2.1 (tgt := 789) dL_law_784 (by decide) (fun hc => ?_) (fun hc => ?_)
  · have h := h.1 hc
    refine lv_iload C.1 C.2.1 dL_law_789 (lv_at hl 1 rfl) ?_
    refine lv_if_ne C.1 C.2.1 (tgt := 813) dL_law_791 (by decide) (fun hc => ?_) (fun hc => ?_)
    · have h := h.1 hc
      refine lv_goto C.1 C.2.1 (tgt := 1914) dL_law_813 (by decide) ?_
      exact hk _ _ _ _ _ _ h (lw_g3 (Nat.le_of_ble_eq_true rfl)) (lw_g3 (Nat.le_of_ble_eq_true rfl)) (lv_sub hl [2, 3, 4, 5, 6] rfl) hP hS
    · have h := h.2 hc
      refine lv_aload_n C.1 C.2.1 dL_law_794 rfl (lv_at hl 5 rfl) ?_
      refine lv_iconst C.1 C.2.1 (v := 0) dL_law_795 rfl ?_
      obtain ⟨hi, h⟩ := h
      refine z_lald C hP (show kd 67 = 23 from rfl) (show ln 67 = 1 from rfl) (hL 67 (Nat.le_of_ble_eq_true rfl) (Nat.le_of_ble_eq_true rfl)) hi dL_law_796 ?_
      refine lv_iload C.1 C.2.1 dL_law_797 (lv_at hl 0 rfl) ?_
      refine lv_if_eq C.1 C.2.1 (tgt := 806) dL_law_799 (by decide) (fun hc => ?_) (fun hc => ?_)
      · have h := h.1 hc
        refine lv_lconst C.1 C.2.1 (v := 0) dL_law_806 rfl ?_
        refine W.lcmp C.1 C.2.1 dL_law_807 ?_
        refine lv_if_eq C.1 C.2.1 (tgt := 813) dL_law_808 (by decide) (fun hc => ?_) (fun hc => ?_)
        · have h := h.1 hc
          refine lv_goto C.1 C.2.1 (tgt := 1914) dL_law_813 (by decide) ?_
          exact hk _ _ _ _ _ _ h (lw_g3 (Nat.le_of_ble_eq_true rfl)) (lw_g3 (Nat.le_of_ble_eq_true rfl)) (lv_sub hl [2, 3, 4, 5, 6] rfl) hP hS
        · have h := h.2 hc
          exact h.elim
      · have h := h.2 hc
        refine lv_lconst C.1 C.2.1 (v := 1) dL_law_802 rfl ?_
        refine lv_goto C.1 C.2.1 (tgt := 807) dL_law_803 (by decide) ?_
        refine W.lcmp C.1 C.2.1 dL_law_807 ?_
        refine lv_if_eq C.1 C.2.1 (tgt := 813) dL_law_808 (by decide) (fun hc => ?_) (fun hc => ?_)
        · have h := h.1 hc
          refine lv_goto C.1 C.2.1 (tgt := 1914) dL_law_813 (by decide) ?_
          exact hk _ _ _ _ _ _ h (lw_g3 (Nat.le_of_ble_eq_true rfl)) (lw_g3 (Nat.le_of_ble_eq_true rfl)) (lv_sub hl [2, 3, 4, 5, 6] rfl) hP hS
        · have h := h.2 hc
          exact h.elim
  · have h := h.2 hc
    exact h.elim
def wLc_14 (a1 a2 a3 a4 a5 : Int32) (st : St) (R : St → Prop) : Prop :=
  (wX9_missingPlanks 0 st (fun r2 st1 => (wX12_missingPlanks 54 st1 (fun r4 st3 => ((r2 = r4 → R st3) ∧ (¬ r2 = r4 → False))))))
set_option maxHeartbeats 4000000 in
set_option maxRecDepth 100000 in
theorem tLc_14 {p : Program} {l : Launch} {e : Env} {s : State} {m : MethodId} {args : Array Value} {below : List Frame} {meth : Method} {c : Code} {H : Heap} {locs : List Loc} {cells slots : Nat} {Q : State → Prop} {E : En0} {b0 n : Nat} {xs : Nat → Int32} {i a1 a2 a3 a4 a5 : Int32} {st : St} {R : St → Prop} {ls : Array Slot}
    (C : Cx E L68 "PlankBridgeLaw" cL_law 9 p s m args c) (hNC : NC s) (hfl : l.stackTraces = false) (hX : va_X b0 n xs s s.heap) (hbl : b0 < s.heap.size) (hbA : ¬ fA E L68 s.heap.size b0)
    (hin1 : vp_in (i + 1) n) (hin2 : vp_in (i + 2) n) (hin3 : vp_in (i + 3) n) (hin4 : vp_in (i + 4) n) (hin5 : vp_in (i + 5) n) (ha1 : xs (i + 1).toNatClampNeg = a1) (ha2 : xs (i + 2).toNatClampNeg = a2) (ha3 : xs (i + 3).toNatClampNeg = a3) (ha4 : xs (i + 4).toNatClampNeg = a4) (ha5 : xs (i + 5).toNatClampNeg = a5)
    (hcs : cells + 12 ≤ 601024) (hss : slots + 3300 ≤ 7293034) (hl : lv_has ls 9 [(0, .ref b0), (1, .ref (E.2.1 0)), (2, .ref (E.2.1 54)), (3, .ref (E.2.1 67)), (4, .int i)]) (hP : va_P E.1 vwCl (wd E L68 st) H) (hS : va_S (fA E L68 s.heap.size) s.heap H locs) (h : wLc_14 a1 a2 a3 a4 a5 st R)
    (hk : ∀ (u : St) (H1 : Heap) (locs1 : List Loc) (ls1 : Array Slot) (c1 s1 : Nat), R u → c1 ≤ cells + 12 → s1 ≤ slots + 3300 → lv_has ls1 9 [(0, .ref b0), (1, .ref (E.2.1 0)), (2, .ref (E.2.1 54)), (3, .ref (E.2.1 67)), (4, .int i)] → va_P E.1 vwCl (wd E L68 u) H1 → va_S (fA E L68 s.heap.size) s.heap H1 locs1 → W p l e room_1 s m args below meth c H1 locs1 c1 s1 Q (F0 m 1914 ls1 [])) :
    W p l e room_1 s m args below meth c H locs cells slots Q (F0 m 816 ls []) := by
  have hL : Cov 0 68 L68 := fun c _ h2 => List.mem_range.mpr h2
  unfold wLc_14 at h
  refine lv_aload_n C.1 C.2.1 dL_law_816 rfl (lv_at hl 1 rfl) ?_
  refine z_ki hS (z_runV (As := []) (rest := []) C hP hS (hL 0 (Nat.le_of_ble_eq_true rfl) (Nat.le_of_ble_eq_true rfl)) (e8 (show kd 0 = 8 from rfl)) rfl (tX9_missingPlanks C.2.2.2.2.2.2.1 (hL.mo (Nat.le_of_ble_eq_true rfl) (Nat.le_of_ble_eq_true rfl)) (show kd 0 = 8 from rfl) h) q722 q723 q724 q105 q725 hdX9_missingPlanks ⟨(Nat.le_of_ble_eq_true rfl), (Nat.le_of_ble_eq_true rfl)⟩ ⟨lw_f0 hcs (Nat.le_of_ble_eq_true rfl), lw_f0 hss (Nat.le_of_ble_eq_true rfl)⟩ rfl hl.1 rfl (lv_room (Nat.le_of_ble_eq_true rfl)) dL_law_817) (fun r2 st1 H locs h hP hS => ?_)
  refine lv_aload_n C.1 C.2.1 dL_law_820 rfl (lv_at hl 2 rfl) ?_
  refine z_ki hS (z_runV (As := []) (rest := [.int r2]) C hP hS (hL 54 (Nat.le_of_ble_eq_true rfl) (Nat.le_of_ble_eq_true rfl)) (e11 (show kd 54 = 11 from rfl)) rfl (tX12_missingPlanks C.2.2.2.2.2.2.1 (hL.mo (Nat.le_of_ble_eq_true rfl) (Nat.le_of_ble_eq_true rfl)) (show kd 54 = 11 from rfl) h) q1721 q1722 q1723 q116 q1724 hdX12_missingPlanks ⟨(Nat.le_of_ble_eq_true rfl), (Nat.le_of_ble_eq_true rfl)⟩ ⟨lw_f1 hcs (Nat.le_of_ble_eq_true rfl), lw_f1 hss (Nat.le_of_ble_eq_true rfl)⟩ rfl hl.1 rfl (lv_room (Nat.le_of_ble_eq_true rfl)) dL_law_821) (fun r4 st3 H locs h hP hS => ?_)
  refine lv_icmp_eq C.1 C.2.1 (tgt := 1914) dL_law_824 (by decide) (fun hc => ?_) (fun hc => ?_)
  · have h := h.1 hc
    exact hk _ _ _ _ _ _ h (lw_g2 (Nat.le_of_ble_eq_true rfl)) (lw_g2 (Nat.le_of_ble_eq_true rfl)) hl hP hS
  · have h := h.2 hc
    exact h.elim
def wLc_15 (a1 a2 a3 a4 a5 : Int32) (st : St) (R : St → Prop) : Prop :=
  (wL_weakestPlank 0 67 st (fun r2 st1 => (wX12_weakestPlank 54 st1 (fun r4 st3 => (wX12_thrown 54 st3 (fun r6 st5 => ((r6 = r2 → ((¬ r2 = 0 → R st5) ∧ (r2 = 0 → (vp_in 0 1 ∧ (((lg_cmp (gJ st5 67 (0 : Int32).toNatClampNeg) ((r4 : Int32).toInt64)) = 0 → R st5) ∧ (¬ (lg_cmp (gJ st5 67 (0 : Int32).toNatClampNeg) ((r4 : Int32).toInt64)) = 0 → False)))))) ∧ (¬ r6 = r2 → False))))))))
set_option maxHeartbeats 4000000 in
set_option maxRecDepth 100000 in
theorem tLc_15 {p : Program} {l : Launch} {e : Env} {s : State} {m : MethodId} {args : Array Value} {below : List Frame} {meth : Method} {c : Code} {H : Heap} {locs : List Loc} {cells slots : Nat} {Q : State → Prop} {E : En0} {b0 n : Nat} {xs : Nat → Int32} {i a1 a2 a3 a4 a5 : Int32} {st : St} {R : St → Prop} {ls : Array Slot}
    (C : Cx E L68 "PlankBridgeLaw" cL_law 9 p s m args c) (hNC : NC s) (hfl : l.stackTraces = false) (hX : va_X b0 n xs s s.heap) (hbl : b0 < s.heap.size) (hbA : ¬ fA E L68 s.heap.size b0)
    (hin1 : vp_in (i + 1) n) (hin2 : vp_in (i + 2) n) (hin3 : vp_in (i + 3) n) (hin4 : vp_in (i + 4) n) (hin5 : vp_in (i + 5) n) (ha1 : xs (i + 1).toNatClampNeg = a1) (ha2 : xs (i + 2).toNatClampNeg = a2) (ha3 : xs (i + 3).toNatClampNeg = a3) (ha4 : xs (i + 4).toNatClampNeg = a4) (ha5 : xs (i + 5).toNatClampNeg = a5)
    (hcs : cells + 12 ≤ 601024) (hss : slots + 3300 ≤ 7293034) (hl : lv_has ls 9 [(0, .ref b0), (1, .ref (E.2.1 0)), (2, .ref (E.2.1 54)), (3, .ref (E.2.1 67)), (4, .int i)]) (hP : va_P E.1 vwCl (wd E L68 st) H) (hS : va_S (fA E L68 s.heap.size) s.heap H locs) (h : wLc_15 a1 a2 a3 a4 a5 st R)
    (hk : ∀ (u : St) (H1 : Heap) (locs1 : List Loc) (ls1 : Array Slot) (c1 s1 : Nat), R u → c1 ≤ cells + 12 → s1 ≤ slots + 3300 → lv_has ls1 9 [(0, .ref b0), (1, .ref (E.2.1 0)), (2, .ref (E.2.1 54)), (3, .ref (E.2.1 67)), (4, .int i)] → va_P E.1 vwCl (wd E L68 u) H1 → va_S (fA E L68 s.heap.size) s.heap H1 locs1 → W p l e room_1 s m args below meth c H1 locs1 c1 s1 Q (F0 m 1914 ls1 [])) :
    W p l e room_1 s m args below meth c H locs cells slots Q (F0 m 829 ls []) := by
  have hL : Cov 0 68 L68 := fun c _ h2 => List.mem_range.mpr h2
  unfold wLc_15 at h
  refine lv_aload_n C.1 C.2.1 dL_law_829 rfl (lv_at hl 1 rfl) ?_
  refine lv_aload_n C.1 C.2.1 dL_law_830 rfl (lv_at hl 3 rfl) ?_
  refine z_ki hS (z_runSW (As := [.ref (E.2.1 0), .ref (E.2.1 67)]) (rest := []) C hNC hP hS (tL_weakestPlank C.2.2.2.2.2.2.1 hL (show kd 0 = 8 from rfl) (show kd 67 = 23 from rfl) (show ln 67 = 1 from rfl) (hL 67 (Nat.le_of_ble_eq_true rfl) (Nat.le_of_ble_eq_true rfl)) hfl h) q1020 q1021 q104 q1022 hdL_weakestPlank ⟨(Nat.le_of_ble_eq_true rfl), (Nat.le_of_ble_eq_true rfl)⟩ ⟨lw_f0 hcs (Nat.le_of_ble_eq_true rfl), lw_f0 hss (Nat.le_of_ble_eq_true rfl)⟩ rfl hl.1 rfl (lv_room (Nat.le_of_ble_eq_true rfl)) dL_law_831) (fun r2 st1 H locs h hP hS => ?_)
  refine lv_istore C.1 C.2.1 dL_law_834 hl (Nat.le_of_ble_eq_true rfl) rfl (fun ls hl => ?_)
  have hl : lv_has ls 9 [(5, .int r2), (0, .ref b0), (1, .ref (E.2.1 0)), (2, .ref (E.2.1 54)), (3, .ref (E.2.1 67)), (4, .int i)] := hl
  refine lv_aload_n C.1 C.2.1 dL_law_836 rfl (lv_at hl 3 rfl) ?_
  refine z_ki hS (z_runV (As := []) (rest := []) C hP hS (hL 54 (Nat.le_of_ble_eq_true rfl) (Nat.le_of_ble_eq_true rfl)) (e11 (show kd 54 = 11 from rfl)) rfl (tX12_weakestPlank C.2.2.2.2.2.2.1 (hL.mo (Nat.le_of_ble_eq_true rfl) (Nat.le_of_ble_eq_true rfl)) (show kd 54 = 11 from rfl) h) q1729 q1730 q1731 q116 q1732 hdX12_weakestPlank ⟨(Nat.le_of_ble_eq_true rfl), (Nat.le_of_ble_eq_true rfl)⟩ ⟨lw_f1 hcs (Nat.le_of_ble_eq_true rfl), lw_f1 hss (Nat.le_of_ble_eq_true rfl)⟩ rfl hl.1 rfl (lv_room (Nat.le_of_ble_eq_true rfl)) dL_law_837) (fun r4 st3 H locs h hP hS => ?_)
  refine lv_istore C.1 C.2.1 dL_law_840 hl (Nat.le_of_ble_eq_true rfl) rfl (fun ls hl => ?_)
  have hl : lv_has ls 9 [(6, .int r4), (5, .int r2), (0, .ref b0), (1, .ref (E.2.1 0)), (2, .ref (E.2.1 54)), (3, .ref (E.2.1 67)), (4, .int i)] := hl
  refine lv_aload_n C.1 C.2.1 dL_law_842 rfl (lv_at hl 4 rfl) ?_
  refine z_ki hS (z_runV (As := []) (rest := []) C hP hS (hL 54 (Nat.le_of_ble_eq_true rfl) (Nat.le_of_ble_eq_true rfl)) (e11 (show kd 54 = 11 from rfl)) rfl (tX12_thrown C.2.2.2.2.2.2.1 (hL.mo (Nat.le_of_ble_eq_true rfl) (Nat.le_of_ble_eq_true rfl)) (show kd 54 = 11 from rfl) h) q1407 q1408 q1409 q116 q1410 hdX12_thrown ⟨(Nat.le_of_ble_eq_true rfl), (Nat.le_of_ble_eq_true rfl)⟩ ⟨lw_f2 hcs (Nat.le_of_ble_eq_true rfl), lw_f2 hss (Nat.le_of_ble_eq_true rfl)⟩ rfl hl.1 rfl (lv_room (Nat.le_of_ble_eq_true rfl)) dL_law_843) (fun r6 st5 H locs h hP hS => ?_)
  refine lv_iload C.1 C.2.1 dL_law_846 (lv_at hl 1 rfl) ?_
  refine lv_icmp_eq C.1 C.2.1 (tgt := 853) dL_law_848 (by decide) (fun hc => ?_) (fun hc => ?_)
  · have h := h.1 hc
    refine lv_iload C.1 C.2.1 dL_law_853 (lv_at hl 1 rfl) ?_
    refine lv_if_ne C.1 C.2.1 (tgt := 870) dL_law_855 (by decide) (fun hc => ?_) (fun hc => ?_)
    · have h := h.1 hc
      refine lv_goto C.1 C.2.1 (tgt := 1914) dL_law_870 (by decide) ?_
      exact hk _ _ _ _ _ _ h (lw_g3 (Nat.le_of_ble_eq_true rfl)) (lw_g3 (Nat.le_of_ble_eq_true rfl)) (lv_sub hl [2, 3, 4, 5, 6] rfl) hP hS
    · have h := h.2 hc
      refine lv_aload_n C.1 C.2.1 dL_law_858 rfl (lv_at hl 5 rfl) ?_
      refine lv_iconst C.1 C.2.1 (v := 0) dL_law_859 rfl ?_
      obtain ⟨hi, h⟩ := h
      refine z_lald C hP (show kd 67 = 23 from rfl) (show ln 67 = 1 from rfl) (hL 67 (Nat.le_of_ble_eq_true rfl) (Nat.le_of_ble_eq_true rfl)) hi dL_law_860 ?_
      refine lv_iload C.1 C.2.1 dL_law_861 (lv_at hl 0 rfl) ?_
      refine t_i2l C.1 C.2.1 dL_law_863 rfl ?_
      refine W.lcmp C.1 C.2.1 dL_law_864 ?_
      refine lv_if_eq C.1 C.2.1 (tgt := 870) dL_law_865 (by decide) (fun hc => ?_) (fun hc => ?_)
      · have h := h.1 hc
        refine lv_goto C.1 C.2.1 (tgt := 1914) dL_law_870 (by decide) ?_
        exact hk _ _ _ _ _ _ h (lw_g3 (Nat.le_of_ble_eq_true rfl)) (lw_g3 (Nat.le_of_ble_eq_true rfl)) (lv_sub hl [2, 3, 4, 5, 6] rfl) hP hS
      · have h := h.2 hc
        exact h.elim
  · have h := h.2 hc
    exact h.elim
def wLc_16 (a1 a2 a3 a4 a5 : Int32) (st : St) (R : St → Prop) : Prop :=
  (wX9_isPassable 0 st (fun r2 st1 => (wX12_isPassable 54 st1 (fun r4 st3 => ((r2 = r4 → R st3) ∧ (¬ r2 = r4 → False))))))
set_option maxHeartbeats 4000000 in
set_option maxRecDepth 100000 in
theorem tLc_16 {p : Program} {l : Launch} {e : Env} {s : State} {m : MethodId} {args : Array Value} {below : List Frame} {meth : Method} {c : Code} {H : Heap} {locs : List Loc} {cells slots : Nat} {Q : State → Prop} {E : En0} {b0 n : Nat} {xs : Nat → Int32} {i a1 a2 a3 a4 a5 : Int32} {st : St} {R : St → Prop} {ls : Array Slot}
    (C : Cx E L68 "PlankBridgeLaw" cL_law 9 p s m args c) (hNC : NC s) (hfl : l.stackTraces = false) (hX : va_X b0 n xs s s.heap) (hbl : b0 < s.heap.size) (hbA : ¬ fA E L68 s.heap.size b0)
    (hin1 : vp_in (i + 1) n) (hin2 : vp_in (i + 2) n) (hin3 : vp_in (i + 3) n) (hin4 : vp_in (i + 4) n) (hin5 : vp_in (i + 5) n) (ha1 : xs (i + 1).toNatClampNeg = a1) (ha2 : xs (i + 2).toNatClampNeg = a2) (ha3 : xs (i + 3).toNatClampNeg = a3) (ha4 : xs (i + 4).toNatClampNeg = a4) (ha5 : xs (i + 5).toNatClampNeg = a5)
    (hcs : cells + 12 ≤ 601024) (hss : slots + 3300 ≤ 7293034) (hl : lv_has ls 9 [(0, .ref b0), (1, .ref (E.2.1 0)), (2, .ref (E.2.1 54)), (3, .ref (E.2.1 67)), (4, .int i)]) (hP : va_P E.1 vwCl (wd E L68 st) H) (hS : va_S (fA E L68 s.heap.size) s.heap H locs) (h : wLc_16 a1 a2 a3 a4 a5 st R)
    (hk : ∀ (u : St) (H1 : Heap) (locs1 : List Loc) (ls1 : Array Slot) (c1 s1 : Nat), R u → c1 ≤ cells + 12 → s1 ≤ slots + 3300 → lv_has ls1 9 [(0, .ref b0), (1, .ref (E.2.1 0)), (2, .ref (E.2.1 54)), (3, .ref (E.2.1 67)), (4, .int i)] → va_P E.1 vwCl (wd E L68 u) H1 → va_S (fA E L68 s.heap.size) s.heap H1 locs1 → W p l e room_1 s m args below meth c H1 locs1 c1 s1 Q (F0 m 1914 ls1 [])) :
    W p l e room_1 s m args below meth c H locs cells slots Q (F0 m 873 ls []) := by
  have hL : Cov 0 68 L68 := fun c _ h2 => List.mem_range.mpr h2
  unfold wLc_16 at h
  refine lv_aload_n C.1 C.2.1 dL_law_873 rfl (lv_at hl 1 rfl) ?_
  refine z_ki hS (z_runV (As := []) (rest := []) C hP hS (hL 0 (Nat.le_of_ble_eq_true rfl) (Nat.le_of_ble_eq_true rfl)) (e8 (show kd 0 = 8 from rfl)) rfl (tX9_isPassable C.2.2.2.2.2.2.1 (hL.mo (Nat.le_of_ble_eq_true rfl) (Nat.le_of_ble_eq_true rfl)) (show kd 0 = 8 from rfl) h) q730 q731 q732 q105 q733 hdX9_isPassable ⟨(Nat.le_of_ble_eq_true rfl), (Nat.le_of_ble_eq_true rfl)⟩ ⟨lw_f0 hcs (Nat.le_of_ble_eq_true rfl), lw_f0 hss (Nat.le_of_ble_eq_true rfl)⟩ rfl hl.1 rfl (lv_room (Nat.le_of_ble_eq_true rfl)) dL_law_874) (fun r2 st1 H locs h hP hS => ?_)
  obtain ⟨hr2, h⟩ := h
  refine lv_aload_n C.1 C.2.1 dL_law_877 rfl (lv_at hl 2 rfl) ?_
  refine z_ki hS (z_runV (As := []) (rest := [.int r2]) C hP hS (hL 54 (Nat.le_of_ble_eq_true rfl) (Nat.le_of_ble_eq_true rfl)) (e11 (show kd 54 = 11 from rfl)) rfl (tX12_isPassable C.2.2.2.2.2.2.1 (hL.mo (Nat.le_of_ble_eq_true rfl) (Nat.le_of_ble_eq_true rfl)) (show kd 54 = 11 from rfl) h) q1737 q1738 q1739 q116 q1740 hdX12_isPassable ⟨(Nat.le_of_ble_eq_true rfl), (Nat.le_of_ble_eq_true rfl)⟩ ⟨lw_f1 hcs (Nat.le_of_ble_eq_true rfl), lw_f1 hss (Nat.le_of_ble_eq_true rfl)⟩ rfl hl.1 rfl (lv_room (Nat.le_of_ble_eq_true rfl)) dL_law_878) (fun r4 st3 H locs h hP hS => ?_)
  obtain ⟨hr4, h⟩ := h
  refine lv_icmp_eq C.1 C.2.1 (tgt := 1914) dL_law_881 (by decide) (fun hc => ?_) (fun hc => ?_)
  · have h := h.1 hc
    exact hk _ _ _ _ _ _ h (lw_g2 (Nat.le_of_ble_eq_true rfl)) (lw_g2 (Nat.le_of_ble_eq_true rfl)) hl hP hS
  · have h := h.2 hc
    exact h.elim
def wLc_17 (a1 a2 a3 a4 a5 : Int32) (st : St) (R : St → Prop) : Prop :=
  (wL_heaviestLoad 0 67 st (fun r2 st1 => (wX12_heaviestLoad 54 st1 (fun r4 st3 => (wX12_thrown 54 st3 (fun r6 st5 => ((r6 = r2 → ((¬ r2 = 0 → R st5) ∧ (r2 = 0 → (vp_in 0 1 ∧ (((lg_cmp (gJ st5 67 (0 : Int32).toNatClampNeg) ((r4 : Int32).toInt64)) = 0 → R st5) ∧ (¬ (lg_cmp (gJ st5 67 (0 : Int32).toNatClampNeg) ((r4 : Int32).toInt64)) = 0 → False)))))) ∧ (¬ r6 = r2 → False))))))))
set_option maxHeartbeats 4000000 in
set_option maxRecDepth 100000 in
theorem tLc_17 {p : Program} {l : Launch} {e : Env} {s : State} {m : MethodId} {args : Array Value} {below : List Frame} {meth : Method} {c : Code} {H : Heap} {locs : List Loc} {cells slots : Nat} {Q : State → Prop} {E : En0} {b0 n : Nat} {xs : Nat → Int32} {i a1 a2 a3 a4 a5 : Int32} {st : St} {R : St → Prop} {ls : Array Slot}
    (C : Cx E L68 "PlankBridgeLaw" cL_law 9 p s m args c) (hNC : NC s) (hfl : l.stackTraces = false) (hX : va_X b0 n xs s s.heap) (hbl : b0 < s.heap.size) (hbA : ¬ fA E L68 s.heap.size b0)
    (hin1 : vp_in (i + 1) n) (hin2 : vp_in (i + 2) n) (hin3 : vp_in (i + 3) n) (hin4 : vp_in (i + 4) n) (hin5 : vp_in (i + 5) n) (ha1 : xs (i + 1).toNatClampNeg = a1) (ha2 : xs (i + 2).toNatClampNeg = a2) (ha3 : xs (i + 3).toNatClampNeg = a3) (ha4 : xs (i + 4).toNatClampNeg = a4) (ha5 : xs (i + 5).toNatClampNeg = a5)
    (hcs : cells + 12 ≤ 601024) (hss : slots + 3300 ≤ 7293034) (hl : lv_has ls 9 [(0, .ref b0), (1, .ref (E.2.1 0)), (2, .ref (E.2.1 54)), (3, .ref (E.2.1 67)), (4, .int i)]) (hP : va_P E.1 vwCl (wd E L68 st) H) (hS : va_S (fA E L68 s.heap.size) s.heap H locs) (h : wLc_17 a1 a2 a3 a4 a5 st R)
    (hk : ∀ (u : St) (H1 : Heap) (locs1 : List Loc) (ls1 : Array Slot) (c1 s1 : Nat), R u → c1 ≤ cells + 12 → s1 ≤ slots + 3300 → lv_has ls1 9 [(0, .ref b0), (1, .ref (E.2.1 0)), (2, .ref (E.2.1 54)), (3, .ref (E.2.1 67)), (4, .int i)] → va_P E.1 vwCl (wd E L68 u) H1 → va_S (fA E L68 s.heap.size) s.heap H1 locs1 → W p l e room_1 s m args below meth c H1 locs1 c1 s1 Q (F0 m 1914 ls1 [])) :
    W p l e room_1 s m args below meth c H locs cells slots Q (F0 m 886 ls []) := by
  have hL : Cov 0 68 L68 := fun c _ h2 => List.mem_range.mpr h2
  unfold wLc_17 at h
  refine lv_aload_n C.1 C.2.1 dL_law_886 rfl (lv_at hl 1 rfl) ?_
  refine lv_aload_n C.1 C.2.1 dL_law_887 rfl (lv_at hl 3 rfl) ?_
  refine z_ki hS (z_runSW (As := [.ref (E.2.1 0), .ref (E.2.1 67)]) (rest := []) C hNC hP hS (tL_heaviestLoad C.2.2.2.2.2.2.1 hL (show kd 0 = 8 from rfl) (show kd 67 = 23 from rfl) (show ln 67 = 1 from rfl) (hL 67 (Nat.le_of_ble_eq_true rfl) (Nat.le_of_ble_eq_true rfl)) hfl h) q1036 q1037 q104 q1038 hdL_heaviestLoad ⟨(Nat.le_of_ble_eq_true rfl), (Nat.le_of_ble_eq_true rfl)⟩ ⟨lw_f0 hcs (Nat.le_of_ble_eq_true rfl), lw_f0 hss (Nat.le_of_ble_eq_true rfl)⟩ rfl hl.1 rfl (lv_room (Nat.le_of_ble_eq_true rfl)) dL_law_888) (fun r2 st1 H locs h hP hS => ?_)
  refine lv_istore C.1 C.2.1 dL_law_891 hl (Nat.le_of_ble_eq_true rfl) rfl (fun ls hl => ?_)
  have hl : lv_has ls 9 [(5, .int r2), (0, .ref b0), (1, .ref (E.2.1 0)), (2, .ref (E.2.1 54)), (3, .ref (E.2.1 67)), (4, .int i)] := hl
  refine lv_aload_n C.1 C.2.1 dL_law_893 rfl (lv_at hl 3 rfl) ?_
  refine z_ki hS (z_runV (As := []) (rest := []) C hP hS (hL 54 (Nat.le_of_ble_eq_true rfl) (Nat.le_of_ble_eq_true rfl)) (e11 (show kd 54 = 11 from rfl)) rfl (tX12_heaviestLoad C.2.2.2.2.2.2.1 (hL.mo (Nat.le_of_ble_eq_true rfl) (Nat.le_of_ble_eq_true rfl)) (show kd 54 = 11 from rfl) h) q1749 q1750 q1751 q116 q1752 hdX12_heaviestLoad ⟨(Nat.le_of_ble_eq_true rfl), (Nat.le_of_ble_eq_true rfl)⟩ ⟨lw_f1 hcs (Nat.le_of_ble_eq_true rfl), lw_f1 hss (Nat.le_of_ble_eq_true rfl)⟩ rfl hl.1 rfl (lv_room (Nat.le_of_ble_eq_true rfl)) dL_law_894) (fun r4 st3 H locs h hP hS => ?_)
  refine lv_istore C.1 C.2.1 dL_law_897 hl (Nat.le_of_ble_eq_true rfl) rfl (fun ls hl => ?_)
  have hl : lv_has ls 9 [(6, .int r4), (5, .int r2), (0, .ref b0), (1, .ref (E.2.1 0)), (2, .ref (E.2.1 54)), (3, .ref (E.2.1 67)), (4, .int i)] := hl
  refine lv_aload_n C.1 C.2.1 dL_law_899 rfl (lv_at hl 4 rfl) ?_
  refine z_ki hS (z_runV (As := []) (rest := []) C hP hS (hL 54 (Nat.le_of_ble_eq_true rfl) (Nat.le_of_ble_eq_true rfl)) (e11 (show kd 54 = 11 from rfl)) rfl (tX12_thrown C.2.2.2.2.2.2.1 (hL.mo (Nat.le_of_ble_eq_true rfl) (Nat.le_of_ble_eq_true rfl)) (show kd 54 = 11 from rfl) h) q1407 q1408 q1409 q116 q1410 hdX12_thrown ⟨(Nat.le_of_ble_eq_true rfl), (Nat.le_of_ble_eq_true rfl)⟩ ⟨lw_f2 hcs (Nat.le_of_ble_eq_true rfl), lw_f2 hss (Nat.le_of_ble_eq_true rfl)⟩ rfl hl.1 rfl (lv_room (Nat.le_of_ble_eq_true rfl)) dL_law_900) (fun r6 st5 H locs h hP hS => ?_)
  refine lv_iload C.1 C.2.1 dL_law_903 (lv_at hl 1 rfl) ?_
  refine lv_icmp_eq C.1 C.2.1 (tgt := 910) dL_law_905 (by decide) (fun hc => ?_) (fun hc => ?_)
  · have h := h.1 hc
    refine lv_iload C.1 C.2.1 dL_law_910 (lv_at hl 1 rfl) ?_
    refine lv_if_ne C.1 C.2.1 (tgt := 927) dL_law_912 (by decide) (fun hc => ?_) (fun hc => ?_)
    · have h := h.1 hc
      refine lv_goto C.1 C.2.1 (tgt := 1914) dL_law_927 (by decide) ?_
      exact hk _ _ _ _ _ _ h (lw_g3 (Nat.le_of_ble_eq_true rfl)) (lw_g3 (Nat.le_of_ble_eq_true rfl)) (lv_sub hl [2, 3, 4, 5, 6] rfl) hP hS
    · have h := h.2 hc
      refine lv_aload_n C.1 C.2.1 dL_law_915 rfl (lv_at hl 5 rfl) ?_
      refine lv_iconst C.1 C.2.1 (v := 0) dL_law_916 rfl ?_
      obtain ⟨hi, h⟩ := h
      refine z_lald C hP (show kd 67 = 23 from rfl) (show ln 67 = 1 from rfl) (hL 67 (Nat.le_of_ble_eq_true rfl) (Nat.le_of_ble_eq_true rfl)) hi dL_law_917 ?_
      refine lv_iload C.1 C.2.1 dL_law_918 (lv_at hl 0 rfl) ?_
      refine t_i2l C.1 C.2.1 dL_law_920 rfl ?_
      refine W.lcmp C.1 C.2.1 dL_law_921 ?_
      refine lv_if_eq C.1 C.2.1 (tgt := 927) dL_law_922 (by decide) (fun hc => ?_) (fun hc => ?_)
      · have h := h.1 hc
        refine lv_goto C.1 C.2.1 (tgt := 1914) dL_law_927 (by decide) ?_
        exact hk _ _ _ _ _ _ h (lw_g3 (Nat.le_of_ble_eq_true rfl)) (lw_g3 (Nat.le_of_ble_eq_true rfl)) (lv_sub hl [2, 3, 4, 5, 6] rfl) hP hS
      · have h := h.2 hc
        exact h.elim
  · have h := h.2 hc
    exact h.elim
def wLc_18 (a1 a2 a3 a4 a5 : Int32) (st : St) (R : St → Prop) : Prop :=
  (wX9_isLampNear 0 st (fun r2 st1 => (wX12_isLampNear 54 st1 (fun r4 st3 => ((r2 = r4 → R st3) ∧ (¬ r2 = r4 → False))))))
set_option maxHeartbeats 4000000 in
set_option maxRecDepth 100000 in
theorem tLc_18 {p : Program} {l : Launch} {e : Env} {s : State} {m : MethodId} {args : Array Value} {below : List Frame} {meth : Method} {c : Code} {H : Heap} {locs : List Loc} {cells slots : Nat} {Q : State → Prop} {E : En0} {b0 n : Nat} {xs : Nat → Int32} {i a1 a2 a3 a4 a5 : Int32} {st : St} {R : St → Prop} {ls : Array Slot}
    (C : Cx E L68 "PlankBridgeLaw" cL_law 9 p s m args c) (hNC : NC s) (hfl : l.stackTraces = false) (hX : va_X b0 n xs s s.heap) (hbl : b0 < s.heap.size) (hbA : ¬ fA E L68 s.heap.size b0)
    (hin1 : vp_in (i + 1) n) (hin2 : vp_in (i + 2) n) (hin3 : vp_in (i + 3) n) (hin4 : vp_in (i + 4) n) (hin5 : vp_in (i + 5) n) (ha1 : xs (i + 1).toNatClampNeg = a1) (ha2 : xs (i + 2).toNatClampNeg = a2) (ha3 : xs (i + 3).toNatClampNeg = a3) (ha4 : xs (i + 4).toNatClampNeg = a4) (ha5 : xs (i + 5).toNatClampNeg = a5)
    (hcs : cells + 12 ≤ 601024) (hss : slots + 3300 ≤ 7293034) (hl : lv_has ls 9 [(0, .ref b0), (1, .ref (E.2.1 0)), (2, .ref (E.2.1 54)), (3, .ref (E.2.1 67)), (4, .int i)]) (hP : va_P E.1 vwCl (wd E L68 st) H) (hS : va_S (fA E L68 s.heap.size) s.heap H locs) (h : wLc_18 a1 a2 a3 a4 a5 st R)
    (hk : ∀ (u : St) (H1 : Heap) (locs1 : List Loc) (ls1 : Array Slot) (c1 s1 : Nat), R u → c1 ≤ cells + 12 → s1 ≤ slots + 3300 → lv_has ls1 9 [(0, .ref b0), (1, .ref (E.2.1 0)), (2, .ref (E.2.1 54)), (3, .ref (E.2.1 67)), (4, .int i)] → va_P E.1 vwCl (wd E L68 u) H1 → va_S (fA E L68 s.heap.size) s.heap H1 locs1 → W p l e room_1 s m args below meth c H1 locs1 c1 s1 Q (F0 m 1914 ls1 [])) :
    W p l e room_1 s m args below meth c H locs cells slots Q (F0 m 930 ls []) := by
  have hL : Cov 0 68 L68 := fun c _ h2 => List.mem_range.mpr h2
  unfold wLc_18 at h
  refine lv_aload_n C.1 C.2.1 dL_law_930 rfl (lv_at hl 1 rfl) ?_
  refine z_ki hS (z_runV (As := []) (rest := []) C hP hS (hL 0 (Nat.le_of_ble_eq_true rfl) (Nat.le_of_ble_eq_true rfl)) (e8 (show kd 0 = 8 from rfl)) rfl (tX9_isLampNear C.2.2.2.2.2.2.1 (hL.mo (Nat.le_of_ble_eq_true rfl) (Nat.le_of_ble_eq_true rfl)) (show kd 0 = 8 from rfl) h) q738 q739 q740 q105 q741 hdX9_isLampNear ⟨(Nat.le_of_ble_eq_true rfl), (Nat.le_of_ble_eq_true rfl)⟩ ⟨lw_f0 hcs (Nat.le_of_ble_eq_true rfl), lw_f0 hss (Nat.le_of_ble_eq_true rfl)⟩ rfl hl.1 rfl (lv_room (Nat.le_of_ble_eq_true rfl)) dL_law_931) (fun r2 st1 H locs h hP hS => ?_)
  obtain ⟨hr2, h⟩ := h
  refine lv_aload_n C.1 C.2.1 dL_law_934 rfl (lv_at hl 2 rfl) ?_
  refine z_ki hS (z_runV (As := []) (rest := [.int r2]) C hP hS (hL 54 (Nat.le_of_ble_eq_true rfl) (Nat.le_of_ble_eq_true rfl)) (e11 (show kd 54 = 11 from rfl)) rfl (tX12_isLampNear C.2.2.2.2.2.2.1 (hL.mo (Nat.le_of_ble_eq_true rfl) (Nat.le_of_ble_eq_true rfl)) (show kd 54 = 11 from rfl) h) q1753 q1754 q1755 q116 q1756 hdX12_isLampNear ⟨(Nat.le_of_ble_eq_true rfl), (Nat.le_of_ble_eq_true rfl)⟩ ⟨lw_f1 hcs (Nat.le_of_ble_eq_true rfl), lw_f1 hss (Nat.le_of_ble_eq_true rfl)⟩ rfl hl.1 rfl (lv_room (Nat.le_of_ble_eq_true rfl)) dL_law_935) (fun r4 st3 H locs h hP hS => ?_)
  obtain ⟨hr4, h⟩ := h
  refine lv_icmp_eq C.1 C.2.1 (tgt := 1914) dL_law_938 (by decide) (fun hc => ?_) (fun hc => ?_)
  · have h := h.1 hc
    exact hk _ _ _ _ _ _ h (lw_g2 (Nat.le_of_ble_eq_true rfl)) (lw_g2 (Nat.le_of_ble_eq_true rfl)) hl hP hS
  · have h := h.2 hc
    exact h.elim
def wLc_19 (a1 a2 a3 a4 a5 : Int32) (st : St) (R : St → Prop) : Prop :=
  (wX9_oilLeft 0 st (fun r2 st1 => (wX12_oilLeft 54 st1 (fun r4 st3 => ((r2 = r4 → R st3) ∧ (¬ r2 = r4 → False))))))
set_option maxHeartbeats 4000000 in
set_option maxRecDepth 100000 in
theorem tLc_19 {p : Program} {l : Launch} {e : Env} {s : State} {m : MethodId} {args : Array Value} {below : List Frame} {meth : Method} {c : Code} {H : Heap} {locs : List Loc} {cells slots : Nat} {Q : State → Prop} {E : En0} {b0 n : Nat} {xs : Nat → Int32} {i a1 a2 a3 a4 a5 : Int32} {st : St} {R : St → Prop} {ls : Array Slot}
    (C : Cx E L68 "PlankBridgeLaw" cL_law 9 p s m args c) (hNC : NC s) (hfl : l.stackTraces = false) (hX : va_X b0 n xs s s.heap) (hbl : b0 < s.heap.size) (hbA : ¬ fA E L68 s.heap.size b0)
    (hin1 : vp_in (i + 1) n) (hin2 : vp_in (i + 2) n) (hin3 : vp_in (i + 3) n) (hin4 : vp_in (i + 4) n) (hin5 : vp_in (i + 5) n) (ha1 : xs (i + 1).toNatClampNeg = a1) (ha2 : xs (i + 2).toNatClampNeg = a2) (ha3 : xs (i + 3).toNatClampNeg = a3) (ha4 : xs (i + 4).toNatClampNeg = a4) (ha5 : xs (i + 5).toNatClampNeg = a5)
    (hcs : cells + 12 ≤ 601024) (hss : slots + 3300 ≤ 7293034) (hl : lv_has ls 9 [(0, .ref b0), (1, .ref (E.2.1 0)), (2, .ref (E.2.1 54)), (3, .ref (E.2.1 67)), (4, .int i)]) (hP : va_P E.1 vwCl (wd E L68 st) H) (hS : va_S (fA E L68 s.heap.size) s.heap H locs) (h : wLc_19 a1 a2 a3 a4 a5 st R)
    (hk : ∀ (u : St) (H1 : Heap) (locs1 : List Loc) (ls1 : Array Slot) (c1 s1 : Nat), R u → c1 ≤ cells + 12 → s1 ≤ slots + 3300 → lv_has ls1 9 [(0, .ref b0), (1, .ref (E.2.1 0)), (2, .ref (E.2.1 54)), (3, .ref (E.2.1 67)), (4, .int i)] → va_P E.1 vwCl (wd E L68 u) H1 → va_S (fA E L68 s.heap.size) s.heap H1 locs1 → W p l e room_1 s m args below meth c H1 locs1 c1 s1 Q (F0 m 1914 ls1 [])) :
    W p l e room_1 s m args below meth c H locs cells slots Q (F0 m 943 ls []) := by
  have hL : Cov 0 68 L68 := fun c _ h2 => List.mem_range.mpr h2
  unfold wLc_19 at h
  refine lv_aload_n C.1 C.2.1 dL_law_943 rfl (lv_at hl 1 rfl) ?_
  refine z_ki hS (z_runV (As := []) (rest := []) C hP hS (hL 0 (Nat.le_of_ble_eq_true rfl) (Nat.le_of_ble_eq_true rfl)) (e8 (show kd 0 = 8 from rfl)) rfl (tX9_oilLeft C.2.2.2.2.2.2.1 (hL.mo (Nat.le_of_ble_eq_true rfl) (Nat.le_of_ble_eq_true rfl)) (show kd 0 = 8 from rfl) h) q742 q743 q744 q105 q745 hdX9_oilLeft ⟨(Nat.le_of_ble_eq_true rfl), (Nat.le_of_ble_eq_true rfl)⟩ ⟨lw_f0 hcs (Nat.le_of_ble_eq_true rfl), lw_f0 hss (Nat.le_of_ble_eq_true rfl)⟩ rfl hl.1 rfl (lv_room (Nat.le_of_ble_eq_true rfl)) dL_law_944) (fun r2 st1 H locs h hP hS => ?_)
  refine lv_aload_n C.1 C.2.1 dL_law_947 rfl (lv_at hl 2 rfl) ?_
  refine z_ki hS (z_runV (As := []) (rest := [.int r2]) C hP hS (hL 54 (Nat.le_of_ble_eq_true rfl) (Nat.le_of_ble_eq_true rfl)) (e11 (show kd 54 = 11 from rfl)) rfl (tX12_oilLeft C.2.2.2.2.2.2.1 (hL.mo (Nat.le_of_ble_eq_true rfl) (Nat.le_of_ble_eq_true rfl)) (show kd 54 = 11 from rfl) h) q1757 q1758 q1759 q116 q1760 hdX12_oilLeft ⟨(Nat.le_of_ble_eq_true rfl), (Nat.le_of_ble_eq_true rfl)⟩ ⟨lw_f1 hcs (Nat.le_of_ble_eq_true rfl), lw_f1 hss (Nat.le_of_ble_eq_true rfl)⟩ rfl hl.1 rfl (lv_room (Nat.le_of_ble_eq_true rfl)) dL_law_948) (fun r4 st3 H locs h hP hS => ?_)
  refine lv_icmp_eq C.1 C.2.1 (tgt := 1914) dL_law_951 (by decide) (fun hc => ?_) (fun hc => ?_)
  · have h := h.1 hc
    exact hk _ _ _ _ _ _ h (lw_g2 (Nat.le_of_ble_eq_true rfl)) (lw_g2 (Nat.le_of_ble_eq_true rfl)) hl hP hS
  · have h := h.2 hc
    exact h.elim
def wLc_20 (a1 a2 a3 a4 a5 : Int32) (st : St) (R : St → Prop) : Prop :=
  (wX9_night 0 st (fun r2 st1 => (wX12_night 54 st1 (fun r4 st3 => ((r2 = r4 → R st3) ∧ (¬ r2 = r4 → False))))))
set_option maxHeartbeats 4000000 in
set_option maxRecDepth 100000 in
theorem tLc_20 {p : Program} {l : Launch} {e : Env} {s : State} {m : MethodId} {args : Array Value} {below : List Frame} {meth : Method} {c : Code} {H : Heap} {locs : List Loc} {cells slots : Nat} {Q : State → Prop} {E : En0} {b0 n : Nat} {xs : Nat → Int32} {i a1 a2 a3 a4 a5 : Int32} {st : St} {R : St → Prop} {ls : Array Slot}
    (C : Cx E L68 "PlankBridgeLaw" cL_law 9 p s m args c) (hNC : NC s) (hfl : l.stackTraces = false) (hX : va_X b0 n xs s s.heap) (hbl : b0 < s.heap.size) (hbA : ¬ fA E L68 s.heap.size b0)
    (hin1 : vp_in (i + 1) n) (hin2 : vp_in (i + 2) n) (hin3 : vp_in (i + 3) n) (hin4 : vp_in (i + 4) n) (hin5 : vp_in (i + 5) n) (ha1 : xs (i + 1).toNatClampNeg = a1) (ha2 : xs (i + 2).toNatClampNeg = a2) (ha3 : xs (i + 3).toNatClampNeg = a3) (ha4 : xs (i + 4).toNatClampNeg = a4) (ha5 : xs (i + 5).toNatClampNeg = a5)
    (hcs : cells + 12 ≤ 601024) (hss : slots + 3300 ≤ 7293034) (hl : lv_has ls 9 [(0, .ref b0), (1, .ref (E.2.1 0)), (2, .ref (E.2.1 54)), (3, .ref (E.2.1 67)), (4, .int i)]) (hP : va_P E.1 vwCl (wd E L68 st) H) (hS : va_S (fA E L68 s.heap.size) s.heap H locs) (h : wLc_20 a1 a2 a3 a4 a5 st R)
    (hk : ∀ (u : St) (H1 : Heap) (locs1 : List Loc) (ls1 : Array Slot) (c1 s1 : Nat), R u → c1 ≤ cells + 12 → s1 ≤ slots + 3300 → lv_has ls1 9 [(0, .ref b0), (1, .ref (E.2.1 0)), (2, .ref (E.2.1 54)), (3, .ref (E.2.1 67)), (4, .int i)] → va_P E.1 vwCl (wd E L68 u) H1 → va_S (fA E L68 s.heap.size) s.heap H1 locs1 → W p l e room_1 s m args below meth c H1 locs1 c1 s1 Q (F0 m 1914 ls1 [])) :
    W p l e room_1 s m args below meth c H locs cells slots Q (F0 m 956 ls []) := by
  have hL : Cov 0 68 L68 := fun c _ h2 => List.mem_range.mpr h2
  unfold wLc_20 at h
  refine lv_aload_n C.1 C.2.1 dL_law_956 rfl (lv_at hl 1 rfl) ?_
  refine z_ki hS (z_runV (As := []) (rest := []) C hP hS (hL 0 (Nat.le_of_ble_eq_true rfl) (Nat.le_of_ble_eq_true rfl)) (e8 (show kd 0 = 8 from rfl)) rfl (tX9_night C.2.2.2.2.2.2.1 (hL.mo (Nat.le_of_ble_eq_true rfl) (Nat.le_of_ble_eq_true rfl)) (show kd 0 = 8 from rfl) h) q746 q747 q748 q105 q749 hdX9_night ⟨(Nat.le_of_ble_eq_true rfl), (Nat.le_of_ble_eq_true rfl)⟩ ⟨lw_f0 hcs (Nat.le_of_ble_eq_true rfl), lw_f0 hss (Nat.le_of_ble_eq_true rfl)⟩ rfl hl.1 rfl (lv_room (Nat.le_of_ble_eq_true rfl)) dL_law_957) (fun r2 st1 H locs h hP hS => ?_)
  refine lv_aload_n C.1 C.2.1 dL_law_960 rfl (lv_at hl 2 rfl) ?_
  refine z_ki hS (z_runV (As := []) (rest := [.int r2]) C hP hS (hL 54 (Nat.le_of_ble_eq_true rfl) (Nat.le_of_ble_eq_true rfl)) (e11 (show kd 54 = 11 from rfl)) rfl (tX12_night C.2.2.2.2.2.2.1 (hL.mo (Nat.le_of_ble_eq_true rfl) (Nat.le_of_ble_eq_true rfl)) (show kd 54 = 11 from rfl) h) q1761 q1762 q1763 q116 q1764 hdX12_night ⟨(Nat.le_of_ble_eq_true rfl), (Nat.le_of_ble_eq_true rfl)⟩ ⟨lw_f1 hcs (Nat.le_of_ble_eq_true rfl), lw_f1 hss (Nat.le_of_ble_eq_true rfl)⟩ rfl hl.1 rfl (lv_room (Nat.le_of_ble_eq_true rfl)) dL_law_961) (fun r4 st3 H locs h hP hS => ?_)
  refine lv_icmp_eq C.1 C.2.1 (tgt := 1914) dL_law_964 (by decide) (fun hc => ?_) (fun hc => ?_)
  · have h := h.1 hc
    exact hk _ _ _ _ _ _ h (lw_g2 (Nat.le_of_ble_eq_true rfl)) (lw_g2 (Nat.le_of_ble_eq_true rfl)) hl hP hS
  · have h := h.2 hc
    exact h.elim
def wLc_21 (a1 a2 a3 a4 a5 : Int32) (st : St) (R : St → Prop) : Prop :=
  (wX9_minute 0 st (fun r2 st1 => (wX12_minute 54 st1 (fun r4 st3 => ((r2 = r4 → R st3) ∧ (¬ r2 = r4 → False))))))
set_option maxHeartbeats 4000000 in
set_option maxRecDepth 100000 in
theorem tLc_21 {p : Program} {l : Launch} {e : Env} {s : State} {m : MethodId} {args : Array Value} {below : List Frame} {meth : Method} {c : Code} {H : Heap} {locs : List Loc} {cells slots : Nat} {Q : State → Prop} {E : En0} {b0 n : Nat} {xs : Nat → Int32} {i a1 a2 a3 a4 a5 : Int32} {st : St} {R : St → Prop} {ls : Array Slot}
    (C : Cx E L68 "PlankBridgeLaw" cL_law 9 p s m args c) (hNC : NC s) (hfl : l.stackTraces = false) (hX : va_X b0 n xs s s.heap) (hbl : b0 < s.heap.size) (hbA : ¬ fA E L68 s.heap.size b0)
    (hin1 : vp_in (i + 1) n) (hin2 : vp_in (i + 2) n) (hin3 : vp_in (i + 3) n) (hin4 : vp_in (i + 4) n) (hin5 : vp_in (i + 5) n) (ha1 : xs (i + 1).toNatClampNeg = a1) (ha2 : xs (i + 2).toNatClampNeg = a2) (ha3 : xs (i + 3).toNatClampNeg = a3) (ha4 : xs (i + 4).toNatClampNeg = a4) (ha5 : xs (i + 5).toNatClampNeg = a5)
    (hcs : cells + 12 ≤ 601024) (hss : slots + 3300 ≤ 7293034) (hl : lv_has ls 9 [(0, .ref b0), (1, .ref (E.2.1 0)), (2, .ref (E.2.1 54)), (3, .ref (E.2.1 67)), (4, .int i)]) (hP : va_P E.1 vwCl (wd E L68 st) H) (hS : va_S (fA E L68 s.heap.size) s.heap H locs) (h : wLc_21 a1 a2 a3 a4 a5 st R)
    (hk : ∀ (u : St) (H1 : Heap) (locs1 : List Loc) (ls1 : Array Slot) (c1 s1 : Nat), R u → c1 ≤ cells + 12 → s1 ≤ slots + 3300 → lv_has ls1 9 [(0, .ref b0), (1, .ref (E.2.1 0)), (2, .ref (E.2.1 54)), (3, .ref (E.2.1 67)), (4, .int i)] → va_P E.1 vwCl (wd E L68 u) H1 → va_S (fA E L68 s.heap.size) s.heap H1 locs1 → W p l e room_1 s m args below meth c H1 locs1 c1 s1 Q (F0 m 1914 ls1 [])) :
    W p l e room_1 s m args below meth c H locs cells slots Q (F0 m 969 ls []) := by
  have hL : Cov 0 68 L68 := fun c _ h2 => List.mem_range.mpr h2
  unfold wLc_21 at h
  refine lv_aload_n C.1 C.2.1 dL_law_969 rfl (lv_at hl 1 rfl) ?_
  refine z_ki hS (z_runV (As := []) (rest := []) C hP hS (hL 0 (Nat.le_of_ble_eq_true rfl) (Nat.le_of_ble_eq_true rfl)) (e8 (show kd 0 = 8 from rfl)) rfl (tX9_minute C.2.2.2.2.2.2.1 (hL.mo (Nat.le_of_ble_eq_true rfl) (Nat.le_of_ble_eq_true rfl)) (show kd 0 = 8 from rfl) h) q750 q751 q752 q105 q753 hdX9_minute ⟨(Nat.le_of_ble_eq_true rfl), (Nat.le_of_ble_eq_true rfl)⟩ ⟨lw_f0 hcs (Nat.le_of_ble_eq_true rfl), lw_f0 hss (Nat.le_of_ble_eq_true rfl)⟩ rfl hl.1 rfl (lv_room (Nat.le_of_ble_eq_true rfl)) dL_law_970) (fun r2 st1 H locs h hP hS => ?_)
  refine lv_aload_n C.1 C.2.1 dL_law_973 rfl (lv_at hl 2 rfl) ?_
  refine z_ki hS (z_runV (As := []) (rest := [.int r2]) C hP hS (hL 54 (Nat.le_of_ble_eq_true rfl) (Nat.le_of_ble_eq_true rfl)) (e11 (show kd 54 = 11 from rfl)) rfl (tX12_minute C.2.2.2.2.2.2.1 (hL.mo (Nat.le_of_ble_eq_true rfl) (Nat.le_of_ble_eq_true rfl)) (show kd 54 = 11 from rfl) h) q1765 q1766 q1767 q116 q1768 hdX12_minute ⟨(Nat.le_of_ble_eq_true rfl), (Nat.le_of_ble_eq_true rfl)⟩ ⟨lw_f1 hcs (Nat.le_of_ble_eq_true rfl), lw_f1 hss (Nat.le_of_ble_eq_true rfl)⟩ rfl hl.1 rfl (lv_room (Nat.le_of_ble_eq_true rfl)) dL_law_974) (fun r4 st3 H locs h hP hS => ?_)
  refine lv_icmp_eq C.1 C.2.1 (tgt := 1914) dL_law_977 (by decide) (fun hc => ?_) (fun hc => ?_)
  · have h := h.1 hc
    exact hk _ _ _ _ _ _ h (lw_g2 (Nat.le_of_ble_eq_true rfl)) (lw_g2 (Nat.le_of_ble_eq_true rfl)) hl hP hS
  · have h := h.2 hc
    exact h.elim
def wLc_22 (a1 a2 a3 a4 a5 : Int32) (st : St) (R : St → Prop) : Prop :=
  (wX9_isWeakNight 0 st (fun r2 st1 => (wX12_isWeakNight 54 st1 (fun r4 st3 => ((r2 = r4 → R st3) ∧ (¬ r2 = r4 → False))))))
set_option maxHeartbeats 4000000 in
set_option maxRecDepth 100000 in
theorem tLc_22 {p : Program} {l : Launch} {e : Env} {s : State} {m : MethodId} {args : Array Value} {below : List Frame} {meth : Method} {c : Code} {H : Heap} {locs : List Loc} {cells slots : Nat} {Q : State → Prop} {E : En0} {b0 n : Nat} {xs : Nat → Int32} {i a1 a2 a3 a4 a5 : Int32} {st : St} {R : St → Prop} {ls : Array Slot}
    (C : Cx E L68 "PlankBridgeLaw" cL_law 9 p s m args c) (hNC : NC s) (hfl : l.stackTraces = false) (hX : va_X b0 n xs s s.heap) (hbl : b0 < s.heap.size) (hbA : ¬ fA E L68 s.heap.size b0)
    (hin1 : vp_in (i + 1) n) (hin2 : vp_in (i + 2) n) (hin3 : vp_in (i + 3) n) (hin4 : vp_in (i + 4) n) (hin5 : vp_in (i + 5) n) (ha1 : xs (i + 1).toNatClampNeg = a1) (ha2 : xs (i + 2).toNatClampNeg = a2) (ha3 : xs (i + 3).toNatClampNeg = a3) (ha4 : xs (i + 4).toNatClampNeg = a4) (ha5 : xs (i + 5).toNatClampNeg = a5)
    (hcs : cells + 12 ≤ 601024) (hss : slots + 3300 ≤ 7293034) (hl : lv_has ls 9 [(0, .ref b0), (1, .ref (E.2.1 0)), (2, .ref (E.2.1 54)), (3, .ref (E.2.1 67)), (4, .int i)]) (hP : va_P E.1 vwCl (wd E L68 st) H) (hS : va_S (fA E L68 s.heap.size) s.heap H locs) (h : wLc_22 a1 a2 a3 a4 a5 st R)
    (hk : ∀ (u : St) (H1 : Heap) (locs1 : List Loc) (ls1 : Array Slot) (c1 s1 : Nat), R u → c1 ≤ cells + 12 → s1 ≤ slots + 3300 → lv_has ls1 9 [(0, .ref b0), (1, .ref (E.2.1 0)), (2, .ref (E.2.1 54)), (3, .ref (E.2.1 67)), (4, .int i)] → va_P E.1 vwCl (wd E L68 u) H1 → va_S (fA E L68 s.heap.size) s.heap H1 locs1 → W p l e room_1 s m args below meth c H1 locs1 c1 s1 Q (F0 m 1914 ls1 [])) :
    W p l e room_1 s m args below meth c H locs cells slots Q (F0 m 982 ls []) := by
  have hL : Cov 0 68 L68 := fun c _ h2 => List.mem_range.mpr h2
  unfold wLc_22 at h
  refine lv_aload_n C.1 C.2.1 dL_law_982 rfl (lv_at hl 1 rfl) ?_
  refine z_ki hS (z_runV (As := []) (rest := []) C hP hS (hL 0 (Nat.le_of_ble_eq_true rfl) (Nat.le_of_ble_eq_true rfl)) (e8 (show kd 0 = 8 from rfl)) rfl (tX9_isWeakNight C.2.2.2.2.2.2.1 (hL.mo (Nat.le_of_ble_eq_true rfl) (Nat.le_of_ble_eq_true rfl)) (show kd 0 = 8 from rfl) h) q754 q755 q756 q105 q757 hdX9_isWeakNight ⟨(Nat.le_of_ble_eq_true rfl), (Nat.le_of_ble_eq_true rfl)⟩ ⟨lw_f0 hcs (Nat.le_of_ble_eq_true rfl), lw_f0 hss (Nat.le_of_ble_eq_true rfl)⟩ rfl hl.1 rfl (lv_room (Nat.le_of_ble_eq_true rfl)) dL_law_983) (fun r2 st1 H locs h hP hS => ?_)
  obtain ⟨hr2, h⟩ := h
  refine lv_aload_n C.1 C.2.1 dL_law_986 rfl (lv_at hl 2 rfl) ?_
  refine z_ki hS (z_runV (As := []) (rest := [.int r2]) C hP hS (hL 54 (Nat.le_of_ble_eq_true rfl) (Nat.le_of_ble_eq_true rfl)) (e11 (show kd 54 = 11 from rfl)) rfl (tX12_isWeakNight C.2.2.2.2.2.2.1 (hL.mo (Nat.le_of_ble_eq_true rfl) (Nat.le_of_ble_eq_true rfl)) (show kd 54 = 11 from rfl) h) q1769 q1770 q1771 q116 q1772 hdX12_isWeakNight ⟨(Nat.le_of_ble_eq_true rfl), (Nat.le_of_ble_eq_true rfl)⟩ ⟨lw_f1 hcs (Nat.le_of_ble_eq_true rfl), lw_f1 hss (Nat.le_of_ble_eq_true rfl)⟩ rfl hl.1 rfl (lv_room (Nat.le_of_ble_eq_true rfl)) dL_law_987) (fun r4 st3 H locs h hP hS => ?_)
  obtain ⟨hr4, h⟩ := h
  refine lv_icmp_eq C.1 C.2.1 (tgt := 1914) dL_law_990 (by decide) (fun hc => ?_) (fun hc => ?_)
  · have h := h.1 hc
    exact hk _ _ _ _ _ _ h (lw_g2 (Nat.le_of_ble_eq_true rfl)) (lw_g2 (Nat.le_of_ble_eq_true rfl)) hl hP hS
  · have h := h.2 hc
    exact h.elim
def wLc_23 (a1 a2 a3 a4 a5 : Int32) (st : St) (R : St → Prop) : Prop :=
  (wL_crossAlone 0 a1 67 st (fun r2 st1 => (wX12_crossAlone 54 a1 st1 (fun r4 st3 => (wX12_thrown 54 st3 (fun r6 st5 => ((r6 = r2 → ((¬ r2 = 0 → R st5) ∧ (r2 = 0 → (vp_in 0 1 ∧ ((r4 = 0 → (((lg_cmp (gJ st5 67 (0 : Int32).toNatClampNeg) 0) = 0 → R st5) ∧ (¬ (lg_cmp (gJ st5 67 (0 : Int32).toNatClampNeg) 0) = 0 → False))) ∧ (¬ r4 = 0 → (((lg_cmp (gJ st5 67 (0 : Int32).toNatClampNeg) 1) = 0 → R st5) ∧ (¬ (lg_cmp (gJ st5 67 (0 : Int32).toNatClampNeg) 1) = 0 → False)))))))) ∧ (¬ r6 = r2 → False))))))))
set_option maxHeartbeats 4000000 in
set_option maxRecDepth 100000 in
theorem tLc_23 {p : Program} {l : Launch} {e : Env} {s : State} {m : MethodId} {args : Array Value} {below : List Frame} {meth : Method} {c : Code} {H : Heap} {locs : List Loc} {cells slots : Nat} {Q : State → Prop} {E : En0} {b0 n : Nat} {xs : Nat → Int32} {i a1 a2 a3 a4 a5 : Int32} {st : St} {R : St → Prop} {ls : Array Slot}
    (C : Cx E L68 "PlankBridgeLaw" cL_law 9 p s m args c) (hNC : NC s) (hfl : l.stackTraces = false) (hX : va_X b0 n xs s s.heap) (hbl : b0 < s.heap.size) (hbA : ¬ fA E L68 s.heap.size b0)
    (hin1 : vp_in (i + 1) n) (hin2 : vp_in (i + 2) n) (hin3 : vp_in (i + 3) n) (hin4 : vp_in (i + 4) n) (hin5 : vp_in (i + 5) n) (ha1 : xs (i + 1).toNatClampNeg = a1) (ha2 : xs (i + 2).toNatClampNeg = a2) (ha3 : xs (i + 3).toNatClampNeg = a3) (ha4 : xs (i + 4).toNatClampNeg = a4) (ha5 : xs (i + 5).toNatClampNeg = a5)
    (hcs : cells + 12 ≤ 601024) (hss : slots + 3300 ≤ 7293034) (hl : lv_has ls 9 [(0, .ref b0), (1, .ref (E.2.1 0)), (2, .ref (E.2.1 54)), (3, .ref (E.2.1 67)), (4, .int i)]) (hP : va_P E.1 vwCl (wd E L68 st) H) (hS : va_S (fA E L68 s.heap.size) s.heap H locs) (h : wLc_23 a1 a2 a3 a4 a5 st R)
    (hk : ∀ (u : St) (H1 : Heap) (locs1 : List Loc) (ls1 : Array Slot) (c1 s1 : Nat), R u → c1 ≤ cells + 12 → s1 ≤ slots + 3300 → lv_has ls1 9 [(0, .ref b0), (1, .ref (E.2.1 0)), (2, .ref (E.2.1 54)), (3, .ref (E.2.1 67)), (4, .int i)] → va_P E.1 vwCl (wd E L68 u) H1 → va_S (fA E L68 s.heap.size) s.heap H1 locs1 → W p l e room_1 s m args below meth c H1 locs1 c1 s1 Q (F0 m 1914 ls1 [])) :
    W p l e room_1 s m args below meth c H locs cells slots Q (F0 m 995 ls []) := by
  have hL : Cov 0 68 L68 := fun c _ h2 => List.mem_range.mpr h2
  unfold wLc_23 at h
  refine lv_aload_n C.1 C.2.1 dL_law_995 rfl (lv_at hl 1 rfl) ?_
  refine lv_aload_n C.1 C.2.1 dL_law_996 rfl (lv_at hl 0 rfl) ?_
  refine lv_iload C.1 C.2.1 dL_law_997 (lv_at hl 4 rfl) ?_
  refine lv_iconst C.1 C.2.1 (v := 1) dL_law_999 rfl ?_
  refine lv_iadd C.1 C.2.1 dL_law_1000  ?_
  refine law_sld C hX hbl hbA hS hin1 ha1 dL_law_1001 ?_
  refine lv_aload_n C.1 C.2.1 dL_law_1002 rfl (lv_at hl 3 rfl) ?_
  refine z_ki hS (z_runSW (As := [.ref (E.2.1 0), .int a1, .ref (E.2.1 67)]) (rest := []) C hNC hP hS (tL_crossAlone C.2.2.2.2.2.2.1 hL (show kd 0 = 8 from rfl) (show kd 67 = 23 from rfl) (show ln 67 = 1 from rfl) (hL 67 (Nat.le_of_ble_eq_true rfl) (Nat.le_of_ble_eq_true rfl)) hfl h) q1043 q1044 q104 q1045 hdL_crossAlone ⟨(Nat.le_of_ble_eq_true rfl), (Nat.le_of_ble_eq_true rfl)⟩ ⟨lw_f0 hcs (Nat.le_of_ble_eq_true rfl), lw_f0 hss (Nat.le_of_ble_eq_true rfl)⟩ rfl hl.1 rfl (lv_room (Nat.le_of_ble_eq_true rfl)) dL_law_1003) (fun r2 st1 H locs h hP hS => ?_)
  refine lv_istore C.1 C.2.1 dL_law_1006 hl (Nat.le_of_ble_eq_true rfl) rfl (fun ls hl => ?_)
  have hl : lv_has ls 9 [(5, .int r2), (0, .ref b0), (1, .ref (E.2.1 0)), (2, .ref (E.2.1 54)), (3, .ref (E.2.1 67)), (4, .int i)] := hl
  refine lv_aload_n C.1 C.2.1 dL_law_1008 rfl (lv_at hl 3 rfl) ?_
  refine lv_aload_n C.1 C.2.1 dL_law_1009 rfl (lv_at hl 1 rfl) ?_
  refine lv_iload C.1 C.2.1 dL_law_1010 (lv_at hl 5 rfl) ?_
  refine lv_iconst C.1 C.2.1 (v := 1) dL_law_1012 rfl ?_
  refine lv_iadd C.1 C.2.1 dL_law_1013  ?_
  refine law_sld C hX hbl hbA hS hin1 ha1 dL_law_1014 ?_
  refine z_ki hS (z_runV (As := [.int a1]) (rest := []) C hP hS (hL 54 (Nat.le_of_ble_eq_true rfl) (Nat.le_of_ble_eq_true rfl)) (e11 (show kd 54 = 11 from rfl)) rfl (tX12_crossAlone C.2.2.2.2.2.2.1 (hL.mo (Nat.le_of_ble_eq_true rfl) (Nat.le_of_ble_eq_true rfl)) (show kd 54 = 11 from rfl) h) q1773 q1774 q1775 q116 q1776 hdX12_crossAlone ⟨(Nat.le_of_ble_eq_true rfl), (Nat.le_of_ble_eq_true rfl)⟩ ⟨lw_f1 hcs (Nat.le_of_ble_eq_true rfl), lw_f1 hss (Nat.le_of_ble_eq_true rfl)⟩ rfl hl.1 rfl (lv_room (Nat.le_of_ble_eq_true rfl)) dL_law_1015) (fun r4 st3 H locs h hP hS => ?_)
  obtain ⟨hr4, h⟩ := h
  refine lv_istore C.1 C.2.1 dL_law_1018 hl (Nat.le_of_ble_eq_true rfl) rfl (fun ls hl => ?_)
  have hl : lv_has ls 9 [(6, .int r4), (5, .int r2), (0, .ref b0), (1, .ref (E.2.1 0)), (2, .ref (E.2.1 54)), (3, .ref (E.2.1 67)), (4, .int i)] := hl
  refine lv_aload_n C.1 C.2.1 dL_law_1020 rfl (lv_at hl 4 rfl) ?_
  refine z_ki hS (z_runV (As := []) (rest := []) C hP hS (hL 54 (Nat.le_of_ble_eq_true rfl) (Nat.le_of_ble_eq_true rfl)) (e11 (show kd 54 = 11 from rfl)) rfl (tX12_thrown C.2.2.2.2.2.2.1 (hL.mo (Nat.le_of_ble_eq_true rfl) (Nat.le_of_ble_eq_true rfl)) (show kd 54 = 11 from rfl) h) q1407 q1408 q1409 q116 q1410 hdX12_thrown ⟨(Nat.le_of_ble_eq_true rfl), (Nat.le_of_ble_eq_true rfl)⟩ ⟨lw_f2 hcs (Nat.le_of_ble_eq_true rfl), lw_f2 hss (Nat.le_of_ble_eq_true rfl)⟩ rfl hl.1 rfl (lv_room (Nat.le_of_ble_eq_true rfl)) dL_law_1021) (fun r6 st5 H locs h hP hS => ?_)
  refine lv_iload C.1 C.2.1 dL_law_1024 (lv_at hl 1 rfl) ?_
  refine lv_icmp_eq C.1 C.2.1 (tgt := 1031) dL_law_1026 (by decide) (fun hc => ?_) (fun hc => ?_)
  · have h := h.1 hc
    refine lv_iload C.1 C.2.1 dL_law_1031 (lv_at hl 1 rfl) ?_
    refine lv_if_ne C.1 C.2.1 (tgt := 1055) dL_law_1033 (by decide) (fun hc => ?_) (fun hc => ?_)
    · have h := h.1 hc
      refine lv_goto C.1 C.2.1 (tgt := 1914) dL_law_1055 (by decide) ?_
      exact hk _ _ _ _ _ _ h (lw_g3 (Nat.le_of_ble_eq_true rfl)) (lw_g3 (Nat.le_of_ble_eq_true rfl)) (lv_sub hl [2, 3, 4, 5, 6] rfl) hP hS
    · have h := h.2 hc
      refine lv_aload_n C.1 C.2.1 dL_law_1036 rfl (lv_at hl 5 rfl) ?_
      refine lv_iconst C.1 C.2.1 (v := 0) dL_law_1037 rfl ?_
      obtain ⟨hi, h⟩ := h
      refine z_lald C hP (show kd 67 = 23 from rfl) (show ln 67 = 1 from rfl) (hL 67 (Nat.le_of_ble_eq_true rfl) (Nat.le_of_ble_eq_true rfl)) hi dL_law_1038 ?_
      refine lv_iload C.1 C.2.1 dL_law_1039 (lv_at hl 0 rfl) ?_
      refine lv_if_eq C.1 C.2.1 (tgt := 1048) dL_law_1041 (by decide) (fun hc => ?_) (fun hc => ?_)
      · have h := h.1 hc
        refine lv_lconst C.1 C.2.1 (v := 0) dL_law_1048 rfl ?_
        refine W.lcmp C.1 C.2.1 dL_law_1049 ?_
        refine lv_if_eq C.1 C.2.1 (tgt := 1055) dL_law_1050 (by decide) (fun hc => ?_) (fun hc => ?_)
        · have h := h.1 hc
          refine lv_goto C.1 C.2.1 (tgt := 1914) dL_law_1055 (by decide) ?_
          exact hk _ _ _ _ _ _ h (lw_g3 (Nat.le_of_ble_eq_true rfl)) (lw_g3 (Nat.le_of_ble_eq_true rfl)) (lv_sub hl [2, 3, 4, 5, 6] rfl) hP hS
        · have h := h.2 hc
          exact h.elim
      · have h := h.2 hc
        refine lv_lconst C.1 C.2.1 (v := 1) dL_law_1044 rfl ?_
        refine lv_goto C.1 C.2.1 (tgt := 1049) dL_law_1045 (by decide) ?_
        refine W.lcmp C.1 C.2.1 dL_law_1049 ?_
        refine lv_if_eq C.1 C.2.1 (tgt := 1055) dL_law_1050 (by decide) (fun hc => ?_) (fun hc => ?_)
        · have h := h.1 hc
          refine lv_goto C.1 C.2.1 (tgt := 1914) dL_law_1055 (by decide) ?_
          exact hk _ _ _ _ _ _ h (lw_g3 (Nat.le_of_ble_eq_true rfl)) (lw_g3 (Nat.le_of_ble_eq_true rfl)) (lv_sub hl [2, 3, 4, 5, 6] rfl) hP hS
        · have h := h.2 hc
          exact h.elim
  · have h := h.2 hc
    exact h.elim
def wLc_24 (a1 a2 a3 a4 a5 : Int32) (st : St) (R : St → Prop) : Prop :=
  (wL_crossTogether 0 a1 a2 67 st (fun r2 st1 => (wX12_crossTogether 54 a1 a2 st1 (fun r4 st3 => (wX12_thrown 54 st3 (fun r6 st5 => ((r6 = r2 → ((¬ r2 = 0 → R st5) ∧ (r2 = 0 → (vp_in 0 1 ∧ ((r4 = 0 → (((lg_cmp (gJ st5 67 (0 : Int32).toNatClampNeg) 0) = 0 → R st5) ∧ (¬ (lg_cmp (gJ st5 67 (0 : Int32).toNatClampNeg) 0) = 0 → False))) ∧ (¬ r4 = 0 → (((lg_cmp (gJ st5 67 (0 : Int32).toNatClampNeg) 1) = 0 → R st5) ∧ (¬ (lg_cmp (gJ st5 67 (0 : Int32).toNatClampNeg) 1) = 0 → False)))))))) ∧ (¬ r6 = r2 → False))))))))
set_option maxHeartbeats 4000000 in
set_option maxRecDepth 100000 in
theorem tLc_24 {p : Program} {l : Launch} {e : Env} {s : State} {m : MethodId} {args : Array Value} {below : List Frame} {meth : Method} {c : Code} {H : Heap} {locs : List Loc} {cells slots : Nat} {Q : State → Prop} {E : En0} {b0 n : Nat} {xs : Nat → Int32} {i a1 a2 a3 a4 a5 : Int32} {st : St} {R : St → Prop} {ls : Array Slot}
    (C : Cx E L68 "PlankBridgeLaw" cL_law 9 p s m args c) (hNC : NC s) (hfl : l.stackTraces = false) (hX : va_X b0 n xs s s.heap) (hbl : b0 < s.heap.size) (hbA : ¬ fA E L68 s.heap.size b0)
    (hin1 : vp_in (i + 1) n) (hin2 : vp_in (i + 2) n) (hin3 : vp_in (i + 3) n) (hin4 : vp_in (i + 4) n) (hin5 : vp_in (i + 5) n) (ha1 : xs (i + 1).toNatClampNeg = a1) (ha2 : xs (i + 2).toNatClampNeg = a2) (ha3 : xs (i + 3).toNatClampNeg = a3) (ha4 : xs (i + 4).toNatClampNeg = a4) (ha5 : xs (i + 5).toNatClampNeg = a5)
    (hcs : cells + 12 ≤ 601024) (hss : slots + 3300 ≤ 7293034) (hl : lv_has ls 9 [(0, .ref b0), (1, .ref (E.2.1 0)), (2, .ref (E.2.1 54)), (3, .ref (E.2.1 67)), (4, .int i)]) (hP : va_P E.1 vwCl (wd E L68 st) H) (hS : va_S (fA E L68 s.heap.size) s.heap H locs) (h : wLc_24 a1 a2 a3 a4 a5 st R)
    (hk : ∀ (u : St) (H1 : Heap) (locs1 : List Loc) (ls1 : Array Slot) (c1 s1 : Nat), R u → c1 ≤ cells + 12 → s1 ≤ slots + 3300 → lv_has ls1 9 [(0, .ref b0), (1, .ref (E.2.1 0)), (2, .ref (E.2.1 54)), (3, .ref (E.2.1 67)), (4, .int i)] → va_P E.1 vwCl (wd E L68 u) H1 → va_S (fA E L68 s.heap.size) s.heap H1 locs1 → W p l e room_1 s m args below meth c H1 locs1 c1 s1 Q (F0 m 1914 ls1 [])) :
    W p l e room_1 s m args below meth c H locs cells slots Q (F0 m 1058 ls []) := by
  have hL : Cov 0 68 L68 := fun c _ h2 => List.mem_range.mpr h2
  unfold wLc_24 at h
  refine lv_aload_n C.1 C.2.1 dL_law_1058 rfl (lv_at hl 1 rfl) ?_
  refine lv_aload_n C.1 C.2.1 dL_law_1059 rfl (lv_at hl 0 rfl) ?_
  refine lv_iload C.1 C.2.1 dL_law_1060 (lv_at hl 4 rfl) ?_
  refine lv_iconst C.1 C.2.1 (v := 1) dL_law_1062 rfl ?_
  refine lv_iadd C.1 C.2.1 dL_law_1063  ?_
  refine law_sld C hX hbl hbA hS hin1 ha1 dL_law_1064 ?_
  refine lv_aload_n C.1 C.2.1 dL_law_1065 rfl (lv_at hl 0 rfl) ?_
  refine lv_iload C.1 C.2.1 dL_law_1066 (lv_at hl 4 rfl) ?_
  refine lv_iconst C.1 C.2.1 (v := 2) dL_law_1068 rfl ?_
  refine lv_iadd C.1 C.2.1 dL_law_1069  ?_
  refine law_sld C hX hbl hbA hS hin2 ha2 dL_law_1070 ?_
  refine lv_aload_n C.1 C.2.1 dL_law_1071 rfl (lv_at hl 3 rfl) ?_
  refine z_ki hS (z_runSW (As := [.ref (E.2.1 0), .int a1, .int a2, .ref (E.2.1 67)]) (rest := []) C hNC hP hS (tL_crossTogether C.2.2.2.2.2.2.1 hL (show kd 0 = 8 from rfl) (show kd 67 = 23 from rfl) (show ln 67 = 1 from rfl) (hL 67 (Nat.le_of_ble_eq_true rfl) (Nat.le_of_ble_eq_true rfl)) hfl h) q1088 q1089 q104 q1090 hdL_crossTogether ⟨(Nat.le_of_ble_eq_true rfl), (Nat.le_of_ble_eq_true rfl)⟩ ⟨lw_f0 hcs (Nat.le_of_ble_eq_true rfl), lw_f0 hss (Nat.le_of_ble_eq_true rfl)⟩ rfl hl.1 rfl (lv_room (Nat.le_of_ble_eq_true rfl)) dL_law_1072) (fun r2 st1 H locs h hP hS => ?_)
  refine lv_istore C.1 C.2.1 dL_law_1075 hl (Nat.le_of_ble_eq_true rfl) rfl (fun ls hl => ?_)
  have hl : lv_has ls 9 [(5, .int r2), (0, .ref b0), (1, .ref (E.2.1 0)), (2, .ref (E.2.1 54)), (3, .ref (E.2.1 67)), (4, .int i)] := hl
  refine lv_aload_n C.1 C.2.1 dL_law_1077 rfl (lv_at hl 3 rfl) ?_
  refine lv_aload_n C.1 C.2.1 dL_law_1078 rfl (lv_at hl 1 rfl) ?_
  refine lv_iload C.1 C.2.1 dL_law_1079 (lv_at hl 5 rfl) ?_
  refine lv_iconst C.1 C.2.1 (v := 1) dL_law_1081 rfl ?_
  refine lv_iadd C.1 C.2.1 dL_law_1082  ?_
  refine law_sld C hX hbl hbA hS hin1 ha1 dL_law_1083 ?_
  refine lv_aload_n C.1 C.2.1 dL_law_1084 rfl (lv_at hl 1 rfl) ?_
  refine lv_iload C.1 C.2.1 dL_law_1085 (lv_at hl 5 rfl) ?_
  refine lv_iconst C.1 C.2.1 (v := 2) dL_law_1087 rfl ?_
  refine lv_iadd C.1 C.2.1 dL_law_1088  ?_
  refine law_sld C hX hbl hbA hS hin2 ha2 dL_law_1089 ?_
  refine z_ki hS (z_runV (As := [.int a1, .int a2]) (rest := []) C hP hS (hL 54 (Nat.le_of_ble_eq_true rfl) (Nat.le_of_ble_eq_true rfl)) (e11 (show kd 54 = 11 from rfl)) rfl (tX12_crossTogether C.2.2.2.2.2.2.1 (hL.mo (Nat.le_of_ble_eq_true rfl) (Nat.le_of_ble_eq_true rfl)) (show kd 54 = 11 from rfl) h) q1805 q1806 q1807 q116 q1808 hdX12_crossTogether ⟨(Nat.le_of_ble_eq_true rfl), (Nat.le_of_ble_eq_true rfl)⟩ ⟨lw_f1 hcs (Nat.le_of_ble_eq_true rfl), lw_f1 hss (Nat.le_of_ble_eq_true rfl)⟩ rfl hl.1 rfl (lv_room (Nat.le_of_ble_eq_true rfl)) dL_law_1090) (fun r4 st3 H locs h hP hS => ?_)
  obtain ⟨hr4, h⟩ := h
  refine lv_istore C.1 C.2.1 dL_law_1093 hl (Nat.le_of_ble_eq_true rfl) rfl (fun ls hl => ?_)
  have hl : lv_has ls 9 [(6, .int r4), (5, .int r2), (0, .ref b0), (1, .ref (E.2.1 0)), (2, .ref (E.2.1 54)), (3, .ref (E.2.1 67)), (4, .int i)] := hl
  refine lv_aload_n C.1 C.2.1 dL_law_1095 rfl (lv_at hl 4 rfl) ?_
  refine z_ki hS (z_runV (As := []) (rest := []) C hP hS (hL 54 (Nat.le_of_ble_eq_true rfl) (Nat.le_of_ble_eq_true rfl)) (e11 (show kd 54 = 11 from rfl)) rfl (tX12_thrown C.2.2.2.2.2.2.1 (hL.mo (Nat.le_of_ble_eq_true rfl) (Nat.le_of_ble_eq_true rfl)) (show kd 54 = 11 from rfl) h) q1407 q1408 q1409 q116 q1410 hdX12_thrown ⟨(Nat.le_of_ble_eq_true rfl), (Nat.le_of_ble_eq_true rfl)⟩ ⟨lw_f2 hcs (Nat.le_of_ble_eq_true rfl), lw_f2 hss (Nat.le_of_ble_eq_true rfl)⟩ rfl hl.1 rfl (lv_room (Nat.le_of_ble_eq_true rfl)) dL_law_1096) (fun r6 st5 H locs h hP hS => ?_)
  refine lv_iload C.1 C.2.1 dL_law_1099 (lv_at hl 1 rfl) ?_
  refine lv_icmp_eq C.1 C.2.1 (tgt := 1106) dL_law_1101 (by decide) (fun hc => ?_) (fun hc => ?_)
  · have h := h.1 hc
    refine lv_iload C.1 C.2.1 dL_law_1106 (lv_at hl 1 rfl) ?_
    refine lv_if_ne C.1 C.2.1 (tgt := 1130) dL_law_1108 (by decide) (fun hc => ?_) (fun hc => ?_)
    · have h := h.1 hc
      refine lv_goto C.1 C.2.1 (tgt := 1914) dL_law_1130 (by decide) ?_
      exact hk _ _ _ _ _ _ h (lw_g3 (Nat.le_of_ble_eq_true rfl)) (lw_g3 (Nat.le_of_ble_eq_true rfl)) (lv_sub hl [2, 3, 4, 5, 6] rfl) hP hS
    · have h := h.2 hc
      refine lv_aload_n C.1 C.2.1 dL_law_1111 rfl (lv_at hl 5 rfl) ?_
      refine lv_iconst C.1 C.2.1 (v := 0) dL_law_1112 rfl ?_
      obtain ⟨hi, h⟩ := h
      refine z_lald C hP (show kd 67 = 23 from rfl) (show ln 67 = 1 from rfl) (hL 67 (Nat.le_of_ble_eq_true rfl) (Nat.le_of_ble_eq_true rfl)) hi dL_law_1113 ?_
      refine lv_iload C.1 C.2.1 dL_law_1114 (lv_at hl 0 rfl) ?_
      refine lv_if_eq C.1 C.2.1 (tgt := 1123) dL_law_1116 (by decide) (fun hc => ?_) (fun hc => ?_)
      · have h := h.1 hc
        refine lv_lconst C.1 C.2.1 (v := 0) dL_law_1123 rfl ?_
        refine W.lcmp C.1 C.2.1 dL_law_1124 ?_
        refine lv_if_eq C.1 C.2.1 (tgt := 1130) dL_law_1125 (by decide) (fun hc => ?_) (fun hc => ?_)
        · have h := h.1 hc
          refine lv_goto C.1 C.2.1 (tgt := 1914) dL_law_1130 (by decide) ?_
          exact hk _ _ _ _ _ _ h (lw_g3 (Nat.le_of_ble_eq_true rfl)) (lw_g3 (Nat.le_of_ble_eq_true rfl)) (lv_sub hl [2, 3, 4, 5, 6] rfl) hP hS
        · have h := h.2 hc
          exact h.elim
      · have h := h.2 hc
        refine lv_lconst C.1 C.2.1 (v := 1) dL_law_1119 rfl ?_
        refine lv_goto C.1 C.2.1 (tgt := 1124) dL_law_1120 (by decide) ?_
        refine W.lcmp C.1 C.2.1 dL_law_1124 ?_
        refine lv_if_eq C.1 C.2.1 (tgt := 1130) dL_law_1125 (by decide) (fun hc => ?_) (fun hc => ?_)
        · have h := h.1 hc
          refine lv_goto C.1 C.2.1 (tgt := 1914) dL_law_1130 (by decide) ?_
          exact hk _ _ _ _ _ _ h (lw_g3 (Nat.le_of_ble_eq_true rfl)) (lw_g3 (Nat.le_of_ble_eq_true rfl)) (lv_sub hl [2, 3, 4, 5, 6] rfl) hP hS
        · have h := h.2 hc
          exact h.elim
  · have h := h.2 hc
    exact h.elim
def wLc_25 (a1 a2 a3 a4 a5 : Int32) (st : St) (R : St → Prop) : Prop :=
  (wL_rest 0 a1 67 st (fun r2 st1 => (wX12_rest 54 a1 st1 (fun r4 st3 => (wX12_thrown 54 st3 (fun r6 st5 => ((r6 = r2 → ((¬ r2 = 0 → R st5) ∧ (r2 = 0 → (vp_in 0 1 ∧ (((lg_cmp (gJ st5 67 (0 : Int32).toNatClampNeg) ((r4 : Int32).toInt64)) = 0 → R st5) ∧ (¬ (lg_cmp (gJ st5 67 (0 : Int32).toNatClampNeg) ((r4 : Int32).toInt64)) = 0 → False)))))) ∧ (¬ r6 = r2 → False))))))))
set_option maxHeartbeats 4000000 in
set_option maxRecDepth 100000 in
theorem tLc_25 {p : Program} {l : Launch} {e : Env} {s : State} {m : MethodId} {args : Array Value} {below : List Frame} {meth : Method} {c : Code} {H : Heap} {locs : List Loc} {cells slots : Nat} {Q : State → Prop} {E : En0} {b0 n : Nat} {xs : Nat → Int32} {i a1 a2 a3 a4 a5 : Int32} {st : St} {R : St → Prop} {ls : Array Slot}
    (C : Cx E L68 "PlankBridgeLaw" cL_law 9 p s m args c) (hNC : NC s) (hfl : l.stackTraces = false) (hX : va_X b0 n xs s s.heap) (hbl : b0 < s.heap.size) (hbA : ¬ fA E L68 s.heap.size b0)
    (hin1 : vp_in (i + 1) n) (hin2 : vp_in (i + 2) n) (hin3 : vp_in (i + 3) n) (hin4 : vp_in (i + 4) n) (hin5 : vp_in (i + 5) n) (ha1 : xs (i + 1).toNatClampNeg = a1) (ha2 : xs (i + 2).toNatClampNeg = a2) (ha3 : xs (i + 3).toNatClampNeg = a3) (ha4 : xs (i + 4).toNatClampNeg = a4) (ha5 : xs (i + 5).toNatClampNeg = a5)
    (hcs : cells + 12 ≤ 601024) (hss : slots + 3300 ≤ 7293034) (hl : lv_has ls 9 [(0, .ref b0), (1, .ref (E.2.1 0)), (2, .ref (E.2.1 54)), (3, .ref (E.2.1 67)), (4, .int i)]) (hP : va_P E.1 vwCl (wd E L68 st) H) (hS : va_S (fA E L68 s.heap.size) s.heap H locs) (h : wLc_25 a1 a2 a3 a4 a5 st R)
    (hk : ∀ (u : St) (H1 : Heap) (locs1 : List Loc) (ls1 : Array Slot) (c1 s1 : Nat), R u → c1 ≤ cells + 12 → s1 ≤ slots + 3300 → lv_has ls1 9 [(0, .ref b0), (1, .ref (E.2.1 0)), (2, .ref (E.2.1 54)), (3, .ref (E.2.1 67)), (4, .int i)] → va_P E.1 vwCl (wd E L68 u) H1 → va_S (fA E L68 s.heap.size) s.heap H1 locs1 → W p l e room_1 s m args below meth c H1 locs1 c1 s1 Q (F0 m 1914 ls1 [])) :
    W p l e room_1 s m args below meth c H locs cells slots Q (F0 m 1133 ls []) := by
  have hL : Cov 0 68 L68 := fun c _ h2 => List.mem_range.mpr h2
  unfold wLc_25 at h
  refine lv_aload_n C.1 C.2.1 dL_law_1133 rfl (lv_at hl 1 rfl) ?_
  refine lv_aload_n C.1 C.2.1 dL_law_1134 rfl (lv_at hl 0 rfl) ?_
  refine lv_iload C.1 C.2.1 dL_law_1135 (lv_at hl 4 rfl) ?_
  refine lv_iconst C.1 C.2.1 (v := 1) dL_law_1137 rfl ?_
  refine lv_iadd C.1 C.2.1 dL_law_1138  ?_
  refine law_sld C hX hbl hbA hS hin1 ha1 dL_law_1139 ?_
  refine lv_aload_n C.1 C.2.1 dL_law_1140 rfl (lv_at hl 3 rfl) ?_
  refine z_ki hS (z_runSW (As := [.ref (E.2.1 0), .int a1, .ref (E.2.1 67)]) (rest := []) C hNC hP hS (tL_rest C.2.2.2.2.2.2.1 hL (show kd 0 = 8 from rfl) (show kd 67 = 23 from rfl) (show ln 67 = 1 from rfl) (hL 67 (Nat.le_of_ble_eq_true rfl) (Nat.le_of_ble_eq_true rfl)) hfl h) q1100 q1101 q104 q1102 hdL_rest ⟨(Nat.le_of_ble_eq_true rfl), (Nat.le_of_ble_eq_true rfl)⟩ ⟨lw_f0 hcs (Nat.le_of_ble_eq_true rfl), lw_f0 hss (Nat.le_of_ble_eq_true rfl)⟩ rfl hl.1 rfl (lv_room (Nat.le_of_ble_eq_true rfl)) dL_law_1141) (fun r2 st1 H locs h hP hS => ?_)
  refine lv_istore C.1 C.2.1 dL_law_1144 hl (Nat.le_of_ble_eq_true rfl) rfl (fun ls hl => ?_)
  have hl : lv_has ls 9 [(5, .int r2), (0, .ref b0), (1, .ref (E.2.1 0)), (2, .ref (E.2.1 54)), (3, .ref (E.2.1 67)), (4, .int i)] := hl
  refine lv_aload_n C.1 C.2.1 dL_law_1146 rfl (lv_at hl 3 rfl) ?_
  refine lv_aload_n C.1 C.2.1 dL_law_1147 rfl (lv_at hl 1 rfl) ?_
  refine lv_iload C.1 C.2.1 dL_law_1148 (lv_at hl 5 rfl) ?_
  refine lv_iconst C.1 C.2.1 (v := 1) dL_law_1150 rfl ?_
  refine lv_iadd C.1 C.2.1 dL_law_1151  ?_
  refine law_sld C hX hbl hbA hS hin1 ha1 dL_law_1152 ?_
  refine z_ki hS (z_runV (As := [.int a1]) (rest := []) C hP hS (hL 54 (Nat.le_of_ble_eq_true rfl) (Nat.le_of_ble_eq_true rfl)) (e11 (show kd 54 = 11 from rfl)) rfl (tX12_rest C.2.2.2.2.2.2.1 (hL.mo (Nat.le_of_ble_eq_true rfl) (Nat.le_of_ble_eq_true rfl)) (show kd 54 = 11 from rfl) h) q1813 q1814 q1815 q116 q1816 hdX12_rest ⟨(Nat.le_of_ble_eq_true rfl), (Nat.le_of_ble_eq_true rfl)⟩ ⟨lw_f1 hcs (Nat.le_of_ble_eq_true rfl), lw_f1 hss (Nat.le_of_ble_eq_true rfl)⟩ rfl hl.1 rfl (lv_room (Nat.le_of_ble_eq_true rfl)) dL_law_1153) (fun r4 st3 H locs h hP hS => ?_)
  refine lv_istore C.1 C.2.1 dL_law_1156 hl (Nat.le_of_ble_eq_true rfl) rfl (fun ls hl => ?_)
  have hl : lv_has ls 9 [(6, .int r4), (5, .int r2), (0, .ref b0), (1, .ref (E.2.1 0)), (2, .ref (E.2.1 54)), (3, .ref (E.2.1 67)), (4, .int i)] := hl
  refine lv_aload_n C.1 C.2.1 dL_law_1158 rfl (lv_at hl 4 rfl) ?_
  refine z_ki hS (z_runV (As := []) (rest := []) C hP hS (hL 54 (Nat.le_of_ble_eq_true rfl) (Nat.le_of_ble_eq_true rfl)) (e11 (show kd 54 = 11 from rfl)) rfl (tX12_thrown C.2.2.2.2.2.2.1 (hL.mo (Nat.le_of_ble_eq_true rfl) (Nat.le_of_ble_eq_true rfl)) (show kd 54 = 11 from rfl) h) q1407 q1408 q1409 q116 q1410 hdX12_thrown ⟨(Nat.le_of_ble_eq_true rfl), (Nat.le_of_ble_eq_true rfl)⟩ ⟨lw_f2 hcs (Nat.le_of_ble_eq_true rfl), lw_f2 hss (Nat.le_of_ble_eq_true rfl)⟩ rfl hl.1 rfl (lv_room (Nat.le_of_ble_eq_true rfl)) dL_law_1159) (fun r6 st5 H locs h hP hS => ?_)
  refine lv_iload C.1 C.2.1 dL_law_1162 (lv_at hl 1 rfl) ?_
  refine lv_icmp_eq C.1 C.2.1 (tgt := 1169) dL_law_1164 (by decide) (fun hc => ?_) (fun hc => ?_)
  · have h := h.1 hc
    refine lv_iload C.1 C.2.1 dL_law_1169 (lv_at hl 1 rfl) ?_
    refine lv_if_ne C.1 C.2.1 (tgt := 1186) dL_law_1171 (by decide) (fun hc => ?_) (fun hc => ?_)
    · have h := h.1 hc
      refine lv_goto C.1 C.2.1 (tgt := 1914) dL_law_1186 (by decide) ?_
      exact hk _ _ _ _ _ _ h (lw_g3 (Nat.le_of_ble_eq_true rfl)) (lw_g3 (Nat.le_of_ble_eq_true rfl)) (lv_sub hl [2, 3, 4, 5, 6] rfl) hP hS
    · have h := h.2 hc
      refine lv_aload_n C.1 C.2.1 dL_law_1174 rfl (lv_at hl 5 rfl) ?_
      refine lv_iconst C.1 C.2.1 (v := 0) dL_law_1175 rfl ?_
      obtain ⟨hi, h⟩ := h
      refine z_lald C hP (show kd 67 = 23 from rfl) (show ln 67 = 1 from rfl) (hL 67 (Nat.le_of_ble_eq_true rfl) (Nat.le_of_ble_eq_true rfl)) hi dL_law_1176 ?_
      refine lv_iload C.1 C.2.1 dL_law_1177 (lv_at hl 0 rfl) ?_
      refine t_i2l C.1 C.2.1 dL_law_1179 rfl ?_
      refine W.lcmp C.1 C.2.1 dL_law_1180 ?_
      refine lv_if_eq C.1 C.2.1 (tgt := 1186) dL_law_1181 (by decide) (fun hc => ?_) (fun hc => ?_)
      · have h := h.1 hc
        refine lv_goto C.1 C.2.1 (tgt := 1914) dL_law_1186 (by decide) ?_
        exact hk _ _ _ _ _ _ h (lw_g3 (Nat.le_of_ble_eq_true rfl)) (lw_g3 (Nat.le_of_ble_eq_true rfl)) (lv_sub hl [2, 3, 4, 5, 6] rfl) hP hS
      · have h := h.2 hc
        exact h.elim
  · have h := h.2 hc
    exact h.elim
def wLc_26 (a1 a2 a3 a4 a5 : Int32) (st : St) (R : St → Prop) : Prop :=
  (wL_layPlank 0 a1 a2 67 st (fun r2 st1 => (wX12_layPlank 54 a1 a2 st1 (fun r4 st3 => (wX12_thrown 54 st3 (fun r6 st5 => ((r6 = r2 → ((¬ r2 = 0 → R st5) ∧ (r2 = 0 → (vp_in 0 1 ∧ (((lg_cmp (gJ st5 67 (0 : Int32).toNatClampNeg) ((r4 : Int32).toInt64)) = 0 → R st5) ∧ (¬ (lg_cmp (gJ st5 67 (0 : Int32).toNatClampNeg) ((r4 : Int32).toInt64)) = 0 → False)))))) ∧ (¬ r6 = r2 → False))))))))
set_option maxHeartbeats 4000000 in
set_option maxRecDepth 100000 in
theorem tLc_26 {p : Program} {l : Launch} {e : Env} {s : State} {m : MethodId} {args : Array Value} {below : List Frame} {meth : Method} {c : Code} {H : Heap} {locs : List Loc} {cells slots : Nat} {Q : State → Prop} {E : En0} {b0 n : Nat} {xs : Nat → Int32} {i a1 a2 a3 a4 a5 : Int32} {st : St} {R : St → Prop} {ls : Array Slot}
    (C : Cx E L68 "PlankBridgeLaw" cL_law 9 p s m args c) (hNC : NC s) (hfl : l.stackTraces = false) (hX : va_X b0 n xs s s.heap) (hbl : b0 < s.heap.size) (hbA : ¬ fA E L68 s.heap.size b0)
    (hin1 : vp_in (i + 1) n) (hin2 : vp_in (i + 2) n) (hin3 : vp_in (i + 3) n) (hin4 : vp_in (i + 4) n) (hin5 : vp_in (i + 5) n) (ha1 : xs (i + 1).toNatClampNeg = a1) (ha2 : xs (i + 2).toNatClampNeg = a2) (ha3 : xs (i + 3).toNatClampNeg = a3) (ha4 : xs (i + 4).toNatClampNeg = a4) (ha5 : xs (i + 5).toNatClampNeg = a5)
    (hcs : cells + 12 ≤ 601024) (hss : slots + 3300 ≤ 7293034) (hl : lv_has ls 9 [(0, .ref b0), (1, .ref (E.2.1 0)), (2, .ref (E.2.1 54)), (3, .ref (E.2.1 67)), (4, .int i)]) (hP : va_P E.1 vwCl (wd E L68 st) H) (hS : va_S (fA E L68 s.heap.size) s.heap H locs) (h : wLc_26 a1 a2 a3 a4 a5 st R)
    (hk : ∀ (u : St) (H1 : Heap) (locs1 : List Loc) (ls1 : Array Slot) (c1 s1 : Nat), R u → c1 ≤ cells + 12 → s1 ≤ slots + 3300 → lv_has ls1 9 [(0, .ref b0), (1, .ref (E.2.1 0)), (2, .ref (E.2.1 54)), (3, .ref (E.2.1 67)), (4, .int i)] → va_P E.1 vwCl (wd E L68 u) H1 → va_S (fA E L68 s.heap.size) s.heap H1 locs1 → W p l e room_1 s m args below meth c H1 locs1 c1 s1 Q (F0 m 1914 ls1 [])) :
    W p l e room_1 s m args below meth c H locs cells slots Q (F0 m 1189 ls []) := by
  have hL : Cov 0 68 L68 := fun c _ h2 => List.mem_range.mpr h2
  unfold wLc_26 at h
  refine lv_aload_n C.1 C.2.1 dL_law_1189 rfl (lv_at hl 1 rfl) ?_
  refine lv_aload_n C.1 C.2.1 dL_law_1190 rfl (lv_at hl 0 rfl) ?_
  refine lv_iload C.1 C.2.1 dL_law_1191 (lv_at hl 4 rfl) ?_
  refine lv_iconst C.1 C.2.1 (v := 1) dL_law_1193 rfl ?_
  refine lv_iadd C.1 C.2.1 dL_law_1194  ?_
  refine law_sld C hX hbl hbA hS hin1 ha1 dL_law_1195 ?_
  refine lv_aload_n C.1 C.2.1 dL_law_1196 rfl (lv_at hl 0 rfl) ?_
  refine lv_iload C.1 C.2.1 dL_law_1197 (lv_at hl 4 rfl) ?_
  refine lv_iconst C.1 C.2.1 (v := 2) dL_law_1199 rfl ?_
  refine lv_iadd C.1 C.2.1 dL_law_1200  ?_
  refine law_sld C hX hbl hbA hS hin2 ha2 dL_law_1201 ?_
  refine lv_aload_n C.1 C.2.1 dL_law_1202 rfl (lv_at hl 3 rfl) ?_
  refine z_ki hS (z_runSW (As := [.ref (E.2.1 0), .int a1, .int a2, .ref (E.2.1 67)]) (rest := []) C hNC hP hS (tL_layPlank C.2.2.2.2.2.2.1 hL (show kd 0 = 8 from rfl) (show kd 67 = 23 from rfl) (show ln 67 = 1 from rfl) (hL 67 (Nat.le_of_ble_eq_true rfl) (Nat.le_of_ble_eq_true rfl)) hfl h) q1109 q1110 q104 q1111 hdL_layPlank ⟨(Nat.le_of_ble_eq_true rfl), (Nat.le_of_ble_eq_true rfl)⟩ ⟨lw_f0 hcs (Nat.le_of_ble_eq_true rfl), lw_f0 hss (Nat.le_of_ble_eq_true rfl)⟩ rfl hl.1 rfl (lv_room (Nat.le_of_ble_eq_true rfl)) dL_law_1203) (fun r2 st1 H locs h hP hS => ?_)
  refine lv_istore C.1 C.2.1 dL_law_1206 hl (Nat.le_of_ble_eq_true rfl) rfl (fun ls hl => ?_)
  have hl : lv_has ls 9 [(5, .int r2), (0, .ref b0), (1, .ref (E.2.1 0)), (2, .ref (E.2.1 54)), (3, .ref (E.2.1 67)), (4, .int i)] := hl
  refine lv_aload_n C.1 C.2.1 dL_law_1208 rfl (lv_at hl 3 rfl) ?_
  refine lv_aload_n C.1 C.2.1 dL_law_1209 rfl (lv_at hl 1 rfl) ?_
  refine lv_iload C.1 C.2.1 dL_law_1210 (lv_at hl 5 rfl) ?_
  refine lv_iconst C.1 C.2.1 (v := 1) dL_law_1212 rfl ?_
  refine lv_iadd C.1 C.2.1 dL_law_1213  ?_
  refine law_sld C hX hbl hbA hS hin1 ha1 dL_law_1214 ?_
  refine lv_aload_n C.1 C.2.1 dL_law_1215 rfl (lv_at hl 1 rfl) ?_
  refine lv_iload C.1 C.2.1 dL_law_1216 (lv_at hl 5 rfl) ?_
  refine lv_iconst C.1 C.2.1 (v := 2) dL_law_1218 rfl ?_
  refine lv_iadd C.1 C.2.1 dL_law_1219  ?_
  refine law_sld C hX hbl hbA hS hin2 ha2 dL_law_1220 ?_
  refine z_ki hS (z_runV (As := [.int a1, .int a2]) (rest := []) C hP hS (hL 54 (Nat.le_of_ble_eq_true rfl) (Nat.le_of_ble_eq_true rfl)) (e11 (show kd 54 = 11 from rfl)) rfl (tX12_layPlank C.2.2.2.2.2.2.1 (hL.mo (Nat.le_of_ble_eq_true rfl) (Nat.le_of_ble_eq_true rfl)) (show kd 54 = 11 from rfl) h) q1817 q1818 q1819 q116 q1820 hdX12_layPlank ⟨(Nat.le_of_ble_eq_true rfl), (Nat.le_of_ble_eq_true rfl)⟩ ⟨lw_f1 hcs (Nat.le_of_ble_eq_true rfl), lw_f1 hss (Nat.le_of_ble_eq_true rfl)⟩ rfl hl.1 rfl (lv_room (Nat.le_of_ble_eq_true rfl)) dL_law_1221) (fun r4 st3 H locs h hP hS => ?_)
  refine lv_istore C.1 C.2.1 dL_law_1224 hl (Nat.le_of_ble_eq_true rfl) rfl (fun ls hl => ?_)
  have hl : lv_has ls 9 [(6, .int r4), (5, .int r2), (0, .ref b0), (1, .ref (E.2.1 0)), (2, .ref (E.2.1 54)), (3, .ref (E.2.1 67)), (4, .int i)] := hl
  refine lv_aload_n C.1 C.2.1 dL_law_1226 rfl (lv_at hl 4 rfl) ?_
  refine z_ki hS (z_runV (As := []) (rest := []) C hP hS (hL 54 (Nat.le_of_ble_eq_true rfl) (Nat.le_of_ble_eq_true rfl)) (e11 (show kd 54 = 11 from rfl)) rfl (tX12_thrown C.2.2.2.2.2.2.1 (hL.mo (Nat.le_of_ble_eq_true rfl) (Nat.le_of_ble_eq_true rfl)) (show kd 54 = 11 from rfl) h) q1407 q1408 q1409 q116 q1410 hdX12_thrown ⟨(Nat.le_of_ble_eq_true rfl), (Nat.le_of_ble_eq_true rfl)⟩ ⟨lw_f2 hcs (Nat.le_of_ble_eq_true rfl), lw_f2 hss (Nat.le_of_ble_eq_true rfl)⟩ rfl hl.1 rfl (lv_room (Nat.le_of_ble_eq_true rfl)) dL_law_1227) (fun r6 st5 H locs h hP hS => ?_)
  refine lv_iload C.1 C.2.1 dL_law_1230 (lv_at hl 1 rfl) ?_
  refine lv_icmp_eq C.1 C.2.1 (tgt := 1237) dL_law_1232 (by decide) (fun hc => ?_) (fun hc => ?_)
  · have h := h.1 hc
    refine lv_iload C.1 C.2.1 dL_law_1237 (lv_at hl 1 rfl) ?_
    refine lv_if_ne C.1 C.2.1 (tgt := 1254) dL_law_1239 (by decide) (fun hc => ?_) (fun hc => ?_)
    · have h := h.1 hc
      refine lv_goto C.1 C.2.1 (tgt := 1914) dL_law_1254 (by decide) ?_
      exact hk _ _ _ _ _ _ h (lw_g3 (Nat.le_of_ble_eq_true rfl)) (lw_g3 (Nat.le_of_ble_eq_true rfl)) (lv_sub hl [2, 3, 4, 5, 6] rfl) hP hS
    · have h := h.2 hc
      refine lv_aload_n C.1 C.2.1 dL_law_1242 rfl (lv_at hl 5 rfl) ?_
      refine lv_iconst C.1 C.2.1 (v := 0) dL_law_1243 rfl ?_
      obtain ⟨hi, h⟩ := h
      refine z_lald C hP (show kd 67 = 23 from rfl) (show ln 67 = 1 from rfl) (hL 67 (Nat.le_of_ble_eq_true rfl) (Nat.le_of_ble_eq_true rfl)) hi dL_law_1244 ?_
      refine lv_iload C.1 C.2.1 dL_law_1245 (lv_at hl 0 rfl) ?_
      refine t_i2l C.1 C.2.1 dL_law_1247 rfl ?_
      refine W.lcmp C.1 C.2.1 dL_law_1248 ?_
      refine lv_if_eq C.1 C.2.1 (tgt := 1254) dL_law_1249 (by decide) (fun hc => ?_) (fun hc => ?_)
      · have h := h.1 hc
        refine lv_goto C.1 C.2.1 (tgt := 1914) dL_law_1254 (by decide) ?_
        exact hk _ _ _ _ _ _ h (lw_g3 (Nat.le_of_ble_eq_true rfl)) (lw_g3 (Nat.le_of_ble_eq_true rfl)) (lv_sub hl [2, 3, 4, 5, 6] rfl) hP hS
      · have h := h.2 hc
        exact h.elim
  · have h := h.2 hc
    exact h.elim
def wLc_27 (a1 a2 a3 a4 a5 : Int32) (st : St) (R : St → Prop) : Prop :=
  (wL_runPlan 0 a1 67 st (fun r2 st1 => (wX12_runPlan 54 a1 st1 (fun r4 st3 => (wX12_thrown 54 st3 (fun r6 st5 => ((r6 = r2 → ((¬ r2 = 0 → R st5) ∧ (r2 = 0 → (vp_in 0 1 ∧ (((lg_cmp (gJ st5 67 (0 : Int32).toNatClampNeg) ((r4 : Int32).toInt64)) = 0 → R st5) ∧ (¬ (lg_cmp (gJ st5 67 (0 : Int32).toNatClampNeg) ((r4 : Int32).toInt64)) = 0 → False)))))) ∧ (¬ r6 = r2 → False))))))))
set_option maxHeartbeats 4000000 in
set_option maxRecDepth 100000 in
theorem tLc_27 {p : Program} {l : Launch} {e : Env} {s : State} {m : MethodId} {args : Array Value} {below : List Frame} {meth : Method} {c : Code} {H : Heap} {locs : List Loc} {cells slots : Nat} {Q : State → Prop} {E : En0} {b0 n : Nat} {xs : Nat → Int32} {i a1 a2 a3 a4 a5 : Int32} {st : St} {R : St → Prop} {ls : Array Slot}
    (C : Cx E L68 "PlankBridgeLaw" cL_law 9 p s m args c) (hNC : NC s) (hfl : l.stackTraces = false) (hX : va_X b0 n xs s s.heap) (hbl : b0 < s.heap.size) (hbA : ¬ fA E L68 s.heap.size b0)
    (hin1 : vp_in (i + 1) n) (hin2 : vp_in (i + 2) n) (hin3 : vp_in (i + 3) n) (hin4 : vp_in (i + 4) n) (hin5 : vp_in (i + 5) n) (ha1 : xs (i + 1).toNatClampNeg = a1) (ha2 : xs (i + 2).toNatClampNeg = a2) (ha3 : xs (i + 3).toNatClampNeg = a3) (ha4 : xs (i + 4).toNatClampNeg = a4) (ha5 : xs (i + 5).toNatClampNeg = a5)
    (hcs : cells + 12 ≤ 601024) (hss : slots + 3300 ≤ 7293034) (hl : lv_has ls 9 [(0, .ref b0), (1, .ref (E.2.1 0)), (2, .ref (E.2.1 54)), (3, .ref (E.2.1 67)), (4, .int i)]) (hP : va_P E.1 vwCl (wd E L68 st) H) (hS : va_S (fA E L68 s.heap.size) s.heap H locs) (h : wLc_27 a1 a2 a3 a4 a5 st R)
    (hk : ∀ (u : St) (H1 : Heap) (locs1 : List Loc) (ls1 : Array Slot) (c1 s1 : Nat), R u → c1 ≤ cells + 12 → s1 ≤ slots + 3300 → lv_has ls1 9 [(0, .ref b0), (1, .ref (E.2.1 0)), (2, .ref (E.2.1 54)), (3, .ref (E.2.1 67)), (4, .int i)] → va_P E.1 vwCl (wd E L68 u) H1 → va_S (fA E L68 s.heap.size) s.heap H1 locs1 → W p l e room_1 s m args below meth c H1 locs1 c1 s1 Q (F0 m 1914 ls1 [])) :
    W p l e room_1 s m args below meth c H locs cells slots Q (F0 m 1257 ls []) := by
  have hL : Cov 0 68 L68 := fun c _ h2 => List.mem_range.mpr h2
  unfold wLc_27 at h
  refine lv_aload_n C.1 C.2.1 dL_law_1257 rfl (lv_at hl 1 rfl) ?_
  refine lv_aload_n C.1 C.2.1 dL_law_1258 rfl (lv_at hl 0 rfl) ?_
  refine lv_iload C.1 C.2.1 dL_law_1259 (lv_at hl 4 rfl) ?_
  refine lv_iconst C.1 C.2.1 (v := 1) dL_law_1261 rfl ?_
  refine lv_iadd C.1 C.2.1 dL_law_1262  ?_
  refine law_sld C hX hbl hbA hS hin1 ha1 dL_law_1263 ?_
  refine lv_aload_n C.1 C.2.1 dL_law_1264 rfl (lv_at hl 3 rfl) ?_
  refine z_ki hS (z_runSW (As := [.ref (E.2.1 0), .int a1, .ref (E.2.1 67)]) (rest := []) C hNC hP hS (tL_runPlan C.2.2.2.2.2.2.1 hL (show kd 0 = 8 from rfl) (show kd 67 = 23 from rfl) (show ln 67 = 1 from rfl) (hL 67 (Nat.le_of_ble_eq_true rfl) (Nat.le_of_ble_eq_true rfl)) hfl h) q1118 q1119 q104 q1120 hdL_runPlan ⟨(Nat.le_of_ble_eq_true rfl), (Nat.le_of_ble_eq_true rfl)⟩ ⟨lw_f0 hcs (Nat.le_of_ble_eq_true rfl), lw_f0 hss (Nat.le_of_ble_eq_true rfl)⟩ rfl hl.1 rfl (lv_room (Nat.le_of_ble_eq_true rfl)) dL_law_1265) (fun r2 st1 H locs h hP hS => ?_)
  refine lv_istore C.1 C.2.1 dL_law_1268 hl (Nat.le_of_ble_eq_true rfl) rfl (fun ls hl => ?_)
  have hl : lv_has ls 9 [(5, .int r2), (0, .ref b0), (1, .ref (E.2.1 0)), (2, .ref (E.2.1 54)), (3, .ref (E.2.1 67)), (4, .int i)] := hl
  refine lv_aload_n C.1 C.2.1 dL_law_1270 rfl (lv_at hl 3 rfl) ?_
  refine lv_aload_n C.1 C.2.1 dL_law_1271 rfl (lv_at hl 1 rfl) ?_
  refine lv_iload C.1 C.2.1 dL_law_1272 (lv_at hl 5 rfl) ?_
  refine lv_iconst C.1 C.2.1 (v := 1) dL_law_1274 rfl ?_
  refine lv_iadd C.1 C.2.1 dL_law_1275  ?_
  refine law_sld C hX hbl hbA hS hin1 ha1 dL_law_1276 ?_
  refine z_ki hS (z_runV (As := [.int a1]) (rest := []) C hP hS (hL 54 (Nat.le_of_ble_eq_true rfl) (Nat.le_of_ble_eq_true rfl)) (e11 (show kd 54 = 11 from rfl)) rfl (tX12_runPlan C.2.2.2.2.2.2.1 (hL.mo (Nat.le_of_ble_eq_true rfl) (Nat.le_of_ble_eq_true rfl)) (show kd 54 = 11 from rfl) h) q1821 q1822 q1823 q116 q1824 hdX12_runPlan ⟨(Nat.le_of_ble_eq_true rfl), (Nat.le_of_ble_eq_true rfl)⟩ ⟨lw_f1 hcs (Nat.le_of_ble_eq_true rfl), lw_f1 hss (Nat.le_of_ble_eq_true rfl)⟩ rfl hl.1 rfl (lv_room (Nat.le_of_ble_eq_true rfl)) dL_law_1277) (fun r4 st3 H locs h hP hS => ?_)
  refine lv_istore C.1 C.2.1 dL_law_1280 hl (Nat.le_of_ble_eq_true rfl) rfl (fun ls hl => ?_)
  have hl : lv_has ls 9 [(6, .int r4), (5, .int r2), (0, .ref b0), (1, .ref (E.2.1 0)), (2, .ref (E.2.1 54)), (3, .ref (E.2.1 67)), (4, .int i)] := hl
  refine lv_aload_n C.1 C.2.1 dL_law_1282 rfl (lv_at hl 4 rfl) ?_
  refine z_ki hS (z_runV (As := []) (rest := []) C hP hS (hL 54 (Nat.le_of_ble_eq_true rfl) (Nat.le_of_ble_eq_true rfl)) (e11 (show kd 54 = 11 from rfl)) rfl (tX12_thrown C.2.2.2.2.2.2.1 (hL.mo (Nat.le_of_ble_eq_true rfl) (Nat.le_of_ble_eq_true rfl)) (show kd 54 = 11 from rfl) h) q1407 q1408 q1409 q116 q1410 hdX12_thrown ⟨(Nat.le_of_ble_eq_true rfl), (Nat.le_of_ble_eq_true rfl)⟩ ⟨lw_f2 hcs (Nat.le_of_ble_eq_true rfl), lw_f2 hss (Nat.le_of_ble_eq_true rfl)⟩ rfl hl.1 rfl (lv_room (Nat.le_of_ble_eq_true rfl)) dL_law_1283) (fun r6 st5 H locs h hP hS => ?_)
  refine lv_iload C.1 C.2.1 dL_law_1286 (lv_at hl 1 rfl) ?_
  refine lv_icmp_eq C.1 C.2.1 (tgt := 1293) dL_law_1288 (by decide) (fun hc => ?_) (fun hc => ?_)
  · have h := h.1 hc
    refine lv_iload C.1 C.2.1 dL_law_1293 (lv_at hl 1 rfl) ?_
    refine lv_if_ne C.1 C.2.1 (tgt := 1310) dL_law_1295 (by decide) (fun hc => ?_) (fun hc => ?_)
    · have h := h.1 hc
      refine lv_goto C.1 C.2.1 (tgt := 1914) dL_law_1310 (by decide) ?_
      exact hk _ _ _ _ _ _ h (lw_g3 (Nat.le_of_ble_eq_true rfl)) (lw_g3 (Nat.le_of_ble_eq_true rfl)) (lv_sub hl [2, 3, 4, 5, 6] rfl) hP hS
    · have h := h.2 hc
      refine lv_aload_n C.1 C.2.1 dL_law_1298 rfl (lv_at hl 5 rfl) ?_
      refine lv_iconst C.1 C.2.1 (v := 0) dL_law_1299 rfl ?_
      obtain ⟨hi, h⟩ := h
      refine z_lald C hP (show kd 67 = 23 from rfl) (show ln 67 = 1 from rfl) (hL 67 (Nat.le_of_ble_eq_true rfl) (Nat.le_of_ble_eq_true rfl)) hi dL_law_1300 ?_
      refine lv_iload C.1 C.2.1 dL_law_1301 (lv_at hl 0 rfl) ?_
      refine t_i2l C.1 C.2.1 dL_law_1303 rfl ?_
      refine W.lcmp C.1 C.2.1 dL_law_1304 ?_
      refine lv_if_eq C.1 C.2.1 (tgt := 1310) dL_law_1305 (by decide) (fun hc => ?_) (fun hc => ?_)
      · have h := h.1 hc
        refine lv_goto C.1 C.2.1 (tgt := 1914) dL_law_1310 (by decide) ?_
        exact hk _ _ _ _ _ _ h (lw_g3 (Nat.le_of_ble_eq_true rfl)) (lw_g3 (Nat.le_of_ble_eq_true rfl)) (lv_sub hl [2, 3, 4, 5, 6] rfl) hP hS
      · have h := h.2 hc
        exact h.elim
  · have h := h.2 hc
    exact h.elim
def wLc_28 (a1 a2 a3 a4 a5 : Int32) (st : St) (R : St → Prop) : Prop :=
  (wX9_crossings 0 st (fun r2 st1 => (wX12_crossings 54 st1 (fun r4 st3 => ((r2 = r4 → R st3) ∧ (¬ r2 = r4 → False))))))
set_option maxHeartbeats 4000000 in
set_option maxRecDepth 100000 in
theorem tLc_28 {p : Program} {l : Launch} {e : Env} {s : State} {m : MethodId} {args : Array Value} {below : List Frame} {meth : Method} {c : Code} {H : Heap} {locs : List Loc} {cells slots : Nat} {Q : State → Prop} {E : En0} {b0 n : Nat} {xs : Nat → Int32} {i a1 a2 a3 a4 a5 : Int32} {st : St} {R : St → Prop} {ls : Array Slot}
    (C : Cx E L68 "PlankBridgeLaw" cL_law 9 p s m args c) (hNC : NC s) (hfl : l.stackTraces = false) (hX : va_X b0 n xs s s.heap) (hbl : b0 < s.heap.size) (hbA : ¬ fA E L68 s.heap.size b0)
    (hin1 : vp_in (i + 1) n) (hin2 : vp_in (i + 2) n) (hin3 : vp_in (i + 3) n) (hin4 : vp_in (i + 4) n) (hin5 : vp_in (i + 5) n) (ha1 : xs (i + 1).toNatClampNeg = a1) (ha2 : xs (i + 2).toNatClampNeg = a2) (ha3 : xs (i + 3).toNatClampNeg = a3) (ha4 : xs (i + 4).toNatClampNeg = a4) (ha5 : xs (i + 5).toNatClampNeg = a5)
    (hcs : cells + 12 ≤ 601024) (hss : slots + 3300 ≤ 7293034) (hl : lv_has ls 9 [(0, .ref b0), (1, .ref (E.2.1 0)), (2, .ref (E.2.1 54)), (3, .ref (E.2.1 67)), (4, .int i)]) (hP : va_P E.1 vwCl (wd E L68 st) H) (hS : va_S (fA E L68 s.heap.size) s.heap H locs) (h : wLc_28 a1 a2 a3 a4 a5 st R)
    (hk : ∀ (u : St) (H1 : Heap) (locs1 : List Loc) (ls1 : Array Slot) (c1 s1 : Nat), R u → c1 ≤ cells + 12 → s1 ≤ slots + 3300 → lv_has ls1 9 [(0, .ref b0), (1, .ref (E.2.1 0)), (2, .ref (E.2.1 54)), (3, .ref (E.2.1 67)), (4, .int i)] → va_P E.1 vwCl (wd E L68 u) H1 → va_S (fA E L68 s.heap.size) s.heap H1 locs1 → W p l e room_1 s m args below meth c H1 locs1 c1 s1 Q (F0 m 1914 ls1 [])) :
    W p l e room_1 s m args below meth c H locs cells slots Q (F0 m 1313 ls []) := by
  have hL : Cov 0 68 L68 := fun c _ h2 => List.mem_range.mpr h2
  unfold wLc_28 at h
  refine lv_aload_n C.1 C.2.1 dL_law_1313 rfl (lv_at hl 1 rfl) ?_
  refine z_ki hS (z_runV (As := []) (rest := []) C hP hS (hL 0 (Nat.le_of_ble_eq_true rfl) (Nat.le_of_ble_eq_true rfl)) (e8 (show kd 0 = 8 from rfl)) rfl (tX9_crossings C.2.2.2.2.2.2.1 (hL.mo (Nat.le_of_ble_eq_true rfl) (Nat.le_of_ble_eq_true rfl)) (show kd 0 = 8 from rfl) h) q762 q763 q764 q105 q765 hdX9_crossings ⟨(Nat.le_of_ble_eq_true rfl), (Nat.le_of_ble_eq_true rfl)⟩ ⟨lw_f0 hcs (Nat.le_of_ble_eq_true rfl), lw_f0 hss (Nat.le_of_ble_eq_true rfl)⟩ rfl hl.1 rfl (lv_room (Nat.le_of_ble_eq_true rfl)) dL_law_1314) (fun r2 st1 H locs h hP hS => ?_)
  refine lv_aload_n C.1 C.2.1 dL_law_1317 rfl (lv_at hl 2 rfl) ?_
  refine z_ki hS (z_runV (As := []) (rest := [.int r2]) C hP hS (hL 54 (Nat.le_of_ble_eq_true rfl) (Nat.le_of_ble_eq_true rfl)) (e11 (show kd 54 = 11 from rfl)) rfl (tX12_crossings C.2.2.2.2.2.2.1 (hL.mo (Nat.le_of_ble_eq_true rfl) (Nat.le_of_ble_eq_true rfl)) (show kd 54 = 11 from rfl) h) q1868 q1869 q1870 q116 q1871 hdX12_crossings ⟨(Nat.le_of_ble_eq_true rfl), (Nat.le_of_ble_eq_true rfl)⟩ ⟨lw_f1 hcs (Nat.le_of_ble_eq_true rfl), lw_f1 hss (Nat.le_of_ble_eq_true rfl)⟩ rfl hl.1 rfl (lv_room (Nat.le_of_ble_eq_true rfl)) dL_law_1318) (fun r4 st3 H locs h hP hS => ?_)
  refine lv_icmp_eq C.1 C.2.1 (tgt := 1914) dL_law_1321 (by decide) (fun hc => ?_) (fun hc => ?_)
  · have h := h.1 hc
    exact hk _ _ _ _ _ _ h (lw_g2 (Nat.le_of_ble_eq_true rfl)) (lw_g2 (Nat.le_of_ble_eq_true rfl)) hl hP hS
  · have h := h.2 hc
    exact h.elim
def wLc_29 (a1 a2 a3 a4 a5 : Int32) (st : St) (R : St → Prop) : Prop :=
  (wX9_falls 0 st (fun r2 st1 => (wX12_falls 54 st1 (fun r4 st3 => ((r2 = r4 → R st3) ∧ (¬ r2 = r4 → False))))))
set_option maxHeartbeats 4000000 in
set_option maxRecDepth 100000 in
theorem tLc_29 {p : Program} {l : Launch} {e : Env} {s : State} {m : MethodId} {args : Array Value} {below : List Frame} {meth : Method} {c : Code} {H : Heap} {locs : List Loc} {cells slots : Nat} {Q : State → Prop} {E : En0} {b0 n : Nat} {xs : Nat → Int32} {i a1 a2 a3 a4 a5 : Int32} {st : St} {R : St → Prop} {ls : Array Slot}
    (C : Cx E L68 "PlankBridgeLaw" cL_law 9 p s m args c) (hNC : NC s) (hfl : l.stackTraces = false) (hX : va_X b0 n xs s s.heap) (hbl : b0 < s.heap.size) (hbA : ¬ fA E L68 s.heap.size b0)
    (hin1 : vp_in (i + 1) n) (hin2 : vp_in (i + 2) n) (hin3 : vp_in (i + 3) n) (hin4 : vp_in (i + 4) n) (hin5 : vp_in (i + 5) n) (ha1 : xs (i + 1).toNatClampNeg = a1) (ha2 : xs (i + 2).toNatClampNeg = a2) (ha3 : xs (i + 3).toNatClampNeg = a3) (ha4 : xs (i + 4).toNatClampNeg = a4) (ha5 : xs (i + 5).toNatClampNeg = a5)
    (hcs : cells + 12 ≤ 601024) (hss : slots + 3300 ≤ 7293034) (hl : lv_has ls 9 [(0, .ref b0), (1, .ref (E.2.1 0)), (2, .ref (E.2.1 54)), (3, .ref (E.2.1 67)), (4, .int i)]) (hP : va_P E.1 vwCl (wd E L68 st) H) (hS : va_S (fA E L68 s.heap.size) s.heap H locs) (h : wLc_29 a1 a2 a3 a4 a5 st R)
    (hk : ∀ (u : St) (H1 : Heap) (locs1 : List Loc) (ls1 : Array Slot) (c1 s1 : Nat), R u → c1 ≤ cells + 12 → s1 ≤ slots + 3300 → lv_has ls1 9 [(0, .ref b0), (1, .ref (E.2.1 0)), (2, .ref (E.2.1 54)), (3, .ref (E.2.1 67)), (4, .int i)] → va_P E.1 vwCl (wd E L68 u) H1 → va_S (fA E L68 s.heap.size) s.heap H1 locs1 → W p l e room_1 s m args below meth c H1 locs1 c1 s1 Q (F0 m 1914 ls1 [])) :
    W p l e room_1 s m args below meth c H locs cells slots Q (F0 m 1326 ls []) := by
  have hL : Cov 0 68 L68 := fun c _ h2 => List.mem_range.mpr h2
  unfold wLc_29 at h
  refine lv_aload_n C.1 C.2.1 dL_law_1326 rfl (lv_at hl 1 rfl) ?_
  refine z_ki hS (z_runV (As := []) (rest := []) C hP hS (hL 0 (Nat.le_of_ble_eq_true rfl) (Nat.le_of_ble_eq_true rfl)) (e8 (show kd 0 = 8 from rfl)) rfl (tX9_falls C.2.2.2.2.2.2.1 (hL.mo (Nat.le_of_ble_eq_true rfl) (Nat.le_of_ble_eq_true rfl)) (show kd 0 = 8 from rfl) h) q766 q767 q768 q105 q769 hdX9_falls ⟨(Nat.le_of_ble_eq_true rfl), (Nat.le_of_ble_eq_true rfl)⟩ ⟨lw_f0 hcs (Nat.le_of_ble_eq_true rfl), lw_f0 hss (Nat.le_of_ble_eq_true rfl)⟩ rfl hl.1 rfl (lv_room (Nat.le_of_ble_eq_true rfl)) dL_law_1327) (fun r2 st1 H locs h hP hS => ?_)
  refine lv_aload_n C.1 C.2.1 dL_law_1330 rfl (lv_at hl 2 rfl) ?_
  refine z_ki hS (z_runV (As := []) (rest := [.int r2]) C hP hS (hL 54 (Nat.le_of_ble_eq_true rfl) (Nat.le_of_ble_eq_true rfl)) (e11 (show kd 54 = 11 from rfl)) rfl (tX12_falls C.2.2.2.2.2.2.1 (hL.mo (Nat.le_of_ble_eq_true rfl) (Nat.le_of_ble_eq_true rfl)) (show kd 54 = 11 from rfl) h) q1872 q1873 q1874 q116 q1875 hdX12_falls ⟨(Nat.le_of_ble_eq_true rfl), (Nat.le_of_ble_eq_true rfl)⟩ ⟨lw_f1 hcs (Nat.le_of_ble_eq_true rfl), lw_f1 hss (Nat.le_of_ble_eq_true rfl)⟩ rfl hl.1 rfl (lv_room (Nat.le_of_ble_eq_true rfl)) dL_law_1331) (fun r4 st3 H locs h hP hS => ?_)
  refine lv_icmp_eq C.1 C.2.1 (tgt := 1914) dL_law_1334 (by decide) (fun hc => ?_) (fun hc => ?_)
  · have h := h.1 hc
    exact hk _ _ _ _ _ _ h (lw_g2 (Nat.le_of_ble_eq_true rfl)) (lw_g2 (Nat.le_of_ble_eq_true rfl)) hl hP hS
  · have h := h.2 hc
    exact h.elim
def wLc_30 (a1 a2 a3 a4 a5 : Int32) (st : St) (R : St → Prop) : Prop :=
  (wX9_notes 0 st (fun r2 st1 => (wX12_notes 54 st1 (fun r4 st3 => ((r2 = r4 → R st3) ∧ (¬ r2 = r4 → False))))))
set_option maxHeartbeats 4000000 in
set_option maxRecDepth 100000 in
theorem tLc_30 {p : Program} {l : Launch} {e : Env} {s : State} {m : MethodId} {args : Array Value} {below : List Frame} {meth : Method} {c : Code} {H : Heap} {locs : List Loc} {cells slots : Nat} {Q : State → Prop} {E : En0} {b0 n : Nat} {xs : Nat → Int32} {i a1 a2 a3 a4 a5 : Int32} {st : St} {R : St → Prop} {ls : Array Slot}
    (C : Cx E L68 "PlankBridgeLaw" cL_law 9 p s m args c) (hNC : NC s) (hfl : l.stackTraces = false) (hX : va_X b0 n xs s s.heap) (hbl : b0 < s.heap.size) (hbA : ¬ fA E L68 s.heap.size b0)
    (hin1 : vp_in (i + 1) n) (hin2 : vp_in (i + 2) n) (hin3 : vp_in (i + 3) n) (hin4 : vp_in (i + 4) n) (hin5 : vp_in (i + 5) n) (ha1 : xs (i + 1).toNatClampNeg = a1) (ha2 : xs (i + 2).toNatClampNeg = a2) (ha3 : xs (i + 3).toNatClampNeg = a3) (ha4 : xs (i + 4).toNatClampNeg = a4) (ha5 : xs (i + 5).toNatClampNeg = a5)
    (hcs : cells + 12 ≤ 601024) (hss : slots + 3300 ≤ 7293034) (hl : lv_has ls 9 [(0, .ref b0), (1, .ref (E.2.1 0)), (2, .ref (E.2.1 54)), (3, .ref (E.2.1 67)), (4, .int i)]) (hP : va_P E.1 vwCl (wd E L68 st) H) (hS : va_S (fA E L68 s.heap.size) s.heap H locs) (h : wLc_30 a1 a2 a3 a4 a5 st R)
    (hk : ∀ (u : St) (H1 : Heap) (locs1 : List Loc) (ls1 : Array Slot) (c1 s1 : Nat), R u → c1 ≤ cells + 12 → s1 ≤ slots + 3300 → lv_has ls1 9 [(0, .ref b0), (1, .ref (E.2.1 0)), (2, .ref (E.2.1 54)), (3, .ref (E.2.1 67)), (4, .int i)] → va_P E.1 vwCl (wd E L68 u) H1 → va_S (fA E L68 s.heap.size) s.heap H1 locs1 → W p l e room_1 s m args below meth c H1 locs1 c1 s1 Q (F0 m 1914 ls1 [])) :
    W p l e room_1 s m args below meth c H locs cells slots Q (F0 m 1339 ls []) := by
  have hL : Cov 0 68 L68 := fun c _ h2 => List.mem_range.mpr h2
  unfold wLc_30 at h
  refine lv_aload_n C.1 C.2.1 dL_law_1339 rfl (lv_at hl 1 rfl) ?_
  refine z_ki hS (z_runV (As := []) (rest := []) C hP hS (hL 0 (Nat.le_of_ble_eq_true rfl) (Nat.le_of_ble_eq_true rfl)) (e8 (show kd 0 = 8 from rfl)) rfl (tX9_notes C.2.2.2.2.2.2.1 (hL.mo (Nat.le_of_ble_eq_true rfl) (Nat.le_of_ble_eq_true rfl)) (show kd 0 = 8 from rfl) h) q770 q771 q772 q105 q773 hdX9_notes ⟨(Nat.le_of_ble_eq_true rfl), (Nat.le_of_ble_eq_true rfl)⟩ ⟨lw_f0 hcs (Nat.le_of_ble_eq_true rfl), lw_f0 hss (Nat.le_of_ble_eq_true rfl)⟩ rfl hl.1 rfl (lv_room (Nat.le_of_ble_eq_true rfl)) dL_law_1340) (fun r2 st1 H locs h hP hS => ?_)
  refine lv_aload_n C.1 C.2.1 dL_law_1343 rfl (lv_at hl 2 rfl) ?_
  refine z_ki hS (z_runV (As := []) (rest := [.int r2]) C hP hS (hL 54 (Nat.le_of_ble_eq_true rfl) (Nat.le_of_ble_eq_true rfl)) (e11 (show kd 54 = 11 from rfl)) rfl (tX12_notes C.2.2.2.2.2.2.1 (hL.mo (Nat.le_of_ble_eq_true rfl) (Nat.le_of_ble_eq_true rfl)) (show kd 54 = 11 from rfl) h) q1876 q1877 q1878 q116 q1879 hdX12_notes ⟨(Nat.le_of_ble_eq_true rfl), (Nat.le_of_ble_eq_true rfl)⟩ ⟨lw_f1 hcs (Nat.le_of_ble_eq_true rfl), lw_f1 hss (Nat.le_of_ble_eq_true rfl)⟩ rfl hl.1 rfl (lv_room (Nat.le_of_ble_eq_true rfl)) dL_law_1344) (fun r4 st3 H locs h hP hS => ?_)
  refine lv_icmp_eq C.1 C.2.1 (tgt := 1914) dL_law_1347 (by decide) (fun hc => ?_) (fun hc => ?_)
  · have h := h.1 hc
    exact hk _ _ _ _ _ _ h (lw_g2 (Nat.le_of_ble_eq_true rfl)) (lw_g2 (Nat.le_of_ble_eq_true rfl)) hl hP hS
  · have h := h.2 hc
    exact h.elim
def wLc_31 (a1 a2 a3 a4 a5 : Int32) (st : St) (R : St → Prop) : Prop :=
  (wL_noteOf 0 a1 67 st (fun r2 st1 => (wX12_noteOf 54 a1 st1 (fun r4 st3 => (wX12_thrown 54 st3 (fun r6 st5 => ((r6 = r2 → ((¬ r2 = 0 → R st5) ∧ (r2 = 0 → (vp_in 0 1 ∧ (((lg_cmp (gJ st5 67 (0 : Int32).toNatClampNeg) ((r4 : Int32).toInt64)) = 0 → R st5) ∧ (¬ (lg_cmp (gJ st5 67 (0 : Int32).toNatClampNeg) ((r4 : Int32).toInt64)) = 0 → False)))))) ∧ (¬ r6 = r2 → False))))))))
set_option maxHeartbeats 4000000 in
set_option maxRecDepth 100000 in
theorem tLc_31 {p : Program} {l : Launch} {e : Env} {s : State} {m : MethodId} {args : Array Value} {below : List Frame} {meth : Method} {c : Code} {H : Heap} {locs : List Loc} {cells slots : Nat} {Q : State → Prop} {E : En0} {b0 n : Nat} {xs : Nat → Int32} {i a1 a2 a3 a4 a5 : Int32} {st : St} {R : St → Prop} {ls : Array Slot}
    (C : Cx E L68 "PlankBridgeLaw" cL_law 9 p s m args c) (hNC : NC s) (hfl : l.stackTraces = false) (hX : va_X b0 n xs s s.heap) (hbl : b0 < s.heap.size) (hbA : ¬ fA E L68 s.heap.size b0)
    (hin1 : vp_in (i + 1) n) (hin2 : vp_in (i + 2) n) (hin3 : vp_in (i + 3) n) (hin4 : vp_in (i + 4) n) (hin5 : vp_in (i + 5) n) (ha1 : xs (i + 1).toNatClampNeg = a1) (ha2 : xs (i + 2).toNatClampNeg = a2) (ha3 : xs (i + 3).toNatClampNeg = a3) (ha4 : xs (i + 4).toNatClampNeg = a4) (ha5 : xs (i + 5).toNatClampNeg = a5)
    (hcs : cells + 12 ≤ 601024) (hss : slots + 3300 ≤ 7293034) (hl : lv_has ls 9 [(0, .ref b0), (1, .ref (E.2.1 0)), (2, .ref (E.2.1 54)), (3, .ref (E.2.1 67)), (4, .int i)]) (hP : va_P E.1 vwCl (wd E L68 st) H) (hS : va_S (fA E L68 s.heap.size) s.heap H locs) (h : wLc_31 a1 a2 a3 a4 a5 st R)
    (hk : ∀ (u : St) (H1 : Heap) (locs1 : List Loc) (ls1 : Array Slot) (c1 s1 : Nat), R u → c1 ≤ cells + 12 → s1 ≤ slots + 3300 → lv_has ls1 9 [(0, .ref b0), (1, .ref (E.2.1 0)), (2, .ref (E.2.1 54)), (3, .ref (E.2.1 67)), (4, .int i)] → va_P E.1 vwCl (wd E L68 u) H1 → va_S (fA E L68 s.heap.size) s.heap H1 locs1 → W p l e room_1 s m args below meth c H1 locs1 c1 s1 Q (F0 m 1914 ls1 [])) :
    W p l e room_1 s m args below meth c H locs cells slots Q (F0 m 1352 ls []) := by
  have hL : Cov 0 68 L68 := fun c _ h2 => List.mem_range.mpr h2
  unfold wLc_31 at h
  refine lv_aload_n C.1 C.2.1 dL_law_1352 rfl (lv_at hl 1 rfl) ?_
  refine lv_aload_n C.1 C.2.1 dL_law_1353 rfl (lv_at hl 0 rfl) ?_
  refine lv_iload C.1 C.2.1 dL_law_1354 (lv_at hl 4 rfl) ?_
  refine lv_iconst C.1 C.2.1 (v := 1) dL_law_1356 rfl ?_
  refine lv_iadd C.1 C.2.1 dL_law_1357  ?_
  refine law_sld C hX hbl hbA hS hin1 ha1 dL_law_1358 ?_
  refine lv_aload_n C.1 C.2.1 dL_law_1359 rfl (lv_at hl 3 rfl) ?_
  refine z_ki hS (z_runSW (As := [.ref (E.2.1 0), .int a1, .ref (E.2.1 67)]) (rest := []) C hNC hP hS (tL_noteOf C.2.2.2.2.2.2.1 hL (show kd 0 = 8 from rfl) (show kd 67 = 23 from rfl) (show ln 67 = 1 from rfl) (hL 67 (Nat.le_of_ble_eq_true rfl) (Nat.le_of_ble_eq_true rfl)) hfl h) q1216 q1217 q104 q1218 hdL_noteOf ⟨(Nat.le_of_ble_eq_true rfl), (Nat.le_of_ble_eq_true rfl)⟩ ⟨lw_f0 hcs (Nat.le_of_ble_eq_true rfl), lw_f0 hss (Nat.le_of_ble_eq_true rfl)⟩ rfl hl.1 rfl (lv_room (Nat.le_of_ble_eq_true rfl)) dL_law_1360) (fun r2 st1 H locs h hP hS => ?_)
  refine lv_istore C.1 C.2.1 dL_law_1363 hl (Nat.le_of_ble_eq_true rfl) rfl (fun ls hl => ?_)
  have hl : lv_has ls 9 [(5, .int r2), (0, .ref b0), (1, .ref (E.2.1 0)), (2, .ref (E.2.1 54)), (3, .ref (E.2.1 67)), (4, .int i)] := hl
  refine lv_aload_n C.1 C.2.1 dL_law_1365 rfl (lv_at hl 3 rfl) ?_
  refine lv_aload_n C.1 C.2.1 dL_law_1366 rfl (lv_at hl 1 rfl) ?_
  refine lv_iload C.1 C.2.1 dL_law_1367 (lv_at hl 5 rfl) ?_
  refine lv_iconst C.1 C.2.1 (v := 1) dL_law_1369 rfl ?_
  refine lv_iadd C.1 C.2.1 dL_law_1370  ?_
  refine law_sld C hX hbl hbA hS hin1 ha1 dL_law_1371 ?_
  refine z_ki hS (z_runV (As := [.int a1]) (rest := []) C hP hS (hL 54 (Nat.le_of_ble_eq_true rfl) (Nat.le_of_ble_eq_true rfl)) (e11 (show kd 54 = 11 from rfl)) rfl (tX12_noteOf C.2.2.2.2.2.2.1 (hL.mo (Nat.le_of_ble_eq_true rfl) (Nat.le_of_ble_eq_true rfl)) (show kd 54 = 11 from rfl) h) q1880 q1881 q1882 q116 q1883 hdX12_noteOf ⟨(Nat.le_of_ble_eq_true rfl), (Nat.le_of_ble_eq_true rfl)⟩ ⟨lw_f1 hcs (Nat.le_of_ble_eq_true rfl), lw_f1 hss (Nat.le_of_ble_eq_true rfl)⟩ rfl hl.1 rfl (lv_room (Nat.le_of_ble_eq_true rfl)) dL_law_1372) (fun r4 st3 H locs h hP hS => ?_)
  refine lv_istore C.1 C.2.1 dL_law_1375 hl (Nat.le_of_ble_eq_true rfl) rfl (fun ls hl => ?_)
  have hl : lv_has ls 9 [(6, .int r4), (5, .int r2), (0, .ref b0), (1, .ref (E.2.1 0)), (2, .ref (E.2.1 54)), (3, .ref (E.2.1 67)), (4, .int i)] := hl
  refine lv_aload_n C.1 C.2.1 dL_law_1377 rfl (lv_at hl 4 rfl) ?_
  refine z_ki hS (z_runV (As := []) (rest := []) C hP hS (hL 54 (Nat.le_of_ble_eq_true rfl) (Nat.le_of_ble_eq_true rfl)) (e11 (show kd 54 = 11 from rfl)) rfl (tX12_thrown C.2.2.2.2.2.2.1 (hL.mo (Nat.le_of_ble_eq_true rfl) (Nat.le_of_ble_eq_true rfl)) (show kd 54 = 11 from rfl) h) q1407 q1408 q1409 q116 q1410 hdX12_thrown ⟨(Nat.le_of_ble_eq_true rfl), (Nat.le_of_ble_eq_true rfl)⟩ ⟨lw_f2 hcs (Nat.le_of_ble_eq_true rfl), lw_f2 hss (Nat.le_of_ble_eq_true rfl)⟩ rfl hl.1 rfl (lv_room (Nat.le_of_ble_eq_true rfl)) dL_law_1378) (fun r6 st5 H locs h hP hS => ?_)
  refine lv_iload C.1 C.2.1 dL_law_1381 (lv_at hl 1 rfl) ?_
  refine lv_icmp_eq C.1 C.2.1 (tgt := 1388) dL_law_1383 (by decide) (fun hc => ?_) (fun hc => ?_)
  · have h := h.1 hc
    refine lv_iload C.1 C.2.1 dL_law_1388 (lv_at hl 1 rfl) ?_
    refine lv_if_ne C.1 C.2.1 (tgt := 1405) dL_law_1390 (by decide) (fun hc => ?_) (fun hc => ?_)
    · have h := h.1 hc
      refine lv_goto C.1 C.2.1 (tgt := 1914) dL_law_1405 (by decide) ?_
      exact hk _ _ _ _ _ _ h (lw_g3 (Nat.le_of_ble_eq_true rfl)) (lw_g3 (Nat.le_of_ble_eq_true rfl)) (lv_sub hl [2, 3, 4, 5, 6] rfl) hP hS
    · have h := h.2 hc
      refine lv_aload_n C.1 C.2.1 dL_law_1393 rfl (lv_at hl 5 rfl) ?_
      refine lv_iconst C.1 C.2.1 (v := 0) dL_law_1394 rfl ?_
      obtain ⟨hi, h⟩ := h
      refine z_lald C hP (show kd 67 = 23 from rfl) (show ln 67 = 1 from rfl) (hL 67 (Nat.le_of_ble_eq_true rfl) (Nat.le_of_ble_eq_true rfl)) hi dL_law_1395 ?_
      refine lv_iload C.1 C.2.1 dL_law_1396 (lv_at hl 0 rfl) ?_
      refine t_i2l C.1 C.2.1 dL_law_1398 rfl ?_
      refine W.lcmp C.1 C.2.1 dL_law_1399 ?_
      refine lv_if_eq C.1 C.2.1 (tgt := 1405) dL_law_1400 (by decide) (fun hc => ?_) (fun hc => ?_)
      · have h := h.1 hc
        refine lv_goto C.1 C.2.1 (tgt := 1914) dL_law_1405 (by decide) ?_
        exact hk _ _ _ _ _ _ h (lw_g3 (Nat.le_of_ble_eq_true rfl)) (lw_g3 (Nat.le_of_ble_eq_true rfl)) (lv_sub hl [2, 3, 4, 5, 6] rfl) hP hS
      · have h := h.2 hc
        exact h.elim
  · have h := h.2 hc
    exact h.elim
def wLc_32 (a1 a2 a3 a4 a5 : Int32) (st : St) (R : St → Prop) : Prop :=
  (wL_canCrossAlone 0 a1 67 st (fun r2 st1 => (wX12_canCrossAlone 54 a1 st1 (fun r4 st3 => (wX12_thrown 54 st3 (fun r6 st5 => ((r6 = r2 → ((¬ r2 = 0 → R st5) ∧ (r2 = 0 → (vp_in 0 1 ∧ ((r4 = 0 → (((lg_cmp (gJ st5 67 (0 : Int32).toNatClampNeg) 0) = 0 → R st5) ∧ (¬ (lg_cmp (gJ st5 67 (0 : Int32).toNatClampNeg) 0) = 0 → False))) ∧ (¬ r4 = 0 → (((lg_cmp (gJ st5 67 (0 : Int32).toNatClampNeg) 1) = 0 → R st5) ∧ (¬ (lg_cmp (gJ st5 67 (0 : Int32).toNatClampNeg) 1) = 0 → False)))))))) ∧ (¬ r6 = r2 → False))))))))
set_option maxHeartbeats 4000000 in
set_option maxRecDepth 100000 in
theorem tLc_32 {p : Program} {l : Launch} {e : Env} {s : State} {m : MethodId} {args : Array Value} {below : List Frame} {meth : Method} {c : Code} {H : Heap} {locs : List Loc} {cells slots : Nat} {Q : State → Prop} {E : En0} {b0 n : Nat} {xs : Nat → Int32} {i a1 a2 a3 a4 a5 : Int32} {st : St} {R : St → Prop} {ls : Array Slot}
    (C : Cx E L68 "PlankBridgeLaw" cL_law 9 p s m args c) (hNC : NC s) (hfl : l.stackTraces = false) (hX : va_X b0 n xs s s.heap) (hbl : b0 < s.heap.size) (hbA : ¬ fA E L68 s.heap.size b0)
    (hin1 : vp_in (i + 1) n) (hin2 : vp_in (i + 2) n) (hin3 : vp_in (i + 3) n) (hin4 : vp_in (i + 4) n) (hin5 : vp_in (i + 5) n) (ha1 : xs (i + 1).toNatClampNeg = a1) (ha2 : xs (i + 2).toNatClampNeg = a2) (ha3 : xs (i + 3).toNatClampNeg = a3) (ha4 : xs (i + 4).toNatClampNeg = a4) (ha5 : xs (i + 5).toNatClampNeg = a5)
    (hcs : cells + 12 ≤ 601024) (hss : slots + 3300 ≤ 7293034) (hl : lv_has ls 9 [(0, .ref b0), (1, .ref (E.2.1 0)), (2, .ref (E.2.1 54)), (3, .ref (E.2.1 67)), (4, .int i)]) (hP : va_P E.1 vwCl (wd E L68 st) H) (hS : va_S (fA E L68 s.heap.size) s.heap H locs) (h : wLc_32 a1 a2 a3 a4 a5 st R)
    (hk : ∀ (u : St) (H1 : Heap) (locs1 : List Loc) (ls1 : Array Slot) (c1 s1 : Nat), R u → c1 ≤ cells + 12 → s1 ≤ slots + 3300 → lv_has ls1 9 [(0, .ref b0), (1, .ref (E.2.1 0)), (2, .ref (E.2.1 54)), (3, .ref (E.2.1 67)), (4, .int i)] → va_P E.1 vwCl (wd E L68 u) H1 → va_S (fA E L68 s.heap.size) s.heap H1 locs1 → W p l e room_1 s m args below meth c H1 locs1 c1 s1 Q (F0 m 1914 ls1 [])) :
    W p l e room_1 s m args below meth c H locs cells slots Q (F0 m 1408 ls []) := by
  have hL : Cov 0 68 L68 := fun c _ h2 => List.mem_range.mpr h2
  unfold wLc_32 at h
  refine lv_aload_n C.1 C.2.1 dL_law_1408 rfl (lv_at hl 1 rfl) ?_
  refine lv_aload_n C.1 C.2.1 dL_law_1409 rfl (lv_at hl 0 rfl) ?_
  refine lv_iload C.1 C.2.1 dL_law_1410 (lv_at hl 4 rfl) ?_
  refine lv_iconst C.1 C.2.1 (v := 1) dL_law_1412 rfl ?_
  refine lv_iadd C.1 C.2.1 dL_law_1413  ?_
  refine law_sld C hX hbl hbA hS hin1 ha1 dL_law_1414 ?_
  refine lv_aload_n C.1 C.2.1 dL_law_1415 rfl (lv_at hl 3 rfl) ?_
  refine z_ki hS (z_runSW (As := [.ref (E.2.1 0), .int a1, .ref (E.2.1 67)]) (rest := []) C hNC hP hS (tL_canCrossAlone C.2.2.2.2.2.2.1 hL (show kd 0 = 8 from rfl) (show kd 67 = 23 from rfl) (show ln 67 = 1 from rfl) (hL 67 (Nat.le_of_ble_eq_true rfl) (Nat.le_of_ble_eq_true rfl)) hfl h) q1224 q1225 q104 q1226 hdL_canCrossAlone ⟨(Nat.le_of_ble_eq_true rfl), (Nat.le_of_ble_eq_true rfl)⟩ ⟨lw_f0 hcs (Nat.le_of_ble_eq_true rfl), lw_f0 hss (Nat.le_of_ble_eq_true rfl)⟩ rfl hl.1 rfl (lv_room (Nat.le_of_ble_eq_true rfl)) dL_law_1416) (fun r2 st1 H locs h hP hS => ?_)
  refine lv_istore C.1 C.2.1 dL_law_1419 hl (Nat.le_of_ble_eq_true rfl) rfl (fun ls hl => ?_)
  have hl : lv_has ls 9 [(5, .int r2), (0, .ref b0), (1, .ref (E.2.1 0)), (2, .ref (E.2.1 54)), (3, .ref (E.2.1 67)), (4, .int i)] := hl
  refine lv_aload_n C.1 C.2.1 dL_law_1421 rfl (lv_at hl 3 rfl) ?_
  refine lv_aload_n C.1 C.2.1 dL_law_1422 rfl (lv_at hl 1 rfl) ?_
  refine lv_iload C.1 C.2.1 dL_law_1423 (lv_at hl 5 rfl) ?_
  refine lv_iconst C.1 C.2.1 (v := 1) dL_law_1425 rfl ?_
  refine lv_iadd C.1 C.2.1 dL_law_1426  ?_
  refine law_sld C hX hbl hbA hS hin1 ha1 dL_law_1427 ?_
  refine z_ki hS (z_runV (As := [.int a1]) (rest := []) C hP hS (hL 54 (Nat.le_of_ble_eq_true rfl) (Nat.le_of_ble_eq_true rfl)) (e11 (show kd 54 = 11 from rfl)) rfl (tX12_canCrossAlone C.2.2.2.2.2.2.1 (hL.mo (Nat.le_of_ble_eq_true rfl) (Nat.le_of_ble_eq_true rfl)) (show kd 54 = 11 from rfl) h) q1884 q1885 q1886 q116 q1887 hdX12_canCrossAlone ⟨(Nat.le_of_ble_eq_true rfl), (Nat.le_of_ble_eq_true rfl)⟩ ⟨lw_f1 hcs (Nat.le_of_ble_eq_true rfl), lw_f1 hss (Nat.le_of_ble_eq_true rfl)⟩ rfl hl.1 rfl (lv_room (Nat.le_of_ble_eq_true rfl)) dL_law_1428) (fun r4 st3 H locs h hP hS => ?_)
  obtain ⟨hr4, h⟩ := h
  refine lv_istore C.1 C.2.1 dL_law_1431 hl (Nat.le_of_ble_eq_true rfl) rfl (fun ls hl => ?_)
  have hl : lv_has ls 9 [(6, .int r4), (5, .int r2), (0, .ref b0), (1, .ref (E.2.1 0)), (2, .ref (E.2.1 54)), (3, .ref (E.2.1 67)), (4, .int i)] := hl
  refine lv_aload_n C.1 C.2.1 dL_law_1433 rfl (lv_at hl 4 rfl) ?_
  refine z_ki hS (z_runV (As := []) (rest := []) C hP hS (hL 54 (Nat.le_of_ble_eq_true rfl) (Nat.le_of_ble_eq_true rfl)) (e11 (show kd 54 = 11 from rfl)) rfl (tX12_thrown C.2.2.2.2.2.2.1 (hL.mo (Nat.le_of_ble_eq_true rfl) (Nat.le_of_ble_eq_true rfl)) (show kd 54 = 11 from rfl) h) q1407 q1408 q1409 q116 q1410 hdX12_thrown ⟨(Nat.le_of_ble_eq_true rfl), (Nat.le_of_ble_eq_true rfl)⟩ ⟨lw_f2 hcs (Nat.le_of_ble_eq_true rfl), lw_f2 hss (Nat.le_of_ble_eq_true rfl)⟩ rfl hl.1 rfl (lv_room (Nat.le_of_ble_eq_true rfl)) dL_law_1434) (fun r6 st5 H locs h hP hS => ?_)
  refine lv_iload C.1 C.2.1 dL_law_1437 (lv_at hl 1 rfl) ?_
  refine lv_icmp_eq C.1 C.2.1 (tgt := 1444) dL_law_1439 (by decide) (fun hc => ?_) (fun hc => ?_)
  · have h := h.1 hc
    refine lv_iload C.1 C.2.1 dL_law_1444 (lv_at hl 1 rfl) ?_
    refine lv_if_ne C.1 C.2.1 (tgt := 1468) dL_law_1446 (by decide) (fun hc => ?_) (fun hc => ?_)
    · have h := h.1 hc
      refine lv_goto C.1 C.2.1 (tgt := 1914) dL_law_1468 (by decide) ?_
      exact hk _ _ _ _ _ _ h (lw_g3 (Nat.le_of_ble_eq_true rfl)) (lw_g3 (Nat.le_of_ble_eq_true rfl)) (lv_sub hl [2, 3, 4, 5, 6] rfl) hP hS
    · have h := h.2 hc
      refine lv_aload_n C.1 C.2.1 dL_law_1449 rfl (lv_at hl 5 rfl) ?_
      refine lv_iconst C.1 C.2.1 (v := 0) dL_law_1450 rfl ?_
      obtain ⟨hi, h⟩ := h
      refine z_lald C hP (show kd 67 = 23 from rfl) (show ln 67 = 1 from rfl) (hL 67 (Nat.le_of_ble_eq_true rfl) (Nat.le_of_ble_eq_true rfl)) hi dL_law_1451 ?_
      refine lv_iload C.1 C.2.1 dL_law_1452 (lv_at hl 0 rfl) ?_
      refine lv_if_eq C.1 C.2.1 (tgt := 1461) dL_law_1454 (by decide) (fun hc => ?_) (fun hc => ?_)
      · have h := h.1 hc
        refine lv_lconst C.1 C.2.1 (v := 0) dL_law_1461 rfl ?_
        refine W.lcmp C.1 C.2.1 dL_law_1462 ?_
        refine lv_if_eq C.1 C.2.1 (tgt := 1468) dL_law_1463 (by decide) (fun hc => ?_) (fun hc => ?_)
        · have h := h.1 hc
          refine lv_goto C.1 C.2.1 (tgt := 1914) dL_law_1468 (by decide) ?_
          exact hk _ _ _ _ _ _ h (lw_g3 (Nat.le_of_ble_eq_true rfl)) (lw_g3 (Nat.le_of_ble_eq_true rfl)) (lv_sub hl [2, 3, 4, 5, 6] rfl) hP hS
        · have h := h.2 hc
          exact h.elim
      · have h := h.2 hc
        refine lv_lconst C.1 C.2.1 (v := 1) dL_law_1457 rfl ?_
        refine lv_goto C.1 C.2.1 (tgt := 1462) dL_law_1458 (by decide) ?_
        refine W.lcmp C.1 C.2.1 dL_law_1462 ?_
        refine lv_if_eq C.1 C.2.1 (tgt := 1468) dL_law_1463 (by decide) (fun hc => ?_) (fun hc => ?_)
        · have h := h.1 hc
          refine lv_goto C.1 C.2.1 (tgt := 1914) dL_law_1468 (by decide) ?_
          exact hk _ _ _ _ _ _ h (lw_g3 (Nat.le_of_ble_eq_true rfl)) (lw_g3 (Nat.le_of_ble_eq_true rfl)) (lv_sub hl [2, 3, 4, 5, 6] rfl) hP hS
        · have h := h.2 hc
          exact h.elim
  · have h := h.2 hc
    exact h.elim
def wLc_33 (a1 a2 a3 a4 a5 : Int32) (st : St) (R : St → Prop) : Prop :=
  (wL_canCrossTogether 0 a1 a2 67 st (fun r2 st1 => (wX12_canCrossTogether 54 a1 a2 st1 (fun r4 st3 => (wX12_thrown 54 st3 (fun r6 st5 => ((r6 = r2 → ((¬ r2 = 0 → R st5) ∧ (r2 = 0 → (vp_in 0 1 ∧ ((r4 = 0 → (((lg_cmp (gJ st5 67 (0 : Int32).toNatClampNeg) 0) = 0 → R st5) ∧ (¬ (lg_cmp (gJ st5 67 (0 : Int32).toNatClampNeg) 0) = 0 → False))) ∧ (¬ r4 = 0 → (((lg_cmp (gJ st5 67 (0 : Int32).toNatClampNeg) 1) = 0 → R st5) ∧ (¬ (lg_cmp (gJ st5 67 (0 : Int32).toNatClampNeg) 1) = 0 → False)))))))) ∧ (¬ r6 = r2 → False))))))))
set_option maxHeartbeats 4000000 in
set_option maxRecDepth 100000 in
theorem tLc_33 {p : Program} {l : Launch} {e : Env} {s : State} {m : MethodId} {args : Array Value} {below : List Frame} {meth : Method} {c : Code} {H : Heap} {locs : List Loc} {cells slots : Nat} {Q : State → Prop} {E : En0} {b0 n : Nat} {xs : Nat → Int32} {i a1 a2 a3 a4 a5 : Int32} {st : St} {R : St → Prop} {ls : Array Slot}
    (C : Cx E L68 "PlankBridgeLaw" cL_law 9 p s m args c) (hNC : NC s) (hfl : l.stackTraces = false) (hX : va_X b0 n xs s s.heap) (hbl : b0 < s.heap.size) (hbA : ¬ fA E L68 s.heap.size b0)
    (hin1 : vp_in (i + 1) n) (hin2 : vp_in (i + 2) n) (hin3 : vp_in (i + 3) n) (hin4 : vp_in (i + 4) n) (hin5 : vp_in (i + 5) n) (ha1 : xs (i + 1).toNatClampNeg = a1) (ha2 : xs (i + 2).toNatClampNeg = a2) (ha3 : xs (i + 3).toNatClampNeg = a3) (ha4 : xs (i + 4).toNatClampNeg = a4) (ha5 : xs (i + 5).toNatClampNeg = a5)
    (hcs : cells + 12 ≤ 601024) (hss : slots + 3300 ≤ 7293034) (hl : lv_has ls 9 [(0, .ref b0), (1, .ref (E.2.1 0)), (2, .ref (E.2.1 54)), (3, .ref (E.2.1 67)), (4, .int i)]) (hP : va_P E.1 vwCl (wd E L68 st) H) (hS : va_S (fA E L68 s.heap.size) s.heap H locs) (h : wLc_33 a1 a2 a3 a4 a5 st R)
    (hk : ∀ (u : St) (H1 : Heap) (locs1 : List Loc) (ls1 : Array Slot) (c1 s1 : Nat), R u → c1 ≤ cells + 12 → s1 ≤ slots + 3300 → lv_has ls1 9 [(0, .ref b0), (1, .ref (E.2.1 0)), (2, .ref (E.2.1 54)), (3, .ref (E.2.1 67)), (4, .int i)] → va_P E.1 vwCl (wd E L68 u) H1 → va_S (fA E L68 s.heap.size) s.heap H1 locs1 → W p l e room_1 s m args below meth c H1 locs1 c1 s1 Q (F0 m 1914 ls1 [])) :
    W p l e room_1 s m args below meth c H locs cells slots Q (F0 m 1471 ls []) := by
  have hL : Cov 0 68 L68 := fun c _ h2 => List.mem_range.mpr h2
  unfold wLc_33 at h
  refine lv_aload_n C.1 C.2.1 dL_law_1471 rfl (lv_at hl 1 rfl) ?_
  refine lv_aload_n C.1 C.2.1 dL_law_1472 rfl (lv_at hl 0 rfl) ?_
  refine lv_iload C.1 C.2.1 dL_law_1473 (lv_at hl 4 rfl) ?_
  refine lv_iconst C.1 C.2.1 (v := 1) dL_law_1475 rfl ?_
  refine lv_iadd C.1 C.2.1 dL_law_1476  ?_
  refine law_sld C hX hbl hbA hS hin1 ha1 dL_law_1477 ?_
  refine lv_aload_n C.1 C.2.1 dL_law_1478 rfl (lv_at hl 0 rfl) ?_
  refine lv_iload C.1 C.2.1 dL_law_1479 (lv_at hl 4 rfl) ?_
  refine lv_iconst C.1 C.2.1 (v := 2) dL_law_1481 rfl ?_
  refine lv_iadd C.1 C.2.1 dL_law_1482  ?_
  refine law_sld C hX hbl hbA hS hin2 ha2 dL_law_1483 ?_
  refine lv_aload_n C.1 C.2.1 dL_law_1484 rfl (lv_at hl 3 rfl) ?_
  refine z_ki hS (z_runSW (As := [.ref (E.2.1 0), .int a1, .int a2, .ref (E.2.1 67)]) (rest := []) C hNC hP hS (tL_canCrossTogether C.2.2.2.2.2.2.1 hL (show kd 0 = 8 from rfl) (show kd 67 = 23 from rfl) (show ln 67 = 1 from rfl) (hL 67 (Nat.le_of_ble_eq_true rfl) (Nat.le_of_ble_eq_true rfl)) hfl h) q1239 q1240 q104 q1241 hdL_canCrossTogether ⟨(Nat.le_of_ble_eq_true rfl), (Nat.le_of_ble_eq_true rfl)⟩ ⟨lw_f0 hcs (Nat.le_of_ble_eq_true rfl), lw_f0 hss (Nat.le_of_ble_eq_true rfl)⟩ rfl hl.1 rfl (lv_room (Nat.le_of_ble_eq_true rfl)) dL_law_1485) (fun r2 st1 H locs h hP hS => ?_)
  refine lv_istore C.1 C.2.1 dL_law_1488 hl (Nat.le_of_ble_eq_true rfl) rfl (fun ls hl => ?_)
  have hl : lv_has ls 9 [(5, .int r2), (0, .ref b0), (1, .ref (E.2.1 0)), (2, .ref (E.2.1 54)), (3, .ref (E.2.1 67)), (4, .int i)] := hl
  refine lv_aload_n C.1 C.2.1 dL_law_1490 rfl (lv_at hl 3 rfl) ?_
  refine lv_aload_n C.1 C.2.1 dL_law_1491 rfl (lv_at hl 1 rfl) ?_
  refine lv_iload C.1 C.2.1 dL_law_1492 (lv_at hl 5 rfl) ?_
  refine lv_iconst C.1 C.2.1 (v := 1) dL_law_1494 rfl ?_
  refine lv_iadd C.1 C.2.1 dL_law_1495  ?_
  refine law_sld C hX hbl hbA hS hin1 ha1 dL_law_1496 ?_
  refine lv_aload_n C.1 C.2.1 dL_law_1497 rfl (lv_at hl 1 rfl) ?_
  refine lv_iload C.1 C.2.1 dL_law_1498 (lv_at hl 5 rfl) ?_
  refine lv_iconst C.1 C.2.1 (v := 2) dL_law_1500 rfl ?_
  refine lv_iadd C.1 C.2.1 dL_law_1501  ?_
  refine law_sld C hX hbl hbA hS hin2 ha2 dL_law_1502 ?_
  refine z_ki hS (z_runV (As := [.int a1, .int a2]) (rest := []) C hP hS (hL 54 (Nat.le_of_ble_eq_true rfl) (Nat.le_of_ble_eq_true rfl)) (e11 (show kd 54 = 11 from rfl)) rfl (tX12_canCrossTogether C.2.2.2.2.2.2.1 (hL.mo (Nat.le_of_ble_eq_true rfl) (Nat.le_of_ble_eq_true rfl)) (show kd 54 = 11 from rfl) h) q1900 q1901 q1902 q116 q1903 hdX12_canCrossTogether ⟨(Nat.le_of_ble_eq_true rfl), (Nat.le_of_ble_eq_true rfl)⟩ ⟨lw_f1 hcs (Nat.le_of_ble_eq_true rfl), lw_f1 hss (Nat.le_of_ble_eq_true rfl)⟩ rfl hl.1 rfl (lv_room (Nat.le_of_ble_eq_true rfl)) dL_law_1503) (fun r4 st3 H locs h hP hS => ?_)
  obtain ⟨hr4, h⟩ := h
  refine lv_istore C.1 C.2.1 dL_law_1506 hl (Nat.le_of_ble_eq_true rfl) rfl (fun ls hl => ?_)
  have hl : lv_has ls 9 [(6, .int r4), (5, .int r2), (0, .ref b0), (1, .ref (E.2.1 0)), (2, .ref (E.2.1 54)), (3, .ref (E.2.1 67)), (4, .int i)] := hl
  refine lv_aload_n C.1 C.2.1 dL_law_1508 rfl (lv_at hl 4 rfl) ?_
  refine z_ki hS (z_runV (As := []) (rest := []) C hP hS (hL 54 (Nat.le_of_ble_eq_true rfl) (Nat.le_of_ble_eq_true rfl)) (e11 (show kd 54 = 11 from rfl)) rfl (tX12_thrown C.2.2.2.2.2.2.1 (hL.mo (Nat.le_of_ble_eq_true rfl) (Nat.le_of_ble_eq_true rfl)) (show kd 54 = 11 from rfl) h) q1407 q1408 q1409 q116 q1410 hdX12_thrown ⟨(Nat.le_of_ble_eq_true rfl), (Nat.le_of_ble_eq_true rfl)⟩ ⟨lw_f2 hcs (Nat.le_of_ble_eq_true rfl), lw_f2 hss (Nat.le_of_ble_eq_true rfl)⟩ rfl hl.1 rfl (lv_room (Nat.le_of_ble_eq_true rfl)) dL_law_1509) (fun r6 st5 H locs h hP hS => ?_)
  refine lv_iload C.1 C.2.1 dL_law_1512 (lv_at hl 1 rfl) ?_
  refine lv_icmp_eq C.1 C.2.1 (tgt := 1519) dL_law_1514 (by decide) (fun hc => ?_) (fun hc => ?_)
  · have h := h.1 hc
    refine lv_iload C.1 C.2.1 dL_law_1519 (lv_at hl 1 rfl) ?_
    refine lv_if_ne C.1 C.2.1 (tgt := 1543) dL_law_1521 (by decide) (fun hc => ?_) (fun hc => ?_)
    · have h := h.1 hc
      refine lv_goto C.1 C.2.1 (tgt := 1914) dL_law_1543 (by decide) ?_
      exact hk _ _ _ _ _ _ h (lw_g3 (Nat.le_of_ble_eq_true rfl)) (lw_g3 (Nat.le_of_ble_eq_true rfl)) (lv_sub hl [2, 3, 4, 5, 6] rfl) hP hS
    · have h := h.2 hc
      refine lv_aload_n C.1 C.2.1 dL_law_1524 rfl (lv_at hl 5 rfl) ?_
      refine lv_iconst C.1 C.2.1 (v := 0) dL_law_1525 rfl ?_
      obtain ⟨hi, h⟩ := h
      refine z_lald C hP (show kd 67 = 23 from rfl) (show ln 67 = 1 from rfl) (hL 67 (Nat.le_of_ble_eq_true rfl) (Nat.le_of_ble_eq_true rfl)) hi dL_law_1526 ?_
      refine lv_iload C.1 C.2.1 dL_law_1527 (lv_at hl 0 rfl) ?_
      refine lv_if_eq C.1 C.2.1 (tgt := 1536) dL_law_1529 (by decide) (fun hc => ?_) (fun hc => ?_)
      · have h := h.1 hc
        refine lv_lconst C.1 C.2.1 (v := 0) dL_law_1536 rfl ?_
        refine W.lcmp C.1 C.2.1 dL_law_1537 ?_
        refine lv_if_eq C.1 C.2.1 (tgt := 1543) dL_law_1538 (by decide) (fun hc => ?_) (fun hc => ?_)
        · have h := h.1 hc
          refine lv_goto C.1 C.2.1 (tgt := 1914) dL_law_1543 (by decide) ?_
          exact hk _ _ _ _ _ _ h (lw_g3 (Nat.le_of_ble_eq_true rfl)) (lw_g3 (Nat.le_of_ble_eq_true rfl)) (lv_sub hl [2, 3, 4, 5, 6] rfl) hP hS
        · have h := h.2 hc
          exact h.elim
      · have h := h.2 hc
        refine lv_lconst C.1 C.2.1 (v := 1) dL_law_1532 rfl ?_
        refine lv_goto C.1 C.2.1 (tgt := 1537) dL_law_1533 (by decide) ?_
        refine W.lcmp C.1 C.2.1 dL_law_1537 ?_
        refine lv_if_eq C.1 C.2.1 (tgt := 1543) dL_law_1538 (by decide) (fun hc => ?_) (fun hc => ?_)
        · have h := h.1 hc
          refine lv_goto C.1 C.2.1 (tgt := 1914) dL_law_1543 (by decide) ?_
          exact hk _ _ _ _ _ _ h (lw_g3 (Nat.le_of_ble_eq_true rfl)) (lw_g3 (Nat.le_of_ble_eq_true rfl)) (lv_sub hl [2, 3, 4, 5, 6] rfl) hP hS
        · have h := h.2 hc
          exact h.elim
  · have h := h.2 hc
    exact h.elim
def wLc_34 (a1 a2 a3 a4 a5 : Int32) (st : St) (R : St → Prop) : Prop :=
  (wX9_fewestMinutes 0 st (fun r2 st1 => (wX12_fewestMinutes 54 st1 (fun r4 st3 => ((r2 = r4 → R st3) ∧ (¬ r2 = r4 → False))))))
set_option maxHeartbeats 4000000 in
set_option maxRecDepth 100000 in
theorem tLc_34 {p : Program} {l : Launch} {e : Env} {s : State} {m : MethodId} {args : Array Value} {below : List Frame} {meth : Method} {c : Code} {H : Heap} {locs : List Loc} {cells slots : Nat} {Q : State → Prop} {E : En0} {b0 n : Nat} {xs : Nat → Int32} {i a1 a2 a3 a4 a5 : Int32} {st : St} {R : St → Prop} {ls : Array Slot}
    (C : Cx E L68 "PlankBridgeLaw" cL_law 9 p s m args c) (hNC : NC s) (hfl : l.stackTraces = false) (hX : va_X b0 n xs s s.heap) (hbl : b0 < s.heap.size) (hbA : ¬ fA E L68 s.heap.size b0)
    (hin1 : vp_in (i + 1) n) (hin2 : vp_in (i + 2) n) (hin3 : vp_in (i + 3) n) (hin4 : vp_in (i + 4) n) (hin5 : vp_in (i + 5) n) (ha1 : xs (i + 1).toNatClampNeg = a1) (ha2 : xs (i + 2).toNatClampNeg = a2) (ha3 : xs (i + 3).toNatClampNeg = a3) (ha4 : xs (i + 4).toNatClampNeg = a4) (ha5 : xs (i + 5).toNatClampNeg = a5)
    (hcs : cells + 12 ≤ 601024) (hss : slots + 3300 ≤ 7293034) (hl : lv_has ls 9 [(0, .ref b0), (1, .ref (E.2.1 0)), (2, .ref (E.2.1 54)), (3, .ref (E.2.1 67)), (4, .int i)]) (hP : va_P E.1 vwCl (wd E L68 st) H) (hS : va_S (fA E L68 s.heap.size) s.heap H locs) (h : wLc_34 a1 a2 a3 a4 a5 st R)
    (hk : ∀ (u : St) (H1 : Heap) (locs1 : List Loc) (ls1 : Array Slot) (c1 s1 : Nat), R u → c1 ≤ cells + 12 → s1 ≤ slots + 3300 → lv_has ls1 9 [(0, .ref b0), (1, .ref (E.2.1 0)), (2, .ref (E.2.1 54)), (3, .ref (E.2.1 67)), (4, .int i)] → va_P E.1 vwCl (wd E L68 u) H1 → va_S (fA E L68 s.heap.size) s.heap H1 locs1 → W p l e room_1 s m args below meth c H1 locs1 c1 s1 Q (F0 m 1914 ls1 [])) :
    W p l e room_1 s m args below meth c H locs cells slots Q (F0 m 1546 ls []) := by
  have hL : Cov 0 68 L68 := fun c _ h2 => List.mem_range.mpr h2
  unfold wLc_34 at h
  refine lv_aload_n C.1 C.2.1 dL_law_1546 rfl (lv_at hl 1 rfl) ?_
  refine z_ki hS (z_runV (As := []) (rest := []) C hP hS (hL 0 (Nat.le_of_ble_eq_true rfl) (Nat.le_of_ble_eq_true rfl)) (e8 (show kd 0 = 8 from rfl)) rfl (tX9_fewestMinutes C.2.2.2.2.2.2.1 (hL.mo (Nat.le_of_ble_eq_true rfl) (Nat.le_of_ble_eq_true rfl)) (show kd 0 = 8 from rfl) h) q774 q775 q776 q105 q777 hdX9_fewestMinutes ⟨(Nat.le_of_ble_eq_true rfl), (Nat.le_of_ble_eq_true rfl)⟩ ⟨lw_f0 hcs (Nat.le_of_ble_eq_true rfl), lw_f0 hss (Nat.le_of_ble_eq_true rfl)⟩ rfl hl.1 rfl (lv_room (Nat.le_of_ble_eq_true rfl)) dL_law_1547) (fun r2 st1 H locs h hP hS => ?_)
  refine lv_aload_n C.1 C.2.1 dL_law_1550 rfl (lv_at hl 2 rfl) ?_
  refine z_ki hS (z_runV (As := []) (rest := [.int r2]) C hP hS (hL 54 (Nat.le_of_ble_eq_true rfl) (Nat.le_of_ble_eq_true rfl)) (e11 (show kd 54 = 11 from rfl)) rfl (tX12_fewestMinutes C.2.2.2.2.2.2.1 (hL.mo (Nat.le_of_ble_eq_true rfl) (Nat.le_of_ble_eq_true rfl)) (show kd 54 = 11 from rfl) h) q1904 q1905 q1906 q116 q1907 hdX12_fewestMinutes ⟨(Nat.le_of_ble_eq_true rfl), (Nat.le_of_ble_eq_true rfl)⟩ ⟨lw_f1 hcs (Nat.le_of_ble_eq_true rfl), lw_f1 hss (Nat.le_of_ble_eq_true rfl)⟩ rfl hl.1 rfl (lv_room (Nat.le_of_ble_eq_true rfl)) dL_law_1551) (fun r4 st3 H locs h hP hS => ?_)
  refine lv_icmp_eq C.1 C.2.1 (tgt := 1914) dL_law_1554 (by decide) (fun hc => ?_) (fun hc => ?_)
  · have h := h.1 hc
    exact hk _ _ _ _ _ _ h (lw_g2 (Nat.le_of_ble_eq_true rfl)) (lw_g2 (Nat.le_of_ble_eq_true rfl)) hl hP hS
  · have h := h.2 hc
    exact h.elim
def wLc_35 (a1 a2 a3 a4 a5 : Int32) (st : St) (R : St → Prop) : Prop :=
  (wL_firstToCross 0 67 st (fun r2 st1 => (wX12_firstToCross 54 st1 (fun r4 st3 => (wX12_thrown 54 st3 (fun r6 st5 => ((r6 = r2 → ((¬ r2 = 0 → R st5) ∧ (r2 = 0 → (vp_in 0 1 ∧ (((lg_cmp (gJ st5 67 (0 : Int32).toNatClampNeg) ((r4 : Int32).toInt64)) = 0 → R st5) ∧ (¬ (lg_cmp (gJ st5 67 (0 : Int32).toNatClampNeg) ((r4 : Int32).toInt64)) = 0 → False)))))) ∧ (¬ r6 = r2 → False))))))))
set_option maxHeartbeats 4000000 in
set_option maxRecDepth 100000 in
theorem tLc_35 {p : Program} {l : Launch} {e : Env} {s : State} {m : MethodId} {args : Array Value} {below : List Frame} {meth : Method} {c : Code} {H : Heap} {locs : List Loc} {cells slots : Nat} {Q : State → Prop} {E : En0} {b0 n : Nat} {xs : Nat → Int32} {i a1 a2 a3 a4 a5 : Int32} {st : St} {R : St → Prop} {ls : Array Slot}
    (C : Cx E L68 "PlankBridgeLaw" cL_law 9 p s m args c) (hNC : NC s) (hfl : l.stackTraces = false) (hX : va_X b0 n xs s s.heap) (hbl : b0 < s.heap.size) (hbA : ¬ fA E L68 s.heap.size b0)
    (hin1 : vp_in (i + 1) n) (hin2 : vp_in (i + 2) n) (hin3 : vp_in (i + 3) n) (hin4 : vp_in (i + 4) n) (hin5 : vp_in (i + 5) n) (ha1 : xs (i + 1).toNatClampNeg = a1) (ha2 : xs (i + 2).toNatClampNeg = a2) (ha3 : xs (i + 3).toNatClampNeg = a3) (ha4 : xs (i + 4).toNatClampNeg = a4) (ha5 : xs (i + 5).toNatClampNeg = a5)
    (hcs : cells + 12 ≤ 601024) (hss : slots + 3300 ≤ 7293034) (hl : lv_has ls 9 [(0, .ref b0), (1, .ref (E.2.1 0)), (2, .ref (E.2.1 54)), (3, .ref (E.2.1 67)), (4, .int i)]) (hP : va_P E.1 vwCl (wd E L68 st) H) (hS : va_S (fA E L68 s.heap.size) s.heap H locs) (h : wLc_35 a1 a2 a3 a4 a5 st R)
    (hk : ∀ (u : St) (H1 : Heap) (locs1 : List Loc) (ls1 : Array Slot) (c1 s1 : Nat), R u → c1 ≤ cells + 12 → s1 ≤ slots + 3300 → lv_has ls1 9 [(0, .ref b0), (1, .ref (E.2.1 0)), (2, .ref (E.2.1 54)), (3, .ref (E.2.1 67)), (4, .int i)] → va_P E.1 vwCl (wd E L68 u) H1 → va_S (fA E L68 s.heap.size) s.heap H1 locs1 → W p l e room_1 s m args below meth c H1 locs1 c1 s1 Q (F0 m 1914 ls1 [])) :
    W p l e room_1 s m args below meth c H locs cells slots Q (F0 m 1559 ls []) := by
  have hL : Cov 0 68 L68 := fun c _ h2 => List.mem_range.mpr h2
  unfold wLc_35 at h
  refine lv_aload_n C.1 C.2.1 dL_law_1559 rfl (lv_at hl 1 rfl) ?_
  refine lv_aload_n C.1 C.2.1 dL_law_1560 rfl (lv_at hl 3 rfl) ?_
  refine z_ki hS (z_runSW (As := [.ref (E.2.1 0), .ref (E.2.1 67)]) (rest := []) C hNC hP hS (tL_firstToCross C.2.2.2.2.2.2.1 hL (show kd 0 = 8 from rfl) (show kd 67 = 23 from rfl) (show ln 67 = 1 from rfl) (hL 67 (Nat.le_of_ble_eq_true rfl) (Nat.le_of_ble_eq_true rfl)) hfl h) q1246 q1247 q104 q1248 hdL_firstToCross ⟨(Nat.le_of_ble_eq_true rfl), (Nat.le_of_ble_eq_true rfl)⟩ ⟨lw_f0 hcs (Nat.le_of_ble_eq_true rfl), lw_f0 hss (Nat.le_of_ble_eq_true rfl)⟩ rfl hl.1 rfl (lv_room (Nat.le_of_ble_eq_true rfl)) dL_law_1561) (fun r2 st1 H locs h hP hS => ?_)
  refine lv_istore C.1 C.2.1 dL_law_1564 hl (Nat.le_of_ble_eq_true rfl) rfl (fun ls hl => ?_)
  have hl : lv_has ls 9 [(5, .int r2), (0, .ref b0), (1, .ref (E.2.1 0)), (2, .ref (E.2.1 54)), (3, .ref (E.2.1 67)), (4, .int i)] := hl
  refine lv_aload_n C.1 C.2.1 dL_law_1566 rfl (lv_at hl 3 rfl) ?_
  refine z_ki hS (z_runV (As := []) (rest := []) C hP hS (hL 54 (Nat.le_of_ble_eq_true rfl) (Nat.le_of_ble_eq_true rfl)) (e11 (show kd 54 = 11 from rfl)) rfl (tX12_firstToCross C.2.2.2.2.2.2.1 (hL.mo (Nat.le_of_ble_eq_true rfl) (Nat.le_of_ble_eq_true rfl)) (show kd 54 = 11 from rfl) h) q1925 q1926 q1927 q116 q1928 hdX12_firstToCross ⟨(Nat.le_of_ble_eq_true rfl), (Nat.le_of_ble_eq_true rfl)⟩ ⟨lw_f1 hcs (Nat.le_of_ble_eq_true rfl), lw_f1 hss (Nat.le_of_ble_eq_true rfl)⟩ rfl hl.1 rfl (lv_room (Nat.le_of_ble_eq_true rfl)) dL_law_1567) (fun r4 st3 H locs h hP hS => ?_)
  refine lv_istore C.1 C.2.1 dL_law_1570 hl (Nat.le_of_ble_eq_true rfl) rfl (fun ls hl => ?_)
  have hl : lv_has ls 9 [(6, .int r4), (5, .int r2), (0, .ref b0), (1, .ref (E.2.1 0)), (2, .ref (E.2.1 54)), (3, .ref (E.2.1 67)), (4, .int i)] := hl
  refine lv_aload_n C.1 C.2.1 dL_law_1572 rfl (lv_at hl 4 rfl) ?_
  refine z_ki hS (z_runV (As := []) (rest := []) C hP hS (hL 54 (Nat.le_of_ble_eq_true rfl) (Nat.le_of_ble_eq_true rfl)) (e11 (show kd 54 = 11 from rfl)) rfl (tX12_thrown C.2.2.2.2.2.2.1 (hL.mo (Nat.le_of_ble_eq_true rfl) (Nat.le_of_ble_eq_true rfl)) (show kd 54 = 11 from rfl) h) q1407 q1408 q1409 q116 q1410 hdX12_thrown ⟨(Nat.le_of_ble_eq_true rfl), (Nat.le_of_ble_eq_true rfl)⟩ ⟨lw_f2 hcs (Nat.le_of_ble_eq_true rfl), lw_f2 hss (Nat.le_of_ble_eq_true rfl)⟩ rfl hl.1 rfl (lv_room (Nat.le_of_ble_eq_true rfl)) dL_law_1573) (fun r6 st5 H locs h hP hS => ?_)
  refine lv_iload C.1 C.2.1 dL_law_1576 (lv_at hl 1 rfl) ?_
  refine lv_icmp_eq C.1 C.2.1 (tgt := 1583) dL_law_1578 (by decide) (fun hc => ?_) (fun hc => ?_)
  · have h := h.1 hc
    refine lv_iload C.1 C.2.1 dL_law_1583 (lv_at hl 1 rfl) ?_
    refine lv_if_ne C.1 C.2.1 (tgt := 1600) dL_law_1585 (by decide) (fun hc => ?_) (fun hc => ?_)
    · have h := h.1 hc
      refine lv_goto C.1 C.2.1 (tgt := 1914) dL_law_1600 (by decide) ?_
      exact hk _ _ _ _ _ _ h (lw_g3 (Nat.le_of_ble_eq_true rfl)) (lw_g3 (Nat.le_of_ble_eq_true rfl)) (lv_sub hl [2, 3, 4, 5, 6] rfl) hP hS
    · have h := h.2 hc
      refine lv_aload_n C.1 C.2.1 dL_law_1588 rfl (lv_at hl 5 rfl) ?_
      refine lv_iconst C.1 C.2.1 (v := 0) dL_law_1589 rfl ?_
      obtain ⟨hi, h⟩ := h
      refine z_lald C hP (show kd 67 = 23 from rfl) (show ln 67 = 1 from rfl) (hL 67 (Nat.le_of_ble_eq_true rfl) (Nat.le_of_ble_eq_true rfl)) hi dL_law_1590 ?_
      refine lv_iload C.1 C.2.1 dL_law_1591 (lv_at hl 0 rfl) ?_
      refine t_i2l C.1 C.2.1 dL_law_1593 rfl ?_
      refine W.lcmp C.1 C.2.1 dL_law_1594 ?_
      refine lv_if_eq C.1 C.2.1 (tgt := 1600) dL_law_1595 (by decide) (fun hc => ?_) (fun hc => ?_)
      · have h := h.1 hc
        refine lv_goto C.1 C.2.1 (tgt := 1914) dL_law_1600 (by decide) ?_
        exact hk _ _ _ _ _ _ h (lw_g3 (Nat.le_of_ble_eq_true rfl)) (lw_g3 (Nat.le_of_ble_eq_true rfl)) (lv_sub hl [2, 3, 4, 5, 6] rfl) hP hS
      · have h := h.2 hc
        exact h.elim
  · have h := h.2 hc
    exact h.elim
def wLc_36 (a1 a2 a3 a4 a5 : Int32) (st : St) (R : St → Prop) : Prop :=
  (wL_secondToCross 0 67 st (fun r2 st1 => (wX12_secondToCross 54 st1 (fun r4 st3 => (wX12_thrown 54 st3 (fun r6 st5 => ((r6 = r2 → ((¬ r2 = 0 → R st5) ∧ (r2 = 0 → (vp_in 0 1 ∧ (((lg_cmp (gJ st5 67 (0 : Int32).toNatClampNeg) ((r4 : Int32).toInt64)) = 0 → R st5) ∧ (¬ (lg_cmp (gJ st5 67 (0 : Int32).toNatClampNeg) ((r4 : Int32).toInt64)) = 0 → False)))))) ∧ (¬ r6 = r2 → False))))))))
set_option maxHeartbeats 4000000 in
set_option maxRecDepth 100000 in
theorem tLc_36 {p : Program} {l : Launch} {e : Env} {s : State} {m : MethodId} {args : Array Value} {below : List Frame} {meth : Method} {c : Code} {H : Heap} {locs : List Loc} {cells slots : Nat} {Q : State → Prop} {E : En0} {b0 n : Nat} {xs : Nat → Int32} {i a1 a2 a3 a4 a5 : Int32} {st : St} {R : St → Prop} {ls : Array Slot}
    (C : Cx E L68 "PlankBridgeLaw" cL_law 9 p s m args c) (hNC : NC s) (hfl : l.stackTraces = false) (hX : va_X b0 n xs s s.heap) (hbl : b0 < s.heap.size) (hbA : ¬ fA E L68 s.heap.size b0)
    (hin1 : vp_in (i + 1) n) (hin2 : vp_in (i + 2) n) (hin3 : vp_in (i + 3) n) (hin4 : vp_in (i + 4) n) (hin5 : vp_in (i + 5) n) (ha1 : xs (i + 1).toNatClampNeg = a1) (ha2 : xs (i + 2).toNatClampNeg = a2) (ha3 : xs (i + 3).toNatClampNeg = a3) (ha4 : xs (i + 4).toNatClampNeg = a4) (ha5 : xs (i + 5).toNatClampNeg = a5)
    (hcs : cells + 12 ≤ 601024) (hss : slots + 3300 ≤ 7293034) (hl : lv_has ls 9 [(0, .ref b0), (1, .ref (E.2.1 0)), (2, .ref (E.2.1 54)), (3, .ref (E.2.1 67)), (4, .int i)]) (hP : va_P E.1 vwCl (wd E L68 st) H) (hS : va_S (fA E L68 s.heap.size) s.heap H locs) (h : wLc_36 a1 a2 a3 a4 a5 st R)
    (hk : ∀ (u : St) (H1 : Heap) (locs1 : List Loc) (ls1 : Array Slot) (c1 s1 : Nat), R u → c1 ≤ cells + 12 → s1 ≤ slots + 3300 → lv_has ls1 9 [(0, .ref b0), (1, .ref (E.2.1 0)), (2, .ref (E.2.1 54)), (3, .ref (E.2.1 67)), (4, .int i)] → va_P E.1 vwCl (wd E L68 u) H1 → va_S (fA E L68 s.heap.size) s.heap H1 locs1 → W p l e room_1 s m args below meth c H1 locs1 c1 s1 Q (F0 m 1914 ls1 [])) :
    W p l e room_1 s m args below meth c H locs cells slots Q (F0 m 1603 ls []) := by
  have hL : Cov 0 68 L68 := fun c _ h2 => List.mem_range.mpr h2
  unfold wLc_36 at h
  refine lv_aload_n C.1 C.2.1 dL_law_1603 rfl (lv_at hl 1 rfl) ?_
  refine lv_aload_n C.1 C.2.1 dL_law_1604 rfl (lv_at hl 3 rfl) ?_
  refine z_ki hS (z_runSW (As := [.ref (E.2.1 0), .ref (E.2.1 67)]) (rest := []) C hNC hP hS (tL_secondToCross C.2.2.2.2.2.2.1 hL (show kd 0 = 8 from rfl) (show kd 67 = 23 from rfl) (show ln 67 = 1 from rfl) (hL 67 (Nat.le_of_ble_eq_true rfl) (Nat.le_of_ble_eq_true rfl)) hfl h) q1262 q1263 q104 q1264 hdL_secondToCross ⟨(Nat.le_of_ble_eq_true rfl), (Nat.le_of_ble_eq_true rfl)⟩ ⟨lw_f0 hcs (Nat.le_of_ble_eq_true rfl), lw_f0 hss (Nat.le_of_ble_eq_true rfl)⟩ rfl hl.1 rfl (lv_room (Nat.le_of_ble_eq_true rfl)) dL_law_1605) (fun r2 st1 H locs h hP hS => ?_)
  refine lv_istore C.1 C.2.1 dL_law_1608 hl (Nat.le_of_ble_eq_true rfl) rfl (fun ls hl => ?_)
  have hl : lv_has ls 9 [(5, .int r2), (0, .ref b0), (1, .ref (E.2.1 0)), (2, .ref (E.2.1 54)), (3, .ref (E.2.1 67)), (4, .int i)] := hl
  refine lv_aload_n C.1 C.2.1 dL_law_1610 rfl (lv_at hl 3 rfl) ?_
  refine z_ki hS (z_runV (As := []) (rest := []) C hP hS (hL 54 (Nat.le_of_ble_eq_true rfl) (Nat.le_of_ble_eq_true rfl)) (e11 (show kd 54 = 11 from rfl)) rfl (tX12_secondToCross C.2.2.2.2.2.2.1 (hL.mo (Nat.le_of_ble_eq_true rfl) (Nat.le_of_ble_eq_true rfl)) (show kd 54 = 11 from rfl) h) q1937 q1938 q1939 q116 q1940 hdX12_secondToCross ⟨(Nat.le_of_ble_eq_true rfl), (Nat.le_of_ble_eq_true rfl)⟩ ⟨lw_f1 hcs (Nat.le_of_ble_eq_true rfl), lw_f1 hss (Nat.le_of_ble_eq_true rfl)⟩ rfl hl.1 rfl (lv_room (Nat.le_of_ble_eq_true rfl)) dL_law_1611) (fun r4 st3 H locs h hP hS => ?_)
  refine lv_istore C.1 C.2.1 dL_law_1614 hl (Nat.le_of_ble_eq_true rfl) rfl (fun ls hl => ?_)
  have hl : lv_has ls 9 [(6, .int r4), (5, .int r2), (0, .ref b0), (1, .ref (E.2.1 0)), (2, .ref (E.2.1 54)), (3, .ref (E.2.1 67)), (4, .int i)] := hl
  refine lv_aload_n C.1 C.2.1 dL_law_1616 rfl (lv_at hl 4 rfl) ?_
  refine z_ki hS (z_runV (As := []) (rest := []) C hP hS (hL 54 (Nat.le_of_ble_eq_true rfl) (Nat.le_of_ble_eq_true rfl)) (e11 (show kd 54 = 11 from rfl)) rfl (tX12_thrown C.2.2.2.2.2.2.1 (hL.mo (Nat.le_of_ble_eq_true rfl) (Nat.le_of_ble_eq_true rfl)) (show kd 54 = 11 from rfl) h) q1407 q1408 q1409 q116 q1410 hdX12_thrown ⟨(Nat.le_of_ble_eq_true rfl), (Nat.le_of_ble_eq_true rfl)⟩ ⟨lw_f2 hcs (Nat.le_of_ble_eq_true rfl), lw_f2 hss (Nat.le_of_ble_eq_true rfl)⟩ rfl hl.1 rfl (lv_room (Nat.le_of_ble_eq_true rfl)) dL_law_1617) (fun r6 st5 H locs h hP hS => ?_)
  refine lv_iload C.1 C.2.1 dL_law_1620 (lv_at hl 1 rfl) ?_
  refine lv_icmp_eq C.1 C.2.1 (tgt := 1627) dL_law_1622 (by decide) (fun hc => ?_) (fun hc => ?_)
  · have h := h.1 hc
    refine lv_iload C.1 C.2.1 dL_law_1627 (lv_at hl 1 rfl) ?_
    refine lv_if_ne C.1 C.2.1 (tgt := 1644) dL_law_1629 (by decide) (fun hc => ?_) (fun hc => ?_)
    · have h := h.1 hc
      refine lv_goto C.1 C.2.1 (tgt := 1914) dL_law_1644 (by decide) ?_
      exact hk _ _ _ _ _ _ h (lw_g3 (Nat.le_of_ble_eq_true rfl)) (lw_g3 (Nat.le_of_ble_eq_true rfl)) (lv_sub hl [2, 3, 4, 5, 6] rfl) hP hS
    · have h := h.2 hc
      refine lv_aload_n C.1 C.2.1 dL_law_1632 rfl (lv_at hl 5 rfl) ?_
      refine lv_iconst C.1 C.2.1 (v := 0) dL_law_1633 rfl ?_
      obtain ⟨hi, h⟩ := h
      refine z_lald C hP (show kd 67 = 23 from rfl) (show ln 67 = 1 from rfl) (hL 67 (Nat.le_of_ble_eq_true rfl) (Nat.le_of_ble_eq_true rfl)) hi dL_law_1634 ?_
      refine lv_iload C.1 C.2.1 dL_law_1635 (lv_at hl 0 rfl) ?_
      refine t_i2l C.1 C.2.1 dL_law_1637 rfl ?_
      refine W.lcmp C.1 C.2.1 dL_law_1638 ?_
      refine lv_if_eq C.1 C.2.1 (tgt := 1644) dL_law_1639 (by decide) (fun hc => ?_) (fun hc => ?_)
      · have h := h.1 hc
        refine lv_goto C.1 C.2.1 (tgt := 1914) dL_law_1644 (by decide) ?_
        exact hk _ _ _ _ _ _ h (lw_g3 (Nat.le_of_ble_eq_true rfl)) (lw_g3 (Nat.le_of_ble_eq_true rfl)) (lv_sub hl [2, 3, 4, 5, 6] rfl) hP hS
      · have h := h.2 hc
        exact h.elim
  · have h := h.2 hc
    exact h.elim
def wLc_37 (a1 a2 a3 a4 a5 : Int32) (st : St) (R : St → Prop) : Prop :=
  (wL_actsOfPlan 0 a1 67 st (fun r2 st1 => (wX12_actsOfPlan 54 a1 st1 (fun r4 st3 => (wX12_thrown 54 st3 (fun r6 st5 => ((r6 = r2 → ((¬ r2 = 0 → R st5) ∧ (r2 = 0 → (vp_in 0 1 ∧ (((lg_cmp (gJ st5 67 (0 : Int32).toNatClampNeg) ((r4 : Int32).toInt64)) = 0 → R st5) ∧ (¬ (lg_cmp (gJ st5 67 (0 : Int32).toNatClampNeg) ((r4 : Int32).toInt64)) = 0 → False)))))) ∧ (¬ r6 = r2 → False))))))))
set_option maxHeartbeats 4000000 in
set_option maxRecDepth 100000 in
theorem tLc_37 {p : Program} {l : Launch} {e : Env} {s : State} {m : MethodId} {args : Array Value} {below : List Frame} {meth : Method} {c : Code} {H : Heap} {locs : List Loc} {cells slots : Nat} {Q : State → Prop} {E : En0} {b0 n : Nat} {xs : Nat → Int32} {i a1 a2 a3 a4 a5 : Int32} {st : St} {R : St → Prop} {ls : Array Slot}
    (C : Cx E L68 "PlankBridgeLaw" cL_law 9 p s m args c) (hNC : NC s) (hfl : l.stackTraces = false) (hX : va_X b0 n xs s s.heap) (hbl : b0 < s.heap.size) (hbA : ¬ fA E L68 s.heap.size b0)
    (hin1 : vp_in (i + 1) n) (hin2 : vp_in (i + 2) n) (hin3 : vp_in (i + 3) n) (hin4 : vp_in (i + 4) n) (hin5 : vp_in (i + 5) n) (ha1 : xs (i + 1).toNatClampNeg = a1) (ha2 : xs (i + 2).toNatClampNeg = a2) (ha3 : xs (i + 3).toNatClampNeg = a3) (ha4 : xs (i + 4).toNatClampNeg = a4) (ha5 : xs (i + 5).toNatClampNeg = a5)
    (hcs : cells + 12 ≤ 601024) (hss : slots + 3300 ≤ 7293034) (hl : lv_has ls 9 [(0, .ref b0), (1, .ref (E.2.1 0)), (2, .ref (E.2.1 54)), (3, .ref (E.2.1 67)), (4, .int i)]) (hP : va_P E.1 vwCl (wd E L68 st) H) (hS : va_S (fA E L68 s.heap.size) s.heap H locs) (h : wLc_37 a1 a2 a3 a4 a5 st R)
    (hk : ∀ (u : St) (H1 : Heap) (locs1 : List Loc) (ls1 : Array Slot) (c1 s1 : Nat), R u → c1 ≤ cells + 12 → s1 ≤ slots + 3300 → lv_has ls1 9 [(0, .ref b0), (1, .ref (E.2.1 0)), (2, .ref (E.2.1 54)), (3, .ref (E.2.1 67)), (4, .int i)] → va_P E.1 vwCl (wd E L68 u) H1 → va_S (fA E L68 s.heap.size) s.heap H1 locs1 → W p l e room_1 s m args below meth c H1 locs1 c1 s1 Q (F0 m 1914 ls1 [])) :
    W p l e room_1 s m args below meth c H locs cells slots Q (F0 m 1647 ls []) := by
  have hL : Cov 0 68 L68 := fun c _ h2 => List.mem_range.mpr h2
  unfold wLc_37 at h
  refine lv_aload_n C.1 C.2.1 dL_law_1647 rfl (lv_at hl 1 rfl) ?_
  refine lv_aload_n C.1 C.2.1 dL_law_1648 rfl (lv_at hl 0 rfl) ?_
  refine lv_iload C.1 C.2.1 dL_law_1649 (lv_at hl 4 rfl) ?_
  refine lv_iconst C.1 C.2.1 (v := 1) dL_law_1651 rfl ?_
  refine lv_iadd C.1 C.2.1 dL_law_1652  ?_
  refine law_sld C hX hbl hbA hS hin1 ha1 dL_law_1653 ?_
  refine lv_aload_n C.1 C.2.1 dL_law_1654 rfl (lv_at hl 3 rfl) ?_
  refine z_ki hS (z_runSW (As := [.ref (E.2.1 0), .int a1, .ref (E.2.1 67)]) (rest := []) C hNC hP hS (tL_actsOfPlan C.2.2.2.2.2.2.1 hL (show kd 0 = 8 from rfl) (show kd 67 = 23 from rfl) (show ln 67 = 1 from rfl) (hL 67 (Nat.le_of_ble_eq_true rfl) (Nat.le_of_ble_eq_true rfl)) hfl h) q1273 q1274 q104 q1275 hdL_actsOfPlan ⟨(Nat.le_of_ble_eq_true rfl), (Nat.le_of_ble_eq_true rfl)⟩ ⟨lw_f0 hcs (Nat.le_of_ble_eq_true rfl), lw_f0 hss (Nat.le_of_ble_eq_true rfl)⟩ rfl hl.1 rfl (lv_room (Nat.le_of_ble_eq_true rfl)) dL_law_1655) (fun r2 st1 H locs h hP hS => ?_)
  refine lv_istore C.1 C.2.1 dL_law_1658 hl (Nat.le_of_ble_eq_true rfl) rfl (fun ls hl => ?_)
  have hl : lv_has ls 9 [(5, .int r2), (0, .ref b0), (1, .ref (E.2.1 0)), (2, .ref (E.2.1 54)), (3, .ref (E.2.1 67)), (4, .int i)] := hl
  refine lv_aload_n C.1 C.2.1 dL_law_1660 rfl (lv_at hl 3 rfl) ?_
  refine lv_aload_n C.1 C.2.1 dL_law_1661 rfl (lv_at hl 1 rfl) ?_
  refine lv_iload C.1 C.2.1 dL_law_1662 (lv_at hl 5 rfl) ?_
  refine lv_iconst C.1 C.2.1 (v := 1) dL_law_1664 rfl ?_
  refine lv_iadd C.1 C.2.1 dL_law_1665  ?_
  refine law_sld C hX hbl hbA hS hin1 ha1 dL_law_1666 ?_
  refine z_ki hS (z_runV (As := [.int a1]) (rest := []) C hP hS (hL 54 (Nat.le_of_ble_eq_true rfl) (Nat.le_of_ble_eq_true rfl)) (e11 (show kd 54 = 11 from rfl)) rfl (tX12_actsOfPlan C.2.2.2.2.2.2.1 (hL.mo (Nat.le_of_ble_eq_true rfl) (Nat.le_of_ble_eq_true rfl)) (show kd 54 = 11 from rfl) h) q1941 q1942 q1943 q116 q1944 hdX12_actsOfPlan ⟨(Nat.le_of_ble_eq_true rfl), (Nat.le_of_ble_eq_true rfl)⟩ ⟨lw_f1 hcs (Nat.le_of_ble_eq_true rfl), lw_f1 hss (Nat.le_of_ble_eq_true rfl)⟩ rfl hl.1 rfl (lv_room (Nat.le_of_ble_eq_true rfl)) dL_law_1667) (fun r4 st3 H locs h hP hS => ?_)
  refine lv_istore C.1 C.2.1 dL_law_1670 hl (Nat.le_of_ble_eq_true rfl) rfl (fun ls hl => ?_)
  have hl : lv_has ls 9 [(6, .int r4), (5, .int r2), (0, .ref b0), (1, .ref (E.2.1 0)), (2, .ref (E.2.1 54)), (3, .ref (E.2.1 67)), (4, .int i)] := hl
  refine lv_aload_n C.1 C.2.1 dL_law_1672 rfl (lv_at hl 4 rfl) ?_
  refine z_ki hS (z_runV (As := []) (rest := []) C hP hS (hL 54 (Nat.le_of_ble_eq_true rfl) (Nat.le_of_ble_eq_true rfl)) (e11 (show kd 54 = 11 from rfl)) rfl (tX12_thrown C.2.2.2.2.2.2.1 (hL.mo (Nat.le_of_ble_eq_true rfl) (Nat.le_of_ble_eq_true rfl)) (show kd 54 = 11 from rfl) h) q1407 q1408 q1409 q116 q1410 hdX12_thrown ⟨(Nat.le_of_ble_eq_true rfl), (Nat.le_of_ble_eq_true rfl)⟩ ⟨lw_f2 hcs (Nat.le_of_ble_eq_true rfl), lw_f2 hss (Nat.le_of_ble_eq_true rfl)⟩ rfl hl.1 rfl (lv_room (Nat.le_of_ble_eq_true rfl)) dL_law_1673) (fun r6 st5 H locs h hP hS => ?_)
  refine lv_iload C.1 C.2.1 dL_law_1676 (lv_at hl 1 rfl) ?_
  refine lv_icmp_eq C.1 C.2.1 (tgt := 1683) dL_law_1678 (by decide) (fun hc => ?_) (fun hc => ?_)
  · have h := h.1 hc
    refine lv_iload C.1 C.2.1 dL_law_1683 (lv_at hl 1 rfl) ?_
    refine lv_if_ne C.1 C.2.1 (tgt := 1700) dL_law_1685 (by decide) (fun hc => ?_) (fun hc => ?_)
    · have h := h.1 hc
      refine lv_goto C.1 C.2.1 (tgt := 1914) dL_law_1700 (by decide) ?_
      exact hk _ _ _ _ _ _ h (lw_g3 (Nat.le_of_ble_eq_true rfl)) (lw_g3 (Nat.le_of_ble_eq_true rfl)) (lv_sub hl [2, 3, 4, 5, 6] rfl) hP hS
    · have h := h.2 hc
      refine lv_aload_n C.1 C.2.1 dL_law_1688 rfl (lv_at hl 5 rfl) ?_
      refine lv_iconst C.1 C.2.1 (v := 0) dL_law_1689 rfl ?_
      obtain ⟨hi, h⟩ := h
      refine z_lald C hP (show kd 67 = 23 from rfl) (show ln 67 = 1 from rfl) (hL 67 (Nat.le_of_ble_eq_true rfl) (Nat.le_of_ble_eq_true rfl)) hi dL_law_1690 ?_
      refine lv_iload C.1 C.2.1 dL_law_1691 (lv_at hl 0 rfl) ?_
      refine t_i2l C.1 C.2.1 dL_law_1693 rfl ?_
      refine W.lcmp C.1 C.2.1 dL_law_1694 ?_
      refine lv_if_eq C.1 C.2.1 (tgt := 1700) dL_law_1695 (by decide) (fun hc => ?_) (fun hc => ?_)
      · have h := h.1 hc
        refine lv_goto C.1 C.2.1 (tgt := 1914) dL_law_1700 (by decide) ?_
        exact hk _ _ _ _ _ _ h (lw_g3 (Nat.le_of_ble_eq_true rfl)) (lw_g3 (Nat.le_of_ble_eq_true rfl)) (lv_sub hl [2, 3, 4, 5, 6] rfl) hP hS
      · have h := h.2 hc
        exact h.elim
  · have h := h.2 hc
    exact h.elim
def wLc_38 (a1 a2 a3 a4 a5 : Int32) (st : St) (R : St → Prop) : Prop :=
  (wL_farBehindPlan 0 a1 67 st (fun r2 st1 => (wX12_farBehindPlan 54 a1 st1 (fun r4 st3 => (wX12_thrown 54 st3 (fun r6 st5 => ((r6 = r2 → ((¬ r2 = 0 → R st5) ∧ (r2 = 0 → (vp_in 0 1 ∧ (((lg_cmp (gJ st5 67 (0 : Int32).toNatClampNeg) ((r4 : Int32).toInt64)) = 0 → R st5) ∧ (¬ (lg_cmp (gJ st5 67 (0 : Int32).toNatClampNeg) ((r4 : Int32).toInt64)) = 0 → False)))))) ∧ (¬ r6 = r2 → False))))))))
set_option maxHeartbeats 4000000 in
set_option maxRecDepth 100000 in
theorem tLc_38 {p : Program} {l : Launch} {e : Env} {s : State} {m : MethodId} {args : Array Value} {below : List Frame} {meth : Method} {c : Code} {H : Heap} {locs : List Loc} {cells slots : Nat} {Q : State → Prop} {E : En0} {b0 n : Nat} {xs : Nat → Int32} {i a1 a2 a3 a4 a5 : Int32} {st : St} {R : St → Prop} {ls : Array Slot}
    (C : Cx E L68 "PlankBridgeLaw" cL_law 9 p s m args c) (hNC : NC s) (hfl : l.stackTraces = false) (hX : va_X b0 n xs s s.heap) (hbl : b0 < s.heap.size) (hbA : ¬ fA E L68 s.heap.size b0)
    (hin1 : vp_in (i + 1) n) (hin2 : vp_in (i + 2) n) (hin3 : vp_in (i + 3) n) (hin4 : vp_in (i + 4) n) (hin5 : vp_in (i + 5) n) (ha1 : xs (i + 1).toNatClampNeg = a1) (ha2 : xs (i + 2).toNatClampNeg = a2) (ha3 : xs (i + 3).toNatClampNeg = a3) (ha4 : xs (i + 4).toNatClampNeg = a4) (ha5 : xs (i + 5).toNatClampNeg = a5)
    (hcs : cells + 12 ≤ 601024) (hss : slots + 3300 ≤ 7293034) (hl : lv_has ls 9 [(0, .ref b0), (1, .ref (E.2.1 0)), (2, .ref (E.2.1 54)), (3, .ref (E.2.1 67)), (4, .int i)]) (hP : va_P E.1 vwCl (wd E L68 st) H) (hS : va_S (fA E L68 s.heap.size) s.heap H locs) (h : wLc_38 a1 a2 a3 a4 a5 st R)
    (hk : ∀ (u : St) (H1 : Heap) (locs1 : List Loc) (ls1 : Array Slot) (c1 s1 : Nat), R u → c1 ≤ cells + 12 → s1 ≤ slots + 3300 → lv_has ls1 9 [(0, .ref b0), (1, .ref (E.2.1 0)), (2, .ref (E.2.1 54)), (3, .ref (E.2.1 67)), (4, .int i)] → va_P E.1 vwCl (wd E L68 u) H1 → va_S (fA E L68 s.heap.size) s.heap H1 locs1 → W p l e room_1 s m args below meth c H1 locs1 c1 s1 Q (F0 m 1914 ls1 [])) :
    W p l e room_1 s m args below meth c H locs cells slots Q (F0 m 1703 ls []) := by
  have hL : Cov 0 68 L68 := fun c _ h2 => List.mem_range.mpr h2
  unfold wLc_38 at h
  refine lv_aload_n C.1 C.2.1 dL_law_1703 rfl (lv_at hl 1 rfl) ?_
  refine lv_aload_n C.1 C.2.1 dL_law_1704 rfl (lv_at hl 0 rfl) ?_
  refine lv_iload C.1 C.2.1 dL_law_1705 (lv_at hl 4 rfl) ?_
  refine lv_iconst C.1 C.2.1 (v := 1) dL_law_1707 rfl ?_
  refine lv_iadd C.1 C.2.1 dL_law_1708  ?_
  refine law_sld C hX hbl hbA hS hin1 ha1 dL_law_1709 ?_
  refine lv_aload_n C.1 C.2.1 dL_law_1710 rfl (lv_at hl 3 rfl) ?_
  refine z_ki hS (z_runSW (As := [.ref (E.2.1 0), .int a1, .ref (E.2.1 67)]) (rest := []) C hNC hP hS (tL_farBehindPlan C.2.2.2.2.2.2.1 hL (show kd 0 = 8 from rfl) (show kd 67 = 23 from rfl) (show ln 67 = 1 from rfl) (hL 67 (Nat.le_of_ble_eq_true rfl) (Nat.le_of_ble_eq_true rfl)) hfl h) q1280 q1281 q104 q1282 hdL_farBehindPlan ⟨(Nat.le_of_ble_eq_true rfl), (Nat.le_of_ble_eq_true rfl)⟩ ⟨lw_f0 hcs (Nat.le_of_ble_eq_true rfl), lw_f0 hss (Nat.le_of_ble_eq_true rfl)⟩ rfl hl.1 rfl (lv_room (Nat.le_of_ble_eq_true rfl)) dL_law_1711) (fun r2 st1 H locs h hP hS => ?_)
  refine lv_istore C.1 C.2.1 dL_law_1714 hl (Nat.le_of_ble_eq_true rfl) rfl (fun ls hl => ?_)
  have hl : lv_has ls 9 [(5, .int r2), (0, .ref b0), (1, .ref (E.2.1 0)), (2, .ref (E.2.1 54)), (3, .ref (E.2.1 67)), (4, .int i)] := hl
  refine lv_aload_n C.1 C.2.1 dL_law_1716 rfl (lv_at hl 3 rfl) ?_
  refine lv_aload_n C.1 C.2.1 dL_law_1717 rfl (lv_at hl 1 rfl) ?_
  refine lv_iload C.1 C.2.1 dL_law_1718 (lv_at hl 5 rfl) ?_
  refine lv_iconst C.1 C.2.1 (v := 1) dL_law_1720 rfl ?_
  refine lv_iadd C.1 C.2.1 dL_law_1721  ?_
  refine law_sld C hX hbl hbA hS hin1 ha1 dL_law_1722 ?_
  refine z_ki hS (z_runV (As := [.int a1]) (rest := []) C hP hS (hL 54 (Nat.le_of_ble_eq_true rfl) (Nat.le_of_ble_eq_true rfl)) (e11 (show kd 54 = 11 from rfl)) rfl (tX12_farBehindPlan C.2.2.2.2.2.2.1 (hL.mo (Nat.le_of_ble_eq_true rfl) (Nat.le_of_ble_eq_true rfl)) (show kd 54 = 11 from rfl) h) q1945 q1946 q1947 q116 q1948 hdX12_farBehindPlan ⟨(Nat.le_of_ble_eq_true rfl), (Nat.le_of_ble_eq_true rfl)⟩ ⟨lw_f1 hcs (Nat.le_of_ble_eq_true rfl), lw_f1 hss (Nat.le_of_ble_eq_true rfl)⟩ rfl hl.1 rfl (lv_room (Nat.le_of_ble_eq_true rfl)) dL_law_1723) (fun r4 st3 H locs h hP hS => ?_)
  refine lv_istore C.1 C.2.1 dL_law_1726 hl (Nat.le_of_ble_eq_true rfl) rfl (fun ls hl => ?_)
  have hl : lv_has ls 9 [(6, .int r4), (5, .int r2), (0, .ref b0), (1, .ref (E.2.1 0)), (2, .ref (E.2.1 54)), (3, .ref (E.2.1 67)), (4, .int i)] := hl
  refine lv_aload_n C.1 C.2.1 dL_law_1728 rfl (lv_at hl 4 rfl) ?_
  refine z_ki hS (z_runV (As := []) (rest := []) C hP hS (hL 54 (Nat.le_of_ble_eq_true rfl) (Nat.le_of_ble_eq_true rfl)) (e11 (show kd 54 = 11 from rfl)) rfl (tX12_thrown C.2.2.2.2.2.2.1 (hL.mo (Nat.le_of_ble_eq_true rfl) (Nat.le_of_ble_eq_true rfl)) (show kd 54 = 11 from rfl) h) q1407 q1408 q1409 q116 q1410 hdX12_thrown ⟨(Nat.le_of_ble_eq_true rfl), (Nat.le_of_ble_eq_true rfl)⟩ ⟨lw_f2 hcs (Nat.le_of_ble_eq_true rfl), lw_f2 hss (Nat.le_of_ble_eq_true rfl)⟩ rfl hl.1 rfl (lv_room (Nat.le_of_ble_eq_true rfl)) dL_law_1729) (fun r6 st5 H locs h hP hS => ?_)
  refine lv_iload C.1 C.2.1 dL_law_1732 (lv_at hl 1 rfl) ?_
  refine lv_icmp_eq C.1 C.2.1 (tgt := 1739) dL_law_1734 (by decide) (fun hc => ?_) (fun hc => ?_)
  · have h := h.1 hc
    refine lv_iload C.1 C.2.1 dL_law_1739 (lv_at hl 1 rfl) ?_
    refine lv_if_ne C.1 C.2.1 (tgt := 1756) dL_law_1741 (by decide) (fun hc => ?_) (fun hc => ?_)
    · have h := h.1 hc
      refine lv_goto C.1 C.2.1 (tgt := 1914) dL_law_1756 (by decide) ?_
      exact hk _ _ _ _ _ _ h (lw_g3 (Nat.le_of_ble_eq_true rfl)) (lw_g3 (Nat.le_of_ble_eq_true rfl)) (lv_sub hl [2, 3, 4, 5, 6] rfl) hP hS
    · have h := h.2 hc
      refine lv_aload_n C.1 C.2.1 dL_law_1744 rfl (lv_at hl 5 rfl) ?_
      refine lv_iconst C.1 C.2.1 (v := 0) dL_law_1745 rfl ?_
      obtain ⟨hi, h⟩ := h
      refine z_lald C hP (show kd 67 = 23 from rfl) (show ln 67 = 1 from rfl) (hL 67 (Nat.le_of_ble_eq_true rfl) (Nat.le_of_ble_eq_true rfl)) hi dL_law_1746 ?_
      refine lv_iload C.1 C.2.1 dL_law_1747 (lv_at hl 0 rfl) ?_
      refine t_i2l C.1 C.2.1 dL_law_1749 rfl ?_
      refine W.lcmp C.1 C.2.1 dL_law_1750 ?_
      refine lv_if_eq C.1 C.2.1 (tgt := 1756) dL_law_1751 (by decide) (fun hc => ?_) (fun hc => ?_)
      · have h := h.1 hc
        refine lv_goto C.1 C.2.1 (tgt := 1914) dL_law_1756 (by decide) ?_
        exact hk _ _ _ _ _ _ h (lw_g3 (Nat.le_of_ble_eq_true rfl)) (lw_g3 (Nat.le_of_ble_eq_true rfl)) (lv_sub hl [2, 3, 4, 5, 6] rfl) hP hS
      · have h := h.2 hc
        exact h.elim
  · have h := h.2 hc
    exact h.elim
def wLc_39 (a1 a2 a3 a4 a5 : Int32) (st : St) (R : St → Prop) : Prop :=
  (wL_minutesOfPlan 0 a1 67 st (fun r2 st1 => (wX12_minutesOfPlan 54 a1 st1 (fun r4 st3 => (wX12_thrown 54 st3 (fun r6 st5 => ((r6 = r2 → ((¬ r2 = 0 → R st5) ∧ (r2 = 0 → (vp_in 0 1 ∧ (((lg_cmp (gJ st5 67 (0 : Int32).toNatClampNeg) ((r4 : Int32).toInt64)) = 0 → R st5) ∧ (¬ (lg_cmp (gJ st5 67 (0 : Int32).toNatClampNeg) ((r4 : Int32).toInt64)) = 0 → False)))))) ∧ (¬ r6 = r2 → False))))))))
set_option maxHeartbeats 4000000 in
set_option maxRecDepth 100000 in
theorem tLc_39 {p : Program} {l : Launch} {e : Env} {s : State} {m : MethodId} {args : Array Value} {below : List Frame} {meth : Method} {c : Code} {H : Heap} {locs : List Loc} {cells slots : Nat} {Q : State → Prop} {E : En0} {b0 n : Nat} {xs : Nat → Int32} {i a1 a2 a3 a4 a5 : Int32} {st : St} {R : St → Prop} {ls : Array Slot}
    (C : Cx E L68 "PlankBridgeLaw" cL_law 9 p s m args c) (hNC : NC s) (hfl : l.stackTraces = false) (hX : va_X b0 n xs s s.heap) (hbl : b0 < s.heap.size) (hbA : ¬ fA E L68 s.heap.size b0)
    (hin1 : vp_in (i + 1) n) (hin2 : vp_in (i + 2) n) (hin3 : vp_in (i + 3) n) (hin4 : vp_in (i + 4) n) (hin5 : vp_in (i + 5) n) (ha1 : xs (i + 1).toNatClampNeg = a1) (ha2 : xs (i + 2).toNatClampNeg = a2) (ha3 : xs (i + 3).toNatClampNeg = a3) (ha4 : xs (i + 4).toNatClampNeg = a4) (ha5 : xs (i + 5).toNatClampNeg = a5)
    (hcs : cells + 12 ≤ 601024) (hss : slots + 3300 ≤ 7293034) (hl : lv_has ls 9 [(0, .ref b0), (1, .ref (E.2.1 0)), (2, .ref (E.2.1 54)), (3, .ref (E.2.1 67)), (4, .int i)]) (hP : va_P E.1 vwCl (wd E L68 st) H) (hS : va_S (fA E L68 s.heap.size) s.heap H locs) (h : wLc_39 a1 a2 a3 a4 a5 st R)
    (hk : ∀ (u : St) (H1 : Heap) (locs1 : List Loc) (ls1 : Array Slot) (c1 s1 : Nat), R u → c1 ≤ cells + 12 → s1 ≤ slots + 3300 → lv_has ls1 9 [(0, .ref b0), (1, .ref (E.2.1 0)), (2, .ref (E.2.1 54)), (3, .ref (E.2.1 67)), (4, .int i)] → va_P E.1 vwCl (wd E L68 u) H1 → va_S (fA E L68 s.heap.size) s.heap H1 locs1 → W p l e room_1 s m args below meth c H1 locs1 c1 s1 Q (F0 m 1914 ls1 [])) :
    W p l e room_1 s m args below meth c H locs cells slots Q (F0 m 1759 ls []) := by
  have hL : Cov 0 68 L68 := fun c _ h2 => List.mem_range.mpr h2
  unfold wLc_39 at h
  refine lv_aload_n C.1 C.2.1 dL_law_1759 rfl (lv_at hl 1 rfl) ?_
  refine lv_aload_n C.1 C.2.1 dL_law_1760 rfl (lv_at hl 0 rfl) ?_
  refine lv_iload C.1 C.2.1 dL_law_1761 (lv_at hl 4 rfl) ?_
  refine lv_iconst C.1 C.2.1 (v := 1) dL_law_1763 rfl ?_
  refine lv_iadd C.1 C.2.1 dL_law_1764  ?_
  refine law_sld C hX hbl hbA hS hin1 ha1 dL_law_1765 ?_
  refine lv_aload_n C.1 C.2.1 dL_law_1766 rfl (lv_at hl 3 rfl) ?_
  refine z_ki hS (z_runSW (As := [.ref (E.2.1 0), .int a1, .ref (E.2.1 67)]) (rest := []) C hNC hP hS (tL_minutesOfPlan C.2.2.2.2.2.2.1 hL (show kd 0 = 8 from rfl) (show kd 67 = 23 from rfl) (show ln 67 = 1 from rfl) (hL 67 (Nat.le_of_ble_eq_true rfl) (Nat.le_of_ble_eq_true rfl)) hfl h) q1288 q1289 q104 q1290 hdL_minutesOfPlan ⟨(Nat.le_of_ble_eq_true rfl), (Nat.le_of_ble_eq_true rfl)⟩ ⟨lw_f0 hcs (Nat.le_of_ble_eq_true rfl), lw_f0 hss (Nat.le_of_ble_eq_true rfl)⟩ rfl hl.1 rfl (lv_room (Nat.le_of_ble_eq_true rfl)) dL_law_1767) (fun r2 st1 H locs h hP hS => ?_)
  refine lv_istore C.1 C.2.1 dL_law_1770 hl (Nat.le_of_ble_eq_true rfl) rfl (fun ls hl => ?_)
  have hl : lv_has ls 9 [(5, .int r2), (0, .ref b0), (1, .ref (E.2.1 0)), (2, .ref (E.2.1 54)), (3, .ref (E.2.1 67)), (4, .int i)] := hl
  refine lv_aload_n C.1 C.2.1 dL_law_1772 rfl (lv_at hl 3 rfl) ?_
  refine lv_aload_n C.1 C.2.1 dL_law_1773 rfl (lv_at hl 1 rfl) ?_
  refine lv_iload C.1 C.2.1 dL_law_1774 (lv_at hl 5 rfl) ?_
  refine lv_iconst C.1 C.2.1 (v := 1) dL_law_1776 rfl ?_
  refine lv_iadd C.1 C.2.1 dL_law_1777  ?_
  refine law_sld C hX hbl hbA hS hin1 ha1 dL_law_1778 ?_
  refine z_ki hS (z_runV (As := [.int a1]) (rest := []) C hP hS (hL 54 (Nat.le_of_ble_eq_true rfl) (Nat.le_of_ble_eq_true rfl)) (e11 (show kd 54 = 11 from rfl)) rfl (tX12_minutesOfPlan C.2.2.2.2.2.2.1 (hL.mo (Nat.le_of_ble_eq_true rfl) (Nat.le_of_ble_eq_true rfl)) (show kd 54 = 11 from rfl) h) q1949 q1950 q1951 q116 q1952 hdX12_minutesOfPlan ⟨(Nat.le_of_ble_eq_true rfl), (Nat.le_of_ble_eq_true rfl)⟩ ⟨lw_f1 hcs (Nat.le_of_ble_eq_true rfl), lw_f1 hss (Nat.le_of_ble_eq_true rfl)⟩ rfl hl.1 rfl (lv_room (Nat.le_of_ble_eq_true rfl)) dL_law_1779) (fun r4 st3 H locs h hP hS => ?_)
  refine lv_istore C.1 C.2.1 dL_law_1782 hl (Nat.le_of_ble_eq_true rfl) rfl (fun ls hl => ?_)
  have hl : lv_has ls 9 [(6, .int r4), (5, .int r2), (0, .ref b0), (1, .ref (E.2.1 0)), (2, .ref (E.2.1 54)), (3, .ref (E.2.1 67)), (4, .int i)] := hl
  refine lv_aload_n C.1 C.2.1 dL_law_1784 rfl (lv_at hl 4 rfl) ?_
  refine z_ki hS (z_runV (As := []) (rest := []) C hP hS (hL 54 (Nat.le_of_ble_eq_true rfl) (Nat.le_of_ble_eq_true rfl)) (e11 (show kd 54 = 11 from rfl)) rfl (tX12_thrown C.2.2.2.2.2.2.1 (hL.mo (Nat.le_of_ble_eq_true rfl) (Nat.le_of_ble_eq_true rfl)) (show kd 54 = 11 from rfl) h) q1407 q1408 q1409 q116 q1410 hdX12_thrown ⟨(Nat.le_of_ble_eq_true rfl), (Nat.le_of_ble_eq_true rfl)⟩ ⟨lw_f2 hcs (Nat.le_of_ble_eq_true rfl), lw_f2 hss (Nat.le_of_ble_eq_true rfl)⟩ rfl hl.1 rfl (lv_room (Nat.le_of_ble_eq_true rfl)) dL_law_1785) (fun r6 st5 H locs h hP hS => ?_)
  refine lv_iload C.1 C.2.1 dL_law_1788 (lv_at hl 1 rfl) ?_
  refine lv_icmp_eq C.1 C.2.1 (tgt := 1795) dL_law_1790 (by decide) (fun hc => ?_) (fun hc => ?_)
  · have h := h.1 hc
    refine lv_iload C.1 C.2.1 dL_law_1795 (lv_at hl 1 rfl) ?_
    refine lv_if_ne C.1 C.2.1 (tgt := 1812) dL_law_1797 (by decide) (fun hc => ?_) (fun hc => ?_)
    · have h := h.1 hc
      refine lv_goto C.1 C.2.1 (tgt := 1914) dL_law_1812 (by decide) ?_
      exact hk _ _ _ _ _ _ h (lw_g3 (Nat.le_of_ble_eq_true rfl)) (lw_g3 (Nat.le_of_ble_eq_true rfl)) (lv_sub hl [2, 3, 4, 5, 6] rfl) hP hS
    · have h := h.2 hc
      refine lv_aload_n C.1 C.2.1 dL_law_1800 rfl (lv_at hl 5 rfl) ?_
      refine lv_iconst C.1 C.2.1 (v := 0) dL_law_1801 rfl ?_
      obtain ⟨hi, h⟩ := h
      refine z_lald C hP (show kd 67 = 23 from rfl) (show ln 67 = 1 from rfl) (hL 67 (Nat.le_of_ble_eq_true rfl) (Nat.le_of_ble_eq_true rfl)) hi dL_law_1802 ?_
      refine lv_iload C.1 C.2.1 dL_law_1803 (lv_at hl 0 rfl) ?_
      refine t_i2l C.1 C.2.1 dL_law_1805 rfl ?_
      refine W.lcmp C.1 C.2.1 dL_law_1806 ?_
      refine lv_if_eq C.1 C.2.1 (tgt := 1812) dL_law_1807 (by decide) (fun hc => ?_) (fun hc => ?_)
      · have h := h.1 hc
        refine lv_goto C.1 C.2.1 (tgt := 1914) dL_law_1812 (by decide) ?_
        exact hk _ _ _ _ _ _ h (lw_g3 (Nat.le_of_ble_eq_true rfl)) (lw_g3 (Nat.le_of_ble_eq_true rfl)) (lv_sub hl [2, 3, 4, 5, 6] rfl) hP hS
      · have h := h.2 hc
        exact h.elim
  · have h := h.2 hc
    exact h.elim
def wLc_40 (a1 a2 a3 a4 a5 : Int32) (st : St) (R : St → Prop) : Prop :=
  (wL_bestPlan 0 67 st (fun r2 st1 => (wX12_bestPlan 54 st1 (fun r4 st3 => (wX12_thrown 54 st3 (fun r6 st5 => ((r6 = r2 → ((¬ r2 = 0 → R st5) ∧ (r2 = 0 → (vp_in 0 1 ∧ (((lg_cmp (gJ st5 67 (0 : Int32).toNatClampNeg) ((r4 : Int32).toInt64)) = 0 → R st5) ∧ (¬ (lg_cmp (gJ st5 67 (0 : Int32).toNatClampNeg) ((r4 : Int32).toInt64)) = 0 → False)))))) ∧ (¬ r6 = r2 → False))))))))
set_option maxHeartbeats 4000000 in
set_option maxRecDepth 100000 in
theorem tLc_40 {p : Program} {l : Launch} {e : Env} {s : State} {m : MethodId} {args : Array Value} {below : List Frame} {meth : Method} {c : Code} {H : Heap} {locs : List Loc} {cells slots : Nat} {Q : State → Prop} {E : En0} {b0 n : Nat} {xs : Nat → Int32} {i a1 a2 a3 a4 a5 : Int32} {st : St} {R : St → Prop} {ls : Array Slot}
    (C : Cx E L68 "PlankBridgeLaw" cL_law 9 p s m args c) (hNC : NC s) (hfl : l.stackTraces = false) (hX : va_X b0 n xs s s.heap) (hbl : b0 < s.heap.size) (hbA : ¬ fA E L68 s.heap.size b0)
    (hin1 : vp_in (i + 1) n) (hin2 : vp_in (i + 2) n) (hin3 : vp_in (i + 3) n) (hin4 : vp_in (i + 4) n) (hin5 : vp_in (i + 5) n) (ha1 : xs (i + 1).toNatClampNeg = a1) (ha2 : xs (i + 2).toNatClampNeg = a2) (ha3 : xs (i + 3).toNatClampNeg = a3) (ha4 : xs (i + 4).toNatClampNeg = a4) (ha5 : xs (i + 5).toNatClampNeg = a5)
    (hcs : cells + 12 ≤ 601024) (hss : slots + 3300 ≤ 7293034) (hl : lv_has ls 9 [(0, .ref b0), (1, .ref (E.2.1 0)), (2, .ref (E.2.1 54)), (3, .ref (E.2.1 67)), (4, .int i)]) (hP : va_P E.1 vwCl (wd E L68 st) H) (hS : va_S (fA E L68 s.heap.size) s.heap H locs) (h : wLc_40 a1 a2 a3 a4 a5 st R)
    (hk : ∀ (u : St) (H1 : Heap) (locs1 : List Loc) (ls1 : Array Slot) (c1 s1 : Nat), R u → c1 ≤ cells + 12 → s1 ≤ slots + 3300 → lv_has ls1 9 [(0, .ref b0), (1, .ref (E.2.1 0)), (2, .ref (E.2.1 54)), (3, .ref (E.2.1 67)), (4, .int i)] → va_P E.1 vwCl (wd E L68 u) H1 → va_S (fA E L68 s.heap.size) s.heap H1 locs1 → W p l e room_1 s m args below meth c H1 locs1 c1 s1 Q (F0 m 1914 ls1 [])) :
    W p l e room_1 s m args below meth c H locs cells slots Q (F0 m 1815 ls []) := by
  have hL : Cov 0 68 L68 := fun c _ h2 => List.mem_range.mpr h2
  unfold wLc_40 at h
  refine lv_aload_n C.1 C.2.1 dL_law_1815 rfl (lv_at hl 1 rfl) ?_
  refine lv_aload_n C.1 C.2.1 dL_law_1816 rfl (lv_at hl 3 rfl) ?_
  refine z_ki hS (z_runSW (As := [.ref (E.2.1 0), .ref (E.2.1 67)]) (rest := []) C hNC hP hS (tL_bestPlan C.2.2.2.2.2.2.1 hL (show kd 0 = 8 from rfl) (show kd 67 = 23 from rfl) (show ln 67 = 1 from rfl) (hL 67 (Nat.le_of_ble_eq_true rfl) (Nat.le_of_ble_eq_true rfl)) hfl h) q1299 q1300 q104 q1301 hdL_bestPlan ⟨(Nat.le_of_ble_eq_true rfl), (Nat.le_of_ble_eq_true rfl)⟩ ⟨lw_f0 hcs (Nat.le_of_ble_eq_true rfl), lw_f0 hss (Nat.le_of_ble_eq_true rfl)⟩ rfl hl.1 rfl (lv_room (Nat.le_of_ble_eq_true rfl)) dL_law_1817) (fun r2 st1 H locs h hP hS => ?_)
  refine lv_istore C.1 C.2.1 dL_law_1820 hl (Nat.le_of_ble_eq_true rfl) rfl (fun ls hl => ?_)
  have hl : lv_has ls 9 [(5, .int r2), (0, .ref b0), (1, .ref (E.2.1 0)), (2, .ref (E.2.1 54)), (3, .ref (E.2.1 67)), (4, .int i)] := hl
  refine lv_aload_n C.1 C.2.1 dL_law_1822 rfl (lv_at hl 3 rfl) ?_
  refine z_ki hS (z_runV (As := []) (rest := []) C hP hS (hL 54 (Nat.le_of_ble_eq_true rfl) (Nat.le_of_ble_eq_true rfl)) (e11 (show kd 54 = 11 from rfl)) rfl (tX12_bestPlan C.2.2.2.2.2.2.1 (hL.mo (Nat.le_of_ble_eq_true rfl) (Nat.le_of_ble_eq_true rfl)) (show kd 54 = 11 from rfl) h) q1957 q1958 q1959 q116 q1960 hdX12_bestPlan ⟨(Nat.le_of_ble_eq_true rfl), (Nat.le_of_ble_eq_true rfl)⟩ ⟨lw_f1 hcs (Nat.le_of_ble_eq_true rfl), lw_f1 hss (Nat.le_of_ble_eq_true rfl)⟩ rfl hl.1 rfl (lv_room (Nat.le_of_ble_eq_true rfl)) dL_law_1823) (fun r4 st3 H locs h hP hS => ?_)
  refine lv_istore C.1 C.2.1 dL_law_1826 hl (Nat.le_of_ble_eq_true rfl) rfl (fun ls hl => ?_)
  have hl : lv_has ls 9 [(6, .int r4), (5, .int r2), (0, .ref b0), (1, .ref (E.2.1 0)), (2, .ref (E.2.1 54)), (3, .ref (E.2.1 67)), (4, .int i)] := hl
  refine lv_aload_n C.1 C.2.1 dL_law_1828 rfl (lv_at hl 4 rfl) ?_
  refine z_ki hS (z_runV (As := []) (rest := []) C hP hS (hL 54 (Nat.le_of_ble_eq_true rfl) (Nat.le_of_ble_eq_true rfl)) (e11 (show kd 54 = 11 from rfl)) rfl (tX12_thrown C.2.2.2.2.2.2.1 (hL.mo (Nat.le_of_ble_eq_true rfl) (Nat.le_of_ble_eq_true rfl)) (show kd 54 = 11 from rfl) h) q1407 q1408 q1409 q116 q1410 hdX12_thrown ⟨(Nat.le_of_ble_eq_true rfl), (Nat.le_of_ble_eq_true rfl)⟩ ⟨lw_f2 hcs (Nat.le_of_ble_eq_true rfl), lw_f2 hss (Nat.le_of_ble_eq_true rfl)⟩ rfl hl.1 rfl (lv_room (Nat.le_of_ble_eq_true rfl)) dL_law_1829) (fun r6 st5 H locs h hP hS => ?_)
  refine lv_iload C.1 C.2.1 dL_law_1832 (lv_at hl 1 rfl) ?_
  refine lv_icmp_eq C.1 C.2.1 (tgt := 1839) dL_law_1834 (by decide) (fun hc => ?_) (fun hc => ?_)
  · have h := h.1 hc
    refine lv_iload C.1 C.2.1 dL_law_1839 (lv_at hl 1 rfl) ?_
    refine lv_if_ne C.1 C.2.1 (tgt := 1856) dL_law_1841 (by decide) (fun hc => ?_) (fun hc => ?_)
    · have h := h.1 hc
      refine lv_goto C.1 C.2.1 (tgt := 1914) dL_law_1856 (by decide) ?_
      exact hk _ _ _ _ _ _ h (lw_g3 (Nat.le_of_ble_eq_true rfl)) (lw_g3 (Nat.le_of_ble_eq_true rfl)) (lv_sub hl [2, 3, 4, 5, 6] rfl) hP hS
    · have h := h.2 hc
      refine lv_aload_n C.1 C.2.1 dL_law_1844 rfl (lv_at hl 5 rfl) ?_
      refine lv_iconst C.1 C.2.1 (v := 0) dL_law_1845 rfl ?_
      obtain ⟨hi, h⟩ := h
      refine z_lald C hP (show kd 67 = 23 from rfl) (show ln 67 = 1 from rfl) (hL 67 (Nat.le_of_ble_eq_true rfl) (Nat.le_of_ble_eq_true rfl)) hi dL_law_1846 ?_
      refine lv_iload C.1 C.2.1 dL_law_1847 (lv_at hl 0 rfl) ?_
      refine t_i2l C.1 C.2.1 dL_law_1849 rfl ?_
      refine W.lcmp C.1 C.2.1 dL_law_1850 ?_
      refine lv_if_eq C.1 C.2.1 (tgt := 1856) dL_law_1851 (by decide) (fun hc => ?_) (fun hc => ?_)
      · have h := h.1 hc
        refine lv_goto C.1 C.2.1 (tgt := 1914) dL_law_1856 (by decide) ?_
        exact hk _ _ _ _ _ _ h (lw_g3 (Nat.le_of_ble_eq_true rfl)) (lw_g3 (Nat.le_of_ble_eq_true rfl)) (lv_sub hl [2, 3, 4, 5, 6] rfl) hP hS
      · have h := h.2 hc
        exact h.elim
  · have h := h.2 hc
    exact h.elim
def wLc_41 (a1 a2 a3 a4 a5 : Int32) (st : St) (R : St → Prop) : Prop :=
  (wX9_meanStrength 0 st (fun r2 st1 => (wX12_meanStrength 54 st1 (fun r4 st3 => (((Op.cmpValue (FP.dcmp r2 r4) .l) = 0 → R st3) ∧ (¬ (Op.cmpValue (FP.dcmp r2 r4) .l) = 0 → (((Op.cmpValue (FP.dcmp r2 r2) .l) = 0 → False) ∧ (¬ (Op.cmpValue (FP.dcmp r2 r2) .l) = 0 → ((¬ (Op.cmpValue (FP.dcmp r4 r4) .l) = 0 → R st3) ∧ ((Op.cmpValue (FP.dcmp r4 r4) .l) = 0 → False))))))))))
set_option maxHeartbeats 4000000 in
set_option maxRecDepth 100000 in
theorem tLc_41 {p : Program} {l : Launch} {e : Env} {s : State} {m : MethodId} {args : Array Value} {below : List Frame} {meth : Method} {c : Code} {H : Heap} {locs : List Loc} {cells slots : Nat} {Q : State → Prop} {E : En0} {b0 n : Nat} {xs : Nat → Int32} {i a1 a2 a3 a4 a5 : Int32} {st : St} {R : St → Prop} {ls : Array Slot}
    (C : Cx E L68 "PlankBridgeLaw" cL_law 9 p s m args c) (hNC : NC s) (hfl : l.stackTraces = false) (hX : va_X b0 n xs s s.heap) (hbl : b0 < s.heap.size) (hbA : ¬ fA E L68 s.heap.size b0)
    (hin1 : vp_in (i + 1) n) (hin2 : vp_in (i + 2) n) (hin3 : vp_in (i + 3) n) (hin4 : vp_in (i + 4) n) (hin5 : vp_in (i + 5) n) (ha1 : xs (i + 1).toNatClampNeg = a1) (ha2 : xs (i + 2).toNatClampNeg = a2) (ha3 : xs (i + 3).toNatClampNeg = a3) (ha4 : xs (i + 4).toNatClampNeg = a4) (ha5 : xs (i + 5).toNatClampNeg = a5)
    (hcs : cells + 12 ≤ 601024) (hss : slots + 3300 ≤ 7293034) (hl : lv_has ls 9 [(0, .ref b0), (1, .ref (E.2.1 0)), (2, .ref (E.2.1 54)), (3, .ref (E.2.1 67)), (4, .int i)]) (hP : va_P E.1 vwCl (wd E L68 st) H) (hS : va_S (fA E L68 s.heap.size) s.heap H locs) (h : wLc_41 a1 a2 a3 a4 a5 st R)
    (hk : ∀ (u : St) (H1 : Heap) (locs1 : List Loc) (ls1 : Array Slot) (c1 s1 : Nat), R u → c1 ≤ cells + 12 → s1 ≤ slots + 3300 → lv_has ls1 9 [(0, .ref b0), (1, .ref (E.2.1 0)), (2, .ref (E.2.1 54)), (3, .ref (E.2.1 67)), (4, .int i)] → va_P E.1 vwCl (wd E L68 u) H1 → va_S (fA E L68 s.heap.size) s.heap H1 locs1 → W p l e room_1 s m args below meth c H1 locs1 c1 s1 Q (F0 m 1914 ls1 [])) :
    W p l e room_1 s m args below meth c H locs cells slots Q (F0 m 1859 ls []) := by
  have hL : Cov 0 68 L68 := fun c _ h2 => List.mem_range.mpr h2
  unfold wLc_41 at h
  refine lv_aload_n C.1 C.2.1 dL_law_1859 rfl (lv_at hl 1 rfl) ?_
  refine z_kd hS (z_runV (As := []) (rest := []) C hP hS (hL 0 (Nat.le_of_ble_eq_true rfl) (Nat.le_of_ble_eq_true rfl)) (e8 (show kd 0 = 8 from rfl)) rfl (tX9_meanStrength C.2.2.2.2.2.2.1 (hL.mo (Nat.le_of_ble_eq_true rfl) (Nat.le_of_ble_eq_true rfl)) (show kd 0 = 8 from rfl) h) q815 q816 q817 q105 q818 hdX9_meanStrength ⟨(Nat.le_of_ble_eq_true rfl), (Nat.le_of_ble_eq_true rfl)⟩ ⟨lw_f0 hcs (Nat.le_of_ble_eq_true rfl), lw_f0 hss (Nat.le_of_ble_eq_true rfl)⟩ rfl hl.1 rfl (lv_room (Nat.le_of_ble_eq_true rfl)) dL_law_1860) (fun r2 st1 H locs h hP hS => ?_)
  refine lv_dstore C.1 C.2.1 dL_law_1863 hl (Nat.le_of_ble_eq_true rfl) rfl (fun ls hl => ?_)
  have hl : lv_has ls 9 [(5, .double r2), (0, .ref b0), (1, .ref (E.2.1 0)), (2, .ref (E.2.1 54)), (3, .ref (E.2.1 67)), (4, .int i)] := hl
  refine lv_aload_n C.1 C.2.1 dL_law_1865 rfl (lv_at hl 3 rfl) ?_
  refine z_kd hS (z_runV (As := []) (rest := []) C hP hS (hL 54 (Nat.le_of_ble_eq_true rfl) (Nat.le_of_ble_eq_true rfl)) (e11 (show kd 54 = 11 from rfl)) rfl (tX12_meanStrength C.2.2.2.2.2.2.1 (hL.mo (Nat.le_of_ble_eq_true rfl) (Nat.le_of_ble_eq_true rfl)) (show kd 54 = 11 from rfl) h) q1961 q1962 q1963 q116 q1964 hdX12_meanStrength ⟨(Nat.le_of_ble_eq_true rfl), (Nat.le_of_ble_eq_true rfl)⟩ ⟨lw_f1 hcs (Nat.le_of_ble_eq_true rfl), lw_f1 hss (Nat.le_of_ble_eq_true rfl)⟩ rfl hl.1 rfl (lv_room (Nat.le_of_ble_eq_true rfl)) dL_law_1866) (fun r4 st3 H locs h hP hS => ?_)
  refine lv_dstore C.1 C.2.1 dL_law_1869 hl (Nat.le_of_ble_eq_true rfl) rfl (fun ls hl => ?_)
  have hl : lv_has ls 9 [(7, .double r4), (5, .double r2), (0, .ref b0), (1, .ref (E.2.1 0)), (2, .ref (E.2.1 54)), (3, .ref (E.2.1 67)), (4, .int i)] := hl
  refine lv_dload C.1 C.2.1 dL_law_1871 (lv_at hl 1 rfl) ?_
  refine lv_dload C.1 C.2.1 dL_law_1873 (lv_at hl 0 rfl) ?_
  refine lv_dcmp C.1 C.2.1 dL_law_1875 ?_
  refine lv_if_eq C.1 C.2.1 (tgt := 1897) dL_law_1876 (by decide) (fun hc => ?_) (fun hc => ?_)
  · have h := h.1 hc
    refine lv_goto C.1 C.2.1 (tgt := 1914) dL_law_1897 (by decide) ?_
    exact hk _ _ _ _ _ _ h (lw_g2 (Nat.le_of_ble_eq_true rfl)) (lw_g2 (Nat.le_of_ble_eq_true rfl)) (lv_sub hl [2, 3, 4, 5, 6] rfl) hP hS
  · have h := h.2 hc
    refine lv_dload C.1 C.2.1 dL_law_1879 (lv_at hl 1 rfl) ?_
    refine lv_dload C.1 C.2.1 dL_law_1881 (lv_at hl 1 rfl) ?_
    refine lv_dcmp C.1 C.2.1 dL_law_1883 ?_
    refine lv_if_eq C.1 C.2.1 (tgt := 1895) dL_law_1884 (by decide) (fun hc => ?_) (fun hc => ?_)
    · have h := h.1 hc
      exact h.elim
    · have h := h.2 hc
      refine lv_dload C.1 C.2.1 dL_law_1887 (lv_at hl 0 rfl) ?_
      refine lv_dload C.1 C.2.1 dL_law_1889 (lv_at hl 0 rfl) ?_
      refine lv_dcmp C.1 C.2.1 dL_law_1891 ?_
      refine lv_if_ne C.1 C.2.1 (tgt := 1897) dL_law_1892 (by decide) (fun hc => ?_) (fun hc => ?_)
      · have h := h.1 hc
        refine lv_goto C.1 C.2.1 (tgt := 1914) dL_law_1897 (by decide) ?_
        exact hk _ _ _ _ _ _ h (lw_g2 (Nat.le_of_ble_eq_true rfl)) (lw_g2 (Nat.le_of_ble_eq_true rfl)) (lv_sub hl [2, 3, 4, 5, 6] rfl) hP hS
      · have h := h.2 hc
        exact h.elim
def wLc_42 (a1 a2 a3 a4 a5 : Int32) (st : St) (R : St → Prop) : Prop :=
  (wX9_digest 0 st (fun r2 st1 => (wX12_digest 54 st1 (fun r4 st3 => (((lg_cmp r2 r4) = 0 → R st3) ∧ (¬ (lg_cmp r2 r4) = 0 → False))))))
set_option maxHeartbeats 4000000 in
set_option maxRecDepth 100000 in
theorem tLc_42 {p : Program} {l : Launch} {e : Env} {s : State} {m : MethodId} {args : Array Value} {below : List Frame} {meth : Method} {c : Code} {H : Heap} {locs : List Loc} {cells slots : Nat} {Q : State → Prop} {E : En0} {b0 n : Nat} {xs : Nat → Int32} {i a1 a2 a3 a4 a5 : Int32} {st : St} {R : St → Prop} {ls : Array Slot}
    (C : Cx E L68 "PlankBridgeLaw" cL_law 9 p s m args c) (hNC : NC s) (hfl : l.stackTraces = false) (hX : va_X b0 n xs s s.heap) (hbl : b0 < s.heap.size) (hbA : ¬ fA E L68 s.heap.size b0)
    (hin1 : vp_in (i + 1) n) (hin2 : vp_in (i + 2) n) (hin3 : vp_in (i + 3) n) (hin4 : vp_in (i + 4) n) (hin5 : vp_in (i + 5) n) (ha1 : xs (i + 1).toNatClampNeg = a1) (ha2 : xs (i + 2).toNatClampNeg = a2) (ha3 : xs (i + 3).toNatClampNeg = a3) (ha4 : xs (i + 4).toNatClampNeg = a4) (ha5 : xs (i + 5).toNatClampNeg = a5)
    (hcs : cells + 12 ≤ 601024) (hss : slots + 3300 ≤ 7293034) (hl : lv_has ls 9 [(0, .ref b0), (1, .ref (E.2.1 0)), (2, .ref (E.2.1 54)), (3, .ref (E.2.1 67)), (4, .int i)]) (hP : va_P E.1 vwCl (wd E L68 st) H) (hS : va_S (fA E L68 s.heap.size) s.heap H locs) (h : wLc_42 a1 a2 a3 a4 a5 st R)
    (hk : ∀ (u : St) (H1 : Heap) (locs1 : List Loc) (ls1 : Array Slot) (c1 s1 : Nat), R u → c1 ≤ cells + 12 → s1 ≤ slots + 3300 → lv_has ls1 9 [(0, .ref b0), (1, .ref (E.2.1 0)), (2, .ref (E.2.1 54)), (3, .ref (E.2.1 67)), (4, .int i)] → va_P E.1 vwCl (wd E L68 u) H1 → va_S (fA E L68 s.heap.size) s.heap H1 locs1 → W p l e room_1 s m args below meth c H1 locs1 c1 s1 Q (F0 m 1914 ls1 [])) :
    W p l e room_1 s m args below meth c H locs cells slots Q (F0 m 1900 ls []) := by
  have hL : Cov 0 68 L68 := fun c _ h2 => List.mem_range.mpr h2
  unfold wLc_42 at h
  refine lv_aload_n C.1 C.2.1 dL_law_1900 rfl (lv_at hl 1 rfl) ?_
  refine z_kj hS (z_runV (As := []) (rest := []) C hP hS (hL 0 (Nat.le_of_ble_eq_true rfl) (Nat.le_of_ble_eq_true rfl)) (e8 (show kd 0 = 8 from rfl)) rfl (tX9_digest C.2.2.2.2.2.2.1 (hL.mo (Nat.le_of_ble_eq_true rfl) (Nat.le_of_ble_eq_true rfl)) (show kd 0 = 8 from rfl) h) q819 q820 q821 q105 q822 hdX9_digest ⟨(Nat.le_of_ble_eq_true rfl), (Nat.le_of_ble_eq_true rfl)⟩ ⟨lw_f0 hcs (Nat.le_of_ble_eq_true rfl), lw_f0 hss (Nat.le_of_ble_eq_true rfl)⟩ rfl hl.1 rfl (lv_room (Nat.le_of_ble_eq_true rfl)) dL_law_1901) (fun r2 st1 H locs h hP hS => ?_)
  refine lv_aload_n C.1 C.2.1 dL_law_1904 rfl (lv_at hl 2 rfl) ?_
  refine z_kj hS (z_runV (As := []) (rest := [.long r2]) C hP hS (hL 54 (Nat.le_of_ble_eq_true rfl) (Nat.le_of_ble_eq_true rfl)) (e11 (show kd 54 = 11 from rfl)) rfl (tX12_digest C.2.2.2.2.2.2.1 (hL.mo (Nat.le_of_ble_eq_true rfl) (Nat.le_of_ble_eq_true rfl)) (fun c hc => Nat.lt_of_lt_of_le (List.mem_range.mp hc) (by decide)) (show kd 54 = 11 from rfl) h) q1965 q1966 q1967 q116 q1968 hdX12_digest ⟨(Nat.le_of_ble_eq_true rfl), (Nat.le_of_ble_eq_true rfl)⟩ ⟨lw_f1 hcs (Nat.le_of_ble_eq_true rfl), lw_f1 hss (Nat.le_of_ble_eq_true rfl)⟩ rfl hl.1 rfl (lv_room (Nat.le_of_ble_eq_true rfl)) dL_law_1905) (fun r4 st3 H locs h hP hS => ?_)
  refine W.lcmp C.1 C.2.1 dL_law_1908 ?_
  refine lv_if_eq C.1 C.2.1 (tgt := 1914) dL_law_1909 (by decide) (fun hc => ?_) (fun hc => ?_)
  · have h := h.1 hc
    exact hk _ _ _ _ _ _ h (lw_g2 (Nat.le_of_ble_eq_true rfl)) (lw_g2 (Nat.le_of_ble_eq_true rfl)) hl hP hS
  · have h := h.2 hc
    exact h.elim

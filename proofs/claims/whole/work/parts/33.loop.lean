/-! teach's case; the law's loop -/
theorem hdX12_teach : yX12_teach.cls = "PlankBridgeModel" ∧ yX12_teach.cls ≠ "java/lang/invoke/MethodHandle" ∧ yX12_teach.cls ≠ "java/lang/invoke/VarHandle" ∧ (parseMethodDescriptor yX12_teach.desc).map (fun d => d.parameters.length) = some 0 := by decide +kernel
theorem zA_blind {E : En0} {L : List Nat} {av : List Value} {st : St} {sz : Nat} : FrameBlind (zPcA E L av st sz) := fun a U g mk q => ⟨z_blind a U g mk q.1, va_AO.moved (u := U) (U := U.calling g mk a) (Vm.Alike.refl U.vm) q.2⟩
def wLc_2 (st : St) (R : St → Prop) : Prop := wX9_teach 0 st (fun r1 st2 => wX12_teach st2 (fun r2 st4 => (r2 = r1 → R st4) ∧ (¬ r2 = r1 → False)))
section LL
variable {p : Program} {l : Launch} {e : Env} {s : State} {m : MethodId} {args : Array Value} {below : List Frame} {meth : Method} {c : Code} {Q : State → Prop} {b0 n : Nat} {xs : Nat → Int32}
set_option maxHeartbeats 4000000 in
set_option maxRecDepth 100000 in
theorem tLc_2 {H : Heap} {locs : List Loc} {cells slots : Nat} {E : En0} {i : Int32} {st : St} {R : St → Prop} {ls : Array Slot}
    (C : Cx E L68 "PlankBridgeLaw" cL_law 9 p s m args c) (hAO : va_AO "PlankBridge$Kind" s) (hcs : cells + 12 ≤ 601024) (hss : slots + 3300 ≤ 7293034) (hl : lv_has ls 9 [(0, .ref b0), (1, .ref (E.2.1 0)), (2, .ref (E.2.1 54)), (3, .ref (E.2.1 67)), (4, .int i)]) (hP : va_P E.1 vwCl (wd E L68 st) H) (hS : va_S (fA E L68 s.heap.size) s.heap H locs) (h : wLc_2 st R)
    (hk : ∀ (a2 : Nat → Nat) (u : St) (H1 : Heap) (locs1 : List Loc) (ls1 : Array Slot) (c1 s1 : Nat), R u → c1 ≤ cells + 12 → s1 ≤ slots + 3300 → (∀ c, c < 60 ∨ c = 67 → a2 c = E.2.1 c) → EK (E.1, a2, E.2.2) L68 → (∀ c, c ∈ L68 → fA E L68 s.heap.size (a2 c)) → lv_has ls1 9 [(0, .ref b0), (1, .ref (E.2.1 0)), (2, .ref (E.2.1 54)), (3, .ref (E.2.1 67)), (4, .int i)] → va_P E.1 vwCl (wd (E.1, a2, E.2.2) L68 u) H1 → va_S (fA E L68 s.heap.size) s.heap H1 locs1 → W p l e room_1 s m args below meth c H1 locs1 c1 s1 Q (F0 m 1914 ls1 [])) :
    W p l e room_1 s m args below meth c H locs cells slots Q (F0 m 388 ls []) := by
  have hL : Cov 0 68 L68 := fun c _ h2 => List.mem_range.mpr h2
  unfold wLc_2 at h
  refine lv_aload_n C.1 C.2.1 dL_law_388 rfl (lv_at hl 1 rfl) ?_
  refine z_ki hS (z_runV (As := []) (rest := []) C hP hS (m8 (show kd 0 = 8 from rfl) (hL.mo (Nat.le_of_ble_eq_true rfl) (Nat.le_of_ble_eq_true rfl))) (e8 (show kd 0 = 8 from rfl)) rfl (tX9_teach C.2.2.2.2.2.2.1 (hL.mo (Nat.le_of_ble_eq_true rfl) (Nat.le_of_ble_eq_true rfl)) (show kd 0 = 8 from rfl) h) q438 q439 q440 q105 q441 hdX9_teach ⟨(Nat.le_of_ble_eq_true rfl), (Nat.le_of_ble_eq_true rfl)⟩ ⟨lw_f0 hcs (Nat.le_of_ble_eq_true rfl), lw_f0 hss (Nat.le_of_ble_eq_true rfl)⟩ rfl hl.1 rfl (lv_room (Nat.le_of_ble_eq_true rfl)) dL_law_389) (fun r1 st2 H locs h hP hS => ?_)
  refine lv_aload_n C.1 C.2.1 dL_law_392 rfl (lv_at hl 2 rfl) ?_
  obtain ⟨q54, hq54, hw54⟩ := wd_at (E := E) (L := L68) (st := st2) (c := 54) (by decide) (e11 (show kd 54 = 11 from rfl))
  have hrun := va_runV (e := e) (R := room_1) (cells := cells + rmX9_teach.cells) (slots := slots + rmX9_teach.slots) (locs := locs) (meth := meth) (below := below) (As := []) (rest := [.int r1]) (g := F0 m 393 ls [.ref (E.2.1 54), .int r1]) C.F (tX12_teach (l := l) C.2.2.2.2.2.2.1 h H.size) (cwV 0 C.F.2.2.2.2 (gV q1426 q1427 q1428 q116 q1429) rfl rfl rfl hdX12_teach ⟨(Nat.le_of_ble_eq_true rfl), (Nat.le_of_ble_eq_true rfl)⟩) ⟨zA_blind, va_recv C.2.2.2.2.2.1 hP rfl hw54, fun U hU hW => ⟨z_pre C hP hS _ U hU hW, hAO.moved hW.alike⟩⟩ rfl rfl hl.1 rfl (lv_room (Nat.le_of_ble_eq_true rfl)) dL_law_393 ⟨lw_f1 hcs (Nat.le_of_ble_eq_true rfl), lw_f1 hss (Nat.le_of_ble_eq_true rfl)⟩
  refine va_calli hrun hS (fun q _ h => fA_up hS.1 q h) (fA_up hS.1) (fun r2 u t H1 locs1 ht _ hp hB _ _ hS1 => ?_)
  obtain ⟨h, hsame⟩ := hp
  obtain ⟨hP1, hEK1, hA1⟩ := hB
  rw [ht] at hP1
  refine lv_icmp_eq C.1 C.2.1 (tgt := 1914) dL_law_396 (by decide) (fun hc => ?_) (fun hc => ?_)
  · exact hk u.1 u.2 H1 locs1 ls _ _ (h.1 hc.symm) (lw_g2 (Nat.le_of_ble_eq_true rfl)) (lw_g2 (Nat.le_of_ble_eq_true rfl)) hsame hEK1 (fun c hc => fA_up hS.1 _ (hA1 c hc)) hl hP1 hS1
  · exact (h.2 (fun e0 => hc e0.symm)).elim
def LawCases (Inv : Nat → St → Prop) : Prop := (∀ j st, Inv j st → Inv (j + 1) st) ∧ ∀ j st, j < 512 → Inv j st → ∀ a1 a2 a3 a4 a5 : Int32, wLc_0 a1 a2 a3 a4 a5 st (Inv (j + 1)) ∧ wLc_1 a1 a2 a3 a4 a5 st (Inv (j + 1)) ∧ wLc_2 st (Inv (j + 1)) ∧ wLc_3 a1 a2 a3 a4 a5 st (Inv (j + 1)) ∧ wLc_4 a1 a2 a3 a4 a5 st (Inv (j + 1)) ∧ wLc_5 a1 a2 a3 a4 a5 st (Inv (j + 1)) ∧ wLc_6 a1 a2 a3 a4 a5 st (Inv (j + 1)) ∧ wLc_7 a1 a2 a3 a4 a5 st (Inv (j + 1)) ∧ wLc_8 a1 a2 a3 a4 a5 st (Inv (j + 1)) ∧ wLc_9 a1 a2 a3 a4 a5 st (Inv (j + 1)) ∧ wLc_10 a1 a2 a3 a4 a5 st (Inv (j + 1)) ∧ wLc_11 a1 a2 a3 a4 a5 st (Inv (j + 1)) ∧ wLc_12 a1 a2 a3 a4 a5 st (Inv (j + 1)) ∧ wLc_13 a1 a2 a3 a4 a5 st (Inv (j + 1)) ∧ wLc_14 a1 a2 a3 a4 a5 st (Inv (j + 1)) ∧ wLc_15 a1 a2 a3 a4 a5 st (Inv (j + 1)) ∧ wLc_16 a1 a2 a3 a4 a5 st (Inv (j + 1)) ∧ wLc_17 a1 a2 a3 a4 a5 st (Inv (j + 1)) ∧ wLc_18 a1 a2 a3 a4 a5 st (Inv (j + 1)) ∧ wLc_19 a1 a2 a3 a4 a5 st (Inv (j + 1)) ∧ wLc_20 a1 a2 a3 a4 a5 st (Inv (j + 1)) ∧ wLc_21 a1 a2 a3 a4 a5 st (Inv (j + 1)) ∧ wLc_22 a1 a2 a3 a4 a5 st (Inv (j + 1)) ∧ wLc_23 a1 a2 a3 a4 a5 st (Inv (j + 1)) ∧ wLc_24 a1 a2 a3 a4 a5 st (Inv (j + 1)) ∧ wLc_25 a1 a2 a3 a4 a5 st (Inv (j + 1)) ∧ wLc_26 a1 a2 a3 a4 a5 st (Inv (j + 1)) ∧ wLc_27 a1 a2 a3 a4 a5 st (Inv (j + 1)) ∧ wLc_28 a1 a2 a3 a4 a5 st (Inv (j + 1)) ∧ wLc_29 a1 a2 a3 a4 a5 st (Inv (j + 1)) ∧ wLc_30 a1 a2 a3 a4 a5 st (Inv (j + 1)) ∧ wLc_31 a1 a2 a3 a4 a5 st (Inv (j + 1)) ∧ wLc_32 a1 a2 a3 a4 a5 st (Inv (j + 1)) ∧ wLc_33 a1 a2 a3 a4 a5 st (Inv (j + 1)) ∧ wLc_34 a1 a2 a3 a4 a5 st (Inv (j + 1)) ∧ wLc_35 a1 a2 a3 a4 a5 st (Inv (j + 1)) ∧ wLc_36 a1 a2 a3 a4 a5 st (Inv (j + 1)) ∧ wLc_37 a1 a2 a3 a4 a5 st (Inv (j + 1)) ∧ wLc_38 a1 a2 a3 a4 a5 st (Inv (j + 1)) ∧ wLc_39 a1 a2 a3 a4 a5 st (Inv (j + 1)) ∧ wLc_40 a1 a2 a3 a4 a5 st (Inv (j + 1)) ∧ wLc_41 a1 a2 a3 a4 a5 st (Inv (j + 1)) ∧ wLc_42 a1 a2 a3 a4 a5 st (Inv (j + 1))
/-- the law's own frame: all of it but the cells' places -/
def LX (E : En0) (p : Program) (s : State) (m : MethodId) (args : Array Value) (c : Code) : Prop := p.tables.exec = Jvm.exec ∧ c.code = cL_law ∧ c.maxLocals = 9 ∧ s.vm.findClass "PlankBridgeLaw" = some m.cls ∧ (∀ w ∈ lw_g, w.before args s = true) ∧ va_K E.1 vwCl (tyE E) s ∧ CO E (fun q => s.heap.size ≤ q) s s.heap ∧ NE s ∧ NC s ∧ va_AO "PlankBridge$Kind" s
theorem LX.cx {E : En0} (C : LX E p s m args c) (hEK : EK E L68) (hA : ∀ c, c ∈ L68 → s.heap.size ≤ E.2.1 c) : Cx E L68 "PlankBridgeLaw" cL_law 9 p s m args c :=
  ⟨C.1, C.2.1, C.2.2.1, C.2.2.2.1, C.2.2.2.2.1, C.2.2.2.2.2.1, hEK, C.2.2.2.2.2.2.1.narrow (fun q hq => hq.elim (fun ⟨c, hc, he⟩ => he ▸ hA c hc) id), C.2.2.2.2.2.2.2.1⟩
theorem law_at {j k : Nat} (h : 6 * j + 6 ≤ n) (hn : n ≤ 3072) (hk : k < 6) : vp_in (nI (6 * j) + nI k) n ∧ (nI (6 * j) + nI k).toNatClampNeg = 6 * j + k := by
  have e : nI (6 * j) + nI k = nI (6 * j + k) := by simp only [nI, Int32.ofNat_add]
  rw [e]
  exact ⟨nI_in (by omega) (by omega), nI_clamp (by omega)⟩
set_option maxHeartbeats 8000000 in
set_option maxRecDepth 100000 in
theorem law_loop {Inv : Nat → St → Prop} (hI : LawCases Inv) (hfl : l.stackTraces = false) (hX : va_X b0 n xs s s.heap) (hbl : b0 < s.heap.size) (hn : n ≤ 3072)
    (hend : ∀ (H : Heap) (ls : Array Slot), W p l e room_1 s m args below meth c H [] 601024 7293034 Q (F0 m 1921 ls [.int 1])) :
    ∀ (t j : Nat) (E : En0) (st : St) (H : Heap) (locs : List Loc) (ls : Array Slot) (cells slots : Nat), 513 ≤ j + t → 6 * j ≤ n → LX E p s m args c → EK E L68 → (∀ c, c ∈ L68 → s.heap.size ≤ E.2.1 c) → cells ≤ 100 + 12 * j → slots ≤ 20000 + 3300 * j → Inv j st →
      lv_has ls 9 [(0, .ref b0), (1, .ref (E.2.1 0)), (2, .ref (E.2.1 54)), (3, .ref (E.2.1 67)), (4, .int (nI (6 * j)))] → va_P E.1 vwCl (wd E L68 st) H → va_S (fun q => s.heap.size ≤ q) s.heap H locs → W p l e room_1 s m args below meth c H locs cells slots Q (F0 m 23 ls []) := by
  intro t
  induction t with
  | zero => intro j E st H locs ls cells slots ht hj; exact absurd hj (by omega)
  | succ t ih =>
    intro j E st H locs ls cells slots ht hj hLX hEK hA hcells hslots hinv hl hP hS0
    have C := hLX.cx hEK hA
    have hNC := hLX.2.2.2.2.2.2.2.2.1
    have hAO := hLX.2.2.2.2.2.2.2.2.2
    have hfA : ∀ q, fA E L68 s.heap.size q → s.heap.size ≤ q := fun q hq => hq.elim (fun ⟨c, hc, he⟩ => he ▸ hA c hc) id
    have hbA : ¬ fA E L68 s.heap.size b0 := fun q => absurd (hfA _ q) (Nat.not_le.mpr hbl)
    have hS : va_S (fA E L68 s.heap.size) s.heap H locs := ⟨hS0.1, fun q h1 h2 => hS0.2.1 q h1 (fun h3 => h2 (Or.inr h3)), fun z hz => Or.inr (hS0.2.2 z hz)⟩
    have e6 : nI (6 * (j + 1)) = nI (6 * j) + 6 := by rw [show 6 * (j + 1) = 6 * j + 6 from by omega]; simp only [nI, Int32.ofNat_add]; rfl
    refine lv_iload C.1 C.2.1 dL_law_23 (lv_at hl 4 rfl) ?_
    refine lv_aload_n C.1 C.2.1 dL_law_25 rfl (lv_at hl 0 rfl) ?_
    refine va_slen C.1 C.2.1 hX hbl hbA hS dL_law_26 ?_
    refine lv_bipush C.1 C.2.1 (v := 6) dL_law_27 rfl ?_
    refine lv_isub C.1 C.2.1 dL_law_29 ?_
    refine lv_icmp_gt C.1 C.2.1 (tgt := 1920) dL_law_30 (by decide) (fun hc9 => ?_) (fun hc9 => ?_)
    · refine lv_iconst C.1 C.2.1 (v := 1) dL_law_1920 rfl ?_
      refine W.widen (k := 601024) (n := 7293034) (by omega) (by omega) ?_
      exact va_forget hS0.2.2 (hend H ls)
    · have hlt : 6 * j + 6 ≤ n := by
        have h1 : (Int32.ofNat n).toInt = n := Int32.toInt_ofNat_of_lt (by omega)
        have h2 : (nI (6 * j)).toInt = 6 * j := by show (Int32.ofNat (6 * j)).toInt = _; rw [Int32.toInt_ofNat_of_lt (by omega)]; omega
        have h3 : (Int32.ofNat n - 6).toInt = n - 6 := by rw [Int32.toInt_sub, h1, show (6 : Int32).toInt = 6 from rfl]; exact Int.bmod_eq_of_le (by omega) (by omega)
        rw [Int32.lt_iff_toInt_lt, h2, h3] at hc9
        omega
      have i0 : vp_in (nI (6 * j)) n := nI_in (by omega) (by omega)
      have i1 := law_at hlt hn (k := 1) (by omega)
      have i2 := law_at hlt hn (k := 2) (by omega)
      have i3 := law_at hlt hn (k := 3) (by omega)
      have i4 := law_at hlt hn (k := 4) (by omega)
      have i5 := law_at hlt hn (k := 5) (by omega)
      have hcs : cells + 12 ≤ 601024 := by omega
      have hss : slots + 3300 ≤ 7293034 := by omega
      have hk : ∀ (a2 : Nat → Nat) (u : St) (H1 : Heap) (locs1 : List Loc) (ls1 : Array Slot) (c1 s1 : Nat), Inv (j + 1) u → c1 ≤ cells + 12 → s1 ≤ slots + 3300 → (∀ c, c < 60 ∨ c = 67 → a2 c = E.2.1 c) → EK (E.1, a2, E.2.2) L68 → (∀ c, c ∈ L68 → fA E L68 s.heap.size (a2 c)) → lv_has ls1 9 [(0, .ref b0), (1, .ref (E.2.1 0)), (2, .ref (E.2.1 54)), (3, .ref (E.2.1 67)), (4, .int (nI (6 * j)))] → va_P E.1 vwCl (wd (E.1, a2, E.2.2) L68 u) H1 → va_S (fA E L68 s.heap.size) s.heap H1 locs1 → W p l e room_1 s m args below meth c H1 locs1 c1 s1 Q (F0 m 1914 ls1 []) := by
        intro a2 u H1 locs1 ls1 c1 s1 hu g1 g2 hsame hEK2 hA2 hl1 hP1 hS1
        refine lv_iinc C.1 C.2.1 dL_law_1914 hl1 (k := 4) rfl e6.symm (Nat.le_of_ble_eq_true rfl) rfl (fun ls hl => ?_)
        have hl : lv_has ls 9 [(4, .int (nI (6 * (j + 1)))), (0, .ref b0), (1, .ref (E.2.1 0)), (2, .ref (E.2.1 54)), (3, .ref (E.2.1 67))] := hl
        refine lv_goto C.1 C.2.1 (tgt := 23) dL_law_1917 (by decide) ?_
        have hl := lv_sub hl [1, 2, 3, 4, 0] rfl
        refine ih (j + 1) (E.1, a2, E.2.2) u H1 locs1 ls c1 s1 (by omega) (by omega) hLX hEK2 (fun c hc => hfA _ (hA2 c hc)) (by omega) (by omega) hu ?_ hP1 ⟨hS1.1, fun q h1 h2 => hS1.2.1 q h1 (fun h3 => h2 (hfA q h3)), fun z hz => hfA _ (hS1.2.2 z hz)⟩
        show lv_has ls 9 [(0, .ref b0), (1, .ref (a2 0)), (2, .ref (a2 54)), (3, .ref (a2 67)), (4, .int (nI (6 * (j + 1))))]
        rw [hsame 0 (by omega), hsame 54 (by omega), hsame 67 (by omega)]
        exact hl
      have hkE : ∀ (u : St) (H1 : Heap) (locs1 : List Loc) (ls1 : Array Slot) (c1 s1 : Nat), Inv (j + 1) u → c1 ≤ cells + 12 → s1 ≤ slots + 3300 → lv_has ls1 9 [(0, .ref b0), (1, .ref (E.2.1 0)), (2, .ref (E.2.1 54)), (3, .ref (E.2.1 67)), (4, .int (nI (6 * j)))] → va_P E.1 vwCl (wd E L68 u) H1 → va_S (fA E L68 s.heap.size) s.heap H1 locs1 → W p l e room_1 s m args below meth c H1 locs1 c1 s1 Q (F0 m 1914 ls1 []) :=
        fun u H1 locs1 ls1 c1 s1 hu g1 g2 hl1 hP1 hS1 => hk E.2.1 u H1 locs1 ls1 c1 s1 hu g1 g2 (fun _ _ => rfl) hEK (fun c hc => Or.inl ⟨c, hc, rfl⟩) hl1 hP1 hS1
      have hcase := hI.2 j st (by omega) hinv (xs (nI (6 * j) + 1).toNatClampNeg) (xs (nI (6 * j) + 2).toNatClampNeg) (xs (nI (6 * j) + 3).toNatClampNeg) (xs (nI (6 * j) + 4).toNatClampNeg) (xs (nI (6 * j) + 5).toNatClampNeg)
      refine lv_aload_n C.1 C.2.1 dL_law_33 rfl (lv_at hl 0 rfl) ?_
      refine lv_iload C.1 C.2.1 dL_law_34 (lv_at hl 4 rfl) ?_
      refine law_sld C hX hbl hbA hS i0 rfl dL_law_36 ?_
      refine lv_bipush C.1 C.2.1 (v := 63) dL_law_37 rfl ?_
      refine lv_iand C.1 C.2.1 dL_law_39 ?_
      refine lv_topi (fun v ev => ?_)
      rcases Classical.em (v.toInt < 0 ∨ 42 < v.toInt) with hx | hx
      · refine lv_tableOut C.1 C.2.1 (tgt := 1914) dL_law_40 hx (by decide) ?_
        exact hkE st H locs ls _ _ (hI.1 j st hinv) (by omega) (by omega) hl hP hS
      · have hx : v.toInt = 0 ∨ v.toInt = 1 ∨ v.toInt = 2 ∨ v.toInt = 3 ∨ v.toInt = 4 ∨ v.toInt = 5 ∨ v.toInt = 6 ∨ v.toInt = 7 ∨ v.toInt = 8 ∨ v.toInt = 9 ∨ v.toInt = 10 ∨ v.toInt = 11 ∨ v.toInt = 12 ∨ v.toInt = 13 ∨ v.toInt = 14 ∨ v.toInt = 15 ∨ v.toInt = 16 ∨ v.toInt = 17 ∨ v.toInt = 18 ∨ v.toInt = 19 ∨ v.toInt = 20 ∨ v.toInt = 21 ∨ v.toInt = 22 ∨ v.toInt = 23 ∨ v.toInt = 24 ∨ v.toInt = 25 ∨ v.toInt = 26 ∨ v.toInt = 27 ∨ v.toInt = 28 ∨ v.toInt = 29 ∨ v.toInt = 30 ∨ v.toInt = 31 ∨ v.toInt = 32 ∨ v.toInt = 33 ∨ v.toInt = 34 ∨ v.toInt = 35 ∨ v.toInt = 36 ∨ v.toInt = 37 ∨ v.toInt = 38 ∨ v.toInt = 39 ∨ v.toInt = 40 ∨ v.toInt = 41 ∨ v.toInt = 42 := by omega
        rcases hx with hx | hx | hx | hx | hx | hx | hx | hx | hx | hx | hx | hx | hx | hx | hx | hx | hx | hx | hx | hx | hx | hx | hx | hx | hx | hx | hx | hx | hx | hx | hx | hx | hx | hx | hx | hx | hx | hx | hx | hx | hx | hx | hx

        · refine lv_tableIn C.1 C.2.1 (off := 188) (tgt := 228) dL_law_40 (by omega) (by omega) (by rw [hx]; rfl) (by decide) ?_
          exact tLc_0 C hNC hfl hX hbl hbA i1.1 i2.1 i3.1 i4.1 i5.1 rfl rfl rfl rfl rfl hcs hss hl hP hS hcase.1 hkE
        · refine lv_tableIn C.1 C.2.1 (off := 292) (tgt := 332) dL_law_40 (by omega) (by omega) (by rw [hx]; rfl) (by decide) ?_
          exact tLc_1 C hNC hfl hX hbl hbA i1.1 i2.1 i3.1 i4.1 i5.1 rfl rfl rfl rfl rfl hcs hss hl hP hS hcase.2.1 hkE
        · refine lv_tableIn C.1 C.2.1 (off := 348) (tgt := 388) dL_law_40 (by omega) (by omega) (by rw [hx]; rfl) (by decide) ?_
          exact tLc_2 C hAO hcs hss hl hP hS hcase.2.2.1 hk
        · refine lv_tableIn C.1 C.2.1 (off := 361) (tgt := 401) dL_law_40 (by omega) (by omega) (by rw [hx]; rfl) (by decide) ?_
          exact tLc_3 C hNC hfl hX hbl hbA i1.1 i2.1 i3.1 i4.1 i5.1 rfl rfl rfl rfl rfl hcs hss hl hP hS hcase.2.2.2.1 hkE
        · refine lv_tableIn C.1 C.2.1 (off := 374) (tgt := 414) dL_law_40 (by omega) (by omega) (by rw [hx]; rfl) (by decide) ?_
          exact tLc_4 C hNC hfl hX hbl hbA i1.1 i2.1 i3.1 i4.1 i5.1 rfl rfl rfl rfl rfl hcs hss hl hP hS hcase.2.2.2.2.1 hkE
        · refine lv_tableIn C.1 C.2.1 (off := 387) (tgt := 427) dL_law_40 (by omega) (by omega) (by rw [hx]; rfl) (by decide) ?_
          exact tLc_5 C hNC hfl hX hbl hbA i1.1 i2.1 i3.1 i4.1 i5.1 rfl rfl rfl rfl rfl hcs hss hl hP hS hcase.2.2.2.2.2.1 hkE
        · refine lv_tableIn C.1 C.2.1 (off := 400) (tgt := 440) dL_law_40 (by omega) (by omega) (by rw [hx]; rfl) (by decide) ?_
          exact tLc_6 C hNC hfl hX hbl hbA i1.1 i2.1 i3.1 i4.1 i5.1 rfl rfl rfl rfl rfl hcs hss hl hP hS hcase.2.2.2.2.2.2.1 hkE
        · refine lv_tableIn C.1 C.2.1 (off := 413) (tgt := 453) dL_law_40 (by omega) (by omega) (by rw [hx]; rfl) (by decide) ?_
          exact tLc_7 C hNC hfl hX hbl hbA i1.1 i2.1 i3.1 i4.1 i5.1 rfl rfl rfl rfl rfl hcs hss hl hP hS hcase.2.2.2.2.2.2.2.1 hkE
        · refine lv_tableIn C.1 C.2.1 (off := 469) (tgt := 509) dL_law_40 (by omega) (by omega) (by rw [hx]; rfl) (by decide) ?_
          exact tLc_8 C hNC hfl hX hbl hbA i1.1 i2.1 i3.1 i4.1 i5.1 rfl rfl rfl rfl rfl hcs hss hl hP hS hcase.2.2.2.2.2.2.2.2.1 hkE
        · refine lv_tableIn C.1 C.2.1 (off := 525) (tgt := 565) dL_law_40 (by omega) (by omega) (by rw [hx]; rfl) (by decide) ?_
          exact tLc_9 C hNC hfl hX hbl hbA i1.1 i2.1 i3.1 i4.1 i5.1 rfl rfl rfl rfl rfl hcs hss hl hP hS hcase.2.2.2.2.2.2.2.2.2.1 hkE
        · refine lv_tableIn C.1 C.2.1 (off := 588) (tgt := 628) dL_law_40 (by omega) (by omega) (by rw [hx]; rfl) (by decide) ?_
          exact tLc_10 C hNC hfl hX hbl hbA i1.1 i2.1 i3.1 i4.1 i5.1 rfl rfl rfl rfl rfl hcs hss hl hP hS hcase.2.2.2.2.2.2.2.2.2.2.1 hkE
        · refine lv_tableIn C.1 C.2.1 (off := 601) (tgt := 641) dL_law_40 (by omega) (by omega) (by rw [hx]; rfl) (by decide) ?_
          exact tLc_11 C hNC hfl hX hbl hbA i1.1 i2.1 i3.1 i4.1 i5.1 rfl rfl rfl rfl rfl hcs hss hl hP hS hcase.2.2.2.2.2.2.2.2.2.2.2.1 hkE
        · refine lv_tableIn C.1 C.2.1 (off := 657) (tgt := 697) dL_law_40 (by omega) (by omega) (by rw [hx]; rfl) (by decide) ?_
          exact tLc_12 C hNC hfl hX hbl hbA i1.1 i2.1 i3.1 i4.1 i5.1 rfl rfl rfl rfl rfl hcs hss hl hP hS hcase.2.2.2.2.2.2.2.2.2.2.2.2.1 hkE
        · refine lv_tableIn C.1 C.2.1 (off := 713) (tgt := 753) dL_law_40 (by omega) (by omega) (by rw [hx]; rfl) (by decide) ?_
          exact tLc_13 C hNC hfl hX hbl hbA i1.1 i2.1 i3.1 i4.1 i5.1 rfl rfl rfl rfl rfl hcs hss hl hP hS hcase.2.2.2.2.2.2.2.2.2.2.2.2.2.1 hkE
        · refine lv_tableIn C.1 C.2.1 (off := 776) (tgt := 816) dL_law_40 (by omega) (by omega) (by rw [hx]; rfl) (by decide) ?_
          exact tLc_14 C hNC hfl hX hbl hbA i1.1 i2.1 i3.1 i4.1 i5.1 rfl rfl rfl rfl rfl hcs hss hl hP hS hcase.2.2.2.2.2.2.2.2.2.2.2.2.2.2.1 hkE
        · refine lv_tableIn C.1 C.2.1 (off := 789) (tgt := 829) dL_law_40 (by omega) (by omega) (by rw [hx]; rfl) (by decide) ?_
          exact tLc_15 C hNC hfl hX hbl hbA i1.1 i2.1 i3.1 i4.1 i5.1 rfl rfl rfl rfl rfl hcs hss hl hP hS hcase.2.2.2.2.2.2.2.2.2.2.2.2.2.2.2.1 hkE
        · refine lv_tableIn C.1 C.2.1 (off := 833) (tgt := 873) dL_law_40 (by omega) (by omega) (by rw [hx]; rfl) (by decide) ?_
          exact tLc_16 C hNC hfl hX hbl hbA i1.1 i2.1 i3.1 i4.1 i5.1 rfl rfl rfl rfl rfl hcs hss hl hP hS hcase.2.2.2.2.2.2.2.2.2.2.2.2.2.2.2.2.1 hkE
        · refine lv_tableIn C.1 C.2.1 (off := 846) (tgt := 886) dL_law_40 (by omega) (by omega) (by rw [hx]; rfl) (by decide) ?_
          exact tLc_17 C hNC hfl hX hbl hbA i1.1 i2.1 i3.1 i4.1 i5.1 rfl rfl rfl rfl rfl hcs hss hl hP hS hcase.2.2.2.2.2.2.2.2.2.2.2.2.2.2.2.2.2.1 hkE
        · refine lv_tableIn C.1 C.2.1 (off := 890) (tgt := 930) dL_law_40 (by omega) (by omega) (by rw [hx]; rfl) (by decide) ?_
          exact tLc_18 C hNC hfl hX hbl hbA i1.1 i2.1 i3.1 i4.1 i5.1 rfl rfl rfl rfl rfl hcs hss hl hP hS hcase.2.2.2.2.2.2.2.2.2.2.2.2.2.2.2.2.2.2.1 hkE
        · refine lv_tableIn C.1 C.2.1 (off := 903) (tgt := 943) dL_law_40 (by omega) (by omega) (by rw [hx]; rfl) (by decide) ?_
          exact tLc_19 C hNC hfl hX hbl hbA i1.1 i2.1 i3.1 i4.1 i5.1 rfl rfl rfl rfl rfl hcs hss hl hP hS hcase.2.2.2.2.2.2.2.2.2.2.2.2.2.2.2.2.2.2.2.1 hkE
        · refine lv_tableIn C.1 C.2.1 (off := 916) (tgt := 956) dL_law_40 (by omega) (by omega) (by rw [hx]; rfl) (by decide) ?_
          exact tLc_20 C hNC hfl hX hbl hbA i1.1 i2.1 i3.1 i4.1 i5.1 rfl rfl rfl rfl rfl hcs hss hl hP hS hcase.2.2.2.2.2.2.2.2.2.2.2.2.2.2.2.2.2.2.2.2.1 hkE
        · refine lv_tableIn C.1 C.2.1 (off := 929) (tgt := 969) dL_law_40 (by omega) (by omega) (by rw [hx]; rfl) (by decide) ?_
          exact tLc_21 C hNC hfl hX hbl hbA i1.1 i2.1 i3.1 i4.1 i5.1 rfl rfl rfl rfl rfl hcs hss hl hP hS hcase.2.2.2.2.2.2.2.2.2.2.2.2.2.2.2.2.2.2.2.2.2.1 hkE
        · refine lv_tableIn C.1 C.2.1 (off := 942) (tgt := 982) dL_law_40 (by omega) (by omega) (by rw [hx]; rfl) (by decide) ?_
          exact tLc_22 C hNC hfl hX hbl hbA i1.1 i2.1 i3.1 i4.1 i5.1 rfl rfl rfl rfl rfl hcs hss hl hP hS hcase.2.2.2.2.2.2.2.2.2.2.2.2.2.2.2.2.2.2.2.2.2.2.1 hkE
        · refine lv_tableIn C.1 C.2.1 (off := 955) (tgt := 995) dL_law_40 (by omega) (by omega) (by rw [hx]; rfl) (by decide) ?_
          exact tLc_23 C hNC hfl hX hbl hbA i1.1 i2.1 i3.1 i4.1 i5.1 rfl rfl rfl rfl rfl hcs hss hl hP hS hcase.2.2.2.2.2.2.2.2.2.2.2.2.2.2.2.2.2.2.2.2.2.2.2.1 hkE
        · refine lv_tableIn C.1 C.2.1 (off := 1018) (tgt := 1058) dL_law_40 (by omega) (by omega) (by rw [hx]; rfl) (by decide) ?_
          exact tLc_24 C hNC hfl hX hbl hbA i1.1 i2.1 i3.1 i4.1 i5.1 rfl rfl rfl rfl rfl hcs hss hl hP hS hcase.2.2.2.2.2.2.2.2.2.2.2.2.2.2.2.2.2.2.2.2.2.2.2.2.1 hkE
        · refine lv_tableIn C.1 C.2.1 (off := 1093) (tgt := 1133) dL_law_40 (by omega) (by omega) (by rw [hx]; rfl) (by decide) ?_
          exact tLc_25 C hNC hfl hX hbl hbA i1.1 i2.1 i3.1 i4.1 i5.1 rfl rfl rfl rfl rfl hcs hss hl hP hS hcase.2.2.2.2.2.2.2.2.2.2.2.2.2.2.2.2.2.2.2.2.2.2.2.2.2.1 hkE
        · refine lv_tableIn C.1 C.2.1 (off := 1149) (tgt := 1189) dL_law_40 (by omega) (by omega) (by rw [hx]; rfl) (by decide) ?_
          exact tLc_26 C hNC hfl hX hbl hbA i1.1 i2.1 i3.1 i4.1 i5.1 rfl rfl rfl rfl rfl hcs hss hl hP hS hcase.2.2.2.2.2.2.2.2.2.2.2.2.2.2.2.2.2.2.2.2.2.2.2.2.2.2.1 hkE
        · refine lv_tableIn C.1 C.2.1 (off := 1217) (tgt := 1257) dL_law_40 (by omega) (by omega) (by rw [hx]; rfl) (by decide) ?_
          exact tLc_27 C hNC hfl hX hbl hbA i1.1 i2.1 i3.1 i4.1 i5.1 rfl rfl rfl rfl rfl hcs hss hl hP hS hcase.2.2.2.2.2.2.2.2.2.2.2.2.2.2.2.2.2.2.2.2.2.2.2.2.2.2.2.1 hkE
        · refine lv_tableIn C.1 C.2.1 (off := 1273) (tgt := 1313) dL_law_40 (by omega) (by omega) (by rw [hx]; rfl) (by decide) ?_
          exact tLc_28 C hNC hfl hX hbl hbA i1.1 i2.1 i3.1 i4.1 i5.1 rfl rfl rfl rfl rfl hcs hss hl hP hS hcase.2.2.2.2.2.2.2.2.2.2.2.2.2.2.2.2.2.2.2.2.2.2.2.2.2.2.2.2.1 hkE
        · refine lv_tableIn C.1 C.2.1 (off := 1286) (tgt := 1326) dL_law_40 (by omega) (by omega) (by rw [hx]; rfl) (by decide) ?_
          exact tLc_29 C hNC hfl hX hbl hbA i1.1 i2.1 i3.1 i4.1 i5.1 rfl rfl rfl rfl rfl hcs hss hl hP hS hcase.2.2.2.2.2.2.2.2.2.2.2.2.2.2.2.2.2.2.2.2.2.2.2.2.2.2.2.2.2.1 hkE
        · refine lv_tableIn C.1 C.2.1 (off := 1299) (tgt := 1339) dL_law_40 (by omega) (by omega) (by rw [hx]; rfl) (by decide) ?_
          exact tLc_30 C hNC hfl hX hbl hbA i1.1 i2.1 i3.1 i4.1 i5.1 rfl rfl rfl rfl rfl hcs hss hl hP hS hcase.2.2.2.2.2.2.2.2.2.2.2.2.2.2.2.2.2.2.2.2.2.2.2.2.2.2.2.2.2.2.1 hkE
        · refine lv_tableIn C.1 C.2.1 (off := 1312) (tgt := 1352) dL_law_40 (by omega) (by omega) (by rw [hx]; rfl) (by decide) ?_
          exact tLc_31 C hNC hfl hX hbl hbA i1.1 i2.1 i3.1 i4.1 i5.1 rfl rfl rfl rfl rfl hcs hss hl hP hS hcase.2.2.2.2.2.2.2.2.2.2.2.2.2.2.2.2.2.2.2.2.2.2.2.2.2.2.2.2.2.2.2.1 hkE
        · refine lv_tableIn C.1 C.2.1 (off := 1368) (tgt := 1408) dL_law_40 (by omega) (by omega) (by rw [hx]; rfl) (by decide) ?_
          exact tLc_32 C hNC hfl hX hbl hbA i1.1 i2.1 i3.1 i4.1 i5.1 rfl rfl rfl rfl rfl hcs hss hl hP hS hcase.2.2.2.2.2.2.2.2.2.2.2.2.2.2.2.2.2.2.2.2.2.2.2.2.2.2.2.2.2.2.2.2.1 hkE
        · refine lv_tableIn C.1 C.2.1 (off := 1431) (tgt := 1471) dL_law_40 (by omega) (by omega) (by rw [hx]; rfl) (by decide) ?_
          exact tLc_33 C hNC hfl hX hbl hbA i1.1 i2.1 i3.1 i4.1 i5.1 rfl rfl rfl rfl rfl hcs hss hl hP hS hcase.2.2.2.2.2.2.2.2.2.2.2.2.2.2.2.2.2.2.2.2.2.2.2.2.2.2.2.2.2.2.2.2.2.1 hkE
        · refine lv_tableIn C.1 C.2.1 (off := 1506) (tgt := 1546) dL_law_40 (by omega) (by omega) (by rw [hx]; rfl) (by decide) ?_
          exact tLc_34 C hNC hfl hX hbl hbA i1.1 i2.1 i3.1 i4.1 i5.1 rfl rfl rfl rfl rfl hcs hss hl hP hS hcase.2.2.2.2.2.2.2.2.2.2.2.2.2.2.2.2.2.2.2.2.2.2.2.2.2.2.2.2.2.2.2.2.2.2.1 hkE
        · refine lv_tableIn C.1 C.2.1 (off := 1519) (tgt := 1559) dL_law_40 (by omega) (by omega) (by rw [hx]; rfl) (by decide) ?_
          exact tLc_35 C hNC hfl hX hbl hbA i1.1 i2.1 i3.1 i4.1 i5.1 rfl rfl rfl rfl rfl hcs hss hl hP hS hcase.2.2.2.2.2.2.2.2.2.2.2.2.2.2.2.2.2.2.2.2.2.2.2.2.2.2.2.2.2.2.2.2.2.2.2.1 hkE
        · refine lv_tableIn C.1 C.2.1 (off := 1563) (tgt := 1603) dL_law_40 (by omega) (by omega) (by rw [hx]; rfl) (by decide) ?_
          exact tLc_36 C hNC hfl hX hbl hbA i1.1 i2.1 i3.1 i4.1 i5.1 rfl rfl rfl rfl rfl hcs hss hl hP hS hcase.2.2.2.2.2.2.2.2.2.2.2.2.2.2.2.2.2.2.2.2.2.2.2.2.2.2.2.2.2.2.2.2.2.2.2.2.1 hkE
        · refine lv_tableIn C.1 C.2.1 (off := 1607) (tgt := 1647) dL_law_40 (by omega) (by omega) (by rw [hx]; rfl) (by decide) ?_
          exact tLc_37 C hNC hfl hX hbl hbA i1.1 i2.1 i3.1 i4.1 i5.1 rfl rfl rfl rfl rfl hcs hss hl hP hS hcase.2.2.2.2.2.2.2.2.2.2.2.2.2.2.2.2.2.2.2.2.2.2.2.2.2.2.2.2.2.2.2.2.2.2.2.2.2.1 hkE
        · refine lv_tableIn C.1 C.2.1 (off := 1663) (tgt := 1703) dL_law_40 (by omega) (by omega) (by rw [hx]; rfl) (by decide) ?_
          exact tLc_38 C hNC hfl hX hbl hbA i1.1 i2.1 i3.1 i4.1 i5.1 rfl rfl rfl rfl rfl hcs hss hl hP hS hcase.2.2.2.2.2.2.2.2.2.2.2.2.2.2.2.2.2.2.2.2.2.2.2.2.2.2.2.2.2.2.2.2.2.2.2.2.2.2.1 hkE
        · refine lv_tableIn C.1 C.2.1 (off := 1719) (tgt := 1759) dL_law_40 (by omega) (by omega) (by rw [hx]; rfl) (by decide) ?_
          exact tLc_39 C hNC hfl hX hbl hbA i1.1 i2.1 i3.1 i4.1 i5.1 rfl rfl rfl rfl rfl hcs hss hl hP hS hcase.2.2.2.2.2.2.2.2.2.2.2.2.2.2.2.2.2.2.2.2.2.2.2.2.2.2.2.2.2.2.2.2.2.2.2.2.2.2.2.1 hkE
        · refine lv_tableIn C.1 C.2.1 (off := 1775) (tgt := 1815) dL_law_40 (by omega) (by omega) (by rw [hx]; rfl) (by decide) ?_
          exact tLc_40 C hNC hfl hX hbl hbA i1.1 i2.1 i3.1 i4.1 i5.1 rfl rfl rfl rfl rfl hcs hss hl hP hS hcase.2.2.2.2.2.2.2.2.2.2.2.2.2.2.2.2.2.2.2.2.2.2.2.2.2.2.2.2.2.2.2.2.2.2.2.2.2.2.2.2.1 hkE
        · refine lv_tableIn C.1 C.2.1 (off := 1819) (tgt := 1859) dL_law_40 (by omega) (by omega) (by rw [hx]; rfl) (by decide) ?_
          exact tLc_41 C hNC hfl hX hbl hbA i1.1 i2.1 i3.1 i4.1 i5.1 rfl rfl rfl rfl rfl hcs hss hl hP hS hcase.2.2.2.2.2.2.2.2.2.2.2.2.2.2.2.2.2.2.2.2.2.2.2.2.2.2.2.2.2.2.2.2.2.2.2.2.2.2.2.2.2.1 hkE
        · refine lv_tableIn C.1 C.2.1 (off := 1860) (tgt := 1900) dL_law_40 (by omega) (by omega) (by rw [hx]; rfl) (by decide) ?_
          exact tLc_42 C hNC hfl hX hbl hbA i1.1 i2.1 i3.1 i4.1 i5.1 rfl rfl rfl rfl rfl hcs hss hl hP hS hcase.2.2.2.2.2.2.2.2.2.2.2.2.2.2.2.2.2.2.2.2.2.2.2.2.2.2.2.2.2.2.2.2.2.2.2.2.2.2.2.2.2.2 hkE
end LL

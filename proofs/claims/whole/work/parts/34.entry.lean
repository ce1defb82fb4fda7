/-! the start: what the Statement gives, as the world's constants -/
def nwL : List Cond := flatC (Jvm.Cond.and given_1 narrow_1)
theorem nw_mem {k : Nat} {w : Cond} (h : nwL[k]? = some w) : w ∈ nwL := List.mem_of_getElem? h
theorem nw_ne {args : Array Value} {s : State} {t u : Term} {a b : Nat} (ht : t.eval args s none [] s = some (.ref a)) (hu : u.eval args s none [] s = some (.ref b)) (h : a ≠ b) : (Cond.not (.eq t u)).before args s = true := by
  simp [Cond.before, Cond.holds, Cond.value, ht, hu, h]
theorem ar_of {args : Array Value} {s : State} {ty : FieldType} (h : (Cond.arrayClass ty).before args s = true) : ∃ cA : ClassId, ArrOfT s cA ty ∧ s.vm.findClass ("[" ++ ty.toString) = some cA := by
  obtain ⟨c, k, comp, h1, h2, h3⟩ := Cond.arrayClass_spec h
  exact ⟨c, fun n z => ⟨fun k h => (by cases h), k, h2, comp, h3⟩, h1⟩
theorem ao_of {args : Array Value} {s : State} {C : String} (h : (Cond.arrayOver (.object C)).before args s = true) : ∃ cA : ClassId, ArrOfT s cA (.object C) ∧ va_RA s cA (.object C) := by
  obtain ⟨comp, cA, kA, h1, h2, h3, h4, h5⟩ := Cond.arrayOver_spec h
  exact ⟨cA, fun n z => ⟨fun k h => (by cases h), kA, h3, comp, h4⟩, kA, comp, h3, h4, h1, h5⟩
def exP : List Nat := [10, 4, 7, 55, 79, 82, 67, 73, 161, 164, 167, 58, 61, 64, 70, 76, 215, 137, 218, 221, 224, 227, 178, 230, 173, 170, 125, 128, 131, 134, 140, 143, 146, 149, 152, 155, 158]
def odP : List Nat := [11, 5, 8, 56, 80, 83, 68, 74, 162, 165, 168, 59, 62, 65, 71, 77, 216, 138, 219, 222, 225, 228, 179, 231, 174, 171, 126, 129, 132, 135, 141, 144, 147, 150, 153, 156, 159]
def cdP : List Nat := [12, 6, 9, 57, 81, 84, 69, 75, 163, 166, 169, 60, 63, 66, 72, 78, 217, 139, 220, 223, 226, 229, 180, 232, 175, 172, 127, 130, 133, 136, 142, 145, 148, 151, 154, 157, 160]
def alP : List Nat := [18, 19, 20, 21, 22, 23, 24, 25, 26, 27, 28, 29, 30, 31, 32, 33, 34, 35, 36, 37, 38, 39, 40, 41, 42, 43, 44, 45, 46, 47, 48, 49, 50, 51, 52, 53, 54]
def swP : List Nat := [88, 89, 90, 91, 92, 93, 94, 95, 96, 97, 98, 99, 100, 101, 102, 103, 104, 105, 106, 107, 108, 109, 110, 111, 112, 113, 114, 115, 116, 117, 118, 119, 120, 121, 122, 123, 124]
def wpP : List Nat := [184, 185, 186, 187, 188, 189, 190, 191, 192, 193, 194, 195, 196, 197, 198, 199, 200, 201, 202, 203, 204, 205, 206, 207, 208, 209]
def sxP : List Nat := [577, 587, 597, 606, 616, 624, 632, 640, 648, 656, 664, 670, 679, 685, 693, 700, 711, 722, 734, 746, 754, 761, 768, 778, 787, 798]
def sIx : List Nat := [246, 248, 250, 251, 252, 254, 255, 257, 259, 261, 262, 264, 266, 268, 270, 272, 274, 276, 278, 280, 281, 282, 284, 286, 288, 289]
def rxP : List Nat := [275, 310, 338, 356, 373, 399, 431, 452, 483, 508, 524, 540, 555]
def klP : List Nat := [454, 263, 452, 488, 574, 576, 545, 562, 654, 656, 658, 501, 528, 543, 555, 568, 1976, 618, 1977, 1978, 1979, 1980, 1150, 1981, 670, 660, 606, 608, 610, 612, 628, 630, 632, 634, 636, 638, 640]
set_option maxRecDepth 100000 in
theorem nx_ex : ∀ i, i < 37 → nwL[exP.getD i 0]? = some (.exactly (.static "PlankBridge$Kind" (kNm.getD i "") "LPlankBridge$Kind;") "PlankBridge$Kind") := by decide +kernel
set_option maxRecDepth 100000 in
theorem nx_od : ∀ i, i < 37 → nwL[odP.getD i 0]? = some (.eq (.field (.static "PlankBridge$Kind" (kNm.getD i "") "LPlankBridge$Kind;") "java/lang/Enum" "ordinal" "I") (.int (((List.range 37).map Int32.ofNat).getD i 0))) := by decide +kernel
set_option maxRecDepth 100000 in
theorem nx_cd : ∀ i, i < 37 → nwL[cdP.getD i 0]? = some (.eq (.field (.static "PlankBridge$Kind" (kNm.getD i "") "LPlankBridge$Kind;") "PlankBridge$Kind" "code" "J") (.long (kCode i))) := by decide +kernel
set_option maxRecDepth 100000 in
theorem nx_al : ∀ i, i < 37 → nwL[alP.getD i 0]? = some (.eq (.elem (.static "PlankBridge$Kind" "ALL" "[LPlankBridge$Kind;") (.int (Int32.ofNat i))) (.static "PlankBridge$Kind" (kNm.getD i "") "LPlankBridge$Kind;")) := by decide +kernel
set_option maxRecDepth 100000 in
theorem nx_sw : ∀ i, i < 37 → nwL[swP.getD i 0]? = some (.eq (.elem (.static "PlankBridge$1" "$SwitchMap$PlankBridge$Kind" "[I") (.int (Int32.ofNat i))) (.int (kSw i))) := by decide +kernel
set_option maxRecDepth 100000 in
theorem nx_wp : ∀ i, i < 26 → nwL[wpP.getD i 0]? = some (.eq (.elem (.static "PlankBridgeModel" "WORDS" "[Ljava/lang/String;") (.int (Int32.ofNat i))) (.string "PlankBridgeModel" (sIx.getD i 0))) := by decide +kernel
set_option maxRecDepth 100000 in
theorem nx_s0 : ∀ i, i < 26 → nwL[sxP.getD i 0]? = some (.exactly (.string "PlankBridgeModel" (sIx.getD i 0)) "java/lang/String") := by decide +kernel
set_option maxRecDepth 100000 in
theorem nx_s1 : ∀ i, i < 26 → nwL[sxP.getD i 0 + 1]? = some (.eq (.field (.string "PlankBridgeModel" (sIx.getD i 0)) "java/lang/String" "coder" "B") (.int 0)) := by decide +kernel
set_option maxRecDepth 100000 in
theorem nx_s2 : ∀ i, i < 26 → nwL[sxP.getD i 0 + 2]? = some (.arrayOf (.field (.string "PlankBridgeModel" (sIx.getD i 0)) "java/lang/String" "value" "[B") .byte) := by decide +kernel
set_option maxRecDepth 100000 in
theorem nx_s3 : ∀ i, i < 26 → nwL[sxP.getD i 0 + 3]? = some (.eq (.length (.field (.string "PlankBridgeModel" (sIx.getD i 0)) "java/lang/String" "value" "[B")) (.int (Int32.ofNat (sLen.getD i 0)))) := by decide +kernel
set_option maxRecDepth 100000 in
theorem nx_s4 : ∀ i, i < 26 → ∀ j, j < sLen.getD i 0 → nwL[sxP.getD i 0 + 4 + j]? = some (.eq (.elem (.field (.string "PlankBridgeModel" (sIx.getD i 0)) "java/lang/String" "value" "[B") (.int (Int32.ofNat j))) (.int ((sByt.getD i []).getD j 0))) := by decide +kernel
set_option maxRecDepth 100000 in
theorem nx_kl : ∀ i, i < 37 → lw_tbl[klP.getD i 0]? = some (.laysStatic "PlankBridge$Kind" (kNm.getD i "") "LPlankBridge$Kind;") := by decide +kernel
theorem nx_sd : ∀ i, i < 26 → ∀ j, j < 26 → i ≠ j → sLen.getD i 0 ≠ sLen.getD j 0 ∨ ∃ k, k < 8 ∧ k < sLen.getD i 0 ∧ (sByt.getD i []).getD k 0 ≠ (sByt.getD j []).getD k 0 := by decide +kernel
theorem nw15 : ((Jvm.Cond.arrayOf (Jvm.Term.static "PlankBridge$Kind" "ALL" "[LPlankBridge$Kind;") (Jvm.ClassFile.FieldType.object "PlankBridge$Kind")) : Cond) ∈ nwL := List.mem_of_getElem? (i := 15) (by decide +kernel)
theorem nw16 : ((Jvm.Cond.eq (Jvm.Term.length (Jvm.Term.static "PlankBridge$Kind" "ALL" "[LPlankBridge$Kind;")) (Jvm.Term.int (37 : Int32))) : Cond) ∈ nwL := List.mem_of_getElem? (i := 16) (by decide +kernel)
theorem nw86 : ((Jvm.Cond.arrayOf (Jvm.Term.static "PlankBridge$1" "$SwitchMap$PlankBridge$Kind" "[I") Jvm.ClassFile.FieldType.int) : Cond) ∈ nwL := List.mem_of_getElem? (i := 86) (by decide +kernel)
theorem nw87 : ((Jvm.Cond.eq (Jvm.Term.length (Jvm.Term.static "PlankBridge$1" "$SwitchMap$PlankBridge$Kind" "[I")) (Jvm.Term.int (37 : Int32))) : Cond) ∈ nwL := List.mem_of_getElem? (i := 87) (by decide +kernel)
theorem nw182 : ((Jvm.Cond.arrayOf (Jvm.Term.static "PlankBridgeModel" "WORDS" "[Ljava/lang/String;") (Jvm.ClassFile.FieldType.object "java/lang/String")) : Cond) ∈ nwL := List.mem_of_getElem? (i := 182) (by decide +kernel)
theorem nw183 : ((Jvm.Cond.eq (Jvm.Term.length (Jvm.Term.static "PlankBridgeModel" "WORDS" "[Ljava/lang/String;")) (Jvm.Term.int (26 : Int32))) : Cond) ∈ nwL := List.mem_of_getElem? (i := 183) (by decide +kernel)
theorem nw210 : ((Jvm.Cond.eq (Jvm.Term.static "java/lang/String" "COMPACT_STRINGS" "Z") (Jvm.Term.int (1 : Int32))) : Cond) ∈ nwL := List.mem_of_getElem? (i := 210) (by decide +kernel)
theorem nw211 : ((Jvm.Cond.isRef (Jvm.Term.static "jdk/internal/util/Preconditions" "SIOOBE_FORMATTER" "Ljava/util/function/BiFunction;")) : Cond) ∈ nwL := List.mem_of_getElem? (i := 211) (by decide +kernel)
theorem nw176 : ((Jvm.Cond.isRef (Jvm.Term.static "java/lang/Throwable" "UNASSIGNED_STACK" "[Ljava/lang/StackTraceElement;")) : Cond) ∈ nwL := List.mem_of_getElem? (i := 176) (by decide +kernel)
theorem nw177 : ((Jvm.Cond.isRef (Jvm.Term.static "java/lang/Throwable" "SUPPRESSED_SENTINEL" "Ljava/util/List;")) : Cond) ∈ nwL := List.mem_of_getElem? (i := 177) (by decide +kernel)
theorem nw272 : ((Jvm.Cond.not (Jvm.Cond.castable "java/lang/IllegalStateException" "java/lang/IndexOutOfBoundsException")) : Cond) ∈ nwL := List.mem_of_getElem? (i := 272) (by decide +kernel)
theorem nw258 : ((Jvm.Cond.not (Jvm.Cond.castable "java/lang/IllegalStateException" "java/lang/IllegalArgumentException")) : Cond) ∈ nwL := List.mem_of_getElem? (i := 258) (by decide +kernel)
theorem nw273 : ((Jvm.Cond.not (Jvm.Cond.castable "java/lang/IllegalArgumentException" "java/lang/IndexOutOfBoundsException")) : Cond) ∈ nwL := List.mem_of_getElem? (i := 273) (by decide +kernel)
theorem nw275 : ((Jvm.Cond.exactly (Jvm.Term.string "PlankBridge" (79 : Nat)) "java/lang/String") : Cond) ∈ nwL := List.mem_of_getElem? (i := 275) (by decide +kernel)
theorem nw310 : ((Jvm.Cond.exactly (Jvm.Term.string "PlankBridge" (93 : Nat)) "java/lang/String") : Cond) ∈ nwL := List.mem_of_getElem? (i := 310) (by decide +kernel)
theorem nw338 : ((Jvm.Cond.exactly (Jvm.Term.string "PlankBridge" (274 : Nat)) "java/lang/String") : Cond) ∈ nwL := List.mem_of_getElem? (i := 338) (by decide +kernel)
theorem nw356 : ((Jvm.Cond.exactly (Jvm.Term.string "PlankBridge" (278 : Nat)) "java/lang/String") : Cond) ∈ nwL := List.mem_of_getElem? (i := 356) (by decide +kernel)
theorem nw373 : ((Jvm.Cond.exactly (Jvm.Term.string "PlankBridge" (280 : Nat)) "java/lang/String") : Cond) ∈ nwL := List.mem_of_getElem? (i := 373) (by decide +kernel)
theorem nw399 : ((Jvm.Cond.exactly (Jvm.Term.string "PlankBridge" (269 : Nat)) "java/lang/String") : Cond) ∈ nwL := List.mem_of_getElem? (i := 399) (by decide +kernel)
theorem nw431 : ((Jvm.Cond.exactly (Jvm.Term.string "PlankBridge" (276 : Nat)) "java/lang/String") : Cond) ∈ nwL := List.mem_of_getElem? (i := 431) (by decide +kernel)
theorem nw452 : ((Jvm.Cond.exactly (Jvm.Term.string "PlankBridge" (195 : Nat)) "java/lang/String") : Cond) ∈ nwL := List.mem_of_getElem? (i := 452) (by decide +kernel)
theorem nw483 : ((Jvm.Cond.exactly (Jvm.Term.string "PlankBridge" (200 : Nat)) "java/lang/String") : Cond) ∈ nwL := List.mem_of_getElem? (i := 483) (by decide +kernel)
theorem nw508 : ((Jvm.Cond.exactly (Jvm.Term.string "PlankBridge" (282 : Nat)) "java/lang/String") : Cond) ∈ nwL := List.mem_of_getElem? (i := 508) (by decide +kernel)
theorem nw524 : ((Jvm.Cond.exactly (Jvm.Term.string "PlankBridge" (223 : Nat)) "java/lang/String") : Cond) ∈ nwL := List.mem_of_getElem? (i := 524) (by decide +kernel)
theorem nw540 : ((Jvm.Cond.exactly (Jvm.Term.string "PlankBridge" (287 : Nat)) "java/lang/String") : Cond) ∈ nwL := List.mem_of_getElem? (i := 540) (by decide +kernel)
theorem nw555 : ((Jvm.Cond.exactly (Jvm.Term.string "PlankBridge" (253 : Nat)) "java/lang/String") : Cond) ∈ nwL := List.mem_of_getElem? (i := 555) (by decide +kernel)
theorem en_D {args : Array Value} {s : State} (hts : ∀ w ∈ lw_tbl, w.before args s = true) : ∃ D : va_G, ∀ (c : Nat) (q : vw_C), vwCl[c]? = some q → u_Kn s q.1 q.2.1 q.2.2 (D.1 c) (D.2 c) := by
  have hg : ∀ w ∈ lw_g, w.before args s = true := fun w hw => hts w (List.mem_filter.mp hw).1
  have h0 : ∀ c : Nat, ∃ x : ClassId × (Nat → Nat), ∀ q : vw_C, vwCl[c]? = some q → u_Kn s q.1 q.2.1 q.2.2 x.1 x.2 := by
    intro c
    by_cases h : c < 11
    · have hc : c = 0 ∨ c = 1 ∨ c = 2 ∨ c = 3 ∨ c = 4 ∨ c = 5 ∨ c = 6 ∨ c = 7 ∨ c = 8 ∨ c = 9 ∨ c = 10 := by omega
      rcases hc with rfl | rfl | rfl | rfl | rfl | rfl | rfl | rfl | rfl | rfl | rfl
      · obtain ⟨cC, iS, hk⟩ := u_known hg in1 (hts _ q158)
        exact ⟨(cC, iS), fun q hq => by cases hq; exact hk⟩
      · obtain ⟨cC, iS, hk⟩ := u_known hg in2 (hts _ q284)
        exact ⟨(cC, iS), fun q hq => by cases hq; exact hk⟩
      · obtain ⟨cC, iS, hk⟩ := u_known hg in3 (hts _ q257)
        exact ⟨(cC, iS), fun q hq => by cases hq; exact hk⟩
      · obtain ⟨cC, iS, hk⟩ := u_known hg in4 (hts _ q354)
        exact ⟨(cC, iS), fun q hq => by cases hq; exact hk⟩
      · obtain ⟨cC, iS, hk⟩ := u_known hg in5 (hts _ q142)
        exact ⟨(cC, iS), fun q hq => by cases hq; exact hk⟩
      · obtain ⟨cC, iS, hk⟩ := u_known hg in6 (hts _ q164)
        exact ⟨(cC, iS), fun q hq => by cases hq; exact hk⟩
      · obtain ⟨cC, iS, hk⟩ := u_known hg in7 (hts _ q376)
        exact ⟨(cC, iS), fun q hq => by cases hq; exact hk⟩
      · obtain ⟨cC, iS, hk⟩ := u_known hg in8 (hts _ q134)
        exact ⟨(cC, iS), fun q hq => by cases hq; exact hk⟩
      · obtain ⟨cC, iS, hk⟩ := u_known hg in9 (hts _ q1314)
        exact ⟨(cC, iS), fun q hq => by cases hq; exact hk⟩
      · obtain ⟨cC, iS, hk⟩ := u_known hg in10 (hts _ q1431)
        exact ⟨(cC, iS), fun q hq => by cases hq; exact hk⟩
      · obtain ⟨cC, iS, hk⟩ := u_known hg in11 (hts _ q1308)
        exact ⟨(cC, iS), fun q hq => by cases hq; exact hk⟩
    · exact ⟨(0, fun _ => 0), fun q hq => by rw [List.getElem?_eq_none (by show 11 ≤ c; omega)] at hq; cases hq⟩
  obtain ⟨f, hf⟩ := Classical.axiomOfChoice h0
  exact ⟨(fun c => (f c).1, fun c => (f c).2), fun c q hq => hf c q hq⟩
theorem en_kind {args : Array Value} {s : State} (hn : ∀ w ∈ nwL, w.before args s = true) : ∀ i j : Nat, i < 37 → j < 37 → i ≠ j → (Cond.not (.eq (.static "PlankBridge$Kind" (kNm.getD i "") "LPlankBridge$Kind;") (.static "PlankBridge$Kind" (kNm.getD j "") "LPlankBridge$Kind;"))).before args s = true := by
  intro i j hi hj hij
  obtain ⟨a, -, -, -, q1, -⟩ := Cond.exactly_spec (hn _ (nw_mem (nx_ex i hi)))
  obtain ⟨b, -, -, -, q2, -⟩ := Cond.exactly_spec (hn _ (nw_mem (nx_ex j hj)))
  refine nw_ne q1 q2 (fun e => hij ?_)
  subst e
  have h1 := va_eqt (hn _ (nw_mem (nx_od i hi)))
  have h2 := va_eqt (hn _ (nw_mem (nx_od j hj)))
  rw [va_fe q1] at h1
  rw [va_fe q2] at h2
  have h3 := Option.some.inj (h1.symm.trans h2)
  have h4 : ((List.range 37).map Int32.ofNat).getD i 0 = ((List.range 37).map Int32.ofNat).getD j 0 := by injection h3
  exact (show ∀ i, i < 37 → ∀ j, j < 37 → ((List.range 37).map Int32.ofNat).getD i 0 = ((List.range 37).map Int32.ofNat).getD j 0 → i = j by decide +kernel) i hi j hj h4
theorem nw_len {args : Array Value} {s : State} {t u : Term} (h : t.eval args s none [] s = u.eval args s none [] s) : (Term.length t).eval args s none [] s = (Term.length u).eval args s none [] s := by
  simp only [Term.eval, h]
theorem nw_elem {args : Array Value} {s : State} {t u k : Term} (h : t.eval args s none [] s = u.eval args s none [] s) : (Term.elem t k).eval args s none [] s = (Term.elem u k).eval args s none [] s := by
  simp only [Term.eval, h]
theorem en_str {args : Array Value} {s : State} (hn : ∀ w ∈ nwL, w.before args s = true) : ∀ i j : Nat, i < 26 → j < 26 → i ≠ j → (Cond.not (.eq (.string "PlankBridgeModel" (sIx.getD i 0)) (.string "PlankBridgeModel" (sIx.getD j 0)))).before args s = true := by
  intro i j hi hj hij
  obtain ⟨a, -, -, -, q1, -⟩ := Cond.exactly_spec (hn _ (nw_mem (nx_s0 i hi)))
  obtain ⟨b, -, -, -, q2, -⟩ := Cond.exactly_spec (hn _ (nw_mem (nx_s0 j hj)))
  refine nw_ne q1 q2 (fun e => ?_)
  subst e
  have hv : (Term.field (.string "PlankBridgeModel" (sIx.getD i 0)) "java/lang/String" "value" "[B").eval args s none [] s = (Term.field (.string "PlankBridgeModel" (sIx.getD j 0)) "java/lang/String" "value" "[B").eval args s none [] s := by rw [va_fe q1, va_fe q2]
  have hlen : sLen.getD i 0 = sLen.getD j 0 := by
    have h1 := va_eqt (hn _ (nw_mem (nx_s3 i hi)))
    have h2 := va_eqt (hn _ (nw_mem (nx_s3 j hj)))
    rw [nw_len hv] at h1
    have h3 := Option.some.inj (h1.symm.trans h2)
    have h4 : Int32.ofNat (sLen.getD i 0) = Int32.ofNat (sLen.getD j 0) := by injection h3
    have h5 : ∀ i, i < 26 → sLen.getD i 0 < 9 := by decide +kernel
    have h6 := congrArg Int32.toInt h4
    rw [Int32.toInt_ofNat_of_lt (by have := h5 i hi; omega), Int32.toInt_ofNat_of_lt (by have := h5 j hj; omega)] at h6
    omega
  rcases nx_sd i hi j hj hij with h | ⟨k, -, hk, hne⟩
  · exact h hlen
  · have h1 := va_eqt (hn _ (nw_mem (nx_s4 i hi k hk)))
    have h2 := va_eqt (hn _ (nw_mem (nx_s4 j hj k (hlen ▸ hk))))
    rw [nw_elem hv] at h1
    have h3 := Option.some.inj (h1.symm.trans h2)
    exact hne (by injection h3)
theorem en_NE {args : Array Value} {s : State} (hts : ∀ w ∈ lw_tbl, w.before args s = true) (hn : ∀ w ∈ nwL, w.before args s = true) : NE s := by
  refine ⟨fun w hw hnw => ?_, fun x hx => ?_⟩
  · have h1 := hts w hw
    cases w <;> first | exact va_Nw.of rfl h1 | (exact absurd hnw (by simp [nestWord]))
  · simp only [srL, List.mem_cons, List.not_mem_nil, or_false] at hx
    rcases hx with rfl | rfl | rfl | rfl | rfl | rfl | rfl | rfl | rfl | rfl | rfl | rfl | rfl
    · obtain ⟨a, -, -, -, h1, -⟩ := Cond.exactly_spec (hn _ nw275)
      exact ⟨a, vk_R.of (hts _ q898) ((Term.string_eval_of_vm rfl).trans h1)⟩
    · obtain ⟨a, -, -, -, h1, -⟩ := Cond.exactly_spec (hn _ nw310)
      exact ⟨a, vk_R.of (hts _ q945) ((Term.string_eval_of_vm rfl).trans h1)⟩
    · obtain ⟨a, -, -, -, h1, -⟩ := Cond.exactly_spec (hn _ nw338)
      exact ⟨a, vk_R.of (hts _ q973) ((Term.string_eval_of_vm rfl).trans h1)⟩
    · obtain ⟨a, -, -, -, h1, -⟩ := Cond.exactly_spec (hn _ nw356)
      exact ⟨a, vk_R.of (hts _ q1005) ((Term.string_eval_of_vm rfl).trans h1)⟩
    · obtain ⟨a, -, -, -, h1, -⟩ := Cond.exactly_spec (hn _ nw373)
      exact ⟨a, vk_R.of (hts _ q1035) ((Term.string_eval_of_vm rfl).trans h1)⟩
    · obtain ⟨a, -, -, -, h1, -⟩ := Cond.exactly_spec (hn _ nw399)
      exact ⟨a, vk_R.of (hts _ q1061) ((Term.string_eval_of_vm rfl).trans h1)⟩
    · obtain ⟨a, -, -, -, h1, -⟩ := Cond.exactly_spec (hn _ nw431)
      exact ⟨a, vk_R.of (hts _ q1099) ((Term.string_eval_of_vm rfl).trans h1)⟩
    · obtain ⟨a, -, -, -, h1, -⟩ := Cond.exactly_spec (hn _ nw452)
      exact ⟨a, vk_R.of (hts _ q1107) ((Term.string_eval_of_vm rfl).trans h1)⟩
    · obtain ⟨a, -, -, -, h1, -⟩ := Cond.exactly_spec (hn _ nw483)
      exact ⟨a, vk_R.of (hts _ q1116) ((Term.string_eval_of_vm rfl).trans h1)⟩
    · obtain ⟨a, -, -, -, h1, -⟩ := Cond.exactly_spec (hn _ nw508)
      exact ⟨a, vk_R.of (hts _ q1129) ((Term.string_eval_of_vm rfl).trans h1)⟩
    · obtain ⟨a, -, -, -, h1, -⟩ := Cond.exactly_spec (hn _ nw524)
      exact ⟨a, vk_R.of (hts _ q1223) ((Term.string_eval_of_vm rfl).trans h1)⟩
    · obtain ⟨a, -, -, -, h1, -⟩ := Cond.exactly_spec (hn _ nw540)
      exact ⟨a, vk_R.of (hts _ q1257) ((Term.string_eval_of_vm rfl).trans h1)⟩
    · obtain ⟨a, -, -, -, h1, -⟩ := Cond.exactly_spec (hn _ nw555)
      exact ⟨a, vk_R.of (hts _ q1306) ((Term.string_eval_of_vm rfl).trans h1)⟩
theorem en_NC {args : Array Value} {s : State} (hn : ∀ w ∈ nwL, w.before args s = true) : NC s := ⟨va_Nc.of (hn _ nw272), va_Nc.of (hn _ nw258), va_Nc.of (hn _ nw273)⟩
def enK (f g h : Nat → Nat) (n : Nat) : Nat := if n < 37 then f n else if n < 200 then g (n - 100) else h (n - 200)
theorem law_entry {args : Array Value} {s : State} (hts : ∀ w ∈ lw_tbl, w.before args s = true) (hg : (Jvm.Cond.and given_1 narrow_1).before args s = true) : ∃ E : En0, va_K E.1 vwCl (tyE E) s ∧ CO E (fun q => s.heap.size ≤ q) s s.heap ∧ NE s ∧ NC s ∧ va_AO "PlankBridge$Kind" s := by
  have hn : ∀ w ∈ nwL, w.before args s = true := flat_of_before _ hg
  have hA : ∀ a : Nat, a < s.heap.size → ¬ s.heap.size ≤ a := fun a h => Nat.not_le.mpr h
  obtain ⟨D, hD⟩ := en_D hts
  obtain ⟨c0, hc0, hf0⟩ := ar_of (hts _ q187)
  obtain ⟨c1, hc1, hf1⟩ := ar_of (hts _ q352)
  obtain ⟨c2, hc2, hf2⟩ := ar_of (hts _ q156)
  obtain ⟨c3, hc3, hf3⟩ := ar_of (hts _ q188)
  obtain ⟨c4, hc4, hf4⟩ := ao_of (hts _ q170)
  obtain ⟨ad, hEn, hev⟩ := va_Enof2 (E := "PlankBridge$Kind") (d := "LPlankBridge$Kind;") (nm := kNm) (F := kOrd) (A := fun q => s.heap.size ≤ q) (fun i hi => hts _ (List.mem_of_getElem? (nx_kl i hi))) (hts _ q111) (fun i hi => hn _ (nw_mem (nx_ex i hi))) (fun q hq i hi => by
      have hq : q = ("java/lang/Enum", "ordinal", "I", (List.range 37).map Int32.ofNat) := List.mem_singleton.mp hq
      subst hq
      exact hn _ (nw_mem (nx_od i hi))) (fun i j hi hj hij => Or.inl (en_kind hn i j hi hj hij)) hA
  have hev : ∀ i, i < 37 → (Term.static "PlankBridge$Kind" (kNm.getD i "") "LPlankBridge$Kind;").eval args s none [] s = some (.ref (ad i)) := hev
  have hEf := va_Efof (N := 37) (E := "PlankBridge$Kind") (d0 := "LPlankBridge$Kind;") (o := "PlankBridge$Kind") (n := "code") (d := "J") (nm := kNm) (v := fun i => .long (kCode i)) (tm := fun i => .long (kCode i)) (ad := ad) (A := fun q => s.heap.size ≤ q) hev (fun i hi => hn _ (nw_mem (nx_cd i hi))) (fun i hi => rfl) hA
  obtain ⟨tA, htA, hTA⟩ := va_Tof (tm := .static "PlankBridge$Kind" "ALL" "[LPlankBridge$Kind;") (ty := .object "PlankBridge$Kind") (N := 37) (f := fun j => .ref (ad j)) (A := fun q => s.heap.size ≤ q) (by omega) (hn _ nw15) (va_eqt (hn _ nw16)) (fun j hj => va_eqv (hn _ (nw_mem (nx_al j hj))) (hev j hj)) hA
  obtain ⟨tS, htS, hTS⟩ := va_Tof (tm := .static "PlankBridge$1" "$SwitchMap$PlankBridge$Kind" "[I") (ty := .int) (N := 37) (f := fun j => .int (kSw j)) (A := fun q => s.heap.size ≤ q) (by omega) (hn _ nw86) (va_eqt (hn _ nw87)) (fun j hj => va_eqt (hn _ (nw_mem (nx_sw j hj)))) hA
  obtain ⟨adK, adV, hSt, hse⟩ := vk_Sof (N := 26) (tm := fun i => .string "PlankBridgeModel" (sIx.getD i 0)) (len := sLen) (byt := sByt) (A := fun q => s.heap.size ≤ q) (fun i hi => Nat.lt_of_lt_of_le ((show ∀ i, i < 26 → sLen.getD i 0 < 9 by decide +kernel) i hi) (by decide)) (fun i hi => hn _ (nw_mem (nx_s0 i hi))) (fun i hi => hn _ (nw_mem (nx_s1 i hi))) (fun i hi => hn _ (nw_mem (nx_s2 i hi))) (fun i hi => hn _ (nw_mem (nx_s3 i hi))) (fun i hi j hj => hn _ (nw_mem (nx_s4 i hi j hj))) (fun i j hi hj hij => Or.inl (en_str hn i j hi hj hij)) hA
  obtain ⟨tW, htW, hTW⟩ := va_Tof (tm := .static "PlankBridgeModel" "WORDS" "[Ljava/lang/String;") (ty := .object "java/lang/String") (N := 26) (f := fun j => .ref (adK j)) (A := fun q => s.heap.size ≤ q) (by omega) (hn _ nw182) (va_eqt (hn _ nw183)) (fun j hj => va_eqv (hn _ (nw_mem (nx_wp j hj))) (hse j hj)) hA
  obtain ⟨E, hE⟩ : ∃ E : En0, E = (D, (fun _ => 0), enK ad adK adV, fun t => [c0, c1, c2, c3, c4].getD t 0) := ⟨_, rfl⟩
  have k0 : ∀ i, i < 37 → E.2.2.1 i = ad i := fun i hi => by rw [hE]; exact if_pos hi
  have k1 : ∀ i, i < 26 → E.2.2.1 (100 + i) = adK i := fun i hi => by
    rw [hE]
    show enK ad adK adV (100 + i) = adK i
    rw [enK, if_neg (by omega), if_pos (by omega), Nat.add_sub_cancel_left]
  have k2 : ∀ i, i < 26 → E.2.2.1 (200 + i) = adV i := fun i hi => by
    rw [hE]
    show enK ad adK adV (200 + i) = adV i
    rw [enK, if_neg (by omega), if_neg (by omega), Nat.add_sub_cancel_left]
  refine ⟨E, ⟨fun c q hq => by rw [hE]; exact hD c q hq, fun k q hk => ?_⟩, ⟨⟨fun i hi => ?_, fun i j hi hj he => ?_⟩, fun i hi => ?_, ⟨tA, va_Zref (hts _ q486) (hts _ q111) htA hA, ?_⟩, ⟨tS, va_Zref (hts _ q590) (hts _ q123) htS hA, hTS⟩, ⟨fun i hi => ?_, fun i j hi hj he => ?_⟩, ⟨tW, va_Zref (hts _ q1511) (hts _ q116) htW hA, ?_⟩, va_Zof (hts _ q1525) (hts _ q125) (va_eqt (hn _ nw210)) hA, va_Zqof (hts _ q1541) (hts _ q127) (hn _ nw211) hA, vx_Zqof (hts _ q884) (hts _ q118) (hn _ nw176) hA, vx_Zqof (hts _ q886) (hts _ q118) (hn _ nw177) hA⟩, en_NE hts hn, en_NC hn, va_AO.of (hts _ q170)⟩
  · subst hE
    by_cases hk5 : k < 5
    · have h5 : k = 0 ∨ k = 1 ∨ k = 2 ∨ k = 3 ∨ k = 4 := by omega
      rcases h5 with rfl | rfl | rfl | rfl | rfl <;> cases hk
      · exact ⟨hc0, hf0⟩
      · exact ⟨hc1, hf1⟩
      · exact ⟨hc2, hf2⟩
      · exact ⟨hc3, hf3⟩
      · exact ⟨hc4, hf4⟩
    · rw [List.getElem?_eq_none (by show 5 ≤ k; omega)] at hk
      cases hk
  · rw [k0 i hi]; exact hEn.1 i hi
  · rw [k0 i hi, k0 j hj] at he; exact hEn.2 i j hi hj he
  · rw [k0 i hi]; exact hEf i hi
  · obtain ⟨cell, h1, h2, h3, h4, h5, h6, h7⟩ := hTA
    exact ⟨cell, h1, h2, h3, h4, h5, fun j hj => (h6 j hj).trans (by simp only [k0 j hj]), h7⟩
  · simp only [k1 i hi, k2 i hi]; exact hSt.1 i hi
  · exact hSt.2 i j hi hj (by simpa only [k1 i hi, k1 j hj] using he)
  · obtain ⟨cell, h1, h2, h3, h4, h5, h6, h7⟩ := hTW
    exact ⟨cell, h1, h2, h3, h4, h5, fun j hj => (h6 j hj).trans (by simp only [k1 j hj]), h7⟩

def rOK (st : St) : Prop := ∀ c j, gR st c j < 60
def swE (E : En0) (x q : Nat) : En0 := (E.1, (fun d => if d = x then q else E.2.1 d), E.2.2)
theorem swE_x {E : En0} {x q : Nat} : (swE E x q).2.1 x = q := if_pos rfl
theorem swE_n {E : En0} {x q d : Nat} (h : d ≠ x) : (swE E x q).2.1 d = E.2.1 d := if_neg h
theorem swf1 {E : En0} {x q c : Nat} (hx : 77 ≤ x) (h : kd c = 1) {i : Nat → Int32} {j : Nat → Int64} {k : Nat → Option Nat} {r : Nat → Nat} (hr : ∀ n, r n < 60) : fl1 (swE E x q) c i j k r = fl1 E c i j k r := by
  simp only [fl1, swE_n (E := E) (q := q) (show c + 1 ≠ x by have := kd_all (P := fun c => c + 1 < 77) h (by decide) (by decide +kernel); omega), swE_n (E := E) (q := q) (show c + 2 ≠ x by have := kd_all (P := fun c => c + 2 < 77) h (by decide) (by decide +kernel); omega), swE_n (E := E) (q := q) (show c + 3 ≠ x by have := kd_all (P := fun c => c + 3 < 77) h (by decide) (by decide +kernel); omega), swE_n (E := E) (q := q) (show c + 4 ≠ x by have := kd_all (P := fun c => c + 4 < 77) h (by decide) (by decide +kernel); omega), swE_n (E := E) (q := q) (show c + 5 ≠ x by have := kd_all (P := fun c => c + 5 < 77) h (by decide) (by decide +kernel); omega), swE_n (E := E) (q := q) (show c + 6 ≠ x by have := kd_all (P := fun c => c + 6 < 77) h (by decide) (by decide +kernel); omega), swE_n (E := E) (q := q) (show c + 7 ≠ x by have := kd_all (P := fun c => c + 7 < 77) h (by decide) (by decide +kernel); omega), swE_n (E := E) (q := q) (show c + 8 ≠ x by have := kd_all (P := fun c => c + 8 < 77) h (by decide) (by decide +kernel); omega), swE_n (E := E) (q := q) (show c + 9 ≠ x by have := kd_all (P := fun c => c + 9 < 77) h (by decide) (by decide +kernel); omega), swE_n (E := E) (q := q) (show c + 10 ≠ x by have := kd_all (P := fun c => c + 10 < 77) h (by decide) (by decide +kernel); omega), swE_n (E := E) (q := q) (show c + 11 ≠ x by have := kd_all (P := fun c => c + 11 < 77) h (by decide) (by decide +kernel); omega), swE_n (E := E) (q := q) (show c + 12 ≠ x by have := kd_all (P := fun c => c + 12 < 77) h (by decide) (by decide +kernel); omega)]
theorem swf2 {E : En0} {x q c : Nat} (hx : 77 ≤ x) (h : kd c = 2) {i : Nat → Int32} {j : Nat → Int64} {k : Nat → Option Nat} {r : Nat → Nat} (hr : ∀ n, r n < 60) : fl2 (swE E x q) c i j k r = fl2 E c i j k r := by
  simp only [fl2, swE_n (E := E) (q := q) (show c + 1 ≠ x by have := kd_all (P := fun c => c + 1 < 77) h (by decide) (by decide +kernel); omega), swE_n (E := E) (q := q) (show c + 2 ≠ x by have := kd_all (P := fun c => c + 2 < 77) h (by decide) (by decide +kernel); omega), swE_n (E := E) (q := q) (show c + 3 ≠ x by have := kd_all (P := fun c => c + 3 < 77) h (by decide) (by decide +kernel); omega), swE_n (E := E) (q := q) (show c + 4 ≠ x by have := kd_all (P := fun c => c + 4 < 77) h (by decide) (by decide +kernel); omega), swE_n (E := E) (q := q) (show c + 5 ≠ x by have := kd_all (P := fun c => c + 5 < 77) h (by decide) (by decide +kernel); omega)]
theorem swf3 {E : En0} {x q c : Nat} (hx : 77 ≤ x) (h : kd c = 3) {i : Nat → Int32} {j : Nat → Int64} {k : Nat → Option Nat} {r : Nat → Nat} (hr : ∀ n, r n < 60) : fl3 (swE E x q) c i j k r = fl3 E c i j k r := by
  simp only [fl3, swE_n (E := E) (q := q) (show r 0 ≠ x by have := hr 0; omega), swE_n (E := E) (q := q) (show r 1 ≠ x by have := hr 1; omega)]
  rfl
theorem swf4 {E : En0} {x q c : Nat} (hx : 77 ≤ x) (h : kd c = 4) {i : Nat → Int32} {j : Nat → Int64} {k : Nat → Option Nat} {r : Nat → Nat} (hr : ∀ n, r n < 60) : fl4 (swE E x q) c i j k r = fl4 E c i j k r := by
  simp only [fl4, swE_n (E := E) (q := q) (show c + 1 ≠ x by have := kd_all (P := fun c => c + 1 < 77) h (by decide) (by decide +kernel); omega), swE_n (E := E) (q := q) (show r 0 ≠ x by have := hr 0; omega), swE_n (E := E) (q := q) (show r 1 ≠ x by have := hr 1; omega)]
theorem swf5 {E : En0} {x q c : Nat} (hx : 77 ≤ x) (h : kd c = 5) {i : Nat → Int32} {j : Nat → Int64} {k : Nat → Option Nat} {r : Nat → Nat} (hr : ∀ n, r n < 60) : fl5 (swE E x q) c i j k r = fl5 E c i j k r := by
  simp only [fl5, swE_n (E := E) (q := q) (show c + 1 ≠ x by have := kd_all (P := fun c => c + 1 < 77) h (by decide) (by decide +kernel); omega)]
theorem swf6 {E : En0} {x q c : Nat} (hx : 77 ≤ x) (h : kd c = 6) {i : Nat → Int32} {j : Nat → Int64} {k : Nat → Option Nat} {r : Nat → Nat} (hr : ∀ n, r n < 60) : fl6 (swE E x q) c i j k r = fl6 E c i j k r := by
  simp only [fl6, swE_n (E := E) (q := q) (show c + 1 ≠ x by have := kd_all (P := fun c => c + 1 < 77) h (by decide) (by decide +kernel); omega), swE_n (E := E) (q := q) (show c + 2 ≠ x by have := kd_all (P := fun c => c + 2 < 77) h (by decide) (by decide +kernel); omega), swE_n (E := E) (q := q) (show c + 3 ≠ x by have := kd_all (P := fun c => c + 3 < 77) h (by decide) (by decide +kernel); omega), swE_n (E := E) (q := q) (show c + 4 ≠ x by have := kd_all (P := fun c => c + 4 < 77) h (by decide) (by decide +kernel); omega)]
theorem swf7 {E : En0} {x q c : Nat} (hx : 77 ≤ x) (h : kd c = 7) {i : Nat → Int32} {j : Nat → Int64} {k : Nat → Option Nat} {r : Nat → Nat} (hr : ∀ n, r n < 60) : fl7 (swE E x q) c i j k r = fl7 E c i j k r := by
  simp only [fl7, swE_n (E := E) (q := q) (show c + 1 ≠ x by have := kd_all (P := fun c => c + 1 < 77) h (by decide) (by decide +kernel); omega), swE_n (E := E) (q := q) (show 4 ≠ x by omega)]
theorem swf8 {E : En0} {x q c : Nat} (hx : 77 ≤ x) (h : kd c = 8) {i : Nat → Int32} {j : Nat → Int64} {k : Nat → Option Nat} {r : Nat → Nat} (hr : ∀ n, r n < 60) : fl8 (swE E x q) c i j k r = fl8 E c i j k r := by
  simp only [fl8, swE_n (E := E) (q := q) (show c + 1 ≠ x by have := kd_all (P := fun c => c + 1 < 77) h (by decide) (by decide +kernel); omega), swE_n (E := E) (q := q) (show c + 3 ≠ x by have := kd_all (P := fun c => c + 3 < 77) h (by decide) (by decide +kernel); omega), swE_n (E := E) (q := q) (show c + 4 ≠ x by have := kd_all (P := fun c => c + 4 < 77) h (by decide) (by decide +kernel); omega), swE_n (E := E) (q := q) (show c + 10 ≠ x by have := kd_all (P := fun c => c + 10 < 77) h (by decide) (by decide +kernel); omega), swE_n (E := E) (q := q) (show c + 16 ≠ x by have := kd_all (P := fun c => c + 16 < 77) h (by decide) (by decide +kernel); omega), swE_n (E := E) (q := q) (show c + 18 ≠ x by have := kd_all (P := fun c => c + 18 < 77) h (by decide) (by decide +kernel); omega), swE_n (E := E) (q := q) (show r 6 ≠ x by have := hr 6; omega), swE_n (E := E) (q := q) (show r 7 ≠ x by have := hr 7; omega)]
theorem swf9 {E : En0} {x q c : Nat} (hx : 77 ≤ x) (h : kd c = 9) {i : Nat → Int32} {j : Nat → Int64} {k : Nat → Option Nat} {r : Nat → Nat} (hr : ∀ n, r n < 60) : fl9 (swE E x q) c i j k r = fl9 E c i j k r := by
  simp only [fl9, swE_n (E := E) (q := q) (show c + 1 ≠ x by have := kd_all (P := fun c => c + 1 < 77) h (by decide) (by decide +kernel); omega), swE_n (E := E) (q := q) (show c + 2 ≠ x by have := kd_all (P := fun c => c + 2 < 77) h (by decide) (by decide +kernel); omega), swE_n (E := E) (q := q) (show c + 3 ≠ x by have := kd_all (P := fun c => c + 3 < 77) h (by decide) (by decide +kernel); omega), swE_n (E := E) (q := q) (show c + 4 ≠ x by have := kd_all (P := fun c => c + 4 < 77) h (by decide) (by decide +kernel); omega), swE_n (E := E) (q := q) (show c + 5 ≠ x by have := kd_all (P := fun c => c + 5 < 77) h (by decide) (by decide +kernel); omega), swE_n (E := E) (q := q) (show c + 6 ≠ x by have := kd_all (P := fun c => c + 6 < 77) h (by decide) (by decide +kernel); omega)]
theorem swf10 {E : En0} {x q c : Nat} (hx : 77 ≤ x) (h : kd c = 10) {i : Nat → Int32} {j : Nat → Int64} {k : Nat → Option Nat} {r : Nat → Nat} (hr : ∀ n, r n < 60) : fl10 (swE E x q) c i j k r = fl10 E c i j k r := by
  simp only [fl10, swE_n (E := E) (q := q) (show c + 1 ≠ x by have := kd_all (P := fun c => c + 1 < 77) h (by decide) (by decide +kernel); omega), swE_n (E := E) (q := q) (show c + 2 ≠ x by have := kd_all (P := fun c => c + 2 < 77) h (by decide) (by decide +kernel); omega), swE_n (E := E) (q := q) (show 54 ≠ x by omega)]
theorem swf11 {E : En0} {x q c : Nat} (hx : 77 ≤ x) (h : kd c = 11) {i : Nat → Int32} {j : Nat → Int64} {k : Nat → Option Nat} {r : Nat → Nat} (hr : ∀ n, r n < 60) : fl11 (swE E x q) c i j k r = fl11 E c i j k r := by
  simp only [fl11, swE_n (E := E) (q := q) (show c + 1 ≠ x by have := kd_all (P := fun c => c + 1 < 77) h (by decide) (by decide +kernel); omega), swE_n (E := E) (q := q) (show c + 2 ≠ x by have := kd_all (P := fun c => c + 2 < 77) h (by decide) (by decide +kernel); omega), swE_n (E := E) (q := q) (show c + 3 ≠ x by have := kd_all (P := fun c => c + 3 < 77) h (by decide) (by decide +kernel); omega), swE_n (E := E) (q := q) (show c + 4 ≠ x by have := kd_all (P := fun c => c + 4 < 77) h (by decide) (by decide +kernel); omega), swE_n (E := E) (q := q) (show c + 5 ≠ x by have := kd_all (P := fun c => c + 5 < 77) h (by decide) (by decide +kernel); omega), swE_n (E := E) (q := q) (show 60 ≠ x by omega)]
theorem sw_ent {E : En0} {x q c : Nat} (hx : 77 ≤ x) (hc : c < 77) {st : St} (hr : rOK st) : entS (swE E x q) st c = entS E st c := by
  have hrr : ∀ n, st.2.2.2 c n < 60 := fun n => hr c n
  have key : ∀ n, kd c = n → entS (swE E x q) st c = entS E st c := by
    intro n hn
    by_cases h1 : n = 1
    · subst h1; rw [e1 hn, e1 hn, swf1 hx hn hrr]
    by_cases h2 : n = 2
    · subst h2; rw [e2 hn, e2 hn, swf2 hx hn hrr]
    by_cases h3 : n = 3
    · subst h3; rw [e3 hn, e3 hn, swf3 hx hn hrr]
    by_cases h4 : n = 4
    · subst h4; rw [e4 hn, e4 hn, swf4 hx hn hrr]
    by_cases h5 : n = 5
    · subst h5; rw [e5 hn, e5 hn, swf5 hx hn hrr]
    by_cases h6 : n = 6
    · subst h6; rw [e6 hn, e6 hn, swf6 hx hn hrr]
    by_cases h7 : n = 7
    · subst h7; rw [e7 hn, e7 hn, swf7 hx hn hrr]
    by_cases h8 : n = 8
    · subst h8; rw [e8 hn, e8 hn, swf8 hx hn hrr]
    by_cases h9 : n = 9
    · subst h9; rw [e9 hn, e9 hn, swf9 hx hn hrr]
    by_cases h10 : n = 10
    · subst h10; rw [e10 hn, e10 hn, swf10 hx hn hrr]
    by_cases h11 : n = 11
    · subst h11; rw [e11 hn, e11 hn, swf11 hx hn hrr]
    by_cases h20 : n = 20
    · subst h20; rw [e20 hn, e20 hn]; rfl
    by_cases h21 : n = 21
    · subst h21; rw [e21 hn, e21 hn]; rfl
    by_cases h22 : n = 22
    · subst h22; rw [e22 hn, e22 hn]; rfl
    by_cases h23 : n = 23
    · subst h23; rw [e23 hn, e23 hn]; rfl
    by_cases h24 : n = 24
    · subst h24; rw [e24 hn, e24 hn]; rfl
    exfalso
    have h : ∀ d, d < 77 → kd d ∈ [1, 2, 3, 4, 5, 6, 7, 8, 9, 10, 11, 20, 21, 22, 23, 24] := by decide +kernel
    have h := h c hc
    rw [hn] at h
    simp at h
    omega
  exact key _ rfl
theorem wd_app {E : En0} {L : List Nat} {st : St} {x q : Nat} (hx : 77 ≤ x) (hu : ∀ c ∈ L, c < 77) (hr : rOK st) : wd (swE E x q) (L ++ [x]) st = wd E L st ++ [(q, entS (swE E x q) st x)] := by
  unfold wd
  rw [List.map_append]
  congr 1
  · apply List.map_congr_left
    intro c hc
    have h := hu c hc
    rw [sw_ent hx h hr, swE_n (by omega)]
  · simp only [List.map_cons, List.map_nil, swE_x]
theorem fA_sw {E : En0} {L : List Nat} {x q sz : Nat} (hx : 77 ≤ x) (hu : ∀ c ∈ L, c < 77) (hq : sz ≤ q) : ∀ z, fA (swE E x q) (L ++ [x]) sz z → fA E L sz z := by
  intro z hz
  rcases hz with ⟨c, hc, he⟩ | h
  · rcases List.mem_append.mp hc with h1 | h1
    · have h2 := hu c h1
      rw [swE_n (by omega)] at he
      exact Or.inl ⟨c, h1, he⟩
    · rw [List.mem_singleton.mp h1, swE_x] at he
      exact Or.inr (by omega)
  · exact Or.inr h
theorem fA_ws {E : En0} {L : List Nat} {x q sz : Nat} (hx : 77 ≤ x) (hu : ∀ c ∈ L, c < 77) : ∀ z, fA E L sz z → fA (swE E x q) (L ++ [x]) sz z := by
  intro z hz
  rcases hz with ⟨c, hc, he⟩ | h
  · have h2 := hu c hc
    exact Or.inl ⟨c, List.mem_append_left _ hc, by rw [swE_n (by omega)]; exact he⟩
  · exact Or.inr h
section ZA
variable {p : Program} {l : Launch} {e : Env} {R : Room} {s : State} {m : MethodId} {args : Array Value} {below : List Frame} {meth : Method} {c : Code} {H : Heap} {locs : List Loc} {cells slots : Nat} {Q : State → Prop}
variable {E : En0} {L : List Nat} {own : String} {cc : ByteArray} {nL mc ms : Nat} {st : St} {pc : Nat} {ls : Array Slot} {rest : List Value}
theorem W.mono {Q1 Q2 : State → Prop} {g : JFrame} (h : ∀ t, Q1 t → Q2 t) (k : W p l e R s m args below meth c H locs cells slots Q1 g) : W p l e R s m args below meth c H locs cells slots Q2 g := fun T hT X => by
  obtain ⟨t, a1, b1⟩ := k T hT X
  exact ⟨t, a1, h t b1⟩
theorem z_new9 {x : Nat} (hx : 77 ≤ x) (hk : kd x = 20) (hu : ∀ c ∈ L, c < 77) (C : Cx E L own cc nL p s m args c) (hP : va_P E.1 vwCl (wd E L st) H) (hS : va_S (fA E L s.heap.size) s.heap H locs) (hr : rOK st) {n : Int32} {n' : Nat} (hn : ¬ n < 0) (hN : n.toNatClampNeg = n') (hln : ln x = n') (hb2 : n' * componentBytes .int ≤ 536870912)
    (hcells : cells + 1 ≤ R.cells) (hslots : slots + n' ≤ R.slots) (qa : Cond.arrayClass .int ∈ lw_tbl) (hdg : decode cc pc = .ok (.newarray .int, 2))
    (kk : ∀ (q : Nat) (H1 : Heap), s.heap.size ≤ q → Cx (swE E x q) (L ++ [x]) own cc nL p s m args c → va_P E.1 vwCl (wd (swE E x q) (L ++ [x]) (sI st x (fun _ => 0))) H1 → va_S (fA (swE E x q) (L ++ [x]) s.heap.size) s.heap H1 locs →
      W p l e R s m args below meth c H1 locs (cells + 1) (slots + n') Q (F0 m (pc + 2) ls (.ref ((swE E x q).2.1 x) :: rest))) : W p l e R s m args below meth c H locs cells slots Q (F0 m pc ls (.int n :: rest)) := by
  subst hln
  refine va_newa (D := E.1) (ws := wd E L st) (A := fA E L s.heap.size) (atype := .int) (ty := .int) (a0 := (ln x, .inl (fun _ => 0))) C.1 C.2.1 (C.T qa) rfl C.2.2.2.2.2.1 hP C.D hS (fun q h => Or.inr h) (fun cA => rfl) hn hN hb2 hcells hslots hdg (fun q cA H1 hK1 hP1 hD1 hS1 => ?_)
  have hcA : cA = E.2.2.2 0 := by
    have h1 := (hK1.2 5 (cA, .int) rfl).2
    have h2 := (hK1.2 0 (E.2.2.2 0, .int) rfl).2
    exact Option.some.inj ((show s.vm.findClass _ = some cA from h1).symm.trans (show s.vm.findClass _ = some (E.2.2.2 0) from h2))
  subst hcA
  have hlen : (wd E L st)[(wd E L st).length]? = none := List.getElem?_eq_none (Nat.le_refl _)
  have hql : (wd E L st ++ [(q, (.inl (E.2.2.2 0, ln x, .inl (fun _ => (0 : Int32))) : va_E))])[(wd E L st).length]? = some (q, .inl (E.2.2.2 0, ln x, .inl (fun _ => 0))) := by
    rw [List.getElem?_append_right (Nat.le_refl _), Nat.sub_self]; rfl
  have hap : ∀ d, d ∈ L → E.2.1 d ≠ q := by
    intro d hd e0
    obtain ⟨i, hi, hw⟩ := wd_at hd (rfl : entS E st d = entS E st d)
    have hw2 : (wd E L st ++ [(q, (.inl (E.2.2.2 0, ln x, .inl (fun _ => (0 : Int32))) : va_E))])[i]? = some (E.2.1 d, entS E st d) := by
      rw [List.getElem?_append_left (List.getElem?_eq_some_iff.mp hw).1]; exact hw
    have h3 := hD1.1 i _ _ _ hw2 hql e0
    rw [h3, hlen] at hw
    cases hw
  have hq : s.heap.size ≤ q := by
    rcases hD1.2 _ _ hql with ⟨d, hd, he⟩ | h
    · exact absurd he (hap d hd)
    · exact h
  have hxL : x ∉ L := fun h => by have := hu x h; omega
  have hr2 : rOK (sI st x (fun _ => 0)) := hr
  have he : entS (swE E x q) (sI st x (fun _ => 0)) x = .inl (E.2.2.2 0, ln x, .inl (fun _ => 0)) := by
    rw [e20 hk]; simp only [sI, sw_s]; rfl
  have hwd : wd E L (sI st x (fun _ => 0)) = wd E L st := by
    unfold wd
    apply List.map_congr_left
    intro d hd
    rw [sI_o (c := x) d (fun e0 => hxL (by rw [← e0]; exact hd))]
  rw [show Value.ref q = Value.ref ((swE E x q).2.1 x) from by rw [swE_x]]
  refine kk q H1 hq ⟨C.1, C.2.1, C.2.2.1, C.2.2.2.1, C.2.2.2.2.1, C.2.2.2.2.2.1, ⟨?_, ?_⟩, C.K.narrow (fA_sw hx hu hq), C.2.2.2.2.2.2.2.2⟩ ?_ ?_
  · exact List.nodup_append.mpr ⟨C.N, by simp, fun d hd y hy => by rw [List.mem_singleton.mp hy]; exact fun e0 => hxL (e0 ▸ hd)⟩
  · intro i hi j hj hij
    rcases List.mem_append.mp hi with h1 | h1 <;> rcases List.mem_append.mp hj with h2 | h2
    · have g1 := hu i h1
      have g2 := hu j h2
      rw [swE_n (by omega), swE_n (by omega)] at hij
      exact C.2.2.2.2.2.2.1.2 i h1 j h2 hij
    · have g1 := hu i h1
      rw [List.mem_singleton.mp h2, swE_n (by omega), swE_x] at hij
      exact absurd hij (hap i h1)
    · have g1 := hu j h2
      rw [List.mem_singleton.mp h1, swE_n (d := j) (by omega), swE_x] at hij
      exact absurd hij.symm (hap j h2)
    · rw [List.mem_singleton.mp h1, List.mem_singleton.mp h2]
  · rw [wd_app hx hu hr2, hwd, he]
    exact hP1
  · exact ⟨hS1.1, fun z h1 h2 => hS1.2.1 z h1 (fun h3 => h2 (fA_ws hx hu z h3)), fun z hz => fA_ws hx hu _ (hS1.2.2 z hz)⟩
theorem z_wdback {x q : Nat} (hx : 77 ≤ x) (hu : ∀ c ∈ L, c < 77) {u : St} (hr : rOK u) (hP : va_P E.1 vwCl (wd (swE E x q) (L ++ [x]) u) H) : va_P E.1 vwCl (wd E L u) H := by
  rw [wd_app hx hu hr] at hP
  intro k y hk
  exact hP k y (by rw [List.getElem?_append_left (List.getElem?_eq_some_iff.mp hk).1]; exact hk)
theorem z_frback {x q : Nat} (hx : 77 ≤ x) (hu : ∀ c ∈ L, c < 77) {t : State} (hq : s.heap.size ≤ q) (h : va_F (fA (swE E x q) (L ++ [x]) s.heap.size) s t) : va_F (fA E L s.heap.size) s t := ⟨h.1, fun z h1 h2 => h.2 z h1 (fun h3 => h2 (fA_sw hx hu hq z h3))⟩
theorem z_newI {x : Nat} (hx : 77 ≤ x) (hk : kd x = 20) (hu : ∀ c ∈ L, c < 77) (C : Cx E L own cc nL p s m args c) (hP : va_P E.1 vwCl (wd E L st) H) (hS : va_S (fA E L s.heap.size) s.heap H locs) (hr : rOK st) {n : Int32} {n' : Nat} {post : Int32 → St → Prop} (hn : ¬ n < 0) (hN : n.toNatClampNeg = n') (hln : ln x = n') (hb2 : n' * componentBytes .int ≤ 536870912)
    (hcells : cells + 1 ≤ R.cells) (hslots : slots + n' ≤ R.slots) (qa : Cond.arrayClass .int ∈ lw_tbl) (hdg : decode cc pc = .ok (.newarray .int, 2))
    (kk : ∀ (E2 : En0) (L2 : List Nat) (H1 : Heap), (∀ d, d ≠ x → E2.2.1 d = E.2.1 d) → (∀ d, d ∈ L → d ∈ L2) → x ∈ L2 → Cx E2 L2 own cc nL p s m args c → va_P E2.1 vwCl (wd E2 L2 (sI st x (fun _ => 0))) H1 → va_S (fA E2 L2 s.heap.size) s.heap H1 locs →
      W p l e R s m args below meth c H1 locs (cells + 1) (slots + n') (MQ below (zI E2 L2 (fun r u => rOK u ∧ post r u) (fA E2 L2 s.heap.size)) args s mc ms (fA E2 L2 s.heap.size)) (F0 m (pc + 2) ls (.ref (E2.2.1 x) :: rest))) :
    W p l e R s m args below meth c H locs cells slots (MQ below (zI E L post (fA E L s.heap.size)) args s mc ms (fA E L s.heap.size)) (F0 m pc ls (.int n :: rest)) := by
  refine z_new9 hx hk hu C hP hS hr hn hN hln hb2 hcells hslots qa hdg (fun q H1 hq C1 hP1 hS1 => ?_)
  refine W.mono ?_ (kk (swE E x q) (L ++ [x]) H1 (fun d hd => swE_n hd) (fun d hd => List.mem_append_left _ hd) (List.mem_append_right _ (List.mem_singleton.mpr rfl)) C1 hP1 hS1)
  intro t ⟨o, h1, h2, ⟨⟨r, u, h3, ⟨h4, h5⟩, h6⟩, h7⟩, LL, h8, h9⟩
  exact ⟨o, h1, h2, ⟨⟨r, u, h3, h5, z_wdback hx hu h4 h6⟩, z_frback hx hu hq h7⟩, LL, h8, fun z hz => fA_sw hx hu hq _ (h9 z hz)⟩
theorem z_newJ {x : Nat} (hx : 77 ≤ x) (hk : kd x = 20) (hu : ∀ c ∈ L, c < 77) (C : Cx E L own cc nL p s m args c) (hP : va_P E.1 vwCl (wd E L st) H) (hS : va_S (fA E L s.heap.size) s.heap H locs) (hr : rOK st) {n : Int32} {n' : Nat} {post : Int64 → St → Prop} (hn : ¬ n < 0) (hN : n.toNatClampNeg = n') (hln : ln x = n') (hb2 : n' * componentBytes .int ≤ 536870912)
    (hcells : cells + 1 ≤ R.cells) (hslots : slots + n' ≤ R.slots) (qa : Cond.arrayClass .int ∈ lw_tbl) (hdg : decode cc pc = .ok (.newarray .int, 2))
    (kk : ∀ (E2 : En0) (L2 : List Nat) (H1 : Heap), (∀ d, d ≠ x → E2.2.1 d = E.2.1 d) → (∀ d, d ∈ L → d ∈ L2) → x ∈ L2 → Cx E2 L2 own cc nL p s m args c → va_P E2.1 vwCl (wd E2 L2 (sI st x (fun _ => 0))) H1 → va_S (fA E2 L2 s.heap.size) s.heap H1 locs →
      W p l e R s m args below meth c H1 locs (cells + 1) (slots + n') (MQ below (zJ E2 L2 (fun r u => rOK u ∧ post r u) (fA E2 L2 s.heap.size)) args s mc ms (fA E2 L2 s.heap.size)) (F0 m (pc + 2) ls (.ref (E2.2.1 x) :: rest))) :
    W p l e R s m args below meth c H locs cells slots (MQ below (zJ E L post (fA E L s.heap.size)) args s mc ms (fA E L s.heap.size)) (F0 m pc ls (.int n :: rest)) := by
  refine z_new9 hx hk hu C hP hS hr hn hN hln hb2 hcells hslots qa hdg (fun q H1 hq C1 hP1 hS1 => ?_)
  refine W.mono ?_ (kk (swE E x q) (L ++ [x]) H1 (fun d hd => swE_n hd) (fun d hd => List.mem_append_left _ hd) (List.mem_append_right _ (List.mem_singleton.mpr rfl)) C1 hP1 hS1)
  intro t ⟨o, h1, h2, ⟨⟨r, u, h3, ⟨h4, h5⟩, h6⟩, h7⟩, LL, h8, h9⟩
  exact ⟨o, h1, h2, ⟨⟨r, u, h3, h5, z_wdback hx hu h4 h6⟩, z_frback hx hu hq h7⟩, LL, h8, fun z hz => fA_sw hx hu hq _ (h9 z hz)⟩
abbrev zD (E : En0) (L : List Nat) (Q : UInt64 → St → Prop) : (Nat → Prop) → Array Value → State → Outcome → State → Prop := va_Qd Q (zB E L)
theorem z_rd {post : UInt64 → St → Prop} {v : UInt64} (C : Cx E L own cc nL p s m args c) (hr : meth.sig.returnType = some .double) (hlk : meth.locks = false) (hP : va_P E.1 vwCl (wd E L st) H) (hS : va_S (fA E L s.heap.size) s.heap H locs) (h : post v st) (hdg : decode cc pc = .ok (.dreturn, 1)) :
    W p l e R s m args below meth c H locs cells slots (MQ below (zD E L post (fA E L s.heap.size)) args s cells slots (fA E L s.heap.size)) (F0 m pc ls [.double v]) :=
  W.dret (v := v) C.1 C.2.1 hr (fun t ht hW => ⟨⟨v, st, rfl, h, by show va_P _ _ _ t.heap; rw [ht]; exact hP⟩, hS.F ht⟩) hS.2.2 hdg hlk
theorem z_kd {post : UInt64 → St → Prop} {a : Array Value} {st0 : List Value} (hS : va_S (fA E L s.heap.size) s.heap H locs) (hr : va_Run p l e R s m args below meth c H locs cells slots mc ms (F0 m pc ls st0) rest (zD E L post (fA E L H.size) a) (fA E L H.size))
    (kk : ∀ (r : UInt64) (u : St) (H1 : Heap) (locs1 : List Loc), post r u → va_P E.1 vwCl (wd E L u) H1 → va_S (fA E L s.heap.size) s.heap H1 locs1 → W p l e R s m args below meth c H1 locs1 (cells + mc) (slots + ms) Q (F0 m (pc + 3) ls (.double r :: rest))) : W p l e R s m args below meth c H locs cells slots Q (F0 m pc ls st0) :=
  va_calld hr hS (fun q _ h => fA_up hS.1 q h) (fA_up hS.1) (fun r u t H1 locs1 ht _ hp hB _ _ hS1 => kk r u H1 locs1 hp (by rw [← ht]; exact hB) hS1)
end ZA

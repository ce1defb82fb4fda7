section
/-! NOT a proof of the property: these rows show that the printed statement is empty. Its head takes the law's method as one without an exception table; the class file that it names has one handler there (598 to 657, to 661). No launch meets the premises. -/
theorem p46_file : classFile.hasCode x code maxLocals ret = false := by decide +kernel
theorem p46_head : (x, code, maxLocals, ret) ∈ (headSpec (Cond.code x code maxLocals ret :: tables_1) room_1).pre.codes ++ (headSpec (Cond.code x code maxLocals ret :: tables_1) room_1).post.codes := by
  refine List.mem_append_left _ ?_
  show (x, code, maxLocals, ret) ∈ [(x, code, maxLocals, ret)] ++ (allAtoms tables_1).codes
  exact List.mem_append_left _ (List.mem_singleton.mpr rfl)
theorem p46_any {α : Type} {o : Option α} {a : α} {g : α → Bool} (h1 : o = some a) (h2 : o.any g = true) : g a = true := by
  subst h1
  exact h2
theorem p46_empty (l : Launch) : ¬ Lists l classFile x code maxLocals ret tables_1 room_1 := by
  intro h
  obtain ⟨-, hf, ⟨hc, -, -, -⟩, -⟩ := h
  exact Bool.false_ne_true (p46_file.symm.trans (p46_any (g := fun f => f.hasCode x code maxLocals ret) hf (hc _ p46_head)))
theorem i_vc : Claimed_1_1 ∧ Claimed_1_2 := ⟨fun l _ hL _ => absurd hL (p46_empty l), fun l _ hL _ => absurd hL (p46_empty l)⟩
end

/-! The relation holds at the start; every operation keeps it -/
theorem rl_start : Rl xI mdI := by
  refine ⟨0, 0, 0, ⟨⟨by decide, rfl, rfl, rfl, rfl, rfl, rfl, ⟨4, by decide, by decide, rfl⟩, ⟨fun a => a, fun a => a, fun a ha => ?_, fun i hi => ?_⟩, fun k hk => absurd hk (by omega)⟩, fun k hk => absurd hk (by omega)⟩, by decide, rfl, rfl, ⟨fun j hj => hj, fun i j _ _ e => e⟩, fun j hj => absurd hj (by omega), by decide, rfl, rfl, fun i hi => absurd hi (by omega)⟩
  · rcases (show a = 0 ∨ a = 1 ∨ a = 2 ∨ a = 3 ∨ a = 4 ∨ a = 5 by omega) with h | h | h | h | h | h <;> subst h <;> exact ⟨by decide, rfl, by decide +kernel⟩
  · rcases (show i = 0 ∨ i = 1 ∨ i = 2 ∨ i = 3 ∨ i = 4 ∨ i = 5 by omega) with h | h | h | h | h | h <;> subst h <;> exact ⟨by decide, rfl, by decide +kernel⟩
theorem ask {x : XS} {y : St} (h : Rl x y) : ∃ n, Rs x.1 (y.1 0) n := by
  obtain ⟨n, _, _, H, _⟩ := h
  exact ⟨n, H⟩
theorem keep {α : Type} {x : XS} {y : St} (h : Rl x y) {f g : Option α} (q : ∃ v, f = some v ∧ g = some v) : ∃ v, f = some v ∧ g = some v ∧ Rl x y := by
  obtain ⟨v, a, b⟩ := q
  exact ⟨v, a, b, h⟩
theorem sims : ∃ Rel : XS → St → Prop, Sims Rel ∧ Rel xI mdI := by
  refine ⟨Rl, ⟨?_, ?_, ?_, ?_, ?_, ?_, ?_, ?_, ?_, ?_, ?_, ?_, ?_, ?_, ?_, ?_, ?_, ?_, ?_, ?_, ?_, ?_⟩, rl_start⟩
  · exact fun x y h p => sim_tell h p
  · exact fun x y h p q => sim_rank h p q
  · exact fun x y h p => sim_set h p
  · exact fun x y h => sim_step h
  · exact fun x y h p => sim_run h p
  · exact fun x y h => sim_empty h
  · exact fun x y h p q => keep h (by obtain ⟨n, H⟩ := ask h; exact sim_clauseOf H p q)
  · exact fun x y h p => keep h (by obtain ⟨n, H⟩ := ask h; exact sim_tree H p)
  · exact fun x y h p => keep h (by obtain ⟨n, H⟩ := ask h; exact sim_widest H p)
  · exact fun x y h => keep h (by obtain ⟨n, H⟩ := ask h; exact sim_refutation H)
  · exact fun x y h => keep h (by obtain ⟨n, H⟩ := ask h; exact sim_models H)
  · exact fun x y h p => keep h (by obtain ⟨n, H⟩ := ask h; exact sim_model H p)
  · exact fun x y h p => keep h (by obtain ⟨n, H⟩ := ask h; exact sim_broken H p)
  · exact fun x y h => keep h (by obtain ⟨n, H⟩ := ask h; exact sim_core H)
  · exact fun x y h p => keep h (by obtain ⟨n, H⟩ := ask h; exact sim_follows H p)
  · exact fun x y h p => keep h (sim_share x y p)
  · exact fun x y h p => keep h (sim_count h p)
  · exact fun x y h => sim_undo h
  · exact fun x y h p => sim_type h p
  · exact fun x y h => sim_clearText h
  · exact fun x y h p => sim_fault h p
  · exact fun x y h => sim_play h

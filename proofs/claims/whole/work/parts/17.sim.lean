theorem sims : ∃ Rel : XS → St → Prop, Sims Rel ∧ Rel xI mdI := sorry

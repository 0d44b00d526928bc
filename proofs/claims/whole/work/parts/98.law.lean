theorem pure_law : ∃ Rel : Me → Me → Prop, pure_steps Rel := sorry

/-! The law of the pure functions. -/
theorem fl_at_ok : ∀ q, q < 441 → fl_at q = -1 := by decide +kernel
theorem nr_ok : ∀ q, q < 441 → nr_84 q = nearB q := by decide +kernel
theorem nearB_0 : ∀ q, nearB q + nI 0 = nearB q := fun q => Int32.add_zero _
theorem RR_0 : RR 0 M0X M0Y := by
  refine ⟨s0, s0_wf, SY_0 rfl rfl, ⟨0, by omega, rfl, fun w _ => ⟨0, by omega, rfl⟩⟩, Or.inl ⟨rfl, rfl⟩, Or.inl ⟨⟨⟨⟨SX_0 rfl rfl, rfl, fun t ht => (by cases ht), fun q hq => ?_, trivial⟩, ⟨fun q hq => ?_, fun q hq => rfl⟩, ⟨fun p hp => (by have : p < 0 := hp; omega), fun r hr => (by have : r < 0 := hr; omega)⟩, rfl⟩, rfl, rfl, rfl, rfl, rfl, rfl⟩, rfl⟩⟩
  · exact fl_at_ok q hq
  · show nr_84 q = nearB q + nI 0
    rw [nearB_0]
    exact nr_ok q hq
theorem pure_law : ∃ Rel : Nat → Me → Me → Prop, pure_steps Rel := ⟨RR, RR_0, fun _ _ _ h => RR_up h, st_type, st_draw, st_start, st_clear, st_drawn, st_game, st_fits, sr_place, sr_follow, sr_undo, sr_region, sr_about, sr_player, sr_search, st_best⟩

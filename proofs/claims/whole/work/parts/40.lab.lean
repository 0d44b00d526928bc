/-! Least-element labellings of a set of edges. -/
def relab (lab : Nat → Nat) (a b : Nat) : Nat → Nat := fun x => if lab x = lab a ∨ lab x = lab b then min (lab a) (lab b) else lab x
def Lab (lab : Nat → Nat) (E : List (Nat × Nat)) : Prop := (∀ x, lab x ≤ x) ∧ (∀ x, lab (lab x) = lab x) ∧ (∀ e ∈ E, lab e.1 = lab e.2) ∧ ∀ f : Nat → Nat, (∀ e ∈ E, f e.1 = f e.2) → ∀ x, f (lab x) = f x
theorem Lab.nil : Lab id [] := ⟨fun _ => Nat.le_refl _, fun _ => rfl, fun _ h => (by cases h), fun _ _ _ => rfl⟩
theorem relab_le {lab : Nat → Nat} {a b : Nat} (h : ∀ x, lab x ≤ x) (x : Nat) : relab lab a b x ≤ lab x := by
  unfold relab
  by_cases hc : lab x = lab a ∨ lab x = lab b
  · rw [if_pos hc]; rcases hc with h1 | h1 <;> omega
  · rw [if_neg hc]; exact Nat.le_refl _
theorem Lab.step {lab : Nat → Nat} {E : List (Nat × Nat)} (h : Lab lab E) (a b : Nat) : Lab (relab lab a b) ((a, b) :: E) := by
  obtain ⟨h1, h2, h3, h4⟩ := h
  refine ⟨fun x => Nat.le_trans (relab_le h1 x) (h1 x), fun x => ?_, fun e he => ?_, fun f hf x => ?_⟩
  · have hm : lab (min (lab a) (lab b)) = min (lab a) (lab b) := by
      rcases Nat.le_total (lab a) (lab b) with q | q
      · rw [Nat.min_eq_left q]; exact h2 a
      · rw [Nat.min_eq_right q]; exact h2 b
    by_cases hc : lab x = lab a ∨ lab x = lab b
    · have e1 : relab lab a b x = min (lab a) (lab b) := by unfold relab; rw [if_pos hc]
      rw [e1]
      unfold relab
      rw [hm]
      have hc2 : min (lab a) (lab b) = lab a ∨ min (lab a) (lab b) = lab b := by omega
      rw [if_pos hc2]
    · have e1 : relab lab a b x = lab x := by unfold relab; rw [if_neg hc]
      rw [e1]
      unfold relab
      rw [h2 x, if_neg hc]
  · rcases List.mem_cons.mp he with rfl | he
    · show relab lab a b a = relab lab a b b
      unfold relab
      rw [if_pos (Or.inl rfl), if_pos (Or.inr rfl)]
    · unfold relab
      rw [h3 e he]
  · have hab : f a = f b := hf (a, b) List.mem_cons_self
    have hE : ∀ e ∈ E, f e.1 = f e.2 := fun e he => hf e (List.mem_cons_of_mem _ he)
    have hl := h4 f hE
    unfold relab
    by_cases hc : lab x = lab a ∨ lab x = lab b
    · rw [if_pos hc]
      have hx : f x = f a := by
        rcases hc with q | q
        · rw [← hl x, q, hl a]
        · rw [← hl x, q, hl b, hab]
      rcases Nat.le_total (lab a) (lab b) with q | q
      · rw [Nat.min_eq_left q, hl a, hx]
      · rw [Nat.min_eq_right q, hl b, hx, hab]
    · rw [if_neg hc]; exact hl x
theorem Lab.unique {lab lab2 : Nat → Nat} {E E2 : List (Nat × Nat)} (h : Lab lab E) (h2 : Lab lab2 E2) (h12 : ∀ e ∈ E, lab2 e.1 = lab2 e.2) (h21 : ∀ e ∈ E2, lab e.1 = lab e.2) : lab = lab2 := by
  funext x
  have a : lab (lab2 x) = lab x := h2.2.2.2 lab h21 x
  have b : lab2 (lab x) = lab2 x := h.2.2.2 lab2 h12 x
  have c := h.1 (lab2 x)
  have d := h2.1 (lab x)
  omega
theorem Lab.mono {lab : Nat → Nat} {E E2 : List (Nat × Nat)} (h : Lab lab E) (h1 : ∀ e ∈ E2, lab e.1 = lab e.2) (h2 : ∀ f : Nat → Nat, (∀ e ∈ E2, f e.1 = f e.2) → ∀ e ∈ E, f e.1 = f e.2) : Lab lab E2 := ⟨h.1, h.2.1, h1, fun f hf => h.2.2.2 f (h2 f hf)⟩
def foldLab (lab : Nat → Nat) (E : List (Nat × Nat)) : Nat → Nat := E.foldl (fun l e => relab l e.1 e.2) lab
theorem Lab.fold {lab : Nat → Nat} {E0 : List (Nat × Nat)} (h : Lab lab E0) (E : List (Nat × Nat)) : Lab (foldLab lab E) (E.reverse ++ E0) := by
  induction E generalizing lab E0 with
  | nil => exact h
  | cons e E ih =>
    have h1 := ih (h.step e.1 e.2)
    rw [List.reverse_cons, List.append_assoc]
    exact h1
theorem Lab.all (E : List (Nat × Nat)) : Lab (foldLab id E) E := by
  have h := Lab.fold Lab.nil E
  rw [List.append_nil] at h
  exact h.mono (fun e he => h.2.2.1 e (List.mem_reverse.mpr he)) (fun f hf e he => hf e (List.mem_reverse.mp he))
/-- nothing beyond the edges' ends is moved -/
theorem Lab.off {lab : Nat → Nat} {E : List (Nat × Nat)} (h : Lab lab E) {x : Nat} (hx : ∀ e ∈ E, e.1 ≠ x ∧ e.2 ≠ x) : lab x = x := by
  have h1 := h.2.2.2 (fun y => if y = x then 1 else 0) (fun e he => by rw [if_neg (hx e he).1, if_neg (hx e he).2]) x
  simp only [if_true] at h1
  by_cases hq : lab x = x
  · exact hq
  · rw [if_neg hq] at h1; cases h1

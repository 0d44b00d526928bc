/-! Which pieces hang together; what a new tile adds. -/
def eo (S : Su) (T : Tl) (t s : Nat) : List (Nat × Nat) := match ta T (nb (tc T t) (s / 3)) with
  | none => []
  | some o => [(8 * t + pp S T t s, 8 * o + pp S T o (op s))]
def edges (S : Su) (T : Tl) : List (Nat × Nat) := (List.range T.length).flatMap (fun t => (List.range 12).flatMap (eo S T t))
def labs (S : Su) (T : Tl) : Nat → Nat := foldLab id (edges S T)
theorem mem_eo {S : Su} {T : Tl} {t s : Nat} {e : Nat × Nat} : e ∈ eo S T t s ↔ ∃ o, ta T (nb (tc T t) (s / 3)) = some o ∧ e = (8 * t + pp S T t s, 8 * o + pp S T o (op s)) := by
  unfold eo
  cases h : ta T (nb (tc T t) (s / 3)) with
  | none => exact ⟨fun q => (by cases q), fun ⟨o, q, _⟩ => (by cases q)⟩
  | some o =>
    constructor
    · intro q; exact ⟨o, rfl, List.mem_singleton.mp q⟩
    · rintro ⟨o2, q, rfl⟩; cases q; exact List.mem_singleton.mpr rfl
theorem mem_edges {S : Su} {T : Tl} {e : Nat × Nat} : e ∈ edges S T ↔ ∃ t s, t < T.length ∧ s < 12 ∧ e ∈ eo S T t s := by
  unfold edges
  simp only [List.mem_flatMap, List.mem_range]
  constructor
  · rintro ⟨t, h1, s, h2, h3⟩; exact ⟨t, s, h1, h2, h3⟩
  · rintro ⟨t, s, h1, h2, h3⟩; exact ⟨t, h1, s, h2, h3⟩
theorem labs_lab (S : Su) (T : Tl) : Lab (labs S T) (edges S T) := Lab.all _
theorem nb_back {q d : Nat} (hq : inb q) (hd : d < 4) : nb (nb q d) ((d + 2) % 4) = q := by
  obtain ⟨q1, q2, q3, q4⟩ := hq
  have hdd : d = 0 ∨ d = 1 ∨ d = 2 ∨ d = 3 := by omega
  rcases hdd with rfl | rfl | rfl | rfl
  · show q - 21 + 21 = q; omega
  · show q + 1 - 1 = q; omega
  · show q + 21 - 21 = q; omega
  · show q - 1 + 1 = q; omega
theorem op_div : ∀ s, s < 12 → op s / 3 = (s / 3 + 2) % 4 := by decide
theorem op_op : ∀ s, s < 12 → op (op s) = s := by decide
theorem pp_lt {S : Su} {T : Tl} (hw : wfS S) (hwt : wfTl S T) {t s : Nat} (ht : t < T.length) : pp S T t s < 8 := pu_lt hw (hwt.2.1 t ht).1
theorem edge_lt {S : Su} {T : Tl} (hw : wfS S) (hwt : wfTl S T) {e : Nat × Nat} (h : e ∈ edges S T) : e.1 < 8 * T.length ∧ e.2 < 8 * T.length := by
  obtain ⟨t, s, h1, h2, h3⟩ := mem_edges.mp h
  obtain ⟨o, h4, rfl⟩ := mem_eo.mp h3
  obtain ⟨ho, -⟩ := ta_some h4
  have a := pp_lt hw hwt (s := s) h1
  have b := pp_lt hw hwt (s := op s) ho
  constructor
  · show 8 * t + pp S T t s < _; omega
  · show 8 * o + pp S T o (op s) < _; omega
theorem labs_off {S : Su} {T : Tl} (hw : wfS S) (hwt : wfTl S T) {x : Nat} (hx : 8 * T.length ≤ x) : labs S T x = x := (labs_lab S T).off (fun e he => by
  have := edge_lt hw hwt he
  omega)
theorem labs_le (S : Su) (T : Tl) (x : Nat) : labs S T x ≤ x := (labs_lab S T).1 x
/-! a tile more -/
theorem snoc_lt {T : Tl} {x : Nat × Nat × Nat} {t : Nat} (h : t < T.length) : tc (T ++ [x]) t = tc T t ∧ ty (T ++ [x]) t = ty T t ∧ tu (T ++ [x]) t = tu T t := by
  have e : (T ++ [x]).getD t (0, 0, 0) = T.getD t (0, 0, 0) := by simp [List.getD, List.getElem?_append_left h]
  unfold tc ty tu
  rw [e]
  exact ⟨rfl, rfl, rfl⟩
theorem snoc_eq {T : Tl} {x : Nat × Nat × Nat} : tc (T ++ [x]) T.length = x.1 ∧ ty (T ++ [x]) T.length = x.2.1 ∧ tu (T ++ [x]) T.length = x.2.2 := by
  have e : (T ++ [x]).getD T.length (0, 0, 0) = x := by simp [List.getD]
  unfold tc ty tu
  rw [e]
  exact ⟨rfl, rfl, rfl⟩
theorem snoc_wf {S : Su} {T : Tl} {x : Nat × Nat × Nat} (h : wfTl S (T ++ [x])) : wfTl S T := by
  have hl : (T ++ [x]).length = T.length + 1 := by simp
  refine ⟨by have := h.1; omega, fun t ht => ?_, fun t o ht ho e => ?_⟩
  · have := h.2.1 t (by omega)
    obtain ⟨e1, e2, e3⟩ := snoc_lt (x := x) ht
    rw [e1, e2, e3] at this
    exact this
  · exact h.2.2 t o (by omega) (by omega) (by rw [(snoc_lt ht).1, (snoc_lt ho).1]; exact e)
theorem snoc_pp {S : Su} {T : Tl} {x : Nat × Nat × Nat} {t s : Nat} (h : t < T.length) : pp S (T ++ [x]) t s = pp S T t s := by
  obtain ⟨e1, e2, e3⟩ := snoc_lt (x := x) h
  unfold pp
  rw [e2, e3]
def newE (S : Su) (T : Tl) (x : Nat × Nat × Nat) (i : Nat) : List (Nat × Nat) := (List.range i).flatMap (eo S (T ++ [x]) T.length)
theorem newE_succ (S : Su) (T : Tl) (x : Nat × Nat × Nat) (i : Nat) : newE S T x (i + 1) = newE S T x i ++ eo S (T ++ [x]) T.length i := by
  unfold newE
  rw [List.range_succ, List.flatMap_append]
  simp
theorem mem_newE {S : Su} {T : Tl} {x : Nat × Nat × Nat} {i : Nat} {e : Nat × Nat} : e ∈ newE S T x i ↔ ∃ s, s < i ∧ e ∈ eo S (T ++ [x]) T.length s := by
  unfold newE
  simp only [List.mem_flatMap, List.mem_range]
theorem labs_snoc {S : Su} {T : Tl} {x : Nat × Nat × Nat} (hw : wfTl S (T ++ [x])) : labs S (T ++ [x]) = foldLab (labs S T) (newE S T x 12) := by
  have hl : (T ++ [x]).length = T.length + 1 := by simp
  have hF := (labs_lab S T).fold (newE S T x 12)
  have hL := labs_lab S (T ++ [x])
  refine hL.unique hF (fun e he => ?_) (fun e he => ?_)
  · obtain ⟨t, s, h1, h2, h3⟩ := mem_edges.mp he
    obtain ⟨o, h4, rfl⟩ := mem_eo.mp h3
    obtain ⟨ho, hoc⟩ := ta_some h4
    by_cases ht : t = T.length
    · subst ht
      exact hF.2.2.1 _ (List.mem_append_left _ (List.mem_reverse.mpr (mem_newE.mpr ⟨s, h2, mem_eo.mpr ⟨o, h4, rfl⟩⟩)))
    · have htl : t < T.length := by omega
      by_cases hol : o = T.length
      · subst hol
        have hin := (hw.2.1 t h1).2.2
        have hb := nb_back hin (show s / 3 < 4 by omega)
        have hta : ta (T ++ [x]) (nb (tc (T ++ [x]) T.length) (op s / 3)) = some t := by
          rw [op_div s h2, hoc, hb]; exact ta_at hw h1
        have := hF.2.2.1 (8 * T.length + pp S (T ++ [x]) T.length (op s), 8 * t + pp S (T ++ [x]) t (op (op s))) (List.mem_append_left _ (List.mem_reverse.mpr (mem_newE.mpr ⟨op s, op_lt h2, mem_eo.mpr ⟨t, hta, rfl⟩⟩)))
        rw [op_op s h2] at this
        exact this.symm
      · have holt : o < T.length := by omega
        have hta : ta T (nb (tc T t) (s / 3)) = some o := by
          rw [(snoc_lt (x := x) htl).1, ta_snoc] at h4
          cases h5 : ta T (nb (tc T t) (s / 3)) with
          | some o2 => rw [h5] at h4; exact h4
          | none =>
            rw [h5] at h4
            by_cases hx : x.1 = nb (tc T t) (s / 3)
            · simp only [hx, if_true] at h4; cases h4; omega
            · simp only [hx, if_false] at h4; cases h4
        rw [snoc_pp htl, snoc_pp holt]
        exact hF.2.2.1 _ (List.mem_append_right _ (mem_edges.mpr ⟨t, s, htl, h2, mem_eo.mpr ⟨o, hta, rfl⟩⟩))
  · rcases List.mem_append.mp he with h | h
    · obtain ⟨s, h1, h2⟩ := mem_newE.mp (List.mem_reverse.mp h)
      exact hL.2.2.1 e (mem_edges.mpr ⟨T.length, s, by omega, h1, h2⟩)
    · obtain ⟨t, s, h1, h2, h3⟩ := mem_edges.mp h
      obtain ⟨o, h4, rfl⟩ := mem_eo.mp h3
      obtain ⟨ho, -⟩ := ta_some h4
      refine hL.2.2.1 _ (mem_edges.mpr ⟨t, s, by omega, h2, mem_eo.mpr ⟨o, ?_, ?_⟩⟩)
      · rw [(snoc_lt h1).1, ta_snoc, h4]
      · rw [snoc_pp h1, snoc_pp ho]

/-! Changes of followers, and taking them back. -/
def sm (M : Me) (C r : Nat) (v : Int32) : Me := rx_st (rx_st (rx_st (rx_st M 32 C (nI r)) 33 C (M 29 r)) 3 10 (nI (C + 1))) 29 r v
theorem sm_get {M : Me} {C r c i : Nat} {v : Int32} : sm M C r v c i = if c = 29 ∧ i = r then v else if c = 3 ∧ i = 10 then nI (C + 1) else if c = 33 ∧ i = C then M 29 r else if c = 32 ∧ i = C then nI r else M c i := by
  unfold sm
  simp only [st_get]
theorem sm_off {M : Me} {C r c i : Nat} {v : Int32} (h1 : c ≠ 29) (h2 : ¬ (c = 3 ∧ i = 10)) (h3 : ¬ (c = 32 ∨ c = 33)) : sm M C r v c i = M c i := by
  rw [sm_get, if_neg (by omega), if_neg h2, if_neg (by omega), if_neg (by omega)]
theorem x_setMen {M : Me} {C r : Nat} {v : Int32} (hC : M 3 10 = nI C) (hCl : C < 48) (hr : r < 192) : qf_X3_setMen (nI r) v M = some (0, sm M C r v) := by
  unfold qf_X3_setMen sm
  rw [n_vv, hC, n_sv hCl (by decide), n_vv, st_cell (by decide), hC, n_ld hr (by decide), st_cell (by decide), n_sv hCl (by decide), n_vv, st_cell (by decide), st_cell (by decide), hC, n_vv, kn_1, n_add, n_sv hr (by decide)]
def Km (n C c i : Nat) : Prop := (c = 29 ∧ i < 8 * n) ∨ (c = 3 ∧ i = 10) ∨ ((c = 32 ∨ c = 33) ∧ i < C)
def EqM (n C : Nat) (M M2 : Me) : Prop := ∀ c i, Km n C c i → M c i = M2 c i
def us (M : Me) (C r : Nat) : Me := rx_st (rx_st M 29 r (M 33 C)) 3 10 (nI C)
theorem us_get {M : Me} {C r c i : Nat} : us M C r c i = if c = 3 ∧ i = 10 then nI C else if c = 29 ∧ i = r then M 33 C else M c i := by
  unfold us
  simp only [st_get]
theorem us_back {M M2 : Me} {n C r : Nat} {v : Int32} (hE : EqM n (C + 1) (sm M C r v) M2) (hC : M 3 10 = nI C) (hr : r < 8 * n) : EqM n C M (us M2 C r) := by
  intro c i k
  rw [us_get]
  by_cases c1 : c = 3 ∧ i = 10
  · rw [if_pos c1, c1.1, c1.2]; exact hC
  · rw [if_neg c1]
    by_cases c2 : c = 29 ∧ i = r
    · rw [if_pos c2, ← hE 33 C (by unfold Km; omega), sm_get, if_neg (by omega), if_neg (by omega), if_pos ⟨rfl, rfl⟩, c2.1, c2.2]
    · rw [if_neg c2, ← hE c i (by unfold Km at *; omega), sm_get, if_neg c2, if_neg c1, if_neg (by unfold Km at k; omega), if_neg (by unfold Km at k; omega)]
def Bm (n C : Nat) (M : Me) (C2 : Nat) (M2 : Me) : Prop := C ≤ C2 ∧ C2 ≤ 48 ∧ M2 3 10 = nI C2 ∧ ∀ M3, EqM n C2 M2 M3 → ∀ (C0 f : Nat), C0 ≤ C → ∃ M4, EqM n C M M4 ∧ (∀ c i, c ≠ 29 → ¬ (c = 3 ∧ i = 10) → M4 c i = M3 c i) ∧ rx_lp1 (qo_X3_takeMenBackTo_7 (nI C0)) (f + (C2 - C)) (pr C2) M3 = rx_lp1 (qo_X3_takeMenBackTo_7 (nI C0)) f (pr C) M4
theorem Bm.rf {n C : Nat} {M : Me} (hC : C ≤ 48) (h : M 3 10 = nI C) : Bm n C M C M := ⟨Nat.le_refl _, hC, h, fun M3 h3 C0 f _ => ⟨M3, h3, fun _ _ _ _ => rfl, by rw [Nat.sub_self]; rfl⟩⟩
theorem Bm.step {n C C2 r : Nat} {v : Int32} {M M2 : Me} (h : Bm n C M C2 M2) (hC2 : C2 < 48) (hn : 8 * n ≤ 192) (hr : r < 8 * n) : Bm n C M (C2 + 1) (sm M2 C2 r v) := by
  obtain ⟨h1, h2, h3, h4⟩ := h
  refine ⟨by omega, by omega, ?_, fun M3 hE C0 f hC0 => ?_⟩
  · rw [sm_get, if_neg (by omega), if_pos ⟨rfl, rfl⟩]
  have e32 : M3 32 C2 = nI r := by
    rw [← hE 32 C2 (by unfold Km; omega), sm_get, if_neg (by omega), if_neg (by omega), if_neg (by omega), if_pos ⟨rfl, rfl⟩]
  have hb := us_back hE h3 hr
  obtain ⟨M4, g1, g0, g2⟩ := h4 _ hb C0 f hC0
  refine ⟨M4, g1, fun c i c1 c2 => ?_, ?_⟩
  · rw [g0 c i c1 c2, us_get, if_neg c2, if_neg (fun g => c1 g.1)]
  rw [show f + (C2 + 1 - C) = (f + (C2 - C)) + 1 by omega, pr_succ]
  show qo_X3_takeMenBackTo_7 (nI C0) (rx_lp1 (qo_X3_takeMenBackTo_7 (nI C0)) (f + (C2 - C))) (nI C2) M3 = _
  rw [← g2]
  generalize rx_lp1 (qo_X3_takeMenBackTo_7 (nI C0)) (f + (C2 - C)) = rec
  unfold qo_X3_takeMenBackTo_7 us pr
  rw [i_lt (by omega) (by omega), if_neg (by omega), n_ld hC2 (by decide), e32, n_ld hC2 (by decide), n_sv (by omega) (by decide), n_vv, n_vv]
/-- what keeps the followers' places and what belongs to them -/
theorem Bm.keep {n C C2 : Nat} {M M2 M3 : Me} (h : Bm n C M C2 M2) (hE : ∀ c i, Km n C2 c i → M3 c i = M2 c i) : Bm n C M C2 M3 := by
  obtain ⟨h1, h2, h3, h4⟩ := h
  refine ⟨h1, h2, ?_, fun M4 hE4 => h4 M4 (fun c i k => by rw [← hE c i k]; exact hE4 c i k)⟩
  rw [hE 3 10 (by unfold Km; omega)]
  exact h3
theorem Bm.back {n C C2 : Nat} {M M2 M3 : Me} (h : Bm n C M C2 M2) (hE : EqM n C2 M2 M3) : ∃ M4, qf_X3_takeMenBackTo (nI C) M3 = some (0, M4) ∧ EqM n C M M4 ∧ ∀ c i, c ≠ 29 → ¬ (c = 3 ∧ i = 10) → M4 c i = M3 c i := by
  obtain ⟨h1, h2, h3, h4⟩ := h
  have e7 : M3 3 10 = nI C2 := by rw [← hE 3 10 (by unfold Km; omega)]; exact h3
  obtain ⟨M4, g1, g0, g2⟩ := h4 M3 hE C (rx_FU - (C2 - C)) (Nat.le_refl _)
  refine ⟨M4, ?_, g1, g0⟩
  have hfu : rx_FU - (C2 - C) + (C2 - C) = rx_FU := by have := rx_FUe; omega
  rw [hfu] at g2
  have hpos : ∃ f, rx_FU - (C2 - C) = f + 1 := ⟨rx_FU - (C2 - C) - 1, by have := rx_FUe; omega⟩
  obtain ⟨f, hf⟩ := hpos
  unfold qf_X3_takeMenBackTo
  rw [n_vv, e7, n_vv, Int32.sub_eq_add_neg, show nI C2 + -1 = pr C2 from rfl, g2, hf]
  show qo_X3_takeMenBackTo_7 (nI C) _ (pr C) M4 = _
  unfold qo_X3_takeMenBackTo_7
  rw [if_pos (pr_lt (by omega))]

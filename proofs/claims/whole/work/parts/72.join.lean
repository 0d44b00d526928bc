/-! The class's regions: a forest whose roots are the labels; joining, and taking a join back. -/
def XR (M : Me) (N : Nat) (lab sh op mn : Nat → Nat) : Prop :=
  (∀ p, p < N → ∃ v, M 25 p = nI v ∧ v ≤ p ∧ lab v = lab p ∧ (v = p → lab p = p)) ∧
  ∀ r, r < N → lab r = r → M 26 r = nI (bitL lab r N) ∧ M 27 r = nI (sumL lab sh r N) ∧ M 28 r = nI (sumL lab op r N) ∧ M 29 r = nI (sumL lab mn r N)
theorem XR.root {M : Me} {N : Nat} {lab sh op mn : Nat → Nat} (h : XR M N lab sh op mn) {r : Nat} (hr : r < N) (hl : lab r = r) (hle : ∀ x, lab x ≤ x) : M 25 r = nI r := by
  obtain ⟨v, h1, h2, h3, -⟩ := h.1 r hr
  have := hle v
  rw [h1]
  congr 1
  omega
theorem x_root {M : Me} {N : Nat} {lab sh op mn : Nat → Nat} (h : XR M N lab sh op mn) (hN : N ≤ 192) : ∀ (m p n : Nat), p < m → p < N → p + n < 192 → rx_lp2 qo_X3_rootOf_4 m (nI p) (nI n) M = some (nI (lab p), M) := by
  intro m
  induction m with
  | zero => intro p n h; omega
  | succ m ih =>
    intro p n hm hp hn
    show qo_X3_rootOf_4 (rx_lp2 qo_X3_rootOf_4 m) (nI p) (nI n) M = _
    obtain ⟨v, h1, h2, h3, h4⟩ := h.1 p hp
    generalize hrec : rx_lp2 qo_X3_rootOf_4 m = rec at ih ⊢
    unfold qo_X3_rootOf_4
    rw [kn_192, i_le (by decide) (by omega), if_neg (by omega), n_ld (by omega) (by decide), h1, i_eq (by omega) (by omega)]
    by_cases hv : v = p
    · rw [if_pos hv, h4 hv]
    · rw [if_neg hv, n_ld (by omega) (by decide), h1, n_vv, kn_1, n_add, ih v (n + 1) (by omega) (by omega) (by omega), h3]
theorem x_rootOf {M : Me} {N : Nat} {lab sh op mn : Nat → Nat} (h : XR M N lab sh op mn) (hN : N ≤ 192) {p : Nat} (hp : p < N) : qf_X3_rootOf (nI p) M = some (nI (lab p), M) := x_root h hN rx_FU p 0 (fu_lt (by omega)) hp (by omega)
/-- how many pieces are no roots -/
def nr (lab : Nat → Nat) (N : Nat) : Nat := sumN (fun p => if lab p = p then 0 else 1) N
/-- the memory behind a join of two roots lo < hi -/
def jn (M : Me) (J lo hi : Nat) : Me := rx_st (rx_st (rx_st (rx_st (rx_st (rx_st (rx_st (rx_st M 30 J (nI hi)) 31 J (M 26 lo)) 3 7 (nI (J + 1))) 25 hi (nI lo)) 26 lo (M 26 lo ||| M 26 hi)) 27 lo (M 27 lo + M 27 hi)) 28 lo (M 28 lo + M 28 hi)) 29 lo (M 29 lo + M 29 hi)
theorem x_join {M : Me} {J a b : Nat} (hJ : M 3 7 = nI J) (hJl : J < 192) (ha : a < 192) (hb : b < 192) (hab : a ≠ b) : qf_X3_join (nI a) (nI b) M = some (0, jn M J (min a b) (max a b)) := by
  have e1 : (if nI b < nI a then nI b else nI a) = nI (min a b) := by
    rw [i_lt (by omega) (by omega)]
    by_cases h : b < a
    · rw [if_pos h]; congr 1; omega
    · rw [if_neg h]; congr 1; omega
  have e2 : (if nI a < nI b then nI b else nI a) = nI (max a b) := by
    rw [i_lt (by omega) (by omega)]
    by_cases h : a < b
    · rw [if_pos h]; congr 1; omega
    · rw [if_neg h]; congr 1; omega
  have hne : max a b ≠ min a b := by omega
  have hlo : min a b < 192 := by omega
  have hhi : max a b < 192 := by omega
  unfold qf_X3_join jn
  rw [i_eq (by omega) (by omega), if_neg hab, e1, e2]
  generalize min a b = lo at *
  generalize max a b = hi at *
  rw [n_vv, n_vv, n_vv, hJ, n_sv hJl (by decide), n_vv, st_cell (by decide), hJ, n_ld hlo (by decide), st_cell (by decide), n_sv hJl (by decide), n_vv, st_cell (by decide), st_cell (by decide), hJ, n_vv, kn_1, n_add, n_sv hhi (by decide), n_ld hlo (by decide), n_ld hhi (by decide), n_sv hlo (by decide), n_ld hlo (by decide), n_ld hhi (by decide), n_sv hlo (by decide), n_ld hlo (by decide), n_ld hhi (by decide), n_sv hlo (by decide), n_ld hlo (by decide), n_ld hhi (by decide), n_sv hlo (by decide)]
  simp only [st_cell (show (26 : Nat) ≠ 25 by decide), st_cell (show (26 : Nat) ≠ 3 by decide), st_cell (show (26 : Nat) ≠ 31 by decide), st_cell (show (26 : Nat) ≠ 30 by decide), st_cell (show (27 : Nat) ≠ 26 by decide), st_cell (show (27 : Nat) ≠ 25 by decide), st_cell (show (27 : Nat) ≠ 3 by decide), st_cell (show (27 : Nat) ≠ 31 by decide), st_cell (show (27 : Nat) ≠ 30 by decide), st_cell (show (28 : Nat) ≠ 27 by decide), st_cell (show (28 : Nat) ≠ 26 by decide), st_cell (show (28 : Nat) ≠ 25 by decide), st_cell (show (28 : Nat) ≠ 3 by decide), st_cell (show (28 : Nat) ≠ 31 by decide), st_cell (show (28 : Nat) ≠ 30 by decide), st_cell (show (29 : Nat) ≠ 28 by decide), st_cell (show (29 : Nat) ≠ 27 by decide), st_cell (show (29 : Nat) ≠ 26 by decide), st_cell (show (29 : Nat) ≠ 25 by decide), st_cell (show (29 : Nat) ≠ 3 by decide), st_cell (show (29 : Nat) ≠ 31 by decide), st_cell (show (29 : Nat) ≠ 30 by decide)]
theorem jn_off {M : Me} {J lo hi c i : Nat} (h1 : ¬ (25 ≤ c ∧ c ≤ 31)) (h2 : ¬ (c = 3 ∧ i = 7)) : jn M J lo hi c i = M c i := by
  unfold jn
  simp only [st_get]
  have a : ¬ (c = 29 ∧ i = lo) := by omega
  have b : ¬ (c = 28 ∧ i = lo) := by omega
  have d : ¬ (c = 27 ∧ i = lo) := by omega
  have e : ¬ (c = 26 ∧ i = lo) := by omega
  have f : ¬ (c = 25 ∧ i = hi) := by omega
  have g : ¬ (c = 31 ∧ i = J) := by omega
  have k : ¬ (c = 30 ∧ i = J) := by omega
  simp only [a, b, d, e, f, g, k, h2, if_false]
theorem jn_25 {M : Me} {J lo hi i : Nat} : jn M J lo hi 25 i = if i = hi then nI lo else M 25 i := by unfold jn; simp [st_get]
theorem jn_26 {M : Me} {J lo hi i : Nat} : jn M J lo hi 26 i = if i = lo then M 26 lo ||| M 26 hi else M 26 i := by unfold jn; simp [st_get]
theorem jn_27 {M : Me} {J lo hi i : Nat} : jn M J lo hi 27 i = if i = lo then M 27 lo + M 27 hi else M 27 i := by unfold jn; simp [st_get]
theorem jn_28 {M : Me} {J lo hi i : Nat} : jn M J lo hi 28 i = if i = lo then M 28 lo + M 28 hi else M 28 i := by unfold jn; simp [st_get]
theorem jn_29 {M : Me} {J lo hi i : Nat} : jn M J lo hi 29 i = if i = lo then M 29 lo + M 29 hi else M 29 i := by unfold jn; simp [st_get]
theorem jn_30 {M : Me} {J lo hi i : Nat} : jn M J lo hi 30 i = if i = J then nI hi else M 30 i := by unfold jn; simp [st_get]
theorem jn_31 {M : Me} {J lo hi i : Nat} : jn M J lo hi 31 i = if i = J then M 26 lo else M 31 i := by unfold jn; simp [st_get]
theorem jn_7 {M : Me} {J lo hi : Nat} : jn M J lo hi 3 7 = nI (J + 1) := by unfold jn; simp [st_get]
theorem n_or (a b : Nat) : nI a ||| nI b = nI (a ||| b) := by
  apply Int32.toBitVec_inj.mp
  rw [Int32.toBitVec_or]
  show BitVec.ofNat 32 a ||| BitVec.ofNat 32 b = BitVec.ofNat 32 (a ||| b)
  apply BitVec.eq_of_toNat_eq
  rw [BitVec.toNat_or, BitVec.toNat_ofNat, BitVec.toNat_ofNat, BitVec.toNat_ofNat]
  exact (Nat.or_mod_two_pow).symm
/-- joining keeps the picture -/
theorem XR.join {M : Me} {N J : Nat} {lab sh op mn : Nat → Nat} (h : XR M N lab sh op mn) (hle : ∀ x, lab x ≤ x) (hid : ∀ x, lab (lab x) = lab x) {a b : Nat} (ha : a < N) (hb : b < N) (hab : lab a ≠ lab b) : XR (jn M J (min (lab a) (lab b)) (max (lab a) (lab b))) N (relab lab a b) sh op mn := by
  have la := hle a
  have lb := hle b
  have ra : lab (lab a) = lab a := hid a
  have rb : lab (lab b) = lab b := hid b
  have A := h.2 (lab a) (by omega) ra
  have B := h.2 (lab b) (by omega) rb
  have hmin : lab (min (lab a) (lab b)) = min (lab a) (lab b) := by
    rcases Nat.le_total (lab a) (lab b) with q | q
    · rw [Nat.min_eq_left q]; exact ra
    · rw [Nat.min_eq_right q]; exact rb
  have hrmin : relab lab a b (min (lab a) (lab b)) = min (lab a) (lab b) := relab_min.mpr (by rw [hmin]; omega)
  have hcase : (min (lab a) (lab b) = lab a ∧ max (lab a) (lab b) = lab b) ∨ (min (lab a) (lab b) = lab b ∧ max (lab a) (lab b) = lab a) := by omega
  refine ⟨fun p hp => ?_, fun r hr hroot => ?_⟩
  · rw [jn_25]
    by_cases hh : p = max (lab a) (lab b)
    · rw [if_pos hh]
      have hpl : lab p = lab a ∨ lab p = lab b := by rw [hh]; rcases hcase with q | q <;> rw [q.2]; exact Or.inr rb; exact Or.inl ra
      refine ⟨_, rfl, by omega, ?_, fun e => by omega⟩
      rw [hrmin]
      exact (relab_min.mpr hpl).symm
    · rw [if_neg hh]
      obtain ⟨v, h1, h2, h3, h4⟩ := h.1 p hp
      refine ⟨v, h1, h2, ?_, fun e => ?_⟩
      · unfold relab; rw [h3]
      · have h5 := h4 e
        unfold relab
        by_cases hc : lab p = lab a ∨ lab p = lab b
        · rw [if_pos hc]; omega
        · rw [if_neg hc]; exact h5
  · by_cases hm : r = min (lab a) (lab b)
    · rw [hm, jn_26, jn_27, jn_28, jn_29, if_pos rfl, if_pos rfl, if_pos rfl, if_pos rfl, bitL_join, sumL_join hab, sumL_join hab, sumL_join hab]
      rcases hcase with q | q
      · rw [q.1, q.2, A.1, B.1, A.2.1, B.2.1, A.2.2.1, B.2.2.1, A.2.2.2, B.2.2.2, n_or, n_add, n_add, n_add]
        exact ⟨rfl, rfl, rfl, rfl⟩
      · rw [q.1, q.2, A.1, B.1, A.2.1, B.2.1, A.2.2.1, B.2.2.1, A.2.2.2, B.2.2.2, n_or, n_add, n_add, n_add, Nat.or_comm, Nat.add_comm (sumL lab sh (lab b) N), Nat.add_comm (sumL lab op (lab b) N), Nat.add_comm (sumL lab mn (lab b) N)]
        exact ⟨rfl, rfl, rfl, rfl⟩
    · have hra : r ≠ lab a := by
        intro e
        have : relab lab a b r = min (lab a) (lab b) := relab_min.mpr (Or.inl (by rw [e]; exact ra))
        omega
      have hrb : r ≠ lab b := by
        intro e
        have : relab lab a b r = min (lab a) (lab b) := relab_min.mpr (Or.inr (by rw [e]; exact rb))
        omega
      have hlr : lab r = r := (relab_other hra hrb).mp hroot
      rw [jn_26, jn_27, jn_28, jn_29, if_neg hm, if_neg hm, if_neg hm, if_neg hm, bitL_stay hra hrb, sumL_stay hra hrb, sumL_stay hra hrb, sumL_stay hra hrb]
      exact h.2 r hr hlr
theorem nr_join {lab : Nat → Nat} (hle : ∀ x, lab x ≤ x) (hid : ∀ x, lab (lab x) = lab x) {a b N : Nat} (ha : a < N) (hb : b < N) (hab : lab a ≠ lab b) : nr (relab lab a b) N = nr lab N + 1 := by
  have la := hle a
  have lb := hle b
  have ra : lab (lab a) = lab a := hid a
  have rb : lab (lab b) = lab b := hid b
  unfold nr
  refine sumN_one (k := max (lab a) (lab b)) (by omega) ?_ (fun p hp hpk => ?_)
  · have h1 : lab (max (lab a) (lab b)) = max (lab a) (lab b) := by
      rcases Nat.le_total (lab a) (lab b) with q | q
      · rw [Nat.max_eq_right q]; exact rb
      · rw [Nat.max_eq_left q]; exact ra
    have h2 : relab lab a b (max (lab a) (lab b)) = min (lab a) (lab b) := relab_min.mpr (by rw [h1]; omega)
    rw [if_neg (by omega), if_pos h1]
  · by_cases hc : lab p = lab a ∨ lab p = lab b
    · have h2 : relab lab a b p = min (lab a) (lab b) := relab_min.mpr hc
      by_cases hpm : p = min (lab a) (lab b)
      · have h3 : lab p = p := by
          rw [hpm]
          rcases Nat.le_total (lab a) (lab b) with q | q
          · rw [Nat.min_eq_left q]; exact ra
          · rw [Nat.min_eq_right q]; exact rb
        rw [if_pos (by omega), if_pos h3]
      · rw [if_neg (by omega), if_neg (by omega)]
    · have h2 : relab lab a b p = lab p := by unfold relab; rw [if_neg hc]
      rw [h2]
theorem nr_lt {lab : Nat → Nat} (hle : ∀ x, lab x ≤ x) {N : Nat} (hN : 0 < N) : nr lab N < N := by
  have : ∀ n, nr lab (n + 1) ≤ n := by
    intro n
    induction n with
    | zero =>
      show 0 + (if lab 0 = 0 then 0 else 1) ≤ 0
      rw [if_pos (by have := hle 0; omega)]
      exact Nat.le_refl _
    | succ n ih =>
      show nr lab (n + 1) + (if lab (n + 1) = n + 1 then 0 else 1) ≤ n + 1
      by_cases hc : lab (n + 1) = n + 1
      · rw [if_pos hc]; omega
      · rw [if_neg hc]; omega
  have h := this (N - 1)
  rw [show N - 1 + 1 = N by omega] at h
  omega

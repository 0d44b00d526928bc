/-! Sums over the pieces of a region, and what joining two regions does to them. -/
def sumN (f : Nat → Nat) : Nat → Nat
  | 0 => 0
  | n + 1 => sumN f n + f n
theorem sumN_congr {f g : Nat → Nat} {n : Nat} (h : ∀ p, p < n → f p = g p) : sumN f n = sumN g n := by
  induction n with
  | zero => rfl
  | succ n ih =>
    show sumN f n + f n = sumN g n + g n
    rw [ih (fun p hp => h p (by omega)), h n (by omega)]
theorem sumN_add (f g : Nat → Nat) (n : Nat) : sumN (fun p => f p + g p) n = sumN f n + sumN g n := by
  induction n with
  | zero => rfl
  | succ n ih =>
    show sumN (fun p => f p + g p) n + (f n + g n) = sumN f n + f n + (sumN g n + g n)
    rw [ih]; omega
theorem sumN_zero {f : Nat → Nat} {n : Nat} (h : ∀ p, p < n → f p = 0) : sumN f n = 0 := by
  induction n with
  | zero => rfl
  | succ n ih =>
    show sumN f n + f n = 0
    rw [ih (fun p hp => h p (by omega)), h n (by omega)]
theorem sumN_one {f g : Nat → Nat} {n k d : Nat} (hk : k < n) (hf : g k = f k + d) (h : ∀ p, p < n → p ≠ k → g p = f p) : sumN g n = sumN f n + d := by
  induction n with
  | zero => omega
  | succ n ih =>
    show sumN g n + g n = sumN f n + f n + d
    by_cases hn : k = n
    · subst hn
      rw [hf, sumN_congr (g := f) (fun p hp => h p (by omega) (by omega))]; omega
    · rw [ih (by omega) (fun p hp hpk => h p (by omega) hpk), h n (by omega) (fun e => hn e.symm)]; omega
theorem sumN_le {f : Nat → Nat} {n c : Nat} (h : ∀ p, p < n → f p ≤ c) : sumN f n ≤ n * c := by
  induction n with
  | zero => rw [Nat.zero_mul]; exact Nat.le_refl _
  | succ n ih =>
    show sumN f n + f n ≤ (n + 1) * c
    have h1 := ih (fun p hp => h p (by omega))
    have h2 := h n (by omega)
    rw [Nat.succ_mul]; omega
theorem sumN_mono {f : Nat → Nat} {n m : Nat} (h : n ≤ m) : sumN f n ≤ sumN f m := by
  induction m with
  | zero => rw [show n = 0 by omega]; exact Nat.le_refl _
  | succ m ih =>
    by_cases hc : n = m + 1
    · rw [hc]; exact Nat.le_refl _
    · have := ih (by omega)
      show sumN f n ≤ sumN f m + f m
      omega
theorem sumN_split (f : Nat → Nat) (n m : Nat) : sumN f (n + m) = sumN f n + sumN (fun p => f (n + p)) m := by
  induction m with
  | zero => rfl
  | succ m ih =>
    show sumN f (n + m) + f (n + m) = sumN f n + (sumN (fun p => f (n + p)) m + f (n + m))
    rw [ih]; omega
def sumL (lab w : Nat → Nat) (r N : Nat) : Nat := sumN (fun p => if lab p = r then w p else 0) N
theorem relab_min {lab : Nat → Nat} {a b p : Nat} : relab lab a b p = min (lab a) (lab b) ↔ lab p = lab a ∨ lab p = lab b := by
  unfold relab
  by_cases h : lab p = lab a ∨ lab p = lab b
  · rw [if_pos h]; exact ⟨fun _ => h, fun _ => rfl⟩
  · rw [if_neg h]; exact ⟨fun e => by omega, fun g => absurd g h⟩
theorem relab_other {lab : Nat → Nat} {a b p r : Nat} (h1 : r ≠ lab a) (h2 : r ≠ lab b) : relab lab a b p = r ↔ lab p = r := by
  unfold relab
  by_cases h : lab p = lab a ∨ lab p = lab b
  · rw [if_pos h]; constructor
    · intro e; omega
    · intro e; omega
  · rw [if_neg h]
theorem relab_same {lab : Nat → Nat} {a b : Nat} (h : lab a = lab b) : relab lab a b = lab := by
  funext x
  unfold relab
  by_cases hc : lab x = lab a ∨ lab x = lab b
  · rw [if_pos hc]; omega
  · rw [if_neg hc]
theorem sumL_join {lab w : Nat → Nat} {a b N : Nat} (h : lab a ≠ lab b) : sumL (relab lab a b) w (min (lab a) (lab b)) N = sumL lab w (lab a) N + sumL lab w (lab b) N := by
  unfold sumL
  rw [← sumN_add]
  apply sumN_congr
  intro p _
  by_cases h1 : lab p = lab a
  · rw [if_pos (relab_min.mpr (Or.inl h1)), if_pos h1, if_neg (by omega)]; omega
  · by_cases h2 : lab p = lab b
    · rw [if_pos (relab_min.mpr (Or.inr h2)), if_neg h1, if_pos h2]; omega
    · rw [if_neg (fun e => by rcases relab_min.mp e with g | g; exact h1 g; exact h2 g), if_neg h1, if_neg h2]
theorem sumL_stay {lab w : Nat → Nat} {a b r N : Nat} (h1 : r ≠ lab a) (h2 : r ≠ lab b) : sumL (relab lab a b) w r N = sumL lab w r N := by
  unfold sumL
  apply sumN_congr
  intro p _
  by_cases hp : lab p = r
  · rw [if_pos hp, if_pos ((relab_other h1 h2).mpr hp)]
  · rw [if_neg hp, if_neg (fun e => hp ((relab_other h1 h2).mp e))]
/-- one piece's weight grows: the sum of its region grows, no other -/
theorem sumL_up {lab w w2 : Nat → Nat} {k r N d : Nat} (hk : k < N) (hw : w2 k = w k + d) (ho : ∀ p, p < N → p ≠ k → w2 p = w p) : sumL lab w2 r N = sumL lab w r N + (if lab k = r then d else 0) := by
  unfold sumL
  by_cases hr : lab k = r
  · rw [if_pos hr]
    refine sumN_one hk (by rw [if_pos hr, if_pos hr]; exact hw) (fun p hp hpk => by rw [ho p hp hpk])
  · rw [if_neg hr]
    apply sumN_congr
    intro p hp
    by_cases hpk : p = k
    · subst hpk; rw [if_neg hr, if_neg hr]
    · rw [ho p hp hpk]
theorem sumL_congr {lab lab2 w w2 : Nat → Nat} {r N : Nat} (h1 : ∀ p, p < N → lab p = lab2 p) (h2 : ∀ p, p < N → w p = w2 p) : sumL lab w r N = sumL lab2 w2 r N := by
  unfold sumL
  apply sumN_congr
  intro p hp
  rw [h1 p hp, h2 p hp]
theorem sumL_ge {lab w : Nat → Nat} {k N : Nat} (hk : k < N) : w k ≤ sumL lab w (lab k) N := by
  unfold sumL
  have h1 : sumN (fun p => if lab p = lab k then w p else 0) (k + 1) ≤ sumN (fun p => if lab p = lab k then w p else 0) N := sumN_mono hk
  have h2 : sumN (fun p => if lab p = lab k then w p else 0) (k + 1) = sumN (fun p => if lab p = lab k then w p else 0) k + w k := by
    show _ + (if lab k = lab k then w k else 0) = _
    rw [if_pos rfl]
  omega
/-- the same with 'or' for bits -/
def orN (f : Nat → Nat) : Nat → Nat
  | 0 => 0
  | n + 1 => orN f n ||| f n
theorem orN_congr {f g : Nat → Nat} {n : Nat} (h : ∀ p, p < n → f p = g p) : orN f n = orN g n := by
  induction n with
  | zero => rfl
  | succ n ih =>
    show orN f n ||| f n = orN g n ||| g n
    rw [ih (fun p hp => h p (by omega)), h n (by omega)]
theorem orN_or (f g : Nat → Nat) (n : Nat) : orN (fun p => f p ||| g p) n = orN f n ||| orN g n := by
  induction n with
  | zero => exact (Nat.or_self 0).symm
  | succ n ih =>
    show orN (fun p => f p ||| g p) n ||| (f n ||| g n) = (orN f n ||| f n) ||| (orN g n ||| g n)
    rw [ih]
    apply Nat.eq_of_testBit_eq
    intro i
    simp only [Nat.testBit_or]
    cases (orN f n).testBit i <;> cases (orN g n).testBit i <;> cases (f n).testBit i <;> cases (g n).testBit i <;> rfl
theorem orN_lt {f : Nat → Nat} {n m : Nat} (h : ∀ p, p < n → f p < 2 ^ m) : orN f n < 2 ^ m := by
  induction n with
  | zero => exact Nat.two_pow_pos m
  | succ n ih => exact Nat.or_lt_two_pow (ih (fun p hp => h p (by omega))) (h n (by omega))
theorem orN_bit {f : Nat → Nat} {n i : Nat} : (orN f n).testBit i = true ↔ ∃ p, p < n ∧ (f p).testBit i = true := by
  induction n with
  | zero =>
    show (0 : Nat).testBit i = true ↔ _
    rw [Nat.zero_testBit]
    exact ⟨fun h => (by cases h), fun ⟨p, h, _⟩ => (by omega)⟩
  | succ n ih =>
    show (orN f n ||| f n).testBit i = true ↔ _
    rw [Nat.testBit_or, Bool.or_eq_true]
    constructor
    · rintro (h | h)
      · obtain ⟨p, h1, h2⟩ := ih.mp h; exact ⟨p, by omega, h2⟩
      · exact ⟨n, by omega, h⟩
    · rintro ⟨p, h1, h2⟩
      by_cases hp : p = n
      · subst hp; exact Or.inr h2
      · exact Or.inl (ih.mpr ⟨p, by omega, h2⟩)
def bitL (lab : Nat → Nat) (r N : Nat) : Nat := orN (fun p => if lab p = r then 2 ^ (p / 8) else 0) N
theorem bitL_join {lab : Nat → Nat} {a b N : Nat} : bitL (relab lab a b) (min (lab a) (lab b)) N = bitL lab (lab a) N ||| bitL lab (lab b) N := by
  unfold bitL
  rw [← orN_or]
  apply orN_congr
  intro p _
  by_cases h1 : lab p = lab a
  · rw [if_pos (relab_min.mpr (Or.inl h1)), if_pos h1]
    by_cases h2 : lab p = lab b
    · rw [if_pos h2, Nat.or_self]
    · rw [if_neg h2, Nat.or_zero]
  · by_cases h2 : lab p = lab b
    · rw [if_pos (relab_min.mpr (Or.inr h2)), if_neg h1, if_pos h2, Nat.zero_or]
    · rw [if_neg (fun e => by rcases relab_min.mp e with g | g; exact h1 g; exact h2 g), if_neg h1, if_neg h2]; rfl
theorem bitL_stay {lab : Nat → Nat} {a b r N : Nat} (h1 : r ≠ lab a) (h2 : r ≠ lab b) : bitL (relab lab a b) r N = bitL lab r N := by
  unfold bitL
  apply orN_congr
  intro p _
  by_cases hp : lab p = r
  · rw [if_pos hp, if_pos ((relab_other h1 h2).mpr hp)]
  · rw [if_neg hp, if_neg (fun e => hp ((relab_other h1 h2).mp e))]
theorem bitL_congr {lab lab2 : Nat → Nat} {r N : Nat} (h1 : ∀ p, p < N → lab p = lab2 p) : bitL lab r N = bitL lab2 r N := by
  unfold bitL
  apply orN_congr
  intro p hp
  rw [h1 p hp]
theorem bitL_lt {lab : Nat → Nat} {r N : Nat} (hN : N ≤ 192) : bitL lab r N < 2 ^ 24 := by
  apply orN_lt
  intro p hp
  by_cases h : lab p = r
  · rw [if_pos h]; exact Nat.pow_lt_pow_right (by decide) (by omega)
  · rw [if_neg h]; exact Nat.two_pow_pos 24
theorem bitL_bit {lab : Nat → Nat} {r N t : Nat} : (bitL lab r N).testBit t = true ↔ ∃ p, p < N ∧ lab p = r ∧ p / 8 = t := by
  unfold bitL
  rw [orN_bit]
  constructor
  · rintro ⟨p, h1, h2⟩
    by_cases h : lab p = r
    · rw [if_pos h, Nat.testBit_two_pow] at h2
      exact ⟨p, h1, h, by simpa using h2⟩
    · rw [if_neg h, Nat.zero_testBit] at h2; cases h2
  · rintro ⟨p, h1, h2, h3⟩
    refine ⟨p, h1, ?_⟩
    rw [if_pos h2, Nat.testBit_two_pow]
    simpa using h3

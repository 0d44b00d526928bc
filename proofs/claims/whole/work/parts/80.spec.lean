/-! Regions, followers and points as mathematics. -/
noncomputable def ci (P : Prop) : Nat := @ite Nat P (Classical.propDecidable P) 1 0
theorem ci_t {P : Prop} (h : P) : ci P = 1 := by unfold ci; exact if_pos h
theorem ci_f {P : Prop} (h : ¬ P) : ci P = 0 := by unfold ci; exact if_neg h
theorem ci_c {P Q : Prop} (h : P ↔ Q) : ci P = ci Q := by rw [propext h]
theorem ci_le (P : Prop) : ci P ≤ 1 := by
  by_cases h : P
  · rw [ci_t h]; exact Nat.le_refl _
  · rw [ci_f h]; omega
def kdp (S : Su) (T : Tl) (r : Nat) : Nat := sK S (ty T (r / 8)) (r % 8)
def tcn (S : Su) (T : Tl) (r : Nat) : Nat := sumN (fun t => if (bitL (labs S T) r (8 * T.length)).testBit t = true then 1 else 0) T.length
def shn (S : Su) (T : Tl) (r : Nat) : Nat := sumL (labs S T) (shw S T) r (8 * T.length)
def opn (S : Su) (T : Tl) (r : Nat) : Nat := sumL (labs S T) (opw S T) r (8 * T.length)
abbrev Ow : Type := Nat → Option Nat
def mw (O : Ow) (x : Nat) : Nat := match O x with
  | none => 0
  | some j => 16 ^ j
def f1 (O : Ow) (p x : Nat) : Nat := if O x = some p then 1 else 0
def fl (S : Su) (T : Tl) (O : Ow) (r p : Nat) : Nat := sumL (labs S T) (f1 O p) r (8 * T.length)
def mnn (S : Su) (T : Tl) (O : Ow) (r : Nat) : Nat := sumL (labs S T) (mw O) r (8 * T.length)
def fin (S : Su) (T : Tl) (r : Nat) : Prop := ((kdp S T r = 1 ∨ kdp S T r = 2) ∧ opn S T r = 0) ∨ (kdp S T r = 4 ∧ ac T (tc T (r / 8)) = 8)
def has (S : Su) (T : Tl) (O : Ow) (r : Nat) : Prop := ∃ x, x < 8 * T.length ∧ labs S T x = r ∧ O x ≠ none
def frst (S : Su) (T : Tl) (O : Ow) (np r p : Nat) : Prop := 0 < fl S T O r p ∧ ∀ q, q < np → fl S T O r q ≤ fl S T O r p
def wor (S : Su) (T : Tl) (r : Nat) : Nat := if kdp S T r = 1 then 2 * (tcn S T r + shn S T r) else if kdp S T r = 2 then tcn S T r else 9
/-- owners, points, followers left, changes, sum -/
abbrev Pz : Type := Ow × (Nat → Nat) × (Nat → Nat) × Nat × Nat
def zO (z : Pz) : Ow := z.1
def zP (z : Pz) : Nat → Nat := z.2.1
def zF (z : Pz) : Nat → Nat := z.2.2.1
def zC (z : Pz) : Nat := z.2.2.2.1
def zS (z : Pz) : Nat := z.2.2.2.2
noncomputable def paid (S : Su) (T : Tl) (np r : Nat) (z : Pz) : Pz := (fun x => if labs S T x = r then none else zO z x, fun p => zP z p + ci (p < np ∧ frst S T (zO z) np r p) * wor S T r, fun p => zF z p + fl S T (zO z) r p, zC z + 1, zS z + sumN (fun p => ci (frst S T (zO z) np r p) * wor S T r) np)
noncomputable def score (S : Su) (T : Tl) (np r : Nat) (z : Pz) : Pz := @ite Pz (fin S T r ∧ has S T (zO z) r) (Classical.propDecidable _) (paid S T np r z) z
theorem score_t {S : Su} {T : Tl} {np r : Nat} {z : Pz} (h1 : fin S T r) (h2 : has S T (zO z) r) : score S T np r z = paid S T np r z := by unfold score; exact if_pos ⟨h1, h2⟩
theorem score_f {S : Su} {T : Tl} {np r : Nat} {z : Pz} (h : ¬ (fin S T r ∧ has S T (zO z) r)) : score S T np r z = z := by unfold score; exact if_neg h
def itr (f : Nat → Pz → Pz) : Nat → Pz → Pz
  | 0, z => z
  | n + 1, z => f n (itr f n z)
/-- the cloisters on the tile at a cell -/
noncomputable def cloA (S : Su) (T : Tl) (np q : Nat) (z : Pz) : Pz := match ta T q with
  | none => z
  | some o => itr (fun j z => if kdp S T (8 * o + j) = 4 then score S T np (8 * o + j) z else z) 8 z
noncomputable def setl (S : Su) (T : Tl) (np : Nat) (z : Pz) : Pz := itr (fun i => cloA S T np (nn (tc T (T.length - 1)) i)) 8 (itr (fun j => score S T np (labs S T (8 * (T.length - 1) + j))) 8 z)
/-- the followers in a region, player by player -/
theorem mnn_fl {S : Su} {T : Tl} {O : Ow} (h : ∀ x p, O x = some p → p < 3) (r : Nat) : mnn S T O r = fl S T O r 0 + 16 * fl S T O r 1 + 256 * fl S T O r 2 := by
  have e : ∀ x, mw O x = f1 O 0 x + (16 * f1 O 1 x + 256 * f1 O 2 x) := by
    intro x
    unfold mw f1
    cases hx : O x with
    | none => simp
    | some p =>
      have := h x p hx
      have hp : p = 0 ∨ p = 1 ∨ p = 2 := by omega
      rcases hp with rfl | rfl | rfl <;> simp
  have mulL : ∀ (k p : Nat), sumL (labs S T) (fun x => k * f1 O p x) r (8 * T.length) = k * fl S T O r p := by
    intro k p
    unfold fl sumL
    generalize 8 * T.length = N
    induction N with
    | zero => rfl
    | succ N ih =>
      show _ + _ = k * (_ + _)
      rw [ih, Nat.mul_add]
      congr 1
      show (if labs S T N = r then k * f1 O p N else 0) = k * (if labs S T N = r then f1 O p N else 0)
      by_cases hc : labs S T N = r
      · rw [if_pos hc, if_pos hc]
      · rw [if_neg hc, if_neg hc]; rfl
  unfold mnn
  rw [sumL_congr (lab2 := labs S T) (w2 := fun x => f1 O 0 x + (16 * f1 O 1 x + 256 * f1 O 2 x)) (fun _ _ => rfl) (fun x _ => e x), sumL_add, sumL_add, mulL, mulL, Nat.add_assoc]
  rfl
theorem sumN_pos {f : Nat → Nat} {n : Nat} : 0 < sumN f n ↔ ∃ p, p < n ∧ 0 < f p := by
  induction n with
  | zero => exact ⟨fun h => absurd h (by show ¬ (0 < 0); omega), fun ⟨p, h, _⟩ => by omega⟩
  | succ n ih =>
    show 0 < sumN f n + f n ↔ _
    constructor
    · intro h
      by_cases h1 : 0 < sumN f n
      · obtain ⟨p, a, b⟩ := ih.mp h1; exact ⟨p, by omega, b⟩
      · exact ⟨n, by omega, by omega⟩
    · rintro ⟨p, a, b⟩
      by_cases hp : p = n
      · subst hp; omega
      · have := ih.mpr ⟨p, by omega, b⟩; omega
theorem fl_pos {S : Su} {T : Tl} {O : Ow} {r p : Nat} : 0 < fl S T O r p ↔ ∃ x, x < 8 * T.length ∧ labs S T x = r ∧ O x = some p := by
  unfold fl sumL
  rw [sumN_pos]
  constructor
  · rintro ⟨x, h1, h2⟩
    by_cases hc : labs S T x = r
    · rw [if_pos hc] at h2
      unfold f1 at h2
      by_cases ho : O x = some p
      · exact ⟨x, h1, hc, ho⟩
      · rw [if_neg ho] at h2; omega
    · rw [if_neg hc] at h2; omega
  · rintro ⟨x, h1, h2, h3⟩
    refine ⟨x, h1, ?_⟩
    rw [if_pos h2]
    unfold f1
    rw [if_pos h3]
    exact Nat.one_pos
theorem has_fl {S : Su} {T : Tl} {O : Ow} {np r : Nat} (h : ∀ x p, O x = some p → p < np) : has S T O r ↔ ∃ p, p < np ∧ 0 < fl S T O r p := by
  constructor
  · rintro ⟨x, h1, h2, h3⟩
    cases hx : O x with
    | none => exact absurd hx h3
    | some p => exact ⟨p, h x p hx, fl_pos.mpr ⟨x, h1, h2, hx⟩⟩
  · rintro ⟨p, h1, h2⟩
    obtain ⟨x, a, b, c⟩ := fl_pos.mp h2
    exact ⟨x, a, b, by rw [c]; exact fun e => by cases e⟩
theorem fl_zero {S : Su} {T : Tl} {O : Ow} {np r p : Nat} (h : ∀ x p, O x = some p → p < np) (hp : np ≤ p) : fl S T O r p = 0 := by
  by_cases c : 0 < fl S T O r p
  · obtain ⟨x, _, _, e⟩ := fl_pos.mp c
    have := h x p e
    omega
  · omega

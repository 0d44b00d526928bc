/-! The game as mathematics: setup, tiles, cells. A cell is a number q = 21 * row + column, with rows and columns 0 .. 20; places are those with 1 .. 19. -/
abbrev Su : Type := Nat × List Nat × (Nat → Nat → Nat) × (Nat → Nat → Nat) × (Nat → Nat → Nat) × (Nat → Nat → Nat)
def sN (S : Su) : Nat := S.1
def sL (S : Su) : List Nat := S.2.1
def sP (S : Su) : Nat → Nat → Nat := S.2.2.1
def sK (S : Su) : Nat → Nat → Nat := S.2.2.2.1
def sH (S : Su) : Nat → Nat → Nat := S.2.2.2.2.1
def sT (S : Su) : Nat → Nat → Nat := S.2.2.2.2.2
/-- how many of the first n slots of a type are a part's -/
def sCn (S : Su) (t k : Nat) : Nat → Nat
  | 0 => 0
  | n + 1 => sCn S t k n + (if sP S t n = k then 1 else 0)
def wfT (S : Su) (t : Nat) : Prop :=
  (∀ s, s < 12 → sP S t s < 8 ∧ 1 ≤ sK S t (sP S t s) ∧ sK S t (sP S t s) ≤ 3) ∧ (∀ k, k < 8 → sK S t k ≤ 4 ∧ sH S t k ≤ 1 ∧ sT S t k < 256) ∧
  (∀ q, q < 4 → (sK S t (sP S t (3 * q + 1)) = 2 ∧ sK S t (sP S t (3 * q)) = 3 ∧ sK S t (sP S t (3 * q + 2)) = 3) ∨ (sK S t (sP S t (3 * q + 1)) ≠ 2 ∧ sP S t (3 * q) = sP S t (3 * q + 1) ∧ sP S t (3 * q + 2) = sP S t (3 * q + 1))) ∧
  (∀ k j, k < 8 → j < 8 → sK S t k = 4 → sK S t j = 4 → k = j) ∧ (∀ k, k < 8 → (sT S t k = 0 ∨ sK S t k = 3) ∧ ∀ o, o < 8 → sT S t k / 2 ^ o % 2 = 1 → sK S t o = 1)
def wfS (S : Su) : Prop := sN S ≤ 12 ∧ (sL S).length ≤ 24 ∧ (∀ i, i < (sL S).length → (sL S).getD i 0 < sN S) ∧ ∀ t, t < sN S → wfT S t
/-- tiles: cell, type, turn -/
abbrev Tl : Type := List (Nat × Nat × Nat)
def tc (T : Tl) (t : Nat) : Nat := (T.getD t (0, 0, 0)).1
def ty (T : Tl) (t : Nat) : Nat := (T.getD t (0, 0, 0)).2.1
def tu (T : Tl) (t : Nat) : Nat := (T.getD t (0, 0, 0)).2.2
def ta (T : Tl) (q : Nat) : Option Nat := T.findIdx? (fun x => x.1 == q)
def atv (T : Tl) (q : Nat) : Int32 := match ta T q with
  | none => -1
  | some t => nI t
def inb (q : Nat) : Prop := 1 ≤ q % 21 ∧ q % 21 ≤ 19 ∧ 1 ≤ q / 21 ∧ q / 21 ≤ 19
def nb (q d : Nat) : Nat := if d = 0 then q - 21 else if d = 1 then q + 1 else if d = 2 then q + 21 else q - 1
def wfTl (S : Su) (T : Tl) : Prop := T.length ≤ 24 ∧ (∀ t, t < T.length → ty T t < sN S ∧ tu T t < 4 ∧ inb (tc T t)) ∧ ∀ t o, t < T.length → o < T.length → tc T t = tc T o → t = o
/-- the part at a slot of a tile of a type, turned -/
def pu (S : Su) (k u s : Nat) : Nat := sP S k ((s + 12 - 3 * u) % 12)
def pp (S : Su) (T : Tl) (t s : Nat) : Nat := pu S (ty T t) (tu T t) s
def op (s : Nat) : Nat := if s < 3 ∨ (5 < s ∧ s < 9) then 8 - s else 14 - s
/-- the kind in the middle of a side -/
def ms (S : Su) (k u d : Nat) : Nat := sK S k (pu S k u (3 * d + 1))
/-- a tile of type k with turn u fits at q -/
def fit (S : Su) (T : Tl) (k q u : Nat) : Prop := inb q ∧ ta T q = none ∧ ((T = [] ∧ q = 220) ∨ ∃ d, d < 4 ∧ ta T (nb q d) ≠ none) ∧ ∀ d o, d < 4 → ta T (nb q d) = some o → ms S k u d = ms S (ty T o) (tu T o) ((d + 2) % 4)
theorem op_lt {s : Nat} (h : s < 12) : op s < 12 := by unfold op; by_cases h1 : s < 3 ∨ (5 < s ∧ s < 9) <;> simp [h1] <;> omega
theorem op_x : ∀ s, s < 12 → ((s / 3 + 2) % 4) * 3 + 2 - s % 3 = op s := by decide
theorem ta_some {T : Tl} {q t : Nat} (h : ta T q = some t) : t < T.length ∧ tc T t = q := by
  unfold ta at h
  obtain ⟨h1, h2, -⟩ := List.findIdx?_eq_some_iff_getElem.mp h
  refine ⟨h1, ?_⟩
  have e : T.getD t (0, 0, 0) = T[t] := by simp [List.getD, h1]
  unfold tc
  rw [e]
  simpa using h2
theorem ta_at {S : Su} {T : Tl} (hw : wfTl S T) {t : Nat} (ht : t < T.length) : ta T (tc T t) = some t := by
  cases h : ta T (tc T t) with
  | none =>
    unfold ta at h
    rw [List.findIdx?_eq_none_iff] at h
    have e : T.getD t (0, 0, 0) = T[t] := by simp [List.getD, ht]
    have h1 := h T[t] (List.getElem_mem ht)
    unfold tc at h1
    rw [e] at h1
    simp at h1
  | some o =>
    obtain ⟨h1, h2⟩ := ta_some h
    rw [hw.2.2 o t h1 ht h2]
theorem ta_none {T : Tl} {q : Nat} (h : ta T q = none) {t : Nat} (ht : t < T.length) : tc T t ≠ q := by
  unfold ta at h
  rw [List.findIdx?_eq_none_iff] at h
  have e : T.getD t (0, 0, 0) = T[t] := by simp [List.getD, ht]
  have h1 := h T[t] (List.getElem_mem ht)
  unfold tc
  rw [e]
  simpa using h1
theorem ta_snoc (T : Tl) (x : Nat × Nat × Nat) (q : Nat) : ta (T ++ [x]) q = match ta T q with
    | some t => some t
    | none => if x.1 = q then some T.length else none := by
  unfold ta
  rw [List.findIdx?_append]
  cases h : T.findIdx? (fun x => x.1 == q) with
  | some t => rfl
  | none =>
    by_cases hx : x.1 = q
    · simp [List.findIdx?_cons, hx]
    · simp [List.findIdx?_cons, hx]
theorem atv_some {T : Tl} {q t : Nat} (h : ta T q = some t) : atv T q = nI t := by unfold atv; rw [h]
theorem atv_none {T : Tl} {q : Nat} (h : ta T q = none) : atv T q = -1 := by unfold atv; rw [h]

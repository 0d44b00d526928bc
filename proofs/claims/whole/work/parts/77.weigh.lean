/-! What a new tile does to the counts of open slots. -/
theorem sumN_swap (f : Nat → Nat → Nat) (n m : Nat) : sumN (fun i => sumN (fun j => f i j) m) n = sumN (fun j => sumN (fun i => f i j) n) m := by
  induction n with
  | zero => exact (sumN_zero (fun _ _ => rfl)).symm
  | succ n ih =>
    show sumN (fun i => sumN (fun j => f i j) m) n + sumN (fun j => f n j) m = sumN (fun j => sumN (fun i => f i j) n + f n j) m
    rw [ih, sumN_add]
theorem sumN_pick {n a : Nat} (h : a < n) (v : Nat → Nat) : sumN (fun p => if p = a then v p else 0) n = v a := by
  have := sumN_one (f := fun _ => 0) (g := fun p => if p = a then v p else 0) (d := v a) h (by simp) (fun p _ hp => by simp [hp])
  rw [this, sumN_zero (fun _ _ => rfl), Nat.zero_add]
theorem sumL_add {lab f g : Nat → Nat} {r N : Nat} : sumL lab (fun p => f p + g p) r N = sumL lab f r N + sumL lab g r N := by
  unfold sumL
  rw [← sumN_add]
  apply sumN_congr
  intro p _
  by_cases h : lab p = r
  · rw [if_pos h, if_pos h, if_pos h]
  · rw [if_neg h, if_neg h, if_neg h]
theorem sumL_sum {lab : Nat → Nat} {h : Nat → Nat → Nat} {r N m : Nat} : sumL lab (fun p => sumN (fun s => h s p) m) r N = sumN (fun s => sumL lab (h s) r N) m := by
  unfold sumL
  rw [sumN_swap]
  apply sumN_congr
  intro p _
  by_cases hp : lab p = r
  · rw [if_pos hp]
    exact sumN_congr (fun s _ => by rw [if_pos hp])
  · rw [if_neg hp]
    exact (sumN_zero (fun s _ => by rw [if_neg hp])).symm
theorem sumL_pick {lab : Nat → Nat} {a r N : Nat} (h : a < N) : sumL lab (fun p => if p = a then 1 else 0) r N = if r = lab a then 1 else 0 := by
  unfold sumL
  have e : sumN (fun p => if lab p = r then (if p = a then 1 else 0) else 0) N = sumN (fun p => if p = a then (if r = lab p then 1 else 0) else 0) N := by
    apply sumN_congr
    intro p _
    by_cases hp : lab p = r
    · rw [if_pos hp, if_pos hp.symm]
    · have hp2 : ¬ r = lab p := fun e => hp e.symm
      rw [if_neg hp, if_neg hp2]
      by_cases hq : p = a
      · rw [if_pos hq]
      · rw [if_neg hq]
  rw [e, sumN_pick h]
theorem sum12 (f : Nat → Nat) : sumN f 12 = f 0 + f 1 + f 2 + f 3 + f 4 + f 5 + f 6 + f 7 + f 8 + f 9 + f 10 + f 11 := by
  show 0 + f 0 + f 1 + f 2 + f 3 + f 4 + f 5 + f 6 + f 7 + f 8 + f 9 + f 10 + f 11 = _
  omega
theorem sum_op (f : Nat → Nat) : sumN (fun s => f (op s)) 12 = sumN f 12 := by
  rw [sum12, sum12]
  show f 8 + f 7 + f 6 + f 11 + f 10 + f 9 + f 2 + f 1 + f 0 + f 5 + f 4 + f 3 = _
  omega
theorem sum_turn (f : Nat → Nat) {u : Nat} (hu : u < 4) : sumN (fun s => f ((s + 12 - 3 * u) % 12)) 12 = sumN f 12 := by
  rw [sum12, sum12]
  have hh : u = 0 ∨ u = 1 ∨ u = 2 ∨ u = 3 := by omega
  rcases hh with rfl | rfl | rfl | rfl
  · show f 0 + f 1 + f 2 + f 3 + f 4 + f 5 + f 6 + f 7 + f 8 + f 9 + f 10 + f 11 = _
    rfl
  · show f 9 + f 10 + f 11 + f 0 + f 1 + f 2 + f 3 + f 4 + f 5 + f 6 + f 7 + f 8 = _
    omega
  · show f 6 + f 7 + f 8 + f 9 + f 10 + f 11 + f 0 + f 1 + f 2 + f 3 + f 4 + f 5 = _
    omega
  · show f 3 + f 4 + f 5 + f 6 + f 7 + f 8 + f 9 + f 10 + f 11 + f 0 + f 1 + f 2 = _
    omega
theorem sCn_sum (S : Su) (t k n : Nat) : sCn S t k n = sumN (fun s => if sP S t s = k then 1 else 0) n := by
  induction n with
  | zero => rfl
  | succ n ih =>
    show sCn S t k n + _ = sumN _ n + _
    rw [ih]
theorem sCn_turn {S : Su} {t k u : Nat} (hu : u < 4) : sumN (fun s => if pu S t u s = k then 1 else 0) 12 = sCn S t k 12 := by
  rw [sCn_sum]
  exact sum_turn (fun s => if sP S t s = k then 1 else 0) hu
/-- weights of a piece: shields, open slots -/
def shw (S : Su) (T : Tl) (p : Nat) : Nat := sH S (ty T (p / 8)) (p % 8)
def ops (S : Su) (T : Tl) (t j s : Nat) : Nat := if pp S T t s = j ∧ ta T (nb (tc T t) (s / 3)) = none then 1 else 0
def opw (S : Su) (T : Tl) (p : Nat) : Nat := sumN (ops S T (p / 8) (p % 8)) 12
/-- what the slot s of the new tile shuts at a piece -/
def shs (S : Su) (T : Tl) (n s p : Nat) : Nat := match ta T (nb (tc T n) (s / 3)) with
  | none => 0
  | some o => (if p = 8 * n + pp S T n s then 1 else 0) + (if p = 8 * o + pp S T o (op s) then 1 else 0)
theorem nb_ne {q d : Nat} (hq : inb q) : nb q d ≠ q := by
  obtain ⟨q1, q2, q3, q4⟩ := hq
  unfold nb
  repeat' split
  all_goals omega
theorem ta_new {T : Tl} {x : Nat × Nat × Nat} (h : ta T x.1 = none) {q o : Nat} : ta (T ++ [x]) q = some o ↔ (ta T q = some o ∨ (x.1 = q ∧ o = T.length)) := by
  rw [ta_snoc]
  cases e : ta T q with
  | some t =>
    constructor
    · intro g; exact Or.inl g
    · rintro (g | ⟨g1, g2⟩)
      · exact g
      · rw [g1] at h; rw [h] at e; cases e
  | none =>
    by_cases hx : x.1 = q
    · simp [hx, eq_comm]
    · simp [hx]
theorem ta_newN {T : Tl} {x : Nat × Nat × Nat} {q : Nat} : ta (T ++ [x]) q = none ↔ (ta T q = none ∧ x.1 ≠ q) := by
  rw [ta_snoc]
  cases e : ta T q with
  | some t => simp
  | none =>
    by_cases hx : x.1 = q
    · simp [hx]
    · simp [hx]
theorem sum_oldnew {S : Su} {T : Tl} {x : Nat × Nat × Nat} (hw : wfS S) (hwt : wfTl S (T ++ [x])) (hx : ta T x.1 = none) (p : Nat) (hp : p < 8 * (T.length + 1)) : (if p < 8 * T.length then opw S T p else sCn S x.2.1 (p - 8 * T.length) 12) = opw S (T ++ [x]) p + sumN (fun s => shs S (T ++ [x]) T.length s p) 12 := by
  have hl : (T ++ [x]).length = T.length + 1 := by simp
  have hnl : T.length < (T ++ [x]).length := by omega
  have hin := (hwt.2.1 _ hnl).2.2
  have hu4 := (hwt.2.1 _ hnl).2.1
  obtain ⟨x1, x2, x3⟩ := snoc_eq (T := T) (x := x)
  rw [x1] at hin
  rw [x3] at hu4
  unfold opw
  rw [← sumN_add]
  by_cases hc : p < 8 * T.length
  · rw [if_pos hc]
    have ht : p / 8 < T.length := by omega
    have ht2 : p / 8 < (T ++ [x]).length := by omega
    obtain ⟨y1, y2, y3⟩ := snoc_lt (x := x) ht
    have hint := (hwt.2.1 _ ht2).2.2
    rw [y1] at hint
    have e1 : sumN (fun s => ops S (T ++ [x]) (p / 8) (p % 8) s + shs S (T ++ [x]) T.length s p) 12 = sumN (fun s => ops S (T ++ [x]) (p / 8) (p % 8) s) 12 + sumN (fun s => if pp S T (p / 8) (op s) = p % 8 ∧ nb (tc T (p / 8)) (op s / 3) = x.1 then 1 else 0) 12 := by
      rw [sumN_add]
      congr 1
      apply sumN_congr
      intro s hs
      unfold shs
      rw [x1]
      have hback : nb (tc T (p / 8)) (op s / 3) = x.1 ↔ ta (T ++ [x]) (nb x.1 (s / 3)) = some (p / 8) := by
        rw [op_div s hs]
        constructor
        · intro g
          have h1 : nb x.1 (s / 3) = tc T (p / 8) := by
            have h2 := nb_back hint (show (s / 3 + 2) % 4 < 4 by omega)
            rw [g, show ((s / 3 + 2) % 4 + 2) % 4 = s / 3 by omega] at h2
            exact h2
          rw [h1, ← y1]
          exact ta_at hwt ht2
        · intro g
          obtain ⟨-, g2⟩ := ta_some g
          rw [y1] at g2
          rw [g2]
          exact nb_back hin (by omega)
      cases e : ta (T ++ [x]) (nb x.1 (s / 3)) with
      | none =>
        show 0 = _
        rw [if_neg (show ¬ (pp S T (p / 8) (op s) = p % 8 ∧ nb (tc T (p / 8)) (op s / 3) = x.1) from fun g => by have := hback.mp g.2; rw [e] at this; cases this)]
      | some o =>
        rw [e] at hback
        obtain ⟨ho, -⟩ := ta_some e
        have hpo := pp_lt hw hwt (s := op s) ho
        show (if p = 8 * T.length + pp S (T ++ [x]) T.length s then 1 else 0) + (if p = 8 * o + pp S (T ++ [x]) o (op s) then 1 else 0) = _
        rw [if_neg (by omega), Nat.zero_add]
        by_cases hop : o = p / 8
        · subst hop
          rw [snoc_pp ht] at hpo ⊢
          by_cases hpp : pp S T (p / 8) (op s) = p % 8
          · rw [if_pos (by omega), if_pos ⟨hpp, hback.mpr rfl⟩]
          · rw [if_neg (by omega), if_neg (fun g => hpp g.1)]
        · rw [if_neg (by omega), if_neg (fun g => hop (Option.some.inj (hback.mp g.2)))]
    rw [e1, sum_op (fun s => if pp S T (p / 8) s = p % 8 ∧ nb (tc T (p / 8)) (s / 3) = x.1 then 1 else 0), ← sumN_add]
    apply sumN_congr
    intro s hs
    unfold ops
    rw [snoc_pp ht, y1]
    by_cases c1 : pp S T (p / 8) s = p % 8
    · by_cases c2 : ta T (nb (tc T (p / 8)) (s / 3)) = none
      · by_cases c3 : nb (tc T (p / 8)) (s / 3) = x.1
        · rw [if_pos ⟨c1, c2⟩, if_neg (fun g => (ta_newN.mp g.2).2 c3.symm), if_pos ⟨c1, c3⟩]
        · rw [if_pos ⟨c1, c2⟩, if_pos ⟨c1, ta_newN.mpr ⟨c2, fun e => c3 e.symm⟩⟩, if_neg (fun g => c3 g.2)]
      · rw [if_neg (fun g => c2 g.2), if_neg (fun g => c2 (ta_newN.mp g.2).1), if_neg (fun g => by rw [g.2] at c2; exact c2 hx)]
    · rw [if_neg (fun g => c1 g.1), if_neg (fun g => c1 g.1), if_neg (fun g => c1 g.1)]
  · rw [if_neg hc]
    have hp8 : p / 8 = T.length := by omega
    rw [hp8, ← sCn_turn hu4]
    apply sumN_congr
    intro s hs
    unfold ops shs
    rw [x1]
    have epp : pp S (T ++ [x]) T.length s = pu S x.2.1 x.2.2 s := by unfold pp; rw [x2, x3]
    rw [epp, show p % 8 = p - 8 * T.length by omega]
    cases e : ta (T ++ [x]) (nb x.1 (s / 3)) with
    | none =>
      by_cases c1 : pu S x.2.1 x.2.2 s = p - 8 * T.length
      · rw [if_pos c1, if_pos ⟨c1, rfl⟩]; rfl
      · rw [if_neg c1, if_neg (fun g => c1 g.1)]; rfl
    | some o =>
      have ho : o < T.length := by
        rcases (ta_new hx).mp e with g | ⟨g, -⟩
        · exact (ta_some g).1
        · exact absurd g.symm (nb_ne hin)
      have hpo := pp_lt hw hwt (s := op s) (show o < (T ++ [x]).length by omega)
      show _ = _ + ((if p = 8 * T.length + pu S x.2.1 x.2.2 s then 1 else 0) + (if p = 8 * o + pp S (T ++ [x]) o (op s) then 1 else 0))
      rw [if_neg (show ¬ (pu S x.2.1 x.2.2 s = p - 8 * T.length ∧ (some o : Option Nat) = none) from fun g => by cases g.2), if_neg (show ¬ p = 8 * o + pp S (T ++ [x]) o (op s) by omega)]
      by_cases c1 : pu S x.2.1 x.2.2 s = p - 8 * T.length
      · rw [if_pos c1, if_pos (by omega)]
      · rw [if_neg c1, if_neg (by omega)]
/-- over a region: counts before = counts after and what was shut -/
theorem sumL_shut {S : Su} {T : Tl} {x : Nat × Nat × Nat} {lab : Nat → Nat} (hw : wfS S) (hwt : wfTl S (T ++ [x])) (hx : ta T x.1 = none) (hid : ∀ p, 8 * T.length ≤ p → lab p = p) (r : Nat) : sumL lab (fun p => if p < 8 * T.length then opw S T p else sCn S x.2.1 (p - 8 * T.length) 12) r (8 * (T.length + 1)) = sumL lab (opw S (T ++ [x])) r (8 * (T.length + 1)) + od S (T ++ [x]) T.length lab 12 r := by
  have hl : (T ++ [x]).length = T.length + 1 := by simp
  rw [sumL_congr (lab2 := lab) (w2 := fun p => opw S (T ++ [x]) p + sumN (fun s => shs S (T ++ [x]) T.length s p) 12) (fun _ _ => rfl) (fun p hp => sum_oldnew hw hwt hx p hp), sumL_add, sumL_sum]
  congr 1
  unfold od
  apply sumN_congr
  intro s hs
  have p1 := pp_lt hw hwt (s := s) (show T.length < (T ++ [x]).length by omega)
  cases e : ta (T ++ [x]) (nb (tc (T ++ [x]) T.length) (s / 3)) with
  | none =>
    rw [oa_none e]
    unfold sumL
    exact sumN_zero (fun p _ => by unfold shs; rw [e]; simp)
  | some o =>
    obtain ⟨ho, -⟩ := ta_some e
    have p2 := pp_lt hw hwt (s := op s) ho
    rw [oa_some e]
    have e2 : shs S (T ++ [x]) T.length s = fun p => (if p = 8 * T.length + pp S (T ++ [x]) T.length s then 1 else 0) + (if p = 8 * o + pp S (T ++ [x]) o (op s) then 1 else 0) := by
      funext p
      unfold shs
      rw [e]
    rw [e2, sumL_add, sumL_pick (by omega), sumL_pick (by omega), hid _ (by omega)]

/-! How the two memories hold setup and tiles. -/
def SX (M : Me) (S : Su) : Prop := M 1 8 = nI (sN S) ∧ M 1 9 = nI (sL S).length ∧ (∀ i, i < (sL S).length → M 16 i = nI ((sL S).getD i 0)) ∧ (∀ t s, t < sN S → s < 12 → M 9 (t * 12 + s) = nI (sP S t s)) ∧
  (∀ t k, t < sN S → k < 8 → M 11 (t * 8 + k) = nI (sK S t k) ∧ M 12 (t * 8 + k) = nI (sH S t k) ∧ M 13 (t * 8 + k) = nI (sT S t k) ∧ M 14 (t * 8 + k) = nI (sCn S t k 12)) ∧
  (∀ t d, t < sN S → d < 4 → M 10 (t * 4 + d) = nI (sK S t (sP S t (3 * d + 1)))) ∧ ∀ t, t < sN S → (∀ k, k < 8 → sK S t k = 4 → M 15 t = nI k) ∧ ((∀ k, k < 8 → sK S t k ≠ 4) → M 15 t = -1)
def SY (M : Me) (S : Su) : Prop := M 0 0 = nI (sN S) ∧ M 0 5 = nI (sL S).length ∧ (∀ i, i < (sL S).length → M 5 i = nI ((sL S).getD i 0)) ∧ (∀ t s, t < sN S → s < 12 → M 1 (12 * t + s) = nI (sP S t s)) ∧
  ∀ t k, t < sN S → k < 8 → M 2 (8 * t + k) = nI (sK S t k) ∧ M 3 (8 * t + k) = nI (sH S t k) ∧ M 4 (8 * t + k) = nI (sT S t k)
/-- is there a tile -/
def ct (T : Tl) (q : Nat) : Nat := if (ta T q).isSome then 1 else 0
def nc (T : Tl) (q : Nat) : Nat := ct T (q - 21) + ct T (q + 1) + ct T (q + 21) + ct T (q - 1)
def ac (T : Tl) (q : Nat) : Nat := ct T (q - 22) + ct T (q - 21) + ct T (q - 20) + ct T (q - 1) + ct T (q + 1) + ct T (q + 20) + ct T (q + 21) + ct T (q + 22)
def nearB (q : Nat) : Int32 := if 1 ≤ q % 21 ∧ q % 21 ≤ 19 ∧ 1 ≤ q / 21 ∧ q / 21 ≤ 19 then (if q = 220 then 1 else 0) else -4
def XT (M : Me) (T : Tl) : Prop := M 2 9 = nI T.length ∧ (∀ t, t < T.length → M 20 t = nI (tc T t) ∧ M 21 t = nI (ty T t) ∧ M 22 t = nI (tu T t)) ∧ (∀ q, q < 441 → M 17 q = atv T q) ∧ True
def XN (M : Me) (T : Tl) : Prop := (∀ q, q < 441 → M 18 q = nearB q + nI (nc T q)) ∧ ∀ q, q < 441 → M 19 q = nI (ac T q)
/-- a coordinate -/
def co (n : Nat) : Int32 := nI n - nI 10
def YT (M : Me) (T : Tl) : Prop := M 0 9 = nI T.length ∧ (∀ t, t < T.length → M 6 t = co (tc T t % 21) ∧ M 7 t = co (tc T t / 21) ∧ M 8 t = nI (ty T t) ∧ M 9 t = nI (tu T t)) ∧ ∀ q, inb q → M 10 (19 * (q / 21) + q % 21 - 20) = atv T q
theorem co_lo : ∀ n, n < 21 → (co n < (-9) ↔ n < 1) := by decide +kernel
theorem co_hi : ∀ n, n < 21 → (9 < co n ↔ 19 < n) := by decide +kernel
theorem co_up : ∀ n, n < 20 → co n + 1 = co (n + 1) := by decide +kernel
theorem co_dn : ∀ n, n < 20 → co (n + 1) - 1 = co n := by decide +kernel
set_option maxRecDepth 100000 in
theorem co_ix : ∀ x, x < 21 → ∀ y, y < 21 → 1 ≤ x → 1 ≤ y → ((19 * co y) + co x) + 180 = nI (19 * y + x - 20) := by decide +kernel
theorem ta_rim {S : Su} {T : Tl} (hw : wfTl S T) {q : Nat} (h : ¬ inb q) : ta T q = none := by
  cases e : ta T q with
  | none => rfl
  | some t =>
    obtain ⟨h1, h2⟩ := ta_some e
    exact absurd (h2 ▸ (hw.2.1 t h1).2.2) h
theorem y_isPlace {x y : Nat} (hx : x < 21) (hy : y < 21) (M : Me) : (1 ≤ x ∧ x ≤ 19 ∧ 1 ≤ y ∧ y ≤ 19 → qf_X7_isPlace (co x) (co y) M = some (1, M)) ∧ (¬ (1 ≤ x ∧ x ≤ 19 ∧ 1 ≤ y ∧ y ≤ 19) → qf_X7_isPlace (co x) (co y) M = some (0, M)) := by
  have a1 := co_lo x hx
  have a2 := co_hi x hx
  have b1 := co_lo y hy
  have b2 := co_hi y hy
  unfold qf_X7_isPlace
  refine ⟨fun h => ?_, fun h => ?_⟩
  · rw [if_neg (fun q => by have := a1.mp q; omega), if_neg (fun q => by have := a2.mp q; omega), if_neg (fun q => by have := b1.mp q; omega), if_neg (fun q => by have := b2.mp q; omega)]
    rfl
  · by_cases c1 : co x < (-9)
    · rw [if_pos c1]; rfl
    · by_cases c2 : 9 < co x
      · rw [if_neg c1, if_pos c2]; rfl
      · by_cases c3 : co y < (-9)
        · rw [if_neg c1, if_neg c2, if_pos c3]; rfl
        · by_cases c4 : 9 < co y
          · rw [if_neg c1, if_neg c2, if_neg c3, if_pos c4]; rfl
          · exfalso
            have d1 : ¬ x < 1 := fun q => c1 (a1.mpr q)
            have d2 : ¬ 19 < x := fun q => c2 (a2.mpr q)
            have d3 : ¬ y < 1 := fun q => c3 (b1.mpr q)
            have d4 : ¬ 19 < y := fun q => c4 (b2.mpr q)
            omega
theorem y_tileAt {S : Su} {T : Tl} (hw : wfTl S T) {M : Me} (hY : YT M T) {x y : Nat} (hx : x < 21) (hy : y < 21) : qf_X7_tileAt (co x) (co y) M = some (atv T (21 * y + x), M) := by
  unfold qf_X7_tileAt
  have e1 : (21 * y + x) % 21 = x := by omega
  have e2 : (21 * y + x) / 21 = y := by omega
  by_cases h : 1 ≤ x ∧ x ≤ 19 ∧ 1 ≤ y ∧ y ≤ 19
  · have hi : inb (21 * y + x) := by unfold inb; rw [e1, e2]; exact ⟨h.1, h.2.1, h.2.2.1, h.2.2.2⟩
    have hb := hY.2.2 _ hi
    rw [e1, e2] at hb
    rw [(y_isPlace hx hy M).1 h, n_cl, if_neg (by decide), co_ix x hx y hy h.1 h.2.2.1, n_ld (by omega) (by decide), hb]
  · have hi : ¬ inb (21 * y + x) := by unfold inb; rw [e1, e2]; exact h
    rw [(y_isPlace hx hy M).2 h, n_cl, if_pos rfl, atv_none (ta_rim hw hi)]
theorem y_opp {s : Nat} (hs : s < 12) (M : Me) : qf_X7_opposite (nI s) M = some (nI (op s), M) := by
  have h : ∀ s, s < 12 → (8 : Int32) - nI s = nI (8 - s) ∨ 8 < s := by decide
  unfold qf_X7_opposite qb_X7_opposite_16 qb_X7_opposite_23 op
  rw [kn_3, i_lt (by omega) (by decide), kn_5, i_le (by omega) (by decide), kn_9, i_le (by decide) (by omega), kn_8, kn_14]
  by_cases c1 : s < 3
  · rw [if_pos c1, if_pos (Or.inl c1), n_sub (by omega)]
  · rw [if_neg c1]
    by_cases c2 : s ≤ 5
    · rw [if_pos c2, if_neg (by omega), n_sub (by omega)]
    · rw [if_neg c2]
      by_cases c3 : 9 ≤ s
      · rw [if_pos c3, if_neg (by omega), n_sub (by omega)]
      · rw [if_neg c3, if_pos (by omega), n_sub (by omega)]
theorem x_opp {s : Nat} (hs : s < 12) (M : Me) : qf_X5_slotBeside (nI s) M = some (nI (op s), M) := by
  have h := op_x s hs
  unfold qf_X5_slotBeside
  simp (disch := omega) only [n_vv, kn_3, kn_2, kn_4, kn_1, n_div, n_add, n_mul, n_sub, nat_rem]
  rw [← h]
  congr 3
theorem pu_ix {u s : Nat} : (s + 12 - 3 * u) % 12 < 12 := Nat.mod_lt _ (by decide)
theorem y_partAt {S : Su} {M : Me} (hS : SY M S) (h12 : sN S ≤ 12) {k u s : Nat} (hk : k < sN S) (hu : u < 4) (hs : s < 12) : qf_X7_partAt (nI k) (nI u) (nI s) M = some (nI (pu S k u s), M) := by
  have hb := pu_ix (u := u) (s := s)
  have hv := hS.2.2.2.1 k _ hk hb
  unfold qf_X7_partAt
  simp (disch := omega) only [kn_12, kn_3, n_add, n_mul, n_sub, n_div, nat_rem, n_ld, hv]
  rfl
theorem pu_lt {S : Su} (hw : wfS S) {k u s : Nat} (hk : k < sN S) : pu S k u s < 8 := ((hw.2.2.2 k hk).1 _ pu_ix).1
theorem sK_le {S : Su} (hw : wfS S) {k j : Nat} (hk : k < sN S) (hj : j < 8) : sK S k j ≤ 4 := ((hw.2.2.2 k hk).2.1 j hj).1
theorem y_kindAt {S : Su} {T : Tl} {M : Me} (hw : wfS S) (hwt : wfTl S T) (hS : SY M S) (hY : YT M T) {t s : Nat} (ht : t < T.length) (hs : s < 12) : qf_X7_kindAt (nI t) (nI s) M = some (nI (sK S (ty T t) (pp S T t s)), M) := by
  have hT := hY.2.1 t ht
  have hw1 := hwt.2.1 t ht
  have h24 := hwt.1
  have h12 := hw.1
  have hp := pu_lt hw (u := tu T t) (s := s) hw1.1
  have hk := (hS.2.2.2.2 _ _ hw1.1 hp).1
  unfold qf_X7_kindAt
  rw [n_ld (by omega) (by decide), n_ld (by omega) (by decide), n_ld (by omega) (by decide), hT.2.2.1, hT.2.2.2, y_partAt hS h12 hw1.1 hw1.2.1 hs, n_cl, kn_8, n_mul, n_add, n_ld (by omega) (by decide), hk]
  rfl
theorem y_beside {S : Su} {T : Tl} (hw : wfTl S T) {M : Me} (hY : YT M T) {q s : Nat} (hq : inb q) (hs : s < 12) : qf_X7_beside (co (q % 21)) (co (q / 21)) (nI s) M = some (atv T (nb q (s / 3)), M) := by
  obtain ⟨q1, q2, q3, q4⟩ := hq
  have key : ∀ {x y : Nat}, x < 21 → y < 21 → 21 * y + x = nb q (s / 3) → qb_X7_beside_55 (co y) (co x) M = some (atv T (nb q (s / 3)), M) := by
    intro x y hx hy e
    unfold qb_X7_beside_55
    rw [y_tileAt hw hY hx hy, n_cl, e]
  unfold qf_X7_beside qb_X7_beside_31
  rw [kn_3, n_div (by omega) (by decide) (by decide), n_vv, kn_1, i_eq (by omega) (by decide), i_eq (by omega) (by decide), kn_2, i_eq (by omega) (by decide), show (if nI (s / 3) = 0 then _ else _ : Op) = if s / 3 = 0 then _ else _ from i_eq (b := 0) (by omega) (by decide), show (if nI (s / 3) = 0 then _ else _ : Op) = if s / 3 = 0 then _ else _ from i_eq (b := 0) (by omega) (by decide), show (if nI (s / 3) = 0 then _ else _ : Op) = if s / 3 = 0 then _ else _ from i_eq (b := 0) (by omega) (by decide)]
  have hd : s / 3 = 0 ∨ s / 3 = 1 ∨ s / 3 = 2 ∨ s / 3 = 3 := by omega
  have e1 : (nI 1 : Int32) = 1 := rfl
  rw [e1]
  rcases hd with d | d | d | d
  · rw [d, if_neg (by decide), if_neg (by decide), if_pos rfl]
    have := co_dn (q / 21 - 1) (by omega)
    rw [show q / 21 - 1 + 1 = q / 21 by omega] at this
    rw [this]
    exact (d ▸ key) (by omega) (by omega) (by unfold nb; simp; omega)
  · rw [d, if_pos rfl, if_neg (by decide), if_neg (by decide), co_up _ (by omega)]
    exact (d ▸ key) (by omega) (by omega) (by unfold nb; simp; omega)
  · rw [d, if_neg (by decide), if_neg (by decide), if_neg (by decide), if_pos rfl, co_up _ (by omega)]
    exact (d ▸ key) (by omega) (by omega) (by unfold nb; simp; omega)
  · rw [d, if_neg (by decide), if_pos rfl, if_neg (by decide), if_neg (by decide)]
    have := co_dn (q % 21 - 1) (by omega)
    rw [show q % 21 - 1 + 1 = q % 21 by omega] at this
    rw [this]
    exact (d ▸ key) (by omega) (by omega) (by unfold nb; simp; omega)

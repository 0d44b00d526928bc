/-! Slots that are shut or opened along a side: the same memory but for the counts of open slots. -/
def XU (M : Me) (N : Nat) (lab : Nat → Nat) : Prop := ∀ p, p < N → ∃ v, M 25 p = nI v ∧ v ≤ p ∧ lab v = lab p ∧ (v = p → lab p = p)
theorem x_rootU {M : Me} {N : Nat} {lab : Nat → Nat} (h : XU M N lab) (hN : N ≤ 192) : ∀ (m p n : Nat), p < m → p < N → p + n < 192 → rx_lp2 qo_X3_rootOf_4 m (nI p) (nI n) M = some (nI (lab p), M) := by
  intro m
  induction m with
  | zero => intro p n h; omega
  | succ m ih =>
    intro p n hm hp hn
    show qo_X3_rootOf_4 (rx_lp2 qo_X3_rootOf_4 m) (nI p) (nI n) M = _
    obtain ⟨v, h1, h2, h3, h4⟩ := h p hp
    generalize hrec : rx_lp2 qo_X3_rootOf_4 m = rec at ih ⊢
    unfold qo_X3_rootOf_4
    rw [kn_192, i_le (by decide) (by omega), if_neg (by omega), n_ld (by omega) (by decide), h1, i_eq (by omega) (by omega)]
    by_cases hv : v = p
    · rw [if_pos hv, h4 hv]
    · rw [if_neg hv, n_ld (by omega) (by decide), h1, n_vv, kn_1, n_add, ih v (n + 1) (by omega) (by omega) (by omega), h3]
theorem x_rootOfU {M : Me} {N : Nat} {lab : Nat → Nat} (h : XU M N lab) (hN : N ≤ 192) {p : Nat} (hp : p < N) : qf_X3_rootOf (nI p) M = some (nI (lab p), M) := x_rootU h hN rx_FU p 0 (fu_lt (by omega)) hp (by omega)
def opM (M : Me) (b : Int32) (g : Nat → Nat) : Me := fun c j => if c = 28 then M 28 j + nI (g j) * b else M c j
theorem op_st (M : Me) (b : Int32) (p : Nat) : rx_st M 28 p (M 28 p + b) = opM M b (fun r => if r = p then 1 else 0) := by
  funext c j
  unfold opM
  rw [st_get]
  by_cases hc : c = 28
  · subst hc
    rw [if_pos rfl]
    by_cases hj : j = p
    · subst hj
      rw [if_pos ⟨rfl, rfl⟩]
      show M 28 j + b = M 28 j + nI (if j = j then 1 else 0) * b
      rw [if_pos rfl]
      show M 28 j + b = M 28 j + 1 * b
      rw [Int32.one_mul]
    · rw [if_neg (fun h => hj h.2)]
      show M 28 j = M 28 j + nI (if j = p then 1 else 0) * b
      rw [if_neg hj]
      show M 28 j = M 28 j + 0 * b
      rw [Int32.zero_mul, Int32.add_zero]
  · rw [if_neg (fun h => hc h.1), if_neg hc]
theorem op_comp (M : Me) (b : Int32) (g h : Nat → Nat) : opM (opM M b g) b h = opM M b (fun r => g r + h r) := by
  funext c j
  unfold opM
  by_cases hc : c = 28
  · subst hc
    rw [if_pos rfl, if_pos rfl, if_pos rfl, ← n_add, Int32.add_mul, Int32.add_assoc]
  · rw [if_neg hc, if_neg hc, if_neg hc]
theorem op_zero (M : Me) (b : Int32) : opM M b (fun _ => 0) = M := by
  funext c j
  unfold opM
  by_cases hc : c = 28
  · subst hc
    rw [if_pos rfl]
    show M 28 j + 0 * b = _
    rw [Int32.zero_mul, Int32.add_zero]
  · rw [if_neg hc]
theorem op_28 {M : Me} {b : Int32} {g : Nat → Nat} {j : Nat} : opM M b g 28 j = M 28 j + nI (g j) * b := by unfold opM; rw [if_pos rfl]
theorem op_off {M : Me} {b : Int32} {g : Nat → Nat} {c j : Nat} (h : c ≠ 28) : opM M b g c j = M c j := by unfold opM; rw [if_neg h]
theorem op_cancel (v : Int32) (k : Nat) : v + nI k * (-1) + nI k * 1 = v := by
  rw [Int32.mul_one, Int32.mul_neg, Int32.mul_one, Int32.add_assoc, Int32.add_left_neg, Int32.add_zero]
theorem op_XU {M : Me} {b : Int32} {g : Nat → Nat} {N : Nat} {lab : Nat → Nat} (h : XU M N lab) : XU (opM M b g) N lab := fun p hp => by
  rw [op_off (by decide)]; exact h p hp
theorem op_TX {M : Me} {b : Int32} {g : Nat → Nat} {S : Su} {T : Tl} (h : TX M S T) : TX (opM M b g) S T := h.off (fun c j c1 _ => op_off (by omega))
/-- what the slot s of the last tile does to the counts: one at its own piece, one at the root of the piece beside it -/
def oa (S : Su) (T : Tl) (n : Nat) (lab : Nat → Nat) (s r : Nat) : Nat := match ta T (nb (tc T n) (s / 3)) with
  | none => 0
  | some o => (if r = 8 * n + pp S T n s then 1 else 0) + (if r = lab (8 * o + pp S T o (op s)) then 1 else 0)
def od (S : Su) (T : Tl) (n : Nat) (lab : Nat → Nat) (i r : Nat) : Nat := sumN (fun s => oa S T n lab s r) i
theorem oa_none {S : Su} {T : Tl} {n : Nat} {lab : Nat → Nat} {s r : Nat} (h : ta T (nb (tc T n) (s / 3)) = none) : oa S T n lab s r = 0 := by unfold oa; rw [h]
theorem oa_some {S : Su} {T : Tl} {n : Nat} {lab : Nat → Nat} {s r o : Nat} (h : ta T (nb (tc T n) (s / 3)) = some o) : oa S T n lab s r = (if r = 8 * n + pp S T n s then 1 else 0) + (if r = lab (8 * o + pp S T o (op s)) then 1 else 0) := by unfold oa; rw [h]
theorem x_openSide {S : Su} {T : Tl} {M : Me} {N n d : Nat} {lab : Nat → Nat} (hw : wfS S) (hwt : wfTl S T) (hX : TX M S T) (hU : XU M N lab) (hle : ∀ x, lab x ≤ x) (hN : N = 8 * T.length) (hn : n < T.length) (hd : d < 4) (b : Int32) : qf_X5_openSide (nI n) (nI d) b M = some (0, opM M b (fun r => oa S T n lab (3 * d) r + oa S T n lab (3 * d + 1) r + oa S T n lab (3 * d + 2) r)) := by
  have h24 := hwt.1
  have hin := (hwt.2.1 n hn).2.2
  have hrow := hX.2.2.1 n hn
  unfold qf_X5_openSide
  rw [n_ld (by omega) (by decide), hrow.1, n_ls (show d < sZ1.length from hd) (by decide), step_nb hin hd, n_ld (nb_lt hin) (by decide), hX.2.2.2.1 _ (nb_lt hin)]
  cases e : ta T (nb (tc T n) d) with
  | none =>
    have e0 : (fun r => oa S T n lab (3 * d) r + oa S T n lab (3 * d + 1) r + oa S T n lab (3 * d + 2) r) = fun _ => 0 := by
      funext r
      rw [oa_none (by rw [show 3 * d / 3 = d by omega]; exact e), oa_none (by rw [show (3 * d + 1) / 3 = d by omega]; exact e), oa_none (by rw [show (3 * d + 2) / 3 = d by omega]; exact e)]
    rw [atv_none e, if_pos rfl, e0, op_zero]
  | some o =>
    obtain ⟨hol, -⟩ := ta_some e
    rw [atv_some e, i_m1 (by omega)]
    have body : ∀ (rec : Int32 → Me → Op) (g : Nat → Nat) (j : Nat), j < 3 → qo_X5_openSide_29 (nI n) (nI d) b (nI o) rec (nI j) (opM M b g) = rec (nI (j + 1)) (opM M b (fun r => g r + oa S T n lab (3 * d + j) r)) := by
      intro rec g j hj
      have hs : 3 * d + j < 12 := by omega
      have hX1 := op_TX (b := b) (g := g) hX
      have hU1 := op_XU (b := b) (g := g) hU
      have r1 := hX1.2.2.1 n hn
      have p1 := pp_lt hw hwt (s := 3 * d + j) hn
      have p2 := pp_lt hw hwt (s := op (3 * d + j)) hol
      have hlp := hle (8 * o + pp S T o (op (3 * d + j)))
      unfold qo_X5_openSide_29
      rw [kn_3, i_le (by decide) (by omega), if_neg (by omega), n_mul, n_add, n_vv, show d * 3 + j = 3 * d + j by omega, x_pieceAt hw hwt hX1.1 hn ⟨r1.2.1, r1.2.2⟩ hs, n_cl, n_ld (by omega) (by decide), n_sv (by omega) (by decide), op_st, op_comp]
      generalize hg2 : (fun r => g r + if r = 8 * n + pp S T n (3 * d + j) then 1 else 0) = g2
      have hX2 := op_TX (b := b) (g := g2) hX
      have hU2 := op_XU (b := b) (g := g2) hU
      have r2 := hX2.2.2.1 o hol
      rw [x_opp hs, n_cl, x_pieceAt hw hwt hX2.1 hol ⟨r2.2.1, r2.2.2⟩ (op_lt hs), n_cl, x_rootOfU hU2 (by omega) (by omega), n_cl, n_ld (by omega) (by decide), n_sv (by omega) (by decide), op_st, op_comp, n_vv, kn_1, n_add, ← hg2]
      congr 2
      funext r
      rw [oa_some (by rw [show (3 * d + j) / 3 = d by omega]; exact e)]
      exact Nat.add_assoc _ _ _
    have hfu : ∃ f, rx_FU = f + 4 := ⟨rx_FU - 4, by have := rx_FUe; omega⟩
    obtain ⟨f, hf⟩ := hfu
    rw [hf]
    show qo_X5_openSide_29 (nI n) (nI d) b (nI o) (rx_lp1 (qo_X5_openSide_29 (nI n) (nI d) b (nI o)) (f + 3)) (nI 0) M = _
    rw [show M = opM M b (fun _ => 0) from (op_zero M b).symm, body _ _ 0 (by decide)]
    show qo_X5_openSide_29 (nI n) (nI d) b (nI o) (rx_lp1 (qo_X5_openSide_29 (nI n) (nI d) b (nI o)) (f + 2)) (nI 1) _ = _
    rw [body _ _ 1 (by decide)]
    show qo_X5_openSide_29 (nI n) (nI d) b (nI o) (rx_lp1 (qo_X5_openSide_29 (nI n) (nI d) b (nI o)) (f + 1)) (nI 2) _ = _
    rw [body _ _ 2 (by decide)]
    show qo_X5_openSide_29 (nI n) (nI d) b (nI o) (rx_lp1 (qo_X5_openSide_29 (nI n) (nI d) b (nI o)) f) (nI 3) _ = _
    generalize rx_lp1 (qo_X5_openSide_29 (nI n) (nI d) b (nI o)) f = rec
    unfold qo_X5_openSide_29
    rw [kn_3, i_le (by decide) (by decide), if_pos (by decide), op_zero]
    congr 3
    funext r
    show 0 + oa S T n lab (3 * d + 0) r + oa S T n lab (3 * d + 1) r + oa S T n lab (3 * d + 2) r = _
    rw [Nat.zero_add]
    rfl

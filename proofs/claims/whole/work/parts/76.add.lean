/-! A tile is laid: its entries, its pieces, shut slots, joins, counts around. -/
/-- the entries of the new tile -/
def adA (M : Me) (n q k u J : Nat) : Me := rx_st (rx_st (rx_st (rx_st (rx_st (rx_st M 2 9 (nI (n + 1))) 17 q (nI n)) 20 n (nI q)) 21 n (nI k)) 22 n (nI u)) 23 n (nI J)
theorem adA_get {M : Me} {n q k u J c i : Nat} : adA M n q k u J c i = if c = 23 ∧ i = n then nI J else if c = 22 ∧ i = n then nI u else if c = 21 ∧ i = n then nI k else if c = 20 ∧ i = n then nI q else if c = 17 ∧ i = q then nI n else if c = 2 ∧ i = 9 then nI (n + 1) else M c i := by
  unfold adA
  simp only [st_get]
theorem adA_TX {M : Me} {S : Su} {T : Tl} {q k u J : Nat} (h : TX M S T) (hq : q < 441) (ht : ta T q = none) : TX (adA M T.length q k u J) S (T ++ [(q, k, u)]) := by
  obtain ⟨hS, hX⟩ := h
  have hl : (T ++ [(q, k, u)]).length = T.length + 1 := by simp
  have e : ∀ c, c ≠ 2 → c ≠ 17 → ¬ (20 ≤ c ∧ c ≤ 23) → ∀ j, adA M T.length q k u J c j = M c j := by
    intro c h1 h2 h3 j
    rw [adA_get, if_neg (by omega), if_neg (by omega), if_neg (by omega), if_neg (by omega), if_neg (by omega), if_neg (by omega)]
  refine ⟨?_, ?_, fun t ht2 => ?_, fun r hr => ?_, trivial⟩
  · have e1 := e 1 (by decide) (by decide) (by decide)
    have e9 := e 9 (by decide) (by decide) (by decide)
    have e10 := e 10 (by decide) (by decide) (by decide)
    have e11 := e 11 (by decide) (by decide) (by decide)
    have e12 := e 12 (by decide) (by decide) (by decide)
    have e13 := e 13 (by decide) (by decide) (by decide)
    have e14 := e 14 (by decide) (by decide) (by decide)
    have e15 := e 15 (by decide) (by decide) (by decide)
    have e16 := e 16 (by decide) (by decide) (by decide)
    unfold SX at *
    simp only [e1, e9, e10, e11, e12, e13, e14, e15, e16]
    exact hS
  · rw [adA_get, hl]; simp
  · by_cases hn : t = T.length
    · subst hn
      obtain ⟨e1, e2, e3⟩ := snoc_eq (T := T) (x := (q, k, u))
      rw [e1, e2, e3]
      refine ⟨?_, ?_, ?_⟩ <;> rw [adA_get] <;> simp
    · have htl : t < T.length := by omega
      obtain ⟨e1, e2, e3⟩ := snoc_lt (x := (q, k, u)) htl
      rw [e1, e2, e3]
      have := hX.2.1 t htl
      refine ⟨?_, ?_, ?_⟩ <;> rw [adA_get]
      · simp [hn]; exact this.1
      · simp [hn]; exact this.2.1
      · simp [hn]; exact this.2.2
  · rw [adA_get]
    have h1 := hX.2.2.1 r hr
    by_cases hrq : r = q
    · subst hrq
      have : ta (T ++ [(r, k, u)]) r = some T.length := by rw [ta_snoc, ht]; simp
      rw [atv_some this]
      simp
    · have : ta (T ++ [(q, k, u)]) r = ta T r := by
        rw [ta_snoc]
        cases ta T r with
        | some t => rfl
        | none => simp [show ¬ q = r from fun e => hrq e.symm]
      have h2 : atv (T ++ [(q, k, u)]) r = atv T r := by unfold atv; rw [this]
      rw [h2, ← h1]
      simp [hrq]
/-- a piece is founded -/
def fdM (M : Me) (p sc oc : Nat) : Me := rx_st (rx_st (rx_st (rx_st (rx_st M 25 p (nI p)) 26 p (nI (2 ^ (p / 8)))) 27 p (nI sc)) 28 p (nI oc)) 29 p 0
theorem sh_bit : ∀ t, t < 24 → (1 : Int32) <<< (nI t &&& 31) = nI (2 ^ t) := by decide +kernel
theorem x_found {M : Me} {p sc oc : Nat} (hp : p < 192) : qf_X3_found (nI p) (nI sc) (nI oc) M = some (0, fdM M p sc oc) := by
  unfold qf_X3_found fdM
  rw [n_sv hp (by decide), n_sv hp (by decide), n_sv hp (by decide), n_sv hp (by decide), n_sv hp (by decide), kn_8, n_div (by omega) (by decide) (by decide), sh_bit _ (by omega)]
theorem fdM_get {M : Me} {p sc oc c i : Nat} : fdM M p sc oc c i = if c = 29 ∧ i = p then 0 else if c = 28 ∧ i = p then nI oc else if c = 27 ∧ i = p then nI sc else if c = 26 ∧ i = p then nI (2 ^ (p / 8)) else if c = 25 ∧ i = p then nI p else M c i := by
  unfold fdM
  simp only [st_get]
/-- the first j pieces of the new tile are founded -/
def fdP (S : Su) (n k : Nat) (Mb : Me) (j : Nat) (M : Me) : Prop := (∀ i, i < j → M 25 (8 * n + i) = nI (8 * n + i) ∧ M 26 (8 * n + i) = nI (2 ^ n) ∧ M 27 (8 * n + i) = nI (sH S k i) ∧ M 28 (8 * n + i) = nI (sCn S k i 12) ∧ M 29 (8 * n + i) = 0) ∧ ∀ c i, ¬ (25 ≤ c ∧ c ≤ 29 ∧ 8 * n ≤ i ∧ i < 8 * n + 8) → M c i = Mb c i
theorem x_foundLoop {S : Su} {Mb : Me} {n k : Nat} {w4 : Int32} {K : Me → Op} (hS : SX Mb S) (h12 : sN S ≤ 12) (hn : n < 24) (hk : k < sN S) : ∃ M2, fdP S n k Mb 8 M2 ∧ rx_lp1 (qo_X5_addTile_68 K (nI k) (nI n) w4) rx_FU 0 Mb = K M2 := by
  refine lp1_up (b := qo_X5_addTile_68 K (nI k) (nI n) w4) (e := 8) (P := fdP S n k Mb) (K := K) ?_ ?_ rx_FU 0 Mb (fu_lt (by decide)) (by decide) ⟨fun i h => by omega, fun _ _ _ => rfl⟩
  · intro rec i M hi hP
    have hs := (hS.2.2.2.2.1 k i hk hi)
    have e12 : M 12 (k * 8 + i) = nI (sH S k i) := by rw [hP.2 12 _ (by omega)]; exact hs.2.1
    have e14 : M 14 (k * 8 + i) = nI (sCn S k i 12) := by rw [hP.2 14 _ (by omega)]; exact hs.2.2.2
    refine ⟨fdM M (8 * n + i) (sH S k i) (sCn S k i 12), ⟨fun j hj => ?_, fun c j hc => ?_⟩, ?_⟩
    · by_cases hji : j = i
      · subst hji
        have e8 : (8 * n + j) / 8 = n := by omega
        refine ⟨?_, ?_, ?_, ?_, ?_⟩ <;> rw [fdM_get] <;> simp [e8]
      · have := hP.1 j (by omega)
        have hne : 8 * n + j ≠ 8 * n + i := by omega
        refine ⟨?_, ?_, ?_, ?_, ?_⟩ <;> rw [fdM_get] <;> simp [hji]
        · exact this.1
        · exact this.2.1
        · exact this.2.2.1
        · exact this.2.2.2.1
        · exact this.2.2.2.2
    · rw [fdM_get, if_neg (by omega), if_neg (by omega), if_neg (by omega), if_neg (by omega), if_neg (by omega)]
      exact hP.2 c j hc
    · unfold qo_X5_addTile_68
      rw [kn_8, i_le (by decide) (by omega), if_neg (by omega), n_mul, n_add, n_vv, n_ld (by omega) (by decide), e12, n_ld (by omega) (by decide), e14, n_mul, n_add, show n * 8 + i = 8 * n + i by omega, x_found (by omega), n_cl, n_vv, kn_1, n_add]
  · intro rec M _
    unfold qo_X5_addTile_68
    rw [kn_8, i_le (by decide) (by decide), if_pos (by decide)]
/-! counts of neighbours, as functions: places of a list of steps go up or down by one -/
def bpM (M : Me) (c : Nat) (b : Int32) (g : Nat → Nat) : Me := fun d j => if d = c then M c j + nI (g j) * b else M d j
theorem bp_st (M : Me) (c : Nat) (b : Int32) (p : Nat) : rx_st M c p (M c p + b) = bpM M c b (fun r => if r = p then 1 else 0) := by
  funext d j
  unfold bpM
  rw [st_get]
  by_cases hc : d = c
  · subst hc
    rw [if_pos rfl]
    by_cases hj : j = p
    · subst hj
      rw [if_pos ⟨rfl, rfl⟩]
      show M d j + b = M d j + nI (if j = j then 1 else 0) * b
      rw [if_pos rfl]
      show M d j + b = M d j + 1 * b
      rw [Int32.one_mul]
    · rw [if_neg (fun h => hj h.2)]
      show M d j = M d j + nI (if j = p then 1 else 0) * b
      rw [if_neg hj]
      show M d j = M d j + 0 * b
      rw [Int32.zero_mul, Int32.add_zero]
  · rw [if_neg (fun h => hc h.1), if_neg hc]
theorem bp_comp (M : Me) (c : Nat) (b : Int32) (g h : Nat → Nat) : bpM (bpM M c b g) c b h = bpM M c b (fun r => g r + h r) := by
  funext d j
  unfold bpM
  by_cases hc : d = c
  · subst hc
    rw [if_pos rfl, if_pos rfl, if_pos rfl, ← n_add, Int32.add_mul, Int32.add_assoc]
  · rw [if_neg hc, if_neg hc, if_neg hc]
theorem bp_zero (M : Me) (c : Nat) (b : Int32) : bpM M c b (fun _ => 0) = M := by
  funext d j
  unfold bpM
  by_cases hc : d = c
  · subst hc
    rw [if_pos rfl]
    show M d j + 0 * b = _
    rw [Int32.zero_mul, Int32.add_zero]
  · rw [if_neg hc]
theorem bp_at {M : Me} {c : Nat} {b : Int32} {g : Nat → Nat} {j : Nat} : bpM M c b g c j = M c j + nI (g j) * b := by unfold bpM; rw [if_pos rfl]
theorem bp_off {M : Me} {c d : Nat} {b : Int32} {g : Nat → Nat} {j : Nat} (h : d ≠ c) : bpM M c b g d j = M d j := by unfold bpM; rw [if_neg h]
theorem bp_op {M : Me} {b b2 : Int32} {g h : Nat → Nat} {c : Nat} (hc : c ≠ 28) : bpM (opM M b2 h) c b g = opM (bpM M c b g) b2 h := by
  funext d j
  by_cases h1 : d = c
  · subst h1
    rw [bp_at, op_off hc, op_off hc, bp_at]
  · rw [bp_off h1]
    by_cases h2 : d = 28
    · subst h2
      rw [op_28, op_28, bp_off h1]
    · rw [op_off h2, op_off h2, bp_off h1]
theorem bp_TX {M : Me} {b : Int32} {g : Nat → Nat} {c : Nat} {S : Su} {T : Tl} (hc : c = 18 ∨ c = 19) (h : TX M S T) : TX (bpM M c b g) S T := by
  have e : ∀ d, d ≠ c → ∀ j, bpM M c b g d j = M d j := fun d h1 j => bp_off h1
  obtain ⟨hS, hXT⟩ := h
  have e1 := e 1 (by omega)
  have e2 := e 2 (by omega)
  have e9 := e 9 (by omega)
  have e10 := e 10 (by omega)
  have e11 := e 11 (by omega)
  have e12 := e 12 (by omega)
  have e13 := e 13 (by omega)
  have e14 := e 14 (by omega)
  have e15 := e 15 (by omega)
  have e16 := e 16 (by omega)
  have e17 := e 17 (by omega)
  have e20 := e 20 (by omega)
  have e21 := e 21 (by omega)
  have e22 := e 22 (by omega)
  refine ⟨?_, ?_⟩
  · unfold SX at *
    simp only [e1, e9, e10, e11, e12, e13, e14, e15, e16]
    exact hS
  · unfold XT at *
    simp only [e2, e17, e20, e21, e22]
    exact hXT
/-- loops whose memory is a function of the count -/
theorem lp1_at {β : Type} {b : (Int32 → Me → Option β) → Int32 → Me → Option β} {e : Nat} {R : Option β} (G : Nat → Me)
    (hs : ∀ (rec : Int32 → Me → Option β) (i : Nat), i < e → b rec (nI i) (G i) = rec (nI (i + 1)) (G (i + 1))) (he : ∀ (rec : Int32 → Me → Option β), b rec (nI e) (G e) = R) (h0 : e < 4096) : rx_lp1 b rx_FU (nI 0) (G 0) = R := by
  obtain ⟨M, h1, h2⟩ := lp1_up (b := b) (e := e) (P := fun i M => M = G i) (K := fun _ => R) (fun rec i M hi hM => ⟨G (i + 1), rfl, by rw [hM]; exact hs rec i hi⟩) (fun rec M hM => by rw [hM]; exact he rec) rx_FU 0 (G 0) (fu_lt (by omega)) (by omega) rfl
  exact h2
/-- sides d < i of the new tile: the neighbours' counts -/
def ng (q i r : Nat) : Nat := sumN (fun d => if r = nb q d then 1 else 0) i
theorem od_side {S : Su} {T : Tl} {n : Nat} {lab : Nat → Nat} {d : Nat} : (fun r => od S T n lab (3 * d) r + (oa S T n lab (3 * d) r + oa S T n lab (3 * d + 1) r + oa S T n lab (3 * d + 2) r)) = od S T n lab (3 * (d + 1)) := by
  funext r
  have e : 3 * (d + 1) = 3 * d + 1 + 1 + 1 := by omega
  rw [e]
  show _ = od S T n lab (3 * d) r + oa S T n lab (3 * d) r + oa S T n lab (3 * d + 1) r + oa S T n lab (3 * d + 2) r
  omega
theorem side_mem {S : Su} {T : Tl} {M : Me} {n d : Nat} {lab : Nat → Nat} {b b2 : Int32} (hw : wfS S) (hwt : wfTl S T) (hX : TX M S T) (hU : XU M (8 * T.length) lab) (hle : ∀ x, lab x ≤ x) (hn : n < T.length) (hd : d < 4) : qf_X5_openSide (nI n) (nI d) b2 (opM (bpM M 18 b (ng (tc T n) (d + 1))) b2 (od S T n lab (3 * d))) = some (0, opM (bpM M 18 b (ng (tc T n) (d + 1))) b2 (od S T n lab (3 * (d + 1)))) := by
  have hX2 : TX (opM (bpM M 18 b (ng (tc T n) (d + 1))) b2 (od S T n lab (3 * d))) S T := op_TX (bp_TX (Or.inl rfl) hX)
  have hU2 : XU (opM (bpM M 18 b (ng (tc T n) (d + 1))) b2 (od S T n lab (3 * d))) (8 * T.length) lab := op_XU (fun p hp => by rw [bp_off (by decide)]; exact hU p hp)
  rw [x_openSide hw hwt hX2 hU2 hle rfl hn hd, op_comp, od_side]
theorem x_shut {S : Su} {T : Tl} {M : Me} {n : Nat} {lab : Nat → Nat} {K : Me → Op} (hw : wfS S) (hwt : wfTl S T) (hX : TX M S T) (hU : XU M (8 * T.length) lab) (hle : ∀ x, lab x ≤ x) (hn : n < T.length) : rx_lp1 (qo_X5_addTile_127 K (nI n) (nI (tc T n))) rx_FU 0 M = K (opM (bpM M 18 1 (ng (tc T n) 4)) (-1) (od S T n lab 12)) := by
  have hin := (hwt.2.1 n hn).2.2
  have h24 := hwt.1
  have h0 : M = opM (bpM M 18 1 (ng (tc T n) 0)) (-1) (od S T n lab (3 * 0)) := by
    show M = opM (bpM M 18 1 (fun _ => 0)) (-1) (fun _ => 0)
    rw [bp_zero, op_zero]
  have key := lp1_at (b := qo_X5_addTile_127 K (nI n) (nI (tc T n))) (e := 4) (R := K (opM (bpM M 18 1 (ng (tc T n) 4)) (-1) (od S T n lab 12))) (fun d => opM (bpM M 18 1 (ng (tc T n) d)) (-1) (od S T n lab (3 * d))) ?_ ?_ (by decide)
  · have key2 : rx_lp1 (qo_X5_addTile_127 K (nI n) (nI (tc T n))) rx_FU 0 (opM (bpM M 18 1 (ng (tc T n) 0)) (-1) (od S T n lab (3 * 0))) = K (opM (bpM M 18 1 (ng (tc T n) 4)) (-1) (od S T n lab 12)) := key
    rw [← h0] at key2
    exact key2
  · intro rec d hd
    unfold qo_X5_addTile_127
    rw [kn_4, i_le (by decide) (by omega), if_neg (by omega), n_ls (show d < sZ1.length from hd) (by decide), step_nb hin hd, n_ld (nb_lt hin) (by decide), n_sv (nb_lt hin) (by decide), bp_st, bp_op (by decide), bp_comp]
    rw [show (fun r => ng (tc T n) d r + if r = nb (tc T n) d then 1 else 0) = ng (tc T n) (d + 1) from rfl, side_mem hw hwt hX hU hle hn hd, n_cl, n_vv, kn_1, n_add]
  · intro rec
    unfold qo_X5_addTile_127
    rw [kn_4, i_le (by decide) (by decide), if_pos (by decide)]
theorem x_unshut {S : Su} {T : Tl} {M : Me} {n : Nat} {lab : Nat → Nat} {K : Me → Op} (hw : wfS S) (hwt : wfTl S T) (hX : TX M S T) (hU : XU M (8 * T.length) lab) (hle : ∀ x, lab x ≤ x) (hn : n < T.length) : rx_lp1 (qo_X5_liftTile_29 K (nI n) (nI (tc T n))) rx_FU 0 M = K (opM (bpM M 18 (-1) (ng (tc T n) 4)) 1 (od S T n lab 12)) := by
  have hin := (hwt.2.1 n hn).2.2
  have h24 := hwt.1
  have h0 : M = opM (bpM M 18 (-1) (ng (tc T n) 0)) 1 (od S T n lab (3 * 0)) := by
    show M = opM (bpM M 18 (-1) (fun _ => 0)) 1 (fun _ => 0)
    rw [bp_zero, op_zero]
  have key := lp1_at (b := qo_X5_liftTile_29 K (nI n) (nI (tc T n))) (e := 4) (R := K (opM (bpM M 18 (-1) (ng (tc T n) 4)) 1 (od S T n lab 12))) (fun d => opM (bpM M 18 (-1) (ng (tc T n) d)) 1 (od S T n lab (3 * d))) ?_ ?_ (by decide)
  · have key2 : rx_lp1 (qo_X5_liftTile_29 K (nI n) (nI (tc T n))) rx_FU 0 (opM (bpM M 18 (-1) (ng (tc T n) 0)) 1 (od S T n lab (3 * 0))) = K (opM (bpM M 18 (-1) (ng (tc T n) 4)) 1 (od S T n lab 12)) := key
    rw [← h0] at key2
    exact key2
  · intro rec d hd
    unfold qo_X5_liftTile_29
    rw [kn_4, i_le (by decide) (by omega), if_neg (by omega), n_ls (show d < sZ1.length from hd) (by decide), step_nb hin hd, n_ld (nb_lt hin) (by decide), n_sv (nb_lt hin) (by decide), Int32.sub_eq_add_neg, bp_st, bp_op (by decide), bp_comp]
    rw [show (fun r => ng (tc T n) d r + if r = nb (tc T n) d then 1 else 0) = ng (tc T n) (d + 1) from rfl, side_mem hw hwt hX hU hle hn hd, n_cl, n_vv, kn_1, n_add]
  · intro rec
    unfold qo_X5_liftTile_29
    rw [kn_4, i_le (by decide) (by decide), if_pos (by decide)]
/-! the eight cells around -/
def nn (q n : Nat) : Nat := if n = 0 then q - 22 else if n = 1 then q - 21 else if n = 2 then q - 20 else if n = 3 then q - 1 else if n = 4 then q + 1 else if n = 5 then q + 20 else if n = 6 then q + 21 else q + 22
theorem step_nn {q d : Nat} (hq : inb q) (hd : d < 8) : nI q + sZ2.getD d 0 = nI (nn q d) := by
  obtain ⟨q1, q2, q3, q4⟩ := hq
  have h1 : 22 ≤ q := by omega
  have hdd : d = 0 ∨ d = 1 ∨ d = 2 ∨ d = 3 ∨ d = 4 ∨ d = 5 ∨ d = 6 ∨ d = 7 := by omega
  have e22 : (-22 : Int32) = -nI 22 := by decide
  have e21 : (-21 : Int32) = -nI 21 := by decide
  have e20 : (-20 : Int32) = -nI 20 := by decide
  have e1 : (-1 : Int32) = -nI 1 := by decide
  rcases hdd with rfl | rfl | rfl | rfl | rfl | rfl | rfl | rfl
  · show nI q + (-22) = nI (q - 22)
    rw [e22, ← Int32.sub_eq_add_neg, n_sub h1]
  · show nI q + (-21) = nI (q - 21)
    rw [e21, ← Int32.sub_eq_add_neg, n_sub (by omega)]
  · show nI q + (-20) = nI (q - 20)
    rw [e20, ← Int32.sub_eq_add_neg, n_sub (by omega)]
  · show nI q + (-1) = nI (q - 1)
    rw [e1, ← Int32.sub_eq_add_neg, n_sub (by omega)]
  · show nI q + 1 = nI (q + 1)
    rw [kn_1, n_add]
  · show nI q + 20 = nI (q + 20)
    rw [kn_20, n_add]
  · show nI q + 21 = nI (q + 21)
    rw [kn_21, n_add]
  · show nI q + 22 = nI (q + 22)
    rw [kn_22, n_add]
theorem nn_lt {q d : Nat} (hq : inb q) : nn q d < 441 := by
  obtain ⟨q1, q2, q3, q4⟩ := hq
  have : q < 419 := by omega
  unfold nn
  repeat' split
  all_goals omega
def na (q i r : Nat) : Nat := sumN (fun d => if r = nn q d then 1 else 0) i
theorem len8 : (Int32.ofNat sZ2.length) = nI 8 := rfl
theorem x_aroundUp {M : Me} {q : Nat} (hin : inb q) : rx_lp1 (qo_X5_addTile_190 (nI q)) rx_FU 0 M = some (0, bpM M 19 1 (na q 8)) := by
  have h0 : M = bpM M 19 1 (na q 0) := (bp_zero M 19 1).symm
  have key := lp1_at (b := qo_X5_addTile_190 (nI q)) (e := 8) (R := some (0, bpM M 19 1 (na q 8))) (fun d => bpM M 19 1 (na q d)) ?_ ?_ (by decide)
  · have key2 : rx_lp1 (qo_X5_addTile_190 (nI q)) rx_FU 0 (bpM M 19 1 (na q 0)) = some (0, bpM M 19 1 (na q 8)) := key
    rw [← h0] at key2
    exact key2
  · intro rec d hd
    unfold qo_X5_addTile_190
    rw [len8, i_le (by decide) (by omega), if_neg (by omega), n_ls (show d < sZ2.length from hd) (by decide), step_nn hin hd, n_ld (nn_lt hin) (by decide), n_sv (nn_lt hin) (by decide), bp_st, bp_comp, n_vv, kn_1, n_add]
    rfl
  · intro rec
    unfold qo_X5_addTile_190
    rw [len8, i_le (by decide) (by decide), if_pos (by decide)]
theorem x_aroundDown {M : Me} {q : Nat} {K : Me → Op} {w : Int32} (hin : inb q) : rx_lp1 (qo_X5_liftTile_65 K w (nI q)) rx_FU 0 M = K (bpM M 19 (-1) (na q 8)) := by
  have h0 : M = bpM M 19 (-1) (na q 0) := (bp_zero M 19 (-1)).symm
  have key := lp1_at (b := qo_X5_liftTile_65 K w (nI q)) (e := 8) (R := K (bpM M 19 (-1) (na q 8))) (fun d => bpM M 19 (-1) (na q d)) ?_ ?_ (by decide)
  · have key2 : rx_lp1 (qo_X5_liftTile_65 K w (nI q)) rx_FU 0 (bpM M 19 (-1) (na q 0)) = K (bpM M 19 (-1) (na q 8)) := key
    rw [← h0] at key2
    exact key2
  · intro rec d hd
    unfold qo_X5_liftTile_65
    rw [len8, i_le (by decide) (by omega), if_neg (by omega), n_ls (show d < sZ2.length from hd) (by decide), step_nn hin hd, n_ld (nn_lt hin) (by decide), n_sv (nn_lt hin) (by decide), Int32.sub_eq_add_neg, bp_st, bp_comp, n_vv, kn_1, n_add]
    rfl
  · intro rec
    unfold qo_X5_liftTile_65
    rw [len8, i_le (by decide) (by decide), if_pos (by decide)]
/-- all four sides are joined -/
theorem x_joins {S : Su} {T : Tl} {x : Nat × Nat × Nat} {wh wo wm : Nat → Nat} {J : Nat} {Mb : Me} {w4 : Int32} {K : Me → Op} (hw : wfS S) (hwt : wfTl S (T ++ [x])) (hb : TX Mb S (T ++ [x])) (h : JP S T x wh wo wm J Mb 0 Mb) : ∃ M2, JP S T x wh wo wm J Mb 12 M2 ∧ rx_lp1 (qo_X5_addTile_168 K (nI T.length) w4) rx_FU 0 Mb = K M2 := by
  have key := lp1_up (b := qo_X5_addTile_168 K (nI T.length) w4) (e := 4) (P := fun d M => JP S T x wh wo wm J Mb (3 * d) M) (K := K) ?_ ?_ rx_FU 0 Mb (fu_lt (by decide)) (by decide) h
  · exact key
  · intro rec d M hd hJ
    obtain ⟨M2, g1, g2⟩ := x_joinSide hw hwt hb hJ hd
    refine ⟨M2, g1, ?_⟩
    unfold qo_X5_addTile_168
    rw [kn_4, i_le (by decide) (by omega), if_neg (by omega), g2, n_cl, n_vv, kn_1, n_add]
  · intro rec M _
    unfold qo_X5_addTile_168
    rw [kn_4, i_le (by decide) (by decide), if_pos (by decide)]

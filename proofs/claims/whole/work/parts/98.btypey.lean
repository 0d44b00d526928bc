/-! The reference adds a type. -/
theorem lg_zero (x y : Int64) : (lg_cmp x y = 0) ↔ x = y := by
  unfold lg_cmp
  by_cases h1 : x > y
  · rw [if_pos h1]
    exact ⟨fun h => absurd h (by decide), fun h => by subst h; exact absurd h1 Int64.lt_irrefl⟩
  · rw [if_neg h1]
    by_cases h2 : x = y
    · rw [if_pos h2]; exact ⟨fun _ => h2, fun _ => rfl⟩
    · rw [if_neg h2]; exact ⟨fun h => absurd h (by decide), fun h => absurd h h2⟩
theorem y_nine9 (x : Int64) {k : Nat} (hk : k < 8) : (lg_cmp ((x >>> (Int32.toInt64 (8 * nI k) &&& 63)) &&& 255) 9 = 0) ↔ by8 x k = 9 := by
  rw [lg_zero, show (8 : Int32) = nI 8 from rfl, n_mul, show (255 : Int64) = lN (2 ^ 8 - 1) from rfl, y_and x (by omega) (by omega) (by decide)]
  have hlt : x.toBitVec.toNat / 2 ^ (8 * k) % 2 ^ 8 < 2 ^ 8 := Nat.mod_lt _ (by decide)
  show lN (x.toBitVec.toNat / 2 ^ (8 * k) % 2 ^ 8) = lN 9 ↔ x.toBitVec.toNat / 2 ^ (8 * k) % 2 ^ 8 = 9
  constructor
  · intro h
    have h2 := congrArg (fun z : Int64 => z.toBitVec.toNat) h
    have h3 : (lN (x.toBitVec.toNat / 2 ^ (8 * k) % 2 ^ 8)).toBitVec.toNat = (lN 9).toBitVec.toNat := h2
    rw [wb_tn (by omega), wb_tn (by decide)] at h3
    exact h3
  · intro h; rw [h]
theorem nar_1 : vp_nar .boolean 1 = 1 := by decide
theorem nar_0 : vp_nar .boolean 0 = 0 := by decide
theorem y_addType {S : Su} {M : Me} {a b c : Int64} (hw : wfS S) (h12 : sN S < 12) (hT : isT a b c) (h : SY M S) : ∃ M2, rx_lp1 (qo_X7_type_35 (fun M => qb_X7_type_69 b c M) a b c) rx_FU 0 M = some (nI (sN S), M2) ∧ SY M2 (adT S a b c) ∧ ∀ d i, ¬ (1 ≤ d ∧ d ≤ 4) → ¬ (d = 0 ∧ i = 0) → M2 d i = M d i := by
  obtain ⟨k1, k2, k3, k4, k5⟩ := h
  obtain ⟨n, hn⟩ : ∃ n, sN S = n := ⟨_, rfl⟩
  rw [hn] at k1 h12
  have L1 := lp1_up (b := qo_X7_type_35 (fun M => qb_X7_type_69 b c M) a b c) (e := 12) (K := fun M => qb_X7_type_69 b c M) (P := fun i N => (∀ s, s < i → N 1 (12 * n + s) = nI (nb4 a s)) ∧ ∀ d j, ¬ (d = 1 ∧ 12 * n ≤ j ∧ j < 12 * n + 12) → N d j = M d j) ?_ ?_ rx_FU 0 M (fu_lt (by decide)) (by decide) ⟨fun s hs => (by omega), fun _ _ _ => rfl⟩
  · obtain ⟨M1, ⟨p1, p2⟩, L1⟩ := L1
    have L2 := lp1_up (b := qo_X7_type_72 (fun M => qb_X7_type_172 M) b c) (e := 8) (K := fun M => qb_X7_type_172 M) (P := fun i N => (∀ k, k < i → N 2 (8 * n + k) = nI (kd b k) ∧ N 3 (8 * n + k) = nI (if by8 b k < 8 then 0 else 1) ∧ N 4 (8 * n + k) = nI (by8 c k)) ∧ ∀ d j, ¬ ((2 ≤ d ∧ d ≤ 4) ∧ 8 * n ≤ j ∧ j < 8 * n + 8) → N d j = M1 d j) ?_ ?_ rx_FU 0 M1 (fu_lt (by decide)) (by decide) ⟨fun s hs => (by omega), fun _ _ _ => rfl⟩
    · obtain ⟨M2, ⟨q1, q2⟩, L2⟩ := L2
      obtain ⟨M3, hM3⟩ : ∃ N, N = rx_st M2 0 0 (nI (n + 1)) := ⟨_, rfl⟩
      have e3 : ∀ d j, ¬ (d = 0 ∧ j = 0) → M3 d j = M2 d j := fun d j h => by rw [hM3, st_get, if_neg h]
      have m00 : M2 0 0 = nI n := by rw [q2 0 0 (by omega), p2 0 0 (by omega)]; exact k1
      have off : ∀ d j, ¬ (1 ≤ d ∧ d ≤ 4) → ¬ (d = 0 ∧ j = 0) → M3 d j = M d j := fun d j h1 h2 => by rw [e3 d j h2, q2 d j (by omega), p2 d j (by omega)]
      refine ⟨M3, ?_, ⟨?_, ?_, fun i hi => ?_, fun t s ht hs => ?_, fun t k ht hk => ?_⟩, off⟩
      · have L2 : qb_X7_type_69 b c M1 = qb_X7_type_172 M2 := L2
        refine Eq.trans L1 ?_
        show qb_X7_type_69 b c M1 = _
        rw [L2]
        unfold qb_X7_type_172
        rw [n_vv, m00, kn_1, n_add, n_vv, ← hM3, n_vv, hM3, st_same, n_sub (by omega), hn]
        rfl
      · rw [hM3, st_same]
        show _ = nI (sN S + 1)
        rw [hn]
      · rw [off 0 5 (by omega) (by omega)]; exact k2
      · rw [off 5 i (by omega) (by omega)]; exact k3 i hi
      · have ht : t < sN S + 1 := ht
        rw [adT_P, e3 1 _ (by omega), q2 1 _ (by omega)]
        by_cases hc : t = sN S
        · rw [if_pos hc, hc, hn]; exact p1 s hs
        · rw [if_neg hc, p2 1 _ (by omega)]; exact k4 t s (by omega) hs
      · have ht : t < sN S + 1 := ht
        rw [adT_K, adT_H, adT_T, e3 2 _ (by omega), e3 3 _ (by omega), e3 4 _ (by omega)]
        by_cases hc : t = sN S
        · rw [if_pos hc, if_pos hc, if_pos hc, hc, hn]; exact q1 k hk
        · rw [if_neg hc, if_neg hc, if_neg hc, q2 2 _ (by omega), q2 3 _ (by omega), q2 4 _ (by omega), p2 2 _ (by omega), p2 3 _ (by omega), p2 4 _ (by omega)]; exact k5 t k (by omega) hk
    · intro rec k N hk hP
      obtain ⟨q1, q2⟩ := hP
      have e00 : N 0 0 = nI n := by rw [q2 0 0 (by omega), p2 0 0 (by omega)]; exact k1
      have hb := hT.1 k hk
      have h137 : ∀ v : Nat, v ≤ 1 → qb_X7_type_137 rec b c (nI k) (nI v) (nI (8 * n + k)) (rx_st N 2 (8 * n + k) (nI (kd b k))) = rec (nI (k + 1)) (rx_st (rx_st (rx_st N 2 (8 * n + k) (nI (kd b k))) 3 (8 * n + k) (nI v)) 4 (8 * n + k) (nI (by8 c k))) := by
        intro v hv
        have hnar : vp_nar .boolean (nI v) = nI v := by
          have : v = 0 ∨ v = 1 := by omega
          rcases this with rfl | rfl
          · exact nar_0
          · exact nar_1
        unfold qb_X7_type_137
        rw [hnar, n_sv (by omega) (by decide), n_vv, st_cell (by decide), st_cell (by decide), e00, y_byte c hk, kn_8, n_mul, n_add, n_sv (by omega) (by decide), n_vv, kn_1, n_add]
      refine ⟨rx_st (rx_st (rx_st N 2 (8 * n + k) (nI (kd b k))) 3 (8 * n + k) (nI (if by8 b k < 8 then 0 else 1))) 4 (8 * n + k) (nI (by8 c k)), ⟨fun x hx => ?_, fun d j hd => ?_⟩, ?_⟩
      · by_cases c1 : x = k
        · rw [c1]
          refine ⟨?_, ?_, st_same _ _ _ _⟩
          · rw [st_cell (by decide), st_cell (by decide), st_same]
          · rw [st_cell (by decide), st_same]
        · have hne : 8 * n + x ≠ 8 * n + k := by omega
          rw [st_place hne, st_place hne, st_place hne, st_place hne, st_place hne, st_place hne, st_place hne, st_place hne, st_place hne]
          exact q1 x (by omega)
      · rw [st_get, if_neg (by omega), st_get, if_neg (by omega), st_get, if_neg (by omega)]; exact q2 d j hd
      · have h9 := y_nine9 b hk
        unfold qo_X7_type_72
        have h8 : ¬ ((8 : Int32) ≤ nI k) := fun q => by
          have q2 : nI 8 ≤ nI k := q
          rw [n_le (by decide) (by omega)] at q2
          omega
        have e8 : (8 : Int32) * nI n + nI k = nI (8 * n + k) := by rw [kn_8, n_mul, n_add]
        rw [if_neg h8, n_vv, e00, y_kindIn b hk, n_cl, e8, n_sv (by omega) (by decide), n_vv, st_cell (by decide), e00, e8]
        by_cases c9 : by8 b k = 9
        · rw [if_pos (h9.mpr c9), show (1 : Int32) = nI 1 from rfl]
          rw [show (if by8 b k < 8 then 0 else 1) = 1 from by rw [if_neg (by omega)]]
          exact h137 1 (by omega)
        · rw [if_neg (fun q => c9 (h9.mp q)), show (0 : Int32) = nI 0 from rfl]
          rw [show (if by8 b k < 8 then 0 else 1) = 0 from by rw [if_pos (by omega)]]
          exact h137 0 (by omega)
    · intro rec N _
      unfold qo_X7_type_72
      rw [kn_8, i_le (by decide) (by decide), if_pos (by decide)]
  · intro rec s N hs hP
    obtain ⟨p1, p2⟩ := hP
    have e00 : N 0 0 = nI n := by rw [p2 0 0 (by omega)]; exact k1
    refine ⟨rx_st N 1 (12 * n + s) (nI (nb4 a s)), ⟨fun x hx => ?_, fun d j hd => ?_⟩, ?_⟩
    · by_cases c1 : x = s
      · rw [c1]; exact st_same _ _ _ _
      · rw [st_place (by omega)]; exact p1 x (by omega)
    · rw [st_get, if_neg (by omega)]; exact p2 d j hd
    · unfold qo_X7_type_35
      rw [kn_12, i_le (by decide) (by omega), if_neg (by omega), n_vv, e00, y_partIn a (by omega), n_cl, n_mul, n_add, n_sv (by omega) (by decide), n_vv, kn_1, n_add]
  · intro rec N _
    unfold qo_X7_type_35
    rw [kn_12, i_le (by decide) (by decide), if_pos (by decide)]
/-! the list -/
def adL (S : Su) (t : Nat) : Su := (sN S, sL S ++ [t], sP S, sK S, sH S, sT S)
theorem getD_snoc (l : List Nat) (t i : Nat) : (l ++ [t]).getD i 0 = if i < l.length then l.getD i 0 else if i = l.length then t else 0 := by
  by_cases h : i < l.length
  · rw [if_pos h]
    simp [List.getD, List.getElem?_append_left h]
  · rw [if_neg h]
    by_cases h2 : i = l.length
    · rw [if_pos h2, h2]; simp [List.getD]
    · rw [if_neg h2]
      have : (l ++ [t]).length ≤ i := by simp; omega
      simp [List.getD, List.getElem?_eq_none this]
theorem adL_wf {S : Su} {t : Nat} (hw : wfS S) (h24 : (sL S).length < 24) (ht : t < sN S) : wfS (adL S t) := by
  refine ⟨hw.1, ?_, fun i hi => ?_, hw.2.2.2⟩
  · show (sL S ++ [t]).length ≤ 24
    rw [List.length_append]; show (sL S).length + 1 ≤ 24; omega
  · have hi : i < (sL S ++ [t]).length := hi
    rw [List.length_append] at hi
    have hi : i < (sL S).length + 1 := hi
    show (sL S ++ [t]).getD i 0 < sN S
    rw [getD_snoc]
    by_cases h : i < (sL S).length
    · rw [if_pos h]; exact hw.2.2.1 i h
    · rw [if_neg h, if_pos (by omega)]; exact ht
theorem sCn_adL (S : Su) (t u k n : Nat) : sCn (adL S t) u k n = sCn S u k n := by
  induction n with
  | zero => rfl
  | succ n ih =>
    show sCn (adL S t) u k n + (if sP (adL S t) u n = k then 1 else 0) = _
    rw [ih]
    rfl
theorem adL_len (S : Su) (t : Nat) : (sL (adL S t)).length = (sL S).length + 1 := by
  show (sL S ++ [t]).length = _
  rw [List.length_append]; rfl
theorem x_addList {S : Su} {M : Me} {t : Nat} (h24 : (sL S).length < 24) (h : SX M S) : ∃ M2, qf_X0_addToList (nI t) M = some (nI ((sL S).length + 1), M2) ∧ SX M2 (adL S t) ∧ ∀ d i, d ≠ 16 → ¬ (d = 1 ∧ i = 9) → M2 d i = M d i := by
  obtain ⟨k1, k2, k3, k4, k5, k6, k7⟩ := h
  obtain ⟨N, hN⟩ : ∃ N, N = rx_st (rx_st M 16 (sL S).length (nI t)) 1 9 (nI ((sL S).length + 1)) := ⟨_, rfl⟩
  have off : ∀ d i, d ≠ 16 → ¬ (d = 1 ∧ i = 9) → N d i = M d i := fun d i h1 h2 => by rw [hN, st_get, if_neg h2, st_cell h1]
  refine ⟨N, ?_, ⟨?_, ?_, fun i hi => ?_, fun u s hu hs => ?_, fun u k hu hk => ?_, fun u d hu hd => ?_, fun u hu => ?_⟩, off⟩
  · unfold qf_X0_addToList
    rw [n_vv, k2, n_sv h24 (by decide), n_vv, st_cell (by decide), k2, kn_1, n_add, n_vv, ← hN, n_vv, hN, st_same]
  · rw [off 1 8 (by decide) (by omega)]; exact k1
  · rw [hN, st_same, adL_len]
  · rw [adL_len] at hi
    rw [show (sL (adL S t)).getD i 0 = (sL S ++ [t]).getD i 0 from rfl, getD_snoc, hN, st_cell (by decide)]
    by_cases c : i < (sL S).length
    · rw [if_pos c, st_place (by omega)]; exact k3 i c
    · rw [if_neg c, if_pos (by omega), show i = (sL S).length by omega, st_same]
  · rw [off 9 _ (by decide) (by omega)]; exact k4 u s hu hs
  · rw [off 11 _ (by decide) (by omega), off 12 _ (by decide) (by omega), off 13 _ (by decide) (by omega), off 14 _ (by decide) (by omega), sCn_adL]; exact k5 u k hu hk
  · rw [off 10 _ (by decide) (by omega)]; exact k6 u d hu hd
  · rw [off 15 _ (by decide) (by omega)]; exact k7 u hu
theorem y_addList {S : Su} {M : Me} {t : Nat} (h24 : (sL S).length < 24) (h : SY M S) : ∃ M2, (rx_vv (M 0 5) fun v4 => rx_sv M 5 24 v4 (nI t) fun M5 => rx_vv (M5 0 5) fun v6 => rx_vv (rx_st M5 0 5 (v6 + 1)) fun M7 => rx_vv (M7 0 5) fun v8 => some (v8, M7)) = some (nI ((sL S).length + 1), M2) ∧ SY M2 (adL S t) ∧ ∀ d i, d ≠ 5 → ¬ (d = 0 ∧ i = 5) → M2 d i = M d i := by
  obtain ⟨k1, k2, k3, k4, k5⟩ := h
  obtain ⟨N, hN⟩ : ∃ N, N = rx_st (rx_st M 5 (sL S).length (nI t)) 0 5 (nI ((sL S).length + 1)) := ⟨_, rfl⟩
  have off : ∀ d i, d ≠ 5 → ¬ (d = 0 ∧ i = 5) → N d i = M d i := fun d i h1 h2 => by rw [hN, st_get, if_neg h2, st_cell h1]
  refine ⟨N, ?_, ⟨?_, ?_, fun i hi => ?_, fun u s hu hs => ?_, fun u k hu hk => ?_⟩, off⟩
  · rw [n_vv, k2, n_sv h24 (by decide), n_vv, st_cell (by decide), k2, kn_1, n_add, n_vv, ← hN, n_vv, hN, st_same]
  · rw [off 0 0 (by decide) (by omega)]; exact k1
  · rw [hN, st_same, adL_len]
  · rw [adL_len] at hi
    rw [show (sL (adL S t)).getD i 0 = (sL S ++ [t]).getD i 0 from rfl, getD_snoc, hN, st_cell (by decide)]
    by_cases c : i < (sL S).length
    · rw [if_pos c, st_place (by omega)]; exact k3 i c
    · rw [if_neg c, if_pos (by omega), show i = (sL S).length by omega, st_same]
  · rw [off 1 _ (by decide) (by omega)]; exact k4 u s hu hs
  · rw [off 2 _ (by decide) (by omega), off 3 _ (by decide) (by omega), off 4 _ (by decide) (by omega)]; exact k5 u k hu hk

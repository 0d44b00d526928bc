/-! A type is added; a tile is listed. -/
def adT (S : Su) (a b c : Int64) : Su := (sN S + 1, sL S, fun t s => if t = sN S then nb4 a s else sP S t s, fun t k => if t = sN S then kd b k else sK S t k, fun t k => if t = sN S then (if by8 b k < 8 then 0 else 1) else sH S t k, fun t k => if t = sN S then by8 c k else sT S t k)
theorem adT_P (S : Su) (a b c : Int64) (t s : Nat) : sP (adT S a b c) t s = if t = sN S then nb4 a s else sP S t s := rfl
theorem adT_K (S : Su) (a b c : Int64) (t k : Nat) : sK (adT S a b c) t k = if t = sN S then kd b k else sK S t k := rfl
theorem adT_H (S : Su) (a b c : Int64) (t k : Nat) : sH (adT S a b c) t k = if t = sN S then (if by8 b k < 8 then 0 else 1) else sH S t k := rfl
theorem adT_T (S : Su) (a b c : Int64) (t k : Nat) : sT (adT S a b c) t k = if t = sN S then by8 c k else sT S t k := rfl
theorem clo_two {b : Int64} (h : clo b 8 < 2) {k j : Nat} (hk : k < 8) (hj : j < 8) (h1 : kd b k = 4) (h2 : kd b j = 4) : k = j := by
  have e : ∀ n, clo b n = sumN (fun i => if kd b i = 4 then 1 else 0) n := by
    intro n
    induction n with
    | zero => rfl
    | succ n ih => show clo b n + _ = sumN _ n + _; rw [ih]
  rw [e] at h
  by_cases hkj : k = j
  · exact hkj
  · exfalso
    have h3 : sumN (fun i => if kd b i = 4 then 1 else 0) 8 = sumN (fun i => if i = k then 0 else (if kd b i = 4 then 1 else 0)) 8 + 1 := by
      refine sumN_one hk ?_ (fun p _ hp => ?_)
      · rw [if_pos rfl, if_pos h1]
      · rw [if_neg hp]
    have h4 : 0 < sumN (fun i => if i = k then 0 else (if kd b i = 4 then 1 else 0)) 8 := sumN_pos.mpr ⟨j, hj, by
      show 0 < (if j = k then 0 else (if kd b j = 4 then 1 else 0))
      rw [if_neg (fun q => hkj q.symm), if_pos h2]
      exact Nat.one_pos⟩
    omega
theorem adT_new {S : Su} {a b c : Int64} (h : isT a b c) : wfT (adT S a b c) (sN S) := by
  obtain ⟨h1, h2, h3, h4, h5, h6, h7⟩ := h
  unfold wfT
  simp only [adT_P, adT_K, adT_H, adT_T, if_pos]
  refine ⟨fun s hs => h4 s hs, fun k hk => ⟨kd_ok h1 hk, ?_, by8_lt _ _⟩, fun q hq => h6 q hq, fun k j hk hj e1 e2 => clo_two h2 hk hj e1 e2, fun k hk => h7 k hk⟩
  by_cases c1 : by8 b k < 8
  · rw [if_pos c1]; omega
  · rw [if_neg c1]; exact Nat.le_refl _
theorem adT_old {S : Su} {a b c : Int64} {t : Nat} (h : wfT S t) (ht : t ≠ sN S) : wfT (adT S a b c) t := by
  unfold wfT at *
  simp only [adT_P, adT_K, adT_H, adT_T, if_neg ht]
  exact h
theorem adT_wf {S : Su} {a b c : Int64} (hw : wfS S) (h12 : sN S < 12) (h : isT a b c) : wfS (adT S a b c) := by
  refine ⟨h12, hw.2.1, fun i hi => Nat.lt_succ_of_lt (hw.2.2.1 i hi), fun t ht => ?_⟩
  by_cases hc : t = sN S
  · rw [hc]; exact adT_new h
  · exact adT_old (hw.2.2.2 t (by have : t < sN S + 1 := ht; omega)) hc
theorem sCn_adT {S : Su} {a b c : Int64} {t k n : Nat} (ht : t ≠ sN S) : sCn (adT S a b c) t k n = sCn S t k n := by
  induction n with
  | zero => rfl
  | succ n ih =>
    show sCn (adT S a b c) t k n + (if sP (adT S a b c) t n = k then 1 else 0) = sCn S t k n + (if sP S t n = k then 1 else 0)
    rw [ih, adT_P, if_neg ht]
def nbc (a : Int64) (k : Nat) : Nat → Nat
  | 0 => 0
  | n + 1 => nbc a k n + (if nb4 a n = k then 1 else 0)
theorem sCn_new {S : Su} {a b c : Int64} {k n : Nat} : sCn (adT S a b c) (sN S) k n = nbc a k n := by
  induction n with
  | zero => rfl
  | succ n ih =>
    show sCn (adT S a b c) (sN S) k n + (if sP (adT S a b c) (sN S) n = k then 1 else 0) = _
    rw [ih, adT_P, if_pos rfl]
    rfl
/-- the class adds a type -/
theorem x_addType {S : Su} {M : Me} {a b c : Int64} (hw : wfS S) (h12 : sN S < 12) (hT : isT a b c) (h : SX M S) : ∃ M2, qf_X0_addType a b c M = some (nI (sN S), M2) ∧ SX M2 (adT S a b c) ∧ ∀ d i, ¬ (9 ≤ d ∧ d ≤ 15) → ¬ (d = 1 ∧ i = 8) → M2 d i = M d i := by
  obtain ⟨k1, k2, k3, k4, k5, k6, k7⟩ := h
  obtain ⟨n, hn⟩ : ∃ n, sN S = n := ⟨_, rfl⟩
  rw [hn] at k1 h12
  have hsl := hT.2.2.2.1
  have hkl := fun {k : Nat} (hk : k < 8) => kd_ok hT.1 hk
  obtain ⟨M4, hM4⟩ : ∃ N, N = rx_st M 15 n (-1) := ⟨_, rfl⟩
  have L1 := lp1_up (b := qo_X0_addType_22 (fun M => qb_X0_addType_130 a b (nI (n * 8)) M) a b c (nI (n * 8))) (e := 8) (K := fun M => qb_X0_addType_130 a b (nI (n * 8)) M) (P := fun i N => (∀ k, k < i → N 11 (n * 8 + k) = nI (kd b k) ∧ N 12 (n * 8 + k) = nI (if by8 b k < 8 then 0 else 1) ∧ N 13 (n * 8 + k) = nI (by8 c k) ∧ N 14 (n * 8 + k) = nI 0) ∧ ((∀ k, k < i → kd b k ≠ 4) → N 15 n = -1) ∧ (∀ k, k < i → kd b k = 4 → (∀ j, j < i → kd b j = 4 → j ≤ k) → N 15 n = nI k) ∧ ∀ d j, ¬ ((11 ≤ d ∧ d ≤ 14) ∧ n * 8 ≤ j ∧ j < n * 8 + 8) → ¬ (d = 15 ∧ j = n) → N d j = M d j) ?_ ?_ rx_FU 0 M4 (fu_lt (by decide)) (by decide) ⟨fun k hk => (by omega), fun _ => by rw [hM4]; exact st_same _ _ _ _, fun k hk => (by omega), fun d j _ h2 => by rw [hM4, st_get, if_neg h2]⟩
  · obtain ⟨M5, ⟨p1, p2, p3, p4⟩, L1⟩ := L1
    have L2 := lp1_up (b := qo_X0_addType_133 (fun M => qb_X0_addType_185 a b M) a b (nI (n * 8))) (e := 12) (K := fun M => qb_X0_addType_185 a b M) (P := fun i N => (∀ s, s < i → N 9 (n * 12 + s) = nI (nb4 a s)) ∧ (∀ k, k < 8 → N 14 (n * 8 + k) = nI (nbc a k i)) ∧ ∀ d j, ¬ (d = 9 ∧ n * 12 ≤ j ∧ j < n * 12 + 12) → ¬ (d = 14 ∧ n * 8 ≤ j ∧ j < n * 8 + 8) → N d j = M5 d j) ?_ ?_ rx_FU 0 M5 (fu_lt (by decide)) (by decide) ⟨fun s hs => (by omega), fun k hk => (p1 k hk).2.2.2, fun _ _ _ _ => rfl⟩
    · obtain ⟨M6, ⟨q1, q2, q3⟩, L2⟩ := L2
      have L3 := lp1_up (b := qo_X0_addType_188 (fun M => qb_X0_addType_228 M) a b) (e := 4) (K := fun M => qb_X0_addType_228 M) (P := fun i N => (∀ d, d < i → N 10 (n * 4 + d) = nI (kd b (nb4 a (3 * d + 1)))) ∧ ∀ d j, ¬ (d = 10 ∧ n * 4 ≤ j ∧ j < n * 4 + 4) → N d j = M6 d j) ?_ ?_ rx_FU 0 M6 (fu_lt (by decide)) (by decide) ⟨fun d hd => (by omega), fun _ _ _ => rfl⟩
      · obtain ⟨M7, ⟨r1, r2⟩, L3⟩ := L3
        obtain ⟨M8, hM8⟩ : ∃ N, N = rx_st M7 1 8 (nI (n + 1)) := ⟨_, rfl⟩
        have e8 : ∀ d j, ¬ (d = 1 ∧ j = 8) → M8 d j = M7 d j := fun d j h => by rw [hM8, st_get, if_neg h]
        have off : ∀ d j, ¬ (9 ≤ d ∧ d ≤ 15) → ¬ (d = 1 ∧ j = 8) → M8 d j = M d j := fun d j h1 h2 => by rw [e8 d j h2, r2 d j (by omega), q3 d j (by omega) (by omega), p4 d j (by omega) (by omega)]
        have m18 : M7 1 8 = nI n := by rw [r2 1 8 (by omega), q3 1 8 (by omega) (by omega), p4 1 8 (by omega) (by omega)]; exact k1
        refine ⟨M8, ?_, ⟨?_, ?_, fun i hi => ?_, fun t s ht hs => ?_, fun t k ht hk => ?_, fun t d ht hd => ?_, fun t ht => ?_⟩, off⟩
        · have L1 : rx_lp1 (qo_X0_addType_22 (fun M => qb_X0_addType_130 a b (nI (n * 8)) M) a b c (nI (n * 8))) rx_FU 0 M4 = qb_X0_addType_130 a b (nI (n * 8)) M5 := L1
          have L2 : qb_X0_addType_130 a b (nI (n * 8)) M5 = qb_X0_addType_185 a b M6 := L2
          have L3 : qb_X0_addType_185 a b M6 = qb_X0_addType_228 M7 := L3
          unfold qf_X0_addType
          rw [n_vv, k1, n_vv, n_vv, n_sv h12 (by decide), kn_8, n_mul, ← hM4, L1, L2, L3]
          unfold qb_X0_addType_228
          rw [n_vv, m18, kn_1, n_add, n_vv, ← hM8, n_vv, hM8, st_same, n_sub (by omega), hn]
          rfl
        · rw [hM8, st_same]
          show _ = nI (sN S + 1)
          rw [hn]
        · rw [off 1 9 (by omega) (by omega)]; exact k2
        · rw [off 16 i (by omega) (by omega)]; exact k3 i hi
        · have ht : t < sN S + 1 := ht
          rw [adT_P, e8 9 _ (by omega), r2 9 _ (by omega)]
          by_cases hc : t = sN S
          · rw [if_pos hc, hc, hn]; exact q1 s hs
          · rw [if_neg hc, q3 9 _ (by omega) (by omega), p4 9 _ (by omega) (by omega)]; exact k4 t s (by omega) hs
        · have ht : t < sN S + 1 := ht
          rw [adT_K, adT_H, adT_T]
          have e11 : ∀ d, 11 ≤ d → d ≤ 13 → M8 d (t * 8 + k) = M5 d (t * 8 + k) := fun d d1 d2 => by rw [e8 d _ (by omega), r2 d _ (by omega), q3 d _ (by omega) (by omega)]
          rw [e11 11 (by decide) (by decide), e11 12 (by decide) (by decide), e11 13 (by decide) (by decide), e8 14 _ (by omega), r2 14 _ (by omega)]
          by_cases hc : t = sN S
          · rw [if_pos hc, if_pos hc, if_pos hc, hc, sCn_new, hn]
            exact ⟨(p1 k hk).1, (p1 k hk).2.1, (p1 k hk).2.2.1, q2 k hk⟩
          · rw [if_neg hc, if_neg hc, if_neg hc, sCn_adT hc, p4 11 _ (by omega) (by omega), p4 12 _ (by omega) (by omega), p4 13 _ (by omega) (by omega), q3 14 _ (by omega) (by omega), p4 14 _ (by omega) (by omega)]
            exact k5 t k (by omega) hk
        · have ht : t < sN S + 1 := ht
          rw [adT_P, adT_K, e8 10 _ (by omega)]
          by_cases hc : t = sN S
          · rw [if_pos hc, if_pos hc, hc, hn]; exact r1 d hd
          · rw [if_neg hc, if_neg hc, r2 10 _ (by omega), q3 10 _ (by omega) (by omega), p4 10 _ (by omega) (by omega)]; exact k6 t d (by omega) hd
        · have ht : t < sN S + 1 := ht
          rw [e8 15 _ (by omega), r2 15 _ (by omega), q3 15 _ (by omega) (by omega)]
          simp only [adT_K]
          by_cases hc : t = sN S
          · simp only [if_pos hc]
            rw [hc, hn]
            exact ⟨fun k hk e => p3 k hk e (fun j hj e2 => by rw [clo_two hT.2.1 hj hk e2 e]; exact Nat.le_refl _), fun hno => p2 hno⟩
          · simp only [if_neg hc]
            rw [p4 15 _ (by omega) (by omega)]
            exact k7 t (by omega)
      · intro rec d N hd hP
        obtain ⟨r1, r2⟩ := hP
        have e18 : N 1 8 = nI n := by rw [r2 1 8 (by omega), q3 1 8 (by omega) (by omega), p4 1 8 (by omega) (by omega)]; exact k1
        have hp := (hsl (3 * d + 1) (by omega)).1
        refine ⟨rx_st N 10 (n * 4 + d) (nI (kd b (nb4 a (3 * d + 1)))), ⟨fun x hx => ?_, fun e j hc => ?_⟩, ?_⟩
        · by_cases c1 : x = d
          · rw [c1]; exact st_same _ _ _ _
          · rw [st_place (by omega)]; exact r1 x (by omega)
        · rw [st_get, if_neg (by omega)]; exact r2 e j hc
        · unfold qo_X0_addType_188
          rw [kn_4, i_le (by decide) (by omega), if_neg (by omega), n_vv, e18, kn_3, n_mul, kn_1, n_add, show d * 3 + 1 = 3 * d + 1 by omega, x_partIn a (by omega), n_cl, x_kindIn b hp, n_cl, n_mul, n_add, n_sv (by omega) (by decide), n_vv, n_add]
      · intro rec N _
        unfold qo_X0_addType_188
        rw [kn_4, i_le (by decide) (by decide), if_pos (by decide)]
    · intro rec s N hs hP
      obtain ⟨q1, q2, q3⟩ := hP
      have e18 : N 1 8 = nI n := by rw [q3 1 8 (by omega) (by omega), p4 1 8 (by omega) (by omega)]; exact k1
      have hp := (hsl s hs).1
      refine ⟨rx_st (rx_st N 9 (n * 12 + s) (nI (nb4 a s))) 14 (n * 8 + nb4 a s) (nI (nbc a (nb4 a s) s + 1)), ⟨fun x hx => ?_, fun k hk => ?_, fun e j h1 h2 => ?_⟩, ?_⟩
      · rw [st_cell (by decide)]
        by_cases c1 : x = s
        · rw [c1]; exact st_same _ _ _ _
        · rw [st_place (by omega)]; exact q1 x (by omega)
      · show _ = nI (nbc a k s + (if nb4 a s = k then 1 else 0))
        rw [st_get]
        by_cases c1 : nb4 a s = k
        · rw [if_pos ⟨rfl, by omega⟩, if_pos c1, c1]
        · rw [if_neg (by omega), if_neg c1, st_cell (by decide)]; exact q2 k hk
      · rw [st_get, if_neg (by omega), st_get, if_neg (by omega)]; exact q3 e j h1 h2
      · unfold qo_X0_addType_133
        rw [kn_12, i_le (by decide) (by omega), if_neg (by omega), x_partIn a (by omega), n_cl, n_vv, e18, n_mul, n_add, n_sv (by omega) (by decide), n_add, n_ld (by omega) (by decide), st_cell (by decide), q2 _ hp, kn_1, n_add, n_sv (by omega) (by decide), n_vv, n_add]
    · intro rec N _
      unfold qo_X0_addType_133
      rw [kn_12, i_le (by decide) (by decide), if_pos (by decide)]
  · intro rec k N hk hP
    obtain ⟨p1, p2, p3, p4⟩ := hP
    have hkk := kd_lt b k
    have hb8 := by8_lt b k
    have e18 : N 1 8 = nI n := by rw [p4 1 8 (by omega) (by omega)]; exact k1
    obtain ⟨N2, hN2⟩ : ∃ N2, N2 = rx_st (rx_st (rx_st (rx_st N 11 (n * 8 + k) (nI (kd b k))) 12 (n * 8 + k) (nI (if by8 b k < 8 then 0 else 1))) 13 (n * 8 + k) (nI (by8 c k))) 14 (n * 8 + k) (nI 0) := ⟨_, rfl⟩
    have e2 : ∀ d j, N2 d j = if d = 14 ∧ j = n * 8 + k then nI 0 else if d = 13 ∧ j = n * 8 + k then nI (by8 c k) else if d = 12 ∧ j = n * 8 + k then nI (if by8 b k < 8 then 0 else 1) else if d = 11 ∧ j = n * 8 + k then nI (kd b k) else N d j := by
      intro d j
      rw [hN2]
      simp only [st_get]
    have off2 : ∀ d j, ¬ ((11 ≤ d ∧ d ≤ 14) ∧ j = n * 8 + k) → N2 d j = N d j := fun d j h => by rw [e2, if_neg (by omega), if_neg (by omega), if_neg (by omega), if_neg (by omega)]
    have e11 : N2 11 (n * 8 + k) = nI (kd b k) := by rw [e2, if_neg (by omega), if_neg (by omega), if_neg (by omega), if_pos ⟨rfl, rfl⟩]
    have h70 : qo_X0_addType_22 (fun M => qb_X0_addType_130 a b (nI (n * 8)) M) a b c (nI (n * 8)) rec (nI k) N = (if kd b k = 4 then rec (nI (k + 1)) (rx_st N2 15 n (nI k)) else rec (nI (k + 1)) N2) := by
      have h124 : ∀ M : Me, qb_X0_addType_124 rec a b c (nI (n * 8)) (nI k) M = rec (nI (k + 1)) M := by
        intro M
        unfold qb_X0_addType_124
        rw [n_vv, kn_1, n_add]
      have h70' : ∀ v : Nat, v = (if by8 b k < 8 then 0 else 1) → qb_X0_addType_70 rec a b c (nI (n * 8)) (nI k) (nI v) (nI (n * 8 + k)) (rx_st N 11 (n * 8 + k) (nI (kd b k))) = (if kd b k = 4 then rec (nI (k + 1)) (rx_st N2 15 n (nI k)) else rec (nI (k + 1)) N2) := by
        intro v hv
        unfold qb_X0_addType_70
        rw [n_sv (by omega) (by decide), x_byteIn c hk, n_cl, n_add, n_sv (by omega) (by decide), show (0 : Int32) = nI 0 from rfl, n_sv (by omega) (by decide), hv, ← hN2, n_ld (by omega) (by decide), kn_4, n_vv, off2 1 8 (by omega), e18, n_sv h12 (by decide), h124, h124, e11, i_eq (by omega) (by decide)]
      unfold qo_X0_addType_22
      rw [kn_8, i_le (by decide) (by omega), if_neg (show ¬ (8 ≤ k) by omega), x_kindIn b hk, n_cl, n_add, n_sv (by omega) (by decide), x_byteIn b hk, n_cl, i_lt (by omega) (by decide)]
      by_cases c1 : by8 b k < 8
      · rw [if_pos c1, show (0 : Int32) = nI 0 from rfl]
        exact h70' 0 (by rw [if_pos c1])
      · rw [if_neg c1, show (1 : Int32) = nI 1 from rfl]
        exact h70' 1 (by rw [if_neg c1])
    have base : ∀ N3 : Me, (∀ d j, d ≠ 15 → N3 d j = N2 d j) → (∀ x, x < k + 1 → N3 11 (n * 8 + x) = nI (kd b x) ∧ N3 12 (n * 8 + x) = nI (if by8 b x < 8 then 0 else 1) ∧ N3 13 (n * 8 + x) = nI (by8 c x) ∧ N3 14 (n * 8 + x) = nI 0) := by
      intro N3 h3 x hx
      rw [h3 11 _ (by decide), h3 12 _ (by decide), h3 13 _ (by decide), h3 14 _ (by decide)]
      by_cases c1 : x = k
      · rw [c1]
        refine ⟨?_, ?_, ?_, ?_⟩
        · rw [e2, if_neg (by omega), if_neg (by omega), if_neg (by omega), if_pos ⟨rfl, rfl⟩]
        · rw [e2, if_neg (by omega), if_neg (by omega), if_pos ⟨rfl, rfl⟩]
        · rw [e2, if_neg (by omega), if_pos ⟨rfl, rfl⟩]
        · rw [e2, if_pos ⟨rfl, rfl⟩]
      · rw [off2 11 _ (by omega), off2 12 _ (by omega), off2 13 _ (by omega), off2 14 _ (by omega)]
        exact p1 x (by omega)
    rw [h70]
    by_cases c4 : kd b k = 4
    · rw [if_pos c4]
      refine ⟨rx_st N2 15 n (nI k), ⟨base _ (fun d j h => st_cell h), fun hno => absurd c4 (hno k (by omega)), fun x hx e h => ?_, fun d j h1 h2 => ?_⟩, rfl⟩
      · have := h k (by omega) c4
        rw [st_same, show x = k by omega]
      · rw [st_get, if_neg h2, off2 d j (by omega)]; exact p4 d j h1 h2
    · rw [if_neg c4]
      refine ⟨N2, ⟨base _ (fun _ _ _ => rfl), fun hno => ?_, fun x hx e h => ?_, fun d j h1 h2 => ?_⟩, rfl⟩
      · rw [off2 15 n (by omega)]; exact p2 (fun j hj => hno j (by omega))
      · have hxk : x ≠ k := fun q => c4 (by rw [← q]; exact e)
        rw [off2 15 n (by omega)]
        exact p3 x (by omega) e (fun j hj e2 => h j (by omega) e2)
      · rw [off2 d j (by omega)]; exact p4 d j h1 h2
  · intro rec N _
    unfold qo_X0_addType_22
    rw [kn_8, i_le (by decide) (by decide), if_pos (by decide)]

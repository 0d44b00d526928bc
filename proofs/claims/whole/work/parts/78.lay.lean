/-! A tile is laid and lifted again. -/
def Kt (n J c i : Nat) : Prop := c = 1 ∨ (9 ≤ c ∧ c ≤ 19) ∨ (c = 2 ∧ i = 9) ∨ (c = 3 ∧ i = 7) ∨ (20 ≤ c ∧ c ≤ 23 ∧ i < n) ∨ (25 ≤ c ∧ c ≤ 29 ∧ i < 8 * n) ∨ ((c = 30 ∨ c = 31) ∧ i < J)
def jc (S : Su) (T : Tl) : Nat := nr (labs S T) (8 * T.length)
def XTab (M : Me) (S : Su) (T : Tl) (mn : Nat → Nat) : Prop := TX M S T ∧ XN M T ∧ XR M (8 * T.length) (labs S T) (shw S T) (opw S T) mn ∧ M 3 7 = nI (jc S T)
theorem XR.up {M : Me} {N : Nat} {lab sh op mn : Nat → Nat} (h : XR M N lab sh op mn) : XU M N lab := h.1
theorem nr_more {lab : Nat → Nat} {N m : Nat} (h : ∀ p, N ≤ p → lab p = p) : nr lab (N + m) = nr lab N := by
  unfold nr
  rw [sumN_split, sumN_zero (n := m) (fun p _ => by rw [if_pos (h _ (by omega))]), Nat.add_zero]
theorem sumL_more {lab w : Nat → Nat} {N m r : Nat} (h : ∀ p, N ≤ p → lab p = p) (hr : r < N) : sumL lab w r (N + m) = sumL lab w r N := by
  unfold sumL
  rw [sumN_split, sumN_zero (n := m) (fun p _ => by rw [if_neg (by rw [h _ (by omega)]; omega)]), Nat.add_zero]
theorem bitL_more {lab : Nat → Nat} {N m r : Nat} (h : ∀ p, N ≤ p → lab p = p) (hr : r < N) : bitL lab r (N + m) = bitL lab r N := by
  induction m with
  | zero => rfl
  | succ m ih =>
    show bitL lab r (N + m) ||| (if lab (N + m) = r then 2 ^ ((N + m) / 8) else 0) = _
    rw [if_neg (by rw [h _ (by omega)]; omega), Nat.or_zero, ih]
/-- the region of a piece that is alone -/
theorem sumL_own {lab w : Nat → Nat} {N r : Nat} (hr : r < N) (h : ∀ p, p < N → (lab p = r ↔ p = r)) : sumL lab w r N = w r := by
  unfold sumL
  rw [← sumN_pick hr w]
  apply sumN_congr
  intro p hp
  by_cases c : p = r
  · rw [if_pos ((h p hp).mpr c), if_pos c]
  · rw [if_neg (fun e => c ((h p hp).mp e)), if_neg c]
theorem bitL_own {lab : Nat → Nat} {N r : Nat} (hr : r < N) (h : ∀ p, p < N → (lab p = r ↔ p = r)) : bitL lab r N = 2 ^ (r / 8) := by
  apply Nat.eq_of_testBit_eq
  intro i
  rw [Nat.testBit_two_pow]
  by_cases c : r / 8 = i
  · rw [decide_eq_true c]
    exact bitL_bit.mpr ⟨r, hr, (h r hr).mpr rfl, c⟩
  · rw [decide_eq_false c]
    cases e : (bitL lab r N).testBit i with
    | false => rfl
    | true =>
      obtain ⟨p, h1, h2, h3⟩ := bitL_bit.mp e
      rw [(h p h1).mp h2] at h3
      exact absurd h3 c
theorem ct_new {T : Tl} {x : Nat × Nat × Nat} (hx : ta T x.1 = none) (r : Nat) : ct (T ++ [x]) r = ct T r + if r = x.1 then 1 else 0 := by
  unfold ct
  by_cases h : r = x.1
  · subst h
    have : ta (T ++ [x]) x.1 = some T.length := (ta_new hx).mpr (Or.inr ⟨rfl, rfl⟩)
    rw [this, hx, if_pos rfl]
    rfl
  · rw [if_neg h]
    have : ta (T ++ [x]) r = ta T r := by
      rw [ta_snoc]
      cases ta T r with
      | some t => rfl
      | none => simp [show ¬ x.1 = r from fun e => h e.symm]
    rw [this]
    rfl
theorem nc_new {T : Tl} {x : Nat × Nat × Nat} (hx : ta T x.1 = none) (hin : inb x.1) (r : Nat) : nc (T ++ [x]) r = nc T r + ng x.1 4 r := by
  obtain ⟨q1, q2, q3, q4⟩ := hin
  have h22 : 22 ≤ x.1 := by omega
  have e : ng x.1 4 r = (if r = x.1 - 21 then 1 else 0) + (if r = x.1 + 1 then 1 else 0) + (if r = x.1 + 21 then 1 else 0) + (if r = x.1 - 1 then 1 else 0) := by
    show 0 + (if r = x.1 - 21 then 1 else 0) + (if r = x.1 + 1 then 1 else 0) + (if r = x.1 + 21 then 1 else 0) + (if r = x.1 - 1 then 1 else 0) = _
    rw [Nat.zero_add]
  have a1 : (if r - 21 = x.1 then 1 else 0) = (if r = x.1 + 21 then 1 else 0) := by
    by_cases c : r = x.1 + 21
    · rw [if_pos c, if_pos (by omega)]
    · rw [if_neg c, if_neg (by omega)]
  have a2 : (if r + 1 = x.1 then 1 else 0) = (if r = x.1 - 1 then 1 else 0) := by
    by_cases c : r = x.1 - 1
    · rw [if_pos c, if_pos (by omega)]
    · rw [if_neg c, if_neg (by omega)]
  have a3 : (if r + 21 = x.1 then 1 else 0) = (if r = x.1 - 21 then 1 else 0) := by
    by_cases c : r = x.1 - 21
    · rw [if_pos c, if_pos (by omega)]
    · rw [if_neg c, if_neg (by omega)]
  have a4 : (if r - 1 = x.1 then 1 else 0) = (if r = x.1 + 1 then 1 else 0) := by
    by_cases c : r = x.1 + 1
    · rw [if_pos c, if_pos (by omega)]
    · rw [if_neg c, if_neg (by omega)]
  unfold nc
  rw [ct_new hx, ct_new hx, ct_new hx, ct_new hx, a1, a2, a3, a4, e]
  omega
theorem ac_new {T : Tl} {x : Nat × Nat × Nat} (hx : ta T x.1 = none) (hin : inb x.1) (r : Nat) : ac (T ++ [x]) r = ac T r + na x.1 8 r := by
  obtain ⟨q1, q2, q3, q4⟩ := hin
  have h22 : 22 ≤ x.1 := by omega
  have e : na x.1 8 r = (if r = x.1 - 22 then 1 else 0) + (if r = x.1 - 21 then 1 else 0) + (if r = x.1 - 20 then 1 else 0) + (if r = x.1 - 1 then 1 else 0) + (if r = x.1 + 1 then 1 else 0) + (if r = x.1 + 20 then 1 else 0) + (if r = x.1 + 21 then 1 else 0) + (if r = x.1 + 22 then 1 else 0) := by
    show 0 + (if r = x.1 - 22 then 1 else 0) + (if r = x.1 - 21 then 1 else 0) + (if r = x.1 - 20 then 1 else 0) + (if r = x.1 - 1 then 1 else 0) + (if r = x.1 + 1 then 1 else 0) + (if r = x.1 + 20 then 1 else 0) + (if r = x.1 + 21 then 1 else 0) + (if r = x.1 + 22 then 1 else 0) = _
    rw [Nat.zero_add]
  have sb : ∀ k, 1 ≤ k → k ≤ 22 → (if r - k = x.1 then 1 else 0) = (if r = x.1 + k then 1 else 0) := by
    intro k k1 k2
    by_cases c : r = x.1 + k
    · rw [if_pos c, if_pos (by omega)]
    · rw [if_neg c, if_neg (by omega)]
  have ad : ∀ k, 1 ≤ k → k ≤ 22 → (if r + k = x.1 then 1 else 0) = (if r = x.1 - k then 1 else 0) := by
    intro k k1 k2
    by_cases c : r = x.1 - k
    · rw [if_pos c, if_pos (by omega)]
    · rw [if_neg c, if_neg (by omega)]
  unfold ac
  rw [ct_new hx, ct_new hx, ct_new hx, ct_new hx, ct_new hx, ct_new hx, ct_new hx, ct_new hx, sb 22 (by decide) (by decide), sb 21 (by decide) (by decide), sb 20 (by decide) (by decide), sb 1 (by decide) (by decide), ad 22 (by decide) (by decide), ad 21 (by decide) (by decide), ad 20 (by decide) (by decide), ad 1 (by decide) (by decide), e]
  omega
/-- the regions' picture when the new pieces stand and all slots are shut -/
theorem lay_XR {M M2 : Me} {S : Su} {T : Tl} {x : Nat × Nat × Nat} {mn : Nat → Nat} {J : Nat} (hw : wfS S) (hwt : wfTl S (T ++ [x])) (hx : ta T x.1 = none) (hR : XR M (8 * T.length) (labs S T) (shw S T) (opw S T) mn) (hmn : ∀ p, 8 * T.length ≤ p → mn p = 0) (h2 : fdP S T.length x.2.1 (adA M T.length x.1 x.2.1 x.2.2 J) 8 M2) : XR (opM (bpM M2 18 1 (ng x.1 4)) (-1) (od S (T ++ [x]) T.length (labs S T) 12)) (8 * (T.length + 1)) (labs S T) (shw S (T ++ [x])) (opw S (T ++ [x])) mn := by
  have hl : (T ++ [x]).length = T.length + 1 := by simp
  have hwt0 := snoc_wf hwt
  have hoff : ∀ p, 8 * T.length ≤ p → labs S T p = p := fun p hp => labs_off hw hwt0 hp
  have hle := labs_le S T
  have hold : ∀ c i, 25 ≤ c → c ≤ 29 → i < 8 * T.length → M2 c i = M c i := by
    intro c i c1 c2 c3
    rw [h2.2 c i (by omega), adA_get, if_neg (by omega), if_neg (by omega), if_neg (by omega), if_neg (by omega), if_neg (by omega), if_neg (by omega)]
  have e8 : 8 * (T.length + 1) = 8 * T.length + 8 := by omega
  have cancel : ∀ (a b c : Nat), a = b + c → nI a + nI c * (-1) = nI b := by
    intro a b c h
    rw [h, ← n_add, Int32.mul_neg, Int32.mul_one, Int32.add_assoc, Int32.add_right_neg, Int32.add_zero]
  refine ⟨fun p hp => ?_, fun r hr hroot => ?_⟩
  · rw [op_off (by decide), bp_off (by decide)]
    by_cases hc : p < 8 * T.length
    · rw [hold 25 p (by decide) (by decide) hc]
      exact hR.1 p hc
    · obtain ⟨g1, -⟩ := h2.1 (p - 8 * T.length) (by omega)
      rw [show 8 * T.length + (p - 8 * T.length) = p by omega] at g1
      exact ⟨p, g1, Nat.le_refl _, rfl, fun _ => hoff p (by omega)⟩
  · have hsl := sumL_shut (lab := labs S T) hw hwt hx hoff r
    rw [op_28, op_off (by decide), op_off (by decide), op_off (by decide), bp_off (by decide), bp_off (by decide), bp_off (by decide), bp_off (by decide)]
    by_cases hc : r < 8 * T.length
    · obtain ⟨r1, r2, r3, r4⟩ := hR.2 r hc hroot
      rw [hold 26 r (by decide) (by decide) hc, hold 27 r (by decide) (by decide) hc, hold 28 r (by decide) (by decide) hc, hold 29 r (by decide) (by decide) hc, r1, r2, r3, r4]
      refine ⟨?_, ?_, ?_, ?_⟩
      · rw [e8, bitL_more hoff hc]
      · rw [e8, sumL_more hoff hc]
        congr 1
        refine sumL_congr (fun _ _ => rfl) (fun p hp => ?_)
        unfold shw
        rw [(snoc_lt (x := x) (show p / 8 < T.length by omega)).2.1]
      · apply cancel
        rw [← hsl, e8, sumL_more hoff hc]
        refine sumL_congr (fun _ _ => rfl) (fun p hp => by rw [if_pos hp])
      · rw [e8, sumL_more hoff hc]
    · obtain ⟨g1, g2, g3, g4, g5⟩ := h2.1 (r - 8 * T.length) (by omega)
      rw [show 8 * T.length + (r - 8 * T.length) = r by omega] at g1 g2 g3 g4 g5
      have hown : ∀ p, p < 8 * (T.length + 1) → (labs S T p = r ↔ p = r) := by
        intro p hp
        by_cases hq : p < 8 * T.length
        · have := hle p
          constructor
          · intro e; omega
          · intro e; omega
        · rw [hoff p (by omega)]
      have hr8 : r / 8 = T.length := by omega
      have hm8 : r % 8 = r - 8 * T.length := by omega
      rw [g2, g3, g4, g5, bitL_own hr hown, sumL_own hr hown, sumL_own (w := mn) hr hown, hmn r (by omega), hr8]
      refine ⟨rfl, ?_, ?_, rfl⟩
      · unfold shw
        rw [hr8, hm8, snoc_eq.2.1]
      · apply cancel
        rw [← hsl, sumL_own hr hown, if_neg hc]
theorem labI_zero (S : Su) (T : Tl) (x : Nat × Nat × Nat) : labI S T x 0 = labs S T := rfl
theorem labI_all {S : Su} {T : Tl} {x : Nat × Nat × Nat} (hwt : wfTl S (T ++ [x])) : labI S T x 12 = labs S (T ++ [x]) := (labs_snoc hwt).symm
theorem Kt_a {n J J2 c i : Nat} (kt : Kt n J c i) (k7 : ¬ Kr (n + 1) J c i) : Kt (n + 1) J2 c i ∧ ¬ (25 ≤ c ∧ c ≤ 31) ∧ ¬ (c = 3 ∧ i = 7) ∧ ¬ (20 ≤ c ∧ c ≤ 23 ∧ n ≤ i) := by
  unfold Kt at *
  unfold Kr at k7
  refine ⟨by omega, by omega, by omega, by omega⟩
theorem Kt_b {n J c i : Nat} (kt : Kt n J c i) (k7 : Kr (n + 1) J c i) : ¬ (25 ≤ c ∧ c ≤ 29 ∧ 8 * n ≤ i) ∧ ¬ (17 ≤ c ∧ c ≤ 23) := by
  unfold Kt at *
  unfold Kr at k7
  refine ⟨by omega, by omega⟩
theorem Kr_t {n J c i : Nat} (k : Kr n J c i) : Kt n J c i ∧ c ≠ 19 := by
  unfold Kr at k
  unfold Kt
  refine ⟨by omega, by omega⟩
theorem Kt_28 {n J i : Nat} (kt : Kt n J 28 i) : i < 8 * n := by
  unfold Kt at kt
  omega
theorem x_addTile {M : Me} {S : Su} {T : Tl} {q k u : Nat} {mn : Nat → Nat} (hw : wfS S) (hwt : wfTl S (T ++ [(q, k, u)])) (hx : ta T q = none) (h : XTab M S T mn) (hmn : ∀ p, 8 * T.length ≤ p → mn p = 0) : ∃ M5, qf_X5_addTile (nI k) (nI (4 * q + u)) M = some (0, M5) ∧ XTab M5 S (T ++ [(q, k, u)]) mn ∧ (∀ c i, ¬ (25 ≤ c ∧ c ≤ 31) → ¬ (17 ≤ c ∧ c ≤ 23) → ¬ (c = 3 ∧ i = 7) → ¬ (c = 2 ∧ i = 9) → M5 c i = M c i) ∧ ∀ M6, (∀ c i, Kt (T.length + 1) (jc S (T ++ [(q, k, u)])) c i → M5 c i = M6 c i) → ∃ M9, qf_X5_liftTile M6 = some (0, M9) ∧ (∀ c i, Kt T.length (jc S T) c i → M c i = M9 c i) ∧ ∀ c i, ¬ (25 ≤ c ∧ c ≤ 29) → ¬ (17 ≤ c ∧ c ≤ 19) → ¬ (c = 3 ∧ i = 7) → ¬ (c = 2 ∧ i = 9) → M9 c i = M6 c i := by
  obtain ⟨hT, hN, hR, hJ⟩ := h
  have hl : (T ++ [(q, k, u)]).length = T.length + 1 := by simp
  have h24 := hwt.1
  have h12 := hw.1
  have hwt0 := snoc_wf hwt
  have hnl : T.length < (T ++ [(q, k, u)]).length := by omega
  obtain ⟨hk, hu, hin⟩ := hwt.2.1 _ hnl
  obtain ⟨x1, x2, x3⟩ := snoc_eq (T := T) (x := (q, k, u))
  have hk : k < sN S := by rw [x2] at hk; exact hk
  have hu : u < 4 := by rw [x3] at hu; exact hu
  have hin : inb q := by rw [x1] at hin; exact hin
  have hq : q < 441 := by have := hin.1; have := hin.2.2.2; omega
  have hle := labs_le S T
  have hoff : ∀ p, 8 * T.length ≤ p → labs S T p = p := fun p hp => labs_off hw hwt0 hp
  have hTA := adA_TX (k := k) (u := u) (J := jc S T) hT hq hx
  obtain ⟨M2, h2, e2⟩ := x_foundLoop (Mb := adA M T.length q k u (jc S T)) (n := T.length) (k := k) (w4 := nI q) (K := fun M => qb_X5_addTile_124 (nI T.length) (nI q) M) hTA.1 h12 (by omega) hk
  have hT2 : TX M2 S (T ++ [(q, k, u)]) := hTA.off (fun c j c1 c2 => h2.2 c j (by omega))
  have hX3 := lay_XR (x := (q, k, u)) hw hwt hx hR hmn h2
  have hX3 : XR (opM (bpM M2 18 1 (ng q 4)) (-1) (od S (T ++ [(q, k, u)]) T.length (labs S T) 12)) (8 * (T.length + 1)) (labs S T) (shw S (T ++ [(q, k, u)])) (opw S (T ++ [(q, k, u)])) mn := hX3
  have hU2 : XU M2 (8 * (T ++ [(q, k, u)]).length) (labs S T) := by
    intro p hp
    have := hX3.1 p (by omega)
    rw [op_off (by decide), bp_off (by decide)] at this
    exact this
  have e3 := x_shut (K := fun M => qb_X5_addTile_165 (nI T.length) (nI q) M) hw hwt hT2 hU2 hle hnl
  rw [x1] at e3
  have e3 : rx_lp1 (qo_X5_addTile_127 (fun M => qb_X5_addTile_165 (nI T.length) (nI q) M) (nI T.length) (nI q)) rx_FU 0 M2 = qb_X5_addTile_165 (nI T.length) (nI q) (opM (bpM M2 18 1 (ng q 4)) (-1) (od S (T ++ [(q, k, u)]) T.length (labs S T) 12)) := e3
  have hT3 : TX (opM (bpM M2 18 1 (ng q 4)) (-1) (od S (T ++ [(q, k, u)]) T.length (labs S T) 12)) S (T ++ [(q, k, u)]) := op_TX (bp_TX (Or.inl rfl) hT2)
  have adOff : ∀ c i, ¬ (17 ≤ c ∧ c ≤ 23) → ¬ (c = 2 ∧ i = 9) → adA M T.length q k u (jc S T) c i = M c i := by
    intro c i c1 c2
    rw [adA_get, if_neg (by omega), if_neg (by omega), if_neg (by omega), if_neg (by omega), if_neg (by omega), if_neg (by omega)]
  have hJ3 : opM (bpM M2 18 1 (ng q 4)) (-1) (od S (T ++ [(q, k, u)]) T.length (labs S T) 12) 3 7 = nI (jc S T) := by
    rw [op_off (by decide), bp_off (by decide), h2.2 3 7 (by omega), adOff 3 7 (by omega) (by omega)]
    exact hJ
  have hnr : nr (labs S T) (8 * (T.length + 1)) = jc S T := by
    rw [show 8 * (T.length + 1) = 8 * T.length + 8 by omega, nr_more hoff]
    rfl
  have hJlt : jc S T < 192 := by
    have := nr_lt hle (show 0 < 8 * (T.length + 1) by omega)
    omega
  generalize hM3 : opM (bpM M2 18 1 (ng q 4)) (-1) (od S (T ++ [(q, k, u)]) T.length (labs S T) 12) = M3 at *
  have hJP : JP S T (q, k, u) (shw S (T ++ [(q, k, u)])) (opw S (T ++ [(q, k, u)])) mn (jc S T) M3 0 M3 := by
    refine ⟨hX3, ?_, fun _ _ _ _ => rfl⟩
    rw [labI_zero, hnr]
    exact Bk.rf (by omega) hJ3
  obtain ⟨M4, h4, e4⟩ := x_joins (w4 := nI q) (K := fun M => qb_X5_addTile_187 (nI q) M) hw hwt hT3 hJP
  obtain ⟨h4R, h4B, h4F⟩ := h4
  rw [labI_all hwt] at h4R h4B
  have hT4 : TX M4 S (T ++ [(q, k, u)]) := hT3.off (fun c j c1 c2 => h4F c j (by omega) (by omega))
  have m3 : ∀ c i, c ≠ 18 → c ≠ 28 → M3 c i = M2 c i := by
    intro c i c1 c2
    rw [← hM3, op_off c2, bp_off c1]
  have m2 : ∀ c i, ¬ (25 ≤ c ∧ c ≤ 29 ∧ 8 * T.length ≤ i) → ¬ (17 ≤ c ∧ c ≤ 23) → ¬ (c = 2 ∧ i = 9) → M2 c i = M c i := by
    intro c i c1 c2 c3
    rw [h2.2 c i (by omega), adOff c i c2 c3]
  refine ⟨bpM M4 19 1 (na q 8), ?_, ⟨bp_TX (Or.inr rfl) hT4, ⟨fun r hr => ?_, fun r hr => ?_⟩, ?_, ?_⟩, ?_, ?_⟩
  · unfold qf_X5_addTile
    rw [n_vv, hT.2.1, kn_4, n_div (by omega) (by decide) (by decide), n_mul, show (4 * q + u) / 4 = q by omega, n_sub (by omega), show 4 * q + u - q * 4 = u by omega, n_vv, n_vv, kn_1, n_add, n_vv, n_sv hq (by decide), n_sv (by omega) (by decide), n_sv (by omega) (by decide), n_sv (by omega) (by decide), n_vv, st_cell (by decide), st_cell (by decide), st_cell (by decide), st_cell (by decide), st_cell (by decide), hJ, n_sv (by omega) (by decide)]
    show rx_lp1 (qo_X5_addTile_68 (fun M => qb_X5_addTile_124 (nI T.length) (nI q) M) (nI k) (nI T.length) (nI q)) rx_FU 0 (adA M T.length q k u (jc S T)) = _
    rw [e2]
    show rx_lp1 (qo_X5_addTile_127 (fun M => qb_X5_addTile_165 (nI T.length) (nI q) M) (nI T.length) (nI q)) rx_FU 0 M2 = _
    rw [e3]
    show rx_lp1 (qo_X5_addTile_168 (fun M => qb_X5_addTile_187 (nI q) M) (nI T.length) (nI q)) rx_FU 0 M3 = _
    rw [e4]
    exact x_aroundUp hin
  · rw [bp_off (by decide), h4F 18 r (by omega) (by omega), ← hM3, op_off (by decide), bp_at, h2.2 18 r (by omega), adA_get, if_neg (by omega), if_neg (by omega), if_neg (by omega), if_neg (by omega), if_neg (by omega), if_neg (by omega), hN.1 r hr, nc_new (x := (q, k, u)) hx hin, ← n_add, Int32.mul_one, Int32.add_assoc]
  · rw [bp_at, h4F 19 r (by omega) (by omega), m3 19 r (by decide) (by decide), h2.2 19 r (by omega), adA_get, if_neg (by omega), if_neg (by omega), if_neg (by omega), if_neg (by omega), if_neg (by omega), if_neg (by omega), hN.2 r hr, ac_new (x := (q, k, u)) hx hin, ← n_add, Int32.mul_one]
  · rw [hl]
    unfold XR at *
    simp only [bp_off (show (25 : Nat) ≠ 19 by decide), bp_off (show (26 : Nat) ≠ 19 by decide), bp_off (show (27 : Nat) ≠ 19 by decide), bp_off (show (28 : Nat) ≠ 19 by decide), bp_off (show (29 : Nat) ≠ 19 by decide)]
    exact h4R
  · rw [bp_off (by decide)]
    unfold jc
    rw [hl]
    exact h4B.2.2.1
  · intro c i c1 c2 c3 c4
    rw [bp_off (by omega), h4F c i c1 c3, m3 c i (by omega) (by omega), m2 c i (by omega) c2 c4]
  · intro M6 h6
    have hER : EqR (T.length + 1) (nr (labs S (T ++ [(q, k, u)])) (8 * (T.length + 1))) M4 M6 := by
      intro c i kr
      have e : nr (labs S (T ++ [(q, k, u)])) (8 * (T.length + 1)) = jc S (T ++ [(q, k, u)]) := by unfold jc; rw [hl]
      rw [e] at kr
      rw [← h6 c i (Kr_t kr).1, bp_off (Kr_t kr).2]
    obtain ⟨M7, e7, h7, f7⟩ := h4B.part hER
    have hT6 : TX M6 S (T ++ [(q, k, u)]) := by
      have hT5 : TX (bpM M4 19 1 (na q 8)) S (T ++ [(q, k, u)]) := bp_TX (Or.inr rfl) hT4
      obtain ⟨a1, a2⟩ := hT5
      have ee : ∀ c i, c = 1 ∨ (9 ≤ c ∧ c ≤ 17) ∨ (c = 2 ∧ i = 9) ∨ (20 ≤ c ∧ c ≤ 22 ∧ i < T.length + 1) → M6 c i = bpM M4 19 1 (na q 8) c i := fun c i hc => (h6 c i (by unfold Kt; omega)).symm
      refine ⟨?_, ?_, fun t ht => ?_, fun r hr => ?_, trivial⟩
      · unfold SX at *
        have f1 := fun i => ee 1 i (by omega)
        have f9 := fun i => ee 9 i (by omega)
        have f10 := fun i => ee 10 i (by omega)
        have f11 := fun i => ee 11 i (by omega)
        have f12 := fun i => ee 12 i (by omega)
        have f13 := fun i => ee 13 i (by omega)
        have f14 := fun i => ee 14 i (by omega)
        have f15 := fun i => ee 15 i (by omega)
        have f16 := fun i => ee 16 i (by omega)
        simp only [f1, f9, f10, f11, f12, f13, f14, f15, f16]
        exact a1
      · rw [ee 2 9 (by omega)]; exact a2.1
      · rw [ee 20 t (by omega), ee 21 t (by omega), ee 22 t (by omega)]; exact a2.2.1 t ht
      · rw [ee 17 r (by omega)]; exact a2.2.2.1 r hr
    have hT7 : TX M7 S (T ++ [(q, k, u)]) := by
      refine hT6.off (fun c j c1 c2 => f7 c j (by omega) (by omega))
    have hU7 : XU M7 (8 * (T ++ [(q, k, u)]).length) (labs S T) := by
      intro p hp
      rw [← h7 25 p (by unfold Kr; omega)]
      exact hX3.1 p (by omega)
    have e8 := x_unshut (K := fun M => qb_X5_liftTile_63 (nI T.length) (nI q) M) hw hwt hT7 hU7 hle hnl
    rw [x1] at e8
    have e8 : rx_lp1 (qo_X5_liftTile_29 (fun M => qb_X5_liftTile_63 (nI T.length) (nI q) M) (nI T.length) (nI q)) rx_FU 0 M7 = qb_X5_liftTile_63 (nI T.length) (nI q) (opM (bpM M7 18 (-1) (ng q 4)) 1 (od S (T ++ [(q, k, u)]) T.length (labs S T) 12)) := e8
    have e9 := x_aroundDown (M := opM (bpM M7 18 (-1) (ng q 4)) 1 (od S (T ++ [(q, k, u)]) T.length (labs S T) 12)) (K := fun M => qb_X5_liftTile_95 (nI T.length) (nI q) M) (w := nI T.length) hin
    have e9 : rx_lp1 (qo_X5_liftTile_65 (fun M => qb_X5_liftTile_95 (nI T.length) (nI q) M) (nI T.length) (nI q)) rx_FU 0 (opM (bpM M7 18 (-1) (ng q 4)) 1 (od S (T ++ [(q, k, u)]) T.length (labs S T) 12)) = qb_X5_liftTile_95 (nI T.length) (nI q) (bpM (opM (bpM M7 18 (-1) (ng q 4)) 1 (od S (T ++ [(q, k, u)]) T.length (labs S T) 12)) 19 (-1) (na q 8)) := e9
    have g20 : M6 20 T.length = nI q := by rw [(hT6.2.2.1 _ hnl).1, x1]
    have g23 : M6 23 T.length = nI (jc S T) := by
      rw [← h6 23 T.length (by unfold Kt; omega), bp_off (by decide), h4F 23 _ (by omega) (by omega), m3 23 _ (by decide) (by decide), h2.2 23 _ (by omega), adA_get, if_pos ⟨rfl, rfl⟩]
    refine ⟨rx_st (rx_st (bpM (opM (bpM M7 18 (-1) (ng q 4)) 1 (od S (T ++ [(q, k, u)]) T.length (labs S T) 12)) 19 (-1) (na q 8)) 17 q (-1)) 2 9 (nI T.length), ?_, ?_, ?_⟩
    · unfold qf_X5_liftTile
      rw [n_vv, hT6.2.1, hl, kn_1, n_sub (by omega), show T.length + 1 - 1 = T.length by omega, n_vv, n_ld (by omega) (by decide), g20, n_ld (by omega) (by decide), g23, e7, n_cl, e8]
      show rx_lp1 (qo_X5_liftTile_65 (fun M => qb_X5_liftTile_95 (nI T.length) (nI q) M) (nI T.length) (nI q)) rx_FU 0 _ = _
      rw [e9]
      show rx_sv _ 17 441 (nI q) (-1) _ = _
      rw [n_sv hq (by decide), n_vv]
      rfl
    · have M6M : ∀ c i, Kt (T.length + 1) (jc S (T ++ [(q, k, u)])) c i → ¬ (25 ≤ c ∧ c ≤ 31) → ¬ (17 ≤ c ∧ c ≤ 19) → ¬ (c = 3 ∧ i = 7) → ¬ (c = 2 ∧ i = 9) → ¬ (20 ≤ c ∧ c ≤ 23 ∧ T.length ≤ i) → M6 c i = M c i := by
        intro c i kt c1 c2 c3 c4 c5
        rw [← h6 c i kt, bp_off (by omega), h4F c i c1 c3, m3 c i (by omega) (by omega), h2.2 c i (by omega), adA_get, if_neg (by omega), if_neg (by omega), if_neg (by omega), if_neg (by omega), if_neg (by omega), if_neg (by omega)]
      have can : ∀ (v : Int32) (j : Nat), v + nI j * 1 + nI j * (-1) = v := by
        intro v j
        rw [Int32.mul_one, Int32.mul_neg, Int32.mul_one, Int32.add_assoc, Int32.add_right_neg, Int32.add_zero]
      intro c i kt
      rw [st_get, st_get]
      by_cases k1 : c = 2 ∧ i = 9
      · rw [if_pos k1, k1.1, k1.2]; exact hT.2.1
      · rw [if_neg k1]
        by_cases k2 : c = 17
        · subst k2
          by_cases k3 : i = q
          · subst k3
            rw [if_pos ⟨rfl, rfl⟩, hT.2.2.2.1 i hq, atv_none hx]
          · rw [if_neg (fun g => k3 g.2), bp_off (by decide), op_off (by decide), bp_off (by decide), f7 17 i (by omega) (by omega), ← h6 17 i (by unfold Kt; omega), bp_off (by decide), h4F 17 i (by omega) (by omega), m3 17 i (by decide) (by decide), h2.2 17 i (by omega), adA_get, if_neg (by omega), if_neg (by omega), if_neg (by omega), if_neg (by omega), if_neg (by omega), if_neg (by omega)]
        · rw [if_neg (fun g => k2 g.1)]
          by_cases k4 : c = 19
          · subst k4
            rw [bp_at, op_off (by decide), bp_off (by decide), f7 19 i (by omega) (by omega), ← h6 19 i (by unfold Kt; omega), bp_at, h4F 19 i (by omega) (by omega), m3 19 i (by decide) (by decide), h2.2 19 i (by omega), adA_get, if_neg (by omega), if_neg (by omega), if_neg (by omega), if_neg (by omega), if_neg (by omega), if_neg (by omega), can]
          · rw [bp_off k4]
            by_cases k5 : c = 28
            · subst k5
              have hi : i < 8 * T.length := Kt_28 kt
              rw [op_28, bp_off (by decide), ← h7 28 i (by unfold Kr; omega), ← hM3, op_28, bp_off (by decide), m2 28 i (by omega) (by omega) (by omega), op_cancel]
            · rw [op_off k5]
              by_cases k6 : c = 18
              · subst k6
                rw [bp_at, f7 18 i (by omega) (by omega), ← h6 18 i (by unfold Kt; omega), bp_off (by decide), h4F 18 i (by omega) (by omega), ← hM3, op_off (by decide), bp_at, h2.2 18 i (by omega), adA_get, if_neg (by omega), if_neg (by omega), if_neg (by omega), if_neg (by omega), if_neg (by omega), if_neg (by omega), can]
              · rw [bp_off k6]
                by_cases k7 : Kr (T.length + 1) (jc S T) c i
                · rw [← h7 c i k7, m3 c i k6 k5, m2 c i (Kt_b kt k7).1 (Kt_b kt k7).2 k1]
                · obtain ⟨kt2, z1, z2, z3⟩ := Kt_a (J2 := jc S (T ++ [(q, k, u)])) kt k7
                  rw [f7 c i (fun g => z1 ⟨g.1, by omega⟩) z2, M6M c i kt2 z1 (by omega) z2 k1 z3]
    · intro c i c1 c2 c3 c4
      rw [st_get, st_get, if_neg c4, if_neg (by omega), bp_off (by omega), op_off (by omega), bp_off (by omega), f7 c i c1 c3]

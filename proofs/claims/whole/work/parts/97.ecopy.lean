/-! The reference copies a game and restores it. -/
def Cp (M : Me) (lv : Nat) (g : Gm) : Prop := (∀ x, x < 192 → M 16 (210 * lv + x) = dv (gO g x)) ∧ (∀ p, p < 3 → M 16 (210 * lv + 192 + p) = nI (gP g p) ∧ M 16 (210 * lv + 195 + p) = nI (gF g p)) ∧ M 16 (210 * lv + 198) = nI (gW g) ∧ M 16 (210 * lv + 199) = nI (gX g) ∧ M 16 (210 * lv + 200) = dv (gD g) ∧ M 16 (210 * lv + 201) = nI (gA g) ∧ M 16 (210 * lv + 202) = 0 ∧ M 16 (210 * lv + 203) = nI (gT g).length
theorem Cp_keep {M M2 : Me} {lv : Nat} {g : Gm} (h : Cp M lv g) (e : ∀ i, 210 * lv ≤ i → i < 210 * lv + 210 → M2 16 i = M 16 i) : Cp M2 lv g := by
  obtain ⟨h1, h2, h3, h4, h5, h6, h7, h8⟩ := h
  refine ⟨fun x hx => ?_, fun p hp => ?_, ?_, ?_, ?_, ?_, ?_, ?_⟩
  · rw [e _ (by omega) (by omega)]; exact h1 x hx
  · rw [e _ (by omega) (by omega), e _ (by omega) (by omega)]; exact h2 p hp
  · rw [e _ (by omega) (by omega)]; exact h3
  · rw [e _ (by omega) (by omega)]; exact h4
  · rw [e _ (by omega) (by omega)]; exact h5
  · rw [e _ (by omega) (by omega)]; exact h6
  · rw [e _ (by omega) (by omega)]; exact h7
  · rw [e _ (by omega) (by omega)]; exact h8
theorem y_copy {S : Su} {np : Nat} {g : Gm} {M : Me} {lv : Nat} (hlv : lv ≤ 1) (h : RY M S np g) (hL : gL g = false) : ∃ M2, qf_X7_copy (nI lv) M = some (0, M2) ∧ Cp M2 lv g ∧ ∀ c i, ¬ (c = 16 ∧ 210 * lv ≤ i ∧ i < 210 * lv + 210) → M2 c i = M c i := by
  obtain ⟨y1, y2, y3, y4, y5, y6, y7, y8, y9, y10, y11, y12⟩ := h
  have y11' : M 0 22 = 0 := by rw [y11, hL, if_neg (by decide)]
  have L1 := lp1_up (b := qo_X7_copy_8 (fun M => qb_X7_copy_35 (nI (210 * lv)) M) (nI (210 * lv))) (e := 192) (K := fun M => qb_X7_copy_35 (nI (210 * lv)) M) (P := fun i M2 => (∀ x, x < i → M2 16 (210 * lv + x) = dv (gO g x)) ∧ ∀ c k, ¬ (c = 16 ∧ 210 * lv ≤ k ∧ k < 210 * lv + 192) → M2 c k = M c k) ?_ ?_ rx_FU 0 M (fu_lt (by decide)) (by decide) ⟨fun x hx => (by omega), fun _ _ _ => rfl⟩
  · obtain ⟨M1, ⟨p1, p2⟩, L1⟩ := L1
    have L2 := lp1_up (b := qo_X7_copy_37 (fun M => qb_X7_copy_84 (nI (210 * lv)) M) (nI (210 * lv))) (e := 3) (K := fun M => qb_X7_copy_84 (nI (210 * lv)) M) (P := fun i M2 => (∀ p, p < i → M2 16 (210 * lv + 192 + p) = nI (gP g p) ∧ M2 16 (210 * lv + 195 + p) = nI (gF g p)) ∧ ∀ c k, ¬ (c = 16 ∧ 210 * lv + 192 ≤ k ∧ k < 210 * lv + 198) → M2 c k = M1 c k) ?_ ?_ rx_FU 0 M1 (fu_lt (by decide)) (by decide) ⟨fun p hp => (by omega), fun _ _ _ => rfl⟩
    · obtain ⟨M2, ⟨q1, q2⟩, L2⟩ := L2
      have f0 : ∀ i, M2 0 i = M 0 i := fun i => by rw [q2 0 i (by omega), p2 0 i (by omega)]
      let N : Me := rx_st (rx_st (rx_st (rx_st (rx_st (rx_st M2 16 (210 * lv + 198) (nI (gW g))) 16 (210 * lv + 199) (nI (gX g))) 16 (210 * lv + 200) (dv (gD g))) 16 (210 * lv + 201) (nI (gA g))) 16 (210 * lv + 202) 0) 16 (210 * lv + 203) (nI (gT g).length)
      have e : ∀ c i, N c i = if c = 16 ∧ i = 210 * lv + 203 then nI (gT g).length else if c = 16 ∧ i = 210 * lv + 202 then 0 else if c = 16 ∧ i = 210 * lv + 201 then nI (gA g) else if c = 16 ∧ i = 210 * lv + 200 then dv (gD g) else if c = 16 ∧ i = 210 * lv + 199 then nI (gX g) else if c = 16 ∧ i = 210 * lv + 198 then nI (gW g) else M2 c i := by
        intro c i
        show rx_st _ _ _ _ c i = _
        simp only [st_get]
      have off : ∀ c i, ¬ (c = 16 ∧ 210 * lv + 198 ≤ i ∧ i < 210 * lv + 204) → N c i = M2 c i := by
        intro c i h
        rw [e, if_neg (by omega), if_neg (by omega), if_neg (by omega), if_neg (by omega), if_neg (by omega), if_neg (by omega)]
      refine ⟨N, ?_, ⟨fun x hx => ?_, fun p hp => ?_, ?_, ?_, ?_, ?_, ?_, ?_⟩, fun c i hc => ?_⟩
      · have L1 : rx_lp1 (qo_X7_copy_8 (fun M => qb_X7_copy_35 (nI (210 * lv)) M) (nI (210 * lv))) rx_FU 0 M = qb_X7_copy_35 (nI (210 * lv)) M1 := L1
        have L2 : qb_X7_copy_35 (nI (210 * lv)) M1 = qb_X7_copy_84 (nI (210 * lv)) M2 := L2
        unfold qf_X7_copy
        rw [kn_210, n_mul, n_vv, L1, L2]
        unfold qb_X7_copy_84 qb_X7_copy_161
        rw [n_vv, f0, y7, kn_198, n_add, n_sv (by omega) (by decide), n_vv, st_cell (by decide), f0, y8, kn_199, n_add, n_sv (by omega) (by decide), n_vv, st_cell (by decide), st_cell (by decide), f0, y9, kn_200, n_add, n_sv (by omega) (by decide), n_vv, st_cell (by decide), st_cell (by decide), st_cell (by decide), f0, y10, kn_201, n_add, n_sv (by omega) (by decide), n_vv, st_cell (by decide), st_cell (by decide), st_cell (by decide), st_cell (by decide), f0, y11', if_pos rfl, kn_202, n_add, n_sv (by omega) (by decide), n_vv, st_cell (by decide), st_cell (by decide), st_cell (by decide), st_cell (by decide), st_cell (by decide), f0, y2.1, kn_203, n_add, n_sv (by omega) (by decide)]
      · rw [off 16 _ (by omega), q2 16 _ (by omega)]; exact p1 x hx
      · rw [off 16 _ (by omega), off 16 _ (by omega)]; exact q1 p hp
      · rw [e, if_neg (by omega), if_neg (by omega), if_neg (by omega), if_neg (by omega), if_neg (by omega), if_pos ⟨rfl, rfl⟩]
      · rw [e, if_neg (by omega), if_neg (by omega), if_neg (by omega), if_neg (by omega), if_pos ⟨rfl, rfl⟩]
      · rw [e, if_neg (by omega), if_neg (by omega), if_neg (by omega), if_pos ⟨rfl, rfl⟩]
      · rw [e, if_neg (by omega), if_neg (by omega), if_pos ⟨rfl, rfl⟩]
      · rw [e, if_neg (by omega), if_pos ⟨rfl, rfl⟩]
      · rw [e, if_pos ⟨rfl, rfl⟩]
      · rw [off c i (by omega), q2 c i (by omega), p2 c i (by omega)]
    · intro rec i M2 hi hP
      obtain ⟨q1, q2⟩ := hP
      refine ⟨rx_st (rx_st M2 16 (210 * lv + 192 + i) (nI (gP g i))) 16 (210 * lv + 195 + i) (nI (gF g i)), ⟨fun p hp => ?_, fun c k hc => ?_⟩, ?_⟩
      · by_cases c1 : p = i
        · subst c1
          exact ⟨by rw [st_get, if_neg (by omega), st_same], st_same _ _ _ _⟩
        · refine ⟨?_, ?_⟩
          · rw [st_get, if_neg (by omega), st_get, if_neg (by omega)]; exact (q1 p (by omega)).1
          · rw [st_get, if_neg (by omega), st_get, if_neg (by omega)]; exact (q1 p (by omega)).2
      · rw [st_get, if_neg (by omega), st_get, if_neg (by omega)]; exact q2 c k hc
      · unfold qo_X7_copy_37
        rw [kn_3, i_le (by decide) (by omega), if_neg (by omega), n_ld hi (by decide), q2 12 i (by omega), p2 12 i (by omega), (y6 i hi).1, kn_192, n_add, n_add, n_sv (by omega) (by decide), n_ld hi (by decide), st_cell (by decide), q2 13 i (by omega), p2 13 i (by omega), (y6 i hi).2, kn_195, n_add, n_add, n_sv (by omega) (by decide), n_vv, kn_1, n_add]
    · intro rec M2 _
      unfold qo_X7_copy_37
      rw [kn_3, i_le (by decide) (by decide), if_pos (by decide)]
  · intro rec i M2 hi hP
    obtain ⟨p1, p2⟩ := hP
    refine ⟨rx_st M2 16 (210 * lv + i) (dv (gO g i)), ⟨fun x hx => ?_, fun c k hc => ?_⟩, ?_⟩
    · by_cases c1 : x = i
      · rw [c1]; exact st_same _ _ _ _
      · rw [st_get, if_neg (by omega)]; exact p1 x (by omega)
    · rw [st_get, if_neg (by omega)]; exact p2 c k hc
    · unfold qo_X7_copy_8
      rw [kn_192, i_le (by decide) (by omega), if_neg (by omega), n_ld hi (by decide), p2 11 i (by omega), y5 i hi, n_add, n_sv (by omega) (by decide), n_vv, kn_1, n_add]
  · intro rec M2 _
    unfold qo_X7_copy_8
    rw [kn_192, i_le (by decide) (by decide), if_pos (by decide)]
theorem y_restore {S : Su} {np : Nat} {g h : Gm} {M : Me} {lv : Nat} {x : Nat × Nat × Nat} (hlv : lv ≤ 1) (hwt : wfTl S (gT g ++ [x])) (hx : ta (gT g) x.1 = none) (hT : gT h = gT g ++ [x]) (hL : gL g = false) (hR : RY M S np h) (hC : Cp M lv g) : ∃ M2, qf_X7_restore (nI lv) M = some (0, M2) ∧ RY M2 S np g ∧ ∀ c i, ¬ Ky c i → M2 c i = M c i := by
  obtain ⟨y1, y2, y3, y4, y5, y6, y7, y8, y9, y10, y11, y12⟩ := hR
  obtain ⟨k1, k2, k3, k4, k5, k6, k7, k8⟩ := hC
  rw [hT] at y2
  have hl : (gT g ++ [x]).length = (gT g).length + 1 := by simp
  have h24 := hwt.1
  obtain ⟨n, hn⟩ : ∃ n, (gT g).length = n := ⟨_, rfl⟩
  rw [hl] at h24
  have hin : inb x.1 := by
    have := (hwt.2.1 (gT g).length (by omega)).2.2
    rw [snoc_eq.1] at this
    exact this
  have hxt := y2.2.1 (gT g).length (by omega)
  rw [snoc_eq.1] at hxt
  have L1 := lp1_up (b := qo_X7_restore_8 (fun M => qb_X7_restore_35 (nI (210 * lv)) M) (nI (210 * lv))) (e := 192) (K := fun M => qb_X7_restore_35 (nI (210 * lv)) M) (P := fun i M2 => (∀ x, x < i → M2 11 x = dv (gO g x)) ∧ ∀ c k, c ≠ 11 → M2 c k = M c k) ?_ ?_ rx_FU 0 M (fu_lt (by decide)) (by decide) ⟨fun x hx => (by omega), fun _ _ _ => rfl⟩
  · obtain ⟨M1, ⟨p1, p2⟩, L1⟩ := L1
    have L2 := lp1_up (b := qo_X7_restore_37 (fun M => qb_X7_restore_84 (nI (210 * lv)) M) (nI (210 * lv))) (e := 3) (K := fun M => qb_X7_restore_84 (nI (210 * lv)) M) (P := fun i M2 => (∀ p, p < i → M2 12 p = nI (gP g p) ∧ M2 13 p = nI (gF g p)) ∧ ∀ c k, c ≠ 12 → c ≠ 13 → M2 c k = M1 c k) ?_ ?_ rx_FU 0 M1 (fu_lt (by decide)) (by decide) ⟨fun p hp => (by omega), fun _ _ _ _ => rfl⟩
    · obtain ⟨M2, ⟨q1, q2⟩, L2⟩ := L2
      have f : ∀ c i, c ≠ 11 → c ≠ 12 → c ≠ 13 → M2 c i = M c i := fun c i h1 h2 h3 => by rw [q2 c i h2 h3, p2 c i h1]
      have f16 : ∀ i, M2 16 i = M 16 i := fun i => f 16 i (by decide) (by decide) (by decide)
      let N : Me := rx_st (rx_st (rx_st (rx_st (rx_st M2 0 18 (nI (gW g))) 0 19 (nI (gX g))) 0 20 (dv (gD g))) 0 21 (nI (gA g))) 0 22 0
      have eN : ∀ c i, N c i = if c = 0 ∧ i = 22 then 0 else if c = 0 ∧ i = 21 then nI (gA g) else if c = 0 ∧ i = 20 then dv (gD g) else if c = 0 ∧ i = 19 then nI (gX g) else if c = 0 ∧ i = 18 then nI (gW g) else M2 c i := by
        intro c i
        show rx_st _ _ _ _ c i = _
        simp only [st_get]
      have offN : ∀ c i, ¬ (c = 0 ∧ 18 ≤ i ∧ i ≤ 22) → N c i = M2 c i := by
        intro c i h
        rw [eN, if_neg (by omega), if_neg (by omega), if_neg (by omega), if_neg (by omega), if_neg (by omega)]
      let N2 : Me := rx_st (rx_st (rx_st N 0 9 (nI n)) 10 (19 * (x.1 / 21) + x.1 % 21 - 20) (-1)) 0 26 0
      have e2 : ∀ c i, N2 c i = if c = 0 ∧ i = 26 then 0 else if c = 10 ∧ i = 19 * (x.1 / 21) + x.1 % 21 - 20 then -1 else if c = 0 ∧ i = 9 then nI n else N c i := by
        intro c i
        show rx_st _ _ _ _ c i = _
        simp only [st_get]
      have off2 : ∀ c i, ¬ (c = 0 ∧ (i = 26 ∨ i = 9)) → c ≠ 10 → N2 c i = N c i := by
        intro c i h1 h2
        rw [e2, if_neg (by omega), if_neg (by omega), if_neg (by omega)]
      have offM : ∀ c i, ¬ (c = 0 ∧ (i = 26 ∨ i = 9 ∨ (18 ≤ i ∧ i ≤ 22))) → ¬ (10 ≤ c ∧ c ≤ 13) → N2 c i = M c i := by
        intro c i h1 h2
        rw [off2 c i (by omega) (by omega), offN c i (by omega), f c i (by omega) (by omega) (by omega)]
      have hcell : 19 * (x.1 / 21) + x.1 % 21 - 20 < 361 := by
        obtain ⟨a1, a2, a3, a4⟩ := hin
        omega
      refine ⟨N2, ?_, ⟨SY_keep y1 (fun c i hc => offM c i (by omega) (by omega)), ⟨?_, fun t ht => ?_, fun p hp => ?_⟩, ?_, ?_, fun y hy => ?_, fun p hp => ?_, ?_, ?_, ?_, ?_, ?_, Or.inl ?_⟩, fun c i hc => offM c i (by unfold Ky at hc; omega) (by unfold Ky at hc; omega)⟩
      · have L1 : rx_lp1 (qo_X7_restore_8 (fun M => qb_X7_restore_35 (nI (210 * lv)) M) (nI (210 * lv))) rx_FU 0 M = qb_X7_restore_35 (nI (210 * lv)) M1 := L1
        have L2 : qb_X7_restore_35 (nI (210 * lv)) M1 = qb_X7_restore_84 (nI (210 * lv)) M2 := L2
        unfold qf_X7_restore
        rw [kn_210, n_mul, n_vv, L1, L2]
        unfold qb_X7_restore_84 qb_X7_restore_160
        rw [kn_198, n_add, n_ld (by omega) (by decide), f16, k3, n_vv, kn_199, n_add, n_ld (by omega) (by decide), st_cell (by decide), f16, k4, n_vv, kn_200, n_add, n_ld (by omega) (by decide), st_cell (by decide), st_cell (by decide), f16, k5, n_vv, kn_201, n_add, n_ld (by omega) (by decide), st_cell (by decide), st_cell (by decide), st_cell (by decide), f16, k6, n_vv, kn_202, n_add, n_ld (by omega) (by decide), st_cell (by decide), st_cell (by decide), st_cell (by decide), st_cell (by decide), f16, k7, if_neg (by decide), n_zb0, n_vv]
        show rx_lp0 (qo_X7_restore_163 (nI (210 * lv))) rx_FU N = _
        obtain ⟨ff, hff⟩ : ∃ ff, rx_FU = ff + 1 + 1 := ⟨rx_FU - 2, by have := rx_FUe; omega⟩
        have n9 : N 0 9 = nI (n + 1) := by rw [offN 0 9 (by omega), f 0 9 (by decide) (by decide) (by decide), y2.1, hl, hn]
        have n203 : N 16 (210 * lv + 203) = nI n := by rw [offN 16 _ (by omega), f16, k8, hn]
        have n7 : N 7 n = co (x.1 / 21) := by rw [offN 7 n (by omega), f 7 n (by decide) (by decide) (by decide), ← hn]; exact hxt.2.1
        have n6 : N 6 n = co (x.1 % 21) := by rw [offN 6 n (by omega), f 6 n (by decide) (by decide) (by decide), ← hn]; exact hxt.1
        rw [hff]
        show qo_X7_restore_163 (nI (210 * lv)) (rx_lp0 (qo_X7_restore_163 (nI (210 * lv))) (ff + 1)) N = _
        have one : qo_X7_restore_163 (nI (210 * lv)) (rx_lp0 (qo_X7_restore_163 (nI (210 * lv))) (ff + 1)) N = rx_lp0 (qo_X7_restore_163 (nI (210 * lv))) (ff + 1) N2 := by
          generalize rx_lp0 (qo_X7_restore_163 (nI (210 * lv))) (ff + 1) = rec
          unfold qo_X7_restore_163
          rw [n_vv, n9, kn_203, n_add, n_ld (by omega) (by decide), n203, i_le (by omega) (by omega), if_neg (by omega), n_vv, kn_1, n_sub (by omega), show n + 1 - 1 = n by omega, n_vv, n_vv, st_same, n_ld (by omega) (by decide), st_cell (by decide), n7, n_vv, n_ld (by omega) (by decide), st_cell (by decide), n6, co_cell hin, n_sv hcell (by decide), n_vv]
          rfl
        rw [one]
        show qo_X7_restore_163 (nI (210 * lv)) (rx_lp0 (qo_X7_restore_163 (nI (210 * lv))) ff) N2 = _
        generalize rx_lp0 (qo_X7_restore_163 (nI (210 * lv))) ff = rec
        have m9 : N2 0 9 = nI n := by rw [e2, if_neg (by omega), if_neg (by omega), if_pos ⟨rfl, rfl⟩]
        have m203 : N2 16 (210 * lv + 203) = nI n := by rw [off2 16 _ (by omega) (by decide)]; exact n203
        unfold qo_X7_restore_163
        rw [n_vv, m9, kn_203, n_add, n_ld (by omega) (by decide), m203, i_le (by omega) (by omega), if_pos (by omega)]
      · rw [e2, if_neg (by omega), if_neg (by omega), if_pos ⟨rfl, rfl⟩, hn]
      · have ht2 := y2.2.1 t (by omega)
        rw [(snoc_lt ht).1, (snoc_lt ht).2.1, (snoc_lt ht).2.2] at ht2
        rw [offM 6 t (by omega) (by omega), offM 7 t (by omega) (by omega), offM 8 t (by omega) (by omega), offM 9 t (by omega) (by omega)]
        exact ht2
      · rw [e2, if_neg (by omega)]
        by_cases hc : p = x.1
        · rw [hc, if_pos ⟨rfl, rfl⟩, atv_none hx]
        · rw [if_neg (fun q => hc (cell_inj hp hin q.2)), if_neg (by omega), offN 10 _ (by omega), f 10 _ (by decide) (by decide) (by decide), y2.2.2 p hp]
          unfold atv
          rw [ta_snoc]
          cases ta (gT g) p with
          | some t => rfl
          | none => rw [if_neg (fun q => hc q.symm)]
      · rw [offM 0 7 (by omega) (by omega)]; exact y3
      · rw [offM 0 8 (by omega) (by omega)]; exact y4
      · rw [off2 11 y (by omega) (by decide), offN 11 y (by omega), q2 11 y (by decide) (by decide)]; exact p1 y hy
      · rw [off2 12 p (by omega) (by decide), off2 13 p (by omega) (by decide), offN 12 p (by omega), offN 13 p (by omega)]; exact q1 p hp
      · rw [off2 0 18 (by omega) (by decide), eN, if_neg (by omega), if_neg (by omega), if_neg (by omega), if_neg (by omega), if_pos ⟨rfl, rfl⟩]
      · rw [off2 0 19 (by omega) (by decide), eN, if_neg (by omega), if_neg (by omega), if_neg (by omega), if_pos ⟨rfl, rfl⟩]
      · rw [off2 0 20 (by omega) (by decide), eN, if_neg (by omega), if_neg (by omega), if_pos ⟨rfl, rfl⟩]
      · rw [off2 0 21 (by omega) (by decide), eN, if_neg (by omega), if_pos ⟨rfl, rfl⟩]
      · rw [off2 0 22 (by omega) (by decide), eN, if_pos ⟨rfl, rfl⟩, hL, if_neg (by decide)]
      · rw [e2, if_pos ⟨rfl, rfl⟩]
    · intro rec i M2 hi hP
      obtain ⟨q1, q2⟩ := hP
      refine ⟨rx_st (rx_st M2 12 i (nI (gP g i))) 13 i (nI (gF g i)), ⟨fun p hp => ?_, fun c k c1 c2 => ?_⟩, ?_⟩
      · by_cases c1 : p = i
        · subst c1
          exact ⟨by rw [st_cell (by decide), st_same], st_same _ _ _ _⟩
        · rw [st_place c1, st_place c1, st_place c1, st_place c1]; exact q1 p (by omega)
      · rw [st_cell c2, st_cell c1]; exact q2 c k c1 c2
      · unfold qo_X7_restore_37
        rw [kn_3, i_le (by decide) (by omega), if_neg (by omega), kn_192, n_add, n_add, n_ld (by omega) (by decide), q2 16 _ (by decide) (by decide), p2 16 _ (by decide), (k2 i hi).1, n_sv hi (by decide), kn_195, n_add, n_add, n_ld (by omega) (by decide), st_cell (by decide), q2 16 _ (by decide) (by decide), p2 16 _ (by decide), (k2 i hi).2, n_sv hi (by decide), n_vv, kn_1, n_add]
    · intro rec M2 _
      unfold qo_X7_restore_37
      rw [kn_3, i_le (by decide) (by decide), if_pos (by decide)]
  · intro rec i M2 hi hP
    obtain ⟨p1, p2⟩ := hP
    refine ⟨rx_st M2 11 i (dv (gO g i)), ⟨fun x hx => ?_, fun c k hc => ?_⟩, ?_⟩
    · by_cases c1 : x = i
      · rw [c1]; exact st_same _ _ _ _
      · rw [st_place c1]; exact p1 x (by omega)
    · rw [st_cell hc]; exact p2 c k hc
    · unfold qo_X7_restore_8
      rw [kn_192, i_le (by decide) (by omega), if_neg (by omega), n_add, n_ld (by omega) (by decide), p2 16 _ (by decide), k1 i hi, n_sv hi (by decide), n_vv, kn_1, n_add]
  · intro rec M2 _
    unfold qo_X7_restore_8
    rw [kn_192, i_le (by decide) (by decide), if_pos (by decide)]

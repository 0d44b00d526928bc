/-! Questions that change nothing: drawn, game, fits, best. -/
theorem st_drawn : rl_step RR (fun M => qf_X6_drawn M) (fun M => qf_X7_drawn M) := by
  intro i MX MY hi hR
  have hR0 := hR
  obtain ⟨S, hw, hSY, hC, hF, hon⟩ := hR
  refine RR_same (r := MX 4 6) hR0 rfl ?_
  show qf_X7_drawn MY = some (MX 4 6, MY)
  unfold qf_X7_drawn
  rcases hon with h | ⟨np, ms, hnp, hl, hB, hY, -⟩
  · rw [n_vv, h.2, if_pos rfl, h.1.2.2.2.2.1]
  · obtain ⟨y1, y2, y3, y4, y5, y6, y7, y8, y9, y10, y11, y12⟩ := hY
    rw [n_vv, y3, if_neg (by decide), n_vv, y11, n_vv, y9, hB.now.2.2.2.2.1]
    cases e : gL (play S np ms) with
    | true => rw [if_pos rfl, if_pos rfl, if_neg (by decide)]
    | false => rw [if_neg (show ¬ (false = true) by decide), if_neg (show ¬ (false = true) by decide), if_pos rfl]
theorem i_kk {α : Type} {a : Int32} {x y : α} {d : Decidable (a < 0)} (h : a < 0) : @ite α (a < 0) d x y = x := if_pos h
theorem neg_ne {a : Int32} (h : a < 0) (k : Nat) (hk : k < 2147483648) : ¬ a = nI k := fun e => by
  rw [e] at h
  exact nI_pos hk h
theorem st_game (a : Int32) : rl_step RR (fun M => qf_X6_game a M) (fun M => qf_X7_game a M) := by
  intro i MX MY hi hR
  have hR0 := hR
  obtain ⟨S, hw, hSY, hC, hF, hon⟩ := hR
  show ∃ r MX1 MY1, qf_X6_game a MX = some (r, MX1) ∧ qf_X7_game a MY = some (r, MY1) ∧ _
  have h24 := hw.2.1
  by_cases hneg : a < 0
  · refine RR_same (r := -2) (fX := fun M => qf_X6_game a M) (fY := fun M => qf_X7_game a M) hR0 ?_ ?_
    · show qf_X6_game a MX = _
      unfold qf_X6_game
      rw [if_neg (show ¬ a = 0 from neg_ne hneg 0 (by decide)), if_neg (show ¬ a = 1 from neg_ne hneg 1 (by decide)), if_neg (show ¬ a = 2 from neg_ne hneg 2 (by decide)), if_neg (show ¬ a = 3 from neg_ne hneg 3 (by decide)), if_neg (show ¬ a = 4 from neg_ne hneg 4 (by decide)), if_neg (show ¬ a = 5 from neg_ne hneg 5 (by decide))]
    · show qf_X7_game a MY = _
      unfold qf_X7_game
      rw [if_pos hneg]
  · obtain ⟨k, hk, rfl⟩ := i32_nat hneg
    have x0 : ∀ j, j < 2147483648 → (nI k = nI j ↔ k = j) := fun j hj => nI_eq hk hj
    by_cases hk5 : k ≤ 5
    · have ex : qf_X6_game (nI k) MX = (if k = 0 then (rx_cl (qf_X2_toMove MX) fun r1 M2 => some (r1, M2)) else (if k = 1 then (some (MX 2 9, MX)) else (if k = 2 then (some (MX 4 8, MX)) else (if k = 3 then (rx_cl (qf_X2_steps MX) fun r5 M6 => some (r5, M6)) else (if k = 4 then (if MX 4 3 = 0 then (some (0, MX)) else (some (1, MX))) else (some (MX 1 9 - MX 4 7, MX))))))) := by
        unfold qf_X6_game
        simp only [n_vv]
        rw [i_z hk, i_one hk, kn_2, i_eq hk (by decide), kn_3, i_eq hk (by decide), kn_4, i_eq hk (by decide), kn_5, i_eq hk (by decide)]
        by_cases c0 : k = 0
        · rw [if_pos c0, if_pos c0]
        · rw [if_neg c0, if_neg c0]
          by_cases c1 : k = 1
          · rw [if_pos c1, if_pos c1]
          · rw [if_neg c1, if_neg c1]
            by_cases c2 : k = 2
            · rw [if_pos c2, if_pos c2]
            · rw [if_neg c2, if_neg c2]
              by_cases c3 : k = 3
              · rw [if_pos c3, if_pos c3]
              · rw [if_neg c3, if_neg c3]
                by_cases c4 : k = 4
                · rw [if_pos c4, if_pos c4]
                · rw [if_neg c4, if_neg c4, if_pos (by omega)]
      have ey : qf_X7_game (nI k) MY = (if MY 0 7 = 0 then (if k = 0 then (some ((-1), MY)) else (if k = 5 then (some (MY 0 5, MY)) else (some (0, MY)))) else (if k = 0 then (if MY 0 22 = 0 then (if MY 0 20 < 0 then (some ((-1), MY)) else (some (MY 0 18, MY))) else (some (MY 0 18, MY))) else (if k = 1 then (some (MY 0 9, MY)) else (if k = 2 then (some (MY 0 21, MY)) else (if k = 3 then (some (MY 0 23, MY)) else (if k = 4 then (if MY 0 22 = 0 then (some (0, MY)) else (some (1, MY))) else (some (MY 0 5 - MY 0 19, MY)))))))) := by
        unfold qf_X7_game qb_X7_game_90
        simp only [n_vv]
        rw [if_neg hneg, kn_5, i_le hk (by decide), if_pos hk5, i_z hk, i_eq hk (by decide), i_z hk, i_one hk, kn_2, i_eq hk (by decide), kn_3, i_eq hk (by decide), kn_4, i_eq hk (by decide)]
      rw [ex, ey]
      rcases hon with h | ⟨np, ms, hnp, hl, hB, hY, h23, hSA⟩
      · obtain ⟨⟨o1, o2, o3, o4, o5, o6, o7⟩, oy⟩ := h
        rw [oy, if_pos rfl]
        by_cases c0 : k = 0
        · rw [if_pos c0, if_pos c0]
          unfold qf_X2_toMove
          rw [n_vv, o5, if_pos rfl, n_vv, o4, if_pos rfl, n_cl]
          exact ⟨-1, MX, MY, rfl, rfl, RR_up hR0⟩
        · rw [if_neg c0, if_neg c0]
          by_cases c1 : k = 1
          · rw [if_pos c1, if_neg (by omega), o1.1.2.1]
            exact ⟨0, MX, MY, rfl, rfl, RR_up hR0⟩
          · rw [if_neg c1]
            by_cases c2 : k = 2
            · rw [if_pos c2, if_neg (by omega), o7]
              exact ⟨0, MX, MY, rfl, rfl, RR_up hR0⟩
            · rw [if_neg c2]
              by_cases c3 : k = 3
              · rw [if_pos c3, if_neg (by omega)]
                unfold qf_X2_steps
                rw [n_vv, o4, if_pos rfl, n_vv, o1.1.2.1, n_cl]
                exact ⟨0, MX, MY, rfl, rfl, RR_up hR0⟩
              · rw [if_neg c3]
                by_cases c4 : k = 4
                · rw [if_pos c4, o4, if_pos rfl, if_neg (show ¬ (k = 5) by omega)]
                  exact ⟨0, MX, MY, rfl, rfl, RR_up hR0⟩
                · rw [if_neg c4, if_pos (by omega), o6, o1.1.1.2.1, hSY.2.1]
                  exact ⟨nI (sL S).length, MX, MY, by rw [show (0 : Int32) = nI 0 from rfl, n_sub (by omega)]; rfl, rfl, RR_up hR0⟩
      · obtain ⟨y1, y2, y3, y4, y5, y6, y7, y8, y9, y10, y11, y12⟩ := hY
        obtain ⟨⟨t1, t2, t3, t4⟩, g2, g3, g5, g6, g7, g8⟩ := hB.now
        have hG := leg_WG hw hnp.1 hnp.2 ms hl
        rw [y3, if_neg (show ¬ ((1 : Int32) = 0) by decide)]
        by_cases c0 : k = 0
        · rw [if_pos c0, if_pos c0, y11, y9, y7]
          unfold qf_X2_toMove qb_X2_toMove_19
          simp only [n_vv]
          rw [g6, g3, g5]
          cases e : gL (play S np ms) with
          | true =>
            rw [if_pos rfl, if_pos rfl, if_pos rfl, if_neg (by decide), n_cl]
            exact ⟨nI (gW (play S np ms)), MX, MY, rfl, rfl, RR_up hR0⟩
          | false =>
            rw [if_neg (show ¬ (false = true) by decide), if_neg (show ¬ (false = true) by decide), if_pos rfl, if_pos rfl]
            cases ed : gD (play S np ms) with
            | none =>
              rw [if_pos (show dv none = -1 from rfl), if_pos (show dv none < 0 by decide), n_cl]
              exact ⟨-1, MX, MY, rfl, rfl, RR_up hR0⟩
            | some q =>
              have hq := hG.2.2.2.2.2.2.1 q ed
              have h12 := hw.1
              rw [show dv (some q) = nI q from rfl, i_m1 (by omega), i_neg (by omega), n_cl]
              exact ⟨nI (gW (play S np ms)), MX, MY, rfl, rfl, RR_up hR0⟩
        · rw [if_neg c0, if_neg c0]
          by_cases c1 : k = 1
          · rw [if_pos c1, if_pos c1, t1.1.2.1, y2.1]
            exact ⟨_, MX, MY, rfl, rfl, RR_up hR0⟩
          · rw [if_neg c1, if_neg c1]
            by_cases c2 : k = 2
            · rw [if_pos c2, if_pos c2, g8, y10]
              exact ⟨_, MX, MY, rfl, rfl, RR_up hR0⟩
            · rw [if_neg c2, if_neg c2]
              by_cases c3 : k = 3
              · rw [if_pos c3, if_pos c3, (x_steps hw hnp hl hB).1, n_cl, h23]
                exact ⟨_, MX, MY, rfl, rfl, RR_up hR0⟩
              · rw [if_neg c3, if_neg c3]
                by_cases c4 : k = 4
                · rw [if_pos c4, if_pos c4, g3, y11]
                  cases e : gL (play S np ms) with
                  | true =>
                    rw [if_pos rfl, if_neg (by decide), if_neg (by decide)]
                    exact ⟨1, MX, MY, rfl, rfl, RR_up hR0⟩
                  | false =>
                    rw [if_neg (show ¬ (false = true) by decide), if_pos rfl, if_pos rfl]
                    exact ⟨0, MX, MY, rfl, rfl, RR_up hR0⟩
                · rw [if_neg c4, if_neg c4, t1.1.1.2.1, g7, y1.2.1, y8]
                  exact ⟨_, MX, MY, rfl, rfl, RR_up hR0⟩
    · refine RR_same (r := -2) (fX := fun M => qf_X6_game (nI k) M) (fY := fun M => qf_X7_game (nI k) M) hR0 ?_ ?_
      · show qf_X6_game (nI k) MX = _
        unfold qf_X6_game
        rw [i_z hk, i_one hk, kn_2, i_eq hk (by decide), kn_3, i_eq hk (by decide), kn_4, i_eq hk (by decide), kn_5, i_eq hk (by decide), if_neg (by omega), if_neg (by omega), if_neg (by omega), if_neg (by omega), if_neg (by omega), if_neg (by omega)]
      · show qf_X7_game (nI k) MY = _
        unfold qf_X7_game
        rw [if_neg hneg, kn_5, i_le hk (by decide), if_neg hk5]
/-! spots told -/
theorem tell_x {j : Nat} (hj : j < 1764) : ((nI j / 4) - (nI j / 4) / 21 * 21) - 10 = co (j / 4 % 21) ∧ ((nI j / 4) / 21) - 10 = co (j / 4 / 21) ∧ nI j - nI j / 4 * 4 = nI (j % 4) := by
  rw [kn_4, n_div (by omega) (by decide) (by decide), kn_21, n_div (by omega) (by decide) (by decide), n_mul, n_sub (by omega), nat_rem, n_mul, n_sub (by omega), nat_rem]
  exact ⟨rfl, rfl, rfl⟩
theorem x_tell {M : Me} {j : Nat} {k : Int32} (hj : j < 1764) : qf_X6_tellSpot (nI j) k M = some (if k = 0 then co (j / 4 % 21) else if k = 1 then co (j / 4 / 21) else if k = 2 then nI (j % 4) else -100, M) := by
  obtain ⟨t1, t2, t3⟩ := tell_x hj
  unfold qf_X6_tellSpot
  rw [i_m1 (by omega), t1, t2, t3]
  by_cases c0 : k = 0
  · rw [if_pos c0, if_pos c0]
  · rw [if_neg c0, if_neg c0]
    by_cases c1 : k = 1
    · rw [if_pos c1, if_pos c1]
    · rw [if_neg c1, if_neg c1]
      by_cases c2 : k = 2
      · rw [if_pos c2, if_pos c2]
      · rw [if_neg c2, if_neg c2]
theorem x_tellNone {M : Me} {k : Int32} : qf_X6_tellSpot (-1) k M = some (-100, M) := by
  unfold qf_X6_tellSpot
  rw [if_pos rfl]
theorem st_best (a : Int32) : rl_step RR (fun M => qf_X6_best a M) (fun M => qf_X7_best a M) := by
  intro i MX MY hi hR
  have hR0 := hR
  obtain ⟨S, hw, hSY, hC, hF, hon⟩ := hR
  show ∃ r MX1 MY1, qf_X6_best a MX = some (r, MX1) ∧ qf_X7_best a MY = some (r, MY1) ∧ _
  unfold qf_X6_best qf_X7_best
  simp only [n_vv]
  rcases hF with ⟨f1, f2⟩ | ⟨b, f1, f2, f3, f4, f5⟩
  · rw [f1, f2, if_pos rfl, if_pos rfl, x_tellNone, n_cl, ite_self]
    exact ⟨-100, MX, MY, rfl, rfl, RR_up hR0⟩
  · obtain ⟨l0, l1, l2, l3⟩ := f4
    rw [f2, f3, f5, if_neg (show ¬ ((1 : Int32) = 0) by decide), i_m1 (by omega), x_tell (by omega), n_cl]
    by_cases hneg : a < 0
    · rw [if_pos hneg, if_neg (show ¬ a = 3 from neg_ne hneg 3 (by decide)), if_neg (show ¬ a = 0 from neg_ne hneg 0 (by decide)), if_neg (show ¬ a = 1 from neg_ne hneg 1 (by decide)), if_neg (show ¬ a = 2 from neg_ne hneg 2 (by decide))]
      exact ⟨-100, MX, MY, rfl, rfl, RR_up hR0⟩
    · obtain ⟨k, hk, rfl⟩ := i32_nat hneg
      rw [if_neg hneg, kn_3, i_eq hk (by decide), i_lt (by decide) hk, i_z hk, i_one hk, kn_2, i_eq hk (by decide)]
      by_cases h3 : 3 < k
      · rw [if_pos h3, if_neg (by omega), if_neg (by omega), if_neg (by omega), if_neg (by omega)]
        exact ⟨-100, MX, MY, rfl, rfl, RR_up hR0⟩
      · rw [if_neg h3, n_ld (show k < 4 by omega) (by decide)]
        have hk4 : k = 0 ∨ k = 1 ∨ k = 2 ∨ k = 3 := by omega
        rcases hk4 with rfl | rfl | rfl | rfl
        · rw [if_neg (by decide), if_pos rfl, l0]; exact ⟨_, MX, MY, rfl, rfl, RR_up hR0⟩
        · rw [if_neg (by decide), if_neg (by decide), if_pos rfl, l1]; exact ⟨_, MX, MY, rfl, rfl, RR_up hR0⟩
        · rw [if_neg (by decide), if_neg (by decide), if_neg (by decide), if_pos rfl, l2]; exact ⟨_, MX, MY, rfl, rfl, RR_up hR0⟩
        · rw [if_pos rfl, l3]; exact ⟨_, MX, MY, rfl, rfl, RR_up hR0⟩

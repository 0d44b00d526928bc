/-! Regions, players, the search. -/
theorem RR_lab {i : Nat} {S : Su} {np : Nat} {ms : List Mv} {MX MY M2 : Me} (hw : wfS S) (hC : XC MX (82400 * i)) (hF : FB MX MY) (hnp : 2 ≤ np ∧ np ≤ 3) (hl : leg S np ms) (hB : XB S np ms MX) (h23 : MY 0 23 = nI ms.length) (hSA : SA MY ms) (hY : RY M2 S np (play S np ms)) (e : ∀ d j, ¬ Ky d j → d ≠ 17 → M2 d j = MY d j) : RR (i + 7) MX M2 := ⟨S, hw, hY.1, hC.up (by omega), FB_keep hF (fun _ => rfl) (fun j => e 19 j (by unfold Ky; omega) (by decide)) (e 0 31 (by unfold Ky; omega) (by decide)), Or.inr ⟨np, ms, hnp, hl, hB, hY, by rw [e 0 23 (by unfold Ky; omega) (by decide)]; exact h23, SA_keep ms hSA (fun j _ => e 14 j (by unfold Ky; omega) (by decide))⟩⟩
theorem sr_region (a b c : Int32) : rl_step RR (fun M => qf_X6_region a b c M) (fun M => qf_X7_region a b c M) := by
  intro i MX MY hi hR
  have hR0 := hR
  obtain ⟨S, hw, hSY, hC, hF, hon⟩ := hR
  show ∃ r MX1 MY1, qf_X6_region a b c MX = some (r, MX1) ∧ qf_X7_region a b c MY = some (r, MY1) ∧ _
  have none' : ∀ {fX fY : Op}, fX = some (-1, MX) → fY = some (-1, MY) → ∃ r MX1 MY1, fX = some (r, MX1) ∧ fY = some (r, MY1) ∧ RR (i + 7) MX1 MY1 := fun h1 h2 => ⟨-1, MX, MY, h1, h2, RR_up hR0⟩
  have y17 : qb_X7_region_17 c (-1) MY = some (-1, MY) := by
    unfold qb_X7_region_17
    rw [if_pos (by decide)]
  rcases hon with h | ⟨np, ms, hnp, hl, hB, hY, h23, hSA⟩
  · obtain ⟨⟨o1, o2, o3, o4, o5, o6, o7⟩, oy⟩ := h
    refine none' ?_ ?_
    · unfold qf_X6_region
      rcases place_x (x := a) (y := b) MX with ⟨q, hq, rfl, rfl, h⟩ | ⟨h, _⟩
      · have hq' := hq
        obtain ⟨q1, q2, q3, q4⟩ := hq'
        rw [h, n_cl, if_neg (by decide), x_cellAt hq, n_cl, n_ld (by omega) (by decide), o1.1.2.2.2.1 q (by omega), show atv [] q = -1 from rfl, if_pos rfl, ite_self, ite_self]
      · rw [h, n_cl, if_pos rfl]
    · unfold qf_X7_region
      rw [n_vv, oy, if_pos rfl]
      exact y17
  · have hG := leg_WG hw hnp.1 hnp.2 ms hl
    have hX := hB.now
    have hwt := hG.2.1
    have h24 := hwt.1
    have runY : qf_X7_region a b c MY = (rx_cl (qf_X7_tileAt a b MY) fun r2 M3 => qb_X7_region_17 c r2 M3) := by
      unfold qf_X7_region
      rw [n_vv, hY.2.2.1, if_neg (by decide)]
    rw [runY]
    unfold qf_X6_region
    rcases place_x (x := a) (y := b) MX with ⟨q, hq, rfl, rfl, h⟩ | ⟨h, h2⟩
    · have hq' := hq
      obtain ⟨q1, q2, q3, q4⟩ := hq'
      have hta := y_tileAt hwt hY.2.1 (x := q % 21) (y := q / 21) (by omega) (by omega)
      rw [show 21 * (q / 21) + q % 21 = q by omega] at hta
      rw [h, n_cl, if_neg (by decide), x_cellAt hq, n_cl, n_ld (by omega) (by decide), hX.1.1.1.2.2.2.1 q (by omega), hta, n_cl]
      cases e : ta (gT (play S np ms)) q with
      | none =>
        rw [atv_none e, if_pos rfl, ite_self, ite_self]
        exact none' rfl y17
      | some t =>
        obtain ⟨ht, -⟩ := ta_some e
        rw [atv_some e, i_m1 (by omega)]
        unfold qb_X7_region_17
        rw [i_neg (by omega)]
        by_cases c1 : c < 0
        · rw [if_pos c1, if_pos c1]; exact none' rfl rfl
        · obtain ⟨k, hk, rfl⟩ := i32_nat c1
          rw [if_neg c1, if_neg c1, kn_8, i_lt hk (by decide), kn_7, i_lt (by decide) hk]
          by_cases hk8 : k < 8
          · have hx : 8 * t + k < 8 * (gT (play S np ms)).length := by omega
            have hkd := kdp_le hw hwt hx
            rw [if_pos hk8, if_neg (by omega), n_mul, n_add, show t * 8 + k = 8 * t + k by omega, x_kindOf hw hwt hX.1.1.1 hx, n_cl, i_z (by omega), n_mul, n_add, y_kindOfPiece hw hwt hY.1 hY.2.1 hx, n_cl, i_z (by omega)]
            by_cases h0 : kdp S (gT (play S np ms)) (8 * t + k) = 0
            · rw [if_pos h0, if_pos h0]; exact none' rfl rfl
            · obtain ⟨M2, l1, l2, l3, l4⟩ := RY_labels hw hwt hY
              rw [if_neg h0, if_neg h0, x_rootOf hX.1.1.2.2.1 (by omega) hx, n_cl, l1, n_cl, n_ld (by omega) (by decide), l3 _ (by omega)]
              exact ⟨_, MX, M2, rfl, rfl, RR_lab hw hC hF hnp hl hB h23 hSA l2 (fun d j hd _ => l4 d j (by unfold Ky at hd; omega) (by unfold Ky at hd; omega))⟩
          · rw [if_neg hk8, if_pos (by omega)]; exact none' rfl rfl
    · refine none' ?_ ?_
      · rw [h, n_cl, if_pos rfl]
      · unfold qf_X7_tileAt
        rw [h2, n_cl, if_pos rfl, n_cl]
        exact y17
theorem sr_about (a b : Int32) : rl_step RR (fun M => qf_X6_about a b M) (fun M => qf_X7_about a b M) := by
  intro i MX MY hi hR
  have hR0 := hR
  obtain ⟨S, hw, hSY, hC, hF, hon⟩ := hR
  show ∃ r MX1 MY1, qf_X6_about a b MX = some (r, MX1) ∧ qf_X7_about a b MY = some (r, MY1) ∧ _
  have none' : ∀ {fX fY : Op}, fX = some (-1, MX) → fY = some (-1, MY) → ∃ r MX1 MY1, fX = some (r, MX1) ∧ fY = some (r, MY1) ∧ RR (i + 7) MX1 MY1 := fun h1 h2 => ⟨-1, MX, MY, h1, h2, RR_up hR0⟩
  have noX : qf_X5_isRegion a MX = some (0, MX) → qf_X6_about a b MX = some (-1, MX) := fun h => by
    unfold qf_X6_about
    rw [h, n_cl, if_pos rfl]
  rcases hon with h | ⟨np, ms, hnp, hl, hB, hY, h23, hSA⟩
  · obtain ⟨⟨o1, o2, o3, o4, o5, o6, o7⟩, oy⟩ := h
    refine none' (noX ?_) ?_
    · unfold qf_X5_isRegion
      by_cases c1 : a < 0
      · rw [if_pos c1]; rfl
      · obtain ⟨k, hk, rfl⟩ := i32_nat c1
        rw [if_neg c1, n_vv, o1.1.2.1, kn_8, n_mul, i_le (by show 0 * 8 < _; decide) hk, if_pos (by show 0 * 8 ≤ k; omega)]
        rfl
    · unfold qf_X7_about
      rw [n_vv, oy, if_pos rfl]
  · have hG := leg_WG hw hnp.1 hnp.2 ms hl
    have hX := hB.now
    have hwt := hG.2.1
    have h24 := hwt.1
    by_cases c1 : a < 0
    · refine none' (noX ?_) ?_
      · unfold qf_X5_isRegion
        rw [if_pos c1]; rfl
      · unfold qf_X7_about
        rw [n_vv, hY.2.2.1, if_neg (by decide), if_pos c1]
    · obtain ⟨r, hr, rfl⟩ := i32_nat c1
      have hle := labs_le S (gT (play S np ms))
      have hlen8 : (gT (play S np ms)).length * 8 = 8 * (gT (play S np ms)).length := by omega
      by_cases hrl : 8 * (gT (play S np ms)).length ≤ r
      · refine none' (noX ?_) ?_
        · unfold qf_X5_isRegion
          rw [if_neg c1, n_vv, hX.1.1.1.2.1, kn_8, n_mul, i_le (by omega) hr, if_pos (by omega)]; rfl
        · unfold qf_X7_about
          rw [n_vv, hY.2.2.1, if_neg (by decide), if_neg c1, n_vv, hY.2.1.1, kn_8, n_mul, i_le (by omega) hr, if_pos hrl]
      · have hrl : r < 8 * (gT (play S np ms)).length := by omega
        have hkd := kdp_le hw hwt hrl
        obtain ⟨M2, l1, l2, l3, l4⟩ := RY_labels hw hwt hY
        have hYL : YL M2 S (gT (play S np ms)) := ⟨l2.1, l2.2.1, l3⟩
        have fin2 : RR (i + 7) MX M2 := RR_lab hw hC hF hnp hl hB h23 hSA l2 (fun d j hd _ => l4 d j (by unfold Ky at hd; omega) (by unfold Ky at hd; omega))
        have exR : qf_X5_isRegion (nI r) MX = some (flg (kdp S (gT (play S np ms)) r ≠ 0 ∧ labs S (gT (play S np ms)) r = r), MX) := by
          unfold qf_X5_isRegion
          rw [if_neg c1, n_vv, hX.1.1.1.2.1, kn_8, n_mul, i_le (by omega) hr, if_neg (by omega), x_kindOf hw hwt hX.1.1.1 hrl, n_cl, i_z (by omega), n_ld (by omega) (by decide), up_root hX.1.1.2.2.1 hle hrl (by omega)]
          by_cases k0 : kdp S (gT (play S np ms)) r = 0
          · rw [if_pos k0, flg_f (fun q => q.1 k0)]; rfl
          · rw [if_neg k0]
            by_cases k1 : labs S (gT (play S np ms)) r = r
            · rw [if_pos k1, flg_t ⟨k0, k1⟩]; rfl
            · rw [if_neg k1, flg_f (fun q => k1 q.2)]; rfl
        have runY : qf_X7_about (nI r) b MY = (if b < 0 then (some ((-1), MY)) else (if b ≤ 7 then (if kdp S (gT (play S np ms)) r = 0 then (some ((-1), M2)) else (if labs S (gT (play S np ms)) r = r then (if b = 0 then (some (nI (kdp S (gT (play S np ms)) r), M2)) else (if b = 1 then (some (nI (tcn S (gT (play S np ms)) r), M2)) else (if b = 2 then (some (nI (shn S (gT (play S np ms)) r), M2)) else (if b = 3 then (some (nI (opn S (gT (play S np ms)) r), M2)) else (if b = 4 then (rx_cl (qf_X7_isFinished (nI r) M2) fun r16 M17 => if r16 = 0 then (some (0, M17)) else (some (1, M17))) else (rx_cl (qf_X7_followersOf (nI r) (b - 5) M2) fun r18 M19 => some (r18, M19))))))) else (some ((-1), M2)))) else (some ((-1), MY)))) := by
          have hl3 := hle r
          unfold qf_X7_about
          rw [n_vv, hY.2.2.1, if_neg (show ¬ ((1 : Int32) = 0) by decide), if_neg c1, n_vv, hY.2.1.1, show (8 : Int32) = nI 8 from rfl, n_mul, i_le (by omega) hr, if_neg (by omega), l1, n_cl, y_kindOfPiece hw hwt l2.1 l2.2.1 hrl, n_cl, i_z (by omega), n_ld (by omega) (by decide), l3 r (by omega), i_eq (by omega) hr, y_kindOfPiece hw hwt l2.1 l2.2.1 hrl, n_cl, y_tilesOf hwt hYL (by omega), n_cl, y_shieldsOf hw hwt hYL (by omega), n_cl, y_openOf hw hwt hYL (by omega), n_cl]
        rw [runY]
        by_cases hreg : kdp S (gT (play S np ms)) r ≠ 0 ∧ labs S (gT (play S np ms)) r = r
        · have hroot := hX.1.1.2.2.1.2 r hrl hreg.2
          have ho := opn_le S (gT (play S np ms)) r
          have runX : qf_X6_about (nI r) b MX = (if b = 0 then (some (nI (kdp S (gT (play S np ms)) r), MX)) else (if b = 1 then (some (nI (tcn S (gT (play S np ms)) r), MX)) else (if b = 2 then (some (nI (shn S (gT (play S np ms)) r), MX)) else (if b = 3 then (some (nI (opn S (gT (play S np ms)) r), MX)) else (if b = 4 then (some (flg (fin S (gT (play S np ms)) r), MX)) else (if b = 5 then (some (nI (fl S (gT (play S np ms)) (gO (play S np ms)) r 0), MX)) else (if b = 6 then (some (nI (fl S (gT (play S np ms)) (gO (play S np ms)) r 1), MX)) else (if b = 7 then (some (nI (fl S (gT (play S np ms)) (gO (play S np ms)) r 2), MX)) else (some (-1, MX)))))))))) := by
            have hZ := hG.2.2.2.2.2.2.2.2.1
            have a0 : fl S (gT (play S np ms)) (gO (play S np ms)) r 0 ≤ 7 := fl7 (r := r) (p := 0) hZ
            have a1 : fl S (gT (play S np ms)) (gO (play S np ms)) r 1 ≤ 7 := fl7 (r := r) (p := 1) hZ
            have a2 : fl S (gT (play S np ms)) (gO (play S np ms)) r 2 ≤ 7 := fl7 (r := r) (p := 2) hZ
            have em : MX 29 r = nI (fl S (gT (play S np ms)) (gO (play S np ms)) r 0 + 16 * fl S (gT (play S np ms)) (gO (play S np ms)) r 1 + 256 * fl S (gT (play S np ms)) (gO (play S np ms)) r 2) := by
              rw [hroot.2.2.2]
              congr 1
              exact mnn_fl (fun x p hx => by have : p < np := (hZ.1 x p hx).2.1; omega) r
            have m5 : ∀ p, p < 3 → qf_X6_menOf (MX 29 r) (nI p) MX = some (nI (fl S (gT (play S np ms)) (gO (play S np ms)) r p), MX) := by
              intro p hp
              rw [em, x_menOf (by omega) (by omega) (by omega) hp, fl_pick hp]
            unfold qf_X6_about
            rw [exR, n_cl, flg_t hreg, if_neg (show ¬ ((1 : Int32) = 0) by decide), x_kindOf hw hwt hX.1.1.1 hrl, n_cl, n_ld (by omega) (by decide), hroot.1, x_popR hwt, n_cl, n_ld (by omega) (by decide), hroot.2.1, n_ld (by omega) (by decide), hroot.2.2.1, x_isFin hw hwt hX.1.1 hrl hreg.2, n_cl, n_ld (by omega) (by decide)]
            by_cases b0' : b = 0
            · rw [if_pos b0', if_pos b0']
            · rw [if_neg b0', if_neg b0']
              by_cases b1' : b = 1
              · rw [if_pos b1', if_pos b1']
              · rw [if_neg b1', if_neg b1']
                by_cases b2' : b = 2
                · rw [if_pos b2', if_pos b2']; rfl
                · rw [if_neg b2', if_neg b2']
                  by_cases b3' : b = 3
                  · rw [if_pos b3', if_pos b3']; rfl
                  · rw [if_neg b3', if_neg b3']
                    by_cases b4' : b = 4
                    · rw [if_pos b4', if_pos b4']
                      by_cases hf : fin S (gT (play S np ms)) r
                      · rw [flg_t hf, if_neg (by decide)]
                      · rw [flg_f hf, if_pos rfl]
                    · rw [if_neg b4', if_neg b4']
                      by_cases b5' : b = 5
                      · rw [if_pos b5', if_pos b5', b5', show (5 : Int32) - 5 = nI 0 from by decide, m5 0 (by decide), n_cl]
                      · rw [if_neg b5', if_neg b5']
                        by_cases b6' : b = 6
                        · rw [if_pos b6', if_pos b6', b6', show (6 : Int32) - 5 = nI 1 from by decide, m5 1 (by decide), n_cl]
                        · rw [if_neg b6', if_neg b6']
                          by_cases b7' : b = 7
                          · rw [if_pos b7', if_pos b7', b7', show (7 : Int32) - 5 = nI 2 from by decide, m5 2 (by decide), n_cl]
                          · rw [if_neg b7', if_neg b7']
          have hZ := hG.2.2.2.2.2.2.2.2.1
          have ho3 : ∀ x p, gO (play S np ms) x = some p → p < 3 := fun x p hx => by have : p < np := (hZ.1 x p hx).2.1; omega
          rw [runX, if_neg hreg.1, if_pos hreg.2]
          by_cases hbn : b < 0
          · rw [if_pos hbn, if_neg (show ¬ b = 0 from neg_ne hbn 0 (by decide)), if_neg (show ¬ b = 1 from neg_ne hbn 1 (by decide)), if_neg (show ¬ b = 2 from neg_ne hbn 2 (by decide)), if_neg (show ¬ b = 3 from neg_ne hbn 3 (by decide)), if_neg (show ¬ b = 4 from neg_ne hbn 4 (by decide)), if_neg (show ¬ b = 5 from neg_ne hbn 5 (by decide)), if_neg (show ¬ b = 6 from neg_ne hbn 6 (by decide)), if_neg (show ¬ b = 7 from neg_ne hbn 7 (by decide))]
            exact none' rfl rfl
          · obtain ⟨k, hk, rfl⟩ := i32_nat hbn
            rw [if_neg hbn, show (7 : Int32) = nI 7 from rfl, i_le hk (by decide)]
            by_cases hk7 : k ≤ 7
            · rw [if_pos hk7]
              have hk8 : k = 0 ∨ k = 1 ∨ k = 2 ∨ k = 3 ∨ k = 4 ∨ k = 5 ∨ k = 6 ∨ k = 7 := by omega
              rcases hk8 with rfl | rfl | rfl | rfl | rfl | rfl | rfl | rfl
              · exact ⟨_, MX, M2, rfl, rfl, fin2⟩
              · exact ⟨_, MX, M2, rfl, rfl, fin2⟩
              · exact ⟨_, MX, M2, rfl, rfl, fin2⟩
              · exact ⟨_, MX, M2, rfl, rfl, fin2⟩
              · refine ⟨flg (fin S (gT (play S np ms)) r), MX, M2, rfl, ?_, fin2⟩
                show (rx_cl (qf_X7_isFinished (nI r) M2) fun r16 M17 => if r16 = 0 then (some (0, M17)) else (some (1, M17))) = _
                rw [y_isFinished hw hwt hYL hrl hreg.1, n_cl]
                by_cases hf : fin S (gT (play S np ms)) r
                · rw [flg_t hf, if_neg (by decide)]
                · rw [flg_f hf, if_pos rfl]
              · refine ⟨nI (fl S (gT (play S np ms)) (gO (play S np ms)) r 0), MX, M2, rfl, ?_, fin2⟩
                show (rx_cl (qf_X7_followersOf (nI r) (nI 0) M2) fun r18 M19 => some (r18, M19)) = _
                rw [y_followersOf hwt hYL l2.2.2.2.2.1 ho3 (by omega) (by decide), n_cl]
              · refine ⟨nI (fl S (gT (play S np ms)) (gO (play S np ms)) r 1), MX, M2, rfl, ?_, fin2⟩
                show (rx_cl (qf_X7_followersOf (nI r) (nI 1) M2) fun r18 M19 => some (r18, M19)) = _
                rw [y_followersOf hwt hYL l2.2.2.2.2.1 ho3 (by omega) (by decide), n_cl]
              · refine ⟨nI (fl S (gT (play S np ms)) (gO (play S np ms)) r 2), MX, M2, rfl, ?_, fin2⟩
                show (rx_cl (qf_X7_followersOf (nI r) (nI 2) M2) fun r18 M19 => some (r18, M19)) = _
                rw [y_followersOf hwt hYL l2.2.2.2.2.1 ho3 (by omega) (by decide), n_cl]
            · have hne : ∀ j, j ≤ 7 → ¬ nI k = nI j := fun j hj e => by have := n_inj hk (by omega) e; omega
              rw [if_neg hk7, if_neg (show ¬ nI k = 0 from hne 0 (by decide)), if_neg (show ¬ nI k = 1 from hne 1 (by decide)), if_neg (show ¬ nI k = 2 from hne 2 (by decide)), if_neg (show ¬ nI k = 3 from hne 3 (by decide)), if_neg (show ¬ nI k = 4 from hne 4 (by decide)), if_neg (show ¬ nI k = 5 from hne 5 (by decide)), if_neg (show ¬ nI k = 6 from hne 6 (by decide)), if_neg (hne 7 (by decide))]
              exact none' rfl rfl
        · rw [flg_f hreg] at exR
          rw [noX exR]
          by_cases hbn : b < 0
          · rw [if_pos hbn]; exact none' rfl rfl
          · rw [if_neg hbn]
            by_cases hb7 : b ≤ 7
            · rw [if_pos hb7]
              by_cases k0 : kdp S (gT (play S np ms)) r = 0
              · rw [if_pos k0]; exact ⟨-1, MX, M2, rfl, rfl, fin2⟩
              · rw [if_neg k0, if_neg (fun q => hreg ⟨k0, q⟩)]; exact ⟨-1, MX, M2, rfl, rfl, fin2⟩
            · rw [if_neg hb7]; exact none' rfl rfl
theorem sr_player (a b : Int32) : rl_step RR (fun M => qf_X6_player a b M) (fun M => qf_X7_player a b M) := by
  intro i MX MY hi hR
  have hR0 := hR
  obtain ⟨S, hw, hSY, hC, hF, hon⟩ := hR
  show ∃ r MX1 MY1, qf_X6_player a b MX = some (r, MX1) ∧ qf_X7_player a b MY = some (r, MY1) ∧ _
  have none' : ∀ {fX fY : Op}, fX = some (-1, MX) → fY = some (-1, MY) → ∃ r MX1 MY1, fX = some (r, MX1) ∧ fY = some (r, MY1) ∧ RR (i + 7) MX1 MY1 := fun h1 h2 => ⟨-1, MX, MY, h1, h2, RR_up hR0⟩
  unfold qf_X6_player qf_X7_player
  simp only [n_vv]
  rcases hon with h | ⟨np, ms, hnp, hl, hB, hY, h23, hSA⟩
  · rw [h.1.2.2.1, h.2, if_pos rfl, if_pos rfl]
    exact none' rfl rfl
  · have hG := leg_WG hw hnp.1 hnp.2 ms hl
    have hX := hB.now
    rw [hX.2.1, hY.2.2.1, if_neg (show ¬ ((1 : Int32) = 0) by decide), if_neg (show ¬ ((1 : Int32) = 0) by decide), hX.1.2.1, hY.2.2.2.1]
    by_cases c1 : a < 0
    · rw [if_pos c1, if_pos c1]; exact none' rfl rfl
    · obtain ⟨p, hp, rfl⟩ := i32_nat c1
      rw [if_neg c1, if_neg c1, i_lt hp (by omega), i_le (by omega) hp]
      by_cases hpn : p < np
      · have ld : ∀ (M : Me) (c : Nat) (k : Int32 → Op), rx_ld M c 3 (nI p) k = k (M c p) := fun _ _ _ => n_ld (by omega) (by decide)
        rw [if_pos hpn, if_neg (show ¬ (np ≤ p) by omega)]
        simp only [ld]
        rw [(hX.1.2.2.1 p (by omega)).1, (hX.1.2.2.1 p (by omega)).2, (hY.2.2.2.2.2.1 p (by omega)).1, (hY.2.2.2.2.2.1 p (by omega)).2]
        by_cases c2 : b < 0
        · rw [if_pos c2, if_neg (show ¬ b = 0 from neg_ne c2 0 (by decide)), if_neg (show ¬ b = 1 from neg_ne c2 1 (by decide)), if_neg (show ¬ b = 2 from neg_ne c2 2 (by decide))]
          exact none' rfl rfl
        · obtain ⟨k, hk, rfl⟩ := i32_nat c2
          rw [if_neg c2, i_z hk, i_one hk, kn_2, i_eq hk (by decide), i_le hk (by decide), i_le (by decide) hk, i_z hk]
          by_cases hk2 : k ≤ 2
          · rw [if_pos hk2]
            have hk3 : k = 0 ∨ k = 1 ∨ k = 2 := by omega
            rcases hk3 with rfl | rfl | rfl
            · exact ⟨_, MX, MY, rfl, rfl, RR_up hR0⟩
            · exact ⟨_, MX, MY, rfl, rfl, RR_up hR0⟩
            · obtain ⟨M2, a1, a2, a3, a4⟩ := x_reckon hw hG.2.1 hG.2.2.1 hnp.2 hX.1 hG.2.2.2.2.2.2.2.2.1 (show 82400 * i < 2147482000 by omega) hC
              obtain ⟨M3, b1', b2, b3, b4⟩ := y_count hw hG hY
              rw [if_neg (by decide), if_neg (by decide), if_pos rfl, if_pos (by decide), a1, n_cl, b1', n_cl, a2 p hpn, b3 p hpn]
              refine ⟨_, M2, M3, rfl, rfl, S, hw, b2.1, a3.up (by omega), FB_keep hF (fun j => a4 5 j (by decide) (by omega) (by decide)) (fun j => b4 19 j (by decide) (by omega) (by decide)) (b4 0 31 (by decide) (by omega) (by decide)), Or.inr ⟨np, ms, hnp, hl, hB.eq (fun c j kg => (a4 c j (by unfold Kg Kt at kg; omega) (by unfold Kg Kt at kg; omega) (by unfold Kg Kt at kg; omega)).symm), b2, by rw [b4 0 23 (by decide) (by omega) (by decide)]; exact h23, SA_keep ms hSA (fun j _ => b4 14 j (by decide) (by omega) (by decide))⟩⟩
          · rw [if_neg hk2, if_neg (by omega), if_neg (by omega), if_neg (by omega)]
            exact none' rfl rfl
      · rw [if_neg hpn, if_pos (by omega)]; exact none' rfl rfl
theorem sr_search (a : Int32) : rl_step RR (fun M => qf_X6_search a M) (fun M => qf_X7_search a M) := by
  intro i MX MY hi hR
  have hR0 := hR
  obtain ⟨S, hw, hSY, hC, hF, hon⟩ := hR
  show ∃ r MX1 MY1, qf_X6_search a MX = some (r, MX1) ∧ qf_X7_search a MY = some (r, MY1) ∧ _
  have same : ∀ (v : Int32) {fX fY : Op}, fX = some (v, MX) → fY = some (v, MY) → ∃ r MX1 MY1, fX = some (r, MX1) ∧ fY = some (r, MY1) ∧ RR (i + 7) MX1 MY1 := fun v _ _ h1 h2 => ⟨v, MX, MY, h1, h2, RR_up hR0⟩
  rcases hon with h | ⟨np, ms, hnp, hl, hB, hY, h23, hSA⟩
  · obtain ⟨⟨o1, o2, o3, o4, o5, o6, o7⟩, oy⟩ := h
    refine same (-1) ?_ ?_
    · unfold qf_X6_search
      rw [n_vv, o5, if_pos rfl]
    · unfold qf_X7_search qf_X7_isToLay
      rw [n_vv, oy, if_pos rfl, n_zb0, n_cl, if_pos rfl]
  · have hG := leg_WG hw hnp.1 hnp.2 ms hl
    have hX := hB.now
    obtain ⟨x1, x2⟩ := x_hand hB.now
    have h24 := hw.2.1
    have hXl := hG.2.2.2.2.2.1
    by_cases htl : gL (play S np ms) = false ∧ gD (play S np ms) ≠ none
    · cases hD : gD (play S np ms) with
      | none => exact absurd hD htl.2
      | some k =>
        have hL := htl.1
        have hk := hG.2.2.2.2.2.2.1 k hD
        have h12 := hw.1
        have e46 := x1 hL k hD
        have runX : qf_X6_search a MX = (if (sL S).length - gX (play S np ms) ≤ 1 then (if a < 1 then (some ((-2), MX)) else (if a ≤ 1500 then (rx_cl (qf_X4_seek a MX) fun r4 M5 => if r4 = 0 then (some ((-4), M5)) else (some (1000 + M5 5 5, M5))) else (some ((-2), MX)))) else (some ((-1), MX))) := by
          unfold qf_X6_search
          rw [n_vv, e46, i_m1 (by omega), n_vv, hX.1.1.1.1.2.1, n_vv, hX.2.2.2.2.2.1, n_sub hXl]
          rw [show (if nI ((sL S).length - gX (play S np ms)) ≤ 1 then _ else _ : Op) = if (sL S).length - gX (play S np ms) ≤ 1 then _ else _ from i_le (b := 1) (by omega) (by decide)]
          rfl
        have runY : qf_X7_search a MY = (if (sL S).length - gX (play S np ms) ≤ 1 then (if a < 1 then (some ((-2), MY)) else (if a ≤ 1500 then (rx_cl (qf_X7_copy 0 (rx_st MY 0 30 0)) fun r7 M8 => rx_lp2 (qo_X7_search_58 (fun a3 M => qb_X7_search_294 a a3 M) a (nI (gW (play S np ms)))) rx_FU (-100000) 0 M8) else (some ((-2), MY)))) else (some ((-1), MY))) := by
          unfold qf_X7_search
          rw [y_isToLay hw hG hY, n_cl, flg_t htl, if_neg (by decide), n_vv, hY.1.2.1, n_vv, hY.2.2.2.2.2.2.2.1, n_sub hXl, n_vv, hY.2.2.2.2.2.2.1, n_vv]
          rw [show (if nI ((sL S).length - gX (play S np ms)) ≤ 1 then _ else _ : Op) = if (sL S).length - gX (play S np ms) ≤ 1 then _ else _ from i_le (b := 1) (by omega) (by decide)]
        rw [runX, runY]
        by_cases hfew : (sL S).length - gX (play S np ms) ≤ 1
        · rw [if_pos hfew, if_pos hfew]
          by_cases c1 : a < 1
          · rw [if_pos c1, if_pos c1]; exact same (-2) rfl rfl
          · rw [if_neg c1, if_neg c1]
            have h0 : ¬ a < 0 := fun q => c1 (Int32.lt_trans q (by decide))
            obtain ⟨bud, hbud, rfl⟩ := i32_nat h0
            rw [kn_1500, i_le hbud (by decide), i_le hbud (by decide)]
            by_cases hb : bud ≤ 1500
            · rw [if_pos hb, if_pos hb]
              obtain ⟨sx1, sx2⟩ := x_seek (B := 82400 * i) hw hnp hl hL hD (by omega) hb hB hC
              obtain ⟨R, sy0, sy1, sy2⟩ := y_seek hw hG hL hD (leg_any hw hnp ms k hl hL hD) hb hY
              rw [sy0]
              by_cases hn : n0 S np (play S np ms) 15876 ≤ bud
              · obtain ⟨b, M2, a1, a2, a3, a4, a5, a6, a7⟩ := sx1 hn
                obtain ⟨b', M3, d1, d2, d3, d4, d5, d6⟩ := sy1 hn
                have hbb : b = b' := by rw [a1] at d1; exact Option.some.inj d1
                subst hbb
                rw [a2, n_cl, if_neg (by decide), a7, d2]
                exact ⟨_, M2, M3, rfl, rfl, S, hw, d3.1, a4.up (by omega), Or.inr ⟨b, okL_lt (bs_some a1).1, a5, a6, d4, d5⟩, Or.inr ⟨np, ms, hnp, hl, a3, d3, by rw [d6 0 23 (by unfold Ky; omega) (by omega) (by omega)]; exact h23, SA_keep ms hSA (fun j _ => d6 14 j (by unfold Ky; omega) (by omega) (by omega))⟩⟩
              · obtain ⟨M2, a1, a2, a3, a4⟩ := sx2 (by omega)
                obtain ⟨M3, d1, d2, d3⟩ := sy2 (by omega)
                rw [a1, n_cl, if_pos rfl, d1]
                exact ⟨-4, M2, M3, rfl, rfl, S, hw, d2.1, a3.up (by omega), FB_keep hF a4 (fun j => d3 19 j (by unfold Ky; omega) (by omega) (by omega) (by omega)) (d3 0 31 (by unfold Ky; omega) (by omega) (by omega) (by omega)), Or.inr ⟨np, ms, hnp, hl, a2, d2, by rw [d3 0 23 (by unfold Ky; omega) (by omega) (by omega) (by omega)]; exact h23, SA_keep ms hSA (fun j _ => d3 14 j (by unfold Ky; omega) (by omega) (by omega) (by omega))⟩⟩
            · rw [if_neg hb, if_neg hb]; exact same (-2) rfl rfl
        · rw [if_neg hfew, if_neg hfew]; exact same (-1) rfl rfl
    · refine same (-1) ?_ ?_
      · unfold qf_X6_search
        rw [n_vv, x2 htl, if_pos rfl]
      · unfold qf_X7_search
        rw [y_isToLay hw hG hY, n_cl, flg_f htl, if_pos rfl]

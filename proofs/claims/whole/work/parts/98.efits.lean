/-! Spots: fits and place. -/
theorem nth_u {P : Nat → Prop} {e i : Nat} {r r2 : Int32} (h : nth P e i r) (h2 : nth P e i r2) : r = r2 := by
  rcases h with ⟨j, a1, a2, a3, rfl⟩ | ⟨a1, rfl⟩
  · rcases h2 with ⟨k, b1', b2, b3, rfl⟩ | ⟨b1', rfl⟩
    · have h1 : ¬ j < k := fun q => by
        have c1 : cnt P (j + 1) = cnt P j + 1 := cnt_t a2
        have c2 : cnt P (j + 1) ≤ cnt P k := cnt_mono q
        omega
      have h3 : ¬ k < j := fun q => by
        have c1 : cnt P (k + 1) = cnt P k + 1 := cnt_t b2
        have c2 : cnt P (k + 1) ≤ cnt P j := cnt_mono q
        omega
      rw [show j = k by omega]
    · exfalso
      have c1 : cnt P (j + 1) = cnt P j + 1 := cnt_t a2
      have c2 : cnt P (j + 1) ≤ cnt P e := cnt_mono a1
      omega
  · rcases h2 with ⟨k, b1', b2, b3, rfl⟩ | ⟨b1', rfl⟩
    · exfalso
      have c1 : cnt P (k + 1) = cnt P k + 1 := cnt_t b2
      have c2 : cnt P (k + 1) ≤ cnt P e := cnt_mono b1'
      omega
    · rfl
theorem y_isToLay {S : Su} {np : Nat} {g : Gm} {M : Me} (hw : wfS S) (hG : WG S np g) (h : RY M S np g) : qf_X7_isToLay M = some (flg (gL g = false ∧ gD g ≠ none), M) := by
  obtain ⟨y1, y2, y3, y4, y5, y6, y7, y8, y9, y10, y11, y12⟩ := h
  have h12 := hw.1
  unfold qf_X7_isToLay
  rw [n_vv, y3, if_neg (by decide), n_vv, y11, n_vv, y9]
  cases e : gL g with
  | true => rw [if_pos rfl, if_neg (by decide), flg_f (fun q => by cases q.1)]; rfl
  | false =>
    rw [if_neg (show ¬ (false = true) by decide), if_pos rfl]
    cases ed : gD g with
    | none => rw [if_pos (show dv none < 0 by decide), flg_f (fun q => q.2 rfl)]; rfl
    | some k =>
      have hk := hG.2.2.2.2.2.2.1 k ed
      rw [show dv (some k) = nI k from rfl, i_neg (by omega), flg_t ⟨rfl, fun q => by cases q⟩]; rfl
theorem x_hand {S : Su} {np : Nat} {g : Gm} {M : Me} (h : XG M S np g) : (gL g = false → ∀ k, gD g = some k → M 4 6 = nI k) ∧ (¬ (gL g = false ∧ gD g ≠ none) → M 4 6 = -1) := by
  obtain ⟨-, -, -, -, g6, -⟩ := h
  rw [g6]
  constructor
  · intro hL k hD
    rw [hL, hD, if_neg (by decide)]; rfl
  · intro hno
    cases e : gL g with
    | true => rw [if_pos rfl]
    | false =>
      rw [if_neg (by decide)]
      cases ed : gD g with
      | none => rfl
      | some k => exact absurd ⟨e, by rw [ed]; exact fun q => by cases q⟩ hno
theorem st_fits (a b : Int32) : rl_step RR (fun M => qf_X6_fits a b M) (fun M => qf_X7_fits a b M) := by
  intro i MX MY hi hR
  have hR0 := hR
  obtain ⟨S, hw, hSY, hC, hF, hon⟩ := hR
  show ∃ r MX1 MY1, qf_X6_fits a b MX = some (r, MX1) ∧ qf_X7_fits a b MY = some (r, MY1) ∧ _
  have far : ∀ {fX fY : Op}, fX = some (-100, MX) → fY = some (-100, MY) → ∃ r MX1 MY1, fX = some (r, MX1) ∧ fY = some (r, MY1) ∧ RR (i + 7) MX1 MY1 := fun h1 h2 => ⟨-100, MX, MY, h1, h2, RR_up hR0⟩
  unfold qf_X6_fits qf_X7_fits
  simp only [n_vv]
  rcases hon with h | ⟨np, ms, hnp, hl, hB, hY, h23, hSA⟩
  · obtain ⟨⟨o1, o2, o3, o4, o5, o6, o7⟩, oy⟩ := h
    refine far ?_ ?_
    · rw [o5, if_pos rfl, ite_self, ite_self]
    · unfold qf_X7_isToLay
      rw [n_vv, oy, if_pos rfl, n_zb0, n_cl, if_pos rfl]
  · have hG := leg_WG hw hnp.1 hnp.2 ms hl
    obtain ⟨x1, x2⟩ := x_hand hB.now
    rw [y_isToLay hw hG hY, n_cl]
    by_cases htl : gL (play S np ms) = false ∧ gD (play S np ms) ≠ none
    · rw [flg_t htl, if_neg (show ¬ ((1 : Int32) = 0) by decide)]
      cases hD : gD (play S np ms) with
      | none => exact absurd hD htl.2
      | some k =>
        have hk := hG.2.2.2.2.2.2.1 k hD
        have h12 := hw.1
        have hX := hB.now
        have e46 := x1 htl.1 k hD
        have e20 : MY 0 20 = nI k := by rw [hY.2.2.2.2.2.2.2.2.1, hD]; rfl
        rw [e46, i_m1 (by omega), e20]
        by_cases ha : a < 0
        · rw [if_pos ha, if_pos ha]; exact far rfl rfl
        · obtain ⟨n, hn, rfl⟩ := i32_nat ha
          rw [if_neg ha, if_neg ha, kn_1764, i_le (by decide) hn]
          obtain ⟨r2, c1, c2⟩ := y_fitting hw hG.2.1 hY.1 hY.2.1 hk hn
          rw [c1, n_cl]
          have hP : ∀ j, fitS S (gT (play S np ms)) k j → inb (j / 4) := fun j hj => fitS_inb hj
          by_cases hbig : 1764 ≤ n
          · rw [if_pos hbig]
            have hr2 : r2 = -1 := by
              rcases c2 with ⟨j, d1, d2, d3, d4⟩ | ⟨d1, d2⟩
              · exfalso
                have := cnt_le (fun a => fitS S (gT (play S np ms)) k (ph a)) j
                omega
              · exact d2
            rw [hr2, if_neg (show ¬ ((0 : Int32) ≤ -1) by decide), ite_self, ite_self]
            exact far rfl rfl
          · obtain ⟨r, a1, a2⟩ := x_fitNumber hw hG.2.1 hG.2.2.2.1 hX.1.1.1.1 hX.1.1.1.2 hX.1.1.2.1 hk (i := n) (by omega)
            rw [if_neg hbig, a1, n_cl]
            rcases a2 with ⟨j, d1, d2, d3, rfl⟩ | ⟨d1, rfl⟩
            · obtain ⟨q, hq, rfl⟩ := ph_onto (hP j d2)
              have hr2 : r2 = nI q := nth_u c2 (Or.inl ⟨q, hq, d2, by rw [← ph_cnt hP]; exact d3, rfl⟩)
              obtain ⟨s1, s2, s3⟩ := y_spot hq
              have h0 : (0 : Int32) ≤ nI q := by
                have h1 : nI 0 ≤ nI q := by
                  rw [n_le (by decide) (by omega)]; omega
                exact h1
              rw [hr2, if_pos h0, s1, s2, s3, x_tell (by omega), n_cl]
              by_cases hb : b < 0
              · rw [if_pos hb, if_neg (show ¬ b = 0 from neg_ne hb 0 (by decide)), if_neg (show ¬ b = 1 from neg_ne hb 1 (by decide)), if_neg (show ¬ b = 2 from neg_ne hb 2 (by decide))]
                exact far rfl rfl
              · obtain ⟨m, hm, rfl⟩ := i32_nat hb
                rw [if_neg hb, i_z hm, i_one hm, kn_2, i_le hm (by decide), i_eq hm (by decide), i_z hm, i_one hm]
                by_cases hm2 : m ≤ 2
                · rw [if_pos hm2]
                  have hm3 : m = 0 ∨ m = 1 ∨ m = 2 := by omega
                  rcases hm3 with rfl | rfl | rfl
                  · exact ⟨_, MX, MY, rfl, rfl, RR_up hR0⟩
                  · exact ⟨_, MX, MY, rfl, rfl, RR_up hR0⟩
                  · exact ⟨_, MX, MY, rfl, rfl, RR_up hR0⟩
                · rw [if_neg hm2, if_neg (by omega), if_neg (by omega), if_neg (by omega)]
                  exact far rfl rfl
            · have hr2 : r2 = -1 := nth_u c2 (Or.inr ⟨by rw [← ph_all hP]; exact d1, rfl⟩)
              rw [x_tellNone, n_cl, hr2, if_neg (show ¬ ((0 : Int32) ≤ -1) by decide), ite_self, ite_self]
              exact far rfl rfl
    · refine far ?_ ?_
      · rw [x2 htl, if_pos rfl, ite_self, ite_self]
      · rw [flg_f htl, if_pos rfl]
/-! places -/
theorem co_of {a : Int32} (h1 : ¬ a < -9) (h2 : ¬ 9 < a) : ∃ x, 1 ≤ x ∧ x ≤ 19 ∧ a = co x := by
  have e1 : ¬ a.toInt < -9 := fun q => h1 (Int32.lt_iff_toInt_lt.mpr (by rw [show (-9 : Int32).toInt = -9 from by decide]; exact q))
  have e2 : ¬ 9 < a.toInt := fun q => h2 (Int32.lt_iff_toInt_lt.mpr (by rw [show (9 : Int32).toInt = 9 from by decide]; exact q))
  refine ⟨(a.toInt + 10).toNat, by omega, by omega, ?_⟩
  apply Int32.toInt_inj.mp
  have hc : ∀ n, n < 21 → (co n).toInt = (n : Int) - 10 := by decide
  rw [hc _ (by omega)]
  omega
theorem place_x {x y : Int32} (M : Me) : (∃ q, inb q ∧ x = co (q % 21) ∧ y = co (q / 21) ∧ qf_X6_isPlace x y M = some (1, M)) ∨ (qf_X6_isPlace x y M = some (0, M) ∧ ∀ M, qf_X7_isPlace x y M = some (0, M)) := by
  by_cases c1 : x < -9
  · right
    refine ⟨?_, fun M => ?_⟩
    · unfold qf_X6_isPlace; rw [if_pos c1]; rfl
    · unfold qf_X7_isPlace; rw [if_pos c1]; rfl
  · by_cases c2 : 9 < x
    · right
      refine ⟨?_, fun M => ?_⟩
      · unfold qf_X6_isPlace; rw [if_neg c1, if_pos c2]; rfl
      · unfold qf_X7_isPlace; rw [if_neg c1, if_pos c2]; rfl
    · by_cases c3 : y < -9
      · right
        refine ⟨?_, fun M => ?_⟩
        · unfold qf_X6_isPlace; rw [if_neg c1, if_neg c2, if_pos c3]; rfl
        · unfold qf_X7_isPlace; rw [if_neg c1, if_neg c2, if_pos c3]; rfl
      · by_cases c4 : 9 < y
        · right
          refine ⟨?_, fun M => ?_⟩
          · unfold qf_X6_isPlace; rw [if_neg c1, if_neg c2, if_neg c3, if_pos c4]; rfl
          · unfold qf_X7_isPlace; rw [if_neg c1, if_neg c2, if_neg c3, if_pos c4]; rfl
        · left
          obtain ⟨a, a1, a2, rfl⟩ := co_of c1 c2
          obtain ⟨b, b1', b2, rfl⟩ := co_of c3 c4
          refine ⟨21 * b + a, ?_, ?_, ?_, ?_⟩
          · unfold inb; omega
          · rw [show (21 * b + a) % 21 = a by omega]
          · rw [show (21 * b + a) / 21 = b by omega]
          · unfold qf_X6_isPlace; rw [if_neg c1, if_neg c2, if_neg c3, if_neg c4]; rfl
theorem x_cellAt {q : Nat} (hq : inb q) (M : Me) : qf_X6_cellAt (co (q % 21)) (co (q / 21)) M = some (nI q, M) := by
  obtain ⟨q1, q2, q3, q4⟩ := hq
  have h10 : ∀ n, n < 21 → co n + 10 = nI n := by decide
  unfold qf_X6_cellAt
  rw [h10 _ (by omega), kn_21, n_mul]
  have e : nI (q / 21 * 21) + co (q % 21) + 10 = nI (q / 21 * 21) + (co (q % 21) + 10) := Int32.add_assoc _ _ _
  rw [e, h10 _ (by omega), n_add, show q / 21 * 21 + q % 21 = q by omega]
theorem FB_none {MX MY : Me} (h1 : MX 5 3 = -1) (h2 : MY 0 31 = 0) : FB MX MY := Or.inl ⟨h1, h2⟩
theorem sr_place (a b c : Int32) : rl_step RR (fun M => qf_X6_place a b c M) (fun M => qf_X7_place a b c M) := by
  intro i MX MY hi hR
  have hR0 := hR
  obtain ⟨S, hw, hSY, hC, hF, hon⟩ := hR
  show ∃ r MX1 MY1, qf_X6_place a b c MX = some (r, MX1) ∧ qf_X7_place a b c MY = some (r, MY1) ∧ _
  have bad : ∀ {fX fY : Op}, fX = some (-2, MX) → fY = some (-2, MY) → ∃ r MX1 MY1, fX = some (r, MX1) ∧ fY = some (r, MY1) ∧ RR (i + 7) MX1 MY1 := fun h1 h2 => ⟨-2, MX, MY, h1, h2, RR_up hR0⟩
  rcases hon with h | ⟨np, ms, hnp, hl, hB, hY, h23, hSA⟩
  · obtain ⟨⟨o1, o2, o3, o4, o5, o6, o7⟩, oy⟩ := h
    refine bad ?_ ?_
    · unfold qf_X6_place
      rcases place_x (x := a) (y := b) MX with ⟨q, _, _, _, h⟩ | ⟨h, _⟩
      · rw [h, n_cl, if_neg (by decide), n_vv, o5, if_pos rfl, ite_self, ite_self]
      · rw [h, n_cl, if_pos rfl]
    · unfold qf_X7_place qf_X7_isToLay
      rw [n_vv, oy, if_pos rfl, n_zb0, n_cl, if_pos rfl]
  · have hG := leg_WG hw hnp.1 hnp.2 ms hl
    obtain ⟨x1, x2⟩ := x_hand hB.now
    by_cases htl : gL (play S np ms) = false ∧ gD (play S np ms) ≠ none
    · cases hD : gD (play S np ms) with
      | none => exact absurd hD htl.2
      | some k =>
        have hL := htl.1
        have hk := hG.2.2.2.2.2.2.1 k hD
        have h12 := hw.1
        have hX := hB.now
        have e46 := x1 hL k hD
        have e20 : MY 0 20 = nI k := by rw [hY.2.2.2.2.2.2.2.2.1, hD]; rfl
        have runY : qf_X7_place a b c MY = (rx_cl (qf_X7_fitsAt (nI k) a b c MY) fun r4 M5 => if r4 = 0 then (some ((-2), M5)) else (rx_cl (qf_X7_lay a b c M5) fun r6 M7 => rx_cl (qf_X7_note 1 a b c M7) fun r8 M9 => rx_vv (M9 0 9) fun v10 => some (v10 - 1, M9))) := by
          unfold qf_X7_place
          rw [y_isToLay hw hG hY, n_cl, flg_t htl, if_neg (by decide), n_vv, e20]
        rw [runY]
        unfold qf_X6_place
        rcases place_x (x := a) (y := b) MX with ⟨q, hq, rfl, rfl, h⟩ | ⟨h, h2⟩
        · rw [h, n_cl, if_neg (by decide), n_vv, e46]
          by_cases c1 : c < 0
          · refine bad ?_ ?_
            · rw [if_pos c1]
            · unfold qf_X7_fitsAt
              have := (y_isPlace (x := q % 21) (y := q / 21) (by obtain ⟨q1, q2, q3, q4⟩ := hq; omega) (by obtain ⟨q1, q2, q3, q4⟩ := hq; omega) MY).1 hq
              rw [this, n_cl, if_neg (by decide), if_pos c1, n_zb0, n_cl, if_pos rfl]
          · obtain ⟨u, hu, rfl⟩ := i32_nat c1
            by_cases hu4 : u < 4
            · have hq' := hq
              obtain ⟨q1, q2, q3, q4⟩ := hq'
              have hfa := y_fitsAt hw hG.2.1 hY.1 hY.2.1 hk hq hu4
              obtain ⟨r, n1, n2⟩ := x_next hw hG.2.1 hG.2.2.2.1 hX.1.1.1.1 hX.1.1.1.2 hX.1.1.2.1 hk (p := 4 * q + u) (by omega)
              have hfs : fitS S (gT (play S np ms)) k (4 * q + u) ↔ fit S (gT (play S np ms)) k q u := by
                unfold fitS
                rw [show (4 * q + u) / 4 = q by omega, show (4 * q + u) % 4 = u by omega]
              rw [if_neg c1, kn_4, i_le (by decide) hu, if_neg (by omega), i_m1 (by omega), x_cellAt hq, n_cl, n_mul, n_add, show q * 4 + u = 4 * q + u by omega, n_vv, n_vv, e46, n1, n_cl, hfa, n_cl]
              by_cases hf : fit S (gT (play S np ms)) k q u
              · have hr : r = nI (4 * q + u) := by
                  rcases n2 with ⟨j, d1, d2, d3, d4, d5⟩ | ⟨d1, d2⟩
                  · by_cases hj : j = 4 * q + u
                    · rw [d5, hj]
                    · exact absurd (hfs.mpr hf) (d4 (4 * q + u) (Nat.le_refl _) (by omega))
                  · exact absurd (hfs.mpr hf) (d1 (4 * q + u) (Nat.le_refl _) (by omega))
                have hB2 : XB S np ms (rx_st MX 5 3 (-1)) := hB.eq (fun c i kg => (st_cell (by unfold Kg Kt at kg; omega)).symm)
                obtain ⟨M2, a1, a2, a3⟩ := hB2.lay hw hG hL hD hf hu4
                obtain ⟨M3, b1', b2, b3⟩ := y_lay hw hG hY hL hD hf hu4
                have h323 : M3 0 23 = nI ms.length := by rw [b3 0 23 (by unfold Ky; omega)]; exact h23
                have hlen := (leg_len ms hl).2 hL
                have hroom := WG_room hw hG hL hD
                have hl24 : (gT (play S np ms) ++ [(q, k, u)]).length = (gT (play S np ms)).length + 1 := by simp
                have hok : okM S (play S np ms) (1, q, u) := by
                  unfold okM
                  rw [if_pos (show ((1, q, u) : Mv).1 = 1 from rfl)]
                  exact ⟨hL, k, hD, hf, hu4⟩
                have e29 : M2 2 9 = nI ((gT (play S np ms)).length + 1) := by
                  have := a2.now.1.1.1.2.1
                  rw [this]
                  show nI (gT (layG (play S np ms) q u)).length = _
                  rw [layG_T hD, hl24]
                rw [hr, if_pos rfl, flg_t hf, if_neg (by decide)]
                unfold qf_X4_forget
                rw [n_vv, n_cl, a1, n_cl, n_vv, e29, kn_1, n_sub (by omega), b1', n_cl, y_note h323 (by omega), n_cl, n_vv]
                have e09 : ntM M3 ms.length (nI 1) (co (q % 21)) (co (q / 21)) (nI u) 0 9 = nI ((gT (play S np ms)).length + 1) := by
                  rw [ntM_off (by decide) (by omega), b2.2.1.1]
                  show nI (gT (layG (play S np ms) q u)).length = _
                  rw [layG_T hD, hl24]
                rw [e09, n_sub (by omega)]
                refine ⟨_, M2, ntM M3 ms.length (nI 1) (co (q % 21)) (co (q / 21)) (nI u), rfl, rfl, S, hw, ?_, (hC.keep (fun d j hd => by rw [a3 d j (by unfold Jk; omega), st_cell (by omega)])).up (by omega), FB_none ?_ ?_, Or.inr ⟨np, (1, q, u) :: ms, hnp, ⟨hl, hok⟩, a2, ?_, ?_, ?_, ?_⟩⟩
                · exact SY_keep b2.1 (fun d j hd => ntM_off (by omega) (by omega))
                · rw [a3 5 3 (by unfold Jk; omega)]; exact st_same _ _ _ _
                · rw [ntM_get, if_pos ⟨rfl, rfl⟩]
                · exact RY_keep b2 (fun d j hd => ntM_off (by unfold Ky at hd; omega) (by unfold Ky at hd; omega))
                · rw [ntM_get, if_neg (by omega), if_pos ⟨rfl, rfl⟩]; rfl
                · exact SA_keep ms hSA (fun j hj => by rw [ntM_old hj, b3 14 j (by unfold Ky; omega)])
                · exact ntM_lay
              · have hr : ¬ r = nI (4 * q + u) := by
                  rcases n2 with ⟨j, d1, d2, d3, d4, d5⟩ | ⟨d1, d2⟩
                  · intro e
                    rw [d5] at e
                    have := n_inj (by omega) (by omega) e
                    rw [this] at d3
                    exact hf (hfs.mp d3)
                  · intro e
                    rw [d2] at e
                    have h1 := n_m1 (a := 4 * q + u) (by omega)
                    rw [← h1]
                    exact e.symm
                rw [if_neg hr, flg_f hf, if_pos rfl]
                exact bad rfl rfl
            · refine bad ?_ ?_
              · rw [if_neg c1, kn_4, i_le (by decide) hu, if_pos (by omega)]
              · unfold qf_X7_fitsAt
                have := (y_isPlace (x := q % 21) (y := q / 21) (by obtain ⟨q1, q2, q3, q4⟩ := hq; omega) (by obtain ⟨q1, q2, q3, q4⟩ := hq; omega) MY).1 hq
                rw [this, n_cl, if_neg (by decide), if_neg c1, kn_3, i_lt (by decide) hu, if_pos (by omega), n_zb0, n_cl, if_pos rfl]
        · refine bad ?_ ?_
          · rw [h, n_cl, if_pos rfl]
          · unfold qf_X7_fitsAt
            rw [h2, n_cl, if_pos rfl, n_zb0, n_cl, if_pos rfl]
    · refine bad ?_ ?_
      · unfold qf_X6_place
        rcases place_x (x := a) (y := b) MX with ⟨q, _, _, _, h⟩ | ⟨h, _⟩
        · rw [h, n_cl, if_neg (by decide), n_vv, x2 htl, if_pos rfl, ite_self, ite_self]
        · rw [h, n_cl, if_pos rfl]
      · unfold qf_X7_place
        rw [y_isToLay hw hG hY, n_cl, flg_f htl, if_pos rfl]

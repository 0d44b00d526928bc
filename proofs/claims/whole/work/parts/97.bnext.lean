/-! The class makes the next line, at both levels. -/
def LV (L : Nat) (S : Su) (np : Nat) (ms : List Mv) (M : Me) (e : Nat) : Prop := (e = 0 ∧ M L 1 = -1 ∧ M L 3 = 0 ∧ XB S np ms M) ∨ ∃ e', e = e' + 1 ∧ okL S (play S np ms) e' ∧ M L 1 = nI (e' / 9) ∧ M L 2 = pv (e' % 9) ∧ M L 3 = 1 ∧ XB S np ((1, e' / 9 / 4, e' / 9 % 4) :: ms) M
theorem x_next65_6 {S : Su} {np : Nat} {ms : List Mv} {M : Me} {k j : Nat} (hw : wfS S) (hnp : 2 ≤ np ∧ np ≤ 3) (hl : leg S np ms) (hL : gL (play S np ms) = false) (hD : gD (play S np ms) = some k) (h : XB S np ms M) (hj : M 6 1 + 1 = nI j) (hjl : j ≤ 1764) : (∃ e2 M2, 9 * j ≤ e2 ∧ okL S (play S np ms) e2 ∧ (∀ i, 9 * j ≤ i → i < e2 → ¬ okL S (play S np ms) i) ∧ qb_X4_makeNextLine_5_6_65 M = some (1, M2) ∧ XB S np ((0, e2 % 9, 0) :: (1, e2 / 9 / 4, e2 / 9 % 4) :: ms) M2 ∧ M2 6 1 = nI (e2 / 9) ∧ M2 6 2 = pv (e2 % 9) ∧ M2 6 3 = 1 ∧ ∀ c i, Jk c i → ¬ (c = 6 ∧ 1 ≤ i ∧ i ≤ 3) → M2 c i = M c i) ∨ ((∀ i, 9 * j ≤ i → ¬ okL S (play S np ms) i) ∧ ∃ M2, qb_X4_makeNextLine_5_6_65 M = some (0, M2) ∧ XB S np ms M2 ∧ ∀ c i, Jk c i → ¬ (c = 6 ∧ 1 ≤ i ∧ i ≤ 3) → M2 c i = M c i) := by
  have hG := leg_WG hw hnp.1 hnp.2 ms hl
  have hX := h.now
  have hk := hG.2.2.2.2.2.2.1 k hD
  have e46 : M 4 6 = nI k := by
    rw [hX.2.2.2.2.1, hL, hD, if_neg (by decide)]; rfl
  obtain ⟨r, n1, n2⟩ := x_next hw hG.2.1 hG.2.2.2.1 hX.1.1.1.1 hX.1.1.1.2 hX.1.1.2.1 hk hjl
  have key : qb_X4_makeNextLine_5_6_65 M = (if r = (-1) then (rx_zb 0 (some (0, rx_st M 6 1 r))) else (rx_cl (qf_X2_lay r (rx_st M 6 1 r)) fun r8 M9 => rx_cl (qf_X2_put (-1) M9) fun r10 M11 => rx_vv (rx_st M11 6 3 1) fun M12 => rx_vv (rx_st M12 6 2 (-1)) fun M13 => rx_zb 1 (some (1, M13)))) := by
    unfold qb_X4_makeNextLine_5_6_65
    rw [n_vv, e46, n_vv, hj, n1, n_cl, n_vv, n_vv, st_same, n_vv]
  rw [key]
  have hXB2 : ∀ v, XB S np ms (rx_st M 6 1 v) := fun v => h.eq (fun c i kg => (st_cell (by unfold Kg Kt at kg; omega)).symm)
  rcases n2 with ⟨j2, j1, j3, j4, j5, rfl⟩ | ⟨j1, rfl⟩
  · left
    have ok2 : okL S (play S np ms) (9 * j2) := ⟨k, hD, by rw [show 9 * j2 / 9 = j2 by omega]; exact j4, Or.inl (by omega)⟩
    have hf : fit S (gT (play S np ms)) k (j2 / 4) (j2 % 4) := j4
    obtain ⟨M3, a1, a2, a3⟩ := (hXB2 (nI j2)).lay hw hG hL hD hf (Nat.mod_lt _ (by decide))
    rw [show 4 * (j2 / 4) + j2 % 4 = j2 by omega] at a1
    have hG2 : WG S np (play S np ((1, j2 / 4, j2 % 4) :: ms)) := by
      have := WG_ly hw hG hL hD ok2
      unfold lyG at this
      rw [show 9 * j2 / 9 = j2 by omega] at this
      exact this
    obtain ⟨M4, b1, b2, b3⟩ := a2.put (j := 0) (w := -1) hw hG2 rfl (Or.inl ⟨rfl, rfl⟩)
    refine ⟨9 * j2, rx_st (rx_st M4 6 3 1) 6 2 (-1), by omega, ok2, fun i i1 i2 => ?_, ?_, ?_, ?_, ?_, ?_, fun c i hc hn => ?_⟩
    · rintro ⟨k2, q1, q2, q3⟩
      rw [hD] at q1
      cases q1
      exact j5 (i / 9) (by omega) (by omega) q2
    · rw [i_m1 (by omega), a1, n_cl, b1, n_cl, n_vv, n_vv]
      rfl
    · rw [show 9 * j2 % 9 = 0 by omega, show 9 * j2 / 9 = j2 by omega]
      exact b2.eq (fun c i kg => by rw [st_cell (by unfold Kg Kt at kg; omega), st_cell (by unfold Kg Kt at kg; omega)])
    · rw [st_place (by decide), st_place (by decide), b3 6 1 (by unfold Jk; omega), a3 6 1 (by unfold Jk; omega), st_same, show 9 * j2 / 9 = j2 by omega]
    · rw [st_same, show 9 * j2 % 9 = 0 by omega]; rfl
    · rw [st_place (by decide), st_same]
    · rw [st_get, if_neg (by omega), st_get, if_neg (by omega), b3 c i hc, a3 c i hc, st_get, if_neg (by omega)]
  · right
    refine ⟨fun i i1 => ?_, rx_st M 6 1 (-1), ?_, hXB2 (-1), fun c i hc hn => by rw [st_get, if_neg (by omega)]⟩
    · intro hq
      have hlt := okL_lt hq
      obtain ⟨k2, q1, q2, q3⟩ := hq
      rw [hD] at q1
      cases q1
      exact j1 (i / 9) (by omega) (by omega) q2
    · rw [if_pos rfl]; rfl
theorem x_makeNext_6 {S : Su} {np : Nat} {ms : List Mv} {M : Me} {k e : Nat} (hw : wfS S) (hnp : 2 ≤ np ∧ np ≤ 3) (hl : leg S np ms) (hL : gL (play S np ms) = false) (hD : gD (play S np ms) = some k) (h : LV 6 S np ms M e) : (∃ e2 M2, e ≤ e2 ∧ okL S (play S np ms) e2 ∧ (∀ i, e ≤ i → i < e2 → ¬ okL S (play S np ms) i) ∧ qf_X4_makeNextLine_5_6 M = some (1, M2) ∧ XB S np ((0, e2 % 9, 0) :: (1, e2 / 9 / 4, e2 / 9 % 4) :: ms) M2 ∧ M2 6 1 = nI (e2 / 9) ∧ M2 6 2 = pv (e2 % 9) ∧ M2 6 3 = 1 ∧ ∀ c i, Jk c i → ¬ (c = 6 ∧ 1 ≤ i ∧ i ≤ 3) → M2 c i = M c i) ∨ ((∀ i, e ≤ i → ¬ okL S (play S np ms) i) ∧ ∃ M2, qf_X4_makeNextLine_5_6 M = some (0, M2) ∧ XB S np ms M2 ∧ ∀ c i, Jk c i → ¬ (c = 6 ∧ 1 ≤ i ∧ i ≤ 3) → M2 c i = M c i) := by
  have hG := leg_WG hw hnp.1 hnp.2 ms hl
  unfold qf_X4_makeNextLine_5_6
  rcases h with ⟨rfl, h1, h3, hB⟩ | ⟨e', rfl, hok, h1, h2, h3, hB⟩
  · rw [n_vv, h3, if_pos rfl]
    have := x_next65_6 (j := 0) hw hnp hl hL hD hB (by rw [h1]; decide) (by omega)
    exact this
  · have hlt := okL_lt hok
    obtain ⟨k2, o1, o2, o3⟩ := hok
    have hok : okL S (play S np ms) e' := ⟨k2, o1, o2, o3⟩
    have hk2 : k2 = k := by rw [hD] at o1; exact (Option.some.inj o1).symm
    subst hk2
    have hG2 : WG S np (play S np ((1, e' / 9 / 4, e' / 9 % 4) :: ms)) := WG_ly hw hG hL hD hok
    rw [n_vv, h3, if_neg (by decide), n_vv, h2, n_vv, pv_up _ (by omega)]
    -- the parts
    have loop : ∀ (f p : Nat) , 8 - p < f → p ≤ 8 → e' % 9 ≤ p → (∀ i, e' + 1 ≤ i → i < 9 * (e' / 9) + p + 1 → ¬ okL S (play S np ms) i) → (∃ q M2, p ≤ q ∧ q < 8 ∧ mayP S (lyG (play S np ms) e') q ∧ (∀ i, p ≤ i → i < q → ¬ mayP S (lyG (play S np ms) e') i) ∧ rx_lp1 (qo_X4_makeNextLine_5_6_14 (fun a2 M => qb_X4_makeNextLine_5_6_31 a2 M) (fun M => qb_X4_makeNextLine_5_6_53 M)) f (nI p) M = qb_X4_makeNextLine_5_6_31 (nI q) M2 ∧ M2 = M) ∨ ((∀ i, p ≤ i → i < 8 → ¬ mayP S (lyG (play S np ms) e') i) ∧ rx_lp1 (qo_X4_makeNextLine_5_6_14 (fun a2 M => qb_X4_makeNextLine_5_6_31 a2 M) (fun M => qb_X4_makeNextLine_5_6_53 M)) f (nI p) M = qb_X4_makeNextLine_5_6_53 M) := by
      intro f
      induction f with
      | zero => intro p h; omega
      | succ f ih =>
        intro p hf hp8 hpe hno
        show (∃ q M2, _ ∧ _ ∧ _ ∧ _ ∧ qo_X4_makeNextLine_5_6_14 (fun a2 M => qb_X4_makeNextLine_5_6_31 a2 M) (fun M => qb_X4_makeNextLine_5_6_53 M) (rx_lp1 (qo_X4_makeNextLine_5_6_14 (fun a2 M => qb_X4_makeNextLine_5_6_31 a2 M) (fun M => qb_X4_makeNextLine_5_6_53 M)) f) (nI p) M = _ ∧ _) ∨ (_ ∧ qo_X4_makeNextLine_5_6_14 (fun a2 M => qb_X4_makeNextLine_5_6_31 a2 M) (fun M => qb_X4_makeNextLine_5_6_53 M) (rx_lp1 (qo_X4_makeNextLine_5_6_14 (fun a2 M => qb_X4_makeNextLine_5_6_31 a2 M) (fun M => qb_X4_makeNextLine_5_6_53 M)) f) (nI p) M = _)
        generalize rx_lp1 (qo_X4_makeNextLine_5_6_14 (fun a2 M => qb_X4_makeNextLine_5_6_31 a2 M) (fun M => qb_X4_makeNextLine_5_6_53 M)) f = rec at *
        unfold qo_X4_makeNextLine_5_6_14
        rw [kn_8, i_le (by decide) (by omega)]
        by_cases hp : 8 ≤ p
        · right
          exact ⟨fun i i1 i2 => by omega, by rw [if_pos hp]⟩
        · have hmay := x_mayPut hw hG2 hB.now rfl (show p < 8 by omega)
          rw [if_neg hp, hmay, n_cl]
          have hmay' : mayP S (play S np ((1, e' / 9 / 4, e' / 9 % 4) :: ms)) p ↔ mayP S (lyG (play S np ms) e') p := Iff.rfl
          by_cases hm : mayP S (lyG (play S np ms) e') p
          · left
            exact ⟨p, M, Nat.le_refl _, by omega, hm, fun i i1 i2 => by omega, by rw [flg_t (hmay'.mpr hm), if_neg (by decide)], rfl⟩
          · rw [flg_f (fun q => hm (hmay'.mp q)), if_pos rfl, n_vv, kn_1, n_add]
            rcases ih (p + 1) (by omega) (by omega) (by omega) (fun i i1 i2 => by
              by_cases hi : i = 9 * (e' / 9) + p + 1
              · rintro ⟨k3, q1, q2, q3⟩
                rcases q3 with q3 | q3
                · omega
                · rw [ly_eq (show i / 9 = e' / 9 by omega), show i % 9 - 1 = p by omega] at q3
                  exact hm q3
              · exact hno i i1 (by omega)) with ⟨q, M2, c1, c2, c3, c4, c5, c6⟩ | ⟨c1, c2⟩
            · left
              refine ⟨q, M2, by omega, c2, c3, fun i i1 i2 => ?_, c5, c6⟩
              by_cases hi : i = p
              · subst hi; exact hm
              · exact c4 i (by omega) i2
            · right
              refine ⟨fun i i1 i2 => ?_, c2⟩
              by_cases hi : i = p
              · subst hi; exact hm
              · exact c1 i (by omega) i2
    rcases loop rx_FU (e' % 9) (fu_lt (by omega)) (by omega) (Nat.le_refl _) (fun i i1 i2 => by omega) with ⟨q, M2, c1, c2, c3, c4, c5, c6⟩ | ⟨c1, c2⟩
    · left
      subst c6
      rw [c5]
      have ok2 : okL S (play S np ms) (9 * (e' / 9) + q + 1) := ⟨k2, o1, by rw [show (9 * (e' / 9) + q + 1) / 9 = e' / 9 by omega]; exact o2, Or.inr (by rw [ly_eq (show (9 * (e' / 9) + q + 1) / 9 = e' / 9 by omega), show (9 * (e' / 9) + q + 1) % 9 - 1 = q by omega]; exact c3)⟩
      have hB2 : XB S np ((1, e' / 9 / 4, e' / 9 % 4) :: ms) (rx_st M2 6 2 (nI q)) := hB.eq (fun c i kg => (st_cell (by unfold Kg Kt at kg; omega)).symm)
      obtain ⟨M4, b1, b2, b3⟩ := hB2.put (j := q + 1) (w := nI q) hw hG2 rfl (Or.inr ⟨q, rfl, rfl, c3⟩)
      refine ⟨9 * (e' / 9) + q + 1, M4, by omega, ok2, fun i i1 i2 => ?_, ?_, ?_, ?_, ?_, ?_, fun c i hc hn => ?_⟩
      · rintro ⟨k3, q1, q2, q3⟩
        rcases q3 with q3 | q3
        · omega
        · rw [ly_eq (show i / 9 = e' / 9 by omega)] at q3
          exact c4 (i % 9 - 1) (by omega) (by omega) q3
      · unfold qb_X4_makeNextLine_5_6_31
        rw [n_vv, b1, n_cl]
        rfl
      · rw [show (9 * (e' / 9) + q + 1) % 9 = q + 1 by omega, show (9 * (e' / 9) + q + 1) / 9 = e' / 9 by omega]
        exact b2
      · rw [b3 6 1 (by unfold Jk; omega), st_place (by decide), h1, show (9 * (e' / 9) + q + 1) / 9 = e' / 9 by omega]
      · rw [b3 6 2 (by unfold Jk; omega), st_same, show (9 * (e' / 9) + q + 1) % 9 = q + 1 by omega, pv_s]
      · rw [b3 6 3 (by unfold Jk; omega), st_place (by decide), h3]
      · rw [b3 c i hc, st_get, if_neg (by omega)]
    · obtain ⟨M3, a1, a2, a3⟩ := hB.back
      have a2' : XB S np ms (rx_st M3 6 3 0) := a2.eq (fun c i kg => (st_cell (by unfold Kg Kt at kg; omega)).symm)
      have hrun : rx_lp1 (qo_X4_makeNextLine_5_6_14 (fun a2 M => qb_X4_makeNextLine_5_6_31 a2 M) (fun M => qb_X4_makeNextLine_5_6_53 M)) rx_FU (nI (e' % 9)) M = qb_X4_makeNextLine_5_6_65 (rx_st M3 6 3 0) := by
        rw [c2]
        unfold qb_X4_makeNextLine_5_6_53
        rw [a1, n_cl, n_vv]
      have e61 : rx_st M3 6 3 0 6 1 + 1 = nI (e' / 9 + 1) := by
        rw [st_place (by decide), a3 6 1 (by unfold Jk; omega), h1, kn_1, n_add]
      have gap : ∀ i, e' + 1 ≤ i → i < 9 * (e' / 9 + 1) → ¬ okL S (play S np ms) i := by
        intro i i1 i2
        rintro ⟨k3, q1, q2, q3⟩
        rcases q3 with q3 | q3
        · omega
        · rw [ly_eq (show i / 9 = e' / 9 by omega)] at q3
          exact c1 (i % 9 - 1) (by omega) (by omega) q3
      rw [hrun]
      rcases x_next65_6 (j := e' / 9 + 1) hw hnp hl hL hD a2' e61 (by omega) with ⟨e2, M2, d1, d2, d3, d4, d5, d6, d7, d8, d9⟩ | ⟨d1, M2, d2, d3, d4⟩
      · left
        refine ⟨e2, M2, by omega, d2, fun i i1 i2 => ?_, d4, d5, d6, d7, d8, fun c i hc hn => by rw [d9 c i hc hn, st_get, if_neg (by omega), a3 c i hc]⟩
        by_cases hi : i < 9 * (e' / 9 + 1)
        · exact gap i i1 hi
        · exact d3 i (by omega) i2
      · right
        refine ⟨fun i i1 => ?_, M2, d2, d3, fun c i hc hn => by rw [d4 c i hc hn, st_get, if_neg (by omega), a3 c i hc]⟩
        by_cases hi : i < 9 * (e' / 9 + 1)
        · exact gap i i1 hi
        · exact d1 i (by omega)
theorem x_next65_7 {S : Su} {np : Nat} {ms : List Mv} {M : Me} {k j : Nat} (hw : wfS S) (hnp : 2 ≤ np ∧ np ≤ 3) (hl : leg S np ms) (hL : gL (play S np ms) = false) (hD : gD (play S np ms) = some k) (h : XB S np ms M) (hj : M 7 1 + 1 = nI j) (hjl : j ≤ 1764) : (∃ e2 M2, 9 * j ≤ e2 ∧ okL S (play S np ms) e2 ∧ (∀ i, 9 * j ≤ i → i < e2 → ¬ okL S (play S np ms) i) ∧ qb_X4_makeNextLine_5_7_65 M = some (1, M2) ∧ XB S np ((0, e2 % 9, 0) :: (1, e2 / 9 / 4, e2 / 9 % 4) :: ms) M2 ∧ M2 7 1 = nI (e2 / 9) ∧ M2 7 2 = pv (e2 % 9) ∧ M2 7 3 = 1 ∧ ∀ c i, Jk c i → ¬ (c = 7 ∧ 1 ≤ i ∧ i ≤ 3) → M2 c i = M c i) ∨ ((∀ i, 9 * j ≤ i → ¬ okL S (play S np ms) i) ∧ ∃ M2, qb_X4_makeNextLine_5_7_65 M = some (0, M2) ∧ XB S np ms M2 ∧ ∀ c i, Jk c i → ¬ (c = 7 ∧ 1 ≤ i ∧ i ≤ 3) → M2 c i = M c i) := by
  have hG := leg_WG hw hnp.1 hnp.2 ms hl
  have hX := h.now
  have hk := hG.2.2.2.2.2.2.1 k hD
  have e46 : M 4 6 = nI k := by
    rw [hX.2.2.2.2.1, hL, hD, if_neg (by decide)]; rfl
  obtain ⟨r, n1, n2⟩ := x_next hw hG.2.1 hG.2.2.2.1 hX.1.1.1.1 hX.1.1.1.2 hX.1.1.2.1 hk hjl
  have key : qb_X4_makeNextLine_5_7_65 M = (if r = (-1) then (rx_zb 0 (some (0, rx_st M 7 1 r))) else (rx_cl (qf_X2_lay r (rx_st M 7 1 r)) fun r8 M9 => rx_cl (qf_X2_put (-1) M9) fun r10 M11 => rx_vv (rx_st M11 7 3 1) fun M12 => rx_vv (rx_st M12 7 2 (-1)) fun M13 => rx_zb 1 (some (1, M13)))) := by
    unfold qb_X4_makeNextLine_5_7_65
    rw [n_vv, e46, n_vv, hj, n1, n_cl, n_vv, n_vv, st_same, n_vv]
  rw [key]
  have hXB2 : ∀ v, XB S np ms (rx_st M 7 1 v) := fun v => h.eq (fun c i kg => (st_cell (by unfold Kg Kt at kg; omega)).symm)
  rcases n2 with ⟨j2, j1, j3, j4, j5, rfl⟩ | ⟨j1, rfl⟩
  · left
    have ok2 : okL S (play S np ms) (9 * j2) := ⟨k, hD, by rw [show 9 * j2 / 9 = j2 by omega]; exact j4, Or.inl (by omega)⟩
    have hf : fit S (gT (play S np ms)) k (j2 / 4) (j2 % 4) := j4
    obtain ⟨M3, a1, a2, a3⟩ := (hXB2 (nI j2)).lay hw hG hL hD hf (Nat.mod_lt _ (by decide))
    rw [show 4 * (j2 / 4) + j2 % 4 = j2 by omega] at a1
    have hG2 : WG S np (play S np ((1, j2 / 4, j2 % 4) :: ms)) := by
      have := WG_ly hw hG hL hD ok2
      unfold lyG at this
      rw [show 9 * j2 / 9 = j2 by omega] at this
      exact this
    obtain ⟨M4, b1, b2, b3⟩ := a2.put (j := 0) (w := -1) hw hG2 rfl (Or.inl ⟨rfl, rfl⟩)
    refine ⟨9 * j2, rx_st (rx_st M4 7 3 1) 7 2 (-1), by omega, ok2, fun i i1 i2 => ?_, ?_, ?_, ?_, ?_, ?_, fun c i hc hn => ?_⟩
    · rintro ⟨k2, q1, q2, q3⟩
      rw [hD] at q1
      cases q1
      exact j5 (i / 9) (by omega) (by omega) q2
    · rw [i_m1 (by omega), a1, n_cl, b1, n_cl, n_vv, n_vv]
      rfl
    · rw [show 9 * j2 % 9 = 0 by omega, show 9 * j2 / 9 = j2 by omega]
      exact b2.eq (fun c i kg => by rw [st_cell (by unfold Kg Kt at kg; omega), st_cell (by unfold Kg Kt at kg; omega)])
    · rw [st_place (by decide), st_place (by decide), b3 7 1 (by unfold Jk; omega), a3 7 1 (by unfold Jk; omega), st_same, show 9 * j2 / 9 = j2 by omega]
    · rw [st_same, show 9 * j2 % 9 = 0 by omega]; rfl
    · rw [st_place (by decide), st_same]
    · rw [st_get, if_neg (by omega), st_get, if_neg (by omega), b3 c i hc, a3 c i hc, st_get, if_neg (by omega)]
  · right
    refine ⟨fun i i1 => ?_, rx_st M 7 1 (-1), ?_, hXB2 (-1), fun c i hc hn => by rw [st_get, if_neg (by omega)]⟩
    · intro hq
      have hlt := okL_lt hq
      obtain ⟨k2, q1, q2, q3⟩ := hq
      rw [hD] at q1
      cases q1
      exact j1 (i / 9) (by omega) (by omega) q2
    · rw [if_pos rfl]; rfl
theorem x_makeNext_7 {S : Su} {np : Nat} {ms : List Mv} {M : Me} {k e : Nat} (hw : wfS S) (hnp : 2 ≤ np ∧ np ≤ 3) (hl : leg S np ms) (hL : gL (play S np ms) = false) (hD : gD (play S np ms) = some k) (h : LV 7 S np ms M e) : (∃ e2 M2, e ≤ e2 ∧ okL S (play S np ms) e2 ∧ (∀ i, e ≤ i → i < e2 → ¬ okL S (play S np ms) i) ∧ qf_X4_makeNextLine_5_7 M = some (1, M2) ∧ XB S np ((0, e2 % 9, 0) :: (1, e2 / 9 / 4, e2 / 9 % 4) :: ms) M2 ∧ M2 7 1 = nI (e2 / 9) ∧ M2 7 2 = pv (e2 % 9) ∧ M2 7 3 = 1 ∧ ∀ c i, Jk c i → ¬ (c = 7 ∧ 1 ≤ i ∧ i ≤ 3) → M2 c i = M c i) ∨ ((∀ i, e ≤ i → ¬ okL S (play S np ms) i) ∧ ∃ M2, qf_X4_makeNextLine_5_7 M = some (0, M2) ∧ XB S np ms M2 ∧ ∀ c i, Jk c i → ¬ (c = 7 ∧ 1 ≤ i ∧ i ≤ 3) → M2 c i = M c i) := by
  have hG := leg_WG hw hnp.1 hnp.2 ms hl
  unfold qf_X4_makeNextLine_5_7
  rcases h with ⟨rfl, h1, h3, hB⟩ | ⟨e', rfl, hok, h1, h2, h3, hB⟩
  · rw [n_vv, h3, if_pos rfl]
    have := x_next65_7 (j := 0) hw hnp hl hL hD hB (by rw [h1]; decide) (by omega)
    exact this
  · have hlt := okL_lt hok
    obtain ⟨k2, o1, o2, o3⟩ := hok
    have hok : okL S (play S np ms) e' := ⟨k2, o1, o2, o3⟩
    have hk2 : k2 = k := by rw [hD] at o1; exact (Option.some.inj o1).symm
    subst hk2
    have hG2 : WG S np (play S np ((1, e' / 9 / 4, e' / 9 % 4) :: ms)) := WG_ly hw hG hL hD hok
    rw [n_vv, h3, if_neg (by decide), n_vv, h2, n_vv, pv_up _ (by omega)]
    -- the parts
    have loop : ∀ (f p : Nat) , 8 - p < f → p ≤ 8 → e' % 9 ≤ p → (∀ i, e' + 1 ≤ i → i < 9 * (e' / 9) + p + 1 → ¬ okL S (play S np ms) i) → (∃ q M2, p ≤ q ∧ q < 8 ∧ mayP S (lyG (play S np ms) e') q ∧ (∀ i, p ≤ i → i < q → ¬ mayP S (lyG (play S np ms) e') i) ∧ rx_lp1 (qo_X4_makeNextLine_5_7_14 (fun a2 M => qb_X4_makeNextLine_5_7_31 a2 M) (fun M => qb_X4_makeNextLine_5_7_53 M)) f (nI p) M = qb_X4_makeNextLine_5_7_31 (nI q) M2 ∧ M2 = M) ∨ ((∀ i, p ≤ i → i < 8 → ¬ mayP S (lyG (play S np ms) e') i) ∧ rx_lp1 (qo_X4_makeNextLine_5_7_14 (fun a2 M => qb_X4_makeNextLine_5_7_31 a2 M) (fun M => qb_X4_makeNextLine_5_7_53 M)) f (nI p) M = qb_X4_makeNextLine_5_7_53 M) := by
      intro f
      induction f with
      | zero => intro p h; omega
      | succ f ih =>
        intro p hf hp8 hpe hno
        show (∃ q M2, _ ∧ _ ∧ _ ∧ _ ∧ qo_X4_makeNextLine_5_7_14 (fun a2 M => qb_X4_makeNextLine_5_7_31 a2 M) (fun M => qb_X4_makeNextLine_5_7_53 M) (rx_lp1 (qo_X4_makeNextLine_5_7_14 (fun a2 M => qb_X4_makeNextLine_5_7_31 a2 M) (fun M => qb_X4_makeNextLine_5_7_53 M)) f) (nI p) M = _ ∧ _) ∨ (_ ∧ qo_X4_makeNextLine_5_7_14 (fun a2 M => qb_X4_makeNextLine_5_7_31 a2 M) (fun M => qb_X4_makeNextLine_5_7_53 M) (rx_lp1 (qo_X4_makeNextLine_5_7_14 (fun a2 M => qb_X4_makeNextLine_5_7_31 a2 M) (fun M => qb_X4_makeNextLine_5_7_53 M)) f) (nI p) M = _)
        generalize rx_lp1 (qo_X4_makeNextLine_5_7_14 (fun a2 M => qb_X4_makeNextLine_5_7_31 a2 M) (fun M => qb_X4_makeNextLine_5_7_53 M)) f = rec at *
        unfold qo_X4_makeNextLine_5_7_14
        rw [kn_8, i_le (by decide) (by omega)]
        by_cases hp : 8 ≤ p
        · right
          exact ⟨fun i i1 i2 => by omega, by rw [if_pos hp]⟩
        · have hmay := x_mayPut hw hG2 hB.now rfl (show p < 8 by omega)
          rw [if_neg hp, hmay, n_cl]
          have hmay' : mayP S (play S np ((1, e' / 9 / 4, e' / 9 % 4) :: ms)) p ↔ mayP S (lyG (play S np ms) e') p := Iff.rfl
          by_cases hm : mayP S (lyG (play S np ms) e') p
          · left
            exact ⟨p, M, Nat.le_refl _, by omega, hm, fun i i1 i2 => by omega, by rw [flg_t (hmay'.mpr hm), if_neg (by decide)], rfl⟩
          · rw [flg_f (fun q => hm (hmay'.mp q)), if_pos rfl, n_vv, kn_1, n_add]
            rcases ih (p + 1) (by omega) (by omega) (by omega) (fun i i1 i2 => by
              by_cases hi : i = 9 * (e' / 9) + p + 1
              · rintro ⟨k3, q1, q2, q3⟩
                rcases q3 with q3 | q3
                · omega
                · rw [ly_eq (show i / 9 = e' / 9 by omega), show i % 9 - 1 = p by omega] at q3
                  exact hm q3
              · exact hno i i1 (by omega)) with ⟨q, M2, c1, c2, c3, c4, c5, c6⟩ | ⟨c1, c2⟩
            · left
              refine ⟨q, M2, by omega, c2, c3, fun i i1 i2 => ?_, c5, c6⟩
              by_cases hi : i = p
              · subst hi; exact hm
              · exact c4 i (by omega) i2
            · right
              refine ⟨fun i i1 i2 => ?_, c2⟩
              by_cases hi : i = p
              · subst hi; exact hm
              · exact c1 i (by omega) i2
    rcases loop rx_FU (e' % 9) (fu_lt (by omega)) (by omega) (Nat.le_refl _) (fun i i1 i2 => by omega) with ⟨q, M2, c1, c2, c3, c4, c5, c6⟩ | ⟨c1, c2⟩
    · left
      subst c6
      rw [c5]
      have ok2 : okL S (play S np ms) (9 * (e' / 9) + q + 1) := ⟨k2, o1, by rw [show (9 * (e' / 9) + q + 1) / 9 = e' / 9 by omega]; exact o2, Or.inr (by rw [ly_eq (show (9 * (e' / 9) + q + 1) / 9 = e' / 9 by omega), show (9 * (e' / 9) + q + 1) % 9 - 1 = q by omega]; exact c3)⟩
      have hB2 : XB S np ((1, e' / 9 / 4, e' / 9 % 4) :: ms) (rx_st M2 7 2 (nI q)) := hB.eq (fun c i kg => (st_cell (by unfold Kg Kt at kg; omega)).symm)
      obtain ⟨M4, b1, b2, b3⟩ := hB2.put (j := q + 1) (w := nI q) hw hG2 rfl (Or.inr ⟨q, rfl, rfl, c3⟩)
      refine ⟨9 * (e' / 9) + q + 1, M4, by omega, ok2, fun i i1 i2 => ?_, ?_, ?_, ?_, ?_, ?_, fun c i hc hn => ?_⟩
      · rintro ⟨k3, q1, q2, q3⟩
        rcases q3 with q3 | q3
        · omega
        · rw [ly_eq (show i / 9 = e' / 9 by omega)] at q3
          exact c4 (i % 9 - 1) (by omega) (by omega) q3
      · unfold qb_X4_makeNextLine_5_7_31
        rw [n_vv, b1, n_cl]
        rfl
      · rw [show (9 * (e' / 9) + q + 1) % 9 = q + 1 by omega, show (9 * (e' / 9) + q + 1) / 9 = e' / 9 by omega]
        exact b2
      · rw [b3 7 1 (by unfold Jk; omega), st_place (by decide), h1, show (9 * (e' / 9) + q + 1) / 9 = e' / 9 by omega]
      · rw [b3 7 2 (by unfold Jk; omega), st_same, show (9 * (e' / 9) + q + 1) % 9 = q + 1 by omega, pv_s]
      · rw [b3 7 3 (by unfold Jk; omega), st_place (by decide), h3]
      · rw [b3 c i hc, st_get, if_neg (by omega)]
    · obtain ⟨M3, a1, a2, a3⟩ := hB.back
      have a2' : XB S np ms (rx_st M3 7 3 0) := a2.eq (fun c i kg => (st_cell (by unfold Kg Kt at kg; omega)).symm)
      have hrun : rx_lp1 (qo_X4_makeNextLine_5_7_14 (fun a2 M => qb_X4_makeNextLine_5_7_31 a2 M) (fun M => qb_X4_makeNextLine_5_7_53 M)) rx_FU (nI (e' % 9)) M = qb_X4_makeNextLine_5_7_65 (rx_st M3 7 3 0) := by
        rw [c2]
        unfold qb_X4_makeNextLine_5_7_53
        rw [a1, n_cl, n_vv]
      have e61 : rx_st M3 7 3 0 7 1 + 1 = nI (e' / 9 + 1) := by
        rw [st_place (by decide), a3 7 1 (by unfold Jk; omega), h1, kn_1, n_add]
      have gap : ∀ i, e' + 1 ≤ i → i < 9 * (e' / 9 + 1) → ¬ okL S (play S np ms) i := by
        intro i i1 i2
        rintro ⟨k3, q1, q2, q3⟩
        rcases q3 with q3 | q3
        · omega
        · rw [ly_eq (show i / 9 = e' / 9 by omega)] at q3
          exact c1 (i % 9 - 1) (by omega) (by omega) q3
      rw [hrun]
      rcases x_next65_7 (j := e' / 9 + 1) hw hnp hl hL hD a2' e61 (by omega) with ⟨e2, M2, d1, d2, d3, d4, d5, d6, d7, d8, d9⟩ | ⟨d1, M2, d2, d3, d4⟩
      · left
        refine ⟨e2, M2, by omega, d2, fun i i1 i2 => ?_, d4, d5, d6, d7, d8, fun c i hc hn => by rw [d9 c i hc hn, st_get, if_neg (by omega), a3 c i hc]⟩
        by_cases hi : i < 9 * (e' / 9 + 1)
        · exact gap i i1 hi
        · exact d3 i (by omega) i2
      · right
        refine ⟨fun i i1 => ?_, M2, d2, d3, fun c i hc hn => by rw [d4 c i hc hn, st_get, if_neg (by omega), a3 c i hc]⟩
        by_cases hi : i < 9 * (e' / 9 + 1)
        · exact gap i i1 hi
        · exact d1 i (by omega)

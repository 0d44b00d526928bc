/-! Follow, undo. -/
theorem pv_neg : ∀ k, k < 8 → ¬ (nI k < -1) := by decide
theorem sr_follow (a : Int32) : rl_step RR (fun M => qf_X6_follow a M) (fun M => qf_X7_follow a M) := by
  intro i MX MY hi hR
  have hR0 := hR
  obtain ⟨S, hw, hSY, hC, hF, hon⟩ := hR
  show ∃ r MX1 MY1, qf_X6_follow a MX = some (r, MX1) ∧ qf_X7_follow a MY = some (r, MY1) ∧ _
  have bad : ∀ {fX fY : Op}, fX = some (-2, MX) → fY = some (-2, MY) → ∃ r MX1 MY1, fX = some (r, MX1) ∧ fY = some (r, MY1) ∧ RR (i + 7) MX1 MY1 := fun h1 h2 => ⟨-2, MX, MY, h1, h2, RR_up hR0⟩
  have noX : MX 4 3 = 0 → qf_X6_follow a MX = some (-2, MX) := by
    intro h
    unfold qf_X6_follow qf_X2_mayPut
    rw [n_vv, h, if_pos rfl, n_zb0, n_cl, if_pos rfl]
  rcases hon with h | ⟨np, ms, hnp, hl, hB, hY, h23, hSA⟩
  · refine bad (noX h.1.2.2.2.1) ?_
    unfold qf_X7_follow
    rw [n_vv, h.2, if_pos rfl]
  · have hG := leg_WG hw hnp.1 hnp.2 ms hl
    have hX := hB.now
    cases hL : gL (play S np ms) with
    | false =>
      refine bad (noX ?_) ?_
      · rw [hX.2.2.1, hL, if_neg (by decide)]
      · unfold qf_X7_follow
        rw [n_vv, hY.2.2.1, if_neg (by decide), n_vv, hY.2.2.2.2.2.2.2.2.2.2.1, hL, if_neg (show ¬ (false = true) by decide), if_pos rfl]
    | true =>
      have hlen := (leg_len ms hl).1 hL
      have h24 := hG.2.1.1
      have e43 : MX 4 3 = 1 := by rw [hX.2.2.1, hL, if_pos rfl]
      have runY : qf_X7_follow a MY = (if a = (-1) then (qb_X7_follow_30 a MY) else (rx_cl (qf_X7_mayFollow a MY) fun r3 M4 => if r3 = 0 then (some ((-2), M4)) else (qb_X7_follow_30 a M4))) := by
        unfold qf_X7_follow
        rw [n_vv, hY.2.2.1, if_neg (show ¬ ((1 : Int32) = 0) by decide), n_vv, hY.2.2.2.2.2.2.2.2.2.2.1, hL, if_pos rfl, if_neg (show ¬ ((1 : Int32) = 0) by decide)]
      -- the move itself
      have move : ∀ (j : Nat) (MY2 : Me), a = pv j → (j = 0 ∨ ∃ k, j = k + 1 ∧ mayP S (play S np ms) k) → RY MY2 S np (play S np ms) → (∀ d e, d ≠ 15 → ¬ (d = 0 ∧ e = 26) → MY2 d e = MY d e) → qf_X2_mayPut a MX = some (1, MX) → ∃ r MX1 MY1, qf_X6_follow a MX = some (r, MX1) ∧ qb_X7_follow_30 a MY2 = some (r, MY1) ∧ RR (i + 7) MX1 MY1 := by
        intro j MY2 haj hj hY2 hfr hmp
        have hB2 : XB S np ms (rx_st MX 5 3 (-1)) := hB.eq (fun c i kg => (st_cell (by unfold Kg Kt at kg; omega)).symm)
        have hj2 : (j = 0 ∧ a = -1) ∨ ∃ k, j = k + 1 ∧ a = nI k ∧ mayP S (play S np ms) k := by
          rcases hj with h | ⟨k, h, hk⟩
          · exact Or.inl ⟨h, by rw [haj, h]; rfl⟩
          · exact Or.inr ⟨k, h, by rw [haj, h, pv_s], hk⟩
        obtain ⟨M2, a1, a2, a3⟩ := hB2.put hw hG hL hj2
        have h23' : MY2 0 23 = nI ms.length := by rw [hfr 0 23 (by decide) (by omega)]; exact h23
        obtain ⟨N, hN⟩ : ∃ N, N = ntM MY2 ms.length 0 a 0 0 := ⟨_, rfl⟩
        have hYN : RY N S np (play S np ms) := RY_keep hY2 (fun d e hd => by rw [hN]; exact ntM_off (by unfold Ky at hd; omega) (by unfold Ky at hd; omega))
        obtain ⟨M3, b1', b2, b3⟩ := y_put hw hG hYN hL hj2
        have hok : okM S (play S np ms) (0, j, 0) := by
          unfold okM
          rw [if_neg (show ¬ ((0, j, 0) : Mv).1 = 1 from (by decide : ¬ (0 = 1)))]
          exact ⟨hL, hj⟩
        refine ⟨nI (putS S np (play S np ms) j), M2, M3, ?_, ?_, S, hw, b2.1, (hC.keep (fun d e hd => by rw [a3 d e (by unfold Jk; omega), st_cell (by omega)])).up (by omega), FB_none ?_ ?_, Or.inr ⟨np, (0, j, 0) :: ms, hnp, ⟨hl, hok⟩, a2, b2, ?_, ?_, ?_⟩⟩
        · unfold qf_X6_follow qf_X4_forget
          rw [hmp, n_cl, if_neg (by decide), n_vv, n_cl, a1, n_cl]
        · unfold qb_X7_follow_30
          rw [y_note h23' (by omega), n_cl, ← hN, b1', n_cl]
        · rw [a3 5 3 (by unfold Jk; omega)]; exact st_same _ _ _ _
        · rw [b3 0 31 (by unfold Ky; omega), hN, ntM_get, if_pos ⟨rfl, rfl⟩]
        · rw [b3 0 23 (by unfold Ky; omega), hN, ntM_get, if_neg (by omega), if_pos ⟨rfl, rfl⟩]; rfl
        · exact SA_keep ms hSA (fun e he => by rw [b3 14 e (by unfold Ky; omega), hN, ntM_old he, hfr 14 e (by decide) (by omega)])
        · refine eM_keep (M := N) ?_ (fun e _ => b3 14 e (by unfold Ky; omega))
          rw [hN]
          exact ntM_put (by rw [haj]; rfl)
      rw [runY]
      by_cases c1 : a = -1
      · subst c1
        rw [if_pos rfl]
        refine move 0 MY rfl (Or.inl rfl) hY (fun _ _ _ _ => rfl) ?_
        unfold qf_X2_mayPut
        rw [n_vv, e43, if_neg (by decide), if_neg (by decide), if_pos (by decide), if_pos rfl]
        rfl
      · rw [if_neg c1]
        by_cases c2 : a < 0
        · refine bad ?_ ?_
          · have c3 : a < -1 := by
              have h1 := Int32.lt_iff_toInt_lt.mp c2
              have h2 : a.toInt ≠ -1 := fun q => c1 (Int32.toInt_inj.mp (by rw [q]; decide))
              apply Int32.lt_iff_toInt_lt.mpr
              rw [show (0 : Int32).toInt = 0 from rfl] at h1
              rw [show (-1 : Int32).toInt = -1 from by decide]
              omega
            unfold qf_X6_follow qf_X2_mayPut
            rw [n_vv, e43, if_neg (by decide), if_pos c3, n_zb0, n_cl, if_pos rfl]
          · unfold qf_X7_mayFollow
            simp only [n_vv]
            rw [if_pos c2, n_zb0, n_cl, if_pos rfl]
        · obtain ⟨k, hk, rfl⟩ := i32_nat c2
          by_cases hk8 : k < 8
          · obtain ⟨M2, b1', b2, b3⟩ := y_mayFollow hw hG hY hL hk8
            have hmx := x_mayPut hw hG hX hL hk8
            rw [b1', n_cl]
            by_cases hm : mayP S (play S np ms) k
            · rw [flg_t hm] at hmx ⊢
              rw [if_neg (by decide)]
              exact move (k + 1) M2 (pv_s k).symm (Or.inr ⟨k, rfl, hm⟩) b2 b3 hmx
            · rw [flg_f hm] at hmx ⊢
              rw [if_pos rfl]
              refine ⟨-2, MX, M2, ?_, rfl, S, hw, b2.1, hC.up (by omega), FB_keep hF (fun _ => rfl) (fun j => b3 19 j (by decide) (by omega)) (b3 0 31 (by decide) (by omega)), Or.inr ⟨np, ms, hnp, hl, hB, b2, by rw [b3 0 23 (by decide) (by omega)]; exact h23, SA_keep ms hSA (fun j _ => b3 14 j (by decide) (by omega))⟩⟩
              unfold qf_X6_follow
              rw [hmx, n_cl, if_pos rfl]
          · refine bad ?_ ?_
            · have hn1 : ¬ (nI k < -1) := fun q => c2 (Int32.lt_trans q (by decide))
              unfold qf_X6_follow qf_X2_mayPut
              rw [n_vv, e43, if_neg (by decide), if_neg hn1, kn_8, i_lt hk (by decide), if_neg hk8, n_zb0, n_cl, if_pos rfl]
            · unfold qf_X7_mayFollow
              simp only [n_vv]
              rw [if_neg c2, kn_7, i_lt (by decide) hk, if_pos (by omega), n_zb0, n_cl, if_pos rfl]
theorem sr_undo : rl_step RR (fun M => qf_X6_undo M) (fun M => qf_X7_undo M) := by
  intro i MX MY hi hR
  have hR0 := hR
  obtain ⟨S, hw, hSY, hC, hF, hon⟩ := hR
  show ∃ r MX1 MY1, qf_X6_undo MX = some (r, MX1) ∧ qf_X7_undo MY = some (r, MY1) ∧ _
  rcases hon with h | ⟨np, ms, hnp, hl, hB, hY, h23, hSA⟩
  · obtain ⟨⟨o1, o2, o3, o4, o5, o6, o7⟩, oy⟩ := h
    refine ⟨0, MX, MY, ?_, ?_, RR_up hR0⟩
    · unfold qf_X6_undo qf_X2_steps
      rw [n_vv, o4, if_pos rfl, n_vv, o1.1.2.1, n_cl, if_pos (show 2 * nI ([] : Tl).length = 0 from by decide)]
      rfl
    · unfold qf_X7_undo
      rw [n_vv, oy, if_pos rfl]
      rfl
  · obtain ⟨s1, s2⟩ := x_steps hw hnp hl hB
    cases ms with
    | nil =>
      refine ⟨0, MX, MY, ?_, ?_, RR_up hR0⟩
      · unfold qf_X6_undo
        rw [s1, n_cl, if_pos (show nI ([] : List Mv).length = 0 from rfl)]
        rfl
      · unfold qf_X7_undo
        rw [n_vv, hY.2.2.1, if_neg (by decide), n_vv, h23, if_pos (show nI ([] : List Mv).length = 0 from rfl)]
        rfl
    | cons m ms =>
      have s2 : ms.length + 1 ≤ 48 := s2
      have hB2 : XB S np (m :: ms) (rx_st MX 5 3 (-1)) := hB.eq (fun c i kg => (st_cell (by unfold Kg Kt at kg; omega)).symm)
      obtain ⟨M2, a1, a2, a3⟩ := hB2.back
      obtain ⟨M3, b1', b2, b3, b4, b5, b6⟩ := y_undo hw hnp hl (by omega) hY h23 hSA
      refine ⟨1, M2, M3, ?_, b1', S, hw, b2.1, (hC.keep (fun d e hd => by rw [a3 d e (by unfold Jk; omega), st_cell (by omega)])).up (by omega), FB_none ?_ b5, Or.inr ⟨np, ms, hnp, hl.1, a2, b2, b3, b4⟩⟩
      · unfold qf_X6_undo qf_X4_forget
        rw [s1, n_cl, i_z (by show ms.length + 1 < _; omega), if_neg (by show ¬ (ms.length + 1 = 0); omega), n_vv, n_cl, a1, n_cl]
        rfl
      · rw [a3 5 3 (by unfold Jk; omega)]; exact st_same _ _ _ _

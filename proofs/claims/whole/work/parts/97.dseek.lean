/-! The class's search. -/
theorem x_begin_6 {M : Me} {w : Int32} : ∃ M2, qf_X1_begin_6 w M = some (0, M2) ∧ M2 6 0 = w ∧ M2 6 1 = -1 ∧ M2 6 3 = 0 ∧ M2 6 4 = 0 ∧ ∀ c i, ¬ (c = 6 ∧ i ≤ 4) → M2 c i = M c i := by
  refine ⟨rx_st (rx_st (rx_st (rx_st M 6 0 w) 6 1 (-1)) 6 3 0) 6 4 0, ?_, ?_, ?_, ?_, ?_, fun c i hc => ?_⟩
  · unfold qf_X1_begin_6
    rw [n_vv, n_vv, n_vv, n_vv]
  · rw [st_place (by decide), st_place (by decide), st_place (by decide), st_same]
  · rw [st_place (by decide), st_place (by decide), st_same]
  · rw [st_place (by decide), st_same]
  · exact st_same _ _ _ _
  · rw [st_get, if_neg (by omega), st_get, if_neg (by omega), st_get, if_neg (by omega), st_get, if_neg (by omega)]
theorem x_begin_7 {M : Me} {w : Int32} : ∃ M2, qf_X1_begin_7 w M = some (0, M2) ∧ M2 7 0 = w ∧ M2 7 1 = -1 ∧ M2 7 3 = 0 ∧ M2 7 4 = 0 ∧ ∀ c i, ¬ (c = 7 ∧ i ≤ 4) → M2 c i = M c i := by
  refine ⟨rx_st (rx_st (rx_st (rx_st M 7 0 w) 7 1 (-1)) 7 3 0) 7 4 0, ?_, ?_, ?_, ?_, ?_, fun c i hc => ?_⟩
  · unfold qf_X1_begin_7
    rw [n_vv, n_vv, n_vv, n_vv]
  · rw [st_place (by decide), st_place (by decide), st_place (by decide), st_same]
  · rw [st_place (by decide), st_place (by decide), st_same]
  · rw [st_place (by decide), st_same]
  · exact st_same _ _ _ _
  · rw [st_get, if_neg (by omega), st_get, if_neg (by omega), st_get, if_neg (by omega), st_get, if_neg (by omega)]
def ln (e : Nat) (ms : List Mv) : List Mv := (0, e % 9, 0) :: (1, e / 9 / 4, e / 9 % 4) :: ms
def ll (e : Nat) (ms : List Mv) : List Mv := (1, e / 9 / 4, e / 9 % 4) :: ms
theorem leg_ll {S : Su} {np : Nat} {ms : List Mv} {k e : Nat} (hl : leg S np ms) (hL : gL (play S np ms) = false) (hD : gD (play S np ms) = some k) (h : okL S (play S np ms) e) : leg S np (ll e ms) := ⟨hl, okL_lay (np := np) hL hD h⟩
theorem leg_ln {S : Su} {np : Nat} {ms : List Mv} {k e : Nat} (hl : leg S np ms) (hL : gL (play S np ms) = false) (hD : gD (play S np ms) = some k) (h : okL S (play S np ms) e) : leg S np (ln e ms) := ⟨leg_ll hl hL hD h, okL_put (np := np) h⟩
/-- where the look stands -/
def S0 (S : Su) (np : Nat) (ms : List Mv) (e : Nat) (M : Me) : Prop := M 6 0 = nI (gW (play S np ms)) ∧ WB 6 38 np M (v0 S np (play S np ms)) (F0 S np (play S np ms)) (b0 S np (play S np ms) e)
def S1 (S : Su) (np : Nat) (ms : List Mv) (e e1 : Nat) (M : Me) : Prop := okL S (play S np ms) e ∧ (∃ k1, gD (nx S np (play S np ms) e) = some k1) ∧ LV 7 S np (ln e ms) M e1 ∧ M 6 1 = nI (e / 9) ∧ M 6 2 = pv (e % 9) ∧ M 6 3 = 1 ∧ M 7 0 = nI (gW (nx S np (play S np ms) e)) ∧ WB 7 39 np M (v1 S np (nx S np (play S np ms) e)) (fun e2 => fG S np (nx S np (nx S np (play S np ms) e) e2)) (b1 S np (nx S np (play S np ms) e) e1)
def IV (S : Su) (np : Nat) (ms : List Mv) (B : Nat) (M0 : Me) (c : Nat) (d : Int32) (n : Nat) (M : Me) : Prop := (∀ i, M 5 i = M0 5 i) ∧ XC M (B + 192 * n) ∧ ((∃ e, d = 0 ∧ LV 6 S np ms M e ∧ S0 S np ms e M ∧ c = n0 S np (play S np ms) e ∧ n ≤ 2 * c) ∨ (∃ e e1, d = 1 ∧ S0 S np ms e M ∧ S1 S np ms e e1 M ∧ c = n0 S np (play S np ms) e + 1 + n1 S (nx S np (play S np ms) e) e1 ∧ n + 1 ≤ 2 * c) ∨ (d = -1 ∧ XB S np ms M ∧ S0 S np ms 15876 M ∧ c = n0 S np (play S np ms) 15876 ∧ n ≤ 2 * c + 1))
/-- after a line's finals are known and it is taken back: the level's best is up to date -/
theorem x_line6 {S : Su} {np : Nat} {ms : List Mv} {B : Nat} {M : Me} {k e : Nat} (hw : wfS S) (hnp : 2 ≤ np ∧ np ≤ 3) (hl : leg S np ms) (hL : gL (play S np ms) = false) (hD : gD (play S np ms) = some k) (hok : okL S (play S np ms) e) (hB : XB S np (ln e ms) M) (h1 : M 6 1 = nI (e / 9)) (h2 : M 6 2 = pv (e % 9)) (h3 : M 6 3 = 1) (h0 : S0 S np ms e M) (hgD : gD (nx S np (play S np ms) e) = none) (hBn : B < 2147482000) (hC : XC M B) : ∃ M2, qf_X4_lookBehindLine 0 M = some (0, M2) ∧ LV 6 S np ms M2 (e + 1) ∧ S0 S np ms (e + 1) M2 ∧ XC M2 (B + 192) ∧ ∀ i, M2 5 i = M 5 i := by
  have hG := leg_WG hw hnp.1 hnp.2 ms hl
  have hG2 := WG_nx hw hG hL hD hok
  have hX := hB.now
  have e46 : M 4 6 = -1 := by
    rw [hX.2.2.2.2.1]
    show (if gL (nx S np (play S np ms) e) = true then (-1 : Int32) else dv (gD (nx S np (play S np ms) e))) = -1
    rw [hgD, show gL (nx S np (play S np ms) e) = false from rfl, if_neg (by decide)]; rfl
  obtain ⟨M2, a1, a2, a3, a4⟩ := x_reckon hw hG2.2.1 hG2.2.2.1 hnp.2 hX.1 hG2.2.2.2.2.2.2.2.2.1 hBn hC
  obtain ⟨M3, b1', b2, b3⟩ := x_weigh_6_36 (e := e) (b := b0 S np (play S np ms) e) (v := v0 S np (play S np ms)) (FF := F0 S np (play S np ms)) (mv := gW (play S np ms)) hnp.2 hG.2.2.2.2.1 (fun p hp => F0_le hw hG hL hD hok hp) (fun p hp => by rw [a2 p hp, F0_none hgD]; rfl) (by rw [a4 6 0 (by decide) (by omega) (by decide)]; exact h0.1) (by rw [a4 6 1 (by decide) (by omega) (by decide)]; exact h1) (by rw [a4 6 2 (by decide) (by omega) (by decide)]; exact h2) rfl (WB_keep h0.2 (fun i _ _ => a4 6 i (by decide) (by omega) (by decide)) (fun i => a4 38 i (by decide) (by omega) (by decide)))
  have hB3 : XB S np (ln e ms) M3 := hB.eq (fun c i kg => by rw [b3 c i (by unfold Kg Kt at kg; omega) (by unfold Kg Kt at kg; omega), a4 c i (by unfold Kg Kt at kg; omega) (by unfold Kg Kt at kg; omega) (by unfold Kg Kt at kg; omega)])
  obtain ⟨M4, d1, d2, d3⟩ := XB.back hB3
  refine ⟨M4, ?_, Or.inr ⟨e, rfl, hok, ?_, ?_, ?_, d2⟩, ⟨?_, ?_⟩, ?_, fun i => ?_⟩
  · unfold qf_X4_lookBehindLine qb_X4_lookBehindLine_44
    rw [n_vv, e46, if_pos rfl, a1, n_cl, if_pos rfl, n_vv, a4 4 4 (by decide) (by omega) (by decide), hX.1.2.1, b1', n_cl, d1, n_cl]
  · rw [d3 6 1 (by unfold Jk; omega), b3 6 1 (by omega) (by decide), a4 6 1 (by decide) (by omega) (by decide)]; exact h1
  · rw [d3 6 2 (by unfold Jk; omega), b3 6 2 (by omega) (by decide), a4 6 2 (by decide) (by omega) (by decide)]; exact h2
  · rw [d3 6 3 (by unfold Jk; omega), b3 6 3 (by omega) (by decide), a4 6 3 (by decide) (by omega) (by decide)]; exact h3
  · rw [d3 6 0 (by unfold Jk; omega), b3 6 0 (by omega) (by decide), a4 6 0 (by decide) (by omega) (by decide)]; exact h0.1
  · rw [show b0 S np (play S np ms) (e + 1) = bnew (v0 S np (play S np ms)) (b0 S np (play S np ms) e) e from bs_t hok]
    exact WB_keep b2 (fun i _ _ => d3 6 i (by unfold Jk; omega)) (fun i => d3 38 i (by unfold Jk; omega))
  · exact a3.keep (fun c i hc => by rw [d3 c i (by unfold Jk; omega), b3 c i (by omega) (by omega)])
  · rw [d3 5 i (by unfold Jk; omega), b3 5 i (by omega) (by decide), a4 5 i (by decide) (by omega) (by decide)]
theorem x_line7 {S : Su} {np : Nat} {ms : List Mv} {B : Nat} {M : Me} {k e e1 e2 : Nat} (hw : wfS S) (hnp : 2 ≤ np ∧ np ≤ 3) (hl : leg S np (ln e ms)) (hD : gD (nx S np (play S np ms) e) = some k) (hok : okL S (nx S np (play S np ms) e) e2) (hB : XB S np (ln e2 (ln e ms)) M) (h1 : M 7 1 = nI (e2 / 9)) (h2 : M 7 2 = pv (e2 % 9)) (h3 : M 7 3 = 1) (h70 : M 7 0 = nI (gW (nx S np (play S np ms) e))) (hWB : WB 7 39 np M (v1 S np (nx S np (play S np ms) e)) (fun e2 => fG S np (nx S np (nx S np (play S np ms) e) e2)) (b1 S np (nx S np (play S np ms) e) e2)) (hBn : B < 2147482000) (hC : XC M B) : ∃ M2, qf_X4_lookBehindLine 1 M = some (1, M2) ∧ LV 7 S np (ln e ms) M2 (e2 + 1) ∧ M2 7 0 = nI (gW (nx S np (play S np ms) e)) ∧ WB 7 39 np M2 (v1 S np (nx S np (play S np ms) e)) (fun e2 => fG S np (nx S np (nx S np (play S np ms) e) e2)) (b1 S np (nx S np (play S np ms) e) (e2 + 1)) ∧ XC M2 (B + 192) ∧ (∀ i, M2 5 i = M 5 i) ∧ (∀ i, M2 6 i = M 6 i) ∧ ∀ i, M2 38 i = M 38 i := by
  have hG : WG S np (nx S np (play S np ms) e) := leg_WG hw hnp.1 hnp.2 (ln e ms) hl
  have hL : gL (nx S np (play S np ms) e) = false := rfl
  have hG2 := WG_nx hw hG hL hD hok
  have hX : XG M S np (nx S np (nx S np (play S np ms) e) e2) := hB.now
  have h44 : qf_X4_lookBehindLine 1 M = qb_X4_lookBehindLine_44 1 M := by
    unfold qf_X4_lookBehindLine
    rw [n_vv, if_pos (show (2 : Int32) ≤ 1 + 1 by decide), ite_self]
  obtain ⟨M2, a1, a2, a3, a4⟩ := x_reckon hw hG2.2.1 hG2.2.2.1 hnp.2 hX.1 hG2.2.2.2.2.2.2.2.2.1 hBn hC
  obtain ⟨M3, b1', b2, b3⟩ := x_weigh_7_36 (e := e2) (b := b1 S np (nx S np (play S np ms) e) e2) (v := v1 S np (nx S np (play S np ms) e)) (FF := fun e2 => fG S np (nx S np (nx S np (play S np ms) e) e2)) (mv := gW (nx S np (play S np ms) e)) hnp.2 hG.2.2.2.2.1 (fun p hp => fG_le hw hG2 hp) (fun p hp => a2 p hp) (by rw [a4 7 0 (by decide) (by omega) (by decide)]; exact h70) (by rw [a4 7 1 (by decide) (by omega) (by decide)]; exact h1) (by rw [a4 7 2 (by decide) (by omega) (by decide)]; exact h2) rfl (WB_keep hWB (fun i _ _ => a4 7 i (by decide) (by omega) (by decide)) (fun i => a4 39 i (by decide) (by omega) (by decide)))
  have hB3 : XB S np (ln e2 (ln e ms)) M3 := hB.eq (fun c i kg => by rw [b3 c i (by unfold Kg Kt at kg; omega) (by unfold Kg Kt at kg; omega), a4 c i (by unfold Kg Kt at kg; omega) (by unfold Kg Kt at kg; omega) (by unfold Kg Kt at kg; omega)])
  obtain ⟨M4, d1, d2, d3⟩ := XB.back hB3
  refine ⟨M4, ?_, Or.inr ⟨e2, rfl, hok, ?_, ?_, ?_, d2⟩, ?_, ?_, ?_, fun i => ?_, fun i => ?_, fun i => ?_⟩
  · rw [h44]
    unfold qb_X4_lookBehindLine_44
    rw [a1, n_cl, if_neg (by decide), if_pos rfl, n_vv, a4 4 4 (by decide) (by omega) (by decide), hX.1.2.1, b1', n_cl, d1, n_cl]
  · rw [d3 7 1 (by unfold Jk; omega), b3 7 1 (by omega) (by decide), a4 7 1 (by decide) (by omega) (by decide)]; exact h1
  · rw [d3 7 2 (by unfold Jk; omega), b3 7 2 (by omega) (by decide), a4 7 2 (by decide) (by omega) (by decide)]; exact h2
  · rw [d3 7 3 (by unfold Jk; omega), b3 7 3 (by omega) (by decide), a4 7 3 (by decide) (by omega) (by decide)]; exact h3
  · rw [d3 7 0 (by unfold Jk; omega), b3 7 0 (by omega) (by decide), a4 7 0 (by decide) (by omega) (by decide)]; exact h70
  · rw [show b1 S np (nx S np (play S np ms) e) (e2 + 1) = bnew (v1 S np (nx S np (play S np ms) e)) (b1 S np (nx S np (play S np ms) e) e2) e2 from bs_t hok]
    exact WB_keep b2 (fun i _ _ => d3 7 i (by unfold Jk; omega)) (fun i => d3 39 i (by unfold Jk; omega))
  · exact a3.keep (fun c i hc => by rw [d3 c i (by unfold Jk; omega), b3 c i (by omega) (by omega)])
  · rw [d3 5 i (by unfold Jk; omega), b3 5 i (by omega) (by decide), a4 5 i (by decide) (by omega) (by decide)]
  · rw [d3 6 i (by unfold Jk; omega), b3 6 i (by omega) (by decide), a4 6 i (by decide) (by omega) (by decide)]
  · rw [d3 38 i (by unfold Jk; omega), b3 38 i (by omega) (by decide), a4 38 i (by decide) (by omega) (by decide)]

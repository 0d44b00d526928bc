/-! The class's search. -/
theorem x_begin_6 {M : Me} {w : Int32} : ∃ M2, qf_X1_begin_6 w M = some (0, M2) ∧ M2 6 0 = w ∧ M2 6 1 = -1 ∧ M2 6 3 = 0 ∧ M2 6 4 = 0 ∧ ∀ c i, ¬ (c = 6 ∧ i ≤ 4) → M2 c i = M c i := by
  refine ⟨rx_st (rx_st (rx_st (rx_st M 6 0 w) 6 1 (-1)) 6 3 0) 6 4 0, ?_, ?_, ?_, ?_, ?_, fun c i hc => ?_⟩
  · unfold qf_X1_begin_6
    rw [n_vv, n_vv, n_vv, n_vv]
  · rw [st_place (by decide), st_place (by decide), st_place (by decide), st_same]
  · rw [st_place (by decide), st_place (by decide), st_same]
  · rw [st_place (by decide), st_same]
  · exact st_same _ _ _ _
  · rw [st_get, if_neg (by omega), st_get, if_neg (by omega), st_get, if_neg (by omega), st_get, if_neg (by omega)]
theorem x_begin_7 {M : Me} {w : Int32} : ∃ M2, qf_X1_begin_7 w M = some (0, M2) ∧ M2 7 0 = w ∧ M2 7 1 = -1 ∧ M2 7 3 = 0 ∧ M2 7 4 = 0 ∧ ∀ c i, ¬ (c = 7 ∧ i ≤ 4) → M2 c i = M c i := by
  refine ⟨rx_st (rx_st (rx_st (rx_st M 7 0 w) 7 1 (-1)) 7 3 0) 7 4 0, ?_, ?_, ?_, ?_, ?_, fun c i hc => ?_⟩
  · unfold qf_X1_begin_7
    rw [n_vv, n_vv, n_vv, n_vv]
  · rw [st_place (by decide), st_place (by decide), st_place (by decide), st_same]
  · rw [st_place (by decide), st_place (by decide), st_same]
  · rw [st_place (by decide), st_same]
  · exact st_same _ _ _ _
  · rw [st_get, if_neg (by omega), st_get, if_neg (by omega), st_get, if_neg (by omega), st_get, if_neg (by omega)]
def ln (e : Nat) (ms : List Mv) : List Mv := (0, e % 9, 0) :: (1, e / 9 / 4, e / 9 % 4) :: ms
def ll (e : Nat) (ms : List Mv) : List Mv := (1, e / 9 / 4, e / 9 % 4) :: ms
theorem leg_ll {S : Su} {np : Nat} {ms : List Mv} {k e : Nat} (hl : leg S np ms) (hL : gL (play S np ms) = false) (hD : gD (play S np ms) = some k) (h : okL S (play S np ms) e) : leg S np (ll e ms) := ⟨hl, okL_lay (np := np) hL hD h⟩
theorem leg_ln {S : Su} {np : Nat} {ms : List Mv} {k e : Nat} (hl : leg S np ms) (hL : gL (play S np ms) = false) (hD : gD (play S np ms) = some k) (h : okL S (play S np ms) e) : leg S np (ln e ms) := ⟨leg_ll hl hL hD h, okL_put (np := np) h⟩
/-- where the look stands -/
def S0 (S : Su) (np : Nat) (ms : List Mv) (e : Nat) (M : Me) : Prop := M 6 0 = nI (gW (play S np ms)) ∧ WB 6 38 np M (v0 S np (play S np ms)) (Fy0 S np (play S np ms)) (b0 S np (play S np ms) e)
def S1 (S : Su) (np : Nat) (ms : List Mv) (e e1 : Nat) (M : Me) : Prop := okL S (play S np ms) e ∧ (∃ k1, gD (nx S np (play S np ms) e) = some k1) ∧ LV 7 S np (ln e ms) M e1 ∧ M 6 1 = nI (e / 9) ∧ M 6 2 = pv (e % 9) ∧ M 6 3 = 1 ∧ M 7 0 = nI (gW (nx S np (play S np ms) e)) ∧ WB 7 39 np M (v1 S np (nx S np (play S np ms) e)) (fun e2 => fG S np (nx S np (nx S np (play S np ms) e) e2)) (b1 S np (nx S np (play S np ms) e) e1)
def IV (S : Su) (np : Nat) (ms : List Mv) (B : Nat) (M0 : Me) (c : Nat) (d : Int32) (n : Nat) (M : Me) : Prop := (∀ i, M 5 i = M0 5 i) ∧ XC M (B + 192 * n) ∧ ((∃ e, d = 0 ∧ LV 6 S np ms M e ∧ S0 S np ms e M ∧ c = n0 S np (play S np ms) e ∧ n ≤ 2 * c) ∨ (∃ e e1, d = 1 ∧ S0 S np ms e M ∧ S1 S np ms e e1 M ∧ c = n0 S np (play S np ms) e + 1 + n1 S (nx S np (play S np ms) e) e1 ∧ n + 1 ≤ 2 * c) ∨ (d = -1 ∧ XB S np ms M ∧ S0 S np ms 15876 M ∧ c = n0 S np (play S np ms) 15876 ∧ n ≤ 2 * c + 1))
/-- after a line's finals are known and it is taken back: the level's best is up to date -/
theorem x_line6 {S : Su} {np : Nat} {ms : List Mv} {B : Nat} {M : Me} {k e : Nat} (hw : wfS S) (hnp : 2 ≤ np ∧ np ≤ 3) (hl : leg S np ms) (hL : gL (play S np ms) = false) (hD : gD (play S np ms) = some k) (hok : okL S (play S np ms) e) (hB : XB S np (ln e ms) M) (h1 : M 6 1 = nI (e / 9)) (h2 : M 6 2 = pv (e % 9)) (h3 : M 6 3 = 1) (h0 : S0 S np ms e M) (hgD : gD (nx S np (play S np ms) e) = none) (hBn : B < 2147482000) (hC : XC M B) : ∃ M2, qf_X4_lookBehindLine 0 M = some (0, M2) ∧ LV 6 S np ms M2 (e + 1) ∧ S0 S np ms (e + 1) M2 ∧ XC M2 (B + 192) ∧ ∀ i, M2 5 i = M 5 i := by
  have hG := leg_WG hw hnp.1 hnp.2 ms hl
  have hG2 := WG_nx hw hG hL hD hok
  have hX := hB.now
  have e46 : M 4 6 = -1 := by
    rw [hX.2.2.2.2.1]
    show (if gL (nx S np (play S np ms) e) = true then (-1 : Int32) else dv (gD (nx S np (play S np ms) e))) = -1
    rw [hgD, show gL (nx S np (play S np ms) e) = false from rfl, if_neg (by decide)]; rfl
  obtain ⟨M2, a1, a2, a3, a4⟩ := x_reckon hw hG2.2.1 hG2.2.2.1 hnp.2 hX.1 hG2.2.2.2.2.2.2.2.2.1 hBn hC
  obtain ⟨M3, b1', b2, b3⟩ := x_weigh_6_36 (e := e) (b := b0 S np (play S np ms) e) (v := v0 S np (play S np ms)) (FF := Fy0 S np (play S np ms)) (mv := gW (play S np ms)) hnp.2 hG.2.2.2.2.1 (fun p hp => Fy0_le hw hG hL hD hok hp) (fun p hp => by rw [a2 p hp, Fy0_none hgD]; rfl) (by rw [a4 6 0 (by decide) (by omega) (by decide)]; exact h0.1) (by rw [a4 6 1 (by decide) (by omega) (by decide)]; exact h1) (by rw [a4 6 2 (by decide) (by omega) (by decide)]; exact h2) rfl (WB_keep h0.2 (fun i _ _ => a4 6 i (by decide) (by omega) (by decide)) (fun i => a4 38 i (by decide) (by omega) (by decide)))
  have hB3 : XB S np (ln e ms) M3 := hB.eq (fun c i kg => by rw [b3 c i (by unfold Kg Kt at kg; omega) (by unfold Kg Kt at kg; omega), a4 c i (by unfold Kg Kt at kg; omega) (by unfold Kg Kt at kg; omega) (by unfold Kg Kt at kg; omega)])
  obtain ⟨M4, d1, d2, d3⟩ := XB.back hB3
  refine ⟨M4, ?_, Or.inr ⟨e, rfl, hok, ?_, ?_, ?_, d2⟩, ⟨?_, ?_⟩, ?_, fun i => ?_⟩
  · unfold qf_X4_lookBehindLine qb_X4_lookBehindLine_44
    rw [n_vv, e46, if_pos rfl, a1, n_cl, if_pos rfl, n_vv, a4 4 4 (by decide) (by omega) (by decide), hX.1.2.1, b1', n_cl, d1, n_cl]
  · rw [d3 6 1 (by unfold Jk; omega), b3 6 1 (by omega) (by decide), a4 6 1 (by decide) (by omega) (by decide)]; exact h1
  · rw [d3 6 2 (by unfold Jk; omega), b3 6 2 (by omega) (by decide), a4 6 2 (by decide) (by omega) (by decide)]; exact h2
  · rw [d3 6 3 (by unfold Jk; omega), b3 6 3 (by omega) (by decide), a4 6 3 (by decide) (by omega) (by decide)]; exact h3
  · rw [d3 6 0 (by unfold Jk; omega), b3 6 0 (by omega) (by decide), a4 6 0 (by decide) (by omega) (by decide)]; exact h0.1
  · rw [show b0 S np (play S np ms) (e + 1) = bnew (v0 S np (play S np ms)) (b0 S np (play S np ms) e) e from bs_t hok]
    exact WB_keep b2 (fun i _ _ => d3 6 i (by unfold Jk; omega)) (fun i => d3 38 i (by unfold Jk; omega))
  · exact a3.keep (fun c i hc => by rw [d3 c i (by unfold Jk; omega), b3 c i (by omega) (by omega)])
  · rw [d3 5 i (by unfold Jk; omega), b3 5 i (by omega) (by decide), a4 5 i (by decide) (by omega) (by decide)]
theorem x_line7 {S : Su} {np : Nat} {ms : List Mv} {B : Nat} {M : Me} {k e e1 e2 : Nat} (hw : wfS S) (hnp : 2 ≤ np ∧ np ≤ 3) (hl : leg S np (ln e ms)) (hD : gD (nx S np (play S np ms) e) = some k) (hok : okL S (nx S np (play S np ms) e) e2) (hB : XB S np (ln e2 (ln e ms)) M) (h1 : M 7 1 = nI (e2 / 9)) (h2 : M 7 2 = pv (e2 % 9)) (h3 : M 7 3 = 1) (h70 : M 7 0 = nI (gW (nx S np (play S np ms) e))) (hWB : WB 7 39 np M (v1 S np (nx S np (play S np ms) e)) (fun e2 => fG S np (nx S np (nx S np (play S np ms) e) e2)) (b1 S np (nx S np (play S np ms) e) e2)) (hBn : B < 2147482000) (hC : XC M B) : ∃ M2, qf_X4_lookBehindLine 1 M = some (1, M2) ∧ LV 7 S np (ln e ms) M2 (e2 + 1) ∧ M2 7 0 = nI (gW (nx S np (play S np ms) e)) ∧ WB 7 39 np M2 (v1 S np (nx S np (play S np ms) e)) (fun e2 => fG S np (nx S np (nx S np (play S np ms) e) e2)) (b1 S np (nx S np (play S np ms) e) (e2 + 1)) ∧ XC M2 (B + 192) ∧ (∀ i, M2 5 i = M 5 i) ∧ (∀ i, M2 6 i = M 6 i) ∧ ∀ i, M2 38 i = M 38 i := by
  have hG : WG S np (nx S np (play S np ms) e) := leg_WG hw hnp.1 hnp.2 (ln e ms) hl
  have hL : gL (nx S np (play S np ms) e) = false := rfl
  have hG2 := WG_nx hw hG hL hD hok
  have hX : XG M S np (nx S np (nx S np (play S np ms) e) e2) := hB.now
  have h44 : qf_X4_lookBehindLine 1 M = qb_X4_lookBehindLine_44 1 M := by
    unfold qf_X4_lookBehindLine
    rw [n_vv, if_pos (show (2 : Int32) ≤ 1 + 1 by decide), ite_self]
  obtain ⟨M2, a1, a2, a3, a4⟩ := x_reckon hw hG2.2.1 hG2.2.2.1 hnp.2 hX.1 hG2.2.2.2.2.2.2.2.2.1 hBn hC
  obtain ⟨M3, b1', b2, b3⟩ := x_weigh_7_36 (e := e2) (b := b1 S np (nx S np (play S np ms) e) e2) (v := v1 S np (nx S np (play S np ms) e)) (FF := fun e2 => fG S np (nx S np (nx S np (play S np ms) e) e2)) (mv := gW (nx S np (play S np ms) e)) hnp.2 hG.2.2.2.2.1 (fun p hp => fG_le hw hG2 hp) (fun p hp => a2 p hp) (by rw [a4 7 0 (by decide) (by omega) (by decide)]; exact h70) (by rw [a4 7 1 (by decide) (by omega) (by decide)]; exact h1) (by rw [a4 7 2 (by decide) (by omega) (by decide)]; exact h2) rfl (WB_keep hWB (fun i _ _ => a4 7 i (by decide) (by omega) (by decide)) (fun i => a4 39 i (by decide) (by omega) (by decide)))
  have hB3 : XB S np (ln e2 (ln e ms)) M3 := hB.eq (fun c i kg => by rw [b3 c i (by unfold Kg Kt at kg; omega) (by unfold Kg Kt at kg; omega), a4 c i (by unfold Kg Kt at kg; omega) (by unfold Kg Kt at kg; omega) (by unfold Kg Kt at kg; omega)])
  obtain ⟨M4, d1, d2, d3⟩ := XB.back hB3
  refine ⟨M4, ?_, Or.inr ⟨e2, rfl, hok, ?_, ?_, ?_, d2⟩, ?_, ?_, ?_, fun i => ?_, fun i => ?_, fun i => ?_⟩
  · rw [h44]
    unfold qb_X4_lookBehindLine_44
    rw [a1, n_cl, if_neg (by decide), if_pos rfl, n_vv, a4 4 4 (by decide) (by omega) (by decide), hX.1.2.1, b1', n_cl, d1, n_cl]
  · rw [d3 7 1 (by unfold Jk; omega), b3 7 1 (by omega) (by decide), a4 7 1 (by decide) (by omega) (by decide)]; exact h1
  · rw [d3 7 2 (by unfold Jk; omega), b3 7 2 (by omega) (by decide), a4 7 2 (by decide) (by omega) (by decide)]; exact h2
  · rw [d3 7 3 (by unfold Jk; omega), b3 7 3 (by omega) (by decide), a4 7 3 (by decide) (by omega) (by decide)]; exact h3
  · rw [d3 7 0 (by unfold Jk; omega), b3 7 0 (by omega) (by decide), a4 7 0 (by decide) (by omega) (by decide)]; exact h70
  · rw [show b1 S np (nx S np (play S np ms) e) (e2 + 1) = bnew (v1 S np (nx S np (play S np ms) e)) (b1 S np (nx S np (play S np ms) e) e2) e2 from bs_t hok]
    exact WB_keep b2 (fun i _ _ => d3 7 i (by unfold Jk; omega)) (fun i => d3 39 i (by unfold Jk; omega))
  · exact a3.keep (fun c i hc => by rw [d3 c i (by unfold Jk; omega), b3 c i (by omega) (by omega)])
  · rw [d3 5 i (by unfold Jk; omega), b3 5 i (by omega) (by decide), a4 5 i (by decide) (by omega) (by decide)]
  · rw [d3 6 i (by unfold Jk; omega), b3 6 i (by omega) (by decide), a4 6 i (by decide) (by omega) (by decide)]
  · rw [d3 38 i (by unfold Jk; omega), b3 38 i (by omega) (by decide), a4 38 i (by decide) (by omega) (by decide)]
theorem b1_any {S : Su} {np : Nat} {h : Gm} {k : Nat} (hD : gD h = some k) (ha : anyF S (gT h) k) : ∃ b, b1 S np h 15876 = some b := by
  obtain ⟨e, he⟩ := any_ok hD ha
  cases hb : b1 S np h 15876 with
  | none => exact absurd he (bs_none hb e (okL_lt he))
  | some b => exact ⟨b, rfl⟩
theorem b0_any {S : Su} {np : Nat} {g : Gm} {k : Nat} (hD : gD g = some k) (ha : anyF S (gT g) k) : ∃ b, b0 S np g 15876 = some b := by
  obtain ⟨e, he⟩ := any_ok hD ha
  cases hb : b0 S np g 15876 with
  | none => exact absurd he (bs_none hb e (okL_lt he))
  | some b => exact ⟨b, rfl⟩
theorem LV_le {L : Nat} {S : Su} {np : Nat} {ms : List Mv} {M : Me} {e : Nat} (h : LV L S np ms M e) : e ≤ 15876 := by
  rcases h with ⟨rfl, _⟩ | ⟨e', rfl, hok, _⟩
  · omega
  · have := okL_lt hok; omega
theorem LV_xb {L : Nat} {S : Su} {np : Nat} {ms : List Mv} {M : Me} {k e : Nat} (hl : leg S np ms) (hL : gL (play S np ms) = false) (hD : gD (play S np ms) = some k) (h : LV L S np ms M e) : ∃ ext, ext.length ≤ 1 ∧ leg S np (ext ++ ms) ∧ XB S np (ext ++ ms) M := by
  rcases h with ⟨_, _, _, hB⟩ | ⟨e', _, hok, _, _, _, hB⟩
  · exact ⟨[], by decide, hl, hB⟩
  · exact ⟨[(1, e' / 9 / 4, e' / 9 % 4)], by show 1 ≤ 1; omega, leg_ll hl hL hD hok, hB⟩
theorem x_end0 {S : Su} {np : Nat} {ms : List Mv} {M : Me} {k k1 e : Nat} (hw : wfS S) (hnp : 2 ≤ np ∧ np ≤ 3) (hl : leg S np ms) (hL : gL (play S np ms) = false) (hD : gD (play S np ms) = some k) (hok : okL S (play S np ms) e) (hB : XB S np (ln e ms) M) (h1 : M 6 1 = nI (e / 9)) (h2 : M 6 2 = pv (e % 9)) (h3 : M 6 3 = 1) (h0 : S0 S np ms e M) (hgD : gD (nx S np (play S np ms) e) = some k1) (hWB : WB 7 39 np M (v1 S np (nx S np (play S np ms) e)) (fun e2 => fG S np (nx S np (nx S np (play S np ms) e) e2)) (b1 S np (nx S np (play S np ms) e) 15876)) : ∃ M2, qf_X4_endLine 0 M = some (0, M2) ∧ LV 6 S np ms M2 (e + 1) ∧ S0 S np ms (e + 1) M2 ∧ (∀ i, M2 5 i = M 5 i) ∧ ∀ c i, c = 24 ∨ (c = 2 ∧ i = 11) → M2 c i = M c i := by
  have hG := leg_WG hw hnp.1 hnp.2 ms hl
  have hln := leg_ln hl hL hD hok
  have hany := leg_any hw hnp (ln e ms) k1 hln rfl hgD
  obtain ⟨b, hb⟩ := b1_any (np := np) hgD hany
  have hX : XG M S np (nx S np (play S np ms) e) := hB.now
  have hb : b1 S np (nx S np (play S np ms) e) 15876 = some b := hb
  rw [hb] at hWB
  have hfin : ∀ p, p < np → M 39 p = nI (Fy0 S np (play S np ms) e p) := fun p hp => by
    rw [hWB.2.2.2.2 p hp, Fy0_some hgD]
    unfold G1
    rw [hb]
    rfl
  obtain ⟨M3, b1', b2, b3⟩ := x_weigh_6_39 (e := e) (b := b0 S np (play S np ms) e) (v := v0 S np (play S np ms)) (FF := Fy0 S np (play S np ms)) (mv := gW (play S np ms)) hnp.2 hG.2.2.2.2.1 (fun p hp => Fy0_le hw hG hL hD hok hp) hfin h0.1 h1 h2 rfl h0.2
  have hB3 : XB S np (ln e ms) M3 := hB.eq (fun c i kg => by rw [b3 c i (by unfold Kg Kt at kg; omega) (by unfold Kg Kt at kg; omega)])
  obtain ⟨M4, d1, d2, d3⟩ := XB.back hB3
  refine ⟨M4, ?_, Or.inr ⟨e, rfl, hok, ?_, ?_, ?_, d2⟩, ⟨?_, ?_⟩, fun i => ?_, fun c i hc => ?_⟩
  · unfold qf_X4_endLine
    rw [if_neg (by decide), if_pos rfl, if_neg (by decide), if_pos (by decide), n_vv, hX.1.2.1, b1', n_cl, d1, n_cl]
  · rw [d3 6 1 (by unfold Jk; omega), b3 6 1 (by omega) (by decide)]; exact h1
  · rw [d3 6 2 (by unfold Jk; omega), b3 6 2 (by omega) (by decide)]; exact h2
  · rw [d3 6 3 (by unfold Jk; omega), b3 6 3 (by omega) (by decide)]; exact h3
  · rw [d3 6 0 (by unfold Jk; omega), b3 6 0 (by omega) (by decide)]; exact h0.1
  · rw [show b0 S np (play S np ms) (e + 1) = bnew (v0 S np (play S np ms)) (b0 S np (play S np ms) e) e from bs_t hok]
    exact WB_keep b2 (fun i _ _ => d3 6 i (by unfold Jk; omega)) (fun i => d3 38 i (by unfold Jk; omega))
  · rw [d3 5 i (by unfold Jk; omega), b3 5 i (by omega) (by decide)]
  · rw [d3 c i (by unfold Jk; omega), b3 c i (by omega) (by omega)]
theorem x_round {S : Su} {np : Nat} {ms : List Mv} {B c n bud k : Nat} {M0 M : Me} {d w2 : Int32} {K : Int32 → Me → Op} {rec : Int32 → Int32 → Int32 → Me → Op} (hw : wfS S) (hnp : 2 ≤ np ∧ np ≤ 3) (hl : leg S np ms) (hL : gL (play S np ms) = false) (hD : gD (play S np ms) = some k) (hBn : B < 2147482000 - 576768) (hn : n < 3004) (hbud : bud ≤ 1500) (hc : c ≤ bud) (hd : d ≠ -1) (h : IV S np ms B M0 c d n M) : ∃ c2 d2 M2, qo_X4_seek_32 K (nI bud) w2 rec (nI c) d (nI n) M = rec (nI c2) d2 (nI (n + 1)) M2 ∧ IV S np ms B M0 c2 d2 (n + 1) M2 ∧ c2 ≤ c + 1 := by
  obtain ⟨i5, iC, h⟩ := h
  have h87 : ∀ (a b : Int32) (M : Me), qb_X4_seek_87 rec (nI bud) w2 a b (nI n) M = rec a b (nI (n + 1)) M := by
    intro a b M
    unfold qb_X4_seek_87
    rw [n_vv, kn_1, n_add]
  have up : ∀ {M2 : Me}, XC M2 (B + 192 * n) → XC M2 (B + 192 * (n + 1)) := fun h => h.up (by omega)
  unfold qo_X4_seek_32
  rw [kn_3004, i_le (by decide) (by omega), if_neg (by omega)]
  rcases h with ⟨e, rfl, hLV, hS0, rfl, hnc⟩ | ⟨e, e1, rfl, hS0, ⟨hok, ⟨k1, hk1⟩, hLV, h1, h2, h3, h70, hWB⟩, rfl, hnc⟩ | ⟨hd1, _⟩
  · rw [if_neg (by decide), i_lt (by omega) (by omega), if_neg (by omega), if_pos rfl]
    rcases x_makeNext_6 hw hnp hl hL hD hLV with ⟨e2, M2, a1, a2, a3, a4, a5, a6, a7, a8, a9⟩ | ⟨a1, M2, a2, a3, a4⟩
    · have hn0 : n0 S np (play S np ms) e2 = n0 S np (play S np ms) e := posn_skip a1 a3
      have hb0 : b0 S np (play S np ms) e2 = b0 S np (play S np ms) e := bs_skip a1 a3
      have hS2 : S0 S np ms e2 M2 := ⟨by rw [a9 6 0 (by unfold Jk; omega) (by omega)]; exact hS0.1, by
        rw [hb0]
        exact WB_keep hS0.2 (fun i i1 i2 => a9 6 i (by unfold Jk; omega) (by omega)) (fun i => a9 38 i (by unfold Jk; omega) (by omega))⟩
      have iC2 : XC M2 (B + 192 * n) := iC.keep (fun c i hc => a9 c i (by unfold Jk; omega) (by omega))
      have i52 : ∀ i, M2 5 i = M0 5 i := fun i => by rw [a9 5 i (by unfold Jk; omega) (by omega)]; exact i5 i
      rw [a4, n_cl, if_neg (by decide), n_vv, kn_1, n_add]
      cases hgD : gD (nx S np (play S np ms) e2) with
      | none =>
        obtain ⟨M3, d1, d2, d3, d4, d5⟩ := x_line6 hw hnp hl hL hD a2 a5 a6 a7 a8 hS2 hgD (by omega) iC2
        refine ⟨n0 S np (play S np ms) e + 1, 0, M3, ?_, ⟨fun i => by rw [d5 i, i52 i], by rw [show B + 192 * (n + 1) = B + 192 * n + 192 by omega]; exact d4, Or.inl ⟨e2 + 1, rfl, d2, d3, ?_, by omega⟩⟩, by omega⟩
        · rw [d1, n_cl, h87]
        · rw [show n0 S np (play S np ms) (e2 + 1) = n0 S np (play S np ms) e2 + c0 S np (play S np ms) e2 from posn_t a2, c0_none hgD, hn0]
      | some k1 =>
        have hX : XG M2 S np (nx S np (play S np ms) e2) := a5.now
        have e46 : M2 4 6 = nI k1 := by
          rw [hX.2.2.2.2.1, hgD, show gL (nx S np (play S np ms) e2) = false from rfl, if_neg (by decide)]; rfl
        have hG2 : WG S np (nx S np (play S np ms) e2) := leg_WG hw hnp.1 hnp.2 (ln e2 ms) (leg_ln hl hL hD a2)
        have hk1 := hG2.2.2.2.2.2.2.1 k1 hgD
        have h12 := hw.1
        obtain ⟨M3, b1', b2, b3, b4, b5, b6⟩ := x_begin_7 (M := M2) (w := nI (gW (nx S np (play S np ms) e2)))
        refine ⟨n0 S np (play S np ms) e + 1, 1, M3, ?_, ⟨fun i => by rw [b6 5 i (by omega), i52 i], up (iC2.keep (fun c i hc => b6 c i (by omega))), Or.inr (Or.inl ⟨e2, 0, rfl, ⟨by rw [b6 6 0 (by omega)]; exact hS2.1, WB_keep hS2.2 (fun i _ _ => b6 6 i (by omega)) (fun i => b6 38 i (by omega))⟩, ⟨a2, ⟨k1, hgD⟩, Or.inl ⟨rfl, b3, b4, XB.eq a5 (fun c i kg => (b6 c i (by unfold Kg Kt at kg; omega)).symm)⟩, by rw [b6 6 1 (by omega)]; exact a6, by rw [b6 6 2 (by omega)]; exact a7, by rw [b6 6 3 (by omega)]; exact a8, b2, b5⟩, ?_, by omega⟩)⟩, by omega⟩
        · unfold qf_X4_lookBehindLine
          rw [n_vv, e46, i_m1 (by omega), if_neg (by decide), if_neg (by decide), if_pos (by decide), n_vv, hX.2.2.2.1, b1', n_cl, n_cl, h87]
          rfl
        · rw [hn0]
          rfl
    · have hn0 : n0 S np (play S np ms) 15876 = n0 S np (play S np ms) e := posn_skip (LV_le hLV) (fun i i1 _ => a1 i i1)
      have hb0 : b0 S np (play S np ms) 15876 = b0 S np (play S np ms) e := bs_skip (LV_le hLV) (fun i i1 _ => a1 i i1)
      refine ⟨n0 S np (play S np ms) e, -1, M2, ?_, ⟨fun i => by rw [a4 5 i (by unfold Jk; omega) (by omega)]; exact i5 i, up (iC.keep (fun c i hc => a4 c i (by unfold Jk; omega) (by omega))), Or.inr (Or.inr ⟨rfl, a3, ⟨by rw [a4 6 0 (by unfold Jk; omega) (by omega)]; exact hS0.1, by
        rw [hb0]
        exact WB_keep hS0.2 (fun i i1 i2 => a4 6 i (by unfold Jk; omega) (by omega)) (fun i => a4 38 i (by unfold Jk; omega) (by omega))⟩, hn0.symm, by omega⟩)⟩, by omega⟩
      rw [a2, n_cl, if_pos rfl, n_vv]
      unfold qf_X4_endLine
      rw [if_pos (by decide), n_cl, h87]
      rfl
  · have hln := leg_ln hl hL hD hok
    rw [if_neg (by decide), i_lt (by omega) (by omega), if_neg (by omega), if_neg (by decide), if_pos rfl]
    rcases x_makeNext_7 (ms := ln e ms) hw hnp hln rfl hk1 hLV with ⟨e2, M2, a1, a2, a3, a4, a5, a6, a7, a8, a9⟩ | ⟨a1, M2, a2, a3, a4⟩
    · have a2 : okL S (nx S np (play S np ms) e) e2 := a2
      have a3 : ∀ i, e1 ≤ i → i < e2 → ¬ okL S (nx S np (play S np ms) e) i := a3
      have hn1 : n1 S (nx S np (play S np ms) e) e2 = n1 S (nx S np (play S np ms) e) e1 := posn_skip a1 a3
      have hb1 : b1 S np (nx S np (play S np ms) e) e2 = b1 S np (nx S np (play S np ms) e) e1 := bs_skip a1 a3
      have iC2 : XC M2 (B + 192 * n) := iC.keep (fun c i hc => a9 c i (by unfold Jk; omega) (by omega))
      obtain ⟨M3, d1, d2, d3, d4, d5, d6, d7, d8⟩ := x_line7 (e1 := e1) hw hnp hln hk1 a2 a5 a6 a7 a8 (by rw [a9 7 0 (by unfold Jk; omega) (by omega)]; exact h70) (by
        rw [hb1]
        exact WB_keep hWB (fun i i1 i2 => a9 7 i (by unfold Jk; omega) (by omega)) (fun i => a9 39 i (by unfold Jk; omega) (by omega))) (by omega) iC2
      have f6 : ∀ i, M3 6 i = M 6 i := fun i => by rw [d7 i, a9 6 i (by unfold Jk; omega) (by omega)]
      refine ⟨n0 S np (play S np ms) e + 1 + n1 S (nx S np (play S np ms) e) e1 + 1, 1, M3, ?_, ⟨fun i => by rw [d6 i, a9 5 i (by unfold Jk; omega) (by omega), i5 i], by rw [show B + 192 * (n + 1) = B + 192 * n + 192 by omega]; exact d5, Or.inr (Or.inl ⟨e, e2 + 1, rfl, ⟨by rw [f6]; exact hS0.1, WB_keep hS0.2 (fun i _ _ => f6 i) (fun i => by rw [d8 i, a9 38 i (by unfold Jk; omega) (by omega)])⟩, ⟨hok, ⟨k1, hk1⟩, d2, by rw [f6]; exact h1, by rw [f6]; exact h2, by rw [f6]; exact h3, d3, d4⟩, ?_, by omega⟩)⟩, by omega⟩
      · rw [a4, n_cl, if_neg (by decide), n_vv, kn_1, n_add, show (nI 1 : Int32) = 1 from rfl, d1, n_cl, h87]
      · rw [show n1 S (nx S np (play S np ms) e) (e2 + 1) = n1 S (nx S np (play S np ms) e) e2 + 1 from posn_t a2, hn1]
        omega
    · have a1 : ∀ i, e1 ≤ i → ¬ okL S (nx S np (play S np ms) e) i := a1
      have hn1 : n1 S (nx S np (play S np ms) e) 15876 = n1 S (nx S np (play S np ms) e) e1 := posn_skip (LV_le hLV) (fun i i1 _ => a1 i i1)
      have hb1 : b1 S np (nx S np (play S np ms) e) 15876 = b1 S np (nx S np (play S np ms) e) e1 := bs_skip (LV_le hLV) (fun i i1 _ => a1 i i1)
      have f6 : ∀ i, M2 6 i = M 6 i := fun i => a4 6 i (by unfold Jk; omega) (by omega)
      obtain ⟨M3, d1, d2, d3, d4, d5⟩ := x_end0 hw hnp hl hL hD hok a3 (by rw [f6]; exact h1) (by rw [f6]; exact h2) (by rw [f6]; exact h3) (show S0 S np ms e M2 from ⟨by rw [f6]; exact hS0.1, WB_keep hS0.2 (fun i _ _ => f6 i) (fun i => a4 38 i (by unfold Jk; omega) (by omega))⟩) hk1 (by
        rw [hb1]
        exact WB_keep hWB (fun i i1 i2 => a4 7 i (by unfold Jk; omega) (by omega)) (fun i => a4 39 i (by unfold Jk; omega) (by omega)))
      refine ⟨n0 S np (play S np ms) e + 1 + n1 S (nx S np (play S np ms) e) e1, 0, M3, ?_, ⟨fun i => by rw [d4 i, a4 5 i (by unfold Jk; omega) (by omega), i5 i], up (iC.keep (fun c i hc => by rw [d5 c i hc, a4 c i (by unfold Jk; omega) (by omega)])), Or.inl ⟨e + 1, rfl, d2, d3, ?_, by omega⟩⟩, by omega⟩
      · rw [a2, n_cl, if_pos rfl, n_vv, show (1 : Int32) + -1 = 0 from by decide, d1, n_cl, h87]
      · rw [show n0 S np (play S np ms) (e + 1) = n0 S np (play S np ms) e + c0 S np (play S np ms) e from posn_t hok, c0_some hk1, hn1]
        omega
  · exact absurd hd1 hd
theorem IV_le {S : Su} {np : Nat} {ms : List Mv} {B c n : Nat} {M0 M : Me} {d : Int32} (h : IV S np ms B M0 c d n M) : c ≤ n0 S np (play S np ms) 15876 ∧ n ≤ 2 * c + 1 := by
  obtain ⟨-, -, h⟩ := h
  rcases h with ⟨e, rfl, hLV, _, rfl, hnc⟩ | ⟨e, e1, rfl, _, ⟨hok, ⟨k1, hk1⟩, hLV, _⟩, rfl, hnc⟩ | ⟨_, _, _, rfl, hnc⟩
  · exact ⟨posn_mono (LV_le hLV), by omega⟩
  · have h1 : n0 S np (play S np ms) (e + 1) = n0 S np (play S np ms) e + c0 S np (play S np ms) e := posn_t hok
    have h2 : n0 S np (play S np ms) (e + 1) ≤ n0 S np (play S np ms) 15876 := posn_mono (okL_lt hok)
    have h3 : n1 S (nx S np (play S np ms) e) e1 ≤ n1 S (nx S np (play S np ms) e) 15876 := posn_mono (LV_le hLV)
    rw [c0_some hk1] at h1
    exact ⟨by omega, by omega⟩
  · exact ⟨Nat.le_refl _, by omega⟩
theorem x_rounds {S : Su} {np : Nat} {ms : List Mv} {B bud k : Nat} {M0 : Me} {w2 : Int32} {K : Int32 → Me → Op} (hw : wfS S) (hnp : 2 ≤ np ∧ np ≤ 3) (hl : leg S np ms) (hL : gL (play S np ms) = false) (hD : gD (play S np ms) = some k) (hBn : B < 2147482000 - 576768) (hbud : bud ≤ 1500) : ∀ (f c n : Nat) (d : Int32) (M : Me), 3004 - n < f → c ≤ bud + 1 → IV S np ms B M0 c d n M → ∃ c2 d2 n2 M2, rx_lp3 (qo_X4_seek_32 K (nI bud) w2) f (nI c) d (nI n) M = K (nI c2) M2 ∧ IV S np ms B M0 c2 d2 n2 M2 ∧ n2 ≤ 3004 ∧ c2 ≤ bud + 1 ∧ (bud < c2 ∨ d2 = -1) := by
  intro f
  induction f with
  | zero => intro c n d M h; omega
  | succ f ih =>
    intro c n d M hf hc h
    have hle := (IV_le h).2
    show ∃ c2 d2 n2 M2, qo_X4_seek_32 K (nI bud) w2 (rx_lp3 (qo_X4_seek_32 K (nI bud) w2) f) (nI c) d (nI n) M = K (nI c2) M2 ∧ _
    by_cases hd : d = -1
    · refine ⟨c, d, n, M, ?_, h, by omega, hc, Or.inr hd⟩
      subst hd
      unfold qo_X4_seek_32
      rw [kn_3004, i_le (by decide) (by omega), if_neg (by omega), if_pos (by decide)]
    · have hd2 : d = 0 ∨ d = 1 := by
        obtain ⟨-, -, h⟩ := h
        rcases h with ⟨e, h, _⟩ | ⟨e, e1, h, _⟩ | ⟨h, _⟩
        · exact Or.inl h
        · exact Or.inr h
        · exact absurd h hd
      by_cases hb : bud < c
      · refine ⟨c, d, n, M, ?_, h, by omega, hc, Or.inl hb⟩
        unfold qo_X4_seek_32
        rw [kn_3004, i_le (by decide) (by omega), if_neg (by omega), i_lt (by omega) (by omega), if_pos hb]
        rcases hd2 with rfl | rfl
        · rw [if_neg (by decide)]
        · rw [if_neg (by decide)]
      · obtain ⟨c2, d2, M2, a1, a2, a3⟩ := x_round (K := K) (w2 := w2) (rec := rx_lp3 (qo_X4_seek_32 K (nI bud) w2) f) hw hnp hl hL hD hBn (show n < 3004 by omega) hbud (by omega) hd h
        obtain ⟨c3, d3, n3, M3, b1, b2, b3⟩ := ih c2 (n + 1) d2 M2 (by omega) (by omega) a2
        exact ⟨c3, d3, n3, M3, by rw [a1]; exact b1, b2, b3⟩
theorem x_backTo {S : Su} {np : Nat} {ms : List Mv} {w1 w3 : Int32} {K : Me → Op} : ∀ (ext : List Mv) (M : Me) (f : Nat), XB S np (ext ++ ms) M → (ext ++ ms).length < 2147483648 → ext.length < f → ∃ M2, rx_lp1 (qo_X4_seek_102 K w1 (nI ms.length) w3) f (nI (ext ++ ms).length) M = K M2 ∧ XB S np ms M2 ∧ ∀ c i, Jk c i → M2 c i = M c i := by
  intro ext
  induction ext with
  | nil =>
    intro M f h hl hf
    obtain ⟨f2, rfl⟩ : ∃ f2, f = f2 + 1 := ⟨f - 1, by have : 0 < f := hf; omega⟩
    refine ⟨M, ?_, h, fun _ _ _ => rfl⟩
    show qo_X4_seek_102 K w1 (nI ms.length) w3 (rx_lp1 (qo_X4_seek_102 K w1 (nI ms.length) w3) f2) (nI ms.length) M = _
    generalize rx_lp1 (qo_X4_seek_102 K w1 (nI ms.length) w3) f2 = rec
    have hl : ms.length < 2147483648 := hl
    unfold qo_X4_seek_102
    rw [i_le hl hl, if_pos (Nat.le_refl _)]
  | cons m ext ih =>
    intro M f h hl hf
    have hl : (ext ++ ms).length + 1 < 2147483648 := hl
    have hf : ext.length + 1 < f := hf
    obtain ⟨f2, rfl⟩ : ∃ f2, f = f2 + 1 := ⟨f - 1, by omega⟩
    obtain ⟨M4, a1, a2, a3⟩ := XB.back (ms := ext ++ ms) h
    obtain ⟨M2, b1, b2, b3⟩ := ih M4 f2 a2 (by omega) (by omega)
    refine ⟨M2, ?_, b2, fun c i hc => by rw [b3 c i hc, a3 c i hc]⟩
    rw [← b1]
    show qo_X4_seek_102 K w1 (nI ms.length) w3 (rx_lp1 (qo_X4_seek_102 K w1 (nI ms.length) w3) f2) (nI ((ext ++ ms).length + 1)) M = _
    generalize rx_lp1 (qo_X4_seek_102 K w1 (nI ms.length) w3) f2 = rec
    have hlen : (ext ++ ms).length = ext.length + ms.length := List.length_append
    unfold qo_X4_seek_102
    rw [i_le (by omega) (by omega), if_neg (by omega), a1, n_cl, n_vv, pk_m1]
theorem x_seek {S : Su} {np : Nat} {ms : List Mv} {B bud k : Nat} {M : Me} (hw : wfS S) (hnp : 2 ≤ np ∧ np ≤ 3) (hl : leg S np ms) (hL : gL (play S np ms) = false) (hD : gD (play S np ms) = some k) (hBn : B < 2147482000 - 576768) (hbud : bud ≤ 1500) (hB : XB S np ms M) (hC : XC M B) : (n0 S np (play S np ms) 15876 ≤ bud → ∃ b M2, b0 S np (play S np ms) 15876 = some b ∧ qf_X4_seek (nI bud) M = some (1, M2) ∧ XB S np ms M2 ∧ XC M2 (B + 576768) ∧ M2 5 3 = nI (b / 9) ∧ M2 5 4 = pv (b % 9) ∧ M2 5 5 = v0 S np (play S np ms) b) ∧ (bud < n0 S np (play S np ms) 15876 → ∃ M2, qf_X4_seek (nI bud) M = some (0, M2) ∧ XB S np ms M2 ∧ XC M2 (B + 576768) ∧ ∀ i, M2 5 i = M 5 i) := by
  obtain ⟨s1, s2⟩ := x_steps hw hnp hl hB
  have hX := hB.now
  obtain ⟨M1, a1, a2, a3, a4, a5, a6⟩ := x_begin_6 (M := M) (w := nI (gW (play S np ms)))
  have hB1 : XB S np ms M1 := hB.eq (fun c i kg => (a6 c i (by unfold Kg Kt at kg; omega)).symm)
  have hIV : IV S np ms B M 0 0 0 M1 := ⟨fun i => a6 5 i (by omega), hC.keep (fun c i hc => a6 c i (by omega)), Or.inl ⟨0, rfl, Or.inl ⟨rfl, a3, a4, hB1⟩, ⟨a2, a5⟩, rfl, Nat.zero_le _⟩⟩
  obtain ⟨c2, d2, n2, M2, r1, r2, r3, r4, r5⟩ := x_rounds (K := fun a3 M => qb_X4_seek_93 (nI bud) (nI ms.length) a3 M) (w2 := nI ms.length) hw hnp hl hL hD hBn hbud rx_FU 0 0 0 M1 (fu_lt (by omega)) (by omega) hIV
  have run : qf_X4_seek (nI bud) M = qb_X4_seek_93 (nI bud) (nI ms.length) (nI c2) M2 := by
    unfold qf_X4_seek
    rw [s1, n_cl, n_vv, hX.2.2.2.1, a1, n_cl]
    exact r1
  have hle := (IV_le r2).1
  have hC2 : XC M2 (B + 576768) := r2.2.1.up (by omega)
  have hext : ∃ ext, ext.length ≤ 3 ∧ leg S np (ext ++ ms) ∧ XB S np (ext ++ ms) M2 := by
    obtain ⟨-, -, h⟩ := r2
    rcases h with ⟨e, _, hLV, _⟩ | ⟨e, e1, _, _, ⟨hok, ⟨k1, hk1⟩, hLV, _⟩, _⟩ | ⟨_, hB2, _⟩
    · obtain ⟨ext, x1, x2, x3⟩ := LV_xb hl hL hD hLV
      exact ⟨ext, by omega, x2, x3⟩
    · have hln := leg_ln hl hL hD hok
      obtain ⟨ext, x1, x2, x3⟩ := LV_xb (ms := ln e ms) hln rfl hk1 hLV
      refine ⟨ext ++ [(0, e % 9, 0), (1, e / 9 / 4, e / 9 % 4)], ?_, ?_, ?_⟩
      · rw [List.length_append]; show ext.length + 2 ≤ 3; omega
      · rw [List.append_assoc]; exact x2
      · rw [List.append_assoc]; exact x3
    · exact ⟨[], by decide, hl, hB2⟩
  obtain ⟨ext, x1, x2, x3⟩ := hext
  obtain ⟨t1, t2⟩ := x_steps hw hnp x2 x3
  obtain ⟨M3, u1, u2, u3⟩ := x_backTo (w1 := nI bud) (w3 := nI c2) (K := fun M => qb_X4_seek_121 (nI bud) (nI c2) M) ext M2 rx_FU x3 (by omega) (fu_lt (by omega))
  have run2 : qb_X4_seek_93 (nI bud) (nI ms.length) (nI c2) M2 = qb_X4_seek_121 (nI bud) (nI c2) M3 := by
    unfold qb_X4_seek_93
    rw [t1, n_cl]
    exact u1
  have hC3 : XC M3 (B + 576768) := hC2.keep (fun c i hc => u3 c i (by unfold Jk; omega))
  rw [run, run2]
  unfold qb_X4_seek_121
  rw [i_le (by omega) (by omega)]
  constructor
  · intro hno
    have hd : d2 = -1 := by rcases r5 with h | h; omega; exact h
    obtain ⟨-, -, h⟩ := r2
    rcases h with ⟨e, h, _⟩ | ⟨e, e1, h, _⟩ | ⟨_, hB2, hS2, hc2, _⟩
    · rw [h] at hd; exact absurd hd (by decide)
    · rw [h] at hd; exact absurd hd (by decide)
    · obtain ⟨b, hb⟩ := b0_any (np := np) hD (leg_any hw hnp ms k hl hL hD)
      have hWB := hS2.2
      rw [hb] at hWB
      obtain ⟨w4, w5, w6, w7, wf⟩ := hWB
      refine ⟨b, rx_st (rx_st (rx_st M3 5 3 (nI (b / 9))) 5 4 (pv (b % 9))) 5 5 (v0 S np (play S np ms) b), hb, ?_, ?_, ?_, ?_, ?_, st_same _ _ _ _⟩
      · rw [if_pos (by omega), n_vv, u3 6 6 (by unfold Jk; omega), w6, n_vv, n_vv, st_cell (by decide), u3 6 7 (by unfold Jk; omega), w7, n_vv, n_vv, st_cell (by decide), st_cell (by decide), u3 6 5 (by unfold Jk; omega), w5, n_vv]
        rfl
      · exact u2.eq (fun c i kg => by rw [st_cell (by unfold Kg Kt at kg; omega), st_cell (by unfold Kg Kt at kg; omega), st_cell (by unfold Kg Kt at kg; omega)])
      · exact hC3.keep (fun c i hc => by rw [st_cell (by omega), st_cell (by omega), st_cell (by omega)])
      · rw [st_place (by decide), st_place (by decide), st_same]
      · rw [st_place (by decide), st_same]
  · intro hyes
    have hb : bud < c2 := by
      rcases r5 with h | h
      · exact h
      · obtain ⟨-, -, q⟩ := r2
        rcases q with ⟨e, q, _⟩ | ⟨e, e1, q, _⟩ | ⟨_, _, _, q, _⟩
        · rw [q] at h; exact absurd h (by decide)
        · rw [q] at h; exact absurd h (by decide)
        · omega
    refine ⟨M3, ?_, u2, hC3, fun i => by rw [u3 5 i (by unfold Jk; omega), r2.1 i]⟩
    rw [if_neg (by omega)]
    rfl

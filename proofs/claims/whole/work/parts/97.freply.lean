/-! The reference's search: the reply. -/
theorem y_spot {a : Nat} (ha : a < 1444) : (((nI a / 4) - (nI a / 4) / 19 * 19) - 9 = co (ph a / 4 % 21)) ∧ ((nI a / 76) - 9 = co (ph a / 4 / 21)) ∧ (nI a - nI a / 4 * 4 = nI (ph a % 4)) := by
  have hx := co_m9 (a / 4 % 19) (by omega)
  have hy := co_m9 (a / 76) (by omega)
  rw [kn_4, n_div (by omega) (by decide) (by decide), kn_19, n_div (by omega) (by decide) (by decide), n_mul, n_sub (by omega), nat_rem, hx, kn_76, n_div (by omega) (by decide) (by decide), hy, n_mul, n_sub (by omega), nat_rem, ph_col, ph_row, ph_turn]
  exact ⟨rfl, rfl, rfl⟩
theorem y_ahead {np mv : Nat} {M : Me} {F : Nat → Nat} (h2 : 2 ≤ np) (h3 : np ≤ 3) (hmv : mv < np) (hn : M 0 8 = nI np) (hF : ∀ p, p < np → F p ≤ 20000) (h17 : ∀ p, p < np → M 17 p = nI (F p)) : qf_X7_ahead_0_17 (nI mv) M = some (mgI mv np F, M) := by
  have key := lp2_fun (b := qo_X7_ahead_0_17_6 (fun a3 M => qb_X7_ahead_0_17_44 (nI mv) a3 M) (nI mv)) (e := np) (M := M) (K := some (mgI mv np F, M)) (fun i => if i = 0 ∨ (i = 1 ∧ mv = 0) then -100000 else nI (oth mv F i)) ?_ ?_ rx_FU 0 (fu_lt (by omega)) (Nat.zero_le _)
  · exact key
  · intro rec i hi
    have hFi := hF i hi
    have ho := oth_le (mv := mv) (n := i) (F := F) (c := 20000) (fun p hp => hF p (by omega))
    have h37 : ∀ a : Int32, qb_X7_ahead_0_17_37 rec (nI mv) (nI i) a M = rec a (nI (i + 1)) M := by
      intro a
      unfold qb_X7_ahead_0_17_37
      rw [n_vv, kn_1, n_add]
    show qo_X7_ahead_0_17_6 (fun a3 M => qb_X7_ahead_0_17_44 (nI mv) a3 M) (nI mv) rec (if i = 0 ∨ (i = 1 ∧ mv = 0) then -100000 else nI (oth mv F i)) (nI i) M = rec (if i + 1 = 0 ∨ (i + 1 = 1 ∧ mv = 0) then -100000 else nI (if i = mv then oth mv F i else max (oth mv F i) (F i))) (nI (i + 1)) M
    unfold qo_X7_ahead_0_17_6
    rw [n_vv, hn, i_le (by omega) (by omega), if_neg (by omega), i_eq (by omega) (by omega), h37, n_ld (by omega) (by decide), h17 i hi, n_ld (by omega) (by decide), h17 i hi, h37]
    by_cases c : i = mv
    · rw [if_pos c, if_pos c]
      by_cases c1 : i = 0 ∨ (i = 1 ∧ mv = 0)
      · rw [if_pos c1, if_pos (by omega)]
      · rw [if_neg c1, if_neg (by omega)]
    · rw [if_neg c, if_neg c, if_neg (show ¬ (i + 1 = 0 ∨ (i + 1 = 1 ∧ mv = 0)) by omega)]
      by_cases c1 : i = 0 ∨ (i = 1 ∧ mv = 0)
      · have h0 : oth mv F i = 0 := by
          rcases c1 with rfl | ⟨rfl, rfl⟩
          · rfl
          · rfl
        rw [if_pos c1, h0, Nat.max_eq_right (by omega)]
        have hneg : ¬ (nI (F i) ≤ -100000) := by
          intro q
          have h3 := Int32.le_iff_toInt_le.mp q
          rw [nI_toInt (by omega)] at h3
          have h4 : (-100000 : Int32).toInt = -100000 := by decide
          omega
        rw [if_neg hneg]
      · rw [if_neg c1, i_le (by omega) (by omega)]
        by_cases c2 : F i ≤ oth mv F i
        · rw [if_pos c2, Nat.max_eq_left c2]
        · rw [if_neg c2, Nat.max_eq_right (by omega)]
  · intro rec
    show qo_X7_ahead_0_17_6 (fun a3 M => qb_X7_ahead_0_17_44 (nI mv) a3 M) (nI mv) rec (if np = 0 ∨ (np = 1 ∧ mv = 0) then -100000 else nI (oth mv F np)) (nI np) M = _
    unfold qo_X7_ahead_0_17_6
    rw [n_vv, hn, i_le (by omega) (by omega), if_pos (by omega), if_neg (by omega)]
    show qb_X7_ahead_0_17_44 (nI mv) (nI (oth mv F np)) M = _
    unfold qb_X7_ahead_0_17_44
    rw [n_ld (by omega) (by decide), h17 mv hmv]
    rfl
/-- whatever the finals hold -/
theorem y_aheadAny {np mv : Nat} {M : Me} (h3 : np ≤ 3) (hmv : mv < np) (hn : M 0 8 = nI np) : ∃ r, qf_X7_ahead_0_17 (nI mv) M = some (r, M) := by
  have L := lp2_up (b := qo_X7_ahead_0_17_6 (fun a3 M => qb_X7_ahead_0_17_44 (nI mv) a3 M) (nI mv)) (e := np) (K := fun a M => qb_X7_ahead_0_17_44 (nI mv) a M) (P := fun _ _ M2 => M2 = M) ?_ ?_ rx_FU 0 (-100000) M (fu_lt (by omega)) (Nat.zero_le _) rfl
  · obtain ⟨a, M2, rfl, L⟩ := L
    refine ⟨M2 17 mv - a, ?_⟩
    have L : qf_X7_ahead_0_17 (nI mv) M2 = qb_X7_ahead_0_17_44 (nI mv) a M2 := L
    rw [L]
    unfold qb_X7_ahead_0_17_44
    rw [n_ld (by omega) (by decide)]
  · intro rec i a M2 hi hP
    subst hP
    have h37 : ∀ a : Int32, qb_X7_ahead_0_17_37 rec (nI mv) (nI i) a M2 = rec a (nI (i + 1)) M2 := by
      intro a
      unfold qb_X7_ahead_0_17_37
      rw [n_vv, kn_1, n_add]
    unfold qo_X7_ahead_0_17_6
    rw [n_vv, hn, i_le (by omega) (by omega), if_neg (by omega), h37, n_ld (by omega) (by decide), n_ld (by omega) (by decide), h37]
    by_cases c : nI i = nI mv
    · rw [if_pos c]; exact ⟨_, _, rfl, rfl⟩
    · rw [if_neg c]
      by_cases c2 : M2 17 i ≤ a
      · rw [if_pos c2]; exact ⟨_, _, rfl, rfl⟩
      · rw [if_neg c2]; exact ⟨_, _, rfl, rfl⟩
  · intro rec a M2 hP
    subst hP
    unfold qo_X7_ahead_0_17_6
    rw [n_vv, hn, i_le (by omega) (by omega), if_pos (by omega)]
noncomputable def bvl (v : Nat → Int32) (b : Option Nat) : Int32 := match b with
  | none => -100000
  | some b => v b
theorem bnew_le {v : Nat → Int32} {b : Option Nat} {e : Nat} (h : v e ≤ bvl v b) (h0 : ¬ (v e ≤ -100000)) : bnew v b e = b := by
  cases b with
  | none => exact absurd h h0
  | some b => exact if_pos h
theorem bnew_gt {v : Nat → Int32} {b : Option Nat} {e : Nat} (h : ¬ (v e ≤ bvl v b)) : bnew v b e = some e := by
  cases b with
  | none => rfl
  | some b => exact if_neg h
/-- the tile of a line can be taken off again -/
theorem ly_T {g : Gm} {k e : Nat} (hD : gD g = some k) : gT (lyG g e) = gT g ++ [(e / 9 / 4, k, e / 9 % 4)] := layG_T hD
theorem nx_T {S : Su} {np : Nat} {g : Gm} {k e : Nat} (hD : gD g = some k) : gT (nx S np g e) = gT g ++ [(e / 9 / 4, k, e / 9 % 4)] := layG_T hD
theorem y_backLine {S : Su} {np : Nat} {g h : Gm} {M : Me} {k e lv : Nat} (hlv : lv ≤ 1) (hw : wfS S) (hG : WG S np g) (hL : gL g = false) (hD : gD g = some k) (hf : fitS S (gT g) k (e / 9)) (hT : gT h = gT g ++ [(e / 9 / 4, k, e / 9 % 4)]) (hR : RY M S np h) (hC : Cp M lv g) : ∃ M2, qf_X7_restore (nI lv) M = some (0, M2) ∧ RY M2 S np g ∧ ∀ c i, ¬ Ky c i → M2 c i = M c i := y_restore hlv (fit_wf hG.2.1 (WG_room hw hG hL hD) (hG.2.2.2.2.2.2.1 k hD) (Nat.mod_lt _ (by decide)) hf) hf.2.1 hT hL hR hC
theorem y_layLine {S : Su} {np : Nat} {g : Gm} {M : Me} {k a e : Nat} (hw : wfS S) (hG : WG S np g) (hL : gL g = false) (hD : gD g = some k) (ha : a < 1444) (he : e / 9 = ph a) (hf : fitS S (gT g) k (e / 9)) (hR : RY M S np g) : ∃ M2, qf_X7_lay (((nI a / 4) - (nI a / 4) / 19 * 19) - 9) ((nI a / 76) - 9) (nI a - nI a / 4 * 4) M = some (0, M2) ∧ RY M2 S np (lyG g e) ∧ ∀ c i, ¬ Ky c i → M2 c i = M c i := by
  obtain ⟨s1, s2, s3⟩ := y_spot ha
  rw [s1, s2, s3]
  obtain ⟨M2, a1, a2, a3⟩ := y_lay hw hG hR hL hD (show fit S (gT g) k (ph a / 4) (ph a % 4) from by rw [← he]; exact hf) (Nat.mod_lt _ (by decide))
  refine ⟨M2, a1, ?_, a3⟩
  unfold lyG
  rw [he]
  exact a2
def pw (p : Nat) : Int32 := pv p
/-- where the reply stands -/
def Q1 (S : Su) (np : Nat) (h : Gm) (bud c0' : Nat) (Mb : Me) (e : Nat) (w3 : Int32) (M : Me) : Prop := RY M S np h ∧ Cp M 1 h ∧ (∀ c i, ¬ Ky c i → ¬ (c = 0 ∧ i = 30) → c ≠ 17 → c ≠ 18 → M c i = Mb c i) ∧ ((∃ c, c ≤ bud ∧ M 0 30 = nI c ∧ c = c0' + n1 S h e ∧ w3 = bvl (v1 S np h) (b1 S np h e) ∧ ∀ b, b1 S np h e = some b → ∀ p, p < np → M 18 p = nI (fG S np (nx S np h b) p)) ∨ ∃ c, bud < c ∧ c ≤ bud + 1 ∧ M 0 30 = nI c ∧ c ≤ c0' + n1 S h 15876)
theorem Q1_skip {S : Su} {np : Nat} {h : Gm} {bud c0' e e2 : Nat} {Mb M : Me} {w3 : Int32} (hq : Q1 S np h bud c0' Mb e w3 M) (he : e ≤ e2) (hno : ∀ i, e ≤ i → i < e2 → ¬ okL S h i) : Q1 S np h bud c0' Mb e2 w3 M := by
  obtain ⟨h1, h2, h3, h4⟩ := hq
  refine ⟨h1, h2, h3, ?_⟩
  have e1 : n1 S h e2 = n1 S h e := posn_skip he hno
  have e3 : b1 S np h e2 = b1 S np h e := bs_skip he hno
  rw [e1, e3]
  exact h4
theorem y_line1 {S : Su} {np : Nat} {h : Gm} {bud c0' a p k : Nat} {Mb M : Me} {w3 : Int32} {K : Int32 → Me → Op} {rec : Int32 → Int32 → Me → Op} (hw : wfS S) (hG : WG S np h) (hL : gL h = false) (hD : gD h = some k) (hbud : bud ≤ 1500) (ha : a < 1444) (hp : p < 9) (hf : fitS S (gT h) k (ph a)) (hq : Q1 S np h bud c0' Mb (9 * ph a + p) w3 M) : (∃ w M2, qo_X7_reply_67 K (nI bud) (nI (gW h)) (nI a) 1 rec w3 (pv p) M = rec w (pv (p + 1)) M2 ∧ Q1 S np h bud c0' Mb (9 * ph a + p + 1) w M2) ∨ (qo_X7_reply_67 K (nI bud) (nI (gW h)) (nI a) 1 rec w3 (pv p) M = K w3 M ∧ ∀ e, Q1 S np h bud c0' Mb e w3 M) := by
  have hnp := hG.1
  have hW := hG.2.2.2.2.1
  have e9 : (9 * ph a + p) / 9 = ph a := by omega
  have em : (9 * ph a + p) % 9 = p := by omega
  have hf' : fitS S (gT h) k ((9 * ph a + p) / 9) := by rw [e9]; exact hf
  have hp8 : ∀ p, p < 9 → ¬ ((8 : Int32) ≤ pv p) := by decide
  unfold qo_X7_reply_67
  rw [if_neg (hp8 p hp), if_neg (show ¬ ((1 : Int32) = 0) by decide)]
  obtain ⟨q1, q2, q3, q4⟩ := hq
  rcases q4 with ⟨c, c1, c2, c3, c4, c5⟩ | ⟨c, c1, c2, c3, c4⟩
  · left
    rw [n_vv, c2, i_lt (by omega) (by omega), if_neg (by omega)]
    obtain ⟨M1, a1, a2, a3⟩ := y_layLine hw hG hL hD ha e9 hf' q1
    rw [a1, n_cl]
    have f1 : ∀ c i, ¬ Ky c i → M1 c i = M c i := a3
    have hC1 : Cp M1 1 h := Cp_keep q2 (fun i _ _ => a3 16 i (by unfold Ky; omega))
    -- the line is none
    have h201 : ∀ (w : Int32) (hh : Gm) (M2 : Me), gT hh = gT h ++ [((9 * ph a + p) / 9 / 4, k, (9 * ph a + p) / 9 % 4)] → RY M2 S np hh → Cp M2 1 h → ∃ M3, qb_X7_reply_201 rec (nI bud) (nI (gW h)) w (nI a) 1 (pv p) M2 = rec w (pv (p + 1)) M3 ∧ RY M3 S np h ∧ ∀ c i, ¬ Ky c i → M3 c i = M2 c i := by
      intro w hh M2 hT hR hC
      obtain ⟨M3, b1', b2, b3⟩ := y_backLine (lv := 1) (by omega) hw hG hL hD hf' hT hR hC
      refine ⟨M3, ?_, b2, b3⟩
      unfold qb_X7_reply_201
      rw [show (1 : Int32) = nI 1 from rfl, b1', n_cl, n_vv]
      have : ∀ p, p < 9 → pv p + nI 1 = pv (p + 1) := by decide
      rw [this p hp]
    -- the line
    have h127 : ∀ M2, okL S h (9 * ph a + p) → RY M2 S np (lyG h (9 * ph a + p)) → (∀ c i, ¬ Ky c i → M2 c i = M c i) → ∃ w M3, qb_X7_reply_127 rec (nI bud) (nI (gW h)) w3 (nI a) 1 (pv p) M2 = rec w (pv (p + 1)) M3 ∧ Q1 S np h bud c0' Mb (9 * ph a + p + 1) w M3 := by
      intro M2 hok hR2 hfr
      have hGl := WG_ly hw hG hL hD hok
      have hGn := WG_nx hw hG hL hD hok
      obtain ⟨M3, p1, p2, p3⟩ := y_put (j := p) (w := pv p) hw hGl hR2 rfl (by
        have hmv := okL_put (np := np) hok
        unfold okM at hmv
        rw [if_neg (show ¬ ((0, (9 * ph a + p) % 9, 0) : Mv).1 = 1 from (by decide : ¬ (0 = 1)))] at hmv
        have hmv := hmv.2
        rw [em] at hmv
        rcases hmv with g | ⟨j, g1, g2⟩
        · have g : p = 0 := g
          left; exact ⟨g, by rw [g]; rfl⟩
        · have g1 : p = j + 1 := g1
          right; exact ⟨j, g1, by rw [g1, pv_s], g2⟩)
      have hn : putG S np (lyG h (9 * ph a + p)) p = nx S np h (9 * ph a + p) := by unfold nx; rw [em]
      rw [hn] at p2
      let M4 : Me := rx_st M3 0 30 (nI (c + 1))
      have e4 : ∀ c i, ¬ (c = 0 ∧ i = 30) → M4 c i = M3 c i := fun c i hc => by show rx_st _ _ _ _ c i = _; rw [st_get, if_neg hc]
      have hR4 : RY M4 S np (nx S np h (9 * ph a + p)) := RY_keep p2 (fun c i hc => e4 c i (by unfold Ky at hc; omega))
      obtain ⟨M5, r1, r2, r3, r4⟩ := y_count hw hGn hR4
      have hah := y_ahead (mv := gW h) (F := fG S np (nx S np h (9 * ph a + p))) hnp.1 hnp.2 hW r2.2.2.2.1 (fun p hp => fG_le hw hGn hp) (fun p hp => r3 p hp)
      have hv : mgI (gW h) np (fG S np (nx S np h (9 * ph a + p))) = v1 S np h (9 * ph a + p) := rfl
      rw [hv] at hah
      have h30 : M3 0 30 = nI c := by rw [p3 0 30 (by unfold Ky; omega), hfr 0 30 (by unfold Ky; omega)]; exact c2
      have hC5 : Cp M5 1 h := Cp_keep q2 (fun i _ _ => by rw [r4 16 i (by decide) (by omega) (by decide), e4 16 i (by omega), p3 16 i (by unfold Ky; omega), hfr 16 i (by unfold Ky; omega)])
      have f5 : ∀ c i, ¬ Ky c i → ¬ (c = 0 ∧ i = 30) → c ≠ 17 → M5 c i = M c i := fun c i h1 h2 h3 => by rw [r4 c i (by unfold Ky at h1; omega) (by unfold Ky at h1; omega) h3, e4 c i h2, p3 c i h1, hfr c i h1]
      have h530 : M5 0 30 = nI (c + 1) := by rw [r4 0 30 (by decide) (by omega) (by decide)]; exact st_same _ _ _ _
      have hgt : ¬ (v1 S np h (9 * ph a + p) ≤ -100000) := mgI_gt hW (fun p hp => fG_le hw hGn hp)
      have hn1 : n1 S h (9 * ph a + p + 1) = n1 S h (9 * ph a + p) + 1 := posn_t hok
      have hb1 : b1 S np h (9 * ph a + p + 1) = bnew (v1 S np h) (b1 S np h (9 * ph a + p)) (9 * ph a + p) := bs_t hok
      have hall : n1 S h (9 * ph a + p + 1) ≤ n1 S h 15876 := posn_mono (okL_lt hok)
      unfold qb_X7_reply_127
      rw [p1, n_cl, n_vv, h30, kn_1, n_add, n_vv]
      show ∃ w M3, rx_cl (qf_X7_count M4) _ = _ ∧ _
      rw [r1, n_cl, hah, n_cl, c4]
      by_cases hle : v1 S np h (9 * ph a + p) ≤ bvl (v1 S np h) (b1 S np h (9 * ph a + p))
      · rw [if_pos hle]
        obtain ⟨M6, s1, s2, s3⟩ := h201 (bvl (v1 S np h) (b1 S np h (9 * ph a + p))) _ M5 (nx_T hD) r2 hC5
        refine ⟨_, M6, s1, s2, Cp_keep hC5 (fun i _ _ => s3 16 i (by unfold Ky; omega)), fun c i h1 h2 h3 h4 => by rw [s3 c i h1, f5 c i h1 h2 h3]; exact q3 c i h1 h2 h3 h4, ?_⟩
        have h630 : M6 0 30 = nI (c + 1) := by rw [s3 0 30 (by unfold Ky; omega)]; exact h530
        by_cases hcb : c + 1 ≤ bud
        · left
          refine ⟨c + 1, hcb, h630, by omega, ?_, ?_⟩
          · rw [hb1, bnew_le hle hgt]
          · rw [hb1, bnew_le hle hgt]
            intro b hb p hp
            rw [s3 18 p (by unfold Ky; omega), f5 18 p (by unfold Ky; omega) (by omega) (by decide)]
            exact c5 b hb p hp
        · right
          exact ⟨c + 1, by omega, by omega, h630, by omega⟩
      · rw [if_neg hle, hah, n_cl]
        have L := lp1_up (b := qo_X7_reply_175 (fun M => qb_X7_reply_201 rec (nI bud) (nI (gW h)) (v1 S np h (9 * ph a + p)) (nI a) (nI 1) (pv p) M) (nI bud) (nI (gW h)) (v1 S np h (9 * ph a + p)) (nI a) (nI 1) (pv p)) (e := 3) (K := fun M => qb_X7_reply_201 rec (nI bud) (nI (gW h)) (v1 S np h (9 * ph a + p)) (nI a) (nI 1) (pv p) M) (P := fun i M6 => (∀ p, p < i → M6 18 p = M5 17 p) ∧ ∀ c i, c ≠ 18 → M6 c i = M5 c i) ?_ ?_ rx_FU 0 M5 (fu_lt (by decide)) (by decide) ⟨fun p hp => (by omega), fun _ _ _ => rfl⟩
        · obtain ⟨M6, ⟨t1, t2⟩, L⟩ := L
          obtain ⟨M7, s1, s2, s3⟩ := h201 (v1 S np h (9 * ph a + p)) _ M6 (nx_T hD) (RY_keep r2 (fun c i hc => t2 c i (by unfold Ky at hc; omega))) (Cp_keep hC5 (fun i _ _ => t2 16 i (by decide)))
          have h730 : M7 0 30 = nI (c + 1) := by rw [s3 0 30 (by unfold Ky; omega), t2 0 30 (by decide)]; exact h530
          refine ⟨v1 S np h (9 * ph a + p), M7, ?_, s2, Cp_keep hC5 (fun i _ _ => by rw [s3 16 i (by unfold Ky; omega), t2 16 i (by decide)]), fun c i h1 h2 h3 h4 => by rw [s3 c i h1, t2 c i h4, f5 c i h1 h2 h3]; exact q3 c i h1 h2 h3 h4, ?_⟩
          · rw [← s1]; exact L
          · by_cases hcb : c + 1 ≤ bud
            · left
              refine ⟨c + 1, hcb, h730, by omega, ?_, ?_⟩
              · rw [hb1, bnew_gt hle]; rfl
              · rw [hb1, bnew_gt hle]
                intro b hb p hp
                cases hb
                rw [s3 18 p (by unfold Ky; omega), t1 p (by omega)]
                exact r3 p hp
            · right
              exact ⟨c + 1, by omega, by omega, h730, by omega⟩
        · intro rec2 i M6 hi hP
          refine ⟨rx_st M6 18 i (M5 17 i), ⟨fun x hx => ?_, fun c k hc => by rw [st_cell hc]; exact hP.2 c k hc⟩, ?_⟩
          · by_cases cx : x = i
            · rw [cx]; exact st_same _ _ _ _
            · rw [st_place cx]; exact hP.1 x (by omega)
          · unfold qo_X7_reply_175
            rw [kn_3, i_le (by decide) (by omega), if_neg (by omega), n_ld hi (by decide), hP.2 17 i (by decide), n_sv hi (by decide), n_vv, kn_1, n_add]
        · intro rec2 M6 _
          unfold qo_X7_reply_175
          rw [kn_3, i_le (by decide) (by decide), if_pos (by decide)]
    by_cases hp0 : p = 0
    · subst hp0
      rw [if_pos (show pv 0 < 0 by decide)]
      exact h127 M1 ⟨k, hD, hf', Or.inl (by omega)⟩ a2 a3
    · obtain ⟨j, rfl⟩ : ∃ j, p = j + 1 := ⟨p - 1, by omega⟩
      have hGl : WG S np (lyG h (9 * ph a + (j + 1))) := by
        have ok0 : okL S h (9 * ph a) := ⟨k, hD, by rw [show 9 * ph a / 9 = ph a by omega]; exact hf, Or.inl (by omega)⟩
        have := WG_ly hw hG hL hD ok0
        rw [ly_eq (show 9 * ph a / 9 = (9 * ph a + (j + 1)) / 9 by omega)] at this
        exact this
      obtain ⟨M2, b1', b2, b3⟩ := y_mayFollow hw hGl a2 rfl (k := j) (by omega)
      rw [pv_s, i_neg (by omega), b1', n_cl]
      rw [pv_s] at h127 h201
      by_cases hm : mayP S (lyG h (9 * ph a + (j + 1))) j
      · rw [flg_t hm, if_neg (by decide)]
        exact h127 M2 ⟨k, hD, hf', Or.inr (by rw [em]; exact hm)⟩ b2 (fun c i hc => by rw [b3 c i (by unfold Ky at hc; omega) (by unfold Ky at hc; omega), a3 c i hc])
      · rw [flg_f hm, if_pos rfl]
        obtain ⟨M3, s1, s2, s3⟩ := h201 w3 _ M2 (ly_T hD) b2 (Cp_keep hC1 (fun i _ _ => b3 16 i (by decide) (by omega)))
        have f3 : ∀ c i, ¬ Ky c i → M3 c i = M c i := fun c i hc => by rw [s3 c i hc, b3 c i (by unfold Ky at hc; omega) (by unfold Ky at hc; omega), a3 c i hc]
        have hno : ¬ okL S h (9 * ph a + (j + 1)) := by
          rintro ⟨k2, o1, o2, o3⟩
          rcases o3 with o3 | o3
          · omega
          · rw [em] at o3; exact hm o3
        have hn1 : n1 S h (9 * ph a + (j + 1) + 1) = n1 S h (9 * ph a + (j + 1)) := posn_f hno
        have hb1 : b1 S np h (9 * ph a + (j + 1) + 1) = b1 S np h (9 * ph a + (j + 1)) := bs_f hno
        refine ⟨w3, M3, s1, s2, Cp_keep q2 (fun i _ _ => f3 16 i (by unfold Ky; omega)), fun c i h1 h2 h3 h4 => by rw [f3 c i h1]; exact q3 c i h1 h2 h3 h4, Or.inl ⟨c, c1, by rw [f3 0 30 (by unfold Ky; omega)]; exact c2, by rw [hn1]; exact c3, by rw [hb1]; exact c4, ?_⟩⟩
        rw [hb1]
        intro b hb p hp
        rw [f3 18 p (by unfold Ky; omega)]
        exact c5 b hb p hp
  · right
    refine ⟨?_, fun e => ⟨q1, q2, q3, Or.inr ⟨c, c1, c2, c3, c4⟩⟩⟩
    rw [n_vv, c3, i_lt (by omega) (by omega), if_pos c1]

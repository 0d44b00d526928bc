/-! The reference's search. -/
def LY0 (M : Me) (c b : Nat) : Prop := M c 0 = co (b / 9 / 4 % 21) ∧ M c 1 = co (b / 9 / 4 / 21) ∧ M c 2 = nI (b / 9 % 4) ∧ M c 3 = pv (b % 9)
/-- where the search stands -/
def Q0 (S : Su) (np : Nat) (g : Gm) (bud : Nat) (Mb : Me) (e : Nat) (w3 : Int32) (M : Me) : Prop := RY M S np g ∧ Cp M 0 g ∧ (∀ c i, ¬ Ky c i → ¬ (c = 0 ∧ i = 30) → ¬ (16 ≤ c ∧ c ≤ 18) → c ≠ 20 → M c i = Mb c i) ∧ ((∃ c, c ≤ bud ∧ M 0 30 = nI c ∧ c = n0 S np g e ∧ w3 = bvl (v0 S np g) (b0 S np g e) ∧ ∀ b, b0 S np g e = some b → LY0 M 20 b) ∨ ∃ c, bud < c ∧ c ≤ bud + 1 ∧ M 0 30 = nI c ∧ c ≤ n0 S np g 15876)
theorem Q0_skip {S : Su} {np : Nat} {g : Gm} {bud e e2 : Nat} {Mb M : Me} {w3 : Int32} (hq : Q0 S np g bud Mb e w3 M) (he : e ≤ e2) (hno : ∀ i, e ≤ i → i < e2 → ¬ okL S g i) : Q0 S np g bud Mb e2 w3 M := by
  obtain ⟨h1, h2, h3, h4⟩ := hq
  refine ⟨h1, h2, h3, ?_⟩
  have e1 : n0 S np g e2 = n0 S np g e := posn_skip he hno
  have e3 : b0 S np g e2 = b0 S np g e := bs_skip he hno
  rw [e1, e3]
  exact h4
theorem y_line0 {S : Su} {np : Nat} {g : Gm} {bud a p k : Nat} {Mb M : Me} {w3 : Int32} {K : Int32 → Me → Op} {rec : Int32 → Int32 → Me → Op} (hw : wfS S) (hG : WG S np g) (hL : gL g = false) (hD : gD g = some k) (hbud : bud ≤ 1500) (ha : a < 1444) (hp : p < 9) (hf : fitS S (gT g) k (ph a)) (hq : Q0 S np g bud Mb (9 * ph a + p) w3 M) : (∃ w M2, qo_X7_search_109 K (nI bud) (nI (gW g)) (nI a) 1 rec w3 (pv p) M = rec w (pv (p + 1)) M2 ∧ Q0 S np g bud Mb (9 * ph a + p + 1) w M2) ∨ (qo_X7_search_109 K (nI bud) (nI (gW g)) (nI a) 1 rec w3 (pv p) M = K w3 M ∧ ∀ e, Q0 S np g bud Mb e w3 M) := by
  have hnp := hG.1
  have hW := hG.2.2.2.2.1
  have e9 : (9 * ph a + p) / 9 = ph a := by omega
  have em : (9 * ph a + p) % 9 = p := by omega
  have hf' : fitS S (gT g) k ((9 * ph a + p) / 9) := by rw [e9]; exact hf
  have hp8 : ∀ p, p < 9 → ¬ ((8 : Int32) ≤ pv p) := by decide
  have hpu : ∀ p, p < 9 → pv p + nI 1 = pv (p + 1) := by decide
  unfold qo_X7_search_109
  rw [if_neg (hp8 p hp), if_neg (show ¬ ((1 : Int32) = 0) by decide)]
  obtain ⟨q1, q2, q3, q4⟩ := hq
  rcases q4 with ⟨c, c1, c2, c3, c4, c5⟩ | ⟨c, c1, c2, c3, c4⟩
  · left
    rw [n_vv, c2, i_lt (by omega) (by omega), if_neg (by omega)]
    obtain ⟨M1, a1, a2, a3⟩ := y_layLine hw hG hL hD ha e9 hf' q1
    rw [a1, n_cl]
    have hC1 : Cp M1 0 g := Cp_keep q2 (fun i _ _ => a3 16 i (by unfold Ky; omega))
    have h277 : ∀ (w : Int32) (hh : Gm) (M2 : Me), gT hh = gT g ++ [((9 * ph a + p) / 9 / 4, k, (9 * ph a + p) / 9 % 4)] → RY M2 S np hh → Cp M2 0 g → ∃ M3, qb_X7_search_277 rec (nI bud) (nI (gW g)) w (nI a) 1 (pv p) M2 = rec w (pv (p + 1)) M3 ∧ RY M3 S np g ∧ ∀ c i, ¬ Ky c i → M3 c i = M2 c i := by
      intro w hh M2 hT hR hC
      obtain ⟨M3, b1', b2, b3⟩ := y_backLine (lv := 0) (by omega) hw hG hL hD hf' hT hR hC
      refine ⟨M3, ?_, b2, b3⟩
      unfold qb_X7_search_277
      rw [show (0 : Int32) = nI 0 from rfl, b1', n_cl, n_vv, show (1 : Int32) = nI 1 from rfl, hpu p hp]
    -- the finals are known, or there are too many positions
    have h206 : ∀ (M5 : Me) (c2' : Nat), okL S g (9 * ph a + p) → RY M5 S np (nx S np g (9 * ph a + p)) → Cp M5 0 g → (∀ c i, ¬ Ky c i → ¬ (c = 0 ∧ i = 30) → ¬ (16 ≤ c ∧ c ≤ 18) → M5 c i = M c i) → M5 0 30 = nI c2' → ((c2' ≤ bud ∧ c2' = n0 S np g (9 * ph a + p + 1) ∧ ∀ q, q < np → M5 17 q = nI (Fy0 S np g (9 * ph a + p) q)) ∨ (bud < c2' ∧ c2' ≤ bud + 1 ∧ c2' ≤ n0 S np g 15876)) → ∃ w M6, qb_X7_search_206 rec (nI bud) (nI (gW g)) w3 (nI a) 1 (pv p) M5 = rec w (pv (p + 1)) M6 ∧ Q0 S np g bud Mb (9 * ph a + p + 1) w M6 := by
      intro M5 c2' hok hR5 hC5 f5 h530 hcase
      have e8 : M5 0 8 = nI np := hR5.2.2.2.1
      obtain ⟨r, hr⟩ := y_aheadAny hnp.2 hW e8
      obtain ⟨s1, s2, s3⟩ := y_spot ha
      obtain ⟨N, hN⟩ : ∃ N, N = rx_st (rx_st (rx_st (rx_st M5 20 0 (co (ph a / 4 % 21))) 20 1 (co (ph a / 4 / 21))) 20 2 (nI (ph a % 4))) 20 3 (pv p) := ⟨_, rfl⟩
      have eN : ∀ c i, c ≠ 20 → N c i = M5 c i := fun c i h => by rw [hN, st_cell h, st_cell h, st_cell h, st_cell h]
      have lN' : LY0 N 20 (9 * ph a + p) := by
        unfold LY0
        rw [e9, em, hN]
        refine ⟨?_, ?_, ?_, st_same _ _ _ _⟩
        · rw [st_place (by decide), st_place (by decide), st_place (by decide), st_same]
        · rw [st_place (by decide), st_place (by decide), st_same]
        · rw [st_place (by decide), st_same]
      have run : qb_X7_search_206 rec (nI bud) (nI (gW g)) w3 (nI a) 1 (pv p) M5 = (if r ≤ w3 then (qb_X7_search_277 rec (nI bud) (nI (gW g)) w3 (nI a) 1 (pv p) M5) else (qb_X7_search_277 rec (nI bud) (nI (gW g)) r (nI a) 1 (pv p) N)) := by
        unfold qb_X7_search_206
        rw [hr, n_cl, hr, n_cl, s1, s2, s3, show (0 : Int32) = nI 0 from rfl, n_sv (by decide) (by decide), show (1 : Int32) = nI 1 from rfl, n_sv (by decide) (by decide), show (2 : Int32) = nI 2 from rfl, n_sv (by decide) (by decide), show (3 : Int32) = nI 3 from rfl, n_sv (by decide) (by decide), hN]
      have hRN : RY N S np (nx S np g (9 * ph a + p)) := RY_keep hR5 (fun c i hc => eN c i (by unfold Ky at hc; omega))
      have hCN : Cp N 0 g := Cp_keep hC5 (fun i _ _ => eN 16 i (by decide))
      rw [run]
      rcases hcase with ⟨k1, k2, k3⟩ | ⟨k1, k2, k3⟩
      · have hah := y_ahead (mv := gW g) (F := Fy0 S np g (9 * ph a + p)) hnp.1 hnp.2 hW e8 (fun q hq => Fy0_le hw hG hL hD hok hq) k3
        have hrv : r = v0 S np g (9 * ph a + p) := by
          rw [hr] at hah
          have := Option.some.inj hah
          exact congrArg Prod.fst this
        have hgt : ¬ (v0 S np g (9 * ph a + p) ≤ -100000) := mgI_gt hW (fun q hq => Fy0_le hw hG hL hD hok hq)
        have hb0 : b0 S np g (9 * ph a + p + 1) = bnew (v0 S np g) (b0 S np g (9 * ph a + p)) (9 * ph a + p) := bs_t hok
        rw [hrv, c4]
        by_cases hle : v0 S np g (9 * ph a + p) ≤ bvl (v0 S np g) (b0 S np g (9 * ph a + p))
        · rw [if_pos hle]
          obtain ⟨M6, t1, t2, t3⟩ := h277 (bvl (v0 S np g) (b0 S np g (9 * ph a + p))) _ M5 (nx_T hD) hR5 hC5
          refine ⟨_, M6, t1, t2, Cp_keep hC5 (fun i _ _ => t3 16 i (by unfold Ky; omega)), fun c i h1 h2 h3 h4 => by rw [t3 c i h1, f5 c i h1 h2 h3]; exact q3 c i h1 h2 h3 h4, Or.inl ⟨c2', k1, by rw [t3 0 30 (by unfold Ky; omega)]; exact h530, k2, ?_, ?_⟩⟩
          · rw [hb0, bnew_le hle hgt]
          · rw [hb0, bnew_le hle hgt]
            intro b hb
            have := c5 b hb
            unfold LY0 at this ⊢
            rw [t3 20 0 (by unfold Ky; omega), t3 20 1 (by unfold Ky; omega), t3 20 2 (by unfold Ky; omega), t3 20 3 (by unfold Ky; omega), f5 20 0 (by unfold Ky; omega) (by omega) (by omega), f5 20 1 (by unfold Ky; omega) (by omega) (by omega), f5 20 2 (by unfold Ky; omega) (by omega) (by omega), f5 20 3 (by unfold Ky; omega) (by omega) (by omega)]
            exact this
        · rw [if_neg hle]
          obtain ⟨M6, t1, t2, t3⟩ := h277 (v0 S np g (9 * ph a + p)) _ N (nx_T hD) hRN hCN
          refine ⟨_, M6, t1, t2, Cp_keep hCN (fun i _ _ => t3 16 i (by unfold Ky; omega)), fun c i h1 h2 h3 h4 => by rw [t3 c i h1, eN c i h4, f5 c i h1 h2 h3]; exact q3 c i h1 h2 h3 h4, Or.inl ⟨c2', k1, by rw [t3 0 30 (by unfold Ky; omega), eN 0 30 (by decide)]; exact h530, k2, ?_, ?_⟩⟩
          · rw [hb0, bnew_gt hle]; rfl
          · rw [hb0, bnew_gt hle]
            intro b hb
            cases hb
            unfold LY0 at lN' ⊢
            rw [t3 20 0 (by unfold Ky; omega), t3 20 1 (by unfold Ky; omega), t3 20 2 (by unfold Ky; omega), t3 20 3 (by unfold Ky; omega)]
            exact lN'
      · by_cases hle : r ≤ w3
        · rw [if_pos hle]
          obtain ⟨M6, t1, t2, t3⟩ := h277 w3 _ M5 (nx_T hD) hR5 hC5
          exact ⟨_, M6, t1, t2, Cp_keep hC5 (fun i _ _ => t3 16 i (by unfold Ky; omega)), fun c i h1 h2 h3 h4 => by rw [t3 c i h1, f5 c i h1 h2 h3]; exact q3 c i h1 h2 h3 h4, Or.inr ⟨c2', k1, k2, by rw [t3 0 30 (by unfold Ky; omega)]; exact h530, k3⟩⟩
        · rw [if_neg hle]
          obtain ⟨M6, t1, t2, t3⟩ := h277 r _ N (nx_T hD) hRN hCN
          exact ⟨_, M6, t1, t2, Cp_keep hCN (fun i _ _ => t3 16 i (by unfold Ky; omega)), fun c i h1 h2 h3 h4 => by rw [t3 c i h1, eN c i h4, f5 c i h1 h2 h3]; exact q3 c i h1 h2 h3 h4, Or.inr ⟨c2', k1, k2, by rw [t3 0 30 (by unfold Ky; omega), eN 0 30 (by decide)]; exact h530, k3⟩⟩
    have h169 : ∀ M2, okL S g (9 * ph a + p) → RY M2 S np (lyG g (9 * ph a + p)) → (∀ c i, ¬ Ky c i → M2 c i = M c i) → ∃ w M3, qb_X7_search_169 rec (nI bud) (nI (gW g)) w3 (nI a) 1 (pv p) M2 = rec w (pv (p + 1)) M3 ∧ Q0 S np g bud Mb (9 * ph a + p + 1) w M3 := by
      intro M2 hok hR2 hfr
      have hGl := WG_ly hw hG hL hD hok
      have hGn := WG_nx hw hG hL hD hok
      obtain ⟨M3, p1, p2, p3⟩ := y_put (j := p) (w := pv p) hw hGl hR2 rfl (by
        have hmv := okL_put (np := np) hok
        unfold okM at hmv
        rw [if_neg (show ¬ ((0, (9 * ph a + p) % 9, 0) : Mv).1 = 1 from (by decide : ¬ (0 = 1)))] at hmv
        have hmv := hmv.2
        rw [em] at hmv
        rcases hmv with g | ⟨j, g1, g2⟩
        · have g : p = 0 := g
          left; exact ⟨g, by rw [g]; rfl⟩
        · have g1 : p = j + 1 := g1
          right; exact ⟨j, g1, by rw [g1, pv_s], g2⟩)
      have hn : putG S np (lyG g (9 * ph a + p)) p = nx S np g (9 * ph a + p) := by unfold nx; rw [em]
      rw [hn] at p2
      obtain ⟨M4, hM4⟩ : ∃ M4, M4 = rx_st M3 0 30 (nI (c + 1)) := ⟨_, rfl⟩
      have e4 : ∀ c i, ¬ (c = 0 ∧ i = 30) → M4 c i = M3 c i := fun c i hc => by rw [hM4, st_get, if_neg hc]
      have h430 : M4 0 30 = nI (c + 1) := by rw [hM4]; exact st_same _ _ _ _
      have hR4 : RY M4 S np (nx S np g (9 * ph a + p)) := RY_keep p2 (fun c i hc => e4 c i (by unfold Ky at hc; omega))
      have h30 : M3 0 30 = nI c := by rw [p3 0 30 (by unfold Ky; omega), hfr 0 30 (by unfold Ky; omega)]; exact c2
      have f4 : ∀ c i, ¬ Ky c i → ¬ (c = 0 ∧ i = 30) → M4 c i = M c i := fun c i h1 h2 => by rw [e4 c i h2, p3 c i h1, hfr c i h1]
      have hn0 : n0 S np g (9 * ph a + p + 1) = n0 S np g (9 * ph a + p) + c0 S np g (9 * ph a + p) := posn_t hok
      have hall : n0 S np g (9 * ph a + p + 1) ≤ n0 S np g 15876 := posn_mono (okL_lt hok)
      have e20 : M4 0 20 = dv (gD (nx S np g (9 * ph a + p))) := hR4.2.2.2.2.2.2.2.2.1
      unfold qb_X7_search_169
      rw [p1, n_cl, n_vv, h30, kn_1, n_add, n_vv, ← hM4, n_vv, e20]
      cases hgD : gD (nx S np g (9 * ph a + p)) with
      | none =>
        obtain ⟨M5, r1, r2, r3, r4⟩ := y_count hw hGn hR4
        rw [if_pos (show dv none < 0 by decide), r1, n_cl]
        rw [c0_none hgD] at hn0
        refine h206 M5 (c + 1) hok r2 (Cp_keep q2 (fun i _ _ => by rw [r4 16 i (by decide) (by omega) (by decide), f4 16 i (by unfold Ky; omega) (by omega)])) (fun c i h1 h2 h3 => by rw [r4 c i (by unfold Ky at h1; omega) (by unfold Ky at h1; omega) (by omega), f4 c i h1 h2]) (by rw [r4 0 30 (by decide) (by omega) (by decide)]; exact h430) ?_
        by_cases hcb : c + 1 ≤ bud
        · left
          exact ⟨hcb, by omega, fun q hq => by rw [r3 q hq, Fy0_none hgD]; rfl⟩
        · right
          exact ⟨by omega, by omega, by omega⟩
      | some k1 =>
        have hX := hGl.2.2.2.2.2.1
        have hany : anyF S (gT (nx S np g (9 * ph a + p))) k1 := put_any (np := np) (g := lyG g (9 * ph a + p)) (j := (9 * ph a + p) % 9) hw hX hgD
        have hk1 := hGn.2.2.2.2.2.2.1 k1 hgD
        have h12 := hw.1
        obtain ⟨M5, r1, r2, r3, r4⟩ := y_reply (c := c + 1) hw hGn rfl hgD hany hbud hR4 (by omega) h430
        rw [show dv (some k1) = nI k1 from rfl, i_neg (by omega), r1, n_cl]
        rw [c0_some hgD] at hn0
        have hC5 : Cp M5 0 g := Cp_keep q2 (fun i _ i2 => by rw [r3 16 i (by unfold Ky; omega) (by omega) (by omega) (by decide) (by decide), f4 16 i (by unfold Ky; omega) (by omega)])
        have f5 : ∀ c i, ¬ Ky c i → ¬ (c = 0 ∧ i = 30) → ¬ (16 ≤ c ∧ c ≤ 18) → M5 c i = M c i := fun c i h1 h2 h3 => by rw [r3 c i h1 h2 (by omega) (by omega) (by omega), f4 c i h1 h2]
        rcases r4 with ⟨c6, d1, d2, d3, d4⟩ | ⟨c6, d1, d2, d3, d4⟩
        · exact h206 M5 c6 hok r2 hC5 f5 d2 (Or.inl ⟨d1, by omega, fun q hq => by rw [d4 q hq, Fy0_some hgD]⟩)
        · exact h206 M5 c6 hok r2 hC5 f5 d3 (Or.inr ⟨d1, d2, by omega⟩)
    by_cases hp0 : p = 0
    · subst hp0
      rw [if_pos (show pv 0 < 0 by decide)]
      exact h169 M1 ⟨k, hD, hf', Or.inl (by omega)⟩ a2 a3
    · obtain ⟨j, rfl⟩ : ∃ j, p = j + 1 := ⟨p - 1, by omega⟩
      have hGl : WG S np (lyG g (9 * ph a + (j + 1))) := by
        have ok0 : okL S g (9 * ph a) := ⟨k, hD, by rw [show 9 * ph a / 9 = ph a by omega]; exact hf, Or.inl (by omega)⟩
        have := WG_ly hw hG hL hD ok0
        rw [ly_eq (show 9 * ph a / 9 = (9 * ph a + (j + 1)) / 9 by omega)] at this
        exact this
      obtain ⟨M2, b1', b2, b3⟩ := y_mayFollow hw hGl a2 rfl (k := j) (by omega)
      rw [pv_s, i_neg (by omega), b1', n_cl]
      rw [pv_s] at h169 h277
      by_cases hm : mayP S (lyG g (9 * ph a + (j + 1))) j
      · rw [flg_t hm, if_neg (by decide)]
        exact h169 M2 ⟨k, hD, hf', Or.inr (by rw [em]; exact hm)⟩ b2 (fun c i hc => by rw [b3 c i (by unfold Ky at hc; omega) (by unfold Ky at hc; omega), a3 c i hc])
      · rw [flg_f hm, if_pos rfl]
        obtain ⟨M3, s1, s2, s3⟩ := h277 w3 _ M2 (ly_T hD) b2 (Cp_keep hC1 (fun i _ _ => b3 16 i (by decide) (by omega)))
        have f3 : ∀ c i, ¬ Ky c i → M3 c i = M c i := fun c i hc => by rw [s3 c i hc, b3 c i (by unfold Ky at hc; omega) (by unfold Ky at hc; omega), a3 c i hc]
        have hno : ¬ okL S g (9 * ph a + (j + 1)) := by
          rintro ⟨k2, o1, o2, o3⟩
          rcases o3 with o3 | o3
          · omega
          · rw [em] at o3; exact hm o3
        have hn1 : n0 S np g (9 * ph a + (j + 1) + 1) = n0 S np g (9 * ph a + (j + 1)) := posn_f hno
        have hb1 : b0 S np g (9 * ph a + (j + 1) + 1) = b0 S np g (9 * ph a + (j + 1)) := bs_f hno
        refine ⟨w3, M3, s1, s2, Cp_keep q2 (fun i _ _ => f3 16 i (by unfold Ky; omega)), fun c i h1 h2 h3 h4 => by rw [f3 c i h1]; exact q3 c i h1 h2 h3 h4, Or.inl ⟨c, c1, by rw [f3 0 30 (by unfold Ky; omega)]; exact c2, by rw [hn1]; exact c3, by rw [hb1]; exact c4, ?_⟩⟩
        rw [hb1]
        intro b hb
        have := c5 b hb
        unfold LY0 at this ⊢
        rw [f3 20 0 (by unfold Ky; omega), f3 20 1 (by unfold Ky; omega), f3 20 2 (by unfold Ky; omega), f3 20 3 (by unfold Ky; omega)]
        exact this
  · right
    refine ⟨?_, fun e => ⟨q1, q2, q3, Or.inr ⟨c, c1, c2, c3, c4⟩⟩⟩
    rw [n_vv, c3, i_lt (by omega) (by omega), if_pos c1]
theorem y_spots0 {S : Su} {np : Nat} {g : Gm} {bud k a : Nat} {Mb : Me} {K : Int32 → Me → Op} (hw : wfS S) (hG : WG S np g) (hL : gL g = false) (hD : gD g = some k) (hbud : bud ≤ 1500) (ha : a < 1444) (hf : fitS S (gT g) k (ph a)) : ∀ (f p : Nat) (w3 : Int32) (M : Me), 9 - p < f → p ≤ 9 → Q0 S np g bud Mb (9 * ph a + p) w3 M → ∃ w M2, rx_lp2 (qo_X7_search_109 K (nI bud) (nI (gW g)) (nI a) 1) f w3 (pv p) M = K w M2 ∧ Q0 S np g bud Mb (9 * ph a + 9) w M2 := by
  intro f
  induction f with
  | zero => intro p w3 M h; omega
  | succ f ih =>
    intro p w3 M hf' hp hq
    show ∃ w M2, qo_X7_search_109 K (nI bud) (nI (gW g)) (nI a) 1 (rx_lp2 (qo_X7_search_109 K (nI bud) (nI (gW g)) (nI a) 1) f) w3 (pv p) M = K w M2 ∧ _
    by_cases hp9 : p = 9
    · subst hp9
      refine ⟨w3, M, ?_, hq⟩
      generalize rx_lp2 (qo_X7_search_109 K (nI bud) (nI (gW g)) (nI a) 1) f = rec
      unfold qo_X7_search_109
      rw [if_pos (show (8 : Int32) ≤ pv 9 by decide)]
    · rcases y_line0 (K := K) (rec := rx_lp2 (qo_X7_search_109 K (nI bud) (nI (gW g)) (nI a) 1) f) hw hG hL hD hbud ha (show p < 9 by omega) hf hq with ⟨w, M2, a1, a2⟩ | ⟨a1, a2⟩
      · obtain ⟨w4, M3, b1', b2⟩ := ih (p + 1) w M2 (by omega) (by omega) a2
        exact ⟨w4, M3, by rw [a1]; exact b1', b2⟩
      · exact ⟨w3, M, a1, a2 _⟩
theorem y_cells0 {S : Su} {np : Nat} {g : Gm} {bud k : Nat} {Mb : Me} {K : Int32 → Me → Op} (hw : wfS S) (hG : WG S np g) (hL : gL g = false) (hD : gD g = some k) (hbud : bud ≤ 1500) : ∀ (f a : Nat) (w3 : Int32) (M : Me), 1444 - a < f → a ≤ 1444 → Q0 S np g bud Mb (9 * ph a) w3 M → ∃ w M2, rx_lp2 (qo_X7_search_58 K (nI bud) (nI (gW g))) f w3 (nI a) M = K w M2 ∧ Q0 S np g bud Mb 15876 w M2 := by
  intro f
  induction f with
  | zero => intro a w3 M h; omega
  | succ f ih =>
    intro a w3 M hf ha hq
    show ∃ w M2, qo_X7_search_58 K (nI bud) (nI (gW g)) (rx_lp2 (qo_X7_search_58 K (nI bud) (nI (gW g))) f) w3 (nI a) M = K w M2 ∧ _
    by_cases ha4 : a = 1444
    · subst ha4
      refine ⟨w3, M, ?_, Q0_skip hq (ph_9 (by omega)) (fun i i1 _ => ok_high i1)⟩
      generalize rx_lp2 (qo_X7_search_58 K (nI bud) (nI (gW g))) f = rec
      unfold qo_X7_search_58
      rw [kn_1444, i_le (by decide) (by decide), if_pos (by decide)]
    · have halt : a < 1444 := by omega
      obtain ⟨q1, q2, q3, q4⟩ := hq
      rcases q4 with ⟨c, c1, c2, c3, c4, c5⟩ | ⟨c, c1, c2, c3, c4⟩
      · have hq : Q0 S np g bud Mb (9 * ph a) w3 M := ⟨q1, q2, q3, Or.inl ⟨c, c1, c2, c3, c4, c5⟩⟩
        have hk := hG.2.2.2.2.2.2.1 k hD
        obtain ⟨s1, s2, s3⟩ := y_spot halt
        have hfa := y_fitsAt hw hG.2.1 q1.1 q1.2.1 hk (ph_inb halt) (show ph a % 4 < 4 from Nat.mod_lt _ (by decide))
        have e20 : M 0 20 = nI k := by rw [q1.2.2.2.2.2.2.2.2.1, hD]; rfl
        have h288 : ∀ (w : Int32) (M : Me), qb_X7_search_288 (rx_lp2 (qo_X7_search_58 K (nI bud) (nI (gW g))) f) (nI bud) (nI (gW g)) w (nI a) M = rx_lp2 (qo_X7_search_58 K (nI bud) (nI (gW g))) f w (nI (a + 1)) M := by
          intro w M
          unfold qb_X7_search_288
          rw [n_vv, kn_1, n_add]
        have go : ∀ (w : Int32) (M2 : Me), Q0 S np g bud Mb (9 * ph a + 9) w M2 → ∃ w' M3, qb_X7_search_288 (rx_lp2 (qo_X7_search_58 K (nI bud) (nI (gW g))) f) (nI bud) (nI (gW g)) w (nI a) M2 = K w' M3 ∧ Q0 S np g bud Mb 15876 w' M3 := by
          intro w M2 hq2
          have hlt := ph_lt (show a < a + 1 by omega)
          rw [h288]
          exact ih (a + 1) w M2 (by omega) (by omega) (Q0_skip hq2 (by omega) (fun i i1 i2 => ok_gap i1 i2))
        have run : qo_X7_search_58 K (nI bud) (nI (gW g)) (rx_lp2 (qo_X7_search_58 K (nI bud) (nI (gW g))) f) w3 (nI a) M = rx_lp2 (qo_X7_search_109 (fun a3 M => qb_X7_search_288 (rx_lp2 (qo_X7_search_58 K (nI bud) (nI (gW g))) f) (nI bud) (nI (gW g)) a3 (nI a) M) (nI bud) (nI (gW g)) (nI a) (flg (fit S (gT g) k (ph a / 4) (ph a % 4)))) rx_FU w3 (-1) M := by
          generalize rx_lp2 (qo_X7_search_58 K (nI bud) (nI (gW g))) f = rec
          unfold qo_X7_search_58
          rw [kn_1444, i_le (by decide) (by omega), if_neg (by omega), n_vv, c2, i_lt (by omega) (by omega), if_neg (by omega), n_vv, e20, s1, s2, s3, hfa, n_cl]
        rw [run]
        by_cases hfit : fit S (gT g) k (ph a / 4) (ph a % 4)
        · rw [flg_t hfit]
          obtain ⟨w, M2, a1, a2⟩ := y_spots0 (K := fun a3 M => qb_X7_search_288 (rx_lp2 (qo_X7_search_58 K (nI bud) (nI (gW g))) f) (nI bud) (nI (gW g)) a3 (nI a) M) hw hG hL hD hbud halt hfit rx_FU 0 w3 M (fu_lt (by decide)) (by omega) hq
          obtain ⟨w2, M3, b1', b2⟩ := go w M2 a2
          exact ⟨w2, M3, by rw [← b1']; exact a1, b2⟩
        · rw [flg_f hfit]
          obtain ⟨w2, M3, b1', b2⟩ := go w3 M (Q0_skip hq (by omega) (fun i i1 i2 => by
            rintro ⟨k2, o1, o2, o3⟩
            rw [hD] at o1
            cases o1
            rw [show i / 9 = ph a by omega] at o2
            exact hfit o2))
          refine ⟨w2, M3, ?_, b2⟩
          rw [← b1']
          obtain ⟨f2, hf2⟩ : ∃ f2, rx_FU = f2 + 1 := ⟨rx_FU - 1, by have := rx_FUe; omega⟩
          rw [hf2]
          show qo_X7_search_109 (fun a3 M => qb_X7_search_288 (rx_lp2 (qo_X7_search_58 K (nI bud) (nI (gW g))) f) (nI bud) (nI (gW g)) a3 (nI a) M) (nI bud) (nI (gW g)) (nI a) 0 _ w3 (-1) M = _
          unfold qo_X7_search_109
          rw [if_neg (by decide), if_pos rfl]
      · refine ⟨w3, M, ?_, q1, q2, q3, Or.inr ⟨c, c1, c2, c3, c4⟩⟩
        generalize rx_lp2 (qo_X7_search_58 K (nI bud) (nI (gW g))) f = rec
        unfold qo_X7_search_58
        rw [kn_1444, i_le (by decide) (by omega), if_neg (by omega), n_vv, c3, i_lt (by omega) (by omega), if_pos c1]
/-- the search proper, behind its checks -/
theorem y_seek {S : Su} {np : Nat} {g : Gm} {bud k : Nat} {M : Me} (hw : wfS S) (hG : WG S np g) (hL : gL g = false) (hD : gD g = some k) (hany : anyF S (gT g) k) (hbud : bud ≤ 1500) (hR : RY M S np g) : ∃ R, (rx_cl (qf_X7_copy 0 (rx_st M 0 30 0)) fun r7 M8 => rx_lp2 (qo_X7_search_58 (fun a3 M => qb_X7_search_294 (nI bud) a3 M) (nI bud) (nI (gW g))) rx_FU (-100000) 0 M8) = R ∧ (n0 S np g 15876 ≤ bud → ∃ b M2, b0 S np g 15876 = some b ∧ R = some (1000 + v0 S np g b, M2) ∧ RY M2 S np g ∧ LY0 M2 19 b ∧ M2 0 31 = 1 ∧ ∀ c i, ¬ Ky c i → ¬ (c = 0 ∧ (i = 30 ∨ i = 31)) → ¬ (16 ≤ c ∧ c ≤ 20) → M2 c i = M c i) ∧ (bud < n0 S np g 15876 → ∃ M2, R = some (-4, M2) ∧ RY M2 S np g ∧ ∀ c i, ¬ Ky c i → ¬ (c = 0 ∧ i = 30) → ¬ (16 ≤ c ∧ c ≤ 18) → c ≠ 20 → M2 c i = M c i) := by
  obtain ⟨M0, hM0⟩ : ∃ N, N = rx_st M 0 30 0 := ⟨_, rfl⟩
  have e0 : ∀ c i, ¬ (c = 0 ∧ i = 30) → M0 c i = M c i := fun c i h => by rw [hM0, st_get, if_neg h]
  have hR0 : RY M0 S np g := RY_keep hR (fun c i hc => e0 c i (by unfold Ky at hc; omega))
  obtain ⟨M1, a1, a2, a3⟩ := y_copy (lv := 0) (by omega) hR0 hL
  have hR1 : RY M1 S np g := RY_keep hR0 (fun c i hc => a3 c i (by unfold Ky at hc; omega))
  have h130 : M1 0 30 = nI 0 := by rw [a3 0 30 (by omega), hM0]; exact st_same _ _ _ _
  have hq0 : Q0 S np g bud M1 0 (-100000) M1 := ⟨hR1, a2, fun _ _ _ _ _ _ => rfl, Or.inl ⟨0, by omega, h130, rfl, rfl, fun b hb => (by cases hb)⟩⟩
  obtain ⟨w, M2, b1', b2⟩ := y_cells0 (K := fun a3 M => qb_X7_search_294 (nI bud) a3 M) hw hG hL hD hbud rx_FU 0 (-100000) M1 (fu_lt (by omega)) (by omega) (Q0_skip hq0 (by omega) (fun i _ i2 => ok_low i2))
  refine ⟨_, rfl, ?_, ?_⟩
  · intro hle
    obtain ⟨q1, q2, q3, q4⟩ := b2
    rcases q4 with ⟨c, c1, c2, c3, c4, c5⟩ | ⟨c, c1, c2, c3, c4⟩
    · obtain ⟨b, hb⟩ := b0_any (np := np) hD hany
      have hl := c5 b hb
      have L := lp1_up (b := qo_X7_search_308 (fun M => qb_X7_search_334 w M) w) (e := 4) (K := fun M => qb_X7_search_334 w M) (P := fun i M3 => (∀ p, p < i → M3 19 p = M2 20 p) ∧ ∀ c i, c ≠ 19 → M3 c i = M2 c i) ?_ ?_ rx_FU 0 M2 (fu_lt (by decide)) (by decide) ⟨fun p hp => (by omega), fun _ _ _ => rfl⟩
      · obtain ⟨M3, ⟨t1, t2⟩, L⟩ := L
        have e3 : ∀ c i, ¬ (c = 0 ∧ i = 31) → rx_st M3 0 31 1 c i = M3 c i := fun c i h => by rw [st_get, if_neg h]
        refine ⟨b, rx_st M3 0 31 1, hb, ?_, RY_keep q1 (fun c i hc => by rw [e3 c i (by unfold Ky at hc; omega), t2 c i (by unfold Ky at hc; omega)]), ?_, st_same _ _ _ _, fun c i h1 h2 h3 => by rw [e3 c i (by omega), t2 c i (by omega), q3 c i h1 (by omega) (by omega) (by omega), a3 c i (by omega), e0 c i (by omega)]⟩
        · rw [← hM0, show (0 : Int32) = nI 0 from rfl, a1, n_cl]
          refine Eq.trans b1' ?_
          show qb_X7_search_294 (nI bud) w M2 = _
          unfold qb_X7_search_294
          rw [n_vv, c2, i_le (by omega) (by omega), if_pos c1]
          refine Eq.trans L ?_
          show qb_X7_search_334 w M3 = _
          unfold qb_X7_search_334
          rw [n_vv, c4, hb]
          rfl
        · unfold LY0 at hl ⊢
          rw [e3 19 0 (by omega), e3 19 1 (by omega), e3 19 2 (by omega), e3 19 3 (by omega), t1 0 (by decide), t1 1 (by decide), t1 2 (by decide), t1 3 (by decide)]
          exact hl
      · intro rec i M3 hi hP
        refine ⟨rx_st M3 19 i (M2 20 i), ⟨fun x hx => ?_, fun c k hc => by rw [st_cell hc]; exact hP.2 c k hc⟩, ?_⟩
        · by_cases cx : x = i
          · rw [cx]; exact st_same _ _ _ _
          · rw [st_place cx]; exact hP.1 x (by omega)
        · unfold qo_X7_search_308
          rw [kn_4, i_le (by decide) (by omega), if_neg (by omega), n_ld hi (by decide), hP.2 20 i (by decide), n_sv hi (by decide), n_vv, kn_1, n_add]
      · intro rec M3 _
        unfold qo_X7_search_308
        rw [kn_4, i_le (by decide) (by decide), if_pos (by decide)]
    · omega
  · intro hgt
    obtain ⟨q1, q2, q3, q4⟩ := b2
    rcases q4 with ⟨c, c1, c2, c3, c4, c5⟩ | ⟨c, c1, c2, c3, c4⟩
    · omega
    · refine ⟨M2, ?_, q1, fun c i h1 h2 h3 h4 => by rw [q3 c i h1 h2 h3 h4, a3 c i (by omega), e0 c i h2]⟩
      rw [← hM0, show (0 : Int32) = nI 0 from rfl, a1, n_cl]
      refine Eq.trans b1' ?_
      show qb_X7_search_294 (nI bud) w M2 = _
      unfold qb_X7_search_294
      rw [n_vv, c3, i_le (by omega) (by omega), if_neg (by omega)]

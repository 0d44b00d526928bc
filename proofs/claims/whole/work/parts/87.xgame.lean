/-! The class holds a game: what matters, drawing, saving and restoring. -/
theorem XTab_eq {M M2 : Me} {S : Su} {T : Tl} {mn : Nat → Nat} {J : Nat} (h : XTab M S T mn) (e : ∀ c i, Kt T.length J c i → M c i = M2 c i) : XTab M2 S T mn := by
  obtain ⟨⟨⟨b1, b2, b3, b4, b5, b6, b7⟩, c1, c2, c3, -⟩, ⟨d1, d2⟩, ⟨r1, r2⟩, r3⟩ := h
  have f : ∀ c i, Kt T.length J c i → M2 c i = M c i := fun c i k => (e c i k).symm
  have f1 : ∀ i, M2 1 i = M 1 i := fun i => f 1 i (Or.inl rfl)
  have fk : ∀ c i, 9 ≤ c → c ≤ 19 → M2 c i = M c i := fun c i h1 h2 => f c i (Or.inr (Or.inl ⟨h1, h2⟩))
  have ft : ∀ c i, 20 ≤ c → c ≤ 23 → i < T.length → M2 c i = M c i := fun c i h1 h2 h3 => f c i (by unfold Kt; omega)
  have fr : ∀ c i, 25 ≤ c → c ≤ 29 → i < 8 * T.length → M2 c i = M c i := fun c i h1 h2 h3 => f c i (by unfold Kt; omega)
  refine ⟨⟨⟨?_, ?_, fun i hi => ?_, fun t s h1 h2 => ?_, fun t k h1 h2 => ?_, fun t d h1 h2 => ?_, fun t ht => ?_⟩, ?_, fun t ht => ?_, fun q hq => ?_, trivial⟩, ⟨fun q hq => ?_, fun q hq => ?_⟩, ⟨fun p hp => ?_, fun r hr hl => ?_⟩, ?_⟩
  · rw [f1]; exact b1
  · rw [f1]; exact b2
  · rw [fk 16 i (by decide) (by decide)]; exact b3 i hi
  · rw [fk 9 _ (by decide) (by decide)]; exact b4 t s h1 h2
  · rw [fk 11 _ (by decide) (by decide), fk 12 _ (by decide) (by decide), fk 13 _ (by decide) (by decide), fk 14 _ (by decide) (by decide)]; exact b5 t k h1 h2
  · rw [fk 10 _ (by decide) (by decide)]; exact b6 t d h1 h2
  · rw [fk 15 _ (by decide) (by decide)]; exact b7 t ht
  · rw [f 2 9 (by unfold Kt; omega)]; exact c1
  · rw [ft 20 t (by decide) (by decide) ht, ft 21 t (by decide) (by decide) ht, ft 22 t (by decide) (by decide) ht]; exact c2 t ht
  · rw [fk 17 _ (by decide) (by decide)]; exact c3 q hq
  · rw [fk 18 _ (by decide) (by decide)]; exact d1 q hq
  · rw [fk 19 _ (by decide) (by decide)]; exact d2 q hq
  · rw [fr 25 p (by decide) (by decide) hp]; exact r1 p hp
  · rw [fr 26 r (by decide) (by decide) hr, fr 27 r (by decide) (by decide) hr, fr 28 r (by decide) (by decide) hr, fr 29 r (by decide) (by decide) hr]; exact r2 r hr hl
  · rw [f 3 7 (by unfold Kt; omega)]; exact r3
def dv (d : Option Nat) : Int32 := match d with
  | none => -1
  | some k => nI k
def XG (M : Me) (S : Su) (np : Nat) (g : Gm) : Prop := XP M S (gT g) np (gZ g) ∧ M 4 2 = 1 ∧ M 4 3 = (if gL g = true then 1 else 0) ∧ M 4 5 = nI (gW g) ∧ M 4 6 = (if gL g = true then -1 else dv (gD g)) ∧ M 4 7 = nI (gX g) ∧ M 4 8 = nI (gA g)
def Kg (n J C w c i : Nat) : Prop := Kt n J c i ∨ (c = 3 ∧ i = 10) ∨ (c = 4 ∧ i ≤ 8) ∨ ((c = 32 ∨ c = 33) ∧ i < C) ∨ ((c = 34 ∨ c = 35) ∧ i < 3) ∨ (c = 37 ∧ i < 10 * w)
def EqG (S : Su) (g : Gm) (M M2 : Me) : Prop := ∀ c i, Kg (gT g).length (jc S (gT g)) (gCh g) (gw g) c i → M c i = M2 c i
def Jk (c i : Nat) : Prop := c = 0 ∨ (c = 2 ∧ i ≠ 9) ∨ (5 ≤ c ∧ c ≤ 8) ∨ c = 24 ∨ c = 36 ∨ 38 ≤ c
theorem EqG.rf {S : Su} {g : Gm} {M : Me} : EqG S g M M := fun _ _ _ => rfl
theorem EqG.tr {S : Su} {g : Gm} {M M2 M3 : Me} (h : EqG S g M M2) (h2 : EqG S g M2 M3) : EqG S g M M3 := fun c i k => (h c i k).trans (h2 c i k)
theorem EqG.sy {S : Su} {g : Gm} {M M2 : Me} (h : EqG S g M M2) : EqG S g M2 M := fun c i k => (h c i k).symm
theorem XG_eq {S : Su} {np : Nat} {g : Gm} {M M2 : Me} (h : XG M S np g) (e : EqG S g M M2) : XG M2 S np g := by
  obtain ⟨⟨t1, t2, t3, t4⟩, g2, g3, g5, g6, g7, g8⟩ := h
  have e4 : ∀ i, i ≤ 8 → M2 4 i = M 4 i := fun i hi => (e 4 i (Or.inr (Or.inr (Or.inl ⟨rfl, hi⟩)))).symm
  refine ⟨⟨XTab_eq t1 (fun c i k => e c i (Or.inl k)), ?_, fun p hp => ⟨?_, ?_⟩, ?_⟩, ?_, ?_, ?_, ?_, ?_, ?_⟩
  · rw [e4 4 (by decide)]; exact t2
  · rw [← e 34 p (by unfold Kg; omega)]; exact (t3 p hp).1
  · rw [← e 35 p (by unfold Kg; omega)]; exact (t3 p hp).2
  · rw [← e 3 10 (by unfold Kg; omega)]; exact t4
  · rw [e4 2 (by decide)]; exact g2
  · rw [e4 3 (by decide)]; exact g3
  · rw [e4 5 (by decide)]; exact g5
  · rw [e4 6 (by decide)]; exact g6
  · rw [e4 7 (by decide)]; exact g7
  · rw [e4 8 (by decide)]; exact g8
/-! drawing -/
theorem x_drawLoop {S : Su} {T : Tl} {mn : Nat → Nat} (hw : wfS S) (hwt : wfTl S T) (hc : cen T) : ∀ (n f x a : Nat) (M : Me), x + n = (sL S).length → n < f → XTab M S T mn → M 4 6 = -1 → M 4 7 = nI x → M 4 8 = nI a → ∃ M2, rx_lp1 qo_X2_drawNext_5 f (nI x) M = some (0, M2) ∧ M2 4 6 = dv (dn S T n x a).2.1 ∧ M2 4 7 = nI (dn S T n x a).1 ∧ M2 4 8 = nI (dn S T n x a).2.2 ∧ ∀ c i, ¬ (c = 4 ∧ 6 ≤ i ∧ i ≤ 8) → M2 c i = M c i := by
  have hlen := hw.2.1
  intro n
  induction n with
  | zero =>
    intro f x a M hx hf hT h6 h7 h8
    obtain ⟨f2, rfl⟩ : ∃ f2, f = f2 + 1 := ⟨f - 1, by omega⟩
    refine ⟨M, ?_, h6, h7, h8, fun _ _ _ => rfl⟩
    show qo_X2_drawNext_5 (rx_lp1 qo_X2_drawNext_5 f2) (nI x) M = _
    generalize rx_lp1 qo_X2_drawNext_5 f2 = rec
    unfold qo_X2_drawNext_5
    rw [n_vv, hT.1.1.2.1, i_le (by omega) (by omega), if_pos (by omega)]
  | succ n ih =>
    intro f x a M hx hf hT h6 h7 h8
    obtain ⟨f2, rfl⟩ : ∃ f2, f = f2 + 1 := ⟨f - 1, by omega⟩
    have hxl : x < (sL S).length := by omega
    have e16 := hT.1.1.2.2.1 x hxl
    have hk := hw.2.2.1 x hxl
    have hT3 : ∀ v, XTab (rx_st M 4 7 v) S T mn := fun v => XTab_keep hT (fun c i hc => st_cell (by omega))
    obtain ⟨r, n1, n2⟩ := x_next hw hwt hc (hT3 (nI (x + 1))).1.1 (hT3 (nI (x + 1))).1.2 (hT3 (nI (x + 1))).2.1 hk (p := 0) (by decide)
    have key : qo_X2_drawNext_5 (rx_lp1 qo_X2_drawNext_5 f2) (nI x) M = (if r = (-1) then (qb_X2_drawNext_78 (rx_lp1 qo_X2_drawNext_5 f2) (nI x) (rx_st (rx_st M 4 7 (nI (x + 1))) 4 8 (nI (a + 1)))) else (qb_X2_drawNext_78 (rx_lp1 qo_X2_drawNext_5 f2) (nI x) (rx_st (rx_st M 4 7 (nI (x + 1))) 4 6 (nI ((sL S).getD x 0))))) := by
      generalize rx_lp1 qo_X2_drawNext_5 f2 = rec
      unfold qo_X2_drawNext_5
      rw [n_vv, hT.1.1.2.1, i_le (by omega) (by omega), if_neg (by omega), n_vv, h6, if_pos rfl, n_vv, kn_1, n_add, n_ld (by omega) (by decide), st_cell (show (16 : Nat) ≠ 4 by decide), e16, show (0 : Int32) = nI 0 from rfl, n1, n_cl, n_ld (by omega) (by decide), st_cell (show (16 : Nat) ≠ 4 by decide), e16, n_vv, st_place (show (8 : Nat) ≠ 7 by decide), h8, n_vv, n_add, n_vv]
    show ∃ M2, qo_X2_drawNext_5 (rx_lp1 qo_X2_drawNext_5 f2) (nI x) M = some (0, M2) ∧ _
    rw [key]
    rcases n2 with ⟨j, j1, j2, j3, j4, j5⟩ | ⟨j1, j2⟩
    · have hany : anyF S T ((sL S).getD x 0) := ⟨j, j2, j3⟩
      rw [j5, i_m1 (by omega), dn_t hany]
      obtain ⟨f3, rfl⟩ : ∃ f3, f2 = f3 + 1 := ⟨f2 - 1, by omega⟩
      refine ⟨rx_st (rx_st M 4 7 (nI (x + 1))) 4 6 (nI ((sL S).getD x 0)), ?_, st_same _ _ _ _, ?_, ?_, fun c i hci => ?_⟩
      · unfold qb_X2_drawNext_78
        rw [n_vv, kn_1, n_add]
        show qo_X2_drawNext_5 (rx_lp1 qo_X2_drawNext_5 f3) (nI (x + 1)) _ = _
        generalize rx_lp1 qo_X2_drawNext_5 f3 = rec
        unfold qo_X2_drawNext_5
        rw [n_vv, st_cell (by decide), st_cell (by decide), hT.1.1.2.1, i_le (by omega) (by omega)]
        by_cases hq : (sL S).length ≤ x + 1
        · rw [if_pos hq]
        · rw [if_neg hq, n_vv, st_same, i_m1 (by have := hw.1; omega)]
      · rw [st_place (by decide), st_same]
      · rw [st_place (by decide), st_place (by decide)]; exact h8
      · rw [st_get, if_neg (by omega), st_get, if_neg (by omega)]
    · have hno : ¬ anyF S T ((sL S).getD x 0) := fun ⟨j, h1, h2⟩ => j1 j (by omega) h1 h2
      rw [j2, if_pos rfl, dn_f hno]
      obtain ⟨M2, a1, a2, a3, a4, a5⟩ := ih f2 (x + 1) (a + 1) (rx_st (rx_st M 4 7 (nI (x + 1))) 4 8 (nI (a + 1))) (by omega) (by omega) (XTab_keep hT (fun c i hc => by rw [st_cell (by omega), st_cell (by omega)])) (by rw [st_place (by decide), st_place (by decide)]; exact h6) (by rw [st_place (by decide), st_same]) (st_same _ _ _ _)
      refine ⟨M2, ?_, a2, a3, a4, fun c i hci => ?_⟩
      · unfold qb_X2_drawNext_78
        rw [n_vv, kn_1, n_add]
        exact a1
      · rw [a5 c i hci, st_get, if_neg (by omega), st_get, if_neg (by omega)]
theorem x_drawNext {S : Su} {T : Tl} {mn : Nat → Nat} {M : Me} {x a : Nat} (hw : wfS S) (hwt : wfTl S T) (hc : cen T) (hT : XTab M S T mn) (hx : x ≤ (sL S).length) (h6 : M 4 6 = -1) (h7 : M 4 7 = nI x) (h8 : M 4 8 = nI a) : ∃ M2, qf_X2_drawNext M = some (0, M2) ∧ M2 4 6 = dv (drw S T x a).2.1 ∧ M2 4 7 = nI (drw S T x a).1 ∧ M2 4 8 = nI (drw S T x a).2.2 ∧ ∀ c i, ¬ (c = 4 ∧ 6 ≤ i ∧ i ≤ 8) → M2 c i = M c i := by
  have hlen := hw.2.1
  unfold qf_X2_drawNext drw
  rw [n_vv, h7]
  exact x_drawLoop hw hwt hc _ rx_FU x a M (by omega) (fu_lt (by omega)) hT h6 h7 h8
/-! saving and restoring -/
def svV (M : Me) (j : Nat) : Int32 := if j = 0 then M 4 5 else if j = 1 then M 4 7 else if j = 2 then M 4 8 else if j = 3 then M 3 10 else if j < 7 then M 34 (j - 4) else M 35 (j - 7)
theorem svV_p (M : Me) {p : Nat} (h : p < 3) : svV M (4 + p) = M 34 p := by
  unfold svV
  rw [if_neg (by omega), if_neg (by omega), if_neg (by omega), if_neg (by omega), if_pos (by omega), show 4 + p - 4 = p by omega]
theorem svV_l (M : Me) {p : Nat} : svV M (7 + p) = M 35 p := by
  unfold svV
  rw [if_neg (by omega), if_neg (by omega), if_neg (by omega), if_neg (by omega), if_neg (by omega), show 7 + p - 7 = p by omega]
theorem x_save {M : Me} {n : Nat} (h : M 2 9 = nI (n + 1)) (hn : n < 24) : ∃ M2, qf_X2_save M = some (0, M2) ∧ (∀ j, j < 10 → M2 37 (10 * n + j) = svV M j) ∧ ∀ c i, ¬ (c = 37 ∧ 10 * n ≤ i ∧ i < 10 * n + 10) → M2 c i = M c i := by
  let M10 : Me := rx_st (rx_st (rx_st (rx_st M 37 (n * 10) (M 4 5)) 37 (n * 10 + 1) (M 4 7)) 37 (n * 10 + 2) (M 4 8)) 37 (n * 10 + 3) (M 3 10)
  have e10 : ∀ c i, M10 c i = if c = 37 ∧ i = n * 10 + 3 then M 3 10 else if c = 37 ∧ i = n * 10 + 2 then M 4 8 else if c = 37 ∧ i = n * 10 + 1 then M 4 7 else if c = 37 ∧ i = n * 10 then M 4 5 else M c i := by
    intro c i
    show rx_st _ _ _ _ c i = _
    simp only [st_get]
  have L := lp1_up (b := qo_X2_save_67 (nI (n * 10))) (e := 3) (K := fun M => some ((0 : Int32), M)) (P := fun i M2 => (∀ j, j < 10 → (j < 4 + i ∨ (7 ≤ j ∧ j < 7 + i)) → M2 37 (10 * n + j) = svV M j) ∧ ∀ c i, ¬ (c = 37 ∧ 10 * n ≤ i ∧ i < 10 * n + 10) → M2 c i = M c i) ?_ ?_ rx_FU 0 M10 (fu_lt (by decide)) (by decide) ⟨?_, ?_⟩
  · obtain ⟨M2, ⟨p1, p2⟩, L⟩ := L
    refine ⟨M2, ?_, fun j hj => p1 j hj (by omega), p2⟩
    rw [← L]
    unfold qf_X2_save
    rw [n_vv, h, kn_1, n_sub (by omega), show n + 1 - 1 = n by omega, kn_10, n_mul, n_vv, n_vv, n_sv (by omega) (by decide), n_vv, n_add, n_sv (by omega) (by decide), n_vv, kn_2, n_add, n_sv (by omega) (by decide), n_vv, kn_3, n_add, n_sv (by omega) (by decide)]
    simp only [st_cell (show (4 : Nat) ≠ 37 by decide), st_cell (show (3 : Nat) ≠ 37 by decide)]
    rfl
  · intro rec i M2 hi hP
    obtain ⟨p1, p2⟩ := hP
    refine ⟨rx_st (rx_st M2 37 (n * 10 + 4 + i) (M 34 i)) 37 (n * 10 + 4 + 3 + i) (M 35 i), ⟨fun j hj hji => ?_, fun c k hck => ?_⟩, ?_⟩
    · rw [st_get]
      by_cases c1 : 10 * n + j = n * 10 + 4 + 3 + i
      · rw [if_pos ⟨rfl, c1⟩, show j = 7 + i by omega, svV_l]
      · rw [if_neg (fun g => c1 g.2), st_get]
        by_cases c2 : 10 * n + j = n * 10 + 4 + i
        · rw [if_pos ⟨rfl, c2⟩, show j = 4 + i by omega, svV_p _ hi]
        · rw [if_neg (fun g => c2 g.2)]
          exact p1 j hj (by omega)
    · rw [st_get, if_neg (by omega), st_get, if_neg (by omega)]
      exact p2 c k hck
    · unfold qo_X2_save_67
      rw [kn_3, i_le (by decide) (by omega), if_neg (by omega), n_ld hi (by decide), kn_4, n_add, n_add, n_sv (by omega) (by decide), n_ld hi (by decide), st_cell (by decide), n_add, n_add, n_sv (by omega) (by decide), n_vv, kn_1, n_add, p2 34 i (by omega), p2 35 i (by omega)]
  · intro rec M2 _
    unfold qo_X2_save_67
    rw [kn_3, i_le (by decide) (by decide), if_pos (by decide)]
  · intro j hj hji
    rw [e10]
    have h4 : j = 0 ∨ j = 1 ∨ j = 2 ∨ j = 3 := by omega
    rcases h4 with rfl | rfl | rfl | rfl
    · rw [if_neg (by omega), if_neg (by omega), if_neg (by omega), if_pos (by omega)]; rfl
    · rw [if_neg (by omega), if_neg (by omega), if_pos (by omega)]; rfl
    · rw [if_neg (by omega), if_pos (by omega)]; rfl
    · rw [if_pos (by omega)]; rfl
  · intro c i hci
    rw [e10, if_neg (by omega), if_neg (by omega), if_neg (by omega), if_neg (by omega)]
theorem x_restore {M M11 : Me} {n : Nat} {v : Nat → Int32} {r : Int32} (h : M 2 9 = nI (n + 1)) (hn : n < 24) (hv : ∀ j, j < 10 → M 37 (10 * n + j) = v j) (ht : qf_X3_takeMenBackTo (v 3) (rx_st (rx_st (rx_st M 4 5 (v 0)) 4 7 (v 1)) 4 8 (v 2)) = some (r, M11)) (h37 : ∀ i, M11 37 i = M 37 i) : ∃ M2, qf_X2_restore M = some (0, M2) ∧ (∀ p, p < 3 → M2 34 p = v (4 + p) ∧ M2 35 p = v (7 + p)) ∧ ∀ c i, ¬ ((c = 34 ∨ c = 35) ∧ i < 3) → M2 c i = M11 c i := by
  have v0 := hv 0 (by decide)
  have v1 := hv 1 (by decide)
  have v2 := hv 2 (by decide)
  have v3 := hv 3 (by decide)
  have L := lp1_up (b := qo_X2_restore_67 (nI (n * 10))) (e := 3) (K := fun M => some ((0 : Int32), M)) (P := fun i M2 => (∀ p, p < i → M2 34 p = v (4 + p) ∧ M2 35 p = v (7 + p)) ∧ ∀ c i, ¬ ((c = 34 ∨ c = 35) ∧ i < 3) → M2 c i = M11 c i) ?_ ?_ rx_FU 0 M11 (fu_lt (by decide)) (by decide) ⟨fun p hp => (by omega), fun _ _ _ => rfl⟩
  · obtain ⟨M2, ⟨p1, p2⟩, L⟩ := L
    refine ⟨M2, ?_, p1, p2⟩
    rw [← L]
    unfold qf_X2_restore
    rw [n_vv, h, kn_1, n_sub (by omega), show n + 1 - 1 = n by omega, kn_10, n_mul, n_vv, n_ld (by omega) (by decide), n_vv, n_add, n_ld (by omega) (by decide), n_vv, kn_2, n_add, n_ld (by omega) (by decide), n_vv, kn_3, n_add, n_ld (by omega) (by decide)]
    simp only [st_cell (show (37 : Nat) ≠ 4 by decide)]
    rw [show n * 10 = 10 * n + 0 by omega, v0, show 10 * n + 0 + 1 = 10 * n + 1 by omega, v1, show 10 * n + 0 + 2 = 10 * n + 2 by omega, v2, show 10 * n + 0 + 3 = 10 * n + 3 by omega, v3, ht, n_cl]
    rfl
  · intro rec i M2 hi hP
    obtain ⟨p1, p2⟩ := hP
    have w1 : M2 37 (n * 10 + 4 + i) = v (4 + i) := by rw [p2 37 _ (by omega), h37, ← hv (4 + i) (by omega)]; congr 1; omega
    have w2 : M2 37 (n * 10 + 4 + 3 + i) = v (7 + i) := by rw [p2 37 _ (by omega), h37, ← hv (7 + i) (by omega)]; congr 1; omega
    refine ⟨rx_st (rx_st M2 34 i (v (4 + i))) 35 i (v (7 + i)), ⟨fun p hp => ?_, fun c k hck => ?_⟩, ?_⟩
    · by_cases hpi : p = i
      · subst hpi
        exact ⟨by rw [st_cell (by decide), st_same], st_same _ _ _ _⟩
      · rw [st_place hpi, st_place hpi, st_place hpi, st_place hpi]
        exact p1 p (by omega)
    · rw [st_get, if_neg (by omega), st_get, if_neg (by omega)]
      exact p2 c k hck
    · unfold qo_X2_restore_67
      rw [kn_3, i_le (by decide) (by omega), if_neg (by omega), kn_4, n_add, n_add, n_ld (by omega) (by decide), w1, n_sv hi (by decide), n_add, n_add, n_ld (by omega) (by decide), st_cell (by decide), w2, n_sv hi (by decide), n_vv, kn_1, n_add]
  · intro rec M2 _
    unfold qo_X2_restore_67
    rw [kn_3, i_le (by decide) (by decide), if_pos (by decide)]

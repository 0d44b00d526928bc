/-! The reference draws, lays and begins. -/
theorem fitS_inb {S : Su} {T : Tl} {k j : Nat} (h : fitS S T k j) : inb (j / 4) := h.1
theorem nth_any {S : Su} {T : Tl} {k : Nat} {r : Int32} (h : nth (fun a => fitS S T k (ph a)) 1444 0 r) : (anyF S T k ∧ ∃ j, j < 1444 ∧ r = nI j) ∨ (¬ anyF S T k ∧ r = -1) := by
  rcases h with ⟨j, h1, h2, h3, h4⟩ | ⟨h1, h2⟩
  · left
    have hin := ph_inb h1
    refine ⟨⟨ph j, ?_, h2⟩, j, h1, h4⟩
    obtain ⟨q1, q2, q3, q4⟩ := hin
    omega
  · right
    refine ⟨fun ⟨j, g1, g2⟩ => ?_, h2⟩
    obtain ⟨a, ha, rfl⟩ := ph_onto (fitS_inb g2)
    have c1 : cnt (fun a => fitS S T k (ph a)) (a + 1) = cnt (fun a => fitS S T k (ph a)) a + 1 := cnt_t g2
    have c2 : cnt (fun a => fitS S T k (ph a)) (a + 1) ≤ cnt (fun a => fitS S T k (ph a)) 1444 := cnt_mono ha
    omega
theorem y_drawLoop {S : Su} {T : Tl} (hw : wfS S) (hwt : wfTl S T) : ∀ (n f x a : Nat) (M : Me), x + n = (sL S).length → n < f → SY M S → YT M T → M 0 20 = -1 → M 0 19 = nI x → M 0 21 = nI a → ∃ M2, rx_lp0 qo_X7_drawNext_5 f M = some (0, M2) ∧ M2 0 20 = dv (dn S T n x a).2.1 ∧ M2 0 19 = nI (dn S T n x a).1 ∧ M2 0 21 = nI (dn S T n x a).2.2 ∧ ∀ c i, ¬ (c = 0 ∧ 19 ≤ i ∧ i ≤ 21) → M2 c i = M c i := by
  have hlen := hw.2.1
  intro n
  induction n with
  | zero =>
    intro f x a M hx hf hS hY h20 h19 h21
    obtain ⟨f2, rfl⟩ : ∃ f2, f = f2 + 1 := ⟨f - 1, by omega⟩
    refine ⟨M, ?_, h20, h19, h21, fun _ _ _ => rfl⟩
    show qo_X7_drawNext_5 (rx_lp0 qo_X7_drawNext_5 f2) M = _
    generalize rx_lp0 qo_X7_drawNext_5 f2 = rec
    unfold qo_X7_drawNext_5
    rw [n_vv, h20, if_neg (by decide), n_vv, h19, n_vv, hS.2.1, i_le (by omega) (by omega), if_pos (by omega)]
  | succ n ih =>
    intro f x a M hx hf hS hY h20 h19 h21
    obtain ⟨f2, rfl⟩ : ∃ f2, f = f2 + 1 := ⟨f - 1, by omega⟩
    have hxl : x < (sL S).length := by omega
    have e5 := hS.2.2.1 x hxl
    have hk := hw.2.2.1 x hxl
    have hS3 : SY (rx_st M 0 19 (nI (x + 1))) S := SY_keep hS (fun c i hc => by rw [st_get, if_neg (by omega)])
    have hY3 : YT (rx_st M 0 19 (nI (x + 1))) T := YT_keep hY (fun c i hc => by rw [st_get, if_neg (by omega)])
    obtain ⟨r, n1, n2⟩ := y_fitting hw hwt hS3 hY3 hk (i := 0) (by decide)
    have key : qo_X7_drawNext_5 (rx_lp0 qo_X7_drawNext_5 f2) M = (if r < 0 then (rx_lp0 qo_X7_drawNext_5 f2 (rx_st (rx_st M 0 19 (nI (x + 1))) 0 21 (nI (a + 1)))) else (rx_lp0 qo_X7_drawNext_5 f2 (rx_st (rx_st M 0 19 (nI (x + 1))) 0 20 (nI ((sL S).getD x 0))))) := by
      generalize rx_lp0 qo_X7_drawNext_5 f2 = rec
      unfold qo_X7_drawNext_5
      rw [n_vv, h20, if_neg (by decide), n_vv, h19, n_vv, hS.2.1, i_le (by omega) (by omega), if_neg (by omega), n_vv, n_ld (by omega) (by decide), e5, n_vv, kn_1, n_add, n_vv, show (0 : Int32) = nI 0 from rfl, n1, n_cl, n_vv, st_place (by decide), h21, n_add, n_vv, n_vv]
    show ∃ M2, qo_X7_drawNext_5 (rx_lp0 qo_X7_drawNext_5 f2) M = some (0, M2) ∧ _
    rw [key]
    rcases nth_any n2 with ⟨hany, j, hj, rfl⟩ | ⟨hno, rfl⟩
    · rw [i_neg (by omega), dn_t hany]
      obtain ⟨f3, rfl⟩ : ∃ f3, f2 = f3 + 1 := ⟨f2 - 1, by omega⟩
      refine ⟨rx_st (rx_st M 0 19 (nI (x + 1))) 0 20 (nI ((sL S).getD x 0)), ?_, st_same _ _ _ _, ?_, ?_, fun c i hci => ?_⟩
      · show qo_X7_drawNext_5 (rx_lp0 qo_X7_drawNext_5 f3) _ = _
        generalize rx_lp0 qo_X7_drawNext_5 f3 = rec
        unfold qo_X7_drawNext_5
        rw [n_vv, st_same, kn_0, i_le (by decide) (by have := hw.1; omega), if_pos (by omega)]
      · rw [st_place (by decide), st_same]
      · rw [st_place (by decide), st_place (by decide)]; exact h21
      · rw [st_get, if_neg (by omega), st_get, if_neg (by omega)]
    · rw [if_pos (by decide), dn_f hno]
      obtain ⟨M2, a1, a2, a3, a4, a5⟩ := ih f2 (x + 1) (a + 1) (rx_st (rx_st M 0 19 (nI (x + 1))) 0 21 (nI (a + 1))) (by omega) (by omega) (SY_keep hS3 (fun c i hc => by rw [st_get, if_neg (by omega)])) (YT_keep hY3 (fun c i hc => by rw [st_get, if_neg (by omega)])) (by rw [st_place (by decide), st_place (by decide)]; exact h20) (by rw [st_place (by decide), st_same]) (st_same _ _ _ _)
      refine ⟨M2, a1, a2, a3, a4, fun c i hci => ?_⟩
      rw [a5 c i hci, st_get, if_neg (by omega), st_get, if_neg (by omega)]
theorem y_drawNext {S : Su} {T : Tl} {M : Me} {x a : Nat} (hw : wfS S) (hwt : wfTl S T) (hS : SY M S) (hY : YT M T) (hx : x ≤ (sL S).length) (h19 : M 0 19 = nI x) (h21 : M 0 21 = nI a) : ∃ M2, qf_X7_drawNext M = some (0, M2) ∧ M2 0 20 = dv (drw S T x a).2.1 ∧ M2 0 19 = nI (drw S T x a).1 ∧ M2 0 21 = nI (drw S T x a).2.2 ∧ ∀ c i, ¬ (c = 0 ∧ 19 ≤ i ∧ i ≤ 21) → M2 c i = M c i := by
  have hlen := hw.2.1
  obtain ⟨M2, a1, a2, a3, a4, a5⟩ := y_drawLoop hw hwt ((sL S).length - x) rx_FU x a (rx_st M 0 20 (-1)) (by omega) (fu_lt (by omega)) (SY_keep hS (fun c i hc => by rw [st_get, if_neg (by omega)])) (YT_keep hY (fun c i hc => by rw [st_get, if_neg (by omega)])) (st_same _ _ _ _) (by rw [st_place (by decide)]; exact h19) (by rw [st_place (by decide)]; exact h21)
  refine ⟨M2, ?_, a2, a3, a4, fun c i hc => by rw [a5 c i hc, st_get, if_neg (by omega)]⟩
  unfold qf_X7_drawNext
  rw [n_vv]
  exact a1
def RY (M : Me) (S : Su) (np : Nat) (g : Gm) : Prop := SY M S ∧ YT M (gT g) ∧ M 0 7 = 1 ∧ M 0 8 = nI np ∧ YO M (gO g) ∧ (∀ p, p < 3 → M 12 p = nI (gP g p) ∧ M 13 p = nI (gF g p)) ∧ M 0 18 = nI (gW g) ∧ M 0 19 = nI (gX g) ∧ M 0 20 = dv (gD g) ∧ M 0 21 = nI (gA g) ∧ M 0 22 = (if gL g = true then 1 else 0) ∧ (M 0 26 = 0 ∨ (M 0 26 = 1 ∧ LY M (labs S (gT g))))
/-- the places of the reference's memory that hold the game -/
def Ky (c i : Nat) : Prop := (1 ≤ c ∧ c ≤ 13) ∨ c = 15 ∨ (c = 0 ∧ (i = 0 ∨ i = 5 ∨ i = 7 ∨ i = 8 ∨ i = 9 ∨ (18 ≤ i ∧ i ≤ 22) ∨ i = 26))
theorem RY_keep {M M2 : Me} {S : Su} {np : Nat} {g : Gm} (h : RY M S np g) (e : ∀ c i, Ky c i → M2 c i = M c i) : RY M2 S np g := by
  obtain ⟨h1, h2, h3, h4, h5, h6, h7, h8, h9, h10, h11, h12⟩ := h
  refine ⟨SY_keep h1 (fun c i hc => e c i (by unfold Ky; omega)), YT_keep h2 (fun c i hc => e c i (by unfold Ky; omega)), ?_, ?_, fun x hx => ?_, fun p hp => ?_, ?_, ?_, ?_, ?_, ?_, ?_⟩
  · rw [e 0 7 (by unfold Ky; omega)]; exact h3
  · rw [e 0 8 (by unfold Ky; omega)]; exact h4
  · rw [e 11 x (by unfold Ky; omega)]; exact h5 x hx
  · rw [e 12 p (by unfold Ky; omega), e 13 p (by unfold Ky; omega)]; exact h6 p hp
  · rw [e 0 18 (by unfold Ky; omega)]; exact h7
  · rw [e 0 19 (by unfold Ky; omega)]; exact h8
  · rw [e 0 20 (by unfold Ky; omega)]; exact h9
  · rw [e 0 21 (by unfold Ky; omega)]; exact h10
  · rw [e 0 22 (by unfold Ky; omega)]; exact h11
  · rw [e 0 26 (by unfold Ky; omega)]
    rcases h12 with h | ⟨h, hl⟩
    · exact Or.inl h
    · exact Or.inr ⟨h, fun x hx => by rw [e 15 x (by unfold Ky; omega)]; exact hl x hx⟩
theorem co_cell {q : Nat} (hq : inb q) : ((19 * co (q / 21)) + co (q % 21)) + 180 = nI (19 * (q / 21) + q % 21 - 20) := by
  obtain ⟨q1, q2, q3, q4⟩ := hq
  exact co_ix _ (by omega) _ (by omega) q1 q3
theorem cell_inj {q p : Nat} (hq : inb q) (hp : inb p) (h : 19 * (q / 21) + q % 21 - 20 = 19 * (p / 21) + p % 21 - 20) : q = p := by
  obtain ⟨q1, q2, q3, q4⟩ := hq
  obtain ⟨p1, p2, p3, p4⟩ := hp
  omega
theorem y_lay {S : Su} {np : Nat} {g : Gm} {M : Me} {k q u : Nat} (hw : wfS S) (hG : WG S np g) (h : RY M S np g) (hL : gL g = false) (hD : gD g = some k) (hf : fit S (gT g) k q u) (hu : u < 4) : ∃ M2, qf_X7_lay (co (q % 21)) (co (q / 21)) (nI u) M = some (0, M2) ∧ RY M2 S np (layG g q u) ∧ ∀ c i, ¬ Ky c i → M2 c i = M c i := by
  have hroom := WG_room hw hG hL hD
  have eT := layG_T (q := q) (u := u) hD
  have hwt := hG.2.1
  have hq := hf.1
  obtain ⟨h1, h2, h3, h4, h5, h6, h7, h8, h9, h10, h11, h12⟩ := h
  have h9' : M 0 20 = nI k := by rw [h9, hD]; rfl
  obtain ⟨n, hn⟩ : ∃ n, (gT g).length = n := ⟨_, rfl⟩
  have e9 : M 0 9 = nI n := by rw [h2.1, hn]
  have hcell : 19 * (q / 21) + q % 21 - 20 < 361 := by
    obtain ⟨q1, q2, q3, q4⟩ := hq
    omega
  let N : Me := rx_st (rx_st (rx_st (rx_st (rx_st (rx_st (rx_st (rx_st M 6 n (co (q % 21))) 7 n (co (q / 21))) 8 n (nI k)) 9 n (nI u)) 10 (19 * (q / 21) + q % 21 - 20) (nI n)) 0 9 (nI (n + 1))) 0 22 1) 0 26 0
  have e : ∀ c i, N c i = if c = 0 ∧ i = 26 then 0 else if c = 0 ∧ i = 22 then 1 else if c = 0 ∧ i = 9 then nI (n + 1) else if c = 10 ∧ i = 19 * (q / 21) + q % 21 - 20 then nI n else if c = 9 ∧ i = n then nI u else if c = 8 ∧ i = n then nI k else if c = 7 ∧ i = n then co (q / 21) else if c = 6 ∧ i = n then co (q % 21) else M c i := by
    intro c i
    show rx_st _ _ _ _ c i = _
    simp only [st_get]
  have off : ∀ c i, ¬ (c = 0 ∧ (i = 26 ∨ i = 22 ∨ i = 9)) → ¬ (6 ≤ c ∧ c ≤ 10) → N c i = M c i := by
    intro c i c1 c2
    rw [e, if_neg (by omega), if_neg (by omega), if_neg (by omega), if_neg (by omega), if_neg (by omega), if_neg (by omega), if_neg (by omega), if_neg (by omega)]
  have hl : (gT g ++ [(q, k, u)]).length = n + 1 := by simp [hn]
  refine ⟨N, ?_, ⟨SY_keep h1 (fun c i hc => off c i (by omega) (by omega)), ?_, ?_, ?_, fun x hx => ?_, fun p hp => ?_, ?_, ?_, ?_, ?_, ?_, ?_⟩, fun c i hc => ?_⟩
  · unfold qf_X7_lay
    have z6 : ∀ (M : Me) (i j : Nat) (x : Int32), rx_st M 6 i x 0 j = M 0 j := fun _ _ _ _ => st_cell (by decide)
    have z7 : ∀ (M : Me) (i j : Nat) (x : Int32), rx_st M 7 i x 0 j = M 0 j := fun _ _ _ _ => st_cell (by decide)
    have z8 : ∀ (M : Me) (i j : Nat) (x : Int32), rx_st M 8 i x 0 j = M 0 j := fun _ _ _ _ => st_cell (by decide)
    have z9 : ∀ (M : Me) (i j : Nat) (x : Int32), rx_st M 9 i x 0 j = M 0 j := fun _ _ _ _ => st_cell (by decide)
    have z10 : ∀ (M : Me) (i j : Nat) (x : Int32), rx_st M 10 i x 0 j = M 0 j := fun _ _ _ _ => st_cell (by decide)
    have hn24 : n < 24 := by omega
    rw [n_vv, e9, n_sv hn24 (by decide), n_vv, z6, e9, n_sv hn24 (by decide), n_vv]
    simp only [z6, z7]
    rw [e9, n_vv, h9', n_sv hn24 (by decide), n_vv]
    simp only [z6, z7, z8]
    rw [e9, n_sv hn24 (by decide), n_vv]
    simp only [z6, z7, z8, z9]
    rw [e9, co_cell hq, n_sv hcell (by decide), n_vv]
    simp only [z6, z7, z8, z9, z10]
    rw [e9, n_vv, kn_1, n_add, n_vv, n_vv]
    rfl
  · rw [eT]
    refine ⟨?_, fun t ht => ?_, fun p hp => ?_⟩
    · rw [hl, e, if_neg (by omega), if_neg (by omega), if_pos ⟨rfl, rfl⟩]
    · rw [hl] at ht
      by_cases hc : t = n
      · have s := snoc_eq (T := gT g) (x := (q, k, u))
        rw [hn] at s
        rw [hc, s.1, s.2.1, s.2.2]
        refine ⟨?_, ?_, ?_, ?_⟩
        · rw [e, if_neg (by omega), if_neg (by omega), if_neg (by omega), if_neg (by omega), if_neg (by omega), if_neg (by omega), if_neg (by omega), if_pos ⟨rfl, rfl⟩]
        · rw [e, if_neg (by omega), if_neg (by omega), if_neg (by omega), if_neg (by omega), if_neg (by omega), if_neg (by omega), if_pos ⟨rfl, rfl⟩]
        · rw [e, if_neg (by omega), if_neg (by omega), if_neg (by omega), if_neg (by omega), if_neg (by omega), if_pos ⟨rfl, rfl⟩]
        · rw [e, if_neg (by omega), if_neg (by omega), if_neg (by omega), if_neg (by omega), if_pos ⟨rfl, rfl⟩]
      · have ht2 : t < (gT g).length := by omega
        rw [(snoc_lt ht2).1, (snoc_lt ht2).2.1, (snoc_lt ht2).2.2]
        have hold : ∀ c, 6 ≤ c → c ≤ 9 → N c t = M c t := fun c c1 c2 => by
          rw [e, if_neg (by omega), if_neg (by omega), if_neg (by omega), if_neg (by omega), if_neg (by omega), if_neg (by omega), if_neg (by omega), if_neg (by omega)]
        rw [hold 6 (by decide) (by decide), hold 7 (by decide) (by decide), hold 8 (by decide) (by decide), hold 9 (by decide) (by decide)]
        exact h2.2.1 t ht2
    · rw [e, if_neg (by omega), if_neg (by omega), if_neg (by omega)]
      by_cases hc : p = q
      · rw [hc, if_pos ⟨rfl, rfl⟩, atv_some ((ta_new (x := (q, k, u)) hf.2.1).mpr (Or.inr ⟨rfl, rfl⟩)), hn]
      · rw [if_neg (fun g => hc (cell_inj hp hq g.2)), if_neg (by omega), if_neg (by omega), if_neg (by omega), if_neg (by omega), h2.2.2 p hp]
        unfold atv
        rw [ta_snoc]
        cases ta (gT g) p with
        | some t => rfl
        | none => rw [if_neg (fun g => hc g.symm)]
  · rw [off 0 7 (by omega) (by omega)]; exact h3
  · rw [off 0 8 (by omega) (by omega)]; exact h4
  · rw [off 11 x (by omega) (by omega)]; exact h5 x hx
  · rw [off 12 p (by omega) (by omega), off 13 p (by omega) (by omega)]; exact h6 p hp
  · rw [off 0 18 (by omega) (by omega)]; exact h7
  · rw [off 0 19 (by omega) (by omega)]; exact h8
  · rw [off 0 20 (by omega) (by omega)]; exact h9
  · rw [off 0 21 (by omega) (by omega)]; exact h10
  · rw [e, if_neg (by omega), if_pos ⟨rfl, rfl⟩]; rfl
  · left
    rw [e, if_pos ⟨rfl, rfl⟩]
  · exact off c i (by unfold Ky at hc; omega) (by unfold Ky at hc; omega)
theorem y_begin {S : Su} {np : Nat} {M : Me} (hw : wfS S) (hS : SY M S) (h7 : M 0 7 = 1) (h8 : M 0 8 = nI np) : ∃ M2, qf_X7_begin M = some (0, M2) ∧ RY M2 S np (g0 S) ∧ ∀ c i, ¬ Ky c i → M2 c i = M c i := by
  have L1 := lp1_up (b := qo_X7_begin_2 (fun M => qb_X7_begin_22 M)) (e := 361) (K := fun M => qb_X7_begin_22 M) (P := fun i M2 => (∀ x, x < i → M2 10 x = -1) ∧ ∀ c i, c ≠ 10 → M2 c i = M c i) ?_ ?_ rx_FU 0 M (fu_lt (by decide)) (by decide) ⟨fun x hx => (by omega), fun _ _ _ => rfl⟩
  · obtain ⟨M1, ⟨p1, p2⟩, L1⟩ := L1
    have L2 := lp1_up (b := qo_X7_begin_24 (fun M => qb_X7_begin_44 M)) (e := 192) (K := fun M => qb_X7_begin_44 M) (P := fun i M2 => (∀ x, x < i → M2 11 x = -1) ∧ ∀ c i, c ≠ 11 → M2 c i = M1 c i) ?_ ?_ rx_FU 0 M1 (fu_lt (by decide)) (by decide) ⟨fun x hx => (by omega), fun _ _ _ => rfl⟩
    · obtain ⟨M2, ⟨q1, q2⟩, L2⟩ := L2
      have L3 := lp1_up (b := qo_X7_begin_46 (fun M => qb_X7_begin_72 M)) (e := 3) (K := fun M => qb_X7_begin_72 M) (P := fun i M3 => (∀ x, x < i → M3 12 x = 0 ∧ M3 13 x = 7) ∧ ∀ c i, c ≠ 12 → c ≠ 13 → M3 c i = M2 c i) ?_ ?_ rx_FU 0 M2 (fu_lt (by decide)) (by decide) ⟨fun x hx => (by omega), fun _ _ _ _ => rfl⟩
      · obtain ⟨M3, ⟨r1, r2⟩, L3⟩ := L3
        let N : Me := rx_st (rx_st (rx_st (rx_st (rx_st (rx_st M3 0 9 0) 0 18 0) 0 19 0) 0 21 0) 0 22 0) 0 26 0
        have e : ∀ c i, N c i = if c = 0 ∧ i = 26 then 0 else if c = 0 ∧ i = 22 then 0 else if c = 0 ∧ i = 21 then 0 else if c = 0 ∧ i = 19 then 0 else if c = 0 ∧ i = 18 then 0 else if c = 0 ∧ i = 9 then 0 else M3 c i := by
          intro c i
          show rx_st _ _ _ _ c i = _
          simp only [st_get]
        have off : ∀ c i, ¬ (c = 0 ∧ (i = 26 ∨ i = 22 ∨ i = 21 ∨ i = 19 ∨ i = 18 ∨ i = 9)) → N c i = M3 c i := by
          intro c i c1
          rw [e, if_neg (by omega), if_neg (by omega), if_neg (by omega), if_neg (by omega), if_neg (by omega), if_neg (by omega)]
        have offM : ∀ c i, ¬ (c = 0 ∧ (i = 26 ∨ i = 22 ∨ i = 21 ∨ i = 19 ∨ i = 18 ∨ i = 9)) → ¬ (10 ≤ c ∧ c ≤ 13) → N c i = M c i := by
          intro c i c1 c2
          rw [off c i c1, r2 c i (by omega) (by omega), q2 c i (by omega), p2 c i (by omega)]
        have hSN : SY N S := SY_keep hS (fun c i hc => offM c i (by omega) (by omega))
        have hYN : YT N [] := by
          refine ⟨?_, fun t ht => (by cases ht), fun q hq => ?_⟩
          · rw [e, if_neg (by omega), if_neg (by omega), if_neg (by omega), if_neg (by omega), if_neg (by omega), if_pos ⟨rfl, rfl⟩]; rfl
          · rw [off 10 _ (by omega), r2 10 _ (by decide) (by decide), q2 10 _ (by decide), p1 _ (by obtain ⟨a1, a2, a3, a4⟩ := hq; omega)]
            rfl
        obtain ⟨N2, d1, d2, d3, d4, d5⟩ := y_drawNext (x := 0) (a := 0) hw (wf_nil S) hSN hYN (Nat.zero_le _) (by rw [e, if_neg (by omega), if_neg (by omega), if_neg (by omega), if_pos ⟨rfl, rfl⟩]; rfl) (by rw [e, if_neg (by omega), if_neg (by omega), if_pos ⟨rfl, rfl⟩]; rfl)
        refine ⟨N2, ?_, ⟨SY_keep hSN (fun c i hc => d5 c i (by omega)), YT_keep hYN (fun c i hc => d5 c i (by omega)), ?_, ?_, fun x hx => ?_, fun p hp => ?_, ?_, d3, d2, d4, ?_, ?_⟩, fun c i hc => ?_⟩
        · have L1 : qf_X7_begin M = qb_X7_begin_22 M1 := L1
          have L2 : qb_X7_begin_22 M1 = qb_X7_begin_44 M2 := L2
          have L3 : qb_X7_begin_44 M2 = qb_X7_begin_72 M3 := L3
          rw [L1, L2, L3]
          unfold qb_X7_begin_72
          rw [n_vv, n_vv, n_vv, n_vv, n_vv, n_vv]
          show rx_cl (qf_X7_drawNext N) _ = _
          rw [d1, n_cl]
        · rw [d5 0 7 (by omega), offM 0 7 (by omega) (by omega)]; exact h7
        · rw [d5 0 8 (by omega), offM 0 8 (by omega) (by omega)]; exact h8
        · rw [d5 11 x (by omega), off 11 x (by omega), r2 11 x (by decide) (by decide), q1 x hx]; rfl
        · rw [d5 12 p (by omega), d5 13 p (by omega), off 12 p (by omega), off 13 p (by omega), (r1 p hp).1, (r1 p hp).2]
          exact ⟨rfl, rfl⟩
        · rw [d5 0 18 (by omega), e, if_neg (by omega), if_neg (by omega), if_neg (by omega), if_neg (by omega), if_pos ⟨rfl, rfl⟩]; rfl
        · rw [d5 0 22 (by omega), e, if_neg (by omega), if_pos ⟨rfl, rfl⟩]; rfl
        · left
          rw [d5 0 26 (by omega), e, if_pos ⟨rfl, rfl⟩]
        · rw [d5 c i (by unfold Ky at hc; omega), offM c i (by unfold Ky at hc; omega) (by unfold Ky at hc; omega)]
      · intro rec i M3 hi hP
        refine ⟨rx_st (rx_st M3 12 i 0) 13 i 7, ⟨fun x hx => ?_, fun c k c1 c2 => ?_⟩, ?_⟩
        · by_cases c1 : x = i
          · rw [c1, st_cell (by decide), st_same, st_same]; exact ⟨rfl, rfl⟩
          · rw [st_place c1, st_place c1, st_place c1, st_place c1]; exact hP.1 x (by omega)
        · rw [st_cell c2, st_cell c1]; exact hP.2 c k c1 c2
        · unfold qo_X7_begin_46
          rw [kn_3, i_le (by decide) (by omega), if_neg (by omega), n_sv hi (by decide), n_sv hi (by decide), n_vv, kn_1, n_add]
      · intro rec M3 _
        unfold qo_X7_begin_46
        rw [kn_3, i_le (by decide) (by decide), if_pos (by decide)]
    · intro rec i M2 hi hP
      refine ⟨rx_st M2 11 i (-1), ⟨fun x hx => ?_, fun c k hc => ?_⟩, ?_⟩
      · by_cases c1 : x = i
        · rw [c1]; exact st_same _ _ _ _
        · rw [st_place c1]; exact hP.1 x (by omega)
      · rw [st_cell hc]; exact hP.2 c k hc
      · unfold qo_X7_begin_24
        rw [kn_192, i_le (by decide) (by omega), if_neg (by omega), n_sv hi (by decide), n_vv, kn_1, n_add]
    · intro rec M2 _
      unfold qo_X7_begin_24
      rw [kn_192, i_le (by decide) (by decide), if_pos (by decide)]
  · intro rec i M2 hi hP
    refine ⟨rx_st M2 10 i (-1), ⟨fun x hx => ?_, fun c k hc => ?_⟩, ?_⟩
    · by_cases c1 : x = i
      · rw [c1]; exact st_same _ _ _ _
      · rw [st_place c1]; exact hP.1 x (by omega)
    · rw [st_cell hc]; exact hP.2 c k hc
    · unfold qo_X7_begin_2
      rw [kn_361, i_le (by decide) (by omega), if_neg (by omega), n_sv hi (by decide), n_vv, kn_1, n_add]
  · intro rec M2 _
    unfold qo_X7_begin_2
    rw [kn_361, i_le (by decide) (by decide), if_pos (by decide)]

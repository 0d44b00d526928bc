/-! The class weighs a line. -/
def WB (L F np : Nat) (M : Me) (v : Nat → Int32) (FF : Nat → Nat → Nat) (b : Option Nat) : Prop := match b with
  | none => M L 4 = 0
  | some b => M L 4 = 1 ∧ M L 5 = v b ∧ M L 6 = nI (b / 9) ∧ M L 7 = pv (b % 9) ∧ ∀ p, p < np → M F p = nI (FF b p)
theorem WB_keep {L F np : Nat} {M M2 : Me} {v : Nat → Int32} {FF : Nat → Nat → Nat} {b : Option Nat} (h : WB L F np M v FF b) (e : ∀ i, 4 ≤ i → i ≤ 7 → M2 L i = M L i) (e2 : ∀ i, M2 F i = M F i) : WB L F np M2 v FF b := by
  cases b with
  | none =>
    show M2 L 4 = 0
    rw [e 4 (by decide) (by decide)]; exact h
  | some b =>
    obtain ⟨h4, h5, h6, h7, hf⟩ := h
    exact ⟨by rw [e 4 (by decide) (by decide)]; exact h4, by rw [e 5 (by decide) (by decide)]; exact h5, by rw [e 6 (by decide) (by decide)]; exact h6, by rw [e 7 (by decide) (by decide)]; exact h7, fun p hp => by rw [e2]; exact hf p hp⟩
theorem x_weigh_6_36 {np mv e : Nat} {M : Me} {b : Option Nat} {v : Nat → Int32} {FF : Nat → Nat → Nat} (h3 : np ≤ 3) (hmv : mv < np) (hn : ∀ p, p < np → FF e p ≤ 20000) (hC : ∀ p, p < np → M 36 p = nI (FF e p)) (h0 : M 6 0 = nI mv) (h1 : M 6 1 = nI (e / 9)) (h2 : M 6 2 = pv (e % 9)) (hv : v e = mgI mv np (FF e)) (hb : WB 6 38 np M v FF b) : ∃ M2, qf_X1_weigh_6_36 (nI np) M = some (0, M2) ∧ WB 6 38 np M2 v FF (bnew v b e) ∧ ∀ c i, ¬ (c = 6 ∧ 4 ≤ i ∧ i ≤ 7) → c ≠ 38 → M2 c i = M c i := by
  have key := lp2_fun (b := qo_X1_weigh_6_36_5 (fun a3 M => qb_X1_weigh_6_36_35 a3 M) (nI np)) (e := np) (M := M) (K := qb_X1_weigh_6_36_35 (nI (oth mv (FF e) np)) M) (fun i => nI (oth mv (FF e) i)) ?_ ?_ rx_FU 0 (fu_lt (by omega)) (Nat.zero_le _)
  · have run : qf_X1_weigh_6_36 (nI np) M = qb_X1_weigh_6_36_35 (nI (oth mv (FF e) np)) M := key
    have h62 : ∃ M2, qb_X1_weigh_6_36_62 (v e) M = some (0, M2) ∧ WB 6 38 np M2 v FF (some e) ∧ ∀ c i, ¬ (c = 6 ∧ 4 ≤ i ∧ i ≤ 7) → c ≠ 38 → M2 c i = M c i := by
      let N : Me := rx_st (rx_st (rx_st (rx_st M 6 4 1) 6 5 (v e)) 6 6 (nI (e / 9))) 6 7 (pv (e % 9))
      have eN : ∀ c i, N c i = if c = 6 ∧ i = 7 then pv (e % 9) else if c = 6 ∧ i = 6 then nI (e / 9) else if c = 6 ∧ i = 5 then v e else if c = 6 ∧ i = 4 then 1 else M c i := by
        intro c i
        show rx_st _ _ _ _ c i = _
        simp only [st_get]
      have eC : ∀ c i, rx_cp3 N 36 38 c i = if c = 38 ∧ i < 3 then N 36 i else N c i := by
        intro c i
        unfold rx_cp3 va_cpy
        by_cases hc : c = 38
        · rw [if_pos hc]
          by_cases hi : i < 3
          · rw [if_pos (show 0 ≤ i ∧ i < 0 + 3 by omega), if_pos (show c = 38 ∧ i < 3 from ⟨hc, hi⟩), show 0 + (i - 0) = i by omega]
          · rw [if_neg (show ¬ (0 ≤ i ∧ i < 0 + 3) by omega), if_neg (show ¬ (c = 38 ∧ i < 3) from fun q => hi q.2), hc]
        · rw [if_neg hc, if_neg (fun q => hc q.1)]
      refine ⟨rx_cp3 N 36 38, ?_, ⟨?_, ?_, ?_, ?_, fun p hp => ?_⟩, fun c i c1 c2 => ?_⟩
      · unfold qb_X1_weigh_6_36_62
        rw [n_vv, n_vv, n_vv, st_place (by decide), st_place (by decide), h1, n_vv, n_vv, st_place (by decide), st_place (by decide), st_place (by decide), h2, n_vv, n_vv]
      · rw [eC, if_neg (by omega), eN, if_neg (by omega), if_neg (by omega), if_neg (by omega), if_pos ⟨rfl, rfl⟩]
      · rw [eC, if_neg (by omega), eN, if_neg (by omega), if_neg (by omega), if_pos ⟨rfl, rfl⟩]
      · rw [eC, if_neg (by omega), eN, if_neg (by omega), if_pos ⟨rfl, rfl⟩]
      · rw [eC, if_neg (by omega), eN, if_pos ⟨rfl, rfl⟩]
      · rw [eC, if_pos ⟨rfl, by omega⟩, eN, if_neg (by omega), if_neg (by omega), if_neg (by omega), if_neg (by omega)]
        exact hC p hp
      · rw [eC, if_neg (fun q => c2 q.1), eN, if_neg (by omega), if_neg (by omega), if_neg (by omega), if_neg (by omega)]
    rw [run]
    unfold qb_X1_weigh_6_36_35
    rw [n_vv, h0, n_ld (by omega) (by decide), hC mv hmv, n_vv, n_vv]
    rw [show nI (FF e mv) - nI (oth mv (FF e) np) = v e from hv.symm]
    cases b with
    | none =>
      have h4 : M 6 4 = 0 := hb
      rw [h4, if_pos rfl]
      exact h62
    | some b =>
      obtain ⟨w4, w5, w6, w7, wf⟩ := hb
      rw [w4, if_neg (by decide), n_vv, w5]
      show ∃ M2, _ ∧ WB 6 38 np M2 v FF (if v e ≤ v b then some b else some e) ∧ _
      by_cases hle : v e ≤ v b
      · rw [if_pos hle, if_neg (fun q => absurd hle (Int32.not_le.mpr q))]
        exact ⟨M, rfl, ⟨w4, w5, w6, w7, wf⟩, fun _ _ _ _ => rfl⟩
      · rw [if_neg hle, if_pos (Int32.not_le.mp hle)]
        exact h62
  · intro rec i hi
    have hi2 := hn i hi
    have ho := oth_le (mv := mv) (n := i) (F := FF e) (c := 20000) (fun p hp => hn p (by omega))
    have h29 : ∀ a : Int32, qb_X1_weigh_6_36_29 rec (nI np) a (nI i) M = rec a (nI (i + 1)) M := by
      intro a
      unfold qb_X1_weigh_6_36_29
      rw [n_vv, kn_1, n_add]
    show _ = rec (nI (if i = mv then oth mv (FF e) i else max (oth mv (FF e) i) (FF e i))) (nI (i + 1)) M
    unfold qo_X1_weigh_6_36_5
    rw [i_le (by omega) (by omega), if_neg (by omega), n_vv, h0, i_eq (by omega) (by omega), h29, n_ld (by omega) (by decide), hC i hi, i_lt (by omega) (by omega), n_vv, h29]
    by_cases c : i = mv
    · rw [if_pos c, if_pos c]
    · rw [if_neg c, if_neg c]
      by_cases c2 : oth mv (FF e) i < FF e i
      · rw [if_pos c2, Nat.max_eq_right (by omega)]
      · rw [if_neg c2, Nat.max_eq_left (by omega)]
  · intro rec
    unfold qo_X1_weigh_6_36_5
    rw [i_le (by omega) (by omega), if_pos (by omega)]
theorem x_weigh_7_36 {np mv e : Nat} {M : Me} {b : Option Nat} {v : Nat → Int32} {FF : Nat → Nat → Nat} (h3 : np ≤ 3) (hmv : mv < np) (hn : ∀ p, p < np → FF e p ≤ 20000) (hC : ∀ p, p < np → M 36 p = nI (FF e p)) (h0 : M 7 0 = nI mv) (h1 : M 7 1 = nI (e / 9)) (h2 : M 7 2 = pv (e % 9)) (hv : v e = mgI mv np (FF e)) (hb : WB 7 39 np M v FF b) : ∃ M2, qf_X1_weigh_7_36 (nI np) M = some (0, M2) ∧ WB 7 39 np M2 v FF (bnew v b e) ∧ ∀ c i, ¬ (c = 7 ∧ 4 ≤ i ∧ i ≤ 7) → c ≠ 39 → M2 c i = M c i := by
  have key := lp2_fun (b := qo_X1_weigh_7_36_5 (fun a3 M => qb_X1_weigh_7_36_35 a3 M) (nI np)) (e := np) (M := M) (K := qb_X1_weigh_7_36_35 (nI (oth mv (FF e) np)) M) (fun i => nI (oth mv (FF e) i)) ?_ ?_ rx_FU 0 (fu_lt (by omega)) (Nat.zero_le _)
  · have run : qf_X1_weigh_7_36 (nI np) M = qb_X1_weigh_7_36_35 (nI (oth mv (FF e) np)) M := key
    have h62 : ∃ M2, qb_X1_weigh_7_36_62 (v e) M = some (0, M2) ∧ WB 7 39 np M2 v FF (some e) ∧ ∀ c i, ¬ (c = 7 ∧ 4 ≤ i ∧ i ≤ 7) → c ≠ 39 → M2 c i = M c i := by
      let N : Me := rx_st (rx_st (rx_st (rx_st M 7 4 1) 7 5 (v e)) 7 6 (nI (e / 9))) 7 7 (pv (e % 9))
      have eN : ∀ c i, N c i = if c = 7 ∧ i = 7 then pv (e % 9) else if c = 7 ∧ i = 6 then nI (e / 9) else if c = 7 ∧ i = 5 then v e else if c = 7 ∧ i = 4 then 1 else M c i := by
        intro c i
        show rx_st _ _ _ _ c i = _
        simp only [st_get]
      have eC : ∀ c i, rx_cp3 N 36 39 c i = if c = 39 ∧ i < 3 then N 36 i else N c i := by
        intro c i
        unfold rx_cp3 va_cpy
        by_cases hc : c = 39
        · rw [if_pos hc]
          by_cases hi : i < 3
          · rw [if_pos (show 0 ≤ i ∧ i < 0 + 3 by omega), if_pos (show c = 39 ∧ i < 3 from ⟨hc, hi⟩), show 0 + (i - 0) = i by omega]
          · rw [if_neg (show ¬ (0 ≤ i ∧ i < 0 + 3) by omega), if_neg (show ¬ (c = 39 ∧ i < 3) from fun q => hi q.2), hc]
        · rw [if_neg hc, if_neg (fun q => hc q.1)]
      refine ⟨rx_cp3 N 36 39, ?_, ⟨?_, ?_, ?_, ?_, fun p hp => ?_⟩, fun c i c1 c2 => ?_⟩
      · unfold qb_X1_weigh_7_36_62
        rw [n_vv, n_vv, n_vv, st_place (by decide), st_place (by decide), h1, n_vv, n_vv, st_place (by decide), st_place (by decide), st_place (by decide), h2, n_vv, n_vv]
      · rw [eC, if_neg (by omega), eN, if_neg (by omega), if_neg (by omega), if_neg (by omega), if_pos ⟨rfl, rfl⟩]
      · rw [eC, if_neg (by omega), eN, if_neg (by omega), if_neg (by omega), if_pos ⟨rfl, rfl⟩]
      · rw [eC, if_neg (by omega), eN, if_neg (by omega), if_pos ⟨rfl, rfl⟩]
      · rw [eC, if_neg (by omega), eN, if_pos ⟨rfl, rfl⟩]
      · rw [eC, if_pos ⟨rfl, by omega⟩, eN, if_neg (by omega), if_neg (by omega), if_neg (by omega), if_neg (by omega)]
        exact hC p hp
      · rw [eC, if_neg (fun q => c2 q.1), eN, if_neg (by omega), if_neg (by omega), if_neg (by omega), if_neg (by omega)]
    rw [run]
    unfold qb_X1_weigh_7_36_35
    rw [n_vv, h0, n_ld (by omega) (by decide), hC mv hmv, n_vv, n_vv]
    rw [show nI (FF e mv) - nI (oth mv (FF e) np) = v e from hv.symm]
    cases b with
    | none =>
      have h4 : M 7 4 = 0 := hb
      rw [h4, if_pos rfl]
      exact h62
    | some b =>
      obtain ⟨w4, w5, w6, w7, wf⟩ := hb
      rw [w4, if_neg (by decide), n_vv, w5]
      show ∃ M2, _ ∧ WB 7 39 np M2 v FF (if v e ≤ v b then some b else some e) ∧ _
      by_cases hle : v e ≤ v b
      · rw [if_pos hle, if_neg (fun q => absurd hle (Int32.not_le.mpr q))]
        exact ⟨M, rfl, ⟨w4, w5, w6, w7, wf⟩, fun _ _ _ _ => rfl⟩
      · rw [if_neg hle, if_pos (Int32.not_le.mp hle)]
        exact h62
  · intro rec i hi
    have hi2 := hn i hi
    have ho := oth_le (mv := mv) (n := i) (F := FF e) (c := 20000) (fun p hp => hn p (by omega))
    have h29 : ∀ a : Int32, qb_X1_weigh_7_36_29 rec (nI np) a (nI i) M = rec a (nI (i + 1)) M := by
      intro a
      unfold qb_X1_weigh_7_36_29
      rw [n_vv, kn_1, n_add]
    show _ = rec (nI (if i = mv then oth mv (FF e) i else max (oth mv (FF e) i) (FF e i))) (nI (i + 1)) M
    unfold qo_X1_weigh_7_36_5
    rw [i_le (by omega) (by omega), if_neg (by omega), n_vv, h0, i_eq (by omega) (by omega), h29, n_ld (by omega) (by decide), hC i hi, i_lt (by omega) (by omega), n_vv, h29]
    by_cases c : i = mv
    · rw [if_pos c, if_pos c]
    · rw [if_neg c, if_neg c]
      by_cases c2 : oth mv (FF e) i < FF e i
      · rw [if_pos c2, Nat.max_eq_right (by omega)]
      · rw [if_neg c2, Nat.max_eq_left (by omega)]
  · intro rec
    unfold qo_X1_weigh_7_36_5
    rw [i_le (by omega) (by omega), if_pos (by omega)]
theorem x_weigh_6_39 {np mv e : Nat} {M : Me} {b : Option Nat} {v : Nat → Int32} {FF : Nat → Nat → Nat} (h3 : np ≤ 3) (hmv : mv < np) (hn : ∀ p, p < np → FF e p ≤ 20000) (hC : ∀ p, p < np → M 39 p = nI (FF e p)) (h0 : M 6 0 = nI mv) (h1 : M 6 1 = nI (e / 9)) (h2 : M 6 2 = pv (e % 9)) (hv : v e = mgI mv np (FF e)) (hb : WB 6 38 np M v FF b) : ∃ M2, qf_X1_weigh_6_39 (nI np) M = some (0, M2) ∧ WB 6 38 np M2 v FF (bnew v b e) ∧ ∀ c i, ¬ (c = 6 ∧ 4 ≤ i ∧ i ≤ 7) → c ≠ 38 → M2 c i = M c i := by
  have key := lp2_fun (b := qo_X1_weigh_6_39_5 (fun a3 M => qb_X1_weigh_6_39_35 a3 M) (nI np)) (e := np) (M := M) (K := qb_X1_weigh_6_39_35 (nI (oth mv (FF e) np)) M) (fun i => nI (oth mv (FF e) i)) ?_ ?_ rx_FU 0 (fu_lt (by omega)) (Nat.zero_le _)
  · have run : qf_X1_weigh_6_39 (nI np) M = qb_X1_weigh_6_39_35 (nI (oth mv (FF e) np)) M := key
    have h62 : ∃ M2, qb_X1_weigh_6_39_62 (v e) M = some (0, M2) ∧ WB 6 38 np M2 v FF (some e) ∧ ∀ c i, ¬ (c = 6 ∧ 4 ≤ i ∧ i ≤ 7) → c ≠ 38 → M2 c i = M c i := by
      let N : Me := rx_st (rx_st (rx_st (rx_st M 6 4 1) 6 5 (v e)) 6 6 (nI (e / 9))) 6 7 (pv (e % 9))
      have eN : ∀ c i, N c i = if c = 6 ∧ i = 7 then pv (e % 9) else if c = 6 ∧ i = 6 then nI (e / 9) else if c = 6 ∧ i = 5 then v e else if c = 6 ∧ i = 4 then 1 else M c i := by
        intro c i
        show rx_st _ _ _ _ c i = _
        simp only [st_get]
      have eC : ∀ c i, rx_cp3 N 39 38 c i = if c = 38 ∧ i < 3 then N 39 i else N c i := by
        intro c i
        unfold rx_cp3 va_cpy
        by_cases hc : c = 38
        · rw [if_pos hc]
          by_cases hi : i < 3
          · rw [if_pos (show 0 ≤ i ∧ i < 0 + 3 by omega), if_pos (show c = 38 ∧ i < 3 from ⟨hc, hi⟩), show 0 + (i - 0) = i by omega]
          · rw [if_neg (show ¬ (0 ≤ i ∧ i < 0 + 3) by omega), if_neg (show ¬ (c = 38 ∧ i < 3) from fun q => hi q.2), hc]
        · rw [if_neg hc, if_neg (fun q => hc q.1)]
      refine ⟨rx_cp3 N 39 38, ?_, ⟨?_, ?_, ?_, ?_, fun p hp => ?_⟩, fun c i c1 c2 => ?_⟩
      · unfold qb_X1_weigh_6_39_62
        rw [n_vv, n_vv, n_vv, st_place (by decide), st_place (by decide), h1, n_vv, n_vv, st_place (by decide), st_place (by decide), st_place (by decide), h2, n_vv, n_vv]
      · rw [eC, if_neg (by omega), eN, if_neg (by omega), if_neg (by omega), if_neg (by omega), if_pos ⟨rfl, rfl⟩]
      · rw [eC, if_neg (by omega), eN, if_neg (by omega), if_neg (by omega), if_pos ⟨rfl, rfl⟩]
      · rw [eC, if_neg (by omega), eN, if_neg (by omega), if_pos ⟨rfl, rfl⟩]
      · rw [eC, if_neg (by omega), eN, if_pos ⟨rfl, rfl⟩]
      · rw [eC, if_pos ⟨rfl, by omega⟩, eN, if_neg (by omega), if_neg (by omega), if_neg (by omega), if_neg (by omega)]
        exact hC p hp
      · rw [eC, if_neg (fun q => c2 q.1), eN, if_neg (by omega), if_neg (by omega), if_neg (by omega), if_neg (by omega)]
    rw [run]
    unfold qb_X1_weigh_6_39_35
    rw [n_vv, h0, n_ld (by omega) (by decide), hC mv hmv, n_vv, n_vv]
    rw [show nI (FF e mv) - nI (oth mv (FF e) np) = v e from hv.symm]
    cases b with
    | none =>
      have h4 : M 6 4 = 0 := hb
      rw [h4, if_pos rfl]
      exact h62
    | some b =>
      obtain ⟨w4, w5, w6, w7, wf⟩ := hb
      rw [w4, if_neg (by decide), n_vv, w5]
      show ∃ M2, _ ∧ WB 6 38 np M2 v FF (if v e ≤ v b then some b else some e) ∧ _
      by_cases hle : v e ≤ v b
      · rw [if_pos hle, if_neg (fun q => absurd hle (Int32.not_le.mpr q))]
        exact ⟨M, rfl, ⟨w4, w5, w6, w7, wf⟩, fun _ _ _ _ => rfl⟩
      · rw [if_neg hle, if_pos (Int32.not_le.mp hle)]
        exact h62
  · intro rec i hi
    have hi2 := hn i hi
    have ho := oth_le (mv := mv) (n := i) (F := FF e) (c := 20000) (fun p hp => hn p (by omega))
    have h29 : ∀ a : Int32, qb_X1_weigh_6_39_29 rec (nI np) a (nI i) M = rec a (nI (i + 1)) M := by
      intro a
      unfold qb_X1_weigh_6_39_29
      rw [n_vv, kn_1, n_add]
    show _ = rec (nI (if i = mv then oth mv (FF e) i else max (oth mv (FF e) i) (FF e i))) (nI (i + 1)) M
    unfold qo_X1_weigh_6_39_5
    rw [i_le (by omega) (by omega), if_neg (by omega), n_vv, h0, i_eq (by omega) (by omega), h29, n_ld (by omega) (by decide), hC i hi, i_lt (by omega) (by omega), n_vv, h29]
    by_cases c : i = mv
    · rw [if_pos c, if_pos c]
    · rw [if_neg c, if_neg c]
      by_cases c2 : oth mv (FF e) i < FF e i
      · rw [if_pos c2, Nat.max_eq_right (by omega)]
      · rw [if_neg c2, Nat.max_eq_left (by omega)]
  · intro rec
    unfold qo_X1_weigh_6_39_5
    rw [i_le (by omega) (by omega), if_pos (by omega)]

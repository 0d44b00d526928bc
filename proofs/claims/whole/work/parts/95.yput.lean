/-! The reference puts a follower. -/
theorem kdp_root {S : Su} {T : Tl} (hw : wfS S) (hwt : wfTl S T) {x : Nat} (h : kdp S T x ≠ 0) : kdp S T (labs S T x) ≠ 0 := by
  have hf := (labs_lab S T).2.2.2 (fun y => if kdp S T y = 0 then 1 else 0) (fun e he => by
    have := edge_kind hw hwt he
    show (if kdp S T e.1 = 0 then 1 else 0) = (if kdp S T e.2 = 0 then 1 else 0)
    rw [if_neg (by omega), if_neg (by omega)]) x
  have hf : (if kdp S T (labs S T x) = 0 then 1 else 0) = (if kdp S T x = 0 then 1 else 0) := hf
  rw [if_neg h] at hf
  intro h0
  rw [if_pos h0] at hf
  cases hf
def YQ (S : Su) (T : Tl) (np K B : Nat) (M0 : Me) (z : Pz) (M : Me) : Prop := YP M S T np z ∧ WZ S T np K B z ∧ ∀ c i, ¬ (11 ≤ c ∧ c ≤ 13) → M c i = M0 c i
theorem YQ.score {S : Su} {T : Tl} {np K B : Nat} {z : Pz} {M0 M : Me} (hw : wfS S) (hwt : wfTl S T) (h3 : np ≤ 3) (h : YQ S T np K B M0 z M) {r : Nat} (hr : r < 8 * T.length) (hk0 : kdp S T r ≠ 0) : ∃ g M2, qf_X7_score (nI r) M = some (nI g, M2) ∧ zS (score S T np r z) = zS z + g ∧ YQ S T np K B M0 (score S T np r z) M2 := by
  obtain ⟨h1, h2, h4⟩ := h
  obtain ⟨g, M2, a1, a2, a3, a4⟩ := y_score hw hwt h3 h1 h2 hr hk0
  exact ⟨g, M2, a1, a2, a3, score_WZ hw hwt h2, fun c i hc => by rw [a4 c i hc, h4 c i hc]⟩
def k9 (i : Nat) : Nat := if i ≤ 4 then i else i - 1
theorem y_settle {S : Su} {T : Tl} {np K B : Nat} {z : Pz} {M : Me} (hw : wfS S) (hwt : wfTl S T) (h3 : np ≤ 3) {n : Nat} (hn : T.length = n + 1) (h : YP M S T np z) (hz : WZ S T np K B z) (hs : zS z = 0) : ∃ M2, qb_X7_put_43 (nI n) M = qb_X7_put_212 (nI (zS (setl S T np z))) M2 ∧ YQ S T np K B M (setl S T np z) M2 := by
  have h24 := hwt.1
  have hnl : n < T.length := by omega
  have hin := (hwt.2.1 n hnl).2.2
  have hle := labs_le S T
  unfold setl
  rw [show T.length - 1 = n by omega]
  have L1 := lp2_up (b := qo_X7_put_48 (fun a3 M => qb_X7_put_98 (nI n) a3 M) (nI n)) (e := 8) (P := fun i a M2 => a = nI (zS (itr (fun j => score S T np (labs S T (8 * n + j))) i z)) ∧ YQ S T np K B M (itr (fun j => score S T np (labs S T (8 * n + j))) i z) M2) (K := fun a M => qb_X7_put_98 (nI n) a M) ?_ ?_ rx_FU 0 0 M (fu_lt (by decide)) (by decide) ⟨by show _ = nI (zS z); rw [hs]; rfl, h, hz, fun _ _ _ => rfl⟩
  · obtain ⟨a1, M1, ⟨e1, P1⟩, L1⟩ := L1
    generalize itr (fun j => score S T np (labs S T (8 * n + j))) 8 z = z1 at *
    have L2 := lp2_up (b := qo_X7_put_101 (fun a3 M => qb_X7_put_212 a3 M) (nI n)) (e := 9) (P := fun i a M2 => a = nI (zS (itr (fun i => cloA S T np (nn (tc T n) i)) (k9 i) z1)) ∧ YQ S T np K B M (itr (fun i => cloA S T np (nn (tc T n) i)) (k9 i) z1) M2) (K := fun a M => qb_X7_put_212 a M) ?_ ?_ rx_FU 0 a1 M1 (fu_lt (by decide)) (by decide) ⟨e1, P1⟩
    · obtain ⟨a2, M2, ⟨e2, P2⟩, L2⟩ := L2
      have L1 : qb_X7_put_43 (nI n) M = qb_X7_put_98 (nI n) a1 M1 := L1
      have L2 : qb_X7_put_98 (nI n) a1 M1 = qb_X7_put_212 a2 M2 := L2
      refine ⟨M2, ?_, P2⟩
      rw [L1, L2, e2]
      rfl
    · intro rec i a M2 hi hP
      obtain ⟨g1, g2⟩ := hP
      have hY2 := g2.1.1.2.1
      have e6 := hY2.2.1 n hnl
      have h206 : ∀ (a : Int32) (M : Me), qb_X7_put_206 rec (nI n) a (nI i) M = rec a (nI (i + 1)) M := by
        intro a M
        unfold qb_X7_put_206
        rw [n_vv, kn_1, n_add]
      have hneg : ∀ (a : Int32) (M : Me), qb_X7_put_148 rec (nI n) a (nI i) (-1) M = rec a (nI (i + 1)) M := by
        intro a M
        unfold qb_X7_put_148
        obtain ⟨f, hf⟩ : ∃ f, rx_FU = f + 1 := ⟨rx_FU - 1, by have := rx_FUe; omega⟩
        rw [hf]
        show qo_X7_put_153 (fun a3 M => qb_X7_put_206 rec (nI n) a3 (nI i) M) (nI n) (nI i) (-1) _ a (nI 0) M = _
        unfold qo_X7_put_153
        rw [kn_8, i_le (by decide) (by decide), if_neg (by decide), if_pos (by decide)]
        exact h206 a M
      unfold qo_X7_put_101
      rw [kn_9, i_le (by decide) (by omega), if_neg (by omega), kn_4, i_eq (by omega) (by decide), hneg]
      by_cases c4 : i = 4
      · subst c4
        rw [if_pos rfl]
        exact ⟨a, M2, ⟨g1, g2⟩, rfl⟩
      · have hk9 : k9 (i + 1) = k9 i + 1 := by unfold k9; by_cases c : i ≤ 4 <;> by_cases c2 : i + 1 ≤ 4 <;> simp [c, c2] <;> omega
        have hkc : c9 (tc T n) i = nn (tc T n) (k9 i) := by
          rw [c9_nn hin hi c4]
          congr 1
          unfold k9
          by_cases c : i < 4
          · rw [if_pos c, if_pos (by omega)]
          · rw [if_neg c, if_neg (by omega)]
        have h9 := y_nine hwt hY2 hin hi
        rw [if_neg c4, n_ld (by omega) (by decide), n_ld (by omega) (by decide), e6.1, e6.2.1, kn_3, n_div (by omega) (by decide) (by decide), n_mul, n_sub (by omega), nat_rem, h9, n_cl, hkc, hk9]
        show ∃ a' M', (a' = nI (zS (cloA S T np (nn (tc T n) (k9 i)) (itr (fun i => cloA S T np (nn (tc T n) i)) (k9 i) z1))) ∧ YQ S T np K B M (cloA S T np (nn (tc T n) (k9 i)) (itr (fun i => cloA S T np (nn (tc T n) i)) (k9 i) z1)) M') ∧ _
        generalize itr (fun i => cloA S T np (nn (tc T n) i)) (k9 i) z1 = z2 at *
        generalize nn (tc T n) (k9 i) = q at *
        cases e : ta T q with
        | none =>
          rw [atv_none e, hneg, cloA_none e]
          exact ⟨a, M2, ⟨g1, g2⟩, rfl⟩
        | some o =>
          obtain ⟨ho, -⟩ := ta_some e
          rw [atv_some e]
          have hcl : cloA S T np q z2 = itr (fun j z => if kdp S T (8 * o + j) = 4 then score S T np (8 * o + j) z else z) 8 z2 := by
            unfold cloA
            rw [e]
          rw [hcl]
          have L3 := lp2_up (b := qo_X7_put_153 (fun a3 M => qb_X7_put_206 rec (nI n) a3 (nI i) M) (nI n) (nI i) (nI o)) (e := 8) (P := fun j a M3 => a = nI (zS (itr (fun j z => if kdp S T (8 * o + j) = 4 then score S T np (8 * o + j) z else z) j z2)) ∧ YQ S T np K B M (itr (fun j z => if kdp S T (8 * o + j) = 4 then score S T np (8 * o + j) z else z) j z2) M3) (K := fun a M => qb_X7_put_206 rec (nI n) a (nI i) M) ?_ ?_ rx_FU 0 a M2 (fu_lt (by decide)) (by decide) ⟨g1, g2⟩
          · obtain ⟨a3, M3, ⟨e3, P3⟩, L3⟩ := L3
            refine ⟨a3, M3, ⟨e3, P3⟩, ?_⟩
            rw [← h206]
            exact L3
          · intro rec2 j a M3 hj hP3
            obtain ⟨b1, b2⟩ := hP3
            show ∃ a' M', (a' = nI (zS (if kdp S T (8 * o + j) = 4 then score S T np (8 * o + j) (itr (fun j z => if kdp S T (8 * o + j) = 4 then score S T np (8 * o + j) z else z) j z2) else (itr (fun j z => if kdp S T (8 * o + j) = 4 then score S T np (8 * o + j) z else z) j z2))) ∧ YQ S T np K B M (if kdp S T (8 * o + j) = 4 then score S T np (8 * o + j) (itr (fun j z => if kdp S T (8 * o + j) = 4 then score S T np (8 * o + j) z else z) j z2) else (itr (fun j z => if kdp S T (8 * o + j) = 4 then score S T np (8 * o + j) z else z) j z2)) M') ∧ _
            generalize itr (fun j z => if kdp S T (8 * o + j) = 4 then score S T np (8 * o + j) z else z) j z2 = z3 at *
            have hk := kdp_le hw hwt (p := 8 * o + j) (by omega)
            have h199 : ∀ (a : Int32) (M : Me), qb_X7_put_199 rec2 (nI n) (nI i) (nI o) (nI j) a M = rec2 a (nI (j + 1)) M := by
              intro a M
              unfold qb_X7_put_199
              rw [n_vv, kn_1, n_add]
            unfold qo_X7_put_153
            rw [kn_8, i_le (by decide) (by omega), if_neg (show ¬ (8 ≤ j) by omega), i_neg (by omega), n_mul, n_add, y_kindOfPiece hw hwt b2.1.1.1 b2.1.1.2.1 (by omega), n_cl, kn_4, i_eq (by omega) (by decide), h199]
            by_cases c : kdp S T (8 * o + j) = 4
            · obtain ⟨g, M4, d1, d2, d3⟩ := b2.score hw hwt h3 (r := 8 * o + j) (by omega) (by omega)
              rw [if_pos c, if_pos c, d1, n_cl, h199, b1, n_add]
              exact ⟨_, M4, ⟨by rw [d2], d3⟩, rfl⟩
            · rw [if_neg c, if_neg c]
              exact ⟨a, M3, ⟨b1, b2⟩, rfl⟩
          · intro rec2 a M3 _
            unfold qo_X7_put_153
            rw [kn_8, i_le (by decide) (by decide), if_pos (by decide)]
    · intro rec a M2 _
      unfold qo_X7_put_101
      rw [kn_9, i_le (by decide) (by decide), if_pos (by decide)]
  · intro rec i a M2 hi hP
    obtain ⟨g1, g2⟩ := hP
    have hl8 := hle (8 * n + i)
    have h91 : ∀ (a : Int32) (M : Me), qb_X7_put_91 rec (nI n) (nI i) a M = rec a (nI (i + 1)) M := by
      intro a M
      unfold qb_X7_put_91
      rw [n_vv, kn_1, n_add]
    have hk := kdp_le hw hwt (p := 8 * n + i) (by omega)
    show ∃ a' M', (a' = nI (zS (score S T np (labs S T (8 * n + i)) (itr (fun j => score S T np (labs S T (8 * n + j))) i z))) ∧ YQ S T np K B M (score S T np (labs S T (8 * n + i)) (itr (fun j => score S T np (labs S T (8 * n + j))) i z)) M') ∧ _
    generalize itr (fun j => score S T np (labs S T (8 * n + j))) i z = z2 at *
    unfold qo_X7_put_48
    rw [kn_8, i_le (by decide) (by omega), if_neg (by omega), n_mul, n_add, y_kindOfPiece hw hwt g2.1.1.1 g2.1.1.2.1 (by omega), n_cl, i_le0 (by omega), h91, n_ld (by omega) (by decide), g2.1.1.2.2 _ (by omega)]
    by_cases c : kdp S T (8 * n + i) = 0
    · rw [if_pos c, labs_alone hw hwt (Or.inl c), score_kind c]
      exact ⟨a, M2, ⟨g1, g2⟩, rfl⟩
    · obtain ⟨g, M3, b1, b2, b3⟩ := g2.score hw hwt h3 (r := labs S T (8 * n + i)) (by omega) (kdp_root hw hwt c)
      rw [if_neg c, b1, n_cl, h91, g1, n_add]
      exact ⟨_, M3, ⟨by rw [b2], b3⟩, rfl⟩
  · intro rec a M2 _
    unfold qo_X7_put_48
    rw [kn_8, i_le (by decide) (by decide), if_pos (by decide)]
theorem y_put {S : Su} {np : Nat} {g : Gm} {M : Me} {j : Nat} {w : Int32} (hw : wfS S) (hG : WG S np g) (h : RY M S np g) (hL : gL g = true) (hj : (j = 0 ∧ w = -1) ∨ ∃ k, j = k + 1 ∧ w = nI k ∧ mayP S g k) : ∃ M2, qf_X7_put w M = some (nI (putS S np g j), M2) ∧ RY M2 S np (putG S np g j) ∧ ∀ c i, ¬ Ky c i → M2 c i = M c i := by
  have hj2 : j = 0 ∨ ∃ k, j = k + 1 ∧ mayP S g k := by
    rcases hj with h | ⟨k, h1, _, h2⟩
    · exact Or.inl h.1
    · exact Or.inr ⟨k, h1, h2⟩
  have hz := WZ_put hG hL hj2
  have hZ := hG.2.2.2.2.2.2.2.2.1
  have hwt := hG.2.1
  have hW := hG.2.2.2.2.1
  have hX := hG.2.2.2.2.2.1
  have h3 := hG.1.2
  have hn := hG.2.2.2.2.2.2.2.2.2 hL
  have h24 := hwt.1
  obtain ⟨n, hn1⟩ : ∃ n, (gT g).length = n + 1 := ⟨(gT g).length - 1, by omega⟩
  obtain ⟨y1, y2, y3, y4, y5, y6, y7, y8, y9, y10, y11, y12⟩ := h
  obtain ⟨M1, l1, l2, l3, l4⟩ := y_giveLabels hw hwt y1 y2 y12
  have hYL : YL M1 S (gT g) := ⟨SY_keep y1 (fun c i hc => l4 c i (by omega) (by omega)), YT_keep y2 (fun c i hc => l4 c i (by omega) (by omega)), l2⟩
  have hYP : YP M1 S (gT g) np (gZ g) := ⟨hYL, by rw [l4 0 8 (by decide) (by decide)]; exact y4, fun x hx => by rw [l4 11 x (by decide) (by omega)]; exact y5 x hx, fun p hp => by rw [l4 12 p (by decide) (by omega), l4 13 p (by decide) (by omega)]; exact y6 p hp⟩
  have e18 : M1 0 18 = nI (gW g) := by rw [l4 0 18 (by decide) (by decide)]; exact y7
  have hA : ∃ Ma, YP Ma S (gT g) np (putZ g j) ∧ (∀ c i, c ≠ 11 → c ≠ 13 → Ma c i = M1 c i) ∧ qf_X7_put w M = qb_X7_put_43 (nI n) Ma := by
    rcases hj with ⟨rfl, rfl⟩ | ⟨k, rfl, rfl, hk⟩
    · refine ⟨M1, hYP, fun _ _ _ _ => rfl, ?_⟩
      unfold qf_X7_put
      rw [n_vv, y2.1, hn1, kn_1, n_sub (by omega), show n + 1 - 1 = n by omega, n_vv, l1, n_cl, if_pos (by decide)]
    · have hk8 := hk.1
      have hF := hk.2.1
      have hF7 : gF g (gW g) ≤ 7 := by
        have : gF g (gW g) + _ = 7 := hZ.2.1 (gW g) hW
        omega
      have e13 : M1 13 (gW g) = nI (gF g (gW g)) := (hYP.2.2.2 _ (by omega)).2
      have eZ : putZ g (k + 1) = (fun x => if x = 8 * n + k then some (gW g) else gO g x, gP g, fun p => if p = gW g then gF g p - 1 else gF g p, gCh g + 1, 0) := by
        unfold putZ
        rw [if_neg (by omega), show (gT g).length - 1 = n by omega]
        rfl
      refine ⟨rx_st (rx_st M1 11 (8 * n + k) (nI (gW g))) 13 (gW g) (nI (gF g (gW g) - 1)), ⟨YL_keep hYL (fun c i hc => by rw [st_cell (by omega), st_cell (by omega)]), ?_, fun x hx => ?_, fun p hp => ⟨?_, ?_⟩⟩, fun c i c1 c2 => by rw [st_cell c2, st_cell c1], ?_⟩
      · rw [st_cell (by decide), st_cell (by decide)]; exact hYP.2.1
      · rw [st_cell (by decide), st_get, eZ]
        show _ = dv (if x = 8 * n + k then some (gW g) else gO g x)
        by_cases c : x = 8 * n + k
        · rw [if_pos ⟨rfl, c⟩, if_pos c]; rfl
        · rw [if_neg (fun q => c q.2), if_neg c]; exact hYP.2.2.1 x hx
      · rw [st_cell (by decide), st_cell (by decide), eZ]; exact (hYP.2.2.2 p hp).1
      · rw [st_get, eZ]
        show _ = nI (if p = gW g then gF g p - 1 else gF g p)
        by_cases c : p = gW g
        · rw [if_pos ⟨rfl, c⟩, if_pos c, c]
        · rw [if_neg (fun q => c q.2), st_cell (by decide), if_neg c]; exact (hYP.2.2.2 p hp).2
      · unfold qf_X7_put
        rw [n_vv, y2.1, hn1, kn_1, n_sub (by omega), show n + 1 - 1 = n by omega, n_vv, l1, n_cl, i_neg (by omega), n_vv, e18, kn_8, n_mul, n_add, n_sv (by omega) (by decide), n_vv, st_cell (by decide), e18, n_ld (by omega) (by decide), st_cell (by decide), e13, n_sub (by omega), n_sv (by omega) (by decide)]
  obtain ⟨Ma, a1, a2, a3⟩ := hA
  have hs0 : zS (putZ g j) = 0 := by
    unfold putZ
    by_cases c : j = 0
    · rw [if_pos c]; rfl
    · rw [if_neg c]; rfl
  obtain ⟨Mb, p1, p2, p3, p4⟩ := y_settle hw hwt h3 hn1 a1 hz hs0
  have fb : ∀ c i, ¬ (11 ≤ c ∧ c ≤ 13) → c ≠ 15 → ¬ (c = 0 ∧ i = 26) → Mb c i = M c i := fun c i h1 h2 h3 => by rw [p4 c i h1, a2 c i (by omega) (by omega), l4 c i h2 h3]
  obtain ⟨W2, hW2⟩ : ∃ W2, W2 = if gW g + 1 < np then gW g + 1 else 0 := ⟨_, rfl⟩
  obtain ⟨Mc, hMc⟩ : ∃ Mc, Mc = rx_st (rx_st Mb 0 22 0) 0 18 (nI W2) := ⟨_, rfl⟩
  have ec : ∀ c i, ¬ (c = 0 ∧ (i = 22 ∨ i = 18)) → Mc c i = Mb c i := fun c i h => by rw [hMc, st_get, if_neg (by omega), st_get, if_neg (by omega)]
  have hSc : SY Mc S := SY_keep p2.1.1 (fun c i hc => ec c i (by omega))
  have hYc : YT Mc (gT g) := YT_keep p2.1.2.1 (fun c i hc => ec c i (by omega))
  obtain ⟨M2, d1, d2, d3, d4, d5⟩ := y_drawNext (x := gX g) (a := gA g) hw hwt hSc hYc hX (by rw [ec 0 19 (by omega), fb 0 19 (by omega) (by decide) (by omega)]; exact y8) (by rw [ec 0 21 (by omega), fb 0 21 (by omega) (by decide) (by omega)]; exact y10)
  have f2 : ∀ c i, ¬ (c = 0 ∧ 18 ≤ i ∧ i ≤ 22) → M2 c i = Mb c i := fun c i hc => by rw [d5 c i (by omega), ec c i (by omega)]
  refine ⟨M2, ?_, ⟨SY_keep hSc (fun c i hc => d5 c i (by omega)), YT_keep hYc (fun c i hc => d5 c i (by omega)), ?_, ?_, fun x hx => ?_, fun p hp => ?_, ?_, d3, d2, d4, ?_, ?_⟩, fun c i hc => ?_⟩
  · rw [a3, p1]
    unfold qb_X7_put_212
    have e18b : rx_st Mb 0 22 0 0 18 = nI (gW g) := by rw [st_place (by decide), fb 0 18 (by omega) (by decide) (by omega)]; exact y7
    have e8b : rx_st Mb 0 22 0 0 8 = nI np := by rw [st_place (by decide)]; exact p2.2.1
    rw [n_vv, n_vv, e18b, n_vv, e8b, kn_1, n_add, i_eq (by omega) (by omega)]
    by_cases hc : gW g + 1 = np
    · rw [if_pos hc]
      unfold qb_X7_put_241
      have e0 : W2 = 0 := by rw [hW2, if_neg (by omega)]
      have : rx_st (rx_st Mb 0 22 0) 0 18 0 = Mc := by rw [hMc, e0]; rfl
      rw [n_vv, this, d1, n_cl]
      rfl
    · rw [if_neg hc, n_vv]
      unfold qb_X7_put_241
      have e0 : W2 = gW g + 1 := by rw [hW2, if_pos (by omega)]
      have : rx_st (rx_st Mb 0 22 0) 0 18 (nI (gW g + 1)) = Mc := by rw [hMc, e0]
      rw [n_vv, n_add, this, d1, n_cl]
      rfl
  · rw [f2 0 7 (by omega), fb 0 7 (by omega) (by decide) (by omega)]; exact y3
  · rw [f2 0 8 (by omega)]; exact p2.2.1
  · rw [f2 11 x (by omega)]; exact p2.2.2.1 x hx
  · rw [f2 12 p (by omega), f2 13 p (by omega)]; exact p2.2.2.2 p hp
  · rw [d5 0 18 (by omega), hMc, st_same, hW2]; rfl
  · rw [d5 0 22 (by omega), hMc, st_place (by decide), st_same]; rfl
  · right
    refine ⟨?_, fun x hx => ?_⟩
    · rw [f2 0 26 (by omega), p4 0 26 (by omega), a2 0 26 (by decide) (by decide)]; exact l3
    · rw [f2 15 x (by omega)]; exact p2.1.2.2 x hx
  · unfold Ky at hc
    rw [f2 c i (by omega), fb c i (by omega) (by omega) (by omega)]
theorem y_mayFollow {S : Su} {np : Nat} {g : Gm} {M : Me} (hw : wfS S) (hG : WG S np g) (h : RY M S np g) (hL : gL g = true) {k : Nat} (hk : k < 8) : ∃ M2, qf_X7_mayFollow (nI k) M = some (flg (mayP S g k), M2) ∧ RY M2 S np g ∧ ∀ c i, c ≠ 15 → ¬ (c = 0 ∧ i = 26) → M2 c i = M c i := by
  obtain ⟨⟨b1, b2⟩, hwt, -, -, hW, -, -, -, hZ, hn⟩ := hG
  have hn := hn hL
  have h24 := hwt.1
  obtain ⟨n, hn1⟩ : ∃ n, (gT g).length = n + 1 := ⟨(gT g).length - 1, by omega⟩
  have hF : gF g (gW g) ≤ 7 := by
    have : gF g (gW g) + _ = 7 := hZ.2.1 (gW g) hW
    omega
  have hx : 8 * n + k < 8 * (gT g).length := by omega
  have hkd := kdp_le hw hwt hx
  have ho : ∀ x p, gO g x = some p → p < 3 := fun x p hx => by have := (hZ.1 x p hx).2.1; omega
  have hle := labs_le S (gT g) (8 * n + k)
  have hRY := h
  obtain ⟨y1, y2, y3, y4, y5, y6, y7, y8, y9, y10, y11, y12⟩ := h
  obtain ⟨M1, l1, l2, l3, l4⟩ := y_giveLabels hw hwt y1 y2 y12
  have hYL : YL M1 S (gT g) := ⟨SY_keep y1 (fun c i hc => l4 c i (by omega) (by omega)), YT_keep y2 (fun c i hc => l4 c i (by omega) (by omega)), l2⟩
  have hO1 : YO M1 (gO g) := fun x hx => by rw [l4 11 x (by decide) (by omega)]; exact y5 x hx
  have hhas := y_hasFollowers hwt hYL hO1 ho (r := labs S (gT g) (8 * n + k)) (by omega)
  have e13 : M 13 (gW g) = nI (gF g (gW g)) := (y6 _ (by omega)).2
  unfold qf_X7_mayFollow mayP
  rw [n_vv, y2.1, hn1, kn_1, n_sub (by omega), show n + 1 - 1 = n by omega, kn_8, n_mul, n_add, n_vv, i_neg (by omega), kn_7, i_lt (by decide) (by omega), if_neg (by omega), y_kindOfPiece hw hwt y1 y2 hx, n_cl, i_z (by omega), n_vv, y7, n_ld (by omega) (by decide), e13, i_z (by omega), l1, n_cl, n_ld (by omega) (by decide), l2 _ (by omega), hhas, n_cl]
  by_cases c1 : kdp S (gT g) (8 * n + k) = 0
  · rw [if_pos c1, flg_f (fun q => q.2.2.1 c1)]
    exact ⟨M, rfl, hRY, fun _ _ _ _ => rfl⟩
  · rw [if_neg c1]
    by_cases c2 : gF g (gW g) = 0
    · rw [if_pos c2, flg_f (fun q => by have := q.2.1; omega)]
      exact ⟨M, rfl, hRY, fun _ _ _ _ => rfl⟩
    · rw [if_neg c2]
      refine ⟨M1, ?_, ?_, l4⟩
      · by_cases c3 : has S (gT g) (gO g) (labs S (gT g) (8 * n + k))
        · rw [flg_t c3, if_neg (by decide), flg_f (fun q => q.2.2.2 c3)]; rfl
        · rw [flg_f c3, if_pos rfl, flg_t ⟨hk, by omega, c1, c3⟩]; rfl
      · refine ⟨hYL.1, hYL.2.1, ?_, ?_, hO1, fun p hp => ?_, ?_, ?_, ?_, ?_, ?_, Or.inr ⟨l3, l2⟩⟩
        · rw [l4 0 7 (by decide) (by decide)]; exact y3
        · rw [l4 0 8 (by decide) (by decide)]; exact y4
        · rw [l4 12 p (by decide) (by omega), l4 13 p (by decide) (by omega)]; exact y6 p hp
        · rw [l4 0 18 (by decide) (by decide)]; exact y7
        · rw [l4 0 19 (by decide) (by decide)]; exact y8
        · rw [l4 0 20 (by decide) (by decide)]; exact y9
        · rw [l4 0 21 (by decide) (by decide)]; exact y10
        · rw [l4 0 22 (by decide) (by decide)]; exact y11

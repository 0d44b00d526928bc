/-! The reference counts the final points. -/
theorem y_countAdd {S : Su} {T : Tl} {M : Me} {O : Ow} {np r W : Nat} {F : Nat → Nat} {K : Me → Op} (hwt : wfTl S T) (hY : YL M S T) (hO : YO M O) (h3 : np ≤ 3) (hn : M 0 8 = nI np) (ho : ∀ x p, O x = some p → p < 3) (hr : r < 192) (h7 : ∀ p, fl S T O r p ≤ 192) (hF : ∀ p, p < np → M 17 p = nI (F p)) : ∃ M2, rx_lp1 (qo_X7_count_76 K (nI r) (nI W)) rx_FU 0 M = K M2 ∧ (∀ p, p < np → M2 17 p = nI (F p + ci (frst S T O np r p) * W)) ∧ ∀ c i, c ≠ 17 → M2 c i = M c i := by
  have L := lp1_up (b := qo_X7_count_76 K (nI r) (nI W)) (e := np) (K := K) (P := fun i M2 => (∀ p, p < np → M2 17 p = nI (F p + (if p < i then ci (frst S T O np r p) * W else 0))) ∧ ∀ c i, c ≠ 17 → M2 c i = M c i) ?_ ?_ rx_FU 0 M (fu_lt (by omega)) (Nat.zero_le _) ⟨fun p hp => by rw [if_neg (by omega)]; exact hF p hp, fun _ _ _ => rfl⟩
  · obtain ⟨M2, ⟨p1, p2⟩, L⟩ := L
    exact ⟨M2, L, fun p hp => by rw [p1 p hp, if_pos hp], p2⟩
  · intro rec i M2 hi hP
    obtain ⟨p1, p2⟩ := hP
    have hY2 : YL M2 S T := YL_keep hY (fun c i hc => p2 c i (by omega))
    have hO2 : YO M2 O := fun x hx => by rw [p2 11 x (by decide)]; exact hO x hx
    have hn2 : M2 0 8 = nI np := by rw [p2 0 8 (by decide)]; exact hn
    have hf := y_isFirst hwt hY2 hO2 h3 hn2 ho hr (p := i) (by omega) h7
    have e17 : M2 17 i = nI (F i) := by rw [p1 i hi, if_neg (by omega)]; rfl
    refine ⟨rx_st M2 17 i (nI (F i + ci (frst S T O np r i) * W)), ⟨fun p hp => ?_, fun c k hc => by rw [st_cell hc]; exact p2 c k hc⟩, ?_⟩
    · rw [st_get]
      by_cases c1 : p = i
      · rw [if_pos ⟨rfl, c1⟩, if_pos (by omega), c1]
      · rw [if_neg (fun q => c1 q.2), p1 p hp]
        by_cases c2 : p < i
        · rw [if_pos c2, if_pos (by omega)]
        · rw [if_neg c2, if_neg (by omega)]
    · unfold qo_X7_count_76 qb_X7_count_115
      rw [n_vv, hn2, i_le (by omega) (by omega), if_neg (by omega), hf, n_cl, n_ld (by omega) (by decide), e17, n_sv (by omega) (by decide), n_vv, kn_1, n_add, n_ld (by omega) (by decide), e17, n_add, n_sv (by omega) (by decide), n_vv]
      by_cases c : frst S T O np r i
      · rw [flg_t c, if_neg (by decide), ci_t c, Nat.one_mul]
      · rw [flg_f c, if_pos rfl, ci_f c, Nat.zero_mul]
        rfl
  · intro rec M2 hP
    have hn2 : M2 0 8 = nI np := by rw [hP.2 0 8 (by decide)]; exact hn
    unfold qo_X7_count_76
    rw [n_vv, hn2, i_le (by omega) (by omega), if_pos (by omega)]
theorem y_count {S : Su} {np : Nat} {g : Gm} {M : Me} (hw : wfS S) (hG : WG S np g) (h : RY M S np g) : ∃ M2, qf_X7_count M = some (0, M2) ∧ RY M2 S np g ∧ (∀ p, p < np → M2 17 p = nI (fins S (gT g) (gO g) np (gP g) p)) ∧ ∀ c i, c ≠ 15 → ¬ (c = 0 ∧ i = 26) → c ≠ 17 → M2 c i = M c i := by
  have hwt := hG.2.1
  have h3 := hG.1.2
  have hZ := hG.2.2.2.2.2.2.2.2.1
  have h24 := hwt.1
  have ho : ∀ x p, gO g x = some p → p < 3 := fun x p hx => by have := (hZ.1 x p hx).2.1; omega
  obtain ⟨M1, l1, l2, l3, l4⟩ := RY_labels hw hwt h
  have hYL : YL M1 S (gT g) := ⟨l2.1, l2.2.1, l3⟩
  have hO1 : YO M1 (gO g) := l2.2.2.2.2.1
  have hn1 : M1 0 8 = nI np := l2.2.2.2.1
  have L1 := lp1_up (b := qo_X7_count_6 (fun M => qb_X7_count_29 M)) (e := 3) (K := fun M => qb_X7_count_29 M) (P := fun i M2 => (∀ p, p < i → M2 17 p = nI (gP g p)) ∧ ∀ c i, c ≠ 17 → M2 c i = M1 c i) ?_ ?_ rx_FU 0 M1 (fu_lt (by decide)) (by decide) ⟨fun p hp => (by omega), fun _ _ _ => rfl⟩
  · obtain ⟨M2, ⟨p1, p2⟩, L1⟩ := L1
    have L2 := lp1_up (b := qo_X7_count_31) (e := 8 * (gT g).length) (K := fun M => some ((0 : Int32), M)) (P := fun i M3 => (∀ p, p < np → M3 17 p = nI (gP g p + sumN (fter S (gT g) (gO g) np p) i)) ∧ ∀ c i, c ≠ 17 → M3 c i = M1 c i) ?_ ?_ rx_FU 0 M2 (fu_lt (by omega)) (Nat.zero_le _) ⟨fun p hp => p1 p (by omega), p2⟩
    · obtain ⟨M3, ⟨q1, q2⟩, L2⟩ := L2
      refine ⟨M3, ?_, RY_keep l2 (fun c i hc => q2 c i (by unfold Ky at hc; omega)), q1, fun c i c1 c2 c3 => by rw [q2 c i c3, l4 c i c1 c2]⟩
      unfold qf_X7_count
      have L1 : rx_lp1 (qo_X7_count_6 (fun M => qb_X7_count_29 M)) rx_FU 0 M1 = qb_X7_count_29 M2 := L1
      rw [l1, n_cl, L1]
      exact L2
    · intro rec x M3 hx hP
      obtain ⟨q1, q2⟩ := hP
      have hY3 : YL M3 S (gT g) := YL_keep hYL (fun c i hc => q2 c i (by omega))
      have hO3 : YO M3 (gO g) := fun x hx => by rw [q2 11 x (by decide)]; exact hO1 x hx
      have hn3 : M3 0 8 = nI np := by rw [q2 0 8 (by decide)]; exact hn1
      have hl := lab192 (S := S) (T := gT g) x (by omega)
      have hk := kdp_le hw hwt hx
      have h122 : ∀ (M : Me), qb_X7_count_122 rec (nI x) M = rec (nI (x + 1)) M := by
        intro M
        unfold qb_X7_count_122
        rw [n_vv, kn_1, n_add]
      have same : ¬ (labs S (gT g) x = x ∧ has S (gT g) (gO g) x) → ∃ M', ((∀ p, p < np → M' 17 p = nI (gP g p + sumN (fter S (gT g) (gO g) np p) (x + 1))) ∧ ∀ c i, c ≠ 17 → M' c i = M1 c i) ∧ rec (nI (x + 1)) M3 = rec (nI (x + 1)) M' := by
        intro hno
        refine ⟨M3, ⟨fun p hp => ?_, q2⟩, rfl⟩
        rw [q1 p hp]
        show _ = nI (gP g p + (sumN (fter S (gT g) (gO g) np p) x + fter S (gT g) (gO g) np p x))
        have : fter S (gT g) (gO g) np p x = 0 := by
          unfold fter
          rw [ci_f (fun g => hno ⟨g.1, g.2.1⟩), Nat.zero_mul]
        rw [this]
        rfl
      unfold qo_X7_count_31
      rw [n_vv, hY3.2.1.1, kn_8, n_mul, i_le (by omega) (by omega), if_neg (by omega), y_kindOfPiece hw hwt hY3.1 hY3.2.1 hx, n_cl, i_le0 (by omega), n_ld (by omega) (by decide), hY3.2.2 x (by omega), i_eq (by omega) (by omega), y_hasFollowers hwt hY3 hO3 ho (by omega), n_cl, h122]
      by_cases c0 : kdp S (gT g) x = 0
      · rw [if_pos c0]
        refine same (fun g1 => ?_)
        obtain ⟨y, y1, y2, y3⟩ := g1.2
        cases e : gO g y with
        | none => exact y3 e
        | some p =>
          have hky : kdp S (gT g) y ≠ 0 := (hZ.1 y p e).2.2
          have := kdp_root hw hwt hky
          rw [y2] at this
          exact this c0
      · rw [if_neg c0]
        by_cases c1 : labs S (gT g) x = x
        · rw [if_pos c1]
          by_cases c2 : has S (gT g) (gO g) x
          · obtain ⟨M4, d1, d2, d3⟩ := y_countAdd (K := fun M => qb_X7_count_122 rec (nI x) M) (W := fwo S (gT g) x) (F := fun p => gP g p + sumN (fter S (gT g) (gO g) np p) x) hwt hY3 hO3 h3 hn3 ho (r := x) (by omega) (fun p => by have := fl7 (r := x) (p := p) hZ; have : fl S (gT g) (gO g) x p ≤ 7 := this; omega) q1
            rw [flg_t c2, if_neg (by decide), y_finalWorth hw hwt hY3 hx, n_cl, d1, h122]
            refine ⟨M4, ⟨fun p hp => ?_, fun c i hc => by rw [d3 c i hc, q2 c i hc]⟩, rfl⟩
            rw [d2 p hp]
            show _ = nI (gP g p + (sumN (fter S (gT g) (gO g) np p) x + fter S (gT g) (gO g) np p x))
            have : fter S (gT g) (gO g) np p x = ci (frst S (gT g) (gO g) np x p) * fwo S (gT g) x := by
              unfold fter
              rw [ci_c ⟨fun g => g.2.2, fun g => ⟨c1, c2, g⟩⟩]
            rw [this, Nat.add_assoc]
          · rw [flg_f c2, if_pos rfl]
            exact same (fun g => c2 g.2)
        · rw [if_neg c1]
          exact same (fun g => c1 g.1)
    · intro rec M3 hP
      have hY3 : YL M3 S (gT g) := YL_keep hYL (fun c i hc => hP.2 c i (by omega))
      unfold qo_X7_count_31
      rw [n_vv, hY3.2.1.1, kn_8, n_mul, i_le (by omega) (by omega), if_pos (by omega)]
  · intro rec i M2 hi hP
    refine ⟨rx_st M2 17 i (nI (gP g i)), ⟨fun p hp => ?_, fun c k hc => by rw [st_cell hc]; exact hP.2 c k hc⟩, ?_⟩
    · by_cases c1 : p = i
      · rw [c1]; exact st_same _ _ _ _
      · rw [st_place c1]; exact hP.1 p (by omega)
    · unfold qo_X7_count_6
      rw [kn_3, i_le (by decide) (by omega), if_neg (by omega), n_ld hi (by decide), hP.2 12 i (by decide), (l2.2.2.2.2.2.1 i hi).1, n_sv hi (by decide), n_vv, kn_1, n_add]
  · intro rec M2 _
    unfold qo_X7_count_6
    rw [kn_3, i_le (by decide) (by decide), if_pos (by decide)]

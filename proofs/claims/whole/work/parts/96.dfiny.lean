/-! Final points: the reference. -/
theorem RY_labels {S : Su} {np : Nat} {g : Gm} {M : Me} (hw : wfS S) (hwt : wfTl S (gT g)) (h : RY M S np g) : ∃ M2, qf_X7_giveLabels M = some (0, M2) ∧ RY M2 S np g ∧ LY M2 (labs S (gT g)) ∧ ∀ c i, c ≠ 15 → ¬ (c = 0 ∧ i = 26) → M2 c i = M c i := by
  obtain ⟨y1, y2, y3, y4, y5, y6, y7, y8, y9, y10, y11, y12⟩ := h
  obtain ⟨M1, l1, l2, l3, l4⟩ := y_giveLabels hw hwt y1 y2 y12
  refine ⟨M1, l1, ⟨SY_keep y1 (fun c i hc => l4 c i (by omega) (by omega)), YT_keep y2 (fun c i hc => l4 c i (by omega) (by omega)), ?_, ?_, fun x hx => ?_, fun p hp => ?_, ?_, ?_, ?_, ?_, ?_, Or.inr ⟨l3, l2⟩⟩, l2, l4⟩
  · rw [l4 0 7 (by decide) (by decide)]; exact y3
  · rw [l4 0 8 (by decide) (by decide)]; exact y4
  · rw [l4 11 x (by decide) (by omega)]; exact y5 x hx
  · rw [l4 12 p (by decide) (by omega), l4 13 p (by decide) (by omega)]; exact y6 p hp
  · rw [l4 0 18 (by decide) (by decide)]; exact y7
  · rw [l4 0 19 (by decide) (by decide)]; exact y8
  · rw [l4 0 20 (by decide) (by decide)]; exact y9
  · rw [l4 0 21 (by decide) (by decide)]; exact y10
  · rw [l4 0 22 (by decide) (by decide)]; exact y11
theorem i_one {α : Type} {a : Nat} {x y : α} {d : Decidable (nI a = 1)} (ha : a < 2147483648) : @ite α (nI a = 1) d x y = if a = 1 then x else y := i_eq (b := 1) ha (by decide)
def tcb (S : Su) (T : Tl) (r w b : Nat) : Prop := ∃ x, x < b ∧ labs S T x = r ∧ ∃ o, o < 8 ∧ bt S T x o ∧ labs S T (8 * (x / 8) + o) = w
theorem y_touchC {S : Su} {T : Tl} {M : Me} {r w B : Nat} {K : Int32 → Me → Op} (hw : wfS S) (hwt : wfTl S T) (hY : YL M S T) (hr : r < 192) (hwl : w < 8 * T.length) (hk : kdp S T w = 1) (hlw : labs S T w = w) : rx_lp2 (qo_X7_citiesAt_21 K (nI r) (nI B) (nI w)) rx_FU 0 0 M = K (flg (tch S T r w)) M := by
  have h24 := hwt.1
  have h12 := hw.1
  have key := lp2_fun (b := qo_X7_citiesAt_21 K (nI r) (nI B) (nI w)) (e := 8 * T.length) (M := M) (K := K (flg (tch S T r w)) M) (fun i => flg (tcb S T r w i)) ?_ ?_ rx_FU 0 (fu_lt (by omega)) (Nat.zero_le _)
  · have e0 : flg (tcb S T r w 0) = 0 := flg_f (fun ⟨x, h, _⟩ => by omega)
    rw [← key, e0]
    rfl
  · intro rec x hx
    have hl := lab192 (S := S) (T := T) x (by omega)
    have ht : x / 8 < T.length := by omega
    have hty := (hwt.2.1 _ ht).1
    have e8 := (hY.2.1.2.1 _ ht).2.2.1
    have e4 := (hY.1.2.2.2.2 (ty T (x / 8)) (x % 8) hty (by omega)).2.2
    have hbm := ((hw.2.2.2 _ hty).2.1 (x % 8) (by omega)).2.2
    have h144 : ∀ (a : Int32), qb_X7_citiesAt_144 rec (nI r) (nI B) (nI w) a (nI x) M = rec a (nI (x + 1)) M := by
      intro a
      unfold qb_X7_citiesAt_144
      rw [n_vv, kn_1, n_add]
    show qo_X7_citiesAt_21 K (nI r) (nI B) (nI w) rec (flg (tcb S T r w x)) (nI x) M = rec (flg (tcb S T r w (x + 1))) (nI (x + 1)) M
    unfold qo_X7_citiesAt_21
    rw [n_vv, hY.2.1.1, kn_8, n_mul, i_le (by omega) (by omega), if_neg (by omega), y_kindOfPiece hw hwt hY.1 hY.2.1 hwl, n_cl, hk, if_pos (show nI 1 = 1 from rfl), n_ld (by omega) (by decide), hY.2.2 w (by omega), hlw, if_pos rfl]
    by_cases c1 : labs S T x = r
    · have k2 := lp2_fun (b := qo_X7_citiesAt_55 (fun a4 M => qb_X7_citiesAt_144 rec (nI r) (nI B) (nI w) a4 (nI x) M) (nI r) (nI B) (nI w) (nI x)) (e := 8) (M := M) (K := rec (flg (tcb S T r w (x + 1))) (nI (x + 1)) M) (fun i => flg (tcb S T r w x ∨ ∃ o, o < i ∧ bt S T x o ∧ labs S T (8 * (x / 8) + o) = w)) ?_ ?_ rx_FU 0 (fu_lt (by decide)) (by decide)
      · rw [← k2]
        have e0 : flg (tcb S T r w x) = flg (tcb S T r w x ∨ ∃ o, o < 0 ∧ bt S T x o ∧ labs S T (8 * (x / 8) + o) = w) := flg_c ⟨Or.inl, fun g => g.elim id (fun ⟨o, h, _⟩ => absurd h (by omega))⟩
        rw [e0]
        rfl
      · intro rec2 o ho
        have hl2 := lab192 (S := S) (T := T) (8 * (x / 8) + o) (by omega)
        have h136 : ∀ (a : Int32), qb_X7_citiesAt_136 rec2 (nI r) (nI B) (nI w) (nI x) (nI o) a M = rec2 a (nI (o + 1)) M := by
          intro a
          unfold qb_X7_citiesAt_136
          rw [n_vv, kn_1, n_add]
        show qo_X7_citiesAt_55 (fun a4 M => qb_X7_citiesAt_144 rec (nI r) (nI B) (nI w) a4 (nI x) M) (nI r) (nI B) (nI w) (nI x) rec2 (flg (tcb S T r w x ∨ ∃ o', o' < o ∧ bt S T x o' ∧ labs S T (8 * (x / 8) + o') = w)) (nI o) M = rec2 (flg (tcb S T r w x ∨ ∃ o', o' < o + 1 ∧ bt S T x o' ∧ labs S T (8 * (x / 8) + o') = w)) (nI (o + 1)) M
        unfold qo_X7_citiesAt_55
        rw [kn_8, i_le (by decide) (by omega), if_neg (by omega), n_ld (by omega) (by decide), hY.2.2 x (by omega), c1, if_pos rfl, n_div (by omega) (by decide) (by decide), n_ld (by omega) (by decide), e8, n_mul, n_mul, n_sub (by omega), nat_rem, n_add, n_ld (by omega) (by decide), e4, bit31 (by omega) (by omega), i_one (by omega), n_add, n_ld (by omega) (by decide), show x / 8 * 8 + o = 8 * (x / 8) + o by omega, hY.2.2 _ (by omega), i_eq (by omega) (by omega), h136, h136]
        by_cases c : tcb S T r w x ∨ ∃ o', o' < o ∧ bt S T x o' ∧ labs S T (8 * (x / 8) + o') = w
        · rw [flg_t c, if_neg (by decide), flg_t (c.elim Or.inl (fun ⟨o', g1, g2⟩ => Or.inr ⟨o', by omega, g2⟩))]
        · have no : ¬ (bt S T x o ∧ labs S T (8 * (x / 8) + o) = w) → ¬ (tcb S T r w x ∨ ∃ o', o' < o + 1 ∧ bt S T x o' ∧ labs S T (8 * (x / 8) + o') = w) := fun hn g => g.elim (fun q => c (Or.inl q)) (fun ⟨o', g1, g2, g3⟩ => by
            by_cases hoo : o' = o
            · subst hoo; exact hn ⟨g2, g3⟩
            · exact c (Or.inr ⟨o', by omega, g2, g3⟩))
          rw [flg_f c, if_pos rfl]
          by_cases c2 : sT S (ty T (x / 8)) (x % 8) / 2 ^ o % 2 = 1
          · rw [if_pos c2]
            by_cases c3 : labs S T (8 * (x / 8) + o) = w
            · rw [if_pos c3, flg_t (Or.inr ⟨o, by omega, c2, c3⟩)]
            · rw [if_neg c3, flg_f (no (fun q => c3 q.2))]
          · rw [if_neg c2, flg_f (no (fun q => c2 q.1))]
      · intro rec2
        unfold qo_X7_citiesAt_55
        rw [kn_8, i_le (by decide) (by decide), if_pos (by decide)]
        show qb_X7_citiesAt_144 rec (nI r) (nI B) (nI w) (flg (tcb S T r w x ∨ ∃ o, o < 8 ∧ bt S T x o ∧ labs S T (8 * (x / 8) + o) = w)) (nI x) M = _
        rw [h144, flg_c (show (tcb S T r w x ∨ ∃ o, o < 8 ∧ bt S T x o ∧ labs S T (8 * (x / 8) + o) = w) ↔ tcb S T r w (x + 1) from ⟨fun g => g.elim (fun ⟨y, g1, g2⟩ => ⟨y, by omega, g2⟩) (fun g => ⟨x, by omega, c1, g⟩), fun ⟨y, g1, g2, g3⟩ => by
          by_cases hy : y = x
          · subst hy; exact Or.inr g3
          · exact Or.inl ⟨y, by omega, g2, g3⟩⟩)]
    · have e0 : flg (tcb S T r w x) = flg (tcb S T r w (x + 1)) := flg_c ⟨fun ⟨y, g1, g2⟩ => ⟨y, by omega, g2⟩, fun ⟨y, g1, g2, g3⟩ => by
        by_cases hy : y = x
        · subst hy; exact absurd g2 c1
        · exact ⟨y, by omega, g2, g3⟩⟩
      obtain ⟨f, hf⟩ : ∃ f, rx_FU = f + 1 := ⟨rx_FU - 1, by have := rx_FUe; omega⟩
      rw [hf]
      show qo_X7_citiesAt_55 (fun a4 M => qb_X7_citiesAt_144 rec (nI r) (nI B) (nI w) a4 (nI x) M) (nI r) (nI B) (nI w) (nI x) _ (flg (tcb S T r w x)) (nI 0) M = _
      unfold qo_X7_citiesAt_55
      rw [kn_8, i_le (by decide) (by decide), if_neg (by decide), n_ld (by omega) (by decide), hY.2.2 x (by omega), i_eq (by omega) (by omega), if_neg c1]
      show qb_X7_citiesAt_144 rec (nI r) (nI B) (nI w) (flg (tcb S T r w x)) (nI x) M = _
      rw [h144, e0]
  · intro rec
    unfold qo_X7_citiesAt_21
    rw [n_vv, hY.2.1.1, kn_8, n_mul, i_le (by omega) (by omega), if_pos (by omega)]
    rfl
theorem y_citiesAt {S : Su} {T : Tl} {M : Me} {r : Nat} (hw : wfS S) (hwt : wfTl S T) (hY : YL M S T) (hr : r < 192) : qf_X7_citiesAt (nI r) M = some (nI (ctn S T r), M) := by
  have h24 := hwt.1
  refine lp2_fun (b := qo_X7_citiesAt_4 (nI r)) (e := 8 * T.length) (M := M) (fun i => nI (sumN (fun w => ci (cty S T r w)) i)) ?_ ?_ rx_FU 0 (fu_lt (by omega)) (Nat.zero_le _)
  · intro rec w hwl
    have hl := lab192 (S := S) (T := T) w (by omega)
    have hk := kdp_le hw hwt hwl
    show _ = rec (nI (sumN (fun w => ci (cty S T r w)) w + ci (cty S T r w))) (nI (w + 1)) M
    generalize sumN (fun w => ci (cty S T r w)) w = B
    have h170 : ∀ (a : Int32), qb_X7_citiesAt_170 rec (nI r) (nI w) a M = rec a (nI (w + 1)) M := by
      intro a
      unfold qb_X7_citiesAt_170
      rw [n_vv, kn_1, n_add]
    have h150 : ∀ (P : Prop), (P → kdp S T w = 1) → qb_X7_citiesAt_150 rec (nI r) (nI B) (nI w) (flg P) M = rec (nI (B + ci (P ∧ opn S T w = 0))) (nI (w + 1)) M := by
      intro P hP
      unfold qb_X7_citiesAt_150
      rw [h170]
      by_cases c : P
      · have hk1 := hP c
        rw [flg_t c, if_neg (by decide), y_isFinished hw hwt hY hwl (by omega), n_cl, h170, h170, kn_1, n_add]
        have hfin : fin S T w ↔ opn S T w = 0 := by
          unfold fin
          constructor
          · rintro (h | h)
            · exact h.2
            · omega
          · exact fun h => Or.inl ⟨Or.inl hk1, h⟩
        by_cases c2 : opn S T w = 0
        · rw [flg_t (hfin.mpr c2), if_neg (by decide), ci_t ⟨c, c2⟩]
        · rw [flg_f (fun q => c2 (hfin.mp q)), if_pos rfl, ci_f (fun q => c2 q.2)]; rfl
      · rw [flg_f c, if_pos rfl, ci_f (fun q => c q.1)]; rfl
    unfold qo_X7_citiesAt_4
    rw [n_vv, hY.2.1.1, kn_8, n_mul, i_le (by omega) (by omega), if_neg (by omega)]
    by_cases c : kdp S T w = 1 ∧ labs S T w = w
    · rw [y_touchC hw hwt hY hr hwl c.1 c.2]
      show qb_X7_citiesAt_150 rec (nI r) (nI B) (nI w) (flg (tch S T r w)) M = _
      rw [h150 _ (fun _ => c.1), ci_c (show (tch S T r w ∧ opn S T w = 0) ↔ cty S T r w from ⟨fun g => ⟨c.1, c.2, g.2, g.1⟩, fun g => ⟨g.2.2.2, g.2.2.1⟩⟩)]
    · rw [ci_f (fun g : cty S T r w => c ⟨g.1, g.2.1⟩)]
      obtain ⟨f, hf⟩ : ∃ f, rx_FU = f + 1 := ⟨rx_FU - 1, by have := rx_FUe; omega⟩
      rw [hf]
      show qo_X7_citiesAt_21 (fun a4 M => qb_X7_citiesAt_150 rec (nI r) (nI B) (nI w) a4 M) (nI r) (nI B) (nI w) _ 0 (nI 0) M = _
      have h0 := h150 False (fun h => h.elim)
      rw [flg_f (fun h => h), ci_f (fun h => h.1)] at h0
      unfold qo_X7_citiesAt_21
      rw [n_vv, hY.2.1.1, kn_8, n_mul, i_le (by omega) (by decide), if_neg (by omega), y_kindOfPiece hw hwt hY.1 hY.2.1 hwl, n_cl, i_one (by omega), n_ld (by omega) (by decide), hY.2.2 w (by omega), i_eq (by omega) (by omega)]
      by_cases c1 : kdp S T w = 1
      · rw [if_pos c1, if_neg (fun q => c ⟨c1, q⟩)]
        exact h0
      · rw [if_neg c1]
        exact h0
  · intro rec
    unfold qo_X7_citiesAt_4
    rw [n_vv, hY.2.1.1, kn_8, n_mul, i_le (by omega) (by omega), if_pos (by omega)]
    rfl
theorem y_finalWorth {S : Su} {T : Tl} {M : Me} {r : Nat} (hw : wfS S) (hwt : wfTl S T) (hY : YL M S T) (hr : r < 8 * T.length) : qf_X7_finalWorth (nI r) M = some (nI (fwo S T r), M) := by
  have h24 := hwt.1
  have hk := kdp_le hw hwt hr
  unfold qf_X7_finalWorth fwo
  rw [y_kindOfPiece hw hwt hY.1 hY.2.1 hr, n_cl, i_one (by omega), kn_2, i_eq (by omega) (by decide), kn_4, i_eq (by omega) (by decide), y_tilesOf hwt hY (by omega), n_cl, y_shieldsOf hw hwt hY (by omega), n_cl, n_add, n_cl, kn_8, n_div (by omega) (by decide) (by decide), y_around hwt hY.2.1 (by omega), n_cl, kn_1, n_add, y_citiesAt hw hwt hY (by omega), n_cl, kn_3, n_mul]
  by_cases k1 : kdp S T r = 1
  · rw [if_pos k1, if_pos k1]
  · rw [if_neg k1, if_neg k1]
    by_cases k2 : kdp S T r = 2
    · rw [if_pos k2, if_pos k2]
    · rw [if_neg k2, if_neg k2]
      by_cases k4 : kdp S T r = 4
      · rw [if_pos k4, if_pos k4]
      · rw [if_neg k4, if_neg k4]

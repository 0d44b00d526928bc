/-! The reference pays for a finished region. -/
theorem y_kindOfPiece {S : Su} {T : Tl} {M : Me} (hw : wfS S) (hwt : wfTl S T) (hS : SY M S) (hY : YT M T) {p : Nat} (hp : p < 8 * T.length) : qf_X7_kindOfPiece (nI p) M = some (nI (kdp S T p), M) := by
  have h24 := hwt.1
  have h12 := hw.1
  have ht : p / 8 < T.length := by omega
  have hty := (hwt.2.1 _ ht).1
  have e8 := (hY.2.1 _ ht).2.2.1
  have e2 := (hS.2.2.2.2 (ty T (p / 8)) (p % 8) hty (by omega)).1
  unfold qf_X7_kindOfPiece
  rw [kn_8, n_div (by omega) (by decide) (by decide), n_ld (by omega) (by decide), e8, n_mul, n_mul, n_sub (by omega), nat_rem, n_add, n_ld (by omega) (by decide), e2]
  rfl
theorem y_isFinished {S : Su} {T : Tl} {M : Me} (hw : wfS S) (hwt : wfTl S T) (hY : YL M S T) {r : Nat} (hr : r < 8 * T.length) (hk0 : kdp S T r ≠ 0) : qf_X7_isFinished (nI r) M = some (flg (fin S T r), M) := by
  have h24 := hwt.1
  have hk := kdp_le hw hwt hr
  have ho := opn_le S T r
  have ha := ac_le T (tc T (r / 8))
  unfold qf_X7_isFinished
  rw [y_kindOfPiece hw hwt hY.1 hY.2.1 hr, n_cl, kn_4, i_eq (by omega) (by decide), kn_3, i_eq (by omega) (by decide), kn_8, n_div (by omega) (by decide) (by decide), y_around hwt hY.2.1 (by omega), n_cl, i_eq (by omega) (by decide), y_openOf hw hwt hY (by omega), n_cl, i_z (by omega)]
  unfold fin
  by_cases k4 : kdp S T r = 4
  · rw [if_pos k4]
    by_cases c : ac T (tc T (r / 8)) = 8
    · rw [if_pos c, flg_t (Or.inr ⟨k4, c⟩)]; rfl
    · rw [if_neg c, n_zb0, flg_f (by omega)]
  · rw [if_neg k4]
    by_cases k3 : kdp S T r = 3
    · rw [if_pos k3, n_zb0, flg_f (by omega)]
    · rw [if_neg k3]
      by_cases c : opn S T r = 0
      · rw [if_pos c, flg_t (Or.inl ⟨by omega, c⟩)]; rfl
      · rw [if_neg c, n_zb0, flg_f (by omega)]
def YP (M : Me) (S : Su) (T : Tl) (np : Nat) (z : Pz) : Prop := YL M S T ∧ M 0 8 = nI np ∧ YO M (zO z) ∧ ∀ p, p < 3 → M 12 p = nI (zP z p) ∧ M 13 p = nI (zF z p)
theorem YL_keep {M M2 : Me} {S : Su} {T : Tl} (h : YL M S T) (e : ∀ c i, (1 ≤ c ∧ c ≤ 10) ∨ c = 15 ∨ (c = 0 ∧ (i = 0 ∨ i = 5 ∨ i = 9)) → M2 c i = M c i) : YL M2 S T := ⟨SY_keep h.1 (fun c i hc => e c i (by omega)), YT_keep h.2.1 (fun c i hc => e c i (by omega)), fun x hx => by rw [e 15 x (by omega)]; exact h.2.2 x hx⟩
theorem y_points {S : Su} {T : Tl} {M : Me} {np r W : Nat} {z : Pz} {K : Int32 → Me → Op} (hwt : wfTl S T) (h3 : np ≤ 3) (h : YP M S T np z) (ho : ∀ x p, zO z x = some p → p < 3) (hr : r < 192) (h7 : ∀ p, fl S T (zO z) r p ≤ 192) : ∃ M2, rx_lp2 (qo_X7_score_67 K (nI r) (nI W)) rx_FU 0 0 M = K (nI (sumN (fun p => ci (frst S T (zO z) np r p) * W) np)) M2 ∧ (∀ p, p < 3 → M2 12 p = nI (zP z p + ci (p < np ∧ frst S T (zO z) np r p) * W)) ∧ ∀ c i, c ≠ 12 → M2 c i = M c i := by
  obtain ⟨hY, hn, hO, hP⟩ := h
  have L := lp2_up (b := qo_X7_score_67 K (nI r) (nI W)) (e := np) (K := K) (P := fun i a M2 => a = nI (sumN (fun p => ci (frst S T (zO z) np r p) * W) i) ∧ (∀ p, p < 3 → M2 12 p = nI (zP z p + ci (p < i ∧ frst S T (zO z) np r p) * W)) ∧ ∀ c i, c ≠ 12 → M2 c i = M c i) ?_ ?_ rx_FU 0 0 M (fu_lt (by omega)) (Nat.zero_le _) ⟨rfl, fun p hp => ?_, fun _ _ _ => rfl⟩
  · obtain ⟨a, M2, ⟨p1, p2, p3⟩, L⟩ := L
    exact ⟨M2, by rw [← p1]; exact L, p2, p3⟩
  · intro rec i a M2 hi hPi
    obtain ⟨p1, p2, p3⟩ := hPi
    have hY2 : YL M2 S T := YL_keep hY (fun c i hc => p3 c i (by omega))
    have hO2 : YO M2 (zO z) := fun x hx => by rw [p3 11 x (by decide)]; exact hO x hx
    have hn2 : M2 0 8 = nI np := by rw [p3 0 8 (by decide)]; exact hn
    have hf := y_isFirst hwt hY2 hO2 h3 hn2 ho hr (p := i) (by omega) h7
    have e12 : M2 12 i = nI (zP z i) := by rw [p2 i (by omega), ci_f (fun q => by omega)]; simp
    have h108 : ∀ (a : Int32) (M : Me), qb_X7_score_108 rec (nI r) (nI W) a (nI i) M = rec a (nI (i + 1)) M := by
      intro a M
      unfold qb_X7_score_108
      rw [n_vv, kn_1, n_add]
    by_cases c : frst S T (zO z) np r i
    · refine ⟨a + nI W, rx_st M2 12 i (nI (zP z i + W)), ⟨?_, fun p hp => ?_, fun c k hc => ?_⟩, ?_⟩
      · show _ = nI (sumN (fun p => ci (frst S T (zO z) np r p) * W) i + ci (frst S T (zO z) np r i) * W)
        rw [p1, ci_t c, n_add, Nat.one_mul]
      · rw [st_get]
        by_cases c1 : p = i
        · rw [if_pos ⟨rfl, c1⟩, c1, ci_t ⟨by omega, c⟩, Nat.one_mul]
        · rw [if_neg (fun q => c1 q.2), p2 p hp]
          rw [ci_c (show (p < i ∧ frst S T (zO z) np r p) ↔ (p < i + 1 ∧ frst S T (zO z) np r p) from ⟨fun q => ⟨by omega, q.2⟩, fun q => ⟨by omega, q.2⟩⟩)]
      · rw [st_cell hc]; exact p3 c k hc
      · unfold qo_X7_score_67
        rw [n_vv, hn2, i_le (by omega) (by omega), if_neg (by omega), hf, n_cl, flg_t c, if_neg (by decide), n_ld (by omega) (by decide), e12, n_add, n_sv (by omega) (by decide), n_vv, h108]
    · refine ⟨a, M2, ⟨?_, fun p hp => ?_, p3⟩, ?_⟩
      · show _ = nI (sumN (fun p => ci (frst S T (zO z) np r p) * W) i + ci (frst S T (zO z) np r i) * W)
        rw [p1, ci_f c, Nat.zero_mul]
        rfl
      · rw [p2 p hp]
        rw [ci_c (show (p < i ∧ frst S T (zO z) np r p) ↔ (p < i + 1 ∧ frst S T (zO z) np r p) from ⟨fun q => ⟨by omega, q.2⟩, fun q => ⟨by
          by_cases hpi : p = i
          · subst hpi; exact absurd q.2 c
          · omega, q.2⟩⟩)]
      · unfold qo_X7_score_67
        rw [n_vv, hn2, i_le (by omega) (by omega), if_neg (by omega), hf, n_cl, flg_f c, if_pos rfl, h108]
  · intro rec a M2 hPi
    have hn2 : M2 0 8 = nI np := by rw [hPi.2.2 0 8 (by decide)]; exact hn
    unfold qo_X7_score_67
    rw [n_vv, hn2, i_le (by omega) (by omega), if_pos (by omega)]
  · rw [ci_f (fun q => by omega)]
    simp
    exact (hP p hp).1
theorem y_home {S : Su} {T : Tl} {M : Me} {r : Nat} {w : Int32} {O : Ow} {F : Nat → Nat} (hwt : wfTl S T) (hY : YL M S T) (hO : YO M O) (hF : ∀ p, p < 3 → M 13 p = nI (F p)) (ho : ∀ x p, O x = some p → p < 3) (hr : r < 192) : ∃ M2, qb_X7_score_114 (nI r) w M = some (w, M2) ∧ (∀ x, x < 192 → M2 11 x = dv (if x < 8 * T.length ∧ labs S T x = r then none else O x)) ∧ (∀ p, p < 3 → M2 13 p = nI (F p + fl S T O r p)) ∧ ∀ c i, c ≠ 11 → c ≠ 13 → M2 c i = M c i := by
  have h24 := hwt.1
  have L := lp1_up (b := qo_X7_score_117 (nI r) w) (e := 8 * T.length) (K := fun M => some (w, M)) (P := fun i M2 => (∀ x, x < 192 → M2 11 x = dv (if x < i ∧ labs S T x = r then none else O x)) ∧ (∀ p, p < 3 → M2 13 p = nI (F p + sumN (fun x => if labs S T x = r then f1 O p x else 0) i)) ∧ ∀ c i, c ≠ 11 → c ≠ 13 → M2 c i = M c i) ?_ ?_ rx_FU 0 M (fu_lt (by omega)) (Nat.zero_le _) ⟨fun x hx => by rw [if_neg (by omega)]; exact hO x hx, fun p hp => hF p hp, fun _ _ _ _ => rfl⟩
  · obtain ⟨M2, ⟨p1, p2, p3⟩, L⟩ := L
    exact ⟨M2, L, p1, p2, p3⟩
  · intro rec i M2 hi hP
    obtain ⟨p1, p2, p3⟩ := hP
    have hY2 : YL M2 S T := YL_keep hY (fun c i hc => p3 c i (by omega) (by omega))
    have hl := lab192 (S := S) (T := T) i (by omega)
    have e11 : M2 11 i = dv (O i) := by rw [p1 i (by omega), if_neg (by omega)]
    have h174 : ∀ (M : Me), qb_X7_score_174 rec (nI r) w (nI i) M = rec (nI (i + 1)) M := by
      intro M
      unfold qb_X7_score_174
      rw [n_vv, kn_1, n_add]
    have stay : (labs S T i = r → O i = none) → ((∀ x, x < 192 → M2 11 x = dv (if x < i + 1 ∧ labs S T x = r then none else O x)) ∧ (∀ p, p < 3 → M2 13 p = nI (F p + sumN (fun x => if labs S T x = r then f1 O p x else 0) (i + 1)))) := by
      intro hs
      refine ⟨fun x hx => ?_, fun p hp => ?_⟩
      · rw [p1 x hx]
        by_cases c1 : x = i
        · subst c1
          rw [if_neg (by omega)]
          by_cases c2 : labs S T x = r
          · rw [if_pos ⟨by omega, c2⟩, hs c2]
          · rw [if_neg (fun q => c2 q.2)]
        · by_cases c2 : x < i ∧ labs S T x = r
          · rw [if_pos c2, if_pos ⟨by omega, c2.2⟩]
          · rw [if_neg c2, if_neg (fun q => c2 ⟨by omega, q.2⟩)]
      · rw [p2 p hp]
        show _ = nI (F p + (sumN (fun x => if labs S T x = r then f1 O p x else 0) i + (if labs S T i = r then f1 O p i else 0)))
        have : (if labs S T i = r then f1 O p i else 0) = 0 := by
          by_cases c2 : labs S T i = r
          · rw [if_pos c2]; unfold f1; rw [hs c2, if_neg (fun e => by cases e)]
          · rw [if_neg c2]
        rw [this]
        rfl
    unfold qo_X7_score_117
    rw [n_vv, hY2.2.1.1, kn_8, n_mul, i_le (by omega) (by omega), if_neg (by omega), n_ld (by omega) (by decide), hY2.2.2 i (by omega), i_eq (by omega) (by omega), n_ld (by omega) (by decide), e11, i_dvn (fun j hj => by have := ho i j hj; omega), n_ld (by omega) (by decide), e11, h174]
    by_cases c1 : labs S T i = r
    · rw [if_pos c1]
      cases e : O i with
      | none =>
        rw [if_pos rfl]
        obtain ⟨s1, s2⟩ := stay (fun _ => e)
        exact ⟨M2, ⟨s1, s2, p3⟩, rfl⟩
      | some p =>
        have hp := ho i p e
        rw [if_neg (fun e => by cases e)]
        refine ⟨rx_st (rx_st M2 13 p (M2 13 p + 1)) 11 i (-1), ⟨fun x hx => ?_, fun p2' hp2 => ?_, fun c k c1 c2 => ?_⟩, ?_⟩
        · rw [st_get]
          by_cases cx : x = i
          · rw [if_pos ⟨rfl, cx⟩, if_pos ⟨by omega, by rw [cx]; exact c1⟩]; rfl
          · rw [if_neg (fun q => cx q.2), st_cell (by decide), p1 x hx]
            by_cases c2 : x < i ∧ labs S T x = r
            · rw [if_pos c2, if_pos ⟨by omega, c2.2⟩]
            · rw [if_neg c2, if_neg (fun q => c2 ⟨by omega, q.2⟩)]
        · rw [st_cell (by decide), st_get]
          show _ = nI (F p2' + (sumN (fun x => if labs S T x = r then f1 O p2' x else 0) i + (if labs S T i = r then f1 O p2' i else 0)))
          rw [if_pos c1]
          unfold f1
          rw [e]
          by_cases cp : p2' = p
          · rw [if_pos ⟨rfl, cp⟩, p2 p hp, cp, if_pos rfl, kn_1, n_add]
            rfl
          · rw [if_neg (fun q => cp q.2), p2 p2' hp2, if_neg (fun q => cp (Option.some.inj q).symm)]
            rfl
        · rw [st_cell c1, st_cell c2]; exact p3 c k c1 c2
        · show rx_ld M2 13 3 (nI p) _ = _
          rw [n_ld hp (by decide)]
          show rx_sv M2 13 3 (nI p) (M2 13 p + 1) _ = _
          rw [n_sv hp (by decide), n_sv (by omega) (by decide), h174]
    · rw [if_neg c1]
      obtain ⟨s1, s2⟩ := stay (fun g => absurd g c1)
      exact ⟨M2, ⟨s1, s2, p3⟩, rfl⟩
  · intro rec M2 hP
    have hY2 : YL M2 S T := YL_keep hY (fun c i hc => hP.2.2 c i (by omega) (by omega))
    unfold qo_X7_score_117
    rw [n_vv, hY2.2.1.1, kn_8, n_mul, i_le (by omega) (by omega), if_pos (by omega)]
theorem y_score {S : Su} {T : Tl} {np K B : Nat} {z : Pz} {M : Me} (hw : wfS S) (hwt : wfTl S T) (h3 : np ≤ 3) (h : YP M S T np z) (hz : WZ S T np K B z) {r : Nat} (hr : r < 8 * T.length) (hk0 : kdp S T r ≠ 0) : ∃ g M2, qf_X7_score (nI r) M = some (nI g, M2) ∧ zS (score S T np r z) = zS z + g ∧ YP M2 S T np (score S T np r z) ∧ ∀ c i, ¬ (11 ≤ c ∧ c ≤ 13) → M2 c i = M c i := by
  have h24 := hwt.1
  have ho : ∀ x p, zO z x = some p → p < 3 := fun x p hx => by have := (hz.1 x p hx).2.1; omega
  have h7 : ∀ p, fl S T (zO z) r p ≤ 192 := fun p => by have := fl7 (r := r) (p := p) hz; omega
  have hk := kdp_le hw hwt hr
  obtain ⟨hY, hn, hO, hP⟩ := h
  have key : ∀ W : Nat, W = wor S T r → fin S T r → has S T (zO z) r → ∃ g M2, qb_X7_score_60 (nI r) (nI W) M = some (nI g, M2) ∧ zS (score S T np r z) = zS z + g ∧ YP M2 S T np (score S T np r z) ∧ ∀ c i, ¬ (11 ≤ c ∧ c ≤ 13) → M2 c i = M c i := by
    intro W hW hfin hhas
    obtain ⟨M1, a1, a2, a3⟩ := y_points (K := fun a4 M => qb_X7_score_114 (nI r) a4 M) (W := W) hwt h3 ⟨hY, hn, hO, hP⟩ ho (by omega) h7
    have hY1 : YL M1 S T := YL_keep hY (fun c i hc => a3 c i (by omega))
    have hO1 : YO M1 (zO z) := fun x hx => by rw [a3 11 x (by decide)]; exact hO x hx
    obtain ⟨M2, b1, b2, b3, b4⟩ := y_home (w := nI (sumN (fun p => ci (frst S T (zO z) np r p) * W) np)) (F := zF z) hwt hY1 hO1 (fun p hp => by rw [a3 13 p (by decide)]; exact (hP p hp).2) ho (show r < 192 by omega)
    refine ⟨sumN (fun p => ci (frst S T (zO z) np r p) * W) np, M2, ?_, ?_, ⟨YL_keep hY1 (fun c i hc => b4 c i (by omega) (by omega)), ?_, fun x hx => ?_, fun p hp => ⟨?_, ?_⟩⟩, fun c i hc => ?_⟩
    · unfold qb_X7_score_60
      rw [a1]
      exact b1
    · rw [score_t hfin hhas, hW]
      rfl
    · rw [b4 0 8 (by decide) (by decide), a3 0 8 (by decide)]; exact hn
    · rw [b2 x hx, score_t hfin hhas]
      show _ = dv (if labs S T x = r then none else zO z x)
      by_cases c1 : labs S T x = r
      · have hxl : x < 8 * T.length := by
          by_cases c2 : x < 8 * T.length
          · exact c2
          · have := labs_off hw hwt (x := x) (by omega); omega
        rw [if_pos ⟨hxl, c1⟩, if_pos c1]
      · rw [if_neg (fun q => c1 q.2), if_neg c1]
    · rw [b4 12 p (by decide) (by decide), a2 p hp, score_t hfin hhas, hW]
      rfl
    · rw [b3 p hp, score_t hfin hhas]
      rfl
    · rw [b4 c i (by omega) (by omega), a3 c i (by omega)]
  unfold qf_X7_score
  rw [y_isFinished hw hwt hY hr hk0, n_cl]
  by_cases hfin : fin S T r
  · rw [flg_t hfin, if_neg (by decide), y_hasFollowers hwt hY hO ho (by omega), n_cl]
    by_cases hhas : has S T (zO z) r
    · rw [flg_t hhas, if_neg (by decide), y_kindOfPiece hw hwt hY.1 hY.2.1 hr, n_cl, kn_1, i_eq (by omega) (by decide), kn_2, i_eq (by omega) (by decide), y_tilesOf hwt hY (by omega), n_cl, y_shieldsOf hw hwt hY (by omega), n_cl, n_add, n_mul, n_cl, kn_9]
      by_cases k1 : kdp S T r = 1
      · rw [if_pos k1]
        exact key _ (by unfold wor; rw [if_pos k1]) hfin hhas
      · rw [if_neg k1]
        by_cases k2 : kdp S T r = 2
        · rw [if_pos k2]
          exact key _ (by unfold wor; rw [if_neg k1, if_pos k2]) hfin hhas
        · rw [if_neg k2]
          exact key _ (by unfold wor; rw [if_neg k1, if_neg k2]) hfin hhas
    · rw [flg_f hhas, if_pos rfl, score_f (fun q => hhas q.2)]
      exact ⟨0, M, rfl, rfl, ⟨hY, hn, hO, hP⟩, fun _ _ _ => rfl⟩
  · rw [flg_f hfin, if_pos rfl, score_f (fun q => hfin q.1)]
    exact ⟨0, M, rfl, rfl, ⟨hY, hn, hO, hP⟩, fun _ _ _ => rfl⟩

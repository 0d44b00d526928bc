/-! The class reckons the final points. -/
theorem x_addFinals {S : Su} {T : Tl} {np K B W r : Nat} {z : Pz} {M : Me} {F : Nat → Nat} (h3 : np ≤ 3) (hz : WZ S T np K B z) (hn : M 4 4 = nI np) (hh : has S T (zO z) r) (hF : ∀ p, p < np → M 36 p = nI (F p)) : ∃ M2, qf_X2_addFinals (nI (mnn S T (zO z) r)) (nI W) M = some (0, M2) ∧ (∀ p, p < np → M2 36 p = nI (F p + ci (frst S T (zO z) np r p) * W)) ∧ ∀ c i, c ≠ 36 → M2 c i = M c i := by
  have ho : ∀ x p, zO z x = some p → p < np := fun x p hx => (hz.1 x p hx).2.1
  have a0 := fl7 (r := r) (p := 0) hz
  have a1 := fl7 (r := r) (p := 1) hz
  have a2 := fl7 (r := r) (p := 2) hz
  have em := mnn_fl (S := S) (T := T) (O := zO z) (fun x p hx => by have := ho x p hx; omega) r
  have L := lp1_up (b := qo_X2_addFinals_8 (nI (mnn S T (zO z) r)) (nI W) (nI (max (fl S T (zO z) r 0) (max (fl S T (zO z) r 1) (fl S T (zO z) r 2))))) (e := np) (K := fun M => some ((0 : Int32), M)) (P := fun i M2 => (∀ p, p < np → M2 36 p = nI (F p + (if p < i then ci (frst S T (zO z) np r p) * W else 0))) ∧ ∀ c i, c ≠ 36 → M2 c i = M c i) ?_ ?_ rx_FU 0 M (fu_lt (by omega)) (Nat.zero_le _) ⟨fun p hp => by rw [if_neg (by omega)]; exact hF p hp, fun _ _ _ => rfl⟩
  · obtain ⟨M2, ⟨p1, p2⟩, L⟩ := L
    refine ⟨M2, ?_, fun p hp => by rw [p1 p hp, if_pos hp], p2⟩
    unfold qf_X2_addFinals
    rw [em, x_mostMen (by omega) (by omega) (by omega), n_cl, ← em]
    exact L
  · intro rec i M2 hi hP
    obtain ⟨p1, p2⟩ := hP
    have hmen : qf_X6_menOf (nI (mnn S T (zO z) r)) (nI i) M2 = some (nI (fl S T (zO z) r i), M2) := by
      rw [em, x_menOf (by omega) (by omega) (by omega) (by omega), fl_pick (by omega)]
    have h7i := fl7 (r := r) (p := i) hz
    have hfm := frst_max (S := S) (T := T) (r := r) (p := i) h3 ho hh hi
    have e36 : M2 36 i = nI (F i) := by rw [p1 i hi, if_neg (by omega)]; rfl
    have h38 : ∀ (M : Me), qb_X2_addFinals_38 rec (nI (mnn S T (zO z) r)) (nI W) (nI (max (fl S T (zO z) r 0) (max (fl S T (zO z) r 1) (fl S T (zO z) r 2)))) (nI i) M = rec (nI (i + 1)) M := by
      intro M
      unfold qb_X2_addFinals_38
      rw [n_vv, kn_1, n_add]
    unfold qo_X2_addFinals_8
    rw [n_vv, p2 4 4 (by decide), hn, i_le (by omega) (by omega), if_neg (by omega), hmen, n_cl, i_eq (by omega) (by omega), n_ld (by omega) (by decide), e36, n_add, n_sv (by omega) (by decide), h38, h38]
    by_cases c : frst S T (zO z) np r i
    · rw [if_pos (hfm.mpr c)]
      refine ⟨_, ⟨fun p hp => ?_, fun c k hc => by rw [st_cell hc]; exact p2 c k hc⟩, rfl⟩
      rw [st_get]
      by_cases c1 : p = i
      · rw [if_pos ⟨rfl, c1⟩, if_pos (by omega), c1, ci_t c, Nat.one_mul]
      · rw [if_neg (fun q => c1 q.2), p1 p hp]
        by_cases c2 : p < i
        · rw [if_pos c2, if_pos (by omega)]
        · rw [if_neg c2, if_neg (by omega)]
    · rw [if_neg (fun q => c (hfm.mp q))]
      refine ⟨M2, ⟨fun p hp => ?_, p2⟩, rfl⟩
      rw [p1 p hp]
      by_cases c1 : p = i
      · rw [if_neg (by omega), if_pos (by omega), c1, ci_f c, Nat.zero_mul]
      · by_cases c2 : p < i
        · rw [if_pos c2, if_pos (by omega)]
        · rw [if_neg c2, if_neg (by omega)]
  · intro rec M2 hP
    unfold qo_X2_addFinals_8
    rw [n_vv, hP.2 4 4 (by decide), hn, i_le (by omega) (by omega), if_pos (by omega)]
theorem up_root {M : Me} {N : Nat} {lab sh op mn : Nat → Nat} (h : XR M N lab sh op mn) (hle : ∀ x, lab x ≤ x) {x : Nat} (hx : x < N) (hN : N ≤ 192) {α : Type} {d : Decidable (M 25 x = nI x)} {a b : α} : @ite α (M 25 x = nI x) d a b = if lab x = x then a else b := by
  obtain ⟨v, v1, v2, v3, v4⟩ := h.1 x hx
  by_cases c : lab x = x
  · have hv := hle v
    have e : v = x := by omega
    rw [if_pos c]
    exact if_pos (by rw [v1, e])
  · rw [if_neg c]
    refine if_neg (fun q => ?_)
    rw [v1] at q
    exact c (v4 (n_inj (by omega) (by omega) q))
theorem x_reckon {S : Su} {T : Tl} {np K B n : Nat} {z : Pz} {M : Me} (hw : wfS S) (hwt : wfTl S T) (hm : mat S T) (h3 : np ≤ 3) (h : XP M S T np z) (hz : WZ S T np K B z) (hn : n < 2147482000) (hC : XC M n) : ∃ M2, qf_X2_reckonFinals M = some (0, M2) ∧ (∀ p, p < np → M2 36 p = nI (fins S T (zO z) np (zP z) p)) ∧ XC M2 (n + 192) ∧ ∀ c i, c ≠ 24 → ¬ (c = 2 ∧ i = 11) → c ≠ 36 → M2 c i = M c i := by
  have h24 := hwt.1
  obtain ⟨t1, t2, t3, t4⟩ := h
  have ho : ∀ x p, zO z x = some p → p < np := fun x p hx => (hz.1 x p hx).2.1
  have L1 := lp1_up (b := qo_X2_reckonFinals_2 (fun M => qb_X2_reckonFinals_28 M)) (e := np) (K := fun M => qb_X2_reckonFinals_28 M) (P := fun i M2 => (∀ p, p < i → M2 36 p = nI (zP z p)) ∧ ∀ c i, c ≠ 36 → M2 c i = M c i) ?_ ?_ rx_FU 0 M (fu_lt (by omega)) (Nat.zero_le _) ⟨fun p hp => (by omega), fun _ _ _ => rfl⟩
  · obtain ⟨M1, ⟨p1, p2⟩, L1⟩ := L1
    have L2 := lp1_up (b := qo_X2_reckonFinals_30) (e := 8 * T.length) (K := fun M => some ((0 : Int32), M)) (P := fun i M2 => (∀ p, p < np → M2 36 p = nI (zP z p + sumN (fter S T (zO z) np p) i)) ∧ XC M2 (n + i) ∧ ∀ c i, c ≠ 24 → ¬ (c = 2 ∧ i = 11) → c ≠ 36 → M2 c i = M c i) ?_ ?_ rx_FU 0 M1 (fu_lt (by omega)) (Nat.zero_le _) ⟨p1, hC.keep (fun c i hc => p2 c i (by omega)), fun c i _ _ hc => p2 c i hc⟩
    · obtain ⟨M2, ⟨q1, q2, q3⟩, L2⟩ := L2
      refine ⟨M2, ?_, q1, q2.up (by omega), q3⟩
      have L1 : qf_X2_reckonFinals M = qb_X2_reckonFinals_28 M1 := L1
      rw [L1]
      exact L2
    · intro rec x M2 hx hP
      obtain ⟨q1, q2, q3⟩ := hP
      have hX2 : XTab M2 S T (mw (zO z)) := XTab_eq (J := 0) t1 (fun c i k => (q3 c i (by unfold Kt at k; omega) (by unfold Kt at k; omega) (by unfold Kt at k; omega)).symm)
      have h90 : ∀ (M : Me), qb_X2_reckonFinals_90 rec (nI x) M = rec (nI (x + 1)) M := by
        intro M
        unfold qb_X2_reckonFinals_90
        rw [n_vv, kn_1, n_add]
      have same : ¬ (labs S T x = x ∧ has S T (zO z) x) → ∃ M', ((∀ p, p < np → M' 36 p = nI (zP z p + sumN (fter S T (zO z) np p) (x + 1))) ∧ XC M' (n + (x + 1)) ∧ ∀ c i, c ≠ 24 → ¬ (c = 2 ∧ i = 11) → c ≠ 36 → M' c i = M c i) ∧ rec (nI (x + 1)) M2 = rec (nI (x + 1)) M' := by
        intro hno
        refine ⟨M2, ⟨fun p hp => ?_, q2.up (by omega), q3⟩, rfl⟩
        rw [q1 p hp]
        show _ = nI (zP z p + (sumN (fter S T (zO z) np p) x + fter S T (zO z) np p x))
        have : fter S T (zO z) np p x = 0 := by
          unfold fter
          rw [ci_f (fun g => hno ⟨g.1, g.2.1⟩), Nat.zero_mul]
        rw [this]
        rfl
      unfold qo_X2_reckonFinals_30
      rw [n_vv, hX2.1.2.1, kn_8, n_mul, i_le (by omega) (by omega), if_neg (by omega), n_ld (by omega) (by decide), n_ld (by omega) (by decide), up_root hX2.2.2.1 (labs_le S T) hx (by omega), h90]
      by_cases c1 : labs S T x = x
      · have e29 : M2 29 x = nI (mnn S T (zO z) x) := (hX2.2.2.1.2 x hx c1).2.2.2
        have hm0 := mnn_zero (S := S) (T := T) (r := x) h3 ho
        have hmb : mnn S T (zO z) x < 2147483648 := by
          rw [mnn_fl (fun x p hx => by have := ho x p hx; omega)]
          have a0 := fl7 (r := x) (p := 0) hz
          have a1 := fl7 (r := x) (p := 1) hz
          have a2 := fl7 (r := x) (p := 2) hz
          omega
        rw [e29, i_z hmb, if_pos c1]
        by_cases c2 : mnn S T (zO z) x = 0
        · rw [if_pos c2]
          exact same (fun g => hm0.mp c2 g.2)
        · have hhas : has S T (zO z) x := Classical.byContradiction fun g => c2 (hm0.mpr g)
          obtain ⟨M3, b1, b2, b3⟩ := x_finalWorth hw hwt hm hX2 hx c1 (by omega) q2
          obtain ⟨M4, d1, d2, d3⟩ := x_addFinals (M := M3) (W := fwo S T x) (F := fun p => zP z p + sumN (fter S T (zO z) np p) x) h3 hz (by rw [b3 4 4 (by decide) (by omega), q3 4 4 (by decide) (by omega) (by decide)]; exact t2) hhas (fun p hp => by rw [b3 36 p (by decide) (by omega)]; exact q1 p hp)
          rw [if_neg c2, b1, n_cl, d1, n_cl, h90]
          refine ⟨M4, ⟨fun p hp => ?_, b2.keep (fun c i hc => d3 c i (by omega)), fun c i h1 h2 h3 => by rw [d3 c i h3, b3 c i h1 h2, q3 c i h1 h2 h3]⟩, rfl⟩
          rw [d2 p hp]
          show _ = nI (zP z p + (sumN (fter S T (zO z) np p) x + fter S T (zO z) np p x))
          have : fter S T (zO z) np p x = ci (frst S T (zO z) np x p) * fwo S T x := by
            unfold fter
            rw [ci_c ⟨fun g => g.2.2, fun g => ⟨c1, hhas, g⟩⟩]
          rw [this, Nat.add_assoc]
      · rw [if_neg c1, ite_self]
        exact same (fun g => c1 g.1)
    · intro rec M2 hP
      have e29 : M2 2 9 = nI T.length := by rw [hP.2.2 2 9 (by decide) (by omega) (by decide)]; exact t1.1.2.1
      unfold qo_X2_reckonFinals_30
      rw [n_vv, e29, kn_8, n_mul, i_le (by omega) (by omega), if_pos (by omega)]
  · intro rec i M2 hi hP
    refine ⟨rx_st M2 36 i (nI (zP z i)), ⟨fun p hp => ?_, fun c k hc => by rw [st_cell hc]; exact hP.2 c k hc⟩, ?_⟩
    · by_cases c1 : p = i
      · rw [c1]; exact st_same _ _ _ _
      · rw [st_place c1]; exact hP.1 p (by omega)
    · unfold qo_X2_reckonFinals_2
      rw [n_vv, hP.2 4 4 (by decide), t2, i_le (by omega) (by omega), if_neg (by omega), n_ld (by omega) (by decide), hP.2 34 i (by decide), (t3 i (by omega)).1, n_sv (by omega) (by decide), n_vv, kn_1, n_add]
  · intro rec M2 hP
    unfold qo_X2_reckonFinals_2
    rw [n_vv, hP.2 4 4 (by decide), t2, i_le (by omega) (by omega), if_pos (by omega)]

/-! The class holds a game and all the steps back of it. -/
def XB (S : Su) (np : Nat) : List Mv → Me → Prop
  | [], M => XG M S np (g0 S)
  | m :: ms, M => XG M S np (play S np (m :: ms)) ∧ ∃ Mb, XB S np ms Mb ∧ ∀ M3, EqG S (play S np (m :: ms)) M M3 → ∃ M4, qf_X2_stepBack M3 = some (0, M4) ∧ EqG S (play S np ms) Mb M4 ∧ ∀ c i, Jk c i → M4 c i = M3 c i
theorem XB.now {S : Su} {np : Nat} {ms : List Mv} {M : Me} (h : XB S np ms M) : XG M S np (play S np ms) := by
  cases ms with
  | nil => exact h
  | cons m ms => exact h.1
theorem XB.eq {S : Su} {np : Nat} {ms : List Mv} {M M2 : Me} (h : XB S np ms M) (e : EqG S (play S np ms) M M2) : XB S np ms M2 := by
  cases ms with
  | nil => exact XG_eq (g := g0 S) h e
  | cons m ms =>
    obtain ⟨h1, Mb, h2, h3⟩ := h
    exact ⟨XG_eq h1 e, Mb, h2, fun M3 h4 => h3 M3 (e.tr h4)⟩
theorem XB.back {S : Su} {np : Nat} {m : Mv} {ms : List Mv} {M : Me} (h : XB S np (m :: ms) M) : ∃ M4, qf_X2_stepBack M = some (0, M4) ∧ XB S np ms M4 ∧ ∀ c i, Jk c i → M4 c i = M c i := by
  obtain ⟨h1, Mb, h2, h3⟩ := h
  obtain ⟨M4, a1, a2, a3⟩ := h3 M EqG.rf
  exact ⟨M4, a1, h2.eq a2, a3⟩
theorem XB.junk {S : Su} {np : Nat} {ms : List Mv} {M M2 : Me} (h : XB S np ms M) (e : ∀ c i, ¬ Jk c i → c ≠ 24 → M2 c i = M c i) : XB S np ms M2 := h.eq (fun c i k => (e c i (by unfold Kg Kt at k; unfold Jk; omega) (by unfold Kg Kt at k; omega)).symm)
theorem XB.lay {S : Su} {np : Nat} {ms : List Mv} {M : Me} {k q u : Nat} (hw : wfS S) (h : XB S np ms M) (hG : WG S np (play S np ms)) (hL : gL (play S np ms) = false) (hD : gD (play S np ms) = some k) (hf : fit S (gT (play S np ms)) k q u) (hu : u < 4) : ∃ M2, qf_X2_lay (nI (4 * q + u)) M = some (0, M2) ∧ XB S np ((1, q, u) :: ms) M2 ∧ ∀ c i, Jk c i → M2 c i = M c i := by
  obtain ⟨M2, a1, a2, a3, a4⟩ := x_lay hw hG h.now hL hD hf hu
  exact ⟨M2, a1, ⟨a2, M, h, a4⟩, a3⟩
theorem XB.put {S : Su} {np : Nat} {ms : List Mv} {M : Me} {j : Nat} {w : Int32} (hw : wfS S) (h : XB S np ms M) (hG : WG S np (play S np ms)) (hL : gL (play S np ms) = true) (hj : (j = 0 ∧ w = -1) ∨ ∃ k, j = k + 1 ∧ w = nI k ∧ mayP S (play S np ms) k) : ∃ M2, qf_X2_put w M = some (nI (putS S np (play S np ms) j), M2) ∧ XB S np ((0, j, 0) :: ms) M2 ∧ ∀ c i, Jk c i → M2 c i = M c i := by
  obtain ⟨M2, a1, a2, a3, a4⟩ := x_put hw hG h.now hL hj
  exact ⟨M2, a1, ⟨a2, M, h, a4⟩, a3⟩
/-- how many moves there are -/
theorem leg_len {S : Su} {np : Nat} : ∀ ms, leg S np ms → (gL (play S np ms) = true → ms.length + 1 = 2 * (gT (play S np ms)).length) ∧ (gL (play S np ms) = false → ms.length = 2 * (gT (play S np ms)).length) := by
  intro ms
  induction ms with
  | nil => intro _; exact ⟨fun h => (by cases h), fun _ => rfl⟩
  | cons m ms ih =>
    intro h
    obtain ⟨h1, h2⟩ := h
    obtain ⟨i1, i2⟩ := ih h1
    unfold okM at h2
    by_cases hc : m.1 = 1
    · rw [if_pos hc] at h2
      obtain ⟨hL, k, hD, hf, hu⟩ := h2
      have e : play S np (m :: ms) = layG (play S np ms) m.2.1 m.2.2 := by
        show stepG S np (play S np ms) m = _
        unfold stepG
        rw [if_pos hc]
      have := i2 hL
      rw [e]
      refine ⟨fun _ => ?_, fun h => absurd (show true = false from h) (by decide)⟩
      rw [layG_T hD]
      simp
      omega
    · rw [if_neg hc] at h2
      have e : play S np (m :: ms) = putG S np (play S np ms) m.2.1 := by
        show stepG S np (play S np ms) m = _
        unfold stepG
        rw [if_neg hc]
      rw [e]
      exact ⟨fun h => absurd (show false = true from h) (by decide), fun _ => i1 h2.1⟩
theorem XB.off {S : Su} {np : Nat} : ∀ (ms : List Mv) (M : Me), XB S np ms M → ms.length < 2147483648 → ∀ (f : Nat) (K : Me → Op), ms.length < f → ∃ M2, rx_lp1 (qo_X2_end_5 K) f (nI ms.length) M = K M2 ∧ XG M2 S np (g0 S) ∧ ∀ c i, Jk c i → M2 c i = M c i := by
  intro ms
  induction ms with
  | nil =>
    intro M h _ f K hf
    obtain ⟨f2, rfl⟩ : ∃ f2, f = f2 + 1 := ⟨f - 1, by have : 0 < f := hf; omega⟩
    refine ⟨M, ?_, h, fun _ _ _ => rfl⟩
    show qo_X2_end_5 K (rx_lp1 (qo_X2_end_5 K) f2) (nI 0) M = _
    generalize rx_lp1 (qo_X2_end_5 K) f2 = rec
    unfold qo_X2_end_5
    rw [i_le0 (by decide), if_pos rfl]
  | cons m ms ih =>
    intro M h hl f K hf
    have hl : ms.length + 1 < 2147483648 := hl
    have hf : ms.length + 1 < f := hf
    obtain ⟨f2, rfl⟩ : ∃ f2, f = f2 + 1 := ⟨f - 1, by omega⟩
    obtain ⟨M4, a1, a2, a3⟩ := h.back
    obtain ⟨M2, b1, b2, b3⟩ := ih M4 a2 (by omega) f2 K (by omega)
    refine ⟨M2, ?_, b2, fun c i hc => by rw [b3 c i hc, a3 c i hc]⟩
    rw [← b1]
    show qo_X2_end_5 K (rx_lp1 (qo_X2_end_5 K) f2) (nI (ms.length + 1)) M = _
    generalize rx_lp1 (qo_X2_end_5 K) f2 = rec
    unfold qo_X2_end_5
    rw [i_le0 (by omega), if_neg (by omega), a1, n_cl, n_vv, pk_m1]
/-! no game is on -/
def XO (M : Me) (S : Su) : Prop := XTab M S [] (fun _ => 0) ∧ M 3 10 = 0 ∧ M 4 2 = 0 ∧ M 4 3 = 0 ∧ M 4 6 = -1 ∧ M 4 7 = 0 ∧ M 4 8 = 0
def XE (M : Me) (S : Su) : Prop := XTab M S [] (fun _ => 0) ∧ M 3 10 = 0 ∧ M 4 2 = 0 ∧ M 4 3 = 0 ∧ M 4 5 = 0 ∧ M 4 6 = -1 ∧ M 4 7 = 0 ∧ M 4 8 = 0 ∧ ∀ p, p < 3 → M 34 p = 0 ∧ M 35 p = 7
theorem XE.off {M : Me} {S : Su} (h : XE M S) : XO M S := ⟨h.1, h.2.1, h.2.2.1, h.2.2.2.1, h.2.2.2.2.2.1, h.2.2.2.2.2.2.1, h.2.2.2.2.2.2.2.1⟩
theorem x_fill34 {v : Int32} {M : Me} : ∃ M2, qf_J7_fill_34_X v M = some (0, M2) ∧ (∀ p, p < 3 → M2 34 p = v) ∧ ∀ c i, c ≠ 34 → M2 c i = M c i := by
  have L := lp1_up (b := qo_J7_fill_34_X_5 v (nI 3)) (e := 3) (K := fun M => some ((0 : Int32), M)) (P := fun i M2 => (∀ p, p < i → M2 34 p = v) ∧ ∀ c i, c ≠ 34 → M2 c i = M c i) ?_ ?_ rx_FU 0 M (fu_lt (by decide)) (by decide) ⟨fun p hp => (by omega), fun _ _ _ => rfl⟩
  · obtain ⟨M2, ⟨p1, p2⟩, L⟩ := L
    exact ⟨M2, L, p1, p2⟩
  · intro rec i M2 hi hP
    refine ⟨rx_st M2 34 i v, ⟨fun p hp => ?_, fun c k hc => ?_⟩, ?_⟩
    · by_cases hpi : p = i
      · subst hpi; exact st_same _ _ _ _
      · rw [st_place hpi]; exact hP.1 p (by omega)
    · rw [st_cell hc]; exact hP.2 c k hc
    · unfold qo_J7_fill_34_X_5
      rw [i_le (by decide) (by omega), if_neg (by omega), n_sv hi (by decide), n_vv, kn_1, n_add]
  · intro rec M2 _
    unfold qo_J7_fill_34_X_5
    rw [i_le (by decide) (by decide), if_pos (by decide)]
theorem x_fill35 {v : Int32} {M : Me} : ∃ M2, qf_J7_fill_35_X v M = some (0, M2) ∧ (∀ p, p < 3 → M2 35 p = v) ∧ ∀ c i, c ≠ 35 → M2 c i = M c i := by
  have L := lp1_up (b := qo_J7_fill_35_X_5 v (nI 3)) (e := 3) (K := fun M => some ((0 : Int32), M)) (P := fun i M2 => (∀ p, p < i → M2 35 p = v) ∧ ∀ c i, c ≠ 35 → M2 c i = M c i) ?_ ?_ rx_FU 0 M (fu_lt (by decide)) (by decide) ⟨fun p hp => (by omega), fun _ _ _ => rfl⟩
  · obtain ⟨M2, ⟨p1, p2⟩, L⟩ := L
    exact ⟨M2, L, p1, p2⟩
  · intro rec i M2 hi hP
    refine ⟨rx_st M2 35 i v, ⟨fun p hp => ?_, fun c k hc => ?_⟩, ?_⟩
    · by_cases hpi : p = i
      · subst hpi; exact st_same _ _ _ _
      · rw [st_place hpi]; exact hP.1 p (by omega)
    · rw [st_cell hc]; exact hP.2 c k hc
    · unfold qo_J7_fill_35_X_5
      rw [i_le (by decide) (by omega), if_neg (by omega), n_sv hi (by decide), n_vv, kn_1, n_add]
  · intro rec M2 _
    unfold qo_J7_fill_35_X_5
    rw [i_le (by decide) (by decide), if_pos (by decide)]
/-- a game, or none -/
def XA (M : Me) (S : Su) : Prop := XO M S ∨ ∃ np ms, (2 ≤ np ∧ np ≤ 3) ∧ leg S np ms ∧ XB S np ms M
theorem x_end19 {M : Me} {S : Su} (h : XTab M S [] (fun _ => 0)) (h10 : M 3 10 = 0) (h3 : M 4 3 = 0) : ∃ M2, qb_X2_end_19 M = some (0, M2) ∧ XE M2 S ∧ ∀ c i, Jk c i → M2 c i = M c i := by
  let N : Me := rx_st (rx_st (rx_st (rx_st (rx_st M 4 2 0) 4 6 (-1)) 4 5 0) 4 7 0) 4 8 0
  have en : ∀ c i, c ≠ 4 → N c i = M c i := fun c i h => by show rx_st _ _ _ _ c i = _; rw [st_cell h, st_cell h, st_cell h, st_cell h, st_cell h]
  have e4 : ∀ i, N 4 i = if i = 8 then 0 else if i = 7 then 0 else if i = 5 then 0 else if i = 6 then -1 else if i = 2 then 0 else M 4 i := by
    intro i
    show rx_st _ _ _ _ 4 i = _
    simp only [st_get, true_and]
  obtain ⟨N2, a1, a2, a3⟩ := x_fill34 (v := 0) (M := N)
  obtain ⟨N3, b1, b2, b3⟩ := x_fill35 (v := 7) (M := N2)
  have f4 : ∀ i, N3 4 i = N 4 i := fun i => by rw [b3 4 i (by decide), a3 4 i (by decide)]
  refine ⟨N3, ?_, ⟨?_, ?_, ?_, ?_, ?_, ?_, ?_, ?_, fun p hp => ⟨?_, b2 p hp⟩⟩, fun c i hc => ?_⟩
  · unfold qb_X2_end_19
    rw [n_vv, n_vv, n_vv, n_vv, n_vv, a1, n_cl, b1, n_cl]
  · exact XTab_keep h (fun c i hc => by rw [b3 c i (by omega), a3 c i (by omega), en c i (by omega)])
  · rw [b3 3 10 (by decide), a3 3 10 (by decide), en 3 10 (by decide)]; exact h10
  · rw [f4, e4]; rfl
  · rw [f4, e4]; exact h3
  · rw [f4, e4]; rfl
  · rw [f4, e4]; rfl
  · rw [f4, e4]; rfl
  · rw [f4, e4]; rfl
  · rw [b3 34 p (by decide)]; exact a2 p hp
  · rw [b3 c i (by unfold Jk at hc; omega), a3 c i (by unfold Jk at hc; omega), en c i (by unfold Jk at hc; omega)]
theorem x_steps {S : Su} {np : Nat} {ms : List Mv} {M : Me} (hw : wfS S) (h2 : 2 ≤ np ∧ np ≤ 3) (hl : leg S np ms) (h : XB S np ms M) : qf_X2_steps M = some (nI ms.length, M) ∧ ms.length ≤ 48 := by
  have hG := leg_WG hw h2.1 h2.2 ms hl
  have h24 := hG.2.1.1
  obtain ⟨l1, l2⟩ := leg_len ms hl
  obtain ⟨hXP, -, g3, -⟩ := h.now
  unfold qf_X2_steps
  rw [n_vv, g3]
  cases e : gL (play S np ms) with
  | true =>
    have := l1 e
    rw [if_pos rfl, if_neg (by decide), n_vv, hXP.1.1.2.1, kn_2, n_mul, kn_1, n_sub (by omega)]
    exact ⟨by congr 3; omega, by omega⟩
  | false =>
    have := l2 e
    rw [if_neg (show ¬ (false = true) by decide), if_pos rfl, n_vv, hXP.1.1.2.1, kn_2, n_mul]
    exact ⟨by congr 3; omega, by omega⟩
theorem x_end {M : Me} {S : Su} (hw : wfS S) (h : XA M S) : ∃ M2, qf_X2_end M = some (0, M2) ∧ XE M2 S ∧ ∀ c i, Jk c i → M2 c i = M c i := by
  unfold qf_X2_end
  rcases h with ⟨h1, h2, h3, h4, -⟩ | ⟨np, ms, hnp, hl, hB⟩
  · obtain ⟨M2, a1, a2, a3⟩ := x_end19 h1 h2 h4
    refine ⟨M2, ?_, a2, a3⟩
    have hs : qf_X2_steps M = some (nI 0, M) := by
      unfold qf_X2_steps
      rw [n_vv, h4, if_pos rfl, n_vv, h1.1.2.1, kn_2, n_mul]
      rfl
    obtain ⟨f, hf⟩ : ∃ f, rx_FU = f + 1 := ⟨rx_FU - 1, by have := rx_FUe; omega⟩
    rw [hs, n_cl, hf, ← a1]
    show qo_X2_end_5 (fun M => qb_X2_end_19 M) _ (nI 0) M = _
    unfold qo_X2_end_5
    rw [i_le0 (by decide), if_pos rfl]
  · obtain ⟨s1, s2⟩ := x_steps hw hnp hl hB
    obtain ⟨N, a1, a2, a3⟩ := hB.off _ _ (by omega) rx_FU (fun M => qb_X2_end_19 M) (fu_lt (by omega))
    obtain ⟨⟨t1, t2, t3, t4⟩, g2, g3, -⟩ := a2
    obtain ⟨M2, b1, b2, b3⟩ := x_end19 (S := S) t1 t4 g3
    refine ⟨M2, ?_, b2, fun c i hc => by rw [b3 c i hc, a3 c i hc]⟩
    rw [s1, n_cl, a1]
    exact b1
theorem x_begin {M : Me} {S : Su} {np : Nat} (hw : wfS S) (h2 : 2 ≤ np ∧ np ≤ 3) (h : XA M S) : ∃ M2, qf_X2_begin (nI np) M = some (0, M2) ∧ XB S np [] M2 ∧ ∀ c i, Jk c i → M2 c i = M c i := by
  obtain ⟨N, a1, ⟨t1, t2, t3, t4, t5, t6, t7, t8, t9⟩, a3⟩ := x_end hw h
  let N2 : Me := rx_st (rx_st N 4 2 1) 4 4 (nI np)
  have en : ∀ c i, c ≠ 4 → N2 c i = N c i := fun c i h => by show rx_st _ _ _ _ c i = _; rw [st_cell h, st_cell h]
  have e4 : ∀ i, i ≠ 2 → i ≠ 4 → N2 4 i = N 4 i := fun i h1 h2 => by show rx_st _ _ _ _ 4 i = _; rw [st_place h2, st_place h1]
  have hT : XTab N2 S [] (fun _ => 0) := XTab_keep t1 (fun c i hc => en c i (by omega))
  obtain ⟨M2, d1, d2, d3, d4, d5⟩ := x_drawNext (x := 0) (a := 0) hw (wf_nil S) (fun h => absurd rfl h) hT (Nat.zero_le _) (by rw [e4 6 (by decide) (by decide)]; exact t6) (by rw [e4 7 (by decide) (by decide)]; exact t7) (by rw [e4 8 (by decide) (by decide)]; exact t8)
  refine ⟨M2, ?_, ⟨⟨?_, ?_, fun p hp => ⟨?_, ?_⟩, ?_⟩, ?_, ?_, ?_, ?_, ?_, ?_⟩, fun c i hc => ?_⟩
  · unfold qf_X2_begin
    rw [a1, n_cl, n_vv, n_vv]
    show rx_cl (qf_X2_drawNext N2) _ = _
    rw [d1, n_cl]
  · exact XTab_keep hT (fun c i hc => d5 c i (by omega))
  · rw [d5 4 4 (by omega)]; exact st_same _ _ _ _
  · rw [d5 34 p (by omega), en 34 p (by decide)]; exact (t9 p hp).1
  · rw [d5 35 p (by omega), en 35 p (by decide)]; exact (t9 p hp).2
  · rw [d5 3 10 (by omega), en 3 10 (by decide)]; exact t2
  · rw [d5 4 2 (by omega)]; show rx_st _ _ _ _ 4 2 = _; rw [st_place (by decide), st_same]
  · rw [d5 4 3 (by omega), e4 3 (by decide) (by decide)]; exact t4
  · rw [d5 4 5 (by omega), e4 5 (by decide) (by decide)]; exact t5
  · exact d2
  · exact d3
  · exact d4
  · rw [d5 c i (by unfold Jk at hc; omega), en c i (by unfold Jk at hc; omega), a3 c i hc]

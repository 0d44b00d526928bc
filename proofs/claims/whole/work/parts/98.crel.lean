/-! The relation of the two memories. -/
def FB (MX MY : Me) : Prop := (MX 5 3 = -1 ∧ MY 0 31 = 0) ∨ ∃ b, b < 15876 ∧ MX 5 3 = nI (b / 9) ∧ MX 5 4 = pv (b % 9) ∧ LY0 MY 19 b ∧ MY 0 31 = 1
def OFF (S : Su) (MX MY : Me) : Prop := XO MX S ∧ MY 0 7 = 0
def ONN (S : Su) (MX MY : Me) : Prop := ∃ np ms, (2 ≤ np ∧ np ≤ 3) ∧ leg S np ms ∧ XB S np ms MX ∧ RY MY S np (play S np ms) ∧ MY 0 23 = nI ms.length ∧ SA MY ms
def RR (i : Nat) (MX MY : Me) : Prop := ∃ S, wfS S ∧ SY MY S ∧ XC MX (82400 * i) ∧ FB MX MY ∧ (OFF S MX MY ∨ ONN S MX MY)
theorem RR_up {i : Nat} {MX MY : Me} (h : RR i MX MY) : RR (i + 7) MX MY := by
  obtain ⟨S, h1, h2, h3, h4⟩ := h
  exact ⟨S, h1, h2, h3.up (by omega), h4⟩
theorem FB_keep {MX MY MX2 MY2 : Me} (h : FB MX MY) (e1 : ∀ i, MX2 5 i = MX 5 i) (e2 : ∀ i, MY2 19 i = MY 19 i) (e3 : MY2 0 31 = MY 0 31) : FB MX2 MY2 := by
  rcases h with ⟨a, b⟩ | ⟨b, h1, h2, h3, h4, h5⟩
  · exact Or.inl ⟨by rw [e1]; exact a, by rw [e3]; exact b⟩
  · refine Or.inr ⟨b, h1, by rw [e1]; exact h2, by rw [e1]; exact h3, ?_, by rw [e3]; exact h5⟩
    unfold LY0 at *
    rw [e2, e2, e2, e2]
    exact h4
/-- nobody changes anything -/
theorem RR_same {i : Nat} {MX MY : Me} {r : Int32} {fX fY : Me → Op} (h : RR i MX MY) (h1 : fX MX = some (r, MX)) (h2 : fY MY = some (r, MY)) : ∃ r MX1 MY1, fX MX = some (r, MX1) ∧ fY MY = some (r, MY1) ∧ RR (i + 7) MX1 MY1 := ⟨r, MX, MY, h1, h2, RR_up h⟩
theorem on_X {S : Su} {MX MY : Me} (h : ONN S MX MY) : MX 4 2 = 1 ∧ MY 0 7 = 1 ∧ SX MX S ∧ SY MY S := by
  obtain ⟨np, ms, -, -, hB, hR, -⟩ := h
  exact ⟨hB.now.2.1, hR.2.2.1, hB.now.1.1.1.1, hR.1⟩
theorem off_X {S : Su} {MX MY : Me} (h : OFF S MX MY) : MX 4 2 = 0 ∧ MY 0 7 = 0 ∧ SX MX S := ⟨h.1.2.2.1, h.2, h.1.1.1.1⟩
theorem i32_nat {a : Int32} (h : ¬ a < 0) : ∃ t, t < 2147483648 ∧ a = nI t := by
  have h1 : ¬ a.toInt < 0 := fun q => h (Int32.lt_iff_toInt_lt.mpr (by rw [show (0 : Int32).toInt = 0 from rfl]; exact q))
  have h2 := Int32.toInt_lt a
  refine ⟨a.toInt.toNat, by omega, ?_⟩
  apply Int32.toInt_inj.mp
  rw [nI_toInt (by omega)]
  omega
theorem XTab_nil {M : Me} {S S2 : Su} (h : XTab M S [] (fun _ => 0)) (hS : SX M S2) : XTab M S2 [] (fun _ => 0) := ⟨⟨hS, h.1.2⟩, h.2.1, ⟨fun p hp => (by have : p < 0 := hp; omega), fun r hr => (by have : r < 0 := hr; omega)⟩, h.2.2.2⟩
/-! types and list -/
theorem st_type (a b c : Int64) : rl_step RR (fun M => qf_X6_type a b c M) (fun M => qf_X7_type a b c M) := by
  intro i MX MY hi hR
  have hR0 := hR
  obtain ⟨S, hw, hSY, hC, hF, hon⟩ := hR
  show ∃ r MX1 MY1, qf_X6_type a b c MX = some (r, MX1) ∧ qf_X7_type a b c MY = some (r, MY1) ∧ _
  by_cases hT : isT a b c
  · have hSX : SX MX S := by
      rcases hon with h | h
      · exact (off_X h).2.2
      · exact (on_X h).2.2.1
    have h12 := hw.1
    unfold qf_X6_type qf_X7_type
    rw [(x_isType a b c MX).1 hT, n_cl, (y_isType a b c MY).1 hT, n_cl]
    simp only [n_vv, hSX.1, hSY.1]
    rw [if_neg (show ¬ ((1 : Int32) = 0) by decide), if_neg (show ¬ ((1 : Int32) = 0) by decide), kn_12, i_lt (by omega) (by decide), i_eq (by omega) (by decide)]
    rcases hon with h | h
    · obtain ⟨o1, o2, o3⟩ := off_X h
      rw [o1, if_pos rfl, o2, if_pos rfl]
      by_cases hful : sN S < 12
      · obtain ⟨M2, a1, a2, a3⟩ := x_addType hw hful hT hSX
        obtain ⟨M3, b1', b2, b3⟩ := y_addType hw hful hT hSY
        rw [if_pos hful, a1, n_cl, if_neg (by omega)]
        refine ⟨nI (sN S), M2, M3, rfl, b1', adT S a b c, adT_wf hw hful hT, b2, (hC.keep (fun d j hd => a3 d j (by omega) (by omega))).up (by omega), FB_keep hF (fun j => a3 5 j (by omega) (by omega)) (fun j => b3 19 j (by omega) (by omega)) (b3 0 31 (by omega) (by omega)), Or.inl ⟨⟨?_, ?_, ?_, ?_, ?_, ?_, ?_⟩, ?_⟩⟩
        · refine ⟨⟨a2, ?_, fun t ht => (by cases ht), fun q hq => ?_, trivial⟩, ⟨fun q hq => ?_, fun q hq => ?_⟩, ⟨fun p hp => (by have : p < 0 := hp; omega), fun r hr => (by have : r < 0 := hr; omega)⟩, ?_⟩
          · rw [a3 2 9 (by omega) (by omega)]; exact h.1.1.1.2.1
          · rw [a3 17 q (by omega) (by omega)]; exact h.1.1.1.2.2.2.1 q hq
          · rw [a3 18 q (by omega) (by omega)]; exact h.1.1.2.1.1 q hq
          · rw [a3 19 q (by omega) (by omega)]; exact h.1.1.2.1.2 q hq
          · rw [a3 3 7 (by omega) (by omega)]; exact h.1.1.2.2.2
        · rw [a3 3 10 (by omega) (by omega)]; exact h.1.2.1
        · rw [a3 4 2 (by omega) (by omega)]; exact h.1.2.2.1
        · rw [a3 4 3 (by omega) (by omega)]; exact h.1.2.2.2.1
        · rw [a3 4 6 (by omega) (by omega)]; exact h.1.2.2.2.2.1
        · rw [a3 4 7 (by omega) (by omega)]; exact h.1.2.2.2.2.2.1
        · rw [a3 4 8 (by omega) (by omega)]; exact h.1.2.2.2.2.2.2
        · rw [b3 0 7 (by omega) (by omega)]; exact o2
      · rw [if_neg hful, if_pos (by omega)]
        exact ⟨-3, MX, MY, rfl, rfl, RR_up hR0⟩
    · obtain ⟨o1, o2, o3, o4⟩ := on_X h
      rw [o1, if_neg (show ¬ ((1 : Int32) = 0) by decide), o2, if_neg (show ¬ ((1 : Int32) = 0) by decide), ite_self]
      exact ⟨-3, MX, MY, rfl, rfl, RR_up hR0⟩
  · refine RR_same (r := -2) hR0 ?_ ?_
    · unfold qf_X6_type
      rw [(x_isType a b c MX).2 hT, n_cl, if_pos rfl]
    · unfold qf_X7_type
      rw [(y_isType a b c MY).2 hT, n_cl, if_pos rfl]
theorem st_draw (a : Int32) : rl_step RR (fun M => qf_X6_draw a M) (fun M => qf_X7_draw a M) := by
  intro i MX MY hi hR
  have hR0 := hR
  obtain ⟨S, hw, hSY, hC, hF, hon⟩ := hR
  show ∃ r MX1 MY1, qf_X6_draw a MX = some (r, MX1) ∧ qf_X7_draw a MY = some (r, MY1) ∧ _
  have hSX : SX MX S := by
    rcases hon with h | h
    · exact (off_X h).2.2
    · exact (on_X h).2.2.1
  have h12 := hw.1
  have h24 := hw.2.1
  unfold qf_X6_draw qf_X7_draw
  by_cases hneg : a < 0
  · rw [if_pos hneg, if_pos hneg]
    exact ⟨-2, MX, MY, rfl, rfl, RR_up hR0⟩
  · obtain ⟨t, ht, rfl⟩ := i32_nat hneg
    rw [if_neg hneg, if_neg hneg]
    simp only [n_vv, hSX.1, hSX.2.1, hSY.1, hSY.2.1]
    rw [kn_24, i_lt ht (by omega), i_lt (by omega) (by decide), i_lt ht (by omega), i_eq (by omega) (by decide)]
    by_cases htn : t < sN S
    · rw [if_pos htn, if_pos htn]
      rcases hon with h | h
      · obtain ⟨o1, o2, o3⟩ := off_X h
        rw [o1, if_pos rfl, o2, if_pos rfl]
        by_cases hful : (sL S).length < 24
        · obtain ⟨M2, a1, a2, a3⟩ := x_addList (t := t) hful hSX
          obtain ⟨M3, b1', b2, b3⟩ := y_addList (t := t) hful hSY
          simp only [n_vv, hSY.2.1] at b1'
          rw [if_pos hful, a1, n_cl, if_neg (by omega)]
          refine ⟨nI ((sL S).length + 1), M2, M3, rfl, b1', adL S t, adL_wf hw hful htn, b2, (hC.keep (fun d j hd => a3 d j (by omega) (by omega))).up (by omega), FB_keep hF (fun j => a3 5 j (by omega) (by omega)) (fun j => b3 19 j (by omega) (by omega)) (b3 0 31 (by omega) (by omega)), Or.inl ⟨⟨?_, ?_, ?_, ?_, ?_, ?_, ?_⟩, ?_⟩⟩
          · refine ⟨⟨a2, ?_, fun t ht => (by cases ht), fun q hq => ?_, trivial⟩, ⟨fun q hq => ?_, fun q hq => ?_⟩, ⟨fun p hp => (by have : p < 0 := hp; omega), fun r hr => (by have : r < 0 := hr; omega)⟩, ?_⟩
            · rw [a3 2 9 (by omega) (by omega)]; exact h.1.1.1.2.1
            · rw [a3 17 q (by omega) (by omega)]; exact h.1.1.1.2.2.2.1 q hq
            · rw [a3 18 q (by omega) (by omega)]; exact h.1.1.2.1.1 q hq
            · rw [a3 19 q (by omega) (by omega)]; exact h.1.1.2.1.2 q hq
            · rw [a3 3 7 (by omega) (by omega)]; exact h.1.1.2.2.2
          · rw [a3 3 10 (by omega) (by omega)]; exact h.1.2.1
          · rw [a3 4 2 (by omega) (by omega)]; exact h.1.2.2.1
          · rw [a3 4 3 (by omega) (by omega)]; exact h.1.2.2.2.1
          · rw [a3 4 6 (by omega) (by omega)]; exact h.1.2.2.2.2.1
          · rw [a3 4 7 (by omega) (by omega)]; exact h.1.2.2.2.2.2.1
          · rw [a3 4 8 (by omega) (by omega)]; exact h.1.2.2.2.2.2.2
          · rw [b3 0 7 (by omega) (by omega)]; exact o2
        · rw [if_neg hful, if_pos (by omega)]
          exact ⟨-3, MX, MY, rfl, rfl, RR_up hR0⟩
      · obtain ⟨o1, o2, o3, o4⟩ := on_X h
        rw [o1, if_neg (show ¬ ((1 : Int32) = 0) by decide), o2, if_neg (show ¬ ((1 : Int32) = 0) by decide), ite_self]
        exact ⟨-3, MX, MY, rfl, rfl, RR_up hR0⟩
    · rw [if_neg htn, if_neg htn]
      exact ⟨-2, MX, MY, rfl, rfl, RR_up hR0⟩
/-! start and clear -/
theorem XA_of {S : Su} {MX MY : Me} (h : OFF S MX MY ∨ ONN S MX MY) : XA MX S := by
  rcases h with h | ⟨np, ms, h1, h2, h3, -⟩
  · exact Or.inl h.1
  · exact Or.inr ⟨np, ms, h1, h2, h3⟩
theorem XA_fg {M : Me} {S : Su} {v : Int32} (h : XA M S) : XA (rx_st M 5 3 v) S := by
  rcases h with ⟨h1, h2, h3, h4, h5, h6, h7⟩ | ⟨np, ms, h1, h2, h3⟩
  · refine Or.inl ⟨XTab_keep h1 (fun c i hc => st_cell (by omega)), ?_, ?_, ?_, ?_, ?_, ?_⟩
    · rw [st_cell (by decide)]; exact h2
    · rw [st_cell (by decide)]; exact h3
    · rw [st_cell (by decide)]; exact h4
    · rw [st_cell (by decide)]; exact h5
    · rw [st_cell (by decide)]; exact h6
    · rw [st_cell (by decide)]; exact h7
  · exact Or.inr ⟨np, ms, h1, h2, h3.eq (fun c i kg => (st_cell (by unfold Kg Kt at kg; omega)).symm)⟩
theorem st_start (a : Int32) : rl_step RR (fun M => qf_X6_start a M) (fun M => qf_X7_start a M) := by
  intro i MX MY hi hR
  have hR0 := hR
  obtain ⟨S, hw, hSY, hC, hF, hon⟩ := hR
  show ∃ r MX1 MY1, qf_X6_start a MX = some (r, MX1) ∧ qf_X7_start a MY = some (r, MY1) ∧ _
  have hSX : SX MX S := by
    rcases hon with h | h
    · exact (off_X h).2.2
    · exact (on_X h).2.2.1
  have h24 := hw.2.1
  unfold qf_X6_start qf_X7_start
  by_cases c1 : a < 2
  · rw [if_pos c1, if_pos c1]
    exact ⟨0, MX, MY, rfl, rfl, RR_up hR0⟩
  · rw [if_neg c1, if_neg c1]
    by_cases c2 : 3 < a
    · rw [if_pos c2, if_pos c2]
      exact ⟨0, MX, MY, rfl, rfl, RR_up hR0⟩
    · rw [if_neg c2, if_neg c2, n_vv, hSX.2.1, i_z (by omega), n_vv, hSY.2.1, i_z (by omega)]
      by_cases c3 : (sL S).length = 0
      · rw [if_pos c3, if_pos c3]
        exact ⟨0, MX, MY, rfl, rfl, RR_up hR0⟩
      · rw [if_neg c3, if_neg c3]
        obtain ⟨np, hnp, rfl⟩ : ∃ np, (2 ≤ np ∧ np ≤ 3) ∧ a = nI np := by
          have h0 : ¬ a < 0 := fun q => c1 (Int32.lt_trans q (by decide))
          obtain ⟨t, ht, rfl⟩ := i32_nat h0
          refine ⟨t, ⟨?_, ?_⟩, rfl⟩
          · by_cases q : t < 2
            · exact absurd (show nI t < nI 2 by rw [n_lt ht (by decide)]; exact q) c1
            · omega
          · by_cases q : 3 < t
            · exact absurd (show nI 3 < nI t by rw [n_lt (by decide) ht]; exact q) c2
            · omega
        obtain ⟨M2, a1, a2, a3⟩ := x_begin hw hnp (XA_fg (v := -1) (XA_of hon))
        obtain ⟨N, hN⟩ : ∃ N, N = rx_st (rx_st (rx_st (rx_st MY 0 7 1) 0 8 (nI np)) 0 23 0) 0 31 0 := ⟨_, rfl⟩
        have eN : ∀ d j, N d j = if d = 0 ∧ j = 31 then 0 else if d = 0 ∧ j = 23 then 0 else if d = 0 ∧ j = 8 then nI np else if d = 0 ∧ j = 7 then 1 else MY d j := by
          intro d j
          rw [hN]
          simp only [st_get]
        have offN : ∀ d j, ¬ (d = 0 ∧ (j = 31 ∨ j = 23 ∨ j = 8 ∨ j = 7)) → N d j = MY d j := fun d j h => by rw [eN, if_neg (by omega), if_neg (by omega), if_neg (by omega), if_neg (by omega)]
        have hSN : SY N S := SY_keep hSY (fun d j hd => offN d j (by omega))
        obtain ⟨M3, b1', b2, b3⟩ := y_begin hw hSN (by rw [eN, if_neg (by omega), if_neg (by omega), if_neg (by omega), if_pos ⟨rfl, rfl⟩]) (by rw [eN, if_neg (by omega), if_neg (by omega), if_pos ⟨rfl, rfl⟩])
        refine ⟨1, M2, M3, ?_, ?_, S, hw, b2.1, (hC.keep (fun d j hd => by rw [a3 d j (by unfold Jk; omega), st_cell (by omega)])).up (by omega), Or.inl ⟨?_, ?_⟩, Or.inr ⟨np, [], hnp, trivial, a2, b2, ?_, trivial⟩⟩
        · unfold qf_X4_forget
          rw [n_vv, n_cl, a1, n_cl]
          rfl
        · rw [n_vv, n_vv, n_vv, n_vv, ← hN, b1', n_cl]
          rfl
        · rw [a3 5 3 (by unfold Jk; omega)]; exact st_same _ _ _ _
        · rw [b3 0 31 (by unfold Ky; omega), eN, if_pos ⟨rfl, rfl⟩]
        · rw [b3 0 23 (by unfold Ky; omega), eN, if_neg (by omega), if_pos ⟨rfl, rfl⟩]
          rfl
def s0 : Su := (0, [], fun _ _ => 0, fun _ _ => 0, fun _ _ => 0, fun _ _ => 0)
theorem s0_wf : wfS s0 := ⟨by decide, by decide, fun i hi => (by cases hi), fun t ht => (by have : t < 0 := ht; omega)⟩
theorem SX_0 {M : Me} (h1 : M 1 8 = 0) (h2 : M 1 9 = 0) : SX M s0 := ⟨h1, h2, fun i hi => (by cases hi), fun t s ht => (by have : t < 0 := ht; omega), fun t s ht => (by have : t < 0 := ht; omega), fun t s ht => (by have : t < 0 := ht; omega), fun t ht => (by have : t < 0 := ht; omega)⟩
theorem SY_0 {M : Me} (h1 : M 0 0 = 0) (h2 : M 0 5 = 0) : SY M s0 := ⟨h1, h2, fun i hi => (by cases hi), fun t s ht => (by have : t < 0 := ht; omega), fun t s ht => (by have : t < 0 := ht; omega)⟩
theorem st_clear : rl_stepv RR (fun M => qf_X6_clear M) (fun M => qf_X7_clear M) := by
  intro i MX MY hi hR
  obtain ⟨S, hw, hSY, hC, hF, hon⟩ := hR
  show ∃ r1 r2 MX1 MY1, qf_X6_clear MX = some (r1, MX1) ∧ qf_X7_clear MY = some (r2, MY1) ∧ _
  obtain ⟨M2, a1, a2, a3⟩ := x_end hw (XA_fg (v := -1) (XA_of hon))
  obtain ⟨M3, hM3⟩ : ∃ N, N = rx_st (rx_st M2 1 8 0) 1 9 0 := ⟨_, rfl⟩
  have e3 : ∀ d j, ¬ (d = 1 ∧ (j = 8 ∨ j = 9)) → M3 d j = M2 d j := fun d j h => by rw [hM3, st_get, if_neg (by omega), st_get, if_neg (by omega)]
  obtain ⟨N, hN⟩ : ∃ N, N = rx_st (rx_st (rx_st (rx_st MY 0 7 0) 0 0 0) 0 5 0) 0 31 0 := ⟨_, rfl⟩
  have eN : ∀ d j, N d j = if d = 0 ∧ j = 31 then 0 else if d = 0 ∧ j = 5 then 0 else if d = 0 ∧ j = 0 then 0 else if d = 0 ∧ j = 7 then 0 else MY d j := by
    intro d j
    rw [hN]
    simp only [st_get]
  obtain ⟨t1, t2, t3, t4, t5, t6, t7, t8, t9⟩ := a2
  refine ⟨0, 0, M3, N, ?_, ?_, s0, s0_wf, SY_0 ?_ ?_, (hC.keep (fun d j hd => by rw [e3 d j (by omega), a3 d j (by unfold Jk; omega), st_cell (by omega)])).up (by omega), Or.inl ⟨?_, ?_⟩, Or.inl ⟨⟨⟨⟨SX_0 ?_ ?_, ?_, fun t ht => (by cases ht), fun q hq => ?_, trivial⟩, ⟨fun q hq => ?_, fun q hq => ?_⟩, ⟨fun p hp => (by have : p < 0 := hp; omega), fun r hr => (by have : r < 0 := hr; omega)⟩, ?_⟩, ?_, ?_, ?_, ?_, ?_, ?_⟩, ?_⟩⟩
  · unfold qf_X6_clear qf_X4_forget qf_X0_forget
    rw [n_vv, n_cl, a1, n_cl, n_vv, n_vv, ← hM3, n_cl]
  · unfold qf_X7_clear
    rw [n_vv, n_vv, n_vv, n_vv, ← hN]
  · rw [eN, if_neg (by omega), if_neg (by omega), if_pos ⟨rfl, rfl⟩]
  · rw [eN, if_neg (by omega), if_pos ⟨rfl, rfl⟩]
  · rw [e3 5 3 (by omega), a3 5 3 (by unfold Jk; omega)]; exact st_same _ _ _ _
  · rw [eN, if_pos ⟨rfl, rfl⟩]
  · rw [hM3, st_place (by decide), st_same]
  · rw [hM3, st_same]
  · rw [e3 2 9 (by omega)]; exact t1.1.2.1
  · rw [e3 17 q (by omega)]; exact t1.1.2.2.2.1 q hq
  · rw [e3 18 q (by omega)]; exact t1.2.1.1 q hq
  · rw [e3 19 q (by omega)]; exact t1.2.1.2 q hq
  · rw [e3 3 7 (by omega)]; exact t1.2.2.2
  · rw [e3 3 10 (by omega)]; exact t2
  · rw [e3 4 2 (by omega)]; exact t3
  · rw [e3 4 3 (by omega)]; exact t4
  · rw [e3 4 6 (by omega)]; exact t6
  · rw [e3 4 7 (by omega)]; exact t7
  · rw [e3 4 8 (by omega)]; exact t8
  · rw [eN, if_neg (by omega), if_neg (by omega), if_neg (by omega), if_pos ⟨rfl, rfl⟩]

/-! sides -/
theorem x_sides {a b : Int64} (hs : cSlot a b) (M : Me) : (cSide a b → qf_X0_sidesAreRight a b M = some (1, M)) ∧ (¬ cSide a b → qf_X0_sidesAreRight a b M = some (0, M)) := by
  have key := lp1_chkx (b := qo_X0_sidesAreRight_3 a b) (e := 4) (M := M) (K := some (1, M)) (F := some (0, M)) (bad := fun q => ¬ sideOk a b (3 * q)) (fun q => nI (3 * q)) ?_ ?_ ?_ rx_FU 0 (fu_lt (by decide)) (by decide)
  · have hend : qf_X0_sidesAreRight a b M = rx_lp1 (qo_X0_sidesAreRight_3 a b) rx_FU (nI (3 * 0)) M := rfl
    rw [hend]
    exact ⟨fun h => key.1 (fun j _ hj => not_not_intro (h j hj)), fun h => key.2 (not_all h)⟩
  · intro rec q hq hbad
    have h1 := (hs (3 * q) (by omega)).1
    have h2 := (hs (3 * q + 1) (by omega)).1
    have h3 := (hs (3 * q + 2) (by omega)).1
    have k1 := kd_lt b (nb4 a (3 * q))
    have k2 := kd_lt b (nb4 a (3 * q + 1))
    have k3 := kd_lt b (nb4 a (3 * q + 2))
    unfold sideOk at hbad
    have h95 : ∀ M, qb_X0_sidesAreRight_95 rec a b (nI (3 * q)) 0 M = some (0, M) := fun M => rfl
    simp (disch := omega) only [qo_X0_sidesAreRight_3, kn_12, kn_1, kn_2, kn_3, n_le, n_add, x_partIn, x_kindIn, n_cl, n_eq]
    rw [if_neg (by omega)]
    by_cases c2 : kd b (nb4 a (3 * q + 1)) = 2
    · rw [if_pos c2]
      by_cases c3 : kd b (nb4 a (3 * q)) = 3
      · rw [if_pos c3]
        by_cases c4 : kd b (nb4 a (3 * q + 2)) = 3
        · exact absurd (Or.inl ⟨c2, c3, c4⟩) hbad
        · rw [if_neg c4]; exact h95 M
      · rw [if_neg c3]; exact h95 M
    · rw [if_neg c2]
      by_cases c3 : nb4 a (3 * q) = nb4 a (3 * q + 1)
      · rw [if_pos c3]
        by_cases c4 : nb4 a (3 * q + 2) = nb4 a (3 * q + 1)
        · exact absurd (Or.inr ⟨c2, c3, c4⟩) hbad
        · rw [if_neg c4]; exact h95 M
      · rw [if_neg c3]; exact h95 M
  · intro rec q hq hgood
    have hg := Classical.byContradiction hgood
    have h1 := (hs (3 * q) (by omega)).1
    have h2 := (hs (3 * q + 1) (by omega)).1
    have h3 := (hs (3 * q + 2) (by omega)).1
    have k1 := kd_lt b (nb4 a (3 * q))
    have k2 := kd_lt b (nb4 a (3 * q + 1))
    have k3 := kd_lt b (nb4 a (3 * q + 2))
    have h95 : ∀ M, qb_X0_sidesAreRight_95 rec a b (nI (3 * q)) 1 M = rec (nI (3 * (q + 1))) M := by
      intro M
      unfold qb_X0_sidesAreRight_95
      rw [if_neg (by decide), n_vv, kn_3, n_add]
      rfl
    have e1 : (1 : Int32) = nI 1 := rfl
    unfold sideOk at hg
    unfold qo_X0_sidesAreRight_3
    rw [kn_12, i_le (by decide) (by omega), if_neg (by omega), x_partIn a (by omega), n_cl, e1, n_add, x_partIn a (by omega), n_cl, kn_2, n_add, x_partIn a (by omega), n_cl, x_kindIn b h2, n_cl, i_eq (by omega) (by decide)]
    rcases hg with ⟨c2, c3, c4⟩ | ⟨c2, c3, c4⟩
    · rw [if_pos c2, x_kindIn b h1, n_cl, kn_3, i_eq (by omega) (by decide), if_pos c3, x_kindIn b h3, n_cl, i_eq (by omega) (by decide), if_pos c4]
      exact h95 M
    · rw [if_neg c2, i_eq (by omega) (by omega), if_pos c3, i_eq (by omega) (by omega), if_pos c4]
      exact h95 M
  · intro rec
    simp (disch := omega) only [qo_X0_sidesAreRight_3, kn_12, n_le]
    rw [if_pos (by omega)]
    rfl
/-! touches -/
def tOk (b c : Int64) (k : Nat) : Prop := (by8 c k = 0 ∨ kd b k = 3) ∧ ∀ o, o < 8 → by8 c k / 2 ^ o % 2 = 1 → kd b o = 1
theorem x_touch1 (b c : Int64) {k : Nat} (hk : k < 8) (rec : Int32 → Me → Op) (M : Me) : ((∀ o, o < 8 → by8 c k / 2 ^ o % 2 = 1 → kd b o = 1) → qb_X0_touchesAreRight_35 rec b c (nI k) (nI (by8 c k)) M = rec (nI (k + 1)) M) ∧ ((¬ ∀ o, o < 8 → by8 c k / 2 ^ o % 2 = 1 → kd b o = 1) → qb_X0_touchesAreRight_35 rec b c (nI k) (nI (by8 c k)) M = some (0, M)) := by
  have hm := by8_lt c k
  have key := lp1_chk (b := qo_X0_touchesAreRight_38 (fun M => qb_X0_touchesAreRight_73 rec b c (nI k) M) b c (nI k) (nI (by8 c k))) (e := 8) (M := M) (K := rec (nI (k + 1)) M) (F := some (0, M)) (bad := fun o => ¬ (by8 c k / 2 ^ o % 2 = 1 → kd b o = 1)) ?_ ?_ ?_ rx_FU 0 (fu_lt (by decide)) (by decide)
  · have hend : qb_X0_touchesAreRight_35 rec b c (nI k) (nI (by8 c k)) M = rx_lp1 (qo_X0_touchesAreRight_38 (fun M => qb_X0_touchesAreRight_73 rec b c (nI k) M) b c (nI k) (nI (by8 c k))) rx_FU 0 M := rfl
    rw [hend]
    exact ⟨fun h => key.1 (fun j _ hj => not_not_intro (h j hj)), fun h => key.2 (not_all h)⟩
  · intro rec2 o ho hbad
    have hkd := kd_lt b o
    have h1 : by8 c k / 2 ^ o % 2 = 1 := Classical.byContradiction fun q => hbad (fun h => absurd h q)
    have h2 : ¬ kd b o = 1 := fun q => hbad (fun _ => q)
    unfold qo_X0_touchesAreRight_38
    rw [kn_8, i_le (by decide) (by omega), if_neg (by omega), if_neg (fun q => by have := (get_bit o ho _ hm).mp q; omega), x_kindIn b ho, n_cl, kn_1, i_eq (by omega) (by decide), if_neg h2]
    rfl
  · intro rec2 o ho hgood
    have hg := Classical.byContradiction hgood
    have hkd := kd_lt b o
    have h67 : ∀ M, qb_X0_touchesAreRight_67 rec2 b c (nI k) (nI (by8 c k)) (nI o) M = rec2 (nI (o + 1)) M := by
      intro M
      unfold qb_X0_touchesAreRight_67
      rw [n_vv, kn_1, n_add]
    unfold qo_X0_touchesAreRight_38
    rw [kn_8, i_le (by decide) (by omega), if_neg (by omega)]
    by_cases h1 : by8 c k / 2 ^ o % 2 = 1
    · rw [if_neg (fun q => by have := (get_bit o ho _ hm).mp q; omega), x_kindIn b ho, n_cl, kn_1, i_eq (by omega) (by decide), if_pos (hg h1)]
      exact h67 M
    · have h0 : by8 c k / 2 ^ o % 2 = 0 := by
        have := Nat.mod_lt (by8 c k / 2 ^ o) (show 0 < 2 by decide)
        omega
      rw [if_pos ((get_bit o ho _ hm).mpr h0)]
      exact h67 M
  · intro rec2
    unfold qo_X0_touchesAreRight_38
    rw [kn_8, i_le (by decide) (by decide), if_pos (by omega)]
    unfold qb_X0_touchesAreRight_73
    show rx_vv (nI k + 1) (fun v1 => rec v1 M) = _
    rw [n_vv, kn_1, n_add]
theorem x_touches (b c : Int64) (M : Me) : (cTouch b c → qf_X0_touchesAreRight b c M = some (1, M)) ∧ (¬ cTouch b c → qf_X0_touchesAreRight b c M = some (0, M)) := by
  have key := lp1_chk (b := qo_X0_touchesAreRight_3 b c) (e := 8) (M := M) (K := some (1, M)) (F := some (0, M)) (bad := fun k => ¬ tOk b c k) ?_ ?_ ?_ rx_FU 0 (fu_lt (by decide)) (by decide)
  · have hend : qf_X0_touchesAreRight b c M = rx_lp1 (qo_X0_touchesAreRight_3 b c) rx_FU 0 M := rfl
    rw [hend]
    exact ⟨fun h => key.1 (fun j _ hj => not_not_intro (h j hj)), fun h => key.2 (not_all h)⟩
  · intro rec k hk hbad
    have hm := by8_lt c k
    have hkd := kd_lt b k
    have ht := x_touch1 b c hk rec M
    unfold qo_X0_touchesAreRight_3
    rw [kn_8, i_le (by decide) (by omega), if_neg (by omega), x_byteIn c hk, n_cl, show (0 : Int32) = nI 0 from rfl, i_eq (by omega) (by decide)]
    by_cases h0 : by8 c k = 0
    · rw [if_pos h0]
      exact ht.2 (fun q => hbad ⟨Or.inl h0, q⟩)
    · rw [if_neg h0, x_kindIn b hk, n_cl, kn_3, i_eq (by omega) (by decide)]
      by_cases h3 : kd b k = 3
      · rw [if_pos h3]
        exact ht.2 (fun q => hbad ⟨Or.inr h3, q⟩)
      · rw [if_neg h3]; rfl
  · intro rec k hk hgood
    have hg := Classical.byContradiction hgood
    have hm := by8_lt c k
    have hkd := kd_lt b k
    have ht := (x_touch1 b c hk rec M).1 hg.2
    unfold qo_X0_touchesAreRight_3
    rw [kn_8, i_le (by decide) (by omega), if_neg (by omega), x_byteIn c hk, n_cl, show (0 : Int32) = nI 0 from rfl, i_eq (by omega) (by decide)]
    by_cases h0 : by8 c k = 0
    · rw [if_pos h0]; exact ht
    · rcases hg.1 with h1 | h1
      · exact absurd h1 h0
      · rw [if_neg h0, x_kindIn b hk, n_cl, kn_3, i_eq (by omega) (by decide), if_pos h1]; exact ht
  · intro rec
    unfold qo_X0_touchesAreRight_3
    rw [kn_8, i_le (by decide) (by decide), if_pos (by omega)]
    rfl
theorem x_isType (a b c : Int64) (M : Me) : (isT a b c → qf_X0_isType a b c M = some (1, M)) ∧ (¬ isT a b c → qf_X0_isType a b c M = some (0, M)) := by
  have h1 := x_kinds b M
  have h2 := x_slots a b M
  have h4 := x_touches b c M
  unfold qf_X0_isType
  by_cases c1 : cKind b ∧ clo b 8 < 2
  · rw [h1.1 c1, n_cl, if_neg (by decide)]
    by_cases c2 : cHi a ∧ cSlot a b ∧ cUse a b
    · have h3 := x_sides c2.2.1 M
      rw [h2.1 c2, n_cl, if_neg (by decide)]
      by_cases c3 : cSide a b
      · rw [h3.1 c3, n_cl, if_neg (by decide)]
        by_cases c4 : cTouch b c
        · rw [h4.1 c4, n_cl, if_neg (by decide)]
          exact ⟨fun _ => rfl, fun h => absurd ⟨c1.1, c1.2, c2.1, c2.2.1, c2.2.2, c3, c4⟩ h⟩
        · rw [h4.2 c4, n_cl, if_pos rfl]
          exact ⟨fun h => absurd h.2.2.2.2.2.2 c4, fun _ => rfl⟩
      · rw [h3.2 c3, n_cl, if_pos rfl]
        exact ⟨fun h => absurd h.2.2.2.2.2.1 c3, fun _ => rfl⟩
    · rw [h2.2 c2, n_cl, if_pos rfl]
      exact ⟨fun h => absurd ⟨h.2.2.1, h.2.2.2.1, h.2.2.2.2.1⟩ c2, fun _ => rfl⟩
  · rw [h1.2 c1, n_cl, if_pos rfl]
    exact ⟨fun h => absurd ⟨h.1, h.2.1⟩ c1, fun _ => rfl⟩

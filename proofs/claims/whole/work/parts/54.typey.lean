/-! the reference's check -/
theorem y_kindIn (x : Int64) {k : Nat} (hk : k < 8) (M : Me) : qf_X7_kindIn x (nI k) M = some (nI (kd x k), M) := by
  have := by8_lt x k
  unfold qf_X7_kindIn
  rw [y_byte x hk, kn_8, n_rem (by omega) (by decide) (by decide)]
  rfl
theorem y_partIn (x : Int64) {k : Nat} (hk : k < 16) (M : Me) : qf_X7_partIn x (nI k) M = some (nI (nb4 x k), M) := by
  unfold qf_X7_partIn
  rw [y_nib x hk]
theorem y_isKind {v : Nat} (hv : v < 256) (M : Me) : (v ≤ 4 ∨ v = 9 → qf_X7_isKind (nI v) M = some (1, M)) ∧ (¬ (v ≤ 4 ∨ v = 9) → qf_X7_isKind (nI v) M = some (0, M)) := by
  unfold qf_X7_isKind qb_X7_isKind_9
  rw [i_neg (by omega), kn_4, i_le (by omega) (by decide), kn_9, i_eq (by omega) (by decide)]
  refine ⟨fun h => ?_, fun h => ?_⟩
  · by_cases h4 : v ≤ 4
    · rw [if_pos h4]; rfl
    · rw [if_neg h4, if_pos (by omega)]; rfl
  · rw [if_neg (by omega), if_neg (by omega)]; rfl
theorem y_loop1 (a b c : Int64) (M : Me) : (cKind b → qb_X7_isType_14 a b c 1 M = qb_X7_isType_86 a b c 1 (nI (clo b 8)) M) ∧ (¬ cKind b → qb_X7_isType_14 a b c 1 M = qb_X7_isType_86 a b c 0 (nI (clo b 8)) M) ∧ qb_X7_isType_14 a b c 0 M = qb_X7_isType_86 a b c 0 (nI (clo b 8)) M := by
  have h57 : ∀ (rec : Int32 → Int32 → Int32 → Me → Op) (i : Nat) (g : Int32) (M : Me), i < 8 → qb_X7_isType_57 rec a b c (nI (clo b i)) (nI i) g M = rec g (nI (clo b (i + 1))) (nI (i + 1)) M := by
    intro rec i g M hi
    have hkd := kd_lt b i
    have hcl := clo_le b i
    unfold qb_X7_isType_57 qb_X7_isType_78
    rw [y_kindIn b hi, n_cl, kn_4, i_eq (by omega) (by decide)]
    show _ = rec g (nI (clo b i + (if kd b i = 4 then 1 else 0))) (nI (i + 1)) M
    by_cases h : kd b i = 4
    · rw [if_pos h, if_pos h, n_vv, kn_1, n_add, n_add]
    · rw [if_neg h, if_neg h, n_vv, kn_1, n_add]; rfl
  have key := lp3_and (b := qo_X7_isType_22 (fun a6 a7 M => qb_X7_isType_86 a b c a6 a7 M) a b c) (e := 8) (M := M) (K := fun g => qb_X7_isType_86 a b c g (nI (clo b 8)) M) (c := fun k => by8 b k ≤ 4 ∨ by8 b k = 9) (fun i => nI (clo b i)) nI ?_ ?_ ?_ ?_ rx_FU 0 (fu_lt (by decide)) (by decide)
  · exact ⟨fun h => key.1 (fun j _ hj => h j hj), fun h => key.2.1 (not_all h), key.2.2⟩
  · intro rec i hi hc
    unfold qo_X7_isType_22
    rw [kn_8, i_le (by decide) (by omega), if_neg (by omega), if_neg (by decide), ← kn_8, y_byte b hi, (y_isKind (by8_lt b i) M).1 hc, n_cl, if_neg (by decide)]
    exact h57 rec i 1 M hi
  · intro rec i hi hc
    unfold qo_X7_isType_22
    rw [kn_8, i_le (by decide) (by omega), if_neg (by omega), if_neg (by decide), ← kn_8, y_byte b hi, (y_isKind (by8_lt b i) M).2 hc, n_cl, if_pos rfl]
    exact h57 rec i 0 M hi
  · intro rec i hi
    unfold qo_X7_isType_22
    rw [kn_8, i_le (by decide) (by omega), if_neg (by omega), if_pos rfl]
    exact h57 rec i 0 M hi
  · intro rec g
    unfold qo_X7_isType_22
    rw [kn_8, i_le (by decide) (by decide), if_pos (by decide)]
theorem y_loop2 (a b c : Int64) (w7 : Int32) (M : Me) : (cSlot a b → qb_X7_isType_86 a b c 1 w7 M = qb_X7_isType_148 a b c 1 w7 M) ∧ (¬ cSlot a b → qb_X7_isType_86 a b c 1 w7 M = qb_X7_isType_148 a b c 0 w7 M) ∧ qb_X7_isType_86 a b c 0 w7 M = qb_X7_isType_148 a b c 0 w7 M := by
  have key := lp2_and (b := qo_X7_isType_89 (fun a6 M => qb_X7_isType_148 a b c a6 w7 M) a b c w7) (e := 12) (M := M) (K := fun g => qb_X7_isType_148 a b c g w7 M) (c := fun s => nb4 a s < 8 ∧ 1 ≤ kd b (nb4 a s) ∧ kd b (nb4 a s) ≤ 3) nI ?_ ?_ ?_ ?_ rx_FU 0 (fu_lt (by decide)) (by decide)
  · exact ⟨fun h => key.1 (fun j _ hj => h j hj), fun h => key.2.1 (not_all h), key.2.2⟩
  · intro rec i hi hc
    have hkd := kd_lt b (nb4 a i)
    unfold qo_X7_isType_89 qb_X7_isType_140
    rw [kn_12, i_le (by decide) (by omega), if_neg (by omega), if_neg (by decide), y_partIn a (by omega), n_cl, kn_8, i_le (by decide) (by omega), if_neg (by omega), y_kindIn b hc.1, n_cl, show (0 : Int32) = nI 0 from rfl, i_le (by omega) (by decide), if_neg (by omega), y_kindIn b hc.1, n_cl, kn_4, i_le (by decide) (by omega), if_neg (by omega), n_vv, kn_1, n_add]
  · intro rec i hi hc
    have hn := nb4_lt a i
    unfold qo_X7_isType_89 qb_X7_isType_140
    rw [kn_12, i_le (by decide) (by omega), if_neg (by omega), if_neg (by decide), y_partIn a (by omega), n_cl, kn_8, i_le (by decide) (by omega)]
    by_cases h8 : 8 ≤ nb4 a i
    · rw [if_pos h8, n_vv, kn_1, n_add]
    · have hkd := kd_lt b (nb4 a i)
      rw [if_neg h8, y_kindIn b (by omega), n_cl]
      by_cases h0 : kd b (nb4 a i) ≤ 0
      · rw [if_pos (show nI (kd b (nb4 a i)) ≤ 0 from nI_le (b := 0) h0 (by decide)), n_vv, kn_1, n_add]
      · rw [if_neg (show ¬ nI (kd b (nb4 a i)) ≤ 0 from nI_nle (by omega) (by omega)), y_kindIn b (by omega), n_cl, kn_4, i_le (by decide) (by omega), if_pos (Classical.byContradiction fun q => hc ⟨by omega, by omega, by omega⟩), n_vv, kn_1, n_add]
  · intro rec i hi
    left
    unfold qo_X7_isType_89
    rw [kn_12, i_le (by decide) (by omega), if_neg (by omega), if_pos rfl]
  · intro rec g
    unfold qo_X7_isType_89
    rw [kn_12, i_le (by decide) (by decide), if_pos (by decide)]

/-! the reference's check -/
theorem y_kindIn (x : Int64) {k : Nat} (hk : k < 8) (M : Me) : qf_X7_kindIn x (nI k) M = some (nI (kd x k), M) := by
  have := by8_lt x k
  unfold qf_X7_kindIn
  rw [y_byte x hk, kn_8, n_rem (by omega) (by decide) (by decide)]
  rfl
theorem y_partIn (x : Int64) {k : Nat} (hk : k < 16) (M : Me) : qf_X7_partIn x (nI k) M = some (nI (nb4 x k), M) := by
  unfold qf_X7_partIn
  rw [y_nib x hk]
theorem y_isKind {v : Nat} (hv : v < 256) (M : Me) : (v ≤ 4 ∨ v = 9 → qf_X7_isKind (nI v) M = some (1, M)) ∧ (¬ (v ≤ 4 ∨ v = 9) → qf_X7_isKind (nI v) M = some (0, M)) := by
  unfold qf_X7_isKind qb_X7_isKind_9
  rw [i_neg (by omega), kn_4, i_le (by omega) (by decide), kn_9, i_eq (by omega) (by decide)]
  refine ⟨fun h => ?_, fun h => ?_⟩
  · by_cases h4 : v ≤ 4
    · rw [if_pos h4]; rfl
    · rw [if_neg h4, if_pos (by omega)]; rfl
  · rw [if_neg (by omega), if_neg (by omega)]; rfl
theorem y_loop1 (a b c : Int64) (M : Me) : (cKind b → qb_X7_isType_14 a b c 1 M = qb_X7_isType_86 a b c 1 (nI (clo b 8)) M) ∧ (¬ cKind b → qb_X7_isType_14 a b c 1 M = qb_X7_isType_86 a b c 0 (nI (clo b 8)) M) ∧ qb_X7_isType_14 a b c 0 M = qb_X7_isType_86 a b c 0 (nI (clo b 8)) M := by
  have h57 : ∀ (rec : Int32 → Int32 → Int32 → Me → Op) (i : Nat) (g : Int32) (M : Me), i < 8 → qb_X7_isType_57 rec a b c (nI (clo b i)) (nI i) g M = rec g (nI (clo b (i + 1))) (nI (i + 1)) M := by
    intro rec i g M hi
    have hkd := kd_lt b i
    have hcl := clo_le b i
    unfold qb_X7_isType_57 qb_X7_isType_78
    rw [y_kindIn b hi, n_cl, kn_4, i_eq (by omega) (by decide)]
    show _ = rec g (nI (clo b i + (if kd b i = 4 then 1 else 0))) (nI (i + 1)) M
    by_cases h : kd b i = 4
    · rw [if_pos h, if_pos h, n_vv, kn_1, n_add, n_add]
    · rw [if_neg h, if_neg h, n_vv, kn_1, n_add]; rfl
  have key := lp3_and (b := qo_X7_isType_22 (fun a6 a7 M => qb_X7_isType_86 a b c a6 a7 M) a b c) (e := 8) (M := M) (K := fun g => qb_X7_isType_86 a b c g (nI (clo b 8)) M) (c := fun k => by8 b k ≤ 4 ∨ by8 b k = 9) (fun i => nI (clo b i)) nI ?_ ?_ ?_ ?_ rx_FU 0 (fu_lt (by decide)) (by decide)
  · exact ⟨fun h => key.1 (fun j _ hj => h j hj), fun h => key.2.1 (not_all h), key.2.2⟩
  · intro rec i hi hc
    unfold qo_X7_isType_22
    rw [kn_8, i_le (by decide) (by omega), if_neg (by omega), if_neg (by decide), ← kn_8, y_byte b hi, (y_isKind (by8_lt b i) M).1 hc, n_cl, if_neg (by decide)]
    exact h57 rec i 1 M hi
  · intro rec i hi hc
    unfold qo_X7_isType_22
    rw [kn_8, i_le (by decide) (by omega), if_neg (by omega), if_neg (by decide), ← kn_8, y_byte b hi, (y_isKind (by8_lt b i) M).2 hc, n_cl, if_pos rfl]
    exact h57 rec i 0 M hi
  · intro rec i hi
    unfold qo_X7_isType_22
    rw [kn_8, i_le (by decide) (by omega), if_neg (by omega), if_pos rfl]
    exact h57 rec i 0 M hi
  · intro rec g
    unfold qo_X7_isType_22
    rw [kn_8, i_le (by decide) (by decide), if_pos (by decide)]
theorem y_loop2 (a b c : Int64) (w7 : Int32) (M : Me) : (cSlot a b → qb_X7_isType_86 a b c 1 w7 M = qb_X7_isType_148 a b c 1 w7 M) ∧ (¬ cSlot a b → qb_X7_isType_86 a b c 1 w7 M = qb_X7_isType_148 a b c 0 w7 M) ∧ qb_X7_isType_86 a b c 0 w7 M = qb_X7_isType_148 a b c 0 w7 M := by
  have key := lp2_and (b := qo_X7_isType_89 (fun a6 M => qb_X7_isType_148 a b c a6 w7 M) a b c w7) (e := 12) (M := M) (K := fun g => qb_X7_isType_148 a b c g w7 M) (c := fun s => nb4 a s < 8 ∧ 1 ≤ kd b (nb4 a s) ∧ kd b (nb4 a s) ≤ 3) nI ?_ ?_ ?_ ?_ rx_FU 0 (fu_lt (by decide)) (by decide)
  · exact ⟨fun h => key.1 (fun j _ hj => h j hj), fun h => key.2.1 (not_all h), key.2.2⟩
  · intro rec i hi hc
    have hkd := kd_lt b (nb4 a i)
    unfold qo_X7_isType_89 qb_X7_isType_140
    rw [kn_12, i_le (by decide) (by omega), if_neg (by omega), if_neg (by decide), y_partIn a (by omega), n_cl, kn_8, i_le (by decide) (by omega), if_neg (by omega), y_kindIn b hc.1, n_cl, show (0 : Int32) = nI 0 from rfl, i_le (by omega) (by decide), if_neg (by omega), y_kindIn b hc.1, n_cl, kn_4, i_le (by decide) (by omega), if_neg (by omega), n_vv, kn_1, n_add]
  · intro rec i hi hc
    have hn := nb4_lt a i
    unfold qo_X7_isType_89 qb_X7_isType_140
    rw [kn_12, i_le (by decide) (by omega), if_neg (by omega), if_neg (by decide), y_partIn a (by omega), n_cl, kn_8, i_le (by decide) (by omega)]
    by_cases h8 : 8 ≤ nb4 a i
    · rw [if_pos h8, n_vv, kn_1, n_add]
    · have hkd := kd_lt b (nb4 a i)
      rw [if_neg h8, y_kindIn b (by omega), n_cl]
      by_cases h0 : kd b (nb4 a i) ≤ 0
      · rw [if_pos (show nI (kd b (nb4 a i)) ≤ 0 from nI_le (b := 0) h0 (by decide)), n_vv, kn_1, n_add]
      · rw [if_neg (show ¬ nI (kd b (nb4 a i)) ≤ 0 from nI_nle (by omega) (by omega)), y_kindIn b (by omega), n_cl, kn_4, i_le (by decide) (by omega), if_pos (Classical.byContradiction fun q => hc ⟨by omega, by omega, by omega⟩), n_vv, kn_1, n_add]
  · intro rec i hi
    left
    unfold qo_X7_isType_89
    rw [kn_12, i_le (by decide) (by omega), if_neg (by omega), if_pos rfl]
  · intro rec g
    unfold qo_X7_isType_89
    rw [kn_12, i_le (by decide) (by decide), if_pos (by decide)]
theorem y_isSide {a b : Int64} {s : Nat} (hs : s + 2 < 12) (h1 : nb4 a s < 8) (h2 : nb4 a (s + 1) < 8) (h3 : nb4 a (s + 2) < 8) (M : Me) : (sideOk a b s → qf_X7_isSide a b (nI s) M = some (1, M)) ∧ (¬ sideOk a b s → qf_X7_isSide a b (nI s) M = some (0, M)) := by
  have k1 := kd_lt b (nb4 a s)
  have k2 := kd_lt b (nb4 a (s + 1))
  have k3 := kd_lt b (nb4 a (s + 2))
  have h57 : ∀ M, (kd b (nb4 a s) = 3 ∧ kd b (nb4 a (s + 1)) = 2 ∧ kd b (nb4 a (s + 2)) = 3 → qb_X7_isSide_57 b (nI (nb4 a s)) (nI (nb4 a (s + 1))) (nI (nb4 a (s + 2))) 0 M = some (1, M)) ∧ (¬ (kd b (nb4 a s) = 3 ∧ kd b (nb4 a (s + 1)) = 2 ∧ kd b (nb4 a (s + 2)) = 3) → qb_X7_isSide_57 b (nI (nb4 a s)) (nI (nb4 a (s + 1))) (nI (nb4 a (s + 2))) 0 M = some (0, M)) := by
    intro M
    unfold qb_X7_isSide_57
    rw [if_pos rfl, y_kindIn b h1, n_cl, kn_3, i_eq (by omega) (by decide)]
    by_cases c1 : kd b (nb4 a s) = 3
    · rw [if_pos c1, y_kindIn b h2, n_cl, kn_2, i_eq (by omega) (by decide)]
      by_cases c2 : kd b (nb4 a (s + 1)) = 2
      · rw [if_pos c2, y_kindIn b h3, n_cl, i_eq (by omega) (by decide)]
        by_cases c3 : kd b (nb4 a (s + 2)) = 3
        · rw [if_pos c3]; exact ⟨fun _ => rfl, fun h => absurd ⟨c1, c2, c3⟩ h⟩
        · rw [if_neg c3]; exact ⟨fun h => absurd h.2.2 c3, fun _ => rfl⟩
      · rw [if_neg c2]; exact ⟨fun h => absurd h.2.1 c2, fun _ => rfl⟩
    · rw [if_neg c1]; exact ⟨fun h => absurd h.1 c1, fun _ => rfl⟩
  unfold qf_X7_isSide
  rw [y_partIn a (by omega), n_cl, kn_1, n_add, y_partIn a (by omega), n_cl, kn_2, n_add, y_partIn a (by omega), n_cl, i_eq (by omega) (by omega), i_eq (by omega) (by omega)]
  unfold sideOk
  by_cases e1 : nb4 a s = nb4 a (s + 1)
  · rw [if_pos e1]
    by_cases e2 : nb4 a (s + 1) = nb4 a (s + 2)
    · rw [if_pos e2, y_kindIn b h1, n_cl, i_eq (by omega) (by decide)]
      by_cases c2 : kd b (nb4 a s) = 2
      · rw [if_pos c2]
        have hno : ¬ (kd b (nb4 a s) = 3 ∧ kd b (nb4 a (s + 1)) = 2 ∧ kd b (nb4 a (s + 2)) = 3) := fun h => by omega
        have h0 := (h57 M).2 hno
        have c2' : kd b (nb4 a (s + 1)) = 2 := by rw [← e1]; exact c2
        refine ⟨fun h => ?_, fun _ => h0⟩
        rcases h with h | h
        · exact absurd h.2.1 (by omega)
        · exact absurd c2' h.1
      · rw [if_neg c2]
        have c2' : kd b (nb4 a (s + 1)) ≠ 2 := by rw [← e1]; exact c2
        refine ⟨fun _ => rfl, fun h => absurd (Or.inr ⟨c2', e1, e2.symm⟩) h⟩
    · rw [if_neg e2]
      by_cases hk : kd b (nb4 a s) = 3 ∧ kd b (nb4 a (s + 1)) = 2 ∧ kd b (nb4 a (s + 2)) = 3
      · exact ⟨fun _ => (h57 M).1 hk, fun h => absurd (Or.inl ⟨hk.2.1, hk.1, hk.2.2⟩) h⟩
      · refine ⟨fun h => ?_, fun _ => (h57 M).2 hk⟩
        rcases h with h | h
        · exact absurd ⟨h.2.1, h.1, h.2.2⟩ hk
        · exact absurd h.2.2.symm e2
  · rw [if_neg e1]
    by_cases hk : kd b (nb4 a s) = 3 ∧ kd b (nb4 a (s + 1)) = 2 ∧ kd b (nb4 a (s + 2)) = 3
    · exact ⟨fun _ => (h57 M).1 hk, fun h => absurd (Or.inl ⟨hk.2.1, hk.1, hk.2.2⟩) h⟩
    · refine ⟨fun h => ?_, fun _ => (h57 M).2 hk⟩
      rcases h with h | h
      · exact absurd ⟨h.2.1, h.1, h.2.2⟩ hk
      · exact absurd h.2.1 e1
theorem y_loop3z (a b c : Int64) (w7 : Int32) (M : Me) : qb_X7_isType_148 a b c 0 w7 M = qb_X7_isType_178 a b c 0 w7 M := by
  refine lp2_zero (b := qo_X7_isType_151 (fun a6 M => qb_X7_isType_178 a b c a6 w7 M) a b c w7) (e := 4) (M := M) (K := fun g => qb_X7_isType_178 a b c g w7 M) (fun q => nI (3 * q)) ?_ ?_ rx_FU 0 (fu_lt (by decide)) (by decide)
  · intro rec i hi
    left
    unfold qo_X7_isType_151
    rw [kn_12, i_le (by decide) (by omega), if_neg (by omega), if_pos rfl]
  · intro rec
    unfold qo_X7_isType_151
    rw [kn_12, i_le (by decide) (by omega), if_pos (by omega)]
theorem y_loop3 {a b : Int64} (c : Int64) (hs : cSlot a b) (w7 : Int32) (M : Me) : (cSide a b → qb_X7_isType_148 a b c 1 w7 M = qb_X7_isType_178 a b c 1 w7 M) ∧ (¬ cSide a b → qb_X7_isType_148 a b c 1 w7 M = qb_X7_isType_178 a b c 0 w7 M) := by
  have key := lp2_and (b := qo_X7_isType_151 (fun a6 M => qb_X7_isType_178 a b c a6 w7 M) a b c w7) (e := 4) (M := M) (K := fun g => qb_X7_isType_178 a b c g w7 M) (c := fun q => sideOk a b (3 * q)) (fun q => nI (3 * q)) ?_ ?_ ?_ ?_ rx_FU 0 (fu_lt (by decide)) (by decide)
  · exact ⟨fun h => key.1 (fun j _ hj => h j hj), fun h => key.2.1 (not_all h)⟩
  · intro rec q hq hc
    unfold qo_X7_isType_151
    rw [kn_12, i_le (by decide) (by omega), if_neg (by omega), if_neg (by decide), (y_isSide (by omega) (hs _ (by omega)).1 (hs _ (by omega)).1 (hs _ (by omega)).1 M).1 hc, n_cl, n_vv, kn_3, n_add]
    rfl
  · intro rec q hq hc
    unfold qo_X7_isType_151
    rw [kn_12, i_le (by decide) (by omega), if_neg (by omega), if_neg (by decide), (y_isSide (by omega) (hs _ (by omega)).1 (hs _ (by omega)).1 (hs _ (by omega)).1 M).2 hc, n_cl, n_vv, kn_3, n_add]
    rfl
  · intro rec i hi
    left
    unfold qo_X7_isType_151
    rw [kn_12, i_le (by decide) (by omega), if_neg (by omega), if_pos rfl]
  · intro rec g
    unfold qo_X7_isType_151
    rw [kn_12, i_le (by decide) (by omega), if_pos (by omega)]
theorem y_touch (a b c : Int64) (w7 : Int32) {k : Nat} (hk : k < 8) (rec : Int32 → Int32 → Me → Op) (M : Me) : ((∀ o, o < 8 → by8 c k / 2 ^ o % 2 = 1 → kd b o = 1) → qb_X7_isType_294 rec a b c w7 (nI k) (nI (by8 c k)) 1 M = rec 1 (nI (k + 1)) M) ∧ ((¬ ∀ o, o < 8 → by8 c k / 2 ^ o % 2 = 1 → kd b o = 1) → qb_X7_isType_294 rec a b c w7 (nI k) (nI (by8 c k)) 1 M = rec 0 (nI (k + 1)) M) ∧ qb_X7_isType_294 rec a b c w7 (nI k) (nI (by8 c k)) 0 M = rec 0 (nI (k + 1)) M := by
  have hm := by8_lt c k
  have key := lp2_and (b := qo_X7_isType_299 (fun a6 M => qb_X7_isType_344 rec a b c a6 w7 (nI k) M) a b c w7 (nI k) (nI (by8 c k))) (e := 8) (M := M) (K := fun g => rec g (nI (k + 1)) M) (c := fun o => by8 c k / 2 ^ o % 2 = 1 → kd b o = 1) nI ?_ ?_ ?_ ?_ rx_FU 0 (fu_lt (by decide)) (by decide)
  · exact ⟨fun h => key.1 (fun j _ hj => h j hj), fun h => key.2.1 (not_all h), key.2.2⟩
  · intro rec2 o ho hc
    have hkd := kd_lt b o
    unfold qo_X7_isType_299 qb_X7_isType_336
    rw [kn_8, i_le (by decide) (by omega), if_neg (by omega), if_neg (by decide)]
    by_cases h1 : by8 c k / 2 ^ o % 2 = 1
    · rw [if_neg (fun q => by have := (get_bit o ho _ hm).mp q; omega), y_kindIn b ho, n_cl, kn_1, i_eq (by omega) (by decide), if_pos (hc h1), n_vv, n_add]
    · have h0 : by8 c k / 2 ^ o % 2 = 0 := by
        have := Nat.mod_lt (by8 c k / 2 ^ o) (show 0 < 2 by decide)
        omega
      rw [if_pos ((get_bit o ho _ hm).mpr h0), n_vv, kn_1, n_add]
  · intro rec2 o ho hc
    have hkd := kd_lt b o
    have h1 : by8 c k / 2 ^ o % 2 = 1 := Classical.byContradiction fun q => hc (fun h => absurd h q)
    have h2 : ¬ kd b o = 1 := fun q => hc (fun _ => q)
    unfold qo_X7_isType_299 qb_X7_isType_336
    rw [kn_8, i_le (by decide) (by omega), if_neg (by omega), if_neg (by decide), if_neg (fun q => by have := (get_bit o ho _ hm).mp q; omega), y_kindIn b ho, n_cl, kn_1, i_eq (by omega) (by decide), if_neg h2, n_vv, n_add]
  · intro rec2 o ho
    right
    unfold qo_X7_isType_299 qb_X7_isType_336
    rw [kn_8, i_le (by decide) (by omega), if_neg (by omega), if_pos rfl, n_vv, kn_1, n_add]
  · intro rec2 g
    unfold qo_X7_isType_299 qb_X7_isType_344
    rw [kn_8, i_le (by decide) (by decide), if_pos (by decide)]
    show rx_vv (nI k + 1) (fun v1 => rec g v1 M) = _
    rw [n_vv, kn_1, n_add]
theorem y_has (a b c : Int64) (w7 w9 : Int32) {k : Nat} (hk : k < 8) (rec : Int32 → Int32 → Me → Op) (M : Me) : ((∃ s, s < 12 ∧ nb4 a s = k) → qb_X7_isType_217 rec a b c w7 (nI k) w9 0 M = qb_X7_isType_258 rec a b c w7 (nI k) w9 1 M) ∧ ((¬ ∃ s, s < 12 ∧ nb4 a s = k) → qb_X7_isType_217 rec a b c w7 (nI k) w9 0 M = qb_X7_isType_258 rec a b c w7 (nI k) w9 0 M) ∧ qb_X7_isType_217 rec a b c w7 (nI k) w9 1 M = qb_X7_isType_258 rec a b c w7 (nI k) w9 1 M := by
  have key := lp2_or (b := qo_X7_isType_222 (fun a10 M => qb_X7_isType_258 rec a b c w7 (nI k) w9 a10 M) a b c w7 (nI k) w9) (e := 12) (M := M) (K := fun g => qb_X7_isType_258 rec a b c w7 (nI k) w9 g M) (c := fun s => nb4 a s = k) nI ?_ ?_ ?_ ?_ rx_FU 0 (fu_lt (by decide)) (by decide)
  · exact ⟨fun ⟨s, h1, h2⟩ => key.1 ⟨s, Nat.zero_le _, h1, h2⟩, fun h => key.2.1 (fun j _ hj q => h ⟨j, hj, q⟩), key.2.2⟩
  · intro rec2 s hs hc
    have hn := nb4_lt a s
    unfold qo_X7_isType_222 qb_X7_isType_250
    rw [kn_12, i_le (by decide) (by omega), if_neg (by omega), if_pos rfl, y_partIn a (by omega), n_cl, i_eq (by omega) (by omega), if_pos hc, n_vv, kn_1, n_add]
  · intro rec2 s hs hc
    have hn := nb4_lt a s
    unfold qo_X7_isType_222 qb_X7_isType_250
    rw [kn_12, i_le (by decide) (by omega), if_neg (by omega), if_pos rfl, y_partIn a (by omega), n_cl, i_eq (by omega) (by omega), if_neg hc, n_vv, kn_1, n_add]
  · intro rec2 s hs
    unfold qo_X7_isType_222 qb_X7_isType_250
    rw [kn_12, i_le (by decide) (by omega), if_neg (by omega), if_neg (by decide), n_vv, kn_1, n_add]
  · intro rec2 g
    unfold qo_X7_isType_222
    rw [kn_12, i_le (by decide) (by decide), if_pos (by decide)]
def yOk (a b c : Int64) (k : Nat) : Prop := (kd b k = 0 ∨ kd b k = 4 ∨ ∃ s, s < 12 ∧ nb4 a s = k) ∧ tOk b c k
theorem y_body (a b c : Int64) (w7 : Int32) {k : Nat} (hk : k < 8) (rec : Int32 → Int32 → Me → Op) (M : Me) (w9 : Int32) (hw9 : w9 = nI (kd b k)) : (tOk b c k → qb_X7_isType_258 rec a b c w7 (nI k) w9 1 M = rec 1 (nI (k + 1)) M) ∧ (¬ tOk b c k → qb_X7_isType_258 rec a b c w7 (nI k) w9 1 M = rec 0 (nI (k + 1)) M) ∧ qb_X7_isType_258 rec a b c w7 (nI k) w9 0 M = rec 0 (nI (k + 1)) M := by
  have ht := y_touch a b c w7 hk rec M
  have hm := by8_lt c k
  have hkd := kd_lt b k
  have e1 : qb_X7_isType_258 rec a b c w7 (nI k) w9 1 M = if by8 c k = 0 then qb_X7_isType_294 rec a b c w7 (nI k) (nI (by8 c k)) 1 M else if kd b k = 3 then qb_X7_isType_294 rec a b c w7 (nI k) (nI (by8 c k)) 1 M else qb_X7_isType_294 rec a b c w7 (nI k) (nI (by8 c k)) 0 M := by
    unfold qb_X7_isType_258
    rw [y_byte c hk, n_vv, if_neg (by decide), show (if nI (by8 c k) = 0 then _ else _ : Op) = if by8 c k = 0 then _ else _ from i_eq (b := 0) (by omega) (by decide), hw9, kn_3, i_eq (by omega) (by decide)]
  have e0 : qb_X7_isType_258 rec a b c w7 (nI k) w9 0 M = qb_X7_isType_294 rec a b c w7 (nI k) (nI (by8 c k)) 0 M := by
    unfold qb_X7_isType_258
    rw [y_byte c hk, n_vv, if_pos rfl]
  rw [e1, e0]
  refine ⟨fun h => ?_, fun h => ?_, ht.2.2⟩
  · by_cases h0 : by8 c k = 0
    · rw [if_pos h0]; exact ht.1 h.2
    · rcases h.1 with q | q
      · exact absurd q h0
      · rw [if_neg h0, if_pos q]; exact ht.1 h.2
  · by_cases h0 : by8 c k = 0
    · rw [if_pos h0]; exact ht.2.1 (fun q => h ⟨Or.inl h0, q⟩)
    · rw [if_neg h0]
      by_cases h3 : kd b k = 3
      · rw [if_pos h3]; exact ht.2.1 (fun q => h ⟨Or.inr h3, q⟩)
      · rw [if_neg h3]; exact ht.2.2
theorem y_loop4 (a b c : Int64) (w7 : Int32) (M : Me) : ((∀ k, k < 8 → yOk a b c k) → qb_X7_isType_178 a b c 1 w7 M = qb_X7_isType_350 1 w7 M) ∧ ((¬ ∀ k, k < 8 → yOk a b c k) → qb_X7_isType_178 a b c 1 w7 M = qb_X7_isType_350 0 w7 M) ∧ qb_X7_isType_178 a b c 0 w7 M = qb_X7_isType_350 0 w7 M := by
  have key := lp2_and (b := qo_X7_isType_181 (fun a6 M => qb_X7_isType_350 a6 w7 M) a b c w7) (e := 8) (M := M) (K := fun g => qb_X7_isType_350 g w7 M) (c := fun k => yOk a b c k) nI ?_ ?_ ?_ ?_ rx_FU 0 (fu_lt (by decide)) (by decide)
  · exact ⟨fun h => key.1 (fun j _ hj => h j hj), fun h => key.2.1 (not_all h), key.2.2⟩
  · intro rec k hk hc
    have hkd := kd_lt b k
    have hh := y_has a b c w7 (nI (kd b k)) hk rec M
    have hb := y_body a b c w7 hk rec M _ rfl
    unfold qo_X7_isType_181
    rw [kn_8, i_le (by decide) (by omega), if_neg (by omega), if_neg (by decide), y_kindIn b hk, n_cl, show (if nI (kd b k) = 0 then _ else _ : Op) = if kd b k = 0 then _ else _ from i_eq (b := 0) (by omega) (by decide), kn_4, i_eq (by omega) (by decide)]
    by_cases h0 : kd b k = 0
    · rw [if_pos h0, hh.2.2]; exact hb.1 hc.2
    · rw [if_neg h0]
      by_cases h4 : kd b k = 4
      · rw [if_pos h4, hh.2.2]; exact hb.1 hc.2
      · rw [if_neg h4]
        rcases hc.1 with q | q | q
        · exact absurd q h0
        · exact absurd q h4
        · rw [hh.1 q]; exact hb.1 hc.2
  · intro rec k hk hc
    have hkd := kd_lt b k
    have hh := y_has a b c w7 (nI (kd b k)) hk rec M
    have hb := y_body a b c w7 hk rec M _ rfl
    unfold qo_X7_isType_181
    rw [kn_8, i_le (by decide) (by omega), if_neg (by omega), if_neg (by decide), y_kindIn b hk, n_cl, show (if nI (kd b k) = 0 then _ else _ : Op) = if kd b k = 0 then _ else _ from i_eq (b := 0) (by omega) (by decide), kn_4, i_eq (by omega) (by decide)]
    by_cases h0 : kd b k = 0
    · rw [if_pos h0, hh.2.2]; exact hb.2.1 (fun q => hc ⟨Or.inl h0, q⟩)
    · rw [if_neg h0]
      by_cases h4 : kd b k = 4
      · rw [if_pos h4, hh.2.2]; exact hb.2.1 (fun q => hc ⟨Or.inr (Or.inl h4), q⟩)
      · rw [if_neg h4]
        by_cases hs : ∃ s, s < 12 ∧ nb4 a s = k
        · rw [hh.1 hs]; exact hb.2.1 (fun q => hc ⟨Or.inr (Or.inr hs), q⟩)
        · rw [hh.2.1 hs]; exact hb.2.2
  · intro rec k hk
    left
    unfold qo_X7_isType_181
    rw [kn_8, i_le (by decide) (by omega), if_neg (by omega), if_pos rfl]
  · intro rec g
    unfold qo_X7_isType_181
    rw [kn_8, i_le (by decide) (by decide), if_pos (by decide)]
theorem kd_ok {b : Int64} (h : cKind b) {k : Nat} (hk : k < 8) : kd b k ≤ 4 := by
  rcases h k hk with q | q
  · unfold kd; omega
  · unfold kd; rw [q]; decide
theorem y_isType (a b c : Int64) (M : Me) : (isT a b c → qf_X7_isType a b c M = some (1, M)) ∧ (¬ isT a b c → qf_X7_isType a b c M = some (0, M)) := by
  have hcl := clo_le b 8
  have hz : ∀ w, qb_X7_isType_350 0 w M = some (0, M) := fun w => rfl
  have h14z : qb_X7_isType_14 a b c 0 M = some (0, M) := by
    rw [(y_loop1 a b c M).2.2, (y_loop2 a b c _ M).2.2, y_loop3z, (y_loop4 a b c _ M).2.2]; rfl
  have hx : (lg_cmp (a >>> (Int32.toInt64 48 &&& 63)) 0 = 0) ↔ cHi a := by rw [hi_y]; exact Iff.rfl
  unfold qf_X7_isType
  by_cases hh : cHi a
  · rw [if_pos (hx.mpr hh)]
    by_cases c1 : cKind b
    · rw [(y_loop1 a b c M).1 c1]
      by_cases c2 : cSlot a b
      · rw [(y_loop2 a b c _ M).1 c2]
        by_cases c3 : cSide a b
        · rw [(y_loop3 c c2 _ M).1 c3]
          have hiff : (∀ k, k < 8 → yOk a b c k) ↔ (cUse a b ∧ cTouch b c) := by
            constructor
            · intro h
              refine ⟨fun k hk q1 q2 => ?_, fun k hk => (h k hk).2⟩
              rcases (h k hk).1 with q | q | q
              · omega
              · omega
              · exact q
            · intro h k hk
              refine ⟨?_, h.2 k hk⟩
              by_cases q : kd b k = 0
              · exact Or.inl q
              · by_cases q4 : kd b k = 4
                · exact Or.inr (Or.inl q4)
                · have := kd_ok c1 hk
                  exact Or.inr (Or.inr (h.1 k hk (by omega) (by omega)))
          by_cases c4 : ∀ k, k < 8 → yOk a b c k
          · rw [(y_loop4 a b c _ M).1 c4]
            have c5 := hiff.mp c4
            unfold qb_X7_isType_350
            rw [if_neg (by decide), kn_2, i_le (by decide) (by omega)]
            by_cases c6 : 2 ≤ clo b 8
            · rw [if_pos c6]; exact ⟨fun h => absurd h.2.1 (by omega), fun _ => rfl⟩
            · rw [if_neg c6]; exact ⟨fun _ => rfl, fun h => absurd ⟨c1, by omega, hh, c2, c5.1, c3, c5.2⟩ h⟩
          · rw [(y_loop4 a b c _ M).2.1 c4]
            exact ⟨fun h => absurd (hiff.mpr ⟨h.2.2.2.2.1, h.2.2.2.2.2.2⟩) c4, fun _ => rfl⟩
        · rw [(y_loop3 c c2 _ M).2 c3, (y_loop4 a b c _ M).2.2]
          exact ⟨fun h => absurd h.2.2.2.2.2.1 c3, fun _ => rfl⟩
      · rw [(y_loop2 a b c _ M).2.1 c2, y_loop3z, (y_loop4 a b c _ M).2.2]
        exact ⟨fun h => absurd h.2.2.2.1 c2, fun _ => rfl⟩
    · rw [(y_loop1 a b c M).2.1 c1, (y_loop2 a b c _ M).2.2, y_loop3z, (y_loop4 a b c _ M).2.2]
      exact ⟨fun h => absurd h.1 c1, fun _ => rfl⟩
  · rw [if_neg (fun q => hh (hx.mp q)), h14z]
    exact ⟨fun h => absurd h.2.2.1 hh, fun _ => rfl⟩

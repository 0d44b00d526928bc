/-! What makes a type, said once; the class's check and the reference's both say it. -/
def kd (b : Int64) (k : Nat) : Nat := by8 b k % 8
theorem kd_lt (b : Int64) (k : Nat) : kd b k < 8 := Nat.mod_lt _ (by decide)
def clo (b : Int64) : Nat → Nat
  | 0 => 0
  | n + 1 => clo b n + (if kd b n = 4 then 1 else 0)
theorem clo_le (b : Int64) (n : Nat) : clo b n ≤ n := by
  induction n with
  | zero => exact Nat.le_refl _
  | succ n ih =>
    show clo b n + (if kd b n = 4 then 1 else 0) ≤ n + 1
    by_cases h : kd b n = 4
    · rw [if_pos h]; omega
    · rw [if_neg h]; omega
def cKind (b : Int64) : Prop := ∀ k, k < 8 → by8 b k ≤ 4 ∨ by8 b k = 9
def cSlot (a b : Int64) : Prop := ∀ s, s < 12 → nb4 a s < 8 ∧ 1 ≤ kd b (nb4 a s) ∧ kd b (nb4 a s) ≤ 3
def cUse (a b : Int64) : Prop := ∀ k, k < 8 → 1 ≤ kd b k → kd b k ≤ 3 → ∃ s, s < 12 ∧ nb4 a s = k
def sideOk (a b : Int64) (s : Nat) : Prop := (kd b (nb4 a (s + 1)) = 2 ∧ kd b (nb4 a s) = 3 ∧ kd b (nb4 a (s + 2)) = 3) ∨ (kd b (nb4 a (s + 1)) ≠ 2 ∧ nb4 a s = nb4 a (s + 1) ∧ nb4 a (s + 2) = nb4 a (s + 1))
def cSide (a b : Int64) : Prop := ∀ q, q < 4 → sideOk a b (3 * q)
def cTouch (b c : Int64) : Prop := ∀ k, k < 8 → (by8 c k = 0 ∨ kd b k = 3) ∧ ∀ o, o < 8 → by8 c k / 2 ^ o % 2 = 1 → kd b o = 1
def cHi (a : Int64) : Prop := a.toBitVec.toNat / 2 ^ 48 = 0
def isT (a b c : Int64) : Prop := cKind b ∧ clo b 8 < 2 ∧ cHi a ∧ cSlot a b ∧ cUse a b ∧ cSide a b ∧ cTouch b c
/-! the class -/
theorem x_byteIn (x : Int64) {k : Nat} (hk : k < 8) (M : Me) : qf_X0_byteIn x (nI k) M = some (nI (by8 x k), M) := by
  unfold qf_X0_byteIn
  rw [x_byte x hk]
theorem x_partIn (x : Int64) {k : Nat} (hk : k < 16) (M : Me) : qf_X0_partIn x (nI k) M = some (nI (nb4 x k), M) := by
  unfold qf_X0_partIn
  rw [x_nib x hk]
theorem x_kindIn (x : Int64) {k : Nat} (hk : k < 8) (M : Me) : qf_X0_kindIn x (nI k) M = some (nI (kd x k), M) := by
  have := by8_lt x k
  unfold qf_X0_kindIn
  rw [x_byteIn x hk, n_cl, n_and7 (by omega)]
  rfl
theorem x_has1 {a : Nat} (h1 : 1 ≤ a) (h3 : a ≤ 3) (M : Me) : qf_X0_hasSlots (nI a) M = some (1, M) := by
  have h : a = 1 ∨ a = 2 ∨ a = 3 := by omega
  rcases h with rfl | rfl | rfl <;> rfl
theorem x_has0 {a : Nat} (ha : a < 8) (h : ¬ (1 ≤ a ∧ a ≤ 3)) (M : Me) : qf_X0_hasSlots (nI a) M = some (0, M) := by
  have h : a = 0 ∨ a = 4 ∨ a = 5 ∨ a = 6 ∨ a = 7 := by omega
  rcases h with rfl | rfl | rfl | rfl | rfl <;> rfl
theorem x_kinds (b : Int64) (M : Me) : (cKind b ∧ clo b 8 < 2 → qf_X0_kindsAreRight b M = some (1, M)) ∧ (¬ (cKind b ∧ clo b 8 < 2) → qf_X0_kindsAreRight b M = some (0, M)) := by
  have key := lp2_chk (b := qo_X0_kindsAreRight_4 (fun a2 M => qb_X0_kindsAreRight_67 a2 M) b) (e := 8) (M := M) (K := qb_X0_kindsAreRight_67 (nI (clo b 8)) M) (F := some (0, M)) (bad := fun k => ¬ (by8 b k ≤ 4 ∨ by8 b k = 9)) (fun i => nI (clo b i)) ?_ ?_ ?_ rx_FU 0 (fu_lt (by decide)) (by decide)
  · have hend : qf_X0_kindsAreRight b M = rx_lp2 (qo_X0_kindsAreRight_4 (fun a2 M => qb_X0_kindsAreRight_67 a2 M) b) rx_FU 0 0 M := rfl
    have hcl := clo_le b 8
    have hK : qb_X0_kindsAreRight_67 (nI (clo b 8)) M = if 1 < clo b 8 then some (0, M) else some (1, M) := by
      simp (disch := omega) only [qb_X0_kindsAreRight_67, kn_1, n_lt, n_zb0]
      rfl
    rw [hend]
    refine ⟨fun h => ?_, fun h => ?_⟩
    · refine (key.1 (fun j _ hj => not_not_intro (h.1 j hj))).trans ?_
      rw [hK, if_neg (by omega)]
    · by_cases hk : cKind b
      · refine (key.1 (fun j _ hj => not_not_intro (hk j hj))).trans ?_
        have hq : ¬ clo b 8 < 2 := fun q => h ⟨hk, q⟩
        rw [hK, if_pos (by omega)]
      · have : ∃ j, 0 ≤ j ∧ j < 8 ∧ ¬ (by8 b j ≤ 4 ∨ by8 b j = 9) := by
          by_cases hh : ∃ j, 0 ≤ j ∧ j < 8 ∧ ¬ (by8 b j ≤ 4 ∨ by8 b j = 9)
          · exact hh
          · exact absurd (fun k hk' => Classical.byContradiction fun q => hh ⟨k, Nat.zero_le _, hk', q⟩) hk
        exact key.2 this
  · intro rec i hi hbad
    have hb := by8_lt b i
    have h7 : by8 b i % 8 < 8 := Nat.mod_lt _ (by decide)
    have hx : 15 < by8 b i ∨ 4 < by8 b i % 8 ∨ (8 ≤ by8 b i ∧ by8 b i % 8 ≠ 1) := by omega
    simp (disch := omega) only [qo_X0_kindsAreRight_4, kn_8, kn_15, kn_4, kn_1, n_le, n_lt, x_byteIn, n_cl, n_vv, n_and7, n_eq]
    rw [if_neg (by omega)]
    by_cases c1 : 15 < by8 b i
    · rw [if_pos c1]; rfl
    · rw [if_neg c1]
      by_cases c2 : 4 < by8 b i % 8
      · rw [if_pos c2]; rfl
      · rw [if_neg c2, if_neg (by omega), if_neg (by omega)]; rfl
  · intro rec i hi hgood
    have hb := by8_lt b i
    have hg : by8 b i ≤ 4 ∨ by8 b i = 9 := Classical.byContradiction hgood
    have hcl := clo_le b i
    have e7 : nI (by8 b i) &&& 7 = nI (kd b i) := n_and7 (by omega)
    have hkd := kd_lt b i
    have hkv : kd b i = by8 b i % 8 := rfl
    have h52 : ∀ M, qb_X0_kindsAreRight_52 rec b (nI (clo b i)) (nI i) (nI (kd b i)) M = rec (nI (clo b (i + 1))) (nI (i + 1)) M := by
      intro M
      simp (disch := omega) only [qb_X0_kindsAreRight_52, qb_X0_kindsAreRight_61, kn_4, kn_1, n_eq, n_vv, n_add]
      show _ = rec (nI (clo b i + (if kd b i = 4 then 1 else 0))) (nI (i + 1)) M
      by_cases c4 : kd b i = 4
      · rw [if_pos c4, if_pos c4]
      · rw [if_neg c4, if_neg c4]; rfl
    simp (disch := omega) only [qo_X0_kindsAreRight_4, kn_8, kn_15, n_le, n_lt, x_byteIn, n_cl, n_vv, e7]
    rw [if_neg (by omega), if_neg (by omega)]
    have h4 : ¬ (4 : Int32) < nI (kd b i) := by
      rw [kn_4, n_lt (by decide) (by omega)]; omega
    rw [if_neg h4]
    by_cases c8 : by8 b i < 8
    · rw [if_pos c8]; exact h52 M
    · have h1 : nI (kd b i) = 1 := by rw [kn_1, n_eq (by omega) (by decide)]; omega
      rw [if_neg c8, if_pos h1]; exact h52 M
  · intro rec
    simp (disch := omega) only [qo_X0_kindsAreRight_4, kn_8, n_le]
    rw [if_pos (by omega)]
/-! slots -/
set_option maxRecDepth 100000 in
theorem or_bit : ∀ p, p < 8 → ∀ m, m < 256 → nI m ||| ((1 : Int32) <<< (nI p &&& 31)) = nI (m ||| 2 ^ p) := by decide +kernel
set_option maxRecDepth 100000 in
theorem get_bit : ∀ k, k < 8 → ∀ m, m < 256 → ((((nI m >>> (nI k &&& 31)) &&& 1) = 0) ↔ m / 2 ^ k % 2 = 0) := by decide +kernel
def mk (a : Int64) : Nat → Nat
  | 0 => 0
  | n + 1 => if nb4 a n < 8 then mk a n ||| 2 ^ nb4 a n else mk a n
theorem mk_lt (a : Int64) (n : Nat) : mk a n < 256 := by
  induction n with
  | zero => show 0 < 256; decide
  | succ n ih =>
    show (if nb4 a n < 8 then mk a n ||| 2 ^ nb4 a n else mk a n) < 256
    by_cases h : nb4 a n < 8
    · rw [if_pos h]
      exact Nat.or_lt_two_pow (n := 8) ih (Nat.pow_lt_pow_right (by decide) h)
    · rw [if_neg h]; exact ih
theorem mk_bit (a : Int64) (n k : Nat) (hk : k < 8) : mk a n / 2 ^ k % 2 = 1 ↔ ∃ s, s < n ∧ nb4 a s = k := by
  have tb : ∀ m : Nat, m / 2 ^ k % 2 = 1 ↔ m.testBit k = true := fun m => by rw [Nat.testBit_eq_decide_div_mod_eq]; simp
  rw [tb]
  induction n with
  | zero => simp [mk]
  | succ n ih =>
    show ((if nb4 a n < 8 then mk a n ||| 2 ^ nb4 a n else mk a n).testBit k = true) ↔ _
    by_cases h : nb4 a n < 8
    · rw [if_pos h, Nat.testBit_or, Nat.testBit_two_pow, Bool.or_eq_true]
      constructor
      · rintro (h1 | h1)
        · obtain ⟨s, h1, h2⟩ := ih.mp h1
          exact ⟨s, by omega, h2⟩
        · exact ⟨n, by omega, by simpa using h1⟩
      · rintro ⟨s, h1, h2⟩
        by_cases hs : s = n
        · subst hs; right; simpa using h2
        · left; exact ih.mpr ⟨s, by omega, h2⟩
    · rw [if_neg h]
      constructor
      · intro h1
        obtain ⟨s, h1, h2⟩ := ih.mp h1
        exact ⟨s, by omega, h2⟩
      · rintro ⟨s, h1, h2⟩
        by_cases hs : s = n
        · subst hs; omega
        · exact ih.mpr ⟨s, by omega, h2⟩
theorem not_all {e : Nat} {c : Nat → Prop} (h : ¬ ∀ j, j < e → c j) : ∃ j, 0 ≤ j ∧ j < e ∧ ¬ c j := by
  by_cases hh : ∃ j, 0 ≤ j ∧ j < e ∧ ¬ c j
  · exact hh
  · exact absurd (fun k hk => Classical.byContradiction fun q => hh ⟨k, Nat.zero_le _, hk, q⟩) h
theorem x_use (a b : Int64) (M : Me) : (cUse a b → qb_X0_slotsAreRight_68 b (nI (mk a 12)) M = some (1, M)) ∧ (¬ cUse a b → qb_X0_slotsAreRight_68 b (nI (mk a 12)) M = some (0, M)) := by
  have key := lp1_chk (b := qo_X0_slotsAreRight_71 b (nI (mk a 12))) (e := 8) (M := M) (K := some (1, M)) (F := some (0, M)) (bad := fun k => ¬ (1 ≤ kd b k → kd b k ≤ 3 → ∃ s, s < 12 ∧ nb4 a s = k)) ?_ ?_ ?_ rx_FU 0 (fu_lt (by decide)) (by decide)
  · have hend : qb_X0_slotsAreRight_68 b (nI (mk a 12)) M = rx_lp1 (qo_X0_slotsAreRight_71 b (nI (mk a 12))) rx_FU 0 M := rfl
    rw [hend]
    exact ⟨fun h => key.1 (fun j _ hj => not_not_intro (h j hj)), fun h => key.2 (not_all h)⟩
  · intro rec i hi hbad
    have hkd := kd_lt b i
    have h1 : 1 ≤ kd b i ∧ kd b i ≤ 3 := by
      constructor
      · exact Classical.byContradiction fun q => hbad (fun h => absurd h q)
      · exact Classical.byContradiction fun q => hbad (fun _ h => absurd h q)
    have h2 : ¬ ∃ s, s < 12 ∧ nb4 a s = i := fun q => hbad (fun _ _ => q)
    have h3 : mk a 12 / 2 ^ i % 2 = 0 := by
      have h4 : ¬ (mk a 12 / 2 ^ i % 2 = 1) := fun q => h2 ((mk_bit a 12 i hi).mp q)
      have h5 : mk a 12 / 2 ^ i % 2 < 2 := Nat.mod_lt _ (by decide)
      omega
    simp (disch := omega) only [qo_X0_slotsAreRight_71, kn_8, n_le, x_kindIn, n_cl]
    rw [if_neg (by omega), x_has1 h1.1 h1.2, n_cl, if_neg (by decide), if_pos ((get_bit i hi _ (mk_lt a 12)).mpr h3)]
    rfl
  · intro rec i hi hgood
    have hg := Classical.byContradiction hgood
    have hkd := kd_lt b i
    have h102 : ∀ M, qb_X0_slotsAreRight_102 rec b (nI (mk a 12)) (nI i) M = rec (nI (i + 1)) M := by
      intro M
      simp (disch := omega) only [qb_X0_slotsAreRight_102, kn_1, n_vv, n_add]
    simp (disch := omega) only [qo_X0_slotsAreRight_71, kn_8, n_le, x_kindIn, n_cl]
    rw [if_neg (by omega)]
    by_cases hr : 1 ≤ kd b i ∧ kd b i ≤ 3
    · have h3 : ¬ mk a 12 / 2 ^ i % 2 = 0 := by
        have h4 := (mk_bit a 12 i hi).mpr (hg hr.1 hr.2)
        omega
      rw [x_has1 hr.1 hr.2, n_cl, if_neg (by decide), if_neg (fun q => h3 ((get_bit i hi _ (mk_lt a 12)).mp q))]
      exact h102 M
    · rw [x_has0 hkd hr, n_cl, if_pos rfl]
      exact h102 M
  · intro rec
    simp (disch := omega) only [qo_X0_slotsAreRight_71, kn_8, n_le]
    rw [if_pos (by omega)]
    rfl
theorem x_slots (a b : Int64) (M : Me) : (cHi a ∧ cSlot a b ∧ cUse a b → qf_X0_slotsAreRight a b M = some (1, M)) ∧ (¬ (cHi a ∧ cSlot a b ∧ cUse a b) → qf_X0_slotsAreRight a b M = some (0, M)) := by
  have key := lp2_chk (b := qo_X0_slotsAreRight_17 (fun a4 M => qb_X0_slotsAreRight_68 b a4 M) a b) (e := 12) (M := M) (K := qb_X0_slotsAreRight_68 b (nI (mk a 12)) M) (F := some (0, M)) (bad := fun s => ¬ (nb4 a s < 8 ∧ 1 ≤ kd b (nb4 a s) ∧ kd b (nb4 a s) ≤ 3)) (fun i => nI (mk a i)) ?_ ?_ ?_ rx_FU 0 (fu_lt (by decide)) (by decide)
  · have hu := x_use a b M
    have hx : (lg_cmp ((Int64.toUInt64 a >>> ((Int32.toInt64 48).toUInt64 &&& Int64.toUInt64 63)).toInt64) 0 = 0) ↔ cHi a := by rw [hi_x]; exact Iff.rfl
    unfold qf_X0_slotsAreRight
    by_cases hh : cHi a
    · by_cases hs : cSlot a b
      · have k1 := key.1 (fun j _ hj => not_not_intro (hs j hj))
        refine ⟨fun h => ?_, fun h => ?_⟩
        · exact (if_pos (hx.mpr hh)).trans (k1.trans (hu.1 h.2.2))
        · exact (if_pos (hx.mpr hh)).trans (k1.trans (hu.2 (fun q => h ⟨hh, hs, q⟩)))
      · refine ⟨fun h => absurd h.2.1 hs, fun _ => ?_⟩
        exact (if_pos (hx.mpr hh)).trans (key.2 (not_all hs))
    · exact ⟨fun h => absurd h.1 hh, fun _ => (if_neg (fun q => hh (hx.mp q))).trans rfl⟩
  · intro rec i hi hbad
    have hn := nb4_lt a i
    simp (disch := omega) only [qo_X0_slotsAreRight_17, kn_12, kn_8, n_le, x_partIn, n_cl]
    rw [if_neg (by omega)]
    by_cases h8 : 8 ≤ nb4 a i
    · rw [if_pos h8]; rfl
    · have hkd := kd_lt b (nb4 a i)
      rw [if_neg h8, x_kindIn b (by omega), n_cl, x_has0 hkd (fun q => hbad ⟨by omega, q⟩), n_cl, if_pos rfl]
      rfl
  · intro rec i hi hgood
    have hg := Classical.byContradiction hgood
    have hn := nb4_lt a i
    simp (disch := omega) only [qo_X0_slotsAreRight_17, kn_12, kn_8, n_le, x_partIn, n_cl]
    rw [if_neg (by omega), if_neg (by omega), x_kindIn b hg.1, n_cl, x_has1 hg.2.1 hg.2.2, n_cl, if_neg (by decide), n_vv, n_vv, or_bit _ hg.1 _ (mk_lt a i)]
    show rec (nI (mk a i ||| 2 ^ nb4 a i)) (nI i + nI 1) M = rec (nI (if nb4 a i < 8 then mk a i ||| 2 ^ nb4 a i else mk a i)) (nI (i + 1)) M
    rw [if_pos hg.1, n_add]
  · intro rec
    simp (disch := omega) only [qo_X0_slotsAreRight_17, kn_12, n_le]
    rw [if_pos (by omega)]

/-! Final points: the class. -/
theorem sh_mod32 (v : BitVec 32) (j : Nat) (h : j + 1 ≤ 32) : (v.sshiftRight j).toNat % 2 = v.toNat / 2 ^ j % 2 := by
  have e1 : (v.sshiftRight j).getLsbD 0 = v.getLsbD j := by
    rw [BitVec.getLsbD_sshiftRight]
    have h2 : j < 32 := by omega
    simp [h2]
  have a : (v.sshiftRight j).toNat.testBit 0 = v.toNat.testBit j := e1
  rw [Nat.testBit_eq_decide_div_mod_eq, Nat.testBit_eq_decide_div_mod_eq] at a
  have b := decide_eq_decide.mp a
  rw [Nat.pow_zero, Nat.div_one] at b
  omega
theorem bit31 {v t : Nat} (hv : v < 2147483648) (ht : t < 31) : ((nI v >>> (nI t &&& 31)) &&& 1) = nI (v / 2 ^ t % 2) := by
  have hk : ∀ t, t < 31 → (nI t &&& 31) = nI t := by decide
  have hs : ∀ t, t < 31 → (BitVec.ofNat 32 t).smod 32 = BitVec.ofNat 32 t := by decide
  rw [hk t ht]
  apply Int32.toBitVec_inj.mp
  rw [Int32.toBitVec_and, Int32.toBitVec_shiftRight]
  show (BitVec.ofNat 32 v).sshiftRight' ((BitVec.ofNat 32 t).smod 32) &&& BitVec.ofNat 32 1 = BitVec.ofNat 32 (v / 2 ^ t % 2)
  rw [hs t ht]
  have e : ((BitVec.ofNat 32 v).sshiftRight' (BitVec.ofNat 32 t)) = (BitVec.ofNat 32 v).sshiftRight t := by
    unfold BitVec.sshiftRight'
    rw [BitVec.toNat_ofNat, Nat.mod_eq_of_lt (by omega)]
  rw [e]
  apply BitVec.eq_of_toNat_eq
  rw [BitVec.toNat_and, BitVec.toNat_ofNat, BitVec.toNat_ofNat, Nat.mod_eq_of_lt (show 1 < 2 ^ 32 by decide), Nat.and_one_is_mod, sh_mod32 _ _ (by omega), BitVec.toNat_ofNat, Nat.mod_eq_of_lt (show v < 2 ^ 32 by omega), Nat.mod_eq_of_lt (show v / 2 ^ t % 2 < 2 ^ 32 by omega)]
def Mk (M : Me) (c : Nat) (D : Nat → Prop) : Prop := M 2 11 = nI c ∧ ∀ w, w < 192 → (D w → M 24 w = nI c) ∧ (¬ D w → ∃ v, v < c ∧ M 24 w = nI v)
theorem Mk.eqv {M : Me} {c : Nat} {D E : Nat → Prop} (h : Mk M c D) (e : ∀ y, D y ↔ E y) : Mk M c E := ⟨h.1, fun w hw => ⟨fun g => (h.2 w hw).1 ((e w).mpr g), fun g => (h.2 w hw).2 (fun q => g ((e w).mp q))⟩⟩
theorem Mk.add {M : Me} {c w : Nat} {D : Nat → Prop} (h : Mk M c D) : Mk (rx_st M 24 w (nI c)) c (fun y => D y ∨ y = w) := by
  refine ⟨by rw [st_cell (by decide)]; exact h.1, fun y hy => ⟨fun g => ?_, fun g => ?_⟩⟩
  · rw [st_get]
    by_cases hyw : y = w
    · rw [if_pos ⟨rfl, hyw⟩]
    · rw [if_neg (fun q => hyw q.2)]
      exact (h.2 y hy).1 (g.elim id (fun e => absurd e hyw))
  · rw [st_get, if_neg (fun q => g (Or.inr q.2))]
    exact (h.2 y hy).2 (fun q => g (Or.inl q))
def En (S : Su) (T : Tl) (t m : Nat) (D : Nat → Prop) (i y : Nat) : Prop := D y ∨ (opn S T y = 0 ∧ ∃ o, o < i ∧ m / 2 ^ o % 2 = 1 ∧ labs S T (8 * t + o) = y)
theorem x_newCities {S : Su} {T : Tl} {M : Me} {mn : Nat → Nat} {c t m : Nat} {D : Nat → Prop} (hwt : wfTl S T) (hX : XTab M S T mn) (ht : t < T.length) (hm : m < 256) (hc : c < 2147483648) (h : Mk M c D) : ∃ k M2, qf_X5_newFinishedCities (nI t) (nI m) M = some (nI k, M2) ∧ cd (En S T t m D 8) = cd D + k ∧ Mk M2 c (En S T t m D 8) ∧ ∀ a i, a ≠ 24 → M2 a i = M a i := by
  have h24 := hwt.1
  have L := lp2_up (b := qo_X5_newFinishedCities_5 (nI t) (nI m)) (e := 8) (K := fun a M => some (a, M)) (P := fun i a M2 => ∃ k, a = nI k ∧ cd ((En S T t m D i)) = cd D + k ∧ Mk M2 c ((En S T t m D i)) ∧ ∀ a i, a ≠ 24 → M2 a i = M a i) ?_ ?_ rx_FU 0 0 M (fu_lt (by decide)) (by decide) ⟨0, rfl, ?_, ?_, fun _ _ _ => rfl⟩
  · obtain ⟨a, M2, ⟨k, p1, p2, p3, p4⟩, L⟩ := L
    exact ⟨k, M2, by rw [← p1]; exact L, p2, p3, p4⟩
  · intro rec i a M2 hi hP
    obtain ⟨k, rfl, p2, p3, p4⟩ := hP
    have hX2 : XTab M2 S T mn := XTab_keep hX (fun c i hc => p4 c i (by omega))
    have hle := labs_le S T (8 * t + i)
    have hid := (labs_lab S T).2.1 (8 * t + i)
    have e28 : M2 28 (labs S T (8 * t + i)) = nI (opn S T (labs S T (8 * t + i))) := (hX2.2.2.1.2 _ (by omega) hid).2.2.1
    have ho := opn_le S T (labs S T (8 * t + i))
    have h81 : ∀ (a : Int32) (M : Me), qb_X5_newFinishedCities_81 rec (nI t) (nI m) a (nI i) M = rec a (nI (i + 1)) M := by
      intro a M
      unfold qb_X5_newFinishedCities_81
      rw [n_vv, kn_1, n_add]
    have same : (∀ y, (En S T t m D i) y ↔ (En S T t m D (i + 1)) y) → (∃ a' M', (∃ k, a' = nI k ∧ cd ((En S T t m D (i + 1))) = cd D + k ∧ Mk M' c ((En S T t m D (i + 1))) ∧ ∀ a i, a ≠ 24 → M' a i = M a i) ∧ rec (nI k) (nI (i + 1)) M2 = rec a' (nI (i + 1)) M') := fun he => ⟨nI k, M2, ⟨k, rfl, by rw [← cd_eq he]; exact p2, p3.eqv he, p4⟩, rfl⟩
    have low : ∀ y, (En S T t m D i) y → (En S T t m D (i + 1)) y := fun y hy => hy.elim Or.inl (fun ⟨q1, o, q2, q3, q4⟩ => Or.inr ⟨q1, o, by omega, q3, q4⟩)
    have up : ∀ y, (En S T t m D (i + 1)) y → (En S T t m D i) y ∨ (opn S T y = 0 ∧ m / 2 ^ i % 2 = 1 ∧ labs S T (8 * t + i) = y) := fun y hy => hy.elim (fun q => Or.inl (Or.inl q)) (fun ⟨q1, o, q2, q3, q4⟩ => by
      by_cases hoi : o = i
      · subst hoi; exact Or.inr ⟨q1, q3, q4⟩
      · exact Or.inl (Or.inr ⟨q1, o, by omega, q3, q4⟩))
    unfold qo_X5_newFinishedCities_5
    rw [kn_8, i_le (by decide) (by omega), if_neg (by omega), bit31 (by omega) (by omega), i_z (by omega), h81]
    by_cases c1 : m / 2 ^ i % 2 = 0
    · rw [if_pos c1]
      exact same (fun y => ⟨low y, fun q => (up y q).elim id (fun q2 => absurd q2.2.1 (by omega))⟩)
    · rw [if_neg c1, n_mul, n_add, show t * 8 + i = 8 * t + i by omega, x_rootOf hX2.2.2.1 (by omega) (by omega), n_cl, n_ld (by omega) (by decide), e28, i_z (by omega)]
      generalize hw : labs S T (8 * t + i) = w at *
      by_cases c2 : opn S T w = 0
      · rw [if_pos c2, n_ld (by omega) (by decide), n_vv, p3.1]
        by_cases c3 : (En S T t m D i) w
        · rw [(p3.2 w (by omega)).1 c3, if_pos rfl, h81]
          exact same (fun y => ⟨low y, fun q => (up y q).elim id (fun q2 => by rw [← q2.2.2]; exact c3)⟩)
        · obtain ⟨v, v1, v2⟩ := (p3.2 w (by omega)).2 c3
          have he : ∀ y, ((En S T t m D i) y ∨ y = w) ↔ (En S T t m D (i + 1)) y := fun y => ⟨fun q => q.elim (low y) (fun e => by rw [e]; exact Or.inr ⟨c2, i, by omega, by omega, hw⟩), fun q => (up y q).elim Or.inl (fun q2 => Or.inr q2.2.2.symm)⟩
          rw [v2, i_eq (by omega) hc, if_neg (by omega), n_vv, n_sv (by omega) (by decide), n_vv, kn_1, n_add, h81]
          refine ⟨_, _, ⟨k + 1, rfl, ?_, p3.add.eqv he, fun a i ha => by rw [st_cell ha]; exact p4 a i ha⟩, rfl⟩
          rw [← cd_eq he, cd_add (by omega) c3, p2]
          omega
      · rw [if_neg c2, h81]
        exact same (fun y => ⟨low y, fun q => (up y q).elim id (fun q2 => absurd q2.1 (by rw [← q2.2.2]; exact c2))⟩)
  · intro rec a M2 _
    unfold qo_X5_newFinishedCities_5
    rw [kn_8, i_le (by decide) (by decide), if_pos (by decide)]
  · rw [Nat.add_zero]
    exact cd_eq (fun y => ⟨fun q => q.elim id (fun ⟨_, o, q2, _⟩ => absurd q2 (by omega)), Or.inl⟩)
  · exact h.eqv (fun y => ⟨Or.inl, fun q => q.elim id (fun ⟨_, o, q2, _⟩ => absurd q2 (by omega))⟩)
theorem Dq_mono {S : Su} {T : Tl} {r b b2 y : Nat} (h : Dq S T r b y) (hb : b ≤ b2) : Dq S T r b2 y := by
  obtain ⟨h0, x, h1, h2⟩ := h
  exact ⟨h0, x, by omega, h2⟩
theorem Dq_step {S : Su} {T : Tl} {r b y : Nat} (h : Dq S T r (b + 1) y) : Dq S T r b y ∨ (labs S T b = r ∧ opn S T y = 0 ∧ ∃ o, o < 8 ∧ bt S T b o ∧ labs S T (8 * (b / 8) + o) = y) := by
  obtain ⟨h0, x, h1, h2, h3⟩ := h
  by_cases hx : x = b
  · subst hx; exact Or.inr ⟨h2, h0, h3⟩
  · exact Or.inl ⟨h0, x, by omega, h2, h3⟩
theorem x_tileCities {S : Su} {T : Tl} {M : Me} {mn : Nat → Nat} {c t r B : Nat} {K : Int32 → Me → Op} (hw : wfS S) (hwt : wfTl S T) (hX : XTab M S T mn) (ht : t < T.length) (hr : r < 8 * T.length) (hc : c < 2147483648) (h : Mk M c (Dq S T r (8 * t))) (hB : B = cd (Dq S T r (8 * t))) : ∃ M2, rx_lp2 (qo_X5_finishedCitiesAt_44 K (nI r) (nI t)) rx_FU (nI B) 0 M = K (nI (cd (Dq S T r (8 * t + 8)))) M2 ∧ Mk M2 c (Dq S T r (8 * t + 8)) ∧ ∀ a i, a ≠ 24 → M2 a i = M a i := by
  have h24 := hwt.1
  have h12 := hw.1
  have hty := (hwt.2.1 t ht).1
  have L := lp2_up (b := qo_X5_finishedCitiesAt_44 K (nI r) (nI t)) (e := 8) (K := K) (P := fun i a M2 => a = nI (cd (Dq S T r (8 * t + i))) ∧ Mk M2 c (Dq S T r (8 * t + i)) ∧ ∀ a i, a ≠ 24 → M2 a i = M a i) ?_ ?_ rx_FU 0 (nI B) M (fu_lt (by decide)) (by decide) ⟨by rw [hB]; rfl, h, fun _ _ _ => rfl⟩
  · obtain ⟨a, M2, ⟨p1, p2, p3⟩, L⟩ := L
    exact ⟨M2, by rw [← p1]; exact L, p2, p3⟩
  · intro rec i a M2 hi hP
    obtain ⟨rfl, p2, p3⟩ := hP
    have hX2 : XTab M2 S T mn := XTab_keep hX (fun c i hc => p3 c i (by omega))
    have e21 := (hX2.1.2.2.1 t ht).2.1
    have e13 := (hX2.1.1.2.2.2.2.1 (ty T t) i hty hi).2.2.1
    have hb := ((hw.2.2.2 _ hty).2.1 i hi).2.2
    have hle := labs_le S T (8 * t + i)
    have hd : (8 * t + i) / 8 = t := by omega
    have hmo : (8 * t + i) % 8 = i := by omega
    have hbt : ∀ o, bt S T (8 * t + i) o ↔ sT S (ty T t) i / 2 ^ o % 2 = 1 := fun o => by unfold bt; rw [hd, hmo]
    have h106 : ∀ (a : Int32) (M : Me), qb_X5_finishedCitiesAt_106 rec (nI r) a (nI t) (nI i) M = rec a (nI (i + 1)) M := by
      intro a M
      unfold qb_X5_finishedCitiesAt_106
      rw [n_vv, kn_1, n_add]
    have same : (∀ y, Dq S T r (8 * t + i) y ↔ Dq S T r (8 * t + (i + 1)) y) → (∃ a' M', (a' = nI (cd (Dq S T r (8 * t + (i + 1)))) ∧ Mk M' c (Dq S T r (8 * t + (i + 1))) ∧ ∀ a i, a ≠ 24 → M' a i = M a i) ∧ rec (nI (cd (Dq S T r (8 * t + i)))) (nI (i + 1)) M2 = rec a' (nI (i + 1)) M') := fun he => ⟨_, M2, ⟨by rw [cd_eq he], p2.eqv he, p3⟩, rfl⟩
    unfold qo_X5_finishedCitiesAt_44
    rw [kn_8, i_le (by decide) (by omega), if_neg (by omega), n_ld (by omega) (by decide), e21, n_mul, n_add, n_ld (by omega) (by decide), e13, i_z (by omega), h106]
    by_cases c1 : sT S (ty T t) i = 0
    · rw [if_pos c1]
      refine same (fun y => ⟨fun q => Dq_mono q (by omega), fun q => (Dq_step q).elim id (fun ⟨_, _, o, _, q4, _⟩ => ?_)⟩)
      have := (hbt o).mp q4
      rw [c1, Nat.zero_div] at this
      omega
    · rw [if_neg c1, n_mul, n_add, show t * 8 + i = 8 * t + i by omega, x_rootOf hX2.2.2.1 (by omega) (by omega), n_cl, i_eq (by omega) (by omega)]
      by_cases c2 : labs S T (8 * t + i) = r
      · obtain ⟨k, M3, b1, b2, b3, b4⟩ := x_newCities hwt hX2 ht hb hc p2
        have he : ∀ y, En S T t (sT S (ty T t) i) (Dq S T r (8 * t + i)) 8 y ↔ Dq S T r (8 * t + (i + 1)) y := by
          intro y
          constructor
          · rintro (q | ⟨q1, o, q2, q3, q4⟩)
            · exact Dq_mono q (by omega)
            · exact ⟨q1, 8 * t + i, by omega, c2, o, q2, (hbt o).mpr q3, by rw [hd]; exact q4⟩
          · intro q
            rcases Dq_step q with q | ⟨_, q1, o, q2, q3, q4⟩
            · exact Or.inl q
            · have e : 8 * ((8 * t + i) / 8) + o = 8 * t + o := by omega
              exact Or.inr ⟨q1, o, q2, (hbt o).mp q3, by rw [← e]; exact q4⟩
        rw [if_pos c2, b1, n_cl, n_vv, h106, n_add, ← b2]
        exact ⟨_, M3, ⟨by rw [cd_eq he], b3.eqv he, fun a i ha => by rw [b4 a i ha, p3 a i ha]⟩, rfl⟩
      · rw [if_neg c2, h106]
        exact same (fun y => ⟨fun q => Dq_mono q (by omega), fun q => (Dq_step q).elim id (fun ⟨q1, _⟩ => absurd q1 c2)⟩)
  · intro rec a M2 _
    unfold qo_X5_finishedCitiesAt_44
    rw [kn_8, i_le (by decide) (by decide), if_pos (by decide)]
/-- the counter of city counts, and its marks -/
def XC (M : Me) (n : Nat) : Prop := ∃ c, c ≤ n ∧ M 2 11 = nI c ∧ ∀ w, w < 192 → ∃ v, v ≤ c ∧ M 24 w = nI v
theorem x_cities {S : Su} {T : Tl} {M : Me} {mn : Nat → Nat} {n r : Nat} (hw : wfS S) (hwt : wfTl S T) (hm : mat S T) (hX : XTab M S T mn) (hr : r < 8 * T.length) (hl : labs S T r = r) (hn : n < 2147483000) (h : XC M n) : ∃ M2, qf_X5_finishedCitiesAt (nI r) M = some (nI (ctn S T r), M2) ∧ XC M2 (n + 1) ∧ ∀ a i, a ≠ 24 → ¬ (a = 2 ∧ i = 11) → M2 a i = M a i := by
  have h24 := hwt.1
  obtain ⟨c, c1, c2, c3⟩ := h
  let N : Me := rx_st M 2 11 (nI (c + 1))
  have en : ∀ a i, ¬ (a = 2 ∧ i = 11) → N a i = M a i := fun a i h => by show rx_st _ _ _ _ a i = _; rw [st_get, if_neg h]
  have hXN : XTab N S T mn := XTab_eq (J := 0) hX (fun a i k => (en a i (by unfold Kt at k; omega)).symm)
  have hM0 : Mk N (c + 1) (Dq S T r (8 * 0)) := ⟨st_same _ _ _ _, fun w hw => ⟨fun ⟨_, x, q, _⟩ => absurd q (by omega), fun _ => by
    obtain ⟨v, v1, v2⟩ := c3 w hw
    exact ⟨v, by omega, by rw [en 24 w (by omega)]; exact v2⟩⟩⟩
  have e0 : cd (Dq S T r (8 * 0)) = 0 := sumN_zero (fun w _ => ci_f (fun ⟨_, x, q, _⟩ => absurd q (by omega)))
  have L := lp2_up (b := qo_X5_finishedCitiesAt_14 (nI r)) (e := T.length) (K := fun a M => some (a, M)) (P := fun t a M2 => a = nI (cd (Dq S T r (8 * t))) ∧ Mk M2 (c + 1) (Dq S T r (8 * t)) ∧ ∀ a i, a ≠ 24 → M2 a i = N a i) ?_ ?_ rx_FU 0 0 N (fu_lt (by omega)) (Nat.zero_le _) ⟨by rw [e0]; rfl, hM0, fun _ _ _ => rfl⟩
  · obtain ⟨a, M2, ⟨p1, p2, p3⟩, L⟩ := L
    refine ⟨M2, ?_, ⟨c + 1, by omega, p2.1, fun w hw => ?_⟩, fun a i h1 h2 => by rw [p3 a i h1, en a i h2]⟩
    · unfold qf_X5_finishedCitiesAt
      rw [n_vv, c2, kn_1, n_add, n_vv, ← Dq_ctn hw hwt hm, ← p1]
      exact L
    · by_cases q : Dq S T r (8 * T.length) w
      · exact ⟨c + 1, Nat.le_refl _, (p2.2 w hw).1 q⟩
      · obtain ⟨v, v1, v2⟩ := (p2.2 w hw).2 q
        exact ⟨v, by omega, v2⟩
  · intro rec t a M2 ht hP
    obtain ⟨rfl, p2, p3⟩ := hP
    have hX2 : XTab M2 S T mn := XTab_keep hXN (fun c i hc => p3 c i (by omega))
    have e26 : M2 26 r = nI (bitL (labs S T) r (8 * T.length)) := (hX2.2.2.1.2 r hr hl).1
    have hbl := bitL_lt (lab := labs S T) (r := r) (show 8 * T.length ≤ 192 by omega)
    have h112 : ∀ (a : Int32) (M : Me), qb_X5_finishedCitiesAt_112 rec (nI r) a (nI t) M = rec a (nI (t + 1)) M := by
      intro a M
      unfold qb_X5_finishedCitiesAt_112
      rw [n_vv, kn_1, n_add]
    unfold qo_X5_finishedCitiesAt_14
    rw [n_vv, hX2.1.2.1, i_le (by omega) (by omega), if_neg (by omega), n_ld (by omega) (by decide), e26, bit31 (by omega) (by omega), i_z (by omega), h112]
    by_cases c4 : bitL (labs S T) r (8 * T.length) / 2 ^ t % 2 = 0
    · have he : ∀ y, Dq S T r (8 * t) y ↔ Dq S T r (8 * (t + 1)) y := by
        intro y
        refine ⟨fun q => Dq_mono q (by omega), ?_⟩
        rintro ⟨q0, x, q1, q2, q3⟩
        refine ⟨q0, x, ?_, q2, q3⟩
        by_cases hx : x < 8 * t
        · exact hx
        · exfalso
          have := (bitL_bit (lab := labs S T) (r := r) (N := 8 * T.length) (t := t)).mpr ⟨x, by omega, q2, by omega⟩
          rw [Nat.testBit_eq_decide_div_mod_eq] at this
          have := of_decide_eq_true this
          omega
      rw [if_pos c4]
      exact ⟨_, M2, ⟨by rw [cd_eq he], p2.eqv he, p3⟩, rfl⟩
    · obtain ⟨M3, b1, b2, b3⟩ := x_tileCities (K := fun a2 M => qb_X5_finishedCitiesAt_112 rec (nI r) a2 (nI t) M) hw hwt hX2 ht hr (by omega) p2 rfl
      rw [if_neg c4, b1, h112]
      exact ⟨_, M3, ⟨rfl, b2, fun a i ha => by rw [b3 a i ha, p3 a i ha]⟩, rfl⟩
  · intro rec a M2 hP
    have hX2 : XTab M2 S T mn := XTab_keep hXN (fun c i hc => hP.2.2 c i (by omega))
    unfold qo_X5_finishedCitiesAt_14
    rw [n_vv, hX2.1.2.1, i_le (by omega) (by omega), if_pos (by omega)]
theorem XC.up {M : Me} {n m : Nat} (h : XC M n) (hm : n ≤ m) : XC M m := by
  obtain ⟨c, c1, c2⟩ := h
  exact ⟨c, by omega, c2⟩
theorem XC.keep {M M2 : Me} {n : Nat} (h : XC M n) (e : ∀ c i, c = 24 ∨ (c = 2 ∧ i = 11) → M2 c i = M c i) : XC M2 n := by
  obtain ⟨c, c1, c2, c3⟩ := h
  exact ⟨c, c1, by rw [e 2 11 (by omega)]; exact c2, fun w hw => by rw [e 24 w (by omega)]; exact c3 w hw⟩
theorem x_finalWorth {S : Su} {T : Tl} {M : Me} {mn : Nat → Nat} {n r : Nat} (hw : wfS S) (hwt : wfTl S T) (hm : mat S T) (hX : XTab M S T mn) (hr : r < 8 * T.length) (hl : labs S T r = r) (hn : n < 2147483000) (h : XC M n) : ∃ M2, qf_X5_finalWorth (nI r) M = some (nI (fwo S T r), M2) ∧ XC M2 (n + 1) ∧ ∀ a i, a ≠ 24 → ¬ (a = 2 ∧ i = 11) → M2 a i = M a i := by
  have h24 := hwt.1
  have e := hX.2.2.1.2 r hr hl
  have hk := kdp_le hw hwt hr
  have ht : r / 8 < T.length := by omega
  have hin := (hwt.2.1 _ ht).2.2
  have hq : tc T (r / 8) < 441 := by have := hin.1; have := hin.2.2.2; omega
  obtain ⟨M2, a1, a2, a3⟩ := x_cities hw hwt hm hX hr hl hn h
  unfold qf_X5_finalWorth fwo
  rw [n_ld (by omega) (by decide), e.1, x_popR hwt, n_cl, x_kindOf hw hwt hX.1 hr, n_cl, kn_1, i_eq (by omega) (by decide), kn_2, i_eq (by omega) (by decide), kn_3, i_eq (by omega) (by decide), kn_4, i_eq (by omega) (by decide), n_ld (by omega) (by decide), e.2.1, n_add, kn_8, n_div (by omega) (by decide) (by decide), n_ld (by omega) (by decide), (hX.1.2.2.1 _ ht).1, n_ld hq (by decide), hX.2.1.2 _ hq, n_add, a1, n_cl, n_mul]
  by_cases k1 : kdp S T r = 1
  · rw [if_pos k1, if_pos k1]
    exact ⟨M, rfl, h.up (by omega), fun _ _ _ _ => rfl⟩
  · rw [if_neg k1, if_neg k1]
    by_cases k2 : kdp S T r = 2
    · rw [if_pos k2, if_pos k2]
      exact ⟨M, rfl, h.up (by omega), fun _ _ _ _ => rfl⟩
    · rw [if_neg k2, if_neg k2]
      by_cases k3 : kdp S T r = 3
      · rw [if_pos k3, if_neg (by omega)]
        exact ⟨M2, rfl, a2, a3⟩
      · rw [if_neg k3]
        by_cases k4 : kdp S T r = 4
        · rw [if_pos k4, if_pos k4]
          exact ⟨M, rfl, h.up (by omega), fun _ _ _ _ => rfl⟩
        · rw [if_neg k4, if_neg k4]
          exact ⟨M2, rfl, a2, a3⟩

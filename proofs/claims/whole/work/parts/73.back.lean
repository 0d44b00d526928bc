/-! Which places of the class's memory matter, and taking joins back. -/
def Kp (n J C w c i : Nat) : Prop := c = 1 ∨ (9 ≤ c ∧ c ≤ 19) ∨ (c = 2 ∧ i ≠ 11) ∨ c = 3 ∨ c = 4 ∨ (20 ≤ c ∧ c ≤ 23 ∧ i < n) ∨ (25 ≤ c ∧ c ≤ 29 ∧ i < 8 * n) ∨ ((c = 30 ∨ c = 31) ∧ i < J) ∨ ((c = 32 ∨ c = 33) ∧ i < C) ∨ c = 34 ∨ c = 35 ∨ (c = 37 ∧ i < 10 * w)
def EqK (n J C w : Nat) (M M2 : Me) : Prop := ∀ c i, Kp n J C w c i → M c i = M2 c i
theorem EqK.rf {n J C w : Nat} {M : Me} : EqK n J C w M M := fun _ _ _ => rfl
theorem EqK.sy {n J C w : Nat} {M M2 : Me} (h : EqK n J C w M M2) : EqK n J C w M2 M := fun c i k => (h c i k).symm
theorem EqK.tr {n J C w : Nat} {M M2 M3 : Me} (h : EqK n J C w M M2) (h2 : EqK n J C w M2 M3) : EqK n J C w M M3 := fun c i k => (h c i k).trans (h2 c i k)
theorem Kp.mono {n J C w n2 J2 C2 w2 c i : Nat} (h : Kp n J C w c i) (h1 : n ≤ n2) (h2 : J ≤ J2) (h3 : C ≤ C2) (h4 : w ≤ w2) : Kp n2 J2 C2 w2 c i := by
  unfold Kp at *
  omega
theorem EqK.less {n J C w n2 J2 C2 w2 : Nat} {M M2 : Me} (h : EqK n2 J2 C2 w2 M M2) (h1 : n ≤ n2) (h2 : J ≤ J2) (h3 : C ≤ C2) (h4 : w ≤ w2) : EqK n J C w M M2 := fun c i k => h c i (k.mono h1 h2 h3 h4)
/-- the places of the regions alone -/
def Kr (n J c i : Nat) : Prop := (25 ≤ c ∧ c ≤ 29 ∧ i < 8 * n) ∨ (c = 3 ∧ i = 7) ∨ ((c = 30 ∨ c = 31) ∧ i < J)
def EqR (n J : Nat) (M M2 : Me) : Prop := ∀ c i, Kr n J c i → M c i = M2 c i
def uj (M : Me) (J lo hi : Nat) : Me := rx_st (rx_st (rx_st (rx_st (rx_st (rx_st M 25 hi (nI hi)) 26 lo (M 31 J)) 27 lo (M 27 lo - M 27 hi)) 28 lo (M 28 lo - M 28 hi)) 29 lo (M 29 lo - M 29 hi)) 3 7 (nI J)
def pr (J : Nat) : Int32 := nI J + (-1)
theorem pr_succ (J : Nat) : pr (J + 1) = nI J := pk_m1 J
theorem pr_lt {J : Nat} (h : J < 2147483648) : pr J < nI J := by
  cases J with
  | zero => decide
  | succ J => rw [pr_succ]; exact nI_lt (by omega) h
theorem x_unjoin {M : Me} {J J0 lo hi : Nat} (hJ0 : J0 ≤ J) (hJ : J < 192) (hlo : lo < 192) (hhi : hi < 192) (hne : hi ≠ lo) (h1 : M 30 J = nI hi) (h2 : M 25 hi = nI lo) (rec : Int32 → Me → Op) : qo_X3_partTo_7 (nI J0) rec (nI J) M = rec (pr J) (uj M J lo hi) := by
  unfold qo_X3_partTo_7 uj pr
  rw [i_lt (by omega) (by omega), if_neg (by omega), n_ld hJ (by decide), h1, n_ld hhi (by decide), h2, n_sv hhi (by decide), n_ld hJ (by decide), n_sv hlo (by decide), n_ld hlo (by decide), n_ld hhi (by decide), n_sv hlo (by decide), n_ld hlo (by decide), n_ld hhi (by decide), n_sv hlo (by decide), n_ld hlo (by decide), n_ld hhi (by decide), n_sv hlo (by decide), n_vv, n_vv]
  simp only [st_cell (show (31 : Nat) ≠ 25 by decide), st_cell (show (27 : Nat) ≠ 26 by decide), st_cell (show (27 : Nat) ≠ 25 by decide), st_cell (show (28 : Nat) ≠ 27 by decide), st_cell (show (28 : Nat) ≠ 26 by decide), st_cell (show (28 : Nat) ≠ 25 by decide), st_cell (show (29 : Nat) ≠ 28 by decide), st_cell (show (29 : Nat) ≠ 27 by decide), st_cell (show (29 : Nat) ≠ 26 by decide), st_cell (show (29 : Nat) ≠ 25 by decide)]
theorem uj_get {M : Me} {J lo hi c i : Nat} : uj M J lo hi c i = if c = 3 ∧ i = 7 then nI J else if c = 29 ∧ i = lo then M 29 lo - M 29 hi else if c = 28 ∧ i = lo then M 28 lo - M 28 hi else if c = 27 ∧ i = lo then M 27 lo - M 27 hi else if c = 26 ∧ i = lo then M 31 J else if c = 25 ∧ i = hi then nI hi else M c i := by
  unfold uj
  simp only [st_get]
theorem i32_cancel (x y : Int32) : x + y - y = x := Int32.add_sub_cancel x y
/-- a join taken back, of any memory that agrees where it matters -/
theorem uj_back {M M2 : Me} {n J lo hi : Nat} (hE : EqR n (J + 1) (jn M J lo hi) M2) (hlo : lo < 8 * n) (hhi : hi < 8 * n) (hne : hi ≠ lo) (hr : M 25 hi = nI hi) (hJ : M 3 7 = nI J) : EqR n J M (uj M2 J lo hi) := by
  have g : ∀ c i, Kr n (J + 1) c i → M2 c i = jn M J lo hi c i := fun c i k => (hE c i k).symm
  have k29 : ∀ i, i < 8 * n → Kr n (J + 1) 29 i := fun i h => by unfold Kr; omega
  have k28 : ∀ i, i < 8 * n → Kr n (J + 1) 28 i := fun i h => by unfold Kr; omega
  have k27 : ∀ i, i < 8 * n → Kr n (J + 1) 27 i := fun i h => by unfold Kr; omega
  have k31 : Kr n (J + 1) 31 J := by unfold Kr; omega
  intro c i k
  have k2 : Kr n (J + 1) c i := (by unfold Kr at *; omega)
  rw [uj_get]
  by_cases c1 : c = 3 ∧ i = 7
  · rw [if_pos c1, c1.1, c1.2]; exact hJ
  · rw [if_neg c1]
    by_cases c2 : c = 29 ∧ i = lo
    · rw [if_pos c2, g 29 lo (k29 _ hlo), g 29 hi (k29 _ hhi), jn_29, jn_29, if_pos rfl, if_neg hne, i32_cancel, c2.1, c2.2]
    · rw [if_neg c2]
      by_cases c3 : c = 28 ∧ i = lo
      · rw [if_pos c3, g 28 lo (k28 _ hlo), g 28 hi (k28 _ hhi), jn_28, jn_28, if_pos rfl, if_neg hne, i32_cancel, c3.1, c3.2]
      · rw [if_neg c3]
        by_cases c4 : c = 27 ∧ i = lo
        · rw [if_pos c4, g 27 lo (k27 _ hlo), g 27 hi (k27 _ hhi), jn_27, jn_27, if_pos rfl, if_neg hne, i32_cancel, c4.1, c4.2]
        · rw [if_neg c4]
          by_cases c5 : c = 26 ∧ i = lo
          · rw [if_pos c5, g 31 J k31, jn_31, if_pos rfl, c5.1, c5.2]
          · rw [if_neg c5]
            by_cases c6 : c = 25 ∧ i = hi
            · rw [if_pos c6, c6.1, c6.2]; exact hr
            · rw [if_neg c6, g c i k2]
              by_cases hc : 25 ≤ c ∧ c ≤ 31
              · have hcc : c = 25 ∨ c = 26 ∨ c = 27 ∨ c = 28 ∨ c = 29 ∨ c = 30 ∨ c = 31 := by omega
                rcases hcc with rfl | rfl | rfl | rfl | rfl | rfl | rfl
                · rw [jn_25, if_neg (fun e => c6 ⟨rfl, e⟩)]
                · rw [jn_26, if_neg (fun e => c5 ⟨rfl, e⟩)]
                · rw [jn_27, if_neg (fun e => c4 ⟨rfl, e⟩)]
                · rw [jn_28, if_neg (fun e => c3 ⟨rfl, e⟩)]
                · rw [jn_29, if_neg (fun e => c2 ⟨rfl, e⟩)]
                · rw [jn_30, if_neg (by unfold Kr at k; omega)]
                · rw [jn_31, if_neg (by unfold Kr at k; omega)]
              · rw [jn_off hc c1]
/-- M2 has come from M by joins, and they can be taken back -/
def Bk (n J : Nat) (M : Me) (J2 : Nat) (M2 : Me) : Prop := J ≤ J2 ∧ J2 ≤ 192 ∧ M2 3 7 = nI J2 ∧ ∀ M3, EqR n J2 M2 M3 → ∀ (J0 f : Nat), J0 ≤ J → ∃ M4, EqR n J M M4 ∧ (∀ c i, ¬ (25 ≤ c ∧ c ≤ 29) → ¬ (c = 3 ∧ i = 7) → M4 c i = M3 c i) ∧ rx_lp1 (qo_X3_partTo_7 (nI J0)) (f + (J2 - J)) (pr J2) M3 = rx_lp1 (qo_X3_partTo_7 (nI J0)) f (pr J) M4
theorem Bk.rf {n J : Nat} {M : Me} (hJ : J ≤ 192) (h : M 3 7 = nI J) : Bk n J M J M := ⟨Nat.le_refl _, hJ, h, fun M3 h3 J0 f _ => ⟨M3, h3, fun _ _ _ _ => rfl, by rw [Nat.sub_self]; rfl⟩⟩
theorem uj_off {M : Me} {J lo hi c i : Nat} (h1 : ¬ (25 ≤ c ∧ c ≤ 29)) (h2 : ¬ (c = 3 ∧ i = 7)) : uj M J lo hi c i = M c i := by
  rw [uj_get, if_neg h2, if_neg (by omega), if_neg (by omega), if_neg (by omega), if_neg (by omega), if_neg (by omega)]
theorem Bk.step {n J J2 lo hi : Nat} {M M2 : Me} (h : Bk n J M J2 M2) (hJ2 : J2 < 192) (hn : 8 * n ≤ 192) (hlo : lo < 8 * n) (hhi : hi < 8 * n) (hne : hi ≠ lo) (hr : M2 25 hi = nI hi) : Bk n J M (J2 + 1) (jn M2 J2 lo hi) := by
  obtain ⟨h1, h2, h3, h4⟩ := h
  refine ⟨by omega, by omega, jn_7, fun M3 hE J0 f hJ0 => ?_⟩
  have e30 : M3 30 J2 = nI hi := by
    rw [← hE 30 J2 (by unfold Kr; omega), jn_30, if_pos rfl]
  have e25 : M3 25 hi = nI lo := by
    rw [← hE 25 hi (by unfold Kr; omega), jn_25, if_pos rfl]
  have hb := uj_back hE hlo hhi hne hr h3
  obtain ⟨M4, g1, g0, g2⟩ := h4 _ hb J0 f hJ0
  refine ⟨M4, g1, fun c i c1 c2 => ?_, ?_⟩
  · rw [g0 c i c1 c2, uj_off c1 c2]
  rw [show f + (J2 + 1 - J) = (f + (J2 - J)) + 1 by omega, pr_succ]
  show qo_X3_partTo_7 (nI J0) (rx_lp1 (qo_X3_partTo_7 (nI J0)) (f + (J2 - J))) (nI J2) M3 = _
  rw [x_unjoin (by omega) hJ2 (by omega) (by omega) hne e30 e25]
  exact g2
theorem Bk.part {n J J2 : Nat} {M M2 M3 : Me} (h : Bk n J M J2 M2) (hE : EqR n J2 M2 M3) : ∃ M4, qf_X3_partTo (nI J) M3 = some (0, M4) ∧ EqR n J M M4 ∧ ∀ c i, ¬ (25 ≤ c ∧ c ≤ 29) → ¬ (c = 3 ∧ i = 7) → M4 c i = M3 c i := by
  obtain ⟨h1, h2, h3, h4⟩ := h
  have e7 : M3 3 7 = nI J2 := by rw [← hE 3 7 (by unfold Kr; omega)]; exact h3
  obtain ⟨M4, g1, g0, g2⟩ := h4 M3 hE J (rx_FU - (J2 - J)) (Nat.le_refl _)
  refine ⟨M4, ?_, g1, g0⟩
  have hfu : rx_FU - (J2 - J) + (J2 - J) = rx_FU := by have := rx_FUe; omega
  rw [hfu] at g2
  have hpos : ∃ f, rx_FU - (J2 - J) = f + 1 := ⟨rx_FU - (J2 - J) - 1, by have := rx_FUe; omega⟩
  obtain ⟨f, hf⟩ := hpos
  unfold qf_X3_partTo
  rw [n_vv, e7, n_vv, Int32.sub_eq_add_neg, show nI J2 + -1 = pr J2 from rfl, g2, hf]
  show qo_X3_partTo_7 (nI J) _ (pr J) M4 = _
  unfold qo_X3_partTo_7
  rw [if_pos (pr_lt (by omega))]

/-! Paying for a finished region, and for all that a tile has finished: the class. -/
def XP (M : Me) (S : Su) (T : Tl) (np : Nat) (z : Pz) : Prop := XTab M S T (mw (zO z)) ∧ M 4 4 = nI np ∧ (∀ p, p < 3 → M 34 p = nI (zP z p) ∧ M 35 p = nI (zF z p)) ∧ M 3 10 = nI (zC z)
theorem frst_max {S : Su} {T : Tl} {O : Ow} {np r p : Nat} (h3 : np ≤ 3) (ho : ∀ x p, O x = some p → p < np) (hh : has S T O r) (hp : p < np) : fl S T O r p = max (fl S T O r 0) (max (fl S T O r 1) (fl S T O r 2)) ↔ frst S T O np r p := by
  obtain ⟨q, hq, hpos⟩ := (has_fl ho).mp hh
  have hq3 : q = 0 ∨ q = 1 ∨ q = 2 := by omega
  have hp3 : p = 0 ∨ p = 1 ∨ p = 2 := by omega
  unfold frst
  constructor
  · intro h
    refine ⟨by rcases hq3 with rfl | rfl | rfl <;> omega, fun j hj => ?_⟩
    have hj3 : j = 0 ∨ j = 1 ∨ j = 2 := by omega
    rcases hj3 with rfl | rfl | rfl <;> omega
  · rintro ⟨h1, h2⟩
    have z : ∀ j, j < 3 → fl S T O r j ≤ fl S T O r p := by
      intro j hj
      by_cases hc : j < np
      · exact h2 j hc
      · rw [fl_zero ho (by omega)]; omega
    have z0 := z 0 (by decide)
    have z1 := z 1 (by decide)
    have z2 := z 2 (by decide)
    rcases hp3 with rfl | rfl | rfl <;> omega
theorem fl_pick {S : Su} {T : Tl} {O : Ow} {r p : Nat} (hp : p < 3) : (if p = 0 then fl S T O r 0 else if p = 1 then fl S T O r 1 else fl S T O r 2) = fl S T O r p := by
  have hp3 : p = 0 ∨ p = 1 ∨ p = 2 := by omega
  rcases hp3 with rfl | rfl | rfl
  · rfl
  · rfl
  · rfl
theorem mnn_zero {S : Su} {T : Tl} {O : Ow} {np r : Nat} (h3 : np ≤ 3) (ho : ∀ x p, O x = some p → p < np) : mnn S T O r = 0 ↔ ¬ has S T O r := by
  rw [mnn_fl (fun x p hx => by have := ho x p hx; omega), has_fl ho]
  constructor
  · rintro h ⟨p, h1, h2⟩
    have hp3 : p = 0 ∨ p = 1 ∨ p = 2 := by omega
    rcases hp3 with rfl | rfl | rfl <;> omega
  · intro h
    have z : ∀ j, fl S T O r j = 0 := by
      intro j
      by_cases hj : j < np
      · by_cases hz : 0 < fl S T O r j
        · exact absurd ⟨j, hj, hz⟩ h
        · omega
      · exact fl_zero ho (by omega)
    rw [z, z, z]
theorem TX_keep {M M2 : Me} {S : Su} {T : Tl} (h : TX M S T) (e : ∀ c i, c = 1 ∨ c = 2 ∨ (9 ≤ c ∧ c ≤ 22) → M2 c i = M c i) : TX M2 S T := by
  obtain ⟨a1, a2⟩ := h
  have f1 := fun i => e 1 i (by omega)
  have f2 := fun i => e 2 i (by omega)
  have f9 := fun i => e 9 i (by omega)
  have f10 := fun i => e 10 i (by omega)
  have f11 := fun i => e 11 i (by omega)
  have f12 := fun i => e 12 i (by omega)
  have f13 := fun i => e 13 i (by omega)
  have f14 := fun i => e 14 i (by omega)
  have f15 := fun i => e 15 i (by omega)
  have f16 := fun i => e 16 i (by omega)
  have f17 := fun i => e 17 i (by omega)
  have f20 := fun i => e 20 i (by omega)
  have f21 := fun i => e 21 i (by omega)
  have f22 := fun i => e 22 i (by omega)
  refine ⟨?_, ?_⟩
  · unfold SX at *
    simp only [f1, f9, f10, f11, f12, f13, f14, f15, f16]
    exact a1
  · unfold XT at *
    simp only [f2, f17, f20, f21, f22]
    exact a2
theorem XTab_keep {M M2 : Me} {S : Su} {T : Tl} {mn : Nat → Nat} (h : XTab M S T mn) (e : ∀ c i, c = 1 ∨ c = 2 ∨ (9 ≤ c ∧ c ≤ 22) ∨ (25 ≤ c ∧ c ≤ 29) ∨ (c = 3 ∧ i = 7) → M2 c i = M c i) : XTab M2 S T mn := by
  obtain ⟨a1, a2, a3, a4⟩ := h
  have f18 := fun i => e 18 i (by omega)
  have f19 := fun i => e 19 i (by omega)
  have f25 := fun i => e 25 i (by omega)
  have f26 := fun i => e 26 i (by omega)
  have f27 := fun i => e 27 i (by omega)
  have f28 := fun i => e 28 i (by omega)
  have f29 := fun i => e 29 i (by omega)
  refine ⟨TX_keep a1 (fun c i hc => e c i (by omega)), ?_, ?_, ?_⟩
  · unfold XN at *
    simp only [f18, f19]
    exact a2
  · unfold XR at *
    simp only [f25, f26, f27, f28, f29]
    exact a3
  · rw [e 3 7 (by omega)]; exact a4
/-- the followers of one region change -/
theorem XTab_men {M M2 : Me} {S : Su} {T : Tl} {mn mn2 : Nat → Nat} {r : Nat} (h : XTab M S T mn) (e : ∀ c i, c = 1 ∨ c = 2 ∨ (9 ≤ c ∧ c ≤ 22) ∨ (25 ≤ c ∧ c ≤ 28) ∨ (c = 29 ∧ i ≠ r) ∨ (c = 3 ∧ i = 7) → M2 c i = M c i) (hr : M2 29 r = nI (sumL (labs S T) mn2 r (8 * T.length))) (hm : ∀ x, labs S T x ≠ r → mn2 x = mn x) : XTab M2 S T mn2 := by
  obtain ⟨a1, a2, a3, a4⟩ := h
  have f18 := fun i => e 18 i (by omega)
  have f19 := fun i => e 19 i (by omega)
  refine ⟨TX_keep a1 (fun c i hc => e c i (by omega)), ?_, ⟨fun p hp => ?_, fun q hq hl => ?_⟩, ?_⟩
  · unfold XN at *
    simp only [f18, f19]
    exact a2
  · rw [e 25 p (by omega)]; exact a3.1 p hp
  · obtain ⟨g1, g2, g3, g4⟩ := a3.2 q hq hl
    rw [e 26 q (by omega), e 27 q (by omega), e 28 q (by omega)]
    refine ⟨g1, g2, g3, ?_⟩
    by_cases hqr : q = r
    · subst hqr; exact hr
    · rw [e 29 q (by omega), g4]
      congr 1
      unfold sumL
      apply sumN_congr
      intro x _
      by_cases hx : labs S T x = q
      · rw [if_pos hx, if_pos hx, hm x (by omega)]
      · rw [if_neg hx, if_neg hx]
  · rw [e 3 7 (by omega)]; exact a4
theorem x_pay {S : Su} {T : Tl} {np K B : Nat} {z : Pz} {M : Me} (hw : wfS S) (hwt : wfTl S T) (h3 : np ≤ 3) (hK : K ≤ 48) (h : XP M S T np z) (hz : WZ S T np K B z) {r : Nat} (hr : r < 8 * T.length) (hl : labs S T r = r) : ∃ g M2, qf_X2_pay (nI r) M = some (nI g, M2) ∧ zS (score S T np r z) = zS z + g ∧ XP M2 S T np (score S T np r z) ∧ (∀ c i, ¬ (29 ≤ c ∧ c ≤ 35) → ¬ (c = 3 ∧ i = 10) → M2 c i = M c i) ∧ (∀ i, M2 30 i = M 30 i ∧ M2 31 i = M 31 i) ∧ ∀ C0 Mb, Bm T.length C0 Mb (zC z) M → Bm T.length C0 Mb (zC (score S T np r z)) M2 := by
  obtain ⟨hX, h44, hPF, hC⟩ := h
  have h24 := hwt.1
  have ho : ∀ x p, zO z x = some p → p < np := fun x p hx => (hz.1 x p hx).2.1
  have ho3 : ∀ x p, zO z x = some p → p < 3 := fun x p hx => by have := ho x p hx; omega
  have a7 := fl7 (r := r) (p := 0) hz
  have b7 := fl7 (r := r) (p := 1) hz
  have c7 := fl7 (r := r) (p := 2) hz
  have e29 : M 29 r = nI (mnn S T (zO z) r) := (hX.2.2.1.2 r hr hl).2.2.2
  have hmn := mnn_fl (S := S) (T := T) ho3 r
  have hm0 := mnn_zero (S := S) (T := T) (r := r) h3 ho
  unfold qf_X2_pay
  rw [n_ld (by omega) (by decide), e29, i_z (by omega)]
  by_cases hh : has S T (zO z) r
  · rw [if_neg (fun g => hm0.mp g hh), x_isFin hw hwt hX hr hl, n_cl]
    by_cases hf : fin S T r
    · rw [flg_t hf, if_neg (by decide), x_finWorth hw hwt hX hr hl, n_cl, hmn, x_mostMen (by omega) (by omega) (by omega), n_cl]
      have key := lp2_up (b := qo_X2_pay_51 (fun a5 M => qb_X2_pay_110 (nI r) a5 M) (nI r) (nI (fl S T (zO z) r 0 + 16 * fl S T (zO z) r 1 + 256 * fl S T (zO z) r 2)) (nI (wor S T r)) (nI (max (fl S T (zO z) r 0) (max (fl S T (zO z) r 1) (fl S T (zO z) r 2))))) (e := np) (P := fun i a M2 => a = nI (sumN (fun p => ci (frst S T (zO z) np r p) * wor S T r) i) ∧ (∀ p, p < 3 → M2 34 p = nI (zP z p + if p < i then ci (p < np ∧ frst S T (zO z) np r p) * wor S T r else 0) ∧ M2 35 p = nI (zF z p + if p < i then fl S T (zO z) r p else 0)) ∧ ∀ c j, c ≠ 34 → c ≠ 35 → M2 c j = M c j) (K := fun a M => qb_X2_pay_110 (nI r) a M) ?_ ?_ rx_FU 0 0 M (fu_lt (by omega)) (by omega) ⟨rfl, fun p hp => ⟨by rw [if_neg (by omega)]; exact (hPF p hp).1, by rw [if_neg (by omega)]; exact (hPF p hp).2⟩, fun _ _ _ _ => rfl⟩
      · obtain ⟨a, M2, ⟨g1, g2, g3⟩, g4⟩ := key
        have g4 : rx_lp2 (qo_X2_pay_51 (fun a5 M => qb_X2_pay_110 (nI r) a5 M) (nI r) (nI (fl S T (zO z) r 0 + 16 * fl S T (zO z) r 1 + 256 * fl S T (zO z) r 2)) (nI (wor S T r)) (nI (max (fl S T (zO z) r 0) (max (fl S T (zO z) r 1) (fl S T (zO z) r 2))))) rx_FU 0 0 M = qb_X2_pay_110 (nI r) a M2 := g4
        rw [g4]
        have hob : 1 ≤ ob (zO z) T.length := by
          obtain ⟨x, a, b, c⟩ := hh
          have : 0 < sumN (o1 (zO z)) (8 * T.length) := sumN_pos.mpr ⟨x, a, by
            unfold o1
            cases hx : zO z x with
            | none => exact absurd hx c
            | some p => exact Nat.one_pos⟩
          exact this
        have hC48 : zC z < 48 := by have := hz.2.2.1; omega
        have hC2 : M2 3 10 = nI (zC z) := by rw [g3 3 10 (by decide) (by decide)]; exact hC
        have hset := x_setMen (v := 0) hC2 hC48 (show r < 192 by omega)
        rw [score_t hf hh]
        refine ⟨_, sm M2 (zC z) r 0, ?_, rfl, ⟨?_, ?_, ?_, ?_⟩, ?_, ?_, ?_⟩
        · unfold qb_X2_pay_110
          rw [hset, n_cl, g1]
        · refine XTab_men (r := r) hX (fun c i hc => ?_) ?_ (fun x hx => ?_)
          · rw [sm_get, if_neg (by omega), if_neg (by omega), if_neg (by omega), if_neg (by omega), g3 c i (by omega) (by omega)]
          · rw [sm_get, if_pos ⟨rfl, rfl⟩]
            have : sumL (labs S T) (mw (zO (paid S T np r z))) r (8 * T.length) = 0 := by
              unfold sumL
              refine sumN_zero (fun x _ => ?_)
              by_cases hx : labs S T x = r
              · rw [if_pos hx]
                have e : zO (paid S T np r z) x = none := clr_in hx
                unfold mw
                rw [e]
              · rw [if_neg hx]
            rw [this]
            rfl
          · have e : zO (paid S T np r z) x = zO z x := clr_out hx
            unfold mw
            rw [e]
        · rw [sm_off (by decide) (by omega) (by omega), g3 4 4 (by decide) (by decide)]; exact h44
        · intro p hp
          obtain ⟨k1, k2⟩ := g2 p hp
          rw [sm_off (by decide) (by omega) (by omega), sm_off (by decide) (by omega) (by omega), k1, k2]
          by_cases hpn : p < np
          · rw [if_pos hpn, if_pos hpn]
            exact ⟨rfl, rfl⟩
          · rw [if_neg hpn, if_neg hpn]
            refine ⟨?_, ?_⟩
            · show nI (zP z p + 0) = nI (zP z p + ci (p < np ∧ frst S T (zO z) np r p) * wor S T r)
              rw [ci_f (fun g => hpn g.1), Nat.zero_mul]
            · show nI (zF z p + 0) = nI (zF z p + fl S T (zO z) r p)
              rw [fl_zero ho (by omega)]
        · rw [sm_get, if_neg (by omega), if_pos ⟨rfl, rfl⟩]
          rfl
        · intro c i c1 c2
          rw [sm_off (by omega) c2 (by omega), g3 c i (by omega) (by omega)]
        · intro i
          rw [sm_off (by decide) (by omega) (by omega), sm_off (by decide) (by omega) (by omega), g3 30 i (by decide) (by decide), g3 31 i (by decide) (by decide)]
          exact ⟨rfl, rfl⟩
        · intro C0 Mb hB
          have hB2 : Bm T.length C0 Mb (zC z) M2 := hB.keep (fun c i k => by unfold Km at k; exact g3 c i (by omega) (by omega))
          exact hB2.step hC48 (by omega) hr
      · intro rec i a M2 hi hP
        obtain ⟨g1, g2, g3⟩ := hP
        have hi3 : i < 3 := by omega
        have hmen : ∀ M', qf_X6_menOf (nI (fl S T (zO z) r 0 + 16 * fl S T (zO z) r 1 + 256 * fl S T (zO z) r 2)) (nI i) M' = some (nI (fl S T (zO z) r i), M') := by
          intro M'
          rw [x_menOf (by omega) (by omega) (by omega) hi3, fl_pick hi3]
        have e35 := (g2 i hi3).2
        have e34 := (g2 i hi3).1
        rw [if_neg (by omega), Nat.add_zero] at e34 e35
        have f7 := fl7 (r := r) (p := i) hz
        have hfr := frst_max (r := r) h3 ho hh hi
        unfold qo_X2_pay_51 qb_X2_pay_104
        rw [n_vv, g3 4 4 (by decide) (by decide), h44, i_le (by omega) (by omega), if_neg (by omega), n_ld hi3 (by decide), e35, hmen, n_cl, n_add, n_sv hi3 (by decide), hmen, n_cl, i_eq (by omega) (by omega), n_ld hi3 (by decide), st_cell (by decide), e34, n_add, n_sv hi3 (by decide), n_vv, n_vv, g1, n_add, kn_1, n_add]
        by_cases hff : frst S T (zO z) np r i
        · rw [if_pos (hfr.mpr hff)]
          refine ⟨_, _, ⟨?_, fun p hp => ?_, fun c j c1 c2 => ?_⟩, rfl⟩
          · show _ = nI (sumN (fun p => ci (frst S T (zO z) np r p) * wor S T r) i + ci (frst S T (zO z) np r i) * wor S T r)
            rw [ci_t hff, Nat.one_mul]
          · refine ⟨?_, ?_⟩
            · by_cases hpi : p = i
              · subst hpi
                rw [st_same, if_pos (show p < p + 1 by omega), ci_t ⟨hi, hff⟩, Nat.one_mul]
              · rw [st_place hpi, st_cell (by decide), (g2 p hp).1]
                by_cases hlt : p < i
                · rw [if_pos hlt, if_pos (show p < i + 1 by omega)]
                · rw [if_neg hlt, if_neg (show ¬ p < i + 1 by omega)]
            · rw [st_cell (by decide)]
              by_cases hpi : p = i
              · subst hpi
                rw [st_same, if_pos (show p < p + 1 by omega)]
              · rw [st_place hpi, (g2 p hp).2]
                by_cases hlt : p < i
                · rw [if_pos hlt, if_pos (show p < i + 1 by omega)]
                · rw [if_neg hlt, if_neg (show ¬ p < i + 1 by omega)]
          · rw [st_cell c1, st_cell c2]; exact g3 c j c1 c2
        · rw [if_neg (fun g => hff (hfr.mp g))]
          refine ⟨_, _, ⟨?_, fun p hp => ?_, fun c j c1 c2 => ?_⟩, rfl⟩
          · show _ = nI (sumN (fun p => ci (frst S T (zO z) np r p) * wor S T r) i + ci (frst S T (zO z) np r i) * wor S T r)
            rw [ci_f hff, Nat.zero_mul]
            rfl
          · refine ⟨?_, ?_⟩
            · rw [st_cell (by decide)]
              by_cases hpi : p = i
              · subst hpi
                rw [e34, if_pos (show p < p + 1 by omega), ci_f (fun g => hff g.2), Nat.zero_mul]
                rfl
              · rw [(g2 p hp).1]
                by_cases hlt : p < i
                · rw [if_pos hlt, if_pos (show p < i + 1 by omega)]
                · rw [if_neg hlt, if_neg (show ¬ p < i + 1 by omega)]
            · by_cases hpi : p = i
              · subst hpi
                rw [st_same, if_pos (show p < p + 1 by omega)]
              · rw [st_place hpi, (g2 p hp).2]
                by_cases hlt : p < i
                · rw [if_pos hlt, if_pos (show p < i + 1 by omega)]
                · rw [if_neg hlt, if_neg (show ¬ p < i + 1 by omega)]
          · rw [st_cell c2]; exact g3 c j c1 c2
      · intro rec a M2 hP
        unfold qo_X2_pay_51
        rw [n_vv, hP.2.2 4 4 (by decide) (by decide), h44, if_pos (Int32.le_refl _)]
    · rw [flg_f hf, if_pos rfl, score_f (fun g => hf g.1)]
      exact ⟨0, M, rfl, rfl, ⟨hX, h44, hPF, hC⟩, fun _ _ _ _ => rfl, fun _ => ⟨rfl, rfl⟩, fun _ _ hB => hB⟩
  · rw [if_pos (hm0.mpr hh), score_f (fun g => hh g.2)]
    exact ⟨0, M, rfl, rfl, ⟨hX, h44, hPF, hC⟩, fun _ _ _ _ => rfl, fun _ => ⟨rfl, rfl⟩, fun _ _ hB => hB⟩

/-! Kinds, finished regions, worth: the class. -/
theorem i_z {α : Type} {a : Nat} {x y : α} {d : Decidable (nI a = 0)} (ha : a < 2147483648) : @ite α (nI a = 0) d x y = if a = 0 then x else y := i_eq (b := 0) ha (by decide)
theorem i_le0 {α : Type} {a : Nat} {x y : α} {d : Decidable (nI a ≤ 0)} (ha : a < 2147483648) : @ite α (nI a ≤ 0) d x y = if a = 0 then x else y := by
  have h := i_le (α := α) (a := a) (b := 0) (x := x) (y := y) (d := d) ha (by decide)
  rw [show @ite α (nI a ≤ 0) d x y = @ite α (nI a ≤ nI 0) d x y from rfl, h]
  by_cases c : a = 0
  · rw [if_pos c, if_pos (by omega)]
  · rw [if_neg c, if_neg (by omega)]
theorem ac_le (T : Tl) (q : Nat) : ac T q ≤ 8 := by
  unfold ac
  have a1 := ct_le T (q - 22)
  have a2 := ct_le T (q - 21)
  have a3 := ct_le T (q - 20)
  have a4 := ct_le T (q - 1)
  have a5 := ct_le T (q + 1)
  have a6 := ct_le T (q + 20)
  have a7 := ct_le T (q + 21)
  have a8 := ct_le T (q + 22)
  omega
theorem opw_le (S : Su) (T : Tl) (p : Nat) : opw S T p ≤ 12 := by
  unfold opw
  have := sumN_le (f := ops S T (p / 8) (p % 8)) (n := 12) (c := 1) (fun s _ => by
    unfold ops
    by_cases h : pp S T (p / 8) s = p % 8 ∧ ta T (nb (tc T (p / 8)) (s / 3)) = none
    · rw [if_pos h]; exact Nat.le_refl _
    · rw [if_neg h]; omega)
  omega
theorem sumL_le {lab w : Nat → Nat} {r N c : Nat} (h : ∀ p, p < N → w p ≤ c) : sumL lab w r N ≤ N * c := by
  unfold sumL
  apply sumN_le
  intro p hp
  by_cases hc : lab p = r
  · rw [if_pos hc]; exact h p hp
  · rw [if_neg hc]; omega
theorem opn_le (S : Su) (T : Tl) (r : Nat) : opn S T r ≤ 8 * T.length * 12 := sumL_le (fun p _ => opw_le S T p)
theorem shw_le {S : Su} {T : Tl} (hw : wfS S) (hwt : wfTl S T) {p : Nat} (hp : p < 8 * T.length) : shw S T p ≤ 1 := ((hw.2.2.2 _ (hwt.2.1 (p / 8) (by omega)).1).2.1 (p % 8) (by omega)).2.1
theorem shn_le {S : Su} {T : Tl} (hw : wfS S) (hwt : wfTl S T) (r : Nat) : shn S T r ≤ 8 * T.length * 1 := sumL_le (fun p hp => shw_le hw hwt hp)
theorem tcn_le (S : Su) (T : Tl) (r : Nat) : tcn S T r ≤ T.length * 1 := sumN_le (fun t _ => by
  by_cases h : (bitL (labs S T) r (8 * T.length)).testBit t = true
  · rw [if_pos h]; exact Nat.le_refl _
  · rw [if_neg h]; omega)
theorem wor_le {S : Su} {T : Tl} (hw : wfS S) (hwt : wfTl S T) (r : Nat) : wor S T r ≤ 576 := by
  have a := shn_le hw hwt r
  have b := tcn_le S T r
  have c := hwt.1
  unfold wor
  by_cases h1 : kdp S T r = 1
  · rw [if_pos h1]; omega
  · rw [if_neg h1]
    by_cases h2 : kdp S T r = 2
    · rw [if_pos h2]; omega
    · rw [if_neg h2]; omega
theorem kdp_le {S : Su} {T : Tl} (hw : wfS S) (hwt : wfTl S T) {p : Nat} (hp : p < 8 * T.length) : kdp S T p ≤ 4 := sK_le hw (hwt.2.1 (p / 8) (by omega)).1 (by omega)
theorem x_kindOf {S : Su} {T : Tl} {M : Me} (hw : wfS S) (hwt : wfTl S T) (hX : TX M S T) {p : Nat} (hp : p < 8 * T.length) : qf_X5_kindOf (nI p) M = some (nI (kdp S T p), M) := by
  have h24 := hwt.1
  have h12 := hw.1
  have ht : p / 8 < T.length := by omega
  have hty := (hwt.2.1 _ ht).1
  have e21 := (hX.2.2.1 _ ht).2.1
  have e11 := (hX.1.2.2.2.2.1 (ty T (p / 8)) (p % 8) hty (by omega)).1
  unfold qf_X5_kindOf
  rw [kn_8, n_div (by omega) (by decide) (by decide), n_ld (by omega) (by decide), e21, n_mul, n_mul, n_sub (by omega), nat_rem, n_add, n_ld (by omega) (by decide), e11]
  rfl
theorem x_isFin {S : Su} {T : Tl} {M : Me} {mn : Nat → Nat} (hw : wfS S) (hwt : wfTl S T) (h : XTab M S T mn) {r : Nat} (hr : r < 8 * T.length) (hl : labs S T r = r) : qf_X5_isFinished (nI r) M = some (flg (fin S T r), M) := by
  obtain ⟨hX, hN, hR, -⟩ := h
  have h24 := hwt.1
  have ht : r / 8 < T.length := by omega
  have e28 : M 28 r = nI (opn S T r) := (hR.2 r hr hl).2.2.1
  have ho := opn_le S T r
  have hk := kdp_le hw hwt hr
  have hin := (hwt.2.1 _ ht).2.2
  have hq : tc T (r / 8) < 441 := by have := hin.1; have := hin.2.2.2; omega
  have ha := ac_le T (tc T (r / 8))
  unfold qf_X5_isFinished
  rw [x_kindOf hw hwt hX hr, n_cl, kn_1, i_eq (by omega) (by decide), kn_2, i_eq (by omega) (by decide), kn_3, i_eq (by omega) (by decide), kn_4, i_eq (by omega) (by decide), n_ld (by omega) (by decide), e28, kn_8, n_div (by omega) (by decide) (by decide), n_ld (by omega) (by decide), (hX.2.2.1 _ ht).1, n_ld hq (by decide), hN.2 _ hq, len8, i_eq (by omega) (by decide), i_z (by omega)]
  unfold fin
  by_cases k1 : kdp S T r = 1
  · rw [if_pos k1]
    by_cases c : opn S T r = 0
    · rw [if_pos c, flg_t (Or.inl ⟨Or.inl k1, c⟩)]; rfl
    · rw [if_neg c, n_zb0, flg_f (by omega)]
  · rw [if_neg k1]
    by_cases k2 : kdp S T r = 2
    · rw [if_pos k2]
      by_cases c : opn S T r = 0
      · rw [if_pos c, flg_t (Or.inl ⟨Or.inr k2, c⟩)]; rfl
      · rw [if_neg c, n_zb0, flg_f (by omega)]
    · rw [if_neg k2]
      by_cases k3 : kdp S T r = 3
      · rw [if_pos k3, n_zb0, flg_f (by omega)]
      · rw [if_neg k3]
        by_cases k4 : kdp S T r = 4
        · rw [if_pos k4]
          by_cases c : ac T (tc T (r / 8)) = 8
          · rw [if_pos c, flg_t (Or.inr ⟨k4, c⟩)]; rfl
          · rw [if_neg c, n_zb0, flg_f (by omega)]
        · rw [if_neg k4, n_zb0, flg_f (by omega)]
theorem x_popR {S : Su} {T : Tl} {M : Me} (hwt : wfTl S T) (r : Nat) : qf_J6_bitCount_X (nI (bitL (labs S T) r (8 * T.length))) M = some (nI (tcn S T r), M) := by
  have h24 := hwt.1
  rw [x_pop (bitL_lt (by omega)), tcn_24 hwt.1]
theorem x_finWorth {S : Su} {T : Tl} {M : Me} {mn : Nat → Nat} (hw : wfS S) (hwt : wfTl S T) (h : XTab M S T mn) {r : Nat} (hr : r < 8 * T.length) (hl : labs S T r = r) : qf_X5_finishedWorth (nI r) M = some (nI (wor S T r), M) := by
  obtain ⟨hX, hN, hR, -⟩ := h
  have h24 := hwt.1
  have e := hR.2 r hr hl
  have hk := kdp_le hw hwt hr
  unfold qf_X5_finishedWorth
  rw [n_ld (by omega) (by decide), e.1, x_popR hwt, n_cl, x_kindOf hw hwt hX hr, n_cl, kn_1, i_eq (by omega) (by decide), kn_2, i_eq (by omega) (by decide), n_ld (by omega) (by decide), e.2.1, len8, n_add, n_mul, n_add]
  unfold wor
  by_cases k1 : kdp S T r = 1
  · rw [if_pos k1, if_pos k1]; rfl
  · rw [if_neg k1, if_neg k1]
    by_cases k2 : kdp S T r = 2
    · rw [if_pos k2, if_pos k2]
    · rw [if_neg k2, if_neg k2]
/-! points and followers: what they keep -/
def o1 (O : Ow) (x : Nat) : Nat := match O x with
  | none => 0
  | some _ => 1
def ob (O : Ow) (n : Nat) : Nat := sumN (o1 O) (8 * n)
def WZ (S : Su) (T : Tl) (np K B : Nat) (z : Pz) : Prop := (∀ x p, zO z x = some p → x < 8 * T.length ∧ p < np ∧ kdp S T x ≠ 0) ∧ (∀ p, p < np → zF z p + sumN (f1 (zO z) p) (8 * T.length) = 7) ∧ zC z + ob (zO z) T.length ≤ K ∧ ∀ p, zP z p + 576 * ob (zO z) T.length ≤ B
theorem fl_le {S : Su} {T : Tl} {O : Ow} {r p : Nat} : fl S T O r p ≤ sumN (f1 O p) (8 * T.length) := by
  unfold fl sumL
  generalize 8 * T.length = N
  induction N with
  | zero => exact Nat.le_refl _
  | succ N ih =>
    show _ + (if labs S T N = r then f1 O p N else 0) ≤ _ + f1 O p N
    by_cases h : labs S T N = r
    · rw [if_pos h]; omega
    · rw [if_neg h]; omega
theorem fl7 {S : Su} {T : Tl} {np K B r p : Nat} {z : Pz} (h : WZ S T np K B z) : fl S T (zO z) r p ≤ 7 := by
  by_cases hp : p < np
  · have := h.2.1 p hp
    have := fl_le (S := S) (T := T) (O := zO z) (r := r) (p := p)
    omega
  · rw [fl_zero (np := np) (fun x p hx => (h.1 x p hx).2.1) (by omega)]; omega
def clr (S : Su) (T : Tl) (r : Nat) (O : Ow) : Ow := fun x => if labs S T x = r then none else O x
theorem sum_clr {S : Su} {T : Tl} {O : Ow} {r : Nat} (w : Ow → Nat → Nat) (h0 : ∀ x, labs S T x = r → w (clr S T r O) x = 0) (h1 : ∀ x, labs S T x ≠ r → w (clr S T r O) x = w O x) (N : Nat) : sumN (w O) N = sumL (labs S T) (w O) r N + sumN (w (clr S T r O)) N := by
  unfold sumL
  rw [← sumN_add]
  apply sumN_congr
  intro x _
  by_cases h : labs S T x = r
  · rw [if_pos h, h0 x h]; rfl
  · rw [if_neg h, h1 x h, Nat.zero_add]
theorem clr_in {S : Su} {T : Tl} {O : Ow} {r x : Nat} (h : labs S T x = r) : clr S T r O x = none := by unfold clr; rw [if_pos h]
theorem clr_out {S : Su} {T : Tl} {O : Ow} {r x : Nat} (h : labs S T x ≠ r) : clr S T r O x = O x := by unfold clr; rw [if_neg h]
theorem paid_WZ {S : Su} {T : Tl} {np K B r : Nat} {z : Pz} (hw : wfS S) (hwt : wfTl S T) (h : WZ S T np K B z) (hh : has S T (zO z) r) : WZ S T np K B (paid S T np r z) := by
  obtain ⟨h1, h2, h3, h4⟩ := h
  have eO : zO (paid S T np r z) = clr S T r (zO z) := rfl
  have hob : 1 ≤ sumL (labs S T) (o1 (zO z)) r (8 * T.length) := by
    obtain ⟨x, a, b, c⟩ := hh
    have h5 : o1 (zO z) x ≤ sumL (labs S T) (o1 (zO z)) (labs S T x) (8 * T.length) := sumL_ge a
    rw [b] at h5
    have h6 : o1 (zO z) x = 1 := by
      unfold o1
      cases hx : zO z x with
      | none => exact absurd hx c
      | some p => rfl
    omega
  have hsum : ob (zO z) T.length = sumL (labs S T) (o1 (zO z)) r (8 * T.length) + ob (clr S T r (zO z)) T.length := sum_clr o1 (fun x hx => by unfold o1; rw [clr_in hx]) (fun x hx => by unfold o1; rw [clr_out hx]) _
  refine ⟨fun x p hx => ?_, fun p hp => ?_, ?_, fun p => ?_⟩
  · rw [eO] at hx
    by_cases hc : labs S T x = r
    · rw [clr_in hc] at hx; cases hx
    · rw [clr_out hc] at hx; exact h1 x p hx
  · rw [eO]
    show zF z p + fl S T (zO z) r p + _ = 7
    have e : sumN (f1 (zO z) p) (8 * T.length) = fl S T (zO z) r p + sumN (f1 (clr S T r (zO z)) p) (8 * T.length) := sum_clr (fun O => f1 O p) (fun x hx => by unfold f1; rw [clr_in hx]; simp) (fun x hx => by unfold f1; rw [clr_out hx]) _
    have := h2 p hp
    omega
  · rw [eO]
    show zC z + 1 + _ ≤ K
    omega
  · rw [eO]
    show zP z p + ci (p < np ∧ frst S T (zO z) np r p) * wor S T r + _ ≤ B
    have a := wor_le hw hwt r
    have b := ci_le (p < np ∧ frst S T (zO z) np r p)
    have c : ci (p < np ∧ frst S T (zO z) np r p) * wor S T r ≤ 576 := by
      have h0 : ci (p < np ∧ frst S T (zO z) np r p) = 0 ∨ ci (p < np ∧ frst S T (zO z) np r p) = 1 := by omega
      rcases h0 with g | g <;> rw [g] <;> omega
    have := h4 p
    omega
theorem score_WZ {S : Su} {T : Tl} {np K B r : Nat} {z : Pz} (hw : wfS S) (hwt : wfTl S T) (h : WZ S T np K B z) : WZ S T np K B (score S T np r z) := by
  by_cases hc : fin S T r ∧ has S T (zO z) r
  · rw [score_t hc.1 hc.2]; exact paid_WZ hw hwt h hc.2
  · rw [score_f hc]; exact h
theorem itr_keep {P : Pz → Prop} {f : Nat → Pz → Pz} {n : Nat} {z : Pz} (h : P z) (hs : ∀ i z, i < n → P z → P (f i z)) : P (itr f n z) := by
  induction n with
  | zero => exact h
  | succ n ih => exact hs n _ (by omega) (ih (fun i z hi hz => hs i z (by omega) hz))
theorem cloA_keep {S : Su} {T : Tl} {np q : Nat} {z : Pz} {P : Pz → Prop} (h : P z) (hs : ∀ r z, P z → P (score S T np r z)) : P (cloA S T np q z) := by
  unfold cloA
  cases ta T q with
  | none => exact h
  | some o =>
    refine itr_keep h (fun i z _ hz => ?_)
    show P (if kdp S T (8 * o + i) = 4 then score S T np (8 * o + i) z else z)
    by_cases hk : kdp S T (8 * o + i) = 4
    · rw [if_pos hk]; exact hs _ _ hz
    · rw [if_neg hk]; exact hz
theorem setl_keep {S : Su} {T : Tl} {np : Nat} {z : Pz} {P : Pz → Prop} (h : P z) (hs : ∀ r z, P z → P (score S T np r z)) : P (setl S T np z) := itr_keep (itr_keep h (fun _ _ _ hz => hs _ _ hz)) (fun _ _ _ hz => cloA_keep hz hs)

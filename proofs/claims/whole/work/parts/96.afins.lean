/-! Final points as mathematics. -/
def bt (S : Su) (T : Tl) (x o : Nat) : Prop := sT S (ty T (x / 8)) (x % 8) / 2 ^ o % 2 = 1
def tch (S : Su) (T : Tl) (r w : Nat) : Prop := ∃ x, x < 8 * T.length ∧ labs S T x = r ∧ ∃ o, o < 8 ∧ bt S T x o ∧ labs S T (8 * (x / 8) + o) = w
def cty (S : Su) (T : Tl) (r w : Nat) : Prop := kdp S T w = 1 ∧ labs S T w = w ∧ opn S T w = 0 ∧ tch S T r w
noncomputable def ctn (S : Su) (T : Tl) (r : Nat) : Nat := sumN (fun w => ci (cty S T r w)) (8 * T.length)
noncomputable def fwo (S : Su) (T : Tl) (r : Nat) : Nat := if kdp S T r = 1 then tcn S T r + shn S T r else if kdp S T r = 2 then tcn S T r else if kdp S T r = 4 then 1 + ac T (tc T (r / 8)) else 3 * ctn S T r
noncomputable def fter (S : Su) (T : Tl) (O : Ow) (np p x : Nat) : Nat := ci (labs S T x = x ∧ has S T O x ∧ frst S T O np x p) * fwo S T x
noncomputable def fins (S : Su) (T : Tl) (O : Ow) (np : Nat) (P : Nat → Nat) (p : Nat) : Nat := P p + sumN (fter S T O np p) (8 * T.length)
/-- a region has one kind -/
theorem kdp_labs {S : Su} {T : Tl} (hw : wfS S) (hwt : wfTl S T) (hm : mat S T) (x : Nat) : kdp S T (labs S T x) = kdp S T x := by
  refine (labs_lab S T).2.2.2 (kdp S T) (fun e he => ?_) x
  obtain ⟨t, s, h1, h2, h3⟩ := mem_edges.mp he
  obtain ⟨o, h4, rfl⟩ := mem_eo.mp h3
  obtain ⟨ho, -⟩ := ta_some h4
  have wt := hwt.2.1 t h1
  have wo := hwt.2.1 o ho
  have hms := hm t (s / 3) o h1 (by omega) h4
  have := (slots_middle (hw.2.2.2 _ wt.1) (hw.2.2.2 _ wo.1) wt.2.1 wo.2.1 (show s / 3 < 4 by omega)).mpr hms (s % 3) (Nat.mod_lt _ (by decide))
  rw [show 3 * (s / 3) + s % 3 = s by omega] at this
  show kdp S T (8 * t + pp S T t s) = kdp S T (8 * o + pp S T o (op s))
  rw [kdp_at S T (pp_lt hw hwt h1), kdp_at S T (pp_lt hw hwt ho)]
  exact this.symm
theorem ctn_le (S : Su) (T : Tl) (r : Nat) : ctn S T r ≤ 8 * T.length * 1 := sumN_le (fun w _ => ci_le _)
theorem fwo_le {S : Su} {T : Tl} (hw : wfS S) (hwt : wfTl S T) (r : Nat) : fwo S T r ≤ 576 := by
  have a := shn_le hw hwt r
  have b := tcn_le S T r
  have c := hwt.1
  have d := ctn_le S T r
  have e := ac_le T (tc T (r / 8))
  unfold fwo
  by_cases h1 : kdp S T r = 1
  · rw [if_pos h1]; omega
  · rw [if_neg h1]
    by_cases h2 : kdp S T r = 2
    · rw [if_pos h2]; omega
    · rw [if_neg h2]
      by_cases h4 : kdp S T r = 4
      · rw [if_pos h4]; omega
      · rw [if_neg h4]; omega
theorem fter_le {S : Su} {T : Tl} {O : Ow} {np p x : Nat} (hw : wfS S) (hwt : wfTl S T) : fter S T O np p x ≤ 576 * fl S T O x p := by
  unfold fter
  by_cases c : labs S T x = x ∧ has S T O x ∧ frst S T O np x p
  · rw [ci_t c]
    have := fwo_le hw hwt x
    have h2 := c.2.2.1
    omega
  · rw [ci_f c]; omega
theorem sum_regions {lab w : Nat → Nat} {N : Nat} (m : Nat) : sumN (fun r => sumL lab w r N) m ≤ sumN w N := by
  unfold sumL
  rw [sumN_swap]
  induction N with
  | zero => exact Nat.le_refl _
  | succ N ih =>
    show sumN (fun p => sumN (fun r => if lab p = r then w p else 0) m) N + sumN (fun r => if lab N = r then w N else 0) m ≤ sumN w N + w N
    have h2 : sumN (fun r => if lab N = r then w N else 0) m ≤ w N := by
      by_cases hc : lab N < m
      · have := sumN_pick hc (fun _ => w N)
        have e : sumN (fun r => if lab N = r then w N else 0) m = sumN (fun p => if p = lab N then w N else 0) m := sumN_congr (fun p _ => by
          by_cases hp : lab N = p
          · rw [if_pos hp, if_pos hp.symm]
          · rw [if_neg hp, if_neg (fun q => hp q.symm)])
        rw [e, this]
        exact Nat.le_refl _
      · rw [sumN_zero (fun p hp => if_neg (by omega))]; omega
    omega
theorem sumN_mul (k : Nat) (f : Nat → Nat) (n : Nat) : sumN (fun x => k * f x) n = k * sumN f n := by
  induction n with
  | zero => rfl
  | succ n ih =>
    show _ + _ = k * (_ + _)
    rw [ih, Nat.mul_add]
theorem sumN_le2 {f g : Nat → Nat} {n : Nat} (h : ∀ p, p < n → f p ≤ g p) : sumN f n ≤ sumN g n := by
  induction n with
  | zero => exact Nat.le_refl _
  | succ n ih =>
    show sumN f n + f n ≤ sumN g n + g n
    have := ih (fun p hp => h p (by omega))
    have := h n (by omega)
    omega
theorem fins_le {S : Su} {np : Nat} {g : Gm} (hw : wfS S) (hG : WG S np g) {p : Nat} (hp : p < np) : fins S (gT g) (gO g) np (gP g) p ≤ 20000 := by
  have hwt := hG.2.1
  have h24 := hwt.1
  obtain ⟨z1, z2, z3, z4⟩ := hG.2.2.2.2.2.2.2.2.1
  have h4 : gP g p + 576 * ob (gO g) (gT g).length ≤ 576 * gw g := z4 p
  have h2 : gF g p + sumN (f1 (gO g) p) (8 * (gT g).length) = 7 := z2 p hp
  have hgw : gw g ≤ 24 := by unfold gw; omega
  have a : sumN (fter S (gT g) (gO g) np p) (8 * (gT g).length) ≤ 576 * sumN (fun x => fl S (gT g) (gO g) x p) (8 * (gT g).length) := by
    rw [← sumN_mul]
    exact sumN_le2 (fun x _ => fter_le hw hwt)
  have b : sumN (fun x => fl S (gT g) (gO g) x p) (8 * (gT g).length) ≤ sumN (f1 (gO g) p) (8 * (gT g).length) := sum_regions _
  unfold fins
  omega
/-- the set of cities met so far, and how many -/
noncomputable def cd (D : Nat → Prop) : Nat := sumN (fun w => ci (D w)) 192
theorem cd_add {D : Nat → Prop} {w : Nat} (hw : w < 192) (h : ¬ D w) : cd (fun y => D y ∨ y = w) = cd D + 1 := by
  refine sumN_one hw ?_ (fun p _ hp => ?_)
  · rw [ci_t (Or.inr rfl), ci_f h]
  · exact ci_c ⟨fun q => q.elim id (fun e => absurd e hp), Or.inl⟩
theorem cd_eq {D E : Nat → Prop} (h : ∀ y, D y ↔ E y) : cd D = cd E := sumN_congr (fun p _ => ci_c (h p))
/-- pieces below b that are in region r touch y, an open-less region -/
def Dq (S : Su) (T : Tl) (r b y : Nat) : Prop := opn S T y = 0 ∧ ∃ x, x < b ∧ labs S T x = r ∧ ∃ o, o < 8 ∧ bt S T x o ∧ labs S T (8 * (x / 8) + o) = y
theorem Dq_ctn {S : Su} {T : Tl} (hw : wfS S) (hwt : wfTl S T) (hm : mat S T) (r : Nat) : cd (Dq S T r (8 * T.length)) = ctn S T r := by
  have h24 := hwt.1
  unfold cd ctn
  rw [show (192 : Nat) = 8 * T.length + (192 - 8 * T.length) by omega, sumN_split, sumN_zero (n := 192 - 8 * T.length) (fun p _ => ci_f (fun ⟨_, x, h1, h2, o, h3, h4, h5⟩ => by
    have := labs_le S T (8 * (x / 8) + o)
    omega)), Nat.add_zero]
  apply sumN_congr
  intro w _
  apply ci_c
  constructor
  · rintro ⟨h0, x, h1, h2, o, h3, h4, h5⟩
    have hty := (hwt.2.1 (x / 8) (by omega)).1
    have hk := ((hw.2.2.2 _ hty).2.2.2.2 (x % 8) (by omega)).2 o h3 h4
    refine ⟨?_, ?_, h0, x, h1, h2, o, h3, h4, h5⟩
    · rw [← h5, kdp_labs hw hwt hm, kdp_at S T h3]; exact hk
    · rw [← h5]; exact (labs_lab S T).2.1 _
  · rintro ⟨_, _, h0, x, h1, h2, o, h3, h4, h5⟩
    exact ⟨h0, x, h1, h2, o, h3, h4, h5⟩

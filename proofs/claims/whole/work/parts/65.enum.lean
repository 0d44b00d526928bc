/-! Counting and the i-th spot. -/
noncomputable def cnt (P : Nat → Prop) : Nat → Nat
  | 0 => 0
  | n + 1 => cnt P n + @ite Nat (P n) (Classical.propDecidable _) 1 0
theorem cnt_t {P : Nat → Prop} {n : Nat} (h : P n) : cnt P (n + 1) = cnt P n + 1 := by
  show cnt P n + @ite Nat (P n) (Classical.propDecidable _) 1 0 = _
  rw [if_pos h]
theorem cnt_f {P : Nat → Prop} {n : Nat} (h : ¬ P n) : cnt P (n + 1) = cnt P n := by
  show cnt P n + @ite Nat (P n) (Classical.propDecidable _) 1 0 = _
  rw [if_neg h]; rfl
theorem cnt_skip {P : Nat → Prop} {a b : Nat} (hab : a ≤ b) (h : ∀ i, a ≤ i → i < b → ¬ P i) : cnt P b = cnt P a := by
  induction b with
  | zero => rw [show a = 0 by omega]
  | succ b ih =>
    by_cases hc : a = b + 1
    · rw [hc]
    · rw [cnt_f (h b (by omega) (by omega))]
      exact ih (by omega) (fun i h1 h2 => h i h1 (by omega))
theorem cnt_mono {P : Nat → Prop} {a b : Nat} (hab : a ≤ b) : cnt P a ≤ cnt P b := by
  induction b with
  | zero => rw [show a = 0 by omega]; exact Nat.le_refl _
  | succ b ih =>
    by_cases hc : a = b + 1
    · rw [hc]; exact Nat.le_refl _
    · have h1 := ih (by omega)
      by_cases hp : P b
      · rw [cnt_t hp]; omega
      · rw [cnt_f hp]; exact h1
theorem cnt_le (P : Nat → Prop) (n : Nat) : cnt P n ≤ n := by
  induction n with
  | zero => exact Nat.le_refl _
  | succ n ih =>
    by_cases hp : P n
    · rw [cnt_t hp]; omega
    · rw [cnt_f hp]; omega
/-- the i-th place of P below e, or none -/
def nth (P : Nat → Prop) (e i : Nat) (r : Int32) : Prop := (∃ j, j < e ∧ P j ∧ cnt P j = i ∧ r = nI j) ∨ (cnt P e ≤ i ∧ r = -1)
theorem x_fitNumber {S : Su} {T : Tl} {M : Me} (hw : wfS S) (hwt : wfTl S T) (hc : cen T) (hS : SX M S) (hX : XT M T) (hXN : XN M T) {k i : Nat} (hk : k < sN S) (hi : i < 1764) : ∃ r, qf_X5_fitNumber (nI k) (nI i) M = some (r, M) ∧ nth (fitS S T k) 1764 i r := by
  have key : ∀ (m n : Nat) (w : Int32), i + 1 - n < m → n ≤ i + 1 → ((n = 0 ∧ w = -1) ∨ ∃ j, j < 1764 ∧ fitS S T k j ∧ cnt (fitS S T k) j + 1 = n ∧ w = nI j) → ∃ r, rx_lp2 (qo_X5_fitNumber_5 (nI k) (nI i)) m w (nI n) M = some (r, M) ∧ nth (fitS S T k) 1764 i r := by
    intro m
    induction m with
    | zero => intro n w h; omega
    | succ m ih =>
      intro n w hm hn hst
      show ∃ r, qo_X5_fitNumber_5 (nI k) (nI i) (rx_lp2 (qo_X5_fitNumber_5 (nI k) (nI i)) m) w (nI n) M = some (r, M) ∧ _
      unfold qo_X5_fitNumber_5
      rw [i_lt (by omega) (by omega)]
      by_cases he : i < n
      · rw [if_pos he]
        rcases hst with ⟨h0, -⟩ | ⟨j, h1, h2, h3, h4⟩
        · omega
        · exact ⟨w, rfl, Or.inl ⟨j, h1, h2, by omega, h4⟩⟩
      · rw [if_neg he]
        have hp : ∃ p, p ≤ 1764 ∧ w + 1 = nI p ∧ cnt (fitS S T k) p = n := by
          rcases hst with ⟨h0, h1⟩ | ⟨j, h1, h2, h3, h4⟩
          · exact ⟨0, by omega, by rw [h1]; decide, by rw [h0]; rfl⟩
          · exact ⟨j + 1, by omega, by rw [h4]; exact nI_1 j, by rw [cnt_t h2]; exact h3⟩
        obtain ⟨p, hp1, hp2, hp3⟩ := hp
        obtain ⟨r, h1, h2⟩ := x_next hw hwt hc hS hX hXN hk hp1
        rw [hp2, h1, n_cl]
        rcases h2 with ⟨j, g1, g2, g3, g4, g5⟩ | ⟨g1, g2⟩
        · rw [g5, i_m1 (by omega), n_vv, kn_1, n_add]
          exact ih (n + 1) (nI j) (by omega) (by omega) (Or.inr ⟨j, g2, g3, by rw [cnt_skip g1 g4, hp3], rfl⟩)
        · rw [g2, if_pos rfl]
          exact ⟨-1, rfl, Or.inr ⟨by rw [cnt_skip hp1 g1, hp3]; omega, rfl⟩⟩
  exact key rx_FU 0 (-1) (fu_lt (by omega)) (by omega) (Or.inl ⟨rfl, rfl⟩)
/-- the reference's number of a spot, and the spot -/
def ph (a : Nat) : Nat := 4 * (21 * (a / 76 + 1) + (a / 4 % 19 + 1)) + a % 4
theorem ph_cell (a : Nat) : ph a / 4 = 21 * (a / 76 + 1) + (a / 4 % 19 + 1) := by unfold ph; omega
theorem ph_turn (a : Nat) : ph a % 4 = a % 4 := by unfold ph; omega
theorem ph_inb {a : Nat} (h : a < 1444) : inb (ph a / 4) := by rw [ph_cell]; unfold inb; omega
theorem ph_col (a : Nat) : ph a / 4 % 21 = a / 4 % 19 + 1 := by rw [ph_cell]; omega
theorem ph_row (a : Nat) : ph a / 4 / 21 = a / 76 + 1 := by rw [ph_cell]; omega
theorem ph_lt {a b : Nat} (h : a < b) : ph a < ph b := by
  unfold ph
  by_cases h1 : a / 76 = b / 76
  · have : a % 76 < b % 76 := by omega
    omega
  · have : a / 76 < b / 76 := by omega
    omega
theorem ph_onto {j : Nat} (h : inb (j / 4)) : ∃ a, a < 1444 ∧ ph a = j := by
  obtain ⟨q1, q2, q3, q4⟩ := h
  refine ⟨((j / 4 / 21 - 1) * 19 + (j / 4 % 21 - 1)) * 4 + j % 4, by omega, ?_⟩
  unfold ph
  omega
theorem ph_gap {a j : Nat} (h : inb (j / 4)) (h1 : ph a < j) (h2 : j < ph (a + 1)) : False := by
  obtain ⟨b, hb, rfl⟩ := ph_onto h
  have : a < b := by
    by_cases hab : a < b
    · exact hab
    · by_cases e : a = b
      · subst e; omega
      · have := ph_lt (show b < a by omega); omega
  by_cases e : b = a + 1
  · subst e; omega
  · have := ph_lt (show a + 1 < b by omega); omega
theorem ph_cnt {P : Nat → Prop} (hP : ∀ j, P j → inb (j / 4)) (a : Nat) : cnt P (ph a) = cnt (fun a => P (ph a)) a := by
  induction a with
  | zero =>
    rw [cnt_skip (Nat.zero_le _) (fun i _ h2 g => ?_)]
    · rfl
    · obtain ⟨b, hb, rfl⟩ := ph_onto (hP i g)
      by_cases e : b = 0
      · subst e; omega
      · have := ph_lt (show 0 < b by omega); omega
  | succ a ih =>
    have hlt := ph_lt (show a < a + 1 by omega)
    rw [cnt_skip (a := ph a + 1) (by omega) (fun i h1 h2 g => ph_gap (hP i g) h1 h2)]
    by_cases hp : P (ph a)
    · rw [cnt_t hp, cnt_t (P := fun a => P (ph a)) hp, ih]
    · rw [cnt_f hp, cnt_f (P := fun a => P (ph a)) hp, ih]
theorem ph_all {P : Nat → Prop} (hP : ∀ j, P j → inb (j / 4)) : cnt P 1764 = cnt (fun a => P (ph a)) 1444 := by
  rw [← ph_cnt hP, cnt_skip (a := ph 1444) (by decide) (fun i h1 h2 g => ?_)]
  obtain ⟨b, hb, rfl⟩ := ph_onto (hP i g)
  have := ph_lt hb
  omega
theorem co_m9 : ∀ n, n < 20 → nI n - 9 = co (n + 1) := by decide
theorem y_fitting {S : Su} {T : Tl} {M : Me} (hw : wfS S) (hwt : wfTl S T) (hS : SY M S) (hY : YT M T) {k i : Nat} (hk : k < sN S) (hi : i < 2147483648) : ∃ r, qf_X7_fitting (nI k) (nI i) M = some (r, M) ∧ nth (fun a => fitS S T k (ph a)) 1444 i r := by
  have key : ∀ (m a w : Nat), 1444 - a < m → a ≤ 1444 → w + cnt (fun a => fitS S T k (ph a)) a = i → ∃ r, rx_lp2 (qo_X7_fitting_5 (nI k)) m (nI w) (nI a) M = some (r, M) ∧ nth (fun a => fitS S T k (ph a)) 1444 i r := by
    intro m
    induction m with
    | zero => intro a w h; omega
    | succ m ih =>
      intro a w hm ha hst
      show ∃ r, qo_X7_fitting_5 (nI k) (rx_lp2 (qo_X7_fitting_5 (nI k)) m) (nI w) (nI a) M = some (r, M) ∧ _
      generalize rx_lp2 (qo_X7_fitting_5 (nI k)) m = rec at ih ⊢
      unfold qo_X7_fitting_5
      rw [kn_1444, i_le (by decide) (by omega)]
      by_cases he : 1444 ≤ a
      · rw [if_pos he]
        have e : a = 1444 := by omega
        subst e
        exact ⟨-1, rfl, Or.inr ⟨by omega, rfl⟩⟩
      · have h53 : ∀ w : Nat, qb_X7_fitting_53 rec (nI k) (nI w) (nI a) M = rec (nI w) (nI (a + 1)) M := by
          intro w
          unfold qb_X7_fitting_53
          rw [n_vv, kn_1, n_add]
        have hx := co_m9 (a / 4 % 19) (by omega)
        have hy := co_m9 (a / 76) (by omega)
        have hf := y_fitsAt hw hwt hS hY hk (ph_inb (show a < 1444 by omega)) (show a % 4 < 4 from Nat.mod_lt _ (by decide))
        rw [ph_col, ph_row] at hf
        rw [if_neg he, kn_4, n_div (by omega) (by decide) (by decide), kn_19, n_div (by omega) (by decide) (by decide), n_mul, n_sub (by omega), nat_rem, hx, kn_76, n_div (by omega) (by decide) (by decide), hy, n_mul, n_sub (by omega), nat_rem, hf, n_cl]
        by_cases hfit : fitS S T k (ph a)
        · have hfit' : fit S T k (ph a / 4) (a % 4) := by have := hfit; unfold fitS at this; rw [ph_turn] at this; exact this
          rw [flg_t hfit', if_neg (by decide)]
          by_cases hw0 : w = 0
          · subst hw0
            rw [if_pos (show nI 0 = 0 from rfl)]
            exact ⟨nI a, rfl, Or.inl ⟨a, by omega, hfit, by omega, rfl⟩⟩
          · have hne : ¬ nI w = 0 := fun g => hw0 (n_inj (b := 0) (by omega) (by decide) g)
            have e : nI w + (-1) = nI (w - 1) := by
              have := pk_m1 (w - 1)
              rw [show w - 1 + 1 = w by omega] at this
              exact this
            rw [if_neg hne, n_vv, e, h53]
            exact ih (a + 1) (w - 1) (by omega) (by omega) (by rw [cnt_t (P := fun a => fitS S T k (ph a)) hfit]; omega)
        · have hfit' : ¬ fit S T k (ph a / 4) (a % 4) := fun g => hfit (by unfold fitS; rw [ph_turn]; exact g)
          rw [flg_f hfit', if_pos rfl, h53]
          exact ih (a + 1) w (by omega) (by omega) (by rw [cnt_f (P := fun a => fitS S T k (ph a)) hfit]; exact hst)
  exact key rx_FU 0 i (fu_lt (by decide)) (by decide) rfl

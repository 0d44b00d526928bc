/-! The spots at which a tile fits, in order. -/
def fitS (S : Su) (T : Tl) (k j : Nat) : Prop := fit S T k (j / 4) (j % 4)
theorem nc_pos {T : Tl} {q : Nat} : 0 < nc T q ↔ ∃ d, d < 4 ∧ ta T (nb q d) ≠ none := by
  have key : ∀ r, ct T r = 1 ∧ ta T r ≠ none ∨ ct T r = 0 ∧ ta T r = none := by
    intro r
    unfold ct
    cases h : ta T r with
    | none => right; exact ⟨rfl, rfl⟩
    | some t => left; exact ⟨rfl, fun q => by cases q⟩
  have k0 := key (q - 21)
  have k1 := key (q + 1)
  have k2 := key (q + 21)
  have k3 := key (q - 1)
  unfold nc
  constructor
  · intro h
    by_cases c0 : ta T (q - 21) ≠ none
    · exact ⟨0, by decide, c0⟩
    · by_cases c1 : ta T (q + 1) ≠ none
      · exact ⟨1, by decide, c1⟩
      · by_cases c2 : ta T (q + 21) ≠ none
        · exact ⟨2, by decide, c2⟩
        · by_cases c3 : ta T (q - 1) ≠ none
          · exact ⟨3, by decide, c3⟩
          · exfalso
            have e0 : ct T (q - 21) = 0 := by rcases k0 with h | h; exact absurd h.2 c0; exact h.1
            have e1 : ct T (q + 1) = 0 := by rcases k1 with h | h; exact absurd h.2 c1; exact h.1
            have e2 : ct T (q + 21) = 0 := by rcases k2 with h | h; exact absurd h.2 c2; exact h.1
            have e3 : ct T (q - 1) = 0 := by rcases k3 with h | h; exact absurd h.2 c3; exact h.1
            omega
  · rintro ⟨d, hd, h⟩
    have hdd : d = 0 ∨ d = 1 ∨ d = 2 ∨ d = 3 := by omega
    rcases hdd with rfl | rfl | rfl | rfl
    · have h : ta T (q - 21) ≠ none := h
      have e0 : ct T (q - 21) = 1 := by rcases k0 with g | g; exact g.1; exact absurd g.2 h
      omega
    · have h : ta T (q + 1) ≠ none := h
      have e0 : ct T (q + 1) = 1 := by rcases k1 with g | g; exact g.1; exact absurd g.2 h
      omega
    · have h : ta T (q + 21) ≠ none := h
      have e0 : ct T (q + 21) = 1 := by rcases k2 with g | g; exact g.1; exact absurd g.2 h
      omega
    · have h : ta T (q - 1) ≠ none := h
      have e0 : ct T (q - 1) = 1 := by rcases k3 with g | g; exact g.1; exact absurd g.2 h
      omega
theorem ct_le (T : Tl) (q : Nat) : ct T q ≤ 1 := by
  unfold ct
  by_cases h : (ta T q).isSome = true
  · rw [if_pos h]; exact Nat.le_refl _
  · rw [if_neg h]; exact Nat.zero_le _
theorem nc_le (T : Tl) (q : Nat) : nc T q ≤ 4 := by
  have a := ct_le T (q - 21)
  have b := ct_le T (q + 1)
  have c := ct_le T (q + 21)
  have d := ct_le T (q - 1)
  unfold nc
  omega
theorem near_rim : ∀ n, n < 5 → (-4 : Int32) + nI n ≤ 0 := by decide
theorem near_mid : ∀ n, n < 5 → ¬ ((1 : Int32) + nI n ≤ 0) := by decide
theorem near_in : ∀ n, n < 5 → ((0 : Int32) + nI n ≤ 0 ↔ n = 0) := by decide
/-- may a tile be laid here, tiles' sides apart -/
def free (T : Tl) (q : Nat) : Prop := inb q ∧ ta T q = none ∧ (q = 220 ∨ ∃ d, d < 4 ∧ ta T (nb q d) ≠ none)
theorem x_near {M : Me} {T : Tl} (hX : XN M T) {q : Nat} (hq : q < 441) : (M 18 q ≤ 0) ↔ ¬ (inb q ∧ (q = 220 ∨ ∃ d, d < 4 ∧ ta T (nb q d) ≠ none)) := by
  rw [hX.1 q hq]
  have hn := nc_le T q
  unfold nearB
  by_cases hi : 1 ≤ q % 21 ∧ q % 21 ≤ 19 ∧ 1 ≤ q / 21 ∧ q / 21 ≤ 19
  · rw [if_pos hi]
    by_cases h2 : q = 220
    · rw [if_pos h2]
      exact ⟨fun h => absurd h (near_mid _ (by omega)), fun h => absurd ⟨hi, Or.inl h2⟩ h⟩
    · rw [if_neg h2, near_in _ (by omega)]
      constructor
      · rintro h ⟨_, h3 | h3⟩
        · exact h2 h3
        · have := nc_pos.mpr h3; omega
      · intro h
        have h4 : ¬ 0 < nc T q := fun g => h ⟨hi, Or.inr (nc_pos.mp g)⟩
        omega
  · rw [if_neg hi]
    exact ⟨fun _ g => hi g.1, fun _ => near_rim _ (by omega)⟩
/-- with a first tile on the board the centre is taken, or somewhere lies beside it; the first tile lies in the centre -/
def cen (T : Tl) : Prop := T ≠ [] → ta T 220 ≠ none
theorem fit_iff {S : Su} {T : Tl} (hc : cen T) {k q u : Nat} : fit S T k q u ↔ free T q ∧ sides S T k q u := by
  unfold fit free sides
  constructor
  · rintro ⟨h1, h2, h3, h4⟩
    refine ⟨⟨h1, h2, ?_⟩, h4⟩
    rcases h3 with h3 | h3
    · exact Or.inl h3.2
    · exact Or.inr h3
  · rintro ⟨⟨h1, h2, h3⟩, h4⟩
    refine ⟨h1, h2, ?_, h4⟩
    rcases h3 with h3 | h3
    · left
      refine ⟨Classical.byContradiction fun g => ?_, h3⟩
      exact hc g (h3 ▸ h2)
    · exact Or.inr h3
/-- the least spot from p on, or none -/
def isNext (P : Nat → Prop) (e p : Nat) (r : Int32) : Prop := (∃ j, p ≤ j ∧ j < e ∧ P j ∧ (∀ i, p ≤ i → i < j → ¬ P i) ∧ r = nI j) ∨ ((∀ i, p ≤ i → i < e → ¬ P i) ∧ r = -1)
theorem isNext.skip {P : Nat → Prop} {e p p2 : Nat} {r : Int32} (h : isNext P e p2 r) (hp : p ≤ p2) (hn : ∀ i, p ≤ i → i < p2 → ¬ P i) : isNext P e p r := by
  rcases h with ⟨j, h1, h2, h3, h4, h5⟩ | ⟨h1, h2⟩
  · left
    refine ⟨j, by omega, h2, h3, fun i hi hj => ?_, h5⟩
    by_cases hc : i < p2
    · exact hn i hi hc
    · exact h4 i (by omega) hj
  · right
    refine ⟨fun i hi hj => ?_, h2⟩
    by_cases hc : i < p2
    · exact hn i hi hc
    · exact h1 i (by omega) hj
theorem x_nextFit {S : Su} {T : Tl} {M : Me} (hw : wfS S) (hwt : wfTl S T) (hc : cen T) (hS : SX M S) (hX : XT M T) (hXN : XN M T) {k : Nat} (hk : k < sN S) : ∀ (n p : Nat), 1764 - p < n → p ≤ 1764 → ∃ r, rx_lp1 (qo_X5_nextFit_2 (nI k)) n (nI p) M = some (r, M) ∧ isNext (fitS S T k) 1764 p r := by
  intro n
  induction n with
  | zero => intro p h; omega
  | succ n ih =>
    intro p hn hp
    show ∃ r, qo_X5_nextFit_2 (nI k) (rx_lp1 (qo_X5_nextFit_2 (nI k)) n) (nI p) M = some (r, M) ∧ _
    by_cases he : p = 1764
    · subst he
      refine ⟨-1, ?_, Or.inr ⟨fun i h1 h2 => by omega, rfl⟩⟩
      unfold qo_X5_nextFit_2
      rw [kn_1764, i_le (by decide) (by decide), if_pos (by decide)]
    · have hlt : p < 1764 := by omega
      have hq : p / 4 < 441 := by omega
      have hskip : ∀ (hno : ¬ free T (p / 4)), ∃ r, qb_X5_nextFit_35 (rx_lp1 (qo_X5_nextFit_2 (nI k)) n) (nI k) (nI (p / 4)) M = some (r, M) ∧ isNext (fitS S T k) 1764 p r := by
        intro hno
        obtain ⟨r, h1, h2⟩ := ih ((p / 4 + 1) * 4) (by omega) (by omega)
        refine ⟨r, ?_, h2.skip (by omega) (fun i hi hj g => ?_)⟩
        · unfold qb_X5_nextFit_35
          rw [kn_1, n_add, kn_4, n_mul, n_vv]
          exact h1
        · have e : i / 4 = p / 4 := by omega
          have := ((fit_iff hc).mp g).1
          rw [e] at this
          exact hno this
      unfold qo_X5_nextFit_2
      rw [kn_1764, i_le (by decide) (by omega), if_neg (by omega), kn_4, n_div (by omega) (by decide) (by decide), n_vv, n_ld hq (by decide)]
      by_cases hnear : M 18 (p / 4) ≤ 0
      · rw [if_pos hnear]
        exact hskip (fun g => (x_near hXN hq).mp hnear ⟨g.1, g.2.2⟩)
      · rw [if_neg hnear, n_ld hq (by decide), hX.2.2.1 _ hq]
        have hfr : inb (p / 4) ∧ (p / 4 = 220 ∨ ∃ d, d < 4 ∧ ta T (nb (p / 4) d) ≠ none) := Classical.byContradiction fun g => hnear ((x_near hXN hq).mpr g)
        cases e : ta T (p / 4) with
        | some t =>
          obtain ⟨ht, -⟩ := ta_some e
          have h24 := hwt.1
          rw [atv_some e, i_m1 (by omega)]
          exact hskip (fun g => by have := g.2.1; rw [e] at this; cases this)
        | none =>
          have hfree : free T (p / 4) := ⟨hfr.1, e, hfr.2⟩
          have hs := x_sidesMatch hw hwt hS hX hk hfr.1 (show p % 4 < 4 from Nat.mod_lt _ (by decide))
          rw [atv_none e, if_pos rfl, n_mul, n_sub (by omega), nat_rem]
          by_cases hsd : sides S T k (p / 4) (p % 4)
          · rw [hs.1 hsd, n_cl, if_neg (by decide)]
            exact ⟨nI p, rfl, Or.inl ⟨p, Nat.le_refl _, hlt, (fit_iff hc).mpr ⟨hfree, hsd⟩, fun i h1 h2 => by omega, rfl⟩⟩
          · rw [hs.2 hsd, n_cl, if_pos rfl, n_vv, kn_1, n_add]
            obtain ⟨r, h1, h2⟩ := ih (p + 1) (by omega) (by omega)
            refine ⟨r, h1, h2.skip (by omega) (fun i hi hj g => ?_)⟩
            have e2 : i = p := by omega
            subst e2
            exact hsd ((fit_iff hc).mp g).2
theorem x_next {S : Su} {T : Tl} {M : Me} (hw : wfS S) (hwt : wfTl S T) (hc : cen T) (hS : SX M S) (hX : XT M T) (hXN : XN M T) {k p : Nat} (hk : k < sN S) (hp : p ≤ 1764) : ∃ r, qf_X5_nextFit (nI k) (nI p) M = some (r, M) ∧ isNext (fitS S T k) 1764 p r := x_nextFit hw hwt hc hS hX hXN hk rx_FU p (fu_lt (by omega)) hp

/-! Fitting, on both sides. -/
theorem n_ls {β : Type} {xs : List Int32} {i : Nat} {k : Int32 → Option β} (h : i < xs.length) (hn : xs.length < 2147483648) : rx_ls xs (nI i) k = k (xs.getD i 0) := by
  unfold rx_ls
  rw [if_neg (nI_in h hn), nI_clamp (by omega)]
theorem lp3_fun {β : Type} {b : (Int32 → Int32 → Int32 → Me → Option β) → Int32 → Int32 → Int32 → Me → Option β} {e : Nat} {M : Me} {K : Option β} (A B : Nat → Int32)
    (hs : ∀ (rec : Int32 → Int32 → Int32 → Me → Option β) (i : Nat), i < e → b rec (A i) (B i) (nI i) M = rec (A (i + 1)) (B (i + 1)) (nI (i + 1)) M) (he : ∀ (rec : Int32 → Int32 → Int32 → Me → Option β), b rec (A e) (B e) (nI e) M = K) :
    ∀ (n i : Nat), e - i < n → i ≤ e → rx_lp3 b n (A i) (B i) (nI i) M = K := by
  intro n
  induction n with
  | zero => intro i h; omega
  | succ n ih =>
    intro i hn hi
    show b (rx_lp3 b n) (A i) (B i) (nI i) M = K
    by_cases h : i = e
    · subst h; exact he _
    · rw [hs _ i (by omega)]; exact ih (i + 1) (by omega) (by omega)
noncomputable def flg (P : Prop) : Int32 := @ite Int32 P (Classical.propDecidable P) 1 0
theorem flg_t {P : Prop} (h : P) : flg P = 1 := by unfold flg; exact if_pos h
theorem flg_f {P : Prop} (h : ¬ P) : flg P = 0 := by unfold flg; exact if_neg h
theorem flg_c {P Q : Prop} (h : P ↔ Q) : flg P = flg Q := by rw [propext h]
/-- the kinds along a side: told by its middle -/
theorem side_kind {S : Su} {k : Nat} (hw : wfT S k) {d j : Nat} (hd : d < 4) (hj : j < 3) : sK S k (sP S k (3 * d + j)) = if sK S k (sP S k (3 * d + 1)) = 2 ∧ j ≠ 1 then 3 else sK S k (sP S k (3 * d + 1)) := by
  have h := hw.2.2.1 d hd
  have hjj : j = 0 ∨ j = 1 ∨ j = 2 := by omega
  rcases hjj with rfl | rfl | rfl
  · rcases h with ⟨h1, h2, h3⟩ | ⟨h1, h2, h3⟩
    · rw [if_pos ⟨h1, by decide⟩]; exact h2
    · rw [if_neg (fun q => h1 q.1)]
      show sK S k (sP S k (3 * d)) = _
      rw [h2]
  · rw [if_neg (fun q => q.2 rfl)]
  · rcases h with ⟨h1, h2, h3⟩ | ⟨h1, h2, h3⟩
    · rw [if_pos ⟨h1, by decide⟩]; exact h3
    · rw [if_neg (fun q => h1 q.1), h3]
theorem pu_side {S : Su} {k u d j : Nat} (hu : u < 4) (hd : d < 4) (hj : j < 3) : pu S k u (3 * d + j) = sP S k (3 * ((d + 4 - u) % 4) + j) := by
  unfold pu
  congr 1
  omega
theorem ms_eq {S : Su} {k u d : Nat} (hu : u < 4) (hd : d < 4) : ms S k u d = sK S k (sP S k (3 * ((d + 4 - u) % 4) + 1)) := by
  unfold ms
  rw [pu_side hu hd (by decide)]
theorem slot_kind {S : Su} {k u d j : Nat} (hw : wfT S k) (hu : u < 4) (hd : d < 4) (hj : j < 3) : sK S k (pu S k u (3 * d + j)) = if ms S k u d = 2 ∧ j ≠ 1 then 3 else ms S k u d := by
  rw [pu_side hu hd hj, ms_eq hu hd, side_kind hw (Nat.mod_lt _ (by decide)) hj]
theorem op_side : ∀ d, d < 4 → ∀ j, j < 3 → op (3 * d + j) = 3 * ((d + 2) % 4) + (2 - j) := by decide
/-- the slots of a side agree just where its middles do -/
theorem slots_middle {S : Su} {k u k2 u2 d : Nat} (hw : wfT S k) (hw2 : wfT S k2) (hu : u < 4) (hu2 : u2 < 4) (hd : d < 4) : (∀ j, j < 3 → sK S k2 (pu S k2 u2 (op (3 * d + j))) = sK S k (pu S k u (3 * d + j))) ↔ ms S k u d = ms S k2 u2 ((d + 2) % 4) := by
  have hd2 : (d + 2) % 4 < 4 := Nat.mod_lt _ (by decide)
  constructor
  · intro h
    have h1 := h 1 (by decide)
    rw [op_side d hd 1 (by decide), slot_kind hw hu hd (by decide), slot_kind hw2 hu2 hd2 (by decide), if_neg (fun q => q.2 rfl), if_neg (fun q => q.2 rfl)] at h1
    exact h1.symm
  · intro h j hj
    rw [op_side d hd j hj, slot_kind hw hu hd hj, slot_kind hw2 hu2 hd2 (by omega), h]
    have : (2 - j ≠ 1) ↔ (j ≠ 1) := by omega
    by_cases hc : ms S k2 u2 ((d + 2) % 4) = 2 ∧ j ≠ 1
    · rw [if_pos hc, if_pos ⟨hc.1, this.mpr hc.2⟩]
    · rw [if_neg hc, if_neg (fun q => hc ⟨q.1, this.mp q.2⟩)]
/-! the class -/
theorem step_nb {q d : Nat} (hq : inb q) (hd : d < 4) : nI q + sZ1.getD d 0 = nI (nb q d) := by
  obtain ⟨q1, q2, q3, q4⟩ := hq
  have h1 : 22 ≤ q := by omega
  have hdd : d = 0 ∨ d = 1 ∨ d = 2 ∨ d = 3 := by omega
  have e21 : (-21 : Int32) = -nI 21 := by decide
  have e1 : (-1 : Int32) = -nI 1 := by decide
  rcases hdd with rfl | rfl | rfl | rfl
  · show nI q + (-21) = nI (q - 21)
    rw [e21, ← Int32.sub_eq_add_neg, n_sub (by omega)]
  · show nI q + 1 = nI (q + 1)
    exact nI_1 q
  · show nI q + 21 = nI (q + 21)
    exact n_add q 21
  · show nI q + (-1) = nI (q - 1)
    rw [e1, ← Int32.sub_eq_add_neg, n_sub (by omega)]
theorem nb_lt {q d : Nat} (hq : inb q) : nb q d < 441 := by
  obtain ⟨q1, q2, q3, q4⟩ := hq
  have : q < 420 := by omega
  unfold nb
  by_cases c0 : d = 0
  · rw [if_pos c0]; omega
  · rw [if_neg c0]
    by_cases c1 : d = 1
    · rw [if_pos c1]; omega
    · rw [if_neg c1]
      by_cases c2 : d = 2
      · rw [if_pos c2]; omega
      · rw [if_neg c2]; omega
def sides (S : Su) (T : Tl) (k q u : Nat) : Prop := ∀ d o, d < 4 → ta T (nb q d) = some o → ms S k u d = ms S (ty T o) (tu T o) ((d + 2) % 4)
theorem x_sidesMatch {S : Su} {T : Tl} {M : Me} (hw : wfS S) (hwt : wfTl S T) (hS : SX M S) (hX : XT M T) {k q u : Nat} (hk : k < sN S) (hq : inb q) (hu : u < 4) : (sides S T k q u → qf_X5_sidesMatch (nI k) (nI q) (nI u) M = some (1, M)) ∧ (¬ sides S T k q u → qf_X5_sidesMatch (nI k) (nI q) (nI u) M = some (0, M)) := by
  have h12 := hw.1
  have h24 := hwt.1
  have key := lp1_chk (b := qo_X5_sidesMatch_3 (nI k) (nI q) (nI u)) (e := 4) (M := M) (K := some (1, M)) (F := some (0, M)) (bad := fun d => ¬ ∀ o, ta T (nb q d) = some o → ms S k u d = ms S (ty T o) (tu T o) ((d + 2) % 4)) ?_ ?_ ?_ rx_FU 0 (fu_lt (by decide)) (by decide)
  · have hend : qf_X5_sidesMatch (nI k) (nI q) (nI u) M = rx_lp1 (qo_X5_sidesMatch_3 (nI k) (nI q) (nI u)) rx_FU 0 M := rfl
    rw [hend]
    refine ⟨fun h => key.1 (fun j _ hj => not_not_intro (fun o => h j o hj)), fun h => key.2 ?_⟩
    exact not_all (c := fun d => ∀ o, ta T (nb q d) = some o → ms S k u d = ms S (ty T o) (tu T o) ((d + 2) % 4)) (fun g => h (fun d o hd => g d hd o))
  · intro rec d hd hbad
    have hr : ∀ d, d < 4 → qo_X5_sidesMatch_3 (nI k) (nI q) (nI u) rec (nI d) M = qo_X5_sidesMatch_3 (nI k) (nI q) (nI u) rec (nI d) M := fun _ _ => rfl
    cases e : ta T (nb q d) with
    | none => exact absurd (fun o h => by rw [e] at h; cases h) hbad
    | some o =>
      obtain ⟨ho, -⟩ := ta_some e
      have hto := hX.2.1 o ho
      have hwo := hwt.2.1 o ho
      have hne : ¬ ms S k u d = ms S (ty T o) (tu T o) ((d + 2) % 4) := fun h => hbad (fun o2 h2 => by rw [e] at h2; cases h2; exact h)
      rw [ms_eq hu hd, ms_eq hwo.2.1 (Nat.mod_lt _ (by decide)), show ((d + 2) % 4 + 4 - tu T o) % 4 = (d + 2 + 4 - tu T o) % 4 by omega] at hne
      have hs1 := hS.2.2.2.2.2.1 k ((d + 4 - u) % 4) hk (Nat.mod_lt _ (by decide))
      have hs2 := hS.2.2.2.2.2.1 (ty T o) ((d + 2 + 4 - tu T o) % 4) hwo.1 (Nat.mod_lt _ (by decide))
      have b1 := sK_le hw hk (((hw.2.2.2 k hk).1 (3 * ((d + 4 - u) % 4) + 1) (by omega)).1)
      have b2 := sK_le hw hwo.1 (((hw.2.2.2 _ hwo.1).1 (3 * ((d + 2 + 4 - tu T o) % 4) + 1) (by omega)).1)
      unfold qo_X5_sidesMatch_3
      rw [kn_4, i_le (by decide) (by omega), if_neg (by omega), n_ls (show d < sZ1.length from hd) (by decide), step_nb hq hd, n_ld (nb_lt hq) (by decide), hX.2.2.1 _ (nb_lt hq), atv_some e, i_m1 (by omega), n_add, n_sub (by omega), n_div (by omega) (by decide) (by decide), n_mul, n_sub (by omega), nat_rem, n_vv, n_ld (by omega) (by decide), hto.2.2, kn_2, n_add, n_add, n_sub (by omega), n_div (by omega) (by decide) (by decide), n_mul, n_sub (by omega), nat_rem, n_vv, n_mul, n_add, n_ld (by omega) (by decide), hs1, n_ld (by omega) (by decide), hto.2.1, n_mul, n_add, n_ld (by omega) (by decide), hs2, i_eq (by omega) (by omega), if_neg hne]
      rfl
  · intro rec d hd hgood
    have hg := Classical.byContradiction hgood
    have h100 : qb_X5_sidesMatch_100 rec (nI k) (nI q) (nI u) (nI d) M = rec (nI (d + 1)) M := by
      unfold qb_X5_sidesMatch_100
      rw [n_vv, kn_1, n_add]
    cases e : ta T (nb q d) with
    | none =>
      unfold qo_X5_sidesMatch_3
      rw [kn_4, i_le (by decide) (by omega), if_neg (by omega), n_ls (show d < sZ1.length from hd) (by decide), step_nb hq hd, n_ld (nb_lt hq) (by decide), hX.2.2.1 _ (nb_lt hq), atv_none e, if_pos rfl]
      exact h100
    | some o =>
      obtain ⟨ho, -⟩ := ta_some e
      have hto := hX.2.1 o ho
      have hwo := hwt.2.1 o ho
      have hne : ms S k u d = ms S (ty T o) (tu T o) ((d + 2) % 4) := hg o e
      rw [ms_eq hu hd, ms_eq hwo.2.1 (Nat.mod_lt _ (by decide)), show ((d + 2) % 4 + 4 - tu T o) % 4 = (d + 2 + 4 - tu T o) % 4 by omega] at hne
      have hs1 := hS.2.2.2.2.2.1 k ((d + 4 - u) % 4) hk (Nat.mod_lt _ (by decide))
      have hs2 := hS.2.2.2.2.2.1 (ty T o) ((d + 2 + 4 - tu T o) % 4) hwo.1 (Nat.mod_lt _ (by decide))
      have b1 := sK_le hw hk (((hw.2.2.2 k hk).1 (3 * ((d + 4 - u) % 4) + 1) (by omega)).1)
      have b2 := sK_le hw hwo.1 (((hw.2.2.2 _ hwo.1).1 (3 * ((d + 2 + 4 - tu T o) % 4) + 1) (by omega)).1)
      unfold qo_X5_sidesMatch_3
      rw [kn_4, i_le (by decide) (by omega), if_neg (by omega), n_ls (show d < sZ1.length from hd) (by decide), step_nb hq hd, n_ld (nb_lt hq) (by decide), hX.2.2.1 _ (nb_lt hq), atv_some e, i_m1 (by omega), n_add, n_sub (by omega), n_div (by omega) (by decide) (by decide), n_mul, n_sub (by omega), nat_rem, n_vv, n_ld (by omega) (by decide), hto.2.2, kn_2, n_add, n_add, n_sub (by omega), n_div (by omega) (by decide) (by decide), n_mul, n_sub (by omega), nat_rem, n_vv, n_mul, n_add, n_ld (by omega) (by decide), hs1, n_ld (by omega) (by decide), hto.2.1, n_mul, n_add, n_ld (by omega) (by decide), hs2, i_eq (by omega) (by omega), if_pos hne]
      exact h100
  · intro rec
    unfold qo_X5_sidesMatch_3
    rw [kn_4, i_le (by decide) (by decide), if_pos (by decide)]
    rfl

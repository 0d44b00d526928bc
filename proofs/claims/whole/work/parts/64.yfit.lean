/-! Fitting in the reference. -/
theorem co_zero : ∀ n, n < 21 → (co n = 0 ↔ n = 10) := by decide
def nearI (T : Tl) (q i : Nat) : Prop := (T = [] ∧ q = 220) ∨ ∃ s, s < i ∧ ta T (nb q (s / 3)) ≠ none
def slotsI (S : Su) (T : Tl) (k q u i : Nat) : Prop := ∀ s, s < i → ∀ o, ta T (nb q (s / 3)) = some o → sK S (ty T o) (pp S T o (op s)) = sK S k (pu S k u s)
theorem slotsI_sides {S : Su} {T : Tl} (hw : wfS S) (hwt : wfTl S T) {k q u : Nat} (hk : k < sN S) (hu : u < 4) : slotsI S T k q u 12 ↔ sides S T k q u := by
  unfold slotsI sides
  constructor
  · intro h d o hd ho
    obtain ⟨h1, -⟩ := ta_some ho
    have hwo := hwt.2.1 o h1
    refine (slots_middle (hw.2.2.2 k hk) (hw.2.2.2 _ hwo.1) hu hwo.2.1 hd).mp (fun j hj => ?_)
    exact h (3 * d + j) (by omega) o (by rw [show (3 * d + j) / 3 = d by omega]; exact ho)
  · intro h s hs o ho
    obtain ⟨h1, -⟩ := ta_some ho
    have hwo := hwt.2.1 o h1
    have := (slots_middle (hw.2.2.2 k hk) (hw.2.2.2 _ hwo.1) hu hwo.2.1 (show s / 3 < 4 by omega)).mpr (h (s / 3) o (by omega) ho) (s % 3) (Nat.mod_lt _ (by decide))
    rw [show 3 * (s / 3) + s % 3 = s by omega] at this
    exact this
theorem nearI_12 {T : Tl} {q : Nat} : nearI T q 12 ↔ ((T = [] ∧ q = 220) ∨ ∃ d, d < 4 ∧ ta T (nb q d) ≠ none) := by
  unfold nearI
  constructor
  · rintro (h | ⟨s, h1, h2⟩)
    · exact Or.inl h
    · exact Or.inr ⟨s / 3, by omega, h2⟩
  · rintro (h | ⟨d, h1, h2⟩)
    · exact Or.inl h
    · exact Or.inr ⟨3 * d, by omega, by rw [show 3 * d / 3 = d by omega]; exact h2⟩
theorem y_fitLoop {S : Su} {T : Tl} {M : Me} (hw : wfS S) (hwt : wfTl S T) (hS : SY M S) (hY : YT M T) {k q u : Nat} (hk : k < sN S) (hq : inb q) (hu : u < 4) (P : Prop) (hP : P ↔ (T = [] ∧ q = 220)) : qb_X7_fitsAt_50 (nI k) (co (q % 21)) (co (q / 21)) (nI u) (flg P) M = some (flg (nearI T q 12 ∧ slotsI S T k q u 12), M) := by
  have h24 := hwt.1
  have h12 := hw.1
  have key := lp3_fun (b := qo_X7_fitsAt_58 (fun a5 a6 M => qb_X7_fitsAt_148 a5 a6 M) (nI k) (co (q % 21)) (co (q / 21)) (nI u)) (e := 12) (M := M) (K := some (flg (nearI T q 12 ∧ slotsI S T k q u 12), M)) (fun i => flg (nearI T q i)) (fun i => flg (slotsI S T k q u i)) ?_ ?_ rx_FU 0 (fu_lt (by decide)) (by decide)
  · have e1 : flg P = flg (nearI T q 0) := flg_c (hP.trans ⟨fun h => Or.inl h, fun h => by rcases h with h | ⟨s, h1, _⟩; exact h; omega⟩)
    have e2 : (1 : Int32) = flg (slotsI S T k q u 0) := (flg_t (fun s hs => by omega)).symm
    unfold qb_X7_fitsAt_50
    rw [e1, e2]
    exact key
  · intro rec i hi
    have h140 : ∀ (a b : Int32) (M : Me), qb_X7_fitsAt_140 rec (nI k) (co (q % 21)) (co (q / 21)) (nI u) a (nI i) b M = rec a b (nI (i + 1)) M := by
      intro a b M
      unfold qb_X7_fitsAt_140
      rw [n_vv, kn_1, n_add]
    unfold qo_X7_fitsAt_58
    rw [kn_12, i_le (by decide) (by omega), if_neg (by omega), y_beside hwt hY hq hi, n_cl]
    cases e : ta T (nb q (i / 3)) with
    | none =>
      have hn1 : flg (nearI T q i) = flg (nearI T q (i + 1)) := flg_c ⟨fun h => by
          rcases h with h | ⟨s, h1, h2⟩
          · exact Or.inl h
          · exact Or.inr ⟨s, by omega, h2⟩, fun h => by
          rcases h with h | ⟨s, h1, h2⟩
          · exact Or.inl h
          · by_cases hs : s = i
            · subst hs; exact absurd e h2
            · exact Or.inr ⟨s, by omega, h2⟩⟩
      have hf1 : flg (slotsI S T k q u i) = flg (slotsI S T k q u (i + 1)) := flg_c ⟨fun h s hs o ho => by
          by_cases hsi : s = i
          · subst hsi; rw [e] at ho; cases ho
          · exact h s (by omega) o ho, fun h s hs o ho => h s (by omega) o ho⟩
      have h90 : ∀ a, qb_X7_fitsAt_90 rec (nI k) (co (q % 21)) (co (q / 21)) (nI u) (flg (slotsI S T k q u i)) (nI i) (-1) a M = rec a (flg (slotsI S T k q u (i + 1))) (nI (i + 1)) M := by
        intro a
        unfold qb_X7_fitsAt_90
        by_cases hf : slotsI S T k q u i
        · rw [← hf1, flg_t hf, if_neg (by decide), if_pos (by decide)]; exact h140 _ _ _
        · rw [← hf1, flg_f hf, if_pos rfl]; exact h140 _ _ _
      rw [atv_none e, if_pos (show (-1 : Int32) < 0 by decide)]
      by_cases hn : nearI T q i
      · rw [← hn1, flg_t hn, if_neg (by decide)]; exact h90 1
      · rw [← hn1, flg_f hn, if_pos rfl]; exact h90 0
    | some o =>
      obtain ⟨ho, -⟩ := ta_some e
      have hwo := hwt.2.1 o ho
      have hn1 : flg (nearI T q (i + 1)) = 1 := flg_t (Or.inr ⟨i, by omega, by rw [e]; exact fun h => by cases h⟩)
      have hp1 := pu_lt hw (u := tu T o) (s := op i) hwo.1
      have hp2 := pu_lt hw (u := u) (s := i) hk
      have b1 := sK_le hw hwo.1 hp1
      have b2 := sK_le hw hk hp2
      have hk2 := (hS.2.2.2.2 _ _ hk hp2).1
      have h90 : qb_X7_fitsAt_90 rec (nI k) (co (q % 21)) (co (q / 21)) (nI u) (flg (slotsI S T k q u i)) (nI i) (nI o) 1 M = rec 1 (flg (slotsI S T k q u (i + 1))) (nI (i + 1)) M := by
        unfold qb_X7_fitsAt_90
        by_cases hf : slotsI S T k q u i
        · rw [flg_t hf, if_neg (by decide), i_neg (by omega), y_opp hi, n_cl, y_kindAt hw hwt hS hY ho (op_lt hi), n_cl, y_partAt hS h12 hk hu hi, n_cl, kn_8, n_mul, n_add, n_ld (by omega) (by decide), hk2, i_eq (by unfold pp; omega) (by omega)]
          by_cases hm : sK S (ty T o) (pp S T o (op i)) = sK S k (pu S k u i)
          · have hok : slotsI S T k q u (i + 1) := fun s hs o2 ho2 => by
              by_cases hsi : s = i
              · subst hsi; rw [e] at ho2; cases ho2; exact hm
              · exact hf s (by omega) o2 ho2
            rw [if_pos hm, flg_t hok]
            exact h140 _ _ _
          · rw [if_neg hm, flg_f (fun g => hm (g i (by omega) o e))]
            exact h140 _ _ _
        · rw [flg_f hf, if_pos rfl, flg_f (fun g => hf (fun s hs o2 ho2 => g s (by omega) o2 ho2))]
          exact h140 _ _ _
      rw [atv_some e, i_neg (by omega), hn1]
      by_cases hn : nearI T q i
      · rw [flg_t hn, if_neg (by decide)]; exact h90
      · rw [flg_f hn, if_pos rfl]; exact h90
  · intro rec
    unfold qo_X7_fitsAt_58
    rw [kn_12, i_le (by decide) (by decide), if_pos (by decide)]
    show qb_X7_fitsAt_148 (flg (nearI T q 12)) (flg (slotsI S T k q u 12)) M = _
    unfold qb_X7_fitsAt_148
    by_cases h1 : nearI T q 12
    · rw [flg_t h1, if_neg (by decide)]
      by_cases h2 : slotsI S T k q u 12
      · rw [flg_t h2, if_neg (by decide), flg_t ⟨h1, h2⟩]; rfl
      · rw [flg_f h2, if_pos rfl, flg_f (fun g => h2 g.2)]; rfl
    · rw [flg_f h1, if_pos rfl, flg_f (fun g => h1 g.1)]; rfl
theorem y_fitsAt {S : Su} {T : Tl} {M : Me} (hw : wfS S) (hwt : wfTl S T) (hS : SY M S) (hY : YT M T) {k q u : Nat} (hk : k < sN S) (hq : inb q) (hu : u < 4) : qf_X7_fitsAt (nI k) (co (q % 21)) (co (q / 21)) (nI u) M = some (flg (fit S T k q u), M) := by
  have hq' := hq
  obtain ⟨q1, q2, q3, q4⟩ := hq'
  have h24 := hwt.1
  have e21 : 21 * (q / 21) + q % 21 = q := by omega
  unfold qf_X7_fitsAt
  rw [(y_isPlace (by omega) (by omega) M).1 ⟨q1, q2, q3, q4⟩, n_cl, if_neg (by decide), i_neg (by omega), kn_3, i_lt (by decide) (by omega), if_neg (by omega), y_tileAt hwt hY (by omega) (by omega), n_cl, e21]
  cases e : ta T q with
  | some t =>
    obtain ⟨ht, -⟩ := ta_some e
    rw [atv_some e, i_neg (by omega), flg_f (fun g => by have := g.2.1; rw [e] at this; cases this)]
    rfl
  | none =>
    have hfin : flg (nearI T q 12 ∧ slotsI S T k q u 12) = flg (fit S T k q u) := flg_c ⟨fun h => ⟨hq, e, nearI_12.mp h.1, (slotsI_sides hw hwt hk hu).mp h.2⟩, fun h => ⟨nearI_12.mpr h.2.2.1, (slotsI_sides hw hwt hk hu).mpr h.2.2.2⟩⟩
    rw [atv_none e, if_pos (show (-1 : Int32) < 0 by decide), n_vv, hY.1]
    have hx := co_zero (q % 21) (by omega)
    have hy := co_zero (q / 21) (by omega)
    by_cases hn : T = []
    · have hl : nI T.length = 0 := by rw [hn]; rfl
      rw [if_pos hl]
      by_cases hx0 : co (q % 21) = 0
      · rw [if_pos hx0]
        by_cases hy0 : co (q / 21) = 0
        · have hP : True ↔ (T = [] ∧ q = 220) := ⟨fun _ => ⟨hn, by have := hx.mp hx0; have := hy.mp hy0; omega⟩, fun _ => trivial⟩
          rw [if_pos hy0, ← hfin, ← y_fitLoop hw hwt hS hY hk hq hu True hP, flg_t trivial]
        · have hP : False ↔ (T = [] ∧ q = 220) := ⟨fun h => h.elim, fun h => hy0 (hy.mpr (by omega))⟩
          rw [if_neg hy0, ← hfin, ← y_fitLoop hw hwt hS hY hk hq hu False hP, flg_f id]
      · have hP : False ↔ (T = [] ∧ q = 220) := ⟨fun h => h.elim, fun h => hx0 (hx.mpr (by omega))⟩
        rw [if_neg hx0, ← hfin, ← y_fitLoop hw hwt hS hY hk hq hu False hP, flg_f id]
    · have hl : ¬ nI T.length = 0 := by
        intro h
        have h1 : T.length = 0 := n_inj (b := 0) (by omega) (by decide) h
        exact hn (List.eq_nil_of_length_eq_zero h1)
      have hP : False ↔ (T = [] ∧ q = 220) := ⟨fun h => h.elim, fun h => hn h.1⟩
      rw [if_neg hl, ← hfin, ← y_fitLoop hw hwt hS hY hk hq hu False hP, flg_f id]

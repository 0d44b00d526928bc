/-! The reference's sums over a region. -/
def YL (M : Me) (S : Su) (T : Tl) : Prop := SY M S ∧ YT M T ∧ LY M (labs S T)
def YO (M : Me) (O : Ow) : Prop := ∀ x, x < 192 → M 11 x = dv (O x)
theorem i_dv {α : Type} {o : Option Nat} {p : Nat} {x y : α} {d : Decidable (dv o = nI p)} (ho : ∀ j, o = some j → j < 2147483648) (hp : p < 2147483648) : @ite α (dv o = nI p) d x y = if o = some p then x else y := by
  cases o with
  | none =>
    rw [if_neg (show ¬ (none = some p) from fun e => by cases e)]
    exact if_neg (fun e => by
      have h := n_m1 hp
      rw [← h]
      exact e.symm)
  | some j =>
    have hj := ho j rfl
    by_cases c : j = p
    · rw [if_pos (show some j = some p by rw [c])]
      exact if_pos (by rw [c]; rfl)
    · rw [if_neg (show ¬ (some j = some p) from fun e => c (Option.some.inj e))]
      exact if_neg (fun e => c (n_inj hj hp e))
theorem i_dvn {α : Type} {o : Option Nat} {x y : α} {d : Decidable (dv o < 0)} (ho : ∀ j, o = some j → j < 2147483648) : @ite α (dv o < 0) d x y = if o = none then x else y := by
  cases o with
  | none => rw [if_pos rfl]; exact if_pos (show (-1 : Int32) < 0 by decide)
  | some j =>
    rw [if_neg (show ¬ (some j = none) from fun e => by cases e)]
    exact i_neg (ho j rfl)
theorem lab192 {S : Su} {T : Tl} (x : Nat) (hx : x < 192) : labs S T x < 192 := Nat.lt_of_le_of_lt (labs_le S T x) hx
theorem y_followersOf {S : Su} {T : Tl} {M : Me} {O : Ow} (hwt : wfTl S T) (hY : YL M S T) (hO : YO M O) (ho : ∀ x p, O x = some p → p < 3) {r p : Nat} (hr : r < 192) (hp : p < 3) : qf_X7_followersOf (nI r) (nI p) M = some (nI (fl S T O r p), M) := by
  have h24 := hwt.1
  refine lp2_fun (b := qo_X7_followersOf_5 (nI r) (nI p)) (e := 8 * T.length) (M := M) (fun i => nI (sumN (fun x => if labs S T x = r then f1 O p x else 0) i)) ?_ ?_ rx_FU 0 (fu_lt (by omega)) (Nat.zero_le _)
  · intro rec i hi
    have hl := lab192 (S := S) (T := T) i (by omega)
    show _ = rec (nI (sumN (fun x => if labs S T x = r then f1 O p x else 0) i + (if labs S T i = r then f1 O p i else 0))) (nI (i + 1)) M
    have h46 : ∀ a : Int32, qb_X7_followersOf_46 rec (nI r) (nI p) (nI i) a M = rec a (nI (i + 1)) M := by
      intro a
      unfold qb_X7_followersOf_46
      rw [n_vv, kn_1, n_add]
    unfold qo_X7_followersOf_5
    rw [n_vv, hY.2.1.1, kn_8, n_mul, i_le (by omega) (by omega), if_neg (by omega), n_ld (by omega) (by decide), hY.2.2 i (by omega), i_eq (by omega) (by omega), n_ld (by omega) (by decide), hO i (by omega), i_dv (fun j hj => by have := ho i j hj; omega) (by omega), h46, h46, kn_1, n_add]
    by_cases c1 : labs S T i = r
    · rw [if_pos c1, if_pos c1]
      unfold f1
      by_cases c2 : O i = some p
      · rw [if_pos c2, if_pos c2]
      · rw [if_neg c2, if_neg c2]; rfl
    · rw [if_neg c1, if_neg c1]; rfl
  · intro rec
    unfold qo_X7_followersOf_5
    rw [n_vv, hY.2.1.1, kn_8, n_mul, i_le (by omega) (by omega), if_pos (by omega)]
    rfl
theorem zb_flg (P : Prop) (M : Me) : rx_zb (flg P) (some (flg P, M)) = some (flg P, M) := by
  by_cases h : P
  · rw [flg_t h]; rfl
  · rw [flg_f h]; rfl
theorem i_flg {α : Type} {P : Prop} {x y : α} {d : Decidable (flg P = 0)} {dp : Decidable P} : @ite α (flg P = 0) d x y = @ite α P dp y x := by
  by_cases h : P
  · rw [if_pos h]; exact if_neg (by rw [flg_t h]; decide)
  · rw [if_neg h]; exact if_pos (flg_f h)
theorem y_isFirst {S : Su} {T : Tl} {M : Me} {O : Ow} {np : Nat} (hwt : wfTl S T) (hY : YL M S T) (hO : YO M O) (h3 : np ≤ 3) (hn : M 0 8 = nI np) (ho : ∀ x p, O x = some p → p < 3) {r p : Nat} (hr : r < 192) (hp : p < 3) (h7 : ∀ p, fl S T O r p ≤ 192) : qf_X7_isFirst (nI r) (nI p) M = some (flg (frst S T O np r p), M) := by
  have key := lp2_fun (b := qo_X7_isFirst_21 (nI r) (nI (fl S T O r p))) (e := np) (M := M) (K := some (flg (frst S T O np r p), M)) (fun i => flg (0 < fl S T O r p ∧ ∀ q, q < i → fl S T O r q ≤ fl S T O r p)) ?_ ?_ rx_FU 0 (fu_lt (by omega)) (Nat.zero_le _)
  · have h7p := h7 p
    unfold qf_X7_isFirst
    rw [y_followersOf hwt hY hO ho hr hp, n_cl, i_le0 (by omega)]
    by_cases c : fl S T O r p = 0
    · rw [if_pos c]
      unfold qb_X7_isFirst_16
      rw [← key, flg_f (by omega)]
      rfl
    · rw [if_neg c]
      unfold qb_X7_isFirst_16
      rw [← key, flg_t ⟨by omega, fun q hq => by omega⟩]
      rfl
  · intro rec i hi
    have h7i := h7 i
    have h7p := h7 p
    have h51 : ∀ a : Int32, qb_X7_isFirst_51 rec (nI r) (nI (fl S T O r p)) (nI i) a M = rec a (nI (i + 1)) M := by
      intro a
      unfold qb_X7_isFirst_51
      rw [n_vv, kn_1, n_add]
    show qo_X7_isFirst_21 (nI r) (nI (fl S T O r p)) rec (flg (0 < fl S T O r p ∧ ∀ q, q < i → fl S T O r q ≤ fl S T O r p)) (nI i) M = rec (flg (0 < fl S T O r p ∧ ∀ q, q < i + 1 → fl S T O r q ≤ fl S T O r p)) (nI (i + 1)) M
    unfold qo_X7_isFirst_21
    rw [n_vv, hn, i_le (by omega) (by omega), if_neg (by omega), h51, y_followersOf hwt hY hO ho hr (by omega), n_cl, i_lt (by omega) (by omega), h51, h51]
    by_cases c : 0 < fl S T O r p ∧ ∀ q, q < i → fl S T O r q ≤ fl S T O r p
    · rw [flg_t c, if_neg (by decide)]
      by_cases c2 : fl S T O r p < fl S T O r i
      · rw [if_pos c2, flg_f (fun g => by have := g.2 i (by omega); omega)]
      · have hgood : 0 < fl S T O r p ∧ ∀ q, q < i + 1 → fl S T O r q ≤ fl S T O r p := ⟨c.1, fun q hq => by
          by_cases hqi : q = i
          · subst hqi; omega
          · exact c.2 q (by omega)⟩
        rw [if_neg c2, flg_t hgood]
    · rw [flg_f c, if_pos rfl, flg_f (fun g => c ⟨g.1, fun q hq => g.2 q (by omega)⟩)]
  · intro rec
    unfold qo_X7_isFirst_21
    rw [n_vv, hn, i_le (by omega) (by omega), if_pos (by omega), zb_flg]
    rfl
theorem y_hasFollowers {S : Su} {T : Tl} {M : Me} {O : Ow} (hwt : wfTl S T) (hY : YL M S T) (hO : YO M O) (ho : ∀ x p, O x = some p → p < 3) {r : Nat} (hr : r < 192) : qf_X7_hasFollowers (nI r) M = some (flg (has S T O r), M) := by
  have h24 := hwt.1
  have key := lp2_fun (b := qo_X7_hasFollowers_4 (nI r)) (e := 8 * T.length) (M := M) (K := some (flg (has S T O r), M)) (fun i => flg (∃ x, x < i ∧ labs S T x = r ∧ O x ≠ none)) ?_ ?_ rx_FU 0 (fu_lt (by omega)) (Nat.zero_le _)
  · unfold qf_X7_hasFollowers
    rw [← key, flg_f (fun ⟨x, h, _⟩ => by omega)]
    rfl
  · intro rec i hi
    have hl := lab192 (S := S) (T := T) i (by omega)
    have h43 : ∀ a : Int32, qb_X7_hasFollowers_43 rec (nI r) (nI i) a M = rec a (nI (i + 1)) M := by
      intro a
      unfold qb_X7_hasFollowers_43
      rw [n_vv, kn_1, n_add]
    show qo_X7_hasFollowers_4 (nI r) rec (flg (∃ x, x < i ∧ labs S T x = r ∧ O x ≠ none)) (nI i) M = rec (flg (∃ x, x < i + 1 ∧ labs S T x = r ∧ O x ≠ none)) (nI (i + 1)) M
    unfold qo_X7_hasFollowers_4
    rw [n_vv, hY.2.1.1, kn_8, n_mul, i_le (by omega) (by omega), if_neg (by omega), n_ld (by omega) (by decide), hY.2.2 i (by omega), i_eq (by omega) (by omega), n_ld (by omega) (by decide), hO i (by omega), i_dvn (fun j hj => by have := ho i j hj; omega), h43, h43]
    by_cases c : ∃ x, x < i ∧ labs S T x = r ∧ O x ≠ none
    · obtain ⟨x, c1, c2, c3⟩ := c
      rw [flg_t ⟨x, c1, c2, c3⟩, if_neg (by decide), flg_t ⟨x, by omega, c2, c3⟩]
    · rw [flg_f c, if_pos rfl]
      by_cases c1 : labs S T i = r
      · rw [if_pos c1]
        by_cases c2 : O i = none
        · have hno : ¬ ∃ x, x < i + 1 ∧ labs S T x = r ∧ O x ≠ none := fun ⟨x, g1, g2, g3⟩ => by
            by_cases hx : x = i
            · subst hx; exact g3 c2
            · exact c ⟨x, by omega, g2, g3⟩
          rw [if_pos c2, flg_f hno]
        · rw [if_neg c2, flg_t ⟨i, by omega, c1, c2⟩]
      · have hno : ¬ ∃ x, x < i + 1 ∧ labs S T x = r ∧ O x ≠ none := fun ⟨x, g1, g2, g3⟩ => by
          by_cases hx : x = i
          · subst hx; exact c1 g2
          · exact c ⟨x, by omega, g2, g3⟩
        rw [if_neg c1, flg_f hno]
  · intro rec
    show qo_X7_hasFollowers_4 (nI r) rec (flg (∃ x, x < 8 * T.length ∧ labs S T x = r ∧ O x ≠ none)) (nI (8 * T.length)) M = _
    unfold qo_X7_hasFollowers_4
    rw [n_vv, hY.2.1.1, kn_8, n_mul, i_le (by omega) (by omega), if_pos (by omega), zb_flg]
    rfl
/-! open sides, tiles, shields -/
theorem sum8 (f : Nat → Nat) (n : Nat) : sumN f (8 * n) = sumN (fun t => sumN (fun j => f (8 * t + j)) 8) n := by
  induction n with
  | zero => rfl
  | succ n ih =>
    rw [show 8 * (n + 1) = 8 * n + 8 by omega, sumN_split, ih]
    rfl
def og (S : Su) (T : Tl) (r t s : Nat) : Nat := if labs S T (8 * t + pp S T t s) = r ∧ ta T (nb (tc T t) (s / 3)) = none then 1 else 0
theorem opn_eq {S : Su} {T : Tl} (hw : wfS S) (hwt : wfTl S T) (r : Nat) : opn S T r = sumN (fun t => sumN (og S T r t) 12) T.length := by
  unfold opn sumL
  rw [sum8]
  apply sumN_congr
  intro t ht
  have e1 : sumN (fun j => if labs S T (8 * t + j) = r then opw S T (8 * t + j) else 0) 8 = sumN (fun j => sumN (fun s => if labs S T (8 * t + j) = r then ops S T t j s else 0) 12) 8 := by
    apply sumN_congr
    intro j hj
    by_cases c : labs S T (8 * t + j) = r
    · rw [if_pos c]
      unfold opw
      rw [show (8 * t + j) / 8 = t by omega, show (8 * t + j) % 8 = j by omega]
      apply sumN_congr
      intro s _
      rw [if_pos c]
    · rw [if_neg c, sumN_zero (fun s _ => if_neg c)]
  show sumN (fun j => if labs S T (8 * t + j) = r then opw S T (8 * t + j) else 0) 8 = _
  rw [e1, sumN_swap]
  apply sumN_congr
  intro s _
  have hp := pp_lt hw hwt (s := s) ht
  refine Eq.trans (sumN_congr (fun j _ => ?_)) (sumN_pick hp (fun j => if labs S T (8 * t + j) = r ∧ ta T (nb (tc T t) (s / 3)) = none then 1 else 0))
  show (if labs S T (8 * t + j) = r then ops S T t j s else 0) = (if j = pp S T t s then (if labs S T (8 * t + j) = r ∧ ta T (nb (tc T t) (s / 3)) = none then 1 else 0) else 0)
  unfold ops
  by_cases c1 : j = pp S T t s
  · rw [if_pos c1]
    by_cases c2 : labs S T (8 * t + j) = r
    · rw [if_pos c2]
      by_cases c3 : ta T (nb (tc T t) (s / 3)) = none
      · rw [if_pos ⟨c1.symm, c3⟩, if_pos ⟨c2, c3⟩]
      · rw [if_neg (fun g => c3 g.2), if_neg (fun g => c3 g.2)]
    · rw [if_neg c2, if_neg (fun g => c2 g.1)]
  · rw [if_neg c1, if_neg (show ¬ (pp S T t s = j ∧ _) from fun g => c1 g.1.symm)]
    by_cases c2 : labs S T (8 * t + j) = r
    · rw [if_pos c2]
    · rw [if_neg c2]
theorem y_openOf {S : Su} {T : Tl} {M : Me} (hw : wfS S) (hwt : wfTl S T) (hY : YL M S T) {r : Nat} (hr : r < 192) : qf_X7_openOf (nI r) M = some (nI (opn S T r), M) := by
  have h24 := hwt.1
  have h12 := hw.1
  rw [opn_eq hw hwt]
  refine lp2_fun (b := qo_X7_openOf_4 (nI r)) (e := T.length) (M := M) (fun t => nI (sumN (fun t => sumN (og S T r t) 12) t)) ?_ ?_ rx_FU 0 (fu_lt (by omega)) (Nat.zero_le _)
  · intro rec t ht
    have e1 := hY.2.1.2.1 t ht
    have hwt1 := hwt.2.1 t ht
    show _ = rec (nI (sumN (fun t => sumN (og S T r t) 12) t + sumN (og S T r t) 12)) (nI (t + 1)) M
    generalize sumN (fun t => sumN (og S T r t) 12) t = B
    have key := lp2_fun (b := qo_X7_openOf_15 (fun a2 M => qb_X7_openOf_101 rec (nI r) a2 (nI t) M) (nI r) (nI t)) (e := 12) (M := M) (K := rec (nI (B + sumN (og S T r t) 12)) (nI (t + 1)) M) (fun s => nI (B + sumN (og S T r t) s)) ?_ ?_ rx_FU 0 (fu_lt (by decide)) (by decide)
    · unfold qo_X7_openOf_4
      rw [n_vv, hY.2.1.1, i_le (by omega) (by omega), if_neg (by omega), ← key]
      rfl
    · intro rec2 s hs
      have hp := pp_lt hw hwt (s := s) ht
      have hp' : pu S (ty T t) (tu T t) s < 8 := hp
      have hl := lab192 (S := S) (T := T) (8 * t + pp S T t s) (by omega)
      have h94 : ∀ a : Int32, qb_X7_openOf_94 rec2 (nI r) (nI t) (nI s) a M = rec2 a (nI (s + 1)) M := by
        intro a
        unfold qb_X7_openOf_94
        rw [n_vv, kn_1, n_add]
      show _ = rec2 (nI (B + (sumN (og S T r t) s + og S T r t s))) (nI (s + 1)) M
      generalize hC : B + sumN (og S T r t) s = C
      rw [show B + (sumN (og S T r t) s + og S T r t s) = C + og S T r t s by omega]
      have h59 : qb_X7_openOf_59 rec2 (nI r) (nI C) (nI t) (nI s) 1 M = rec2 (nI (C + (if ta T (nb (tc T t) (s / 3)) = none then 1 else 0))) (nI (s + 1)) M := by
        unfold qb_X7_openOf_59
        rw [if_neg (by decide), n_ld (by omega) (by decide), n_ld (by omega) (by decide), e1.1, e1.2.1, y_beside hwt hY.2.1 hwt1.2.2 hs, n_cl, h94, h94]
        cases e : ta T (nb (tc T t) (s / 3)) with
        | none => rw [atv_none e, if_neg (by decide), if_pos rfl, kn_1, n_add]
        | some o =>
          obtain ⟨ho, -⟩ := ta_some e
          rw [atv_some e, kn_0, i_le (by decide) (by omega), if_pos (by omega), if_neg (fun e => by cases e)]
          rfl
      unfold qo_X7_openOf_15
      rw [kn_12, i_le (by decide) (by omega), if_neg (by omega), n_ld (by omega) (by decide), n_ld (by omega) (by decide), e1.2.2.1, e1.2.2.2, y_partAt hY.1 h12 hwt1.1 hwt1.2.1 hs, n_cl, kn_8, n_mul, n_add, n_ld (by omega) (by decide)]
      show (if M 15 (8 * t + pp S T t s) = nI r then _ else _) = _
      rw [hY.2.2 _ (by omega), i_eq (by omega) (by omega), h59]
      unfold og
      by_cases c1 : labs S T (8 * t + pp S T t s) = r
      · rw [if_pos c1]
        by_cases c2 : ta T (nb (tc T t) (s / 3)) = none
        · rw [if_pos c2, if_pos ⟨c1, c2⟩]
        · rw [if_neg c2, if_neg (fun g => c2 g.2)]
      · rw [if_neg c1, if_neg (fun g => c1 g.1)]
        unfold qb_X7_openOf_59
        rw [if_pos rfl, h94]
        rfl
    · intro rec2
      unfold qo_X7_openOf_15
      rw [kn_12, i_le (by decide) (by decide), if_pos (by decide)]
      show qb_X7_openOf_101 rec (nI r) (nI (B + sumN (og S T r t) 12)) (nI t) M = _
      unfold qb_X7_openOf_101
      rw [n_vv, kn_1, n_add]
  · intro rec
    unfold qo_X7_openOf_4
    rw [n_vv, hY.2.1.1, i_le (by omega) (by omega), if_pos (by omega)]
theorem tcn_eq {S : Su} {T : Tl} (r : Nat) : tcn S T r = sumN (fun t => ci (∃ j, j < 8 ∧ labs S T (8 * t + j) = r)) T.length := by
  unfold tcn
  apply sumN_congr
  intro t ht
  by_cases c : ∃ j, j < 8 ∧ labs S T (8 * t + j) = r
  · obtain ⟨j, c1, c2⟩ := c
    rw [ci_t ⟨j, c1, c2⟩, if_pos (bitL_bit.mpr ⟨8 * t + j, by omega, c2, by omega⟩)]
  · rw [ci_f c, if_neg (fun g => ?_)]
    obtain ⟨p, g1, g2, g3⟩ := bitL_bit.mp g
    exact c ⟨p % 8, by omega, by rw [show 8 * t + p % 8 = p by omega]; exact g2⟩
theorem y_tilesOf {S : Su} {T : Tl} {M : Me} (hwt : wfTl S T) (hY : YL M S T) {r : Nat} (hr : r < 192) : qf_X7_tilesOf (nI r) M = some (nI (tcn S T r), M) := by
  have h24 := hwt.1
  rw [tcn_eq]
  refine lp2_fun (b := qo_X7_tilesOf_4 (nI r)) (e := T.length) (M := M) (fun t => nI (sumN (fun t => ci (∃ j, j < 8 ∧ labs S T (8 * t + j) = r)) t)) ?_ ?_ rx_FU 0 (fu_lt (by omega)) (Nat.zero_le _)
  · intro rec t ht
    show _ = rec (nI (sumN (fun t => ci (∃ j, j < 8 ∧ labs S T (8 * t + j) = r)) t + ci (∃ j, j < 8 ∧ labs S T (8 * t + j) = r))) (nI (t + 1)) M
    generalize sumN (fun t => ci (∃ j, j < 8 ∧ labs S T (8 * t + j) = r)) t = B
    have key := lp2_fun (b := qo_X7_tilesOf_18 (fun a4 M => qb_X7_tilesOf_59 rec (nI r) (nI B) (nI t) a4 M) (nI r) (nI B) (nI t)) (e := 8) (M := M) (K := rec (nI (B + ci (∃ j, j < 8 ∧ labs S T (8 * t + j) = r))) (nI (t + 1)) M) (fun i => flg (∃ j, j < i ∧ labs S T (8 * t + j) = r)) ?_ ?_ rx_FU 0 (fu_lt (by decide)) (by decide)
    · unfold qo_X7_tilesOf_4
      rw [n_vv, hY.2.1.1, i_le (by omega) (by omega), if_neg (by omega), ← key, flg_f (fun ⟨j, h, _⟩ => by omega)]
      rfl
    · intro rec2 i hi
      have hl := lab192 (S := S) (T := T) (8 * t + i) (by omega)
      have h51 : ∀ a : Int32, qb_X7_tilesOf_51 rec2 (nI r) (nI B) (nI t) (nI i) a M = rec2 a (nI (i + 1)) M := by
        intro a
        unfold qb_X7_tilesOf_51
        rw [n_vv, kn_1, n_add]
      show qo_X7_tilesOf_18 (fun a4 M => qb_X7_tilesOf_59 rec (nI r) (nI B) (nI t) a4 M) (nI r) (nI B) (nI t) rec2 (flg (∃ j, j < i ∧ labs S T (8 * t + j) = r)) (nI i) M = rec2 (flg (∃ j, j < i + 1 ∧ labs S T (8 * t + j) = r)) (nI (i + 1)) M
      unfold qo_X7_tilesOf_18
      rw [kn_8, i_le (by decide) (by omega), if_neg (by omega), n_mul, n_add, n_ld (by omega) (by decide), hY.2.2 _ (by omega), i_eq (by omega) (by omega), h51, h51]
      by_cases c : ∃ j, j < i ∧ labs S T (8 * t + j) = r
      · obtain ⟨j, c1, c2⟩ := c
        rw [flg_t ⟨j, c1, c2⟩, if_neg (by decide), flg_t ⟨j, by omega, c2⟩]
      · rw [flg_f c, if_pos rfl]
        by_cases c1 : labs S T (8 * t + i) = r
        · rw [if_pos c1, flg_t ⟨i, by omega, c1⟩]
        · have hno : ¬ ∃ j, j < i + 1 ∧ labs S T (8 * t + j) = r := fun ⟨j, g1, g2⟩ => by
            by_cases hx : j = i
            · subst hx; exact c1 g2
            · exact c ⟨j, by omega, g2⟩
          rw [if_neg c1, flg_f hno]
    · intro rec2
      unfold qo_X7_tilesOf_18
      rw [kn_8, i_le (by decide) (by decide), if_pos (by decide)]
      show qb_X7_tilesOf_59 rec (nI r) (nI B) (nI t) (flg (∃ j, j < 8 ∧ labs S T (8 * t + j) = r)) M = _
      unfold qb_X7_tilesOf_59 qb_X7_tilesOf_71
      rw [n_vv, kn_1, n_add, n_vv, n_add]
      by_cases c : ∃ j, j < 8 ∧ labs S T (8 * t + j) = r
      · rw [flg_t c, ci_t c, if_neg (by decide)]
      · rw [flg_f c, ci_f c, if_pos rfl]
        rfl
  · intro rec
    unfold qo_X7_tilesOf_4
    rw [n_vv, hY.2.1.1, i_le (by omega) (by omega), if_pos (by omega)]
theorem y_shieldsOf {S : Su} {T : Tl} {M : Me} (hw : wfS S) (hwt : wfTl S T) (hY : YL M S T) {r : Nat} (hr : r < 192) : qf_X7_shieldsOf (nI r) M = some (nI (shn S T r), M) := by
  have h24 := hwt.1
  have h12 := hw.1
  refine lp2_fun (b := qo_X7_shieldsOf_4 (nI r)) (e := 8 * T.length) (M := M) (fun i => nI (sumN (fun x => if labs S T x = r then shw S T x else 0) i)) ?_ ?_ rx_FU 0 (fu_lt (by omega)) (Nat.zero_le _)
  · intro rec i hi
    have hl := lab192 (S := S) (T := T) i (by omega)
    have ht : i / 8 < T.length := by omega
    have hty := (hwt.2.1 _ ht).1
    have e8 := (hY.2.1.2.1 _ ht).2.2.1
    have e3 := (hY.1.2.2.2.2 (ty T (i / 8)) (i % 8) hty (by omega)).2.1
    have hs1 := shw_le hw hwt hi
    show _ = rec (nI (sumN (fun x => if labs S T x = r then shw S T x else 0) i + (if labs S T i = r then shw S T i else 0))) (nI (i + 1)) M
    generalize sumN (fun x => if labs S T x = r then shw S T x else 0) i = B
    have h57 : ∀ a : Int32, qb_X7_shieldsOf_57 rec (nI r) (nI i) a M = rec a (nI (i + 1)) M := by
      intro a
      unfold qb_X7_shieldsOf_57
      rw [n_vv, kn_1, n_add]
    unfold qo_X7_shieldsOf_4
    rw [n_vv, hY.2.1.1, kn_8, n_mul, i_le (by omega) (by omega), if_neg (by omega), n_ld (by omega) (by decide), hY.2.2 i (by omega), i_eq (by omega) (by omega), n_div (by omega) (by decide) (by decide), n_ld (by omega) (by decide), e8, n_mul, n_mul, n_sub (by omega), nat_rem, n_add, n_ld (by omega) (by decide), e3, h57, h57, kn_1, n_add]
    rw [show sH S (ty T (i / 8)) (i % 8) = shw S T i from rfl, i_z (by omega)]
    by_cases c1 : labs S T i = r
    · rw [if_pos c1, if_pos c1]
      by_cases c2 : shw S T i = 0
      · rw [if_pos c2, c2]; rfl
      · rw [if_neg c2, show shw S T i = 1 by omega]
    · rw [if_neg c1, if_neg c1]; rfl
  · intro rec
    unfold qo_X7_shieldsOf_4
    rw [n_vv, hY.2.1.1, kn_8, n_mul, i_le (by omega) (by omega), if_pos (by omega)]
    rfl
/-! around a tile -/
def c9 (q n : Nat) : Nat := 21 * (q / 21 + n / 3 - 1) + (q % 21 + n % 3 - 1)
theorem co_shift : ∀ x, x < 20 → ∀ a, a < 3 → 1 ≤ x → co x + nI a - 1 = co (x + a - 1) := by decide
theorem y_nine {S : Su} {T : Tl} {M : Me} (hwt : wfTl S T) (hY : YT M T) {q n : Nat} (hq : inb q) (hn : n < 9) : qf_X7_tileAt ((co (q % 21) + nI (n % 3)) - 1) ((co (q / 21) + nI (n / 3)) - 1) M = some (atv T (c9 q n), M) := by
  obtain ⟨q1, q2, q3, q4⟩ := hq
  rw [co_shift _ (by omega) _ (by omega) q1, co_shift _ (by omega) _ (by omega) q3, y_tileAt hwt hY (by omega) (by omega)]
  rfl
theorem sum9 (f : Nat → Nat) : sumN f 9 = f 0 + f 1 + f 2 + f 3 + f 4 + f 5 + f 6 + f 7 + f 8 := by
  show 0 + f 0 + f 1 + f 2 + f 3 + f 4 + f 5 + f 6 + f 7 + f 8 = _
  rw [Nat.zero_add]
theorem c9_nn {q n : Nat} (hq : inb q) (hn : n < 9) (h4 : n ≠ 4) : c9 q n = nn q (if n < 4 then n else n - 1) := by
  obtain ⟨q1, q2, q3, q4⟩ := hq
  have h : n = 0 ∨ n = 1 ∨ n = 2 ∨ n = 3 ∨ n = 5 ∨ n = 6 ∨ n = 7 ∨ n = 8 := by omega
  unfold c9 nn
  rcases h with rfl | rfl | rfl | rfl | rfl | rfl | rfl | rfl <;> simp <;> omega
theorem y_around {S : Su} {T : Tl} {M : Me} (hwt : wfTl S T) (hY : YT M T) {t : Nat} (ht : t < T.length) : qf_X7_around (nI t) M = some (nI (ac T (tc T t)), M) := by
  have h24 := hwt.1
  have e1 := hY.2.1 t ht
  have hq := (hwt.2.1 t ht).2.2
  have hac : ac T (tc T t) = sumN (fun n => if n = 4 then 0 else ct T (c9 (tc T t) n)) 9 := by
    rw [sum9]
    simp only [if_pos, if_neg (show ¬ (0 = 4) by decide), if_neg (show ¬ (1 = 4) by decide), if_neg (show ¬ (2 = 4) by decide), if_neg (show ¬ (3 = 4) by decide), if_neg (show ¬ (5 = 4) by decide), if_neg (show ¬ (6 = 4) by decide), if_neg (show ¬ (7 = 4) by decide), if_neg (show ¬ (8 = 4) by decide)]
    rw [c9_nn hq (by decide) (by decide), c9_nn hq (n := 1) (by decide) (by decide), c9_nn hq (n := 2) (by decide) (by decide), c9_nn hq (n := 3) (by decide) (by decide), c9_nn hq (n := 5) (by decide) (by decide), c9_nn hq (n := 6) (by decide) (by decide), c9_nn hq (n := 7) (by decide) (by decide), c9_nn hq (n := 8) (by decide) (by decide)]
    unfold ac nn
    simp
  rw [hac]
  refine lp2_fun (b := qo_X7_around_4 (nI t)) (e := 9) (M := M) (fun i => nI (sumN (fun n => if n = 4 then 0 else ct T (c9 (tc T t) n)) i)) ?_ ?_ rx_FU 0 (fu_lt (by decide)) (by decide)
  · intro rec n hn
    show _ = rec (nI (sumN (fun n => if n = 4 then 0 else ct T (c9 (tc T t) n)) n + (if n = 4 then 0 else ct T (c9 (tc T t) n)))) (nI (n + 1)) M
    generalize sumN (fun n => if n = 4 then 0 else ct T (c9 (tc T t) n)) n = B
    have h53 : ∀ a : Int32, qb_X7_around_53 rec (nI t) (nI n) a M = rec a (nI (n + 1)) M := by
      intro a
      unfold qb_X7_around_53
      rw [n_vv, kn_1, n_add]
    have h9 := y_nine hwt hY hq hn
    unfold qo_X7_around_4
    rw [kn_9, i_le (by decide) (by omega), if_neg (by omega), kn_4, i_eq (by omega) (by decide), h53, n_ld (by omega) (by decide), n_ld (by omega) (by decide), e1.1, e1.2.1, kn_3, n_div (by omega) (by decide) (by decide), n_mul, n_sub (by omega), nat_rem, h9, n_cl, h53, h53]
    by_cases c : n = 4
    · rw [if_pos c, if_pos c]; rfl
    · rw [if_neg c, if_neg c]
      unfold ct
      cases e : ta T (c9 (tc T t) n) with
      | none => rw [atv_none e, if_pos (by decide)]; rfl
      | some o =>
        obtain ⟨ho, -⟩ := ta_some e
        rw [atv_some e, i_neg (by omega), kn_1, n_add]
        rfl
  · intro rec
    unfold qo_X7_around_4
    rw [kn_9, i_le (by decide) (by decide), if_pos (by decide)]

/-! The reference gives its labels. -/
theorem lp2_fun {β : Type} {b : (Int32 → Int32 → Me → Option β) → Int32 → Int32 → Me → Option β} {e : Nat} {M : Me} {K : Option β} (A : Nat → Int32)
    (hs : ∀ (rec : Int32 → Int32 → Me → Option β) (i : Nat), i < e → b rec (A i) (nI i) M = rec (A (i + 1)) (nI (i + 1)) M) (he : ∀ (rec : Int32 → Int32 → Me → Option β), b rec (A e) (nI e) M = K) :
    ∀ (n i : Nat), e - i < n → i ≤ e → rx_lp2 b n (A i) (nI i) M = K := by
  intro n
  induction n with
  | zero => intro i h; omega
  | succ n ih =>
    intro i hn hi
    show b (rx_lp2 b n) (A i) (nI i) M = K
    by_cases h : i = e
    · subst h; exact he _
    · rw [hs _ i (by omega)]; exact ih (i + 1) (by omega) (by omega)
def LY (M : Me) (lab : Nat → Nat) : Prop := ∀ x, x < 192 → M 15 x = nI (lab x)
def LJ (S : Su) (T : Tl) (t s : Nat) : Nat → Nat := foldLab id ((List.range t).flatMap (fun t => (List.range 12).flatMap (eo S T t)) ++ (List.range s).flatMap (eo S T t))
theorem LJ_le (S : Su) (T : Tl) (t s x : Nat) : LJ S T t s x ≤ x := (Lab.all _).1 x
theorem LJ_end (S : Su) (T : Tl) : LJ S T T.length 0 = labs S T := by
  unfold LJ labs edges
  simp
theorem LJ_next (S : Su) (T : Tl) (t : Nat) : LJ S T (t + 1) 0 = LJ S T t 12 := by
  unfold LJ
  simp [List.range_succ, List.flatMap_append]
theorem foldLab_app (lab : Nat → Nat) (E F : List (Nat × Nat)) : foldLab lab (E ++ F) = foldLab (foldLab lab E) F := by
  unfold foldLab
  rw [List.foldl_append]
theorem LJ_step (S : Su) (T : Tl) (t s : Nat) : LJ S T t (s + 1) = foldLab (LJ S T t s) (eo S T t s) := by
  unfold LJ
  rw [List.range_succ (n := s), List.flatMap_append, ← List.append_assoc, foldLab_app]
  simp
theorem LJ_none {S : Su} {T : Tl} {t s : Nat} (h : ta T (nb (tc T t) (s / 3)) = none) : LJ S T t (s + 1) = LJ S T t s := by
  rw [LJ_step]
  unfold eo
  rw [h]
  rfl
theorem LJ_some {S : Su} {T : Tl} {t s o : Nat} (h : ta T (nb (tc T t) (s / 3)) = some o) : LJ S T t (s + 1) = relab (LJ S T t s) (8 * t + pp S T t s) (8 * o + pp S T o (op s)) := by
  rw [LJ_step]
  unfold eo
  rw [h]
  rfl
theorem YT_keep {M M2 : Me} {T : Tl} (h : YT M T) (e : ∀ c i, (6 ≤ c ∧ c ≤ 10) ∨ (c = 0 ∧ i = 9) → M2 c i = M c i) : YT M2 T := by
  obtain ⟨h1, h2, h3⟩ := h
  refine ⟨?_, fun t ht => ?_, fun q hq => ?_⟩
  · rw [e 0 9 (by omega)]; exact h1
  · rw [e 6 t (by omega), e 7 t (by omega), e 8 t (by omega), e 9 t (by omega)]; exact h2 t ht
  · rw [e 10 _ (by omega)]; exact h3 q hq
theorem SY_keep {M M2 : Me} {S : Su} (h : SY M S) (e : ∀ c i, (1 ≤ c ∧ c ≤ 5) ∨ (c = 0 ∧ (i = 0 ∨ i = 5)) → M2 c i = M c i) : SY M2 S := by
  obtain ⟨h1, h2, h3, h4, h5⟩ := h
  refine ⟨?_, ?_, fun i hi => ?_, fun t s ht hs => ?_, fun t k ht hk => ?_⟩
  · rw [e 0 0 (by omega)]; exact h1
  · rw [e 0 5 (by omega)]; exact h2
  · rw [e 5 i (by omega)]; exact h3 i hi
  · rw [e 1 _ (by omega)]; exact h4 t s ht hs
  · rw [e 2 _ (by omega), e 3 _ (by omega), e 4 _ (by omega)]; exact h5 t k ht hk
/-- one relabelling -/
theorem y_relab {M : Me} {lab : Nat → Nat} {a b : Nat} {w1 w2 : Int32} {K : Me → Op} (hle : ∀ x, lab x ≤ x) (ha : a < 192) (hb : b < 192) (h : LY M lab) : ∃ M2, rx_lp1 (qo_X7_giveLabels_134 K w1 w2 (nI (lab a)) (nI (lab b))) rx_FU 0 M = K M2 ∧ LY M2 (relab lab a b) ∧ ∀ c i, c ≠ 15 → M2 c i = M c i := by
  have la := hle a
  have lb := hle b
  by_cases hab : lab a = lab b
  · obtain ⟨f, hf⟩ : ∃ f, rx_FU = f + 1 := ⟨rx_FU - 1, by have := rx_FUe; omega⟩
    refine ⟨M, ?_, by rw [relab_same hab]; exact h, fun _ _ _ => rfl⟩
    rw [hf]
    show qo_X7_giveLabels_134 K w1 w2 (nI (lab a)) (nI (lab b)) _ (nI 0) M = _
    unfold qo_X7_giveLabels_134
    rw [kn_192, i_le (by decide) (by decide), if_neg (by decide), hab, if_pos rfl]
  · have L := lp1_up (b := qo_X7_giveLabels_134 K w1 w2 (nI (lab a)) (nI (lab b))) (e := 192) (K := K) (P := fun i M2 => (∀ x, x < 192 → M2 15 x = nI (if x < i then relab lab a b x else lab x)) ∧ ∀ c i, c ≠ 15 → M2 c i = M c i) ?_ ?_ rx_FU 0 M (fu_lt (by decide)) (by decide) ⟨fun x hx => by rw [if_neg (by omega)]; exact h x hx, fun _ _ _ => rfl⟩
    · obtain ⟨M2, ⟨p1, p2⟩, L⟩ := L
      exact ⟨M2, L, fun x hx => by rw [p1 x hx, if_pos hx], p2⟩
    · intro rec i M2 hi hP
      obtain ⟨p1, p2⟩ := hP
      have ei : M2 15 i = nI (lab i) := by rw [p1 i hi, if_neg (by omega)]
      have li := hle i
      refine ⟨rx_st M2 15 i (nI (relab lab a b i)), ⟨fun x hx => ?_, fun c k hc => ?_⟩, ?_⟩
      · rw [st_get]
        by_cases c1 : x = i
        · rw [if_pos ⟨rfl, c1⟩, if_pos (by omega), c1]
        · rw [if_neg (fun q => c1 q.2), p1 x hx]
          by_cases c2 : x < i
          · rw [if_pos c2, if_pos (by omega)]
          · rw [if_neg c2, if_neg (by omega)]
      · rw [st_cell hc]; exact p2 c k hc
      · have h203 : ∀ v : Nat, qb_X7_giveLabels_203 rec w1 w2 (nI (lab a)) (nI (lab b)) (nI i) (nI v) (nI i) M2 = rec (nI (i + 1)) (rx_st M2 15 i (nI v)) := by
          intro v
          unfold qb_X7_giveLabels_203
          rw [n_sv hi (by decide), n_vv, kn_1, n_add]
        have h179 : qb_X7_giveLabels_179 rec w1 w2 (nI (lab a)) (nI (lab b)) (nI i) (nI i) M2 = rec (nI (i + 1)) (rx_st M2 15 i (nI (min (lab a) (lab b)))) := by
          unfold qb_X7_giveLabels_179
          rw [i_le (by omega) (by omega)]
          by_cases c : lab b ≤ lab a
          · rw [if_pos c, h203, Nat.min_eq_right c]
          · rw [if_neg c, h203, Nat.min_eq_left (by omega)]
        unfold qo_X7_giveLabels_134
        rw [kn_192, i_le (by decide) (by omega), if_neg (by omega), i_eq (by omega) (by omega), if_neg hab, n_ld hi (by decide), ei, i_eq (by omega) (by omega), n_ld hi (by decide), ei, i_eq (by omega) (by omega), n_ld hi (by decide), ei, h179, h203]
        unfold relab
        by_cases c1 : lab i = lab a
        · rw [if_pos c1, if_pos (Or.inl c1)]
        · rw [if_neg c1]
          by_cases c2 : lab i = lab b
          · rw [if_pos c2, if_pos (Or.inr c2)]
          · rw [if_neg c2, if_neg (fun q => by rcases q with q | q; exact c1 q; exact c2 q)]
    · intro rec M2 _
      unfold qo_X7_giveLabels_134
      rw [kn_192, i_le (by decide) (by decide), if_pos (by decide)]
theorem y_tile {S : Su} {T : Tl} {M : Me} (hY : YT M T) (h24 : T.length ≤ 24) {t : Nat} (ht : t < T.length) {β : Type} {c : Nat} {k : Int32 → Option β} : rx_ld M c 24 (nI t) k = k (M c t) := n_ld (by omega) (by decide)
theorem y_slotLoop {S : Su} {T : Tl} {M : Me} {t : Nat} {K : Me → Op} (hw : wfS S) (hwt : wfTl S T) (hS : SY M S) (hY : YT M T) (ht : t < T.length) (h : LY M (LJ S T t 0)) : ∃ M2, rx_lp1 (qo_X7_giveLabels_42 K (nI t)) rx_FU 0 M = K M2 ∧ LY M2 (LJ S T t 12) ∧ ∀ c i, c ≠ 15 → M2 c i = M c i := by
  have h24 := hwt.1
  have h12 := hw.1
  have L := lp1_up (b := qo_X7_giveLabels_42 K (nI t)) (e := 12) (K := K) (P := fun i M2 => LY M2 (LJ S T t i) ∧ ∀ c i, c ≠ 15 → M2 c i = M c i) ?_ ?_ rx_FU 0 M (fu_lt (by decide)) (by decide) ⟨h, fun _ _ _ => rfl⟩
  · obtain ⟨M2, ⟨p1, p2⟩, L⟩ := L
    exact ⟨M2, L, p1, p2⟩
  · intro rec s M2 hs hP
    obtain ⟨p1, p2⟩ := hP
    have hY2 : YT M2 T := YT_keep hY (fun c i hc => p2 c i (by omega))
    have hS2 : SY M2 S := SY_keep hS (fun c i hc => p2 c i (by omega))
    have e1 := hY2.2.1 t ht
    have hwt1 := hwt.2.1 t ht
    unfold qo_X7_giveLabels_42
    rw [kn_12, i_le (by decide) (by omega), if_neg (by omega), n_ld (by omega) (by decide), n_ld (by omega) (by decide), e1.1, e1.2.1, y_beside hwt hY2 hwt1.2.2 hs, n_cl]
    cases e : ta T (nb (tc T t) (s / 3)) with
    | none =>
      refine ⟨M2, ⟨by rw [LJ_none e]; exact p1, p2⟩, ?_⟩
      rw [atv_none e, if_pos (by decide)]
      unfold qb_X7_giveLabels_210
      rw [n_vv, kn_1, n_add]
    | some o =>
      obtain ⟨ho, -⟩ := ta_some e
      have e2 := hY2.2.1 o ho
      have hwo := hwt.2.1 o ho
      have hp1 := pp_lt hw hwt (s := s) ht
      have hp2 := pp_lt hw hwt (s := op s) ho
      have hle := LJ_le S T t s
      obtain ⟨M3, r1, r2, r3⟩ := y_relab (w1 := nI t) (w2 := nI s) (K := fun M => qb_X7_giveLabels_210 rec (nI t) (nI s) M) hle (a := 8 * t + pp S T t s) (b := 8 * o + pp S T o (op s)) (by omega) (by omega) p1
      refine ⟨M3, ⟨by rw [LJ_some e]; exact r2, fun c i hc => by rw [r3 c i hc, p2 c i hc]⟩, ?_⟩
      rw [atv_some e, i_neg (by omega), n_ld (by omega) (by decide), n_ld (by omega) (by decide), e1.2.2.1, e1.2.2.2, y_partAt hS2 h12 hwt1.1 hwt1.2.1 hs, n_cl, kn_8, n_mul, n_add, n_ld (by have : pp S T t s < 8 := hp1; unfold pp at this; omega) (by decide), n_ld (by omega) (by decide), n_ld (by omega) (by decide), e2.2.2.1, e2.2.2.2, y_opp hs, n_cl, y_partAt hS2 h12 hwo.1 hwo.2.1 (op_lt hs), n_cl, n_mul, n_add, n_ld (by have : pp S T o (op s) < 8 := hp2; unfold pp at this; omega) (by decide)]
      show rx_lp1 (qo_X7_giveLabels_134 (fun M => qb_X7_giveLabels_210 rec (nI t) (nI s) M) (nI t) (nI s) (M2 15 (8 * t + pp S T t s)) (M2 15 (8 * o + pp S T o (op s)))) rx_FU 0 M2 = _
      rw [p1 _ (by omega), p1 _ (by omega), r1]
      unfold qb_X7_giveLabels_210
      rw [n_vv, kn_1, n_add]
  · intro rec M2 _
    unfold qo_X7_giveLabels_42
    rw [kn_12, i_le (by decide) (by decide), if_pos (by decide)]
theorem y_giveLabels {S : Su} {T : Tl} {M : Me} (hw : wfS S) (hwt : wfTl S T) (hS : SY M S) (hY : YT M T) (h : M 0 26 = 0 ∨ (M 0 26 = 1 ∧ LY M (labs S T))) : ∃ M2, qf_X7_giveLabels M = some (0, M2) ∧ LY M2 (labs S T) ∧ M2 0 26 = 1 ∧ ∀ c i, c ≠ 15 → ¬ (c = 0 ∧ i = 26) → M2 c i = M c i := by
  have h24 := hwt.1
  unfold qf_X7_giveLabels
  rcases h with h | ⟨h, hl⟩
  · rw [n_vv, h, if_pos rfl]
    have L1 := lp1_up (b := qo_X7_giveLabels_10 (fun M => qb_X7_giveLabels_30 M)) (e := 192) (K := fun M => qb_X7_giveLabels_30 M) (P := fun i M2 => (∀ x, x < i → M2 15 x = nI x) ∧ ∀ c i, c ≠ 15 → M2 c i = M c i) ?_ ?_ rx_FU 0 M (fu_lt (by decide)) (by decide) ⟨fun x hx => (by omega), fun _ _ _ => rfl⟩
    · obtain ⟨M1, ⟨p1, p2⟩, L1⟩ := L1
      have hY1 : YT M1 T := YT_keep hY (fun c i hc => p2 c i (by omega))
      have L2 := lp1_up (b := qo_X7_giveLabels_32 (fun M => qb_X7_giveLabels_222 M)) (e := T.length) (K := fun M => qb_X7_giveLabels_222 M) (P := fun t M2 => LY M2 (LJ S T t 0) ∧ ∀ c i, c ≠ 15 → M2 c i = M c i) ?_ ?_ rx_FU 0 M1 (fu_lt (by omega)) (Nat.zero_le _) ⟨?_, p2⟩
      · obtain ⟨M2, ⟨q1, q2⟩, L2⟩ := L2
        refine ⟨rx_st M2 0 26 1, ?_, fun x hx => ?_, st_same _ _ _ _, fun c i h1 h2 => ?_⟩
        · have L1 : rx_lp1 (qo_X7_giveLabels_10 (fun M => qb_X7_giveLabels_30 M)) rx_FU 0 M = rx_lp1 (qo_X7_giveLabels_32 (fun M => qb_X7_giveLabels_222 M)) rx_FU 0 M1 := L1
          rw [L1]
          exact L2
        · rw [st_cell (by decide), q1 x hx, LJ_end]
        · rw [st_get, if_neg h2]; exact q2 c i h1
      · intro rec t M2 ht hP
        obtain ⟨q1, q2⟩ := hP
        have hY2 : YT M2 T := YT_keep hY (fun c i hc => q2 c i (by omega))
        have hS2 : SY M2 S := SY_keep hS (fun c i hc => q2 c i (by omega))
        obtain ⟨M3, r1, r2, r3⟩ := y_slotLoop (K := fun M => qb_X7_giveLabels_216 rec (nI t) M) hw hwt hS2 hY2 ht q1
        refine ⟨M3, ⟨by rw [LJ_next]; exact r2, fun c i hc => by rw [r3 c i hc, q2 c i hc]⟩, ?_⟩
        unfold qo_X7_giveLabels_32
        rw [n_vv, hY2.1, i_le (by omega) (by omega), if_neg (by omega), r1]
        unfold qb_X7_giveLabels_216
        rw [n_vv, kn_1, n_add]
      · intro rec M2 hP
        have hY2 : YT M2 T := YT_keep hY (fun c i hc => hP.2 c i (by omega))
        unfold qo_X7_giveLabels_32
        rw [n_vv, hY2.1, i_le (by omega) (by omega), if_pos (by omega)]
      · intro x hx
        rw [p1 x hx]
        rfl
    · intro rec i M2 hi hP
      refine ⟨rx_st M2 15 i (nI i), ⟨fun x hx => ?_, fun c k hc => ?_⟩, ?_⟩
      · by_cases c1 : x = i
        · rw [c1]; exact st_same _ _ _ _
        · rw [st_place c1]; exact hP.1 x (by omega)
      · rw [st_cell hc]; exact hP.2 c k hc
      · unfold qo_X7_giveLabels_10
        rw [kn_192, i_le (by decide) (by omega), if_neg (by omega), n_sv hi (by decide), n_vv, kn_1, n_add]
    · intro rec M2 _
      unfold qo_X7_giveLabels_10
      rw [kn_192, i_le (by decide) (by decide), if_pos (by decide)]
  · refine ⟨M, ?_, hl, h, fun _ _ _ _ => rfl⟩
    rw [n_vv, h, if_neg (by decide)]

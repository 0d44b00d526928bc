/-! The new tile is joined to its neighbours, side by side. -/
def TX (M : Me) (S : Su) (T : Tl) : Prop := SX M S ∧ XT M T
theorem TX.off {M M2 : Me} {S : Su} {T : Tl} (h : TX M S T) (he : ∀ c j, ¬ (25 ≤ c ∧ c ≤ 33) → c ≠ 3 → M2 c j = M c j) : TX M2 S T := by
  have e : ∀ c, c < 25 → c ≠ 3 → ∀ j, M2 c j = M c j := fun c h1 h2 j => he c j (by omega) h2
  have e1 := e 1 (by decide) (by decide)
  have e2 := e 2 (by decide) (by decide)
  have e9 := e 9 (by decide) (by decide)
  have e10 := e 10 (by decide) (by decide)
  have e11 := e 11 (by decide) (by decide)
  have e12 := e 12 (by decide) (by decide)
  have e13 := e 13 (by decide) (by decide)
  have e14 := e 14 (by decide) (by decide)
  have e15 := e 15 (by decide) (by decide)
  have e16 := e 16 (by decide) (by decide)
  have e17 := e 17 (by decide) (by decide)
  have e18 := e 18 (by decide) (by decide)
  have e19 := e 19 (by decide) (by decide)
  have e20 := e 20 (by decide) (by decide)
  have e21 := e 21 (by decide) (by decide)
  have e22 := e 22 (by decide) (by decide)
  obtain ⟨hS, hX⟩ := h
  unfold TX SX XT at *
  simp only [e1, e2, e9, e10, e11, e12, e13, e14, e15, e16, e17, e18, e19, e20, e21, e22]
  exact ⟨hS, hX⟩
theorem x_pieceAt {S : Su} {T : Tl} {M : Me} (hw : wfS S) (hwt : wfTl S T) (hS : SX M S) {t s : Nat} (ht : t < T.length) (hr : M 21 t = nI (ty T t) ∧ M 22 t = nI (tu T t)) (hs : s < 12) : qf_X5_pieceAt (nI t) (nI s) M = some (nI (8 * t + pp S T t s), M) := by
  have h24 := hwt.1
  have h12 := hw.1
  have hwo := hwt.2.1 t ht
  have hb := pu_ix (u := tu T t) (s := s)
  have hv := hS.2.2.2.1 _ _ hwo.1 hb
  unfold qf_X5_pieceAt
  simp (disch := omega) only [n_ld, n_vv, hr.1, hr.2, kn_12, kn_3, kn_8, n_add, n_mul, n_sub, n_div, nat_rem, hv]
  show some (nI (t * 8 + pp S T t s), M) = _
  rw [Nat.mul_comm]
theorem foldLab_snoc (lab : Nat → Nat) (E : List (Nat × Nat)) (e : Nat × Nat) : foldLab lab (E ++ [e]) = relab (foldLab lab E) e.1 e.2 := by
  unfold foldLab
  rw [List.foldl_append]
  rfl
/-- labels when the first i slots of the new tile are joined -/
def labI (S : Su) (T : Tl) (x : Nat × Nat × Nat) (i : Nat) : Nat → Nat := foldLab (labs S T) (newE S T x i)
theorem labI_lab (S : Su) (T : Tl) (x : Nat × Nat × Nat) (i : Nat) : Lab (labI S T x i) ((newE S T x i).reverse ++ edges S T) := (labs_lab S T).fold _
theorem labI_none {S : Su} {T : Tl} {x : Nat × Nat × Nat} {i : Nat} (h : ta (T ++ [x]) (nb x.1 (i / 3)) = none) : labI S T x (i + 1) = labI S T x i := by
  unfold labI
  rw [newE_succ]
  have : eo S (T ++ [x]) T.length i = [] := by
    unfold eo
    rw [snoc_eq.1, h]
  rw [this, List.append_nil]
theorem labI_some {S : Su} {T : Tl} {x : Nat × Nat × Nat} {i o : Nat} (h : ta (T ++ [x]) (nb x.1 (i / 3)) = some o) : labI S T x (i + 1) = relab (labI S T x i) (8 * T.length + pp S (T ++ [x]) T.length i) (8 * o + pp S (T ++ [x]) o (op i)) := by
  unfold labI
  rw [newE_succ]
  have : eo S (T ++ [x]) T.length i = [(8 * T.length + pp S (T ++ [x]) T.length i, 8 * o + pp S (T ++ [x]) o (op i))] := by
    unfold eo
    rw [snoc_eq.1, h]
  rw [this, foldLab_snoc]
def JP (S : Su) (T : Tl) (x : Nat × Nat × Nat) (wh wo wm : Nat → Nat) (J : Nat) (Mb : Me) (i : Nat) (M : Me) : Prop :=
  XR M (8 * (T.length + 1)) (labI S T x i) wh wo wm ∧ Bk (T.length + 1) J Mb (nr (labI S T x i) (8 * (T.length + 1))) M ∧ ∀ c j, ¬ (25 ≤ c ∧ c ≤ 31) → ¬ (c = 3 ∧ j = 7) → M c j = Mb c j
theorem x_joinSame {M : Me} {r : Nat} : qf_X3_join (nI r) (nI r) M = some (0, M) := by
  unfold qf_X3_join
  rw [if_pos rfl]
theorem JP.step {S : Su} {T : Tl} {x : Nat × Nat × Nat} {wh wo wm : Nat → Nat} {J i o : Nat} {Mb M : Me} (hw : wfS S) (hwt : wfTl S (T ++ [x])) (h : JP S T x wh wo wm J Mb i M) (ho : ta (T ++ [x]) (nb x.1 (i / 3)) = some o) : ∃ M2, JP S T x wh wo wm J Mb (i + 1) M2 ∧ qf_X3_join (nI (labI S T x i (8 * T.length + pp S (T ++ [x]) T.length i))) (nI (labI S T x i (8 * o + pp S (T ++ [x]) o (op i)))) M = some (0, M2) := by
  obtain ⟨h1, h2, h3⟩ := h
  have hl : (T ++ [x]).length = T.length + 1 := by simp
  have h24 := hwt.1
  obtain ⟨hol, -⟩ := ta_some ho
  have hL := labI_lab S T x i
  have p1 := pp_lt hw hwt (s := i) (show T.length < (T ++ [x]).length by omega)
  have p2 := pp_lt hw hwt (s := op i) hol
  unfold JP
  rw [labI_some ho]
  generalize hA : 8 * T.length + pp S (T ++ [x]) T.length i = a at *
  generalize hB : 8 * o + pp S (T ++ [x]) o (op i) = b at *
  generalize labI S T x i = lab at *
  have ha : a < 8 * (T.length + 1) := by omega
  have hb : b < 8 * (T.length + 1) := by omega
  have la := hL.1 a
  have lb := hL.1 b
  by_cases hab : lab a = lab b
  · rw [relab_same hab, hab]
    exact ⟨M, ⟨h1, h2, h3⟩, x_joinSame⟩
  · have hJlt := nr_lt hL.1 (show 0 < 8 * (T.length + 1) by omega)
    have hJ := h2.2.2.1
    have hjoin := x_join hJ (by omega) (show lab a < 192 by omega) (show lab b < 192 by omega) hab
    refine ⟨_, ⟨h1.join hL.1 hL.2.1 ha hb hab, ?_, fun c j c1 c2 => ?_⟩, hjoin⟩
    · rw [nr_join hL.1 hL.2.1 ha hb hab]
      have hroot : lab (max (lab a) (lab b)) = max (lab a) (lab b) := by
        rcases Nat.le_total (lab a) (lab b) with q | q
        · rw [Nat.max_eq_right q]; exact hL.2.1 b
        · rw [Nat.max_eq_left q]; exact hL.2.1 a
      exact h2.step (by omega) (by omega) (by omega) (by omega) (by omega) (h1.root (by omega) hroot hL.1)
    · rw [jn_off c1 c2]; exact h3 c j c1 c2
theorem JP.none {S : Su} {T : Tl} {x : Nat × Nat × Nat} {wh wo wm : Nat → Nat} {J d : Nat} {Mb M : Me} (h : JP S T x wh wo wm J Mb (3 * d) M) (ho : ta (T ++ [x]) (nb x.1 d) = none) : JP S T x wh wo wm J Mb (3 * (d + 1)) M := by
  unfold JP at *
  have e : labI S T x (3 * (d + 1)) = labI S T x (3 * d) := by
    rw [show 3 * (d + 1) = 3 * d + 1 + 1 + 1 by omega, labI_none (by rw [show (3 * d + 1 + 1) / 3 = d by omega]; exact ho), labI_none (by rw [show (3 * d + 1) / 3 = d by omega]; exact ho), labI_none (by rw [show 3 * d / 3 = d by omega]; exact ho)]
  rw [e]
  exact h
theorem x_joinSide {S : Su} {T : Tl} {x : Nat × Nat × Nat} {wh wo wm : Nat → Nat} {J d : Nat} {Mb M : Me} (hw : wfS S) (hwt : wfTl S (T ++ [x])) (hb : TX Mb S (T ++ [x])) (h : JP S T x wh wo wm J Mb (3 * d) M) (hd : d < 4) : ∃ M2, JP S T x wh wo wm J Mb (3 * (d + 1)) M2 ∧ qf_X5_joinSide (nI T.length) (nI d) M = some (0, M2) := by
  have hl : (T ++ [x]).length = T.length + 1 := by simp
  have h24 := hwt.1
  have hTX : ∀ {i : Nat} {M : Me}, JP S T x wh wo wm J Mb i M → TX M S (T ++ [x]) := fun hj => hb.off (fun c j c1 c2 => hj.2.2 c j (by omega) (by omega))
  have hn : T.length < (T ++ [x]).length := by omega
  have hin := (hwt.2.1 _ hn).2.2
  have hX := (hTX h).2
  have hrow := hX.2.1 _ hn
  rw [snoc_eq.1] at hin
  have hrow1 : M 20 T.length = nI x.1 := by rw [hrow.1, snoc_eq.1]
  unfold qf_X5_joinSide
  rw [n_ld (by omega) (by decide), hrow1, n_ls (show d < sZ1.length from hd) (by decide), step_nb hin hd, n_ld (nb_lt hin) (by decide), hX.2.2.1 _ (nb_lt hin)]
  cases e : ta (T ++ [x]) (nb x.1 d) with
  | none =>
    rw [atv_none e, if_pos rfl]
    exact ⟨M, h.none e, rfl⟩
  | some o =>
    obtain ⟨hol, -⟩ := ta_some e
    rw [atv_some e, i_m1 (by omega)]
    have key := lp1_up (b := qo_X5_joinSide_27 (nI T.length) (nI d) (nI o)) (e := 3) (P := fun j M => JP S T x wh wo wm J Mb (3 * d + j) M) (K := fun M => some (0, M)) ?_ ?_ rx_FU 0 M (fu_lt (by decide)) (by decide) h
    · obtain ⟨M2, g1, g2⟩ := key
      exact ⟨M2, g1, g2⟩
    · intro rec j M hj hJP
      have hX2 := hTX hJP
      have hs : 3 * d + j < 12 := by omega
      have hdj : (3 * d + j) / 3 = d := by omega
      have r1 := hX2.2.2.1 _ hn
      have r2 := hX2.2.2.1 _ hol
      have p1 := pp_lt hw hwt (s := 3 * d + j) hn
      have p2 := pp_lt hw hwt (s := op (3 * d + j)) hol
      obtain ⟨M2, g1, g2⟩ := hJP.step hw hwt (by rw [hdj]; exact e)
      refine ⟨M2, g1, ?_⟩
      have hxr := hJP.1
      unfold qo_X5_joinSide_27
      rw [kn_3, i_le (by decide) (by omega), if_neg (by omega), n_mul, n_add, n_vv, show d * 3 + j = 3 * d + j by omega, x_pieceAt hw hwt hX2.1 hn ⟨r1.2.1, r1.2.2⟩ hs, n_cl, x_opp hs, n_cl, x_pieceAt hw hwt hX2.1 hol ⟨r2.2.1, r2.2.2⟩ (op_lt hs), n_cl, x_rootOf hxr (by omega) (by omega), n_cl, x_rootOf hxr (by omega) (by omega), n_cl, g2, n_cl, n_vv, kn_1, n_add]
    · intro rec M _
      unfold qo_X5_joinSide_27
      rw [kn_3, i_le (by decide) (by decide), if_pos (by decide)]

theorem rl_fst {ad : Nat → Nat} {cI cL : ClassId} (M M2 : Me) (i : Nat) (x : Nat × va_E) (h : (wX ad cI cL M)[i]? = some x) : ∃ y, (wX ad cI cL M2)[i]? = some y ∧ y.1 = x.1 := by
  have hm : (wX ad cI cL M).map Prod.fst = (wX ad cI cL M2).map Prod.fst := rfl
  have h1 : ((wX ad cI cL M).map Prod.fst)[i]? = some x.1 := by rw [List.getElem?_map, h]; rfl
  rw [hm, List.getElem?_map] at h1
  cases hy : (wX ad cI cL M2)[i]? with
  | none => rw [hy] at h1; cases h1
  | some y => rw [hy] at h1; exact ⟨y, rfl, Option.some.inj h1⟩
theorem rl_snd {ad : Nat → Nat} {cI cL : ClassId} (M M2 : Me) (i : Nat) (x : Nat × va_E) (h : (wY ad cI cL M)[i]? = some x) : ∃ y, (wY ad cI cL M2)[i]? = some y ∧ y.1 = x.1 := by
  have hm : (wY ad cI cL M).map Prod.fst = (wY ad cI cL M2).map Prod.fst := rfl
  have h1 : ((wY ad cI cL M).map Prod.fst)[i]? = some x.1 := by rw [List.getElem?_map, h]; rfl
  rw [hm, List.getElem?_map] at h1
  cases hy : (wY ad cI cL M2)[i]? with
  | none => rw [hy] at h1; cases h1
  | some y => rw [hy] at h1; exact ⟨y, rfl, Option.some.inj h1⟩
theorem rl_apart {adX adY : Nat → Nat} {cI cL cZ : ClassId} {A : Nat → Prop} {N N2 : Me} (hD : va_D A (wX adX cI cL N ++ wY adY cI cZ N2)) : ∀ (M M2 : Me) (i j : Nat) (x y : Nat × va_E), (wX adX cI cL M)[i]? = some x → (wY adY cI cZ M2)[j]? = some y → x.1 ≠ y.1 := by
  intro M M2 i j x y hx hy e
  obtain ⟨x2, hx2, ex⟩ := rl_fst M N i x hx
  obtain ⟨y2, hy2, ey⟩ := rl_snd M2 N2 j y hy
  have hi : i < (wX adX cI cL N).length := (List.getElem?_eq_some_iff.mp hx2).1
  have h1 : (wX adX cI cL N ++ wY adY cI cZ N2)[i]? = some x2 := by rw [List.getElem?_append_left hi]; exact hx2
  have h2 : (wX adX cI cL N ++ wY adY cI cZ N2)[(wX adX cI cL N).length + j]? = some y2 := by
    rw [List.getElem?_append_right (Nat.le_add_right _ _), Nat.add_sub_cancel_left]; exact hy2
  have h3 := hD.1 i ((wX adX cI cL N).length + j) x2 y2 h1 h2 (by rw [ex, ey, e])
  omega
def M0X : Me := fun c => match c with
  | 4 => fun j => if j = 6 then -1 else 0
  | 5 => fun j => if j = 3 then -1 else 0
  | 17 => fl_at
  | 18 => nr_84
  | _ => fun _ => 0
def M0Y : Me := fun c => match c with
  | 0 => fun j => if j = 20 then -1 else 0
  | _ => fun _ => 0
set_option maxRecDepth 100000 in
set_option maxHeartbeats 4000000 in
theorem whole_open {Rel : Nat → Me → Me → Prop} (hR0 : Rel 0 M0X M0Y) (hmono : ∀ i MX MY, Rel i MX MY → Rel (i + 7) MX MY) (h_type : ∀ (a0 : Int64) (a1 : Int64) (a2 : Int64), rl_step Rel (fun M => qf_X6_type a0 a1 a2 M) (fun M => qf_X7_type a0 a1 a2 M)) (h_draw : ∀ (a0 : Int32), rl_step Rel (fun M => qf_X6_draw a0 M) (fun M => qf_X7_draw a0 M)) (h_start : ∀ (a0 : Int32), rl_step Rel (fun M => qf_X6_start a0 M) (fun M => qf_X7_start a0 M)) (h_clear : rl_stepv Rel (fun M => qf_X6_clear M) (fun M => qf_X7_clear M)) (h_drawn : rl_step Rel (fun M => qf_X6_drawn M) (fun M => qf_X7_drawn M)) (h_game : ∀ (a0 : Int32), rl_step Rel (fun M => qf_X6_game a0 M) (fun M => qf_X7_game a0 M)) (h_fits : ∀ (a0 : Int32) (a1 : Int32), rl_step Rel (fun M => qf_X6_fits a0 a1 M) (fun M => qf_X7_fits a0 a1 M)) (h_place : ∀ (a0 : Int32) (a1 : Int32) (a2 : Int32), rl_step Rel (fun M => qf_X6_place a0 a1 a2 M) (fun M => qf_X7_place a0 a1 a2 M)) (h_follow : ∀ (a0 : Int32), rl_step Rel (fun M => qf_X6_follow a0 M) (fun M => qf_X7_follow a0 M)) (h_undo : rl_step Rel (fun M => qf_X6_undo M) (fun M => qf_X7_undo M)) (h_region : ∀ (a0 : Int32) (a1 : Int32) (a2 : Int32), rl_step Rel (fun M => qf_X6_region a0 a1 a2 M) (fun M => qf_X7_region a0 a1 a2 M)) (h_about : ∀ (a0 : Int32) (a1 : Int32), rl_step Rel (fun M => qf_X6_about a0 a1 M) (fun M => qf_X7_about a0 a1 M)) (h_player : ∀ (a0 : Int32) (a1 : Int32), rl_step Rel (fun M => qf_X6_player a0 a1 M) (fun M => qf_X7_player a0 a1 M)) (h_search : ∀ (a0 : Int32), rl_step Rel (fun M => qf_X6_search a0 M) (fun M => qf_X7_search a0 M)) (h_best : ∀ (a0 : Int32), rl_step Rel (fun M => qf_X6_best a0 M) (fun M => qf_X7_best a0 M)) {p : Program} {e : Env} {s : State} {m : MethodId} {below : List Frame} {meth : Method} {c : Code} (l : Launch) {b L : Nat} {xs : Nat → Int32} (hL : L ≤ 3584) (C0 : lw_At p s m meth c b L xs) : W p l e room_1 s m #[Value.ref b] below meth c s.heap [] 0 0 (lw_Z below #[Value.ref b] s) (entryFrame m ([Value.ref b] : List Value).toArray 4) := by
  obtain ⟨hx, hb, hr, hml, hown, hts, hX, hbl, hlocks, hgv⟩ := C0
  have hgs := flat_of_before _ hgv
  have htsA : ∀ w ∈ wA, w.before #[Value.ref b] s = true := fun w h => hts w (List.mem_filter.mp h).1
  have htsl : ∀ w ∈ tables_1, w.before #[Value.ref b] s = true := fun w h => hts w (List.mem_append_right _ h)
  have hcons : ∀ w ∈ Cond.initialized RX6 :: wA, w.before #[Value.ref b] s = true := fun w h => (List.mem_cons.mp h).elim (fun e => by rw [e]; exact htsA _ tw_1) (htsA w)
  have hNW : ∀ w ∈ wN, va_Nw w s := fun w h => by
      have h1 := List.mem_filter.mp h
      have h2 := hts w h1.1
      have h3 := h1.2
      cases w <;> first | (exact va_Nw.of rfl h2) | (cases h3)
  have hAO : va_AO "RealmTiles$Level" s := va_AO.of (htsl _ (wt2 1 rfl))
  obtain ⟨c0, i0, k0⟩ := u_known (C := RX0) (T := TX0) (N := 10) hcons inT_X0 (htsA _ tw_22)
  obtain ⟨c1, i1, k1⟩ := u_known (C := RX1) (T := TX1) (N := 9) hcons inT_X1 (htsA _ tw_242)
  obtain ⟨c2, i2, k2⟩ := u_known (C := RX2) (T := TX2) (N := 13) hcons inT_X2 (htsA _ tw_176)
  obtain ⟨c3, i3, k3⟩ := u_known (C := RX3) (T := TX3) (N := 11) hcons inT_X3 (htsA _ tw_77)
  obtain ⟨c4, i4, k4⟩ := u_known (C := RX4) (T := TX4) (N := 6) hcons inT_X4 (htsA _ tw_235)
  obtain ⟨c5, i5, k5⟩ := u_known (C := RX5) (T := TX5) (N := 12) hcons inT_X5 (htsA _ tw_71)
  obtain ⟨c6, i6, k6⟩ := u_known (C := RX6) (T := TX6) (N := 4) hcons inT_X6 (htsA _ tw_14)
  obtain ⟨c7, i7, k7⟩ := u_known (C := RX7) (T := TX7) (N := 34) hcons inT_X7 (htsA _ tw_656)
  obtain ⟨cI, kI, pI, fI1, fI2, fI3⟩ := Cond.arrayClass_spec (htsA _ tw_69)
  obtain ⟨cZ, kZ, pZ, fZ1, fZ2, fZ3⟩ := Cond.arrayClass_spec (htsA _ tw_764)
  obtain ⟨pL, cL, kL, fL1, fL0, fL2, fL3, fL4⟩ := Cond.arrayOver_spec (va_AO.use (A := #[Value.ref b]) hAO)
  have hK : va_K (fun c => match c with | 0 => c0 | 1 => c1 | 2 => c2 | 3 => c3 | 4 => c4 | 5 => c5 | 6 => c6 | _ => c7, fun c => match c with | 0 => i0 | 1 => i1 | 2 => i2 | 3 => i3 | 4 => i4 | 5 => i5 | 6 => i6 | _ => i7) vwCl (tT cI cZ cL) s := by
      refine ⟨fun c q h => ?_, fun k q h => ?_⟩
      · match c, h with
        | 0, h => cases h; exact k0
        | 1, h => cases h; exact k1
        | 2, h => cases h; exact k2
        | 3, h => cases h; exact k3
        | 4, h => cases h; exact k4
        | 5, h => cases h; exact k5
        | 6, h => cases h; exact k6
        | 7, h => cases h; exact k7
        | n + 8, h => cases h
      · match k, h with
        | 0, h => cases h; exact ⟨fun n z => ⟨fun k h => (by cases h), kI, fI2, pI, fI3⟩, fI1⟩
        | 1, h => cases h; exact ⟨fun n z => ⟨fun k h => (by cases h), kZ, fZ2, pZ, fZ3⟩, fZ1⟩
        | 2, h => cases h; exact ⟨fun n z => ⟨fun k h => (by cases h), kL, fL2, pL, fL3⟩, kL, pL, fL2, fL3, fL1, fL4⟩
        | n + 3, h => cases h
  generalize hDe : ((fun c => match c with | 0 => c0 | 1 => c1 | 2 => c2 | 3 => c3 | 4 => c4 | 5 => c5 | 6 => c6 | _ => c7, fun c => match c with | 0 => i0 | 1 => i1 | 2 => i2 | 3 => i3 | 4 => i4 | 5 => i5 | 6 => i6 | _ => i7) : va_G) = D at hK
  obtain ⟨b1, hvb1, hTb1⟩ := va_Tof (A := fun q => s.heap.size ≤ q) (tm := (Term.static "RealmTiles" "SIDE_STEPS" "[I")) (ty := .int) (N := 4) (f := fun j => .int (sZ1.getD j 0)) (by decide) (hgs _ (by decide +kernel)) (va_eqt (hgs (.eq (.length (Term.static "RealmTiles" "SIDE_STEPS" "[I")) (.int 4)) (by decide +kernel))) (fun j hj => by
      match j, hj with
      | 0, _ => exact va_eqt (hgs (.eq (.elem (Term.static "RealmTiles" "SIDE_STEPS" "[I") (.int 0)) (.int (-21))) (by decide +kernel))
      | 1, _ => exact va_eqt (hgs (.eq (.elem (Term.static "RealmTiles" "SIDE_STEPS" "[I") (.int 1)) (.int 1)) (by decide +kernel))
      | 2, _ => exact va_eqt (hgs (.eq (.elem (Term.static "RealmTiles" "SIDE_STEPS" "[I") (.int 2)) (.int 21)) (by decide +kernel))
      | 3, _ => exact va_eqt (hgs (.eq (.elem (Term.static "RealmTiles" "SIDE_STEPS" "[I") (.int 3)) (.int (-1))) (by decide +kernel))
      | n + 4, h => omega) (fun a h => Nat.not_le.mpr h)
  have hZb1 := va_Zref (A := fun q => s.heap.size ≤ q) (htsl _ (wt2 153 rfl)) (htsA _ tw_1) hvb1 (fun a h => Nat.not_le.mpr h)
  obtain ⟨b2, hvb2, hTb2⟩ := va_Tof (A := fun q => s.heap.size ≤ q) (tm := (Term.static "RealmTiles" "AROUND_STEPS" "[I")) (ty := .int) (N := 8) (f := fun j => .int (sZ2.getD j 0)) (by decide) (hgs _ (by decide +kernel)) (va_eqt (hgs (.eq (.length (Term.static "RealmTiles" "AROUND_STEPS" "[I")) (.int 8)) (by decide +kernel))) (fun j hj => by
      match j, hj with
      | 0, _ => exact va_eqt (hgs (.eq (.elem (Term.static "RealmTiles" "AROUND_STEPS" "[I") (.int 0)) (.int (-22))) (by decide +kernel))
      | 1, _ => exact va_eqt (hgs (.eq (.elem (Term.static "RealmTiles" "AROUND_STEPS" "[I") (.int 1)) (.int (-21))) (by decide +kernel))
      | 2, _ => exact va_eqt (hgs (.eq (.elem (Term.static "RealmTiles" "AROUND_STEPS" "[I") (.int 2)) (.int (-20))) (by decide +kernel))
      | 3, _ => exact va_eqt (hgs (.eq (.elem (Term.static "RealmTiles" "AROUND_STEPS" "[I") (.int 3)) (.int (-1))) (by decide +kernel))
      | 4, _ => exact va_eqt (hgs (.eq (.elem (Term.static "RealmTiles" "AROUND_STEPS" "[I") (.int 4)) (.int 1)) (by decide +kernel))
      | 5, _ => exact va_eqt (hgs (.eq (.elem (Term.static "RealmTiles" "AROUND_STEPS" "[I") (.int 5)) (.int 20)) (by decide +kernel))
      | 6, _ => exact va_eqt (hgs (.eq (.elem (Term.static "RealmTiles" "AROUND_STEPS" "[I") (.int 6)) (.int 21)) (by decide +kernel))
      | 7, _ => exact va_eqt (hgs (.eq (.elem (Term.static "RealmTiles" "AROUND_STEPS" "[I") (.int 7)) (.int 22)) (by decide +kernel))
      | n + 8, h => omega) (fun a h => Nat.not_le.mpr h)
  have hZb2 := va_Zref (A := fun q => s.heap.size ≤ q) (htsl _ (wt2 170 rfl)) (htsA _ tw_1) hvb2 (fun a h => Nat.not_le.mpr h)
  have hA : ∀ q : Nat, s.heap.size ≤ q → (fun q => s.heap.size ≤ q) q := fun q h => h
  have cx : rc_C p m c code 4 s #[Value.ref b] (Cond.initialized RX6 :: wA) RL D (tT cI cZ cL) (fun q => s.heap.size ≤ q) := ⟨⟨hx, hb, hml, hown, hcons⟩, hK, hNW, hAO, hA⟩
  have hl := lv_entry ([.ref b]) (n := 4) (Nat.le_of_ble_eq_true rfl)
  rw [lg_entry_eq]
  generalize (lg_sl ([.ref b]) ++ List.replicate (4 - (lg_sl ([.ref b])).length) Slot.unset).toArray = ls at hl ⊢
  have hl : lv_has ls 4 [(0, .ref b)] := hl
  suffices hgo : ∀ (H : Heap) (locs : List Loc), rc_W D (fun q => s.heap.size ≤ q) s.heap [] H locs → W p l e room_1 s m #[Value.ref b] below meth c H locs 0 0 (lw_Z below #[Value.ref b] s) (F0 m 0 ls []) from hgo _ _ ⟨fun k q h => (by cases h), ⟨fun i j p q h => (by cases h), fun k q h => (by cases h)⟩, va_S.rf⟩
  intro H locs hw
  refine rc_new (fs := [.null, .null, .null, .null]) cx hw (ci := 6) rfl inT_X6 tyX6 tyX6_ok tw_13 tw_14 tw_1 df_X6 ⟨Nat.le_of_ble_eq_true rfl, Nat.le_of_ble_eq_true rfl⟩ dL_law_0 (fun q0 H locs hw => ?_)
  refine W.cs (cells' := 1) (slots' := 4) rfl rfl ?_
  refine lv_dup hx hb dL_law_3 rfl ?_
  refine rc_callI cx hw (qi_X6_init l D cI cZ cL q0) [0] [] rfl rfl (wr := []) rfl rfl (by decide) kiX6_init tw_15 ⟨Nat.le_of_ble_eq_true rfl, Nat.le_of_ble_eq_true rfl, rfl, rfl⟩ rfl hl.1 (Nat.le_of_ble_eq_true rfl) ⟨Nat.le_of_ble_eq_true rfl, Nat.le_of_ble_eq_true rfl⟩ dL_law_4 rfl (fun u4 H locs hw => ?_)
  refine W.cs (cells' := 40) (slots' := 3994) rfl rfl ?_
  have hw : rc_W D (fun q => s.heap.size ≤ q) s.heap (xC cI cZ cL q0 u4) H locs := hw
  refine lv_astore_n (lv' := [(1, .ref q0), (0, .ref b)]) hx hb dL_law_7 rfl hl (Nat.le_of_ble_eq_true rfl) rfl (fun ls hl => ?_)
  refine rc_new (fs := [.int 0, .null, .null, .null, .null, .int 0, .null, .int 0, .int 0, .int 0, .null, .null, .null, .null, .null, .null, .null, .null, .int 0, .int 0, .int 0, .int 0, .int 0, .int 0, .null, .null, .int 0, .null, .null, .null, .int 0, .int 0, .null, .null]) cx hw (ci := 7) rfl inT_X7 tyX7 tyX7_ok tw_655 tw_656 tw_9 df_X7 ⟨Nat.le_of_ble_eq_true rfl, Nat.le_of_ble_eq_true rfl⟩ dL_law_8 (fun q8 H locs hw => ?_)
  refine W.cs (cells' := 41) (slots' := 4028) rfl rfl ?_
  refine lv_dup hx hb dL_law_11 rfl ?_
  refine rc_callI cx hw (qi_X7_init l D cI cZ cL q8) [40] [0, 1, 2, 3, 4, 5, 6, 7, 8, 9, 10, 11, 12, 13, 14, 15, 16, 17, 18, 19, 20, 21, 22, 23, 24, 25, 26, 27, 28, 29, 30, 31, 32, 33, 34, 35, 36, 37, 38, 39] rfl rfl (wr := xC cI cZ cL q0 u4) rfl rfl (by decide) kiX7_init tw_657 ⟨Nat.le_of_ble_eq_true rfl, Nat.le_of_ble_eq_true rfl, rfl, rfl⟩ rfl hl.1 (Nat.le_of_ble_eq_true rfl) ⟨Nat.le_of_ble_eq_true rfl, Nat.le_of_ble_eq_true rfl⟩ dL_law_12 rfl (fun u12 H locs hw => ?_)
  refine W.cs (cells' := 61) (slots' := 5957) rfl rfl ?_
  refine lv_astore_n (lv' := [(2, .ref q8), (1, .ref q0), (0, .ref b)]) hx hb dL_law_15 rfl hl (Nat.le_of_ble_eq_true rfl) rfl (fun ls hl => ?_)
  refine lv_iconst (v := 0) hx hb dL_law_16 ic_0 ?_
  refine lv_istore_n (lv' := [(3, .int 0), (2, .ref q8), (1, .ref q0), (0, .ref b)]) hx hb dL_law_17 rfl hl (Nat.le_of_ble_eq_true rfl) rfl (fun ls hl => ?_)
  have hPX := hw.1.sub (ws' := wX (fun k => ([q0, u4 0, u4 9, u4 17, u4 28, u4 33, u4 35, u4 37, u4 34, u4 1, u4 2, u4 3, u4 4, u4 5, u4 6, u4 7, u4 8, u4 27, u4 10, u4 11, u4 12, u4 13, u4 14, u4 15, u4 16, u4 18, u4 19, u4 20, u4 21, u4 22, u4 23, u4 24, u4 25, u4 26, u4 29, u4 30, u4 31, u4 32, u4 36, u4 38] : List Nat).getD k 0) cI cL M0X) [0, 1, 10, 18, 29, 34, 36, 38, 35, 2, 3, 4, 5, 6, 7, 8, 9, 28, 11, 12, 13, 14, 15, 16, 17, 19, 20, 21, 22, 23, 24, 25, 26, 27, 30, 31, 32, 33, 37, 39] rfl
  have hPY := hw.1.sub (ws' := wY (fun k => ([q8, u12 0, u12 1, u12 2, u12 3, u12 4, u12 5, u12 6, u12 7, u12 8, u12 9, u12 10, u12 11, u12 12, u12 13, u12 14, u12 15, u12 16, u12 17, u12 18, u12 19] : List Nat).getD k 0) cI cZ M0Y) [40, 41, 42, 43, 44, 45, 46, 47, 48, 49, 50, 51, 52, 53, 54, 55, 56, 57, 58, 59, 60] rfl
  have hDB := hw.2.1.sub (ws' := wX (fun k => ([q0, u4 0, u4 9, u4 17, u4 28, u4 33, u4 35, u4 37, u4 34, u4 1, u4 2, u4 3, u4 4, u4 5, u4 6, u4 7, u4 8, u4 27, u4 10, u4 11, u4 12, u4 13, u4 14, u4 15, u4 16, u4 18, u4 19, u4 20, u4 21, u4 22, u4 23, u4 24, u4 25, u4 26, u4 29, u4 30, u4 31, u4 32, u4 36, u4 38] : List Nat).getD k 0) cI cL M0X ++ wY (fun k => ([q8, u12 0, u12 1, u12 2, u12 3, u12 4, u12 5, u12 6, u12 7, u12 8, u12 9, u12 10, u12 11, u12 12, u12 13, u12 14, u12 15, u12 16, u12 17, u12 18, u12 19] : List Nat).getD k 0) cI cZ M0Y) [0, 1, 10, 18, 29, 34, 36, 38, 35, 2, 3, 4, 5, 6, 7, 8, 9, 28, 11, 12, 13, 14, 15, 16, 17, 19, 20, 21, 22, 23, 24, 25, 26, 27, 30, 31, 32, 33, 37, 39, 40, 41, 42, 43, 44, 45, 46, 47, 48, 49, 50, 51, 52, 53, 54, 55, 56, 57, 58, 59, 60] (by decide) rfl
  have hDX := hDB.sub (ws' := wX (fun k => ([q0, u4 0, u4 9, u4 17, u4 28, u4 33, u4 35, u4 37, u4 34, u4 1, u4 2, u4 3, u4 4, u4 5, u4 6, u4 7, u4 8, u4 27, u4 10, u4 11, u4 12, u4 13, u4 14, u4 15, u4 16, u4 18, u4 19, u4 20, u4 21, u4 22, u4 23, u4 24, u4 25, u4 26, u4 29, u4 30, u4 31, u4 32, u4 36, u4 38] : List Nat).getD k 0) cI cL M0X) [0, 1, 2, 3, 4, 5, 6, 7, 8, 9, 10, 11, 12, 13, 14, 15, 16, 17, 18, 19, 20, 21, 22, 23, 24, 25, 26, 27, 28, 29, 30, 31, 32, 33, 34, 35, 36, 37, 38, 39] (by decide) rfl
  have hDY := hDB.sub (ws' := wY (fun k => ([q8, u12 0, u12 1, u12 2, u12 3, u12 4, u12 5, u12 6, u12 7, u12 8, u12 9, u12 10, u12 11, u12 12, u12 13, u12 14, u12 15, u12 16, u12 17, u12 18, u12 19] : List Nat).getD k 0) cI cZ M0Y) [40, 41, 42, 43, 44, 45, 46, 47, 48, 49, 50, 51, 52, 53, 54, 55, 56, 57, 58, 59, 60] (by decide) rfl
  have hl : lv_has ls 4 [(0, .ref b), (1, .ref ((fun k => ([q0, u4 0, u4 9, u4 17, u4 28, u4 33, u4 35, u4 37, u4 34, u4 1, u4 2, u4 3, u4 4, u4 5, u4 6, u4 7, u4 8, u4 27, u4 10, u4 11, u4 12, u4 13, u4 14, u4 15, u4 16, u4 18, u4 19, u4 20, u4 21, u4 22, u4 23, u4 24, u4 25, u4 26, u4 29, u4 30, u4 31, u4 32, u4 36, u4 38] : List Nat).getD k 0) 0)), (2, .ref ((fun k => ([q8, u12 0, u12 1, u12 2, u12 3, u12 4, u12 5, u12 6, u12 7, u12 8, u12 9, u12 10, u12 11, u12 12, u12 13, u12 14, u12 15, u12 16, u12 17, u12 18, u12 19] : List Nat).getD k 0) 0)), (3, .int (nI 0))] := lv_sub hl [3, 2, 1, 0] rfl
  generalize (fun k => ([q0, u4 0, u4 9, u4 17, u4 28, u4 33, u4 35, u4 37, u4 34, u4 1, u4 2, u4 3, u4 4, u4 5, u4 6, u4 7, u4 8, u4 27, u4 10, u4 11, u4 12, u4 13, u4 14, u4 15, u4 16, u4 18, u4 19, u4 20, u4 21, u4 22, u4 23, u4 24, u4 25, u4 26, u4 29, u4 30, u4 31, u4 32, u4 36, u4 38] : List Nat).getD k 0) = adX at hPX hDB hDX hl
  generalize (fun k => ([q8, u12 0, u12 1, u12 2, u12 3, u12 4, u12 5, u12 6, u12 7, u12 8, u12 9, u12 10, u12 11, u12 12, u12 13, u12 14, u12 15, u12 16, u12 17, u12 18, u12 19] : List Nat).getD k 0) = adY at hPY hDB hDY hl
  have hS := hw.2.2
  have hKX : va_K D vwCl (tX cI cL) s := hK.sub [0, 2] rfl
  have hKY : va_K D vwCl (tY cI cZ) s := hK.sub [0, 1] rfl
  refine lc_loop (cI := cI) (cL := cL) (cZ := cZ) (adX := adX) (adY := adY) (b1 := b1) (b2 := b2) (kw := Cond.initialized RX6) ⟨⟨hx, hb, hml, hown, hcons⟩, hKX, ?_, hNW, wN_ok, hA⟩ ⟨⟨hx, hb, hml, hown, hcons⟩, hKY, (fun z hz => by cases hz), hNW, wN_ok, hA⟩ (rl_apart hDB) hX hbl (Nat.not_le.mpr hbl) hL (fun q h => h) hmono h_type h_draw h_start h_clear h_drawn h_game h_fits h_place h_follow h_undo h_region h_about h_player h_search h_best ?_ (L + 8) 0 (by omega) (by omega) hR0 ⟨hPX, hDX, hS⟩ ⟨hPY, hDY, hS⟩ hl
  · intro z hz
    rcases List.mem_cons.mp hz with rfl | hz
    · exact ⟨hZb1, hTb1⟩
    · rcases List.mem_cons.mp hz with rfl | hz
      · exact ⟨hZb2, hTb2⟩
      · cases hz
  · intro ls H
    refine lv_iconst (v := 1) hx hb dL_law_609 ic_1 ?_
    exact lw_ret hx hb hr hlocks dL_law_610

def rm_X7_start : Room := { frames := 7, cells := 0, slots := 0, locals := 161 }
noncomputable def qf_X7_start  (w1 : Int32)  (M : Me) : Op :=
  if w1 < 2 then (rx_zb 0 (some (0, M))) else (if 3 < w1 then (rx_zb 0 (some (0, M))) else (rx_vv (M 0 5) fun v1 => if v1 = 0 then (rx_zb 0 (some (0, M))) else (rx_vv (rx_st M 0 7 1) fun M2 => rx_vv (rx_st M2 0 8 w1) fun M3 => rx_vv (rx_st M3 0 23 0) fun M4 => rx_vv (rx_st M4 0 31 0) fun M5 => rx_cl (qf_X7_begin M5) fun r6 M7 => rx_zb 1 (some (1, M7)))))
section
variable {p : Program} {l : Launch} {e : Env} {s : State} {m : MethodId} {args : Array Value} {below : List Frame} {meth : Method} {c : Code} {Q : State → Prop} {D : va_G} {A : Nat → Prop} {o : Int32 × Me} {ad : Nat → Nat} {cI cL : ClassId} {b1 b2 : Nat}
set_option maxRecDepth 100000 in
set_option maxHeartbeats 4000000 in
theorem qk_X7_start_0 (cx : rx_C p m c cX7_start 2 s args wX7_start RX7 D vwCl (tY cI cL) [] wN A) (hret : rx_RZ p l e rm_X7_start s m args below meth c cX7_start D vwCl (wY ad cI cL) A Q o) {w1 : Int32} {ls : Array Slot} {H : Heap} {locs : List Loc} {M : Me} (hw : rx_W D vwCl (wY ad cI cL) A s.heap M H locs) (hl : lv_has ls 2 [(0, .ref ((ad 0))), (1, .int w1)]) (hf : qf_X7_start w1 M = some o) : W p l e rm_X7_start s m args below meth c H locs 0 0 Q (F0 m 0 ls []) := by
  have hx := cx.1.1
  have hb := cx.1.2.1
  refine lv_iload_n hx hb dX7_start_0 rfl (lv_at hl 1 rfl) ?_
  refine lv_iconst (v := 2) hx hb dX7_start_1 ic_2 ?_
  refine lv_icmp_lt hx hb dX7_start_2 rfl (fun hc => ?_) (fun hc => ?_)
  · have hf := rx_t hc hf
    refine lv_iconst (v := 0) hx hb dX7_start_17 ic_0 ?_
    exact rx_retz hret hw hf dX7_start_18
  · have hf := rx_f hc hf
    refine lv_iload_n hx hb dX7_start_5 rfl (lv_at hl 1 rfl) ?_
    refine lv_iconst (v := 3) hx hb dX7_start_6 ic_3 ?_
    refine lv_icmp_gt hx hb dX7_start_7 rfl (fun hc => ?_) (fun hc => ?_)
    · have hf := rx_t hc hf
      refine lv_iconst (v := 0) hx hb dX7_start_17 ic_0 ?_
      exact rx_retz hret hw hf dX7_start_18
    · have hf := rx_f hc hf
      refine lv_aload_n hx hb dX7_start_10 rfl (lv_at hl 0 rfl) ?_
      obtain ⟨v1, ev1, hf⟩ := rx_vvI hf
      refine rx_geti cx hw (fiY_0_5 ad cI cL) rfl (inT_X7) (Nat.le_of_ble_eq_true rfl) (.tail _ tw_666) ev1 dX7_start_11 ?_
      refine lv_if_ne hx hb dX7_start_14 rfl (fun hc => ?_) (fun hc => ?_)
      · have hf := rx_f hc hf
        refine lv_aload_n hx hb dX7_start_19 rfl (lv_at hl 0 rfl) ?_
        refine lv_iconst (v := 1) hx hb dX7_start_20 ic_1 ?_
        obtain ⟨M2, eM2, hf⟩ := rx_vvI hf
        refine rx_puti cx hw (fiY_0_7 ad cI cL) rfl (inT_X7) tyX7 tyX7_ok nmX7 (Nat.le_of_ble_eq_true rfl) (.tail _ tw_668) rfl rfl rfl eM2 dX7_start_21 (fun H locs hw => ?_)
        refine lv_aload_n hx hb dX7_start_24 rfl (lv_at hl 0 rfl) ?_
        refine lv_iload_n hx hb dX7_start_25 rfl (lv_at hl 1 rfl) ?_
        obtain ⟨M3, eM3, hf⟩ := rx_vvI hf
        refine rx_puti cx hw (fiY_0_8 ad cI cL) rfl (inT_X7) tyX7 tyX7_ok nmX7 (Nat.le_of_ble_eq_true rfl) (.tail _ tw_669) rfl rfl rfl eM3 dX7_start_26 (fun H locs hw => ?_)
        refine lv_aload_n hx hb dX7_start_29 rfl (lv_at hl 0 rfl) ?_
        refine lv_iconst (v := 0) hx hb dX7_start_30 ic_0 ?_
        obtain ⟨M4, eM4, hf⟩ := rx_vvI hf
        refine rx_puti cx hw (fiY_0_23 ad cI cL) rfl (inT_X7) tyX7 tyX7_ok nmX7 (Nat.le_of_ble_eq_true rfl) (.tail _ tw_684) rfl rfl rfl eM4 dX7_start_31 (fun H locs hw => ?_)
        refine lv_aload_n hx hb dX7_start_34 rfl (lv_at hl 0 rfl) ?_
        refine lv_iconst (v := 0) hx hb dX7_start_35 ic_0 ?_
        obtain ⟨M5, eM5, hf⟩ := rx_vvI hf
        refine rx_puti cx hw (fiY_0_31 ad cI cL) rfl (inT_X7) tyX7 tyX7_ok nmX7 (Nat.le_of_ble_eq_true rfl) (.tail _ tw_692) rfl rfl rfl eM5 dX7_start_36 (fun H locs hw => ?_)
        refine lv_aload_n hx hb dX7_start_39 rfl (lv_at hl 0 rfl) ?_
        obtain ⟨r6, M7, er6, hf⟩ := rx_clI hf
        refine rx_jVv cx hw (qc_X7_begin l D ad cI cL) (obY_0 ad cI cL) rfl rfl kfX7_begin tw_795 ⟨Nat.le_of_ble_eq_true rfl, Nat.le_of_ble_eq_true rfl, rfl, rfl⟩ rfl hl.1 (Nat.le_of_ble_eq_true rfl) ⟨Nat.zero_le _, Nat.zero_le _⟩ dX7_start_40 rfl er6 (fun H locs hw => ?_)
        refine lv_iconst (v := 1) hx hb dX7_start_43 ic_1 ?_
        exact rx_retz hret hw hf dX7_start_44
      · have hf := rx_t hc hf
        refine lv_iconst (v := 0) hx hb dX7_start_17 ic_0 ?_
        exact rx_retz hret hw hf dX7_start_18
end
set_option maxRecDepth 100000 in
theorem qc_X7_start (l : Launch) (D : va_G) (ad : Nat → Nat) (cI cL : ClassId) (w1 : Int32) : rx_MI l yX7_start wX7_start rm_X7_start D vwCl (wY ad cI cL) (tY cI cL) [] wN [.ref (ad 0), .int w1] (fun M => qf_X7_start w1 M) :=
  rx_ofZ (by decide) rfl wN_ok (Nat.le_of_ble_eq_true rfl) (fun _ _ _ _ _ _ _ _ _ _ _ _ _ cx hret hw hl hf => qk_X7_start_0 cx hret hw hl hf)
def rm_X7_clear : Room := { frames := 0, cells := 0, slots := 0, locals := 0 }
noncomputable def qf_X7_clear    (M : Me) : Op :=
  rx_vv (rx_st M 0 7 0) fun M1 => rx_vv (rx_st M1 0 0 0) fun M2 => rx_vv (rx_st M2 0 5 0) fun M3 => rx_vv (rx_st M3 0 31 0) fun M4 => some (0, M4)
section
variable {p : Program} {l : Launch} {e : Env} {s : State} {m : MethodId} {args : Array Value} {below : List Frame} {meth : Method} {c : Code} {Q : State → Prop} {D : va_G} {A : Nat → Prop} {o : Int32 × Me} {ad : Nat → Nat} {cI cL : ClassId} {b1 b2 : Nat}
set_option maxRecDepth 100000 in
set_option maxHeartbeats 4000000 in
theorem qk_X7_clear_0 (cx : rx_C p m c cX7_clear 1 s args wX7_clear RX7 D vwCl (tY cI cL) [] wN A) (hret : rx_RV p l e rm_X7_clear s m args below meth c cX7_clear D vwCl (wY ad cI cL) A Q o) {ls : Array Slot} {H : Heap} {locs : List Loc} {M : Me} (hw : rx_W D vwCl (wY ad cI cL) A s.heap M H locs) (hl : lv_has ls 1 [(0, .ref ((ad 0)))]) (hf : qf_X7_clear M = some o) : W p l e rm_X7_clear s m args below meth c H locs 0 0 Q (F0 m 0 ls []) := by
  have hx := cx.1.1
  have hb := cx.1.2.1
  refine lv_aload_n hx hb dX7_clear_0 rfl (lv_at hl 0 rfl) ?_
  refine lv_iconst (v := 0) hx hb dX7_clear_1 ic_0 ?_
  obtain ⟨M1, eM1, hf⟩ := rx_vvI hf
  refine rx_puti cx hw (fiY_0_7 ad cI cL) rfl (inT_X7) tyX7 tyX7_ok nmX7 (Nat.le_of_ble_eq_true rfl) (.tail _ tw_668) rfl rfl rfl eM1 dX7_clear_2 (fun H locs hw => ?_)
  refine lv_aload_n hx hb dX7_clear_5 rfl (lv_at hl 0 rfl) ?_
  refine lv_iconst (v := 0) hx hb dX7_clear_6 ic_0 ?_
  obtain ⟨M2, eM2, hf⟩ := rx_vvI hf
  refine rx_puti cx hw (fiY_0_0 ad cI cL) rfl (inT_X7) tyX7 tyX7_ok nmX7 (Nat.le_of_ble_eq_true rfl) (.tail _ tw_661) rfl rfl rfl eM2 dX7_clear_7 (fun H locs hw => ?_)
  refine lv_aload_n hx hb dX7_clear_10 rfl (lv_at hl 0 rfl) ?_
  refine lv_iconst (v := 0) hx hb dX7_clear_11 ic_0 ?_
  obtain ⟨M3, eM3, hf⟩ := rx_vvI hf
  refine rx_puti cx hw (fiY_0_5 ad cI cL) rfl (inT_X7) tyX7 tyX7_ok nmX7 (Nat.le_of_ble_eq_true rfl) (.tail _ tw_666) rfl rfl rfl eM3 dX7_clear_12 (fun H locs hw => ?_)
  refine lv_aload_n hx hb dX7_clear_15 rfl (lv_at hl 0 rfl) ?_
  refine lv_iconst (v := 0) hx hb dX7_clear_16 ic_0 ?_
  obtain ⟨M4, eM4, hf⟩ := rx_vvI hf
  refine rx_puti cx hw (fiY_0_31 ad cI cL) rfl (inT_X7) tyX7 tyX7_ok nmX7 (Nat.le_of_ble_eq_true rfl) (.tail _ tw_692) rfl rfl rfl eM4 dX7_clear_17 (fun H locs hw => ?_)
  exact rx_retv hret hw hf dX7_clear_20
end
set_option maxRecDepth 100000 in
theorem qc_X7_clear (l : Launch) (D : va_G) (ad : Nat → Nat) (cI cL : ClassId) : rx_MV l yX7_clear wX7_clear rm_X7_clear D vwCl (wY ad cI cL) (tY cI cL) [] wN [.ref (ad 0)] (fun M => qf_X7_clear M) :=
  rx_ofV (by decide) rfl wN_ok (Nat.le_of_ble_eq_true rfl) (fun _ _ _ _ _ _ _ _ _ _ _ _ _ cx hret hw hl hf => qk_X7_clear_0 cx hret hw hl hf)
def rm_X7_drawn : Room := { frames := 0, cells := 0, slots := 0, locals := 0 }
noncomputable def qf_X7_drawn    (M : Me) : Op :=
  rx_vv (M 0 7) fun v1 => if v1 = 0 then (some ((-1), M)) else (rx_vv (M 0 22) fun v2 => if v2 = 0 then (rx_vv (M 0 20) fun v3 => some (v3, M)) else (some ((-1), M)))
section
variable {p : Program} {l : Launch} {e : Env} {s : State} {m : MethodId} {args : Array Value} {below : List Frame} {meth : Method} {c : Code} {Q : State → Prop} {D : va_G} {A : Nat → Prop} {o : Int32 × Me} {ad : Nat → Nat} {cI cL : ClassId} {b1 b2 : Nat}
set_option maxRecDepth 100000 in
set_option maxHeartbeats 4000000 in
theorem qk_X7_drawn_0 (cx : rx_C p m c cX7_drawn 1 s args wX7_drawn RX7 D vwCl (tY cI cL) [] wN A) (hret : rx_RI p l e rm_X7_drawn s m args below meth c cX7_drawn D vwCl (wY ad cI cL) A Q o) {ls : Array Slot} {H : Heap} {locs : List Loc} {M : Me} (hw : rx_W D vwCl (wY ad cI cL) A s.heap M H locs) (hl : lv_has ls 1 [(0, .ref ((ad 0)))]) (hf : qf_X7_drawn M = some o) : W p l e rm_X7_drawn s m args below meth c H locs 0 0 Q (F0 m 0 ls []) := by
  have hx := cx.1.1
  have hb := cx.1.2.1
  refine lv_aload_n hx hb dX7_drawn_0 rfl (lv_at hl 0 rfl) ?_
  obtain ⟨v1, ev1, hf⟩ := rx_vvI hf
  refine rx_geti cx hw (fiY_0_7 ad cI cL) rfl (inT_X7) (Nat.le_of_ble_eq_true rfl) (.tail _ tw_668) ev1 dX7_drawn_1 ?_
  refine lv_if_eq hx hb dX7_drawn_4 rfl (fun hc => ?_) (fun hc => ?_)
  · have hf := rx_t hc hf
    refine lv_iconst (v := (-1)) hx hb dX7_drawn_21 ic_m1 ?_
    exact rx_reti hret hw hf dX7_drawn_22
  · have hf := rx_f hc hf
    refine lv_aload_n hx hb dX7_drawn_7 rfl (lv_at hl 0 rfl) ?_
    obtain ⟨v2, ev2, hf⟩ := rx_vvI hf
    refine rx_geti cx hw (fiY_0_22 ad cI cL) rfl (inT_X7) (Nat.le_of_ble_eq_true rfl) (.tail _ tw_683) ev2 dX7_drawn_8 ?_
    refine lv_if_ne hx hb dX7_drawn_11 rfl (fun hc => ?_) (fun hc => ?_)
    · have hf := rx_f hc hf
      refine lv_iconst (v := (-1)) hx hb dX7_drawn_21 ic_m1 ?_
      exact rx_reti hret hw hf dX7_drawn_22
    · have hf := rx_t hc hf
      refine lv_aload_n hx hb dX7_drawn_14 rfl (lv_at hl 0 rfl) ?_
      obtain ⟨v3, ev3, hf⟩ := rx_vvI hf
      refine rx_geti cx hw (fiY_0_20 ad cI cL) rfl (inT_X7) (Nat.le_of_ble_eq_true rfl) (.tail _ tw_681) ev3 dX7_drawn_15 ?_
      refine lv_goto hx hb dX7_drawn_18 rfl ?_
      exact rx_reti hret hw hf dX7_drawn_22
end
set_option maxRecDepth 100000 in
theorem qc_X7_drawn (l : Launch) (D : va_G) (ad : Nat → Nat) (cI cL : ClassId) : rx_MI l yX7_drawn wX7_drawn rm_X7_drawn D vwCl (wY ad cI cL) (tY cI cL) [] wN [.ref (ad 0)] (fun M => qf_X7_drawn M) :=
  rx_ofI (by decide) rfl wN_ok (Nat.le_of_ble_eq_true rfl) (fun _ _ _ _ _ _ _ _ _ _ _ _ _ cx hret hw hl hf => qk_X7_drawn_0 cx hret hw hl hf)
def rm_X7_game : Room := { frames := 0, cells := 0, slots := 0, locals := 0 }
noncomputable def qb_X7_game_90    (M : Me) : Op :=
  rx_vv (M 0 18) fun v1 => some (v1, M)
noncomputable def qf_X7_game  (w1 : Int32)  (M : Me) : Op :=
  if w1 < 0 then (some ((-2), M)) else (if w1 ≤ 5 then (rx_vv (M 0 7) fun v1 => if v1 = 0 then (if w1 = 0 then (some ((-1), M)) else (if w1 = 5 then (rx_vv (M 0 5) fun v10 => some (v10, M)) else (some (0, M)))) else (if w1 = 0 then (rx_vv (M 0 22) fun v2 => if v2 = 0 then (rx_vv (M 0 20) fun v3 => if v3 < 0 then (some ((-1), M)) else (qb_X7_game_90 M)) else (qb_X7_game_90 M)) else (if w1 = 1 then (rx_vv (M 0 9) fun v4 => some (v4, M)) else (if w1 = 2 then (rx_vv (M 0 21) fun v5 => some (v5, M)) else (if w1 = 3 then (rx_vv (M 0 23) fun v6 => some (v6, M)) else (if w1 = 4 then (rx_vv (M 0 22) fun v7 => if v7 = 0 then (some (0, M)) else (some (1, M))) else (rx_vv (M 0 5) fun v8 => rx_vv (M 0 19) fun v9 => some (v8 - v9, M)))))))) else (some ((-2), M)))
section
variable {p : Program} {l : Launch} {e : Env} {s : State} {m : MethodId} {args : Array Value} {below : List Frame} {meth : Method} {c : Code} {Q : State → Prop} {D : va_G} {A : Nat → Prop} {o : Int32 × Me} {ad : Nat → Nat} {cI cL : ClassId} {b1 b2 : Nat}
set_option maxRecDepth 100000 in
set_option maxHeartbeats 4000000 in
theorem qk_X7_game_90 (cx : rx_C p m c cX7_game 2 s args wX7_game RX7 D vwCl (tY cI cL) [] wN A) (hret : rx_RI p l e rm_X7_game s m args below meth c cX7_game D vwCl (wY ad cI cL) A Q o) {ls : Array Slot} {H : Heap} {locs : List Loc} {M : Me} (hw : rx_W D vwCl (wY ad cI cL) A s.heap M H locs) (hl : lv_has ls 2 [(0, .ref ((ad 0)))]) (hf : qb_X7_game_90 M = some o) : W p l e rm_X7_game s m args below meth c H locs 0 0 Q (F0 m 90 ls []) := by
  have hx := cx.1.1
  have hb := cx.1.2.1
  refine lv_aload_n hx hb dX7_game_90 rfl (lv_at hl 0 rfl) ?_
  obtain ⟨v1, ev1, hf⟩ := rx_vvI hf
  refine rx_geti cx hw (fiY_0_18 ad cI cL) rfl (inT_X7) (Nat.le_of_ble_eq_true rfl) (.tail _ tw_679) ev1 dX7_game_91 ?_
  refine lv_goto hx hb dX7_game_94 rfl ?_
  exact rx_reti hret hw hf dX7_game_98
set_option maxRecDepth 100000 in
set_option maxHeartbeats 4000000 in
theorem qk_X7_game_0 (cx : rx_C p m c cX7_game 2 s args wX7_game RX7 D vwCl (tY cI cL) [] wN A) (hret : rx_RI p l e rm_X7_game s m args below meth c cX7_game D vwCl (wY ad cI cL) A Q o) {w1 : Int32} {ls : Array Slot} {H : Heap} {locs : List Loc} {M : Me} (hw : rx_W D vwCl (wY ad cI cL) A s.heap M H locs) (hl : lv_has ls 2 [(0, .ref ((ad 0))), (1, .int w1)]) (hf : qf_X7_game w1 M = some o) : W p l e rm_X7_game s m args below meth c H locs 0 0 Q (F0 m 0 ls []) := by
  have hx := cx.1.1
  have hb := cx.1.2.1
  refine lv_iload_n hx hb dX7_game_0 rfl (lv_at hl 1 rfl) ?_
  refine lv_if_lt hx hb dX7_game_1 rfl (fun hc => ?_) (fun hc => ?_)
  · have hf := rx_t hc hf
    refine lv_bipush (v := (-2)) hx hb dX7_game_9 ib_m2 ?_
    exact rx_reti hret hw hf dX7_game_11
  · have hf := rx_f hc hf
    refine lv_iload_n hx hb dX7_game_4 rfl (lv_at hl 1 rfl) ?_
    refine lv_iconst (v := 5) hx hb dX7_game_5 ic_5 ?_
    refine lv_icmp_le hx hb dX7_game_6 rfl (fun hc => ?_) (fun hc => ?_)
    · have hf := rx_t hc hf
      refine lv_aload_n hx hb dX7_game_12 rfl (lv_at hl 0 rfl) ?_
      obtain ⟨v1, ev1, hf⟩ := rx_vvI hf
      refine rx_geti cx hw (fiY_0_7 ad cI cL) rfl (inT_X7) (Nat.le_of_ble_eq_true rfl) (.tail _ tw_668) ev1 dX7_game_13 ?_
      refine lv_if_ne hx hb dX7_game_16 rfl (fun hc => ?_) (fun hc => ?_)
      · have hf := rx_f hc hf
        refine lv_iload_n hx hb dX7_game_41 rfl (lv_at hl 1 rfl) ?_
        by_cases hs0 : w1 = 0
        · have hf := rx_t hs0 hf
          refine lv_tableIn hx hb dX7_game_42 (by rw [hs0]; decide) (by rw [hs0]; decide) (by rw [hs0]; rfl) rfl ?_
          refine lv_aload_n hx hb dX7_game_76 rfl (lv_at hl 0 rfl) ?_
          obtain ⟨v2, ev2, hf⟩ := rx_vvI hf
          refine rx_geti cx hw (fiY_0_22 ad cI cL) rfl (inT_X7) (Nat.le_of_ble_eq_true rfl) (.tail _ tw_683) ev2 dX7_game_77 ?_
          refine lv_if_ne hx hb dX7_game_80 rfl (fun hc => ?_) (fun hc => ?_)
          · have hf := rx_f hc hf
            exact (qk_X7_game_90 cx hret) hw (lv_sub hl [0] rfl) hf
          · have hf := rx_t hc hf
            refine lv_aload_n hx hb dX7_game_83 rfl (lv_at hl 0 rfl) ?_
            obtain ⟨v3, ev3, hf⟩ := rx_vvI hf
            refine rx_geti cx hw (fiY_0_20 ad cI cL) rfl (inT_X7) (Nat.le_of_ble_eq_true rfl) (.tail _ tw_681) ev3 dX7_game_84 ?_
            refine lv_if_lt hx hb dX7_game_87 rfl (fun hc => ?_) (fun hc => ?_)
            · have hf := rx_t hc hf
              refine lv_iconst (v := (-1)) hx hb dX7_game_97 ic_m1 ?_
              exact rx_reti hret hw hf dX7_game_98
            · have hf := rx_f hc hf
              exact (qk_X7_game_90 cx hret) hw (lv_sub hl [0] rfl) hf
        · have hf := rx_f hs0 hf
          by_cases hs1 : w1 = 1
          · have hf := rx_t hs1 hf
            refine lv_tableIn hx hb dX7_game_42 (by rw [hs1]; decide) (by rw [hs1]; decide) (by rw [hs1]; rfl) rfl ?_
            refine lv_aload_n hx hb dX7_game_99 rfl (lv_at hl 0 rfl) ?_
            obtain ⟨v4, ev4, hf⟩ := rx_vvI hf
            refine rx_geti cx hw (fiY_0_9 ad cI cL) rfl (inT_X7) (Nat.le_of_ble_eq_true rfl) (.tail _ tw_670) ev4 dX7_game_100 ?_
            exact rx_reti hret hw hf dX7_game_103
          · have hf := rx_f hs1 hf
            by_cases hs2 : w1 = 2
            · have hf := rx_t hs2 hf
              refine lv_tableIn hx hb dX7_game_42 (by rw [hs2]; decide) (by rw [hs2]; decide) (by rw [hs2]; rfl) rfl ?_
              refine lv_aload_n hx hb dX7_game_104 rfl (lv_at hl 0 rfl) ?_
              obtain ⟨v5, ev5, hf⟩ := rx_vvI hf
              refine rx_geti cx hw (fiY_0_21 ad cI cL) rfl (inT_X7) (Nat.le_of_ble_eq_true rfl) (.tail _ tw_682) ev5 dX7_game_105 ?_
              exact rx_reti hret hw hf dX7_game_108
            · have hf := rx_f hs2 hf
              by_cases hs3 : w1 = 3
              · have hf := rx_t hs3 hf
                refine lv_tableIn hx hb dX7_game_42 (by rw [hs3]; decide) (by rw [hs3]; decide) (by rw [hs3]; rfl) rfl ?_
                refine lv_aload_n hx hb dX7_game_109 rfl (lv_at hl 0 rfl) ?_
                obtain ⟨v6, ev6, hf⟩ := rx_vvI hf
                refine rx_geti cx hw (fiY_0_23 ad cI cL) rfl (inT_X7) (Nat.le_of_ble_eq_true rfl) (.tail _ tw_684) ev6 dX7_game_110 ?_
                exact rx_reti hret hw hf dX7_game_113
              · have hf := rx_f hs3 hf
                by_cases hs4 : w1 = 4
                · have hf := rx_t hs4 hf
                  refine lv_tableIn hx hb dX7_game_42 (by rw [hs4]; decide) (by rw [hs4]; decide) (by rw [hs4]; rfl) rfl ?_
                  refine lv_aload_n hx hb dX7_game_114 rfl (lv_at hl 0 rfl) ?_
                  obtain ⟨v7, ev7, hf⟩ := rx_vvI hf
                  refine rx_geti cx hw (fiY_0_22 ad cI cL) rfl (inT_X7) (Nat.le_of_ble_eq_true rfl) (.tail _ tw_683) ev7 dX7_game_115 ?_
                  refine lv_if_eq hx hb dX7_game_118 rfl (fun hc => ?_) (fun hc => ?_)
                  · have hf := rx_t hc hf
                    refine lv_iconst (v := 0) hx hb dX7_game_125 ic_0 ?_
                    exact rx_reti hret hw hf dX7_game_126
                  · have hf := rx_f hc hf
                    refine lv_iconst (v := 1) hx hb dX7_game_121 ic_1 ?_
                    refine lv_goto hx hb dX7_game_122 rfl ?_
                    exact rx_reti hret hw hf dX7_game_126
                · have hf := rx_f hs4 hf
                  refine lv_tableOut hx hb dX7_game_42 (by have := lv_neT hs0 it_0; have := lv_neT hs1 it_1; have := lv_neT hs2 it_2; have := lv_neT hs3 it_3; have := lv_neT hs4 it_4; omega) rfl ?_
                  refine lv_aload_n hx hb dX7_game_127 rfl (lv_at hl 0 rfl) ?_
                  obtain ⟨v8, ev8, hf⟩ := rx_vvI hf
                  refine rx_geti cx hw (fiY_0_5 ad cI cL) rfl (inT_X7) (Nat.le_of_ble_eq_true rfl) (.tail _ tw_666) ev8 dX7_game_128 ?_
                  refine lv_aload_n hx hb dX7_game_131 rfl (lv_at hl 0 rfl) ?_
                  obtain ⟨v9, ev9, hf⟩ := rx_vvI hf
                  refine rx_geti cx hw (fiY_0_19 ad cI cL) rfl (inT_X7) (Nat.le_of_ble_eq_true rfl) (.tail _ tw_680) ev9 dX7_game_132 ?_
                  refine lv_isub hx hb dX7_game_135 ?_
                  exact rx_reti hret hw hf dX7_game_136
      · have hf := rx_t hc hf
        refine lv_iload_n hx hb dX7_game_19 rfl (lv_at hl 1 rfl) ?_
        refine lv_if_ne hx hb dX7_game_20 rfl (fun hc => ?_) (fun hc => ?_)
        · have hf := rx_f hc hf
          refine lv_iload_n hx hb dX7_game_27 rfl (lv_at hl 1 rfl) ?_
          refine lv_iconst (v := 5) hx hb dX7_game_28 ic_5 ?_
          refine lv_icmp_ne hx hb dX7_game_29 rfl (fun hc => ?_) (fun hc => ?_)
          · have hf := rx_f hc hf
            refine lv_iconst (v := 0) hx hb dX7_game_39 ic_0 ?_
            exact rx_reti hret hw hf dX7_game_40
          · have hf := rx_t hc hf
            refine lv_aload_n hx hb dX7_game_32 rfl (lv_at hl 0 rfl) ?_
            obtain ⟨v10, ev10, hf⟩ := rx_vvI hf
            refine rx_geti cx hw (fiY_0_5 ad cI cL) rfl (inT_X7) (Nat.le_of_ble_eq_true rfl) (.tail _ tw_666) ev10 dX7_game_33 ?_
            refine lv_goto hx hb dX7_game_36 rfl ?_
            exact rx_reti hret hw hf dX7_game_40
        · have hf := rx_t hc hf
          refine lv_iconst (v := (-1)) hx hb dX7_game_23 ic_m1 ?_
          refine lv_goto hx hb dX7_game_24 rfl ?_
          exact rx_reti hret hw hf dX7_game_40
    · have hf := rx_f hc hf
      refine lv_bipush (v := (-2)) hx hb dX7_game_9 ib_m2 ?_
      exact rx_reti hret hw hf dX7_game_11
end
set_option maxRecDepth 100000 in
theorem qc_X7_game (l : Launch) (D : va_G) (ad : Nat → Nat) (cI cL : ClassId) (w1 : Int32) : rx_MI l yX7_game wX7_game rm_X7_game D vwCl (wY ad cI cL) (tY cI cL) [] wN [.ref (ad 0), .int w1] (fun M => qf_X7_game w1 M) :=
  rx_ofI (by decide) rfl wN_ok (Nat.le_of_ble_eq_true rfl) (fun _ _ _ _ _ _ _ _ _ _ _ _ _ cx hret hw hl hf => qk_X7_game_0 cx hret hw hl hf)
def rm_X7_isToLay : Room := { frames := 0, cells := 0, slots := 0, locals := 0 }
noncomputable def qf_X7_isToLay    (M : Me) : Op :=
  rx_vv (M 0 7) fun v1 => if v1 = 0 then (rx_zb 0 (some (0, M))) else (rx_vv (M 0 22) fun v2 => if v2 = 0 then (rx_vv (M 0 20) fun v3 => if v3 < 0 then (rx_zb 0 (some (0, M))) else (rx_zb 1 (some (1, M)))) else (rx_zb 0 (some (0, M))))
section
variable {p : Program} {l : Launch} {e : Env} {s : State} {m : MethodId} {args : Array Value} {below : List Frame} {meth : Method} {c : Code} {Q : State → Prop} {D : va_G} {A : Nat → Prop} {o : Int32 × Me} {ad : Nat → Nat} {cI cL : ClassId} {b1 b2 : Nat}
set_option maxRecDepth 100000 in
set_option maxHeartbeats 4000000 in
theorem qk_X7_isToLay_0 (cx : rx_C p m c cX7_isToLay 1 s args wX7_isToLay RX7 D vwCl (tY cI cL) [] wN A) (hret : rx_RZ p l e rm_X7_isToLay s m args below meth c cX7_isToLay D vwCl (wY ad cI cL) A Q o) {ls : Array Slot} {H : Heap} {locs : List Loc} {M : Me} (hw : rx_W D vwCl (wY ad cI cL) A s.heap M H locs) (hl : lv_has ls 1 [(0, .ref ((ad 0)))]) (hf : qf_X7_isToLay M = some o) : W p l e rm_X7_isToLay s m args below meth c H locs 0 0 Q (F0 m 0 ls []) := by
  have hx := cx.1.1
  have hb := cx.1.2.1
  refine lv_aload_n hx hb dX7_isToLay_0 rfl (lv_at hl 0 rfl) ?_
  obtain ⟨v1, ev1, hf⟩ := rx_vvI hf
  refine rx_geti cx hw (fiY_0_7 ad cI cL) rfl (inT_X7) (Nat.le_of_ble_eq_true rfl) (.tail _ tw_668) ev1 dX7_isToLay_1 ?_
  refine lv_if_eq hx hb dX7_isToLay_4 rfl (fun hc => ?_) (fun hc => ?_)
  · have hf := rx_t hc hf
    refine lv_iconst (v := 0) hx hb dX7_isToLay_25 ic_0 ?_
    exact rx_retz hret hw hf dX7_isToLay_26
  · have hf := rx_f hc hf
    refine lv_aload_n hx hb dX7_isToLay_7 rfl (lv_at hl 0 rfl) ?_
    obtain ⟨v2, ev2, hf⟩ := rx_vvI hf
    refine rx_geti cx hw (fiY_0_22 ad cI cL) rfl (inT_X7) (Nat.le_of_ble_eq_true rfl) (.tail _ tw_683) ev2 dX7_isToLay_8 ?_
    refine lv_if_ne hx hb dX7_isToLay_11 rfl (fun hc => ?_) (fun hc => ?_)
    · have hf := rx_f hc hf
      refine lv_iconst (v := 0) hx hb dX7_isToLay_25 ic_0 ?_
      exact rx_retz hret hw hf dX7_isToLay_26
    · have hf := rx_t hc hf
      refine lv_aload_n hx hb dX7_isToLay_14 rfl (lv_at hl 0 rfl) ?_
      obtain ⟨v3, ev3, hf⟩ := rx_vvI hf
      refine rx_geti cx hw (fiY_0_20 ad cI cL) rfl (inT_X7) (Nat.le_of_ble_eq_true rfl) (.tail _ tw_681) ev3 dX7_isToLay_15 ?_
      refine lv_if_lt hx hb dX7_isToLay_18 rfl (fun hc => ?_) (fun hc => ?_)
      · have hf := rx_t hc hf
        refine lv_iconst (v := 0) hx hb dX7_isToLay_25 ic_0 ?_
        exact rx_retz hret hw hf dX7_isToLay_26
      · have hf := rx_f hc hf
        refine lv_iconst (v := 1) hx hb dX7_isToLay_21 ic_1 ?_
        refine lv_goto hx hb dX7_isToLay_22 rfl ?_
        exact rx_retz hret hw hf dX7_isToLay_26
end
set_option maxRecDepth 100000 in
theorem qc_X7_isToLay (l : Launch) (D : va_G) (ad : Nat → Nat) (cI cL : ClassId) : rx_MI l yX7_isToLay wX7_isToLay rm_X7_isToLay D vwCl (wY ad cI cL) (tY cI cL) [] wN [.ref (ad 0)] (fun M => qf_X7_isToLay M) :=
  rx_ofZ (by decide) rfl wN_ok (Nat.le_of_ble_eq_true rfl) (fun _ _ _ _ _ _ _ _ _ _ _ _ _ cx hret hw hl hf => qk_X7_isToLay_0 cx hret hw hl hf)
def rm_X7_fits : Room := { frames := 5, cells := 0, slots := 0, locals := 119 }
noncomputable def qf_X7_fits  (w1 : Int32) (w2 : Int32)  (M : Me) : Op :=
  rx_cl (qf_X7_isToLay M) fun r1 M2 => if r1 = 0 then (some ((-100), M2)) else (if w1 < 0 then (some ((-100), M2)) else (if w2 < 0 then (some ((-100), M2)) else (if w2 ≤ 2 then (rx_vv (M2 0 20) fun v3 => rx_cl (qf_X7_fitting v3 w1 M2) fun r4 M5 => if 0 ≤ r4 then (if w2 = 0 then (some (((r4 / 4) - (r4 / 4) / 19 * 19) - 9, M5)) else (if w2 = 1 then (some ((r4 / 76) - 9, M5)) else (some (r4 - r4 / 4 * 4, M5)))) else (some ((-100), M5))) else (some ((-100), M2)))))
section
variable {p : Program} {l : Launch} {e : Env} {s : State} {m : MethodId} {args : Array Value} {below : List Frame} {meth : Method} {c : Code} {Q : State → Prop} {D : va_G} {A : Nat → Prop} {o : Int32 × Me} {ad : Nat → Nat} {cI cL : ClassId} {b1 b2 : Nat}
set_option maxRecDepth 100000 in
set_option maxHeartbeats 4000000 in
theorem qk_X7_fits_0 (cx : rx_C p m c cX7_fits 4 s args wX7_fits RX7 D vwCl (tY cI cL) [] wN A) (hret : rx_RI p l e rm_X7_fits s m args below meth c cX7_fits D vwCl (wY ad cI cL) A Q o) {w1 : Int32} {w2 : Int32} {ls : Array Slot} {H : Heap} {locs : List Loc} {M : Me} (hw : rx_W D vwCl (wY ad cI cL) A s.heap M H locs) (hl : lv_has ls 4 [(0, .ref ((ad 0))), (1, .int w1), (2, .int w2)]) (hf : qf_X7_fits w1 w2 M = some o) : W p l e rm_X7_fits s m args below meth c H locs 0 0 Q (F0 m 0 ls []) := by
  have hx := cx.1.1
  have hb := cx.1.2.1
  refine lv_aload_n hx hb dX7_fits_0 rfl (lv_at hl 0 rfl) ?_
  obtain ⟨r1, M2, er1, hf⟩ := rx_clI hf
  refine rx_jVi cx hw (qc_X7_isToLay l D ad cI cL) (obY_0 ad cI cL) rfl rfl kfX7_isToLay tw_849 ⟨Nat.le_of_ble_eq_true rfl, Nat.le_of_ble_eq_true rfl, rfl, rfl⟩ rfl hl.1 (Nat.le_of_ble_eq_true rfl) ⟨Nat.zero_le _, Nat.zero_le _⟩ dX7_fits_1 rfl er1 (fun H locs hw => ?_)
  refine lv_if_eq hx hb dX7_fits_4 rfl (fun hc => ?_) (fun hc => ?_)
  · have hf := rx_t hc hf
    refine lv_bipush (v := (-100)) hx hb dX7_fits_20 ib_m100 ?_
    exact rx_reti hret hw hf dX7_fits_22
  · have hf := rx_f hc hf
    refine lv_iload_n hx hb dX7_fits_7 rfl (lv_at hl 1 rfl) ?_
    refine lv_if_lt hx hb dX7_fits_8 rfl (fun hc => ?_) (fun hc => ?_)
    · have hf := rx_t hc hf
      refine lv_bipush (v := (-100)) hx hb dX7_fits_20 ib_m100 ?_
      exact rx_reti hret hw hf dX7_fits_22
    · have hf := rx_f hc hf
      refine lv_iload_n hx hb dX7_fits_11 rfl (lv_at hl 2 rfl) ?_
      refine lv_if_lt hx hb dX7_fits_12 rfl (fun hc => ?_) (fun hc => ?_)
      · have hf := rx_t hc hf
        refine lv_bipush (v := (-100)) hx hb dX7_fits_20 ib_m100 ?_
        exact rx_reti hret hw hf dX7_fits_22
      · have hf := rx_f hc hf
        refine lv_iload_n hx hb dX7_fits_15 rfl (lv_at hl 2 rfl) ?_
        refine lv_iconst (v := 2) hx hb dX7_fits_16 ic_2 ?_
        refine lv_icmp_le hx hb dX7_fits_17 rfl (fun hc => ?_) (fun hc => ?_)
        · have hf := rx_t hc hf
          refine lv_aload_n hx hb dX7_fits_23 rfl (lv_at hl 0 rfl) ?_
          refine lv_aload_n hx hb dX7_fits_24 rfl (lv_at hl 0 rfl) ?_
          obtain ⟨v3, ev3, hf⟩ := rx_vvI hf
          refine rx_geti cx hw (fiY_0_20 ad cI cL) rfl (inT_X7) (Nat.le_of_ble_eq_true rfl) (.tail _ tw_681) ev3 dX7_fits_25 ?_
          refine lv_iload_n hx hb dX7_fits_28 rfl (lv_at hl 1 rfl) ?_
          obtain ⟨r4, M5, er4, hf⟩ := rx_clI hf
          refine rx_jVi cx hw (qc_X7_fitting l D ad cI cL v3 w1) (obY_0 ad cI cL) rfl rfl kfX7_fitting tw_803 ⟨Nat.le_of_ble_eq_true rfl, Nat.le_of_ble_eq_true rfl, rfl, rfl⟩ rfl hl.1 (Nat.le_of_ble_eq_true rfl) ⟨Nat.zero_le _, Nat.zero_le _⟩ dX7_fits_29 rfl er4 (fun H locs hw => ?_)
          refine lv_istore_n (lv' := [(3, .int r4), (0, .ref ((ad 0))), (1, .int w1), (2, .int w2)]) hx hb dX7_fits_32 rfl hl (Nat.le_of_ble_eq_true rfl) rfl (fun ls hl => ?_)
          refine lv_iload_n hx hb dX7_fits_33 rfl (lv_at hl 0 rfl) ?_
          refine lv_if_ge hx hb dX7_fits_34 rfl (fun hc => ?_) (fun hc => ?_)
          · have hf := rx_t hc hf
            refine lv_iload_n hx hb dX7_fits_42 rfl (lv_at hl 3 rfl) ?_
            refine lv_if_ne hx hb dX7_fits_43 rfl (fun hc => ?_) (fun hc => ?_)
            · have hf := rx_f hc hf
              refine lv_iload_n hx hb dX7_fits_58 rfl (lv_at hl 3 rfl) ?_
              refine lv_iconst (v := 1) hx hb dX7_fits_59 ic_1 ?_
              refine lv_icmp_ne hx hb dX7_fits_60 rfl (fun hc => ?_) (fun hc => ?_)
              · have hf := rx_f hc hf
                refine lv_iload_n hx hb dX7_fits_73 rfl (lv_at hl 0 rfl) ?_
                refine lv_iconst (v := 4) hx hb dX7_fits_74 ic_4 ?_
                refine lv_irem hx hb dX7_fits_75 nz_4 ?_
                exact rx_reti hret hw hf dX7_fits_76
              · have hf := rx_t hc hf
                refine lv_iload_n hx hb dX7_fits_63 rfl (lv_at hl 0 rfl) ?_
                refine lv_bipush (v := 76) hx hb dX7_fits_64 ib_76 ?_
                refine lv_idiv hx hb dX7_fits_66 nz_76 ?_
                refine lv_bipush (v := 9) hx hb dX7_fits_67 ib_9 ?_
                refine lv_isub hx hb dX7_fits_69 ?_
                refine lv_goto hx hb dX7_fits_70 rfl ?_
                exact rx_reti hret hw hf dX7_fits_76
            · have hf := rx_t hc hf
              refine lv_iload_n hx hb dX7_fits_46 rfl (lv_at hl 0 rfl) ?_
              refine lv_iconst (v := 4) hx hb dX7_fits_47 ic_4 ?_
              refine lv_idiv hx hb dX7_fits_48 nz_4 ?_
              refine lv_bipush (v := 19) hx hb dX7_fits_49 ib_19 ?_
              refine lv_irem hx hb dX7_fits_51 nz_19 ?_
              refine lv_bipush (v := 9) hx hb dX7_fits_52 ib_9 ?_
              refine lv_isub hx hb dX7_fits_54 ?_
              refine lv_goto hx hb dX7_fits_55 rfl ?_
              exact rx_reti hret hw hf dX7_fits_76
          · have hf := rx_f hc hf
            refine lv_bipush (v := (-100)) hx hb dX7_fits_37 ib_m100 ?_
            refine lv_goto hx hb dX7_fits_39 rfl ?_
            exact rx_reti hret hw hf dX7_fits_76
        · have hf := rx_f hc hf
          refine lv_bipush (v := (-100)) hx hb dX7_fits_20 ib_m100 ?_
          exact rx_reti hret hw hf dX7_fits_22
end
set_option maxRecDepth 100000 in
theorem qc_X7_fits (l : Launch) (D : va_G) (ad : Nat → Nat) (cI cL : ClassId) (w1 : Int32) (w2 : Int32) : rx_MI l yX7_fits wX7_fits rm_X7_fits D vwCl (wY ad cI cL) (tY cI cL) [] wN [.ref (ad 0), .int w1, .int w2] (fun M => qf_X7_fits w1 w2 M) :=
  rx_ofI (by decide) rfl wN_ok (Nat.le_of_ble_eq_true rfl) (fun _ _ _ _ _ _ _ _ _ _ _ _ _ cx hret hw hl hf => qk_X7_fits_0 cx hret hw hl hf)
def rm_X7_lay : Room := { frames := 0, cells := 0, slots := 0, locals := 0 }
noncomputable def qf_X7_lay  (w1 : Int32) (w2 : Int32) (w3 : Int32)  (M : Me) : Op :=
  rx_vv (M 0 9) fun v1 => rx_sv M 6 24 v1 w1 fun M2 => rx_vv (M2 0 9) fun v3 => rx_sv M2 7 24 v3 w2 fun M4 => rx_vv (M4 0 9) fun v5 => rx_vv (M4 0 20) fun v6 => rx_sv M4 8 24 v5 v6 fun M7 => rx_vv (M7 0 9) fun v8 => rx_sv M7 9 24 v8 w3 fun M9 => rx_vv (M9 0 9) fun v10 => rx_sv M9 10 361 (((19 * w2) + w1) + 180) v10 fun M11 => rx_vv (M11 0 9) fun v12 => rx_vv (rx_st M11 0 9 (v12 + 1)) fun M13 => rx_vv (rx_st M13 0 22 1) fun M14 => rx_vv (rx_st M14 0 26 0) fun M15 => some (0, M15)
section
variable {p : Program} {l : Launch} {e : Env} {s : State} {m : MethodId} {args : Array Value} {below : List Frame} {meth : Method} {c : Code} {Q : State → Prop} {D : va_G} {A : Nat → Prop} {o : Int32 × Me} {ad : Nat → Nat} {cI cL : ClassId} {b1 b2 : Nat}
set_option maxRecDepth 100000 in
set_option maxHeartbeats 4000000 in
theorem qk_X7_lay_0 (cx : rx_C p m c cX7_lay 4 s args wX7_lay RX7 D vwCl (tY cI cL) [] wN A) (hret : rx_RV p l e rm_X7_lay s m args below meth c cX7_lay D vwCl (wY ad cI cL) A Q o) {w1 : Int32} {w2 : Int32} {w3 : Int32} {ls : Array Slot} {H : Heap} {locs : List Loc} {M : Me} (hw : rx_W D vwCl (wY ad cI cL) A s.heap M H locs) (hl : lv_has ls 4 [(0, .ref ((ad 0))), (1, .int w1), (2, .int w2), (3, .int w3)]) (hf : qf_X7_lay w1 w2 w3 M = some o) : W p l e rm_X7_lay s m args below meth c H locs 0 0 Q (F0 m 0 ls []) := by
  have hx := cx.1.1
  have hb := cx.1.2.1
  refine lv_aload_n hx hb dX7_lay_0 rfl (lv_at hl 0 rfl) ?_
  refine rx_getr cx hw (frY_0_10 ad cI cL) rfl (inT_X7) (Nat.le_of_ble_eq_true rfl) (.tail _ tw_671) dX7_lay_1 ?_
  refine lv_aload_n hx hb dX7_lay_4 rfl (lv_at hl 0 rfl) ?_
  obtain ⟨v1, ev1, hf⟩ := rx_vvI hf
  refine rx_geti cx hw (fiY_0_9 ad cI cL) rfl (inT_X7) (Nat.le_of_ble_eq_true rfl) (.tail _ tw_670) ev1 dX7_lay_5 ?_
  refine lv_iload_n hx hb dX7_lay_8 rfl (lv_at hl 1 rfl) ?_
  obtain ⟨hM2, M2, eM2, hf⟩ := rx_svI hf
  refine rx_iast cx hw (arY_6 ad cI cL) ⟨hM2, eM2⟩ dX7_lay_9 (fun H locs hw => ?_)
  refine lv_aload_n hx hb dX7_lay_10 rfl (lv_at hl 0 rfl) ?_
  refine rx_getr cx hw (frY_0_11 ad cI cL) rfl (inT_X7) (Nat.le_of_ble_eq_true rfl) (.tail _ tw_672) dX7_lay_11 ?_
  refine lv_aload_n hx hb dX7_lay_14 rfl (lv_at hl 0 rfl) ?_
  obtain ⟨v3, ev3, hf⟩ := rx_vvI hf
  refine rx_geti cx hw (fiY_0_9 ad cI cL) rfl (inT_X7) (Nat.le_of_ble_eq_true rfl) (.tail _ tw_670) ev3 dX7_lay_15 ?_
  refine lv_iload_n hx hb dX7_lay_18 rfl (lv_at hl 2 rfl) ?_
  obtain ⟨hM4, M4, eM4, hf⟩ := rx_svI hf
  refine rx_iast cx hw (arY_7 ad cI cL) ⟨hM4, eM4⟩ dX7_lay_19 (fun H locs hw => ?_)
  refine lv_aload_n hx hb dX7_lay_20 rfl (lv_at hl 0 rfl) ?_
  refine rx_getr cx hw (frY_0_12 ad cI cL) rfl (inT_X7) (Nat.le_of_ble_eq_true rfl) (.tail _ tw_673) dX7_lay_21 ?_
  refine lv_aload_n hx hb dX7_lay_24 rfl (lv_at hl 0 rfl) ?_
  obtain ⟨v5, ev5, hf⟩ := rx_vvI hf
  refine rx_geti cx hw (fiY_0_9 ad cI cL) rfl (inT_X7) (Nat.le_of_ble_eq_true rfl) (.tail _ tw_670) ev5 dX7_lay_25 ?_
  refine lv_aload_n hx hb dX7_lay_28 rfl (lv_at hl 0 rfl) ?_
  obtain ⟨v6, ev6, hf⟩ := rx_vvI hf
  refine rx_geti cx hw (fiY_0_20 ad cI cL) rfl (inT_X7) (Nat.le_of_ble_eq_true rfl) (.tail _ tw_681) ev6 dX7_lay_29 ?_
  obtain ⟨hM7, M7, eM7, hf⟩ := rx_svI hf
  refine rx_iast cx hw (arY_8 ad cI cL) ⟨hM7, eM7⟩ dX7_lay_32 (fun H locs hw => ?_)
  refine lv_aload_n hx hb dX7_lay_33 rfl (lv_at hl 0 rfl) ?_
  refine rx_getr cx hw (frY_0_13 ad cI cL) rfl (inT_X7) (Nat.le_of_ble_eq_true rfl) (.tail _ tw_674) dX7_lay_34 ?_
  refine lv_aload_n hx hb dX7_lay_37 rfl (lv_at hl 0 rfl) ?_
  obtain ⟨v8, ev8, hf⟩ := rx_vvI hf
  refine rx_geti cx hw (fiY_0_9 ad cI cL) rfl (inT_X7) (Nat.le_of_ble_eq_true rfl) (.tail _ tw_670) ev8 dX7_lay_38 ?_
  refine lv_iload_n hx hb dX7_lay_41 rfl (lv_at hl 3 rfl) ?_
  obtain ⟨hM9, M9, eM9, hf⟩ := rx_svI hf
  refine rx_iast cx hw (arY_9 ad cI cL) ⟨hM9, eM9⟩ dX7_lay_42 (fun H locs hw => ?_)
  refine lv_aload_n hx hb dX7_lay_43 rfl (lv_at hl 0 rfl) ?_
  refine rx_getr cx hw (frY_0_14 ad cI cL) rfl (inT_X7) (Nat.le_of_ble_eq_true rfl) (.tail _ tw_675) dX7_lay_44 ?_
  refine lv_bipush (v := 19) hx hb dX7_lay_47 ib_19 ?_
  refine lv_iload_n hx hb dX7_lay_49 rfl (lv_at hl 2 rfl) ?_
  refine lv_imul hx hb dX7_lay_50 ?_
  refine lv_iload_n hx hb dX7_lay_51 rfl (lv_at hl 1 rfl) ?_
  refine lv_iadd hx hb dX7_lay_52 ?_
  refine lv_sipush (v := 180) hx hb dX7_lay_53 is_180 ?_
  refine lv_iadd hx hb dX7_lay_56 ?_
  refine lv_aload_n hx hb dX7_lay_57 rfl (lv_at hl 0 rfl) ?_
  obtain ⟨v10, ev10, hf⟩ := rx_vvI hf
  refine rx_geti cx hw (fiY_0_9 ad cI cL) rfl (inT_X7) (Nat.le_of_ble_eq_true rfl) (.tail _ tw_670) ev10 dX7_lay_58 ?_
  obtain ⟨hM11, M11, eM11, hf⟩ := rx_svI hf
  refine rx_iast cx hw (arY_10 ad cI cL) ⟨hM11, eM11⟩ dX7_lay_61 (fun H locs hw => ?_)
  refine lv_aload_n hx hb dX7_lay_62 rfl (lv_at hl 0 rfl) ?_
  refine lv_dup hx hb dX7_lay_63 rfl ?_
  obtain ⟨v12, ev12, hf⟩ := rx_vvI hf
  refine rx_geti cx hw (fiY_0_9 ad cI cL) rfl (inT_X7) (Nat.le_of_ble_eq_true rfl) (.tail _ tw_670) ev12 dX7_lay_64 ?_
  refine lv_iconst (v := 1) hx hb dX7_lay_67 ic_1 ?_
  refine lv_iadd hx hb dX7_lay_68 ?_
  obtain ⟨M13, eM13, hf⟩ := rx_vvI hf
  refine rx_puti cx hw (fiY_0_9 ad cI cL) rfl (inT_X7) tyX7 tyX7_ok nmX7 (Nat.le_of_ble_eq_true rfl) (.tail _ tw_670) rfl rfl rfl eM13 dX7_lay_69 (fun H locs hw => ?_)
  refine lv_aload_n hx hb dX7_lay_72 rfl (lv_at hl 0 rfl) ?_
  refine lv_iconst (v := 1) hx hb dX7_lay_73 ic_1 ?_
  obtain ⟨M14, eM14, hf⟩ := rx_vvI hf
  refine rx_puti cx hw (fiY_0_22 ad cI cL) rfl (inT_X7) tyX7 tyX7_ok nmX7 (Nat.le_of_ble_eq_true rfl) (.tail _ tw_683) rfl rfl rfl eM14 dX7_lay_74 (fun H locs hw => ?_)
  refine lv_aload_n hx hb dX7_lay_77 rfl (lv_at hl 0 rfl) ?_
  refine lv_iconst (v := 0) hx hb dX7_lay_78 ic_0 ?_
  obtain ⟨M15, eM15, hf⟩ := rx_vvI hf
  refine rx_puti cx hw (fiY_0_26 ad cI cL) rfl (inT_X7) tyX7 tyX7_ok nmX7 (Nat.le_of_ble_eq_true rfl) (.tail _ tw_687) rfl rfl rfl eM15 dX7_lay_79 (fun H locs hw => ?_)
  exact rx_retv hret hw hf dX7_lay_82
end
set_option maxRecDepth 100000 in
theorem qc_X7_lay (l : Launch) (D : va_G) (ad : Nat → Nat) (cI cL : ClassId) (w1 : Int32) (w2 : Int32) (w3 : Int32) : rx_MV l yX7_lay wX7_lay rm_X7_lay D vwCl (wY ad cI cL) (tY cI cL) [] wN [.ref (ad 0), .int w1, .int w2, .int w3] (fun M => qf_X7_lay w1 w2 w3 M) :=
  rx_ofV (by decide) rfl wN_ok (Nat.le_of_ble_eq_true rfl) (fun _ _ _ _ _ _ _ _ _ _ _ _ _ cx hret hw hl hf => qk_X7_lay_0 cx hret hw hl hf)
def rm_X7_note : Room := { frames := 0, cells := 0, slots := 0, locals := 0 }
noncomputable def qf_X7_note  (w1 : Int32) (w2 : Int32) (w3 : Int32) (w4 : Int32)  (M : Me) : Op :=
  rx_vv (M 0 23) fun v1 => rx_sv M 14 192 (4 * v1) w1 fun M2 => rx_vv (M2 0 23) fun v3 => rx_sv M2 14 192 ((4 * v3) + 1) w2 fun M4 => rx_vv (M4 0 23) fun v5 => rx_sv M4 14 192 ((4 * v5) + 2) w3 fun M6 => rx_vv (M6 0 23) fun v7 => rx_sv M6 14 192 ((4 * v7) + 3) w4 fun M8 => rx_vv (M8 0 23) fun v9 => rx_vv (rx_st M8 0 23 (v9 + 1)) fun M10 => rx_vv (rx_st M10 0 31 0) fun M11 => some (0, M11)
section
variable {p : Program} {l : Launch} {e : Env} {s : State} {m : MethodId} {args : Array Value} {below : List Frame} {meth : Method} {c : Code} {Q : State → Prop} {D : va_G} {A : Nat → Prop} {o : Int32 × Me} {ad : Nat → Nat} {cI cL : ClassId} {b1 b2 : Nat}
set_option maxRecDepth 100000 in
set_option maxHeartbeats 4000000 in
theorem qk_X7_note_0 (cx : rx_C p m c cX7_note 5 s args wX7_note RX7 D vwCl (tY cI cL) [] wN A) (hret : rx_RV p l e rm_X7_note s m args below meth c cX7_note D vwCl (wY ad cI cL) A Q o) {w1 : Int32} {w2 : Int32} {w3 : Int32} {w4 : Int32} {ls : Array Slot} {H : Heap} {locs : List Loc} {M : Me} (hw : rx_W D vwCl (wY ad cI cL) A s.heap M H locs) (hl : lv_has ls 5 [(0, .ref ((ad 0))), (1, .int w1), (2, .int w2), (3, .int w3), (4, .int w4)]) (hf : qf_X7_note w1 w2 w3 w4 M = some o) : W p l e rm_X7_note s m args below meth c H locs 0 0 Q (F0 m 0 ls []) := by
  have hx := cx.1.1
  have hb := cx.1.2.1
  refine lv_aload_n hx hb dX7_note_0 rfl (lv_at hl 0 rfl) ?_
  refine rx_getr cx hw (frY_0_24 ad cI cL) rfl (inT_X7) (Nat.le_of_ble_eq_true rfl) (.tail _ tw_685) dX7_note_1 ?_
  refine lv_iconst (v := 4) hx hb dX7_note_4 ic_4 ?_
  refine lv_aload_n hx hb dX7_note_5 rfl (lv_at hl 0 rfl) ?_
  obtain ⟨v1, ev1, hf⟩ := rx_vvI hf
  refine rx_geti cx hw (fiY_0_23 ad cI cL) rfl (inT_X7) (Nat.le_of_ble_eq_true rfl) (.tail _ tw_684) ev1 dX7_note_6 ?_
  refine lv_imul hx hb dX7_note_9 ?_
  refine lv_iload_n hx hb dX7_note_10 rfl (lv_at hl 1 rfl) ?_
  obtain ⟨hM2, M2, eM2, hf⟩ := rx_svI hf
  refine rx_iast cx hw (arY_14 ad cI cL) ⟨hM2, eM2⟩ dX7_note_11 (fun H locs hw => ?_)
  refine lv_aload_n hx hb dX7_note_12 rfl (lv_at hl 0 rfl) ?_
  refine rx_getr cx hw (frY_0_24 ad cI cL) rfl (inT_X7) (Nat.le_of_ble_eq_true rfl) (.tail _ tw_685) dX7_note_13 ?_
  refine lv_iconst (v := 4) hx hb dX7_note_16 ic_4 ?_
  refine lv_aload_n hx hb dX7_note_17 rfl (lv_at hl 0 rfl) ?_
  obtain ⟨v3, ev3, hf⟩ := rx_vvI hf
  refine rx_geti cx hw (fiY_0_23 ad cI cL) rfl (inT_X7) (Nat.le_of_ble_eq_true rfl) (.tail _ tw_684) ev3 dX7_note_18 ?_
  refine lv_imul hx hb dX7_note_21 ?_
  refine lv_iconst (v := 1) hx hb dX7_note_22 ic_1 ?_
  refine lv_iadd hx hb dX7_note_23 ?_
  refine lv_iload_n hx hb dX7_note_24 rfl (lv_at hl 2 rfl) ?_
  obtain ⟨hM4, M4, eM4, hf⟩ := rx_svI hf
  refine rx_iast cx hw (arY_14 ad cI cL) ⟨hM4, eM4⟩ dX7_note_25 (fun H locs hw => ?_)
  refine lv_aload_n hx hb dX7_note_26 rfl (lv_at hl 0 rfl) ?_
  refine rx_getr cx hw (frY_0_24 ad cI cL) rfl (inT_X7) (Nat.le_of_ble_eq_true rfl) (.tail _ tw_685) dX7_note_27 ?_
  refine lv_iconst (v := 4) hx hb dX7_note_30 ic_4 ?_
  refine lv_aload_n hx hb dX7_note_31 rfl (lv_at hl 0 rfl) ?_
  obtain ⟨v5, ev5, hf⟩ := rx_vvI hf
  refine rx_geti cx hw (fiY_0_23 ad cI cL) rfl (inT_X7) (Nat.le_of_ble_eq_true rfl) (.tail _ tw_684) ev5 dX7_note_32 ?_
  refine lv_imul hx hb dX7_note_35 ?_
  refine lv_iconst (v := 2) hx hb dX7_note_36 ic_2 ?_
  refine lv_iadd hx hb dX7_note_37 ?_
  refine lv_iload_n hx hb dX7_note_38 rfl (lv_at hl 3 rfl) ?_
  obtain ⟨hM6, M6, eM6, hf⟩ := rx_svI hf
  refine rx_iast cx hw (arY_14 ad cI cL) ⟨hM6, eM6⟩ dX7_note_39 (fun H locs hw => ?_)
  refine lv_aload_n hx hb dX7_note_40 rfl (lv_at hl 0 rfl) ?_
  refine rx_getr cx hw (frY_0_24 ad cI cL) rfl (inT_X7) (Nat.le_of_ble_eq_true rfl) (.tail _ tw_685) dX7_note_41 ?_
  refine lv_iconst (v := 4) hx hb dX7_note_44 ic_4 ?_
  refine lv_aload_n hx hb dX7_note_45 rfl (lv_at hl 0 rfl) ?_
  obtain ⟨v7, ev7, hf⟩ := rx_vvI hf
  refine rx_geti cx hw (fiY_0_23 ad cI cL) rfl (inT_X7) (Nat.le_of_ble_eq_true rfl) (.tail _ tw_684) ev7 dX7_note_46 ?_
  refine lv_imul hx hb dX7_note_49 ?_
  refine lv_iconst (v := 3) hx hb dX7_note_50 ic_3 ?_
  refine lv_iadd hx hb dX7_note_51 ?_
  refine lv_iload hx hb dX7_note_52 (lv_at hl 4 rfl) ?_
  obtain ⟨hM8, M8, eM8, hf⟩ := rx_svI hf
  refine rx_iast cx hw (arY_14 ad cI cL) ⟨hM8, eM8⟩ dX7_note_54 (fun H locs hw => ?_)
  refine lv_aload_n hx hb dX7_note_55 rfl (lv_at hl 0 rfl) ?_
  refine lv_dup hx hb dX7_note_56 rfl ?_
  obtain ⟨v9, ev9, hf⟩ := rx_vvI hf
  refine rx_geti cx hw (fiY_0_23 ad cI cL) rfl (inT_X7) (Nat.le_of_ble_eq_true rfl) (.tail _ tw_684) ev9 dX7_note_57 ?_
  refine lv_iconst (v := 1) hx hb dX7_note_60 ic_1 ?_
  refine lv_iadd hx hb dX7_note_61 ?_
  obtain ⟨M10, eM10, hf⟩ := rx_vvI hf
  refine rx_puti cx hw (fiY_0_23 ad cI cL) rfl (inT_X7) tyX7 tyX7_ok nmX7 (Nat.le_of_ble_eq_true rfl) (.tail _ tw_684) rfl rfl rfl eM10 dX7_note_62 (fun H locs hw => ?_)
  refine lv_aload_n hx hb dX7_note_65 rfl (lv_at hl 0 rfl) ?_
  refine lv_iconst (v := 0) hx hb dX7_note_66 ic_0 ?_
  obtain ⟨M11, eM11, hf⟩ := rx_vvI hf
  refine rx_puti cx hw (fiY_0_31 ad cI cL) rfl (inT_X7) tyX7 tyX7_ok nmX7 (Nat.le_of_ble_eq_true rfl) (.tail _ tw_692) rfl rfl rfl eM11 dX7_note_67 (fun H locs hw => ?_)
  exact rx_retv hret hw hf dX7_note_70
end
set_option maxRecDepth 100000 in
theorem qc_X7_note (l : Launch) (D : va_G) (ad : Nat → Nat) (cI cL : ClassId) (w1 : Int32) (w2 : Int32) (w3 : Int32) (w4 : Int32) : rx_MV l yX7_note wX7_note rm_X7_note D vwCl (wY ad cI cL) (tY cI cL) [] wN [.ref (ad 0), .int w1, .int w2, .int w3, .int w4] (fun M => qf_X7_note w1 w2 w3 w4 M) :=
  rx_ofV (by decide) rfl wN_ok (Nat.le_of_ble_eq_true rfl) (fun _ _ _ _ _ _ _ _ _ _ _ _ _ cx hret hw hl hf => qk_X7_note_0 cx hret hw hl hf)
def rm_X7_place : Room := { frames := 4, cells := 0, slots := 0, locals := 95 }
noncomputable def qf_X7_place  (w1 : Int32) (w2 : Int32) (w3 : Int32)  (M : Me) : Op :=
  rx_cl (qf_X7_isToLay M) fun r1 M2 => if r1 = 0 then (some ((-2), M2)) else (rx_vv (M2 0 20) fun v3 => rx_cl (qf_X7_fitsAt v3 w1 w2 w3 M2) fun r4 M5 => if r4 = 0 then (some ((-2), M5)) else (rx_cl (qf_X7_lay w1 w2 w3 M5) fun r6 M7 => rx_cl (qf_X7_note 1 w1 w2 w3 M7) fun r8 M9 => rx_vv (M9 0 9) fun v10 => some (v10 - 1, M9)))
section
variable {p : Program} {l : Launch} {e : Env} {s : State} {m : MethodId} {args : Array Value} {below : List Frame} {meth : Method} {c : Code} {Q : State → Prop} {D : va_G} {A : Nat → Prop} {o : Int32 × Me} {ad : Nat → Nat} {cI cL : ClassId} {b1 b2 : Nat}
set_option maxRecDepth 100000 in
set_option maxHeartbeats 4000000 in
theorem qk_X7_place_0 (cx : rx_C p m c cX7_place 4 s args wX7_place RX7 D vwCl (tY cI cL) [] wN A) (hret : rx_RI p l e rm_X7_place s m args below meth c cX7_place D vwCl (wY ad cI cL) A Q o) {w1 : Int32} {w2 : Int32} {w3 : Int32} {ls : Array Slot} {H : Heap} {locs : List Loc} {M : Me} (hw : rx_W D vwCl (wY ad cI cL) A s.heap M H locs) (hl : lv_has ls 4 [(0, .ref ((ad 0))), (1, .int w1), (2, .int w2), (3, .int w3)]) (hf : qf_X7_place w1 w2 w3 M = some o) : W p l e rm_X7_place s m args below meth c H locs 0 0 Q (F0 m 0 ls []) := by
  have hx := cx.1.1
  have hb := cx.1.2.1
  refine lv_aload_n hx hb dX7_place_0 rfl (lv_at hl 0 rfl) ?_
  obtain ⟨r1, M2, er1, hf⟩ := rx_clI hf
  refine rx_jVi cx hw (qc_X7_isToLay l D ad cI cL) (obY_0 ad cI cL) rfl rfl kfX7_isToLay tw_849 ⟨Nat.le_of_ble_eq_true rfl, Nat.le_of_ble_eq_true rfl, rfl, rfl⟩ rfl hl.1 (Nat.le_of_ble_eq_true rfl) ⟨Nat.zero_le _, Nat.zero_le _⟩ dX7_place_1 rfl er1 (fun H locs hw => ?_)
  refine lv_if_eq hx hb dX7_place_4 rfl (fun hc => ?_) (fun hc => ?_)
  · have hf := rx_t hc hf
    refine lv_bipush (v := (-2)) hx hb dX7_place_21 ib_m2 ?_
    exact rx_reti hret hw hf dX7_place_23
  · have hf := rx_f hc hf
    refine lv_aload_n hx hb dX7_place_7 rfl (lv_at hl 0 rfl) ?_
    refine lv_aload_n hx hb dX7_place_8 rfl (lv_at hl 0 rfl) ?_
    obtain ⟨v3, ev3, hf⟩ := rx_vvI hf
    refine rx_geti cx hw (fiY_0_20 ad cI cL) rfl (inT_X7) (Nat.le_of_ble_eq_true rfl) (.tail _ tw_681) ev3 dX7_place_9 ?_
    refine lv_iload_n hx hb dX7_place_12 rfl (lv_at hl 1 rfl) ?_
    refine lv_iload_n hx hb dX7_place_13 rfl (lv_at hl 2 rfl) ?_
    refine lv_iload_n hx hb dX7_place_14 rfl (lv_at hl 3 rfl) ?_
    obtain ⟨r4, M5, er4, hf⟩ := rx_clI hf
    refine rx_jVi cx hw (qc_X7_fitsAt l D ad cI cL v3 w1 w2 w3) (obY_0 ad cI cL) rfl rfl kfX7_fitsAt tw_807 ⟨Nat.le_of_ble_eq_true rfl, Nat.le_of_ble_eq_true rfl, rfl, rfl⟩ rfl hl.1 (Nat.le_of_ble_eq_true rfl) ⟨Nat.zero_le _, Nat.zero_le _⟩ dX7_place_15 rfl er4 (fun H locs hw => ?_)
    refine lv_if_ne hx hb dX7_place_18 rfl (fun hc => ?_) (fun hc => ?_)
    · have hf := rx_f hc hf
      refine lv_aload_n hx hb dX7_place_24 rfl (lv_at hl 0 rfl) ?_
      refine lv_iload_n hx hb dX7_place_25 rfl (lv_at hl 1 rfl) ?_
      refine lv_iload_n hx hb dX7_place_26 rfl (lv_at hl 2 rfl) ?_
      refine lv_iload_n hx hb dX7_place_27 rfl (lv_at hl 3 rfl) ?_
      obtain ⟨r6, M7, er6, hf⟩ := rx_clI hf
      refine rx_jVv cx hw (qc_X7_lay l D ad cI cL w1 w2 w3) (obY_0 ad cI cL) rfl rfl kfX7_lay tw_857 ⟨Nat.le_of_ble_eq_true rfl, Nat.le_of_ble_eq_true rfl, rfl, rfl⟩ rfl hl.1 (Nat.le_of_ble_eq_true rfl) ⟨Nat.zero_le _, Nat.zero_le _⟩ dX7_place_28 rfl er6 (fun H locs hw => ?_)
      refine lv_aload_n hx hb dX7_place_31 rfl (lv_at hl 0 rfl) ?_
      refine lv_iconst (v := 1) hx hb dX7_place_32 ic_1 ?_
      refine lv_iload_n hx hb dX7_place_33 rfl (lv_at hl 1 rfl) ?_
      refine lv_iload_n hx hb dX7_place_34 rfl (lv_at hl 2 rfl) ?_
      refine lv_iload_n hx hb dX7_place_35 rfl (lv_at hl 3 rfl) ?_
      obtain ⟨r8, M9, er8, hf⟩ := rx_clI hf
      refine rx_jVv cx hw (qc_X7_note l D ad cI cL 1 w1 w2 w3) (obY_0 ad cI cL) rfl rfl kfX7_note tw_861 ⟨Nat.le_of_ble_eq_true rfl, Nat.le_of_ble_eq_true rfl, rfl, rfl⟩ rfl hl.1 (Nat.le_of_ble_eq_true rfl) ⟨Nat.zero_le _, Nat.zero_le _⟩ dX7_place_36 rfl er8 (fun H locs hw => ?_)
      refine lv_aload_n hx hb dX7_place_39 rfl (lv_at hl 0 rfl) ?_
      obtain ⟨v10, ev10, hf⟩ := rx_vvI hf
      refine rx_geti cx hw (fiY_0_9 ad cI cL) rfl (inT_X7) (Nat.le_of_ble_eq_true rfl) (.tail _ tw_670) ev10 dX7_place_40 ?_
      refine lv_iconst (v := 1) hx hb dX7_place_43 ic_1 ?_
      refine lv_isub hx hb dX7_place_44 ?_
      exact rx_reti hret hw hf dX7_place_45
    · have hf := rx_t hc hf
      refine lv_bipush (v := (-2)) hx hb dX7_place_21 ib_m2 ?_
      exact rx_reti hret hw hf dX7_place_23
end
set_option maxRecDepth 100000 in
theorem qc_X7_place (l : Launch) (D : va_G) (ad : Nat → Nat) (cI cL : ClassId) (w1 : Int32) (w2 : Int32) (w3 : Int32) : rx_MI l yX7_place wX7_place rm_X7_place D vwCl (wY ad cI cL) (tY cI cL) [] wN [.ref (ad 0), .int w1, .int w2, .int w3] (fun M => qf_X7_place w1 w2 w3 M) :=
  rx_ofI (by decide) rfl wN_ok (Nat.le_of_ble_eq_true rfl) (fun _ _ _ _ _ _ _ _ _ _ _ _ _ cx hret hw hl hf => qk_X7_place_0 cx hret hw hl hf)
def rm_X7_kindOfPiece : Room := { frames := 0, cells := 0, slots := 0, locals := 0 }
noncomputable def qf_X7_kindOfPiece  (w1 : Int32)  (M : Me) : Op :=
  rx_ld M 8 24 (w1 / 8) fun v1 => rx_ld M 2 96 ((8 * v1) + (w1 - w1 / 8 * 8)) fun v2 => some (v2, M)
section
variable {p : Program} {l : Launch} {e : Env} {s : State} {m : MethodId} {args : Array Value} {below : List Frame} {meth : Method} {c : Code} {Q : State → Prop} {D : va_G} {A : Nat → Prop} {o : Int32 × Me} {ad : Nat → Nat} {cI cL : ClassId} {b1 b2 : Nat}
set_option maxRecDepth 100000 in
set_option maxHeartbeats 4000000 in
theorem qk_X7_kindOfPiece_0 (cx : rx_C p m c cX7_kindOfPiece 2 s args wX7_kindOfPiece RX7 D vwCl (tY cI cL) [] wN A) (hret : rx_RI p l e rm_X7_kindOfPiece s m args below meth c cX7_kindOfPiece D vwCl (wY ad cI cL) A Q o) {w1 : Int32} {ls : Array Slot} {H : Heap} {locs : List Loc} {M : Me} (hw : rx_W D vwCl (wY ad cI cL) A s.heap M H locs) (hl : lv_has ls 2 [(0, .ref ((ad 0))), (1, .int w1)]) (hf : qf_X7_kindOfPiece w1 M = some o) : W p l e rm_X7_kindOfPiece s m args below meth c H locs 0 0 Q (F0 m 0 ls []) := by
  have hx := cx.1.1
  have hb := cx.1.2.1
  refine lv_aload_n hx hb dX7_kindOfPiece_0 rfl (lv_at hl 0 rfl) ?_
  refine rx_getr cx hw (frY_0_2 ad cI cL) rfl (inT_X7) (Nat.le_of_ble_eq_true rfl) (.tail _ tw_663) dX7_kindOfPiece_1 ?_
  refine lv_bipush (v := 8) hx hb dX7_kindOfPiece_4 ib_8 ?_
  refine lv_aload_n hx hb dX7_kindOfPiece_6 rfl (lv_at hl 0 rfl) ?_
  refine rx_getr cx hw (frY_0_12 ad cI cL) rfl (inT_X7) (Nat.le_of_ble_eq_true rfl) (.tail _ tw_673) dX7_kindOfPiece_7 ?_
  refine lv_iload_n hx hb dX7_kindOfPiece_10 rfl (lv_at hl 1 rfl) ?_
  refine lv_bipush (v := 8) hx hb dX7_kindOfPiece_11 ib_8 ?_
  refine lv_idiv hx hb dX7_kindOfPiece_13 nz_8 ?_
  obtain ⟨hv1, v1, ev1, hf⟩ := rx_ldI hf
  refine rx_iald cx hw (arY_8 ad cI cL) ⟨hv1, ev1⟩ dX7_kindOfPiece_14 ?_
  refine lv_imul hx hb dX7_kindOfPiece_15 ?_
  refine lv_iload_n hx hb dX7_kindOfPiece_16 rfl (lv_at hl 1 rfl) ?_
  refine lv_bipush (v := 8) hx hb dX7_kindOfPiece_17 ib_8 ?_
  refine lv_irem hx hb dX7_kindOfPiece_19 nz_8 ?_
  refine lv_iadd hx hb dX7_kindOfPiece_20 ?_
  obtain ⟨hv2, v2, ev2, hf⟩ := rx_ldI hf
  refine rx_iald cx hw (arY_2 ad cI cL) ⟨hv2, ev2⟩ dX7_kindOfPiece_21 ?_
  exact rx_reti hret hw hf dX7_kindOfPiece_22
end
set_option maxRecDepth 100000 in
theorem qc_X7_kindOfPiece (l : Launch) (D : va_G) (ad : Nat → Nat) (cI cL : ClassId) (w1 : Int32) : rx_MI l yX7_kindOfPiece wX7_kindOfPiece rm_X7_kindOfPiece D vwCl (wY ad cI cL) (tY cI cL) [] wN [.ref (ad 0), .int w1] (fun M => qf_X7_kindOfPiece w1 M) :=
  rx_ofI (by decide) rfl wN_ok (Nat.le_of_ble_eq_true rfl) (fun _ _ _ _ _ _ _ _ _ _ _ _ _ cx hret hw hl hf => qk_X7_kindOfPiece_0 cx hret hw hl hf)
def rm_X7_followersOf : Room := { frames := 0, cells := 0, slots := 0, locals := 0 }
noncomputable def qb_X7_followersOf_46 (k5 : Int32 → Int32 → Me → Op) (w1 : Int32) (w2 : Int32) (w4 : Int32) (s0 : Int32) (M : Me) : Op :=
  rx_vv (w4 + 1) fun v1 => k5 s0 v1 M
noncomputable def qo_X7_followersOf_5  (w1 : Int32) (w2 : Int32) (rec : Int32 → Int32 → Me → Op) (w3 : Int32) (w4 : Int32) (M : Me) : Op :=
  rx_vv (M 0 9) fun v1 => if (8 * v1) ≤ w4 then (some (w3, M)) else (rx_ld M 15 192 w4 fun v2 => if v2 = w1 then (rx_ld M 11 192 w4 fun v3 => if v3 = w2 then (qb_X7_followersOf_46 rec w1 w2 w4 (w3 + 1) M) else (qb_X7_followersOf_46 rec w1 w2 w4 w3 M)) else (qb_X7_followersOf_46 rec w1 w2 w4 w3 M))
noncomputable def qf_X7_followersOf  (w1 : Int32) (w2 : Int32)  (M : Me) : Op :=
  rx_lp2 (qo_X7_followersOf_5 w1 w2) rx_FU 0 0 M
section
variable {p : Program} {l : Launch} {e : Env} {s : State} {m : MethodId} {args : Array Value} {below : List Frame} {meth : Method} {c : Code} {Q : State → Prop} {D : va_G} {A : Nat → Prop} {o : Int32 × Me} {ad : Nat → Nat} {cI cL : ClassId} {b1 b2 : Nat}
set_option maxRecDepth 100000 in
set_option maxHeartbeats 4000000 in
theorem qk_X7_followersOf_46 (cx : rx_C p m c cX7_followersOf 5 s args wX7_followersOf RX7 D vwCl (tY cI cL) [] wN A) (hret : rx_RI p l e rm_X7_followersOf s m args below meth c cX7_followersOf D vwCl (wY ad cI cL) A Q o) {w1 : Int32} {w2 : Int32} {w4 : Int32} {s0 : Int32} {k5 : Int32 → Int32 → Me → Op} (h5 : ∀ {a3 : Int32} {a4 : Int32} {ls : Array Slot} {H : Heap} {locs : List Loc} {M : Me}, rx_W D vwCl (wY ad cI cL) A s.heap M H locs → lv_has ls 5 [(0, .ref ((ad 0))), (1, .int w1), (2, .int w2), (3, .int a3), (4, .int a4)] → k5 a3 a4 M = some o → W p l e rm_X7_followersOf s m args below meth c H locs 0 0 Q (F0 m 5 ls [])) {ls : Array Slot} {H : Heap} {locs : List Loc} {M : Me} (hw : rx_W D vwCl (wY ad cI cL) A s.heap M H locs) (hl : lv_has ls 5 [(0, .ref ((ad 0))), (1, .int w1), (2, .int w2), (4, .int w4)]) (hf : qb_X7_followersOf_46 k5 w1 w2 w4 s0 M = some o) : W p l e rm_X7_followersOf s m args below meth c H locs 0 0 Q (F0 m 46 ls [.int s0]) := by
  have hx := cx.1.1
  have hb := cx.1.2.1
  refine lv_istore_n (lv' := [(3, .int s0), (0, .ref ((ad 0))), (1, .int w1), (2, .int w2), (4, .int w4)]) hx hb dX7_followersOf_46 rfl hl (Nat.le_of_ble_eq_true rfl) rfl (fun ls hl => ?_)
  obtain ⟨v1, ev1, hf⟩ := rx_vvI hf
  refine lv_iinc (lv' := [(4, .int v1), (3, .int s0), (0, .ref ((ad 0))), (1, .int w1), (2, .int w2)]) hx hb dX7_followersOf_47 hl (k := 4) rfl (rx_inc ic_1 ev1) (Nat.le_of_ble_eq_true rfl) rfl (fun ls hl => ?_)
  refine lv_goto hx hb dX7_followersOf_50 rfl ?_
  exact h5 hw (lv_sub hl [2, 3, 4, 1, 0] rfl) hf
set_option maxRecDepth 100000 in
set_option maxHeartbeats 4000000 in
theorem qk_X7_followersOf_5 (cx : rx_C p m c cX7_followersOf 5 s args wX7_followersOf RX7 D vwCl (tY cI cL) [] wN A) (hret : rx_RI p l e rm_X7_followersOf s m args below meth c cX7_followersOf D vwCl (wY ad cI cL) A Q o) {w1 : Int32} {w2 : Int32} : ∀ (n : Nat) {w3 : Int32} {w4 : Int32} {ls : Array Slot} {H : Heap} {locs : List Loc} {M : Me}, rx_W D vwCl (wY ad cI cL) A s.heap M H locs → lv_has ls 5 [(0, .ref ((ad 0))), (1, .int w1), (2, .int w2), (3, .int w3), (4, .int w4)] → rx_lp2 (qo_X7_followersOf_5 w1 w2) n w3 w4 M = some o → W p l e rm_X7_followersOf s m args below meth c H locs 0 0 Q (F0 m 5 ls []) := by
  have hx := cx.1.1
  have hb := cx.1.2.1
  intro n
  induction n with
  | zero => intro w3 w4 ls H locs M hw hl hf; exact rx_no hf
  | succ n ih =>
    intro w3 w4 ls H locs M hw hl hf
    have hf : qo_X7_followersOf_5 w1 w2 (rx_lp2 (qo_X7_followersOf_5 w1 w2) n) w3 w4 M = some o := hf
    refine lv_iload hx hb dX7_followersOf_5 (lv_at hl 4 rfl) ?_
    refine lv_bipush (v := 8) hx hb dX7_followersOf_7 ib_8 ?_
    refine lv_aload_n hx hb dX7_followersOf_9 rfl (lv_at hl 0 rfl) ?_
    obtain ⟨v1, ev1, hf⟩ := rx_vvI hf
    refine rx_geti cx hw (fiY_0_9 ad cI cL) rfl (inT_X7) (Nat.le_of_ble_eq_true rfl) (.tail _ tw_670) ev1 dX7_followersOf_10 ?_
    refine lv_imul hx hb dX7_followersOf_13 ?_
    refine lv_icmp_ge hx hb dX7_followersOf_14 rfl (fun hc => ?_) (fun hc => ?_)
    · have hf := rx_t hc hf
      refine lv_iload_n hx hb dX7_followersOf_53 rfl (lv_at hl 3 rfl) ?_
      exact rx_reti hret hw hf dX7_followersOf_54
    · have hf := rx_f hc hf
      refine lv_aload_n hx hb dX7_followersOf_17 rfl (lv_at hl 0 rfl) ?_
      refine rx_getr cx hw (frY_0_25 ad cI cL) rfl (inT_X7) (Nat.le_of_ble_eq_true rfl) (.tail _ tw_686) dX7_followersOf_18 ?_
      refine lv_iload hx hb dX7_followersOf_21 (lv_at hl 4 rfl) ?_
      obtain ⟨hv2, v2, ev2, hf⟩ := rx_ldI hf
      refine rx_iald cx hw (arY_15 ad cI cL) ⟨hv2, ev2⟩ dX7_followersOf_23 ?_
      refine lv_iload_n hx hb dX7_followersOf_24 rfl (lv_at hl 1 rfl) ?_
      refine lv_icmp_ne hx hb dX7_followersOf_25 rfl (fun hc => ?_) (fun hc => ?_)
      · have hf := rx_f hc hf
        refine lv_iload_n hx hb dX7_followersOf_45 rfl (lv_at hl 3 rfl) ?_
        exact (qk_X7_followersOf_46 cx hret ih) hw (lv_sub hl [0, 1, 2, 4] rfl) hf
      · have hf := rx_t hc hf
        refine lv_aload_n hx hb dX7_followersOf_28 rfl (lv_at hl 0 rfl) ?_
        refine rx_getr cx hw (frY_0_15 ad cI cL) rfl (inT_X7) (Nat.le_of_ble_eq_true rfl) (.tail _ tw_676) dX7_followersOf_29 ?_
        refine lv_iload hx hb dX7_followersOf_32 (lv_at hl 4 rfl) ?_
        obtain ⟨hv3, v3, ev3, hf⟩ := rx_ldI hf
        refine rx_iald cx hw (arY_11 ad cI cL) ⟨hv3, ev3⟩ dX7_followersOf_34 ?_
        refine lv_iload_n hx hb dX7_followersOf_35 rfl (lv_at hl 2 rfl) ?_
        refine lv_icmp_ne hx hb dX7_followersOf_36 rfl (fun hc => ?_) (fun hc => ?_)
        · have hf := rx_f hc hf
          refine lv_iload_n hx hb dX7_followersOf_45 rfl (lv_at hl 3 rfl) ?_
          exact (qk_X7_followersOf_46 cx hret ih) hw (lv_sub hl [0, 1, 2, 4] rfl) hf
        · have hf := rx_t hc hf
          refine lv_iload_n hx hb dX7_followersOf_39 rfl (lv_at hl 3 rfl) ?_
          refine lv_iconst (v := 1) hx hb dX7_followersOf_40 ic_1 ?_
          refine lv_iadd hx hb dX7_followersOf_41 ?_
          refine lv_goto hx hb dX7_followersOf_42 rfl ?_
          exact (qk_X7_followersOf_46 cx hret ih) hw (lv_sub hl [0, 1, 2, 4] rfl) hf
set_option maxRecDepth 100000 in
set_option maxHeartbeats 4000000 in
theorem qk_X7_followersOf_0 (cx : rx_C p m c cX7_followersOf 5 s args wX7_followersOf RX7 D vwCl (tY cI cL) [] wN A) (hret : rx_RI p l e rm_X7_followersOf s m args below meth c cX7_followersOf D vwCl (wY ad cI cL) A Q o) {w1 : Int32} {w2 : Int32} {ls : Array Slot} {H : Heap} {locs : List Loc} {M : Me} (hw : rx_W D vwCl (wY ad cI cL) A s.heap M H locs) (hl : lv_has ls 5 [(0, .ref ((ad 0))), (1, .int w1), (2, .int w2)]) (hf : qf_X7_followersOf w1 w2 M = some o) : W p l e rm_X7_followersOf s m args below meth c H locs 0 0 Q (F0 m 0 ls []) := by
  have hx := cx.1.1
  have hb := cx.1.2.1
  refine lv_iconst (v := 0) hx hb dX7_followersOf_0 ic_0 ?_
  refine lv_istore_n (lv' := [(3, .int 0), (0, .ref ((ad 0))), (1, .int w1), (2, .int w2)]) hx hb dX7_followersOf_1 rfl hl (Nat.le_of_ble_eq_true rfl) rfl (fun ls hl => ?_)
  refine lv_iconst (v := 0) hx hb dX7_followersOf_2 ic_0 ?_
  refine lv_istore (lv' := [(4, .int 0), (3, .int 0), (0, .ref ((ad 0))), (1, .int w1), (2, .int w2)]) hx hb dX7_followersOf_3 hl (Nat.le_of_ble_eq_true rfl) rfl (fun ls hl => ?_)
  exact (qk_X7_followersOf_5 cx hret rx_FU) hw (lv_sub hl [2, 3, 4, 1, 0] rfl) hf
end
set_option maxRecDepth 100000 in
theorem qc_X7_followersOf (l : Launch) (D : va_G) (ad : Nat → Nat) (cI cL : ClassId) (w1 : Int32) (w2 : Int32) : rx_MI l yX7_followersOf wX7_followersOf rm_X7_followersOf D vwCl (wY ad cI cL) (tY cI cL) [] wN [.ref (ad 0), .int w1, .int w2] (fun M => qf_X7_followersOf w1 w2 M) :=
  rx_ofI (by decide) rfl wN_ok (Nat.le_of_ble_eq_true rfl) (fun _ _ _ _ _ _ _ _ _ _ _ _ _ cx hret hw hl hf => qk_X7_followersOf_0 cx hret hw hl hf)

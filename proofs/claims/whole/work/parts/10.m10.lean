def rm_X7_draw : Room := { frames := 0, cells := 0, slots := 0, locals := 0 }
noncomputable def qf_X7_draw  (w1 : Int32)  (M : Me) : Op :=
  if w1 < 0 then (some ((-2), M)) else (rx_vv (M 0 0) fun v1 => if w1 < v1 then (rx_vv (M 0 5) fun v2 => if v2 = 24 then (some ((-3), M)) else (rx_vv (M 0 7) fun v3 => if v3 = 0 then (rx_vv (M 0 5) fun v4 => rx_sv M 5 24 v4 w1 fun M5 => rx_vv (M5 0 5) fun v6 => rx_vv (rx_st M5 0 5 (v6 + 1)) fun M7 => rx_vv (M7 0 5) fun v8 => some (v8, M7)) else (some ((-3), M)))) else (some ((-2), M)))
section
variable {p : Program} {l : Launch} {e : Env} {s : State} {m : MethodId} {args : Array Value} {below : List Frame} {meth : Method} {c : Code} {Q : State → Prop} {D : va_G} {A : Nat → Prop} {o : Int32 × Me} {ad : Nat → Nat} {cI cL : ClassId} {b1 b2 : Nat}
set_option maxRecDepth 100000 in
set_option maxHeartbeats 4000000 in
theorem qk_X7_draw_0 (cx : rx_C p m c cX7_draw 2 s args wX7_draw RX7 D vwCl (tY cI cL) [] wN A) (hret : rx_RI p l e rm_X7_draw s m args below meth c cX7_draw D vwCl (wY ad cI cL) A Q o) {w1 : Int32} {ls : Array Slot} {H : Heap} {locs : List Loc} {M : Me} (hw : rx_W D vwCl (wY ad cI cL) A s.heap M H locs) (hl : lv_has ls 2 [(0, .ref ((ad 0))), (1, .int w1)]) (hf : qf_X7_draw w1 M = some o) : W p l e rm_X7_draw s m args below meth c H locs 0 0 Q (F0 m 0 ls []) := by
  have hx := cx.1.1
  have hb := cx.1.2.1
  refine lv_iload_n hx hb dX7_draw_0 rfl (lv_at hl 1 rfl) ?_
  refine lv_if_lt hx hb dX7_draw_1 rfl (fun hc => ?_) (fun hc => ?_)
  · have hf := rx_t hc hf
    refine lv_bipush (v := (-2)) hx hb dX7_draw_12 ib_m2 ?_
    exact rx_reti hret hw hf dX7_draw_14
  · have hf := rx_f hc hf
    refine lv_iload_n hx hb dX7_draw_4 rfl (lv_at hl 1 rfl) ?_
    refine lv_aload_n hx hb dX7_draw_5 rfl (lv_at hl 0 rfl) ?_
    obtain ⟨v1, ev1, hf⟩ := rx_vvI hf
    refine rx_geti cx hw (fiY_0_0 ad cI cL) rfl (inT_X7) (Nat.le_of_ble_eq_true rfl) (.tail _ tw_661) ev1 dX7_draw_6 ?_
    refine lv_icmp_lt hx hb dX7_draw_9 rfl (fun hc => ?_) (fun hc => ?_)
    · have hf := rx_t hc hf
      refine lv_aload_n hx hb dX7_draw_15 rfl (lv_at hl 0 rfl) ?_
      obtain ⟨v2, ev2, hf⟩ := rx_vvI hf
      refine rx_geti cx hw (fiY_0_5 ad cI cL) rfl (inT_X7) (Nat.le_of_ble_eq_true rfl) (.tail _ tw_666) ev2 dX7_draw_16 ?_
      refine lv_bipush (v := 24) hx hb dX7_draw_19 ib_24 ?_
      refine lv_icmp_eq hx hb dX7_draw_21 rfl (fun hc => ?_) (fun hc => ?_)
      · have hf := rx_t hc hf
        refine lv_bipush (v := (-3)) hx hb dX7_draw_31 ib_m3 ?_
        exact rx_reti hret hw hf dX7_draw_33
      · have hf := rx_f hc hf
        refine lv_aload_n hx hb dX7_draw_24 rfl (lv_at hl 0 rfl) ?_
        obtain ⟨v3, ev3, hf⟩ := rx_vvI hf
        refine rx_geti cx hw (fiY_0_7 ad cI cL) rfl (inT_X7) (Nat.le_of_ble_eq_true rfl) (.tail _ tw_668) ev3 dX7_draw_25 ?_
        refine lv_if_eq hx hb dX7_draw_28 rfl (fun hc => ?_) (fun hc => ?_)
        · have hf := rx_t hc hf
          refine lv_aload_n hx hb dX7_draw_34 rfl (lv_at hl 0 rfl) ?_
          refine rx_getr cx hw (frY_0_6 ad cI cL) rfl (inT_X7) (Nat.le_of_ble_eq_true rfl) (.tail _ tw_667) dX7_draw_35 ?_
          refine lv_aload_n hx hb dX7_draw_38 rfl (lv_at hl 0 rfl) ?_
          obtain ⟨v4, ev4, hf⟩ := rx_vvI hf
          refine rx_geti cx hw (fiY_0_5 ad cI cL) rfl (inT_X7) (Nat.le_of_ble_eq_true rfl) (.tail _ tw_666) ev4 dX7_draw_39 ?_
          refine lv_iload_n hx hb dX7_draw_42 rfl (lv_at hl 1 rfl) ?_
          obtain ⟨hM5, M5, eM5, hf⟩ := rx_svI hf
          refine rx_iast cx hw (arY_5 ad cI cL) ⟨hM5, eM5⟩ dX7_draw_43 (fun H locs hw => ?_)
          refine lv_aload_n hx hb dX7_draw_44 rfl (lv_at hl 0 rfl) ?_
          refine lv_dup hx hb dX7_draw_45 rfl ?_
          obtain ⟨v6, ev6, hf⟩ := rx_vvI hf
          refine rx_geti cx hw (fiY_0_5 ad cI cL) rfl (inT_X7) (Nat.le_of_ble_eq_true rfl) (.tail _ tw_666) ev6 dX7_draw_46 ?_
          refine lv_iconst (v := 1) hx hb dX7_draw_49 ic_1 ?_
          refine lv_iadd hx hb dX7_draw_50 ?_
          obtain ⟨M7, eM7, hf⟩ := rx_vvI hf
          refine rx_puti cx hw (fiY_0_5 ad cI cL) rfl (inT_X7) tyX7 tyX7_ok nmX7 (Nat.le_of_ble_eq_true rfl) (.tail _ tw_666) rfl rfl rfl eM7 dX7_draw_51 (fun H locs hw => ?_)
          refine lv_aload_n hx hb dX7_draw_54 rfl (lv_at hl 0 rfl) ?_
          obtain ⟨v8, ev8, hf⟩ := rx_vvI hf
          refine rx_geti cx hw (fiY_0_5 ad cI cL) rfl (inT_X7) (Nat.le_of_ble_eq_true rfl) (.tail _ tw_666) ev8 dX7_draw_55 ?_
          exact rx_reti hret hw hf dX7_draw_58
        · have hf := rx_f hc hf
          refine lv_bipush (v := (-3)) hx hb dX7_draw_31 ib_m3 ?_
          exact rx_reti hret hw hf dX7_draw_33
    · have hf := rx_f hc hf
      refine lv_bipush (v := (-2)) hx hb dX7_draw_12 ib_m2 ?_
      exact rx_reti hret hw hf dX7_draw_14
end
set_option maxRecDepth 100000 in
theorem qc_X7_draw (l : Launch) (D : va_G) (ad : Nat → Nat) (cI cL : ClassId) (w1 : Int32) : rx_MI l yX7_draw wX7_draw rm_X7_draw D vwCl (wY ad cI cL) (tY cI cL) [] wN [.ref (ad 0), .int w1] (fun M => qf_X7_draw w1 M) :=
  rx_ofI (by decide) rfl wN_ok (Nat.le_of_ble_eq_true rfl) (fun _ _ _ _ _ _ _ _ _ _ _ _ _ cx hret hw hl hf => qk_X7_draw_0 cx hret hw hl hf)
def rm_X7_opposite : Room := { frames := 0, cells := 0, slots := 0, locals := 0 }
noncomputable def qb_X7_opposite_16  (w0 : Int32)  (M : Me) : Op :=
  some (8 - w0, M)
noncomputable def qb_X7_opposite_23  (w0 : Int32)  (M : Me) : Op :=
  some (14 - w0, M)
noncomputable def qf_X7_opposite  (w0 : Int32)  (M : Me) : Op :=
  if w0 < 3 then (qb_X7_opposite_16 w0 M) else (if w0 ≤ 5 then (qb_X7_opposite_23 w0 M) else (if 9 ≤ w0 then (qb_X7_opposite_23 w0 M) else (qb_X7_opposite_16 w0 M)))
section
variable {p : Program} {l : Launch} {e : Env} {s : State} {m : MethodId} {args : Array Value} {below : List Frame} {meth : Method} {c : Code} {Q : State → Prop} {D : va_G} {A : Nat → Prop} {o : Int32 × Me} {ad : Nat → Nat} {cI cL : ClassId} {b1 b2 : Nat}
set_option maxRecDepth 100000 in
set_option maxHeartbeats 4000000 in
theorem qk_X7_opposite_16 (cx : rx_C p m c cX7_opposite 1 s args wX7_opposite RX7 D vwCl (tY cI cL) [] wN A) (hret : rx_RI p l e rm_X7_opposite s m args below meth c cX7_opposite D vwCl (wY ad cI cL) A Q o) {w0 : Int32} {ls : Array Slot} {H : Heap} {locs : List Loc} {M : Me} (hw : rx_W D vwCl (wY ad cI cL) A s.heap M H locs) (hl : lv_has ls 1 [(0, .int w0)]) (hf : qb_X7_opposite_16 w0 M = some o) : W p l e rm_X7_opposite s m args below meth c H locs 0 0 Q (F0 m 16 ls []) := by
  have hx := cx.1.1
  have hb := cx.1.2.1
  refine lv_bipush (v := 8) hx hb dX7_opposite_16 ib_8 ?_
  refine lv_iload_n hx hb dX7_opposite_18 rfl (lv_at hl 0 rfl) ?_
  refine lv_isub hx hb dX7_opposite_19 ?_
  refine lv_goto hx hb dX7_opposite_20 rfl ?_
  exact rx_reti hret hw hf dX7_opposite_27
set_option maxRecDepth 100000 in
set_option maxHeartbeats 4000000 in
theorem qk_X7_opposite_23 (cx : rx_C p m c cX7_opposite 1 s args wX7_opposite RX7 D vwCl (tY cI cL) [] wN A) (hret : rx_RI p l e rm_X7_opposite s m args below meth c cX7_opposite D vwCl (wY ad cI cL) A Q o) {w0 : Int32} {ls : Array Slot} {H : Heap} {locs : List Loc} {M : Me} (hw : rx_W D vwCl (wY ad cI cL) A s.heap M H locs) (hl : lv_has ls 1 [(0, .int w0)]) (hf : qb_X7_opposite_23 w0 M = some o) : W p l e rm_X7_opposite s m args below meth c H locs 0 0 Q (F0 m 23 ls []) := by
  have hx := cx.1.1
  have hb := cx.1.2.1
  refine lv_bipush (v := 14) hx hb dX7_opposite_23 ib_14 ?_
  refine lv_iload_n hx hb dX7_opposite_25 rfl (lv_at hl 0 rfl) ?_
  refine lv_isub hx hb dX7_opposite_26 ?_
  exact rx_reti hret hw hf dX7_opposite_27
set_option maxRecDepth 100000 in
set_option maxHeartbeats 4000000 in
theorem qk_X7_opposite_0 (cx : rx_C p m c cX7_opposite 1 s args wX7_opposite RX7 D vwCl (tY cI cL) [] wN A) (hret : rx_RI p l e rm_X7_opposite s m args below meth c cX7_opposite D vwCl (wY ad cI cL) A Q o) {w0 : Int32} {ls : Array Slot} {H : Heap} {locs : List Loc} {M : Me} (hw : rx_W D vwCl (wY ad cI cL) A s.heap M H locs) (hl : lv_has ls 1 [(0, .int w0)]) (hf : qf_X7_opposite w0 M = some o) : W p l e rm_X7_opposite s m args below meth c H locs 0 0 Q (F0 m 0 ls []) := by
  have hx := cx.1.1
  have hb := cx.1.2.1
  refine lv_iload_n hx hb dX7_opposite_0 rfl (lv_at hl 0 rfl) ?_
  refine lv_iconst (v := 3) hx hb dX7_opposite_1 ic_3 ?_
  refine lv_icmp_lt hx hb dX7_opposite_2 rfl (fun hc => ?_) (fun hc => ?_)
  · have hf := rx_t hc hf
    exact (qk_X7_opposite_16 cx hret) hw hl hf
  · have hf := rx_f hc hf
    refine lv_iload_n hx hb dX7_opposite_5 rfl (lv_at hl 0 rfl) ?_
    refine lv_iconst (v := 5) hx hb dX7_opposite_6 ic_5 ?_
    refine lv_icmp_le hx hb dX7_opposite_7 rfl (fun hc => ?_) (fun hc => ?_)
    · have hf := rx_t hc hf
      exact (qk_X7_opposite_23 cx hret) hw hl hf
    · have hf := rx_f hc hf
      refine lv_iload_n hx hb dX7_opposite_10 rfl (lv_at hl 0 rfl) ?_
      refine lv_bipush (v := 9) hx hb dX7_opposite_11 ib_9 ?_
      refine lv_icmp_ge hx hb dX7_opposite_13 rfl (fun hc => ?_) (fun hc => ?_)
      · have hf := rx_t hc hf
        exact (qk_X7_opposite_23 cx hret) hw hl hf
      · have hf := rx_f hc hf
        exact (qk_X7_opposite_16 cx hret) hw hl hf
end
set_option maxRecDepth 100000 in
theorem qc_X7_opposite (l : Launch) (D : va_G) (ad : Nat → Nat) (cI cL : ClassId) (w0 : Int32) : rx_MI l yX7_opposite wX7_opposite rm_X7_opposite D vwCl (wY ad cI cL) (tY cI cL) [] wN [.int w0] (fun M => qf_X7_opposite w0 M) :=
  rx_ofI (by decide) rfl wN_ok (Nat.le_of_ble_eq_true rfl) (fun _ _ _ _ _ _ _ _ _ _ _ _ _ cx hret hw hl hf => qk_X7_opposite_0 cx hret hw hl hf)
def rm_X7_partAt : Room := { frames := 0, cells := 0, slots := 0, locals := 0 }
noncomputable def qf_X7_partAt  (w1 : Int32) (w2 : Int32) (w3 : Int32)  (M : Me) : Op :=
  rx_ld M 1 144 ((12 * w1) + (((w3 + 12) - (3 * w2)) - ((w3 + 12) - (3 * w2)) / 12 * 12)) fun v1 => some (v1, M)
section
variable {p : Program} {l : Launch} {e : Env} {s : State} {m : MethodId} {args : Array Value} {below : List Frame} {meth : Method} {c : Code} {Q : State → Prop} {D : va_G} {A : Nat → Prop} {o : Int32 × Me} {ad : Nat → Nat} {cI cL : ClassId} {b1 b2 : Nat}
set_option maxRecDepth 100000 in
set_option maxHeartbeats 4000000 in
theorem qk_X7_partAt_0 (cx : rx_C p m c cX7_partAt 4 s args wX7_partAt RX7 D vwCl (tY cI cL) [] wN A) (hret : rx_RI p l e rm_X7_partAt s m args below meth c cX7_partAt D vwCl (wY ad cI cL) A Q o) {w1 : Int32} {w2 : Int32} {w3 : Int32} {ls : Array Slot} {H : Heap} {locs : List Loc} {M : Me} (hw : rx_W D vwCl (wY ad cI cL) A s.heap M H locs) (hl : lv_has ls 4 [(0, .ref ((ad 0))), (1, .int w1), (2, .int w2), (3, .int w3)]) (hf : qf_X7_partAt w1 w2 w3 M = some o) : W p l e rm_X7_partAt s m args below meth c H locs 0 0 Q (F0 m 0 ls []) := by
  have hx := cx.1.1
  have hb := cx.1.2.1
  refine lv_aload_n hx hb dX7_partAt_0 rfl (lv_at hl 0 rfl) ?_
  refine rx_getr cx hw (frY_0_1 ad cI cL) rfl (inT_X7) (Nat.le_of_ble_eq_true rfl) (.tail _ tw_662) dX7_partAt_1 ?_
  refine lv_bipush (v := 12) hx hb dX7_partAt_4 ib_12 ?_
  refine lv_iload_n hx hb dX7_partAt_6 rfl (lv_at hl 1 rfl) ?_
  refine lv_imul hx hb dX7_partAt_7 ?_
  refine lv_iload_n hx hb dX7_partAt_8 rfl (lv_at hl 3 rfl) ?_
  refine lv_bipush (v := 12) hx hb dX7_partAt_9 ib_12 ?_
  refine lv_iadd hx hb dX7_partAt_11 ?_
  refine lv_iconst (v := 3) hx hb dX7_partAt_12 ic_3 ?_
  refine lv_iload_n hx hb dX7_partAt_13 rfl (lv_at hl 2 rfl) ?_
  refine lv_imul hx hb dX7_partAt_14 ?_
  refine lv_isub hx hb dX7_partAt_15 ?_
  refine lv_bipush (v := 12) hx hb dX7_partAt_16 ib_12 ?_
  refine lv_irem hx hb dX7_partAt_18 nz_12 ?_
  refine lv_iadd hx hb dX7_partAt_19 ?_
  obtain ⟨hv1, v1, ev1, hf⟩ := rx_ldI hf
  refine rx_iald cx hw (arY_1 ad cI cL) ⟨hv1, ev1⟩ dX7_partAt_20 ?_
  exact rx_reti hret hw hf dX7_partAt_21
end
set_option maxRecDepth 100000 in
theorem qc_X7_partAt (l : Launch) (D : va_G) (ad : Nat → Nat) (cI cL : ClassId) (w1 : Int32) (w2 : Int32) (w3 : Int32) : rx_MI l yX7_partAt wX7_partAt rm_X7_partAt D vwCl (wY ad cI cL) (tY cI cL) [] wN [.ref (ad 0), .int w1, .int w2, .int w3] (fun M => qf_X7_partAt w1 w2 w3 M) :=
  rx_ofI (by decide) rfl wN_ok (Nat.le_of_ble_eq_true rfl) (fun _ _ _ _ _ _ _ _ _ _ _ _ _ cx hret hw hl hf => qk_X7_partAt_0 cx hret hw hl hf)
def rm_X7_kindAt : Room := { frames := 1, cells := 0, slots := 0, locals := 23 }
noncomputable def qf_X7_kindAt  (w1 : Int32) (w2 : Int32)  (M : Me) : Op :=
  rx_ld M 8 24 w1 fun v1 => rx_ld M 8 24 w1 fun v2 => rx_ld M 9 24 w1 fun v3 => rx_cl (qf_X7_partAt v2 v3 w2 M) fun r4 M5 => rx_ld M5 2 96 ((8 * v1) + r4) fun v6 => some (v6, M5)
section
variable {p : Program} {l : Launch} {e : Env} {s : State} {m : MethodId} {args : Array Value} {below : List Frame} {meth : Method} {c : Code} {Q : State → Prop} {D : va_G} {A : Nat → Prop} {o : Int32 × Me} {ad : Nat → Nat} {cI cL : ClassId} {b1 b2 : Nat}
set_option maxRecDepth 100000 in
set_option maxHeartbeats 4000000 in
theorem qk_X7_kindAt_0 (cx : rx_C p m c cX7_kindAt 3 s args wX7_kindAt RX7 D vwCl (tY cI cL) [] wN A) (hret : rx_RI p l e rm_X7_kindAt s m args below meth c cX7_kindAt D vwCl (wY ad cI cL) A Q o) {w1 : Int32} {w2 : Int32} {ls : Array Slot} {H : Heap} {locs : List Loc} {M : Me} (hw : rx_W D vwCl (wY ad cI cL) A s.heap M H locs) (hl : lv_has ls 3 [(0, .ref ((ad 0))), (1, .int w1), (2, .int w2)]) (hf : qf_X7_kindAt w1 w2 M = some o) : W p l e rm_X7_kindAt s m args below meth c H locs 0 0 Q (F0 m 0 ls []) := by
  have hx := cx.1.1
  have hb := cx.1.2.1
  refine lv_aload_n hx hb dX7_kindAt_0 rfl (lv_at hl 0 rfl) ?_
  refine rx_getr cx hw (frY_0_2 ad cI cL) rfl (inT_X7) (Nat.le_of_ble_eq_true rfl) (.tail _ tw_663) dX7_kindAt_1 ?_
  refine lv_bipush (v := 8) hx hb dX7_kindAt_4 ib_8 ?_
  refine lv_aload_n hx hb dX7_kindAt_6 rfl (lv_at hl 0 rfl) ?_
  refine rx_getr cx hw (frY_0_12 ad cI cL) rfl (inT_X7) (Nat.le_of_ble_eq_true rfl) (.tail _ tw_673) dX7_kindAt_7 ?_
  refine lv_iload_n hx hb dX7_kindAt_10 rfl (lv_at hl 1 rfl) ?_
  obtain ⟨hv1, v1, ev1, hf⟩ := rx_ldI hf
  refine rx_iald cx hw (arY_8 ad cI cL) ⟨hv1, ev1⟩ dX7_kindAt_11 ?_
  refine lv_imul hx hb dX7_kindAt_12 ?_
  refine lv_aload_n hx hb dX7_kindAt_13 rfl (lv_at hl 0 rfl) ?_
  refine lv_aload_n hx hb dX7_kindAt_14 rfl (lv_at hl 0 rfl) ?_
  refine rx_getr cx hw (frY_0_12 ad cI cL) rfl (inT_X7) (Nat.le_of_ble_eq_true rfl) (.tail _ tw_673) dX7_kindAt_15 ?_
  refine lv_iload_n hx hb dX7_kindAt_18 rfl (lv_at hl 1 rfl) ?_
  obtain ⟨hv2, v2, ev2, hf⟩ := rx_ldI hf
  refine rx_iald cx hw (arY_8 ad cI cL) ⟨hv2, ev2⟩ dX7_kindAt_19 ?_
  refine lv_aload_n hx hb dX7_kindAt_20 rfl (lv_at hl 0 rfl) ?_
  refine rx_getr cx hw (frY_0_13 ad cI cL) rfl (inT_X7) (Nat.le_of_ble_eq_true rfl) (.tail _ tw_674) dX7_kindAt_21 ?_
  refine lv_iload_n hx hb dX7_kindAt_24 rfl (lv_at hl 1 rfl) ?_
  obtain ⟨hv3, v3, ev3, hf⟩ := rx_ldI hf
  refine rx_iald cx hw (arY_9 ad cI cL) ⟨hv3, ev3⟩ dX7_kindAt_25 ?_
  refine lv_iload_n hx hb dX7_kindAt_26 rfl (lv_at hl 2 rfl) ?_
  obtain ⟨r4, M5, er4, hf⟩ := rx_clI hf
  refine rx_jVi cx hw (qc_X7_partAt l D ad cI cL v2 v3 w2) (obY_0 ad cI cL) rfl rfl kfX7_partAt tw_829 ⟨Nat.le_of_ble_eq_true rfl, Nat.le_of_ble_eq_true rfl, rfl, rfl⟩ rfl hl.1 (Nat.le_of_ble_eq_true rfl) ⟨Nat.zero_le _, Nat.zero_le _⟩ dX7_kindAt_27 rfl er4 (fun H locs hw => ?_)
  refine lv_iadd hx hb dX7_kindAt_30 ?_
  obtain ⟨hv6, v6, ev6, hf⟩ := rx_ldI hf
  refine rx_iald cx hw (arY_2 ad cI cL) ⟨hv6, ev6⟩ dX7_kindAt_31 ?_
  exact rx_reti hret hw hf dX7_kindAt_32
end
set_option maxRecDepth 100000 in
theorem qc_X7_kindAt (l : Launch) (D : va_G) (ad : Nat → Nat) (cI cL : ClassId) (w1 : Int32) (w2 : Int32) : rx_MI l yX7_kindAt wX7_kindAt rm_X7_kindAt D vwCl (wY ad cI cL) (tY cI cL) [] wN [.ref (ad 0), .int w1, .int w2] (fun M => qf_X7_kindAt w1 w2 M) :=
  rx_ofI (by decide) rfl wN_ok (Nat.le_of_ble_eq_true rfl) (fun _ _ _ _ _ _ _ _ _ _ _ _ _ cx hret hw hl hf => qk_X7_kindAt_0 cx hret hw hl hf)
def rm_X7_isPlace : Room := { frames := 0, cells := 0, slots := 0, locals := 0 }
noncomputable def qf_X7_isPlace  (w0 : Int32) (w1 : Int32)  (M : Me) : Op :=
  if w0 < (-9) then (rx_zb 0 (some (0, M))) else (if 9 < w0 then (rx_zb 0 (some (0, M))) else (if w1 < (-9) then (rx_zb 0 (some (0, M))) else (if 9 < w1 then (rx_zb 0 (some (0, M))) else (rx_zb 1 (some (1, M))))))
section
variable {p : Program} {l : Launch} {e : Env} {s : State} {m : MethodId} {args : Array Value} {below : List Frame} {meth : Method} {c : Code} {Q : State → Prop} {D : va_G} {A : Nat → Prop} {o : Int32 × Me} {ad : Nat → Nat} {cI cL : ClassId} {b1 b2 : Nat}
set_option maxRecDepth 100000 in
set_option maxHeartbeats 4000000 in
theorem qk_X7_isPlace_0 (cx : rx_C p m c cX7_isPlace 2 s args wX7_isPlace RX7 D vwCl (tY cI cL) [] wN A) (hret : rx_RZ p l e rm_X7_isPlace s m args below meth c cX7_isPlace D vwCl (wY ad cI cL) A Q o) {w0 : Int32} {w1 : Int32} {ls : Array Slot} {H : Heap} {locs : List Loc} {M : Me} (hw : rx_W D vwCl (wY ad cI cL) A s.heap M H locs) (hl : lv_has ls 2 [(0, .int w0), (1, .int w1)]) (hf : qf_X7_isPlace w0 w1 M = some o) : W p l e rm_X7_isPlace s m args below meth c H locs 0 0 Q (F0 m 0 ls []) := by
  have hx := cx.1.1
  have hb := cx.1.2.1
  refine lv_iload_n hx hb dX7_isPlace_0 rfl (lv_at hl 0 rfl) ?_
  refine lv_bipush (v := (-9)) hx hb dX7_isPlace_1 ib_m9 ?_
  refine lv_icmp_lt hx hb dX7_isPlace_3 rfl (fun hc => ?_) (fun hc => ?_)
  · have hf := rx_t hc hf
    refine lv_iconst (v := 0) hx hb dX7_isPlace_28 ic_0 ?_
    exact rx_retz hret hw hf dX7_isPlace_29
  · have hf := rx_f hc hf
    refine lv_iload_n hx hb dX7_isPlace_6 rfl (lv_at hl 0 rfl) ?_
    refine lv_bipush (v := 9) hx hb dX7_isPlace_7 ib_9 ?_
    refine lv_icmp_gt hx hb dX7_isPlace_9 rfl (fun hc => ?_) (fun hc => ?_)
    · have hf := rx_t hc hf
      refine lv_iconst (v := 0) hx hb dX7_isPlace_28 ic_0 ?_
      exact rx_retz hret hw hf dX7_isPlace_29
    · have hf := rx_f hc hf
      refine lv_iload_n hx hb dX7_isPlace_12 rfl (lv_at hl 1 rfl) ?_
      refine lv_bipush (v := (-9)) hx hb dX7_isPlace_13 ib_m9 ?_
      refine lv_icmp_lt hx hb dX7_isPlace_15 rfl (fun hc => ?_) (fun hc => ?_)
      · have hf := rx_t hc hf
        refine lv_iconst (v := 0) hx hb dX7_isPlace_28 ic_0 ?_
        exact rx_retz hret hw hf dX7_isPlace_29
      · have hf := rx_f hc hf
        refine lv_iload_n hx hb dX7_isPlace_18 rfl (lv_at hl 1 rfl) ?_
        refine lv_bipush (v := 9) hx hb dX7_isPlace_19 ib_9 ?_
        refine lv_icmp_gt hx hb dX7_isPlace_21 rfl (fun hc => ?_) (fun hc => ?_)
        · have hf := rx_t hc hf
          refine lv_iconst (v := 0) hx hb dX7_isPlace_28 ic_0 ?_
          exact rx_retz hret hw hf dX7_isPlace_29
        · have hf := rx_f hc hf
          refine lv_iconst (v := 1) hx hb dX7_isPlace_24 ic_1 ?_
          refine lv_goto hx hb dX7_isPlace_25 rfl ?_
          exact rx_retz hret hw hf dX7_isPlace_29
end
set_option maxRecDepth 100000 in
theorem qc_X7_isPlace (l : Launch) (D : va_G) (ad : Nat → Nat) (cI cL : ClassId) (w0 : Int32) (w1 : Int32) : rx_MI l yX7_isPlace wX7_isPlace rm_X7_isPlace D vwCl (wY ad cI cL) (tY cI cL) [] wN [.int w0, .int w1] (fun M => qf_X7_isPlace w0 w1 M) :=
  rx_ofZ (by decide) rfl wN_ok (Nat.le_of_ble_eq_true rfl) (fun _ _ _ _ _ _ _ _ _ _ _ _ _ cx hret hw hl hf => qk_X7_isPlace_0 cx hret hw hl hf)
def rm_X7_tileAt : Room := { frames := 1, cells := 0, slots := 0, locals := 21 }
noncomputable def qf_X7_tileAt  (w1 : Int32) (w2 : Int32)  (M : Me) : Op :=
  rx_cl (qf_X7_isPlace w1 w2 M) fun r1 M2 => if r1 = 0 then (some ((-1), M2)) else (rx_ld M2 10 361 (((19 * w2) + w1) + 180) fun v3 => some (v3, M2))
section
variable {p : Program} {l : Launch} {e : Env} {s : State} {m : MethodId} {args : Array Value} {below : List Frame} {meth : Method} {c : Code} {Q : State → Prop} {D : va_G} {A : Nat → Prop} {o : Int32 × Me} {ad : Nat → Nat} {cI cL : ClassId} {b1 b2 : Nat}
set_option maxRecDepth 100000 in
set_option maxHeartbeats 4000000 in
theorem qk_X7_tileAt_0 (cx : rx_C p m c cX7_tileAt 3 s args wX7_tileAt RX7 D vwCl (tY cI cL) [] wN A) (hret : rx_RI p l e rm_X7_tileAt s m args below meth c cX7_tileAt D vwCl (wY ad cI cL) A Q o) {w1 : Int32} {w2 : Int32} {ls : Array Slot} {H : Heap} {locs : List Loc} {M : Me} (hw : rx_W D vwCl (wY ad cI cL) A s.heap M H locs) (hl : lv_has ls 3 [(0, .ref ((ad 0))), (1, .int w1), (2, .int w2)]) (hf : qf_X7_tileAt w1 w2 M = some o) : W p l e rm_X7_tileAt s m args below meth c H locs 0 0 Q (F0 m 0 ls []) := by
  have hx := cx.1.1
  have hb := cx.1.2.1
  refine lv_iload_n hx hb dX7_tileAt_0 rfl (lv_at hl 1 rfl) ?_
  refine lv_iload_n hx hb dX7_tileAt_1 rfl (lv_at hl 2 rfl) ?_
  obtain ⟨r1, M2, er1, hf⟩ := rx_clI hf
  refine rx_jSi cx hw (qc_X7_isPlace l D ad cI cL w1 w2) kfX7_isPlace tw_811 ⟨Nat.le_of_ble_eq_true rfl, Nat.le_of_ble_eq_true rfl, rfl, rfl⟩ rfl hl.1 (Nat.le_of_ble_eq_true rfl) ⟨Nat.zero_le _, Nat.zero_le _⟩ dX7_tileAt_2 rfl er1 (fun H locs hw => ?_)
  refine lv_if_eq hx hb dX7_tileAt_5 rfl (fun hc => ?_) (fun hc => ?_)
  · have hf := rx_t hc hf
    refine lv_iconst (v := (-1)) hx hb dX7_tileAt_26 ic_m1 ?_
    exact rx_reti hret hw hf dX7_tileAt_27
  · have hf := rx_f hc hf
    refine lv_aload_n hx hb dX7_tileAt_8 rfl (lv_at hl 0 rfl) ?_
    refine rx_getr cx hw (frY_0_14 ad cI cL) rfl (inT_X7) (Nat.le_of_ble_eq_true rfl) (.tail _ tw_675) dX7_tileAt_9 ?_
    refine lv_bipush (v := 19) hx hb dX7_tileAt_12 ib_19 ?_
    refine lv_iload_n hx hb dX7_tileAt_14 rfl (lv_at hl 2 rfl) ?_
    refine lv_imul hx hb dX7_tileAt_15 ?_
    refine lv_iload_n hx hb dX7_tileAt_16 rfl (lv_at hl 1 rfl) ?_
    refine lv_iadd hx hb dX7_tileAt_17 ?_
    refine lv_sipush (v := 180) hx hb dX7_tileAt_18 is_180 ?_
    refine lv_iadd hx hb dX7_tileAt_21 ?_
    obtain ⟨hv3, v3, ev3, hf⟩ := rx_ldI hf
    refine rx_iald cx hw (arY_10 ad cI cL) ⟨hv3, ev3⟩ dX7_tileAt_22 ?_
    refine lv_goto hx hb dX7_tileAt_23 rfl ?_
    exact rx_reti hret hw hf dX7_tileAt_27
end
set_option maxRecDepth 100000 in
theorem qc_X7_tileAt (l : Launch) (D : va_G) (ad : Nat → Nat) (cI cL : ClassId) (w1 : Int32) (w2 : Int32) : rx_MI l yX7_tileAt wX7_tileAt rm_X7_tileAt D vwCl (wY ad cI cL) (tY cI cL) [] wN [.ref (ad 0), .int w1, .int w2] (fun M => qf_X7_tileAt w1 w2 M) :=
  rx_ofI (by decide) rfl wN_ok (Nat.le_of_ble_eq_true rfl) (fun _ _ _ _ _ _ _ _ _ _ _ _ _ cx hret hw hl hf => qk_X7_tileAt_0 cx hret hw hl hf)
def rm_X7_beside : Room := { frames := 2, cells := 0, slots := 0, locals := 43 }
noncomputable def qb_X7_beside_55   (s0 : Int32) (s1 : Int32) (M : Me) : Op :=
  rx_cl (qf_X7_tileAt s1 s0 M) fun r1 M2 => some (r1, M2)
noncomputable def qb_X7_beside_31  (w2 : Int32) (w4 : Int32) (s0 : Int32) (M : Me) : Op :=
  if w4 = 0 then (qb_X7_beside_55 (w2 - 1) s0 M) else (if w4 = 2 then (qb_X7_beside_55 (w2 + 1) s0 M) else (qb_X7_beside_55 w2 s0 M))
noncomputable def qf_X7_beside  (w1 : Int32) (w2 : Int32) (w3 : Int32)  (M : Me) : Op :=
  rx_vv (w3 / 3) fun v1 => if v1 = 1 then (qb_X7_beside_31 w2 v1 (w1 + 1) M) else (if v1 = 3 then (qb_X7_beside_31 w2 v1 (w1 - 1) M) else (qb_X7_beside_31 w2 v1 w1 M))
section
variable {p : Program} {l : Launch} {e : Env} {s : State} {m : MethodId} {args : Array Value} {below : List Frame} {meth : Method} {c : Code} {Q : State → Prop} {D : va_G} {A : Nat → Prop} {o : Int32 × Me} {ad : Nat → Nat} {cI cL : ClassId} {b1 b2 : Nat}
set_option maxRecDepth 100000 in
set_option maxHeartbeats 4000000 in
theorem qk_X7_beside_55 (cx : rx_C p m c cX7_beside 5 s args wX7_beside RX7 D vwCl (tY cI cL) [] wN A) (hret : rx_RI p l e rm_X7_beside s m args below meth c cX7_beside D vwCl (wY ad cI cL) A Q o) {s0 : Int32} {s1 : Int32} {ls : Array Slot} {H : Heap} {locs : List Loc} {M : Me} (hw : rx_W D vwCl (wY ad cI cL) A s.heap M H locs) (hl : lv_has ls 5 []) (hf : qb_X7_beside_55 s0 s1 M = some o) : W p l e rm_X7_beside s m args below meth c H locs 0 0 Q (F0 m 55 ls [.int s0, .int s1, .ref ((ad 0))]) := by
  have hx := cx.1.1
  have hb := cx.1.2.1
  obtain ⟨r1, M2, er1, hf⟩ := rx_clI hf
  refine rx_jVi cx hw (qc_X7_tileAt l D ad cI cL s1 s0) (obY_0 ad cI cL) rfl rfl kfX7_tileAt tw_814 ⟨Nat.le_of_ble_eq_true rfl, Nat.le_of_ble_eq_true rfl, rfl, rfl⟩ rfl hl.1 (Nat.le_of_ble_eq_true rfl) ⟨Nat.zero_le _, Nat.zero_le _⟩ dX7_beside_55 rfl er1 (fun H locs hw => ?_)
  exact rx_reti hret hw hf dX7_beside_58
set_option maxRecDepth 100000 in
set_option maxHeartbeats 4000000 in
theorem qk_X7_beside_31 (cx : rx_C p m c cX7_beside 5 s args wX7_beside RX7 D vwCl (tY cI cL) [] wN A) (hret : rx_RI p l e rm_X7_beside s m args below meth c cX7_beside D vwCl (wY ad cI cL) A Q o) {w2 : Int32} {w4 : Int32} {s0 : Int32} {ls : Array Slot} {H : Heap} {locs : List Loc} {M : Me} (hw : rx_W D vwCl (wY ad cI cL) A s.heap M H locs) (hl : lv_has ls 5 [(2, .int w2), (4, .int w4)]) (hf : qb_X7_beside_31 w2 w4 s0 M = some o) : W p l e rm_X7_beside s m args below meth c H locs 0 0 Q (F0 m 31 ls [.int s0, .ref ((ad 0))]) := by
  have hx := cx.1.1
  have hb := cx.1.2.1
  refine lv_iload hx hb dX7_beside_31 (lv_at hl 1 rfl) ?_
  refine lv_if_ne hx hb dX7_beside_33 rfl (fun hc => ?_) (fun hc => ?_)
  · have hf := rx_f hc hf
    refine lv_iload hx hb dX7_beside_42 (lv_at hl 1 rfl) ?_
    refine lv_iconst (v := 2) hx hb dX7_beside_44 ic_2 ?_
    refine lv_icmp_ne hx hb dX7_beside_45 rfl (fun hc => ?_) (fun hc => ?_)
    · have hf := rx_f hc hf
      refine lv_iload_n hx hb dX7_beside_54 rfl (lv_at hl 0 rfl) ?_
      exact (qk_X7_beside_55 cx hret) hw (lv_sub hl [] rfl) hf
    · have hf := rx_t hc hf
      refine lv_iload_n hx hb dX7_beside_48 rfl (lv_at hl 0 rfl) ?_
      refine lv_iconst (v := 1) hx hb dX7_beside_49 ic_1 ?_
      refine lv_iadd hx hb dX7_beside_50 ?_
      refine lv_goto hx hb dX7_beside_51 rfl ?_
      exact (qk_X7_beside_55 cx hret) hw (lv_sub hl [] rfl) hf
  · have hf := rx_t hc hf
    refine lv_iload_n hx hb dX7_beside_36 rfl (lv_at hl 0 rfl) ?_
    refine lv_iconst (v := 1) hx hb dX7_beside_37 ic_1 ?_
    refine lv_isub hx hb dX7_beside_38 ?_
    refine lv_goto hx hb dX7_beside_39 rfl ?_
    exact (qk_X7_beside_55 cx hret) hw (lv_sub hl [] rfl) hf
set_option maxRecDepth 100000 in
set_option maxHeartbeats 4000000 in
theorem qk_X7_beside_0 (cx : rx_C p m c cX7_beside 5 s args wX7_beside RX7 D vwCl (tY cI cL) [] wN A) (hret : rx_RI p l e rm_X7_beside s m args below meth c cX7_beside D vwCl (wY ad cI cL) A Q o) {w1 : Int32} {w2 : Int32} {w3 : Int32} {ls : Array Slot} {H : Heap} {locs : List Loc} {M : Me} (hw : rx_W D vwCl (wY ad cI cL) A s.heap M H locs) (hl : lv_has ls 5 [(0, .ref ((ad 0))), (1, .int w1), (2, .int w2), (3, .int w3)]) (hf : qf_X7_beside w1 w2 w3 M = some o) : W p l e rm_X7_beside s m args below meth c H locs 0 0 Q (F0 m 0 ls []) := by
  have hx := cx.1.1
  have hb := cx.1.2.1
  refine lv_iload_n hx hb dX7_beside_0 rfl (lv_at hl 3 rfl) ?_
  refine lv_iconst (v := 3) hx hb dX7_beside_1 ic_3 ?_
  refine lv_idiv hx hb dX7_beside_2 nz_3 ?_
  obtain ⟨v1, ev1, hf⟩ := rx_vvI hf
  refine rx_top ev1 ?_
  refine lv_istore (lv' := [(4, .int v1), (0, .ref ((ad 0))), (1, .int w1), (2, .int w2), (3, .int w3)]) hx hb dX7_beside_3 hl (Nat.le_of_ble_eq_true rfl) rfl (fun ls hl => ?_)
  refine lv_aload_n hx hb dX7_beside_5 rfl (lv_at hl 1 rfl) ?_
  refine lv_iload hx hb dX7_beside_6 (lv_at hl 0 rfl) ?_
  refine lv_iconst (v := 1) hx hb dX7_beside_8 ic_1 ?_
  refine lv_icmp_ne hx hb dX7_beside_9 rfl (fun hc => ?_) (fun hc => ?_)
  · have hf := rx_f hc hf
    refine lv_iload hx hb dX7_beside_18 (lv_at hl 0 rfl) ?_
    refine lv_iconst (v := 3) hx hb dX7_beside_20 ic_3 ?_
    refine lv_icmp_ne hx hb dX7_beside_21 rfl (fun hc => ?_) (fun hc => ?_)
    · have hf := rx_f hc hf
      refine lv_iload_n hx hb dX7_beside_30 rfl (lv_at hl 2 rfl) ?_
      exact (qk_X7_beside_31 cx hret) hw (lv_sub hl [3, 0] rfl) hf
    · have hf := rx_t hc hf
      refine lv_iload_n hx hb dX7_beside_24 rfl (lv_at hl 2 rfl) ?_
      refine lv_iconst (v := 1) hx hb dX7_beside_25 ic_1 ?_
      refine lv_isub hx hb dX7_beside_26 ?_
      refine lv_goto hx hb dX7_beside_27 rfl ?_
      exact (qk_X7_beside_31 cx hret) hw (lv_sub hl [3, 0] rfl) hf
  · have hf := rx_t hc hf
    refine lv_iload_n hx hb dX7_beside_12 rfl (lv_at hl 2 rfl) ?_
    refine lv_iconst (v := 1) hx hb dX7_beside_13 ic_1 ?_
    refine lv_iadd hx hb dX7_beside_14 ?_
    refine lv_goto hx hb dX7_beside_15 rfl ?_
    exact (qk_X7_beside_31 cx hret) hw (lv_sub hl [3, 0] rfl) hf
end
set_option maxRecDepth 100000 in
theorem qc_X7_beside (l : Launch) (D : va_G) (ad : Nat → Nat) (cI cL : ClassId) (w1 : Int32) (w2 : Int32) (w3 : Int32) : rx_MI l yX7_beside wX7_beside rm_X7_beside D vwCl (wY ad cI cL) (tY cI cL) [] wN [.ref (ad 0), .int w1, .int w2, .int w3] (fun M => qf_X7_beside w1 w2 w3 M) :=
  rx_ofI (by decide) rfl wN_ok (Nat.le_of_ble_eq_true rfl) (fun _ _ _ _ _ _ _ _ _ _ _ _ _ cx hret hw hl hf => qk_X7_beside_0 cx hret hw hl hf)
def rm_X7_fitsAt : Room := { frames := 3, cells := 0, slots := 0, locals := 67 }
noncomputable def qb_X7_fitsAt_140 (k58 : Int32 → Int32 → Int32 → Me → Op) (w1 : Int32) (w2 : Int32) (w3 : Int32) (w4 : Int32) (w5 : Int32) (w7 : Int32) (s0 : Int32) (M : Me) : Op :=
  rx_vv (w7 + 1) fun v1 => k58 w5 s0 v1 M
noncomputable def qb_X7_fitsAt_90 (k58 : Int32 → Int32 → Int32 → Me → Op) (w1 : Int32) (w2 : Int32) (w3 : Int32) (w4 : Int32) (w6 : Int32) (w7 : Int32) (w8 : Int32) (s0 : Int32) (M : Me) : Op :=
  if w6 = 0 then (qb_X7_fitsAt_140 k58 w1 w2 w3 w4 s0 w7 0 M) else (if w8 < 0 then (qb_X7_fitsAt_140 k58 w1 w2 w3 w4 s0 w7 1 M) else (rx_cl (qf_X7_opposite w7 M) fun r1 M2 => rx_cl (qf_X7_kindAt w8 r1 M2) fun r3 M4 => rx_cl (qf_X7_partAt w1 w4 w7 M4) fun r5 M6 => rx_ld M6 2 96 ((8 * w1) + r5) fun v7 => if r3 = v7 then (qb_X7_fitsAt_140 k58 w1 w2 w3 w4 s0 w7 1 M6) else (qb_X7_fitsAt_140 k58 w1 w2 w3 w4 s0 w7 0 M6)))
noncomputable def qo_X7_fitsAt_58 (k148 : Int32 → Int32 → Me → Op) (w1 : Int32) (w2 : Int32) (w3 : Int32) (w4 : Int32) (rec : Int32 → Int32 → Int32 → Me → Op) (w5 : Int32) (w6 : Int32) (w7 : Int32) (M : Me) : Op :=
  if 12 ≤ w7 then (k148 w5 w6 M) else (rx_cl (qf_X7_beside w2 w3 w7 M) fun r1 M2 => if w5 = 0 then (if r1 < 0 then (qb_X7_fitsAt_90 rec w1 w2 w3 w4 w6 w7 r1 0 M2) else (qb_X7_fitsAt_90 rec w1 w2 w3 w4 w6 w7 r1 1 M2)) else (qb_X7_fitsAt_90 rec w1 w2 w3 w4 w6 w7 r1 1 M2))
noncomputable def qb_X7_fitsAt_148  (w5 : Int32) (w6 : Int32)  (M : Me) : Op :=
  if w5 = 0 then (rx_zb 0 (some (0, M))) else (if w6 = 0 then (rx_zb 0 (some (0, M))) else (rx_zb 1 (some (1, M))))
noncomputable def qb_X7_fitsAt_50  (w1 : Int32) (w2 : Int32) (w3 : Int32) (w4 : Int32) (s0 : Int32) (M : Me) : Op :=
  rx_lp3 (qo_X7_fitsAt_58 (fun a5 a6 M => qb_X7_fitsAt_148 a5 a6 M) w1 w2 w3 w4) rx_FU s0 1 0 M
noncomputable def qf_X7_fitsAt  (w1 : Int32) (w2 : Int32) (w3 : Int32) (w4 : Int32)  (M : Me) : Op :=
  rx_cl (qf_X7_isPlace w2 w3 M) fun r1 M2 => if r1 = 0 then (rx_zb 0 (some (0, M2))) else (if w4 < 0 then (rx_zb 0 (some (0, M2))) else (if 3 < w4 then (rx_zb 0 (some (0, M2))) else (rx_cl (qf_X7_tileAt w2 w3 M2) fun r3 M4 => if r3 < 0 then (rx_vv (M4 0 9) fun v5 => if v5 = 0 then (if w2 = 0 then (if w3 = 0 then (qb_X7_fitsAt_50 w1 w2 w3 w4 1 M4) else (qb_X7_fitsAt_50 w1 w2 w3 w4 0 M4)) else (qb_X7_fitsAt_50 w1 w2 w3 w4 0 M4)) else (qb_X7_fitsAt_50 w1 w2 w3 w4 0 M4)) else (rx_zb 0 (some (0, M4))))))
section
variable {p : Program} {l : Launch} {e : Env} {s : State} {m : MethodId} {args : Array Value} {below : List Frame} {meth : Method} {c : Code} {Q : State → Prop} {D : va_G} {A : Nat → Prop} {o : Int32 × Me} {ad : Nat → Nat} {cI cL : ClassId} {b1 b2 : Nat}
set_option maxRecDepth 100000 in
set_option maxHeartbeats 4000000 in
theorem qk_X7_fitsAt_140 (cx : rx_C p m c cX7_fitsAt 9 s args wX7_fitsAt RX7 D vwCl (tY cI cL) [] wN A) (hret : rx_RZ p l e rm_X7_fitsAt s m args below meth c cX7_fitsAt D vwCl (wY ad cI cL) A Q o) {w1 : Int32} {w2 : Int32} {w3 : Int32} {w4 : Int32} {w5 : Int32} {w7 : Int32} {s0 : Int32} {k58 : Int32 → Int32 → Int32 → Me → Op} (h58 : ∀ {a5 : Int32} {a6 : Int32} {a7 : Int32} {ls : Array Slot} {H : Heap} {locs : List Loc} {M : Me}, rx_W D vwCl (wY ad cI cL) A s.heap M H locs → lv_has ls 9 [(0, .ref ((ad 0))), (1, .int w1), (2, .int w2), (3, .int w3), (4, .int w4), (5, .int a5), (6, .int a6), (7, .int a7)] → k58 a5 a6 a7 M = some o → W p l e rm_X7_fitsAt s m args below meth c H locs 0 0 Q (F0 m 58 ls [])) {ls : Array Slot} {H : Heap} {locs : List Loc} {M : Me} (hw : rx_W D vwCl (wY ad cI cL) A s.heap M H locs) (hl : lv_has ls 9 [(0, .ref ((ad 0))), (1, .int w1), (2, .int w2), (3, .int w3), (4, .int w4), (5, .int w5), (7, .int w7)]) (hf : qb_X7_fitsAt_140 k58 w1 w2 w3 w4 w5 w7 s0 M = some o) : W p l e rm_X7_fitsAt s m args below meth c H locs 0 0 Q (F0 m 140 ls [.int s0]) := by
  have hx := cx.1.1
  have hb := cx.1.2.1
  refine lv_istore (lv' := [(6, .int s0), (0, .ref ((ad 0))), (1, .int w1), (2, .int w2), (3, .int w3), (4, .int w4), (5, .int w5), (7, .int w7)]) hx hb dX7_fitsAt_140 hl (Nat.le_of_ble_eq_true rfl) rfl (fun ls hl => ?_)
  obtain ⟨v1, ev1, hf⟩ := rx_vvI hf
  refine lv_iinc (lv' := [(7, .int v1), (6, .int s0), (0, .ref ((ad 0))), (1, .int w1), (2, .int w2), (3, .int w3), (4, .int w4), (5, .int w5)]) hx hb dX7_fitsAt_142 hl (k := 7) rfl (rx_inc ic_1 ev1) (Nat.le_of_ble_eq_true rfl) rfl (fun ls hl => ?_)
  refine lv_goto hx hb dX7_fitsAt_145 rfl ?_
  exact h58 hw (lv_sub hl [2, 3, 4, 5, 6, 7, 1, 0] rfl) hf
set_option maxRecDepth 100000 in
set_option maxHeartbeats 4000000 in
theorem qk_X7_fitsAt_90 (cx : rx_C p m c cX7_fitsAt 9 s args wX7_fitsAt RX7 D vwCl (tY cI cL) [] wN A) (hret : rx_RZ p l e rm_X7_fitsAt s m args below meth c cX7_fitsAt D vwCl (wY ad cI cL) A Q o) {w1 : Int32} {w2 : Int32} {w3 : Int32} {w4 : Int32} {w6 : Int32} {w7 : Int32} {w8 : Int32} {s0 : Int32} {k58 : Int32 → Int32 → Int32 → Me → Op} (h58 : ∀ {a5 : Int32} {a6 : Int32} {a7 : Int32} {ls : Array Slot} {H : Heap} {locs : List Loc} {M : Me}, rx_W D vwCl (wY ad cI cL) A s.heap M H locs → lv_has ls 9 [(0, .ref ((ad 0))), (1, .int w1), (2, .int w2), (3, .int w3), (4, .int w4), (5, .int a5), (6, .int a6), (7, .int a7)] → k58 a5 a6 a7 M = some o → W p l e rm_X7_fitsAt s m args below meth c H locs 0 0 Q (F0 m 58 ls [])) {ls : Array Slot} {H : Heap} {locs : List Loc} {M : Me} (hw : rx_W D vwCl (wY ad cI cL) A s.heap M H locs) (hl : lv_has ls 9 [(0, .ref ((ad 0))), (1, .int w1), (2, .int w2), (3, .int w3), (4, .int w4), (6, .int w6), (7, .int w7), (8, .int w8)]) (hf : qb_X7_fitsAt_90 k58 w1 w2 w3 w4 w6 w7 w8 s0 M = some o) : W p l e rm_X7_fitsAt s m args below meth c H locs 0 0 Q (F0 m 90 ls [.int s0]) := by
  have hx := cx.1.1
  have hb := cx.1.2.1
  refine lv_istore (lv' := [(5, .int s0), (0, .ref ((ad 0))), (1, .int w1), (2, .int w2), (3, .int w3), (4, .int w4), (6, .int w6), (7, .int w7), (8, .int w8)]) hx hb dX7_fitsAt_90 hl (Nat.le_of_ble_eq_true rfl) rfl (fun ls hl => ?_)
  refine lv_iload hx hb dX7_fitsAt_92 (lv_at hl 6 rfl) ?_
  refine lv_if_eq hx hb dX7_fitsAt_94 rfl (fun hc => ?_) (fun hc => ?_)
  · have hf := rx_t hc hf
    refine lv_iconst (v := 0) hx hb dX7_fitsAt_139 ic_0 ?_
    exact (qk_X7_fitsAt_140 cx hret h58) hw (lv_sub hl [1, 2, 3, 4, 5, 0, 7] rfl) hf
  · have hf := rx_f hc hf
    refine lv_iload hx hb dX7_fitsAt_97 (lv_at hl 8 rfl) ?_
    refine lv_if_lt hx hb dX7_fitsAt_99 rfl (fun hc => ?_) (fun hc => ?_)
    · have hf := rx_t hc hf
      refine lv_iconst (v := 1) hx hb dX7_fitsAt_135 ic_1 ?_
      refine lv_goto hx hb dX7_fitsAt_136 rfl ?_
      exact (qk_X7_fitsAt_140 cx hret h58) hw (lv_sub hl [1, 2, 3, 4, 5, 0, 7] rfl) hf
    · have hf := rx_f hc hf
      refine lv_aload_n hx hb dX7_fitsAt_102 rfl (lv_at hl 1 rfl) ?_
      refine lv_iload hx hb dX7_fitsAt_103 (lv_at hl 8 rfl) ?_
      refine lv_iload hx hb dX7_fitsAt_105 (lv_at hl 7 rfl) ?_
      obtain ⟨r1, M2, er1, hf⟩ := rx_clI hf
      refine rx_jSi cx hw (qc_X7_opposite l D ad cI cL w7) kfX7_opposite tw_822 ⟨Nat.le_of_ble_eq_true rfl, Nat.le_of_ble_eq_true rfl, rfl, rfl⟩ rfl hl.1 (Nat.le_of_ble_eq_true rfl) ⟨Nat.zero_le _, Nat.zero_le _⟩ dX7_fitsAt_107 rfl er1 (fun H locs hw => ?_)
      obtain ⟨r3, M4, er3, hf⟩ := rx_clI hf
      refine rx_jVi cx hw (qc_X7_kindAt l D ad cI cL w8 r1) (obY_0 ad cI cL) rfl rfl kfX7_kindAt tw_825 ⟨Nat.le_of_ble_eq_true rfl, Nat.le_of_ble_eq_true rfl, rfl, rfl⟩ rfl hl.1 (Nat.le_of_ble_eq_true rfl) ⟨Nat.zero_le _, Nat.zero_le _⟩ dX7_fitsAt_110 rfl er3 (fun H locs hw => ?_)
      refine lv_aload_n hx hb dX7_fitsAt_113 rfl (lv_at hl 1 rfl) ?_
      refine rx_getr cx hw (frY_0_2 ad cI cL) rfl (inT_X7) (Nat.le_of_ble_eq_true rfl) (.tail _ tw_663) dX7_fitsAt_114 ?_
      refine lv_bipush (v := 8) hx hb dX7_fitsAt_117 ib_8 ?_
      refine lv_iload_n hx hb dX7_fitsAt_119 rfl (lv_at hl 2 rfl) ?_
      refine lv_imul hx hb dX7_fitsAt_120 ?_
      refine lv_aload_n hx hb dX7_fitsAt_121 rfl (lv_at hl 1 rfl) ?_
      refine lv_iload_n hx hb dX7_fitsAt_122 rfl (lv_at hl 2 rfl) ?_
      refine lv_iload hx hb dX7_fitsAt_123 (lv_at hl 5 rfl) ?_
      refine lv_iload hx hb dX7_fitsAt_125 (lv_at hl 7 rfl) ?_
      obtain ⟨r5, M6, er5, hf⟩ := rx_clI hf
      refine rx_jVi cx hw (qc_X7_partAt l D ad cI cL w1 w4 w7) (obY_0 ad cI cL) rfl rfl kfX7_partAt tw_829 ⟨Nat.le_of_ble_eq_true rfl, Nat.le_of_ble_eq_true rfl, rfl, rfl⟩ rfl hl.1 (Nat.le_of_ble_eq_true rfl) ⟨Nat.zero_le _, Nat.zero_le _⟩ dX7_fitsAt_127 rfl er5 (fun H locs hw => ?_)
      refine lv_iadd hx hb dX7_fitsAt_130 ?_
      obtain ⟨hv7, v7, ev7, hf⟩ := rx_ldI hf
      refine rx_iald cx hw (arY_2 ad cI cL) ⟨hv7, ev7⟩ dX7_fitsAt_131 ?_
      refine lv_icmp_ne hx hb dX7_fitsAt_132 rfl (fun hc => ?_) (fun hc => ?_)
      · have hf := rx_f hc hf
        refine lv_iconst (v := 0) hx hb dX7_fitsAt_139 ic_0 ?_
        exact (qk_X7_fitsAt_140 cx hret h58) hw (lv_sub hl [1, 2, 3, 4, 5, 0, 7] rfl) hf
      · have hf := rx_t hc hf
        refine lv_iconst (v := 1) hx hb dX7_fitsAt_135 ic_1 ?_
        refine lv_goto hx hb dX7_fitsAt_136 rfl ?_
        exact (qk_X7_fitsAt_140 cx hret h58) hw (lv_sub hl [1, 2, 3, 4, 5, 0, 7] rfl) hf
set_option maxRecDepth 100000 in
set_option maxHeartbeats 4000000 in
theorem qk_X7_fitsAt_58 (cx : rx_C p m c cX7_fitsAt 9 s args wX7_fitsAt RX7 D vwCl (tY cI cL) [] wN A) (hret : rx_RZ p l e rm_X7_fitsAt s m args below meth c cX7_fitsAt D vwCl (wY ad cI cL) A Q o) {w1 : Int32} {w2 : Int32} {w3 : Int32} {w4 : Int32} {k148 : Int32 → Int32 → Me → Op} (h148 : ∀ {a5 : Int32} {a6 : Int32} {ls : Array Slot} {H : Heap} {locs : List Loc} {M : Me}, rx_W D vwCl (wY ad cI cL) A s.heap M H locs → lv_has ls 9 [(5, .int a5), (6, .int a6)] → k148 a5 a6 M = some o → W p l e rm_X7_fitsAt s m args below meth c H locs 0 0 Q (F0 m 148 ls [])) : ∀ (n : Nat) {w5 : Int32} {w6 : Int32} {w7 : Int32} {ls : Array Slot} {H : Heap} {locs : List Loc} {M : Me}, rx_W D vwCl (wY ad cI cL) A s.heap M H locs → lv_has ls 9 [(0, .ref ((ad 0))), (1, .int w1), (2, .int w2), (3, .int w3), (4, .int w4), (5, .int w5), (6, .int w6), (7, .int w7)] → rx_lp3 (qo_X7_fitsAt_58 k148 w1 w2 w3 w4) n w5 w6 w7 M = some o → W p l e rm_X7_fitsAt s m args below meth c H locs 0 0 Q (F0 m 58 ls []) := by
  have hx := cx.1.1
  have hb := cx.1.2.1
  intro n
  induction n with
  | zero => intro w5 w6 w7 ls H locs M hw hl hf; exact rx_no hf
  | succ n ih =>
    intro w5 w6 w7 ls H locs M hw hl hf
    have hf : qo_X7_fitsAt_58 k148 w1 w2 w3 w4 (rx_lp3 (qo_X7_fitsAt_58 k148 w1 w2 w3 w4) n) w5 w6 w7 M = some o := hf
    refine lv_iload hx hb dX7_fitsAt_58 (lv_at hl 7 rfl) ?_
    refine lv_bipush (v := 12) hx hb dX7_fitsAt_60 ib_12 ?_
    refine lv_icmp_ge hx hb dX7_fitsAt_62 rfl (fun hc => ?_) (fun hc => ?_)
    · have hf := rx_t hc hf
      exact h148 hw (lv_sub hl [5, 6] rfl) hf
    · have hf := rx_f hc hf
      refine lv_aload_n hx hb dX7_fitsAt_65 rfl (lv_at hl 0 rfl) ?_
      refine lv_iload_n hx hb dX7_fitsAt_66 rfl (lv_at hl 2 rfl) ?_
      refine lv_iload_n hx hb dX7_fitsAt_67 rfl (lv_at hl 3 rfl) ?_
      refine lv_iload hx hb dX7_fitsAt_68 (lv_at hl 7 rfl) ?_
      obtain ⟨r1, M2, er1, hf⟩ := rx_clI hf
      refine rx_jVi cx hw (qc_X7_beside l D ad cI cL w2 w3 w7) (obY_0 ad cI cL) rfl rfl kfX7_beside tw_818 ⟨Nat.le_of_ble_eq_true rfl, Nat.le_of_ble_eq_true rfl, rfl, rfl⟩ rfl hl.1 (Nat.le_of_ble_eq_true rfl) ⟨Nat.zero_le _, Nat.zero_le _⟩ dX7_fitsAt_70 rfl er1 (fun H locs hw => ?_)
      refine lv_istore (lv' := [(8, .int r1), (0, .ref ((ad 0))), (1, .int w1), (2, .int w2), (3, .int w3), (4, .int w4), (5, .int w5), (6, .int w6), (7, .int w7)]) hx hb dX7_fitsAt_73 hl (Nat.le_of_ble_eq_true rfl) rfl (fun ls hl => ?_)
      refine lv_iload hx hb dX7_fitsAt_75 (lv_at hl 6 rfl) ?_
      refine lv_if_ne hx hb dX7_fitsAt_77 rfl (fun hc => ?_) (fun hc => ?_)
      · have hf := rx_f hc hf
        refine lv_iconst (v := 1) hx hb dX7_fitsAt_85 ic_1 ?_
        refine lv_goto hx hb dX7_fitsAt_86 rfl ?_
        exact (qk_X7_fitsAt_90 cx hret ih) hw (lv_sub hl [1, 2, 3, 4, 5, 7, 8, 0] rfl) hf
      · have hf := rx_t hc hf
        refine lv_iload hx hb dX7_fitsAt_80 (lv_at hl 0 rfl) ?_
        refine lv_if_lt hx hb dX7_fitsAt_82 rfl (fun hc => ?_) (fun hc => ?_)
        · have hf := rx_t hc hf
          refine lv_iconst (v := 0) hx hb dX7_fitsAt_89 ic_0 ?_
          exact (qk_X7_fitsAt_90 cx hret ih) hw (lv_sub hl [1, 2, 3, 4, 5, 7, 8, 0] rfl) hf
        · have hf := rx_f hc hf
          refine lv_iconst (v := 1) hx hb dX7_fitsAt_85 ic_1 ?_
          refine lv_goto hx hb dX7_fitsAt_86 rfl ?_
          exact (qk_X7_fitsAt_90 cx hret ih) hw (lv_sub hl [1, 2, 3, 4, 5, 7, 8, 0] rfl) hf
set_option maxRecDepth 100000 in
set_option maxHeartbeats 4000000 in
theorem qk_X7_fitsAt_148 (cx : rx_C p m c cX7_fitsAt 9 s args wX7_fitsAt RX7 D vwCl (tY cI cL) [] wN A) (hret : rx_RZ p l e rm_X7_fitsAt s m args below meth c cX7_fitsAt D vwCl (wY ad cI cL) A Q o) {w5 : Int32} {w6 : Int32} {ls : Array Slot} {H : Heap} {locs : List Loc} {M : Me} (hw : rx_W D vwCl (wY ad cI cL) A s.heap M H locs) (hl : lv_has ls 9 [(5, .int w5), (6, .int w6)]) (hf : qb_X7_fitsAt_148 w5 w6 M = some o) : W p l e rm_X7_fitsAt s m args below meth c H locs 0 0 Q (F0 m 148 ls []) := by
  have hx := cx.1.1
  have hb := cx.1.2.1
  refine lv_iload hx hb dX7_fitsAt_148 (lv_at hl 0 rfl) ?_
  refine lv_if_eq hx hb dX7_fitsAt_150 rfl (fun hc => ?_) (fun hc => ?_)
  · have hf := rx_t hc hf
    refine lv_iconst (v := 0) hx hb dX7_fitsAt_162 ic_0 ?_
    exact rx_retz hret hw hf dX7_fitsAt_163
  · have hf := rx_f hc hf
    refine lv_iload hx hb dX7_fitsAt_153 (lv_at hl 1 rfl) ?_
    refine lv_if_eq hx hb dX7_fitsAt_155 rfl (fun hc => ?_) (fun hc => ?_)
    · have hf := rx_t hc hf
      refine lv_iconst (v := 0) hx hb dX7_fitsAt_162 ic_0 ?_
      exact rx_retz hret hw hf dX7_fitsAt_163
    · have hf := rx_f hc hf
      refine lv_iconst (v := 1) hx hb dX7_fitsAt_158 ic_1 ?_
      refine lv_goto hx hb dX7_fitsAt_159 rfl ?_
      exact rx_retz hret hw hf dX7_fitsAt_163
set_option maxRecDepth 100000 in
set_option maxHeartbeats 4000000 in
theorem qk_X7_fitsAt_50 (cx : rx_C p m c cX7_fitsAt 9 s args wX7_fitsAt RX7 D vwCl (tY cI cL) [] wN A) (hret : rx_RZ p l e rm_X7_fitsAt s m args below meth c cX7_fitsAt D vwCl (wY ad cI cL) A Q o) {w1 : Int32} {w2 : Int32} {w3 : Int32} {w4 : Int32} {s0 : Int32} {ls : Array Slot} {H : Heap} {locs : List Loc} {M : Me} (hw : rx_W D vwCl (wY ad cI cL) A s.heap M H locs) (hl : lv_has ls 9 [(0, .ref ((ad 0))), (1, .int w1), (2, .int w2), (3, .int w3), (4, .int w4)]) (hf : qb_X7_fitsAt_50 w1 w2 w3 w4 s0 M = some o) : W p l e rm_X7_fitsAt s m args below meth c H locs 0 0 Q (F0 m 50 ls [.int s0]) := by
  have hx := cx.1.1
  have hb := cx.1.2.1
  refine lv_istore (lv' := [(5, .int s0), (0, .ref ((ad 0))), (1, .int w1), (2, .int w2), (3, .int w3), (4, .int w4)]) hx hb dX7_fitsAt_50 hl (Nat.le_of_ble_eq_true rfl) rfl (fun ls hl => ?_)
  refine lv_iconst (v := 1) hx hb dX7_fitsAt_52 ic_1 ?_
  refine lv_istore (lv' := [(6, .int 1), (5, .int s0), (0, .ref ((ad 0))), (1, .int w1), (2, .int w2), (3, .int w3), (4, .int w4)]) hx hb dX7_fitsAt_53 hl (Nat.le_of_ble_eq_true rfl) rfl (fun ls hl => ?_)
  refine lv_iconst (v := 0) hx hb dX7_fitsAt_55 ic_0 ?_
  refine lv_istore (lv' := [(7, .int 0), (6, .int 1), (5, .int s0), (0, .ref ((ad 0))), (1, .int w1), (2, .int w2), (3, .int w3), (4, .int w4)]) hx hb dX7_fitsAt_56 hl (Nat.le_of_ble_eq_true rfl) rfl (fun ls hl => ?_)
  exact (qk_X7_fitsAt_58 cx hret (qk_X7_fitsAt_148 cx hret) rx_FU) hw (lv_sub hl [3, 4, 5, 6, 7, 2, 1, 0] rfl) hf
set_option maxRecDepth 100000 in
set_option maxHeartbeats 4000000 in
theorem qk_X7_fitsAt_0 (cx : rx_C p m c cX7_fitsAt 9 s args wX7_fitsAt RX7 D vwCl (tY cI cL) [] wN A) (hret : rx_RZ p l e rm_X7_fitsAt s m args below meth c cX7_fitsAt D vwCl (wY ad cI cL) A Q o) {w1 : Int32} {w2 : Int32} {w3 : Int32} {w4 : Int32} {ls : Array Slot} {H : Heap} {locs : List Loc} {M : Me} (hw : rx_W D vwCl (wY ad cI cL) A s.heap M H locs) (hl : lv_has ls 9 [(0, .ref ((ad 0))), (1, .int w1), (2, .int w2), (3, .int w3), (4, .int w4)]) (hf : qf_X7_fitsAt w1 w2 w3 w4 M = some o) : W p l e rm_X7_fitsAt s m args below meth c H locs 0 0 Q (F0 m 0 ls []) := by
  have hx := cx.1.1
  have hb := cx.1.2.1
  refine lv_iload_n hx hb dX7_fitsAt_0 rfl (lv_at hl 2 rfl) ?_
  refine lv_iload_n hx hb dX7_fitsAt_1 rfl (lv_at hl 3 rfl) ?_
  obtain ⟨r1, M2, er1, hf⟩ := rx_clI hf
  refine rx_jSi cx hw (qc_X7_isPlace l D ad cI cL w2 w3) kfX7_isPlace tw_811 ⟨Nat.le_of_ble_eq_true rfl, Nat.le_of_ble_eq_true rfl, rfl, rfl⟩ rfl hl.1 (Nat.le_of_ble_eq_true rfl) ⟨Nat.zero_le _, Nat.zero_le _⟩ dX7_fitsAt_2 rfl er1 (fun H locs hw => ?_)
  refine lv_if_eq hx hb dX7_fitsAt_5 rfl (fun hc => ?_) (fun hc => ?_)
  · have hf := rx_t hc hf
    refine lv_iconst (v := 0) hx hb dX7_fitsAt_28 ic_0 ?_
    exact rx_retz hret hw hf dX7_fitsAt_29
  · have hf := rx_f hc hf
    refine lv_iload hx hb dX7_fitsAt_8 (lv_at hl 4 rfl) ?_
    refine lv_if_lt hx hb dX7_fitsAt_10 rfl (fun hc => ?_) (fun hc => ?_)
    · have hf := rx_t hc hf
      refine lv_iconst (v := 0) hx hb dX7_fitsAt_28 ic_0 ?_
      exact rx_retz hret hw hf dX7_fitsAt_29
    · have hf := rx_f hc hf
      refine lv_iload hx hb dX7_fitsAt_13 (lv_at hl 4 rfl) ?_
      refine lv_iconst (v := 3) hx hb dX7_fitsAt_15 ic_3 ?_
      refine lv_icmp_gt hx hb dX7_fitsAt_16 rfl (fun hc => ?_) (fun hc => ?_)
      · have hf := rx_t hc hf
        refine lv_iconst (v := 0) hx hb dX7_fitsAt_28 ic_0 ?_
        exact rx_retz hret hw hf dX7_fitsAt_29
      · have hf := rx_f hc hf
        refine lv_aload_n hx hb dX7_fitsAt_19 rfl (lv_at hl 0 rfl) ?_
        refine lv_iload_n hx hb dX7_fitsAt_20 rfl (lv_at hl 2 rfl) ?_
        refine lv_iload_n hx hb dX7_fitsAt_21 rfl (lv_at hl 3 rfl) ?_
        obtain ⟨r3, M4, er3, hf⟩ := rx_clI hf
        refine rx_jVi cx hw (qc_X7_tileAt l D ad cI cL w2 w3) (obY_0 ad cI cL) rfl rfl kfX7_tileAt tw_814 ⟨Nat.le_of_ble_eq_true rfl, Nat.le_of_ble_eq_true rfl, rfl, rfl⟩ rfl hl.1 (Nat.le_of_ble_eq_true rfl) ⟨Nat.zero_le _, Nat.zero_le _⟩ dX7_fitsAt_22 rfl er3 (fun H locs hw => ?_)
        refine lv_if_lt hx hb dX7_fitsAt_25 rfl (fun hc => ?_) (fun hc => ?_)
        · have hf := rx_t hc hf
          refine lv_aload_n hx hb dX7_fitsAt_30 rfl (lv_at hl 0 rfl) ?_
          obtain ⟨v5, ev5, hf⟩ := rx_vvI hf
          refine rx_geti cx hw (fiY_0_9 ad cI cL) rfl (inT_X7) (Nat.le_of_ble_eq_true rfl) (.tail _ tw_670) ev5 dX7_fitsAt_31 ?_
          refine lv_if_ne hx hb dX7_fitsAt_34 rfl (fun hc => ?_) (fun hc => ?_)
          · have hf := rx_f hc hf
            refine lv_iconst (v := 0) hx hb dX7_fitsAt_49 ic_0 ?_
            exact (qk_X7_fitsAt_50 cx hret) hw hl hf
          · have hf := rx_t hc hf
            refine lv_iload_n hx hb dX7_fitsAt_37 rfl (lv_at hl 2 rfl) ?_
            refine lv_if_ne hx hb dX7_fitsAt_38 rfl (fun hc => ?_) (fun hc => ?_)
            · have hf := rx_f hc hf
              refine lv_iconst (v := 0) hx hb dX7_fitsAt_49 ic_0 ?_
              exact (qk_X7_fitsAt_50 cx hret) hw hl hf
            · have hf := rx_t hc hf
              refine lv_iload_n hx hb dX7_fitsAt_41 rfl (lv_at hl 3 rfl) ?_
              refine lv_if_ne hx hb dX7_fitsAt_42 rfl (fun hc => ?_) (fun hc => ?_)
              · have hf := rx_f hc hf
                refine lv_iconst (v := 0) hx hb dX7_fitsAt_49 ic_0 ?_
                exact (qk_X7_fitsAt_50 cx hret) hw hl hf
              · have hf := rx_t hc hf
                refine lv_iconst (v := 1) hx hb dX7_fitsAt_45 ic_1 ?_
                refine lv_goto hx hb dX7_fitsAt_46 rfl ?_
                exact (qk_X7_fitsAt_50 cx hret) hw hl hf
        · have hf := rx_f hc hf
          refine lv_iconst (v := 0) hx hb dX7_fitsAt_28 ic_0 ?_
          exact rx_retz hret hw hf dX7_fitsAt_29
end
set_option maxRecDepth 100000 in
theorem qc_X7_fitsAt (l : Launch) (D : va_G) (ad : Nat → Nat) (cI cL : ClassId) (w1 : Int32) (w2 : Int32) (w3 : Int32) (w4 : Int32) : rx_MI l yX7_fitsAt wX7_fitsAt rm_X7_fitsAt D vwCl (wY ad cI cL) (tY cI cL) [] wN [.ref (ad 0), .int w1, .int w2, .int w3, .int w4] (fun M => qf_X7_fitsAt w1 w2 w3 w4 M) :=
  rx_ofZ (by decide) rfl wN_ok (Nat.le_of_ble_eq_true rfl) (fun _ _ _ _ _ _ _ _ _ _ _ _ _ cx hret hw hl hf => qk_X7_fitsAt_0 cx hret hw hl hf)
def rm_X7_fitting : Room := { frames := 4, cells := 0, slots := 0, locals := 95 }
noncomputable def qb_X7_fitting_53 (k5 : Int32 → Int32 → Me → Op) (w1 : Int32) (w3 : Int32) (w4 : Int32)  (M : Me) : Op :=
  rx_vv (w4 + 1) fun v1 => k5 w3 v1 M
noncomputable def qo_X7_fitting_5  (w1 : Int32) (rec : Int32 → Int32 → Me → Op) (w3 : Int32) (w4 : Int32) (M : Me) : Op :=
  if 1444 ≤ w4 then (some ((-1), M)) else (rx_cl (qf_X7_fitsAt w1 (((w4 / 4) - (w4 / 4) / 19 * 19) - 9) ((w4 / 76) - 9) (w4 - w4 / 4 * 4) M) fun r1 M2 => if r1 = 0 then (qb_X7_fitting_53 rec w1 w3 w4 M2) else (if w3 = 0 then (some (w4, M2)) else (rx_vv (w3 + (-1)) fun v3 => qb_X7_fitting_53 rec w1 v3 w4 M2)))
noncomputable def qf_X7_fitting  (w1 : Int32) (w2 : Int32)  (M : Me) : Op :=
  rx_lp2 (qo_X7_fitting_5 w1) rx_FU w2 0 M
section
variable {p : Program} {l : Launch} {e : Env} {s : State} {m : MethodId} {args : Array Value} {below : List Frame} {meth : Method} {c : Code} {Q : State → Prop} {D : va_G} {A : Nat → Prop} {o : Int32 × Me} {ad : Nat → Nat} {cI cL : ClassId} {b1 b2 : Nat}
set_option maxRecDepth 100000 in
set_option maxHeartbeats 4000000 in
theorem qk_X7_fitting_53 (cx : rx_C p m c cX7_fitting 5 s args wX7_fitting RX7 D vwCl (tY cI cL) [] wN A) (hret : rx_RI p l e rm_X7_fitting s m args below meth c cX7_fitting D vwCl (wY ad cI cL) A Q o) {w1 : Int32} {w3 : Int32} {w4 : Int32} {k5 : Int32 → Int32 → Me → Op} (h5 : ∀ {a3 : Int32} {a4 : Int32} {ls : Array Slot} {H : Heap} {locs : List Loc} {M : Me}, rx_W D vwCl (wY ad cI cL) A s.heap M H locs → lv_has ls 5 [(0, .ref ((ad 0))), (1, .int w1), (3, .int a3), (4, .int a4)] → k5 a3 a4 M = some o → W p l e rm_X7_fitting s m args below meth c H locs 0 0 Q (F0 m 5 ls [])) {ls : Array Slot} {H : Heap} {locs : List Loc} {M : Me} (hw : rx_W D vwCl (wY ad cI cL) A s.heap M H locs) (hl : lv_has ls 5 [(0, .ref ((ad 0))), (1, .int w1), (3, .int w3), (4, .int w4)]) (hf : qb_X7_fitting_53 k5 w1 w3 w4 M = some o) : W p l e rm_X7_fitting s m args below meth c H locs 0 0 Q (F0 m 53 ls []) := by
  have hx := cx.1.1
  have hb := cx.1.2.1
  obtain ⟨v1, ev1, hf⟩ := rx_vvI hf
  refine lv_iinc (lv' := [(4, .int v1), (0, .ref ((ad 0))), (1, .int w1), (3, .int w3)]) hx hb dX7_fitting_53 hl (k := 3) rfl (rx_inc ic_1 ev1) (Nat.le_of_ble_eq_true rfl) rfl (fun ls hl => ?_)
  refine lv_goto hx hb dX7_fitting_56 rfl ?_
  exact h5 hw (lv_sub hl [1, 2, 3, 0] rfl) hf
set_option maxRecDepth 100000 in
set_option maxHeartbeats 4000000 in
theorem qk_X7_fitting_5 (cx : rx_C p m c cX7_fitting 5 s args wX7_fitting RX7 D vwCl (tY cI cL) [] wN A) (hret : rx_RI p l e rm_X7_fitting s m args below meth c cX7_fitting D vwCl (wY ad cI cL) A Q o) {w1 : Int32} : ∀ (n : Nat) {w3 : Int32} {w4 : Int32} {ls : Array Slot} {H : Heap} {locs : List Loc} {M : Me}, rx_W D vwCl (wY ad cI cL) A s.heap M H locs → lv_has ls 5 [(0, .ref ((ad 0))), (1, .int w1), (3, .int w3), (4, .int w4)] → rx_lp2 (qo_X7_fitting_5 w1) n w3 w4 M = some o → W p l e rm_X7_fitting s m args below meth c H locs 0 0 Q (F0 m 5 ls []) := by
  have hx := cx.1.1
  have hb := cx.1.2.1
  intro n
  induction n with
  | zero => intro w3 w4 ls H locs M hw hl hf; exact rx_no hf
  | succ n ih =>
    intro w3 w4 ls H locs M hw hl hf
    have hf : qo_X7_fitting_5 w1 (rx_lp2 (qo_X7_fitting_5 w1) n) w3 w4 M = some o := hf
    refine lv_iload hx hb dX7_fitting_5 (lv_at hl 3 rfl) ?_
    refine lv_sipush (v := 1444) hx hb dX7_fitting_7 is_1444 ?_
    refine lv_icmp_ge hx hb dX7_fitting_10 rfl (fun hc => ?_) (fun hc => ?_)
    · have hf := rx_t hc hf
      refine lv_iconst (v := (-1)) hx hb dX7_fitting_59 ic_m1 ?_
      exact rx_reti hret hw hf dX7_fitting_60
    · have hf := rx_f hc hf
      refine lv_aload_n hx hb dX7_fitting_13 rfl (lv_at hl 0 rfl) ?_
      refine lv_iload_n hx hb dX7_fitting_14 rfl (lv_at hl 1 rfl) ?_
      refine lv_iload hx hb dX7_fitting_15 (lv_at hl 3 rfl) ?_
      refine lv_iconst (v := 4) hx hb dX7_fitting_17 ic_4 ?_
      refine lv_idiv hx hb dX7_fitting_18 nz_4 ?_
      refine lv_bipush (v := 19) hx hb dX7_fitting_19 ib_19 ?_
      refine lv_irem hx hb dX7_fitting_21 nz_19 ?_
      refine lv_bipush (v := 9) hx hb dX7_fitting_22 ib_9 ?_
      refine lv_isub hx hb dX7_fitting_24 ?_
      refine lv_iload hx hb dX7_fitting_25 (lv_at hl 3 rfl) ?_
      refine lv_bipush (v := 76) hx hb dX7_fitting_27 ib_76 ?_
      refine lv_idiv hx hb dX7_fitting_29 nz_76 ?_
      refine lv_bipush (v := 9) hx hb dX7_fitting_30 ib_9 ?_
      refine lv_isub hx hb dX7_fitting_32 ?_
      refine lv_iload hx hb dX7_fitting_33 (lv_at hl 3 rfl) ?_
      refine lv_iconst (v := 4) hx hb dX7_fitting_35 ic_4 ?_
      refine lv_irem hx hb dX7_fitting_36 nz_4 ?_
      obtain ⟨r1, M2, er1, hf⟩ := rx_clI hf
      refine rx_jVi cx hw (qc_X7_fitsAt l D ad cI cL w1 (((w4 / 4) - (w4 / 4) / 19 * 19) - 9) ((w4 / 76) - 9) (w4 - w4 / 4 * 4)) (obY_0 ad cI cL) rfl rfl kfX7_fitsAt tw_807 ⟨Nat.le_of_ble_eq_true rfl, Nat.le_of_ble_eq_true rfl, rfl, rfl⟩ rfl hl.1 (Nat.le_of_ble_eq_true rfl) ⟨Nat.zero_le _, Nat.zero_le _⟩ dX7_fitting_37 rfl er1 (fun H locs hw => ?_)
      refine lv_if_eq hx hb dX7_fitting_40 rfl (fun hc => ?_) (fun hc => ?_)
      · have hf := rx_t hc hf
        exact (qk_X7_fitting_53 cx hret ih) hw hl hf
      · have hf := rx_f hc hf
        refine lv_iload_n hx hb dX7_fitting_43 rfl (lv_at hl 2 rfl) ?_
        refine lv_if_ne hx hb dX7_fitting_44 rfl (fun hc => ?_) (fun hc => ?_)
        · have hf := rx_f hc hf
          obtain ⟨v3, ev3, hf⟩ := rx_vvI hf
          refine lv_iinc (lv' := [(3, .int v3), (0, .ref ((ad 0))), (1, .int w1), (4, .int w4)]) hx hb dX7_fitting_50 hl (k := 2) rfl (rx_inc ic_m1 ev3) (Nat.le_of_ble_eq_true rfl) rfl (fun ls hl => ?_)
          exact (qk_X7_fitting_53 cx hret ih) hw (lv_sub hl [1, 2, 0, 3] rfl) hf
        · have hf := rx_t hc hf
          refine lv_iload hx hb dX7_fitting_47 (lv_at hl 3 rfl) ?_
          exact rx_reti hret hw hf dX7_fitting_49
set_option maxRecDepth 100000 in
set_option maxHeartbeats 4000000 in
theorem qk_X7_fitting_0 (cx : rx_C p m c cX7_fitting 5 s args wX7_fitting RX7 D vwCl (tY cI cL) [] wN A) (hret : rx_RI p l e rm_X7_fitting s m args below meth c cX7_fitting D vwCl (wY ad cI cL) A Q o) {w1 : Int32} {w2 : Int32} {ls : Array Slot} {H : Heap} {locs : List Loc} {M : Me} (hw : rx_W D vwCl (wY ad cI cL) A s.heap M H locs) (hl : lv_has ls 5 [(0, .ref ((ad 0))), (1, .int w1), (2, .int w2)]) (hf : qf_X7_fitting w1 w2 M = some o) : W p l e rm_X7_fitting s m args below meth c H locs 0 0 Q (F0 m 0 ls []) := by
  have hx := cx.1.1
  have hb := cx.1.2.1
  refine lv_iload_n hx hb dX7_fitting_0 rfl (lv_at hl 2 rfl) ?_
  refine lv_istore_n (lv' := [(3, .int w2), (0, .ref ((ad 0))), (1, .int w1), (2, .int w2)]) hx hb dX7_fitting_1 rfl hl (Nat.le_of_ble_eq_true rfl) rfl (fun ls hl => ?_)
  refine lv_iconst (v := 0) hx hb dX7_fitting_2 ic_0 ?_
  refine lv_istore (lv' := [(4, .int 0), (3, .int w2), (0, .ref ((ad 0))), (1, .int w1), (2, .int w2)]) hx hb dX7_fitting_3 hl (Nat.le_of_ble_eq_true rfl) rfl (fun ls hl => ?_)
  exact (qk_X7_fitting_5 cx hret rx_FU) hw (lv_sub hl [2, 3, 1, 0] rfl) hf
end
set_option maxRecDepth 100000 in
theorem qc_X7_fitting (l : Launch) (D : va_G) (ad : Nat → Nat) (cI cL : ClassId) (w1 : Int32) (w2 : Int32) : rx_MI l yX7_fitting wX7_fitting rm_X7_fitting D vwCl (wY ad cI cL) (tY cI cL) [] wN [.ref (ad 0), .int w1, .int w2] (fun M => qf_X7_fitting w1 w2 M) :=
  rx_ofI (by decide) rfl wN_ok (Nat.le_of_ble_eq_true rfl) (fun _ _ _ _ _ _ _ _ _ _ _ _ _ cx hret hw hl hf => qk_X7_fitting_0 cx hret hw hl hf)
def rm_X7_drawNext : Room := { frames := 5, cells := 0, slots := 0, locals := 119 }
noncomputable def qo_X7_drawNext_5   (rec : Me → Op)  (M : Me) : Op :=
  rx_vv (M 0 20) fun v1 => if 0 ≤ v1 then (some (0, M)) else (rx_vv (M 0 19) fun v2 => rx_vv (M 0 5) fun v3 => if v3 ≤ v2 then (some (0, M)) else (rx_vv (M 0 19) fun v4 => rx_ld M 5 24 v4 fun v5 => rx_vv (M 0 19) fun v6 => rx_vv (rx_st M 0 19 (v6 + 1)) fun M7 => rx_cl (qf_X7_fitting v5 0 M7) fun r8 M9 => if r8 < 0 then (rx_vv (M9 0 21) fun v10 => rx_vv (rx_st M9 0 21 (v10 + 1)) fun M11 => rec M11) else (rx_vv (rx_st M9 0 20 v5) fun M12 => rec M12)))
noncomputable def qf_X7_drawNext    (M : Me) : Op :=
  rx_vv (rx_st M 0 20 (-1)) fun M1 => rx_lp0 (qo_X7_drawNext_5) rx_FU M1
section
variable {p : Program} {l : Launch} {e : Env} {s : State} {m : MethodId} {args : Array Value} {below : List Frame} {meth : Method} {c : Code} {Q : State → Prop} {D : va_G} {A : Nat → Prop} {o : Int32 × Me} {ad : Nat → Nat} {cI cL : ClassId} {b1 b2 : Nat}
set_option maxRecDepth 100000 in
set_option maxHeartbeats 4000000 in
theorem qk_X7_drawNext_5 (cx : rx_C p m c cX7_drawNext 2 s args wX7_drawNext RX7 D vwCl (tY cI cL) [] wN A) (hret : rx_RV p l e rm_X7_drawNext s m args below meth c cX7_drawNext D vwCl (wY ad cI cL) A Q o) : ∀ (n : Nat) {ls : Array Slot} {H : Heap} {locs : List Loc} {M : Me}, rx_W D vwCl (wY ad cI cL) A s.heap M H locs → lv_has ls 2 [(0, .ref ((ad 0)))] → rx_lp0 (qo_X7_drawNext_5) n M = some o → W p l e rm_X7_drawNext s m args below meth c H locs 0 0 Q (F0 m 5 ls []) := by
  have hx := cx.1.1
  have hb := cx.1.2.1
  intro n
  induction n with
  | zero => intro ls H locs M hw hl hf; exact rx_no hf
  | succ n ih =>
    intro ls H locs M hw hl hf
    have hf : qo_X7_drawNext_5 (rx_lp0 (qo_X7_drawNext_5) n) M = some o := hf
    refine lv_aload_n hx hb dX7_drawNext_5 rfl (lv_at hl 0 rfl) ?_
    obtain ⟨v1, ev1, hf⟩ := rx_vvI hf
    refine rx_geti cx hw (fiY_0_20 ad cI cL) rfl (inT_X7) (Nat.le_of_ble_eq_true rfl) (.tail _ tw_681) ev1 dX7_drawNext_6 ?_
    refine lv_if_ge hx hb dX7_drawNext_9 rfl (fun hc => ?_) (fun hc => ?_)
    · have hf := rx_t hc hf
      exact rx_retv hret hw hf dX7_drawNext_73
    · have hf := rx_f hc hf
      refine lv_aload_n hx hb dX7_drawNext_12 rfl (lv_at hl 0 rfl) ?_
      obtain ⟨v2, ev2, hf⟩ := rx_vvI hf
      refine rx_geti cx hw (fiY_0_19 ad cI cL) rfl (inT_X7) (Nat.le_of_ble_eq_true rfl) (.tail _ tw_680) ev2 dX7_drawNext_13 ?_
      refine lv_aload_n hx hb dX7_drawNext_16 rfl (lv_at hl 0 rfl) ?_
      obtain ⟨v3, ev3, hf⟩ := rx_vvI hf
      refine rx_geti cx hw (fiY_0_5 ad cI cL) rfl (inT_X7) (Nat.le_of_ble_eq_true rfl) (.tail _ tw_666) ev3 dX7_drawNext_17 ?_
      refine lv_icmp_ge hx hb dX7_drawNext_20 rfl (fun hc => ?_) (fun hc => ?_)
      · have hf := rx_t hc hf
        exact rx_retv hret hw hf dX7_drawNext_73
      · have hf := rx_f hc hf
        refine lv_aload_n hx hb dX7_drawNext_23 rfl (lv_at hl 0 rfl) ?_
        refine rx_getr cx hw (frY_0_6 ad cI cL) rfl (inT_X7) (Nat.le_of_ble_eq_true rfl) (.tail _ tw_667) dX7_drawNext_24 ?_
        refine lv_aload_n hx hb dX7_drawNext_27 rfl (lv_at hl 0 rfl) ?_
        obtain ⟨v4, ev4, hf⟩ := rx_vvI hf
        refine rx_geti cx hw (fiY_0_19 ad cI cL) rfl (inT_X7) (Nat.le_of_ble_eq_true rfl) (.tail _ tw_680) ev4 dX7_drawNext_28 ?_
        obtain ⟨hv5, v5, ev5, hf⟩ := rx_ldI hf
        refine rx_iald cx hw (arY_5 ad cI cL) ⟨hv5, ev5⟩ dX7_drawNext_31 ?_
        refine lv_istore_n (lv' := [(1, .int v5), (0, .ref ((ad 0)))]) hx hb dX7_drawNext_32 rfl hl (Nat.le_of_ble_eq_true rfl) rfl (fun ls hl => ?_)
        refine lv_aload_n hx hb dX7_drawNext_33 rfl (lv_at hl 1 rfl) ?_
        refine lv_dup hx hb dX7_drawNext_34 rfl ?_
        obtain ⟨v6, ev6, hf⟩ := rx_vvI hf
        refine rx_geti cx hw (fiY_0_19 ad cI cL) rfl (inT_X7) (Nat.le_of_ble_eq_true rfl) (.tail _ tw_680) ev6 dX7_drawNext_35 ?_
        refine lv_iconst (v := 1) hx hb dX7_drawNext_38 ic_1 ?_
        refine lv_iadd hx hb dX7_drawNext_39 ?_
        obtain ⟨M7, eM7, hf⟩ := rx_vvI hf
        refine rx_puti cx hw (fiY_0_19 ad cI cL) rfl (inT_X7) tyX7 tyX7_ok nmX7 (Nat.le_of_ble_eq_true rfl) (.tail _ tw_680) rfl rfl rfl eM7 dX7_drawNext_40 (fun H locs hw => ?_)
        refine lv_aload_n hx hb dX7_drawNext_43 rfl (lv_at hl 1 rfl) ?_
        refine lv_iload_n hx hb dX7_drawNext_44 rfl (lv_at hl 0 rfl) ?_
        refine lv_iconst (v := 0) hx hb dX7_drawNext_45 ic_0 ?_
        obtain ⟨r8, M9, er8, hf⟩ := rx_clI hf
        refine rx_jVi cx hw (qc_X7_fitting l D ad cI cL v5 0) (obY_0 ad cI cL) rfl rfl kfX7_fitting tw_803 ⟨Nat.le_of_ble_eq_true rfl, Nat.le_of_ble_eq_true rfl, rfl, rfl⟩ rfl hl.1 (Nat.le_of_ble_eq_true rfl) ⟨Nat.zero_le _, Nat.zero_le _⟩ dX7_drawNext_46 rfl er8 (fun H locs hw => ?_)
        refine lv_if_lt hx hb dX7_drawNext_49 rfl (fun hc => ?_) (fun hc => ?_)
        · have hf := rx_t hc hf
          refine lv_aload_n hx hb dX7_drawNext_60 rfl (lv_at hl 1 rfl) ?_
          refine lv_dup hx hb dX7_drawNext_61 rfl ?_
          obtain ⟨v10, ev10, hf⟩ := rx_vvI hf
          refine rx_geti cx hw (fiY_0_21 ad cI cL) rfl (inT_X7) (Nat.le_of_ble_eq_true rfl) (.tail _ tw_682) ev10 dX7_drawNext_62 ?_
          refine lv_iconst (v := 1) hx hb dX7_drawNext_65 ic_1 ?_
          refine lv_iadd hx hb dX7_drawNext_66 ?_
          obtain ⟨M11, eM11, hf⟩ := rx_vvI hf
          refine rx_puti cx hw (fiY_0_21 ad cI cL) rfl (inT_X7) tyX7 tyX7_ok nmX7 (Nat.le_of_ble_eq_true rfl) (.tail _ tw_682) rfl rfl rfl eM11 dX7_drawNext_67 (fun H locs hw => ?_)
          refine lv_goto hx hb dX7_drawNext_70 rfl ?_
          exact ih hw (lv_sub hl [1] rfl) hf
        · have hf := rx_f hc hf
          refine lv_aload_n hx hb dX7_drawNext_52 rfl (lv_at hl 1 rfl) ?_
          refine lv_iload_n hx hb dX7_drawNext_53 rfl (lv_at hl 0 rfl) ?_
          obtain ⟨M12, eM12, hf⟩ := rx_vvI hf
          refine rx_puti cx hw (fiY_0_20 ad cI cL) rfl (inT_X7) tyX7 tyX7_ok nmX7 (Nat.le_of_ble_eq_true rfl) (.tail _ tw_681) rfl rfl rfl eM12 dX7_drawNext_54 (fun H locs hw => ?_)
          refine lv_goto hx hb dX7_drawNext_57 rfl ?_
          refine lv_goto hx hb dX7_drawNext_70 rfl ?_
          exact ih hw (lv_sub hl [1] rfl) hf
set_option maxRecDepth 100000 in
set_option maxHeartbeats 4000000 in
theorem qk_X7_drawNext_0 (cx : rx_C p m c cX7_drawNext 2 s args wX7_drawNext RX7 D vwCl (tY cI cL) [] wN A) (hret : rx_RV p l e rm_X7_drawNext s m args below meth c cX7_drawNext D vwCl (wY ad cI cL) A Q o) {ls : Array Slot} {H : Heap} {locs : List Loc} {M : Me} (hw : rx_W D vwCl (wY ad cI cL) A s.heap M H locs) (hl : lv_has ls 2 [(0, .ref ((ad 0)))]) (hf : qf_X7_drawNext M = some o) : W p l e rm_X7_drawNext s m args below meth c H locs 0 0 Q (F0 m 0 ls []) := by
  have hx := cx.1.1
  have hb := cx.1.2.1
  refine lv_aload_n hx hb dX7_drawNext_0 rfl (lv_at hl 0 rfl) ?_
  refine lv_iconst (v := (-1)) hx hb dX7_drawNext_1 ic_m1 ?_
  obtain ⟨M1, eM1, hf⟩ := rx_vvI hf
  refine rx_puti cx hw (fiY_0_20 ad cI cL) rfl (inT_X7) tyX7 tyX7_ok nmX7 (Nat.le_of_ble_eq_true rfl) (.tail _ tw_681) rfl rfl rfl eM1 dX7_drawNext_2 (fun H locs hw => ?_)
  exact (qk_X7_drawNext_5 cx hret rx_FU) hw hl hf
end
set_option maxRecDepth 100000 in
theorem qc_X7_drawNext (l : Launch) (D : va_G) (ad : Nat → Nat) (cI cL : ClassId) : rx_MV l yX7_drawNext wX7_drawNext rm_X7_drawNext D vwCl (wY ad cI cL) (tY cI cL) [] wN [.ref (ad 0)] (fun M => qf_X7_drawNext M) :=
  rx_ofV (by decide) rfl wN_ok (Nat.le_of_ble_eq_true rfl) (fun _ _ _ _ _ _ _ _ _ _ _ _ _ cx hret hw hl hf => qk_X7_drawNext_0 cx hret hw hl hf)
def rm_X7_begin : Room := { frames := 6, cells := 0, slots := 0, locals := 140 }
noncomputable def qo_X7_begin_2 (k22 : Me → Op)  (rec : Int32 → Me → Op) (w1 : Int32) (M : Me) : Op :=
  if 361 ≤ w1 then (k22 M) else (rx_sv M 10 361 w1 (-1) fun M1 => rx_vv (w1 + 1) fun v2 => rec v2 M1)
noncomputable def qo_X7_begin_24 (k44 : Me → Op)  (rec : Int32 → Me → Op) (w1 : Int32) (M : Me) : Op :=
  if 192 ≤ w1 then (k44 M) else (rx_sv M 11 192 w1 (-1) fun M1 => rx_vv (w1 + 1) fun v2 => rec v2 M1)
noncomputable def qo_X7_begin_46 (k72 : Me → Op)  (rec : Int32 → Me → Op) (w1 : Int32) (M : Me) : Op :=
  if 3 ≤ w1 then (k72 M) else (rx_sv M 12 3 w1 0 fun M1 => rx_sv M1 13 3 w1 7 fun M2 => rx_vv (w1 + 1) fun v3 => rec v3 M2)
noncomputable def qb_X7_begin_72    (M : Me) : Op :=
  rx_vv (rx_st M 0 9 0) fun M1 => rx_vv (rx_st M1 0 18 0) fun M2 => rx_vv (rx_st M2 0 19 0) fun M3 => rx_vv (rx_st M3 0 21 0) fun M4 => rx_vv (rx_st M4 0 22 0) fun M5 => rx_vv (rx_st M5 0 26 0) fun M6 => rx_cl (qf_X7_drawNext M6) fun r7 M8 => some (0, M8)
noncomputable def qb_X7_begin_44    (M : Me) : Op :=
  rx_lp1 (qo_X7_begin_46 (fun M => qb_X7_begin_72 M)) rx_FU 0 M
noncomputable def qb_X7_begin_22    (M : Me) : Op :=
  rx_lp1 (qo_X7_begin_24 (fun M => qb_X7_begin_44 M)) rx_FU 0 M
noncomputable def qf_X7_begin    (M : Me) : Op :=
  rx_lp1 (qo_X7_begin_2 (fun M => qb_X7_begin_22 M)) rx_FU 0 M
section
variable {p : Program} {l : Launch} {e : Env} {s : State} {m : MethodId} {args : Array Value} {below : List Frame} {meth : Method} {c : Code} {Q : State → Prop} {D : va_G} {A : Nat → Prop} {o : Int32 × Me} {ad : Nat → Nat} {cI cL : ClassId} {b1 b2 : Nat}
set_option maxRecDepth 100000 in
set_option maxHeartbeats 4000000 in
theorem qk_X7_begin_2 (cx : rx_C p m c cX7_begin 2 s args wX7_begin RX7 D vwCl (tY cI cL) [] wN A) (hret : rx_RV p l e rm_X7_begin s m args below meth c cX7_begin D vwCl (wY ad cI cL) A Q o) {k22 : Me → Op} (h22 : ∀ {ls : Array Slot} {H : Heap} {locs : List Loc} {M : Me}, rx_W D vwCl (wY ad cI cL) A s.heap M H locs → lv_has ls 2 [(0, .ref ((ad 0)))] → k22 M = some o → W p l e rm_X7_begin s m args below meth c H locs 0 0 Q (F0 m 22 ls [])) : ∀ (n : Nat) {w1 : Int32} {ls : Array Slot} {H : Heap} {locs : List Loc} {M : Me}, rx_W D vwCl (wY ad cI cL) A s.heap M H locs → lv_has ls 2 [(0, .ref ((ad 0))), (1, .int w1)] → rx_lp1 (qo_X7_begin_2 k22) n w1 M = some o → W p l e rm_X7_begin s m args below meth c H locs 0 0 Q (F0 m 2 ls []) := by
  have hx := cx.1.1
  have hb := cx.1.2.1
  intro n
  induction n with
  | zero => intro w1 ls H locs M hw hl hf; exact rx_no hf
  | succ n ih =>
    intro w1 ls H locs M hw hl hf
    have hf : qo_X7_begin_2 k22 (rx_lp1 (qo_X7_begin_2 k22) n) w1 M = some o := hf
    refine lv_iload_n hx hb dX7_begin_2 rfl (lv_at hl 1 rfl) ?_
    refine lv_sipush (v := 361) hx hb dX7_begin_3 is_361 ?_
    refine lv_icmp_ge hx hb dX7_begin_6 rfl (fun hc => ?_) (fun hc => ?_)
    · have hf := rx_t hc hf
      exact h22 hw (lv_sub hl [0] rfl) hf
    · have hf := rx_f hc hf
      refine lv_aload_n hx hb dX7_begin_9 rfl (lv_at hl 0 rfl) ?_
      refine rx_getr cx hw (frY_0_14 ad cI cL) rfl (inT_X7) (Nat.le_of_ble_eq_true rfl) (.tail _ tw_675) dX7_begin_10 ?_
      refine lv_iload_n hx hb dX7_begin_13 rfl (lv_at hl 1 rfl) ?_
      refine lv_iconst (v := (-1)) hx hb dX7_begin_14 ic_m1 ?_
      obtain ⟨hM1, M1, eM1, hf⟩ := rx_svI hf
      refine rx_iast cx hw (arY_10 ad cI cL) ⟨hM1, eM1⟩ dX7_begin_15 (fun H locs hw => ?_)
      obtain ⟨v2, ev2, hf⟩ := rx_vvI hf
      refine lv_iinc (lv' := [(1, .int v2), (0, .ref ((ad 0)))]) hx hb dX7_begin_16 hl (k := 1) rfl (rx_inc ic_1 ev2) (Nat.le_of_ble_eq_true rfl) rfl (fun ls hl => ?_)
      refine lv_goto hx hb dX7_begin_19 rfl ?_
      exact ih hw (lv_sub hl [1, 0] rfl) hf
set_option maxRecDepth 100000 in
set_option maxHeartbeats 4000000 in
theorem qk_X7_begin_24 (cx : rx_C p m c cX7_begin 2 s args wX7_begin RX7 D vwCl (tY cI cL) [] wN A) (hret : rx_RV p l e rm_X7_begin s m args below meth c cX7_begin D vwCl (wY ad cI cL) A Q o) {k44 : Me → Op} (h44 : ∀ {ls : Array Slot} {H : Heap} {locs : List Loc} {M : Me}, rx_W D vwCl (wY ad cI cL) A s.heap M H locs → lv_has ls 2 [(0, .ref ((ad 0)))] → k44 M = some o → W p l e rm_X7_begin s m args below meth c H locs 0 0 Q (F0 m 44 ls [])) : ∀ (n : Nat) {w1 : Int32} {ls : Array Slot} {H : Heap} {locs : List Loc} {M : Me}, rx_W D vwCl (wY ad cI cL) A s.heap M H locs → lv_has ls 2 [(0, .ref ((ad 0))), (1, .int w1)] → rx_lp1 (qo_X7_begin_24 k44) n w1 M = some o → W p l e rm_X7_begin s m args below meth c H locs 0 0 Q (F0 m 24 ls []) := by
  have hx := cx.1.1
  have hb := cx.1.2.1
  intro n
  induction n with
  | zero => intro w1 ls H locs M hw hl hf; exact rx_no hf
  | succ n ih =>
    intro w1 ls H locs M hw hl hf
    have hf : qo_X7_begin_24 k44 (rx_lp1 (qo_X7_begin_24 k44) n) w1 M = some o := hf
    refine lv_iload_n hx hb dX7_begin_24 rfl (lv_at hl 1 rfl) ?_
    refine lv_sipush (v := 192) hx hb dX7_begin_25 is_192 ?_
    refine lv_icmp_ge hx hb dX7_begin_28 rfl (fun hc => ?_) (fun hc => ?_)
    · have hf := rx_t hc hf
      exact h44 hw (lv_sub hl [0] rfl) hf
    · have hf := rx_f hc hf
      refine lv_aload_n hx hb dX7_begin_31 rfl (lv_at hl 0 rfl) ?_
      refine rx_getr cx hw (frY_0_15 ad cI cL) rfl (inT_X7) (Nat.le_of_ble_eq_true rfl) (.tail _ tw_676) dX7_begin_32 ?_
      refine lv_iload_n hx hb dX7_begin_35 rfl (lv_at hl 1 rfl) ?_
      refine lv_iconst (v := (-1)) hx hb dX7_begin_36 ic_m1 ?_
      obtain ⟨hM1, M1, eM1, hf⟩ := rx_svI hf
      refine rx_iast cx hw (arY_11 ad cI cL) ⟨hM1, eM1⟩ dX7_begin_37 (fun H locs hw => ?_)
      obtain ⟨v2, ev2, hf⟩ := rx_vvI hf
      refine lv_iinc (lv' := [(1, .int v2), (0, .ref ((ad 0)))]) hx hb dX7_begin_38 hl (k := 1) rfl (rx_inc ic_1 ev2) (Nat.le_of_ble_eq_true rfl) rfl (fun ls hl => ?_)
      refine lv_goto hx hb dX7_begin_41 rfl ?_
      exact ih hw (lv_sub hl [1, 0] rfl) hf
set_option maxRecDepth 100000 in
set_option maxHeartbeats 4000000 in
theorem qk_X7_begin_46 (cx : rx_C p m c cX7_begin 2 s args wX7_begin RX7 D vwCl (tY cI cL) [] wN A) (hret : rx_RV p l e rm_X7_begin s m args below meth c cX7_begin D vwCl (wY ad cI cL) A Q o) {k72 : Me → Op} (h72 : ∀ {ls : Array Slot} {H : Heap} {locs : List Loc} {M : Me}, rx_W D vwCl (wY ad cI cL) A s.heap M H locs → lv_has ls 2 [(0, .ref ((ad 0)))] → k72 M = some o → W p l e rm_X7_begin s m args below meth c H locs 0 0 Q (F0 m 72 ls [])) : ∀ (n : Nat) {w1 : Int32} {ls : Array Slot} {H : Heap} {locs : List Loc} {M : Me}, rx_W D vwCl (wY ad cI cL) A s.heap M H locs → lv_has ls 2 [(0, .ref ((ad 0))), (1, .int w1)] → rx_lp1 (qo_X7_begin_46 k72) n w1 M = some o → W p l e rm_X7_begin s m args below meth c H locs 0 0 Q (F0 m 46 ls []) := by
  have hx := cx.1.1
  have hb := cx.1.2.1
  intro n
  induction n with
  | zero => intro w1 ls H locs M hw hl hf; exact rx_no hf
  | succ n ih =>
    intro w1 ls H locs M hw hl hf
    have hf : qo_X7_begin_46 k72 (rx_lp1 (qo_X7_begin_46 k72) n) w1 M = some o := hf
    refine lv_iload_n hx hb dX7_begin_46 rfl (lv_at hl 1 rfl) ?_
    refine lv_iconst (v := 3) hx hb dX7_begin_47 ic_3 ?_
    refine lv_icmp_ge hx hb dX7_begin_48 rfl (fun hc => ?_) (fun hc => ?_)
    · have hf := rx_t hc hf
      exact h72 hw (lv_sub hl [0] rfl) hf
    · have hf := rx_f hc hf
      refine lv_aload_n hx hb dX7_begin_51 rfl (lv_at hl 0 rfl) ?_
      refine rx_getr cx hw (frY_0_16 ad cI cL) rfl (inT_X7) (Nat.le_of_ble_eq_true rfl) (.tail _ tw_677) dX7_begin_52 ?_
      refine lv_iload_n hx hb dX7_begin_55 rfl (lv_at hl 1 rfl) ?_
      refine lv_iconst (v := 0) hx hb dX7_begin_56 ic_0 ?_
      obtain ⟨hM1, M1, eM1, hf⟩ := rx_svI hf
      refine rx_iast cx hw (arY_12 ad cI cL) ⟨hM1, eM1⟩ dX7_begin_57 (fun H locs hw => ?_)
      refine lv_aload_n hx hb dX7_begin_58 rfl (lv_at hl 0 rfl) ?_
      refine rx_getr cx hw (frY_0_17 ad cI cL) rfl (inT_X7) (Nat.le_of_ble_eq_true rfl) (.tail _ tw_678) dX7_begin_59 ?_
      refine lv_iload_n hx hb dX7_begin_62 rfl (lv_at hl 1 rfl) ?_
      refine lv_bipush (v := 7) hx hb dX7_begin_63 ib_7 ?_
      obtain ⟨hM2, M2, eM2, hf⟩ := rx_svI hf
      refine rx_iast cx hw (arY_13 ad cI cL) ⟨hM2, eM2⟩ dX7_begin_65 (fun H locs hw => ?_)
      obtain ⟨v3, ev3, hf⟩ := rx_vvI hf
      refine lv_iinc (lv' := [(1, .int v3), (0, .ref ((ad 0)))]) hx hb dX7_begin_66 hl (k := 1) rfl (rx_inc ic_1 ev3) (Nat.le_of_ble_eq_true rfl) rfl (fun ls hl => ?_)
      refine lv_goto hx hb dX7_begin_69 rfl ?_
      exact ih hw (lv_sub hl [1, 0] rfl) hf
set_option maxRecDepth 100000 in
set_option maxHeartbeats 4000000 in
theorem qk_X7_begin_72 (cx : rx_C p m c cX7_begin 2 s args wX7_begin RX7 D vwCl (tY cI cL) [] wN A) (hret : rx_RV p l e rm_X7_begin s m args below meth c cX7_begin D vwCl (wY ad cI cL) A Q o) {ls : Array Slot} {H : Heap} {locs : List Loc} {M : Me} (hw : rx_W D vwCl (wY ad cI cL) A s.heap M H locs) (hl : lv_has ls 2 [(0, .ref ((ad 0)))]) (hf : qb_X7_begin_72 M = some o) : W p l e rm_X7_begin s m args below meth c H locs 0 0 Q (F0 m 72 ls []) := by
  have hx := cx.1.1
  have hb := cx.1.2.1
  refine lv_aload_n hx hb dX7_begin_72 rfl (lv_at hl 0 rfl) ?_
  refine lv_iconst (v := 0) hx hb dX7_begin_73 ic_0 ?_
  obtain ⟨M1, eM1, hf⟩ := rx_vvI hf
  refine rx_puti cx hw (fiY_0_9 ad cI cL) rfl (inT_X7) tyX7 tyX7_ok nmX7 (Nat.le_of_ble_eq_true rfl) (.tail _ tw_670) rfl rfl rfl eM1 dX7_begin_74 (fun H locs hw => ?_)
  refine lv_aload_n hx hb dX7_begin_77 rfl (lv_at hl 0 rfl) ?_
  refine lv_iconst (v := 0) hx hb dX7_begin_78 ic_0 ?_
  obtain ⟨M2, eM2, hf⟩ := rx_vvI hf
  refine rx_puti cx hw (fiY_0_18 ad cI cL) rfl (inT_X7) tyX7 tyX7_ok nmX7 (Nat.le_of_ble_eq_true rfl) (.tail _ tw_679) rfl rfl rfl eM2 dX7_begin_79 (fun H locs hw => ?_)
  refine lv_aload_n hx hb dX7_begin_82 rfl (lv_at hl 0 rfl) ?_
  refine lv_iconst (v := 0) hx hb dX7_begin_83 ic_0 ?_
  obtain ⟨M3, eM3, hf⟩ := rx_vvI hf
  refine rx_puti cx hw (fiY_0_19 ad cI cL) rfl (inT_X7) tyX7 tyX7_ok nmX7 (Nat.le_of_ble_eq_true rfl) (.tail _ tw_680) rfl rfl rfl eM3 dX7_begin_84 (fun H locs hw => ?_)
  refine lv_aload_n hx hb dX7_begin_87 rfl (lv_at hl 0 rfl) ?_
  refine lv_iconst (v := 0) hx hb dX7_begin_88 ic_0 ?_
  obtain ⟨M4, eM4, hf⟩ := rx_vvI hf
  refine rx_puti cx hw (fiY_0_21 ad cI cL) rfl (inT_X7) tyX7 tyX7_ok nmX7 (Nat.le_of_ble_eq_true rfl) (.tail _ tw_682) rfl rfl rfl eM4 dX7_begin_89 (fun H locs hw => ?_)
  refine lv_aload_n hx hb dX7_begin_92 rfl (lv_at hl 0 rfl) ?_
  refine lv_iconst (v := 0) hx hb dX7_begin_93 ic_0 ?_
  obtain ⟨M5, eM5, hf⟩ := rx_vvI hf
  refine rx_puti cx hw (fiY_0_22 ad cI cL) rfl (inT_X7) tyX7 tyX7_ok nmX7 (Nat.le_of_ble_eq_true rfl) (.tail _ tw_683) rfl rfl rfl eM5 dX7_begin_94 (fun H locs hw => ?_)
  refine lv_aload_n hx hb dX7_begin_97 rfl (lv_at hl 0 rfl) ?_
  refine lv_iconst (v := 0) hx hb dX7_begin_98 ic_0 ?_
  obtain ⟨M6, eM6, hf⟩ := rx_vvI hf
  refine rx_puti cx hw (fiY_0_26 ad cI cL) rfl (inT_X7) tyX7 tyX7_ok nmX7 (Nat.le_of_ble_eq_true rfl) (.tail _ tw_687) rfl rfl rfl eM6 dX7_begin_99 (fun H locs hw => ?_)
  refine lv_aload_n hx hb dX7_begin_102 rfl (lv_at hl 0 rfl) ?_
  obtain ⟨r7, M8, er7, hf⟩ := rx_clI hf
  refine rx_jVv cx hw (qc_X7_drawNext l D ad cI cL) (obY_0 ad cI cL) rfl rfl kfX7_drawNext tw_799 ⟨Nat.le_of_ble_eq_true rfl, Nat.le_of_ble_eq_true rfl, rfl, rfl⟩ rfl hl.1 (Nat.le_of_ble_eq_true rfl) ⟨Nat.zero_le _, Nat.zero_le _⟩ dX7_begin_103 rfl er7 (fun H locs hw => ?_)
  exact rx_retv hret hw hf dX7_begin_106
set_option maxRecDepth 100000 in
set_option maxHeartbeats 4000000 in
theorem qk_X7_begin_44 (cx : rx_C p m c cX7_begin 2 s args wX7_begin RX7 D vwCl (tY cI cL) [] wN A) (hret : rx_RV p l e rm_X7_begin s m args below meth c cX7_begin D vwCl (wY ad cI cL) A Q o) {ls : Array Slot} {H : Heap} {locs : List Loc} {M : Me} (hw : rx_W D vwCl (wY ad cI cL) A s.heap M H locs) (hl : lv_has ls 2 [(0, .ref ((ad 0)))]) (hf : qb_X7_begin_44 M = some o) : W p l e rm_X7_begin s m args below meth c H locs 0 0 Q (F0 m 44 ls []) := by
  have hx := cx.1.1
  have hb := cx.1.2.1
  refine lv_iconst (v := 0) hx hb dX7_begin_44 ic_0 ?_
  refine lv_istore_n (lv' := [(1, .int 0), (0, .ref ((ad 0)))]) hx hb dX7_begin_45 rfl hl (Nat.le_of_ble_eq_true rfl) rfl (fun ls hl => ?_)
  exact (qk_X7_begin_46 cx hret (qk_X7_begin_72 cx hret) rx_FU) hw (lv_sub hl [1, 0] rfl) hf
set_option maxRecDepth 100000 in
set_option maxHeartbeats 4000000 in
theorem qk_X7_begin_22 (cx : rx_C p m c cX7_begin 2 s args wX7_begin RX7 D vwCl (tY cI cL) [] wN A) (hret : rx_RV p l e rm_X7_begin s m args below meth c cX7_begin D vwCl (wY ad cI cL) A Q o) {ls : Array Slot} {H : Heap} {locs : List Loc} {M : Me} (hw : rx_W D vwCl (wY ad cI cL) A s.heap M H locs) (hl : lv_has ls 2 [(0, .ref ((ad 0)))]) (hf : qb_X7_begin_22 M = some o) : W p l e rm_X7_begin s m args below meth c H locs 0 0 Q (F0 m 22 ls []) := by
  have hx := cx.1.1
  have hb := cx.1.2.1
  refine lv_iconst (v := 0) hx hb dX7_begin_22 ic_0 ?_
  refine lv_istore_n (lv' := [(1, .int 0), (0, .ref ((ad 0)))]) hx hb dX7_begin_23 rfl hl (Nat.le_of_ble_eq_true rfl) rfl (fun ls hl => ?_)
  exact (qk_X7_begin_24 cx hret (qk_X7_begin_44 cx hret) rx_FU) hw (lv_sub hl [1, 0] rfl) hf
set_option maxRecDepth 100000 in
set_option maxHeartbeats 4000000 in
theorem qk_X7_begin_0 (cx : rx_C p m c cX7_begin 2 s args wX7_begin RX7 D vwCl (tY cI cL) [] wN A) (hret : rx_RV p l e rm_X7_begin s m args below meth c cX7_begin D vwCl (wY ad cI cL) A Q o) {ls : Array Slot} {H : Heap} {locs : List Loc} {M : Me} (hw : rx_W D vwCl (wY ad cI cL) A s.heap M H locs) (hl : lv_has ls 2 [(0, .ref ((ad 0)))]) (hf : qf_X7_begin M = some o) : W p l e rm_X7_begin s m args below meth c H locs 0 0 Q (F0 m 0 ls []) := by
  have hx := cx.1.1
  have hb := cx.1.2.1
  refine lv_iconst (v := 0) hx hb dX7_begin_0 ic_0 ?_
  refine lv_istore_n (lv' := [(1, .int 0), (0, .ref ((ad 0)))]) hx hb dX7_begin_1 rfl hl (Nat.le_of_ble_eq_true rfl) rfl (fun ls hl => ?_)
  exact (qk_X7_begin_2 cx hret (qk_X7_begin_22 cx hret) rx_FU) hw (lv_sub hl [1, 0] rfl) hf
end
set_option maxRecDepth 100000 in
theorem qc_X7_begin (l : Launch) (D : va_G) (ad : Nat → Nat) (cI cL : ClassId) : rx_MV l yX7_begin wX7_begin rm_X7_begin D vwCl (wY ad cI cL) (tY cI cL) [] wN [.ref (ad 0)] (fun M => qf_X7_begin M) :=
  rx_ofV (by decide) rfl wN_ok (Nat.le_of_ble_eq_true rfl) (fun _ _ _ _ _ _ _ _ _ _ _ _ _ cx hret hw hl hf => qk_X7_begin_0 cx hret hw hl hf)

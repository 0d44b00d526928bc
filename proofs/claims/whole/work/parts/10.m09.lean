def rm_X6_search : Room := { frames := 7, cells := 0, slots := 0, locals := 166 }
noncomputable def qf_X6_search  (w1 : Int32)  (M : Me) : Op :=
  rx_vv (M 4 6) fun v1 => if v1 = (-1) then (some ((-1), M)) else (rx_vv (M 1 9) fun v2 => rx_vv (M 4 7) fun v3 => if (v2 - v3) ≤ 1 then (if w1 < 1 then (some ((-2), M)) else (if w1 ≤ 1500 then (rx_cl (qf_X4_seek w1 M) fun r4 M5 => if r4 = 0 then (some ((-4), M5)) else (rx_vv (M5 5 5) fun v6 => some (1000 + v6, M5))) else (some ((-2), M)))) else (some ((-1), M)))
section
variable {p : Program} {l : Launch} {e : Env} {s : State} {m : MethodId} {args : Array Value} {below : List Frame} {meth : Method} {c : Code} {Q : State → Prop} {D : va_G} {A : Nat → Prop} {o : Int32 × Me} {ad : Nat → Nat} {cI cL : ClassId} {b1 b2 : Nat}
set_option maxRecDepth 100000 in
set_option maxHeartbeats 4000000 in
theorem qk_X6_search_0 (cx : rx_C p m c cX6_search 2 s args wX6_search RX6 D vwCl (tX cI cL) (zX b1 b2) wN A) (hret : rx_RI p l e rm_X6_search s m args below meth c cX6_search D vwCl (wX ad cI cL) A Q o) {w1 : Int32} {ls : Array Slot} {H : Heap} {locs : List Loc} {M : Me} (hw : rx_W D vwCl (wX ad cI cL) A s.heap M H locs) (hl : lv_has ls 2 [(0, .ref ((ad 0))), (1, .int w1)]) (hf : qf_X6_search w1 M = some o) : W p l e rm_X6_search s m args below meth c H locs 0 0 Q (F0 m 0 ls []) := by
  have hx := cx.1.1
  have hb := cx.1.2.1
  refine lv_aload_n hx hb dX6_search_0 rfl (lv_at hl 0 rfl) ?_
  refine rx_getr cx hw (frX_0_2 ad cI cL) rfl (inT_X6) (Nat.le_of_ble_eq_true rfl) (.tail _ tw_306) dX6_search_1 ?_
  obtain ⟨v1, ev1, hf⟩ := rx_vvI hf
  refine rx_getiN cx hw (fiX_4_6 ad cI cL) rfl (inT_X2) (Nat.le_of_ble_eq_true rfl) tn_194 ev1 dX6_search_4 ?_
  refine lv_iconst (v := (-1)) hx hb dX6_search_7 ic_m1 ?_
  refine lv_icmp_eq hx hb dX6_search_8 rfl (fun hc => ?_) (fun hc => ?_)
  · have hf := rx_t hc hf
    refine lv_iconst (v := (-1)) hx hb dX6_search_30 ic_m1 ?_
    exact rx_reti hret hw hf dX6_search_31
  · have hf := rx_f hc hf
    refine lv_aload_n hx hb dX6_search_11 rfl (lv_at hl 0 rfl) ?_
    refine rx_getr cx hw (frX_0_0 ad cI cL) rfl (inT_X6) (Nat.le_of_ble_eq_true rfl) (.tail _ tw_304) dX6_search_12 ?_
    obtain ⟨v2, ev2, hf⟩ := rx_vvI hf
    refine rx_getiN cx hw (fiX_1_9 ad cI cL) rfl (inT_X0) (Nat.le_of_ble_eq_true rfl) tn_45 ev2 dX6_search_15 ?_
    refine lv_aload_n hx hb dX6_search_18 rfl (lv_at hl 0 rfl) ?_
    refine rx_getr cx hw (frX_0_2 ad cI cL) rfl (inT_X6) (Nat.le_of_ble_eq_true rfl) (.tail _ tw_306) dX6_search_19 ?_
    obtain ⟨v3, ev3, hf⟩ := rx_vvI hf
    refine rx_getiN cx hw (fiX_4_7 ad cI cL) rfl (inT_X2) (Nat.le_of_ble_eq_true rfl) tn_196 ev3 dX6_search_22 ?_
    refine lv_isub hx hb dX6_search_25 ?_
    refine lv_iconst (v := 1) hx hb dX6_search_26 ic_1 ?_
    refine lv_icmp_le hx hb dX6_search_27 rfl (fun hc => ?_) (fun hc => ?_)
    · have hf := rx_t hc hf
      refine lv_iload_n hx hb dX6_search_32 rfl (lv_at hl 1 rfl) ?_
      refine lv_iconst (v := 1) hx hb dX6_search_33 ic_1 ?_
      refine lv_icmp_lt hx hb dX6_search_34 rfl (fun hc => ?_) (fun hc => ?_)
      · have hf := rx_t hc hf
        refine lv_bipush (v := (-2)) hx hb dX6_search_44 ib_m2 ?_
        exact rx_reti hret hw hf dX6_search_46
      · have hf := rx_f hc hf
        refine lv_iload_n hx hb dX6_search_37 rfl (lv_at hl 1 rfl) ?_
        refine lv_sipush (v := 1500) hx hb dX6_search_38 is_1500 ?_
        refine lv_icmp_le hx hb dX6_search_41 rfl (fun hc => ?_) (fun hc => ?_)
        · have hf := rx_t hc hf
          refine lv_aload_n hx hb dX6_search_47 rfl (lv_at hl 0 rfl) ?_
          refine rx_getr cx hw (frX_0_3 ad cI cL) rfl (inT_X6) (Nat.le_of_ble_eq_true rfl) (.tail _ tw_307) dX6_search_48 ?_
          refine lv_iload_n hx hb dX6_search_51 rfl (lv_at hl 1 rfl) ?_
          obtain ⟨r4, M5, er4, hf⟩ := rx_clI hf
          refine rx_jVi cx hw (qc_X4_seek l D ad cI cL b1 b2 w1) (obX_5 ad cI cL) rfl rfl kfX4_seek tw_616 ⟨Nat.le_of_ble_eq_true rfl, Nat.le_of_ble_eq_true rfl, rfl, rfl⟩ rfl hl.1 (Nat.le_of_ble_eq_true rfl) ⟨Nat.zero_le _, Nat.zero_le _⟩ dX6_search_52 rfl er4 (fun H locs hw => ?_)
          refine lv_if_eq hx hb dX6_search_55 rfl (fun hc => ?_) (fun hc => ?_)
          · have hf := rx_t hc hf
            refine lv_bipush (v := (-4)) hx hb dX6_search_72 ib_m4 ?_
            exact rx_reti hret hw hf dX6_search_74
          · have hf := rx_f hc hf
            refine lv_sipush (v := 1000) hx hb dX6_search_58 is_1000 ?_
            refine lv_aload_n hx hb dX6_search_61 rfl (lv_at hl 0 rfl) ?_
            refine rx_getr cx hw (frX_0_3 ad cI cL) rfl (inT_X6) (Nat.le_of_ble_eq_true rfl) (.tail _ tw_307) dX6_search_62 ?_
            obtain ⟨v6, ev6, hf⟩ := rx_vvI hf
            refine rx_getiN cx hw (fiX_5_5 ad cI cL) rfl (inT_X4) (Nat.le_of_ble_eq_true rfl) tn_290 ev6 dX6_search_65 ?_
            refine lv_iadd hx hb dX6_search_68 ?_
            refine lv_goto hx hb dX6_search_69 rfl ?_
            exact rx_reti hret hw hf dX6_search_74
        · have hf := rx_f hc hf
          refine lv_bipush (v := (-2)) hx hb dX6_search_44 ib_m2 ?_
          exact rx_reti hret hw hf dX6_search_46
    · have hf := rx_f hc hf
      refine lv_iconst (v := (-1)) hx hb dX6_search_30 ic_m1 ?_
      exact rx_reti hret hw hf dX6_search_31
end
set_option maxRecDepth 100000 in
theorem qc_X6_search (l : Launch) (D : va_G) (ad : Nat → Nat) (cI cL : ClassId) (b1 b2 : Nat) (w1 : Int32) : rx_MI l yX6_search wX6_search rm_X6_search D vwCl (wX ad cI cL) (tX cI cL) (zX b1 b2) wN [.ref (ad 0), .int w1] (fun M => qf_X6_search w1 M) :=
  rx_ofI (by decide) rfl wN_ok (Nat.le_of_ble_eq_true rfl) (fun _ _ _ _ _ _ _ _ _ _ _ _ _ cx hret hw hl hf => qk_X6_search_0 cx hret hw hl hf)
def rm_X6_best : Room := { frames := 1, cells := 0, slots := 0, locals := 21 }
noncomputable def qf_X6_best  (w1 : Int32)  (M : Me) : Op :=
  if w1 = 3 then (rx_vv (M 5 3) fun v4 => if v4 = (-1) then (some ((-100), M)) else (rx_vv (M 5 4) fun v5 => some (v5, M))) else (rx_vv (M 5 3) fun v1 => rx_cl (qf_X6_tellSpot v1 w1 M) fun r2 M3 => some (r2, M3))
section
variable {p : Program} {l : Launch} {e : Env} {s : State} {m : MethodId} {args : Array Value} {below : List Frame} {meth : Method} {c : Code} {Q : State → Prop} {D : va_G} {A : Nat → Prop} {o : Int32 × Me} {ad : Nat → Nat} {cI cL : ClassId} {b1 b2 : Nat}
set_option maxRecDepth 100000 in
set_option maxHeartbeats 4000000 in
theorem qk_X6_best_0 (cx : rx_C p m c cX6_best 2 s args wX6_best RX6 D vwCl (tX cI cL) (zX b1 b2) wN A) (hret : rx_RI p l e rm_X6_best s m args below meth c cX6_best D vwCl (wX ad cI cL) A Q o) {w1 : Int32} {ls : Array Slot} {H : Heap} {locs : List Loc} {M : Me} (hw : rx_W D vwCl (wX ad cI cL) A s.heap M H locs) (hl : lv_has ls 2 [(0, .ref ((ad 0))), (1, .int w1)]) (hf : qf_X6_best w1 M = some o) : W p l e rm_X6_best s m args below meth c H locs 0 0 Q (F0 m 0 ls []) := by
  have hx := cx.1.1
  have hb := cx.1.2.1
  refine lv_iload_n hx hb dX6_best_0 rfl (lv_at hl 1 rfl) ?_
  refine lv_iconst (v := 3) hx hb dX6_best_1 ic_3 ?_
  refine lv_icmp_ne hx hb dX6_best_2 rfl (fun hc => ?_) (fun hc => ?_)
  · have hf := rx_f hc hf
    refine lv_aload_n hx hb dX6_best_29 rfl (lv_at hl 0 rfl) ?_
    refine rx_getr cx hw (frX_0_3 ad cI cL) rfl (inT_X6) (Nat.le_of_ble_eq_true rfl) (.tail _ tw_307) dX6_best_30 ?_
    obtain ⟨v1, ev1, hf⟩ := rx_vvI hf
    refine rx_getiN cx hw (fiX_5_3 ad cI cL) rfl (inT_X4) (Nat.le_of_ble_eq_true rfl) tn_286 ev1 dX6_best_33 ?_
    refine lv_iload_n hx hb dX6_best_36 rfl (lv_at hl 1 rfl) ?_
    obtain ⟨r2, M3, er2, hf⟩ := rx_clI hf
    refine rx_jSi cx hw (qc_X6_tellSpot l D ad cI cL b1 b2 v1 w1) kfX6_tellSpot tw_463 ⟨Nat.le_of_ble_eq_true rfl, Nat.le_of_ble_eq_true rfl, rfl, rfl⟩ rfl hl.1 (Nat.le_of_ble_eq_true rfl) ⟨Nat.zero_le _, Nat.zero_le _⟩ dX6_best_37 rfl er2 (fun H locs hw => ?_)
    exact rx_reti hret hw hf dX6_best_40
  · have hf := rx_t hc hf
    refine lv_aload_n hx hb dX6_best_5 rfl (lv_at hl 0 rfl) ?_
    refine rx_getr cx hw (frX_0_3 ad cI cL) rfl (inT_X6) (Nat.le_of_ble_eq_true rfl) (.tail _ tw_307) dX6_best_6 ?_
    obtain ⟨v4, ev4, hf⟩ := rx_vvI hf
    refine rx_getiN cx hw (fiX_5_3 ad cI cL) rfl (inT_X4) (Nat.le_of_ble_eq_true rfl) tn_286 ev4 dX6_best_9 ?_
    refine lv_iconst (v := (-1)) hx hb dX6_best_12 ic_m1 ?_
    refine lv_icmp_ne hx hb dX6_best_13 rfl (fun hc => ?_) (fun hc => ?_)
    · have hf := rx_f hc hf
      refine lv_aload_n hx hb dX6_best_21 rfl (lv_at hl 0 rfl) ?_
      refine rx_getr cx hw (frX_0_3 ad cI cL) rfl (inT_X6) (Nat.le_of_ble_eq_true rfl) (.tail _ tw_307) dX6_best_22 ?_
      obtain ⟨v5, ev5, hf⟩ := rx_vvI hf
      refine rx_getiN cx hw (fiX_5_4 ad cI cL) rfl (inT_X4) (Nat.le_of_ble_eq_true rfl) tn_288 ev5 dX6_best_25 ?_
      exact rx_reti hret hw hf dX6_best_28
    · have hf := rx_t hc hf
      refine lv_bipush (v := (-100)) hx hb dX6_best_16 ib_m100 ?_
      refine lv_goto hx hb dX6_best_18 rfl ?_
      exact rx_reti hret hw hf dX6_best_28
end
set_option maxRecDepth 100000 in
theorem qc_X6_best (l : Launch) (D : va_G) (ad : Nat → Nat) (cI cL : ClassId) (b1 b2 : Nat) (w1 : Int32) : rx_MI l yX6_best wX6_best rm_X6_best D vwCl (wX ad cI cL) (tX cI cL) (zX b1 b2) wN [.ref (ad 0), .int w1] (fun M => qf_X6_best w1 M) :=
  rx_ofI (by decide) rfl wN_ok (Nat.le_of_ble_eq_true rfl) (fun _ _ _ _ _ _ _ _ _ _ _ _ _ cx hret hw hl hf => qk_X6_best_0 cx hret hw hl hf)
def rm_X7_partIn : Room := { frames := 0, cells := 0, slots := 0, locals := 0 }
noncomputable def qf_X7_partIn  (w0 : Int64) (w2 : Int32)  (M : Me) : Op :=
  some (Int64.toInt32 ((w0 >>> (Int32.toInt64 (4 * w2) &&& 63)) &&& 15), M)
section
variable {p : Program} {l : Launch} {e : Env} {s : State} {m : MethodId} {args : Array Value} {below : List Frame} {meth : Method} {c : Code} {Q : State → Prop} {D : va_G} {A : Nat → Prop} {o : Int32 × Me} {ad : Nat → Nat} {cI cL : ClassId} {b1 b2 : Nat}
set_option maxRecDepth 100000 in
set_option maxHeartbeats 4000000 in
theorem qk_X7_partIn_0 (cx : rx_C p m c cX7_partIn 3 s args wX7_partIn RX7 D vwCl (tY cI cL) [] wN A) (hret : rx_RI p l e rm_X7_partIn s m args below meth c cX7_partIn D vwCl (wY ad cI cL) A Q o) {w0 : Int64} {w2 : Int32} {ls : Array Slot} {H : Heap} {locs : List Loc} {M : Me} (hw : rx_W D vwCl (wY ad cI cL) A s.heap M H locs) (hl : lv_has ls 3 [(0, .long w0), (2, .int w2)]) (hf : qf_X7_partIn w0 w2 M = some o) : W p l e rm_X7_partIn s m args below meth c H locs 0 0 Q (F0 m 0 ls []) := by
  have hx := cx.1.1
  have hb := cx.1.2.1
  refine lv_lload_n hx hb dX7_partIn_0 rfl (lv_at hl 0 rfl) ?_
  refine lv_iconst (v := 4) hx hb dX7_partIn_1 ic_4 ?_
  refine lv_iload_n hx hb dX7_partIn_2 rfl (lv_at hl 1 rfl) ?_
  refine lv_imul hx hb dX7_partIn_3 ?_
  refine lv_lshr hx hb dX7_partIn_4 rfl ?_
  refine lv_ldc2 (v := 15) hx hb cx.1.2.2.2.1 (cx.1.2.2.2.2 _ (.tail _ tw_782)) dX7_partIn_5 ?_
  refine lv_land hx hb dX7_partIn_8 ?_
  refine lv_l2i hx hb dX7_partIn_9 rfl ?_
  exact rx_reti hret hw hf dX7_partIn_10
end
set_option maxRecDepth 100000 in
theorem qc_X7_partIn (l : Launch) (D : va_G) (ad : Nat → Nat) (cI cL : ClassId) (w0 : Int64) (w2 : Int32) : rx_MI l yX7_partIn wX7_partIn rm_X7_partIn D vwCl (wY ad cI cL) (tY cI cL) [] wN [.long w0, .int w2] (fun M => qf_X7_partIn w0 w2 M) :=
  rx_ofI (by decide) rfl wN_ok (Nat.le_of_ble_eq_true rfl) (fun _ _ _ _ _ _ _ _ _ _ _ _ _ cx hret hw hl hf => qk_X7_partIn_0 cx hret hw hl hf)
def rm_X7_kindIn : Room := { frames := 0, cells := 0, slots := 0, locals := 0 }
noncomputable def qf_X7_kindIn  (w0 : Int64) (w2 : Int32)  (M : Me) : Op :=
  some ((Int64.toInt32 ((w0 >>> (Int32.toInt64 (8 * w2) &&& 63)) &&& 255)) - (Int64.toInt32 ((w0 >>> (Int32.toInt64 (8 * w2) &&& 63)) &&& 255)) / 8 * 8, M)
section
variable {p : Program} {l : Launch} {e : Env} {s : State} {m : MethodId} {args : Array Value} {below : List Frame} {meth : Method} {c : Code} {Q : State → Prop} {D : va_G} {A : Nat → Prop} {o : Int32 × Me} {ad : Nat → Nat} {cI cL : ClassId} {b1 b2 : Nat}
set_option maxRecDepth 100000 in
set_option maxHeartbeats 4000000 in
theorem qk_X7_kindIn_0 (cx : rx_C p m c cX7_kindIn 3 s args wX7_kindIn RX7 D vwCl (tY cI cL) [] wN A) (hret : rx_RI p l e rm_X7_kindIn s m args below meth c cX7_kindIn D vwCl (wY ad cI cL) A Q o) {w0 : Int64} {w2 : Int32} {ls : Array Slot} {H : Heap} {locs : List Loc} {M : Me} (hw : rx_W D vwCl (wY ad cI cL) A s.heap M H locs) (hl : lv_has ls 3 [(0, .long w0), (2, .int w2)]) (hf : qf_X7_kindIn w0 w2 M = some o) : W p l e rm_X7_kindIn s m args below meth c H locs 0 0 Q (F0 m 0 ls []) := by
  have hx := cx.1.1
  have hb := cx.1.2.1
  refine lv_lload_n hx hb dX7_kindIn_0 rfl (lv_at hl 0 rfl) ?_
  refine lv_bipush (v := 8) hx hb dX7_kindIn_1 ib_8 ?_
  refine lv_iload_n hx hb dX7_kindIn_3 rfl (lv_at hl 1 rfl) ?_
  refine lv_imul hx hb dX7_kindIn_4 ?_
  refine lv_lshr hx hb dX7_kindIn_5 rfl ?_
  refine lv_ldc2 (v := 255) hx hb cx.1.2.2.2.1 (cx.1.2.2.2.2 _ (.tail _ tw_772)) dX7_kindIn_6 ?_
  refine lv_land hx hb dX7_kindIn_9 ?_
  refine lv_l2i hx hb dX7_kindIn_10 rfl ?_
  refine lv_bipush (v := 8) hx hb dX7_kindIn_11 ib_8 ?_
  refine lv_irem hx hb dX7_kindIn_13 nz_8 ?_
  exact rx_reti hret hw hf dX7_kindIn_14
end
set_option maxRecDepth 100000 in
theorem qc_X7_kindIn (l : Launch) (D : va_G) (ad : Nat → Nat) (cI cL : ClassId) (w0 : Int64) (w2 : Int32) : rx_MI l yX7_kindIn wX7_kindIn rm_X7_kindIn D vwCl (wY ad cI cL) (tY cI cL) [] wN [.long w0, .int w2] (fun M => qf_X7_kindIn w0 w2 M) :=
  rx_ofI (by decide) rfl wN_ok (Nat.le_of_ble_eq_true rfl) (fun _ _ _ _ _ _ _ _ _ _ _ _ _ cx hret hw hl hf => qk_X7_kindIn_0 cx hret hw hl hf)
def rm_X7_isKind : Room := { frames := 0, cells := 0, slots := 0, locals := 0 }
noncomputable def qb_X7_isKind_9  (w0 : Int32)  (M : Me) : Op :=
  if w0 = 9 then (rx_zb 1 (some (1, M))) else (rx_zb 0 (some (0, M)))
noncomputable def qf_X7_isKind  (w0 : Int32)  (M : Me) : Op :=
  if w0 < 0 then (qb_X7_isKind_9 w0 M) else (if w0 ≤ 4 then (rx_zb 1 (some (1, M))) else (qb_X7_isKind_9 w0 M))
section
variable {p : Program} {l : Launch} {e : Env} {s : State} {m : MethodId} {args : Array Value} {below : List Frame} {meth : Method} {c : Code} {Q : State → Prop} {D : va_G} {A : Nat → Prop} {o : Int32 × Me} {ad : Nat → Nat} {cI cL : ClassId} {b1 b2 : Nat}
set_option maxRecDepth 100000 in
set_option maxHeartbeats 4000000 in
theorem qk_X7_isKind_9 (cx : rx_C p m c cX7_isKind 1 s args wX7_isKind RX7 D vwCl (tY cI cL) [] wN A) (hret : rx_RZ p l e rm_X7_isKind s m args below meth c cX7_isKind D vwCl (wY ad cI cL) A Q o) {w0 : Int32} {ls : Array Slot} {H : Heap} {locs : List Loc} {M : Me} (hw : rx_W D vwCl (wY ad cI cL) A s.heap M H locs) (hl : lv_has ls 1 [(0, .int w0)]) (hf : qb_X7_isKind_9 w0 M = some o) : W p l e rm_X7_isKind s m args below meth c H locs 0 0 Q (F0 m 9 ls []) := by
  have hx := cx.1.1
  have hb := cx.1.2.1
  refine lv_iload_n hx hb dX7_isKind_9 rfl (lv_at hl 0 rfl) ?_
  refine lv_bipush (v := 9) hx hb dX7_isKind_10 ib_9 ?_
  refine lv_icmp_ne hx hb dX7_isKind_12 rfl (fun hc => ?_) (fun hc => ?_)
  · have hf := rx_f hc hf
    refine lv_iconst (v := 0) hx hb dX7_isKind_19 ic_0 ?_
    exact rx_retz hret hw hf dX7_isKind_20
  · have hf := rx_t hc hf
    refine lv_iconst (v := 1) hx hb dX7_isKind_15 ic_1 ?_
    refine lv_goto hx hb dX7_isKind_16 rfl ?_
    exact rx_retz hret hw hf dX7_isKind_20
set_option maxRecDepth 100000 in
set_option maxHeartbeats 4000000 in
theorem qk_X7_isKind_0 (cx : rx_C p m c cX7_isKind 1 s args wX7_isKind RX7 D vwCl (tY cI cL) [] wN A) (hret : rx_RZ p l e rm_X7_isKind s m args below meth c cX7_isKind D vwCl (wY ad cI cL) A Q o) {w0 : Int32} {ls : Array Slot} {H : Heap} {locs : List Loc} {M : Me} (hw : rx_W D vwCl (wY ad cI cL) A s.heap M H locs) (hl : lv_has ls 1 [(0, .int w0)]) (hf : qf_X7_isKind w0 M = some o) : W p l e rm_X7_isKind s m args below meth c H locs 0 0 Q (F0 m 0 ls []) := by
  have hx := cx.1.1
  have hb := cx.1.2.1
  refine lv_iload_n hx hb dX7_isKind_0 rfl (lv_at hl 0 rfl) ?_
  refine lv_if_lt hx hb dX7_isKind_1 rfl (fun hc => ?_) (fun hc => ?_)
  · have hf := rx_t hc hf
    exact (qk_X7_isKind_9 cx hret) hw hl hf
  · have hf := rx_f hc hf
    refine lv_iload_n hx hb dX7_isKind_4 rfl (lv_at hl 0 rfl) ?_
    refine lv_iconst (v := 4) hx hb dX7_isKind_5 ic_4 ?_
    refine lv_icmp_le hx hb dX7_isKind_6 rfl (fun hc => ?_) (fun hc => ?_)
    · have hf := rx_t hc hf
      refine lv_iconst (v := 1) hx hb dX7_isKind_15 ic_1 ?_
      refine lv_goto hx hb dX7_isKind_16 rfl ?_
      exact rx_retz hret hw hf dX7_isKind_20
    · have hf := rx_f hc hf
      exact (qk_X7_isKind_9 cx hret) hw hl hf
end
set_option maxRecDepth 100000 in
theorem qc_X7_isKind (l : Launch) (D : va_G) (ad : Nat → Nat) (cI cL : ClassId) (w0 : Int32) : rx_MI l yX7_isKind wX7_isKind rm_X7_isKind D vwCl (wY ad cI cL) (tY cI cL) [] wN [.int w0] (fun M => qf_X7_isKind w0 M) :=
  rx_ofZ (by decide) rfl wN_ok (Nat.le_of_ble_eq_true rfl) (fun _ _ _ _ _ _ _ _ _ _ _ _ _ cx hret hw hl hf => qk_X7_isKind_0 cx hret hw hl hf)
def rm_X7_isSide : Room := { frames := 1, cells := 0, slots := 0, locals := 22 }
noncomputable def qb_X7_isSide_57  (w2 : Int64) (w5 : Int32) (w6 : Int32) (w7 : Int32) (s0 : Int32) (M : Me) : Op :=
  if s0 = 0 then (rx_cl (qf_X7_kindIn w2 w5 M) fun r1 M2 => if r1 = 3 then (rx_cl (qf_X7_kindIn w2 w6 M2) fun r3 M4 => if r3 = 2 then (rx_cl (qf_X7_kindIn w2 w7 M4) fun r5 M6 => if r5 = 3 then (rx_zb 1 (some (1, M6))) else (rx_zb 0 (some (0, M6)))) else (rx_zb 0 (some (0, M4)))) else (rx_zb 0 (some (0, M2)))) else (rx_zb 1 (some (1, M)))
noncomputable def qf_X7_isSide  (w0 : Int64) (w2 : Int64) (w4 : Int32)  (M : Me) : Op :=
  rx_cl (qf_X7_partIn w0 w4 M) fun r1 M2 => rx_cl (qf_X7_partIn w0 (w4 + 1) M2) fun r3 M4 => rx_cl (qf_X7_partIn w0 (w4 + 2) M4) fun r5 M6 => if r1 = r3 then (if r3 = r5 then (rx_cl (qf_X7_kindIn w2 r1 M6) fun r7 M8 => if r7 = 2 then (qb_X7_isSide_57 w2 r1 r3 r5 0 M8) else (qb_X7_isSide_57 w2 r1 r3 r5 1 M8)) else (qb_X7_isSide_57 w2 r1 r3 r5 0 M6)) else (qb_X7_isSide_57 w2 r1 r3 r5 0 M6)
section
variable {p : Program} {l : Launch} {e : Env} {s : State} {m : MethodId} {args : Array Value} {below : List Frame} {meth : Method} {c : Code} {Q : State → Prop} {D : va_G} {A : Nat → Prop} {o : Int32 × Me} {ad : Nat → Nat} {cI cL : ClassId} {b1 b2 : Nat}
set_option maxRecDepth 100000 in
set_option maxHeartbeats 4000000 in
theorem qk_X7_isSide_57 (cx : rx_C p m c cX7_isSide 9 s args wX7_isSide RX7 D vwCl (tY cI cL) [] wN A) (hret : rx_RZ p l e rm_X7_isSide s m args below meth c cX7_isSide D vwCl (wY ad cI cL) A Q o) {w2 : Int64} {w5 : Int32} {w6 : Int32} {w7 : Int32} {s0 : Int32} {ls : Array Slot} {H : Heap} {locs : List Loc} {M : Me} (hw : rx_W D vwCl (wY ad cI cL) A s.heap M H locs) (hl : lv_has ls 9 [(2, .long w2), (5, .int w5), (6, .int w6), (7, .int w7)]) (hf : qb_X7_isSide_57 w2 w5 w6 w7 s0 M = some o) : W p l e rm_X7_isSide s m args below meth c H locs 0 0 Q (F0 m 57 ls [.int s0]) := by
  have hx := cx.1.1
  have hb := cx.1.2.1
  refine lv_istore (lv' := [(8, .int s0), (2, .long w2), (5, .int w5), (6, .int w6), (7, .int w7)]) hx hb dX7_isSide_57 hl (Nat.le_of_ble_eq_true rfl) rfl (fun ls hl => ?_)
  refine lv_iload hx hb dX7_isSide_59 (lv_at hl 0 rfl) ?_
  refine lv_if_ne hx hb dX7_isSide_61 rfl (fun hc => ?_) (fun hc => ?_)
  · have hf := rx_f hc hf
    refine lv_iconst (v := 1) hx hb dX7_isSide_94 ic_1 ?_
    refine lv_goto hx hb dX7_isSide_95 rfl ?_
    exact rx_retz hret hw hf dX7_isSide_99
  · have hf := rx_t hc hf
    refine lv_lload_n hx hb dX7_isSide_64 rfl (lv_at hl 1 rfl) ?_
    refine lv_iload hx hb dX7_isSide_65 (lv_at hl 2 rfl) ?_
    obtain ⟨r1, M2, er1, hf⟩ := rx_clI hf
    refine rx_jSi cx hw (qc_X7_kindIn l D ad cI cL w2 w5) kfX7_kindIn tw_776 ⟨Nat.le_of_ble_eq_true rfl, Nat.le_of_ble_eq_true rfl, rfl, rfl⟩ rfl hl.1 (Nat.le_of_ble_eq_true rfl) ⟨Nat.zero_le _, Nat.zero_le _⟩ dX7_isSide_67 rfl er1 (fun H locs hw => ?_)
    refine lv_iconst (v := 3) hx hb dX7_isSide_70 ic_3 ?_
    refine lv_icmp_ne hx hb dX7_isSide_71 rfl (fun hc => ?_) (fun hc => ?_)
    · have hf := rx_f hc hf
      refine lv_iconst (v := 0) hx hb dX7_isSide_98 ic_0 ?_
      exact rx_retz hret hw hf dX7_isSide_99
    · have hf := rx_t hc hf
      refine lv_lload_n hx hb dX7_isSide_74 rfl (lv_at hl 1 rfl) ?_
      refine lv_iload hx hb dX7_isSide_75 (lv_at hl 3 rfl) ?_
      obtain ⟨r3, M4, er3, hf⟩ := rx_clI hf
      refine rx_jSi cx hw (qc_X7_kindIn l D ad cI cL w2 w6) kfX7_kindIn tw_776 ⟨Nat.le_of_ble_eq_true rfl, Nat.le_of_ble_eq_true rfl, rfl, rfl⟩ rfl hl.1 (Nat.le_of_ble_eq_true rfl) ⟨Nat.zero_le _, Nat.zero_le _⟩ dX7_isSide_77 rfl er3 (fun H locs hw => ?_)
      refine lv_iconst (v := 2) hx hb dX7_isSide_80 ic_2 ?_
      refine lv_icmp_ne hx hb dX7_isSide_81 rfl (fun hc => ?_) (fun hc => ?_)
      · have hf := rx_f hc hf
        refine lv_iconst (v := 0) hx hb dX7_isSide_98 ic_0 ?_
        exact rx_retz hret hw hf dX7_isSide_99
      · have hf := rx_t hc hf
        refine lv_lload_n hx hb dX7_isSide_84 rfl (lv_at hl 1 rfl) ?_
        refine lv_iload hx hb dX7_isSide_85 (lv_at hl 4 rfl) ?_
        obtain ⟨r5, M6, er5, hf⟩ := rx_clI hf
        refine rx_jSi cx hw (qc_X7_kindIn l D ad cI cL w2 w7) kfX7_kindIn tw_776 ⟨Nat.le_of_ble_eq_true rfl, Nat.le_of_ble_eq_true rfl, rfl, rfl⟩ rfl hl.1 (Nat.le_of_ble_eq_true rfl) ⟨Nat.zero_le _, Nat.zero_le _⟩ dX7_isSide_87 rfl er5 (fun H locs hw => ?_)
        refine lv_iconst (v := 3) hx hb dX7_isSide_90 ic_3 ?_
        refine lv_icmp_ne hx hb dX7_isSide_91 rfl (fun hc => ?_) (fun hc => ?_)
        · have hf := rx_f hc hf
          refine lv_iconst (v := 0) hx hb dX7_isSide_98 ic_0 ?_
          exact rx_retz hret hw hf dX7_isSide_99
        · have hf := rx_t hc hf
          refine lv_iconst (v := 1) hx hb dX7_isSide_94 ic_1 ?_
          refine lv_goto hx hb dX7_isSide_95 rfl ?_
          exact rx_retz hret hw hf dX7_isSide_99
set_option maxRecDepth 100000 in
set_option maxHeartbeats 4000000 in
theorem qk_X7_isSide_0 (cx : rx_C p m c cX7_isSide 9 s args wX7_isSide RX7 D vwCl (tY cI cL) [] wN A) (hret : rx_RZ p l e rm_X7_isSide s m args below meth c cX7_isSide D vwCl (wY ad cI cL) A Q o) {w0 : Int64} {w2 : Int64} {w4 : Int32} {ls : Array Slot} {H : Heap} {locs : List Loc} {M : Me} (hw : rx_W D vwCl (wY ad cI cL) A s.heap M H locs) (hl : lv_has ls 9 [(0, .long w0), (2, .long w2), (4, .int w4)]) (hf : qf_X7_isSide w0 w2 w4 M = some o) : W p l e rm_X7_isSide s m args below meth c H locs 0 0 Q (F0 m 0 ls []) := by
  have hx := cx.1.1
  have hb := cx.1.2.1
  refine lv_lload_n hx hb dX7_isSide_0 rfl (lv_at hl 0 rfl) ?_
  refine lv_iload hx hb dX7_isSide_1 (lv_at hl 2 rfl) ?_
  obtain ⟨r1, M2, er1, hf⟩ := rx_clI hf
  refine rx_jSi cx hw (qc_X7_partIn l D ad cI cL w0 w4) kfX7_partIn tw_779 ⟨Nat.le_of_ble_eq_true rfl, Nat.le_of_ble_eq_true rfl, rfl, rfl⟩ rfl hl.1 (Nat.le_of_ble_eq_true rfl) ⟨Nat.zero_le _, Nat.zero_le _⟩ dX7_isSide_3 rfl er1 (fun H locs hw => ?_)
  refine lv_istore (lv' := [(5, .int r1), (0, .long w0), (2, .long w2), (4, .int w4)]) hx hb dX7_isSide_6 hl (Nat.le_of_ble_eq_true rfl) rfl (fun ls hl => ?_)
  refine lv_lload_n hx hb dX7_isSide_8 rfl (lv_at hl 1 rfl) ?_
  refine lv_iload hx hb dX7_isSide_9 (lv_at hl 3 rfl) ?_
  refine lv_iconst (v := 1) hx hb dX7_isSide_11 ic_1 ?_
  refine lv_iadd hx hb dX7_isSide_12 ?_
  obtain ⟨r3, M4, er3, hf⟩ := rx_clI hf
  refine rx_jSi cx hw (qc_X7_partIn l D ad cI cL w0 (w4 + 1)) kfX7_partIn tw_779 ⟨Nat.le_of_ble_eq_true rfl, Nat.le_of_ble_eq_true rfl, rfl, rfl⟩ rfl hl.1 (Nat.le_of_ble_eq_true rfl) ⟨Nat.zero_le _, Nat.zero_le _⟩ dX7_isSide_13 rfl er3 (fun H locs hw => ?_)
  refine lv_istore (lv' := [(6, .int r3), (5, .int r1), (0, .long w0), (2, .long w2), (4, .int w4)]) hx hb dX7_isSide_16 hl (Nat.le_of_ble_eq_true rfl) rfl (fun ls hl => ?_)
  refine lv_lload_n hx hb dX7_isSide_18 rfl (lv_at hl 2 rfl) ?_
  refine lv_iload hx hb dX7_isSide_19 (lv_at hl 4 rfl) ?_
  refine lv_iconst (v := 2) hx hb dX7_isSide_21 ic_2 ?_
  refine lv_iadd hx hb dX7_isSide_22 ?_
  obtain ⟨r5, M6, er5, hf⟩ := rx_clI hf
  refine rx_jSi cx hw (qc_X7_partIn l D ad cI cL w0 (w4 + 2)) kfX7_partIn tw_779 ⟨Nat.le_of_ble_eq_true rfl, Nat.le_of_ble_eq_true rfl, rfl, rfl⟩ rfl hl.1 (Nat.le_of_ble_eq_true rfl) ⟨Nat.zero_le _, Nat.zero_le _⟩ dX7_isSide_23 rfl er5 (fun H locs hw => ?_)
  refine lv_istore (lv' := [(7, .int r5), (6, .int r3), (5, .int r1), (0, .long w0), (2, .long w2), (4, .int w4)]) hx hb dX7_isSide_26 hl (Nat.le_of_ble_eq_true rfl) rfl (fun ls hl => ?_)
  refine lv_iload hx hb dX7_isSide_28 (lv_at hl 2 rfl) ?_
  refine lv_iload hx hb dX7_isSide_30 (lv_at hl 1 rfl) ?_
  refine lv_icmp_ne hx hb dX7_isSide_32 rfl (fun hc => ?_) (fun hc => ?_)
  · have hf := rx_f hc hf
    refine lv_iconst (v := 0) hx hb dX7_isSide_56 ic_0 ?_
    exact (qk_X7_isSide_57 cx hret) hw (lv_sub hl [4, 2, 1, 0] rfl) hf
  · have hf := rx_t hc hf
    refine lv_iload hx hb dX7_isSide_35 (lv_at hl 1 rfl) ?_
    refine lv_iload hx hb dX7_isSide_37 (lv_at hl 0 rfl) ?_
    refine lv_icmp_ne hx hb dX7_isSide_39 rfl (fun hc => ?_) (fun hc => ?_)
    · have hf := rx_f hc hf
      refine lv_iconst (v := 0) hx hb dX7_isSide_56 ic_0 ?_
      exact (qk_X7_isSide_57 cx hret) hw (lv_sub hl [4, 2, 1, 0] rfl) hf
    · have hf := rx_t hc hf
      refine lv_lload_n hx hb dX7_isSide_42 rfl (lv_at hl 4 rfl) ?_
      refine lv_iload hx hb dX7_isSide_43 (lv_at hl 2 rfl) ?_
      obtain ⟨r7, M8, er7, hf⟩ := rx_clI hf
      refine rx_jSi cx hw (qc_X7_kindIn l D ad cI cL w2 r1) kfX7_kindIn tw_776 ⟨Nat.le_of_ble_eq_true rfl, Nat.le_of_ble_eq_true rfl, rfl, rfl⟩ rfl hl.1 (Nat.le_of_ble_eq_true rfl) ⟨Nat.zero_le _, Nat.zero_le _⟩ dX7_isSide_45 rfl er7 (fun H locs hw => ?_)
      refine lv_iconst (v := 2) hx hb dX7_isSide_48 ic_2 ?_
      refine lv_icmp_eq hx hb dX7_isSide_49 rfl (fun hc => ?_) (fun hc => ?_)
      · have hf := rx_t hc hf
        refine lv_iconst (v := 0) hx hb dX7_isSide_56 ic_0 ?_
        exact (qk_X7_isSide_57 cx hret) hw (lv_sub hl [4, 2, 1, 0] rfl) hf
      · have hf := rx_f hc hf
        refine lv_iconst (v := 1) hx hb dX7_isSide_52 ic_1 ?_
        refine lv_goto hx hb dX7_isSide_53 rfl ?_
        exact (qk_X7_isSide_57 cx hret) hw (lv_sub hl [4, 2, 1, 0] rfl) hf
end
set_option maxRecDepth 100000 in
theorem qc_X7_isSide (l : Launch) (D : va_G) (ad : Nat → Nat) (cI cL : ClassId) (w0 : Int64) (w2 : Int64) (w4 : Int32) : rx_MI l yX7_isSide wX7_isSide rm_X7_isSide D vwCl (wY ad cI cL) (tY cI cL) [] wN [.long w0, .long w2, .int w4] (fun M => qf_X7_isSide w0 w2 w4 M) :=
  rx_ofZ (by decide) rfl wN_ok (Nat.le_of_ble_eq_true rfl) (fun _ _ _ _ _ _ _ _ _ _ _ _ _ cx hret hw hl hf => qk_X7_isSide_0 cx hret hw hl hf)
def rm_X7_isType : Room := { frames := 2, cells := 0, slots := 0, locals := 50 }
noncomputable def qb_X7_isType_78 (k22 : Int32 → Int32 → Int32 → Me → Op) (w0 : Int64) (w2 : Int64) (w4 : Int64) (w6 : Int32) (w8 : Int32) (s0 : Int32) (M : Me) : Op :=
  rx_vv (w8 + 1) fun v1 => k22 w6 s0 v1 M
noncomputable def qb_X7_isType_57 (k22 : Int32 → Int32 → Int32 → Me → Op) (w0 : Int64) (w2 : Int64) (w4 : Int64) (w7 : Int32) (w8 : Int32) (s0 : Int32) (M : Me) : Op :=
  rx_cl (qf_X7_kindIn w2 w8 M) fun r1 M2 => if r1 = 4 then (qb_X7_isType_78 k22 w0 w2 w4 s0 w8 (w7 + 1) M2) else (qb_X7_isType_78 k22 w0 w2 w4 s0 w8 w7 M2)
noncomputable def qo_X7_isType_22 (k86 : Int32 → Int32 → Me → Op) (w0 : Int64) (w2 : Int64) (w4 : Int64) (rec : Int32 → Int32 → Int32 → Me → Op) (w6 : Int32) (w7 : Int32) (w8 : Int32) (M : Me) : Op :=
  if 8 ≤ w8 then (k86 w6 w7 M) else (if w6 = 0 then (qb_X7_isType_57 rec w0 w2 w4 w7 w8 0 M) else (rx_cl (qf_X7_isKind (Int64.toInt32 ((w2 >>> (Int32.toInt64 (8 * w8) &&& 63)) &&& 255)) M) fun r1 M2 => if r1 = 0 then (qb_X7_isType_57 rec w0 w2 w4 w7 w8 0 M2) else (qb_X7_isType_57 rec w0 w2 w4 w7 w8 1 M2)))
noncomputable def qb_X7_isType_140 (k89 : Int32 → Int32 → Me → Op) (w0 : Int64) (w2 : Int64) (w4 : Int64) (w7 : Int32) (w8 : Int32) (s0 : Int32) (M : Me) : Op :=
  rx_vv (w8 + 1) fun v1 => k89 s0 v1 M
noncomputable def qo_X7_isType_89 (k148 : Int32 → Me → Op) (w0 : Int64) (w2 : Int64) (w4 : Int64) (w7 : Int32) (rec : Int32 → Int32 → Me → Op) (w6 : Int32) (w8 : Int32) (M : Me) : Op :=
  if 12 ≤ w8 then (k148 w6 M) else (if w6 = 0 then (k148 w6 M) else (rx_cl (qf_X7_partIn w0 w8 M) fun r1 M2 => if 8 ≤ r1 then (qb_X7_isType_140 rec w0 w2 w4 w7 w8 0 M2) else (rx_cl (qf_X7_kindIn w2 r1 M2) fun r3 M4 => if r3 ≤ 0 then (qb_X7_isType_140 rec w0 w2 w4 w7 w8 0 M4) else (rx_cl (qf_X7_kindIn w2 r1 M4) fun r5 M6 => if 4 ≤ r5 then (qb_X7_isType_140 rec w0 w2 w4 w7 w8 0 M6) else (qb_X7_isType_140 rec w0 w2 w4 w7 w8 1 M6)))))
noncomputable def qo_X7_isType_151 (k178 : Int32 → Me → Op) (w0 : Int64) (w2 : Int64) (w4 : Int64) (w7 : Int32) (rec : Int32 → Int32 → Me → Op) (w6 : Int32) (w8 : Int32) (M : Me) : Op :=
  if 12 ≤ w8 then (k178 w6 M) else (if w6 = 0 then (k178 w6 M) else (rx_cl (qf_X7_isSide w0 w2 w8 M) fun r1 M2 => rx_vv (w8 + 3) fun v3 => rec r1 v3 M2))
noncomputable def qb_X7_isType_250 (k222 : Int32 → Int32 → Me → Op) (w0 : Int64) (w2 : Int64) (w4 : Int64) (w7 : Int32) (w8 : Int32) (w9 : Int32) (w11 : Int32) (s0 : Int32) (M : Me) : Op :=
  rx_vv (w11 + 1) fun v1 => k222 s0 v1 M
noncomputable def qo_X7_isType_222 (k258 : Int32 → Me → Op) (w0 : Int64) (w2 : Int64) (w4 : Int64) (w7 : Int32) (w8 : Int32) (w9 : Int32) (rec : Int32 → Int32 → Me → Op) (w10 : Int32) (w11 : Int32) (M : Me) : Op :=
  if 12 ≤ w11 then (k258 w10 M) else (if w10 = 0 then (rx_cl (qf_X7_partIn w0 w11 M) fun r1 M2 => if r1 = w8 then (qb_X7_isType_250 rec w0 w2 w4 w7 w8 w9 w11 1 M2) else (qb_X7_isType_250 rec w0 w2 w4 w7 w8 w9 w11 0 M2)) else (qb_X7_isType_250 rec w0 w2 w4 w7 w8 w9 w11 1 M))
noncomputable def qb_X7_isType_336 (k299 : Int32 → Int32 → Me → Op) (w0 : Int64) (w2 : Int64) (w4 : Int64) (w7 : Int32) (w8 : Int32) (w11 : Int32) (w12 : Int32) (s0 : Int32) (M : Me) : Op :=
  rx_vv (w12 + 1) fun v1 => k299 s0 v1 M
noncomputable def qo_X7_isType_299 (k344 : Int32 → Me → Op) (w0 : Int64) (w2 : Int64) (w4 : Int64) (w7 : Int32) (w8 : Int32) (w11 : Int32) (rec : Int32 → Int32 → Me → Op) (w6 : Int32) (w12 : Int32) (M : Me) : Op :=
  if 8 ≤ w12 then (k344 w6 M) else (if w6 = 0 then (qb_X7_isType_336 rec w0 w2 w4 w7 w8 w11 w12 0 M) else (if ((w11 >>> (w12 &&& 31)) &&& 1) = 0 then (qb_X7_isType_336 rec w0 w2 w4 w7 w8 w11 w12 1 M) else (rx_cl (qf_X7_kindIn w2 w12 M) fun r1 M2 => if r1 = 1 then (qb_X7_isType_336 rec w0 w2 w4 w7 w8 w11 w12 1 M2) else (qb_X7_isType_336 rec w0 w2 w4 w7 w8 w11 w12 0 M2))))
noncomputable def qb_X7_isType_344 (k181 : Int32 → Int32 → Me → Op) (w0 : Int64) (w2 : Int64) (w4 : Int64) (w6 : Int32) (w7 : Int32) (w8 : Int32)  (M : Me) : Op :=
  rx_vv (w8 + 1) fun v1 => k181 w6 v1 M
noncomputable def qb_X7_isType_294 (k181 : Int32 → Int32 → Me → Op) (w0 : Int64) (w2 : Int64) (w4 : Int64) (w7 : Int32) (w8 : Int32) (w11 : Int32) (s0 : Int32) (M : Me) : Op :=
  rx_lp2 (qo_X7_isType_299 (fun a6 M => qb_X7_isType_344 k181 w0 w2 w4 a6 w7 w8 M) w0 w2 w4 w7 w8 w11) rx_FU s0 0 M
noncomputable def qb_X7_isType_258 (k181 : Int32 → Int32 → Me → Op) (w0 : Int64) (w2 : Int64) (w4 : Int64) (w7 : Int32) (w8 : Int32) (w9 : Int32) (w10 : Int32)  (M : Me) : Op :=
  rx_vv (Int64.toInt32 ((w4 >>> (Int32.toInt64 (8 * w8) &&& 63)) &&& 255)) fun v1 => if w10 = 0 then (qb_X7_isType_294 k181 w0 w2 w4 w7 w8 v1 0 M) else (if v1 = 0 then (qb_X7_isType_294 k181 w0 w2 w4 w7 w8 v1 1 M) else (if w9 = 3 then (qb_X7_isType_294 k181 w0 w2 w4 w7 w8 v1 1 M) else (qb_X7_isType_294 k181 w0 w2 w4 w7 w8 v1 0 M)))
noncomputable def qb_X7_isType_217 (k181 : Int32 → Int32 → Me → Op) (w0 : Int64) (w2 : Int64) (w4 : Int64) (w7 : Int32) (w8 : Int32) (w9 : Int32) (s0 : Int32) (M : Me) : Op :=
  rx_lp2 (qo_X7_isType_222 (fun a10 M => qb_X7_isType_258 k181 w0 w2 w4 w7 w8 w9 a10 M) w0 w2 w4 w7 w8 w9) rx_FU s0 0 M
noncomputable def qo_X7_isType_181 (k350 : Int32 → Me → Op) (w0 : Int64) (w2 : Int64) (w4 : Int64) (w7 : Int32) (rec : Int32 → Int32 → Me → Op) (w6 : Int32) (w8 : Int32) (M : Me) : Op :=
  if 8 ≤ w8 then (k350 w6 M) else (if w6 = 0 then (k350 w6 M) else (rx_cl (qf_X7_kindIn w2 w8 M) fun r1 M2 => if r1 = 0 then (qb_X7_isType_217 rec w0 w2 w4 w7 w8 r1 1 M2) else (if r1 = 4 then (qb_X7_isType_217 rec w0 w2 w4 w7 w8 r1 1 M2) else (qb_X7_isType_217 rec w0 w2 w4 w7 w8 r1 0 M2))))
noncomputable def qb_X7_isType_350  (w6 : Int32) (w7 : Int32)  (M : Me) : Op :=
  if w6 = 0 then (rx_zb 0 (some (0, M))) else (if 2 ≤ w7 then (rx_zb 0 (some (0, M))) else (rx_zb 1 (some (1, M))))
noncomputable def qb_X7_isType_178  (w0 : Int64) (w2 : Int64) (w4 : Int64) (w6 : Int32) (w7 : Int32)  (M : Me) : Op :=
  rx_lp2 (qo_X7_isType_181 (fun a6 M => qb_X7_isType_350 a6 w7 M) w0 w2 w4 w7) rx_FU w6 0 M
noncomputable def qb_X7_isType_148  (w0 : Int64) (w2 : Int64) (w4 : Int64) (w6 : Int32) (w7 : Int32)  (M : Me) : Op :=
  rx_lp2 (qo_X7_isType_151 (fun a6 M => qb_X7_isType_178 w0 w2 w4 a6 w7 M) w0 w2 w4 w7) rx_FU w6 0 M
noncomputable def qb_X7_isType_86  (w0 : Int64) (w2 : Int64) (w4 : Int64) (w6 : Int32) (w7 : Int32)  (M : Me) : Op :=
  rx_lp2 (qo_X7_isType_89 (fun a6 M => qb_X7_isType_148 w0 w2 w4 a6 w7 M) w0 w2 w4 w7) rx_FU w6 0 M
noncomputable def qb_X7_isType_14  (w0 : Int64) (w2 : Int64) (w4 : Int64) (s0 : Int32) (M : Me) : Op :=
  rx_lp3 (qo_X7_isType_22 (fun a6 a7 M => qb_X7_isType_86 w0 w2 w4 a6 a7 M) w0 w2 w4) rx_FU s0 0 0 M
noncomputable def qf_X7_isType  (w0 : Int64) (w2 : Int64) (w4 : Int64)  (M : Me) : Op :=
  if (lg_cmp (w0 >>> (Int32.toInt64 48 &&& 63)) 0) = 0 then (qb_X7_isType_14 w0 w2 w4 1 M) else (qb_X7_isType_14 w0 w2 w4 0 M)
section
variable {p : Program} {l : Launch} {e : Env} {s : State} {m : MethodId} {args : Array Value} {below : List Frame} {meth : Method} {c : Code} {Q : State → Prop} {D : va_G} {A : Nat → Prop} {o : Int32 × Me} {ad : Nat → Nat} {cI cL : ClassId} {b1 b2 : Nat}
set_option maxRecDepth 100000 in
set_option maxHeartbeats 4000000 in
theorem qk_X7_isType_78 (cx : rx_C p m c cX7_isType 13 s args wX7_isType RX7 D vwCl (tY cI cL) [] wN A) (hret : rx_RZ p l e rm_X7_isType s m args below meth c cX7_isType D vwCl (wY ad cI cL) A Q o) {w0 : Int64} {w2 : Int64} {w4 : Int64} {w6 : Int32} {w8 : Int32} {s0 : Int32} {k22 : Int32 → Int32 → Int32 → Me → Op} (h22 : ∀ {a6 : Int32} {a7 : Int32} {a8 : Int32} {ls : Array Slot} {H : Heap} {locs : List Loc} {M : Me}, rx_W D vwCl (wY ad cI cL) A s.heap M H locs → lv_has ls 13 [(0, .long w0), (2, .long w2), (4, .long w4), (6, .int a6), (7, .int a7), (8, .int a8)] → k22 a6 a7 a8 M = some o → W p l e rm_X7_isType s m args below meth c H locs 0 0 Q (F0 m 22 ls [])) {ls : Array Slot} {H : Heap} {locs : List Loc} {M : Me} (hw : rx_W D vwCl (wY ad cI cL) A s.heap M H locs) (hl : lv_has ls 13 [(0, .long w0), (2, .long w2), (4, .long w4), (6, .int w6), (8, .int w8)]) (hf : qb_X7_isType_78 k22 w0 w2 w4 w6 w8 s0 M = some o) : W p l e rm_X7_isType s m args below meth c H locs 0 0 Q (F0 m 78 ls [.int s0]) := by
  have hx := cx.1.1
  have hb := cx.1.2.1
  refine lv_istore (lv' := [(7, .int s0), (0, .long w0), (2, .long w2), (4, .long w4), (6, .int w6), (8, .int w8)]) hx hb dX7_isType_78 hl (Nat.le_of_ble_eq_true rfl) rfl (fun ls hl => ?_)
  obtain ⟨v1, ev1, hf⟩ := rx_vvI hf
  refine lv_iinc (lv' := [(8, .int v1), (7, .int s0), (0, .long w0), (2, .long w2), (4, .long w4), (6, .int w6)]) hx hb dX7_isType_80 hl (k := 5) rfl (rx_inc ic_1 ev1) (Nat.le_of_ble_eq_true rfl) rfl (fun ls hl => ?_)
  refine lv_goto hx hb dX7_isType_83 rfl ?_
  exact h22 hw (lv_sub hl [2, 3, 4, 5, 1, 0] rfl) hf
set_option maxRecDepth 100000 in
set_option maxHeartbeats 4000000 in
theorem qk_X7_isType_57 (cx : rx_C p m c cX7_isType 13 s args wX7_isType RX7 D vwCl (tY cI cL) [] wN A) (hret : rx_RZ p l e rm_X7_isType s m args below meth c cX7_isType D vwCl (wY ad cI cL) A Q o) {w0 : Int64} {w2 : Int64} {w4 : Int64} {w7 : Int32} {w8 : Int32} {s0 : Int32} {k22 : Int32 → Int32 → Int32 → Me → Op} (h22 : ∀ {a6 : Int32} {a7 : Int32} {a8 : Int32} {ls : Array Slot} {H : Heap} {locs : List Loc} {M : Me}, rx_W D vwCl (wY ad cI cL) A s.heap M H locs → lv_has ls 13 [(0, .long w0), (2, .long w2), (4, .long w4), (6, .int a6), (7, .int a7), (8, .int a8)] → k22 a6 a7 a8 M = some o → W p l e rm_X7_isType s m args below meth c H locs 0 0 Q (F0 m 22 ls [])) {ls : Array Slot} {H : Heap} {locs : List Loc} {M : Me} (hw : rx_W D vwCl (wY ad cI cL) A s.heap M H locs) (hl : lv_has ls 13 [(0, .long w0), (2, .long w2), (4, .long w4), (7, .int w7), (8, .int w8)]) (hf : qb_X7_isType_57 k22 w0 w2 w4 w7 w8 s0 M = some o) : W p l e rm_X7_isType s m args below meth c H locs 0 0 Q (F0 m 57 ls [.int s0]) := by
  have hx := cx.1.1
  have hb := cx.1.2.1
  refine lv_istore (lv' := [(6, .int s0), (0, .long w0), (2, .long w2), (4, .long w4), (7, .int w7), (8, .int w8)]) hx hb dX7_isType_57 hl (Nat.le_of_ble_eq_true rfl) rfl (fun ls hl => ?_)
  refine lv_lload_n hx hb dX7_isType_59 rfl (lv_at hl 2 rfl) ?_
  refine lv_iload hx hb dX7_isType_60 (lv_at hl 5 rfl) ?_
  obtain ⟨r1, M2, er1, hf⟩ := rx_clI hf
  refine rx_jSi cx hw (qc_X7_kindIn l D ad cI cL w2 w8) kfX7_kindIn tw_776 ⟨Nat.le_of_ble_eq_true rfl, Nat.le_of_ble_eq_true rfl, rfl, rfl⟩ rfl hl.1 (Nat.le_of_ble_eq_true rfl) ⟨Nat.zero_le _, Nat.zero_le _⟩ dX7_isType_62 rfl er1 (fun H locs hw => ?_)
  refine lv_iconst (v := 4) hx hb dX7_isType_65 ic_4 ?_
  refine lv_icmp_ne hx hb dX7_isType_66 rfl (fun hc => ?_) (fun hc => ?_)
  · have hf := rx_f hc hf
    refine lv_iload hx hb dX7_isType_76 (lv_at hl 4 rfl) ?_
    exact (qk_X7_isType_78 cx hret h22) hw (lv_sub hl [1, 2, 3, 0, 5] rfl) hf
  · have hf := rx_t hc hf
    refine lv_iload hx hb dX7_isType_69 (lv_at hl 4 rfl) ?_
    refine lv_iconst (v := 1) hx hb dX7_isType_71 ic_1 ?_
    refine lv_iadd hx hb dX7_isType_72 ?_
    refine lv_goto hx hb dX7_isType_73 rfl ?_
    exact (qk_X7_isType_78 cx hret h22) hw (lv_sub hl [1, 2, 3, 0, 5] rfl) hf
set_option maxRecDepth 100000 in
set_option maxHeartbeats 4000000 in
theorem qk_X7_isType_22 (cx : rx_C p m c cX7_isType 13 s args wX7_isType RX7 D vwCl (tY cI cL) [] wN A) (hret : rx_RZ p l e rm_X7_isType s m args below meth c cX7_isType D vwCl (wY ad cI cL) A Q o) {w0 : Int64} {w2 : Int64} {w4 : Int64} {k86 : Int32 → Int32 → Me → Op} (h86 : ∀ {a6 : Int32} {a7 : Int32} {ls : Array Slot} {H : Heap} {locs : List Loc} {M : Me}, rx_W D vwCl (wY ad cI cL) A s.heap M H locs → lv_has ls 13 [(0, .long w0), (2, .long w2), (4, .long w4), (6, .int a6), (7, .int a7)] → k86 a6 a7 M = some o → W p l e rm_X7_isType s m args below meth c H locs 0 0 Q (F0 m 86 ls [])) : ∀ (n : Nat) {w6 : Int32} {w7 : Int32} {w8 : Int32} {ls : Array Slot} {H : Heap} {locs : List Loc} {M : Me}, rx_W D vwCl (wY ad cI cL) A s.heap M H locs → lv_has ls 13 [(0, .long w0), (2, .long w2), (4, .long w4), (6, .int w6), (7, .int w7), (8, .int w8)] → rx_lp3 (qo_X7_isType_22 k86 w0 w2 w4) n w6 w7 w8 M = some o → W p l e rm_X7_isType s m args below meth c H locs 0 0 Q (F0 m 22 ls []) := by
  have hx := cx.1.1
  have hb := cx.1.2.1
  intro n
  induction n with
  | zero => intro w6 w7 w8 ls H locs M hw hl hf; exact rx_no hf
  | succ n ih =>
    intro w6 w7 w8 ls H locs M hw hl hf
    have hf : qo_X7_isType_22 k86 w0 w2 w4 (rx_lp3 (qo_X7_isType_22 k86 w0 w2 w4) n) w6 w7 w8 M = some o := hf
    refine lv_iload hx hb dX7_isType_22 (lv_at hl 5 rfl) ?_
    refine lv_bipush (v := 8) hx hb dX7_isType_24 ib_8 ?_
    refine lv_icmp_ge hx hb dX7_isType_26 rfl (fun hc => ?_) (fun hc => ?_)
    · have hf := rx_t hc hf
      exact h86 hw (lv_sub hl [0, 1, 2, 3, 4] rfl) hf
    · have hf := rx_f hc hf
      refine lv_iload hx hb dX7_isType_29 (lv_at hl 3 rfl) ?_
      refine lv_if_eq hx hb dX7_isType_31 rfl (fun hc => ?_) (fun hc => ?_)
      · have hf := rx_t hc hf
        refine lv_iconst (v := 0) hx hb dX7_isType_56 ic_0 ?_
        exact (qk_X7_isType_57 cx hret ih) hw (lv_sub hl [0, 1, 2, 4, 5] rfl) hf
      · have hf := rx_f hc hf
        refine lv_lload_n hx hb dX7_isType_34 rfl (lv_at hl 1 rfl) ?_
        refine lv_bipush (v := 8) hx hb dX7_isType_35 ib_8 ?_
        refine lv_iload hx hb dX7_isType_37 (lv_at hl 5 rfl) ?_
        refine lv_imul hx hb dX7_isType_39 ?_
        refine lv_lshr hx hb dX7_isType_40 rfl ?_
        refine lv_ldc2 (v := 255) hx hb cx.1.2.2.2.1 (cx.1.2.2.2.2 _ (.tail _ tw_772)) dX7_isType_41 ?_
        refine lv_land hx hb dX7_isType_44 ?_
        refine lv_l2i hx hb dX7_isType_45 rfl ?_
        obtain ⟨r1, M2, er1, hf⟩ := rx_clI hf
        refine rx_jSi cx hw (qc_X7_isKind l D ad cI cL (Int64.toInt32 ((w2 >>> (Int32.toInt64 (8 * w8) &&& 63)) &&& 255))) kfX7_isKind tw_773 ⟨Nat.le_of_ble_eq_true rfl, Nat.le_of_ble_eq_true rfl, rfl, rfl⟩ rfl hl.1 (Nat.le_of_ble_eq_true rfl) ⟨Nat.zero_le _, Nat.zero_le _⟩ dX7_isType_46 rfl er1 (fun H locs hw => ?_)
        refine lv_if_eq hx hb dX7_isType_49 rfl (fun hc => ?_) (fun hc => ?_)
        · have hf := rx_t hc hf
          refine lv_iconst (v := 0) hx hb dX7_isType_56 ic_0 ?_
          exact (qk_X7_isType_57 cx hret ih) hw (lv_sub hl [0, 1, 2, 4, 5] rfl) hf
        · have hf := rx_f hc hf
          refine lv_iconst (v := 1) hx hb dX7_isType_52 ic_1 ?_
          refine lv_goto hx hb dX7_isType_53 rfl ?_
          exact (qk_X7_isType_57 cx hret ih) hw (lv_sub hl [0, 1, 2, 4, 5] rfl) hf
set_option maxRecDepth 100000 in
set_option maxHeartbeats 4000000 in
theorem qk_X7_isType_140 (cx : rx_C p m c cX7_isType 13 s args wX7_isType RX7 D vwCl (tY cI cL) [] wN A) (hret : rx_RZ p l e rm_X7_isType s m args below meth c cX7_isType D vwCl (wY ad cI cL) A Q o) {w0 : Int64} {w2 : Int64} {w4 : Int64} {w7 : Int32} {w8 : Int32} {s0 : Int32} {k89 : Int32 → Int32 → Me → Op} (h89 : ∀ {a6 : Int32} {a8 : Int32} {ls : Array Slot} {H : Heap} {locs : List Loc} {M : Me}, rx_W D vwCl (wY ad cI cL) A s.heap M H locs → lv_has ls 13 [(0, .long w0), (2, .long w2), (4, .long w4), (6, .int a6), (7, .int w7), (8, .int a8)] → k89 a6 a8 M = some o → W p l e rm_X7_isType s m args below meth c H locs 0 0 Q (F0 m 89 ls [])) {ls : Array Slot} {H : Heap} {locs : List Loc} {M : Me} (hw : rx_W D vwCl (wY ad cI cL) A s.heap M H locs) (hl : lv_has ls 13 [(0, .long w0), (2, .long w2), (4, .long w4), (7, .int w7), (8, .int w8)]) (hf : qb_X7_isType_140 k89 w0 w2 w4 w7 w8 s0 M = some o) : W p l e rm_X7_isType s m args below meth c H locs 0 0 Q (F0 m 140 ls [.int s0]) := by
  have hx := cx.1.1
  have hb := cx.1.2.1
  refine lv_istore (lv' := [(6, .int s0), (0, .long w0), (2, .long w2), (4, .long w4), (7, .int w7), (8, .int w8)]) hx hb dX7_isType_140 hl (Nat.le_of_ble_eq_true rfl) rfl (fun ls hl => ?_)
  obtain ⟨v1, ev1, hf⟩ := rx_vvI hf
  refine lv_iinc (lv' := [(8, .int v1), (6, .int s0), (0, .long w0), (2, .long w2), (4, .long w4), (7, .int w7)]) hx hb dX7_isType_142 hl (k := 5) rfl (rx_inc ic_1 ev1) (Nat.le_of_ble_eq_true rfl) rfl (fun ls hl => ?_)
  refine lv_goto hx hb dX7_isType_145 rfl ?_
  exact h89 hw (lv_sub hl [2, 3, 4, 1, 5, 0] rfl) hf
set_option maxRecDepth 100000 in
set_option maxHeartbeats 4000000 in
theorem qk_X7_isType_89 (cx : rx_C p m c cX7_isType 13 s args wX7_isType RX7 D vwCl (tY cI cL) [] wN A) (hret : rx_RZ p l e rm_X7_isType s m args below meth c cX7_isType D vwCl (wY ad cI cL) A Q o) {w0 : Int64} {w2 : Int64} {w4 : Int64} {w7 : Int32} {k148 : Int32 → Me → Op} (h148 : ∀ {a6 : Int32} {ls : Array Slot} {H : Heap} {locs : List Loc} {M : Me}, rx_W D vwCl (wY ad cI cL) A s.heap M H locs → lv_has ls 13 [(0, .long w0), (2, .long w2), (4, .long w4), (6, .int a6), (7, .int w7)] → k148 a6 M = some o → W p l e rm_X7_isType s m args below meth c H locs 0 0 Q (F0 m 148 ls [])) : ∀ (n : Nat) {w6 : Int32} {w8 : Int32} {ls : Array Slot} {H : Heap} {locs : List Loc} {M : Me}, rx_W D vwCl (wY ad cI cL) A s.heap M H locs → lv_has ls 13 [(0, .long w0), (2, .long w2), (4, .long w4), (6, .int w6), (7, .int w7), (8, .int w8)] → rx_lp2 (qo_X7_isType_89 k148 w0 w2 w4 w7) n w6 w8 M = some o → W p l e rm_X7_isType s m args below meth c H locs 0 0 Q (F0 m 89 ls []) := by
  have hx := cx.1.1
  have hb := cx.1.2.1
  intro n
  induction n with
  | zero => intro w6 w8 ls H locs M hw hl hf; exact rx_no hf
  | succ n ih =>
    intro w6 w8 ls H locs M hw hl hf
    have hf : qo_X7_isType_89 k148 w0 w2 w4 w7 (rx_lp2 (qo_X7_isType_89 k148 w0 w2 w4 w7) n) w6 w8 M = some o := hf
    refine lv_iload hx hb dX7_isType_89 (lv_at hl 5 rfl) ?_
    refine lv_bipush (v := 12) hx hb dX7_isType_91 ib_12 ?_
    refine lv_icmp_ge hx hb dX7_isType_93 rfl (fun hc => ?_) (fun hc => ?_)
    · have hf := rx_t hc hf
      exact h148 hw (lv_sub hl [0, 1, 2, 3, 4] rfl) hf
    · have hf := rx_f hc hf
      refine lv_iload hx hb dX7_isType_96 (lv_at hl 3 rfl) ?_
      refine lv_if_eq hx hb dX7_isType_98 rfl (fun hc => ?_) (fun hc => ?_)
      · have hf := rx_t hc hf
        exact h148 hw (lv_sub hl [0, 1, 2, 3, 4] rfl) hf
      · have hf := rx_f hc hf
        refine lv_lload_n hx hb dX7_isType_101 rfl (lv_at hl 0 rfl) ?_
        refine lv_iload hx hb dX7_isType_102 (lv_at hl 5 rfl) ?_
        obtain ⟨r1, M2, er1, hf⟩ := rx_clI hf
        refine rx_jSi cx hw (qc_X7_partIn l D ad cI cL w0 w8) kfX7_partIn tw_779 ⟨Nat.le_of_ble_eq_true rfl, Nat.le_of_ble_eq_true rfl, rfl, rfl⟩ rfl hl.1 (Nat.le_of_ble_eq_true rfl) ⟨Nat.zero_le _, Nat.zero_le _⟩ dX7_isType_104 rfl er1 (fun H locs hw => ?_)
        refine lv_istore (lv' := [(9, .int r1), (0, .long w0), (2, .long w2), (4, .long w4), (6, .int w6), (7, .int w7), (8, .int w8)]) hx hb dX7_isType_107 hl (Nat.le_of_ble_eq_true rfl) rfl (fun ls hl => ?_)
        refine lv_iload hx hb dX7_isType_109 (lv_at hl 0 rfl) ?_
        refine lv_bipush (v := 8) hx hb dX7_isType_111 ib_8 ?_
        refine lv_icmp_ge hx hb dX7_isType_113 rfl (fun hc => ?_) (fun hc => ?_)
        · have hf := rx_t hc hf
          refine lv_iconst (v := 0) hx hb dX7_isType_139 ic_0 ?_
          exact (qk_X7_isType_140 cx hret ih) hw (lv_sub hl [1, 2, 3, 5, 6] rfl) hf
        · have hf := rx_f hc hf
          refine lv_lload_n hx hb dX7_isType_116 rfl (lv_at hl 2 rfl) ?_
          refine lv_iload hx hb dX7_isType_117 (lv_at hl 0 rfl) ?_
          obtain ⟨r3, M4, er3, hf⟩ := rx_clI hf
          refine rx_jSi cx hw (qc_X7_kindIn l D ad cI cL w2 r1) kfX7_kindIn tw_776 ⟨Nat.le_of_ble_eq_true rfl, Nat.le_of_ble_eq_true rfl, rfl, rfl⟩ rfl hl.1 (Nat.le_of_ble_eq_true rfl) ⟨Nat.zero_le _, Nat.zero_le _⟩ dX7_isType_119 rfl er3 (fun H locs hw => ?_)
          refine lv_if_le hx hb dX7_isType_122 rfl (fun hc => ?_) (fun hc => ?_)
          · have hf := rx_t hc hf
            refine lv_iconst (v := 0) hx hb dX7_isType_139 ic_0 ?_
            exact (qk_X7_isType_140 cx hret ih) hw (lv_sub hl [1, 2, 3, 5, 6] rfl) hf
          · have hf := rx_f hc hf
            refine lv_lload_n hx hb dX7_isType_125 rfl (lv_at hl 2 rfl) ?_
            refine lv_iload hx hb dX7_isType_126 (lv_at hl 0 rfl) ?_
            obtain ⟨r5, M6, er5, hf⟩ := rx_clI hf
            refine rx_jSi cx hw (qc_X7_kindIn l D ad cI cL w2 r1) kfX7_kindIn tw_776 ⟨Nat.le_of_ble_eq_true rfl, Nat.le_of_ble_eq_true rfl, rfl, rfl⟩ rfl hl.1 (Nat.le_of_ble_eq_true rfl) ⟨Nat.zero_le _, Nat.zero_le _⟩ dX7_isType_128 rfl er5 (fun H locs hw => ?_)
            refine lv_iconst (v := 4) hx hb dX7_isType_131 ic_4 ?_
            refine lv_icmp_ge hx hb dX7_isType_132 rfl (fun hc => ?_) (fun hc => ?_)
            · have hf := rx_t hc hf
              refine lv_iconst (v := 0) hx hb dX7_isType_139 ic_0 ?_
              exact (qk_X7_isType_140 cx hret ih) hw (lv_sub hl [1, 2, 3, 5, 6] rfl) hf
            · have hf := rx_f hc hf
              refine lv_iconst (v := 1) hx hb dX7_isType_135 ic_1 ?_
              refine lv_goto hx hb dX7_isType_136 rfl ?_
              exact (qk_X7_isType_140 cx hret ih) hw (lv_sub hl [1, 2, 3, 5, 6] rfl) hf
set_option maxRecDepth 100000 in
set_option maxHeartbeats 4000000 in
theorem qk_X7_isType_151 (cx : rx_C p m c cX7_isType 13 s args wX7_isType RX7 D vwCl (tY cI cL) [] wN A) (hret : rx_RZ p l e rm_X7_isType s m args below meth c cX7_isType D vwCl (wY ad cI cL) A Q o) {w0 : Int64} {w2 : Int64} {w4 : Int64} {w7 : Int32} {k178 : Int32 → Me → Op} (h178 : ∀ {a6 : Int32} {ls : Array Slot} {H : Heap} {locs : List Loc} {M : Me}, rx_W D vwCl (wY ad cI cL) A s.heap M H locs → lv_has ls 13 [(0, .long w0), (2, .long w2), (4, .long w4), (6, .int a6), (7, .int w7)] → k178 a6 M = some o → W p l e rm_X7_isType s m args below meth c H locs 0 0 Q (F0 m 178 ls [])) : ∀ (n : Nat) {w6 : Int32} {w8 : Int32} {ls : Array Slot} {H : Heap} {locs : List Loc} {M : Me}, rx_W D vwCl (wY ad cI cL) A s.heap M H locs → lv_has ls 13 [(0, .long w0), (2, .long w2), (4, .long w4), (6, .int w6), (7, .int w7), (8, .int w8)] → rx_lp2 (qo_X7_isType_151 k178 w0 w2 w4 w7) n w6 w8 M = some o → W p l e rm_X7_isType s m args below meth c H locs 0 0 Q (F0 m 151 ls []) := by
  have hx := cx.1.1
  have hb := cx.1.2.1
  intro n
  induction n with
  | zero => intro w6 w8 ls H locs M hw hl hf; exact rx_no hf
  | succ n ih =>
    intro w6 w8 ls H locs M hw hl hf
    have hf : qo_X7_isType_151 k178 w0 w2 w4 w7 (rx_lp2 (qo_X7_isType_151 k178 w0 w2 w4 w7) n) w6 w8 M = some o := hf
    refine lv_iload hx hb dX7_isType_151 (lv_at hl 5 rfl) ?_
    refine lv_bipush (v := 12) hx hb dX7_isType_153 ib_12 ?_
    refine lv_icmp_ge hx hb dX7_isType_155 rfl (fun hc => ?_) (fun hc => ?_)
    · have hf := rx_t hc hf
      exact h178 hw (lv_sub hl [0, 1, 2, 3, 4] rfl) hf
    · have hf := rx_f hc hf
      refine lv_iload hx hb dX7_isType_158 (lv_at hl 3 rfl) ?_
      refine lv_if_eq hx hb dX7_isType_160 rfl (fun hc => ?_) (fun hc => ?_)
      · have hf := rx_t hc hf
        exact h178 hw (lv_sub hl [0, 1, 2, 3, 4] rfl) hf
      · have hf := rx_f hc hf
        refine lv_lload_n hx hb dX7_isType_163 rfl (lv_at hl 0 rfl) ?_
        refine lv_lload_n hx hb dX7_isType_164 rfl (lv_at hl 1 rfl) ?_
        refine lv_iload hx hb dX7_isType_165 (lv_at hl 5 rfl) ?_
        obtain ⟨r1, M2, er1, hf⟩ := rx_clI hf
        refine rx_jSi cx hw (qc_X7_isSide l D ad cI cL w0 w2 w8) kfX7_isSide tw_783 ⟨Nat.le_of_ble_eq_true rfl, Nat.le_of_ble_eq_true rfl, rfl, rfl⟩ rfl hl.1 (Nat.le_of_ble_eq_true rfl) ⟨Nat.zero_le _, Nat.zero_le _⟩ dX7_isType_167 rfl er1 (fun H locs hw => ?_)
        refine lv_istore (lv' := [(6, .int r1), (0, .long w0), (2, .long w2), (4, .long w4), (7, .int w7), (8, .int w8)]) hx hb dX7_isType_170 hl (Nat.le_of_ble_eq_true rfl) rfl (fun ls hl => ?_)
        obtain ⟨v3, ev3, hf⟩ := rx_vvI hf
        refine lv_iinc (lv' := [(8, .int v3), (6, .int r1), (0, .long w0), (2, .long w2), (4, .long w4), (7, .int w7)]) hx hb dX7_isType_172 hl (k := 5) rfl (rx_inc ic_3 ev3) (Nat.le_of_ble_eq_true rfl) rfl (fun ls hl => ?_)
        refine lv_goto hx hb dX7_isType_175 rfl ?_
        exact ih hw (lv_sub hl [2, 3, 4, 1, 5, 0] rfl) hf
set_option maxRecDepth 100000 in
set_option maxHeartbeats 4000000 in
theorem qk_X7_isType_250 (cx : rx_C p m c cX7_isType 13 s args wX7_isType RX7 D vwCl (tY cI cL) [] wN A) (hret : rx_RZ p l e rm_X7_isType s m args below meth c cX7_isType D vwCl (wY ad cI cL) A Q o) {w0 : Int64} {w2 : Int64} {w4 : Int64} {w7 : Int32} {w8 : Int32} {w9 : Int32} {w11 : Int32} {s0 : Int32} {k222 : Int32 → Int32 → Me → Op} (h222 : ∀ {a10 : Int32} {a11 : Int32} {ls : Array Slot} {H : Heap} {locs : List Loc} {M : Me}, rx_W D vwCl (wY ad cI cL) A s.heap M H locs → lv_has ls 13 [(0, .long w0), (2, .long w2), (4, .long w4), (7, .int w7), (8, .int w8), (9, .int w9), (10, .int a10), (11, .int a11)] → k222 a10 a11 M = some o → W p l e rm_X7_isType s m args below meth c H locs 0 0 Q (F0 m 222 ls [])) {ls : Array Slot} {H : Heap} {locs : List Loc} {M : Me} (hw : rx_W D vwCl (wY ad cI cL) A s.heap M H locs) (hl : lv_has ls 13 [(0, .long w0), (2, .long w2), (4, .long w4), (7, .int w7), (8, .int w8), (9, .int w9), (11, .int w11)]) (hf : qb_X7_isType_250 k222 w0 w2 w4 w7 w8 w9 w11 s0 M = some o) : W p l e rm_X7_isType s m args below meth c H locs 0 0 Q (F0 m 250 ls [.int s0]) := by
  have hx := cx.1.1
  have hb := cx.1.2.1
  refine lv_istore (lv' := [(10, .int s0), (0, .long w0), (2, .long w2), (4, .long w4), (7, .int w7), (8, .int w8), (9, .int w9), (11, .int w11)]) hx hb dX7_isType_250 hl (Nat.le_of_ble_eq_true rfl) rfl (fun ls hl => ?_)
  obtain ⟨v1, ev1, hf⟩ := rx_vvI hf
  refine lv_iinc (lv' := [(11, .int v1), (10, .int s0), (0, .long w0), (2, .long w2), (4, .long w4), (7, .int w7), (8, .int w8), (9, .int w9)]) hx hb dX7_isType_252 hl (k := 7) rfl (rx_inc ic_1 ev1) (Nat.le_of_ble_eq_true rfl) rfl (fun ls hl => ?_)
  refine lv_goto hx hb dX7_isType_255 rfl ?_
  exact h222 hw (lv_sub hl [2, 3, 4, 5, 6, 7, 1, 0] rfl) hf
set_option maxRecDepth 100000 in
set_option maxHeartbeats 4000000 in
theorem qk_X7_isType_222 (cx : rx_C p m c cX7_isType 13 s args wX7_isType RX7 D vwCl (tY cI cL) [] wN A) (hret : rx_RZ p l e rm_X7_isType s m args below meth c cX7_isType D vwCl (wY ad cI cL) A Q o) {w0 : Int64} {w2 : Int64} {w4 : Int64} {w7 : Int32} {w8 : Int32} {w9 : Int32} {k258 : Int32 → Me → Op} (h258 : ∀ {a10 : Int32} {ls : Array Slot} {H : Heap} {locs : List Loc} {M : Me}, rx_W D vwCl (wY ad cI cL) A s.heap M H locs → lv_has ls 13 [(0, .long w0), (2, .long w2), (4, .long w4), (7, .int w7), (8, .int w8), (9, .int w9), (10, .int a10)] → k258 a10 M = some o → W p l e rm_X7_isType s m args below meth c H locs 0 0 Q (F0 m 258 ls [])) : ∀ (n : Nat) {w10 : Int32} {w11 : Int32} {ls : Array Slot} {H : Heap} {locs : List Loc} {M : Me}, rx_W D vwCl (wY ad cI cL) A s.heap M H locs → lv_has ls 13 [(0, .long w0), (2, .long w2), (4, .long w4), (7, .int w7), (8, .int w8), (9, .int w9), (10, .int w10), (11, .int w11)] → rx_lp2 (qo_X7_isType_222 k258 w0 w2 w4 w7 w8 w9) n w10 w11 M = some o → W p l e rm_X7_isType s m args below meth c H locs 0 0 Q (F0 m 222 ls []) := by
  have hx := cx.1.1
  have hb := cx.1.2.1
  intro n
  induction n with
  | zero => intro w10 w11 ls H locs M hw hl hf; exact rx_no hf
  | succ n ih =>
    intro w10 w11 ls H locs M hw hl hf
    have hf : qo_X7_isType_222 k258 w0 w2 w4 w7 w8 w9 (rx_lp2 (qo_X7_isType_222 k258 w0 w2 w4 w7 w8 w9) n) w10 w11 M = some o := hf
    refine lv_iload hx hb dX7_isType_222 (lv_at hl 7 rfl) ?_
    refine lv_bipush (v := 12) hx hb dX7_isType_224 ib_12 ?_
    refine lv_icmp_ge hx hb dX7_isType_226 rfl (fun hc => ?_) (fun hc => ?_)
    · have hf := rx_t hc hf
      exact h258 hw (lv_sub hl [0, 1, 2, 3, 4, 5, 6] rfl) hf
    · have hf := rx_f hc hf
      refine lv_iload hx hb dX7_isType_229 (lv_at hl 6 rfl) ?_
      refine lv_if_ne hx hb dX7_isType_231 rfl (fun hc => ?_) (fun hc => ?_)
      · have hf := rx_f hc hf
        refine lv_iconst (v := 1) hx hb dX7_isType_245 ic_1 ?_
        refine lv_goto hx hb dX7_isType_246 rfl ?_
        exact (qk_X7_isType_250 cx hret ih) hw (lv_sub hl [0, 1, 2, 3, 4, 5, 7] rfl) hf
      · have hf := rx_t hc hf
        refine lv_lload_n hx hb dX7_isType_234 rfl (lv_at hl 0 rfl) ?_
        refine lv_iload hx hb dX7_isType_235 (lv_at hl 7 rfl) ?_
        obtain ⟨r1, M2, er1, hf⟩ := rx_clI hf
        refine rx_jSi cx hw (qc_X7_partIn l D ad cI cL w0 w11) kfX7_partIn tw_779 ⟨Nat.le_of_ble_eq_true rfl, Nat.le_of_ble_eq_true rfl, rfl, rfl⟩ rfl hl.1 (Nat.le_of_ble_eq_true rfl) ⟨Nat.zero_le _, Nat.zero_le _⟩ dX7_isType_237 rfl er1 (fun H locs hw => ?_)
        refine lv_iload hx hb dX7_isType_240 (lv_at hl 4 rfl) ?_
        refine lv_icmp_ne hx hb dX7_isType_242 rfl (fun hc => ?_) (fun hc => ?_)
        · have hf := rx_f hc hf
          refine lv_iconst (v := 0) hx hb dX7_isType_249 ic_0 ?_
          exact (qk_X7_isType_250 cx hret ih) hw (lv_sub hl [0, 1, 2, 3, 4, 5, 7] rfl) hf
        · have hf := rx_t hc hf
          refine lv_iconst (v := 1) hx hb dX7_isType_245 ic_1 ?_
          refine lv_goto hx hb dX7_isType_246 rfl ?_
          exact (qk_X7_isType_250 cx hret ih) hw (lv_sub hl [0, 1, 2, 3, 4, 5, 7] rfl) hf
set_option maxRecDepth 100000 in
set_option maxHeartbeats 4000000 in
theorem qk_X7_isType_336 (cx : rx_C p m c cX7_isType 13 s args wX7_isType RX7 D vwCl (tY cI cL) [] wN A) (hret : rx_RZ p l e rm_X7_isType s m args below meth c cX7_isType D vwCl (wY ad cI cL) A Q o) {w0 : Int64} {w2 : Int64} {w4 : Int64} {w7 : Int32} {w8 : Int32} {w11 : Int32} {w12 : Int32} {s0 : Int32} {k299 : Int32 → Int32 → Me → Op} (h299 : ∀ {a6 : Int32} {a12 : Int32} {ls : Array Slot} {H : Heap} {locs : List Loc} {M : Me}, rx_W D vwCl (wY ad cI cL) A s.heap M H locs → lv_has ls 13 [(0, .long w0), (2, .long w2), (4, .long w4), (6, .int a6), (7, .int w7), (8, .int w8), (11, .int w11), (12, .int a12)] → k299 a6 a12 M = some o → W p l e rm_X7_isType s m args below meth c H locs 0 0 Q (F0 m 299 ls [])) {ls : Array Slot} {H : Heap} {locs : List Loc} {M : Me} (hw : rx_W D vwCl (wY ad cI cL) A s.heap M H locs) (hl : lv_has ls 13 [(0, .long w0), (2, .long w2), (4, .long w4), (7, .int w7), (8, .int w8), (11, .int w11), (12, .int w12)]) (hf : qb_X7_isType_336 k299 w0 w2 w4 w7 w8 w11 w12 s0 M = some o) : W p l e rm_X7_isType s m args below meth c H locs 0 0 Q (F0 m 336 ls [.int s0]) := by
  have hx := cx.1.1
  have hb := cx.1.2.1
  refine lv_istore (lv' := [(6, .int s0), (0, .long w0), (2, .long w2), (4, .long w4), (7, .int w7), (8, .int w8), (11, .int w11), (12, .int w12)]) hx hb dX7_isType_336 hl (Nat.le_of_ble_eq_true rfl) rfl (fun ls hl => ?_)
  obtain ⟨v1, ev1, hf⟩ := rx_vvI hf
  refine lv_iinc (lv' := [(12, .int v1), (6, .int s0), (0, .long w0), (2, .long w2), (4, .long w4), (7, .int w7), (8, .int w8), (11, .int w11)]) hx hb dX7_isType_338 hl (k := 7) rfl (rx_inc ic_1 ev1) (Nat.le_of_ble_eq_true rfl) rfl (fun ls hl => ?_)
  refine lv_goto hx hb dX7_isType_341 rfl ?_
  exact h299 hw (lv_sub hl [2, 3, 4, 1, 5, 6, 7, 0] rfl) hf
set_option maxRecDepth 100000 in
set_option maxHeartbeats 4000000 in
theorem qk_X7_isType_299 (cx : rx_C p m c cX7_isType 13 s args wX7_isType RX7 D vwCl (tY cI cL) [] wN A) (hret : rx_RZ p l e rm_X7_isType s m args below meth c cX7_isType D vwCl (wY ad cI cL) A Q o) {w0 : Int64} {w2 : Int64} {w4 : Int64} {w7 : Int32} {w8 : Int32} {w11 : Int32} {k344 : Int32 → Me → Op} (h344 : ∀ {a6 : Int32} {ls : Array Slot} {H : Heap} {locs : List Loc} {M : Me}, rx_W D vwCl (wY ad cI cL) A s.heap M H locs → lv_has ls 13 [(0, .long w0), (2, .long w2), (4, .long w4), (6, .int a6), (7, .int w7), (8, .int w8)] → k344 a6 M = some o → W p l e rm_X7_isType s m args below meth c H locs 0 0 Q (F0 m 344 ls [])) : ∀ (n : Nat) {w6 : Int32} {w12 : Int32} {ls : Array Slot} {H : Heap} {locs : List Loc} {M : Me}, rx_W D vwCl (wY ad cI cL) A s.heap M H locs → lv_has ls 13 [(0, .long w0), (2, .long w2), (4, .long w4), (6, .int w6), (7, .int w7), (8, .int w8), (11, .int w11), (12, .int w12)] → rx_lp2 (qo_X7_isType_299 k344 w0 w2 w4 w7 w8 w11) n w6 w12 M = some o → W p l e rm_X7_isType s m args below meth c H locs 0 0 Q (F0 m 299 ls []) := by
  have hx := cx.1.1
  have hb := cx.1.2.1
  intro n
  induction n with
  | zero => intro w6 w12 ls H locs M hw hl hf; exact rx_no hf
  | succ n ih =>
    intro w6 w12 ls H locs M hw hl hf
    have hf : qo_X7_isType_299 k344 w0 w2 w4 w7 w8 w11 (rx_lp2 (qo_X7_isType_299 k344 w0 w2 w4 w7 w8 w11) n) w6 w12 M = some o := hf
    refine lv_iload hx hb dX7_isType_299 (lv_at hl 7 rfl) ?_
    refine lv_bipush (v := 8) hx hb dX7_isType_301 ib_8 ?_
    refine lv_icmp_ge hx hb dX7_isType_303 rfl (fun hc => ?_) (fun hc => ?_)
    · have hf := rx_t hc hf
      exact h344 hw (lv_sub hl [0, 1, 2, 3, 4, 5] rfl) hf
    · have hf := rx_f hc hf
      refine lv_iload hx hb dX7_isType_306 (lv_at hl 3 rfl) ?_
      refine lv_if_eq hx hb dX7_isType_308 rfl (fun hc => ?_) (fun hc => ?_)
      · have hf := rx_t hc hf
        refine lv_iconst (v := 0) hx hb dX7_isType_335 ic_0 ?_
        exact (qk_X7_isType_336 cx hret ih) hw (lv_sub hl [0, 1, 2, 4, 5, 6, 7] rfl) hf
      · have hf := rx_f hc hf
        refine lv_iload hx hb dX7_isType_311 (lv_at hl 6 rfl) ?_
        refine lv_iload hx hb dX7_isType_313 (lv_at hl 7 rfl) ?_
        refine lv_ishr hx hb dX7_isType_315 ?_
        refine lv_iconst (v := 1) hx hb dX7_isType_316 ic_1 ?_
        refine lv_iand hx hb dX7_isType_317 ?_
        refine lv_if_eq hx hb dX7_isType_318 rfl (fun hc => ?_) (fun hc => ?_)
        · have hf := rx_t hc hf
          refine lv_iconst (v := 1) hx hb dX7_isType_331 ic_1 ?_
          refine lv_goto hx hb dX7_isType_332 rfl ?_
          exact (qk_X7_isType_336 cx hret ih) hw (lv_sub hl [0, 1, 2, 4, 5, 6, 7] rfl) hf
        · have hf := rx_f hc hf
          refine lv_lload_n hx hb dX7_isType_321 rfl (lv_at hl 1 rfl) ?_
          refine lv_iload hx hb dX7_isType_322 (lv_at hl 7 rfl) ?_
          obtain ⟨r1, M2, er1, hf⟩ := rx_clI hf
          refine rx_jSi cx hw (qc_X7_kindIn l D ad cI cL w2 w12) kfX7_kindIn tw_776 ⟨Nat.le_of_ble_eq_true rfl, Nat.le_of_ble_eq_true rfl, rfl, rfl⟩ rfl hl.1 (Nat.le_of_ble_eq_true rfl) ⟨Nat.zero_le _, Nat.zero_le _⟩ dX7_isType_324 rfl er1 (fun H locs hw => ?_)
          refine lv_iconst (v := 1) hx hb dX7_isType_327 ic_1 ?_
          refine lv_icmp_ne hx hb dX7_isType_328 rfl (fun hc => ?_) (fun hc => ?_)
          · have hf := rx_f hc hf
            refine lv_iconst (v := 0) hx hb dX7_isType_335 ic_0 ?_
            exact (qk_X7_isType_336 cx hret ih) hw (lv_sub hl [0, 1, 2, 4, 5, 6, 7] rfl) hf
          · have hf := rx_t hc hf
            refine lv_iconst (v := 1) hx hb dX7_isType_331 ic_1 ?_
            refine lv_goto hx hb dX7_isType_332 rfl ?_
            exact (qk_X7_isType_336 cx hret ih) hw (lv_sub hl [0, 1, 2, 4, 5, 6, 7] rfl) hf
set_option maxRecDepth 100000 in
set_option maxHeartbeats 4000000 in
theorem qk_X7_isType_344 (cx : rx_C p m c cX7_isType 13 s args wX7_isType RX7 D vwCl (tY cI cL) [] wN A) (hret : rx_RZ p l e rm_X7_isType s m args below meth c cX7_isType D vwCl (wY ad cI cL) A Q o) {w0 : Int64} {w2 : Int64} {w4 : Int64} {w6 : Int32} {w7 : Int32} {w8 : Int32} {k181 : Int32 → Int32 → Me → Op} (h181 : ∀ {a6 : Int32} {a8 : Int32} {ls : Array Slot} {H : Heap} {locs : List Loc} {M : Me}, rx_W D vwCl (wY ad cI cL) A s.heap M H locs → lv_has ls 13 [(0, .long w0), (2, .long w2), (4, .long w4), (6, .int a6), (7, .int w7), (8, .int a8)] → k181 a6 a8 M = some o → W p l e rm_X7_isType s m args below meth c H locs 0 0 Q (F0 m 181 ls [])) {ls : Array Slot} {H : Heap} {locs : List Loc} {M : Me} (hw : rx_W D vwCl (wY ad cI cL) A s.heap M H locs) (hl : lv_has ls 13 [(0, .long w0), (2, .long w2), (4, .long w4), (6, .int w6), (7, .int w7), (8, .int w8)]) (hf : qb_X7_isType_344 k181 w0 w2 w4 w6 w7 w8 M = some o) : W p l e rm_X7_isType s m args below meth c H locs 0 0 Q (F0 m 344 ls []) := by
  have hx := cx.1.1
  have hb := cx.1.2.1
  obtain ⟨v1, ev1, hf⟩ := rx_vvI hf
  refine lv_iinc (lv' := [(8, .int v1), (0, .long w0), (2, .long w2), (4, .long w4), (6, .int w6), (7, .int w7)]) hx hb dX7_isType_344 hl (k := 5) rfl (rx_inc ic_1 ev1) (Nat.le_of_ble_eq_true rfl) rfl (fun ls hl => ?_)
  refine lv_goto hx hb dX7_isType_347 rfl ?_
  exact h181 hw (lv_sub hl [1, 2, 3, 4, 5, 0] rfl) hf
set_option maxRecDepth 100000 in
set_option maxHeartbeats 4000000 in
theorem qk_X7_isType_294 (cx : rx_C p m c cX7_isType 13 s args wX7_isType RX7 D vwCl (tY cI cL) [] wN A) (hret : rx_RZ p l e rm_X7_isType s m args below meth c cX7_isType D vwCl (wY ad cI cL) A Q o) {w0 : Int64} {w2 : Int64} {w4 : Int64} {w7 : Int32} {w8 : Int32} {w11 : Int32} {s0 : Int32} {k181 : Int32 → Int32 → Me → Op} (h181 : ∀ {a6 : Int32} {a8 : Int32} {ls : Array Slot} {H : Heap} {locs : List Loc} {M : Me}, rx_W D vwCl (wY ad cI cL) A s.heap M H locs → lv_has ls 13 [(0, .long w0), (2, .long w2), (4, .long w4), (6, .int a6), (7, .int w7), (8, .int a8)] → k181 a6 a8 M = some o → W p l e rm_X7_isType s m args below meth c H locs 0 0 Q (F0 m 181 ls [])) {ls : Array Slot} {H : Heap} {locs : List Loc} {M : Me} (hw : rx_W D vwCl (wY ad cI cL) A s.heap M H locs) (hl : lv_has ls 13 [(0, .long w0), (2, .long w2), (4, .long w4), (7, .int w7), (8, .int w8), (11, .int w11)]) (hf : qb_X7_isType_294 k181 w0 w2 w4 w7 w8 w11 s0 M = some o) : W p l e rm_X7_isType s m args below meth c H locs 0 0 Q (F0 m 294 ls [.int s0]) := by
  have hx := cx.1.1
  have hb := cx.1.2.1
  refine lv_istore (lv' := [(6, .int s0), (0, .long w0), (2, .long w2), (4, .long w4), (7, .int w7), (8, .int w8), (11, .int w11)]) hx hb dX7_isType_294 hl (Nat.le_of_ble_eq_true rfl) rfl (fun ls hl => ?_)
  refine lv_iconst (v := 0) hx hb dX7_isType_296 ic_0 ?_
  refine lv_istore (lv' := [(12, .int 0), (6, .int s0), (0, .long w0), (2, .long w2), (4, .long w4), (7, .int w7), (8, .int w8), (11, .int w11)]) hx hb dX7_isType_297 hl (Nat.le_of_ble_eq_true rfl) rfl (fun ls hl => ?_)
  exact (qk_X7_isType_299 cx hret (qk_X7_isType_344 cx hret h181) rx_FU) hw (lv_sub hl [2, 3, 4, 1, 5, 6, 7, 0] rfl) hf
set_option maxRecDepth 100000 in
set_option maxHeartbeats 4000000 in
theorem qk_X7_isType_258 (cx : rx_C p m c cX7_isType 13 s args wX7_isType RX7 D vwCl (tY cI cL) [] wN A) (hret : rx_RZ p l e rm_X7_isType s m args below meth c cX7_isType D vwCl (wY ad cI cL) A Q o) {w0 : Int64} {w2 : Int64} {w4 : Int64} {w7 : Int32} {w8 : Int32} {w9 : Int32} {w10 : Int32} {k181 : Int32 → Int32 → Me → Op} (h181 : ∀ {a6 : Int32} {a8 : Int32} {ls : Array Slot} {H : Heap} {locs : List Loc} {M : Me}, rx_W D vwCl (wY ad cI cL) A s.heap M H locs → lv_has ls 13 [(0, .long w0), (2, .long w2), (4, .long w4), (6, .int a6), (7, .int w7), (8, .int a8)] → k181 a6 a8 M = some o → W p l e rm_X7_isType s m args below meth c H locs 0 0 Q (F0 m 181 ls [])) {ls : Array Slot} {H : Heap} {locs : List Loc} {M : Me} (hw : rx_W D vwCl (wY ad cI cL) A s.heap M H locs) (hl : lv_has ls 13 [(0, .long w0), (2, .long w2), (4, .long w4), (7, .int w7), (8, .int w8), (9, .int w9), (10, .int w10)]) (hf : qb_X7_isType_258 k181 w0 w2 w4 w7 w8 w9 w10 M = some o) : W p l e rm_X7_isType s m args below meth c H locs 0 0 Q (F0 m 258 ls []) := by
  have hx := cx.1.1
  have hb := cx.1.2.1
  refine lv_lload hx hb dX7_isType_258 (lv_at hl 2 rfl) ?_
  refine lv_bipush (v := 8) hx hb dX7_isType_260 ib_8 ?_
  refine lv_iload hx hb dX7_isType_262 (lv_at hl 4 rfl) ?_
  refine lv_imul hx hb dX7_isType_264 ?_
  refine lv_lshr hx hb dX7_isType_265 rfl ?_
  refine lv_ldc2 (v := 255) hx hb cx.1.2.2.2.1 (cx.1.2.2.2.2 _ (.tail _ tw_772)) dX7_isType_266 ?_
  refine lv_land hx hb dX7_isType_269 ?_
  refine lv_l2i hx hb dX7_isType_270 rfl ?_
  obtain ⟨v1, ev1, hf⟩ := rx_vvI hf
  refine rx_top ev1 ?_
  refine lv_istore (lv' := [(11, .int v1), (0, .long w0), (2, .long w2), (4, .long w4), (7, .int w7), (8, .int w8), (9, .int w9), (10, .int w10)]) hx hb dX7_isType_271 hl (Nat.le_of_ble_eq_true rfl) rfl (fun ls hl => ?_)
  refine lv_iload hx hb dX7_isType_273 (lv_at hl 7 rfl) ?_
  refine lv_if_eq hx hb dX7_isType_275 rfl (fun hc => ?_) (fun hc => ?_)
  · have hf := rx_t hc hf
    refine lv_iconst (v := 0) hx hb dX7_isType_293 ic_0 ?_
    exact (qk_X7_isType_294 cx hret h181) hw (lv_sub hl [1, 2, 3, 4, 5, 0] rfl) hf
  · have hf := rx_f hc hf
    refine lv_iload hx hb dX7_isType_278 (lv_at hl 0 rfl) ?_
    refine lv_if_eq hx hb dX7_isType_280 rfl (fun hc => ?_) (fun hc => ?_)
    · have hf := rx_t hc hf
      refine lv_iconst (v := 1) hx hb dX7_isType_289 ic_1 ?_
      refine lv_goto hx hb dX7_isType_290 rfl ?_
      exact (qk_X7_isType_294 cx hret h181) hw (lv_sub hl [1, 2, 3, 4, 5, 0] rfl) hf
    · have hf := rx_f hc hf
      refine lv_iload hx hb dX7_isType_283 (lv_at hl 6 rfl) ?_
      refine lv_iconst (v := 3) hx hb dX7_isType_285 ic_3 ?_
      refine lv_icmp_ne hx hb dX7_isType_286 rfl (fun hc => ?_) (fun hc => ?_)
      · have hf := rx_f hc hf
        refine lv_iconst (v := 0) hx hb dX7_isType_293 ic_0 ?_
        exact (qk_X7_isType_294 cx hret h181) hw (lv_sub hl [1, 2, 3, 4, 5, 0] rfl) hf
      · have hf := rx_t hc hf
        refine lv_iconst (v := 1) hx hb dX7_isType_289 ic_1 ?_
        refine lv_goto hx hb dX7_isType_290 rfl ?_
        exact (qk_X7_isType_294 cx hret h181) hw (lv_sub hl [1, 2, 3, 4, 5, 0] rfl) hf
set_option maxRecDepth 100000 in
set_option maxHeartbeats 4000000 in
theorem qk_X7_isType_217 (cx : rx_C p m c cX7_isType 13 s args wX7_isType RX7 D vwCl (tY cI cL) [] wN A) (hret : rx_RZ p l e rm_X7_isType s m args below meth c cX7_isType D vwCl (wY ad cI cL) A Q o) {w0 : Int64} {w2 : Int64} {w4 : Int64} {w7 : Int32} {w8 : Int32} {w9 : Int32} {s0 : Int32} {k181 : Int32 → Int32 → Me → Op} (h181 : ∀ {a6 : Int32} {a8 : Int32} {ls : Array Slot} {H : Heap} {locs : List Loc} {M : Me}, rx_W D vwCl (wY ad cI cL) A s.heap M H locs → lv_has ls 13 [(0, .long w0), (2, .long w2), (4, .long w4), (6, .int a6), (7, .int w7), (8, .int a8)] → k181 a6 a8 M = some o → W p l e rm_X7_isType s m args below meth c H locs 0 0 Q (F0 m 181 ls [])) {ls : Array Slot} {H : Heap} {locs : List Loc} {M : Me} (hw : rx_W D vwCl (wY ad cI cL) A s.heap M H locs) (hl : lv_has ls 13 [(0, .long w0), (2, .long w2), (4, .long w4), (7, .int w7), (8, .int w8), (9, .int w9)]) (hf : qb_X7_isType_217 k181 w0 w2 w4 w7 w8 w9 s0 M = some o) : W p l e rm_X7_isType s m args below meth c H locs 0 0 Q (F0 m 217 ls [.int s0]) := by
  have hx := cx.1.1
  have hb := cx.1.2.1
  refine lv_istore (lv' := [(10, .int s0), (0, .long w0), (2, .long w2), (4, .long w4), (7, .int w7), (8, .int w8), (9, .int w9)]) hx hb dX7_isType_217 hl (Nat.le_of_ble_eq_true rfl) rfl (fun ls hl => ?_)
  refine lv_iconst (v := 0) hx hb dX7_isType_219 ic_0 ?_
  refine lv_istore (lv' := [(11, .int 0), (10, .int s0), (0, .long w0), (2, .long w2), (4, .long w4), (7, .int w7), (8, .int w8), (9, .int w9)]) hx hb dX7_isType_220 hl (Nat.le_of_ble_eq_true rfl) rfl (fun ls hl => ?_)
  exact (qk_X7_isType_222 cx hret (qk_X7_isType_258 cx hret h181) rx_FU) hw (lv_sub hl [2, 3, 4, 5, 6, 7, 1, 0] rfl) hf
set_option maxRecDepth 100000 in
set_option maxHeartbeats 4000000 in
theorem qk_X7_isType_181 (cx : rx_C p m c cX7_isType 13 s args wX7_isType RX7 D vwCl (tY cI cL) [] wN A) (hret : rx_RZ p l e rm_X7_isType s m args below meth c cX7_isType D vwCl (wY ad cI cL) A Q o) {w0 : Int64} {w2 : Int64} {w4 : Int64} {w7 : Int32} {k350 : Int32 → Me → Op} (h350 : ∀ {a6 : Int32} {ls : Array Slot} {H : Heap} {locs : List Loc} {M : Me}, rx_W D vwCl (wY ad cI cL) A s.heap M H locs → lv_has ls 13 [(6, .int a6), (7, .int w7)] → k350 a6 M = some o → W p l e rm_X7_isType s m args below meth c H locs 0 0 Q (F0 m 350 ls [])) : ∀ (n : Nat) {w6 : Int32} {w8 : Int32} {ls : Array Slot} {H : Heap} {locs : List Loc} {M : Me}, rx_W D vwCl (wY ad cI cL) A s.heap M H locs → lv_has ls 13 [(0, .long w0), (2, .long w2), (4, .long w4), (6, .int w6), (7, .int w7), (8, .int w8)] → rx_lp2 (qo_X7_isType_181 k350 w0 w2 w4 w7) n w6 w8 M = some o → W p l e rm_X7_isType s m args below meth c H locs 0 0 Q (F0 m 181 ls []) := by
  have hx := cx.1.1
  have hb := cx.1.2.1
  intro n
  induction n with
  | zero => intro w6 w8 ls H locs M hw hl hf; exact rx_no hf
  | succ n ih =>
    intro w6 w8 ls H locs M hw hl hf
    have hf : qo_X7_isType_181 k350 w0 w2 w4 w7 (rx_lp2 (qo_X7_isType_181 k350 w0 w2 w4 w7) n) w6 w8 M = some o := hf
    refine lv_iload hx hb dX7_isType_181 (lv_at hl 5 rfl) ?_
    refine lv_bipush (v := 8) hx hb dX7_isType_183 ib_8 ?_
    refine lv_icmp_ge hx hb dX7_isType_185 rfl (fun hc => ?_) (fun hc => ?_)
    · have hf := rx_t hc hf
      exact h350 hw (lv_sub hl [3, 4] rfl) hf
    · have hf := rx_f hc hf
      refine lv_iload hx hb dX7_isType_188 (lv_at hl 3 rfl) ?_
      refine lv_if_eq hx hb dX7_isType_190 rfl (fun hc => ?_) (fun hc => ?_)
      · have hf := rx_t hc hf
        exact h350 hw (lv_sub hl [3, 4] rfl) hf
      · have hf := rx_f hc hf
        refine lv_lload_n hx hb dX7_isType_193 rfl (lv_at hl 1 rfl) ?_
        refine lv_iload hx hb dX7_isType_194 (lv_at hl 5 rfl) ?_
        obtain ⟨r1, M2, er1, hf⟩ := rx_clI hf
        refine rx_jSi cx hw (qc_X7_kindIn l D ad cI cL w2 w8) kfX7_kindIn tw_776 ⟨Nat.le_of_ble_eq_true rfl, Nat.le_of_ble_eq_true rfl, rfl, rfl⟩ rfl hl.1 (Nat.le_of_ble_eq_true rfl) ⟨Nat.zero_le _, Nat.zero_le _⟩ dX7_isType_196 rfl er1 (fun H locs hw => ?_)
        refine lv_istore (lv' := [(9, .int r1), (0, .long w0), (2, .long w2), (4, .long w4), (6, .int w6), (7, .int w7), (8, .int w8)]) hx hb dX7_isType_199 hl (Nat.le_of_ble_eq_true rfl) rfl (fun ls hl => ?_)
        refine lv_iload hx hb dX7_isType_201 (lv_at hl 0 rfl) ?_
        refine lv_if_eq hx hb dX7_isType_203 rfl (fun hc => ?_) (fun hc => ?_)
        · have hf := rx_t hc hf
          refine lv_iconst (v := 1) hx hb dX7_isType_212 ic_1 ?_
          refine lv_goto hx hb dX7_isType_213 rfl ?_
          exact (qk_X7_isType_217 cx hret ih) hw (lv_sub hl [1, 2, 3, 5, 6, 0] rfl) hf
        · have hf := rx_f hc hf
          refine lv_iload hx hb dX7_isType_206 (lv_at hl 0 rfl) ?_
          refine lv_iconst (v := 4) hx hb dX7_isType_208 ic_4 ?_
          refine lv_icmp_ne hx hb dX7_isType_209 rfl (fun hc => ?_) (fun hc => ?_)
          · have hf := rx_f hc hf
            refine lv_iconst (v := 0) hx hb dX7_isType_216 ic_0 ?_
            exact (qk_X7_isType_217 cx hret ih) hw (lv_sub hl [1, 2, 3, 5, 6, 0] rfl) hf
          · have hf := rx_t hc hf
            refine lv_iconst (v := 1) hx hb dX7_isType_212 ic_1 ?_
            refine lv_goto hx hb dX7_isType_213 rfl ?_
            exact (qk_X7_isType_217 cx hret ih) hw (lv_sub hl [1, 2, 3, 5, 6, 0] rfl) hf
set_option maxRecDepth 100000 in
set_option maxHeartbeats 4000000 in
theorem qk_X7_isType_350 (cx : rx_C p m c cX7_isType 13 s args wX7_isType RX7 D vwCl (tY cI cL) [] wN A) (hret : rx_RZ p l e rm_X7_isType s m args below meth c cX7_isType D vwCl (wY ad cI cL) A Q o) {w6 : Int32} {w7 : Int32} {ls : Array Slot} {H : Heap} {locs : List Loc} {M : Me} (hw : rx_W D vwCl (wY ad cI cL) A s.heap M H locs) (hl : lv_has ls 13 [(6, .int w6), (7, .int w7)]) (hf : qb_X7_isType_350 w6 w7 M = some o) : W p l e rm_X7_isType s m args below meth c H locs 0 0 Q (F0 m 350 ls []) := by
  have hx := cx.1.1
  have hb := cx.1.2.1
  refine lv_iload hx hb dX7_isType_350 (lv_at hl 0 rfl) ?_
  refine lv_if_eq hx hb dX7_isType_352 rfl (fun hc => ?_) (fun hc => ?_)
  · have hf := rx_t hc hf
    refine lv_iconst (v := 0) hx hb dX7_isType_365 ic_0 ?_
    exact rx_retz hret hw hf dX7_isType_366
  · have hf := rx_f hc hf
    refine lv_iload hx hb dX7_isType_355 (lv_at hl 1 rfl) ?_
    refine lv_iconst (v := 2) hx hb dX7_isType_357 ic_2 ?_
    refine lv_icmp_ge hx hb dX7_isType_358 rfl (fun hc => ?_) (fun hc => ?_)
    · have hf := rx_t hc hf
      refine lv_iconst (v := 0) hx hb dX7_isType_365 ic_0 ?_
      exact rx_retz hret hw hf dX7_isType_366
    · have hf := rx_f hc hf
      refine lv_iconst (v := 1) hx hb dX7_isType_361 ic_1 ?_
      refine lv_goto hx hb dX7_isType_362 rfl ?_
      exact rx_retz hret hw hf dX7_isType_366
set_option maxRecDepth 100000 in
set_option maxHeartbeats 4000000 in
theorem qk_X7_isType_178 (cx : rx_C p m c cX7_isType 13 s args wX7_isType RX7 D vwCl (tY cI cL) [] wN A) (hret : rx_RZ p l e rm_X7_isType s m args below meth c cX7_isType D vwCl (wY ad cI cL) A Q o) {w0 : Int64} {w2 : Int64} {w4 : Int64} {w6 : Int32} {w7 : Int32} {ls : Array Slot} {H : Heap} {locs : List Loc} {M : Me} (hw : rx_W D vwCl (wY ad cI cL) A s.heap M H locs) (hl : lv_has ls 13 [(0, .long w0), (2, .long w2), (4, .long w4), (6, .int w6), (7, .int w7)]) (hf : qb_X7_isType_178 w0 w2 w4 w6 w7 M = some o) : W p l e rm_X7_isType s m args below meth c H locs 0 0 Q (F0 m 178 ls []) := by
  have hx := cx.1.1
  have hb := cx.1.2.1
  refine lv_iconst (v := 0) hx hb dX7_isType_178 ic_0 ?_
  refine lv_istore (lv' := [(8, .int 0), (0, .long w0), (2, .long w2), (4, .long w4), (6, .int w6), (7, .int w7)]) hx hb dX7_isType_179 hl (Nat.le_of_ble_eq_true rfl) rfl (fun ls hl => ?_)
  exact (qk_X7_isType_181 cx hret (qk_X7_isType_350 cx hret) rx_FU) hw (lv_sub hl [1, 2, 3, 4, 5, 0] rfl) hf
set_option maxRecDepth 100000 in
set_option maxHeartbeats 4000000 in
theorem qk_X7_isType_148 (cx : rx_C p m c cX7_isType 13 s args wX7_isType RX7 D vwCl (tY cI cL) [] wN A) (hret : rx_RZ p l e rm_X7_isType s m args below meth c cX7_isType D vwCl (wY ad cI cL) A Q o) {w0 : Int64} {w2 : Int64} {w4 : Int64} {w6 : Int32} {w7 : Int32} {ls : Array Slot} {H : Heap} {locs : List Loc} {M : Me} (hw : rx_W D vwCl (wY ad cI cL) A s.heap M H locs) (hl : lv_has ls 13 [(0, .long w0), (2, .long w2), (4, .long w4), (6, .int w6), (7, .int w7)]) (hf : qb_X7_isType_148 w0 w2 w4 w6 w7 M = some o) : W p l e rm_X7_isType s m args below meth c H locs 0 0 Q (F0 m 148 ls []) := by
  have hx := cx.1.1
  have hb := cx.1.2.1
  refine lv_iconst (v := 0) hx hb dX7_isType_148 ic_0 ?_
  refine lv_istore (lv' := [(8, .int 0), (0, .long w0), (2, .long w2), (4, .long w4), (6, .int w6), (7, .int w7)]) hx hb dX7_isType_149 hl (Nat.le_of_ble_eq_true rfl) rfl (fun ls hl => ?_)
  exact (qk_X7_isType_151 cx hret (qk_X7_isType_178 cx hret) rx_FU) hw (lv_sub hl [1, 2, 3, 4, 5, 0] rfl) hf
set_option maxRecDepth 100000 in
set_option maxHeartbeats 4000000 in
theorem qk_X7_isType_86 (cx : rx_C p m c cX7_isType 13 s args wX7_isType RX7 D vwCl (tY cI cL) [] wN A) (hret : rx_RZ p l e rm_X7_isType s m args below meth c cX7_isType D vwCl (wY ad cI cL) A Q o) {w0 : Int64} {w2 : Int64} {w4 : Int64} {w6 : Int32} {w7 : Int32} {ls : Array Slot} {H : Heap} {locs : List Loc} {M : Me} (hw : rx_W D vwCl (wY ad cI cL) A s.heap M H locs) (hl : lv_has ls 13 [(0, .long w0), (2, .long w2), (4, .long w4), (6, .int w6), (7, .int w7)]) (hf : qb_X7_isType_86 w0 w2 w4 w6 w7 M = some o) : W p l e rm_X7_isType s m args below meth c H locs 0 0 Q (F0 m 86 ls []) := by
  have hx := cx.1.1
  have hb := cx.1.2.1
  refine lv_iconst (v := 0) hx hb dX7_isType_86 ic_0 ?_
  refine lv_istore (lv' := [(8, .int 0), (0, .long w0), (2, .long w2), (4, .long w4), (6, .int w6), (7, .int w7)]) hx hb dX7_isType_87 hl (Nat.le_of_ble_eq_true rfl) rfl (fun ls hl => ?_)
  exact (qk_X7_isType_89 cx hret (qk_X7_isType_148 cx hret) rx_FU) hw (lv_sub hl [1, 2, 3, 4, 5, 0] rfl) hf
set_option maxRecDepth 100000 in
set_option maxHeartbeats 4000000 in
theorem qk_X7_isType_14 (cx : rx_C p m c cX7_isType 13 s args wX7_isType RX7 D vwCl (tY cI cL) [] wN A) (hret : rx_RZ p l e rm_X7_isType s m args below meth c cX7_isType D vwCl (wY ad cI cL) A Q o) {w0 : Int64} {w2 : Int64} {w4 : Int64} {s0 : Int32} {ls : Array Slot} {H : Heap} {locs : List Loc} {M : Me} (hw : rx_W D vwCl (wY ad cI cL) A s.heap M H locs) (hl : lv_has ls 13 [(0, .long w0), (2, .long w2), (4, .long w4)]) (hf : qb_X7_isType_14 w0 w2 w4 s0 M = some o) : W p l e rm_X7_isType s m args below meth c H locs 0 0 Q (F0 m 14 ls [.int s0]) := by
  have hx := cx.1.1
  have hb := cx.1.2.1
  refine lv_istore (lv' := [(6, .int s0), (0, .long w0), (2, .long w2), (4, .long w4)]) hx hb dX7_isType_14 hl (Nat.le_of_ble_eq_true rfl) rfl (fun ls hl => ?_)
  refine lv_iconst (v := 0) hx hb dX7_isType_16 ic_0 ?_
  refine lv_istore (lv' := [(7, .int 0), (6, .int s0), (0, .long w0), (2, .long w2), (4, .long w4)]) hx hb dX7_isType_17 hl (Nat.le_of_ble_eq_true rfl) rfl (fun ls hl => ?_)
  refine lv_iconst (v := 0) hx hb dX7_isType_19 ic_0 ?_
  refine lv_istore (lv' := [(8, .int 0), (7, .int 0), (6, .int s0), (0, .long w0), (2, .long w2), (4, .long w4)]) hx hb dX7_isType_20 hl (Nat.le_of_ble_eq_true rfl) rfl (fun ls hl => ?_)
  exact (qk_X7_isType_22 cx hret (qk_X7_isType_86 cx hret) rx_FU) hw (lv_sub hl [3, 4, 5, 2, 1, 0] rfl) hf
set_option maxRecDepth 100000 in
set_option maxHeartbeats 4000000 in
theorem qk_X7_isType_0 (cx : rx_C p m c cX7_isType 13 s args wX7_isType RX7 D vwCl (tY cI cL) [] wN A) (hret : rx_RZ p l e rm_X7_isType s m args below meth c cX7_isType D vwCl (wY ad cI cL) A Q o) {w0 : Int64} {w2 : Int64} {w4 : Int64} {ls : Array Slot} {H : Heap} {locs : List Loc} {M : Me} (hw : rx_W D vwCl (wY ad cI cL) A s.heap M H locs) (hl : lv_has ls 13 [(0, .long w0), (2, .long w2), (4, .long w4)]) (hf : qf_X7_isType w0 w2 w4 M = some o) : W p l e rm_X7_isType s m args below meth c H locs 0 0 Q (F0 m 0 ls []) := by
  have hx := cx.1.1
  have hb := cx.1.2.1
  refine lv_lload_n hx hb dX7_isType_0 rfl (lv_at hl 0 rfl) ?_
  refine lv_bipush (v := 48) hx hb dX7_isType_1 ib_48 ?_
  refine lv_lshr hx hb dX7_isType_3 rfl ?_
  refine lv_lconst (v := 0) hx hb dX7_isType_4 lc_0 ?_
  refine W.lcmp hx hb dX7_isType_5 ?_
  refine lv_if_ne hx hb dX7_isType_6 rfl (fun hc => ?_) (fun hc => ?_)
  · have hf := rx_f hc hf
    refine lv_iconst (v := 0) hx hb dX7_isType_13 ic_0 ?_
    exact (qk_X7_isType_14 cx hret) hw hl hf
  · have hf := rx_t hc hf
    refine lv_iconst (v := 1) hx hb dX7_isType_9 ic_1 ?_
    refine lv_goto hx hb dX7_isType_10 rfl ?_
    exact (qk_X7_isType_14 cx hret) hw hl hf
end
set_option maxRecDepth 100000 in
theorem qc_X7_isType (l : Launch) (D : va_G) (ad : Nat → Nat) (cI cL : ClassId) (w0 : Int64) (w2 : Int64) (w4 : Int64) : rx_MI l yX7_isType wX7_isType rm_X7_isType D vwCl (wY ad cI cL) (tY cI cL) [] wN [.long w0, .long w2, .long w4] (fun M => qf_X7_isType w0 w2 w4 M) :=
  rx_ofZ (by decide) rfl wN_ok (Nat.le_of_ble_eq_true rfl) (fun _ _ _ _ _ _ _ _ _ _ _ _ _ cx hret hw hl hf => qk_X7_isType_0 cx hret hw hl hf)
def rm_X7_type : Room := { frames := 3, cells := 0, slots := 0, locals := 82 }
noncomputable def qo_X7_type_35 (k69 : Me → Op) (w1 : Int64) (w3 : Int64) (w5 : Int64) (rec : Int32 → Me → Op) (w7 : Int32) (M : Me) : Op :=
  if 12 ≤ w7 then (k69 M) else (rx_vv (M 0 0) fun v1 => rx_cl (qf_X7_partIn w1 w7 M) fun r2 M3 => rx_sv M3 1 144 ((12 * v1) + w7) r2 fun M4 => rx_vv (w7 + 1) fun v5 => rec v5 M4)
noncomputable def qb_X7_type_137 (k72 : Int32 → Me → Op) (w3 : Int64) (w5 : Int64) (w7 : Int32) (s0 : Int32) (s1 : Int32) (M : Me) : Op :=
  rx_sv M 3 96 s1 (vp_nar .boolean s0) fun M1 => rx_vv (M1 0 0) fun v2 => rx_sv M1 4 96 ((8 * v2) + w7) (Int64.toInt32 ((w5 >>> (Int32.toInt64 (8 * w7) &&& 63)) &&& 255)) fun M3 => rx_vv (w7 + 1) fun v4 => k72 v4 M3
noncomputable def qo_X7_type_72 (k172 : Me → Op) (w3 : Int64) (w5 : Int64) (rec : Int32 → Me → Op) (w7 : Int32) (M : Me) : Op :=
  if 8 ≤ w7 then (k172 M) else (rx_vv (M 0 0) fun v1 => rx_cl (qf_X7_kindIn w3 w7 M) fun r2 M3 => rx_sv M3 2 96 ((8 * v1) + w7) r2 fun M4 => rx_vv (M4 0 0) fun v5 => if (lg_cmp ((w3 >>> (Int32.toInt64 (8 * w7) &&& 63)) &&& 255) 9) = 0 then (qb_X7_type_137 rec w3 w5 w7 1 ((8 * v5) + w7) M4) else (qb_X7_type_137 rec w3 w5 w7 0 ((8 * v5) + w7) M4))
noncomputable def qb_X7_type_172    (M : Me) : Op :=
  rx_vv (M 0 0) fun v1 => rx_vv (rx_st M 0 0 (v1 + 1)) fun M2 => rx_vv (M2 0 0) fun v3 => some (v3 - 1, M2)
noncomputable def qb_X7_type_69  (w3 : Int64) (w5 : Int64)  (M : Me) : Op :=
  rx_lp1 (qo_X7_type_72 (fun M => qb_X7_type_172 M) w3 w5) rx_FU 0 M
noncomputable def qf_X7_type  (w1 : Int64) (w3 : Int64) (w5 : Int64)  (M : Me) : Op :=
  rx_cl (qf_X7_isType w1 w3 w5 M) fun r1 M2 => if r1 = 0 then (some ((-2), M2)) else (rx_vv (M2 0 0) fun v3 => if v3 = 12 then (some ((-3), M2)) else (rx_vv (M2 0 7) fun v4 => if v4 = 0 then (rx_lp1 (qo_X7_type_35 (fun M => qb_X7_type_69 w3 w5 M) w1 w3 w5) rx_FU 0 M2) else (some ((-3), M2))))
section
variable {p : Program} {l : Launch} {e : Env} {s : State} {m : MethodId} {args : Array Value} {below : List Frame} {meth : Method} {c : Code} {Q : State → Prop} {D : va_G} {A : Nat → Prop} {o : Int32 × Me} {ad : Nat → Nat} {cI cL : ClassId} {b1 b2 : Nat}
set_option maxRecDepth 100000 in
set_option maxHeartbeats 4000000 in
theorem qk_X7_type_35 (cx : rx_C p m c cX7_type 8 s args wX7_type RX7 D vwCl (tY cI cL) [] wN A) (hret : rx_RI p l e rm_X7_type s m args below meth c cX7_type D vwCl (wY ad cI cL) A Q o) {w1 : Int64} {w3 : Int64} {w5 : Int64} {k69 : Me → Op} (h69 : ∀ {ls : Array Slot} {H : Heap} {locs : List Loc} {M : Me}, rx_W D vwCl (wY ad cI cL) A s.heap M H locs → lv_has ls 8 [(0, .ref ((ad 0))), (3, .long w3), (5, .long w5)] → k69 M = some o → W p l e rm_X7_type s m args below meth c H locs 0 0 Q (F0 m 69 ls [])) : ∀ (n : Nat) {w7 : Int32} {ls : Array Slot} {H : Heap} {locs : List Loc} {M : Me}, rx_W D vwCl (wY ad cI cL) A s.heap M H locs → lv_has ls 8 [(0, .ref ((ad 0))), (1, .long w1), (3, .long w3), (5, .long w5), (7, .int w7)] → rx_lp1 (qo_X7_type_35 k69 w1 w3 w5) n w7 M = some o → W p l e rm_X7_type s m args below meth c H locs 0 0 Q (F0 m 35 ls []) := by
  have hx := cx.1.1
  have hb := cx.1.2.1
  intro n
  induction n with
  | zero => intro w7 ls H locs M hw hl hf; exact rx_no hf
  | succ n ih =>
    intro w7 ls H locs M hw hl hf
    have hf : qo_X7_type_35 k69 w1 w3 w5 (rx_lp1 (qo_X7_type_35 k69 w1 w3 w5) n) w7 M = some o := hf
    refine lv_iload hx hb dX7_type_35 (lv_at hl 4 rfl) ?_
    refine lv_bipush (v := 12) hx hb dX7_type_37 ib_12 ?_
    refine lv_icmp_ge hx hb dX7_type_39 rfl (fun hc => ?_) (fun hc => ?_)
    · have hf := rx_t hc hf
      exact h69 hw (lv_sub hl [0, 2, 3] rfl) hf
    · have hf := rx_f hc hf
      refine lv_aload_n hx hb dX7_type_42 rfl (lv_at hl 0 rfl) ?_
      refine rx_getr cx hw (frY_0_1 ad cI cL) rfl (inT_X7) (Nat.le_of_ble_eq_true rfl) (.tail _ tw_662) dX7_type_43 ?_
      refine lv_bipush (v := 12) hx hb dX7_type_46 ib_12 ?_
      refine lv_aload_n hx hb dX7_type_48 rfl (lv_at hl 0 rfl) ?_
      obtain ⟨v1, ev1, hf⟩ := rx_vvI hf
      refine rx_geti cx hw (fiY_0_0 ad cI cL) rfl (inT_X7) (Nat.le_of_ble_eq_true rfl) (.tail _ tw_661) ev1 dX7_type_49 ?_
      refine lv_imul hx hb dX7_type_52 ?_
      refine lv_iload hx hb dX7_type_53 (lv_at hl 4 rfl) ?_
      refine lv_iadd hx hb dX7_type_55 ?_
      refine lv_lload_n hx hb dX7_type_56 rfl (lv_at hl 1 rfl) ?_
      refine lv_iload hx hb dX7_type_57 (lv_at hl 4 rfl) ?_
      obtain ⟨r2, M3, er2, hf⟩ := rx_clI hf
      refine rx_jSi cx hw (qc_X7_partIn l D ad cI cL w1 w7) kfX7_partIn tw_779 ⟨Nat.le_of_ble_eq_true rfl, Nat.le_of_ble_eq_true rfl, rfl, rfl⟩ rfl hl.1 (Nat.le_of_ble_eq_true rfl) ⟨Nat.zero_le _, Nat.zero_le _⟩ dX7_type_59 rfl er2 (fun H locs hw => ?_)
      obtain ⟨hM4, M4, eM4, hf⟩ := rx_svI hf
      refine rx_iast cx hw (arY_1 ad cI cL) ⟨hM4, eM4⟩ dX7_type_62 (fun H locs hw => ?_)
      obtain ⟨v5, ev5, hf⟩ := rx_vvI hf
      refine lv_iinc (lv' := [(7, .int v5), (0, .ref ((ad 0))), (1, .long w1), (3, .long w3), (5, .long w5)]) hx hb dX7_type_63 hl (k := 4) rfl (rx_inc ic_1 ev5) (Nat.le_of_ble_eq_true rfl) rfl (fun ls hl => ?_)
      refine lv_goto hx hb dX7_type_66 rfl ?_
      exact ih hw (lv_sub hl [1, 2, 3, 4, 0] rfl) hf
set_option maxRecDepth 100000 in
set_option maxHeartbeats 4000000 in
theorem qk_X7_type_137 (cx : rx_C p m c cX7_type 8 s args wX7_type RX7 D vwCl (tY cI cL) [] wN A) (hret : rx_RI p l e rm_X7_type s m args below meth c cX7_type D vwCl (wY ad cI cL) A Q o) {w3 : Int64} {w5 : Int64} {w7 : Int32} {s0 : Int32} {s1 : Int32} {k72 : Int32 → Me → Op} (h72 : ∀ {a7 : Int32} {ls : Array Slot} {H : Heap} {locs : List Loc} {M : Me}, rx_W D vwCl (wY ad cI cL) A s.heap M H locs → lv_has ls 8 [(0, .ref ((ad 0))), (3, .long w3), (5, .long w5), (7, .int a7)] → k72 a7 M = some o → W p l e rm_X7_type s m args below meth c H locs 0 0 Q (F0 m 72 ls [])) {ls : Array Slot} {H : Heap} {locs : List Loc} {M : Me} (hw : rx_W D vwCl (wY ad cI cL) A s.heap M H locs) (hl : lv_has ls 8 [(0, .ref ((ad 0))), (3, .long w3), (5, .long w5), (7, .int w7)]) (hf : qb_X7_type_137 k72 w3 w5 w7 s0 s1 M = some o) : W p l e rm_X7_type s m args below meth c H locs 0 0 Q (F0 m 137 ls [.int s0, .int s1, .ref ((ad 3))]) := by
  have hx := cx.1.1
  have hb := cx.1.2.1
  obtain ⟨hM1, M1, eM1, hf⟩ := rx_svI hf
  refine rx_zast cx hw (arY_3 ad cI cL) ⟨hM1, eM1⟩ dX7_type_137 (fun H locs hw => ?_)
  refine lv_aload_n hx hb dX7_type_138 rfl (lv_at hl 0 rfl) ?_
  refine rx_getr cx hw (frY_0_4 ad cI cL) rfl (inT_X7) (Nat.le_of_ble_eq_true rfl) (.tail _ tw_665) dX7_type_139 ?_
  refine lv_bipush (v := 8) hx hb dX7_type_142 ib_8 ?_
  refine lv_aload_n hx hb dX7_type_144 rfl (lv_at hl 0 rfl) ?_
  obtain ⟨v2, ev2, hf⟩ := rx_vvI hf
  refine rx_geti cx hw (fiY_0_0 ad cI cL) rfl (inT_X7) (Nat.le_of_ble_eq_true rfl) (.tail _ tw_661) ev2 dX7_type_145 ?_
  refine lv_imul hx hb dX7_type_148 ?_
  refine lv_iload hx hb dX7_type_149 (lv_at hl 3 rfl) ?_
  refine lv_iadd hx hb dX7_type_151 ?_
  refine lv_lload hx hb dX7_type_152 (lv_at hl 2 rfl) ?_
  refine lv_bipush (v := 8) hx hb dX7_type_154 ib_8 ?_
  refine lv_iload hx hb dX7_type_156 (lv_at hl 3 rfl) ?_
  refine lv_imul hx hb dX7_type_158 ?_
  refine lv_lshr hx hb dX7_type_159 rfl ?_
  refine lv_ldc2 (v := 255) hx hb cx.1.2.2.2.1 (cx.1.2.2.2.2 _ (.tail _ tw_772)) dX7_type_160 ?_
  refine lv_land hx hb dX7_type_163 ?_
  refine lv_l2i hx hb dX7_type_164 rfl ?_
  obtain ⟨hM3, M3, eM3, hf⟩ := rx_svI hf
  refine rx_iast cx hw (arY_4 ad cI cL) ⟨hM3, eM3⟩ dX7_type_165 (fun H locs hw => ?_)
  obtain ⟨v4, ev4, hf⟩ := rx_vvI hf
  refine lv_iinc (lv' := [(7, .int v4), (0, .ref ((ad 0))), (3, .long w3), (5, .long w5)]) hx hb dX7_type_166 hl (k := 3) rfl (rx_inc ic_1 ev4) (Nat.le_of_ble_eq_true rfl) rfl (fun ls hl => ?_)
  refine lv_goto hx hb dX7_type_169 rfl ?_
  exact h72 hw (lv_sub hl [1, 2, 3, 0] rfl) hf
set_option maxRecDepth 100000 in
set_option maxHeartbeats 4000000 in
theorem qk_X7_type_72 (cx : rx_C p m c cX7_type 8 s args wX7_type RX7 D vwCl (tY cI cL) [] wN A) (hret : rx_RI p l e rm_X7_type s m args below meth c cX7_type D vwCl (wY ad cI cL) A Q o) {w3 : Int64} {w5 : Int64} {k172 : Me → Op} (h172 : ∀ {ls : Array Slot} {H : Heap} {locs : List Loc} {M : Me}, rx_W D vwCl (wY ad cI cL) A s.heap M H locs → lv_has ls 8 [(0, .ref ((ad 0)))] → k172 M = some o → W p l e rm_X7_type s m args below meth c H locs 0 0 Q (F0 m 172 ls [])) : ∀ (n : Nat) {w7 : Int32} {ls : Array Slot} {H : Heap} {locs : List Loc} {M : Me}, rx_W D vwCl (wY ad cI cL) A s.heap M H locs → lv_has ls 8 [(0, .ref ((ad 0))), (3, .long w3), (5, .long w5), (7, .int w7)] → rx_lp1 (qo_X7_type_72 k172 w3 w5) n w7 M = some o → W p l e rm_X7_type s m args below meth c H locs 0 0 Q (F0 m 72 ls []) := by
  have hx := cx.1.1
  have hb := cx.1.2.1
  intro n
  induction n with
  | zero => intro w7 ls H locs M hw hl hf; exact rx_no hf
  | succ n ih =>
    intro w7 ls H locs M hw hl hf
    have hf : qo_X7_type_72 k172 w3 w5 (rx_lp1 (qo_X7_type_72 k172 w3 w5) n) w7 M = some o := hf
    refine lv_iload hx hb dX7_type_72 (lv_at hl 3 rfl) ?_
    refine lv_bipush (v := 8) hx hb dX7_type_74 ib_8 ?_
    refine lv_icmp_ge hx hb dX7_type_76 rfl (fun hc => ?_) (fun hc => ?_)
    · have hf := rx_t hc hf
      exact h172 hw (lv_sub hl [0] rfl) hf
    · have hf := rx_f hc hf
      refine lv_aload_n hx hb dX7_type_79 rfl (lv_at hl 0 rfl) ?_
      refine rx_getr cx hw (frY_0_2 ad cI cL) rfl (inT_X7) (Nat.le_of_ble_eq_true rfl) (.tail _ tw_663) dX7_type_80 ?_
      refine lv_bipush (v := 8) hx hb dX7_type_83 ib_8 ?_
      refine lv_aload_n hx hb dX7_type_85 rfl (lv_at hl 0 rfl) ?_
      obtain ⟨v1, ev1, hf⟩ := rx_vvI hf
      refine rx_geti cx hw (fiY_0_0 ad cI cL) rfl (inT_X7) (Nat.le_of_ble_eq_true rfl) (.tail _ tw_661) ev1 dX7_type_86 ?_
      refine lv_imul hx hb dX7_type_89 ?_
      refine lv_iload hx hb dX7_type_90 (lv_at hl 3 rfl) ?_
      refine lv_iadd hx hb dX7_type_92 ?_
      refine lv_lload_n hx hb dX7_type_93 rfl (lv_at hl 1 rfl) ?_
      refine lv_iload hx hb dX7_type_94 (lv_at hl 3 rfl) ?_
      obtain ⟨r2, M3, er2, hf⟩ := rx_clI hf
      refine rx_jSi cx hw (qc_X7_kindIn l D ad cI cL w3 w7) kfX7_kindIn tw_776 ⟨Nat.le_of_ble_eq_true rfl, Nat.le_of_ble_eq_true rfl, rfl, rfl⟩ rfl hl.1 (Nat.le_of_ble_eq_true rfl) ⟨Nat.zero_le _, Nat.zero_le _⟩ dX7_type_96 rfl er2 (fun H locs hw => ?_)
      obtain ⟨hM4, M4, eM4, hf⟩ := rx_svI hf
      refine rx_iast cx hw (arY_2 ad cI cL) ⟨hM4, eM4⟩ dX7_type_99 (fun H locs hw => ?_)
      refine lv_aload_n hx hb dX7_type_100 rfl (lv_at hl 0 rfl) ?_
      refine rx_getr cx hw (frY_0_3 ad cI cL) rfl (inT_X7) (Nat.le_of_ble_eq_true rfl) (.tail _ tw_664) dX7_type_101 ?_
      refine lv_bipush (v := 8) hx hb dX7_type_104 ib_8 ?_
      refine lv_aload_n hx hb dX7_type_106 rfl (lv_at hl 0 rfl) ?_
      obtain ⟨v5, ev5, hf⟩ := rx_vvI hf
      refine rx_geti cx hw (fiY_0_0 ad cI cL) rfl (inT_X7) (Nat.le_of_ble_eq_true rfl) (.tail _ tw_661) ev5 dX7_type_107 ?_
      refine lv_imul hx hb dX7_type_110 ?_
      refine lv_iload hx hb dX7_type_111 (lv_at hl 3 rfl) ?_
      refine lv_iadd hx hb dX7_type_113 ?_
      refine lv_lload_n hx hb dX7_type_114 rfl (lv_at hl 1 rfl) ?_
      refine lv_bipush (v := 8) hx hb dX7_type_115 ib_8 ?_
      refine lv_iload hx hb dX7_type_117 (lv_at hl 3 rfl) ?_
      refine lv_imul hx hb dX7_type_119 ?_
      refine lv_lshr hx hb dX7_type_120 rfl ?_
      refine lv_ldc2 (v := 255) hx hb cx.1.2.2.2.1 (cx.1.2.2.2.2 _ (.tail _ tw_772)) dX7_type_121 ?_
      refine lv_land hx hb dX7_type_124 ?_
      refine lv_ldc2 (v := 9) hx hb cx.1.2.2.2.1 (cx.1.2.2.2.2 _ (.tail _ tw_786)) dX7_type_125 ?_
      refine W.lcmp hx hb dX7_type_128 ?_
      refine lv_if_ne hx hb dX7_type_129 rfl (fun hc => ?_) (fun hc => ?_)
      · have hf := rx_f hc hf
        refine lv_iconst (v := 0) hx hb dX7_type_136 ic_0 ?_
        exact (qk_X7_type_137 cx hret ih) hw hl hf
      · have hf := rx_t hc hf
        refine lv_iconst (v := 1) hx hb dX7_type_132 ic_1 ?_
        refine lv_goto hx hb dX7_type_133 rfl ?_
        exact (qk_X7_type_137 cx hret ih) hw hl hf
set_option maxRecDepth 100000 in
set_option maxHeartbeats 4000000 in
theorem qk_X7_type_172 (cx : rx_C p m c cX7_type 8 s args wX7_type RX7 D vwCl (tY cI cL) [] wN A) (hret : rx_RI p l e rm_X7_type s m args below meth c cX7_type D vwCl (wY ad cI cL) A Q o) {ls : Array Slot} {H : Heap} {locs : List Loc} {M : Me} (hw : rx_W D vwCl (wY ad cI cL) A s.heap M H locs) (hl : lv_has ls 8 [(0, .ref ((ad 0)))]) (hf : qb_X7_type_172 M = some o) : W p l e rm_X7_type s m args below meth c H locs 0 0 Q (F0 m 172 ls []) := by
  have hx := cx.1.1
  have hb := cx.1.2.1
  refine lv_aload_n hx hb dX7_type_172 rfl (lv_at hl 0 rfl) ?_
  refine lv_dup hx hb dX7_type_173 rfl ?_
  obtain ⟨v1, ev1, hf⟩ := rx_vvI hf
  refine rx_geti cx hw (fiY_0_0 ad cI cL) rfl (inT_X7) (Nat.le_of_ble_eq_true rfl) (.tail _ tw_661) ev1 dX7_type_174 ?_
  refine lv_iconst (v := 1) hx hb dX7_type_177 ic_1 ?_
  refine lv_iadd hx hb dX7_type_178 ?_
  obtain ⟨M2, eM2, hf⟩ := rx_vvI hf
  refine rx_puti cx hw (fiY_0_0 ad cI cL) rfl (inT_X7) tyX7 tyX7_ok nmX7 (Nat.le_of_ble_eq_true rfl) (.tail _ tw_661) rfl rfl rfl eM2 dX7_type_179 (fun H locs hw => ?_)
  refine lv_aload_n hx hb dX7_type_182 rfl (lv_at hl 0 rfl) ?_
  obtain ⟨v3, ev3, hf⟩ := rx_vvI hf
  refine rx_geti cx hw (fiY_0_0 ad cI cL) rfl (inT_X7) (Nat.le_of_ble_eq_true rfl) (.tail _ tw_661) ev3 dX7_type_183 ?_
  refine lv_iconst (v := 1) hx hb dX7_type_186 ic_1 ?_
  refine lv_isub hx hb dX7_type_187 ?_
  exact rx_reti hret hw hf dX7_type_188
set_option maxRecDepth 100000 in
set_option maxHeartbeats 4000000 in
theorem qk_X7_type_69 (cx : rx_C p m c cX7_type 8 s args wX7_type RX7 D vwCl (tY cI cL) [] wN A) (hret : rx_RI p l e rm_X7_type s m args below meth c cX7_type D vwCl (wY ad cI cL) A Q o) {w3 : Int64} {w5 : Int64} {ls : Array Slot} {H : Heap} {locs : List Loc} {M : Me} (hw : rx_W D vwCl (wY ad cI cL) A s.heap M H locs) (hl : lv_has ls 8 [(0, .ref ((ad 0))), (3, .long w3), (5, .long w5)]) (hf : qb_X7_type_69 w3 w5 M = some o) : W p l e rm_X7_type s m args below meth c H locs 0 0 Q (F0 m 69 ls []) := by
  have hx := cx.1.1
  have hb := cx.1.2.1
  refine lv_iconst (v := 0) hx hb dX7_type_69 ic_0 ?_
  refine lv_istore (lv' := [(7, .int 0), (0, .ref ((ad 0))), (3, .long w3), (5, .long w5)]) hx hb dX7_type_70 hl (Nat.le_of_ble_eq_true rfl) rfl (fun ls hl => ?_)
  exact (qk_X7_type_72 cx hret (qk_X7_type_172 cx hret) rx_FU) hw (lv_sub hl [1, 2, 3, 0] rfl) hf
set_option maxRecDepth 100000 in
set_option maxHeartbeats 4000000 in
theorem qk_X7_type_0 (cx : rx_C p m c cX7_type 8 s args wX7_type RX7 D vwCl (tY cI cL) [] wN A) (hret : rx_RI p l e rm_X7_type s m args below meth c cX7_type D vwCl (wY ad cI cL) A Q o) {w1 : Int64} {w3 : Int64} {w5 : Int64} {ls : Array Slot} {H : Heap} {locs : List Loc} {M : Me} (hw : rx_W D vwCl (wY ad cI cL) A s.heap M H locs) (hl : lv_has ls 8 [(0, .ref ((ad 0))), (1, .long w1), (3, .long w3), (5, .long w5)]) (hf : qf_X7_type w1 w3 w5 M = some o) : W p l e rm_X7_type s m args below meth c H locs 0 0 Q (F0 m 0 ls []) := by
  have hx := cx.1.1
  have hb := cx.1.2.1
  refine lv_lload_n hx hb dX7_type_0 rfl (lv_at hl 1 rfl) ?_
  refine lv_lload_n hx hb dX7_type_1 rfl (lv_at hl 2 rfl) ?_
  refine lv_lload hx hb dX7_type_2 (lv_at hl 3 rfl) ?_
  obtain ⟨r1, M2, er1, hf⟩ := rx_clI hf
  refine rx_jSi cx hw (qc_X7_isType l D ad cI cL w1 w3 w5) kfX7_isType tw_769 ⟨Nat.le_of_ble_eq_true rfl, Nat.le_of_ble_eq_true rfl, rfl, rfl⟩ rfl hl.1 (Nat.le_of_ble_eq_true rfl) ⟨Nat.zero_le _, Nat.zero_le _⟩ dX7_type_4 rfl er1 (fun H locs hw => ?_)
  refine lv_if_ne hx hb dX7_type_7 rfl (fun hc => ?_) (fun hc => ?_)
  · have hf := rx_f hc hf
    refine lv_aload_n hx hb dX7_type_13 rfl (lv_at hl 0 rfl) ?_
    obtain ⟨v3, ev3, hf⟩ := rx_vvI hf
    refine rx_geti cx hw (fiY_0_0 ad cI cL) rfl (inT_X7) (Nat.le_of_ble_eq_true rfl) (.tail _ tw_661) ev3 dX7_type_14 ?_
    refine lv_bipush (v := 12) hx hb dX7_type_17 ib_12 ?_
    refine lv_icmp_eq hx hb dX7_type_19 rfl (fun hc => ?_) (fun hc => ?_)
    · have hf := rx_t hc hf
      refine lv_bipush (v := (-3)) hx hb dX7_type_29 ib_m3 ?_
      exact rx_reti hret hw hf dX7_type_31
    · have hf := rx_f hc hf
      refine lv_aload_n hx hb dX7_type_22 rfl (lv_at hl 0 rfl) ?_
      obtain ⟨v4, ev4, hf⟩ := rx_vvI hf
      refine rx_geti cx hw (fiY_0_7 ad cI cL) rfl (inT_X7) (Nat.le_of_ble_eq_true rfl) (.tail _ tw_668) ev4 dX7_type_23 ?_
      refine lv_if_eq hx hb dX7_type_26 rfl (fun hc => ?_) (fun hc => ?_)
      · have hf := rx_t hc hf
        refine lv_iconst (v := 0) hx hb dX7_type_32 ic_0 ?_
        refine lv_istore (lv' := [(7, .int 0), (0, .ref ((ad 0))), (1, .long w1), (3, .long w3), (5, .long w5)]) hx hb dX7_type_33 hl (Nat.le_of_ble_eq_true rfl) rfl (fun ls hl => ?_)
        exact (qk_X7_type_35 cx hret (qk_X7_type_69 cx hret) rx_FU) hw (lv_sub hl [1, 2, 3, 4, 0] rfl) hf
      · have hf := rx_f hc hf
        refine lv_bipush (v := (-3)) hx hb dX7_type_29 ib_m3 ?_
        exact rx_reti hret hw hf dX7_type_31
  · have hf := rx_t hc hf
    refine lv_bipush (v := (-2)) hx hb dX7_type_10 ib_m2 ?_
    exact rx_reti hret hw hf dX7_type_12
end
set_option maxRecDepth 100000 in
theorem qc_X7_type (l : Launch) (D : va_G) (ad : Nat → Nat) (cI cL : ClassId) (w1 : Int64) (w3 : Int64) (w5 : Int64) : rx_MI l yX7_type wX7_type rm_X7_type D vwCl (wY ad cI cL) (tY cI cL) [] wN [.ref (ad 0), .long w1, .long w3, .long w5] (fun M => qf_X7_type w1 w3 w5 M) :=
  rx_ofI (by decide) rfl wN_ok (Nat.le_of_ble_eq_true rfl) (fun _ _ _ _ _ _ _ _ _ _ _ _ _ cx hret hw hl hf => qk_X7_type_0 cx hret hw hl hf)

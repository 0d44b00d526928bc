def rm_X6_type : Room := { frames := 4, cells := 0, slots := 0, locals := 97 }
noncomputable def qf_X6_type  (w1 : Int64) (w3 : Int64) (w5 : Int64)  (M : Me) : Op :=
  rx_cl (qf_X0_isType w1 w3 w5 M) fun r1 M2 => if r1 = 0 then (some ((-2), M2)) else (rx_vv (M2 4 2) fun v3 => if v3 = 0 then (rx_vv (M2 1 8) fun v4 => if v4 < 12 then (rx_cl (qf_X0_addType w1 w3 w5 M2) fun r5 M6 => some (r5, M6)) else (some ((-3), M2))) else (some ((-3), M2)))
section
variable {p : Program} {l : Launch} {e : Env} {s : State} {m : MethodId} {args : Array Value} {below : List Frame} {meth : Method} {c : Code} {Q : State → Prop} {D : va_G} {A : Nat → Prop} {o : Int32 × Me} {ad : Nat → Nat} {cI cL : ClassId} {b1 b2 : Nat}
set_option maxRecDepth 100000 in
set_option maxHeartbeats 4000000 in
theorem qk_X6_type_0 (cx : rx_C p m c cX6_type 7 s args wX6_type RX6 D vwCl (tX cI cL) (zX b1 b2) wN A) (hret : rx_RI p l e rm_X6_type s m args below meth c cX6_type D vwCl (wX ad cI cL) A Q o) {w1 : Int64} {w3 : Int64} {w5 : Int64} {ls : Array Slot} {H : Heap} {locs : List Loc} {M : Me} (hw : rx_W D vwCl (wX ad cI cL) A s.heap M H locs) (hl : lv_has ls 7 [(0, .ref ((ad 0))), (1, .long w1), (3, .long w3), (5, .long w5)]) (hf : qf_X6_type w1 w3 w5 M = some o) : W p l e rm_X6_type s m args below meth c H locs 0 0 Q (F0 m 0 ls []) := by
  have hx := cx.1.1
  have hb := cx.1.2.1
  refine lv_lload_n hx hb dX6_type_0 rfl (lv_at hl 1 rfl) ?_
  refine lv_lload_n hx hb dX6_type_1 rfl (lv_at hl 2 rfl) ?_
  refine lv_lload hx hb dX6_type_2 (lv_at hl 3 rfl) ?_
  obtain ⟨r1, M2, er1, hf⟩ := rx_clI hf
  refine rx_jSi cx hw (qc_X0_isType l D ad cI cL b1 b2 w1 w3 w5) kfX0_isType tw_321 ⟨Nat.le_of_ble_eq_true rfl, Nat.le_of_ble_eq_true rfl, rfl, rfl⟩ rfl hl.1 (Nat.le_of_ble_eq_true rfl) ⟨Nat.zero_le _, Nat.zero_le _⟩ dX6_type_4 rfl er1 (fun H locs hw => ?_)
  refine lv_if_ne hx hb dX6_type_7 rfl (fun hc => ?_) (fun hc => ?_)
  · have hf := rx_f hc hf
    refine lv_aload_n hx hb dX6_type_13 rfl (lv_at hl 0 rfl) ?_
    refine rx_getr cx hw (frX_0_2 ad cI cL) rfl (inT_X6) (Nat.le_of_ble_eq_true rfl) (.tail _ tw_306) dX6_type_14 ?_
    obtain ⟨v3, ev3, hf⟩ := rx_vvI hf
    refine rx_getiN cx hw (fiX_4_2 ad cI cL) rfl (inT_X2) (Nat.le_of_ble_eq_true rfl) tn_184 ev3 dX6_type_17 ?_
    refine lv_if_ne hx hb dX6_type_20 rfl (fun hc => ?_) (fun hc => ?_)
    · have hf := rx_f hc hf
      refine lv_bipush (v := (-3)) hx hb dX6_type_35 ib_m3 ?_
      exact rx_reti hret hw hf dX6_type_37
    · have hf := rx_t hc hf
      refine lv_aload_n hx hb dX6_type_23 rfl (lv_at hl 0 rfl) ?_
      refine rx_getr cx hw (frX_0_0 ad cI cL) rfl (inT_X6) (Nat.le_of_ble_eq_true rfl) (.tail _ tw_304) dX6_type_24 ?_
      obtain ⟨v4, ev4, hf⟩ := rx_vvI hf
      refine rx_getiN cx hw (fiX_1_8 ad cI cL) rfl (inT_X0) (Nat.le_of_ble_eq_true rfl) tn_43 ev4 dX6_type_27 ?_
      refine lv_bipush (v := 12) hx hb dX6_type_30 ib_12 ?_
      refine lv_icmp_lt hx hb dX6_type_32 rfl (fun hc => ?_) (fun hc => ?_)
      · have hf := rx_t hc hf
        refine lv_aload_n hx hb dX6_type_38 rfl (lv_at hl 0 rfl) ?_
        refine rx_getr cx hw (frX_0_0 ad cI cL) rfl (inT_X6) (Nat.le_of_ble_eq_true rfl) (.tail _ tw_304) dX6_type_39 ?_
        refine lv_lload_n hx hb dX6_type_42 rfl (lv_at hl 1 rfl) ?_
        refine lv_lload_n hx hb dX6_type_43 rfl (lv_at hl 2 rfl) ?_
        refine lv_lload hx hb dX6_type_44 (lv_at hl 3 rfl) ?_
        obtain ⟨r5, M6, er5, hf⟩ := rx_clI hf
        refine rx_jVi cx hw (qc_X0_addType l D ad cI cL b1 b2 w1 w3 w5) (obX_1 ad cI cL) rfl rfl kfX0_addType tw_348 ⟨Nat.le_of_ble_eq_true rfl, Nat.le_of_ble_eq_true rfl, rfl, rfl⟩ rfl hl.1 (Nat.le_of_ble_eq_true rfl) ⟨Nat.zero_le _, Nat.zero_le _⟩ dX6_type_46 rfl er5 (fun H locs hw => ?_)
        exact rx_reti hret hw hf dX6_type_49
      · have hf := rx_f hc hf
        refine lv_bipush (v := (-3)) hx hb dX6_type_35 ib_m3 ?_
        exact rx_reti hret hw hf dX6_type_37
  · have hf := rx_t hc hf
    refine lv_bipush (v := (-2)) hx hb dX6_type_10 ib_m2 ?_
    exact rx_reti hret hw hf dX6_type_12
end
set_option maxRecDepth 100000 in
theorem qc_X6_type (l : Launch) (D : va_G) (ad : Nat → Nat) (cI cL : ClassId) (b1 b2 : Nat) (w1 : Int64) (w3 : Int64) (w5 : Int64) : rx_MI l yX6_type wX6_type rm_X6_type D vwCl (wX ad cI cL) (tX cI cL) (zX b1 b2) wN [.ref (ad 0), .long w1, .long w3, .long w5] (fun M => qf_X6_type w1 w3 w5 M) :=
  rx_ofI (by decide) rfl wN_ok (Nat.le_of_ble_eq_true rfl) (fun _ _ _ _ _ _ _ _ _ _ _ _ _ cx hret hw hl hf => qk_X6_type_0 cx hret hw hl hf)
def rm_X0_addToList : Room := { frames := 0, cells := 0, slots := 0, locals := 0 }
noncomputable def qf_X0_addToList  (w1 : Int32)  (M : Me) : Op :=
  rx_vv (M 1 9) fun v1 => rx_sv M 16 24 v1 w1 fun M2 => rx_vv (M2 1 9) fun v3 => rx_vv (rx_st M2 1 9 (v3 + 1)) fun M4 => rx_vv (M4 1 9) fun v5 => some (v5, M4)
section
variable {p : Program} {l : Launch} {e : Env} {s : State} {m : MethodId} {args : Array Value} {below : List Frame} {meth : Method} {c : Code} {Q : State → Prop} {D : va_G} {A : Nat → Prop} {o : Int32 × Me} {ad : Nat → Nat} {cI cL : ClassId} {b1 b2 : Nat}
set_option maxRecDepth 100000 in
set_option maxHeartbeats 4000000 in
theorem qk_X0_addToList_0 (cx : rx_C p m c cX0_addToList 2 s args wX0_addToList RX0 D vwCl (tX cI cL) (zX b1 b2) wN A) (hret : rx_RI p l e rm_X0_addToList s m args below meth c cX0_addToList D vwCl (wX ad cI cL) A Q o) {w1 : Int32} {ls : Array Slot} {H : Heap} {locs : List Loc} {M : Me} (hw : rx_W D vwCl (wX ad cI cL) A s.heap M H locs) (hl : lv_has ls 2 [(0, .ref ((ad 1))), (1, .int w1)]) (hf : qf_X0_addToList w1 M = some o) : W p l e rm_X0_addToList s m args below meth c H locs 0 0 Q (F0 m 0 ls []) := by
  have hx := cx.1.1
  have hb := cx.1.2.1
  refine lv_aload_n hx hb dX0_addToList_0 rfl (lv_at hl 0 rfl) ?_
  refine rx_getr cx hw (frX_1_7 ad cI cL) rfl (inT_X0) (Nat.le_of_ble_eq_true rfl) (.tail _ tw_41) dX0_addToList_1 ?_
  refine lv_aload_n hx hb dX0_addToList_4 rfl (lv_at hl 0 rfl) ?_
  obtain ⟨v1, ev1, hf⟩ := rx_vvI hf
  refine rx_geti cx hw (fiX_1_9 ad cI cL) rfl (inT_X0) (Nat.le_of_ble_eq_true rfl) (.tail _ tw_47) ev1 dX0_addToList_5 ?_
  refine lv_iload_n hx hb dX0_addToList_8 rfl (lv_at hl 1 rfl) ?_
  obtain ⟨hM2, M2, eM2, hf⟩ := rx_svI hf
  refine rx_iast cx hw (arX_16 ad cI cL) ⟨hM2, eM2⟩ dX0_addToList_9 (fun H locs hw => ?_)
  refine lv_aload_n hx hb dX0_addToList_10 rfl (lv_at hl 0 rfl) ?_
  refine lv_dup hx hb dX0_addToList_11 rfl ?_
  obtain ⟨v3, ev3, hf⟩ := rx_vvI hf
  refine rx_geti cx hw (fiX_1_9 ad cI cL) rfl (inT_X0) (Nat.le_of_ble_eq_true rfl) (.tail _ tw_47) ev3 dX0_addToList_12 ?_
  refine lv_iconst (v := 1) hx hb dX0_addToList_15 ic_1 ?_
  refine lv_iadd hx hb dX0_addToList_16 ?_
  obtain ⟨M4, eM4, hf⟩ := rx_vvI hf
  refine rx_puti cx hw (fiX_1_9 ad cI cL) rfl (inT_X0) tyX0 tyX0_ok nmX0 (Nat.le_of_ble_eq_true rfl) (.tail _ tw_47) rfl rfl rfl eM4 dX0_addToList_17 (fun H locs hw => ?_)
  refine lv_aload_n hx hb dX0_addToList_20 rfl (lv_at hl 0 rfl) ?_
  obtain ⟨v5, ev5, hf⟩ := rx_vvI hf
  refine rx_geti cx hw (fiX_1_9 ad cI cL) rfl (inT_X0) (Nat.le_of_ble_eq_true rfl) (.tail _ tw_47) ev5 dX0_addToList_21 ?_
  exact rx_reti hret hw hf dX0_addToList_24
end
set_option maxRecDepth 100000 in
theorem qc_X0_addToList (l : Launch) (D : va_G) (ad : Nat → Nat) (cI cL : ClassId) (b1 b2 : Nat) (w1 : Int32) : rx_MI l yX0_addToList wX0_addToList rm_X0_addToList D vwCl (wX ad cI cL) (tX cI cL) (zX b1 b2) wN [.ref (ad 1), .int w1] (fun M => qf_X0_addToList w1 M) :=
  rx_ofI (by decide) rfl wN_ok (Nat.le_of_ble_eq_true rfl) (fun _ _ _ _ _ _ _ _ _ _ _ _ _ cx hret hw hl hf => qk_X0_addToList_0 cx hret hw hl hf)
def rm_X6_draw : Room := { frames := 1, cells := 0, slots := 0, locals := 21 }
noncomputable def qf_X6_draw  (w1 : Int32)  (M : Me) : Op :=
  if w1 < 0 then (some ((-2), M)) else (rx_vv (M 1 8) fun v1 => if w1 < v1 then (rx_vv (M 4 2) fun v2 => if v2 = 0 then (rx_vv (M 1 9) fun v3 => if v3 < 24 then (rx_cl (qf_X0_addToList w1 M) fun r4 M5 => some (r4, M5)) else (some ((-3), M))) else (some ((-3), M))) else (some ((-2), M)))
section
variable {p : Program} {l : Launch} {e : Env} {s : State} {m : MethodId} {args : Array Value} {below : List Frame} {meth : Method} {c : Code} {Q : State → Prop} {D : va_G} {A : Nat → Prop} {o : Int32 × Me} {ad : Nat → Nat} {cI cL : ClassId} {b1 b2 : Nat}
set_option maxRecDepth 100000 in
set_option maxHeartbeats 4000000 in
theorem qk_X6_draw_0 (cx : rx_C p m c cX6_draw 2 s args wX6_draw RX6 D vwCl (tX cI cL) (zX b1 b2) wN A) (hret : rx_RI p l e rm_X6_draw s m args below meth c cX6_draw D vwCl (wX ad cI cL) A Q o) {w1 : Int32} {ls : Array Slot} {H : Heap} {locs : List Loc} {M : Me} (hw : rx_W D vwCl (wX ad cI cL) A s.heap M H locs) (hl : lv_has ls 2 [(0, .ref ((ad 0))), (1, .int w1)]) (hf : qf_X6_draw w1 M = some o) : W p l e rm_X6_draw s m args below meth c H locs 0 0 Q (F0 m 0 ls []) := by
  have hx := cx.1.1
  have hb := cx.1.2.1
  refine lv_iload_n hx hb dX6_draw_0 rfl (lv_at hl 1 rfl) ?_
  refine lv_if_lt hx hb dX6_draw_1 rfl (fun hc => ?_) (fun hc => ?_)
  · have hf := rx_t hc hf
    refine lv_bipush (v := (-2)) hx hb dX6_draw_15 ib_m2 ?_
    exact rx_reti hret hw hf dX6_draw_17
  · have hf := rx_f hc hf
    refine lv_iload_n hx hb dX6_draw_4 rfl (lv_at hl 1 rfl) ?_
    refine lv_aload_n hx hb dX6_draw_5 rfl (lv_at hl 0 rfl) ?_
    refine rx_getr cx hw (frX_0_0 ad cI cL) rfl (inT_X6) (Nat.le_of_ble_eq_true rfl) (.tail _ tw_304) dX6_draw_6 ?_
    obtain ⟨v1, ev1, hf⟩ := rx_vvI hf
    refine rx_getiN cx hw (fiX_1_8 ad cI cL) rfl (inT_X0) (Nat.le_of_ble_eq_true rfl) tn_43 ev1 dX6_draw_9 ?_
    refine lv_icmp_lt hx hb dX6_draw_12 rfl (fun hc => ?_) (fun hc => ?_)
    · have hf := rx_t hc hf
      refine lv_aload_n hx hb dX6_draw_18 rfl (lv_at hl 0 rfl) ?_
      refine rx_getr cx hw (frX_0_2 ad cI cL) rfl (inT_X6) (Nat.le_of_ble_eq_true rfl) (.tail _ tw_306) dX6_draw_19 ?_
      obtain ⟨v2, ev2, hf⟩ := rx_vvI hf
      refine rx_getiN cx hw (fiX_4_2 ad cI cL) rfl (inT_X2) (Nat.le_of_ble_eq_true rfl) tn_184 ev2 dX6_draw_22 ?_
      refine lv_if_ne hx hb dX6_draw_25 rfl (fun hc => ?_) (fun hc => ?_)
      · have hf := rx_f hc hf
        refine lv_bipush (v := (-3)) hx hb dX6_draw_40 ib_m3 ?_
        exact rx_reti hret hw hf dX6_draw_42
      · have hf := rx_t hc hf
        refine lv_aload_n hx hb dX6_draw_28 rfl (lv_at hl 0 rfl) ?_
        refine rx_getr cx hw (frX_0_0 ad cI cL) rfl (inT_X6) (Nat.le_of_ble_eq_true rfl) (.tail _ tw_304) dX6_draw_29 ?_
        obtain ⟨v3, ev3, hf⟩ := rx_vvI hf
        refine rx_getiN cx hw (fiX_1_9 ad cI cL) rfl (inT_X0) (Nat.le_of_ble_eq_true rfl) tn_45 ev3 dX6_draw_32 ?_
        refine lv_bipush (v := 24) hx hb dX6_draw_35 ib_24 ?_
        refine lv_icmp_lt hx hb dX6_draw_37 rfl (fun hc => ?_) (fun hc => ?_)
        · have hf := rx_t hc hf
          refine lv_aload_n hx hb dX6_draw_43 rfl (lv_at hl 0 rfl) ?_
          refine rx_getr cx hw (frX_0_0 ad cI cL) rfl (inT_X6) (Nat.le_of_ble_eq_true rfl) (.tail _ tw_304) dX6_draw_44 ?_
          refine lv_iload_n hx hb dX6_draw_47 rfl (lv_at hl 1 rfl) ?_
          obtain ⟨r4, M5, er4, hf⟩ := rx_clI hf
          refine rx_jVi cx hw (qc_X0_addToList l D ad cI cL b1 b2 w1) (obX_1 ad cI cL) rfl rfl kfX0_addToList tw_356 ⟨Nat.le_of_ble_eq_true rfl, Nat.le_of_ble_eq_true rfl, rfl, rfl⟩ rfl hl.1 (Nat.le_of_ble_eq_true rfl) ⟨Nat.zero_le _, Nat.zero_le _⟩ dX6_draw_48 rfl er4 (fun H locs hw => ?_)
          exact rx_reti hret hw hf dX6_draw_51
        · have hf := rx_f hc hf
          refine lv_bipush (v := (-3)) hx hb dX6_draw_40 ib_m3 ?_
          exact rx_reti hret hw hf dX6_draw_42
    · have hf := rx_f hc hf
      refine lv_bipush (v := (-2)) hx hb dX6_draw_15 ib_m2 ?_
      exact rx_reti hret hw hf dX6_draw_17
end
set_option maxRecDepth 100000 in
theorem qc_X6_draw (l : Launch) (D : va_G) (ad : Nat → Nat) (cI cL : ClassId) (b1 b2 : Nat) (w1 : Int32) : rx_MI l yX6_draw wX6_draw rm_X6_draw D vwCl (wX ad cI cL) (tX cI cL) (zX b1 b2) wN [.ref (ad 0), .int w1] (fun M => qf_X6_draw w1 M) :=
  rx_ofI (by decide) rfl wN_ok (Nat.le_of_ble_eq_true rfl) (fun _ _ _ _ _ _ _ _ _ _ _ _ _ cx hret hw hl hf => qk_X6_draw_0 cx hret hw hl hf)
def rm_X4_forget : Room := { frames := 0, cells := 0, slots := 0, locals := 0 }
noncomputable def qf_X4_forget    (M : Me) : Op :=
  rx_vv (rx_st M 5 3 (-1)) fun M1 => some (0, M1)
section
variable {p : Program} {l : Launch} {e : Env} {s : State} {m : MethodId} {args : Array Value} {below : List Frame} {meth : Method} {c : Code} {Q : State → Prop} {D : va_G} {A : Nat → Prop} {o : Int32 × Me} {ad : Nat → Nat} {cI cL : ClassId} {b1 b2 : Nat}
set_option maxRecDepth 100000 in
set_option maxHeartbeats 4000000 in
theorem qk_X4_forget_0 (cx : rx_C p m c cX4_forget 1 s args wX4_forget RX4 D vwCl (tX cI cL) (zX b1 b2) wN A) (hret : rx_RV p l e rm_X4_forget s m args below meth c cX4_forget D vwCl (wX ad cI cL) A Q o) {ls : Array Slot} {H : Heap} {locs : List Loc} {M : Me} (hw : rx_W D vwCl (wX ad cI cL) A s.heap M H locs) (hl : lv_has ls 1 [(0, .ref ((ad 5)))]) (hf : qf_X4_forget M = some o) : W p l e rm_X4_forget s m args below meth c H locs 0 0 Q (F0 m 0 ls []) := by
  have hx := cx.1.1
  have hb := cx.1.2.1
  refine lv_aload_n hx hb dX4_forget_0 rfl (lv_at hl 0 rfl) ?_
  refine lv_iconst (v := (-1)) hx hb dX4_forget_1 ic_m1 ?_
  obtain ⟨M1, eM1, hf⟩ := rx_vvI hf
  refine rx_puti cx hw (fiX_5_3 ad cI cL) rfl (inT_X4) tyX4 tyX4_ok nmX4 (Nat.le_of_ble_eq_true rfl) (.tail _ tw_285) rfl rfl rfl eM1 dX4_forget_2 (fun H locs hw => ?_)
  exact rx_retv hret hw hf dX4_forget_5
end
set_option maxRecDepth 100000 in
theorem qc_X4_forget (l : Launch) (D : va_G) (ad : Nat → Nat) (cI cL : ClassId) (b1 b2 : Nat) : rx_MV l yX4_forget wX4_forget rm_X4_forget D vwCl (wX ad cI cL) (tX cI cL) (zX b1 b2) wN [.ref (ad 5)] (fun M => qf_X4_forget M) :=
  rx_ofV (by decide) rfl wN_ok (Nat.le_of_ble_eq_true rfl) (fun _ _ _ _ _ _ _ _ _ _ _ _ _ cx hret hw hl hf => qk_X4_forget_0 cx hret hw hl hf)
def rm_X3_takeMenBackTo : Room := { frames := 0, cells := 0, slots := 0, locals := 0 }
noncomputable def qo_X3_takeMenBackTo_7  (w1 : Int32) (rec : Int32 → Me → Op) (w2 : Int32) (M : Me) : Op :=
  if w2 < w1 then (some (0, M)) else (rx_ld M 32 48 w2 fun v1 => rx_ld M 33 48 w2 fun v2 => rx_sv M 29 192 v1 v2 fun M3 => rx_vv (rx_st M3 3 10 w2) fun M4 => rx_vv (w2 + (-1)) fun v5 => rec v5 M4)
noncomputable def qf_X3_takeMenBackTo  (w1 : Int32)  (M : Me) : Op :=
  rx_vv (M 3 10) fun v1 => rx_vv (v1 - 1) fun v2 => rx_lp1 (qo_X3_takeMenBackTo_7 w1) rx_FU v2 M
section
variable {p : Program} {l : Launch} {e : Env} {s : State} {m : MethodId} {args : Array Value} {below : List Frame} {meth : Method} {c : Code} {Q : State → Prop} {D : va_G} {A : Nat → Prop} {o : Int32 × Me} {ad : Nat → Nat} {cI cL : ClassId} {b1 b2 : Nat}
set_option maxRecDepth 100000 in
set_option maxHeartbeats 4000000 in
theorem qk_X3_takeMenBackTo_7 (cx : rx_C p m c cX3_takeMenBackTo 3 s args wX3_takeMenBackTo RX3 D vwCl (tX cI cL) (zX b1 b2) wN A) (hret : rx_RV p l e rm_X3_takeMenBackTo s m args below meth c cX3_takeMenBackTo D vwCl (wX ad cI cL) A Q o) {w1 : Int32} : ∀ (n : Nat) {w2 : Int32} {ls : Array Slot} {H : Heap} {locs : List Loc} {M : Me}, rx_W D vwCl (wX ad cI cL) A s.heap M H locs → lv_has ls 3 [(0, .ref ((ad 3))), (1, .int w1), (2, .int w2)] → rx_lp1 (qo_X3_takeMenBackTo_7 w1) n w2 M = some o → W p l e rm_X3_takeMenBackTo s m args below meth c H locs 0 0 Q (F0 m 7 ls []) := by
  have hx := cx.1.1
  have hb := cx.1.2.1
  intro n
  induction n with
  | zero => intro w2 ls H locs M hw hl hf; exact rx_no hf
  | succ n ih =>
    intro w2 ls H locs M hw hl hf
    have hf : qo_X3_takeMenBackTo_7 w1 (rx_lp1 (qo_X3_takeMenBackTo_7 w1) n) w2 M = some o := hf
    refine lv_iload_n hx hb dX3_takeMenBackTo_7 rfl (lv_at hl 2 rfl) ?_
    refine lv_iload_n hx hb dX3_takeMenBackTo_8 rfl (lv_at hl 1 rfl) ?_
    refine lv_icmp_lt hx hb dX3_takeMenBackTo_9 rfl (fun hc => ?_) (fun hc => ?_)
    · have hf := rx_t hc hf
      exact rx_retv hret hw hf dX3_takeMenBackTo_40
    · have hf := rx_f hc hf
      refine lv_aload_n hx hb dX3_takeMenBackTo_12 rfl (lv_at hl 0 rfl) ?_
      refine rx_getr cx hw (frX_3_4 ad cI cL) rfl (inT_X3) (Nat.le_of_ble_eq_true rfl) (.tail _ tw_94) dX3_takeMenBackTo_13 ?_
      refine lv_aload_n hx hb dX3_takeMenBackTo_16 rfl (lv_at hl 0 rfl) ?_
      refine rx_getr cx hw (frX_3_8 ad cI cL) rfl (inT_X3) (Nat.le_of_ble_eq_true rfl) (.tail _ tw_101) dX3_takeMenBackTo_17 ?_
      refine lv_iload_n hx hb dX3_takeMenBackTo_20 rfl (lv_at hl 2 rfl) ?_
      obtain ⟨hv1, v1, ev1, hf⟩ := rx_ldI hf
      refine rx_iald cx hw (arX_32 ad cI cL) ⟨hv1, ev1⟩ dX3_takeMenBackTo_21 ?_
      refine lv_aload_n hx hb dX3_takeMenBackTo_22 rfl (lv_at hl 0 rfl) ?_
      refine rx_getr cx hw (frX_3_9 ad cI cL) rfl (inT_X3) (Nat.le_of_ble_eq_true rfl) (.tail _ tw_102) dX3_takeMenBackTo_23 ?_
      refine lv_iload_n hx hb dX3_takeMenBackTo_26 rfl (lv_at hl 2 rfl) ?_
      obtain ⟨hv2, v2, ev2, hf⟩ := rx_ldI hf
      refine rx_iald cx hw (arX_33 ad cI cL) ⟨hv2, ev2⟩ dX3_takeMenBackTo_27 ?_
      obtain ⟨hM3, M3, eM3, hf⟩ := rx_svI hf
      refine rx_iast cx hw (arX_29 ad cI cL) ⟨hM3, eM3⟩ dX3_takeMenBackTo_28 (fun H locs hw => ?_)
      refine lv_aload_n hx hb dX3_takeMenBackTo_29 rfl (lv_at hl 0 rfl) ?_
      refine lv_iload_n hx hb dX3_takeMenBackTo_30 rfl (lv_at hl 2 rfl) ?_
      obtain ⟨M4, eM4, hf⟩ := rx_vvI hf
      refine rx_puti cx hw (fiX_3_10 ad cI cL) rfl (inT_X3) tyX3 tyX3_ok nmX3 (Nat.le_of_ble_eq_true rfl) (.tail _ tw_103) rfl rfl rfl eM4 dX3_takeMenBackTo_31 (fun H locs hw => ?_)
      obtain ⟨v5, ev5, hf⟩ := rx_vvI hf
      refine lv_iinc (lv' := [(2, .int v5), (0, .ref ((ad 3))), (1, .int w1)]) hx hb dX3_takeMenBackTo_34 hl (k := 2) rfl (rx_inc ic_m1 ev5) (Nat.le_of_ble_eq_true rfl) rfl (fun ls hl => ?_)
      refine lv_goto hx hb dX3_takeMenBackTo_37 rfl ?_
      exact ih hw (lv_sub hl [1, 2, 0] rfl) hf
set_option maxRecDepth 100000 in
set_option maxHeartbeats 4000000 in
theorem qk_X3_takeMenBackTo_0 (cx : rx_C p m c cX3_takeMenBackTo 3 s args wX3_takeMenBackTo RX3 D vwCl (tX cI cL) (zX b1 b2) wN A) (hret : rx_RV p l e rm_X3_takeMenBackTo s m args below meth c cX3_takeMenBackTo D vwCl (wX ad cI cL) A Q o) {w1 : Int32} {ls : Array Slot} {H : Heap} {locs : List Loc} {M : Me} (hw : rx_W D vwCl (wX ad cI cL) A s.heap M H locs) (hl : lv_has ls 3 [(0, .ref ((ad 3))), (1, .int w1)]) (hf : qf_X3_takeMenBackTo w1 M = some o) : W p l e rm_X3_takeMenBackTo s m args below meth c H locs 0 0 Q (F0 m 0 ls []) := by
  have hx := cx.1.1
  have hb := cx.1.2.1
  refine lv_aload_n hx hb dX3_takeMenBackTo_0 rfl (lv_at hl 0 rfl) ?_
  obtain ⟨v1, ev1, hf⟩ := rx_vvI hf
  refine rx_geti cx hw (fiX_3_10 ad cI cL) rfl (inT_X3) (Nat.le_of_ble_eq_true rfl) (.tail _ tw_103) ev1 dX3_takeMenBackTo_1 ?_
  refine lv_iconst (v := 1) hx hb dX3_takeMenBackTo_4 ic_1 ?_
  refine lv_isub hx hb dX3_takeMenBackTo_5 ?_
  obtain ⟨v2, ev2, hf⟩ := rx_vvI hf
  refine rx_top ev2 ?_
  refine lv_istore_n (lv' := [(2, .int v2), (0, .ref ((ad 3))), (1, .int w1)]) hx hb dX3_takeMenBackTo_6 rfl hl (Nat.le_of_ble_eq_true rfl) rfl (fun ls hl => ?_)
  exact (qk_X3_takeMenBackTo_7 cx hret rx_FU) hw (lv_sub hl [1, 2, 0] rfl) hf
end
set_option maxRecDepth 100000 in
theorem qc_X3_takeMenBackTo (l : Launch) (D : va_G) (ad : Nat → Nat) (cI cL : ClassId) (b1 b2 : Nat) (w1 : Int32) : rx_MV l yX3_takeMenBackTo wX3_takeMenBackTo rm_X3_takeMenBackTo D vwCl (wX ad cI cL) (tX cI cL) (zX b1 b2) wN [.ref (ad 3), .int w1] (fun M => qf_X3_takeMenBackTo w1 M) :=
  rx_ofV (by decide) rfl wN_ok (Nat.le_of_ble_eq_true rfl) (fun _ _ _ _ _ _ _ _ _ _ _ _ _ cx hret hw hl hf => qk_X3_takeMenBackTo_0 cx hret hw hl hf)
def rm_X2_restore : Room := { frames := 1, cells := 0, slots := 0, locals := 22 }
noncomputable def qo_X2_restore_67  (w1 : Int32) (rec : Int32 → Me → Op) (w2 : Int32) (M : Me) : Op :=
  if 3 ≤ w2 then (some (0, M)) else (rx_ld M 37 240 ((w1 + 4) + w2) fun v1 => rx_sv M 34 3 w2 v1 fun M2 => rx_ld M2 37 240 (((w1 + 4) + 3) + w2) fun v3 => rx_sv M2 35 3 w2 v3 fun M4 => rx_vv (w2 + 1) fun v5 => rec v5 M4)
noncomputable def qf_X2_restore    (M : Me) : Op :=
  rx_vv (M 2 9) fun v1 => rx_vv ((v1 - 1) * 10) fun v2 => rx_ld M 37 240 v2 fun v3 => rx_vv (rx_st M 4 5 v3) fun M4 => rx_ld M4 37 240 (v2 + 1) fun v5 => rx_vv (rx_st M4 4 7 v5) fun M6 => rx_ld M6 37 240 (v2 + 2) fun v7 => rx_vv (rx_st M6 4 8 v7) fun M8 => rx_ld M8 37 240 (v2 + 3) fun v9 => rx_cl (qf_X3_takeMenBackTo v9 M8) fun r10 M11 => rx_lp1 (qo_X2_restore_67 v2) rx_FU 0 M11
section
variable {p : Program} {l : Launch} {e : Env} {s : State} {m : MethodId} {args : Array Value} {below : List Frame} {meth : Method} {c : Code} {Q : State → Prop} {D : va_G} {A : Nat → Prop} {o : Int32 × Me} {ad : Nat → Nat} {cI cL : ClassId} {b1 b2 : Nat}
set_option maxRecDepth 100000 in
set_option maxHeartbeats 4000000 in
theorem qk_X2_restore_67 (cx : rx_C p m c cX2_restore 3 s args wX2_restore RX2 D vwCl (tX cI cL) (zX b1 b2) wN A) (hret : rx_RV p l e rm_X2_restore s m args below meth c cX2_restore D vwCl (wX ad cI cL) A Q o) {w1 : Int32} : ∀ (n : Nat) {w2 : Int32} {ls : Array Slot} {H : Heap} {locs : List Loc} {M : Me}, rx_W D vwCl (wX ad cI cL) A s.heap M H locs → lv_has ls 3 [(0, .ref ((ad 4))), (1, .int w1), (2, .int w2)] → rx_lp1 (qo_X2_restore_67 w1) n w2 M = some o → W p l e rm_X2_restore s m args below meth c H locs 0 0 Q (F0 m 67 ls []) := by
  have hx := cx.1.1
  have hb := cx.1.2.1
  intro n
  induction n with
  | zero => intro w2 ls H locs M hw hl hf; exact rx_no hf
  | succ n ih =>
    intro w2 ls H locs M hw hl hf
    have hf : qo_X2_restore_67 w1 (rx_lp1 (qo_X2_restore_67 w1) n) w2 M = some o := hf
    refine lv_iload_n hx hb dX2_restore_67 rfl (lv_at hl 2 rfl) ?_
    refine lv_iconst (v := 3) hx hb dX2_restore_68 ic_3 ?_
    refine lv_icmp_ge hx hb dX2_restore_69 rfl (fun hc => ?_) (fun hc => ?_)
    · have hf := rx_t hc hf
      exact rx_retv hret hw hf dX2_restore_112
    · have hf := rx_f hc hf
      refine lv_aload_n hx hb dX2_restore_72 rfl (lv_at hl 0 rfl) ?_
      refine rx_getr cx hw (frX_4_9 ad cI cL) rfl (inT_X2) (Nat.le_of_ble_eq_true rfl) (.tail _ tw_199) dX2_restore_73 ?_
      refine lv_iload_n hx hb dX2_restore_76 rfl (lv_at hl 2 rfl) ?_
      refine lv_aload_n hx hb dX2_restore_77 rfl (lv_at hl 0 rfl) ?_
      refine rx_getr cx hw (frX_4_12 ad cI cL) rfl (inT_X2) (Nat.le_of_ble_eq_true rfl) (.tail _ tw_206) dX2_restore_78 ?_
      refine lv_iload_n hx hb dX2_restore_81 rfl (lv_at hl 1 rfl) ?_
      refine lv_iconst (v := 4) hx hb dX2_restore_82 ic_4 ?_
      refine lv_iadd hx hb dX2_restore_83 ?_
      refine lv_iload_n hx hb dX2_restore_84 rfl (lv_at hl 2 rfl) ?_
      refine lv_iadd hx hb dX2_restore_85 ?_
      obtain ⟨hv1, v1, ev1, hf⟩ := rx_ldI hf
      refine rx_iald cx hw (arX_37 ad cI cL) ⟨hv1, ev1⟩ dX2_restore_86 ?_
      obtain ⟨hM2, M2, eM2, hf⟩ := rx_svI hf
      refine rx_iast cx hw (arX_34 ad cI cL) ⟨hM2, eM2⟩ dX2_restore_87 (fun H locs hw => ?_)
      refine lv_aload_n hx hb dX2_restore_88 rfl (lv_at hl 0 rfl) ?_
      refine rx_getr cx hw (frX_4_10 ad cI cL) rfl (inT_X2) (Nat.le_of_ble_eq_true rfl) (.tail _ tw_201) dX2_restore_89 ?_
      refine lv_iload_n hx hb dX2_restore_92 rfl (lv_at hl 2 rfl) ?_
      refine lv_aload_n hx hb dX2_restore_93 rfl (lv_at hl 0 rfl) ?_
      refine rx_getr cx hw (frX_4_12 ad cI cL) rfl (inT_X2) (Nat.le_of_ble_eq_true rfl) (.tail _ tw_206) dX2_restore_94 ?_
      refine lv_iload_n hx hb dX2_restore_97 rfl (lv_at hl 1 rfl) ?_
      refine lv_iconst (v := 4) hx hb dX2_restore_98 ic_4 ?_
      refine lv_iadd hx hb dX2_restore_99 ?_
      refine lv_iconst (v := 3) hx hb dX2_restore_100 ic_3 ?_
      refine lv_iadd hx hb dX2_restore_101 ?_
      refine lv_iload_n hx hb dX2_restore_102 rfl (lv_at hl 2 rfl) ?_
      refine lv_iadd hx hb dX2_restore_103 ?_
      obtain ⟨hv3, v3, ev3, hf⟩ := rx_ldI hf
      refine rx_iald cx hw (arX_37 ad cI cL) ⟨hv3, ev3⟩ dX2_restore_104 ?_
      obtain ⟨hM4, M4, eM4, hf⟩ := rx_svI hf
      refine rx_iast cx hw (arX_35 ad cI cL) ⟨hM4, eM4⟩ dX2_restore_105 (fun H locs hw => ?_)
      obtain ⟨v5, ev5, hf⟩ := rx_vvI hf
      refine lv_iinc (lv' := [(2, .int v5), (0, .ref ((ad 4))), (1, .int w1)]) hx hb dX2_restore_106 hl (k := 2) rfl (rx_inc ic_1 ev5) (Nat.le_of_ble_eq_true rfl) rfl (fun ls hl => ?_)
      refine lv_goto hx hb dX2_restore_109 rfl ?_
      exact ih hw (lv_sub hl [1, 2, 0] rfl) hf
set_option maxRecDepth 100000 in
set_option maxHeartbeats 4000000 in
theorem qk_X2_restore_0 (cx : rx_C p m c cX2_restore 3 s args wX2_restore RX2 D vwCl (tX cI cL) (zX b1 b2) wN A) (hret : rx_RV p l e rm_X2_restore s m args below meth c cX2_restore D vwCl (wX ad cI cL) A Q o) {ls : Array Slot} {H : Heap} {locs : List Loc} {M : Me} (hw : rx_W D vwCl (wX ad cI cL) A s.heap M H locs) (hl : lv_has ls 3 [(0, .ref ((ad 4)))]) (hf : qf_X2_restore M = some o) : W p l e rm_X2_restore s m args below meth c H locs 0 0 Q (F0 m 0 ls []) := by
  have hx := cx.1.1
  have hb := cx.1.2.1
  refine lv_aload_n hx hb dX2_restore_0 rfl (lv_at hl 0 rfl) ?_
  refine rx_getr cx hw (frX_4_1 ad cI cL) rfl (inT_X2) (Nat.le_of_ble_eq_true rfl) (.tail _ tw_182) dX2_restore_1 ?_
  obtain ⟨v1, ev1, hf⟩ := rx_vvI hf
  refine rx_getiN cx hw (fiX_2_9 ad cI cL) rfl (inT_X5) (Nat.le_of_ble_eq_true rfl) tn_146 ev1 dX2_restore_4 ?_
  refine lv_iconst (v := 1) hx hb dX2_restore_7 ic_1 ?_
  refine lv_isub hx hb dX2_restore_8 ?_
  refine lv_bipush (v := 10) hx hb dX2_restore_9 ib_10 ?_
  refine lv_imul hx hb dX2_restore_11 ?_
  obtain ⟨v2, ev2, hf⟩ := rx_vvI hf
  refine rx_top ev2 ?_
  refine lv_istore_n (lv' := [(1, .int v2), (0, .ref ((ad 4)))]) hx hb dX2_restore_12 rfl hl (Nat.le_of_ble_eq_true rfl) rfl (fun ls hl => ?_)
  refine lv_aload_n hx hb dX2_restore_13 rfl (lv_at hl 1 rfl) ?_
  refine lv_aload_n hx hb dX2_restore_14 rfl (lv_at hl 1 rfl) ?_
  refine rx_getr cx hw (frX_4_12 ad cI cL) rfl (inT_X2) (Nat.le_of_ble_eq_true rfl) (.tail _ tw_206) dX2_restore_15 ?_
  refine lv_iload_n hx hb dX2_restore_18 rfl (lv_at hl 0 rfl) ?_
  obtain ⟨hv3, v3, ev3, hf⟩ := rx_ldI hf
  refine rx_iald cx hw (arX_37 ad cI cL) ⟨hv3, ev3⟩ dX2_restore_19 ?_
  obtain ⟨M4, eM4, hf⟩ := rx_vvI hf
  refine rx_puti cx hw (fiX_4_5 ad cI cL) rfl (inT_X2) tyX2 tyX2_ok nmX2 (Nat.le_of_ble_eq_true rfl) (.tail _ tw_191) rfl rfl rfl eM4 dX2_restore_20 (fun H locs hw => ?_)
  refine lv_aload_n hx hb dX2_restore_23 rfl (lv_at hl 1 rfl) ?_
  refine lv_aload_n hx hb dX2_restore_24 rfl (lv_at hl 1 rfl) ?_
  refine rx_getr cx hw (frX_4_12 ad cI cL) rfl (inT_X2) (Nat.le_of_ble_eq_true rfl) (.tail _ tw_206) dX2_restore_25 ?_
  refine lv_iload_n hx hb dX2_restore_28 rfl (lv_at hl 0 rfl) ?_
  refine lv_iconst (v := 1) hx hb dX2_restore_29 ic_1 ?_
  refine lv_iadd hx hb dX2_restore_30 ?_
  obtain ⟨hv5, v5, ev5, hf⟩ := rx_ldI hf
  refine rx_iald cx hw (arX_37 ad cI cL) ⟨hv5, ev5⟩ dX2_restore_31 ?_
  obtain ⟨M6, eM6, hf⟩ := rx_vvI hf
  refine rx_puti cx hw (fiX_4_7 ad cI cL) rfl (inT_X2) tyX2 tyX2_ok nmX2 (Nat.le_of_ble_eq_true rfl) (.tail _ tw_195) rfl rfl rfl eM6 dX2_restore_32 (fun H locs hw => ?_)
  refine lv_aload_n hx hb dX2_restore_35 rfl (lv_at hl 1 rfl) ?_
  refine lv_aload_n hx hb dX2_restore_36 rfl (lv_at hl 1 rfl) ?_
  refine rx_getr cx hw (frX_4_12 ad cI cL) rfl (inT_X2) (Nat.le_of_ble_eq_true rfl) (.tail _ tw_206) dX2_restore_37 ?_
  refine lv_iload_n hx hb dX2_restore_40 rfl (lv_at hl 0 rfl) ?_
  refine lv_iconst (v := 2) hx hb dX2_restore_41 ic_2 ?_
  refine lv_iadd hx hb dX2_restore_42 ?_
  obtain ⟨hv7, v7, ev7, hf⟩ := rx_ldI hf
  refine rx_iald cx hw (arX_37 ad cI cL) ⟨hv7, ev7⟩ dX2_restore_43 ?_
  obtain ⟨M8, eM8, hf⟩ := rx_vvI hf
  refine rx_puti cx hw (fiX_4_8 ad cI cL) rfl (inT_X2) tyX2 tyX2_ok nmX2 (Nat.le_of_ble_eq_true rfl) (.tail _ tw_197) rfl rfl rfl eM8 dX2_restore_44 (fun H locs hw => ?_)
  refine lv_aload_n hx hb dX2_restore_47 rfl (lv_at hl 1 rfl) ?_
  refine rx_getr cx hw (frX_4_1 ad cI cL) rfl (inT_X2) (Nat.le_of_ble_eq_true rfl) (.tail _ tw_182) dX2_restore_48 ?_
  refine rx_getrN cx hw (frX_2_1 ad cI cL) rfl (inT_X5) (Nat.le_of_ble_eq_true rfl) tn_133 dX2_restore_51 ?_
  refine lv_aload_n hx hb dX2_restore_54 rfl (lv_at hl 1 rfl) ?_
  refine rx_getr cx hw (frX_4_12 ad cI cL) rfl (inT_X2) (Nat.le_of_ble_eq_true rfl) (.tail _ tw_206) dX2_restore_55 ?_
  refine lv_iload_n hx hb dX2_restore_58 rfl (lv_at hl 0 rfl) ?_
  refine lv_iconst (v := 3) hx hb dX2_restore_59 ic_3 ?_
  refine lv_iadd hx hb dX2_restore_60 ?_
  obtain ⟨hv9, v9, ev9, hf⟩ := rx_ldI hf
  refine rx_iald cx hw (arX_37 ad cI cL) ⟨hv9, ev9⟩ dX2_restore_61 ?_
  obtain ⟨r10, M11, er10, hf⟩ := rx_clI hf
  refine rx_jVv cx hw (qc_X3_takeMenBackTo l D ad cI cL b1 b2 v9) (obX_3 ad cI cL) rfl rfl kfX3_takeMenBackTo tw_415 ⟨Nat.le_of_ble_eq_true rfl, Nat.le_of_ble_eq_true rfl, rfl, rfl⟩ rfl hl.1 (Nat.le_of_ble_eq_true rfl) ⟨Nat.zero_le _, Nat.zero_le _⟩ dX2_restore_62 rfl er10 (fun H locs hw => ?_)
  refine lv_iconst (v := 0) hx hb dX2_restore_65 ic_0 ?_
  refine lv_istore_n (lv' := [(2, .int 0), (1, .int v2), (0, .ref ((ad 4)))]) hx hb dX2_restore_66 rfl hl (Nat.le_of_ble_eq_true rfl) rfl (fun ls hl => ?_)
  exact (qk_X2_restore_67 cx hret rx_FU) hw (lv_sub hl [2, 1, 0] rfl) hf
end
set_option maxRecDepth 100000 in
theorem qc_X2_restore (l : Launch) (D : va_G) (ad : Nat → Nat) (cI cL : ClassId) (b1 b2 : Nat) : rx_MV l yX2_restore wX2_restore rm_X2_restore D vwCl (wX ad cI cL) (tX cI cL) (zX b1 b2) wN [.ref (ad 4)] (fun M => qf_X2_restore M) :=
  rx_ofV (by decide) rfl wN_ok (Nat.le_of_ble_eq_true rfl) (fun _ _ _ _ _ _ _ _ _ _ _ _ _ cx hret hw hl hf => qk_X2_restore_0 cx hret hw hl hf)
def rm_X5_pieceAt : Room := { frames := 0, cells := 0, slots := 0, locals := 0 }
noncomputable def qf_X5_pieceAt  (w1 : Int32) (w2 : Int32)  (M : Me) : Op :=
  rx_ld M 22 24 w1 fun v1 => rx_vv (((w2 + 12) - (3 * v1)) - ((w2 + 12) - (3 * v1)) / 12 * 12) fun v2 => rx_ld M 21 24 w1 fun v3 => rx_ld M 9 144 ((v3 * 12) + v2) fun v4 => some ((w1 * 8) + v4, M)
section
variable {p : Program} {l : Launch} {e : Env} {s : State} {m : MethodId} {args : Array Value} {below : List Frame} {meth : Method} {c : Code} {Q : State → Prop} {D : va_G} {A : Nat → Prop} {o : Int32 × Me} {ad : Nat → Nat} {cI cL : ClassId} {b1 b2 : Nat}
set_option maxRecDepth 100000 in
set_option maxHeartbeats 4000000 in
theorem qk_X5_pieceAt_0 (cx : rx_C p m c cX5_pieceAt 4 s args wX5_pieceAt RX5 D vwCl (tX cI cL) (zX b1 b2) wN A) (hret : rx_RI p l e rm_X5_pieceAt s m args below meth c cX5_pieceAt D vwCl (wX ad cI cL) A Q o) {w1 : Int32} {w2 : Int32} {ls : Array Slot} {H : Heap} {locs : List Loc} {M : Me} (hw : rx_W D vwCl (wX ad cI cL) A s.heap M H locs) (hl : lv_has ls 4 [(0, .ref ((ad 2))), (1, .int w1), (2, .int w2)]) (hf : qf_X5_pieceAt w1 w2 M = some o) : W p l e rm_X5_pieceAt s m args below meth c H locs 0 0 Q (F0 m 0 ls []) := by
  have hx := cx.1.1
  have hb := cx.1.2.1
  refine lv_iload_n hx hb dX5_pieceAt_0 rfl (lv_at hl 2 rfl) ?_
  refine lv_bipush (v := 12) hx hb dX5_pieceAt_1 ib_12 ?_
  refine lv_iadd hx hb dX5_pieceAt_3 ?_
  refine lv_iconst (v := 3) hx hb dX5_pieceAt_4 ic_3 ?_
  refine lv_aload_n hx hb dX5_pieceAt_5 rfl (lv_at hl 0 rfl) ?_
  refine rx_getr cx hw (frX_2_7 ad cI cL) rfl (inT_X5) (Nat.le_of_ble_eq_true rfl) (.tail _ tw_143) dX5_pieceAt_6 ?_
  refine lv_iload_n hx hb dX5_pieceAt_9 rfl (lv_at hl 1 rfl) ?_
  obtain ⟨hv1, v1, ev1, hf⟩ := rx_ldI hf
  refine rx_iald cx hw (arX_22 ad cI cL) ⟨hv1, ev1⟩ dX5_pieceAt_10 ?_
  refine lv_imul hx hb dX5_pieceAt_11 ?_
  refine lv_isub hx hb dX5_pieceAt_12 ?_
  refine lv_bipush (v := 12) hx hb dX5_pieceAt_13 ib_12 ?_
  refine lv_irem hx hb dX5_pieceAt_15 nz_12 ?_
  obtain ⟨v2, ev2, hf⟩ := rx_vvI hf
  refine rx_top ev2 ?_
  refine lv_istore_n (lv' := [(3, .int v2), (0, .ref ((ad 2))), (1, .int w1), (2, .int w2)]) hx hb dX5_pieceAt_16 rfl hl (Nat.le_of_ble_eq_true rfl) rfl (fun ls hl => ?_)
  refine lv_iload_n hx hb dX5_pieceAt_17 rfl (lv_at hl 2 rfl) ?_
  refine lv_bipush (v := 8) hx hb dX5_pieceAt_18 ib_8 ?_
  refine lv_imul hx hb dX5_pieceAt_20 ?_
  refine lv_aload_n hx hb dX5_pieceAt_21 rfl (lv_at hl 1 rfl) ?_
  refine rx_getr cx hw (frX_2_0 ad cI cL) rfl (inT_X5) (Nat.le_of_ble_eq_true rfl) (.tail _ tw_131) dX5_pieceAt_22 ?_
  refine rx_getrN cx hw (frX_1_0 ad cI cL) rfl (inT_X0) (Nat.le_of_ble_eq_true rfl) tn_28 dX5_pieceAt_25 ?_
  refine lv_aload_n hx hb dX5_pieceAt_28 rfl (lv_at hl 1 rfl) ?_
  refine rx_getr cx hw (frX_2_6 ad cI cL) rfl (inT_X5) (Nat.le_of_ble_eq_true rfl) (.tail _ tw_141) dX5_pieceAt_29 ?_
  refine lv_iload_n hx hb dX5_pieceAt_32 rfl (lv_at hl 2 rfl) ?_
  obtain ⟨hv3, v3, ev3, hf⟩ := rx_ldI hf
  refine rx_iald cx hw (arX_21 ad cI cL) ⟨hv3, ev3⟩ dX5_pieceAt_33 ?_
  refine lv_bipush (v := 12) hx hb dX5_pieceAt_34 ib_12 ?_
  refine lv_imul hx hb dX5_pieceAt_36 ?_
  refine lv_iload_n hx hb dX5_pieceAt_37 rfl (lv_at hl 0 rfl) ?_
  refine lv_iadd hx hb dX5_pieceAt_38 ?_
  obtain ⟨hv4, v4, ev4, hf⟩ := rx_ldI hf
  refine rx_iald cx hw (arX_9 ad cI cL) ⟨hv4, ev4⟩ dX5_pieceAt_39 ?_
  refine lv_iadd hx hb dX5_pieceAt_40 ?_
  exact rx_reti hret hw hf dX5_pieceAt_41
end
set_option maxRecDepth 100000 in
theorem qc_X5_pieceAt (l : Launch) (D : va_G) (ad : Nat → Nat) (cI cL : ClassId) (b1 b2 : Nat) (w1 : Int32) (w2 : Int32) : rx_MI l yX5_pieceAt wX5_pieceAt rm_X5_pieceAt D vwCl (wX ad cI cL) (tX cI cL) (zX b1 b2) wN [.ref (ad 2), .int w1, .int w2] (fun M => qf_X5_pieceAt w1 w2 M) :=
  rx_ofI (by decide) rfl wN_ok (Nat.le_of_ble_eq_true rfl) (fun _ _ _ _ _ _ _ _ _ _ _ _ _ cx hret hw hl hf => qk_X5_pieceAt_0 cx hret hw hl hf)
def rm_X5_slotBeside : Room := { frames := 0, cells := 0, slots := 0, locals := 0 }
noncomputable def qf_X5_slotBeside  (w0 : Int32)  (M : Me) : Op :=
  rx_vv (((w0 / 3) + 2) - ((w0 / 3) + 2) / 4 * 4) fun v1 => some ((((v1 * 3) + 3) - 1) - (w0 - w0 / 3 * 3), M)
section
variable {p : Program} {l : Launch} {e : Env} {s : State} {m : MethodId} {args : Array Value} {below : List Frame} {meth : Method} {c : Code} {Q : State → Prop} {D : va_G} {A : Nat → Prop} {o : Int32 × Me} {ad : Nat → Nat} {cI cL : ClassId} {b1 b2 : Nat}
set_option maxRecDepth 100000 in
set_option maxHeartbeats 4000000 in
theorem qk_X5_slotBeside_0 (cx : rx_C p m c cX5_slotBeside 2 s args wX5_slotBeside RX5 D vwCl (tX cI cL) (zX b1 b2) wN A) (hret : rx_RI p l e rm_X5_slotBeside s m args below meth c cX5_slotBeside D vwCl (wX ad cI cL) A Q o) {w0 : Int32} {ls : Array Slot} {H : Heap} {locs : List Loc} {M : Me} (hw : rx_W D vwCl (wX ad cI cL) A s.heap M H locs) (hl : lv_has ls 2 [(0, .int w0)]) (hf : qf_X5_slotBeside w0 M = some o) : W p l e rm_X5_slotBeside s m args below meth c H locs 0 0 Q (F0 m 0 ls []) := by
  have hx := cx.1.1
  have hb := cx.1.2.1
  refine lv_iload_n hx hb dX5_slotBeside_0 rfl (lv_at hl 0 rfl) ?_
  refine lv_iconst (v := 3) hx hb dX5_slotBeside_1 ic_3 ?_
  refine lv_idiv hx hb dX5_slotBeside_2 nz_3 ?_
  refine lv_iconst (v := 2) hx hb dX5_slotBeside_3 ic_2 ?_
  refine lv_iadd hx hb dX5_slotBeside_4 ?_
  refine lv_iconst (v := 4) hx hb dX5_slotBeside_5 ic_4 ?_
  refine lv_irem hx hb dX5_slotBeside_6 nz_4 ?_
  obtain ⟨v1, ev1, hf⟩ := rx_vvI hf
  refine rx_top ev1 ?_
  refine lv_istore_n (lv' := [(1, .int v1), (0, .int w0)]) hx hb dX5_slotBeside_7 rfl hl (Nat.le_of_ble_eq_true rfl) rfl (fun ls hl => ?_)
  refine lv_iload_n hx hb dX5_slotBeside_8 rfl (lv_at hl 0 rfl) ?_
  refine lv_iconst (v := 3) hx hb dX5_slotBeside_9 ic_3 ?_
  refine lv_imul hx hb dX5_slotBeside_10 ?_
  refine lv_iconst (v := 3) hx hb dX5_slotBeside_11 ic_3 ?_
  refine lv_iadd hx hb dX5_slotBeside_12 ?_
  refine lv_iconst (v := 1) hx hb dX5_slotBeside_13 ic_1 ?_
  refine lv_isub hx hb dX5_slotBeside_14 ?_
  refine lv_iload_n hx hb dX5_slotBeside_15 rfl (lv_at hl 1 rfl) ?_
  refine lv_iconst (v := 3) hx hb dX5_slotBeside_16 ic_3 ?_
  refine lv_irem hx hb dX5_slotBeside_17 nz_3 ?_
  refine lv_isub hx hb dX5_slotBeside_18 ?_
  exact rx_reti hret hw hf dX5_slotBeside_19
end
set_option maxRecDepth 100000 in
theorem qc_X5_slotBeside (l : Launch) (D : va_G) (ad : Nat → Nat) (cI cL : ClassId) (b1 b2 : Nat) (w0 : Int32) : rx_MI l yX5_slotBeside wX5_slotBeside rm_X5_slotBeside D vwCl (wX ad cI cL) (tX cI cL) (zX b1 b2) wN [.int w0] (fun M => qf_X5_slotBeside w0 M) :=
  rx_ofI (by decide) rfl wN_ok (Nat.le_of_ble_eq_true rfl) (fun _ _ _ _ _ _ _ _ _ _ _ _ _ cx hret hw hl hf => qk_X5_slotBeside_0 cx hret hw hl hf)
def rm_X3_rootOf : Room := { frames := 0, cells := 0, slots := 0, locals := 0 }
noncomputable def qo_X3_rootOf_4   (rec : Int32 → Int32 → Me → Op) (w2 : Int32) (w3 : Int32) (M : Me) : Op :=
  if 192 ≤ w3 then (some (w2, M)) else (rx_ld M 25 192 w2 fun v1 => if v1 = w2 then (some (w2, M)) else (rx_ld M 25 192 w2 fun v2 => rx_vv (w3 + 1) fun v3 => rec v2 v3 M))
noncomputable def qf_X3_rootOf  (w1 : Int32)  (M : Me) : Op :=
  rx_lp2 (qo_X3_rootOf_4) rx_FU w1 0 M
section
variable {p : Program} {l : Launch} {e : Env} {s : State} {m : MethodId} {args : Array Value} {below : List Frame} {meth : Method} {c : Code} {Q : State → Prop} {D : va_G} {A : Nat → Prop} {o : Int32 × Me} {ad : Nat → Nat} {cI cL : ClassId} {b1 b2 : Nat}
set_option maxRecDepth 100000 in
set_option maxHeartbeats 4000000 in
theorem qk_X3_rootOf_4 (cx : rx_C p m c cX3_rootOf 4 s args wX3_rootOf RX3 D vwCl (tX cI cL) (zX b1 b2) wN A) (hret : rx_RI p l e rm_X3_rootOf s m args below meth c cX3_rootOf D vwCl (wX ad cI cL) A Q o) : ∀ (n : Nat) {w2 : Int32} {w3 : Int32} {ls : Array Slot} {H : Heap} {locs : List Loc} {M : Me}, rx_W D vwCl (wX ad cI cL) A s.heap M H locs → lv_has ls 4 [(0, .ref ((ad 3))), (2, .int w2), (3, .int w3)] → rx_lp2 (qo_X3_rootOf_4) n w2 w3 M = some o → W p l e rm_X3_rootOf s m args below meth c H locs 0 0 Q (F0 m 4 ls []) := by
  have hx := cx.1.1
  have hb := cx.1.2.1
  intro n
  induction n with
  | zero => intro w2 w3 ls H locs M hw hl hf; exact rx_no hf
  | succ n ih =>
    intro w2 w3 ls H locs M hw hl hf
    have hf : qo_X3_rootOf_4 (rx_lp2 (qo_X3_rootOf_4) n) w2 w3 M = some o := hf
    refine lv_iload_n hx hb dX3_rootOf_4 rfl (lv_at hl 2 rfl) ?_
    refine lv_sipush (v := 192) hx hb dX3_rootOf_5 is_192 ?_
    refine lv_icmp_ge hx hb dX3_rootOf_8 rfl (fun hc => ?_) (fun hc => ?_)
    · have hf := rx_t hc hf
      refine lv_iload_n hx hb dX3_rootOf_34 rfl (lv_at hl 1 rfl) ?_
      exact rx_reti hret hw hf dX3_rootOf_35
    · have hf := rx_f hc hf
      refine lv_aload_n hx hb dX3_rootOf_11 rfl (lv_at hl 0 rfl) ?_
      refine rx_getr cx hw (frX_3_0 ad cI cL) rfl (inT_X3) (Nat.le_of_ble_eq_true rfl) (.tail _ tw_82) dX3_rootOf_12 ?_
      refine lv_iload_n hx hb dX3_rootOf_15 rfl (lv_at hl 1 rfl) ?_
      obtain ⟨hv1, v1, ev1, hf⟩ := rx_ldI hf
      refine rx_iald cx hw (arX_25 ad cI cL) ⟨hv1, ev1⟩ dX3_rootOf_16 ?_
      refine lv_iload_n hx hb dX3_rootOf_17 rfl (lv_at hl 1 rfl) ?_
      refine lv_icmp_eq hx hb dX3_rootOf_18 rfl (fun hc => ?_) (fun hc => ?_)
      · have hf := rx_t hc hf
        refine lv_iload_n hx hb dX3_rootOf_34 rfl (lv_at hl 1 rfl) ?_
        exact rx_reti hret hw hf dX3_rootOf_35
      · have hf := rx_f hc hf
        refine lv_aload_n hx hb dX3_rootOf_21 rfl (lv_at hl 0 rfl) ?_
        refine rx_getr cx hw (frX_3_0 ad cI cL) rfl (inT_X3) (Nat.le_of_ble_eq_true rfl) (.tail _ tw_82) dX3_rootOf_22 ?_
        refine lv_iload_n hx hb dX3_rootOf_25 rfl (lv_at hl 1 rfl) ?_
        obtain ⟨hv2, v2, ev2, hf⟩ := rx_ldI hf
        refine rx_iald cx hw (arX_25 ad cI cL) ⟨hv2, ev2⟩ dX3_rootOf_26 ?_
        refine lv_istore_n (lv' := [(2, .int v2), (0, .ref ((ad 3))), (3, .int w3)]) hx hb dX3_rootOf_27 rfl hl (Nat.le_of_ble_eq_true rfl) rfl (fun ls hl => ?_)
        obtain ⟨v3, ev3, hf⟩ := rx_vvI hf
        refine lv_iinc (lv' := [(3, .int v3), (2, .int v2), (0, .ref ((ad 3)))]) hx hb dX3_rootOf_28 hl (k := 2) rfl (rx_inc ic_1 ev3) (Nat.le_of_ble_eq_true rfl) rfl (fun ls hl => ?_)
        refine lv_goto hx hb dX3_rootOf_31 rfl ?_
        exact ih hw (lv_sub hl [2, 1, 0] rfl) hf
set_option maxRecDepth 100000 in
set_option maxHeartbeats 4000000 in
theorem qk_X3_rootOf_0 (cx : rx_C p m c cX3_rootOf 4 s args wX3_rootOf RX3 D vwCl (tX cI cL) (zX b1 b2) wN A) (hret : rx_RI p l e rm_X3_rootOf s m args below meth c cX3_rootOf D vwCl (wX ad cI cL) A Q o) {w1 : Int32} {ls : Array Slot} {H : Heap} {locs : List Loc} {M : Me} (hw : rx_W D vwCl (wX ad cI cL) A s.heap M H locs) (hl : lv_has ls 4 [(0, .ref ((ad 3))), (1, .int w1)]) (hf : qf_X3_rootOf w1 M = some o) : W p l e rm_X3_rootOf s m args below meth c H locs 0 0 Q (F0 m 0 ls []) := by
  have hx := cx.1.1
  have hb := cx.1.2.1
  refine lv_iload_n hx hb dX3_rootOf_0 rfl (lv_at hl 1 rfl) ?_
  refine lv_istore_n (lv' := [(2, .int w1), (0, .ref ((ad 3))), (1, .int w1)]) hx hb dX3_rootOf_1 rfl hl (Nat.le_of_ble_eq_true rfl) rfl (fun ls hl => ?_)
  refine lv_iconst (v := 0) hx hb dX3_rootOf_2 ic_0 ?_
  refine lv_istore_n (lv' := [(3, .int 0), (2, .int w1), (0, .ref ((ad 3))), (1, .int w1)]) hx hb dX3_rootOf_3 rfl hl (Nat.le_of_ble_eq_true rfl) rfl (fun ls hl => ?_)
  exact (qk_X3_rootOf_4 cx hret rx_FU) hw (lv_sub hl [2, 1, 0] rfl) hf
end
set_option maxRecDepth 100000 in
theorem qc_X3_rootOf (l : Launch) (D : va_G) (ad : Nat → Nat) (cI cL : ClassId) (b1 b2 : Nat) (w1 : Int32) : rx_MI l yX3_rootOf wX3_rootOf rm_X3_rootOf D vwCl (wX ad cI cL) (tX cI cL) (zX b1 b2) wN [.ref (ad 3), .int w1] (fun M => qf_X3_rootOf w1 M) :=
  rx_ofI (by decide) rfl wN_ok (Nat.le_of_ble_eq_true rfl) (fun _ _ _ _ _ _ _ _ _ _ _ _ _ cx hret hw hl hf => qk_X3_rootOf_0 cx hret hw hl hf)
def rm_X5_openSide : Room := { frames := 1, cells := 0, slots := 0, locals := 23 }
noncomputable def qo_X5_openSide_29  (w1 : Int32) (w2 : Int32) (w3 : Int32) (w4 : Int32) (rec : Int32 → Me → Op) (w5 : Int32) (M : Me) : Op :=
  if 3 ≤ w5 then (some (0, M)) else (rx_vv ((w2 * 3) + w5) fun v1 => rx_cl (qf_X5_pieceAt w1 v1 M) fun r2 M3 => rx_ld M3 28 192 r2 fun v4 => rx_sv M3 28 192 r2 (v4 + w3) fun M5 => rx_cl (qf_X5_slotBeside v1 M5) fun r6 M7 => rx_cl (qf_X5_pieceAt w4 r6 M7) fun r8 M9 => rx_cl (qf_X3_rootOf r8 M9) fun r10 M11 => rx_ld M11 28 192 r10 fun v12 => rx_sv M11 28 192 r10 (v12 + w3) fun M13 => rx_vv (w5 + 1) fun v14 => rec v14 M13)
noncomputable def qf_X5_openSide  (w1 : Int32) (w2 : Int32) (w3 : Int32)  (M : Me) : Op :=
  rx_ld M 20 24 w1 fun v1 => rx_ls sZ1 w2 fun v2 => rx_ld M 17 441 (v1 + v2) fun v3 => if v3 = (-1) then (some (0, M)) else (rx_lp1 (qo_X5_openSide_29 w1 w2 w3 v3) rx_FU 0 M)
section
variable {p : Program} {l : Launch} {e : Env} {s : State} {m : MethodId} {args : Array Value} {below : List Frame} {meth : Method} {c : Code} {Q : State → Prop} {D : va_G} {A : Nat → Prop} {o : Int32 × Me} {ad : Nat → Nat} {cI cL : ClassId} {b1 b2 : Nat}
set_option maxRecDepth 100000 in
set_option maxHeartbeats 4000000 in
theorem qk_X5_openSide_29 (cx : rx_C p m c cX5_openSide 7 s args wX5_openSide RX5 D vwCl (tX cI cL) (zX b1 b2) wN A) (hret : rx_RV p l e rm_X5_openSide s m args below meth c cX5_openSide D vwCl (wX ad cI cL) A Q o) {w1 : Int32} {w2 : Int32} {w3 : Int32} {w4 : Int32} : ∀ (n : Nat) {w5 : Int32} {ls : Array Slot} {H : Heap} {locs : List Loc} {M : Me}, rx_W D vwCl (wX ad cI cL) A s.heap M H locs → lv_has ls 7 [(0, .ref ((ad 2))), (1, .int w1), (2, .int w2), (3, .int w3), (4, .int w4), (5, .int w5)] → rx_lp1 (qo_X5_openSide_29 w1 w2 w3 w4) n w5 M = some o → W p l e rm_X5_openSide s m args below meth c H locs 0 0 Q (F0 m 29 ls []) := by
  have hx := cx.1.1
  have hb := cx.1.2.1
  intro n
  induction n with
  | zero => intro w5 ls H locs M hw hl hf; exact rx_no hf
  | succ n ih =>
    intro w5 ls H locs M hw hl hf
    have hf : qo_X5_openSide_29 w1 w2 w3 w4 (rx_lp1 (qo_X5_openSide_29 w1 w2 w3 w4) n) w5 M = some o := hf
    refine lv_iload hx hb dX5_openSide_29 (lv_at hl 5 rfl) ?_
    refine lv_iconst (v := 3) hx hb dX5_openSide_31 ic_3 ?_
    refine lv_icmp_ge hx hb dX5_openSide_32 rfl (fun hc => ?_) (fun hc => ?_)
    · have hf := rx_t hc hf
      exact rx_retv hret hw hf dX5_openSide_98
    · have hf := rx_f hc hf
      refine lv_iload_n hx hb dX5_openSide_35 rfl (lv_at hl 2 rfl) ?_
      refine lv_iconst (v := 3) hx hb dX5_openSide_36 ic_3 ?_
      refine lv_imul hx hb dX5_openSide_37 ?_
      refine lv_iload hx hb dX5_openSide_38 (lv_at hl 5 rfl) ?_
      refine lv_iadd hx hb dX5_openSide_40 ?_
      obtain ⟨v1, ev1, hf⟩ := rx_vvI hf
      refine rx_top ev1 ?_
      refine lv_istore (lv' := [(6, .int v1), (0, .ref ((ad 2))), (1, .int w1), (2, .int w2), (3, .int w3), (4, .int w4), (5, .int w5)]) hx hb dX5_openSide_41 hl (Nat.le_of_ble_eq_true rfl) rfl (fun ls hl => ?_)
      refine lv_aload_n hx hb dX5_openSide_43 rfl (lv_at hl 1 rfl) ?_
      refine rx_getr cx hw (frX_2_1 ad cI cL) rfl (inT_X5) (Nat.le_of_ble_eq_true rfl) (.tail _ tw_132) dX5_openSide_44 ?_
      refine rx_getrN cx hw (frX_3_3 ad cI cL) rfl (inT_X3) (Nat.le_of_ble_eq_true rfl) tn_92 dX5_openSide_47 ?_
      refine lv_aload_n hx hb dX5_openSide_50 rfl (lv_at hl 1 rfl) ?_
      refine lv_iload_n hx hb dX5_openSide_51 rfl (lv_at hl 2 rfl) ?_
      refine lv_iload hx hb dX5_openSide_52 (lv_at hl 0 rfl) ?_
      obtain ⟨r2, M3, er2, hf⟩ := rx_clI hf
      refine rx_jVi cx hw (qc_X5_pieceAt l D ad cI cL b1 b2 w1 v1) (obX_2 ad cI cL) rfl rfl kfX5_pieceAt tw_398 ⟨Nat.le_of_ble_eq_true rfl, Nat.le_of_ble_eq_true rfl, rfl, rfl⟩ rfl hl.1 (Nat.le_of_ble_eq_true rfl) ⟨Nat.zero_le _, Nat.zero_le _⟩ dX5_openSide_54 rfl er2 (fun H locs hw => ?_)
      refine lv_dup2_11 hx hb dX5_openSide_57 rfl rfl ?_
      obtain ⟨hv4, v4, ev4, hf⟩ := rx_ldI hf
      refine rx_iald cx hw (arX_28 ad cI cL) ⟨hv4, ev4⟩ dX5_openSide_58 ?_
      refine lv_iload_n hx hb dX5_openSide_59 rfl (lv_at hl 4 rfl) ?_
      refine lv_iadd hx hb dX5_openSide_60 ?_
      obtain ⟨hM5, M5, eM5, hf⟩ := rx_svI hf
      refine rx_iast cx hw (arX_28 ad cI cL) ⟨hM5, eM5⟩ dX5_openSide_61 (fun H locs hw => ?_)
      refine lv_aload_n hx hb dX5_openSide_62 rfl (lv_at hl 1 rfl) ?_
      refine rx_getr cx hw (frX_2_1 ad cI cL) rfl (inT_X5) (Nat.le_of_ble_eq_true rfl) (.tail _ tw_132) dX5_openSide_63 ?_
      refine rx_getrN cx hw (frX_3_3 ad cI cL) rfl (inT_X3) (Nat.le_of_ble_eq_true rfl) tn_92 dX5_openSide_66 ?_
      refine lv_aload_n hx hb dX5_openSide_69 rfl (lv_at hl 1 rfl) ?_
      refine rx_getr cx hw (frX_2_1 ad cI cL) rfl (inT_X5) (Nat.le_of_ble_eq_true rfl) (.tail _ tw_132) dX5_openSide_70 ?_
      refine lv_aload_n hx hb dX5_openSide_73 rfl (lv_at hl 1 rfl) ?_
      refine lv_iload hx hb dX5_openSide_74 (lv_at hl 5 rfl) ?_
      refine lv_iload hx hb dX5_openSide_76 (lv_at hl 0 rfl) ?_
      obtain ⟨r6, M7, er6, hf⟩ := rx_clI hf
      refine rx_jSi cx hw (qc_X5_slotBeside l D ad cI cL b1 b2 v1) kfX5_slotBeside tw_402 ⟨Nat.le_of_ble_eq_true rfl, Nat.le_of_ble_eq_true rfl, rfl, rfl⟩ rfl hl.1 (Nat.le_of_ble_eq_true rfl) ⟨Nat.zero_le _, Nat.zero_le _⟩ dX5_openSide_78 rfl er6 (fun H locs hw => ?_)
      obtain ⟨r8, M9, er8, hf⟩ := rx_clI hf
      refine rx_jVi cx hw (qc_X5_pieceAt l D ad cI cL b1 b2 w4 r6) (obX_2 ad cI cL) rfl rfl kfX5_pieceAt tw_398 ⟨Nat.le_of_ble_eq_true rfl, Nat.le_of_ble_eq_true rfl, rfl, rfl⟩ rfl hl.1 (Nat.le_of_ble_eq_true rfl) ⟨Nat.zero_le _, Nat.zero_le _⟩ dX5_openSide_81 rfl er8 (fun H locs hw => ?_)
      obtain ⟨r10, M11, er10, hf⟩ := rx_clI hf
      refine rx_jVi cx hw (qc_X3_rootOf l D ad cI cL b1 b2 r8) (obX_3 ad cI cL) rfl rfl kfX3_rootOf tw_405 ⟨Nat.le_of_ble_eq_true rfl, Nat.le_of_ble_eq_true rfl, rfl, rfl⟩ rfl hl.1 (Nat.le_of_ble_eq_true rfl) ⟨Nat.zero_le _, Nat.zero_le _⟩ dX5_openSide_84 rfl er10 (fun H locs hw => ?_)
      refine lv_dup2_11 hx hb dX5_openSide_87 rfl rfl ?_
      obtain ⟨hv12, v12, ev12, hf⟩ := rx_ldI hf
      refine rx_iald cx hw (arX_28 ad cI cL) ⟨hv12, ev12⟩ dX5_openSide_88 ?_
      refine lv_iload_n hx hb dX5_openSide_89 rfl (lv_at hl 4 rfl) ?_
      refine lv_iadd hx hb dX5_openSide_90 ?_
      obtain ⟨hM13, M13, eM13, hf⟩ := rx_svI hf
      refine rx_iast cx hw (arX_28 ad cI cL) ⟨hM13, eM13⟩ dX5_openSide_91 (fun H locs hw => ?_)
      obtain ⟨v14, ev14, hf⟩ := rx_vvI hf
      refine lv_iinc (lv' := [(5, .int v14), (6, .int v1), (0, .ref ((ad 2))), (1, .int w1), (2, .int w2), (3, .int w3), (4, .int w4)]) hx hb dX5_openSide_92 hl (k := 6) rfl (rx_inc ic_1 ev14) (Nat.le_of_ble_eq_true rfl) rfl (fun ls hl => ?_)
      refine lv_goto hx hb dX5_openSide_95 rfl ?_
      exact ih hw (lv_sub hl [2, 3, 4, 5, 6, 0] rfl) hf
set_option maxRecDepth 100000 in
set_option maxHeartbeats 4000000 in
theorem qk_X5_openSide_0 (cx : rx_C p m c cX5_openSide 7 s args wX5_openSide RX5 D vwCl (tX cI cL) (zX b1 b2) wN A) (hret : rx_RV p l e rm_X5_openSide s m args below meth c cX5_openSide D vwCl (wX ad cI cL) A Q o) {w1 : Int32} {w2 : Int32} {w3 : Int32} {ls : Array Slot} {H : Heap} {locs : List Loc} {M : Me} (hw : rx_W D vwCl (wX ad cI cL) A s.heap M H locs) (hl : lv_has ls 7 [(0, .ref ((ad 2))), (1, .int w1), (2, .int w2), (3, .int w3)]) (hf : qf_X5_openSide w1 w2 w3 M = some o) : W p l e rm_X5_openSide s m args below meth c H locs 0 0 Q (F0 m 0 ls []) := by
  have hx := cx.1.1
  have hb := cx.1.2.1
  refine lv_aload_n hx hb dX5_openSide_0 rfl (lv_at hl 0 rfl) ?_
  refine rx_getr cx hw (frX_2_2 ad cI cL) rfl (inT_X5) (Nat.le_of_ble_eq_true rfl) (.tail _ tw_135) dX5_openSide_1 ?_
  refine lv_aload_n hx hb dX5_openSide_4 rfl (lv_at hl 0 rfl) ?_
  refine rx_getr cx hw (frX_2_5 ad cI cL) rfl (inT_X5) (Nat.le_of_ble_eq_true rfl) (.tail _ tw_139) dX5_openSide_5 ?_
  refine lv_iload_n hx hb dX5_openSide_8 rfl (lv_at hl 1 rfl) ?_
  obtain ⟨hv1, v1, ev1, hf⟩ := rx_ldI hf
  refine rx_iald cx hw (arX_20 ad cI cL) ⟨hv1, ev1⟩ dX5_openSide_9 ?_
  refine rx_getsN cx hw (zm1 b1 b2) tn_392 dX5_openSide_10 ?_
  refine lv_iload_n hx hb dX5_openSide_13 rfl (lv_at hl 2 rfl) ?_
  obtain ⟨hv2, v2, ev2, hf⟩ := rx_lsI hf
  refine rx_lds cx hw (zm1 b1 b2) ⟨hv2, ev2⟩ dX5_openSide_14 ?_
  refine lv_iadd hx hb dX5_openSide_15 ?_
  obtain ⟨hv3, v3, ev3, hf⟩ := rx_ldI hf
  refine rx_iald cx hw (arX_17 ad cI cL) ⟨hv3, ev3⟩ dX5_openSide_16 ?_
  refine lv_istore (lv' := [(4, .int v3), (0, .ref ((ad 2))), (1, .int w1), (2, .int w2), (3, .int w3)]) hx hb dX5_openSide_17 hl (Nat.le_of_ble_eq_true rfl) rfl (fun ls hl => ?_)
  refine lv_iload hx hb dX5_openSide_19 (lv_at hl 0 rfl) ?_
  refine lv_iconst (v := (-1)) hx hb dX5_openSide_21 ic_m1 ?_
  refine lv_icmp_ne hx hb dX5_openSide_22 rfl (fun hc => ?_) (fun hc => ?_)
  · have hf := rx_f hc hf
    refine lv_iconst (v := 0) hx hb dX5_openSide_26 ic_0 ?_
    refine lv_istore (lv' := [(5, .int 0), (4, .int v3), (0, .ref ((ad 2))), (1, .int w1), (2, .int w2), (3, .int w3)]) hx hb dX5_openSide_27 hl (Nat.le_of_ble_eq_true rfl) rfl (fun ls hl => ?_)
    exact (qk_X5_openSide_29 cx hret rx_FU) hw (lv_sub hl [2, 3, 4, 5, 1, 0] rfl) hf
  · have hf := rx_t hc hf
    exact rx_retv hret hw hf dX5_openSide_25
end
set_option maxRecDepth 100000 in
theorem qc_X5_openSide (l : Launch) (D : va_G) (ad : Nat → Nat) (cI cL : ClassId) (b1 b2 : Nat) (w1 : Int32) (w2 : Int32) (w3 : Int32) : rx_MV l yX5_openSide wX5_openSide rm_X5_openSide D vwCl (wX ad cI cL) (tX cI cL) (zX b1 b2) wN [.ref (ad 2), .int w1, .int w2, .int w3] (fun M => qf_X5_openSide w1 w2 w3 M) :=
  rx_ofV (by decide) rfl wN_ok (Nat.le_of_ble_eq_true rfl) (fun _ _ _ _ _ _ _ _ _ _ _ _ _ cx hret hw hl hf => qk_X5_openSide_0 cx hret hw hl hf)
def rm_X3_partTo : Room := { frames := 0, cells := 0, slots := 0, locals := 0 }
noncomputable def qo_X3_partTo_7  (w1 : Int32) (rec : Int32 → Me → Op) (w2 : Int32) (M : Me) : Op :=
  if w2 < w1 then (some (0, M)) else (rx_ld M 30 192 w2 fun v1 => rx_ld M 25 192 v1 fun v2 => rx_sv M 25 192 v1 v1 fun M3 => rx_ld M3 31 192 w2 fun v4 => rx_sv M3 26 192 v2 v4 fun M5 => rx_ld M5 27 192 v2 fun v6 => rx_ld M5 27 192 v1 fun v7 => rx_sv M5 27 192 v2 (v6 - v7) fun M8 => rx_ld M8 28 192 v2 fun v9 => rx_ld M8 28 192 v1 fun v10 => rx_sv M8 28 192 v2 (v9 - v10) fun M11 => rx_ld M11 29 192 v2 fun v12 => rx_ld M11 29 192 v1 fun v13 => rx_sv M11 29 192 v2 (v12 - v13) fun M14 => rx_vv (rx_st M14 3 7 w2) fun M15 => rx_vv (w2 + (-1)) fun v16 => rec v16 M15)
noncomputable def qf_X3_partTo  (w1 : Int32)  (M : Me) : Op :=
  rx_vv (M 3 7) fun v1 => rx_vv (v1 - 1) fun v2 => rx_lp1 (qo_X3_partTo_7 w1) rx_FU v2 M
section
variable {p : Program} {l : Launch} {e : Env} {s : State} {m : MethodId} {args : Array Value} {below : List Frame} {meth : Method} {c : Code} {Q : State → Prop} {D : va_G} {A : Nat → Prop} {o : Int32 × Me} {ad : Nat → Nat} {cI cL : ClassId} {b1 b2 : Nat}
set_option maxRecDepth 100000 in
set_option maxHeartbeats 4000000 in
theorem qk_X3_partTo_7 (cx : rx_C p m c cX3_partTo 5 s args wX3_partTo RX3 D vwCl (tX cI cL) (zX b1 b2) wN A) (hret : rx_RV p l e rm_X3_partTo s m args below meth c cX3_partTo D vwCl (wX ad cI cL) A Q o) {w1 : Int32} : ∀ (n : Nat) {w2 : Int32} {ls : Array Slot} {H : Heap} {locs : List Loc} {M : Me}, rx_W D vwCl (wX ad cI cL) A s.heap M H locs → lv_has ls 5 [(0, .ref ((ad 3))), (1, .int w1), (2, .int w2)] → rx_lp1 (qo_X3_partTo_7 w1) n w2 M = some o → W p l e rm_X3_partTo s m args below meth c H locs 0 0 Q (F0 m 7 ls []) := by
  have hx := cx.1.1
  have hb := cx.1.2.1
  intro n
  induction n with
  | zero => intro w2 ls H locs M hw hl hf; exact rx_no hf
  | succ n ih =>
    intro w2 ls H locs M hw hl hf
    have hf : qo_X3_partTo_7 w1 (rx_lp1 (qo_X3_partTo_7 w1) n) w2 M = some o := hf
    refine lv_iload_n hx hb dX3_partTo_7 rfl (lv_at hl 2 rfl) ?_
    refine lv_iload_n hx hb dX3_partTo_8 rfl (lv_at hl 1 rfl) ?_
    refine lv_icmp_lt hx hb dX3_partTo_9 rfl (fun hc => ?_) (fun hc => ?_)
    · have hf := rx_t hc hf
      exact rx_retv hret hw hf dX3_partTo_106
    · have hf := rx_f hc hf
      refine lv_aload_n hx hb dX3_partTo_12 rfl (lv_at hl 0 rfl) ?_
      refine rx_getr cx hw (frX_3_5 ad cI cL) rfl (inT_X3) (Nat.le_of_ble_eq_true rfl) (.tail _ tw_97) dX3_partTo_13 ?_
      refine lv_iload_n hx hb dX3_partTo_16 rfl (lv_at hl 2 rfl) ?_
      obtain ⟨hv1, v1, ev1, hf⟩ := rx_ldI hf
      refine rx_iald cx hw (arX_30 ad cI cL) ⟨hv1, ev1⟩ dX3_partTo_17 ?_
      refine lv_istore_n (lv' := [(3, .int v1), (0, .ref ((ad 3))), (1, .int w1), (2, .int w2)]) hx hb dX3_partTo_18 rfl hl (Nat.le_of_ble_eq_true rfl) rfl (fun ls hl => ?_)
      refine lv_aload_n hx hb dX3_partTo_19 rfl (lv_at hl 1 rfl) ?_
      refine rx_getr cx hw (frX_3_0 ad cI cL) rfl (inT_X3) (Nat.le_of_ble_eq_true rfl) (.tail _ tw_82) dX3_partTo_20 ?_
      refine lv_iload_n hx hb dX3_partTo_23 rfl (lv_at hl 0 rfl) ?_
      obtain ⟨hv2, v2, ev2, hf⟩ := rx_ldI hf
      refine rx_iald cx hw (arX_25 ad cI cL) ⟨hv2, ev2⟩ dX3_partTo_24 ?_
      refine lv_istore (lv' := [(4, .int v2), (3, .int v1), (0, .ref ((ad 3))), (1, .int w1), (2, .int w2)]) hx hb dX3_partTo_25 hl (Nat.le_of_ble_eq_true rfl) rfl (fun ls hl => ?_)
      refine lv_aload_n hx hb dX3_partTo_27 rfl (lv_at hl 2 rfl) ?_
      refine rx_getr cx hw (frX_3_0 ad cI cL) rfl (inT_X3) (Nat.le_of_ble_eq_true rfl) (.tail _ tw_82) dX3_partTo_28 ?_
      refine lv_iload_n hx hb dX3_partTo_31 rfl (lv_at hl 1 rfl) ?_
      refine lv_iload_n hx hb dX3_partTo_32 rfl (lv_at hl 1 rfl) ?_
      obtain ⟨hM3, M3, eM3, hf⟩ := rx_svI hf
      refine rx_iast cx hw (arX_25 ad cI cL) ⟨hM3, eM3⟩ dX3_partTo_33 (fun H locs hw => ?_)
      refine lv_aload_n hx hb dX3_partTo_34 rfl (lv_at hl 2 rfl) ?_
      refine rx_getr cx hw (frX_3_1 ad cI cL) rfl (inT_X3) (Nat.le_of_ble_eq_true rfl) (.tail _ tw_85) dX3_partTo_35 ?_
      refine lv_iload hx hb dX3_partTo_38 (lv_at hl 0 rfl) ?_
      refine lv_aload_n hx hb dX3_partTo_40 rfl (lv_at hl 2 rfl) ?_
      refine rx_getr cx hw (frX_3_6 ad cI cL) rfl (inT_X3) (Nat.le_of_ble_eq_true rfl) (.tail _ tw_98) dX3_partTo_41 ?_
      refine lv_iload_n hx hb dX3_partTo_44 rfl (lv_at hl 4 rfl) ?_
      obtain ⟨hv4, v4, ev4, hf⟩ := rx_ldI hf
      refine rx_iald cx hw (arX_31 ad cI cL) ⟨hv4, ev4⟩ dX3_partTo_45 ?_
      obtain ⟨hM5, M5, eM5, hf⟩ := rx_svI hf
      refine rx_iast cx hw (arX_26 ad cI cL) ⟨hM5, eM5⟩ dX3_partTo_46 (fun H locs hw => ?_)
      refine lv_aload_n hx hb dX3_partTo_47 rfl (lv_at hl 2 rfl) ?_
      refine rx_getr cx hw (frX_3_2 ad cI cL) rfl (inT_X3) (Nat.le_of_ble_eq_true rfl) (.tail _ tw_88) dX3_partTo_48 ?_
      refine lv_iload hx hb dX3_partTo_51 (lv_at hl 0 rfl) ?_
      refine lv_dup2_11 hx hb dX3_partTo_53 rfl rfl ?_
      obtain ⟨hv6, v6, ev6, hf⟩ := rx_ldI hf
      refine rx_iald cx hw (arX_27 ad cI cL) ⟨hv6, ev6⟩ dX3_partTo_54 ?_
      refine lv_aload_n hx hb dX3_partTo_55 rfl (lv_at hl 2 rfl) ?_
      refine rx_getr cx hw (frX_3_2 ad cI cL) rfl (inT_X3) (Nat.le_of_ble_eq_true rfl) (.tail _ tw_88) dX3_partTo_56 ?_
      refine lv_iload_n hx hb dX3_partTo_59 rfl (lv_at hl 1 rfl) ?_
      obtain ⟨hv7, v7, ev7, hf⟩ := rx_ldI hf
      refine rx_iald cx hw (arX_27 ad cI cL) ⟨hv7, ev7⟩ dX3_partTo_60 ?_
      refine lv_isub hx hb dX3_partTo_61 ?_
      obtain ⟨hM8, M8, eM8, hf⟩ := rx_svI hf
      refine rx_iast cx hw (arX_27 ad cI cL) ⟨hM8, eM8⟩ dX3_partTo_62 (fun H locs hw => ?_)
      refine lv_aload_n hx hb dX3_partTo_63 rfl (lv_at hl 2 rfl) ?_
      refine rx_getr cx hw (frX_3_3 ad cI cL) rfl (inT_X3) (Nat.le_of_ble_eq_true rfl) (.tail _ tw_91) dX3_partTo_64 ?_
      refine lv_iload hx hb dX3_partTo_67 (lv_at hl 0 rfl) ?_
      refine lv_dup2_11 hx hb dX3_partTo_69 rfl rfl ?_
      obtain ⟨hv9, v9, ev9, hf⟩ := rx_ldI hf
      refine rx_iald cx hw (arX_28 ad cI cL) ⟨hv9, ev9⟩ dX3_partTo_70 ?_
      refine lv_aload_n hx hb dX3_partTo_71 rfl (lv_at hl 2 rfl) ?_
      refine rx_getr cx hw (frX_3_3 ad cI cL) rfl (inT_X3) (Nat.le_of_ble_eq_true rfl) (.tail _ tw_91) dX3_partTo_72 ?_
      refine lv_iload_n hx hb dX3_partTo_75 rfl (lv_at hl 1 rfl) ?_
      obtain ⟨hv10, v10, ev10, hf⟩ := rx_ldI hf
      refine rx_iald cx hw (arX_28 ad cI cL) ⟨hv10, ev10⟩ dX3_partTo_76 ?_
      refine lv_isub hx hb dX3_partTo_77 ?_
      obtain ⟨hM11, M11, eM11, hf⟩ := rx_svI hf
      refine rx_iast cx hw (arX_28 ad cI cL) ⟨hM11, eM11⟩ dX3_partTo_78 (fun H locs hw => ?_)
      refine lv_aload_n hx hb dX3_partTo_79 rfl (lv_at hl 2 rfl) ?_
      refine rx_getr cx hw (frX_3_4 ad cI cL) rfl (inT_X3) (Nat.le_of_ble_eq_true rfl) (.tail _ tw_94) dX3_partTo_80 ?_
      refine lv_iload hx hb dX3_partTo_83 (lv_at hl 0 rfl) ?_
      refine lv_dup2_11 hx hb dX3_partTo_85 rfl rfl ?_
      obtain ⟨hv12, v12, ev12, hf⟩ := rx_ldI hf
      refine rx_iald cx hw (arX_29 ad cI cL) ⟨hv12, ev12⟩ dX3_partTo_86 ?_
      refine lv_aload_n hx hb dX3_partTo_87 rfl (lv_at hl 2 rfl) ?_
      refine rx_getr cx hw (frX_3_4 ad cI cL) rfl (inT_X3) (Nat.le_of_ble_eq_true rfl) (.tail _ tw_94) dX3_partTo_88 ?_
      refine lv_iload_n hx hb dX3_partTo_91 rfl (lv_at hl 1 rfl) ?_
      obtain ⟨hv13, v13, ev13, hf⟩ := rx_ldI hf
      refine rx_iald cx hw (arX_29 ad cI cL) ⟨hv13, ev13⟩ dX3_partTo_92 ?_
      refine lv_isub hx hb dX3_partTo_93 ?_
      obtain ⟨hM14, M14, eM14, hf⟩ := rx_svI hf
      refine rx_iast cx hw (arX_29 ad cI cL) ⟨hM14, eM14⟩ dX3_partTo_94 (fun H locs hw => ?_)
      refine lv_aload_n hx hb dX3_partTo_95 rfl (lv_at hl 2 rfl) ?_
      refine lv_iload_n hx hb dX3_partTo_96 rfl (lv_at hl 4 rfl) ?_
      obtain ⟨M15, eM15, hf⟩ := rx_vvI hf
      refine rx_puti cx hw (fiX_3_7 ad cI cL) rfl (inT_X3) tyX3 tyX3_ok nmX3 (Nat.le_of_ble_eq_true rfl) (.tail _ tw_99) rfl rfl rfl eM15 dX3_partTo_97 (fun H locs hw => ?_)
      obtain ⟨v16, ev16, hf⟩ := rx_vvI hf
      refine lv_iinc (lv' := [(2, .int v16), (4, .int v2), (3, .int v1), (0, .ref ((ad 3))), (1, .int w1)]) hx hb dX3_partTo_100 hl (k := 4) rfl (rx_inc ic_m1 ev16) (Nat.le_of_ble_eq_true rfl) rfl (fun ls hl => ?_)
      refine lv_goto hx hb dX3_partTo_103 rfl ?_
      exact ih hw (lv_sub hl [3, 4, 0] rfl) hf
set_option maxRecDepth 100000 in
set_option maxHeartbeats 4000000 in
theorem qk_X3_partTo_0 (cx : rx_C p m c cX3_partTo 5 s args wX3_partTo RX3 D vwCl (tX cI cL) (zX b1 b2) wN A) (hret : rx_RV p l e rm_X3_partTo s m args below meth c cX3_partTo D vwCl (wX ad cI cL) A Q o) {w1 : Int32} {ls : Array Slot} {H : Heap} {locs : List Loc} {M : Me} (hw : rx_W D vwCl (wX ad cI cL) A s.heap M H locs) (hl : lv_has ls 5 [(0, .ref ((ad 3))), (1, .int w1)]) (hf : qf_X3_partTo w1 M = some o) : W p l e rm_X3_partTo s m args below meth c H locs 0 0 Q (F0 m 0 ls []) := by
  have hx := cx.1.1
  have hb := cx.1.2.1
  refine lv_aload_n hx hb dX3_partTo_0 rfl (lv_at hl 0 rfl) ?_
  obtain ⟨v1, ev1, hf⟩ := rx_vvI hf
  refine rx_geti cx hw (fiX_3_7 ad cI cL) rfl (inT_X3) (Nat.le_of_ble_eq_true rfl) (.tail _ tw_99) ev1 dX3_partTo_1 ?_
  refine lv_iconst (v := 1) hx hb dX3_partTo_4 ic_1 ?_
  refine lv_isub hx hb dX3_partTo_5 ?_
  obtain ⟨v2, ev2, hf⟩ := rx_vvI hf
  refine rx_top ev2 ?_
  refine lv_istore_n (lv' := [(2, .int v2), (0, .ref ((ad 3))), (1, .int w1)]) hx hb dX3_partTo_6 rfl hl (Nat.le_of_ble_eq_true rfl) rfl (fun ls hl => ?_)
  exact (qk_X3_partTo_7 cx hret rx_FU) hw (lv_sub hl [1, 2, 0] rfl) hf
end
set_option maxRecDepth 100000 in
theorem qc_X3_partTo (l : Launch) (D : va_G) (ad : Nat → Nat) (cI cL : ClassId) (b1 b2 : Nat) (w1 : Int32) : rx_MV l yX3_partTo wX3_partTo rm_X3_partTo D vwCl (wX ad cI cL) (tX cI cL) (zX b1 b2) wN [.ref (ad 3), .int w1] (fun M => qf_X3_partTo w1 M) :=
  rx_ofV (by decide) rfl wN_ok (Nat.le_of_ble_eq_true rfl) (fun _ _ _ _ _ _ _ _ _ _ _ _ _ cx hret hw hl hf => qk_X3_partTo_0 cx hret hw hl hf)

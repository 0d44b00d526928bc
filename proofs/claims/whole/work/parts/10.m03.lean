def rm_X2_begin : Room := { frames := 5, cells := 0, slots := 0, locals := 113 }
noncomputable def qf_X2_begin  (w1 : Int32)  (M : Me) : Op :=
  rx_cl (qf_X2_end M) fun r1 M2 => rx_vv (rx_st M2 4 2 1) fun M3 => rx_vv (rx_st M3 4 4 w1) fun M4 => rx_cl (qf_X2_drawNext M4) fun r5 M6 => some (0, M6)
section
variable {p : Program} {l : Launch} {e : Env} {s : State} {m : MethodId} {args : Array Value} {below : List Frame} {meth : Method} {c : Code} {Q : State → Prop} {D : va_G} {A : Nat → Prop} {o : Int32 × Me} {ad : Nat → Nat} {cI cL : ClassId} {b1 b2 : Nat}
set_option maxRecDepth 100000 in
set_option maxHeartbeats 4000000 in
theorem qk_X2_begin_0 (cx : rx_C p m c cX2_begin 2 s args wX2_begin RX2 D vwCl (tX cI cL) (zX b1 b2) wN A) (hret : rx_RV p l e rm_X2_begin s m args below meth c cX2_begin D vwCl (wX ad cI cL) A Q o) {w1 : Int32} {ls : Array Slot} {H : Heap} {locs : List Loc} {M : Me} (hw : rx_W D vwCl (wX ad cI cL) A s.heap M H locs) (hl : lv_has ls 2 [(0, .ref ((ad 4))), (1, .int w1)]) (hf : qf_X2_begin w1 M = some o) : W p l e rm_X2_begin s m args below meth c H locs 0 0 Q (F0 m 0 ls []) := by
  have hx := cx.1.1
  have hb := cx.1.2.1
  refine lv_aload_n hx hb dX2_begin_0 rfl (lv_at hl 0 rfl) ?_
  obtain ⟨r1, M2, er1, hf⟩ := rx_clI hf
  refine rx_jVv cx hw (qc_X2_end l D ad cI cL b1 b2) (obX_4 ad cI cL) rfl rfl kfX2_end tw_372 ⟨Nat.le_of_ble_eq_true rfl, Nat.le_of_ble_eq_true rfl, rfl, rfl⟩ rfl hl.1 (Nat.le_of_ble_eq_true rfl) ⟨Nat.zero_le _, Nat.zero_le _⟩ dX2_begin_1 rfl er1 (fun H locs hw => ?_)
  refine lv_aload_n hx hb dX2_begin_4 rfl (lv_at hl 0 rfl) ?_
  refine lv_iconst (v := 1) hx hb dX2_begin_5 ic_1 ?_
  obtain ⟨M3, eM3, hf⟩ := rx_vvI hf
  refine rx_puti cx hw (fiX_4_2 ad cI cL) rfl (inT_X2) tyX2 tyX2_ok nmX2 (Nat.le_of_ble_eq_true rfl) (.tail _ tw_183) rfl rfl rfl eM3 dX2_begin_6 (fun H locs hw => ?_)
  refine lv_aload_n hx hb dX2_begin_9 rfl (lv_at hl 0 rfl) ?_
  refine lv_iload_n hx hb dX2_begin_10 rfl (lv_at hl 1 rfl) ?_
  obtain ⟨M4, eM4, hf⟩ := rx_vvI hf
  refine rx_puti cx hw (fiX_4_4 ad cI cL) rfl (inT_X2) tyX2 tyX2_ok nmX2 (Nat.le_of_ble_eq_true rfl) (.tail _ tw_187) rfl rfl rfl eM4 dX2_begin_11 (fun H locs hw => ?_)
  refine lv_aload_n hx hb dX2_begin_14 rfl (lv_at hl 0 rfl) ?_
  obtain ⟨r5, M6, er5, hf⟩ := rx_clI hf
  refine rx_jVv cx hw (qc_X2_drawNext l D ad cI cL b1 b2) (obX_4 ad cI cL) rfl rfl kfX2_drawNext tw_420 ⟨Nat.le_of_ble_eq_true rfl, Nat.le_of_ble_eq_true rfl, rfl, rfl⟩ rfl hl.1 (Nat.le_of_ble_eq_true rfl) ⟨Nat.zero_le _, Nat.zero_le _⟩ dX2_begin_15 rfl er5 (fun H locs hw => ?_)
  exact rx_retv hret hw hf dX2_begin_18
end
set_option maxRecDepth 100000 in
theorem qc_X2_begin (l : Launch) (D : va_G) (ad : Nat → Nat) (cI cL : ClassId) (b1 b2 : Nat) (w1 : Int32) : rx_MV l yX2_begin wX2_begin rm_X2_begin D vwCl (wX ad cI cL) (tX cI cL) (zX b1 b2) wN [.ref (ad 4), .int w1] (fun M => qf_X2_begin w1 M) :=
  rx_ofV (by decide) rfl wN_ok (Nat.le_of_ble_eq_true rfl) (fun _ _ _ _ _ _ _ _ _ _ _ _ _ cx hret hw hl hf => qk_X2_begin_0 cx hret hw hl hf)
def rm_X6_start : Room := { frames := 6, cells := 0, slots := 0, locals := 134 }
noncomputable def qf_X6_start  (w1 : Int32)  (M : Me) : Op :=
  if w1 < 2 then (rx_zb 0 (some (0, M))) else (if 3 < w1 then (rx_zb 0 (some (0, M))) else (rx_vv (M 1 9) fun v1 => if v1 = 0 then (rx_zb 0 (some (0, M))) else (rx_cl (qf_X4_forget M) fun r2 M3 => rx_cl (qf_X2_begin w1 M3) fun r4 M5 => rx_zb 1 (some (1, M5)))))
section
variable {p : Program} {l : Launch} {e : Env} {s : State} {m : MethodId} {args : Array Value} {below : List Frame} {meth : Method} {c : Code} {Q : State → Prop} {D : va_G} {A : Nat → Prop} {o : Int32 × Me} {ad : Nat → Nat} {cI cL : ClassId} {b1 b2 : Nat}
set_option maxRecDepth 100000 in
set_option maxHeartbeats 4000000 in
theorem qk_X6_start_0 (cx : rx_C p m c cX6_start 2 s args wX6_start RX6 D vwCl (tX cI cL) (zX b1 b2) wN A) (hret : rx_RZ p l e rm_X6_start s m args below meth c cX6_start D vwCl (wX ad cI cL) A Q o) {w1 : Int32} {ls : Array Slot} {H : Heap} {locs : List Loc} {M : Me} (hw : rx_W D vwCl (wX ad cI cL) A s.heap M H locs) (hl : lv_has ls 2 [(0, .ref ((ad 0))), (1, .int w1)]) (hf : qf_X6_start w1 M = some o) : W p l e rm_X6_start s m args below meth c H locs 0 0 Q (F0 m 0 ls []) := by
  have hx := cx.1.1
  have hb := cx.1.2.1
  refine lv_iload_n hx hb dX6_start_0 rfl (lv_at hl 1 rfl) ?_
  refine lv_iconst (v := 2) hx hb dX6_start_1 ic_2 ?_
  refine lv_icmp_lt hx hb dX6_start_2 rfl (fun hc => ?_) (fun hc => ?_)
  · have hf := rx_t hc hf
    refine lv_iconst (v := 0) hx hb dX6_start_20 ic_0 ?_
    exact rx_retz hret hw hf dX6_start_21
  · have hf := rx_f hc hf
    refine lv_iload_n hx hb dX6_start_5 rfl (lv_at hl 1 rfl) ?_
    refine lv_iconst (v := 3) hx hb dX6_start_6 ic_3 ?_
    refine lv_icmp_gt hx hb dX6_start_7 rfl (fun hc => ?_) (fun hc => ?_)
    · have hf := rx_t hc hf
      refine lv_iconst (v := 0) hx hb dX6_start_20 ic_0 ?_
      exact rx_retz hret hw hf dX6_start_21
    · have hf := rx_f hc hf
      refine lv_aload_n hx hb dX6_start_10 rfl (lv_at hl 0 rfl) ?_
      refine rx_getr cx hw (frX_0_0 ad cI cL) rfl (inT_X6) (Nat.le_of_ble_eq_true rfl) (.tail _ tw_304) dX6_start_11 ?_
      obtain ⟨v1, ev1, hf⟩ := rx_vvI hf
      refine rx_getiN cx hw (fiX_1_9 ad cI cL) rfl (inT_X0) (Nat.le_of_ble_eq_true rfl) tn_45 ev1 dX6_start_14 ?_
      refine lv_if_ne hx hb dX6_start_17 rfl (fun hc => ?_) (fun hc => ?_)
      · have hf := rx_f hc hf
        refine lv_aload_n hx hb dX6_start_22 rfl (lv_at hl 0 rfl) ?_
        refine rx_getr cx hw (frX_0_3 ad cI cL) rfl (inT_X6) (Nat.le_of_ble_eq_true rfl) (.tail _ tw_307) dX6_start_23 ?_
        obtain ⟨r2, M3, er2, hf⟩ := rx_clI hf
        refine rx_jVv cx hw (qc_X4_forget l D ad cI cL b1 b2) (obX_5 ad cI cL) rfl rfl kfX4_forget tw_364 ⟨Nat.le_of_ble_eq_true rfl, Nat.le_of_ble_eq_true rfl, rfl, rfl⟩ rfl hl.1 (Nat.le_of_ble_eq_true rfl) ⟨Nat.zero_le _, Nat.zero_le _⟩ dX6_start_26 rfl er2 (fun H locs hw => ?_)
        refine lv_aload_n hx hb dX6_start_29 rfl (lv_at hl 0 rfl) ?_
        refine rx_getr cx hw (frX_0_2 ad cI cL) rfl (inT_X6) (Nat.le_of_ble_eq_true rfl) (.tail _ tw_306) dX6_start_30 ?_
        refine lv_iload_n hx hb dX6_start_33 rfl (lv_at hl 1 rfl) ?_
        obtain ⟨r4, M5, er4, hf⟩ := rx_clI hf
        refine rx_jVv cx hw (qc_X2_begin l D ad cI cL b1 b2 w1) (obX_4 ad cI cL) rfl rfl kfX2_begin tw_368 ⟨Nat.le_of_ble_eq_true rfl, Nat.le_of_ble_eq_true rfl, rfl, rfl⟩ rfl hl.1 (Nat.le_of_ble_eq_true rfl) ⟨Nat.zero_le _, Nat.zero_le _⟩ dX6_start_34 rfl er4 (fun H locs hw => ?_)
        refine lv_iconst (v := 1) hx hb dX6_start_37 ic_1 ?_
        exact rx_retz hret hw hf dX6_start_38
      · have hf := rx_t hc hf
        refine lv_iconst (v := 0) hx hb dX6_start_20 ic_0 ?_
        exact rx_retz hret hw hf dX6_start_21
end
set_option maxRecDepth 100000 in
theorem qc_X6_start (l : Launch) (D : va_G) (ad : Nat → Nat) (cI cL : ClassId) (b1 b2 : Nat) (w1 : Int32) : rx_MI l yX6_start wX6_start rm_X6_start D vwCl (wX ad cI cL) (tX cI cL) (zX b1 b2) wN [.ref (ad 0), .int w1] (fun M => qf_X6_start w1 M) :=
  rx_ofZ (by decide) rfl wN_ok (Nat.le_of_ble_eq_true rfl) (fun _ _ _ _ _ _ _ _ _ _ _ _ _ cx hret hw hl hf => qk_X6_start_0 cx hret hw hl hf)
def rm_X0_forget : Room := { frames := 0, cells := 0, slots := 0, locals := 0 }
noncomputable def qf_X0_forget    (M : Me) : Op :=
  rx_vv (rx_st M 1 8 0) fun M1 => rx_vv (rx_st M1 1 9 0) fun M2 => some (0, M2)
section
variable {p : Program} {l : Launch} {e : Env} {s : State} {m : MethodId} {args : Array Value} {below : List Frame} {meth : Method} {c : Code} {Q : State → Prop} {D : va_G} {A : Nat → Prop} {o : Int32 × Me} {ad : Nat → Nat} {cI cL : ClassId} {b1 b2 : Nat}
set_option maxRecDepth 100000 in
set_option maxHeartbeats 4000000 in
theorem qk_X0_forget_0 (cx : rx_C p m c cX0_forget 1 s args wX0_forget RX0 D vwCl (tX cI cL) (zX b1 b2) wN A) (hret : rx_RV p l e rm_X0_forget s m args below meth c cX0_forget D vwCl (wX ad cI cL) A Q o) {ls : Array Slot} {H : Heap} {locs : List Loc} {M : Me} (hw : rx_W D vwCl (wX ad cI cL) A s.heap M H locs) (hl : lv_has ls 1 [(0, .ref ((ad 1)))]) (hf : qf_X0_forget M = some o) : W p l e rm_X0_forget s m args below meth c H locs 0 0 Q (F0 m 0 ls []) := by
  have hx := cx.1.1
  have hb := cx.1.2.1
  refine lv_aload_n hx hb dX0_forget_0 rfl (lv_at hl 0 rfl) ?_
  refine lv_iconst (v := 0) hx hb dX0_forget_1 ic_0 ?_
  obtain ⟨M1, eM1, hf⟩ := rx_vvI hf
  refine rx_puti cx hw (fiX_1_8 ad cI cL) rfl (inT_X0) tyX0 tyX0_ok nmX0 (Nat.le_of_ble_eq_true rfl) (.tail _ tw_44) rfl rfl rfl eM1 dX0_forget_2 (fun H locs hw => ?_)
  refine lv_aload_n hx hb dX0_forget_5 rfl (lv_at hl 0 rfl) ?_
  refine lv_iconst (v := 0) hx hb dX0_forget_6 ic_0 ?_
  obtain ⟨M2, eM2, hf⟩ := rx_vvI hf
  refine rx_puti cx hw (fiX_1_9 ad cI cL) rfl (inT_X0) tyX0 tyX0_ok nmX0 (Nat.le_of_ble_eq_true rfl) (.tail _ tw_47) rfl rfl rfl eM2 dX0_forget_7 (fun H locs hw => ?_)
  exact rx_retv hret hw hf dX0_forget_10
end
set_option maxRecDepth 100000 in
theorem qc_X0_forget (l : Launch) (D : va_G) (ad : Nat → Nat) (cI cL : ClassId) (b1 b2 : Nat) : rx_MV l yX0_forget wX0_forget rm_X0_forget D vwCl (wX ad cI cL) (tX cI cL) (zX b1 b2) wN [.ref (ad 1)] (fun M => qf_X0_forget M) :=
  rx_ofV (by decide) rfl wN_ok (Nat.le_of_ble_eq_true rfl) (fun _ _ _ _ _ _ _ _ _ _ _ _ _ cx hret hw hl hf => qk_X0_forget_0 cx hret hw hl hf)
def rm_X6_clear : Room := { frames := 5, cells := 0, slots := 0, locals := 113 }
noncomputable def qf_X6_clear    (M : Me) : Op :=
  rx_cl (qf_X4_forget M) fun r1 M2 => rx_cl (qf_X2_end M2) fun r3 M4 => rx_cl (qf_X0_forget M4) fun r5 M6 => some (0, M6)
section
variable {p : Program} {l : Launch} {e : Env} {s : State} {m : MethodId} {args : Array Value} {below : List Frame} {meth : Method} {c : Code} {Q : State → Prop} {D : va_G} {A : Nat → Prop} {o : Int32 × Me} {ad : Nat → Nat} {cI cL : ClassId} {b1 b2 : Nat}
set_option maxRecDepth 100000 in
set_option maxHeartbeats 4000000 in
theorem qk_X6_clear_0 (cx : rx_C p m c cX6_clear 1 s args wX6_clear RX6 D vwCl (tX cI cL) (zX b1 b2) wN A) (hret : rx_RV p l e rm_X6_clear s m args below meth c cX6_clear D vwCl (wX ad cI cL) A Q o) {ls : Array Slot} {H : Heap} {locs : List Loc} {M : Me} (hw : rx_W D vwCl (wX ad cI cL) A s.heap M H locs) (hl : lv_has ls 1 [(0, .ref ((ad 0)))]) (hf : qf_X6_clear M = some o) : W p l e rm_X6_clear s m args below meth c H locs 0 0 Q (F0 m 0 ls []) := by
  have hx := cx.1.1
  have hb := cx.1.2.1
  refine lv_aload_n hx hb dX6_clear_0 rfl (lv_at hl 0 rfl) ?_
  refine rx_getr cx hw (frX_0_3 ad cI cL) rfl (inT_X6) (Nat.le_of_ble_eq_true rfl) (.tail _ tw_307) dX6_clear_1 ?_
  obtain ⟨r1, M2, er1, hf⟩ := rx_clI hf
  refine rx_jVv cx hw (qc_X4_forget l D ad cI cL b1 b2) (obX_5 ad cI cL) rfl rfl kfX4_forget tw_364 ⟨Nat.le_of_ble_eq_true rfl, Nat.le_of_ble_eq_true rfl, rfl, rfl⟩ rfl hl.1 (Nat.le_of_ble_eq_true rfl) ⟨Nat.zero_le _, Nat.zero_le _⟩ dX6_clear_4 rfl er1 (fun H locs hw => ?_)
  refine lv_aload_n hx hb dX6_clear_7 rfl (lv_at hl 0 rfl) ?_
  refine rx_getr cx hw (frX_0_2 ad cI cL) rfl (inT_X6) (Nat.le_of_ble_eq_true rfl) (.tail _ tw_306) dX6_clear_8 ?_
  obtain ⟨r3, M4, er3, hf⟩ := rx_clI hf
  refine rx_jVv cx hw (qc_X2_end l D ad cI cL b1 b2) (obX_4 ad cI cL) rfl rfl kfX2_end tw_436 ⟨Nat.le_of_ble_eq_true rfl, Nat.le_of_ble_eq_true rfl, rfl, rfl⟩ rfl hl.1 (Nat.le_of_ble_eq_true rfl) ⟨Nat.zero_le _, Nat.zero_le _⟩ dX6_clear_11 rfl er3 (fun H locs hw => ?_)
  refine lv_aload_n hx hb dX6_clear_14 rfl (lv_at hl 0 rfl) ?_
  refine rx_getr cx hw (frX_0_0 ad cI cL) rfl (inT_X6) (Nat.le_of_ble_eq_true rfl) (.tail _ tw_304) dX6_clear_15 ?_
  obtain ⟨r5, M6, er5, hf⟩ := rx_clI hf
  refine rx_jVv cx hw (qc_X0_forget l D ad cI cL b1 b2) (obX_1 ad cI cL) rfl rfl kfX0_forget tw_437 ⟨Nat.le_of_ble_eq_true rfl, Nat.le_of_ble_eq_true rfl, rfl, rfl⟩ rfl hl.1 (Nat.le_of_ble_eq_true rfl) ⟨Nat.zero_le _, Nat.zero_le _⟩ dX6_clear_18 rfl er5 (fun H locs hw => ?_)
  exact rx_retv hret hw hf dX6_clear_21
end
set_option maxRecDepth 100000 in
theorem qc_X6_clear (l : Launch) (D : va_G) (ad : Nat → Nat) (cI cL : ClassId) (b1 b2 : Nat) : rx_MV l yX6_clear wX6_clear rm_X6_clear D vwCl (wX ad cI cL) (tX cI cL) (zX b1 b2) wN [.ref (ad 0)] (fun M => qf_X6_clear M) :=
  rx_ofV (by decide) rfl wN_ok (Nat.le_of_ble_eq_true rfl) (fun _ _ _ _ _ _ _ _ _ _ _ _ _ cx hret hw hl hf => qk_X6_clear_0 cx hret hw hl hf)
def rm_X6_drawn : Room := { frames := 0, cells := 0, slots := 0, locals := 0 }
noncomputable def qf_X6_drawn    (M : Me) : Op :=
  rx_vv (M 4 6) fun v1 => some (v1, M)
section
variable {p : Program} {l : Launch} {e : Env} {s : State} {m : MethodId} {args : Array Value} {below : List Frame} {meth : Method} {c : Code} {Q : State → Prop} {D : va_G} {A : Nat → Prop} {o : Int32 × Me} {ad : Nat → Nat} {cI cL : ClassId} {b1 b2 : Nat}
set_option maxRecDepth 100000 in
set_option maxHeartbeats 4000000 in
theorem qk_X6_drawn_0 (cx : rx_C p m c cX6_drawn 1 s args wX6_drawn RX6 D vwCl (tX cI cL) (zX b1 b2) wN A) (hret : rx_RI p l e rm_X6_drawn s m args below meth c cX6_drawn D vwCl (wX ad cI cL) A Q o) {ls : Array Slot} {H : Heap} {locs : List Loc} {M : Me} (hw : rx_W D vwCl (wX ad cI cL) A s.heap M H locs) (hl : lv_has ls 1 [(0, .ref ((ad 0)))]) (hf : qf_X6_drawn M = some o) : W p l e rm_X6_drawn s m args below meth c H locs 0 0 Q (F0 m 0 ls []) := by
  have hx := cx.1.1
  have hb := cx.1.2.1
  refine lv_aload_n hx hb dX6_drawn_0 rfl (lv_at hl 0 rfl) ?_
  refine rx_getr cx hw (frX_0_2 ad cI cL) rfl (inT_X6) (Nat.le_of_ble_eq_true rfl) (.tail _ tw_306) dX6_drawn_1 ?_
  obtain ⟨v1, ev1, hf⟩ := rx_vvI hf
  refine rx_getiN cx hw (fiX_4_6 ad cI cL) rfl (inT_X2) (Nat.le_of_ble_eq_true rfl) tn_194 ev1 dX6_drawn_4 ?_
  exact rx_reti hret hw hf dX6_drawn_7
end
set_option maxRecDepth 100000 in
theorem qc_X6_drawn (l : Launch) (D : va_G) (ad : Nat → Nat) (cI cL : ClassId) (b1 b2 : Nat) : rx_MI l yX6_drawn wX6_drawn rm_X6_drawn D vwCl (wX ad cI cL) (tX cI cL) (zX b1 b2) wN [.ref (ad 0)] (fun M => qf_X6_drawn M) :=
  rx_ofI (by decide) rfl wN_ok (Nat.le_of_ble_eq_true rfl) (fun _ _ _ _ _ _ _ _ _ _ _ _ _ cx hret hw hl hf => qk_X6_drawn_0 cx hret hw hl hf)
def rm_X2_toMove : Room := { frames := 0, cells := 0, slots := 0, locals := 0 }
noncomputable def qb_X2_toMove_19    (M : Me) : Op :=
  rx_vv (M 4 5) fun v1 => some (v1, M)
noncomputable def qf_X2_toMove    (M : Me) : Op :=
  rx_vv (M 4 6) fun v1 => if v1 = (-1) then (rx_vv (M 4 3) fun v2 => if v2 = 0 then (some ((-1), M)) else (qb_X2_toMove_19 M)) else (qb_X2_toMove_19 M)
section
variable {p : Program} {l : Launch} {e : Env} {s : State} {m : MethodId} {args : Array Value} {below : List Frame} {meth : Method} {c : Code} {Q : State → Prop} {D : va_G} {A : Nat → Prop} {o : Int32 × Me} {ad : Nat → Nat} {cI cL : ClassId} {b1 b2 : Nat}
set_option maxRecDepth 100000 in
set_option maxHeartbeats 4000000 in
theorem qk_X2_toMove_19 (cx : rx_C p m c cX2_toMove 1 s args wX2_toMove RX2 D vwCl (tX cI cL) (zX b1 b2) wN A) (hret : rx_RI p l e rm_X2_toMove s m args below meth c cX2_toMove D vwCl (wX ad cI cL) A Q o) {ls : Array Slot} {H : Heap} {locs : List Loc} {M : Me} (hw : rx_W D vwCl (wX ad cI cL) A s.heap M H locs) (hl : lv_has ls 1 [(0, .ref ((ad 4)))]) (hf : qb_X2_toMove_19 M = some o) : W p l e rm_X2_toMove s m args below meth c H locs 0 0 Q (F0 m 19 ls []) := by
  have hx := cx.1.1
  have hb := cx.1.2.1
  refine lv_aload_n hx hb dX2_toMove_19 rfl (lv_at hl 0 rfl) ?_
  obtain ⟨v1, ev1, hf⟩ := rx_vvI hf
  refine rx_geti cx hw (fiX_4_5 ad cI cL) rfl (inT_X2) (Nat.le_of_ble_eq_true rfl) (.tail _ tw_191) ev1 dX2_toMove_20 ?_
  exact rx_reti hret hw hf dX2_toMove_23
set_option maxRecDepth 100000 in
set_option maxHeartbeats 4000000 in
theorem qk_X2_toMove_0 (cx : rx_C p m c cX2_toMove 1 s args wX2_toMove RX2 D vwCl (tX cI cL) (zX b1 b2) wN A) (hret : rx_RI p l e rm_X2_toMove s m args below meth c cX2_toMove D vwCl (wX ad cI cL) A Q o) {ls : Array Slot} {H : Heap} {locs : List Loc} {M : Me} (hw : rx_W D vwCl (wX ad cI cL) A s.heap M H locs) (hl : lv_has ls 1 [(0, .ref ((ad 4)))]) (hf : qf_X2_toMove M = some o) : W p l e rm_X2_toMove s m args below meth c H locs 0 0 Q (F0 m 0 ls []) := by
  have hx := cx.1.1
  have hb := cx.1.2.1
  refine lv_aload_n hx hb dX2_toMove_0 rfl (lv_at hl 0 rfl) ?_
  obtain ⟨v1, ev1, hf⟩ := rx_vvI hf
  refine rx_geti cx hw (fiX_4_6 ad cI cL) rfl (inT_X2) (Nat.le_of_ble_eq_true rfl) (.tail _ tw_192) ev1 dX2_toMove_1 ?_
  refine lv_iconst (v := (-1)) hx hb dX2_toMove_4 ic_m1 ?_
  refine lv_icmp_ne hx hb dX2_toMove_5 rfl (fun hc => ?_) (fun hc => ?_)
  · have hf := rx_f hc hf
    exact (qk_X2_toMove_19 cx hret) hw hl hf
  · have hf := rx_t hc hf
    refine lv_aload_n hx hb dX2_toMove_8 rfl (lv_at hl 0 rfl) ?_
    obtain ⟨v2, ev2, hf⟩ := rx_vvI hf
    refine rx_geti cx hw (fiX_4_3 ad cI cL) rfl (inT_X2) (Nat.le_of_ble_eq_true rfl) (.tail _ tw_185) ev2 dX2_toMove_9 ?_
    refine lv_if_ne hx hb dX2_toMove_12 rfl (fun hc => ?_) (fun hc => ?_)
    · have hf := rx_f hc hf
      exact (qk_X2_toMove_19 cx hret) hw hl hf
    · have hf := rx_t hc hf
      refine lv_iconst (v := (-1)) hx hb dX2_toMove_15 ic_m1 ?_
      refine lv_goto hx hb dX2_toMove_16 rfl ?_
      exact rx_reti hret hw hf dX2_toMove_23
end
set_option maxRecDepth 100000 in
theorem qc_X2_toMove (l : Launch) (D : va_G) (ad : Nat → Nat) (cI cL : ClassId) (b1 b2 : Nat) : rx_MI l yX2_toMove wX2_toMove rm_X2_toMove D vwCl (wX ad cI cL) (tX cI cL) (zX b1 b2) wN [.ref (ad 4)] (fun M => qf_X2_toMove M) :=
  rx_ofI (by decide) rfl wN_ok (Nat.le_of_ble_eq_true rfl) (fun _ _ _ _ _ _ _ _ _ _ _ _ _ cx hret hw hl hf => qk_X2_toMove_0 cx hret hw hl hf)
def rm_X6_game : Room := { frames := 1, cells := 0, slots := 0, locals := 20 }
noncomputable def qf_X6_game  (w1 : Int32)  (M : Me) : Op :=
  if w1 = 0 then (rx_cl (qf_X2_toMove M) fun r1 M2 => some (r1, M2)) else (if w1 = 1 then (rx_vv (M 2 9) fun v3 => some (v3, M)) else (if w1 = 2 then (rx_vv (M 4 8) fun v4 => some (v4, M)) else (if w1 = 3 then (rx_cl (qf_X2_steps M) fun r5 M6 => some (r5, M6)) else (if w1 = 4 then (rx_vv (M 4 3) fun v7 => if v7 = 0 then (some (0, M)) else (some (1, M))) else (if w1 = 5 then (rx_vv (M 1 9) fun v8 => rx_vv (M 4 7) fun v9 => some (v8 - v9, M)) else (some ((-2), M)))))))
section
variable {p : Program} {l : Launch} {e : Env} {s : State} {m : MethodId} {args : Array Value} {below : List Frame} {meth : Method} {c : Code} {Q : State → Prop} {D : va_G} {A : Nat → Prop} {o : Int32 × Me} {ad : Nat → Nat} {cI cL : ClassId} {b1 b2 : Nat}
set_option maxRecDepth 100000 in
set_option maxHeartbeats 4000000 in
theorem qk_X6_game_0 (cx : rx_C p m c cX6_game 2 s args wX6_game RX6 D vwCl (tX cI cL) (zX b1 b2) wN A) (hret : rx_RI p l e rm_X6_game s m args below meth c cX6_game D vwCl (wX ad cI cL) A Q o) {w1 : Int32} {ls : Array Slot} {H : Heap} {locs : List Loc} {M : Me} (hw : rx_W D vwCl (wX ad cI cL) A s.heap M H locs) (hl : lv_has ls 2 [(0, .ref ((ad 0))), (1, .int w1)]) (hf : qf_X6_game w1 M = some o) : W p l e rm_X6_game s m args below meth c H locs 0 0 Q (F0 m 0 ls []) := by
  have hx := cx.1.1
  have hb := cx.1.2.1
  refine lv_iload_n hx hb dX6_game_0 rfl (lv_at hl 1 rfl) ?_
  by_cases hs0 : w1 = 0
  · have hf := rx_t hs0 hf
    refine lv_tableIn hx hb dX6_game_1 (by rw [hs0]; decide) (by rw [hs0]; decide) (by rw [hs0]; rfl) rfl ?_
    refine lv_aload_n hx hb dX6_game_40 rfl (lv_at hl 0 rfl) ?_
    refine rx_getr cx hw (frX_0_2 ad cI cL) rfl (inT_X6) (Nat.le_of_ble_eq_true rfl) (.tail _ tw_306) dX6_game_41 ?_
    obtain ⟨r1, M2, er1, hf⟩ := rx_clI hf
    refine rx_jVi cx hw (qc_X2_toMove l D ad cI cL b1 b2) (obX_4 ad cI cL) rfl rfl kfX2_toMove tw_449 ⟨Nat.le_of_ble_eq_true rfl, Nat.le_of_ble_eq_true rfl, rfl, rfl⟩ rfl hl.1 (Nat.le_of_ble_eq_true rfl) ⟨Nat.zero_le _, Nat.zero_le _⟩ dX6_game_44 rfl er1 (fun H locs hw => ?_)
    exact rx_reti hret hw hf dX6_game_47
  · have hf := rx_f hs0 hf
    by_cases hs1 : w1 = 1
    · have hf := rx_t hs1 hf
      refine lv_tableIn hx hb dX6_game_1 (by rw [hs1]; decide) (by rw [hs1]; decide) (by rw [hs1]; rfl) rfl ?_
      refine lv_aload_n hx hb dX6_game_48 rfl (lv_at hl 0 rfl) ?_
      refine rx_getr cx hw (frX_0_1 ad cI cL) rfl (inT_X6) (Nat.le_of_ble_eq_true rfl) (.tail _ tw_305) dX6_game_49 ?_
      obtain ⟨v3, ev3, hf⟩ := rx_vvI hf
      refine rx_getiN cx hw (fiX_2_9 ad cI cL) rfl (inT_X5) (Nat.le_of_ble_eq_true rfl) tn_147 ev3 dX6_game_52 ?_
      exact rx_reti hret hw hf dX6_game_55
    · have hf := rx_f hs1 hf
      by_cases hs2 : w1 = 2
      · have hf := rx_t hs2 hf
        refine lv_tableIn hx hb dX6_game_1 (by rw [hs2]; decide) (by rw [hs2]; decide) (by rw [hs2]; rfl) rfl ?_
        refine lv_aload_n hx hb dX6_game_56 rfl (lv_at hl 0 rfl) ?_
        refine rx_getr cx hw (frX_0_2 ad cI cL) rfl (inT_X6) (Nat.le_of_ble_eq_true rfl) (.tail _ tw_306) dX6_game_57 ?_
        obtain ⟨v4, ev4, hf⟩ := rx_vvI hf
        refine rx_getiN cx hw (fiX_4_8 ad cI cL) rfl (inT_X2) (Nat.le_of_ble_eq_true rfl) tn_198 ev4 dX6_game_60 ?_
        exact rx_reti hret hw hf dX6_game_63
      · have hf := rx_f hs2 hf
        by_cases hs3 : w1 = 3
        · have hf := rx_t hs3 hf
          refine lv_tableIn hx hb dX6_game_1 (by rw [hs3]; decide) (by rw [hs3]; decide) (by rw [hs3]; rfl) rfl ?_
          refine lv_aload_n hx hb dX6_game_64 rfl (lv_at hl 0 rfl) ?_
          refine rx_getr cx hw (frX_0_2 ad cI cL) rfl (inT_X6) (Nat.le_of_ble_eq_true rfl) (.tail _ tw_306) dX6_game_65 ?_
          obtain ⟨r5, M6, er5, hf⟩ := rx_clI hf
          refine rx_jVi cx hw (qc_X2_steps l D ad cI cL b1 b2) (obX_4 ad cI cL) rfl rfl kfX2_steps tw_453 ⟨Nat.le_of_ble_eq_true rfl, Nat.le_of_ble_eq_true rfl, rfl, rfl⟩ rfl hl.1 (Nat.le_of_ble_eq_true rfl) ⟨Nat.zero_le _, Nat.zero_le _⟩ dX6_game_68 rfl er5 (fun H locs hw => ?_)
          exact rx_reti hret hw hf dX6_game_71
        · have hf := rx_f hs3 hf
          by_cases hs4 : w1 = 4
          · have hf := rx_t hs4 hf
            refine lv_tableIn hx hb dX6_game_1 (by rw [hs4]; decide) (by rw [hs4]; decide) (by rw [hs4]; rfl) rfl ?_
            refine lv_aload_n hx hb dX6_game_72 rfl (lv_at hl 0 rfl) ?_
            refine rx_getr cx hw (frX_0_2 ad cI cL) rfl (inT_X6) (Nat.le_of_ble_eq_true rfl) (.tail _ tw_306) dX6_game_73 ?_
            obtain ⟨v7, ev7, hf⟩ := rx_vvI hf
            refine rx_getiN cx hw (fiX_4_3 ad cI cL) rfl (inT_X2) (Nat.le_of_ble_eq_true rfl) tn_186 ev7 dX6_game_76 ?_
            refine lv_if_eq hx hb dX6_game_79 rfl (fun hc => ?_) (fun hc => ?_)
            · have hf := rx_t hc hf
              refine lv_iconst (v := 0) hx hb dX6_game_86 ic_0 ?_
              exact rx_reti hret hw hf dX6_game_87
            · have hf := rx_f hc hf
              refine lv_iconst (v := 1) hx hb dX6_game_82 ic_1 ?_
              refine lv_goto hx hb dX6_game_83 rfl ?_
              exact rx_reti hret hw hf dX6_game_87
          · have hf := rx_f hs4 hf
            by_cases hs5 : w1 = 5
            · have hf := rx_t hs5 hf
              refine lv_tableIn hx hb dX6_game_1 (by rw [hs5]; decide) (by rw [hs5]; decide) (by rw [hs5]; rfl) rfl ?_
              refine lv_aload_n hx hb dX6_game_88 rfl (lv_at hl 0 rfl) ?_
              refine rx_getr cx hw (frX_0_0 ad cI cL) rfl (inT_X6) (Nat.le_of_ble_eq_true rfl) (.tail _ tw_304) dX6_game_89 ?_
              obtain ⟨v8, ev8, hf⟩ := rx_vvI hf
              refine rx_getiN cx hw (fiX_1_9 ad cI cL) rfl (inT_X0) (Nat.le_of_ble_eq_true rfl) tn_45 ev8 dX6_game_92 ?_
              refine lv_aload_n hx hb dX6_game_95 rfl (lv_at hl 0 rfl) ?_
              refine rx_getr cx hw (frX_0_2 ad cI cL) rfl (inT_X6) (Nat.le_of_ble_eq_true rfl) (.tail _ tw_306) dX6_game_96 ?_
              obtain ⟨v9, ev9, hf⟩ := rx_vvI hf
              refine rx_getiN cx hw (fiX_4_7 ad cI cL) rfl (inT_X2) (Nat.le_of_ble_eq_true rfl) tn_196 ev9 dX6_game_99 ?_
              refine lv_isub hx hb dX6_game_102 ?_
              exact rx_reti hret hw hf dX6_game_103
            · have hf := rx_f hs5 hf
              refine lv_tableOut hx hb dX6_game_1 (by have := lv_neT hs0 it_0; have := lv_neT hs1 it_1; have := lv_neT hs2 it_2; have := lv_neT hs3 it_3; have := lv_neT hs4 it_4; have := lv_neT hs5 it_5; omega) rfl ?_
              refine lv_bipush (v := (-2)) hx hb dX6_game_104 ib_m2 ?_
              exact rx_reti hret hw hf dX6_game_106
end
set_option maxRecDepth 100000 in
theorem qc_X6_game (l : Launch) (D : va_G) (ad : Nat → Nat) (cI cL : ClassId) (b1 b2 : Nat) (w1 : Int32) : rx_MI l yX6_game wX6_game rm_X6_game D vwCl (wX ad cI cL) (tX cI cL) (zX b1 b2) wN [.ref (ad 0), .int w1] (fun M => qf_X6_game w1 M) :=
  rx_ofI (by decide) rfl wN_ok (Nat.le_of_ble_eq_true rfl) (fun _ _ _ _ _ _ _ _ _ _ _ _ _ cx hret hw hl hf => qk_X6_game_0 cx hret hw hl hf)
def rm_X5_fitNumber : Room := { frames := 2, cells := 0, slots := 0, locals := 51 }
noncomputable def qo_X5_fitNumber_5  (w1 : Int32) (w2 : Int32) (rec : Int32 → Int32 → Me → Op) (w3 : Int32) (w4 : Int32) (M : Me) : Op :=
  if w2 < w4 then (some (w3, M)) else (rx_cl (qf_X5_nextFit w1 (w3 + 1) M) fun r1 M2 => if r1 = (-1) then (some ((-1), M2)) else (rx_vv (w4 + 1) fun v3 => rec r1 v3 M2))
noncomputable def qf_X5_fitNumber  (w1 : Int32) (w2 : Int32)  (M : Me) : Op :=
  rx_lp2 (qo_X5_fitNumber_5 w1 w2) rx_FU (-1) 0 M
section
variable {p : Program} {l : Launch} {e : Env} {s : State} {m : MethodId} {args : Array Value} {below : List Frame} {meth : Method} {c : Code} {Q : State → Prop} {D : va_G} {A : Nat → Prop} {o : Int32 × Me} {ad : Nat → Nat} {cI cL : ClassId} {b1 b2 : Nat}
set_option maxRecDepth 100000 in
set_option maxHeartbeats 4000000 in
theorem qk_X5_fitNumber_5 (cx : rx_C p m c cX5_fitNumber 5 s args wX5_fitNumber RX5 D vwCl (tX cI cL) (zX b1 b2) wN A) (hret : rx_RI p l e rm_X5_fitNumber s m args below meth c cX5_fitNumber D vwCl (wX ad cI cL) A Q o) {w1 : Int32} {w2 : Int32} : ∀ (n : Nat) {w3 : Int32} {w4 : Int32} {ls : Array Slot} {H : Heap} {locs : List Loc} {M : Me}, rx_W D vwCl (wX ad cI cL) A s.heap M H locs → lv_has ls 5 [(0, .ref ((ad 2))), (1, .int w1), (2, .int w2), (3, .int w3), (4, .int w4)] → rx_lp2 (qo_X5_fitNumber_5 w1 w2) n w3 w4 M = some o → W p l e rm_X5_fitNumber s m args below meth c H locs 0 0 Q (F0 m 5 ls []) := by
  have hx := cx.1.1
  have hb := cx.1.2.1
  intro n
  induction n with
  | zero => intro w3 w4 ls H locs M hw hl hf; exact rx_no hf
  | succ n ih =>
    intro w3 w4 ls H locs M hw hl hf
    have hf : qo_X5_fitNumber_5 w1 w2 (rx_lp2 (qo_X5_fitNumber_5 w1 w2) n) w3 w4 M = some o := hf
    refine lv_iload hx hb dX5_fitNumber_5 (lv_at hl 4 rfl) ?_
    refine lv_iload_n hx hb dX5_fitNumber_7 rfl (lv_at hl 2 rfl) ?_
    refine lv_icmp_gt hx hb dX5_fitNumber_8 rfl (fun hc => ?_) (fun hc => ?_)
    · have hf := rx_t hc hf
      refine lv_iload_n hx hb dX5_fitNumber_33 rfl (lv_at hl 3 rfl) ?_
      exact rx_reti hret hw hf dX5_fitNumber_34
    · have hf := rx_f hc hf
      refine lv_aload_n hx hb dX5_fitNumber_11 rfl (lv_at hl 0 rfl) ?_
      refine lv_iload_n hx hb dX5_fitNumber_12 rfl (lv_at hl 1 rfl) ?_
      refine lv_iload_n hx hb dX5_fitNumber_13 rfl (lv_at hl 3 rfl) ?_
      refine lv_iconst (v := 1) hx hb dX5_fitNumber_14 ic_1 ?_
      refine lv_iadd hx hb dX5_fitNumber_15 ?_
      obtain ⟨r1, M2, er1, hf⟩ := rx_clI hf
      refine rx_jVi cx hw (qc_X5_nextFit l D ad cI cL b1 b2 w1 (w3 + 1)) (obX_2 ad cI cL) rfl rfl kfX5_nextFit tw_462 ⟨Nat.le_of_ble_eq_true rfl, Nat.le_of_ble_eq_true rfl, rfl, rfl⟩ rfl hl.1 (Nat.le_of_ble_eq_true rfl) ⟨Nat.zero_le _, Nat.zero_le _⟩ dX5_fitNumber_16 rfl er1 (fun H locs hw => ?_)
      refine lv_istore_n (lv' := [(3, .int r1), (0, .ref ((ad 2))), (1, .int w1), (2, .int w2), (4, .int w4)]) hx hb dX5_fitNumber_19 rfl hl (Nat.le_of_ble_eq_true rfl) rfl (fun ls hl => ?_)
      refine lv_iload_n hx hb dX5_fitNumber_20 rfl (lv_at hl 0 rfl) ?_
      refine lv_iconst (v := (-1)) hx hb dX5_fitNumber_21 ic_m1 ?_
      refine lv_icmp_ne hx hb dX5_fitNumber_22 rfl (fun hc => ?_) (fun hc => ?_)
      · have hf := rx_f hc hf
        obtain ⟨v3, ev3, hf⟩ := rx_vvI hf
        refine lv_iinc (lv' := [(4, .int v3), (3, .int r1), (0, .ref ((ad 2))), (1, .int w1), (2, .int w2)]) hx hb dX5_fitNumber_27 hl (k := 4) rfl (rx_inc ic_1 ev3) (Nat.le_of_ble_eq_true rfl) rfl (fun ls hl => ?_)
        refine lv_goto hx hb dX5_fitNumber_30 rfl ?_
        exact ih hw (lv_sub hl [2, 3, 4, 1, 0] rfl) hf
      · have hf := rx_t hc hf
        refine lv_iconst (v := (-1)) hx hb dX5_fitNumber_25 ic_m1 ?_
        exact rx_reti hret hw hf dX5_fitNumber_26
set_option maxRecDepth 100000 in
set_option maxHeartbeats 4000000 in
theorem qk_X5_fitNumber_0 (cx : rx_C p m c cX5_fitNumber 5 s args wX5_fitNumber RX5 D vwCl (tX cI cL) (zX b1 b2) wN A) (hret : rx_RI p l e rm_X5_fitNumber s m args below meth c cX5_fitNumber D vwCl (wX ad cI cL) A Q o) {w1 : Int32} {w2 : Int32} {ls : Array Slot} {H : Heap} {locs : List Loc} {M : Me} (hw : rx_W D vwCl (wX ad cI cL) A s.heap M H locs) (hl : lv_has ls 5 [(0, .ref ((ad 2))), (1, .int w1), (2, .int w2)]) (hf : qf_X5_fitNumber w1 w2 M = some o) : W p l e rm_X5_fitNumber s m args below meth c H locs 0 0 Q (F0 m 0 ls []) := by
  have hx := cx.1.1
  have hb := cx.1.2.1
  refine lv_iconst (v := (-1)) hx hb dX5_fitNumber_0 ic_m1 ?_
  refine lv_istore_n (lv' := [(3, .int (-1)), (0, .ref ((ad 2))), (1, .int w1), (2, .int w2)]) hx hb dX5_fitNumber_1 rfl hl (Nat.le_of_ble_eq_true rfl) rfl (fun ls hl => ?_)
  refine lv_iconst (v := 0) hx hb dX5_fitNumber_2 ic_0 ?_
  refine lv_istore (lv' := [(4, .int 0), (3, .int (-1)), (0, .ref ((ad 2))), (1, .int w1), (2, .int w2)]) hx hb dX5_fitNumber_3 hl (Nat.le_of_ble_eq_true rfl) rfl (fun ls hl => ?_)
  exact (qk_X5_fitNumber_5 cx hret rx_FU) hw (lv_sub hl [2, 3, 4, 1, 0] rfl) hf
end
set_option maxRecDepth 100000 in
theorem qc_X5_fitNumber (l : Launch) (D : va_G) (ad : Nat → Nat) (cI cL : ClassId) (b1 b2 : Nat) (w1 : Int32) (w2 : Int32) : rx_MI l yX5_fitNumber wX5_fitNumber rm_X5_fitNumber D vwCl (wX ad cI cL) (tX cI cL) (zX b1 b2) wN [.ref (ad 2), .int w1, .int w2] (fun M => qf_X5_fitNumber w1 w2 M) :=
  rx_ofI (by decide) rfl wN_ok (Nat.le_of_ble_eq_true rfl) (fun _ _ _ _ _ _ _ _ _ _ _ _ _ cx hret hw hl hf => qk_X5_fitNumber_0 cx hret hw hl hf)
def rm_X6_tellSpot : Room := { frames := 0, cells := 0, slots := 0, locals := 0 }
noncomputable def qf_X6_tellSpot  (w0 : Int32) (w1 : Int32)  (M : Me) : Op :=
  if w0 = (-1) then (some ((-100), M)) else (if w1 = 0 then (some (((w0 / 4) - (w0 / 4) / 21 * 21) - 10, M)) else (if w1 = 1 then (some (((w0 / 4) / 21) - 10, M)) else (if w1 = 2 then (some (w0 - w0 / 4 * 4, M)) else (some ((-100), M)))))
section
variable {p : Program} {l : Launch} {e : Env} {s : State} {m : MethodId} {args : Array Value} {below : List Frame} {meth : Method} {c : Code} {Q : State → Prop} {D : va_G} {A : Nat → Prop} {o : Int32 × Me} {ad : Nat → Nat} {cI cL : ClassId} {b1 b2 : Nat}
set_option maxRecDepth 100000 in
set_option maxHeartbeats 4000000 in
theorem qk_X6_tellSpot_0 (cx : rx_C p m c cX6_tellSpot 2 s args wX6_tellSpot RX6 D vwCl (tX cI cL) (zX b1 b2) wN A) (hret : rx_RI p l e rm_X6_tellSpot s m args below meth c cX6_tellSpot D vwCl (wX ad cI cL) A Q o) {w0 : Int32} {w1 : Int32} {ls : Array Slot} {H : Heap} {locs : List Loc} {M : Me} (hw : rx_W D vwCl (wX ad cI cL) A s.heap M H locs) (hl : lv_has ls 2 [(0, .int w0), (1, .int w1)]) (hf : qf_X6_tellSpot w0 w1 M = some o) : W p l e rm_X6_tellSpot s m args below meth c H locs 0 0 Q (F0 m 0 ls []) := by
  have hx := cx.1.1
  have hb := cx.1.2.1
  refine lv_iload_n hx hb dX6_tellSpot_0 rfl (lv_at hl 0 rfl) ?_
  refine lv_iconst (v := (-1)) hx hb dX6_tellSpot_1 ic_m1 ?_
  refine lv_icmp_ne hx hb dX6_tellSpot_2 rfl (fun hc => ?_) (fun hc => ?_)
  · have hf := rx_f hc hf
    refine lv_iload_n hx hb dX6_tellSpot_8 rfl (lv_at hl 1 rfl) ?_
    by_cases hs0 : w1 = 0
    · have hf := rx_t hs0 hf
      refine lv_tableIn hx hb dX6_tellSpot_9 (by rw [hs0]; decide) (by rw [hs0]; decide) (by rw [hs0]; rfl) rfl ?_
      refine lv_iload_n hx hb dX6_tellSpot_36 rfl (lv_at hl 0 rfl) ?_
      refine lv_iconst (v := 4) hx hb dX6_tellSpot_37 ic_4 ?_
      refine lv_idiv hx hb dX6_tellSpot_38 nz_4 ?_
      refine lv_bipush (v := 21) hx hb dX6_tellSpot_39 ib_21 ?_
      refine lv_irem hx hb dX6_tellSpot_41 nz_21 ?_
      refine lv_bipush (v := 10) hx hb dX6_tellSpot_42 ib_10 ?_
      refine lv_isub hx hb dX6_tellSpot_44 ?_
      exact rx_reti hret hw hf dX6_tellSpot_45
    · have hf := rx_f hs0 hf
      by_cases hs1 : w1 = 1
      · have hf := rx_t hs1 hf
        refine lv_tableIn hx hb dX6_tellSpot_9 (by rw [hs1]; decide) (by rw [hs1]; decide) (by rw [hs1]; rfl) rfl ?_
        refine lv_iload_n hx hb dX6_tellSpot_46 rfl (lv_at hl 0 rfl) ?_
        refine lv_iconst (v := 4) hx hb dX6_tellSpot_47 ic_4 ?_
        refine lv_idiv hx hb dX6_tellSpot_48 nz_4 ?_
        refine lv_bipush (v := 21) hx hb dX6_tellSpot_49 ib_21 ?_
        refine lv_idiv hx hb dX6_tellSpot_51 nz_21 ?_
        refine lv_bipush (v := 10) hx hb dX6_tellSpot_52 ib_10 ?_
        refine lv_isub hx hb dX6_tellSpot_54 ?_
        exact rx_reti hret hw hf dX6_tellSpot_55
      · have hf := rx_f hs1 hf
        by_cases hs2 : w1 = 2
        · have hf := rx_t hs2 hf
          refine lv_tableIn hx hb dX6_tellSpot_9 (by rw [hs2]; decide) (by rw [hs2]; decide) (by rw [hs2]; rfl) rfl ?_
          refine lv_iload_n hx hb dX6_tellSpot_56 rfl (lv_at hl 0 rfl) ?_
          refine lv_iconst (v := 4) hx hb dX6_tellSpot_57 ic_4 ?_
          refine lv_irem hx hb dX6_tellSpot_58 nz_4 ?_
          exact rx_reti hret hw hf dX6_tellSpot_59
        · have hf := rx_f hs2 hf
          refine lv_tableOut hx hb dX6_tellSpot_9 (by have := lv_neT hs0 it_0; have := lv_neT hs1 it_1; have := lv_neT hs2 it_2; omega) rfl ?_
          refine lv_bipush (v := (-100)) hx hb dX6_tellSpot_60 ib_m100 ?_
          exact rx_reti hret hw hf dX6_tellSpot_62
  · have hf := rx_t hc hf
    refine lv_bipush (v := (-100)) hx hb dX6_tellSpot_5 ib_m100 ?_
    exact rx_reti hret hw hf dX6_tellSpot_7
end
set_option maxRecDepth 100000 in
theorem qc_X6_tellSpot (l : Launch) (D : va_G) (ad : Nat → Nat) (cI cL : ClassId) (b1 b2 : Nat) (w0 : Int32) (w1 : Int32) : rx_MI l yX6_tellSpot wX6_tellSpot rm_X6_tellSpot D vwCl (wX ad cI cL) (tX cI cL) (zX b1 b2) wN [.int w0, .int w1] (fun M => qf_X6_tellSpot w0 w1 M) :=
  rx_ofI (by decide) rfl wN_ok (Nat.le_of_ble_eq_true rfl) (fun _ _ _ _ _ _ _ _ _ _ _ _ _ cx hret hw hl hf => qk_X6_tellSpot_0 cx hret hw hl hf)
def rm_X6_fits : Room := { frames := 3, cells := 0, slots := 0, locals := 75 }
noncomputable def qf_X6_fits  (w1 : Int32) (w2 : Int32)  (M : Me) : Op :=
  if w1 < 0 then (some ((-100), M)) else (if 1764 ≤ w1 then (some ((-100), M)) else (rx_vv (M 4 6) fun v1 => if v1 = (-1) then (some ((-100), M)) else (rx_vv (M 4 6) fun v2 => rx_cl (qf_X5_fitNumber v2 w1 M) fun r3 M4 => rx_cl (qf_X6_tellSpot r3 w2 M4) fun r5 M6 => some (r5, M6))))
section
variable {p : Program} {l : Launch} {e : Env} {s : State} {m : MethodId} {args : Array Value} {below : List Frame} {meth : Method} {c : Code} {Q : State → Prop} {D : va_G} {A : Nat → Prop} {o : Int32 × Me} {ad : Nat → Nat} {cI cL : ClassId} {b1 b2 : Nat}
set_option maxRecDepth 100000 in
set_option maxHeartbeats 4000000 in
theorem qk_X6_fits_0 (cx : rx_C p m c cX6_fits 3 s args wX6_fits RX6 D vwCl (tX cI cL) (zX b1 b2) wN A) (hret : rx_RI p l e rm_X6_fits s m args below meth c cX6_fits D vwCl (wX ad cI cL) A Q o) {w1 : Int32} {w2 : Int32} {ls : Array Slot} {H : Heap} {locs : List Loc} {M : Me} (hw : rx_W D vwCl (wX ad cI cL) A s.heap M H locs) (hl : lv_has ls 3 [(0, .ref ((ad 0))), (1, .int w1), (2, .int w2)]) (hf : qf_X6_fits w1 w2 M = some o) : W p l e rm_X6_fits s m args below meth c H locs 0 0 Q (F0 m 0 ls []) := by
  have hx := cx.1.1
  have hb := cx.1.2.1
  refine lv_iload_n hx hb dX6_fits_0 rfl (lv_at hl 1 rfl) ?_
  refine lv_if_lt hx hb dX6_fits_1 rfl (fun hc => ?_) (fun hc => ?_)
  · have hf := rx_t hc hf
    refine lv_bipush (v := (-100)) hx hb dX6_fits_22 ib_m100 ?_
    exact rx_reti hret hw hf dX6_fits_24
  · have hf := rx_f hc hf
    refine lv_iload_n hx hb dX6_fits_4 rfl (lv_at hl 1 rfl) ?_
    refine lv_sipush (v := 1764) hx hb dX6_fits_5 is_1764 ?_
    refine lv_icmp_ge hx hb dX6_fits_8 rfl (fun hc => ?_) (fun hc => ?_)
    · have hf := rx_t hc hf
      refine lv_bipush (v := (-100)) hx hb dX6_fits_22 ib_m100 ?_
      exact rx_reti hret hw hf dX6_fits_24
    · have hf := rx_f hc hf
      refine lv_aload_n hx hb dX6_fits_11 rfl (lv_at hl 0 rfl) ?_
      refine rx_getr cx hw (frX_0_2 ad cI cL) rfl (inT_X6) (Nat.le_of_ble_eq_true rfl) (.tail _ tw_306) dX6_fits_12 ?_
      obtain ⟨v1, ev1, hf⟩ := rx_vvI hf
      refine rx_getiN cx hw (fiX_4_6 ad cI cL) rfl (inT_X2) (Nat.le_of_ble_eq_true rfl) tn_194 ev1 dX6_fits_15 ?_
      refine lv_iconst (v := (-1)) hx hb dX6_fits_18 ic_m1 ?_
      refine lv_icmp_ne hx hb dX6_fits_19 rfl (fun hc => ?_) (fun hc => ?_)
      · have hf := rx_f hc hf
        refine lv_aload_n hx hb dX6_fits_25 rfl (lv_at hl 0 rfl) ?_
        refine rx_getr cx hw (frX_0_1 ad cI cL) rfl (inT_X6) (Nat.le_of_ble_eq_true rfl) (.tail _ tw_305) dX6_fits_26 ?_
        refine lv_aload_n hx hb dX6_fits_29 rfl (lv_at hl 0 rfl) ?_
        refine rx_getr cx hw (frX_0_2 ad cI cL) rfl (inT_X6) (Nat.le_of_ble_eq_true rfl) (.tail _ tw_306) dX6_fits_30 ?_
        obtain ⟨v2, ev2, hf⟩ := rx_vvI hf
        refine rx_getiN cx hw (fiX_4_6 ad cI cL) rfl (inT_X2) (Nat.le_of_ble_eq_true rfl) tn_194 ev2 dX6_fits_33 ?_
        refine lv_iload_n hx hb dX6_fits_36 rfl (lv_at hl 1 rfl) ?_
        obtain ⟨r3, M4, er3, hf⟩ := rx_clI hf
        refine rx_jVi cx hw (qc_X5_fitNumber l D ad cI cL b1 b2 v2 w1) (obX_2 ad cI cL) rfl rfl kfX5_fitNumber tw_458 ⟨Nat.le_of_ble_eq_true rfl, Nat.le_of_ble_eq_true rfl, rfl, rfl⟩ rfl hl.1 (Nat.le_of_ble_eq_true rfl) ⟨Nat.zero_le _, Nat.zero_le _⟩ dX6_fits_37 rfl er3 (fun H locs hw => ?_)
        refine lv_iload_n hx hb dX6_fits_40 rfl (lv_at hl 2 rfl) ?_
        obtain ⟨r5, M6, er5, hf⟩ := rx_clI hf
        refine rx_jSi cx hw (qc_X6_tellSpot l D ad cI cL b1 b2 r3 w2) kfX6_tellSpot tw_463 ⟨Nat.le_of_ble_eq_true rfl, Nat.le_of_ble_eq_true rfl, rfl, rfl⟩ rfl hl.1 (Nat.le_of_ble_eq_true rfl) ⟨Nat.zero_le _, Nat.zero_le _⟩ dX6_fits_41 rfl er5 (fun H locs hw => ?_)
        exact rx_reti hret hw hf dX6_fits_44
      · have hf := rx_t hc hf
        refine lv_bipush (v := (-100)) hx hb dX6_fits_22 ib_m100 ?_
        exact rx_reti hret hw hf dX6_fits_24
end
set_option maxRecDepth 100000 in
theorem qc_X6_fits (l : Launch) (D : va_G) (ad : Nat → Nat) (cI cL : ClassId) (b1 b2 : Nat) (w1 : Int32) (w2 : Int32) : rx_MI l yX6_fits wX6_fits rm_X6_fits D vwCl (wX ad cI cL) (tX cI cL) (zX b1 b2) wN [.ref (ad 0), .int w1, .int w2] (fun M => qf_X6_fits w1 w2 M) :=
  rx_ofI (by decide) rfl wN_ok (Nat.le_of_ble_eq_true rfl) (fun _ _ _ _ _ _ _ _ _ _ _ _ _ cx hret hw hl hf => qk_X6_fits_0 cx hret hw hl hf)
def rm_X6_isPlace : Room := { frames := 0, cells := 0, slots := 0, locals := 0 }
noncomputable def qf_X6_isPlace  (w0 : Int32) (w1 : Int32)  (M : Me) : Op :=
  if w0 < (-9) then (rx_zb 0 (some (0, M))) else (if 9 < w0 then (rx_zb 0 (some (0, M))) else (if w1 < (-9) then (rx_zb 0 (some (0, M))) else (if 9 < w1 then (rx_zb 0 (some (0, M))) else (rx_zb 1 (some (1, M))))))
section
variable {p : Program} {l : Launch} {e : Env} {s : State} {m : MethodId} {args : Array Value} {below : List Frame} {meth : Method} {c : Code} {Q : State → Prop} {D : va_G} {A : Nat → Prop} {o : Int32 × Me} {ad : Nat → Nat} {cI cL : ClassId} {b1 b2 : Nat}
set_option maxRecDepth 100000 in
set_option maxHeartbeats 4000000 in
theorem qk_X6_isPlace_0 (cx : rx_C p m c cX6_isPlace 2 s args wX6_isPlace RX6 D vwCl (tX cI cL) (zX b1 b2) wN A) (hret : rx_RZ p l e rm_X6_isPlace s m args below meth c cX6_isPlace D vwCl (wX ad cI cL) A Q o) {w0 : Int32} {w1 : Int32} {ls : Array Slot} {H : Heap} {locs : List Loc} {M : Me} (hw : rx_W D vwCl (wX ad cI cL) A s.heap M H locs) (hl : lv_has ls 2 [(0, .int w0), (1, .int w1)]) (hf : qf_X6_isPlace w0 w1 M = some o) : W p l e rm_X6_isPlace s m args below meth c H locs 0 0 Q (F0 m 0 ls []) := by
  have hx := cx.1.1
  have hb := cx.1.2.1
  refine lv_iload_n hx hb dX6_isPlace_0 rfl (lv_at hl 0 rfl) ?_
  refine lv_bipush (v := (-9)) hx hb dX6_isPlace_1 ib_m9 ?_
  refine lv_icmp_lt hx hb dX6_isPlace_3 rfl (fun hc => ?_) (fun hc => ?_)
  · have hf := rx_t hc hf
    refine lv_iconst (v := 0) hx hb dX6_isPlace_28 ic_0 ?_
    exact rx_retz hret hw hf dX6_isPlace_29
  · have hf := rx_f hc hf
    refine lv_iload_n hx hb dX6_isPlace_6 rfl (lv_at hl 0 rfl) ?_
    refine lv_bipush (v := 9) hx hb dX6_isPlace_7 ib_9 ?_
    refine lv_icmp_gt hx hb dX6_isPlace_9 rfl (fun hc => ?_) (fun hc => ?_)
    · have hf := rx_t hc hf
      refine lv_iconst (v := 0) hx hb dX6_isPlace_28 ic_0 ?_
      exact rx_retz hret hw hf dX6_isPlace_29
    · have hf := rx_f hc hf
      refine lv_iload_n hx hb dX6_isPlace_12 rfl (lv_at hl 1 rfl) ?_
      refine lv_bipush (v := (-9)) hx hb dX6_isPlace_13 ib_m9 ?_
      refine lv_icmp_lt hx hb dX6_isPlace_15 rfl (fun hc => ?_) (fun hc => ?_)
      · have hf := rx_t hc hf
        refine lv_iconst (v := 0) hx hb dX6_isPlace_28 ic_0 ?_
        exact rx_retz hret hw hf dX6_isPlace_29
      · have hf := rx_f hc hf
        refine lv_iload_n hx hb dX6_isPlace_18 rfl (lv_at hl 1 rfl) ?_
        refine lv_bipush (v := 9) hx hb dX6_isPlace_19 ib_9 ?_
        refine lv_icmp_gt hx hb dX6_isPlace_21 rfl (fun hc => ?_) (fun hc => ?_)
        · have hf := rx_t hc hf
          refine lv_iconst (v := 0) hx hb dX6_isPlace_28 ic_0 ?_
          exact rx_retz hret hw hf dX6_isPlace_29
        · have hf := rx_f hc hf
          refine lv_iconst (v := 1) hx hb dX6_isPlace_24 ic_1 ?_
          refine lv_goto hx hb dX6_isPlace_25 rfl ?_
          exact rx_retz hret hw hf dX6_isPlace_29
end
set_option maxRecDepth 100000 in
theorem qc_X6_isPlace (l : Launch) (D : va_G) (ad : Nat → Nat) (cI cL : ClassId) (b1 b2 : Nat) (w0 : Int32) (w1 : Int32) : rx_MI l yX6_isPlace wX6_isPlace rm_X6_isPlace D vwCl (wX ad cI cL) (tX cI cL) (zX b1 b2) wN [.int w0, .int w1] (fun M => qf_X6_isPlace w0 w1 M) :=
  rx_ofZ (by decide) rfl wN_ok (Nat.le_of_ble_eq_true rfl) (fun _ _ _ _ _ _ _ _ _ _ _ _ _ cx hret hw hl hf => qk_X6_isPlace_0 cx hret hw hl hf)
def rm_X6_cellAt : Room := { frames := 0, cells := 0, slots := 0, locals := 0 }
noncomputable def qf_X6_cellAt  (w0 : Int32) (w1 : Int32)  (M : Me) : Op :=
  some ((((w1 + 10) * 21) + w0) + 10, M)
section
variable {p : Program} {l : Launch} {e : Env} {s : State} {m : MethodId} {args : Array Value} {below : List Frame} {meth : Method} {c : Code} {Q : State → Prop} {D : va_G} {A : Nat → Prop} {o : Int32 × Me} {ad : Nat → Nat} {cI cL : ClassId} {b1 b2 : Nat}
set_option maxRecDepth 100000 in
set_option maxHeartbeats 4000000 in
theorem qk_X6_cellAt_0 (cx : rx_C p m c cX6_cellAt 2 s args wX6_cellAt RX6 D vwCl (tX cI cL) (zX b1 b2) wN A) (hret : rx_RI p l e rm_X6_cellAt s m args below meth c cX6_cellAt D vwCl (wX ad cI cL) A Q o) {w0 : Int32} {w1 : Int32} {ls : Array Slot} {H : Heap} {locs : List Loc} {M : Me} (hw : rx_W D vwCl (wX ad cI cL) A s.heap M H locs) (hl : lv_has ls 2 [(0, .int w0), (1, .int w1)]) (hf : qf_X6_cellAt w0 w1 M = some o) : W p l e rm_X6_cellAt s m args below meth c H locs 0 0 Q (F0 m 0 ls []) := by
  have hx := cx.1.1
  have hb := cx.1.2.1
  refine lv_iload_n hx hb dX6_cellAt_0 rfl (lv_at hl 1 rfl) ?_
  refine lv_bipush (v := 10) hx hb dX6_cellAt_1 ib_10 ?_
  refine lv_iadd hx hb dX6_cellAt_3 ?_
  refine lv_bipush (v := 21) hx hb dX6_cellAt_4 ib_21 ?_
  refine lv_imul hx hb dX6_cellAt_6 ?_
  refine lv_iload_n hx hb dX6_cellAt_7 rfl (lv_at hl 0 rfl) ?_
  refine lv_iadd hx hb dX6_cellAt_8 ?_
  refine lv_bipush (v := 10) hx hb dX6_cellAt_9 ib_10 ?_
  refine lv_iadd hx hb dX6_cellAt_11 ?_
  exact rx_reti hret hw hf dX6_cellAt_12
end
set_option maxRecDepth 100000 in
theorem qc_X6_cellAt (l : Launch) (D : va_G) (ad : Nat → Nat) (cI cL : ClassId) (b1 b2 : Nat) (w0 : Int32) (w1 : Int32) : rx_MI l yX6_cellAt wX6_cellAt rm_X6_cellAt D vwCl (wX ad cI cL) (tX cI cL) (zX b1 b2) wN [.int w0, .int w1] (fun M => qf_X6_cellAt w0 w1 M) :=
  rx_ofI (by decide) rfl wN_ok (Nat.le_of_ble_eq_true rfl) (fun _ _ _ _ _ _ _ _ _ _ _ _ _ cx hret hw hl hf => qk_X6_cellAt_0 cx hret hw hl hf)
def rm_X3_found : Room := { frames := 0, cells := 0, slots := 0, locals := 0 }
noncomputable def qf_X3_found  (w1 : Int32) (w2 : Int32) (w3 : Int32)  (M : Me) : Op :=
  rx_sv M 25 192 w1 w1 fun M1 => rx_sv M1 26 192 w1 (1 <<< ((w1 / 8) &&& 31)) fun M2 => rx_sv M2 27 192 w1 w2 fun M3 => rx_sv M3 28 192 w1 w3 fun M4 => rx_sv M4 29 192 w1 0 fun M5 => some (0, M5)
section
variable {p : Program} {l : Launch} {e : Env} {s : State} {m : MethodId} {args : Array Value} {below : List Frame} {meth : Method} {c : Code} {Q : State → Prop} {D : va_G} {A : Nat → Prop} {o : Int32 × Me} {ad : Nat → Nat} {cI cL : ClassId} {b1 b2 : Nat}
set_option maxRecDepth 100000 in
set_option maxHeartbeats 4000000 in
theorem qk_X3_found_0 (cx : rx_C p m c cX3_found 4 s args wX3_found RX3 D vwCl (tX cI cL) (zX b1 b2) wN A) (hret : rx_RV p l e rm_X3_found s m args below meth c cX3_found D vwCl (wX ad cI cL) A Q o) {w1 : Int32} {w2 : Int32} {w3 : Int32} {ls : Array Slot} {H : Heap} {locs : List Loc} {M : Me} (hw : rx_W D vwCl (wX ad cI cL) A s.heap M H locs) (hl : lv_has ls 4 [(0, .ref ((ad 3))), (1, .int w1), (2, .int w2), (3, .int w3)]) (hf : qf_X3_found w1 w2 w3 M = some o) : W p l e rm_X3_found s m args below meth c H locs 0 0 Q (F0 m 0 ls []) := by
  have hx := cx.1.1
  have hb := cx.1.2.1
  refine lv_aload_n hx hb dX3_found_0 rfl (lv_at hl 0 rfl) ?_
  refine rx_getr cx hw (frX_3_0 ad cI cL) rfl (inT_X3) (Nat.le_of_ble_eq_true rfl) (.tail _ tw_82) dX3_found_1 ?_
  refine lv_iload_n hx hb dX3_found_4 rfl (lv_at hl 1 rfl) ?_
  refine lv_iload_n hx hb dX3_found_5 rfl (lv_at hl 1 rfl) ?_
  obtain ⟨hM1, M1, eM1, hf⟩ := rx_svI hf
  refine rx_iast cx hw (arX_25 ad cI cL) ⟨hM1, eM1⟩ dX3_found_6 (fun H locs hw => ?_)
  refine lv_aload_n hx hb dX3_found_7 rfl (lv_at hl 0 rfl) ?_
  refine rx_getr cx hw (frX_3_1 ad cI cL) rfl (inT_X3) (Nat.le_of_ble_eq_true rfl) (.tail _ tw_85) dX3_found_8 ?_
  refine lv_iload_n hx hb dX3_found_11 rfl (lv_at hl 1 rfl) ?_
  refine lv_iconst (v := 1) hx hb dX3_found_12 ic_1 ?_
  refine lv_iload_n hx hb dX3_found_13 rfl (lv_at hl 1 rfl) ?_
  refine lv_bipush (v := 8) hx hb dX3_found_14 ib_8 ?_
  refine lv_idiv hx hb dX3_found_16 nz_8 ?_
  refine lv_ishl hx hb dX3_found_17 ?_
  obtain ⟨hM2, M2, eM2, hf⟩ := rx_svI hf
  refine rx_iast cx hw (arX_26 ad cI cL) ⟨hM2, eM2⟩ dX3_found_18 (fun H locs hw => ?_)
  refine lv_aload_n hx hb dX3_found_19 rfl (lv_at hl 0 rfl) ?_
  refine rx_getr cx hw (frX_3_2 ad cI cL) rfl (inT_X3) (Nat.le_of_ble_eq_true rfl) (.tail _ tw_88) dX3_found_20 ?_
  refine lv_iload_n hx hb dX3_found_23 rfl (lv_at hl 1 rfl) ?_
  refine lv_iload_n hx hb dX3_found_24 rfl (lv_at hl 2 rfl) ?_
  obtain ⟨hM3, M3, eM3, hf⟩ := rx_svI hf
  refine rx_iast cx hw (arX_27 ad cI cL) ⟨hM3, eM3⟩ dX3_found_25 (fun H locs hw => ?_)
  refine lv_aload_n hx hb dX3_found_26 rfl (lv_at hl 0 rfl) ?_
  refine rx_getr cx hw (frX_3_3 ad cI cL) rfl (inT_X3) (Nat.le_of_ble_eq_true rfl) (.tail _ tw_91) dX3_found_27 ?_
  refine lv_iload_n hx hb dX3_found_30 rfl (lv_at hl 1 rfl) ?_
  refine lv_iload_n hx hb dX3_found_31 rfl (lv_at hl 3 rfl) ?_
  obtain ⟨hM4, M4, eM4, hf⟩ := rx_svI hf
  refine rx_iast cx hw (arX_28 ad cI cL) ⟨hM4, eM4⟩ dX3_found_32 (fun H locs hw => ?_)
  refine lv_aload_n hx hb dX3_found_33 rfl (lv_at hl 0 rfl) ?_
  refine rx_getr cx hw (frX_3_4 ad cI cL) rfl (inT_X3) (Nat.le_of_ble_eq_true rfl) (.tail _ tw_94) dX3_found_34 ?_
  refine lv_iload_n hx hb dX3_found_37 rfl (lv_at hl 1 rfl) ?_
  refine lv_iconst (v := 0) hx hb dX3_found_38 ic_0 ?_
  obtain ⟨hM5, M5, eM5, hf⟩ := rx_svI hf
  refine rx_iast cx hw (arX_29 ad cI cL) ⟨hM5, eM5⟩ dX3_found_39 (fun H locs hw => ?_)
  exact rx_retv hret hw hf dX3_found_40
end
set_option maxRecDepth 100000 in
theorem qc_X3_found (l : Launch) (D : va_G) (ad : Nat → Nat) (cI cL : ClassId) (b1 b2 : Nat) (w1 : Int32) (w2 : Int32) (w3 : Int32) : rx_MV l yX3_found wX3_found rm_X3_found D vwCl (wX ad cI cL) (tX cI cL) (zX b1 b2) wN [.ref (ad 3), .int w1, .int w2, .int w3] (fun M => qf_X3_found w1 w2 w3 M) :=
  rx_ofV (by decide) rfl wN_ok (Nat.le_of_ble_eq_true rfl) (fun _ _ _ _ _ _ _ _ _ _ _ _ _ cx hret hw hl hf => qk_X3_found_0 cx hret hw hl hf)
def rm_X3_join : Room := { frames := 1, cells := 0, slots := 0, locals := 21 }
noncomputable def qf_X3_join  (w1 : Int32) (w2 : Int32)  (M : Me) : Op :=
  if w1 = w2 then (some (0, M)) else (rx_vv ((if w2 < w1 then w2 else w1)) fun v1 => rx_vv ((if w1 < w2 then w2 else w1)) fun v2 => rx_vv (M 3 7) fun v3 => rx_sv M 30 192 v3 v2 fun M4 => rx_vv (M4 3 7) fun v5 => rx_ld M4 26 192 v1 fun v6 => rx_sv M4 31 192 v5 v6 fun M7 => rx_vv (M7 3 7) fun v8 => rx_vv (rx_st M7 3 7 (v8 + 1)) fun M9 => rx_sv M9 25 192 v2 v1 fun M10 => rx_ld M10 26 192 v1 fun v11 => rx_ld M10 26 192 v2 fun v12 => rx_sv M10 26 192 v1 (v11 ||| v12) fun M13 => rx_ld M13 27 192 v1 fun v14 => rx_ld M13 27 192 v2 fun v15 => rx_sv M13 27 192 v1 (v14 + v15) fun M16 => rx_ld M16 28 192 v1 fun v17 => rx_ld M16 28 192 v2 fun v18 => rx_sv M16 28 192 v1 (v17 + v18) fun M19 => rx_ld M19 29 192 v1 fun v20 => rx_ld M19 29 192 v2 fun v21 => rx_sv M19 29 192 v1 (v20 + v21) fun M22 => some (0, M22))
section
variable {p : Program} {l : Launch} {e : Env} {s : State} {m : MethodId} {args : Array Value} {below : List Frame} {meth : Method} {c : Code} {Q : State → Prop} {D : va_G} {A : Nat → Prop} {o : Int32 × Me} {ad : Nat → Nat} {cI cL : ClassId} {b1 b2 : Nat}
set_option maxRecDepth 100000 in
set_option maxHeartbeats 4000000 in
theorem qk_X3_join_0 (cx : rx_C p m c cX3_join 5 s args wX3_join RX3 D vwCl (tX cI cL) (zX b1 b2) wN A) (hret : rx_RV p l e rm_X3_join s m args below meth c cX3_join D vwCl (wX ad cI cL) A Q o) {w1 : Int32} {w2 : Int32} {ls : Array Slot} {H : Heap} {locs : List Loc} {M : Me} (hw : rx_W D vwCl (wX ad cI cL) A s.heap M H locs) (hl : lv_has ls 5 [(0, .ref ((ad 3))), (1, .int w1), (2, .int w2)]) (hf : qf_X3_join w1 w2 M = some o) : W p l e rm_X3_join s m args below meth c H locs 0 0 Q (F0 m 0 ls []) := by
  have hx := cx.1.1
  have hb := cx.1.2.1
  refine lv_iload_n hx hb dX3_join_0 rfl (lv_at hl 1 rfl) ?_
  refine lv_iload_n hx hb dX3_join_1 rfl (lv_at hl 2 rfl) ?_
  refine lv_icmp_ne hx hb dX3_join_2 rfl (fun hc => ?_) (fun hc => ?_)
  · have hf := rx_f hc hf
    refine lv_iload_n hx hb dX3_join_6 rfl (lv_at hl 1 rfl) ?_
    refine lv_iload_n hx hb dX3_join_7 rfl (lv_at hl 2 rfl) ?_
    refine rx_min cx (.tail _ tw_497) (.tail _ tw_498) (.tail _ tw_10) (.tail _ tw_499) hl.1 ⟨Nat.le_of_ble_eq_true rfl, Nat.le_of_ble_eq_true rfl, Nat.zero_le _, Nat.zero_le _⟩ dX3_join_8 ?_
    obtain ⟨v1, ev1, hf⟩ := rx_vvI hf
    refine rx_top ev1 ?_
    refine lv_istore_n (lv' := [(3, .int v1), (0, .ref ((ad 3))), (1, .int w1), (2, .int w2)]) hx hb dX3_join_11 rfl hl (Nat.le_of_ble_eq_true rfl) rfl (fun ls hl => ?_)
    refine lv_iload_n hx hb dX3_join_12 rfl (lv_at hl 2 rfl) ?_
    refine lv_iload_n hx hb dX3_join_13 rfl (lv_at hl 3 rfl) ?_
    refine rx_max cx (.tail _ tw_500) (.tail _ tw_501) (.tail _ tw_10) (.tail _ tw_502) hl.1 ⟨Nat.le_of_ble_eq_true rfl, Nat.le_of_ble_eq_true rfl, Nat.zero_le _, Nat.zero_le _⟩ dX3_join_14 ?_
    obtain ⟨v2, ev2, hf⟩ := rx_vvI hf
    refine rx_top ev2 ?_
    refine lv_istore (lv' := [(4, .int v2), (3, .int v1), (0, .ref ((ad 3))), (1, .int w1), (2, .int w2)]) hx hb dX3_join_17 hl (Nat.le_of_ble_eq_true rfl) rfl (fun ls hl => ?_)
    refine lv_aload_n hx hb dX3_join_19 rfl (lv_at hl 2 rfl) ?_
    refine rx_getr cx hw (frX_3_5 ad cI cL) rfl (inT_X3) (Nat.le_of_ble_eq_true rfl) (.tail _ tw_97) dX3_join_20 ?_
    refine lv_aload_n hx hb dX3_join_23 rfl (lv_at hl 2 rfl) ?_
    obtain ⟨v3, ev3, hf⟩ := rx_vvI hf
    refine rx_geti cx hw (fiX_3_7 ad cI cL) rfl (inT_X3) (Nat.le_of_ble_eq_true rfl) (.tail _ tw_99) ev3 dX3_join_24 ?_
    refine lv_iload hx hb dX3_join_27 (lv_at hl 0 rfl) ?_
    obtain ⟨hM4, M4, eM4, hf⟩ := rx_svI hf
    refine rx_iast cx hw (arX_30 ad cI cL) ⟨hM4, eM4⟩ dX3_join_29 (fun H locs hw => ?_)
    refine lv_aload_n hx hb dX3_join_30 rfl (lv_at hl 2 rfl) ?_
    refine rx_getr cx hw (frX_3_6 ad cI cL) rfl (inT_X3) (Nat.le_of_ble_eq_true rfl) (.tail _ tw_98) dX3_join_31 ?_
    refine lv_aload_n hx hb dX3_join_34 rfl (lv_at hl 2 rfl) ?_
    obtain ⟨v5, ev5, hf⟩ := rx_vvI hf
    refine rx_geti cx hw (fiX_3_7 ad cI cL) rfl (inT_X3) (Nat.le_of_ble_eq_true rfl) (.tail _ tw_99) ev5 dX3_join_35 ?_
    refine lv_aload_n hx hb dX3_join_38 rfl (lv_at hl 2 rfl) ?_
    refine rx_getr cx hw (frX_3_1 ad cI cL) rfl (inT_X3) (Nat.le_of_ble_eq_true rfl) (.tail _ tw_85) dX3_join_39 ?_
    refine lv_iload_n hx hb dX3_join_42 rfl (lv_at hl 1 rfl) ?_
    obtain ⟨hv6, v6, ev6, hf⟩ := rx_ldI hf
    refine rx_iald cx hw (arX_26 ad cI cL) ⟨hv6, ev6⟩ dX3_join_43 ?_
    obtain ⟨hM7, M7, eM7, hf⟩ := rx_svI hf
    refine rx_iast cx hw (arX_31 ad cI cL) ⟨hM7, eM7⟩ dX3_join_44 (fun H locs hw => ?_)
    refine lv_aload_n hx hb dX3_join_45 rfl (lv_at hl 2 rfl) ?_
    refine lv_dup hx hb dX3_join_46 rfl ?_
    obtain ⟨v8, ev8, hf⟩ := rx_vvI hf
    refine rx_geti cx hw (fiX_3_7 ad cI cL) rfl (inT_X3) (Nat.le_of_ble_eq_true rfl) (.tail _ tw_99) ev8 dX3_join_47 ?_
    refine lv_iconst (v := 1) hx hb dX3_join_50 ic_1 ?_
    refine lv_iadd hx hb dX3_join_51 ?_
    obtain ⟨M9, eM9, hf⟩ := rx_vvI hf
    refine rx_puti cx hw (fiX_3_7 ad cI cL) rfl (inT_X3) tyX3 tyX3_ok nmX3 (Nat.le_of_ble_eq_true rfl) (.tail _ tw_99) rfl rfl rfl eM9 dX3_join_52 (fun H locs hw => ?_)
    refine lv_aload_n hx hb dX3_join_55 rfl (lv_at hl 2 rfl) ?_
    refine rx_getr cx hw (frX_3_0 ad cI cL) rfl (inT_X3) (Nat.le_of_ble_eq_true rfl) (.tail _ tw_82) dX3_join_56 ?_
    refine lv_iload hx hb dX3_join_59 (lv_at hl 0 rfl) ?_
    refine lv_iload_n hx hb dX3_join_61 rfl (lv_at hl 1 rfl) ?_
    obtain ⟨hM10, M10, eM10, hf⟩ := rx_svI hf
    refine rx_iast cx hw (arX_25 ad cI cL) ⟨hM10, eM10⟩ dX3_join_62 (fun H locs hw => ?_)
    refine lv_aload_n hx hb dX3_join_63 rfl (lv_at hl 2 rfl) ?_
    refine rx_getr cx hw (frX_3_1 ad cI cL) rfl (inT_X3) (Nat.le_of_ble_eq_true rfl) (.tail _ tw_85) dX3_join_64 ?_
    refine lv_iload_n hx hb dX3_join_67 rfl (lv_at hl 1 rfl) ?_
    refine lv_dup2_11 hx hb dX3_join_68 rfl rfl ?_
    obtain ⟨hv11, v11, ev11, hf⟩ := rx_ldI hf
    refine rx_iald cx hw (arX_26 ad cI cL) ⟨hv11, ev11⟩ dX3_join_69 ?_
    refine lv_aload_n hx hb dX3_join_70 rfl (lv_at hl 2 rfl) ?_
    refine rx_getr cx hw (frX_3_1 ad cI cL) rfl (inT_X3) (Nat.le_of_ble_eq_true rfl) (.tail _ tw_85) dX3_join_71 ?_
    refine lv_iload hx hb dX3_join_74 (lv_at hl 0 rfl) ?_
    obtain ⟨hv12, v12, ev12, hf⟩ := rx_ldI hf
    refine rx_iald cx hw (arX_26 ad cI cL) ⟨hv12, ev12⟩ dX3_join_76 ?_
    refine lv_ior hx hb dX3_join_77 ?_
    obtain ⟨hM13, M13, eM13, hf⟩ := rx_svI hf
    refine rx_iast cx hw (arX_26 ad cI cL) ⟨hM13, eM13⟩ dX3_join_78 (fun H locs hw => ?_)
    refine lv_aload_n hx hb dX3_join_79 rfl (lv_at hl 2 rfl) ?_
    refine rx_getr cx hw (frX_3_2 ad cI cL) rfl (inT_X3) (Nat.le_of_ble_eq_true rfl) (.tail _ tw_88) dX3_join_80 ?_
    refine lv_iload_n hx hb dX3_join_83 rfl (lv_at hl 1 rfl) ?_
    refine lv_dup2_11 hx hb dX3_join_84 rfl rfl ?_
    obtain ⟨hv14, v14, ev14, hf⟩ := rx_ldI hf
    refine rx_iald cx hw (arX_27 ad cI cL) ⟨hv14, ev14⟩ dX3_join_85 ?_
    refine lv_aload_n hx hb dX3_join_86 rfl (lv_at hl 2 rfl) ?_
    refine rx_getr cx hw (frX_3_2 ad cI cL) rfl (inT_X3) (Nat.le_of_ble_eq_true rfl) (.tail _ tw_88) dX3_join_87 ?_
    refine lv_iload hx hb dX3_join_90 (lv_at hl 0 rfl) ?_
    obtain ⟨hv15, v15, ev15, hf⟩ := rx_ldI hf
    refine rx_iald cx hw (arX_27 ad cI cL) ⟨hv15, ev15⟩ dX3_join_92 ?_
    refine lv_iadd hx hb dX3_join_93 ?_
    obtain ⟨hM16, M16, eM16, hf⟩ := rx_svI hf
    refine rx_iast cx hw (arX_27 ad cI cL) ⟨hM16, eM16⟩ dX3_join_94 (fun H locs hw => ?_)
    refine lv_aload_n hx hb dX3_join_95 rfl (lv_at hl 2 rfl) ?_
    refine rx_getr cx hw (frX_3_3 ad cI cL) rfl (inT_X3) (Nat.le_of_ble_eq_true rfl) (.tail _ tw_91) dX3_join_96 ?_
    refine lv_iload_n hx hb dX3_join_99 rfl (lv_at hl 1 rfl) ?_
    refine lv_dup2_11 hx hb dX3_join_100 rfl rfl ?_
    obtain ⟨hv17, v17, ev17, hf⟩ := rx_ldI hf
    refine rx_iald cx hw (arX_28 ad cI cL) ⟨hv17, ev17⟩ dX3_join_101 ?_
    refine lv_aload_n hx hb dX3_join_102 rfl (lv_at hl 2 rfl) ?_
    refine rx_getr cx hw (frX_3_3 ad cI cL) rfl (inT_X3) (Nat.le_of_ble_eq_true rfl) (.tail _ tw_91) dX3_join_103 ?_
    refine lv_iload hx hb dX3_join_106 (lv_at hl 0 rfl) ?_
    obtain ⟨hv18, v18, ev18, hf⟩ := rx_ldI hf
    refine rx_iald cx hw (arX_28 ad cI cL) ⟨hv18, ev18⟩ dX3_join_108 ?_
    refine lv_iadd hx hb dX3_join_109 ?_
    obtain ⟨hM19, M19, eM19, hf⟩ := rx_svI hf
    refine rx_iast cx hw (arX_28 ad cI cL) ⟨hM19, eM19⟩ dX3_join_110 (fun H locs hw => ?_)
    refine lv_aload_n hx hb dX3_join_111 rfl (lv_at hl 2 rfl) ?_
    refine rx_getr cx hw (frX_3_4 ad cI cL) rfl (inT_X3) (Nat.le_of_ble_eq_true rfl) (.tail _ tw_94) dX3_join_112 ?_
    refine lv_iload_n hx hb dX3_join_115 rfl (lv_at hl 1 rfl) ?_
    refine lv_dup2_11 hx hb dX3_join_116 rfl rfl ?_
    obtain ⟨hv20, v20, ev20, hf⟩ := rx_ldI hf
    refine rx_iald cx hw (arX_29 ad cI cL) ⟨hv20, ev20⟩ dX3_join_117 ?_
    refine lv_aload_n hx hb dX3_join_118 rfl (lv_at hl 2 rfl) ?_
    refine rx_getr cx hw (frX_3_4 ad cI cL) rfl (inT_X3) (Nat.le_of_ble_eq_true rfl) (.tail _ tw_94) dX3_join_119 ?_
    refine lv_iload hx hb dX3_join_122 (lv_at hl 0 rfl) ?_
    obtain ⟨hv21, v21, ev21, hf⟩ := rx_ldI hf
    refine rx_iald cx hw (arX_29 ad cI cL) ⟨hv21, ev21⟩ dX3_join_124 ?_
    refine lv_iadd hx hb dX3_join_125 ?_
    obtain ⟨hM22, M22, eM22, hf⟩ := rx_svI hf
    refine rx_iast cx hw (arX_29 ad cI cL) ⟨hM22, eM22⟩ dX3_join_126 (fun H locs hw => ?_)
    exact rx_retv hret hw hf dX3_join_127
  · have hf := rx_t hc hf
    exact rx_retv hret hw hf dX3_join_5
end
set_option maxRecDepth 100000 in
theorem qc_X3_join (l : Launch) (D : va_G) (ad : Nat → Nat) (cI cL : ClassId) (b1 b2 : Nat) (w1 : Int32) (w2 : Int32) : rx_MV l yX3_join wX3_join rm_X3_join D vwCl (wX ad cI cL) (tX cI cL) (zX b1 b2) wN [.ref (ad 3), .int w1, .int w2] (fun M => qf_X3_join w1 w2 M) :=
  rx_ofV (by decide) rfl wN_ok (Nat.le_of_ble_eq_true rfl) (fun _ _ _ _ _ _ _ _ _ _ _ _ _ cx hret hw hl hf => qk_X3_join_0 cx hret hw hl hf)
def rm_X5_joinSide : Room := { frames := 2, cells := 0, slots := 0, locals := 45 }
noncomputable def qo_X5_joinSide_27  (w1 : Int32) (w2 : Int32) (w3 : Int32) (rec : Int32 → Me → Op) (w4 : Int32) (M : Me) : Op :=
  if 3 ≤ w4 then (some (0, M)) else (rx_vv ((w2 * 3) + w4) fun v1 => rx_cl (qf_X5_pieceAt w1 v1 M) fun r2 M3 => rx_cl (qf_X5_slotBeside v1 M3) fun r4 M5 => rx_cl (qf_X5_pieceAt w3 r4 M5) fun r6 M7 => rx_cl (qf_X3_rootOf r2 M7) fun r8 M9 => rx_cl (qf_X3_rootOf r6 M9) fun r10 M11 => rx_cl (qf_X3_join r8 r10 M11) fun r12 M13 => rx_vv (w4 + 1) fun v14 => rec v14 M13)
noncomputable def qf_X5_joinSide  (w1 : Int32) (w2 : Int32)  (M : Me) : Op :=
  rx_ld M 20 24 w1 fun v1 => rx_ls sZ1 w2 fun v2 => rx_ld M 17 441 (v1 + v2) fun v3 => if v3 = (-1) then (some (0, M)) else (rx_lp1 (qo_X5_joinSide_27 w1 w2 v3) rx_FU 0 M)
section
variable {p : Program} {l : Launch} {e : Env} {s : State} {m : MethodId} {args : Array Value} {below : List Frame} {meth : Method} {c : Code} {Q : State → Prop} {D : va_G} {A : Nat → Prop} {o : Int32 × Me} {ad : Nat → Nat} {cI cL : ClassId} {b1 b2 : Nat}
set_option maxRecDepth 100000 in
set_option maxHeartbeats 4000000 in
theorem qk_X5_joinSide_27 (cx : rx_C p m c cX5_joinSide 8 s args wX5_joinSide RX5 D vwCl (tX cI cL) (zX b1 b2) wN A) (hret : rx_RV p l e rm_X5_joinSide s m args below meth c cX5_joinSide D vwCl (wX ad cI cL) A Q o) {w1 : Int32} {w2 : Int32} {w3 : Int32} : ∀ (n : Nat) {w4 : Int32} {ls : Array Slot} {H : Heap} {locs : List Loc} {M : Me}, rx_W D vwCl (wX ad cI cL) A s.heap M H locs → lv_has ls 8 [(0, .ref ((ad 2))), (1, .int w1), (2, .int w2), (3, .int w3), (4, .int w4)] → rx_lp1 (qo_X5_joinSide_27 w1 w2 w3) n w4 M = some o → W p l e rm_X5_joinSide s m args below meth c H locs 0 0 Q (F0 m 27 ls []) := by
  have hx := cx.1.1
  have hb := cx.1.2.1
  intro n
  induction n with
  | zero => intro w4 ls H locs M hw hl hf; exact rx_no hf
  | succ n ih =>
    intro w4 ls H locs M hw hl hf
    have hf : qo_X5_joinSide_27 w1 w2 w3 (rx_lp1 (qo_X5_joinSide_27 w1 w2 w3) n) w4 M = some o := hf
    refine lv_iload hx hb dX5_joinSide_27 (lv_at hl 4 rfl) ?_
    refine lv_iconst (v := 3) hx hb dX5_joinSide_29 ic_3 ?_
    refine lv_icmp_ge hx hb dX5_joinSide_30 rfl (fun hc => ?_) (fun hc => ?_)
    · have hf := rx_t hc hf
      exact rx_retv hret hw hf dX5_joinSide_93
    · have hf := rx_f hc hf
      refine lv_iload_n hx hb dX5_joinSide_33 rfl (lv_at hl 2 rfl) ?_
      refine lv_iconst (v := 3) hx hb dX5_joinSide_34 ic_3 ?_
      refine lv_imul hx hb dX5_joinSide_35 ?_
      refine lv_iload hx hb dX5_joinSide_36 (lv_at hl 4 rfl) ?_
      refine lv_iadd hx hb dX5_joinSide_38 ?_
      obtain ⟨v1, ev1, hf⟩ := rx_vvI hf
      refine rx_top ev1 ?_
      refine lv_istore (lv' := [(5, .int v1), (0, .ref ((ad 2))), (1, .int w1), (2, .int w2), (3, .int w3), (4, .int w4)]) hx hb dX5_joinSide_39 hl (Nat.le_of_ble_eq_true rfl) rfl (fun ls hl => ?_)
      refine lv_aload_n hx hb dX5_joinSide_41 rfl (lv_at hl 1 rfl) ?_
      refine lv_iload_n hx hb dX5_joinSide_42 rfl (lv_at hl 2 rfl) ?_
      refine lv_iload hx hb dX5_joinSide_43 (lv_at hl 0 rfl) ?_
      obtain ⟨r2, M3, er2, hf⟩ := rx_clI hf
      refine rx_jVi cx hw (qc_X5_pieceAt l D ad cI cL b1 b2 w1 v1) (obX_2 ad cI cL) rfl rfl kfX5_pieceAt tw_398 ⟨Nat.le_of_ble_eq_true rfl, Nat.le_of_ble_eq_true rfl, rfl, rfl⟩ rfl hl.1 (Nat.le_of_ble_eq_true rfl) ⟨Nat.zero_le _, Nat.zero_le _⟩ dX5_joinSide_45 rfl er2 (fun H locs hw => ?_)
      refine lv_istore (lv' := [(6, .int r2), (5, .int v1), (0, .ref ((ad 2))), (1, .int w1), (2, .int w2), (3, .int w3), (4, .int w4)]) hx hb dX5_joinSide_48 hl (Nat.le_of_ble_eq_true rfl) rfl (fun ls hl => ?_)
      refine lv_aload_n hx hb dX5_joinSide_50 rfl (lv_at hl 2 rfl) ?_
      refine lv_iload_n hx hb dX5_joinSide_51 rfl (lv_at hl 5 rfl) ?_
      refine lv_iload hx hb dX5_joinSide_52 (lv_at hl 1 rfl) ?_
      obtain ⟨r4, M5, er4, hf⟩ := rx_clI hf
      refine rx_jSi cx hw (qc_X5_slotBeside l D ad cI cL b1 b2 v1) kfX5_slotBeside tw_402 ⟨Nat.le_of_ble_eq_true rfl, Nat.le_of_ble_eq_true rfl, rfl, rfl⟩ rfl hl.1 (Nat.le_of_ble_eq_true rfl) ⟨Nat.zero_le _, Nat.zero_le _⟩ dX5_joinSide_54 rfl er4 (fun H locs hw => ?_)
      obtain ⟨r6, M7, er6, hf⟩ := rx_clI hf
      refine rx_jVi cx hw (qc_X5_pieceAt l D ad cI cL b1 b2 w3 r4) (obX_2 ad cI cL) rfl rfl kfX5_pieceAt tw_398 ⟨Nat.le_of_ble_eq_true rfl, Nat.le_of_ble_eq_true rfl, rfl, rfl⟩ rfl hl.1 (Nat.le_of_ble_eq_true rfl) ⟨Nat.zero_le _, Nat.zero_le _⟩ dX5_joinSide_57 rfl er6 (fun H locs hw => ?_)
      refine lv_istore (lv' := [(7, .int r6), (6, .int r2), (5, .int v1), (0, .ref ((ad 2))), (1, .int w1), (2, .int w2), (3, .int w3), (4, .int w4)]) hx hb dX5_joinSide_60 hl (Nat.le_of_ble_eq_true rfl) rfl (fun ls hl => ?_)
      refine lv_aload_n hx hb dX5_joinSide_62 rfl (lv_at hl 3 rfl) ?_
      refine rx_getr cx hw (frX_2_1 ad cI cL) rfl (inT_X5) (Nat.le_of_ble_eq_true rfl) (.tail _ tw_132) dX5_joinSide_63 ?_
      refine lv_aload_n hx hb dX5_joinSide_66 rfl (lv_at hl 3 rfl) ?_
      refine rx_getr cx hw (frX_2_1 ad cI cL) rfl (inT_X5) (Nat.le_of_ble_eq_true rfl) (.tail _ tw_132) dX5_joinSide_67 ?_
      refine lv_iload hx hb dX5_joinSide_70 (lv_at hl 1 rfl) ?_
      obtain ⟨r8, M9, er8, hf⟩ := rx_clI hf
      refine rx_jVi cx hw (qc_X3_rootOf l D ad cI cL b1 b2 r2) (obX_3 ad cI cL) rfl rfl kfX3_rootOf tw_405 ⟨Nat.le_of_ble_eq_true rfl, Nat.le_of_ble_eq_true rfl, rfl, rfl⟩ rfl hl.1 (Nat.le_of_ble_eq_true rfl) ⟨Nat.zero_le _, Nat.zero_le _⟩ dX5_joinSide_72 rfl er8 (fun H locs hw => ?_)
      refine lv_aload_n hx hb dX5_joinSide_75 rfl (lv_at hl 3 rfl) ?_
      refine rx_getr cx hw (frX_2_1 ad cI cL) rfl (inT_X5) (Nat.le_of_ble_eq_true rfl) (.tail _ tw_132) dX5_joinSide_76 ?_
      refine lv_iload hx hb dX5_joinSide_79 (lv_at hl 0 rfl) ?_
      obtain ⟨r10, M11, er10, hf⟩ := rx_clI hf
      refine rx_jVi cx hw (qc_X3_rootOf l D ad cI cL b1 b2 r6) (obX_3 ad cI cL) rfl rfl kfX3_rootOf tw_405 ⟨Nat.le_of_ble_eq_true rfl, Nat.le_of_ble_eq_true rfl, rfl, rfl⟩ rfl hl.1 (Nat.le_of_ble_eq_true rfl) ⟨Nat.zero_le _, Nat.zero_le _⟩ dX5_joinSide_81 rfl er10 (fun H locs hw => ?_)
      obtain ⟨r12, M13, er12, hf⟩ := rx_clI hf
      refine rx_jVv cx hw (qc_X3_join l D ad cI cL b1 b2 r8 r10) (obX_3 ad cI cL) rfl rfl kfX3_join tw_493 ⟨Nat.le_of_ble_eq_true rfl, Nat.le_of_ble_eq_true rfl, rfl, rfl⟩ rfl hl.1 (Nat.le_of_ble_eq_true rfl) ⟨Nat.zero_le _, Nat.zero_le _⟩ dX5_joinSide_84 rfl er12 (fun H locs hw => ?_)
      obtain ⟨v14, ev14, hf⟩ := rx_vvI hf
      refine lv_iinc (lv' := [(4, .int v14), (7, .int r6), (6, .int r2), (5, .int v1), (0, .ref ((ad 2))), (1, .int w1), (2, .int w2), (3, .int w3)]) hx hb dX5_joinSide_87 hl (k := 7) rfl (rx_inc ic_1 ev14) (Nat.le_of_ble_eq_true rfl) rfl (fun ls hl => ?_)
      refine lv_goto hx hb dX5_joinSide_90 rfl ?_
      exact ih hw (lv_sub hl [4, 5, 6, 7, 0] rfl) hf
set_option maxRecDepth 100000 in
set_option maxHeartbeats 4000000 in
theorem qk_X5_joinSide_0 (cx : rx_C p m c cX5_joinSide 8 s args wX5_joinSide RX5 D vwCl (tX cI cL) (zX b1 b2) wN A) (hret : rx_RV p l e rm_X5_joinSide s m args below meth c cX5_joinSide D vwCl (wX ad cI cL) A Q o) {w1 : Int32} {w2 : Int32} {ls : Array Slot} {H : Heap} {locs : List Loc} {M : Me} (hw : rx_W D vwCl (wX ad cI cL) A s.heap M H locs) (hl : lv_has ls 8 [(0, .ref ((ad 2))), (1, .int w1), (2, .int w2)]) (hf : qf_X5_joinSide w1 w2 M = some o) : W p l e rm_X5_joinSide s m args below meth c H locs 0 0 Q (F0 m 0 ls []) := by
  have hx := cx.1.1
  have hb := cx.1.2.1
  refine lv_aload_n hx hb dX5_joinSide_0 rfl (lv_at hl 0 rfl) ?_
  refine rx_getr cx hw (frX_2_2 ad cI cL) rfl (inT_X5) (Nat.le_of_ble_eq_true rfl) (.tail _ tw_135) dX5_joinSide_1 ?_
  refine lv_aload_n hx hb dX5_joinSide_4 rfl (lv_at hl 0 rfl) ?_
  refine rx_getr cx hw (frX_2_5 ad cI cL) rfl (inT_X5) (Nat.le_of_ble_eq_true rfl) (.tail _ tw_139) dX5_joinSide_5 ?_
  refine lv_iload_n hx hb dX5_joinSide_8 rfl (lv_at hl 1 rfl) ?_
  obtain ⟨hv1, v1, ev1, hf⟩ := rx_ldI hf
  refine rx_iald cx hw (arX_20 ad cI cL) ⟨hv1, ev1⟩ dX5_joinSide_9 ?_
  refine rx_getsN cx hw (zm1 b1 b2) tn_392 dX5_joinSide_10 ?_
  refine lv_iload_n hx hb dX5_joinSide_13 rfl (lv_at hl 2 rfl) ?_
  obtain ⟨hv2, v2, ev2, hf⟩ := rx_lsI hf
  refine rx_lds cx hw (zm1 b1 b2) ⟨hv2, ev2⟩ dX5_joinSide_14 ?_
  refine lv_iadd hx hb dX5_joinSide_15 ?_
  obtain ⟨hv3, v3, ev3, hf⟩ := rx_ldI hf
  refine rx_iald cx hw (arX_17 ad cI cL) ⟨hv3, ev3⟩ dX5_joinSide_16 ?_
  refine lv_istore_n (lv' := [(3, .int v3), (0, .ref ((ad 2))), (1, .int w1), (2, .int w2)]) hx hb dX5_joinSide_17 rfl hl (Nat.le_of_ble_eq_true rfl) rfl (fun ls hl => ?_)
  refine lv_iload_n hx hb dX5_joinSide_18 rfl (lv_at hl 0 rfl) ?_
  refine lv_iconst (v := (-1)) hx hb dX5_joinSide_19 ic_m1 ?_
  refine lv_icmp_ne hx hb dX5_joinSide_20 rfl (fun hc => ?_) (fun hc => ?_)
  · have hf := rx_f hc hf
    refine lv_iconst (v := 0) hx hb dX5_joinSide_24 ic_0 ?_
    refine lv_istore (lv' := [(4, .int 0), (3, .int v3), (0, .ref ((ad 2))), (1, .int w1), (2, .int w2)]) hx hb dX5_joinSide_25 hl (Nat.le_of_ble_eq_true rfl) rfl (fun ls hl => ?_)
    exact (qk_X5_joinSide_27 cx hret rx_FU) hw (lv_sub hl [2, 3, 4, 1, 0] rfl) hf
  · have hf := rx_t hc hf
    exact rx_retv hret hw hf dX5_joinSide_23
end
set_option maxRecDepth 100000 in
theorem qc_X5_joinSide (l : Launch) (D : va_G) (ad : Nat → Nat) (cI cL : ClassId) (b1 b2 : Nat) (w1 : Int32) (w2 : Int32) : rx_MV l yX5_joinSide wX5_joinSide rm_X5_joinSide D vwCl (wX ad cI cL) (tX cI cL) (zX b1 b2) wN [.ref (ad 2), .int w1, .int w2] (fun M => qf_X5_joinSide w1 w2 M) :=
  rx_ofV (by decide) rfl wN_ok (Nat.le_of_ble_eq_true rfl) (fun _ _ _ _ _ _ _ _ _ _ _ _ _ cx hret hw hl hf => qk_X5_joinSide_0 cx hret hw hl hf)

def rm_X6_follow : Room := { frames := 5, cells := 0, slots := 0, locals := 115 }
noncomputable def qf_X6_follow  (w1 : Int32)  (M : Me) : Op :=
  rx_cl (qf_X2_mayPut w1 M) fun r1 M2 => if r1 = 0 then (some ((-2), M2)) else (rx_cl (qf_X4_forget M2) fun r3 M4 => rx_cl (qf_X2_put w1 M4) fun r5 M6 => some (r5, M6))
section
variable {p : Program} {l : Launch} {e : Env} {s : State} {m : MethodId} {args : Array Value} {below : List Frame} {meth : Method} {c : Code} {Q : State → Prop} {D : va_G} {A : Nat → Prop} {o : Int32 × Me} {ad : Nat → Nat} {cI cL : ClassId} {b1 b2 : Nat}
set_option maxRecDepth 100000 in
set_option maxHeartbeats 4000000 in
theorem qk_X6_follow_0 (cx : rx_C p m c cX6_follow 2 s args wX6_follow RX6 D vwCl (tX cI cL) (zX b1 b2) wN A) (hret : rx_RI p l e rm_X6_follow s m args below meth c cX6_follow D vwCl (wX ad cI cL) A Q o) {w1 : Int32} {ls : Array Slot} {H : Heap} {locs : List Loc} {M : Me} (hw : rx_W D vwCl (wX ad cI cL) A s.heap M H locs) (hl : lv_has ls 2 [(0, .ref ((ad 0))), (1, .int w1)]) (hf : qf_X6_follow w1 M = some o) : W p l e rm_X6_follow s m args below meth c H locs 0 0 Q (F0 m 0 ls []) := by
  have hx := cx.1.1
  have hb := cx.1.2.1
  refine lv_aload_n hx hb dX6_follow_0 rfl (lv_at hl 0 rfl) ?_
  refine rx_getr cx hw (frX_0_2 ad cI cL) rfl (inT_X6) (Nat.le_of_ble_eq_true rfl) (.tail _ tw_306) dX6_follow_1 ?_
  refine lv_iload_n hx hb dX6_follow_4 rfl (lv_at hl 1 rfl) ?_
  obtain ⟨r1, M2, er1, hf⟩ := rx_clI hf
  refine rx_jVi cx hw (qc_X2_mayPut l D ad cI cL b1 b2 w1) (obX_4 ad cI cL) rfl rfl kfX2_mayPut tw_507 ⟨Nat.le_of_ble_eq_true rfl, Nat.le_of_ble_eq_true rfl, rfl, rfl⟩ rfl hl.1 (Nat.le_of_ble_eq_true rfl) ⟨Nat.zero_le _, Nat.zero_le _⟩ dX6_follow_5 rfl er1 (fun H locs hw => ?_)
  refine lv_if_ne hx hb dX6_follow_8 rfl (fun hc => ?_) (fun hc => ?_)
  · have hf := rx_f hc hf
    refine lv_aload_n hx hb dX6_follow_14 rfl (lv_at hl 0 rfl) ?_
    refine rx_getr cx hw (frX_0_3 ad cI cL) rfl (inT_X6) (Nat.le_of_ble_eq_true rfl) (.tail _ tw_307) dX6_follow_15 ?_
    obtain ⟨r3, M4, er3, hf⟩ := rx_clI hf
    refine rx_jVv cx hw (qc_X4_forget l D ad cI cL b1 b2) (obX_5 ad cI cL) rfl rfl kfX4_forget tw_364 ⟨Nat.le_of_ble_eq_true rfl, Nat.le_of_ble_eq_true rfl, rfl, rfl⟩ rfl hl.1 (Nat.le_of_ble_eq_true rfl) ⟨Nat.zero_le _, Nat.zero_le _⟩ dX6_follow_18 rfl er3 (fun H locs hw => ?_)
    refine lv_aload_n hx hb dX6_follow_21 rfl (lv_at hl 0 rfl) ?_
    refine rx_getr cx hw (frX_0_2 ad cI cL) rfl (inT_X6) (Nat.le_of_ble_eq_true rfl) (.tail _ tw_306) dX6_follow_22 ?_
    refine lv_iload_n hx hb dX6_follow_25 rfl (lv_at hl 1 rfl) ?_
    obtain ⟨r5, M6, er5, hf⟩ := rx_clI hf
    refine rx_jVi cx hw (qc_X2_put l D ad cI cL b1 b2 w1) (obX_4 ad cI cL) rfl rfl kfX2_put tw_516 ⟨Nat.le_of_ble_eq_true rfl, Nat.le_of_ble_eq_true rfl, rfl, rfl⟩ rfl hl.1 (Nat.le_of_ble_eq_true rfl) ⟨Nat.zero_le _, Nat.zero_le _⟩ dX6_follow_26 rfl er5 (fun H locs hw => ?_)
    exact rx_reti hret hw hf dX6_follow_29
  · have hf := rx_t hc hf
    refine lv_bipush (v := (-2)) hx hb dX6_follow_11 ib_m2 ?_
    exact rx_reti hret hw hf dX6_follow_13
end
set_option maxRecDepth 100000 in
theorem qc_X6_follow (l : Launch) (D : va_G) (ad : Nat → Nat) (cI cL : ClassId) (b1 b2 : Nat) (w1 : Int32) : rx_MI l yX6_follow wX6_follow rm_X6_follow D vwCl (wX ad cI cL) (tX cI cL) (zX b1 b2) wN [.ref (ad 0), .int w1] (fun M => qf_X6_follow w1 M) :=
  rx_ofI (by decide) rfl wN_ok (Nat.le_of_ble_eq_true rfl) (fun _ _ _ _ _ _ _ _ _ _ _ _ _ cx hret hw hl hf => qk_X6_follow_0 cx hret hw hl hf)
def rm_X6_undo : Room := { frames := 4, cells := 0, slots := 0, locals := 92 }
noncomputable def qf_X6_undo    (M : Me) : Op :=
  rx_cl (qf_X2_steps M) fun r1 M2 => if r1 = 0 then (rx_zb 0 (some (0, M2))) else (rx_cl (qf_X4_forget M2) fun r3 M4 => rx_cl (qf_X2_stepBack M4) fun r5 M6 => rx_zb 1 (some (1, M6)))
section
variable {p : Program} {l : Launch} {e : Env} {s : State} {m : MethodId} {args : Array Value} {below : List Frame} {meth : Method} {c : Code} {Q : State → Prop} {D : va_G} {A : Nat → Prop} {o : Int32 × Me} {ad : Nat → Nat} {cI cL : ClassId} {b1 b2 : Nat}
set_option maxRecDepth 100000 in
set_option maxHeartbeats 4000000 in
theorem qk_X6_undo_0 (cx : rx_C p m c cX6_undo 1 s args wX6_undo RX6 D vwCl (tX cI cL) (zX b1 b2) wN A) (hret : rx_RZ p l e rm_X6_undo s m args below meth c cX6_undo D vwCl (wX ad cI cL) A Q o) {ls : Array Slot} {H : Heap} {locs : List Loc} {M : Me} (hw : rx_W D vwCl (wX ad cI cL) A s.heap M H locs) (hl : lv_has ls 1 [(0, .ref ((ad 0)))]) (hf : qf_X6_undo M = some o) : W p l e rm_X6_undo s m args below meth c H locs 0 0 Q (F0 m 0 ls []) := by
  have hx := cx.1.1
  have hb := cx.1.2.1
  refine lv_aload_n hx hb dX6_undo_0 rfl (lv_at hl 0 rfl) ?_
  refine rx_getr cx hw (frX_0_2 ad cI cL) rfl (inT_X6) (Nat.le_of_ble_eq_true rfl) (.tail _ tw_306) dX6_undo_1 ?_
  obtain ⟨r1, M2, er1, hf⟩ := rx_clI hf
  refine rx_jVi cx hw (qc_X2_steps l D ad cI cL b1 b2) (obX_4 ad cI cL) rfl rfl kfX2_steps tw_453 ⟨Nat.le_of_ble_eq_true rfl, Nat.le_of_ble_eq_true rfl, rfl, rfl⟩ rfl hl.1 (Nat.le_of_ble_eq_true rfl) ⟨Nat.zero_le _, Nat.zero_le _⟩ dX6_undo_4 rfl er1 (fun H locs hw => ?_)
  refine lv_if_ne hx hb dX6_undo_7 rfl (fun hc => ?_) (fun hc => ?_)
  · have hf := rx_f hc hf
    refine lv_aload_n hx hb dX6_undo_12 rfl (lv_at hl 0 rfl) ?_
    refine rx_getr cx hw (frX_0_3 ad cI cL) rfl (inT_X6) (Nat.le_of_ble_eq_true rfl) (.tail _ tw_307) dX6_undo_13 ?_
    obtain ⟨r3, M4, er3, hf⟩ := rx_clI hf
    refine rx_jVv cx hw (qc_X4_forget l D ad cI cL b1 b2) (obX_5 ad cI cL) rfl rfl kfX4_forget tw_364 ⟨Nat.le_of_ble_eq_true rfl, Nat.le_of_ble_eq_true rfl, rfl, rfl⟩ rfl hl.1 (Nat.le_of_ble_eq_true rfl) ⟨Nat.zero_le _, Nat.zero_le _⟩ dX6_undo_16 rfl er3 (fun H locs hw => ?_)
    refine lv_aload_n hx hb dX6_undo_19 rfl (lv_at hl 0 rfl) ?_
    refine rx_getr cx hw (frX_0_2 ad cI cL) rfl (inT_X6) (Nat.le_of_ble_eq_true rfl) (.tail _ tw_306) dX6_undo_20 ?_
    obtain ⟨r5, M6, er5, hf⟩ := rx_clI hf
    refine rx_jVv cx hw (qc_X2_stepBack l D ad cI cL b1 b2) (obX_4 ad cI cL) rfl rfl kfX2_stepBack tw_571 ⟨Nat.le_of_ble_eq_true rfl, Nat.le_of_ble_eq_true rfl, rfl, rfl⟩ rfl hl.1 (Nat.le_of_ble_eq_true rfl) ⟨Nat.zero_le _, Nat.zero_le _⟩ dX6_undo_23 rfl er5 (fun H locs hw => ?_)
    refine lv_iconst (v := 1) hx hb dX6_undo_26 ic_1 ?_
    exact rx_retz hret hw hf dX6_undo_27
  · have hf := rx_t hc hf
    refine lv_iconst (v := 0) hx hb dX6_undo_10 ic_0 ?_
    exact rx_retz hret hw hf dX6_undo_11
end
set_option maxRecDepth 100000 in
theorem qc_X6_undo (l : Launch) (D : va_G) (ad : Nat → Nat) (cI cL : ClassId) (b1 b2 : Nat) : rx_MI l yX6_undo wX6_undo rm_X6_undo D vwCl (wX ad cI cL) (tX cI cL) (zX b1 b2) wN [.ref (ad 0)] (fun M => qf_X6_undo M) :=
  rx_ofZ (by decide) rfl wN_ok (Nat.le_of_ble_eq_true rfl) (fun _ _ _ _ _ _ _ _ _ _ _ _ _ cx hret hw hl hf => qk_X6_undo_0 cx hret hw hl hf)
def rm_X6_region : Room := { frames := 1, cells := 0, slots := 0, locals := 23 }
noncomputable def qf_X6_region  (w1 : Int32) (w2 : Int32) (w3 : Int32)  (M : Me) : Op :=
  rx_cl (qf_X6_isPlace w1 w2 M) fun r1 M2 => if r1 = 0 then (some ((-1), M2)) else (if w3 < 0 then (some ((-1), M2)) else (if w3 < 8 then (rx_cl (qf_X6_cellAt w1 w2 M2) fun r3 M4 => rx_ld M4 17 441 r3 fun v5 => if v5 = (-1) then (some ((-1), M4)) else (rx_cl (qf_X5_kindOf ((v5 * 8) + w3) M4) fun r6 M7 => if r6 = 0 then (some ((-1), M7)) else (rx_cl (qf_X3_rootOf ((v5 * 8) + w3) M7) fun r8 M9 => some (r8, M9)))) else (some ((-1), M2))))
section
variable {p : Program} {l : Launch} {e : Env} {s : State} {m : MethodId} {args : Array Value} {below : List Frame} {meth : Method} {c : Code} {Q : State → Prop} {D : va_G} {A : Nat → Prop} {o : Int32 × Me} {ad : Nat → Nat} {cI cL : ClassId} {b1 b2 : Nat}
set_option maxRecDepth 100000 in
set_option maxHeartbeats 4000000 in
theorem qk_X6_region_0 (cx : rx_C p m c cX6_region 5 s args wX6_region RX6 D vwCl (tX cI cL) (zX b1 b2) wN A) (hret : rx_RI p l e rm_X6_region s m args below meth c cX6_region D vwCl (wX ad cI cL) A Q o) {w1 : Int32} {w2 : Int32} {w3 : Int32} {ls : Array Slot} {H : Heap} {locs : List Loc} {M : Me} (hw : rx_W D vwCl (wX ad cI cL) A s.heap M H locs) (hl : lv_has ls 5 [(0, .ref ((ad 0))), (1, .int w1), (2, .int w2), (3, .int w3)]) (hf : qf_X6_region w1 w2 w3 M = some o) : W p l e rm_X6_region s m args below meth c H locs 0 0 Q (F0 m 0 ls []) := by
  have hx := cx.1.1
  have hb := cx.1.2.1
  refine lv_iload_n hx hb dX6_region_0 rfl (lv_at hl 1 rfl) ?_
  refine lv_iload_n hx hb dX6_region_1 rfl (lv_at hl 2 rfl) ?_
  obtain ⟨r1, M2, er1, hf⟩ := rx_clI hf
  refine rx_jSi cx hw (qc_X6_isPlace l D ad cI cL b1 b2 w1 w2) kfX6_isPlace tw_470 ⟨Nat.le_of_ble_eq_true rfl, Nat.le_of_ble_eq_true rfl, rfl, rfl⟩ rfl hl.1 (Nat.le_of_ble_eq_true rfl) ⟨Nat.zero_le _, Nat.zero_le _⟩ dX6_region_2 rfl er1 (fun H locs hw => ?_)
  refine lv_if_eq hx hb dX6_region_5 rfl (fun hc => ?_) (fun hc => ?_)
  · have hf := rx_t hc hf
    refine lv_iconst (v := (-1)) hx hb dX6_region_18 ic_m1 ?_
    exact rx_reti hret hw hf dX6_region_19
  · have hf := rx_f hc hf
    refine lv_iload_n hx hb dX6_region_8 rfl (lv_at hl 3 rfl) ?_
    refine lv_if_lt hx hb dX6_region_9 rfl (fun hc => ?_) (fun hc => ?_)
    · have hf := rx_t hc hf
      refine lv_iconst (v := (-1)) hx hb dX6_region_18 ic_m1 ?_
      exact rx_reti hret hw hf dX6_region_19
    · have hf := rx_f hc hf
      refine lv_iload_n hx hb dX6_region_12 rfl (lv_at hl 3 rfl) ?_
      refine lv_bipush (v := 8) hx hb dX6_region_13 ib_8 ?_
      refine lv_icmp_lt hx hb dX6_region_15 rfl (fun hc => ?_) (fun hc => ?_)
      · have hf := rx_t hc hf
        refine lv_aload_n hx hb dX6_region_20 rfl (lv_at hl 0 rfl) ?_
        refine rx_getr cx hw (frX_0_1 ad cI cL) rfl (inT_X6) (Nat.le_of_ble_eq_true rfl) (.tail _ tw_305) dX6_region_21 ?_
        refine rx_getrN cx hw (frX_2_2 ad cI cL) rfl (inT_X5) (Nat.le_of_ble_eq_true rfl) tn_136 dX6_region_24 ?_
        refine lv_iload_n hx hb dX6_region_27 rfl (lv_at hl 1 rfl) ?_
        refine lv_iload_n hx hb dX6_region_28 rfl (lv_at hl 2 rfl) ?_
        obtain ⟨r3, M4, er3, hf⟩ := rx_clI hf
        refine rx_jSi cx hw (qc_X6_cellAt l D ad cI cL b1 b2 w1 w2) kfX6_cellAt tw_473 ⟨Nat.le_of_ble_eq_true rfl, Nat.le_of_ble_eq_true rfl, rfl, rfl⟩ rfl hl.1 (Nat.le_of_ble_eq_true rfl) ⟨Nat.zero_le _, Nat.zero_le _⟩ dX6_region_29 rfl er3 (fun H locs hw => ?_)
        obtain ⟨hv5, v5, ev5, hf⟩ := rx_ldI hf
        refine rx_iald cx hw (arX_17 ad cI cL) ⟨hv5, ev5⟩ dX6_region_32 ?_
        refine lv_istore (lv' := [(4, .int v5), (0, .ref ((ad 0))), (1, .int w1), (2, .int w2), (3, .int w3)]) hx hb dX6_region_33 hl (Nat.le_of_ble_eq_true rfl) rfl (fun ls hl => ?_)
        refine lv_iload hx hb dX6_region_35 (lv_at hl 0 rfl) ?_
        refine lv_iconst (v := (-1)) hx hb dX6_region_37 ic_m1 ?_
        refine lv_icmp_eq hx hb dX6_region_38 rfl (fun hc => ?_) (fun hc => ?_)
        · have hf := rx_t hc hf
          refine lv_iconst (v := (-1)) hx hb dX6_region_58 ic_m1 ?_
          exact rx_reti hret hw hf dX6_region_59
        · have hf := rx_f hc hf
          refine lv_aload_n hx hb dX6_region_41 rfl (lv_at hl 1 rfl) ?_
          refine rx_getr cx hw (frX_0_1 ad cI cL) rfl (inT_X6) (Nat.le_of_ble_eq_true rfl) (.tail _ tw_305) dX6_region_42 ?_
          refine lv_iload hx hb dX6_region_45 (lv_at hl 0 rfl) ?_
          refine lv_bipush (v := 8) hx hb dX6_region_47 ib_8 ?_
          refine lv_imul hx hb dX6_region_49 ?_
          refine lv_iload_n hx hb dX6_region_50 rfl (lv_at hl 4 rfl) ?_
          refine lv_iadd hx hb dX6_region_51 ?_
          obtain ⟨r6, M7, er6, hf⟩ := rx_clI hf
          refine rx_jVi cx hw (qc_X5_kindOf l D ad cI cL b1 b2 ((v5 * 8) + w3)) (obX_2 ad cI cL) rfl rfl kfX5_kindOf tw_576 ⟨Nat.le_of_ble_eq_true rfl, Nat.le_of_ble_eq_true rfl, rfl, rfl⟩ rfl hl.1 (Nat.le_of_ble_eq_true rfl) ⟨Nat.zero_le _, Nat.zero_le _⟩ dX6_region_52 rfl er6 (fun H locs hw => ?_)
          refine lv_if_ne hx hb dX6_region_55 rfl (fun hc => ?_) (fun hc => ?_)
          · have hf := rx_f hc hf
            refine lv_aload_n hx hb dX6_region_60 rfl (lv_at hl 1 rfl) ?_
            refine rx_getr cx hw (frX_0_1 ad cI cL) rfl (inT_X6) (Nat.le_of_ble_eq_true rfl) (.tail _ tw_305) dX6_region_61 ?_
            refine rx_getrN cx hw (frX_2_1 ad cI cL) rfl (inT_X5) (Nat.le_of_ble_eq_true rfl) tn_134 dX6_region_64 ?_
            refine lv_iload hx hb dX6_region_67 (lv_at hl 0 rfl) ?_
            refine lv_bipush (v := 8) hx hb dX6_region_69 ib_8 ?_
            refine lv_imul hx hb dX6_region_71 ?_
            refine lv_iload_n hx hb dX6_region_72 rfl (lv_at hl 4 rfl) ?_
            refine lv_iadd hx hb dX6_region_73 ?_
            obtain ⟨r8, M9, er8, hf⟩ := rx_clI hf
            refine rx_jVi cx hw (qc_X3_rootOf l D ad cI cL b1 b2 ((v5 * 8) + w3)) (obX_3 ad cI cL) rfl rfl kfX3_rootOf tw_577 ⟨Nat.le_of_ble_eq_true rfl, Nat.le_of_ble_eq_true rfl, rfl, rfl⟩ rfl hl.1 (Nat.le_of_ble_eq_true rfl) ⟨Nat.zero_le _, Nat.zero_le _⟩ dX6_region_74 rfl er8 (fun H locs hw => ?_)
            exact rx_reti hret hw hf dX6_region_77
          · have hf := rx_t hc hf
            refine lv_iconst (v := (-1)) hx hb dX6_region_58 ic_m1 ?_
            exact rx_reti hret hw hf dX6_region_59
      · have hf := rx_f hc hf
        refine lv_iconst (v := (-1)) hx hb dX6_region_18 ic_m1 ?_
        exact rx_reti hret hw hf dX6_region_19
end
set_option maxRecDepth 100000 in
theorem qc_X6_region (l : Launch) (D : va_G) (ad : Nat → Nat) (cI cL : ClassId) (b1 b2 : Nat) (w1 : Int32) (w2 : Int32) (w3 : Int32) : rx_MI l yX6_region wX6_region rm_X6_region D vwCl (wX ad cI cL) (tX cI cL) (zX b1 b2) wN [.ref (ad 0), .int w1, .int w2, .int w3] (fun M => qf_X6_region w1 w2 w3 M) :=
  rx_ofI (by decide) rfl wN_ok (Nat.le_of_ble_eq_true rfl) (fun _ _ _ _ _ _ _ _ _ _ _ _ _ cx hret hw hl hf => qk_X6_region_0 cx hret hw hl hf)
def rm_X5_isRegion : Room := { frames := 1, cells := 0, slots := 0, locals := 21 }
noncomputable def qf_X5_isRegion  (w1 : Int32)  (M : Me) : Op :=
  if w1 < 0 then (rx_zb 0 (some (0, M))) else (rx_vv (M 2 9) fun v1 => if (v1 * 8) ≤ w1 then (rx_zb 0 (some (0, M))) else (rx_cl (qf_X5_kindOf w1 M) fun r2 M3 => if r2 = 0 then (rx_zb 0 (some (0, M3))) else (rx_ld M3 25 192 w1 fun v4 => if v4 = w1 then (rx_zb 1 (some (1, M3))) else (rx_zb 0 (some (0, M3))))))
section
variable {p : Program} {l : Launch} {e : Env} {s : State} {m : MethodId} {args : Array Value} {below : List Frame} {meth : Method} {c : Code} {Q : State → Prop} {D : va_G} {A : Nat → Prop} {o : Int32 × Me} {ad : Nat → Nat} {cI cL : ClassId} {b1 b2 : Nat}
set_option maxRecDepth 100000 in
set_option maxHeartbeats 4000000 in
theorem qk_X5_isRegion_0 (cx : rx_C p m c cX5_isRegion 2 s args wX5_isRegion RX5 D vwCl (tX cI cL) (zX b1 b2) wN A) (hret : rx_RZ p l e rm_X5_isRegion s m args below meth c cX5_isRegion D vwCl (wX ad cI cL) A Q o) {w1 : Int32} {ls : Array Slot} {H : Heap} {locs : List Loc} {M : Me} (hw : rx_W D vwCl (wX ad cI cL) A s.heap M H locs) (hl : lv_has ls 2 [(0, .ref ((ad 2))), (1, .int w1)]) (hf : qf_X5_isRegion w1 M = some o) : W p l e rm_X5_isRegion s m args below meth c H locs 0 0 Q (F0 m 0 ls []) := by
  have hx := cx.1.1
  have hb := cx.1.2.1
  refine lv_iload_n hx hb dX5_isRegion_0 rfl (lv_at hl 1 rfl) ?_
  refine lv_if_lt hx hb dX5_isRegion_1 rfl (fun hc => ?_) (fun hc => ?_)
  · have hf := rx_t hc hf
    refine lv_iconst (v := 0) hx hb dX5_isRegion_40 ic_0 ?_
    exact rx_retz hret hw hf dX5_isRegion_41
  · have hf := rx_f hc hf
    refine lv_iload_n hx hb dX5_isRegion_4 rfl (lv_at hl 1 rfl) ?_
    refine lv_aload_n hx hb dX5_isRegion_5 rfl (lv_at hl 0 rfl) ?_
    obtain ⟨v1, ev1, hf⟩ := rx_vvI hf
    refine rx_geti cx hw (fiX_2_9 ad cI cL) rfl (inT_X5) (Nat.le_of_ble_eq_true rfl) (.tail _ tw_145) ev1 dX5_isRegion_6 ?_
    refine lv_bipush (v := 8) hx hb dX5_isRegion_9 ib_8 ?_
    refine lv_imul hx hb dX5_isRegion_11 ?_
    refine lv_icmp_ge hx hb dX5_isRegion_12 rfl (fun hc => ?_) (fun hc => ?_)
    · have hf := rx_t hc hf
      refine lv_iconst (v := 0) hx hb dX5_isRegion_40 ic_0 ?_
      exact rx_retz hret hw hf dX5_isRegion_41
    · have hf := rx_f hc hf
      refine lv_aload_n hx hb dX5_isRegion_15 rfl (lv_at hl 0 rfl) ?_
      refine lv_iload_n hx hb dX5_isRegion_16 rfl (lv_at hl 1 rfl) ?_
      obtain ⟨r2, M3, er2, hf⟩ := rx_clI hf
      refine rx_jVi cx hw (qc_X5_kindOf l D ad cI cL b1 b2 w1) (obX_2 ad cI cL) rfl rfl kfX5_kindOf tw_543 ⟨Nat.le_of_ble_eq_true rfl, Nat.le_of_ble_eq_true rfl, rfl, rfl⟩ rfl hl.1 (Nat.le_of_ble_eq_true rfl) ⟨Nat.zero_le _, Nat.zero_le _⟩ dX5_isRegion_17 rfl er2 (fun H locs hw => ?_)
      refine lv_if_eq hx hb dX5_isRegion_20 rfl (fun hc => ?_) (fun hc => ?_)
      · have hf := rx_t hc hf
        refine lv_iconst (v := 0) hx hb dX5_isRegion_40 ic_0 ?_
        exact rx_retz hret hw hf dX5_isRegion_41
      · have hf := rx_f hc hf
        refine lv_aload_n hx hb dX5_isRegion_23 rfl (lv_at hl 0 rfl) ?_
        refine rx_getr cx hw (frX_2_1 ad cI cL) rfl (inT_X5) (Nat.le_of_ble_eq_true rfl) (.tail _ tw_132) dX5_isRegion_24 ?_
        refine rx_getrN cx hw (frX_3_0 ad cI cL) rfl (inT_X3) (Nat.le_of_ble_eq_true rfl) tn_83 dX5_isRegion_27 ?_
        refine lv_iload_n hx hb dX5_isRegion_30 rfl (lv_at hl 1 rfl) ?_
        obtain ⟨hv4, v4, ev4, hf⟩ := rx_ldI hf
        refine rx_iald cx hw (arX_25 ad cI cL) ⟨hv4, ev4⟩ dX5_isRegion_31 ?_
        refine lv_iload_n hx hb dX5_isRegion_32 rfl (lv_at hl 1 rfl) ?_
        refine lv_icmp_ne hx hb dX5_isRegion_33 rfl (fun hc => ?_) (fun hc => ?_)
        · have hf := rx_f hc hf
          refine lv_iconst (v := 0) hx hb dX5_isRegion_40 ic_0 ?_
          exact rx_retz hret hw hf dX5_isRegion_41
        · have hf := rx_t hc hf
          refine lv_iconst (v := 1) hx hb dX5_isRegion_36 ic_1 ?_
          refine lv_goto hx hb dX5_isRegion_37 rfl ?_
          exact rx_retz hret hw hf dX5_isRegion_41
end
set_option maxRecDepth 100000 in
theorem qc_X5_isRegion (l : Launch) (D : va_G) (ad : Nat → Nat) (cI cL : ClassId) (b1 b2 : Nat) (w1 : Int32) : rx_MI l yX5_isRegion wX5_isRegion rm_X5_isRegion D vwCl (wX ad cI cL) (tX cI cL) (zX b1 b2) wN [.ref (ad 2), .int w1] (fun M => qf_X5_isRegion w1 M) :=
  rx_ofZ (by decide) rfl wN_ok (Nat.le_of_ble_eq_true rfl) (fun _ _ _ _ _ _ _ _ _ _ _ _ _ cx hret hw hl hf => qk_X5_isRegion_0 cx hret hw hl hf)
def rm_X6_about : Room := { frames := 2, cells := 0, slots := 0, locals := 42 }
noncomputable def qf_X6_about  (w1 : Int32) (w2 : Int32)  (M : Me) : Op :=
  rx_cl (qf_X5_isRegion w1 M) fun r1 M2 => if r1 = 0 then (some ((-1), M2)) else (if w2 = 0 then (rx_cl (qf_X5_kindOf w1 M2) fun r3 M4 => some (r3, M4)) else (if w2 = 1 then (rx_ld M2 26 192 w1 fun v5 => rx_cl (qf_J6_bitCount_X v5 M2) fun r6 M7 => some (r6, M7)) else (if w2 = 2 then (rx_ld M2 27 192 w1 fun v8 => some (v8, M2)) else (if w2 = 3 then (rx_ld M2 28 192 w1 fun v9 => some (v9, M2)) else (if w2 = 4 then (rx_cl (qf_X5_isFinished w1 M2) fun r10 M11 => if r10 = 0 then (some (0, M11)) else (some (1, M11))) else (if w2 = 5 then (rx_ld M2 29 192 w1 fun v12 => rx_cl (qf_X6_menOf v12 (w2 - 5) M2) fun r13 M14 => some (r13, M14)) else (if w2 = 6 then (rx_ld M2 29 192 w1 fun v15 => rx_cl (qf_X6_menOf v15 (w2 - 5) M2) fun r16 M17 => some (r16, M17)) else (if w2 = 7 then (rx_ld M2 29 192 w1 fun v18 => rx_cl (qf_X6_menOf v18 (w2 - 5) M2) fun r19 M20 => some (r19, M20)) else (some ((-1), M2))))))))))
section
variable {p : Program} {l : Launch} {e : Env} {s : State} {m : MethodId} {args : Array Value} {below : List Frame} {meth : Method} {c : Code} {Q : State → Prop} {D : va_G} {A : Nat → Prop} {o : Int32 × Me} {ad : Nat → Nat} {cI cL : ClassId} {b1 b2 : Nat}
set_option maxRecDepth 100000 in
set_option maxHeartbeats 4000000 in
theorem qk_X6_about_0 (cx : rx_C p m c cX6_about 3 s args wX6_about RX6 D vwCl (tX cI cL) (zX b1 b2) wN A) (hret : rx_RI p l e rm_X6_about s m args below meth c cX6_about D vwCl (wX ad cI cL) A Q o) {w1 : Int32} {w2 : Int32} {ls : Array Slot} {H : Heap} {locs : List Loc} {M : Me} (hw : rx_W D vwCl (wX ad cI cL) A s.heap M H locs) (hl : lv_has ls 3 [(0, .ref ((ad 0))), (1, .int w1), (2, .int w2)]) (hf : qf_X6_about w1 w2 M = some o) : W p l e rm_X6_about s m args below meth c H locs 0 0 Q (F0 m 0 ls []) := by
  have hx := cx.1.1
  have hb := cx.1.2.1
  refine lv_aload_n hx hb dX6_about_0 rfl (lv_at hl 0 rfl) ?_
  refine rx_getr cx hw (frX_0_1 ad cI cL) rfl (inT_X6) (Nat.le_of_ble_eq_true rfl) (.tail _ tw_305) dX6_about_1 ?_
  refine lv_iload_n hx hb dX6_about_4 rfl (lv_at hl 1 rfl) ?_
  obtain ⟨r1, M2, er1, hf⟩ := rx_clI hf
  refine rx_jVi cx hw (qc_X5_isRegion l D ad cI cL b1 b2 w1) (obX_2 ad cI cL) rfl rfl kfX5_isRegion tw_582 ⟨Nat.le_of_ble_eq_true rfl, Nat.le_of_ble_eq_true rfl, rfl, rfl⟩ rfl hl.1 (Nat.le_of_ble_eq_true rfl) ⟨Nat.zero_le _, Nat.zero_le _⟩ dX6_about_5 rfl er1 (fun H locs hw => ?_)
  refine lv_if_ne hx hb dX6_about_8 rfl (fun hc => ?_) (fun hc => ?_)
  · have hf := rx_f hc hf
    refine lv_iload_n hx hb dX6_about_13 rfl (lv_at hl 2 rfl) ?_
    by_cases hs0 : w2 = 0
    · have hf := rx_t hs0 hf
      refine lv_tableIn hx hb dX6_about_14 (by rw [hs0]; decide) (by rw [hs0]; decide) (by rw [hs0]; rfl) rfl ?_
      refine lv_aload_n hx hb dX6_about_60 rfl (lv_at hl 0 rfl) ?_
      refine rx_getr cx hw (frX_0_1 ad cI cL) rfl (inT_X6) (Nat.le_of_ble_eq_true rfl) (.tail _ tw_305) dX6_about_61 ?_
      refine lv_iload_n hx hb dX6_about_64 rfl (lv_at hl 1 rfl) ?_
      obtain ⟨r3, M4, er3, hf⟩ := rx_clI hf
      refine rx_jVi cx hw (qc_X5_kindOf l D ad cI cL b1 b2 w1) (obX_2 ad cI cL) rfl rfl kfX5_kindOf tw_576 ⟨Nat.le_of_ble_eq_true rfl, Nat.le_of_ble_eq_true rfl, rfl, rfl⟩ rfl hl.1 (Nat.le_of_ble_eq_true rfl) ⟨Nat.zero_le _, Nat.zero_le _⟩ dX6_about_65 rfl er3 (fun H locs hw => ?_)
      exact rx_reti hret hw hf dX6_about_68
    · have hf := rx_f hs0 hf
      by_cases hs1 : w2 = 1
      · have hf := rx_t hs1 hf
        refine lv_tableIn hx hb dX6_about_14 (by rw [hs1]; decide) (by rw [hs1]; decide) (by rw [hs1]; rfl) rfl ?_
        refine lv_aload_n hx hb dX6_about_69 rfl (lv_at hl 0 rfl) ?_
        refine rx_getr cx hw (frX_0_1 ad cI cL) rfl (inT_X6) (Nat.le_of_ble_eq_true rfl) (.tail _ tw_305) dX6_about_70 ?_
        refine rx_getrN cx hw (frX_2_1 ad cI cL) rfl (inT_X5) (Nat.le_of_ble_eq_true rfl) tn_134 dX6_about_73 ?_
        refine rx_getrN cx hw (frX_3_1 ad cI cL) rfl (inT_X3) (Nat.le_of_ble_eq_true rfl) tn_86 dX6_about_76 ?_
        refine lv_iload_n hx hb dX6_about_79 rfl (lv_at hl 1 rfl) ?_
        obtain ⟨hv5, v5, ev5, hf⟩ := rx_ldI hf
        refine rx_iald cx hw (arX_26 ad cI cL) ⟨hv5, ev5⟩ dX6_about_80 ?_
        obtain ⟨r6, M7, er6, hf⟩ := rx_clI hf
        refine rx_jSi cx hw (qc_J6_bitCount_X l D ad cI cL b1 b2 v5) kfJ6_bitCount tw_586 ⟨Nat.le_of_ble_eq_true rfl, Nat.le_of_ble_eq_true rfl, rfl, rfl⟩ rfl hl.1 (Nat.le_of_ble_eq_true rfl) ⟨Nat.zero_le _, Nat.zero_le _⟩ dX6_about_81 rfl er6 (fun H locs hw => ?_)
        exact rx_reti hret hw hf dX6_about_84
      · have hf := rx_f hs1 hf
        by_cases hs2 : w2 = 2
        · have hf := rx_t hs2 hf
          refine lv_tableIn hx hb dX6_about_14 (by rw [hs2]; decide) (by rw [hs2]; decide) (by rw [hs2]; rfl) rfl ?_
          refine lv_aload_n hx hb dX6_about_85 rfl (lv_at hl 0 rfl) ?_
          refine rx_getr cx hw (frX_0_1 ad cI cL) rfl (inT_X6) (Nat.le_of_ble_eq_true rfl) (.tail _ tw_305) dX6_about_86 ?_
          refine rx_getrN cx hw (frX_2_1 ad cI cL) rfl (inT_X5) (Nat.le_of_ble_eq_true rfl) tn_134 dX6_about_89 ?_
          refine rx_getrN cx hw (frX_3_2 ad cI cL) rfl (inT_X3) (Nat.le_of_ble_eq_true rfl) tn_89 dX6_about_92 ?_
          refine lv_iload_n hx hb dX6_about_95 rfl (lv_at hl 1 rfl) ?_
          obtain ⟨hv8, v8, ev8, hf⟩ := rx_ldI hf
          refine rx_iald cx hw (arX_27 ad cI cL) ⟨hv8, ev8⟩ dX6_about_96 ?_
          exact rx_reti hret hw hf dX6_about_97
        · have hf := rx_f hs2 hf
          by_cases hs3 : w2 = 3
          · have hf := rx_t hs3 hf
            refine lv_tableIn hx hb dX6_about_14 (by rw [hs3]; decide) (by rw [hs3]; decide) (by rw [hs3]; rfl) rfl ?_
            refine lv_aload_n hx hb dX6_about_98 rfl (lv_at hl 0 rfl) ?_
            refine rx_getr cx hw (frX_0_1 ad cI cL) rfl (inT_X6) (Nat.le_of_ble_eq_true rfl) (.tail _ tw_305) dX6_about_99 ?_
            refine rx_getrN cx hw (frX_2_1 ad cI cL) rfl (inT_X5) (Nat.le_of_ble_eq_true rfl) tn_134 dX6_about_102 ?_
            refine rx_getrN cx hw (frX_3_3 ad cI cL) rfl (inT_X3) (Nat.le_of_ble_eq_true rfl) tn_93 dX6_about_105 ?_
            refine lv_iload_n hx hb dX6_about_108 rfl (lv_at hl 1 rfl) ?_
            obtain ⟨hv9, v9, ev9, hf⟩ := rx_ldI hf
            refine rx_iald cx hw (arX_28 ad cI cL) ⟨hv9, ev9⟩ dX6_about_109 ?_
            exact rx_reti hret hw hf dX6_about_110
          · have hf := rx_f hs3 hf
            by_cases hs4 : w2 = 4
            · have hf := rx_t hs4 hf
              refine lv_tableIn hx hb dX6_about_14 (by rw [hs4]; decide) (by rw [hs4]; decide) (by rw [hs4]; rfl) rfl ?_
              refine lv_aload_n hx hb dX6_about_111 rfl (lv_at hl 0 rfl) ?_
              refine rx_getr cx hw (frX_0_1 ad cI cL) rfl (inT_X6) (Nat.le_of_ble_eq_true rfl) (.tail _ tw_305) dX6_about_112 ?_
              refine lv_iload_n hx hb dX6_about_115 rfl (lv_at hl 1 rfl) ?_
              obtain ⟨r10, M11, er10, hf⟩ := rx_clI hf
              refine rx_jVi cx hw (qc_X5_isFinished l D ad cI cL b1 b2 w1) (obX_2 ad cI cL) rfl rfl kfX5_isFinished tw_587 ⟨Nat.le_of_ble_eq_true rfl, Nat.le_of_ble_eq_true rfl, rfl, rfl⟩ rfl hl.1 (Nat.le_of_ble_eq_true rfl) ⟨Nat.zero_le _, Nat.zero_le _⟩ dX6_about_116 rfl er10 (fun H locs hw => ?_)
              refine lv_if_eq hx hb dX6_about_119 rfl (fun hc => ?_) (fun hc => ?_)
              · have hf := rx_t hc hf
                refine lv_iconst (v := 0) hx hb dX6_about_126 ic_0 ?_
                exact rx_reti hret hw hf dX6_about_127
              · have hf := rx_f hc hf
                refine lv_iconst (v := 1) hx hb dX6_about_122 ic_1 ?_
                refine lv_goto hx hb dX6_about_123 rfl ?_
                exact rx_reti hret hw hf dX6_about_127
            · have hf := rx_f hs4 hf
              by_cases hs5 : w2 = 5
              · have hf := rx_t hs5 hf
                refine lv_tableIn hx hb dX6_about_14 (by rw [hs5]; decide) (by rw [hs5]; decide) (by rw [hs5]; rfl) rfl ?_
                refine lv_aload_n hx hb dX6_about_128 rfl (lv_at hl 0 rfl) ?_
                refine rx_getr cx hw (frX_0_1 ad cI cL) rfl (inT_X6) (Nat.le_of_ble_eq_true rfl) (.tail _ tw_305) dX6_about_129 ?_
                refine rx_getrN cx hw (frX_2_1 ad cI cL) rfl (inT_X5) (Nat.le_of_ble_eq_true rfl) tn_134 dX6_about_132 ?_
                refine rx_getrN cx hw (frX_3_4 ad cI cL) rfl (inT_X3) (Nat.le_of_ble_eq_true rfl) tn_96 dX6_about_135 ?_
                refine lv_iload_n hx hb dX6_about_138 rfl (lv_at hl 1 rfl) ?_
                obtain ⟨hv12, v12, ev12, hf⟩ := rx_ldI hf
                refine rx_iald cx hw (arX_29 ad cI cL) ⟨hv12, ev12⟩ dX6_about_139 ?_
                refine lv_iload_n hx hb dX6_about_140 rfl (lv_at hl 2 rfl) ?_
                refine lv_iconst (v := 5) hx hb dX6_about_141 ic_5 ?_
                refine lv_isub hx hb dX6_about_142 ?_
                obtain ⟨r13, M14, er13, hf⟩ := rx_clI hf
                refine rx_jSi cx hw (qc_X6_menOf l D ad cI cL b1 b2 v12 (w2 - 5)) kfX6_menOf tw_557 ⟨Nat.le_of_ble_eq_true rfl, Nat.le_of_ble_eq_true rfl, rfl, rfl⟩ rfl hl.1 (Nat.le_of_ble_eq_true rfl) ⟨Nat.zero_le _, Nat.zero_le _⟩ dX6_about_143 rfl er13 (fun H locs hw => ?_)
                exact rx_reti hret hw hf dX6_about_146
              · have hf := rx_f hs5 hf
                by_cases hs6 : w2 = 6
                · have hf := rx_t hs6 hf
                  refine lv_tableIn hx hb dX6_about_14 (by rw [hs6]; decide) (by rw [hs6]; decide) (by rw [hs6]; rfl) rfl ?_
                  refine lv_aload_n hx hb dX6_about_128 rfl (lv_at hl 0 rfl) ?_
                  refine rx_getr cx hw (frX_0_1 ad cI cL) rfl (inT_X6) (Nat.le_of_ble_eq_true rfl) (.tail _ tw_305) dX6_about_129 ?_
                  refine rx_getrN cx hw (frX_2_1 ad cI cL) rfl (inT_X5) (Nat.le_of_ble_eq_true rfl) tn_134 dX6_about_132 ?_
                  refine rx_getrN cx hw (frX_3_4 ad cI cL) rfl (inT_X3) (Nat.le_of_ble_eq_true rfl) tn_96 dX6_about_135 ?_
                  refine lv_iload_n hx hb dX6_about_138 rfl (lv_at hl 1 rfl) ?_
                  obtain ⟨hv15, v15, ev15, hf⟩ := rx_ldI hf
                  refine rx_iald cx hw (arX_29 ad cI cL) ⟨hv15, ev15⟩ dX6_about_139 ?_
                  refine lv_iload_n hx hb dX6_about_140 rfl (lv_at hl 2 rfl) ?_
                  refine lv_iconst (v := 5) hx hb dX6_about_141 ic_5 ?_
                  refine lv_isub hx hb dX6_about_142 ?_
                  obtain ⟨r16, M17, er16, hf⟩ := rx_clI hf
                  refine rx_jSi cx hw (qc_X6_menOf l D ad cI cL b1 b2 v15 (w2 - 5)) kfX6_menOf tw_557 ⟨Nat.le_of_ble_eq_true rfl, Nat.le_of_ble_eq_true rfl, rfl, rfl⟩ rfl hl.1 (Nat.le_of_ble_eq_true rfl) ⟨Nat.zero_le _, Nat.zero_le _⟩ dX6_about_143 rfl er16 (fun H locs hw => ?_)
                  exact rx_reti hret hw hf dX6_about_146
                · have hf := rx_f hs6 hf
                  by_cases hs7 : w2 = 7
                  · have hf := rx_t hs7 hf
                    refine lv_tableIn hx hb dX6_about_14 (by rw [hs7]; decide) (by rw [hs7]; decide) (by rw [hs7]; rfl) rfl ?_
                    refine lv_aload_n hx hb dX6_about_128 rfl (lv_at hl 0 rfl) ?_
                    refine rx_getr cx hw (frX_0_1 ad cI cL) rfl (inT_X6) (Nat.le_of_ble_eq_true rfl) (.tail _ tw_305) dX6_about_129 ?_
                    refine rx_getrN cx hw (frX_2_1 ad cI cL) rfl (inT_X5) (Nat.le_of_ble_eq_true rfl) tn_134 dX6_about_132 ?_
                    refine rx_getrN cx hw (frX_3_4 ad cI cL) rfl (inT_X3) (Nat.le_of_ble_eq_true rfl) tn_96 dX6_about_135 ?_
                    refine lv_iload_n hx hb dX6_about_138 rfl (lv_at hl 1 rfl) ?_
                    obtain ⟨hv18, v18, ev18, hf⟩ := rx_ldI hf
                    refine rx_iald cx hw (arX_29 ad cI cL) ⟨hv18, ev18⟩ dX6_about_139 ?_
                    refine lv_iload_n hx hb dX6_about_140 rfl (lv_at hl 2 rfl) ?_
                    refine lv_iconst (v := 5) hx hb dX6_about_141 ic_5 ?_
                    refine lv_isub hx hb dX6_about_142 ?_
                    obtain ⟨r19, M20, er19, hf⟩ := rx_clI hf
                    refine rx_jSi cx hw (qc_X6_menOf l D ad cI cL b1 b2 v18 (w2 - 5)) kfX6_menOf tw_557 ⟨Nat.le_of_ble_eq_true rfl, Nat.le_of_ble_eq_true rfl, rfl, rfl⟩ rfl hl.1 (Nat.le_of_ble_eq_true rfl) ⟨Nat.zero_le _, Nat.zero_le _⟩ dX6_about_143 rfl er19 (fun H locs hw => ?_)
                    exact rx_reti hret hw hf dX6_about_146
                  · have hf := rx_f hs7 hf
                    refine lv_tableOut hx hb dX6_about_14 (by have := lv_neT hs0 it_0; have := lv_neT hs1 it_1; have := lv_neT hs2 it_2; have := lv_neT hs3 it_3; have := lv_neT hs4 it_4; have := lv_neT hs5 it_5; have := lv_neT hs6 it_6; have := lv_neT hs7 it_7; omega) rfl ?_
                    refine lv_iconst (v := (-1)) hx hb dX6_about_147 ic_m1 ?_
                    exact rx_reti hret hw hf dX6_about_148
  · have hf := rx_t hc hf
    refine lv_iconst (v := (-1)) hx hb dX6_about_11 ic_m1 ?_
    exact rx_reti hret hw hf dX6_about_12
end
set_option maxRecDepth 100000 in
theorem qc_X6_about (l : Launch) (D : va_G) (ad : Nat → Nat) (cI cL : ClassId) (b1 b2 : Nat) (w1 : Int32) (w2 : Int32) : rx_MI l yX6_about wX6_about rm_X6_about D vwCl (wX ad cI cL) (tX cI cL) (zX b1 b2) wN [.ref (ad 0), .int w1, .int w2] (fun M => qf_X6_about w1 w2 M) :=
  rx_ofI (by decide) rfl wN_ok (Nat.le_of_ble_eq_true rfl) (fun _ _ _ _ _ _ _ _ _ _ _ _ _ cx hret hw hl hf => qk_X6_about_0 cx hret hw hl hf)
def rm_X5_newFinishedCities : Room := { frames := 1, cells := 0, slots := 0, locals := 23 }
noncomputable def qb_X5_newFinishedCities_81 (k5 : Int32 → Int32 → Me → Op) (w1 : Int32) (w2 : Int32) (w3 : Int32) (w4 : Int32)  (M : Me) : Op :=
  rx_vv (w4 + 1) fun v1 => k5 w3 v1 M
noncomputable def qo_X5_newFinishedCities_5  (w1 : Int32) (w2 : Int32) (rec : Int32 → Int32 → Me → Op) (w3 : Int32) (w4 : Int32) (M : Me) : Op :=
  if 8 ≤ w4 then (some (w3, M)) else (if ((w2 >>> (w4 &&& 31)) &&& 1) = 0 then (qb_X5_newFinishedCities_81 rec w1 w2 w3 w4 M) else (rx_cl (qf_X3_rootOf ((w1 * 8) + w4) M) fun r1 M2 => rx_ld M2 28 192 r1 fun v3 => if v3 = 0 then (rx_ld M2 24 192 r1 fun v4 => rx_vv (M2 2 11) fun v5 => if v4 = v5 then (qb_X5_newFinishedCities_81 rec w1 w2 w3 w4 M2) else (rx_vv (M2 2 11) fun v6 => rx_sv M2 24 192 r1 v6 fun M7 => rx_vv (w3 + 1) fun v8 => qb_X5_newFinishedCities_81 rec w1 w2 v8 w4 M7)) else (qb_X5_newFinishedCities_81 rec w1 w2 w3 w4 M2)))
noncomputable def qf_X5_newFinishedCities  (w1 : Int32) (w2 : Int32)  (M : Me) : Op :=
  rx_lp2 (qo_X5_newFinishedCities_5 w1 w2) rx_FU 0 0 M
section
variable {p : Program} {l : Launch} {e : Env} {s : State} {m : MethodId} {args : Array Value} {below : List Frame} {meth : Method} {c : Code} {Q : State → Prop} {D : va_G} {A : Nat → Prop} {o : Int32 × Me} {ad : Nat → Nat} {cI cL : ClassId} {b1 b2 : Nat}
set_option maxRecDepth 100000 in
set_option maxHeartbeats 4000000 in
theorem qk_X5_newFinishedCities_81 (cx : rx_C p m c cX5_newFinishedCities 6 s args wX5_newFinishedCities RX5 D vwCl (tX cI cL) (zX b1 b2) wN A) (hret : rx_RI p l e rm_X5_newFinishedCities s m args below meth c cX5_newFinishedCities D vwCl (wX ad cI cL) A Q o) {w1 : Int32} {w2 : Int32} {w3 : Int32} {w4 : Int32} {k5 : Int32 → Int32 → Me → Op} (h5 : ∀ {a3 : Int32} {a4 : Int32} {ls : Array Slot} {H : Heap} {locs : List Loc} {M : Me}, rx_W D vwCl (wX ad cI cL) A s.heap M H locs → lv_has ls 6 [(0, .ref ((ad 2))), (1, .int w1), (2, .int w2), (3, .int a3), (4, .int a4)] → k5 a3 a4 M = some o → W p l e rm_X5_newFinishedCities s m args below meth c H locs 0 0 Q (F0 m 5 ls [])) {ls : Array Slot} {H : Heap} {locs : List Loc} {M : Me} (hw : rx_W D vwCl (wX ad cI cL) A s.heap M H locs) (hl : lv_has ls 6 [(0, .ref ((ad 2))), (1, .int w1), (2, .int w2), (3, .int w3), (4, .int w4)]) (hf : qb_X5_newFinishedCities_81 k5 w1 w2 w3 w4 M = some o) : W p l e rm_X5_newFinishedCities s m args below meth c H locs 0 0 Q (F0 m 81 ls []) := by
  have hx := cx.1.1
  have hb := cx.1.2.1
  obtain ⟨v1, ev1, hf⟩ := rx_vvI hf
  refine lv_iinc (lv' := [(4, .int v1), (0, .ref ((ad 2))), (1, .int w1), (2, .int w2), (3, .int w3)]) hx hb dX5_newFinishedCities_81 hl (k := 4) rfl (rx_inc ic_1 ev1) (Nat.le_of_ble_eq_true rfl) rfl (fun ls hl => ?_)
  refine lv_goto hx hb dX5_newFinishedCities_84 rfl ?_
  exact h5 hw (lv_sub hl [1, 2, 3, 4, 0] rfl) hf
set_option maxRecDepth 100000 in
set_option maxHeartbeats 4000000 in
theorem qk_X5_newFinishedCities_5 (cx : rx_C p m c cX5_newFinishedCities 6 s args wX5_newFinishedCities RX5 D vwCl (tX cI cL) (zX b1 b2) wN A) (hret : rx_RI p l e rm_X5_newFinishedCities s m args below meth c cX5_newFinishedCities D vwCl (wX ad cI cL) A Q o) {w1 : Int32} {w2 : Int32} : ∀ (n : Nat) {w3 : Int32} {w4 : Int32} {ls : Array Slot} {H : Heap} {locs : List Loc} {M : Me}, rx_W D vwCl (wX ad cI cL) A s.heap M H locs → lv_has ls 6 [(0, .ref ((ad 2))), (1, .int w1), (2, .int w2), (3, .int w3), (4, .int w4)] → rx_lp2 (qo_X5_newFinishedCities_5 w1 w2) n w3 w4 M = some o → W p l e rm_X5_newFinishedCities s m args below meth c H locs 0 0 Q (F0 m 5 ls []) := by
  have hx := cx.1.1
  have hb := cx.1.2.1
  intro n
  induction n with
  | zero => intro w3 w4 ls H locs M hw hl hf; exact rx_no hf
  | succ n ih =>
    intro w3 w4 ls H locs M hw hl hf
    have hf : qo_X5_newFinishedCities_5 w1 w2 (rx_lp2 (qo_X5_newFinishedCities_5 w1 w2) n) w3 w4 M = some o := hf
    refine lv_iload hx hb dX5_newFinishedCities_5 (lv_at hl 4 rfl) ?_
    refine lv_bipush (v := 8) hx hb dX5_newFinishedCities_7 ib_8 ?_
    refine lv_icmp_ge hx hb dX5_newFinishedCities_9 rfl (fun hc => ?_) (fun hc => ?_)
    · have hf := rx_t hc hf
      refine lv_iload_n hx hb dX5_newFinishedCities_87 rfl (lv_at hl 3 rfl) ?_
      exact rx_reti hret hw hf dX5_newFinishedCities_88
    · have hf := rx_f hc hf
      refine lv_iload_n hx hb dX5_newFinishedCities_12 rfl (lv_at hl 2 rfl) ?_
      refine lv_iload hx hb dX5_newFinishedCities_13 (lv_at hl 4 rfl) ?_
      refine lv_ishr hx hb dX5_newFinishedCities_15 ?_
      refine lv_iconst (v := 1) hx hb dX5_newFinishedCities_16 ic_1 ?_
      refine lv_iand hx hb dX5_newFinishedCities_17 ?_
      refine lv_if_ne hx hb dX5_newFinishedCities_18 rfl (fun hc => ?_) (fun hc => ?_)
      · have hf := rx_f hc hf
        refine lv_aload_n hx hb dX5_newFinishedCities_24 rfl (lv_at hl 0 rfl) ?_
        refine rx_getr cx hw (frX_2_1 ad cI cL) rfl (inT_X5) (Nat.le_of_ble_eq_true rfl) (.tail _ tw_132) dX5_newFinishedCities_25 ?_
        refine lv_iload_n hx hb dX5_newFinishedCities_28 rfl (lv_at hl 1 rfl) ?_
        refine lv_bipush (v := 8) hx hb dX5_newFinishedCities_29 ib_8 ?_
        refine lv_imul hx hb dX5_newFinishedCities_31 ?_
        refine lv_iload hx hb dX5_newFinishedCities_32 (lv_at hl 4 rfl) ?_
        refine lv_iadd hx hb dX5_newFinishedCities_34 ?_
        obtain ⟨r1, M2, er1, hf⟩ := rx_clI hf
        refine rx_jVi cx hw (qc_X3_rootOf l D ad cI cL b1 b2 ((w1 * 8) + w4)) (obX_3 ad cI cL) rfl rfl kfX3_rootOf tw_405 ⟨Nat.le_of_ble_eq_true rfl, Nat.le_of_ble_eq_true rfl, rfl, rfl⟩ rfl hl.1 (Nat.le_of_ble_eq_true rfl) ⟨Nat.zero_le _, Nat.zero_le _⟩ dX5_newFinishedCities_35 rfl er1 (fun H locs hw => ?_)
        refine lv_istore (lv' := [(5, .int r1), (0, .ref ((ad 2))), (1, .int w1), (2, .int w2), (3, .int w3), (4, .int w4)]) hx hb dX5_newFinishedCities_38 hl (Nat.le_of_ble_eq_true rfl) rfl (fun ls hl => ?_)
        refine lv_aload_n hx hb dX5_newFinishedCities_40 rfl (lv_at hl 1 rfl) ?_
        refine rx_getr cx hw (frX_2_1 ad cI cL) rfl (inT_X5) (Nat.le_of_ble_eq_true rfl) (.tail _ tw_132) dX5_newFinishedCities_41 ?_
        refine rx_getrN cx hw (frX_3_3 ad cI cL) rfl (inT_X3) (Nat.le_of_ble_eq_true rfl) tn_92 dX5_newFinishedCities_44 ?_
        refine lv_iload hx hb dX5_newFinishedCities_47 (lv_at hl 0 rfl) ?_
        obtain ⟨hv3, v3, ev3, hf⟩ := rx_ldI hf
        refine rx_iald cx hw (arX_28 ad cI cL) ⟨hv3, ev3⟩ dX5_newFinishedCities_49 ?_
        refine lv_if_ne hx hb dX5_newFinishedCities_50 rfl (fun hc => ?_) (fun hc => ?_)
        · have hf := rx_f hc hf
          exact (qk_X5_newFinishedCities_81 cx hret ih) hw (lv_sub hl [1, 2, 3, 4, 5] rfl) hf
        · have hf := rx_t hc hf
          refine lv_aload_n hx hb dX5_newFinishedCities_53 rfl (lv_at hl 1 rfl) ?_
          refine rx_getr cx hw (frX_2_10 ad cI cL) rfl (inT_X5) (Nat.le_of_ble_eq_true rfl) (.tail _ tw_148) dX5_newFinishedCities_54 ?_
          refine lv_iload hx hb dX5_newFinishedCities_57 (lv_at hl 0 rfl) ?_
          obtain ⟨hv4, v4, ev4, hf⟩ := rx_ldI hf
          refine rx_iald cx hw (arX_24 ad cI cL) ⟨hv4, ev4⟩ dX5_newFinishedCities_59 ?_
          refine lv_aload_n hx hb dX5_newFinishedCities_60 rfl (lv_at hl 1 rfl) ?_
          obtain ⟨v5, ev5, hf⟩ := rx_vvI hf
          refine rx_geti cx hw (fiX_2_11 ad cI cL) rfl (inT_X5) (Nat.le_of_ble_eq_true rfl) (.tail _ tw_149) ev5 dX5_newFinishedCities_61 ?_
          refine lv_icmp_eq hx hb dX5_newFinishedCities_64 rfl (fun hc => ?_) (fun hc => ?_)
          · have hf := rx_t hc hf
            exact (qk_X5_newFinishedCities_81 cx hret ih) hw (lv_sub hl [1, 2, 3, 4, 5] rfl) hf
          · have hf := rx_f hc hf
            refine lv_aload_n hx hb dX5_newFinishedCities_67 rfl (lv_at hl 1 rfl) ?_
            refine rx_getr cx hw (frX_2_10 ad cI cL) rfl (inT_X5) (Nat.le_of_ble_eq_true rfl) (.tail _ tw_148) dX5_newFinishedCities_68 ?_
            refine lv_iload hx hb dX5_newFinishedCities_71 (lv_at hl 0 rfl) ?_
            refine lv_aload_n hx hb dX5_newFinishedCities_73 rfl (lv_at hl 1 rfl) ?_
            obtain ⟨v6, ev6, hf⟩ := rx_vvI hf
            refine rx_geti cx hw (fiX_2_11 ad cI cL) rfl (inT_X5) (Nat.le_of_ble_eq_true rfl) (.tail _ tw_149) ev6 dX5_newFinishedCities_74 ?_
            obtain ⟨hM7, M7, eM7, hf⟩ := rx_svI hf
            refine rx_iast cx hw (arX_24 ad cI cL) ⟨hM7, eM7⟩ dX5_newFinishedCities_77 (fun H locs hw => ?_)
            obtain ⟨v8, ev8, hf⟩ := rx_vvI hf
            refine lv_iinc (lv' := [(3, .int v8), (5, .int r1), (0, .ref ((ad 2))), (1, .int w1), (2, .int w2), (4, .int w4)]) hx hb dX5_newFinishedCities_78 hl (k := 4) rfl (rx_inc ic_1 ev8) (Nat.le_of_ble_eq_true rfl) rfl (fun ls hl => ?_)
            exact (qk_X5_newFinishedCities_81 cx hret ih) hw (lv_sub hl [2, 3, 4, 0, 5] rfl) hf
      · have hf := rx_t hc hf
        refine lv_goto hx hb dX5_newFinishedCities_21 rfl ?_
        exact (qk_X5_newFinishedCities_81 cx hret ih) hw hl hf
set_option maxRecDepth 100000 in
set_option maxHeartbeats 4000000 in
theorem qk_X5_newFinishedCities_0 (cx : rx_C p m c cX5_newFinishedCities 6 s args wX5_newFinishedCities RX5 D vwCl (tX cI cL) (zX b1 b2) wN A) (hret : rx_RI p l e rm_X5_newFinishedCities s m args below meth c cX5_newFinishedCities D vwCl (wX ad cI cL) A Q o) {w1 : Int32} {w2 : Int32} {ls : Array Slot} {H : Heap} {locs : List Loc} {M : Me} (hw : rx_W D vwCl (wX ad cI cL) A s.heap M H locs) (hl : lv_has ls 6 [(0, .ref ((ad 2))), (1, .int w1), (2, .int w2)]) (hf : qf_X5_newFinishedCities w1 w2 M = some o) : W p l e rm_X5_newFinishedCities s m args below meth c H locs 0 0 Q (F0 m 0 ls []) := by
  have hx := cx.1.1
  have hb := cx.1.2.1
  refine lv_iconst (v := 0) hx hb dX5_newFinishedCities_0 ic_0 ?_
  refine lv_istore_n (lv' := [(3, .int 0), (0, .ref ((ad 2))), (1, .int w1), (2, .int w2)]) hx hb dX5_newFinishedCities_1 rfl hl (Nat.le_of_ble_eq_true rfl) rfl (fun ls hl => ?_)
  refine lv_iconst (v := 0) hx hb dX5_newFinishedCities_2 ic_0 ?_
  refine lv_istore (lv' := [(4, .int 0), (3, .int 0), (0, .ref ((ad 2))), (1, .int w1), (2, .int w2)]) hx hb dX5_newFinishedCities_3 hl (Nat.le_of_ble_eq_true rfl) rfl (fun ls hl => ?_)
  exact (qk_X5_newFinishedCities_5 cx hret rx_FU) hw (lv_sub hl [2, 3, 4, 1, 0] rfl) hf
end
set_option maxRecDepth 100000 in
theorem qc_X5_newFinishedCities (l : Launch) (D : va_G) (ad : Nat → Nat) (cI cL : ClassId) (b1 b2 : Nat) (w1 : Int32) (w2 : Int32) : rx_MI l yX5_newFinishedCities wX5_newFinishedCities rm_X5_newFinishedCities D vwCl (wX ad cI cL) (tX cI cL) (zX b1 b2) wN [.ref (ad 2), .int w1, .int w2] (fun M => qf_X5_newFinishedCities w1 w2 M) :=
  rx_ofI (by decide) rfl wN_ok (Nat.le_of_ble_eq_true rfl) (fun _ _ _ _ _ _ _ _ _ _ _ _ _ cx hret hw hl hf => qk_X5_newFinishedCities_0 cx hret hw hl hf)
def rm_X5_finishedCitiesAt : Room := { frames := 2, cells := 0, slots := 0, locals := 48 }
noncomputable def qb_X5_finishedCitiesAt_106 (k44 : Int32 → Int32 → Me → Op) (w1 : Int32) (w2 : Int32) (w3 : Int32) (w4 : Int32)  (M : Me) : Op :=
  rx_vv (w4 + 1) fun v1 => k44 w2 v1 M
noncomputable def qo_X5_finishedCitiesAt_44 (k112 : Int32 → Me → Op) (w1 : Int32) (w3 : Int32) (rec : Int32 → Int32 → Me → Op) (w2 : Int32) (w4 : Int32) (M : Me) : Op :=
  if 8 ≤ w4 then (k112 w2 M) else (rx_ld M 21 24 w3 fun v1 => rx_ld M 13 96 ((v1 * 8) + w4) fun v2 => if v2 = 0 then (qb_X5_finishedCitiesAt_106 rec w1 w2 w3 w4 M) else (rx_cl (qf_X3_rootOf ((w3 * 8) + w4) M) fun r3 M4 => if r3 = w1 then (rx_cl (qf_X5_newFinishedCities w3 v2 M4) fun r5 M6 => rx_vv (w2 + r5) fun v7 => qb_X5_finishedCitiesAt_106 rec w1 v7 w3 w4 M6) else (qb_X5_finishedCitiesAt_106 rec w1 w2 w3 w4 M4)))
noncomputable def qb_X5_finishedCitiesAt_112 (k14 : Int32 → Int32 → Me → Op) (w1 : Int32) (w2 : Int32) (w3 : Int32)  (M : Me) : Op :=
  rx_vv (w3 + 1) fun v1 => k14 w2 v1 M
noncomputable def qo_X5_finishedCitiesAt_14  (w1 : Int32) (rec : Int32 → Int32 → Me → Op) (w2 : Int32) (w3 : Int32) (M : Me) : Op :=
  rx_vv (M 2 9) fun v1 => if v1 ≤ w3 then (some (w2, M)) else (rx_ld M 26 192 w1 fun v2 => if ((v2 >>> (w3 &&& 31)) &&& 1) = 0 then (qb_X5_finishedCitiesAt_112 rec w1 w2 w3 M) else (rx_lp2 (qo_X5_finishedCitiesAt_44 (fun a2 M => qb_X5_finishedCitiesAt_112 rec w1 a2 w3 M) w1 w3) rx_FU w2 0 M))
noncomputable def qf_X5_finishedCitiesAt  (w1 : Int32)  (M : Me) : Op :=
  rx_vv (M 2 11) fun v1 => rx_vv (rx_st M 2 11 (v1 + 1)) fun M2 => rx_lp2 (qo_X5_finishedCitiesAt_14 w1) rx_FU 0 0 M2
section
variable {p : Program} {l : Launch} {e : Env} {s : State} {m : MethodId} {args : Array Value} {below : List Frame} {meth : Method} {c : Code} {Q : State → Prop} {D : va_G} {A : Nat → Prop} {o : Int32 × Me} {ad : Nat → Nat} {cI cL : ClassId} {b1 b2 : Nat}
set_option maxRecDepth 100000 in
set_option maxHeartbeats 4000000 in
theorem qk_X5_finishedCitiesAt_106 (cx : rx_C p m c cX5_finishedCitiesAt 6 s args wX5_finishedCitiesAt RX5 D vwCl (tX cI cL) (zX b1 b2) wN A) (hret : rx_RI p l e rm_X5_finishedCitiesAt s m args below meth c cX5_finishedCitiesAt D vwCl (wX ad cI cL) A Q o) {w1 : Int32} {w2 : Int32} {w3 : Int32} {w4 : Int32} {k44 : Int32 → Int32 → Me → Op} (h44 : ∀ {a2 : Int32} {a4 : Int32} {ls : Array Slot} {H : Heap} {locs : List Loc} {M : Me}, rx_W D vwCl (wX ad cI cL) A s.heap M H locs → lv_has ls 6 [(0, .ref ((ad 2))), (1, .int w1), (2, .int a2), (3, .int w3), (4, .int a4)] → k44 a2 a4 M = some o → W p l e rm_X5_finishedCitiesAt s m args below meth c H locs 0 0 Q (F0 m 44 ls [])) {ls : Array Slot} {H : Heap} {locs : List Loc} {M : Me} (hw : rx_W D vwCl (wX ad cI cL) A s.heap M H locs) (hl : lv_has ls 6 [(0, .ref ((ad 2))), (1, .int w1), (2, .int w2), (3, .int w3), (4, .int w4)]) (hf : qb_X5_finishedCitiesAt_106 k44 w1 w2 w3 w4 M = some o) : W p l e rm_X5_finishedCitiesAt s m args below meth c H locs 0 0 Q (F0 m 106 ls []) := by
  have hx := cx.1.1
  have hb := cx.1.2.1
  obtain ⟨v1, ev1, hf⟩ := rx_vvI hf
  refine lv_iinc (lv' := [(4, .int v1), (0, .ref ((ad 2))), (1, .int w1), (2, .int w2), (3, .int w3)]) hx hb dX5_finishedCitiesAt_106 hl (k := 4) rfl (rx_inc ic_1 ev1) (Nat.le_of_ble_eq_true rfl) rfl (fun ls hl => ?_)
  refine lv_goto hx hb dX5_finishedCitiesAt_109 rfl ?_
  exact h44 hw (lv_sub hl [1, 2, 3, 4, 0] rfl) hf
set_option maxRecDepth 100000 in
set_option maxHeartbeats 4000000 in
theorem qk_X5_finishedCitiesAt_44 (cx : rx_C p m c cX5_finishedCitiesAt 6 s args wX5_finishedCitiesAt RX5 D vwCl (tX cI cL) (zX b1 b2) wN A) (hret : rx_RI p l e rm_X5_finishedCitiesAt s m args below meth c cX5_finishedCitiesAt D vwCl (wX ad cI cL) A Q o) {w1 : Int32} {w3 : Int32} {k112 : Int32 → Me → Op} (h112 : ∀ {a2 : Int32} {ls : Array Slot} {H : Heap} {locs : List Loc} {M : Me}, rx_W D vwCl (wX ad cI cL) A s.heap M H locs → lv_has ls 6 [(0, .ref ((ad 2))), (1, .int w1), (2, .int a2), (3, .int w3)] → k112 a2 M = some o → W p l e rm_X5_finishedCitiesAt s m args below meth c H locs 0 0 Q (F0 m 112 ls [])) : ∀ (n : Nat) {w2 : Int32} {w4 : Int32} {ls : Array Slot} {H : Heap} {locs : List Loc} {M : Me}, rx_W D vwCl (wX ad cI cL) A s.heap M H locs → lv_has ls 6 [(0, .ref ((ad 2))), (1, .int w1), (2, .int w2), (3, .int w3), (4, .int w4)] → rx_lp2 (qo_X5_finishedCitiesAt_44 k112 w1 w3) n w2 w4 M = some o → W p l e rm_X5_finishedCitiesAt s m args below meth c H locs 0 0 Q (F0 m 44 ls []) := by
  have hx := cx.1.1
  have hb := cx.1.2.1
  intro n
  induction n with
  | zero => intro w2 w4 ls H locs M hw hl hf; exact rx_no hf
  | succ n ih =>
    intro w2 w4 ls H locs M hw hl hf
    have hf : qo_X5_finishedCitiesAt_44 k112 w1 w3 (rx_lp2 (qo_X5_finishedCitiesAt_44 k112 w1 w3) n) w2 w4 M = some o := hf
    refine lv_iload hx hb dX5_finishedCitiesAt_44 (lv_at hl 4 rfl) ?_
    refine lv_bipush (v := 8) hx hb dX5_finishedCitiesAt_46 ib_8 ?_
    refine lv_icmp_ge hx hb dX5_finishedCitiesAt_48 rfl (fun hc => ?_) (fun hc => ?_)
    · have hf := rx_t hc hf
      exact h112 hw (lv_sub hl [0, 1, 2, 3] rfl) hf
    · have hf := rx_f hc hf
      refine lv_aload_n hx hb dX5_finishedCitiesAt_51 rfl (lv_at hl 0 rfl) ?_
      refine rx_getr cx hw (frX_2_0 ad cI cL) rfl (inT_X5) (Nat.le_of_ble_eq_true rfl) (.tail _ tw_131) dX5_finishedCitiesAt_52 ?_
      refine rx_getrN cx hw (frX_1_4 ad cI cL) rfl (inT_X0) (Nat.le_of_ble_eq_true rfl) tn_36 dX5_finishedCitiesAt_55 ?_
      refine lv_aload_n hx hb dX5_finishedCitiesAt_58 rfl (lv_at hl 0 rfl) ?_
      refine rx_getr cx hw (frX_2_6 ad cI cL) rfl (inT_X5) (Nat.le_of_ble_eq_true rfl) (.tail _ tw_141) dX5_finishedCitiesAt_59 ?_
      refine lv_iload_n hx hb dX5_finishedCitiesAt_62 rfl (lv_at hl 3 rfl) ?_
      obtain ⟨hv1, v1, ev1, hf⟩ := rx_ldI hf
      refine rx_iald cx hw (arX_21 ad cI cL) ⟨hv1, ev1⟩ dX5_finishedCitiesAt_63 ?_
      refine lv_bipush (v := 8) hx hb dX5_finishedCitiesAt_64 ib_8 ?_
      refine lv_imul hx hb dX5_finishedCitiesAt_66 ?_
      refine lv_iload hx hb dX5_finishedCitiesAt_67 (lv_at hl 4 rfl) ?_
      refine lv_iadd hx hb dX5_finishedCitiesAt_69 ?_
      obtain ⟨hv2, v2, ev2, hf⟩ := rx_ldI hf
      refine rx_iald cx hw (arX_13 ad cI cL) ⟨hv2, ev2⟩ dX5_finishedCitiesAt_70 ?_
      refine lv_istore (lv' := [(5, .int v2), (0, .ref ((ad 2))), (1, .int w1), (2, .int w2), (3, .int w3), (4, .int w4)]) hx hb dX5_finishedCitiesAt_71 hl (Nat.le_of_ble_eq_true rfl) rfl (fun ls hl => ?_)
      refine lv_iload hx hb dX5_finishedCitiesAt_73 (lv_at hl 0 rfl) ?_
      refine lv_if_eq hx hb dX5_finishedCitiesAt_75 rfl (fun hc => ?_) (fun hc => ?_)
      · have hf := rx_t hc hf
        exact (qk_X5_finishedCitiesAt_106 cx hret ih) hw (lv_sub hl [1, 2, 3, 4, 5] rfl) hf
      · have hf := rx_f hc hf
        refine lv_aload_n hx hb dX5_finishedCitiesAt_78 rfl (lv_at hl 1 rfl) ?_
        refine rx_getr cx hw (frX_2_1 ad cI cL) rfl (inT_X5) (Nat.le_of_ble_eq_true rfl) (.tail _ tw_132) dX5_finishedCitiesAt_79 ?_
        refine lv_iload_n hx hb dX5_finishedCitiesAt_82 rfl (lv_at hl 4 rfl) ?_
        refine lv_bipush (v := 8) hx hb dX5_finishedCitiesAt_83 ib_8 ?_
        refine lv_imul hx hb dX5_finishedCitiesAt_85 ?_
        refine lv_iload hx hb dX5_finishedCitiesAt_86 (lv_at hl 5 rfl) ?_
        refine lv_iadd hx hb dX5_finishedCitiesAt_88 ?_
        obtain ⟨r3, M4, er3, hf⟩ := rx_clI hf
        refine rx_jVi cx hw (qc_X3_rootOf l D ad cI cL b1 b2 ((w3 * 8) + w4)) (obX_3 ad cI cL) rfl rfl kfX3_rootOf tw_405 ⟨Nat.le_of_ble_eq_true rfl, Nat.le_of_ble_eq_true rfl, rfl, rfl⟩ rfl hl.1 (Nat.le_of_ble_eq_true rfl) ⟨Nat.zero_le _, Nat.zero_le _⟩ dX5_finishedCitiesAt_89 rfl er3 (fun H locs hw => ?_)
        refine lv_iload_n hx hb dX5_finishedCitiesAt_92 rfl (lv_at hl 2 rfl) ?_
        refine lv_icmp_ne hx hb dX5_finishedCitiesAt_93 rfl (fun hc => ?_) (fun hc => ?_)
        · have hf := rx_f hc hf
          exact (qk_X5_finishedCitiesAt_106 cx hret ih) hw (lv_sub hl [1, 2, 3, 4, 5] rfl) hf
        · have hf := rx_t hc hf
          refine lv_iload_n hx hb dX5_finishedCitiesAt_96 rfl (lv_at hl 3 rfl) ?_
          refine lv_aload_n hx hb dX5_finishedCitiesAt_97 rfl (lv_at hl 1 rfl) ?_
          refine lv_iload_n hx hb dX5_finishedCitiesAt_98 rfl (lv_at hl 4 rfl) ?_
          refine lv_iload hx hb dX5_finishedCitiesAt_99 (lv_at hl 0 rfl) ?_
          obtain ⟨r5, M6, er5, hf⟩ := rx_clI hf
          refine rx_jVi cx hw (qc_X5_newFinishedCities l D ad cI cL b1 b2 w3 v2) (obX_2 ad cI cL) rfl rfl kfX5_newFinishedCities tw_604 ⟨Nat.le_of_ble_eq_true rfl, Nat.le_of_ble_eq_true rfl, rfl, rfl⟩ rfl hl.1 (Nat.le_of_ble_eq_true rfl) ⟨Nat.zero_le _, Nat.zero_le _⟩ dX5_finishedCitiesAt_101 rfl er5 (fun H locs hw => ?_)
          refine lv_iadd hx hb dX5_finishedCitiesAt_104 ?_
          obtain ⟨v7, ev7, hf⟩ := rx_vvI hf
          refine rx_top ev7 ?_
          refine lv_istore_n (lv' := [(2, .int v7), (5, .int v2), (0, .ref ((ad 2))), (1, .int w1), (3, .int w3), (4, .int w4)]) hx hb dX5_finishedCitiesAt_105 rfl hl (Nat.le_of_ble_eq_true rfl) rfl (fun ls hl => ?_)
          exact (qk_X5_finishedCitiesAt_106 cx hret ih) hw (lv_sub hl [2, 3, 0, 4, 5] rfl) hf
set_option maxRecDepth 100000 in
set_option maxHeartbeats 4000000 in
theorem qk_X5_finishedCitiesAt_112 (cx : rx_C p m c cX5_finishedCitiesAt 6 s args wX5_finishedCitiesAt RX5 D vwCl (tX cI cL) (zX b1 b2) wN A) (hret : rx_RI p l e rm_X5_finishedCitiesAt s m args below meth c cX5_finishedCitiesAt D vwCl (wX ad cI cL) A Q o) {w1 : Int32} {w2 : Int32} {w3 : Int32} {k14 : Int32 → Int32 → Me → Op} (h14 : ∀ {a2 : Int32} {a3 : Int32} {ls : Array Slot} {H : Heap} {locs : List Loc} {M : Me}, rx_W D vwCl (wX ad cI cL) A s.heap M H locs → lv_has ls 6 [(0, .ref ((ad 2))), (1, .int w1), (2, .int a2), (3, .int a3)] → k14 a2 a3 M = some o → W p l e rm_X5_finishedCitiesAt s m args below meth c H locs 0 0 Q (F0 m 14 ls [])) {ls : Array Slot} {H : Heap} {locs : List Loc} {M : Me} (hw : rx_W D vwCl (wX ad cI cL) A s.heap M H locs) (hl : lv_has ls 6 [(0, .ref ((ad 2))), (1, .int w1), (2, .int w2), (3, .int w3)]) (hf : qb_X5_finishedCitiesAt_112 k14 w1 w2 w3 M = some o) : W p l e rm_X5_finishedCitiesAt s m args below meth c H locs 0 0 Q (F0 m 112 ls []) := by
  have hx := cx.1.1
  have hb := cx.1.2.1
  obtain ⟨v1, ev1, hf⟩ := rx_vvI hf
  refine lv_iinc (lv' := [(3, .int v1), (0, .ref ((ad 2))), (1, .int w1), (2, .int w2)]) hx hb dX5_finishedCitiesAt_112 hl (k := 3) rfl (rx_inc ic_1 ev1) (Nat.le_of_ble_eq_true rfl) rfl (fun ls hl => ?_)
  refine lv_goto hx hb dX5_finishedCitiesAt_115 rfl ?_
  exact h14 hw (lv_sub hl [1, 2, 3, 0] rfl) hf
set_option maxRecDepth 100000 in
set_option maxHeartbeats 4000000 in
theorem qk_X5_finishedCitiesAt_14 (cx : rx_C p m c cX5_finishedCitiesAt 6 s args wX5_finishedCitiesAt RX5 D vwCl (tX cI cL) (zX b1 b2) wN A) (hret : rx_RI p l e rm_X5_finishedCitiesAt s m args below meth c cX5_finishedCitiesAt D vwCl (wX ad cI cL) A Q o) {w1 : Int32} : ∀ (n : Nat) {w2 : Int32} {w3 : Int32} {ls : Array Slot} {H : Heap} {locs : List Loc} {M : Me}, rx_W D vwCl (wX ad cI cL) A s.heap M H locs → lv_has ls 6 [(0, .ref ((ad 2))), (1, .int w1), (2, .int w2), (3, .int w3)] → rx_lp2 (qo_X5_finishedCitiesAt_14 w1) n w2 w3 M = some o → W p l e rm_X5_finishedCitiesAt s m args below meth c H locs 0 0 Q (F0 m 14 ls []) := by
  have hx := cx.1.1
  have hb := cx.1.2.1
  intro n
  induction n with
  | zero => intro w2 w3 ls H locs M hw hl hf; exact rx_no hf
  | succ n ih =>
    intro w2 w3 ls H locs M hw hl hf
    have hf : qo_X5_finishedCitiesAt_14 w1 (rx_lp2 (qo_X5_finishedCitiesAt_14 w1) n) w2 w3 M = some o := hf
    refine lv_iload_n hx hb dX5_finishedCitiesAt_14 rfl (lv_at hl 3 rfl) ?_
    refine lv_aload_n hx hb dX5_finishedCitiesAt_15 rfl (lv_at hl 0 rfl) ?_
    obtain ⟨v1, ev1, hf⟩ := rx_vvI hf
    refine rx_geti cx hw (fiX_2_9 ad cI cL) rfl (inT_X5) (Nat.le_of_ble_eq_true rfl) (.tail _ tw_145) ev1 dX5_finishedCitiesAt_16 ?_
    refine lv_icmp_ge hx hb dX5_finishedCitiesAt_19 rfl (fun hc => ?_) (fun hc => ?_)
    · have hf := rx_t hc hf
      refine lv_iload_n hx hb dX5_finishedCitiesAt_118 rfl (lv_at hl 2 rfl) ?_
      exact rx_reti hret hw hf dX5_finishedCitiesAt_119
    · have hf := rx_f hc hf
      refine lv_aload_n hx hb dX5_finishedCitiesAt_22 rfl (lv_at hl 0 rfl) ?_
      refine rx_getr cx hw (frX_2_1 ad cI cL) rfl (inT_X5) (Nat.le_of_ble_eq_true rfl) (.tail _ tw_132) dX5_finishedCitiesAt_23 ?_
      refine rx_getrN cx hw (frX_3_1 ad cI cL) rfl (inT_X3) (Nat.le_of_ble_eq_true rfl) tn_87 dX5_finishedCitiesAt_26 ?_
      refine lv_iload_n hx hb dX5_finishedCitiesAt_29 rfl (lv_at hl 1 rfl) ?_
      obtain ⟨hv2, v2, ev2, hf⟩ := rx_ldI hf
      refine rx_iald cx hw (arX_26 ad cI cL) ⟨hv2, ev2⟩ dX5_finishedCitiesAt_30 ?_
      refine lv_iload_n hx hb dX5_finishedCitiesAt_31 rfl (lv_at hl 3 rfl) ?_
      refine lv_ishr hx hb dX5_finishedCitiesAt_32 ?_
      refine lv_iconst (v := 1) hx hb dX5_finishedCitiesAt_33 ic_1 ?_
      refine lv_iand hx hb dX5_finishedCitiesAt_34 ?_
      refine lv_if_ne hx hb dX5_finishedCitiesAt_35 rfl (fun hc => ?_) (fun hc => ?_)
      · have hf := rx_f hc hf
        refine lv_iconst (v := 0) hx hb dX5_finishedCitiesAt_41 ic_0 ?_
        refine lv_istore (lv' := [(4, .int 0), (0, .ref ((ad 2))), (1, .int w1), (2, .int w2), (3, .int w3)]) hx hb dX5_finishedCitiesAt_42 hl (Nat.le_of_ble_eq_true rfl) rfl (fun ls hl => ?_)
        exact (qk_X5_finishedCitiesAt_44 cx hret (qk_X5_finishedCitiesAt_112 cx hret ih) rx_FU) hw (lv_sub hl [1, 2, 3, 4, 0] rfl) hf
      · have hf := rx_t hc hf
        refine lv_goto hx hb dX5_finishedCitiesAt_38 rfl ?_
        exact (qk_X5_finishedCitiesAt_112 cx hret ih) hw hl hf
set_option maxRecDepth 100000 in
set_option maxHeartbeats 4000000 in
theorem qk_X5_finishedCitiesAt_0 (cx : rx_C p m c cX5_finishedCitiesAt 6 s args wX5_finishedCitiesAt RX5 D vwCl (tX cI cL) (zX b1 b2) wN A) (hret : rx_RI p l e rm_X5_finishedCitiesAt s m args below meth c cX5_finishedCitiesAt D vwCl (wX ad cI cL) A Q o) {w1 : Int32} {ls : Array Slot} {H : Heap} {locs : List Loc} {M : Me} (hw : rx_W D vwCl (wX ad cI cL) A s.heap M H locs) (hl : lv_has ls 6 [(0, .ref ((ad 2))), (1, .int w1)]) (hf : qf_X5_finishedCitiesAt w1 M = some o) : W p l e rm_X5_finishedCitiesAt s m args below meth c H locs 0 0 Q (F0 m 0 ls []) := by
  have hx := cx.1.1
  have hb := cx.1.2.1
  refine lv_aload_n hx hb dX5_finishedCitiesAt_0 rfl (lv_at hl 0 rfl) ?_
  refine lv_dup hx hb dX5_finishedCitiesAt_1 rfl ?_
  obtain ⟨v1, ev1, hf⟩ := rx_vvI hf
  refine rx_geti cx hw (fiX_2_11 ad cI cL) rfl (inT_X5) (Nat.le_of_ble_eq_true rfl) (.tail _ tw_149) ev1 dX5_finishedCitiesAt_2 ?_
  refine lv_iconst (v := 1) hx hb dX5_finishedCitiesAt_5 ic_1 ?_
  refine lv_iadd hx hb dX5_finishedCitiesAt_6 ?_
  obtain ⟨M2, eM2, hf⟩ := rx_vvI hf
  refine rx_puti cx hw (fiX_2_11 ad cI cL) rfl (inT_X5) tyX5 tyX5_ok nmX5 (Nat.le_of_ble_eq_true rfl) (.tail _ tw_149) rfl rfl rfl eM2 dX5_finishedCitiesAt_7 (fun H locs hw => ?_)
  refine lv_iconst (v := 0) hx hb dX5_finishedCitiesAt_10 ic_0 ?_
  refine lv_istore_n (lv' := [(2, .int 0), (0, .ref ((ad 2))), (1, .int w1)]) hx hb dX5_finishedCitiesAt_11 rfl hl (Nat.le_of_ble_eq_true rfl) rfl (fun ls hl => ?_)
  refine lv_iconst (v := 0) hx hb dX5_finishedCitiesAt_12 ic_0 ?_
  refine lv_istore_n (lv' := [(3, .int 0), (2, .int 0), (0, .ref ((ad 2))), (1, .int w1)]) hx hb dX5_finishedCitiesAt_13 rfl hl (Nat.le_of_ble_eq_true rfl) rfl (fun ls hl => ?_)
  exact (qk_X5_finishedCitiesAt_14 cx hret rx_FU) hw (lv_sub hl [2, 3, 1, 0] rfl) hf
end
set_option maxRecDepth 100000 in
theorem qc_X5_finishedCitiesAt (l : Launch) (D : va_G) (ad : Nat → Nat) (cI cL : ClassId) (b1 b2 : Nat) (w1 : Int32) : rx_MI l yX5_finishedCitiesAt wX5_finishedCitiesAt rm_X5_finishedCitiesAt D vwCl (wX ad cI cL) (tX cI cL) (zX b1 b2) wN [.ref (ad 2), .int w1] (fun M => qf_X5_finishedCitiesAt w1 M) :=
  rx_ofI (by decide) rfl wN_ok (Nat.le_of_ble_eq_true rfl) (fun _ _ _ _ _ _ _ _ _ _ _ _ _ cx hret hw hl hf => qk_X5_finishedCitiesAt_0 cx hret hw hl hf)
def rm_X5_finalWorth : Room := { frames := 3, cells := 0, slots := 0, locals := 73 }
noncomputable def qf_X5_finalWorth  (w1 : Int32)  (M : Me) : Op :=
  rx_ld M 26 192 w1 fun v1 => rx_cl (qf_J6_bitCount_X v1 M) fun r2 M3 => rx_cl (qf_X5_kindOf w1 M3) fun r4 M5 => if r4 = 1 then (rx_ld M5 27 192 w1 fun v6 => some (r2 + v6, M5)) else (if r4 = 2 then (some (r2, M5)) else (if r4 = 3 then (rx_cl (qf_X5_finishedCitiesAt w1 M5) fun r7 M8 => some (3 * r7, M8)) else (if r4 = 4 then (rx_ld M5 20 24 (w1 / 8) fun v9 => rx_ld M5 19 441 v9 fun v10 => some (1 + v10, M5)) else (rx_cl (qf_X5_finishedCitiesAt w1 M5) fun r11 M12 => some (3 * r11, M12)))))
section
variable {p : Program} {l : Launch} {e : Env} {s : State} {m : MethodId} {args : Array Value} {below : List Frame} {meth : Method} {c : Code} {Q : State → Prop} {D : va_G} {A : Nat → Prop} {o : Int32 × Me} {ad : Nat → Nat} {cI cL : ClassId} {b1 b2 : Nat}
set_option maxRecDepth 100000 in
set_option maxHeartbeats 4000000 in
theorem qk_X5_finalWorth_0 (cx : rx_C p m c cX5_finalWorth 3 s args wX5_finalWorth RX5 D vwCl (tX cI cL) (zX b1 b2) wN A) (hret : rx_RI p l e rm_X5_finalWorth s m args below meth c cX5_finalWorth D vwCl (wX ad cI cL) A Q o) {w1 : Int32} {ls : Array Slot} {H : Heap} {locs : List Loc} {M : Me} (hw : rx_W D vwCl (wX ad cI cL) A s.heap M H locs) (hl : lv_has ls 3 [(0, .ref ((ad 2))), (1, .int w1)]) (hf : qf_X5_finalWorth w1 M = some o) : W p l e rm_X5_finalWorth s m args below meth c H locs 0 0 Q (F0 m 0 ls []) := by
  have hx := cx.1.1
  have hb := cx.1.2.1
  refine lv_aload_n hx hb dX5_finalWorth_0 rfl (lv_at hl 0 rfl) ?_
  refine rx_getr cx hw (frX_2_1 ad cI cL) rfl (inT_X5) (Nat.le_of_ble_eq_true rfl) (.tail _ tw_132) dX5_finalWorth_1 ?_
  refine rx_getrN cx hw (frX_3_1 ad cI cL) rfl (inT_X3) (Nat.le_of_ble_eq_true rfl) tn_87 dX5_finalWorth_4 ?_
  refine lv_iload_n hx hb dX5_finalWorth_7 rfl (lv_at hl 1 rfl) ?_
  obtain ⟨hv1, v1, ev1, hf⟩ := rx_ldI hf
  refine rx_iald cx hw (arX_26 ad cI cL) ⟨hv1, ev1⟩ dX5_finalWorth_8 ?_
  obtain ⟨r2, M3, er2, hf⟩ := rx_clI hf
  refine rx_jSi cx hw (qc_J6_bitCount_X l D ad cI cL b1 b2 v1) kfJ6_bitCount tw_548 ⟨Nat.le_of_ble_eq_true rfl, Nat.le_of_ble_eq_true rfl, rfl, rfl⟩ rfl hl.1 (Nat.le_of_ble_eq_true rfl) ⟨Nat.zero_le _, Nat.zero_le _⟩ dX5_finalWorth_9 rfl er2 (fun H locs hw => ?_)
  refine lv_istore_n (lv' := [(2, .int r2), (0, .ref ((ad 2))), (1, .int w1)]) hx hb dX5_finalWorth_12 rfl hl (Nat.le_of_ble_eq_true rfl) rfl (fun ls hl => ?_)
  refine lv_aload_n hx hb dX5_finalWorth_13 rfl (lv_at hl 1 rfl) ?_
  refine lv_iload_n hx hb dX5_finalWorth_14 rfl (lv_at hl 2 rfl) ?_
  obtain ⟨r4, M5, er4, hf⟩ := rx_clI hf
  refine rx_jVi cx hw (qc_X5_kindOf l D ad cI cL b1 b2 w1) (obX_2 ad cI cL) rfl rfl kfX5_kindOf tw_543 ⟨Nat.le_of_ble_eq_true rfl, Nat.le_of_ble_eq_true rfl, rfl, rfl⟩ rfl hl.1 (Nat.le_of_ble_eq_true rfl) ⟨Nat.zero_le _, Nat.zero_le _⟩ dX5_finalWorth_15 rfl er4 (fun H locs hw => ?_)
  by_cases hs0 : r4 = 1
  · have hf := rx_t hs0 hf
    refine lv_tableIn hx hb dX5_finalWorth_18 (by rw [hs0]; decide) (by rw [hs0]; decide) (by rw [hs0]; rfl) rfl ?_
    refine lv_iload_n hx hb dX5_finalWorth_48 rfl (lv_at hl 0 rfl) ?_
    refine lv_aload_n hx hb dX5_finalWorth_49 rfl (lv_at hl 1 rfl) ?_
    refine rx_getr cx hw (frX_2_1 ad cI cL) rfl (inT_X5) (Nat.le_of_ble_eq_true rfl) (.tail _ tw_132) dX5_finalWorth_50 ?_
    refine rx_getrN cx hw (frX_3_2 ad cI cL) rfl (inT_X3) (Nat.le_of_ble_eq_true rfl) tn_90 dX5_finalWorth_53 ?_
    refine lv_iload_n hx hb dX5_finalWorth_56 rfl (lv_at hl 2 rfl) ?_
    obtain ⟨hv6, v6, ev6, hf⟩ := rx_ldI hf
    refine rx_iald cx hw (arX_27 ad cI cL) ⟨hv6, ev6⟩ dX5_finalWorth_57 ?_
    refine lv_iadd hx hb dX5_finalWorth_58 ?_
    exact rx_reti hret hw hf dX5_finalWorth_59
  · have hf := rx_f hs0 hf
    by_cases hs1 : r4 = 2
    · have hf := rx_t hs1 hf
      refine lv_tableIn hx hb dX5_finalWorth_18 (by rw [hs1]; decide) (by rw [hs1]; decide) (by rw [hs1]; rfl) rfl ?_
      refine lv_iload_n hx hb dX5_finalWorth_60 rfl (lv_at hl 0 rfl) ?_
      exact rx_reti hret hw hf dX5_finalWorth_61
    · have hf := rx_f hs1 hf
      by_cases hs2 : r4 = 3
      · have hf := rx_t hs2 hf
        refine lv_tableIn hx hb dX5_finalWorth_18 (by rw [hs2]; decide) (by rw [hs2]; decide) (by rw [hs2]; rfl) rfl ?_
        refine lv_iconst (v := 3) hx hb dX5_finalWorth_79 ic_3 ?_
        refine lv_aload_n hx hb dX5_finalWorth_80 rfl (lv_at hl 1 rfl) ?_
        refine lv_iload_n hx hb dX5_finalWorth_81 rfl (lv_at hl 2 rfl) ?_
        obtain ⟨r7, M8, er7, hf⟩ := rx_clI hf
        refine rx_jVi cx hw (qc_X5_finishedCitiesAt l D ad cI cL b1 b2 w1) (obX_2 ad cI cL) rfl rfl kfX5_finishedCitiesAt tw_600 ⟨Nat.le_of_ble_eq_true rfl, Nat.le_of_ble_eq_true rfl, rfl, rfl⟩ rfl hl.1 (Nat.le_of_ble_eq_true rfl) ⟨Nat.zero_le _, Nat.zero_le _⟩ dX5_finalWorth_82 rfl er7 (fun H locs hw => ?_)
        refine lv_imul hx hb dX5_finalWorth_85 ?_
        exact rx_reti hret hw hf dX5_finalWorth_86
      · have hf := rx_f hs2 hf
        by_cases hs3 : r4 = 4
        · have hf := rx_t hs3 hf
          refine lv_tableIn hx hb dX5_finalWorth_18 (by rw [hs3]; decide) (by rw [hs3]; decide) (by rw [hs3]; rfl) rfl ?_
          refine lv_iconst (v := 1) hx hb dX5_finalWorth_62 ic_1 ?_
          refine lv_aload_n hx hb dX5_finalWorth_63 rfl (lv_at hl 1 rfl) ?_
          refine rx_getr cx hw (frX_2_4 ad cI cL) rfl (inT_X5) (Nat.le_of_ble_eq_true rfl) (.tail _ tw_138) dX5_finalWorth_64 ?_
          refine lv_aload_n hx hb dX5_finalWorth_67 rfl (lv_at hl 1 rfl) ?_
          refine rx_getr cx hw (frX_2_5 ad cI cL) rfl (inT_X5) (Nat.le_of_ble_eq_true rfl) (.tail _ tw_139) dX5_finalWorth_68 ?_
          refine lv_iload_n hx hb dX5_finalWorth_71 rfl (lv_at hl 2 rfl) ?_
          refine lv_bipush (v := 8) hx hb dX5_finalWorth_72 ib_8 ?_
          refine lv_idiv hx hb dX5_finalWorth_74 nz_8 ?_
          obtain ⟨hv9, v9, ev9, hf⟩ := rx_ldI hf
          refine rx_iald cx hw (arX_20 ad cI cL) ⟨hv9, ev9⟩ dX5_finalWorth_75 ?_
          obtain ⟨hv10, v10, ev10, hf⟩ := rx_ldI hf
          refine rx_iald cx hw (arX_19 ad cI cL) ⟨hv10, ev10⟩ dX5_finalWorth_76 ?_
          refine lv_iadd hx hb dX5_finalWorth_77 ?_
          exact rx_reti hret hw hf dX5_finalWorth_78
        · have hf := rx_f hs3 hf
          refine lv_tableOut hx hb dX5_finalWorth_18 (by have := lv_neT hs0 it_1; have := lv_neT hs1 it_2; have := lv_neT hs2 it_3; have := lv_neT hs3 it_4; omega) rfl ?_
          refine lv_iconst (v := 3) hx hb dX5_finalWorth_79 ic_3 ?_
          refine lv_aload_n hx hb dX5_finalWorth_80 rfl (lv_at hl 1 rfl) ?_
          refine lv_iload_n hx hb dX5_finalWorth_81 rfl (lv_at hl 2 rfl) ?_
          obtain ⟨r11, M12, er11, hf⟩ := rx_clI hf
          refine rx_jVi cx hw (qc_X5_finishedCitiesAt l D ad cI cL b1 b2 w1) (obX_2 ad cI cL) rfl rfl kfX5_finishedCitiesAt tw_600 ⟨Nat.le_of_ble_eq_true rfl, Nat.le_of_ble_eq_true rfl, rfl, rfl⟩ rfl hl.1 (Nat.le_of_ble_eq_true rfl) ⟨Nat.zero_le _, Nat.zero_le _⟩ dX5_finalWorth_82 rfl er11 (fun H locs hw => ?_)
          refine lv_imul hx hb dX5_finalWorth_85 ?_
          exact rx_reti hret hw hf dX5_finalWorth_86
end
set_option maxRecDepth 100000 in
theorem qc_X5_finalWorth (l : Launch) (D : va_G) (ad : Nat → Nat) (cI cL : ClassId) (b1 b2 : Nat) (w1 : Int32) : rx_MI l yX5_finalWorth wX5_finalWorth rm_X5_finalWorth D vwCl (wX ad cI cL) (tX cI cL) (zX b1 b2) wN [.ref (ad 2), .int w1] (fun M => qf_X5_finalWorth w1 M) :=
  rx_ofI (by decide) rfl wN_ok (Nat.le_of_ble_eq_true rfl) (fun _ _ _ _ _ _ _ _ _ _ _ _ _ cx hret hw hl hf => qk_X5_finalWorth_0 cx hret hw hl hf)
def rm_X2_addFinals : Room := { frames := 2, cells := 0, slots := 0, locals := 41 }
noncomputable def qb_X2_addFinals_38 (k8 : Int32 → Me → Op) (w1 : Int32) (w2 : Int32) (w3 : Int32) (w4 : Int32)  (M : Me) : Op :=
  rx_vv (w4 + 1) fun v1 => k8 v1 M
noncomputable def qo_X2_addFinals_8  (w1 : Int32) (w2 : Int32) (w3 : Int32) (rec : Int32 → Me → Op) (w4 : Int32) (M : Me) : Op :=
  rx_vv (M 4 4) fun v1 => if v1 ≤ w4 then (some (0, M)) else (rx_cl (qf_X6_menOf w1 w4 M) fun r2 M3 => if r2 = w3 then (rx_ld M3 36 3 w4 fun v4 => rx_sv M3 36 3 w4 (v4 + w2) fun M5 => qb_X2_addFinals_38 rec w1 w2 w3 w4 M5) else (qb_X2_addFinals_38 rec w1 w2 w3 w4 M3))
noncomputable def qf_X2_addFinals  (w1 : Int32) (w2 : Int32)  (M : Me) : Op :=
  rx_cl (qf_X6_mostMen w1 M) fun r1 M2 => rx_lp1 (qo_X2_addFinals_8 w1 w2 r1) rx_FU 0 M2
section
variable {p : Program} {l : Launch} {e : Env} {s : State} {m : MethodId} {args : Array Value} {below : List Frame} {meth : Method} {c : Code} {Q : State → Prop} {D : va_G} {A : Nat → Prop} {o : Int32 × Me} {ad : Nat → Nat} {cI cL : ClassId} {b1 b2 : Nat}
set_option maxRecDepth 100000 in
set_option maxHeartbeats 4000000 in
theorem qk_X2_addFinals_38 (cx : rx_C p m c cX2_addFinals 5 s args wX2_addFinals RX2 D vwCl (tX cI cL) (zX b1 b2) wN A) (hret : rx_RV p l e rm_X2_addFinals s m args below meth c cX2_addFinals D vwCl (wX ad cI cL) A Q o) {w1 : Int32} {w2 : Int32} {w3 : Int32} {w4 : Int32} {k8 : Int32 → Me → Op} (h8 : ∀ {a4 : Int32} {ls : Array Slot} {H : Heap} {locs : List Loc} {M : Me}, rx_W D vwCl (wX ad cI cL) A s.heap M H locs → lv_has ls 5 [(0, .ref ((ad 4))), (1, .int w1), (2, .int w2), (3, .int w3), (4, .int a4)] → k8 a4 M = some o → W p l e rm_X2_addFinals s m args below meth c H locs 0 0 Q (F0 m 8 ls [])) {ls : Array Slot} {H : Heap} {locs : List Loc} {M : Me} (hw : rx_W D vwCl (wX ad cI cL) A s.heap M H locs) (hl : lv_has ls 5 [(0, .ref ((ad 4))), (1, .int w1), (2, .int w2), (3, .int w3), (4, .int w4)]) (hf : qb_X2_addFinals_38 k8 w1 w2 w3 w4 M = some o) : W p l e rm_X2_addFinals s m args below meth c H locs 0 0 Q (F0 m 38 ls []) := by
  have hx := cx.1.1
  have hb := cx.1.2.1
  obtain ⟨v1, ev1, hf⟩ := rx_vvI hf
  refine lv_iinc (lv' := [(4, .int v1), (0, .ref ((ad 4))), (1, .int w1), (2, .int w2), (3, .int w3)]) hx hb dX2_addFinals_38 hl (k := 4) rfl (rx_inc ic_1 ev1) (Nat.le_of_ble_eq_true rfl) rfl (fun ls hl => ?_)
  refine lv_goto hx hb dX2_addFinals_41 rfl ?_
  exact h8 hw (lv_sub hl [1, 2, 3, 4, 0] rfl) hf
set_option maxRecDepth 100000 in
set_option maxHeartbeats 4000000 in
theorem qk_X2_addFinals_8 (cx : rx_C p m c cX2_addFinals 5 s args wX2_addFinals RX2 D vwCl (tX cI cL) (zX b1 b2) wN A) (hret : rx_RV p l e rm_X2_addFinals s m args below meth c cX2_addFinals D vwCl (wX ad cI cL) A Q o) {w1 : Int32} {w2 : Int32} {w3 : Int32} : ∀ (n : Nat) {w4 : Int32} {ls : Array Slot} {H : Heap} {locs : List Loc} {M : Me}, rx_W D vwCl (wX ad cI cL) A s.heap M H locs → lv_has ls 5 [(0, .ref ((ad 4))), (1, .int w1), (2, .int w2), (3, .int w3), (4, .int w4)] → rx_lp1 (qo_X2_addFinals_8 w1 w2 w3) n w4 M = some o → W p l e rm_X2_addFinals s m args below meth c H locs 0 0 Q (F0 m 8 ls []) := by
  have hx := cx.1.1
  have hb := cx.1.2.1
  intro n
  induction n with
  | zero => intro w4 ls H locs M hw hl hf; exact rx_no hf
  | succ n ih =>
    intro w4 ls H locs M hw hl hf
    have hf : qo_X2_addFinals_8 w1 w2 w3 (rx_lp1 (qo_X2_addFinals_8 w1 w2 w3) n) w4 M = some o := hf
    refine lv_iload hx hb dX2_addFinals_8 (lv_at hl 4 rfl) ?_
    refine lv_aload_n hx hb dX2_addFinals_10 rfl (lv_at hl 0 rfl) ?_
    obtain ⟨v1, ev1, hf⟩ := rx_vvI hf
    refine rx_geti cx hw (fiX_4_4 ad cI cL) rfl (inT_X2) (Nat.le_of_ble_eq_true rfl) (.tail _ tw_187) ev1 dX2_addFinals_11 ?_
    refine lv_icmp_ge hx hb dX2_addFinals_14 rfl (fun hc => ?_) (fun hc => ?_)
    · have hf := rx_t hc hf
      exact rx_retv hret hw hf dX2_addFinals_44
    · have hf := rx_f hc hf
      refine lv_iload_n hx hb dX2_addFinals_17 rfl (lv_at hl 1 rfl) ?_
      refine lv_iload hx hb dX2_addFinals_18 (lv_at hl 4 rfl) ?_
      obtain ⟨r2, M3, er2, hf⟩ := rx_clI hf
      refine rx_jSNi cx hw (qc_X6_menOf l D ad cI cL b1 b2 w1 w4) kfX6_menOf tn_561 ⟨Nat.le_of_ble_eq_true rfl, Nat.le_of_ble_eq_true rfl, rfl, rfl⟩ rfl hl.1 (Nat.le_of_ble_eq_true rfl) ⟨Nat.zero_le _, Nat.zero_le _⟩ dX2_addFinals_20 rfl er2 (fun H locs hw => ?_)
      refine lv_iload_n hx hb dX2_addFinals_23 rfl (lv_at hl 3 rfl) ?_
      refine lv_icmp_ne hx hb dX2_addFinals_24 rfl (fun hc => ?_) (fun hc => ?_)
      · have hf := rx_f hc hf
        exact (qk_X2_addFinals_38 cx hret ih) hw hl hf
      · have hf := rx_t hc hf
        refine lv_aload_n hx hb dX2_addFinals_27 rfl (lv_at hl 0 rfl) ?_
        refine rx_getr cx hw (frX_4_11 ad cI cL) rfl (inT_X2) (Nat.le_of_ble_eq_true rfl) (.tail _ tw_203) dX2_addFinals_28 ?_
        refine lv_iload hx hb dX2_addFinals_31 (lv_at hl 4 rfl) ?_
        refine lv_dup2_11 hx hb dX2_addFinals_33 rfl rfl ?_
        obtain ⟨hv4, v4, ev4, hf⟩ := rx_ldI hf
        refine rx_iald cx hw (arX_36 ad cI cL) ⟨hv4, ev4⟩ dX2_addFinals_34 ?_
        refine lv_iload_n hx hb dX2_addFinals_35 rfl (lv_at hl 2 rfl) ?_
        refine lv_iadd hx hb dX2_addFinals_36 ?_
        obtain ⟨hM5, M5, eM5, hf⟩ := rx_svI hf
        refine rx_iast cx hw (arX_36 ad cI cL) ⟨hM5, eM5⟩ dX2_addFinals_37 (fun H locs hw => ?_)
        exact (qk_X2_addFinals_38 cx hret ih) hw hl hf
set_option maxRecDepth 100000 in
set_option maxHeartbeats 4000000 in
theorem qk_X2_addFinals_0 (cx : rx_C p m c cX2_addFinals 5 s args wX2_addFinals RX2 D vwCl (tX cI cL) (zX b1 b2) wN A) (hret : rx_RV p l e rm_X2_addFinals s m args below meth c cX2_addFinals D vwCl (wX ad cI cL) A Q o) {w1 : Int32} {w2 : Int32} {ls : Array Slot} {H : Heap} {locs : List Loc} {M : Me} (hw : rx_W D vwCl (wX ad cI cL) A s.heap M H locs) (hl : lv_has ls 5 [(0, .ref ((ad 4))), (1, .int w1), (2, .int w2)]) (hf : qf_X2_addFinals w1 w2 M = some o) : W p l e rm_X2_addFinals s m args below meth c H locs 0 0 Q (F0 m 0 ls []) := by
  have hx := cx.1.1
  have hb := cx.1.2.1
  refine lv_iload_n hx hb dX2_addFinals_0 rfl (lv_at hl 1 rfl) ?_
  obtain ⟨r1, M2, er1, hf⟩ := rx_clI hf
  refine rx_jSNi cx hw (qc_X6_mostMen l D ad cI cL b1 b2 w1) kfX6_mostMen tn_554 ⟨Nat.le_of_ble_eq_true rfl, Nat.le_of_ble_eq_true rfl, rfl, rfl⟩ rfl hl.1 (Nat.le_of_ble_eq_true rfl) ⟨Nat.zero_le _, Nat.zero_le _⟩ dX2_addFinals_1 rfl er1 (fun H locs hw => ?_)
  refine lv_istore_n (lv' := [(3, .int r1), (0, .ref ((ad 4))), (1, .int w1), (2, .int w2)]) hx hb dX2_addFinals_4 rfl hl (Nat.le_of_ble_eq_true rfl) rfl (fun ls hl => ?_)
  refine lv_iconst (v := 0) hx hb dX2_addFinals_5 ic_0 ?_
  refine lv_istore (lv' := [(4, .int 0), (3, .int r1), (0, .ref ((ad 4))), (1, .int w1), (2, .int w2)]) hx hb dX2_addFinals_6 hl (Nat.le_of_ble_eq_true rfl) rfl (fun ls hl => ?_)
  exact (qk_X2_addFinals_8 cx hret rx_FU) hw (lv_sub hl [2, 3, 4, 1, 0] rfl) hf
end
set_option maxRecDepth 100000 in
theorem qc_X2_addFinals (l : Launch) (D : va_G) (ad : Nat → Nat) (cI cL : ClassId) (b1 b2 : Nat) (w1 : Int32) (w2 : Int32) : rx_MV l yX2_addFinals wX2_addFinals rm_X2_addFinals D vwCl (wX ad cI cL) (tX cI cL) (zX b1 b2) wN [.ref (ad 4), .int w1, .int w2] (fun M => qf_X2_addFinals w1 w2 M) :=
  rx_ofV (by decide) rfl wN_ok (Nat.le_of_ble_eq_true rfl) (fun _ _ _ _ _ _ _ _ _ _ _ _ _ cx hret hw hl hf => qk_X2_addFinals_0 cx hret hw hl hf)

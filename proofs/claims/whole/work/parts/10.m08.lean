def rm_X4_endLine : Room := { frames := 4, cells := 0, slots := 0, locals := 92 }
noncomputable def qf_X4_endLine  (w1 : Int32)  (M : Me) : Op :=
  if w1 < 0 then (some (0, M)) else (if w1 = 0 then (if (w1 + 1) = 0 then (rx_vv (M 4 4) fun v1 => rx_cl (qf_X1_weigh_6_38 v1 M) fun r2 M3 => rx_cl (qf_X2_stepBack M3) fun r4 M5 => some (0, M5)) else if (w1 + 1) = 1 then (rx_vv (M 4 4) fun v6 => rx_cl (qf_X1_weigh_6_39 v6 M) fun r7 M8 => rx_cl (qf_X2_stepBack M8) fun r9 M10 => some (0, M10)) else none) else if w1 = 1 then (if (w1 + 1) = 0 then (rx_vv (M 4 4) fun v12 => rx_cl (qf_X1_weigh_7_38 v12 M) fun r13 M14 => rx_cl (qf_X2_stepBack M14) fun r15 M16 => some (0, M16)) else if (w1 + 1) = 1 then (rx_vv (M 4 4) fun v17 => rx_cl (qf_X1_weigh_7_39 v17 M) fun r18 M19 => rx_cl (qf_X2_stepBack M19) fun r20 M21 => some (0, M21)) else none) else none)
section
variable {p : Program} {l : Launch} {e : Env} {s : State} {m : MethodId} {args : Array Value} {below : List Frame} {meth : Method} {c : Code} {Q : State → Prop} {D : va_G} {A : Nat → Prop} {o : Int32 × Me} {ad : Nat → Nat} {cI cL : ClassId} {b1 b2 : Nat}
set_option maxRecDepth 100000 in
set_option maxHeartbeats 4000000 in
theorem qk_X4_endLine_0 (cx : rx_C p m c cX4_endLine 2 s args wX4_endLine RX4 D vwCl (tX cI cL) (zX b1 b2) wN A) (hret : rx_RV p l e rm_X4_endLine s m args below meth c cX4_endLine D vwCl (wX ad cI cL) A Q o) {w1 : Int32} {ls : Array Slot} {H : Heap} {locs : List Loc} {M : Me} (hw : rx_W D vwCl (wX ad cI cL) A s.heap M H locs) (hl : lv_has ls 2 [(0, .ref ((ad 5))), (1, .int w1)]) (hf : qf_X4_endLine w1 M = some o) : W p l e rm_X4_endLine s m args below meth c H locs 0 0 Q (F0 m 0 ls []) := by
  have hx := cx.1.1
  have hb := cx.1.2.1
  refine lv_iload_n hx hb dX4_endLine_0 rfl (lv_at hl 1 rfl) ?_
  refine lv_if_lt hx hb dX4_endLine_1 rfl (fun hc => ?_) (fun hc => ?_)
  · have hf := rx_t hc hf
    exact rx_retv hret hw hf dX4_endLine_38
  · have hf := rx_f hc hf
    refine lv_aload_n hx hb dX4_endLine_4 rfl (lv_at hl 0 rfl) ?_
    refine rx_getr cx hw (frX_5_2 ad cI cL) rfl (inT_X4) (Nat.le_of_ble_eq_true rfl) (.tail _ tw_284) dX4_endLine_5 ?_
    refine lv_iload_n hx hb dX4_endLine_8 rfl (lv_at hl 1 rfl) ?_
    by_cases hq23 : w1 = 0
    · have hf := rx_t hq23 hf
      refine rx_aal0 cx hw (lvX ad cI cL) hq23 dX4_endLine_9 ?_
      refine lv_aload_n hx hb dX4_endLine_10 rfl (lv_at hl 0 rfl) ?_
      refine rx_getr cx hw (frX_5_2 ad cI cL) rfl (inT_X4) (Nat.le_of_ble_eq_true rfl) (.tail _ tw_284) dX4_endLine_11 ?_
      refine lv_iload_n hx hb dX4_endLine_14 rfl (lv_at hl 1 rfl) ?_
      refine lv_iconst (v := 1) hx hb dX4_endLine_15 ic_1 ?_
      refine lv_iadd hx hb dX4_endLine_16 ?_
      by_cases hq11 : (w1 + 1) = 0
      · have hf := rx_t hq11 hf
        refine rx_aal0 cx hw (lvX ad cI cL) hq11 dX4_endLine_17 ?_
        refine rx_getrN cx hw (frX_6_8 ad cI cL) rfl (inT_X1) (Nat.le_of_ble_eq_true rfl) tn_262 dX4_endLine_18 ?_
        refine lv_aload_n hx hb dX4_endLine_21 rfl (lv_at hl 0 rfl) ?_
        refine rx_getr cx hw (frX_5_0 ad cI cL) rfl (inT_X4) (Nat.le_of_ble_eq_true rfl) (.tail _ tw_282) dX4_endLine_22 ?_
        obtain ⟨v1, ev1, hf⟩ := rx_vvI hf
        refine rx_getiN cx hw (fiX_4_4 ad cI cL) rfl (inT_X2) (Nat.le_of_ble_eq_true rfl) tn_188 ev1 dX4_endLine_25 ?_
        obtain ⟨r2, M3, er2, hf⟩ := rx_clI hf
        refine rx_jVv cx hw (qc_X1_weigh_6_38 l D ad cI cL b1 b2 v1) (obX_6 ad cI cL) rfl rfl kfX1_weigh tw_639 ⟨Nat.le_of_ble_eq_true rfl, Nat.le_of_ble_eq_true rfl, rfl, rfl⟩ rfl hl.1 (Nat.le_of_ble_eq_true rfl) ⟨Nat.zero_le _, Nat.zero_le _⟩ dX4_endLine_28 rfl er2 (fun H locs hw => ?_)
        refine lv_aload_n hx hb dX4_endLine_31 rfl (lv_at hl 0 rfl) ?_
        refine rx_getr cx hw (frX_5_0 ad cI cL) rfl (inT_X4) (Nat.le_of_ble_eq_true rfl) (.tail _ tw_282) dX4_endLine_32 ?_
        obtain ⟨r4, M5, er4, hf⟩ := rx_clI hf
        refine rx_jVv cx hw (qc_X2_stepBack l D ad cI cL b1 b2) (obX_4 ad cI cL) rfl rfl kfX2_stepBack tw_631 ⟨Nat.le_of_ble_eq_true rfl, Nat.le_of_ble_eq_true rfl, rfl, rfl⟩ rfl hl.1 (Nat.le_of_ble_eq_true rfl) ⟨Nat.zero_le _, Nat.zero_le _⟩ dX4_endLine_35 rfl er4 (fun H locs hw => ?_)
        exact rx_retv hret hw hf dX4_endLine_38
      · have hf := rx_f hq11 hf
        by_cases hq111 : (w1 + 1) = 1
        · have hf := rx_t hq111 hf
          refine rx_aal1 cx hw (lvX ad cI cL) hq111 dX4_endLine_17 ?_
          refine rx_getrN cx hw (frX_7_8 ad cI cL) rfl (inT_X1) (Nat.le_of_ble_eq_true rfl) tn_262 dX4_endLine_18 ?_
          refine lv_aload_n hx hb dX4_endLine_21 rfl (lv_at hl 0 rfl) ?_
          refine rx_getr cx hw (frX_5_0 ad cI cL) rfl (inT_X4) (Nat.le_of_ble_eq_true rfl) (.tail _ tw_282) dX4_endLine_22 ?_
          obtain ⟨v6, ev6, hf⟩ := rx_vvI hf
          refine rx_getiN cx hw (fiX_4_4 ad cI cL) rfl (inT_X2) (Nat.le_of_ble_eq_true rfl) tn_188 ev6 dX4_endLine_25 ?_
          obtain ⟨r7, M8, er7, hf⟩ := rx_clI hf
          refine rx_jVv cx hw (qc_X1_weigh_6_39 l D ad cI cL b1 b2 v6) (obX_6 ad cI cL) rfl rfl kfX1_weigh tw_639 ⟨Nat.le_of_ble_eq_true rfl, Nat.le_of_ble_eq_true rfl, rfl, rfl⟩ rfl hl.1 (Nat.le_of_ble_eq_true rfl) ⟨Nat.zero_le _, Nat.zero_le _⟩ dX4_endLine_28 rfl er7 (fun H locs hw => ?_)
          refine lv_aload_n hx hb dX4_endLine_31 rfl (lv_at hl 0 rfl) ?_
          refine rx_getr cx hw (frX_5_0 ad cI cL) rfl (inT_X4) (Nat.le_of_ble_eq_true rfl) (.tail _ tw_282) dX4_endLine_32 ?_
          obtain ⟨r9, M10, er9, hf⟩ := rx_clI hf
          refine rx_jVv cx hw (qc_X2_stepBack l D ad cI cL b1 b2) (obX_4 ad cI cL) rfl rfl kfX2_stepBack tw_631 ⟨Nat.le_of_ble_eq_true rfl, Nat.le_of_ble_eq_true rfl, rfl, rfl⟩ rfl hl.1 (Nat.le_of_ble_eq_true rfl) ⟨Nat.zero_le _, Nat.zero_le _⟩ dX4_endLine_35 rfl er9 (fun H locs hw => ?_)
          exact rx_retv hret hw hf dX4_endLine_38
        · exact rx_no (rx_f hq111 hf)
    · have hf := rx_f hq23 hf
      by_cases hq231 : w1 = 1
      · have hf := rx_t hq231 hf
        refine rx_aal1 cx hw (lvX ad cI cL) hq231 dX4_endLine_9 ?_
        refine lv_aload_n hx hb dX4_endLine_10 rfl (lv_at hl 0 rfl) ?_
        refine rx_getr cx hw (frX_5_2 ad cI cL) rfl (inT_X4) (Nat.le_of_ble_eq_true rfl) (.tail _ tw_284) dX4_endLine_11 ?_
        refine lv_iload_n hx hb dX4_endLine_14 rfl (lv_at hl 1 rfl) ?_
        refine lv_iconst (v := 1) hx hb dX4_endLine_15 ic_1 ?_
        refine lv_iadd hx hb dX4_endLine_16 ?_
        by_cases hq22 : (w1 + 1) = 0
        · have hf := rx_t hq22 hf
          refine rx_aal0 cx hw (lvX ad cI cL) hq22 dX4_endLine_17 ?_
          refine rx_getrN cx hw (frX_6_8 ad cI cL) rfl (inT_X1) (Nat.le_of_ble_eq_true rfl) tn_262 dX4_endLine_18 ?_
          refine lv_aload_n hx hb dX4_endLine_21 rfl (lv_at hl 0 rfl) ?_
          refine rx_getr cx hw (frX_5_0 ad cI cL) rfl (inT_X4) (Nat.le_of_ble_eq_true rfl) (.tail _ tw_282) dX4_endLine_22 ?_
          obtain ⟨v12, ev12, hf⟩ := rx_vvI hf
          refine rx_getiN cx hw (fiX_4_4 ad cI cL) rfl (inT_X2) (Nat.le_of_ble_eq_true rfl) tn_188 ev12 dX4_endLine_25 ?_
          obtain ⟨r13, M14, er13, hf⟩ := rx_clI hf
          refine rx_jVv cx hw (qc_X1_weigh_7_38 l D ad cI cL b1 b2 v12) (obX_7 ad cI cL) rfl rfl kfX1_weigh tw_639 ⟨Nat.le_of_ble_eq_true rfl, Nat.le_of_ble_eq_true rfl, rfl, rfl⟩ rfl hl.1 (Nat.le_of_ble_eq_true rfl) ⟨Nat.zero_le _, Nat.zero_le _⟩ dX4_endLine_28 rfl er13 (fun H locs hw => ?_)
          refine lv_aload_n hx hb dX4_endLine_31 rfl (lv_at hl 0 rfl) ?_
          refine rx_getr cx hw (frX_5_0 ad cI cL) rfl (inT_X4) (Nat.le_of_ble_eq_true rfl) (.tail _ tw_282) dX4_endLine_32 ?_
          obtain ⟨r15, M16, er15, hf⟩ := rx_clI hf
          refine rx_jVv cx hw (qc_X2_stepBack l D ad cI cL b1 b2) (obX_4 ad cI cL) rfl rfl kfX2_stepBack tw_631 ⟨Nat.le_of_ble_eq_true rfl, Nat.le_of_ble_eq_true rfl, rfl, rfl⟩ rfl hl.1 (Nat.le_of_ble_eq_true rfl) ⟨Nat.zero_le _, Nat.zero_le _⟩ dX4_endLine_35 rfl er15 (fun H locs hw => ?_)
          exact rx_retv hret hw hf dX4_endLine_38
        · have hf := rx_f hq22 hf
          by_cases hq221 : (w1 + 1) = 1
          · have hf := rx_t hq221 hf
            refine rx_aal1 cx hw (lvX ad cI cL) hq221 dX4_endLine_17 ?_
            refine rx_getrN cx hw (frX_7_8 ad cI cL) rfl (inT_X1) (Nat.le_of_ble_eq_true rfl) tn_262 dX4_endLine_18 ?_
            refine lv_aload_n hx hb dX4_endLine_21 rfl (lv_at hl 0 rfl) ?_
            refine rx_getr cx hw (frX_5_0 ad cI cL) rfl (inT_X4) (Nat.le_of_ble_eq_true rfl) (.tail _ tw_282) dX4_endLine_22 ?_
            obtain ⟨v17, ev17, hf⟩ := rx_vvI hf
            refine rx_getiN cx hw (fiX_4_4 ad cI cL) rfl (inT_X2) (Nat.le_of_ble_eq_true rfl) tn_188 ev17 dX4_endLine_25 ?_
            obtain ⟨r18, M19, er18, hf⟩ := rx_clI hf
            refine rx_jVv cx hw (qc_X1_weigh_7_39 l D ad cI cL b1 b2 v17) (obX_7 ad cI cL) rfl rfl kfX1_weigh tw_639 ⟨Nat.le_of_ble_eq_true rfl, Nat.le_of_ble_eq_true rfl, rfl, rfl⟩ rfl hl.1 (Nat.le_of_ble_eq_true rfl) ⟨Nat.zero_le _, Nat.zero_le _⟩ dX4_endLine_28 rfl er18 (fun H locs hw => ?_)
            refine lv_aload_n hx hb dX4_endLine_31 rfl (lv_at hl 0 rfl) ?_
            refine rx_getr cx hw (frX_5_0 ad cI cL) rfl (inT_X4) (Nat.le_of_ble_eq_true rfl) (.tail _ tw_282) dX4_endLine_32 ?_
            obtain ⟨r20, M21, er20, hf⟩ := rx_clI hf
            refine rx_jVv cx hw (qc_X2_stepBack l D ad cI cL b1 b2) (obX_4 ad cI cL) rfl rfl kfX2_stepBack tw_631 ⟨Nat.le_of_ble_eq_true rfl, Nat.le_of_ble_eq_true rfl, rfl, rfl⟩ rfl hl.1 (Nat.le_of_ble_eq_true rfl) ⟨Nat.zero_le _, Nat.zero_le _⟩ dX4_endLine_35 rfl er20 (fun H locs hw => ?_)
            exact rx_retv hret hw hf dX4_endLine_38
          · exact rx_no (rx_f hq221 hf)
      · exact rx_no (rx_f hq231 hf)
end
set_option maxRecDepth 100000 in
theorem qc_X4_endLine (l : Launch) (D : va_G) (ad : Nat → Nat) (cI cL : ClassId) (b1 b2 : Nat) (w1 : Int32) : rx_MV l yX4_endLine wX4_endLine rm_X4_endLine D vwCl (wX ad cI cL) (tX cI cL) (zX b1 b2) wN [.ref (ad 5), .int w1] (fun M => qf_X4_endLine w1 M) :=
  rx_ofV (by decide) rfl wN_ok (Nat.le_of_ble_eq_true rfl) (fun _ _ _ _ _ _ _ _ _ _ _ _ _ cx hret hw hl hf => qk_X4_endLine_0 cx hret hw hl hf)
def rm_X1_weigh_6_36 : Room := { frames := 1, cells := 0, slots := 0, locals := 35 }
noncomputable def qb_X1_weigh_6_36_29 (k5 : Int32 → Int32 → Me → Op) (w2 : Int32) (w3 : Int32) (w4 : Int32)  (M : Me) : Op :=
  rx_vv (w4 + 1) fun v1 => k5 w3 v1 M
noncomputable def qo_X1_weigh_6_36_5 (k35 : Int32 → Me → Op) (w2 : Int32) (rec : Int32 → Int32 → Me → Op) (w3 : Int32) (w4 : Int32) (M : Me) : Op :=
  if w2 ≤ w4 then (k35 w3 M) else (rx_vv (M 6 0) fun v1 => if w4 = v1 then (qb_X1_weigh_6_36_29 rec w2 w3 w4 M) else (rx_ld M 36 3 w4 fun v2 => rx_vv ((if w3 < v2 then v2 else w3)) fun v3 => qb_X1_weigh_6_36_29 rec w2 v3 w4 M))
noncomputable def qb_X1_weigh_6_36_62  (w4 : Int32)  (M : Me) : Op :=
  rx_vv (rx_st M 6 4 1) fun M1 => rx_vv (rx_st M1 6 5 w4) fun M2 => rx_vv (M2 6 1) fun v3 => rx_vv (rx_st M2 6 6 v3) fun M4 => rx_vv (M4 6 2) fun v5 => rx_vv (rx_st M4 6 7 v5) fun M6 => rx_vv (rx_cp3 M6 36 38) fun M7 => some (0, M7)
noncomputable def qb_X1_weigh_6_36_35  (w3 : Int32)  (M : Me) : Op :=
  rx_vv (M 6 0) fun v1 => rx_ld M 36 3 v1 fun v2 => rx_vv (v2 - w3) fun v3 => rx_vv (M 6 4) fun v4 => if v4 = 0 then (qb_X1_weigh_6_36_62 v3 M) else (rx_vv (M 6 5) fun v5 => if v5 < v3 then (qb_X1_weigh_6_36_62 v3 M) else (some (0, M)))
noncomputable def qf_X1_weigh_6_36  (w2 : Int32)  (M : Me) : Op :=
  rx_lp2 (qo_X1_weigh_6_36_5 (fun a3 M => qb_X1_weigh_6_36_35 a3 M) w2) rx_FU 0 0 M
section
variable {p : Program} {l : Launch} {e : Env} {s : State} {m : MethodId} {args : Array Value} {below : List Frame} {meth : Method} {c : Code} {Q : State → Prop} {D : va_G} {A : Nat → Prop} {o : Int32 × Me} {ad : Nat → Nat} {cI cL : ClassId} {b1 b2 : Nat}
set_option maxRecDepth 100000 in
set_option maxHeartbeats 4000000 in
theorem qk_X1_weigh_6_36_29 (cx : rx_C p m c cX1_weigh 5 s args wX1_weigh RX1 D vwCl (tX cI cL) (zX b1 b2) wN A) (hret : rx_RV p l e rm_X1_weigh_6_36 s m args below meth c cX1_weigh D vwCl (wX ad cI cL) A Q o) {w2 : Int32} {w3 : Int32} {w4 : Int32} {k5 : Int32 → Int32 → Me → Op} (h5 : ∀ {a3 : Int32} {a4 : Int32} {ls : Array Slot} {H : Heap} {locs : List Loc} {M : Me}, rx_W D vwCl (wX ad cI cL) A s.heap M H locs → lv_has ls 5 [(0, .ref ((ad 6))), (1, .ref ((ad 36))), (2, .int w2), (3, .int a3), (4, .int a4)] → k5 a3 a4 M = some o → W p l e rm_X1_weigh_6_36 s m args below meth c H locs 0 0 Q (F0 m 5 ls [])) {ls : Array Slot} {H : Heap} {locs : List Loc} {M : Me} (hw : rx_W D vwCl (wX ad cI cL) A s.heap M H locs) (hl : lv_has ls 5 [(0, .ref ((ad 6))), (1, .ref ((ad 36))), (2, .int w2), (3, .int w3), (4, .int w4)]) (hf : qb_X1_weigh_6_36_29 k5 w2 w3 w4 M = some o) : W p l e rm_X1_weigh_6_36 s m args below meth c H locs 0 0 Q (F0 m 29 ls []) := by
  have hx := cx.1.1
  have hb := cx.1.2.1
  obtain ⟨v1, ev1, hf⟩ := rx_vvI hf
  refine lv_iinc (lv' := [(4, .int v1), (0, .ref ((ad 6))), (1, .ref ((ad 36))), (2, .int w2), (3, .int w3)]) hx hb dX1_weigh_29 hl (k := 4) rfl (rx_inc ic_1 ev1) (Nat.le_of_ble_eq_true rfl) rfl (fun ls hl => ?_)
  refine lv_goto hx hb dX1_weigh_32 rfl ?_
  exact h5 hw (lv_sub hl [1, 2, 3, 4, 0] rfl) hf
set_option maxRecDepth 100000 in
set_option maxHeartbeats 4000000 in
theorem qk_X1_weigh_6_36_5 (cx : rx_C p m c cX1_weigh 5 s args wX1_weigh RX1 D vwCl (tX cI cL) (zX b1 b2) wN A) (hret : rx_RV p l e rm_X1_weigh_6_36 s m args below meth c cX1_weigh D vwCl (wX ad cI cL) A Q o) {w2 : Int32} {k35 : Int32 → Me → Op} (h35 : ∀ {a3 : Int32} {ls : Array Slot} {H : Heap} {locs : List Loc} {M : Me}, rx_W D vwCl (wX ad cI cL) A s.heap M H locs → lv_has ls 5 [(0, .ref ((ad 6))), (1, .ref ((ad 36))), (3, .int a3)] → k35 a3 M = some o → W p l e rm_X1_weigh_6_36 s m args below meth c H locs 0 0 Q (F0 m 35 ls [])) : ∀ (n : Nat) {w3 : Int32} {w4 : Int32} {ls : Array Slot} {H : Heap} {locs : List Loc} {M : Me}, rx_W D vwCl (wX ad cI cL) A s.heap M H locs → lv_has ls 5 [(0, .ref ((ad 6))), (1, .ref ((ad 36))), (2, .int w2), (3, .int w3), (4, .int w4)] → rx_lp2 (qo_X1_weigh_6_36_5 k35 w2) n w3 w4 M = some o → W p l e rm_X1_weigh_6_36 s m args below meth c H locs 0 0 Q (F0 m 5 ls []) := by
  have hx := cx.1.1
  have hb := cx.1.2.1
  intro n
  induction n with
  | zero => intro w3 w4 ls H locs M hw hl hf; exact rx_no hf
  | succ n ih =>
    intro w3 w4 ls H locs M hw hl hf
    have hf : qo_X1_weigh_6_36_5 k35 w2 (rx_lp2 (qo_X1_weigh_6_36_5 k35 w2) n) w3 w4 M = some o := hf
    refine lv_iload hx hb dX1_weigh_5 (lv_at hl 4 rfl) ?_
    refine lv_iload_n hx hb dX1_weigh_7 rfl (lv_at hl 2 rfl) ?_
    refine lv_icmp_ge hx hb dX1_weigh_8 rfl (fun hc => ?_) (fun hc => ?_)
    · have hf := rx_t hc hf
      exact h35 hw (lv_sub hl [0, 1, 3] rfl) hf
    · have hf := rx_f hc hf
      refine lv_iload hx hb dX1_weigh_11 (lv_at hl 4 rfl) ?_
      refine lv_aload_n hx hb dX1_weigh_13 rfl (lv_at hl 0 rfl) ?_
      obtain ⟨v1, ev1, hf⟩ := rx_vvI hf
      refine rx_geti cx hw (fiX_6_0 ad cI cL) rfl (inT_X1) (Nat.le_of_ble_eq_true rfl) (.tail _ tw_247) ev1 dX1_weigh_14 ?_
      refine lv_icmp_eq hx hb dX1_weigh_17 rfl (fun hc => ?_) (fun hc => ?_)
      · have hf := rx_t hc hf
        exact (qk_X1_weigh_6_36_29 cx hret ih) hw hl hf
      · have hf := rx_f hc hf
        refine lv_iload_n hx hb dX1_weigh_20 rfl (lv_at hl 3 rfl) ?_
        refine lv_aload_n hx hb dX1_weigh_21 rfl (lv_at hl 1 rfl) ?_
        refine lv_iload hx hb dX1_weigh_22 (lv_at hl 4 rfl) ?_
        obtain ⟨hv2, v2, ev2, hf⟩ := rx_ldI hf
        refine rx_iald cx hw (arX_36 ad cI cL) ⟨hv2, ev2⟩ dX1_weigh_24 ?_
        refine rx_max cx (.tail _ tw_643) (.tail _ tw_501) (.tail _ tw_10) (.tail _ tw_502) hl.1 ⟨Nat.le_of_ble_eq_true rfl, Nat.le_of_ble_eq_true rfl, Nat.zero_le _, Nat.zero_le _⟩ dX1_weigh_25 ?_
        obtain ⟨v3, ev3, hf⟩ := rx_vvI hf
        refine rx_top ev3 ?_
        refine lv_istore_n (lv' := [(3, .int v3), (0, .ref ((ad 6))), (1, .ref ((ad 36))), (2, .int w2), (4, .int w4)]) hx hb dX1_weigh_28 rfl hl (Nat.le_of_ble_eq_true rfl) rfl (fun ls hl => ?_)
        exact (qk_X1_weigh_6_36_29 cx hret ih) hw (lv_sub hl [1, 2, 3, 0, 4] rfl) hf
set_option maxRecDepth 100000 in
set_option maxHeartbeats 4000000 in
theorem qk_X1_weigh_6_36_62 (cx : rx_C p m c cX1_weigh 5 s args wX1_weigh RX1 D vwCl (tX cI cL) (zX b1 b2) wN A) (hret : rx_RV p l e rm_X1_weigh_6_36 s m args below meth c cX1_weigh D vwCl (wX ad cI cL) A Q o) {w4 : Int32} {ls : Array Slot} {H : Heap} {locs : List Loc} {M : Me} (hw : rx_W D vwCl (wX ad cI cL) A s.heap M H locs) (hl : lv_has ls 5 [(0, .ref ((ad 6))), (1, .ref ((ad 36))), (4, .int w4)]) (hf : qb_X1_weigh_6_36_62 w4 M = some o) : W p l e rm_X1_weigh_6_36 s m args below meth c H locs 0 0 Q (F0 m 62 ls []) := by
  have hx := cx.1.1
  have hb := cx.1.2.1
  refine lv_aload_n hx hb dX1_weigh_62 rfl (lv_at hl 0 rfl) ?_
  refine lv_iconst (v := 1) hx hb dX1_weigh_63 ic_1 ?_
  obtain ⟨M1, eM1, hf⟩ := rx_vvI hf
  refine rx_puti cx hw (fiX_6_4 ad cI cL) rfl (inT_X1) tyX1 tyX1_ok nmX1 (Nat.le_of_ble_eq_true rfl) (.tail _ tw_254) rfl rfl rfl eM1 dX1_weigh_64 (fun H locs hw => ?_)
  refine lv_aload_n hx hb dX1_weigh_67 rfl (lv_at hl 0 rfl) ?_
  refine lv_iload hx hb dX1_weigh_68 (lv_at hl 2 rfl) ?_
  obtain ⟨M2, eM2, hf⟩ := rx_vvI hf
  refine rx_puti cx hw (fiX_6_5 ad cI cL) rfl (inT_X1) tyX1 tyX1_ok nmX1 (Nat.le_of_ble_eq_true rfl) (.tail _ tw_255) rfl rfl rfl eM2 dX1_weigh_70 (fun H locs hw => ?_)
  refine lv_aload_n hx hb dX1_weigh_73 rfl (lv_at hl 0 rfl) ?_
  refine lv_aload_n hx hb dX1_weigh_74 rfl (lv_at hl 0 rfl) ?_
  obtain ⟨v3, ev3, hf⟩ := rx_vvI hf
  refine rx_geti cx hw (fiX_6_1 ad cI cL) rfl (inT_X1) (Nat.le_of_ble_eq_true rfl) (.tail _ tw_248) ev3 dX1_weigh_75 ?_
  obtain ⟨M4, eM4, hf⟩ := rx_vvI hf
  refine rx_puti cx hw (fiX_6_6 ad cI cL) rfl (inT_X1) tyX1 tyX1_ok nmX1 (Nat.le_of_ble_eq_true rfl) (.tail _ tw_257) rfl rfl rfl eM4 dX1_weigh_78 (fun H locs hw => ?_)
  refine lv_aload_n hx hb dX1_weigh_81 rfl (lv_at hl 0 rfl) ?_
  refine lv_aload_n hx hb dX1_weigh_82 rfl (lv_at hl 0 rfl) ?_
  obtain ⟨v5, ev5, hf⟩ := rx_vvI hf
  refine rx_geti cx hw (fiX_6_2 ad cI cL) rfl (inT_X1) (Nat.le_of_ble_eq_true rfl) (.tail _ tw_250) ev5 dX1_weigh_83 ?_
  obtain ⟨M6, eM6, hf⟩ := rx_vvI hf
  refine rx_puti cx hw (fiX_6_7 ad cI cL) rfl (inT_X1) tyX1 tyX1_ok nmX1 (Nat.le_of_ble_eq_true rfl) (.tail _ tw_259) rfl rfl rfl eM6 dX1_weigh_86 (fun H locs hw => ?_)
  refine lv_aload_n hx hb dX1_weigh_89 rfl (lv_at hl 1 rfl) ?_
  refine lv_iconst (v := 0) hx hb dX1_weigh_90 ic_0 ?_
  refine lv_aload_n hx hb dX1_weigh_91 rfl (lv_at hl 0 rfl) ?_
  refine rx_getr cx hw (frX_6_8 ad cI cL) rfl (inT_X1) (Nat.le_of_ble_eq_true rfl) (.tail _ tw_261) dX1_weigh_92 ?_
  refine lv_iconst (v := 0) hx hb dX1_weigh_95 ic_0 ?_
  refine lv_iconst (v := 3) hx hb dX1_weigh_96 ic_3 ?_
  obtain ⟨M7, eM7, hf⟩ := rx_vvI hf
  refine rx_copy cx hw (.tail _ tw_644) (.tail _ tw_646) (.tail _ tw_645) (.tail _ tw_12) hl.1 (arX_36 ad cI cL) (arX_38 ad cI cL) eM7 ⟨Nat.le_of_ble_eq_true rfl, Nat.le_of_ble_eq_true rfl⟩ dX1_weigh_97 (fun H locs hw => ?_)
  exact rx_retv hret hw hf dX1_weigh_100
set_option maxRecDepth 100000 in
set_option maxHeartbeats 4000000 in
theorem qk_X1_weigh_6_36_35 (cx : rx_C p m c cX1_weigh 5 s args wX1_weigh RX1 D vwCl (tX cI cL) (zX b1 b2) wN A) (hret : rx_RV p l e rm_X1_weigh_6_36 s m args below meth c cX1_weigh D vwCl (wX ad cI cL) A Q o) {w3 : Int32} {ls : Array Slot} {H : Heap} {locs : List Loc} {M : Me} (hw : rx_W D vwCl (wX ad cI cL) A s.heap M H locs) (hl : lv_has ls 5 [(0, .ref ((ad 6))), (1, .ref ((ad 36))), (3, .int w3)]) (hf : qb_X1_weigh_6_36_35 w3 M = some o) : W p l e rm_X1_weigh_6_36 s m args below meth c H locs 0 0 Q (F0 m 35 ls []) := by
  have hx := cx.1.1
  have hb := cx.1.2.1
  refine lv_aload_n hx hb dX1_weigh_35 rfl (lv_at hl 1 rfl) ?_
  refine lv_aload_n hx hb dX1_weigh_36 rfl (lv_at hl 0 rfl) ?_
  obtain ⟨v1, ev1, hf⟩ := rx_vvI hf
  refine rx_geti cx hw (fiX_6_0 ad cI cL) rfl (inT_X1) (Nat.le_of_ble_eq_true rfl) (.tail _ tw_247) ev1 dX1_weigh_37 ?_
  obtain ⟨hv2, v2, ev2, hf⟩ := rx_ldI hf
  refine rx_iald cx hw (arX_36 ad cI cL) ⟨hv2, ev2⟩ dX1_weigh_40 ?_
  refine lv_iload_n hx hb dX1_weigh_41 rfl (lv_at hl 2 rfl) ?_
  refine lv_isub hx hb dX1_weigh_42 ?_
  obtain ⟨v3, ev3, hf⟩ := rx_vvI hf
  refine rx_top ev3 ?_
  refine lv_istore (lv' := [(4, .int v3), (0, .ref ((ad 6))), (1, .ref ((ad 36))), (3, .int w3)]) hx hb dX1_weigh_43 hl (Nat.le_of_ble_eq_true rfl) rfl (fun ls hl => ?_)
  refine lv_aload_n hx hb dX1_weigh_45 rfl (lv_at hl 1 rfl) ?_
  obtain ⟨v4, ev4, hf⟩ := rx_vvI hf
  refine rx_geti cx hw (fiX_6_4 ad cI cL) rfl (inT_X1) (Nat.le_of_ble_eq_true rfl) (.tail _ tw_254) ev4 dX1_weigh_46 ?_
  refine lv_if_eq hx hb dX1_weigh_49 rfl (fun hc => ?_) (fun hc => ?_)
  · have hf := rx_t hc hf
    exact (qk_X1_weigh_6_36_62 cx hret) hw (lv_sub hl [1, 2, 0] rfl) hf
  · have hf := rx_f hc hf
    refine lv_iload hx hb dX1_weigh_52 (lv_at hl 0 rfl) ?_
    refine lv_aload_n hx hb dX1_weigh_54 rfl (lv_at hl 1 rfl) ?_
    obtain ⟨v5, ev5, hf⟩ := rx_vvI hf
    refine rx_geti cx hw (fiX_6_5 ad cI cL) rfl (inT_X1) (Nat.le_of_ble_eq_true rfl) (.tail _ tw_255) ev5 dX1_weigh_55 ?_
    refine lv_icmp_gt hx hb dX1_weigh_58 rfl (fun hc => ?_) (fun hc => ?_)
    · have hf := rx_t hc hf
      exact (qk_X1_weigh_6_36_62 cx hret) hw (lv_sub hl [1, 2, 0] rfl) hf
    · have hf := rx_f hc hf
      exact rx_retv hret hw hf dX1_weigh_61
set_option maxRecDepth 100000 in
set_option maxHeartbeats 4000000 in
theorem qk_X1_weigh_6_36_0 (cx : rx_C p m c cX1_weigh 5 s args wX1_weigh RX1 D vwCl (tX cI cL) (zX b1 b2) wN A) (hret : rx_RV p l e rm_X1_weigh_6_36 s m args below meth c cX1_weigh D vwCl (wX ad cI cL) A Q o) {w2 : Int32} {ls : Array Slot} {H : Heap} {locs : List Loc} {M : Me} (hw : rx_W D vwCl (wX ad cI cL) A s.heap M H locs) (hl : lv_has ls 5 [(0, .ref ((ad 6))), (1, .ref ((ad 36))), (2, .int w2)]) (hf : qf_X1_weigh_6_36 w2 M = some o) : W p l e rm_X1_weigh_6_36 s m args below meth c H locs 0 0 Q (F0 m 0 ls []) := by
  have hx := cx.1.1
  have hb := cx.1.2.1
  refine lv_iconst (v := 0) hx hb dX1_weigh_0 ic_0 ?_
  refine lv_istore_n (lv' := [(3, .int 0), (0, .ref ((ad 6))), (1, .ref ((ad 36))), (2, .int w2)]) hx hb dX1_weigh_1 rfl hl (Nat.le_of_ble_eq_true rfl) rfl (fun ls hl => ?_)
  refine lv_iconst (v := 0) hx hb dX1_weigh_2 ic_0 ?_
  refine lv_istore (lv' := [(4, .int 0), (3, .int 0), (0, .ref ((ad 6))), (1, .ref ((ad 36))), (2, .int w2)]) hx hb dX1_weigh_3 hl (Nat.le_of_ble_eq_true rfl) rfl (fun ls hl => ?_)
  exact (qk_X1_weigh_6_36_5 cx hret (qk_X1_weigh_6_36_35 cx hret) rx_FU) hw (lv_sub hl [2, 3, 4, 1, 0] rfl) hf
end
set_option maxRecDepth 100000 in
theorem qc_X1_weigh_6_36 (l : Launch) (D : va_G) (ad : Nat → Nat) (cI cL : ClassId) (b1 b2 : Nat) (w2 : Int32) : rx_MV l yX1_weigh wX1_weigh rm_X1_weigh_6_36 D vwCl (wX ad cI cL) (tX cI cL) (zX b1 b2) wN [.ref (ad 6), .ref (ad 36), .int w2] (fun M => qf_X1_weigh_6_36 w2 M) :=
  rx_ofV (by decide) rfl wN_ok (Nat.le_of_ble_eq_true rfl) (fun _ _ _ _ _ _ _ _ _ _ _ _ _ cx hret hw hl hf => qk_X1_weigh_6_36_0 cx hret hw hl hf)
def rm_X1_weigh_7_36 : Room := { frames := 1, cells := 0, slots := 0, locals := 35 }
noncomputable def qb_X1_weigh_7_36_29 (k5 : Int32 → Int32 → Me → Op) (w2 : Int32) (w3 : Int32) (w4 : Int32)  (M : Me) : Op :=
  rx_vv (w4 + 1) fun v1 => k5 w3 v1 M
noncomputable def qo_X1_weigh_7_36_5 (k35 : Int32 → Me → Op) (w2 : Int32) (rec : Int32 → Int32 → Me → Op) (w3 : Int32) (w4 : Int32) (M : Me) : Op :=
  if w2 ≤ w4 then (k35 w3 M) else (rx_vv (M 7 0) fun v1 => if w4 = v1 then (qb_X1_weigh_7_36_29 rec w2 w3 w4 M) else (rx_ld M 36 3 w4 fun v2 => rx_vv ((if w3 < v2 then v2 else w3)) fun v3 => qb_X1_weigh_7_36_29 rec w2 v3 w4 M))
noncomputable def qb_X1_weigh_7_36_62  (w4 : Int32)  (M : Me) : Op :=
  rx_vv (rx_st M 7 4 1) fun M1 => rx_vv (rx_st M1 7 5 w4) fun M2 => rx_vv (M2 7 1) fun v3 => rx_vv (rx_st M2 7 6 v3) fun M4 => rx_vv (M4 7 2) fun v5 => rx_vv (rx_st M4 7 7 v5) fun M6 => rx_vv (rx_cp3 M6 36 39) fun M7 => some (0, M7)
noncomputable def qb_X1_weigh_7_36_35  (w3 : Int32)  (M : Me) : Op :=
  rx_vv (M 7 0) fun v1 => rx_ld M 36 3 v1 fun v2 => rx_vv (v2 - w3) fun v3 => rx_vv (M 7 4) fun v4 => if v4 = 0 then (qb_X1_weigh_7_36_62 v3 M) else (rx_vv (M 7 5) fun v5 => if v5 < v3 then (qb_X1_weigh_7_36_62 v3 M) else (some (0, M)))
noncomputable def qf_X1_weigh_7_36  (w2 : Int32)  (M : Me) : Op :=
  rx_lp2 (qo_X1_weigh_7_36_5 (fun a3 M => qb_X1_weigh_7_36_35 a3 M) w2) rx_FU 0 0 M
section
variable {p : Program} {l : Launch} {e : Env} {s : State} {m : MethodId} {args : Array Value} {below : List Frame} {meth : Method} {c : Code} {Q : State → Prop} {D : va_G} {A : Nat → Prop} {o : Int32 × Me} {ad : Nat → Nat} {cI cL : ClassId} {b1 b2 : Nat}
set_option maxRecDepth 100000 in
set_option maxHeartbeats 4000000 in
theorem qk_X1_weigh_7_36_29 (cx : rx_C p m c cX1_weigh 5 s args wX1_weigh RX1 D vwCl (tX cI cL) (zX b1 b2) wN A) (hret : rx_RV p l e rm_X1_weigh_7_36 s m args below meth c cX1_weigh D vwCl (wX ad cI cL) A Q o) {w2 : Int32} {w3 : Int32} {w4 : Int32} {k5 : Int32 → Int32 → Me → Op} (h5 : ∀ {a3 : Int32} {a4 : Int32} {ls : Array Slot} {H : Heap} {locs : List Loc} {M : Me}, rx_W D vwCl (wX ad cI cL) A s.heap M H locs → lv_has ls 5 [(0, .ref ((ad 7))), (1, .ref ((ad 36))), (2, .int w2), (3, .int a3), (4, .int a4)] → k5 a3 a4 M = some o → W p l e rm_X1_weigh_7_36 s m args below meth c H locs 0 0 Q (F0 m 5 ls [])) {ls : Array Slot} {H : Heap} {locs : List Loc} {M : Me} (hw : rx_W D vwCl (wX ad cI cL) A s.heap M H locs) (hl : lv_has ls 5 [(0, .ref ((ad 7))), (1, .ref ((ad 36))), (2, .int w2), (3, .int w3), (4, .int w4)]) (hf : qb_X1_weigh_7_36_29 k5 w2 w3 w4 M = some o) : W p l e rm_X1_weigh_7_36 s m args below meth c H locs 0 0 Q (F0 m 29 ls []) := by
  have hx := cx.1.1
  have hb := cx.1.2.1
  obtain ⟨v1, ev1, hf⟩ := rx_vvI hf
  refine lv_iinc (lv' := [(4, .int v1), (0, .ref ((ad 7))), (1, .ref ((ad 36))), (2, .int w2), (3, .int w3)]) hx hb dX1_weigh_29 hl (k := 4) rfl (rx_inc ic_1 ev1) (Nat.le_of_ble_eq_true rfl) rfl (fun ls hl => ?_)
  refine lv_goto hx hb dX1_weigh_32 rfl ?_
  exact h5 hw (lv_sub hl [1, 2, 3, 4, 0] rfl) hf
set_option maxRecDepth 100000 in
set_option maxHeartbeats 4000000 in
theorem qk_X1_weigh_7_36_5 (cx : rx_C p m c cX1_weigh 5 s args wX1_weigh RX1 D vwCl (tX cI cL) (zX b1 b2) wN A) (hret : rx_RV p l e rm_X1_weigh_7_36 s m args below meth c cX1_weigh D vwCl (wX ad cI cL) A Q o) {w2 : Int32} {k35 : Int32 → Me → Op} (h35 : ∀ {a3 : Int32} {ls : Array Slot} {H : Heap} {locs : List Loc} {M : Me}, rx_W D vwCl (wX ad cI cL) A s.heap M H locs → lv_has ls 5 [(0, .ref ((ad 7))), (1, .ref ((ad 36))), (3, .int a3)] → k35 a3 M = some o → W p l e rm_X1_weigh_7_36 s m args below meth c H locs 0 0 Q (F0 m 35 ls [])) : ∀ (n : Nat) {w3 : Int32} {w4 : Int32} {ls : Array Slot} {H : Heap} {locs : List Loc} {M : Me}, rx_W D vwCl (wX ad cI cL) A s.heap M H locs → lv_has ls 5 [(0, .ref ((ad 7))), (1, .ref ((ad 36))), (2, .int w2), (3, .int w3), (4, .int w4)] → rx_lp2 (qo_X1_weigh_7_36_5 k35 w2) n w3 w4 M = some o → W p l e rm_X1_weigh_7_36 s m args below meth c H locs 0 0 Q (F0 m 5 ls []) := by
  have hx := cx.1.1
  have hb := cx.1.2.1
  intro n
  induction n with
  | zero => intro w3 w4 ls H locs M hw hl hf; exact rx_no hf
  | succ n ih =>
    intro w3 w4 ls H locs M hw hl hf
    have hf : qo_X1_weigh_7_36_5 k35 w2 (rx_lp2 (qo_X1_weigh_7_36_5 k35 w2) n) w3 w4 M = some o := hf
    refine lv_iload hx hb dX1_weigh_5 (lv_at hl 4 rfl) ?_
    refine lv_iload_n hx hb dX1_weigh_7 rfl (lv_at hl 2 rfl) ?_
    refine lv_icmp_ge hx hb dX1_weigh_8 rfl (fun hc => ?_) (fun hc => ?_)
    · have hf := rx_t hc hf
      exact h35 hw (lv_sub hl [0, 1, 3] rfl) hf
    · have hf := rx_f hc hf
      refine lv_iload hx hb dX1_weigh_11 (lv_at hl 4 rfl) ?_
      refine lv_aload_n hx hb dX1_weigh_13 rfl (lv_at hl 0 rfl) ?_
      obtain ⟨v1, ev1, hf⟩ := rx_vvI hf
      refine rx_geti cx hw (fiX_7_0 ad cI cL) rfl (inT_X1) (Nat.le_of_ble_eq_true rfl) (.tail _ tw_247) ev1 dX1_weigh_14 ?_
      refine lv_icmp_eq hx hb dX1_weigh_17 rfl (fun hc => ?_) (fun hc => ?_)
      · have hf := rx_t hc hf
        exact (qk_X1_weigh_7_36_29 cx hret ih) hw hl hf
      · have hf := rx_f hc hf
        refine lv_iload_n hx hb dX1_weigh_20 rfl (lv_at hl 3 rfl) ?_
        refine lv_aload_n hx hb dX1_weigh_21 rfl (lv_at hl 1 rfl) ?_
        refine lv_iload hx hb dX1_weigh_22 (lv_at hl 4 rfl) ?_
        obtain ⟨hv2, v2, ev2, hf⟩ := rx_ldI hf
        refine rx_iald cx hw (arX_36 ad cI cL) ⟨hv2, ev2⟩ dX1_weigh_24 ?_
        refine rx_max cx (.tail _ tw_643) (.tail _ tw_501) (.tail _ tw_10) (.tail _ tw_502) hl.1 ⟨Nat.le_of_ble_eq_true rfl, Nat.le_of_ble_eq_true rfl, Nat.zero_le _, Nat.zero_le _⟩ dX1_weigh_25 ?_
        obtain ⟨v3, ev3, hf⟩ := rx_vvI hf
        refine rx_top ev3 ?_
        refine lv_istore_n (lv' := [(3, .int v3), (0, .ref ((ad 7))), (1, .ref ((ad 36))), (2, .int w2), (4, .int w4)]) hx hb dX1_weigh_28 rfl hl (Nat.le_of_ble_eq_true rfl) rfl (fun ls hl => ?_)
        exact (qk_X1_weigh_7_36_29 cx hret ih) hw (lv_sub hl [1, 2, 3, 0, 4] rfl) hf
set_option maxRecDepth 100000 in
set_option maxHeartbeats 4000000 in
theorem qk_X1_weigh_7_36_62 (cx : rx_C p m c cX1_weigh 5 s args wX1_weigh RX1 D vwCl (tX cI cL) (zX b1 b2) wN A) (hret : rx_RV p l e rm_X1_weigh_7_36 s m args below meth c cX1_weigh D vwCl (wX ad cI cL) A Q o) {w4 : Int32} {ls : Array Slot} {H : Heap} {locs : List Loc} {M : Me} (hw : rx_W D vwCl (wX ad cI cL) A s.heap M H locs) (hl : lv_has ls 5 [(0, .ref ((ad 7))), (1, .ref ((ad 36))), (4, .int w4)]) (hf : qb_X1_weigh_7_36_62 w4 M = some o) : W p l e rm_X1_weigh_7_36 s m args below meth c H locs 0 0 Q (F0 m 62 ls []) := by
  have hx := cx.1.1
  have hb := cx.1.2.1
  refine lv_aload_n hx hb dX1_weigh_62 rfl (lv_at hl 0 rfl) ?_
  refine lv_iconst (v := 1) hx hb dX1_weigh_63 ic_1 ?_
  obtain ⟨M1, eM1, hf⟩ := rx_vvI hf
  refine rx_puti cx hw (fiX_7_4 ad cI cL) rfl (inT_X1) tyX1 tyX1_ok nmX1 (Nat.le_of_ble_eq_true rfl) (.tail _ tw_254) rfl rfl rfl eM1 dX1_weigh_64 (fun H locs hw => ?_)
  refine lv_aload_n hx hb dX1_weigh_67 rfl (lv_at hl 0 rfl) ?_
  refine lv_iload hx hb dX1_weigh_68 (lv_at hl 2 rfl) ?_
  obtain ⟨M2, eM2, hf⟩ := rx_vvI hf
  refine rx_puti cx hw (fiX_7_5 ad cI cL) rfl (inT_X1) tyX1 tyX1_ok nmX1 (Nat.le_of_ble_eq_true rfl) (.tail _ tw_255) rfl rfl rfl eM2 dX1_weigh_70 (fun H locs hw => ?_)
  refine lv_aload_n hx hb dX1_weigh_73 rfl (lv_at hl 0 rfl) ?_
  refine lv_aload_n hx hb dX1_weigh_74 rfl (lv_at hl 0 rfl) ?_
  obtain ⟨v3, ev3, hf⟩ := rx_vvI hf
  refine rx_geti cx hw (fiX_7_1 ad cI cL) rfl (inT_X1) (Nat.le_of_ble_eq_true rfl) (.tail _ tw_248) ev3 dX1_weigh_75 ?_
  obtain ⟨M4, eM4, hf⟩ := rx_vvI hf
  refine rx_puti cx hw (fiX_7_6 ad cI cL) rfl (inT_X1) tyX1 tyX1_ok nmX1 (Nat.le_of_ble_eq_true rfl) (.tail _ tw_257) rfl rfl rfl eM4 dX1_weigh_78 (fun H locs hw => ?_)
  refine lv_aload_n hx hb dX1_weigh_81 rfl (lv_at hl 0 rfl) ?_
  refine lv_aload_n hx hb dX1_weigh_82 rfl (lv_at hl 0 rfl) ?_
  obtain ⟨v5, ev5, hf⟩ := rx_vvI hf
  refine rx_geti cx hw (fiX_7_2 ad cI cL) rfl (inT_X1) (Nat.le_of_ble_eq_true rfl) (.tail _ tw_250) ev5 dX1_weigh_83 ?_
  obtain ⟨M6, eM6, hf⟩ := rx_vvI hf
  refine rx_puti cx hw (fiX_7_7 ad cI cL) rfl (inT_X1) tyX1 tyX1_ok nmX1 (Nat.le_of_ble_eq_true rfl) (.tail _ tw_259) rfl rfl rfl eM6 dX1_weigh_86 (fun H locs hw => ?_)
  refine lv_aload_n hx hb dX1_weigh_89 rfl (lv_at hl 1 rfl) ?_
  refine lv_iconst (v := 0) hx hb dX1_weigh_90 ic_0 ?_
  refine lv_aload_n hx hb dX1_weigh_91 rfl (lv_at hl 0 rfl) ?_
  refine rx_getr cx hw (frX_7_8 ad cI cL) rfl (inT_X1) (Nat.le_of_ble_eq_true rfl) (.tail _ tw_261) dX1_weigh_92 ?_
  refine lv_iconst (v := 0) hx hb dX1_weigh_95 ic_0 ?_
  refine lv_iconst (v := 3) hx hb dX1_weigh_96 ic_3 ?_
  obtain ⟨M7, eM7, hf⟩ := rx_vvI hf
  refine rx_copy cx hw (.tail _ tw_644) (.tail _ tw_646) (.tail _ tw_645) (.tail _ tw_12) hl.1 (arX_36 ad cI cL) (arX_39 ad cI cL) eM7 ⟨Nat.le_of_ble_eq_true rfl, Nat.le_of_ble_eq_true rfl⟩ dX1_weigh_97 (fun H locs hw => ?_)
  exact rx_retv hret hw hf dX1_weigh_100
set_option maxRecDepth 100000 in
set_option maxHeartbeats 4000000 in
theorem qk_X1_weigh_7_36_35 (cx : rx_C p m c cX1_weigh 5 s args wX1_weigh RX1 D vwCl (tX cI cL) (zX b1 b2) wN A) (hret : rx_RV p l e rm_X1_weigh_7_36 s m args below meth c cX1_weigh D vwCl (wX ad cI cL) A Q o) {w3 : Int32} {ls : Array Slot} {H : Heap} {locs : List Loc} {M : Me} (hw : rx_W D vwCl (wX ad cI cL) A s.heap M H locs) (hl : lv_has ls 5 [(0, .ref ((ad 7))), (1, .ref ((ad 36))), (3, .int w3)]) (hf : qb_X1_weigh_7_36_35 w3 M = some o) : W p l e rm_X1_weigh_7_36 s m args below meth c H locs 0 0 Q (F0 m 35 ls []) := by
  have hx := cx.1.1
  have hb := cx.1.2.1
  refine lv_aload_n hx hb dX1_weigh_35 rfl (lv_at hl 1 rfl) ?_
  refine lv_aload_n hx hb dX1_weigh_36 rfl (lv_at hl 0 rfl) ?_
  obtain ⟨v1, ev1, hf⟩ := rx_vvI hf
  refine rx_geti cx hw (fiX_7_0 ad cI cL) rfl (inT_X1) (Nat.le_of_ble_eq_true rfl) (.tail _ tw_247) ev1 dX1_weigh_37 ?_
  obtain ⟨hv2, v2, ev2, hf⟩ := rx_ldI hf
  refine rx_iald cx hw (arX_36 ad cI cL) ⟨hv2, ev2⟩ dX1_weigh_40 ?_
  refine lv_iload_n hx hb dX1_weigh_41 rfl (lv_at hl 2 rfl) ?_
  refine lv_isub hx hb dX1_weigh_42 ?_
  obtain ⟨v3, ev3, hf⟩ := rx_vvI hf
  refine rx_top ev3 ?_
  refine lv_istore (lv' := [(4, .int v3), (0, .ref ((ad 7))), (1, .ref ((ad 36))), (3, .int w3)]) hx hb dX1_weigh_43 hl (Nat.le_of_ble_eq_true rfl) rfl (fun ls hl => ?_)
  refine lv_aload_n hx hb dX1_weigh_45 rfl (lv_at hl 1 rfl) ?_
  obtain ⟨v4, ev4, hf⟩ := rx_vvI hf
  refine rx_geti cx hw (fiX_7_4 ad cI cL) rfl (inT_X1) (Nat.le_of_ble_eq_true rfl) (.tail _ tw_254) ev4 dX1_weigh_46 ?_
  refine lv_if_eq hx hb dX1_weigh_49 rfl (fun hc => ?_) (fun hc => ?_)
  · have hf := rx_t hc hf
    exact (qk_X1_weigh_7_36_62 cx hret) hw (lv_sub hl [1, 2, 0] rfl) hf
  · have hf := rx_f hc hf
    refine lv_iload hx hb dX1_weigh_52 (lv_at hl 0 rfl) ?_
    refine lv_aload_n hx hb dX1_weigh_54 rfl (lv_at hl 1 rfl) ?_
    obtain ⟨v5, ev5, hf⟩ := rx_vvI hf
    refine rx_geti cx hw (fiX_7_5 ad cI cL) rfl (inT_X1) (Nat.le_of_ble_eq_true rfl) (.tail _ tw_255) ev5 dX1_weigh_55 ?_
    refine lv_icmp_gt hx hb dX1_weigh_58 rfl (fun hc => ?_) (fun hc => ?_)
    · have hf := rx_t hc hf
      exact (qk_X1_weigh_7_36_62 cx hret) hw (lv_sub hl [1, 2, 0] rfl) hf
    · have hf := rx_f hc hf
      exact rx_retv hret hw hf dX1_weigh_61
set_option maxRecDepth 100000 in
set_option maxHeartbeats 4000000 in
theorem qk_X1_weigh_7_36_0 (cx : rx_C p m c cX1_weigh 5 s args wX1_weigh RX1 D vwCl (tX cI cL) (zX b1 b2) wN A) (hret : rx_RV p l e rm_X1_weigh_7_36 s m args below meth c cX1_weigh D vwCl (wX ad cI cL) A Q o) {w2 : Int32} {ls : Array Slot} {H : Heap} {locs : List Loc} {M : Me} (hw : rx_W D vwCl (wX ad cI cL) A s.heap M H locs) (hl : lv_has ls 5 [(0, .ref ((ad 7))), (1, .ref ((ad 36))), (2, .int w2)]) (hf : qf_X1_weigh_7_36 w2 M = some o) : W p l e rm_X1_weigh_7_36 s m args below meth c H locs 0 0 Q (F0 m 0 ls []) := by
  have hx := cx.1.1
  have hb := cx.1.2.1
  refine lv_iconst (v := 0) hx hb dX1_weigh_0 ic_0 ?_
  refine lv_istore_n (lv' := [(3, .int 0), (0, .ref ((ad 7))), (1, .ref ((ad 36))), (2, .int w2)]) hx hb dX1_weigh_1 rfl hl (Nat.le_of_ble_eq_true rfl) rfl (fun ls hl => ?_)
  refine lv_iconst (v := 0) hx hb dX1_weigh_2 ic_0 ?_
  refine lv_istore (lv' := [(4, .int 0), (3, .int 0), (0, .ref ((ad 7))), (1, .ref ((ad 36))), (2, .int w2)]) hx hb dX1_weigh_3 hl (Nat.le_of_ble_eq_true rfl) rfl (fun ls hl => ?_)
  exact (qk_X1_weigh_7_36_5 cx hret (qk_X1_weigh_7_36_35 cx hret) rx_FU) hw (lv_sub hl [2, 3, 4, 1, 0] rfl) hf
end
set_option maxRecDepth 100000 in
theorem qc_X1_weigh_7_36 (l : Launch) (D : va_G) (ad : Nat → Nat) (cI cL : ClassId) (b1 b2 : Nat) (w2 : Int32) : rx_MV l yX1_weigh wX1_weigh rm_X1_weigh_7_36 D vwCl (wX ad cI cL) (tX cI cL) (zX b1 b2) wN [.ref (ad 7), .ref (ad 36), .int w2] (fun M => qf_X1_weigh_7_36 w2 M) :=
  rx_ofV (by decide) rfl wN_ok (Nat.le_of_ble_eq_true rfl) (fun _ _ _ _ _ _ _ _ _ _ _ _ _ cx hret hw hl hf => qk_X1_weigh_7_36_0 cx hret hw hl hf)
def rm_X1_begin_6 : Room := { frames := 0, cells := 0, slots := 0, locals := 0 }
noncomputable def qf_X1_begin_6  (w1 : Int32)  (M : Me) : Op :=
  rx_vv (rx_st M 6 0 w1) fun M1 => rx_vv (rx_st M1 6 1 (-1)) fun M2 => rx_vv (rx_st M2 6 3 0) fun M3 => rx_vv (rx_st M3 6 4 0) fun M4 => some (0, M4)
section
variable {p : Program} {l : Launch} {e : Env} {s : State} {m : MethodId} {args : Array Value} {below : List Frame} {meth : Method} {c : Code} {Q : State → Prop} {D : va_G} {A : Nat → Prop} {o : Int32 × Me} {ad : Nat → Nat} {cI cL : ClassId} {b1 b2 : Nat}
set_option maxRecDepth 100000 in
set_option maxHeartbeats 4000000 in
theorem qk_X1_begin_6_0 (cx : rx_C p m c cX1_begin 2 s args wX1_begin RX1 D vwCl (tX cI cL) (zX b1 b2) wN A) (hret : rx_RV p l e rm_X1_begin_6 s m args below meth c cX1_begin D vwCl (wX ad cI cL) A Q o) {w1 : Int32} {ls : Array Slot} {H : Heap} {locs : List Loc} {M : Me} (hw : rx_W D vwCl (wX ad cI cL) A s.heap M H locs) (hl : lv_has ls 2 [(0, .ref ((ad 6))), (1, .int w1)]) (hf : qf_X1_begin_6 w1 M = some o) : W p l e rm_X1_begin_6 s m args below meth c H locs 0 0 Q (F0 m 0 ls []) := by
  have hx := cx.1.1
  have hb := cx.1.2.1
  refine lv_aload_n hx hb dX1_begin_0 rfl (lv_at hl 0 rfl) ?_
  refine lv_iload_n hx hb dX1_begin_1 rfl (lv_at hl 1 rfl) ?_
  obtain ⟨M1, eM1, hf⟩ := rx_vvI hf
  refine rx_puti cx hw (fiX_6_0 ad cI cL) rfl (inT_X1) tyX1 tyX1_ok nmX1 (Nat.le_of_ble_eq_true rfl) (.tail _ tw_247) rfl rfl rfl eM1 dX1_begin_2 (fun H locs hw => ?_)
  refine lv_aload_n hx hb dX1_begin_5 rfl (lv_at hl 0 rfl) ?_
  refine lv_iconst (v := (-1)) hx hb dX1_begin_6 ic_m1 ?_
  obtain ⟨M2, eM2, hf⟩ := rx_vvI hf
  refine rx_puti cx hw (fiX_6_1 ad cI cL) rfl (inT_X1) tyX1 tyX1_ok nmX1 (Nat.le_of_ble_eq_true rfl) (.tail _ tw_248) rfl rfl rfl eM2 dX1_begin_7 (fun H locs hw => ?_)
  refine lv_aload_n hx hb dX1_begin_10 rfl (lv_at hl 0 rfl) ?_
  refine lv_iconst (v := 0) hx hb dX1_begin_11 ic_0 ?_
  obtain ⟨M3, eM3, hf⟩ := rx_vvI hf
  refine rx_puti cx hw (fiX_6_3 ad cI cL) rfl (inT_X1) tyX1 tyX1_ok nmX1 (Nat.le_of_ble_eq_true rfl) (.tail _ tw_252) rfl rfl rfl eM3 dX1_begin_12 (fun H locs hw => ?_)
  refine lv_aload_n hx hb dX1_begin_15 rfl (lv_at hl 0 rfl) ?_
  refine lv_iconst (v := 0) hx hb dX1_begin_16 ic_0 ?_
  obtain ⟨M4, eM4, hf⟩ := rx_vvI hf
  refine rx_puti cx hw (fiX_6_4 ad cI cL) rfl (inT_X1) tyX1 tyX1_ok nmX1 (Nat.le_of_ble_eq_true rfl) (.tail _ tw_254) rfl rfl rfl eM4 dX1_begin_17 (fun H locs hw => ?_)
  exact rx_retv hret hw hf dX1_begin_20
end
set_option maxRecDepth 100000 in
theorem qc_X1_begin_6 (l : Launch) (D : va_G) (ad : Nat → Nat) (cI cL : ClassId) (b1 b2 : Nat) (w1 : Int32) : rx_MV l yX1_begin wX1_begin rm_X1_begin_6 D vwCl (wX ad cI cL) (tX cI cL) (zX b1 b2) wN [.ref (ad 6), .int w1] (fun M => qf_X1_begin_6 w1 M) :=
  rx_ofV (by decide) rfl wN_ok (Nat.le_of_ble_eq_true rfl) (fun _ _ _ _ _ _ _ _ _ _ _ _ _ cx hret hw hl hf => qk_X1_begin_6_0 cx hret hw hl hf)
def rm_X1_begin_7 : Room := { frames := 0, cells := 0, slots := 0, locals := 0 }
noncomputable def qf_X1_begin_7  (w1 : Int32)  (M : Me) : Op :=
  rx_vv (rx_st M 7 0 w1) fun M1 => rx_vv (rx_st M1 7 1 (-1)) fun M2 => rx_vv (rx_st M2 7 3 0) fun M3 => rx_vv (rx_st M3 7 4 0) fun M4 => some (0, M4)
section
variable {p : Program} {l : Launch} {e : Env} {s : State} {m : MethodId} {args : Array Value} {below : List Frame} {meth : Method} {c : Code} {Q : State → Prop} {D : va_G} {A : Nat → Prop} {o : Int32 × Me} {ad : Nat → Nat} {cI cL : ClassId} {b1 b2 : Nat}
set_option maxRecDepth 100000 in
set_option maxHeartbeats 4000000 in
theorem qk_X1_begin_7_0 (cx : rx_C p m c cX1_begin 2 s args wX1_begin RX1 D vwCl (tX cI cL) (zX b1 b2) wN A) (hret : rx_RV p l e rm_X1_begin_7 s m args below meth c cX1_begin D vwCl (wX ad cI cL) A Q o) {w1 : Int32} {ls : Array Slot} {H : Heap} {locs : List Loc} {M : Me} (hw : rx_W D vwCl (wX ad cI cL) A s.heap M H locs) (hl : lv_has ls 2 [(0, .ref ((ad 7))), (1, .int w1)]) (hf : qf_X1_begin_7 w1 M = some o) : W p l e rm_X1_begin_7 s m args below meth c H locs 0 0 Q (F0 m 0 ls []) := by
  have hx := cx.1.1
  have hb := cx.1.2.1
  refine lv_aload_n hx hb dX1_begin_0 rfl (lv_at hl 0 rfl) ?_
  refine lv_iload_n hx hb dX1_begin_1 rfl (lv_at hl 1 rfl) ?_
  obtain ⟨M1, eM1, hf⟩ := rx_vvI hf
  refine rx_puti cx hw (fiX_7_0 ad cI cL) rfl (inT_X1) tyX1 tyX1_ok nmX1 (Nat.le_of_ble_eq_true rfl) (.tail _ tw_247) rfl rfl rfl eM1 dX1_begin_2 (fun H locs hw => ?_)
  refine lv_aload_n hx hb dX1_begin_5 rfl (lv_at hl 0 rfl) ?_
  refine lv_iconst (v := (-1)) hx hb dX1_begin_6 ic_m1 ?_
  obtain ⟨M2, eM2, hf⟩ := rx_vvI hf
  refine rx_puti cx hw (fiX_7_1 ad cI cL) rfl (inT_X1) tyX1 tyX1_ok nmX1 (Nat.le_of_ble_eq_true rfl) (.tail _ tw_248) rfl rfl rfl eM2 dX1_begin_7 (fun H locs hw => ?_)
  refine lv_aload_n hx hb dX1_begin_10 rfl (lv_at hl 0 rfl) ?_
  refine lv_iconst (v := 0) hx hb dX1_begin_11 ic_0 ?_
  obtain ⟨M3, eM3, hf⟩ := rx_vvI hf
  refine rx_puti cx hw (fiX_7_3 ad cI cL) rfl (inT_X1) tyX1 tyX1_ok nmX1 (Nat.le_of_ble_eq_true rfl) (.tail _ tw_252) rfl rfl rfl eM3 dX1_begin_12 (fun H locs hw => ?_)
  refine lv_aload_n hx hb dX1_begin_15 rfl (lv_at hl 0 rfl) ?_
  refine lv_iconst (v := 0) hx hb dX1_begin_16 ic_0 ?_
  obtain ⟨M4, eM4, hf⟩ := rx_vvI hf
  refine rx_puti cx hw (fiX_7_4 ad cI cL) rfl (inT_X1) tyX1 tyX1_ok nmX1 (Nat.le_of_ble_eq_true rfl) (.tail _ tw_254) rfl rfl rfl eM4 dX1_begin_17 (fun H locs hw => ?_)
  exact rx_retv hret hw hf dX1_begin_20
end
set_option maxRecDepth 100000 in
theorem qc_X1_begin_7 (l : Launch) (D : va_G) (ad : Nat → Nat) (cI cL : ClassId) (b1 b2 : Nat) (w1 : Int32) : rx_MV l yX1_begin wX1_begin rm_X1_begin_7 D vwCl (wX ad cI cL) (tX cI cL) (zX b1 b2) wN [.ref (ad 7), .int w1] (fun M => qf_X1_begin_7 w1 M) :=
  rx_ofV (by decide) rfl wN_ok (Nat.le_of_ble_eq_true rfl) (fun _ _ _ _ _ _ _ _ _ _ _ _ _ cx hret hw hl hf => qk_X1_begin_7_0 cx hret hw hl hf)
def rm_X4_lookBehindLine : Room := { frames := 5, cells := 0, slots := 0, locals := 117 }
noncomputable def qb_X4_lookBehindLine_44  (w1 : Int32)  (M : Me) : Op :=
  rx_cl (qf_X2_reckonFinals M) fun r1 M2 => if w1 = 0 then (rx_vv (M2 4 4) fun v3 => rx_cl (qf_X1_weigh_6_36 v3 M2) fun r4 M5 => rx_cl (qf_X2_stepBack M5) fun r6 M7 => some (w1, M7)) else if w1 = 1 then (rx_vv (M2 4 4) fun v8 => rx_cl (qf_X1_weigh_7_36 v8 M2) fun r9 M10 => rx_cl (qf_X2_stepBack M10) fun r11 M12 => some (w1, M12)) else none
noncomputable def qf_X4_lookBehindLine  (w1 : Int32)  (M : Me) : Op :=
  rx_vv (M 4 6) fun v1 => if v1 = (-1) then (qb_X4_lookBehindLine_44 w1 M) else (if 2 ≤ (w1 + 1) then (qb_X4_lookBehindLine_44 w1 M) else (if (w1 + 1) = 0 then (rx_vv (M 4 5) fun v2 => rx_cl (qf_X1_begin_6 v2 M) fun r3 M4 => some (w1 + 1, M4)) else if (w1 + 1) = 1 then (rx_vv (M 4 5) fun v5 => rx_cl (qf_X1_begin_7 v5 M) fun r6 M7 => some (w1 + 1, M7)) else none))
section
variable {p : Program} {l : Launch} {e : Env} {s : State} {m : MethodId} {args : Array Value} {below : List Frame} {meth : Method} {c : Code} {Q : State → Prop} {D : va_G} {A : Nat → Prop} {o : Int32 × Me} {ad : Nat → Nat} {cI cL : ClassId} {b1 b2 : Nat}
set_option maxRecDepth 100000 in
set_option maxHeartbeats 4000000 in
theorem qk_X4_lookBehindLine_44 (cx : rx_C p m c cX4_lookBehindLine 2 s args wX4_lookBehindLine RX4 D vwCl (tX cI cL) (zX b1 b2) wN A) (hret : rx_RI p l e rm_X4_lookBehindLine s m args below meth c cX4_lookBehindLine D vwCl (wX ad cI cL) A Q o) {w1 : Int32} {ls : Array Slot} {H : Heap} {locs : List Loc} {M : Me} (hw : rx_W D vwCl (wX ad cI cL) A s.heap M H locs) (hl : lv_has ls 2 [(0, .ref ((ad 5))), (1, .int w1)]) (hf : qb_X4_lookBehindLine_44 w1 M = some o) : W p l e rm_X4_lookBehindLine s m args below meth c H locs 0 0 Q (F0 m 44 ls []) := by
  have hx := cx.1.1
  have hb := cx.1.2.1
  refine lv_aload_n hx hb dX4_lookBehindLine_44 rfl (lv_at hl 0 rfl) ?_
  refine rx_getr cx hw (frX_5_0 ad cI cL) rfl (inT_X4) (Nat.le_of_ble_eq_true rfl) (.tail _ tw_282) dX4_lookBehindLine_45 ?_
  obtain ⟨r1, M2, er1, hf⟩ := rx_clI hf
  refine rx_jVv cx hw (qc_X2_reckonFinals l D ad cI cL b1 b2) (obX_4 ad cI cL) rfl rfl kfX2_reckonFinals tw_638 ⟨Nat.le_of_ble_eq_true rfl, Nat.le_of_ble_eq_true rfl, rfl, rfl⟩ rfl hl.1 (Nat.le_of_ble_eq_true rfl) ⟨Nat.zero_le _, Nat.zero_le _⟩ dX4_lookBehindLine_48 rfl er1 (fun H locs hw => ?_)
  refine lv_aload_n hx hb dX4_lookBehindLine_51 rfl (lv_at hl 0 rfl) ?_
  refine rx_getr cx hw (frX_5_2 ad cI cL) rfl (inT_X4) (Nat.le_of_ble_eq_true rfl) (.tail _ tw_284) dX4_lookBehindLine_52 ?_
  refine lv_iload_n hx hb dX4_lookBehindLine_55 rfl (lv_at hl 1 rfl) ?_
  by_cases hq13 : w1 = 0
  · have hf := rx_t hq13 hf
    refine rx_aal0 cx hw (lvX ad cI cL) hq13 dX4_lookBehindLine_56 ?_
    refine lv_aload_n hx hb dX4_lookBehindLine_57 rfl (lv_at hl 0 rfl) ?_
    refine rx_getr cx hw (frX_5_0 ad cI cL) rfl (inT_X4) (Nat.le_of_ble_eq_true rfl) (.tail _ tw_282) dX4_lookBehindLine_58 ?_
    refine rx_getrN cx hw (frX_4_11 ad cI cL) rfl (inT_X2) (Nat.le_of_ble_eq_true rfl) tn_204 dX4_lookBehindLine_61 ?_
    refine lv_aload_n hx hb dX4_lookBehindLine_64 rfl (lv_at hl 0 rfl) ?_
    refine rx_getr cx hw (frX_5_0 ad cI cL) rfl (inT_X4) (Nat.le_of_ble_eq_true rfl) (.tail _ tw_282) dX4_lookBehindLine_65 ?_
    obtain ⟨v3, ev3, hf⟩ := rx_vvI hf
    refine rx_getiN cx hw (fiX_4_4 ad cI cL) rfl (inT_X2) (Nat.le_of_ble_eq_true rfl) tn_188 ev3 dX4_lookBehindLine_68 ?_
    obtain ⟨r4, M5, er4, hf⟩ := rx_clI hf
    refine rx_jVv cx hw (qc_X1_weigh_6_36 l D ad cI cL b1 b2 v3) (obX_6 ad cI cL) rfl rfl kfX1_weigh tw_639 ⟨Nat.le_of_ble_eq_true rfl, Nat.le_of_ble_eq_true rfl, rfl, rfl⟩ rfl hl.1 (Nat.le_of_ble_eq_true rfl) ⟨Nat.zero_le _, Nat.zero_le _⟩ dX4_lookBehindLine_71 rfl er4 (fun H locs hw => ?_)
    refine lv_aload_n hx hb dX4_lookBehindLine_74 rfl (lv_at hl 0 rfl) ?_
    refine rx_getr cx hw (frX_5_0 ad cI cL) rfl (inT_X4) (Nat.le_of_ble_eq_true rfl) (.tail _ tw_282) dX4_lookBehindLine_75 ?_
    obtain ⟨r6, M7, er6, hf⟩ := rx_clI hf
    refine rx_jVv cx hw (qc_X2_stepBack l D ad cI cL b1 b2) (obX_4 ad cI cL) rfl rfl kfX2_stepBack tw_631 ⟨Nat.le_of_ble_eq_true rfl, Nat.le_of_ble_eq_true rfl, rfl, rfl⟩ rfl hl.1 (Nat.le_of_ble_eq_true rfl) ⟨Nat.zero_le _, Nat.zero_le _⟩ dX4_lookBehindLine_78 rfl er6 (fun H locs hw => ?_)
    refine lv_iload_n hx hb dX4_lookBehindLine_81 rfl (lv_at hl 1 rfl) ?_
    exact rx_reti hret hw hf dX4_lookBehindLine_82
  · have hf := rx_f hq13 hf
    by_cases hq131 : w1 = 1
    · have hf := rx_t hq131 hf
      refine rx_aal1 cx hw (lvX ad cI cL) hq131 dX4_lookBehindLine_56 ?_
      refine lv_aload_n hx hb dX4_lookBehindLine_57 rfl (lv_at hl 0 rfl) ?_
      refine rx_getr cx hw (frX_5_0 ad cI cL) rfl (inT_X4) (Nat.le_of_ble_eq_true rfl) (.tail _ tw_282) dX4_lookBehindLine_58 ?_
      refine rx_getrN cx hw (frX_4_11 ad cI cL) rfl (inT_X2) (Nat.le_of_ble_eq_true rfl) tn_204 dX4_lookBehindLine_61 ?_
      refine lv_aload_n hx hb dX4_lookBehindLine_64 rfl (lv_at hl 0 rfl) ?_
      refine rx_getr cx hw (frX_5_0 ad cI cL) rfl (inT_X4) (Nat.le_of_ble_eq_true rfl) (.tail _ tw_282) dX4_lookBehindLine_65 ?_
      obtain ⟨v8, ev8, hf⟩ := rx_vvI hf
      refine rx_getiN cx hw (fiX_4_4 ad cI cL) rfl (inT_X2) (Nat.le_of_ble_eq_true rfl) tn_188 ev8 dX4_lookBehindLine_68 ?_
      obtain ⟨r9, M10, er9, hf⟩ := rx_clI hf
      refine rx_jVv cx hw (qc_X1_weigh_7_36 l D ad cI cL b1 b2 v8) (obX_7 ad cI cL) rfl rfl kfX1_weigh tw_639 ⟨Nat.le_of_ble_eq_true rfl, Nat.le_of_ble_eq_true rfl, rfl, rfl⟩ rfl hl.1 (Nat.le_of_ble_eq_true rfl) ⟨Nat.zero_le _, Nat.zero_le _⟩ dX4_lookBehindLine_71 rfl er9 (fun H locs hw => ?_)
      refine lv_aload_n hx hb dX4_lookBehindLine_74 rfl (lv_at hl 0 rfl) ?_
      refine rx_getr cx hw (frX_5_0 ad cI cL) rfl (inT_X4) (Nat.le_of_ble_eq_true rfl) (.tail _ tw_282) dX4_lookBehindLine_75 ?_
      obtain ⟨r11, M12, er11, hf⟩ := rx_clI hf
      refine rx_jVv cx hw (qc_X2_stepBack l D ad cI cL b1 b2) (obX_4 ad cI cL) rfl rfl kfX2_stepBack tw_631 ⟨Nat.le_of_ble_eq_true rfl, Nat.le_of_ble_eq_true rfl, rfl, rfl⟩ rfl hl.1 (Nat.le_of_ble_eq_true rfl) ⟨Nat.zero_le _, Nat.zero_le _⟩ dX4_lookBehindLine_78 rfl er11 (fun H locs hw => ?_)
      refine lv_iload_n hx hb dX4_lookBehindLine_81 rfl (lv_at hl 1 rfl) ?_
      exact rx_reti hret hw hf dX4_lookBehindLine_82
    · exact rx_no (rx_f hq131 hf)
set_option maxRecDepth 100000 in
set_option maxHeartbeats 4000000 in
theorem qk_X4_lookBehindLine_0 (cx : rx_C p m c cX4_lookBehindLine 2 s args wX4_lookBehindLine RX4 D vwCl (tX cI cL) (zX b1 b2) wN A) (hret : rx_RI p l e rm_X4_lookBehindLine s m args below meth c cX4_lookBehindLine D vwCl (wX ad cI cL) A Q o) {w1 : Int32} {ls : Array Slot} {H : Heap} {locs : List Loc} {M : Me} (hw : rx_W D vwCl (wX ad cI cL) A s.heap M H locs) (hl : lv_has ls 2 [(0, .ref ((ad 5))), (1, .int w1)]) (hf : qf_X4_lookBehindLine w1 M = some o) : W p l e rm_X4_lookBehindLine s m args below meth c H locs 0 0 Q (F0 m 0 ls []) := by
  have hx := cx.1.1
  have hb := cx.1.2.1
  refine lv_aload_n hx hb dX4_lookBehindLine_0 rfl (lv_at hl 0 rfl) ?_
  refine rx_getr cx hw (frX_5_0 ad cI cL) rfl (inT_X4) (Nat.le_of_ble_eq_true rfl) (.tail _ tw_282) dX4_lookBehindLine_1 ?_
  obtain ⟨v1, ev1, hf⟩ := rx_vvI hf
  refine rx_getiN cx hw (fiX_4_6 ad cI cL) rfl (inT_X2) (Nat.le_of_ble_eq_true rfl) tn_193 ev1 dX4_lookBehindLine_4 ?_
  refine lv_iconst (v := (-1)) hx hb dX4_lookBehindLine_7 ic_m1 ?_
  refine lv_icmp_eq hx hb dX4_lookBehindLine_8 rfl (fun hc => ?_) (fun hc => ?_)
  · have hf := rx_t hc hf
    exact (qk_X4_lookBehindLine_44 cx hret) hw hl hf
  · have hf := rx_f hc hf
    refine lv_iload_n hx hb dX4_lookBehindLine_11 rfl (lv_at hl 1 rfl) ?_
    refine lv_iconst (v := 1) hx hb dX4_lookBehindLine_12 ic_1 ?_
    refine lv_iadd hx hb dX4_lookBehindLine_13 ?_
    refine lv_aload_n hx hb dX4_lookBehindLine_14 rfl (lv_at hl 0 rfl) ?_
    refine rx_getr cx hw (frX_5_2 ad cI cL) rfl (inT_X4) (Nat.le_of_ble_eq_true rfl) (.tail _ tw_284) dX4_lookBehindLine_15 ?_
    refine rx_lvlen cx hw (lvX ad cI cL) dX4_lookBehindLine_18 ?_
    refine lv_icmp_ge hx hb dX4_lookBehindLine_19 rfl (fun hc => ?_) (fun hc => ?_)
    · have hf := rx_t hc hf
      exact (qk_X4_lookBehindLine_44 cx hret) hw hl hf
    · have hf := rx_f hc hf
      refine lv_aload_n hx hb dX4_lookBehindLine_22 rfl (lv_at hl 0 rfl) ?_
      refine rx_getr cx hw (frX_5_2 ad cI cL) rfl (inT_X4) (Nat.le_of_ble_eq_true rfl) (.tail _ tw_284) dX4_lookBehindLine_23 ?_
      refine lv_iload_n hx hb dX4_lookBehindLine_26 rfl (lv_at hl 1 rfl) ?_
      refine lv_iconst (v := 1) hx hb dX4_lookBehindLine_27 ic_1 ?_
      refine lv_iadd hx hb dX4_lookBehindLine_28 ?_
      by_cases hq8 : (w1 + 1) = 0
      · have hf := rx_t hq8 hf
        refine rx_aal0 cx hw (lvX ad cI cL) hq8 dX4_lookBehindLine_29 ?_
        refine lv_aload_n hx hb dX4_lookBehindLine_30 rfl (lv_at hl 0 rfl) ?_
        refine rx_getr cx hw (frX_5_0 ad cI cL) rfl (inT_X4) (Nat.le_of_ble_eq_true rfl) (.tail _ tw_282) dX4_lookBehindLine_31 ?_
        obtain ⟨v2, ev2, hf⟩ := rx_vvI hf
        refine rx_getiN cx hw (fiX_4_5 ad cI cL) rfl (inT_X2) (Nat.le_of_ble_eq_true rfl) tn_190 ev2 dX4_lookBehindLine_34 ?_
        obtain ⟨r3, M4, er3, hf⟩ := rx_clI hf
        refine rx_jVv cx hw (qc_X1_begin_6 l D ad cI cL b1 b2 v2) (obX_6 ad cI cL) rfl rfl kfX1_begin tw_621 ⟨Nat.le_of_ble_eq_true rfl, Nat.le_of_ble_eq_true rfl, rfl, rfl⟩ rfl hl.1 (Nat.le_of_ble_eq_true rfl) ⟨Nat.zero_le _, Nat.zero_le _⟩ dX4_lookBehindLine_37 rfl er3 (fun H locs hw => ?_)
        refine lv_iload_n hx hb dX4_lookBehindLine_40 rfl (lv_at hl 1 rfl) ?_
        refine lv_iconst (v := 1) hx hb dX4_lookBehindLine_41 ic_1 ?_
        refine lv_iadd hx hb dX4_lookBehindLine_42 ?_
        exact rx_reti hret hw hf dX4_lookBehindLine_43
      · have hf := rx_f hq8 hf
        by_cases hq81 : (w1 + 1) = 1
        · have hf := rx_t hq81 hf
          refine rx_aal1 cx hw (lvX ad cI cL) hq81 dX4_lookBehindLine_29 ?_
          refine lv_aload_n hx hb dX4_lookBehindLine_30 rfl (lv_at hl 0 rfl) ?_
          refine rx_getr cx hw (frX_5_0 ad cI cL) rfl (inT_X4) (Nat.le_of_ble_eq_true rfl) (.tail _ tw_282) dX4_lookBehindLine_31 ?_
          obtain ⟨v5, ev5, hf⟩ := rx_vvI hf
          refine rx_getiN cx hw (fiX_4_5 ad cI cL) rfl (inT_X2) (Nat.le_of_ble_eq_true rfl) tn_190 ev5 dX4_lookBehindLine_34 ?_
          obtain ⟨r6, M7, er6, hf⟩ := rx_clI hf
          refine rx_jVv cx hw (qc_X1_begin_7 l D ad cI cL b1 b2 v5) (obX_7 ad cI cL) rfl rfl kfX1_begin tw_621 ⟨Nat.le_of_ble_eq_true rfl, Nat.le_of_ble_eq_true rfl, rfl, rfl⟩ rfl hl.1 (Nat.le_of_ble_eq_true rfl) ⟨Nat.zero_le _, Nat.zero_le _⟩ dX4_lookBehindLine_37 rfl er6 (fun H locs hw => ?_)
          refine lv_iload_n hx hb dX4_lookBehindLine_40 rfl (lv_at hl 1 rfl) ?_
          refine lv_iconst (v := 1) hx hb dX4_lookBehindLine_41 ic_1 ?_
          refine lv_iadd hx hb dX4_lookBehindLine_42 ?_
          exact rx_reti hret hw hf dX4_lookBehindLine_43
        · exact rx_no (rx_f hq81 hf)
end
set_option maxRecDepth 100000 in
theorem qc_X4_lookBehindLine (l : Launch) (D : va_G) (ad : Nat → Nat) (cI cL : ClassId) (b1 b2 : Nat) (w1 : Int32) : rx_MI l yX4_lookBehindLine wX4_lookBehindLine rm_X4_lookBehindLine D vwCl (wX ad cI cL) (tX cI cL) (zX b1 b2) wN [.ref (ad 5), .int w1] (fun M => qf_X4_lookBehindLine w1 M) :=
  rx_ofI (by decide) rfl wN_ok (Nat.le_of_ble_eq_true rfl) (fun _ _ _ _ _ _ _ _ _ _ _ _ _ cx hret hw hl hf => qk_X4_lookBehindLine_0 cx hret hw hl hf)
def rm_X4_makeNextLine_5_7 : Room := { frames := 5, cells := 0, slots := 0, locals := 119 }
noncomputable def qo_X4_makeNextLine_5_7_14 (k31 : Int32 → Me → Op) (k53 : Me → Op)  (rec : Int32 → Me → Op) (w2 : Int32) (M : Me) : Op :=
  if 8 ≤ w2 then (k53 M) else (rx_cl (qf_X2_mayPut w2 M) fun r1 M2 => if r1 = 0 then (rx_vv (w2 + 1) fun v3 => rec v3 M2) else (k31 w2 M2))
noncomputable def qb_X4_makeNextLine_5_7_31  (w2 : Int32)  (M : Me) : Op :=
  rx_vv (rx_st M 7 2 w2) fun M1 => rx_cl (qf_X2_put w2 M1) fun r2 M3 => rx_zb 1 (some (1, M3))
noncomputable def qb_X4_makeNextLine_5_7_65    (M : Me) : Op :=
  rx_vv (M 4 6) fun v1 => rx_vv (M 7 1) fun v2 => rx_cl (qf_X5_nextFit v1 (v2 + 1) M) fun r3 M4 => rx_vv (rx_st M4 7 1 r3) fun M5 => rx_vv (M5 7 1) fun v6 => if v6 = (-1) then (rx_zb 0 (some (0, M5))) else (rx_vv (M5 7 1) fun v7 => rx_cl (qf_X2_lay v7 M5) fun r8 M9 => rx_cl (qf_X2_put (-1) M9) fun r10 M11 => rx_vv (rx_st M11 7 3 1) fun M12 => rx_vv (rx_st M12 7 2 (-1)) fun M13 => rx_zb 1 (some (1, M13)))
noncomputable def qb_X4_makeNextLine_5_7_53    (M : Me) : Op :=
  rx_cl (qf_X2_stepBack M) fun r1 M2 => rx_vv (rx_st M2 7 3 0) fun M3 => qb_X4_makeNextLine_5_7_65 M3
noncomputable def qf_X4_makeNextLine_5_7    (M : Me) : Op :=
  rx_vv (M 7 3) fun v1 => if v1 = 0 then (qb_X4_makeNextLine_5_7_65 M) else (rx_vv (M 7 2) fun v2 => rx_vv (v2 + 1) fun v3 => rx_lp1 (qo_X4_makeNextLine_5_7_14 (fun a2 M => qb_X4_makeNextLine_5_7_31 a2 M) (fun M => qb_X4_makeNextLine_5_7_53 M)) rx_FU v3 M)
section
variable {p : Program} {l : Launch} {e : Env} {s : State} {m : MethodId} {args : Array Value} {below : List Frame} {meth : Method} {c : Code} {Q : State → Prop} {D : va_G} {A : Nat → Prop} {o : Int32 × Me} {ad : Nat → Nat} {cI cL : ClassId} {b1 b2 : Nat}
set_option maxRecDepth 100000 in
set_option maxHeartbeats 4000000 in
theorem qk_X4_makeNextLine_5_7_14 (cx : rx_C p m c cX4_makeNextLine 3 s args wX4_makeNextLine RX4 D vwCl (tX cI cL) (zX b1 b2) wN A) (hret : rx_RZ p l e rm_X4_makeNextLine_5_7 s m args below meth c cX4_makeNextLine D vwCl (wX ad cI cL) A Q o) {k31 : Int32 → Me → Op} (h31 : ∀ {a2 : Int32} {ls : Array Slot} {H : Heap} {locs : List Loc} {M : Me}, rx_W D vwCl (wX ad cI cL) A s.heap M H locs → lv_has ls 3 [(0, .ref ((ad 5))), (1, .ref ((ad 7))), (2, .int a2)] → k31 a2 M = some o → W p l e rm_X4_makeNextLine_5_7 s m args below meth c H locs 0 0 Q (F0 m 31 ls [])) {k53 : Me → Op} (h53 : ∀ {ls : Array Slot} {H : Heap} {locs : List Loc} {M : Me}, rx_W D vwCl (wX ad cI cL) A s.heap M H locs → lv_has ls 3 [(0, .ref ((ad 5))), (1, .ref ((ad 7)))] → k53 M = some o → W p l e rm_X4_makeNextLine_5_7 s m args below meth c H locs 0 0 Q (F0 m 53 ls [])) : ∀ (n : Nat) {w2 : Int32} {ls : Array Slot} {H : Heap} {locs : List Loc} {M : Me}, rx_W D vwCl (wX ad cI cL) A s.heap M H locs → lv_has ls 3 [(0, .ref ((ad 5))), (1, .ref ((ad 7))), (2, .int w2)] → rx_lp1 (qo_X4_makeNextLine_5_7_14 k31 k53) n w2 M = some o → W p l e rm_X4_makeNextLine_5_7 s m args below meth c H locs 0 0 Q (F0 m 14 ls []) := by
  have hx := cx.1.1
  have hb := cx.1.2.1
  intro n
  induction n with
  | zero => intro w2 ls H locs M hw hl hf; exact rx_no hf
  | succ n ih =>
    intro w2 ls H locs M hw hl hf
    have hf : qo_X4_makeNextLine_5_7_14 k31 k53 (rx_lp1 (qo_X4_makeNextLine_5_7_14 k31 k53) n) w2 M = some o := hf
    refine lv_iload_n hx hb dX4_makeNextLine_14 rfl (lv_at hl 2 rfl) ?_
    refine lv_bipush (v := 8) hx hb dX4_makeNextLine_15 ib_8 ?_
    refine lv_icmp_ge hx hb dX4_makeNextLine_17 rfl (fun hc => ?_) (fun hc => ?_)
    · have hf := rx_t hc hf
      exact h53 hw (lv_sub hl [0, 1] rfl) hf
    · have hf := rx_f hc hf
      refine lv_aload_n hx hb dX4_makeNextLine_20 rfl (lv_at hl 0 rfl) ?_
      refine rx_getr cx hw (frX_5_0 ad cI cL) rfl (inT_X4) (Nat.le_of_ble_eq_true rfl) (.tail _ tw_282) dX4_makeNextLine_21 ?_
      refine lv_iload_n hx hb dX4_makeNextLine_24 rfl (lv_at hl 2 rfl) ?_
      obtain ⟨r1, M2, er1, hf⟩ := rx_clI hf
      refine rx_jVi cx hw (qc_X2_mayPut l D ad cI cL b1 b2 w2) (obX_4 ad cI cL) rfl rfl kfX2_mayPut tw_629 ⟨Nat.le_of_ble_eq_true rfl, Nat.le_of_ble_eq_true rfl, rfl, rfl⟩ rfl hl.1 (Nat.le_of_ble_eq_true rfl) ⟨Nat.zero_le _, Nat.zero_le _⟩ dX4_makeNextLine_25 rfl er1 (fun H locs hw => ?_)
      refine lv_if_eq hx hb dX4_makeNextLine_28 rfl (fun hc => ?_) (fun hc => ?_)
      · have hf := rx_t hc hf
        obtain ⟨v3, ev3, hf⟩ := rx_vvI hf
        refine lv_iinc (lv' := [(2, .int v3), (0, .ref ((ad 5))), (1, .ref ((ad 7)))]) hx hb dX4_makeNextLine_47 hl (k := 2) rfl (rx_inc ic_1 ev3) (Nat.le_of_ble_eq_true rfl) rfl (fun ls hl => ?_)
        refine lv_goto hx hb dX4_makeNextLine_50 rfl ?_
        exact ih hw (lv_sub hl [1, 2, 0] rfl) hf
      · have hf := rx_f hc hf
        exact h31 hw hl hf
set_option maxRecDepth 100000 in
set_option maxHeartbeats 4000000 in
theorem qk_X4_makeNextLine_5_7_31 (cx : rx_C p m c cX4_makeNextLine 3 s args wX4_makeNextLine RX4 D vwCl (tX cI cL) (zX b1 b2) wN A) (hret : rx_RZ p l e rm_X4_makeNextLine_5_7 s m args below meth c cX4_makeNextLine D vwCl (wX ad cI cL) A Q o) {w2 : Int32} {ls : Array Slot} {H : Heap} {locs : List Loc} {M : Me} (hw : rx_W D vwCl (wX ad cI cL) A s.heap M H locs) (hl : lv_has ls 3 [(0, .ref ((ad 5))), (1, .ref ((ad 7))), (2, .int w2)]) (hf : qb_X4_makeNextLine_5_7_31 w2 M = some o) : W p l e rm_X4_makeNextLine_5_7 s m args below meth c H locs 0 0 Q (F0 m 31 ls []) := by
  have hx := cx.1.1
  have hb := cx.1.2.1
  refine lv_aload_n hx hb dX4_makeNextLine_31 rfl (lv_at hl 1 rfl) ?_
  refine lv_iload_n hx hb dX4_makeNextLine_32 rfl (lv_at hl 2 rfl) ?_
  obtain ⟨M1, eM1, hf⟩ := rx_vvI hf
  refine rx_putiN cx hw (fiX_7_2 ad cI cL) rfl (inT_X1) tyX1 tyX1_ok nmX1 (Nat.le_of_ble_eq_true rfl) tn_251 rfl rfl rfl eM1 dX4_makeNextLine_33 (fun H locs hw => ?_)
  refine lv_aload_n hx hb dX4_makeNextLine_36 rfl (lv_at hl 0 rfl) ?_
  refine rx_getr cx hw (frX_5_0 ad cI cL) rfl (inT_X4) (Nat.le_of_ble_eq_true rfl) (.tail _ tw_282) dX4_makeNextLine_37 ?_
  refine lv_iload_n hx hb dX4_makeNextLine_40 rfl (lv_at hl 2 rfl) ?_
  obtain ⟨r2, M3, er2, hf⟩ := rx_clI hf
  refine rx_jVi cx hw (qc_X2_put l D ad cI cL b1 b2 w2) (obX_4 ad cI cL) rfl rfl kfX2_put tw_630 ⟨Nat.le_of_ble_eq_true rfl, Nat.le_of_ble_eq_true rfl, rfl, rfl⟩ rfl hl.1 (Nat.le_of_ble_eq_true rfl) ⟨Nat.zero_le _, Nat.zero_le _⟩ dX4_makeNextLine_41 rfl er2 (fun H locs hw => ?_)
  refine lv_pop hx hb dX4_makeNextLine_44 rfl ?_
  refine lv_iconst (v := 1) hx hb dX4_makeNextLine_45 ic_1 ?_
  exact rx_retz hret hw hf dX4_makeNextLine_46
set_option maxRecDepth 100000 in
set_option maxHeartbeats 4000000 in
theorem qk_X4_makeNextLine_5_7_65 (cx : rx_C p m c cX4_makeNextLine 3 s args wX4_makeNextLine RX4 D vwCl (tX cI cL) (zX b1 b2) wN A) (hret : rx_RZ p l e rm_X4_makeNextLine_5_7 s m args below meth c cX4_makeNextLine D vwCl (wX ad cI cL) A Q o) {ls : Array Slot} {H : Heap} {locs : List Loc} {M : Me} (hw : rx_W D vwCl (wX ad cI cL) A s.heap M H locs) (hl : lv_has ls 3 [(0, .ref ((ad 5))), (1, .ref ((ad 7)))]) (hf : qb_X4_makeNextLine_5_7_65 M = some o) : W p l e rm_X4_makeNextLine_5_7 s m args below meth c H locs 0 0 Q (F0 m 65 ls []) := by
  have hx := cx.1.1
  have hb := cx.1.2.1
  refine lv_aload_n hx hb dX4_makeNextLine_65 rfl (lv_at hl 1 rfl) ?_
  refine lv_aload_n hx hb dX4_makeNextLine_66 rfl (lv_at hl 0 rfl) ?_
  refine rx_getr cx hw (frX_5_1 ad cI cL) rfl (inT_X4) (Nat.le_of_ble_eq_true rfl) (.tail _ tw_283) dX4_makeNextLine_67 ?_
  refine lv_aload_n hx hb dX4_makeNextLine_70 rfl (lv_at hl 0 rfl) ?_
  refine rx_getr cx hw (frX_5_0 ad cI cL) rfl (inT_X4) (Nat.le_of_ble_eq_true rfl) (.tail _ tw_282) dX4_makeNextLine_71 ?_
  obtain ⟨v1, ev1, hf⟩ := rx_vvI hf
  refine rx_getiN cx hw (fiX_4_6 ad cI cL) rfl (inT_X2) (Nat.le_of_ble_eq_true rfl) tn_193 ev1 dX4_makeNextLine_74 ?_
  refine lv_aload_n hx hb dX4_makeNextLine_77 rfl (lv_at hl 1 rfl) ?_
  obtain ⟨v2, ev2, hf⟩ := rx_vvI hf
  refine rx_getiN cx hw (fiX_7_1 ad cI cL) rfl (inT_X1) (Nat.le_of_ble_eq_true rfl) tn_249 ev2 dX4_makeNextLine_78 ?_
  refine lv_iconst (v := 1) hx hb dX4_makeNextLine_81 ic_1 ?_
  refine lv_iadd hx hb dX4_makeNextLine_82 ?_
  obtain ⟨r3, M4, er3, hf⟩ := rx_clI hf
  refine rx_jVi cx hw (qc_X5_nextFit l D ad cI cL b1 b2 v1 (v2 + 1)) (obX_2 ad cI cL) rfl rfl kfX5_nextFit tw_632 ⟨Nat.le_of_ble_eq_true rfl, Nat.le_of_ble_eq_true rfl, rfl, rfl⟩ rfl hl.1 (Nat.le_of_ble_eq_true rfl) ⟨Nat.zero_le _, Nat.zero_le _⟩ dX4_makeNextLine_83 rfl er3 (fun H locs hw => ?_)
  obtain ⟨M5, eM5, hf⟩ := rx_vvI hf
  refine rx_putiN cx hw (fiX_7_1 ad cI cL) rfl (inT_X1) tyX1 tyX1_ok nmX1 (Nat.le_of_ble_eq_true rfl) tn_249 rfl rfl rfl eM5 dX4_makeNextLine_86 (fun H locs hw => ?_)
  refine lv_aload_n hx hb dX4_makeNextLine_89 rfl (lv_at hl 1 rfl) ?_
  obtain ⟨v6, ev6, hf⟩ := rx_vvI hf
  refine rx_getiN cx hw (fiX_7_1 ad cI cL) rfl (inT_X1) (Nat.le_of_ble_eq_true rfl) tn_249 ev6 dX4_makeNextLine_90 ?_
  refine lv_iconst (v := (-1)) hx hb dX4_makeNextLine_93 ic_m1 ?_
  refine lv_icmp_ne hx hb dX4_makeNextLine_94 rfl (fun hc => ?_) (fun hc => ?_)
  · have hf := rx_f hc hf
    refine lv_aload_n hx hb dX4_makeNextLine_99 rfl (lv_at hl 0 rfl) ?_
    refine rx_getr cx hw (frX_5_0 ad cI cL) rfl (inT_X4) (Nat.le_of_ble_eq_true rfl) (.tail _ tw_282) dX4_makeNextLine_100 ?_
    refine lv_aload_n hx hb dX4_makeNextLine_103 rfl (lv_at hl 1 rfl) ?_
    obtain ⟨v7, ev7, hf⟩ := rx_vvI hf
    refine rx_getiN cx hw (fiX_7_1 ad cI cL) rfl (inT_X1) (Nat.le_of_ble_eq_true rfl) tn_249 ev7 dX4_makeNextLine_104 ?_
    obtain ⟨r8, M9, er8, hf⟩ := rx_clI hf
    refine rx_jVv cx hw (qc_X2_lay l D ad cI cL b1 b2 v7) (obX_4 ad cI cL) rfl rfl kfX2_lay tw_633 ⟨Nat.le_of_ble_eq_true rfl, Nat.le_of_ble_eq_true rfl, rfl, rfl⟩ rfl hl.1 (Nat.le_of_ble_eq_true rfl) ⟨Nat.zero_le _, Nat.zero_le _⟩ dX4_makeNextLine_107 rfl er8 (fun H locs hw => ?_)
    refine lv_aload_n hx hb dX4_makeNextLine_110 rfl (lv_at hl 0 rfl) ?_
    refine rx_getr cx hw (frX_5_0 ad cI cL) rfl (inT_X4) (Nat.le_of_ble_eq_true rfl) (.tail _ tw_282) dX4_makeNextLine_111 ?_
    refine lv_iconst (v := (-1)) hx hb dX4_makeNextLine_114 ic_m1 ?_
    obtain ⟨r10, M11, er10, hf⟩ := rx_clI hf
    refine rx_jVi cx hw (qc_X2_put l D ad cI cL b1 b2 (-1)) (obX_4 ad cI cL) rfl rfl kfX2_put tw_630 ⟨Nat.le_of_ble_eq_true rfl, Nat.le_of_ble_eq_true rfl, rfl, rfl⟩ rfl hl.1 (Nat.le_of_ble_eq_true rfl) ⟨Nat.zero_le _, Nat.zero_le _⟩ dX4_makeNextLine_115 rfl er10 (fun H locs hw => ?_)
    refine lv_pop hx hb dX4_makeNextLine_118 rfl ?_
    refine lv_aload_n hx hb dX4_makeNextLine_119 rfl (lv_at hl 1 rfl) ?_
    refine lv_iconst (v := 1) hx hb dX4_makeNextLine_120 ic_1 ?_
    obtain ⟨M12, eM12, hf⟩ := rx_vvI hf
    refine rx_putiN cx hw (fiX_7_3 ad cI cL) rfl (inT_X1) tyX1 tyX1_ok nmX1 (Nat.le_of_ble_eq_true rfl) tn_253 rfl rfl rfl eM12 dX4_makeNextLine_121 (fun H locs hw => ?_)
    refine lv_aload_n hx hb dX4_makeNextLine_124 rfl (lv_at hl 1 rfl) ?_
    refine lv_iconst (v := (-1)) hx hb dX4_makeNextLine_125 ic_m1 ?_
    obtain ⟨M13, eM13, hf⟩ := rx_vvI hf
    refine rx_putiN cx hw (fiX_7_2 ad cI cL) rfl (inT_X1) tyX1 tyX1_ok nmX1 (Nat.le_of_ble_eq_true rfl) tn_251 rfl rfl rfl eM13 dX4_makeNextLine_126 (fun H locs hw => ?_)
    refine lv_iconst (v := 1) hx hb dX4_makeNextLine_129 ic_1 ?_
    exact rx_retz hret hw hf dX4_makeNextLine_130
  · have hf := rx_t hc hf
    refine lv_iconst (v := 0) hx hb dX4_makeNextLine_97 ic_0 ?_
    exact rx_retz hret hw hf dX4_makeNextLine_98
set_option maxRecDepth 100000 in
set_option maxHeartbeats 4000000 in
theorem qk_X4_makeNextLine_5_7_53 (cx : rx_C p m c cX4_makeNextLine 3 s args wX4_makeNextLine RX4 D vwCl (tX cI cL) (zX b1 b2) wN A) (hret : rx_RZ p l e rm_X4_makeNextLine_5_7 s m args below meth c cX4_makeNextLine D vwCl (wX ad cI cL) A Q o) {ls : Array Slot} {H : Heap} {locs : List Loc} {M : Me} (hw : rx_W D vwCl (wX ad cI cL) A s.heap M H locs) (hl : lv_has ls 3 [(0, .ref ((ad 5))), (1, .ref ((ad 7)))]) (hf : qb_X4_makeNextLine_5_7_53 M = some o) : W p l e rm_X4_makeNextLine_5_7 s m args below meth c H locs 0 0 Q (F0 m 53 ls []) := by
  have hx := cx.1.1
  have hb := cx.1.2.1
  refine lv_aload_n hx hb dX4_makeNextLine_53 rfl (lv_at hl 0 rfl) ?_
  refine rx_getr cx hw (frX_5_0 ad cI cL) rfl (inT_X4) (Nat.le_of_ble_eq_true rfl) (.tail _ tw_282) dX4_makeNextLine_54 ?_
  obtain ⟨r1, M2, er1, hf⟩ := rx_clI hf
  refine rx_jVv cx hw (qc_X2_stepBack l D ad cI cL b1 b2) (obX_4 ad cI cL) rfl rfl kfX2_stepBack tw_631 ⟨Nat.le_of_ble_eq_true rfl, Nat.le_of_ble_eq_true rfl, rfl, rfl⟩ rfl hl.1 (Nat.le_of_ble_eq_true rfl) ⟨Nat.zero_le _, Nat.zero_le _⟩ dX4_makeNextLine_57 rfl er1 (fun H locs hw => ?_)
  refine lv_aload_n hx hb dX4_makeNextLine_60 rfl (lv_at hl 1 rfl) ?_
  refine lv_iconst (v := 0) hx hb dX4_makeNextLine_61 ic_0 ?_
  obtain ⟨M3, eM3, hf⟩ := rx_vvI hf
  refine rx_putiN cx hw (fiX_7_3 ad cI cL) rfl (inT_X1) tyX1 tyX1_ok nmX1 (Nat.le_of_ble_eq_true rfl) tn_253 rfl rfl rfl eM3 dX4_makeNextLine_62 (fun H locs hw => ?_)
  exact (qk_X4_makeNextLine_5_7_65 cx hret) hw hl hf
set_option maxRecDepth 100000 in
set_option maxHeartbeats 4000000 in
theorem qk_X4_makeNextLine_5_7_0 (cx : rx_C p m c cX4_makeNextLine 3 s args wX4_makeNextLine RX4 D vwCl (tX cI cL) (zX b1 b2) wN A) (hret : rx_RZ p l e rm_X4_makeNextLine_5_7 s m args below meth c cX4_makeNextLine D vwCl (wX ad cI cL) A Q o) {ls : Array Slot} {H : Heap} {locs : List Loc} {M : Me} (hw : rx_W D vwCl (wX ad cI cL) A s.heap M H locs) (hl : lv_has ls 3 [(0, .ref ((ad 5))), (1, .ref ((ad 7)))]) (hf : qf_X4_makeNextLine_5_7 M = some o) : W p l e rm_X4_makeNextLine_5_7 s m args below meth c H locs 0 0 Q (F0 m 0 ls []) := by
  have hx := cx.1.1
  have hb := cx.1.2.1
  refine lv_aload_n hx hb dX4_makeNextLine_0 rfl (lv_at hl 1 rfl) ?_
  obtain ⟨v1, ev1, hf⟩ := rx_vvI hf
  refine rx_getiN cx hw (fiX_7_3 ad cI cL) rfl (inT_X1) (Nat.le_of_ble_eq_true rfl) tn_253 ev1 dX4_makeNextLine_1 ?_
  refine lv_if_eq hx hb dX4_makeNextLine_4 rfl (fun hc => ?_) (fun hc => ?_)
  · have hf := rx_t hc hf
    exact (qk_X4_makeNextLine_5_7_65 cx hret) hw hl hf
  · have hf := rx_f hc hf
    refine lv_aload_n hx hb dX4_makeNextLine_7 rfl (lv_at hl 1 rfl) ?_
    obtain ⟨v2, ev2, hf⟩ := rx_vvI hf
    refine rx_getiN cx hw (fiX_7_2 ad cI cL) rfl (inT_X1) (Nat.le_of_ble_eq_true rfl) tn_251 ev2 dX4_makeNextLine_8 ?_
    refine lv_iconst (v := 1) hx hb dX4_makeNextLine_11 ic_1 ?_
    refine lv_iadd hx hb dX4_makeNextLine_12 ?_
    obtain ⟨v3, ev3, hf⟩ := rx_vvI hf
    refine rx_top ev3 ?_
    refine lv_istore_n (lv' := [(2, .int v3), (0, .ref ((ad 5))), (1, .ref ((ad 7)))]) hx hb dX4_makeNextLine_13 rfl hl (Nat.le_of_ble_eq_true rfl) rfl (fun ls hl => ?_)
    exact (qk_X4_makeNextLine_5_7_14 cx hret (qk_X4_makeNextLine_5_7_31 cx hret) (qk_X4_makeNextLine_5_7_53 cx hret) rx_FU) hw (lv_sub hl [1, 2, 0] rfl) hf
end
set_option maxRecDepth 100000 in
theorem qc_X4_makeNextLine_5_7 (l : Launch) (D : va_G) (ad : Nat → Nat) (cI cL : ClassId) (b1 b2 : Nat) : rx_MI l yX4_makeNextLine wX4_makeNextLine rm_X4_makeNextLine_5_7 D vwCl (wX ad cI cL) (tX cI cL) (zX b1 b2) wN [.ref (ad 5), .ref (ad 7)] (fun M => qf_X4_makeNextLine_5_7 M) :=
  rx_ofZ (by decide) rfl wN_ok (Nat.le_of_ble_eq_true rfl) (fun _ _ _ _ _ _ _ _ _ _ _ _ _ cx hret hw hl hf => qk_X4_makeNextLine_5_7_0 cx hret hw hl hf)
def rm_X4_seek : Room := { frames := 6, cells := 0, slots := 0, locals := 141 }
noncomputable def qb_X4_seek_87 (k32 : Int32 → Int32 → Int32 → Me → Op) (w1 : Int32) (w2 : Int32) (w3 : Int32) (w4 : Int32) (w5 : Int32)  (M : Me) : Op :=
  rx_vv (w5 + 1) fun v1 => k32 w3 w4 v1 M
noncomputable def qo_X4_seek_32 (k93 : Int32 → Me → Op) (w1 : Int32) (w2 : Int32) (rec : Int32 → Int32 → Int32 → Me → Op) (w3 : Int32) (w4 : Int32) (w5 : Int32) (M : Me) : Op :=
  if 3004 ≤ w5 then (k93 w3 M) else (if w4 < 0 then (k93 w3 M) else (if w1 < w3 then (k93 w3 M) else (if w4 = 0 then (rx_cl (qf_X4_makeNextLine_5_6 M) fun r1 M2 => if r1 = 0 then (rx_vv (w4 + (-1)) fun v3 => rx_cl (qf_X4_endLine v3 M2) fun r4 M5 => qb_X4_seek_87 rec w1 w2 w3 v3 w5 M5) else (rx_vv (w3 + 1) fun v6 => rx_cl (qf_X4_lookBehindLine w4 M2) fun r7 M8 => qb_X4_seek_87 rec w1 w2 v6 r7 w5 M8)) else if w4 = 1 then (rx_cl (qf_X4_makeNextLine_5_7 M) fun r9 M10 => if r9 = 0 then (rx_vv (w4 + (-1)) fun v11 => rx_cl (qf_X4_endLine v11 M10) fun r12 M13 => qb_X4_seek_87 rec w1 w2 w3 v11 w5 M13) else (rx_vv (w3 + 1) fun v14 => rx_cl (qf_X4_lookBehindLine w4 M10) fun r15 M16 => qb_X4_seek_87 rec w1 w2 v14 r15 w5 M16)) else none)))
noncomputable def qo_X4_seek_102 (k121 : Me → Op) (w1 : Int32) (w2 : Int32) (w3 : Int32) (rec : Int32 → Me → Op) (w5 : Int32) (M : Me) : Op :=
  if w5 ≤ w2 then (k121 M) else (rx_cl (qf_X2_stepBack M) fun r1 M2 => rx_vv (w5 + (-1)) fun v3 => rec v3 M2)
noncomputable def qb_X4_seek_121  (w1 : Int32) (w3 : Int32)  (M : Me) : Op :=
  if w3 ≤ w1 then (rx_vv (M 6 6) fun v1 => rx_vv (rx_st M 5 3 v1) fun M2 => rx_vv (M2 6 7) fun v3 => rx_vv (rx_st M2 5 4 v3) fun M4 => rx_vv (M4 6 5) fun v5 => rx_vv (rx_st M4 5 5 v5) fun M6 => rx_zb 1 (some (1, M6))) else (rx_zb 0 (some (0, M)))
noncomputable def qb_X4_seek_93  (w1 : Int32) (w2 : Int32) (w3 : Int32)  (M : Me) : Op :=
  rx_cl (qf_X2_steps M) fun r1 M2 => rx_lp1 (qo_X4_seek_102 (fun M => qb_X4_seek_121 w1 w3 M) w1 w2 w3) rx_FU r1 M2
noncomputable def qf_X4_seek  (w1 : Int32)  (M : Me) : Op :=
  rx_cl (qf_X2_steps M) fun r1 M2 => rx_vv (M2 4 5) fun v3 => rx_cl (qf_X1_begin_6 v3 M2) fun r4 M5 => rx_lp3 (qo_X4_seek_32 (fun a3 M => qb_X4_seek_93 w1 r1 a3 M) w1 r1) rx_FU 0 0 0 M5
section
variable {p : Program} {l : Launch} {e : Env} {s : State} {m : MethodId} {args : Array Value} {below : List Frame} {meth : Method} {c : Code} {Q : State → Prop} {D : va_G} {A : Nat → Prop} {o : Int32 × Me} {ad : Nat → Nat} {cI cL : ClassId} {b1 b2 : Nat}
set_option maxRecDepth 100000 in
set_option maxHeartbeats 4000000 in
theorem qk_X4_seek_87 (cx : rx_C p m c cX4_seek 6 s args wX4_seek RX4 D vwCl (tX cI cL) (zX b1 b2) wN A) (hret : rx_RZ p l e rm_X4_seek s m args below meth c cX4_seek D vwCl (wX ad cI cL) A Q o) {w1 : Int32} {w2 : Int32} {w3 : Int32} {w4 : Int32} {w5 : Int32} {k32 : Int32 → Int32 → Int32 → Me → Op} (h32 : ∀ {a3 : Int32} {a4 : Int32} {a5 : Int32} {ls : Array Slot} {H : Heap} {locs : List Loc} {M : Me}, rx_W D vwCl (wX ad cI cL) A s.heap M H locs → lv_has ls 6 [(0, .ref ((ad 5))), (1, .int w1), (2, .int w2), (3, .int a3), (4, .int a4), (5, .int a5)] → k32 a3 a4 a5 M = some o → W p l e rm_X4_seek s m args below meth c H locs 0 0 Q (F0 m 32 ls [])) {ls : Array Slot} {H : Heap} {locs : List Loc} {M : Me} (hw : rx_W D vwCl (wX ad cI cL) A s.heap M H locs) (hl : lv_has ls 6 [(0, .ref ((ad 5))), (1, .int w1), (2, .int w2), (3, .int w3), (4, .int w4), (5, .int w5)]) (hf : qb_X4_seek_87 k32 w1 w2 w3 w4 w5 M = some o) : W p l e rm_X4_seek s m args below meth c H locs 0 0 Q (F0 m 87 ls []) := by
  have hx := cx.1.1
  have hb := cx.1.2.1
  obtain ⟨v1, ev1, hf⟩ := rx_vvI hf
  refine lv_iinc (lv' := [(5, .int v1), (0, .ref ((ad 5))), (1, .int w1), (2, .int w2), (3, .int w3), (4, .int w4)]) hx hb dX4_seek_87 hl (k := 5) rfl (rx_inc ic_1 ev1) (Nat.le_of_ble_eq_true rfl) rfl (fun ls hl => ?_)
  refine lv_goto hx hb dX4_seek_90 rfl ?_
  exact h32 hw (lv_sub hl [1, 2, 3, 4, 5, 0] rfl) hf
set_option maxRecDepth 100000 in
set_option maxHeartbeats 4000000 in
theorem qk_X4_seek_32 (cx : rx_C p m c cX4_seek 6 s args wX4_seek RX4 D vwCl (tX cI cL) (zX b1 b2) wN A) (hret : rx_RZ p l e rm_X4_seek s m args below meth c cX4_seek D vwCl (wX ad cI cL) A Q o) {w1 : Int32} {w2 : Int32} {k93 : Int32 → Me → Op} (h93 : ∀ {a3 : Int32} {ls : Array Slot} {H : Heap} {locs : List Loc} {M : Me}, rx_W D vwCl (wX ad cI cL) A s.heap M H locs → lv_has ls 6 [(0, .ref ((ad 5))), (1, .int w1), (2, .int w2), (3, .int a3)] → k93 a3 M = some o → W p l e rm_X4_seek s m args below meth c H locs 0 0 Q (F0 m 93 ls [])) : ∀ (n : Nat) {w3 : Int32} {w4 : Int32} {w5 : Int32} {ls : Array Slot} {H : Heap} {locs : List Loc} {M : Me}, rx_W D vwCl (wX ad cI cL) A s.heap M H locs → lv_has ls 6 [(0, .ref ((ad 5))), (1, .int w1), (2, .int w2), (3, .int w3), (4, .int w4), (5, .int w5)] → rx_lp3 (qo_X4_seek_32 k93 w1 w2) n w3 w4 w5 M = some o → W p l e rm_X4_seek s m args below meth c H locs 0 0 Q (F0 m 32 ls []) := by
  have hx := cx.1.1
  have hb := cx.1.2.1
  intro n
  induction n with
  | zero => intro w3 w4 w5 ls H locs M hw hl hf; exact rx_no hf
  | succ n ih =>
    intro w3 w4 w5 ls H locs M hw hl hf
    have hf : qo_X4_seek_32 k93 w1 w2 (rx_lp3 (qo_X4_seek_32 k93 w1 w2) n) w3 w4 w5 M = some o := hf
    refine lv_iload hx hb dX4_seek_32 (lv_at hl 5 rfl) ?_
    refine lv_sipush (v := 3004) hx hb dX4_seek_34 is_3004 ?_
    refine lv_icmp_ge hx hb dX4_seek_37 rfl (fun hc => ?_) (fun hc => ?_)
    · have hf := rx_t hc hf
      exact h93 hw (lv_sub hl [0, 1, 2, 3] rfl) hf
    · have hf := rx_f hc hf
      refine lv_iload hx hb dX4_seek_40 (lv_at hl 4 rfl) ?_
      refine lv_if_lt hx hb dX4_seek_42 rfl (fun hc => ?_) (fun hc => ?_)
      · have hf := rx_t hc hf
        exact h93 hw (lv_sub hl [0, 1, 2, 3] rfl) hf
      · have hf := rx_f hc hf
        refine lv_iload_n hx hb dX4_seek_45 rfl (lv_at hl 3 rfl) ?_
        refine lv_iload_n hx hb dX4_seek_46 rfl (lv_at hl 1 rfl) ?_
        refine lv_icmp_gt hx hb dX4_seek_47 rfl (fun hc => ?_) (fun hc => ?_)
        · have hf := rx_t hc hf
          exact h93 hw (lv_sub hl [0, 1, 2, 3] rfl) hf
        · have hf := rx_f hc hf
          refine lv_aload_n hx hb dX4_seek_50 rfl (lv_at hl 0 rfl) ?_
          refine lv_aload_n hx hb dX4_seek_51 rfl (lv_at hl 0 rfl) ?_
          refine rx_getr cx hw (frX_5_2 ad cI cL) rfl (inT_X4) (Nat.le_of_ble_eq_true rfl) (.tail _ tw_284) dX4_seek_52 ?_
          refine lv_iload hx hb dX4_seek_55 (lv_at hl 4 rfl) ?_
          by_cases hq17 : w4 = 0
          · have hf := rx_t hq17 hf
            refine rx_aal0 cx hw (lvX ad cI cL) hq17 dX4_seek_57 ?_
            obtain ⟨r1, M2, er1, hf⟩ := rx_clI hf
            refine rx_jVi cx hw (qc_X4_makeNextLine_5_6 l D ad cI cL b1 b2) (obX_5 ad cI cL) rfl rfl kfX4_makeNextLine tw_625 ⟨Nat.le_of_ble_eq_true rfl, Nat.le_of_ble_eq_true rfl, rfl, rfl⟩ rfl hl.1 (Nat.le_of_ble_eq_true rfl) ⟨Nat.zero_le _, Nat.zero_le _⟩ dX4_seek_58 rfl er1 (fun H locs hw => ?_)
            refine lv_if_eq hx hb dX4_seek_61 rfl (fun hc => ?_) (fun hc => ?_)
            · have hf := rx_t hc hf
              obtain ⟨v3, ev3, hf⟩ := rx_vvI hf
              refine lv_iinc (lv' := [(4, .int v3), (0, .ref ((ad 5))), (1, .int w1), (2, .int w2), (3, .int w3), (5, .int w5)]) hx hb dX4_seek_78 hl (k := 4) rfl (rx_inc ic_m1 ev3) (Nat.le_of_ble_eq_true rfl) rfl (fun ls hl => ?_)
              refine lv_aload_n hx hb dX4_seek_81 rfl (lv_at hl 1 rfl) ?_
              refine lv_iload hx hb dX4_seek_82 (lv_at hl 0 rfl) ?_
              obtain ⟨r4, M5, er4, hf⟩ := rx_clI hf
              refine rx_jVv cx hw (qc_X4_endLine l D ad cI cL b1 b2 v3) (obX_5 ad cI cL) rfl rfl kfX4_endLine tw_647 ⟨Nat.le_of_ble_eq_true rfl, Nat.le_of_ble_eq_true rfl, rfl, rfl⟩ rfl hl.1 (Nat.le_of_ble_eq_true rfl) ⟨Nat.zero_le _, Nat.zero_le _⟩ dX4_seek_84 rfl er4 (fun H locs hw => ?_)
              exact (qk_X4_seek_87 cx hret ih) hw (lv_sub hl [1, 2, 3, 4, 0, 5] rfl) hf
            · have hf := rx_f hc hf
              obtain ⟨v6, ev6, hf⟩ := rx_vvI hf
              refine lv_iinc (lv' := [(3, .int v6), (0, .ref ((ad 5))), (1, .int w1), (2, .int w2), (4, .int w4), (5, .int w5)]) hx hb dX4_seek_64 hl (k := 3) rfl (rx_inc ic_1 ev6) (Nat.le_of_ble_eq_true rfl) rfl (fun ls hl => ?_)
              refine lv_aload_n hx hb dX4_seek_67 rfl (lv_at hl 1 rfl) ?_
              refine lv_iload hx hb dX4_seek_68 (lv_at hl 4 rfl) ?_
              obtain ⟨r7, M8, er7, hf⟩ := rx_clI hf
              refine rx_jVi cx hw (qc_X4_lookBehindLine l D ad cI cL b1 b2 w4) (obX_5 ad cI cL) rfl rfl kfX4_lookBehindLine tw_634 ⟨Nat.le_of_ble_eq_true rfl, Nat.le_of_ble_eq_true rfl, rfl, rfl⟩ rfl hl.1 (Nat.le_of_ble_eq_true rfl) ⟨Nat.zero_le _, Nat.zero_le _⟩ dX4_seek_70 rfl er7 (fun H locs hw => ?_)
              refine lv_istore (lv' := [(4, .int r7), (3, .int v6), (0, .ref ((ad 5))), (1, .int w1), (2, .int w2), (5, .int w5)]) hx hb dX4_seek_73 hl (Nat.le_of_ble_eq_true rfl) rfl (fun ls hl => ?_)
              refine lv_goto hx hb dX4_seek_75 rfl ?_
              exact (qk_X4_seek_87 cx hret ih) hw (lv_sub hl [2, 3, 4, 1, 0, 5] rfl) hf
          · have hf := rx_f hq17 hf
            by_cases hq171 : w4 = 1
            · have hf := rx_t hq171 hf
              refine rx_aal1 cx hw (lvX ad cI cL) hq171 dX4_seek_57 ?_
              obtain ⟨r9, M10, er9, hf⟩ := rx_clI hf
              refine rx_jVi cx hw (qc_X4_makeNextLine_5_7 l D ad cI cL b1 b2) (obX_5 ad cI cL) rfl rfl kfX4_makeNextLine tw_625 ⟨Nat.le_of_ble_eq_true rfl, Nat.le_of_ble_eq_true rfl, rfl, rfl⟩ rfl hl.1 (Nat.le_of_ble_eq_true rfl) ⟨Nat.zero_le _, Nat.zero_le _⟩ dX4_seek_58 rfl er9 (fun H locs hw => ?_)
              refine lv_if_eq hx hb dX4_seek_61 rfl (fun hc => ?_) (fun hc => ?_)
              · have hf := rx_t hc hf
                obtain ⟨v11, ev11, hf⟩ := rx_vvI hf
                refine lv_iinc (lv' := [(4, .int v11), (0, .ref ((ad 5))), (1, .int w1), (2, .int w2), (3, .int w3), (5, .int w5)]) hx hb dX4_seek_78 hl (k := 4) rfl (rx_inc ic_m1 ev11) (Nat.le_of_ble_eq_true rfl) rfl (fun ls hl => ?_)
                refine lv_aload_n hx hb dX4_seek_81 rfl (lv_at hl 1 rfl) ?_
                refine lv_iload hx hb dX4_seek_82 (lv_at hl 0 rfl) ?_
                obtain ⟨r12, M13, er12, hf⟩ := rx_clI hf
                refine rx_jVv cx hw (qc_X4_endLine l D ad cI cL b1 b2 v11) (obX_5 ad cI cL) rfl rfl kfX4_endLine tw_647 ⟨Nat.le_of_ble_eq_true rfl, Nat.le_of_ble_eq_true rfl, rfl, rfl⟩ rfl hl.1 (Nat.le_of_ble_eq_true rfl) ⟨Nat.zero_le _, Nat.zero_le _⟩ dX4_seek_84 rfl er12 (fun H locs hw => ?_)
                exact (qk_X4_seek_87 cx hret ih) hw (lv_sub hl [1, 2, 3, 4, 0, 5] rfl) hf
              · have hf := rx_f hc hf
                obtain ⟨v14, ev14, hf⟩ := rx_vvI hf
                refine lv_iinc (lv' := [(3, .int v14), (0, .ref ((ad 5))), (1, .int w1), (2, .int w2), (4, .int w4), (5, .int w5)]) hx hb dX4_seek_64 hl (k := 3) rfl (rx_inc ic_1 ev14) (Nat.le_of_ble_eq_true rfl) rfl (fun ls hl => ?_)
                refine lv_aload_n hx hb dX4_seek_67 rfl (lv_at hl 1 rfl) ?_
                refine lv_iload hx hb dX4_seek_68 (lv_at hl 4 rfl) ?_
                obtain ⟨r15, M16, er15, hf⟩ := rx_clI hf
                refine rx_jVi cx hw (qc_X4_lookBehindLine l D ad cI cL b1 b2 w4) (obX_5 ad cI cL) rfl rfl kfX4_lookBehindLine tw_634 ⟨Nat.le_of_ble_eq_true rfl, Nat.le_of_ble_eq_true rfl, rfl, rfl⟩ rfl hl.1 (Nat.le_of_ble_eq_true rfl) ⟨Nat.zero_le _, Nat.zero_le _⟩ dX4_seek_70 rfl er15 (fun H locs hw => ?_)
                refine lv_istore (lv' := [(4, .int r15), (3, .int v14), (0, .ref ((ad 5))), (1, .int w1), (2, .int w2), (5, .int w5)]) hx hb dX4_seek_73 hl (Nat.le_of_ble_eq_true rfl) rfl (fun ls hl => ?_)
                refine lv_goto hx hb dX4_seek_75 rfl ?_
                exact (qk_X4_seek_87 cx hret ih) hw (lv_sub hl [2, 3, 4, 1, 0, 5] rfl) hf
            · exact rx_no (rx_f hq171 hf)
set_option maxRecDepth 100000 in
set_option maxHeartbeats 4000000 in
theorem qk_X4_seek_102 (cx : rx_C p m c cX4_seek 6 s args wX4_seek RX4 D vwCl (tX cI cL) (zX b1 b2) wN A) (hret : rx_RZ p l e rm_X4_seek s m args below meth c cX4_seek D vwCl (wX ad cI cL) A Q o) {w1 : Int32} {w2 : Int32} {w3 : Int32} {k121 : Me → Op} (h121 : ∀ {ls : Array Slot} {H : Heap} {locs : List Loc} {M : Me}, rx_W D vwCl (wX ad cI cL) A s.heap M H locs → lv_has ls 6 [(0, .ref ((ad 5))), (1, .int w1), (3, .int w3)] → k121 M = some o → W p l e rm_X4_seek s m args below meth c H locs 0 0 Q (F0 m 121 ls [])) : ∀ (n : Nat) {w5 : Int32} {ls : Array Slot} {H : Heap} {locs : List Loc} {M : Me}, rx_W D vwCl (wX ad cI cL) A s.heap M H locs → lv_has ls 6 [(0, .ref ((ad 5))), (1, .int w1), (2, .int w2), (3, .int w3), (5, .int w5)] → rx_lp1 (qo_X4_seek_102 k121 w1 w2 w3) n w5 M = some o → W p l e rm_X4_seek s m args below meth c H locs 0 0 Q (F0 m 102 ls []) := by
  have hx := cx.1.1
  have hb := cx.1.2.1
  intro n
  induction n with
  | zero => intro w5 ls H locs M hw hl hf; exact rx_no hf
  | succ n ih =>
    intro w5 ls H locs M hw hl hf
    have hf : qo_X4_seek_102 k121 w1 w2 w3 (rx_lp1 (qo_X4_seek_102 k121 w1 w2 w3) n) w5 M = some o := hf
    refine lv_iload hx hb dX4_seek_102 (lv_at hl 4 rfl) ?_
    refine lv_iload_n hx hb dX4_seek_104 rfl (lv_at hl 2 rfl) ?_
    refine lv_icmp_le hx hb dX4_seek_105 rfl (fun hc => ?_) (fun hc => ?_)
    · have hf := rx_t hc hf
      exact h121 hw (lv_sub hl [0, 1, 3] rfl) hf
    · have hf := rx_f hc hf
      refine lv_aload_n hx hb dX4_seek_108 rfl (lv_at hl 0 rfl) ?_
      refine rx_getr cx hw (frX_5_0 ad cI cL) rfl (inT_X4) (Nat.le_of_ble_eq_true rfl) (.tail _ tw_282) dX4_seek_109 ?_
      obtain ⟨r1, M2, er1, hf⟩ := rx_clI hf
      refine rx_jVv cx hw (qc_X2_stepBack l D ad cI cL b1 b2) (obX_4 ad cI cL) rfl rfl kfX2_stepBack tw_631 ⟨Nat.le_of_ble_eq_true rfl, Nat.le_of_ble_eq_true rfl, rfl, rfl⟩ rfl hl.1 (Nat.le_of_ble_eq_true rfl) ⟨Nat.zero_le _, Nat.zero_le _⟩ dX4_seek_112 rfl er1 (fun H locs hw => ?_)
      obtain ⟨v3, ev3, hf⟩ := rx_vvI hf
      refine lv_iinc (lv' := [(5, .int v3), (0, .ref ((ad 5))), (1, .int w1), (2, .int w2), (3, .int w3)]) hx hb dX4_seek_115 hl (k := 4) rfl (rx_inc ic_m1 ev3) (Nat.le_of_ble_eq_true rfl) rfl (fun ls hl => ?_)
      refine lv_goto hx hb dX4_seek_118 rfl ?_
      exact ih hw (lv_sub hl [1, 2, 3, 4, 0] rfl) hf
set_option maxRecDepth 100000 in
set_option maxHeartbeats 4000000 in
theorem qk_X4_seek_121 (cx : rx_C p m c cX4_seek 6 s args wX4_seek RX4 D vwCl (tX cI cL) (zX b1 b2) wN A) (hret : rx_RZ p l e rm_X4_seek s m args below meth c cX4_seek D vwCl (wX ad cI cL) A Q o) {w1 : Int32} {w3 : Int32} {ls : Array Slot} {H : Heap} {locs : List Loc} {M : Me} (hw : rx_W D vwCl (wX ad cI cL) A s.heap M H locs) (hl : lv_has ls 6 [(0, .ref ((ad 5))), (1, .int w1), (3, .int w3)]) (hf : qb_X4_seek_121 w1 w3 M = some o) : W p l e rm_X4_seek s m args below meth c H locs 0 0 Q (F0 m 121 ls []) := by
  have hx := cx.1.1
  have hb := cx.1.2.1
  refine lv_iload_n hx hb dX4_seek_121 rfl (lv_at hl 2 rfl) ?_
  refine lv_iload_n hx hb dX4_seek_122 rfl (lv_at hl 1 rfl) ?_
  refine lv_icmp_le hx hb dX4_seek_123 rfl (fun hc => ?_) (fun hc => ?_)
  · have hf := rx_t hc hf
    refine lv_aload_n hx hb dX4_seek_128 rfl (lv_at hl 0 rfl) ?_
    refine lv_aload_n hx hb dX4_seek_129 rfl (lv_at hl 0 rfl) ?_
    refine rx_getr cx hw (frX_5_2 ad cI cL) rfl (inT_X4) (Nat.le_of_ble_eq_true rfl) (.tail _ tw_284) dX4_seek_130 ?_
    refine lv_iconst (v := 0) hx hb dX4_seek_133 ic_0 ?_
    refine rx_aal0 cx hw (lvX ad cI cL) rfl dX4_seek_134 ?_
    obtain ⟨v1, ev1, hf⟩ := rx_vvI hf
    refine rx_getiN cx hw (fiX_6_6 ad cI cL) rfl (inT_X1) (Nat.le_of_ble_eq_true rfl) tn_258 ev1 dX4_seek_135 ?_
    obtain ⟨M2, eM2, hf⟩ := rx_vvI hf
    refine rx_puti cx hw (fiX_5_3 ad cI cL) rfl (inT_X4) tyX4 tyX4_ok nmX4 (Nat.le_of_ble_eq_true rfl) (.tail _ tw_285) rfl rfl rfl eM2 dX4_seek_138 (fun H locs hw => ?_)
    refine lv_aload_n hx hb dX4_seek_141 rfl (lv_at hl 0 rfl) ?_
    refine lv_aload_n hx hb dX4_seek_142 rfl (lv_at hl 0 rfl) ?_
    refine rx_getr cx hw (frX_5_2 ad cI cL) rfl (inT_X4) (Nat.le_of_ble_eq_true rfl) (.tail _ tw_284) dX4_seek_143 ?_
    refine lv_iconst (v := 0) hx hb dX4_seek_146 ic_0 ?_
    refine rx_aal0 cx hw (lvX ad cI cL) rfl dX4_seek_147 ?_
    obtain ⟨v3, ev3, hf⟩ := rx_vvI hf
    refine rx_getiN cx hw (fiX_6_7 ad cI cL) rfl (inT_X1) (Nat.le_of_ble_eq_true rfl) tn_260 ev3 dX4_seek_148 ?_
    obtain ⟨M4, eM4, hf⟩ := rx_vvI hf
    refine rx_puti cx hw (fiX_5_4 ad cI cL) rfl (inT_X4) tyX4 tyX4_ok nmX4 (Nat.le_of_ble_eq_true rfl) (.tail _ tw_287) rfl rfl rfl eM4 dX4_seek_151 (fun H locs hw => ?_)
    refine lv_aload_n hx hb dX4_seek_154 rfl (lv_at hl 0 rfl) ?_
    refine lv_aload_n hx hb dX4_seek_155 rfl (lv_at hl 0 rfl) ?_
    refine rx_getr cx hw (frX_5_2 ad cI cL) rfl (inT_X4) (Nat.le_of_ble_eq_true rfl) (.tail _ tw_284) dX4_seek_156 ?_
    refine lv_iconst (v := 0) hx hb dX4_seek_159 ic_0 ?_
    refine rx_aal0 cx hw (lvX ad cI cL) rfl dX4_seek_160 ?_
    obtain ⟨v5, ev5, hf⟩ := rx_vvI hf
    refine rx_getiN cx hw (fiX_6_5 ad cI cL) rfl (inT_X1) (Nat.le_of_ble_eq_true rfl) tn_256 ev5 dX4_seek_161 ?_
    obtain ⟨M6, eM6, hf⟩ := rx_vvI hf
    refine rx_puti cx hw (fiX_5_5 ad cI cL) rfl (inT_X4) tyX4 tyX4_ok nmX4 (Nat.le_of_ble_eq_true rfl) (.tail _ tw_289) rfl rfl rfl eM6 dX4_seek_164 (fun H locs hw => ?_)
    refine lv_iconst (v := 1) hx hb dX4_seek_167 ic_1 ?_
    exact rx_retz hret hw hf dX4_seek_168
  · have hf := rx_f hc hf
    refine lv_iconst (v := 0) hx hb dX4_seek_126 ic_0 ?_
    exact rx_retz hret hw hf dX4_seek_127
set_option maxRecDepth 100000 in
set_option maxHeartbeats 4000000 in
theorem qk_X4_seek_93 (cx : rx_C p m c cX4_seek 6 s args wX4_seek RX4 D vwCl (tX cI cL) (zX b1 b2) wN A) (hret : rx_RZ p l e rm_X4_seek s m args below meth c cX4_seek D vwCl (wX ad cI cL) A Q o) {w1 : Int32} {w2 : Int32} {w3 : Int32} {ls : Array Slot} {H : Heap} {locs : List Loc} {M : Me} (hw : rx_W D vwCl (wX ad cI cL) A s.heap M H locs) (hl : lv_has ls 6 [(0, .ref ((ad 5))), (1, .int w1), (2, .int w2), (3, .int w3)]) (hf : qb_X4_seek_93 w1 w2 w3 M = some o) : W p l e rm_X4_seek s m args below meth c H locs 0 0 Q (F0 m 93 ls []) := by
  have hx := cx.1.1
  have hb := cx.1.2.1
  refine lv_aload_n hx hb dX4_seek_93 rfl (lv_at hl 0 rfl) ?_
  refine rx_getr cx hw (frX_5_0 ad cI cL) rfl (inT_X4) (Nat.le_of_ble_eq_true rfl) (.tail _ tw_282) dX4_seek_94 ?_
  obtain ⟨r1, M2, er1, hf⟩ := rx_clI hf
  refine rx_jVi cx hw (qc_X2_steps l D ad cI cL b1 b2) (obX_4 ad cI cL) rfl rfl kfX2_steps tw_620 ⟨Nat.le_of_ble_eq_true rfl, Nat.le_of_ble_eq_true rfl, rfl, rfl⟩ rfl hl.1 (Nat.le_of_ble_eq_true rfl) ⟨Nat.zero_le _, Nat.zero_le _⟩ dX4_seek_97 rfl er1 (fun H locs hw => ?_)
  refine lv_istore (lv' := [(5, .int r1), (0, .ref ((ad 5))), (1, .int w1), (2, .int w2), (3, .int w3)]) hx hb dX4_seek_100 hl (Nat.le_of_ble_eq_true rfl) rfl (fun ls hl => ?_)
  exact (qk_X4_seek_102 cx hret (qk_X4_seek_121 cx hret) rx_FU) hw (lv_sub hl [1, 2, 3, 4, 0] rfl) hf
set_option maxRecDepth 100000 in
set_option maxHeartbeats 4000000 in
theorem qk_X4_seek_0 (cx : rx_C p m c cX4_seek 6 s args wX4_seek RX4 D vwCl (tX cI cL) (zX b1 b2) wN A) (hret : rx_RZ p l e rm_X4_seek s m args below meth c cX4_seek D vwCl (wX ad cI cL) A Q o) {w1 : Int32} {ls : Array Slot} {H : Heap} {locs : List Loc} {M : Me} (hw : rx_W D vwCl (wX ad cI cL) A s.heap M H locs) (hl : lv_has ls 6 [(0, .ref ((ad 5))), (1, .int w1)]) (hf : qf_X4_seek w1 M = some o) : W p l e rm_X4_seek s m args below meth c H locs 0 0 Q (F0 m 0 ls []) := by
  have hx := cx.1.1
  have hb := cx.1.2.1
  refine lv_aload_n hx hb dX4_seek_0 rfl (lv_at hl 0 rfl) ?_
  refine rx_getr cx hw (frX_5_0 ad cI cL) rfl (inT_X4) (Nat.le_of_ble_eq_true rfl) (.tail _ tw_282) dX4_seek_1 ?_
  obtain ⟨r1, M2, er1, hf⟩ := rx_clI hf
  refine rx_jVi cx hw (qc_X2_steps l D ad cI cL b1 b2) (obX_4 ad cI cL) rfl rfl kfX2_steps tw_620 ⟨Nat.le_of_ble_eq_true rfl, Nat.le_of_ble_eq_true rfl, rfl, rfl⟩ rfl hl.1 (Nat.le_of_ble_eq_true rfl) ⟨Nat.zero_le _, Nat.zero_le _⟩ dX4_seek_4 rfl er1 (fun H locs hw => ?_)
  refine lv_istore_n (lv' := [(2, .int r1), (0, .ref ((ad 5))), (1, .int w1)]) hx hb dX4_seek_7 rfl hl (Nat.le_of_ble_eq_true rfl) rfl (fun ls hl => ?_)
  refine lv_iconst (v := 0) hx hb dX4_seek_8 ic_0 ?_
  refine lv_istore_n (lv' := [(3, .int 0), (2, .int r1), (0, .ref ((ad 5))), (1, .int w1)]) hx hb dX4_seek_9 rfl hl (Nat.le_of_ble_eq_true rfl) rfl (fun ls hl => ?_)
  refine lv_iconst (v := 0) hx hb dX4_seek_10 ic_0 ?_
  refine lv_istore (lv' := [(4, .int 0), (3, .int 0), (2, .int r1), (0, .ref ((ad 5))), (1, .int w1)]) hx hb dX4_seek_11 hl (Nat.le_of_ble_eq_true rfl) rfl (fun ls hl => ?_)
  refine lv_aload_n hx hb dX4_seek_13 rfl (lv_at hl 3 rfl) ?_
  refine rx_getr cx hw (frX_5_2 ad cI cL) rfl (inT_X4) (Nat.le_of_ble_eq_true rfl) (.tail _ tw_284) dX4_seek_14 ?_
  refine lv_iconst (v := 0) hx hb dX4_seek_17 ic_0 ?_
  refine rx_aal0 cx hw (lvX ad cI cL) rfl dX4_seek_18 ?_
  refine lv_aload_n hx hb dX4_seek_19 rfl (lv_at hl 3 rfl) ?_
  refine rx_getr cx hw (frX_5_0 ad cI cL) rfl (inT_X4) (Nat.le_of_ble_eq_true rfl) (.tail _ tw_282) dX4_seek_20 ?_
  obtain ⟨v3, ev3, hf⟩ := rx_vvI hf
  refine rx_getiN cx hw (fiX_4_5 ad cI cL) rfl (inT_X2) (Nat.le_of_ble_eq_true rfl) tn_190 ev3 dX4_seek_23 ?_
  obtain ⟨r4, M5, er4, hf⟩ := rx_clI hf
  refine rx_jVv cx hw (qc_X1_begin_6 l D ad cI cL b1 b2 v3) (obX_6 ad cI cL) rfl rfl kfX1_begin tw_621 ⟨Nat.le_of_ble_eq_true rfl, Nat.le_of_ble_eq_true rfl, rfl, rfl⟩ rfl hl.1 (Nat.le_of_ble_eq_true rfl) ⟨Nat.zero_le _, Nat.zero_le _⟩ dX4_seek_26 rfl er4 (fun H locs hw => ?_)
  refine lv_iconst (v := 0) hx hb dX4_seek_29 ic_0 ?_
  refine lv_istore (lv' := [(5, .int 0), (4, .int 0), (3, .int 0), (2, .int r1), (0, .ref ((ad 5))), (1, .int w1)]) hx hb dX4_seek_30 hl (Nat.le_of_ble_eq_true rfl) rfl (fun ls hl => ?_)
  exact (qk_X4_seek_32 cx hret (qk_X4_seek_93 cx hret) rx_FU) hw (lv_sub hl [4, 5, 3, 2, 1, 0] rfl) hf
end
set_option maxRecDepth 100000 in
theorem qc_X4_seek (l : Launch) (D : va_G) (ad : Nat → Nat) (cI cL : ClassId) (b1 b2 : Nat) (w1 : Int32) : rx_MI l yX4_seek wX4_seek rm_X4_seek D vwCl (wX ad cI cL) (tX cI cL) (zX b1 b2) wN [.ref (ad 5), .int w1] (fun M => qf_X4_seek w1 M) :=
  rx_ofZ (by decide) rfl wN_ok (Nat.le_of_ble_eq_true rfl) (fun _ _ _ _ _ _ _ _ _ _ _ _ _ cx hret hw hl hf => qk_X4_seek_0 cx hret hw hl hf)

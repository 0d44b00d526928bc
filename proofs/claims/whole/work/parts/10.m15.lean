def rm_X7_player : Room := { frames := 8, cells := 0, slots := 0, locals := 185 }
noncomputable def qf_X7_player  (w1 : Int32) (w2 : Int32)  (M : Me) : Op :=
  rx_vv (M 0 7) fun v1 => if v1 = 0 then (some ((-1), M)) else (if w1 < 0 then (some ((-1), M)) else (rx_vv (M 0 8) fun v2 => if v2 ≤ w1 then (some ((-1), M)) else (if w2 < 0 then (some ((-1), M)) else (if w2 ≤ 2 then (if 2 ≤ w2 then (rx_cl (qf_X7_count M) fun r3 M4 => rx_ld M4 17 3 w1 fun v5 => some (v5, M4)) else (if w2 = 0 then (rx_ld M 12 3 w1 fun v7 => some (v7, M)) else (rx_ld M 13 3 w1 fun v6 => some (v6, M)))) else (some ((-1), M))))))
section
variable {p : Program} {l : Launch} {e : Env} {s : State} {m : MethodId} {args : Array Value} {below : List Frame} {meth : Method} {c : Code} {Q : State → Prop} {D : va_G} {A : Nat → Prop} {o : Int32 × Me} {ad : Nat → Nat} {cI cL : ClassId} {b1 b2 : Nat}
set_option maxRecDepth 100000 in
set_option maxHeartbeats 4000000 in
theorem qk_X7_player_0 (cx : rx_C p m c cX7_player 3 s args wX7_player RX7 D vwCl (tY cI cL) [] wN A) (hret : rx_RI p l e rm_X7_player s m args below meth c cX7_player D vwCl (wY ad cI cL) A Q o) {w1 : Int32} {w2 : Int32} {ls : Array Slot} {H : Heap} {locs : List Loc} {M : Me} (hw : rx_W D vwCl (wY ad cI cL) A s.heap M H locs) (hl : lv_has ls 3 [(0, .ref ((ad 0))), (1, .int w1), (2, .int w2)]) (hf : qf_X7_player w1 w2 M = some o) : W p l e rm_X7_player s m args below meth c H locs 0 0 Q (F0 m 0 ls []) := by
  have hx := cx.1.1
  have hb := cx.1.2.1
  refine lv_aload_n hx hb dX7_player_0 rfl (lv_at hl 0 rfl) ?_
  obtain ⟨v1, ev1, hf⟩ := rx_vvI hf
  refine rx_geti cx hw (fiY_0_7 ad cI cL) rfl (inT_X7) (Nat.le_of_ble_eq_true rfl) (.tail _ tw_668) ev1 dX7_player_1 ?_
  refine lv_if_eq hx hb dX7_player_4 rfl (fun hc => ?_) (fun hc => ?_)
  · have hf := rx_t hc hf
    refine lv_iconst (v := (-1)) hx hb dX7_player_28 ic_m1 ?_
    exact rx_reti hret hw hf dX7_player_29
  · have hf := rx_f hc hf
    refine lv_iload_n hx hb dX7_player_7 rfl (lv_at hl 1 rfl) ?_
    refine lv_if_lt hx hb dX7_player_8 rfl (fun hc => ?_) (fun hc => ?_)
    · have hf := rx_t hc hf
      refine lv_iconst (v := (-1)) hx hb dX7_player_28 ic_m1 ?_
      exact rx_reti hret hw hf dX7_player_29
    · have hf := rx_f hc hf
      refine lv_iload_n hx hb dX7_player_11 rfl (lv_at hl 1 rfl) ?_
      refine lv_aload_n hx hb dX7_player_12 rfl (lv_at hl 0 rfl) ?_
      obtain ⟨v2, ev2, hf⟩ := rx_vvI hf
      refine rx_geti cx hw (fiY_0_8 ad cI cL) rfl (inT_X7) (Nat.le_of_ble_eq_true rfl) (.tail _ tw_669) ev2 dX7_player_13 ?_
      refine lv_icmp_ge hx hb dX7_player_16 rfl (fun hc => ?_) (fun hc => ?_)
      · have hf := rx_t hc hf
        refine lv_iconst (v := (-1)) hx hb dX7_player_28 ic_m1 ?_
        exact rx_reti hret hw hf dX7_player_29
      · have hf := rx_f hc hf
        refine lv_iload_n hx hb dX7_player_19 rfl (lv_at hl 2 rfl) ?_
        refine lv_if_lt hx hb dX7_player_20 rfl (fun hc => ?_) (fun hc => ?_)
        · have hf := rx_t hc hf
          refine lv_iconst (v := (-1)) hx hb dX7_player_28 ic_m1 ?_
          exact rx_reti hret hw hf dX7_player_29
        · have hf := rx_f hc hf
          refine lv_iload_n hx hb dX7_player_23 rfl (lv_at hl 2 rfl) ?_
          refine lv_iconst (v := 2) hx hb dX7_player_24 ic_2 ?_
          refine lv_icmp_le hx hb dX7_player_25 rfl (fun hc => ?_) (fun hc => ?_)
          · have hf := rx_t hc hf
            refine lv_iload_n hx hb dX7_player_30 rfl (lv_at hl 2 rfl) ?_
            refine lv_iconst (v := 2) hx hb dX7_player_31 ic_2 ?_
            refine lv_icmp_ge hx hb dX7_player_32 rfl (fun hc => ?_) (fun hc => ?_)
            · have hf := rx_t hc hf
              refine lv_aload_n hx hb dX7_player_55 rfl (lv_at hl 0 rfl) ?_
              obtain ⟨r3, M4, er3, hf⟩ := rx_clI hf
              refine rx_jVv cx hw (qc_X7_count l D ad cI cL) (obY_0 ad cI cL) rfl rfl kfX7_count tw_937 ⟨Nat.le_of_ble_eq_true rfl, Nat.le_of_ble_eq_true rfl, rfl, rfl⟩ rfl hl.1 (Nat.le_of_ble_eq_true rfl) ⟨Nat.zero_le _, Nat.zero_le _⟩ dX7_player_56 rfl er3 (fun H locs hw => ?_)
              refine lv_aload_n hx hb dX7_player_59 rfl (lv_at hl 0 rfl) ?_
              refine rx_getr cx hw (frY_0_28 ad cI cL) rfl (inT_X7) (Nat.le_of_ble_eq_true rfl) (.tail _ tw_689) dX7_player_60 ?_
              refine lv_iload_n hx hb dX7_player_63 rfl (lv_at hl 1 rfl) ?_
              obtain ⟨hv5, v5, ev5, hf⟩ := rx_ldI hf
              refine rx_iald cx hw (arY_17 ad cI cL) ⟨hv5, ev5⟩ dX7_player_64 ?_
              exact rx_reti hret hw hf dX7_player_65
            · have hf := rx_f hc hf
              refine lv_iload_n hx hb dX7_player_35 rfl (lv_at hl 2 rfl) ?_
              refine lv_if_ne hx hb dX7_player_36 rfl (fun hc => ?_) (fun hc => ?_)
              · have hf := rx_f hc hf
                refine lv_aload_n hx hb dX7_player_48 rfl (lv_at hl 0 rfl) ?_
                refine rx_getr cx hw (frY_0_17 ad cI cL) rfl (inT_X7) (Nat.le_of_ble_eq_true rfl) (.tail _ tw_678) dX7_player_49 ?_
                refine lv_iload_n hx hb dX7_player_52 rfl (lv_at hl 1 rfl) ?_
                obtain ⟨hv6, v6, ev6, hf⟩ := rx_ldI hf
                refine rx_iald cx hw (arY_13 ad cI cL) ⟨hv6, ev6⟩ dX7_player_53 ?_
                exact rx_reti hret hw hf dX7_player_54
              · have hf := rx_t hc hf
                refine lv_aload_n hx hb dX7_player_39 rfl (lv_at hl 0 rfl) ?_
                refine rx_getr cx hw (frY_0_16 ad cI cL) rfl (inT_X7) (Nat.le_of_ble_eq_true rfl) (.tail _ tw_677) dX7_player_40 ?_
                refine lv_iload_n hx hb dX7_player_43 rfl (lv_at hl 1 rfl) ?_
                obtain ⟨hv7, v7, ev7, hf⟩ := rx_ldI hf
                refine rx_iald cx hw (arY_12 ad cI cL) ⟨hv7, ev7⟩ dX7_player_44 ?_
                refine lv_goto hx hb dX7_player_45 rfl ?_
                exact rx_reti hret hw hf dX7_player_54
          · have hf := rx_f hc hf
            refine lv_iconst (v := (-1)) hx hb dX7_player_28 ic_m1 ?_
            exact rx_reti hret hw hf dX7_player_29
end
set_option maxRecDepth 100000 in
theorem qc_X7_player (l : Launch) (D : va_G) (ad : Nat → Nat) (cI cL : ClassId) (w1 : Int32) (w2 : Int32) : rx_MI l yX7_player wX7_player rm_X7_player D vwCl (wY ad cI cL) (tY cI cL) [] wN [.ref (ad 0), .int w1, .int w2] (fun M => qf_X7_player w1 w2 M) :=
  rx_ofI (by decide) rfl wN_ok (Nat.le_of_ble_eq_true rfl) (fun _ _ _ _ _ _ _ _ _ _ _ _ _ cx hret hw hl hf => qk_X7_player_0 cx hret hw hl hf)
def rm_X7_restore : Room := { frames := 0, cells := 0, slots := 0, locals := 0 }
noncomputable def qo_X7_restore_8 (k35 : Me → Op) (w2 : Int32) (rec : Int32 → Me → Op) (w3 : Int32) (M : Me) : Op :=
  if 192 ≤ w3 then (k35 M) else (rx_ld M 16 420 (w2 + w3) fun v1 => rx_sv M 11 192 w3 v1 fun M2 => rx_vv (w3 + 1) fun v3 => rec v3 M2)
noncomputable def qo_X7_restore_37 (k84 : Me → Op) (w2 : Int32) (rec : Int32 → Me → Op) (w3 : Int32) (M : Me) : Op :=
  if 3 ≤ w3 then (k84 M) else (rx_ld M 16 420 ((w2 + 192) + w3) fun v1 => rx_sv M 12 3 w3 v1 fun M2 => rx_ld M2 16 420 ((w2 + 195) + w3) fun v3 => rx_sv M2 13 3 w3 v3 fun M4 => rx_vv (w3 + 1) fun v5 => rec v5 M4)
noncomputable def qo_X7_restore_163  (w2 : Int32) (rec : Me → Op)  (M : Me) : Op :=
  rx_vv (M 0 9) fun v1 => rx_ld M 16 420 (w2 + 203) fun v2 => if v1 ≤ v2 then (some (0, M)) else (rx_vv (M 0 9) fun v3 => rx_vv (rx_st M 0 9 (v3 - 1)) fun M4 => rx_vv (M4 0 9) fun v5 => rx_ld M4 7 24 v5 fun v6 => rx_vv (M4 0 9) fun v7 => rx_ld M4 6 24 v7 fun v8 => rx_sv M4 10 361 (((19 * v6) + v8) + 180) (-1) fun M9 => rx_vv (rx_st M9 0 26 0) fun M10 => rec M10)
noncomputable def qb_X7_restore_160  (w2 : Int32) (s0 : Int32) (M : Me) : Op :=
  rx_zb s0 <| rx_vv (rx_st M 0 22 s0) fun M1 => rx_lp0 (qo_X7_restore_163 w2) rx_FU M1
noncomputable def qb_X7_restore_84  (w2 : Int32)  (M : Me) : Op :=
  rx_ld M 16 420 (w2 + 198) fun v1 => rx_vv (rx_st M 0 18 v1) fun M2 => rx_ld M2 16 420 (w2 + 199) fun v3 => rx_vv (rx_st M2 0 19 v3) fun M4 => rx_ld M4 16 420 (w2 + 200) fun v5 => rx_vv (rx_st M4 0 20 v5) fun M6 => rx_ld M6 16 420 (w2 + 201) fun v7 => rx_vv (rx_st M6 0 21 v7) fun M8 => rx_ld M8 16 420 (w2 + 202) fun v9 => if v9 = 1 then (qb_X7_restore_160 w2 1 M8) else (qb_X7_restore_160 w2 0 M8)
noncomputable def qb_X7_restore_35  (w2 : Int32)  (M : Me) : Op :=
  rx_lp1 (qo_X7_restore_37 (fun M => qb_X7_restore_84 w2 M) w2) rx_FU 0 M
noncomputable def qf_X7_restore  (w1 : Int32)  (M : Me) : Op :=
  rx_vv (210 * w1) fun v1 => rx_lp1 (qo_X7_restore_8 (fun M => qb_X7_restore_35 v1 M) v1) rx_FU 0 M
section
variable {p : Program} {l : Launch} {e : Env} {s : State} {m : MethodId} {args : Array Value} {below : List Frame} {meth : Method} {c : Code} {Q : State → Prop} {D : va_G} {A : Nat → Prop} {o : Int32 × Me} {ad : Nat → Nat} {cI cL : ClassId} {b1 b2 : Nat}
set_option maxRecDepth 100000 in
set_option maxHeartbeats 4000000 in
theorem qk_X7_restore_8 (cx : rx_C p m c cX7_restore 4 s args wX7_restore RX7 D vwCl (tY cI cL) [] wN A) (hret : rx_RV p l e rm_X7_restore s m args below meth c cX7_restore D vwCl (wY ad cI cL) A Q o) {w2 : Int32} {k35 : Me → Op} (h35 : ∀ {ls : Array Slot} {H : Heap} {locs : List Loc} {M : Me}, rx_W D vwCl (wY ad cI cL) A s.heap M H locs → lv_has ls 4 [(0, .ref ((ad 0))), (2, .int w2)] → k35 M = some o → W p l e rm_X7_restore s m args below meth c H locs 0 0 Q (F0 m 35 ls [])) : ∀ (n : Nat) {w3 : Int32} {ls : Array Slot} {H : Heap} {locs : List Loc} {M : Me}, rx_W D vwCl (wY ad cI cL) A s.heap M H locs → lv_has ls 4 [(0, .ref ((ad 0))), (2, .int w2), (3, .int w3)] → rx_lp1 (qo_X7_restore_8 k35 w2) n w3 M = some o → W p l e rm_X7_restore s m args below meth c H locs 0 0 Q (F0 m 8 ls []) := by
  have hx := cx.1.1
  have hb := cx.1.2.1
  intro n
  induction n with
  | zero => intro w3 ls H locs M hw hl hf; exact rx_no hf
  | succ n ih =>
    intro w3 ls H locs M hw hl hf
    have hf : qo_X7_restore_8 k35 w2 (rx_lp1 (qo_X7_restore_8 k35 w2) n) w3 M = some o := hf
    refine lv_iload_n hx hb dX7_restore_8 rfl (lv_at hl 2 rfl) ?_
    refine lv_sipush (v := 192) hx hb dX7_restore_9 is_192 ?_
    refine lv_icmp_ge hx hb dX7_restore_12 rfl (fun hc => ?_) (fun hc => ?_)
    · have hf := rx_t hc hf
      exact h35 hw (lv_sub hl [0, 1] rfl) hf
    · have hf := rx_f hc hf
      refine lv_aload_n hx hb dX7_restore_15 rfl (lv_at hl 0 rfl) ?_
      refine rx_getr cx hw (frY_0_15 ad cI cL) rfl (inT_X7) (Nat.le_of_ble_eq_true rfl) (.tail _ tw_676) dX7_restore_16 ?_
      refine lv_iload_n hx hb dX7_restore_19 rfl (lv_at hl 2 rfl) ?_
      refine lv_aload_n hx hb dX7_restore_20 rfl (lv_at hl 0 rfl) ?_
      refine rx_getr cx hw (frY_0_27 ad cI cL) rfl (inT_X7) (Nat.le_of_ble_eq_true rfl) (.tail _ tw_688) dX7_restore_21 ?_
      refine lv_iload_n hx hb dX7_restore_24 rfl (lv_at hl 1 rfl) ?_
      refine lv_iload_n hx hb dX7_restore_25 rfl (lv_at hl 2 rfl) ?_
      refine lv_iadd hx hb dX7_restore_26 ?_
      obtain ⟨hv1, v1, ev1, hf⟩ := rx_ldI hf
      refine rx_iald cx hw (arY_16 ad cI cL) ⟨hv1, ev1⟩ dX7_restore_27 ?_
      obtain ⟨hM2, M2, eM2, hf⟩ := rx_svI hf
      refine rx_iast cx hw (arY_11 ad cI cL) ⟨hM2, eM2⟩ dX7_restore_28 (fun H locs hw => ?_)
      obtain ⟨v3, ev3, hf⟩ := rx_vvI hf
      refine lv_iinc (lv' := [(3, .int v3), (0, .ref ((ad 0))), (2, .int w2)]) hx hb dX7_restore_29 hl (k := 2) rfl (rx_inc ic_1 ev3) (Nat.le_of_ble_eq_true rfl) rfl (fun ls hl => ?_)
      refine lv_goto hx hb dX7_restore_32 rfl ?_
      exact ih hw (lv_sub hl [1, 2, 0] rfl) hf
set_option maxRecDepth 100000 in
set_option maxHeartbeats 4000000 in
theorem qk_X7_restore_37 (cx : rx_C p m c cX7_restore 4 s args wX7_restore RX7 D vwCl (tY cI cL) [] wN A) (hret : rx_RV p l e rm_X7_restore s m args below meth c cX7_restore D vwCl (wY ad cI cL) A Q o) {w2 : Int32} {k84 : Me → Op} (h84 : ∀ {ls : Array Slot} {H : Heap} {locs : List Loc} {M : Me}, rx_W D vwCl (wY ad cI cL) A s.heap M H locs → lv_has ls 4 [(0, .ref ((ad 0))), (2, .int w2)] → k84 M = some o → W p l e rm_X7_restore s m args below meth c H locs 0 0 Q (F0 m 84 ls [])) : ∀ (n : Nat) {w3 : Int32} {ls : Array Slot} {H : Heap} {locs : List Loc} {M : Me}, rx_W D vwCl (wY ad cI cL) A s.heap M H locs → lv_has ls 4 [(0, .ref ((ad 0))), (2, .int w2), (3, .int w3)] → rx_lp1 (qo_X7_restore_37 k84 w2) n w3 M = some o → W p l e rm_X7_restore s m args below meth c H locs 0 0 Q (F0 m 37 ls []) := by
  have hx := cx.1.1
  have hb := cx.1.2.1
  intro n
  induction n with
  | zero => intro w3 ls H locs M hw hl hf; exact rx_no hf
  | succ n ih =>
    intro w3 ls H locs M hw hl hf
    have hf : qo_X7_restore_37 k84 w2 (rx_lp1 (qo_X7_restore_37 k84 w2) n) w3 M = some o := hf
    refine lv_iload_n hx hb dX7_restore_37 rfl (lv_at hl 2 rfl) ?_
    refine lv_iconst (v := 3) hx hb dX7_restore_38 ic_3 ?_
    refine lv_icmp_ge hx hb dX7_restore_39 rfl (fun hc => ?_) (fun hc => ?_)
    · have hf := rx_t hc hf
      exact h84 hw (lv_sub hl [0, 1] rfl) hf
    · have hf := rx_f hc hf
      refine lv_aload_n hx hb dX7_restore_42 rfl (lv_at hl 0 rfl) ?_
      refine rx_getr cx hw (frY_0_16 ad cI cL) rfl (inT_X7) (Nat.le_of_ble_eq_true rfl) (.tail _ tw_677) dX7_restore_43 ?_
      refine lv_iload_n hx hb dX7_restore_46 rfl (lv_at hl 2 rfl) ?_
      refine lv_aload_n hx hb dX7_restore_47 rfl (lv_at hl 0 rfl) ?_
      refine rx_getr cx hw (frY_0_27 ad cI cL) rfl (inT_X7) (Nat.le_of_ble_eq_true rfl) (.tail _ tw_688) dX7_restore_48 ?_
      refine lv_iload_n hx hb dX7_restore_51 rfl (lv_at hl 1 rfl) ?_
      refine lv_sipush (v := 192) hx hb dX7_restore_52 is_192 ?_
      refine lv_iadd hx hb dX7_restore_55 ?_
      refine lv_iload_n hx hb dX7_restore_56 rfl (lv_at hl 2 rfl) ?_
      refine lv_iadd hx hb dX7_restore_57 ?_
      obtain ⟨hv1, v1, ev1, hf⟩ := rx_ldI hf
      refine rx_iald cx hw (arY_16 ad cI cL) ⟨hv1, ev1⟩ dX7_restore_58 ?_
      obtain ⟨hM2, M2, eM2, hf⟩ := rx_svI hf
      refine rx_iast cx hw (arY_12 ad cI cL) ⟨hM2, eM2⟩ dX7_restore_59 (fun H locs hw => ?_)
      refine lv_aload_n hx hb dX7_restore_60 rfl (lv_at hl 0 rfl) ?_
      refine rx_getr cx hw (frY_0_17 ad cI cL) rfl (inT_X7) (Nat.le_of_ble_eq_true rfl) (.tail _ tw_678) dX7_restore_61 ?_
      refine lv_iload_n hx hb dX7_restore_64 rfl (lv_at hl 2 rfl) ?_
      refine lv_aload_n hx hb dX7_restore_65 rfl (lv_at hl 0 rfl) ?_
      refine rx_getr cx hw (frY_0_27 ad cI cL) rfl (inT_X7) (Nat.le_of_ble_eq_true rfl) (.tail _ tw_688) dX7_restore_66 ?_
      refine lv_iload_n hx hb dX7_restore_69 rfl (lv_at hl 1 rfl) ?_
      refine lv_sipush (v := 195) hx hb dX7_restore_70 is_195 ?_
      refine lv_iadd hx hb dX7_restore_73 ?_
      refine lv_iload_n hx hb dX7_restore_74 rfl (lv_at hl 2 rfl) ?_
      refine lv_iadd hx hb dX7_restore_75 ?_
      obtain ⟨hv3, v3, ev3, hf⟩ := rx_ldI hf
      refine rx_iald cx hw (arY_16 ad cI cL) ⟨hv3, ev3⟩ dX7_restore_76 ?_
      obtain ⟨hM4, M4, eM4, hf⟩ := rx_svI hf
      refine rx_iast cx hw (arY_13 ad cI cL) ⟨hM4, eM4⟩ dX7_restore_77 (fun H locs hw => ?_)
      obtain ⟨v5, ev5, hf⟩ := rx_vvI hf
      refine lv_iinc (lv' := [(3, .int v5), (0, .ref ((ad 0))), (2, .int w2)]) hx hb dX7_restore_78 hl (k := 2) rfl (rx_inc ic_1 ev5) (Nat.le_of_ble_eq_true rfl) rfl (fun ls hl => ?_)
      refine lv_goto hx hb dX7_restore_81 rfl ?_
      exact ih hw (lv_sub hl [1, 2, 0] rfl) hf
set_option maxRecDepth 100000 in
set_option maxHeartbeats 4000000 in
theorem qk_X7_restore_163 (cx : rx_C p m c cX7_restore 4 s args wX7_restore RX7 D vwCl (tY cI cL) [] wN A) (hret : rx_RV p l e rm_X7_restore s m args below meth c cX7_restore D vwCl (wY ad cI cL) A Q o) {w2 : Int32} : ∀ (n : Nat) {ls : Array Slot} {H : Heap} {locs : List Loc} {M : Me}, rx_W D vwCl (wY ad cI cL) A s.heap M H locs → lv_has ls 4 [(0, .ref ((ad 0))), (2, .int w2)] → rx_lp0 (qo_X7_restore_163 w2) n M = some o → W p l e rm_X7_restore s m args below meth c H locs 0 0 Q (F0 m 163 ls []) := by
  have hx := cx.1.1
  have hb := cx.1.2.1
  intro n
  induction n with
  | zero => intro ls H locs M hw hl hf; exact rx_no hf
  | succ n ih =>
    intro ls H locs M hw hl hf
    have hf : qo_X7_restore_163 w2 (rx_lp0 (qo_X7_restore_163 w2) n) M = some o := hf
    refine lv_aload_n hx hb dX7_restore_163 rfl (lv_at hl 0 rfl) ?_
    obtain ⟨v1, ev1, hf⟩ := rx_vvI hf
    refine rx_geti cx hw (fiY_0_9 ad cI cL) rfl (inT_X7) (Nat.le_of_ble_eq_true rfl) (.tail _ tw_670) ev1 dX7_restore_164 ?_
    refine lv_aload_n hx hb dX7_restore_167 rfl (lv_at hl 0 rfl) ?_
    refine rx_getr cx hw (frY_0_27 ad cI cL) rfl (inT_X7) (Nat.le_of_ble_eq_true rfl) (.tail _ tw_688) dX7_restore_168 ?_
    refine lv_iload_n hx hb dX7_restore_171 rfl (lv_at hl 1 rfl) ?_
    refine lv_sipush (v := 203) hx hb dX7_restore_172 is_203 ?_
    refine lv_iadd hx hb dX7_restore_175 ?_
    obtain ⟨hv2, v2, ev2, hf⟩ := rx_ldI hf
    refine rx_iald cx hw (arY_16 ad cI cL) ⟨hv2, ev2⟩ dX7_restore_176 ?_
    refine lv_icmp_le hx hb dX7_restore_177 rfl (fun hc => ?_) (fun hc => ?_)
    · have hf := rx_t hc hf
      exact rx_retv hret hw hf dX7_restore_230
    · have hf := rx_f hc hf
      refine lv_aload_n hx hb dX7_restore_180 rfl (lv_at hl 0 rfl) ?_
      refine lv_dup hx hb dX7_restore_181 rfl ?_
      obtain ⟨v3, ev3, hf⟩ := rx_vvI hf
      refine rx_geti cx hw (fiY_0_9 ad cI cL) rfl (inT_X7) (Nat.le_of_ble_eq_true rfl) (.tail _ tw_670) ev3 dX7_restore_182 ?_
      refine lv_iconst (v := 1) hx hb dX7_restore_185 ic_1 ?_
      refine lv_isub hx hb dX7_restore_186 ?_
      obtain ⟨M4, eM4, hf⟩ := rx_vvI hf
      refine rx_puti cx hw (fiY_0_9 ad cI cL) rfl (inT_X7) tyX7 tyX7_ok nmX7 (Nat.le_of_ble_eq_true rfl) (.tail _ tw_670) rfl rfl rfl eM4 dX7_restore_187 (fun H locs hw => ?_)
      refine lv_aload_n hx hb dX7_restore_190 rfl (lv_at hl 0 rfl) ?_
      refine rx_getr cx hw (frY_0_14 ad cI cL) rfl (inT_X7) (Nat.le_of_ble_eq_true rfl) (.tail _ tw_675) dX7_restore_191 ?_
      refine lv_bipush (v := 19) hx hb dX7_restore_194 ib_19 ?_
      refine lv_aload_n hx hb dX7_restore_196 rfl (lv_at hl 0 rfl) ?_
      refine rx_getr cx hw (frY_0_11 ad cI cL) rfl (inT_X7) (Nat.le_of_ble_eq_true rfl) (.tail _ tw_672) dX7_restore_197 ?_
      refine lv_aload_n hx hb dX7_restore_200 rfl (lv_at hl 0 rfl) ?_
      obtain ⟨v5, ev5, hf⟩ := rx_vvI hf
      refine rx_geti cx hw (fiY_0_9 ad cI cL) rfl (inT_X7) (Nat.le_of_ble_eq_true rfl) (.tail _ tw_670) ev5 dX7_restore_201 ?_
      obtain ⟨hv6, v6, ev6, hf⟩ := rx_ldI hf
      refine rx_iald cx hw (arY_7 ad cI cL) ⟨hv6, ev6⟩ dX7_restore_204 ?_
      refine lv_imul hx hb dX7_restore_205 ?_
      refine lv_aload_n hx hb dX7_restore_206 rfl (lv_at hl 0 rfl) ?_
      refine rx_getr cx hw (frY_0_10 ad cI cL) rfl (inT_X7) (Nat.le_of_ble_eq_true rfl) (.tail _ tw_671) dX7_restore_207 ?_
      refine lv_aload_n hx hb dX7_restore_210 rfl (lv_at hl 0 rfl) ?_
      obtain ⟨v7, ev7, hf⟩ := rx_vvI hf
      refine rx_geti cx hw (fiY_0_9 ad cI cL) rfl (inT_X7) (Nat.le_of_ble_eq_true rfl) (.tail _ tw_670) ev7 dX7_restore_211 ?_
      obtain ⟨hv8, v8, ev8, hf⟩ := rx_ldI hf
      refine rx_iald cx hw (arY_6 ad cI cL) ⟨hv8, ev8⟩ dX7_restore_214 ?_
      refine lv_iadd hx hb dX7_restore_215 ?_
      refine lv_sipush (v := 180) hx hb dX7_restore_216 is_180 ?_
      refine lv_iadd hx hb dX7_restore_219 ?_
      refine lv_iconst (v := (-1)) hx hb dX7_restore_220 ic_m1 ?_
      obtain ⟨hM9, M9, eM9, hf⟩ := rx_svI hf
      refine rx_iast cx hw (arY_10 ad cI cL) ⟨hM9, eM9⟩ dX7_restore_221 (fun H locs hw => ?_)
      refine lv_aload_n hx hb dX7_restore_222 rfl (lv_at hl 0 rfl) ?_
      refine lv_iconst (v := 0) hx hb dX7_restore_223 ic_0 ?_
      obtain ⟨M10, eM10, hf⟩ := rx_vvI hf
      refine rx_puti cx hw (fiY_0_26 ad cI cL) rfl (inT_X7) tyX7 tyX7_ok nmX7 (Nat.le_of_ble_eq_true rfl) (.tail _ tw_687) rfl rfl rfl eM10 dX7_restore_224 (fun H locs hw => ?_)
      refine lv_goto hx hb dX7_restore_227 rfl ?_
      exact ih hw hl hf
set_option maxRecDepth 100000 in
set_option maxHeartbeats 4000000 in
theorem qk_X7_restore_160 (cx : rx_C p m c cX7_restore 4 s args wX7_restore RX7 D vwCl (tY cI cL) [] wN A) (hret : rx_RV p l e rm_X7_restore s m args below meth c cX7_restore D vwCl (wY ad cI cL) A Q o) {w2 : Int32} {s0 : Int32} {ls : Array Slot} {H : Heap} {locs : List Loc} {M : Me} (hw : rx_W D vwCl (wY ad cI cL) A s.heap M H locs) (hl : lv_has ls 4 [(0, .ref ((ad 0))), (2, .int w2)]) (hf : qb_X7_restore_160 w2 s0 M = some o) : W p l e rm_X7_restore s m args below meth c H locs 0 0 Q (F0 m 160 ls [.int s0, .ref ((ad 0))]) := by
  have hx := cx.1.1
  have hb := cx.1.2.1
  obtain ⟨hz, hf⟩ := rx_zbI hf
  obtain ⟨M1, eM1, hf⟩ := rx_vvI hf
  refine rx_puti cx hw (fiY_0_22 ad cI cL) rfl (inT_X7) tyX7 tyX7_ok nmX7 (Nat.le_of_ble_eq_true rfl) (.tail _ tw_683) rfl (rx_nz hz) (rx_fz hz) eM1 dX7_restore_160 (fun H locs hw => ?_)
  exact (qk_X7_restore_163 cx hret rx_FU) hw hl hf
set_option maxRecDepth 100000 in
set_option maxHeartbeats 4000000 in
theorem qk_X7_restore_84 (cx : rx_C p m c cX7_restore 4 s args wX7_restore RX7 D vwCl (tY cI cL) [] wN A) (hret : rx_RV p l e rm_X7_restore s m args below meth c cX7_restore D vwCl (wY ad cI cL) A Q o) {w2 : Int32} {ls : Array Slot} {H : Heap} {locs : List Loc} {M : Me} (hw : rx_W D vwCl (wY ad cI cL) A s.heap M H locs) (hl : lv_has ls 4 [(0, .ref ((ad 0))), (2, .int w2)]) (hf : qb_X7_restore_84 w2 M = some o) : W p l e rm_X7_restore s m args below meth c H locs 0 0 Q (F0 m 84 ls []) := by
  have hx := cx.1.1
  have hb := cx.1.2.1
  refine lv_aload_n hx hb dX7_restore_84 rfl (lv_at hl 0 rfl) ?_
  refine lv_aload_n hx hb dX7_restore_85 rfl (lv_at hl 0 rfl) ?_
  refine rx_getr cx hw (frY_0_27 ad cI cL) rfl (inT_X7) (Nat.le_of_ble_eq_true rfl) (.tail _ tw_688) dX7_restore_86 ?_
  refine lv_iload_n hx hb dX7_restore_89 rfl (lv_at hl 1 rfl) ?_
  refine lv_sipush (v := 198) hx hb dX7_restore_90 is_198 ?_
  refine lv_iadd hx hb dX7_restore_93 ?_
  obtain ⟨hv1, v1, ev1, hf⟩ := rx_ldI hf
  refine rx_iald cx hw (arY_16 ad cI cL) ⟨hv1, ev1⟩ dX7_restore_94 ?_
  obtain ⟨M2, eM2, hf⟩ := rx_vvI hf
  refine rx_puti cx hw (fiY_0_18 ad cI cL) rfl (inT_X7) tyX7 tyX7_ok nmX7 (Nat.le_of_ble_eq_true rfl) (.tail _ tw_679) rfl rfl rfl eM2 dX7_restore_95 (fun H locs hw => ?_)
  refine lv_aload_n hx hb dX7_restore_98 rfl (lv_at hl 0 rfl) ?_
  refine lv_aload_n hx hb dX7_restore_99 rfl (lv_at hl 0 rfl) ?_
  refine rx_getr cx hw (frY_0_27 ad cI cL) rfl (inT_X7) (Nat.le_of_ble_eq_true rfl) (.tail _ tw_688) dX7_restore_100 ?_
  refine lv_iload_n hx hb dX7_restore_103 rfl (lv_at hl 1 rfl) ?_
  refine lv_sipush (v := 199) hx hb dX7_restore_104 is_199 ?_
  refine lv_iadd hx hb dX7_restore_107 ?_
  obtain ⟨hv3, v3, ev3, hf⟩ := rx_ldI hf
  refine rx_iald cx hw (arY_16 ad cI cL) ⟨hv3, ev3⟩ dX7_restore_108 ?_
  obtain ⟨M4, eM4, hf⟩ := rx_vvI hf
  refine rx_puti cx hw (fiY_0_19 ad cI cL) rfl (inT_X7) tyX7 tyX7_ok nmX7 (Nat.le_of_ble_eq_true rfl) (.tail _ tw_680) rfl rfl rfl eM4 dX7_restore_109 (fun H locs hw => ?_)
  refine lv_aload_n hx hb dX7_restore_112 rfl (lv_at hl 0 rfl) ?_
  refine lv_aload_n hx hb dX7_restore_113 rfl (lv_at hl 0 rfl) ?_
  refine rx_getr cx hw (frY_0_27 ad cI cL) rfl (inT_X7) (Nat.le_of_ble_eq_true rfl) (.tail _ tw_688) dX7_restore_114 ?_
  refine lv_iload_n hx hb dX7_restore_117 rfl (lv_at hl 1 rfl) ?_
  refine lv_sipush (v := 200) hx hb dX7_restore_118 is_200 ?_
  refine lv_iadd hx hb dX7_restore_121 ?_
  obtain ⟨hv5, v5, ev5, hf⟩ := rx_ldI hf
  refine rx_iald cx hw (arY_16 ad cI cL) ⟨hv5, ev5⟩ dX7_restore_122 ?_
  obtain ⟨M6, eM6, hf⟩ := rx_vvI hf
  refine rx_puti cx hw (fiY_0_20 ad cI cL) rfl (inT_X7) tyX7 tyX7_ok nmX7 (Nat.le_of_ble_eq_true rfl) (.tail _ tw_681) rfl rfl rfl eM6 dX7_restore_123 (fun H locs hw => ?_)
  refine lv_aload_n hx hb dX7_restore_126 rfl (lv_at hl 0 rfl) ?_
  refine lv_aload_n hx hb dX7_restore_127 rfl (lv_at hl 0 rfl) ?_
  refine rx_getr cx hw (frY_0_27 ad cI cL) rfl (inT_X7) (Nat.le_of_ble_eq_true rfl) (.tail _ tw_688) dX7_restore_128 ?_
  refine lv_iload_n hx hb dX7_restore_131 rfl (lv_at hl 1 rfl) ?_
  refine lv_sipush (v := 201) hx hb dX7_restore_132 is_201 ?_
  refine lv_iadd hx hb dX7_restore_135 ?_
  obtain ⟨hv7, v7, ev7, hf⟩ := rx_ldI hf
  refine rx_iald cx hw (arY_16 ad cI cL) ⟨hv7, ev7⟩ dX7_restore_136 ?_
  obtain ⟨M8, eM8, hf⟩ := rx_vvI hf
  refine rx_puti cx hw (fiY_0_21 ad cI cL) rfl (inT_X7) tyX7 tyX7_ok nmX7 (Nat.le_of_ble_eq_true rfl) (.tail _ tw_682) rfl rfl rfl eM8 dX7_restore_137 (fun H locs hw => ?_)
  refine lv_aload_n hx hb dX7_restore_140 rfl (lv_at hl 0 rfl) ?_
  refine lv_aload_n hx hb dX7_restore_141 rfl (lv_at hl 0 rfl) ?_
  refine rx_getr cx hw (frY_0_27 ad cI cL) rfl (inT_X7) (Nat.le_of_ble_eq_true rfl) (.tail _ tw_688) dX7_restore_142 ?_
  refine lv_iload_n hx hb dX7_restore_145 rfl (lv_at hl 1 rfl) ?_
  refine lv_sipush (v := 202) hx hb dX7_restore_146 is_202 ?_
  refine lv_iadd hx hb dX7_restore_149 ?_
  obtain ⟨hv9, v9, ev9, hf⟩ := rx_ldI hf
  refine rx_iald cx hw (arY_16 ad cI cL) ⟨hv9, ev9⟩ dX7_restore_150 ?_
  refine lv_iconst (v := 1) hx hb dX7_restore_151 ic_1 ?_
  refine lv_icmp_ne hx hb dX7_restore_152 rfl (fun hc => ?_) (fun hc => ?_)
  · have hf := rx_f hc hf
    refine lv_iconst (v := 0) hx hb dX7_restore_159 ic_0 ?_
    exact (qk_X7_restore_160 cx hret) hw hl hf
  · have hf := rx_t hc hf
    refine lv_iconst (v := 1) hx hb dX7_restore_155 ic_1 ?_
    refine lv_goto hx hb dX7_restore_156 rfl ?_
    exact (qk_X7_restore_160 cx hret) hw hl hf
set_option maxRecDepth 100000 in
set_option maxHeartbeats 4000000 in
theorem qk_X7_restore_35 (cx : rx_C p m c cX7_restore 4 s args wX7_restore RX7 D vwCl (tY cI cL) [] wN A) (hret : rx_RV p l e rm_X7_restore s m args below meth c cX7_restore D vwCl (wY ad cI cL) A Q o) {w2 : Int32} {ls : Array Slot} {H : Heap} {locs : List Loc} {M : Me} (hw : rx_W D vwCl (wY ad cI cL) A s.heap M H locs) (hl : lv_has ls 4 [(0, .ref ((ad 0))), (2, .int w2)]) (hf : qb_X7_restore_35 w2 M = some o) : W p l e rm_X7_restore s m args below meth c H locs 0 0 Q (F0 m 35 ls []) := by
  have hx := cx.1.1
  have hb := cx.1.2.1
  refine lv_iconst (v := 0) hx hb dX7_restore_35 ic_0 ?_
  refine lv_istore_n (lv' := [(3, .int 0), (0, .ref ((ad 0))), (2, .int w2)]) hx hb dX7_restore_36 rfl hl (Nat.le_of_ble_eq_true rfl) rfl (fun ls hl => ?_)
  exact (qk_X7_restore_37 cx hret (qk_X7_restore_84 cx hret) rx_FU) hw (lv_sub hl [1, 2, 0] rfl) hf
set_option maxRecDepth 100000 in
set_option maxHeartbeats 4000000 in
theorem qk_X7_restore_0 (cx : rx_C p m c cX7_restore 4 s args wX7_restore RX7 D vwCl (tY cI cL) [] wN A) (hret : rx_RV p l e rm_X7_restore s m args below meth c cX7_restore D vwCl (wY ad cI cL) A Q o) {w1 : Int32} {ls : Array Slot} {H : Heap} {locs : List Loc} {M : Me} (hw : rx_W D vwCl (wY ad cI cL) A s.heap M H locs) (hl : lv_has ls 4 [(0, .ref ((ad 0))), (1, .int w1)]) (hf : qf_X7_restore w1 M = some o) : W p l e rm_X7_restore s m args below meth c H locs 0 0 Q (F0 m 0 ls []) := by
  have hx := cx.1.1
  have hb := cx.1.2.1
  refine lv_sipush (v := 210) hx hb dX7_restore_0 is_210 ?_
  refine lv_iload_n hx hb dX7_restore_3 rfl (lv_at hl 1 rfl) ?_
  refine lv_imul hx hb dX7_restore_4 ?_
  obtain ⟨v1, ev1, hf⟩ := rx_vvI hf
  refine rx_top ev1 ?_
  refine lv_istore_n (lv' := [(2, .int v1), (0, .ref ((ad 0))), (1, .int w1)]) hx hb dX7_restore_5 rfl hl (Nat.le_of_ble_eq_true rfl) rfl (fun ls hl => ?_)
  refine lv_iconst (v := 0) hx hb dX7_restore_6 ic_0 ?_
  refine lv_istore_n (lv' := [(3, .int 0), (2, .int v1), (0, .ref ((ad 0))), (1, .int w1)]) hx hb dX7_restore_7 rfl hl (Nat.le_of_ble_eq_true rfl) rfl (fun ls hl => ?_)
  exact (qk_X7_restore_8 cx hret (qk_X7_restore_35 cx hret) rx_FU) hw (lv_sub hl [2, 1, 0] rfl) hf
end
set_option maxRecDepth 100000 in
theorem qc_X7_restore (l : Launch) (D : va_G) (ad : Nat → Nat) (cI cL : ClassId) (w1 : Int32) : rx_MV l yX7_restore wX7_restore rm_X7_restore D vwCl (wY ad cI cL) (tY cI cL) [] wN [.ref (ad 0), .int w1] (fun M => qf_X7_restore w1 M) :=
  rx_ofV (by decide) rfl wN_ok (Nat.le_of_ble_eq_true rfl) (fun _ _ _ _ _ _ _ _ _ _ _ _ _ cx hret hw hl hf => qk_X7_restore_0 cx hret hw hl hf)
def rm_X7_ahead_0_17 : Room := { frames := 0, cells := 0, slots := 0, locals := 0 }
noncomputable def qb_X7_ahead_0_17_37 (k6 : Int32 → Int32 → Me → Op) (w2 : Int32) (w4 : Int32) (s0 : Int32) (M : Me) : Op :=
  rx_vv (w4 + 1) fun v1 => k6 s0 v1 M
noncomputable def qo_X7_ahead_0_17_6 (k44 : Int32 → Me → Op) (w2 : Int32) (rec : Int32 → Int32 → Me → Op) (w3 : Int32) (w4 : Int32) (M : Me) : Op :=
  rx_vv (M 0 8) fun v1 => if v1 ≤ w4 then (k44 w3 M) else (if w4 = w2 then (qb_X7_ahead_0_17_37 rec w2 w4 w3 M) else (rx_ld M 17 3 w4 fun v2 => if v2 ≤ w3 then (qb_X7_ahead_0_17_37 rec w2 w4 w3 M) else (rx_ld M 17 3 w4 fun v3 => qb_X7_ahead_0_17_37 rec w2 w4 v3 M)))
noncomputable def qb_X7_ahead_0_17_44  (w2 : Int32) (w3 : Int32)  (M : Me) : Op :=
  rx_ld M 17 3 w2 fun v1 => some (v1 - w3, M)
noncomputable def qf_X7_ahead_0_17  (w2 : Int32)  (M : Me) : Op :=
  rx_lp2 (qo_X7_ahead_0_17_6 (fun a3 M => qb_X7_ahead_0_17_44 w2 a3 M) w2) rx_FU (-100000) 0 M
section
variable {p : Program} {l : Launch} {e : Env} {s : State} {m : MethodId} {args : Array Value} {below : List Frame} {meth : Method} {c : Code} {Q : State → Prop} {D : va_G} {A : Nat → Prop} {o : Int32 × Me} {ad : Nat → Nat} {cI cL : ClassId} {b1 b2 : Nat}
set_option maxRecDepth 100000 in
set_option maxHeartbeats 4000000 in
theorem qk_X7_ahead_0_17_37 (cx : rx_C p m c cX7_ahead 5 s args wX7_ahead RX7 D vwCl (tY cI cL) [] wN A) (hret : rx_RI p l e rm_X7_ahead_0_17 s m args below meth c cX7_ahead D vwCl (wY ad cI cL) A Q o) {w2 : Int32} {w4 : Int32} {s0 : Int32} {k6 : Int32 → Int32 → Me → Op} (h6 : ∀ {a3 : Int32} {a4 : Int32} {ls : Array Slot} {H : Heap} {locs : List Loc} {M : Me}, rx_W D vwCl (wY ad cI cL) A s.heap M H locs → lv_has ls 5 [(0, .ref ((ad 0))), (1, .ref ((ad 17))), (2, .int w2), (3, .int a3), (4, .int a4)] → k6 a3 a4 M = some o → W p l e rm_X7_ahead_0_17 s m args below meth c H locs 0 0 Q (F0 m 6 ls [])) {ls : Array Slot} {H : Heap} {locs : List Loc} {M : Me} (hw : rx_W D vwCl (wY ad cI cL) A s.heap M H locs) (hl : lv_has ls 5 [(0, .ref ((ad 0))), (1, .ref ((ad 17))), (2, .int w2), (4, .int w4)]) (hf : qb_X7_ahead_0_17_37 k6 w2 w4 s0 M = some o) : W p l e rm_X7_ahead_0_17 s m args below meth c H locs 0 0 Q (F0 m 37 ls [.int s0]) := by
  have hx := cx.1.1
  have hb := cx.1.2.1
  refine lv_istore_n (lv' := [(3, .int s0), (0, .ref ((ad 0))), (1, .ref ((ad 17))), (2, .int w2), (4, .int w4)]) hx hb dX7_ahead_37 rfl hl (Nat.le_of_ble_eq_true rfl) rfl (fun ls hl => ?_)
  obtain ⟨v1, ev1, hf⟩ := rx_vvI hf
  refine lv_iinc (lv' := [(4, .int v1), (3, .int s0), (0, .ref ((ad 0))), (1, .ref ((ad 17))), (2, .int w2)]) hx hb dX7_ahead_38 hl (k := 4) rfl (rx_inc ic_1 ev1) (Nat.le_of_ble_eq_true rfl) rfl (fun ls hl => ?_)
  refine lv_goto hx hb dX7_ahead_41 rfl ?_
  exact h6 hw (lv_sub hl [2, 3, 4, 1, 0] rfl) hf
set_option maxRecDepth 100000 in
set_option maxHeartbeats 4000000 in
theorem qk_X7_ahead_0_17_6 (cx : rx_C p m c cX7_ahead 5 s args wX7_ahead RX7 D vwCl (tY cI cL) [] wN A) (hret : rx_RI p l e rm_X7_ahead_0_17 s m args below meth c cX7_ahead D vwCl (wY ad cI cL) A Q o) {w2 : Int32} {k44 : Int32 → Me → Op} (h44 : ∀ {a3 : Int32} {ls : Array Slot} {H : Heap} {locs : List Loc} {M : Me}, rx_W D vwCl (wY ad cI cL) A s.heap M H locs → lv_has ls 5 [(1, .ref ((ad 17))), (2, .int w2), (3, .int a3)] → k44 a3 M = some o → W p l e rm_X7_ahead_0_17 s m args below meth c H locs 0 0 Q (F0 m 44 ls [])) : ∀ (n : Nat) {w3 : Int32} {w4 : Int32} {ls : Array Slot} {H : Heap} {locs : List Loc} {M : Me}, rx_W D vwCl (wY ad cI cL) A s.heap M H locs → lv_has ls 5 [(0, .ref ((ad 0))), (1, .ref ((ad 17))), (2, .int w2), (3, .int w3), (4, .int w4)] → rx_lp2 (qo_X7_ahead_0_17_6 k44 w2) n w3 w4 M = some o → W p l e rm_X7_ahead_0_17 s m args below meth c H locs 0 0 Q (F0 m 6 ls []) := by
  have hx := cx.1.1
  have hb := cx.1.2.1
  intro n
  induction n with
  | zero => intro w3 w4 ls H locs M hw hl hf; exact rx_no hf
  | succ n ih =>
    intro w3 w4 ls H locs M hw hl hf
    have hf : qo_X7_ahead_0_17_6 k44 w2 (rx_lp2 (qo_X7_ahead_0_17_6 k44 w2) n) w3 w4 M = some o := hf
    refine lv_iload hx hb dX7_ahead_6 (lv_at hl 4 rfl) ?_
    refine lv_aload_n hx hb dX7_ahead_8 rfl (lv_at hl 0 rfl) ?_
    obtain ⟨v1, ev1, hf⟩ := rx_vvI hf
    refine rx_geti cx hw (fiY_0_8 ad cI cL) rfl (inT_X7) (Nat.le_of_ble_eq_true rfl) (.tail _ tw_669) ev1 dX7_ahead_9 ?_
    refine lv_icmp_ge hx hb dX7_ahead_12 rfl (fun hc => ?_) (fun hc => ?_)
    · have hf := rx_t hc hf
      exact h44 hw (lv_sub hl [1, 2, 3] rfl) hf
    · have hf := rx_f hc hf
      refine lv_iload hx hb dX7_ahead_15 (lv_at hl 4 rfl) ?_
      refine lv_iload_n hx hb dX7_ahead_17 rfl (lv_at hl 2 rfl) ?_
      refine lv_icmp_eq hx hb dX7_ahead_18 rfl (fun hc => ?_) (fun hc => ?_)
      · have hf := rx_t hc hf
        refine lv_iload_n hx hb dX7_ahead_36 rfl (lv_at hl 3 rfl) ?_
        exact (qk_X7_ahead_0_17_37 cx hret ih) hw (lv_sub hl [0, 1, 2, 4] rfl) hf
      · have hf := rx_f hc hf
        refine lv_aload_n hx hb dX7_ahead_21 rfl (lv_at hl 1 rfl) ?_
        refine lv_iload hx hb dX7_ahead_22 (lv_at hl 4 rfl) ?_
        obtain ⟨hv2, v2, ev2, hf⟩ := rx_ldI hf
        refine rx_iald cx hw (arY_17 ad cI cL) ⟨hv2, ev2⟩ dX7_ahead_24 ?_
        refine lv_iload_n hx hb dX7_ahead_25 rfl (lv_at hl 3 rfl) ?_
        refine lv_icmp_le hx hb dX7_ahead_26 rfl (fun hc => ?_) (fun hc => ?_)
        · have hf := rx_t hc hf
          refine lv_iload_n hx hb dX7_ahead_36 rfl (lv_at hl 3 rfl) ?_
          exact (qk_X7_ahead_0_17_37 cx hret ih) hw (lv_sub hl [0, 1, 2, 4] rfl) hf
        · have hf := rx_f hc hf
          refine lv_aload_n hx hb dX7_ahead_29 rfl (lv_at hl 1 rfl) ?_
          refine lv_iload hx hb dX7_ahead_30 (lv_at hl 4 rfl) ?_
          obtain ⟨hv3, v3, ev3, hf⟩ := rx_ldI hf
          refine rx_iald cx hw (arY_17 ad cI cL) ⟨hv3, ev3⟩ dX7_ahead_32 ?_
          refine lv_goto hx hb dX7_ahead_33 rfl ?_
          exact (qk_X7_ahead_0_17_37 cx hret ih) hw (lv_sub hl [0, 1, 2, 4] rfl) hf
set_option maxRecDepth 100000 in
set_option maxHeartbeats 4000000 in
theorem qk_X7_ahead_0_17_44 (cx : rx_C p m c cX7_ahead 5 s args wX7_ahead RX7 D vwCl (tY cI cL) [] wN A) (hret : rx_RI p l e rm_X7_ahead_0_17 s m args below meth c cX7_ahead D vwCl (wY ad cI cL) A Q o) {w2 : Int32} {w3 : Int32} {ls : Array Slot} {H : Heap} {locs : List Loc} {M : Me} (hw : rx_W D vwCl (wY ad cI cL) A s.heap M H locs) (hl : lv_has ls 5 [(1, .ref ((ad 17))), (2, .int w2), (3, .int w3)]) (hf : qb_X7_ahead_0_17_44 w2 w3 M = some o) : W p l e rm_X7_ahead_0_17 s m args below meth c H locs 0 0 Q (F0 m 44 ls []) := by
  have hx := cx.1.1
  have hb := cx.1.2.1
  refine lv_aload_n hx hb dX7_ahead_44 rfl (lv_at hl 0 rfl) ?_
  refine lv_iload_n hx hb dX7_ahead_45 rfl (lv_at hl 1 rfl) ?_
  obtain ⟨hv1, v1, ev1, hf⟩ := rx_ldI hf
  refine rx_iald cx hw (arY_17 ad cI cL) ⟨hv1, ev1⟩ dX7_ahead_46 ?_
  refine lv_iload_n hx hb dX7_ahead_47 rfl (lv_at hl 2 rfl) ?_
  refine lv_isub hx hb dX7_ahead_48 ?_
  exact rx_reti hret hw hf dX7_ahead_49
set_option maxRecDepth 100000 in
set_option maxHeartbeats 4000000 in
theorem qk_X7_ahead_0_17_0 (cx : rx_C p m c cX7_ahead 5 s args wX7_ahead RX7 D vwCl (tY cI cL) [] wN A) (hret : rx_RI p l e rm_X7_ahead_0_17 s m args below meth c cX7_ahead D vwCl (wY ad cI cL) A Q o) {w2 : Int32} {ls : Array Slot} {H : Heap} {locs : List Loc} {M : Me} (hw : rx_W D vwCl (wY ad cI cL) A s.heap M H locs) (hl : lv_has ls 5 [(0, .ref ((ad 0))), (1, .ref ((ad 17))), (2, .int w2)]) (hf : qf_X7_ahead_0_17 w2 M = some o) : W p l e rm_X7_ahead_0_17 s m args below meth c H locs 0 0 Q (F0 m 0 ls []) := by
  have hx := cx.1.1
  have hb := cx.1.2.1
  refine lv_ldc (v := (-100000)) hx hb cx.1.2.2.2.1 (cx.1.2.2.2.2 _ (.tail _ tw_953)) dX7_ahead_0 ?_
  refine lv_istore_n (lv' := [(3, .int (-100000)), (0, .ref ((ad 0))), (1, .ref ((ad 17))), (2, .int w2)]) hx hb dX7_ahead_2 rfl hl (Nat.le_of_ble_eq_true rfl) rfl (fun ls hl => ?_)
  refine lv_iconst (v := 0) hx hb dX7_ahead_3 ic_0 ?_
  refine lv_istore (lv' := [(4, .int 0), (3, .int (-100000)), (0, .ref ((ad 0))), (1, .ref ((ad 17))), (2, .int w2)]) hx hb dX7_ahead_4 hl (Nat.le_of_ble_eq_true rfl) rfl (fun ls hl => ?_)
  exact (qk_X7_ahead_0_17_6 cx hret (qk_X7_ahead_0_17_44 cx hret) rx_FU) hw (lv_sub hl [2, 3, 4, 1, 0] rfl) hf
end
set_option maxRecDepth 100000 in
theorem qc_X7_ahead_0_17 (l : Launch) (D : va_G) (ad : Nat → Nat) (cI cL : ClassId) (w2 : Int32) : rx_MI l yX7_ahead wX7_ahead rm_X7_ahead_0_17 D vwCl (wY ad cI cL) (tY cI cL) [] wN [.ref (ad 0), .ref (ad 17), .int w2] (fun M => qf_X7_ahead_0_17 w2 M) :=
  rx_ofI (by decide) rfl wN_ok (Nat.le_of_ble_eq_true rfl) (fun _ _ _ _ _ _ _ _ _ _ _ _ _ cx hret hw hl hf => qk_X7_ahead_0_17_0 cx hret hw hl hf)
def rm_X7_copy : Room := { frames := 0, cells := 0, slots := 0, locals := 0 }
noncomputable def qo_X7_copy_8 (k35 : Me → Op) (w2 : Int32) (rec : Int32 → Me → Op) (w3 : Int32) (M : Me) : Op :=
  if 192 ≤ w3 then (k35 M) else (rx_ld M 11 192 w3 fun v1 => rx_sv M 16 420 (w2 + w3) v1 fun M2 => rx_vv (w3 + 1) fun v3 => rec v3 M2)
noncomputable def qo_X7_copy_37 (k84 : Me → Op) (w2 : Int32) (rec : Int32 → Me → Op) (w3 : Int32) (M : Me) : Op :=
  if 3 ≤ w3 then (k84 M) else (rx_ld M 12 3 w3 fun v1 => rx_sv M 16 420 ((w2 + 192) + w3) v1 fun M2 => rx_ld M2 13 3 w3 fun v3 => rx_sv M2 16 420 ((w2 + 195) + w3) v3 fun M4 => rx_vv (w3 + 1) fun v5 => rec v5 M4)
noncomputable def qb_X7_copy_161  (w2 : Int32) (s0 : Int32) (s1 : Int32) (M : Me) : Op :=
  rx_sv M 16 420 s1 s0 fun M1 => rx_vv (M1 0 9) fun v2 => rx_sv M1 16 420 (w2 + 203) v2 fun M3 => some (0, M3)
noncomputable def qb_X7_copy_84  (w2 : Int32)  (M : Me) : Op :=
  rx_vv (M 0 18) fun v1 => rx_sv M 16 420 (w2 + 198) v1 fun M2 => rx_vv (M2 0 19) fun v3 => rx_sv M2 16 420 (w2 + 199) v3 fun M4 => rx_vv (M4 0 20) fun v5 => rx_sv M4 16 420 (w2 + 200) v5 fun M6 => rx_vv (M6 0 21) fun v7 => rx_sv M6 16 420 (w2 + 201) v7 fun M8 => rx_vv (M8 0 22) fun v9 => if v9 = 0 then (qb_X7_copy_161 w2 0 (w2 + 202) M8) else (qb_X7_copy_161 w2 1 (w2 + 202) M8)
noncomputable def qb_X7_copy_35  (w2 : Int32)  (M : Me) : Op :=
  rx_lp1 (qo_X7_copy_37 (fun M => qb_X7_copy_84 w2 M) w2) rx_FU 0 M
noncomputable def qf_X7_copy  (w1 : Int32)  (M : Me) : Op :=
  rx_vv (210 * w1) fun v1 => rx_lp1 (qo_X7_copy_8 (fun M => qb_X7_copy_35 v1 M) v1) rx_FU 0 M
section
variable {p : Program} {l : Launch} {e : Env} {s : State} {m : MethodId} {args : Array Value} {below : List Frame} {meth : Method} {c : Code} {Q : State → Prop} {D : va_G} {A : Nat → Prop} {o : Int32 × Me} {ad : Nat → Nat} {cI cL : ClassId} {b1 b2 : Nat}
set_option maxRecDepth 100000 in
set_option maxHeartbeats 4000000 in
theorem qk_X7_copy_8 (cx : rx_C p m c cX7_copy 4 s args wX7_copy RX7 D vwCl (tY cI cL) [] wN A) (hret : rx_RV p l e rm_X7_copy s m args below meth c cX7_copy D vwCl (wY ad cI cL) A Q o) {w2 : Int32} {k35 : Me → Op} (h35 : ∀ {ls : Array Slot} {H : Heap} {locs : List Loc} {M : Me}, rx_W D vwCl (wY ad cI cL) A s.heap M H locs → lv_has ls 4 [(0, .ref ((ad 0))), (2, .int w2)] → k35 M = some o → W p l e rm_X7_copy s m args below meth c H locs 0 0 Q (F0 m 35 ls [])) : ∀ (n : Nat) {w3 : Int32} {ls : Array Slot} {H : Heap} {locs : List Loc} {M : Me}, rx_W D vwCl (wY ad cI cL) A s.heap M H locs → lv_has ls 4 [(0, .ref ((ad 0))), (2, .int w2), (3, .int w3)] → rx_lp1 (qo_X7_copy_8 k35 w2) n w3 M = some o → W p l e rm_X7_copy s m args below meth c H locs 0 0 Q (F0 m 8 ls []) := by
  have hx := cx.1.1
  have hb := cx.1.2.1
  intro n
  induction n with
  | zero => intro w3 ls H locs M hw hl hf; exact rx_no hf
  | succ n ih =>
    intro w3 ls H locs M hw hl hf
    have hf : qo_X7_copy_8 k35 w2 (rx_lp1 (qo_X7_copy_8 k35 w2) n) w3 M = some o := hf
    refine lv_iload_n hx hb dX7_copy_8 rfl (lv_at hl 2 rfl) ?_
    refine lv_sipush (v := 192) hx hb dX7_copy_9 is_192 ?_
    refine lv_icmp_ge hx hb dX7_copy_12 rfl (fun hc => ?_) (fun hc => ?_)
    · have hf := rx_t hc hf
      exact h35 hw (lv_sub hl [0, 1] rfl) hf
    · have hf := rx_f hc hf
      refine lv_aload_n hx hb dX7_copy_15 rfl (lv_at hl 0 rfl) ?_
      refine rx_getr cx hw (frY_0_27 ad cI cL) rfl (inT_X7) (Nat.le_of_ble_eq_true rfl) (.tail _ tw_688) dX7_copy_16 ?_
      refine lv_iload_n hx hb dX7_copy_19 rfl (lv_at hl 1 rfl) ?_
      refine lv_iload_n hx hb dX7_copy_20 rfl (lv_at hl 2 rfl) ?_
      refine lv_iadd hx hb dX7_copy_21 ?_
      refine lv_aload_n hx hb dX7_copy_22 rfl (lv_at hl 0 rfl) ?_
      refine rx_getr cx hw (frY_0_15 ad cI cL) rfl (inT_X7) (Nat.le_of_ble_eq_true rfl) (.tail _ tw_676) dX7_copy_23 ?_
      refine lv_iload_n hx hb dX7_copy_26 rfl (lv_at hl 2 rfl) ?_
      obtain ⟨hv1, v1, ev1, hf⟩ := rx_ldI hf
      refine rx_iald cx hw (arY_11 ad cI cL) ⟨hv1, ev1⟩ dX7_copy_27 ?_
      obtain ⟨hM2, M2, eM2, hf⟩ := rx_svI hf
      refine rx_iast cx hw (arY_16 ad cI cL) ⟨hM2, eM2⟩ dX7_copy_28 (fun H locs hw => ?_)
      obtain ⟨v3, ev3, hf⟩ := rx_vvI hf
      refine lv_iinc (lv' := [(3, .int v3), (0, .ref ((ad 0))), (2, .int w2)]) hx hb dX7_copy_29 hl (k := 2) rfl (rx_inc ic_1 ev3) (Nat.le_of_ble_eq_true rfl) rfl (fun ls hl => ?_)
      refine lv_goto hx hb dX7_copy_32 rfl ?_
      exact ih hw (lv_sub hl [1, 2, 0] rfl) hf
set_option maxRecDepth 100000 in
set_option maxHeartbeats 4000000 in
theorem qk_X7_copy_37 (cx : rx_C p m c cX7_copy 4 s args wX7_copy RX7 D vwCl (tY cI cL) [] wN A) (hret : rx_RV p l e rm_X7_copy s m args below meth c cX7_copy D vwCl (wY ad cI cL) A Q o) {w2 : Int32} {k84 : Me → Op} (h84 : ∀ {ls : Array Slot} {H : Heap} {locs : List Loc} {M : Me}, rx_W D vwCl (wY ad cI cL) A s.heap M H locs → lv_has ls 4 [(0, .ref ((ad 0))), (2, .int w2)] → k84 M = some o → W p l e rm_X7_copy s m args below meth c H locs 0 0 Q (F0 m 84 ls [])) : ∀ (n : Nat) {w3 : Int32} {ls : Array Slot} {H : Heap} {locs : List Loc} {M : Me}, rx_W D vwCl (wY ad cI cL) A s.heap M H locs → lv_has ls 4 [(0, .ref ((ad 0))), (2, .int w2), (3, .int w3)] → rx_lp1 (qo_X7_copy_37 k84 w2) n w3 M = some o → W p l e rm_X7_copy s m args below meth c H locs 0 0 Q (F0 m 37 ls []) := by
  have hx := cx.1.1
  have hb := cx.1.2.1
  intro n
  induction n with
  | zero => intro w3 ls H locs M hw hl hf; exact rx_no hf
  | succ n ih =>
    intro w3 ls H locs M hw hl hf
    have hf : qo_X7_copy_37 k84 w2 (rx_lp1 (qo_X7_copy_37 k84 w2) n) w3 M = some o := hf
    refine lv_iload_n hx hb dX7_copy_37 rfl (lv_at hl 2 rfl) ?_
    refine lv_iconst (v := 3) hx hb dX7_copy_38 ic_3 ?_
    refine lv_icmp_ge hx hb dX7_copy_39 rfl (fun hc => ?_) (fun hc => ?_)
    · have hf := rx_t hc hf
      exact h84 hw (lv_sub hl [0, 1] rfl) hf
    · have hf := rx_f hc hf
      refine lv_aload_n hx hb dX7_copy_42 rfl (lv_at hl 0 rfl) ?_
      refine rx_getr cx hw (frY_0_27 ad cI cL) rfl (inT_X7) (Nat.le_of_ble_eq_true rfl) (.tail _ tw_688) dX7_copy_43 ?_
      refine lv_iload_n hx hb dX7_copy_46 rfl (lv_at hl 1 rfl) ?_
      refine lv_sipush (v := 192) hx hb dX7_copy_47 is_192 ?_
      refine lv_iadd hx hb dX7_copy_50 ?_
      refine lv_iload_n hx hb dX7_copy_51 rfl (lv_at hl 2 rfl) ?_
      refine lv_iadd hx hb dX7_copy_52 ?_
      refine lv_aload_n hx hb dX7_copy_53 rfl (lv_at hl 0 rfl) ?_
      refine rx_getr cx hw (frY_0_16 ad cI cL) rfl (inT_X7) (Nat.le_of_ble_eq_true rfl) (.tail _ tw_677) dX7_copy_54 ?_
      refine lv_iload_n hx hb dX7_copy_57 rfl (lv_at hl 2 rfl) ?_
      obtain ⟨hv1, v1, ev1, hf⟩ := rx_ldI hf
      refine rx_iald cx hw (arY_12 ad cI cL) ⟨hv1, ev1⟩ dX7_copy_58 ?_
      obtain ⟨hM2, M2, eM2, hf⟩ := rx_svI hf
      refine rx_iast cx hw (arY_16 ad cI cL) ⟨hM2, eM2⟩ dX7_copy_59 (fun H locs hw => ?_)
      refine lv_aload_n hx hb dX7_copy_60 rfl (lv_at hl 0 rfl) ?_
      refine rx_getr cx hw (frY_0_27 ad cI cL) rfl (inT_X7) (Nat.le_of_ble_eq_true rfl) (.tail _ tw_688) dX7_copy_61 ?_
      refine lv_iload_n hx hb dX7_copy_64 rfl (lv_at hl 1 rfl) ?_
      refine lv_sipush (v := 195) hx hb dX7_copy_65 is_195 ?_
      refine lv_iadd hx hb dX7_copy_68 ?_
      refine lv_iload_n hx hb dX7_copy_69 rfl (lv_at hl 2 rfl) ?_
      refine lv_iadd hx hb dX7_copy_70 ?_
      refine lv_aload_n hx hb dX7_copy_71 rfl (lv_at hl 0 rfl) ?_
      refine rx_getr cx hw (frY_0_17 ad cI cL) rfl (inT_X7) (Nat.le_of_ble_eq_true rfl) (.tail _ tw_678) dX7_copy_72 ?_
      refine lv_iload_n hx hb dX7_copy_75 rfl (lv_at hl 2 rfl) ?_
      obtain ⟨hv3, v3, ev3, hf⟩ := rx_ldI hf
      refine rx_iald cx hw (arY_13 ad cI cL) ⟨hv3, ev3⟩ dX7_copy_76 ?_
      obtain ⟨hM4, M4, eM4, hf⟩ := rx_svI hf
      refine rx_iast cx hw (arY_16 ad cI cL) ⟨hM4, eM4⟩ dX7_copy_77 (fun H locs hw => ?_)
      obtain ⟨v5, ev5, hf⟩ := rx_vvI hf
      refine lv_iinc (lv' := [(3, .int v5), (0, .ref ((ad 0))), (2, .int w2)]) hx hb dX7_copy_78 hl (k := 2) rfl (rx_inc ic_1 ev5) (Nat.le_of_ble_eq_true rfl) rfl (fun ls hl => ?_)
      refine lv_goto hx hb dX7_copy_81 rfl ?_
      exact ih hw (lv_sub hl [1, 2, 0] rfl) hf
set_option maxRecDepth 100000 in
set_option maxHeartbeats 4000000 in
theorem qk_X7_copy_161 (cx : rx_C p m c cX7_copy 4 s args wX7_copy RX7 D vwCl (tY cI cL) [] wN A) (hret : rx_RV p l e rm_X7_copy s m args below meth c cX7_copy D vwCl (wY ad cI cL) A Q o) {w2 : Int32} {s0 : Int32} {s1 : Int32} {ls : Array Slot} {H : Heap} {locs : List Loc} {M : Me} (hw : rx_W D vwCl (wY ad cI cL) A s.heap M H locs) (hl : lv_has ls 4 [(0, .ref ((ad 0))), (2, .int w2)]) (hf : qb_X7_copy_161 w2 s0 s1 M = some o) : W p l e rm_X7_copy s m args below meth c H locs 0 0 Q (F0 m 161 ls [.int s0, .int s1, .ref ((ad 16))]) := by
  have hx := cx.1.1
  have hb := cx.1.2.1
  obtain ⟨hM1, M1, eM1, hf⟩ := rx_svI hf
  refine rx_iast cx hw (arY_16 ad cI cL) ⟨hM1, eM1⟩ dX7_copy_161 (fun H locs hw => ?_)
  refine lv_aload_n hx hb dX7_copy_162 rfl (lv_at hl 0 rfl) ?_
  refine rx_getr cx hw (frY_0_27 ad cI cL) rfl (inT_X7) (Nat.le_of_ble_eq_true rfl) (.tail _ tw_688) dX7_copy_163 ?_
  refine lv_iload_n hx hb dX7_copy_166 rfl (lv_at hl 1 rfl) ?_
  refine lv_sipush (v := 203) hx hb dX7_copy_167 is_203 ?_
  refine lv_iadd hx hb dX7_copy_170 ?_
  refine lv_aload_n hx hb dX7_copy_171 rfl (lv_at hl 0 rfl) ?_
  obtain ⟨v2, ev2, hf⟩ := rx_vvI hf
  refine rx_geti cx hw (fiY_0_9 ad cI cL) rfl (inT_X7) (Nat.le_of_ble_eq_true rfl) (.tail _ tw_670) ev2 dX7_copy_172 ?_
  obtain ⟨hM3, M3, eM3, hf⟩ := rx_svI hf
  refine rx_iast cx hw (arY_16 ad cI cL) ⟨hM3, eM3⟩ dX7_copy_175 (fun H locs hw => ?_)
  exact rx_retv hret hw hf dX7_copy_176
set_option maxRecDepth 100000 in
set_option maxHeartbeats 4000000 in
theorem qk_X7_copy_84 (cx : rx_C p m c cX7_copy 4 s args wX7_copy RX7 D vwCl (tY cI cL) [] wN A) (hret : rx_RV p l e rm_X7_copy s m args below meth c cX7_copy D vwCl (wY ad cI cL) A Q o) {w2 : Int32} {ls : Array Slot} {H : Heap} {locs : List Loc} {M : Me} (hw : rx_W D vwCl (wY ad cI cL) A s.heap M H locs) (hl : lv_has ls 4 [(0, .ref ((ad 0))), (2, .int w2)]) (hf : qb_X7_copy_84 w2 M = some o) : W p l e rm_X7_copy s m args below meth c H locs 0 0 Q (F0 m 84 ls []) := by
  have hx := cx.1.1
  have hb := cx.1.2.1
  refine lv_aload_n hx hb dX7_copy_84 rfl (lv_at hl 0 rfl) ?_
  refine rx_getr cx hw (frY_0_27 ad cI cL) rfl (inT_X7) (Nat.le_of_ble_eq_true rfl) (.tail _ tw_688) dX7_copy_85 ?_
  refine lv_iload_n hx hb dX7_copy_88 rfl (lv_at hl 1 rfl) ?_
  refine lv_sipush (v := 198) hx hb dX7_copy_89 is_198 ?_
  refine lv_iadd hx hb dX7_copy_92 ?_
  refine lv_aload_n hx hb dX7_copy_93 rfl (lv_at hl 0 rfl) ?_
  obtain ⟨v1, ev1, hf⟩ := rx_vvI hf
  refine rx_geti cx hw (fiY_0_18 ad cI cL) rfl (inT_X7) (Nat.le_of_ble_eq_true rfl) (.tail _ tw_679) ev1 dX7_copy_94 ?_
  obtain ⟨hM2, M2, eM2, hf⟩ := rx_svI hf
  refine rx_iast cx hw (arY_16 ad cI cL) ⟨hM2, eM2⟩ dX7_copy_97 (fun H locs hw => ?_)
  refine lv_aload_n hx hb dX7_copy_98 rfl (lv_at hl 0 rfl) ?_
  refine rx_getr cx hw (frY_0_27 ad cI cL) rfl (inT_X7) (Nat.le_of_ble_eq_true rfl) (.tail _ tw_688) dX7_copy_99 ?_
  refine lv_iload_n hx hb dX7_copy_102 rfl (lv_at hl 1 rfl) ?_
  refine lv_sipush (v := 199) hx hb dX7_copy_103 is_199 ?_
  refine lv_iadd hx hb dX7_copy_106 ?_
  refine lv_aload_n hx hb dX7_copy_107 rfl (lv_at hl 0 rfl) ?_
  obtain ⟨v3, ev3, hf⟩ := rx_vvI hf
  refine rx_geti cx hw (fiY_0_19 ad cI cL) rfl (inT_X7) (Nat.le_of_ble_eq_true rfl) (.tail _ tw_680) ev3 dX7_copy_108 ?_
  obtain ⟨hM4, M4, eM4, hf⟩ := rx_svI hf
  refine rx_iast cx hw (arY_16 ad cI cL) ⟨hM4, eM4⟩ dX7_copy_111 (fun H locs hw => ?_)
  refine lv_aload_n hx hb dX7_copy_112 rfl (lv_at hl 0 rfl) ?_
  refine rx_getr cx hw (frY_0_27 ad cI cL) rfl (inT_X7) (Nat.le_of_ble_eq_true rfl) (.tail _ tw_688) dX7_copy_113 ?_
  refine lv_iload_n hx hb dX7_copy_116 rfl (lv_at hl 1 rfl) ?_
  refine lv_sipush (v := 200) hx hb dX7_copy_117 is_200 ?_
  refine lv_iadd hx hb dX7_copy_120 ?_
  refine lv_aload_n hx hb dX7_copy_121 rfl (lv_at hl 0 rfl) ?_
  obtain ⟨v5, ev5, hf⟩ := rx_vvI hf
  refine rx_geti cx hw (fiY_0_20 ad cI cL) rfl (inT_X7) (Nat.le_of_ble_eq_true rfl) (.tail _ tw_681) ev5 dX7_copy_122 ?_
  obtain ⟨hM6, M6, eM6, hf⟩ := rx_svI hf
  refine rx_iast cx hw (arY_16 ad cI cL) ⟨hM6, eM6⟩ dX7_copy_125 (fun H locs hw => ?_)
  refine lv_aload_n hx hb dX7_copy_126 rfl (lv_at hl 0 rfl) ?_
  refine rx_getr cx hw (frY_0_27 ad cI cL) rfl (inT_X7) (Nat.le_of_ble_eq_true rfl) (.tail _ tw_688) dX7_copy_127 ?_
  refine lv_iload_n hx hb dX7_copy_130 rfl (lv_at hl 1 rfl) ?_
  refine lv_sipush (v := 201) hx hb dX7_copy_131 is_201 ?_
  refine lv_iadd hx hb dX7_copy_134 ?_
  refine lv_aload_n hx hb dX7_copy_135 rfl (lv_at hl 0 rfl) ?_
  obtain ⟨v7, ev7, hf⟩ := rx_vvI hf
  refine rx_geti cx hw (fiY_0_21 ad cI cL) rfl (inT_X7) (Nat.le_of_ble_eq_true rfl) (.tail _ tw_682) ev7 dX7_copy_136 ?_
  obtain ⟨hM8, M8, eM8, hf⟩ := rx_svI hf
  refine rx_iast cx hw (arY_16 ad cI cL) ⟨hM8, eM8⟩ dX7_copy_139 (fun H locs hw => ?_)
  refine lv_aload_n hx hb dX7_copy_140 rfl (lv_at hl 0 rfl) ?_
  refine rx_getr cx hw (frY_0_27 ad cI cL) rfl (inT_X7) (Nat.le_of_ble_eq_true rfl) (.tail _ tw_688) dX7_copy_141 ?_
  refine lv_iload_n hx hb dX7_copy_144 rfl (lv_at hl 1 rfl) ?_
  refine lv_sipush (v := 202) hx hb dX7_copy_145 is_202 ?_
  refine lv_iadd hx hb dX7_copy_148 ?_
  refine lv_aload_n hx hb dX7_copy_149 rfl (lv_at hl 0 rfl) ?_
  obtain ⟨v9, ev9, hf⟩ := rx_vvI hf
  refine rx_geti cx hw (fiY_0_22 ad cI cL) rfl (inT_X7) (Nat.le_of_ble_eq_true rfl) (.tail _ tw_683) ev9 dX7_copy_150 ?_
  refine lv_if_eq hx hb dX7_copy_153 rfl (fun hc => ?_) (fun hc => ?_)
  · have hf := rx_t hc hf
    refine lv_iconst (v := 0) hx hb dX7_copy_160 ic_0 ?_
    exact (qk_X7_copy_161 cx hret) hw hl hf
  · have hf := rx_f hc hf
    refine lv_iconst (v := 1) hx hb dX7_copy_156 ic_1 ?_
    refine lv_goto hx hb dX7_copy_157 rfl ?_
    exact (qk_X7_copy_161 cx hret) hw hl hf
set_option maxRecDepth 100000 in
set_option maxHeartbeats 4000000 in
theorem qk_X7_copy_35 (cx : rx_C p m c cX7_copy 4 s args wX7_copy RX7 D vwCl (tY cI cL) [] wN A) (hret : rx_RV p l e rm_X7_copy s m args below meth c cX7_copy D vwCl (wY ad cI cL) A Q o) {w2 : Int32} {ls : Array Slot} {H : Heap} {locs : List Loc} {M : Me} (hw : rx_W D vwCl (wY ad cI cL) A s.heap M H locs) (hl : lv_has ls 4 [(0, .ref ((ad 0))), (2, .int w2)]) (hf : qb_X7_copy_35 w2 M = some o) : W p l e rm_X7_copy s m args below meth c H locs 0 0 Q (F0 m 35 ls []) := by
  have hx := cx.1.1
  have hb := cx.1.2.1
  refine lv_iconst (v := 0) hx hb dX7_copy_35 ic_0 ?_
  refine lv_istore_n (lv' := [(3, .int 0), (0, .ref ((ad 0))), (2, .int w2)]) hx hb dX7_copy_36 rfl hl (Nat.le_of_ble_eq_true rfl) rfl (fun ls hl => ?_)
  exact (qk_X7_copy_37 cx hret (qk_X7_copy_84 cx hret) rx_FU) hw (lv_sub hl [1, 2, 0] rfl) hf
set_option maxRecDepth 100000 in
set_option maxHeartbeats 4000000 in
theorem qk_X7_copy_0 (cx : rx_C p m c cX7_copy 4 s args wX7_copy RX7 D vwCl (tY cI cL) [] wN A) (hret : rx_RV p l e rm_X7_copy s m args below meth c cX7_copy D vwCl (wY ad cI cL) A Q o) {w1 : Int32} {ls : Array Slot} {H : Heap} {locs : List Loc} {M : Me} (hw : rx_W D vwCl (wY ad cI cL) A s.heap M H locs) (hl : lv_has ls 4 [(0, .ref ((ad 0))), (1, .int w1)]) (hf : qf_X7_copy w1 M = some o) : W p l e rm_X7_copy s m args below meth c H locs 0 0 Q (F0 m 0 ls []) := by
  have hx := cx.1.1
  have hb := cx.1.2.1
  refine lv_sipush (v := 210) hx hb dX7_copy_0 is_210 ?_
  refine lv_iload_n hx hb dX7_copy_3 rfl (lv_at hl 1 rfl) ?_
  refine lv_imul hx hb dX7_copy_4 ?_
  obtain ⟨v1, ev1, hf⟩ := rx_vvI hf
  refine rx_top ev1 ?_
  refine lv_istore_n (lv' := [(2, .int v1), (0, .ref ((ad 0))), (1, .int w1)]) hx hb dX7_copy_5 rfl hl (Nat.le_of_ble_eq_true rfl) rfl (fun ls hl => ?_)
  refine lv_iconst (v := 0) hx hb dX7_copy_6 ic_0 ?_
  refine lv_istore_n (lv' := [(3, .int 0), (2, .int v1), (0, .ref ((ad 0))), (1, .int w1)]) hx hb dX7_copy_7 rfl hl (Nat.le_of_ble_eq_true rfl) rfl (fun ls hl => ?_)
  exact (qk_X7_copy_8 cx hret (qk_X7_copy_35 cx hret) rx_FU) hw (lv_sub hl [2, 1, 0] rfl) hf
end
set_option maxRecDepth 100000 in
theorem qc_X7_copy (l : Launch) (D : va_G) (ad : Nat → Nat) (cI cL : ClassId) (w1 : Int32) : rx_MV l yX7_copy wX7_copy rm_X7_copy D vwCl (wY ad cI cL) (tY cI cL) [] wN [.ref (ad 0), .int w1] (fun M => qf_X7_copy w1 M) :=
  rx_ofV (by decide) rfl wN_ok (Nat.le_of_ble_eq_true rfl) (fun _ _ _ _ _ _ _ _ _ _ _ _ _ cx hret hw hl hf => qk_X7_copy_0 cx hret hw hl hf)
def rm_X7_reply : Room := { frames := 8, cells := 0, slots := 0, locals := 185 }
noncomputable def qo_X7_reply_175 (k201 : Me → Op) (w1 : Int32) (w2 : Int32) (w3 : Int32) (w4 : Int32) (w5 : Int32) (w6 : Int32) (rec : Int32 → Me → Op) (w8 : Int32) (M : Me) : Op :=
  if 3 ≤ w8 then (k201 M) else (rx_ld M 17 3 w8 fun v1 => rx_sv M 18 3 w8 v1 fun M2 => rx_vv (w8 + 1) fun v3 => rec v3 M2)
noncomputable def qb_X7_reply_201 (k67 : Int32 → Int32 → Me → Op) (w1 : Int32) (w2 : Int32) (w3 : Int32) (w4 : Int32) (w5 : Int32) (w6 : Int32)  (M : Me) : Op :=
  rx_cl (qf_X7_restore 1 M) fun r1 M2 => rx_vv (w6 + 1) fun v3 => k67 w3 v3 M2
noncomputable def qb_X7_reply_127 (k67 : Int32 → Int32 → Me → Op) (w1 : Int32) (w2 : Int32) (w3 : Int32) (w4 : Int32) (w5 : Int32) (w6 : Int32)  (M : Me) : Op :=
  rx_cl (qf_X7_put w6 M) fun r1 M2 => rx_vv (M2 0 30) fun v3 => rx_vv (rx_st M2 0 30 (v3 + 1)) fun M4 => rx_cl (qf_X7_count M4) fun r5 M6 => rx_cl (qf_X7_ahead_0_17 w2 M6) fun r7 M8 => if r7 ≤ w3 then (qb_X7_reply_201 k67 w1 w2 w3 w4 w5 w6 M8) else (rx_cl (qf_X7_ahead_0_17 w2 M8) fun r9 M10 => rx_lp1 (qo_X7_reply_175 (fun M => qb_X7_reply_201 k67 w1 w2 r9 w4 w5 w6 M) w1 w2 r9 w4 w5 w6) rx_FU 0 M10)
noncomputable def qo_X7_reply_67 (k212 : Int32 → Me → Op) (w1 : Int32) (w2 : Int32) (w4 : Int32) (w5 : Int32) (rec : Int32 → Int32 → Me → Op) (w3 : Int32) (w6 : Int32) (M : Me) : Op :=
  if 8 ≤ w6 then (k212 w3 M) else (if w5 = 0 then (k212 w3 M) else (rx_vv (M 0 30) fun v1 => if w1 < v1 then (k212 w3 M) else (rx_cl (qf_X7_lay (((w4 / 4) - (w4 / 4) / 19 * 19) - 9) ((w4 / 76) - 9) (w4 - w4 / 4 * 4) M) fun r2 M3 => if w6 < 0 then (qb_X7_reply_127 rec w1 w2 w3 w4 w5 w6 M3) else (rx_cl (qf_X7_mayFollow w6 M3) fun r4 M5 => if r4 = 0 then (qb_X7_reply_201 rec w1 w2 w3 w4 w5 w6 M5) else (qb_X7_reply_127 rec w1 w2 w3 w4 w5 w6 M5)))))
noncomputable def qb_X7_reply_212 (k16 : Int32 → Int32 → Me → Op) (w1 : Int32) (w2 : Int32) (w3 : Int32) (w4 : Int32)  (M : Me) : Op :=
  rx_vv (w4 + 1) fun v1 => k16 w3 v1 M
noncomputable def qo_X7_reply_16 (k218 : Me → Op) (w1 : Int32) (w2 : Int32) (rec : Int32 → Int32 → Me → Op) (w3 : Int32) (w4 : Int32) (M : Me) : Op :=
  if 1444 ≤ w4 then (k218 M) else (rx_vv (M 0 30) fun v1 => if w1 < v1 then (k218 M) else (rx_vv (M 0 20) fun v2 => rx_cl (qf_X7_fitsAt v2 (((w4 / 4) - (w4 / 4) / 19 * 19) - 9) ((w4 / 76) - 9) (w4 - w4 / 4 * 4) M) fun r3 M4 => rx_lp2 (qo_X7_reply_67 (fun a3 M => qb_X7_reply_212 rec w1 w2 a3 w4 M) w1 w2 w4 r3) rx_FU w3 (-1) M4))
noncomputable def qo_X7_reply_221   (rec : Int32 → Me → Op) (w4 : Int32) (M : Me) : Op :=
  if 3 ≤ w4 then (some (0, M)) else (rx_ld M 18 3 w4 fun v1 => rx_sv M 17 3 w4 v1 fun M2 => rx_vv (w4 + 1) fun v3 => rec v3 M2)
noncomputable def qb_X7_reply_218    (M : Me) : Op :=
  rx_lp1 (qo_X7_reply_221) rx_FU 0 M
noncomputable def qf_X7_reply  (w1 : Int32)  (M : Me) : Op :=
  rx_vv (M 0 18) fun v1 => rx_cl (qf_X7_copy 1 M) fun r2 M3 => rx_lp2 (qo_X7_reply_16 (fun M => qb_X7_reply_218 M) w1 v1) rx_FU (-100000) 0 M3
section
variable {p : Program} {l : Launch} {e : Env} {s : State} {m : MethodId} {args : Array Value} {below : List Frame} {meth : Method} {c : Code} {Q : State → Prop} {D : va_G} {A : Nat → Prop} {o : Int32 × Me} {ad : Nat → Nat} {cI cL : ClassId} {b1 b2 : Nat}
set_option maxRecDepth 100000 in
set_option maxHeartbeats 4000000 in
theorem qk_X7_reply_175 (cx : rx_C p m c cX7_reply 9 s args wX7_reply RX7 D vwCl (tY cI cL) [] wN A) (hret : rx_RV p l e rm_X7_reply s m args below meth c cX7_reply D vwCl (wY ad cI cL) A Q o) {w1 : Int32} {w2 : Int32} {w3 : Int32} {w4 : Int32} {w5 : Int32} {w6 : Int32} {k201 : Me → Op} (h201 : ∀ {ls : Array Slot} {H : Heap} {locs : List Loc} {M : Me}, rx_W D vwCl (wY ad cI cL) A s.heap M H locs → lv_has ls 9 [(0, .ref ((ad 0))), (1, .int w1), (2, .int w2), (3, .int w3), (4, .int w4), (5, .int w5), (6, .int w6)] → k201 M = some o → W p l e rm_X7_reply s m args below meth c H locs 0 0 Q (F0 m 201 ls [])) : ∀ (n : Nat) {w8 : Int32} {ls : Array Slot} {H : Heap} {locs : List Loc} {M : Me}, rx_W D vwCl (wY ad cI cL) A s.heap M H locs → lv_has ls 9 [(0, .ref ((ad 0))), (1, .int w1), (2, .int w2), (3, .int w3), (4, .int w4), (5, .int w5), (6, .int w6), (8, .int w8)] → rx_lp1 (qo_X7_reply_175 k201 w1 w2 w3 w4 w5 w6) n w8 M = some o → W p l e rm_X7_reply s m args below meth c H locs 0 0 Q (F0 m 175 ls []) := by
  have hx := cx.1.1
  have hb := cx.1.2.1
  intro n
  induction n with
  | zero => intro w8 ls H locs M hw hl hf; exact rx_no hf
  | succ n ih =>
    intro w8 ls H locs M hw hl hf
    have hf : qo_X7_reply_175 k201 w1 w2 w3 w4 w5 w6 (rx_lp1 (qo_X7_reply_175 k201 w1 w2 w3 w4 w5 w6) n) w8 M = some o := hf
    refine lv_iload hx hb dX7_reply_175 (lv_at hl 7 rfl) ?_
    refine lv_iconst (v := 3) hx hb dX7_reply_177 ic_3 ?_
    refine lv_icmp_ge hx hb dX7_reply_178 rfl (fun hc => ?_) (fun hc => ?_)
    · have hf := rx_t hc hf
      exact h201 hw (lv_sub hl [0, 1, 2, 3, 4, 5, 6] rfl) hf
    · have hf := rx_f hc hf
      refine lv_aload_n hx hb dX7_reply_181 rfl (lv_at hl 0 rfl) ?_
      refine rx_getr cx hw (frY_0_29 ad cI cL) rfl (inT_X7) (Nat.le_of_ble_eq_true rfl) (.tail _ tw_690) dX7_reply_182 ?_
      refine lv_iload hx hb dX7_reply_185 (lv_at hl 7 rfl) ?_
      refine lv_aload_n hx hb dX7_reply_187 rfl (lv_at hl 0 rfl) ?_
      refine rx_getr cx hw (frY_0_28 ad cI cL) rfl (inT_X7) (Nat.le_of_ble_eq_true rfl) (.tail _ tw_689) dX7_reply_188 ?_
      refine lv_iload hx hb dX7_reply_191 (lv_at hl 7 rfl) ?_
      obtain ⟨hv1, v1, ev1, hf⟩ := rx_ldI hf
      refine rx_iald cx hw (arY_17 ad cI cL) ⟨hv1, ev1⟩ dX7_reply_193 ?_
      obtain ⟨hM2, M2, eM2, hf⟩ := rx_svI hf
      refine rx_iast cx hw (arY_18 ad cI cL) ⟨hM2, eM2⟩ dX7_reply_194 (fun H locs hw => ?_)
      obtain ⟨v3, ev3, hf⟩ := rx_vvI hf
      refine lv_iinc (lv' := [(8, .int v3), (0, .ref ((ad 0))), (1, .int w1), (2, .int w2), (3, .int w3), (4, .int w4), (5, .int w5), (6, .int w6)]) hx hb dX7_reply_195 hl (k := 7) rfl (rx_inc ic_1 ev3) (Nat.le_of_ble_eq_true rfl) rfl (fun ls hl => ?_)
      refine lv_goto hx hb dX7_reply_198 rfl ?_
      exact ih hw (lv_sub hl [1, 2, 3, 4, 5, 6, 7, 0] rfl) hf
set_option maxRecDepth 100000 in
set_option maxHeartbeats 4000000 in
theorem qk_X7_reply_201 (cx : rx_C p m c cX7_reply 9 s args wX7_reply RX7 D vwCl (tY cI cL) [] wN A) (hret : rx_RV p l e rm_X7_reply s m args below meth c cX7_reply D vwCl (wY ad cI cL) A Q o) {w1 : Int32} {w2 : Int32} {w3 : Int32} {w4 : Int32} {w5 : Int32} {w6 : Int32} {k67 : Int32 → Int32 → Me → Op} (h67 : ∀ {a3 : Int32} {a6 : Int32} {ls : Array Slot} {H : Heap} {locs : List Loc} {M : Me}, rx_W D vwCl (wY ad cI cL) A s.heap M H locs → lv_has ls 9 [(0, .ref ((ad 0))), (1, .int w1), (2, .int w2), (3, .int a3), (4, .int w4), (5, .int w5), (6, .int a6)] → k67 a3 a6 M = some o → W p l e rm_X7_reply s m args below meth c H locs 0 0 Q (F0 m 67 ls [])) {ls : Array Slot} {H : Heap} {locs : List Loc} {M : Me} (hw : rx_W D vwCl (wY ad cI cL) A s.heap M H locs) (hl : lv_has ls 9 [(0, .ref ((ad 0))), (1, .int w1), (2, .int w2), (3, .int w3), (4, .int w4), (5, .int w5), (6, .int w6)]) (hf : qb_X7_reply_201 k67 w1 w2 w3 w4 w5 w6 M = some o) : W p l e rm_X7_reply s m args below meth c H locs 0 0 Q (F0 m 201 ls []) := by
  have hx := cx.1.1
  have hb := cx.1.2.1
  refine lv_aload_n hx hb dX7_reply_201 rfl (lv_at hl 0 rfl) ?_
  refine lv_iconst (v := 1) hx hb dX7_reply_202 ic_1 ?_
  obtain ⟨r1, M2, er1, hf⟩ := rx_clI hf
  refine rx_jVv cx hw (qc_X7_restore l D ad cI cL 1) (obY_0 ad cI cL) rfl rfl kfX7_restore tw_966 ⟨Nat.le_of_ble_eq_true rfl, Nat.le_of_ble_eq_true rfl, rfl, rfl⟩ rfl hl.1 (Nat.le_of_ble_eq_true rfl) ⟨Nat.zero_le _, Nat.zero_le _⟩ dX7_reply_203 rfl er1 (fun H locs hw => ?_)
  obtain ⟨v3, ev3, hf⟩ := rx_vvI hf
  refine lv_iinc (lv' := [(6, .int v3), (0, .ref ((ad 0))), (1, .int w1), (2, .int w2), (3, .int w3), (4, .int w4), (5, .int w5)]) hx hb dX7_reply_206 hl (k := 6) rfl (rx_inc ic_1 ev3) (Nat.le_of_ble_eq_true rfl) rfl (fun ls hl => ?_)
  refine lv_goto hx hb dX7_reply_209 rfl ?_
  exact h67 hw (lv_sub hl [1, 2, 3, 4, 5, 6, 0] rfl) hf
set_option maxRecDepth 100000 in
set_option maxHeartbeats 4000000 in
theorem qk_X7_reply_127 (cx : rx_C p m c cX7_reply 9 s args wX7_reply RX7 D vwCl (tY cI cL) [] wN A) (hret : rx_RV p l e rm_X7_reply s m args below meth c cX7_reply D vwCl (wY ad cI cL) A Q o) {w1 : Int32} {w2 : Int32} {w3 : Int32} {w4 : Int32} {w5 : Int32} {w6 : Int32} {k67 : Int32 → Int32 → Me → Op} (h67 : ∀ {a3 : Int32} {a6 : Int32} {ls : Array Slot} {H : Heap} {locs : List Loc} {M : Me}, rx_W D vwCl (wY ad cI cL) A s.heap M H locs → lv_has ls 9 [(0, .ref ((ad 0))), (1, .int w1), (2, .int w2), (3, .int a3), (4, .int w4), (5, .int w5), (6, .int a6)] → k67 a3 a6 M = some o → W p l e rm_X7_reply s m args below meth c H locs 0 0 Q (F0 m 67 ls [])) {ls : Array Slot} {H : Heap} {locs : List Loc} {M : Me} (hw : rx_W D vwCl (wY ad cI cL) A s.heap M H locs) (hl : lv_has ls 9 [(0, .ref ((ad 0))), (1, .int w1), (2, .int w2), (3, .int w3), (4, .int w4), (5, .int w5), (6, .int w6)]) (hf : qb_X7_reply_127 k67 w1 w2 w3 w4 w5 w6 M = some o) : W p l e rm_X7_reply s m args below meth c H locs 0 0 Q (F0 m 127 ls []) := by
  have hx := cx.1.1
  have hb := cx.1.2.1
  refine lv_aload_n hx hb dX7_reply_127 rfl (lv_at hl 0 rfl) ?_
  refine lv_iload hx hb dX7_reply_128 (lv_at hl 6 rfl) ?_
  obtain ⟨r1, M2, er1, hf⟩ := rx_clI hf
  refine rx_jVi cx hw (qc_X7_put l D ad cI cL w6) (obY_0 ad cI cL) rfl rfl kfX7_put tw_885 ⟨Nat.le_of_ble_eq_true rfl, Nat.le_of_ble_eq_true rfl, rfl, rfl⟩ rfl hl.1 (Nat.le_of_ble_eq_true rfl) ⟨Nat.zero_le _, Nat.zero_le _⟩ dX7_reply_130 rfl er1 (fun H locs hw => ?_)
  refine lv_istore (lv' := [(7, .int r1), (0, .ref ((ad 0))), (1, .int w1), (2, .int w2), (3, .int w3), (4, .int w4), (5, .int w5), (6, .int w6)]) hx hb dX7_reply_133 hl (Nat.le_of_ble_eq_true rfl) rfl (fun ls hl => ?_)
  refine lv_aload_n hx hb dX7_reply_135 rfl (lv_at hl 1 rfl) ?_
  refine lv_dup hx hb dX7_reply_136 rfl ?_
  obtain ⟨v3, ev3, hf⟩ := rx_vvI hf
  refine rx_geti cx hw (fiY_0_30 ad cI cL) rfl (inT_X7) (Nat.le_of_ble_eq_true rfl) (.tail _ tw_691) ev3 dX7_reply_137 ?_
  refine lv_iconst (v := 1) hx hb dX7_reply_140 ic_1 ?_
  refine lv_iadd hx hb dX7_reply_141 ?_
  obtain ⟨M4, eM4, hf⟩ := rx_vvI hf
  refine rx_puti cx hw (fiY_0_30 ad cI cL) rfl (inT_X7) tyX7 tyX7_ok nmX7 (Nat.le_of_ble_eq_true rfl) (.tail _ tw_691) rfl rfl rfl eM4 dX7_reply_142 (fun H locs hw => ?_)
  refine lv_aload_n hx hb dX7_reply_145 rfl (lv_at hl 1 rfl) ?_
  obtain ⟨r5, M6, er5, hf⟩ := rx_clI hf
  refine rx_jVv cx hw (qc_X7_count l D ad cI cL) (obY_0 ad cI cL) rfl rfl kfX7_count tw_937 ⟨Nat.le_of_ble_eq_true rfl, Nat.le_of_ble_eq_true rfl, rfl, rfl⟩ rfl hl.1 (Nat.le_of_ble_eq_true rfl) ⟨Nat.zero_le _, Nat.zero_le _⟩ dX7_reply_146 rfl er5 (fun H locs hw => ?_)
  refine lv_aload_n hx hb dX7_reply_149 rfl (lv_at hl 1 rfl) ?_
  refine lv_aload_n hx hb dX7_reply_150 rfl (lv_at hl 1 rfl) ?_
  refine rx_getr cx hw (frY_0_28 ad cI cL) rfl (inT_X7) (Nat.le_of_ble_eq_true rfl) (.tail _ tw_689) dX7_reply_151 ?_
  refine lv_iload_n hx hb dX7_reply_154 rfl (lv_at hl 3 rfl) ?_
  obtain ⟨r7, M8, er7, hf⟩ := rx_clI hf
  refine rx_jVi cx hw (qc_X7_ahead_0_17 l D ad cI cL w2) (obY_0 ad cI cL) rfl rfl kfX7_ahead tw_962 ⟨Nat.le_of_ble_eq_true rfl, Nat.le_of_ble_eq_true rfl, rfl, rfl⟩ rfl hl.1 (Nat.le_of_ble_eq_true rfl) ⟨Nat.zero_le _, Nat.zero_le _⟩ dX7_reply_155 rfl er7 (fun H locs hw => ?_)
  refine lv_iload_n hx hb dX7_reply_158 rfl (lv_at hl 4 rfl) ?_
  refine lv_icmp_le hx hb dX7_reply_159 rfl (fun hc => ?_) (fun hc => ?_)
  · have hf := rx_t hc hf
    exact (qk_X7_reply_201 cx hret h67) hw (lv_sub hl [1, 2, 3, 4, 5, 6, 7] rfl) hf
  · have hf := rx_f hc hf
    refine lv_aload_n hx hb dX7_reply_162 rfl (lv_at hl 1 rfl) ?_
    refine lv_aload_n hx hb dX7_reply_163 rfl (lv_at hl 1 rfl) ?_
    refine rx_getr cx hw (frY_0_28 ad cI cL) rfl (inT_X7) (Nat.le_of_ble_eq_true rfl) (.tail _ tw_689) dX7_reply_164 ?_
    refine lv_iload_n hx hb dX7_reply_167 rfl (lv_at hl 3 rfl) ?_
    obtain ⟨r9, M10, er9, hf⟩ := rx_clI hf
    refine rx_jVi cx hw (qc_X7_ahead_0_17 l D ad cI cL w2) (obY_0 ad cI cL) rfl rfl kfX7_ahead tw_962 ⟨Nat.le_of_ble_eq_true rfl, Nat.le_of_ble_eq_true rfl, rfl, rfl⟩ rfl hl.1 (Nat.le_of_ble_eq_true rfl) ⟨Nat.zero_le _, Nat.zero_le _⟩ dX7_reply_168 rfl er9 (fun H locs hw => ?_)
    refine lv_istore_n (lv' := [(3, .int r9), (7, .int r1), (0, .ref ((ad 0))), (1, .int w1), (2, .int w2), (4, .int w4), (5, .int w5), (6, .int w6)]) hx hb dX7_reply_171 rfl hl (Nat.le_of_ble_eq_true rfl) rfl (fun ls hl => ?_)
    refine lv_iconst (v := 0) hx hb dX7_reply_172 ic_0 ?_
    refine lv_istore (lv' := [(8, .int 0), (3, .int r9), (7, .int r1), (0, .ref ((ad 0))), (1, .int w1), (2, .int w2), (4, .int w4), (5, .int w5), (6, .int w6)]) hx hb dX7_reply_173 hl (Nat.le_of_ble_eq_true rfl) rfl (fun ls hl => ?_)
    exact (qk_X7_reply_175 cx hret (qk_X7_reply_201 cx hret h67) rx_FU) hw (lv_sub hl [3, 4, 5, 1, 6, 7, 8, 0] rfl) hf
set_option maxRecDepth 100000 in
set_option maxHeartbeats 4000000 in
theorem qk_X7_reply_67 (cx : rx_C p m c cX7_reply 9 s args wX7_reply RX7 D vwCl (tY cI cL) [] wN A) (hret : rx_RV p l e rm_X7_reply s m args below meth c cX7_reply D vwCl (wY ad cI cL) A Q o) {w1 : Int32} {w2 : Int32} {w4 : Int32} {w5 : Int32} {k212 : Int32 → Me → Op} (h212 : ∀ {a3 : Int32} {ls : Array Slot} {H : Heap} {locs : List Loc} {M : Me}, rx_W D vwCl (wY ad cI cL) A s.heap M H locs → lv_has ls 9 [(0, .ref ((ad 0))), (1, .int w1), (2, .int w2), (3, .int a3), (4, .int w4)] → k212 a3 M = some o → W p l e rm_X7_reply s m args below meth c H locs 0 0 Q (F0 m 212 ls [])) : ∀ (n : Nat) {w3 : Int32} {w6 : Int32} {ls : Array Slot} {H : Heap} {locs : List Loc} {M : Me}, rx_W D vwCl (wY ad cI cL) A s.heap M H locs → lv_has ls 9 [(0, .ref ((ad 0))), (1, .int w1), (2, .int w2), (3, .int w3), (4, .int w4), (5, .int w5), (6, .int w6)] → rx_lp2 (qo_X7_reply_67 k212 w1 w2 w4 w5) n w3 w6 M = some o → W p l e rm_X7_reply s m args below meth c H locs 0 0 Q (F0 m 67 ls []) := by
  have hx := cx.1.1
  have hb := cx.1.2.1
  intro n
  induction n with
  | zero => intro w3 w6 ls H locs M hw hl hf; exact rx_no hf
  | succ n ih =>
    intro w3 w6 ls H locs M hw hl hf
    have hf : qo_X7_reply_67 k212 w1 w2 w4 w5 (rx_lp2 (qo_X7_reply_67 k212 w1 w2 w4 w5) n) w3 w6 M = some o := hf
    refine lv_iload hx hb dX7_reply_67 (lv_at hl 6 rfl) ?_
    refine lv_bipush (v := 8) hx hb dX7_reply_69 ib_8 ?_
    refine lv_icmp_ge hx hb dX7_reply_71 rfl (fun hc => ?_) (fun hc => ?_)
    · have hf := rx_t hc hf
      exact h212 hw (lv_sub hl [0, 1, 2, 3, 4] rfl) hf
    · have hf := rx_f hc hf
      refine lv_iload hx hb dX7_reply_74 (lv_at hl 5 rfl) ?_
      refine lv_if_eq hx hb dX7_reply_76 rfl (fun hc => ?_) (fun hc => ?_)
      · have hf := rx_t hc hf
        exact h212 hw (lv_sub hl [0, 1, 2, 3, 4] rfl) hf
      · have hf := rx_f hc hf
        refine lv_aload_n hx hb dX7_reply_79 rfl (lv_at hl 0 rfl) ?_
        obtain ⟨v1, ev1, hf⟩ := rx_vvI hf
        refine rx_geti cx hw (fiY_0_30 ad cI cL) rfl (inT_X7) (Nat.le_of_ble_eq_true rfl) (.tail _ tw_691) ev1 dX7_reply_80 ?_
        refine lv_iload_n hx hb dX7_reply_83 rfl (lv_at hl 1 rfl) ?_
        refine lv_icmp_gt hx hb dX7_reply_84 rfl (fun hc => ?_) (fun hc => ?_)
        · have hf := rx_t hc hf
          exact h212 hw (lv_sub hl [0, 1, 2, 3, 4] rfl) hf
        · have hf := rx_f hc hf
          refine lv_aload_n hx hb dX7_reply_87 rfl (lv_at hl 0 rfl) ?_
          refine lv_iload hx hb dX7_reply_88 (lv_at hl 4 rfl) ?_
          refine lv_iconst (v := 4) hx hb dX7_reply_90 ic_4 ?_
          refine lv_idiv hx hb dX7_reply_91 nz_4 ?_
          refine lv_bipush (v := 19) hx hb dX7_reply_92 ib_19 ?_
          refine lv_irem hx hb dX7_reply_94 nz_19 ?_
          refine lv_bipush (v := 9) hx hb dX7_reply_95 ib_9 ?_
          refine lv_isub hx hb dX7_reply_97 ?_
          refine lv_iload hx hb dX7_reply_98 (lv_at hl 4 rfl) ?_
          refine lv_bipush (v := 76) hx hb dX7_reply_100 ib_76 ?_
          refine lv_idiv hx hb dX7_reply_102 nz_76 ?_
          refine lv_bipush (v := 9) hx hb dX7_reply_103 ib_9 ?_
          refine lv_isub hx hb dX7_reply_105 ?_
          refine lv_iload hx hb dX7_reply_106 (lv_at hl 4 rfl) ?_
          refine lv_iconst (v := 4) hx hb dX7_reply_108 ic_4 ?_
          refine lv_irem hx hb dX7_reply_109 nz_4 ?_
          obtain ⟨r2, M3, er2, hf⟩ := rx_clI hf
          refine rx_jVv cx hw (qc_X7_lay l D ad cI cL (((w4 / 4) - (w4 / 4) / 19 * 19) - 9) ((w4 / 76) - 9) (w4 - w4 / 4 * 4)) (obY_0 ad cI cL) rfl rfl kfX7_lay tw_857 ⟨Nat.le_of_ble_eq_true rfl, Nat.le_of_ble_eq_true rfl, rfl, rfl⟩ rfl hl.1 (Nat.le_of_ble_eq_true rfl) ⟨Nat.zero_le _, Nat.zero_le _⟩ dX7_reply_110 rfl er2 (fun H locs hw => ?_)
          refine lv_iload hx hb dX7_reply_113 (lv_at hl 6 rfl) ?_
          refine lv_if_lt hx hb dX7_reply_115 rfl (fun hc => ?_) (fun hc => ?_)
          · have hf := rx_t hc hf
            exact (qk_X7_reply_127 cx hret ih) hw hl hf
          · have hf := rx_f hc hf
            refine lv_aload_n hx hb dX7_reply_118 rfl (lv_at hl 0 rfl) ?_
            refine lv_iload hx hb dX7_reply_119 (lv_at hl 6 rfl) ?_
            obtain ⟨r4, M5, er4, hf⟩ := rx_clI hf
            refine rx_jVi cx hw (qc_X7_mayFollow l D ad cI cL w6) (obY_0 ad cI cL) rfl rfl kfX7_mayFollow tw_869 ⟨Nat.le_of_ble_eq_true rfl, Nat.le_of_ble_eq_true rfl, rfl, rfl⟩ rfl hl.1 (Nat.le_of_ble_eq_true rfl) ⟨Nat.zero_le _, Nat.zero_le _⟩ dX7_reply_121 rfl er4 (fun H locs hw => ?_)
            refine lv_if_eq hx hb dX7_reply_124 rfl (fun hc => ?_) (fun hc => ?_)
            · have hf := rx_t hc hf
              exact (qk_X7_reply_201 cx hret ih) hw hl hf
            · have hf := rx_f hc hf
              exact (qk_X7_reply_127 cx hret ih) hw hl hf
set_option maxRecDepth 100000 in
set_option maxHeartbeats 4000000 in
theorem qk_X7_reply_212 (cx : rx_C p m c cX7_reply 9 s args wX7_reply RX7 D vwCl (tY cI cL) [] wN A) (hret : rx_RV p l e rm_X7_reply s m args below meth c cX7_reply D vwCl (wY ad cI cL) A Q o) {w1 : Int32} {w2 : Int32} {w3 : Int32} {w4 : Int32} {k16 : Int32 → Int32 → Me → Op} (h16 : ∀ {a3 : Int32} {a4 : Int32} {ls : Array Slot} {H : Heap} {locs : List Loc} {M : Me}, rx_W D vwCl (wY ad cI cL) A s.heap M H locs → lv_has ls 9 [(0, .ref ((ad 0))), (1, .int w1), (2, .int w2), (3, .int a3), (4, .int a4)] → k16 a3 a4 M = some o → W p l e rm_X7_reply s m args below meth c H locs 0 0 Q (F0 m 16 ls [])) {ls : Array Slot} {H : Heap} {locs : List Loc} {M : Me} (hw : rx_W D vwCl (wY ad cI cL) A s.heap M H locs) (hl : lv_has ls 9 [(0, .ref ((ad 0))), (1, .int w1), (2, .int w2), (3, .int w3), (4, .int w4)]) (hf : qb_X7_reply_212 k16 w1 w2 w3 w4 M = some o) : W p l e rm_X7_reply s m args below meth c H locs 0 0 Q (F0 m 212 ls []) := by
  have hx := cx.1.1
  have hb := cx.1.2.1
  obtain ⟨v1, ev1, hf⟩ := rx_vvI hf
  refine lv_iinc (lv' := [(4, .int v1), (0, .ref ((ad 0))), (1, .int w1), (2, .int w2), (3, .int w3)]) hx hb dX7_reply_212 hl (k := 4) rfl (rx_inc ic_1 ev1) (Nat.le_of_ble_eq_true rfl) rfl (fun ls hl => ?_)
  refine lv_goto hx hb dX7_reply_215 rfl ?_
  exact h16 hw (lv_sub hl [1, 2, 3, 4, 0] rfl) hf
set_option maxRecDepth 100000 in
set_option maxHeartbeats 4000000 in
theorem qk_X7_reply_16 (cx : rx_C p m c cX7_reply 9 s args wX7_reply RX7 D vwCl (tY cI cL) [] wN A) (hret : rx_RV p l e rm_X7_reply s m args below meth c cX7_reply D vwCl (wY ad cI cL) A Q o) {w1 : Int32} {w2 : Int32} {k218 : Me → Op} (h218 : ∀ {ls : Array Slot} {H : Heap} {locs : List Loc} {M : Me}, rx_W D vwCl (wY ad cI cL) A s.heap M H locs → lv_has ls 9 [(0, .ref ((ad 0)))] → k218 M = some o → W p l e rm_X7_reply s m args below meth c H locs 0 0 Q (F0 m 218 ls [])) : ∀ (n : Nat) {w3 : Int32} {w4 : Int32} {ls : Array Slot} {H : Heap} {locs : List Loc} {M : Me}, rx_W D vwCl (wY ad cI cL) A s.heap M H locs → lv_has ls 9 [(0, .ref ((ad 0))), (1, .int w1), (2, .int w2), (3, .int w3), (4, .int w4)] → rx_lp2 (qo_X7_reply_16 k218 w1 w2) n w3 w4 M = some o → W p l e rm_X7_reply s m args below meth c H locs 0 0 Q (F0 m 16 ls []) := by
  have hx := cx.1.1
  have hb := cx.1.2.1
  intro n
  induction n with
  | zero => intro w3 w4 ls H locs M hw hl hf; exact rx_no hf
  | succ n ih =>
    intro w3 w4 ls H locs M hw hl hf
    have hf : qo_X7_reply_16 k218 w1 w2 (rx_lp2 (qo_X7_reply_16 k218 w1 w2) n) w3 w4 M = some o := hf
    refine lv_iload hx hb dX7_reply_16 (lv_at hl 4 rfl) ?_
    refine lv_sipush (v := 1444) hx hb dX7_reply_18 is_1444 ?_
    refine lv_icmp_ge hx hb dX7_reply_21 rfl (fun hc => ?_) (fun hc => ?_)
    · have hf := rx_t hc hf
      exact h218 hw (lv_sub hl [0] rfl) hf
    · have hf := rx_f hc hf
      refine lv_aload_n hx hb dX7_reply_24 rfl (lv_at hl 0 rfl) ?_
      obtain ⟨v1, ev1, hf⟩ := rx_vvI hf
      refine rx_geti cx hw (fiY_0_30 ad cI cL) rfl (inT_X7) (Nat.le_of_ble_eq_true rfl) (.tail _ tw_691) ev1 dX7_reply_25 ?_
      refine lv_iload_n hx hb dX7_reply_28 rfl (lv_at hl 1 rfl) ?_
      refine lv_icmp_gt hx hb dX7_reply_29 rfl (fun hc => ?_) (fun hc => ?_)
      · have hf := rx_t hc hf
        exact h218 hw (lv_sub hl [0] rfl) hf
      · have hf := rx_f hc hf
        refine lv_aload_n hx hb dX7_reply_32 rfl (lv_at hl 0 rfl) ?_
        refine lv_aload_n hx hb dX7_reply_33 rfl (lv_at hl 0 rfl) ?_
        obtain ⟨v2, ev2, hf⟩ := rx_vvI hf
        refine rx_geti cx hw (fiY_0_20 ad cI cL) rfl (inT_X7) (Nat.le_of_ble_eq_true rfl) (.tail _ tw_681) ev2 dX7_reply_34 ?_
        refine lv_iload hx hb dX7_reply_37 (lv_at hl 4 rfl) ?_
        refine lv_iconst (v := 4) hx hb dX7_reply_39 ic_4 ?_
        refine lv_idiv hx hb dX7_reply_40 nz_4 ?_
        refine lv_bipush (v := 19) hx hb dX7_reply_41 ib_19 ?_
        refine lv_irem hx hb dX7_reply_43 nz_19 ?_
        refine lv_bipush (v := 9) hx hb dX7_reply_44 ib_9 ?_
        refine lv_isub hx hb dX7_reply_46 ?_
        refine lv_iload hx hb dX7_reply_47 (lv_at hl 4 rfl) ?_
        refine lv_bipush (v := 76) hx hb dX7_reply_49 ib_76 ?_
        refine lv_idiv hx hb dX7_reply_51 nz_76 ?_
        refine lv_bipush (v := 9) hx hb dX7_reply_52 ib_9 ?_
        refine lv_isub hx hb dX7_reply_54 ?_
        refine lv_iload hx hb dX7_reply_55 (lv_at hl 4 rfl) ?_
        refine lv_iconst (v := 4) hx hb dX7_reply_57 ic_4 ?_
        refine lv_irem hx hb dX7_reply_58 nz_4 ?_
        obtain ⟨r3, M4, er3, hf⟩ := rx_clI hf
        refine rx_jVi cx hw (qc_X7_fitsAt l D ad cI cL v2 (((w4 / 4) - (w4 / 4) / 19 * 19) - 9) ((w4 / 76) - 9) (w4 - w4 / 4 * 4)) (obY_0 ad cI cL) rfl rfl kfX7_fitsAt tw_807 ⟨Nat.le_of_ble_eq_true rfl, Nat.le_of_ble_eq_true rfl, rfl, rfl⟩ rfl hl.1 (Nat.le_of_ble_eq_true rfl) ⟨Nat.zero_le _, Nat.zero_le _⟩ dX7_reply_59 rfl er3 (fun H locs hw => ?_)
        refine lv_istore (lv' := [(5, .int r3), (0, .ref ((ad 0))), (1, .int w1), (2, .int w2), (3, .int w3), (4, .int w4)]) hx hb dX7_reply_62 hl (Nat.le_of_ble_eq_true rfl) rfl (fun ls hl => ?_)
        refine lv_iconst (v := (-1)) hx hb dX7_reply_64 ic_m1 ?_
        refine lv_istore (lv' := [(6, .int (-1)), (5, .int r3), (0, .ref ((ad 0))), (1, .int w1), (2, .int w2), (3, .int w3), (4, .int w4)]) hx hb dX7_reply_65 hl (Nat.le_of_ble_eq_true rfl) rfl (fun ls hl => ?_)
        exact (qk_X7_reply_67 cx hret (qk_X7_reply_212 cx hret ih) rx_FU) hw (lv_sub hl [2, 3, 4, 5, 6, 1, 0] rfl) hf
set_option maxRecDepth 100000 in
set_option maxHeartbeats 4000000 in
theorem qk_X7_reply_221 (cx : rx_C p m c cX7_reply 9 s args wX7_reply RX7 D vwCl (tY cI cL) [] wN A) (hret : rx_RV p l e rm_X7_reply s m args below meth c cX7_reply D vwCl (wY ad cI cL) A Q o) : ∀ (n : Nat) {w4 : Int32} {ls : Array Slot} {H : Heap} {locs : List Loc} {M : Me}, rx_W D vwCl (wY ad cI cL) A s.heap M H locs → lv_has ls 9 [(0, .ref ((ad 0))), (4, .int w4)] → rx_lp1 (qo_X7_reply_221) n w4 M = some o → W p l e rm_X7_reply s m args below meth c H locs 0 0 Q (F0 m 221 ls []) := by
  have hx := cx.1.1
  have hb := cx.1.2.1
  intro n
  induction n with
  | zero => intro w4 ls H locs M hw hl hf; exact rx_no hf
  | succ n ih =>
    intro w4 ls H locs M hw hl hf
    have hf : qo_X7_reply_221 (rx_lp1 (qo_X7_reply_221) n) w4 M = some o := hf
    refine lv_iload hx hb dX7_reply_221 (lv_at hl 1 rfl) ?_
    refine lv_iconst (v := 3) hx hb dX7_reply_223 ic_3 ?_
    refine lv_icmp_ge hx hb dX7_reply_224 rfl (fun hc => ?_) (fun hc => ?_)
    · have hf := rx_t hc hf
      exact rx_retv hret hw hf dX7_reply_247
    · have hf := rx_f hc hf
      refine lv_aload_n hx hb dX7_reply_227 rfl (lv_at hl 0 rfl) ?_
      refine rx_getr cx hw (frY_0_28 ad cI cL) rfl (inT_X7) (Nat.le_of_ble_eq_true rfl) (.tail _ tw_689) dX7_reply_228 ?_
      refine lv_iload hx hb dX7_reply_231 (lv_at hl 1 rfl) ?_
      refine lv_aload_n hx hb dX7_reply_233 rfl (lv_at hl 0 rfl) ?_
      refine rx_getr cx hw (frY_0_29 ad cI cL) rfl (inT_X7) (Nat.le_of_ble_eq_true rfl) (.tail _ tw_690) dX7_reply_234 ?_
      refine lv_iload hx hb dX7_reply_237 (lv_at hl 1 rfl) ?_
      obtain ⟨hv1, v1, ev1, hf⟩ := rx_ldI hf
      refine rx_iald cx hw (arY_18 ad cI cL) ⟨hv1, ev1⟩ dX7_reply_239 ?_
      obtain ⟨hM2, M2, eM2, hf⟩ := rx_svI hf
      refine rx_iast cx hw (arY_17 ad cI cL) ⟨hM2, eM2⟩ dX7_reply_240 (fun H locs hw => ?_)
      obtain ⟨v3, ev3, hf⟩ := rx_vvI hf
      refine lv_iinc (lv' := [(4, .int v3), (0, .ref ((ad 0)))]) hx hb dX7_reply_241 hl (k := 1) rfl (rx_inc ic_1 ev3) (Nat.le_of_ble_eq_true rfl) rfl (fun ls hl => ?_)
      refine lv_goto hx hb dX7_reply_244 rfl ?_
      exact ih hw (lv_sub hl [1, 0] rfl) hf
set_option maxRecDepth 100000 in
set_option maxHeartbeats 4000000 in
theorem qk_X7_reply_218 (cx : rx_C p m c cX7_reply 9 s args wX7_reply RX7 D vwCl (tY cI cL) [] wN A) (hret : rx_RV p l e rm_X7_reply s m args below meth c cX7_reply D vwCl (wY ad cI cL) A Q o) {ls : Array Slot} {H : Heap} {locs : List Loc} {M : Me} (hw : rx_W D vwCl (wY ad cI cL) A s.heap M H locs) (hl : lv_has ls 9 [(0, .ref ((ad 0)))]) (hf : qb_X7_reply_218 M = some o) : W p l e rm_X7_reply s m args below meth c H locs 0 0 Q (F0 m 218 ls []) := by
  have hx := cx.1.1
  have hb := cx.1.2.1
  refine lv_iconst (v := 0) hx hb dX7_reply_218 ic_0 ?_
  refine lv_istore (lv' := [(4, .int 0), (0, .ref ((ad 0)))]) hx hb dX7_reply_219 hl (Nat.le_of_ble_eq_true rfl) rfl (fun ls hl => ?_)
  exact (qk_X7_reply_221 cx hret rx_FU) hw (lv_sub hl [1, 0] rfl) hf
set_option maxRecDepth 100000 in
set_option maxHeartbeats 4000000 in
theorem qk_X7_reply_0 (cx : rx_C p m c cX7_reply 9 s args wX7_reply RX7 D vwCl (tY cI cL) [] wN A) (hret : rx_RV p l e rm_X7_reply s m args below meth c cX7_reply D vwCl (wY ad cI cL) A Q o) {w1 : Int32} {ls : Array Slot} {H : Heap} {locs : List Loc} {M : Me} (hw : rx_W D vwCl (wY ad cI cL) A s.heap M H locs) (hl : lv_has ls 9 [(0, .ref ((ad 0))), (1, .int w1)]) (hf : qf_X7_reply w1 M = some o) : W p l e rm_X7_reply s m args below meth c H locs 0 0 Q (F0 m 0 ls []) := by
  have hx := cx.1.1
  have hb := cx.1.2.1
  refine lv_aload_n hx hb dX7_reply_0 rfl (lv_at hl 0 rfl) ?_
  obtain ⟨v1, ev1, hf⟩ := rx_vvI hf
  refine rx_geti cx hw (fiY_0_18 ad cI cL) rfl (inT_X7) (Nat.le_of_ble_eq_true rfl) (.tail _ tw_679) ev1 dX7_reply_1 ?_
  refine lv_istore_n (lv' := [(2, .int v1), (0, .ref ((ad 0))), (1, .int w1)]) hx hb dX7_reply_4 rfl hl (Nat.le_of_ble_eq_true rfl) rfl (fun ls hl => ?_)
  refine lv_ldc (v := (-100000)) hx hb cx.1.2.2.2.1 (cx.1.2.2.2.2 _ (.tail _ tw_953)) dX7_reply_5 ?_
  refine lv_istore_n (lv' := [(3, .int (-100000)), (2, .int v1), (0, .ref ((ad 0))), (1, .int w1)]) hx hb dX7_reply_7 rfl hl (Nat.le_of_ble_eq_true rfl) rfl (fun ls hl => ?_)
  refine lv_aload_n hx hb dX7_reply_8 rfl (lv_at hl 2 rfl) ?_
  refine lv_iconst (v := 1) hx hb dX7_reply_9 ic_1 ?_
  obtain ⟨r2, M3, er2, hf⟩ := rx_clI hf
  refine rx_jVv cx hw (qc_X7_copy l D ad cI cL 1) (obY_0 ad cI cL) rfl rfl kfX7_copy tw_954 ⟨Nat.le_of_ble_eq_true rfl, Nat.le_of_ble_eq_true rfl, rfl, rfl⟩ rfl hl.1 (Nat.le_of_ble_eq_true rfl) ⟨Nat.zero_le _, Nat.zero_le _⟩ dX7_reply_10 rfl er2 (fun H locs hw => ?_)
  refine lv_iconst (v := 0) hx hb dX7_reply_13 ic_0 ?_
  refine lv_istore (lv' := [(4, .int 0), (3, .int (-100000)), (2, .int v1), (0, .ref ((ad 0))), (1, .int w1)]) hx hb dX7_reply_14 hl (Nat.le_of_ble_eq_true rfl) rfl (fun ls hl => ?_)
  exact (qk_X7_reply_16 cx hret (qk_X7_reply_218 cx hret) rx_FU) hw (lv_sub hl [3, 4, 2, 1, 0] rfl) hf
end
set_option maxRecDepth 100000 in
theorem qc_X7_reply (l : Launch) (D : va_G) (ad : Nat → Nat) (cI cL : ClassId) (w1 : Int32) : rx_MV l yX7_reply wX7_reply rm_X7_reply D vwCl (wY ad cI cL) (tY cI cL) [] wN [.ref (ad 0), .int w1] (fun M => qf_X7_reply w1 M) :=
  rx_ofV (by decide) rfl wN_ok (Nat.le_of_ble_eq_true rfl) (fun _ _ _ _ _ _ _ _ _ _ _ _ _ cx hret hw hl hf => qk_X7_reply_0 cx hret hw hl hf)

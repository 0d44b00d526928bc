def rm_X7_undo : Room := { frames := 7, cells := 0, slots := 0, locals := 166 }
noncomputable def qb_X7_undo_101 (k37 : Int32 → Me → Op) (w1 : Int32)  (M : Me) : Op :=
  rx_vv (w1 + 4) fun v1 => k37 v1 M
noncomputable def qo_X7_undo_37   (rec : Int32 → Me → Op) (w1 : Int32) (M : Me) : Op :=
  rx_vv (M 0 23) fun v1 => if (4 * v1) ≤ w1 then (rx_zb 1 (some (1, M))) else (rx_ld M 14 192 w1 fun v2 => if v2 = 1 then (rx_ld M 14 192 (w1 + 1) fun v6 => rx_ld M 14 192 (w1 + 2) fun v7 => rx_ld M 14 192 (w1 + 3) fun v8 => rx_cl (qf_X7_lay v6 v7 v8 M) fun r9 M10 => qb_X7_undo_101 rec w1 M10) else (rx_ld M 14 192 (w1 + 1) fun v3 => rx_cl (qf_X7_put v3 M) fun r4 M5 => qb_X7_undo_101 rec w1 M5))
noncomputable def qf_X7_undo    (M : Me) : Op :=
  rx_vv (M 0 7) fun v1 => if v1 = 0 then (rx_zb 0 (some (0, M))) else (rx_vv (M 0 23) fun v2 => if v2 = 0 then (rx_zb 0 (some (0, M))) else (rx_vv (M 0 23) fun v3 => rx_vv (rx_st M 0 23 (v3 - 1)) fun M4 => rx_vv (rx_st M4 0 31 0) fun M5 => rx_cl (qf_X7_begin M5) fun r6 M7 => rx_lp1 (qo_X7_undo_37) rx_FU 0 M7))
section
variable {p : Program} {l : Launch} {e : Env} {s : State} {m : MethodId} {args : Array Value} {below : List Frame} {meth : Method} {c : Code} {Q : State → Prop} {D : va_G} {A : Nat → Prop} {o : Int32 × Me} {ad : Nat → Nat} {cI cL : ClassId} {b1 b2 : Nat}
set_option maxRecDepth 100000 in
set_option maxHeartbeats 4000000 in
theorem qk_X7_undo_101 (cx : rx_C p m c cX7_undo 3 s args wX7_undo RX7 D vwCl (tY cI cL) [] wN A) (hret : rx_RZ p l e rm_X7_undo s m args below meth c cX7_undo D vwCl (wY ad cI cL) A Q o) {w1 : Int32} {k37 : Int32 → Me → Op} (h37 : ∀ {a1 : Int32} {ls : Array Slot} {H : Heap} {locs : List Loc} {M : Me}, rx_W D vwCl (wY ad cI cL) A s.heap M H locs → lv_has ls 3 [(0, .ref ((ad 0))), (1, .int a1)] → k37 a1 M = some o → W p l e rm_X7_undo s m args below meth c H locs 0 0 Q (F0 m 37 ls [])) {ls : Array Slot} {H : Heap} {locs : List Loc} {M : Me} (hw : rx_W D vwCl (wY ad cI cL) A s.heap M H locs) (hl : lv_has ls 3 [(0, .ref ((ad 0))), (1, .int w1)]) (hf : qb_X7_undo_101 k37 w1 M = some o) : W p l e rm_X7_undo s m args below meth c H locs 0 0 Q (F0 m 101 ls []) := by
  have hx := cx.1.1
  have hb := cx.1.2.1
  obtain ⟨v1, ev1, hf⟩ := rx_vvI hf
  refine lv_iinc (lv' := [(1, .int v1), (0, .ref ((ad 0)))]) hx hb dX7_undo_101 hl (k := 1) rfl (rx_inc ic_4 ev1) (Nat.le_of_ble_eq_true rfl) rfl (fun ls hl => ?_)
  refine lv_goto hx hb dX7_undo_104 rfl ?_
  exact h37 hw (lv_sub hl [1, 0] rfl) hf
set_option maxRecDepth 100000 in
set_option maxHeartbeats 4000000 in
theorem qk_X7_undo_37 (cx : rx_C p m c cX7_undo 3 s args wX7_undo RX7 D vwCl (tY cI cL) [] wN A) (hret : rx_RZ p l e rm_X7_undo s m args below meth c cX7_undo D vwCl (wY ad cI cL) A Q o) : ∀ (n : Nat) {w1 : Int32} {ls : Array Slot} {H : Heap} {locs : List Loc} {M : Me}, rx_W D vwCl (wY ad cI cL) A s.heap M H locs → lv_has ls 3 [(0, .ref ((ad 0))), (1, .int w1)] → rx_lp1 (qo_X7_undo_37) n w1 M = some o → W p l e rm_X7_undo s m args below meth c H locs 0 0 Q (F0 m 37 ls []) := by
  have hx := cx.1.1
  have hb := cx.1.2.1
  intro n
  induction n with
  | zero => intro w1 ls H locs M hw hl hf; exact rx_no hf
  | succ n ih =>
    intro w1 ls H locs M hw hl hf
    have hf : qo_X7_undo_37 (rx_lp1 (qo_X7_undo_37) n) w1 M = some o := hf
    refine lv_iload_n hx hb dX7_undo_37 rfl (lv_at hl 1 rfl) ?_
    refine lv_iconst (v := 4) hx hb dX7_undo_38 ic_4 ?_
    refine lv_aload_n hx hb dX7_undo_39 rfl (lv_at hl 0 rfl) ?_
    obtain ⟨v1, ev1, hf⟩ := rx_vvI hf
    refine rx_geti cx hw (fiY_0_23 ad cI cL) rfl (inT_X7) (Nat.le_of_ble_eq_true rfl) (.tail _ tw_684) ev1 dX7_undo_40 ?_
    refine lv_imul hx hb dX7_undo_43 ?_
    refine lv_icmp_ge hx hb dX7_undo_44 rfl (fun hc => ?_) (fun hc => ?_)
    · have hf := rx_t hc hf
      refine lv_iconst (v := 1) hx hb dX7_undo_107 ic_1 ?_
      exact rx_retz hret hw hf dX7_undo_108
    · have hf := rx_f hc hf
      refine lv_aload_n hx hb dX7_undo_47 rfl (lv_at hl 0 rfl) ?_
      refine rx_getr cx hw (frY_0_24 ad cI cL) rfl (inT_X7) (Nat.le_of_ble_eq_true rfl) (.tail _ tw_685) dX7_undo_48 ?_
      refine lv_iload_n hx hb dX7_undo_51 rfl (lv_at hl 1 rfl) ?_
      obtain ⟨hv2, v2, ev2, hf⟩ := rx_ldI hf
      refine rx_iald cx hw (arY_14 ad cI cL) ⟨hv2, ev2⟩ dX7_undo_52 ?_
      refine lv_iconst (v := 1) hx hb dX7_undo_53 ic_1 ?_
      refine lv_icmp_ne hx hb dX7_undo_54 rfl (fun hc => ?_) (fun hc => ?_)
      · have hf := rx_f hc hf
        refine lv_aload_n hx hb dX7_undo_88 rfl (lv_at hl 0 rfl) ?_
        refine lv_aload_n hx hb dX7_undo_89 rfl (lv_at hl 0 rfl) ?_
        refine rx_getr cx hw (frY_0_24 ad cI cL) rfl (inT_X7) (Nat.le_of_ble_eq_true rfl) (.tail _ tw_685) dX7_undo_90 ?_
        refine lv_iload_n hx hb dX7_undo_93 rfl (lv_at hl 1 rfl) ?_
        refine lv_iconst (v := 1) hx hb dX7_undo_94 ic_1 ?_
        refine lv_iadd hx hb dX7_undo_95 ?_
        obtain ⟨hv3, v3, ev3, hf⟩ := rx_ldI hf
        refine rx_iald cx hw (arY_14 ad cI cL) ⟨hv3, ev3⟩ dX7_undo_96 ?_
        obtain ⟨r4, M5, er4, hf⟩ := rx_clI hf
        refine rx_jVi cx hw (qc_X7_put l D ad cI cL v3) (obY_0 ad cI cL) rfl rfl kfX7_put tw_885 ⟨Nat.le_of_ble_eq_true rfl, Nat.le_of_ble_eq_true rfl, rfl, rfl⟩ rfl hl.1 (Nat.le_of_ble_eq_true rfl) ⟨Nat.zero_le _, Nat.zero_le _⟩ dX7_undo_97 rfl er4 (fun H locs hw => ?_)
        refine lv_istore_n (lv' := [(2, .int r4), (0, .ref ((ad 0))), (1, .int w1)]) hx hb dX7_undo_100 rfl hl (Nat.le_of_ble_eq_true rfl) rfl (fun ls hl => ?_)
        exact (qk_X7_undo_101 cx hret ih) hw (lv_sub hl [1, 2] rfl) hf
      · have hf := rx_t hc hf
        refine lv_aload_n hx hb dX7_undo_57 rfl (lv_at hl 0 rfl) ?_
        refine lv_aload_n hx hb dX7_undo_58 rfl (lv_at hl 0 rfl) ?_
        refine rx_getr cx hw (frY_0_24 ad cI cL) rfl (inT_X7) (Nat.le_of_ble_eq_true rfl) (.tail _ tw_685) dX7_undo_59 ?_
        refine lv_iload_n hx hb dX7_undo_62 rfl (lv_at hl 1 rfl) ?_
        refine lv_iconst (v := 1) hx hb dX7_undo_63 ic_1 ?_
        refine lv_iadd hx hb dX7_undo_64 ?_
        obtain ⟨hv6, v6, ev6, hf⟩ := rx_ldI hf
        refine rx_iald cx hw (arY_14 ad cI cL) ⟨hv6, ev6⟩ dX7_undo_65 ?_
        refine lv_aload_n hx hb dX7_undo_66 rfl (lv_at hl 0 rfl) ?_
        refine rx_getr cx hw (frY_0_24 ad cI cL) rfl (inT_X7) (Nat.le_of_ble_eq_true rfl) (.tail _ tw_685) dX7_undo_67 ?_
        refine lv_iload_n hx hb dX7_undo_70 rfl (lv_at hl 1 rfl) ?_
        refine lv_iconst (v := 2) hx hb dX7_undo_71 ic_2 ?_
        refine lv_iadd hx hb dX7_undo_72 ?_
        obtain ⟨hv7, v7, ev7, hf⟩ := rx_ldI hf
        refine rx_iald cx hw (arY_14 ad cI cL) ⟨hv7, ev7⟩ dX7_undo_73 ?_
        refine lv_aload_n hx hb dX7_undo_74 rfl (lv_at hl 0 rfl) ?_
        refine rx_getr cx hw (frY_0_24 ad cI cL) rfl (inT_X7) (Nat.le_of_ble_eq_true rfl) (.tail _ tw_685) dX7_undo_75 ?_
        refine lv_iload_n hx hb dX7_undo_78 rfl (lv_at hl 1 rfl) ?_
        refine lv_iconst (v := 3) hx hb dX7_undo_79 ic_3 ?_
        refine lv_iadd hx hb dX7_undo_80 ?_
        obtain ⟨hv8, v8, ev8, hf⟩ := rx_ldI hf
        refine rx_iald cx hw (arY_14 ad cI cL) ⟨hv8, ev8⟩ dX7_undo_81 ?_
        obtain ⟨r9, M10, er9, hf⟩ := rx_clI hf
        refine rx_jVv cx hw (qc_X7_lay l D ad cI cL v6 v7 v8) (obY_0 ad cI cL) rfl rfl kfX7_lay tw_857 ⟨Nat.le_of_ble_eq_true rfl, Nat.le_of_ble_eq_true rfl, rfl, rfl⟩ rfl hl.1 (Nat.le_of_ble_eq_true rfl) ⟨Nat.zero_le _, Nat.zero_le _⟩ dX7_undo_82 rfl er9 (fun H locs hw => ?_)
        refine lv_goto hx hb dX7_undo_85 rfl ?_
        exact (qk_X7_undo_101 cx hret ih) hw hl hf
set_option maxRecDepth 100000 in
set_option maxHeartbeats 4000000 in
theorem qk_X7_undo_0 (cx : rx_C p m c cX7_undo 3 s args wX7_undo RX7 D vwCl (tY cI cL) [] wN A) (hret : rx_RZ p l e rm_X7_undo s m args below meth c cX7_undo D vwCl (wY ad cI cL) A Q o) {ls : Array Slot} {H : Heap} {locs : List Loc} {M : Me} (hw : rx_W D vwCl (wY ad cI cL) A s.heap M H locs) (hl : lv_has ls 3 [(0, .ref ((ad 0)))]) (hf : qf_X7_undo M = some o) : W p l e rm_X7_undo s m args below meth c H locs 0 0 Q (F0 m 0 ls []) := by
  have hx := cx.1.1
  have hb := cx.1.2.1
  refine lv_aload_n hx hb dX7_undo_0 rfl (lv_at hl 0 rfl) ?_
  obtain ⟨v1, ev1, hf⟩ := rx_vvI hf
  refine rx_geti cx hw (fiY_0_7 ad cI cL) rfl (inT_X7) (Nat.le_of_ble_eq_true rfl) (.tail _ tw_668) ev1 dX7_undo_1 ?_
  refine lv_if_eq hx hb dX7_undo_4 rfl (fun hc => ?_) (fun hc => ?_)
  · have hf := rx_t hc hf
    refine lv_iconst (v := 0) hx hb dX7_undo_14 ic_0 ?_
    exact rx_retz hret hw hf dX7_undo_15
  · have hf := rx_f hc hf
    refine lv_aload_n hx hb dX7_undo_7 rfl (lv_at hl 0 rfl) ?_
    obtain ⟨v2, ev2, hf⟩ := rx_vvI hf
    refine rx_geti cx hw (fiY_0_23 ad cI cL) rfl (inT_X7) (Nat.le_of_ble_eq_true rfl) (.tail _ tw_684) ev2 dX7_undo_8 ?_
    refine lv_if_ne hx hb dX7_undo_11 rfl (fun hc => ?_) (fun hc => ?_)
    · have hf := rx_f hc hf
      refine lv_aload_n hx hb dX7_undo_16 rfl (lv_at hl 0 rfl) ?_
      refine lv_dup hx hb dX7_undo_17 rfl ?_
      obtain ⟨v3, ev3, hf⟩ := rx_vvI hf
      refine rx_geti cx hw (fiY_0_23 ad cI cL) rfl (inT_X7) (Nat.le_of_ble_eq_true rfl) (.tail _ tw_684) ev3 dX7_undo_18 ?_
      refine lv_iconst (v := 1) hx hb dX7_undo_21 ic_1 ?_
      refine lv_isub hx hb dX7_undo_22 ?_
      obtain ⟨M4, eM4, hf⟩ := rx_vvI hf
      refine rx_puti cx hw (fiY_0_23 ad cI cL) rfl (inT_X7) tyX7 tyX7_ok nmX7 (Nat.le_of_ble_eq_true rfl) (.tail _ tw_684) rfl rfl rfl eM4 dX7_undo_23 (fun H locs hw => ?_)
      refine lv_aload_n hx hb dX7_undo_26 rfl (lv_at hl 0 rfl) ?_
      refine lv_iconst (v := 0) hx hb dX7_undo_27 ic_0 ?_
      obtain ⟨M5, eM5, hf⟩ := rx_vvI hf
      refine rx_puti cx hw (fiY_0_31 ad cI cL) rfl (inT_X7) tyX7 tyX7_ok nmX7 (Nat.le_of_ble_eq_true rfl) (.tail _ tw_692) rfl rfl rfl eM5 dX7_undo_28 (fun H locs hw => ?_)
      refine lv_aload_n hx hb dX7_undo_31 rfl (lv_at hl 0 rfl) ?_
      obtain ⟨r6, M7, er6, hf⟩ := rx_clI hf
      refine rx_jVv cx hw (qc_X7_begin l D ad cI cL) (obY_0 ad cI cL) rfl rfl kfX7_begin tw_795 ⟨Nat.le_of_ble_eq_true rfl, Nat.le_of_ble_eq_true rfl, rfl, rfl⟩ rfl hl.1 (Nat.le_of_ble_eq_true rfl) ⟨Nat.zero_le _, Nat.zero_le _⟩ dX7_undo_32 rfl er6 (fun H locs hw => ?_)
      refine lv_iconst (v := 0) hx hb dX7_undo_35 ic_0 ?_
      refine lv_istore_n (lv' := [(1, .int 0), (0, .ref ((ad 0)))]) hx hb dX7_undo_36 rfl hl (Nat.le_of_ble_eq_true rfl) rfl (fun ls hl => ?_)
      exact (qk_X7_undo_37 cx hret rx_FU) hw (lv_sub hl [1, 0] rfl) hf
    · have hf := rx_t hc hf
      refine lv_iconst (v := 0) hx hb dX7_undo_14 ic_0 ?_
      exact rx_retz hret hw hf dX7_undo_15
end
set_option maxRecDepth 100000 in
theorem qc_X7_undo (l : Launch) (D : va_G) (ad : Nat → Nat) (cI cL : ClassId) : rx_MI l yX7_undo wX7_undo rm_X7_undo D vwCl (wY ad cI cL) (tY cI cL) [] wN [.ref (ad 0)] (fun M => qf_X7_undo M) :=
  rx_ofZ (by decide) rfl wN_ok (Nat.le_of_ble_eq_true rfl) (fun _ _ _ _ _ _ _ _ _ _ _ _ _ cx hret hw hl hf => qk_X7_undo_0 cx hret hw hl hf)
def rm_X7_region : Room := { frames := 4, cells := 0, slots := 0, locals := 93 }
noncomputable def qb_X7_region_17  (w3 : Int32) (s0 : Int32) (M : Me) : Op :=
  if s0 < 0 then (some ((-1), M)) else (if w3 < 0 then (some ((-1), M)) else (if 7 < w3 then (some ((-1), M)) else (rx_cl (qf_X7_kindOfPiece ((8 * s0) + w3) M) fun r1 M2 => if r1 = 0 then (some ((-1), M2)) else (rx_cl (qf_X7_giveLabels M2) fun r3 M4 => rx_ld M4 15 192 ((8 * s0) + w3) fun v5 => some (v5, M4)))))
noncomputable def qf_X7_region  (w1 : Int32) (w2 : Int32) (w3 : Int32)  (M : Me) : Op :=
  rx_vv (M 0 7) fun v1 => if v1 = 0 then (qb_X7_region_17 w3 (-1) M) else (rx_cl (qf_X7_tileAt w1 w2 M) fun r2 M3 => qb_X7_region_17 w3 r2 M3)
section
variable {p : Program} {l : Launch} {e : Env} {s : State} {m : MethodId} {args : Array Value} {below : List Frame} {meth : Method} {c : Code} {Q : State → Prop} {D : va_G} {A : Nat → Prop} {o : Int32 × Me} {ad : Nat → Nat} {cI cL : ClassId} {b1 b2 : Nat}
set_option maxRecDepth 100000 in
set_option maxHeartbeats 4000000 in
theorem qk_X7_region_17 (cx : rx_C p m c cX7_region 5 s args wX7_region RX7 D vwCl (tY cI cL) [] wN A) (hret : rx_RI p l e rm_X7_region s m args below meth c cX7_region D vwCl (wY ad cI cL) A Q o) {w3 : Int32} {s0 : Int32} {ls : Array Slot} {H : Heap} {locs : List Loc} {M : Me} (hw : rx_W D vwCl (wY ad cI cL) A s.heap M H locs) (hl : lv_has ls 5 [(0, .ref ((ad 0))), (3, .int w3)]) (hf : qb_X7_region_17 w3 s0 M = some o) : W p l e rm_X7_region s m args below meth c H locs 0 0 Q (F0 m 17 ls [.int s0]) := by
  have hx := cx.1.1
  have hb := cx.1.2.1
  refine lv_istore (lv' := [(4, .int s0), (0, .ref ((ad 0))), (3, .int w3)]) hx hb dX7_region_17 hl (Nat.le_of_ble_eq_true rfl) rfl (fun ls hl => ?_)
  refine lv_iload hx hb dX7_region_19 (lv_at hl 0 rfl) ?_
  refine lv_if_lt hx hb dX7_region_21 rfl (fun hc => ?_) (fun hc => ?_)
  · have hf := rx_t hc hf
    refine lv_iconst (v := (-1)) hx hb dX7_region_48 ic_m1 ?_
    exact rx_reti hret hw hf dX7_region_49
  · have hf := rx_f hc hf
    refine lv_iload_n hx hb dX7_region_24 rfl (lv_at hl 2 rfl) ?_
    refine lv_if_lt hx hb dX7_region_25 rfl (fun hc => ?_) (fun hc => ?_)
    · have hf := rx_t hc hf
      refine lv_iconst (v := (-1)) hx hb dX7_region_48 ic_m1 ?_
      exact rx_reti hret hw hf dX7_region_49
    · have hf := rx_f hc hf
      refine lv_iload_n hx hb dX7_region_28 rfl (lv_at hl 2 rfl) ?_
      refine lv_bipush (v := 7) hx hb dX7_region_29 ib_7 ?_
      refine lv_icmp_gt hx hb dX7_region_31 rfl (fun hc => ?_) (fun hc => ?_)
      · have hf := rx_t hc hf
        refine lv_iconst (v := (-1)) hx hb dX7_region_48 ic_m1 ?_
        exact rx_reti hret hw hf dX7_region_49
      · have hf := rx_f hc hf
        refine lv_aload_n hx hb dX7_region_34 rfl (lv_at hl 1 rfl) ?_
        refine lv_bipush (v := 8) hx hb dX7_region_35 ib_8 ?_
        refine lv_iload hx hb dX7_region_37 (lv_at hl 0 rfl) ?_
        refine lv_imul hx hb dX7_region_39 ?_
        refine lv_iload_n hx hb dX7_region_40 rfl (lv_at hl 2 rfl) ?_
        refine lv_iadd hx hb dX7_region_41 ?_
        obtain ⟨r1, M2, er1, hf⟩ := rx_clI hf
        refine rx_jVi cx hw (qc_X7_kindOfPiece l D ad cI cL ((8 * s0) + w3)) (obY_0 ad cI cL) rfl rfl kfX7_kindOfPiece tw_873 ⟨Nat.le_of_ble_eq_true rfl, Nat.le_of_ble_eq_true rfl, rfl, rfl⟩ rfl hl.1 (Nat.le_of_ble_eq_true rfl) ⟨Nat.zero_le _, Nat.zero_le _⟩ dX7_region_42 rfl er1 (fun H locs hw => ?_)
        refine lv_if_ne hx hb dX7_region_45 rfl (fun hc => ?_) (fun hc => ?_)
        · have hf := rx_f hc hf
          refine lv_aload_n hx hb dX7_region_50 rfl (lv_at hl 1 rfl) ?_
          obtain ⟨r3, M4, er3, hf⟩ := rx_clI hf
          refine rx_jVv cx hw (qc_X7_giveLabels l D ad cI cL) (obY_0 ad cI cL) rfl rfl kfX7_giveLabels tw_877 ⟨Nat.le_of_ble_eq_true rfl, Nat.le_of_ble_eq_true rfl, rfl, rfl⟩ rfl hl.1 (Nat.le_of_ble_eq_true rfl) ⟨Nat.zero_le _, Nat.zero_le _⟩ dX7_region_51 rfl er3 (fun H locs hw => ?_)
          refine lv_aload_n hx hb dX7_region_54 rfl (lv_at hl 1 rfl) ?_
          refine rx_getr cx hw (frY_0_25 ad cI cL) rfl (inT_X7) (Nat.le_of_ble_eq_true rfl) (.tail _ tw_686) dX7_region_55 ?_
          refine lv_bipush (v := 8) hx hb dX7_region_58 ib_8 ?_
          refine lv_iload hx hb dX7_region_60 (lv_at hl 0 rfl) ?_
          refine lv_imul hx hb dX7_region_62 ?_
          refine lv_iload_n hx hb dX7_region_63 rfl (lv_at hl 2 rfl) ?_
          refine lv_iadd hx hb dX7_region_64 ?_
          obtain ⟨hv5, v5, ev5, hf⟩ := rx_ldI hf
          refine rx_iald cx hw (arY_15 ad cI cL) ⟨hv5, ev5⟩ dX7_region_65 ?_
          exact rx_reti hret hw hf dX7_region_66
        · have hf := rx_t hc hf
          refine lv_iconst (v := (-1)) hx hb dX7_region_48 ic_m1 ?_
          exact rx_reti hret hw hf dX7_region_49
set_option maxRecDepth 100000 in
set_option maxHeartbeats 4000000 in
theorem qk_X7_region_0 (cx : rx_C p m c cX7_region 5 s args wX7_region RX7 D vwCl (tY cI cL) [] wN A) (hret : rx_RI p l e rm_X7_region s m args below meth c cX7_region D vwCl (wY ad cI cL) A Q o) {w1 : Int32} {w2 : Int32} {w3 : Int32} {ls : Array Slot} {H : Heap} {locs : List Loc} {M : Me} (hw : rx_W D vwCl (wY ad cI cL) A s.heap M H locs) (hl : lv_has ls 5 [(0, .ref ((ad 0))), (1, .int w1), (2, .int w2), (3, .int w3)]) (hf : qf_X7_region w1 w2 w3 M = some o) : W p l e rm_X7_region s m args below meth c H locs 0 0 Q (F0 m 0 ls []) := by
  have hx := cx.1.1
  have hb := cx.1.2.1
  refine lv_aload_n hx hb dX7_region_0 rfl (lv_at hl 0 rfl) ?_
  obtain ⟨v1, ev1, hf⟩ := rx_vvI hf
  refine rx_geti cx hw (fiY_0_7 ad cI cL) rfl (inT_X7) (Nat.le_of_ble_eq_true rfl) (.tail _ tw_668) ev1 dX7_region_1 ?_
  refine lv_if_eq hx hb dX7_region_4 rfl (fun hc => ?_) (fun hc => ?_)
  · have hf := rx_t hc hf
    refine lv_iconst (v := (-1)) hx hb dX7_region_16 ic_m1 ?_
    exact (qk_X7_region_17 cx hret) hw (lv_sub hl [0, 3] rfl) hf
  · have hf := rx_f hc hf
    refine lv_aload_n hx hb dX7_region_7 rfl (lv_at hl 0 rfl) ?_
    refine lv_iload_n hx hb dX7_region_8 rfl (lv_at hl 1 rfl) ?_
    refine lv_iload_n hx hb dX7_region_9 rfl (lv_at hl 2 rfl) ?_
    obtain ⟨r2, M3, er2, hf⟩ := rx_clI hf
    refine rx_jVi cx hw (qc_X7_tileAt l D ad cI cL w1 w2) (obY_0 ad cI cL) rfl rfl kfX7_tileAt tw_814 ⟨Nat.le_of_ble_eq_true rfl, Nat.le_of_ble_eq_true rfl, rfl, rfl⟩ rfl hl.1 (Nat.le_of_ble_eq_true rfl) ⟨Nat.zero_le _, Nat.zero_le _⟩ dX7_region_10 rfl er2 (fun H locs hw => ?_)
    refine lv_goto hx hb dX7_region_13 rfl ?_
    exact (qk_X7_region_17 cx hret) hw (lv_sub hl [0, 3] rfl) hf
end
set_option maxRecDepth 100000 in
theorem qc_X7_region (l : Launch) (D : va_G) (ad : Nat → Nat) (cI cL : ClassId) (w1 : Int32) (w2 : Int32) (w3 : Int32) : rx_MI l yX7_region wX7_region rm_X7_region D vwCl (wY ad cI cL) (tY cI cL) [] wN [.ref (ad 0), .int w1, .int w2, .int w3] (fun M => qf_X7_region w1 w2 w3 M) :=
  rx_ofI (by decide) rfl wN_ok (Nat.le_of_ble_eq_true rfl) (fun _ _ _ _ _ _ _ _ _ _ _ _ _ cx hret hw hl hf => qk_X7_region_0 cx hret hw hl hf)
def rm_X7_about : Room := { frames := 5, cells := 0, slots := 0, locals := 114 }
noncomputable def qf_X7_about  (w1 : Int32) (w2 : Int32)  (M : Me) : Op :=
  rx_vv (M 0 7) fun v1 => if v1 = 0 then (some ((-1), M)) else (if w1 < 0 then (some ((-1), M)) else (rx_vv (M 0 9) fun v2 => if (8 * v2) ≤ w1 then (some ((-1), M)) else (if w2 < 0 then (some ((-1), M)) else (if w2 ≤ 7 then (rx_cl (qf_X7_giveLabels M) fun r3 M4 => rx_cl (qf_X7_kindOfPiece w1 M4) fun r5 M6 => if r5 = 0 then (some ((-1), M6)) else (rx_ld M6 15 192 w1 fun v7 => if v7 = w1 then (if w2 = 0 then (rx_cl (qf_X7_kindOfPiece w1 M6) fun r8 M9 => some (r8, M9)) else (if w2 = 1 then (rx_cl (qf_X7_tilesOf w1 M6) fun r10 M11 => some (r10, M11)) else (if w2 = 2 then (rx_cl (qf_X7_shieldsOf w1 M6) fun r12 M13 => some (r12, M13)) else (if w2 = 3 then (rx_cl (qf_X7_openOf w1 M6) fun r14 M15 => some (r14, M15)) else (if w2 = 4 then (rx_cl (qf_X7_isFinished w1 M6) fun r16 M17 => if r16 = 0 then (some (0, M17)) else (some (1, M17))) else (rx_cl (qf_X7_followersOf w1 (w2 - 5) M6) fun r18 M19 => some (r18, M19))))))) else (some ((-1), M6)))) else (some ((-1), M))))))
section
variable {p : Program} {l : Launch} {e : Env} {s : State} {m : MethodId} {args : Array Value} {below : List Frame} {meth : Method} {c : Code} {Q : State → Prop} {D : va_G} {A : Nat → Prop} {o : Int32 × Me} {ad : Nat → Nat} {cI cL : ClassId} {b1 b2 : Nat}
set_option maxRecDepth 100000 in
set_option maxHeartbeats 4000000 in
theorem qk_X7_about_0 (cx : rx_C p m c cX7_about 3 s args wX7_about RX7 D vwCl (tY cI cL) [] wN A) (hret : rx_RI p l e rm_X7_about s m args below meth c cX7_about D vwCl (wY ad cI cL) A Q o) {w1 : Int32} {w2 : Int32} {ls : Array Slot} {H : Heap} {locs : List Loc} {M : Me} (hw : rx_W D vwCl (wY ad cI cL) A s.heap M H locs) (hl : lv_has ls 3 [(0, .ref ((ad 0))), (1, .int w1), (2, .int w2)]) (hf : qf_X7_about w1 w2 M = some o) : W p l e rm_X7_about s m args below meth c H locs 0 0 Q (F0 m 0 ls []) := by
  have hx := cx.1.1
  have hb := cx.1.2.1
  refine lv_aload_n hx hb dX7_about_0 rfl (lv_at hl 0 rfl) ?_
  obtain ⟨v1, ev1, hf⟩ := rx_vvI hf
  refine rx_geti cx hw (fiY_0_7 ad cI cL) rfl (inT_X7) (Nat.le_of_ble_eq_true rfl) (.tail _ tw_668) ev1 dX7_about_1 ?_
  refine lv_if_eq hx hb dX7_about_4 rfl (fun hc => ?_) (fun hc => ?_)
  · have hf := rx_t hc hf
    refine lv_iconst (v := (-1)) hx hb dX7_about_32 ic_m1 ?_
    exact rx_reti hret hw hf dX7_about_33
  · have hf := rx_f hc hf
    refine lv_iload_n hx hb dX7_about_7 rfl (lv_at hl 1 rfl) ?_
    refine lv_if_lt hx hb dX7_about_8 rfl (fun hc => ?_) (fun hc => ?_)
    · have hf := rx_t hc hf
      refine lv_iconst (v := (-1)) hx hb dX7_about_32 ic_m1 ?_
      exact rx_reti hret hw hf dX7_about_33
    · have hf := rx_f hc hf
      refine lv_iload_n hx hb dX7_about_11 rfl (lv_at hl 1 rfl) ?_
      refine lv_bipush (v := 8) hx hb dX7_about_12 ib_8 ?_
      refine lv_aload_n hx hb dX7_about_14 rfl (lv_at hl 0 rfl) ?_
      obtain ⟨v2, ev2, hf⟩ := rx_vvI hf
      refine rx_geti cx hw (fiY_0_9 ad cI cL) rfl (inT_X7) (Nat.le_of_ble_eq_true rfl) (.tail _ tw_670) ev2 dX7_about_15 ?_
      refine lv_imul hx hb dX7_about_18 ?_
      refine lv_icmp_ge hx hb dX7_about_19 rfl (fun hc => ?_) (fun hc => ?_)
      · have hf := rx_t hc hf
        refine lv_iconst (v := (-1)) hx hb dX7_about_32 ic_m1 ?_
        exact rx_reti hret hw hf dX7_about_33
      · have hf := rx_f hc hf
        refine lv_iload_n hx hb dX7_about_22 rfl (lv_at hl 2 rfl) ?_
        refine lv_if_lt hx hb dX7_about_23 rfl (fun hc => ?_) (fun hc => ?_)
        · have hf := rx_t hc hf
          refine lv_iconst (v := (-1)) hx hb dX7_about_32 ic_m1 ?_
          exact rx_reti hret hw hf dX7_about_33
        · have hf := rx_f hc hf
          refine lv_iload_n hx hb dX7_about_26 rfl (lv_at hl 2 rfl) ?_
          refine lv_bipush (v := 7) hx hb dX7_about_27 ib_7 ?_
          refine lv_icmp_le hx hb dX7_about_29 rfl (fun hc => ?_) (fun hc => ?_)
          · have hf := rx_t hc hf
            refine lv_aload_n hx hb dX7_about_34 rfl (lv_at hl 0 rfl) ?_
            obtain ⟨r3, M4, er3, hf⟩ := rx_clI hf
            refine rx_jVv cx hw (qc_X7_giveLabels l D ad cI cL) (obY_0 ad cI cL) rfl rfl kfX7_giveLabels tw_877 ⟨Nat.le_of_ble_eq_true rfl, Nat.le_of_ble_eq_true rfl, rfl, rfl⟩ rfl hl.1 (Nat.le_of_ble_eq_true rfl) ⟨Nat.zero_le _, Nat.zero_le _⟩ dX7_about_35 rfl er3 (fun H locs hw => ?_)
            refine lv_aload_n hx hb dX7_about_38 rfl (lv_at hl 0 rfl) ?_
            refine lv_iload_n hx hb dX7_about_39 rfl (lv_at hl 1 rfl) ?_
            obtain ⟨r5, M6, er5, hf⟩ := rx_clI hf
            refine rx_jVi cx hw (qc_X7_kindOfPiece l D ad cI cL w1) (obY_0 ad cI cL) rfl rfl kfX7_kindOfPiece tw_873 ⟨Nat.le_of_ble_eq_true rfl, Nat.le_of_ble_eq_true rfl, rfl, rfl⟩ rfl hl.1 (Nat.le_of_ble_eq_true rfl) ⟨Nat.zero_le _, Nat.zero_le _⟩ dX7_about_40 rfl er5 (fun H locs hw => ?_)
            refine lv_if_eq hx hb dX7_about_43 rfl (fun hc => ?_) (fun hc => ?_)
            · have hf := rx_t hc hf
              refine lv_iconst (v := (-1)) hx hb dX7_about_56 ic_m1 ?_
              exact rx_reti hret hw hf dX7_about_57
            · have hf := rx_f hc hf
              refine lv_aload_n hx hb dX7_about_46 rfl (lv_at hl 0 rfl) ?_
              refine rx_getr cx hw (frY_0_25 ad cI cL) rfl (inT_X7) (Nat.le_of_ble_eq_true rfl) (.tail _ tw_686) dX7_about_47 ?_
              refine lv_iload_n hx hb dX7_about_50 rfl (lv_at hl 1 rfl) ?_
              obtain ⟨hv7, v7, ev7, hf⟩ := rx_ldI hf
              refine rx_iald cx hw (arY_15 ad cI cL) ⟨hv7, ev7⟩ dX7_about_51 ?_
              refine lv_iload_n hx hb dX7_about_52 rfl (lv_at hl 1 rfl) ?_
              refine lv_icmp_eq hx hb dX7_about_53 rfl (fun hc => ?_) (fun hc => ?_)
              · have hf := rx_t hc hf
                refine lv_iload_n hx hb dX7_about_58 rfl (lv_at hl 2 rfl) ?_
                by_cases hs0 : w2 = 0
                · have hf := rx_t hs0 hf
                  refine lv_tableIn hx hb dX7_about_59 (by rw [hs0]; decide) (by rw [hs0]; decide) (by rw [hs0]; rfl) rfl ?_
                  refine lv_aload_n hx hb dX7_about_92 rfl (lv_at hl 0 rfl) ?_
                  refine lv_iload_n hx hb dX7_about_93 rfl (lv_at hl 1 rfl) ?_
                  obtain ⟨r8, M9, er8, hf⟩ := rx_clI hf
                  refine rx_jVi cx hw (qc_X7_kindOfPiece l D ad cI cL w1) (obY_0 ad cI cL) rfl rfl kfX7_kindOfPiece tw_873 ⟨Nat.le_of_ble_eq_true rfl, Nat.le_of_ble_eq_true rfl, rfl, rfl⟩ rfl hl.1 (Nat.le_of_ble_eq_true rfl) ⟨Nat.zero_le _, Nat.zero_le _⟩ dX7_about_94 rfl er8 (fun H locs hw => ?_)
                  exact rx_reti hret hw hf dX7_about_97
                · have hf := rx_f hs0 hf
                  by_cases hs1 : w2 = 1
                  · have hf := rx_t hs1 hf
                    refine lv_tableIn hx hb dX7_about_59 (by rw [hs1]; decide) (by rw [hs1]; decide) (by rw [hs1]; rfl) rfl ?_
                    refine lv_aload_n hx hb dX7_about_98 rfl (lv_at hl 0 rfl) ?_
                    refine lv_iload_n hx hb dX7_about_99 rfl (lv_at hl 1 rfl) ?_
                    obtain ⟨r10, M11, er10, hf⟩ := rx_clI hf
                    refine rx_jVi cx hw (qc_X7_tilesOf l D ad cI cL w1) (obY_0 ad cI cL) rfl rfl kfX7_tilesOf tw_905 ⟨Nat.le_of_ble_eq_true rfl, Nat.le_of_ble_eq_true rfl, rfl, rfl⟩ rfl hl.1 (Nat.le_of_ble_eq_true rfl) ⟨Nat.zero_le _, Nat.zero_le _⟩ dX7_about_100 rfl er10 (fun H locs hw => ?_)
                    exact rx_reti hret hw hf dX7_about_103
                  · have hf := rx_f hs1 hf
                    by_cases hs2 : w2 = 2
                    · have hf := rx_t hs2 hf
                      refine lv_tableIn hx hb dX7_about_59 (by rw [hs2]; decide) (by rw [hs2]; decide) (by rw [hs2]; rfl) rfl ?_
                      refine lv_aload_n hx hb dX7_about_104 rfl (lv_at hl 0 rfl) ?_
                      refine lv_iload_n hx hb dX7_about_105 rfl (lv_at hl 1 rfl) ?_
                      obtain ⟨r12, M13, er12, hf⟩ := rx_clI hf
                      refine rx_jVi cx hw (qc_X7_shieldsOf l D ad cI cL w1) (obY_0 ad cI cL) rfl rfl kfX7_shieldsOf tw_909 ⟨Nat.le_of_ble_eq_true rfl, Nat.le_of_ble_eq_true rfl, rfl, rfl⟩ rfl hl.1 (Nat.le_of_ble_eq_true rfl) ⟨Nat.zero_le _, Nat.zero_le _⟩ dX7_about_106 rfl er12 (fun H locs hw => ?_)
                      exact rx_reti hret hw hf dX7_about_109
                    · have hf := rx_f hs2 hf
                      by_cases hs3 : w2 = 3
                      · have hf := rx_t hs3 hf
                        refine lv_tableIn hx hb dX7_about_59 (by rw [hs3]; decide) (by rw [hs3]; decide) (by rw [hs3]; rfl) rfl ?_
                        refine lv_aload_n hx hb dX7_about_110 rfl (lv_at hl 0 rfl) ?_
                        refine lv_iload_n hx hb dX7_about_111 rfl (lv_at hl 1 rfl) ?_
                        obtain ⟨r14, M15, er14, hf⟩ := rx_clI hf
                        refine rx_jVi cx hw (qc_X7_openOf l D ad cI cL w1) (obY_0 ad cI cL) rfl rfl kfX7_openOf tw_901 ⟨Nat.le_of_ble_eq_true rfl, Nat.le_of_ble_eq_true rfl, rfl, rfl⟩ rfl hl.1 (Nat.le_of_ble_eq_true rfl) ⟨Nat.zero_le _, Nat.zero_le _⟩ dX7_about_112 rfl er14 (fun H locs hw => ?_)
                        exact rx_reti hret hw hf dX7_about_115
                      · have hf := rx_f hs3 hf
                        by_cases hs4 : w2 = 4
                        · have hf := rx_t hs4 hf
                          refine lv_tableIn hx hb dX7_about_59 (by rw [hs4]; decide) (by rw [hs4]; decide) (by rw [hs4]; rfl) rfl ?_
                          refine lv_aload_n hx hb dX7_about_116 rfl (lv_at hl 0 rfl) ?_
                          refine lv_iload_n hx hb dX7_about_117 rfl (lv_at hl 1 rfl) ?_
                          obtain ⟨r16, M17, er16, hf⟩ := rx_clI hf
                          refine rx_jVi cx hw (qc_X7_isFinished l D ad cI cL w1) (obY_0 ad cI cL) rfl rfl kfX7_isFinished tw_893 ⟨Nat.le_of_ble_eq_true rfl, Nat.le_of_ble_eq_true rfl, rfl, rfl⟩ rfl hl.1 (Nat.le_of_ble_eq_true rfl) ⟨Nat.zero_le _, Nat.zero_le _⟩ dX7_about_118 rfl er16 (fun H locs hw => ?_)
                          refine lv_if_eq hx hb dX7_about_121 rfl (fun hc => ?_) (fun hc => ?_)
                          · have hf := rx_t hc hf
                            refine lv_iconst (v := 0) hx hb dX7_about_128 ic_0 ?_
                            exact rx_reti hret hw hf dX7_about_129
                          · have hf := rx_f hc hf
                            refine lv_iconst (v := 1) hx hb dX7_about_124 ic_1 ?_
                            refine lv_goto hx hb dX7_about_125 rfl ?_
                            exact rx_reti hret hw hf dX7_about_129
                        · have hf := rx_f hs4 hf
                          refine lv_tableOut hx hb dX7_about_59 (by have := lv_neT hs0 it_0; have := lv_neT hs1 it_1; have := lv_neT hs2 it_2; have := lv_neT hs3 it_3; have := lv_neT hs4 it_4; omega) rfl ?_
                          refine lv_aload_n hx hb dX7_about_130 rfl (lv_at hl 0 rfl) ?_
                          refine lv_iload_n hx hb dX7_about_131 rfl (lv_at hl 1 rfl) ?_
                          refine lv_iload_n hx hb dX7_about_132 rfl (lv_at hl 2 rfl) ?_
                          refine lv_iconst (v := 5) hx hb dX7_about_133 ic_5 ?_
                          refine lv_isub hx hb dX7_about_134 ?_
                          obtain ⟨r18, M19, er18, hf⟩ := rx_clI hf
                          refine rx_jVi cx hw (qc_X7_followersOf l D ad cI cL w1 (w2 - 5)) (obY_0 ad cI cL) rfl rfl kfX7_followersOf tw_917 ⟨Nat.le_of_ble_eq_true rfl, Nat.le_of_ble_eq_true rfl, rfl, rfl⟩ rfl hl.1 (Nat.le_of_ble_eq_true rfl) ⟨Nat.zero_le _, Nat.zero_le _⟩ dX7_about_135 rfl er18 (fun H locs hw => ?_)
                          exact rx_reti hret hw hf dX7_about_138
              · have hf := rx_f hc hf
                refine lv_iconst (v := (-1)) hx hb dX7_about_56 ic_m1 ?_
                exact rx_reti hret hw hf dX7_about_57
          · have hf := rx_f hc hf
            refine lv_iconst (v := (-1)) hx hb dX7_about_32 ic_m1 ?_
            exact rx_reti hret hw hf dX7_about_33
end
set_option maxRecDepth 100000 in
theorem qc_X7_about (l : Launch) (D : va_G) (ad : Nat → Nat) (cI cL : ClassId) (w1 : Int32) (w2 : Int32) : rx_MI l yX7_about wX7_about rm_X7_about D vwCl (wY ad cI cL) (tY cI cL) [] wN [.ref (ad 0), .int w1, .int w2] (fun M => qf_X7_about w1 w2 M) :=
  rx_ofI (by decide) rfl wN_ok (Nat.le_of_ble_eq_true rfl) (fun _ _ _ _ _ _ _ _ _ _ _ _ _ cx hret hw hl hf => qk_X7_about_0 cx hret hw hl hf)
def rm_X7_citiesAt : Room := { frames := 5, cells := 0, slots := 0, locals := 114 }
noncomputable def qb_X7_citiesAt_136 (k55 : Int32 → Int32 → Me → Op) (w1 : Int32) (w2 : Int32) (w3 : Int32) (w5 : Int32) (w6 : Int32) (s0 : Int32) (M : Me) : Op :=
  rx_vv (w6 + 1) fun v1 => k55 s0 v1 M
noncomputable def qo_X7_citiesAt_55 (k144 : Int32 → Me → Op) (w1 : Int32) (w2 : Int32) (w3 : Int32) (w5 : Int32) (rec : Int32 → Int32 → Me → Op) (w4 : Int32) (w6 : Int32) (M : Me) : Op :=
  if 8 ≤ w6 then (k144 w4 M) else (rx_ld M 15 192 w5 fun v1 => if v1 = w1 then (if w4 = 0 then (rx_ld M 8 24 (w5 / 8) fun v2 => rx_ld M 4 96 ((8 * v2) + (w5 - w5 / 8 * 8)) fun v3 => if ((v3 >>> (w6 &&& 31)) &&& 1) = 1 then (rx_ld M 15 192 (((w5 / 8) * 8) + w6) fun v4 => if v4 = w3 then (qb_X7_citiesAt_136 rec w1 w2 w3 w5 w6 1 M) else (qb_X7_citiesAt_136 rec w1 w2 w3 w5 w6 0 M)) else (qb_X7_citiesAt_136 rec w1 w2 w3 w5 w6 0 M)) else (qb_X7_citiesAt_136 rec w1 w2 w3 w5 w6 1 M)) else (k144 w4 M))
noncomputable def qb_X7_citiesAt_144 (k21 : Int32 → Int32 → Me → Op) (w1 : Int32) (w2 : Int32) (w3 : Int32) (w4 : Int32) (w5 : Int32)  (M : Me) : Op :=
  rx_vv (w5 + 1) fun v1 => k21 w4 v1 M
noncomputable def qo_X7_citiesAt_21 (k150 : Int32 → Me → Op) (w1 : Int32) (w2 : Int32) (w3 : Int32) (rec : Int32 → Int32 → Me → Op) (w4 : Int32) (w5 : Int32) (M : Me) : Op :=
  rx_vv (M 0 9) fun v1 => if (8 * v1) ≤ w5 then (k150 w4 M) else (rx_cl (qf_X7_kindOfPiece w3 M) fun r2 M3 => if r2 = 1 then (rx_ld M3 15 192 w3 fun v4 => if v4 = w3 then (rx_lp2 (qo_X7_citiesAt_55 (fun a4 M => qb_X7_citiesAt_144 rec w1 w2 w3 a4 w5 M) w1 w2 w3 w5) rx_FU w4 0 M3) else (k150 w4 M3)) else (k150 w4 M3))
noncomputable def qb_X7_citiesAt_170 (k4 : Int32 → Int32 → Me → Op) (w1 : Int32) (w3 : Int32) (s0 : Int32) (M : Me) : Op :=
  rx_vv (w3 + 1) fun v1 => k4 s0 v1 M
noncomputable def qb_X7_citiesAt_150 (k4 : Int32 → Int32 → Me → Op) (w1 : Int32) (w2 : Int32) (w3 : Int32) (w4 : Int32)  (M : Me) : Op :=
  if w4 = 0 then (qb_X7_citiesAt_170 k4 w1 w3 w2 M) else (rx_cl (qf_X7_isFinished w3 M) fun r1 M2 => if r1 = 0 then (qb_X7_citiesAt_170 k4 w1 w3 w2 M2) else (qb_X7_citiesAt_170 k4 w1 w3 (w2 + 1) M2))
noncomputable def qo_X7_citiesAt_4  (w1 : Int32) (rec : Int32 → Int32 → Me → Op) (w2 : Int32) (w3 : Int32) (M : Me) : Op :=
  rx_vv (M 0 9) fun v1 => if (8 * v1) ≤ w3 then (some (w2, M)) else (rx_lp2 (qo_X7_citiesAt_21 (fun a4 M => qb_X7_citiesAt_150 rec w1 w2 w3 a4 M) w1 w2 w3) rx_FU 0 0 M)
noncomputable def qf_X7_citiesAt  (w1 : Int32)  (M : Me) : Op :=
  rx_lp2 (qo_X7_citiesAt_4 w1) rx_FU 0 0 M
section
variable {p : Program} {l : Launch} {e : Env} {s : State} {m : MethodId} {args : Array Value} {below : List Frame} {meth : Method} {c : Code} {Q : State → Prop} {D : va_G} {A : Nat → Prop} {o : Int32 × Me} {ad : Nat → Nat} {cI cL : ClassId} {b1 b2 : Nat}
set_option maxRecDepth 100000 in
set_option maxHeartbeats 4000000 in
theorem qk_X7_citiesAt_136 (cx : rx_C p m c cX7_citiesAt 7 s args wX7_citiesAt RX7 D vwCl (tY cI cL) [] wN A) (hret : rx_RI p l e rm_X7_citiesAt s m args below meth c cX7_citiesAt D vwCl (wY ad cI cL) A Q o) {w1 : Int32} {w2 : Int32} {w3 : Int32} {w5 : Int32} {w6 : Int32} {s0 : Int32} {k55 : Int32 → Int32 → Me → Op} (h55 : ∀ {a4 : Int32} {a6 : Int32} {ls : Array Slot} {H : Heap} {locs : List Loc} {M : Me}, rx_W D vwCl (wY ad cI cL) A s.heap M H locs → lv_has ls 7 [(0, .ref ((ad 0))), (1, .int w1), (2, .int w2), (3, .int w3), (4, .int a4), (5, .int w5), (6, .int a6)] → k55 a4 a6 M = some o → W p l e rm_X7_citiesAt s m args below meth c H locs 0 0 Q (F0 m 55 ls [])) {ls : Array Slot} {H : Heap} {locs : List Loc} {M : Me} (hw : rx_W D vwCl (wY ad cI cL) A s.heap M H locs) (hl : lv_has ls 7 [(0, .ref ((ad 0))), (1, .int w1), (2, .int w2), (3, .int w3), (5, .int w5), (6, .int w6)]) (hf : qb_X7_citiesAt_136 k55 w1 w2 w3 w5 w6 s0 M = some o) : W p l e rm_X7_citiesAt s m args below meth c H locs 0 0 Q (F0 m 136 ls [.int s0]) := by
  have hx := cx.1.1
  have hb := cx.1.2.1
  refine lv_istore (lv' := [(4, .int s0), (0, .ref ((ad 0))), (1, .int w1), (2, .int w2), (3, .int w3), (5, .int w5), (6, .int w6)]) hx hb dX7_citiesAt_136 hl (Nat.le_of_ble_eq_true rfl) rfl (fun ls hl => ?_)
  obtain ⟨v1, ev1, hf⟩ := rx_vvI hf
  refine lv_iinc (lv' := [(6, .int v1), (4, .int s0), (0, .ref ((ad 0))), (1, .int w1), (2, .int w2), (3, .int w3), (5, .int w5)]) hx hb dX7_citiesAt_138 hl (k := 6) rfl (rx_inc ic_1 ev1) (Nat.le_of_ble_eq_true rfl) rfl (fun ls hl => ?_)
  refine lv_goto hx hb dX7_citiesAt_141 rfl ?_
  exact h55 hw (lv_sub hl [2, 3, 4, 5, 1, 6, 0] rfl) hf
set_option maxRecDepth 100000 in
set_option maxHeartbeats 4000000 in
theorem qk_X7_citiesAt_55 (cx : rx_C p m c cX7_citiesAt 7 s args wX7_citiesAt RX7 D vwCl (tY cI cL) [] wN A) (hret : rx_RI p l e rm_X7_citiesAt s m args below meth c cX7_citiesAt D vwCl (wY ad cI cL) A Q o) {w1 : Int32} {w2 : Int32} {w3 : Int32} {w5 : Int32} {k144 : Int32 → Me → Op} (h144 : ∀ {a4 : Int32} {ls : Array Slot} {H : Heap} {locs : List Loc} {M : Me}, rx_W D vwCl (wY ad cI cL) A s.heap M H locs → lv_has ls 7 [(0, .ref ((ad 0))), (1, .int w1), (2, .int w2), (3, .int w3), (4, .int a4), (5, .int w5)] → k144 a4 M = some o → W p l e rm_X7_citiesAt s m args below meth c H locs 0 0 Q (F0 m 144 ls [])) : ∀ (n : Nat) {w4 : Int32} {w6 : Int32} {ls : Array Slot} {H : Heap} {locs : List Loc} {M : Me}, rx_W D vwCl (wY ad cI cL) A s.heap M H locs → lv_has ls 7 [(0, .ref ((ad 0))), (1, .int w1), (2, .int w2), (3, .int w3), (4, .int w4), (5, .int w5), (6, .int w6)] → rx_lp2 (qo_X7_citiesAt_55 k144 w1 w2 w3 w5) n w4 w6 M = some o → W p l e rm_X7_citiesAt s m args below meth c H locs 0 0 Q (F0 m 55 ls []) := by
  have hx := cx.1.1
  have hb := cx.1.2.1
  intro n
  induction n with
  | zero => intro w4 w6 ls H locs M hw hl hf; exact rx_no hf
  | succ n ih =>
    intro w4 w6 ls H locs M hw hl hf
    have hf : qo_X7_citiesAt_55 k144 w1 w2 w3 w5 (rx_lp2 (qo_X7_citiesAt_55 k144 w1 w2 w3 w5) n) w4 w6 M = some o := hf
    refine lv_iload hx hb dX7_citiesAt_55 (lv_at hl 6 rfl) ?_
    refine lv_bipush (v := 8) hx hb dX7_citiesAt_57 ib_8 ?_
    refine lv_icmp_ge hx hb dX7_citiesAt_59 rfl (fun hc => ?_) (fun hc => ?_)
    · have hf := rx_t hc hf
      exact h144 hw (lv_sub hl [0, 1, 2, 3, 4, 5] rfl) hf
    · have hf := rx_f hc hf
      refine lv_aload_n hx hb dX7_citiesAt_62 rfl (lv_at hl 0 rfl) ?_
      refine rx_getr cx hw (frY_0_25 ad cI cL) rfl (inT_X7) (Nat.le_of_ble_eq_true rfl) (.tail _ tw_686) dX7_citiesAt_63 ?_
      refine lv_iload hx hb dX7_citiesAt_66 (lv_at hl 5 rfl) ?_
      obtain ⟨hv1, v1, ev1, hf⟩ := rx_ldI hf
      refine rx_iald cx hw (arY_15 ad cI cL) ⟨hv1, ev1⟩ dX7_citiesAt_68 ?_
      refine lv_iload_n hx hb dX7_citiesAt_69 rfl (lv_at hl 1 rfl) ?_
      refine lv_icmp_ne hx hb dX7_citiesAt_70 rfl (fun hc => ?_) (fun hc => ?_)
      · have hf := rx_f hc hf
        exact h144 hw (lv_sub hl [0, 1, 2, 3, 4, 5] rfl) hf
      · have hf := rx_t hc hf
        refine lv_iload hx hb dX7_citiesAt_73 (lv_at hl 4 rfl) ?_
        refine lv_if_ne hx hb dX7_citiesAt_75 rfl (fun hc => ?_) (fun hc => ?_)
        · have hf := rx_f hc hf
          refine lv_iconst (v := 1) hx hb dX7_citiesAt_131 ic_1 ?_
          refine lv_goto hx hb dX7_citiesAt_132 rfl ?_
          exact (qk_X7_citiesAt_136 cx hret ih) hw (lv_sub hl [0, 1, 2, 3, 5, 6] rfl) hf
        · have hf := rx_t hc hf
          refine lv_aload_n hx hb dX7_citiesAt_78 rfl (lv_at hl 0 rfl) ?_
          refine rx_getr cx hw (frY_0_4 ad cI cL) rfl (inT_X7) (Nat.le_of_ble_eq_true rfl) (.tail _ tw_665) dX7_citiesAt_79 ?_
          refine lv_bipush (v := 8) hx hb dX7_citiesAt_82 ib_8 ?_
          refine lv_aload_n hx hb dX7_citiesAt_84 rfl (lv_at hl 0 rfl) ?_
          refine rx_getr cx hw (frY_0_12 ad cI cL) rfl (inT_X7) (Nat.le_of_ble_eq_true rfl) (.tail _ tw_673) dX7_citiesAt_85 ?_
          refine lv_iload hx hb dX7_citiesAt_88 (lv_at hl 5 rfl) ?_
          refine lv_bipush (v := 8) hx hb dX7_citiesAt_90 ib_8 ?_
          refine lv_idiv hx hb dX7_citiesAt_92 nz_8 ?_
          obtain ⟨hv2, v2, ev2, hf⟩ := rx_ldI hf
          refine rx_iald cx hw (arY_8 ad cI cL) ⟨hv2, ev2⟩ dX7_citiesAt_93 ?_
          refine lv_imul hx hb dX7_citiesAt_94 ?_
          refine lv_iload hx hb dX7_citiesAt_95 (lv_at hl 5 rfl) ?_
          refine lv_bipush (v := 8) hx hb dX7_citiesAt_97 ib_8 ?_
          refine lv_irem hx hb dX7_citiesAt_99 nz_8 ?_
          refine lv_iadd hx hb dX7_citiesAt_100 ?_
          obtain ⟨hv3, v3, ev3, hf⟩ := rx_ldI hf
          refine rx_iald cx hw (arY_4 ad cI cL) ⟨hv3, ev3⟩ dX7_citiesAt_101 ?_
          refine lv_iload hx hb dX7_citiesAt_102 (lv_at hl 6 rfl) ?_
          refine lv_ishr hx hb dX7_citiesAt_104 ?_
          refine lv_iconst (v := 1) hx hb dX7_citiesAt_105 ic_1 ?_
          refine lv_iand hx hb dX7_citiesAt_106 ?_
          refine lv_iconst (v := 1) hx hb dX7_citiesAt_107 ic_1 ?_
          refine lv_icmp_ne hx hb dX7_citiesAt_108 rfl (fun hc => ?_) (fun hc => ?_)
          · have hf := rx_f hc hf
            refine lv_iconst (v := 0) hx hb dX7_citiesAt_135 ic_0 ?_
            exact (qk_X7_citiesAt_136 cx hret ih) hw (lv_sub hl [0, 1, 2, 3, 5, 6] rfl) hf
          · have hf := rx_t hc hf
            refine lv_aload_n hx hb dX7_citiesAt_111 rfl (lv_at hl 0 rfl) ?_
            refine rx_getr cx hw (frY_0_25 ad cI cL) rfl (inT_X7) (Nat.le_of_ble_eq_true rfl) (.tail _ tw_686) dX7_citiesAt_112 ?_
            refine lv_iload hx hb dX7_citiesAt_115 (lv_at hl 5 rfl) ?_
            refine lv_bipush (v := 8) hx hb dX7_citiesAt_117 ib_8 ?_
            refine lv_idiv hx hb dX7_citiesAt_119 nz_8 ?_
            refine lv_bipush (v := 8) hx hb dX7_citiesAt_120 ib_8 ?_
            refine lv_imul hx hb dX7_citiesAt_122 ?_
            refine lv_iload hx hb dX7_citiesAt_123 (lv_at hl 6 rfl) ?_
            refine lv_iadd hx hb dX7_citiesAt_125 ?_
            obtain ⟨hv4, v4, ev4, hf⟩ := rx_ldI hf
            refine rx_iald cx hw (arY_15 ad cI cL) ⟨hv4, ev4⟩ dX7_citiesAt_126 ?_
            refine lv_iload_n hx hb dX7_citiesAt_127 rfl (lv_at hl 3 rfl) ?_
            refine lv_icmp_ne hx hb dX7_citiesAt_128 rfl (fun hc => ?_) (fun hc => ?_)
            · have hf := rx_f hc hf
              refine lv_iconst (v := 0) hx hb dX7_citiesAt_135 ic_0 ?_
              exact (qk_X7_citiesAt_136 cx hret ih) hw (lv_sub hl [0, 1, 2, 3, 5, 6] rfl) hf
            · have hf := rx_t hc hf
              refine lv_iconst (v := 1) hx hb dX7_citiesAt_131 ic_1 ?_
              refine lv_goto hx hb dX7_citiesAt_132 rfl ?_
              exact (qk_X7_citiesAt_136 cx hret ih) hw (lv_sub hl [0, 1, 2, 3, 5, 6] rfl) hf
set_option maxRecDepth 100000 in
set_option maxHeartbeats 4000000 in
theorem qk_X7_citiesAt_144 (cx : rx_C p m c cX7_citiesAt 7 s args wX7_citiesAt RX7 D vwCl (tY cI cL) [] wN A) (hret : rx_RI p l e rm_X7_citiesAt s m args below meth c cX7_citiesAt D vwCl (wY ad cI cL) A Q o) {w1 : Int32} {w2 : Int32} {w3 : Int32} {w4 : Int32} {w5 : Int32} {k21 : Int32 → Int32 → Me → Op} (h21 : ∀ {a4 : Int32} {a5 : Int32} {ls : Array Slot} {H : Heap} {locs : List Loc} {M : Me}, rx_W D vwCl (wY ad cI cL) A s.heap M H locs → lv_has ls 7 [(0, .ref ((ad 0))), (1, .int w1), (2, .int w2), (3, .int w3), (4, .int a4), (5, .int a5)] → k21 a4 a5 M = some o → W p l e rm_X7_citiesAt s m args below meth c H locs 0 0 Q (F0 m 21 ls [])) {ls : Array Slot} {H : Heap} {locs : List Loc} {M : Me} (hw : rx_W D vwCl (wY ad cI cL) A s.heap M H locs) (hl : lv_has ls 7 [(0, .ref ((ad 0))), (1, .int w1), (2, .int w2), (3, .int w3), (4, .int w4), (5, .int w5)]) (hf : qb_X7_citiesAt_144 k21 w1 w2 w3 w4 w5 M = some o) : W p l e rm_X7_citiesAt s m args below meth c H locs 0 0 Q (F0 m 144 ls []) := by
  have hx := cx.1.1
  have hb := cx.1.2.1
  obtain ⟨v1, ev1, hf⟩ := rx_vvI hf
  refine lv_iinc (lv' := [(5, .int v1), (0, .ref ((ad 0))), (1, .int w1), (2, .int w2), (3, .int w3), (4, .int w4)]) hx hb dX7_citiesAt_144 hl (k := 5) rfl (rx_inc ic_1 ev1) (Nat.le_of_ble_eq_true rfl) rfl (fun ls hl => ?_)
  refine lv_goto hx hb dX7_citiesAt_147 rfl ?_
  exact h21 hw (lv_sub hl [1, 2, 3, 4, 5, 0] rfl) hf
set_option maxRecDepth 100000 in
set_option maxHeartbeats 4000000 in
theorem qk_X7_citiesAt_21 (cx : rx_C p m c cX7_citiesAt 7 s args wX7_citiesAt RX7 D vwCl (tY cI cL) [] wN A) (hret : rx_RI p l e rm_X7_citiesAt s m args below meth c cX7_citiesAt D vwCl (wY ad cI cL) A Q o) {w1 : Int32} {w2 : Int32} {w3 : Int32} {k150 : Int32 → Me → Op} (h150 : ∀ {a4 : Int32} {ls : Array Slot} {H : Heap} {locs : List Loc} {M : Me}, rx_W D vwCl (wY ad cI cL) A s.heap M H locs → lv_has ls 7 [(0, .ref ((ad 0))), (1, .int w1), (2, .int w2), (3, .int w3), (4, .int a4)] → k150 a4 M = some o → W p l e rm_X7_citiesAt s m args below meth c H locs 0 0 Q (F0 m 150 ls [])) : ∀ (n : Nat) {w4 : Int32} {w5 : Int32} {ls : Array Slot} {H : Heap} {locs : List Loc} {M : Me}, rx_W D vwCl (wY ad cI cL) A s.heap M H locs → lv_has ls 7 [(0, .ref ((ad 0))), (1, .int w1), (2, .int w2), (3, .int w3), (4, .int w4), (5, .int w5)] → rx_lp2 (qo_X7_citiesAt_21 k150 w1 w2 w3) n w4 w5 M = some o → W p l e rm_X7_citiesAt s m args below meth c H locs 0 0 Q (F0 m 21 ls []) := by
  have hx := cx.1.1
  have hb := cx.1.2.1
  intro n
  induction n with
  | zero => intro w4 w5 ls H locs M hw hl hf; exact rx_no hf
  | succ n ih =>
    intro w4 w5 ls H locs M hw hl hf
    have hf : qo_X7_citiesAt_21 k150 w1 w2 w3 (rx_lp2 (qo_X7_citiesAt_21 k150 w1 w2 w3) n) w4 w5 M = some o := hf
    refine lv_iload hx hb dX7_citiesAt_21 (lv_at hl 5 rfl) ?_
    refine lv_bipush (v := 8) hx hb dX7_citiesAt_23 ib_8 ?_
    refine lv_aload_n hx hb dX7_citiesAt_25 rfl (lv_at hl 0 rfl) ?_
    obtain ⟨v1, ev1, hf⟩ := rx_vvI hf
    refine rx_geti cx hw (fiY_0_9 ad cI cL) rfl (inT_X7) (Nat.le_of_ble_eq_true rfl) (.tail _ tw_670) ev1 dX7_citiesAt_26 ?_
    refine lv_imul hx hb dX7_citiesAt_29 ?_
    refine lv_icmp_ge hx hb dX7_citiesAt_30 rfl (fun hc => ?_) (fun hc => ?_)
    · have hf := rx_t hc hf
      exact h150 hw (lv_sub hl [0, 1, 2, 3, 4] rfl) hf
    · have hf := rx_f hc hf
      refine lv_aload_n hx hb dX7_citiesAt_33 rfl (lv_at hl 0 rfl) ?_
      refine lv_iload_n hx hb dX7_citiesAt_34 rfl (lv_at hl 3 rfl) ?_
      obtain ⟨r2, M3, er2, hf⟩ := rx_clI hf
      refine rx_jVi cx hw (qc_X7_kindOfPiece l D ad cI cL w3) (obY_0 ad cI cL) rfl rfl kfX7_kindOfPiece tw_873 ⟨Nat.le_of_ble_eq_true rfl, Nat.le_of_ble_eq_true rfl, rfl, rfl⟩ rfl hl.1 (Nat.le_of_ble_eq_true rfl) ⟨Nat.zero_le _, Nat.zero_le _⟩ dX7_citiesAt_35 rfl er2 (fun H locs hw => ?_)
      refine lv_iconst (v := 1) hx hb dX7_citiesAt_38 ic_1 ?_
      refine lv_icmp_ne hx hb dX7_citiesAt_39 rfl (fun hc => ?_) (fun hc => ?_)
      · have hf := rx_f hc hf
        exact h150 hw (lv_sub hl [0, 1, 2, 3, 4] rfl) hf
      · have hf := rx_t hc hf
        refine lv_aload_n hx hb dX7_citiesAt_42 rfl (lv_at hl 0 rfl) ?_
        refine rx_getr cx hw (frY_0_25 ad cI cL) rfl (inT_X7) (Nat.le_of_ble_eq_true rfl) (.tail _ tw_686) dX7_citiesAt_43 ?_
        refine lv_iload_n hx hb dX7_citiesAt_46 rfl (lv_at hl 3 rfl) ?_
        obtain ⟨hv4, v4, ev4, hf⟩ := rx_ldI hf
        refine rx_iald cx hw (arY_15 ad cI cL) ⟨hv4, ev4⟩ dX7_citiesAt_47 ?_
        refine lv_iload_n hx hb dX7_citiesAt_48 rfl (lv_at hl 3 rfl) ?_
        refine lv_icmp_ne hx hb dX7_citiesAt_49 rfl (fun hc => ?_) (fun hc => ?_)
        · have hf := rx_f hc hf
          exact h150 hw (lv_sub hl [0, 1, 2, 3, 4] rfl) hf
        · have hf := rx_t hc hf
          refine lv_iconst (v := 0) hx hb dX7_citiesAt_52 ic_0 ?_
          refine lv_istore (lv' := [(6, .int 0), (0, .ref ((ad 0))), (1, .int w1), (2, .int w2), (3, .int w3), (4, .int w4), (5, .int w5)]) hx hb dX7_citiesAt_53 hl (Nat.le_of_ble_eq_true rfl) rfl (fun ls hl => ?_)
          exact (qk_X7_citiesAt_55 cx hret (qk_X7_citiesAt_144 cx hret ih) rx_FU) hw (lv_sub hl [1, 2, 3, 4, 5, 6, 0] rfl) hf
set_option maxRecDepth 100000 in
set_option maxHeartbeats 4000000 in
theorem qk_X7_citiesAt_170 (cx : rx_C p m c cX7_citiesAt 7 s args wX7_citiesAt RX7 D vwCl (tY cI cL) [] wN A) (hret : rx_RI p l e rm_X7_citiesAt s m args below meth c cX7_citiesAt D vwCl (wY ad cI cL) A Q o) {w1 : Int32} {w3 : Int32} {s0 : Int32} {k4 : Int32 → Int32 → Me → Op} (h4 : ∀ {a2 : Int32} {a3 : Int32} {ls : Array Slot} {H : Heap} {locs : List Loc} {M : Me}, rx_W D vwCl (wY ad cI cL) A s.heap M H locs → lv_has ls 7 [(0, .ref ((ad 0))), (1, .int w1), (2, .int a2), (3, .int a3)] → k4 a2 a3 M = some o → W p l e rm_X7_citiesAt s m args below meth c H locs 0 0 Q (F0 m 4 ls [])) {ls : Array Slot} {H : Heap} {locs : List Loc} {M : Me} (hw : rx_W D vwCl (wY ad cI cL) A s.heap M H locs) (hl : lv_has ls 7 [(0, .ref ((ad 0))), (1, .int w1), (3, .int w3)]) (hf : qb_X7_citiesAt_170 k4 w1 w3 s0 M = some o) : W p l e rm_X7_citiesAt s m args below meth c H locs 0 0 Q (F0 m 170 ls [.int s0]) := by
  have hx := cx.1.1
  have hb := cx.1.2.1
  refine lv_istore_n (lv' := [(2, .int s0), (0, .ref ((ad 0))), (1, .int w1), (3, .int w3)]) hx hb dX7_citiesAt_170 rfl hl (Nat.le_of_ble_eq_true rfl) rfl (fun ls hl => ?_)
  obtain ⟨v1, ev1, hf⟩ := rx_vvI hf
  refine lv_iinc (lv' := [(3, .int v1), (2, .int s0), (0, .ref ((ad 0))), (1, .int w1)]) hx hb dX7_citiesAt_171 hl (k := 3) rfl (rx_inc ic_1 ev1) (Nat.le_of_ble_eq_true rfl) rfl (fun ls hl => ?_)
  refine lv_goto hx hb dX7_citiesAt_174 rfl ?_
  exact h4 hw (lv_sub hl [2, 3, 1, 0] rfl) hf
set_option maxRecDepth 100000 in
set_option maxHeartbeats 4000000 in
theorem qk_X7_citiesAt_150 (cx : rx_C p m c cX7_citiesAt 7 s args wX7_citiesAt RX7 D vwCl (tY cI cL) [] wN A) (hret : rx_RI p l e rm_X7_citiesAt s m args below meth c cX7_citiesAt D vwCl (wY ad cI cL) A Q o) {w1 : Int32} {w2 : Int32} {w3 : Int32} {w4 : Int32} {k4 : Int32 → Int32 → Me → Op} (h4 : ∀ {a2 : Int32} {a3 : Int32} {ls : Array Slot} {H : Heap} {locs : List Loc} {M : Me}, rx_W D vwCl (wY ad cI cL) A s.heap M H locs → lv_has ls 7 [(0, .ref ((ad 0))), (1, .int w1), (2, .int a2), (3, .int a3)] → k4 a2 a3 M = some o → W p l e rm_X7_citiesAt s m args below meth c H locs 0 0 Q (F0 m 4 ls [])) {ls : Array Slot} {H : Heap} {locs : List Loc} {M : Me} (hw : rx_W D vwCl (wY ad cI cL) A s.heap M H locs) (hl : lv_has ls 7 [(0, .ref ((ad 0))), (1, .int w1), (2, .int w2), (3, .int w3), (4, .int w4)]) (hf : qb_X7_citiesAt_150 k4 w1 w2 w3 w4 M = some o) : W p l e rm_X7_citiesAt s m args below meth c H locs 0 0 Q (F0 m 150 ls []) := by
  have hx := cx.1.1
  have hb := cx.1.2.1
  refine lv_iload hx hb dX7_citiesAt_150 (lv_at hl 4 rfl) ?_
  refine lv_if_eq hx hb dX7_citiesAt_152 rfl (fun hc => ?_) (fun hc => ?_)
  · have hf := rx_t hc hf
    refine lv_iload_n hx hb dX7_citiesAt_169 rfl (lv_at hl 2 rfl) ?_
    exact (qk_X7_citiesAt_170 cx hret h4) hw (lv_sub hl [0, 1, 3] rfl) hf
  · have hf := rx_f hc hf
    refine lv_aload_n hx hb dX7_citiesAt_155 rfl (lv_at hl 0 rfl) ?_
    refine lv_iload_n hx hb dX7_citiesAt_156 rfl (lv_at hl 3 rfl) ?_
    obtain ⟨r1, M2, er1, hf⟩ := rx_clI hf
    refine rx_jVi cx hw (qc_X7_isFinished l D ad cI cL w3) (obY_0 ad cI cL) rfl rfl kfX7_isFinished tw_893 ⟨Nat.le_of_ble_eq_true rfl, Nat.le_of_ble_eq_true rfl, rfl, rfl⟩ rfl hl.1 (Nat.le_of_ble_eq_true rfl) ⟨Nat.zero_le _, Nat.zero_le _⟩ dX7_citiesAt_157 rfl er1 (fun H locs hw => ?_)
    refine lv_if_eq hx hb dX7_citiesAt_160 rfl (fun hc => ?_) (fun hc => ?_)
    · have hf := rx_t hc hf
      refine lv_iload_n hx hb dX7_citiesAt_169 rfl (lv_at hl 2 rfl) ?_
      exact (qk_X7_citiesAt_170 cx hret h4) hw (lv_sub hl [0, 1, 3] rfl) hf
    · have hf := rx_f hc hf
      refine lv_iload_n hx hb dX7_citiesAt_163 rfl (lv_at hl 2 rfl) ?_
      refine lv_iconst (v := 1) hx hb dX7_citiesAt_164 ic_1 ?_
      refine lv_iadd hx hb dX7_citiesAt_165 ?_
      refine lv_goto hx hb dX7_citiesAt_166 rfl ?_
      exact (qk_X7_citiesAt_170 cx hret h4) hw (lv_sub hl [0, 1, 3] rfl) hf
set_option maxRecDepth 100000 in
set_option maxHeartbeats 4000000 in
theorem qk_X7_citiesAt_4 (cx : rx_C p m c cX7_citiesAt 7 s args wX7_citiesAt RX7 D vwCl (tY cI cL) [] wN A) (hret : rx_RI p l e rm_X7_citiesAt s m args below meth c cX7_citiesAt D vwCl (wY ad cI cL) A Q o) {w1 : Int32} : ∀ (n : Nat) {w2 : Int32} {w3 : Int32} {ls : Array Slot} {H : Heap} {locs : List Loc} {M : Me}, rx_W D vwCl (wY ad cI cL) A s.heap M H locs → lv_has ls 7 [(0, .ref ((ad 0))), (1, .int w1), (2, .int w2), (3, .int w3)] → rx_lp2 (qo_X7_citiesAt_4 w1) n w2 w3 M = some o → W p l e rm_X7_citiesAt s m args below meth c H locs 0 0 Q (F0 m 4 ls []) := by
  have hx := cx.1.1
  have hb := cx.1.2.1
  intro n
  induction n with
  | zero => intro w2 w3 ls H locs M hw hl hf; exact rx_no hf
  | succ n ih =>
    intro w2 w3 ls H locs M hw hl hf
    have hf : qo_X7_citiesAt_4 w1 (rx_lp2 (qo_X7_citiesAt_4 w1) n) w2 w3 M = some o := hf
    refine lv_iload_n hx hb dX7_citiesAt_4 rfl (lv_at hl 3 rfl) ?_
    refine lv_bipush (v := 8) hx hb dX7_citiesAt_5 ib_8 ?_
    refine lv_aload_n hx hb dX7_citiesAt_7 rfl (lv_at hl 0 rfl) ?_
    obtain ⟨v1, ev1, hf⟩ := rx_vvI hf
    refine rx_geti cx hw (fiY_0_9 ad cI cL) rfl (inT_X7) (Nat.le_of_ble_eq_true rfl) (.tail _ tw_670) ev1 dX7_citiesAt_8 ?_
    refine lv_imul hx hb dX7_citiesAt_11 ?_
    refine lv_icmp_ge hx hb dX7_citiesAt_12 rfl (fun hc => ?_) (fun hc => ?_)
    · have hf := rx_t hc hf
      refine lv_iload_n hx hb dX7_citiesAt_177 rfl (lv_at hl 2 rfl) ?_
      exact rx_reti hret hw hf dX7_citiesAt_178
    · have hf := rx_f hc hf
      refine lv_iconst (v := 0) hx hb dX7_citiesAt_15 ic_0 ?_
      refine lv_istore (lv' := [(4, .int 0), (0, .ref ((ad 0))), (1, .int w1), (2, .int w2), (3, .int w3)]) hx hb dX7_citiesAt_16 hl (Nat.le_of_ble_eq_true rfl) rfl (fun ls hl => ?_)
      refine lv_iconst (v := 0) hx hb dX7_citiesAt_18 ic_0 ?_
      refine lv_istore (lv' := [(5, .int 0), (4, .int 0), (0, .ref ((ad 0))), (1, .int w1), (2, .int w2), (3, .int w3)]) hx hb dX7_citiesAt_19 hl (Nat.le_of_ble_eq_true rfl) rfl (fun ls hl => ?_)
      exact (qk_X7_citiesAt_21 cx hret (qk_X7_citiesAt_150 cx hret ih) rx_FU) hw (lv_sub hl [2, 3, 4, 5, 1, 0] rfl) hf
set_option maxRecDepth 100000 in
set_option maxHeartbeats 4000000 in
theorem qk_X7_citiesAt_0 (cx : rx_C p m c cX7_citiesAt 7 s args wX7_citiesAt RX7 D vwCl (tY cI cL) [] wN A) (hret : rx_RI p l e rm_X7_citiesAt s m args below meth c cX7_citiesAt D vwCl (wY ad cI cL) A Q o) {w1 : Int32} {ls : Array Slot} {H : Heap} {locs : List Loc} {M : Me} (hw : rx_W D vwCl (wY ad cI cL) A s.heap M H locs) (hl : lv_has ls 7 [(0, .ref ((ad 0))), (1, .int w1)]) (hf : qf_X7_citiesAt w1 M = some o) : W p l e rm_X7_citiesAt s m args below meth c H locs 0 0 Q (F0 m 0 ls []) := by
  have hx := cx.1.1
  have hb := cx.1.2.1
  refine lv_iconst (v := 0) hx hb dX7_citiesAt_0 ic_0 ?_
  refine lv_istore_n (lv' := [(2, .int 0), (0, .ref ((ad 0))), (1, .int w1)]) hx hb dX7_citiesAt_1 rfl hl (Nat.le_of_ble_eq_true rfl) rfl (fun ls hl => ?_)
  refine lv_iconst (v := 0) hx hb dX7_citiesAt_2 ic_0 ?_
  refine lv_istore_n (lv' := [(3, .int 0), (2, .int 0), (0, .ref ((ad 0))), (1, .int w1)]) hx hb dX7_citiesAt_3 rfl hl (Nat.le_of_ble_eq_true rfl) rfl (fun ls hl => ?_)
  exact (qk_X7_citiesAt_4 cx hret rx_FU) hw (lv_sub hl [2, 3, 1, 0] rfl) hf
end
set_option maxRecDepth 100000 in
theorem qc_X7_citiesAt (l : Launch) (D : va_G) (ad : Nat → Nat) (cI cL : ClassId) (w1 : Int32) : rx_MI l yX7_citiesAt wX7_citiesAt rm_X7_citiesAt D vwCl (wY ad cI cL) (tY cI cL) [] wN [.ref (ad 0), .int w1] (fun M => qf_X7_citiesAt w1 M) :=
  rx_ofI (by decide) rfl wN_ok (Nat.le_of_ble_eq_true rfl) (fun _ _ _ _ _ _ _ _ _ _ _ _ _ cx hret hw hl hf => qk_X7_citiesAt_0 cx hret hw hl hf)
def rm_X7_finalWorth : Room := { frames := 6, cells := 0, slots := 0, locals := 140 }
noncomputable def qf_X7_finalWorth  (w1 : Int32)  (M : Me) : Op :=
  rx_cl (qf_X7_kindOfPiece w1 M) fun r1 M2 => if r1 = 1 then (rx_cl (qf_X7_tilesOf w1 M2) fun r9 M10 => rx_cl (qf_X7_shieldsOf w1 M10) fun r11 M12 => some (r9 + r11, M12)) else (if r1 = 2 then (rx_cl (qf_X7_tilesOf w1 M2) fun r7 M8 => some (r7, M8)) else (if r1 = 4 then (rx_cl (qf_X7_around (w1 / 8) M2) fun r5 M6 => some (1 + r5, M6)) else (rx_cl (qf_X7_citiesAt w1 M2) fun r3 M4 => some (3 * r3, M4))))
section
variable {p : Program} {l : Launch} {e : Env} {s : State} {m : MethodId} {args : Array Value} {below : List Frame} {meth : Method} {c : Code} {Q : State → Prop} {D : va_G} {A : Nat → Prop} {o : Int32 × Me} {ad : Nat → Nat} {cI cL : ClassId} {b1 b2 : Nat}
set_option maxRecDepth 100000 in
set_option maxHeartbeats 4000000 in
theorem qk_X7_finalWorth_0 (cx : rx_C p m c cX7_finalWorth 3 s args wX7_finalWorth RX7 D vwCl (tY cI cL) [] wN A) (hret : rx_RI p l e rm_X7_finalWorth s m args below meth c cX7_finalWorth D vwCl (wY ad cI cL) A Q o) {w1 : Int32} {ls : Array Slot} {H : Heap} {locs : List Loc} {M : Me} (hw : rx_W D vwCl (wY ad cI cL) A s.heap M H locs) (hl : lv_has ls 3 [(0, .ref ((ad 0))), (1, .int w1)]) (hf : qf_X7_finalWorth w1 M = some o) : W p l e rm_X7_finalWorth s m args below meth c H locs 0 0 Q (F0 m 0 ls []) := by
  have hx := cx.1.1
  have hb := cx.1.2.1
  refine lv_aload_n hx hb dX7_finalWorth_0 rfl (lv_at hl 0 rfl) ?_
  refine lv_iload_n hx hb dX7_finalWorth_1 rfl (lv_at hl 1 rfl) ?_
  obtain ⟨r1, M2, er1, hf⟩ := rx_clI hf
  refine rx_jVi cx hw (qc_X7_kindOfPiece l D ad cI cL w1) (obY_0 ad cI cL) rfl rfl kfX7_kindOfPiece tw_873 ⟨Nat.le_of_ble_eq_true rfl, Nat.le_of_ble_eq_true rfl, rfl, rfl⟩ rfl hl.1 (Nat.le_of_ble_eq_true rfl) ⟨Nat.zero_le _, Nat.zero_le _⟩ dX7_finalWorth_2 rfl er1 (fun H locs hw => ?_)
  refine lv_istore_n (lv' := [(2, .int r1), (0, .ref ((ad 0))), (1, .int w1)]) hx hb dX7_finalWorth_5 rfl hl (Nat.le_of_ble_eq_true rfl) rfl (fun ls hl => ?_)
  refine lv_iload_n hx hb dX7_finalWorth_6 rfl (lv_at hl 0 rfl) ?_
  refine lv_iconst (v := 1) hx hb dX7_finalWorth_7 ic_1 ?_
  refine lv_icmp_ne hx hb dX7_finalWorth_8 rfl (fun hc => ?_) (fun hc => ?_)
  · have hf := rx_f hc hf
    refine lv_iload_n hx hb dX7_finalWorth_25 rfl (lv_at hl 0 rfl) ?_
    refine lv_iconst (v := 2) hx hb dX7_finalWorth_26 ic_2 ?_
    refine lv_icmp_ne hx hb dX7_finalWorth_27 rfl (fun hc => ?_) (fun hc => ?_)
    · have hf := rx_f hc hf
      refine lv_iload_n hx hb dX7_finalWorth_38 rfl (lv_at hl 0 rfl) ?_
      refine lv_iconst (v := 4) hx hb dX7_finalWorth_39 ic_4 ?_
      refine lv_icmp_ne hx hb dX7_finalWorth_40 rfl (fun hc => ?_) (fun hc => ?_)
      · have hf := rx_f hc hf
        refine lv_iconst (v := 3) hx hb dX7_finalWorth_56 ic_3 ?_
        refine lv_aload_n hx hb dX7_finalWorth_57 rfl (lv_at hl 1 rfl) ?_
        refine lv_iload_n hx hb dX7_finalWorth_58 rfl (lv_at hl 2 rfl) ?_
        obtain ⟨r3, M4, er3, hf⟩ := rx_clI hf
        refine rx_jVi cx hw (qc_X7_citiesAt l D ad cI cL w1) (obY_0 ad cI cL) rfl rfl kfX7_citiesAt tw_945 ⟨Nat.le_of_ble_eq_true rfl, Nat.le_of_ble_eq_true rfl, rfl, rfl⟩ rfl hl.1 (Nat.le_of_ble_eq_true rfl) ⟨Nat.zero_le _, Nat.zero_le _⟩ dX7_finalWorth_59 rfl er3 (fun H locs hw => ?_)
        refine lv_imul hx hb dX7_finalWorth_62 ?_
        exact rx_reti hret hw hf dX7_finalWorth_63
      · have hf := rx_t hc hf
        refine lv_iconst (v := 1) hx hb dX7_finalWorth_43 ic_1 ?_
        refine lv_aload_n hx hb dX7_finalWorth_44 rfl (lv_at hl 1 rfl) ?_
        refine lv_iload_n hx hb dX7_finalWorth_45 rfl (lv_at hl 2 rfl) ?_
        refine lv_bipush (v := 8) hx hb dX7_finalWorth_46 ib_8 ?_
        refine lv_idiv hx hb dX7_finalWorth_48 nz_8 ?_
        obtain ⟨r5, M6, er5, hf⟩ := rx_clI hf
        refine rx_jVi cx hw (qc_X7_around l D ad cI cL (w1 / 8)) (obY_0 ad cI cL) rfl rfl kfX7_around tw_897 ⟨Nat.le_of_ble_eq_true rfl, Nat.le_of_ble_eq_true rfl, rfl, rfl⟩ rfl hl.1 (Nat.le_of_ble_eq_true rfl) ⟨Nat.zero_le _, Nat.zero_le _⟩ dX7_finalWorth_49 rfl er5 (fun H locs hw => ?_)
        refine lv_iadd hx hb dX7_finalWorth_52 ?_
        refine lv_goto hx hb dX7_finalWorth_53 rfl ?_
        exact rx_reti hret hw hf dX7_finalWorth_63
    · have hf := rx_t hc hf
      refine lv_aload_n hx hb dX7_finalWorth_30 rfl (lv_at hl 1 rfl) ?_
      refine lv_iload_n hx hb dX7_finalWorth_31 rfl (lv_at hl 2 rfl) ?_
      obtain ⟨r7, M8, er7, hf⟩ := rx_clI hf
      refine rx_jVi cx hw (qc_X7_tilesOf l D ad cI cL w1) (obY_0 ad cI cL) rfl rfl kfX7_tilesOf tw_905 ⟨Nat.le_of_ble_eq_true rfl, Nat.le_of_ble_eq_true rfl, rfl, rfl⟩ rfl hl.1 (Nat.le_of_ble_eq_true rfl) ⟨Nat.zero_le _, Nat.zero_le _⟩ dX7_finalWorth_32 rfl er7 (fun H locs hw => ?_)
      refine lv_goto hx hb dX7_finalWorth_35 rfl ?_
      exact rx_reti hret hw hf dX7_finalWorth_63
  · have hf := rx_t hc hf
    refine lv_aload_n hx hb dX7_finalWorth_11 rfl (lv_at hl 1 rfl) ?_
    refine lv_iload_n hx hb dX7_finalWorth_12 rfl (lv_at hl 2 rfl) ?_
    obtain ⟨r9, M10, er9, hf⟩ := rx_clI hf
    refine rx_jVi cx hw (qc_X7_tilesOf l D ad cI cL w1) (obY_0 ad cI cL) rfl rfl kfX7_tilesOf tw_905 ⟨Nat.le_of_ble_eq_true rfl, Nat.le_of_ble_eq_true rfl, rfl, rfl⟩ rfl hl.1 (Nat.le_of_ble_eq_true rfl) ⟨Nat.zero_le _, Nat.zero_le _⟩ dX7_finalWorth_13 rfl er9 (fun H locs hw => ?_)
    refine lv_aload_n hx hb dX7_finalWorth_16 rfl (lv_at hl 1 rfl) ?_
    refine lv_iload_n hx hb dX7_finalWorth_17 rfl (lv_at hl 2 rfl) ?_
    obtain ⟨r11, M12, er11, hf⟩ := rx_clI hf
    refine rx_jVi cx hw (qc_X7_shieldsOf l D ad cI cL w1) (obY_0 ad cI cL) rfl rfl kfX7_shieldsOf tw_909 ⟨Nat.le_of_ble_eq_true rfl, Nat.le_of_ble_eq_true rfl, rfl, rfl⟩ rfl hl.1 (Nat.le_of_ble_eq_true rfl) ⟨Nat.zero_le _, Nat.zero_le _⟩ dX7_finalWorth_18 rfl er11 (fun H locs hw => ?_)
    refine lv_iadd hx hb dX7_finalWorth_21 ?_
    refine lv_goto hx hb dX7_finalWorth_22 rfl ?_
    exact rx_reti hret hw hf dX7_finalWorth_63
end
set_option maxRecDepth 100000 in
theorem qc_X7_finalWorth (l : Launch) (D : va_G) (ad : Nat → Nat) (cI cL : ClassId) (w1 : Int32) : rx_MI l yX7_finalWorth wX7_finalWorth rm_X7_finalWorth D vwCl (wY ad cI cL) (tY cI cL) [] wN [.ref (ad 0), .int w1] (fun M => qf_X7_finalWorth w1 M) :=
  rx_ofI (by decide) rfl wN_ok (Nat.le_of_ble_eq_true rfl) (fun _ _ _ _ _ _ _ _ _ _ _ _ _ cx hret hw hl hf => qk_X7_finalWorth_0 cx hret hw hl hf)
def rm_X7_count : Room := { frames := 7, cells := 0, slots := 0, locals := 162 }
noncomputable def qo_X7_count_6 (k29 : Me → Op)  (rec : Int32 → Me → Op) (w1 : Int32) (M : Me) : Op :=
  if 3 ≤ w1 then (k29 M) else (rx_ld M 12 3 w1 fun v1 => rx_sv M 17 3 w1 v1 fun M2 => rx_vv (w1 + 1) fun v3 => rec v3 M2)
noncomputable def qb_X7_count_115 (k76 : Int32 → Me → Op) (w1 : Int32) (w2 : Int32) (w3 : Int32) (s0 : Int32) (s1 : Int32) (M : Me) : Op :=
  rx_sv M 17 3 s1 s0 fun M1 => rx_vv (w3 + 1) fun v2 => k76 v2 M1
noncomputable def qo_X7_count_76 (k122 : Me → Op) (w1 : Int32) (w2 : Int32) (rec : Int32 → Me → Op) (w3 : Int32) (M : Me) : Op :=
  rx_vv (M 0 8) fun v1 => if v1 ≤ w3 then (k122 M) else (rx_cl (qf_X7_isFirst w1 w3 M) fun r2 M3 => if r2 = 0 then (rx_ld M3 17 3 w3 fun v4 => qb_X7_count_115 rec w1 w2 w3 v4 w3 M3) else (rx_ld M3 17 3 w3 fun v5 => qb_X7_count_115 rec w1 w2 w3 (v5 + w2) w3 M3))
noncomputable def qb_X7_count_122 (k31 : Int32 → Me → Op) (w1 : Int32)  (M : Me) : Op :=
  rx_vv (w1 + 1) fun v1 => k31 v1 M
noncomputable def qo_X7_count_31   (rec : Int32 → Me → Op) (w1 : Int32) (M : Me) : Op :=
  rx_vv (M 0 9) fun v1 => if (8 * v1) ≤ w1 then (some (0, M)) else (rx_cl (qf_X7_kindOfPiece w1 M) fun r2 M3 => if r2 ≤ 0 then (qb_X7_count_122 rec w1 M3) else (rx_ld M3 15 192 w1 fun v4 => if v4 = w1 then (rx_cl (qf_X7_hasFollowers w1 M3) fun r5 M6 => if r5 = 0 then (qb_X7_count_122 rec w1 M6) else (rx_cl (qf_X7_finalWorth w1 M6) fun r7 M8 => rx_lp1 (qo_X7_count_76 (fun M => qb_X7_count_122 rec w1 M) w1 r7) rx_FU 0 M8)) else (qb_X7_count_122 rec w1 M3)))
noncomputable def qb_X7_count_29    (M : Me) : Op :=
  rx_lp1 (qo_X7_count_31) rx_FU 0 M
noncomputable def qf_X7_count    (M : Me) : Op :=
  rx_cl (qf_X7_giveLabels M) fun r1 M2 => rx_lp1 (qo_X7_count_6 (fun M => qb_X7_count_29 M)) rx_FU 0 M2
section
variable {p : Program} {l : Launch} {e : Env} {s : State} {m : MethodId} {args : Array Value} {below : List Frame} {meth : Method} {c : Code} {Q : State → Prop} {D : va_G} {A : Nat → Prop} {o : Int32 × Me} {ad : Nat → Nat} {cI cL : ClassId} {b1 b2 : Nat}
set_option maxRecDepth 100000 in
set_option maxHeartbeats 4000000 in
theorem qk_X7_count_6 (cx : rx_C p m c cX7_count 4 s args wX7_count RX7 D vwCl (tY cI cL) [] wN A) (hret : rx_RV p l e rm_X7_count s m args below meth c cX7_count D vwCl (wY ad cI cL) A Q o) {k29 : Me → Op} (h29 : ∀ {ls : Array Slot} {H : Heap} {locs : List Loc} {M : Me}, rx_W D vwCl (wY ad cI cL) A s.heap M H locs → lv_has ls 4 [(0, .ref ((ad 0)))] → k29 M = some o → W p l e rm_X7_count s m args below meth c H locs 0 0 Q (F0 m 29 ls [])) : ∀ (n : Nat) {w1 : Int32} {ls : Array Slot} {H : Heap} {locs : List Loc} {M : Me}, rx_W D vwCl (wY ad cI cL) A s.heap M H locs → lv_has ls 4 [(0, .ref ((ad 0))), (1, .int w1)] → rx_lp1 (qo_X7_count_6 k29) n w1 M = some o → W p l e rm_X7_count s m args below meth c H locs 0 0 Q (F0 m 6 ls []) := by
  have hx := cx.1.1
  have hb := cx.1.2.1
  intro n
  induction n with
  | zero => intro w1 ls H locs M hw hl hf; exact rx_no hf
  | succ n ih =>
    intro w1 ls H locs M hw hl hf
    have hf : qo_X7_count_6 k29 (rx_lp1 (qo_X7_count_6 k29) n) w1 M = some o := hf
    refine lv_iload_n hx hb dX7_count_6 rfl (lv_at hl 1 rfl) ?_
    refine lv_iconst (v := 3) hx hb dX7_count_7 ic_3 ?_
    refine lv_icmp_ge hx hb dX7_count_8 rfl (fun hc => ?_) (fun hc => ?_)
    · have hf := rx_t hc hf
      exact h29 hw (lv_sub hl [0] rfl) hf
    · have hf := rx_f hc hf
      refine lv_aload_n hx hb dX7_count_11 rfl (lv_at hl 0 rfl) ?_
      refine rx_getr cx hw (frY_0_28 ad cI cL) rfl (inT_X7) (Nat.le_of_ble_eq_true rfl) (.tail _ tw_689) dX7_count_12 ?_
      refine lv_iload_n hx hb dX7_count_15 rfl (lv_at hl 1 rfl) ?_
      refine lv_aload_n hx hb dX7_count_16 rfl (lv_at hl 0 rfl) ?_
      refine rx_getr cx hw (frY_0_16 ad cI cL) rfl (inT_X7) (Nat.le_of_ble_eq_true rfl) (.tail _ tw_677) dX7_count_17 ?_
      refine lv_iload_n hx hb dX7_count_20 rfl (lv_at hl 1 rfl) ?_
      obtain ⟨hv1, v1, ev1, hf⟩ := rx_ldI hf
      refine rx_iald cx hw (arY_12 ad cI cL) ⟨hv1, ev1⟩ dX7_count_21 ?_
      obtain ⟨hM2, M2, eM2, hf⟩ := rx_svI hf
      refine rx_iast cx hw (arY_17 ad cI cL) ⟨hM2, eM2⟩ dX7_count_22 (fun H locs hw => ?_)
      obtain ⟨v3, ev3, hf⟩ := rx_vvI hf
      refine lv_iinc (lv' := [(1, .int v3), (0, .ref ((ad 0)))]) hx hb dX7_count_23 hl (k := 1) rfl (rx_inc ic_1 ev3) (Nat.le_of_ble_eq_true rfl) rfl (fun ls hl => ?_)
      refine lv_goto hx hb dX7_count_26 rfl ?_
      exact ih hw (lv_sub hl [1, 0] rfl) hf
set_option maxRecDepth 100000 in
set_option maxHeartbeats 4000000 in
theorem qk_X7_count_115 (cx : rx_C p m c cX7_count 4 s args wX7_count RX7 D vwCl (tY cI cL) [] wN A) (hret : rx_RV p l e rm_X7_count s m args below meth c cX7_count D vwCl (wY ad cI cL) A Q o) {w1 : Int32} {w2 : Int32} {w3 : Int32} {s0 : Int32} {s1 : Int32} {k76 : Int32 → Me → Op} (h76 : ∀ {a3 : Int32} {ls : Array Slot} {H : Heap} {locs : List Loc} {M : Me}, rx_W D vwCl (wY ad cI cL) A s.heap M H locs → lv_has ls 4 [(0, .ref ((ad 0))), (1, .int w1), (2, .int w2), (3, .int a3)] → k76 a3 M = some o → W p l e rm_X7_count s m args below meth c H locs 0 0 Q (F0 m 76 ls [])) {ls : Array Slot} {H : Heap} {locs : List Loc} {M : Me} (hw : rx_W D vwCl (wY ad cI cL) A s.heap M H locs) (hl : lv_has ls 4 [(0, .ref ((ad 0))), (1, .int w1), (2, .int w2), (3, .int w3)]) (hf : qb_X7_count_115 k76 w1 w2 w3 s0 s1 M = some o) : W p l e rm_X7_count s m args below meth c H locs 0 0 Q (F0 m 115 ls [.int s0, .int s1, .ref ((ad 17))]) := by
  have hx := cx.1.1
  have hb := cx.1.2.1
  obtain ⟨hM1, M1, eM1, hf⟩ := rx_svI hf
  refine rx_iast cx hw (arY_17 ad cI cL) ⟨hM1, eM1⟩ dX7_count_115 (fun H locs hw => ?_)
  obtain ⟨v2, ev2, hf⟩ := rx_vvI hf
  refine lv_iinc (lv' := [(3, .int v2), (0, .ref ((ad 0))), (1, .int w1), (2, .int w2)]) hx hb dX7_count_116 hl (k := 3) rfl (rx_inc ic_1 ev2) (Nat.le_of_ble_eq_true rfl) rfl (fun ls hl => ?_)
  refine lv_goto hx hb dX7_count_119 rfl ?_
  exact h76 hw (lv_sub hl [1, 2, 3, 0] rfl) hf
set_option maxRecDepth 100000 in
set_option maxHeartbeats 4000000 in
theorem qk_X7_count_76 (cx : rx_C p m c cX7_count 4 s args wX7_count RX7 D vwCl (tY cI cL) [] wN A) (hret : rx_RV p l e rm_X7_count s m args below meth c cX7_count D vwCl (wY ad cI cL) A Q o) {w1 : Int32} {w2 : Int32} {k122 : Me → Op} (h122 : ∀ {ls : Array Slot} {H : Heap} {locs : List Loc} {M : Me}, rx_W D vwCl (wY ad cI cL) A s.heap M H locs → lv_has ls 4 [(0, .ref ((ad 0))), (1, .int w1)] → k122 M = some o → W p l e rm_X7_count s m args below meth c H locs 0 0 Q (F0 m 122 ls [])) : ∀ (n : Nat) {w3 : Int32} {ls : Array Slot} {H : Heap} {locs : List Loc} {M : Me}, rx_W D vwCl (wY ad cI cL) A s.heap M H locs → lv_has ls 4 [(0, .ref ((ad 0))), (1, .int w1), (2, .int w2), (3, .int w3)] → rx_lp1 (qo_X7_count_76 k122 w1 w2) n w3 M = some o → W p l e rm_X7_count s m args below meth c H locs 0 0 Q (F0 m 76 ls []) := by
  have hx := cx.1.1
  have hb := cx.1.2.1
  intro n
  induction n with
  | zero => intro w3 ls H locs M hw hl hf; exact rx_no hf
  | succ n ih =>
    intro w3 ls H locs M hw hl hf
    have hf : qo_X7_count_76 k122 w1 w2 (rx_lp1 (qo_X7_count_76 k122 w1 w2) n) w3 M = some o := hf
    refine lv_iload_n hx hb dX7_count_76 rfl (lv_at hl 3 rfl) ?_
    refine lv_aload_n hx hb dX7_count_77 rfl (lv_at hl 0 rfl) ?_
    obtain ⟨v1, ev1, hf⟩ := rx_vvI hf
    refine rx_geti cx hw (fiY_0_8 ad cI cL) rfl (inT_X7) (Nat.le_of_ble_eq_true rfl) (.tail _ tw_669) ev1 dX7_count_78 ?_
    refine lv_icmp_ge hx hb dX7_count_81 rfl (fun hc => ?_) (fun hc => ?_)
    · have hf := rx_t hc hf
      exact h122 hw (lv_sub hl [0, 1] rfl) hf
    · have hf := rx_f hc hf
      refine lv_aload_n hx hb dX7_count_84 rfl (lv_at hl 0 rfl) ?_
      refine rx_getr cx hw (frY_0_28 ad cI cL) rfl (inT_X7) (Nat.le_of_ble_eq_true rfl) (.tail _ tw_689) dX7_count_85 ?_
      refine lv_iload_n hx hb dX7_count_88 rfl (lv_at hl 3 rfl) ?_
      refine lv_aload_n hx hb dX7_count_89 rfl (lv_at hl 0 rfl) ?_
      refine lv_iload_n hx hb dX7_count_90 rfl (lv_at hl 1 rfl) ?_
      refine lv_iload_n hx hb dX7_count_91 rfl (lv_at hl 3 rfl) ?_
      obtain ⟨r2, M3, er2, hf⟩ := rx_clI hf
      refine rx_jVi cx hw (qc_X7_isFirst l D ad cI cL w1 w3) (obY_0 ad cI cL) rfl rfl kfX7_isFirst tw_913 ⟨Nat.le_of_ble_eq_true rfl, Nat.le_of_ble_eq_true rfl, rfl, rfl⟩ rfl hl.1 (Nat.le_of_ble_eq_true rfl) ⟨Nat.zero_le _, Nat.zero_le _⟩ dX7_count_92 rfl er2 (fun H locs hw => ?_)
      refine lv_if_eq hx hb dX7_count_95 rfl (fun hc => ?_) (fun hc => ?_)
      · have hf := rx_t hc hf
        refine lv_aload_n hx hb dX7_count_109 rfl (lv_at hl 0 rfl) ?_
        refine rx_getr cx hw (frY_0_28 ad cI cL) rfl (inT_X7) (Nat.le_of_ble_eq_true rfl) (.tail _ tw_689) dX7_count_110 ?_
        refine lv_iload_n hx hb dX7_count_113 rfl (lv_at hl 3 rfl) ?_
        obtain ⟨hv4, v4, ev4, hf⟩ := rx_ldI hf
        refine rx_iald cx hw (arY_17 ad cI cL) ⟨hv4, ev4⟩ dX7_count_114 ?_
        exact (qk_X7_count_115 cx hret ih) hw hl hf
      · have hf := rx_f hc hf
        refine lv_aload_n hx hb dX7_count_98 rfl (lv_at hl 0 rfl) ?_
        refine rx_getr cx hw (frY_0_28 ad cI cL) rfl (inT_X7) (Nat.le_of_ble_eq_true rfl) (.tail _ tw_689) dX7_count_99 ?_
        refine lv_iload_n hx hb dX7_count_102 rfl (lv_at hl 3 rfl) ?_
        obtain ⟨hv5, v5, ev5, hf⟩ := rx_ldI hf
        refine rx_iald cx hw (arY_17 ad cI cL) ⟨hv5, ev5⟩ dX7_count_103 ?_
        refine lv_iload_n hx hb dX7_count_104 rfl (lv_at hl 2 rfl) ?_
        refine lv_iadd hx hb dX7_count_105 ?_
        refine lv_goto hx hb dX7_count_106 rfl ?_
        exact (qk_X7_count_115 cx hret ih) hw hl hf
set_option maxRecDepth 100000 in
set_option maxHeartbeats 4000000 in
theorem qk_X7_count_122 (cx : rx_C p m c cX7_count 4 s args wX7_count RX7 D vwCl (tY cI cL) [] wN A) (hret : rx_RV p l e rm_X7_count s m args below meth c cX7_count D vwCl (wY ad cI cL) A Q o) {w1 : Int32} {k31 : Int32 → Me → Op} (h31 : ∀ {a1 : Int32} {ls : Array Slot} {H : Heap} {locs : List Loc} {M : Me}, rx_W D vwCl (wY ad cI cL) A s.heap M H locs → lv_has ls 4 [(0, .ref ((ad 0))), (1, .int a1)] → k31 a1 M = some o → W p l e rm_X7_count s m args below meth c H locs 0 0 Q (F0 m 31 ls [])) {ls : Array Slot} {H : Heap} {locs : List Loc} {M : Me} (hw : rx_W D vwCl (wY ad cI cL) A s.heap M H locs) (hl : lv_has ls 4 [(0, .ref ((ad 0))), (1, .int w1)]) (hf : qb_X7_count_122 k31 w1 M = some o) : W p l e rm_X7_count s m args below meth c H locs 0 0 Q (F0 m 122 ls []) := by
  have hx := cx.1.1
  have hb := cx.1.2.1
  obtain ⟨v1, ev1, hf⟩ := rx_vvI hf
  refine lv_iinc (lv' := [(1, .int v1), (0, .ref ((ad 0)))]) hx hb dX7_count_122 hl (k := 1) rfl (rx_inc ic_1 ev1) (Nat.le_of_ble_eq_true rfl) rfl (fun ls hl => ?_)
  refine lv_goto hx hb dX7_count_125 rfl ?_
  exact h31 hw (lv_sub hl [1, 0] rfl) hf
set_option maxRecDepth 100000 in
set_option maxHeartbeats 4000000 in
theorem qk_X7_count_31 (cx : rx_C p m c cX7_count 4 s args wX7_count RX7 D vwCl (tY cI cL) [] wN A) (hret : rx_RV p l e rm_X7_count s m args below meth c cX7_count D vwCl (wY ad cI cL) A Q o) : ∀ (n : Nat) {w1 : Int32} {ls : Array Slot} {H : Heap} {locs : List Loc} {M : Me}, rx_W D vwCl (wY ad cI cL) A s.heap M H locs → lv_has ls 4 [(0, .ref ((ad 0))), (1, .int w1)] → rx_lp1 (qo_X7_count_31) n w1 M = some o → W p l e rm_X7_count s m args below meth c H locs 0 0 Q (F0 m 31 ls []) := by
  have hx := cx.1.1
  have hb := cx.1.2.1
  intro n
  induction n with
  | zero => intro w1 ls H locs M hw hl hf; exact rx_no hf
  | succ n ih =>
    intro w1 ls H locs M hw hl hf
    have hf : qo_X7_count_31 (rx_lp1 (qo_X7_count_31) n) w1 M = some o := hf
    refine lv_iload_n hx hb dX7_count_31 rfl (lv_at hl 1 rfl) ?_
    refine lv_bipush (v := 8) hx hb dX7_count_32 ib_8 ?_
    refine lv_aload_n hx hb dX7_count_34 rfl (lv_at hl 0 rfl) ?_
    obtain ⟨v1, ev1, hf⟩ := rx_vvI hf
    refine rx_geti cx hw (fiY_0_9 ad cI cL) rfl (inT_X7) (Nat.le_of_ble_eq_true rfl) (.tail _ tw_670) ev1 dX7_count_35 ?_
    refine lv_imul hx hb dX7_count_38 ?_
    refine lv_icmp_ge hx hb dX7_count_39 rfl (fun hc => ?_) (fun hc => ?_)
    · have hf := rx_t hc hf
      exact rx_retv hret hw hf dX7_count_128
    · have hf := rx_f hc hf
      refine lv_aload_n hx hb dX7_count_42 rfl (lv_at hl 0 rfl) ?_
      refine lv_iload_n hx hb dX7_count_43 rfl (lv_at hl 1 rfl) ?_
      obtain ⟨r2, M3, er2, hf⟩ := rx_clI hf
      refine rx_jVi cx hw (qc_X7_kindOfPiece l D ad cI cL w1) (obY_0 ad cI cL) rfl rfl kfX7_kindOfPiece tw_873 ⟨Nat.le_of_ble_eq_true rfl, Nat.le_of_ble_eq_true rfl, rfl, rfl⟩ rfl hl.1 (Nat.le_of_ble_eq_true rfl) ⟨Nat.zero_le _, Nat.zero_le _⟩ dX7_count_44 rfl er2 (fun H locs hw => ?_)
      refine lv_if_le hx hb dX7_count_47 rfl (fun hc => ?_) (fun hc => ?_)
      · have hf := rx_t hc hf
        exact (qk_X7_count_122 cx hret ih) hw hl hf
      · have hf := rx_f hc hf
        refine lv_aload_n hx hb dX7_count_50 rfl (lv_at hl 0 rfl) ?_
        refine rx_getr cx hw (frY_0_25 ad cI cL) rfl (inT_X7) (Nat.le_of_ble_eq_true rfl) (.tail _ tw_686) dX7_count_51 ?_
        refine lv_iload_n hx hb dX7_count_54 rfl (lv_at hl 1 rfl) ?_
        obtain ⟨hv4, v4, ev4, hf⟩ := rx_ldI hf
        refine rx_iald cx hw (arY_15 ad cI cL) ⟨hv4, ev4⟩ dX7_count_55 ?_
        refine lv_iload_n hx hb dX7_count_56 rfl (lv_at hl 1 rfl) ?_
        refine lv_icmp_ne hx hb dX7_count_57 rfl (fun hc => ?_) (fun hc => ?_)
        · have hf := rx_f hc hf
          exact (qk_X7_count_122 cx hret ih) hw hl hf
        · have hf := rx_t hc hf
          refine lv_aload_n hx hb dX7_count_60 rfl (lv_at hl 0 rfl) ?_
          refine lv_iload_n hx hb dX7_count_61 rfl (lv_at hl 1 rfl) ?_
          obtain ⟨r5, M6, er5, hf⟩ := rx_clI hf
          refine rx_jVi cx hw (qc_X7_hasFollowers l D ad cI cL w1) (obY_0 ad cI cL) rfl rfl kfX7_hasFollowers tw_881 ⟨Nat.le_of_ble_eq_true rfl, Nat.le_of_ble_eq_true rfl, rfl, rfl⟩ rfl hl.1 (Nat.le_of_ble_eq_true rfl) ⟨Nat.zero_le _, Nat.zero_le _⟩ dX7_count_62 rfl er5 (fun H locs hw => ?_)
          refine lv_if_eq hx hb dX7_count_65 rfl (fun hc => ?_) (fun hc => ?_)
          · have hf := rx_t hc hf
            exact (qk_X7_count_122 cx hret ih) hw hl hf
          · have hf := rx_f hc hf
            refine lv_aload_n hx hb dX7_count_68 rfl (lv_at hl 0 rfl) ?_
            refine lv_iload_n hx hb dX7_count_69 rfl (lv_at hl 1 rfl) ?_
            obtain ⟨r7, M8, er7, hf⟩ := rx_clI hf
            refine rx_jVi cx hw (qc_X7_finalWorth l D ad cI cL w1) (obY_0 ad cI cL) rfl rfl kfX7_finalWorth tw_941 ⟨Nat.le_of_ble_eq_true rfl, Nat.le_of_ble_eq_true rfl, rfl, rfl⟩ rfl hl.1 (Nat.le_of_ble_eq_true rfl) ⟨Nat.zero_le _, Nat.zero_le _⟩ dX7_count_70 rfl er7 (fun H locs hw => ?_)
            refine lv_istore_n (lv' := [(2, .int r7), (0, .ref ((ad 0))), (1, .int w1)]) hx hb dX7_count_73 rfl hl (Nat.le_of_ble_eq_true rfl) rfl (fun ls hl => ?_)
            refine lv_iconst (v := 0) hx hb dX7_count_74 ic_0 ?_
            refine lv_istore_n (lv' := [(3, .int 0), (2, .int r7), (0, .ref ((ad 0))), (1, .int w1)]) hx hb dX7_count_75 rfl hl (Nat.le_of_ble_eq_true rfl) rfl (fun ls hl => ?_)
            exact (qk_X7_count_76 cx hret (qk_X7_count_122 cx hret ih) rx_FU) hw (lv_sub hl [2, 3, 1, 0] rfl) hf
set_option maxRecDepth 100000 in
set_option maxHeartbeats 4000000 in
theorem qk_X7_count_29 (cx : rx_C p m c cX7_count 4 s args wX7_count RX7 D vwCl (tY cI cL) [] wN A) (hret : rx_RV p l e rm_X7_count s m args below meth c cX7_count D vwCl (wY ad cI cL) A Q o) {ls : Array Slot} {H : Heap} {locs : List Loc} {M : Me} (hw : rx_W D vwCl (wY ad cI cL) A s.heap M H locs) (hl : lv_has ls 4 [(0, .ref ((ad 0)))]) (hf : qb_X7_count_29 M = some o) : W p l e rm_X7_count s m args below meth c H locs 0 0 Q (F0 m 29 ls []) := by
  have hx := cx.1.1
  have hb := cx.1.2.1
  refine lv_iconst (v := 0) hx hb dX7_count_29 ic_0 ?_
  refine lv_istore_n (lv' := [(1, .int 0), (0, .ref ((ad 0)))]) hx hb dX7_count_30 rfl hl (Nat.le_of_ble_eq_true rfl) rfl (fun ls hl => ?_)
  exact (qk_X7_count_31 cx hret rx_FU) hw (lv_sub hl [1, 0] rfl) hf
set_option maxRecDepth 100000 in
set_option maxHeartbeats 4000000 in
theorem qk_X7_count_0 (cx : rx_C p m c cX7_count 4 s args wX7_count RX7 D vwCl (tY cI cL) [] wN A) (hret : rx_RV p l e rm_X7_count s m args below meth c cX7_count D vwCl (wY ad cI cL) A Q o) {ls : Array Slot} {H : Heap} {locs : List Loc} {M : Me} (hw : rx_W D vwCl (wY ad cI cL) A s.heap M H locs) (hl : lv_has ls 4 [(0, .ref ((ad 0)))]) (hf : qf_X7_count M = some o) : W p l e rm_X7_count s m args below meth c H locs 0 0 Q (F0 m 0 ls []) := by
  have hx := cx.1.1
  have hb := cx.1.2.1
  refine lv_aload_n hx hb dX7_count_0 rfl (lv_at hl 0 rfl) ?_
  obtain ⟨r1, M2, er1, hf⟩ := rx_clI hf
  refine rx_jVv cx hw (qc_X7_giveLabels l D ad cI cL) (obY_0 ad cI cL) rfl rfl kfX7_giveLabels tw_877 ⟨Nat.le_of_ble_eq_true rfl, Nat.le_of_ble_eq_true rfl, rfl, rfl⟩ rfl hl.1 (Nat.le_of_ble_eq_true rfl) ⟨Nat.zero_le _, Nat.zero_le _⟩ dX7_count_1 rfl er1 (fun H locs hw => ?_)
  refine lv_iconst (v := 0) hx hb dX7_count_4 ic_0 ?_
  refine lv_istore_n (lv' := [(1, .int 0), (0, .ref ((ad 0)))]) hx hb dX7_count_5 rfl hl (Nat.le_of_ble_eq_true rfl) rfl (fun ls hl => ?_)
  exact (qk_X7_count_6 cx hret (qk_X7_count_29 cx hret) rx_FU) hw (lv_sub hl [1, 0] rfl) hf
end
set_option maxRecDepth 100000 in
theorem qc_X7_count (l : Launch) (D : va_G) (ad : Nat → Nat) (cI cL : ClassId) : rx_MV l yX7_count wX7_count rm_X7_count D vwCl (wY ad cI cL) (tY cI cL) [] wN [.ref (ad 0)] (fun M => qf_X7_count M) :=
  rx_ofV (by decide) rfl wN_ok (Nat.le_of_ble_eq_true rfl) (fun _ _ _ _ _ _ _ _ _ _ _ _ _ cx hret hw hl hf => qk_X7_count_0 cx hret hw hl hf)

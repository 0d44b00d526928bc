def rm_X5_liftTile : Room := { frames := 2, cells := 0, slots := 0, locals := 49 }
noncomputable def qo_X5_liftTile_29 (k63 : Me → Op) (w1 : Int32) (w2 : Int32) (rec : Int32 → Me → Op) (w3 : Int32) (M : Me) : Op :=
  if 4 ≤ w3 then (k63 M) else (rx_ls sZ1 w3 fun v1 => rx_ld M 18 441 (w2 + v1) fun v2 => rx_sv M 18 441 (w2 + v1) (v2 - 1) fun M3 => rx_cl (qf_X5_openSide w1 w3 1 M3) fun r4 M5 => rx_vv (w3 + 1) fun v6 => rec v6 M5)
noncomputable def qo_X5_liftTile_65 (k95 : Me → Op) (w1 : Int32) (w2 : Int32) (rec : Int32 → Me → Op) (w3 : Int32) (M : Me) : Op :=
  if (Int32.ofNat sZ2.length) ≤ w3 then (k95 M) else (rx_ls sZ2 w3 fun v1 => rx_ld M 19 441 (w2 + v1) fun v2 => rx_sv M 19 441 (w2 + v1) (v2 - 1) fun M3 => rx_vv (w3 + 1) fun v4 => rec v4 M3)
noncomputable def qb_X5_liftTile_95  (w1 : Int32) (w2 : Int32)  (M : Me) : Op :=
  rx_sv M 17 441 w2 (-1) fun M1 => rx_vv (rx_st M1 2 9 w1) fun M2 => some (0, M2)
noncomputable def qb_X5_liftTile_63  (w1 : Int32) (w2 : Int32)  (M : Me) : Op :=
  rx_lp1 (qo_X5_liftTile_65 (fun M => qb_X5_liftTile_95 w1 w2 M) w1 w2) rx_FU 0 M
noncomputable def qf_X5_liftTile    (M : Me) : Op :=
  rx_vv (M 2 9) fun v1 => rx_vv (v1 - 1) fun v2 => rx_ld M 20 24 v2 fun v3 => rx_ld M 23 24 v2 fun v4 => rx_cl (qf_X3_partTo v4 M) fun r5 M6 => rx_lp1 (qo_X5_liftTile_29 (fun M => qb_X5_liftTile_63 v2 v3 M) v2 v3) rx_FU 0 M6
section
variable {p : Program} {l : Launch} {e : Env} {s : State} {m : MethodId} {args : Array Value} {below : List Frame} {meth : Method} {c : Code} {Q : State → Prop} {D : va_G} {A : Nat → Prop} {o : Int32 × Me} {ad : Nat → Nat} {cI cL : ClassId} {b1 b2 : Nat}
set_option maxRecDepth 100000 in
set_option maxHeartbeats 4000000 in
theorem qk_X5_liftTile_29 (cx : rx_C p m c cX5_liftTile 4 s args wX5_liftTile RX5 D vwCl (tX cI cL) (zX b1 b2) wN A) (hret : rx_RV p l e rm_X5_liftTile s m args below meth c cX5_liftTile D vwCl (wX ad cI cL) A Q o) {w1 : Int32} {w2 : Int32} {k63 : Me → Op} (h63 : ∀ {ls : Array Slot} {H : Heap} {locs : List Loc} {M : Me}, rx_W D vwCl (wX ad cI cL) A s.heap M H locs → lv_has ls 4 [(0, .ref ((ad 2))), (1, .int w1), (2, .int w2)] → k63 M = some o → W p l e rm_X5_liftTile s m args below meth c H locs 0 0 Q (F0 m 63 ls [])) : ∀ (n : Nat) {w3 : Int32} {ls : Array Slot} {H : Heap} {locs : List Loc} {M : Me}, rx_W D vwCl (wX ad cI cL) A s.heap M H locs → lv_has ls 4 [(0, .ref ((ad 2))), (1, .int w1), (2, .int w2), (3, .int w3)] → rx_lp1 (qo_X5_liftTile_29 k63 w1 w2) n w3 M = some o → W p l e rm_X5_liftTile s m args below meth c H locs 0 0 Q (F0 m 29 ls []) := by
  have hx := cx.1.1
  have hb := cx.1.2.1
  intro n
  induction n with
  | zero => intro w3 ls H locs M hw hl hf; exact rx_no hf
  | succ n ih =>
    intro w3 ls H locs M hw hl hf
    have hf : qo_X5_liftTile_29 k63 w1 w2 (rx_lp1 (qo_X5_liftTile_29 k63 w1 w2) n) w3 M = some o := hf
    refine lv_iload_n hx hb dX5_liftTile_29 rfl (lv_at hl 3 rfl) ?_
    refine lv_iconst (v := 4) hx hb dX5_liftTile_30 ic_4 ?_
    refine lv_icmp_ge hx hb dX5_liftTile_31 rfl (fun hc => ?_) (fun hc => ?_)
    · have hf := rx_t hc hf
      exact h63 hw (lv_sub hl [0, 1, 2] rfl) hf
    · have hf := rx_f hc hf
      refine lv_aload_n hx hb dX5_liftTile_34 rfl (lv_at hl 0 rfl) ?_
      refine rx_getr cx hw (frX_2_3 ad cI cL) rfl (inT_X5) (Nat.le_of_ble_eq_true rfl) (.tail _ tw_137) dX5_liftTile_35 ?_
      refine lv_iload_n hx hb dX5_liftTile_38 rfl (lv_at hl 2 rfl) ?_
      refine rx_getsN cx hw (zm1 b1 b2) tn_392 dX5_liftTile_39 ?_
      refine lv_iload_n hx hb dX5_liftTile_42 rfl (lv_at hl 3 rfl) ?_
      obtain ⟨hv1, v1, ev1, hf⟩ := rx_lsI hf
      refine rx_lds cx hw (zm1 b1 b2) ⟨hv1, ev1⟩ dX5_liftTile_43 ?_
      refine lv_iadd hx hb dX5_liftTile_44 ?_
      refine lv_dup2_11 hx hb dX5_liftTile_45 rfl rfl ?_
      obtain ⟨hv2, v2, ev2, hf⟩ := rx_ldI hf
      refine rx_iald cx hw (arX_18 ad cI cL) ⟨hv2, ev2⟩ dX5_liftTile_46 ?_
      refine lv_iconst (v := 1) hx hb dX5_liftTile_47 ic_1 ?_
      refine lv_isub hx hb dX5_liftTile_48 ?_
      obtain ⟨hM3, M3, eM3, hf⟩ := rx_svI hf
      refine rx_iast cx hw (arX_18 ad cI cL) ⟨hM3, eM3⟩ dX5_liftTile_49 (fun H locs hw => ?_)
      refine lv_aload_n hx hb dX5_liftTile_50 rfl (lv_at hl 0 rfl) ?_
      refine lv_iload_n hx hb dX5_liftTile_51 rfl (lv_at hl 1 rfl) ?_
      refine lv_iload_n hx hb dX5_liftTile_52 rfl (lv_at hl 3 rfl) ?_
      refine lv_iconst (v := 1) hx hb dX5_liftTile_53 ic_1 ?_
      obtain ⟨r4, M5, er4, hf⟩ := rx_clI hf
      refine rx_jVv cx hw (qc_X5_openSide l D ad cI cL b1 b2 w1 w3 1) (obX_2 ad cI cL) rfl rfl kfX5_openSide tw_394 ⟨Nat.le_of_ble_eq_true rfl, Nat.le_of_ble_eq_true rfl, rfl, rfl⟩ rfl hl.1 (Nat.le_of_ble_eq_true rfl) ⟨Nat.zero_le _, Nat.zero_le _⟩ dX5_liftTile_54 rfl er4 (fun H locs hw => ?_)
      obtain ⟨v6, ev6, hf⟩ := rx_vvI hf
      refine lv_iinc (lv' := [(3, .int v6), (0, .ref ((ad 2))), (1, .int w1), (2, .int w2)]) hx hb dX5_liftTile_57 hl (k := 3) rfl (rx_inc ic_1 ev6) (Nat.le_of_ble_eq_true rfl) rfl (fun ls hl => ?_)
      refine lv_goto hx hb dX5_liftTile_60 rfl ?_
      exact ih hw (lv_sub hl [1, 2, 3, 0] rfl) hf
set_option maxRecDepth 100000 in
set_option maxHeartbeats 4000000 in
theorem qk_X5_liftTile_65 (cx : rx_C p m c cX5_liftTile 4 s args wX5_liftTile RX5 D vwCl (tX cI cL) (zX b1 b2) wN A) (hret : rx_RV p l e rm_X5_liftTile s m args below meth c cX5_liftTile D vwCl (wX ad cI cL) A Q o) {w1 : Int32} {w2 : Int32} {k95 : Me → Op} (h95 : ∀ {ls : Array Slot} {H : Heap} {locs : List Loc} {M : Me}, rx_W D vwCl (wX ad cI cL) A s.heap M H locs → lv_has ls 4 [(0, .ref ((ad 2))), (1, .int w1), (2, .int w2)] → k95 M = some o → W p l e rm_X5_liftTile s m args below meth c H locs 0 0 Q (F0 m 95 ls [])) : ∀ (n : Nat) {w3 : Int32} {ls : Array Slot} {H : Heap} {locs : List Loc} {M : Me}, rx_W D vwCl (wX ad cI cL) A s.heap M H locs → lv_has ls 4 [(0, .ref ((ad 2))), (1, .int w1), (2, .int w2), (3, .int w3)] → rx_lp1 (qo_X5_liftTile_65 k95 w1 w2) n w3 M = some o → W p l e rm_X5_liftTile s m args below meth c H locs 0 0 Q (F0 m 65 ls []) := by
  have hx := cx.1.1
  have hb := cx.1.2.1
  intro n
  induction n with
  | zero => intro w3 ls H locs M hw hl hf; exact rx_no hf
  | succ n ih =>
    intro w3 ls H locs M hw hl hf
    have hf : qo_X5_liftTile_65 k95 w1 w2 (rx_lp1 (qo_X5_liftTile_65 k95 w1 w2) n) w3 M = some o := hf
    refine lv_iload_n hx hb dX5_liftTile_65 rfl (lv_at hl 3 rfl) ?_
    refine rx_getsN cx hw (zm2 b1 b2) tn_409 dX5_liftTile_66 ?_
    refine rx_lens cx hw (zm2 b1 b2) dX5_liftTile_69 ?_
    refine lv_icmp_ge hx hb dX5_liftTile_70 rfl (fun hc => ?_) (fun hc => ?_)
    · have hf := rx_t hc hf
      exact h95 hw (lv_sub hl [0, 1, 2] rfl) hf
    · have hf := rx_f hc hf
      refine lv_aload_n hx hb dX5_liftTile_73 rfl (lv_at hl 0 rfl) ?_
      refine rx_getr cx hw (frX_2_4 ad cI cL) rfl (inT_X5) (Nat.le_of_ble_eq_true rfl) (.tail _ tw_138) dX5_liftTile_74 ?_
      refine lv_iload_n hx hb dX5_liftTile_77 rfl (lv_at hl 2 rfl) ?_
      refine rx_getsN cx hw (zm2 b1 b2) tn_409 dX5_liftTile_78 ?_
      refine lv_iload_n hx hb dX5_liftTile_81 rfl (lv_at hl 3 rfl) ?_
      obtain ⟨hv1, v1, ev1, hf⟩ := rx_lsI hf
      refine rx_lds cx hw (zm2 b1 b2) ⟨hv1, ev1⟩ dX5_liftTile_82 ?_
      refine lv_iadd hx hb dX5_liftTile_83 ?_
      refine lv_dup2_11 hx hb dX5_liftTile_84 rfl rfl ?_
      obtain ⟨hv2, v2, ev2, hf⟩ := rx_ldI hf
      refine rx_iald cx hw (arX_19 ad cI cL) ⟨hv2, ev2⟩ dX5_liftTile_85 ?_
      refine lv_iconst (v := 1) hx hb dX5_liftTile_86 ic_1 ?_
      refine lv_isub hx hb dX5_liftTile_87 ?_
      obtain ⟨hM3, M3, eM3, hf⟩ := rx_svI hf
      refine rx_iast cx hw (arX_19 ad cI cL) ⟨hM3, eM3⟩ dX5_liftTile_88 (fun H locs hw => ?_)
      obtain ⟨v4, ev4, hf⟩ := rx_vvI hf
      refine lv_iinc (lv' := [(3, .int v4), (0, .ref ((ad 2))), (1, .int w1), (2, .int w2)]) hx hb dX5_liftTile_89 hl (k := 3) rfl (rx_inc ic_1 ev4) (Nat.le_of_ble_eq_true rfl) rfl (fun ls hl => ?_)
      refine lv_goto hx hb dX5_liftTile_92 rfl ?_
      exact ih hw (lv_sub hl [1, 2, 3, 0] rfl) hf
set_option maxRecDepth 100000 in
set_option maxHeartbeats 4000000 in
theorem qk_X5_liftTile_95 (cx : rx_C p m c cX5_liftTile 4 s args wX5_liftTile RX5 D vwCl (tX cI cL) (zX b1 b2) wN A) (hret : rx_RV p l e rm_X5_liftTile s m args below meth c cX5_liftTile D vwCl (wX ad cI cL) A Q o) {w1 : Int32} {w2 : Int32} {ls : Array Slot} {H : Heap} {locs : List Loc} {M : Me} (hw : rx_W D vwCl (wX ad cI cL) A s.heap M H locs) (hl : lv_has ls 4 [(0, .ref ((ad 2))), (1, .int w1), (2, .int w2)]) (hf : qb_X5_liftTile_95 w1 w2 M = some o) : W p l e rm_X5_liftTile s m args below meth c H locs 0 0 Q (F0 m 95 ls []) := by
  have hx := cx.1.1
  have hb := cx.1.2.1
  refine lv_aload_n hx hb dX5_liftTile_95 rfl (lv_at hl 0 rfl) ?_
  refine rx_getr cx hw (frX_2_2 ad cI cL) rfl (inT_X5) (Nat.le_of_ble_eq_true rfl) (.tail _ tw_135) dX5_liftTile_96 ?_
  refine lv_iload_n hx hb dX5_liftTile_99 rfl (lv_at hl 2 rfl) ?_
  refine lv_iconst (v := (-1)) hx hb dX5_liftTile_100 ic_m1 ?_
  obtain ⟨hM1, M1, eM1, hf⟩ := rx_svI hf
  refine rx_iast cx hw (arX_17 ad cI cL) ⟨hM1, eM1⟩ dX5_liftTile_101 (fun H locs hw => ?_)
  refine lv_aload_n hx hb dX5_liftTile_102 rfl (lv_at hl 0 rfl) ?_
  refine lv_iload_n hx hb dX5_liftTile_103 rfl (lv_at hl 1 rfl) ?_
  obtain ⟨M2, eM2, hf⟩ := rx_vvI hf
  refine rx_puti cx hw (fiX_2_9 ad cI cL) rfl (inT_X5) tyX5 tyX5_ok nmX5 (Nat.le_of_ble_eq_true rfl) (.tail _ tw_145) rfl rfl rfl eM2 dX5_liftTile_104 (fun H locs hw => ?_)
  exact rx_retv hret hw hf dX5_liftTile_107
set_option maxRecDepth 100000 in
set_option maxHeartbeats 4000000 in
theorem qk_X5_liftTile_63 (cx : rx_C p m c cX5_liftTile 4 s args wX5_liftTile RX5 D vwCl (tX cI cL) (zX b1 b2) wN A) (hret : rx_RV p l e rm_X5_liftTile s m args below meth c cX5_liftTile D vwCl (wX ad cI cL) A Q o) {w1 : Int32} {w2 : Int32} {ls : Array Slot} {H : Heap} {locs : List Loc} {M : Me} (hw : rx_W D vwCl (wX ad cI cL) A s.heap M H locs) (hl : lv_has ls 4 [(0, .ref ((ad 2))), (1, .int w1), (2, .int w2)]) (hf : qb_X5_liftTile_63 w1 w2 M = some o) : W p l e rm_X5_liftTile s m args below meth c H locs 0 0 Q (F0 m 63 ls []) := by
  have hx := cx.1.1
  have hb := cx.1.2.1
  refine lv_iconst (v := 0) hx hb dX5_liftTile_63 ic_0 ?_
  refine lv_istore_n (lv' := [(3, .int 0), (0, .ref ((ad 2))), (1, .int w1), (2, .int w2)]) hx hb dX5_liftTile_64 rfl hl (Nat.le_of_ble_eq_true rfl) rfl (fun ls hl => ?_)
  exact (qk_X5_liftTile_65 cx hret (qk_X5_liftTile_95 cx hret) rx_FU) hw (lv_sub hl [1, 2, 3, 0] rfl) hf
set_option maxRecDepth 100000 in
set_option maxHeartbeats 4000000 in
theorem qk_X5_liftTile_0 (cx : rx_C p m c cX5_liftTile 4 s args wX5_liftTile RX5 D vwCl (tX cI cL) (zX b1 b2) wN A) (hret : rx_RV p l e rm_X5_liftTile s m args below meth c cX5_liftTile D vwCl (wX ad cI cL) A Q o) {ls : Array Slot} {H : Heap} {locs : List Loc} {M : Me} (hw : rx_W D vwCl (wX ad cI cL) A s.heap M H locs) (hl : lv_has ls 4 [(0, .ref ((ad 2)))]) (hf : qf_X5_liftTile M = some o) : W p l e rm_X5_liftTile s m args below meth c H locs 0 0 Q (F0 m 0 ls []) := by
  have hx := cx.1.1
  have hb := cx.1.2.1
  refine lv_aload_n hx hb dX5_liftTile_0 rfl (lv_at hl 0 rfl) ?_
  obtain ⟨v1, ev1, hf⟩ := rx_vvI hf
  refine rx_geti cx hw (fiX_2_9 ad cI cL) rfl (inT_X5) (Nat.le_of_ble_eq_true rfl) (.tail _ tw_145) ev1 dX5_liftTile_1 ?_
  refine lv_iconst (v := 1) hx hb dX5_liftTile_4 ic_1 ?_
  refine lv_isub hx hb dX5_liftTile_5 ?_
  obtain ⟨v2, ev2, hf⟩ := rx_vvI hf
  refine rx_top ev2 ?_
  refine lv_istore_n (lv' := [(1, .int v2), (0, .ref ((ad 2)))]) hx hb dX5_liftTile_6 rfl hl (Nat.le_of_ble_eq_true rfl) rfl (fun ls hl => ?_)
  refine lv_aload_n hx hb dX5_liftTile_7 rfl (lv_at hl 1 rfl) ?_
  refine rx_getr cx hw (frX_2_5 ad cI cL) rfl (inT_X5) (Nat.le_of_ble_eq_true rfl) (.tail _ tw_139) dX5_liftTile_8 ?_
  refine lv_iload_n hx hb dX5_liftTile_11 rfl (lv_at hl 0 rfl) ?_
  obtain ⟨hv3, v3, ev3, hf⟩ := rx_ldI hf
  refine rx_iald cx hw (arX_20 ad cI cL) ⟨hv3, ev3⟩ dX5_liftTile_12 ?_
  refine lv_istore_n (lv' := [(2, .int v3), (1, .int v2), (0, .ref ((ad 2)))]) hx hb dX5_liftTile_13 rfl hl (Nat.le_of_ble_eq_true rfl) rfl (fun ls hl => ?_)
  refine lv_aload_n hx hb dX5_liftTile_14 rfl (lv_at hl 2 rfl) ?_
  refine rx_getr cx hw (frX_2_1 ad cI cL) rfl (inT_X5) (Nat.le_of_ble_eq_true rfl) (.tail _ tw_132) dX5_liftTile_15 ?_
  refine lv_aload_n hx hb dX5_liftTile_18 rfl (lv_at hl 2 rfl) ?_
  refine rx_getr cx hw (frX_2_8 ad cI cL) rfl (inT_X5) (Nat.le_of_ble_eq_true rfl) (.tail _ tw_144) dX5_liftTile_19 ?_
  refine lv_iload_n hx hb dX5_liftTile_22 rfl (lv_at hl 1 rfl) ?_
  obtain ⟨hv4, v4, ev4, hf⟩ := rx_ldI hf
  refine rx_iald cx hw (arX_23 ad cI cL) ⟨hv4, ev4⟩ dX5_liftTile_23 ?_
  obtain ⟨r5, M6, er5, hf⟩ := rx_clI hf
  refine rx_jVv cx hw (qc_X3_partTo l D ad cI cL b1 b2 v4) (obX_3 ad cI cL) rfl rfl kfX3_partTo tw_388 ⟨Nat.le_of_ble_eq_true rfl, Nat.le_of_ble_eq_true rfl, rfl, rfl⟩ rfl hl.1 (Nat.le_of_ble_eq_true rfl) ⟨Nat.zero_le _, Nat.zero_le _⟩ dX5_liftTile_24 rfl er5 (fun H locs hw => ?_)
  refine lv_iconst (v := 0) hx hb dX5_liftTile_27 ic_0 ?_
  refine lv_istore_n (lv' := [(3, .int 0), (2, .int v3), (1, .int v2), (0, .ref ((ad 2)))]) hx hb dX5_liftTile_28 rfl hl (Nat.le_of_ble_eq_true rfl) rfl (fun ls hl => ?_)
  exact (qk_X5_liftTile_29 cx hret (qk_X5_liftTile_63 cx hret) rx_FU) hw (lv_sub hl [3, 2, 1, 0] rfl) hf
end
set_option maxRecDepth 100000 in
theorem qc_X5_liftTile (l : Launch) (D : va_G) (ad : Nat → Nat) (cI cL : ClassId) (b1 b2 : Nat) : rx_MV l yX5_liftTile wX5_liftTile rm_X5_liftTile D vwCl (wX ad cI cL) (tX cI cL) (zX b1 b2) wN [.ref (ad 2)] (fun M => qf_X5_liftTile M) :=
  rx_ofV (by decide) rfl wN_ok (Nat.le_of_ble_eq_true rfl) (fun _ _ _ _ _ _ _ _ _ _ _ _ _ cx hret hw hl hf => qk_X5_liftTile_0 cx hret hw hl hf)
def rm_X2_stepBack : Room := { frames := 3, cells := 0, slots := 0, locals := 72 }
noncomputable def qf_X2_stepBack    (M : Me) : Op :=
  rx_vv (M 2 9) fun v1 => if v1 = 0 then (some (0, M)) else (rx_vv (M 4 3) fun v2 => if v2 = 0 then (rx_vv (rx_st M 4 6 (-1)) fun M3 => rx_cl (qf_X2_restore M3) fun r4 M5 => rx_vv (rx_st M5 4 3 1) fun M6 => some (0, M6)) else (rx_vv (M 2 9) fun v7 => rx_ld M 21 24 (v7 - 1) fun v8 => rx_vv (rx_st M 4 6 v8) fun M9 => rx_cl (qf_X5_liftTile M9) fun r10 M11 => rx_vv (rx_st M11 4 3 0) fun M12 => some (0, M12)))
section
variable {p : Program} {l : Launch} {e : Env} {s : State} {m : MethodId} {args : Array Value} {below : List Frame} {meth : Method} {c : Code} {Q : State → Prop} {D : va_G} {A : Nat → Prop} {o : Int32 × Me} {ad : Nat → Nat} {cI cL : ClassId} {b1 b2 : Nat}
set_option maxRecDepth 100000 in
set_option maxHeartbeats 4000000 in
theorem qk_X2_stepBack_0 (cx : rx_C p m c cX2_stepBack 1 s args wX2_stepBack RX2 D vwCl (tX cI cL) (zX b1 b2) wN A) (hret : rx_RV p l e rm_X2_stepBack s m args below meth c cX2_stepBack D vwCl (wX ad cI cL) A Q o) {ls : Array Slot} {H : Heap} {locs : List Loc} {M : Me} (hw : rx_W D vwCl (wX ad cI cL) A s.heap M H locs) (hl : lv_has ls 1 [(0, .ref ((ad 4)))]) (hf : qf_X2_stepBack M = some o) : W p l e rm_X2_stepBack s m args below meth c H locs 0 0 Q (F0 m 0 ls []) := by
  have hx := cx.1.1
  have hb := cx.1.2.1
  refine lv_aload_n hx hb dX2_stepBack_0 rfl (lv_at hl 0 rfl) ?_
  refine rx_getr cx hw (frX_4_1 ad cI cL) rfl (inT_X2) (Nat.le_of_ble_eq_true rfl) (.tail _ tw_182) dX2_stepBack_1 ?_
  obtain ⟨v1, ev1, hf⟩ := rx_vvI hf
  refine rx_getiN cx hw (fiX_2_9 ad cI cL) rfl (inT_X5) (Nat.le_of_ble_eq_true rfl) tn_146 ev1 dX2_stepBack_4 ?_
  refine lv_if_ne hx hb dX2_stepBack_7 rfl (fun hc => ?_) (fun hc => ?_)
  · have hf := rx_f hc hf
    refine lv_aload_n hx hb dX2_stepBack_11 rfl (lv_at hl 0 rfl) ?_
    obtain ⟨v2, ev2, hf⟩ := rx_vvI hf
    refine rx_geti cx hw (fiX_4_3 ad cI cL) rfl (inT_X2) (Nat.le_of_ble_eq_true rfl) (.tail _ tw_185) ev2 dX2_stepBack_12 ?_
    refine lv_if_eq hx hb dX2_stepBack_15 rfl (fun hc => ?_) (fun hc => ?_)
    · have hf := rx_t hc hf
      refine lv_aload_n hx hb dX2_stepBack_54 rfl (lv_at hl 0 rfl) ?_
      refine lv_iconst (v := (-1)) hx hb dX2_stepBack_55 ic_m1 ?_
      obtain ⟨M3, eM3, hf⟩ := rx_vvI hf
      refine rx_puti cx hw (fiX_4_6 ad cI cL) rfl (inT_X2) tyX2 tyX2_ok nmX2 (Nat.le_of_ble_eq_true rfl) (.tail _ tw_192) rfl rfl rfl eM3 dX2_stepBack_56 (fun H locs hw => ?_)
      refine lv_aload_n hx hb dX2_stepBack_59 rfl (lv_at hl 0 rfl) ?_
      obtain ⟨r4, M5, er4, hf⟩ := rx_clI hf
      refine rx_jVv cx hw (qc_X2_restore l D ad cI cL b1 b2) (obX_4 ad cI cL) rfl rfl kfX2_restore tw_411 ⟨Nat.le_of_ble_eq_true rfl, Nat.le_of_ble_eq_true rfl, rfl, rfl⟩ rfl hl.1 (Nat.le_of_ble_eq_true rfl) ⟨Nat.zero_le _, Nat.zero_le _⟩ dX2_stepBack_60 rfl er4 (fun H locs hw => ?_)
      refine lv_aload_n hx hb dX2_stepBack_63 rfl (lv_at hl 0 rfl) ?_
      refine lv_iconst (v := 1) hx hb dX2_stepBack_64 ic_1 ?_
      obtain ⟨M6, eM6, hf⟩ := rx_vvI hf
      refine rx_puti cx hw (fiX_4_3 ad cI cL) rfl (inT_X2) tyX2 tyX2_ok nmX2 (Nat.le_of_ble_eq_true rfl) (.tail _ tw_185) rfl rfl rfl eM6 dX2_stepBack_65 (fun H locs hw => ?_)
      exact rx_retv hret hw hf dX2_stepBack_68
    · have hf := rx_f hc hf
      refine lv_aload_n hx hb dX2_stepBack_18 rfl (lv_at hl 0 rfl) ?_
      refine lv_aload_n hx hb dX2_stepBack_19 rfl (lv_at hl 0 rfl) ?_
      refine rx_getr cx hw (frX_4_1 ad cI cL) rfl (inT_X2) (Nat.le_of_ble_eq_true rfl) (.tail _ tw_182) dX2_stepBack_20 ?_
      refine rx_getrN cx hw (frX_2_6 ad cI cL) rfl (inT_X5) (Nat.le_of_ble_eq_true rfl) tn_142 dX2_stepBack_23 ?_
      refine lv_aload_n hx hb dX2_stepBack_26 rfl (lv_at hl 0 rfl) ?_
      refine rx_getr cx hw (frX_4_1 ad cI cL) rfl (inT_X2) (Nat.le_of_ble_eq_true rfl) (.tail _ tw_182) dX2_stepBack_27 ?_
      obtain ⟨v7, ev7, hf⟩ := rx_vvI hf
      refine rx_getiN cx hw (fiX_2_9 ad cI cL) rfl (inT_X5) (Nat.le_of_ble_eq_true rfl) tn_146 ev7 dX2_stepBack_30 ?_
      refine lv_iconst (v := 1) hx hb dX2_stepBack_33 ic_1 ?_
      refine lv_isub hx hb dX2_stepBack_34 ?_
      obtain ⟨hv8, v8, ev8, hf⟩ := rx_ldI hf
      refine rx_iald cx hw (arX_21 ad cI cL) ⟨hv8, ev8⟩ dX2_stepBack_35 ?_
      obtain ⟨M9, eM9, hf⟩ := rx_vvI hf
      refine rx_puti cx hw (fiX_4_6 ad cI cL) rfl (inT_X2) tyX2 tyX2_ok nmX2 (Nat.le_of_ble_eq_true rfl) (.tail _ tw_192) rfl rfl rfl eM9 dX2_stepBack_36 (fun H locs hw => ?_)
      refine lv_aload_n hx hb dX2_stepBack_39 rfl (lv_at hl 0 rfl) ?_
      refine rx_getr cx hw (frX_4_1 ad cI cL) rfl (inT_X2) (Nat.le_of_ble_eq_true rfl) (.tail _ tw_182) dX2_stepBack_40 ?_
      obtain ⟨r10, M11, er10, hf⟩ := rx_clI hf
      refine rx_jVv cx hw (qc_X5_liftTile l D ad cI cL b1 b2) (obX_2 ad cI cL) rfl rfl kfX5_liftTile tw_384 ⟨Nat.le_of_ble_eq_true rfl, Nat.le_of_ble_eq_true rfl, rfl, rfl⟩ rfl hl.1 (Nat.le_of_ble_eq_true rfl) ⟨Nat.zero_le _, Nat.zero_le _⟩ dX2_stepBack_43 rfl er10 (fun H locs hw => ?_)
      refine lv_aload_n hx hb dX2_stepBack_46 rfl (lv_at hl 0 rfl) ?_
      refine lv_iconst (v := 0) hx hb dX2_stepBack_47 ic_0 ?_
      obtain ⟨M12, eM12, hf⟩ := rx_vvI hf
      refine rx_puti cx hw (fiX_4_3 ad cI cL) rfl (inT_X2) tyX2 tyX2_ok nmX2 (Nat.le_of_ble_eq_true rfl) (.tail _ tw_185) rfl rfl rfl eM12 dX2_stepBack_48 (fun H locs hw => ?_)
      refine lv_goto hx hb dX2_stepBack_51 rfl ?_
      exact rx_retv hret hw hf dX2_stepBack_68
  · have hf := rx_t hc hf
    exact rx_retv hret hw hf dX2_stepBack_10
end
set_option maxRecDepth 100000 in
theorem qc_X2_stepBack (l : Launch) (D : va_G) (ad : Nat → Nat) (cI cL : ClassId) (b1 b2 : Nat) : rx_MV l yX2_stepBack wX2_stepBack rm_X2_stepBack D vwCl (wX ad cI cL) (tX cI cL) (zX b1 b2) wN [.ref (ad 4)] (fun M => qf_X2_stepBack M) :=
  rx_ofV (by decide) rfl wN_ok (Nat.le_of_ble_eq_true rfl) (fun _ _ _ _ _ _ _ _ _ _ _ _ _ cx hret hw hl hf => qk_X2_stepBack_0 cx hret hw hl hf)
def rm_J7_fill_34_X : Room := { frames := 0, cells := 0, slots := 0, locals := 0 }
noncomputable def qo_J7_fill_34_X_5  (w1 : Int32) (w3 : Int32) (rec : Int32 → Me → Op) (w2 : Int32) (M : Me) : Op :=
  if w3 ≤ w2 then (some (0, M)) else (rx_sv M 34 3 w2 w1 fun M1 => rx_vv (w2 + 1) fun v2 => rec v2 M1)
noncomputable def qf_J7_fill_34_X  (w1 : Int32)  (M : Me) : Op :=
  rx_vv ((Int32.ofNat 3)) fun v1 => rx_lp1 (qo_J7_fill_34_X_5 w1 v1) rx_FU 0 M
section
variable {p : Program} {l : Launch} {e : Env} {s : State} {m : MethodId} {args : Array Value} {below : List Frame} {meth : Method} {c : Code} {Q : State → Prop} {D : va_G} {A : Nat → Prop} {o : Int32 × Me} {ad : Nat → Nat} {cI cL : ClassId} {b1 b2 : Nat}
set_option maxRecDepth 100000 in
set_option maxHeartbeats 4000000 in
theorem qk_J7_fill_34_X_5 (cx : rx_C p m c cJ7_fill 4 s args wJ7_fill RJ7 D vwCl (tX cI cL) (zX b1 b2) wN A) (hret : rx_RV p l e rm_J7_fill_34_X s m args below meth c cJ7_fill D vwCl (wX ad cI cL) A Q o) {w1 : Int32} {w3 : Int32} : ∀ (n : Nat) {w2 : Int32} {ls : Array Slot} {H : Heap} {locs : List Loc} {M : Me}, rx_W D vwCl (wX ad cI cL) A s.heap M H locs → lv_has ls 4 [(0, .ref ((ad 34))), (1, .int w1), (2, .int w2), (3, .int w3)] → rx_lp1 (qo_J7_fill_34_X_5 w1 w3) n w2 M = some o → W p l e rm_J7_fill_34_X s m args below meth c H locs 0 0 Q (F0 m 5 ls []) := by
  have hx := cx.1.1
  have hb := cx.1.2.1
  intro n
  induction n with
  | zero => intro w2 ls H locs M hw hl hf; exact rx_no hf
  | succ n ih =>
    intro w2 ls H locs M hw hl hf
    have hf : qo_J7_fill_34_X_5 w1 w3 (rx_lp1 (qo_J7_fill_34_X_5 w1 w3) n) w2 M = some o := hf
    refine lv_iload_n hx hb dJ7_fill_5 rfl (lv_at hl 2 rfl) ?_
    refine lv_iload_n hx hb dJ7_fill_6 rfl (lv_at hl 3 rfl) ?_
    refine lv_icmp_ge hx hb dJ7_fill_7 rfl (fun hc => ?_) (fun hc => ?_)
    · have hf := rx_t hc hf
      exact rx_retv hret hw hf dJ7_fill_20
    · have hf := rx_f hc hf
      refine lv_aload_n hx hb dJ7_fill_10 rfl (lv_at hl 0 rfl) ?_
      refine lv_iload_n hx hb dJ7_fill_11 rfl (lv_at hl 2 rfl) ?_
      refine lv_iload_n hx hb dJ7_fill_12 rfl (lv_at hl 1 rfl) ?_
      obtain ⟨hM1, M1, eM1, hf⟩ := rx_svI hf
      refine rx_iast cx hw (arX_34 ad cI cL) ⟨hM1, eM1⟩ dJ7_fill_13 (fun H locs hw => ?_)
      obtain ⟨v2, ev2, hf⟩ := rx_vvI hf
      refine lv_iinc (lv' := [(2, .int v2), (0, .ref ((ad 34))), (1, .int w1), (3, .int w3)]) hx hb dJ7_fill_14 hl (k := 2) rfl (rx_inc ic_1 ev2) (Nat.le_of_ble_eq_true rfl) rfl (fun ls hl => ?_)
      refine lv_goto hx hb dJ7_fill_17 rfl ?_
      exact ih hw (lv_sub hl [1, 2, 0, 3] rfl) hf
set_option maxRecDepth 100000 in
set_option maxHeartbeats 4000000 in
theorem qk_J7_fill_34_X_0 (cx : rx_C p m c cJ7_fill 4 s args wJ7_fill RJ7 D vwCl (tX cI cL) (zX b1 b2) wN A) (hret : rx_RV p l e rm_J7_fill_34_X s m args below meth c cJ7_fill D vwCl (wX ad cI cL) A Q o) {w1 : Int32} {ls : Array Slot} {H : Heap} {locs : List Loc} {M : Me} (hw : rx_W D vwCl (wX ad cI cL) A s.heap M H locs) (hl : lv_has ls 4 [(0, .ref ((ad 34))), (1, .int w1)]) (hf : qf_J7_fill_34_X w1 M = some o) : W p l e rm_J7_fill_34_X s m args below meth c H locs 0 0 Q (F0 m 0 ls []) := by
  have hx := cx.1.1
  have hb := cx.1.2.1
  refine lv_iconst (v := 0) hx hb dJ7_fill_0 ic_0 ?_
  refine lv_istore_n (lv' := [(2, .int 0), (0, .ref ((ad 34))), (1, .int w1)]) hx hb dJ7_fill_1 rfl hl (Nat.le_of_ble_eq_true rfl) rfl (fun ls hl => ?_)
  refine lv_aload_n hx hb dJ7_fill_2 rfl (lv_at hl 1 rfl) ?_
  refine rx_alen cx hw (arX_34 ad cI cL) dJ7_fill_3 ?_
  obtain ⟨v1, ev1, hf⟩ := rx_vvI hf
  refine rx_top ev1 ?_
  refine lv_istore_n (lv' := [(3, .int v1), (2, .int 0), (0, .ref ((ad 34))), (1, .int w1)]) hx hb dJ7_fill_4 rfl hl (Nat.le_of_ble_eq_true rfl) rfl (fun ls hl => ?_)
  exact (qk_J7_fill_34_X_5 cx hret rx_FU) hw (lv_sub hl [2, 3, 1, 0] rfl) hf
end
set_option maxRecDepth 100000 in
theorem qc_J7_fill_34_X (l : Launch) (D : va_G) (ad : Nat → Nat) (cI cL : ClassId) (b1 b2 : Nat) (w1 : Int32) : rx_MV l yJ7_fill wJ7_fill rm_J7_fill_34_X D vwCl (wX ad cI cL) (tX cI cL) (zX b1 b2) wN [.ref (ad 34), .int w1] (fun M => qf_J7_fill_34_X w1 M) :=
  rx_ofV (by decide) rfl wN_ok (Nat.le_of_ble_eq_true rfl) (fun _ _ _ _ _ _ _ _ _ _ _ _ _ cx hret hw hl hf => qk_J7_fill_34_X_0 cx hret hw hl hf)
def rm_J7_fill_35_X : Room := { frames := 0, cells := 0, slots := 0, locals := 0 }
noncomputable def qo_J7_fill_35_X_5  (w1 : Int32) (w3 : Int32) (rec : Int32 → Me → Op) (w2 : Int32) (M : Me) : Op :=
  if w3 ≤ w2 then (some (0, M)) else (rx_sv M 35 3 w2 w1 fun M1 => rx_vv (w2 + 1) fun v2 => rec v2 M1)
noncomputable def qf_J7_fill_35_X  (w1 : Int32)  (M : Me) : Op :=
  rx_vv ((Int32.ofNat 3)) fun v1 => rx_lp1 (qo_J7_fill_35_X_5 w1 v1) rx_FU 0 M
section
variable {p : Program} {l : Launch} {e : Env} {s : State} {m : MethodId} {args : Array Value} {below : List Frame} {meth : Method} {c : Code} {Q : State → Prop} {D : va_G} {A : Nat → Prop} {o : Int32 × Me} {ad : Nat → Nat} {cI cL : ClassId} {b1 b2 : Nat}
set_option maxRecDepth 100000 in
set_option maxHeartbeats 4000000 in
theorem qk_J7_fill_35_X_5 (cx : rx_C p m c cJ7_fill 4 s args wJ7_fill RJ7 D vwCl (tX cI cL) (zX b1 b2) wN A) (hret : rx_RV p l e rm_J7_fill_35_X s m args below meth c cJ7_fill D vwCl (wX ad cI cL) A Q o) {w1 : Int32} {w3 : Int32} : ∀ (n : Nat) {w2 : Int32} {ls : Array Slot} {H : Heap} {locs : List Loc} {M : Me}, rx_W D vwCl (wX ad cI cL) A s.heap M H locs → lv_has ls 4 [(0, .ref ((ad 35))), (1, .int w1), (2, .int w2), (3, .int w3)] → rx_lp1 (qo_J7_fill_35_X_5 w1 w3) n w2 M = some o → W p l e rm_J7_fill_35_X s m args below meth c H locs 0 0 Q (F0 m 5 ls []) := by
  have hx := cx.1.1
  have hb := cx.1.2.1
  intro n
  induction n with
  | zero => intro w2 ls H locs M hw hl hf; exact rx_no hf
  | succ n ih =>
    intro w2 ls H locs M hw hl hf
    have hf : qo_J7_fill_35_X_5 w1 w3 (rx_lp1 (qo_J7_fill_35_X_5 w1 w3) n) w2 M = some o := hf
    refine lv_iload_n hx hb dJ7_fill_5 rfl (lv_at hl 2 rfl) ?_
    refine lv_iload_n hx hb dJ7_fill_6 rfl (lv_at hl 3 rfl) ?_
    refine lv_icmp_ge hx hb dJ7_fill_7 rfl (fun hc => ?_) (fun hc => ?_)
    · have hf := rx_t hc hf
      exact rx_retv hret hw hf dJ7_fill_20
    · have hf := rx_f hc hf
      refine lv_aload_n hx hb dJ7_fill_10 rfl (lv_at hl 0 rfl) ?_
      refine lv_iload_n hx hb dJ7_fill_11 rfl (lv_at hl 2 rfl) ?_
      refine lv_iload_n hx hb dJ7_fill_12 rfl (lv_at hl 1 rfl) ?_
      obtain ⟨hM1, M1, eM1, hf⟩ := rx_svI hf
      refine rx_iast cx hw (arX_35 ad cI cL) ⟨hM1, eM1⟩ dJ7_fill_13 (fun H locs hw => ?_)
      obtain ⟨v2, ev2, hf⟩ := rx_vvI hf
      refine lv_iinc (lv' := [(2, .int v2), (0, .ref ((ad 35))), (1, .int w1), (3, .int w3)]) hx hb dJ7_fill_14 hl (k := 2) rfl (rx_inc ic_1 ev2) (Nat.le_of_ble_eq_true rfl) rfl (fun ls hl => ?_)
      refine lv_goto hx hb dJ7_fill_17 rfl ?_
      exact ih hw (lv_sub hl [1, 2, 0, 3] rfl) hf
set_option maxRecDepth 100000 in
set_option maxHeartbeats 4000000 in
theorem qk_J7_fill_35_X_0 (cx : rx_C p m c cJ7_fill 4 s args wJ7_fill RJ7 D vwCl (tX cI cL) (zX b1 b2) wN A) (hret : rx_RV p l e rm_J7_fill_35_X s m args below meth c cJ7_fill D vwCl (wX ad cI cL) A Q o) {w1 : Int32} {ls : Array Slot} {H : Heap} {locs : List Loc} {M : Me} (hw : rx_W D vwCl (wX ad cI cL) A s.heap M H locs) (hl : lv_has ls 4 [(0, .ref ((ad 35))), (1, .int w1)]) (hf : qf_J7_fill_35_X w1 M = some o) : W p l e rm_J7_fill_35_X s m args below meth c H locs 0 0 Q (F0 m 0 ls []) := by
  have hx := cx.1.1
  have hb := cx.1.2.1
  refine lv_iconst (v := 0) hx hb dJ7_fill_0 ic_0 ?_
  refine lv_istore_n (lv' := [(2, .int 0), (0, .ref ((ad 35))), (1, .int w1)]) hx hb dJ7_fill_1 rfl hl (Nat.le_of_ble_eq_true rfl) rfl (fun ls hl => ?_)
  refine lv_aload_n hx hb dJ7_fill_2 rfl (lv_at hl 1 rfl) ?_
  refine rx_alen cx hw (arX_35 ad cI cL) dJ7_fill_3 ?_
  obtain ⟨v1, ev1, hf⟩ := rx_vvI hf
  refine rx_top ev1 ?_
  refine lv_istore_n (lv' := [(3, .int v1), (2, .int 0), (0, .ref ((ad 35))), (1, .int w1)]) hx hb dJ7_fill_4 rfl hl (Nat.le_of_ble_eq_true rfl) rfl (fun ls hl => ?_)
  exact (qk_J7_fill_35_X_5 cx hret rx_FU) hw (lv_sub hl [2, 3, 1, 0] rfl) hf
end
set_option maxRecDepth 100000 in
theorem qc_J7_fill_35_X (l : Launch) (D : va_G) (ad : Nat → Nat) (cI cL : ClassId) (b1 b2 : Nat) (w1 : Int32) : rx_MV l yJ7_fill wJ7_fill rm_J7_fill_35_X D vwCl (wX ad cI cL) (tX cI cL) (zX b1 b2) wN [.ref (ad 35), .int w1] (fun M => qf_J7_fill_35_X w1 M) :=
  rx_ofV (by decide) rfl wN_ok (Nat.le_of_ble_eq_true rfl) (fun _ _ _ _ _ _ _ _ _ _ _ _ _ cx hret hw hl hf => qk_J7_fill_35_X_0 cx hret hw hl hf)
def rm_X2_steps : Room := { frames := 0, cells := 0, slots := 0, locals := 0 }
noncomputable def qf_X2_steps    (M : Me) : Op :=
  rx_vv (M 4 3) fun v1 => if v1 = 0 then (rx_vv (M 2 9) fun v2 => some (2 * v2, M)) else (rx_vv (M 2 9) fun v3 => some ((2 * v3) - 1, M))
section
variable {p : Program} {l : Launch} {e : Env} {s : State} {m : MethodId} {args : Array Value} {below : List Frame} {meth : Method} {c : Code} {Q : State → Prop} {D : va_G} {A : Nat → Prop} {o : Int32 × Me} {ad : Nat → Nat} {cI cL : ClassId} {b1 b2 : Nat}
set_option maxRecDepth 100000 in
set_option maxHeartbeats 4000000 in
theorem qk_X2_steps_0 (cx : rx_C p m c cX2_steps 1 s args wX2_steps RX2 D vwCl (tX cI cL) (zX b1 b2) wN A) (hret : rx_RI p l e rm_X2_steps s m args below meth c cX2_steps D vwCl (wX ad cI cL) A Q o) {ls : Array Slot} {H : Heap} {locs : List Loc} {M : Me} (hw : rx_W D vwCl (wX ad cI cL) A s.heap M H locs) (hl : lv_has ls 1 [(0, .ref ((ad 4)))]) (hf : qf_X2_steps M = some o) : W p l e rm_X2_steps s m args below meth c H locs 0 0 Q (F0 m 0 ls []) := by
  have hx := cx.1.1
  have hb := cx.1.2.1
  refine lv_aload_n hx hb dX2_steps_0 rfl (lv_at hl 0 rfl) ?_
  obtain ⟨v1, ev1, hf⟩ := rx_vvI hf
  refine rx_geti cx hw (fiX_4_3 ad cI cL) rfl (inT_X2) (Nat.le_of_ble_eq_true rfl) (.tail _ tw_185) ev1 dX2_steps_1 ?_
  refine lv_if_eq hx hb dX2_steps_4 rfl (fun hc => ?_) (fun hc => ?_)
  · have hf := rx_t hc hf
    refine lv_iconst (v := 2) hx hb dX2_steps_21 ic_2 ?_
    refine lv_aload_n hx hb dX2_steps_22 rfl (lv_at hl 0 rfl) ?_
    refine rx_getr cx hw (frX_4_1 ad cI cL) rfl (inT_X2) (Nat.le_of_ble_eq_true rfl) (.tail _ tw_182) dX2_steps_23 ?_
    obtain ⟨v2, ev2, hf⟩ := rx_vvI hf
    refine rx_getiN cx hw (fiX_2_9 ad cI cL) rfl (inT_X5) (Nat.le_of_ble_eq_true rfl) tn_146 ev2 dX2_steps_26 ?_
    refine lv_imul hx hb dX2_steps_29 ?_
    exact rx_reti hret hw hf dX2_steps_30
  · have hf := rx_f hc hf
    refine lv_iconst (v := 2) hx hb dX2_steps_7 ic_2 ?_
    refine lv_aload_n hx hb dX2_steps_8 rfl (lv_at hl 0 rfl) ?_
    refine rx_getr cx hw (frX_4_1 ad cI cL) rfl (inT_X2) (Nat.le_of_ble_eq_true rfl) (.tail _ tw_182) dX2_steps_9 ?_
    obtain ⟨v3, ev3, hf⟩ := rx_vvI hf
    refine rx_getiN cx hw (fiX_2_9 ad cI cL) rfl (inT_X5) (Nat.le_of_ble_eq_true rfl) tn_146 ev3 dX2_steps_12 ?_
    refine lv_imul hx hb dX2_steps_15 ?_
    refine lv_iconst (v := 1) hx hb dX2_steps_16 ic_1 ?_
    refine lv_isub hx hb dX2_steps_17 ?_
    refine lv_goto hx hb dX2_steps_18 rfl ?_
    exact rx_reti hret hw hf dX2_steps_30
end
set_option maxRecDepth 100000 in
theorem qc_X2_steps (l : Launch) (D : va_G) (ad : Nat → Nat) (cI cL : ClassId) (b1 b2 : Nat) : rx_MI l yX2_steps wX2_steps rm_X2_steps D vwCl (wX ad cI cL) (tX cI cL) (zX b1 b2) wN [.ref (ad 4)] (fun M => qf_X2_steps M) :=
  rx_ofI (by decide) rfl wN_ok (Nat.le_of_ble_eq_true rfl) (fun _ _ _ _ _ _ _ _ _ _ _ _ _ cx hret hw hl hf => qk_X2_steps_0 cx hret hw hl hf)
def rm_X2_end : Room := { frames := 4, cells := 0, slots := 0, locals := 92 }
noncomputable def qo_X2_end_5 (k19 : Me → Op)  (rec : Int32 → Me → Op) (w1 : Int32) (M : Me) : Op :=
  if w1 ≤ 0 then (k19 M) else (rx_cl (qf_X2_stepBack M) fun r1 M2 => rx_vv (w1 + (-1)) fun v3 => rec v3 M2)
noncomputable def qb_X2_end_19    (M : Me) : Op :=
  rx_vv (rx_st M 4 2 0) fun M1 => rx_vv (rx_st M1 4 6 (-1)) fun M2 => rx_vv (rx_st M2 4 5 0) fun M3 => rx_vv (rx_st M3 4 7 0) fun M4 => rx_vv (rx_st M4 4 8 0) fun M5 => rx_cl (qf_J7_fill_34_X 0 M5) fun r6 M7 => rx_cl (qf_J7_fill_35_X 7 M7) fun r8 M9 => some (0, M9)
noncomputable def qf_X2_end    (M : Me) : Op :=
  rx_cl (qf_X2_steps M) fun r1 M2 => rx_lp1 (qo_X2_end_5 (fun M => qb_X2_end_19 M)) rx_FU r1 M2
section
variable {p : Program} {l : Launch} {e : Env} {s : State} {m : MethodId} {args : Array Value} {below : List Frame} {meth : Method} {c : Code} {Q : State → Prop} {D : va_G} {A : Nat → Prop} {o : Int32 × Me} {ad : Nat → Nat} {cI cL : ClassId} {b1 b2 : Nat}
set_option maxRecDepth 100000 in
set_option maxHeartbeats 4000000 in
theorem qk_X2_end_5 (cx : rx_C p m c cX2_end 2 s args wX2_end RX2 D vwCl (tX cI cL) (zX b1 b2) wN A) (hret : rx_RV p l e rm_X2_end s m args below meth c cX2_end D vwCl (wX ad cI cL) A Q o) {k19 : Me → Op} (h19 : ∀ {ls : Array Slot} {H : Heap} {locs : List Loc} {M : Me}, rx_W D vwCl (wX ad cI cL) A s.heap M H locs → lv_has ls 2 [(0, .ref ((ad 4)))] → k19 M = some o → W p l e rm_X2_end s m args below meth c H locs 0 0 Q (F0 m 19 ls [])) : ∀ (n : Nat) {w1 : Int32} {ls : Array Slot} {H : Heap} {locs : List Loc} {M : Me}, rx_W D vwCl (wX ad cI cL) A s.heap M H locs → lv_has ls 2 [(0, .ref ((ad 4))), (1, .int w1)] → rx_lp1 (qo_X2_end_5 k19) n w1 M = some o → W p l e rm_X2_end s m args below meth c H locs 0 0 Q (F0 m 5 ls []) := by
  have hx := cx.1.1
  have hb := cx.1.2.1
  intro n
  induction n with
  | zero => intro w1 ls H locs M hw hl hf; exact rx_no hf
  | succ n ih =>
    intro w1 ls H locs M hw hl hf
    have hf : qo_X2_end_5 k19 (rx_lp1 (qo_X2_end_5 k19) n) w1 M = some o := hf
    refine lv_iload_n hx hb dX2_end_5 rfl (lv_at hl 1 rfl) ?_
    refine lv_if_le hx hb dX2_end_6 rfl (fun hc => ?_) (fun hc => ?_)
    · have hf := rx_t hc hf
      exact h19 hw (lv_sub hl [0] rfl) hf
    · have hf := rx_f hc hf
      refine lv_aload_n hx hb dX2_end_9 rfl (lv_at hl 0 rfl) ?_
      obtain ⟨r1, M2, er1, hf⟩ := rx_clI hf
      refine rx_jVv cx hw (qc_X2_stepBack l D ad cI cL b1 b2) (obX_4 ad cI cL) rfl rfl kfX2_stepBack tw_380 ⟨Nat.le_of_ble_eq_true rfl, Nat.le_of_ble_eq_true rfl, rfl, rfl⟩ rfl hl.1 (Nat.le_of_ble_eq_true rfl) ⟨Nat.zero_le _, Nat.zero_le _⟩ dX2_end_10 rfl er1 (fun H locs hw => ?_)
      obtain ⟨v3, ev3, hf⟩ := rx_vvI hf
      refine lv_iinc (lv' := [(1, .int v3), (0, .ref ((ad 4)))]) hx hb dX2_end_13 hl (k := 1) rfl (rx_inc ic_m1 ev3) (Nat.le_of_ble_eq_true rfl) rfl (fun ls hl => ?_)
      refine lv_goto hx hb dX2_end_16 rfl ?_
      exact ih hw (lv_sub hl [1, 0] rfl) hf
set_option maxRecDepth 100000 in
set_option maxHeartbeats 4000000 in
theorem qk_X2_end_19 (cx : rx_C p m c cX2_end 2 s args wX2_end RX2 D vwCl (tX cI cL) (zX b1 b2) wN A) (hret : rx_RV p l e rm_X2_end s m args below meth c cX2_end D vwCl (wX ad cI cL) A Q o) {ls : Array Slot} {H : Heap} {locs : List Loc} {M : Me} (hw : rx_W D vwCl (wX ad cI cL) A s.heap M H locs) (hl : lv_has ls 2 [(0, .ref ((ad 4)))]) (hf : qb_X2_end_19 M = some o) : W p l e rm_X2_end s m args below meth c H locs 0 0 Q (F0 m 19 ls []) := by
  have hx := cx.1.1
  have hb := cx.1.2.1
  refine lv_aload_n hx hb dX2_end_19 rfl (lv_at hl 0 rfl) ?_
  refine lv_iconst (v := 0) hx hb dX2_end_20 ic_0 ?_
  obtain ⟨M1, eM1, hf⟩ := rx_vvI hf
  refine rx_puti cx hw (fiX_4_2 ad cI cL) rfl (inT_X2) tyX2 tyX2_ok nmX2 (Nat.le_of_ble_eq_true rfl) (.tail _ tw_183) rfl rfl rfl eM1 dX2_end_21 (fun H locs hw => ?_)
  refine lv_aload_n hx hb dX2_end_24 rfl (lv_at hl 0 rfl) ?_
  refine lv_iconst (v := (-1)) hx hb dX2_end_25 ic_m1 ?_
  obtain ⟨M2, eM2, hf⟩ := rx_vvI hf
  refine rx_puti cx hw (fiX_4_6 ad cI cL) rfl (inT_X2) tyX2 tyX2_ok nmX2 (Nat.le_of_ble_eq_true rfl) (.tail _ tw_192) rfl rfl rfl eM2 dX2_end_26 (fun H locs hw => ?_)
  refine lv_aload_n hx hb dX2_end_29 rfl (lv_at hl 0 rfl) ?_
  refine lv_iconst (v := 0) hx hb dX2_end_30 ic_0 ?_
  obtain ⟨M3, eM3, hf⟩ := rx_vvI hf
  refine rx_puti cx hw (fiX_4_5 ad cI cL) rfl (inT_X2) tyX2 tyX2_ok nmX2 (Nat.le_of_ble_eq_true rfl) (.tail _ tw_191) rfl rfl rfl eM3 dX2_end_31 (fun H locs hw => ?_)
  refine lv_aload_n hx hb dX2_end_34 rfl (lv_at hl 0 rfl) ?_
  refine lv_iconst (v := 0) hx hb dX2_end_35 ic_0 ?_
  obtain ⟨M4, eM4, hf⟩ := rx_vvI hf
  refine rx_puti cx hw (fiX_4_7 ad cI cL) rfl (inT_X2) tyX2 tyX2_ok nmX2 (Nat.le_of_ble_eq_true rfl) (.tail _ tw_195) rfl rfl rfl eM4 dX2_end_36 (fun H locs hw => ?_)
  refine lv_aload_n hx hb dX2_end_39 rfl (lv_at hl 0 rfl) ?_
  refine lv_iconst (v := 0) hx hb dX2_end_40 ic_0 ?_
  obtain ⟨M5, eM5, hf⟩ := rx_vvI hf
  refine rx_puti cx hw (fiX_4_8 ad cI cL) rfl (inT_X2) tyX2 tyX2_ok nmX2 (Nat.le_of_ble_eq_true rfl) (.tail _ tw_197) rfl rfl rfl eM5 dX2_end_41 (fun H locs hw => ?_)
  refine lv_aload_n hx hb dX2_end_44 rfl (lv_at hl 0 rfl) ?_
  refine rx_getr cx hw (frX_4_9 ad cI cL) rfl (inT_X2) (Nat.le_of_ble_eq_true rfl) (.tail _ tw_199) dX2_end_45 ?_
  refine lv_iconst (v := 0) hx hb dX2_end_48 ic_0 ?_
  obtain ⟨r6, M7, er6, hf⟩ := rx_clI hf
  refine rx_jSv cx hw (qc_J7_fill_34_X l D ad cI cL b1 b2 0) kfJ7_fill tw_419 ⟨Nat.le_of_ble_eq_true rfl, Nat.le_of_ble_eq_true rfl, rfl, rfl⟩ rfl hl.1 (Nat.le_of_ble_eq_true rfl) ⟨Nat.zero_le _, Nat.zero_le _⟩ dX2_end_49 rfl er6 (fun H locs hw => ?_)
  refine lv_aload_n hx hb dX2_end_52 rfl (lv_at hl 0 rfl) ?_
  refine rx_getr cx hw (frX_4_10 ad cI cL) rfl (inT_X2) (Nat.le_of_ble_eq_true rfl) (.tail _ tw_201) dX2_end_53 ?_
  refine lv_bipush (v := 7) hx hb dX2_end_56 ib_7 ?_
  obtain ⟨r8, M9, er8, hf⟩ := rx_clI hf
  refine rx_jSv cx hw (qc_J7_fill_35_X l D ad cI cL b1 b2 7) kfJ7_fill tw_419 ⟨Nat.le_of_ble_eq_true rfl, Nat.le_of_ble_eq_true rfl, rfl, rfl⟩ rfl hl.1 (Nat.le_of_ble_eq_true rfl) ⟨Nat.zero_le _, Nat.zero_le _⟩ dX2_end_58 rfl er8 (fun H locs hw => ?_)
  exact rx_retv hret hw hf dX2_end_61
set_option maxRecDepth 100000 in
set_option maxHeartbeats 4000000 in
theorem qk_X2_end_0 (cx : rx_C p m c cX2_end 2 s args wX2_end RX2 D vwCl (tX cI cL) (zX b1 b2) wN A) (hret : rx_RV p l e rm_X2_end s m args below meth c cX2_end D vwCl (wX ad cI cL) A Q o) {ls : Array Slot} {H : Heap} {locs : List Loc} {M : Me} (hw : rx_W D vwCl (wX ad cI cL) A s.heap M H locs) (hl : lv_has ls 2 [(0, .ref ((ad 4)))]) (hf : qf_X2_end M = some o) : W p l e rm_X2_end s m args below meth c H locs 0 0 Q (F0 m 0 ls []) := by
  have hx := cx.1.1
  have hb := cx.1.2.1
  refine lv_aload_n hx hb dX2_end_0 rfl (lv_at hl 0 rfl) ?_
  obtain ⟨r1, M2, er1, hf⟩ := rx_clI hf
  refine rx_jVi cx hw (qc_X2_steps l D ad cI cL b1 b2) (obX_4 ad cI cL) rfl rfl kfX2_steps tw_376 ⟨Nat.le_of_ble_eq_true rfl, Nat.le_of_ble_eq_true rfl, rfl, rfl⟩ rfl hl.1 (Nat.le_of_ble_eq_true rfl) ⟨Nat.zero_le _, Nat.zero_le _⟩ dX2_end_1 rfl er1 (fun H locs hw => ?_)
  refine lv_istore_n (lv' := [(1, .int r1), (0, .ref ((ad 4)))]) hx hb dX2_end_4 rfl hl (Nat.le_of_ble_eq_true rfl) rfl (fun ls hl => ?_)
  exact (qk_X2_end_5 cx hret (qk_X2_end_19 cx hret) rx_FU) hw (lv_sub hl [1, 0] rfl) hf
end
set_option maxRecDepth 100000 in
theorem qc_X2_end (l : Launch) (D : va_G) (ad : Nat → Nat) (cI cL : ClassId) (b1 b2 : Nat) : rx_MV l yX2_end wX2_end rm_X2_end D vwCl (wX ad cI cL) (tX cI cL) (zX b1 b2) wN [.ref (ad 4)] (fun M => qf_X2_end M) :=
  rx_ofV (by decide) rfl wN_ok (Nat.le_of_ble_eq_true rfl) (fun _ _ _ _ _ _ _ _ _ _ _ _ _ cx hret hw hl hf => qk_X2_end_0 cx hret hw hl hf)
def rm_X5_sidesMatch : Room := { frames := 0, cells := 0, slots := 0, locals := 0 }
noncomputable def qb_X5_sidesMatch_100 (k3 : Int32 → Me → Op) (w1 : Int32) (w2 : Int32) (w3 : Int32) (w4 : Int32)  (M : Me) : Op :=
  rx_vv (w4 + 1) fun v1 => k3 v1 M
noncomputable def qo_X5_sidesMatch_3  (w1 : Int32) (w2 : Int32) (w3 : Int32) (rec : Int32 → Me → Op) (w4 : Int32) (M : Me) : Op :=
  if 4 ≤ w4 then (rx_zb 1 (some (1, M))) else (rx_ls sZ1 w4 fun v1 => rx_ld M 17 441 (w2 + v1) fun v2 => if v2 = (-1) then (qb_X5_sidesMatch_100 rec w1 w2 w3 w4 M) else (rx_vv (((w4 + 4) - w3) - ((w4 + 4) - w3) / 4 * 4) fun v3 => rx_ld M 22 24 v2 fun v4 => rx_vv ((((w4 + 2) + 4) - v4) - (((w4 + 2) + 4) - v4) / 4 * 4) fun v5 => rx_ld M 10 48 ((w1 * 4) + v3) fun v6 => rx_ld M 21 24 v2 fun v7 => rx_ld M 10 48 ((v7 * 4) + v5) fun v8 => if v6 = v8 then (qb_X5_sidesMatch_100 rec w1 w2 w3 w4 M) else (rx_zb 0 (some (0, M)))))
noncomputable def qf_X5_sidesMatch  (w1 : Int32) (w2 : Int32) (w3 : Int32)  (M : Me) : Op :=
  rx_lp1 (qo_X5_sidesMatch_3 w1 w2 w3) rx_FU 0 M
section
variable {p : Program} {l : Launch} {e : Env} {s : State} {m : MethodId} {args : Array Value} {below : List Frame} {meth : Method} {c : Code} {Q : State → Prop} {D : va_G} {A : Nat → Prop} {o : Int32 × Me} {ad : Nat → Nat} {cI cL : ClassId} {b1 b2 : Nat}
set_option maxRecDepth 100000 in
set_option maxHeartbeats 4000000 in
theorem qk_X5_sidesMatch_100 (cx : rx_C p m c cX5_sidesMatch 8 s args wX5_sidesMatch RX5 D vwCl (tX cI cL) (zX b1 b2) wN A) (hret : rx_RZ p l e rm_X5_sidesMatch s m args below meth c cX5_sidesMatch D vwCl (wX ad cI cL) A Q o) {w1 : Int32} {w2 : Int32} {w3 : Int32} {w4 : Int32} {k3 : Int32 → Me → Op} (h3 : ∀ {a4 : Int32} {ls : Array Slot} {H : Heap} {locs : List Loc} {M : Me}, rx_W D vwCl (wX ad cI cL) A s.heap M H locs → lv_has ls 8 [(0, .ref ((ad 2))), (1, .int w1), (2, .int w2), (3, .int w3), (4, .int a4)] → k3 a4 M = some o → W p l e rm_X5_sidesMatch s m args below meth c H locs 0 0 Q (F0 m 3 ls [])) {ls : Array Slot} {H : Heap} {locs : List Loc} {M : Me} (hw : rx_W D vwCl (wX ad cI cL) A s.heap M H locs) (hl : lv_has ls 8 [(0, .ref ((ad 2))), (1, .int w1), (2, .int w2), (3, .int w3), (4, .int w4)]) (hf : qb_X5_sidesMatch_100 k3 w1 w2 w3 w4 M = some o) : W p l e rm_X5_sidesMatch s m args below meth c H locs 0 0 Q (F0 m 100 ls []) := by
  have hx := cx.1.1
  have hb := cx.1.2.1
  obtain ⟨v1, ev1, hf⟩ := rx_vvI hf
  refine lv_iinc (lv' := [(4, .int v1), (0, .ref ((ad 2))), (1, .int w1), (2, .int w2), (3, .int w3)]) hx hb dX5_sidesMatch_100 hl (k := 4) rfl (rx_inc ic_1 ev1) (Nat.le_of_ble_eq_true rfl) rfl (fun ls hl => ?_)
  refine lv_goto hx hb dX5_sidesMatch_103 rfl ?_
  exact h3 hw (lv_sub hl [1, 2, 3, 4, 0] rfl) hf
set_option maxRecDepth 100000 in
set_option maxHeartbeats 4000000 in
theorem qk_X5_sidesMatch_3 (cx : rx_C p m c cX5_sidesMatch 8 s args wX5_sidesMatch RX5 D vwCl (tX cI cL) (zX b1 b2) wN A) (hret : rx_RZ p l e rm_X5_sidesMatch s m args below meth c cX5_sidesMatch D vwCl (wX ad cI cL) A Q o) {w1 : Int32} {w2 : Int32} {w3 : Int32} : ∀ (n : Nat) {w4 : Int32} {ls : Array Slot} {H : Heap} {locs : List Loc} {M : Me}, rx_W D vwCl (wX ad cI cL) A s.heap M H locs → lv_has ls 8 [(0, .ref ((ad 2))), (1, .int w1), (2, .int w2), (3, .int w3), (4, .int w4)] → rx_lp1 (qo_X5_sidesMatch_3 w1 w2 w3) n w4 M = some o → W p l e rm_X5_sidesMatch s m args below meth c H locs 0 0 Q (F0 m 3 ls []) := by
  have hx := cx.1.1
  have hb := cx.1.2.1
  intro n
  induction n with
  | zero => intro w4 ls H locs M hw hl hf; exact rx_no hf
  | succ n ih =>
    intro w4 ls H locs M hw hl hf
    have hf : qo_X5_sidesMatch_3 w1 w2 w3 (rx_lp1 (qo_X5_sidesMatch_3 w1 w2 w3) n) w4 M = some o := hf
    refine lv_iload hx hb dX5_sidesMatch_3 (lv_at hl 4 rfl) ?_
    refine lv_iconst (v := 4) hx hb dX5_sidesMatch_5 ic_4 ?_
    refine lv_icmp_ge hx hb dX5_sidesMatch_6 rfl (fun hc => ?_) (fun hc => ?_)
    · have hf := rx_t hc hf
      refine lv_iconst (v := 1) hx hb dX5_sidesMatch_106 ic_1 ?_
      exact rx_retz hret hw hf dX5_sidesMatch_107
    · have hf := rx_f hc hf
      refine lv_aload_n hx hb dX5_sidesMatch_9 rfl (lv_at hl 0 rfl) ?_
      refine rx_getr cx hw (frX_2_2 ad cI cL) rfl (inT_X5) (Nat.le_of_ble_eq_true rfl) (.tail _ tw_135) dX5_sidesMatch_10 ?_
      refine lv_iload_n hx hb dX5_sidesMatch_13 rfl (lv_at hl 2 rfl) ?_
      refine rx_getsN cx hw (zm1 b1 b2) tn_392 dX5_sidesMatch_14 ?_
      refine lv_iload hx hb dX5_sidesMatch_17 (lv_at hl 4 rfl) ?_
      obtain ⟨hv1, v1, ev1, hf⟩ := rx_lsI hf
      refine rx_lds cx hw (zm1 b1 b2) ⟨hv1, ev1⟩ dX5_sidesMatch_19 ?_
      refine lv_iadd hx hb dX5_sidesMatch_20 ?_
      obtain ⟨hv2, v2, ev2, hf⟩ := rx_ldI hf
      refine rx_iald cx hw (arX_17 ad cI cL) ⟨hv2, ev2⟩ dX5_sidesMatch_21 ?_
      refine lv_istore (lv' := [(5, .int v2), (0, .ref ((ad 2))), (1, .int w1), (2, .int w2), (3, .int w3), (4, .int w4)]) hx hb dX5_sidesMatch_22 hl (Nat.le_of_ble_eq_true rfl) rfl (fun ls hl => ?_)
      refine lv_iload hx hb dX5_sidesMatch_24 (lv_at hl 0 rfl) ?_
      refine lv_iconst (v := (-1)) hx hb dX5_sidesMatch_26 ic_m1 ?_
      refine lv_icmp_ne hx hb dX5_sidesMatch_27 rfl (fun hc => ?_) (fun hc => ?_)
      · have hf := rx_f hc hf
        refine lv_iload hx hb dX5_sidesMatch_33 (lv_at hl 5 rfl) ?_
        refine lv_iconst (v := 4) hx hb dX5_sidesMatch_35 ic_4 ?_
        refine lv_iadd hx hb dX5_sidesMatch_36 ?_
        refine lv_iload_n hx hb dX5_sidesMatch_37 rfl (lv_at hl 4 rfl) ?_
        refine lv_isub hx hb dX5_sidesMatch_38 ?_
        refine lv_iconst (v := 4) hx hb dX5_sidesMatch_39 ic_4 ?_
        refine lv_irem hx hb dX5_sidesMatch_40 nz_4 ?_
        obtain ⟨v3, ev3, hf⟩ := rx_vvI hf
        refine rx_top ev3 ?_
        refine lv_istore (lv' := [(6, .int v3), (5, .int v2), (0, .ref ((ad 2))), (1, .int w1), (2, .int w2), (3, .int w3), (4, .int w4)]) hx hb dX5_sidesMatch_41 hl (Nat.le_of_ble_eq_true rfl) rfl (fun ls hl => ?_)
        refine lv_iload hx hb dX5_sidesMatch_43 (lv_at hl 6 rfl) ?_
        refine lv_iconst (v := 2) hx hb dX5_sidesMatch_45 ic_2 ?_
        refine lv_iadd hx hb dX5_sidesMatch_46 ?_
        refine lv_iconst (v := 4) hx hb dX5_sidesMatch_47 ic_4 ?_
        refine lv_iadd hx hb dX5_sidesMatch_48 ?_
        refine lv_aload_n hx hb dX5_sidesMatch_49 rfl (lv_at hl 2 rfl) ?_
        refine rx_getr cx hw (frX_2_7 ad cI cL) rfl (inT_X5) (Nat.le_of_ble_eq_true rfl) (.tail _ tw_143) dX5_sidesMatch_50 ?_
        refine lv_iload hx hb dX5_sidesMatch_53 (lv_at hl 1 rfl) ?_
        obtain ⟨hv4, v4, ev4, hf⟩ := rx_ldI hf
        refine rx_iald cx hw (arX_22 ad cI cL) ⟨hv4, ev4⟩ dX5_sidesMatch_55 ?_
        refine lv_isub hx hb dX5_sidesMatch_56 ?_
        refine lv_iconst (v := 4) hx hb dX5_sidesMatch_57 ic_4 ?_
        refine lv_irem hx hb dX5_sidesMatch_58 nz_4 ?_
        obtain ⟨v5, ev5, hf⟩ := rx_vvI hf
        refine rx_top ev5 ?_
        refine lv_istore (lv' := [(7, .int v5), (6, .int v3), (5, .int v2), (0, .ref ((ad 2))), (1, .int w1), (2, .int w2), (3, .int w3), (4, .int w4)]) hx hb dX5_sidesMatch_59 hl (Nat.le_of_ble_eq_true rfl) rfl (fun ls hl => ?_)
        refine lv_aload_n hx hb dX5_sidesMatch_61 rfl (lv_at hl 3 rfl) ?_
        refine rx_getr cx hw (frX_2_0 ad cI cL) rfl (inT_X5) (Nat.le_of_ble_eq_true rfl) (.tail _ tw_131) dX5_sidesMatch_62 ?_
        refine rx_getrN cx hw (frX_1_1 ad cI cL) rfl (inT_X0) (Nat.le_of_ble_eq_true rfl) tn_30 dX5_sidesMatch_65 ?_
        refine lv_iload_n hx hb dX5_sidesMatch_68 rfl (lv_at hl 4 rfl) ?_
        refine lv_iconst (v := 4) hx hb dX5_sidesMatch_69 ic_4 ?_
        refine lv_imul hx hb dX5_sidesMatch_70 ?_
        refine lv_iload hx hb dX5_sidesMatch_71 (lv_at hl 1 rfl) ?_
        refine lv_iadd hx hb dX5_sidesMatch_73 ?_
        obtain ⟨hv6, v6, ev6, hf⟩ := rx_ldI hf
        refine rx_iald cx hw (arX_10 ad cI cL) ⟨hv6, ev6⟩ dX5_sidesMatch_74 ?_
        refine lv_aload_n hx hb dX5_sidesMatch_75 rfl (lv_at hl 3 rfl) ?_
        refine rx_getr cx hw (frX_2_0 ad cI cL) rfl (inT_X5) (Nat.le_of_ble_eq_true rfl) (.tail _ tw_131) dX5_sidesMatch_76 ?_
        refine rx_getrN cx hw (frX_1_1 ad cI cL) rfl (inT_X0) (Nat.le_of_ble_eq_true rfl) tn_30 dX5_sidesMatch_79 ?_
        refine lv_aload_n hx hb dX5_sidesMatch_82 rfl (lv_at hl 3 rfl) ?_
        refine rx_getr cx hw (frX_2_6 ad cI cL) rfl (inT_X5) (Nat.le_of_ble_eq_true rfl) (.tail _ tw_141) dX5_sidesMatch_83 ?_
        refine lv_iload hx hb dX5_sidesMatch_86 (lv_at hl 2 rfl) ?_
        obtain ⟨hv7, v7, ev7, hf⟩ := rx_ldI hf
        refine rx_iald cx hw (arX_21 ad cI cL) ⟨hv7, ev7⟩ dX5_sidesMatch_88 ?_
        refine lv_iconst (v := 4) hx hb dX5_sidesMatch_89 ic_4 ?_
        refine lv_imul hx hb dX5_sidesMatch_90 ?_
        refine lv_iload hx hb dX5_sidesMatch_91 (lv_at hl 0 rfl) ?_
        refine lv_iadd hx hb dX5_sidesMatch_93 ?_
        obtain ⟨hv8, v8, ev8, hf⟩ := rx_ldI hf
        refine rx_iald cx hw (arX_10 ad cI cL) ⟨hv8, ev8⟩ dX5_sidesMatch_94 ?_
        refine lv_icmp_eq hx hb dX5_sidesMatch_95 rfl (fun hc => ?_) (fun hc => ?_)
        · have hf := rx_t hc hf
          exact (qk_X5_sidesMatch_100 cx hret ih) hw (lv_sub hl [3, 4, 5, 6, 7] rfl) hf
        · have hf := rx_f hc hf
          refine lv_iconst (v := 0) hx hb dX5_sidesMatch_98 ic_0 ?_
          exact rx_retz hret hw hf dX5_sidesMatch_99
      · have hf := rx_t hc hf
        refine lv_goto hx hb dX5_sidesMatch_30 rfl ?_
        exact (qk_X5_sidesMatch_100 cx hret ih) hw (lv_sub hl [1, 2, 3, 4, 5] rfl) hf
set_option maxRecDepth 100000 in
set_option maxHeartbeats 4000000 in
theorem qk_X5_sidesMatch_0 (cx : rx_C p m c cX5_sidesMatch 8 s args wX5_sidesMatch RX5 D vwCl (tX cI cL) (zX b1 b2) wN A) (hret : rx_RZ p l e rm_X5_sidesMatch s m args below meth c cX5_sidesMatch D vwCl (wX ad cI cL) A Q o) {w1 : Int32} {w2 : Int32} {w3 : Int32} {ls : Array Slot} {H : Heap} {locs : List Loc} {M : Me} (hw : rx_W D vwCl (wX ad cI cL) A s.heap M H locs) (hl : lv_has ls 8 [(0, .ref ((ad 2))), (1, .int w1), (2, .int w2), (3, .int w3)]) (hf : qf_X5_sidesMatch w1 w2 w3 M = some o) : W p l e rm_X5_sidesMatch s m args below meth c H locs 0 0 Q (F0 m 0 ls []) := by
  have hx := cx.1.1
  have hb := cx.1.2.1
  refine lv_iconst (v := 0) hx hb dX5_sidesMatch_0 ic_0 ?_
  refine lv_istore (lv' := [(4, .int 0), (0, .ref ((ad 2))), (1, .int w1), (2, .int w2), (3, .int w3)]) hx hb dX5_sidesMatch_1 hl (Nat.le_of_ble_eq_true rfl) rfl (fun ls hl => ?_)
  exact (qk_X5_sidesMatch_3 cx hret rx_FU) hw (lv_sub hl [1, 2, 3, 4, 0] rfl) hf
end
set_option maxRecDepth 100000 in
theorem qc_X5_sidesMatch (l : Launch) (D : va_G) (ad : Nat → Nat) (cI cL : ClassId) (b1 b2 : Nat) (w1 : Int32) (w2 : Int32) (w3 : Int32) : rx_MI l yX5_sidesMatch wX5_sidesMatch rm_X5_sidesMatch D vwCl (wX ad cI cL) (tX cI cL) (zX b1 b2) wN [.ref (ad 2), .int w1, .int w2, .int w3] (fun M => qf_X5_sidesMatch w1 w2 w3 M) :=
  rx_ofZ (by decide) rfl wN_ok (Nat.le_of_ble_eq_true rfl) (fun _ _ _ _ _ _ _ _ _ _ _ _ _ cx hret hw hl hf => qk_X5_sidesMatch_0 cx hret hw hl hf)
def rm_X5_nextFit : Room := { frames := 1, cells := 0, slots := 0, locals := 27 }
noncomputable def qb_X5_nextFit_35 (k2 : Int32 → Me → Op) (w1 : Int32) (w4 : Int32)  (M : Me) : Op :=
  rx_vv ((w4 + 1) * 4) fun v1 => k2 v1 M
noncomputable def qo_X5_nextFit_2  (w1 : Int32) (rec : Int32 → Me → Op) (w3 : Int32) (M : Me) : Op :=
  if 1764 ≤ w3 then (some ((-1), M)) else (rx_vv (w3 / 4) fun v1 => rx_ld M 18 441 v1 fun v2 => if v2 ≤ 0 then (qb_X5_nextFit_35 rec w1 v1 M) else (rx_ld M 17 441 v1 fun v3 => if v3 = (-1) then (rx_cl (qf_X5_sidesMatch w1 v1 (w3 - w3 / 4 * 4) M) fun r4 M5 => if r4 = 0 then (rx_vv (w3 + 1) fun v6 => rec v6 M5) else (some (w3, M5))) else (qb_X5_nextFit_35 rec w1 v1 M)))
noncomputable def qf_X5_nextFit  (w1 : Int32) (w2 : Int32)  (M : Me) : Op :=
  rx_lp1 (qo_X5_nextFit_2 w1) rx_FU w2 M
section
variable {p : Program} {l : Launch} {e : Env} {s : State} {m : MethodId} {args : Array Value} {below : List Frame} {meth : Method} {c : Code} {Q : State → Prop} {D : va_G} {A : Nat → Prop} {o : Int32 × Me} {ad : Nat → Nat} {cI cL : ClassId} {b1 b2 : Nat}
set_option maxRecDepth 100000 in
set_option maxHeartbeats 4000000 in
theorem qk_X5_nextFit_35 (cx : rx_C p m c cX5_nextFit 5 s args wX5_nextFit RX5 D vwCl (tX cI cL) (zX b1 b2) wN A) (hret : rx_RI p l e rm_X5_nextFit s m args below meth c cX5_nextFit D vwCl (wX ad cI cL) A Q o) {w1 : Int32} {w4 : Int32} {k2 : Int32 → Me → Op} (h2 : ∀ {a3 : Int32} {ls : Array Slot} {H : Heap} {locs : List Loc} {M : Me}, rx_W D vwCl (wX ad cI cL) A s.heap M H locs → lv_has ls 5 [(0, .ref ((ad 2))), (1, .int w1), (3, .int a3)] → k2 a3 M = some o → W p l e rm_X5_nextFit s m args below meth c H locs 0 0 Q (F0 m 2 ls [])) {ls : Array Slot} {H : Heap} {locs : List Loc} {M : Me} (hw : rx_W D vwCl (wX ad cI cL) A s.heap M H locs) (hl : lv_has ls 5 [(0, .ref ((ad 2))), (1, .int w1), (4, .int w4)]) (hf : qb_X5_nextFit_35 k2 w1 w4 M = some o) : W p l e rm_X5_nextFit s m args below meth c H locs 0 0 Q (F0 m 35 ls []) := by
  have hx := cx.1.1
  have hb := cx.1.2.1
  refine lv_iload hx hb dX5_nextFit_35 (lv_at hl 2 rfl) ?_
  refine lv_iconst (v := 1) hx hb dX5_nextFit_37 ic_1 ?_
  refine lv_iadd hx hb dX5_nextFit_38 ?_
  refine lv_iconst (v := 4) hx hb dX5_nextFit_39 ic_4 ?_
  refine lv_imul hx hb dX5_nextFit_40 ?_
  obtain ⟨v1, ev1, hf⟩ := rx_vvI hf
  refine rx_top ev1 ?_
  refine lv_istore_n (lv' := [(3, .int v1), (0, .ref ((ad 2))), (1, .int w1), (4, .int w4)]) hx hb dX5_nextFit_41 rfl hl (Nat.le_of_ble_eq_true rfl) rfl (fun ls hl => ?_)
  refine lv_goto hx hb dX5_nextFit_42 rfl ?_
  refine lv_goto hx hb dX5_nextFit_63 rfl ?_
  exact h2 hw (lv_sub hl [1, 2, 0] rfl) hf
set_option maxRecDepth 100000 in
set_option maxHeartbeats 4000000 in
theorem qk_X5_nextFit_2 (cx : rx_C p m c cX5_nextFit 5 s args wX5_nextFit RX5 D vwCl (tX cI cL) (zX b1 b2) wN A) (hret : rx_RI p l e rm_X5_nextFit s m args below meth c cX5_nextFit D vwCl (wX ad cI cL) A Q o) {w1 : Int32} : ∀ (n : Nat) {w3 : Int32} {ls : Array Slot} {H : Heap} {locs : List Loc} {M : Me}, rx_W D vwCl (wX ad cI cL) A s.heap M H locs → lv_has ls 5 [(0, .ref ((ad 2))), (1, .int w1), (3, .int w3)] → rx_lp1 (qo_X5_nextFit_2 w1) n w3 M = some o → W p l e rm_X5_nextFit s m args below meth c H locs 0 0 Q (F0 m 2 ls []) := by
  have hx := cx.1.1
  have hb := cx.1.2.1
  intro n
  induction n with
  | zero => intro w3 ls H locs M hw hl hf; exact rx_no hf
  | succ n ih =>
    intro w3 ls H locs M hw hl hf
    have hf : qo_X5_nextFit_2 w1 (rx_lp1 (qo_X5_nextFit_2 w1) n) w3 M = some o := hf
    refine lv_iload_n hx hb dX5_nextFit_2 rfl (lv_at hl 2 rfl) ?_
    refine lv_sipush (v := 1764) hx hb dX5_nextFit_3 is_1764 ?_
    refine lv_icmp_ge hx hb dX5_nextFit_6 rfl (fun hc => ?_) (fun hc => ?_)
    · have hf := rx_t hc hf
      refine lv_iconst (v := (-1)) hx hb dX5_nextFit_66 ic_m1 ?_
      exact rx_reti hret hw hf dX5_nextFit_67
    · have hf := rx_f hc hf
      refine lv_iload_n hx hb dX5_nextFit_9 rfl (lv_at hl 2 rfl) ?_
      refine lv_iconst (v := 4) hx hb dX5_nextFit_10 ic_4 ?_
      refine lv_idiv hx hb dX5_nextFit_11 nz_4 ?_
      obtain ⟨v1, ev1, hf⟩ := rx_vvI hf
      refine rx_top ev1 ?_
      refine lv_istore (lv' := [(4, .int v1), (0, .ref ((ad 2))), (1, .int w1), (3, .int w3)]) hx hb dX5_nextFit_12 hl (Nat.le_of_ble_eq_true rfl) rfl (fun ls hl => ?_)
      refine lv_aload_n hx hb dX5_nextFit_14 rfl (lv_at hl 1 rfl) ?_
      refine rx_getr cx hw (frX_2_3 ad cI cL) rfl (inT_X5) (Nat.le_of_ble_eq_true rfl) (.tail _ tw_137) dX5_nextFit_15 ?_
      refine lv_iload hx hb dX5_nextFit_18 (lv_at hl 0 rfl) ?_
      obtain ⟨hv2, v2, ev2, hf⟩ := rx_ldI hf
      refine rx_iald cx hw (arX_18 ad cI cL) ⟨hv2, ev2⟩ dX5_nextFit_20 ?_
      refine lv_if_le hx hb dX5_nextFit_21 rfl (fun hc => ?_) (fun hc => ?_)
      · have hf := rx_t hc hf
        exact (qk_X5_nextFit_35 cx hret ih) hw (lv_sub hl [1, 2, 0] rfl) hf
      · have hf := rx_f hc hf
        refine lv_aload_n hx hb dX5_nextFit_24 rfl (lv_at hl 1 rfl) ?_
        refine rx_getr cx hw (frX_2_2 ad cI cL) rfl (inT_X5) (Nat.le_of_ble_eq_true rfl) (.tail _ tw_135) dX5_nextFit_25 ?_
        refine lv_iload hx hb dX5_nextFit_28 (lv_at hl 0 rfl) ?_
        obtain ⟨hv3, v3, ev3, hf⟩ := rx_ldI hf
        refine rx_iald cx hw (arX_17 ad cI cL) ⟨hv3, ev3⟩ dX5_nextFit_30 ?_
        refine lv_iconst (v := (-1)) hx hb dX5_nextFit_31 ic_m1 ?_
        refine lv_icmp_eq hx hb dX5_nextFit_32 rfl (fun hc => ?_) (fun hc => ?_)
        · have hf := rx_t hc hf
          refine lv_aload_n hx hb dX5_nextFit_45 rfl (lv_at hl 1 rfl) ?_
          refine lv_iload_n hx hb dX5_nextFit_46 rfl (lv_at hl 2 rfl) ?_
          refine lv_iload hx hb dX5_nextFit_47 (lv_at hl 0 rfl) ?_
          refine lv_iload_n hx hb dX5_nextFit_49 rfl (lv_at hl 3 rfl) ?_
          refine lv_iconst (v := 4) hx hb dX5_nextFit_50 ic_4 ?_
          refine lv_irem hx hb dX5_nextFit_51 nz_4 ?_
          obtain ⟨r4, M5, er4, hf⟩ := rx_clI hf
          refine rx_jVi cx hw (qc_X5_sidesMatch l D ad cI cL b1 b2 w1 v1 (w3 - w3 / 4 * 4)) (obX_2 ad cI cL) rfl rfl kfX5_sidesMatch tw_428 ⟨Nat.le_of_ble_eq_true rfl, Nat.le_of_ble_eq_true rfl, rfl, rfl⟩ rfl hl.1 (Nat.le_of_ble_eq_true rfl) ⟨Nat.zero_le _, Nat.zero_le _⟩ dX5_nextFit_52 rfl er4 (fun H locs hw => ?_)
          refine lv_if_eq hx hb dX5_nextFit_55 rfl (fun hc => ?_) (fun hc => ?_)
          · have hf := rx_t hc hf
            obtain ⟨v6, ev6, hf⟩ := rx_vvI hf
            refine lv_iinc (lv' := [(3, .int v6), (4, .int v1), (0, .ref ((ad 2))), (1, .int w1)]) hx hb dX5_nextFit_60 hl (k := 3) rfl (rx_inc ic_1 ev6) (Nat.le_of_ble_eq_true rfl) rfl (fun ls hl => ?_)
            refine lv_goto hx hb dX5_nextFit_63 rfl ?_
            exact ih hw (lv_sub hl [2, 3, 0] rfl) hf
          · have hf := rx_f hc hf
            refine lv_iload_n hx hb dX5_nextFit_58 rfl (lv_at hl 3 rfl) ?_
            exact rx_reti hret hw hf dX5_nextFit_59
        · have hf := rx_f hc hf
          exact (qk_X5_nextFit_35 cx hret ih) hw (lv_sub hl [1, 2, 0] rfl) hf
set_option maxRecDepth 100000 in
set_option maxHeartbeats 4000000 in
theorem qk_X5_nextFit_0 (cx : rx_C p m c cX5_nextFit 5 s args wX5_nextFit RX5 D vwCl (tX cI cL) (zX b1 b2) wN A) (hret : rx_RI p l e rm_X5_nextFit s m args below meth c cX5_nextFit D vwCl (wX ad cI cL) A Q o) {w1 : Int32} {w2 : Int32} {ls : Array Slot} {H : Heap} {locs : List Loc} {M : Me} (hw : rx_W D vwCl (wX ad cI cL) A s.heap M H locs) (hl : lv_has ls 5 [(0, .ref ((ad 2))), (1, .int w1), (2, .int w2)]) (hf : qf_X5_nextFit w1 w2 M = some o) : W p l e rm_X5_nextFit s m args below meth c H locs 0 0 Q (F0 m 0 ls []) := by
  have hx := cx.1.1
  have hb := cx.1.2.1
  refine lv_iload_n hx hb dX5_nextFit_0 rfl (lv_at hl 2 rfl) ?_
  refine lv_istore_n (lv' := [(3, .int w2), (0, .ref ((ad 2))), (1, .int w1), (2, .int w2)]) hx hb dX5_nextFit_1 rfl hl (Nat.le_of_ble_eq_true rfl) rfl (fun ls hl => ?_)
  exact (qk_X5_nextFit_2 cx hret rx_FU) hw (lv_sub hl [1, 2, 0] rfl) hf
end
set_option maxRecDepth 100000 in
theorem qc_X5_nextFit (l : Launch) (D : va_G) (ad : Nat → Nat) (cI cL : ClassId) (b1 b2 : Nat) (w1 : Int32) (w2 : Int32) : rx_MI l yX5_nextFit wX5_nextFit rm_X5_nextFit D vwCl (wX ad cI cL) (tX cI cL) (zX b1 b2) wN [.ref (ad 2), .int w1, .int w2] (fun M => qf_X5_nextFit w1 w2 M) :=
  rx_ofI (by decide) rfl wN_ok (Nat.le_of_ble_eq_true rfl) (fun _ _ _ _ _ _ _ _ _ _ _ _ _ cx hret hw hl hf => qk_X5_nextFit_0 cx hret hw hl hf)
def rm_X2_drawNext : Room := { frames := 2, cells := 0, slots := 0, locals := 51 }
noncomputable def qb_X2_drawNext_78 (k5 : Int32 → Me → Op) (w1 : Int32)  (M : Me) : Op :=
  rx_vv (w1 + 1) fun v1 => k5 v1 M
noncomputable def qo_X2_drawNext_5   (rec : Int32 → Me → Op) (w1 : Int32) (M : Me) : Op :=
  rx_vv (M 1 9) fun v1 => if v1 ≤ w1 then (some (0, M)) else (rx_vv (M 4 6) fun v2 => if v2 = (-1) then (rx_vv (rx_st M 4 7 (w1 + 1)) fun M3 => rx_ld M3 16 24 w1 fun v4 => rx_cl (qf_X5_nextFit v4 0 M3) fun r5 M6 => if r5 = (-1) then (rx_vv (M6 4 8) fun v9 => rx_vv (rx_st M6 4 8 (v9 + 1)) fun M10 => qb_X2_drawNext_78 rec w1 M10) else (rx_ld M6 16 24 w1 fun v7 => rx_vv (rx_st M6 4 6 v7) fun M8 => qb_X2_drawNext_78 rec w1 M8)) else (some (0, M)))
noncomputable def qf_X2_drawNext    (M : Me) : Op :=
  rx_vv (M 4 7) fun v1 => rx_lp1 (qo_X2_drawNext_5) rx_FU v1 M
section
variable {p : Program} {l : Launch} {e : Env} {s : State} {m : MethodId} {args : Array Value} {below : List Frame} {meth : Method} {c : Code} {Q : State → Prop} {D : va_G} {A : Nat → Prop} {o : Int32 × Me} {ad : Nat → Nat} {cI cL : ClassId} {b1 b2 : Nat}
set_option maxRecDepth 100000 in
set_option maxHeartbeats 4000000 in
theorem qk_X2_drawNext_78 (cx : rx_C p m c cX2_drawNext 2 s args wX2_drawNext RX2 D vwCl (tX cI cL) (zX b1 b2) wN A) (hret : rx_RV p l e rm_X2_drawNext s m args below meth c cX2_drawNext D vwCl (wX ad cI cL) A Q o) {w1 : Int32} {k5 : Int32 → Me → Op} (h5 : ∀ {a1 : Int32} {ls : Array Slot} {H : Heap} {locs : List Loc} {M : Me}, rx_W D vwCl (wX ad cI cL) A s.heap M H locs → lv_has ls 2 [(0, .ref ((ad 4))), (1, .int a1)] → k5 a1 M = some o → W p l e rm_X2_drawNext s m args below meth c H locs 0 0 Q (F0 m 5 ls [])) {ls : Array Slot} {H : Heap} {locs : List Loc} {M : Me} (hw : rx_W D vwCl (wX ad cI cL) A s.heap M H locs) (hl : lv_has ls 2 [(0, .ref ((ad 4))), (1, .int w1)]) (hf : qb_X2_drawNext_78 k5 w1 M = some o) : W p l e rm_X2_drawNext s m args below meth c H locs 0 0 Q (F0 m 78 ls []) := by
  have hx := cx.1.1
  have hb := cx.1.2.1
  obtain ⟨v1, ev1, hf⟩ := rx_vvI hf
  refine lv_iinc (lv' := [(1, .int v1), (0, .ref ((ad 4)))]) hx hb dX2_drawNext_78 hl (k := 1) rfl (rx_inc ic_1 ev1) (Nat.le_of_ble_eq_true rfl) rfl (fun ls hl => ?_)
  refine lv_goto hx hb dX2_drawNext_81 rfl ?_
  exact h5 hw (lv_sub hl [1, 0] rfl) hf
set_option maxRecDepth 100000 in
set_option maxHeartbeats 4000000 in
theorem qk_X2_drawNext_5 (cx : rx_C p m c cX2_drawNext 2 s args wX2_drawNext RX2 D vwCl (tX cI cL) (zX b1 b2) wN A) (hret : rx_RV p l e rm_X2_drawNext s m args below meth c cX2_drawNext D vwCl (wX ad cI cL) A Q o) : ∀ (n : Nat) {w1 : Int32} {ls : Array Slot} {H : Heap} {locs : List Loc} {M : Me}, rx_W D vwCl (wX ad cI cL) A s.heap M H locs → lv_has ls 2 [(0, .ref ((ad 4))), (1, .int w1)] → rx_lp1 (qo_X2_drawNext_5) n w1 M = some o → W p l e rm_X2_drawNext s m args below meth c H locs 0 0 Q (F0 m 5 ls []) := by
  have hx := cx.1.1
  have hb := cx.1.2.1
  intro n
  induction n with
  | zero => intro w1 ls H locs M hw hl hf; exact rx_no hf
  | succ n ih =>
    intro w1 ls H locs M hw hl hf
    have hf : qo_X2_drawNext_5 (rx_lp1 (qo_X2_drawNext_5) n) w1 M = some o := hf
    refine lv_iload_n hx hb dX2_drawNext_5 rfl (lv_at hl 1 rfl) ?_
    refine lv_aload_n hx hb dX2_drawNext_6 rfl (lv_at hl 0 rfl) ?_
    refine rx_getr cx hw (frX_4_0 ad cI cL) rfl (inT_X2) (Nat.le_of_ble_eq_true rfl) (.tail _ tw_181) dX2_drawNext_7 ?_
    obtain ⟨v1, ev1, hf⟩ := rx_vvI hf
    refine rx_getiN cx hw (fiX_1_9 ad cI cL) rfl (inT_X0) (Nat.le_of_ble_eq_true rfl) tn_46 ev1 dX2_drawNext_10 ?_
    refine lv_icmp_ge hx hb dX2_drawNext_13 rfl (fun hc => ?_) (fun hc => ?_)
    · have hf := rx_t hc hf
      exact rx_retv hret hw hf dX2_drawNext_84
    · have hf := rx_f hc hf
      refine lv_aload_n hx hb dX2_drawNext_16 rfl (lv_at hl 0 rfl) ?_
      obtain ⟨v2, ev2, hf⟩ := rx_vvI hf
      refine rx_geti cx hw (fiX_4_6 ad cI cL) rfl (inT_X2) (Nat.le_of_ble_eq_true rfl) (.tail _ tw_192) ev2 dX2_drawNext_17 ?_
      refine lv_iconst (v := (-1)) hx hb dX2_drawNext_20 ic_m1 ?_
      refine lv_icmp_ne hx hb dX2_drawNext_21 rfl (fun hc => ?_) (fun hc => ?_)
      · have hf := rx_f hc hf
        exact rx_retv hret hw hf dX2_drawNext_84
      · have hf := rx_t hc hf
        refine lv_aload_n hx hb dX2_drawNext_24 rfl (lv_at hl 0 rfl) ?_
        refine lv_iload_n hx hb dX2_drawNext_25 rfl (lv_at hl 1 rfl) ?_
        refine lv_iconst (v := 1) hx hb dX2_drawNext_26 ic_1 ?_
        refine lv_iadd hx hb dX2_drawNext_27 ?_
        obtain ⟨M3, eM3, hf⟩ := rx_vvI hf
        refine rx_puti cx hw (fiX_4_7 ad cI cL) rfl (inT_X2) tyX2 tyX2_ok nmX2 (Nat.le_of_ble_eq_true rfl) (.tail _ tw_195) rfl rfl rfl eM3 dX2_drawNext_28 (fun H locs hw => ?_)
        refine lv_aload_n hx hb dX2_drawNext_31 rfl (lv_at hl 0 rfl) ?_
        refine rx_getr cx hw (frX_4_1 ad cI cL) rfl (inT_X2) (Nat.le_of_ble_eq_true rfl) (.tail _ tw_182) dX2_drawNext_32 ?_
        refine lv_aload_n hx hb dX2_drawNext_35 rfl (lv_at hl 0 rfl) ?_
        refine rx_getr cx hw (frX_4_0 ad cI cL) rfl (inT_X2) (Nat.le_of_ble_eq_true rfl) (.tail _ tw_181) dX2_drawNext_36 ?_
        refine rx_getrN cx hw (frX_1_7 ad cI cL) rfl (inT_X0) (Nat.le_of_ble_eq_true rfl) tn_42 dX2_drawNext_39 ?_
        refine lv_iload_n hx hb dX2_drawNext_42 rfl (lv_at hl 1 rfl) ?_
        obtain ⟨hv4, v4, ev4, hf⟩ := rx_ldI hf
        refine rx_iald cx hw (arX_16 ad cI cL) ⟨hv4, ev4⟩ dX2_drawNext_43 ?_
        refine lv_iconst (v := 0) hx hb dX2_drawNext_44 ic_0 ?_
        obtain ⟨r5, M6, er5, hf⟩ := rx_clI hf
        refine rx_jVi cx hw (qc_X5_nextFit l D ad cI cL b1 b2 v4 0) (obX_2 ad cI cL) rfl rfl kfX5_nextFit tw_424 ⟨Nat.le_of_ble_eq_true rfl, Nat.le_of_ble_eq_true rfl, rfl, rfl⟩ rfl hl.1 (Nat.le_of_ble_eq_true rfl) ⟨Nat.zero_le _, Nat.zero_le _⟩ dX2_drawNext_45 rfl er5 (fun H locs hw => ?_)
        refine lv_iconst (v := (-1)) hx hb dX2_drawNext_48 ic_m1 ?_
        refine lv_icmp_ne hx hb dX2_drawNext_49 rfl (fun hc => ?_) (fun hc => ?_)
        · have hf := rx_f hc hf
          refine lv_aload_n hx hb dX2_drawNext_65 rfl (lv_at hl 0 rfl) ?_
          refine lv_aload_n hx hb dX2_drawNext_66 rfl (lv_at hl 0 rfl) ?_
          refine rx_getr cx hw (frX_4_0 ad cI cL) rfl (inT_X2) (Nat.le_of_ble_eq_true rfl) (.tail _ tw_181) dX2_drawNext_67 ?_
          refine rx_getrN cx hw (frX_1_7 ad cI cL) rfl (inT_X0) (Nat.le_of_ble_eq_true rfl) tn_42 dX2_drawNext_70 ?_
          refine lv_iload_n hx hb dX2_drawNext_73 rfl (lv_at hl 1 rfl) ?_
          obtain ⟨hv7, v7, ev7, hf⟩ := rx_ldI hf
          refine rx_iald cx hw (arX_16 ad cI cL) ⟨hv7, ev7⟩ dX2_drawNext_74 ?_
          obtain ⟨M8, eM8, hf⟩ := rx_vvI hf
          refine rx_puti cx hw (fiX_4_6 ad cI cL) rfl (inT_X2) tyX2 tyX2_ok nmX2 (Nat.le_of_ble_eq_true rfl) (.tail _ tw_192) rfl rfl rfl eM8 dX2_drawNext_75 (fun H locs hw => ?_)
          exact (qk_X2_drawNext_78 cx hret ih) hw hl hf
        · have hf := rx_t hc hf
          refine lv_aload_n hx hb dX2_drawNext_52 rfl (lv_at hl 0 rfl) ?_
          refine lv_dup hx hb dX2_drawNext_53 rfl ?_
          obtain ⟨v9, ev9, hf⟩ := rx_vvI hf
          refine rx_geti cx hw (fiX_4_8 ad cI cL) rfl (inT_X2) (Nat.le_of_ble_eq_true rfl) (.tail _ tw_197) ev9 dX2_drawNext_54 ?_
          refine lv_iconst (v := 1) hx hb dX2_drawNext_57 ic_1 ?_
          refine lv_iadd hx hb dX2_drawNext_58 ?_
          obtain ⟨M10, eM10, hf⟩ := rx_vvI hf
          refine rx_puti cx hw (fiX_4_8 ad cI cL) rfl (inT_X2) tyX2 tyX2_ok nmX2 (Nat.le_of_ble_eq_true rfl) (.tail _ tw_197) rfl rfl rfl eM10 dX2_drawNext_59 (fun H locs hw => ?_)
          refine lv_goto hx hb dX2_drawNext_62 rfl ?_
          exact (qk_X2_drawNext_78 cx hret ih) hw hl hf
set_option maxRecDepth 100000 in
set_option maxHeartbeats 4000000 in
theorem qk_X2_drawNext_0 (cx : rx_C p m c cX2_drawNext 2 s args wX2_drawNext RX2 D vwCl (tX cI cL) (zX b1 b2) wN A) (hret : rx_RV p l e rm_X2_drawNext s m args below meth c cX2_drawNext D vwCl (wX ad cI cL) A Q o) {ls : Array Slot} {H : Heap} {locs : List Loc} {M : Me} (hw : rx_W D vwCl (wX ad cI cL) A s.heap M H locs) (hl : lv_has ls 2 [(0, .ref ((ad 4)))]) (hf : qf_X2_drawNext M = some o) : W p l e rm_X2_drawNext s m args below meth c H locs 0 0 Q (F0 m 0 ls []) := by
  have hx := cx.1.1
  have hb := cx.1.2.1
  refine lv_aload_n hx hb dX2_drawNext_0 rfl (lv_at hl 0 rfl) ?_
  obtain ⟨v1, ev1, hf⟩ := rx_vvI hf
  refine rx_geti cx hw (fiX_4_7 ad cI cL) rfl (inT_X2) (Nat.le_of_ble_eq_true rfl) (.tail _ tw_195) ev1 dX2_drawNext_1 ?_
  refine lv_istore_n (lv' := [(1, .int v1), (0, .ref ((ad 4)))]) hx hb dX2_drawNext_4 rfl hl (Nat.le_of_ble_eq_true rfl) rfl (fun ls hl => ?_)
  exact (qk_X2_drawNext_5 cx hret rx_FU) hw (lv_sub hl [1, 0] rfl) hf
end
set_option maxRecDepth 100000 in
theorem qc_X2_drawNext (l : Launch) (D : va_G) (ad : Nat → Nat) (cI cL : ClassId) (b1 b2 : Nat) : rx_MV l yX2_drawNext wX2_drawNext rm_X2_drawNext D vwCl (wX ad cI cL) (tX cI cL) (zX b1 b2) wN [.ref (ad 4)] (fun M => qf_X2_drawNext M) :=
  rx_ofV (by decide) rfl wN_ok (Nat.le_of_ble_eq_true rfl) (fun _ _ _ _ _ _ _ _ _ _ _ _ _ cx hret hw hl hf => qk_X2_drawNext_0 cx hret hw hl hf)

def rm_X5_addTile : Room := { frames := 3, cells := 0, slots := 0, locals := 72 }
noncomputable def qo_X5_addTile_68 (k124 : Me → Op) (w1 : Int32) (w3 : Int32) (w4 : Int32) (rec : Int32 → Me → Op) (w5 : Int32) (M : Me) : Op :=
  if 8 ≤ w5 then (k124 M) else (rx_vv ((w1 * 8) + w5) fun v1 => rx_ld M 12 96 v1 fun v2 => rx_ld M 14 96 v1 fun v3 => rx_cl (qf_X3_found ((w3 * 8) + w5) v2 v3 M) fun r4 M5 => rx_vv (w5 + 1) fun v6 => rec v6 M5)
noncomputable def qo_X5_addTile_127 (k165 : Me → Op) (w3 : Int32) (w4 : Int32) (rec : Int32 → Me → Op) (w5 : Int32) (M : Me) : Op :=
  if 4 ≤ w5 then (k165 M) else (rx_ls sZ1 w5 fun v1 => rx_ld M 18 441 (w4 + v1) fun v2 => rx_sv M 18 441 (w4 + v1) (v2 + 1) fun M3 => rx_cl (qf_X5_openSide w3 w5 (-1) M3) fun r4 M5 => rx_vv (w5 + 1) fun v6 => rec v6 M5)
noncomputable def qo_X5_addTile_168 (k187 : Me → Op) (w3 : Int32) (w4 : Int32) (rec : Int32 → Me → Op) (w5 : Int32) (M : Me) : Op :=
  if 4 ≤ w5 then (k187 M) else (rx_cl (qf_X5_joinSide w3 w5 M) fun r1 M2 => rx_vv (w5 + 1) fun v3 => rec v3 M2)
noncomputable def qo_X5_addTile_190  (w4 : Int32) (rec : Int32 → Me → Op) (w5 : Int32) (M : Me) : Op :=
  if (Int32.ofNat sZ2.length) ≤ w5 then (some (0, M)) else (rx_ls sZ2 w5 fun v1 => rx_ld M 19 441 (w4 + v1) fun v2 => rx_sv M 19 441 (w4 + v1) (v2 + 1) fun M3 => rx_vv (w5 + 1) fun v4 => rec v4 M3)
noncomputable def qb_X5_addTile_187  (w4 : Int32)  (M : Me) : Op :=
  rx_lp1 (qo_X5_addTile_190 w4) rx_FU 0 M
noncomputable def qb_X5_addTile_165  (w3 : Int32) (w4 : Int32)  (M : Me) : Op :=
  rx_lp1 (qo_X5_addTile_168 (fun M => qb_X5_addTile_187 w4 M) w3 w4) rx_FU 0 M
noncomputable def qb_X5_addTile_124  (w3 : Int32) (w4 : Int32)  (M : Me) : Op :=
  rx_lp1 (qo_X5_addTile_127 (fun M => qb_X5_addTile_165 w3 w4 M) w3 w4) rx_FU 0 M
noncomputable def qf_X5_addTile  (w1 : Int32) (w2 : Int32)  (M : Me) : Op :=
  rx_vv (M 2 9) fun v1 => rx_vv (w2 / 4) fun v2 => rx_vv (M 2 9) fun v3 => rx_vv (rx_st M 2 9 (v3 + 1)) fun M4 => rx_sv M4 17 441 v2 v1 fun M5 => rx_sv M5 20 24 v1 v2 fun M6 => rx_sv M6 21 24 v1 w1 fun M7 => rx_sv M7 22 24 v1 (w2 - w2 / 4 * 4) fun M8 => rx_vv (M8 3 7) fun v9 => rx_sv M8 23 24 v1 v9 fun M10 => rx_lp1 (qo_X5_addTile_68 (fun M => qb_X5_addTile_124 v1 v2 M) w1 v1 v2) rx_FU 0 M10
section
variable {p : Program} {l : Launch} {e : Env} {s : State} {m : MethodId} {args : Array Value} {below : List Frame} {meth : Method} {c : Code} {Q : State → Prop} {D : va_G} {A : Nat → Prop} {o : Int32 × Me} {ad : Nat → Nat} {cI cL : ClassId} {b1 b2 : Nat}
set_option maxRecDepth 100000 in
set_option maxHeartbeats 4000000 in
theorem qk_X5_addTile_68 (cx : rx_C p m c cX5_addTile 7 s args wX5_addTile RX5 D vwCl (tX cI cL) (zX b1 b2) wN A) (hret : rx_RV p l e rm_X5_addTile s m args below meth c cX5_addTile D vwCl (wX ad cI cL) A Q o) {w1 : Int32} {w3 : Int32} {w4 : Int32} {k124 : Me → Op} (h124 : ∀ {ls : Array Slot} {H : Heap} {locs : List Loc} {M : Me}, rx_W D vwCl (wX ad cI cL) A s.heap M H locs → lv_has ls 7 [(0, .ref ((ad 2))), (3, .int w3), (4, .int w4)] → k124 M = some o → W p l e rm_X5_addTile s m args below meth c H locs 0 0 Q (F0 m 124 ls [])) : ∀ (n : Nat) {w5 : Int32} {ls : Array Slot} {H : Heap} {locs : List Loc} {M : Me}, rx_W D vwCl (wX ad cI cL) A s.heap M H locs → lv_has ls 7 [(0, .ref ((ad 2))), (1, .int w1), (3, .int w3), (4, .int w4), (5, .int w5)] → rx_lp1 (qo_X5_addTile_68 k124 w1 w3 w4) n w5 M = some o → W p l e rm_X5_addTile s m args below meth c H locs 0 0 Q (F0 m 68 ls []) := by
  have hx := cx.1.1
  have hb := cx.1.2.1
  intro n
  induction n with
  | zero => intro w5 ls H locs M hw hl hf; exact rx_no hf
  | succ n ih =>
    intro w5 ls H locs M hw hl hf
    have hf : qo_X5_addTile_68 k124 w1 w3 w4 (rx_lp1 (qo_X5_addTile_68 k124 w1 w3 w4) n) w5 M = some o := hf
    refine lv_iload hx hb dX5_addTile_68 (lv_at hl 4 rfl) ?_
    refine lv_bipush (v := 8) hx hb dX5_addTile_70 ib_8 ?_
    refine lv_icmp_ge hx hb dX5_addTile_72 rfl (fun hc => ?_) (fun hc => ?_)
    · have hf := rx_t hc hf
      exact h124 hw (lv_sub hl [0, 2, 3] rfl) hf
    · have hf := rx_f hc hf
      refine lv_iload_n hx hb dX5_addTile_75 rfl (lv_at hl 1 rfl) ?_
      refine lv_bipush (v := 8) hx hb dX5_addTile_76 ib_8 ?_
      refine lv_imul hx hb dX5_addTile_78 ?_
      refine lv_iload hx hb dX5_addTile_79 (lv_at hl 4 rfl) ?_
      refine lv_iadd hx hb dX5_addTile_81 ?_
      obtain ⟨v1, ev1, hf⟩ := rx_vvI hf
      refine rx_top ev1 ?_
      refine lv_istore (lv' := [(6, .int v1), (0, .ref ((ad 2))), (1, .int w1), (3, .int w3), (4, .int w4), (5, .int w5)]) hx hb dX5_addTile_82 hl (Nat.le_of_ble_eq_true rfl) rfl (fun ls hl => ?_)
      refine lv_aload_n hx hb dX5_addTile_84 rfl (lv_at hl 1 rfl) ?_
      refine rx_getr cx hw (frX_2_1 ad cI cL) rfl (inT_X5) (Nat.le_of_ble_eq_true rfl) (.tail _ tw_132) dX5_addTile_85 ?_
      refine lv_iload_n hx hb dX5_addTile_88 rfl (lv_at hl 3 rfl) ?_
      refine lv_bipush (v := 8) hx hb dX5_addTile_89 ib_8 ?_
      refine lv_imul hx hb dX5_addTile_91 ?_
      refine lv_iload hx hb dX5_addTile_92 (lv_at hl 5 rfl) ?_
      refine lv_iadd hx hb dX5_addTile_94 ?_
      refine lv_aload_n hx hb dX5_addTile_95 rfl (lv_at hl 1 rfl) ?_
      refine rx_getr cx hw (frX_2_0 ad cI cL) rfl (inT_X5) (Nat.le_of_ble_eq_true rfl) (.tail _ tw_131) dX5_addTile_96 ?_
      refine rx_getrN cx hw (frX_1_3 ad cI cL) rfl (inT_X0) (Nat.le_of_ble_eq_true rfl) tn_34 dX5_addTile_99 ?_
      refine lv_iload hx hb dX5_addTile_102 (lv_at hl 0 rfl) ?_
      obtain ⟨hv2, v2, ev2, hf⟩ := rx_ldI hf
      refine rx_iald cx hw (arX_12 ad cI cL) ⟨hv2, ev2⟩ dX5_addTile_104 ?_
      refine lv_aload_n hx hb dX5_addTile_105 rfl (lv_at hl 1 rfl) ?_
      refine rx_getr cx hw (frX_2_0 ad cI cL) rfl (inT_X5) (Nat.le_of_ble_eq_true rfl) (.tail _ tw_131) dX5_addTile_106 ?_
      refine rx_getrN cx hw (frX_1_5 ad cI cL) rfl (inT_X0) (Nat.le_of_ble_eq_true rfl) tn_38 dX5_addTile_109 ?_
      refine lv_iload hx hb dX5_addTile_112 (lv_at hl 0 rfl) ?_
      obtain ⟨hv3, v3, ev3, hf⟩ := rx_ldI hf
      refine rx_iald cx hw (arX_14 ad cI cL) ⟨hv3, ev3⟩ dX5_addTile_114 ?_
      obtain ⟨r4, M5, er4, hf⟩ := rx_clI hf
      refine rx_jVv cx hw (qc_X3_found l D ad cI cL b1 b2 ((w3 * 8) + w5) v2 v3) (obX_3 ad cI cL) rfl rfl kfX3_found tw_485 ⟨Nat.le_of_ble_eq_true rfl, Nat.le_of_ble_eq_true rfl, rfl, rfl⟩ rfl hl.1 (Nat.le_of_ble_eq_true rfl) ⟨Nat.zero_le _, Nat.zero_le _⟩ dX5_addTile_115 rfl er4 (fun H locs hw => ?_)
      obtain ⟨v6, ev6, hf⟩ := rx_vvI hf
      refine lv_iinc (lv' := [(5, .int v6), (6, .int v1), (0, .ref ((ad 2))), (1, .int w1), (3, .int w3), (4, .int w4)]) hx hb dX5_addTile_118 hl (k := 5) rfl (rx_inc ic_1 ev6) (Nat.le_of_ble_eq_true rfl) rfl (fun ls hl => ?_)
      refine lv_goto hx hb dX5_addTile_121 rfl ?_
      exact ih hw (lv_sub hl [2, 3, 4, 5, 0] rfl) hf
set_option maxRecDepth 100000 in
set_option maxHeartbeats 4000000 in
theorem qk_X5_addTile_127 (cx : rx_C p m c cX5_addTile 7 s args wX5_addTile RX5 D vwCl (tX cI cL) (zX b1 b2) wN A) (hret : rx_RV p l e rm_X5_addTile s m args below meth c cX5_addTile D vwCl (wX ad cI cL) A Q o) {w3 : Int32} {w4 : Int32} {k165 : Me → Op} (h165 : ∀ {ls : Array Slot} {H : Heap} {locs : List Loc} {M : Me}, rx_W D vwCl (wX ad cI cL) A s.heap M H locs → lv_has ls 7 [(0, .ref ((ad 2))), (3, .int w3), (4, .int w4)] → k165 M = some o → W p l e rm_X5_addTile s m args below meth c H locs 0 0 Q (F0 m 165 ls [])) : ∀ (n : Nat) {w5 : Int32} {ls : Array Slot} {H : Heap} {locs : List Loc} {M : Me}, rx_W D vwCl (wX ad cI cL) A s.heap M H locs → lv_has ls 7 [(0, .ref ((ad 2))), (3, .int w3), (4, .int w4), (5, .int w5)] → rx_lp1 (qo_X5_addTile_127 k165 w3 w4) n w5 M = some o → W p l e rm_X5_addTile s m args below meth c H locs 0 0 Q (F0 m 127 ls []) := by
  have hx := cx.1.1
  have hb := cx.1.2.1
  intro n
  induction n with
  | zero => intro w5 ls H locs M hw hl hf; exact rx_no hf
  | succ n ih =>
    intro w5 ls H locs M hw hl hf
    have hf : qo_X5_addTile_127 k165 w3 w4 (rx_lp1 (qo_X5_addTile_127 k165 w3 w4) n) w5 M = some o := hf
    refine lv_iload hx hb dX5_addTile_127 (lv_at hl 3 rfl) ?_
    refine lv_iconst (v := 4) hx hb dX5_addTile_129 ic_4 ?_
    refine lv_icmp_ge hx hb dX5_addTile_130 rfl (fun hc => ?_) (fun hc => ?_)
    · have hf := rx_t hc hf
      exact h165 hw (lv_sub hl [0, 1, 2] rfl) hf
    · have hf := rx_f hc hf
      refine lv_aload_n hx hb dX5_addTile_133 rfl (lv_at hl 0 rfl) ?_
      refine rx_getr cx hw (frX_2_3 ad cI cL) rfl (inT_X5) (Nat.le_of_ble_eq_true rfl) (.tail _ tw_137) dX5_addTile_134 ?_
      refine lv_iload hx hb dX5_addTile_137 (lv_at hl 2 rfl) ?_
      refine rx_getsN cx hw (zm1 b1 b2) tn_392 dX5_addTile_139 ?_
      refine lv_iload hx hb dX5_addTile_142 (lv_at hl 3 rfl) ?_
      obtain ⟨hv1, v1, ev1, hf⟩ := rx_lsI hf
      refine rx_lds cx hw (zm1 b1 b2) ⟨hv1, ev1⟩ dX5_addTile_144 ?_
      refine lv_iadd hx hb dX5_addTile_145 ?_
      refine lv_dup2_11 hx hb dX5_addTile_146 rfl rfl ?_
      obtain ⟨hv2, v2, ev2, hf⟩ := rx_ldI hf
      refine rx_iald cx hw (arX_18 ad cI cL) ⟨hv2, ev2⟩ dX5_addTile_147 ?_
      refine lv_iconst (v := 1) hx hb dX5_addTile_148 ic_1 ?_
      refine lv_iadd hx hb dX5_addTile_149 ?_
      obtain ⟨hM3, M3, eM3, hf⟩ := rx_svI hf
      refine rx_iast cx hw (arX_18 ad cI cL) ⟨hM3, eM3⟩ dX5_addTile_150 (fun H locs hw => ?_)
      refine lv_aload_n hx hb dX5_addTile_151 rfl (lv_at hl 0 rfl) ?_
      refine lv_iload_n hx hb dX5_addTile_152 rfl (lv_at hl 1 rfl) ?_
      refine lv_iload hx hb dX5_addTile_153 (lv_at hl 3 rfl) ?_
      refine lv_iconst (v := (-1)) hx hb dX5_addTile_155 ic_m1 ?_
      obtain ⟨r4, M5, er4, hf⟩ := rx_clI hf
      refine rx_jVv cx hw (qc_X5_openSide l D ad cI cL b1 b2 w3 w5 (-1)) (obX_2 ad cI cL) rfl rfl kfX5_openSide tw_394 ⟨Nat.le_of_ble_eq_true rfl, Nat.le_of_ble_eq_true rfl, rfl, rfl⟩ rfl hl.1 (Nat.le_of_ble_eq_true rfl) ⟨Nat.zero_le _, Nat.zero_le _⟩ dX5_addTile_156 rfl er4 (fun H locs hw => ?_)
      obtain ⟨v6, ev6, hf⟩ := rx_vvI hf
      refine lv_iinc (lv' := [(5, .int v6), (0, .ref ((ad 2))), (3, .int w3), (4, .int w4)]) hx hb dX5_addTile_159 hl (k := 3) rfl (rx_inc ic_1 ev6) (Nat.le_of_ble_eq_true rfl) rfl (fun ls hl => ?_)
      refine lv_goto hx hb dX5_addTile_162 rfl ?_
      exact ih hw (lv_sub hl [1, 2, 3, 0] rfl) hf
set_option maxRecDepth 100000 in
set_option maxHeartbeats 4000000 in
theorem qk_X5_addTile_168 (cx : rx_C p m c cX5_addTile 7 s args wX5_addTile RX5 D vwCl (tX cI cL) (zX b1 b2) wN A) (hret : rx_RV p l e rm_X5_addTile s m args below meth c cX5_addTile D vwCl (wX ad cI cL) A Q o) {w3 : Int32} {w4 : Int32} {k187 : Me → Op} (h187 : ∀ {ls : Array Slot} {H : Heap} {locs : List Loc} {M : Me}, rx_W D vwCl (wX ad cI cL) A s.heap M H locs → lv_has ls 7 [(0, .ref ((ad 2))), (4, .int w4)] → k187 M = some o → W p l e rm_X5_addTile s m args below meth c H locs 0 0 Q (F0 m 187 ls [])) : ∀ (n : Nat) {w5 : Int32} {ls : Array Slot} {H : Heap} {locs : List Loc} {M : Me}, rx_W D vwCl (wX ad cI cL) A s.heap M H locs → lv_has ls 7 [(0, .ref ((ad 2))), (3, .int w3), (4, .int w4), (5, .int w5)] → rx_lp1 (qo_X5_addTile_168 k187 w3 w4) n w5 M = some o → W p l e rm_X5_addTile s m args below meth c H locs 0 0 Q (F0 m 168 ls []) := by
  have hx := cx.1.1
  have hb := cx.1.2.1
  intro n
  induction n with
  | zero => intro w5 ls H locs M hw hl hf; exact rx_no hf
  | succ n ih =>
    intro w5 ls H locs M hw hl hf
    have hf : qo_X5_addTile_168 k187 w3 w4 (rx_lp1 (qo_X5_addTile_168 k187 w3 w4) n) w5 M = some o := hf
    refine lv_iload hx hb dX5_addTile_168 (lv_at hl 3 rfl) ?_
    refine lv_iconst (v := 4) hx hb dX5_addTile_170 ic_4 ?_
    refine lv_icmp_ge hx hb dX5_addTile_171 rfl (fun hc => ?_) (fun hc => ?_)
    · have hf := rx_t hc hf
      exact h187 hw (lv_sub hl [0, 2] rfl) hf
    · have hf := rx_f hc hf
      refine lv_aload_n hx hb dX5_addTile_174 rfl (lv_at hl 0 rfl) ?_
      refine lv_iload_n hx hb dX5_addTile_175 rfl (lv_at hl 1 rfl) ?_
      refine lv_iload hx hb dX5_addTile_176 (lv_at hl 3 rfl) ?_
      obtain ⟨r1, M2, er1, hf⟩ := rx_clI hf
      refine rx_jVv cx hw (qc_X5_joinSide l D ad cI cL b1 b2 w3 w5) (obX_2 ad cI cL) rfl rfl kfX5_joinSide tw_489 ⟨Nat.le_of_ble_eq_true rfl, Nat.le_of_ble_eq_true rfl, rfl, rfl⟩ rfl hl.1 (Nat.le_of_ble_eq_true rfl) ⟨Nat.zero_le _, Nat.zero_le _⟩ dX5_addTile_178 rfl er1 (fun H locs hw => ?_)
      obtain ⟨v3, ev3, hf⟩ := rx_vvI hf
      refine lv_iinc (lv' := [(5, .int v3), (0, .ref ((ad 2))), (3, .int w3), (4, .int w4)]) hx hb dX5_addTile_181 hl (k := 3) rfl (rx_inc ic_1 ev3) (Nat.le_of_ble_eq_true rfl) rfl (fun ls hl => ?_)
      refine lv_goto hx hb dX5_addTile_184 rfl ?_
      exact ih hw (lv_sub hl [1, 2, 3, 0] rfl) hf
set_option maxRecDepth 100000 in
set_option maxHeartbeats 4000000 in
theorem qk_X5_addTile_190 (cx : rx_C p m c cX5_addTile 7 s args wX5_addTile RX5 D vwCl (tX cI cL) (zX b1 b2) wN A) (hret : rx_RV p l e rm_X5_addTile s m args below meth c cX5_addTile D vwCl (wX ad cI cL) A Q o) {w4 : Int32} : ∀ (n : Nat) {w5 : Int32} {ls : Array Slot} {H : Heap} {locs : List Loc} {M : Me}, rx_W D vwCl (wX ad cI cL) A s.heap M H locs → lv_has ls 7 [(0, .ref ((ad 2))), (4, .int w4), (5, .int w5)] → rx_lp1 (qo_X5_addTile_190 w4) n w5 M = some o → W p l e rm_X5_addTile s m args below meth c H locs 0 0 Q (F0 m 190 ls []) := by
  have hx := cx.1.1
  have hb := cx.1.2.1
  intro n
  induction n with
  | zero => intro w5 ls H locs M hw hl hf; exact rx_no hf
  | succ n ih =>
    intro w5 ls H locs M hw hl hf
    have hf : qo_X5_addTile_190 w4 (rx_lp1 (qo_X5_addTile_190 w4) n) w5 M = some o := hf
    refine lv_iload hx hb dX5_addTile_190 (lv_at hl 2 rfl) ?_
    refine rx_getsN cx hw (zm2 b1 b2) tn_409 dX5_addTile_192 ?_
    refine rx_lens cx hw (zm2 b1 b2) dX5_addTile_195 ?_
    refine lv_icmp_ge hx hb dX5_addTile_196 rfl (fun hc => ?_) (fun hc => ?_)
    · have hf := rx_t hc hf
      exact rx_retv hret hw hf dX5_addTile_223
    · have hf := rx_f hc hf
      refine lv_aload_n hx hb dX5_addTile_199 rfl (lv_at hl 0 rfl) ?_
      refine rx_getr cx hw (frX_2_4 ad cI cL) rfl (inT_X5) (Nat.le_of_ble_eq_true rfl) (.tail _ tw_138) dX5_addTile_200 ?_
      refine lv_iload hx hb dX5_addTile_203 (lv_at hl 1 rfl) ?_
      refine rx_getsN cx hw (zm2 b1 b2) tn_409 dX5_addTile_205 ?_
      refine lv_iload hx hb dX5_addTile_208 (lv_at hl 2 rfl) ?_
      obtain ⟨hv1, v1, ev1, hf⟩ := rx_lsI hf
      refine rx_lds cx hw (zm2 b1 b2) ⟨hv1, ev1⟩ dX5_addTile_210 ?_
      refine lv_iadd hx hb dX5_addTile_211 ?_
      refine lv_dup2_11 hx hb dX5_addTile_212 rfl rfl ?_
      obtain ⟨hv2, v2, ev2, hf⟩ := rx_ldI hf
      refine rx_iald cx hw (arX_19 ad cI cL) ⟨hv2, ev2⟩ dX5_addTile_213 ?_
      refine lv_iconst (v := 1) hx hb dX5_addTile_214 ic_1 ?_
      refine lv_iadd hx hb dX5_addTile_215 ?_
      obtain ⟨hM3, M3, eM3, hf⟩ := rx_svI hf
      refine rx_iast cx hw (arX_19 ad cI cL) ⟨hM3, eM3⟩ dX5_addTile_216 (fun H locs hw => ?_)
      obtain ⟨v4, ev4, hf⟩ := rx_vvI hf
      refine lv_iinc (lv' := [(5, .int v4), (0, .ref ((ad 2))), (4, .int w4)]) hx hb dX5_addTile_217 hl (k := 2) rfl (rx_inc ic_1 ev4) (Nat.le_of_ble_eq_true rfl) rfl (fun ls hl => ?_)
      refine lv_goto hx hb dX5_addTile_220 rfl ?_
      exact ih hw (lv_sub hl [1, 2, 0] rfl) hf
set_option maxRecDepth 100000 in
set_option maxHeartbeats 4000000 in
theorem qk_X5_addTile_187 (cx : rx_C p m c cX5_addTile 7 s args wX5_addTile RX5 D vwCl (tX cI cL) (zX b1 b2) wN A) (hret : rx_RV p l e rm_X5_addTile s m args below meth c cX5_addTile D vwCl (wX ad cI cL) A Q o) {w4 : Int32} {ls : Array Slot} {H : Heap} {locs : List Loc} {M : Me} (hw : rx_W D vwCl (wX ad cI cL) A s.heap M H locs) (hl : lv_has ls 7 [(0, .ref ((ad 2))), (4, .int w4)]) (hf : qb_X5_addTile_187 w4 M = some o) : W p l e rm_X5_addTile s m args below meth c H locs 0 0 Q (F0 m 187 ls []) := by
  have hx := cx.1.1
  have hb := cx.1.2.1
  refine lv_iconst (v := 0) hx hb dX5_addTile_187 ic_0 ?_
  refine lv_istore (lv' := [(5, .int 0), (0, .ref ((ad 2))), (4, .int w4)]) hx hb dX5_addTile_188 hl (Nat.le_of_ble_eq_true rfl) rfl (fun ls hl => ?_)
  exact (qk_X5_addTile_190 cx hret rx_FU) hw (lv_sub hl [1, 2, 0] rfl) hf
set_option maxRecDepth 100000 in
set_option maxHeartbeats 4000000 in
theorem qk_X5_addTile_165 (cx : rx_C p m c cX5_addTile 7 s args wX5_addTile RX5 D vwCl (tX cI cL) (zX b1 b2) wN A) (hret : rx_RV p l e rm_X5_addTile s m args below meth c cX5_addTile D vwCl (wX ad cI cL) A Q o) {w3 : Int32} {w4 : Int32} {ls : Array Slot} {H : Heap} {locs : List Loc} {M : Me} (hw : rx_W D vwCl (wX ad cI cL) A s.heap M H locs) (hl : lv_has ls 7 [(0, .ref ((ad 2))), (3, .int w3), (4, .int w4)]) (hf : qb_X5_addTile_165 w3 w4 M = some o) : W p l e rm_X5_addTile s m args below meth c H locs 0 0 Q (F0 m 165 ls []) := by
  have hx := cx.1.1
  have hb := cx.1.2.1
  refine lv_iconst (v := 0) hx hb dX5_addTile_165 ic_0 ?_
  refine lv_istore (lv' := [(5, .int 0), (0, .ref ((ad 2))), (3, .int w3), (4, .int w4)]) hx hb dX5_addTile_166 hl (Nat.le_of_ble_eq_true rfl) rfl (fun ls hl => ?_)
  exact (qk_X5_addTile_168 cx hret (qk_X5_addTile_187 cx hret) rx_FU) hw (lv_sub hl [1, 2, 3, 0] rfl) hf
set_option maxRecDepth 100000 in
set_option maxHeartbeats 4000000 in
theorem qk_X5_addTile_124 (cx : rx_C p m c cX5_addTile 7 s args wX5_addTile RX5 D vwCl (tX cI cL) (zX b1 b2) wN A) (hret : rx_RV p l e rm_X5_addTile s m args below meth c cX5_addTile D vwCl (wX ad cI cL) A Q o) {w3 : Int32} {w4 : Int32} {ls : Array Slot} {H : Heap} {locs : List Loc} {M : Me} (hw : rx_W D vwCl (wX ad cI cL) A s.heap M H locs) (hl : lv_has ls 7 [(0, .ref ((ad 2))), (3, .int w3), (4, .int w4)]) (hf : qb_X5_addTile_124 w3 w4 M = some o) : W p l e rm_X5_addTile s m args below meth c H locs 0 0 Q (F0 m 124 ls []) := by
  have hx := cx.1.1
  have hb := cx.1.2.1
  refine lv_iconst (v := 0) hx hb dX5_addTile_124 ic_0 ?_
  refine lv_istore (lv' := [(5, .int 0), (0, .ref ((ad 2))), (3, .int w3), (4, .int w4)]) hx hb dX5_addTile_125 hl (Nat.le_of_ble_eq_true rfl) rfl (fun ls hl => ?_)
  exact (qk_X5_addTile_127 cx hret (qk_X5_addTile_165 cx hret) rx_FU) hw (lv_sub hl [1, 2, 3, 0] rfl) hf
set_option maxRecDepth 100000 in
set_option maxHeartbeats 4000000 in
theorem qk_X5_addTile_0 (cx : rx_C p m c cX5_addTile 7 s args wX5_addTile RX5 D vwCl (tX cI cL) (zX b1 b2) wN A) (hret : rx_RV p l e rm_X5_addTile s m args below meth c cX5_addTile D vwCl (wX ad cI cL) A Q o) {w1 : Int32} {w2 : Int32} {ls : Array Slot} {H : Heap} {locs : List Loc} {M : Me} (hw : rx_W D vwCl (wX ad cI cL) A s.heap M H locs) (hl : lv_has ls 7 [(0, .ref ((ad 2))), (1, .int w1), (2, .int w2)]) (hf : qf_X5_addTile w1 w2 M = some o) : W p l e rm_X5_addTile s m args below meth c H locs 0 0 Q (F0 m 0 ls []) := by
  have hx := cx.1.1
  have hb := cx.1.2.1
  refine lv_aload_n hx hb dX5_addTile_0 rfl (lv_at hl 0 rfl) ?_
  obtain ⟨v1, ev1, hf⟩ := rx_vvI hf
  refine rx_geti cx hw (fiX_2_9 ad cI cL) rfl (inT_X5) (Nat.le_of_ble_eq_true rfl) (.tail _ tw_145) ev1 dX5_addTile_1 ?_
  refine lv_istore_n (lv' := [(3, .int v1), (0, .ref ((ad 2))), (1, .int w1), (2, .int w2)]) hx hb dX5_addTile_4 rfl hl (Nat.le_of_ble_eq_true rfl) rfl (fun ls hl => ?_)
  refine lv_iload_n hx hb dX5_addTile_5 rfl (lv_at hl 3 rfl) ?_
  refine lv_iconst (v := 4) hx hb dX5_addTile_6 ic_4 ?_
  refine lv_idiv hx hb dX5_addTile_7 nz_4 ?_
  obtain ⟨v2, ev2, hf⟩ := rx_vvI hf
  refine rx_top ev2 ?_
  refine lv_istore (lv' := [(4, .int v2), (3, .int v1), (0, .ref ((ad 2))), (1, .int w1), (2, .int w2)]) hx hb dX5_addTile_8 hl (Nat.le_of_ble_eq_true rfl) rfl (fun ls hl => ?_)
  refine lv_aload_n hx hb dX5_addTile_10 rfl (lv_at hl 2 rfl) ?_
  refine lv_dup hx hb dX5_addTile_11 rfl ?_
  obtain ⟨v3, ev3, hf⟩ := rx_vvI hf
  refine rx_geti cx hw (fiX_2_9 ad cI cL) rfl (inT_X5) (Nat.le_of_ble_eq_true rfl) (.tail _ tw_145) ev3 dX5_addTile_12 ?_
  refine lv_iconst (v := 1) hx hb dX5_addTile_15 ic_1 ?_
  refine lv_iadd hx hb dX5_addTile_16 ?_
  obtain ⟨M4, eM4, hf⟩ := rx_vvI hf
  refine rx_puti cx hw (fiX_2_9 ad cI cL) rfl (inT_X5) tyX5 tyX5_ok nmX5 (Nat.le_of_ble_eq_true rfl) (.tail _ tw_145) rfl rfl rfl eM4 dX5_addTile_17 (fun H locs hw => ?_)
  refine lv_aload_n hx hb dX5_addTile_20 rfl (lv_at hl 2 rfl) ?_
  refine rx_getr cx hw (frX_2_2 ad cI cL) rfl (inT_X5) (Nat.le_of_ble_eq_true rfl) (.tail _ tw_135) dX5_addTile_21 ?_
  refine lv_iload hx hb dX5_addTile_24 (lv_at hl 0 rfl) ?_
  refine lv_iload_n hx hb dX5_addTile_26 rfl (lv_at hl 1 rfl) ?_
  obtain ⟨hM5, M5, eM5, hf⟩ := rx_svI hf
  refine rx_iast cx hw (arX_17 ad cI cL) ⟨hM5, eM5⟩ dX5_addTile_27 (fun H locs hw => ?_)
  refine lv_aload_n hx hb dX5_addTile_28 rfl (lv_at hl 2 rfl) ?_
  refine rx_getr cx hw (frX_2_5 ad cI cL) rfl (inT_X5) (Nat.le_of_ble_eq_true rfl) (.tail _ tw_139) dX5_addTile_29 ?_
  refine lv_iload_n hx hb dX5_addTile_32 rfl (lv_at hl 1 rfl) ?_
  refine lv_iload hx hb dX5_addTile_33 (lv_at hl 0 rfl) ?_
  obtain ⟨hM6, M6, eM6, hf⟩ := rx_svI hf
  refine rx_iast cx hw (arX_20 ad cI cL) ⟨hM6, eM6⟩ dX5_addTile_35 (fun H locs hw => ?_)
  refine lv_aload_n hx hb dX5_addTile_36 rfl (lv_at hl 2 rfl) ?_
  refine rx_getr cx hw (frX_2_6 ad cI cL) rfl (inT_X5) (Nat.le_of_ble_eq_true rfl) (.tail _ tw_141) dX5_addTile_37 ?_
  refine lv_iload_n hx hb dX5_addTile_40 rfl (lv_at hl 1 rfl) ?_
  refine lv_iload_n hx hb dX5_addTile_41 rfl (lv_at hl 3 rfl) ?_
  obtain ⟨hM7, M7, eM7, hf⟩ := rx_svI hf
  refine rx_iast cx hw (arX_21 ad cI cL) ⟨hM7, eM7⟩ dX5_addTile_42 (fun H locs hw => ?_)
  refine lv_aload_n hx hb dX5_addTile_43 rfl (lv_at hl 2 rfl) ?_
  refine rx_getr cx hw (frX_2_7 ad cI cL) rfl (inT_X5) (Nat.le_of_ble_eq_true rfl) (.tail _ tw_143) dX5_addTile_44 ?_
  refine lv_iload_n hx hb dX5_addTile_47 rfl (lv_at hl 1 rfl) ?_
  refine lv_iload_n hx hb dX5_addTile_48 rfl (lv_at hl 4 rfl) ?_
  refine lv_iconst (v := 4) hx hb dX5_addTile_49 ic_4 ?_
  refine lv_irem hx hb dX5_addTile_50 nz_4 ?_
  obtain ⟨hM8, M8, eM8, hf⟩ := rx_svI hf
  refine rx_iast cx hw (arX_22 ad cI cL) ⟨hM8, eM8⟩ dX5_addTile_51 (fun H locs hw => ?_)
  refine lv_aload_n hx hb dX5_addTile_52 rfl (lv_at hl 2 rfl) ?_
  refine rx_getr cx hw (frX_2_8 ad cI cL) rfl (inT_X5) (Nat.le_of_ble_eq_true rfl) (.tail _ tw_144) dX5_addTile_53 ?_
  refine lv_iload_n hx hb dX5_addTile_56 rfl (lv_at hl 1 rfl) ?_
  refine lv_aload_n hx hb dX5_addTile_57 rfl (lv_at hl 2 rfl) ?_
  refine rx_getr cx hw (frX_2_1 ad cI cL) rfl (inT_X5) (Nat.le_of_ble_eq_true rfl) (.tail _ tw_132) dX5_addTile_58 ?_
  obtain ⟨v9, ev9, hf⟩ := rx_vvI hf
  refine rx_getiN cx hw (fiX_3_7 ad cI cL) rfl (inT_X3) (Nat.le_of_ble_eq_true rfl) tn_100 ev9 dX5_addTile_61 ?_
  obtain ⟨hM10, M10, eM10, hf⟩ := rx_svI hf
  refine rx_iast cx hw (arX_23 ad cI cL) ⟨hM10, eM10⟩ dX5_addTile_64 (fun H locs hw => ?_)
  refine lv_iconst (v := 0) hx hb dX5_addTile_65 ic_0 ?_
  refine lv_istore (lv' := [(5, .int 0), (4, .int v2), (3, .int v1), (0, .ref ((ad 2))), (1, .int w1), (2, .int w2)]) hx hb dX5_addTile_66 hl (Nat.le_of_ble_eq_true rfl) rfl (fun ls hl => ?_)
  exact (qk_X5_addTile_68 cx hret (qk_X5_addTile_124 cx hret) rx_FU) hw (lv_sub hl [3, 4, 2, 1, 0] rfl) hf
end
set_option maxRecDepth 100000 in
theorem qc_X5_addTile (l : Launch) (D : va_G) (ad : Nat → Nat) (cI cL : ClassId) (b1 b2 : Nat) (w1 : Int32) (w2 : Int32) : rx_MV l yX5_addTile wX5_addTile rm_X5_addTile D vwCl (wX ad cI cL) (tX cI cL) (zX b1 b2) wN [.ref (ad 2), .int w1, .int w2] (fun M => qf_X5_addTile w1 w2 M) :=
  rx_ofV (by decide) rfl wN_ok (Nat.le_of_ble_eq_true rfl) (fun _ _ _ _ _ _ _ _ _ _ _ _ _ cx hret hw hl hf => qk_X5_addTile_0 cx hret hw hl hf)
def rm_X2_lay : Room := { frames := 4, cells := 0, slots := 0, locals := 98 }
noncomputable def qf_X2_lay  (w1 : Int32)  (M : Me) : Op :=
  rx_vv (M 4 6) fun v1 => rx_cl (qf_X5_addTile v1 w1 M) fun r2 M3 => rx_vv (rx_st M3 4 6 (-1)) fun M4 => rx_vv (rx_st M4 4 3 1) fun M5 => some (0, M5)
section
variable {p : Program} {l : Launch} {e : Env} {s : State} {m : MethodId} {args : Array Value} {below : List Frame} {meth : Method} {c : Code} {Q : State → Prop} {D : va_G} {A : Nat → Prop} {o : Int32 × Me} {ad : Nat → Nat} {cI cL : ClassId} {b1 b2 : Nat}
set_option maxRecDepth 100000 in
set_option maxHeartbeats 4000000 in
theorem qk_X2_lay_0 (cx : rx_C p m c cX2_lay 2 s args wX2_lay RX2 D vwCl (tX cI cL) (zX b1 b2) wN A) (hret : rx_RV p l e rm_X2_lay s m args below meth c cX2_lay D vwCl (wX ad cI cL) A Q o) {w1 : Int32} {ls : Array Slot} {H : Heap} {locs : List Loc} {M : Me} (hw : rx_W D vwCl (wX ad cI cL) A s.heap M H locs) (hl : lv_has ls 2 [(0, .ref ((ad 4))), (1, .int w1)]) (hf : qf_X2_lay w1 M = some o) : W p l e rm_X2_lay s m args below meth c H locs 0 0 Q (F0 m 0 ls []) := by
  have hx := cx.1.1
  have hb := cx.1.2.1
  refine lv_aload_n hx hb dX2_lay_0 rfl (lv_at hl 0 rfl) ?_
  refine rx_getr cx hw (frX_4_1 ad cI cL) rfl (inT_X2) (Nat.le_of_ble_eq_true rfl) (.tail _ tw_182) dX2_lay_1 ?_
  refine lv_aload_n hx hb dX2_lay_4 rfl (lv_at hl 0 rfl) ?_
  obtain ⟨v1, ev1, hf⟩ := rx_vvI hf
  refine rx_geti cx hw (fiX_4_6 ad cI cL) rfl (inT_X2) (Nat.le_of_ble_eq_true rfl) (.tail _ tw_192) ev1 dX2_lay_5 ?_
  refine lv_iload_n hx hb dX2_lay_8 rfl (lv_at hl 1 rfl) ?_
  obtain ⟨r2, M3, er2, hf⟩ := rx_clI hf
  refine rx_jVv cx hw (qc_X5_addTile l D ad cI cL b1 b2 v1 w1) (obX_2 ad cI cL) rfl rfl kfX5_addTile tw_481 ⟨Nat.le_of_ble_eq_true rfl, Nat.le_of_ble_eq_true rfl, rfl, rfl⟩ rfl hl.1 (Nat.le_of_ble_eq_true rfl) ⟨Nat.zero_le _, Nat.zero_le _⟩ dX2_lay_9 rfl er2 (fun H locs hw => ?_)
  refine lv_aload_n hx hb dX2_lay_12 rfl (lv_at hl 0 rfl) ?_
  refine lv_iconst (v := (-1)) hx hb dX2_lay_13 ic_m1 ?_
  obtain ⟨M4, eM4, hf⟩ := rx_vvI hf
  refine rx_puti cx hw (fiX_4_6 ad cI cL) rfl (inT_X2) tyX2 tyX2_ok nmX2 (Nat.le_of_ble_eq_true rfl) (.tail _ tw_192) rfl rfl rfl eM4 dX2_lay_14 (fun H locs hw => ?_)
  refine lv_aload_n hx hb dX2_lay_17 rfl (lv_at hl 0 rfl) ?_
  refine lv_iconst (v := 1) hx hb dX2_lay_18 ic_1 ?_
  obtain ⟨M5, eM5, hf⟩ := rx_vvI hf
  refine rx_puti cx hw (fiX_4_3 ad cI cL) rfl (inT_X2) tyX2 tyX2_ok nmX2 (Nat.le_of_ble_eq_true rfl) (.tail _ tw_185) rfl rfl rfl eM5 dX2_lay_19 (fun H locs hw => ?_)
  exact rx_retv hret hw hf dX2_lay_22
end
set_option maxRecDepth 100000 in
theorem qc_X2_lay (l : Launch) (D : va_G) (ad : Nat → Nat) (cI cL : ClassId) (b1 b2 : Nat) (w1 : Int32) : rx_MV l yX2_lay wX2_lay rm_X2_lay D vwCl (wX ad cI cL) (tX cI cL) (zX b1 b2) wN [.ref (ad 4), .int w1] (fun M => qf_X2_lay w1 M) :=
  rx_ofV (by decide) rfl wN_ok (Nat.le_of_ble_eq_true rfl) (fun _ _ _ _ _ _ _ _ _ _ _ _ _ cx hret hw hl hf => qk_X2_lay_0 cx hret hw hl hf)
def rm_X6_place : Room := { frames := 5, cells := 0, slots := 0, locals := 119 }
noncomputable def qf_X6_place  (w1 : Int32) (w2 : Int32) (w3 : Int32)  (M : Me) : Op :=
  rx_cl (qf_X6_isPlace w1 w2 M) fun r1 M2 => if r1 = 0 then (some ((-2), M2)) else (if w3 < 0 then (some ((-2), M2)) else (if 4 ≤ w3 then (some ((-2), M2)) else (rx_vv (M2 4 6) fun v3 => if v3 = (-1) then (some ((-2), M2)) else (rx_cl (qf_X6_cellAt w1 w2 M2) fun r4 M5 => rx_vv ((r4 * 4) + w3) fun v6 => rx_vv (M5 4 6) fun v7 => rx_cl (qf_X5_nextFit v7 v6 M5) fun r8 M9 => if r8 = v6 then (rx_cl (qf_X4_forget M9) fun r10 M11 => rx_cl (qf_X2_lay v6 M11) fun r12 M13 => rx_vv (M13 2 9) fun v14 => some (v14 - 1, M13)) else (some ((-2), M9))))))
section
variable {p : Program} {l : Launch} {e : Env} {s : State} {m : MethodId} {args : Array Value} {below : List Frame} {meth : Method} {c : Code} {Q : State → Prop} {D : va_G} {A : Nat → Prop} {o : Int32 × Me} {ad : Nat → Nat} {cI cL : ClassId} {b1 b2 : Nat}
set_option maxRecDepth 100000 in
set_option maxHeartbeats 4000000 in
theorem qk_X6_place_0 (cx : rx_C p m c cX6_place 5 s args wX6_place RX6 D vwCl (tX cI cL) (zX b1 b2) wN A) (hret : rx_RI p l e rm_X6_place s m args below meth c cX6_place D vwCl (wX ad cI cL) A Q o) {w1 : Int32} {w2 : Int32} {w3 : Int32} {ls : Array Slot} {H : Heap} {locs : List Loc} {M : Me} (hw : rx_W D vwCl (wX ad cI cL) A s.heap M H locs) (hl : lv_has ls 5 [(0, .ref ((ad 0))), (1, .int w1), (2, .int w2), (3, .int w3)]) (hf : qf_X6_place w1 w2 w3 M = some o) : W p l e rm_X6_place s m args below meth c H locs 0 0 Q (F0 m 0 ls []) := by
  have hx := cx.1.1
  have hb := cx.1.2.1
  refine lv_iload_n hx hb dX6_place_0 rfl (lv_at hl 1 rfl) ?_
  refine lv_iload_n hx hb dX6_place_1 rfl (lv_at hl 2 rfl) ?_
  obtain ⟨r1, M2, er1, hf⟩ := rx_clI hf
  refine rx_jSi cx hw (qc_X6_isPlace l D ad cI cL b1 b2 w1 w2) kfX6_isPlace tw_470 ⟨Nat.le_of_ble_eq_true rfl, Nat.le_of_ble_eq_true rfl, rfl, rfl⟩ rfl hl.1 (Nat.le_of_ble_eq_true rfl) ⟨Nat.zero_le _, Nat.zero_le _⟩ dX6_place_2 rfl er1 (fun H locs hw => ?_)
  refine lv_if_eq hx hb dX6_place_5 rfl (fun hc => ?_) (fun hc => ?_)
  · have hf := rx_t hc hf
    refine lv_bipush (v := (-2)) hx hb dX6_place_28 ib_m2 ?_
    exact rx_reti hret hw hf dX6_place_30
  · have hf := rx_f hc hf
    refine lv_iload_n hx hb dX6_place_8 rfl (lv_at hl 3 rfl) ?_
    refine lv_if_lt hx hb dX6_place_9 rfl (fun hc => ?_) (fun hc => ?_)
    · have hf := rx_t hc hf
      refine lv_bipush (v := (-2)) hx hb dX6_place_28 ib_m2 ?_
      exact rx_reti hret hw hf dX6_place_30
    · have hf := rx_f hc hf
      refine lv_iload_n hx hb dX6_place_12 rfl (lv_at hl 3 rfl) ?_
      refine lv_iconst (v := 4) hx hb dX6_place_13 ic_4 ?_
      refine lv_icmp_ge hx hb dX6_place_14 rfl (fun hc => ?_) (fun hc => ?_)
      · have hf := rx_t hc hf
        refine lv_bipush (v := (-2)) hx hb dX6_place_28 ib_m2 ?_
        exact rx_reti hret hw hf dX6_place_30
      · have hf := rx_f hc hf
        refine lv_aload_n hx hb dX6_place_17 rfl (lv_at hl 0 rfl) ?_
        refine rx_getr cx hw (frX_0_2 ad cI cL) rfl (inT_X6) (Nat.le_of_ble_eq_true rfl) (.tail _ tw_306) dX6_place_18 ?_
        obtain ⟨v3, ev3, hf⟩ := rx_vvI hf
        refine rx_getiN cx hw (fiX_4_6 ad cI cL) rfl (inT_X2) (Nat.le_of_ble_eq_true rfl) tn_194 ev3 dX6_place_21 ?_
        refine lv_iconst (v := (-1)) hx hb dX6_place_24 ic_m1 ?_
        refine lv_icmp_ne hx hb dX6_place_25 rfl (fun hc => ?_) (fun hc => ?_)
        · have hf := rx_f hc hf
          refine lv_iload_n hx hb dX6_place_31 rfl (lv_at hl 1 rfl) ?_
          refine lv_iload_n hx hb dX6_place_32 rfl (lv_at hl 2 rfl) ?_
          obtain ⟨r4, M5, er4, hf⟩ := rx_clI hf
          refine rx_jSi cx hw (qc_X6_cellAt l D ad cI cL b1 b2 w1 w2) kfX6_cellAt tw_473 ⟨Nat.le_of_ble_eq_true rfl, Nat.le_of_ble_eq_true rfl, rfl, rfl⟩ rfl hl.1 (Nat.le_of_ble_eq_true rfl) ⟨Nat.zero_le _, Nat.zero_le _⟩ dX6_place_33 rfl er4 (fun H locs hw => ?_)
          refine lv_iconst (v := 4) hx hb dX6_place_36 ic_4 ?_
          refine lv_imul hx hb dX6_place_37 ?_
          refine lv_iload_n hx hb dX6_place_38 rfl (lv_at hl 3 rfl) ?_
          refine lv_iadd hx hb dX6_place_39 ?_
          obtain ⟨v6, ev6, hf⟩ := rx_vvI hf
          refine rx_top ev6 ?_
          refine lv_istore (lv' := [(4, .int v6), (0, .ref ((ad 0))), (1, .int w1), (2, .int w2), (3, .int w3)]) hx hb dX6_place_40 hl (Nat.le_of_ble_eq_true rfl) rfl (fun ls hl => ?_)
          refine lv_aload_n hx hb dX6_place_42 rfl (lv_at hl 1 rfl) ?_
          refine rx_getr cx hw (frX_0_1 ad cI cL) rfl (inT_X6) (Nat.le_of_ble_eq_true rfl) (.tail _ tw_305) dX6_place_43 ?_
          refine lv_aload_n hx hb dX6_place_46 rfl (lv_at hl 1 rfl) ?_
          refine rx_getr cx hw (frX_0_2 ad cI cL) rfl (inT_X6) (Nat.le_of_ble_eq_true rfl) (.tail _ tw_306) dX6_place_47 ?_
          obtain ⟨v7, ev7, hf⟩ := rx_vvI hf
          refine rx_getiN cx hw (fiX_4_6 ad cI cL) rfl (inT_X2) (Nat.le_of_ble_eq_true rfl) tn_194 ev7 dX6_place_50 ?_
          refine lv_iload hx hb dX6_place_53 (lv_at hl 0 rfl) ?_
          obtain ⟨r8, M9, er8, hf⟩ := rx_clI hf
          refine rx_jVi cx hw (qc_X5_nextFit l D ad cI cL b1 b2 v7 v6) (obX_2 ad cI cL) rfl rfl kfX5_nextFit tw_476 ⟨Nat.le_of_ble_eq_true rfl, Nat.le_of_ble_eq_true rfl, rfl, rfl⟩ rfl hl.1 (Nat.le_of_ble_eq_true rfl) ⟨Nat.zero_le _, Nat.zero_le _⟩ dX6_place_55 rfl er8 (fun H locs hw => ?_)
          refine lv_iload hx hb dX6_place_58 (lv_at hl 0 rfl) ?_
          refine lv_icmp_eq hx hb dX6_place_60 rfl (fun hc => ?_) (fun hc => ?_)
          · have hf := rx_t hc hf
            refine lv_aload_n hx hb dX6_place_66 rfl (lv_at hl 1 rfl) ?_
            refine rx_getr cx hw (frX_0_3 ad cI cL) rfl (inT_X6) (Nat.le_of_ble_eq_true rfl) (.tail _ tw_307) dX6_place_67 ?_
            obtain ⟨r10, M11, er10, hf⟩ := rx_clI hf
            refine rx_jVv cx hw (qc_X4_forget l D ad cI cL b1 b2) (obX_5 ad cI cL) rfl rfl kfX4_forget tw_364 ⟨Nat.le_of_ble_eq_true rfl, Nat.le_of_ble_eq_true rfl, rfl, rfl⟩ rfl hl.1 (Nat.le_of_ble_eq_true rfl) ⟨Nat.zero_le _, Nat.zero_le _⟩ dX6_place_70 rfl er10 (fun H locs hw => ?_)
            refine lv_aload_n hx hb dX6_place_73 rfl (lv_at hl 1 rfl) ?_
            refine rx_getr cx hw (frX_0_2 ad cI cL) rfl (inT_X6) (Nat.le_of_ble_eq_true rfl) (.tail _ tw_306) dX6_place_74 ?_
            refine lv_iload hx hb dX6_place_77 (lv_at hl 0 rfl) ?_
            obtain ⟨r12, M13, er12, hf⟩ := rx_clI hf
            refine rx_jVv cx hw (qc_X2_lay l D ad cI cL b1 b2 v6) (obX_4 ad cI cL) rfl rfl kfX2_lay tw_477 ⟨Nat.le_of_ble_eq_true rfl, Nat.le_of_ble_eq_true rfl, rfl, rfl⟩ rfl hl.1 (Nat.le_of_ble_eq_true rfl) ⟨Nat.zero_le _, Nat.zero_le _⟩ dX6_place_79 rfl er12 (fun H locs hw => ?_)
            refine lv_aload_n hx hb dX6_place_82 rfl (lv_at hl 1 rfl) ?_
            refine rx_getr cx hw (frX_0_1 ad cI cL) rfl (inT_X6) (Nat.le_of_ble_eq_true rfl) (.tail _ tw_305) dX6_place_83 ?_
            obtain ⟨v14, ev14, hf⟩ := rx_vvI hf
            refine rx_getiN cx hw (fiX_2_9 ad cI cL) rfl (inT_X5) (Nat.le_of_ble_eq_true rfl) tn_147 ev14 dX6_place_86 ?_
            refine lv_iconst (v := 1) hx hb dX6_place_89 ic_1 ?_
            refine lv_isub hx hb dX6_place_90 ?_
            exact rx_reti hret hw hf dX6_place_91
          · have hf := rx_f hc hf
            refine lv_bipush (v := (-2)) hx hb dX6_place_63 ib_m2 ?_
            exact rx_reti hret hw hf dX6_place_65
        · have hf := rx_t hc hf
          refine lv_bipush (v := (-2)) hx hb dX6_place_28 ib_m2 ?_
          exact rx_reti hret hw hf dX6_place_30
end
set_option maxRecDepth 100000 in
theorem qc_X6_place (l : Launch) (D : va_G) (ad : Nat → Nat) (cI cL : ClassId) (b1 b2 : Nat) (w1 : Int32) (w2 : Int32) (w3 : Int32) : rx_MI l yX6_place wX6_place rm_X6_place D vwCl (wX ad cI cL) (tX cI cL) (zX b1 b2) wN [.ref (ad 0), .int w1, .int w2, .int w3] (fun M => qf_X6_place w1 w2 w3 M) :=
  rx_ofI (by decide) rfl wN_ok (Nat.le_of_ble_eq_true rfl) (fun _ _ _ _ _ _ _ _ _ _ _ _ _ cx hret hw hl hf => qk_X6_place_0 cx hret hw hl hf)
def rm_X5_kindOf : Room := { frames := 0, cells := 0, slots := 0, locals := 0 }
noncomputable def qf_X5_kindOf  (w1 : Int32)  (M : Me) : Op :=
  rx_ld M 21 24 (w1 / 8) fun v1 => rx_ld M 11 96 ((v1 * 8) + (w1 - w1 / 8 * 8)) fun v2 => some (v2, M)
section
variable {p : Program} {l : Launch} {e : Env} {s : State} {m : MethodId} {args : Array Value} {below : List Frame} {meth : Method} {c : Code} {Q : State → Prop} {D : va_G} {A : Nat → Prop} {o : Int32 × Me} {ad : Nat → Nat} {cI cL : ClassId} {b1 b2 : Nat}
set_option maxRecDepth 100000 in
set_option maxHeartbeats 4000000 in
theorem qk_X5_kindOf_0 (cx : rx_C p m c cX5_kindOf 2 s args wX5_kindOf RX5 D vwCl (tX cI cL) (zX b1 b2) wN A) (hret : rx_RI p l e rm_X5_kindOf s m args below meth c cX5_kindOf D vwCl (wX ad cI cL) A Q o) {w1 : Int32} {ls : Array Slot} {H : Heap} {locs : List Loc} {M : Me} (hw : rx_W D vwCl (wX ad cI cL) A s.heap M H locs) (hl : lv_has ls 2 [(0, .ref ((ad 2))), (1, .int w1)]) (hf : qf_X5_kindOf w1 M = some o) : W p l e rm_X5_kindOf s m args below meth c H locs 0 0 Q (F0 m 0 ls []) := by
  have hx := cx.1.1
  have hb := cx.1.2.1
  refine lv_aload_n hx hb dX5_kindOf_0 rfl (lv_at hl 0 rfl) ?_
  refine rx_getr cx hw (frX_2_0 ad cI cL) rfl (inT_X5) (Nat.le_of_ble_eq_true rfl) (.tail _ tw_131) dX5_kindOf_1 ?_
  refine rx_getrN cx hw (frX_1_2 ad cI cL) rfl (inT_X0) (Nat.le_of_ble_eq_true rfl) tn_32 dX5_kindOf_4 ?_
  refine lv_aload_n hx hb dX5_kindOf_7 rfl (lv_at hl 0 rfl) ?_
  refine rx_getr cx hw (frX_2_6 ad cI cL) rfl (inT_X5) (Nat.le_of_ble_eq_true rfl) (.tail _ tw_141) dX5_kindOf_8 ?_
  refine lv_iload_n hx hb dX5_kindOf_11 rfl (lv_at hl 1 rfl) ?_
  refine lv_bipush (v := 8) hx hb dX5_kindOf_12 ib_8 ?_
  refine lv_idiv hx hb dX5_kindOf_14 nz_8 ?_
  obtain ⟨hv1, v1, ev1, hf⟩ := rx_ldI hf
  refine rx_iald cx hw (arX_21 ad cI cL) ⟨hv1, ev1⟩ dX5_kindOf_15 ?_
  refine lv_bipush (v := 8) hx hb dX5_kindOf_16 ib_8 ?_
  refine lv_imul hx hb dX5_kindOf_18 ?_
  refine lv_iload_n hx hb dX5_kindOf_19 rfl (lv_at hl 1 rfl) ?_
  refine lv_bipush (v := 8) hx hb dX5_kindOf_20 ib_8 ?_
  refine lv_irem hx hb dX5_kindOf_22 nz_8 ?_
  refine lv_iadd hx hb dX5_kindOf_23 ?_
  obtain ⟨hv2, v2, ev2, hf⟩ := rx_ldI hf
  refine rx_iald cx hw (arX_11 ad cI cL) ⟨hv2, ev2⟩ dX5_kindOf_24 ?_
  exact rx_reti hret hw hf dX5_kindOf_25
end
set_option maxRecDepth 100000 in
theorem qc_X5_kindOf (l : Launch) (D : va_G) (ad : Nat → Nat) (cI cL : ClassId) (b1 b2 : Nat) (w1 : Int32) : rx_MI l yX5_kindOf wX5_kindOf rm_X5_kindOf D vwCl (wX ad cI cL) (tX cI cL) (zX b1 b2) wN [.ref (ad 2), .int w1] (fun M => qf_X5_kindOf w1 M) :=
  rx_ofI (by decide) rfl wN_ok (Nat.le_of_ble_eq_true rfl) (fun _ _ _ _ _ _ _ _ _ _ _ _ _ cx hret hw hl hf => qk_X5_kindOf_0 cx hret hw hl hf)
def rm_X2_mayPut : Room := { frames := 1, cells := 0, slots := 0, locals := 23 }
noncomputable def qf_X2_mayPut  (w1 : Int32)  (M : Me) : Op :=
  rx_vv (M 4 3) fun v1 => if v1 = 0 then (rx_zb 0 (some (0, M))) else (if w1 < (-1) then (rx_zb 0 (some (0, M))) else (if w1 < 8 then (if w1 = (-1) then (rx_zb 1 (some (1, M))) else (rx_vv (M 2 9) fun v2 => rx_vv (((v2 - 1) * 8) + w1) fun v3 => rx_vv (M 4 5) fun v4 => rx_ld M 35 3 v4 fun v5 => if v5 ≤ 0 then (rx_zb 0 (some (0, M))) else (rx_cl (qf_X5_kindOf v3 M) fun r6 M7 => if r6 = 0 then (rx_zb 0 (some (0, M7))) else (rx_cl (qf_X3_rootOf v3 M7) fun r8 M9 => rx_ld M9 29 192 r8 fun v10 => if v10 = 0 then (rx_zb 1 (some (1, M9))) else (rx_zb 0 (some (0, M9))))))) else (rx_zb 0 (some (0, M)))))
section
variable {p : Program} {l : Launch} {e : Env} {s : State} {m : MethodId} {args : Array Value} {below : List Frame} {meth : Method} {c : Code} {Q : State → Prop} {D : va_G} {A : Nat → Prop} {o : Int32 × Me} {ad : Nat → Nat} {cI cL : ClassId} {b1 b2 : Nat}
set_option maxRecDepth 100000 in
set_option maxHeartbeats 4000000 in
theorem qk_X2_mayPut_0 (cx : rx_C p m c cX2_mayPut 3 s args wX2_mayPut RX2 D vwCl (tX cI cL) (zX b1 b2) wN A) (hret : rx_RZ p l e rm_X2_mayPut s m args below meth c cX2_mayPut D vwCl (wX ad cI cL) A Q o) {w1 : Int32} {ls : Array Slot} {H : Heap} {locs : List Loc} {M : Me} (hw : rx_W D vwCl (wX ad cI cL) A s.heap M H locs) (hl : lv_has ls 3 [(0, .ref ((ad 4))), (1, .int w1)]) (hf : qf_X2_mayPut w1 M = some o) : W p l e rm_X2_mayPut s m args below meth c H locs 0 0 Q (F0 m 0 ls []) := by
  have hx := cx.1.1
  have hb := cx.1.2.1
  refine lv_aload_n hx hb dX2_mayPut_0 rfl (lv_at hl 0 rfl) ?_
  obtain ⟨v1, ev1, hf⟩ := rx_vvI hf
  refine rx_geti cx hw (fiX_4_3 ad cI cL) rfl (inT_X2) (Nat.le_of_ble_eq_true rfl) (.tail _ tw_185) ev1 dX2_mayPut_1 ?_
  refine lv_if_eq hx hb dX2_mayPut_4 rfl (fun hc => ?_) (fun hc => ?_)
  · have hf := rx_t hc hf
    refine lv_iconst (v := 0) hx hb dX2_mayPut_18 ic_0 ?_
    exact rx_retz hret hw hf dX2_mayPut_19
  · have hf := rx_f hc hf
    refine lv_iload_n hx hb dX2_mayPut_7 rfl (lv_at hl 1 rfl) ?_
    refine lv_iconst (v := (-1)) hx hb dX2_mayPut_8 ic_m1 ?_
    refine lv_icmp_lt hx hb dX2_mayPut_9 rfl (fun hc => ?_) (fun hc => ?_)
    · have hf := rx_t hc hf
      refine lv_iconst (v := 0) hx hb dX2_mayPut_18 ic_0 ?_
      exact rx_retz hret hw hf dX2_mayPut_19
    · have hf := rx_f hc hf
      refine lv_iload_n hx hb dX2_mayPut_12 rfl (lv_at hl 1 rfl) ?_
      refine lv_bipush (v := 8) hx hb dX2_mayPut_13 ib_8 ?_
      refine lv_icmp_lt hx hb dX2_mayPut_15 rfl (fun hc => ?_) (fun hc => ?_)
      · have hf := rx_t hc hf
        refine lv_iload_n hx hb dX2_mayPut_20 rfl (lv_at hl 1 rfl) ?_
        refine lv_iconst (v := (-1)) hx hb dX2_mayPut_21 ic_m1 ?_
        refine lv_icmp_ne hx hb dX2_mayPut_22 rfl (fun hc => ?_) (fun hc => ?_)
        · have hf := rx_f hc hf
          refine lv_aload_n hx hb dX2_mayPut_27 rfl (lv_at hl 0 rfl) ?_
          refine rx_getr cx hw (frX_4_1 ad cI cL) rfl (inT_X2) (Nat.le_of_ble_eq_true rfl) (.tail _ tw_182) dX2_mayPut_28 ?_
          obtain ⟨v2, ev2, hf⟩ := rx_vvI hf
          refine rx_getiN cx hw (fiX_2_9 ad cI cL) rfl (inT_X5) (Nat.le_of_ble_eq_true rfl) tn_146 ev2 dX2_mayPut_31 ?_
          refine lv_iconst (v := 1) hx hb dX2_mayPut_34 ic_1 ?_
          refine lv_isub hx hb dX2_mayPut_35 ?_
          refine lv_bipush (v := 8) hx hb dX2_mayPut_36 ib_8 ?_
          refine lv_imul hx hb dX2_mayPut_38 ?_
          refine lv_iload_n hx hb dX2_mayPut_39 rfl (lv_at hl 1 rfl) ?_
          refine lv_iadd hx hb dX2_mayPut_40 ?_
          obtain ⟨v3, ev3, hf⟩ := rx_vvI hf
          refine rx_top ev3 ?_
          refine lv_istore_n (lv' := [(2, .int v3), (0, .ref ((ad 4))), (1, .int w1)]) hx hb dX2_mayPut_41 rfl hl (Nat.le_of_ble_eq_true rfl) rfl (fun ls hl => ?_)
          refine lv_aload_n hx hb dX2_mayPut_42 rfl (lv_at hl 1 rfl) ?_
          refine rx_getr cx hw (frX_4_10 ad cI cL) rfl (inT_X2) (Nat.le_of_ble_eq_true rfl) (.tail _ tw_201) dX2_mayPut_43 ?_
          refine lv_aload_n hx hb dX2_mayPut_46 rfl (lv_at hl 1 rfl) ?_
          obtain ⟨v4, ev4, hf⟩ := rx_vvI hf
          refine rx_geti cx hw (fiX_4_5 ad cI cL) rfl (inT_X2) (Nat.le_of_ble_eq_true rfl) (.tail _ tw_191) ev4 dX2_mayPut_47 ?_
          obtain ⟨hv5, v5, ev5, hf⟩ := rx_ldI hf
          refine rx_iald cx hw (arX_35 ad cI cL) ⟨hv5, ev5⟩ dX2_mayPut_50 ?_
          refine lv_if_le hx hb dX2_mayPut_51 rfl (fun hc => ?_) (fun hc => ?_)
          · have hf := rx_t hc hf
            refine lv_iconst (v := 0) hx hb dX2_mayPut_94 ic_0 ?_
            exact rx_retz hret hw hf dX2_mayPut_95
          · have hf := rx_f hc hf
            refine lv_aload_n hx hb dX2_mayPut_54 rfl (lv_at hl 1 rfl) ?_
            refine rx_getr cx hw (frX_4_1 ad cI cL) rfl (inT_X2) (Nat.le_of_ble_eq_true rfl) (.tail _ tw_182) dX2_mayPut_55 ?_
            refine lv_iload_n hx hb dX2_mayPut_58 rfl (lv_at hl 0 rfl) ?_
            obtain ⟨r6, M7, er6, hf⟩ := rx_clI hf
            refine rx_jVi cx hw (qc_X5_kindOf l D ad cI cL b1 b2 v3) (obX_2 ad cI cL) rfl rfl kfX5_kindOf tw_511 ⟨Nat.le_of_ble_eq_true rfl, Nat.le_of_ble_eq_true rfl, rfl, rfl⟩ rfl hl.1 (Nat.le_of_ble_eq_true rfl) ⟨Nat.zero_le _, Nat.zero_le _⟩ dX2_mayPut_59 rfl er6 (fun H locs hw => ?_)
            refine lv_if_eq hx hb dX2_mayPut_62 rfl (fun hc => ?_) (fun hc => ?_)
            · have hf := rx_t hc hf
              refine lv_iconst (v := 0) hx hb dX2_mayPut_94 ic_0 ?_
              exact rx_retz hret hw hf dX2_mayPut_95
            · have hf := rx_f hc hf
              refine lv_aload_n hx hb dX2_mayPut_65 rfl (lv_at hl 1 rfl) ?_
              refine rx_getr cx hw (frX_4_1 ad cI cL) rfl (inT_X2) (Nat.le_of_ble_eq_true rfl) (.tail _ tw_182) dX2_mayPut_66 ?_
              refine rx_getrN cx hw (frX_2_1 ad cI cL) rfl (inT_X5) (Nat.le_of_ble_eq_true rfl) tn_133 dX2_mayPut_69 ?_
              refine rx_getrN cx hw (frX_3_4 ad cI cL) rfl (inT_X3) (Nat.le_of_ble_eq_true rfl) tn_95 dX2_mayPut_72 ?_
              refine lv_aload_n hx hb dX2_mayPut_75 rfl (lv_at hl 1 rfl) ?_
              refine rx_getr cx hw (frX_4_1 ad cI cL) rfl (inT_X2) (Nat.le_of_ble_eq_true rfl) (.tail _ tw_182) dX2_mayPut_76 ?_
              refine rx_getrN cx hw (frX_2_1 ad cI cL) rfl (inT_X5) (Nat.le_of_ble_eq_true rfl) tn_133 dX2_mayPut_79 ?_
              refine lv_iload_n hx hb dX2_mayPut_82 rfl (lv_at hl 0 rfl) ?_
              obtain ⟨r8, M9, er8, hf⟩ := rx_clI hf
              refine rx_jVi cx hw (qc_X3_rootOf l D ad cI cL b1 b2 v3) (obX_3 ad cI cL) rfl rfl kfX3_rootOf tw_515 ⟨Nat.le_of_ble_eq_true rfl, Nat.le_of_ble_eq_true rfl, rfl, rfl⟩ rfl hl.1 (Nat.le_of_ble_eq_true rfl) ⟨Nat.zero_le _, Nat.zero_le _⟩ dX2_mayPut_83 rfl er8 (fun H locs hw => ?_)
              obtain ⟨hv10, v10, ev10, hf⟩ := rx_ldI hf
              refine rx_iald cx hw (arX_29 ad cI cL) ⟨hv10, ev10⟩ dX2_mayPut_86 ?_
              refine lv_if_ne hx hb dX2_mayPut_87 rfl (fun hc => ?_) (fun hc => ?_)
              · have hf := rx_f hc hf
                refine lv_iconst (v := 0) hx hb dX2_mayPut_94 ic_0 ?_
                exact rx_retz hret hw hf dX2_mayPut_95
              · have hf := rx_t hc hf
                refine lv_iconst (v := 1) hx hb dX2_mayPut_90 ic_1 ?_
                refine lv_goto hx hb dX2_mayPut_91 rfl ?_
                exact rx_retz hret hw hf dX2_mayPut_95
        · have hf := rx_t hc hf
          refine lv_iconst (v := 1) hx hb dX2_mayPut_25 ic_1 ?_
          exact rx_retz hret hw hf dX2_mayPut_26
      · have hf := rx_f hc hf
        refine lv_iconst (v := 0) hx hb dX2_mayPut_18 ic_0 ?_
        exact rx_retz hret hw hf dX2_mayPut_19
end
set_option maxRecDepth 100000 in
theorem qc_X2_mayPut (l : Launch) (D : va_G) (ad : Nat → Nat) (cI cL : ClassId) (b1 b2 : Nat) (w1 : Int32) : rx_MI l yX2_mayPut wX2_mayPut rm_X2_mayPut D vwCl (wX ad cI cL) (tX cI cL) (zX b1 b2) wN [.ref (ad 4), .int w1] (fun M => qf_X2_mayPut w1 M) :=
  rx_ofZ (by decide) rfl wN_ok (Nat.le_of_ble_eq_true rfl) (fun _ _ _ _ _ _ _ _ _ _ _ _ _ cx hret hw hl hf => qk_X2_mayPut_0 cx hret hw hl hf)
def rm_X6_menOf : Room := { frames := 0, cells := 0, slots := 0, locals := 0 }
noncomputable def qf_X6_menOf  (w0 : Int32) (w1 : Int32)  (M : Me) : Op :=
  some (((Int32.toUInt32 w0 >>> (Int32.toUInt32 (4 * w1) &&& Int32.toUInt32 31)).toInt32) &&& 15, M)
section
variable {p : Program} {l : Launch} {e : Env} {s : State} {m : MethodId} {args : Array Value} {below : List Frame} {meth : Method} {c : Code} {Q : State → Prop} {D : va_G} {A : Nat → Prop} {o : Int32 × Me} {ad : Nat → Nat} {cI cL : ClassId} {b1 b2 : Nat}
set_option maxRecDepth 100000 in
set_option maxHeartbeats 4000000 in
theorem qk_X6_menOf_0 (cx : rx_C p m c cX6_menOf 2 s args wX6_menOf RX6 D vwCl (tX cI cL) (zX b1 b2) wN A) (hret : rx_RI p l e rm_X6_menOf s m args below meth c cX6_menOf D vwCl (wX ad cI cL) A Q o) {w0 : Int32} {w1 : Int32} {ls : Array Slot} {H : Heap} {locs : List Loc} {M : Me} (hw : rx_W D vwCl (wX ad cI cL) A s.heap M H locs) (hl : lv_has ls 2 [(0, .int w0), (1, .int w1)]) (hf : qf_X6_menOf w0 w1 M = some o) : W p l e rm_X6_menOf s m args below meth c H locs 0 0 Q (F0 m 0 ls []) := by
  have hx := cx.1.1
  have hb := cx.1.2.1
  refine lv_iload_n hx hb dX6_menOf_0 rfl (lv_at hl 0 rfl) ?_
  refine lv_iconst (v := 4) hx hb dX6_menOf_1 ic_4 ?_
  refine lv_iload_n hx hb dX6_menOf_2 rfl (lv_at hl 1 rfl) ?_
  refine lv_imul hx hb dX6_menOf_3 ?_
  refine lv_iushr hx hb dX6_menOf_4 rfl ?_
  refine lv_bipush (v := 15) hx hb dX6_menOf_5 ib_15 ?_
  refine lv_iand hx hb dX6_menOf_7 ?_
  exact rx_reti hret hw hf dX6_menOf_8
end
set_option maxRecDepth 100000 in
theorem qc_X6_menOf (l : Launch) (D : va_G) (ad : Nat → Nat) (cI cL : ClassId) (b1 b2 : Nat) (w0 : Int32) (w1 : Int32) : rx_MI l yX6_menOf wX6_menOf rm_X6_menOf D vwCl (wX ad cI cL) (tX cI cL) (zX b1 b2) wN [.int w0, .int w1] (fun M => qf_X6_menOf w0 w1 M) :=
  rx_ofI (by decide) rfl wN_ok (Nat.le_of_ble_eq_true rfl) (fun _ _ _ _ _ _ _ _ _ _ _ _ _ cx hret hw hl hf => qk_X6_menOf_0 cx hret hw hl hf)
def rm_X3_setMen : Room := { frames := 0, cells := 0, slots := 0, locals := 0 }
noncomputable def qf_X3_setMen  (w1 : Int32) (w2 : Int32)  (M : Me) : Op :=
  rx_vv (M 3 10) fun v1 => rx_sv M 32 48 v1 w1 fun M2 => rx_vv (M2 3 10) fun v3 => rx_ld M2 29 192 w1 fun v4 => rx_sv M2 33 48 v3 v4 fun M5 => rx_vv (M5 3 10) fun v6 => rx_vv (rx_st M5 3 10 (v6 + 1)) fun M7 => rx_sv M7 29 192 w1 w2 fun M8 => some (0, M8)
section
variable {p : Program} {l : Launch} {e : Env} {s : State} {m : MethodId} {args : Array Value} {below : List Frame} {meth : Method} {c : Code} {Q : State → Prop} {D : va_G} {A : Nat → Prop} {o : Int32 × Me} {ad : Nat → Nat} {cI cL : ClassId} {b1 b2 : Nat}
set_option maxRecDepth 100000 in
set_option maxHeartbeats 4000000 in
theorem qk_X3_setMen_0 (cx : rx_C p m c cX3_setMen 3 s args wX3_setMen RX3 D vwCl (tX cI cL) (zX b1 b2) wN A) (hret : rx_RV p l e rm_X3_setMen s m args below meth c cX3_setMen D vwCl (wX ad cI cL) A Q o) {w1 : Int32} {w2 : Int32} {ls : Array Slot} {H : Heap} {locs : List Loc} {M : Me} (hw : rx_W D vwCl (wX ad cI cL) A s.heap M H locs) (hl : lv_has ls 3 [(0, .ref ((ad 3))), (1, .int w1), (2, .int w2)]) (hf : qf_X3_setMen w1 w2 M = some o) : W p l e rm_X3_setMen s m args below meth c H locs 0 0 Q (F0 m 0 ls []) := by
  have hx := cx.1.1
  have hb := cx.1.2.1
  refine lv_aload_n hx hb dX3_setMen_0 rfl (lv_at hl 0 rfl) ?_
  refine rx_getr cx hw (frX_3_8 ad cI cL) rfl (inT_X3) (Nat.le_of_ble_eq_true rfl) (.tail _ tw_101) dX3_setMen_1 ?_
  refine lv_aload_n hx hb dX3_setMen_4 rfl (lv_at hl 0 rfl) ?_
  obtain ⟨v1, ev1, hf⟩ := rx_vvI hf
  refine rx_geti cx hw (fiX_3_10 ad cI cL) rfl (inT_X3) (Nat.le_of_ble_eq_true rfl) (.tail _ tw_103) ev1 dX3_setMen_5 ?_
  refine lv_iload_n hx hb dX3_setMen_8 rfl (lv_at hl 1 rfl) ?_
  obtain ⟨hM2, M2, eM2, hf⟩ := rx_svI hf
  refine rx_iast cx hw (arX_32 ad cI cL) ⟨hM2, eM2⟩ dX3_setMen_9 (fun H locs hw => ?_)
  refine lv_aload_n hx hb dX3_setMen_10 rfl (lv_at hl 0 rfl) ?_
  refine rx_getr cx hw (frX_3_9 ad cI cL) rfl (inT_X3) (Nat.le_of_ble_eq_true rfl) (.tail _ tw_102) dX3_setMen_11 ?_
  refine lv_aload_n hx hb dX3_setMen_14 rfl (lv_at hl 0 rfl) ?_
  obtain ⟨v3, ev3, hf⟩ := rx_vvI hf
  refine rx_geti cx hw (fiX_3_10 ad cI cL) rfl (inT_X3) (Nat.le_of_ble_eq_true rfl) (.tail _ tw_103) ev3 dX3_setMen_15 ?_
  refine lv_aload_n hx hb dX3_setMen_18 rfl (lv_at hl 0 rfl) ?_
  refine rx_getr cx hw (frX_3_4 ad cI cL) rfl (inT_X3) (Nat.le_of_ble_eq_true rfl) (.tail _ tw_94) dX3_setMen_19 ?_
  refine lv_iload_n hx hb dX3_setMen_22 rfl (lv_at hl 1 rfl) ?_
  obtain ⟨hv4, v4, ev4, hf⟩ := rx_ldI hf
  refine rx_iald cx hw (arX_29 ad cI cL) ⟨hv4, ev4⟩ dX3_setMen_23 ?_
  obtain ⟨hM5, M5, eM5, hf⟩ := rx_svI hf
  refine rx_iast cx hw (arX_33 ad cI cL) ⟨hM5, eM5⟩ dX3_setMen_24 (fun H locs hw => ?_)
  refine lv_aload_n hx hb dX3_setMen_25 rfl (lv_at hl 0 rfl) ?_
  refine lv_dup hx hb dX3_setMen_26 rfl ?_
  obtain ⟨v6, ev6, hf⟩ := rx_vvI hf
  refine rx_geti cx hw (fiX_3_10 ad cI cL) rfl (inT_X3) (Nat.le_of_ble_eq_true rfl) (.tail _ tw_103) ev6 dX3_setMen_27 ?_
  refine lv_iconst (v := 1) hx hb dX3_setMen_30 ic_1 ?_
  refine lv_iadd hx hb dX3_setMen_31 ?_
  obtain ⟨M7, eM7, hf⟩ := rx_vvI hf
  refine rx_puti cx hw (fiX_3_10 ad cI cL) rfl (inT_X3) tyX3 tyX3_ok nmX3 (Nat.le_of_ble_eq_true rfl) (.tail _ tw_103) rfl rfl rfl eM7 dX3_setMen_32 (fun H locs hw => ?_)
  refine lv_aload_n hx hb dX3_setMen_35 rfl (lv_at hl 0 rfl) ?_
  refine rx_getr cx hw (frX_3_4 ad cI cL) rfl (inT_X3) (Nat.le_of_ble_eq_true rfl) (.tail _ tw_94) dX3_setMen_36 ?_
  refine lv_iload_n hx hb dX3_setMen_39 rfl (lv_at hl 1 rfl) ?_
  refine lv_iload_n hx hb dX3_setMen_40 rfl (lv_at hl 2 rfl) ?_
  obtain ⟨hM8, M8, eM8, hf⟩ := rx_svI hf
  refine rx_iast cx hw (arX_29 ad cI cL) ⟨hM8, eM8⟩ dX3_setMen_41 (fun H locs hw => ?_)
  exact rx_retv hret hw hf dX3_setMen_42
end
set_option maxRecDepth 100000 in
theorem qc_X3_setMen (l : Launch) (D : va_G) (ad : Nat → Nat) (cI cL : ClassId) (b1 b2 : Nat) (w1 : Int32) (w2 : Int32) : rx_MV l yX3_setMen wX3_setMen rm_X3_setMen D vwCl (wX ad cI cL) (tX cI cL) (zX b1 b2) wN [.ref (ad 3), .int w1, .int w2] (fun M => qf_X3_setMen w1 w2 M) :=
  rx_ofV (by decide) rfl wN_ok (Nat.le_of_ble_eq_true rfl) (fun _ _ _ _ _ _ _ _ _ _ _ _ _ cx hret hw hl hf => qk_X3_setMen_0 cx hret hw hl hf)
def rm_X5_isFinished : Room := { frames := 1, cells := 0, slots := 0, locals := 21 }
noncomputable def qf_X5_isFinished  (w1 : Int32)  (M : Me) : Op :=
  rx_cl (qf_X5_kindOf w1 M) fun r1 M2 => if r1 = 1 then (rx_ld M2 28 192 w1 fun v3 => if v3 = 0 then (rx_zb 1 (some (1, M2))) else (rx_zb 0 (some (0, M2)))) else (if r1 = 2 then (rx_ld M2 28 192 w1 fun v4 => if v4 = 0 then (rx_zb 1 (some (1, M2))) else (rx_zb 0 (some (0, M2)))) else (if r1 = 3 then (rx_zb 0 (some (0, M2))) else (if r1 = 4 then (rx_ld M2 20 24 (w1 / 8) fun v5 => rx_ld M2 19 441 v5 fun v6 => if v6 = (Int32.ofNat sZ2.length) then (rx_zb 1 (some (1, M2))) else (rx_zb 0 (some (0, M2)))) else (rx_zb 0 (some (0, M2))))))
section
variable {p : Program} {l : Launch} {e : Env} {s : State} {m : MethodId} {args : Array Value} {below : List Frame} {meth : Method} {c : Code} {Q : State → Prop} {D : va_G} {A : Nat → Prop} {o : Int32 × Me} {ad : Nat → Nat} {cI cL : ClassId} {b1 b2 : Nat}
set_option maxRecDepth 100000 in
set_option maxHeartbeats 4000000 in
theorem qk_X5_isFinished_0 (cx : rx_C p m c cX5_isFinished 2 s args wX5_isFinished RX5 D vwCl (tX cI cL) (zX b1 b2) wN A) (hret : rx_RZ p l e rm_X5_isFinished s m args below meth c cX5_isFinished D vwCl (wX ad cI cL) A Q o) {w1 : Int32} {ls : Array Slot} {H : Heap} {locs : List Loc} {M : Me} (hw : rx_W D vwCl (wX ad cI cL) A s.heap M H locs) (hl : lv_has ls 2 [(0, .ref ((ad 2))), (1, .int w1)]) (hf : qf_X5_isFinished w1 M = some o) : W p l e rm_X5_isFinished s m args below meth c H locs 0 0 Q (F0 m 0 ls []) := by
  have hx := cx.1.1
  have hb := cx.1.2.1
  refine lv_aload_n hx hb dX5_isFinished_0 rfl (lv_at hl 0 rfl) ?_
  refine lv_iload_n hx hb dX5_isFinished_1 rfl (lv_at hl 1 rfl) ?_
  obtain ⟨r1, M2, er1, hf⟩ := rx_clI hf
  refine rx_jVi cx hw (qc_X5_kindOf l D ad cI cL b1 b2 w1) (obX_2 ad cI cL) rfl rfl kfX5_kindOf tw_543 ⟨Nat.le_of_ble_eq_true rfl, Nat.le_of_ble_eq_true rfl, rfl, rfl⟩ rfl hl.1 (Nat.le_of_ble_eq_true rfl) ⟨Nat.zero_le _, Nat.zero_le _⟩ dX5_isFinished_2 rfl er1 (fun H locs hw => ?_)
  by_cases hs0 : r1 = 1
  · have hf := rx_t hs0 hf
    refine lv_tableIn hx hb dX5_isFinished_5 (by rw [hs0]; decide) (by rw [hs0]; decide) (by rw [hs0]; rfl) rfl ?_
    refine lv_aload_n hx hb dX5_isFinished_36 rfl (lv_at hl 0 rfl) ?_
    refine rx_getr cx hw (frX_2_1 ad cI cL) rfl (inT_X5) (Nat.le_of_ble_eq_true rfl) (.tail _ tw_132) dX5_isFinished_37 ?_
    refine rx_getrN cx hw (frX_3_3 ad cI cL) rfl (inT_X3) (Nat.le_of_ble_eq_true rfl) tn_92 dX5_isFinished_40 ?_
    refine lv_iload_n hx hb dX5_isFinished_43 rfl (lv_at hl 1 rfl) ?_
    obtain ⟨hv3, v3, ev3, hf⟩ := rx_ldI hf
    refine rx_iald cx hw (arX_28 ad cI cL) ⟨hv3, ev3⟩ dX5_isFinished_44 ?_
    refine lv_if_ne hx hb dX5_isFinished_45 rfl (fun hc => ?_) (fun hc => ?_)
    · have hf := rx_f hc hf
      refine lv_iconst (v := 0) hx hb dX5_isFinished_52 ic_0 ?_
      exact rx_retz hret hw hf dX5_isFinished_53
    · have hf := rx_t hc hf
      refine lv_iconst (v := 1) hx hb dX5_isFinished_48 ic_1 ?_
      refine lv_goto hx hb dX5_isFinished_49 rfl ?_
      exact rx_retz hret hw hf dX5_isFinished_53
  · have hf := rx_f hs0 hf
    by_cases hs1 : r1 = 2
    · have hf := rx_t hs1 hf
      refine lv_tableIn hx hb dX5_isFinished_5 (by rw [hs1]; decide) (by rw [hs1]; decide) (by rw [hs1]; rfl) rfl ?_
      refine lv_aload_n hx hb dX5_isFinished_36 rfl (lv_at hl 0 rfl) ?_
      refine rx_getr cx hw (frX_2_1 ad cI cL) rfl (inT_X5) (Nat.le_of_ble_eq_true rfl) (.tail _ tw_132) dX5_isFinished_37 ?_
      refine rx_getrN cx hw (frX_3_3 ad cI cL) rfl (inT_X3) (Nat.le_of_ble_eq_true rfl) tn_92 dX5_isFinished_40 ?_
      refine lv_iload_n hx hb dX5_isFinished_43 rfl (lv_at hl 1 rfl) ?_
      obtain ⟨hv4, v4, ev4, hf⟩ := rx_ldI hf
      refine rx_iald cx hw (arX_28 ad cI cL) ⟨hv4, ev4⟩ dX5_isFinished_44 ?_
      refine lv_if_ne hx hb dX5_isFinished_45 rfl (fun hc => ?_) (fun hc => ?_)
      · have hf := rx_f hc hf
        refine lv_iconst (v := 0) hx hb dX5_isFinished_52 ic_0 ?_
        exact rx_retz hret hw hf dX5_isFinished_53
      · have hf := rx_t hc hf
        refine lv_iconst (v := 1) hx hb dX5_isFinished_48 ic_1 ?_
        refine lv_goto hx hb dX5_isFinished_49 rfl ?_
        exact rx_retz hret hw hf dX5_isFinished_53
    · have hf := rx_f hs1 hf
      by_cases hs2 : r1 = 3
      · have hf := rx_t hs2 hf
        refine lv_tableIn hx hb dX5_isFinished_5 (by rw [hs2]; decide) (by rw [hs2]; decide) (by rw [hs2]; rfl) rfl ?_
        refine lv_iconst (v := 0) hx hb dX5_isFinished_81 ic_0 ?_
        exact rx_retz hret hw hf dX5_isFinished_82
      · have hf := rx_f hs2 hf
        by_cases hs3 : r1 = 4
        · have hf := rx_t hs3 hf
          refine lv_tableIn hx hb dX5_isFinished_5 (by rw [hs3]; decide) (by rw [hs3]; decide) (by rw [hs3]; rfl) rfl ?_
          refine lv_aload_n hx hb dX5_isFinished_54 rfl (lv_at hl 0 rfl) ?_
          refine rx_getr cx hw (frX_2_4 ad cI cL) rfl (inT_X5) (Nat.le_of_ble_eq_true rfl) (.tail _ tw_138) dX5_isFinished_55 ?_
          refine lv_aload_n hx hb dX5_isFinished_58 rfl (lv_at hl 0 rfl) ?_
          refine rx_getr cx hw (frX_2_5 ad cI cL) rfl (inT_X5) (Nat.le_of_ble_eq_true rfl) (.tail _ tw_139) dX5_isFinished_59 ?_
          refine lv_iload_n hx hb dX5_isFinished_62 rfl (lv_at hl 1 rfl) ?_
          refine lv_bipush (v := 8) hx hb dX5_isFinished_63 ib_8 ?_
          refine lv_idiv hx hb dX5_isFinished_65 nz_8 ?_
          obtain ⟨hv5, v5, ev5, hf⟩ := rx_ldI hf
          refine rx_iald cx hw (arX_20 ad cI cL) ⟨hv5, ev5⟩ dX5_isFinished_66 ?_
          obtain ⟨hv6, v6, ev6, hf⟩ := rx_ldI hf
          refine rx_iald cx hw (arX_19 ad cI cL) ⟨hv6, ev6⟩ dX5_isFinished_67 ?_
          refine rx_getsN cx hw (zm2 b1 b2) tn_409 dX5_isFinished_68 ?_
          refine rx_lens cx hw (zm2 b1 b2) dX5_isFinished_71 ?_
          refine lv_icmp_ne hx hb dX5_isFinished_72 rfl (fun hc => ?_) (fun hc => ?_)
          · have hf := rx_f hc hf
            refine lv_iconst (v := 0) hx hb dX5_isFinished_79 ic_0 ?_
            exact rx_retz hret hw hf dX5_isFinished_80
          · have hf := rx_t hc hf
            refine lv_iconst (v := 1) hx hb dX5_isFinished_75 ic_1 ?_
            refine lv_goto hx hb dX5_isFinished_76 rfl ?_
            exact rx_retz hret hw hf dX5_isFinished_80
        · have hf := rx_f hs3 hf
          refine lv_tableOut hx hb dX5_isFinished_5 (by have := lv_neT hs0 it_1; have := lv_neT hs1 it_2; have := lv_neT hs2 it_3; have := lv_neT hs3 it_4; omega) rfl ?_
          refine lv_iconst (v := 0) hx hb dX5_isFinished_81 ic_0 ?_
          exact rx_retz hret hw hf dX5_isFinished_82
end
set_option maxRecDepth 100000 in
theorem qc_X5_isFinished (l : Launch) (D : va_G) (ad : Nat → Nat) (cI cL : ClassId) (b1 b2 : Nat) (w1 : Int32) : rx_MI l yX5_isFinished wX5_isFinished rm_X5_isFinished D vwCl (wX ad cI cL) (tX cI cL) (zX b1 b2) wN [.ref (ad 2), .int w1] (fun M => qf_X5_isFinished w1 M) :=
  rx_ofZ (by decide) rfl wN_ok (Nat.le_of_ble_eq_true rfl) (fun _ _ _ _ _ _ _ _ _ _ _ _ _ cx hret hw hl hf => qk_X5_isFinished_0 cx hret hw hl hf)
def rm_J6_bitCount_X : Room := { frames := 0, cells := 0, slots := 0, locals := 0 }
noncomputable def qf_J6_bitCount_X  (w0 : Int32)  (M : Me) : Op :=
  rx_vv (w0 - (((Int32.toUInt32 w0 >>> (Int32.toUInt32 1 &&& Int32.toUInt32 31)).toInt32) &&& 1431655765)) fun v1 => rx_vv ((v1 &&& 858993459) + (((Int32.toUInt32 v1 >>> (Int32.toUInt32 2 &&& Int32.toUInt32 31)).toInt32) &&& 858993459)) fun v2 => rx_vv ((v2 + ((Int32.toUInt32 v2 >>> (Int32.toUInt32 4 &&& Int32.toUInt32 31)).toInt32)) &&& 252645135) fun v3 => rx_vv (v3 + ((Int32.toUInt32 v3 >>> (Int32.toUInt32 8 &&& Int32.toUInt32 31)).toInt32)) fun v4 => rx_vv (v4 + ((Int32.toUInt32 v4 >>> (Int32.toUInt32 16 &&& Int32.toUInt32 31)).toInt32)) fun v5 => some (v5 &&& 63, M)
section
variable {p : Program} {l : Launch} {e : Env} {s : State} {m : MethodId} {args : Array Value} {below : List Frame} {meth : Method} {c : Code} {Q : State → Prop} {D : va_G} {A : Nat → Prop} {o : Int32 × Me} {ad : Nat → Nat} {cI cL : ClassId} {b1 b2 : Nat}
set_option maxRecDepth 100000 in
set_option maxHeartbeats 4000000 in
theorem qk_J6_bitCount_X_0 (cx : rx_C p m c cJ6_bitCount 1 s args wJ6_bitCount RJ6 D vwCl (tX cI cL) (zX b1 b2) wN A) (hret : rx_RI p l e rm_J6_bitCount_X s m args below meth c cJ6_bitCount D vwCl (wX ad cI cL) A Q o) {w0 : Int32} {ls : Array Slot} {H : Heap} {locs : List Loc} {M : Me} (hw : rx_W D vwCl (wX ad cI cL) A s.heap M H locs) (hl : lv_has ls 1 [(0, .int w0)]) (hf : qf_J6_bitCount_X w0 M = some o) : W p l e rm_J6_bitCount_X s m args below meth c H locs 0 0 Q (F0 m 0 ls []) := by
  have hx := cx.1.1
  have hb := cx.1.2.1
  refine lv_iload_n hx hb dJ6_bitCount_0 rfl (lv_at hl 0 rfl) ?_
  refine lv_iload_n hx hb dJ6_bitCount_1 rfl (lv_at hl 0 rfl) ?_
  refine lv_iconst (v := 1) hx hb dJ6_bitCount_2 ic_1 ?_
  refine lv_iushr hx hb dJ6_bitCount_3 rfl ?_
  refine lv_ldcw (v := 1431655765) hx hb cx.1.2.2.2.1 (cx.1.2.2.2.2 _ (.tail _ tw_551)) dJ6_bitCount_4 ?_
  refine lv_iand hx hb dJ6_bitCount_7 ?_
  refine lv_isub hx hb dJ6_bitCount_8 ?_
  obtain ⟨v1, ev1, hf⟩ := rx_vvI hf
  refine rx_top ev1 ?_
  refine lv_istore_n (lv' := [(0, .int v1)]) hx hb dJ6_bitCount_9 rfl hl (Nat.le_of_ble_eq_true rfl) rfl (fun ls hl => ?_)
  refine lv_iload_n hx hb dJ6_bitCount_10 rfl (lv_at hl 0 rfl) ?_
  refine lv_ldcw (v := 858993459) hx hb cx.1.2.2.2.1 (cx.1.2.2.2.2 _ (.tail _ tw_552)) dJ6_bitCount_11 ?_
  refine lv_iand hx hb dJ6_bitCount_14 ?_
  refine lv_iload_n hx hb dJ6_bitCount_15 rfl (lv_at hl 0 rfl) ?_
  refine lv_iconst (v := 2) hx hb dJ6_bitCount_16 ic_2 ?_
  refine lv_iushr hx hb dJ6_bitCount_17 rfl ?_
  refine lv_ldcw (v := 858993459) hx hb cx.1.2.2.2.1 (cx.1.2.2.2.2 _ (.tail _ tw_552)) dJ6_bitCount_18 ?_
  refine lv_iand hx hb dJ6_bitCount_21 ?_
  refine lv_iadd hx hb dJ6_bitCount_22 ?_
  obtain ⟨v2, ev2, hf⟩ := rx_vvI hf
  refine rx_top ev2 ?_
  refine lv_istore_n (lv' := [(0, .int v2)]) hx hb dJ6_bitCount_23 rfl hl (Nat.le_of_ble_eq_true rfl) rfl (fun ls hl => ?_)
  refine lv_iload_n hx hb dJ6_bitCount_24 rfl (lv_at hl 0 rfl) ?_
  refine lv_iload_n hx hb dJ6_bitCount_25 rfl (lv_at hl 0 rfl) ?_
  refine lv_iconst (v := 4) hx hb dJ6_bitCount_26 ic_4 ?_
  refine lv_iushr hx hb dJ6_bitCount_27 rfl ?_
  refine lv_iadd hx hb dJ6_bitCount_28 ?_
  refine lv_ldcw (v := 252645135) hx hb cx.1.2.2.2.1 (cx.1.2.2.2.2 _ (.tail _ tw_553)) dJ6_bitCount_29 ?_
  refine lv_iand hx hb dJ6_bitCount_32 ?_
  obtain ⟨v3, ev3, hf⟩ := rx_vvI hf
  refine rx_top ev3 ?_
  refine lv_istore_n (lv' := [(0, .int v3)]) hx hb dJ6_bitCount_33 rfl hl (Nat.le_of_ble_eq_true rfl) rfl (fun ls hl => ?_)
  refine lv_iload_n hx hb dJ6_bitCount_34 rfl (lv_at hl 0 rfl) ?_
  refine lv_iload_n hx hb dJ6_bitCount_35 rfl (lv_at hl 0 rfl) ?_
  refine lv_bipush (v := 8) hx hb dJ6_bitCount_36 ib_8 ?_
  refine lv_iushr hx hb dJ6_bitCount_38 rfl ?_
  refine lv_iadd hx hb dJ6_bitCount_39 ?_
  obtain ⟨v4, ev4, hf⟩ := rx_vvI hf
  refine rx_top ev4 ?_
  refine lv_istore_n (lv' := [(0, .int v4)]) hx hb dJ6_bitCount_40 rfl hl (Nat.le_of_ble_eq_true rfl) rfl (fun ls hl => ?_)
  refine lv_iload_n hx hb dJ6_bitCount_41 rfl (lv_at hl 0 rfl) ?_
  refine lv_iload_n hx hb dJ6_bitCount_42 rfl (lv_at hl 0 rfl) ?_
  refine lv_bipush (v := 16) hx hb dJ6_bitCount_43 ib_16 ?_
  refine lv_iushr hx hb dJ6_bitCount_45 rfl ?_
  refine lv_iadd hx hb dJ6_bitCount_46 ?_
  obtain ⟨v5, ev5, hf⟩ := rx_vvI hf
  refine rx_top ev5 ?_
  refine lv_istore_n (lv' := [(0, .int v5)]) hx hb dJ6_bitCount_47 rfl hl (Nat.le_of_ble_eq_true rfl) rfl (fun ls hl => ?_)
  refine lv_iload_n hx hb dJ6_bitCount_48 rfl (lv_at hl 0 rfl) ?_
  refine lv_bipush (v := 63) hx hb dJ6_bitCount_49 ib_63 ?_
  refine lv_iand hx hb dJ6_bitCount_51 ?_
  exact rx_reti hret hw hf dJ6_bitCount_52
end
set_option maxRecDepth 100000 in
theorem qc_J6_bitCount_X (l : Launch) (D : va_G) (ad : Nat → Nat) (cI cL : ClassId) (b1 b2 : Nat) (w0 : Int32) : rx_MI l yJ6_bitCount wJ6_bitCount rm_J6_bitCount_X D vwCl (wX ad cI cL) (tX cI cL) (zX b1 b2) wN [.int w0] (fun M => qf_J6_bitCount_X w0 M) :=
  rx_ofI (by decide) rfl wN_ok (Nat.le_of_ble_eq_true rfl) (fun _ _ _ _ _ _ _ _ _ _ _ _ _ cx hret hw hl hf => qk_J6_bitCount_X_0 cx hret hw hl hf)

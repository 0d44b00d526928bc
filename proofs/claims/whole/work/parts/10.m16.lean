def rm_X7_search : Room := { frames := 9, cells := 0, slots := 0, locals := 213 }
noncomputable def qb_X7_search_277 (k109 : Int32 → Int32 → Me → Op) (w1 : Int32) (w2 : Int32) (w3 : Int32) (w4 : Int32) (w5 : Int32) (w6 : Int32)  (M : Me) : Op :=
  rx_cl (qf_X7_restore 0 M) fun r1 M2 => rx_vv (w6 + 1) fun v3 => k109 w3 v3 M2
noncomputable def qb_X7_search_206 (k109 : Int32 → Int32 → Me → Op) (w1 : Int32) (w2 : Int32) (w3 : Int32) (w4 : Int32) (w5 : Int32) (w6 : Int32)  (M : Me) : Op :=
  rx_cl (qf_X7_ahead_0_17 w2 M) fun r1 M2 => if r1 ≤ w3 then (qb_X7_search_277 k109 w1 w2 w3 w4 w5 w6 M2) else (rx_cl (qf_X7_ahead_0_17 w2 M2) fun r3 M4 => rx_sv M4 20 4 0 (((w4 / 4) - (w4 / 4) / 19 * 19) - 9) fun M5 => rx_sv M5 20 4 1 ((w4 / 76) - 9) fun M6 => rx_sv M6 20 4 2 (w4 - w4 / 4 * 4) fun M7 => rx_sv M7 20 4 3 w6 fun M8 => qb_X7_search_277 k109 w1 w2 r3 w4 w5 w6 M8)
noncomputable def qb_X7_search_169 (k109 : Int32 → Int32 → Me → Op) (w1 : Int32) (w2 : Int32) (w3 : Int32) (w4 : Int32) (w5 : Int32) (w6 : Int32)  (M : Me) : Op :=
  rx_cl (qf_X7_put w6 M) fun r1 M2 => rx_vv (M2 0 30) fun v3 => rx_vv (rx_st M2 0 30 (v3 + 1)) fun M4 => rx_vv (M4 0 20) fun v5 => if v5 < 0 then (rx_cl (qf_X7_count M4) fun r6 M7 => qb_X7_search_206 k109 w1 w2 w3 w4 w5 w6 M7) else (rx_cl (qf_X7_reply w1 M4) fun r8 M9 => qb_X7_search_206 k109 w1 w2 w3 w4 w5 w6 M9)
noncomputable def qo_X7_search_109 (k288 : Int32 → Me → Op) (w1 : Int32) (w2 : Int32) (w4 : Int32) (w5 : Int32) (rec : Int32 → Int32 → Me → Op) (w3 : Int32) (w6 : Int32) (M : Me) : Op :=
  if 8 ≤ w6 then (k288 w3 M) else (if w5 = 0 then (k288 w3 M) else (rx_vv (M 0 30) fun v1 => if w1 < v1 then (k288 w3 M) else (rx_cl (qf_X7_lay (((w4 / 4) - (w4 / 4) / 19 * 19) - 9) ((w4 / 76) - 9) (w4 - w4 / 4 * 4) M) fun r2 M3 => if w6 < 0 then (qb_X7_search_169 rec w1 w2 w3 w4 w5 w6 M3) else (rx_cl (qf_X7_mayFollow w6 M3) fun r4 M5 => if r4 = 0 then (qb_X7_search_277 rec w1 w2 w3 w4 w5 w6 M5) else (qb_X7_search_169 rec w1 w2 w3 w4 w5 w6 M5)))))
noncomputable def qb_X7_search_288 (k58 : Int32 → Int32 → Me → Op) (w1 : Int32) (w2 : Int32) (w3 : Int32) (w4 : Int32)  (M : Me) : Op :=
  rx_vv (w4 + 1) fun v1 => k58 w3 v1 M
noncomputable def qo_X7_search_58 (k294 : Int32 → Me → Op) (w1 : Int32) (w2 : Int32) (rec : Int32 → Int32 → Me → Op) (w3 : Int32) (w4 : Int32) (M : Me) : Op :=
  if 1444 ≤ w4 then (k294 w3 M) else (rx_vv (M 0 30) fun v1 => if w1 < v1 then (k294 w3 M) else (rx_vv (M 0 20) fun v2 => rx_cl (qf_X7_fitsAt v2 (((w4 / 4) - (w4 / 4) / 19 * 19) - 9) ((w4 / 76) - 9) (w4 - w4 / 4 * 4) M) fun r3 M4 => rx_lp2 (qo_X7_search_109 (fun a3 M => qb_X7_search_288 rec w1 w2 a3 w4 M) w1 w2 w4 r3) rx_FU w3 (-1) M4))
noncomputable def qo_X7_search_308 (k334 : Me → Op) (w3 : Int32) (rec : Int32 → Me → Op) (w4 : Int32) (M : Me) : Op :=
  if 4 ≤ w4 then (k334 M) else (rx_ld M 20 4 w4 fun v1 => rx_sv M 19 4 w4 v1 fun M2 => rx_vv (w4 + 1) fun v3 => rec v3 M2)
noncomputable def qb_X7_search_334  (w3 : Int32)  (M : Me) : Op :=
  rx_vv (rx_st M 0 31 1) fun M1 => some (1000 + w3, M1)
noncomputable def qb_X7_search_294  (w1 : Int32) (w3 : Int32)  (M : Me) : Op :=
  rx_vv (M 0 30) fun v1 => if v1 ≤ w1 then (rx_lp1 (qo_X7_search_308 (fun M => qb_X7_search_334 w3 M) w3) rx_FU 0 M) else (some ((-4), M))
noncomputable def qf_X7_search  (w1 : Int32)  (M : Me) : Op :=
  rx_cl (qf_X7_isToLay M) fun r1 M2 => if r1 = 0 then (some ((-1), M2)) else (rx_vv (M2 0 5) fun v3 => rx_vv (M2 0 19) fun v4 => if (v3 - v4) ≤ 1 then (if w1 < 1 then (some ((-2), M2)) else (if w1 ≤ 1500 then (rx_vv (M2 0 18) fun v5 => rx_vv (rx_st M2 0 30 0) fun M6 => rx_cl (qf_X7_copy 0 M6) fun r7 M8 => rx_lp2 (qo_X7_search_58 (fun a3 M => qb_X7_search_294 w1 a3 M) w1 v5) rx_FU (-100000) 0 M8) else (some ((-2), M2)))) else (some ((-1), M2)))
section
variable {p : Program} {l : Launch} {e : Env} {s : State} {m : MethodId} {args : Array Value} {below : List Frame} {meth : Method} {c : Code} {Q : State → Prop} {D : va_G} {A : Nat → Prop} {o : Int32 × Me} {ad : Nat → Nat} {cI cL : ClassId} {b1 b2 : Nat}
set_option maxRecDepth 100000 in
set_option maxHeartbeats 4000000 in
theorem qk_X7_search_277 (cx : rx_C p m c cX7_search 8 s args wX7_search RX7 D vwCl (tY cI cL) [] wN A) (hret : rx_RI p l e rm_X7_search s m args below meth c cX7_search D vwCl (wY ad cI cL) A Q o) {w1 : Int32} {w2 : Int32} {w3 : Int32} {w4 : Int32} {w5 : Int32} {w6 : Int32} {k109 : Int32 → Int32 → Me → Op} (h109 : ∀ {a3 : Int32} {a6 : Int32} {ls : Array Slot} {H : Heap} {locs : List Loc} {M : Me}, rx_W D vwCl (wY ad cI cL) A s.heap M H locs → lv_has ls 8 [(0, .ref ((ad 0))), (1, .int w1), (2, .int w2), (3, .int a3), (4, .int w4), (5, .int w5), (6, .int a6)] → k109 a3 a6 M = some o → W p l e rm_X7_search s m args below meth c H locs 0 0 Q (F0 m 109 ls [])) {ls : Array Slot} {H : Heap} {locs : List Loc} {M : Me} (hw : rx_W D vwCl (wY ad cI cL) A s.heap M H locs) (hl : lv_has ls 8 [(0, .ref ((ad 0))), (1, .int w1), (2, .int w2), (3, .int w3), (4, .int w4), (5, .int w5), (6, .int w6)]) (hf : qb_X7_search_277 k109 w1 w2 w3 w4 w5 w6 M = some o) : W p l e rm_X7_search s m args below meth c H locs 0 0 Q (F0 m 277 ls []) := by
  have hx := cx.1.1
  have hb := cx.1.2.1
  refine lv_aload_n hx hb dX7_search_277 rfl (lv_at hl 0 rfl) ?_
  refine lv_iconst (v := 0) hx hb dX7_search_278 ic_0 ?_
  obtain ⟨r1, M2, er1, hf⟩ := rx_clI hf
  refine rx_jVv cx hw (qc_X7_restore l D ad cI cL 0) (obY_0 ad cI cL) rfl rfl kfX7_restore tw_966 ⟨Nat.le_of_ble_eq_true rfl, Nat.le_of_ble_eq_true rfl, rfl, rfl⟩ rfl hl.1 (Nat.le_of_ble_eq_true rfl) ⟨Nat.zero_le _, Nat.zero_le _⟩ dX7_search_279 rfl er1 (fun H locs hw => ?_)
  obtain ⟨v3, ev3, hf⟩ := rx_vvI hf
  refine lv_iinc (lv' := [(6, .int v3), (0, .ref ((ad 0))), (1, .int w1), (2, .int w2), (3, .int w3), (4, .int w4), (5, .int w5)]) hx hb dX7_search_282 hl (k := 6) rfl (rx_inc ic_1 ev3) (Nat.le_of_ble_eq_true rfl) rfl (fun ls hl => ?_)
  refine lv_goto hx hb dX7_search_285 rfl ?_
  exact h109 hw (lv_sub hl [1, 2, 3, 4, 5, 6, 0] rfl) hf
set_option maxRecDepth 100000 in
set_option maxHeartbeats 4000000 in
theorem qk_X7_search_206 (cx : rx_C p m c cX7_search 8 s args wX7_search RX7 D vwCl (tY cI cL) [] wN A) (hret : rx_RI p l e rm_X7_search s m args below meth c cX7_search D vwCl (wY ad cI cL) A Q o) {w1 : Int32} {w2 : Int32} {w3 : Int32} {w4 : Int32} {w5 : Int32} {w6 : Int32} {k109 : Int32 → Int32 → Me → Op} (h109 : ∀ {a3 : Int32} {a6 : Int32} {ls : Array Slot} {H : Heap} {locs : List Loc} {M : Me}, rx_W D vwCl (wY ad cI cL) A s.heap M H locs → lv_has ls 8 [(0, .ref ((ad 0))), (1, .int w1), (2, .int w2), (3, .int a3), (4, .int w4), (5, .int w5), (6, .int a6)] → k109 a3 a6 M = some o → W p l e rm_X7_search s m args below meth c H locs 0 0 Q (F0 m 109 ls [])) {ls : Array Slot} {H : Heap} {locs : List Loc} {M : Me} (hw : rx_W D vwCl (wY ad cI cL) A s.heap M H locs) (hl : lv_has ls 8 [(0, .ref ((ad 0))), (1, .int w1), (2, .int w2), (3, .int w3), (4, .int w4), (5, .int w5), (6, .int w6)]) (hf : qb_X7_search_206 k109 w1 w2 w3 w4 w5 w6 M = some o) : W p l e rm_X7_search s m args below meth c H locs 0 0 Q (F0 m 206 ls []) := by
  have hx := cx.1.1
  have hb := cx.1.2.1
  refine lv_aload_n hx hb dX7_search_206 rfl (lv_at hl 0 rfl) ?_
  refine lv_aload_n hx hb dX7_search_207 rfl (lv_at hl 0 rfl) ?_
  refine rx_getr cx hw (frY_0_28 ad cI cL) rfl (inT_X7) (Nat.le_of_ble_eq_true rfl) (.tail _ tw_689) dX7_search_208 ?_
  refine lv_iload_n hx hb dX7_search_211 rfl (lv_at hl 2 rfl) ?_
  obtain ⟨r1, M2, er1, hf⟩ := rx_clI hf
  refine rx_jVi cx hw (qc_X7_ahead_0_17 l D ad cI cL w2) (obY_0 ad cI cL) rfl rfl kfX7_ahead tw_962 ⟨Nat.le_of_ble_eq_true rfl, Nat.le_of_ble_eq_true rfl, rfl, rfl⟩ rfl hl.1 (Nat.le_of_ble_eq_true rfl) ⟨Nat.zero_le _, Nat.zero_le _⟩ dX7_search_212 rfl er1 (fun H locs hw => ?_)
  refine lv_iload_n hx hb dX7_search_215 rfl (lv_at hl 3 rfl) ?_
  refine lv_icmp_le hx hb dX7_search_216 rfl (fun hc => ?_) (fun hc => ?_)
  · have hf := rx_t hc hf
    exact (qk_X7_search_277 cx hret h109) hw hl hf
  · have hf := rx_f hc hf
    refine lv_aload_n hx hb dX7_search_219 rfl (lv_at hl 0 rfl) ?_
    refine lv_aload_n hx hb dX7_search_220 rfl (lv_at hl 0 rfl) ?_
    refine rx_getr cx hw (frY_0_28 ad cI cL) rfl (inT_X7) (Nat.le_of_ble_eq_true rfl) (.tail _ tw_689) dX7_search_221 ?_
    refine lv_iload_n hx hb dX7_search_224 rfl (lv_at hl 2 rfl) ?_
    obtain ⟨r3, M4, er3, hf⟩ := rx_clI hf
    refine rx_jVi cx hw (qc_X7_ahead_0_17 l D ad cI cL w2) (obY_0 ad cI cL) rfl rfl kfX7_ahead tw_962 ⟨Nat.le_of_ble_eq_true rfl, Nat.le_of_ble_eq_true rfl, rfl, rfl⟩ rfl hl.1 (Nat.le_of_ble_eq_true rfl) ⟨Nat.zero_le _, Nat.zero_le _⟩ dX7_search_225 rfl er3 (fun H locs hw => ?_)
    refine lv_istore_n (lv' := [(3, .int r3), (0, .ref ((ad 0))), (1, .int w1), (2, .int w2), (4, .int w4), (5, .int w5), (6, .int w6)]) hx hb dX7_search_228 rfl hl (Nat.le_of_ble_eq_true rfl) rfl (fun ls hl => ?_)
    refine lv_aload_n hx hb dX7_search_229 rfl (lv_at hl 1 rfl) ?_
    refine rx_getr cx hw (frY_0_33 ad cI cL) rfl (inT_X7) (Nat.le_of_ble_eq_true rfl) (.tail _ tw_694) dX7_search_230 ?_
    refine lv_iconst (v := 0) hx hb dX7_search_233 ic_0 ?_
    refine lv_iload hx hb dX7_search_234 (lv_at hl 4 rfl) ?_
    refine lv_iconst (v := 4) hx hb dX7_search_236 ic_4 ?_
    refine lv_idiv hx hb dX7_search_237 nz_4 ?_
    refine lv_bipush (v := 19) hx hb dX7_search_238 ib_19 ?_
    refine lv_irem hx hb dX7_search_240 nz_19 ?_
    refine lv_bipush (v := 9) hx hb dX7_search_241 ib_9 ?_
    refine lv_isub hx hb dX7_search_243 ?_
    obtain ⟨hM5, M5, eM5, hf⟩ := rx_svI hf
    refine rx_iast cx hw (arY_20 ad cI cL) ⟨hM5, eM5⟩ dX7_search_244 (fun H locs hw => ?_)
    refine lv_aload_n hx hb dX7_search_245 rfl (lv_at hl 1 rfl) ?_
    refine rx_getr cx hw (frY_0_33 ad cI cL) rfl (inT_X7) (Nat.le_of_ble_eq_true rfl) (.tail _ tw_694) dX7_search_246 ?_
    refine lv_iconst (v := 1) hx hb dX7_search_249 ic_1 ?_
    refine lv_iload hx hb dX7_search_250 (lv_at hl 4 rfl) ?_
    refine lv_bipush (v := 76) hx hb dX7_search_252 ib_76 ?_
    refine lv_idiv hx hb dX7_search_254 nz_76 ?_
    refine lv_bipush (v := 9) hx hb dX7_search_255 ib_9 ?_
    refine lv_isub hx hb dX7_search_257 ?_
    obtain ⟨hM6, M6, eM6, hf⟩ := rx_svI hf
    refine rx_iast cx hw (arY_20 ad cI cL) ⟨hM6, eM6⟩ dX7_search_258 (fun H locs hw => ?_)
    refine lv_aload_n hx hb dX7_search_259 rfl (lv_at hl 1 rfl) ?_
    refine rx_getr cx hw (frY_0_33 ad cI cL) rfl (inT_X7) (Nat.le_of_ble_eq_true rfl) (.tail _ tw_694) dX7_search_260 ?_
    refine lv_iconst (v := 2) hx hb dX7_search_263 ic_2 ?_
    refine lv_iload hx hb dX7_search_264 (lv_at hl 4 rfl) ?_
    refine lv_iconst (v := 4) hx hb dX7_search_266 ic_4 ?_
    refine lv_irem hx hb dX7_search_267 nz_4 ?_
    obtain ⟨hM7, M7, eM7, hf⟩ := rx_svI hf
    refine rx_iast cx hw (arY_20 ad cI cL) ⟨hM7, eM7⟩ dX7_search_268 (fun H locs hw => ?_)
    refine lv_aload_n hx hb dX7_search_269 rfl (lv_at hl 1 rfl) ?_
    refine rx_getr cx hw (frY_0_33 ad cI cL) rfl (inT_X7) (Nat.le_of_ble_eq_true rfl) (.tail _ tw_694) dX7_search_270 ?_
    refine lv_iconst (v := 3) hx hb dX7_search_273 ic_3 ?_
    refine lv_iload hx hb dX7_search_274 (lv_at hl 6 rfl) ?_
    obtain ⟨hM8, M8, eM8, hf⟩ := rx_svI hf
    refine rx_iast cx hw (arY_20 ad cI cL) ⟨hM8, eM8⟩ dX7_search_276 (fun H locs hw => ?_)
    exact (qk_X7_search_277 cx hret h109) hw (lv_sub hl [1, 2, 3, 0, 4, 5, 6] rfl) hf
set_option maxRecDepth 100000 in
set_option maxHeartbeats 4000000 in
theorem qk_X7_search_169 (cx : rx_C p m c cX7_search 8 s args wX7_search RX7 D vwCl (tY cI cL) [] wN A) (hret : rx_RI p l e rm_X7_search s m args below meth c cX7_search D vwCl (wY ad cI cL) A Q o) {w1 : Int32} {w2 : Int32} {w3 : Int32} {w4 : Int32} {w5 : Int32} {w6 : Int32} {k109 : Int32 → Int32 → Me → Op} (h109 : ∀ {a3 : Int32} {a6 : Int32} {ls : Array Slot} {H : Heap} {locs : List Loc} {M : Me}, rx_W D vwCl (wY ad cI cL) A s.heap M H locs → lv_has ls 8 [(0, .ref ((ad 0))), (1, .int w1), (2, .int w2), (3, .int a3), (4, .int w4), (5, .int w5), (6, .int a6)] → k109 a3 a6 M = some o → W p l e rm_X7_search s m args below meth c H locs 0 0 Q (F0 m 109 ls [])) {ls : Array Slot} {H : Heap} {locs : List Loc} {M : Me} (hw : rx_W D vwCl (wY ad cI cL) A s.heap M H locs) (hl : lv_has ls 8 [(0, .ref ((ad 0))), (1, .int w1), (2, .int w2), (3, .int w3), (4, .int w4), (5, .int w5), (6, .int w6)]) (hf : qb_X7_search_169 k109 w1 w2 w3 w4 w5 w6 M = some o) : W p l e rm_X7_search s m args below meth c H locs 0 0 Q (F0 m 169 ls []) := by
  have hx := cx.1.1
  have hb := cx.1.2.1
  refine lv_aload_n hx hb dX7_search_169 rfl (lv_at hl 0 rfl) ?_
  refine lv_iload hx hb dX7_search_170 (lv_at hl 6 rfl) ?_
  obtain ⟨r1, M2, er1, hf⟩ := rx_clI hf
  refine rx_jVi cx hw (qc_X7_put l D ad cI cL w6) (obY_0 ad cI cL) rfl rfl kfX7_put tw_885 ⟨Nat.le_of_ble_eq_true rfl, Nat.le_of_ble_eq_true rfl, rfl, rfl⟩ rfl hl.1 (Nat.le_of_ble_eq_true rfl) ⟨Nat.zero_le _, Nat.zero_le _⟩ dX7_search_172 rfl er1 (fun H locs hw => ?_)
  refine lv_istore (lv' := [(7, .int r1), (0, .ref ((ad 0))), (1, .int w1), (2, .int w2), (3, .int w3), (4, .int w4), (5, .int w5), (6, .int w6)]) hx hb dX7_search_175 hl (Nat.le_of_ble_eq_true rfl) rfl (fun ls hl => ?_)
  refine lv_aload_n hx hb dX7_search_177 rfl (lv_at hl 1 rfl) ?_
  refine lv_dup hx hb dX7_search_178 rfl ?_
  obtain ⟨v3, ev3, hf⟩ := rx_vvI hf
  refine rx_geti cx hw (fiY_0_30 ad cI cL) rfl (inT_X7) (Nat.le_of_ble_eq_true rfl) (.tail _ tw_691) ev3 dX7_search_179 ?_
  refine lv_iconst (v := 1) hx hb dX7_search_182 ic_1 ?_
  refine lv_iadd hx hb dX7_search_183 ?_
  obtain ⟨M4, eM4, hf⟩ := rx_vvI hf
  refine rx_puti cx hw (fiY_0_30 ad cI cL) rfl (inT_X7) tyX7 tyX7_ok nmX7 (Nat.le_of_ble_eq_true rfl) (.tail _ tw_691) rfl rfl rfl eM4 dX7_search_184 (fun H locs hw => ?_)
  refine lv_aload_n hx hb dX7_search_187 rfl (lv_at hl 1 rfl) ?_
  obtain ⟨v5, ev5, hf⟩ := rx_vvI hf
  refine rx_geti cx hw (fiY_0_20 ad cI cL) rfl (inT_X7) (Nat.le_of_ble_eq_true rfl) (.tail _ tw_681) ev5 dX7_search_188 ?_
  refine lv_if_lt hx hb dX7_search_191 rfl (fun hc => ?_) (fun hc => ?_)
  · have hf := rx_t hc hf
    refine lv_aload_n hx hb dX7_search_202 rfl (lv_at hl 1 rfl) ?_
    obtain ⟨r6, M7, er6, hf⟩ := rx_clI hf
    refine rx_jVv cx hw (qc_X7_count l D ad cI cL) (obY_0 ad cI cL) rfl rfl kfX7_count tw_937 ⟨Nat.le_of_ble_eq_true rfl, Nat.le_of_ble_eq_true rfl, rfl, rfl⟩ rfl hl.1 (Nat.le_of_ble_eq_true rfl) ⟨Nat.zero_le _, Nat.zero_le _⟩ dX7_search_203 rfl er6 (fun H locs hw => ?_)
    exact (qk_X7_search_206 cx hret h109) hw (lv_sub hl [1, 2, 3, 4, 5, 6, 7] rfl) hf
  · have hf := rx_f hc hf
    refine lv_aload_n hx hb dX7_search_194 rfl (lv_at hl 1 rfl) ?_
    refine lv_iload_n hx hb dX7_search_195 rfl (lv_at hl 2 rfl) ?_
    obtain ⟨r8, M9, er8, hf⟩ := rx_clI hf
    refine rx_jVv cx hw (qc_X7_reply l D ad cI cL w1) (obY_0 ad cI cL) rfl rfl kfX7_reply tw_958 ⟨Nat.le_of_ble_eq_true rfl, Nat.le_of_ble_eq_true rfl, rfl, rfl⟩ rfl hl.1 (Nat.le_of_ble_eq_true rfl) ⟨Nat.zero_le _, Nat.zero_le _⟩ dX7_search_196 rfl er8 (fun H locs hw => ?_)
    refine lv_goto hx hb dX7_search_199 rfl ?_
    exact (qk_X7_search_206 cx hret h109) hw (lv_sub hl [1, 2, 3, 4, 5, 6, 7] rfl) hf
set_option maxRecDepth 100000 in
set_option maxHeartbeats 4000000 in
theorem qk_X7_search_109 (cx : rx_C p m c cX7_search 8 s args wX7_search RX7 D vwCl (tY cI cL) [] wN A) (hret : rx_RI p l e rm_X7_search s m args below meth c cX7_search D vwCl (wY ad cI cL) A Q o) {w1 : Int32} {w2 : Int32} {w4 : Int32} {w5 : Int32} {k288 : Int32 → Me → Op} (h288 : ∀ {a3 : Int32} {ls : Array Slot} {H : Heap} {locs : List Loc} {M : Me}, rx_W D vwCl (wY ad cI cL) A s.heap M H locs → lv_has ls 8 [(0, .ref ((ad 0))), (1, .int w1), (2, .int w2), (3, .int a3), (4, .int w4)] → k288 a3 M = some o → W p l e rm_X7_search s m args below meth c H locs 0 0 Q (F0 m 288 ls [])) : ∀ (n : Nat) {w3 : Int32} {w6 : Int32} {ls : Array Slot} {H : Heap} {locs : List Loc} {M : Me}, rx_W D vwCl (wY ad cI cL) A s.heap M H locs → lv_has ls 8 [(0, .ref ((ad 0))), (1, .int w1), (2, .int w2), (3, .int w3), (4, .int w4), (5, .int w5), (6, .int w6)] → rx_lp2 (qo_X7_search_109 k288 w1 w2 w4 w5) n w3 w6 M = some o → W p l e rm_X7_search s m args below meth c H locs 0 0 Q (F0 m 109 ls []) := by
  have hx := cx.1.1
  have hb := cx.1.2.1
  intro n
  induction n with
  | zero => intro w3 w6 ls H locs M hw hl hf; exact rx_no hf
  | succ n ih =>
    intro w3 w6 ls H locs M hw hl hf
    have hf : qo_X7_search_109 k288 w1 w2 w4 w5 (rx_lp2 (qo_X7_search_109 k288 w1 w2 w4 w5) n) w3 w6 M = some o := hf
    refine lv_iload hx hb dX7_search_109 (lv_at hl 6 rfl) ?_
    refine lv_bipush (v := 8) hx hb dX7_search_111 ib_8 ?_
    refine lv_icmp_ge hx hb dX7_search_113 rfl (fun hc => ?_) (fun hc => ?_)
    · have hf := rx_t hc hf
      exact h288 hw (lv_sub hl [0, 1, 2, 3, 4] rfl) hf
    · have hf := rx_f hc hf
      refine lv_iload hx hb dX7_search_116 (lv_at hl 5 rfl) ?_
      refine lv_if_eq hx hb dX7_search_118 rfl (fun hc => ?_) (fun hc => ?_)
      · have hf := rx_t hc hf
        exact h288 hw (lv_sub hl [0, 1, 2, 3, 4] rfl) hf
      · have hf := rx_f hc hf
        refine lv_aload_n hx hb dX7_search_121 rfl (lv_at hl 0 rfl) ?_
        obtain ⟨v1, ev1, hf⟩ := rx_vvI hf
        refine rx_geti cx hw (fiY_0_30 ad cI cL) rfl (inT_X7) (Nat.le_of_ble_eq_true rfl) (.tail _ tw_691) ev1 dX7_search_122 ?_
        refine lv_iload_n hx hb dX7_search_125 rfl (lv_at hl 1 rfl) ?_
        refine lv_icmp_gt hx hb dX7_search_126 rfl (fun hc => ?_) (fun hc => ?_)
        · have hf := rx_t hc hf
          exact h288 hw (lv_sub hl [0, 1, 2, 3, 4] rfl) hf
        · have hf := rx_f hc hf
          refine lv_aload_n hx hb dX7_search_129 rfl (lv_at hl 0 rfl) ?_
          refine lv_iload hx hb dX7_search_130 (lv_at hl 4 rfl) ?_
          refine lv_iconst (v := 4) hx hb dX7_search_132 ic_4 ?_
          refine lv_idiv hx hb dX7_search_133 nz_4 ?_
          refine lv_bipush (v := 19) hx hb dX7_search_134 ib_19 ?_
          refine lv_irem hx hb dX7_search_136 nz_19 ?_
          refine lv_bipush (v := 9) hx hb dX7_search_137 ib_9 ?_
          refine lv_isub hx hb dX7_search_139 ?_
          refine lv_iload hx hb dX7_search_140 (lv_at hl 4 rfl) ?_
          refine lv_bipush (v := 76) hx hb dX7_search_142 ib_76 ?_
          refine lv_idiv hx hb dX7_search_144 nz_76 ?_
          refine lv_bipush (v := 9) hx hb dX7_search_145 ib_9 ?_
          refine lv_isub hx hb dX7_search_147 ?_
          refine lv_iload hx hb dX7_search_148 (lv_at hl 4 rfl) ?_
          refine lv_iconst (v := 4) hx hb dX7_search_150 ic_4 ?_
          refine lv_irem hx hb dX7_search_151 nz_4 ?_
          obtain ⟨r2, M3, er2, hf⟩ := rx_clI hf
          refine rx_jVv cx hw (qc_X7_lay l D ad cI cL (((w4 / 4) - (w4 / 4) / 19 * 19) - 9) ((w4 / 76) - 9) (w4 - w4 / 4 * 4)) (obY_0 ad cI cL) rfl rfl kfX7_lay tw_857 ⟨Nat.le_of_ble_eq_true rfl, Nat.le_of_ble_eq_true rfl, rfl, rfl⟩ rfl hl.1 (Nat.le_of_ble_eq_true rfl) ⟨Nat.zero_le _, Nat.zero_le _⟩ dX7_search_152 rfl er2 (fun H locs hw => ?_)
          refine lv_iload hx hb dX7_search_155 (lv_at hl 6 rfl) ?_
          refine lv_if_lt hx hb dX7_search_157 rfl (fun hc => ?_) (fun hc => ?_)
          · have hf := rx_t hc hf
            exact (qk_X7_search_169 cx hret ih) hw hl hf
          · have hf := rx_f hc hf
            refine lv_aload_n hx hb dX7_search_160 rfl (lv_at hl 0 rfl) ?_
            refine lv_iload hx hb dX7_search_161 (lv_at hl 6 rfl) ?_
            obtain ⟨r4, M5, er4, hf⟩ := rx_clI hf
            refine rx_jVi cx hw (qc_X7_mayFollow l D ad cI cL w6) (obY_0 ad cI cL) rfl rfl kfX7_mayFollow tw_869 ⟨Nat.le_of_ble_eq_true rfl, Nat.le_of_ble_eq_true rfl, rfl, rfl⟩ rfl hl.1 (Nat.le_of_ble_eq_true rfl) ⟨Nat.zero_le _, Nat.zero_le _⟩ dX7_search_163 rfl er4 (fun H locs hw => ?_)
            refine lv_if_eq hx hb dX7_search_166 rfl (fun hc => ?_) (fun hc => ?_)
            · have hf := rx_t hc hf
              exact (qk_X7_search_277 cx hret ih) hw hl hf
            · have hf := rx_f hc hf
              exact (qk_X7_search_169 cx hret ih) hw hl hf
set_option maxRecDepth 100000 in
set_option maxHeartbeats 4000000 in
theorem qk_X7_search_288 (cx : rx_C p m c cX7_search 8 s args wX7_search RX7 D vwCl (tY cI cL) [] wN A) (hret : rx_RI p l e rm_X7_search s m args below meth c cX7_search D vwCl (wY ad cI cL) A Q o) {w1 : Int32} {w2 : Int32} {w3 : Int32} {w4 : Int32} {k58 : Int32 → Int32 → Me → Op} (h58 : ∀ {a3 : Int32} {a4 : Int32} {ls : Array Slot} {H : Heap} {locs : List Loc} {M : Me}, rx_W D vwCl (wY ad cI cL) A s.heap M H locs → lv_has ls 8 [(0, .ref ((ad 0))), (1, .int w1), (2, .int w2), (3, .int a3), (4, .int a4)] → k58 a3 a4 M = some o → W p l e rm_X7_search s m args below meth c H locs 0 0 Q (F0 m 58 ls [])) {ls : Array Slot} {H : Heap} {locs : List Loc} {M : Me} (hw : rx_W D vwCl (wY ad cI cL) A s.heap M H locs) (hl : lv_has ls 8 [(0, .ref ((ad 0))), (1, .int w1), (2, .int w2), (3, .int w3), (4, .int w4)]) (hf : qb_X7_search_288 k58 w1 w2 w3 w4 M = some o) : W p l e rm_X7_search s m args below meth c H locs 0 0 Q (F0 m 288 ls []) := by
  have hx := cx.1.1
  have hb := cx.1.2.1
  obtain ⟨v1, ev1, hf⟩ := rx_vvI hf
  refine lv_iinc (lv' := [(4, .int v1), (0, .ref ((ad 0))), (1, .int w1), (2, .int w2), (3, .int w3)]) hx hb dX7_search_288 hl (k := 4) rfl (rx_inc ic_1 ev1) (Nat.le_of_ble_eq_true rfl) rfl (fun ls hl => ?_)
  refine lv_goto hx hb dX7_search_291 rfl ?_
  exact h58 hw (lv_sub hl [1, 2, 3, 4, 0] rfl) hf
set_option maxRecDepth 100000 in
set_option maxHeartbeats 4000000 in
theorem qk_X7_search_58 (cx : rx_C p m c cX7_search 8 s args wX7_search RX7 D vwCl (tY cI cL) [] wN A) (hret : rx_RI p l e rm_X7_search s m args below meth c cX7_search D vwCl (wY ad cI cL) A Q o) {w1 : Int32} {w2 : Int32} {k294 : Int32 → Me → Op} (h294 : ∀ {a3 : Int32} {ls : Array Slot} {H : Heap} {locs : List Loc} {M : Me}, rx_W D vwCl (wY ad cI cL) A s.heap M H locs → lv_has ls 8 [(0, .ref ((ad 0))), (1, .int w1), (3, .int a3)] → k294 a3 M = some o → W p l e rm_X7_search s m args below meth c H locs 0 0 Q (F0 m 294 ls [])) : ∀ (n : Nat) {w3 : Int32} {w4 : Int32} {ls : Array Slot} {H : Heap} {locs : List Loc} {M : Me}, rx_W D vwCl (wY ad cI cL) A s.heap M H locs → lv_has ls 8 [(0, .ref ((ad 0))), (1, .int w1), (2, .int w2), (3, .int w3), (4, .int w4)] → rx_lp2 (qo_X7_search_58 k294 w1 w2) n w3 w4 M = some o → W p l e rm_X7_search s m args below meth c H locs 0 0 Q (F0 m 58 ls []) := by
  have hx := cx.1.1
  have hb := cx.1.2.1
  intro n
  induction n with
  | zero => intro w3 w4 ls H locs M hw hl hf; exact rx_no hf
  | succ n ih =>
    intro w3 w4 ls H locs M hw hl hf
    have hf : qo_X7_search_58 k294 w1 w2 (rx_lp2 (qo_X7_search_58 k294 w1 w2) n) w3 w4 M = some o := hf
    refine lv_iload hx hb dX7_search_58 (lv_at hl 4 rfl) ?_
    refine lv_sipush (v := 1444) hx hb dX7_search_60 is_1444 ?_
    refine lv_icmp_ge hx hb dX7_search_63 rfl (fun hc => ?_) (fun hc => ?_)
    · have hf := rx_t hc hf
      exact h294 hw (lv_sub hl [0, 1, 3] rfl) hf
    · have hf := rx_f hc hf
      refine lv_aload_n hx hb dX7_search_66 rfl (lv_at hl 0 rfl) ?_
      obtain ⟨v1, ev1, hf⟩ := rx_vvI hf
      refine rx_geti cx hw (fiY_0_30 ad cI cL) rfl (inT_X7) (Nat.le_of_ble_eq_true rfl) (.tail _ tw_691) ev1 dX7_search_67 ?_
      refine lv_iload_n hx hb dX7_search_70 rfl (lv_at hl 1 rfl) ?_
      refine lv_icmp_gt hx hb dX7_search_71 rfl (fun hc => ?_) (fun hc => ?_)
      · have hf := rx_t hc hf
        exact h294 hw (lv_sub hl [0, 1, 3] rfl) hf
      · have hf := rx_f hc hf
        refine lv_aload_n hx hb dX7_search_74 rfl (lv_at hl 0 rfl) ?_
        refine lv_aload_n hx hb dX7_search_75 rfl (lv_at hl 0 rfl) ?_
        obtain ⟨v2, ev2, hf⟩ := rx_vvI hf
        refine rx_geti cx hw (fiY_0_20 ad cI cL) rfl (inT_X7) (Nat.le_of_ble_eq_true rfl) (.tail _ tw_681) ev2 dX7_search_76 ?_
        refine lv_iload hx hb dX7_search_79 (lv_at hl 4 rfl) ?_
        refine lv_iconst (v := 4) hx hb dX7_search_81 ic_4 ?_
        refine lv_idiv hx hb dX7_search_82 nz_4 ?_
        refine lv_bipush (v := 19) hx hb dX7_search_83 ib_19 ?_
        refine lv_irem hx hb dX7_search_85 nz_19 ?_
        refine lv_bipush (v := 9) hx hb dX7_search_86 ib_9 ?_
        refine lv_isub hx hb dX7_search_88 ?_
        refine lv_iload hx hb dX7_search_89 (lv_at hl 4 rfl) ?_
        refine lv_bipush (v := 76) hx hb dX7_search_91 ib_76 ?_
        refine lv_idiv hx hb dX7_search_93 nz_76 ?_
        refine lv_bipush (v := 9) hx hb dX7_search_94 ib_9 ?_
        refine lv_isub hx hb dX7_search_96 ?_
        refine lv_iload hx hb dX7_search_97 (lv_at hl 4 rfl) ?_
        refine lv_iconst (v := 4) hx hb dX7_search_99 ic_4 ?_
        refine lv_irem hx hb dX7_search_100 nz_4 ?_
        obtain ⟨r3, M4, er3, hf⟩ := rx_clI hf
        refine rx_jVi cx hw (qc_X7_fitsAt l D ad cI cL v2 (((w4 / 4) - (w4 / 4) / 19 * 19) - 9) ((w4 / 76) - 9) (w4 - w4 / 4 * 4)) (obY_0 ad cI cL) rfl rfl kfX7_fitsAt tw_807 ⟨Nat.le_of_ble_eq_true rfl, Nat.le_of_ble_eq_true rfl, rfl, rfl⟩ rfl hl.1 (Nat.le_of_ble_eq_true rfl) ⟨Nat.zero_le _, Nat.zero_le _⟩ dX7_search_101 rfl er3 (fun H locs hw => ?_)
        refine lv_istore (lv' := [(5, .int r3), (0, .ref ((ad 0))), (1, .int w1), (2, .int w2), (3, .int w3), (4, .int w4)]) hx hb dX7_search_104 hl (Nat.le_of_ble_eq_true rfl) rfl (fun ls hl => ?_)
        refine lv_iconst (v := (-1)) hx hb dX7_search_106 ic_m1 ?_
        refine lv_istore (lv' := [(6, .int (-1)), (5, .int r3), (0, .ref ((ad 0))), (1, .int w1), (2, .int w2), (3, .int w3), (4, .int w4)]) hx hb dX7_search_107 hl (Nat.le_of_ble_eq_true rfl) rfl (fun ls hl => ?_)
        exact (qk_X7_search_109 cx hret (qk_X7_search_288 cx hret ih) rx_FU) hw (lv_sub hl [2, 3, 4, 5, 6, 1, 0] rfl) hf
set_option maxRecDepth 100000 in
set_option maxHeartbeats 4000000 in
theorem qk_X7_search_308 (cx : rx_C p m c cX7_search 8 s args wX7_search RX7 D vwCl (tY cI cL) [] wN A) (hret : rx_RI p l e rm_X7_search s m args below meth c cX7_search D vwCl (wY ad cI cL) A Q o) {w3 : Int32} {k334 : Me → Op} (h334 : ∀ {ls : Array Slot} {H : Heap} {locs : List Loc} {M : Me}, rx_W D vwCl (wY ad cI cL) A s.heap M H locs → lv_has ls 8 [(0, .ref ((ad 0))), (3, .int w3)] → k334 M = some o → W p l e rm_X7_search s m args below meth c H locs 0 0 Q (F0 m 334 ls [])) : ∀ (n : Nat) {w4 : Int32} {ls : Array Slot} {H : Heap} {locs : List Loc} {M : Me}, rx_W D vwCl (wY ad cI cL) A s.heap M H locs → lv_has ls 8 [(0, .ref ((ad 0))), (3, .int w3), (4, .int w4)] → rx_lp1 (qo_X7_search_308 k334 w3) n w4 M = some o → W p l e rm_X7_search s m args below meth c H locs 0 0 Q (F0 m 308 ls []) := by
  have hx := cx.1.1
  have hb := cx.1.2.1
  intro n
  induction n with
  | zero => intro w4 ls H locs M hw hl hf; exact rx_no hf
  | succ n ih =>
    intro w4 ls H locs M hw hl hf
    have hf : qo_X7_search_308 k334 w3 (rx_lp1 (qo_X7_search_308 k334 w3) n) w4 M = some o := hf
    refine lv_iload hx hb dX7_search_308 (lv_at hl 2 rfl) ?_
    refine lv_iconst (v := 4) hx hb dX7_search_310 ic_4 ?_
    refine lv_icmp_ge hx hb dX7_search_311 rfl (fun hc => ?_) (fun hc => ?_)
    · have hf := rx_t hc hf
      exact h334 hw (lv_sub hl [0, 1] rfl) hf
    · have hf := rx_f hc hf
      refine lv_aload_n hx hb dX7_search_314 rfl (lv_at hl 0 rfl) ?_
      refine rx_getr cx hw (frY_0_32 ad cI cL) rfl (inT_X7) (Nat.le_of_ble_eq_true rfl) (.tail _ tw_693) dX7_search_315 ?_
      refine lv_iload hx hb dX7_search_318 (lv_at hl 2 rfl) ?_
      refine lv_aload_n hx hb dX7_search_320 rfl (lv_at hl 0 rfl) ?_
      refine rx_getr cx hw (frY_0_33 ad cI cL) rfl (inT_X7) (Nat.le_of_ble_eq_true rfl) (.tail _ tw_694) dX7_search_321 ?_
      refine lv_iload hx hb dX7_search_324 (lv_at hl 2 rfl) ?_
      obtain ⟨hv1, v1, ev1, hf⟩ := rx_ldI hf
      refine rx_iald cx hw (arY_20 ad cI cL) ⟨hv1, ev1⟩ dX7_search_326 ?_
      obtain ⟨hM2, M2, eM2, hf⟩ := rx_svI hf
      refine rx_iast cx hw (arY_19 ad cI cL) ⟨hM2, eM2⟩ dX7_search_327 (fun H locs hw => ?_)
      obtain ⟨v3, ev3, hf⟩ := rx_vvI hf
      refine lv_iinc (lv' := [(4, .int v3), (0, .ref ((ad 0))), (3, .int w3)]) hx hb dX7_search_328 hl (k := 2) rfl (rx_inc ic_1 ev3) (Nat.le_of_ble_eq_true rfl) rfl (fun ls hl => ?_)
      refine lv_goto hx hb dX7_search_331 rfl ?_
      exact ih hw (lv_sub hl [1, 2, 0] rfl) hf
set_option maxRecDepth 100000 in
set_option maxHeartbeats 4000000 in
theorem qk_X7_search_334 (cx : rx_C p m c cX7_search 8 s args wX7_search RX7 D vwCl (tY cI cL) [] wN A) (hret : rx_RI p l e rm_X7_search s m args below meth c cX7_search D vwCl (wY ad cI cL) A Q o) {w3 : Int32} {ls : Array Slot} {H : Heap} {locs : List Loc} {M : Me} (hw : rx_W D vwCl (wY ad cI cL) A s.heap M H locs) (hl : lv_has ls 8 [(0, .ref ((ad 0))), (3, .int w3)]) (hf : qb_X7_search_334 w3 M = some o) : W p l e rm_X7_search s m args below meth c H locs 0 0 Q (F0 m 334 ls []) := by
  have hx := cx.1.1
  have hb := cx.1.2.1
  refine lv_aload_n hx hb dX7_search_334 rfl (lv_at hl 0 rfl) ?_
  refine lv_iconst (v := 1) hx hb dX7_search_335 ic_1 ?_
  obtain ⟨M1, eM1, hf⟩ := rx_vvI hf
  refine rx_puti cx hw (fiY_0_31 ad cI cL) rfl (inT_X7) tyX7 tyX7_ok nmX7 (Nat.le_of_ble_eq_true rfl) (.tail _ tw_692) rfl rfl rfl eM1 dX7_search_336 (fun H locs hw => ?_)
  refine lv_sipush (v := 1000) hx hb dX7_search_339 is_1000 ?_
  refine lv_iload_n hx hb dX7_search_342 rfl (lv_at hl 1 rfl) ?_
  refine lv_iadd hx hb dX7_search_343 ?_
  exact rx_reti hret hw hf dX7_search_344
set_option maxRecDepth 100000 in
set_option maxHeartbeats 4000000 in
theorem qk_X7_search_294 (cx : rx_C p m c cX7_search 8 s args wX7_search RX7 D vwCl (tY cI cL) [] wN A) (hret : rx_RI p l e rm_X7_search s m args below meth c cX7_search D vwCl (wY ad cI cL) A Q o) {w1 : Int32} {w3 : Int32} {ls : Array Slot} {H : Heap} {locs : List Loc} {M : Me} (hw : rx_W D vwCl (wY ad cI cL) A s.heap M H locs) (hl : lv_has ls 8 [(0, .ref ((ad 0))), (1, .int w1), (3, .int w3)]) (hf : qb_X7_search_294 w1 w3 M = some o) : W p l e rm_X7_search s m args below meth c H locs 0 0 Q (F0 m 294 ls []) := by
  have hx := cx.1.1
  have hb := cx.1.2.1
  refine lv_aload_n hx hb dX7_search_294 rfl (lv_at hl 0 rfl) ?_
  obtain ⟨v1, ev1, hf⟩ := rx_vvI hf
  refine rx_geti cx hw (fiY_0_30 ad cI cL) rfl (inT_X7) (Nat.le_of_ble_eq_true rfl) (.tail _ tw_691) ev1 dX7_search_295 ?_
  refine lv_iload_n hx hb dX7_search_298 rfl (lv_at hl 1 rfl) ?_
  refine lv_icmp_le hx hb dX7_search_299 rfl (fun hc => ?_) (fun hc => ?_)
  · have hf := rx_t hc hf
    refine lv_iconst (v := 0) hx hb dX7_search_305 ic_0 ?_
    refine lv_istore (lv' := [(4, .int 0), (0, .ref ((ad 0))), (1, .int w1), (3, .int w3)]) hx hb dX7_search_306 hl (Nat.le_of_ble_eq_true rfl) rfl (fun ls hl => ?_)
    exact (qk_X7_search_308 cx hret (qk_X7_search_334 cx hret) rx_FU) hw (lv_sub hl [1, 3, 0] rfl) hf
  · have hf := rx_f hc hf
    refine lv_bipush (v := (-4)) hx hb dX7_search_302 ib_m4 ?_
    exact rx_reti hret hw hf dX7_search_304
set_option maxRecDepth 100000 in
set_option maxHeartbeats 4000000 in
theorem qk_X7_search_0 (cx : rx_C p m c cX7_search 8 s args wX7_search RX7 D vwCl (tY cI cL) [] wN A) (hret : rx_RI p l e rm_X7_search s m args below meth c cX7_search D vwCl (wY ad cI cL) A Q o) {w1 : Int32} {ls : Array Slot} {H : Heap} {locs : List Loc} {M : Me} (hw : rx_W D vwCl (wY ad cI cL) A s.heap M H locs) (hl : lv_has ls 8 [(0, .ref ((ad 0))), (1, .int w1)]) (hf : qf_X7_search w1 M = some o) : W p l e rm_X7_search s m args below meth c H locs 0 0 Q (F0 m 0 ls []) := by
  have hx := cx.1.1
  have hb := cx.1.2.1
  refine lv_aload_n hx hb dX7_search_0 rfl (lv_at hl 0 rfl) ?_
  obtain ⟨r1, M2, er1, hf⟩ := rx_clI hf
  refine rx_jVi cx hw (qc_X7_isToLay l D ad cI cL) (obY_0 ad cI cL) rfl rfl kfX7_isToLay tw_849 ⟨Nat.le_of_ble_eq_true rfl, Nat.le_of_ble_eq_true rfl, rfl, rfl⟩ rfl hl.1 (Nat.le_of_ble_eq_true rfl) ⟨Nat.zero_le _, Nat.zero_le _⟩ dX7_search_1 rfl er1 (fun H locs hw => ?_)
  refine lv_if_eq hx hb dX7_search_4 rfl (fun hc => ?_) (fun hc => ?_)
  · have hf := rx_t hc hf
    refine lv_iconst (v := (-1)) hx hb dX7_search_20 ic_m1 ?_
    exact rx_reti hret hw hf dX7_search_21
  · have hf := rx_f hc hf
    refine lv_aload_n hx hb dX7_search_7 rfl (lv_at hl 0 rfl) ?_
    obtain ⟨v3, ev3, hf⟩ := rx_vvI hf
    refine rx_geti cx hw (fiY_0_5 ad cI cL) rfl (inT_X7) (Nat.le_of_ble_eq_true rfl) (.tail _ tw_666) ev3 dX7_search_8 ?_
    refine lv_aload_n hx hb dX7_search_11 rfl (lv_at hl 0 rfl) ?_
    obtain ⟨v4, ev4, hf⟩ := rx_vvI hf
    refine rx_geti cx hw (fiY_0_19 ad cI cL) rfl (inT_X7) (Nat.le_of_ble_eq_true rfl) (.tail _ tw_680) ev4 dX7_search_12 ?_
    refine lv_isub hx hb dX7_search_15 ?_
    refine lv_iconst (v := 1) hx hb dX7_search_16 ic_1 ?_
    refine lv_icmp_le hx hb dX7_search_17 rfl (fun hc => ?_) (fun hc => ?_)
    · have hf := rx_t hc hf
      refine lv_iload_n hx hb dX7_search_22 rfl (lv_at hl 1 rfl) ?_
      refine lv_iconst (v := 1) hx hb dX7_search_23 ic_1 ?_
      refine lv_icmp_lt hx hb dX7_search_24 rfl (fun hc => ?_) (fun hc => ?_)
      · have hf := rx_t hc hf
        refine lv_bipush (v := (-2)) hx hb dX7_search_34 ib_m2 ?_
        exact rx_reti hret hw hf dX7_search_36
      · have hf := rx_f hc hf
        refine lv_iload_n hx hb dX7_search_27 rfl (lv_at hl 1 rfl) ?_
        refine lv_sipush (v := 1500) hx hb dX7_search_28 is_1500 ?_
        refine lv_icmp_le hx hb dX7_search_31 rfl (fun hc => ?_) (fun hc => ?_)
        · have hf := rx_t hc hf
          refine lv_aload_n hx hb dX7_search_37 rfl (lv_at hl 0 rfl) ?_
          obtain ⟨v5, ev5, hf⟩ := rx_vvI hf
          refine rx_geti cx hw (fiY_0_18 ad cI cL) rfl (inT_X7) (Nat.le_of_ble_eq_true rfl) (.tail _ tw_679) ev5 dX7_search_38 ?_
          refine lv_istore_n (lv' := [(2, .int v5), (0, .ref ((ad 0))), (1, .int w1)]) hx hb dX7_search_41 rfl hl (Nat.le_of_ble_eq_true rfl) rfl (fun ls hl => ?_)
          refine lv_ldc (v := (-100000)) hx hb cx.1.2.2.2.1 (cx.1.2.2.2.2 _ (.tail _ tw_953)) dX7_search_42 ?_
          refine lv_istore_n (lv' := [(3, .int (-100000)), (2, .int v5), (0, .ref ((ad 0))), (1, .int w1)]) hx hb dX7_search_44 rfl hl (Nat.le_of_ble_eq_true rfl) rfl (fun ls hl => ?_)
          refine lv_aload_n hx hb dX7_search_45 rfl (lv_at hl 2 rfl) ?_
          refine lv_iconst (v := 0) hx hb dX7_search_46 ic_0 ?_
          obtain ⟨M6, eM6, hf⟩ := rx_vvI hf
          refine rx_puti cx hw (fiY_0_30 ad cI cL) rfl (inT_X7) tyX7 tyX7_ok nmX7 (Nat.le_of_ble_eq_true rfl) (.tail _ tw_691) rfl rfl rfl eM6 dX7_search_47 (fun H locs hw => ?_)
          refine lv_aload_n hx hb dX7_search_50 rfl (lv_at hl 2 rfl) ?_
          refine lv_iconst (v := 0) hx hb dX7_search_51 ic_0 ?_
          obtain ⟨r7, M8, er7, hf⟩ := rx_clI hf
          refine rx_jVv cx hw (qc_X7_copy l D ad cI cL 0) (obY_0 ad cI cL) rfl rfl kfX7_copy tw_954 ⟨Nat.le_of_ble_eq_true rfl, Nat.le_of_ble_eq_true rfl, rfl, rfl⟩ rfl hl.1 (Nat.le_of_ble_eq_true rfl) ⟨Nat.zero_le _, Nat.zero_le _⟩ dX7_search_52 rfl er7 (fun H locs hw => ?_)
          refine lv_iconst (v := 0) hx hb dX7_search_55 ic_0 ?_
          refine lv_istore (lv' := [(4, .int 0), (3, .int (-100000)), (2, .int v5), (0, .ref ((ad 0))), (1, .int w1)]) hx hb dX7_search_56 hl (Nat.le_of_ble_eq_true rfl) rfl (fun ls hl => ?_)
          exact (qk_X7_search_58 cx hret (qk_X7_search_294 cx hret) rx_FU) hw (lv_sub hl [3, 4, 2, 1, 0] rfl) hf
        · have hf := rx_f hc hf
          refine lv_bipush (v := (-2)) hx hb dX7_search_34 ib_m2 ?_
          exact rx_reti hret hw hf dX7_search_36
    · have hf := rx_f hc hf
      refine lv_iconst (v := (-1)) hx hb dX7_search_20 ic_m1 ?_
      exact rx_reti hret hw hf dX7_search_21
end
set_option maxRecDepth 100000 in
theorem qc_X7_search (l : Launch) (D : va_G) (ad : Nat → Nat) (cI cL : ClassId) (w1 : Int32) : rx_MI l yX7_search wX7_search rm_X7_search D vwCl (wY ad cI cL) (tY cI cL) [] wN [.ref (ad 0), .int w1] (fun M => qf_X7_search w1 M) :=
  rx_ofI (by decide) rfl wN_ok (Nat.le_of_ble_eq_true rfl) (fun _ _ _ _ _ _ _ _ _ _ _ _ _ cx hret hw hl hf => qk_X7_search_0 cx hret hw hl hf)
def rm_X7_best : Room := { frames := 0, cells := 0, slots := 0, locals := 0 }
noncomputable def qf_X7_best  (w1 : Int32)  (M : Me) : Op :=
  rx_vv (M 0 31) fun v1 => if v1 = 0 then (some ((-100), M)) else (if w1 < 0 then (some ((-100), M)) else (if 3 < w1 then (some ((-100), M)) else (rx_ld M 19 4 w1 fun v2 => some (v2, M))))
section
variable {p : Program} {l : Launch} {e : Env} {s : State} {m : MethodId} {args : Array Value} {below : List Frame} {meth : Method} {c : Code} {Q : State → Prop} {D : va_G} {A : Nat → Prop} {o : Int32 × Me} {ad : Nat → Nat} {cI cL : ClassId} {b1 b2 : Nat}
set_option maxRecDepth 100000 in
set_option maxHeartbeats 4000000 in
theorem qk_X7_best_0 (cx : rx_C p m c cX7_best 2 s args wX7_best RX7 D vwCl (tY cI cL) [] wN A) (hret : rx_RI p l e rm_X7_best s m args below meth c cX7_best D vwCl (wY ad cI cL) A Q o) {w1 : Int32} {ls : Array Slot} {H : Heap} {locs : List Loc} {M : Me} (hw : rx_W D vwCl (wY ad cI cL) A s.heap M H locs) (hl : lv_has ls 2 [(0, .ref ((ad 0))), (1, .int w1)]) (hf : qf_X7_best w1 M = some o) : W p l e rm_X7_best s m args below meth c H locs 0 0 Q (F0 m 0 ls []) := by
  have hx := cx.1.1
  have hb := cx.1.2.1
  refine lv_aload_n hx hb dX7_best_0 rfl (lv_at hl 0 rfl) ?_
  obtain ⟨v1, ev1, hf⟩ := rx_vvI hf
  refine rx_geti cx hw (fiY_0_31 ad cI cL) rfl (inT_X7) (Nat.le_of_ble_eq_true rfl) (.tail _ tw_692) ev1 dX7_best_1 ?_
  refine lv_if_eq hx hb dX7_best_4 rfl (fun hc => ?_) (fun hc => ?_)
  · have hf := rx_t hc hf
    refine lv_bipush (v := (-100)) hx hb dX7_best_25 ib_m100 ?_
    exact rx_reti hret hw hf dX7_best_27
  · have hf := rx_f hc hf
    refine lv_iload_n hx hb dX7_best_7 rfl (lv_at hl 1 rfl) ?_
    refine lv_if_lt hx hb dX7_best_8 rfl (fun hc => ?_) (fun hc => ?_)
    · have hf := rx_t hc hf
      refine lv_bipush (v := (-100)) hx hb dX7_best_25 ib_m100 ?_
      exact rx_reti hret hw hf dX7_best_27
    · have hf := rx_f hc hf
      refine lv_iload_n hx hb dX7_best_11 rfl (lv_at hl 1 rfl) ?_
      refine lv_iconst (v := 3) hx hb dX7_best_12 ic_3 ?_
      refine lv_icmp_gt hx hb dX7_best_13 rfl (fun hc => ?_) (fun hc => ?_)
      · have hf := rx_t hc hf
        refine lv_bipush (v := (-100)) hx hb dX7_best_25 ib_m100 ?_
        exact rx_reti hret hw hf dX7_best_27
      · have hf := rx_f hc hf
        refine lv_aload_n hx hb dX7_best_16 rfl (lv_at hl 0 rfl) ?_
        refine rx_getr cx hw (frY_0_32 ad cI cL) rfl (inT_X7) (Nat.le_of_ble_eq_true rfl) (.tail _ tw_693) dX7_best_17 ?_
        refine lv_iload_n hx hb dX7_best_20 rfl (lv_at hl 1 rfl) ?_
        obtain ⟨hv2, v2, ev2, hf⟩ := rx_ldI hf
        refine rx_iald cx hw (arY_19 ad cI cL) ⟨hv2, ev2⟩ dX7_best_21 ?_
        refine lv_goto hx hb dX7_best_22 rfl ?_
        exact rx_reti hret hw hf dX7_best_27
end
set_option maxRecDepth 100000 in
theorem qc_X7_best (l : Launch) (D : va_G) (ad : Nat → Nat) (cI cL : ClassId) (w1 : Int32) : rx_MI l yX7_best wX7_best rm_X7_best D vwCl (wY ad cI cL) (tY cI cL) [] wN [.ref (ad 0), .int w1] (fun M => qf_X7_best w1 M) :=
  rx_ofI (by decide) rfl wN_ok (Nat.le_of_ble_eq_true rfl) (fun _ _ _ _ _ _ _ _ _ _ _ _ _ cx hret hw hl hf => qk_X7_best_0 cx hret hw hl hf)

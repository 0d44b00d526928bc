def rm_X7_giveLabels : Room := { frames := 3, cells := 0, slots := 0, locals := 67 }
noncomputable def qo_X7_giveLabels_10 (k30 : Me → Op)  (rec : Int32 → Me → Op) (w1 : Int32) (M : Me) : Op :=
  if 192 ≤ w1 then (k30 M) else (rx_sv M 15 192 w1 w1 fun M1 => rx_vv (w1 + 1) fun v2 => rec v2 M1)
noncomputable def qb_X7_giveLabels_203 (k134 : Int32 → Me → Op) (w1 : Int32) (w2 : Int32) (w4 : Int32) (w5 : Int32) (w6 : Int32) (s0 : Int32) (s1 : Int32) (M : Me) : Op :=
  rx_sv M 15 192 s1 s0 fun M1 => rx_vv (w6 + 1) fun v2 => k134 v2 M1
noncomputable def qb_X7_giveLabels_179 (k134 : Int32 → Me → Op) (w1 : Int32) (w2 : Int32) (w4 : Int32) (w5 : Int32) (w6 : Int32) (s0 : Int32) (M : Me) : Op :=
  if w5 ≤ w4 then (qb_X7_giveLabels_203 k134 w1 w2 w4 w5 w6 w5 s0 M) else (qb_X7_giveLabels_203 k134 w1 w2 w4 w5 w6 w4 s0 M)
noncomputable def qo_X7_giveLabels_134 (k210 : Me → Op) (w1 : Int32) (w2 : Int32) (w4 : Int32) (w5 : Int32) (rec : Int32 → Me → Op) (w6 : Int32) (M : Me) : Op :=
  if 192 ≤ w6 then (k210 M) else (if w4 = w5 then (k210 M) else (rx_ld M 15 192 w6 fun v1 => if v1 = w4 then (qb_X7_giveLabels_179 rec w1 w2 w4 w5 w6 w6 M) else (rx_ld M 15 192 w6 fun v2 => if v2 = w5 then (qb_X7_giveLabels_179 rec w1 w2 w4 w5 w6 w6 M) else (rx_ld M 15 192 w6 fun v3 => qb_X7_giveLabels_203 rec w1 w2 w4 w5 w6 v3 w6 M))))
noncomputable def qb_X7_giveLabels_210 (k42 : Int32 → Me → Op) (w1 : Int32) (w2 : Int32)  (M : Me) : Op :=
  rx_vv (w2 + 1) fun v1 => k42 v1 M
noncomputable def qo_X7_giveLabels_42 (k216 : Me → Op) (w1 : Int32) (rec : Int32 → Me → Op) (w2 : Int32) (M : Me) : Op :=
  if 12 ≤ w2 then (k216 M) else (rx_ld M 6 24 w1 fun v1 => rx_ld M 7 24 w1 fun v2 => rx_cl (qf_X7_beside v1 v2 w2 M) fun r3 M4 => if r3 < 0 then (qb_X7_giveLabels_210 rec w1 w2 M4) else (rx_ld M4 8 24 w1 fun v5 => rx_ld M4 9 24 w1 fun v6 => rx_cl (qf_X7_partAt v5 v6 w2 M4) fun r7 M8 => rx_ld M8 15 192 ((8 * w1) + r7) fun v9 => rx_ld M8 8 24 r3 fun v10 => rx_ld M8 9 24 r3 fun v11 => rx_cl (qf_X7_opposite w2 M8) fun r12 M13 => rx_cl (qf_X7_partAt v10 v11 r12 M13) fun r14 M15 => rx_ld M15 15 192 ((8 * r3) + r14) fun v16 => rx_lp1 (qo_X7_giveLabels_134 (fun M => qb_X7_giveLabels_210 rec w1 w2 M) w1 w2 v9 v16) rx_FU 0 M15))
noncomputable def qb_X7_giveLabels_216 (k32 : Int32 → Me → Op) (w1 : Int32)  (M : Me) : Op :=
  rx_vv (w1 + 1) fun v1 => k32 v1 M
noncomputable def qo_X7_giveLabels_32 (k222 : Me → Op)  (rec : Int32 → Me → Op) (w1 : Int32) (M : Me) : Op :=
  rx_vv (M 0 9) fun v1 => if v1 ≤ w1 then (k222 M) else (rx_lp1 (qo_X7_giveLabels_42 (fun M => qb_X7_giveLabels_216 rec w1 M) w1) rx_FU 0 M)
noncomputable def qb_X7_giveLabels_222    (M : Me) : Op :=
  rx_vv (rx_st M 0 26 1) fun M1 => some (0, M1)
noncomputable def qb_X7_giveLabels_30    (M : Me) : Op :=
  rx_lp1 (qo_X7_giveLabels_32 (fun M => qb_X7_giveLabels_222 M)) rx_FU 0 M
noncomputable def qf_X7_giveLabels    (M : Me) : Op :=
  rx_vv (M 0 26) fun v1 => if v1 = 0 then (rx_lp1 (qo_X7_giveLabels_10 (fun M => qb_X7_giveLabels_30 M)) rx_FU 0 M) else (some (0, M))
section
variable {p : Program} {l : Launch} {e : Env} {s : State} {m : MethodId} {args : Array Value} {below : List Frame} {meth : Method} {c : Code} {Q : State → Prop} {D : va_G} {A : Nat → Prop} {o : Int32 × Me} {ad : Nat → Nat} {cI cL : ClassId} {b1 b2 : Nat}
set_option maxRecDepth 100000 in
set_option maxHeartbeats 4000000 in
theorem qk_X7_giveLabels_10 (cx : rx_C p m c cX7_giveLabels 7 s args wX7_giveLabels RX7 D vwCl (tY cI cL) [] wN A) (hret : rx_RV p l e rm_X7_giveLabels s m args below meth c cX7_giveLabels D vwCl (wY ad cI cL) A Q o) {k30 : Me → Op} (h30 : ∀ {ls : Array Slot} {H : Heap} {locs : List Loc} {M : Me}, rx_W D vwCl (wY ad cI cL) A s.heap M H locs → lv_has ls 7 [(0, .ref ((ad 0)))] → k30 M = some o → W p l e rm_X7_giveLabels s m args below meth c H locs 0 0 Q (F0 m 30 ls [])) : ∀ (n : Nat) {w1 : Int32} {ls : Array Slot} {H : Heap} {locs : List Loc} {M : Me}, rx_W D vwCl (wY ad cI cL) A s.heap M H locs → lv_has ls 7 [(0, .ref ((ad 0))), (1, .int w1)] → rx_lp1 (qo_X7_giveLabels_10 k30) n w1 M = some o → W p l e rm_X7_giveLabels s m args below meth c H locs 0 0 Q (F0 m 10 ls []) := by
  have hx := cx.1.1
  have hb := cx.1.2.1
  intro n
  induction n with
  | zero => intro w1 ls H locs M hw hl hf; exact rx_no hf
  | succ n ih =>
    intro w1 ls H locs M hw hl hf
    have hf : qo_X7_giveLabels_10 k30 (rx_lp1 (qo_X7_giveLabels_10 k30) n) w1 M = some o := hf
    refine lv_iload_n hx hb dX7_giveLabels_10 rfl (lv_at hl 1 rfl) ?_
    refine lv_sipush (v := 192) hx hb dX7_giveLabels_11 is_192 ?_
    refine lv_icmp_ge hx hb dX7_giveLabels_14 rfl (fun hc => ?_) (fun hc => ?_)
    · have hf := rx_t hc hf
      exact h30 hw (lv_sub hl [0] rfl) hf
    · have hf := rx_f hc hf
      refine lv_aload_n hx hb dX7_giveLabels_17 rfl (lv_at hl 0 rfl) ?_
      refine rx_getr cx hw (frY_0_25 ad cI cL) rfl (inT_X7) (Nat.le_of_ble_eq_true rfl) (.tail _ tw_686) dX7_giveLabels_18 ?_
      refine lv_iload_n hx hb dX7_giveLabels_21 rfl (lv_at hl 1 rfl) ?_
      refine lv_iload_n hx hb dX7_giveLabels_22 rfl (lv_at hl 1 rfl) ?_
      obtain ⟨hM1, M1, eM1, hf⟩ := rx_svI hf
      refine rx_iast cx hw (arY_15 ad cI cL) ⟨hM1, eM1⟩ dX7_giveLabels_23 (fun H locs hw => ?_)
      obtain ⟨v2, ev2, hf⟩ := rx_vvI hf
      refine lv_iinc (lv' := [(1, .int v2), (0, .ref ((ad 0)))]) hx hb dX7_giveLabels_24 hl (k := 1) rfl (rx_inc ic_1 ev2) (Nat.le_of_ble_eq_true rfl) rfl (fun ls hl => ?_)
      refine lv_goto hx hb dX7_giveLabels_27 rfl ?_
      exact ih hw (lv_sub hl [1, 0] rfl) hf
set_option maxRecDepth 100000 in
set_option maxHeartbeats 4000000 in
theorem qk_X7_giveLabels_203 (cx : rx_C p m c cX7_giveLabels 7 s args wX7_giveLabels RX7 D vwCl (tY cI cL) [] wN A) (hret : rx_RV p l e rm_X7_giveLabels s m args below meth c cX7_giveLabels D vwCl (wY ad cI cL) A Q o) {w1 : Int32} {w2 : Int32} {w4 : Int32} {w5 : Int32} {w6 : Int32} {s0 : Int32} {s1 : Int32} {k134 : Int32 → Me → Op} (h134 : ∀ {a6 : Int32} {ls : Array Slot} {H : Heap} {locs : List Loc} {M : Me}, rx_W D vwCl (wY ad cI cL) A s.heap M H locs → lv_has ls 7 [(0, .ref ((ad 0))), (1, .int w1), (2, .int w2), (4, .int w4), (5, .int w5), (6, .int a6)] → k134 a6 M = some o → W p l e rm_X7_giveLabels s m args below meth c H locs 0 0 Q (F0 m 134 ls [])) {ls : Array Slot} {H : Heap} {locs : List Loc} {M : Me} (hw : rx_W D vwCl (wY ad cI cL) A s.heap M H locs) (hl : lv_has ls 7 [(0, .ref ((ad 0))), (1, .int w1), (2, .int w2), (4, .int w4), (5, .int w5), (6, .int w6)]) (hf : qb_X7_giveLabels_203 k134 w1 w2 w4 w5 w6 s0 s1 M = some o) : W p l e rm_X7_giveLabels s m args below meth c H locs 0 0 Q (F0 m 203 ls [.int s0, .int s1, .ref ((ad 15))]) := by
  have hx := cx.1.1
  have hb := cx.1.2.1
  obtain ⟨hM1, M1, eM1, hf⟩ := rx_svI hf
  refine rx_iast cx hw (arY_15 ad cI cL) ⟨hM1, eM1⟩ dX7_giveLabels_203 (fun H locs hw => ?_)
  obtain ⟨v2, ev2, hf⟩ := rx_vvI hf
  refine lv_iinc (lv' := [(6, .int v2), (0, .ref ((ad 0))), (1, .int w1), (2, .int w2), (4, .int w4), (5, .int w5)]) hx hb dX7_giveLabels_204 hl (k := 5) rfl (rx_inc ic_1 ev2) (Nat.le_of_ble_eq_true rfl) rfl (fun ls hl => ?_)
  refine lv_goto hx hb dX7_giveLabels_207 rfl ?_
  exact h134 hw (lv_sub hl [1, 2, 3, 4, 5, 0] rfl) hf
set_option maxRecDepth 100000 in
set_option maxHeartbeats 4000000 in
theorem qk_X7_giveLabels_179 (cx : rx_C p m c cX7_giveLabels 7 s args wX7_giveLabels RX7 D vwCl (tY cI cL) [] wN A) (hret : rx_RV p l e rm_X7_giveLabels s m args below meth c cX7_giveLabels D vwCl (wY ad cI cL) A Q o) {w1 : Int32} {w2 : Int32} {w4 : Int32} {w5 : Int32} {w6 : Int32} {s0 : Int32} {k134 : Int32 → Me → Op} (h134 : ∀ {a6 : Int32} {ls : Array Slot} {H : Heap} {locs : List Loc} {M : Me}, rx_W D vwCl (wY ad cI cL) A s.heap M H locs → lv_has ls 7 [(0, .ref ((ad 0))), (1, .int w1), (2, .int w2), (4, .int w4), (5, .int w5), (6, .int a6)] → k134 a6 M = some o → W p l e rm_X7_giveLabels s m args below meth c H locs 0 0 Q (F0 m 134 ls [])) {ls : Array Slot} {H : Heap} {locs : List Loc} {M : Me} (hw : rx_W D vwCl (wY ad cI cL) A s.heap M H locs) (hl : lv_has ls 7 [(0, .ref ((ad 0))), (1, .int w1), (2, .int w2), (4, .int w4), (5, .int w5), (6, .int w6)]) (hf : qb_X7_giveLabels_179 k134 w1 w2 w4 w5 w6 s0 M = some o) : W p l e rm_X7_giveLabels s m args below meth c H locs 0 0 Q (F0 m 179 ls [.int s0, .ref ((ad 15))]) := by
  have hx := cx.1.1
  have hb := cx.1.2.1
  refine lv_iload hx hb dX7_giveLabels_179 (lv_at hl 3 rfl) ?_
  refine lv_iload hx hb dX7_giveLabels_181 (lv_at hl 4 rfl) ?_
  refine lv_icmp_ge hx hb dX7_giveLabels_183 rfl (fun hc => ?_) (fun hc => ?_)
  · have hf := rx_t hc hf
    refine lv_iload hx hb dX7_giveLabels_191 (lv_at hl 4 rfl) ?_
    refine lv_goto hx hb dX7_giveLabels_193 rfl ?_
    exact (qk_X7_giveLabels_203 cx hret h134) hw hl hf
  · have hf := rx_f hc hf
    refine lv_iload hx hb dX7_giveLabels_186 (lv_at hl 3 rfl) ?_
    refine lv_goto hx hb dX7_giveLabels_188 rfl ?_
    exact (qk_X7_giveLabels_203 cx hret h134) hw hl hf
set_option maxRecDepth 100000 in
set_option maxHeartbeats 4000000 in
theorem qk_X7_giveLabels_134 (cx : rx_C p m c cX7_giveLabels 7 s args wX7_giveLabels RX7 D vwCl (tY cI cL) [] wN A) (hret : rx_RV p l e rm_X7_giveLabels s m args below meth c cX7_giveLabels D vwCl (wY ad cI cL) A Q o) {w1 : Int32} {w2 : Int32} {w4 : Int32} {w5 : Int32} {k210 : Me → Op} (h210 : ∀ {ls : Array Slot} {H : Heap} {locs : List Loc} {M : Me}, rx_W D vwCl (wY ad cI cL) A s.heap M H locs → lv_has ls 7 [(0, .ref ((ad 0))), (1, .int w1), (2, .int w2)] → k210 M = some o → W p l e rm_X7_giveLabels s m args below meth c H locs 0 0 Q (F0 m 210 ls [])) : ∀ (n : Nat) {w6 : Int32} {ls : Array Slot} {H : Heap} {locs : List Loc} {M : Me}, rx_W D vwCl (wY ad cI cL) A s.heap M H locs → lv_has ls 7 [(0, .ref ((ad 0))), (1, .int w1), (2, .int w2), (4, .int w4), (5, .int w5), (6, .int w6)] → rx_lp1 (qo_X7_giveLabels_134 k210 w1 w2 w4 w5) n w6 M = some o → W p l e rm_X7_giveLabels s m args below meth c H locs 0 0 Q (F0 m 134 ls []) := by
  have hx := cx.1.1
  have hb := cx.1.2.1
  intro n
  induction n with
  | zero => intro w6 ls H locs M hw hl hf; exact rx_no hf
  | succ n ih =>
    intro w6 ls H locs M hw hl hf
    have hf : qo_X7_giveLabels_134 k210 w1 w2 w4 w5 (rx_lp1 (qo_X7_giveLabels_134 k210 w1 w2 w4 w5) n) w6 M = some o := hf
    refine lv_iload hx hb dX7_giveLabels_134 (lv_at hl 5 rfl) ?_
    refine lv_sipush (v := 192) hx hb dX7_giveLabels_136 is_192 ?_
    refine lv_icmp_ge hx hb dX7_giveLabels_139 rfl (fun hc => ?_) (fun hc => ?_)
    · have hf := rx_t hc hf
      exact h210 hw (lv_sub hl [0, 1, 2] rfl) hf
    · have hf := rx_f hc hf
      refine lv_iload hx hb dX7_giveLabels_142 (lv_at hl 3 rfl) ?_
      refine lv_iload hx hb dX7_giveLabels_144 (lv_at hl 4 rfl) ?_
      refine lv_icmp_eq hx hb dX7_giveLabels_146 rfl (fun hc => ?_) (fun hc => ?_)
      · have hf := rx_t hc hf
        exact h210 hw (lv_sub hl [0, 1, 2] rfl) hf
      · have hf := rx_f hc hf
        refine lv_aload_n hx hb dX7_giveLabels_149 rfl (lv_at hl 0 rfl) ?_
        refine rx_getr cx hw (frY_0_25 ad cI cL) rfl (inT_X7) (Nat.le_of_ble_eq_true rfl) (.tail _ tw_686) dX7_giveLabels_150 ?_
        refine lv_iload hx hb dX7_giveLabels_153 (lv_at hl 5 rfl) ?_
        refine lv_aload_n hx hb dX7_giveLabels_155 rfl (lv_at hl 0 rfl) ?_
        refine rx_getr cx hw (frY_0_25 ad cI cL) rfl (inT_X7) (Nat.le_of_ble_eq_true rfl) (.tail _ tw_686) dX7_giveLabels_156 ?_
        refine lv_iload hx hb dX7_giveLabels_159 (lv_at hl 5 rfl) ?_
        obtain ⟨hv1, v1, ev1, hf⟩ := rx_ldI hf
        refine rx_iald cx hw (arY_15 ad cI cL) ⟨hv1, ev1⟩ dX7_giveLabels_161 ?_
        refine lv_iload hx hb dX7_giveLabels_162 (lv_at hl 3 rfl) ?_
        refine lv_icmp_eq hx hb dX7_giveLabels_164 rfl (fun hc => ?_) (fun hc => ?_)
        · have hf := rx_t hc hf
          exact (qk_X7_giveLabels_179 cx hret ih) hw hl hf
        · have hf := rx_f hc hf
          refine lv_aload_n hx hb dX7_giveLabels_167 rfl (lv_at hl 0 rfl) ?_
          refine rx_getr cx hw (frY_0_25 ad cI cL) rfl (inT_X7) (Nat.le_of_ble_eq_true rfl) (.tail _ tw_686) dX7_giveLabels_168 ?_
          refine lv_iload hx hb dX7_giveLabels_171 (lv_at hl 5 rfl) ?_
          obtain ⟨hv2, v2, ev2, hf⟩ := rx_ldI hf
          refine rx_iald cx hw (arY_15 ad cI cL) ⟨hv2, ev2⟩ dX7_giveLabels_173 ?_
          refine lv_iload hx hb dX7_giveLabels_174 (lv_at hl 4 rfl) ?_
          refine lv_icmp_ne hx hb dX7_giveLabels_176 rfl (fun hc => ?_) (fun hc => ?_)
          · have hf := rx_f hc hf
            refine lv_aload_n hx hb dX7_giveLabels_196 rfl (lv_at hl 0 rfl) ?_
            refine rx_getr cx hw (frY_0_25 ad cI cL) rfl (inT_X7) (Nat.le_of_ble_eq_true rfl) (.tail _ tw_686) dX7_giveLabels_197 ?_
            refine lv_iload hx hb dX7_giveLabels_200 (lv_at hl 5 rfl) ?_
            obtain ⟨hv3, v3, ev3, hf⟩ := rx_ldI hf
            refine rx_iald cx hw (arY_15 ad cI cL) ⟨hv3, ev3⟩ dX7_giveLabels_202 ?_
            exact (qk_X7_giveLabels_203 cx hret ih) hw hl hf
          · have hf := rx_t hc hf
            exact (qk_X7_giveLabels_179 cx hret ih) hw hl hf
set_option maxRecDepth 100000 in
set_option maxHeartbeats 4000000 in
theorem qk_X7_giveLabels_210 (cx : rx_C p m c cX7_giveLabels 7 s args wX7_giveLabels RX7 D vwCl (tY cI cL) [] wN A) (hret : rx_RV p l e rm_X7_giveLabels s m args below meth c cX7_giveLabels D vwCl (wY ad cI cL) A Q o) {w1 : Int32} {w2 : Int32} {k42 : Int32 → Me → Op} (h42 : ∀ {a2 : Int32} {ls : Array Slot} {H : Heap} {locs : List Loc} {M : Me}, rx_W D vwCl (wY ad cI cL) A s.heap M H locs → lv_has ls 7 [(0, .ref ((ad 0))), (1, .int w1), (2, .int a2)] → k42 a2 M = some o → W p l e rm_X7_giveLabels s m args below meth c H locs 0 0 Q (F0 m 42 ls [])) {ls : Array Slot} {H : Heap} {locs : List Loc} {M : Me} (hw : rx_W D vwCl (wY ad cI cL) A s.heap M H locs) (hl : lv_has ls 7 [(0, .ref ((ad 0))), (1, .int w1), (2, .int w2)]) (hf : qb_X7_giveLabels_210 k42 w1 w2 M = some o) : W p l e rm_X7_giveLabels s m args below meth c H locs 0 0 Q (F0 m 210 ls []) := by
  have hx := cx.1.1
  have hb := cx.1.2.1
  obtain ⟨v1, ev1, hf⟩ := rx_vvI hf
  refine lv_iinc (lv' := [(2, .int v1), (0, .ref ((ad 0))), (1, .int w1)]) hx hb dX7_giveLabels_210 hl (k := 2) rfl (rx_inc ic_1 ev1) (Nat.le_of_ble_eq_true rfl) rfl (fun ls hl => ?_)
  refine lv_goto hx hb dX7_giveLabels_213 rfl ?_
  exact h42 hw (lv_sub hl [1, 2, 0] rfl) hf
set_option maxRecDepth 100000 in
set_option maxHeartbeats 4000000 in
theorem qk_X7_giveLabels_42 (cx : rx_C p m c cX7_giveLabels 7 s args wX7_giveLabels RX7 D vwCl (tY cI cL) [] wN A) (hret : rx_RV p l e rm_X7_giveLabels s m args below meth c cX7_giveLabels D vwCl (wY ad cI cL) A Q o) {w1 : Int32} {k216 : Me → Op} (h216 : ∀ {ls : Array Slot} {H : Heap} {locs : List Loc} {M : Me}, rx_W D vwCl (wY ad cI cL) A s.heap M H locs → lv_has ls 7 [(0, .ref ((ad 0))), (1, .int w1)] → k216 M = some o → W p l e rm_X7_giveLabels s m args below meth c H locs 0 0 Q (F0 m 216 ls [])) : ∀ (n : Nat) {w2 : Int32} {ls : Array Slot} {H : Heap} {locs : List Loc} {M : Me}, rx_W D vwCl (wY ad cI cL) A s.heap M H locs → lv_has ls 7 [(0, .ref ((ad 0))), (1, .int w1), (2, .int w2)] → rx_lp1 (qo_X7_giveLabels_42 k216 w1) n w2 M = some o → W p l e rm_X7_giveLabels s m args below meth c H locs 0 0 Q (F0 m 42 ls []) := by
  have hx := cx.1.1
  have hb := cx.1.2.1
  intro n
  induction n with
  | zero => intro w2 ls H locs M hw hl hf; exact rx_no hf
  | succ n ih =>
    intro w2 ls H locs M hw hl hf
    have hf : qo_X7_giveLabels_42 k216 w1 (rx_lp1 (qo_X7_giveLabels_42 k216 w1) n) w2 M = some o := hf
    refine lv_iload_n hx hb dX7_giveLabels_42 rfl (lv_at hl 2 rfl) ?_
    refine lv_bipush (v := 12) hx hb dX7_giveLabels_43 ib_12 ?_
    refine lv_icmp_ge hx hb dX7_giveLabels_45 rfl (fun hc => ?_) (fun hc => ?_)
    · have hf := rx_t hc hf
      exact h216 hw (lv_sub hl [0, 1] rfl) hf
    · have hf := rx_f hc hf
      refine lv_aload_n hx hb dX7_giveLabels_48 rfl (lv_at hl 0 rfl) ?_
      refine lv_aload_n hx hb dX7_giveLabels_49 rfl (lv_at hl 0 rfl) ?_
      refine rx_getr cx hw (frY_0_10 ad cI cL) rfl (inT_X7) (Nat.le_of_ble_eq_true rfl) (.tail _ tw_671) dX7_giveLabels_50 ?_
      refine lv_iload_n hx hb dX7_giveLabels_53 rfl (lv_at hl 1 rfl) ?_
      obtain ⟨hv1, v1, ev1, hf⟩ := rx_ldI hf
      refine rx_iald cx hw (arY_6 ad cI cL) ⟨hv1, ev1⟩ dX7_giveLabels_54 ?_
      refine lv_aload_n hx hb dX7_giveLabels_55 rfl (lv_at hl 0 rfl) ?_
      refine rx_getr cx hw (frY_0_11 ad cI cL) rfl (inT_X7) (Nat.le_of_ble_eq_true rfl) (.tail _ tw_672) dX7_giveLabels_56 ?_
      refine lv_iload_n hx hb dX7_giveLabels_59 rfl (lv_at hl 1 rfl) ?_
      obtain ⟨hv2, v2, ev2, hf⟩ := rx_ldI hf
      refine rx_iald cx hw (arY_7 ad cI cL) ⟨hv2, ev2⟩ dX7_giveLabels_60 ?_
      refine lv_iload_n hx hb dX7_giveLabels_61 rfl (lv_at hl 2 rfl) ?_
      obtain ⟨r3, M4, er3, hf⟩ := rx_clI hf
      refine rx_jVi cx hw (qc_X7_beside l D ad cI cL v1 v2 w2) (obY_0 ad cI cL) rfl rfl kfX7_beside tw_818 ⟨Nat.le_of_ble_eq_true rfl, Nat.le_of_ble_eq_true rfl, rfl, rfl⟩ rfl hl.1 (Nat.le_of_ble_eq_true rfl) ⟨Nat.zero_le _, Nat.zero_le _⟩ dX7_giveLabels_62 rfl er3 (fun H locs hw => ?_)
      refine lv_istore_n (lv' := [(3, .int r3), (0, .ref ((ad 0))), (1, .int w1), (2, .int w2)]) hx hb dX7_giveLabels_65 rfl hl (Nat.le_of_ble_eq_true rfl) rfl (fun ls hl => ?_)
      refine lv_iload_n hx hb dX7_giveLabels_66 rfl (lv_at hl 0 rfl) ?_
      refine lv_if_lt hx hb dX7_giveLabels_67 rfl (fun hc => ?_) (fun hc => ?_)
      · have hf := rx_t hc hf
        exact (qk_X7_giveLabels_210 cx hret ih) hw (lv_sub hl [1, 2, 3] rfl) hf
      · have hf := rx_f hc hf
        refine lv_aload_n hx hb dX7_giveLabels_70 rfl (lv_at hl 1 rfl) ?_
        refine rx_getr cx hw (frY_0_25 ad cI cL) rfl (inT_X7) (Nat.le_of_ble_eq_true rfl) (.tail _ tw_686) dX7_giveLabels_71 ?_
        refine lv_bipush (v := 8) hx hb dX7_giveLabels_74 ib_8 ?_
        refine lv_iload_n hx hb dX7_giveLabels_76 rfl (lv_at hl 2 rfl) ?_
        refine lv_imul hx hb dX7_giveLabels_77 ?_
        refine lv_aload_n hx hb dX7_giveLabels_78 rfl (lv_at hl 1 rfl) ?_
        refine lv_aload_n hx hb dX7_giveLabels_79 rfl (lv_at hl 1 rfl) ?_
        refine rx_getr cx hw (frY_0_12 ad cI cL) rfl (inT_X7) (Nat.le_of_ble_eq_true rfl) (.tail _ tw_673) dX7_giveLabels_80 ?_
        refine lv_iload_n hx hb dX7_giveLabels_83 rfl (lv_at hl 2 rfl) ?_
        obtain ⟨hv5, v5, ev5, hf⟩ := rx_ldI hf
        refine rx_iald cx hw (arY_8 ad cI cL) ⟨hv5, ev5⟩ dX7_giveLabels_84 ?_
        refine lv_aload_n hx hb dX7_giveLabels_85 rfl (lv_at hl 1 rfl) ?_
        refine rx_getr cx hw (frY_0_13 ad cI cL) rfl (inT_X7) (Nat.le_of_ble_eq_true rfl) (.tail _ tw_674) dX7_giveLabels_86 ?_
        refine lv_iload_n hx hb dX7_giveLabels_89 rfl (lv_at hl 2 rfl) ?_
        obtain ⟨hv6, v6, ev6, hf⟩ := rx_ldI hf
        refine rx_iald cx hw (arY_9 ad cI cL) ⟨hv6, ev6⟩ dX7_giveLabels_90 ?_
        refine lv_iload_n hx hb dX7_giveLabels_91 rfl (lv_at hl 3 rfl) ?_
        obtain ⟨r7, M8, er7, hf⟩ := rx_clI hf
        refine rx_jVi cx hw (qc_X7_partAt l D ad cI cL v5 v6 w2) (obY_0 ad cI cL) rfl rfl kfX7_partAt tw_829 ⟨Nat.le_of_ble_eq_true rfl, Nat.le_of_ble_eq_true rfl, rfl, rfl⟩ rfl hl.1 (Nat.le_of_ble_eq_true rfl) ⟨Nat.zero_le _, Nat.zero_le _⟩ dX7_giveLabels_92 rfl er7 (fun H locs hw => ?_)
        refine lv_iadd hx hb dX7_giveLabels_95 ?_
        obtain ⟨hv9, v9, ev9, hf⟩ := rx_ldI hf
        refine rx_iald cx hw (arY_15 ad cI cL) ⟨hv9, ev9⟩ dX7_giveLabels_96 ?_
        refine lv_istore (lv' := [(4, .int v9), (3, .int r3), (0, .ref ((ad 0))), (1, .int w1), (2, .int w2)]) hx hb dX7_giveLabels_97 hl (Nat.le_of_ble_eq_true rfl) rfl (fun ls hl => ?_)
        refine lv_aload_n hx hb dX7_giveLabels_99 rfl (lv_at hl 2 rfl) ?_
        refine rx_getr cx hw (frY_0_25 ad cI cL) rfl (inT_X7) (Nat.le_of_ble_eq_true rfl) (.tail _ tw_686) dX7_giveLabels_100 ?_
        refine lv_bipush (v := 8) hx hb dX7_giveLabels_103 ib_8 ?_
        refine lv_iload_n hx hb dX7_giveLabels_105 rfl (lv_at hl 1 rfl) ?_
        refine lv_imul hx hb dX7_giveLabels_106 ?_
        refine lv_aload_n hx hb dX7_giveLabels_107 rfl (lv_at hl 2 rfl) ?_
        refine lv_aload_n hx hb dX7_giveLabels_108 rfl (lv_at hl 2 rfl) ?_
        refine rx_getr cx hw (frY_0_12 ad cI cL) rfl (inT_X7) (Nat.le_of_ble_eq_true rfl) (.tail _ tw_673) dX7_giveLabels_109 ?_
        refine lv_iload_n hx hb dX7_giveLabels_112 rfl (lv_at hl 1 rfl) ?_
        obtain ⟨hv10, v10, ev10, hf⟩ := rx_ldI hf
        refine rx_iald cx hw (arY_8 ad cI cL) ⟨hv10, ev10⟩ dX7_giveLabels_113 ?_
        refine lv_aload_n hx hb dX7_giveLabels_114 rfl (lv_at hl 2 rfl) ?_
        refine rx_getr cx hw (frY_0_13 ad cI cL) rfl (inT_X7) (Nat.le_of_ble_eq_true rfl) (.tail _ tw_674) dX7_giveLabels_115 ?_
        refine lv_iload_n hx hb dX7_giveLabels_118 rfl (lv_at hl 1 rfl) ?_
        obtain ⟨hv11, v11, ev11, hf⟩ := rx_ldI hf
        refine rx_iald cx hw (arY_9 ad cI cL) ⟨hv11, ev11⟩ dX7_giveLabels_119 ?_
        refine lv_iload_n hx hb dX7_giveLabels_120 rfl (lv_at hl 4 rfl) ?_
        obtain ⟨r12, M13, er12, hf⟩ := rx_clI hf
        refine rx_jSi cx hw (qc_X7_opposite l D ad cI cL w2) kfX7_opposite tw_822 ⟨Nat.le_of_ble_eq_true rfl, Nat.le_of_ble_eq_true rfl, rfl, rfl⟩ rfl hl.1 (Nat.le_of_ble_eq_true rfl) ⟨Nat.zero_le _, Nat.zero_le _⟩ dX7_giveLabels_121 rfl er12 (fun H locs hw => ?_)
        obtain ⟨r14, M15, er14, hf⟩ := rx_clI hf
        refine rx_jVi cx hw (qc_X7_partAt l D ad cI cL v10 v11 r12) (obY_0 ad cI cL) rfl rfl kfX7_partAt tw_829 ⟨Nat.le_of_ble_eq_true rfl, Nat.le_of_ble_eq_true rfl, rfl, rfl⟩ rfl hl.1 (Nat.le_of_ble_eq_true rfl) ⟨Nat.zero_le _, Nat.zero_le _⟩ dX7_giveLabels_124 rfl er14 (fun H locs hw => ?_)
        refine lv_iadd hx hb dX7_giveLabels_127 ?_
        obtain ⟨hv16, v16, ev16, hf⟩ := rx_ldI hf
        refine rx_iald cx hw (arY_15 ad cI cL) ⟨hv16, ev16⟩ dX7_giveLabels_128 ?_
        refine lv_istore (lv' := [(5, .int v16), (4, .int v9), (3, .int r3), (0, .ref ((ad 0))), (1, .int w1), (2, .int w2)]) hx hb dX7_giveLabels_129 hl (Nat.le_of_ble_eq_true rfl) rfl (fun ls hl => ?_)
        refine lv_iconst (v := 0) hx hb dX7_giveLabels_131 ic_0 ?_
        refine lv_istore (lv' := [(6, .int 0), (5, .int v16), (4, .int v9), (3, .int r3), (0, .ref ((ad 0))), (1, .int w1), (2, .int w2)]) hx hb dX7_giveLabels_132 hl (Nat.le_of_ble_eq_true rfl) rfl (fun ls hl => ?_)
        exact (qk_X7_giveLabels_134 cx hret (qk_X7_giveLabels_210 cx hret ih) rx_FU) hw (lv_sub hl [4, 5, 6, 2, 1, 0] rfl) hf
set_option maxRecDepth 100000 in
set_option maxHeartbeats 4000000 in
theorem qk_X7_giveLabels_216 (cx : rx_C p m c cX7_giveLabels 7 s args wX7_giveLabels RX7 D vwCl (tY cI cL) [] wN A) (hret : rx_RV p l e rm_X7_giveLabels s m args below meth c cX7_giveLabels D vwCl (wY ad cI cL) A Q o) {w1 : Int32} {k32 : Int32 → Me → Op} (h32 : ∀ {a1 : Int32} {ls : Array Slot} {H : Heap} {locs : List Loc} {M : Me}, rx_W D vwCl (wY ad cI cL) A s.heap M H locs → lv_has ls 7 [(0, .ref ((ad 0))), (1, .int a1)] → k32 a1 M = some o → W p l e rm_X7_giveLabels s m args below meth c H locs 0 0 Q (F0 m 32 ls [])) {ls : Array Slot} {H : Heap} {locs : List Loc} {M : Me} (hw : rx_W D vwCl (wY ad cI cL) A s.heap M H locs) (hl : lv_has ls 7 [(0, .ref ((ad 0))), (1, .int w1)]) (hf : qb_X7_giveLabels_216 k32 w1 M = some o) : W p l e rm_X7_giveLabels s m args below meth c H locs 0 0 Q (F0 m 216 ls []) := by
  have hx := cx.1.1
  have hb := cx.1.2.1
  obtain ⟨v1, ev1, hf⟩ := rx_vvI hf
  refine lv_iinc (lv' := [(1, .int v1), (0, .ref ((ad 0)))]) hx hb dX7_giveLabels_216 hl (k := 1) rfl (rx_inc ic_1 ev1) (Nat.le_of_ble_eq_true rfl) rfl (fun ls hl => ?_)
  refine lv_goto hx hb dX7_giveLabels_219 rfl ?_
  exact h32 hw (lv_sub hl [1, 0] rfl) hf
set_option maxRecDepth 100000 in
set_option maxHeartbeats 4000000 in
theorem qk_X7_giveLabels_32 (cx : rx_C p m c cX7_giveLabels 7 s args wX7_giveLabels RX7 D vwCl (tY cI cL) [] wN A) (hret : rx_RV p l e rm_X7_giveLabels s m args below meth c cX7_giveLabels D vwCl (wY ad cI cL) A Q o) {k222 : Me → Op} (h222 : ∀ {ls : Array Slot} {H : Heap} {locs : List Loc} {M : Me}, rx_W D vwCl (wY ad cI cL) A s.heap M H locs → lv_has ls 7 [(0, .ref ((ad 0)))] → k222 M = some o → W p l e rm_X7_giveLabels s m args below meth c H locs 0 0 Q (F0 m 222 ls [])) : ∀ (n : Nat) {w1 : Int32} {ls : Array Slot} {H : Heap} {locs : List Loc} {M : Me}, rx_W D vwCl (wY ad cI cL) A s.heap M H locs → lv_has ls 7 [(0, .ref ((ad 0))), (1, .int w1)] → rx_lp1 (qo_X7_giveLabels_32 k222) n w1 M = some o → W p l e rm_X7_giveLabels s m args below meth c H locs 0 0 Q (F0 m 32 ls []) := by
  have hx := cx.1.1
  have hb := cx.1.2.1
  intro n
  induction n with
  | zero => intro w1 ls H locs M hw hl hf; exact rx_no hf
  | succ n ih =>
    intro w1 ls H locs M hw hl hf
    have hf : qo_X7_giveLabels_32 k222 (rx_lp1 (qo_X7_giveLabels_32 k222) n) w1 M = some o := hf
    refine lv_iload_n hx hb dX7_giveLabels_32 rfl (lv_at hl 1 rfl) ?_
    refine lv_aload_n hx hb dX7_giveLabels_33 rfl (lv_at hl 0 rfl) ?_
    obtain ⟨v1, ev1, hf⟩ := rx_vvI hf
    refine rx_geti cx hw (fiY_0_9 ad cI cL) rfl (inT_X7) (Nat.le_of_ble_eq_true rfl) (.tail _ tw_670) ev1 dX7_giveLabels_34 ?_
    refine lv_icmp_ge hx hb dX7_giveLabels_37 rfl (fun hc => ?_) (fun hc => ?_)
    · have hf := rx_t hc hf
      exact h222 hw (lv_sub hl [0] rfl) hf
    · have hf := rx_f hc hf
      refine lv_iconst (v := 0) hx hb dX7_giveLabels_40 ic_0 ?_
      refine lv_istore_n (lv' := [(2, .int 0), (0, .ref ((ad 0))), (1, .int w1)]) hx hb dX7_giveLabels_41 rfl hl (Nat.le_of_ble_eq_true rfl) rfl (fun ls hl => ?_)
      exact (qk_X7_giveLabels_42 cx hret (qk_X7_giveLabels_216 cx hret ih) rx_FU) hw (lv_sub hl [1, 2, 0] rfl) hf
set_option maxRecDepth 100000 in
set_option maxHeartbeats 4000000 in
theorem qk_X7_giveLabels_222 (cx : rx_C p m c cX7_giveLabels 7 s args wX7_giveLabels RX7 D vwCl (tY cI cL) [] wN A) (hret : rx_RV p l e rm_X7_giveLabels s m args below meth c cX7_giveLabels D vwCl (wY ad cI cL) A Q o) {ls : Array Slot} {H : Heap} {locs : List Loc} {M : Me} (hw : rx_W D vwCl (wY ad cI cL) A s.heap M H locs) (hl : lv_has ls 7 [(0, .ref ((ad 0)))]) (hf : qb_X7_giveLabels_222 M = some o) : W p l e rm_X7_giveLabels s m args below meth c H locs 0 0 Q (F0 m 222 ls []) := by
  have hx := cx.1.1
  have hb := cx.1.2.1
  refine lv_aload_n hx hb dX7_giveLabels_222 rfl (lv_at hl 0 rfl) ?_
  refine lv_iconst (v := 1) hx hb dX7_giveLabels_223 ic_1 ?_
  obtain ⟨M1, eM1, hf⟩ := rx_vvI hf
  refine rx_puti cx hw (fiY_0_26 ad cI cL) rfl (inT_X7) tyX7 tyX7_ok nmX7 (Nat.le_of_ble_eq_true rfl) (.tail _ tw_687) rfl rfl rfl eM1 dX7_giveLabels_224 (fun H locs hw => ?_)
  exact rx_retv hret hw hf dX7_giveLabels_227
set_option maxRecDepth 100000 in
set_option maxHeartbeats 4000000 in
theorem qk_X7_giveLabels_30 (cx : rx_C p m c cX7_giveLabels 7 s args wX7_giveLabels RX7 D vwCl (tY cI cL) [] wN A) (hret : rx_RV p l e rm_X7_giveLabels s m args below meth c cX7_giveLabels D vwCl (wY ad cI cL) A Q o) {ls : Array Slot} {H : Heap} {locs : List Loc} {M : Me} (hw : rx_W D vwCl (wY ad cI cL) A s.heap M H locs) (hl : lv_has ls 7 [(0, .ref ((ad 0)))]) (hf : qb_X7_giveLabels_30 M = some o) : W p l e rm_X7_giveLabels s m args below meth c H locs 0 0 Q (F0 m 30 ls []) := by
  have hx := cx.1.1
  have hb := cx.1.2.1
  refine lv_iconst (v := 0) hx hb dX7_giveLabels_30 ic_0 ?_
  refine lv_istore_n (lv' := [(1, .int 0), (0, .ref ((ad 0)))]) hx hb dX7_giveLabels_31 rfl hl (Nat.le_of_ble_eq_true rfl) rfl (fun ls hl => ?_)
  exact (qk_X7_giveLabels_32 cx hret (qk_X7_giveLabels_222 cx hret) rx_FU) hw (lv_sub hl [1, 0] rfl) hf
set_option maxRecDepth 100000 in
set_option maxHeartbeats 4000000 in
theorem qk_X7_giveLabels_0 (cx : rx_C p m c cX7_giveLabels 7 s args wX7_giveLabels RX7 D vwCl (tY cI cL) [] wN A) (hret : rx_RV p l e rm_X7_giveLabels s m args below meth c cX7_giveLabels D vwCl (wY ad cI cL) A Q o) {ls : Array Slot} {H : Heap} {locs : List Loc} {M : Me} (hw : rx_W D vwCl (wY ad cI cL) A s.heap M H locs) (hl : lv_has ls 7 [(0, .ref ((ad 0)))]) (hf : qf_X7_giveLabels M = some o) : W p l e rm_X7_giveLabels s m args below meth c H locs 0 0 Q (F0 m 0 ls []) := by
  have hx := cx.1.1
  have hb := cx.1.2.1
  refine lv_aload_n hx hb dX7_giveLabels_0 rfl (lv_at hl 0 rfl) ?_
  obtain ⟨v1, ev1, hf⟩ := rx_vvI hf
  refine rx_geti cx hw (fiY_0_26 ad cI cL) rfl (inT_X7) (Nat.le_of_ble_eq_true rfl) (.tail _ tw_687) ev1 dX7_giveLabels_1 ?_
  refine lv_if_eq hx hb dX7_giveLabels_4 rfl (fun hc => ?_) (fun hc => ?_)
  · have hf := rx_t hc hf
    refine lv_iconst (v := 0) hx hb dX7_giveLabels_8 ic_0 ?_
    refine lv_istore_n (lv' := [(1, .int 0), (0, .ref ((ad 0)))]) hx hb dX7_giveLabels_9 rfl hl (Nat.le_of_ble_eq_true rfl) rfl (fun ls hl => ?_)
    exact (qk_X7_giveLabels_10 cx hret (qk_X7_giveLabels_30 cx hret) rx_FU) hw (lv_sub hl [1, 0] rfl) hf
  · have hf := rx_f hc hf
    exact rx_retv hret hw hf dX7_giveLabels_7
end
set_option maxRecDepth 100000 in
theorem qc_X7_giveLabels (l : Launch) (D : va_G) (ad : Nat → Nat) (cI cL : ClassId) : rx_MV l yX7_giveLabels wX7_giveLabels rm_X7_giveLabels D vwCl (wY ad cI cL) (tY cI cL) [] wN [.ref (ad 0)] (fun M => qf_X7_giveLabels M) :=
  rx_ofV (by decide) rfl wN_ok (Nat.le_of_ble_eq_true rfl) (fun _ _ _ _ _ _ _ _ _ _ _ _ _ cx hret hw hl hf => qk_X7_giveLabels_0 cx hret hw hl hf)
def rm_X7_put : Room := { frames := 6, cells := 0, slots := 0, locals := 140 }
noncomputable def qb_X7_put_91 (k48 : Int32 → Int32 → Me → Op) (w2 : Int32) (w4 : Int32) (s0 : Int32) (M : Me) : Op :=
  rx_vv (w4 + 1) fun v1 => k48 s0 v1 M
noncomputable def qo_X7_put_48 (k98 : Int32 → Me → Op) (w2 : Int32) (rec : Int32 → Int32 → Me → Op) (w3 : Int32) (w4 : Int32) (M : Me) : Op :=
  if 8 ≤ w4 then (k98 w3 M) else (rx_cl (qf_X7_kindOfPiece ((8 * w2) + w4) M) fun r1 M2 => if r1 ≤ 0 then (qb_X7_put_91 rec w2 w4 w3 M2) else (rx_ld M2 15 192 ((8 * w2) + w4) fun v3 => rx_cl (qf_X7_score v3 M2) fun r4 M5 => qb_X7_put_91 rec w2 w4 (w3 + r4) M5))
noncomputable def qb_X7_put_199 (k153 : Int32 → Int32 → Me → Op) (w2 : Int32) (w4 : Int32) (w5 : Int32) (w6 : Int32) (s0 : Int32) (M : Me) : Op :=
  rx_vv (w6 + 1) fun v1 => k153 s0 v1 M
noncomputable def qo_X7_put_153 (k206 : Int32 → Me → Op) (w2 : Int32) (w4 : Int32) (w5 : Int32) (rec : Int32 → Int32 → Me → Op) (w3 : Int32) (w6 : Int32) (M : Me) : Op :=
  if 8 ≤ w6 then (k206 w3 M) else (if w5 < 0 then (k206 w3 M) else (rx_cl (qf_X7_kindOfPiece ((8 * w5) + w6) M) fun r1 M2 => if r1 = 4 then (rx_cl (qf_X7_score ((8 * w5) + w6) M2) fun r3 M4 => qb_X7_put_199 rec w2 w4 w5 w6 (w3 + r3) M4) else (qb_X7_put_199 rec w2 w4 w5 w6 w3 M2)))
noncomputable def qb_X7_put_206 (k101 : Int32 → Int32 → Me → Op) (w2 : Int32) (w3 : Int32) (w4 : Int32)  (M : Me) : Op :=
  rx_vv (w4 + 1) fun v1 => k101 w3 v1 M
noncomputable def qb_X7_put_148 (k101 : Int32 → Int32 → Me → Op) (w2 : Int32) (w3 : Int32) (w4 : Int32) (s0 : Int32) (M : Me) : Op :=
  rx_lp2 (qo_X7_put_153 (fun a3 M => qb_X7_put_206 k101 w2 a3 w4 M) w2 w4 s0) rx_FU w3 0 M
noncomputable def qo_X7_put_101 (k212 : Int32 → Me → Op) (w2 : Int32) (rec : Int32 → Int32 → Me → Op) (w3 : Int32) (w4 : Int32) (M : Me) : Op :=
  if 9 ≤ w4 then (k212 w3 M) else (if w4 = 4 then (qb_X7_put_148 rec w2 w3 w4 (-1) M) else (rx_ld M 6 24 w2 fun v1 => rx_ld M 7 24 w2 fun v2 => rx_cl (qf_X7_tileAt ((v1 + (w4 - w4 / 3 * 3)) - 1) ((v2 + (w4 / 3)) - 1) M) fun r3 M4 => qb_X7_put_148 rec w2 w3 w4 r3 M4))
noncomputable def qb_X7_put_241  (w3 : Int32) (s0 : Int32) (M : Me) : Op :=
  rx_vv (rx_st M 0 18 s0) fun M1 => rx_cl (qf_X7_drawNext M1) fun r2 M3 => some (w3, M3)
noncomputable def qb_X7_put_212  (w3 : Int32)  (M : Me) : Op :=
  rx_vv (rx_st M 0 22 0) fun M1 => rx_vv (M1 0 18) fun v2 => rx_vv (M1 0 8) fun v3 => if (v2 + 1) = v3 then (qb_X7_put_241 w3 0 M1) else (rx_vv (M1 0 18) fun v4 => qb_X7_put_241 w3 (v4 + 1) M1)
noncomputable def qb_X7_put_98  (w2 : Int32) (w3 : Int32)  (M : Me) : Op :=
  rx_lp2 (qo_X7_put_101 (fun a3 M => qb_X7_put_212 a3 M) w2) rx_FU w3 0 M
noncomputable def qb_X7_put_43  (w2 : Int32)  (M : Me) : Op :=
  rx_lp2 (qo_X7_put_48 (fun a3 M => qb_X7_put_98 w2 a3 M) w2) rx_FU 0 0 M
noncomputable def qf_X7_put  (w1 : Int32)  (M : Me) : Op :=
  rx_vv (M 0 9) fun v1 => rx_vv (v1 - 1) fun v2 => rx_cl (qf_X7_giveLabels M) fun r3 M4 => if w1 < 0 then (qb_X7_put_43 v2 M4) else (rx_vv (M4 0 18) fun v5 => rx_sv M4 11 192 ((8 * v2) + w1) v5 fun M6 => rx_vv (M6 0 18) fun v7 => rx_ld M6 13 3 v7 fun v8 => rx_sv M6 13 3 v7 (v8 - 1) fun M9 => qb_X7_put_43 v2 M9)
section
variable {p : Program} {l : Launch} {e : Env} {s : State} {m : MethodId} {args : Array Value} {below : List Frame} {meth : Method} {c : Code} {Q : State → Prop} {D : va_G} {A : Nat → Prop} {o : Int32 × Me} {ad : Nat → Nat} {cI cL : ClassId} {b1 b2 : Nat}
set_option maxRecDepth 100000 in
set_option maxHeartbeats 4000000 in
theorem qk_X7_put_91 (cx : rx_C p m c cX7_put 7 s args wX7_put RX7 D vwCl (tY cI cL) [] wN A) (hret : rx_RI p l e rm_X7_put s m args below meth c cX7_put D vwCl (wY ad cI cL) A Q o) {w2 : Int32} {w4 : Int32} {s0 : Int32} {k48 : Int32 → Int32 → Me → Op} (h48 : ∀ {a3 : Int32} {a4 : Int32} {ls : Array Slot} {H : Heap} {locs : List Loc} {M : Me}, rx_W D vwCl (wY ad cI cL) A s.heap M H locs → lv_has ls 7 [(0, .ref ((ad 0))), (2, .int w2), (3, .int a3), (4, .int a4)] → k48 a3 a4 M = some o → W p l e rm_X7_put s m args below meth c H locs 0 0 Q (F0 m 48 ls [])) {ls : Array Slot} {H : Heap} {locs : List Loc} {M : Me} (hw : rx_W D vwCl (wY ad cI cL) A s.heap M H locs) (hl : lv_has ls 7 [(0, .ref ((ad 0))), (2, .int w2), (4, .int w4)]) (hf : qb_X7_put_91 k48 w2 w4 s0 M = some o) : W p l e rm_X7_put s m args below meth c H locs 0 0 Q (F0 m 91 ls [.int s0]) := by
  have hx := cx.1.1
  have hb := cx.1.2.1
  refine lv_istore_n (lv' := [(3, .int s0), (0, .ref ((ad 0))), (2, .int w2), (4, .int w4)]) hx hb dX7_put_91 rfl hl (Nat.le_of_ble_eq_true rfl) rfl (fun ls hl => ?_)
  obtain ⟨v1, ev1, hf⟩ := rx_vvI hf
  refine lv_iinc (lv' := [(4, .int v1), (3, .int s0), (0, .ref ((ad 0))), (2, .int w2)]) hx hb dX7_put_92 hl (k := 3) rfl (rx_inc ic_1 ev1) (Nat.le_of_ble_eq_true rfl) rfl (fun ls hl => ?_)
  refine lv_goto hx hb dX7_put_95 rfl ?_
  exact h48 hw (lv_sub hl [2, 3, 1, 0] rfl) hf
set_option maxRecDepth 100000 in
set_option maxHeartbeats 4000000 in
theorem qk_X7_put_48 (cx : rx_C p m c cX7_put 7 s args wX7_put RX7 D vwCl (tY cI cL) [] wN A) (hret : rx_RI p l e rm_X7_put s m args below meth c cX7_put D vwCl (wY ad cI cL) A Q o) {w2 : Int32} {k98 : Int32 → Me → Op} (h98 : ∀ {a3 : Int32} {ls : Array Slot} {H : Heap} {locs : List Loc} {M : Me}, rx_W D vwCl (wY ad cI cL) A s.heap M H locs → lv_has ls 7 [(0, .ref ((ad 0))), (2, .int w2), (3, .int a3)] → k98 a3 M = some o → W p l e rm_X7_put s m args below meth c H locs 0 0 Q (F0 m 98 ls [])) : ∀ (n : Nat) {w3 : Int32} {w4 : Int32} {ls : Array Slot} {H : Heap} {locs : List Loc} {M : Me}, rx_W D vwCl (wY ad cI cL) A s.heap M H locs → lv_has ls 7 [(0, .ref ((ad 0))), (2, .int w2), (3, .int w3), (4, .int w4)] → rx_lp2 (qo_X7_put_48 k98 w2) n w3 w4 M = some o → W p l e rm_X7_put s m args below meth c H locs 0 0 Q (F0 m 48 ls []) := by
  have hx := cx.1.1
  have hb := cx.1.2.1
  intro n
  induction n with
  | zero => intro w3 w4 ls H locs M hw hl hf; exact rx_no hf
  | succ n ih =>
    intro w3 w4 ls H locs M hw hl hf
    have hf : qo_X7_put_48 k98 w2 (rx_lp2 (qo_X7_put_48 k98 w2) n) w3 w4 M = some o := hf
    refine lv_iload hx hb dX7_put_48 (lv_at hl 3 rfl) ?_
    refine lv_bipush (v := 8) hx hb dX7_put_50 ib_8 ?_
    refine lv_icmp_ge hx hb dX7_put_52 rfl (fun hc => ?_) (fun hc => ?_)
    · have hf := rx_t hc hf
      exact h98 hw (lv_sub hl [0, 1, 2] rfl) hf
    · have hf := rx_f hc hf
      refine lv_aload_n hx hb dX7_put_55 rfl (lv_at hl 0 rfl) ?_
      refine lv_bipush (v := 8) hx hb dX7_put_56 ib_8 ?_
      refine lv_iload_n hx hb dX7_put_58 rfl (lv_at hl 1 rfl) ?_
      refine lv_imul hx hb dX7_put_59 ?_
      refine lv_iload hx hb dX7_put_60 (lv_at hl 3 rfl) ?_
      refine lv_iadd hx hb dX7_put_62 ?_
      obtain ⟨r1, M2, er1, hf⟩ := rx_clI hf
      refine rx_jVi cx hw (qc_X7_kindOfPiece l D ad cI cL ((8 * w2) + w4)) (obY_0 ad cI cL) rfl rfl kfX7_kindOfPiece tw_873 ⟨Nat.le_of_ble_eq_true rfl, Nat.le_of_ble_eq_true rfl, rfl, rfl⟩ rfl hl.1 (Nat.le_of_ble_eq_true rfl) ⟨Nat.zero_le _, Nat.zero_le _⟩ dX7_put_63 rfl er1 (fun H locs hw => ?_)
      refine lv_if_le hx hb dX7_put_66 rfl (fun hc => ?_) (fun hc => ?_)
      · have hf := rx_t hc hf
        refine lv_iload_n hx hb dX7_put_90 rfl (lv_at hl 2 rfl) ?_
        exact (qk_X7_put_91 cx hret ih) hw (lv_sub hl [0, 1, 3] rfl) hf
      · have hf := rx_f hc hf
        refine lv_iload_n hx hb dX7_put_69 rfl (lv_at hl 2 rfl) ?_
        refine lv_aload_n hx hb dX7_put_70 rfl (lv_at hl 0 rfl) ?_
        refine lv_aload_n hx hb dX7_put_71 rfl (lv_at hl 0 rfl) ?_
        refine rx_getr cx hw (frY_0_25 ad cI cL) rfl (inT_X7) (Nat.le_of_ble_eq_true rfl) (.tail _ tw_686) dX7_put_72 ?_
        refine lv_bipush (v := 8) hx hb dX7_put_75 ib_8 ?_
        refine lv_iload_n hx hb dX7_put_77 rfl (lv_at hl 1 rfl) ?_
        refine lv_imul hx hb dX7_put_78 ?_
        refine lv_iload hx hb dX7_put_79 (lv_at hl 3 rfl) ?_
        refine lv_iadd hx hb dX7_put_81 ?_
        obtain ⟨hv3, v3, ev3, hf⟩ := rx_ldI hf
        refine rx_iald cx hw (arY_15 ad cI cL) ⟨hv3, ev3⟩ dX7_put_82 ?_
        obtain ⟨r4, M5, er4, hf⟩ := rx_clI hf
        refine rx_jVi cx hw (qc_X7_score l D ad cI cL v3) (obY_0 ad cI cL) rfl rfl kfX7_score tw_889 ⟨Nat.le_of_ble_eq_true rfl, Nat.le_of_ble_eq_true rfl, rfl, rfl⟩ rfl hl.1 (Nat.le_of_ble_eq_true rfl) ⟨Nat.zero_le _, Nat.zero_le _⟩ dX7_put_83 rfl er4 (fun H locs hw => ?_)
        refine lv_iadd hx hb dX7_put_86 ?_
        refine lv_goto hx hb dX7_put_87 rfl ?_
        exact (qk_X7_put_91 cx hret ih) hw (lv_sub hl [0, 1, 3] rfl) hf
set_option maxRecDepth 100000 in
set_option maxHeartbeats 4000000 in
theorem qk_X7_put_199 (cx : rx_C p m c cX7_put 7 s args wX7_put RX7 D vwCl (tY cI cL) [] wN A) (hret : rx_RI p l e rm_X7_put s m args below meth c cX7_put D vwCl (wY ad cI cL) A Q o) {w2 : Int32} {w4 : Int32} {w5 : Int32} {w6 : Int32} {s0 : Int32} {k153 : Int32 → Int32 → Me → Op} (h153 : ∀ {a3 : Int32} {a6 : Int32} {ls : Array Slot} {H : Heap} {locs : List Loc} {M : Me}, rx_W D vwCl (wY ad cI cL) A s.heap M H locs → lv_has ls 7 [(0, .ref ((ad 0))), (2, .int w2), (3, .int a3), (4, .int w4), (5, .int w5), (6, .int a6)] → k153 a3 a6 M = some o → W p l e rm_X7_put s m args below meth c H locs 0 0 Q (F0 m 153 ls [])) {ls : Array Slot} {H : Heap} {locs : List Loc} {M : Me} (hw : rx_W D vwCl (wY ad cI cL) A s.heap M H locs) (hl : lv_has ls 7 [(0, .ref ((ad 0))), (2, .int w2), (4, .int w4), (5, .int w5), (6, .int w6)]) (hf : qb_X7_put_199 k153 w2 w4 w5 w6 s0 M = some o) : W p l e rm_X7_put s m args below meth c H locs 0 0 Q (F0 m 199 ls [.int s0]) := by
  have hx := cx.1.1
  have hb := cx.1.2.1
  refine lv_istore_n (lv' := [(3, .int s0), (0, .ref ((ad 0))), (2, .int w2), (4, .int w4), (5, .int w5), (6, .int w6)]) hx hb dX7_put_199 rfl hl (Nat.le_of_ble_eq_true rfl) rfl (fun ls hl => ?_)
  obtain ⟨v1, ev1, hf⟩ := rx_vvI hf
  refine lv_iinc (lv' := [(6, .int v1), (3, .int s0), (0, .ref ((ad 0))), (2, .int w2), (4, .int w4), (5, .int w5)]) hx hb dX7_put_200 hl (k := 5) rfl (rx_inc ic_1 ev1) (Nat.le_of_ble_eq_true rfl) rfl (fun ls hl => ?_)
  refine lv_goto hx hb dX7_put_203 rfl ?_
  exact h153 hw (lv_sub hl [2, 3, 1, 4, 5, 0] rfl) hf
set_option maxRecDepth 100000 in
set_option maxHeartbeats 4000000 in
theorem qk_X7_put_153 (cx : rx_C p m c cX7_put 7 s args wX7_put RX7 D vwCl (tY cI cL) [] wN A) (hret : rx_RI p l e rm_X7_put s m args below meth c cX7_put D vwCl (wY ad cI cL) A Q o) {w2 : Int32} {w4 : Int32} {w5 : Int32} {k206 : Int32 → Me → Op} (h206 : ∀ {a3 : Int32} {ls : Array Slot} {H : Heap} {locs : List Loc} {M : Me}, rx_W D vwCl (wY ad cI cL) A s.heap M H locs → lv_has ls 7 [(0, .ref ((ad 0))), (2, .int w2), (3, .int a3), (4, .int w4)] → k206 a3 M = some o → W p l e rm_X7_put s m args below meth c H locs 0 0 Q (F0 m 206 ls [])) : ∀ (n : Nat) {w3 : Int32} {w6 : Int32} {ls : Array Slot} {H : Heap} {locs : List Loc} {M : Me}, rx_W D vwCl (wY ad cI cL) A s.heap M H locs → lv_has ls 7 [(0, .ref ((ad 0))), (2, .int w2), (3, .int w3), (4, .int w4), (5, .int w5), (6, .int w6)] → rx_lp2 (qo_X7_put_153 k206 w2 w4 w5) n w3 w6 M = some o → W p l e rm_X7_put s m args below meth c H locs 0 0 Q (F0 m 153 ls []) := by
  have hx := cx.1.1
  have hb := cx.1.2.1
  intro n
  induction n with
  | zero => intro w3 w6 ls H locs M hw hl hf; exact rx_no hf
  | succ n ih =>
    intro w3 w6 ls H locs M hw hl hf
    have hf : qo_X7_put_153 k206 w2 w4 w5 (rx_lp2 (qo_X7_put_153 k206 w2 w4 w5) n) w3 w6 M = some o := hf
    refine lv_iload hx hb dX7_put_153 (lv_at hl 5 rfl) ?_
    refine lv_bipush (v := 8) hx hb dX7_put_155 ib_8 ?_
    refine lv_icmp_ge hx hb dX7_put_157 rfl (fun hc => ?_) (fun hc => ?_)
    · have hf := rx_t hc hf
      exact h206 hw (lv_sub hl [0, 1, 2, 3] rfl) hf
    · have hf := rx_f hc hf
      refine lv_iload hx hb dX7_put_160 (lv_at hl 4 rfl) ?_
      refine lv_if_lt hx hb dX7_put_162 rfl (fun hc => ?_) (fun hc => ?_)
      · have hf := rx_t hc hf
        exact h206 hw (lv_sub hl [0, 1, 2, 3] rfl) hf
      · have hf := rx_f hc hf
        refine lv_aload_n hx hb dX7_put_165 rfl (lv_at hl 0 rfl) ?_
        refine lv_bipush (v := 8) hx hb dX7_put_166 ib_8 ?_
        refine lv_iload hx hb dX7_put_168 (lv_at hl 4 rfl) ?_
        refine lv_imul hx hb dX7_put_170 ?_
        refine lv_iload hx hb dX7_put_171 (lv_at hl 5 rfl) ?_
        refine lv_iadd hx hb dX7_put_173 ?_
        obtain ⟨r1, M2, er1, hf⟩ := rx_clI hf
        refine rx_jVi cx hw (qc_X7_kindOfPiece l D ad cI cL ((8 * w5) + w6)) (obY_0 ad cI cL) rfl rfl kfX7_kindOfPiece tw_873 ⟨Nat.le_of_ble_eq_true rfl, Nat.le_of_ble_eq_true rfl, rfl, rfl⟩ rfl hl.1 (Nat.le_of_ble_eq_true rfl) ⟨Nat.zero_le _, Nat.zero_le _⟩ dX7_put_174 rfl er1 (fun H locs hw => ?_)
        refine lv_iconst (v := 4) hx hb dX7_put_177 ic_4 ?_
        refine lv_icmp_ne hx hb dX7_put_178 rfl (fun hc => ?_) (fun hc => ?_)
        · have hf := rx_f hc hf
          refine lv_iload_n hx hb dX7_put_198 rfl (lv_at hl 2 rfl) ?_
          exact (qk_X7_put_199 cx hret ih) hw (lv_sub hl [0, 1, 3, 4, 5] rfl) hf
        · have hf := rx_t hc hf
          refine lv_iload_n hx hb dX7_put_181 rfl (lv_at hl 2 rfl) ?_
          refine lv_aload_n hx hb dX7_put_182 rfl (lv_at hl 0 rfl) ?_
          refine lv_bipush (v := 8) hx hb dX7_put_183 ib_8 ?_
          refine lv_iload hx hb dX7_put_185 (lv_at hl 4 rfl) ?_
          refine lv_imul hx hb dX7_put_187 ?_
          refine lv_iload hx hb dX7_put_188 (lv_at hl 5 rfl) ?_
          refine lv_iadd hx hb dX7_put_190 ?_
          obtain ⟨r3, M4, er3, hf⟩ := rx_clI hf
          refine rx_jVi cx hw (qc_X7_score l D ad cI cL ((8 * w5) + w6)) (obY_0 ad cI cL) rfl rfl kfX7_score tw_889 ⟨Nat.le_of_ble_eq_true rfl, Nat.le_of_ble_eq_true rfl, rfl, rfl⟩ rfl hl.1 (Nat.le_of_ble_eq_true rfl) ⟨Nat.zero_le _, Nat.zero_le _⟩ dX7_put_191 rfl er3 (fun H locs hw => ?_)
          refine lv_iadd hx hb dX7_put_194 ?_
          refine lv_goto hx hb dX7_put_195 rfl ?_
          exact (qk_X7_put_199 cx hret ih) hw (lv_sub hl [0, 1, 3, 4, 5] rfl) hf
set_option maxRecDepth 100000 in
set_option maxHeartbeats 4000000 in
theorem qk_X7_put_206 (cx : rx_C p m c cX7_put 7 s args wX7_put RX7 D vwCl (tY cI cL) [] wN A) (hret : rx_RI p l e rm_X7_put s m args below meth c cX7_put D vwCl (wY ad cI cL) A Q o) {w2 : Int32} {w3 : Int32} {w4 : Int32} {k101 : Int32 → Int32 → Me → Op} (h101 : ∀ {a3 : Int32} {a4 : Int32} {ls : Array Slot} {H : Heap} {locs : List Loc} {M : Me}, rx_W D vwCl (wY ad cI cL) A s.heap M H locs → lv_has ls 7 [(0, .ref ((ad 0))), (2, .int w2), (3, .int a3), (4, .int a4)] → k101 a3 a4 M = some o → W p l e rm_X7_put s m args below meth c H locs 0 0 Q (F0 m 101 ls [])) {ls : Array Slot} {H : Heap} {locs : List Loc} {M : Me} (hw : rx_W D vwCl (wY ad cI cL) A s.heap M H locs) (hl : lv_has ls 7 [(0, .ref ((ad 0))), (2, .int w2), (3, .int w3), (4, .int w4)]) (hf : qb_X7_put_206 k101 w2 w3 w4 M = some o) : W p l e rm_X7_put s m args below meth c H locs 0 0 Q (F0 m 206 ls []) := by
  have hx := cx.1.1
  have hb := cx.1.2.1
  obtain ⟨v1, ev1, hf⟩ := rx_vvI hf
  refine lv_iinc (lv' := [(4, .int v1), (0, .ref ((ad 0))), (2, .int w2), (3, .int w3)]) hx hb dX7_put_206 hl (k := 3) rfl (rx_inc ic_1 ev1) (Nat.le_of_ble_eq_true rfl) rfl (fun ls hl => ?_)
  refine lv_goto hx hb dX7_put_209 rfl ?_
  exact h101 hw (lv_sub hl [1, 2, 3, 0] rfl) hf
set_option maxRecDepth 100000 in
set_option maxHeartbeats 4000000 in
theorem qk_X7_put_148 (cx : rx_C p m c cX7_put 7 s args wX7_put RX7 D vwCl (tY cI cL) [] wN A) (hret : rx_RI p l e rm_X7_put s m args below meth c cX7_put D vwCl (wY ad cI cL) A Q o) {w2 : Int32} {w3 : Int32} {w4 : Int32} {s0 : Int32} {k101 : Int32 → Int32 → Me → Op} (h101 : ∀ {a3 : Int32} {a4 : Int32} {ls : Array Slot} {H : Heap} {locs : List Loc} {M : Me}, rx_W D vwCl (wY ad cI cL) A s.heap M H locs → lv_has ls 7 [(0, .ref ((ad 0))), (2, .int w2), (3, .int a3), (4, .int a4)] → k101 a3 a4 M = some o → W p l e rm_X7_put s m args below meth c H locs 0 0 Q (F0 m 101 ls [])) {ls : Array Slot} {H : Heap} {locs : List Loc} {M : Me} (hw : rx_W D vwCl (wY ad cI cL) A s.heap M H locs) (hl : lv_has ls 7 [(0, .ref ((ad 0))), (2, .int w2), (3, .int w3), (4, .int w4)]) (hf : qb_X7_put_148 k101 w2 w3 w4 s0 M = some o) : W p l e rm_X7_put s m args below meth c H locs 0 0 Q (F0 m 148 ls [.int s0]) := by
  have hx := cx.1.1
  have hb := cx.1.2.1
  refine lv_istore (lv' := [(5, .int s0), (0, .ref ((ad 0))), (2, .int w2), (3, .int w3), (4, .int w4)]) hx hb dX7_put_148 hl (Nat.le_of_ble_eq_true rfl) rfl (fun ls hl => ?_)
  refine lv_iconst (v := 0) hx hb dX7_put_150 ic_0 ?_
  refine lv_istore (lv' := [(6, .int 0), (5, .int s0), (0, .ref ((ad 0))), (2, .int w2), (3, .int w3), (4, .int w4)]) hx hb dX7_put_151 hl (Nat.le_of_ble_eq_true rfl) rfl (fun ls hl => ?_)
  exact (qk_X7_put_153 cx hret (qk_X7_put_206 cx hret h101) rx_FU) hw (lv_sub hl [2, 3, 4, 5, 1, 0] rfl) hf
set_option maxRecDepth 100000 in
set_option maxHeartbeats 4000000 in
theorem qk_X7_put_101 (cx : rx_C p m c cX7_put 7 s args wX7_put RX7 D vwCl (tY cI cL) [] wN A) (hret : rx_RI p l e rm_X7_put s m args below meth c cX7_put D vwCl (wY ad cI cL) A Q o) {w2 : Int32} {k212 : Int32 → Me → Op} (h212 : ∀ {a3 : Int32} {ls : Array Slot} {H : Heap} {locs : List Loc} {M : Me}, rx_W D vwCl (wY ad cI cL) A s.heap M H locs → lv_has ls 7 [(0, .ref ((ad 0))), (3, .int a3)] → k212 a3 M = some o → W p l e rm_X7_put s m args below meth c H locs 0 0 Q (F0 m 212 ls [])) : ∀ (n : Nat) {w3 : Int32} {w4 : Int32} {ls : Array Slot} {H : Heap} {locs : List Loc} {M : Me}, rx_W D vwCl (wY ad cI cL) A s.heap M H locs → lv_has ls 7 [(0, .ref ((ad 0))), (2, .int w2), (3, .int w3), (4, .int w4)] → rx_lp2 (qo_X7_put_101 k212 w2) n w3 w4 M = some o → W p l e rm_X7_put s m args below meth c H locs 0 0 Q (F0 m 101 ls []) := by
  have hx := cx.1.1
  have hb := cx.1.2.1
  intro n
  induction n with
  | zero => intro w3 w4 ls H locs M hw hl hf; exact rx_no hf
  | succ n ih =>
    intro w3 w4 ls H locs M hw hl hf
    have hf : qo_X7_put_101 k212 w2 (rx_lp2 (qo_X7_put_101 k212 w2) n) w3 w4 M = some o := hf
    refine lv_iload hx hb dX7_put_101 (lv_at hl 3 rfl) ?_
    refine lv_bipush (v := 9) hx hb dX7_put_103 ib_9 ?_
    refine lv_icmp_ge hx hb dX7_put_105 rfl (fun hc => ?_) (fun hc => ?_)
    · have hf := rx_t hc hf
      exact h212 hw (lv_sub hl [0, 2] rfl) hf
    · have hf := rx_f hc hf
      refine lv_iload hx hb dX7_put_108 (lv_at hl 3 rfl) ?_
      refine lv_iconst (v := 4) hx hb dX7_put_110 ic_4 ?_
      refine lv_icmp_ne hx hb dX7_put_111 rfl (fun hc => ?_) (fun hc => ?_)
      · have hf := rx_f hc hf
        refine lv_aload_n hx hb dX7_put_118 rfl (lv_at hl 0 rfl) ?_
        refine lv_aload_n hx hb dX7_put_119 rfl (lv_at hl 0 rfl) ?_
        refine rx_getr cx hw (frY_0_10 ad cI cL) rfl (inT_X7) (Nat.le_of_ble_eq_true rfl) (.tail _ tw_671) dX7_put_120 ?_
        refine lv_iload_n hx hb dX7_put_123 rfl (lv_at hl 1 rfl) ?_
        obtain ⟨hv1, v1, ev1, hf⟩ := rx_ldI hf
        refine rx_iald cx hw (arY_6 ad cI cL) ⟨hv1, ev1⟩ dX7_put_124 ?_
        refine lv_iload hx hb dX7_put_125 (lv_at hl 3 rfl) ?_
        refine lv_iconst (v := 3) hx hb dX7_put_127 ic_3 ?_
        refine lv_irem hx hb dX7_put_128 nz_3 ?_
        refine lv_iadd hx hb dX7_put_129 ?_
        refine lv_iconst (v := 1) hx hb dX7_put_130 ic_1 ?_
        refine lv_isub hx hb dX7_put_131 ?_
        refine lv_aload_n hx hb dX7_put_132 rfl (lv_at hl 0 rfl) ?_
        refine rx_getr cx hw (frY_0_11 ad cI cL) rfl (inT_X7) (Nat.le_of_ble_eq_true rfl) (.tail _ tw_672) dX7_put_133 ?_
        refine lv_iload_n hx hb dX7_put_136 rfl (lv_at hl 1 rfl) ?_
        obtain ⟨hv2, v2, ev2, hf⟩ := rx_ldI hf
        refine rx_iald cx hw (arY_7 ad cI cL) ⟨hv2, ev2⟩ dX7_put_137 ?_
        refine lv_iload hx hb dX7_put_138 (lv_at hl 3 rfl) ?_
        refine lv_iconst (v := 3) hx hb dX7_put_140 ic_3 ?_
        refine lv_idiv hx hb dX7_put_141 nz_3 ?_
        refine lv_iadd hx hb dX7_put_142 ?_
        refine lv_iconst (v := 1) hx hb dX7_put_143 ic_1 ?_
        refine lv_isub hx hb dX7_put_144 ?_
        obtain ⟨r3, M4, er3, hf⟩ := rx_clI hf
        refine rx_jVi cx hw (qc_X7_tileAt l D ad cI cL ((v1 + (w4 - w4 / 3 * 3)) - 1) ((v2 + (w4 / 3)) - 1)) (obY_0 ad cI cL) rfl rfl kfX7_tileAt tw_814 ⟨Nat.le_of_ble_eq_true rfl, Nat.le_of_ble_eq_true rfl, rfl, rfl⟩ rfl hl.1 (Nat.le_of_ble_eq_true rfl) ⟨Nat.zero_le _, Nat.zero_le _⟩ dX7_put_145 rfl er3 (fun H locs hw => ?_)
        exact (qk_X7_put_148 cx hret ih) hw hl hf
      · have hf := rx_t hc hf
        refine lv_iconst (v := (-1)) hx hb dX7_put_114 ic_m1 ?_
        refine lv_goto hx hb dX7_put_115 rfl ?_
        exact (qk_X7_put_148 cx hret ih) hw hl hf
set_option maxRecDepth 100000 in
set_option maxHeartbeats 4000000 in
theorem qk_X7_put_241 (cx : rx_C p m c cX7_put 7 s args wX7_put RX7 D vwCl (tY cI cL) [] wN A) (hret : rx_RI p l e rm_X7_put s m args below meth c cX7_put D vwCl (wY ad cI cL) A Q o) {w3 : Int32} {s0 : Int32} {ls : Array Slot} {H : Heap} {locs : List Loc} {M : Me} (hw : rx_W D vwCl (wY ad cI cL) A s.heap M H locs) (hl : lv_has ls 7 [(0, .ref ((ad 0))), (3, .int w3)]) (hf : qb_X7_put_241 w3 s0 M = some o) : W p l e rm_X7_put s m args below meth c H locs 0 0 Q (F0 m 241 ls [.int s0, .ref ((ad 0))]) := by
  have hx := cx.1.1
  have hb := cx.1.2.1
  obtain ⟨M1, eM1, hf⟩ := rx_vvI hf
  refine rx_puti cx hw (fiY_0_18 ad cI cL) rfl (inT_X7) tyX7 tyX7_ok nmX7 (Nat.le_of_ble_eq_true rfl) (.tail _ tw_679) rfl rfl rfl eM1 dX7_put_241 (fun H locs hw => ?_)
  refine lv_aload_n hx hb dX7_put_244 rfl (lv_at hl 0 rfl) ?_
  obtain ⟨r2, M3, er2, hf⟩ := rx_clI hf
  refine rx_jVv cx hw (qc_X7_drawNext l D ad cI cL) (obY_0 ad cI cL) rfl rfl kfX7_drawNext tw_799 ⟨Nat.le_of_ble_eq_true rfl, Nat.le_of_ble_eq_true rfl, rfl, rfl⟩ rfl hl.1 (Nat.le_of_ble_eq_true rfl) ⟨Nat.zero_le _, Nat.zero_le _⟩ dX7_put_245 rfl er2 (fun H locs hw => ?_)
  refine lv_iload_n hx hb dX7_put_248 rfl (lv_at hl 1 rfl) ?_
  exact rx_reti hret hw hf dX7_put_249
set_option maxRecDepth 100000 in
set_option maxHeartbeats 4000000 in
theorem qk_X7_put_212 (cx : rx_C p m c cX7_put 7 s args wX7_put RX7 D vwCl (tY cI cL) [] wN A) (hret : rx_RI p l e rm_X7_put s m args below meth c cX7_put D vwCl (wY ad cI cL) A Q o) {w3 : Int32} {ls : Array Slot} {H : Heap} {locs : List Loc} {M : Me} (hw : rx_W D vwCl (wY ad cI cL) A s.heap M H locs) (hl : lv_has ls 7 [(0, .ref ((ad 0))), (3, .int w3)]) (hf : qb_X7_put_212 w3 M = some o) : W p l e rm_X7_put s m args below meth c H locs 0 0 Q (F0 m 212 ls []) := by
  have hx := cx.1.1
  have hb := cx.1.2.1
  refine lv_aload_n hx hb dX7_put_212 rfl (lv_at hl 0 rfl) ?_
  refine lv_iconst (v := 0) hx hb dX7_put_213 ic_0 ?_
  obtain ⟨M1, eM1, hf⟩ := rx_vvI hf
  refine rx_puti cx hw (fiY_0_22 ad cI cL) rfl (inT_X7) tyX7 tyX7_ok nmX7 (Nat.le_of_ble_eq_true rfl) (.tail _ tw_683) rfl rfl rfl eM1 dX7_put_214 (fun H locs hw => ?_)
  refine lv_aload_n hx hb dX7_put_217 rfl (lv_at hl 0 rfl) ?_
  refine lv_aload_n hx hb dX7_put_218 rfl (lv_at hl 0 rfl) ?_
  obtain ⟨v2, ev2, hf⟩ := rx_vvI hf
  refine rx_geti cx hw (fiY_0_18 ad cI cL) rfl (inT_X7) (Nat.le_of_ble_eq_true rfl) (.tail _ tw_679) ev2 dX7_put_219 ?_
  refine lv_iconst (v := 1) hx hb dX7_put_222 ic_1 ?_
  refine lv_iadd hx hb dX7_put_223 ?_
  refine lv_aload_n hx hb dX7_put_224 rfl (lv_at hl 0 rfl) ?_
  obtain ⟨v3, ev3, hf⟩ := rx_vvI hf
  refine rx_geti cx hw (fiY_0_8 ad cI cL) rfl (inT_X7) (Nat.le_of_ble_eq_true rfl) (.tail _ tw_669) ev3 dX7_put_225 ?_
  refine lv_icmp_ne hx hb dX7_put_228 rfl (fun hc => ?_) (fun hc => ?_)
  · have hf := rx_f hc hf
    refine lv_aload_n hx hb dX7_put_235 rfl (lv_at hl 0 rfl) ?_
    obtain ⟨v4, ev4, hf⟩ := rx_vvI hf
    refine rx_geti cx hw (fiY_0_18 ad cI cL) rfl (inT_X7) (Nat.le_of_ble_eq_true rfl) (.tail _ tw_679) ev4 dX7_put_236 ?_
    refine lv_iconst (v := 1) hx hb dX7_put_239 ic_1 ?_
    refine lv_iadd hx hb dX7_put_240 ?_
    exact (qk_X7_put_241 cx hret) hw hl hf
  · have hf := rx_t hc hf
    refine lv_iconst (v := 0) hx hb dX7_put_231 ic_0 ?_
    refine lv_goto hx hb dX7_put_232 rfl ?_
    exact (qk_X7_put_241 cx hret) hw hl hf
set_option maxRecDepth 100000 in
set_option maxHeartbeats 4000000 in
theorem qk_X7_put_98 (cx : rx_C p m c cX7_put 7 s args wX7_put RX7 D vwCl (tY cI cL) [] wN A) (hret : rx_RI p l e rm_X7_put s m args below meth c cX7_put D vwCl (wY ad cI cL) A Q o) {w2 : Int32} {w3 : Int32} {ls : Array Slot} {H : Heap} {locs : List Loc} {M : Me} (hw : rx_W D vwCl (wY ad cI cL) A s.heap M H locs) (hl : lv_has ls 7 [(0, .ref ((ad 0))), (2, .int w2), (3, .int w3)]) (hf : qb_X7_put_98 w2 w3 M = some o) : W p l e rm_X7_put s m args below meth c H locs 0 0 Q (F0 m 98 ls []) := by
  have hx := cx.1.1
  have hb := cx.1.2.1
  refine lv_iconst (v := 0) hx hb dX7_put_98 ic_0 ?_
  refine lv_istore (lv' := [(4, .int 0), (0, .ref ((ad 0))), (2, .int w2), (3, .int w3)]) hx hb dX7_put_99 hl (Nat.le_of_ble_eq_true rfl) rfl (fun ls hl => ?_)
  exact (qk_X7_put_101 cx hret (qk_X7_put_212 cx hret) rx_FU) hw (lv_sub hl [1, 2, 3, 0] rfl) hf
set_option maxRecDepth 100000 in
set_option maxHeartbeats 4000000 in
theorem qk_X7_put_43 (cx : rx_C p m c cX7_put 7 s args wX7_put RX7 D vwCl (tY cI cL) [] wN A) (hret : rx_RI p l e rm_X7_put s m args below meth c cX7_put D vwCl (wY ad cI cL) A Q o) {w2 : Int32} {ls : Array Slot} {H : Heap} {locs : List Loc} {M : Me} (hw : rx_W D vwCl (wY ad cI cL) A s.heap M H locs) (hl : lv_has ls 7 [(0, .ref ((ad 0))), (2, .int w2)]) (hf : qb_X7_put_43 w2 M = some o) : W p l e rm_X7_put s m args below meth c H locs 0 0 Q (F0 m 43 ls []) := by
  have hx := cx.1.1
  have hb := cx.1.2.1
  refine lv_iconst (v := 0) hx hb dX7_put_43 ic_0 ?_
  refine lv_istore_n (lv' := [(3, .int 0), (0, .ref ((ad 0))), (2, .int w2)]) hx hb dX7_put_44 rfl hl (Nat.le_of_ble_eq_true rfl) rfl (fun ls hl => ?_)
  refine lv_iconst (v := 0) hx hb dX7_put_45 ic_0 ?_
  refine lv_istore (lv' := [(4, .int 0), (3, .int 0), (0, .ref ((ad 0))), (2, .int w2)]) hx hb dX7_put_46 hl (Nat.le_of_ble_eq_true rfl) rfl (fun ls hl => ?_)
  exact (qk_X7_put_48 cx hret (qk_X7_put_98 cx hret) rx_FU) hw (lv_sub hl [2, 3, 1, 0] rfl) hf
set_option maxRecDepth 100000 in
set_option maxHeartbeats 4000000 in
theorem qk_X7_put_0 (cx : rx_C p m c cX7_put 7 s args wX7_put RX7 D vwCl (tY cI cL) [] wN A) (hret : rx_RI p l e rm_X7_put s m args below meth c cX7_put D vwCl (wY ad cI cL) A Q o) {w1 : Int32} {ls : Array Slot} {H : Heap} {locs : List Loc} {M : Me} (hw : rx_W D vwCl (wY ad cI cL) A s.heap M H locs) (hl : lv_has ls 7 [(0, .ref ((ad 0))), (1, .int w1)]) (hf : qf_X7_put w1 M = some o) : W p l e rm_X7_put s m args below meth c H locs 0 0 Q (F0 m 0 ls []) := by
  have hx := cx.1.1
  have hb := cx.1.2.1
  refine lv_aload_n hx hb dX7_put_0 rfl (lv_at hl 0 rfl) ?_
  obtain ⟨v1, ev1, hf⟩ := rx_vvI hf
  refine rx_geti cx hw (fiY_0_9 ad cI cL) rfl (inT_X7) (Nat.le_of_ble_eq_true rfl) (.tail _ tw_670) ev1 dX7_put_1 ?_
  refine lv_iconst (v := 1) hx hb dX7_put_4 ic_1 ?_
  refine lv_isub hx hb dX7_put_5 ?_
  obtain ⟨v2, ev2, hf⟩ := rx_vvI hf
  refine rx_top ev2 ?_
  refine lv_istore_n (lv' := [(2, .int v2), (0, .ref ((ad 0))), (1, .int w1)]) hx hb dX7_put_6 rfl hl (Nat.le_of_ble_eq_true rfl) rfl (fun ls hl => ?_)
  refine lv_aload_n hx hb dX7_put_7 rfl (lv_at hl 1 rfl) ?_
  obtain ⟨r3, M4, er3, hf⟩ := rx_clI hf
  refine rx_jVv cx hw (qc_X7_giveLabels l D ad cI cL) (obY_0 ad cI cL) rfl rfl kfX7_giveLabels tw_877 ⟨Nat.le_of_ble_eq_true rfl, Nat.le_of_ble_eq_true rfl, rfl, rfl⟩ rfl hl.1 (Nat.le_of_ble_eq_true rfl) ⟨Nat.zero_le _, Nat.zero_le _⟩ dX7_put_8 rfl er3 (fun H locs hw => ?_)
  refine lv_iload_n hx hb dX7_put_11 rfl (lv_at hl 2 rfl) ?_
  refine lv_if_lt hx hb dX7_put_12 rfl (fun hc => ?_) (fun hc => ?_)
  · have hf := rx_t hc hf
    exact (qk_X7_put_43 cx hret) hw (lv_sub hl [1, 0] rfl) hf
  · have hf := rx_f hc hf
    refine lv_aload_n hx hb dX7_put_15 rfl (lv_at hl 1 rfl) ?_
    refine rx_getr cx hw (frY_0_15 ad cI cL) rfl (inT_X7) (Nat.le_of_ble_eq_true rfl) (.tail _ tw_676) dX7_put_16 ?_
    refine lv_bipush (v := 8) hx hb dX7_put_19 ib_8 ?_
    refine lv_iload_n hx hb dX7_put_21 rfl (lv_at hl 0 rfl) ?_
    refine lv_imul hx hb dX7_put_22 ?_
    refine lv_iload_n hx hb dX7_put_23 rfl (lv_at hl 2 rfl) ?_
    refine lv_iadd hx hb dX7_put_24 ?_
    refine lv_aload_n hx hb dX7_put_25 rfl (lv_at hl 1 rfl) ?_
    obtain ⟨v5, ev5, hf⟩ := rx_vvI hf
    refine rx_geti cx hw (fiY_0_18 ad cI cL) rfl (inT_X7) (Nat.le_of_ble_eq_true rfl) (.tail _ tw_679) ev5 dX7_put_26 ?_
    obtain ⟨hM6, M6, eM6, hf⟩ := rx_svI hf
    refine rx_iast cx hw (arY_11 ad cI cL) ⟨hM6, eM6⟩ dX7_put_29 (fun H locs hw => ?_)
    refine lv_aload_n hx hb dX7_put_30 rfl (lv_at hl 1 rfl) ?_
    refine rx_getr cx hw (frY_0_17 ad cI cL) rfl (inT_X7) (Nat.le_of_ble_eq_true rfl) (.tail _ tw_678) dX7_put_31 ?_
    refine lv_aload_n hx hb dX7_put_34 rfl (lv_at hl 1 rfl) ?_
    obtain ⟨v7, ev7, hf⟩ := rx_vvI hf
    refine rx_geti cx hw (fiY_0_18 ad cI cL) rfl (inT_X7) (Nat.le_of_ble_eq_true rfl) (.tail _ tw_679) ev7 dX7_put_35 ?_
    refine lv_dup2_11 hx hb dX7_put_38 rfl rfl ?_
    obtain ⟨hv8, v8, ev8, hf⟩ := rx_ldI hf
    refine rx_iald cx hw (arY_13 ad cI cL) ⟨hv8, ev8⟩ dX7_put_39 ?_
    refine lv_iconst (v := 1) hx hb dX7_put_40 ic_1 ?_
    refine lv_isub hx hb dX7_put_41 ?_
    obtain ⟨hM9, M9, eM9, hf⟩ := rx_svI hf
    refine rx_iast cx hw (arY_13 ad cI cL) ⟨hM9, eM9⟩ dX7_put_42 (fun H locs hw => ?_)
    exact (qk_X7_put_43 cx hret) hw (lv_sub hl [1, 0] rfl) hf
end
set_option maxRecDepth 100000 in
theorem qc_X7_put (l : Launch) (D : va_G) (ad : Nat → Nat) (cI cL : ClassId) (w1 : Int32) : rx_MI l yX7_put wX7_put rm_X7_put D vwCl (wY ad cI cL) (tY cI cL) [] wN [.ref (ad 0), .int w1] (fun M => qf_X7_put w1 M) :=
  rx_ofI (by decide) rfl wN_ok (Nat.le_of_ble_eq_true rfl) (fun _ _ _ _ _ _ _ _ _ _ _ _ _ cx hret hw hl hf => qk_X7_put_0 cx hret hw hl hf)
def rm_X7_mayFollow : Room := { frames := 4, cells := 0, slots := 0, locals := 93 }
noncomputable def qf_X7_mayFollow  (w1 : Int32)  (M : Me) : Op :=
  rx_vv (M 0 9) fun v1 => rx_vv ((8 * (v1 - 1)) + w1) fun v2 => if w1 < 0 then (rx_zb 0 (some (0, M))) else (if 7 < w1 then (rx_zb 0 (some (0, M))) else (rx_cl (qf_X7_kindOfPiece v2 M) fun r3 M4 => if r3 = 0 then (rx_zb 0 (some (0, M4))) else (rx_vv (M4 0 18) fun v5 => rx_ld M4 13 3 v5 fun v6 => if v6 = 0 then (rx_zb 0 (some (0, M4))) else (rx_cl (qf_X7_giveLabels M4) fun r7 M8 => rx_ld M8 15 192 v2 fun v9 => rx_cl (qf_X7_hasFollowers v9 M8) fun r10 M11 => if r10 = 0 then (rx_zb 1 (some (1, M11))) else (rx_zb 0 (some (0, M11)))))))
section
variable {p : Program} {l : Launch} {e : Env} {s : State} {m : MethodId} {args : Array Value} {below : List Frame} {meth : Method} {c : Code} {Q : State → Prop} {D : va_G} {A : Nat → Prop} {o : Int32 × Me} {ad : Nat → Nat} {cI cL : ClassId} {b1 b2 : Nat}
set_option maxRecDepth 100000 in
set_option maxHeartbeats 4000000 in
theorem qk_X7_mayFollow_0 (cx : rx_C p m c cX7_mayFollow 3 s args wX7_mayFollow RX7 D vwCl (tY cI cL) [] wN A) (hret : rx_RZ p l e rm_X7_mayFollow s m args below meth c cX7_mayFollow D vwCl (wY ad cI cL) A Q o) {w1 : Int32} {ls : Array Slot} {H : Heap} {locs : List Loc} {M : Me} (hw : rx_W D vwCl (wY ad cI cL) A s.heap M H locs) (hl : lv_has ls 3 [(0, .ref ((ad 0))), (1, .int w1)]) (hf : qf_X7_mayFollow w1 M = some o) : W p l e rm_X7_mayFollow s m args below meth c H locs 0 0 Q (F0 m 0 ls []) := by
  have hx := cx.1.1
  have hb := cx.1.2.1
  refine lv_bipush (v := 8) hx hb dX7_mayFollow_0 ib_8 ?_
  refine lv_aload_n hx hb dX7_mayFollow_2 rfl (lv_at hl 0 rfl) ?_
  obtain ⟨v1, ev1, hf⟩ := rx_vvI hf
  refine rx_geti cx hw (fiY_0_9 ad cI cL) rfl (inT_X7) (Nat.le_of_ble_eq_true rfl) (.tail _ tw_670) ev1 dX7_mayFollow_3 ?_
  refine lv_iconst (v := 1) hx hb dX7_mayFollow_6 ic_1 ?_
  refine lv_isub hx hb dX7_mayFollow_7 ?_
  refine lv_imul hx hb dX7_mayFollow_8 ?_
  refine lv_iload_n hx hb dX7_mayFollow_9 rfl (lv_at hl 1 rfl) ?_
  refine lv_iadd hx hb dX7_mayFollow_10 ?_
  obtain ⟨v2, ev2, hf⟩ := rx_vvI hf
  refine rx_top ev2 ?_
  refine lv_istore_n (lv' := [(2, .int v2), (0, .ref ((ad 0))), (1, .int w1)]) hx hb dX7_mayFollow_11 rfl hl (Nat.le_of_ble_eq_true rfl) rfl (fun ls hl => ?_)
  refine lv_iload_n hx hb dX7_mayFollow_12 rfl (lv_at hl 2 rfl) ?_
  refine lv_if_lt hx hb dX7_mayFollow_13 rfl (fun hc => ?_) (fun hc => ?_)
  · have hf := rx_t hc hf
    refine lv_iconst (v := 0) hx hb dX7_mayFollow_42 ic_0 ?_
    exact rx_retz hret hw hf dX7_mayFollow_43
  · have hf := rx_f hc hf
    refine lv_iload_n hx hb dX7_mayFollow_16 rfl (lv_at hl 2 rfl) ?_
    refine lv_bipush (v := 7) hx hb dX7_mayFollow_17 ib_7 ?_
    refine lv_icmp_gt hx hb dX7_mayFollow_19 rfl (fun hc => ?_) (fun hc => ?_)
    · have hf := rx_t hc hf
      refine lv_iconst (v := 0) hx hb dX7_mayFollow_42 ic_0 ?_
      exact rx_retz hret hw hf dX7_mayFollow_43
    · have hf := rx_f hc hf
      refine lv_aload_n hx hb dX7_mayFollow_22 rfl (lv_at hl 1 rfl) ?_
      refine lv_iload_n hx hb dX7_mayFollow_23 rfl (lv_at hl 0 rfl) ?_
      obtain ⟨r3, M4, er3, hf⟩ := rx_clI hf
      refine rx_jVi cx hw (qc_X7_kindOfPiece l D ad cI cL v2) (obY_0 ad cI cL) rfl rfl kfX7_kindOfPiece tw_873 ⟨Nat.le_of_ble_eq_true rfl, Nat.le_of_ble_eq_true rfl, rfl, rfl⟩ rfl hl.1 (Nat.le_of_ble_eq_true rfl) ⟨Nat.zero_le _, Nat.zero_le _⟩ dX7_mayFollow_24 rfl er3 (fun H locs hw => ?_)
      refine lv_if_eq hx hb dX7_mayFollow_27 rfl (fun hc => ?_) (fun hc => ?_)
      · have hf := rx_t hc hf
        refine lv_iconst (v := 0) hx hb dX7_mayFollow_42 ic_0 ?_
        exact rx_retz hret hw hf dX7_mayFollow_43
      · have hf := rx_f hc hf
        refine lv_aload_n hx hb dX7_mayFollow_30 rfl (lv_at hl 1 rfl) ?_
        refine rx_getr cx hw (frY_0_17 ad cI cL) rfl (inT_X7) (Nat.le_of_ble_eq_true rfl) (.tail _ tw_678) dX7_mayFollow_31 ?_
        refine lv_aload_n hx hb dX7_mayFollow_34 rfl (lv_at hl 1 rfl) ?_
        obtain ⟨v5, ev5, hf⟩ := rx_vvI hf
        refine rx_geti cx hw (fiY_0_18 ad cI cL) rfl (inT_X7) (Nat.le_of_ble_eq_true rfl) (.tail _ tw_679) ev5 dX7_mayFollow_35 ?_
        obtain ⟨hv6, v6, ev6, hf⟩ := rx_ldI hf
        refine rx_iald cx hw (arY_13 ad cI cL) ⟨hv6, ev6⟩ dX7_mayFollow_38 ?_
        refine lv_if_ne hx hb dX7_mayFollow_39 rfl (fun hc => ?_) (fun hc => ?_)
        · have hf := rx_f hc hf
          refine lv_aload_n hx hb dX7_mayFollow_44 rfl (lv_at hl 1 rfl) ?_
          obtain ⟨r7, M8, er7, hf⟩ := rx_clI hf
          refine rx_jVv cx hw (qc_X7_giveLabels l D ad cI cL) (obY_0 ad cI cL) rfl rfl kfX7_giveLabels tw_877 ⟨Nat.le_of_ble_eq_true rfl, Nat.le_of_ble_eq_true rfl, rfl, rfl⟩ rfl hl.1 (Nat.le_of_ble_eq_true rfl) ⟨Nat.zero_le _, Nat.zero_le _⟩ dX7_mayFollow_45 rfl er7 (fun H locs hw => ?_)
          refine lv_aload_n hx hb dX7_mayFollow_48 rfl (lv_at hl 1 rfl) ?_
          refine lv_aload_n hx hb dX7_mayFollow_49 rfl (lv_at hl 1 rfl) ?_
          refine rx_getr cx hw (frY_0_25 ad cI cL) rfl (inT_X7) (Nat.le_of_ble_eq_true rfl) (.tail _ tw_686) dX7_mayFollow_50 ?_
          refine lv_iload_n hx hb dX7_mayFollow_53 rfl (lv_at hl 0 rfl) ?_
          obtain ⟨hv9, v9, ev9, hf⟩ := rx_ldI hf
          refine rx_iald cx hw (arY_15 ad cI cL) ⟨hv9, ev9⟩ dX7_mayFollow_54 ?_
          obtain ⟨r10, M11, er10, hf⟩ := rx_clI hf
          refine rx_jVi cx hw (qc_X7_hasFollowers l D ad cI cL v9) (obY_0 ad cI cL) rfl rfl kfX7_hasFollowers tw_881 ⟨Nat.le_of_ble_eq_true rfl, Nat.le_of_ble_eq_true rfl, rfl, rfl⟩ rfl hl.1 (Nat.le_of_ble_eq_true rfl) ⟨Nat.zero_le _, Nat.zero_le _⟩ dX7_mayFollow_55 rfl er10 (fun H locs hw => ?_)
          refine lv_if_ne hx hb dX7_mayFollow_58 rfl (fun hc => ?_) (fun hc => ?_)
          · have hf := rx_f hc hf
            refine lv_iconst (v := 0) hx hb dX7_mayFollow_65 ic_0 ?_
            exact rx_retz hret hw hf dX7_mayFollow_66
          · have hf := rx_t hc hf
            refine lv_iconst (v := 1) hx hb dX7_mayFollow_61 ic_1 ?_
            refine lv_goto hx hb dX7_mayFollow_62 rfl ?_
            exact rx_retz hret hw hf dX7_mayFollow_66
        · have hf := rx_t hc hf
          refine lv_iconst (v := 0) hx hb dX7_mayFollow_42 ic_0 ?_
          exact rx_retz hret hw hf dX7_mayFollow_43
end
set_option maxRecDepth 100000 in
theorem qc_X7_mayFollow (l : Launch) (D : va_G) (ad : Nat → Nat) (cI cL : ClassId) (w1 : Int32) : rx_MI l yX7_mayFollow wX7_mayFollow rm_X7_mayFollow D vwCl (wY ad cI cL) (tY cI cL) [] wN [.ref (ad 0), .int w1] (fun M => qf_X7_mayFollow w1 M) :=
  rx_ofZ (by decide) rfl wN_ok (Nat.le_of_ble_eq_true rfl) (fun _ _ _ _ _ _ _ _ _ _ _ _ _ cx hret hw hl hf => qk_X7_mayFollow_0 cx hret hw hl hf)
def rm_X7_follow : Room := { frames := 7, cells := 0, slots := 0, locals := 166 }
noncomputable def qb_X7_follow_30  (w1 : Int32)  (M : Me) : Op :=
  rx_cl (qf_X7_note 0 w1 0 0 M) fun r1 M2 => rx_cl (qf_X7_put w1 M2) fun r3 M4 => some (r3, M4)
noncomputable def qf_X7_follow  (w1 : Int32)  (M : Me) : Op :=
  rx_vv (M 0 7) fun v1 => if v1 = 0 then (some ((-2), M)) else (rx_vv (M 0 22) fun v2 => if v2 = 0 then (some ((-2), M)) else (if w1 = (-1) then (qb_X7_follow_30 w1 M) else (rx_cl (qf_X7_mayFollow w1 M) fun r3 M4 => if r3 = 0 then (some ((-2), M4)) else (qb_X7_follow_30 w1 M4))))
section
variable {p : Program} {l : Launch} {e : Env} {s : State} {m : MethodId} {args : Array Value} {below : List Frame} {meth : Method} {c : Code} {Q : State → Prop} {D : va_G} {A : Nat → Prop} {o : Int32 × Me} {ad : Nat → Nat} {cI cL : ClassId} {b1 b2 : Nat}
set_option maxRecDepth 100000 in
set_option maxHeartbeats 4000000 in
theorem qk_X7_follow_30 (cx : rx_C p m c cX7_follow 2 s args wX7_follow RX7 D vwCl (tY cI cL) [] wN A) (hret : rx_RI p l e rm_X7_follow s m args below meth c cX7_follow D vwCl (wY ad cI cL) A Q o) {w1 : Int32} {ls : Array Slot} {H : Heap} {locs : List Loc} {M : Me} (hw : rx_W D vwCl (wY ad cI cL) A s.heap M H locs) (hl : lv_has ls 2 [(0, .ref ((ad 0))), (1, .int w1)]) (hf : qb_X7_follow_30 w1 M = some o) : W p l e rm_X7_follow s m args below meth c H locs 0 0 Q (F0 m 30 ls []) := by
  have hx := cx.1.1
  have hb := cx.1.2.1
  refine lv_aload_n hx hb dX7_follow_30 rfl (lv_at hl 0 rfl) ?_
  refine lv_iconst (v := 0) hx hb dX7_follow_31 ic_0 ?_
  refine lv_iload_n hx hb dX7_follow_32 rfl (lv_at hl 1 rfl) ?_
  refine lv_iconst (v := 0) hx hb dX7_follow_33 ic_0 ?_
  refine lv_iconst (v := 0) hx hb dX7_follow_34 ic_0 ?_
  obtain ⟨r1, M2, er1, hf⟩ := rx_clI hf
  refine rx_jVv cx hw (qc_X7_note l D ad cI cL 0 w1 0 0) (obY_0 ad cI cL) rfl rfl kfX7_note tw_861 ⟨Nat.le_of_ble_eq_true rfl, Nat.le_of_ble_eq_true rfl, rfl, rfl⟩ rfl hl.1 (Nat.le_of_ble_eq_true rfl) ⟨Nat.zero_le _, Nat.zero_le _⟩ dX7_follow_35 rfl er1 (fun H locs hw => ?_)
  refine lv_aload_n hx hb dX7_follow_38 rfl (lv_at hl 0 rfl) ?_
  refine lv_iload_n hx hb dX7_follow_39 rfl (lv_at hl 1 rfl) ?_
  obtain ⟨r3, M4, er3, hf⟩ := rx_clI hf
  refine rx_jVi cx hw (qc_X7_put l D ad cI cL w1) (obY_0 ad cI cL) rfl rfl kfX7_put tw_885 ⟨Nat.le_of_ble_eq_true rfl, Nat.le_of_ble_eq_true rfl, rfl, rfl⟩ rfl hl.1 (Nat.le_of_ble_eq_true rfl) ⟨Nat.zero_le _, Nat.zero_le _⟩ dX7_follow_40 rfl er3 (fun H locs hw => ?_)
  exact rx_reti hret hw hf dX7_follow_43
set_option maxRecDepth 100000 in
set_option maxHeartbeats 4000000 in
theorem qk_X7_follow_0 (cx : rx_C p m c cX7_follow 2 s args wX7_follow RX7 D vwCl (tY cI cL) [] wN A) (hret : rx_RI p l e rm_X7_follow s m args below meth c cX7_follow D vwCl (wY ad cI cL) A Q o) {w1 : Int32} {ls : Array Slot} {H : Heap} {locs : List Loc} {M : Me} (hw : rx_W D vwCl (wY ad cI cL) A s.heap M H locs) (hl : lv_has ls 2 [(0, .ref ((ad 0))), (1, .int w1)]) (hf : qf_X7_follow w1 M = some o) : W p l e rm_X7_follow s m args below meth c H locs 0 0 Q (F0 m 0 ls []) := by
  have hx := cx.1.1
  have hb := cx.1.2.1
  refine lv_aload_n hx hb dX7_follow_0 rfl (lv_at hl 0 rfl) ?_
  obtain ⟨v1, ev1, hf⟩ := rx_vvI hf
  refine rx_geti cx hw (fiY_0_7 ad cI cL) rfl (inT_X7) (Nat.le_of_ble_eq_true rfl) (.tail _ tw_668) ev1 dX7_follow_1 ?_
  refine lv_if_eq hx hb dX7_follow_4 rfl (fun hc => ?_) (fun hc => ?_)
  · have hf := rx_t hc hf
    refine lv_bipush (v := (-2)) hx hb dX7_follow_27 ib_m2 ?_
    exact rx_reti hret hw hf dX7_follow_29
  · have hf := rx_f hc hf
    refine lv_aload_n hx hb dX7_follow_7 rfl (lv_at hl 0 rfl) ?_
    obtain ⟨v2, ev2, hf⟩ := rx_vvI hf
    refine rx_geti cx hw (fiY_0_22 ad cI cL) rfl (inT_X7) (Nat.le_of_ble_eq_true rfl) (.tail _ tw_683) ev2 dX7_follow_8 ?_
    refine lv_if_eq hx hb dX7_follow_11 rfl (fun hc => ?_) (fun hc => ?_)
    · have hf := rx_t hc hf
      refine lv_bipush (v := (-2)) hx hb dX7_follow_27 ib_m2 ?_
      exact rx_reti hret hw hf dX7_follow_29
    · have hf := rx_f hc hf
      refine lv_iload_n hx hb dX7_follow_14 rfl (lv_at hl 1 rfl) ?_
      refine lv_iconst (v := (-1)) hx hb dX7_follow_15 ic_m1 ?_
      refine lv_icmp_eq hx hb dX7_follow_16 rfl (fun hc => ?_) (fun hc => ?_)
      · have hf := rx_t hc hf
        exact (qk_X7_follow_30 cx hret) hw hl hf
      · have hf := rx_f hc hf
        refine lv_aload_n hx hb dX7_follow_19 rfl (lv_at hl 0 rfl) ?_
        refine lv_iload_n hx hb dX7_follow_20 rfl (lv_at hl 1 rfl) ?_
        obtain ⟨r3, M4, er3, hf⟩ := rx_clI hf
        refine rx_jVi cx hw (qc_X7_mayFollow l D ad cI cL w1) (obY_0 ad cI cL) rfl rfl kfX7_mayFollow tw_869 ⟨Nat.le_of_ble_eq_true rfl, Nat.le_of_ble_eq_true rfl, rfl, rfl⟩ rfl hl.1 (Nat.le_of_ble_eq_true rfl) ⟨Nat.zero_le _, Nat.zero_le _⟩ dX7_follow_21 rfl er3 (fun H locs hw => ?_)
        refine lv_if_ne hx hb dX7_follow_24 rfl (fun hc => ?_) (fun hc => ?_)
        · have hf := rx_f hc hf
          exact (qk_X7_follow_30 cx hret) hw hl hf
        · have hf := rx_t hc hf
          refine lv_bipush (v := (-2)) hx hb dX7_follow_27 ib_m2 ?_
          exact rx_reti hret hw hf dX7_follow_29
end
set_option maxRecDepth 100000 in
theorem qc_X7_follow (l : Launch) (D : va_G) (ad : Nat → Nat) (cI cL : ClassId) (w1 : Int32) : rx_MI l yX7_follow wX7_follow rm_X7_follow D vwCl (wY ad cI cL) (tY cI cL) [] wN [.ref (ad 0), .int w1] (fun M => qf_X7_follow w1 M) :=
  rx_ofI (by decide) rfl wN_ok (Nat.le_of_ble_eq_true rfl) (fun _ _ _ _ _ _ _ _ _ _ _ _ _ cx hret hw hl hf => qk_X7_follow_0 cx hret hw hl hf)

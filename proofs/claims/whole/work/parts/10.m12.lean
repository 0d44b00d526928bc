def rm_X7_isFirst : Room := { frames := 1, cells := 0, slots := 0, locals := 24 }
noncomputable def qb_X7_isFirst_51 (k21 : Int32 → Int32 → Me → Op) (w1 : Int32) (w3 : Int32) (w5 : Int32) (s0 : Int32) (M : Me) : Op :=
  rx_vv (w5 + 1) fun v1 => k21 s0 v1 M
noncomputable def qo_X7_isFirst_21  (w1 : Int32) (w3 : Int32) (rec : Int32 → Int32 → Me → Op) (w4 : Int32) (w5 : Int32) (M : Me) : Op :=
  rx_vv (M 0 8) fun v1 => if v1 ≤ w5 then (rx_zb w4 (some (w4, M))) else (if w4 = 0 then (qb_X7_isFirst_51 rec w1 w3 w5 0 M) else (rx_cl (qf_X7_followersOf w1 w5 M) fun r2 M3 => if w3 < r2 then (qb_X7_isFirst_51 rec w1 w3 w5 0 M3) else (qb_X7_isFirst_51 rec w1 w3 w5 1 M3)))
noncomputable def qb_X7_isFirst_16  (w1 : Int32) (w3 : Int32) (s0 : Int32) (M : Me) : Op :=
  rx_lp2 (qo_X7_isFirst_21 w1 w3) rx_FU s0 0 M
noncomputable def qf_X7_isFirst  (w1 : Int32) (w2 : Int32)  (M : Me) : Op :=
  rx_cl (qf_X7_followersOf w1 w2 M) fun r1 M2 => if r1 ≤ 0 then (qb_X7_isFirst_16 w1 r1 0 M2) else (qb_X7_isFirst_16 w1 r1 1 M2)
section
variable {p : Program} {l : Launch} {e : Env} {s : State} {m : MethodId} {args : Array Value} {below : List Frame} {meth : Method} {c : Code} {Q : State → Prop} {D : va_G} {A : Nat → Prop} {o : Int32 × Me} {ad : Nat → Nat} {cI cL : ClassId} {b1 b2 : Nat}
set_option maxRecDepth 100000 in
set_option maxHeartbeats 4000000 in
theorem qk_X7_isFirst_51 (cx : rx_C p m c cX7_isFirst 6 s args wX7_isFirst RX7 D vwCl (tY cI cL) [] wN A) (hret : rx_RZ p l e rm_X7_isFirst s m args below meth c cX7_isFirst D vwCl (wY ad cI cL) A Q o) {w1 : Int32} {w3 : Int32} {w5 : Int32} {s0 : Int32} {k21 : Int32 → Int32 → Me → Op} (h21 : ∀ {a4 : Int32} {a5 : Int32} {ls : Array Slot} {H : Heap} {locs : List Loc} {M : Me}, rx_W D vwCl (wY ad cI cL) A s.heap M H locs → lv_has ls 6 [(0, .ref ((ad 0))), (1, .int w1), (3, .int w3), (4, .int a4), (5, .int a5)] → k21 a4 a5 M = some o → W p l e rm_X7_isFirst s m args below meth c H locs 0 0 Q (F0 m 21 ls [])) {ls : Array Slot} {H : Heap} {locs : List Loc} {M : Me} (hw : rx_W D vwCl (wY ad cI cL) A s.heap M H locs) (hl : lv_has ls 6 [(0, .ref ((ad 0))), (1, .int w1), (3, .int w3), (5, .int w5)]) (hf : qb_X7_isFirst_51 k21 w1 w3 w5 s0 M = some o) : W p l e rm_X7_isFirst s m args below meth c H locs 0 0 Q (F0 m 51 ls [.int s0]) := by
  have hx := cx.1.1
  have hb := cx.1.2.1
  refine lv_istore (lv' := [(4, .int s0), (0, .ref ((ad 0))), (1, .int w1), (3, .int w3), (5, .int w5)]) hx hb dX7_isFirst_51 hl (Nat.le_of_ble_eq_true rfl) rfl (fun ls hl => ?_)
  obtain ⟨v1, ev1, hf⟩ := rx_vvI hf
  refine lv_iinc (lv' := [(5, .int v1), (4, .int s0), (0, .ref ((ad 0))), (1, .int w1), (3, .int w3)]) hx hb dX7_isFirst_53 hl (k := 4) rfl (rx_inc ic_1 ev1) (Nat.le_of_ble_eq_true rfl) rfl (fun ls hl => ?_)
  refine lv_goto hx hb dX7_isFirst_56 rfl ?_
  exact h21 hw (lv_sub hl [2, 3, 4, 1, 0] rfl) hf
set_option maxRecDepth 100000 in
set_option maxHeartbeats 4000000 in
theorem qk_X7_isFirst_21 (cx : rx_C p m c cX7_isFirst 6 s args wX7_isFirst RX7 D vwCl (tY cI cL) [] wN A) (hret : rx_RZ p l e rm_X7_isFirst s m args below meth c cX7_isFirst D vwCl (wY ad cI cL) A Q o) {w1 : Int32} {w3 : Int32} : ∀ (n : Nat) {w4 : Int32} {w5 : Int32} {ls : Array Slot} {H : Heap} {locs : List Loc} {M : Me}, rx_W D vwCl (wY ad cI cL) A s.heap M H locs → lv_has ls 6 [(0, .ref ((ad 0))), (1, .int w1), (3, .int w3), (4, .int w4), (5, .int w5)] → rx_lp2 (qo_X7_isFirst_21 w1 w3) n w4 w5 M = some o → W p l e rm_X7_isFirst s m args below meth c H locs 0 0 Q (F0 m 21 ls []) := by
  have hx := cx.1.1
  have hb := cx.1.2.1
  intro n
  induction n with
  | zero => intro w4 w5 ls H locs M hw hl hf; exact rx_no hf
  | succ n ih =>
    intro w4 w5 ls H locs M hw hl hf
    have hf : qo_X7_isFirst_21 w1 w3 (rx_lp2 (qo_X7_isFirst_21 w1 w3) n) w4 w5 M = some o := hf
    refine lv_iload hx hb dX7_isFirst_21 (lv_at hl 4 rfl) ?_
    refine lv_aload_n hx hb dX7_isFirst_23 rfl (lv_at hl 0 rfl) ?_
    obtain ⟨v1, ev1, hf⟩ := rx_vvI hf
    refine rx_geti cx hw (fiY_0_8 ad cI cL) rfl (inT_X7) (Nat.le_of_ble_eq_true rfl) (.tail _ tw_669) ev1 dX7_isFirst_24 ?_
    refine lv_icmp_ge hx hb dX7_isFirst_27 rfl (fun hc => ?_) (fun hc => ?_)
    · have hf := rx_t hc hf
      refine lv_iload hx hb dX7_isFirst_59 (lv_at hl 3 rfl) ?_
      exact rx_retz hret hw hf dX7_isFirst_61
    · have hf := rx_f hc hf
      refine lv_iload hx hb dX7_isFirst_30 (lv_at hl 3 rfl) ?_
      refine lv_if_eq hx hb dX7_isFirst_32 rfl (fun hc => ?_) (fun hc => ?_)
      · have hf := rx_t hc hf
        refine lv_iconst (v := 0) hx hb dX7_isFirst_50 ic_0 ?_
        exact (qk_X7_isFirst_51 cx hret ih) hw (lv_sub hl [0, 1, 2, 4] rfl) hf
      · have hf := rx_f hc hf
        refine lv_aload_n hx hb dX7_isFirst_35 rfl (lv_at hl 0 rfl) ?_
        refine lv_iload_n hx hb dX7_isFirst_36 rfl (lv_at hl 1 rfl) ?_
        refine lv_iload hx hb dX7_isFirst_37 (lv_at hl 4 rfl) ?_
        obtain ⟨r2, M3, er2, hf⟩ := rx_clI hf
        refine rx_jVi cx hw (qc_X7_followersOf l D ad cI cL w1 w5) (obY_0 ad cI cL) rfl rfl kfX7_followersOf tw_917 ⟨Nat.le_of_ble_eq_true rfl, Nat.le_of_ble_eq_true rfl, rfl, rfl⟩ rfl hl.1 (Nat.le_of_ble_eq_true rfl) ⟨Nat.zero_le _, Nat.zero_le _⟩ dX7_isFirst_39 rfl er2 (fun H locs hw => ?_)
        refine lv_iload_n hx hb dX7_isFirst_42 rfl (lv_at hl 2 rfl) ?_
        refine lv_icmp_gt hx hb dX7_isFirst_43 rfl (fun hc => ?_) (fun hc => ?_)
        · have hf := rx_t hc hf
          refine lv_iconst (v := 0) hx hb dX7_isFirst_50 ic_0 ?_
          exact (qk_X7_isFirst_51 cx hret ih) hw (lv_sub hl [0, 1, 2, 4] rfl) hf
        · have hf := rx_f hc hf
          refine lv_iconst (v := 1) hx hb dX7_isFirst_46 ic_1 ?_
          refine lv_goto hx hb dX7_isFirst_47 rfl ?_
          exact (qk_X7_isFirst_51 cx hret ih) hw (lv_sub hl [0, 1, 2, 4] rfl) hf
set_option maxRecDepth 100000 in
set_option maxHeartbeats 4000000 in
theorem qk_X7_isFirst_16 (cx : rx_C p m c cX7_isFirst 6 s args wX7_isFirst RX7 D vwCl (tY cI cL) [] wN A) (hret : rx_RZ p l e rm_X7_isFirst s m args below meth c cX7_isFirst D vwCl (wY ad cI cL) A Q o) {w1 : Int32} {w3 : Int32} {s0 : Int32} {ls : Array Slot} {H : Heap} {locs : List Loc} {M : Me} (hw : rx_W D vwCl (wY ad cI cL) A s.heap M H locs) (hl : lv_has ls 6 [(0, .ref ((ad 0))), (1, .int w1), (3, .int w3)]) (hf : qb_X7_isFirst_16 w1 w3 s0 M = some o) : W p l e rm_X7_isFirst s m args below meth c H locs 0 0 Q (F0 m 16 ls [.int s0]) := by
  have hx := cx.1.1
  have hb := cx.1.2.1
  refine lv_istore (lv' := [(4, .int s0), (0, .ref ((ad 0))), (1, .int w1), (3, .int w3)]) hx hb dX7_isFirst_16 hl (Nat.le_of_ble_eq_true rfl) rfl (fun ls hl => ?_)
  refine lv_iconst (v := 0) hx hb dX7_isFirst_18 ic_0 ?_
  refine lv_istore (lv' := [(5, .int 0), (4, .int s0), (0, .ref ((ad 0))), (1, .int w1), (3, .int w3)]) hx hb dX7_isFirst_19 hl (Nat.le_of_ble_eq_true rfl) rfl (fun ls hl => ?_)
  exact (qk_X7_isFirst_21 cx hret rx_FU) hw (lv_sub hl [2, 3, 4, 1, 0] rfl) hf
set_option maxRecDepth 100000 in
set_option maxHeartbeats 4000000 in
theorem qk_X7_isFirst_0 (cx : rx_C p m c cX7_isFirst 6 s args wX7_isFirst RX7 D vwCl (tY cI cL) [] wN A) (hret : rx_RZ p l e rm_X7_isFirst s m args below meth c cX7_isFirst D vwCl (wY ad cI cL) A Q o) {w1 : Int32} {w2 : Int32} {ls : Array Slot} {H : Heap} {locs : List Loc} {M : Me} (hw : rx_W D vwCl (wY ad cI cL) A s.heap M H locs) (hl : lv_has ls 6 [(0, .ref ((ad 0))), (1, .int w1), (2, .int w2)]) (hf : qf_X7_isFirst w1 w2 M = some o) : W p l e rm_X7_isFirst s m args below meth c H locs 0 0 Q (F0 m 0 ls []) := by
  have hx := cx.1.1
  have hb := cx.1.2.1
  refine lv_aload_n hx hb dX7_isFirst_0 rfl (lv_at hl 0 rfl) ?_
  refine lv_iload_n hx hb dX7_isFirst_1 rfl (lv_at hl 1 rfl) ?_
  refine lv_iload_n hx hb dX7_isFirst_2 rfl (lv_at hl 2 rfl) ?_
  obtain ⟨r1, M2, er1, hf⟩ := rx_clI hf
  refine rx_jVi cx hw (qc_X7_followersOf l D ad cI cL w1 w2) (obY_0 ad cI cL) rfl rfl kfX7_followersOf tw_917 ⟨Nat.le_of_ble_eq_true rfl, Nat.le_of_ble_eq_true rfl, rfl, rfl⟩ rfl hl.1 (Nat.le_of_ble_eq_true rfl) ⟨Nat.zero_le _, Nat.zero_le _⟩ dX7_isFirst_3 rfl er1 (fun H locs hw => ?_)
  refine lv_istore_n (lv' := [(3, .int r1), (0, .ref ((ad 0))), (1, .int w1), (2, .int w2)]) hx hb dX7_isFirst_6 rfl hl (Nat.le_of_ble_eq_true rfl) rfl (fun ls hl => ?_)
  refine lv_iload_n hx hb dX7_isFirst_7 rfl (lv_at hl 0 rfl) ?_
  refine lv_if_le hx hb dX7_isFirst_8 rfl (fun hc => ?_) (fun hc => ?_)
  · have hf := rx_t hc hf
    refine lv_iconst (v := 0) hx hb dX7_isFirst_15 ic_0 ?_
    exact (qk_X7_isFirst_16 cx hret) hw (lv_sub hl [1, 2, 0] rfl) hf
  · have hf := rx_f hc hf
    refine lv_iconst (v := 1) hx hb dX7_isFirst_11 ic_1 ?_
    refine lv_goto hx hb dX7_isFirst_12 rfl ?_
    exact (qk_X7_isFirst_16 cx hret) hw (lv_sub hl [1, 2, 0] rfl) hf
end
set_option maxRecDepth 100000 in
theorem qc_X7_isFirst (l : Launch) (D : va_G) (ad : Nat → Nat) (cI cL : ClassId) (w1 : Int32) (w2 : Int32) : rx_MI l yX7_isFirst wX7_isFirst rm_X7_isFirst D vwCl (wY ad cI cL) (tY cI cL) [] wN [.ref (ad 0), .int w1, .int w2] (fun M => qf_X7_isFirst w1 w2 M) :=
  rx_ofZ (by decide) rfl wN_ok (Nat.le_of_ble_eq_true rfl) (fun _ _ _ _ _ _ _ _ _ _ _ _ _ cx hret hw hl hf => qk_X7_isFirst_0 cx hret hw hl hf)
def rm_X7_openOf : Room := { frames := 3, cells := 0, slots := 0, locals := 67 }
noncomputable def qb_X7_openOf_94 (k15 : Int32 → Int32 → Me → Op) (w1 : Int32) (w3 : Int32) (w4 : Int32) (s0 : Int32) (M : Me) : Op :=
  rx_vv (w4 + 1) fun v1 => k15 s0 v1 M
noncomputable def qb_X7_openOf_59 (k15 : Int32 → Int32 → Me → Op) (w1 : Int32) (w2 : Int32) (w3 : Int32) (w4 : Int32) (s0 : Int32) (M : Me) : Op :=
  if s0 = 0 then (qb_X7_openOf_94 k15 w1 w3 w4 w2 M) else (rx_ld M 6 24 w3 fun v1 => rx_ld M 7 24 w3 fun v2 => rx_cl (qf_X7_beside v1 v2 w4 M) fun r3 M4 => if 0 ≤ r3 then (qb_X7_openOf_94 k15 w1 w3 w4 w2 M4) else (qb_X7_openOf_94 k15 w1 w3 w4 (w2 + 1) M4))
noncomputable def qo_X7_openOf_15 (k101 : Int32 → Me → Op) (w1 : Int32) (w3 : Int32) (rec : Int32 → Int32 → Me → Op) (w2 : Int32) (w4 : Int32) (M : Me) : Op :=
  if 12 ≤ w4 then (k101 w2 M) else (rx_ld M 8 24 w3 fun v1 => rx_ld M 9 24 w3 fun v2 => rx_cl (qf_X7_partAt v1 v2 w4 M) fun r3 M4 => rx_ld M4 15 192 ((8 * w3) + r3) fun v5 => if v5 = w1 then (qb_X7_openOf_59 rec w1 w2 w3 w4 1 M4) else (qb_X7_openOf_59 rec w1 w2 w3 w4 0 M4))
noncomputable def qb_X7_openOf_101 (k4 : Int32 → Int32 → Me → Op) (w1 : Int32) (w2 : Int32) (w3 : Int32)  (M : Me) : Op :=
  rx_vv (w3 + 1) fun v1 => k4 w2 v1 M
noncomputable def qo_X7_openOf_4  (w1 : Int32) (rec : Int32 → Int32 → Me → Op) (w2 : Int32) (w3 : Int32) (M : Me) : Op :=
  rx_vv (M 0 9) fun v1 => if v1 ≤ w3 then (some (w2, M)) else (rx_lp2 (qo_X7_openOf_15 (fun a2 M => qb_X7_openOf_101 rec w1 a2 w3 M) w1 w3) rx_FU w2 0 M)
noncomputable def qf_X7_openOf  (w1 : Int32)  (M : Me) : Op :=
  rx_lp2 (qo_X7_openOf_4 w1) rx_FU 0 0 M
section
variable {p : Program} {l : Launch} {e : Env} {s : State} {m : MethodId} {args : Array Value} {below : List Frame} {meth : Method} {c : Code} {Q : State → Prop} {D : va_G} {A : Nat → Prop} {o : Int32 × Me} {ad : Nat → Nat} {cI cL : ClassId} {b1 b2 : Nat}
set_option maxRecDepth 100000 in
set_option maxHeartbeats 4000000 in
theorem qk_X7_openOf_94 (cx : rx_C p m c cX7_openOf 6 s args wX7_openOf RX7 D vwCl (tY cI cL) [] wN A) (hret : rx_RI p l e rm_X7_openOf s m args below meth c cX7_openOf D vwCl (wY ad cI cL) A Q o) {w1 : Int32} {w3 : Int32} {w4 : Int32} {s0 : Int32} {k15 : Int32 → Int32 → Me → Op} (h15 : ∀ {a2 : Int32} {a4 : Int32} {ls : Array Slot} {H : Heap} {locs : List Loc} {M : Me}, rx_W D vwCl (wY ad cI cL) A s.heap M H locs → lv_has ls 6 [(0, .ref ((ad 0))), (1, .int w1), (2, .int a2), (3, .int w3), (4, .int a4)] → k15 a2 a4 M = some o → W p l e rm_X7_openOf s m args below meth c H locs 0 0 Q (F0 m 15 ls [])) {ls : Array Slot} {H : Heap} {locs : List Loc} {M : Me} (hw : rx_W D vwCl (wY ad cI cL) A s.heap M H locs) (hl : lv_has ls 6 [(0, .ref ((ad 0))), (1, .int w1), (3, .int w3), (4, .int w4)]) (hf : qb_X7_openOf_94 k15 w1 w3 w4 s0 M = some o) : W p l e rm_X7_openOf s m args below meth c H locs 0 0 Q (F0 m 94 ls [.int s0]) := by
  have hx := cx.1.1
  have hb := cx.1.2.1
  refine lv_istore_n (lv' := [(2, .int s0), (0, .ref ((ad 0))), (1, .int w1), (3, .int w3), (4, .int w4)]) hx hb dX7_openOf_94 rfl hl (Nat.le_of_ble_eq_true rfl) rfl (fun ls hl => ?_)
  obtain ⟨v1, ev1, hf⟩ := rx_vvI hf
  refine lv_iinc (lv' := [(4, .int v1), (2, .int s0), (0, .ref ((ad 0))), (1, .int w1), (3, .int w3)]) hx hb dX7_openOf_95 hl (k := 4) rfl (rx_inc ic_1 ev1) (Nat.le_of_ble_eq_true rfl) rfl (fun ls hl => ?_)
  refine lv_goto hx hb dX7_openOf_98 rfl ?_
  exact h15 hw (lv_sub hl [2, 3, 1, 4, 0] rfl) hf
set_option maxRecDepth 100000 in
set_option maxHeartbeats 4000000 in
theorem qk_X7_openOf_59 (cx : rx_C p m c cX7_openOf 6 s args wX7_openOf RX7 D vwCl (tY cI cL) [] wN A) (hret : rx_RI p l e rm_X7_openOf s m args below meth c cX7_openOf D vwCl (wY ad cI cL) A Q o) {w1 : Int32} {w2 : Int32} {w3 : Int32} {w4 : Int32} {s0 : Int32} {k15 : Int32 → Int32 → Me → Op} (h15 : ∀ {a2 : Int32} {a4 : Int32} {ls : Array Slot} {H : Heap} {locs : List Loc} {M : Me}, rx_W D vwCl (wY ad cI cL) A s.heap M H locs → lv_has ls 6 [(0, .ref ((ad 0))), (1, .int w1), (2, .int a2), (3, .int w3), (4, .int a4)] → k15 a2 a4 M = some o → W p l e rm_X7_openOf s m args below meth c H locs 0 0 Q (F0 m 15 ls [])) {ls : Array Slot} {H : Heap} {locs : List Loc} {M : Me} (hw : rx_W D vwCl (wY ad cI cL) A s.heap M H locs) (hl : lv_has ls 6 [(0, .ref ((ad 0))), (1, .int w1), (2, .int w2), (3, .int w3), (4, .int w4)]) (hf : qb_X7_openOf_59 k15 w1 w2 w3 w4 s0 M = some o) : W p l e rm_X7_openOf s m args below meth c H locs 0 0 Q (F0 m 59 ls [.int s0]) := by
  have hx := cx.1.1
  have hb := cx.1.2.1
  refine lv_istore (lv' := [(5, .int s0), (0, .ref ((ad 0))), (1, .int w1), (2, .int w2), (3, .int w3), (4, .int w4)]) hx hb dX7_openOf_59 hl (Nat.le_of_ble_eq_true rfl) rfl (fun ls hl => ?_)
  refine lv_iload hx hb dX7_openOf_61 (lv_at hl 0 rfl) ?_
  refine lv_if_eq hx hb dX7_openOf_63 rfl (fun hc => ?_) (fun hc => ?_)
  · have hf := rx_t hc hf
    refine lv_iload_n hx hb dX7_openOf_93 rfl (lv_at hl 3 rfl) ?_
    exact (qk_X7_openOf_94 cx hret h15) hw (lv_sub hl [1, 2, 4, 5] rfl) hf
  · have hf := rx_f hc hf
    refine lv_aload_n hx hb dX7_openOf_66 rfl (lv_at hl 1 rfl) ?_
    refine lv_aload_n hx hb dX7_openOf_67 rfl (lv_at hl 1 rfl) ?_
    refine rx_getr cx hw (frY_0_10 ad cI cL) rfl (inT_X7) (Nat.le_of_ble_eq_true rfl) (.tail _ tw_671) dX7_openOf_68 ?_
    refine lv_iload_n hx hb dX7_openOf_71 rfl (lv_at hl 4 rfl) ?_
    obtain ⟨hv1, v1, ev1, hf⟩ := rx_ldI hf
    refine rx_iald cx hw (arY_6 ad cI cL) ⟨hv1, ev1⟩ dX7_openOf_72 ?_
    refine lv_aload_n hx hb dX7_openOf_73 rfl (lv_at hl 1 rfl) ?_
    refine rx_getr cx hw (frY_0_11 ad cI cL) rfl (inT_X7) (Nat.le_of_ble_eq_true rfl) (.tail _ tw_672) dX7_openOf_74 ?_
    refine lv_iload_n hx hb dX7_openOf_77 rfl (lv_at hl 4 rfl) ?_
    obtain ⟨hv2, v2, ev2, hf⟩ := rx_ldI hf
    refine rx_iald cx hw (arY_7 ad cI cL) ⟨hv2, ev2⟩ dX7_openOf_78 ?_
    refine lv_iload hx hb dX7_openOf_79 (lv_at hl 5 rfl) ?_
    obtain ⟨r3, M4, er3, hf⟩ := rx_clI hf
    refine rx_jVi cx hw (qc_X7_beside l D ad cI cL v1 v2 w4) (obY_0 ad cI cL) rfl rfl kfX7_beside tw_818 ⟨Nat.le_of_ble_eq_true rfl, Nat.le_of_ble_eq_true rfl, rfl, rfl⟩ rfl hl.1 (Nat.le_of_ble_eq_true rfl) ⟨Nat.zero_le _, Nat.zero_le _⟩ dX7_openOf_81 rfl er3 (fun H locs hw => ?_)
    refine lv_if_ge hx hb dX7_openOf_84 rfl (fun hc => ?_) (fun hc => ?_)
    · have hf := rx_t hc hf
      refine lv_iload_n hx hb dX7_openOf_93 rfl (lv_at hl 3 rfl) ?_
      exact (qk_X7_openOf_94 cx hret h15) hw (lv_sub hl [1, 2, 4, 5] rfl) hf
    · have hf := rx_f hc hf
      refine lv_iload_n hx hb dX7_openOf_87 rfl (lv_at hl 3 rfl) ?_
      refine lv_iconst (v := 1) hx hb dX7_openOf_88 ic_1 ?_
      refine lv_iadd hx hb dX7_openOf_89 ?_
      refine lv_goto hx hb dX7_openOf_90 rfl ?_
      exact (qk_X7_openOf_94 cx hret h15) hw (lv_sub hl [1, 2, 4, 5] rfl) hf
set_option maxRecDepth 100000 in
set_option maxHeartbeats 4000000 in
theorem qk_X7_openOf_15 (cx : rx_C p m c cX7_openOf 6 s args wX7_openOf RX7 D vwCl (tY cI cL) [] wN A) (hret : rx_RI p l e rm_X7_openOf s m args below meth c cX7_openOf D vwCl (wY ad cI cL) A Q o) {w1 : Int32} {w3 : Int32} {k101 : Int32 → Me → Op} (h101 : ∀ {a2 : Int32} {ls : Array Slot} {H : Heap} {locs : List Loc} {M : Me}, rx_W D vwCl (wY ad cI cL) A s.heap M H locs → lv_has ls 6 [(0, .ref ((ad 0))), (1, .int w1), (2, .int a2), (3, .int w3)] → k101 a2 M = some o → W p l e rm_X7_openOf s m args below meth c H locs 0 0 Q (F0 m 101 ls [])) : ∀ (n : Nat) {w2 : Int32} {w4 : Int32} {ls : Array Slot} {H : Heap} {locs : List Loc} {M : Me}, rx_W D vwCl (wY ad cI cL) A s.heap M H locs → lv_has ls 6 [(0, .ref ((ad 0))), (1, .int w1), (2, .int w2), (3, .int w3), (4, .int w4)] → rx_lp2 (qo_X7_openOf_15 k101 w1 w3) n w2 w4 M = some o → W p l e rm_X7_openOf s m args below meth c H locs 0 0 Q (F0 m 15 ls []) := by
  have hx := cx.1.1
  have hb := cx.1.2.1
  intro n
  induction n with
  | zero => intro w2 w4 ls H locs M hw hl hf; exact rx_no hf
  | succ n ih =>
    intro w2 w4 ls H locs M hw hl hf
    have hf : qo_X7_openOf_15 k101 w1 w3 (rx_lp2 (qo_X7_openOf_15 k101 w1 w3) n) w2 w4 M = some o := hf
    refine lv_iload hx hb dX7_openOf_15 (lv_at hl 4 rfl) ?_
    refine lv_bipush (v := 12) hx hb dX7_openOf_17 ib_12 ?_
    refine lv_icmp_ge hx hb dX7_openOf_19 rfl (fun hc => ?_) (fun hc => ?_)
    · have hf := rx_t hc hf
      exact h101 hw (lv_sub hl [0, 1, 2, 3] rfl) hf
    · have hf := rx_f hc hf
      refine lv_aload_n hx hb dX7_openOf_22 rfl (lv_at hl 0 rfl) ?_
      refine rx_getr cx hw (frY_0_25 ad cI cL) rfl (inT_X7) (Nat.le_of_ble_eq_true rfl) (.tail _ tw_686) dX7_openOf_23 ?_
      refine lv_bipush (v := 8) hx hb dX7_openOf_26 ib_8 ?_
      refine lv_iload_n hx hb dX7_openOf_28 rfl (lv_at hl 3 rfl) ?_
      refine lv_imul hx hb dX7_openOf_29 ?_
      refine lv_aload_n hx hb dX7_openOf_30 rfl (lv_at hl 0 rfl) ?_
      refine lv_aload_n hx hb dX7_openOf_31 rfl (lv_at hl 0 rfl) ?_
      refine rx_getr cx hw (frY_0_12 ad cI cL) rfl (inT_X7) (Nat.le_of_ble_eq_true rfl) (.tail _ tw_673) dX7_openOf_32 ?_
      refine lv_iload_n hx hb dX7_openOf_35 rfl (lv_at hl 3 rfl) ?_
      obtain ⟨hv1, v1, ev1, hf⟩ := rx_ldI hf
      refine rx_iald cx hw (arY_8 ad cI cL) ⟨hv1, ev1⟩ dX7_openOf_36 ?_
      refine lv_aload_n hx hb dX7_openOf_37 rfl (lv_at hl 0 rfl) ?_
      refine rx_getr cx hw (frY_0_13 ad cI cL) rfl (inT_X7) (Nat.le_of_ble_eq_true rfl) (.tail _ tw_674) dX7_openOf_38 ?_
      refine lv_iload_n hx hb dX7_openOf_41 rfl (lv_at hl 3 rfl) ?_
      obtain ⟨hv2, v2, ev2, hf⟩ := rx_ldI hf
      refine rx_iald cx hw (arY_9 ad cI cL) ⟨hv2, ev2⟩ dX7_openOf_42 ?_
      refine lv_iload hx hb dX7_openOf_43 (lv_at hl 4 rfl) ?_
      obtain ⟨r3, M4, er3, hf⟩ := rx_clI hf
      refine rx_jVi cx hw (qc_X7_partAt l D ad cI cL v1 v2 w4) (obY_0 ad cI cL) rfl rfl kfX7_partAt tw_829 ⟨Nat.le_of_ble_eq_true rfl, Nat.le_of_ble_eq_true rfl, rfl, rfl⟩ rfl hl.1 (Nat.le_of_ble_eq_true rfl) ⟨Nat.zero_le _, Nat.zero_le _⟩ dX7_openOf_45 rfl er3 (fun H locs hw => ?_)
      refine lv_iadd hx hb dX7_openOf_48 ?_
      obtain ⟨hv5, v5, ev5, hf⟩ := rx_ldI hf
      refine rx_iald cx hw (arY_15 ad cI cL) ⟨hv5, ev5⟩ dX7_openOf_49 ?_
      refine lv_iload_n hx hb dX7_openOf_50 rfl (lv_at hl 1 rfl) ?_
      refine lv_icmp_ne hx hb dX7_openOf_51 rfl (fun hc => ?_) (fun hc => ?_)
      · have hf := rx_f hc hf
        refine lv_iconst (v := 0) hx hb dX7_openOf_58 ic_0 ?_
        exact (qk_X7_openOf_59 cx hret ih) hw hl hf
      · have hf := rx_t hc hf
        refine lv_iconst (v := 1) hx hb dX7_openOf_54 ic_1 ?_
        refine lv_goto hx hb dX7_openOf_55 rfl ?_
        exact (qk_X7_openOf_59 cx hret ih) hw hl hf
set_option maxRecDepth 100000 in
set_option maxHeartbeats 4000000 in
theorem qk_X7_openOf_101 (cx : rx_C p m c cX7_openOf 6 s args wX7_openOf RX7 D vwCl (tY cI cL) [] wN A) (hret : rx_RI p l e rm_X7_openOf s m args below meth c cX7_openOf D vwCl (wY ad cI cL) A Q o) {w1 : Int32} {w2 : Int32} {w3 : Int32} {k4 : Int32 → Int32 → Me → Op} (h4 : ∀ {a2 : Int32} {a3 : Int32} {ls : Array Slot} {H : Heap} {locs : List Loc} {M : Me}, rx_W D vwCl (wY ad cI cL) A s.heap M H locs → lv_has ls 6 [(0, .ref ((ad 0))), (1, .int w1), (2, .int a2), (3, .int a3)] → k4 a2 a3 M = some o → W p l e rm_X7_openOf s m args below meth c H locs 0 0 Q (F0 m 4 ls [])) {ls : Array Slot} {H : Heap} {locs : List Loc} {M : Me} (hw : rx_W D vwCl (wY ad cI cL) A s.heap M H locs) (hl : lv_has ls 6 [(0, .ref ((ad 0))), (1, .int w1), (2, .int w2), (3, .int w3)]) (hf : qb_X7_openOf_101 k4 w1 w2 w3 M = some o) : W p l e rm_X7_openOf s m args below meth c H locs 0 0 Q (F0 m 101 ls []) := by
  have hx := cx.1.1
  have hb := cx.1.2.1
  obtain ⟨v1, ev1, hf⟩ := rx_vvI hf
  refine lv_iinc (lv' := [(3, .int v1), (0, .ref ((ad 0))), (1, .int w1), (2, .int w2)]) hx hb dX7_openOf_101 hl (k := 3) rfl (rx_inc ic_1 ev1) (Nat.le_of_ble_eq_true rfl) rfl (fun ls hl => ?_)
  refine lv_goto hx hb dX7_openOf_104 rfl ?_
  exact h4 hw (lv_sub hl [1, 2, 3, 0] rfl) hf
set_option maxRecDepth 100000 in
set_option maxHeartbeats 4000000 in
theorem qk_X7_openOf_4 (cx : rx_C p m c cX7_openOf 6 s args wX7_openOf RX7 D vwCl (tY cI cL) [] wN A) (hret : rx_RI p l e rm_X7_openOf s m args below meth c cX7_openOf D vwCl (wY ad cI cL) A Q o) {w1 : Int32} : ∀ (n : Nat) {w2 : Int32} {w3 : Int32} {ls : Array Slot} {H : Heap} {locs : List Loc} {M : Me}, rx_W D vwCl (wY ad cI cL) A s.heap M H locs → lv_has ls 6 [(0, .ref ((ad 0))), (1, .int w1), (2, .int w2), (3, .int w3)] → rx_lp2 (qo_X7_openOf_4 w1) n w2 w3 M = some o → W p l e rm_X7_openOf s m args below meth c H locs 0 0 Q (F0 m 4 ls []) := by
  have hx := cx.1.1
  have hb := cx.1.2.1
  intro n
  induction n with
  | zero => intro w2 w3 ls H locs M hw hl hf; exact rx_no hf
  | succ n ih =>
    intro w2 w3 ls H locs M hw hl hf
    have hf : qo_X7_openOf_4 w1 (rx_lp2 (qo_X7_openOf_4 w1) n) w2 w3 M = some o := hf
    refine lv_iload_n hx hb dX7_openOf_4 rfl (lv_at hl 3 rfl) ?_
    refine lv_aload_n hx hb dX7_openOf_5 rfl (lv_at hl 0 rfl) ?_
    obtain ⟨v1, ev1, hf⟩ := rx_vvI hf
    refine rx_geti cx hw (fiY_0_9 ad cI cL) rfl (inT_X7) (Nat.le_of_ble_eq_true rfl) (.tail _ tw_670) ev1 dX7_openOf_6 ?_
    refine lv_icmp_ge hx hb dX7_openOf_9 rfl (fun hc => ?_) (fun hc => ?_)
    · have hf := rx_t hc hf
      refine lv_iload_n hx hb dX7_openOf_107 rfl (lv_at hl 2 rfl) ?_
      exact rx_reti hret hw hf dX7_openOf_108
    · have hf := rx_f hc hf
      refine lv_iconst (v := 0) hx hb dX7_openOf_12 ic_0 ?_
      refine lv_istore (lv' := [(4, .int 0), (0, .ref ((ad 0))), (1, .int w1), (2, .int w2), (3, .int w3)]) hx hb dX7_openOf_13 hl (Nat.le_of_ble_eq_true rfl) rfl (fun ls hl => ?_)
      exact (qk_X7_openOf_15 cx hret (qk_X7_openOf_101 cx hret ih) rx_FU) hw (lv_sub hl [1, 2, 3, 4, 0] rfl) hf
set_option maxRecDepth 100000 in
set_option maxHeartbeats 4000000 in
theorem qk_X7_openOf_0 (cx : rx_C p m c cX7_openOf 6 s args wX7_openOf RX7 D vwCl (tY cI cL) [] wN A) (hret : rx_RI p l e rm_X7_openOf s m args below meth c cX7_openOf D vwCl (wY ad cI cL) A Q o) {w1 : Int32} {ls : Array Slot} {H : Heap} {locs : List Loc} {M : Me} (hw : rx_W D vwCl (wY ad cI cL) A s.heap M H locs) (hl : lv_has ls 6 [(0, .ref ((ad 0))), (1, .int w1)]) (hf : qf_X7_openOf w1 M = some o) : W p l e rm_X7_openOf s m args below meth c H locs 0 0 Q (F0 m 0 ls []) := by
  have hx := cx.1.1
  have hb := cx.1.2.1
  refine lv_iconst (v := 0) hx hb dX7_openOf_0 ic_0 ?_
  refine lv_istore_n (lv' := [(2, .int 0), (0, .ref ((ad 0))), (1, .int w1)]) hx hb dX7_openOf_1 rfl hl (Nat.le_of_ble_eq_true rfl) rfl (fun ls hl => ?_)
  refine lv_iconst (v := 0) hx hb dX7_openOf_2 ic_0 ?_
  refine lv_istore_n (lv' := [(3, .int 0), (2, .int 0), (0, .ref ((ad 0))), (1, .int w1)]) hx hb dX7_openOf_3 rfl hl (Nat.le_of_ble_eq_true rfl) rfl (fun ls hl => ?_)
  exact (qk_X7_openOf_4 cx hret rx_FU) hw (lv_sub hl [2, 3, 1, 0] rfl) hf
end
set_option maxRecDepth 100000 in
theorem qc_X7_openOf (l : Launch) (D : va_G) (ad : Nat → Nat) (cI cL : ClassId) (w1 : Int32) : rx_MI l yX7_openOf wX7_openOf rm_X7_openOf D vwCl (wY ad cI cL) (tY cI cL) [] wN [.ref (ad 0), .int w1] (fun M => qf_X7_openOf w1 M) :=
  rx_ofI (by decide) rfl wN_ok (Nat.le_of_ble_eq_true rfl) (fun _ _ _ _ _ _ _ _ _ _ _ _ _ cx hret hw hl hf => qk_X7_openOf_0 cx hret hw hl hf)
def rm_X7_around : Room := { frames := 2, cells := 0, slots := 0, locals := 43 }
noncomputable def qb_X7_around_53 (k4 : Int32 → Int32 → Me → Op) (w1 : Int32) (w3 : Int32) (s0 : Int32) (M : Me) : Op :=
  rx_vv (w3 + 1) fun v1 => k4 s0 v1 M
noncomputable def qo_X7_around_4  (w1 : Int32) (rec : Int32 → Int32 → Me → Op) (w2 : Int32) (w3 : Int32) (M : Me) : Op :=
  if 9 ≤ w3 then (some (w2, M)) else (if w3 = 4 then (qb_X7_around_53 rec w1 w3 w2 M) else (rx_ld M 6 24 w1 fun v1 => rx_ld M 7 24 w1 fun v2 => rx_cl (qf_X7_tileAt ((v1 + (w3 - w3 / 3 * 3)) - 1) ((v2 + (w3 / 3)) - 1) M) fun r3 M4 => if r3 < 0 then (qb_X7_around_53 rec w1 w3 w2 M4) else (qb_X7_around_53 rec w1 w3 (w2 + 1) M4)))
noncomputable def qf_X7_around  (w1 : Int32)  (M : Me) : Op :=
  rx_lp2 (qo_X7_around_4 w1) rx_FU 0 0 M
section
variable {p : Program} {l : Launch} {e : Env} {s : State} {m : MethodId} {args : Array Value} {below : List Frame} {meth : Method} {c : Code} {Q : State → Prop} {D : va_G} {A : Nat → Prop} {o : Int32 × Me} {ad : Nat → Nat} {cI cL : ClassId} {b1 b2 : Nat}
set_option maxRecDepth 100000 in
set_option maxHeartbeats 4000000 in
theorem qk_X7_around_53 (cx : rx_C p m c cX7_around 4 s args wX7_around RX7 D vwCl (tY cI cL) [] wN A) (hret : rx_RI p l e rm_X7_around s m args below meth c cX7_around D vwCl (wY ad cI cL) A Q o) {w1 : Int32} {w3 : Int32} {s0 : Int32} {k4 : Int32 → Int32 → Me → Op} (h4 : ∀ {a2 : Int32} {a3 : Int32} {ls : Array Slot} {H : Heap} {locs : List Loc} {M : Me}, rx_W D vwCl (wY ad cI cL) A s.heap M H locs → lv_has ls 4 [(0, .ref ((ad 0))), (1, .int w1), (2, .int a2), (3, .int a3)] → k4 a2 a3 M = some o → W p l e rm_X7_around s m args below meth c H locs 0 0 Q (F0 m 4 ls [])) {ls : Array Slot} {H : Heap} {locs : List Loc} {M : Me} (hw : rx_W D vwCl (wY ad cI cL) A s.heap M H locs) (hl : lv_has ls 4 [(0, .ref ((ad 0))), (1, .int w1), (3, .int w3)]) (hf : qb_X7_around_53 k4 w1 w3 s0 M = some o) : W p l e rm_X7_around s m args below meth c H locs 0 0 Q (F0 m 53 ls [.int s0]) := by
  have hx := cx.1.1
  have hb := cx.1.2.1
  refine lv_istore_n (lv' := [(2, .int s0), (0, .ref ((ad 0))), (1, .int w1), (3, .int w3)]) hx hb dX7_around_53 rfl hl (Nat.le_of_ble_eq_true rfl) rfl (fun ls hl => ?_)
  obtain ⟨v1, ev1, hf⟩ := rx_vvI hf
  refine lv_iinc (lv' := [(3, .int v1), (2, .int s0), (0, .ref ((ad 0))), (1, .int w1)]) hx hb dX7_around_54 hl (k := 3) rfl (rx_inc ic_1 ev1) (Nat.le_of_ble_eq_true rfl) rfl (fun ls hl => ?_)
  refine lv_goto hx hb dX7_around_57 rfl ?_
  exact h4 hw (lv_sub hl [2, 3, 1, 0] rfl) hf
set_option maxRecDepth 100000 in
set_option maxHeartbeats 4000000 in
theorem qk_X7_around_4 (cx : rx_C p m c cX7_around 4 s args wX7_around RX7 D vwCl (tY cI cL) [] wN A) (hret : rx_RI p l e rm_X7_around s m args below meth c cX7_around D vwCl (wY ad cI cL) A Q o) {w1 : Int32} : ∀ (n : Nat) {w2 : Int32} {w3 : Int32} {ls : Array Slot} {H : Heap} {locs : List Loc} {M : Me}, rx_W D vwCl (wY ad cI cL) A s.heap M H locs → lv_has ls 4 [(0, .ref ((ad 0))), (1, .int w1), (2, .int w2), (3, .int w3)] → rx_lp2 (qo_X7_around_4 w1) n w2 w3 M = some o → W p l e rm_X7_around s m args below meth c H locs 0 0 Q (F0 m 4 ls []) := by
  have hx := cx.1.1
  have hb := cx.1.2.1
  intro n
  induction n with
  | zero => intro w2 w3 ls H locs M hw hl hf; exact rx_no hf
  | succ n ih =>
    intro w2 w3 ls H locs M hw hl hf
    have hf : qo_X7_around_4 w1 (rx_lp2 (qo_X7_around_4 w1) n) w2 w3 M = some o := hf
    refine lv_iload_n hx hb dX7_around_4 rfl (lv_at hl 3 rfl) ?_
    refine lv_bipush (v := 9) hx hb dX7_around_5 ib_9 ?_
    refine lv_icmp_ge hx hb dX7_around_7 rfl (fun hc => ?_) (fun hc => ?_)
    · have hf := rx_t hc hf
      refine lv_iload_n hx hb dX7_around_60 rfl (lv_at hl 2 rfl) ?_
      exact rx_reti hret hw hf dX7_around_61
    · have hf := rx_f hc hf
      refine lv_iload_n hx hb dX7_around_10 rfl (lv_at hl 3 rfl) ?_
      refine lv_iconst (v := 4) hx hb dX7_around_11 ic_4 ?_
      refine lv_icmp_eq hx hb dX7_around_12 rfl (fun hc => ?_) (fun hc => ?_)
      · have hf := rx_t hc hf
        refine lv_iload_n hx hb dX7_around_52 rfl (lv_at hl 2 rfl) ?_
        exact (qk_X7_around_53 cx hret ih) hw (lv_sub hl [0, 1, 3] rfl) hf
      · have hf := rx_f hc hf
        refine lv_aload_n hx hb dX7_around_15 rfl (lv_at hl 0 rfl) ?_
        refine lv_aload_n hx hb dX7_around_16 rfl (lv_at hl 0 rfl) ?_
        refine rx_getr cx hw (frY_0_10 ad cI cL) rfl (inT_X7) (Nat.le_of_ble_eq_true rfl) (.tail _ tw_671) dX7_around_17 ?_
        refine lv_iload_n hx hb dX7_around_20 rfl (lv_at hl 1 rfl) ?_
        obtain ⟨hv1, v1, ev1, hf⟩ := rx_ldI hf
        refine rx_iald cx hw (arY_6 ad cI cL) ⟨hv1, ev1⟩ dX7_around_21 ?_
        refine lv_iload_n hx hb dX7_around_22 rfl (lv_at hl 3 rfl) ?_
        refine lv_iconst (v := 3) hx hb dX7_around_23 ic_3 ?_
        refine lv_irem hx hb dX7_around_24 nz_3 ?_
        refine lv_iadd hx hb dX7_around_25 ?_
        refine lv_iconst (v := 1) hx hb dX7_around_26 ic_1 ?_
        refine lv_isub hx hb dX7_around_27 ?_
        refine lv_aload_n hx hb dX7_around_28 rfl (lv_at hl 0 rfl) ?_
        refine rx_getr cx hw (frY_0_11 ad cI cL) rfl (inT_X7) (Nat.le_of_ble_eq_true rfl) (.tail _ tw_672) dX7_around_29 ?_
        refine lv_iload_n hx hb dX7_around_32 rfl (lv_at hl 1 rfl) ?_
        obtain ⟨hv2, v2, ev2, hf⟩ := rx_ldI hf
        refine rx_iald cx hw (arY_7 ad cI cL) ⟨hv2, ev2⟩ dX7_around_33 ?_
        refine lv_iload_n hx hb dX7_around_34 rfl (lv_at hl 3 rfl) ?_
        refine lv_iconst (v := 3) hx hb dX7_around_35 ic_3 ?_
        refine lv_idiv hx hb dX7_around_36 nz_3 ?_
        refine lv_iadd hx hb dX7_around_37 ?_
        refine lv_iconst (v := 1) hx hb dX7_around_38 ic_1 ?_
        refine lv_isub hx hb dX7_around_39 ?_
        obtain ⟨r3, M4, er3, hf⟩ := rx_clI hf
        refine rx_jVi cx hw (qc_X7_tileAt l D ad cI cL ((v1 + (w3 - w3 / 3 * 3)) - 1) ((v2 + (w3 / 3)) - 1)) (obY_0 ad cI cL) rfl rfl kfX7_tileAt tw_814 ⟨Nat.le_of_ble_eq_true rfl, Nat.le_of_ble_eq_true rfl, rfl, rfl⟩ rfl hl.1 (Nat.le_of_ble_eq_true rfl) ⟨Nat.zero_le _, Nat.zero_le _⟩ dX7_around_40 rfl er3 (fun H locs hw => ?_)
        refine lv_if_lt hx hb dX7_around_43 rfl (fun hc => ?_) (fun hc => ?_)
        · have hf := rx_t hc hf
          refine lv_iload_n hx hb dX7_around_52 rfl (lv_at hl 2 rfl) ?_
          exact (qk_X7_around_53 cx hret ih) hw (lv_sub hl [0, 1, 3] rfl) hf
        · have hf := rx_f hc hf
          refine lv_iload_n hx hb dX7_around_46 rfl (lv_at hl 2 rfl) ?_
          refine lv_iconst (v := 1) hx hb dX7_around_47 ic_1 ?_
          refine lv_iadd hx hb dX7_around_48 ?_
          refine lv_goto hx hb dX7_around_49 rfl ?_
          exact (qk_X7_around_53 cx hret ih) hw (lv_sub hl [0, 1, 3] rfl) hf
set_option maxRecDepth 100000 in
set_option maxHeartbeats 4000000 in
theorem qk_X7_around_0 (cx : rx_C p m c cX7_around 4 s args wX7_around RX7 D vwCl (tY cI cL) [] wN A) (hret : rx_RI p l e rm_X7_around s m args below meth c cX7_around D vwCl (wY ad cI cL) A Q o) {w1 : Int32} {ls : Array Slot} {H : Heap} {locs : List Loc} {M : Me} (hw : rx_W D vwCl (wY ad cI cL) A s.heap M H locs) (hl : lv_has ls 4 [(0, .ref ((ad 0))), (1, .int w1)]) (hf : qf_X7_around w1 M = some o) : W p l e rm_X7_around s m args below meth c H locs 0 0 Q (F0 m 0 ls []) := by
  have hx := cx.1.1
  have hb := cx.1.2.1
  refine lv_iconst (v := 0) hx hb dX7_around_0 ic_0 ?_
  refine lv_istore_n (lv' := [(2, .int 0), (0, .ref ((ad 0))), (1, .int w1)]) hx hb dX7_around_1 rfl hl (Nat.le_of_ble_eq_true rfl) rfl (fun ls hl => ?_)
  refine lv_iconst (v := 0) hx hb dX7_around_2 ic_0 ?_
  refine lv_istore_n (lv' := [(3, .int 0), (2, .int 0), (0, .ref ((ad 0))), (1, .int w1)]) hx hb dX7_around_3 rfl hl (Nat.le_of_ble_eq_true rfl) rfl (fun ls hl => ?_)
  exact (qk_X7_around_4 cx hret rx_FU) hw (lv_sub hl [2, 3, 1, 0] rfl) hf
end
set_option maxRecDepth 100000 in
theorem qc_X7_around (l : Launch) (D : va_G) (ad : Nat → Nat) (cI cL : ClassId) (w1 : Int32) : rx_MI l yX7_around wX7_around rm_X7_around D vwCl (wY ad cI cL) (tY cI cL) [] wN [.ref (ad 0), .int w1] (fun M => qf_X7_around w1 M) :=
  rx_ofI (by decide) rfl wN_ok (Nat.le_of_ble_eq_true rfl) (fun _ _ _ _ _ _ _ _ _ _ _ _ _ cx hret hw hl hf => qk_X7_around_0 cx hret hw hl hf)
def rm_X7_isFinished : Room := { frames := 4, cells := 0, slots := 0, locals := 92 }
noncomputable def qf_X7_isFinished  (w1 : Int32)  (M : Me) : Op :=
  rx_cl (qf_X7_kindOfPiece w1 M) fun r1 M2 => if r1 = 4 then (rx_cl (qf_X7_around (w1 / 8) M2) fun r5 M6 => if r5 = 8 then (rx_zb 1 (some (1, M6))) else (rx_zb 0 (some (0, M6)))) else (if r1 = 3 then (rx_zb 0 (some (0, M2))) else (rx_cl (qf_X7_openOf w1 M2) fun r3 M4 => if r3 = 0 then (rx_zb 1 (some (1, M4))) else (rx_zb 0 (some (0, M4)))))
section
variable {p : Program} {l : Launch} {e : Env} {s : State} {m : MethodId} {args : Array Value} {below : List Frame} {meth : Method} {c : Code} {Q : State → Prop} {D : va_G} {A : Nat → Prop} {o : Int32 × Me} {ad : Nat → Nat} {cI cL : ClassId} {b1 b2 : Nat}
set_option maxRecDepth 100000 in
set_option maxHeartbeats 4000000 in
theorem qk_X7_isFinished_0 (cx : rx_C p m c cX7_isFinished 3 s args wX7_isFinished RX7 D vwCl (tY cI cL) [] wN A) (hret : rx_RZ p l e rm_X7_isFinished s m args below meth c cX7_isFinished D vwCl (wY ad cI cL) A Q o) {w1 : Int32} {ls : Array Slot} {H : Heap} {locs : List Loc} {M : Me} (hw : rx_W D vwCl (wY ad cI cL) A s.heap M H locs) (hl : lv_has ls 3 [(0, .ref ((ad 0))), (1, .int w1)]) (hf : qf_X7_isFinished w1 M = some o) : W p l e rm_X7_isFinished s m args below meth c H locs 0 0 Q (F0 m 0 ls []) := by
  have hx := cx.1.1
  have hb := cx.1.2.1
  refine lv_aload_n hx hb dX7_isFinished_0 rfl (lv_at hl 0 rfl) ?_
  refine lv_iload_n hx hb dX7_isFinished_1 rfl (lv_at hl 1 rfl) ?_
  obtain ⟨r1, M2, er1, hf⟩ := rx_clI hf
  refine rx_jVi cx hw (qc_X7_kindOfPiece l D ad cI cL w1) (obY_0 ad cI cL) rfl rfl kfX7_kindOfPiece tw_873 ⟨Nat.le_of_ble_eq_true rfl, Nat.le_of_ble_eq_true rfl, rfl, rfl⟩ rfl hl.1 (Nat.le_of_ble_eq_true rfl) ⟨Nat.zero_le _, Nat.zero_le _⟩ dX7_isFinished_2 rfl er1 (fun H locs hw => ?_)
  refine lv_istore_n (lv' := [(2, .int r1), (0, .ref ((ad 0))), (1, .int w1)]) hx hb dX7_isFinished_5 rfl hl (Nat.le_of_ble_eq_true rfl) rfl (fun ls hl => ?_)
  refine lv_iload_n hx hb dX7_isFinished_6 rfl (lv_at hl 0 rfl) ?_
  refine lv_iconst (v := 4) hx hb dX7_isFinished_7 ic_4 ?_
  refine lv_icmp_ne hx hb dX7_isFinished_8 rfl (fun hc => ?_) (fun hc => ?_)
  · have hf := rx_f hc hf
    refine lv_iload_n hx hb dX7_isFinished_32 rfl (lv_at hl 0 rfl) ?_
    refine lv_iconst (v := 3) hx hb dX7_isFinished_33 ic_3 ?_
    refine lv_icmp_eq hx hb dX7_isFinished_34 rfl (fun hc => ?_) (fun hc => ?_)
    · have hf := rx_t hc hf
      refine lv_iconst (v := 0) hx hb dX7_isFinished_49 ic_0 ?_
      exact rx_retz hret hw hf dX7_isFinished_50
    · have hf := rx_f hc hf
      refine lv_aload_n hx hb dX7_isFinished_37 rfl (lv_at hl 1 rfl) ?_
      refine lv_iload_n hx hb dX7_isFinished_38 rfl (lv_at hl 2 rfl) ?_
      obtain ⟨r3, M4, er3, hf⟩ := rx_clI hf
      refine rx_jVi cx hw (qc_X7_openOf l D ad cI cL w1) (obY_0 ad cI cL) rfl rfl kfX7_openOf tw_901 ⟨Nat.le_of_ble_eq_true rfl, Nat.le_of_ble_eq_true rfl, rfl, rfl⟩ rfl hl.1 (Nat.le_of_ble_eq_true rfl) ⟨Nat.zero_le _, Nat.zero_le _⟩ dX7_isFinished_39 rfl er3 (fun H locs hw => ?_)
      refine lv_if_ne hx hb dX7_isFinished_42 rfl (fun hc => ?_) (fun hc => ?_)
      · have hf := rx_f hc hf
        refine lv_iconst (v := 0) hx hb dX7_isFinished_49 ic_0 ?_
        exact rx_retz hret hw hf dX7_isFinished_50
      · have hf := rx_t hc hf
        refine lv_iconst (v := 1) hx hb dX7_isFinished_45 ic_1 ?_
        refine lv_goto hx hb dX7_isFinished_46 rfl ?_
        exact rx_retz hret hw hf dX7_isFinished_50
  · have hf := rx_t hc hf
    refine lv_aload_n hx hb dX7_isFinished_11 rfl (lv_at hl 1 rfl) ?_
    refine lv_iload_n hx hb dX7_isFinished_12 rfl (lv_at hl 2 rfl) ?_
    refine lv_bipush (v := 8) hx hb dX7_isFinished_13 ib_8 ?_
    refine lv_idiv hx hb dX7_isFinished_15 nz_8 ?_
    obtain ⟨r5, M6, er5, hf⟩ := rx_clI hf
    refine rx_jVi cx hw (qc_X7_around l D ad cI cL (w1 / 8)) (obY_0 ad cI cL) rfl rfl kfX7_around tw_897 ⟨Nat.le_of_ble_eq_true rfl, Nat.le_of_ble_eq_true rfl, rfl, rfl⟩ rfl hl.1 (Nat.le_of_ble_eq_true rfl) ⟨Nat.zero_le _, Nat.zero_le _⟩ dX7_isFinished_16 rfl er5 (fun H locs hw => ?_)
    refine lv_bipush (v := 8) hx hb dX7_isFinished_19 ib_8 ?_
    refine lv_icmp_ne hx hb dX7_isFinished_21 rfl (fun hc => ?_) (fun hc => ?_)
    · have hf := rx_f hc hf
      refine lv_iconst (v := 0) hx hb dX7_isFinished_28 ic_0 ?_
      refine lv_goto hx hb dX7_isFinished_29 rfl ?_
      exact rx_retz hret hw hf dX7_isFinished_50
    · have hf := rx_t hc hf
      refine lv_iconst (v := 1) hx hb dX7_isFinished_24 ic_1 ?_
      refine lv_goto hx hb dX7_isFinished_25 rfl ?_
      exact rx_retz hret hw hf dX7_isFinished_50
end
set_option maxRecDepth 100000 in
theorem qc_X7_isFinished (l : Launch) (D : va_G) (ad : Nat → Nat) (cI cL : ClassId) (w1 : Int32) : rx_MI l yX7_isFinished wX7_isFinished rm_X7_isFinished D vwCl (wY ad cI cL) (tY cI cL) [] wN [.ref (ad 0), .int w1] (fun M => qf_X7_isFinished w1 M) :=
  rx_ofZ (by decide) rfl wN_ok (Nat.le_of_ble_eq_true rfl) (fun _ _ _ _ _ _ _ _ _ _ _ _ _ cx hret hw hl hf => qk_X7_isFinished_0 cx hret hw hl hf)
def rm_X7_hasFollowers : Room := { frames := 0, cells := 0, slots := 0, locals := 0 }
noncomputable def qb_X7_hasFollowers_43 (k4 : Int32 → Int32 → Me → Op) (w1 : Int32) (w3 : Int32) (s0 : Int32) (M : Me) : Op :=
  rx_vv (w3 + 1) fun v1 => k4 s0 v1 M
noncomputable def qo_X7_hasFollowers_4  (w1 : Int32) (rec : Int32 → Int32 → Me → Op) (w2 : Int32) (w3 : Int32) (M : Me) : Op :=
  rx_vv (M 0 9) fun v1 => if (8 * v1) ≤ w3 then (rx_zb w2 (some (w2, M))) else (if w2 = 0 then (rx_ld M 15 192 w3 fun v2 => if v2 = w1 then (rx_ld M 11 192 w3 fun v3 => if v3 < 0 then (qb_X7_hasFollowers_43 rec w1 w3 0 M) else (qb_X7_hasFollowers_43 rec w1 w3 1 M)) else (qb_X7_hasFollowers_43 rec w1 w3 0 M)) else (qb_X7_hasFollowers_43 rec w1 w3 1 M))
noncomputable def qf_X7_hasFollowers  (w1 : Int32)  (M : Me) : Op :=
  rx_lp2 (qo_X7_hasFollowers_4 w1) rx_FU 0 0 M
section
variable {p : Program} {l : Launch} {e : Env} {s : State} {m : MethodId} {args : Array Value} {below : List Frame} {meth : Method} {c : Code} {Q : State → Prop} {D : va_G} {A : Nat → Prop} {o : Int32 × Me} {ad : Nat → Nat} {cI cL : ClassId} {b1 b2 : Nat}
set_option maxRecDepth 100000 in
set_option maxHeartbeats 4000000 in
theorem qk_X7_hasFollowers_43 (cx : rx_C p m c cX7_hasFollowers 4 s args wX7_hasFollowers RX7 D vwCl (tY cI cL) [] wN A) (hret : rx_RZ p l e rm_X7_hasFollowers s m args below meth c cX7_hasFollowers D vwCl (wY ad cI cL) A Q o) {w1 : Int32} {w3 : Int32} {s0 : Int32} {k4 : Int32 → Int32 → Me → Op} (h4 : ∀ {a2 : Int32} {a3 : Int32} {ls : Array Slot} {H : Heap} {locs : List Loc} {M : Me}, rx_W D vwCl (wY ad cI cL) A s.heap M H locs → lv_has ls 4 [(0, .ref ((ad 0))), (1, .int w1), (2, .int a2), (3, .int a3)] → k4 a2 a3 M = some o → W p l e rm_X7_hasFollowers s m args below meth c H locs 0 0 Q (F0 m 4 ls [])) {ls : Array Slot} {H : Heap} {locs : List Loc} {M : Me} (hw : rx_W D vwCl (wY ad cI cL) A s.heap M H locs) (hl : lv_has ls 4 [(0, .ref ((ad 0))), (1, .int w1), (3, .int w3)]) (hf : qb_X7_hasFollowers_43 k4 w1 w3 s0 M = some o) : W p l e rm_X7_hasFollowers s m args below meth c H locs 0 0 Q (F0 m 43 ls [.int s0]) := by
  have hx := cx.1.1
  have hb := cx.1.2.1
  refine lv_istore_n (lv' := [(2, .int s0), (0, .ref ((ad 0))), (1, .int w1), (3, .int w3)]) hx hb dX7_hasFollowers_43 rfl hl (Nat.le_of_ble_eq_true rfl) rfl (fun ls hl => ?_)
  obtain ⟨v1, ev1, hf⟩ := rx_vvI hf
  refine lv_iinc (lv' := [(3, .int v1), (2, .int s0), (0, .ref ((ad 0))), (1, .int w1)]) hx hb dX7_hasFollowers_44 hl (k := 3) rfl (rx_inc ic_1 ev1) (Nat.le_of_ble_eq_true rfl) rfl (fun ls hl => ?_)
  refine lv_goto hx hb dX7_hasFollowers_47 rfl ?_
  exact h4 hw (lv_sub hl [2, 3, 1, 0] rfl) hf
set_option maxRecDepth 100000 in
set_option maxHeartbeats 4000000 in
theorem qk_X7_hasFollowers_4 (cx : rx_C p m c cX7_hasFollowers 4 s args wX7_hasFollowers RX7 D vwCl (tY cI cL) [] wN A) (hret : rx_RZ p l e rm_X7_hasFollowers s m args below meth c cX7_hasFollowers D vwCl (wY ad cI cL) A Q o) {w1 : Int32} : ∀ (n : Nat) {w2 : Int32} {w3 : Int32} {ls : Array Slot} {H : Heap} {locs : List Loc} {M : Me}, rx_W D vwCl (wY ad cI cL) A s.heap M H locs → lv_has ls 4 [(0, .ref ((ad 0))), (1, .int w1), (2, .int w2), (3, .int w3)] → rx_lp2 (qo_X7_hasFollowers_4 w1) n w2 w3 M = some o → W p l e rm_X7_hasFollowers s m args below meth c H locs 0 0 Q (F0 m 4 ls []) := by
  have hx := cx.1.1
  have hb := cx.1.2.1
  intro n
  induction n with
  | zero => intro w2 w3 ls H locs M hw hl hf; exact rx_no hf
  | succ n ih =>
    intro w2 w3 ls H locs M hw hl hf
    have hf : qo_X7_hasFollowers_4 w1 (rx_lp2 (qo_X7_hasFollowers_4 w1) n) w2 w3 M = some o := hf
    refine lv_iload_n hx hb dX7_hasFollowers_4 rfl (lv_at hl 3 rfl) ?_
    refine lv_bipush (v := 8) hx hb dX7_hasFollowers_5 ib_8 ?_
    refine lv_aload_n hx hb dX7_hasFollowers_7 rfl (lv_at hl 0 rfl) ?_
    obtain ⟨v1, ev1, hf⟩ := rx_vvI hf
    refine rx_geti cx hw (fiY_0_9 ad cI cL) rfl (inT_X7) (Nat.le_of_ble_eq_true rfl) (.tail _ tw_670) ev1 dX7_hasFollowers_8 ?_
    refine lv_imul hx hb dX7_hasFollowers_11 ?_
    refine lv_icmp_ge hx hb dX7_hasFollowers_12 rfl (fun hc => ?_) (fun hc => ?_)
    · have hf := rx_t hc hf
      refine lv_iload_n hx hb dX7_hasFollowers_50 rfl (lv_at hl 2 rfl) ?_
      exact rx_retz hret hw hf dX7_hasFollowers_51
    · have hf := rx_f hc hf
      refine lv_iload_n hx hb dX7_hasFollowers_15 rfl (lv_at hl 2 rfl) ?_
      refine lv_if_ne hx hb dX7_hasFollowers_16 rfl (fun hc => ?_) (fun hc => ?_)
      · have hf := rx_f hc hf
        refine lv_iconst (v := 1) hx hb dX7_hasFollowers_38 ic_1 ?_
        refine lv_goto hx hb dX7_hasFollowers_39 rfl ?_
        exact (qk_X7_hasFollowers_43 cx hret ih) hw (lv_sub hl [0, 1, 3] rfl) hf
      · have hf := rx_t hc hf
        refine lv_aload_n hx hb dX7_hasFollowers_19 rfl (lv_at hl 0 rfl) ?_
        refine rx_getr cx hw (frY_0_25 ad cI cL) rfl (inT_X7) (Nat.le_of_ble_eq_true rfl) (.tail _ tw_686) dX7_hasFollowers_20 ?_
        refine lv_iload_n hx hb dX7_hasFollowers_23 rfl (lv_at hl 3 rfl) ?_
        obtain ⟨hv2, v2, ev2, hf⟩ := rx_ldI hf
        refine rx_iald cx hw (arY_15 ad cI cL) ⟨hv2, ev2⟩ dX7_hasFollowers_24 ?_
        refine lv_iload_n hx hb dX7_hasFollowers_25 rfl (lv_at hl 1 rfl) ?_
        refine lv_icmp_ne hx hb dX7_hasFollowers_26 rfl (fun hc => ?_) (fun hc => ?_)
        · have hf := rx_f hc hf
          refine lv_iconst (v := 0) hx hb dX7_hasFollowers_42 ic_0 ?_
          exact (qk_X7_hasFollowers_43 cx hret ih) hw (lv_sub hl [0, 1, 3] rfl) hf
        · have hf := rx_t hc hf
          refine lv_aload_n hx hb dX7_hasFollowers_29 rfl (lv_at hl 0 rfl) ?_
          refine rx_getr cx hw (frY_0_15 ad cI cL) rfl (inT_X7) (Nat.le_of_ble_eq_true rfl) (.tail _ tw_676) dX7_hasFollowers_30 ?_
          refine lv_iload_n hx hb dX7_hasFollowers_33 rfl (lv_at hl 3 rfl) ?_
          obtain ⟨hv3, v3, ev3, hf⟩ := rx_ldI hf
          refine rx_iald cx hw (arY_11 ad cI cL) ⟨hv3, ev3⟩ dX7_hasFollowers_34 ?_
          refine lv_if_lt hx hb dX7_hasFollowers_35 rfl (fun hc => ?_) (fun hc => ?_)
          · have hf := rx_t hc hf
            refine lv_iconst (v := 0) hx hb dX7_hasFollowers_42 ic_0 ?_
            exact (qk_X7_hasFollowers_43 cx hret ih) hw (lv_sub hl [0, 1, 3] rfl) hf
          · have hf := rx_f hc hf
            refine lv_iconst (v := 1) hx hb dX7_hasFollowers_38 ic_1 ?_
            refine lv_goto hx hb dX7_hasFollowers_39 rfl ?_
            exact (qk_X7_hasFollowers_43 cx hret ih) hw (lv_sub hl [0, 1, 3] rfl) hf
set_option maxRecDepth 100000 in
set_option maxHeartbeats 4000000 in
theorem qk_X7_hasFollowers_0 (cx : rx_C p m c cX7_hasFollowers 4 s args wX7_hasFollowers RX7 D vwCl (tY cI cL) [] wN A) (hret : rx_RZ p l e rm_X7_hasFollowers s m args below meth c cX7_hasFollowers D vwCl (wY ad cI cL) A Q o) {w1 : Int32} {ls : Array Slot} {H : Heap} {locs : List Loc} {M : Me} (hw : rx_W D vwCl (wY ad cI cL) A s.heap M H locs) (hl : lv_has ls 4 [(0, .ref ((ad 0))), (1, .int w1)]) (hf : qf_X7_hasFollowers w1 M = some o) : W p l e rm_X7_hasFollowers s m args below meth c H locs 0 0 Q (F0 m 0 ls []) := by
  have hx := cx.1.1
  have hb := cx.1.2.1
  refine lv_iconst (v := 0) hx hb dX7_hasFollowers_0 ic_0 ?_
  refine lv_istore_n (lv' := [(2, .int 0), (0, .ref ((ad 0))), (1, .int w1)]) hx hb dX7_hasFollowers_1 rfl hl (Nat.le_of_ble_eq_true rfl) rfl (fun ls hl => ?_)
  refine lv_iconst (v := 0) hx hb dX7_hasFollowers_2 ic_0 ?_
  refine lv_istore_n (lv' := [(3, .int 0), (2, .int 0), (0, .ref ((ad 0))), (1, .int w1)]) hx hb dX7_hasFollowers_3 rfl hl (Nat.le_of_ble_eq_true rfl) rfl (fun ls hl => ?_)
  exact (qk_X7_hasFollowers_4 cx hret rx_FU) hw (lv_sub hl [2, 3, 1, 0] rfl) hf
end
set_option maxRecDepth 100000 in
theorem qc_X7_hasFollowers (l : Launch) (D : va_G) (ad : Nat → Nat) (cI cL : ClassId) (w1 : Int32) : rx_MI l yX7_hasFollowers wX7_hasFollowers rm_X7_hasFollowers D vwCl (wY ad cI cL) (tY cI cL) [] wN [.ref (ad 0), .int w1] (fun M => qf_X7_hasFollowers w1 M) :=
  rx_ofZ (by decide) rfl wN_ok (Nat.le_of_ble_eq_true rfl) (fun _ _ _ _ _ _ _ _ _ _ _ _ _ cx hret hw hl hf => qk_X7_hasFollowers_0 cx hret hw hl hf)
def rm_X7_tilesOf : Room := { frames := 0, cells := 0, slots := 0, locals := 0 }
noncomputable def qb_X7_tilesOf_51 (k18 : Int32 → Int32 → Me → Op) (w1 : Int32) (w2 : Int32) (w3 : Int32) (w5 : Int32) (s0 : Int32) (M : Me) : Op :=
  rx_vv (w5 + 1) fun v1 => k18 s0 v1 M
noncomputable def qo_X7_tilesOf_18 (k59 : Int32 → Me → Op) (w1 : Int32) (w2 : Int32) (w3 : Int32) (rec : Int32 → Int32 → Me → Op) (w4 : Int32) (w5 : Int32) (M : Me) : Op :=
  if 8 ≤ w5 then (k59 w4 M) else (if w4 = 0 then (rx_ld M 15 192 ((8 * w3) + w5) fun v1 => if v1 = w1 then (qb_X7_tilesOf_51 rec w1 w2 w3 w5 1 M) else (qb_X7_tilesOf_51 rec w1 w2 w3 w5 0 M)) else (qb_X7_tilesOf_51 rec w1 w2 w3 w5 1 M))
noncomputable def qb_X7_tilesOf_71 (k4 : Int32 → Int32 → Me → Op) (w1 : Int32) (w3 : Int32) (s0 : Int32) (M : Me) : Op :=
  rx_vv (w3 + 1) fun v1 => k4 s0 v1 M
noncomputable def qb_X7_tilesOf_59 (k4 : Int32 → Int32 → Me → Op) (w1 : Int32) (w2 : Int32) (w3 : Int32) (w4 : Int32)  (M : Me) : Op :=
  if w4 = 0 then (qb_X7_tilesOf_71 k4 w1 w3 w2 M) else (qb_X7_tilesOf_71 k4 w1 w3 (w2 + 1) M)
noncomputable def qo_X7_tilesOf_4  (w1 : Int32) (rec : Int32 → Int32 → Me → Op) (w2 : Int32) (w3 : Int32) (M : Me) : Op :=
  rx_vv (M 0 9) fun v1 => if v1 ≤ w3 then (some (w2, M)) else (rx_lp2 (qo_X7_tilesOf_18 (fun a4 M => qb_X7_tilesOf_59 rec w1 w2 w3 a4 M) w1 w2 w3) rx_FU 0 0 M)
noncomputable def qf_X7_tilesOf  (w1 : Int32)  (M : Me) : Op :=
  rx_lp2 (qo_X7_tilesOf_4 w1) rx_FU 0 0 M
section
variable {p : Program} {l : Launch} {e : Env} {s : State} {m : MethodId} {args : Array Value} {below : List Frame} {meth : Method} {c : Code} {Q : State → Prop} {D : va_G} {A : Nat → Prop} {o : Int32 × Me} {ad : Nat → Nat} {cI cL : ClassId} {b1 b2 : Nat}
set_option maxRecDepth 100000 in
set_option maxHeartbeats 4000000 in
theorem qk_X7_tilesOf_51 (cx : rx_C p m c cX7_tilesOf 6 s args wX7_tilesOf RX7 D vwCl (tY cI cL) [] wN A) (hret : rx_RI p l e rm_X7_tilesOf s m args below meth c cX7_tilesOf D vwCl (wY ad cI cL) A Q o) {w1 : Int32} {w2 : Int32} {w3 : Int32} {w5 : Int32} {s0 : Int32} {k18 : Int32 → Int32 → Me → Op} (h18 : ∀ {a4 : Int32} {a5 : Int32} {ls : Array Slot} {H : Heap} {locs : List Loc} {M : Me}, rx_W D vwCl (wY ad cI cL) A s.heap M H locs → lv_has ls 6 [(0, .ref ((ad 0))), (1, .int w1), (2, .int w2), (3, .int w3), (4, .int a4), (5, .int a5)] → k18 a4 a5 M = some o → W p l e rm_X7_tilesOf s m args below meth c H locs 0 0 Q (F0 m 18 ls [])) {ls : Array Slot} {H : Heap} {locs : List Loc} {M : Me} (hw : rx_W D vwCl (wY ad cI cL) A s.heap M H locs) (hl : lv_has ls 6 [(0, .ref ((ad 0))), (1, .int w1), (2, .int w2), (3, .int w3), (5, .int w5)]) (hf : qb_X7_tilesOf_51 k18 w1 w2 w3 w5 s0 M = some o) : W p l e rm_X7_tilesOf s m args below meth c H locs 0 0 Q (F0 m 51 ls [.int s0]) := by
  have hx := cx.1.1
  have hb := cx.1.2.1
  refine lv_istore (lv' := [(4, .int s0), (0, .ref ((ad 0))), (1, .int w1), (2, .int w2), (3, .int w3), (5, .int w5)]) hx hb dX7_tilesOf_51 hl (Nat.le_of_ble_eq_true rfl) rfl (fun ls hl => ?_)
  obtain ⟨v1, ev1, hf⟩ := rx_vvI hf
  refine lv_iinc (lv' := [(5, .int v1), (4, .int s0), (0, .ref ((ad 0))), (1, .int w1), (2, .int w2), (3, .int w3)]) hx hb dX7_tilesOf_53 hl (k := 5) rfl (rx_inc ic_1 ev1) (Nat.le_of_ble_eq_true rfl) rfl (fun ls hl => ?_)
  refine lv_goto hx hb dX7_tilesOf_56 rfl ?_
  exact h18 hw (lv_sub hl [2, 3, 4, 5, 1, 0] rfl) hf
set_option maxRecDepth 100000 in
set_option maxHeartbeats 4000000 in
theorem qk_X7_tilesOf_18 (cx : rx_C p m c cX7_tilesOf 6 s args wX7_tilesOf RX7 D vwCl (tY cI cL) [] wN A) (hret : rx_RI p l e rm_X7_tilesOf s m args below meth c cX7_tilesOf D vwCl (wY ad cI cL) A Q o) {w1 : Int32} {w2 : Int32} {w3 : Int32} {k59 : Int32 → Me → Op} (h59 : ∀ {a4 : Int32} {ls : Array Slot} {H : Heap} {locs : List Loc} {M : Me}, rx_W D vwCl (wY ad cI cL) A s.heap M H locs → lv_has ls 6 [(0, .ref ((ad 0))), (1, .int w1), (2, .int w2), (3, .int w3), (4, .int a4)] → k59 a4 M = some o → W p l e rm_X7_tilesOf s m args below meth c H locs 0 0 Q (F0 m 59 ls [])) : ∀ (n : Nat) {w4 : Int32} {w5 : Int32} {ls : Array Slot} {H : Heap} {locs : List Loc} {M : Me}, rx_W D vwCl (wY ad cI cL) A s.heap M H locs → lv_has ls 6 [(0, .ref ((ad 0))), (1, .int w1), (2, .int w2), (3, .int w3), (4, .int w4), (5, .int w5)] → rx_lp2 (qo_X7_tilesOf_18 k59 w1 w2 w3) n w4 w5 M = some o → W p l e rm_X7_tilesOf s m args below meth c H locs 0 0 Q (F0 m 18 ls []) := by
  have hx := cx.1.1
  have hb := cx.1.2.1
  intro n
  induction n with
  | zero => intro w4 w5 ls H locs M hw hl hf; exact rx_no hf
  | succ n ih =>
    intro w4 w5 ls H locs M hw hl hf
    have hf : qo_X7_tilesOf_18 k59 w1 w2 w3 (rx_lp2 (qo_X7_tilesOf_18 k59 w1 w2 w3) n) w4 w5 M = some o := hf
    refine lv_iload hx hb dX7_tilesOf_18 (lv_at hl 5 rfl) ?_
    refine lv_bipush (v := 8) hx hb dX7_tilesOf_20 ib_8 ?_
    refine lv_icmp_ge hx hb dX7_tilesOf_22 rfl (fun hc => ?_) (fun hc => ?_)
    · have hf := rx_t hc hf
      exact h59 hw (lv_sub hl [0, 1, 2, 3, 4] rfl) hf
    · have hf := rx_f hc hf
      refine lv_iload hx hb dX7_tilesOf_25 (lv_at hl 4 rfl) ?_
      refine lv_if_ne hx hb dX7_tilesOf_27 rfl (fun hc => ?_) (fun hc => ?_)
      · have hf := rx_f hc hf
        refine lv_iconst (v := 1) hx hb dX7_tilesOf_46 ic_1 ?_
        refine lv_goto hx hb dX7_tilesOf_47 rfl ?_
        exact (qk_X7_tilesOf_51 cx hret ih) hw (lv_sub hl [0, 1, 2, 3, 5] rfl) hf
      · have hf := rx_t hc hf
        refine lv_aload_n hx hb dX7_tilesOf_30 rfl (lv_at hl 0 rfl) ?_
        refine rx_getr cx hw (frY_0_25 ad cI cL) rfl (inT_X7) (Nat.le_of_ble_eq_true rfl) (.tail _ tw_686) dX7_tilesOf_31 ?_
        refine lv_bipush (v := 8) hx hb dX7_tilesOf_34 ib_8 ?_
        refine lv_iload_n hx hb dX7_tilesOf_36 rfl (lv_at hl 3 rfl) ?_
        refine lv_imul hx hb dX7_tilesOf_37 ?_
        refine lv_iload hx hb dX7_tilesOf_38 (lv_at hl 5 rfl) ?_
        refine lv_iadd hx hb dX7_tilesOf_40 ?_
        obtain ⟨hv1, v1, ev1, hf⟩ := rx_ldI hf
        refine rx_iald cx hw (arY_15 ad cI cL) ⟨hv1, ev1⟩ dX7_tilesOf_41 ?_
        refine lv_iload_n hx hb dX7_tilesOf_42 rfl (lv_at hl 1 rfl) ?_
        refine lv_icmp_ne hx hb dX7_tilesOf_43 rfl (fun hc => ?_) (fun hc => ?_)
        · have hf := rx_f hc hf
          refine lv_iconst (v := 0) hx hb dX7_tilesOf_50 ic_0 ?_
          exact (qk_X7_tilesOf_51 cx hret ih) hw (lv_sub hl [0, 1, 2, 3, 5] rfl) hf
        · have hf := rx_t hc hf
          refine lv_iconst (v := 1) hx hb dX7_tilesOf_46 ic_1 ?_
          refine lv_goto hx hb dX7_tilesOf_47 rfl ?_
          exact (qk_X7_tilesOf_51 cx hret ih) hw (lv_sub hl [0, 1, 2, 3, 5] rfl) hf
set_option maxRecDepth 100000 in
set_option maxHeartbeats 4000000 in
theorem qk_X7_tilesOf_71 (cx : rx_C p m c cX7_tilesOf 6 s args wX7_tilesOf RX7 D vwCl (tY cI cL) [] wN A) (hret : rx_RI p l e rm_X7_tilesOf s m args below meth c cX7_tilesOf D vwCl (wY ad cI cL) A Q o) {w1 : Int32} {w3 : Int32} {s0 : Int32} {k4 : Int32 → Int32 → Me → Op} (h4 : ∀ {a2 : Int32} {a3 : Int32} {ls : Array Slot} {H : Heap} {locs : List Loc} {M : Me}, rx_W D vwCl (wY ad cI cL) A s.heap M H locs → lv_has ls 6 [(0, .ref ((ad 0))), (1, .int w1), (2, .int a2), (3, .int a3)] → k4 a2 a3 M = some o → W p l e rm_X7_tilesOf s m args below meth c H locs 0 0 Q (F0 m 4 ls [])) {ls : Array Slot} {H : Heap} {locs : List Loc} {M : Me} (hw : rx_W D vwCl (wY ad cI cL) A s.heap M H locs) (hl : lv_has ls 6 [(0, .ref ((ad 0))), (1, .int w1), (3, .int w3)]) (hf : qb_X7_tilesOf_71 k4 w1 w3 s0 M = some o) : W p l e rm_X7_tilesOf s m args below meth c H locs 0 0 Q (F0 m 71 ls [.int s0]) := by
  have hx := cx.1.1
  have hb := cx.1.2.1
  refine lv_istore_n (lv' := [(2, .int s0), (0, .ref ((ad 0))), (1, .int w1), (3, .int w3)]) hx hb dX7_tilesOf_71 rfl hl (Nat.le_of_ble_eq_true rfl) rfl (fun ls hl => ?_)
  obtain ⟨v1, ev1, hf⟩ := rx_vvI hf
  refine lv_iinc (lv' := [(3, .int v1), (2, .int s0), (0, .ref ((ad 0))), (1, .int w1)]) hx hb dX7_tilesOf_72 hl (k := 3) rfl (rx_inc ic_1 ev1) (Nat.le_of_ble_eq_true rfl) rfl (fun ls hl => ?_)
  refine lv_goto hx hb dX7_tilesOf_75 rfl ?_
  exact h4 hw (lv_sub hl [2, 3, 1, 0] rfl) hf
set_option maxRecDepth 100000 in
set_option maxHeartbeats 4000000 in
theorem qk_X7_tilesOf_59 (cx : rx_C p m c cX7_tilesOf 6 s args wX7_tilesOf RX7 D vwCl (tY cI cL) [] wN A) (hret : rx_RI p l e rm_X7_tilesOf s m args below meth c cX7_tilesOf D vwCl (wY ad cI cL) A Q o) {w1 : Int32} {w2 : Int32} {w3 : Int32} {w4 : Int32} {k4 : Int32 → Int32 → Me → Op} (h4 : ∀ {a2 : Int32} {a3 : Int32} {ls : Array Slot} {H : Heap} {locs : List Loc} {M : Me}, rx_W D vwCl (wY ad cI cL) A s.heap M H locs → lv_has ls 6 [(0, .ref ((ad 0))), (1, .int w1), (2, .int a2), (3, .int a3)] → k4 a2 a3 M = some o → W p l e rm_X7_tilesOf s m args below meth c H locs 0 0 Q (F0 m 4 ls [])) {ls : Array Slot} {H : Heap} {locs : List Loc} {M : Me} (hw : rx_W D vwCl (wY ad cI cL) A s.heap M H locs) (hl : lv_has ls 6 [(0, .ref ((ad 0))), (1, .int w1), (2, .int w2), (3, .int w3), (4, .int w4)]) (hf : qb_X7_tilesOf_59 k4 w1 w2 w3 w4 M = some o) : W p l e rm_X7_tilesOf s m args below meth c H locs 0 0 Q (F0 m 59 ls []) := by
  have hx := cx.1.1
  have hb := cx.1.2.1
  refine lv_iload hx hb dX7_tilesOf_59 (lv_at hl 4 rfl) ?_
  refine lv_if_eq hx hb dX7_tilesOf_61 rfl (fun hc => ?_) (fun hc => ?_)
  · have hf := rx_t hc hf
    refine lv_iload_n hx hb dX7_tilesOf_70 rfl (lv_at hl 2 rfl) ?_
    exact (qk_X7_tilesOf_71 cx hret h4) hw (lv_sub hl [0, 1, 3] rfl) hf
  · have hf := rx_f hc hf
    refine lv_iload_n hx hb dX7_tilesOf_64 rfl (lv_at hl 2 rfl) ?_
    refine lv_iconst (v := 1) hx hb dX7_tilesOf_65 ic_1 ?_
    refine lv_iadd hx hb dX7_tilesOf_66 ?_
    refine lv_goto hx hb dX7_tilesOf_67 rfl ?_
    exact (qk_X7_tilesOf_71 cx hret h4) hw (lv_sub hl [0, 1, 3] rfl) hf
set_option maxRecDepth 100000 in
set_option maxHeartbeats 4000000 in
theorem qk_X7_tilesOf_4 (cx : rx_C p m c cX7_tilesOf 6 s args wX7_tilesOf RX7 D vwCl (tY cI cL) [] wN A) (hret : rx_RI p l e rm_X7_tilesOf s m args below meth c cX7_tilesOf D vwCl (wY ad cI cL) A Q o) {w1 : Int32} : ∀ (n : Nat) {w2 : Int32} {w3 : Int32} {ls : Array Slot} {H : Heap} {locs : List Loc} {M : Me}, rx_W D vwCl (wY ad cI cL) A s.heap M H locs → lv_has ls 6 [(0, .ref ((ad 0))), (1, .int w1), (2, .int w2), (3, .int w3)] → rx_lp2 (qo_X7_tilesOf_4 w1) n w2 w3 M = some o → W p l e rm_X7_tilesOf s m args below meth c H locs 0 0 Q (F0 m 4 ls []) := by
  have hx := cx.1.1
  have hb := cx.1.2.1
  intro n
  induction n with
  | zero => intro w2 w3 ls H locs M hw hl hf; exact rx_no hf
  | succ n ih =>
    intro w2 w3 ls H locs M hw hl hf
    have hf : qo_X7_tilesOf_4 w1 (rx_lp2 (qo_X7_tilesOf_4 w1) n) w2 w3 M = some o := hf
    refine lv_iload_n hx hb dX7_tilesOf_4 rfl (lv_at hl 3 rfl) ?_
    refine lv_aload_n hx hb dX7_tilesOf_5 rfl (lv_at hl 0 rfl) ?_
    obtain ⟨v1, ev1, hf⟩ := rx_vvI hf
    refine rx_geti cx hw (fiY_0_9 ad cI cL) rfl (inT_X7) (Nat.le_of_ble_eq_true rfl) (.tail _ tw_670) ev1 dX7_tilesOf_6 ?_
    refine lv_icmp_ge hx hb dX7_tilesOf_9 rfl (fun hc => ?_) (fun hc => ?_)
    · have hf := rx_t hc hf
      refine lv_iload_n hx hb dX7_tilesOf_78 rfl (lv_at hl 2 rfl) ?_
      exact rx_reti hret hw hf dX7_tilesOf_79
    · have hf := rx_f hc hf
      refine lv_iconst (v := 0) hx hb dX7_tilesOf_12 ic_0 ?_
      refine lv_istore (lv' := [(4, .int 0), (0, .ref ((ad 0))), (1, .int w1), (2, .int w2), (3, .int w3)]) hx hb dX7_tilesOf_13 hl (Nat.le_of_ble_eq_true rfl) rfl (fun ls hl => ?_)
      refine lv_iconst (v := 0) hx hb dX7_tilesOf_15 ic_0 ?_
      refine lv_istore (lv' := [(5, .int 0), (4, .int 0), (0, .ref ((ad 0))), (1, .int w1), (2, .int w2), (3, .int w3)]) hx hb dX7_tilesOf_16 hl (Nat.le_of_ble_eq_true rfl) rfl (fun ls hl => ?_)
      exact (qk_X7_tilesOf_18 cx hret (qk_X7_tilesOf_59 cx hret ih) rx_FU) hw (lv_sub hl [2, 3, 4, 5, 1, 0] rfl) hf
set_option maxRecDepth 100000 in
set_option maxHeartbeats 4000000 in
theorem qk_X7_tilesOf_0 (cx : rx_C p m c cX7_tilesOf 6 s args wX7_tilesOf RX7 D vwCl (tY cI cL) [] wN A) (hret : rx_RI p l e rm_X7_tilesOf s m args below meth c cX7_tilesOf D vwCl (wY ad cI cL) A Q o) {w1 : Int32} {ls : Array Slot} {H : Heap} {locs : List Loc} {M : Me} (hw : rx_W D vwCl (wY ad cI cL) A s.heap M H locs) (hl : lv_has ls 6 [(0, .ref ((ad 0))), (1, .int w1)]) (hf : qf_X7_tilesOf w1 M = some o) : W p l e rm_X7_tilesOf s m args below meth c H locs 0 0 Q (F0 m 0 ls []) := by
  have hx := cx.1.1
  have hb := cx.1.2.1
  refine lv_iconst (v := 0) hx hb dX7_tilesOf_0 ic_0 ?_
  refine lv_istore_n (lv' := [(2, .int 0), (0, .ref ((ad 0))), (1, .int w1)]) hx hb dX7_tilesOf_1 rfl hl (Nat.le_of_ble_eq_true rfl) rfl (fun ls hl => ?_)
  refine lv_iconst (v := 0) hx hb dX7_tilesOf_2 ic_0 ?_
  refine lv_istore_n (lv' := [(3, .int 0), (2, .int 0), (0, .ref ((ad 0))), (1, .int w1)]) hx hb dX7_tilesOf_3 rfl hl (Nat.le_of_ble_eq_true rfl) rfl (fun ls hl => ?_)
  exact (qk_X7_tilesOf_4 cx hret rx_FU) hw (lv_sub hl [2, 3, 1, 0] rfl) hf
end
set_option maxRecDepth 100000 in
theorem qc_X7_tilesOf (l : Launch) (D : va_G) (ad : Nat → Nat) (cI cL : ClassId) (w1 : Int32) : rx_MI l yX7_tilesOf wX7_tilesOf rm_X7_tilesOf D vwCl (wY ad cI cL) (tY cI cL) [] wN [.ref (ad 0), .int w1] (fun M => qf_X7_tilesOf w1 M) :=
  rx_ofI (by decide) rfl wN_ok (Nat.le_of_ble_eq_true rfl) (fun _ _ _ _ _ _ _ _ _ _ _ _ _ cx hret hw hl hf => qk_X7_tilesOf_0 cx hret hw hl hf)
def rm_X7_shieldsOf : Room := { frames := 0, cells := 0, slots := 0, locals := 0 }
noncomputable def qb_X7_shieldsOf_57 (k4 : Int32 → Int32 → Me → Op) (w1 : Int32) (w3 : Int32) (s0 : Int32) (M : Me) : Op :=
  rx_vv (w3 + 1) fun v1 => k4 s0 v1 M
noncomputable def qo_X7_shieldsOf_4  (w1 : Int32) (rec : Int32 → Int32 → Me → Op) (w2 : Int32) (w3 : Int32) (M : Me) : Op :=
  rx_vv (M 0 9) fun v1 => if (8 * v1) ≤ w3 then (some (w2, M)) else (rx_ld M 15 192 w3 fun v2 => if v2 = w1 then (rx_ld M 8 24 (w3 / 8) fun v3 => rx_ld M 3 96 ((8 * v3) + (w3 - w3 / 8 * 8)) fun v4 => if v4 = 0 then (qb_X7_shieldsOf_57 rec w1 w3 w2 M) else (qb_X7_shieldsOf_57 rec w1 w3 (w2 + 1) M)) else (qb_X7_shieldsOf_57 rec w1 w3 w2 M))
noncomputable def qf_X7_shieldsOf  (w1 : Int32)  (M : Me) : Op :=
  rx_lp2 (qo_X7_shieldsOf_4 w1) rx_FU 0 0 M
section
variable {p : Program} {l : Launch} {e : Env} {s : State} {m : MethodId} {args : Array Value} {below : List Frame} {meth : Method} {c : Code} {Q : State → Prop} {D : va_G} {A : Nat → Prop} {o : Int32 × Me} {ad : Nat → Nat} {cI cL : ClassId} {b1 b2 : Nat}
set_option maxRecDepth 100000 in
set_option maxHeartbeats 4000000 in
theorem qk_X7_shieldsOf_57 (cx : rx_C p m c cX7_shieldsOf 4 s args wX7_shieldsOf RX7 D vwCl (tY cI cL) [] wN A) (hret : rx_RI p l e rm_X7_shieldsOf s m args below meth c cX7_shieldsOf D vwCl (wY ad cI cL) A Q o) {w1 : Int32} {w3 : Int32} {s0 : Int32} {k4 : Int32 → Int32 → Me → Op} (h4 : ∀ {a2 : Int32} {a3 : Int32} {ls : Array Slot} {H : Heap} {locs : List Loc} {M : Me}, rx_W D vwCl (wY ad cI cL) A s.heap M H locs → lv_has ls 4 [(0, .ref ((ad 0))), (1, .int w1), (2, .int a2), (3, .int a3)] → k4 a2 a3 M = some o → W p l e rm_X7_shieldsOf s m args below meth c H locs 0 0 Q (F0 m 4 ls [])) {ls : Array Slot} {H : Heap} {locs : List Loc} {M : Me} (hw : rx_W D vwCl (wY ad cI cL) A s.heap M H locs) (hl : lv_has ls 4 [(0, .ref ((ad 0))), (1, .int w1), (3, .int w3)]) (hf : qb_X7_shieldsOf_57 k4 w1 w3 s0 M = some o) : W p l e rm_X7_shieldsOf s m args below meth c H locs 0 0 Q (F0 m 57 ls [.int s0]) := by
  have hx := cx.1.1
  have hb := cx.1.2.1
  refine lv_istore_n (lv' := [(2, .int s0), (0, .ref ((ad 0))), (1, .int w1), (3, .int w3)]) hx hb dX7_shieldsOf_57 rfl hl (Nat.le_of_ble_eq_true rfl) rfl (fun ls hl => ?_)
  obtain ⟨v1, ev1, hf⟩ := rx_vvI hf
  refine lv_iinc (lv' := [(3, .int v1), (2, .int s0), (0, .ref ((ad 0))), (1, .int w1)]) hx hb dX7_shieldsOf_58 hl (k := 3) rfl (rx_inc ic_1 ev1) (Nat.le_of_ble_eq_true rfl) rfl (fun ls hl => ?_)
  refine lv_goto hx hb dX7_shieldsOf_61 rfl ?_
  exact h4 hw (lv_sub hl [2, 3, 1, 0] rfl) hf
set_option maxRecDepth 100000 in
set_option maxHeartbeats 4000000 in
theorem qk_X7_shieldsOf_4 (cx : rx_C p m c cX7_shieldsOf 4 s args wX7_shieldsOf RX7 D vwCl (tY cI cL) [] wN A) (hret : rx_RI p l e rm_X7_shieldsOf s m args below meth c cX7_shieldsOf D vwCl (wY ad cI cL) A Q o) {w1 : Int32} : ∀ (n : Nat) {w2 : Int32} {w3 : Int32} {ls : Array Slot} {H : Heap} {locs : List Loc} {M : Me}, rx_W D vwCl (wY ad cI cL) A s.heap M H locs → lv_has ls 4 [(0, .ref ((ad 0))), (1, .int w1), (2, .int w2), (3, .int w3)] → rx_lp2 (qo_X7_shieldsOf_4 w1) n w2 w3 M = some o → W p l e rm_X7_shieldsOf s m args below meth c H locs 0 0 Q (F0 m 4 ls []) := by
  have hx := cx.1.1
  have hb := cx.1.2.1
  intro n
  induction n with
  | zero => intro w2 w3 ls H locs M hw hl hf; exact rx_no hf
  | succ n ih =>
    intro w2 w3 ls H locs M hw hl hf
    have hf : qo_X7_shieldsOf_4 w1 (rx_lp2 (qo_X7_shieldsOf_4 w1) n) w2 w3 M = some o := hf
    refine lv_iload_n hx hb dX7_shieldsOf_4 rfl (lv_at hl 3 rfl) ?_
    refine lv_bipush (v := 8) hx hb dX7_shieldsOf_5 ib_8 ?_
    refine lv_aload_n hx hb dX7_shieldsOf_7 rfl (lv_at hl 0 rfl) ?_
    obtain ⟨v1, ev1, hf⟩ := rx_vvI hf
    refine rx_geti cx hw (fiY_0_9 ad cI cL) rfl (inT_X7) (Nat.le_of_ble_eq_true rfl) (.tail _ tw_670) ev1 dX7_shieldsOf_8 ?_
    refine lv_imul hx hb dX7_shieldsOf_11 ?_
    refine lv_icmp_ge hx hb dX7_shieldsOf_12 rfl (fun hc => ?_) (fun hc => ?_)
    · have hf := rx_t hc hf
      refine lv_iload_n hx hb dX7_shieldsOf_64 rfl (lv_at hl 2 rfl) ?_
      exact rx_reti hret hw hf dX7_shieldsOf_65
    · have hf := rx_f hc hf
      refine lv_aload_n hx hb dX7_shieldsOf_15 rfl (lv_at hl 0 rfl) ?_
      refine rx_getr cx hw (frY_0_25 ad cI cL) rfl (inT_X7) (Nat.le_of_ble_eq_true rfl) (.tail _ tw_686) dX7_shieldsOf_16 ?_
      refine lv_iload_n hx hb dX7_shieldsOf_19 rfl (lv_at hl 3 rfl) ?_
      obtain ⟨hv2, v2, ev2, hf⟩ := rx_ldI hf
      refine rx_iald cx hw (arY_15 ad cI cL) ⟨hv2, ev2⟩ dX7_shieldsOf_20 ?_
      refine lv_iload_n hx hb dX7_shieldsOf_21 rfl (lv_at hl 1 rfl) ?_
      refine lv_icmp_ne hx hb dX7_shieldsOf_22 rfl (fun hc => ?_) (fun hc => ?_)
      · have hf := rx_f hc hf
        refine lv_iload_n hx hb dX7_shieldsOf_56 rfl (lv_at hl 2 rfl) ?_
        exact (qk_X7_shieldsOf_57 cx hret ih) hw (lv_sub hl [0, 1, 3] rfl) hf
      · have hf := rx_t hc hf
        refine lv_aload_n hx hb dX7_shieldsOf_25 rfl (lv_at hl 0 rfl) ?_
        refine rx_getr cx hw (frY_0_3 ad cI cL) rfl (inT_X7) (Nat.le_of_ble_eq_true rfl) (.tail _ tw_664) dX7_shieldsOf_26 ?_
        refine lv_bipush (v := 8) hx hb dX7_shieldsOf_29 ib_8 ?_
        refine lv_aload_n hx hb dX7_shieldsOf_31 rfl (lv_at hl 0 rfl) ?_
        refine rx_getr cx hw (frY_0_12 ad cI cL) rfl (inT_X7) (Nat.le_of_ble_eq_true rfl) (.tail _ tw_673) dX7_shieldsOf_32 ?_
        refine lv_iload_n hx hb dX7_shieldsOf_35 rfl (lv_at hl 3 rfl) ?_
        refine lv_bipush (v := 8) hx hb dX7_shieldsOf_36 ib_8 ?_
        refine lv_idiv hx hb dX7_shieldsOf_38 nz_8 ?_
        obtain ⟨hv3, v3, ev3, hf⟩ := rx_ldI hf
        refine rx_iald cx hw (arY_8 ad cI cL) ⟨hv3, ev3⟩ dX7_shieldsOf_39 ?_
        refine lv_imul hx hb dX7_shieldsOf_40 ?_
        refine lv_iload_n hx hb dX7_shieldsOf_41 rfl (lv_at hl 3 rfl) ?_
        refine lv_bipush (v := 8) hx hb dX7_shieldsOf_42 ib_8 ?_
        refine lv_irem hx hb dX7_shieldsOf_44 nz_8 ?_
        refine lv_iadd hx hb dX7_shieldsOf_45 ?_
        obtain ⟨hv4, v4, ev4, hf⟩ := rx_ldI hf
        refine rx_zald cx hw (arY_3 ad cI cL) ⟨hv4, ev4⟩ dX7_shieldsOf_46 ?_
        refine lv_if_eq hx hb dX7_shieldsOf_47 rfl (fun hc => ?_) (fun hc => ?_)
        · have hf := rx_t hc hf
          refine lv_iload_n hx hb dX7_shieldsOf_56 rfl (lv_at hl 2 rfl) ?_
          exact (qk_X7_shieldsOf_57 cx hret ih) hw (lv_sub hl [0, 1, 3] rfl) hf
        · have hf := rx_f hc hf
          refine lv_iload_n hx hb dX7_shieldsOf_50 rfl (lv_at hl 2 rfl) ?_
          refine lv_iconst (v := 1) hx hb dX7_shieldsOf_51 ic_1 ?_
          refine lv_iadd hx hb dX7_shieldsOf_52 ?_
          refine lv_goto hx hb dX7_shieldsOf_53 rfl ?_
          exact (qk_X7_shieldsOf_57 cx hret ih) hw (lv_sub hl [0, 1, 3] rfl) hf
set_option maxRecDepth 100000 in
set_option maxHeartbeats 4000000 in
theorem qk_X7_shieldsOf_0 (cx : rx_C p m c cX7_shieldsOf 4 s args wX7_shieldsOf RX7 D vwCl (tY cI cL) [] wN A) (hret : rx_RI p l e rm_X7_shieldsOf s m args below meth c cX7_shieldsOf D vwCl (wY ad cI cL) A Q o) {w1 : Int32} {ls : Array Slot} {H : Heap} {locs : List Loc} {M : Me} (hw : rx_W D vwCl (wY ad cI cL) A s.heap M H locs) (hl : lv_has ls 4 [(0, .ref ((ad 0))), (1, .int w1)]) (hf : qf_X7_shieldsOf w1 M = some o) : W p l e rm_X7_shieldsOf s m args below meth c H locs 0 0 Q (F0 m 0 ls []) := by
  have hx := cx.1.1
  have hb := cx.1.2.1
  refine lv_iconst (v := 0) hx hb dX7_shieldsOf_0 ic_0 ?_
  refine lv_istore_n (lv' := [(2, .int 0), (0, .ref ((ad 0))), (1, .int w1)]) hx hb dX7_shieldsOf_1 rfl hl (Nat.le_of_ble_eq_true rfl) rfl (fun ls hl => ?_)
  refine lv_iconst (v := 0) hx hb dX7_shieldsOf_2 ic_0 ?_
  refine lv_istore_n (lv' := [(3, .int 0), (2, .int 0), (0, .ref ((ad 0))), (1, .int w1)]) hx hb dX7_shieldsOf_3 rfl hl (Nat.le_of_ble_eq_true rfl) rfl (fun ls hl => ?_)
  exact (qk_X7_shieldsOf_4 cx hret rx_FU) hw (lv_sub hl [2, 3, 1, 0] rfl) hf
end
set_option maxRecDepth 100000 in
theorem qc_X7_shieldsOf (l : Launch) (D : va_G) (ad : Nat → Nat) (cI cL : ClassId) (w1 : Int32) : rx_MI l yX7_shieldsOf wX7_shieldsOf rm_X7_shieldsOf D vwCl (wY ad cI cL) (tY cI cL) [] wN [.ref (ad 0), .int w1] (fun M => qf_X7_shieldsOf w1 M) :=
  rx_ofI (by decide) rfl wN_ok (Nat.le_of_ble_eq_true rfl) (fun _ _ _ _ _ _ _ _ _ _ _ _ _ cx hret hw hl hf => qk_X7_shieldsOf_0 cx hret hw hl hf)
def rm_X7_score : Room := { frames := 5, cells := 0, slots := 0, locals := 114 }
noncomputable def qb_X7_score_108 (k67 : Int32 → Int32 → Me → Op) (w1 : Int32) (w3 : Int32) (w4 : Int32) (w5 : Int32)  (M : Me) : Op :=
  rx_vv (w5 + 1) fun v1 => k67 w4 v1 M
noncomputable def qo_X7_score_67 (k114 : Int32 → Me → Op) (w1 : Int32) (w3 : Int32) (rec : Int32 → Int32 → Me → Op) (w4 : Int32) (w5 : Int32) (M : Me) : Op :=
  rx_vv (M 0 8) fun v1 => if v1 ≤ w5 then (k114 w4 M) else (rx_cl (qf_X7_isFirst w1 w5 M) fun r2 M3 => if r2 = 0 then (qb_X7_score_108 rec w1 w3 w4 w5 M3) else (rx_ld M3 12 3 w5 fun v4 => rx_sv M3 12 3 w5 (v4 + w3) fun M5 => rx_vv (w4 + w3) fun v6 => qb_X7_score_108 rec w1 w3 v6 w5 M5))
noncomputable def qb_X7_score_174 (k117 : Int32 → Me → Op) (w1 : Int32) (w4 : Int32) (w5 : Int32)  (M : Me) : Op :=
  rx_vv (w5 + 1) fun v1 => k117 v1 M
noncomputable def qo_X7_score_117  (w1 : Int32) (w4 : Int32) (rec : Int32 → Me → Op) (w5 : Int32) (M : Me) : Op :=
  rx_vv (M 0 9) fun v1 => if (8 * v1) ≤ w5 then (some (w4, M)) else (rx_ld M 15 192 w5 fun v2 => if v2 = w1 then (rx_ld M 11 192 w5 fun v3 => if v3 < 0 then (qb_X7_score_174 rec w1 w4 w5 M) else (rx_ld M 11 192 w5 fun v4 => rx_ld M 13 3 v4 fun v5 => rx_sv M 13 3 v4 (v5 + 1) fun M6 => rx_sv M6 11 192 w5 (-1) fun M7 => qb_X7_score_174 rec w1 w4 w5 M7)) else (qb_X7_score_174 rec w1 w4 w5 M))
noncomputable def qb_X7_score_114  (w1 : Int32) (w4 : Int32)  (M : Me) : Op :=
  rx_lp1 (qo_X7_score_117 w1 w4) rx_FU 0 M
noncomputable def qb_X7_score_60  (w1 : Int32) (s0 : Int32) (M : Me) : Op :=
  rx_lp2 (qo_X7_score_67 (fun a4 M => qb_X7_score_114 w1 a4 M) w1 s0) rx_FU 0 0 M
noncomputable def qf_X7_score  (w1 : Int32)  (M : Me) : Op :=
  rx_cl (qf_X7_isFinished w1 M) fun r1 M2 => if r1 = 0 then (some (0, M2)) else (rx_cl (qf_X7_hasFollowers w1 M2) fun r3 M4 => if r3 = 0 then (some (0, M4)) else (rx_cl (qf_X7_kindOfPiece w1 M4) fun r5 M6 => if r5 = 1 then (rx_cl (qf_X7_tilesOf w1 M6) fun r9 M10 => rx_cl (qf_X7_shieldsOf w1 M10) fun r11 M12 => qb_X7_score_60 w1 (2 * (r9 + r11)) M12) else (if r5 = 2 then (rx_cl (qf_X7_tilesOf w1 M6) fun r7 M8 => qb_X7_score_60 w1 r7 M8) else (qb_X7_score_60 w1 9 M6))))
section
variable {p : Program} {l : Launch} {e : Env} {s : State} {m : MethodId} {args : Array Value} {below : List Frame} {meth : Method} {c : Code} {Q : State → Prop} {D : va_G} {A : Nat → Prop} {o : Int32 × Me} {ad : Nat → Nat} {cI cL : ClassId} {b1 b2 : Nat}
set_option maxRecDepth 100000 in
set_option maxHeartbeats 4000000 in
theorem qk_X7_score_108 (cx : rx_C p m c cX7_score 6 s args wX7_score RX7 D vwCl (tY cI cL) [] wN A) (hret : rx_RI p l e rm_X7_score s m args below meth c cX7_score D vwCl (wY ad cI cL) A Q o) {w1 : Int32} {w3 : Int32} {w4 : Int32} {w5 : Int32} {k67 : Int32 → Int32 → Me → Op} (h67 : ∀ {a4 : Int32} {a5 : Int32} {ls : Array Slot} {H : Heap} {locs : List Loc} {M : Me}, rx_W D vwCl (wY ad cI cL) A s.heap M H locs → lv_has ls 6 [(0, .ref ((ad 0))), (1, .int w1), (3, .int w3), (4, .int a4), (5, .int a5)] → k67 a4 a5 M = some o → W p l e rm_X7_score s m args below meth c H locs 0 0 Q (F0 m 67 ls [])) {ls : Array Slot} {H : Heap} {locs : List Loc} {M : Me} (hw : rx_W D vwCl (wY ad cI cL) A s.heap M H locs) (hl : lv_has ls 6 [(0, .ref ((ad 0))), (1, .int w1), (3, .int w3), (4, .int w4), (5, .int w5)]) (hf : qb_X7_score_108 k67 w1 w3 w4 w5 M = some o) : W p l e rm_X7_score s m args below meth c H locs 0 0 Q (F0 m 108 ls []) := by
  have hx := cx.1.1
  have hb := cx.1.2.1
  obtain ⟨v1, ev1, hf⟩ := rx_vvI hf
  refine lv_iinc (lv' := [(5, .int v1), (0, .ref ((ad 0))), (1, .int w1), (3, .int w3), (4, .int w4)]) hx hb dX7_score_108 hl (k := 4) rfl (rx_inc ic_1 ev1) (Nat.le_of_ble_eq_true rfl) rfl (fun ls hl => ?_)
  refine lv_goto hx hb dX7_score_111 rfl ?_
  exact h67 hw (lv_sub hl [1, 2, 3, 4, 0] rfl) hf
set_option maxRecDepth 100000 in
set_option maxHeartbeats 4000000 in
theorem qk_X7_score_67 (cx : rx_C p m c cX7_score 6 s args wX7_score RX7 D vwCl (tY cI cL) [] wN A) (hret : rx_RI p l e rm_X7_score s m args below meth c cX7_score D vwCl (wY ad cI cL) A Q o) {w1 : Int32} {w3 : Int32} {k114 : Int32 → Me → Op} (h114 : ∀ {a4 : Int32} {ls : Array Slot} {H : Heap} {locs : List Loc} {M : Me}, rx_W D vwCl (wY ad cI cL) A s.heap M H locs → lv_has ls 6 [(0, .ref ((ad 0))), (1, .int w1), (4, .int a4)] → k114 a4 M = some o → W p l e rm_X7_score s m args below meth c H locs 0 0 Q (F0 m 114 ls [])) : ∀ (n : Nat) {w4 : Int32} {w5 : Int32} {ls : Array Slot} {H : Heap} {locs : List Loc} {M : Me}, rx_W D vwCl (wY ad cI cL) A s.heap M H locs → lv_has ls 6 [(0, .ref ((ad 0))), (1, .int w1), (3, .int w3), (4, .int w4), (5, .int w5)] → rx_lp2 (qo_X7_score_67 k114 w1 w3) n w4 w5 M = some o → W p l e rm_X7_score s m args below meth c H locs 0 0 Q (F0 m 67 ls []) := by
  have hx := cx.1.1
  have hb := cx.1.2.1
  intro n
  induction n with
  | zero => intro w4 w5 ls H locs M hw hl hf; exact rx_no hf
  | succ n ih =>
    intro w4 w5 ls H locs M hw hl hf
    have hf : qo_X7_score_67 k114 w1 w3 (rx_lp2 (qo_X7_score_67 k114 w1 w3) n) w4 w5 M = some o := hf
    refine lv_iload hx hb dX7_score_67 (lv_at hl 4 rfl) ?_
    refine lv_aload_n hx hb dX7_score_69 rfl (lv_at hl 0 rfl) ?_
    obtain ⟨v1, ev1, hf⟩ := rx_vvI hf
    refine rx_geti cx hw (fiY_0_8 ad cI cL) rfl (inT_X7) (Nat.le_of_ble_eq_true rfl) (.tail _ tw_669) ev1 dX7_score_70 ?_
    refine lv_icmp_ge hx hb dX7_score_73 rfl (fun hc => ?_) (fun hc => ?_)
    · have hf := rx_t hc hf
      exact h114 hw (lv_sub hl [0, 1, 3] rfl) hf
    · have hf := rx_f hc hf
      refine lv_aload_n hx hb dX7_score_76 rfl (lv_at hl 0 rfl) ?_
      refine lv_iload_n hx hb dX7_score_77 rfl (lv_at hl 1 rfl) ?_
      refine lv_iload hx hb dX7_score_78 (lv_at hl 4 rfl) ?_
      obtain ⟨r2, M3, er2, hf⟩ := rx_clI hf
      refine rx_jVi cx hw (qc_X7_isFirst l D ad cI cL w1 w5) (obY_0 ad cI cL) rfl rfl kfX7_isFirst tw_913 ⟨Nat.le_of_ble_eq_true rfl, Nat.le_of_ble_eq_true rfl, rfl, rfl⟩ rfl hl.1 (Nat.le_of_ble_eq_true rfl) ⟨Nat.zero_le _, Nat.zero_le _⟩ dX7_score_80 rfl er2 (fun H locs hw => ?_)
      refine lv_if_eq hx hb dX7_score_83 rfl (fun hc => ?_) (fun hc => ?_)
      · have hf := rx_t hc hf
        exact (qk_X7_score_108 cx hret ih) hw hl hf
      · have hf := rx_f hc hf
        refine lv_aload_n hx hb dX7_score_86 rfl (lv_at hl 0 rfl) ?_
        refine rx_getr cx hw (frY_0_16 ad cI cL) rfl (inT_X7) (Nat.le_of_ble_eq_true rfl) (.tail _ tw_677) dX7_score_87 ?_
        refine lv_iload hx hb dX7_score_90 (lv_at hl 4 rfl) ?_
        refine lv_aload_n hx hb dX7_score_92 rfl (lv_at hl 0 rfl) ?_
        refine rx_getr cx hw (frY_0_16 ad cI cL) rfl (inT_X7) (Nat.le_of_ble_eq_true rfl) (.tail _ tw_677) dX7_score_93 ?_
        refine lv_iload hx hb dX7_score_96 (lv_at hl 4 rfl) ?_
        obtain ⟨hv4, v4, ev4, hf⟩ := rx_ldI hf
        refine rx_iald cx hw (arY_12 ad cI cL) ⟨hv4, ev4⟩ dX7_score_98 ?_
        refine lv_iload_n hx hb dX7_score_99 rfl (lv_at hl 2 rfl) ?_
        refine lv_iadd hx hb dX7_score_100 ?_
        obtain ⟨hM5, M5, eM5, hf⟩ := rx_svI hf
        refine rx_iast cx hw (arY_12 ad cI cL) ⟨hM5, eM5⟩ dX7_score_101 (fun H locs hw => ?_)
        refine lv_iload hx hb dX7_score_102 (lv_at hl 3 rfl) ?_
        refine lv_iload_n hx hb dX7_score_104 rfl (lv_at hl 2 rfl) ?_
        refine lv_iadd hx hb dX7_score_105 ?_
        obtain ⟨v6, ev6, hf⟩ := rx_vvI hf
        refine rx_top ev6 ?_
        refine lv_istore (lv' := [(4, .int v6), (0, .ref ((ad 0))), (1, .int w1), (3, .int w3), (5, .int w5)]) hx hb dX7_score_106 hl (Nat.le_of_ble_eq_true rfl) rfl (fun ls hl => ?_)
        exact (qk_X7_score_108 cx hret ih) hw (lv_sub hl [1, 2, 3, 0, 4] rfl) hf
set_option maxRecDepth 100000 in
set_option maxHeartbeats 4000000 in
theorem qk_X7_score_174 (cx : rx_C p m c cX7_score 6 s args wX7_score RX7 D vwCl (tY cI cL) [] wN A) (hret : rx_RI p l e rm_X7_score s m args below meth c cX7_score D vwCl (wY ad cI cL) A Q o) {w1 : Int32} {w4 : Int32} {w5 : Int32} {k117 : Int32 → Me → Op} (h117 : ∀ {a5 : Int32} {ls : Array Slot} {H : Heap} {locs : List Loc} {M : Me}, rx_W D vwCl (wY ad cI cL) A s.heap M H locs → lv_has ls 6 [(0, .ref ((ad 0))), (1, .int w1), (4, .int w4), (5, .int a5)] → k117 a5 M = some o → W p l e rm_X7_score s m args below meth c H locs 0 0 Q (F0 m 117 ls [])) {ls : Array Slot} {H : Heap} {locs : List Loc} {M : Me} (hw : rx_W D vwCl (wY ad cI cL) A s.heap M H locs) (hl : lv_has ls 6 [(0, .ref ((ad 0))), (1, .int w1), (4, .int w4), (5, .int w5)]) (hf : qb_X7_score_174 k117 w1 w4 w5 M = some o) : W p l e rm_X7_score s m args below meth c H locs 0 0 Q (F0 m 174 ls []) := by
  have hx := cx.1.1
  have hb := cx.1.2.1
  obtain ⟨v1, ev1, hf⟩ := rx_vvI hf
  refine lv_iinc (lv' := [(5, .int v1), (0, .ref ((ad 0))), (1, .int w1), (4, .int w4)]) hx hb dX7_score_174 hl (k := 3) rfl (rx_inc ic_1 ev1) (Nat.le_of_ble_eq_true rfl) rfl (fun ls hl => ?_)
  refine lv_goto hx hb dX7_score_177 rfl ?_
  exact h117 hw (lv_sub hl [1, 2, 3, 0] rfl) hf
set_option maxRecDepth 100000 in
set_option maxHeartbeats 4000000 in
theorem qk_X7_score_117 (cx : rx_C p m c cX7_score 6 s args wX7_score RX7 D vwCl (tY cI cL) [] wN A) (hret : rx_RI p l e rm_X7_score s m args below meth c cX7_score D vwCl (wY ad cI cL) A Q o) {w1 : Int32} {w4 : Int32} : ∀ (n : Nat) {w5 : Int32} {ls : Array Slot} {H : Heap} {locs : List Loc} {M : Me}, rx_W D vwCl (wY ad cI cL) A s.heap M H locs → lv_has ls 6 [(0, .ref ((ad 0))), (1, .int w1), (4, .int w4), (5, .int w5)] → rx_lp1 (qo_X7_score_117 w1 w4) n w5 M = some o → W p l e rm_X7_score s m args below meth c H locs 0 0 Q (F0 m 117 ls []) := by
  have hx := cx.1.1
  have hb := cx.1.2.1
  intro n
  induction n with
  | zero => intro w5 ls H locs M hw hl hf; exact rx_no hf
  | succ n ih =>
    intro w5 ls H locs M hw hl hf
    have hf : qo_X7_score_117 w1 w4 (rx_lp1 (qo_X7_score_117 w1 w4) n) w5 M = some o := hf
    refine lv_iload hx hb dX7_score_117 (lv_at hl 3 rfl) ?_
    refine lv_bipush (v := 8) hx hb dX7_score_119 ib_8 ?_
    refine lv_aload_n hx hb dX7_score_121 rfl (lv_at hl 0 rfl) ?_
    obtain ⟨v1, ev1, hf⟩ := rx_vvI hf
    refine rx_geti cx hw (fiY_0_9 ad cI cL) rfl (inT_X7) (Nat.le_of_ble_eq_true rfl) (.tail _ tw_670) ev1 dX7_score_122 ?_
    refine lv_imul hx hb dX7_score_125 ?_
    refine lv_icmp_ge hx hb dX7_score_126 rfl (fun hc => ?_) (fun hc => ?_)
    · have hf := rx_t hc hf
      refine lv_iload hx hb dX7_score_180 (lv_at hl 2 rfl) ?_
      exact rx_reti hret hw hf dX7_score_182
    · have hf := rx_f hc hf
      refine lv_aload_n hx hb dX7_score_129 rfl (lv_at hl 0 rfl) ?_
      refine rx_getr cx hw (frY_0_25 ad cI cL) rfl (inT_X7) (Nat.le_of_ble_eq_true rfl) (.tail _ tw_686) dX7_score_130 ?_
      refine lv_iload hx hb dX7_score_133 (lv_at hl 3 rfl) ?_
      obtain ⟨hv2, v2, ev2, hf⟩ := rx_ldI hf
      refine rx_iald cx hw (arY_15 ad cI cL) ⟨hv2, ev2⟩ dX7_score_135 ?_
      refine lv_iload_n hx hb dX7_score_136 rfl (lv_at hl 1 rfl) ?_
      refine lv_icmp_ne hx hb dX7_score_137 rfl (fun hc => ?_) (fun hc => ?_)
      · have hf := rx_f hc hf
        exact (qk_X7_score_174 cx hret ih) hw hl hf
      · have hf := rx_t hc hf
        refine lv_aload_n hx hb dX7_score_140 rfl (lv_at hl 0 rfl) ?_
        refine rx_getr cx hw (frY_0_15 ad cI cL) rfl (inT_X7) (Nat.le_of_ble_eq_true rfl) (.tail _ tw_676) dX7_score_141 ?_
        refine lv_iload hx hb dX7_score_144 (lv_at hl 3 rfl) ?_
        obtain ⟨hv3, v3, ev3, hf⟩ := rx_ldI hf
        refine rx_iald cx hw (arY_11 ad cI cL) ⟨hv3, ev3⟩ dX7_score_146 ?_
        refine lv_if_lt hx hb dX7_score_147 rfl (fun hc => ?_) (fun hc => ?_)
        · have hf := rx_t hc hf
          exact (qk_X7_score_174 cx hret ih) hw hl hf
        · have hf := rx_f hc hf
          refine lv_aload_n hx hb dX7_score_150 rfl (lv_at hl 0 rfl) ?_
          refine rx_getr cx hw (frY_0_17 ad cI cL) rfl (inT_X7) (Nat.le_of_ble_eq_true rfl) (.tail _ tw_678) dX7_score_151 ?_
          refine lv_aload_n hx hb dX7_score_154 rfl (lv_at hl 0 rfl) ?_
          refine rx_getr cx hw (frY_0_15 ad cI cL) rfl (inT_X7) (Nat.le_of_ble_eq_true rfl) (.tail _ tw_676) dX7_score_155 ?_
          refine lv_iload hx hb dX7_score_158 (lv_at hl 3 rfl) ?_
          obtain ⟨hv4, v4, ev4, hf⟩ := rx_ldI hf
          refine rx_iald cx hw (arY_11 ad cI cL) ⟨hv4, ev4⟩ dX7_score_160 ?_
          refine lv_dup2_11 hx hb dX7_score_161 rfl rfl ?_
          obtain ⟨hv5, v5, ev5, hf⟩ := rx_ldI hf
          refine rx_iald cx hw (arY_13 ad cI cL) ⟨hv5, ev5⟩ dX7_score_162 ?_
          refine lv_iconst (v := 1) hx hb dX7_score_163 ic_1 ?_
          refine lv_iadd hx hb dX7_score_164 ?_
          obtain ⟨hM6, M6, eM6, hf⟩ := rx_svI hf
          refine rx_iast cx hw (arY_13 ad cI cL) ⟨hM6, eM6⟩ dX7_score_165 (fun H locs hw => ?_)
          refine lv_aload_n hx hb dX7_score_166 rfl (lv_at hl 0 rfl) ?_
          refine rx_getr cx hw (frY_0_15 ad cI cL) rfl (inT_X7) (Nat.le_of_ble_eq_true rfl) (.tail _ tw_676) dX7_score_167 ?_
          refine lv_iload hx hb dX7_score_170 (lv_at hl 3 rfl) ?_
          refine lv_iconst (v := (-1)) hx hb dX7_score_172 ic_m1 ?_
          obtain ⟨hM7, M7, eM7, hf⟩ := rx_svI hf
          refine rx_iast cx hw (arY_11 ad cI cL) ⟨hM7, eM7⟩ dX7_score_173 (fun H locs hw => ?_)
          exact (qk_X7_score_174 cx hret ih) hw hl hf
set_option maxRecDepth 100000 in
set_option maxHeartbeats 4000000 in
theorem qk_X7_score_114 (cx : rx_C p m c cX7_score 6 s args wX7_score RX7 D vwCl (tY cI cL) [] wN A) (hret : rx_RI p l e rm_X7_score s m args below meth c cX7_score D vwCl (wY ad cI cL) A Q o) {w1 : Int32} {w4 : Int32} {ls : Array Slot} {H : Heap} {locs : List Loc} {M : Me} (hw : rx_W D vwCl (wY ad cI cL) A s.heap M H locs) (hl : lv_has ls 6 [(0, .ref ((ad 0))), (1, .int w1), (4, .int w4)]) (hf : qb_X7_score_114 w1 w4 M = some o) : W p l e rm_X7_score s m args below meth c H locs 0 0 Q (F0 m 114 ls []) := by
  have hx := cx.1.1
  have hb := cx.1.2.1
  refine lv_iconst (v := 0) hx hb dX7_score_114 ic_0 ?_
  refine lv_istore (lv' := [(5, .int 0), (0, .ref ((ad 0))), (1, .int w1), (4, .int w4)]) hx hb dX7_score_115 hl (Nat.le_of_ble_eq_true rfl) rfl (fun ls hl => ?_)
  exact (qk_X7_score_117 cx hret rx_FU) hw (lv_sub hl [1, 2, 3, 0] rfl) hf
set_option maxRecDepth 100000 in
set_option maxHeartbeats 4000000 in
theorem qk_X7_score_60 (cx : rx_C p m c cX7_score 6 s args wX7_score RX7 D vwCl (tY cI cL) [] wN A) (hret : rx_RI p l e rm_X7_score s m args below meth c cX7_score D vwCl (wY ad cI cL) A Q o) {w1 : Int32} {s0 : Int32} {ls : Array Slot} {H : Heap} {locs : List Loc} {M : Me} (hw : rx_W D vwCl (wY ad cI cL) A s.heap M H locs) (hl : lv_has ls 6 [(0, .ref ((ad 0))), (1, .int w1)]) (hf : qb_X7_score_60 w1 s0 M = some o) : W p l e rm_X7_score s m args below meth c H locs 0 0 Q (F0 m 60 ls [.int s0]) := by
  have hx := cx.1.1
  have hb := cx.1.2.1
  refine lv_istore_n (lv' := [(3, .int s0), (0, .ref ((ad 0))), (1, .int w1)]) hx hb dX7_score_60 rfl hl (Nat.le_of_ble_eq_true rfl) rfl (fun ls hl => ?_)
  refine lv_iconst (v := 0) hx hb dX7_score_61 ic_0 ?_
  refine lv_istore (lv' := [(4, .int 0), (3, .int s0), (0, .ref ((ad 0))), (1, .int w1)]) hx hb dX7_score_62 hl (Nat.le_of_ble_eq_true rfl) rfl (fun ls hl => ?_)
  refine lv_iconst (v := 0) hx hb dX7_score_64 ic_0 ?_
  refine lv_istore (lv' := [(5, .int 0), (4, .int 0), (3, .int s0), (0, .ref ((ad 0))), (1, .int w1)]) hx hb dX7_score_65 hl (Nat.le_of_ble_eq_true rfl) rfl (fun ls hl => ?_)
  exact (qk_X7_score_67 cx hret (qk_X7_score_114 cx hret) rx_FU) hw (lv_sub hl [3, 4, 2, 1, 0] rfl) hf
set_option maxRecDepth 100000 in
set_option maxHeartbeats 4000000 in
theorem qk_X7_score_0 (cx : rx_C p m c cX7_score 6 s args wX7_score RX7 D vwCl (tY cI cL) [] wN A) (hret : rx_RI p l e rm_X7_score s m args below meth c cX7_score D vwCl (wY ad cI cL) A Q o) {w1 : Int32} {ls : Array Slot} {H : Heap} {locs : List Loc} {M : Me} (hw : rx_W D vwCl (wY ad cI cL) A s.heap M H locs) (hl : lv_has ls 6 [(0, .ref ((ad 0))), (1, .int w1)]) (hf : qf_X7_score w1 M = some o) : W p l e rm_X7_score s m args below meth c H locs 0 0 Q (F0 m 0 ls []) := by
  have hx := cx.1.1
  have hb := cx.1.2.1
  refine lv_aload_n hx hb dX7_score_0 rfl (lv_at hl 0 rfl) ?_
  refine lv_iload_n hx hb dX7_score_1 rfl (lv_at hl 1 rfl) ?_
  obtain ⟨r1, M2, er1, hf⟩ := rx_clI hf
  refine rx_jVi cx hw (qc_X7_isFinished l D ad cI cL w1) (obY_0 ad cI cL) rfl rfl kfX7_isFinished tw_893 ⟨Nat.le_of_ble_eq_true rfl, Nat.le_of_ble_eq_true rfl, rfl, rfl⟩ rfl hl.1 (Nat.le_of_ble_eq_true rfl) ⟨Nat.zero_le _, Nat.zero_le _⟩ dX7_score_2 rfl er1 (fun H locs hw => ?_)
  refine lv_if_eq hx hb dX7_score_5 rfl (fun hc => ?_) (fun hc => ?_)
  · have hf := rx_t hc hf
    refine lv_iconst (v := 0) hx hb dX7_score_16 ic_0 ?_
    exact rx_reti hret hw hf dX7_score_17
  · have hf := rx_f hc hf
    refine lv_aload_n hx hb dX7_score_8 rfl (lv_at hl 0 rfl) ?_
    refine lv_iload_n hx hb dX7_score_9 rfl (lv_at hl 1 rfl) ?_
    obtain ⟨r3, M4, er3, hf⟩ := rx_clI hf
    refine rx_jVi cx hw (qc_X7_hasFollowers l D ad cI cL w1) (obY_0 ad cI cL) rfl rfl kfX7_hasFollowers tw_881 ⟨Nat.le_of_ble_eq_true rfl, Nat.le_of_ble_eq_true rfl, rfl, rfl⟩ rfl hl.1 (Nat.le_of_ble_eq_true rfl) ⟨Nat.zero_le _, Nat.zero_le _⟩ dX7_score_10 rfl er3 (fun H locs hw => ?_)
    refine lv_if_ne hx hb dX7_score_13 rfl (fun hc => ?_) (fun hc => ?_)
    · have hf := rx_f hc hf
      refine lv_aload_n hx hb dX7_score_18 rfl (lv_at hl 0 rfl) ?_
      refine lv_iload_n hx hb dX7_score_19 rfl (lv_at hl 1 rfl) ?_
      obtain ⟨r5, M6, er5, hf⟩ := rx_clI hf
      refine rx_jVi cx hw (qc_X7_kindOfPiece l D ad cI cL w1) (obY_0 ad cI cL) rfl rfl kfX7_kindOfPiece tw_873 ⟨Nat.le_of_ble_eq_true rfl, Nat.le_of_ble_eq_true rfl, rfl, rfl⟩ rfl hl.1 (Nat.le_of_ble_eq_true rfl) ⟨Nat.zero_le _, Nat.zero_le _⟩ dX7_score_20 rfl er5 (fun H locs hw => ?_)
      refine lv_istore_n (lv' := [(2, .int r5), (0, .ref ((ad 0))), (1, .int w1)]) hx hb dX7_score_23 rfl hl (Nat.le_of_ble_eq_true rfl) rfl (fun ls hl => ?_)
      refine lv_iload_n hx hb dX7_score_24 rfl (lv_at hl 0 rfl) ?_
      refine lv_iconst (v := 1) hx hb dX7_score_25 ic_1 ?_
      refine lv_icmp_ne hx hb dX7_score_26 rfl (fun hc => ?_) (fun hc => ?_)
      · have hf := rx_f hc hf
        refine lv_iload_n hx hb dX7_score_45 rfl (lv_at hl 0 rfl) ?_
        refine lv_iconst (v := 2) hx hb dX7_score_46 ic_2 ?_
        refine lv_icmp_ne hx hb dX7_score_47 rfl (fun hc => ?_) (fun hc => ?_)
        · have hf := rx_f hc hf
          refine lv_bipush (v := 9) hx hb dX7_score_58 ib_9 ?_
          exact (qk_X7_score_60 cx hret) hw (lv_sub hl [1, 2] rfl) hf
        · have hf := rx_t hc hf
          refine lv_aload_n hx hb dX7_score_50 rfl (lv_at hl 1 rfl) ?_
          refine lv_iload_n hx hb dX7_score_51 rfl (lv_at hl 2 rfl) ?_
          obtain ⟨r7, M8, er7, hf⟩ := rx_clI hf
          refine rx_jVi cx hw (qc_X7_tilesOf l D ad cI cL w1) (obY_0 ad cI cL) rfl rfl kfX7_tilesOf tw_905 ⟨Nat.le_of_ble_eq_true rfl, Nat.le_of_ble_eq_true rfl, rfl, rfl⟩ rfl hl.1 (Nat.le_of_ble_eq_true rfl) ⟨Nat.zero_le _, Nat.zero_le _⟩ dX7_score_52 rfl er7 (fun H locs hw => ?_)
          refine lv_goto hx hb dX7_score_55 rfl ?_
          exact (qk_X7_score_60 cx hret) hw (lv_sub hl [1, 2] rfl) hf
      · have hf := rx_t hc hf
        refine lv_iconst (v := 2) hx hb dX7_score_29 ic_2 ?_
        refine lv_aload_n hx hb dX7_score_30 rfl (lv_at hl 1 rfl) ?_
        refine lv_iload_n hx hb dX7_score_31 rfl (lv_at hl 2 rfl) ?_
        obtain ⟨r9, M10, er9, hf⟩ := rx_clI hf
        refine rx_jVi cx hw (qc_X7_tilesOf l D ad cI cL w1) (obY_0 ad cI cL) rfl rfl kfX7_tilesOf tw_905 ⟨Nat.le_of_ble_eq_true rfl, Nat.le_of_ble_eq_true rfl, rfl, rfl⟩ rfl hl.1 (Nat.le_of_ble_eq_true rfl) ⟨Nat.zero_le _, Nat.zero_le _⟩ dX7_score_32 rfl er9 (fun H locs hw => ?_)
        refine lv_aload_n hx hb dX7_score_35 rfl (lv_at hl 1 rfl) ?_
        refine lv_iload_n hx hb dX7_score_36 rfl (lv_at hl 2 rfl) ?_
        obtain ⟨r11, M12, er11, hf⟩ := rx_clI hf
        refine rx_jVi cx hw (qc_X7_shieldsOf l D ad cI cL w1) (obY_0 ad cI cL) rfl rfl kfX7_shieldsOf tw_909 ⟨Nat.le_of_ble_eq_true rfl, Nat.le_of_ble_eq_true rfl, rfl, rfl⟩ rfl hl.1 (Nat.le_of_ble_eq_true rfl) ⟨Nat.zero_le _, Nat.zero_le _⟩ dX7_score_37 rfl er11 (fun H locs hw => ?_)
        refine lv_iadd hx hb dX7_score_40 ?_
        refine lv_imul hx hb dX7_score_41 ?_
        refine lv_goto hx hb dX7_score_42 rfl ?_
        exact (qk_X7_score_60 cx hret) hw (lv_sub hl [1, 2] rfl) hf
    · have hf := rx_t hc hf
      refine lv_iconst (v := 0) hx hb dX7_score_16 ic_0 ?_
      exact rx_reti hret hw hf dX7_score_17
end
set_option maxRecDepth 100000 in
theorem qc_X7_score (l : Launch) (D : va_G) (ad : Nat → Nat) (cI cL : ClassId) (w1 : Int32) : rx_MI l yX7_score wX7_score rm_X7_score D vwCl (wY ad cI cL) (tY cI cL) [] wN [.ref (ad 0), .int w1] (fun M => qf_X7_score w1 M) :=
  rx_ofI (by decide) rfl wN_ok (Nat.le_of_ble_eq_true rfl) (fun _ _ _ _ _ _ _ _ _ _ _ _ _ cx hret hw hl hf => qk_X7_score_0 cx hret hw hl hf)

def rm_X0_byteIn : Room := { frames := 0, cells := 0, slots := 0, locals := 0 }
noncomputable def qf_X0_byteIn  (w0 : Int64) (w2 : Int32)  (M : Me) : Op :=
  some ((Int64.toInt32 ((Int64.toUInt64 w0 >>> ((Int32.toInt64 (8 * w2)).toUInt64 &&& Int64.toUInt64 63)).toInt64)) &&& 255, M)
section
variable {p : Program} {l : Launch} {e : Env} {s : State} {m : MethodId} {args : Array Value} {below : List Frame} {meth : Method} {c : Code} {Q : State → Prop} {D : va_G} {A : Nat → Prop} {o : Int32 × Me} {ad : Nat → Nat} {cI cL : ClassId} {b1 b2 : Nat}
set_option maxRecDepth 100000 in
set_option maxHeartbeats 4000000 in
theorem qk_X0_byteIn_0 (cx : rx_C p m c cX0_byteIn 3 s args wX0_byteIn RX0 D vwCl (tX cI cL) (zX b1 b2) wN A) (hret : rx_RI p l e rm_X0_byteIn s m args below meth c cX0_byteIn D vwCl (wX ad cI cL) A Q o) {w0 : Int64} {w2 : Int32} {ls : Array Slot} {H : Heap} {locs : List Loc} {M : Me} (hw : rx_W D vwCl (wX ad cI cL) A s.heap M H locs) (hl : lv_has ls 3 [(0, .long w0), (2, .int w2)]) (hf : qf_X0_byteIn w0 w2 M = some o) : W p l e rm_X0_byteIn s m args below meth c H locs 0 0 Q (F0 m 0 ls []) := by
  have hx := cx.1.1
  have hb := cx.1.2.1
  refine lv_lload_n hx hb dX0_byteIn_0 rfl (lv_at hl 0 rfl) ?_
  refine lv_bipush (v := 8) hx hb dX0_byteIn_1 ib_8 ?_
  refine lv_iload_n hx hb dX0_byteIn_3 rfl (lv_at hl 1 rfl) ?_
  refine lv_imul hx hb dX0_byteIn_4 ?_
  refine lv_lushr hx hb dX0_byteIn_5 rfl ?_
  refine lv_l2i hx hb dX0_byteIn_6 rfl ?_
  refine lv_sipush (v := 255) hx hb dX0_byteIn_7 is_255 ?_
  refine lv_iand hx hb dX0_byteIn_10 ?_
  exact rx_reti hret hw hf dX0_byteIn_11
end
set_option maxRecDepth 100000 in
theorem qc_X0_byteIn (l : Launch) (D : va_G) (ad : Nat → Nat) (cI cL : ClassId) (b1 b2 : Nat) (w0 : Int64) (w2 : Int32) : rx_MI l yX0_byteIn wX0_byteIn rm_X0_byteIn D vwCl (wX ad cI cL) (tX cI cL) (zX b1 b2) wN [.long w0, .int w2] (fun M => qf_X0_byteIn w0 w2 M) :=
  rx_ofI (by decide) rfl wN_ok (Nat.le_of_ble_eq_true rfl) (fun _ _ _ _ _ _ _ _ _ _ _ _ _ cx hret hw hl hf => qk_X0_byteIn_0 cx hret hw hl hf)
def rm_X0_kindsAreRight : Room := { frames := 1, cells := 0, slots := 0, locals := 22 }
noncomputable def qb_X0_kindsAreRight_61 (k4 : Int32 → Int32 → Me → Op) (w0 : Int64) (w2 : Int32) (w3 : Int32)  (M : Me) : Op :=
  rx_vv (w3 + 1) fun v1 => k4 w2 v1 M
noncomputable def qb_X0_kindsAreRight_52 (k4 : Int32 → Int32 → Me → Op) (w0 : Int64) (w2 : Int32) (w3 : Int32) (w5 : Int32)  (M : Me) : Op :=
  if w5 = 4 then (rx_vv (w2 + 1) fun v1 => qb_X0_kindsAreRight_61 k4 w0 v1 w3 M) else (qb_X0_kindsAreRight_61 k4 w0 w2 w3 M)
noncomputable def qo_X0_kindsAreRight_4 (k67 : Int32 → Me → Op) (w0 : Int64) (rec : Int32 → Int32 → Me → Op) (w2 : Int32) (w3 : Int32) (M : Me) : Op :=
  if 8 ≤ w3 then (k67 w2 M) else (rx_cl (qf_X0_byteIn w0 w3 M) fun r1 M2 => rx_vv (r1 &&& 7) fun v3 => if 15 < r1 then (rx_zb 0 (some (0, M2))) else (if 4 < v3 then (rx_zb 0 (some (0, M2))) else (if r1 < 8 then (qb_X0_kindsAreRight_52 rec w0 w2 w3 v3 M2) else (if v3 = 1 then (qb_X0_kindsAreRight_52 rec w0 w2 w3 v3 M2) else (rx_zb 0 (some (0, M2)))))))
noncomputable def qb_X0_kindsAreRight_67  (w2 : Int32)  (M : Me) : Op :=
  if 1 < w2 then (rx_zb 0 (some (0, M))) else (rx_zb 1 (some (1, M)))
noncomputable def qf_X0_kindsAreRight  (w0 : Int64)  (M : Me) : Op :=
  rx_lp2 (qo_X0_kindsAreRight_4 (fun a2 M => qb_X0_kindsAreRight_67 a2 M) w0) rx_FU 0 0 M
section
variable {p : Program} {l : Launch} {e : Env} {s : State} {m : MethodId} {args : Array Value} {below : List Frame} {meth : Method} {c : Code} {Q : State → Prop} {D : va_G} {A : Nat → Prop} {o : Int32 × Me} {ad : Nat → Nat} {cI cL : ClassId} {b1 b2 : Nat}
set_option maxRecDepth 100000 in
set_option maxHeartbeats 4000000 in
theorem qk_X0_kindsAreRight_61 (cx : rx_C p m c cX0_kindsAreRight 6 s args wX0_kindsAreRight RX0 D vwCl (tX cI cL) (zX b1 b2) wN A) (hret : rx_RZ p l e rm_X0_kindsAreRight s m args below meth c cX0_kindsAreRight D vwCl (wX ad cI cL) A Q o) {w0 : Int64} {w2 : Int32} {w3 : Int32} {k4 : Int32 → Int32 → Me → Op} (h4 : ∀ {a2 : Int32} {a3 : Int32} {ls : Array Slot} {H : Heap} {locs : List Loc} {M : Me}, rx_W D vwCl (wX ad cI cL) A s.heap M H locs → lv_has ls 6 [(0, .long w0), (2, .int a2), (3, .int a3)] → k4 a2 a3 M = some o → W p l e rm_X0_kindsAreRight s m args below meth c H locs 0 0 Q (F0 m 4 ls [])) {ls : Array Slot} {H : Heap} {locs : List Loc} {M : Me} (hw : rx_W D vwCl (wX ad cI cL) A s.heap M H locs) (hl : lv_has ls 6 [(0, .long w0), (2, .int w2), (3, .int w3)]) (hf : qb_X0_kindsAreRight_61 k4 w0 w2 w3 M = some o) : W p l e rm_X0_kindsAreRight s m args below meth c H locs 0 0 Q (F0 m 61 ls []) := by
  have hx := cx.1.1
  have hb := cx.1.2.1
  obtain ⟨v1, ev1, hf⟩ := rx_vvI hf
  refine lv_iinc (lv' := [(3, .int v1), (0, .long w0), (2, .int w2)]) hx hb dX0_kindsAreRight_61 hl (k := 2) rfl (rx_inc ic_1 ev1) (Nat.le_of_ble_eq_true rfl) rfl (fun ls hl => ?_)
  refine lv_goto hx hb dX0_kindsAreRight_64 rfl ?_
  exact h4 hw (lv_sub hl [1, 2, 0] rfl) hf
set_option maxRecDepth 100000 in
set_option maxHeartbeats 4000000 in
theorem qk_X0_kindsAreRight_52 (cx : rx_C p m c cX0_kindsAreRight 6 s args wX0_kindsAreRight RX0 D vwCl (tX cI cL) (zX b1 b2) wN A) (hret : rx_RZ p l e rm_X0_kindsAreRight s m args below meth c cX0_kindsAreRight D vwCl (wX ad cI cL) A Q o) {w0 : Int64} {w2 : Int32} {w3 : Int32} {w5 : Int32} {k4 : Int32 → Int32 → Me → Op} (h4 : ∀ {a2 : Int32} {a3 : Int32} {ls : Array Slot} {H : Heap} {locs : List Loc} {M : Me}, rx_W D vwCl (wX ad cI cL) A s.heap M H locs → lv_has ls 6 [(0, .long w0), (2, .int a2), (3, .int a3)] → k4 a2 a3 M = some o → W p l e rm_X0_kindsAreRight s m args below meth c H locs 0 0 Q (F0 m 4 ls [])) {ls : Array Slot} {H : Heap} {locs : List Loc} {M : Me} (hw : rx_W D vwCl (wX ad cI cL) A s.heap M H locs) (hl : lv_has ls 6 [(0, .long w0), (2, .int w2), (3, .int w3), (5, .int w5)]) (hf : qb_X0_kindsAreRight_52 k4 w0 w2 w3 w5 M = some o) : W p l e rm_X0_kindsAreRight s m args below meth c H locs 0 0 Q (F0 m 52 ls []) := by
  have hx := cx.1.1
  have hb := cx.1.2.1
  refine lv_iload hx hb dX0_kindsAreRight_52 (lv_at hl 3 rfl) ?_
  refine lv_iconst (v := 4) hx hb dX0_kindsAreRight_54 ic_4 ?_
  refine lv_icmp_ne hx hb dX0_kindsAreRight_55 rfl (fun hc => ?_) (fun hc => ?_)
  · have hf := rx_f hc hf
    exact (qk_X0_kindsAreRight_61 cx hret h4) hw (lv_sub hl [0, 1, 2] rfl) hf
  · have hf := rx_t hc hf
    obtain ⟨v1, ev1, hf⟩ := rx_vvI hf
    refine lv_iinc (lv' := [(2, .int v1), (0, .long w0), (3, .int w3), (5, .int w5)]) hx hb dX0_kindsAreRight_58 hl (k := 1) rfl (rx_inc ic_1 ev1) (Nat.le_of_ble_eq_true rfl) rfl (fun ls hl => ?_)
    exact (qk_X0_kindsAreRight_61 cx hret h4) hw (lv_sub hl [1, 0, 2] rfl) hf
set_option maxRecDepth 100000 in
set_option maxHeartbeats 4000000 in
theorem qk_X0_kindsAreRight_4 (cx : rx_C p m c cX0_kindsAreRight 6 s args wX0_kindsAreRight RX0 D vwCl (tX cI cL) (zX b1 b2) wN A) (hret : rx_RZ p l e rm_X0_kindsAreRight s m args below meth c cX0_kindsAreRight D vwCl (wX ad cI cL) A Q o) {w0 : Int64} {k67 : Int32 → Me → Op} (h67 : ∀ {a2 : Int32} {ls : Array Slot} {H : Heap} {locs : List Loc} {M : Me}, rx_W D vwCl (wX ad cI cL) A s.heap M H locs → lv_has ls 6 [(2, .int a2)] → k67 a2 M = some o → W p l e rm_X0_kindsAreRight s m args below meth c H locs 0 0 Q (F0 m 67 ls [])) : ∀ (n : Nat) {w2 : Int32} {w3 : Int32} {ls : Array Slot} {H : Heap} {locs : List Loc} {M : Me}, rx_W D vwCl (wX ad cI cL) A s.heap M H locs → lv_has ls 6 [(0, .long w0), (2, .int w2), (3, .int w3)] → rx_lp2 (qo_X0_kindsAreRight_4 k67 w0) n w2 w3 M = some o → W p l e rm_X0_kindsAreRight s m args below meth c H locs 0 0 Q (F0 m 4 ls []) := by
  have hx := cx.1.1
  have hb := cx.1.2.1
  intro n
  induction n with
  | zero => intro w2 w3 ls H locs M hw hl hf; exact rx_no hf
  | succ n ih =>
    intro w2 w3 ls H locs M hw hl hf
    have hf : qo_X0_kindsAreRight_4 k67 w0 (rx_lp2 (qo_X0_kindsAreRight_4 k67 w0) n) w2 w3 M = some o := hf
    refine lv_iload_n hx hb dX0_kindsAreRight_4 rfl (lv_at hl 2 rfl) ?_
    refine lv_bipush (v := 8) hx hb dX0_kindsAreRight_5 ib_8 ?_
    refine lv_icmp_ge hx hb dX0_kindsAreRight_7 rfl (fun hc => ?_) (fun hc => ?_)
    · have hf := rx_t hc hf
      exact h67 hw (lv_sub hl [1] rfl) hf
    · have hf := rx_f hc hf
      refine lv_lload_n hx hb dX0_kindsAreRight_10 rfl (lv_at hl 0 rfl) ?_
      refine lv_iload_n hx hb dX0_kindsAreRight_11 rfl (lv_at hl 2 rfl) ?_
      obtain ⟨r1, M2, er1, hf⟩ := rx_clI hf
      refine rx_jSi cx hw (qc_X0_byteIn l D ad cI cL b1 b2 w0 w3) kfX0_byteIn tw_327 ⟨Nat.le_of_ble_eq_true rfl, Nat.le_of_ble_eq_true rfl, rfl, rfl⟩ rfl hl.1 (Nat.le_of_ble_eq_true rfl) ⟨Nat.zero_le _, Nat.zero_le _⟩ dX0_kindsAreRight_12 rfl er1 (fun H locs hw => ?_)
      refine lv_istore (lv' := [(4, .int r1), (0, .long w0), (2, .int w2), (3, .int w3)]) hx hb dX0_kindsAreRight_15 hl (Nat.le_of_ble_eq_true rfl) rfl (fun ls hl => ?_)
      refine lv_iload hx hb dX0_kindsAreRight_17 (lv_at hl 0 rfl) ?_
      refine lv_bipush (v := 7) hx hb dX0_kindsAreRight_19 ib_7 ?_
      refine lv_iand hx hb dX0_kindsAreRight_21 ?_
      obtain ⟨v3, ev3, hf⟩ := rx_vvI hf
      refine rx_top ev3 ?_
      refine lv_istore (lv' := [(5, .int v3), (4, .int r1), (0, .long w0), (2, .int w2), (3, .int w3)]) hx hb dX0_kindsAreRight_22 hl (Nat.le_of_ble_eq_true rfl) rfl (fun ls hl => ?_)
      refine lv_iload hx hb dX0_kindsAreRight_24 (lv_at hl 1 rfl) ?_
      refine lv_bipush (v := 15) hx hb dX0_kindsAreRight_26 ib_15 ?_
      refine lv_icmp_gt hx hb dX0_kindsAreRight_28 rfl (fun hc => ?_) (fun hc => ?_)
      · have hf := rx_t hc hf
        refine lv_iconst (v := 0) hx hb dX0_kindsAreRight_50 ic_0 ?_
        exact rx_retz hret hw hf dX0_kindsAreRight_51
      · have hf := rx_f hc hf
        refine lv_iload hx hb dX0_kindsAreRight_31 (lv_at hl 0 rfl) ?_
        refine lv_iconst (v := 4) hx hb dX0_kindsAreRight_33 ic_4 ?_
        refine lv_icmp_gt hx hb dX0_kindsAreRight_34 rfl (fun hc => ?_) (fun hc => ?_)
        · have hf := rx_t hc hf
          refine lv_iconst (v := 0) hx hb dX0_kindsAreRight_50 ic_0 ?_
          exact rx_retz hret hw hf dX0_kindsAreRight_51
        · have hf := rx_f hc hf
          refine lv_iload hx hb dX0_kindsAreRight_37 (lv_at hl 1 rfl) ?_
          refine lv_bipush (v := 8) hx hb dX0_kindsAreRight_39 ib_8 ?_
          refine lv_icmp_lt hx hb dX0_kindsAreRight_41 rfl (fun hc => ?_) (fun hc => ?_)
          · have hf := rx_t hc hf
            exact (qk_X0_kindsAreRight_52 cx hret ih) hw (lv_sub hl [2, 3, 4, 0] rfl) hf
          · have hf := rx_f hc hf
            refine lv_iload hx hb dX0_kindsAreRight_44 (lv_at hl 0 rfl) ?_
            refine lv_iconst (v := 1) hx hb dX0_kindsAreRight_46 ic_1 ?_
            refine lv_icmp_eq hx hb dX0_kindsAreRight_47 rfl (fun hc => ?_) (fun hc => ?_)
            · have hf := rx_t hc hf
              exact (qk_X0_kindsAreRight_52 cx hret ih) hw (lv_sub hl [2, 3, 4, 0] rfl) hf
            · have hf := rx_f hc hf
              refine lv_iconst (v := 0) hx hb dX0_kindsAreRight_50 ic_0 ?_
              exact rx_retz hret hw hf dX0_kindsAreRight_51
set_option maxRecDepth 100000 in
set_option maxHeartbeats 4000000 in
theorem qk_X0_kindsAreRight_67 (cx : rx_C p m c cX0_kindsAreRight 6 s args wX0_kindsAreRight RX0 D vwCl (tX cI cL) (zX b1 b2) wN A) (hret : rx_RZ p l e rm_X0_kindsAreRight s m args below meth c cX0_kindsAreRight D vwCl (wX ad cI cL) A Q o) {w2 : Int32} {ls : Array Slot} {H : Heap} {locs : List Loc} {M : Me} (hw : rx_W D vwCl (wX ad cI cL) A s.heap M H locs) (hl : lv_has ls 6 [(2, .int w2)]) (hf : qb_X0_kindsAreRight_67 w2 M = some o) : W p l e rm_X0_kindsAreRight s m args below meth c H locs 0 0 Q (F0 m 67 ls []) := by
  have hx := cx.1.1
  have hb := cx.1.2.1
  refine lv_iload_n hx hb dX0_kindsAreRight_67 rfl (lv_at hl 0 rfl) ?_
  refine lv_iconst (v := 1) hx hb dX0_kindsAreRight_68 ic_1 ?_
  refine lv_icmp_gt hx hb dX0_kindsAreRight_69 rfl (fun hc => ?_) (fun hc => ?_)
  · have hf := rx_t hc hf
    refine lv_iconst (v := 0) hx hb dX0_kindsAreRight_76 ic_0 ?_
    exact rx_retz hret hw hf dX0_kindsAreRight_77
  · have hf := rx_f hc hf
    refine lv_iconst (v := 1) hx hb dX0_kindsAreRight_72 ic_1 ?_
    refine lv_goto hx hb dX0_kindsAreRight_73 rfl ?_
    exact rx_retz hret hw hf dX0_kindsAreRight_77
set_option maxRecDepth 100000 in
set_option maxHeartbeats 4000000 in
theorem qk_X0_kindsAreRight_0 (cx : rx_C p m c cX0_kindsAreRight 6 s args wX0_kindsAreRight RX0 D vwCl (tX cI cL) (zX b1 b2) wN A) (hret : rx_RZ p l e rm_X0_kindsAreRight s m args below meth c cX0_kindsAreRight D vwCl (wX ad cI cL) A Q o) {w0 : Int64} {ls : Array Slot} {H : Heap} {locs : List Loc} {M : Me} (hw : rx_W D vwCl (wX ad cI cL) A s.heap M H locs) (hl : lv_has ls 6 [(0, .long w0)]) (hf : qf_X0_kindsAreRight w0 M = some o) : W p l e rm_X0_kindsAreRight s m args below meth c H locs 0 0 Q (F0 m 0 ls []) := by
  have hx := cx.1.1
  have hb := cx.1.2.1
  refine lv_iconst (v := 0) hx hb dX0_kindsAreRight_0 ic_0 ?_
  refine lv_istore_n (lv' := [(2, .int 0), (0, .long w0)]) hx hb dX0_kindsAreRight_1 rfl hl (Nat.le_of_ble_eq_true rfl) rfl (fun ls hl => ?_)
  refine lv_iconst (v := 0) hx hb dX0_kindsAreRight_2 ic_0 ?_
  refine lv_istore_n (lv' := [(3, .int 0), (2, .int 0), (0, .long w0)]) hx hb dX0_kindsAreRight_3 rfl hl (Nat.le_of_ble_eq_true rfl) rfl (fun ls hl => ?_)
  exact (qk_X0_kindsAreRight_4 cx hret (qk_X0_kindsAreRight_67 cx hret) rx_FU) hw (lv_sub hl [2, 1, 0] rfl) hf
end
set_option maxRecDepth 100000 in
theorem qc_X0_kindsAreRight (l : Launch) (D : va_G) (ad : Nat → Nat) (cI cL : ClassId) (b1 b2 : Nat) (w0 : Int64) : rx_MI l yX0_kindsAreRight wX0_kindsAreRight rm_X0_kindsAreRight D vwCl (wX ad cI cL) (tX cI cL) (zX b1 b2) wN [.long w0] (fun M => qf_X0_kindsAreRight w0 M) :=
  rx_ofZ (by decide) rfl wN_ok (Nat.le_of_ble_eq_true rfl) (fun _ _ _ _ _ _ _ _ _ _ _ _ _ cx hret hw hl hf => qk_X0_kindsAreRight_0 cx hret hw hl hf)
def rm_X0_partIn : Room := { frames := 0, cells := 0, slots := 0, locals := 0 }
noncomputable def qf_X0_partIn  (w0 : Int64) (w2 : Int32)  (M : Me) : Op :=
  some ((Int64.toInt32 ((Int64.toUInt64 w0 >>> ((Int32.toInt64 (4 * w2)).toUInt64 &&& Int64.toUInt64 63)).toInt64)) &&& 15, M)
section
variable {p : Program} {l : Launch} {e : Env} {s : State} {m : MethodId} {args : Array Value} {below : List Frame} {meth : Method} {c : Code} {Q : State → Prop} {D : va_G} {A : Nat → Prop} {o : Int32 × Me} {ad : Nat → Nat} {cI cL : ClassId} {b1 b2 : Nat}
set_option maxRecDepth 100000 in
set_option maxHeartbeats 4000000 in
theorem qk_X0_partIn_0 (cx : rx_C p m c cX0_partIn 3 s args wX0_partIn RX0 D vwCl (tX cI cL) (zX b1 b2) wN A) (hret : rx_RI p l e rm_X0_partIn s m args below meth c cX0_partIn D vwCl (wX ad cI cL) A Q o) {w0 : Int64} {w2 : Int32} {ls : Array Slot} {H : Heap} {locs : List Loc} {M : Me} (hw : rx_W D vwCl (wX ad cI cL) A s.heap M H locs) (hl : lv_has ls 3 [(0, .long w0), (2, .int w2)]) (hf : qf_X0_partIn w0 w2 M = some o) : W p l e rm_X0_partIn s m args below meth c H locs 0 0 Q (F0 m 0 ls []) := by
  have hx := cx.1.1
  have hb := cx.1.2.1
  refine lv_lload_n hx hb dX0_partIn_0 rfl (lv_at hl 0 rfl) ?_
  refine lv_iconst (v := 4) hx hb dX0_partIn_1 ic_4 ?_
  refine lv_iload_n hx hb dX0_partIn_2 rfl (lv_at hl 1 rfl) ?_
  refine lv_imul hx hb dX0_partIn_3 ?_
  refine lv_lushr hx hb dX0_partIn_4 rfl ?_
  refine lv_l2i hx hb dX0_partIn_5 rfl ?_
  refine lv_bipush (v := 15) hx hb dX0_partIn_6 ib_15 ?_
  refine lv_iand hx hb dX0_partIn_8 ?_
  exact rx_reti hret hw hf dX0_partIn_9
end
set_option maxRecDepth 100000 in
theorem qc_X0_partIn (l : Launch) (D : va_G) (ad : Nat → Nat) (cI cL : ClassId) (b1 b2 : Nat) (w0 : Int64) (w2 : Int32) : rx_MI l yX0_partIn wX0_partIn rm_X0_partIn D vwCl (wX ad cI cL) (tX cI cL) (zX b1 b2) wN [.long w0, .int w2] (fun M => qf_X0_partIn w0 w2 M) :=
  rx_ofI (by decide) rfl wN_ok (Nat.le_of_ble_eq_true rfl) (fun _ _ _ _ _ _ _ _ _ _ _ _ _ cx hret hw hl hf => qk_X0_partIn_0 cx hret hw hl hf)
def rm_X0_kindIn : Room := { frames := 1, cells := 0, slots := 0, locals := 22 }
noncomputable def qf_X0_kindIn  (w0 : Int64) (w2 : Int32)  (M : Me) : Op :=
  rx_cl (qf_X0_byteIn w0 w2 M) fun r1 M2 => some (r1 &&& 7, M2)
section
variable {p : Program} {l : Launch} {e : Env} {s : State} {m : MethodId} {args : Array Value} {below : List Frame} {meth : Method} {c : Code} {Q : State → Prop} {D : va_G} {A : Nat → Prop} {o : Int32 × Me} {ad : Nat → Nat} {cI cL : ClassId} {b1 b2 : Nat}
set_option maxRecDepth 100000 in
set_option maxHeartbeats 4000000 in
theorem qk_X0_kindIn_0 (cx : rx_C p m c cX0_kindIn 3 s args wX0_kindIn RX0 D vwCl (tX cI cL) (zX b1 b2) wN A) (hret : rx_RI p l e rm_X0_kindIn s m args below meth c cX0_kindIn D vwCl (wX ad cI cL) A Q o) {w0 : Int64} {w2 : Int32} {ls : Array Slot} {H : Heap} {locs : List Loc} {M : Me} (hw : rx_W D vwCl (wX ad cI cL) A s.heap M H locs) (hl : lv_has ls 3 [(0, .long w0), (2, .int w2)]) (hf : qf_X0_kindIn w0 w2 M = some o) : W p l e rm_X0_kindIn s m args below meth c H locs 0 0 Q (F0 m 0 ls []) := by
  have hx := cx.1.1
  have hb := cx.1.2.1
  refine lv_lload_n hx hb dX0_kindIn_0 rfl (lv_at hl 0 rfl) ?_
  refine lv_iload_n hx hb dX0_kindIn_1 rfl (lv_at hl 1 rfl) ?_
  obtain ⟨r1, M2, er1, hf⟩ := rx_clI hf
  refine rx_jSi cx hw (qc_X0_byteIn l D ad cI cL b1 b2 w0 w2) kfX0_byteIn tw_327 ⟨Nat.le_of_ble_eq_true rfl, Nat.le_of_ble_eq_true rfl, rfl, rfl⟩ rfl hl.1 (Nat.le_of_ble_eq_true rfl) ⟨Nat.zero_le _, Nat.zero_le _⟩ dX0_kindIn_2 rfl er1 (fun H locs hw => ?_)
  refine lv_bipush (v := 7) hx hb dX0_kindIn_5 ib_7 ?_
  refine lv_iand hx hb dX0_kindIn_7 ?_
  exact rx_reti hret hw hf dX0_kindIn_8
end
set_option maxRecDepth 100000 in
theorem qc_X0_kindIn (l : Launch) (D : va_G) (ad : Nat → Nat) (cI cL : ClassId) (b1 b2 : Nat) (w0 : Int64) (w2 : Int32) : rx_MI l yX0_kindIn wX0_kindIn rm_X0_kindIn D vwCl (wX ad cI cL) (tX cI cL) (zX b1 b2) wN [.long w0, .int w2] (fun M => qf_X0_kindIn w0 w2 M) :=
  rx_ofI (by decide) rfl wN_ok (Nat.le_of_ble_eq_true rfl) (fun _ _ _ _ _ _ _ _ _ _ _ _ _ cx hret hw hl hf => qk_X0_kindIn_0 cx hret hw hl hf)
def rm_X0_hasSlots : Room := { frames := 0, cells := 0, slots := 0, locals := 0 }
noncomputable def qf_X0_hasSlots  (w0 : Int32)  (M : Me) : Op :=
  if w0 = 1 then (rx_zb 1 (some (1, M))) else (if w0 = 2 then (rx_zb 1 (some (1, M))) else (if w0 = 3 then (rx_zb 1 (some (1, M))) else (rx_zb 0 (some (0, M)))))
section
variable {p : Program} {l : Launch} {e : Env} {s : State} {m : MethodId} {args : Array Value} {below : List Frame} {meth : Method} {c : Code} {Q : State → Prop} {D : va_G} {A : Nat → Prop} {o : Int32 × Me} {ad : Nat → Nat} {cI cL : ClassId} {b1 b2 : Nat}
set_option maxRecDepth 100000 in
set_option maxHeartbeats 4000000 in
theorem qk_X0_hasSlots_0 (cx : rx_C p m c cX0_hasSlots 1 s args wX0_hasSlots RX0 D vwCl (tX cI cL) (zX b1 b2) wN A) (hret : rx_RZ p l e rm_X0_hasSlots s m args below meth c cX0_hasSlots D vwCl (wX ad cI cL) A Q o) {w0 : Int32} {ls : Array Slot} {H : Heap} {locs : List Loc} {M : Me} (hw : rx_W D vwCl (wX ad cI cL) A s.heap M H locs) (hl : lv_has ls 1 [(0, .int w0)]) (hf : qf_X0_hasSlots w0 M = some o) : W p l e rm_X0_hasSlots s m args below meth c H locs 0 0 Q (F0 m 0 ls []) := by
  have hx := cx.1.1
  have hb := cx.1.2.1
  refine lv_iload_n hx hb dX0_hasSlots_0 rfl (lv_at hl 0 rfl) ?_
  refine lv_iconst (v := 1) hx hb dX0_hasSlots_1 ic_1 ?_
  refine lv_icmp_eq hx hb dX0_hasSlots_2 rfl (fun hc => ?_) (fun hc => ?_)
  · have hf := rx_t hc hf
    refine lv_iconst (v := 1) hx hb dX0_hasSlots_15 ic_1 ?_
    refine lv_goto hx hb dX0_hasSlots_16 rfl ?_
    exact rx_retz hret hw hf dX0_hasSlots_20
  · have hf := rx_f hc hf
    refine lv_iload_n hx hb dX0_hasSlots_5 rfl (lv_at hl 0 rfl) ?_
    refine lv_iconst (v := 2) hx hb dX0_hasSlots_6 ic_2 ?_
    refine lv_icmp_eq hx hb dX0_hasSlots_7 rfl (fun hc => ?_) (fun hc => ?_)
    · have hf := rx_t hc hf
      refine lv_iconst (v := 1) hx hb dX0_hasSlots_15 ic_1 ?_
      refine lv_goto hx hb dX0_hasSlots_16 rfl ?_
      exact rx_retz hret hw hf dX0_hasSlots_20
    · have hf := rx_f hc hf
      refine lv_iload_n hx hb dX0_hasSlots_10 rfl (lv_at hl 0 rfl) ?_
      refine lv_iconst (v := 3) hx hb dX0_hasSlots_11 ic_3 ?_
      refine lv_icmp_ne hx hb dX0_hasSlots_12 rfl (fun hc => ?_) (fun hc => ?_)
      · have hf := rx_f hc hf
        refine lv_iconst (v := 0) hx hb dX0_hasSlots_19 ic_0 ?_
        exact rx_retz hret hw hf dX0_hasSlots_20
      · have hf := rx_t hc hf
        refine lv_iconst (v := 1) hx hb dX0_hasSlots_15 ic_1 ?_
        refine lv_goto hx hb dX0_hasSlots_16 rfl ?_
        exact rx_retz hret hw hf dX0_hasSlots_20
end
set_option maxRecDepth 100000 in
theorem qc_X0_hasSlots (l : Launch) (D : va_G) (ad : Nat → Nat) (cI cL : ClassId) (b1 b2 : Nat) (w0 : Int32) : rx_MI l yX0_hasSlots wX0_hasSlots rm_X0_hasSlots D vwCl (wX ad cI cL) (tX cI cL) (zX b1 b2) wN [.int w0] (fun M => qf_X0_hasSlots w0 M) :=
  rx_ofZ (by decide) rfl wN_ok (Nat.le_of_ble_eq_true rfl) (fun _ _ _ _ _ _ _ _ _ _ _ _ _ cx hret hw hl hf => qk_X0_hasSlots_0 cx hret hw hl hf)
def rm_X0_slotsAreRight : Room := { frames := 2, cells := 0, slots := 0, locals := 44 }
noncomputable def qo_X0_slotsAreRight_17 (k68 : Int32 → Me → Op) (w0 : Int64) (w2 : Int64) (rec : Int32 → Int32 → Me → Op) (w4 : Int32) (w5 : Int32) (M : Me) : Op :=
  if 12 ≤ w5 then (k68 w4 M) else (rx_cl (qf_X0_partIn w0 w5 M) fun r1 M2 => if 8 ≤ r1 then (rx_zb 0 (some (0, M2))) else (rx_cl (qf_X0_kindIn w2 r1 M2) fun r3 M4 => rx_cl (qf_X0_hasSlots r3 M4) fun r5 M6 => if r5 = 0 then (rx_zb 0 (some (0, M6))) else (rx_vv (w4 ||| (1 <<< (r1 &&& 31))) fun v7 => rx_vv (w5 + 1) fun v8 => rec v7 v8 M6)))
noncomputable def qb_X0_slotsAreRight_102 (k71 : Int32 → Me → Op) (w2 : Int64) (w4 : Int32) (w5 : Int32)  (M : Me) : Op :=
  rx_vv (w5 + 1) fun v1 => k71 v1 M
noncomputable def qo_X0_slotsAreRight_71  (w2 : Int64) (w4 : Int32) (rec : Int32 → Me → Op) (w5 : Int32) (M : Me) : Op :=
  if 8 ≤ w5 then (rx_zb 1 (some (1, M))) else (rx_cl (qf_X0_kindIn w2 w5 M) fun r1 M2 => rx_cl (qf_X0_hasSlots r1 M2) fun r3 M4 => if r3 = 0 then (qb_X0_slotsAreRight_102 rec w2 w4 w5 M4) else (if ((w4 >>> (w5 &&& 31)) &&& 1) = 0 then (rx_zb 0 (some (0, M4))) else (qb_X0_slotsAreRight_102 rec w2 w4 w5 M4)))
noncomputable def qb_X0_slotsAreRight_68  (w2 : Int64) (w4 : Int32)  (M : Me) : Op :=
  rx_lp1 (qo_X0_slotsAreRight_71 w2 w4) rx_FU 0 M
noncomputable def qf_X0_slotsAreRight  (w0 : Int64) (w2 : Int64)  (M : Me) : Op :=
  if (lg_cmp ((Int64.toUInt64 w0 >>> ((Int32.toInt64 48).toUInt64 &&& Int64.toUInt64 63)).toInt64) 0) = 0 then (rx_lp2 (qo_X0_slotsAreRight_17 (fun a4 M => qb_X0_slotsAreRight_68 w2 a4 M) w0 w2) rx_FU 0 0 M) else (rx_zb 0 (some (0, M)))
section
variable {p : Program} {l : Launch} {e : Env} {s : State} {m : MethodId} {args : Array Value} {below : List Frame} {meth : Method} {c : Code} {Q : State → Prop} {D : va_G} {A : Nat → Prop} {o : Int32 × Me} {ad : Nat → Nat} {cI cL : ClassId} {b1 b2 : Nat}
set_option maxRecDepth 100000 in
set_option maxHeartbeats 4000000 in
theorem qk_X0_slotsAreRight_17 (cx : rx_C p m c cX0_slotsAreRight 7 s args wX0_slotsAreRight RX0 D vwCl (tX cI cL) (zX b1 b2) wN A) (hret : rx_RZ p l e rm_X0_slotsAreRight s m args below meth c cX0_slotsAreRight D vwCl (wX ad cI cL) A Q o) {w0 : Int64} {w2 : Int64} {k68 : Int32 → Me → Op} (h68 : ∀ {a4 : Int32} {ls : Array Slot} {H : Heap} {locs : List Loc} {M : Me}, rx_W D vwCl (wX ad cI cL) A s.heap M H locs → lv_has ls 7 [(2, .long w2), (4, .int a4)] → k68 a4 M = some o → W p l e rm_X0_slotsAreRight s m args below meth c H locs 0 0 Q (F0 m 68 ls [])) : ∀ (n : Nat) {w4 : Int32} {w5 : Int32} {ls : Array Slot} {H : Heap} {locs : List Loc} {M : Me}, rx_W D vwCl (wX ad cI cL) A s.heap M H locs → lv_has ls 7 [(0, .long w0), (2, .long w2), (4, .int w4), (5, .int w5)] → rx_lp2 (qo_X0_slotsAreRight_17 k68 w0 w2) n w4 w5 M = some o → W p l e rm_X0_slotsAreRight s m args below meth c H locs 0 0 Q (F0 m 17 ls []) := by
  have hx := cx.1.1
  have hb := cx.1.2.1
  intro n
  induction n with
  | zero => intro w4 w5 ls H locs M hw hl hf; exact rx_no hf
  | succ n ih =>
    intro w4 w5 ls H locs M hw hl hf
    have hf : qo_X0_slotsAreRight_17 k68 w0 w2 (rx_lp2 (qo_X0_slotsAreRight_17 k68 w0 w2) n) w4 w5 M = some o := hf
    refine lv_iload hx hb dX0_slotsAreRight_17 (lv_at hl 3 rfl) ?_
    refine lv_bipush (v := 12) hx hb dX0_slotsAreRight_19 ib_12 ?_
    refine lv_icmp_ge hx hb dX0_slotsAreRight_21 rfl (fun hc => ?_) (fun hc => ?_)
    · have hf := rx_t hc hf
      exact h68 hw (lv_sub hl [1, 2] rfl) hf
    · have hf := rx_f hc hf
      refine lv_lload_n hx hb dX0_slotsAreRight_24 rfl (lv_at hl 0 rfl) ?_
      refine lv_iload hx hb dX0_slotsAreRight_25 (lv_at hl 3 rfl) ?_
      obtain ⟨r1, M2, er1, hf⟩ := rx_clI hf
      refine rx_jSi cx hw (qc_X0_partIn l D ad cI cL b1 b2 w0 w5) kfX0_partIn tw_333 ⟨Nat.le_of_ble_eq_true rfl, Nat.le_of_ble_eq_true rfl, rfl, rfl⟩ rfl hl.1 (Nat.le_of_ble_eq_true rfl) ⟨Nat.zero_le _, Nat.zero_le _⟩ dX0_slotsAreRight_27 rfl er1 (fun H locs hw => ?_)
      refine lv_istore (lv' := [(6, .int r1), (0, .long w0), (2, .long w2), (4, .int w4), (5, .int w5)]) hx hb dX0_slotsAreRight_30 hl (Nat.le_of_ble_eq_true rfl) rfl (fun ls hl => ?_)
      refine lv_iload hx hb dX0_slotsAreRight_32 (lv_at hl 0 rfl) ?_
      refine lv_bipush (v := 8) hx hb dX0_slotsAreRight_34 ib_8 ?_
      refine lv_icmp_ge hx hb dX0_slotsAreRight_36 rfl (fun hc => ?_) (fun hc => ?_)
      · have hf := rx_t hc hf
        refine lv_iconst (v := 0) hx hb dX0_slotsAreRight_51 ic_0 ?_
        exact rx_retz hret hw hf dX0_slotsAreRight_52
      · have hf := rx_f hc hf
        refine lv_lload_n hx hb dX0_slotsAreRight_39 rfl (lv_at hl 2 rfl) ?_
        refine lv_iload hx hb dX0_slotsAreRight_40 (lv_at hl 0 rfl) ?_
        obtain ⟨r3, M4, er3, hf⟩ := rx_clI hf
        refine rx_jSi cx hw (qc_X0_kindIn l D ad cI cL b1 b2 w2 r1) kfX0_kindIn tw_336 ⟨Nat.le_of_ble_eq_true rfl, Nat.le_of_ble_eq_true rfl, rfl, rfl⟩ rfl hl.1 (Nat.le_of_ble_eq_true rfl) ⟨Nat.zero_le _, Nat.zero_le _⟩ dX0_slotsAreRight_42 rfl er3 (fun H locs hw => ?_)
        obtain ⟨r5, M6, er5, hf⟩ := rx_clI hf
        refine rx_jSi cx hw (qc_X0_hasSlots l D ad cI cL b1 b2 r3) kfX0_hasSlots tw_339 ⟨Nat.le_of_ble_eq_true rfl, Nat.le_of_ble_eq_true rfl, rfl, rfl⟩ rfl hl.1 (Nat.le_of_ble_eq_true rfl) ⟨Nat.zero_le _, Nat.zero_le _⟩ dX0_slotsAreRight_45 rfl er5 (fun H locs hw => ?_)
        refine lv_if_ne hx hb dX0_slotsAreRight_48 rfl (fun hc => ?_) (fun hc => ?_)
        · have hf := rx_f hc hf
          refine lv_iload hx hb dX0_slotsAreRight_53 (lv_at hl 3 rfl) ?_
          refine lv_iconst (v := 1) hx hb dX0_slotsAreRight_55 ic_1 ?_
          refine lv_iload hx hb dX0_slotsAreRight_56 (lv_at hl 0 rfl) ?_
          refine lv_ishl hx hb dX0_slotsAreRight_58 ?_
          refine lv_ior hx hb dX0_slotsAreRight_59 ?_
          obtain ⟨v7, ev7, hf⟩ := rx_vvI hf
          refine rx_top ev7 ?_
          refine lv_istore (lv' := [(4, .int v7), (6, .int r1), (0, .long w0), (2, .long w2), (5, .int w5)]) hx hb dX0_slotsAreRight_60 hl (Nat.le_of_ble_eq_true rfl) rfl (fun ls hl => ?_)
          obtain ⟨v8, ev8, hf⟩ := rx_vvI hf
          refine lv_iinc (lv' := [(5, .int v8), (4, .int v7), (6, .int r1), (0, .long w0), (2, .long w2)]) hx hb dX0_slotsAreRight_62 hl (k := 4) rfl (rx_inc ic_1 ev8) (Nat.le_of_ble_eq_true rfl) rfl (fun ls hl => ?_)
          refine lv_goto hx hb dX0_slotsAreRight_65 rfl ?_
          exact ih hw (lv_sub hl [3, 4, 1, 0] rfl) hf
        · have hf := rx_t hc hf
          refine lv_iconst (v := 0) hx hb dX0_slotsAreRight_51 ic_0 ?_
          exact rx_retz hret hw hf dX0_slotsAreRight_52
set_option maxRecDepth 100000 in
set_option maxHeartbeats 4000000 in
theorem qk_X0_slotsAreRight_102 (cx : rx_C p m c cX0_slotsAreRight 7 s args wX0_slotsAreRight RX0 D vwCl (tX cI cL) (zX b1 b2) wN A) (hret : rx_RZ p l e rm_X0_slotsAreRight s m args below meth c cX0_slotsAreRight D vwCl (wX ad cI cL) A Q o) {w2 : Int64} {w4 : Int32} {w5 : Int32} {k71 : Int32 → Me → Op} (h71 : ∀ {a5 : Int32} {ls : Array Slot} {H : Heap} {locs : List Loc} {M : Me}, rx_W D vwCl (wX ad cI cL) A s.heap M H locs → lv_has ls 7 [(2, .long w2), (4, .int w4), (5, .int a5)] → k71 a5 M = some o → W p l e rm_X0_slotsAreRight s m args below meth c H locs 0 0 Q (F0 m 71 ls [])) {ls : Array Slot} {H : Heap} {locs : List Loc} {M : Me} (hw : rx_W D vwCl (wX ad cI cL) A s.heap M H locs) (hl : lv_has ls 7 [(2, .long w2), (4, .int w4), (5, .int w5)]) (hf : qb_X0_slotsAreRight_102 k71 w2 w4 w5 M = some o) : W p l e rm_X0_slotsAreRight s m args below meth c H locs 0 0 Q (F0 m 102 ls []) := by
  have hx := cx.1.1
  have hb := cx.1.2.1
  obtain ⟨v1, ev1, hf⟩ := rx_vvI hf
  refine lv_iinc (lv' := [(5, .int v1), (2, .long w2), (4, .int w4)]) hx hb dX0_slotsAreRight_102 hl (k := 2) rfl (rx_inc ic_1 ev1) (Nat.le_of_ble_eq_true rfl) rfl (fun ls hl => ?_)
  refine lv_goto hx hb dX0_slotsAreRight_105 rfl ?_
  exact h71 hw (lv_sub hl [1, 2, 0] rfl) hf
set_option maxRecDepth 100000 in
set_option maxHeartbeats 4000000 in
theorem qk_X0_slotsAreRight_71 (cx : rx_C p m c cX0_slotsAreRight 7 s args wX0_slotsAreRight RX0 D vwCl (tX cI cL) (zX b1 b2) wN A) (hret : rx_RZ p l e rm_X0_slotsAreRight s m args below meth c cX0_slotsAreRight D vwCl (wX ad cI cL) A Q o) {w2 : Int64} {w4 : Int32} : ∀ (n : Nat) {w5 : Int32} {ls : Array Slot} {H : Heap} {locs : List Loc} {M : Me}, rx_W D vwCl (wX ad cI cL) A s.heap M H locs → lv_has ls 7 [(2, .long w2), (4, .int w4), (5, .int w5)] → rx_lp1 (qo_X0_slotsAreRight_71 w2 w4) n w5 M = some o → W p l e rm_X0_slotsAreRight s m args below meth c H locs 0 0 Q (F0 m 71 ls []) := by
  have hx := cx.1.1
  have hb := cx.1.2.1
  intro n
  induction n with
  | zero => intro w5 ls H locs M hw hl hf; exact rx_no hf
  | succ n ih =>
    intro w5 ls H locs M hw hl hf
    have hf : qo_X0_slotsAreRight_71 w2 w4 (rx_lp1 (qo_X0_slotsAreRight_71 w2 w4) n) w5 M = some o := hf
    refine lv_iload hx hb dX0_slotsAreRight_71 (lv_at hl 2 rfl) ?_
    refine lv_bipush (v := 8) hx hb dX0_slotsAreRight_73 ib_8 ?_
    refine lv_icmp_ge hx hb dX0_slotsAreRight_75 rfl (fun hc => ?_) (fun hc => ?_)
    · have hf := rx_t hc hf
      refine lv_iconst (v := 1) hx hb dX0_slotsAreRight_108 ic_1 ?_
      exact rx_retz hret hw hf dX0_slotsAreRight_109
    · have hf := rx_f hc hf
      refine lv_lload_n hx hb dX0_slotsAreRight_78 rfl (lv_at hl 0 rfl) ?_
      refine lv_iload hx hb dX0_slotsAreRight_79 (lv_at hl 2 rfl) ?_
      obtain ⟨r1, M2, er1, hf⟩ := rx_clI hf
      refine rx_jSi cx hw (qc_X0_kindIn l D ad cI cL b1 b2 w2 w5) kfX0_kindIn tw_336 ⟨Nat.le_of_ble_eq_true rfl, Nat.le_of_ble_eq_true rfl, rfl, rfl⟩ rfl hl.1 (Nat.le_of_ble_eq_true rfl) ⟨Nat.zero_le _, Nat.zero_le _⟩ dX0_slotsAreRight_81 rfl er1 (fun H locs hw => ?_)
      obtain ⟨r3, M4, er3, hf⟩ := rx_clI hf
      refine rx_jSi cx hw (qc_X0_hasSlots l D ad cI cL b1 b2 r1) kfX0_hasSlots tw_339 ⟨Nat.le_of_ble_eq_true rfl, Nat.le_of_ble_eq_true rfl, rfl, rfl⟩ rfl hl.1 (Nat.le_of_ble_eq_true rfl) ⟨Nat.zero_le _, Nat.zero_le _⟩ dX0_slotsAreRight_84 rfl er3 (fun H locs hw => ?_)
      refine lv_if_eq hx hb dX0_slotsAreRight_87 rfl (fun hc => ?_) (fun hc => ?_)
      · have hf := rx_t hc hf
        exact (qk_X0_slotsAreRight_102 cx hret ih) hw hl hf
      · have hf := rx_f hc hf
        refine lv_iload hx hb dX0_slotsAreRight_90 (lv_at hl 1 rfl) ?_
        refine lv_iload hx hb dX0_slotsAreRight_92 (lv_at hl 2 rfl) ?_
        refine lv_ishr hx hb dX0_slotsAreRight_94 ?_
        refine lv_iconst (v := 1) hx hb dX0_slotsAreRight_95 ic_1 ?_
        refine lv_iand hx hb dX0_slotsAreRight_96 ?_
        refine lv_if_ne hx hb dX0_slotsAreRight_97 rfl (fun hc => ?_) (fun hc => ?_)
        · have hf := rx_f hc hf
          exact (qk_X0_slotsAreRight_102 cx hret ih) hw hl hf
        · have hf := rx_t hc hf
          refine lv_iconst (v := 0) hx hb dX0_slotsAreRight_100 ic_0 ?_
          exact rx_retz hret hw hf dX0_slotsAreRight_101
set_option maxRecDepth 100000 in
set_option maxHeartbeats 4000000 in
theorem qk_X0_slotsAreRight_68 (cx : rx_C p m c cX0_slotsAreRight 7 s args wX0_slotsAreRight RX0 D vwCl (tX cI cL) (zX b1 b2) wN A) (hret : rx_RZ p l e rm_X0_slotsAreRight s m args below meth c cX0_slotsAreRight D vwCl (wX ad cI cL) A Q o) {w2 : Int64} {w4 : Int32} {ls : Array Slot} {H : Heap} {locs : List Loc} {M : Me} (hw : rx_W D vwCl (wX ad cI cL) A s.heap M H locs) (hl : lv_has ls 7 [(2, .long w2), (4, .int w4)]) (hf : qb_X0_slotsAreRight_68 w2 w4 M = some o) : W p l e rm_X0_slotsAreRight s m args below meth c H locs 0 0 Q (F0 m 68 ls []) := by
  have hx := cx.1.1
  have hb := cx.1.2.1
  refine lv_iconst (v := 0) hx hb dX0_slotsAreRight_68 ic_0 ?_
  refine lv_istore (lv' := [(5, .int 0), (2, .long w2), (4, .int w4)]) hx hb dX0_slotsAreRight_69 hl (Nat.le_of_ble_eq_true rfl) rfl (fun ls hl => ?_)
  exact (qk_X0_slotsAreRight_71 cx hret rx_FU) hw (lv_sub hl [1, 2, 0] rfl) hf
set_option maxRecDepth 100000 in
set_option maxHeartbeats 4000000 in
theorem qk_X0_slotsAreRight_0 (cx : rx_C p m c cX0_slotsAreRight 7 s args wX0_slotsAreRight RX0 D vwCl (tX cI cL) (zX b1 b2) wN A) (hret : rx_RZ p l e rm_X0_slotsAreRight s m args below meth c cX0_slotsAreRight D vwCl (wX ad cI cL) A Q o) {w0 : Int64} {w2 : Int64} {ls : Array Slot} {H : Heap} {locs : List Loc} {M : Me} (hw : rx_W D vwCl (wX ad cI cL) A s.heap M H locs) (hl : lv_has ls 7 [(0, .long w0), (2, .long w2)]) (hf : qf_X0_slotsAreRight w0 w2 M = some o) : W p l e rm_X0_slotsAreRight s m args below meth c H locs 0 0 Q (F0 m 0 ls []) := by
  have hx := cx.1.1
  have hb := cx.1.2.1
  refine lv_lload_n hx hb dX0_slotsAreRight_0 rfl (lv_at hl 0 rfl) ?_
  refine lv_bipush (v := 48) hx hb dX0_slotsAreRight_1 ib_48 ?_
  refine lv_lushr hx hb dX0_slotsAreRight_3 rfl ?_
  refine lv_lconst (v := 0) hx hb dX0_slotsAreRight_4 lc_0 ?_
  refine W.lcmp hx hb dX0_slotsAreRight_5 ?_
  refine lv_if_eq hx hb dX0_slotsAreRight_6 rfl (fun hc => ?_) (fun hc => ?_)
  · have hf := rx_t hc hf
    refine lv_iconst (v := 0) hx hb dX0_slotsAreRight_11 ic_0 ?_
    refine lv_istore (lv' := [(4, .int 0), (0, .long w0), (2, .long w2)]) hx hb dX0_slotsAreRight_12 hl (Nat.le_of_ble_eq_true rfl) rfl (fun ls hl => ?_)
    refine lv_iconst (v := 0) hx hb dX0_slotsAreRight_14 ic_0 ?_
    refine lv_istore (lv' := [(5, .int 0), (4, .int 0), (0, .long w0), (2, .long w2)]) hx hb dX0_slotsAreRight_15 hl (Nat.le_of_ble_eq_true rfl) rfl (fun ls hl => ?_)
    exact (qk_X0_slotsAreRight_17 cx hret (qk_X0_slotsAreRight_68 cx hret) rx_FU) hw (lv_sub hl [2, 3, 1, 0] rfl) hf
  · have hf := rx_f hc hf
    refine lv_iconst (v := 0) hx hb dX0_slotsAreRight_9 ic_0 ?_
    exact rx_retz hret hw hf dX0_slotsAreRight_10
end
set_option maxRecDepth 100000 in
theorem qc_X0_slotsAreRight (l : Launch) (D : va_G) (ad : Nat → Nat) (cI cL : ClassId) (b1 b2 : Nat) (w0 : Int64) (w2 : Int64) : rx_MI l yX0_slotsAreRight wX0_slotsAreRight rm_X0_slotsAreRight D vwCl (wX ad cI cL) (tX cI cL) (zX b1 b2) wN [.long w0, .long w2] (fun M => qf_X0_slotsAreRight w0 w2 M) :=
  rx_ofZ (by decide) rfl wN_ok (Nat.le_of_ble_eq_true rfl) (fun _ _ _ _ _ _ _ _ _ _ _ _ _ cx hret hw hl hf => qk_X0_slotsAreRight_0 cx hret hw hl hf)
def rm_X0_sidesAreRight : Room := { frames := 2, cells := 0, slots := 0, locals := 44 }
noncomputable def qb_X0_sidesAreRight_95 (k3 : Int32 → Me → Op) (w0 : Int64) (w2 : Int64) (w4 : Int32) (s0 : Int32) (M : Me) : Op :=
  if s0 = 0 then (rx_zb 0 (some (0, M))) else (rx_vv (w4 + 3) fun v1 => k3 v1 M)
noncomputable def qo_X0_sidesAreRight_3  (w0 : Int64) (w2 : Int64) (rec : Int32 → Me → Op) (w4 : Int32) (M : Me) : Op :=
  if 12 ≤ w4 then (rx_zb 1 (some (1, M))) else (rx_cl (qf_X0_partIn w0 w4 M) fun r1 M2 => rx_cl (qf_X0_partIn w0 (w4 + 1) M2) fun r3 M4 => rx_cl (qf_X0_partIn w0 (w4 + 2) M4) fun r5 M6 => rx_cl (qf_X0_kindIn w2 r3 M6) fun r7 M8 => if r7 = 2 then (rx_cl (qf_X0_kindIn w2 r1 M8) fun r9 M10 => if r9 = 3 then (rx_cl (qf_X0_kindIn w2 r5 M10) fun r11 M12 => if r11 = 3 then (qb_X0_sidesAreRight_95 rec w0 w2 w4 1 M12) else (qb_X0_sidesAreRight_95 rec w0 w2 w4 0 M12)) else (qb_X0_sidesAreRight_95 rec w0 w2 w4 0 M10)) else (if r1 = r3 then (if r5 = r3 then (qb_X0_sidesAreRight_95 rec w0 w2 w4 1 M8) else (qb_X0_sidesAreRight_95 rec w0 w2 w4 0 M8)) else (qb_X0_sidesAreRight_95 rec w0 w2 w4 0 M8)))
noncomputable def qf_X0_sidesAreRight  (w0 : Int64) (w2 : Int64)  (M : Me) : Op :=
  rx_lp1 (qo_X0_sidesAreRight_3 w0 w2) rx_FU 0 M
section
variable {p : Program} {l : Launch} {e : Env} {s : State} {m : MethodId} {args : Array Value} {below : List Frame} {meth : Method} {c : Code} {Q : State → Prop} {D : va_G} {A : Nat → Prop} {o : Int32 × Me} {ad : Nat → Nat} {cI cL : ClassId} {b1 b2 : Nat}
set_option maxRecDepth 100000 in
set_option maxHeartbeats 4000000 in
theorem qk_X0_sidesAreRight_95 (cx : rx_C p m c cX0_sidesAreRight 9 s args wX0_sidesAreRight RX0 D vwCl (tX cI cL) (zX b1 b2) wN A) (hret : rx_RZ p l e rm_X0_sidesAreRight s m args below meth c cX0_sidesAreRight D vwCl (wX ad cI cL) A Q o) {w0 : Int64} {w2 : Int64} {w4 : Int32} {s0 : Int32} {k3 : Int32 → Me → Op} (h3 : ∀ {a4 : Int32} {ls : Array Slot} {H : Heap} {locs : List Loc} {M : Me}, rx_W D vwCl (wX ad cI cL) A s.heap M H locs → lv_has ls 9 [(0, .long w0), (2, .long w2), (4, .int a4)] → k3 a4 M = some o → W p l e rm_X0_sidesAreRight s m args below meth c H locs 0 0 Q (F0 m 3 ls [])) {ls : Array Slot} {H : Heap} {locs : List Loc} {M : Me} (hw : rx_W D vwCl (wX ad cI cL) A s.heap M H locs) (hl : lv_has ls 9 [(0, .long w0), (2, .long w2), (4, .int w4)]) (hf : qb_X0_sidesAreRight_95 k3 w0 w2 w4 s0 M = some o) : W p l e rm_X0_sidesAreRight s m args below meth c H locs 0 0 Q (F0 m 95 ls [.int s0]) := by
  have hx := cx.1.1
  have hb := cx.1.2.1
  refine lv_istore (lv' := [(8, .int s0), (0, .long w0), (2, .long w2), (4, .int w4)]) hx hb dX0_sidesAreRight_95 hl (Nat.le_of_ble_eq_true rfl) rfl (fun ls hl => ?_)
  refine lv_iload hx hb dX0_sidesAreRight_97 (lv_at hl 0 rfl) ?_
  refine lv_if_ne hx hb dX0_sidesAreRight_99 rfl (fun hc => ?_) (fun hc => ?_)
  · have hf := rx_f hc hf
    obtain ⟨v1, ev1, hf⟩ := rx_vvI hf
    refine lv_iinc (lv' := [(4, .int v1), (8, .int s0), (0, .long w0), (2, .long w2)]) hx hb dX0_sidesAreRight_104 hl (k := 3) rfl (rx_inc ic_3 ev1) (Nat.le_of_ble_eq_true rfl) rfl (fun ls hl => ?_)
    refine lv_goto hx hb dX0_sidesAreRight_107 rfl ?_
    exact h3 hw (lv_sub hl [2, 3, 0] rfl) hf
  · have hf := rx_t hc hf
    refine lv_iconst (v := 0) hx hb dX0_sidesAreRight_102 ic_0 ?_
    exact rx_retz hret hw hf dX0_sidesAreRight_103
set_option maxRecDepth 100000 in
set_option maxHeartbeats 4000000 in
theorem qk_X0_sidesAreRight_3 (cx : rx_C p m c cX0_sidesAreRight 9 s args wX0_sidesAreRight RX0 D vwCl (tX cI cL) (zX b1 b2) wN A) (hret : rx_RZ p l e rm_X0_sidesAreRight s m args below meth c cX0_sidesAreRight D vwCl (wX ad cI cL) A Q o) {w0 : Int64} {w2 : Int64} : ∀ (n : Nat) {w4 : Int32} {ls : Array Slot} {H : Heap} {locs : List Loc} {M : Me}, rx_W D vwCl (wX ad cI cL) A s.heap M H locs → lv_has ls 9 [(0, .long w0), (2, .long w2), (4, .int w4)] → rx_lp1 (qo_X0_sidesAreRight_3 w0 w2) n w4 M = some o → W p l e rm_X0_sidesAreRight s m args below meth c H locs 0 0 Q (F0 m 3 ls []) := by
  have hx := cx.1.1
  have hb := cx.1.2.1
  intro n
  induction n with
  | zero => intro w4 ls H locs M hw hl hf; exact rx_no hf
  | succ n ih =>
    intro w4 ls H locs M hw hl hf
    have hf : qo_X0_sidesAreRight_3 w0 w2 (rx_lp1 (qo_X0_sidesAreRight_3 w0 w2) n) w4 M = some o := hf
    refine lv_iload hx hb dX0_sidesAreRight_3 (lv_at hl 2 rfl) ?_
    refine lv_bipush (v := 12) hx hb dX0_sidesAreRight_5 ib_12 ?_
    refine lv_icmp_ge hx hb dX0_sidesAreRight_7 rfl (fun hc => ?_) (fun hc => ?_)
    · have hf := rx_t hc hf
      refine lv_iconst (v := 1) hx hb dX0_sidesAreRight_110 ic_1 ?_
      exact rx_retz hret hw hf dX0_sidesAreRight_111
    · have hf := rx_f hc hf
      refine lv_lload_n hx hb dX0_sidesAreRight_10 rfl (lv_at hl 0 rfl) ?_
      refine lv_iload hx hb dX0_sidesAreRight_11 (lv_at hl 2 rfl) ?_
      obtain ⟨r1, M2, er1, hf⟩ := rx_clI hf
      refine rx_jSi cx hw (qc_X0_partIn l D ad cI cL b1 b2 w0 w4) kfX0_partIn tw_333 ⟨Nat.le_of_ble_eq_true rfl, Nat.le_of_ble_eq_true rfl, rfl, rfl⟩ rfl hl.1 (Nat.le_of_ble_eq_true rfl) ⟨Nat.zero_le _, Nat.zero_le _⟩ dX0_sidesAreRight_13 rfl er1 (fun H locs hw => ?_)
      refine lv_istore (lv' := [(5, .int r1), (0, .long w0), (2, .long w2), (4, .int w4)]) hx hb dX0_sidesAreRight_16 hl (Nat.le_of_ble_eq_true rfl) rfl (fun ls hl => ?_)
      refine lv_lload_n hx hb dX0_sidesAreRight_18 rfl (lv_at hl 1 rfl) ?_
      refine lv_iload hx hb dX0_sidesAreRight_19 (lv_at hl 3 rfl) ?_
      refine lv_iconst (v := 1) hx hb dX0_sidesAreRight_21 ic_1 ?_
      refine lv_iadd hx hb dX0_sidesAreRight_22 ?_
      obtain ⟨r3, M4, er3, hf⟩ := rx_clI hf
      refine rx_jSi cx hw (qc_X0_partIn l D ad cI cL b1 b2 w0 (w4 + 1)) kfX0_partIn tw_333 ⟨Nat.le_of_ble_eq_true rfl, Nat.le_of_ble_eq_true rfl, rfl, rfl⟩ rfl hl.1 (Nat.le_of_ble_eq_true rfl) ⟨Nat.zero_le _, Nat.zero_le _⟩ dX0_sidesAreRight_23 rfl er3 (fun H locs hw => ?_)
      refine lv_istore (lv' := [(6, .int r3), (5, .int r1), (0, .long w0), (2, .long w2), (4, .int w4)]) hx hb dX0_sidesAreRight_26 hl (Nat.le_of_ble_eq_true rfl) rfl (fun ls hl => ?_)
      refine lv_lload_n hx hb dX0_sidesAreRight_28 rfl (lv_at hl 2 rfl) ?_
      refine lv_iload hx hb dX0_sidesAreRight_29 (lv_at hl 4 rfl) ?_
      refine lv_iconst (v := 2) hx hb dX0_sidesAreRight_31 ic_2 ?_
      refine lv_iadd hx hb dX0_sidesAreRight_32 ?_
      obtain ⟨r5, M6, er5, hf⟩ := rx_clI hf
      refine rx_jSi cx hw (qc_X0_partIn l D ad cI cL b1 b2 w0 (w4 + 2)) kfX0_partIn tw_333 ⟨Nat.le_of_ble_eq_true rfl, Nat.le_of_ble_eq_true rfl, rfl, rfl⟩ rfl hl.1 (Nat.le_of_ble_eq_true rfl) ⟨Nat.zero_le _, Nat.zero_le _⟩ dX0_sidesAreRight_33 rfl er5 (fun H locs hw => ?_)
      refine lv_istore (lv' := [(7, .int r5), (6, .int r3), (5, .int r1), (0, .long w0), (2, .long w2), (4, .int w4)]) hx hb dX0_sidesAreRight_36 hl (Nat.le_of_ble_eq_true rfl) rfl (fun ls hl => ?_)
      refine lv_lload_n hx hb dX0_sidesAreRight_38 rfl (lv_at hl 4 rfl) ?_
      refine lv_iload hx hb dX0_sidesAreRight_39 (lv_at hl 1 rfl) ?_
      obtain ⟨r7, M8, er7, hf⟩ := rx_clI hf
      refine rx_jSi cx hw (qc_X0_kindIn l D ad cI cL b1 b2 w2 r3) kfX0_kindIn tw_336 ⟨Nat.le_of_ble_eq_true rfl, Nat.le_of_ble_eq_true rfl, rfl, rfl⟩ rfl hl.1 (Nat.le_of_ble_eq_true rfl) ⟨Nat.zero_le _, Nat.zero_le _⟩ dX0_sidesAreRight_41 rfl er7 (fun H locs hw => ?_)
      refine lv_iconst (v := 2) hx hb dX0_sidesAreRight_44 ic_2 ?_
      refine lv_icmp_ne hx hb dX0_sidesAreRight_45 rfl (fun hc => ?_) (fun hc => ?_)
      · have hf := rx_f hc hf
        refine lv_iload hx hb dX0_sidesAreRight_76 (lv_at hl 2 rfl) ?_
        refine lv_iload hx hb dX0_sidesAreRight_78 (lv_at hl 1 rfl) ?_
        refine lv_icmp_ne hx hb dX0_sidesAreRight_80 rfl (fun hc => ?_) (fun hc => ?_)
        · have hf := rx_f hc hf
          refine lv_iconst (v := 0) hx hb dX0_sidesAreRight_94 ic_0 ?_
          exact (qk_X0_sidesAreRight_95 cx hret ih) hw (lv_sub hl [3, 4, 5] rfl) hf
        · have hf := rx_t hc hf
          refine lv_iload hx hb dX0_sidesAreRight_83 (lv_at hl 0 rfl) ?_
          refine lv_iload hx hb dX0_sidesAreRight_85 (lv_at hl 1 rfl) ?_
          refine lv_icmp_ne hx hb dX0_sidesAreRight_87 rfl (fun hc => ?_) (fun hc => ?_)
          · have hf := rx_f hc hf
            refine lv_iconst (v := 0) hx hb dX0_sidesAreRight_94 ic_0 ?_
            exact (qk_X0_sidesAreRight_95 cx hret ih) hw (lv_sub hl [3, 4, 5] rfl) hf
          · have hf := rx_t hc hf
            refine lv_iconst (v := 1) hx hb dX0_sidesAreRight_90 ic_1 ?_
            refine lv_goto hx hb dX0_sidesAreRight_91 rfl ?_
            exact (qk_X0_sidesAreRight_95 cx hret ih) hw (lv_sub hl [3, 4, 5] rfl) hf
      · have hf := rx_t hc hf
        refine lv_lload_n hx hb dX0_sidesAreRight_48 rfl (lv_at hl 4 rfl) ?_
        refine lv_iload hx hb dX0_sidesAreRight_49 (lv_at hl 2 rfl) ?_
        obtain ⟨r9, M10, er9, hf⟩ := rx_clI hf
        refine rx_jSi cx hw (qc_X0_kindIn l D ad cI cL b1 b2 w2 r1) kfX0_kindIn tw_336 ⟨Nat.le_of_ble_eq_true rfl, Nat.le_of_ble_eq_true rfl, rfl, rfl⟩ rfl hl.1 (Nat.le_of_ble_eq_true rfl) ⟨Nat.zero_le _, Nat.zero_le _⟩ dX0_sidesAreRight_51 rfl er9 (fun H locs hw => ?_)
        refine lv_iconst (v := 3) hx hb dX0_sidesAreRight_54 ic_3 ?_
        refine lv_icmp_ne hx hb dX0_sidesAreRight_55 rfl (fun hc => ?_) (fun hc => ?_)
        · have hf := rx_f hc hf
          refine lv_iconst (v := 0) hx hb dX0_sidesAreRight_72 ic_0 ?_
          refine lv_goto hx hb dX0_sidesAreRight_73 rfl ?_
          exact (qk_X0_sidesAreRight_95 cx hret ih) hw (lv_sub hl [3, 4, 5] rfl) hf
        · have hf := rx_t hc hf
          refine lv_lload_n hx hb dX0_sidesAreRight_58 rfl (lv_at hl 4 rfl) ?_
          refine lv_iload hx hb dX0_sidesAreRight_59 (lv_at hl 0 rfl) ?_
          obtain ⟨r11, M12, er11, hf⟩ := rx_clI hf
          refine rx_jSi cx hw (qc_X0_kindIn l D ad cI cL b1 b2 w2 r5) kfX0_kindIn tw_336 ⟨Nat.le_of_ble_eq_true rfl, Nat.le_of_ble_eq_true rfl, rfl, rfl⟩ rfl hl.1 (Nat.le_of_ble_eq_true rfl) ⟨Nat.zero_le _, Nat.zero_le _⟩ dX0_sidesAreRight_61 rfl er11 (fun H locs hw => ?_)
          refine lv_iconst (v := 3) hx hb dX0_sidesAreRight_64 ic_3 ?_
          refine lv_icmp_ne hx hb dX0_sidesAreRight_65 rfl (fun hc => ?_) (fun hc => ?_)
          · have hf := rx_f hc hf
            refine lv_iconst (v := 0) hx hb dX0_sidesAreRight_72 ic_0 ?_
            refine lv_goto hx hb dX0_sidesAreRight_73 rfl ?_
            exact (qk_X0_sidesAreRight_95 cx hret ih) hw (lv_sub hl [3, 4, 5] rfl) hf
          · have hf := rx_t hc hf
            refine lv_iconst (v := 1) hx hb dX0_sidesAreRight_68 ic_1 ?_
            refine lv_goto hx hb dX0_sidesAreRight_69 rfl ?_
            exact (qk_X0_sidesAreRight_95 cx hret ih) hw (lv_sub hl [3, 4, 5] rfl) hf
set_option maxRecDepth 100000 in
set_option maxHeartbeats 4000000 in
theorem qk_X0_sidesAreRight_0 (cx : rx_C p m c cX0_sidesAreRight 9 s args wX0_sidesAreRight RX0 D vwCl (tX cI cL) (zX b1 b2) wN A) (hret : rx_RZ p l e rm_X0_sidesAreRight s m args below meth c cX0_sidesAreRight D vwCl (wX ad cI cL) A Q o) {w0 : Int64} {w2 : Int64} {ls : Array Slot} {H : Heap} {locs : List Loc} {M : Me} (hw : rx_W D vwCl (wX ad cI cL) A s.heap M H locs) (hl : lv_has ls 9 [(0, .long w0), (2, .long w2)]) (hf : qf_X0_sidesAreRight w0 w2 M = some o) : W p l e rm_X0_sidesAreRight s m args below meth c H locs 0 0 Q (F0 m 0 ls []) := by
  have hx := cx.1.1
  have hb := cx.1.2.1
  refine lv_iconst (v := 0) hx hb dX0_sidesAreRight_0 ic_0 ?_
  refine lv_istore (lv' := [(4, .int 0), (0, .long w0), (2, .long w2)]) hx hb dX0_sidesAreRight_1 hl (Nat.le_of_ble_eq_true rfl) rfl (fun ls hl => ?_)
  exact (qk_X0_sidesAreRight_3 cx hret rx_FU) hw (lv_sub hl [1, 2, 0] rfl) hf
end
set_option maxRecDepth 100000 in
theorem qc_X0_sidesAreRight (l : Launch) (D : va_G) (ad : Nat → Nat) (cI cL : ClassId) (b1 b2 : Nat) (w0 : Int64) (w2 : Int64) : rx_MI l yX0_sidesAreRight wX0_sidesAreRight rm_X0_sidesAreRight D vwCl (wX ad cI cL) (tX cI cL) (zX b1 b2) wN [.long w0, .long w2] (fun M => qf_X0_sidesAreRight w0 w2 M) :=
  rx_ofZ (by decide) rfl wN_ok (Nat.le_of_ble_eq_true rfl) (fun _ _ _ _ _ _ _ _ _ _ _ _ _ cx hret hw hl hf => qk_X0_sidesAreRight_0 cx hret hw hl hf)
def rm_X0_touchesAreRight : Room := { frames := 2, cells := 0, slots := 0, locals := 44 }
noncomputable def qb_X0_touchesAreRight_67 (k38 : Int32 → Me → Op) (w0 : Int64) (w2 : Int64) (w4 : Int32) (w5 : Int32) (w6 : Int32)  (M : Me) : Op :=
  rx_vv (w6 + 1) fun v1 => k38 v1 M
noncomputable def qo_X0_touchesAreRight_38 (k73 : Me → Op) (w0 : Int64) (w2 : Int64) (w4 : Int32) (w5 : Int32) (rec : Int32 → Me → Op) (w6 : Int32) (M : Me) : Op :=
  if 8 ≤ w6 then (k73 M) else (if ((w5 >>> (w6 &&& 31)) &&& 1) = 0 then (qb_X0_touchesAreRight_67 rec w0 w2 w4 w5 w6 M) else (rx_cl (qf_X0_kindIn w0 w6 M) fun r1 M2 => if r1 = 1 then (qb_X0_touchesAreRight_67 rec w0 w2 w4 w5 w6 M2) else (rx_zb 0 (some (0, M2)))))
noncomputable def qb_X0_touchesAreRight_73 (k3 : Int32 → Me → Op) (w0 : Int64) (w2 : Int64) (w4 : Int32)  (M : Me) : Op :=
  rx_vv (w4 + 1) fun v1 => k3 v1 M
noncomputable def qb_X0_touchesAreRight_35 (k3 : Int32 → Me → Op) (w0 : Int64) (w2 : Int64) (w4 : Int32) (w5 : Int32)  (M : Me) : Op :=
  rx_lp1 (qo_X0_touchesAreRight_38 (fun M => qb_X0_touchesAreRight_73 k3 w0 w2 w4 M) w0 w2 w4 w5) rx_FU 0 M
noncomputable def qo_X0_touchesAreRight_3  (w0 : Int64) (w2 : Int64) (rec : Int32 → Me → Op) (w4 : Int32) (M : Me) : Op :=
  if 8 ≤ w4 then (rx_zb 1 (some (1, M))) else (rx_cl (qf_X0_byteIn w2 w4 M) fun r1 M2 => if r1 = 0 then (qb_X0_touchesAreRight_35 rec w0 w2 w4 r1 M2) else (rx_cl (qf_X0_kindIn w0 w4 M2) fun r3 M4 => if r3 = 3 then (qb_X0_touchesAreRight_35 rec w0 w2 w4 r1 M4) else (rx_zb 0 (some (0, M4)))))
noncomputable def qf_X0_touchesAreRight  (w0 : Int64) (w2 : Int64)  (M : Me) : Op :=
  rx_lp1 (qo_X0_touchesAreRight_3 w0 w2) rx_FU 0 M
section
variable {p : Program} {l : Launch} {e : Env} {s : State} {m : MethodId} {args : Array Value} {below : List Frame} {meth : Method} {c : Code} {Q : State → Prop} {D : va_G} {A : Nat → Prop} {o : Int32 × Me} {ad : Nat → Nat} {cI cL : ClassId} {b1 b2 : Nat}
set_option maxRecDepth 100000 in
set_option maxHeartbeats 4000000 in
theorem qk_X0_touchesAreRight_67 (cx : rx_C p m c cX0_touchesAreRight 7 s args wX0_touchesAreRight RX0 D vwCl (tX cI cL) (zX b1 b2) wN A) (hret : rx_RZ p l e rm_X0_touchesAreRight s m args below meth c cX0_touchesAreRight D vwCl (wX ad cI cL) A Q o) {w0 : Int64} {w2 : Int64} {w4 : Int32} {w5 : Int32} {w6 : Int32} {k38 : Int32 → Me → Op} (h38 : ∀ {a6 : Int32} {ls : Array Slot} {H : Heap} {locs : List Loc} {M : Me}, rx_W D vwCl (wX ad cI cL) A s.heap M H locs → lv_has ls 7 [(0, .long w0), (2, .long w2), (4, .int w4), (5, .int w5), (6, .int a6)] → k38 a6 M = some o → W p l e rm_X0_touchesAreRight s m args below meth c H locs 0 0 Q (F0 m 38 ls [])) {ls : Array Slot} {H : Heap} {locs : List Loc} {M : Me} (hw : rx_W D vwCl (wX ad cI cL) A s.heap M H locs) (hl : lv_has ls 7 [(0, .long w0), (2, .long w2), (4, .int w4), (5, .int w5), (6, .int w6)]) (hf : qb_X0_touchesAreRight_67 k38 w0 w2 w4 w5 w6 M = some o) : W p l e rm_X0_touchesAreRight s m args below meth c H locs 0 0 Q (F0 m 67 ls []) := by
  have hx := cx.1.1
  have hb := cx.1.2.1
  obtain ⟨v1, ev1, hf⟩ := rx_vvI hf
  refine lv_iinc (lv' := [(6, .int v1), (0, .long w0), (2, .long w2), (4, .int w4), (5, .int w5)]) hx hb dX0_touchesAreRight_67 hl (k := 4) rfl (rx_inc ic_1 ev1) (Nat.le_of_ble_eq_true rfl) rfl (fun ls hl => ?_)
  refine lv_goto hx hb dX0_touchesAreRight_70 rfl ?_
  exact h38 hw (lv_sub hl [1, 2, 3, 4, 0] rfl) hf
set_option maxRecDepth 100000 in
set_option maxHeartbeats 4000000 in
theorem qk_X0_touchesAreRight_38 (cx : rx_C p m c cX0_touchesAreRight 7 s args wX0_touchesAreRight RX0 D vwCl (tX cI cL) (zX b1 b2) wN A) (hret : rx_RZ p l e rm_X0_touchesAreRight s m args below meth c cX0_touchesAreRight D vwCl (wX ad cI cL) A Q o) {w0 : Int64} {w2 : Int64} {w4 : Int32} {w5 : Int32} {k73 : Me → Op} (h73 : ∀ {ls : Array Slot} {H : Heap} {locs : List Loc} {M : Me}, rx_W D vwCl (wX ad cI cL) A s.heap M H locs → lv_has ls 7 [(0, .long w0), (2, .long w2), (4, .int w4)] → k73 M = some o → W p l e rm_X0_touchesAreRight s m args below meth c H locs 0 0 Q (F0 m 73 ls [])) : ∀ (n : Nat) {w6 : Int32} {ls : Array Slot} {H : Heap} {locs : List Loc} {M : Me}, rx_W D vwCl (wX ad cI cL) A s.heap M H locs → lv_has ls 7 [(0, .long w0), (2, .long w2), (4, .int w4), (5, .int w5), (6, .int w6)] → rx_lp1 (qo_X0_touchesAreRight_38 k73 w0 w2 w4 w5) n w6 M = some o → W p l e rm_X0_touchesAreRight s m args below meth c H locs 0 0 Q (F0 m 38 ls []) := by
  have hx := cx.1.1
  have hb := cx.1.2.1
  intro n
  induction n with
  | zero => intro w6 ls H locs M hw hl hf; exact rx_no hf
  | succ n ih =>
    intro w6 ls H locs M hw hl hf
    have hf : qo_X0_touchesAreRight_38 k73 w0 w2 w4 w5 (rx_lp1 (qo_X0_touchesAreRight_38 k73 w0 w2 w4 w5) n) w6 M = some o := hf
    refine lv_iload hx hb dX0_touchesAreRight_38 (lv_at hl 4 rfl) ?_
    refine lv_bipush (v := 8) hx hb dX0_touchesAreRight_40 ib_8 ?_
    refine lv_icmp_ge hx hb dX0_touchesAreRight_42 rfl (fun hc => ?_) (fun hc => ?_)
    · have hf := rx_t hc hf
      exact h73 hw (lv_sub hl [0, 1, 2] rfl) hf
    · have hf := rx_f hc hf
      refine lv_iload hx hb dX0_touchesAreRight_45 (lv_at hl 3 rfl) ?_
      refine lv_iload hx hb dX0_touchesAreRight_47 (lv_at hl 4 rfl) ?_
      refine lv_ishr hx hb dX0_touchesAreRight_49 ?_
      refine lv_iconst (v := 1) hx hb dX0_touchesAreRight_50 ic_1 ?_
      refine lv_iand hx hb dX0_touchesAreRight_51 ?_
      refine lv_if_eq hx hb dX0_touchesAreRight_52 rfl (fun hc => ?_) (fun hc => ?_)
      · have hf := rx_t hc hf
        exact (qk_X0_touchesAreRight_67 cx hret ih) hw hl hf
      · have hf := rx_f hc hf
        refine lv_lload_n hx hb dX0_touchesAreRight_55 rfl (lv_at hl 0 rfl) ?_
        refine lv_iload hx hb dX0_touchesAreRight_56 (lv_at hl 4 rfl) ?_
        obtain ⟨r1, M2, er1, hf⟩ := rx_clI hf
        refine rx_jSi cx hw (qc_X0_kindIn l D ad cI cL b1 b2 w0 w6) kfX0_kindIn tw_336 ⟨Nat.le_of_ble_eq_true rfl, Nat.le_of_ble_eq_true rfl, rfl, rfl⟩ rfl hl.1 (Nat.le_of_ble_eq_true rfl) ⟨Nat.zero_le _, Nat.zero_le _⟩ dX0_touchesAreRight_58 rfl er1 (fun H locs hw => ?_)
        refine lv_iconst (v := 1) hx hb dX0_touchesAreRight_61 ic_1 ?_
        refine lv_icmp_eq hx hb dX0_touchesAreRight_62 rfl (fun hc => ?_) (fun hc => ?_)
        · have hf := rx_t hc hf
          exact (qk_X0_touchesAreRight_67 cx hret ih) hw hl hf
        · have hf := rx_f hc hf
          refine lv_iconst (v := 0) hx hb dX0_touchesAreRight_65 ic_0 ?_
          exact rx_retz hret hw hf dX0_touchesAreRight_66
set_option maxRecDepth 100000 in
set_option maxHeartbeats 4000000 in
theorem qk_X0_touchesAreRight_73 (cx : rx_C p m c cX0_touchesAreRight 7 s args wX0_touchesAreRight RX0 D vwCl (tX cI cL) (zX b1 b2) wN A) (hret : rx_RZ p l e rm_X0_touchesAreRight s m args below meth c cX0_touchesAreRight D vwCl (wX ad cI cL) A Q o) {w0 : Int64} {w2 : Int64} {w4 : Int32} {k3 : Int32 → Me → Op} (h3 : ∀ {a4 : Int32} {ls : Array Slot} {H : Heap} {locs : List Loc} {M : Me}, rx_W D vwCl (wX ad cI cL) A s.heap M H locs → lv_has ls 7 [(0, .long w0), (2, .long w2), (4, .int a4)] → k3 a4 M = some o → W p l e rm_X0_touchesAreRight s m args below meth c H locs 0 0 Q (F0 m 3 ls [])) {ls : Array Slot} {H : Heap} {locs : List Loc} {M : Me} (hw : rx_W D vwCl (wX ad cI cL) A s.heap M H locs) (hl : lv_has ls 7 [(0, .long w0), (2, .long w2), (4, .int w4)]) (hf : qb_X0_touchesAreRight_73 k3 w0 w2 w4 M = some o) : W p l e rm_X0_touchesAreRight s m args below meth c H locs 0 0 Q (F0 m 73 ls []) := by
  have hx := cx.1.1
  have hb := cx.1.2.1
  obtain ⟨v1, ev1, hf⟩ := rx_vvI hf
  refine lv_iinc (lv' := [(4, .int v1), (0, .long w0), (2, .long w2)]) hx hb dX0_touchesAreRight_73 hl (k := 2) rfl (rx_inc ic_1 ev1) (Nat.le_of_ble_eq_true rfl) rfl (fun ls hl => ?_)
  refine lv_goto hx hb dX0_touchesAreRight_76 rfl ?_
  exact h3 hw (lv_sub hl [1, 2, 0] rfl) hf
set_option maxRecDepth 100000 in
set_option maxHeartbeats 4000000 in
theorem qk_X0_touchesAreRight_35 (cx : rx_C p m c cX0_touchesAreRight 7 s args wX0_touchesAreRight RX0 D vwCl (tX cI cL) (zX b1 b2) wN A) (hret : rx_RZ p l e rm_X0_touchesAreRight s m args below meth c cX0_touchesAreRight D vwCl (wX ad cI cL) A Q o) {w0 : Int64} {w2 : Int64} {w4 : Int32} {w5 : Int32} {k3 : Int32 → Me → Op} (h3 : ∀ {a4 : Int32} {ls : Array Slot} {H : Heap} {locs : List Loc} {M : Me}, rx_W D vwCl (wX ad cI cL) A s.heap M H locs → lv_has ls 7 [(0, .long w0), (2, .long w2), (4, .int a4)] → k3 a4 M = some o → W p l e rm_X0_touchesAreRight s m args below meth c H locs 0 0 Q (F0 m 3 ls [])) {ls : Array Slot} {H : Heap} {locs : List Loc} {M : Me} (hw : rx_W D vwCl (wX ad cI cL) A s.heap M H locs) (hl : lv_has ls 7 [(0, .long w0), (2, .long w2), (4, .int w4), (5, .int w5)]) (hf : qb_X0_touchesAreRight_35 k3 w0 w2 w4 w5 M = some o) : W p l e rm_X0_touchesAreRight s m args below meth c H locs 0 0 Q (F0 m 35 ls []) := by
  have hx := cx.1.1
  have hb := cx.1.2.1
  refine lv_iconst (v := 0) hx hb dX0_touchesAreRight_35 ic_0 ?_
  refine lv_istore (lv' := [(6, .int 0), (0, .long w0), (2, .long w2), (4, .int w4), (5, .int w5)]) hx hb dX0_touchesAreRight_36 hl (Nat.le_of_ble_eq_true rfl) rfl (fun ls hl => ?_)
  exact (qk_X0_touchesAreRight_38 cx hret (qk_X0_touchesAreRight_73 cx hret h3) rx_FU) hw (lv_sub hl [1, 2, 3, 4, 0] rfl) hf
set_option maxRecDepth 100000 in
set_option maxHeartbeats 4000000 in
theorem qk_X0_touchesAreRight_3 (cx : rx_C p m c cX0_touchesAreRight 7 s args wX0_touchesAreRight RX0 D vwCl (tX cI cL) (zX b1 b2) wN A) (hret : rx_RZ p l e rm_X0_touchesAreRight s m args below meth c cX0_touchesAreRight D vwCl (wX ad cI cL) A Q o) {w0 : Int64} {w2 : Int64} : ∀ (n : Nat) {w4 : Int32} {ls : Array Slot} {H : Heap} {locs : List Loc} {M : Me}, rx_W D vwCl (wX ad cI cL) A s.heap M H locs → lv_has ls 7 [(0, .long w0), (2, .long w2), (4, .int w4)] → rx_lp1 (qo_X0_touchesAreRight_3 w0 w2) n w4 M = some o → W p l e rm_X0_touchesAreRight s m args below meth c H locs 0 0 Q (F0 m 3 ls []) := by
  have hx := cx.1.1
  have hb := cx.1.2.1
  intro n
  induction n with
  | zero => intro w4 ls H locs M hw hl hf; exact rx_no hf
  | succ n ih =>
    intro w4 ls H locs M hw hl hf
    have hf : qo_X0_touchesAreRight_3 w0 w2 (rx_lp1 (qo_X0_touchesAreRight_3 w0 w2) n) w4 M = some o := hf
    refine lv_iload hx hb dX0_touchesAreRight_3 (lv_at hl 2 rfl) ?_
    refine lv_bipush (v := 8) hx hb dX0_touchesAreRight_5 ib_8 ?_
    refine lv_icmp_ge hx hb dX0_touchesAreRight_7 rfl (fun hc => ?_) (fun hc => ?_)
    · have hf := rx_t hc hf
      refine lv_iconst (v := 1) hx hb dX0_touchesAreRight_79 ic_1 ?_
      exact rx_retz hret hw hf dX0_touchesAreRight_80
    · have hf := rx_f hc hf
      refine lv_lload_n hx hb dX0_touchesAreRight_10 rfl (lv_at hl 1 rfl) ?_
      refine lv_iload hx hb dX0_touchesAreRight_11 (lv_at hl 2 rfl) ?_
      obtain ⟨r1, M2, er1, hf⟩ := rx_clI hf
      refine rx_jSi cx hw (qc_X0_byteIn l D ad cI cL b1 b2 w2 w4) kfX0_byteIn tw_327 ⟨Nat.le_of_ble_eq_true rfl, Nat.le_of_ble_eq_true rfl, rfl, rfl⟩ rfl hl.1 (Nat.le_of_ble_eq_true rfl) ⟨Nat.zero_le _, Nat.zero_le _⟩ dX0_touchesAreRight_13 rfl er1 (fun H locs hw => ?_)
      refine lv_istore (lv' := [(5, .int r1), (0, .long w0), (2, .long w2), (4, .int w4)]) hx hb dX0_touchesAreRight_16 hl (Nat.le_of_ble_eq_true rfl) rfl (fun ls hl => ?_)
      refine lv_iload hx hb dX0_touchesAreRight_18 (lv_at hl 0 rfl) ?_
      refine lv_if_eq hx hb dX0_touchesAreRight_20 rfl (fun hc => ?_) (fun hc => ?_)
      · have hf := rx_t hc hf
        exact (qk_X0_touchesAreRight_35 cx hret ih) hw (lv_sub hl [1, 2, 3, 0] rfl) hf
      · have hf := rx_f hc hf
        refine lv_lload_n hx hb dX0_touchesAreRight_23 rfl (lv_at hl 1 rfl) ?_
        refine lv_iload hx hb dX0_touchesAreRight_24 (lv_at hl 3 rfl) ?_
        obtain ⟨r3, M4, er3, hf⟩ := rx_clI hf
        refine rx_jSi cx hw (qc_X0_kindIn l D ad cI cL b1 b2 w0 w4) kfX0_kindIn tw_336 ⟨Nat.le_of_ble_eq_true rfl, Nat.le_of_ble_eq_true rfl, rfl, rfl⟩ rfl hl.1 (Nat.le_of_ble_eq_true rfl) ⟨Nat.zero_le _, Nat.zero_le _⟩ dX0_touchesAreRight_26 rfl er3 (fun H locs hw => ?_)
        refine lv_iconst (v := 3) hx hb dX0_touchesAreRight_29 ic_3 ?_
        refine lv_icmp_eq hx hb dX0_touchesAreRight_30 rfl (fun hc => ?_) (fun hc => ?_)
        · have hf := rx_t hc hf
          exact (qk_X0_touchesAreRight_35 cx hret ih) hw (lv_sub hl [1, 2, 3, 0] rfl) hf
        · have hf := rx_f hc hf
          refine lv_iconst (v := 0) hx hb dX0_touchesAreRight_33 ic_0 ?_
          exact rx_retz hret hw hf dX0_touchesAreRight_34
set_option maxRecDepth 100000 in
set_option maxHeartbeats 4000000 in
theorem qk_X0_touchesAreRight_0 (cx : rx_C p m c cX0_touchesAreRight 7 s args wX0_touchesAreRight RX0 D vwCl (tX cI cL) (zX b1 b2) wN A) (hret : rx_RZ p l e rm_X0_touchesAreRight s m args below meth c cX0_touchesAreRight D vwCl (wX ad cI cL) A Q o) {w0 : Int64} {w2 : Int64} {ls : Array Slot} {H : Heap} {locs : List Loc} {M : Me} (hw : rx_W D vwCl (wX ad cI cL) A s.heap M H locs) (hl : lv_has ls 7 [(0, .long w0), (2, .long w2)]) (hf : qf_X0_touchesAreRight w0 w2 M = some o) : W p l e rm_X0_touchesAreRight s m args below meth c H locs 0 0 Q (F0 m 0 ls []) := by
  have hx := cx.1.1
  have hb := cx.1.2.1
  refine lv_iconst (v := 0) hx hb dX0_touchesAreRight_0 ic_0 ?_
  refine lv_istore (lv' := [(4, .int 0), (0, .long w0), (2, .long w2)]) hx hb dX0_touchesAreRight_1 hl (Nat.le_of_ble_eq_true rfl) rfl (fun ls hl => ?_)
  exact (qk_X0_touchesAreRight_3 cx hret rx_FU) hw (lv_sub hl [1, 2, 0] rfl) hf
end
set_option maxRecDepth 100000 in
theorem qc_X0_touchesAreRight (l : Launch) (D : va_G) (ad : Nat → Nat) (cI cL : ClassId) (b1 b2 : Nat) (w0 : Int64) (w2 : Int64) : rx_MI l yX0_touchesAreRight wX0_touchesAreRight rm_X0_touchesAreRight D vwCl (wX ad cI cL) (tX cI cL) (zX b1 b2) wN [.long w0, .long w2] (fun M => qf_X0_touchesAreRight w0 w2 M) :=
  rx_ofZ (by decide) rfl wN_ok (Nat.le_of_ble_eq_true rfl) (fun _ _ _ _ _ _ _ _ _ _ _ _ _ cx hret hw hl hf => qk_X0_touchesAreRight_0 cx hret hw hl hf)
def rm_X0_isType : Room := { frames := 3, cells := 0, slots := 0, locals := 72 }
noncomputable def qf_X0_isType  (w0 : Int64) (w2 : Int64) (w4 : Int64)  (M : Me) : Op :=
  rx_cl (qf_X0_kindsAreRight w2 M) fun r1 M2 => if r1 = 0 then (rx_zb 0 (some (0, M2))) else (rx_cl (qf_X0_slotsAreRight w0 w2 M2) fun r3 M4 => if r3 = 0 then (rx_zb 0 (some (0, M4))) else (rx_cl (qf_X0_sidesAreRight w0 w2 M4) fun r5 M6 => if r5 = 0 then (rx_zb 0 (some (0, M6))) else (rx_cl (qf_X0_touchesAreRight w2 w4 M6) fun r7 M8 => if r7 = 0 then (rx_zb 0 (some (0, M8))) else (rx_zb 1 (some (1, M8))))))
section
variable {p : Program} {l : Launch} {e : Env} {s : State} {m : MethodId} {args : Array Value} {below : List Frame} {meth : Method} {c : Code} {Q : State → Prop} {D : va_G} {A : Nat → Prop} {o : Int32 × Me} {ad : Nat → Nat} {cI cL : ClassId} {b1 b2 : Nat}
set_option maxRecDepth 100000 in
set_option maxHeartbeats 4000000 in
theorem qk_X0_isType_0 (cx : rx_C p m c cX0_isType 6 s args wX0_isType RX0 D vwCl (tX cI cL) (zX b1 b2) wN A) (hret : rx_RZ p l e rm_X0_isType s m args below meth c cX0_isType D vwCl (wX ad cI cL) A Q o) {w0 : Int64} {w2 : Int64} {w4 : Int64} {ls : Array Slot} {H : Heap} {locs : List Loc} {M : Me} (hw : rx_W D vwCl (wX ad cI cL) A s.heap M H locs) (hl : lv_has ls 6 [(0, .long w0), (2, .long w2), (4, .long w4)]) (hf : qf_X0_isType w0 w2 w4 M = some o) : W p l e rm_X0_isType s m args below meth c H locs 0 0 Q (F0 m 0 ls []) := by
  have hx := cx.1.1
  have hb := cx.1.2.1
  refine lv_lload_n hx hb dX0_isType_0 rfl (lv_at hl 1 rfl) ?_
  obtain ⟨r1, M2, er1, hf⟩ := rx_clI hf
  refine rx_jSi cx hw (qc_X0_kindsAreRight l D ad cI cL b1 b2 w2) kfX0_kindsAreRight tw_324 ⟨Nat.le_of_ble_eq_true rfl, Nat.le_of_ble_eq_true rfl, rfl, rfl⟩ rfl hl.1 (Nat.le_of_ble_eq_true rfl) ⟨Nat.zero_le _, Nat.zero_le _⟩ dX0_isType_1 rfl er1 (fun H locs hw => ?_)
  refine lv_if_eq hx hb dX0_isType_4 rfl (fun hc => ?_) (fun hc => ?_)
  · have hf := rx_t hc hf
    refine lv_iconst (v := 0) hx hb dX0_isType_36 ic_0 ?_
    exact rx_retz hret hw hf dX0_isType_37
  · have hf := rx_f hc hf
    refine lv_lload_n hx hb dX0_isType_7 rfl (lv_at hl 0 rfl) ?_
    refine lv_lload_n hx hb dX0_isType_8 rfl (lv_at hl 1 rfl) ?_
    obtain ⟨r3, M4, er3, hf⟩ := rx_clI hf
    refine rx_jSi cx hw (qc_X0_slotsAreRight l D ad cI cL b1 b2 w0 w2) kfX0_slotsAreRight tw_330 ⟨Nat.le_of_ble_eq_true rfl, Nat.le_of_ble_eq_true rfl, rfl, rfl⟩ rfl hl.1 (Nat.le_of_ble_eq_true rfl) ⟨Nat.zero_le _, Nat.zero_le _⟩ dX0_isType_9 rfl er3 (fun H locs hw => ?_)
    refine lv_if_eq hx hb dX0_isType_12 rfl (fun hc => ?_) (fun hc => ?_)
    · have hf := rx_t hc hf
      refine lv_iconst (v := 0) hx hb dX0_isType_36 ic_0 ?_
      exact rx_retz hret hw hf dX0_isType_37
    · have hf := rx_f hc hf
      refine lv_lload_n hx hb dX0_isType_15 rfl (lv_at hl 0 rfl) ?_
      refine lv_lload_n hx hb dX0_isType_16 rfl (lv_at hl 1 rfl) ?_
      obtain ⟨r5, M6, er5, hf⟩ := rx_clI hf
      refine rx_jSi cx hw (qc_X0_sidesAreRight l D ad cI cL b1 b2 w0 w2) kfX0_sidesAreRight tw_342 ⟨Nat.le_of_ble_eq_true rfl, Nat.le_of_ble_eq_true rfl, rfl, rfl⟩ rfl hl.1 (Nat.le_of_ble_eq_true rfl) ⟨Nat.zero_le _, Nat.zero_le _⟩ dX0_isType_17 rfl er5 (fun H locs hw => ?_)
      refine lv_if_eq hx hb dX0_isType_20 rfl (fun hc => ?_) (fun hc => ?_)
      · have hf := rx_t hc hf
        refine lv_iconst (v := 0) hx hb dX0_isType_36 ic_0 ?_
        exact rx_retz hret hw hf dX0_isType_37
      · have hf := rx_f hc hf
        refine lv_lload_n hx hb dX0_isType_23 rfl (lv_at hl 1 rfl) ?_
        refine lv_lload hx hb dX0_isType_24 (lv_at hl 2 rfl) ?_
        obtain ⟨r7, M8, er7, hf⟩ := rx_clI hf
        refine rx_jSi cx hw (qc_X0_touchesAreRight l D ad cI cL b1 b2 w2 w4) kfX0_touchesAreRight tw_345 ⟨Nat.le_of_ble_eq_true rfl, Nat.le_of_ble_eq_true rfl, rfl, rfl⟩ rfl hl.1 (Nat.le_of_ble_eq_true rfl) ⟨Nat.zero_le _, Nat.zero_le _⟩ dX0_isType_26 rfl er7 (fun H locs hw => ?_)
        refine lv_if_eq hx hb dX0_isType_29 rfl (fun hc => ?_) (fun hc => ?_)
        · have hf := rx_t hc hf
          refine lv_iconst (v := 0) hx hb dX0_isType_36 ic_0 ?_
          exact rx_retz hret hw hf dX0_isType_37
        · have hf := rx_f hc hf
          refine lv_iconst (v := 1) hx hb dX0_isType_32 ic_1 ?_
          refine lv_goto hx hb dX0_isType_33 rfl ?_
          exact rx_retz hret hw hf dX0_isType_37
end
set_option maxRecDepth 100000 in
theorem qc_X0_isType (l : Launch) (D : va_G) (ad : Nat → Nat) (cI cL : ClassId) (b1 b2 : Nat) (w0 : Int64) (w2 : Int64) (w4 : Int64) : rx_MI l yX0_isType wX0_isType rm_X0_isType D vwCl (wX ad cI cL) (tX cI cL) (zX b1 b2) wN [.long w0, .long w2, .long w4] (fun M => qf_X0_isType w0 w2 w4 M) :=
  rx_ofZ (by decide) rfl wN_ok (Nat.le_of_ble_eq_true rfl) (fun _ _ _ _ _ _ _ _ _ _ _ _ _ cx hret hw hl hf => qk_X0_isType_0 cx hret hw hl hf)
def rm_X0_addType : Room := { frames := 2, cells := 0, slots := 0, locals := 44 }
noncomputable def qb_X0_addType_124 (k22 : Int32 → Me → Op) (w1 : Int64) (w3 : Int64) (w5 : Int64) (w7 : Int32) (w8 : Int32)  (M : Me) : Op :=
  rx_vv (w8 + 1) fun v1 => k22 v1 M
noncomputable def qb_X0_addType_70 (k22 : Int32 → Me → Op) (w1 : Int64) (w3 : Int64) (w5 : Int64) (w7 : Int32) (w8 : Int32) (s0 : Int32) (s1 : Int32) (M : Me) : Op :=
  rx_sv M 12 96 s1 s0 fun M1 => rx_cl (qf_X0_byteIn w5 w8 M1) fun r2 M3 => rx_sv M3 13 96 (w7 + w8) r2 fun M4 => rx_sv M4 14 96 (w7 + w8) 0 fun M5 => rx_ld M5 11 96 (w7 + w8) fun v6 => if v6 = 4 then (rx_vv (M5 1 8) fun v7 => rx_sv M5 15 12 v7 w8 fun M8 => qb_X0_addType_124 k22 w1 w3 w5 w7 w8 M8) else (qb_X0_addType_124 k22 w1 w3 w5 w7 w8 M5)
noncomputable def qo_X0_addType_22 (k130 : Me → Op) (w1 : Int64) (w3 : Int64) (w5 : Int64) (w7 : Int32) (rec : Int32 → Me → Op) (w8 : Int32) (M : Me) : Op :=
  if 8 ≤ w8 then (k130 M) else (rx_cl (qf_X0_kindIn w3 w8 M) fun r1 M2 => rx_sv M2 11 96 (w7 + w8) r1 fun M3 => rx_cl (qf_X0_byteIn w3 w8 M3) fun r4 M5 => if r4 < 8 then (qb_X0_addType_70 rec w1 w3 w5 w7 w8 0 (w7 + w8) M5) else (qb_X0_addType_70 rec w1 w3 w5 w7 w8 1 (w7 + w8) M5))
noncomputable def qo_X0_addType_133 (k185 : Me → Op) (w1 : Int64) (w3 : Int64) (w7 : Int32) (rec : Int32 → Me → Op) (w8 : Int32) (M : Me) : Op :=
  if 12 ≤ w8 then (k185 M) else (rx_cl (qf_X0_partIn w1 w8 M) fun r1 M2 => rx_vv (M2 1 8) fun v3 => rx_sv M2 9 144 ((v3 * 12) + w8) r1 fun M4 => rx_ld M4 14 96 (w7 + r1) fun v5 => rx_sv M4 14 96 (w7 + r1) (v5 + 1) fun M6 => rx_vv (w8 + 1) fun v7 => rec v7 M6)
noncomputable def qo_X0_addType_188 (k228 : Me → Op) (w1 : Int64) (w3 : Int64) (rec : Int32 → Me → Op) (w8 : Int32) (M : Me) : Op :=
  if 4 ≤ w8 then (k228 M) else (rx_vv (M 1 8) fun v1 => rx_cl (qf_X0_partIn w1 ((w8 * 3) + 1) M) fun r2 M3 => rx_cl (qf_X0_kindIn w3 r2 M3) fun r4 M5 => rx_sv M5 10 48 ((v1 * 4) + w8) r4 fun M6 => rx_vv (w8 + 1) fun v7 => rec v7 M6)
noncomputable def qb_X0_addType_228    (M : Me) : Op :=
  rx_vv (M 1 8) fun v1 => rx_vv (rx_st M 1 8 (v1 + 1)) fun M2 => rx_vv (M2 1 8) fun v3 => some (v3 - 1, M2)
noncomputable def qb_X0_addType_185  (w1 : Int64) (w3 : Int64)  (M : Me) : Op :=
  rx_lp1 (qo_X0_addType_188 (fun M => qb_X0_addType_228 M) w1 w3) rx_FU 0 M
noncomputable def qb_X0_addType_130  (w1 : Int64) (w3 : Int64) (w7 : Int32)  (M : Me) : Op :=
  rx_lp1 (qo_X0_addType_133 (fun M => qb_X0_addType_185 w1 w3 M) w1 w3 w7) rx_FU 0 M
noncomputable def qf_X0_addType  (w1 : Int64) (w3 : Int64) (w5 : Int64)  (M : Me) : Op :=
  rx_vv (M 1 8) fun v1 => rx_vv (v1 * 8) fun v2 => rx_vv (M 1 8) fun v3 => rx_sv M 15 12 v3 (-1) fun M4 => rx_lp1 (qo_X0_addType_22 (fun M => qb_X0_addType_130 w1 w3 v2 M) w1 w3 w5 v2) rx_FU 0 M4
section
variable {p : Program} {l : Launch} {e : Env} {s : State} {m : MethodId} {args : Array Value} {below : List Frame} {meth : Method} {c : Code} {Q : State → Prop} {D : va_G} {A : Nat → Prop} {o : Int32 × Me} {ad : Nat → Nat} {cI cL : ClassId} {b1 b2 : Nat}
set_option maxRecDepth 100000 in
set_option maxHeartbeats 4000000 in
theorem qk_X0_addType_124 (cx : rx_C p m c cX0_addType 10 s args wX0_addType RX0 D vwCl (tX cI cL) (zX b1 b2) wN A) (hret : rx_RI p l e rm_X0_addType s m args below meth c cX0_addType D vwCl (wX ad cI cL) A Q o) {w1 : Int64} {w3 : Int64} {w5 : Int64} {w7 : Int32} {w8 : Int32} {k22 : Int32 → Me → Op} (h22 : ∀ {a8 : Int32} {ls : Array Slot} {H : Heap} {locs : List Loc} {M : Me}, rx_W D vwCl (wX ad cI cL) A s.heap M H locs → lv_has ls 10 [(0, .ref ((ad 1))), (1, .long w1), (3, .long w3), (5, .long w5), (7, .int w7), (8, .int a8)] → k22 a8 M = some o → W p l e rm_X0_addType s m args below meth c H locs 0 0 Q (F0 m 22 ls [])) {ls : Array Slot} {H : Heap} {locs : List Loc} {M : Me} (hw : rx_W D vwCl (wX ad cI cL) A s.heap M H locs) (hl : lv_has ls 10 [(0, .ref ((ad 1))), (1, .long w1), (3, .long w3), (5, .long w5), (7, .int w7), (8, .int w8)]) (hf : qb_X0_addType_124 k22 w1 w3 w5 w7 w8 M = some o) : W p l e rm_X0_addType s m args below meth c H locs 0 0 Q (F0 m 124 ls []) := by
  have hx := cx.1.1
  have hb := cx.1.2.1
  obtain ⟨v1, ev1, hf⟩ := rx_vvI hf
  refine lv_iinc (lv' := [(8, .int v1), (0, .ref ((ad 1))), (1, .long w1), (3, .long w3), (5, .long w5), (7, .int w7)]) hx hb dX0_addType_124 hl (k := 5) rfl (rx_inc ic_1 ev1) (Nat.le_of_ble_eq_true rfl) rfl (fun ls hl => ?_)
  refine lv_goto hx hb dX0_addType_127 rfl ?_
  exact h22 hw (lv_sub hl [1, 2, 3, 4, 5, 0] rfl) hf
set_option maxRecDepth 100000 in
set_option maxHeartbeats 4000000 in
theorem qk_X0_addType_70 (cx : rx_C p m c cX0_addType 10 s args wX0_addType RX0 D vwCl (tX cI cL) (zX b1 b2) wN A) (hret : rx_RI p l e rm_X0_addType s m args below meth c cX0_addType D vwCl (wX ad cI cL) A Q o) {w1 : Int64} {w3 : Int64} {w5 : Int64} {w7 : Int32} {w8 : Int32} {s0 : Int32} {s1 : Int32} {k22 : Int32 → Me → Op} (h22 : ∀ {a8 : Int32} {ls : Array Slot} {H : Heap} {locs : List Loc} {M : Me}, rx_W D vwCl (wX ad cI cL) A s.heap M H locs → lv_has ls 10 [(0, .ref ((ad 1))), (1, .long w1), (3, .long w3), (5, .long w5), (7, .int w7), (8, .int a8)] → k22 a8 M = some o → W p l e rm_X0_addType s m args below meth c H locs 0 0 Q (F0 m 22 ls [])) {ls : Array Slot} {H : Heap} {locs : List Loc} {M : Me} (hw : rx_W D vwCl (wX ad cI cL) A s.heap M H locs) (hl : lv_has ls 10 [(0, .ref ((ad 1))), (1, .long w1), (3, .long w3), (5, .long w5), (7, .int w7), (8, .int w8)]) (hf : qb_X0_addType_70 k22 w1 w3 w5 w7 w8 s0 s1 M = some o) : W p l e rm_X0_addType s m args below meth c H locs 0 0 Q (F0 m 70 ls [.int s0, .int s1, .ref ((ad 12))]) := by
  have hx := cx.1.1
  have hb := cx.1.2.1
  obtain ⟨hM1, M1, eM1, hf⟩ := rx_svI hf
  refine rx_iast cx hw (arX_12 ad cI cL) ⟨hM1, eM1⟩ dX0_addType_70 (fun H locs hw => ?_)
  refine lv_aload_n hx hb dX0_addType_71 rfl (lv_at hl 0 rfl) ?_
  refine rx_getr cx hw (frX_1_4 ad cI cL) rfl (inT_X0) (Nat.le_of_ble_eq_true rfl) (.tail _ tw_35) dX0_addType_72 ?_
  refine lv_iload hx hb dX0_addType_75 (lv_at hl 4 rfl) ?_
  refine lv_iload hx hb dX0_addType_77 (lv_at hl 5 rfl) ?_
  refine lv_iadd hx hb dX0_addType_79 ?_
  refine lv_lload hx hb dX0_addType_80 (lv_at hl 3 rfl) ?_
  refine lv_iload hx hb dX0_addType_82 (lv_at hl 5 rfl) ?_
  obtain ⟨r2, M3, er2, hf⟩ := rx_clI hf
  refine rx_jSi cx hw (qc_X0_byteIn l D ad cI cL b1 b2 w5 w8) kfX0_byteIn tw_327 ⟨Nat.le_of_ble_eq_true rfl, Nat.le_of_ble_eq_true rfl, rfl, rfl⟩ rfl hl.1 (Nat.le_of_ble_eq_true rfl) ⟨Nat.zero_le _, Nat.zero_le _⟩ dX0_addType_84 rfl er2 (fun H locs hw => ?_)
  obtain ⟨hM4, M4, eM4, hf⟩ := rx_svI hf
  refine rx_iast cx hw (arX_13 ad cI cL) ⟨hM4, eM4⟩ dX0_addType_87 (fun H locs hw => ?_)
  refine lv_aload_n hx hb dX0_addType_88 rfl (lv_at hl 0 rfl) ?_
  refine rx_getr cx hw (frX_1_5 ad cI cL) rfl (inT_X0) (Nat.le_of_ble_eq_true rfl) (.tail _ tw_37) dX0_addType_89 ?_
  refine lv_iload hx hb dX0_addType_92 (lv_at hl 4 rfl) ?_
  refine lv_iload hx hb dX0_addType_94 (lv_at hl 5 rfl) ?_
  refine lv_iadd hx hb dX0_addType_96 ?_
  refine lv_iconst (v := 0) hx hb dX0_addType_97 ic_0 ?_
  obtain ⟨hM5, M5, eM5, hf⟩ := rx_svI hf
  refine rx_iast cx hw (arX_14 ad cI cL) ⟨hM5, eM5⟩ dX0_addType_98 (fun H locs hw => ?_)
  refine lv_aload_n hx hb dX0_addType_99 rfl (lv_at hl 0 rfl) ?_
  refine rx_getr cx hw (frX_1_2 ad cI cL) rfl (inT_X0) (Nat.le_of_ble_eq_true rfl) (.tail _ tw_31) dX0_addType_100 ?_
  refine lv_iload hx hb dX0_addType_103 (lv_at hl 4 rfl) ?_
  refine lv_iload hx hb dX0_addType_105 (lv_at hl 5 rfl) ?_
  refine lv_iadd hx hb dX0_addType_107 ?_
  obtain ⟨hv6, v6, ev6, hf⟩ := rx_ldI hf
  refine rx_iald cx hw (arX_11 ad cI cL) ⟨hv6, ev6⟩ dX0_addType_108 ?_
  refine lv_iconst (v := 4) hx hb dX0_addType_109 ic_4 ?_
  refine lv_icmp_ne hx hb dX0_addType_110 rfl (fun hc => ?_) (fun hc => ?_)
  · have hf := rx_f hc hf
    exact (qk_X0_addType_124 cx hret h22) hw hl hf
  · have hf := rx_t hc hf
    refine lv_aload_n hx hb dX0_addType_113 rfl (lv_at hl 0 rfl) ?_
    refine rx_getr cx hw (frX_1_6 ad cI cL) rfl (inT_X0) (Nat.le_of_ble_eq_true rfl) (.tail _ tw_39) dX0_addType_114 ?_
    refine lv_aload_n hx hb dX0_addType_117 rfl (lv_at hl 0 rfl) ?_
    obtain ⟨v7, ev7, hf⟩ := rx_vvI hf
    refine rx_geti cx hw (fiX_1_8 ad cI cL) rfl (inT_X0) (Nat.le_of_ble_eq_true rfl) (.tail _ tw_44) ev7 dX0_addType_118 ?_
    refine lv_iload hx hb dX0_addType_121 (lv_at hl 5 rfl) ?_
    obtain ⟨hM8, M8, eM8, hf⟩ := rx_svI hf
    refine rx_iast cx hw (arX_15 ad cI cL) ⟨hM8, eM8⟩ dX0_addType_123 (fun H locs hw => ?_)
    exact (qk_X0_addType_124 cx hret h22) hw hl hf
set_option maxRecDepth 100000 in
set_option maxHeartbeats 4000000 in
theorem qk_X0_addType_22 (cx : rx_C p m c cX0_addType 10 s args wX0_addType RX0 D vwCl (tX cI cL) (zX b1 b2) wN A) (hret : rx_RI p l e rm_X0_addType s m args below meth c cX0_addType D vwCl (wX ad cI cL) A Q o) {w1 : Int64} {w3 : Int64} {w5 : Int64} {w7 : Int32} {k130 : Me → Op} (h130 : ∀ {ls : Array Slot} {H : Heap} {locs : List Loc} {M : Me}, rx_W D vwCl (wX ad cI cL) A s.heap M H locs → lv_has ls 10 [(0, .ref ((ad 1))), (1, .long w1), (3, .long w3), (7, .int w7)] → k130 M = some o → W p l e rm_X0_addType s m args below meth c H locs 0 0 Q (F0 m 130 ls [])) : ∀ (n : Nat) {w8 : Int32} {ls : Array Slot} {H : Heap} {locs : List Loc} {M : Me}, rx_W D vwCl (wX ad cI cL) A s.heap M H locs → lv_has ls 10 [(0, .ref ((ad 1))), (1, .long w1), (3, .long w3), (5, .long w5), (7, .int w7), (8, .int w8)] → rx_lp1 (qo_X0_addType_22 k130 w1 w3 w5 w7) n w8 M = some o → W p l e rm_X0_addType s m args below meth c H locs 0 0 Q (F0 m 22 ls []) := by
  have hx := cx.1.1
  have hb := cx.1.2.1
  intro n
  induction n with
  | zero => intro w8 ls H locs M hw hl hf; exact rx_no hf
  | succ n ih =>
    intro w8 ls H locs M hw hl hf
    have hf : qo_X0_addType_22 k130 w1 w3 w5 w7 (rx_lp1 (qo_X0_addType_22 k130 w1 w3 w5 w7) n) w8 M = some o := hf
    refine lv_iload hx hb dX0_addType_22 (lv_at hl 5 rfl) ?_
    refine lv_bipush (v := 8) hx hb dX0_addType_24 ib_8 ?_
    refine lv_icmp_ge hx hb dX0_addType_26 rfl (fun hc => ?_) (fun hc => ?_)
    · have hf := rx_t hc hf
      exact h130 hw (lv_sub hl [0, 1, 2, 4] rfl) hf
    · have hf := rx_f hc hf
      refine lv_aload_n hx hb dX0_addType_29 rfl (lv_at hl 0 rfl) ?_
      refine rx_getr cx hw (frX_1_2 ad cI cL) rfl (inT_X0) (Nat.le_of_ble_eq_true rfl) (.tail _ tw_31) dX0_addType_30 ?_
      refine lv_iload hx hb dX0_addType_33 (lv_at hl 4 rfl) ?_
      refine lv_iload hx hb dX0_addType_35 (lv_at hl 5 rfl) ?_
      refine lv_iadd hx hb dX0_addType_37 ?_
      refine lv_lload_n hx hb dX0_addType_38 rfl (lv_at hl 2 rfl) ?_
      refine lv_iload hx hb dX0_addType_39 (lv_at hl 5 rfl) ?_
      obtain ⟨r1, M2, er1, hf⟩ := rx_clI hf
      refine rx_jSi cx hw (qc_X0_kindIn l D ad cI cL b1 b2 w3 w8) kfX0_kindIn tw_336 ⟨Nat.le_of_ble_eq_true rfl, Nat.le_of_ble_eq_true rfl, rfl, rfl⟩ rfl hl.1 (Nat.le_of_ble_eq_true rfl) ⟨Nat.zero_le _, Nat.zero_le _⟩ dX0_addType_41 rfl er1 (fun H locs hw => ?_)
      obtain ⟨hM3, M3, eM3, hf⟩ := rx_svI hf
      refine rx_iast cx hw (arX_11 ad cI cL) ⟨hM3, eM3⟩ dX0_addType_44 (fun H locs hw => ?_)
      refine lv_aload_n hx hb dX0_addType_45 rfl (lv_at hl 0 rfl) ?_
      refine rx_getr cx hw (frX_1_3 ad cI cL) rfl (inT_X0) (Nat.le_of_ble_eq_true rfl) (.tail _ tw_33) dX0_addType_46 ?_
      refine lv_iload hx hb dX0_addType_49 (lv_at hl 4 rfl) ?_
      refine lv_iload hx hb dX0_addType_51 (lv_at hl 5 rfl) ?_
      refine lv_iadd hx hb dX0_addType_53 ?_
      refine lv_lload_n hx hb dX0_addType_54 rfl (lv_at hl 2 rfl) ?_
      refine lv_iload hx hb dX0_addType_55 (lv_at hl 5 rfl) ?_
      obtain ⟨r4, M5, er4, hf⟩ := rx_clI hf
      refine rx_jSi cx hw (qc_X0_byteIn l D ad cI cL b1 b2 w3 w8) kfX0_byteIn tw_327 ⟨Nat.le_of_ble_eq_true rfl, Nat.le_of_ble_eq_true rfl, rfl, rfl⟩ rfl hl.1 (Nat.le_of_ble_eq_true rfl) ⟨Nat.zero_le _, Nat.zero_le _⟩ dX0_addType_57 rfl er4 (fun H locs hw => ?_)
      refine lv_bipush (v := 8) hx hb dX0_addType_60 ib_8 ?_
      refine lv_icmp_lt hx hb dX0_addType_62 rfl (fun hc => ?_) (fun hc => ?_)
      · have hf := rx_t hc hf
        refine lv_iconst (v := 0) hx hb dX0_addType_69 ic_0 ?_
        exact (qk_X0_addType_70 cx hret ih) hw hl hf
      · have hf := rx_f hc hf
        refine lv_iconst (v := 1) hx hb dX0_addType_65 ic_1 ?_
        refine lv_goto hx hb dX0_addType_66 rfl ?_
        exact (qk_X0_addType_70 cx hret ih) hw hl hf
set_option maxRecDepth 100000 in
set_option maxHeartbeats 4000000 in
theorem qk_X0_addType_133 (cx : rx_C p m c cX0_addType 10 s args wX0_addType RX0 D vwCl (tX cI cL) (zX b1 b2) wN A) (hret : rx_RI p l e rm_X0_addType s m args below meth c cX0_addType D vwCl (wX ad cI cL) A Q o) {w1 : Int64} {w3 : Int64} {w7 : Int32} {k185 : Me → Op} (h185 : ∀ {ls : Array Slot} {H : Heap} {locs : List Loc} {M : Me}, rx_W D vwCl (wX ad cI cL) A s.heap M H locs → lv_has ls 10 [(0, .ref ((ad 1))), (1, .long w1), (3, .long w3)] → k185 M = some o → W p l e rm_X0_addType s m args below meth c H locs 0 0 Q (F0 m 185 ls [])) : ∀ (n : Nat) {w8 : Int32} {ls : Array Slot} {H : Heap} {locs : List Loc} {M : Me}, rx_W D vwCl (wX ad cI cL) A s.heap M H locs → lv_has ls 10 [(0, .ref ((ad 1))), (1, .long w1), (3, .long w3), (7, .int w7), (8, .int w8)] → rx_lp1 (qo_X0_addType_133 k185 w1 w3 w7) n w8 M = some o → W p l e rm_X0_addType s m args below meth c H locs 0 0 Q (F0 m 133 ls []) := by
  have hx := cx.1.1
  have hb := cx.1.2.1
  intro n
  induction n with
  | zero => intro w8 ls H locs M hw hl hf; exact rx_no hf
  | succ n ih =>
    intro w8 ls H locs M hw hl hf
    have hf : qo_X0_addType_133 k185 w1 w3 w7 (rx_lp1 (qo_X0_addType_133 k185 w1 w3 w7) n) w8 M = some o := hf
    refine lv_iload hx hb dX0_addType_133 (lv_at hl 4 rfl) ?_
    refine lv_bipush (v := 12) hx hb dX0_addType_135 ib_12 ?_
    refine lv_icmp_ge hx hb dX0_addType_137 rfl (fun hc => ?_) (fun hc => ?_)
    · have hf := rx_t hc hf
      exact h185 hw (lv_sub hl [0, 1, 2] rfl) hf
    · have hf := rx_f hc hf
      refine lv_lload_n hx hb dX0_addType_140 rfl (lv_at hl 1 rfl) ?_
      refine lv_iload hx hb dX0_addType_141 (lv_at hl 4 rfl) ?_
      obtain ⟨r1, M2, er1, hf⟩ := rx_clI hf
      refine rx_jSi cx hw (qc_X0_partIn l D ad cI cL b1 b2 w1 w8) kfX0_partIn tw_333 ⟨Nat.le_of_ble_eq_true rfl, Nat.le_of_ble_eq_true rfl, rfl, rfl⟩ rfl hl.1 (Nat.le_of_ble_eq_true rfl) ⟨Nat.zero_le _, Nat.zero_le _⟩ dX0_addType_143 rfl er1 (fun H locs hw => ?_)
      refine lv_istore (lv' := [(9, .int r1), (0, .ref ((ad 1))), (1, .long w1), (3, .long w3), (7, .int w7), (8, .int w8)]) hx hb dX0_addType_146 hl (Nat.le_of_ble_eq_true rfl) rfl (fun ls hl => ?_)
      refine lv_aload_n hx hb dX0_addType_148 rfl (lv_at hl 1 rfl) ?_
      refine rx_getr cx hw (frX_1_0 ad cI cL) rfl (inT_X0) (Nat.le_of_ble_eq_true rfl) (.tail _ tw_27) dX0_addType_149 ?_
      refine lv_aload_n hx hb dX0_addType_152 rfl (lv_at hl 1 rfl) ?_
      obtain ⟨v3, ev3, hf⟩ := rx_vvI hf
      refine rx_geti cx hw (fiX_1_8 ad cI cL) rfl (inT_X0) (Nat.le_of_ble_eq_true rfl) (.tail _ tw_44) ev3 dX0_addType_153 ?_
      refine lv_bipush (v := 12) hx hb dX0_addType_156 ib_12 ?_
      refine lv_imul hx hb dX0_addType_158 ?_
      refine lv_iload hx hb dX0_addType_159 (lv_at hl 5 rfl) ?_
      refine lv_iadd hx hb dX0_addType_161 ?_
      refine lv_iload hx hb dX0_addType_162 (lv_at hl 0 rfl) ?_
      obtain ⟨hM4, M4, eM4, hf⟩ := rx_svI hf
      refine rx_iast cx hw (arX_9 ad cI cL) ⟨hM4, eM4⟩ dX0_addType_164 (fun H locs hw => ?_)
      refine lv_aload_n hx hb dX0_addType_165 rfl (lv_at hl 1 rfl) ?_
      refine rx_getr cx hw (frX_1_5 ad cI cL) rfl (inT_X0) (Nat.le_of_ble_eq_true rfl) (.tail _ tw_37) dX0_addType_166 ?_
      refine lv_iload hx hb dX0_addType_169 (lv_at hl 4 rfl) ?_
      refine lv_iload hx hb dX0_addType_171 (lv_at hl 0 rfl) ?_
      refine lv_iadd hx hb dX0_addType_173 ?_
      refine lv_dup2_11 hx hb dX0_addType_174 rfl rfl ?_
      obtain ⟨hv5, v5, ev5, hf⟩ := rx_ldI hf
      refine rx_iald cx hw (arX_14 ad cI cL) ⟨hv5, ev5⟩ dX0_addType_175 ?_
      refine lv_iconst (v := 1) hx hb dX0_addType_176 ic_1 ?_
      refine lv_iadd hx hb dX0_addType_177 ?_
      obtain ⟨hM6, M6, eM6, hf⟩ := rx_svI hf
      refine rx_iast cx hw (arX_14 ad cI cL) ⟨hM6, eM6⟩ dX0_addType_178 (fun H locs hw => ?_)
      obtain ⟨v7, ev7, hf⟩ := rx_vvI hf
      refine lv_iinc (lv' := [(8, .int v7), (9, .int r1), (0, .ref ((ad 1))), (1, .long w1), (3, .long w3), (7, .int w7)]) hx hb dX0_addType_179 hl (k := 5) rfl (rx_inc ic_1 ev7) (Nat.le_of_ble_eq_true rfl) rfl (fun ls hl => ?_)
      refine lv_goto hx hb dX0_addType_182 rfl ?_
      exact ih hw (lv_sub hl [2, 3, 4, 5, 0] rfl) hf
set_option maxRecDepth 100000 in
set_option maxHeartbeats 4000000 in
theorem qk_X0_addType_188 (cx : rx_C p m c cX0_addType 10 s args wX0_addType RX0 D vwCl (tX cI cL) (zX b1 b2) wN A) (hret : rx_RI p l e rm_X0_addType s m args below meth c cX0_addType D vwCl (wX ad cI cL) A Q o) {w1 : Int64} {w3 : Int64} {k228 : Me → Op} (h228 : ∀ {ls : Array Slot} {H : Heap} {locs : List Loc} {M : Me}, rx_W D vwCl (wX ad cI cL) A s.heap M H locs → lv_has ls 10 [(0, .ref ((ad 1)))] → k228 M = some o → W p l e rm_X0_addType s m args below meth c H locs 0 0 Q (F0 m 228 ls [])) : ∀ (n : Nat) {w8 : Int32} {ls : Array Slot} {H : Heap} {locs : List Loc} {M : Me}, rx_W D vwCl (wX ad cI cL) A s.heap M H locs → lv_has ls 10 [(0, .ref ((ad 1))), (1, .long w1), (3, .long w3), (8, .int w8)] → rx_lp1 (qo_X0_addType_188 k228 w1 w3) n w8 M = some o → W p l e rm_X0_addType s m args below meth c H locs 0 0 Q (F0 m 188 ls []) := by
  have hx := cx.1.1
  have hb := cx.1.2.1
  intro n
  induction n with
  | zero => intro w8 ls H locs M hw hl hf; exact rx_no hf
  | succ n ih =>
    intro w8 ls H locs M hw hl hf
    have hf : qo_X0_addType_188 k228 w1 w3 (rx_lp1 (qo_X0_addType_188 k228 w1 w3) n) w8 M = some o := hf
    refine lv_iload hx hb dX0_addType_188 (lv_at hl 3 rfl) ?_
    refine lv_iconst (v := 4) hx hb dX0_addType_190 ic_4 ?_
    refine lv_icmp_ge hx hb dX0_addType_191 rfl (fun hc => ?_) (fun hc => ?_)
    · have hf := rx_t hc hf
      exact h228 hw (lv_sub hl [0] rfl) hf
    · have hf := rx_f hc hf
      refine lv_aload_n hx hb dX0_addType_194 rfl (lv_at hl 0 rfl) ?_
      refine rx_getr cx hw (frX_1_1 ad cI cL) rfl (inT_X0) (Nat.le_of_ble_eq_true rfl) (.tail _ tw_29) dX0_addType_195 ?_
      refine lv_aload_n hx hb dX0_addType_198 rfl (lv_at hl 0 rfl) ?_
      obtain ⟨v1, ev1, hf⟩ := rx_vvI hf
      refine rx_geti cx hw (fiX_1_8 ad cI cL) rfl (inT_X0) (Nat.le_of_ble_eq_true rfl) (.tail _ tw_44) ev1 dX0_addType_199 ?_
      refine lv_iconst (v := 4) hx hb dX0_addType_202 ic_4 ?_
      refine lv_imul hx hb dX0_addType_203 ?_
      refine lv_iload hx hb dX0_addType_204 (lv_at hl 3 rfl) ?_
      refine lv_iadd hx hb dX0_addType_206 ?_
      refine lv_lload_n hx hb dX0_addType_207 rfl (lv_at hl 2 rfl) ?_
      refine lv_lload_n hx hb dX0_addType_208 rfl (lv_at hl 1 rfl) ?_
      refine lv_iload hx hb dX0_addType_209 (lv_at hl 3 rfl) ?_
      refine lv_iconst (v := 3) hx hb dX0_addType_211 ic_3 ?_
      refine lv_imul hx hb dX0_addType_212 ?_
      refine lv_iconst (v := 1) hx hb dX0_addType_213 ic_1 ?_
      refine lv_iadd hx hb dX0_addType_214 ?_
      obtain ⟨r2, M3, er2, hf⟩ := rx_clI hf
      refine rx_jSi cx hw (qc_X0_partIn l D ad cI cL b1 b2 w1 ((w8 * 3) + 1)) kfX0_partIn tw_333 ⟨Nat.le_of_ble_eq_true rfl, Nat.le_of_ble_eq_true rfl, rfl, rfl⟩ rfl hl.1 (Nat.le_of_ble_eq_true rfl) ⟨Nat.zero_le _, Nat.zero_le _⟩ dX0_addType_215 rfl er2 (fun H locs hw => ?_)
      obtain ⟨r4, M5, er4, hf⟩ := rx_clI hf
      refine rx_jSi cx hw (qc_X0_kindIn l D ad cI cL b1 b2 w3 r2) kfX0_kindIn tw_336 ⟨Nat.le_of_ble_eq_true rfl, Nat.le_of_ble_eq_true rfl, rfl, rfl⟩ rfl hl.1 (Nat.le_of_ble_eq_true rfl) ⟨Nat.zero_le _, Nat.zero_le _⟩ dX0_addType_218 rfl er4 (fun H locs hw => ?_)
      obtain ⟨hM6, M6, eM6, hf⟩ := rx_svI hf
      refine rx_iast cx hw (arX_10 ad cI cL) ⟨hM6, eM6⟩ dX0_addType_221 (fun H locs hw => ?_)
      obtain ⟨v7, ev7, hf⟩ := rx_vvI hf
      refine lv_iinc (lv' := [(8, .int v7), (0, .ref ((ad 1))), (1, .long w1), (3, .long w3)]) hx hb dX0_addType_222 hl (k := 3) rfl (rx_inc ic_1 ev7) (Nat.le_of_ble_eq_true rfl) rfl (fun ls hl => ?_)
      refine lv_goto hx hb dX0_addType_225 rfl ?_
      exact ih hw (lv_sub hl [1, 2, 3, 0] rfl) hf
set_option maxRecDepth 100000 in
set_option maxHeartbeats 4000000 in
theorem qk_X0_addType_228 (cx : rx_C p m c cX0_addType 10 s args wX0_addType RX0 D vwCl (tX cI cL) (zX b1 b2) wN A) (hret : rx_RI p l e rm_X0_addType s m args below meth c cX0_addType D vwCl (wX ad cI cL) A Q o) {ls : Array Slot} {H : Heap} {locs : List Loc} {M : Me} (hw : rx_W D vwCl (wX ad cI cL) A s.heap M H locs) (hl : lv_has ls 10 [(0, .ref ((ad 1)))]) (hf : qb_X0_addType_228 M = some o) : W p l e rm_X0_addType s m args below meth c H locs 0 0 Q (F0 m 228 ls []) := by
  have hx := cx.1.1
  have hb := cx.1.2.1
  refine lv_aload_n hx hb dX0_addType_228 rfl (lv_at hl 0 rfl) ?_
  refine lv_dup hx hb dX0_addType_229 rfl ?_
  obtain ⟨v1, ev1, hf⟩ := rx_vvI hf
  refine rx_geti cx hw (fiX_1_8 ad cI cL) rfl (inT_X0) (Nat.le_of_ble_eq_true rfl) (.tail _ tw_44) ev1 dX0_addType_230 ?_
  refine lv_iconst (v := 1) hx hb dX0_addType_233 ic_1 ?_
  refine lv_iadd hx hb dX0_addType_234 ?_
  obtain ⟨M2, eM2, hf⟩ := rx_vvI hf
  refine rx_puti cx hw (fiX_1_8 ad cI cL) rfl (inT_X0) tyX0 tyX0_ok nmX0 (Nat.le_of_ble_eq_true rfl) (.tail _ tw_44) rfl rfl rfl eM2 dX0_addType_235 (fun H locs hw => ?_)
  refine lv_aload_n hx hb dX0_addType_238 rfl (lv_at hl 0 rfl) ?_
  obtain ⟨v3, ev3, hf⟩ := rx_vvI hf
  refine rx_geti cx hw (fiX_1_8 ad cI cL) rfl (inT_X0) (Nat.le_of_ble_eq_true rfl) (.tail _ tw_44) ev3 dX0_addType_239 ?_
  refine lv_iconst (v := 1) hx hb dX0_addType_242 ic_1 ?_
  refine lv_isub hx hb dX0_addType_243 ?_
  exact rx_reti hret hw hf dX0_addType_244
set_option maxRecDepth 100000 in
set_option maxHeartbeats 4000000 in
theorem qk_X0_addType_185 (cx : rx_C p m c cX0_addType 10 s args wX0_addType RX0 D vwCl (tX cI cL) (zX b1 b2) wN A) (hret : rx_RI p l e rm_X0_addType s m args below meth c cX0_addType D vwCl (wX ad cI cL) A Q o) {w1 : Int64} {w3 : Int64} {ls : Array Slot} {H : Heap} {locs : List Loc} {M : Me} (hw : rx_W D vwCl (wX ad cI cL) A s.heap M H locs) (hl : lv_has ls 10 [(0, .ref ((ad 1))), (1, .long w1), (3, .long w3)]) (hf : qb_X0_addType_185 w1 w3 M = some o) : W p l e rm_X0_addType s m args below meth c H locs 0 0 Q (F0 m 185 ls []) := by
  have hx := cx.1.1
  have hb := cx.1.2.1
  refine lv_iconst (v := 0) hx hb dX0_addType_185 ic_0 ?_
  refine lv_istore (lv' := [(8, .int 0), (0, .ref ((ad 1))), (1, .long w1), (3, .long w3)]) hx hb dX0_addType_186 hl (Nat.le_of_ble_eq_true rfl) rfl (fun ls hl => ?_)
  exact (qk_X0_addType_188 cx hret (qk_X0_addType_228 cx hret) rx_FU) hw (lv_sub hl [1, 2, 3, 0] rfl) hf
set_option maxRecDepth 100000 in
set_option maxHeartbeats 4000000 in
theorem qk_X0_addType_130 (cx : rx_C p m c cX0_addType 10 s args wX0_addType RX0 D vwCl (tX cI cL) (zX b1 b2) wN A) (hret : rx_RI p l e rm_X0_addType s m args below meth c cX0_addType D vwCl (wX ad cI cL) A Q o) {w1 : Int64} {w3 : Int64} {w7 : Int32} {ls : Array Slot} {H : Heap} {locs : List Loc} {M : Me} (hw : rx_W D vwCl (wX ad cI cL) A s.heap M H locs) (hl : lv_has ls 10 [(0, .ref ((ad 1))), (1, .long w1), (3, .long w3), (7, .int w7)]) (hf : qb_X0_addType_130 w1 w3 w7 M = some o) : W p l e rm_X0_addType s m args below meth c H locs 0 0 Q (F0 m 130 ls []) := by
  have hx := cx.1.1
  have hb := cx.1.2.1
  refine lv_iconst (v := 0) hx hb dX0_addType_130 ic_0 ?_
  refine lv_istore (lv' := [(8, .int 0), (0, .ref ((ad 1))), (1, .long w1), (3, .long w3), (7, .int w7)]) hx hb dX0_addType_131 hl (Nat.le_of_ble_eq_true rfl) rfl (fun ls hl => ?_)
  exact (qk_X0_addType_133 cx hret (qk_X0_addType_185 cx hret) rx_FU) hw (lv_sub hl [1, 2, 3, 4, 0] rfl) hf
set_option maxRecDepth 100000 in
set_option maxHeartbeats 4000000 in
theorem qk_X0_addType_0 (cx : rx_C p m c cX0_addType 10 s args wX0_addType RX0 D vwCl (tX cI cL) (zX b1 b2) wN A) (hret : rx_RI p l e rm_X0_addType s m args below meth c cX0_addType D vwCl (wX ad cI cL) A Q o) {w1 : Int64} {w3 : Int64} {w5 : Int64} {ls : Array Slot} {H : Heap} {locs : List Loc} {M : Me} (hw : rx_W D vwCl (wX ad cI cL) A s.heap M H locs) (hl : lv_has ls 10 [(0, .ref ((ad 1))), (1, .long w1), (3, .long w3), (5, .long w5)]) (hf : qf_X0_addType w1 w3 w5 M = some o) : W p l e rm_X0_addType s m args below meth c H locs 0 0 Q (F0 m 0 ls []) := by
  have hx := cx.1.1
  have hb := cx.1.2.1
  refine lv_aload_n hx hb dX0_addType_0 rfl (lv_at hl 0 rfl) ?_
  obtain ⟨v1, ev1, hf⟩ := rx_vvI hf
  refine rx_geti cx hw (fiX_1_8 ad cI cL) rfl (inT_X0) (Nat.le_of_ble_eq_true rfl) (.tail _ tw_44) ev1 dX0_addType_1 ?_
  refine lv_bipush (v := 8) hx hb dX0_addType_4 ib_8 ?_
  refine lv_imul hx hb dX0_addType_6 ?_
  obtain ⟨v2, ev2, hf⟩ := rx_vvI hf
  refine rx_top ev2 ?_
  refine lv_istore (lv' := [(7, .int v2), (0, .ref ((ad 1))), (1, .long w1), (3, .long w3), (5, .long w5)]) hx hb dX0_addType_7 hl (Nat.le_of_ble_eq_true rfl) rfl (fun ls hl => ?_)
  refine lv_aload_n hx hb dX0_addType_9 rfl (lv_at hl 1 rfl) ?_
  refine rx_getr cx hw (frX_1_6 ad cI cL) rfl (inT_X0) (Nat.le_of_ble_eq_true rfl) (.tail _ tw_39) dX0_addType_10 ?_
  refine lv_aload_n hx hb dX0_addType_13 rfl (lv_at hl 1 rfl) ?_
  obtain ⟨v3, ev3, hf⟩ := rx_vvI hf
  refine rx_geti cx hw (fiX_1_8 ad cI cL) rfl (inT_X0) (Nat.le_of_ble_eq_true rfl) (.tail _ tw_44) ev3 dX0_addType_14 ?_
  refine lv_iconst (v := (-1)) hx hb dX0_addType_17 ic_m1 ?_
  obtain ⟨hM4, M4, eM4, hf⟩ := rx_svI hf
  refine rx_iast cx hw (arX_15 ad cI cL) ⟨hM4, eM4⟩ dX0_addType_18 (fun H locs hw => ?_)
  refine lv_iconst (v := 0) hx hb dX0_addType_19 ic_0 ?_
  refine lv_istore (lv' := [(8, .int 0), (7, .int v2), (0, .ref ((ad 1))), (1, .long w1), (3, .long w3), (5, .long w5)]) hx hb dX0_addType_20 hl (Nat.le_of_ble_eq_true rfl) rfl (fun ls hl => ?_)
  exact (qk_X0_addType_22 cx hret (qk_X0_addType_130 cx hret) rx_FU) hw (lv_sub hl [2, 3, 4, 5, 1, 0] rfl) hf
end
set_option maxRecDepth 100000 in
theorem qc_X0_addType (l : Launch) (D : va_G) (ad : Nat → Nat) (cI cL : ClassId) (b1 b2 : Nat) (w1 : Int64) (w3 : Int64) (w5 : Int64) : rx_MI l yX0_addType wX0_addType rm_X0_addType D vwCl (wX ad cI cL) (tX cI cL) (zX b1 b2) wN [.ref (ad 1), .long w1, .long w3, .long w5] (fun M => qf_X0_addType w1 w3 w5 M) :=
  rx_ofI (by decide) rfl wN_ok (Nat.le_of_ble_eq_true rfl) (fun _ _ _ _ _ _ _ _ _ _ _ _ _ cx hret hw hl hf => qk_X0_addType_0 cx hret hw hl hf)

def rm_X5_finishedWorth : Room := { frames := 1, cells := 0, slots := 0, locals := 21 }
noncomputable def qf_X5_finishedWorth  (w1 : Int32)  (M : Me) : Op :=
  rx_ld M 26 192 w1 fun v1 => rx_cl (qf_J6_bitCount_X v1 M) fun r2 M3 => rx_cl (qf_X5_kindOf w1 M3) fun r4 M5 => if r4 = 1 then (rx_ld M5 27 192 w1 fun v6 => some (2 * (r2 + v6), M5)) else (if r4 = 2 then (some (r2, M5)) else (some (1 + (Int32.ofNat sZ2.length), M5)))
section
variable {p : Program} {l : Launch} {e : Env} {s : State} {m : MethodId} {args : Array Value} {below : List Frame} {meth : Method} {c : Code} {Q : State → Prop} {D : va_G} {A : Nat → Prop} {o : Int32 × Me} {ad : Nat → Nat} {cI cL : ClassId} {b1 b2 : Nat}
set_option maxRecDepth 100000 in
set_option maxHeartbeats 4000000 in
theorem qk_X5_finishedWorth_0 (cx : rx_C p m c cX5_finishedWorth 3 s args wX5_finishedWorth RX5 D vwCl (tX cI cL) (zX b1 b2) wN A) (hret : rx_RI p l e rm_X5_finishedWorth s m args below meth c cX5_finishedWorth D vwCl (wX ad cI cL) A Q o) {w1 : Int32} {ls : Array Slot} {H : Heap} {locs : List Loc} {M : Me} (hw : rx_W D vwCl (wX ad cI cL) A s.heap M H locs) (hl : lv_has ls 3 [(0, .ref ((ad 2))), (1, .int w1)]) (hf : qf_X5_finishedWorth w1 M = some o) : W p l e rm_X5_finishedWorth s m args below meth c H locs 0 0 Q (F0 m 0 ls []) := by
  have hx := cx.1.1
  have hb := cx.1.2.1
  refine lv_aload_n hx hb dX5_finishedWorth_0 rfl (lv_at hl 0 rfl) ?_
  refine rx_getr cx hw (frX_2_1 ad cI cL) rfl (inT_X5) (Nat.le_of_ble_eq_true rfl) (.tail _ tw_132) dX5_finishedWorth_1 ?_
  refine rx_getrN cx hw (frX_3_1 ad cI cL) rfl (inT_X3) (Nat.le_of_ble_eq_true rfl) tn_87 dX5_finishedWorth_4 ?_
  refine lv_iload_n hx hb dX5_finishedWorth_7 rfl (lv_at hl 1 rfl) ?_
  obtain ⟨hv1, v1, ev1, hf⟩ := rx_ldI hf
  refine rx_iald cx hw (arX_26 ad cI cL) ⟨hv1, ev1⟩ dX5_finishedWorth_8 ?_
  obtain ⟨r2, M3, er2, hf⟩ := rx_clI hf
  refine rx_jSi cx hw (qc_J6_bitCount_X l D ad cI cL b1 b2 v1) kfJ6_bitCount tw_548 ⟨Nat.le_of_ble_eq_true rfl, Nat.le_of_ble_eq_true rfl, rfl, rfl⟩ rfl hl.1 (Nat.le_of_ble_eq_true rfl) ⟨Nat.zero_le _, Nat.zero_le _⟩ dX5_finishedWorth_9 rfl er2 (fun H locs hw => ?_)
  refine lv_istore_n (lv' := [(2, .int r2), (0, .ref ((ad 2))), (1, .int w1)]) hx hb dX5_finishedWorth_12 rfl hl (Nat.le_of_ble_eq_true rfl) rfl (fun ls hl => ?_)
  refine lv_aload_n hx hb dX5_finishedWorth_13 rfl (lv_at hl 1 rfl) ?_
  refine lv_iload_n hx hb dX5_finishedWorth_14 rfl (lv_at hl 2 rfl) ?_
  obtain ⟨r4, M5, er4, hf⟩ := rx_clI hf
  refine rx_jVi cx hw (qc_X5_kindOf l D ad cI cL b1 b2 w1) (obX_2 ad cI cL) rfl rfl kfX5_kindOf tw_543 ⟨Nat.le_of_ble_eq_true rfl, Nat.le_of_ble_eq_true rfl, rfl, rfl⟩ rfl hl.1 (Nat.le_of_ble_eq_true rfl) ⟨Nat.zero_le _, Nat.zero_le _⟩ dX5_finishedWorth_15 rfl er4 (fun H locs hw => ?_)
  by_cases hs0 : r4 = 1
  · have hf := rx_t hs0 hf
    refine lv_lookup (off := 26) hx hb dX5_finishedWorth_18 (by decide) (by rw [hs0]; decide) rfl ?_
    refine lv_iconst (v := 2) hx hb dX5_finishedWorth_44 ic_2 ?_
    refine lv_iload_n hx hb dX5_finishedWorth_45 rfl (lv_at hl 0 rfl) ?_
    refine lv_aload_n hx hb dX5_finishedWorth_46 rfl (lv_at hl 1 rfl) ?_
    refine rx_getr cx hw (frX_2_1 ad cI cL) rfl (inT_X5) (Nat.le_of_ble_eq_true rfl) (.tail _ tw_132) dX5_finishedWorth_47 ?_
    refine rx_getrN cx hw (frX_3_2 ad cI cL) rfl (inT_X3) (Nat.le_of_ble_eq_true rfl) tn_90 dX5_finishedWorth_50 ?_
    refine lv_iload_n hx hb dX5_finishedWorth_53 rfl (lv_at hl 2 rfl) ?_
    obtain ⟨hv6, v6, ev6, hf⟩ := rx_ldI hf
    refine rx_iald cx hw (arX_27 ad cI cL) ⟨hv6, ev6⟩ dX5_finishedWorth_54 ?_
    refine lv_iadd hx hb dX5_finishedWorth_55 ?_
    refine lv_imul hx hb dX5_finishedWorth_56 ?_
    exact rx_reti hret hw hf dX5_finishedWorth_57
  · have hf := rx_f hs0 hf
    by_cases hs1 : r4 = 2
    · have hf := rx_t hs1 hf
      refine lv_lookup (off := 40) hx hb dX5_finishedWorth_18 (by decide) (by rw [hs1]; decide) rfl ?_
      refine lv_iload_n hx hb dX5_finishedWorth_58 rfl (lv_at hl 0 rfl) ?_
      exact rx_reti hret hw hf dX5_finishedWorth_59
    · have hf := rx_f hs1 hf
      refine lv_lookup (off := 42) hx hb dX5_finishedWorth_18 (by decide) ((lv_osw hs0 it_1).trans ((lv_osw hs1 it_2).trans rfl)) rfl ?_
      refine lv_iconst (v := 1) hx hb dX5_finishedWorth_60 ic_1 ?_
      refine rx_getsN cx hw (zm2 b1 b2) tn_409 dX5_finishedWorth_61 ?_
      refine rx_lens cx hw (zm2 b1 b2) dX5_finishedWorth_64 ?_
      refine lv_iadd hx hb dX5_finishedWorth_65 ?_
      exact rx_reti hret hw hf dX5_finishedWorth_66
end
set_option maxRecDepth 100000 in
theorem qc_X5_finishedWorth (l : Launch) (D : va_G) (ad : Nat → Nat) (cI cL : ClassId) (b1 b2 : Nat) (w1 : Int32) : rx_MI l yX5_finishedWorth wX5_finishedWorth rm_X5_finishedWorth D vwCl (wX ad cI cL) (tX cI cL) (zX b1 b2) wN [.ref (ad 2), .int w1] (fun M => qf_X5_finishedWorth w1 M) :=
  rx_ofI (by decide) rfl wN_ok (Nat.le_of_ble_eq_true rfl) (fun _ _ _ _ _ _ _ _ _ _ _ _ _ cx hret hw hl hf => qk_X5_finishedWorth_0 cx hret hw hl hf)
def rm_X6_mostMen : Room := { frames := 1, cells := 0, slots := 0, locals := 21 }
noncomputable def qf_X6_mostMen  (w0 : Int32)  (M : Me) : Op :=
  rx_cl (qf_X6_menOf w0 0 M) fun r1 M2 => rx_cl (qf_X6_menOf w0 1 M2) fun r3 M4 => rx_cl (qf_X6_menOf w0 2 M4) fun r5 M6 => some ((if r1 < (if r3 < r5 then r5 else r3) then (if r3 < r5 then r5 else r3) else r1), M6)
section
variable {p : Program} {l : Launch} {e : Env} {s : State} {m : MethodId} {args : Array Value} {below : List Frame} {meth : Method} {c : Code} {Q : State → Prop} {D : va_G} {A : Nat → Prop} {o : Int32 × Me} {ad : Nat → Nat} {cI cL : ClassId} {b1 b2 : Nat}
set_option maxRecDepth 100000 in
set_option maxHeartbeats 4000000 in
theorem qk_X6_mostMen_0 (cx : rx_C p m c cX6_mostMen 1 s args wX6_mostMen RX6 D vwCl (tX cI cL) (zX b1 b2) wN A) (hret : rx_RI p l e rm_X6_mostMen s m args below meth c cX6_mostMen D vwCl (wX ad cI cL) A Q o) {w0 : Int32} {ls : Array Slot} {H : Heap} {locs : List Loc} {M : Me} (hw : rx_W D vwCl (wX ad cI cL) A s.heap M H locs) (hl : lv_has ls 1 [(0, .int w0)]) (hf : qf_X6_mostMen w0 M = some o) : W p l e rm_X6_mostMen s m args below meth c H locs 0 0 Q (F0 m 0 ls []) := by
  have hx := cx.1.1
  have hb := cx.1.2.1
  refine lv_iload_n hx hb dX6_mostMen_0 rfl (lv_at hl 0 rfl) ?_
  refine lv_iconst (v := 0) hx hb dX6_mostMen_1 ic_0 ?_
  obtain ⟨r1, M2, er1, hf⟩ := rx_clI hf
  refine rx_jSi cx hw (qc_X6_menOf l D ad cI cL b1 b2 w0 0) kfX6_menOf tw_557 ⟨Nat.le_of_ble_eq_true rfl, Nat.le_of_ble_eq_true rfl, rfl, rfl⟩ rfl hl.1 (Nat.le_of_ble_eq_true rfl) ⟨Nat.zero_le _, Nat.zero_le _⟩ dX6_mostMen_2 rfl er1 (fun H locs hw => ?_)
  refine lv_iload_n hx hb dX6_mostMen_5 rfl (lv_at hl 0 rfl) ?_
  refine lv_iconst (v := 1) hx hb dX6_mostMen_6 ic_1 ?_
  obtain ⟨r3, M4, er3, hf⟩ := rx_clI hf
  refine rx_jSi cx hw (qc_X6_menOf l D ad cI cL b1 b2 w0 1) kfX6_menOf tw_557 ⟨Nat.le_of_ble_eq_true rfl, Nat.le_of_ble_eq_true rfl, rfl, rfl⟩ rfl hl.1 (Nat.le_of_ble_eq_true rfl) ⟨Nat.zero_le _, Nat.zero_le _⟩ dX6_mostMen_7 rfl er3 (fun H locs hw => ?_)
  refine lv_iload_n hx hb dX6_mostMen_10 rfl (lv_at hl 0 rfl) ?_
  refine lv_iconst (v := 2) hx hb dX6_mostMen_11 ic_2 ?_
  obtain ⟨r5, M6, er5, hf⟩ := rx_clI hf
  refine rx_jSi cx hw (qc_X6_menOf l D ad cI cL b1 b2 w0 2) kfX6_menOf tw_557 ⟨Nat.le_of_ble_eq_true rfl, Nat.le_of_ble_eq_true rfl, rfl, rfl⟩ rfl hl.1 (Nat.le_of_ble_eq_true rfl) ⟨Nat.zero_le _, Nat.zero_le _⟩ dX6_mostMen_12 rfl er5 (fun H locs hw => ?_)
  refine rx_max cx (.tail _ tw_560) (.tail _ tw_501) (.tail _ tw_10) (.tail _ tw_502) hl.1 ⟨Nat.le_of_ble_eq_true rfl, Nat.le_of_ble_eq_true rfl, Nat.zero_le _, Nat.zero_le _⟩ dX6_mostMen_15 ?_
  refine rx_max cx (.tail _ tw_560) (.tail _ tw_501) (.tail _ tw_10) (.tail _ tw_502) hl.1 ⟨Nat.le_of_ble_eq_true rfl, Nat.le_of_ble_eq_true rfl, Nat.zero_le _, Nat.zero_le _⟩ dX6_mostMen_18 ?_
  exact rx_reti hret hw hf dX6_mostMen_21
end
set_option maxRecDepth 100000 in
theorem qc_X6_mostMen (l : Launch) (D : va_G) (ad : Nat → Nat) (cI cL : ClassId) (b1 b2 : Nat) (w0 : Int32) : rx_MI l yX6_mostMen wX6_mostMen rm_X6_mostMen D vwCl (wX ad cI cL) (tX cI cL) (zX b1 b2) wN [.int w0] (fun M => qf_X6_mostMen w0 M) :=
  rx_ofI (by decide) rfl wN_ok (Nat.le_of_ble_eq_true rfl) (fun _ _ _ _ _ _ _ _ _ _ _ _ _ cx hret hw hl hf => qk_X6_mostMen_0 cx hret hw hl hf)
def rm_X2_pay : Room := { frames := 2, cells := 0, slots := 0, locals := 43 }
noncomputable def qb_X2_pay_104 (k51 : Int32 → Int32 → Me → Op) (w1 : Int32) (w2 : Int32) (w3 : Int32) (w4 : Int32) (w5 : Int32) (w6 : Int32)  (M : Me) : Op :=
  rx_vv (w6 + 1) fun v1 => k51 w5 v1 M
noncomputable def qo_X2_pay_51 (k110 : Int32 → Me → Op) (w1 : Int32) (w2 : Int32) (w3 : Int32) (w4 : Int32) (rec : Int32 → Int32 → Me → Op) (w5 : Int32) (w6 : Int32) (M : Me) : Op :=
  rx_vv (M 4 4) fun v1 => if v1 ≤ w6 then (k110 w5 M) else (rx_ld M 35 3 w6 fun v2 => rx_cl (qf_X6_menOf w2 w6 M) fun r3 M4 => rx_sv M4 35 3 w6 (v2 + r3) fun M5 => rx_cl (qf_X6_menOf w2 w6 M5) fun r6 M7 => if r6 = w4 then (rx_ld M7 34 3 w6 fun v8 => rx_sv M7 34 3 w6 (v8 + w3) fun M9 => rx_vv (w5 + w3) fun v10 => qb_X2_pay_104 rec w1 w2 w3 w4 v10 w6 M9) else (qb_X2_pay_104 rec w1 w2 w3 w4 w5 w6 M7))
noncomputable def qb_X2_pay_110  (w1 : Int32) (w5 : Int32)  (M : Me) : Op :=
  rx_cl (qf_X3_setMen w1 0 M) fun r1 M2 => some (w5, M2)
noncomputable def qf_X2_pay  (w1 : Int32)  (M : Me) : Op :=
  rx_ld M 29 192 w1 fun v1 => if v1 = 0 then (some (0, M)) else (rx_cl (qf_X5_isFinished w1 M) fun r2 M3 => if r2 = 0 then (some (0, M3)) else (rx_cl (qf_X5_finishedWorth w1 M3) fun r4 M5 => rx_cl (qf_X6_mostMen v1 M5) fun r6 M7 => rx_lp2 (qo_X2_pay_51 (fun a5 M => qb_X2_pay_110 w1 a5 M) w1 v1 r4 r6) rx_FU 0 0 M7))
section
variable {p : Program} {l : Launch} {e : Env} {s : State} {m : MethodId} {args : Array Value} {below : List Frame} {meth : Method} {c : Code} {Q : State → Prop} {D : va_G} {A : Nat → Prop} {o : Int32 × Me} {ad : Nat → Nat} {cI cL : ClassId} {b1 b2 : Nat}
set_option maxRecDepth 100000 in
set_option maxHeartbeats 4000000 in
theorem qk_X2_pay_104 (cx : rx_C p m c cX2_pay 7 s args wX2_pay RX2 D vwCl (tX cI cL) (zX b1 b2) wN A) (hret : rx_RI p l e rm_X2_pay s m args below meth c cX2_pay D vwCl (wX ad cI cL) A Q o) {w1 : Int32} {w2 : Int32} {w3 : Int32} {w4 : Int32} {w5 : Int32} {w6 : Int32} {k51 : Int32 → Int32 → Me → Op} (h51 : ∀ {a5 : Int32} {a6 : Int32} {ls : Array Slot} {H : Heap} {locs : List Loc} {M : Me}, rx_W D vwCl (wX ad cI cL) A s.heap M H locs → lv_has ls 7 [(0, .ref ((ad 4))), (1, .int w1), (2, .int w2), (3, .int w3), (4, .int w4), (5, .int a5), (6, .int a6)] → k51 a5 a6 M = some o → W p l e rm_X2_pay s m args below meth c H locs 0 0 Q (F0 m 51 ls [])) {ls : Array Slot} {H : Heap} {locs : List Loc} {M : Me} (hw : rx_W D vwCl (wX ad cI cL) A s.heap M H locs) (hl : lv_has ls 7 [(0, .ref ((ad 4))), (1, .int w1), (2, .int w2), (3, .int w3), (4, .int w4), (5, .int w5), (6, .int w6)]) (hf : qb_X2_pay_104 k51 w1 w2 w3 w4 w5 w6 M = some o) : W p l e rm_X2_pay s m args below meth c H locs 0 0 Q (F0 m 104 ls []) := by
  have hx := cx.1.1
  have hb := cx.1.2.1
  obtain ⟨v1, ev1, hf⟩ := rx_vvI hf
  refine lv_iinc (lv' := [(6, .int v1), (0, .ref ((ad 4))), (1, .int w1), (2, .int w2), (3, .int w3), (4, .int w4), (5, .int w5)]) hx hb dX2_pay_104 hl (k := 6) rfl (rx_inc ic_1 ev1) (Nat.le_of_ble_eq_true rfl) rfl (fun ls hl => ?_)
  refine lv_goto hx hb dX2_pay_107 rfl ?_
  exact h51 hw (lv_sub hl [1, 2, 3, 4, 5, 6, 0] rfl) hf
set_option maxRecDepth 100000 in
set_option maxHeartbeats 4000000 in
theorem qk_X2_pay_51 (cx : rx_C p m c cX2_pay 7 s args wX2_pay RX2 D vwCl (tX cI cL) (zX b1 b2) wN A) (hret : rx_RI p l e rm_X2_pay s m args below meth c cX2_pay D vwCl (wX ad cI cL) A Q o) {w1 : Int32} {w2 : Int32} {w3 : Int32} {w4 : Int32} {k110 : Int32 → Me → Op} (h110 : ∀ {a5 : Int32} {ls : Array Slot} {H : Heap} {locs : List Loc} {M : Me}, rx_W D vwCl (wX ad cI cL) A s.heap M H locs → lv_has ls 7 [(0, .ref ((ad 4))), (1, .int w1), (5, .int a5)] → k110 a5 M = some o → W p l e rm_X2_pay s m args below meth c H locs 0 0 Q (F0 m 110 ls [])) : ∀ (n : Nat) {w5 : Int32} {w6 : Int32} {ls : Array Slot} {H : Heap} {locs : List Loc} {M : Me}, rx_W D vwCl (wX ad cI cL) A s.heap M H locs → lv_has ls 7 [(0, .ref ((ad 4))), (1, .int w1), (2, .int w2), (3, .int w3), (4, .int w4), (5, .int w5), (6, .int w6)] → rx_lp2 (qo_X2_pay_51 k110 w1 w2 w3 w4) n w5 w6 M = some o → W p l e rm_X2_pay s m args below meth c H locs 0 0 Q (F0 m 51 ls []) := by
  have hx := cx.1.1
  have hb := cx.1.2.1
  intro n
  induction n with
  | zero => intro w5 w6 ls H locs M hw hl hf; exact rx_no hf
  | succ n ih =>
    intro w5 w6 ls H locs M hw hl hf
    have hf : qo_X2_pay_51 k110 w1 w2 w3 w4 (rx_lp2 (qo_X2_pay_51 k110 w1 w2 w3 w4) n) w5 w6 M = some o := hf
    refine lv_iload hx hb dX2_pay_51 (lv_at hl 6 rfl) ?_
    refine lv_aload_n hx hb dX2_pay_53 rfl (lv_at hl 0 rfl) ?_
    obtain ⟨v1, ev1, hf⟩ := rx_vvI hf
    refine rx_geti cx hw (fiX_4_4 ad cI cL) rfl (inT_X2) (Nat.le_of_ble_eq_true rfl) (.tail _ tw_187) ev1 dX2_pay_54 ?_
    refine lv_icmp_ge hx hb dX2_pay_57 rfl (fun hc => ?_) (fun hc => ?_)
    · have hf := rx_t hc hf
      exact h110 hw (lv_sub hl [0, 1, 5] rfl) hf
    · have hf := rx_f hc hf
      refine lv_aload_n hx hb dX2_pay_60 rfl (lv_at hl 0 rfl) ?_
      refine rx_getr cx hw (frX_4_10 ad cI cL) rfl (inT_X2) (Nat.le_of_ble_eq_true rfl) (.tail _ tw_201) dX2_pay_61 ?_
      refine lv_iload hx hb dX2_pay_64 (lv_at hl 6 rfl) ?_
      refine lv_dup2_11 hx hb dX2_pay_66 rfl rfl ?_
      obtain ⟨hv2, v2, ev2, hf⟩ := rx_ldI hf
      refine rx_iald cx hw (arX_35 ad cI cL) ⟨hv2, ev2⟩ dX2_pay_67 ?_
      refine lv_iload_n hx hb dX2_pay_68 rfl (lv_at hl 2 rfl) ?_
      refine lv_iload hx hb dX2_pay_69 (lv_at hl 6 rfl) ?_
      obtain ⟨r3, M4, er3, hf⟩ := rx_clI hf
      refine rx_jSNi cx hw (qc_X6_menOf l D ad cI cL b1 b2 w2 w6) kfX6_menOf tn_561 ⟨Nat.le_of_ble_eq_true rfl, Nat.le_of_ble_eq_true rfl, rfl, rfl⟩ rfl hl.1 (Nat.le_of_ble_eq_true rfl) ⟨Nat.zero_le _, Nat.zero_le _⟩ dX2_pay_71 rfl er3 (fun H locs hw => ?_)
      refine lv_iadd hx hb dX2_pay_74 ?_
      obtain ⟨hM5, M5, eM5, hf⟩ := rx_svI hf
      refine rx_iast cx hw (arX_35 ad cI cL) ⟨hM5, eM5⟩ dX2_pay_75 (fun H locs hw => ?_)
      refine lv_iload_n hx hb dX2_pay_76 rfl (lv_at hl 2 rfl) ?_
      refine lv_iload hx hb dX2_pay_77 (lv_at hl 6 rfl) ?_
      obtain ⟨r6, M7, er6, hf⟩ := rx_clI hf
      refine rx_jSNi cx hw (qc_X6_menOf l D ad cI cL b1 b2 w2 w6) kfX6_menOf tn_561 ⟨Nat.le_of_ble_eq_true rfl, Nat.le_of_ble_eq_true rfl, rfl, rfl⟩ rfl hl.1 (Nat.le_of_ble_eq_true rfl) ⟨Nat.zero_le _, Nat.zero_le _⟩ dX2_pay_79 rfl er6 (fun H locs hw => ?_)
      refine lv_iload hx hb dX2_pay_82 (lv_at hl 4 rfl) ?_
      refine lv_icmp_ne hx hb dX2_pay_84 rfl (fun hc => ?_) (fun hc => ?_)
      · have hf := rx_f hc hf
        exact (qk_X2_pay_104 cx hret ih) hw hl hf
      · have hf := rx_t hc hf
        refine lv_aload_n hx hb dX2_pay_87 rfl (lv_at hl 0 rfl) ?_
        refine rx_getr cx hw (frX_4_9 ad cI cL) rfl (inT_X2) (Nat.le_of_ble_eq_true rfl) (.tail _ tw_199) dX2_pay_88 ?_
        refine lv_iload hx hb dX2_pay_91 (lv_at hl 6 rfl) ?_
        refine lv_dup2_11 hx hb dX2_pay_93 rfl rfl ?_
        obtain ⟨hv8, v8, ev8, hf⟩ := rx_ldI hf
        refine rx_iald cx hw (arX_34 ad cI cL) ⟨hv8, ev8⟩ dX2_pay_94 ?_
        refine lv_iload_n hx hb dX2_pay_95 rfl (lv_at hl 3 rfl) ?_
        refine lv_iadd hx hb dX2_pay_96 ?_
        obtain ⟨hM9, M9, eM9, hf⟩ := rx_svI hf
        refine rx_iast cx hw (arX_34 ad cI cL) ⟨hM9, eM9⟩ dX2_pay_97 (fun H locs hw => ?_)
        refine lv_iload hx hb dX2_pay_98 (lv_at hl 5 rfl) ?_
        refine lv_iload_n hx hb dX2_pay_100 rfl (lv_at hl 3 rfl) ?_
        refine lv_iadd hx hb dX2_pay_101 ?_
        obtain ⟨v10, ev10, hf⟩ := rx_vvI hf
        refine rx_top ev10 ?_
        refine lv_istore (lv' := [(5, .int v10), (0, .ref ((ad 4))), (1, .int w1), (2, .int w2), (3, .int w3), (4, .int w4), (6, .int w6)]) hx hb dX2_pay_102 hl (Nat.le_of_ble_eq_true rfl) rfl (fun ls hl => ?_)
        exact (qk_X2_pay_104 cx hret ih) hw (lv_sub hl [1, 2, 3, 4, 5, 0, 6] rfl) hf
set_option maxRecDepth 100000 in
set_option maxHeartbeats 4000000 in
theorem qk_X2_pay_110 (cx : rx_C p m c cX2_pay 7 s args wX2_pay RX2 D vwCl (tX cI cL) (zX b1 b2) wN A) (hret : rx_RI p l e rm_X2_pay s m args below meth c cX2_pay D vwCl (wX ad cI cL) A Q o) {w1 : Int32} {w5 : Int32} {ls : Array Slot} {H : Heap} {locs : List Loc} {M : Me} (hw : rx_W D vwCl (wX ad cI cL) A s.heap M H locs) (hl : lv_has ls 7 [(0, .ref ((ad 4))), (1, .int w1), (5, .int w5)]) (hf : qb_X2_pay_110 w1 w5 M = some o) : W p l e rm_X2_pay s m args below meth c H locs 0 0 Q (F0 m 110 ls []) := by
  have hx := cx.1.1
  have hb := cx.1.2.1
  refine lv_aload_n hx hb dX2_pay_110 rfl (lv_at hl 0 rfl) ?_
  refine rx_getr cx hw (frX_4_1 ad cI cL) rfl (inT_X2) (Nat.le_of_ble_eq_true rfl) (.tail _ tw_182) dX2_pay_111 ?_
  refine rx_getrN cx hw (frX_2_1 ad cI cL) rfl (inT_X5) (Nat.le_of_ble_eq_true rfl) tn_133 dX2_pay_114 ?_
  refine lv_iload_n hx hb dX2_pay_117 rfl (lv_at hl 1 rfl) ?_
  refine lv_iconst (v := 0) hx hb dX2_pay_118 ic_0 ?_
  obtain ⟨r1, M2, er1, hf⟩ := rx_clI hf
  refine rx_jVv cx hw (qc_X3_setMen l D ad cI cL b1 b2 w1 0) (obX_3 ad cI cL) rfl rfl kfX3_setMen tw_527 ⟨Nat.le_of_ble_eq_true rfl, Nat.le_of_ble_eq_true rfl, rfl, rfl⟩ rfl hl.1 (Nat.le_of_ble_eq_true rfl) ⟨Nat.zero_le _, Nat.zero_le _⟩ dX2_pay_119 rfl er1 (fun H locs hw => ?_)
  refine lv_iload hx hb dX2_pay_122 (lv_at hl 2 rfl) ?_
  exact rx_reti hret hw hf dX2_pay_124
set_option maxRecDepth 100000 in
set_option maxHeartbeats 4000000 in
theorem qk_X2_pay_0 (cx : rx_C p m c cX2_pay 7 s args wX2_pay RX2 D vwCl (tX cI cL) (zX b1 b2) wN A) (hret : rx_RI p l e rm_X2_pay s m args below meth c cX2_pay D vwCl (wX ad cI cL) A Q o) {w1 : Int32} {ls : Array Slot} {H : Heap} {locs : List Loc} {M : Me} (hw : rx_W D vwCl (wX ad cI cL) A s.heap M H locs) (hl : lv_has ls 7 [(0, .ref ((ad 4))), (1, .int w1)]) (hf : qf_X2_pay w1 M = some o) : W p l e rm_X2_pay s m args below meth c H locs 0 0 Q (F0 m 0 ls []) := by
  have hx := cx.1.1
  have hb := cx.1.2.1
  refine lv_aload_n hx hb dX2_pay_0 rfl (lv_at hl 0 rfl) ?_
  refine rx_getr cx hw (frX_4_1 ad cI cL) rfl (inT_X2) (Nat.le_of_ble_eq_true rfl) (.tail _ tw_182) dX2_pay_1 ?_
  refine rx_getrN cx hw (frX_2_1 ad cI cL) rfl (inT_X5) (Nat.le_of_ble_eq_true rfl) tn_133 dX2_pay_4 ?_
  refine rx_getrN cx hw (frX_3_4 ad cI cL) rfl (inT_X3) (Nat.le_of_ble_eq_true rfl) tn_95 dX2_pay_7 ?_
  refine lv_iload_n hx hb dX2_pay_10 rfl (lv_at hl 1 rfl) ?_
  obtain ⟨hv1, v1, ev1, hf⟩ := rx_ldI hf
  refine rx_iald cx hw (arX_29 ad cI cL) ⟨hv1, ev1⟩ dX2_pay_11 ?_
  refine lv_istore_n (lv' := [(2, .int v1), (0, .ref ((ad 4))), (1, .int w1)]) hx hb dX2_pay_12 rfl hl (Nat.le_of_ble_eq_true rfl) rfl (fun ls hl => ?_)
  refine lv_iload_n hx hb dX2_pay_13 rfl (lv_at hl 0 rfl) ?_
  refine lv_if_eq hx hb dX2_pay_14 rfl (fun hc => ?_) (fun hc => ?_)
  · have hf := rx_t hc hf
    refine lv_iconst (v := 0) hx hb dX2_pay_28 ic_0 ?_
    exact rx_reti hret hw hf dX2_pay_29
  · have hf := rx_f hc hf
    refine lv_aload_n hx hb dX2_pay_17 rfl (lv_at hl 1 rfl) ?_
    refine rx_getr cx hw (frX_4_1 ad cI cL) rfl (inT_X2) (Nat.le_of_ble_eq_true rfl) (.tail _ tw_182) dX2_pay_18 ?_
    refine lv_iload_n hx hb dX2_pay_21 rfl (lv_at hl 2 rfl) ?_
    obtain ⟨r2, M3, er2, hf⟩ := rx_clI hf
    refine rx_jVi cx hw (qc_X5_isFinished l D ad cI cL b1 b2 w1) (obX_2 ad cI cL) rfl rfl kfX5_isFinished tw_539 ⟨Nat.le_of_ble_eq_true rfl, Nat.le_of_ble_eq_true rfl, rfl, rfl⟩ rfl hl.1 (Nat.le_of_ble_eq_true rfl) ⟨Nat.zero_le _, Nat.zero_le _⟩ dX2_pay_22 rfl er2 (fun H locs hw => ?_)
    refine lv_if_ne hx hb dX2_pay_25 rfl (fun hc => ?_) (fun hc => ?_)
    · have hf := rx_f hc hf
      refine lv_aload_n hx hb dX2_pay_30 rfl (lv_at hl 1 rfl) ?_
      refine rx_getr cx hw (frX_4_1 ad cI cL) rfl (inT_X2) (Nat.le_of_ble_eq_true rfl) (.tail _ tw_182) dX2_pay_31 ?_
      refine lv_iload_n hx hb dX2_pay_34 rfl (lv_at hl 2 rfl) ?_
      obtain ⟨r4, M5, er4, hf⟩ := rx_clI hf
      refine rx_jVi cx hw (qc_X5_finishedWorth l D ad cI cL b1 b2 w1) (obX_2 ad cI cL) rfl rfl kfX5_finishedWorth tw_544 ⟨Nat.le_of_ble_eq_true rfl, Nat.le_of_ble_eq_true rfl, rfl, rfl⟩ rfl hl.1 (Nat.le_of_ble_eq_true rfl) ⟨Nat.zero_le _, Nat.zero_le _⟩ dX2_pay_35 rfl er4 (fun H locs hw => ?_)
      refine lv_istore_n (lv' := [(3, .int r4), (2, .int v1), (0, .ref ((ad 4))), (1, .int w1)]) hx hb dX2_pay_38 rfl hl (Nat.le_of_ble_eq_true rfl) rfl (fun ls hl => ?_)
      refine lv_iload_n hx hb dX2_pay_39 rfl (lv_at hl 1 rfl) ?_
      obtain ⟨r6, M7, er6, hf⟩ := rx_clI hf
      refine rx_jSNi cx hw (qc_X6_mostMen l D ad cI cL b1 b2 v1) kfX6_mostMen tn_554 ⟨Nat.le_of_ble_eq_true rfl, Nat.le_of_ble_eq_true rfl, rfl, rfl⟩ rfl hl.1 (Nat.le_of_ble_eq_true rfl) ⟨Nat.zero_le _, Nat.zero_le _⟩ dX2_pay_40 rfl er6 (fun H locs hw => ?_)
      refine lv_istore (lv' := [(4, .int r6), (3, .int r4), (2, .int v1), (0, .ref ((ad 4))), (1, .int w1)]) hx hb dX2_pay_43 hl (Nat.le_of_ble_eq_true rfl) rfl (fun ls hl => ?_)
      refine lv_iconst (v := 0) hx hb dX2_pay_45 ic_0 ?_
      refine lv_istore (lv' := [(5, .int 0), (4, .int r6), (3, .int r4), (2, .int v1), (0, .ref ((ad 4))), (1, .int w1)]) hx hb dX2_pay_46 hl (Nat.le_of_ble_eq_true rfl) rfl (fun ls hl => ?_)
      refine lv_iconst (v := 0) hx hb dX2_pay_48 ic_0 ?_
      refine lv_istore (lv' := [(6, .int 0), (5, .int 0), (4, .int r6), (3, .int r4), (2, .int v1), (0, .ref ((ad 4))), (1, .int w1)]) hx hb dX2_pay_49 hl (Nat.le_of_ble_eq_true rfl) rfl (fun ls hl => ?_)
      exact (qk_X2_pay_51 cx hret (qk_X2_pay_110 cx hret) rx_FU) hw (lv_sub hl [5, 6, 4, 3, 2, 1, 0] rfl) hf
    · have hf := rx_t hc hf
      refine lv_iconst (v := 0) hx hb dX2_pay_28 ic_0 ?_
      exact rx_reti hret hw hf dX2_pay_29
end
set_option maxRecDepth 100000 in
theorem qc_X2_pay (l : Launch) (D : va_G) (ad : Nat → Nat) (cI cL : ClassId) (b1 b2 : Nat) (w1 : Int32) : rx_MI l yX2_pay wX2_pay rm_X2_pay D vwCl (wX ad cI cL) (tX cI cL) (zX b1 b2) wN [.ref (ad 4), .int w1] (fun M => qf_X2_pay w1 M) :=
  rx_ofI (by decide) rfl wN_ok (Nat.le_of_ble_eq_true rfl) (fun _ _ _ _ _ _ _ _ _ _ _ _ _ cx hret hw hl hf => qk_X2_pay_0 cx hret hw hl hf)
def rm_X5_cloisterAt : Room := { frames := 0, cells := 0, slots := 0, locals := 0 }
noncomputable def qf_X5_cloisterAt  (w1 : Int32)  (M : Me) : Op :=
  rx_ld M 17 441 w1 fun v1 => if v1 = (-1) then (some ((-1), M)) else (rx_ld M 21 24 v1 fun v2 => rx_ld M 15 12 v2 fun v3 => if v3 = (-1) then (some ((-1), M)) else (rx_ld M 21 24 v1 fun v4 => rx_ld M 15 12 v4 fun v5 => some ((v1 * 8) + v5, M)))
section
variable {p : Program} {l : Launch} {e : Env} {s : State} {m : MethodId} {args : Array Value} {below : List Frame} {meth : Method} {c : Code} {Q : State → Prop} {D : va_G} {A : Nat → Prop} {o : Int32 × Me} {ad : Nat → Nat} {cI cL : ClassId} {b1 b2 : Nat}
set_option maxRecDepth 100000 in
set_option maxHeartbeats 4000000 in
theorem qk_X5_cloisterAt_0 (cx : rx_C p m c cX5_cloisterAt 3 s args wX5_cloisterAt RX5 D vwCl (tX cI cL) (zX b1 b2) wN A) (hret : rx_RI p l e rm_X5_cloisterAt s m args below meth c cX5_cloisterAt D vwCl (wX ad cI cL) A Q o) {w1 : Int32} {ls : Array Slot} {H : Heap} {locs : List Loc} {M : Me} (hw : rx_W D vwCl (wX ad cI cL) A s.heap M H locs) (hl : lv_has ls 3 [(0, .ref ((ad 2))), (1, .int w1)]) (hf : qf_X5_cloisterAt w1 M = some o) : W p l e rm_X5_cloisterAt s m args below meth c H locs 0 0 Q (F0 m 0 ls []) := by
  have hx := cx.1.1
  have hb := cx.1.2.1
  refine lv_aload_n hx hb dX5_cloisterAt_0 rfl (lv_at hl 0 rfl) ?_
  refine rx_getr cx hw (frX_2_2 ad cI cL) rfl (inT_X5) (Nat.le_of_ble_eq_true rfl) (.tail _ tw_135) dX5_cloisterAt_1 ?_
  refine lv_iload_n hx hb dX5_cloisterAt_4 rfl (lv_at hl 1 rfl) ?_
  obtain ⟨hv1, v1, ev1, hf⟩ := rx_ldI hf
  refine rx_iald cx hw (arX_17 ad cI cL) ⟨hv1, ev1⟩ dX5_cloisterAt_5 ?_
  refine lv_istore_n (lv' := [(2, .int v1), (0, .ref ((ad 2))), (1, .int w1)]) hx hb dX5_cloisterAt_6 rfl hl (Nat.le_of_ble_eq_true rfl) rfl (fun ls hl => ?_)
  refine lv_iload_n hx hb dX5_cloisterAt_7 rfl (lv_at hl 0 rfl) ?_
  refine lv_iconst (v := (-1)) hx hb dX5_cloisterAt_8 ic_m1 ?_
  refine lv_icmp_eq hx hb dX5_cloisterAt_9 rfl (fun hc => ?_) (fun hc => ?_)
  · have hf := rx_t hc hf
    refine lv_iconst (v := (-1)) hx hb dX5_cloisterAt_30 ic_m1 ?_
    exact rx_reti hret hw hf dX5_cloisterAt_31
  · have hf := rx_f hc hf
    refine lv_aload_n hx hb dX5_cloisterAt_12 rfl (lv_at hl 1 rfl) ?_
    refine rx_getr cx hw (frX_2_0 ad cI cL) rfl (inT_X5) (Nat.le_of_ble_eq_true rfl) (.tail _ tw_131) dX5_cloisterAt_13 ?_
    refine rx_getrN cx hw (frX_1_6 ad cI cL) rfl (inT_X0) (Nat.le_of_ble_eq_true rfl) tn_40 dX5_cloisterAt_16 ?_
    refine lv_aload_n hx hb dX5_cloisterAt_19 rfl (lv_at hl 1 rfl) ?_
    refine rx_getr cx hw (frX_2_6 ad cI cL) rfl (inT_X5) (Nat.le_of_ble_eq_true rfl) (.tail _ tw_141) dX5_cloisterAt_20 ?_
    refine lv_iload_n hx hb dX5_cloisterAt_23 rfl (lv_at hl 0 rfl) ?_
    obtain ⟨hv2, v2, ev2, hf⟩ := rx_ldI hf
    refine rx_iald cx hw (arX_21 ad cI cL) ⟨hv2, ev2⟩ dX5_cloisterAt_24 ?_
    obtain ⟨hv3, v3, ev3, hf⟩ := rx_ldI hf
    refine rx_iald cx hw (arX_15 ad cI cL) ⟨hv3, ev3⟩ dX5_cloisterAt_25 ?_
    refine lv_iconst (v := (-1)) hx hb dX5_cloisterAt_26 ic_m1 ?_
    refine lv_icmp_ne hx hb dX5_cloisterAt_27 rfl (fun hc => ?_) (fun hc => ?_)
    · have hf := rx_f hc hf
      refine lv_iload_n hx hb dX5_cloisterAt_32 rfl (lv_at hl 0 rfl) ?_
      refine lv_bipush (v := 8) hx hb dX5_cloisterAt_33 ib_8 ?_
      refine lv_imul hx hb dX5_cloisterAt_35 ?_
      refine lv_aload_n hx hb dX5_cloisterAt_36 rfl (lv_at hl 1 rfl) ?_
      refine rx_getr cx hw (frX_2_0 ad cI cL) rfl (inT_X5) (Nat.le_of_ble_eq_true rfl) (.tail _ tw_131) dX5_cloisterAt_37 ?_
      refine rx_getrN cx hw (frX_1_6 ad cI cL) rfl (inT_X0) (Nat.le_of_ble_eq_true rfl) tn_40 dX5_cloisterAt_40 ?_
      refine lv_aload_n hx hb dX5_cloisterAt_43 rfl (lv_at hl 1 rfl) ?_
      refine rx_getr cx hw (frX_2_6 ad cI cL) rfl (inT_X5) (Nat.le_of_ble_eq_true rfl) (.tail _ tw_141) dX5_cloisterAt_44 ?_
      refine lv_iload_n hx hb dX5_cloisterAt_47 rfl (lv_at hl 0 rfl) ?_
      obtain ⟨hv4, v4, ev4, hf⟩ := rx_ldI hf
      refine rx_iald cx hw (arX_21 ad cI cL) ⟨hv4, ev4⟩ dX5_cloisterAt_48 ?_
      obtain ⟨hv5, v5, ev5, hf⟩ := rx_ldI hf
      refine rx_iald cx hw (arX_15 ad cI cL) ⟨hv5, ev5⟩ dX5_cloisterAt_49 ?_
      refine lv_iadd hx hb dX5_cloisterAt_50 ?_
      exact rx_reti hret hw hf dX5_cloisterAt_51
    · have hf := rx_t hc hf
      refine lv_iconst (v := (-1)) hx hb dX5_cloisterAt_30 ic_m1 ?_
      exact rx_reti hret hw hf dX5_cloisterAt_31
end
set_option maxRecDepth 100000 in
theorem qc_X5_cloisterAt (l : Launch) (D : va_G) (ad : Nat → Nat) (cI cL : ClassId) (b1 b2 : Nat) (w1 : Int32) : rx_MI l yX5_cloisterAt wX5_cloisterAt rm_X5_cloisterAt D vwCl (wX ad cI cL) (tX cI cL) (zX b1 b2) wN [.ref (ad 2), .int w1] (fun M => qf_X5_cloisterAt w1 M) :=
  rx_ofI (by decide) rfl wN_ok (Nat.le_of_ble_eq_true rfl) (fun _ _ _ _ _ _ _ _ _ _ _ _ _ cx hret hw hl hf => qk_X5_cloisterAt_0 cx hret hw hl hf)
def rm_X2_settle : Room := { frames := 3, cells := 0, slots := 0, locals := 69 }
noncomputable def qo_X2_settle_14 (k49 : Int32 → Me → Op) (w1 : Int32) (rec : Int32 → Int32 → Me → Op) (w2 : Int32) (w3 : Int32) (M : Me) : Op :=
  if 8 ≤ w3 then (k49 w2 M) else (rx_cl (qf_X3_rootOf ((w1 * 8) + w3) M) fun r1 M2 => rx_cl (qf_X2_pay r1 M2) fun r3 M4 => rx_vv (w2 + r3) fun v5 => rx_vv (w3 + 1) fun v6 => rec v5 v6 M4)
noncomputable def qb_X2_settle_98 (k51 : Int32 → Int32 → Me → Op) (w1 : Int32) (w2 : Int32) (w3 : Int32)  (M : Me) : Op :=
  rx_vv (w3 + 1) fun v1 => k51 w2 v1 M
noncomputable def qo_X2_settle_51  (w1 : Int32) (rec : Int32 → Int32 → Me → Op) (w2 : Int32) (w3 : Int32) (M : Me) : Op :=
  if (Int32.ofNat sZ2.length) ≤ w3 then (some (w2, M)) else (rx_ld M 20 24 w1 fun v1 => rx_ls sZ2 w3 fun v2 => rx_cl (qf_X5_cloisterAt (v1 + v2) M) fun r3 M4 => if r3 = (-1) then (qb_X2_settle_98 rec w1 w2 w3 M4) else (rx_cl (qf_X2_pay r3 M4) fun r5 M6 => rx_vv (w2 + r5) fun v7 => qb_X2_settle_98 rec w1 v7 w3 M6))
noncomputable def qb_X2_settle_49  (w1 : Int32) (w2 : Int32)  (M : Me) : Op :=
  rx_lp2 (qo_X2_settle_51 w1) rx_FU w2 0 M
noncomputable def qf_X2_settle    (M : Me) : Op :=
  rx_vv (M 2 9) fun v1 => rx_vv (v1 - 1) fun v2 => rx_lp2 (qo_X2_settle_14 (fun a2 M => qb_X2_settle_49 v2 a2 M) v2) rx_FU 0 0 M
section
variable {p : Program} {l : Launch} {e : Env} {s : State} {m : MethodId} {args : Array Value} {below : List Frame} {meth : Method} {c : Code} {Q : State → Prop} {D : va_G} {A : Nat → Prop} {o : Int32 × Me} {ad : Nat → Nat} {cI cL : ClassId} {b1 b2 : Nat}
set_option maxRecDepth 100000 in
set_option maxHeartbeats 4000000 in
theorem qk_X2_settle_14 (cx : rx_C p m c cX2_settle 5 s args wX2_settle RX2 D vwCl (tX cI cL) (zX b1 b2) wN A) (hret : rx_RI p l e rm_X2_settle s m args below meth c cX2_settle D vwCl (wX ad cI cL) A Q o) {w1 : Int32} {k49 : Int32 → Me → Op} (h49 : ∀ {a2 : Int32} {ls : Array Slot} {H : Heap} {locs : List Loc} {M : Me}, rx_W D vwCl (wX ad cI cL) A s.heap M H locs → lv_has ls 5 [(0, .ref ((ad 4))), (1, .int w1), (2, .int a2)] → k49 a2 M = some o → W p l e rm_X2_settle s m args below meth c H locs 0 0 Q (F0 m 49 ls [])) : ∀ (n : Nat) {w2 : Int32} {w3 : Int32} {ls : Array Slot} {H : Heap} {locs : List Loc} {M : Me}, rx_W D vwCl (wX ad cI cL) A s.heap M H locs → lv_has ls 5 [(0, .ref ((ad 4))), (1, .int w1), (2, .int w2), (3, .int w3)] → rx_lp2 (qo_X2_settle_14 k49 w1) n w2 w3 M = some o → W p l e rm_X2_settle s m args below meth c H locs 0 0 Q (F0 m 14 ls []) := by
  have hx := cx.1.1
  have hb := cx.1.2.1
  intro n
  induction n with
  | zero => intro w2 w3 ls H locs M hw hl hf; exact rx_no hf
  | succ n ih =>
    intro w2 w3 ls H locs M hw hl hf
    have hf : qo_X2_settle_14 k49 w1 (rx_lp2 (qo_X2_settle_14 k49 w1) n) w2 w3 M = some o := hf
    refine lv_iload_n hx hb dX2_settle_14 rfl (lv_at hl 3 rfl) ?_
    refine lv_bipush (v := 8) hx hb dX2_settle_15 ib_8 ?_
    refine lv_icmp_ge hx hb dX2_settle_17 rfl (fun hc => ?_) (fun hc => ?_)
    · have hf := rx_t hc hf
      exact h49 hw (lv_sub hl [0, 1, 2] rfl) hf
    · have hf := rx_f hc hf
      refine lv_iload_n hx hb dX2_settle_20 rfl (lv_at hl 2 rfl) ?_
      refine lv_aload_n hx hb dX2_settle_21 rfl (lv_at hl 0 rfl) ?_
      refine lv_aload_n hx hb dX2_settle_22 rfl (lv_at hl 0 rfl) ?_
      refine rx_getr cx hw (frX_4_1 ad cI cL) rfl (inT_X2) (Nat.le_of_ble_eq_true rfl) (.tail _ tw_182) dX2_settle_23 ?_
      refine rx_getrN cx hw (frX_2_1 ad cI cL) rfl (inT_X5) (Nat.le_of_ble_eq_true rfl) tn_133 dX2_settle_26 ?_
      refine lv_iload_n hx hb dX2_settle_29 rfl (lv_at hl 1 rfl) ?_
      refine lv_bipush (v := 8) hx hb dX2_settle_30 ib_8 ?_
      refine lv_imul hx hb dX2_settle_32 ?_
      refine lv_iload_n hx hb dX2_settle_33 rfl (lv_at hl 3 rfl) ?_
      refine lv_iadd hx hb dX2_settle_34 ?_
      obtain ⟨r1, M2, er1, hf⟩ := rx_clI hf
      refine rx_jVi cx hw (qc_X3_rootOf l D ad cI cL b1 b2 ((w1 * 8) + w3)) (obX_3 ad cI cL) rfl rfl kfX3_rootOf tw_515 ⟨Nat.le_of_ble_eq_true rfl, Nat.le_of_ble_eq_true rfl, rfl, rfl⟩ rfl hl.1 (Nat.le_of_ble_eq_true rfl) ⟨Nat.zero_le _, Nat.zero_le _⟩ dX2_settle_35 rfl er1 (fun H locs hw => ?_)
      obtain ⟨r3, M4, er3, hf⟩ := rx_clI hf
      refine rx_jVi cx hw (qc_X2_pay l D ad cI cL b1 b2 r1) (obX_4 ad cI cL) rfl rfl kfX2_pay tw_535 ⟨Nat.le_of_ble_eq_true rfl, Nat.le_of_ble_eq_true rfl, rfl, rfl⟩ rfl hl.1 (Nat.le_of_ble_eq_true rfl) ⟨Nat.zero_le _, Nat.zero_le _⟩ dX2_settle_38 rfl er3 (fun H locs hw => ?_)
      refine lv_iadd hx hb dX2_settle_41 ?_
      obtain ⟨v5, ev5, hf⟩ := rx_vvI hf
      refine rx_top ev5 ?_
      refine lv_istore_n (lv' := [(2, .int v5), (0, .ref ((ad 4))), (1, .int w1), (3, .int w3)]) hx hb dX2_settle_42 rfl hl (Nat.le_of_ble_eq_true rfl) rfl (fun ls hl => ?_)
      obtain ⟨v6, ev6, hf⟩ := rx_vvI hf
      refine lv_iinc (lv' := [(3, .int v6), (2, .int v5), (0, .ref ((ad 4))), (1, .int w1)]) hx hb dX2_settle_43 hl (k := 3) rfl (rx_inc ic_1 ev6) (Nat.le_of_ble_eq_true rfl) rfl (fun ls hl => ?_)
      refine lv_goto hx hb dX2_settle_46 rfl ?_
      exact ih hw (lv_sub hl [2, 3, 1, 0] rfl) hf
set_option maxRecDepth 100000 in
set_option maxHeartbeats 4000000 in
theorem qk_X2_settle_98 (cx : rx_C p m c cX2_settle 5 s args wX2_settle RX2 D vwCl (tX cI cL) (zX b1 b2) wN A) (hret : rx_RI p l e rm_X2_settle s m args below meth c cX2_settle D vwCl (wX ad cI cL) A Q o) {w1 : Int32} {w2 : Int32} {w3 : Int32} {k51 : Int32 → Int32 → Me → Op} (h51 : ∀ {a2 : Int32} {a3 : Int32} {ls : Array Slot} {H : Heap} {locs : List Loc} {M : Me}, rx_W D vwCl (wX ad cI cL) A s.heap M H locs → lv_has ls 5 [(0, .ref ((ad 4))), (1, .int w1), (2, .int a2), (3, .int a3)] → k51 a2 a3 M = some o → W p l e rm_X2_settle s m args below meth c H locs 0 0 Q (F0 m 51 ls [])) {ls : Array Slot} {H : Heap} {locs : List Loc} {M : Me} (hw : rx_W D vwCl (wX ad cI cL) A s.heap M H locs) (hl : lv_has ls 5 [(0, .ref ((ad 4))), (1, .int w1), (2, .int w2), (3, .int w3)]) (hf : qb_X2_settle_98 k51 w1 w2 w3 M = some o) : W p l e rm_X2_settle s m args below meth c H locs 0 0 Q (F0 m 98 ls []) := by
  have hx := cx.1.1
  have hb := cx.1.2.1
  obtain ⟨v1, ev1, hf⟩ := rx_vvI hf
  refine lv_iinc (lv' := [(3, .int v1), (0, .ref ((ad 4))), (1, .int w1), (2, .int w2)]) hx hb dX2_settle_98 hl (k := 3) rfl (rx_inc ic_1 ev1) (Nat.le_of_ble_eq_true rfl) rfl (fun ls hl => ?_)
  refine lv_goto hx hb dX2_settle_101 rfl ?_
  exact h51 hw (lv_sub hl [1, 2, 3, 0] rfl) hf
set_option maxRecDepth 100000 in
set_option maxHeartbeats 4000000 in
theorem qk_X2_settle_51 (cx : rx_C p m c cX2_settle 5 s args wX2_settle RX2 D vwCl (tX cI cL) (zX b1 b2) wN A) (hret : rx_RI p l e rm_X2_settle s m args below meth c cX2_settle D vwCl (wX ad cI cL) A Q o) {w1 : Int32} : ∀ (n : Nat) {w2 : Int32} {w3 : Int32} {ls : Array Slot} {H : Heap} {locs : List Loc} {M : Me}, rx_W D vwCl (wX ad cI cL) A s.heap M H locs → lv_has ls 5 [(0, .ref ((ad 4))), (1, .int w1), (2, .int w2), (3, .int w3)] → rx_lp2 (qo_X2_settle_51 w1) n w2 w3 M = some o → W p l e rm_X2_settle s m args below meth c H locs 0 0 Q (F0 m 51 ls []) := by
  have hx := cx.1.1
  have hb := cx.1.2.1
  intro n
  induction n with
  | zero => intro w2 w3 ls H locs M hw hl hf; exact rx_no hf
  | succ n ih =>
    intro w2 w3 ls H locs M hw hl hf
    have hf : qo_X2_settle_51 w1 (rx_lp2 (qo_X2_settle_51 w1) n) w2 w3 M = some o := hf
    refine lv_iload_n hx hb dX2_settle_51 rfl (lv_at hl 3 rfl) ?_
    refine rx_getsN cx hw (zm2 b1 b2) tn_562 dX2_settle_52 ?_
    refine rx_lens cx hw (zm2 b1 b2) dX2_settle_55 ?_
    refine lv_icmp_ge hx hb dX2_settle_56 rfl (fun hc => ?_) (fun hc => ?_)
    · have hf := rx_t hc hf
      refine lv_iload_n hx hb dX2_settle_104 rfl (lv_at hl 2 rfl) ?_
      exact rx_reti hret hw hf dX2_settle_105
    · have hf := rx_f hc hf
      refine lv_aload_n hx hb dX2_settle_59 rfl (lv_at hl 0 rfl) ?_
      refine rx_getr cx hw (frX_4_1 ad cI cL) rfl (inT_X2) (Nat.le_of_ble_eq_true rfl) (.tail _ tw_182) dX2_settle_60 ?_
      refine lv_aload_n hx hb dX2_settle_63 rfl (lv_at hl 0 rfl) ?_
      refine rx_getr cx hw (frX_4_1 ad cI cL) rfl (inT_X2) (Nat.le_of_ble_eq_true rfl) (.tail _ tw_182) dX2_settle_64 ?_
      refine rx_getrN cx hw (frX_2_5 ad cI cL) rfl (inT_X5) (Nat.le_of_ble_eq_true rfl) tn_140 dX2_settle_67 ?_
      refine lv_iload_n hx hb dX2_settle_70 rfl (lv_at hl 1 rfl) ?_
      obtain ⟨hv1, v1, ev1, hf⟩ := rx_ldI hf
      refine rx_iald cx hw (arX_20 ad cI cL) ⟨hv1, ev1⟩ dX2_settle_71 ?_
      refine rx_getsN cx hw (zm2 b1 b2) tn_562 dX2_settle_72 ?_
      refine lv_iload_n hx hb dX2_settle_75 rfl (lv_at hl 3 rfl) ?_
      obtain ⟨hv2, v2, ev2, hf⟩ := rx_lsI hf
      refine rx_lds cx hw (zm2 b1 b2) ⟨hv2, ev2⟩ dX2_settle_76 ?_
      refine lv_iadd hx hb dX2_settle_77 ?_
      obtain ⟨r3, M4, er3, hf⟩ := rx_clI hf
      refine rx_jVi cx hw (qc_X5_cloisterAt l D ad cI cL b1 b2 (v1 + v2)) (obX_2 ad cI cL) rfl rfl kfX5_cloisterAt tw_563 ⟨Nat.le_of_ble_eq_true rfl, Nat.le_of_ble_eq_true rfl, rfl, rfl⟩ rfl hl.1 (Nat.le_of_ble_eq_true rfl) ⟨Nat.zero_le _, Nat.zero_le _⟩ dX2_settle_78 rfl er3 (fun H locs hw => ?_)
      refine lv_istore (lv' := [(4, .int r3), (0, .ref ((ad 4))), (1, .int w1), (2, .int w2), (3, .int w3)]) hx hb dX2_settle_81 hl (Nat.le_of_ble_eq_true rfl) rfl (fun ls hl => ?_)
      refine lv_iload hx hb dX2_settle_83 (lv_at hl 0 rfl) ?_
      refine lv_iconst (v := (-1)) hx hb dX2_settle_85 ic_m1 ?_
      refine lv_icmp_eq hx hb dX2_settle_86 rfl (fun hc => ?_) (fun hc => ?_)
      · have hf := rx_t hc hf
        exact (qk_X2_settle_98 cx hret ih) hw (lv_sub hl [1, 2, 3, 4] rfl) hf
      · have hf := rx_f hc hf
        refine lv_iload_n hx hb dX2_settle_89 rfl (lv_at hl 3 rfl) ?_
        refine lv_aload_n hx hb dX2_settle_90 rfl (lv_at hl 1 rfl) ?_
        refine lv_iload hx hb dX2_settle_91 (lv_at hl 0 rfl) ?_
        obtain ⟨r5, M6, er5, hf⟩ := rx_clI hf
        refine rx_jVi cx hw (qc_X2_pay l D ad cI cL b1 b2 r3) (obX_4 ad cI cL) rfl rfl kfX2_pay tw_535 ⟨Nat.le_of_ble_eq_true rfl, Nat.le_of_ble_eq_true rfl, rfl, rfl⟩ rfl hl.1 (Nat.le_of_ble_eq_true rfl) ⟨Nat.zero_le _, Nat.zero_le _⟩ dX2_settle_93 rfl er5 (fun H locs hw => ?_)
        refine lv_iadd hx hb dX2_settle_96 ?_
        obtain ⟨v7, ev7, hf⟩ := rx_vvI hf
        refine rx_top ev7 ?_
        refine lv_istore_n (lv' := [(2, .int v7), (4, .int r3), (0, .ref ((ad 4))), (1, .int w1), (3, .int w3)]) hx hb dX2_settle_97 rfl hl (Nat.le_of_ble_eq_true rfl) rfl (fun ls hl => ?_)
        exact (qk_X2_settle_98 cx hret ih) hw (lv_sub hl [2, 3, 0, 4] rfl) hf
set_option maxRecDepth 100000 in
set_option maxHeartbeats 4000000 in
theorem qk_X2_settle_49 (cx : rx_C p m c cX2_settle 5 s args wX2_settle RX2 D vwCl (tX cI cL) (zX b1 b2) wN A) (hret : rx_RI p l e rm_X2_settle s m args below meth c cX2_settle D vwCl (wX ad cI cL) A Q o) {w1 : Int32} {w2 : Int32} {ls : Array Slot} {H : Heap} {locs : List Loc} {M : Me} (hw : rx_W D vwCl (wX ad cI cL) A s.heap M H locs) (hl : lv_has ls 5 [(0, .ref ((ad 4))), (1, .int w1), (2, .int w2)]) (hf : qb_X2_settle_49 w1 w2 M = some o) : W p l e rm_X2_settle s m args below meth c H locs 0 0 Q (F0 m 49 ls []) := by
  have hx := cx.1.1
  have hb := cx.1.2.1
  refine lv_iconst (v := 0) hx hb dX2_settle_49 ic_0 ?_
  refine lv_istore_n (lv' := [(3, .int 0), (0, .ref ((ad 4))), (1, .int w1), (2, .int w2)]) hx hb dX2_settle_50 rfl hl (Nat.le_of_ble_eq_true rfl) rfl (fun ls hl => ?_)
  exact (qk_X2_settle_51 cx hret rx_FU) hw (lv_sub hl [1, 2, 3, 0] rfl) hf
set_option maxRecDepth 100000 in
set_option maxHeartbeats 4000000 in
theorem qk_X2_settle_0 (cx : rx_C p m c cX2_settle 5 s args wX2_settle RX2 D vwCl (tX cI cL) (zX b1 b2) wN A) (hret : rx_RI p l e rm_X2_settle s m args below meth c cX2_settle D vwCl (wX ad cI cL) A Q o) {ls : Array Slot} {H : Heap} {locs : List Loc} {M : Me} (hw : rx_W D vwCl (wX ad cI cL) A s.heap M H locs) (hl : lv_has ls 5 [(0, .ref ((ad 4)))]) (hf : qf_X2_settle M = some o) : W p l e rm_X2_settle s m args below meth c H locs 0 0 Q (F0 m 0 ls []) := by
  have hx := cx.1.1
  have hb := cx.1.2.1
  refine lv_aload_n hx hb dX2_settle_0 rfl (lv_at hl 0 rfl) ?_
  refine rx_getr cx hw (frX_4_1 ad cI cL) rfl (inT_X2) (Nat.le_of_ble_eq_true rfl) (.tail _ tw_182) dX2_settle_1 ?_
  obtain ⟨v1, ev1, hf⟩ := rx_vvI hf
  refine rx_getiN cx hw (fiX_2_9 ad cI cL) rfl (inT_X5) (Nat.le_of_ble_eq_true rfl) tn_146 ev1 dX2_settle_4 ?_
  refine lv_iconst (v := 1) hx hb dX2_settle_7 ic_1 ?_
  refine lv_isub hx hb dX2_settle_8 ?_
  obtain ⟨v2, ev2, hf⟩ := rx_vvI hf
  refine rx_top ev2 ?_
  refine lv_istore_n (lv' := [(1, .int v2), (0, .ref ((ad 4)))]) hx hb dX2_settle_9 rfl hl (Nat.le_of_ble_eq_true rfl) rfl (fun ls hl => ?_)
  refine lv_iconst (v := 0) hx hb dX2_settle_10 ic_0 ?_
  refine lv_istore_n (lv' := [(2, .int 0), (1, .int v2), (0, .ref ((ad 4)))]) hx hb dX2_settle_11 rfl hl (Nat.le_of_ble_eq_true rfl) rfl (fun ls hl => ?_)
  refine lv_iconst (v := 0) hx hb dX2_settle_12 ic_0 ?_
  refine lv_istore_n (lv' := [(3, .int 0), (2, .int 0), (1, .int v2), (0, .ref ((ad 4)))]) hx hb dX2_settle_13 rfl hl (Nat.le_of_ble_eq_true rfl) rfl (fun ls hl => ?_)
  exact (qk_X2_settle_14 cx hret (qk_X2_settle_49 cx hret) rx_FU) hw (lv_sub hl [3, 2, 1, 0] rfl) hf
end
set_option maxRecDepth 100000 in
theorem qc_X2_settle (l : Launch) (D : va_G) (ad : Nat → Nat) (cI cL : ClassId) (b1 b2 : Nat) : rx_MI l yX2_settle wX2_settle rm_X2_settle D vwCl (wX ad cI cL) (tX cI cL) (zX b1 b2) wN [.ref (ad 4)] (fun M => qf_X2_settle M) :=
  rx_ofI (by decide) rfl wN_ok (Nat.le_of_ble_eq_true rfl) (fun _ _ _ _ _ _ _ _ _ _ _ _ _ cx hret hw hl hf => qk_X2_settle_0 cx hret hw hl hf)
def rm_X2_save : Room := { frames := 0, cells := 0, slots := 0, locals := 0 }
noncomputable def qo_X2_save_67  (w1 : Int32) (rec : Int32 → Me → Op) (w2 : Int32) (M : Me) : Op :=
  if 3 ≤ w2 then (some (0, M)) else (rx_ld M 34 3 w2 fun v1 => rx_sv M 37 240 ((w1 + 4) + w2) v1 fun M2 => rx_ld M2 35 3 w2 fun v3 => rx_sv M2 37 240 (((w1 + 4) + 3) + w2) v3 fun M4 => rx_vv (w2 + 1) fun v5 => rec v5 M4)
noncomputable def qf_X2_save    (M : Me) : Op :=
  rx_vv (M 2 9) fun v1 => rx_vv ((v1 - 1) * 10) fun v2 => rx_vv (M 4 5) fun v3 => rx_sv M 37 240 v2 v3 fun M4 => rx_vv (M4 4 7) fun v5 => rx_sv M4 37 240 (v2 + 1) v5 fun M6 => rx_vv (M6 4 8) fun v7 => rx_sv M6 37 240 (v2 + 2) v7 fun M8 => rx_vv (M8 3 10) fun v9 => rx_sv M8 37 240 (v2 + 3) v9 fun M10 => rx_lp1 (qo_X2_save_67 v2) rx_FU 0 M10
section
variable {p : Program} {l : Launch} {e : Env} {s : State} {m : MethodId} {args : Array Value} {below : List Frame} {meth : Method} {c : Code} {Q : State → Prop} {D : va_G} {A : Nat → Prop} {o : Int32 × Me} {ad : Nat → Nat} {cI cL : ClassId} {b1 b2 : Nat}
set_option maxRecDepth 100000 in
set_option maxHeartbeats 4000000 in
theorem qk_X2_save_67 (cx : rx_C p m c cX2_save 3 s args wX2_save RX2 D vwCl (tX cI cL) (zX b1 b2) wN A) (hret : rx_RV p l e rm_X2_save s m args below meth c cX2_save D vwCl (wX ad cI cL) A Q o) {w1 : Int32} : ∀ (n : Nat) {w2 : Int32} {ls : Array Slot} {H : Heap} {locs : List Loc} {M : Me}, rx_W D vwCl (wX ad cI cL) A s.heap M H locs → lv_has ls 3 [(0, .ref ((ad 4))), (1, .int w1), (2, .int w2)] → rx_lp1 (qo_X2_save_67 w1) n w2 M = some o → W p l e rm_X2_save s m args below meth c H locs 0 0 Q (F0 m 67 ls []) := by
  have hx := cx.1.1
  have hb := cx.1.2.1
  intro n
  induction n with
  | zero => intro w2 ls H locs M hw hl hf; exact rx_no hf
  | succ n ih =>
    intro w2 ls H locs M hw hl hf
    have hf : qo_X2_save_67 w1 (rx_lp1 (qo_X2_save_67 w1) n) w2 M = some o := hf
    refine lv_iload_n hx hb dX2_save_67 rfl (lv_at hl 2 rfl) ?_
    refine lv_iconst (v := 3) hx hb dX2_save_68 ic_3 ?_
    refine lv_icmp_ge hx hb dX2_save_69 rfl (fun hc => ?_) (fun hc => ?_)
    · have hf := rx_t hc hf
      exact rx_retv hret hw hf dX2_save_112
    · have hf := rx_f hc hf
      refine lv_aload_n hx hb dX2_save_72 rfl (lv_at hl 0 rfl) ?_
      refine rx_getr cx hw (frX_4_12 ad cI cL) rfl (inT_X2) (Nat.le_of_ble_eq_true rfl) (.tail _ tw_206) dX2_save_73 ?_
      refine lv_iload_n hx hb dX2_save_76 rfl (lv_at hl 1 rfl) ?_
      refine lv_iconst (v := 4) hx hb dX2_save_77 ic_4 ?_
      refine lv_iadd hx hb dX2_save_78 ?_
      refine lv_iload_n hx hb dX2_save_79 rfl (lv_at hl 2 rfl) ?_
      refine lv_iadd hx hb dX2_save_80 ?_
      refine lv_aload_n hx hb dX2_save_81 rfl (lv_at hl 0 rfl) ?_
      refine rx_getr cx hw (frX_4_9 ad cI cL) rfl (inT_X2) (Nat.le_of_ble_eq_true rfl) (.tail _ tw_199) dX2_save_82 ?_
      refine lv_iload_n hx hb dX2_save_85 rfl (lv_at hl 2 rfl) ?_
      obtain ⟨hv1, v1, ev1, hf⟩ := rx_ldI hf
      refine rx_iald cx hw (arX_34 ad cI cL) ⟨hv1, ev1⟩ dX2_save_86 ?_
      obtain ⟨hM2, M2, eM2, hf⟩ := rx_svI hf
      refine rx_iast cx hw (arX_37 ad cI cL) ⟨hM2, eM2⟩ dX2_save_87 (fun H locs hw => ?_)
      refine lv_aload_n hx hb dX2_save_88 rfl (lv_at hl 0 rfl) ?_
      refine rx_getr cx hw (frX_4_12 ad cI cL) rfl (inT_X2) (Nat.le_of_ble_eq_true rfl) (.tail _ tw_206) dX2_save_89 ?_
      refine lv_iload_n hx hb dX2_save_92 rfl (lv_at hl 1 rfl) ?_
      refine lv_iconst (v := 4) hx hb dX2_save_93 ic_4 ?_
      refine lv_iadd hx hb dX2_save_94 ?_
      refine lv_iconst (v := 3) hx hb dX2_save_95 ic_3 ?_
      refine lv_iadd hx hb dX2_save_96 ?_
      refine lv_iload_n hx hb dX2_save_97 rfl (lv_at hl 2 rfl) ?_
      refine lv_iadd hx hb dX2_save_98 ?_
      refine lv_aload_n hx hb dX2_save_99 rfl (lv_at hl 0 rfl) ?_
      refine rx_getr cx hw (frX_4_10 ad cI cL) rfl (inT_X2) (Nat.le_of_ble_eq_true rfl) (.tail _ tw_201) dX2_save_100 ?_
      refine lv_iload_n hx hb dX2_save_103 rfl (lv_at hl 2 rfl) ?_
      obtain ⟨hv3, v3, ev3, hf⟩ := rx_ldI hf
      refine rx_iald cx hw (arX_35 ad cI cL) ⟨hv3, ev3⟩ dX2_save_104 ?_
      obtain ⟨hM4, M4, eM4, hf⟩ := rx_svI hf
      refine rx_iast cx hw (arX_37 ad cI cL) ⟨hM4, eM4⟩ dX2_save_105 (fun H locs hw => ?_)
      obtain ⟨v5, ev5, hf⟩ := rx_vvI hf
      refine lv_iinc (lv' := [(2, .int v5), (0, .ref ((ad 4))), (1, .int w1)]) hx hb dX2_save_106 hl (k := 2) rfl (rx_inc ic_1 ev5) (Nat.le_of_ble_eq_true rfl) rfl (fun ls hl => ?_)
      refine lv_goto hx hb dX2_save_109 rfl ?_
      exact ih hw (lv_sub hl [1, 2, 0] rfl) hf
set_option maxRecDepth 100000 in
set_option maxHeartbeats 4000000 in
theorem qk_X2_save_0 (cx : rx_C p m c cX2_save 3 s args wX2_save RX2 D vwCl (tX cI cL) (zX b1 b2) wN A) (hret : rx_RV p l e rm_X2_save s m args below meth c cX2_save D vwCl (wX ad cI cL) A Q o) {ls : Array Slot} {H : Heap} {locs : List Loc} {M : Me} (hw : rx_W D vwCl (wX ad cI cL) A s.heap M H locs) (hl : lv_has ls 3 [(0, .ref ((ad 4)))]) (hf : qf_X2_save M = some o) : W p l e rm_X2_save s m args below meth c H locs 0 0 Q (F0 m 0 ls []) := by
  have hx := cx.1.1
  have hb := cx.1.2.1
  refine lv_aload_n hx hb dX2_save_0 rfl (lv_at hl 0 rfl) ?_
  refine rx_getr cx hw (frX_4_1 ad cI cL) rfl (inT_X2) (Nat.le_of_ble_eq_true rfl) (.tail _ tw_182) dX2_save_1 ?_
  obtain ⟨v1, ev1, hf⟩ := rx_vvI hf
  refine rx_getiN cx hw (fiX_2_9 ad cI cL) rfl (inT_X5) (Nat.le_of_ble_eq_true rfl) tn_146 ev1 dX2_save_4 ?_
  refine lv_iconst (v := 1) hx hb dX2_save_7 ic_1 ?_
  refine lv_isub hx hb dX2_save_8 ?_
  refine lv_bipush (v := 10) hx hb dX2_save_9 ib_10 ?_
  refine lv_imul hx hb dX2_save_11 ?_
  obtain ⟨v2, ev2, hf⟩ := rx_vvI hf
  refine rx_top ev2 ?_
  refine lv_istore_n (lv' := [(1, .int v2), (0, .ref ((ad 4)))]) hx hb dX2_save_12 rfl hl (Nat.le_of_ble_eq_true rfl) rfl (fun ls hl => ?_)
  refine lv_aload_n hx hb dX2_save_13 rfl (lv_at hl 1 rfl) ?_
  refine rx_getr cx hw (frX_4_12 ad cI cL) rfl (inT_X2) (Nat.le_of_ble_eq_true rfl) (.tail _ tw_206) dX2_save_14 ?_
  refine lv_iload_n hx hb dX2_save_17 rfl (lv_at hl 0 rfl) ?_
  refine lv_aload_n hx hb dX2_save_18 rfl (lv_at hl 1 rfl) ?_
  obtain ⟨v3, ev3, hf⟩ := rx_vvI hf
  refine rx_geti cx hw (fiX_4_5 ad cI cL) rfl (inT_X2) (Nat.le_of_ble_eq_true rfl) (.tail _ tw_191) ev3 dX2_save_19 ?_
  obtain ⟨hM4, M4, eM4, hf⟩ := rx_svI hf
  refine rx_iast cx hw (arX_37 ad cI cL) ⟨hM4, eM4⟩ dX2_save_22 (fun H locs hw => ?_)
  refine lv_aload_n hx hb dX2_save_23 rfl (lv_at hl 1 rfl) ?_
  refine rx_getr cx hw (frX_4_12 ad cI cL) rfl (inT_X2) (Nat.le_of_ble_eq_true rfl) (.tail _ tw_206) dX2_save_24 ?_
  refine lv_iload_n hx hb dX2_save_27 rfl (lv_at hl 0 rfl) ?_
  refine lv_iconst (v := 1) hx hb dX2_save_28 ic_1 ?_
  refine lv_iadd hx hb dX2_save_29 ?_
  refine lv_aload_n hx hb dX2_save_30 rfl (lv_at hl 1 rfl) ?_
  obtain ⟨v5, ev5, hf⟩ := rx_vvI hf
  refine rx_geti cx hw (fiX_4_7 ad cI cL) rfl (inT_X2) (Nat.le_of_ble_eq_true rfl) (.tail _ tw_195) ev5 dX2_save_31 ?_
  obtain ⟨hM6, M6, eM6, hf⟩ := rx_svI hf
  refine rx_iast cx hw (arX_37 ad cI cL) ⟨hM6, eM6⟩ dX2_save_34 (fun H locs hw => ?_)
  refine lv_aload_n hx hb dX2_save_35 rfl (lv_at hl 1 rfl) ?_
  refine rx_getr cx hw (frX_4_12 ad cI cL) rfl (inT_X2) (Nat.le_of_ble_eq_true rfl) (.tail _ tw_206) dX2_save_36 ?_
  refine lv_iload_n hx hb dX2_save_39 rfl (lv_at hl 0 rfl) ?_
  refine lv_iconst (v := 2) hx hb dX2_save_40 ic_2 ?_
  refine lv_iadd hx hb dX2_save_41 ?_
  refine lv_aload_n hx hb dX2_save_42 rfl (lv_at hl 1 rfl) ?_
  obtain ⟨v7, ev7, hf⟩ := rx_vvI hf
  refine rx_geti cx hw (fiX_4_8 ad cI cL) rfl (inT_X2) (Nat.le_of_ble_eq_true rfl) (.tail _ tw_197) ev7 dX2_save_43 ?_
  obtain ⟨hM8, M8, eM8, hf⟩ := rx_svI hf
  refine rx_iast cx hw (arX_37 ad cI cL) ⟨hM8, eM8⟩ dX2_save_46 (fun H locs hw => ?_)
  refine lv_aload_n hx hb dX2_save_47 rfl (lv_at hl 1 rfl) ?_
  refine rx_getr cx hw (frX_4_12 ad cI cL) rfl (inT_X2) (Nat.le_of_ble_eq_true rfl) (.tail _ tw_206) dX2_save_48 ?_
  refine lv_iload_n hx hb dX2_save_51 rfl (lv_at hl 0 rfl) ?_
  refine lv_iconst (v := 3) hx hb dX2_save_52 ic_3 ?_
  refine lv_iadd hx hb dX2_save_53 ?_
  refine lv_aload_n hx hb dX2_save_54 rfl (lv_at hl 1 rfl) ?_
  refine rx_getr cx hw (frX_4_1 ad cI cL) rfl (inT_X2) (Nat.le_of_ble_eq_true rfl) (.tail _ tw_182) dX2_save_55 ?_
  refine rx_getrN cx hw (frX_2_1 ad cI cL) rfl (inT_X5) (Nat.le_of_ble_eq_true rfl) tn_133 dX2_save_58 ?_
  obtain ⟨v9, ev9, hf⟩ := rx_vvI hf
  refine rx_getiN cx hw (fiX_3_10 ad cI cL) rfl (inT_X3) (Nat.le_of_ble_eq_true rfl) tn_104 ev9 dX2_save_61 ?_
  obtain ⟨hM10, M10, eM10, hf⟩ := rx_svI hf
  refine rx_iast cx hw (arX_37 ad cI cL) ⟨hM10, eM10⟩ dX2_save_64 (fun H locs hw => ?_)
  refine lv_iconst (v := 0) hx hb dX2_save_65 ic_0 ?_
  refine lv_istore_n (lv' := [(2, .int 0), (1, .int v2), (0, .ref ((ad 4)))]) hx hb dX2_save_66 rfl hl (Nat.le_of_ble_eq_true rfl) rfl (fun ls hl => ?_)
  exact (qk_X2_save_67 cx hret rx_FU) hw (lv_sub hl [2, 1, 0] rfl) hf
end
set_option maxRecDepth 100000 in
theorem qc_X2_save (l : Launch) (D : va_G) (ad : Nat → Nat) (cI cL : ClassId) (b1 b2 : Nat) : rx_MV l yX2_save wX2_save rm_X2_save D vwCl (wX ad cI cL) (tX cI cL) (zX b1 b2) wN [.ref (ad 4)] (fun M => qf_X2_save M) :=
  rx_ofV (by decide) rfl wN_ok (Nat.le_of_ble_eq_true rfl) (fun _ _ _ _ _ _ _ _ _ _ _ _ _ cx hret hw hl hf => qk_X2_save_0 cx hret hw hl hf)
def rm_X6_oneMan : Room := { frames := 0, cells := 0, slots := 0, locals := 0 }
noncomputable def qf_X6_oneMan  (w0 : Int32)  (M : Me) : Op :=
  some (1 <<< ((4 * w0) &&& 31), M)
section
variable {p : Program} {l : Launch} {e : Env} {s : State} {m : MethodId} {args : Array Value} {below : List Frame} {meth : Method} {c : Code} {Q : State → Prop} {D : va_G} {A : Nat → Prop} {o : Int32 × Me} {ad : Nat → Nat} {cI cL : ClassId} {b1 b2 : Nat}
set_option maxRecDepth 100000 in
set_option maxHeartbeats 4000000 in
theorem qk_X6_oneMan_0 (cx : rx_C p m c cX6_oneMan 1 s args wX6_oneMan RX6 D vwCl (tX cI cL) (zX b1 b2) wN A) (hret : rx_RI p l e rm_X6_oneMan s m args below meth c cX6_oneMan D vwCl (wX ad cI cL) A Q o) {w0 : Int32} {ls : Array Slot} {H : Heap} {locs : List Loc} {M : Me} (hw : rx_W D vwCl (wX ad cI cL) A s.heap M H locs) (hl : lv_has ls 1 [(0, .int w0)]) (hf : qf_X6_oneMan w0 M = some o) : W p l e rm_X6_oneMan s m args below meth c H locs 0 0 Q (F0 m 0 ls []) := by
  have hx := cx.1.1
  have hb := cx.1.2.1
  refine lv_iconst (v := 1) hx hb dX6_oneMan_0 ic_1 ?_
  refine lv_iconst (v := 4) hx hb dX6_oneMan_1 ic_4 ?_
  refine lv_iload_n hx hb dX6_oneMan_2 rfl (lv_at hl 0 rfl) ?_
  refine lv_imul hx hb dX6_oneMan_3 ?_
  refine lv_ishl hx hb dX6_oneMan_4 ?_
  exact rx_reti hret hw hf dX6_oneMan_5
end
set_option maxRecDepth 100000 in
theorem qc_X6_oneMan (l : Launch) (D : va_G) (ad : Nat → Nat) (cI cL : ClassId) (b1 b2 : Nat) (w0 : Int32) : rx_MI l yX6_oneMan wX6_oneMan rm_X6_oneMan D vwCl (wX ad cI cL) (tX cI cL) (zX b1 b2) wN [.int w0] (fun M => qf_X6_oneMan w0 M) :=
  rx_ofI (by decide) rfl wN_ok (Nat.le_of_ble_eq_true rfl) (fun _ _ _ _ _ _ _ _ _ _ _ _ _ cx hret hw hl hf => qk_X6_oneMan_0 cx hret hw hl hf)
def rm_X2_put : Room := { frames := 4, cells := 0, slots := 0, locals := 93 }
noncomputable def qb_X2_put_97  (w2 : Int32) (s0 : Int32) (M : Me) : Op :=
  rx_vv (rx_st M 4 5 s0) fun M1 => rx_cl (qf_X2_drawNext M1) fun r2 M3 => some (w2, M3)
noncomputable def qb_X2_put_63    (M : Me) : Op :=
  rx_cl (qf_X2_settle M) fun r1 M2 => rx_vv (rx_st M2 4 3 0) fun M3 => rx_vv (M3 4 5) fun v4 => rx_vv (M3 4 4) fun v5 => if v5 ≤ (v4 + 1) then (qb_X2_put_97 r1 0 M3) else (rx_vv (M3 4 5) fun v6 => qb_X2_put_97 r1 (v6 + 1) M3)
noncomputable def qf_X2_put  (w1 : Int32)  (M : Me) : Op :=
  rx_cl (qf_X2_save M) fun r1 M2 => if w1 = (-1) then (qb_X2_put_63 M2) else (rx_vv (M2 4 5) fun v3 => rx_ld M2 35 3 v3 fun v4 => rx_sv M2 35 3 v3 (v4 - 1) fun M5 => rx_vv (M5 2 9) fun v6 => rx_cl (qf_X3_rootOf (((v6 - 1) * 8) + w1) M5) fun r7 M8 => rx_vv (M8 4 5) fun v9 => rx_cl (qf_X6_oneMan v9 M8) fun r10 M11 => rx_cl (qf_X3_setMen r7 r10 M11) fun r12 M13 => qb_X2_put_63 M13)
section
variable {p : Program} {l : Launch} {e : Env} {s : State} {m : MethodId} {args : Array Value} {below : List Frame} {meth : Method} {c : Code} {Q : State → Prop} {D : va_G} {A : Nat → Prop} {o : Int32 × Me} {ad : Nat → Nat} {cI cL : ClassId} {b1 b2 : Nat}
set_option maxRecDepth 100000 in
set_option maxHeartbeats 4000000 in
theorem qk_X2_put_97 (cx : rx_C p m c cX2_put 3 s args wX2_put RX2 D vwCl (tX cI cL) (zX b1 b2) wN A) (hret : rx_RI p l e rm_X2_put s m args below meth c cX2_put D vwCl (wX ad cI cL) A Q o) {w2 : Int32} {s0 : Int32} {ls : Array Slot} {H : Heap} {locs : List Loc} {M : Me} (hw : rx_W D vwCl (wX ad cI cL) A s.heap M H locs) (hl : lv_has ls 3 [(0, .ref ((ad 4))), (2, .int w2)]) (hf : qb_X2_put_97 w2 s0 M = some o) : W p l e rm_X2_put s m args below meth c H locs 0 0 Q (F0 m 97 ls [.int s0, .ref ((ad 4))]) := by
  have hx := cx.1.1
  have hb := cx.1.2.1
  obtain ⟨M1, eM1, hf⟩ := rx_vvI hf
  refine rx_puti cx hw (fiX_4_5 ad cI cL) rfl (inT_X2) tyX2 tyX2_ok nmX2 (Nat.le_of_ble_eq_true rfl) (.tail _ tw_191) rfl rfl rfl eM1 dX2_put_97 (fun H locs hw => ?_)
  refine lv_aload_n hx hb dX2_put_100 rfl (lv_at hl 0 rfl) ?_
  obtain ⟨r2, M3, er2, hf⟩ := rx_clI hf
  refine rx_jVv cx hw (qc_X2_drawNext l D ad cI cL b1 b2) (obX_4 ad cI cL) rfl rfl kfX2_drawNext tw_420 ⟨Nat.le_of_ble_eq_true rfl, Nat.le_of_ble_eq_true rfl, rfl, rfl⟩ rfl hl.1 (Nat.le_of_ble_eq_true rfl) ⟨Nat.zero_le _, Nat.zero_le _⟩ dX2_put_101 rfl er2 (fun H locs hw => ?_)
  refine lv_iload_n hx hb dX2_put_104 rfl (lv_at hl 1 rfl) ?_
  exact rx_reti hret hw hf dX2_put_105
set_option maxRecDepth 100000 in
set_option maxHeartbeats 4000000 in
theorem qk_X2_put_63 (cx : rx_C p m c cX2_put 3 s args wX2_put RX2 D vwCl (tX cI cL) (zX b1 b2) wN A) (hret : rx_RI p l e rm_X2_put s m args below meth c cX2_put D vwCl (wX ad cI cL) A Q o) {ls : Array Slot} {H : Heap} {locs : List Loc} {M : Me} (hw : rx_W D vwCl (wX ad cI cL) A s.heap M H locs) (hl : lv_has ls 3 [(0, .ref ((ad 4)))]) (hf : qb_X2_put_63 M = some o) : W p l e rm_X2_put s m args below meth c H locs 0 0 Q (F0 m 63 ls []) := by
  have hx := cx.1.1
  have hb := cx.1.2.1
  refine lv_aload_n hx hb dX2_put_63 rfl (lv_at hl 0 rfl) ?_
  obtain ⟨r1, M2, er1, hf⟩ := rx_clI hf
  refine rx_jVi cx hw (qc_X2_settle l D ad cI cL b1 b2) (obX_4 ad cI cL) rfl rfl kfX2_settle tw_531 ⟨Nat.le_of_ble_eq_true rfl, Nat.le_of_ble_eq_true rfl, rfl, rfl⟩ rfl hl.1 (Nat.le_of_ble_eq_true rfl) ⟨Nat.zero_le _, Nat.zero_le _⟩ dX2_put_64 rfl er1 (fun H locs hw => ?_)
  refine lv_istore_n (lv' := [(2, .int r1), (0, .ref ((ad 4)))]) hx hb dX2_put_67 rfl hl (Nat.le_of_ble_eq_true rfl) rfl (fun ls hl => ?_)
  refine lv_aload_n hx hb dX2_put_68 rfl (lv_at hl 1 rfl) ?_
  refine lv_iconst (v := 0) hx hb dX2_put_69 ic_0 ?_
  obtain ⟨M3, eM3, hf⟩ := rx_vvI hf
  refine rx_puti cx hw (fiX_4_3 ad cI cL) rfl (inT_X2) tyX2 tyX2_ok nmX2 (Nat.le_of_ble_eq_true rfl) (.tail _ tw_185) rfl rfl rfl eM3 dX2_put_70 (fun H locs hw => ?_)
  refine lv_aload_n hx hb dX2_put_73 rfl (lv_at hl 1 rfl) ?_
  refine lv_aload_n hx hb dX2_put_74 rfl (lv_at hl 1 rfl) ?_
  obtain ⟨v4, ev4, hf⟩ := rx_vvI hf
  refine rx_geti cx hw (fiX_4_5 ad cI cL) rfl (inT_X2) (Nat.le_of_ble_eq_true rfl) (.tail _ tw_191) ev4 dX2_put_75 ?_
  refine lv_iconst (v := 1) hx hb dX2_put_78 ic_1 ?_
  refine lv_iadd hx hb dX2_put_79 ?_
  refine lv_aload_n hx hb dX2_put_80 rfl (lv_at hl 1 rfl) ?_
  obtain ⟨v5, ev5, hf⟩ := rx_vvI hf
  refine rx_geti cx hw (fiX_4_4 ad cI cL) rfl (inT_X2) (Nat.le_of_ble_eq_true rfl) (.tail _ tw_187) ev5 dX2_put_81 ?_
  refine lv_icmp_ge hx hb dX2_put_84 rfl (fun hc => ?_) (fun hc => ?_)
  · have hf := rx_t hc hf
    refine lv_iconst (v := 0) hx hb dX2_put_96 ic_0 ?_
    exact (qk_X2_put_97 cx hret) hw (lv_sub hl [1, 0] rfl) hf
  · have hf := rx_f hc hf
    refine lv_aload_n hx hb dX2_put_87 rfl (lv_at hl 1 rfl) ?_
    obtain ⟨v6, ev6, hf⟩ := rx_vvI hf
    refine rx_geti cx hw (fiX_4_5 ad cI cL) rfl (inT_X2) (Nat.le_of_ble_eq_true rfl) (.tail _ tw_191) ev6 dX2_put_88 ?_
    refine lv_iconst (v := 1) hx hb dX2_put_91 ic_1 ?_
    refine lv_iadd hx hb dX2_put_92 ?_
    refine lv_goto hx hb dX2_put_93 rfl ?_
    exact (qk_X2_put_97 cx hret) hw (lv_sub hl [1, 0] rfl) hf
set_option maxRecDepth 100000 in
set_option maxHeartbeats 4000000 in
theorem qk_X2_put_0 (cx : rx_C p m c cX2_put 3 s args wX2_put RX2 D vwCl (tX cI cL) (zX b1 b2) wN A) (hret : rx_RI p l e rm_X2_put s m args below meth c cX2_put D vwCl (wX ad cI cL) A Q o) {w1 : Int32} {ls : Array Slot} {H : Heap} {locs : List Loc} {M : Me} (hw : rx_W D vwCl (wX ad cI cL) A s.heap M H locs) (hl : lv_has ls 3 [(0, .ref ((ad 4))), (1, .int w1)]) (hf : qf_X2_put w1 M = some o) : W p l e rm_X2_put s m args below meth c H locs 0 0 Q (F0 m 0 ls []) := by
  have hx := cx.1.1
  have hb := cx.1.2.1
  refine lv_aload_n hx hb dX2_put_0 rfl (lv_at hl 0 rfl) ?_
  obtain ⟨r1, M2, er1, hf⟩ := rx_clI hf
  refine rx_jVv cx hw (qc_X2_save l D ad cI cL b1 b2) (obX_4 ad cI cL) rfl rfl kfX2_save tw_520 ⟨Nat.le_of_ble_eq_true rfl, Nat.le_of_ble_eq_true rfl, rfl, rfl⟩ rfl hl.1 (Nat.le_of_ble_eq_true rfl) ⟨Nat.zero_le _, Nat.zero_le _⟩ dX2_put_1 rfl er1 (fun H locs hw => ?_)
  refine lv_iload_n hx hb dX2_put_4 rfl (lv_at hl 1 rfl) ?_
  refine lv_iconst (v := (-1)) hx hb dX2_put_5 ic_m1 ?_
  refine lv_icmp_eq hx hb dX2_put_6 rfl (fun hc => ?_) (fun hc => ?_)
  · have hf := rx_t hc hf
    exact (qk_X2_put_63 cx hret) hw (lv_sub hl [0] rfl) hf
  · have hf := rx_f hc hf
    refine lv_aload_n hx hb dX2_put_9 rfl (lv_at hl 0 rfl) ?_
    refine rx_getr cx hw (frX_4_10 ad cI cL) rfl (inT_X2) (Nat.le_of_ble_eq_true rfl) (.tail _ tw_201) dX2_put_10 ?_
    refine lv_aload_n hx hb dX2_put_13 rfl (lv_at hl 0 rfl) ?_
    obtain ⟨v3, ev3, hf⟩ := rx_vvI hf
    refine rx_geti cx hw (fiX_4_5 ad cI cL) rfl (inT_X2) (Nat.le_of_ble_eq_true rfl) (.tail _ tw_191) ev3 dX2_put_14 ?_
    refine lv_dup2_11 hx hb dX2_put_17 rfl rfl ?_
    obtain ⟨hv4, v4, ev4, hf⟩ := rx_ldI hf
    refine rx_iald cx hw (arX_35 ad cI cL) ⟨hv4, ev4⟩ dX2_put_18 ?_
    refine lv_iconst (v := 1) hx hb dX2_put_19 ic_1 ?_
    refine lv_isub hx hb dX2_put_20 ?_
    obtain ⟨hM5, M5, eM5, hf⟩ := rx_svI hf
    refine rx_iast cx hw (arX_35 ad cI cL) ⟨hM5, eM5⟩ dX2_put_21 (fun H locs hw => ?_)
    refine lv_aload_n hx hb dX2_put_22 rfl (lv_at hl 0 rfl) ?_
    refine rx_getr cx hw (frX_4_1 ad cI cL) rfl (inT_X2) (Nat.le_of_ble_eq_true rfl) (.tail _ tw_182) dX2_put_23 ?_
    refine rx_getrN cx hw (frX_2_1 ad cI cL) rfl (inT_X5) (Nat.le_of_ble_eq_true rfl) tn_133 dX2_put_26 ?_
    refine lv_aload_n hx hb dX2_put_29 rfl (lv_at hl 0 rfl) ?_
    refine rx_getr cx hw (frX_4_1 ad cI cL) rfl (inT_X2) (Nat.le_of_ble_eq_true rfl) (.tail _ tw_182) dX2_put_30 ?_
    refine rx_getrN cx hw (frX_2_1 ad cI cL) rfl (inT_X5) (Nat.le_of_ble_eq_true rfl) tn_133 dX2_put_33 ?_
    refine lv_aload_n hx hb dX2_put_36 rfl (lv_at hl 0 rfl) ?_
    refine rx_getr cx hw (frX_4_1 ad cI cL) rfl (inT_X2) (Nat.le_of_ble_eq_true rfl) (.tail _ tw_182) dX2_put_37 ?_
    obtain ⟨v6, ev6, hf⟩ := rx_vvI hf
    refine rx_getiN cx hw (fiX_2_9 ad cI cL) rfl (inT_X5) (Nat.le_of_ble_eq_true rfl) tn_146 ev6 dX2_put_40 ?_
    refine lv_iconst (v := 1) hx hb dX2_put_43 ic_1 ?_
    refine lv_isub hx hb dX2_put_44 ?_
    refine lv_bipush (v := 8) hx hb dX2_put_45 ib_8 ?_
    refine lv_imul hx hb dX2_put_47 ?_
    refine lv_iload_n hx hb dX2_put_48 rfl (lv_at hl 1 rfl) ?_
    refine lv_iadd hx hb dX2_put_49 ?_
    obtain ⟨r7, M8, er7, hf⟩ := rx_clI hf
    refine rx_jVi cx hw (qc_X3_rootOf l D ad cI cL b1 b2 (((v6 - 1) * 8) + w1)) (obX_3 ad cI cL) rfl rfl kfX3_rootOf tw_515 ⟨Nat.le_of_ble_eq_true rfl, Nat.le_of_ble_eq_true rfl, rfl, rfl⟩ rfl hl.1 (Nat.le_of_ble_eq_true rfl) ⟨Nat.zero_le _, Nat.zero_le _⟩ dX2_put_50 rfl er7 (fun H locs hw => ?_)
    refine lv_aload_n hx hb dX2_put_53 rfl (lv_at hl 0 rfl) ?_
    obtain ⟨v9, ev9, hf⟩ := rx_vvI hf
    refine rx_geti cx hw (fiX_4_5 ad cI cL) rfl (inT_X2) (Nat.le_of_ble_eq_true rfl) (.tail _ tw_191) ev9 dX2_put_54 ?_
    obtain ⟨r10, M11, er10, hf⟩ := rx_clI hf
    refine rx_jSNi cx hw (qc_X6_oneMan l D ad cI cL b1 b2 v9) kfX6_oneMan tn_524 ⟨Nat.le_of_ble_eq_true rfl, Nat.le_of_ble_eq_true rfl, rfl, rfl⟩ rfl hl.1 (Nat.le_of_ble_eq_true rfl) ⟨Nat.zero_le _, Nat.zero_le _⟩ dX2_put_57 rfl er10 (fun H locs hw => ?_)
    obtain ⟨r12, M13, er12, hf⟩ := rx_clI hf
    refine rx_jVv cx hw (qc_X3_setMen l D ad cI cL b1 b2 r7 r10) (obX_3 ad cI cL) rfl rfl kfX3_setMen tw_527 ⟨Nat.le_of_ble_eq_true rfl, Nat.le_of_ble_eq_true rfl, rfl, rfl⟩ rfl hl.1 (Nat.le_of_ble_eq_true rfl) ⟨Nat.zero_le _, Nat.zero_le _⟩ dX2_put_60 rfl er12 (fun H locs hw => ?_)
    exact (qk_X2_put_63 cx hret) hw (lv_sub hl [0] rfl) hf
end
set_option maxRecDepth 100000 in
theorem qc_X2_put (l : Launch) (D : va_G) (ad : Nat → Nat) (cI cL : ClassId) (b1 b2 : Nat) (w1 : Int32) : rx_MI l yX2_put wX2_put rm_X2_put D vwCl (wX ad cI cL) (tX cI cL) (zX b1 b2) wN [.ref (ad 4), .int w1] (fun M => qf_X2_put w1 M) :=
  rx_ofI (by decide) rfl wN_ok (Nat.le_of_ble_eq_true rfl) (fun _ _ _ _ _ _ _ _ _ _ _ _ _ cx hret hw hl hf => qk_X2_put_0 cx hret hw hl hf)

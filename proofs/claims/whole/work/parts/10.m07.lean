def rm_X2_reckonFinals : Room := { frames := 4, cells := 0, slots := 0, locals := 95 }
noncomputable def qo_X2_reckonFinals_2 (k28 : Me → Op)  (rec : Int32 → Me → Op) (w1 : Int32) (M : Me) : Op :=
  rx_vv (M 4 4) fun v1 => if v1 ≤ w1 then (k28 M) else (rx_ld M 34 3 w1 fun v2 => rx_sv M 36 3 w1 v2 fun M3 => rx_vv (w1 + 1) fun v4 => rec v4 M3)
noncomputable def qb_X2_reckonFinals_90 (k30 : Int32 → Me → Op) (w1 : Int32)  (M : Me) : Op :=
  rx_vv (w1 + 1) fun v1 => k30 v1 M
noncomputable def qo_X2_reckonFinals_30   (rec : Int32 → Me → Op) (w1 : Int32) (M : Me) : Op :=
  rx_vv (M 2 9) fun v1 => if (v1 * 8) ≤ w1 then (some (0, M)) else (rx_ld M 29 192 w1 fun v2 => if v2 = 0 then (qb_X2_reckonFinals_90 rec w1 M) else (rx_ld M 25 192 w1 fun v3 => if v3 = w1 then (rx_cl (qf_X5_finalWorth w1 M) fun r4 M5 => rx_cl (qf_X2_addFinals v2 r4 M5) fun r6 M7 => qb_X2_reckonFinals_90 rec w1 M7) else (qb_X2_reckonFinals_90 rec w1 M)))
noncomputable def qb_X2_reckonFinals_28    (M : Me) : Op :=
  rx_lp1 (qo_X2_reckonFinals_30) rx_FU 0 M
noncomputable def qf_X2_reckonFinals    (M : Me) : Op :=
  rx_lp1 (qo_X2_reckonFinals_2 (fun M => qb_X2_reckonFinals_28 M)) rx_FU 0 M
section
variable {p : Program} {l : Launch} {e : Env} {s : State} {m : MethodId} {args : Array Value} {below : List Frame} {meth : Method} {c : Code} {Q : State → Prop} {D : va_G} {A : Nat → Prop} {o : Int32 × Me} {ad : Nat → Nat} {cI cL : ClassId} {b1 b2 : Nat}
set_option maxRecDepth 100000 in
set_option maxHeartbeats 4000000 in
theorem qk_X2_reckonFinals_2 (cx : rx_C p m c cX2_reckonFinals 3 s args wX2_reckonFinals RX2 D vwCl (tX cI cL) (zX b1 b2) wN A) (hret : rx_RV p l e rm_X2_reckonFinals s m args below meth c cX2_reckonFinals D vwCl (wX ad cI cL) A Q o) {k28 : Me → Op} (h28 : ∀ {ls : Array Slot} {H : Heap} {locs : List Loc} {M : Me}, rx_W D vwCl (wX ad cI cL) A s.heap M H locs → lv_has ls 3 [(0, .ref ((ad 4)))] → k28 M = some o → W p l e rm_X2_reckonFinals s m args below meth c H locs 0 0 Q (F0 m 28 ls [])) : ∀ (n : Nat) {w1 : Int32} {ls : Array Slot} {H : Heap} {locs : List Loc} {M : Me}, rx_W D vwCl (wX ad cI cL) A s.heap M H locs → lv_has ls 3 [(0, .ref ((ad 4))), (1, .int w1)] → rx_lp1 (qo_X2_reckonFinals_2 k28) n w1 M = some o → W p l e rm_X2_reckonFinals s m args below meth c H locs 0 0 Q (F0 m 2 ls []) := by
  have hx := cx.1.1
  have hb := cx.1.2.1
  intro n
  induction n with
  | zero => intro w1 ls H locs M hw hl hf; exact rx_no hf
  | succ n ih =>
    intro w1 ls H locs M hw hl hf
    have hf : qo_X2_reckonFinals_2 k28 (rx_lp1 (qo_X2_reckonFinals_2 k28) n) w1 M = some o := hf
    refine lv_iload_n hx hb dX2_reckonFinals_2 rfl (lv_at hl 1 rfl) ?_
    refine lv_aload_n hx hb dX2_reckonFinals_3 rfl (lv_at hl 0 rfl) ?_
    obtain ⟨v1, ev1, hf⟩ := rx_vvI hf
    refine rx_geti cx hw (fiX_4_4 ad cI cL) rfl (inT_X2) (Nat.le_of_ble_eq_true rfl) (.tail _ tw_187) ev1 dX2_reckonFinals_4 ?_
    refine lv_icmp_ge hx hb dX2_reckonFinals_7 rfl (fun hc => ?_) (fun hc => ?_)
    · have hf := rx_t hc hf
      exact h28 hw (lv_sub hl [0] rfl) hf
    · have hf := rx_f hc hf
      refine lv_aload_n hx hb dX2_reckonFinals_10 rfl (lv_at hl 0 rfl) ?_
      refine rx_getr cx hw (frX_4_11 ad cI cL) rfl (inT_X2) (Nat.le_of_ble_eq_true rfl) (.tail _ tw_203) dX2_reckonFinals_11 ?_
      refine lv_iload_n hx hb dX2_reckonFinals_14 rfl (lv_at hl 1 rfl) ?_
      refine lv_aload_n hx hb dX2_reckonFinals_15 rfl (lv_at hl 0 rfl) ?_
      refine rx_getr cx hw (frX_4_9 ad cI cL) rfl (inT_X2) (Nat.le_of_ble_eq_true rfl) (.tail _ tw_199) dX2_reckonFinals_16 ?_
      refine lv_iload_n hx hb dX2_reckonFinals_19 rfl (lv_at hl 1 rfl) ?_
      obtain ⟨hv2, v2, ev2, hf⟩ := rx_ldI hf
      refine rx_iald cx hw (arX_34 ad cI cL) ⟨hv2, ev2⟩ dX2_reckonFinals_20 ?_
      obtain ⟨hM3, M3, eM3, hf⟩ := rx_svI hf
      refine rx_iast cx hw (arX_36 ad cI cL) ⟨hM3, eM3⟩ dX2_reckonFinals_21 (fun H locs hw => ?_)
      obtain ⟨v4, ev4, hf⟩ := rx_vvI hf
      refine lv_iinc (lv' := [(1, .int v4), (0, .ref ((ad 4)))]) hx hb dX2_reckonFinals_22 hl (k := 1) rfl (rx_inc ic_1 ev4) (Nat.le_of_ble_eq_true rfl) rfl (fun ls hl => ?_)
      refine lv_goto hx hb dX2_reckonFinals_25 rfl ?_
      exact ih hw (lv_sub hl [1, 0] rfl) hf
set_option maxRecDepth 100000 in
set_option maxHeartbeats 4000000 in
theorem qk_X2_reckonFinals_90 (cx : rx_C p m c cX2_reckonFinals 3 s args wX2_reckonFinals RX2 D vwCl (tX cI cL) (zX b1 b2) wN A) (hret : rx_RV p l e rm_X2_reckonFinals s m args below meth c cX2_reckonFinals D vwCl (wX ad cI cL) A Q o) {w1 : Int32} {k30 : Int32 → Me → Op} (h30 : ∀ {a1 : Int32} {ls : Array Slot} {H : Heap} {locs : List Loc} {M : Me}, rx_W D vwCl (wX ad cI cL) A s.heap M H locs → lv_has ls 3 [(0, .ref ((ad 4))), (1, .int a1)] → k30 a1 M = some o → W p l e rm_X2_reckonFinals s m args below meth c H locs 0 0 Q (F0 m 30 ls [])) {ls : Array Slot} {H : Heap} {locs : List Loc} {M : Me} (hw : rx_W D vwCl (wX ad cI cL) A s.heap M H locs) (hl : lv_has ls 3 [(0, .ref ((ad 4))), (1, .int w1)]) (hf : qb_X2_reckonFinals_90 k30 w1 M = some o) : W p l e rm_X2_reckonFinals s m args below meth c H locs 0 0 Q (F0 m 90 ls []) := by
  have hx := cx.1.1
  have hb := cx.1.2.1
  obtain ⟨v1, ev1, hf⟩ := rx_vvI hf
  refine lv_iinc (lv' := [(1, .int v1), (0, .ref ((ad 4)))]) hx hb dX2_reckonFinals_90 hl (k := 1) rfl (rx_inc ic_1 ev1) (Nat.le_of_ble_eq_true rfl) rfl (fun ls hl => ?_)
  refine lv_goto hx hb dX2_reckonFinals_93 rfl ?_
  exact h30 hw (lv_sub hl [1, 0] rfl) hf
set_option maxRecDepth 100000 in
set_option maxHeartbeats 4000000 in
theorem qk_X2_reckonFinals_30 (cx : rx_C p m c cX2_reckonFinals 3 s args wX2_reckonFinals RX2 D vwCl (tX cI cL) (zX b1 b2) wN A) (hret : rx_RV p l e rm_X2_reckonFinals s m args below meth c cX2_reckonFinals D vwCl (wX ad cI cL) A Q o) : ∀ (n : Nat) {w1 : Int32} {ls : Array Slot} {H : Heap} {locs : List Loc} {M : Me}, rx_W D vwCl (wX ad cI cL) A s.heap M H locs → lv_has ls 3 [(0, .ref ((ad 4))), (1, .int w1)] → rx_lp1 (qo_X2_reckonFinals_30) n w1 M = some o → W p l e rm_X2_reckonFinals s m args below meth c H locs 0 0 Q (F0 m 30 ls []) := by
  have hx := cx.1.1
  have hb := cx.1.2.1
  intro n
  induction n with
  | zero => intro w1 ls H locs M hw hl hf; exact rx_no hf
  | succ n ih =>
    intro w1 ls H locs M hw hl hf
    have hf : qo_X2_reckonFinals_30 (rx_lp1 (qo_X2_reckonFinals_30) n) w1 M = some o := hf
    refine lv_iload_n hx hb dX2_reckonFinals_30 rfl (lv_at hl 1 rfl) ?_
    refine lv_aload_n hx hb dX2_reckonFinals_31 rfl (lv_at hl 0 rfl) ?_
    refine rx_getr cx hw (frX_4_1 ad cI cL) rfl (inT_X2) (Nat.le_of_ble_eq_true rfl) (.tail _ tw_182) dX2_reckonFinals_32 ?_
    obtain ⟨v1, ev1, hf⟩ := rx_vvI hf
    refine rx_getiN cx hw (fiX_2_9 ad cI cL) rfl (inT_X5) (Nat.le_of_ble_eq_true rfl) tn_146 ev1 dX2_reckonFinals_35 ?_
    refine lv_bipush (v := 8) hx hb dX2_reckonFinals_38 ib_8 ?_
    refine lv_imul hx hb dX2_reckonFinals_40 ?_
    refine lv_icmp_ge hx hb dX2_reckonFinals_41 rfl (fun hc => ?_) (fun hc => ?_)
    · have hf := rx_t hc hf
      exact rx_retv hret hw hf dX2_reckonFinals_96
    · have hf := rx_f hc hf
      refine lv_aload_n hx hb dX2_reckonFinals_44 rfl (lv_at hl 0 rfl) ?_
      refine rx_getr cx hw (frX_4_1 ad cI cL) rfl (inT_X2) (Nat.le_of_ble_eq_true rfl) (.tail _ tw_182) dX2_reckonFinals_45 ?_
      refine rx_getrN cx hw (frX_2_1 ad cI cL) rfl (inT_X5) (Nat.le_of_ble_eq_true rfl) tn_133 dX2_reckonFinals_48 ?_
      refine rx_getrN cx hw (frX_3_4 ad cI cL) rfl (inT_X3) (Nat.le_of_ble_eq_true rfl) tn_95 dX2_reckonFinals_51 ?_
      refine lv_iload_n hx hb dX2_reckonFinals_54 rfl (lv_at hl 1 rfl) ?_
      obtain ⟨hv2, v2, ev2, hf⟩ := rx_ldI hf
      refine rx_iald cx hw (arX_29 ad cI cL) ⟨hv2, ev2⟩ dX2_reckonFinals_55 ?_
      refine lv_istore_n (lv' := [(2, .int v2), (0, .ref ((ad 4))), (1, .int w1)]) hx hb dX2_reckonFinals_56 rfl hl (Nat.le_of_ble_eq_true rfl) rfl (fun ls hl => ?_)
      refine lv_iload_n hx hb dX2_reckonFinals_57 rfl (lv_at hl 0 rfl) ?_
      refine lv_if_eq hx hb dX2_reckonFinals_58 rfl (fun hc => ?_) (fun hc => ?_)
      · have hf := rx_t hc hf
        exact (qk_X2_reckonFinals_90 cx hret ih) hw (lv_sub hl [1, 2] rfl) hf
      · have hf := rx_f hc hf
        refine lv_aload_n hx hb dX2_reckonFinals_61 rfl (lv_at hl 1 rfl) ?_
        refine rx_getr cx hw (frX_4_1 ad cI cL) rfl (inT_X2) (Nat.le_of_ble_eq_true rfl) (.tail _ tw_182) dX2_reckonFinals_62 ?_
        refine rx_getrN cx hw (frX_2_1 ad cI cL) rfl (inT_X5) (Nat.le_of_ble_eq_true rfl) tn_133 dX2_reckonFinals_65 ?_
        refine rx_getrN cx hw (frX_3_0 ad cI cL) rfl (inT_X3) (Nat.le_of_ble_eq_true rfl) tn_84 dX2_reckonFinals_68 ?_
        refine lv_iload_n hx hb dX2_reckonFinals_71 rfl (lv_at hl 2 rfl) ?_
        obtain ⟨hv3, v3, ev3, hf⟩ := rx_ldI hf
        refine rx_iald cx hw (arX_25 ad cI cL) ⟨hv3, ev3⟩ dX2_reckonFinals_72 ?_
        refine lv_iload_n hx hb dX2_reckonFinals_73 rfl (lv_at hl 2 rfl) ?_
        refine lv_icmp_ne hx hb dX2_reckonFinals_74 rfl (fun hc => ?_) (fun hc => ?_)
        · have hf := rx_f hc hf
          exact (qk_X2_reckonFinals_90 cx hret ih) hw (lv_sub hl [1, 2] rfl) hf
        · have hf := rx_t hc hf
          refine lv_aload_n hx hb dX2_reckonFinals_77 rfl (lv_at hl 1 rfl) ?_
          refine lv_iload_n hx hb dX2_reckonFinals_78 rfl (lv_at hl 0 rfl) ?_
          refine lv_aload_n hx hb dX2_reckonFinals_79 rfl (lv_at hl 1 rfl) ?_
          refine rx_getr cx hw (frX_4_1 ad cI cL) rfl (inT_X2) (Nat.le_of_ble_eq_true rfl) (.tail _ tw_182) dX2_reckonFinals_80 ?_
          refine lv_iload_n hx hb dX2_reckonFinals_83 rfl (lv_at hl 2 rfl) ?_
          obtain ⟨r4, M5, er4, hf⟩ := rx_clI hf
          refine rx_jVi cx hw (qc_X5_finalWorth l D ad cI cL b1 b2 w1) (obX_2 ad cI cL) rfl rfl kfX5_finalWorth tw_596 ⟨Nat.le_of_ble_eq_true rfl, Nat.le_of_ble_eq_true rfl, rfl, rfl⟩ rfl hl.1 (Nat.le_of_ble_eq_true rfl) ⟨Nat.zero_le _, Nat.zero_le _⟩ dX2_reckonFinals_84 rfl er4 (fun H locs hw => ?_)
          obtain ⟨r6, M7, er6, hf⟩ := rx_clI hf
          refine rx_jVv cx hw (qc_X2_addFinals l D ad cI cL b1 b2 v2 r4) (obX_4 ad cI cL) rfl rfl kfX2_addFinals tw_608 ⟨Nat.le_of_ble_eq_true rfl, Nat.le_of_ble_eq_true rfl, rfl, rfl⟩ rfl hl.1 (Nat.le_of_ble_eq_true rfl) ⟨Nat.zero_le _, Nat.zero_le _⟩ dX2_reckonFinals_87 rfl er6 (fun H locs hw => ?_)
          exact (qk_X2_reckonFinals_90 cx hret ih) hw (lv_sub hl [1, 2] rfl) hf
set_option maxRecDepth 100000 in
set_option maxHeartbeats 4000000 in
theorem qk_X2_reckonFinals_28 (cx : rx_C p m c cX2_reckonFinals 3 s args wX2_reckonFinals RX2 D vwCl (tX cI cL) (zX b1 b2) wN A) (hret : rx_RV p l e rm_X2_reckonFinals s m args below meth c cX2_reckonFinals D vwCl (wX ad cI cL) A Q o) {ls : Array Slot} {H : Heap} {locs : List Loc} {M : Me} (hw : rx_W D vwCl (wX ad cI cL) A s.heap M H locs) (hl : lv_has ls 3 [(0, .ref ((ad 4)))]) (hf : qb_X2_reckonFinals_28 M = some o) : W p l e rm_X2_reckonFinals s m args below meth c H locs 0 0 Q (F0 m 28 ls []) := by
  have hx := cx.1.1
  have hb := cx.1.2.1
  refine lv_iconst (v := 0) hx hb dX2_reckonFinals_28 ic_0 ?_
  refine lv_istore_n (lv' := [(1, .int 0), (0, .ref ((ad 4)))]) hx hb dX2_reckonFinals_29 rfl hl (Nat.le_of_ble_eq_true rfl) rfl (fun ls hl => ?_)
  exact (qk_X2_reckonFinals_30 cx hret rx_FU) hw (lv_sub hl [1, 0] rfl) hf
set_option maxRecDepth 100000 in
set_option maxHeartbeats 4000000 in
theorem qk_X2_reckonFinals_0 (cx : rx_C p m c cX2_reckonFinals 3 s args wX2_reckonFinals RX2 D vwCl (tX cI cL) (zX b1 b2) wN A) (hret : rx_RV p l e rm_X2_reckonFinals s m args below meth c cX2_reckonFinals D vwCl (wX ad cI cL) A Q o) {ls : Array Slot} {H : Heap} {locs : List Loc} {M : Me} (hw : rx_W D vwCl (wX ad cI cL) A s.heap M H locs) (hl : lv_has ls 3 [(0, .ref ((ad 4)))]) (hf : qf_X2_reckonFinals M = some o) : W p l e rm_X2_reckonFinals s m args below meth c H locs 0 0 Q (F0 m 0 ls []) := by
  have hx := cx.1.1
  have hb := cx.1.2.1
  refine lv_iconst (v := 0) hx hb dX2_reckonFinals_0 ic_0 ?_
  refine lv_istore_n (lv' := [(1, .int 0), (0, .ref ((ad 4)))]) hx hb dX2_reckonFinals_1 rfl hl (Nat.le_of_ble_eq_true rfl) rfl (fun ls hl => ?_)
  exact (qk_X2_reckonFinals_2 cx hret (qk_X2_reckonFinals_28 cx hret) rx_FU) hw (lv_sub hl [1, 0] rfl) hf
end
set_option maxRecDepth 100000 in
theorem qc_X2_reckonFinals (l : Launch) (D : va_G) (ad : Nat → Nat) (cI cL : ClassId) (b1 b2 : Nat) : rx_MV l yX2_reckonFinals wX2_reckonFinals rm_X2_reckonFinals D vwCl (wX ad cI cL) (tX cI cL) (zX b1 b2) wN [.ref (ad 4)] (fun M => qf_X2_reckonFinals M) :=
  rx_ofV (by decide) rfl wN_ok (Nat.le_of_ble_eq_true rfl) (fun _ _ _ _ _ _ _ _ _ _ _ _ _ cx hret hw hl hf => qk_X2_reckonFinals_0 cx hret hw hl hf)
def rm_X6_player : Room := { frames := 5, cells := 0, slots := 0, locals := 117 }
noncomputable def qf_X6_player  (w1 : Int32) (w2 : Int32)  (M : Me) : Op :=
  rx_vv (M 4 2) fun v1 => if v1 = 0 then (some ((-1), M)) else (if w1 < 0 then (some ((-1), M)) else (rx_vv (M 4 4) fun v2 => if w1 < v2 then (if w2 = 0 then (rx_ld M 34 3 w1 fun v3 => some (v3, M)) else (if w2 = 1 then (rx_ld M 35 3 w1 fun v4 => some (v4, M)) else (if w2 = 2 then (rx_cl (qf_X2_reckonFinals M) fun r5 M6 => rx_ld M6 36 3 w1 fun v7 => some (v7, M6)) else (some ((-1), M))))) else (some ((-1), M))))
section
variable {p : Program} {l : Launch} {e : Env} {s : State} {m : MethodId} {args : Array Value} {below : List Frame} {meth : Method} {c : Code} {Q : State → Prop} {D : va_G} {A : Nat → Prop} {o : Int32 × Me} {ad : Nat → Nat} {cI cL : ClassId} {b1 b2 : Nat}
set_option maxRecDepth 100000 in
set_option maxHeartbeats 4000000 in
theorem qk_X6_player_0 (cx : rx_C p m c cX6_player 3 s args wX6_player RX6 D vwCl (tX cI cL) (zX b1 b2) wN A) (hret : rx_RI p l e rm_X6_player s m args below meth c cX6_player D vwCl (wX ad cI cL) A Q o) {w1 : Int32} {w2 : Int32} {ls : Array Slot} {H : Heap} {locs : List Loc} {M : Me} (hw : rx_W D vwCl (wX ad cI cL) A s.heap M H locs) (hl : lv_has ls 3 [(0, .ref ((ad 0))), (1, .int w1), (2, .int w2)]) (hf : qf_X6_player w1 w2 M = some o) : W p l e rm_X6_player s m args below meth c H locs 0 0 Q (F0 m 0 ls []) := by
  have hx := cx.1.1
  have hb := cx.1.2.1
  refine lv_aload_n hx hb dX6_player_0 rfl (lv_at hl 0 rfl) ?_
  refine rx_getr cx hw (frX_0_2 ad cI cL) rfl (inT_X6) (Nat.le_of_ble_eq_true rfl) (.tail _ tw_306) dX6_player_1 ?_
  obtain ⟨v1, ev1, hf⟩ := rx_vvI hf
  refine rx_getiN cx hw (fiX_4_2 ad cI cL) rfl (inT_X2) (Nat.le_of_ble_eq_true rfl) tn_184 ev1 dX6_player_4 ?_
  refine lv_if_eq hx hb dX6_player_7 rfl (fun hc => ?_) (fun hc => ?_)
  · have hf := rx_t hc hf
    refine lv_iconst (v := (-1)) hx hb dX6_player_25 ic_m1 ?_
    exact rx_reti hret hw hf dX6_player_26
  · have hf := rx_f hc hf
    refine lv_iload_n hx hb dX6_player_10 rfl (lv_at hl 1 rfl) ?_
    refine lv_if_lt hx hb dX6_player_11 rfl (fun hc => ?_) (fun hc => ?_)
    · have hf := rx_t hc hf
      refine lv_iconst (v := (-1)) hx hb dX6_player_25 ic_m1 ?_
      exact rx_reti hret hw hf dX6_player_26
    · have hf := rx_f hc hf
      refine lv_iload_n hx hb dX6_player_14 rfl (lv_at hl 1 rfl) ?_
      refine lv_aload_n hx hb dX6_player_15 rfl (lv_at hl 0 rfl) ?_
      refine rx_getr cx hw (frX_0_2 ad cI cL) rfl (inT_X6) (Nat.le_of_ble_eq_true rfl) (.tail _ tw_306) dX6_player_16 ?_
      obtain ⟨v2, ev2, hf⟩ := rx_vvI hf
      refine rx_getiN cx hw (fiX_4_4 ad cI cL) rfl (inT_X2) (Nat.le_of_ble_eq_true rfl) tn_189 ev2 dX6_player_19 ?_
      refine lv_icmp_lt hx hb dX6_player_22 rfl (fun hc => ?_) (fun hc => ?_)
      · have hf := rx_t hc hf
        refine lv_iload_n hx hb dX6_player_27 rfl (lv_at hl 2 rfl) ?_
        by_cases hs0 : w2 = 0
        · have hf := rx_t hs0 hf
          refine lv_tableIn hx hb dX6_player_28 (by rw [hs0]; decide) (by rw [hs0]; decide) (by rw [hs0]; rfl) rfl ?_
          refine lv_aload_n hx hb dX6_player_56 rfl (lv_at hl 0 rfl) ?_
          refine rx_getr cx hw (frX_0_2 ad cI cL) rfl (inT_X6) (Nat.le_of_ble_eq_true rfl) (.tail _ tw_306) dX6_player_57 ?_
          refine rx_getrN cx hw (frX_4_9 ad cI cL) rfl (inT_X2) (Nat.le_of_ble_eq_true rfl) tn_200 dX6_player_60 ?_
          refine lv_iload_n hx hb dX6_player_63 rfl (lv_at hl 1 rfl) ?_
          obtain ⟨hv3, v3, ev3, hf⟩ := rx_ldI hf
          refine rx_iald cx hw (arX_34 ad cI cL) ⟨hv3, ev3⟩ dX6_player_64 ?_
          exact rx_reti hret hw hf dX6_player_65
        · have hf := rx_f hs0 hf
          by_cases hs1 : w2 = 1
          · have hf := rx_t hs1 hf
            refine lv_tableIn hx hb dX6_player_28 (by rw [hs1]; decide) (by rw [hs1]; decide) (by rw [hs1]; rfl) rfl ?_
            refine lv_aload_n hx hb dX6_player_66 rfl (lv_at hl 0 rfl) ?_
            refine rx_getr cx hw (frX_0_2 ad cI cL) rfl (inT_X6) (Nat.le_of_ble_eq_true rfl) (.tail _ tw_306) dX6_player_67 ?_
            refine rx_getrN cx hw (frX_4_10 ad cI cL) rfl (inT_X2) (Nat.le_of_ble_eq_true rfl) tn_202 dX6_player_70 ?_
            refine lv_iload_n hx hb dX6_player_73 rfl (lv_at hl 1 rfl) ?_
            obtain ⟨hv4, v4, ev4, hf⟩ := rx_ldI hf
            refine rx_iald cx hw (arX_35 ad cI cL) ⟨hv4, ev4⟩ dX6_player_74 ?_
            exact rx_reti hret hw hf dX6_player_75
          · have hf := rx_f hs1 hf
            by_cases hs2 : w2 = 2
            · have hf := rx_t hs2 hf
              refine lv_tableIn hx hb dX6_player_28 (by rw [hs2]; decide) (by rw [hs2]; decide) (by rw [hs2]; rfl) rfl ?_
              refine lv_aload_n hx hb dX6_player_76 rfl (lv_at hl 0 rfl) ?_
              refine rx_getr cx hw (frX_0_2 ad cI cL) rfl (inT_X6) (Nat.le_of_ble_eq_true rfl) (.tail _ tw_306) dX6_player_77 ?_
              obtain ⟨r5, M6, er5, hf⟩ := rx_clI hf
              refine rx_jVv cx hw (qc_X2_reckonFinals l D ad cI cL b1 b2) (obX_4 ad cI cL) rfl rfl kfX2_reckonFinals tw_592 ⟨Nat.le_of_ble_eq_true rfl, Nat.le_of_ble_eq_true rfl, rfl, rfl⟩ rfl hl.1 (Nat.le_of_ble_eq_true rfl) ⟨Nat.zero_le _, Nat.zero_le _⟩ dX6_player_80 rfl er5 (fun H locs hw => ?_)
              refine lv_aload_n hx hb dX6_player_83 rfl (lv_at hl 0 rfl) ?_
              refine rx_getr cx hw (frX_0_2 ad cI cL) rfl (inT_X6) (Nat.le_of_ble_eq_true rfl) (.tail _ tw_306) dX6_player_84 ?_
              refine rx_getrN cx hw (frX_4_11 ad cI cL) rfl (inT_X2) (Nat.le_of_ble_eq_true rfl) tn_205 dX6_player_87 ?_
              refine lv_iload_n hx hb dX6_player_90 rfl (lv_at hl 1 rfl) ?_
              obtain ⟨hv7, v7, ev7, hf⟩ := rx_ldI hf
              refine rx_iald cx hw (arX_36 ad cI cL) ⟨hv7, ev7⟩ dX6_player_91 ?_
              exact rx_reti hret hw hf dX6_player_92
            · have hf := rx_f hs2 hf
              refine lv_tableOut hx hb dX6_player_28 (by have := lv_neT hs0 it_0; have := lv_neT hs1 it_1; have := lv_neT hs2 it_2; omega) rfl ?_
              refine lv_iconst (v := (-1)) hx hb dX6_player_93 ic_m1 ?_
              exact rx_reti hret hw hf dX6_player_94
      · have hf := rx_f hc hf
        refine lv_iconst (v := (-1)) hx hb dX6_player_25 ic_m1 ?_
        exact rx_reti hret hw hf dX6_player_26
end
set_option maxRecDepth 100000 in
theorem qc_X6_player (l : Launch) (D : va_G) (ad : Nat → Nat) (cI cL : ClassId) (b1 b2 : Nat) (w1 : Int32) (w2 : Int32) : rx_MI l yX6_player wX6_player rm_X6_player D vwCl (wX ad cI cL) (tX cI cL) (zX b1 b2) wN [.ref (ad 0), .int w1, .int w2] (fun M => qf_X6_player w1 w2 M) :=
  rx_ofI (by decide) rfl wN_ok (Nat.le_of_ble_eq_true rfl) (fun _ _ _ _ _ _ _ _ _ _ _ _ _ cx hret hw hl hf => qk_X6_player_0 cx hret hw hl hf)
def rm_X4_makeNextLine_5_6 : Room := { frames := 5, cells := 0, slots := 0, locals := 119 }
noncomputable def qo_X4_makeNextLine_5_6_14 (k31 : Int32 → Me → Op) (k53 : Me → Op)  (rec : Int32 → Me → Op) (w2 : Int32) (M : Me) : Op :=
  if 8 ≤ w2 then (k53 M) else (rx_cl (qf_X2_mayPut w2 M) fun r1 M2 => if r1 = 0 then (rx_vv (w2 + 1) fun v3 => rec v3 M2) else (k31 w2 M2))
noncomputable def qb_X4_makeNextLine_5_6_31  (w2 : Int32)  (M : Me) : Op :=
  rx_vv (rx_st M 6 2 w2) fun M1 => rx_cl (qf_X2_put w2 M1) fun r2 M3 => rx_zb 1 (some (1, M3))
noncomputable def qb_X4_makeNextLine_5_6_65    (M : Me) : Op :=
  rx_vv (M 4 6) fun v1 => rx_vv (M 6 1) fun v2 => rx_cl (qf_X5_nextFit v1 (v2 + 1) M) fun r3 M4 => rx_vv (rx_st M4 6 1 r3) fun M5 => rx_vv (M5 6 1) fun v6 => if v6 = (-1) then (rx_zb 0 (some (0, M5))) else (rx_vv (M5 6 1) fun v7 => rx_cl (qf_X2_lay v7 M5) fun r8 M9 => rx_cl (qf_X2_put (-1) M9) fun r10 M11 => rx_vv (rx_st M11 6 3 1) fun M12 => rx_vv (rx_st M12 6 2 (-1)) fun M13 => rx_zb 1 (some (1, M13)))
noncomputable def qb_X4_makeNextLine_5_6_53    (M : Me) : Op :=
  rx_cl (qf_X2_stepBack M) fun r1 M2 => rx_vv (rx_st M2 6 3 0) fun M3 => qb_X4_makeNextLine_5_6_65 M3
noncomputable def qf_X4_makeNextLine_5_6    (M : Me) : Op :=
  rx_vv (M 6 3) fun v1 => if v1 = 0 then (qb_X4_makeNextLine_5_6_65 M) else (rx_vv (M 6 2) fun v2 => rx_vv (v2 + 1) fun v3 => rx_lp1 (qo_X4_makeNextLine_5_6_14 (fun a2 M => qb_X4_makeNextLine_5_6_31 a2 M) (fun M => qb_X4_makeNextLine_5_6_53 M)) rx_FU v3 M)
section
variable {p : Program} {l : Launch} {e : Env} {s : State} {m : MethodId} {args : Array Value} {below : List Frame} {meth : Method} {c : Code} {Q : State → Prop} {D : va_G} {A : Nat → Prop} {o : Int32 × Me} {ad : Nat → Nat} {cI cL : ClassId} {b1 b2 : Nat}
set_option maxRecDepth 100000 in
set_option maxHeartbeats 4000000 in
theorem qk_X4_makeNextLine_5_6_14 (cx : rx_C p m c cX4_makeNextLine 3 s args wX4_makeNextLine RX4 D vwCl (tX cI cL) (zX b1 b2) wN A) (hret : rx_RZ p l e rm_X4_makeNextLine_5_6 s m args below meth c cX4_makeNextLine D vwCl (wX ad cI cL) A Q o) {k31 : Int32 → Me → Op} (h31 : ∀ {a2 : Int32} {ls : Array Slot} {H : Heap} {locs : List Loc} {M : Me}, rx_W D vwCl (wX ad cI cL) A s.heap M H locs → lv_has ls 3 [(0, .ref ((ad 5))), (1, .ref ((ad 6))), (2, .int a2)] → k31 a2 M = some o → W p l e rm_X4_makeNextLine_5_6 s m args below meth c H locs 0 0 Q (F0 m 31 ls [])) {k53 : Me → Op} (h53 : ∀ {ls : Array Slot} {H : Heap} {locs : List Loc} {M : Me}, rx_W D vwCl (wX ad cI cL) A s.heap M H locs → lv_has ls 3 [(0, .ref ((ad 5))), (1, .ref ((ad 6)))] → k53 M = some o → W p l e rm_X4_makeNextLine_5_6 s m args below meth c H locs 0 0 Q (F0 m 53 ls [])) : ∀ (n : Nat) {w2 : Int32} {ls : Array Slot} {H : Heap} {locs : List Loc} {M : Me}, rx_W D vwCl (wX ad cI cL) A s.heap M H locs → lv_has ls 3 [(0, .ref ((ad 5))), (1, .ref ((ad 6))), (2, .int w2)] → rx_lp1 (qo_X4_makeNextLine_5_6_14 k31 k53) n w2 M = some o → W p l e rm_X4_makeNextLine_5_6 s m args below meth c H locs 0 0 Q (F0 m 14 ls []) := by
  have hx := cx.1.1
  have hb := cx.1.2.1
  intro n
  induction n with
  | zero => intro w2 ls H locs M hw hl hf; exact rx_no hf
  | succ n ih =>
    intro w2 ls H locs M hw hl hf
    have hf : qo_X4_makeNextLine_5_6_14 k31 k53 (rx_lp1 (qo_X4_makeNextLine_5_6_14 k31 k53) n) w2 M = some o := hf
    refine lv_iload_n hx hb dX4_makeNextLine_14 rfl (lv_at hl 2 rfl) ?_
    refine lv_bipush (v := 8) hx hb dX4_makeNextLine_15 ib_8 ?_
    refine lv_icmp_ge hx hb dX4_makeNextLine_17 rfl (fun hc => ?_) (fun hc => ?_)
    · have hf := rx_t hc hf
      exact h53 hw (lv_sub hl [0, 1] rfl) hf
    · have hf := rx_f hc hf
      refine lv_aload_n hx hb dX4_makeNextLine_20 rfl (lv_at hl 0 rfl) ?_
      refine rx_getr cx hw (frX_5_0 ad cI cL) rfl (inT_X4) (Nat.le_of_ble_eq_true rfl) (.tail _ tw_282) dX4_makeNextLine_21 ?_
      refine lv_iload_n hx hb dX4_makeNextLine_24 rfl (lv_at hl 2 rfl) ?_
      obtain ⟨r1, M2, er1, hf⟩ := rx_clI hf
      refine rx_jVi cx hw (qc_X2_mayPut l D ad cI cL b1 b2 w2) (obX_4 ad cI cL) rfl rfl kfX2_mayPut tw_629 ⟨Nat.le_of_ble_eq_true rfl, Nat.le_of_ble_eq_true rfl, rfl, rfl⟩ rfl hl.1 (Nat.le_of_ble_eq_true rfl) ⟨Nat.zero_le _, Nat.zero_le _⟩ dX4_makeNextLine_25 rfl er1 (fun H locs hw => ?_)
      refine lv_if_eq hx hb dX4_makeNextLine_28 rfl (fun hc => ?_) (fun hc => ?_)
      · have hf := rx_t hc hf
        obtain ⟨v3, ev3, hf⟩ := rx_vvI hf
        refine lv_iinc (lv' := [(2, .int v3), (0, .ref ((ad 5))), (1, .ref ((ad 6)))]) hx hb dX4_makeNextLine_47 hl (k := 2) rfl (rx_inc ic_1 ev3) (Nat.le_of_ble_eq_true rfl) rfl (fun ls hl => ?_)
        refine lv_goto hx hb dX4_makeNextLine_50 rfl ?_
        exact ih hw (lv_sub hl [1, 2, 0] rfl) hf
      · have hf := rx_f hc hf
        exact h31 hw hl hf
set_option maxRecDepth 100000 in
set_option maxHeartbeats 4000000 in
theorem qk_X4_makeNextLine_5_6_31 (cx : rx_C p m c cX4_makeNextLine 3 s args wX4_makeNextLine RX4 D vwCl (tX cI cL) (zX b1 b2) wN A) (hret : rx_RZ p l e rm_X4_makeNextLine_5_6 s m args below meth c cX4_makeNextLine D vwCl (wX ad cI cL) A Q o) {w2 : Int32} {ls : Array Slot} {H : Heap} {locs : List Loc} {M : Me} (hw : rx_W D vwCl (wX ad cI cL) A s.heap M H locs) (hl : lv_has ls 3 [(0, .ref ((ad 5))), (1, .ref ((ad 6))), (2, .int w2)]) (hf : qb_X4_makeNextLine_5_6_31 w2 M = some o) : W p l e rm_X4_makeNextLine_5_6 s m args below meth c H locs 0 0 Q (F0 m 31 ls []) := by
  have hx := cx.1.1
  have hb := cx.1.2.1
  refine lv_aload_n hx hb dX4_makeNextLine_31 rfl (lv_at hl 1 rfl) ?_
  refine lv_iload_n hx hb dX4_makeNextLine_32 rfl (lv_at hl 2 rfl) ?_
  obtain ⟨M1, eM1, hf⟩ := rx_vvI hf
  refine rx_putiN cx hw (fiX_6_2 ad cI cL) rfl (inT_X1) tyX1 tyX1_ok nmX1 (Nat.le_of_ble_eq_true rfl) tn_251 rfl rfl rfl eM1 dX4_makeNextLine_33 (fun H locs hw => ?_)
  refine lv_aload_n hx hb dX4_makeNextLine_36 rfl (lv_at hl 0 rfl) ?_
  refine rx_getr cx hw (frX_5_0 ad cI cL) rfl (inT_X4) (Nat.le_of_ble_eq_true rfl) (.tail _ tw_282) dX4_makeNextLine_37 ?_
  refine lv_iload_n hx hb dX4_makeNextLine_40 rfl (lv_at hl 2 rfl) ?_
  obtain ⟨r2, M3, er2, hf⟩ := rx_clI hf
  refine rx_jVi cx hw (qc_X2_put l D ad cI cL b1 b2 w2) (obX_4 ad cI cL) rfl rfl kfX2_put tw_630 ⟨Nat.le_of_ble_eq_true rfl, Nat.le_of_ble_eq_true rfl, rfl, rfl⟩ rfl hl.1 (Nat.le_of_ble_eq_true rfl) ⟨Nat.zero_le _, Nat.zero_le _⟩ dX4_makeNextLine_41 rfl er2 (fun H locs hw => ?_)
  refine lv_pop hx hb dX4_makeNextLine_44 rfl ?_
  refine lv_iconst (v := 1) hx hb dX4_makeNextLine_45 ic_1 ?_
  exact rx_retz hret hw hf dX4_makeNextLine_46
set_option maxRecDepth 100000 in
set_option maxHeartbeats 4000000 in
theorem qk_X4_makeNextLine_5_6_65 (cx : rx_C p m c cX4_makeNextLine 3 s args wX4_makeNextLine RX4 D vwCl (tX cI cL) (zX b1 b2) wN A) (hret : rx_RZ p l e rm_X4_makeNextLine_5_6 s m args below meth c cX4_makeNextLine D vwCl (wX ad cI cL) A Q o) {ls : Array Slot} {H : Heap} {locs : List Loc} {M : Me} (hw : rx_W D vwCl (wX ad cI cL) A s.heap M H locs) (hl : lv_has ls 3 [(0, .ref ((ad 5))), (1, .ref ((ad 6)))]) (hf : qb_X4_makeNextLine_5_6_65 M = some o) : W p l e rm_X4_makeNextLine_5_6 s m args below meth c H locs 0 0 Q (F0 m 65 ls []) := by
  have hx := cx.1.1
  have hb := cx.1.2.1
  refine lv_aload_n hx hb dX4_makeNextLine_65 rfl (lv_at hl 1 rfl) ?_
  refine lv_aload_n hx hb dX4_makeNextLine_66 rfl (lv_at hl 0 rfl) ?_
  refine rx_getr cx hw (frX_5_1 ad cI cL) rfl (inT_X4) (Nat.le_of_ble_eq_true rfl) (.tail _ tw_283) dX4_makeNextLine_67 ?_
  refine lv_aload_n hx hb dX4_makeNextLine_70 rfl (lv_at hl 0 rfl) ?_
  refine rx_getr cx hw (frX_5_0 ad cI cL) rfl (inT_X4) (Nat.le_of_ble_eq_true rfl) (.tail _ tw_282) dX4_makeNextLine_71 ?_
  obtain ⟨v1, ev1, hf⟩ := rx_vvI hf
  refine rx_getiN cx hw (fiX_4_6 ad cI cL) rfl (inT_X2) (Nat.le_of_ble_eq_true rfl) tn_193 ev1 dX4_makeNextLine_74 ?_
  refine lv_aload_n hx hb dX4_makeNextLine_77 rfl (lv_at hl 1 rfl) ?_
  obtain ⟨v2, ev2, hf⟩ := rx_vvI hf
  refine rx_getiN cx hw (fiX_6_1 ad cI cL) rfl (inT_X1) (Nat.le_of_ble_eq_true rfl) tn_249 ev2 dX4_makeNextLine_78 ?_
  refine lv_iconst (v := 1) hx hb dX4_makeNextLine_81 ic_1 ?_
  refine lv_iadd hx hb dX4_makeNextLine_82 ?_
  obtain ⟨r3, M4, er3, hf⟩ := rx_clI hf
  refine rx_jVi cx hw (qc_X5_nextFit l D ad cI cL b1 b2 v1 (v2 + 1)) (obX_2 ad cI cL) rfl rfl kfX5_nextFit tw_632 ⟨Nat.le_of_ble_eq_true rfl, Nat.le_of_ble_eq_true rfl, rfl, rfl⟩ rfl hl.1 (Nat.le_of_ble_eq_true rfl) ⟨Nat.zero_le _, Nat.zero_le _⟩ dX4_makeNextLine_83 rfl er3 (fun H locs hw => ?_)
  obtain ⟨M5, eM5, hf⟩ := rx_vvI hf
  refine rx_putiN cx hw (fiX_6_1 ad cI cL) rfl (inT_X1) tyX1 tyX1_ok nmX1 (Nat.le_of_ble_eq_true rfl) tn_249 rfl rfl rfl eM5 dX4_makeNextLine_86 (fun H locs hw => ?_)
  refine lv_aload_n hx hb dX4_makeNextLine_89 rfl (lv_at hl 1 rfl) ?_
  obtain ⟨v6, ev6, hf⟩ := rx_vvI hf
  refine rx_getiN cx hw (fiX_6_1 ad cI cL) rfl (inT_X1) (Nat.le_of_ble_eq_true rfl) tn_249 ev6 dX4_makeNextLine_90 ?_
  refine lv_iconst (v := (-1)) hx hb dX4_makeNextLine_93 ic_m1 ?_
  refine lv_icmp_ne hx hb dX4_makeNextLine_94 rfl (fun hc => ?_) (fun hc => ?_)
  · have hf := rx_f hc hf
    refine lv_aload_n hx hb dX4_makeNextLine_99 rfl (lv_at hl 0 rfl) ?_
    refine rx_getr cx hw (frX_5_0 ad cI cL) rfl (inT_X4) (Nat.le_of_ble_eq_true rfl) (.tail _ tw_282) dX4_makeNextLine_100 ?_
    refine lv_aload_n hx hb dX4_makeNextLine_103 rfl (lv_at hl 1 rfl) ?_
    obtain ⟨v7, ev7, hf⟩ := rx_vvI hf
    refine rx_getiN cx hw (fiX_6_1 ad cI cL) rfl (inT_X1) (Nat.le_of_ble_eq_true rfl) tn_249 ev7 dX4_makeNextLine_104 ?_
    obtain ⟨r8, M9, er8, hf⟩ := rx_clI hf
    refine rx_jVv cx hw (qc_X2_lay l D ad cI cL b1 b2 v7) (obX_4 ad cI cL) rfl rfl kfX2_lay tw_633 ⟨Nat.le_of_ble_eq_true rfl, Nat.le_of_ble_eq_true rfl, rfl, rfl⟩ rfl hl.1 (Nat.le_of_ble_eq_true rfl) ⟨Nat.zero_le _, Nat.zero_le _⟩ dX4_makeNextLine_107 rfl er8 (fun H locs hw => ?_)
    refine lv_aload_n hx hb dX4_makeNextLine_110 rfl (lv_at hl 0 rfl) ?_
    refine rx_getr cx hw (frX_5_0 ad cI cL) rfl (inT_X4) (Nat.le_of_ble_eq_true rfl) (.tail _ tw_282) dX4_makeNextLine_111 ?_
    refine lv_iconst (v := (-1)) hx hb dX4_makeNextLine_114 ic_m1 ?_
    obtain ⟨r10, M11, er10, hf⟩ := rx_clI hf
    refine rx_jVi cx hw (qc_X2_put l D ad cI cL b1 b2 (-1)) (obX_4 ad cI cL) rfl rfl kfX2_put tw_630 ⟨Nat.le_of_ble_eq_true rfl, Nat.le_of_ble_eq_true rfl, rfl, rfl⟩ rfl hl.1 (Nat.le_of_ble_eq_true rfl) ⟨Nat.zero_le _, Nat.zero_le _⟩ dX4_makeNextLine_115 rfl er10 (fun H locs hw => ?_)
    refine lv_pop hx hb dX4_makeNextLine_118 rfl ?_
    refine lv_aload_n hx hb dX4_makeNextLine_119 rfl (lv_at hl 1 rfl) ?_
    refine lv_iconst (v := 1) hx hb dX4_makeNextLine_120 ic_1 ?_
    obtain ⟨M12, eM12, hf⟩ := rx_vvI hf
    refine rx_putiN cx hw (fiX_6_3 ad cI cL) rfl (inT_X1) tyX1 tyX1_ok nmX1 (Nat.le_of_ble_eq_true rfl) tn_253 rfl rfl rfl eM12 dX4_makeNextLine_121 (fun H locs hw => ?_)
    refine lv_aload_n hx hb dX4_makeNextLine_124 rfl (lv_at hl 1 rfl) ?_
    refine lv_iconst (v := (-1)) hx hb dX4_makeNextLine_125 ic_m1 ?_
    obtain ⟨M13, eM13, hf⟩ := rx_vvI hf
    refine rx_putiN cx hw (fiX_6_2 ad cI cL) rfl (inT_X1) tyX1 tyX1_ok nmX1 (Nat.le_of_ble_eq_true rfl) tn_251 rfl rfl rfl eM13 dX4_makeNextLine_126 (fun H locs hw => ?_)
    refine lv_iconst (v := 1) hx hb dX4_makeNextLine_129 ic_1 ?_
    exact rx_retz hret hw hf dX4_makeNextLine_130
  · have hf := rx_t hc hf
    refine lv_iconst (v := 0) hx hb dX4_makeNextLine_97 ic_0 ?_
    exact rx_retz hret hw hf dX4_makeNextLine_98
set_option maxRecDepth 100000 in
set_option maxHeartbeats 4000000 in
theorem qk_X4_makeNextLine_5_6_53 (cx : rx_C p m c cX4_makeNextLine 3 s args wX4_makeNextLine RX4 D vwCl (tX cI cL) (zX b1 b2) wN A) (hret : rx_RZ p l e rm_X4_makeNextLine_5_6 s m args below meth c cX4_makeNextLine D vwCl (wX ad cI cL) A Q o) {ls : Array Slot} {H : Heap} {locs : List Loc} {M : Me} (hw : rx_W D vwCl (wX ad cI cL) A s.heap M H locs) (hl : lv_has ls 3 [(0, .ref ((ad 5))), (1, .ref ((ad 6)))]) (hf : qb_X4_makeNextLine_5_6_53 M = some o) : W p l e rm_X4_makeNextLine_5_6 s m args below meth c H locs 0 0 Q (F0 m 53 ls []) := by
  have hx := cx.1.1
  have hb := cx.1.2.1
  refine lv_aload_n hx hb dX4_makeNextLine_53 rfl (lv_at hl 0 rfl) ?_
  refine rx_getr cx hw (frX_5_0 ad cI cL) rfl (inT_X4) (Nat.le_of_ble_eq_true rfl) (.tail _ tw_282) dX4_makeNextLine_54 ?_
  obtain ⟨r1, M2, er1, hf⟩ := rx_clI hf
  refine rx_jVv cx hw (qc_X2_stepBack l D ad cI cL b1 b2) (obX_4 ad cI cL) rfl rfl kfX2_stepBack tw_631 ⟨Nat.le_of_ble_eq_true rfl, Nat.le_of_ble_eq_true rfl, rfl, rfl⟩ rfl hl.1 (Nat.le_of_ble_eq_true rfl) ⟨Nat.zero_le _, Nat.zero_le _⟩ dX4_makeNextLine_57 rfl er1 (fun H locs hw => ?_)
  refine lv_aload_n hx hb dX4_makeNextLine_60 rfl (lv_at hl 1 rfl) ?_
  refine lv_iconst (v := 0) hx hb dX4_makeNextLine_61 ic_0 ?_
  obtain ⟨M3, eM3, hf⟩ := rx_vvI hf
  refine rx_putiN cx hw (fiX_6_3 ad cI cL) rfl (inT_X1) tyX1 tyX1_ok nmX1 (Nat.le_of_ble_eq_true rfl) tn_253 rfl rfl rfl eM3 dX4_makeNextLine_62 (fun H locs hw => ?_)
  exact (qk_X4_makeNextLine_5_6_65 cx hret) hw hl hf
set_option maxRecDepth 100000 in
set_option maxHeartbeats 4000000 in
theorem qk_X4_makeNextLine_5_6_0 (cx : rx_C p m c cX4_makeNextLine 3 s args wX4_makeNextLine RX4 D vwCl (tX cI cL) (zX b1 b2) wN A) (hret : rx_RZ p l e rm_X4_makeNextLine_5_6 s m args below meth c cX4_makeNextLine D vwCl (wX ad cI cL) A Q o) {ls : Array Slot} {H : Heap} {locs : List Loc} {M : Me} (hw : rx_W D vwCl (wX ad cI cL) A s.heap M H locs) (hl : lv_has ls 3 [(0, .ref ((ad 5))), (1, .ref ((ad 6)))]) (hf : qf_X4_makeNextLine_5_6 M = some o) : W p l e rm_X4_makeNextLine_5_6 s m args below meth c H locs 0 0 Q (F0 m 0 ls []) := by
  have hx := cx.1.1
  have hb := cx.1.2.1
  refine lv_aload_n hx hb dX4_makeNextLine_0 rfl (lv_at hl 1 rfl) ?_
  obtain ⟨v1, ev1, hf⟩ := rx_vvI hf
  refine rx_getiN cx hw (fiX_6_3 ad cI cL) rfl (inT_X1) (Nat.le_of_ble_eq_true rfl) tn_253 ev1 dX4_makeNextLine_1 ?_
  refine lv_if_eq hx hb dX4_makeNextLine_4 rfl (fun hc => ?_) (fun hc => ?_)
  · have hf := rx_t hc hf
    exact (qk_X4_makeNextLine_5_6_65 cx hret) hw hl hf
  · have hf := rx_f hc hf
    refine lv_aload_n hx hb dX4_makeNextLine_7 rfl (lv_at hl 1 rfl) ?_
    obtain ⟨v2, ev2, hf⟩ := rx_vvI hf
    refine rx_getiN cx hw (fiX_6_2 ad cI cL) rfl (inT_X1) (Nat.le_of_ble_eq_true rfl) tn_251 ev2 dX4_makeNextLine_8 ?_
    refine lv_iconst (v := 1) hx hb dX4_makeNextLine_11 ic_1 ?_
    refine lv_iadd hx hb dX4_makeNextLine_12 ?_
    obtain ⟨v3, ev3, hf⟩ := rx_vvI hf
    refine rx_top ev3 ?_
    refine lv_istore_n (lv' := [(2, .int v3), (0, .ref ((ad 5))), (1, .ref ((ad 6)))]) hx hb dX4_makeNextLine_13 rfl hl (Nat.le_of_ble_eq_true rfl) rfl (fun ls hl => ?_)
    exact (qk_X4_makeNextLine_5_6_14 cx hret (qk_X4_makeNextLine_5_6_31 cx hret) (qk_X4_makeNextLine_5_6_53 cx hret) rx_FU) hw (lv_sub hl [1, 2, 0] rfl) hf
end
set_option maxRecDepth 100000 in
theorem qc_X4_makeNextLine_5_6 (l : Launch) (D : va_G) (ad : Nat → Nat) (cI cL : ClassId) (b1 b2 : Nat) : rx_MI l yX4_makeNextLine wX4_makeNextLine rm_X4_makeNextLine_5_6 D vwCl (wX ad cI cL) (tX cI cL) (zX b1 b2) wN [.ref (ad 5), .ref (ad 6)] (fun M => qf_X4_makeNextLine_5_6 M) :=
  rx_ofZ (by decide) rfl wN_ok (Nat.le_of_ble_eq_true rfl) (fun _ _ _ _ _ _ _ _ _ _ _ _ _ cx hret hw hl hf => qk_X4_makeNextLine_5_6_0 cx hret hw hl hf)
def rm_X1_weigh_6_38 : Room := { frames := 1, cells := 0, slots := 0, locals := 35 }
noncomputable def qb_X1_weigh_6_38_29 (k5 : Int32 → Int32 → Me → Op) (w2 : Int32) (w3 : Int32) (w4 : Int32)  (M : Me) : Op :=
  rx_vv (w4 + 1) fun v1 => k5 w3 v1 M
noncomputable def qo_X1_weigh_6_38_5 (k35 : Int32 → Me → Op) (w2 : Int32) (rec : Int32 → Int32 → Me → Op) (w3 : Int32) (w4 : Int32) (M : Me) : Op :=
  if w2 ≤ w4 then (k35 w3 M) else (rx_vv (M 6 0) fun v1 => if w4 = v1 then (qb_X1_weigh_6_38_29 rec w2 w3 w4 M) else (rx_ld M 38 3 w4 fun v2 => rx_vv ((if w3 < v2 then v2 else w3)) fun v3 => qb_X1_weigh_6_38_29 rec w2 v3 w4 M))
noncomputable def qb_X1_weigh_6_38_62  (w4 : Int32)  (M : Me) : Op :=
  rx_vv (rx_st M 6 4 1) fun M1 => rx_vv (rx_st M1 6 5 w4) fun M2 => rx_vv (M2 6 1) fun v3 => rx_vv (rx_st M2 6 6 v3) fun M4 => rx_vv (M4 6 2) fun v5 => rx_vv (rx_st M4 6 7 v5) fun M6 => rx_vv (rx_cp3 M6 38 38) fun M7 => some (0, M7)
noncomputable def qb_X1_weigh_6_38_35  (w3 : Int32)  (M : Me) : Op :=
  rx_vv (M 6 0) fun v1 => rx_ld M 38 3 v1 fun v2 => rx_vv (v2 - w3) fun v3 => rx_vv (M 6 4) fun v4 => if v4 = 0 then (qb_X1_weigh_6_38_62 v3 M) else (rx_vv (M 6 5) fun v5 => if v5 < v3 then (qb_X1_weigh_6_38_62 v3 M) else (some (0, M)))
noncomputable def qf_X1_weigh_6_38  (w2 : Int32)  (M : Me) : Op :=
  rx_lp2 (qo_X1_weigh_6_38_5 (fun a3 M => qb_X1_weigh_6_38_35 a3 M) w2) rx_FU 0 0 M
section
variable {p : Program} {l : Launch} {e : Env} {s : State} {m : MethodId} {args : Array Value} {below : List Frame} {meth : Method} {c : Code} {Q : State → Prop} {D : va_G} {A : Nat → Prop} {o : Int32 × Me} {ad : Nat → Nat} {cI cL : ClassId} {b1 b2 : Nat}
set_option maxRecDepth 100000 in
set_option maxHeartbeats 4000000 in
theorem qk_X1_weigh_6_38_29 (cx : rx_C p m c cX1_weigh 5 s args wX1_weigh RX1 D vwCl (tX cI cL) (zX b1 b2) wN A) (hret : rx_RV p l e rm_X1_weigh_6_38 s m args below meth c cX1_weigh D vwCl (wX ad cI cL) A Q o) {w2 : Int32} {w3 : Int32} {w4 : Int32} {k5 : Int32 → Int32 → Me → Op} (h5 : ∀ {a3 : Int32} {a4 : Int32} {ls : Array Slot} {H : Heap} {locs : List Loc} {M : Me}, rx_W D vwCl (wX ad cI cL) A s.heap M H locs → lv_has ls 5 [(0, .ref ((ad 6))), (1, .ref ((ad 38))), (2, .int w2), (3, .int a3), (4, .int a4)] → k5 a3 a4 M = some o → W p l e rm_X1_weigh_6_38 s m args below meth c H locs 0 0 Q (F0 m 5 ls [])) {ls : Array Slot} {H : Heap} {locs : List Loc} {M : Me} (hw : rx_W D vwCl (wX ad cI cL) A s.heap M H locs) (hl : lv_has ls 5 [(0, .ref ((ad 6))), (1, .ref ((ad 38))), (2, .int w2), (3, .int w3), (4, .int w4)]) (hf : qb_X1_weigh_6_38_29 k5 w2 w3 w4 M = some o) : W p l e rm_X1_weigh_6_38 s m args below meth c H locs 0 0 Q (F0 m 29 ls []) := by
  have hx := cx.1.1
  have hb := cx.1.2.1
  obtain ⟨v1, ev1, hf⟩ := rx_vvI hf
  refine lv_iinc (lv' := [(4, .int v1), (0, .ref ((ad 6))), (1, .ref ((ad 38))), (2, .int w2), (3, .int w3)]) hx hb dX1_weigh_29 hl (k := 4) rfl (rx_inc ic_1 ev1) (Nat.le_of_ble_eq_true rfl) rfl (fun ls hl => ?_)
  refine lv_goto hx hb dX1_weigh_32 rfl ?_
  exact h5 hw (lv_sub hl [1, 2, 3, 4, 0] rfl) hf
set_option maxRecDepth 100000 in
set_option maxHeartbeats 4000000 in
theorem qk_X1_weigh_6_38_5 (cx : rx_C p m c cX1_weigh 5 s args wX1_weigh RX1 D vwCl (tX cI cL) (zX b1 b2) wN A) (hret : rx_RV p l e rm_X1_weigh_6_38 s m args below meth c cX1_weigh D vwCl (wX ad cI cL) A Q o) {w2 : Int32} {k35 : Int32 → Me → Op} (h35 : ∀ {a3 : Int32} {ls : Array Slot} {H : Heap} {locs : List Loc} {M : Me}, rx_W D vwCl (wX ad cI cL) A s.heap M H locs → lv_has ls 5 [(0, .ref ((ad 6))), (1, .ref ((ad 38))), (3, .int a3)] → k35 a3 M = some o → W p l e rm_X1_weigh_6_38 s m args below meth c H locs 0 0 Q (F0 m 35 ls [])) : ∀ (n : Nat) {w3 : Int32} {w4 : Int32} {ls : Array Slot} {H : Heap} {locs : List Loc} {M : Me}, rx_W D vwCl (wX ad cI cL) A s.heap M H locs → lv_has ls 5 [(0, .ref ((ad 6))), (1, .ref ((ad 38))), (2, .int w2), (3, .int w3), (4, .int w4)] → rx_lp2 (qo_X1_weigh_6_38_5 k35 w2) n w3 w4 M = some o → W p l e rm_X1_weigh_6_38 s m args below meth c H locs 0 0 Q (F0 m 5 ls []) := by
  have hx := cx.1.1
  have hb := cx.1.2.1
  intro n
  induction n with
  | zero => intro w3 w4 ls H locs M hw hl hf; exact rx_no hf
  | succ n ih =>
    intro w3 w4 ls H locs M hw hl hf
    have hf : qo_X1_weigh_6_38_5 k35 w2 (rx_lp2 (qo_X1_weigh_6_38_5 k35 w2) n) w3 w4 M = some o := hf
    refine lv_iload hx hb dX1_weigh_5 (lv_at hl 4 rfl) ?_
    refine lv_iload_n hx hb dX1_weigh_7 rfl (lv_at hl 2 rfl) ?_
    refine lv_icmp_ge hx hb dX1_weigh_8 rfl (fun hc => ?_) (fun hc => ?_)
    · have hf := rx_t hc hf
      exact h35 hw (lv_sub hl [0, 1, 3] rfl) hf
    · have hf := rx_f hc hf
      refine lv_iload hx hb dX1_weigh_11 (lv_at hl 4 rfl) ?_
      refine lv_aload_n hx hb dX1_weigh_13 rfl (lv_at hl 0 rfl) ?_
      obtain ⟨v1, ev1, hf⟩ := rx_vvI hf
      refine rx_geti cx hw (fiX_6_0 ad cI cL) rfl (inT_X1) (Nat.le_of_ble_eq_true rfl) (.tail _ tw_247) ev1 dX1_weigh_14 ?_
      refine lv_icmp_eq hx hb dX1_weigh_17 rfl (fun hc => ?_) (fun hc => ?_)
      · have hf := rx_t hc hf
        exact (qk_X1_weigh_6_38_29 cx hret ih) hw hl hf
      · have hf := rx_f hc hf
        refine lv_iload_n hx hb dX1_weigh_20 rfl (lv_at hl 3 rfl) ?_
        refine lv_aload_n hx hb dX1_weigh_21 rfl (lv_at hl 1 rfl) ?_
        refine lv_iload hx hb dX1_weigh_22 (lv_at hl 4 rfl) ?_
        obtain ⟨hv2, v2, ev2, hf⟩ := rx_ldI hf
        refine rx_iald cx hw (arX_38 ad cI cL) ⟨hv2, ev2⟩ dX1_weigh_24 ?_
        refine rx_max cx (.tail _ tw_643) (.tail _ tw_501) (.tail _ tw_10) (.tail _ tw_502) hl.1 ⟨Nat.le_of_ble_eq_true rfl, Nat.le_of_ble_eq_true rfl, Nat.zero_le _, Nat.zero_le _⟩ dX1_weigh_25 ?_
        obtain ⟨v3, ev3, hf⟩ := rx_vvI hf
        refine rx_top ev3 ?_
        refine lv_istore_n (lv' := [(3, .int v3), (0, .ref ((ad 6))), (1, .ref ((ad 38))), (2, .int w2), (4, .int w4)]) hx hb dX1_weigh_28 rfl hl (Nat.le_of_ble_eq_true rfl) rfl (fun ls hl => ?_)
        exact (qk_X1_weigh_6_38_29 cx hret ih) hw (lv_sub hl [1, 2, 3, 0, 4] rfl) hf
set_option maxRecDepth 100000 in
set_option maxHeartbeats 4000000 in
theorem qk_X1_weigh_6_38_62 (cx : rx_C p m c cX1_weigh 5 s args wX1_weigh RX1 D vwCl (tX cI cL) (zX b1 b2) wN A) (hret : rx_RV p l e rm_X1_weigh_6_38 s m args below meth c cX1_weigh D vwCl (wX ad cI cL) A Q o) {w4 : Int32} {ls : Array Slot} {H : Heap} {locs : List Loc} {M : Me} (hw : rx_W D vwCl (wX ad cI cL) A s.heap M H locs) (hl : lv_has ls 5 [(0, .ref ((ad 6))), (1, .ref ((ad 38))), (4, .int w4)]) (hf : qb_X1_weigh_6_38_62 w4 M = some o) : W p l e rm_X1_weigh_6_38 s m args below meth c H locs 0 0 Q (F0 m 62 ls []) := by
  have hx := cx.1.1
  have hb := cx.1.2.1
  refine lv_aload_n hx hb dX1_weigh_62 rfl (lv_at hl 0 rfl) ?_
  refine lv_iconst (v := 1) hx hb dX1_weigh_63 ic_1 ?_
  obtain ⟨M1, eM1, hf⟩ := rx_vvI hf
  refine rx_puti cx hw (fiX_6_4 ad cI cL) rfl (inT_X1) tyX1 tyX1_ok nmX1 (Nat.le_of_ble_eq_true rfl) (.tail _ tw_254) rfl rfl rfl eM1 dX1_weigh_64 (fun H locs hw => ?_)
  refine lv_aload_n hx hb dX1_weigh_67 rfl (lv_at hl 0 rfl) ?_
  refine lv_iload hx hb dX1_weigh_68 (lv_at hl 2 rfl) ?_
  obtain ⟨M2, eM2, hf⟩ := rx_vvI hf
  refine rx_puti cx hw (fiX_6_5 ad cI cL) rfl (inT_X1) tyX1 tyX1_ok nmX1 (Nat.le_of_ble_eq_true rfl) (.tail _ tw_255) rfl rfl rfl eM2 dX1_weigh_70 (fun H locs hw => ?_)
  refine lv_aload_n hx hb dX1_weigh_73 rfl (lv_at hl 0 rfl) ?_
  refine lv_aload_n hx hb dX1_weigh_74 rfl (lv_at hl 0 rfl) ?_
  obtain ⟨v3, ev3, hf⟩ := rx_vvI hf
  refine rx_geti cx hw (fiX_6_1 ad cI cL) rfl (inT_X1) (Nat.le_of_ble_eq_true rfl) (.tail _ tw_248) ev3 dX1_weigh_75 ?_
  obtain ⟨M4, eM4, hf⟩ := rx_vvI hf
  refine rx_puti cx hw (fiX_6_6 ad cI cL) rfl (inT_X1) tyX1 tyX1_ok nmX1 (Nat.le_of_ble_eq_true rfl) (.tail _ tw_257) rfl rfl rfl eM4 dX1_weigh_78 (fun H locs hw => ?_)
  refine lv_aload_n hx hb dX1_weigh_81 rfl (lv_at hl 0 rfl) ?_
  refine lv_aload_n hx hb dX1_weigh_82 rfl (lv_at hl 0 rfl) ?_
  obtain ⟨v5, ev5, hf⟩ := rx_vvI hf
  refine rx_geti cx hw (fiX_6_2 ad cI cL) rfl (inT_X1) (Nat.le_of_ble_eq_true rfl) (.tail _ tw_250) ev5 dX1_weigh_83 ?_
  obtain ⟨M6, eM6, hf⟩ := rx_vvI hf
  refine rx_puti cx hw (fiX_6_7 ad cI cL) rfl (inT_X1) tyX1 tyX1_ok nmX1 (Nat.le_of_ble_eq_true rfl) (.tail _ tw_259) rfl rfl rfl eM6 dX1_weigh_86 (fun H locs hw => ?_)
  refine lv_aload_n hx hb dX1_weigh_89 rfl (lv_at hl 1 rfl) ?_
  refine lv_iconst (v := 0) hx hb dX1_weigh_90 ic_0 ?_
  refine lv_aload_n hx hb dX1_weigh_91 rfl (lv_at hl 0 rfl) ?_
  refine rx_getr cx hw (frX_6_8 ad cI cL) rfl (inT_X1) (Nat.le_of_ble_eq_true rfl) (.tail _ tw_261) dX1_weigh_92 ?_
  refine lv_iconst (v := 0) hx hb dX1_weigh_95 ic_0 ?_
  refine lv_iconst (v := 3) hx hb dX1_weigh_96 ic_3 ?_
  obtain ⟨M7, eM7, hf⟩ := rx_vvI hf
  refine rx_copy cx hw (.tail _ tw_644) (.tail _ tw_646) (.tail _ tw_645) (.tail _ tw_12) hl.1 (arX_38 ad cI cL) (arX_38 ad cI cL) eM7 ⟨Nat.le_of_ble_eq_true rfl, Nat.le_of_ble_eq_true rfl⟩ dX1_weigh_97 (fun H locs hw => ?_)
  exact rx_retv hret hw hf dX1_weigh_100
set_option maxRecDepth 100000 in
set_option maxHeartbeats 4000000 in
theorem qk_X1_weigh_6_38_35 (cx : rx_C p m c cX1_weigh 5 s args wX1_weigh RX1 D vwCl (tX cI cL) (zX b1 b2) wN A) (hret : rx_RV p l e rm_X1_weigh_6_38 s m args below meth c cX1_weigh D vwCl (wX ad cI cL) A Q o) {w3 : Int32} {ls : Array Slot} {H : Heap} {locs : List Loc} {M : Me} (hw : rx_W D vwCl (wX ad cI cL) A s.heap M H locs) (hl : lv_has ls 5 [(0, .ref ((ad 6))), (1, .ref ((ad 38))), (3, .int w3)]) (hf : qb_X1_weigh_6_38_35 w3 M = some o) : W p l e rm_X1_weigh_6_38 s m args below meth c H locs 0 0 Q (F0 m 35 ls []) := by
  have hx := cx.1.1
  have hb := cx.1.2.1
  refine lv_aload_n hx hb dX1_weigh_35 rfl (lv_at hl 1 rfl) ?_
  refine lv_aload_n hx hb dX1_weigh_36 rfl (lv_at hl 0 rfl) ?_
  obtain ⟨v1, ev1, hf⟩ := rx_vvI hf
  refine rx_geti cx hw (fiX_6_0 ad cI cL) rfl (inT_X1) (Nat.le_of_ble_eq_true rfl) (.tail _ tw_247) ev1 dX1_weigh_37 ?_
  obtain ⟨hv2, v2, ev2, hf⟩ := rx_ldI hf
  refine rx_iald cx hw (arX_38 ad cI cL) ⟨hv2, ev2⟩ dX1_weigh_40 ?_
  refine lv_iload_n hx hb dX1_weigh_41 rfl (lv_at hl 2 rfl) ?_
  refine lv_isub hx hb dX1_weigh_42 ?_
  obtain ⟨v3, ev3, hf⟩ := rx_vvI hf
  refine rx_top ev3 ?_
  refine lv_istore (lv' := [(4, .int v3), (0, .ref ((ad 6))), (1, .ref ((ad 38))), (3, .int w3)]) hx hb dX1_weigh_43 hl (Nat.le_of_ble_eq_true rfl) rfl (fun ls hl => ?_)
  refine lv_aload_n hx hb dX1_weigh_45 rfl (lv_at hl 1 rfl) ?_
  obtain ⟨v4, ev4, hf⟩ := rx_vvI hf
  refine rx_geti cx hw (fiX_6_4 ad cI cL) rfl (inT_X1) (Nat.le_of_ble_eq_true rfl) (.tail _ tw_254) ev4 dX1_weigh_46 ?_
  refine lv_if_eq hx hb dX1_weigh_49 rfl (fun hc => ?_) (fun hc => ?_)
  · have hf := rx_t hc hf
    exact (qk_X1_weigh_6_38_62 cx hret) hw (lv_sub hl [1, 2, 0] rfl) hf
  · have hf := rx_f hc hf
    refine lv_iload hx hb dX1_weigh_52 (lv_at hl 0 rfl) ?_
    refine lv_aload_n hx hb dX1_weigh_54 rfl (lv_at hl 1 rfl) ?_
    obtain ⟨v5, ev5, hf⟩ := rx_vvI hf
    refine rx_geti cx hw (fiX_6_5 ad cI cL) rfl (inT_X1) (Nat.le_of_ble_eq_true rfl) (.tail _ tw_255) ev5 dX1_weigh_55 ?_
    refine lv_icmp_gt hx hb dX1_weigh_58 rfl (fun hc => ?_) (fun hc => ?_)
    · have hf := rx_t hc hf
      exact (qk_X1_weigh_6_38_62 cx hret) hw (lv_sub hl [1, 2, 0] rfl) hf
    · have hf := rx_f hc hf
      exact rx_retv hret hw hf dX1_weigh_61
set_option maxRecDepth 100000 in
set_option maxHeartbeats 4000000 in
theorem qk_X1_weigh_6_38_0 (cx : rx_C p m c cX1_weigh 5 s args wX1_weigh RX1 D vwCl (tX cI cL) (zX b1 b2) wN A) (hret : rx_RV p l e rm_X1_weigh_6_38 s m args below meth c cX1_weigh D vwCl (wX ad cI cL) A Q o) {w2 : Int32} {ls : Array Slot} {H : Heap} {locs : List Loc} {M : Me} (hw : rx_W D vwCl (wX ad cI cL) A s.heap M H locs) (hl : lv_has ls 5 [(0, .ref ((ad 6))), (1, .ref ((ad 38))), (2, .int w2)]) (hf : qf_X1_weigh_6_38 w2 M = some o) : W p l e rm_X1_weigh_6_38 s m args below meth c H locs 0 0 Q (F0 m 0 ls []) := by
  have hx := cx.1.1
  have hb := cx.1.2.1
  refine lv_iconst (v := 0) hx hb dX1_weigh_0 ic_0 ?_
  refine lv_istore_n (lv' := [(3, .int 0), (0, .ref ((ad 6))), (1, .ref ((ad 38))), (2, .int w2)]) hx hb dX1_weigh_1 rfl hl (Nat.le_of_ble_eq_true rfl) rfl (fun ls hl => ?_)
  refine lv_iconst (v := 0) hx hb dX1_weigh_2 ic_0 ?_
  refine lv_istore (lv' := [(4, .int 0), (3, .int 0), (0, .ref ((ad 6))), (1, .ref ((ad 38))), (2, .int w2)]) hx hb dX1_weigh_3 hl (Nat.le_of_ble_eq_true rfl) rfl (fun ls hl => ?_)
  exact (qk_X1_weigh_6_38_5 cx hret (qk_X1_weigh_6_38_35 cx hret) rx_FU) hw (lv_sub hl [2, 3, 4, 1, 0] rfl) hf
end
set_option maxRecDepth 100000 in
theorem qc_X1_weigh_6_38 (l : Launch) (D : va_G) (ad : Nat → Nat) (cI cL : ClassId) (b1 b2 : Nat) (w2 : Int32) : rx_MV l yX1_weigh wX1_weigh rm_X1_weigh_6_38 D vwCl (wX ad cI cL) (tX cI cL) (zX b1 b2) wN [.ref (ad 6), .ref (ad 38), .int w2] (fun M => qf_X1_weigh_6_38 w2 M) :=
  rx_ofV (by decide) rfl wN_ok (Nat.le_of_ble_eq_true rfl) (fun _ _ _ _ _ _ _ _ _ _ _ _ _ cx hret hw hl hf => qk_X1_weigh_6_38_0 cx hret hw hl hf)
def rm_X1_weigh_6_39 : Room := { frames := 1, cells := 0, slots := 0, locals := 35 }
noncomputable def qb_X1_weigh_6_39_29 (k5 : Int32 → Int32 → Me → Op) (w2 : Int32) (w3 : Int32) (w4 : Int32)  (M : Me) : Op :=
  rx_vv (w4 + 1) fun v1 => k5 w3 v1 M
noncomputable def qo_X1_weigh_6_39_5 (k35 : Int32 → Me → Op) (w2 : Int32) (rec : Int32 → Int32 → Me → Op) (w3 : Int32) (w4 : Int32) (M : Me) : Op :=
  if w2 ≤ w4 then (k35 w3 M) else (rx_vv (M 6 0) fun v1 => if w4 = v1 then (qb_X1_weigh_6_39_29 rec w2 w3 w4 M) else (rx_ld M 39 3 w4 fun v2 => rx_vv ((if w3 < v2 then v2 else w3)) fun v3 => qb_X1_weigh_6_39_29 rec w2 v3 w4 M))
noncomputable def qb_X1_weigh_6_39_62  (w4 : Int32)  (M : Me) : Op :=
  rx_vv (rx_st M 6 4 1) fun M1 => rx_vv (rx_st M1 6 5 w4) fun M2 => rx_vv (M2 6 1) fun v3 => rx_vv (rx_st M2 6 6 v3) fun M4 => rx_vv (M4 6 2) fun v5 => rx_vv (rx_st M4 6 7 v5) fun M6 => rx_vv (rx_cp3 M6 39 38) fun M7 => some (0, M7)
noncomputable def qb_X1_weigh_6_39_35  (w3 : Int32)  (M : Me) : Op :=
  rx_vv (M 6 0) fun v1 => rx_ld M 39 3 v1 fun v2 => rx_vv (v2 - w3) fun v3 => rx_vv (M 6 4) fun v4 => if v4 = 0 then (qb_X1_weigh_6_39_62 v3 M) else (rx_vv (M 6 5) fun v5 => if v5 < v3 then (qb_X1_weigh_6_39_62 v3 M) else (some (0, M)))
noncomputable def qf_X1_weigh_6_39  (w2 : Int32)  (M : Me) : Op :=
  rx_lp2 (qo_X1_weigh_6_39_5 (fun a3 M => qb_X1_weigh_6_39_35 a3 M) w2) rx_FU 0 0 M
section
variable {p : Program} {l : Launch} {e : Env} {s : State} {m : MethodId} {args : Array Value} {below : List Frame} {meth : Method} {c : Code} {Q : State → Prop} {D : va_G} {A : Nat → Prop} {o : Int32 × Me} {ad : Nat → Nat} {cI cL : ClassId} {b1 b2 : Nat}
set_option maxRecDepth 100000 in
set_option maxHeartbeats 4000000 in
theorem qk_X1_weigh_6_39_29 (cx : rx_C p m c cX1_weigh 5 s args wX1_weigh RX1 D vwCl (tX cI cL) (zX b1 b2) wN A) (hret : rx_RV p l e rm_X1_weigh_6_39 s m args below meth c cX1_weigh D vwCl (wX ad cI cL) A Q o) {w2 : Int32} {w3 : Int32} {w4 : Int32} {k5 : Int32 → Int32 → Me → Op} (h5 : ∀ {a3 : Int32} {a4 : Int32} {ls : Array Slot} {H : Heap} {locs : List Loc} {M : Me}, rx_W D vwCl (wX ad cI cL) A s.heap M H locs → lv_has ls 5 [(0, .ref ((ad 6))), (1, .ref ((ad 39))), (2, .int w2), (3, .int a3), (4, .int a4)] → k5 a3 a4 M = some o → W p l e rm_X1_weigh_6_39 s m args below meth c H locs 0 0 Q (F0 m 5 ls [])) {ls : Array Slot} {H : Heap} {locs : List Loc} {M : Me} (hw : rx_W D vwCl (wX ad cI cL) A s.heap M H locs) (hl : lv_has ls 5 [(0, .ref ((ad 6))), (1, .ref ((ad 39))), (2, .int w2), (3, .int w3), (4, .int w4)]) (hf : qb_X1_weigh_6_39_29 k5 w2 w3 w4 M = some o) : W p l e rm_X1_weigh_6_39 s m args below meth c H locs 0 0 Q (F0 m 29 ls []) := by
  have hx := cx.1.1
  have hb := cx.1.2.1
  obtain ⟨v1, ev1, hf⟩ := rx_vvI hf
  refine lv_iinc (lv' := [(4, .int v1), (0, .ref ((ad 6))), (1, .ref ((ad 39))), (2, .int w2), (3, .int w3)]) hx hb dX1_weigh_29 hl (k := 4) rfl (rx_inc ic_1 ev1) (Nat.le_of_ble_eq_true rfl) rfl (fun ls hl => ?_)
  refine lv_goto hx hb dX1_weigh_32 rfl ?_
  exact h5 hw (lv_sub hl [1, 2, 3, 4, 0] rfl) hf
set_option maxRecDepth 100000 in
set_option maxHeartbeats 4000000 in
theorem qk_X1_weigh_6_39_5 (cx : rx_C p m c cX1_weigh 5 s args wX1_weigh RX1 D vwCl (tX cI cL) (zX b1 b2) wN A) (hret : rx_RV p l e rm_X1_weigh_6_39 s m args below meth c cX1_weigh D vwCl (wX ad cI cL) A Q o) {w2 : Int32} {k35 : Int32 → Me → Op} (h35 : ∀ {a3 : Int32} {ls : Array Slot} {H : Heap} {locs : List Loc} {M : Me}, rx_W D vwCl (wX ad cI cL) A s.heap M H locs → lv_has ls 5 [(0, .ref ((ad 6))), (1, .ref ((ad 39))), (3, .int a3)] → k35 a3 M = some o → W p l e rm_X1_weigh_6_39 s m args below meth c H locs 0 0 Q (F0 m 35 ls [])) : ∀ (n : Nat) {w3 : Int32} {w4 : Int32} {ls : Array Slot} {H : Heap} {locs : List Loc} {M : Me}, rx_W D vwCl (wX ad cI cL) A s.heap M H locs → lv_has ls 5 [(0, .ref ((ad 6))), (1, .ref ((ad 39))), (2, .int w2), (3, .int w3), (4, .int w4)] → rx_lp2 (qo_X1_weigh_6_39_5 k35 w2) n w3 w4 M = some o → W p l e rm_X1_weigh_6_39 s m args below meth c H locs 0 0 Q (F0 m 5 ls []) := by
  have hx := cx.1.1
  have hb := cx.1.2.1
  intro n
  induction n with
  | zero => intro w3 w4 ls H locs M hw hl hf; exact rx_no hf
  | succ n ih =>
    intro w3 w4 ls H locs M hw hl hf
    have hf : qo_X1_weigh_6_39_5 k35 w2 (rx_lp2 (qo_X1_weigh_6_39_5 k35 w2) n) w3 w4 M = some o := hf
    refine lv_iload hx hb dX1_weigh_5 (lv_at hl 4 rfl) ?_
    refine lv_iload_n hx hb dX1_weigh_7 rfl (lv_at hl 2 rfl) ?_
    refine lv_icmp_ge hx hb dX1_weigh_8 rfl (fun hc => ?_) (fun hc => ?_)
    · have hf := rx_t hc hf
      exact h35 hw (lv_sub hl [0, 1, 3] rfl) hf
    · have hf := rx_f hc hf
      refine lv_iload hx hb dX1_weigh_11 (lv_at hl 4 rfl) ?_
      refine lv_aload_n hx hb dX1_weigh_13 rfl (lv_at hl 0 rfl) ?_
      obtain ⟨v1, ev1, hf⟩ := rx_vvI hf
      refine rx_geti cx hw (fiX_6_0 ad cI cL) rfl (inT_X1) (Nat.le_of_ble_eq_true rfl) (.tail _ tw_247) ev1 dX1_weigh_14 ?_
      refine lv_icmp_eq hx hb dX1_weigh_17 rfl (fun hc => ?_) (fun hc => ?_)
      · have hf := rx_t hc hf
        exact (qk_X1_weigh_6_39_29 cx hret ih) hw hl hf
      · have hf := rx_f hc hf
        refine lv_iload_n hx hb dX1_weigh_20 rfl (lv_at hl 3 rfl) ?_
        refine lv_aload_n hx hb dX1_weigh_21 rfl (lv_at hl 1 rfl) ?_
        refine lv_iload hx hb dX1_weigh_22 (lv_at hl 4 rfl) ?_
        obtain ⟨hv2, v2, ev2, hf⟩ := rx_ldI hf
        refine rx_iald cx hw (arX_39 ad cI cL) ⟨hv2, ev2⟩ dX1_weigh_24 ?_
        refine rx_max cx (.tail _ tw_643) (.tail _ tw_501) (.tail _ tw_10) (.tail _ tw_502) hl.1 ⟨Nat.le_of_ble_eq_true rfl, Nat.le_of_ble_eq_true rfl, Nat.zero_le _, Nat.zero_le _⟩ dX1_weigh_25 ?_
        obtain ⟨v3, ev3, hf⟩ := rx_vvI hf
        refine rx_top ev3 ?_
        refine lv_istore_n (lv' := [(3, .int v3), (0, .ref ((ad 6))), (1, .ref ((ad 39))), (2, .int w2), (4, .int w4)]) hx hb dX1_weigh_28 rfl hl (Nat.le_of_ble_eq_true rfl) rfl (fun ls hl => ?_)
        exact (qk_X1_weigh_6_39_29 cx hret ih) hw (lv_sub hl [1, 2, 3, 0, 4] rfl) hf
set_option maxRecDepth 100000 in
set_option maxHeartbeats 4000000 in
theorem qk_X1_weigh_6_39_62 (cx : rx_C p m c cX1_weigh 5 s args wX1_weigh RX1 D vwCl (tX cI cL) (zX b1 b2) wN A) (hret : rx_RV p l e rm_X1_weigh_6_39 s m args below meth c cX1_weigh D vwCl (wX ad cI cL) A Q o) {w4 : Int32} {ls : Array Slot} {H : Heap} {locs : List Loc} {M : Me} (hw : rx_W D vwCl (wX ad cI cL) A s.heap M H locs) (hl : lv_has ls 5 [(0, .ref ((ad 6))), (1, .ref ((ad 39))), (4, .int w4)]) (hf : qb_X1_weigh_6_39_62 w4 M = some o) : W p l e rm_X1_weigh_6_39 s m args below meth c H locs 0 0 Q (F0 m 62 ls []) := by
  have hx := cx.1.1
  have hb := cx.1.2.1
  refine lv_aload_n hx hb dX1_weigh_62 rfl (lv_at hl 0 rfl) ?_
  refine lv_iconst (v := 1) hx hb dX1_weigh_63 ic_1 ?_
  obtain ⟨M1, eM1, hf⟩ := rx_vvI hf
  refine rx_puti cx hw (fiX_6_4 ad cI cL) rfl (inT_X1) tyX1 tyX1_ok nmX1 (Nat.le_of_ble_eq_true rfl) (.tail _ tw_254) rfl rfl rfl eM1 dX1_weigh_64 (fun H locs hw => ?_)
  refine lv_aload_n hx hb dX1_weigh_67 rfl (lv_at hl 0 rfl) ?_
  refine lv_iload hx hb dX1_weigh_68 (lv_at hl 2 rfl) ?_
  obtain ⟨M2, eM2, hf⟩ := rx_vvI hf
  refine rx_puti cx hw (fiX_6_5 ad cI cL) rfl (inT_X1) tyX1 tyX1_ok nmX1 (Nat.le_of_ble_eq_true rfl) (.tail _ tw_255) rfl rfl rfl eM2 dX1_weigh_70 (fun H locs hw => ?_)
  refine lv_aload_n hx hb dX1_weigh_73 rfl (lv_at hl 0 rfl) ?_
  refine lv_aload_n hx hb dX1_weigh_74 rfl (lv_at hl 0 rfl) ?_
  obtain ⟨v3, ev3, hf⟩ := rx_vvI hf
  refine rx_geti cx hw (fiX_6_1 ad cI cL) rfl (inT_X1) (Nat.le_of_ble_eq_true rfl) (.tail _ tw_248) ev3 dX1_weigh_75 ?_
  obtain ⟨M4, eM4, hf⟩ := rx_vvI hf
  refine rx_puti cx hw (fiX_6_6 ad cI cL) rfl (inT_X1) tyX1 tyX1_ok nmX1 (Nat.le_of_ble_eq_true rfl) (.tail _ tw_257) rfl rfl rfl eM4 dX1_weigh_78 (fun H locs hw => ?_)
  refine lv_aload_n hx hb dX1_weigh_81 rfl (lv_at hl 0 rfl) ?_
  refine lv_aload_n hx hb dX1_weigh_82 rfl (lv_at hl 0 rfl) ?_
  obtain ⟨v5, ev5, hf⟩ := rx_vvI hf
  refine rx_geti cx hw (fiX_6_2 ad cI cL) rfl (inT_X1) (Nat.le_of_ble_eq_true rfl) (.tail _ tw_250) ev5 dX1_weigh_83 ?_
  obtain ⟨M6, eM6, hf⟩ := rx_vvI hf
  refine rx_puti cx hw (fiX_6_7 ad cI cL) rfl (inT_X1) tyX1 tyX1_ok nmX1 (Nat.le_of_ble_eq_true rfl) (.tail _ tw_259) rfl rfl rfl eM6 dX1_weigh_86 (fun H locs hw => ?_)
  refine lv_aload_n hx hb dX1_weigh_89 rfl (lv_at hl 1 rfl) ?_
  refine lv_iconst (v := 0) hx hb dX1_weigh_90 ic_0 ?_
  refine lv_aload_n hx hb dX1_weigh_91 rfl (lv_at hl 0 rfl) ?_
  refine rx_getr cx hw (frX_6_8 ad cI cL) rfl (inT_X1) (Nat.le_of_ble_eq_true rfl) (.tail _ tw_261) dX1_weigh_92 ?_
  refine lv_iconst (v := 0) hx hb dX1_weigh_95 ic_0 ?_
  refine lv_iconst (v := 3) hx hb dX1_weigh_96 ic_3 ?_
  obtain ⟨M7, eM7, hf⟩ := rx_vvI hf
  refine rx_copy cx hw (.tail _ tw_644) (.tail _ tw_646) (.tail _ tw_645) (.tail _ tw_12) hl.1 (arX_39 ad cI cL) (arX_38 ad cI cL) eM7 ⟨Nat.le_of_ble_eq_true rfl, Nat.le_of_ble_eq_true rfl⟩ dX1_weigh_97 (fun H locs hw => ?_)
  exact rx_retv hret hw hf dX1_weigh_100
set_option maxRecDepth 100000 in
set_option maxHeartbeats 4000000 in
theorem qk_X1_weigh_6_39_35 (cx : rx_C p m c cX1_weigh 5 s args wX1_weigh RX1 D vwCl (tX cI cL) (zX b1 b2) wN A) (hret : rx_RV p l e rm_X1_weigh_6_39 s m args below meth c cX1_weigh D vwCl (wX ad cI cL) A Q o) {w3 : Int32} {ls : Array Slot} {H : Heap} {locs : List Loc} {M : Me} (hw : rx_W D vwCl (wX ad cI cL) A s.heap M H locs) (hl : lv_has ls 5 [(0, .ref ((ad 6))), (1, .ref ((ad 39))), (3, .int w3)]) (hf : qb_X1_weigh_6_39_35 w3 M = some o) : W p l e rm_X1_weigh_6_39 s m args below meth c H locs 0 0 Q (F0 m 35 ls []) := by
  have hx := cx.1.1
  have hb := cx.1.2.1
  refine lv_aload_n hx hb dX1_weigh_35 rfl (lv_at hl 1 rfl) ?_
  refine lv_aload_n hx hb dX1_weigh_36 rfl (lv_at hl 0 rfl) ?_
  obtain ⟨v1, ev1, hf⟩ := rx_vvI hf
  refine rx_geti cx hw (fiX_6_0 ad cI cL) rfl (inT_X1) (Nat.le_of_ble_eq_true rfl) (.tail _ tw_247) ev1 dX1_weigh_37 ?_
  obtain ⟨hv2, v2, ev2, hf⟩ := rx_ldI hf
  refine rx_iald cx hw (arX_39 ad cI cL) ⟨hv2, ev2⟩ dX1_weigh_40 ?_
  refine lv_iload_n hx hb dX1_weigh_41 rfl (lv_at hl 2 rfl) ?_
  refine lv_isub hx hb dX1_weigh_42 ?_
  obtain ⟨v3, ev3, hf⟩ := rx_vvI hf
  refine rx_top ev3 ?_
  refine lv_istore (lv' := [(4, .int v3), (0, .ref ((ad 6))), (1, .ref ((ad 39))), (3, .int w3)]) hx hb dX1_weigh_43 hl (Nat.le_of_ble_eq_true rfl) rfl (fun ls hl => ?_)
  refine lv_aload_n hx hb dX1_weigh_45 rfl (lv_at hl 1 rfl) ?_
  obtain ⟨v4, ev4, hf⟩ := rx_vvI hf
  refine rx_geti cx hw (fiX_6_4 ad cI cL) rfl (inT_X1) (Nat.le_of_ble_eq_true rfl) (.tail _ tw_254) ev4 dX1_weigh_46 ?_
  refine lv_if_eq hx hb dX1_weigh_49 rfl (fun hc => ?_) (fun hc => ?_)
  · have hf := rx_t hc hf
    exact (qk_X1_weigh_6_39_62 cx hret) hw (lv_sub hl [1, 2, 0] rfl) hf
  · have hf := rx_f hc hf
    refine lv_iload hx hb dX1_weigh_52 (lv_at hl 0 rfl) ?_
    refine lv_aload_n hx hb dX1_weigh_54 rfl (lv_at hl 1 rfl) ?_
    obtain ⟨v5, ev5, hf⟩ := rx_vvI hf
    refine rx_geti cx hw (fiX_6_5 ad cI cL) rfl (inT_X1) (Nat.le_of_ble_eq_true rfl) (.tail _ tw_255) ev5 dX1_weigh_55 ?_
    refine lv_icmp_gt hx hb dX1_weigh_58 rfl (fun hc => ?_) (fun hc => ?_)
    · have hf := rx_t hc hf
      exact (qk_X1_weigh_6_39_62 cx hret) hw (lv_sub hl [1, 2, 0] rfl) hf
    · have hf := rx_f hc hf
      exact rx_retv hret hw hf dX1_weigh_61
set_option maxRecDepth 100000 in
set_option maxHeartbeats 4000000 in
theorem qk_X1_weigh_6_39_0 (cx : rx_C p m c cX1_weigh 5 s args wX1_weigh RX1 D vwCl (tX cI cL) (zX b1 b2) wN A) (hret : rx_RV p l e rm_X1_weigh_6_39 s m args below meth c cX1_weigh D vwCl (wX ad cI cL) A Q o) {w2 : Int32} {ls : Array Slot} {H : Heap} {locs : List Loc} {M : Me} (hw : rx_W D vwCl (wX ad cI cL) A s.heap M H locs) (hl : lv_has ls 5 [(0, .ref ((ad 6))), (1, .ref ((ad 39))), (2, .int w2)]) (hf : qf_X1_weigh_6_39 w2 M = some o) : W p l e rm_X1_weigh_6_39 s m args below meth c H locs 0 0 Q (F0 m 0 ls []) := by
  have hx := cx.1.1
  have hb := cx.1.2.1
  refine lv_iconst (v := 0) hx hb dX1_weigh_0 ic_0 ?_
  refine lv_istore_n (lv' := [(3, .int 0), (0, .ref ((ad 6))), (1, .ref ((ad 39))), (2, .int w2)]) hx hb dX1_weigh_1 rfl hl (Nat.le_of_ble_eq_true rfl) rfl (fun ls hl => ?_)
  refine lv_iconst (v := 0) hx hb dX1_weigh_2 ic_0 ?_
  refine lv_istore (lv' := [(4, .int 0), (3, .int 0), (0, .ref ((ad 6))), (1, .ref ((ad 39))), (2, .int w2)]) hx hb dX1_weigh_3 hl (Nat.le_of_ble_eq_true rfl) rfl (fun ls hl => ?_)
  exact (qk_X1_weigh_6_39_5 cx hret (qk_X1_weigh_6_39_35 cx hret) rx_FU) hw (lv_sub hl [2, 3, 4, 1, 0] rfl) hf
end
set_option maxRecDepth 100000 in
theorem qc_X1_weigh_6_39 (l : Launch) (D : va_G) (ad : Nat → Nat) (cI cL : ClassId) (b1 b2 : Nat) (w2 : Int32) : rx_MV l yX1_weigh wX1_weigh rm_X1_weigh_6_39 D vwCl (wX ad cI cL) (tX cI cL) (zX b1 b2) wN [.ref (ad 6), .ref (ad 39), .int w2] (fun M => qf_X1_weigh_6_39 w2 M) :=
  rx_ofV (by decide) rfl wN_ok (Nat.le_of_ble_eq_true rfl) (fun _ _ _ _ _ _ _ _ _ _ _ _ _ cx hret hw hl hf => qk_X1_weigh_6_39_0 cx hret hw hl hf)
def rm_X1_weigh_7_38 : Room := { frames := 1, cells := 0, slots := 0, locals := 35 }
noncomputable def qb_X1_weigh_7_38_29 (k5 : Int32 → Int32 → Me → Op) (w2 : Int32) (w3 : Int32) (w4 : Int32)  (M : Me) : Op :=
  rx_vv (w4 + 1) fun v1 => k5 w3 v1 M
noncomputable def qo_X1_weigh_7_38_5 (k35 : Int32 → Me → Op) (w2 : Int32) (rec : Int32 → Int32 → Me → Op) (w3 : Int32) (w4 : Int32) (M : Me) : Op :=
  if w2 ≤ w4 then (k35 w3 M) else (rx_vv (M 7 0) fun v1 => if w4 = v1 then (qb_X1_weigh_7_38_29 rec w2 w3 w4 M) else (rx_ld M 38 3 w4 fun v2 => rx_vv ((if w3 < v2 then v2 else w3)) fun v3 => qb_X1_weigh_7_38_29 rec w2 v3 w4 M))
noncomputable def qb_X1_weigh_7_38_62  (w4 : Int32)  (M : Me) : Op :=
  rx_vv (rx_st M 7 4 1) fun M1 => rx_vv (rx_st M1 7 5 w4) fun M2 => rx_vv (M2 7 1) fun v3 => rx_vv (rx_st M2 7 6 v3) fun M4 => rx_vv (M4 7 2) fun v5 => rx_vv (rx_st M4 7 7 v5) fun M6 => rx_vv (rx_cp3 M6 38 39) fun M7 => some (0, M7)
noncomputable def qb_X1_weigh_7_38_35  (w3 : Int32)  (M : Me) : Op :=
  rx_vv (M 7 0) fun v1 => rx_ld M 38 3 v1 fun v2 => rx_vv (v2 - w3) fun v3 => rx_vv (M 7 4) fun v4 => if v4 = 0 then (qb_X1_weigh_7_38_62 v3 M) else (rx_vv (M 7 5) fun v5 => if v5 < v3 then (qb_X1_weigh_7_38_62 v3 M) else (some (0, M)))
noncomputable def qf_X1_weigh_7_38  (w2 : Int32)  (M : Me) : Op :=
  rx_lp2 (qo_X1_weigh_7_38_5 (fun a3 M => qb_X1_weigh_7_38_35 a3 M) w2) rx_FU 0 0 M
section
variable {p : Program} {l : Launch} {e : Env} {s : State} {m : MethodId} {args : Array Value} {below : List Frame} {meth : Method} {c : Code} {Q : State → Prop} {D : va_G} {A : Nat → Prop} {o : Int32 × Me} {ad : Nat → Nat} {cI cL : ClassId} {b1 b2 : Nat}
set_option maxRecDepth 100000 in
set_option maxHeartbeats 4000000 in
theorem qk_X1_weigh_7_38_29 (cx : rx_C p m c cX1_weigh 5 s args wX1_weigh RX1 D vwCl (tX cI cL) (zX b1 b2) wN A) (hret : rx_RV p l e rm_X1_weigh_7_38 s m args below meth c cX1_weigh D vwCl (wX ad cI cL) A Q o) {w2 : Int32} {w3 : Int32} {w4 : Int32} {k5 : Int32 → Int32 → Me → Op} (h5 : ∀ {a3 : Int32} {a4 : Int32} {ls : Array Slot} {H : Heap} {locs : List Loc} {M : Me}, rx_W D vwCl (wX ad cI cL) A s.heap M H locs → lv_has ls 5 [(0, .ref ((ad 7))), (1, .ref ((ad 38))), (2, .int w2), (3, .int a3), (4, .int a4)] → k5 a3 a4 M = some o → W p l e rm_X1_weigh_7_38 s m args below meth c H locs 0 0 Q (F0 m 5 ls [])) {ls : Array Slot} {H : Heap} {locs : List Loc} {M : Me} (hw : rx_W D vwCl (wX ad cI cL) A s.heap M H locs) (hl : lv_has ls 5 [(0, .ref ((ad 7))), (1, .ref ((ad 38))), (2, .int w2), (3, .int w3), (4, .int w4)]) (hf : qb_X1_weigh_7_38_29 k5 w2 w3 w4 M = some o) : W p l e rm_X1_weigh_7_38 s m args below meth c H locs 0 0 Q (F0 m 29 ls []) := by
  have hx := cx.1.1
  have hb := cx.1.2.1
  obtain ⟨v1, ev1, hf⟩ := rx_vvI hf
  refine lv_iinc (lv' := [(4, .int v1), (0, .ref ((ad 7))), (1, .ref ((ad 38))), (2, .int w2), (3, .int w3)]) hx hb dX1_weigh_29 hl (k := 4) rfl (rx_inc ic_1 ev1) (Nat.le_of_ble_eq_true rfl) rfl (fun ls hl => ?_)
  refine lv_goto hx hb dX1_weigh_32 rfl ?_
  exact h5 hw (lv_sub hl [1, 2, 3, 4, 0] rfl) hf
set_option maxRecDepth 100000 in
set_option maxHeartbeats 4000000 in
theorem qk_X1_weigh_7_38_5 (cx : rx_C p m c cX1_weigh 5 s args wX1_weigh RX1 D vwCl (tX cI cL) (zX b1 b2) wN A) (hret : rx_RV p l e rm_X1_weigh_7_38 s m args below meth c cX1_weigh D vwCl (wX ad cI cL) A Q o) {w2 : Int32} {k35 : Int32 → Me → Op} (h35 : ∀ {a3 : Int32} {ls : Array Slot} {H : Heap} {locs : List Loc} {M : Me}, rx_W D vwCl (wX ad cI cL) A s.heap M H locs → lv_has ls 5 [(0, .ref ((ad 7))), (1, .ref ((ad 38))), (3, .int a3)] → k35 a3 M = some o → W p l e rm_X1_weigh_7_38 s m args below meth c H locs 0 0 Q (F0 m 35 ls [])) : ∀ (n : Nat) {w3 : Int32} {w4 : Int32} {ls : Array Slot} {H : Heap} {locs : List Loc} {M : Me}, rx_W D vwCl (wX ad cI cL) A s.heap M H locs → lv_has ls 5 [(0, .ref ((ad 7))), (1, .ref ((ad 38))), (2, .int w2), (3, .int w3), (4, .int w4)] → rx_lp2 (qo_X1_weigh_7_38_5 k35 w2) n w3 w4 M = some o → W p l e rm_X1_weigh_7_38 s m args below meth c H locs 0 0 Q (F0 m 5 ls []) := by
  have hx := cx.1.1
  have hb := cx.1.2.1
  intro n
  induction n with
  | zero => intro w3 w4 ls H locs M hw hl hf; exact rx_no hf
  | succ n ih =>
    intro w3 w4 ls H locs M hw hl hf
    have hf : qo_X1_weigh_7_38_5 k35 w2 (rx_lp2 (qo_X1_weigh_7_38_5 k35 w2) n) w3 w4 M = some o := hf
    refine lv_iload hx hb dX1_weigh_5 (lv_at hl 4 rfl) ?_
    refine lv_iload_n hx hb dX1_weigh_7 rfl (lv_at hl 2 rfl) ?_
    refine lv_icmp_ge hx hb dX1_weigh_8 rfl (fun hc => ?_) (fun hc => ?_)
    · have hf := rx_t hc hf
      exact h35 hw (lv_sub hl [0, 1, 3] rfl) hf
    · have hf := rx_f hc hf
      refine lv_iload hx hb dX1_weigh_11 (lv_at hl 4 rfl) ?_
      refine lv_aload_n hx hb dX1_weigh_13 rfl (lv_at hl 0 rfl) ?_
      obtain ⟨v1, ev1, hf⟩ := rx_vvI hf
      refine rx_geti cx hw (fiX_7_0 ad cI cL) rfl (inT_X1) (Nat.le_of_ble_eq_true rfl) (.tail _ tw_247) ev1 dX1_weigh_14 ?_
      refine lv_icmp_eq hx hb dX1_weigh_17 rfl (fun hc => ?_) (fun hc => ?_)
      · have hf := rx_t hc hf
        exact (qk_X1_weigh_7_38_29 cx hret ih) hw hl hf
      · have hf := rx_f hc hf
        refine lv_iload_n hx hb dX1_weigh_20 rfl (lv_at hl 3 rfl) ?_
        refine lv_aload_n hx hb dX1_weigh_21 rfl (lv_at hl 1 rfl) ?_
        refine lv_iload hx hb dX1_weigh_22 (lv_at hl 4 rfl) ?_
        obtain ⟨hv2, v2, ev2, hf⟩ := rx_ldI hf
        refine rx_iald cx hw (arX_38 ad cI cL) ⟨hv2, ev2⟩ dX1_weigh_24 ?_
        refine rx_max cx (.tail _ tw_643) (.tail _ tw_501) (.tail _ tw_10) (.tail _ tw_502) hl.1 ⟨Nat.le_of_ble_eq_true rfl, Nat.le_of_ble_eq_true rfl, Nat.zero_le _, Nat.zero_le _⟩ dX1_weigh_25 ?_
        obtain ⟨v3, ev3, hf⟩ := rx_vvI hf
        refine rx_top ev3 ?_
        refine lv_istore_n (lv' := [(3, .int v3), (0, .ref ((ad 7))), (1, .ref ((ad 38))), (2, .int w2), (4, .int w4)]) hx hb dX1_weigh_28 rfl hl (Nat.le_of_ble_eq_true rfl) rfl (fun ls hl => ?_)
        exact (qk_X1_weigh_7_38_29 cx hret ih) hw (lv_sub hl [1, 2, 3, 0, 4] rfl) hf
set_option maxRecDepth 100000 in
set_option maxHeartbeats 4000000 in
theorem qk_X1_weigh_7_38_62 (cx : rx_C p m c cX1_weigh 5 s args wX1_weigh RX1 D vwCl (tX cI cL) (zX b1 b2) wN A) (hret : rx_RV p l e rm_X1_weigh_7_38 s m args below meth c cX1_weigh D vwCl (wX ad cI cL) A Q o) {w4 : Int32} {ls : Array Slot} {H : Heap} {locs : List Loc} {M : Me} (hw : rx_W D vwCl (wX ad cI cL) A s.heap M H locs) (hl : lv_has ls 5 [(0, .ref ((ad 7))), (1, .ref ((ad 38))), (4, .int w4)]) (hf : qb_X1_weigh_7_38_62 w4 M = some o) : W p l e rm_X1_weigh_7_38 s m args below meth c H locs 0 0 Q (F0 m 62 ls []) := by
  have hx := cx.1.1
  have hb := cx.1.2.1
  refine lv_aload_n hx hb dX1_weigh_62 rfl (lv_at hl 0 rfl) ?_
  refine lv_iconst (v := 1) hx hb dX1_weigh_63 ic_1 ?_
  obtain ⟨M1, eM1, hf⟩ := rx_vvI hf
  refine rx_puti cx hw (fiX_7_4 ad cI cL) rfl (inT_X1) tyX1 tyX1_ok nmX1 (Nat.le_of_ble_eq_true rfl) (.tail _ tw_254) rfl rfl rfl eM1 dX1_weigh_64 (fun H locs hw => ?_)
  refine lv_aload_n hx hb dX1_weigh_67 rfl (lv_at hl 0 rfl) ?_
  refine lv_iload hx hb dX1_weigh_68 (lv_at hl 2 rfl) ?_
  obtain ⟨M2, eM2, hf⟩ := rx_vvI hf
  refine rx_puti cx hw (fiX_7_5 ad cI cL) rfl (inT_X1) tyX1 tyX1_ok nmX1 (Nat.le_of_ble_eq_true rfl) (.tail _ tw_255) rfl rfl rfl eM2 dX1_weigh_70 (fun H locs hw => ?_)
  refine lv_aload_n hx hb dX1_weigh_73 rfl (lv_at hl 0 rfl) ?_
  refine lv_aload_n hx hb dX1_weigh_74 rfl (lv_at hl 0 rfl) ?_
  obtain ⟨v3, ev3, hf⟩ := rx_vvI hf
  refine rx_geti cx hw (fiX_7_1 ad cI cL) rfl (inT_X1) (Nat.le_of_ble_eq_true rfl) (.tail _ tw_248) ev3 dX1_weigh_75 ?_
  obtain ⟨M4, eM4, hf⟩ := rx_vvI hf
  refine rx_puti cx hw (fiX_7_6 ad cI cL) rfl (inT_X1) tyX1 tyX1_ok nmX1 (Nat.le_of_ble_eq_true rfl) (.tail _ tw_257) rfl rfl rfl eM4 dX1_weigh_78 (fun H locs hw => ?_)
  refine lv_aload_n hx hb dX1_weigh_81 rfl (lv_at hl 0 rfl) ?_
  refine lv_aload_n hx hb dX1_weigh_82 rfl (lv_at hl 0 rfl) ?_
  obtain ⟨v5, ev5, hf⟩ := rx_vvI hf
  refine rx_geti cx hw (fiX_7_2 ad cI cL) rfl (inT_X1) (Nat.le_of_ble_eq_true rfl) (.tail _ tw_250) ev5 dX1_weigh_83 ?_
  obtain ⟨M6, eM6, hf⟩ := rx_vvI hf
  refine rx_puti cx hw (fiX_7_7 ad cI cL) rfl (inT_X1) tyX1 tyX1_ok nmX1 (Nat.le_of_ble_eq_true rfl) (.tail _ tw_259) rfl rfl rfl eM6 dX1_weigh_86 (fun H locs hw => ?_)
  refine lv_aload_n hx hb dX1_weigh_89 rfl (lv_at hl 1 rfl) ?_
  refine lv_iconst (v := 0) hx hb dX1_weigh_90 ic_0 ?_
  refine lv_aload_n hx hb dX1_weigh_91 rfl (lv_at hl 0 rfl) ?_
  refine rx_getr cx hw (frX_7_8 ad cI cL) rfl (inT_X1) (Nat.le_of_ble_eq_true rfl) (.tail _ tw_261) dX1_weigh_92 ?_
  refine lv_iconst (v := 0) hx hb dX1_weigh_95 ic_0 ?_
  refine lv_iconst (v := 3) hx hb dX1_weigh_96 ic_3 ?_
  obtain ⟨M7, eM7, hf⟩ := rx_vvI hf
  refine rx_copy cx hw (.tail _ tw_644) (.tail _ tw_646) (.tail _ tw_645) (.tail _ tw_12) hl.1 (arX_38 ad cI cL) (arX_39 ad cI cL) eM7 ⟨Nat.le_of_ble_eq_true rfl, Nat.le_of_ble_eq_true rfl⟩ dX1_weigh_97 (fun H locs hw => ?_)
  exact rx_retv hret hw hf dX1_weigh_100
set_option maxRecDepth 100000 in
set_option maxHeartbeats 4000000 in
theorem qk_X1_weigh_7_38_35 (cx : rx_C p m c cX1_weigh 5 s args wX1_weigh RX1 D vwCl (tX cI cL) (zX b1 b2) wN A) (hret : rx_RV p l e rm_X1_weigh_7_38 s m args below meth c cX1_weigh D vwCl (wX ad cI cL) A Q o) {w3 : Int32} {ls : Array Slot} {H : Heap} {locs : List Loc} {M : Me} (hw : rx_W D vwCl (wX ad cI cL) A s.heap M H locs) (hl : lv_has ls 5 [(0, .ref ((ad 7))), (1, .ref ((ad 38))), (3, .int w3)]) (hf : qb_X1_weigh_7_38_35 w3 M = some o) : W p l e rm_X1_weigh_7_38 s m args below meth c H locs 0 0 Q (F0 m 35 ls []) := by
  have hx := cx.1.1
  have hb := cx.1.2.1
  refine lv_aload_n hx hb dX1_weigh_35 rfl (lv_at hl 1 rfl) ?_
  refine lv_aload_n hx hb dX1_weigh_36 rfl (lv_at hl 0 rfl) ?_
  obtain ⟨v1, ev1, hf⟩ := rx_vvI hf
  refine rx_geti cx hw (fiX_7_0 ad cI cL) rfl (inT_X1) (Nat.le_of_ble_eq_true rfl) (.tail _ tw_247) ev1 dX1_weigh_37 ?_
  obtain ⟨hv2, v2, ev2, hf⟩ := rx_ldI hf
  refine rx_iald cx hw (arX_38 ad cI cL) ⟨hv2, ev2⟩ dX1_weigh_40 ?_
  refine lv_iload_n hx hb dX1_weigh_41 rfl (lv_at hl 2 rfl) ?_
  refine lv_isub hx hb dX1_weigh_42 ?_
  obtain ⟨v3, ev3, hf⟩ := rx_vvI hf
  refine rx_top ev3 ?_
  refine lv_istore (lv' := [(4, .int v3), (0, .ref ((ad 7))), (1, .ref ((ad 38))), (3, .int w3)]) hx hb dX1_weigh_43 hl (Nat.le_of_ble_eq_true rfl) rfl (fun ls hl => ?_)
  refine lv_aload_n hx hb dX1_weigh_45 rfl (lv_at hl 1 rfl) ?_
  obtain ⟨v4, ev4, hf⟩ := rx_vvI hf
  refine rx_geti cx hw (fiX_7_4 ad cI cL) rfl (inT_X1) (Nat.le_of_ble_eq_true rfl) (.tail _ tw_254) ev4 dX1_weigh_46 ?_
  refine lv_if_eq hx hb dX1_weigh_49 rfl (fun hc => ?_) (fun hc => ?_)
  · have hf := rx_t hc hf
    exact (qk_X1_weigh_7_38_62 cx hret) hw (lv_sub hl [1, 2, 0] rfl) hf
  · have hf := rx_f hc hf
    refine lv_iload hx hb dX1_weigh_52 (lv_at hl 0 rfl) ?_
    refine lv_aload_n hx hb dX1_weigh_54 rfl (lv_at hl 1 rfl) ?_
    obtain ⟨v5, ev5, hf⟩ := rx_vvI hf
    refine rx_geti cx hw (fiX_7_5 ad cI cL) rfl (inT_X1) (Nat.le_of_ble_eq_true rfl) (.tail _ tw_255) ev5 dX1_weigh_55 ?_
    refine lv_icmp_gt hx hb dX1_weigh_58 rfl (fun hc => ?_) (fun hc => ?_)
    · have hf := rx_t hc hf
      exact (qk_X1_weigh_7_38_62 cx hret) hw (lv_sub hl [1, 2, 0] rfl) hf
    · have hf := rx_f hc hf
      exact rx_retv hret hw hf dX1_weigh_61
set_option maxRecDepth 100000 in
set_option maxHeartbeats 4000000 in
theorem qk_X1_weigh_7_38_0 (cx : rx_C p m c cX1_weigh 5 s args wX1_weigh RX1 D vwCl (tX cI cL) (zX b1 b2) wN A) (hret : rx_RV p l e rm_X1_weigh_7_38 s m args below meth c cX1_weigh D vwCl (wX ad cI cL) A Q o) {w2 : Int32} {ls : Array Slot} {H : Heap} {locs : List Loc} {M : Me} (hw : rx_W D vwCl (wX ad cI cL) A s.heap M H locs) (hl : lv_has ls 5 [(0, .ref ((ad 7))), (1, .ref ((ad 38))), (2, .int w2)]) (hf : qf_X1_weigh_7_38 w2 M = some o) : W p l e rm_X1_weigh_7_38 s m args below meth c H locs 0 0 Q (F0 m 0 ls []) := by
  have hx := cx.1.1
  have hb := cx.1.2.1
  refine lv_iconst (v := 0) hx hb dX1_weigh_0 ic_0 ?_
  refine lv_istore_n (lv' := [(3, .int 0), (0, .ref ((ad 7))), (1, .ref ((ad 38))), (2, .int w2)]) hx hb dX1_weigh_1 rfl hl (Nat.le_of_ble_eq_true rfl) rfl (fun ls hl => ?_)
  refine lv_iconst (v := 0) hx hb dX1_weigh_2 ic_0 ?_
  refine lv_istore (lv' := [(4, .int 0), (3, .int 0), (0, .ref ((ad 7))), (1, .ref ((ad 38))), (2, .int w2)]) hx hb dX1_weigh_3 hl (Nat.le_of_ble_eq_true rfl) rfl (fun ls hl => ?_)
  exact (qk_X1_weigh_7_38_5 cx hret (qk_X1_weigh_7_38_35 cx hret) rx_FU) hw (lv_sub hl [2, 3, 4, 1, 0] rfl) hf
end
set_option maxRecDepth 100000 in
theorem qc_X1_weigh_7_38 (l : Launch) (D : va_G) (ad : Nat → Nat) (cI cL : ClassId) (b1 b2 : Nat) (w2 : Int32) : rx_MV l yX1_weigh wX1_weigh rm_X1_weigh_7_38 D vwCl (wX ad cI cL) (tX cI cL) (zX b1 b2) wN [.ref (ad 7), .ref (ad 38), .int w2] (fun M => qf_X1_weigh_7_38 w2 M) :=
  rx_ofV (by decide) rfl wN_ok (Nat.le_of_ble_eq_true rfl) (fun _ _ _ _ _ _ _ _ _ _ _ _ _ cx hret hw hl hf => qk_X1_weigh_7_38_0 cx hret hw hl hf)
def rm_X1_weigh_7_39 : Room := { frames := 1, cells := 0, slots := 0, locals := 35 }
noncomputable def qb_X1_weigh_7_39_29 (k5 : Int32 → Int32 → Me → Op) (w2 : Int32) (w3 : Int32) (w4 : Int32)  (M : Me) : Op :=
  rx_vv (w4 + 1) fun v1 => k5 w3 v1 M
noncomputable def qo_X1_weigh_7_39_5 (k35 : Int32 → Me → Op) (w2 : Int32) (rec : Int32 → Int32 → Me → Op) (w3 : Int32) (w4 : Int32) (M : Me) : Op :=
  if w2 ≤ w4 then (k35 w3 M) else (rx_vv (M 7 0) fun v1 => if w4 = v1 then (qb_X1_weigh_7_39_29 rec w2 w3 w4 M) else (rx_ld M 39 3 w4 fun v2 => rx_vv ((if w3 < v2 then v2 else w3)) fun v3 => qb_X1_weigh_7_39_29 rec w2 v3 w4 M))
noncomputable def qb_X1_weigh_7_39_62  (w4 : Int32)  (M : Me) : Op :=
  rx_vv (rx_st M 7 4 1) fun M1 => rx_vv (rx_st M1 7 5 w4) fun M2 => rx_vv (M2 7 1) fun v3 => rx_vv (rx_st M2 7 6 v3) fun M4 => rx_vv (M4 7 2) fun v5 => rx_vv (rx_st M4 7 7 v5) fun M6 => rx_vv (rx_cp3 M6 39 39) fun M7 => some (0, M7)
noncomputable def qb_X1_weigh_7_39_35  (w3 : Int32)  (M : Me) : Op :=
  rx_vv (M 7 0) fun v1 => rx_ld M 39 3 v1 fun v2 => rx_vv (v2 - w3) fun v3 => rx_vv (M 7 4) fun v4 => if v4 = 0 then (qb_X1_weigh_7_39_62 v3 M) else (rx_vv (M 7 5) fun v5 => if v5 < v3 then (qb_X1_weigh_7_39_62 v3 M) else (some (0, M)))
noncomputable def qf_X1_weigh_7_39  (w2 : Int32)  (M : Me) : Op :=
  rx_lp2 (qo_X1_weigh_7_39_5 (fun a3 M => qb_X1_weigh_7_39_35 a3 M) w2) rx_FU 0 0 M
section
variable {p : Program} {l : Launch} {e : Env} {s : State} {m : MethodId} {args : Array Value} {below : List Frame} {meth : Method} {c : Code} {Q : State → Prop} {D : va_G} {A : Nat → Prop} {o : Int32 × Me} {ad : Nat → Nat} {cI cL : ClassId} {b1 b2 : Nat}
set_option maxRecDepth 100000 in
set_option maxHeartbeats 4000000 in
theorem qk_X1_weigh_7_39_29 (cx : rx_C p m c cX1_weigh 5 s args wX1_weigh RX1 D vwCl (tX cI cL) (zX b1 b2) wN A) (hret : rx_RV p l e rm_X1_weigh_7_39 s m args below meth c cX1_weigh D vwCl (wX ad cI cL) A Q o) {w2 : Int32} {w3 : Int32} {w4 : Int32} {k5 : Int32 → Int32 → Me → Op} (h5 : ∀ {a3 : Int32} {a4 : Int32} {ls : Array Slot} {H : Heap} {locs : List Loc} {M : Me}, rx_W D vwCl (wX ad cI cL) A s.heap M H locs → lv_has ls 5 [(0, .ref ((ad 7))), (1, .ref ((ad 39))), (2, .int w2), (3, .int a3), (4, .int a4)] → k5 a3 a4 M = some o → W p l e rm_X1_weigh_7_39 s m args below meth c H locs 0 0 Q (F0 m 5 ls [])) {ls : Array Slot} {H : Heap} {locs : List Loc} {M : Me} (hw : rx_W D vwCl (wX ad cI cL) A s.heap M H locs) (hl : lv_has ls 5 [(0, .ref ((ad 7))), (1, .ref ((ad 39))), (2, .int w2), (3, .int w3), (4, .int w4)]) (hf : qb_X1_weigh_7_39_29 k5 w2 w3 w4 M = some o) : W p l e rm_X1_weigh_7_39 s m args below meth c H locs 0 0 Q (F0 m 29 ls []) := by
  have hx := cx.1.1
  have hb := cx.1.2.1
  obtain ⟨v1, ev1, hf⟩ := rx_vvI hf
  refine lv_iinc (lv' := [(4, .int v1), (0, .ref ((ad 7))), (1, .ref ((ad 39))), (2, .int w2), (3, .int w3)]) hx hb dX1_weigh_29 hl (k := 4) rfl (rx_inc ic_1 ev1) (Nat.le_of_ble_eq_true rfl) rfl (fun ls hl => ?_)
  refine lv_goto hx hb dX1_weigh_32 rfl ?_
  exact h5 hw (lv_sub hl [1, 2, 3, 4, 0] rfl) hf
set_option maxRecDepth 100000 in
set_option maxHeartbeats 4000000 in
theorem qk_X1_weigh_7_39_5 (cx : rx_C p m c cX1_weigh 5 s args wX1_weigh RX1 D vwCl (tX cI cL) (zX b1 b2) wN A) (hret : rx_RV p l e rm_X1_weigh_7_39 s m args below meth c cX1_weigh D vwCl (wX ad cI cL) A Q o) {w2 : Int32} {k35 : Int32 → Me → Op} (h35 : ∀ {a3 : Int32} {ls : Array Slot} {H : Heap} {locs : List Loc} {M : Me}, rx_W D vwCl (wX ad cI cL) A s.heap M H locs → lv_has ls 5 [(0, .ref ((ad 7))), (1, .ref ((ad 39))), (3, .int a3)] → k35 a3 M = some o → W p l e rm_X1_weigh_7_39 s m args below meth c H locs 0 0 Q (F0 m 35 ls [])) : ∀ (n : Nat) {w3 : Int32} {w4 : Int32} {ls : Array Slot} {H : Heap} {locs : List Loc} {M : Me}, rx_W D vwCl (wX ad cI cL) A s.heap M H locs → lv_has ls 5 [(0, .ref ((ad 7))), (1, .ref ((ad 39))), (2, .int w2), (3, .int w3), (4, .int w4)] → rx_lp2 (qo_X1_weigh_7_39_5 k35 w2) n w3 w4 M = some o → W p l e rm_X1_weigh_7_39 s m args below meth c H locs 0 0 Q (F0 m 5 ls []) := by
  have hx := cx.1.1
  have hb := cx.1.2.1
  intro n
  induction n with
  | zero => intro w3 w4 ls H locs M hw hl hf; exact rx_no hf
  | succ n ih =>
    intro w3 w4 ls H locs M hw hl hf
    have hf : qo_X1_weigh_7_39_5 k35 w2 (rx_lp2 (qo_X1_weigh_7_39_5 k35 w2) n) w3 w4 M = some o := hf
    refine lv_iload hx hb dX1_weigh_5 (lv_at hl 4 rfl) ?_
    refine lv_iload_n hx hb dX1_weigh_7 rfl (lv_at hl 2 rfl) ?_
    refine lv_icmp_ge hx hb dX1_weigh_8 rfl (fun hc => ?_) (fun hc => ?_)
    · have hf := rx_t hc hf
      exact h35 hw (lv_sub hl [0, 1, 3] rfl) hf
    · have hf := rx_f hc hf
      refine lv_iload hx hb dX1_weigh_11 (lv_at hl 4 rfl) ?_
      refine lv_aload_n hx hb dX1_weigh_13 rfl (lv_at hl 0 rfl) ?_
      obtain ⟨v1, ev1, hf⟩ := rx_vvI hf
      refine rx_geti cx hw (fiX_7_0 ad cI cL) rfl (inT_X1) (Nat.le_of_ble_eq_true rfl) (.tail _ tw_247) ev1 dX1_weigh_14 ?_
      refine lv_icmp_eq hx hb dX1_weigh_17 rfl (fun hc => ?_) (fun hc => ?_)
      · have hf := rx_t hc hf
        exact (qk_X1_weigh_7_39_29 cx hret ih) hw hl hf
      · have hf := rx_f hc hf
        refine lv_iload_n hx hb dX1_weigh_20 rfl (lv_at hl 3 rfl) ?_
        refine lv_aload_n hx hb dX1_weigh_21 rfl (lv_at hl 1 rfl) ?_
        refine lv_iload hx hb dX1_weigh_22 (lv_at hl 4 rfl) ?_
        obtain ⟨hv2, v2, ev2, hf⟩ := rx_ldI hf
        refine rx_iald cx hw (arX_39 ad cI cL) ⟨hv2, ev2⟩ dX1_weigh_24 ?_
        refine rx_max cx (.tail _ tw_643) (.tail _ tw_501) (.tail _ tw_10) (.tail _ tw_502) hl.1 ⟨Nat.le_of_ble_eq_true rfl, Nat.le_of_ble_eq_true rfl, Nat.zero_le _, Nat.zero_le _⟩ dX1_weigh_25 ?_
        obtain ⟨v3, ev3, hf⟩ := rx_vvI hf
        refine rx_top ev3 ?_
        refine lv_istore_n (lv' := [(3, .int v3), (0, .ref ((ad 7))), (1, .ref ((ad 39))), (2, .int w2), (4, .int w4)]) hx hb dX1_weigh_28 rfl hl (Nat.le_of_ble_eq_true rfl) rfl (fun ls hl => ?_)
        exact (qk_X1_weigh_7_39_29 cx hret ih) hw (lv_sub hl [1, 2, 3, 0, 4] rfl) hf
set_option maxRecDepth 100000 in
set_option maxHeartbeats 4000000 in
theorem qk_X1_weigh_7_39_62 (cx : rx_C p m c cX1_weigh 5 s args wX1_weigh RX1 D vwCl (tX cI cL) (zX b1 b2) wN A) (hret : rx_RV p l e rm_X1_weigh_7_39 s m args below meth c cX1_weigh D vwCl (wX ad cI cL) A Q o) {w4 : Int32} {ls : Array Slot} {H : Heap} {locs : List Loc} {M : Me} (hw : rx_W D vwCl (wX ad cI cL) A s.heap M H locs) (hl : lv_has ls 5 [(0, .ref ((ad 7))), (1, .ref ((ad 39))), (4, .int w4)]) (hf : qb_X1_weigh_7_39_62 w4 M = some o) : W p l e rm_X1_weigh_7_39 s m args below meth c H locs 0 0 Q (F0 m 62 ls []) := by
  have hx := cx.1.1
  have hb := cx.1.2.1
  refine lv_aload_n hx hb dX1_weigh_62 rfl (lv_at hl 0 rfl) ?_
  refine lv_iconst (v := 1) hx hb dX1_weigh_63 ic_1 ?_
  obtain ⟨M1, eM1, hf⟩ := rx_vvI hf
  refine rx_puti cx hw (fiX_7_4 ad cI cL) rfl (inT_X1) tyX1 tyX1_ok nmX1 (Nat.le_of_ble_eq_true rfl) (.tail _ tw_254) rfl rfl rfl eM1 dX1_weigh_64 (fun H locs hw => ?_)
  refine lv_aload_n hx hb dX1_weigh_67 rfl (lv_at hl 0 rfl) ?_
  refine lv_iload hx hb dX1_weigh_68 (lv_at hl 2 rfl) ?_
  obtain ⟨M2, eM2, hf⟩ := rx_vvI hf
  refine rx_puti cx hw (fiX_7_5 ad cI cL) rfl (inT_X1) tyX1 tyX1_ok nmX1 (Nat.le_of_ble_eq_true rfl) (.tail _ tw_255) rfl rfl rfl eM2 dX1_weigh_70 (fun H locs hw => ?_)
  refine lv_aload_n hx hb dX1_weigh_73 rfl (lv_at hl 0 rfl) ?_
  refine lv_aload_n hx hb dX1_weigh_74 rfl (lv_at hl 0 rfl) ?_
  obtain ⟨v3, ev3, hf⟩ := rx_vvI hf
  refine rx_geti cx hw (fiX_7_1 ad cI cL) rfl (inT_X1) (Nat.le_of_ble_eq_true rfl) (.tail _ tw_248) ev3 dX1_weigh_75 ?_
  obtain ⟨M4, eM4, hf⟩ := rx_vvI hf
  refine rx_puti cx hw (fiX_7_6 ad cI cL) rfl (inT_X1) tyX1 tyX1_ok nmX1 (Nat.le_of_ble_eq_true rfl) (.tail _ tw_257) rfl rfl rfl eM4 dX1_weigh_78 (fun H locs hw => ?_)
  refine lv_aload_n hx hb dX1_weigh_81 rfl (lv_at hl 0 rfl) ?_
  refine lv_aload_n hx hb dX1_weigh_82 rfl (lv_at hl 0 rfl) ?_
  obtain ⟨v5, ev5, hf⟩ := rx_vvI hf
  refine rx_geti cx hw (fiX_7_2 ad cI cL) rfl (inT_X1) (Nat.le_of_ble_eq_true rfl) (.tail _ tw_250) ev5 dX1_weigh_83 ?_
  obtain ⟨M6, eM6, hf⟩ := rx_vvI hf
  refine rx_puti cx hw (fiX_7_7 ad cI cL) rfl (inT_X1) tyX1 tyX1_ok nmX1 (Nat.le_of_ble_eq_true rfl) (.tail _ tw_259) rfl rfl rfl eM6 dX1_weigh_86 (fun H locs hw => ?_)
  refine lv_aload_n hx hb dX1_weigh_89 rfl (lv_at hl 1 rfl) ?_
  refine lv_iconst (v := 0) hx hb dX1_weigh_90 ic_0 ?_
  refine lv_aload_n hx hb dX1_weigh_91 rfl (lv_at hl 0 rfl) ?_
  refine rx_getr cx hw (frX_7_8 ad cI cL) rfl (inT_X1) (Nat.le_of_ble_eq_true rfl) (.tail _ tw_261) dX1_weigh_92 ?_
  refine lv_iconst (v := 0) hx hb dX1_weigh_95 ic_0 ?_
  refine lv_iconst (v := 3) hx hb dX1_weigh_96 ic_3 ?_
  obtain ⟨M7, eM7, hf⟩ := rx_vvI hf
  refine rx_copy cx hw (.tail _ tw_644) (.tail _ tw_646) (.tail _ tw_645) (.tail _ tw_12) hl.1 (arX_39 ad cI cL) (arX_39 ad cI cL) eM7 ⟨Nat.le_of_ble_eq_true rfl, Nat.le_of_ble_eq_true rfl⟩ dX1_weigh_97 (fun H locs hw => ?_)
  exact rx_retv hret hw hf dX1_weigh_100
set_option maxRecDepth 100000 in
set_option maxHeartbeats 4000000 in
theorem qk_X1_weigh_7_39_35 (cx : rx_C p m c cX1_weigh 5 s args wX1_weigh RX1 D vwCl (tX cI cL) (zX b1 b2) wN A) (hret : rx_RV p l e rm_X1_weigh_7_39 s m args below meth c cX1_weigh D vwCl (wX ad cI cL) A Q o) {w3 : Int32} {ls : Array Slot} {H : Heap} {locs : List Loc} {M : Me} (hw : rx_W D vwCl (wX ad cI cL) A s.heap M H locs) (hl : lv_has ls 5 [(0, .ref ((ad 7))), (1, .ref ((ad 39))), (3, .int w3)]) (hf : qb_X1_weigh_7_39_35 w3 M = some o) : W p l e rm_X1_weigh_7_39 s m args below meth c H locs 0 0 Q (F0 m 35 ls []) := by
  have hx := cx.1.1
  have hb := cx.1.2.1
  refine lv_aload_n hx hb dX1_weigh_35 rfl (lv_at hl 1 rfl) ?_
  refine lv_aload_n hx hb dX1_weigh_36 rfl (lv_at hl 0 rfl) ?_
  obtain ⟨v1, ev1, hf⟩ := rx_vvI hf
  refine rx_geti cx hw (fiX_7_0 ad cI cL) rfl (inT_X1) (Nat.le_of_ble_eq_true rfl) (.tail _ tw_247) ev1 dX1_weigh_37 ?_
  obtain ⟨hv2, v2, ev2, hf⟩ := rx_ldI hf
  refine rx_iald cx hw (arX_39 ad cI cL) ⟨hv2, ev2⟩ dX1_weigh_40 ?_
  refine lv_iload_n hx hb dX1_weigh_41 rfl (lv_at hl 2 rfl) ?_
  refine lv_isub hx hb dX1_weigh_42 ?_
  obtain ⟨v3, ev3, hf⟩ := rx_vvI hf
  refine rx_top ev3 ?_
  refine lv_istore (lv' := [(4, .int v3), (0, .ref ((ad 7))), (1, .ref ((ad 39))), (3, .int w3)]) hx hb dX1_weigh_43 hl (Nat.le_of_ble_eq_true rfl) rfl (fun ls hl => ?_)
  refine lv_aload_n hx hb dX1_weigh_45 rfl (lv_at hl 1 rfl) ?_
  obtain ⟨v4, ev4, hf⟩ := rx_vvI hf
  refine rx_geti cx hw (fiX_7_4 ad cI cL) rfl (inT_X1) (Nat.le_of_ble_eq_true rfl) (.tail _ tw_254) ev4 dX1_weigh_46 ?_
  refine lv_if_eq hx hb dX1_weigh_49 rfl (fun hc => ?_) (fun hc => ?_)
  · have hf := rx_t hc hf
    exact (qk_X1_weigh_7_39_62 cx hret) hw (lv_sub hl [1, 2, 0] rfl) hf
  · have hf := rx_f hc hf
    refine lv_iload hx hb dX1_weigh_52 (lv_at hl 0 rfl) ?_
    refine lv_aload_n hx hb dX1_weigh_54 rfl (lv_at hl 1 rfl) ?_
    obtain ⟨v5, ev5, hf⟩ := rx_vvI hf
    refine rx_geti cx hw (fiX_7_5 ad cI cL) rfl (inT_X1) (Nat.le_of_ble_eq_true rfl) (.tail _ tw_255) ev5 dX1_weigh_55 ?_
    refine lv_icmp_gt hx hb dX1_weigh_58 rfl (fun hc => ?_) (fun hc => ?_)
    · have hf := rx_t hc hf
      exact (qk_X1_weigh_7_39_62 cx hret) hw (lv_sub hl [1, 2, 0] rfl) hf
    · have hf := rx_f hc hf
      exact rx_retv hret hw hf dX1_weigh_61
set_option maxRecDepth 100000 in
set_option maxHeartbeats 4000000 in
theorem qk_X1_weigh_7_39_0 (cx : rx_C p m c cX1_weigh 5 s args wX1_weigh RX1 D vwCl (tX cI cL) (zX b1 b2) wN A) (hret : rx_RV p l e rm_X1_weigh_7_39 s m args below meth c cX1_weigh D vwCl (wX ad cI cL) A Q o) {w2 : Int32} {ls : Array Slot} {H : Heap} {locs : List Loc} {M : Me} (hw : rx_W D vwCl (wX ad cI cL) A s.heap M H locs) (hl : lv_has ls 5 [(0, .ref ((ad 7))), (1, .ref ((ad 39))), (2, .int w2)]) (hf : qf_X1_weigh_7_39 w2 M = some o) : W p l e rm_X1_weigh_7_39 s m args below meth c H locs 0 0 Q (F0 m 0 ls []) := by
  have hx := cx.1.1
  have hb := cx.1.2.1
  refine lv_iconst (v := 0) hx hb dX1_weigh_0 ic_0 ?_
  refine lv_istore_n (lv' := [(3, .int 0), (0, .ref ((ad 7))), (1, .ref ((ad 39))), (2, .int w2)]) hx hb dX1_weigh_1 rfl hl (Nat.le_of_ble_eq_true rfl) rfl (fun ls hl => ?_)
  refine lv_iconst (v := 0) hx hb dX1_weigh_2 ic_0 ?_
  refine lv_istore (lv' := [(4, .int 0), (3, .int 0), (0, .ref ((ad 7))), (1, .ref ((ad 39))), (2, .int w2)]) hx hb dX1_weigh_3 hl (Nat.le_of_ble_eq_true rfl) rfl (fun ls hl => ?_)
  exact (qk_X1_weigh_7_39_5 cx hret (qk_X1_weigh_7_39_35 cx hret) rx_FU) hw (lv_sub hl [2, 3, 4, 1, 0] rfl) hf
end
set_option maxRecDepth 100000 in
theorem qc_X1_weigh_7_39 (l : Launch) (D : va_G) (ad : Nat → Nat) (cI cL : ClassId) (b1 b2 : Nat) (w2 : Int32) : rx_MV l yX1_weigh wX1_weigh rm_X1_weigh_7_39 D vwCl (wX ad cI cL) (tX cI cL) (zX b1 b2) wN [.ref (ad 7), .ref (ad 39), .int w2] (fun M => qf_X1_weigh_7_39 w2 M) :=
  rx_ofV (by decide) rfl wN_ok (Nat.le_of_ble_eq_true rfl) (fun _ _ _ _ _ _ _ _ _ _ _ _ _ cx hret hw hl hf => qk_X1_weigh_7_39_0 cx hret hw hl hf)

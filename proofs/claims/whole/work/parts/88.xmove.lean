/-! The class's moves: laying a tile, putting a follower; each can be taken back. -/
theorem layG_T {g : Gm} {q u k : Nat} (hD : gD g = some k) : gT (layG g q u) = gT g ++ [(q, k, u)] := by unfold layG gT; rw [hD]; rfl
theorem gw_lay {g : Gm} {q u k : Nat} (hD : gD g = some k) (hL : gL g = false) : gw (layG g q u) = gw g := by
  have hl : (gT g ++ [(q, k, u)]).length = (gT g).length + 1 := by simp
  unfold gw
  rw [layG_T hD, hl, show gL (layG g q u) = true from rfl, if_pos rfl, hL, if_neg (by decide)]
  omega
theorem mw_none {O : Ow} {x : Nat} (h : O x = none) : mw O x = 0 := by unfold mw; rw [h]
theorem mw_some {O : Ow} {x p : Nat} (h : O x = some p) : mw O x = 16 ^ p := by unfold mw; rw [h]
theorem Kt_c {n J c i : Nat} (k : Kt n J c i) : c ≠ 4 ∧ c ≠ 37 ∧ ¬ (c = 3 ∧ i = 10) ∧ ¬ (32 ≤ c) := by unfold Kt at k; omega
theorem x_mayPut {S : Su} {np : Nat} {g : Gm} {M : Me} (hw : wfS S) (hG : WG S np g) (h : XG M S np g) (hL : gL g = true) {k : Nat} (hk : k < 8) : qf_X2_mayPut (nI k) M = some (flg (mayP S g k), M) := by
  obtain ⟨⟨b1, b2⟩, hwt, -, -, hW, -, -, -, hZ, hn⟩ := hG
  obtain ⟨⟨t1, t2, t3, t4⟩, g2, g3, g5, g6, g7, g8⟩ := h
  have hn := hn hL
  have h24 := hwt.1
  obtain ⟨n, hn1⟩ : ∃ n, (gT g).length = n + 1 := ⟨(gT g).length - 1, by omega⟩
  have hF : gF g (gW g) ≤ 7 := by
    have : gF g (gW g) + _ = 7 := hZ.2.1 (gW g) hW
    omega
  have hx : 8 * n + k < 8 * (gT g).length := by omega
  have hle := labs_le S (gT g) (8 * n + k)
  have hid := (labs_lab S (gT g)).2.1 (8 * n + k)
  have e29 : M 29 (labs S (gT g) (8 * n + k)) = nI (mnn S (gT g) (gO g) (labs S (gT g) (8 * n + k))) := (t1.2.2.1.2 _ (by omega) hid).2.2.2
  have ho : ∀ x p, gO g x = some p → p < np := fun x p hx => (hZ.1 x p hx).2.1
  have hm0 := mnn_zero (S := S) (T := gT g) (r := labs S (gT g) (8 * n + k)) b2 ho
  have hmb : mnn S (gT g) (gO g) (labs S (gT g) (8 * n + k)) < 2147483648 := by
    rw [mnn_fl (fun x p hx => by have := ho x p hx; omega)]
    have a0 := fl7 (r := labs S (gT g) (8 * n + k)) (p := 0) hZ
    have a1 := fl7 (r := labs S (gT g) (8 * n + k)) (p := 1) hZ
    have a2 := fl7 (r := labs S (gT g) (8 * n + k)) (p := 2) hZ
    have a0 : fl S (gT g) (gO g) (labs S (gT g) (8 * n + k)) 0 ≤ 7 := a0
    have a1 : fl S (gT g) (gO g) (labs S (gT g) (8 * n + k)) 1 ≤ 7 := a1
    have a2 : fl S (gT g) (gO g) (labs S (gT g) (8 * n + k)) 2 ≤ 7 := a2
    omega
  have hkd := kdp_le hw hwt hx
  have e35 : M 35 (gW g) = nI (gF g (gW g)) := (t3 _ (by omega)).2
  unfold qf_X2_mayPut mayP
  rw [n_vv, g3, hL, if_pos rfl, if_neg (by decide), show (-1 : Int32) = -1 from rfl]
  rw [if_neg (show ¬ nI k < -1 from fun e => by
    have h1 := Int32.lt_iff_toInt_lt.mp e
    rw [nI_toInt (by omega)] at h1
    have h2 : (-1 : Int32).toInt = -1 := by decide
    omega), kn_8, i_lt (by omega) (by decide), if_pos hk, i_m1 (by omega), n_vv, t1.1.2.1, hn1, kn_1, n_sub (by omega), show n + 1 - 1 = n by omega, n_mul, n_add, show n * 8 + k = 8 * n + k by omega, n_vv, n_vv, g5, n_ld (by omega) (by decide), e35, i_le0 (by omega), x_kindOf hw hwt t1.1 hx, n_cl, i_z (by omega), x_rootOf t1.2.2.1 (by omega) hx, n_cl, n_ld (by omega) (by decide), e29, i_z hmb]
  by_cases c1 : gF g (gW g) = 0
  · rw [if_pos c1, flg_f (fun q => by have := q.2.1; omega)]; rfl
  · rw [if_neg c1]
    by_cases c2 : kdp S (gT g) (8 * n + k) = 0
    · rw [if_pos c2, flg_f (fun q => q.2.2.1 c2)]; rfl
    · rw [if_neg c2]
      by_cases c3 : mnn S (gT g) (gO g) (labs S (gT g) (8 * n + k)) = 0
      · rw [if_pos c3, flg_t ⟨hk, by omega, c2, hm0.mp c3⟩]; rfl
      · rw [if_neg c3, flg_f (fun q => c3 (hm0.mpr q.2.2.2))]; rfl
theorem x_lay {S : Su} {np : Nat} {g : Gm} {M : Me} {k q u : Nat} (hw : wfS S) (hG : WG S np g) (h : XG M S np g) (hL : gL g = false) (hD : gD g = some k) (hf : fit S (gT g) k q u) (hu : u < 4) : ∃ M2, qf_X2_lay (nI (4 * q + u)) M = some (0, M2) ∧ XG M2 S np (layG g q u) ∧ (∀ c i, Jk c i → M2 c i = M c i) ∧ ∀ M3, EqG S (layG g q u) M2 M3 → ∃ M4, qf_X2_stepBack M3 = some (0, M4) ∧ EqG S g M M4 ∧ ∀ c i, Jk c i → M4 c i = M3 c i := by
  have hG2 := WG_lay hw hG hL hD hf hu
  have hroom := WG_room hw hG hL hD
  have eT := layG_T (q := q) (u := u) hD
  have ew := gw_lay (q := q) (u := u) hD hL
  have hl : (gT g ++ [(q, k, u)]).length = (gT g).length + 1 := by simp
  have hwt2 : wfTl S (gT g ++ [(q, k, u)]) := by rw [← eT]; exact hG2.2.1
  obtain ⟨⟨t1, t2, t3, t4⟩, g2, g3, g5, g6, g7, g8⟩ := h
  have hmn : ∀ p, 8 * (gT g).length ≤ p → mw (zO (gZ g)) p = 0 := by
    intro p hp
    cases e : gO g p with
    | none => exact mw_none e
    | some j => have := (hG.2.2.2.2.2.2.2.2.1.1 p j e).1; omega
  have g6' : M 4 6 = nI k := by rw [g6, hL, hD, if_neg (by decide)]; rfl
  have g3' : M 4 3 = 0 := by rw [g3, hL, if_neg (by decide)]
  obtain ⟨M5, a1, a2, a3, a4⟩ := x_addTile hw hwt2 hf.2.1 t1 hmn
  have e4 : ∀ c i, c ≠ 4 → rx_st (rx_st M5 4 6 (-1)) 4 3 1 c i = M5 c i := fun c i h => by rw [st_cell h, st_cell h]
  have e4b : ∀ i, i ≠ 6 → i ≠ 3 → rx_st (rx_st M5 4 6 (-1)) 4 3 1 4 i = M 4 i := fun i h1 h2 => by rw [st_place h2, st_place h1, a3 4 i (by omega) (by omega) (by omega) (by omega)]
  refine ⟨rx_st (rx_st M5 4 6 (-1)) 4 3 1, ?_, ⟨⟨?_, ?_, fun p hp => ⟨?_, ?_⟩, ?_⟩, ?_, ?_, ?_, ?_, ?_, ?_⟩, fun c i hc => ?_, fun M6 hE => ?_⟩
  · unfold qf_X2_lay
    rw [n_vv, g6', a1, n_cl, n_vv, n_vv]
  · rw [eT]
    exact XTab_eq (J := 0) a2 (fun c i k => (e4 c i (Kt_c k).1).symm)
  · rw [e4b 4 (by decide) (by decide)]; exact t2
  · rw [e4 34 p (by decide), a3 34 p (by omega) (by omega) (by omega) (by omega)]; exact (t3 p hp).1
  · rw [e4 35 p (by decide), a3 35 p (by omega) (by omega) (by omega) (by omega)]; exact (t3 p hp).2
  · rw [e4 3 10 (by decide), a3 3 10 (by omega) (by omega) (by omega) (by omega)]; exact t4
  · rw [e4b 2 (by decide) (by decide)]; exact g2
  · exact st_same _ _ _ _
  · rw [e4b 5 (by decide) (by decide)]; exact g5
  · rw [st_place (by decide), st_same]; rfl
  · rw [e4b 7 (by decide) (by decide)]; exact g7
  · rw [e4b 8 (by decide) (by decide)]; exact g8
  · rw [e4 c i (by unfold Jk at hc; omega), a3 c i (by unfold Jk at hc; omega) (by unfold Jk at hc; omega) (by unfold Jk at hc; omega) (by unfold Jk at hc; omega)]
  · unfold EqG at hE
    rw [eT, ew, hl] at hE
    have f : ∀ c i, Kg ((gT g).length + 1) (jc S (gT g ++ [(q, k, u)])) (gCh g) (gw g) c i → M6 c i = rx_st (rx_st M5 4 6 (-1)) 4 3 1 c i := fun c i k => (hE c i k).symm
    have m29 : M6 2 9 = nI ((gT g).length + 1) := by
      rw [f 2 9 (by unfold Kg Kt; omega), e4 2 9 (by decide), a2.1.2.1, hl]
    have m43 : M6 4 3 = 1 := by rw [f 4 3 (by unfold Kg; omega), st_same]
    have m21 : M6 21 (gT g).length = nI k := by
      rw [f 21 _ (by unfold Kg Kt; omega), e4 21 _ (by decide), (a2.1.2.2.1 _ (by omega)).2.1, snoc_eq.2.1]
    obtain ⟨M9, b1, b2, b3⟩ := a4 (rx_st M6 4 6 (nI k)) (fun c i kt => by
      rw [st_cell (Kt_c kt).1, f c i (Or.inl kt), e4 c i (Kt_c kt).1])
    refine ⟨rx_st M9 4 3 0, ?_, fun c i kg => ?_, fun c i hc => ?_⟩
    · unfold qf_X2_stepBack
      rw [n_vv, m29, i_z (by omega), if_neg (by omega), n_vv, m43, if_neg (by decide), n_vv, kn_1, n_sub (by omega), show (gT g).length + 1 - 1 = (gT g).length by omega, n_ld (by omega) (by decide), m21, n_vv, b1, n_cl, n_vv]
    · rcases kg with kt | kg
      · rw [st_cell (Kt_c kt).1]; exact b2 c i kt
      · rw [st_get]
        by_cases c3 : c = 4 ∧ i = 3
        · rw [if_pos c3, c3.1, c3.2]; exact g3'
        · rw [if_neg c3, b3 c i (by omega) (by omega) (by omega) (by omega), st_get]
          by_cases c6 : c = 4 ∧ i = 6
          · rw [if_pos c6, c6.1, c6.2]; exact g6'
          · rw [if_neg c6, f c i (Or.inr kg), st_get, if_neg c3, st_get, if_neg c6, a3 c i (by omega) (by omega) (by omega) (by omega)]
    · have hc2 : c ≠ 4 := by unfold Jk at hc; omega
      rw [st_cell hc2, b3 c i (by unfold Jk at hc; omega) (by unfold Jk at hc; omega) (by unfold Jk at hc; omega) (by unfold Jk at hc; omega), st_cell hc2]
theorem one_man : ∀ w, w < 3 → (1 : Int32) <<< ((4 * nI w) &&& 31) = nI (16 ^ w) := by decide
/-- the follower is put, before anything is paid -/
theorem x_putMan {S : Su} {np : Nat} {g : Gm} {M1 : Me} {k : Nat} (hw : wfS S) (hG : WG S np g) (hL : gL g = true) (h : XP M1 S (gT g) np (gZ g)) (h5 : M1 4 5 = nI (gW g)) (hk : mayP S g k) : ∃ Ma, XP Ma S (gT g) np (putZ g (k + 1)) ∧ (∀ c i, ¬ (c = 29 ∨ c = 32 ∨ c = 33 ∨ c = 35 ∨ (c = 3 ∧ i = 10)) → Ma c i = M1 c i) ∧ (∀ K : Me → Op, (rx_vv (M1 4 5) fun v3 => rx_ld M1 35 3 v3 fun v4 => rx_sv M1 35 3 v3 (v4 - 1) fun M5 => rx_vv (M5 2 9) fun v6 => rx_cl (qf_X3_rootOf (((v6 - 1) * 8) + nI k) M5) fun r7 M8 => rx_vv (M8 4 5) fun v9 => rx_cl (qf_X6_oneMan v9 M8) fun r10 M11 => rx_cl (qf_X3_setMen r7 r10 M11) fun r12 M13 => K M13) = K Ma) ∧ Bm (gT g).length (gCh g) M1 (gCh g + 1) Ma := by
  obtain ⟨⟨b1, b2⟩, hwt, -, -, hW, -, -, -, hZ, hn⟩ := hG
  obtain ⟨t1, t2, t3, t4⟩ := h
  have hn := hn hL
  have h24 := hwt.1
  obtain ⟨n, hn1⟩ : ∃ n, (gT g).length = n + 1 := ⟨(gT g).length - 1, by omega⟩
  obtain ⟨hk8, hF, hkd, hno⟩ := hk
  rw [show (gT g).length - 1 = n by omega] at hno hkd
  have hx : 8 * n + k < 8 * (gT g).length := by omega
  have hle := labs_le S (gT g) (8 * n + k)
  have hid := (labs_lab S (gT g)).2.1 (8 * n + k)
  have hF7 : gF g (gW g) ≤ 7 := by
    have : gF g (gW g) + _ = 7 := hZ.2.1 (gW g) hW
    omega
  have ho : ∀ x p, gO g x = some p → p < np := fun x p hx => (hZ.1 x p hx).2.1
  have hm0 := (mnn_zero (S := S) (T := gT g) (r := labs S (gT g) (8 * n + k)) b2 ho).mpr hno
  have e35 : M1 35 (gW g) = nI (gF g (gW g)) := (t3 _ (by omega)).2
  have hC : gCh g < 48 := by
    have hz := WZ_put (j := k + 1) (S := S) (np := np) (g := g)
    have h1 : gCh g + ob (gO g) (gT g).length ≤ 2 * gw g := hZ.2.2.1
    have h2 : gw g = (gT g).length - 1 := by unfold gw; rw [hL, if_pos rfl]
    omega
  have hO : gO g (8 * n + k) = none := by
    cases e : gO g (8 * n + k) with
    | none => rfl
    | some p => exact absurd ⟨_, hx, rfl, by rw [e]; exact fun g => by cases g⟩ hno
  have eZ : putZ g (k + 1) = (fun x => if x = 8 * n + k then some (gW g) else gO g x, gP g, fun p => if p = gW g then gF g p - 1 else gF g p, gCh g + 1, 0) := by
    unfold putZ
    rw [if_neg (by omega), show (gT g).length - 1 = n by omega]
    rfl
  let M5 : Me := rx_st M1 35 (gW g) (nI (gF g (gW g) - 1))
  have hM5 : XTab M5 S (gT g) (mw (gO g)) := XTab_keep t1 (fun c i hc => st_cell (by omega))
  have hroot := x_rootOf hM5.2.2.1 (by omega) hx
  generalize hr : labs S (gT g) (8 * n + k) = r at *
  have h310 : M5 3 10 = nI (gCh g) := by show rx_st _ _ _ _ 3 10 = _; rw [st_cell (by decide)]; exact t4
  refine ⟨sm M5 (gCh g) r (nI (16 ^ gW g)), ⟨?_, ?_, fun p hp => ⟨?_, ?_⟩, ?_⟩, fun c i hc => ?_, fun K => ?_, ?_⟩
  · rw [eZ]
    refine XTab_men (mn := mw (gO g)) (r := r) hM5 (fun c i hc => ?_) ?_ (fun x hx => ?_)
    · rw [sm_get, if_neg (by omega), if_neg (by omega), if_neg (by omega), if_neg (by omega)]
    · rw [sm_get, if_pos ⟨rfl, rfl⟩]
      congr 1
      have h1 := sumL_up (lab := labs S (gT g)) (w := mw (gO g)) (w2 := mw (fun x => if x = 8 * n + k then some (gW g) else gO g x)) (k := 8 * n + k) (r := r) (N := 8 * (gT g).length) (d := 16 ^ gW g) hx (by rw [mw_none hO, mw_some (p := gW g) (by simp)]; omega) (fun p _ hp => by unfold mw; simp [hp])
      rw [if_pos hr] at h1
      have h2 : sumL (labs S (gT g)) (mw (gO g)) r (8 * (gT g).length) = 0 := hm0
      show 16 ^ gW g = sumL (labs S (gT g)) (mw (fun x => if x = 8 * n + k then some (gW g) else gO g x)) r (8 * (gT g).length)
      omega
    · have hne : x ≠ 8 * n + k := fun e => hx (by rw [e]; exact hr)
      show mw (fun x => if x = 8 * n + k then some (gW g) else gO g x) x = _
      unfold mw
      simp [hne]
  · rw [sm_off (by decide) (by omega) (by omega)]
    show rx_st _ _ _ _ 4 4 = _
    rw [st_cell (by decide)]; exact t2
  · rw [sm_off (by decide) (by omega) (by omega), eZ]
    show rx_st _ _ _ _ 34 p = _
    rw [st_cell (by decide)]; exact (t3 p hp).1
  · rw [sm_off (by decide) (by omega) (by omega), eZ]
    show rx_st _ _ _ _ 35 p = nI (if p = gW g then gF g p - 1 else gF g p)
    rw [st_get]
    by_cases hc : p = gW g
    · rw [if_pos ⟨rfl, hc⟩, if_pos hc, hc]
    · rw [if_neg (fun q => hc q.2), if_neg hc]; exact (t3 p hp).2
  · rw [sm_get, if_neg (by omega), if_pos ⟨rfl, rfl⟩, eZ]
    rfl
  · rw [sm_get, if_neg (by omega), if_neg (by omega), if_neg (by omega), if_neg (by omega)]
    show rx_st _ _ _ _ c i = _
    rw [st_cell (by omega)]
  · have h29 : M5 2 9 = nI (n + 1) := by rw [← hn1]; exact hM5.1.2.1
    have h45 : M5 4 5 = nI (gW g) := by show rx_st _ _ _ _ 4 5 = _; rw [st_cell (by decide)]; exact h5
    rw [n_vv, h5, n_ld (by omega) (by decide), e35, kn_1, n_sub (by omega), n_sv (by omega) (by decide), n_vv]
    show rx_cl (qf_X3_rootOf (((M5 2 9 - nI 1) * 8) + nI k) M5) (fun r7 M8 => rx_vv (M8 4 5) fun v9 => rx_cl (qf_X6_oneMan v9 M8) fun r10 M11 => rx_cl (qf_X3_setMen r7 r10 M11) fun r12 M13 => K M13) = _
    rw [h29, n_sub (by omega), show n + 1 - 1 = n by omega, kn_8, n_mul, n_add, show n * 8 + k = 8 * n + k by omega, hroot, n_cl, n_vv, h45]
    unfold qf_X6_oneMan
    rw [n_cl, one_man _ (by omega), x_setMen h310 hC (by omega), n_cl]
  · have h1 : Bm (gT g).length (gCh g) M1 (gCh g) M5 := (Bm.rf (C := gCh g) (by omega) (show M1 3 10 = nI (gCh g) from t4)).keep (fun c i hk => by show rx_st _ _ _ _ c i = _; rw [st_cell (by unfold Km at hk; omega)])
    exact h1.step hC (by omega) (by omega)

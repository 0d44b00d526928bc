/-! The class puts a follower, and takes it back. -/
theorem XP_keep {M M2 : Me} {S : Su} {T : Tl} {np : Nat} {z : Pz} (h : XP M S T np z) (e : ∀ c i, c ≠ 37 → ¬ (c = 4 ∧ i ≠ 4) → M2 c i = M c i) : XP M2 S T np z := by
  obtain ⟨t1, t2, t3, t4⟩ := h
  refine ⟨XTab_keep t1 (fun c i hc => e c i (by omega) (by omega)), ?_, fun p hp => ⟨?_, ?_⟩, ?_⟩
  · rw [e 4 4 (by omega) (by omega)]; exact t2
  · rw [e 34 p (by omega) (by omega)]; exact (t3 p hp).1
  · rw [e 35 p (by omega) (by omega)]; exact (t3 p hp).2
  · rw [e 3 10 (by omega) (by omega)]; exact t4
theorem Kg_a {n J C C2 c i : Nat} (kg : Kg (n + 1) J C n c i) (cm : ¬ Km (n + 1) C c i) (cp : ¬ ((c = 34 ∨ c = 35) ∧ i < 3)) (c4 : c ≠ 4) : Kg (n + 1) J C2 (n + 1) c i ∧ (c = 30 ∨ c = 31 ∨ (¬ (29 ≤ c ∧ c ≤ 35) ∧ ¬ (c = 3 ∧ i = 10) ∧ ¬ (c = 37 ∧ 10 * n ≤ i ∧ i < 10 * n + 10))) := by
  have c1 : ¬ (c = 29 ∧ i < 8 * (n + 1)) := fun e => cm (Or.inl e)
  have c2 : ¬ (c = 3 ∧ i = 10) := fun e => cm (Or.inr (Or.inl e))
  have c3 : ¬ ((c = 32 ∨ c = 33) ∧ i < C) := fun e => cm (Or.inr (Or.inr e))
  rcases kg with kt | kg | kg | kg | kg | kg
  · refine ⟨Or.inl kt, ?_⟩
    clear cm
    rcases kt with h | h | h | h | h | h | h <;> omega
  · exact absurd kg c2
  · omega
  · exact absurd kg c3
  · exact absurd kg cp
  · exact ⟨Or.inr (Or.inr (Or.inr (Or.inr (Or.inr ⟨kg.1, by omega⟩)))), by omega⟩
theorem Kg_4 {n J C w c i : Nat} (kg : Kg n J C w c i) (c4 : c = 4) : i ≤ 8 := by
  rcases kg with kt | kg | kg | kg | kg | kg
  · exact absurd c4 (Kt_c kt).1
  · omega
  · omega
  · omega
  · omega
  · omega
theorem Kg_29 {n J C w c i : Nat} (kg : Kg n J C w c i) (c4 : c = 29) : i < 8 * n := by
  rcases kg with kt | kg | kg | kg | kg | kg
  · rcases kt with h | h | h | h | h | h | h <;> omega
  · omega
  · omega
  · omega
  · omega
  · omega
theorem x_stepPut {M M1 M2 M3 : Me} {n J C C2 : Nat} (hn : n < 24) (hC : M 3 10 = nI C) (h29 : M2 2 9 = nI (n + 1)) (h43 : M2 4 3 = 0) (g3 : M 4 3 = 1) (g6 : M 4 6 = -1) (s3 : ∀ c i, ¬ (c = 37 ∧ 10 * n ≤ i ∧ i < 10 * n + 10) → M1 c i = M c i) (f37 : ∀ v, v < 10 → M2 37 (10 * n + v) = svV M v) (hB : Bm (n + 1) C M1 C2 M2) (f2M : ∀ c i, ¬ (29 ≤ c ∧ c ≤ 35) → ¬ (c = 3 ∧ i = 10) → c ≠ 4 → ¬ (c = 37 ∧ 10 * n ≤ i ∧ i < 10 * n + 10) → M2 c i = M c i) (f30 : ∀ c i, c = 30 ∨ c = 31 → M2 c i = M c i) (f24 : ∀ i, i ≠ 3 → i < 5 → M2 4 i = M 4 i) (hE : ∀ c i, Kg (n + 1) J C2 (n + 1) c i → M2 c i = M3 c i) : ∃ M4, qf_X2_stepBack M3 = some (0, M4) ∧ (∀ c i, Kg (n + 1) J C n c i → M c i = M4 c i) ∧ ∀ c i, Jk c i → M4 c i = M3 c i := by
  have f : ∀ c i, Kg (n + 1) J C2 (n + 1) c i → M3 c i = M2 c i := fun c i k => (hE c i k).symm
  have q29 : M3 2 9 = nI (n + 1) := by rw [f 2 9 (by unfold Kg Kt; omega)]; exact h29
  have q43 : M3 4 3 = 0 := by rw [f 4 3 (by unfold Kg; omega)]; exact h43
  obtain ⟨N3, hN3⟩ : ∃ N, N = rx_st M3 4 6 (-1) := ⟨_, rfl⟩
  have en : ∀ c i, c ≠ 4 → N3 c i = M3 c i := fun c i h => by rw [hN3, st_cell h]
  obtain ⟨N8, hN8⟩ : ∃ N, N = rx_st (rx_st (rx_st N3 4 5 (svV M 0)) 4 7 (svV M 1)) 4 8 (svV M 2) := ⟨_, rfl⟩
  have e8 : ∀ c i, c ≠ 4 → N8 c i = M3 c i := fun c i h => by rw [hN8, st_cell h, st_cell h, st_cell h, en c i h]
  obtain ⟨M11, r1, r2, r3⟩ := hB.back (M3 := N8) (fun c i hk => by
    rw [e8 c i (by unfold Km at hk; omega), f c i (by unfold Km at hk; unfold Kg Kt; omega)])
  have hv3 : svV M 3 = nI C := hC
  rw [← hv3, hN8] at r1
  obtain ⟨M12, u1, u2, u3⟩ := x_restore (by rw [en 2 9 (by decide)]; exact q29) hn (fun v hv => by rw [en 37 _ (by decide), f 37 _ (by unfold Kg; omega)]; exact f37 v hv) r1 (fun i => by rw [r3 37 i (by decide) (by omega), e8 37 i (by decide), en 37 i (by decide)])
  refine ⟨rx_st M12 4 3 1, ?_, fun c i kg => ?_, fun c i hc => ?_⟩
  · unfold qf_X2_stepBack
    rw [n_vv, q29, i_z (by omega), if_neg (by omega), n_vv, q43, if_pos rfl, n_vv, ← hN3, u1, n_cl, n_vv]
  · rw [st_get]
    by_cases c3 : c = 4 ∧ i = 3
    · rw [if_pos c3, c3.1, c3.2]; exact g3
    · rw [if_neg c3]
      by_cases cp : (c = 34 ∨ c = 35) ∧ i < 3
      · obtain ⟨c1 | c1, c2⟩ := cp
        · rw [c1, (u2 i c2).1, svV_p _ c2]
        · rw [c1, (u2 i c2).2, svV_l]
      · rw [u3 c i cp]
        by_cases cm : Km (n + 1) C c i
        · rw [← r2 c i cm, s3 c i (by unfold Km at cm; omega)]
        · rw [r3 c i (fun e => cm (Or.inl ⟨e, Kg_29 kg e⟩)) (fun e => cm (Or.inr (Or.inl e)))]
          by_cases c4 : c = 4
          · subst c4
            have hi : i ≤ 8 := Kg_4 kg rfl
            rw [hN8, hN3]
            simp only [st_get, true_and]
            by_cases i8 : i = 8
            · rw [if_pos i8, i8]; rfl
            · rw [if_neg i8]
              by_cases i7 : i = 7
              · rw [if_pos i7, i7]; rfl
              · rw [if_neg i7]
                by_cases i5 : i = 5
                · rw [if_pos i5, i5]; rfl
                · rw [if_neg i5]
                  by_cases i6 : i = 6
                  · rw [if_pos i6, i6]; exact g6
                  · rw [if_neg i6, f 4 i (by unfold Kg; omega), f24 i (by omega) (by omega)]
          · obtain ⟨k1, k2⟩ := Kg_a (C2 := C2) kg cm cp c4
            rw [e8 c i c4, f c i k1]
            rcases k2 with k2 | k2 | ⟨k2, k3, k4⟩
            · exact (f30 c i (Or.inl k2)).symm
            · exact (f30 c i (Or.inr k2)).symm
            · exact (f2M c i k2 k3 c4 k4).symm
  · have hc2 : c ≠ 4 := by unfold Jk at hc; omega
    rw [st_cell hc2, u3 c i (by unfold Jk at hc; omega), r3 c i (by unfold Jk at hc; omega) (by unfold Jk at hc; omega), e8 c i hc2]
theorem x_put {S : Su} {np : Nat} {g : Gm} {M : Me} {j : Nat} {w : Int32} (hw : wfS S) (hG : WG S np g) (h : XG M S np g) (hL : gL g = true) (hj : (j = 0 ∧ w = -1) ∨ ∃ k, j = k + 1 ∧ w = nI k ∧ mayP S g k) : ∃ M2, qf_X2_put w M = some (nI (putS S np g j), M2) ∧ XG M2 S np (putG S np g j) ∧ (∀ c i, Jk c i → M2 c i = M c i) ∧ ∀ M3, EqG S (putG S np g j) M2 M3 → ∃ M4, qf_X2_stepBack M3 = some (0, M4) ∧ EqG S g M M4 ∧ ∀ c i, Jk c i → M4 c i = M3 c i := by
  have hj2 : j = 0 ∨ ∃ k, j = k + 1 ∧ mayP S g k := by
    rcases hj with h | ⟨k, h1, _, h2⟩
    · exact Or.inl h.1
    · exact Or.inr ⟨k, h1, h2⟩
  have hz := WZ_put hG hL hj2
  have ew := gw_put (j := j) hG hL
  have hG2 := WG_put hw hG hL hj2
  have hwg : gw g = (gT g).length - 1 := by unfold gw; rw [hL, if_pos rfl]
  have hwt := hG.2.1
  have hcen := hG.2.2.2.1
  have hW := hG.2.2.2.2.1
  have hX := hG.2.2.2.2.2.1
  have h3 := hG.1.2
  have hn := hG.2.2.2.2.2.2.2.2.2 hL
  have h24 := hwt.1
  obtain ⟨n, hn1⟩ : ∃ n, (gT g).length = n + 1 := ⟨(gT g).length - 1, by omega⟩
  obtain ⟨hXP, g2, g3, g5, g6, g7, g8⟩ := h
  have g3' : M 4 3 = 1 := by rw [g3, hL, if_pos rfl]
  have g6' : M 4 6 = -1 := by rw [g6, hL, if_pos rfl]
  have m29 : M 2 9 = nI (n + 1) := by rw [hXP.1.1.2.1, hn1]
  obtain ⟨M1, s1, s2, s3⟩ := x_save m29 (by omega)
  have hXP1 : XP M1 S (gT g) np (gZ g) := XP_keep hXP (fun c i h1 _ => s3 c i (by omega))
  -- the follower
  have hA : ∃ Ma, XP Ma S (gT g) np (putZ g j) ∧ (∀ c i, ¬ (c = 29 ∨ c = 32 ∨ c = 33 ∨ c = 35 ∨ (c = 3 ∧ i = 10)) → Ma c i = M1 c i) ∧ qf_X2_put w M = qb_X2_put_63 Ma ∧ Bm (gT g).length (gCh g) M1 (zC (putZ g j)) Ma := by
    rcases hj with ⟨rfl, rfl⟩ | ⟨k, rfl, rfl, hk⟩
    · refine ⟨M1, hXP1, fun _ _ _ => rfl, ?_, Bm.rf ?_ hXP1.2.2.2⟩
      · unfold qf_X2_put
        rw [s1, n_cl, if_pos rfl]
      · have h1 : gCh g + ob (gO g) (gT g).length ≤ 2 * gw g := hG.2.2.2.2.2.2.2.2.1.2.2.1
        show gCh g ≤ 48
        omega
    · have h5 : M1 4 5 = nI (gW g) := by rw [s3 4 5 (by omega)]; exact g5
      obtain ⟨Ma, a1, a2, a3, a4⟩ := x_putMan hw hG hL hXP1 h5 hk
      refine ⟨Ma, a1, a2, ?_, ?_⟩
      · unfold qf_X2_put
        rw [s1, n_cl, i_m1 (by have := hk.1; omega)]
        exact a3 qb_X2_put_63
      · have : zC (putZ g (k + 1)) = gCh g + 1 := by unfold putZ; rw [if_neg (by omega)]; rfl
        rw [this]
        exact a4
  obtain ⟨Ma, a1, a2, a3, a4⟩ := hA
  have hs0 : zS (putZ g j) = 0 := by
    unfold putZ
    by_cases c : j = 0
    · rw [if_pos c]; rfl
    · rw [if_neg c]; rfl
  obtain ⟨Mb, p1, p2, p3, p4, p5, p6⟩ := x_settle hw hwt h3 (show 2 * (gw g + 1) ≤ 48 by omega) hn a1 hz hs0
  have hBm := p6 _ _ a4
  -- the turn
  have fb : ∀ c i, ¬ (29 ≤ c ∧ c ≤ 35) → ¬ (c = 3 ∧ i = 10) → Mb c i = M1 c i := fun c i h1 h2 => by rw [p4 c i h1 h2, a2 c i (by omega)]
  obtain ⟨W2, hW2⟩ : ∃ W2, W2 = if gW g + 1 < np then gW g + 1 else 0 := ⟨_, rfl⟩
  obtain ⟨Mc, hMc⟩ : ∃ Mc, Mc = rx_st (rx_st Mb 4 3 0) 4 5 (nI W2) := ⟨_, rfl⟩
  have ec : ∀ c i, c ≠ 4 → Mc c i = Mb c i := fun c i h => by rw [hMc, st_cell h, st_cell h]
  have ec4 : ∀ i, i ≠ 3 → i ≠ 5 → Mc 4 i = Mb 4 i := fun i h1 h2 => by rw [hMc, st_place h2, st_place h1]
  have hTc : XTab Mc S (gT g) (mw (zO (setl S (gT g) np (putZ g j)))) := XTab_keep p2.1 (fun c i hc => ec c i (by omega))
  obtain ⟨M2, d1, d2, d3, d4, d5⟩ := x_drawNext (x := gX g) (a := gA g) hw hwt hcen hTc hX (by rw [ec4 6 (by decide) (by decide), fb 4 6 (by omega) (by omega), s3 4 6 (by omega)]; exact g6') (by rw [ec4 7 (by decide) (by decide), fb 4 7 (by omega) (by omega), s3 4 7 (by omega)]; exact g7) (by rw [ec4 8 (by decide) (by decide), fb 4 8 (by omega) (by omega), s3 4 8 (by omega)]; exact g8)
  have f2 : ∀ c i, c ≠ 4 → M2 c i = Mb c i := fun c i hc => by rw [d5 c i (by omega), ec c i hc]
  have f24 : ∀ i, i ≠ 3 → i < 5 → M2 4 i = M 4 i := fun i h1 h2 => by rw [d5 4 i (by omega), ec4 i h1 (by omega), fb 4 i (by omega) (by omega), s3 4 i (by omega)]
  have f2M : ∀ c i, ¬ (29 ≤ c ∧ c ≤ 35) → ¬ (c = 3 ∧ i = 10) → c ≠ 4 → ¬ (c = 37 ∧ 10 * n ≤ i ∧ i < 10 * n + 10) → M2 c i = M c i := fun c i h1 h2 h3 h4 => by rw [f2 c i h3, fb c i h1 h2, s3 c i h4]
  have f30 : ∀ c i, c = 30 ∨ c = 31 → M2 c i = M c i := fun c i hc => by
    rw [f2 c i (by omega)]
    rcases hc with rfl | rfl
    · rw [(p5 i).1, a2 30 i (by omega), s3 30 i (by omega)]
    · rw [(p5 i).2, a2 31 i (by omega), s3 31 i (by omega)]
  have f37 : ∀ v, v < 10 → M2 37 (10 * n + v) = svV M v := fun v hv => by rw [f2 37 _ (by decide), fb 37 _ (by omega) (by omega)]; exact s2 v hv
  refine ⟨M2, ?_, ⟨⟨?_, ?_, fun p hp => ⟨?_, ?_⟩, ?_⟩, ?_, ?_, ?_, ?_, ?_, ?_⟩, fun c i hc => ?_, fun M3 hE => ?_⟩
  · rw [a3]
    unfold qb_X2_put_63
    have e45 : rx_st Mb 4 3 0 4 5 = nI (gW g) := by rw [st_place (by decide), fb 4 5 (by omega) (by omega), s3 4 5 (by omega)]; exact g5
    have e44 : rx_st Mb 4 3 0 4 4 = nI np := by rw [st_place (by decide)]; exact p2.2.1
    rw [p1, n_cl, n_vv, n_vv, e45, n_vv, e44, kn_1, n_add, i_le (by omega) (by omega)]
    by_cases hc : np ≤ gW g + 1
    · rw [if_pos hc]
      unfold qb_X2_put_97
      have e0 : W2 = 0 := by rw [hW2, if_neg (by omega)]
      have : rx_st (rx_st Mb 4 3 0) 4 5 0 = Mc := by rw [hMc, e0]; rfl
      rw [n_vv, this, d1, n_cl]
      rfl
    · rw [if_neg hc, n_vv]
      unfold qb_X2_put_97
      have e0 : W2 = gW g + 1 := by rw [hW2, if_pos (by omega)]
      have : rx_st (rx_st Mb 4 3 0) 4 5 (nI (gW g + 1)) = Mc := by rw [hMc, e0]
      rw [n_vv, n_add, this, d1, n_cl]
      rfl
  · exact XTab_keep hTc (fun c i hc => d5 c i (by omega))
  · rw [f24 4 (by decide) (by decide)]; exact hXP.2.1
  · rw [f2 34 p (by decide)]; exact (p2.2.2.1 p hp).1
  · rw [f2 35 p (by decide)]; exact (p2.2.2.1 p hp).2
  · rw [f2 3 10 (by decide)]; exact p2.2.2.2
  · rw [f24 2 (by decide) (by decide)]; exact g2
  · rw [d5 4 3 (by omega), hMc, st_place (by decide), st_same]; rfl
  · rw [d5 4 5 (by omega), hMc, st_same, hW2]; rfl
  · rw [d2]; rfl
  · rw [d3]; rfl
  · rw [d4]; rfl
  · unfold Jk at hc
    exact f2M c i (by omega) (by omega) (by omega) (by omega)
  · unfold EqG at hE
    rw [ew, hwg, hn1, show gT (putG S np g j) = gT g from rfl, hn1] at hE
    have hB2 : Bm (n + 1) (gCh g) M1 (gCh (putG S np g j)) M2 := by
      rw [← hn1]
      exact hBm.keep (fun c i hk => f2 c i (by unfold Km at hk; omega))
    have m43 : M2 4 3 = 0 := by
      rw [d5 4 3 (by omega), hMc, st_place (by decide), st_same]
    obtain ⟨M4, z1, z2, z3⟩ := x_stepPut (J := jc S (gT g)) (show n < 24 by omega) hXP.2.2.2 (by rw [f2M 2 9 (by omega) (by omega) (by omega) (by omega)]; exact m29) m43 g3' g6' s3 f37 hB2 f2M f30 f24 (fun c i k => hE c i (by rw [show n + 1 - 1 + 1 = n + 1 by omega]; exact k))
    refine ⟨M4, z1, ?_, z3⟩
    unfold EqG
    rw [hwg, hn1, show n + 1 - 1 = n by omega]
    exact z2

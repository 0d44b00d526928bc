/-! The reference's steps: noted, and played again. -/
def eM (m : Mv) (M : Me) (i : Nat) : Prop := if m.1 = 1 then M 14 (4 * i) = 1 ∧ M 14 (4 * i + 1) = co (m.2.1 % 21) ∧ M 14 (4 * i + 2) = co (m.2.1 / 21) ∧ M 14 (4 * i + 3) = nI m.2.2 else M 14 (4 * i) = 0 ∧ M 14 (4 * i + 1) = (if m.2.1 = 0 then -1 else nI (m.2.1 - 1))
def SA (M : Me) : List Mv → Prop
  | [] => True
  | m :: ms => SA M ms ∧ eM m M ms.length
theorem eM_keep {m : Mv} {M M2 : Me} {i : Nat} (h : eM m M i) (e : ∀ j, j < 4 * i + 4 → M2 14 j = M 14 j) : eM m M2 i := by
  unfold eM at *
  rw [e (4 * i) (by omega), e (4 * i + 1) (by omega), e (4 * i + 2) (by omega), e (4 * i + 3) (by omega)]
  exact h
theorem SA_keep {M M2 : Me} : ∀ ms, SA M ms → (∀ j, j < 4 * ms.length → M2 14 j = M 14 j) → SA M2 ms := by
  intro ms
  induction ms with
  | nil => intro _ _; trivial
  | cons m ms ih =>
    intro h e
    have e : ∀ j, j < 4 * (ms.length + 1) → M2 14 j = M 14 j := e
    exact ⟨ih h.1 (fun j hj => e j (by omega)), eM_keep h.2 (fun j hj => e j (by omega))⟩
def ntM (M : Me) (n : Nat) (w1 w2 w3 w4 : Int32) : Me := rx_st (rx_st (rx_st (rx_st (rx_st (rx_st M 14 (4 * n) w1) 14 (4 * n + 1) w2) 14 (4 * n + 2) w3) 14 (4 * n + 3) w4) 0 23 (nI (n + 1))) 0 31 0
theorem ntM_get {M : Me} {n c i : Nat} {w1 w2 w3 w4 : Int32} : ntM M n w1 w2 w3 w4 c i = if c = 0 ∧ i = 31 then 0 else if c = 0 ∧ i = 23 then nI (n + 1) else if c = 14 ∧ i = 4 * n + 3 then w4 else if c = 14 ∧ i = 4 * n + 2 then w3 else if c = 14 ∧ i = 4 * n + 1 then w2 else if c = 14 ∧ i = 4 * n then w1 else M c i := by
  unfold ntM
  simp only [st_get]
theorem y_note {M : Me} {n : Nat} {w1 w2 w3 w4 : Int32} (h : M 0 23 = nI n) (hn : n < 48) : qf_X7_note w1 w2 w3 w4 M = some (0, ntM M n w1 w2 w3 w4) := by
  unfold qf_X7_note ntM
  rw [n_vv, h, kn_4, n_mul, n_sv (by omega) (by decide), n_vv, st_cell (by decide), h, n_mul, kn_1, n_add, n_sv (by omega) (by decide), n_vv, st_cell (by decide), st_cell (by decide), h, n_mul, kn_2, n_add, n_sv (by omega) (by decide), n_vv, st_cell (by decide), st_cell (by decide), st_cell (by decide), h, n_mul, kn_3, n_add, n_sv (by omega) (by decide), n_vv, st_cell (by decide), st_cell (by decide), st_cell (by decide), st_cell (by decide), h, n_vv, n_add, n_vv]
theorem ntM_off {M : Me} {n c i : Nat} {w1 w2 w3 w4 : Int32} (h1 : c ≠ 14) (h2 : ¬ (c = 0 ∧ (i = 23 ∨ i = 31))) : ntM M n w1 w2 w3 w4 c i = M c i := by
  rw [ntM_get, if_neg (by omega), if_neg (by omega), if_neg (by omega), if_neg (by omega), if_neg (by omega), if_neg (by omega)]
theorem ntM_old {M : Me} {n i : Nat} {w1 w2 w3 w4 : Int32} (h : i < 4 * n) : ntM M n w1 w2 w3 w4 14 i = M 14 i := by
  rw [ntM_get, if_neg (by omega), if_neg (by omega), if_neg (by omega), if_neg (by omega), if_neg (by omega), if_neg (by omega)]
theorem ntM_lay {M : Me} {n q u : Nat} : eM (1, q, u) (ntM M n 1 (co (q % 21)) (co (q / 21)) (nI u)) n := by
  unfold eM
  rw [if_pos rfl]
  refine ⟨?_, ?_, ?_, ?_⟩
  · rw [ntM_get, if_neg (by omega), if_neg (by omega), if_neg (by omega), if_neg (by omega), if_neg (by omega), if_pos ⟨rfl, rfl⟩]
  · rw [ntM_get, if_neg (by omega), if_neg (by omega), if_neg (by omega), if_neg (by omega), if_pos ⟨rfl, rfl⟩]
  · rw [ntM_get, if_neg (by omega), if_neg (by omega), if_neg (by omega), if_pos ⟨rfl, rfl⟩]
  · rw [ntM_get, if_neg (by omega), if_neg (by omega), if_pos ⟨rfl, rfl⟩]
theorem ntM_put {M : Me} {n j u : Nat} {w a b : Int32} (h : w = (if j = 0 then -1 else nI (j - 1))) : eM (0, j, u) (ntM M n 0 w a b) n := by
  unfold eM
  rw [if_neg (show ¬ ((0, j, u) : Mv).1 = 1 from (by decide : ¬ (0 = 1)))]
  refine ⟨?_, ?_⟩
  · rw [ntM_get, if_neg (by omega), if_neg (by omega), if_neg (by omega), if_neg (by omega), if_neg (by omega), if_pos ⟨rfl, rfl⟩]
  · rw [ntM_get, if_neg (by omega), if_neg (by omega), if_neg (by omega), if_neg (by omega), if_pos ⟨rfl, rfl⟩]
    exact h
theorem y_replay {S : Su} {np N : Nat} (hw : wfS S) (hnp : 2 ≤ np ∧ np ≤ 3) (hN : N ≤ 48) : ∀ (ms : List Mv), leg S np ms → ∀ (f : Nat) (M : Me), ms.length ≤ N → M 0 23 = nI N → SA M ms → RY M S np (g0 S) → ∃ M2, rx_lp1 qo_X7_undo_37 (f + ms.length) 0 M = rx_lp1 qo_X7_undo_37 f (nI (4 * ms.length)) M2 ∧ RY M2 S np (play S np ms) ∧ ∀ c i, ¬ Ky c i → M2 c i = M c i := by
  intro ms
  induction ms with
  | nil => intro _ f M _ _ _ h; exact ⟨M, rfl, h, fun _ _ _ => rfl⟩
  | cons m ms ih =>
    intro hl f M hlen h23 hSA hR
    have hlen : ms.length + 1 ≤ N := hlen
    have hG := leg_WG hw hnp.1 hnp.2 ms hl.1
    obtain ⟨M1, a1, a2, a3⟩ := ih hl.1 (f + 1) M (by omega) h23 hSA.1 hR
    have e23 : M1 0 23 = nI N := by rw [a3 0 23 (by unfold Ky; omega)]; exact h23
    have he : eM m M1 ms.length := eM_keep hSA.2 (fun j _ => a3 14 j (by unfold Ky; omega))
    have h101 : ∀ (M : Me), qb_X7_undo_101 (rx_lp1 qo_X7_undo_37 f) (nI (4 * ms.length)) M = rx_lp1 qo_X7_undo_37 f (nI (4 * (ms.length + 1))) M := by
      intro M
      unfold qb_X7_undo_101
      rw [n_vv, kn_4, n_add]
      rfl
    have hok := hl.2
    unfold okM at hok
    unfold eM at he
    have e1 : rx_lp1 qo_X7_undo_37 (f + (m :: ms).length) 0 M = qo_X7_undo_37 (rx_lp1 qo_X7_undo_37 f) (nI (4 * ms.length)) M1 := by
      show rx_lp1 qo_X7_undo_37 (f + (ms.length + 1)) 0 M = _
      rw [show f + (ms.length + 1) = f + 1 + ms.length by omega, a1]
      rfl
    rw [e1]
    show ∃ M2, _ = rx_lp1 qo_X7_undo_37 f (nI (4 * (ms.length + 1))) M2 ∧ RY M2 S np (stepG S np (play S np ms) m) ∧ _
    generalize rx_lp1 qo_X7_undo_37 f = rec at *
    unfold qo_X7_undo_37 stepG
    rw [n_vv, e23, kn_4, n_mul, i_le (by omega) (by omega), if_neg (by omega), n_ld (by omega) (by decide)]
    by_cases hc : m.1 = 1
    · rw [if_pos hc] at hok he ⊢
      obtain ⟨hL, k, hD, hf, hu⟩ := hok
      obtain ⟨b1, b2, b3, b4⟩ := he
      obtain ⟨M2, c1, c2, c3⟩ := y_lay hw hG a2 hL hD hf hu
      refine ⟨M2, ?_, c2, fun c i h => by rw [c3 c i h, a3 c i h]⟩
      rw [b1, if_pos rfl, kn_1, n_add, n_ld (by omega) (by decide), kn_2, n_add, n_ld (by omega) (by decide), kn_3, n_add, n_ld (by omega) (by decide), b2, b3, b4, c1, n_cl, h101]
    · rw [if_neg hc] at hok he ⊢
      obtain ⟨b1, b2⟩ := he
      obtain ⟨hL, hj⟩ := hok
      obtain ⟨M2, c1, c2, c3⟩ := y_put (w := if m.2.1 = 0 then -1 else nI (m.2.1 - 1)) hw hG a2 hL (by
        rcases hj with h | ⟨k, h, hk⟩
        · exact Or.inl ⟨h, by rw [if_pos h]⟩
        · exact Or.inr ⟨k, h, by rw [if_neg (by omega), h]; rfl, hk⟩)
      refine ⟨M2, ?_, c2, fun c i h => by rw [c3 c i h, a3 c i h]⟩
      rw [b1, if_neg (by decide), kn_1, n_add, n_ld (by omega) (by decide), b2, c1, n_cl, h101]
theorem y_undo {S : Su} {np : Nat} {m : Mv} {ms : List Mv} {M : Me} (hw : wfS S) (hnp : 2 ≤ np ∧ np ≤ 3) (hl : leg S np (m :: ms)) (hlen : ms.length < 48) (h : RY M S np (play S np (m :: ms))) (h23 : M 0 23 = nI (ms.length + 1)) (hSA : SA M (m :: ms)) : ∃ M2, qf_X7_undo M = some (1, M2) ∧ RY M2 S np (play S np ms) ∧ M2 0 23 = nI ms.length ∧ SA M2 ms ∧ M2 0 31 = 0 ∧ ∀ c i, ¬ Ky c i → ¬ (c = 0 ∧ (i = 23 ∨ i = 31)) → M2 c i = M c i := by
  obtain ⟨y1, y2, y3, y4, -⟩ := h
  let N : Me := rx_st (rx_st M 0 23 (nI ms.length)) 0 31 0
  have en : ∀ c i, ¬ (c = 0 ∧ (i = 23 ∨ i = 31)) → N c i = M c i := fun c i h => by show rx_st _ _ _ _ c i = _; rw [st_get, if_neg (by omega), st_get, if_neg (by omega)]
  obtain ⟨N2, b1, b2, b3⟩ := y_begin hw (SY_keep y1 (fun c i hc => en c i (by omega))) (by rw [en 0 7 (by omega)]; exact y3) (by rw [en 0 8 (by omega)]; exact y4)
  have e23 : N2 0 23 = nI ms.length := by
    rw [b3 0 23 (by unfold Ky; omega)]
    show rx_st _ _ _ _ 0 23 = _
    rw [st_place (by decide), st_same]
  have e31 : N2 0 31 = 0 := by
    rw [b3 0 31 (by unfold Ky; omega)]
    exact st_same _ _ _ _
  have hSN : SA N2 ms := SA_keep ms hSA.1 (fun j _ => by rw [b3 14 j (by unfold Ky; omega), en 14 j (by omega)])
  obtain ⟨M2, c1, c2, c3⟩ := y_replay hw hnp (N := ms.length) (by omega) ms hl.1 (rx_FU - ms.length) N2 (Nat.le_refl _) e23 hSN b2
  refine ⟨M2, ?_, c2, ?_, SA_keep ms hSN (fun j _ => c3 14 j (by unfold Ky; omega)), ?_, fun c i h1 h2 => by rw [c3 c i h1, b3 c i h1, en c i h2]⟩
  · have hfu : rx_FU - ms.length + ms.length = rx_FU := by have := rx_FUe; omega
    rw [hfu] at c1
    obtain ⟨f, hf⟩ : ∃ f, rx_FU - ms.length = f + 1 := ⟨rx_FU - ms.length - 1, by have := rx_FUe; omega⟩
    unfold qf_X7_undo
    rw [n_vv, y3, if_neg (by decide), n_vv, h23, i_z (by omega), if_neg (by omega), n_vv, kn_1, n_sub (by omega), show ms.length + 1 - 1 = ms.length by omega, n_vv, n_vv]
    show rx_cl (qf_X7_begin N) _ = _
    rw [b1, n_cl, c1, hf]
    show qo_X7_undo_37 _ (nI (4 * ms.length)) M2 = _
    have e23' : M2 0 23 = nI ms.length := by rw [c3 0 23 (by unfold Ky; omega)]; exact e23
    unfold qo_X7_undo_37
    rw [n_vv, e23', kn_4, n_mul, i_le (by omega) (by omega), if_pos (by omega)]
    rfl
  · rw [c3 0 23 (by unfold Ky; omega)]; exact e23
  · rw [c3 0 31 (by unfold Ky; omega)]; exact e31

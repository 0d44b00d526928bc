/-! All that a tile has finished is paid for: the class. -/
theorem edge_kind {S : Su} {T : Tl} (hw : wfS S) (hwt : wfTl S T) {e : Nat × Nat} (h : e ∈ edges S T) : (1 ≤ kdp S T e.1 ∧ kdp S T e.1 ≤ 3) ∧ 1 ≤ kdp S T e.2 ∧ kdp S T e.2 ≤ 3 := by
  obtain ⟨t, s, h1, h2, h3⟩ := mem_edges.mp h
  obtain ⟨o, h4, rfl⟩ := mem_eo.mp h3
  obtain ⟨ho, -⟩ := ta_some h4
  have key : ∀ t s, t < T.length → 1 ≤ kdp S T (8 * t + pp S T t s) ∧ kdp S T (8 * t + pp S T t s) ≤ 3 := by
    intro t s ht
    have hp := pp_lt hw hwt (s := s) ht
    have hk := (hwt.2.1 t ht).1
    have := ((hw.2.2.2 _ hk).1 _ (pu_ix (u := tu T t) (s := s))).2
    unfold kdp
    rw [show (8 * t + pp S T t s) / 8 = t by omega, show (8 * t + pp S T t s) % 8 = pp S T t s by omega]
    exact this
  exact ⟨key t s h1, key o (op s) ho⟩
theorem labs_alone {S : Su} {T : Tl} (hw : wfS S) (hwt : wfTl S T) {x : Nat} (hx : kdp S T x = 0 ∨ kdp S T x = 4) : labs S T x = x := (labs_lab S T).off (fun e he => by
  have := edge_kind hw hwt he
  refine ⟨fun g => ?_, fun g => ?_⟩
  · rw [g] at this; omega
  · rw [g] at this; omega)
theorem score_kind {S : Su} {T : Tl} {np r : Nat} {z : Pz} (h : kdp S T r = 0) : score S T np r z = z := score_f (fun g => by have := g.1; unfold fin at this; omega)
def PQ (S : Su) (T : Tl) (np K B : Nat) (z0 : Pz) (M0 : Me) (z : Pz) (M : Me) : Prop := XP M S T np z ∧ WZ S T np K B z ∧ (∀ c i, ¬ (29 ≤ c ∧ c ≤ 35) → ¬ (c = 3 ∧ i = 10) → M c i = M0 c i) ∧ (∀ i, M 30 i = M0 30 i ∧ M 31 i = M0 31 i) ∧ ∀ C0 Mb, Bm T.length C0 Mb (zC z0) M0 → Bm T.length C0 Mb (zC z) M
theorem PQ.pay {S : Su} {T : Tl} {np K B : Nat} {z0 z : Pz} {M0 M : Me} (hw : wfS S) (hwt : wfTl S T) (h3 : np ≤ 3) (hK : K ≤ 48) (h : PQ S T np K B z0 M0 z M) {r : Nat} (hr : r < 8 * T.length) (hl : labs S T r = r) : ∃ g M2, qf_X2_pay (nI r) M = some (nI g, M2) ∧ zS (score S T np r z) = zS z + g ∧ PQ S T np K B z0 M0 (score S T np r z) M2 := by
  obtain ⟨h1, h2, h4, h5, h6⟩ := h
  obtain ⟨g, M2, a1, a2, a3, a4, a5, a6⟩ := x_pay hw hwt h3 hK h1 h2 hr hl
  refine ⟨g, M2, a1, a2, a3, score_WZ hw hwt h2, fun c i c1 c2 => ?_, fun i => ?_, fun C0 Mb hB => a6 C0 Mb (h6 C0 Mb hB)⟩
  · rw [a4 c i c1 c2]; exact h4 c i c1 c2
  · rw [(a5 i).1, (a5 i).2]; exact h5 i
theorem itr_none {f : Nat → Pz → Pz} {n : Nat} {z : Pz} (h : ∀ i z, i < n → f i z = z) : itr f n z = z := by
  induction n with
  | zero => rfl
  | succ n ih =>
    show f n (itr f n z) = z
    rw [h n _ (by omega), ih (fun i z hi => h i z (by omega))]
theorem itr_one {f : Nat → Pz → Pz} {n k : Nat} {z : Pz} (hk : k < n) (h : ∀ i z, i < n → i ≠ k → f i z = z) : itr f n z = f k z := by
  induction n with
  | zero => omega
  | succ n ih =>
    show f n (itr f n z) = _
    by_cases hc : k = n
    · subst hc
      rw [itr_none (fun i z hi => h i z (by omega) (by omega))]
    · rw [h n _ (by omega) (fun e => hc e.symm), ih (by omega) (fun i z hi hne => h i z (by omega) hne)]
theorem cloA_none {S : Su} {T : Tl} {np q : Nat} {z : Pz} (h : ta T q = none) : cloA S T np q z = z := by unfold cloA; rw [h]
theorem kdp_at (S : Su) (T : Tl) {o j : Nat} (hj : j < 8) : kdp S T (8 * o + j) = sK S (ty T o) j := by
  unfold kdp
  rw [show (8 * o + j) / 8 = o by omega, show (8 * o + j) % 8 = j by omega]
theorem cloA_no {S : Su} {T : Tl} {np q o : Nat} {z : Pz} (h : ta T q = some o) (hk : ∀ k, k < 8 → sK S (ty T o) k ≠ 4) : cloA S T np q z = z := by
  unfold cloA
  rw [h]
  refine itr_none (fun i z hi => ?_)
  show (if kdp S T (8 * o + i) = 4 then score S T np (8 * o + i) z else z) = z
  rw [if_neg (by rw [kdp_at S T hi]; exact hk i hi)]
theorem cloA_yes {S : Su} {T : Tl} {np q o k : Nat} {z : Pz} (hw : wfS S) (hwt : wfTl S T) (h : ta T q = some o) (hk8 : k < 8) (hk : sK S (ty T o) k = 4) : cloA S T np q z = score S T np (8 * o + k) z := by
  obtain ⟨ho, -⟩ := ta_some h
  have hun := (hw.2.2.2 _ (hwt.2.1 o ho).1).2.2.2.1
  unfold cloA
  rw [h]
  show itr (fun j z => if kdp S T (8 * o + j) = 4 then score S T np (8 * o + j) z else z) 8 z = _
  rw [itr_one hk8 (fun i z hi hne => ?_)]
  · show (if kdp S T (8 * o + k) = 4 then score S T np (8 * o + k) z else z) = _
    rw [if_pos (by rw [kdp_at S T hk8]; exact hk)]
  · show (if kdp S T (8 * o + i) = 4 then score S T np (8 * o + i) z else z) = z
    rw [if_neg (fun g => hne (hun i k hi hk8 (by rw [kdp_at S T hi] at g; exact g) hk))]
theorem x_settle {S : Su} {T : Tl} {np K B : Nat} {z : Pz} {M : Me} (hw : wfS S) (hwt : wfTl S T) (h3 : np ≤ 3) (hK : K ≤ 48) (hn : 0 < T.length) (h : XP M S T np z) (hz : WZ S T np K B z) (hs : zS z = 0) : ∃ M2, qf_X2_settle M = some (nI (zS (setl S T np z)), M2) ∧ PQ S T np K B z M (setl S T np z) M2 := by
  have h24 := hwt.1
  have h12 := hw.1
  obtain ⟨n, hn1⟩ : ∃ n, T.length = n + 1 := ⟨T.length - 1, by omega⟩
  have hnl : n < T.length := by omega
  have hin := (hwt.2.1 n hnl).2.2
  have PQ0 : PQ S T np K B z M z M := ⟨h, hz, fun _ _ _ _ => rfl, fun _ => ⟨rfl, rfl⟩, fun _ _ hB => hB⟩
  have hTX : ∀ {z2 : Pz} {M2 : Me}, PQ S T np K B z M z2 M2 → TX M2 S T := fun hp => hp.1.1.1
  have hle := labs_le S T
  have hid := (labs_lab S T).2.1
  unfold setl
  rw [show T.length - 1 = n by omega]
  -- the parts of the tile
  have L1 := lp2_up (b := qo_X2_settle_14 (fun a2 M => qb_X2_settle_49 (nI n) a2 M) (nI n)) (e := 8) (P := fun i a M2 => a = nI (zS (itr (fun j => score S T np (labs S T (8 * n + j))) i z)) ∧ PQ S T np K B z M (itr (fun j => score S T np (labs S T (8 * n + j))) i z) M2) (K := fun a M => qb_X2_settle_49 (nI n) a M) ?_ ?_ rx_FU 0 0 M (fu_lt (by decide)) (by decide) ⟨by show _ = nI (zS z); rw [hs]; rfl, PQ0⟩
  · obtain ⟨a1, M1, ⟨e1, P1⟩, L1⟩ := L1
    generalize itr (fun j => score S T np (labs S T (8 * n + j))) 8 z = z1 at *
    have L2 := lp2_up (b := qo_X2_settle_51 (nI n)) (e := 8) (P := fun i a M2 => a = nI (zS (itr (fun i => cloA S T np (nn (tc T n) i)) i z1)) ∧ PQ S T np K B z M (itr (fun i => cloA S T np (nn (tc T n) i)) i z1) M2) (K := fun a M => some (a, M)) ?_ ?_ rx_FU 0 a1 M1 (fu_lt (by decide)) (by decide) ⟨e1, P1⟩
    · obtain ⟨a2, M2, ⟨e2, P2⟩, L2⟩ := L2
      refine ⟨M2, ?_, P2⟩
      have L2 : rx_lp2 (qo_X2_settle_51 (nI n)) rx_FU a1 0 M1 = some (a2, M2) := L2
      have L1 : rx_lp2 (qo_X2_settle_14 (fun a2 M => qb_X2_settle_49 (nI n) a2 M) (nI n)) rx_FU 0 0 M = rx_lp2 (qo_X2_settle_51 (nI n)) rx_FU a1 0 M1 := L1
      unfold qf_X2_settle
      rw [n_vv, h.1.1.2.1, hn1, kn_1, n_sub (by omega), show n + 1 - 1 = n by omega, n_vv, L1, L2, e2]
    · intro rec i a M2 hi hP
      obtain ⟨g1, g2⟩ := hP
      have hX2 := hTX g2
      have e20 := (hX2.2.2.1 n hnl).1
      have hqq := nn_lt (d := i) hin
      unfold qo_X2_settle_51 qb_X2_settle_98
      rw [len8, i_le (by decide) (by omega), if_neg (by omega), n_ld (by omega) (by decide), e20, n_ls (show i < sZ2.length from hi) (by decide), step_nn hin hi]
      unfold qf_X5_cloisterAt
      rw [n_ld hqq (by decide), hX2.2.2.2.1 _ hqq]
      show ∃ a' M', (a' = nI (zS (cloA S T np (nn (tc T n) i) (itr (fun i => cloA S T np (nn (tc T n) i)) i z1))) ∧ PQ S T np K B z M (cloA S T np (nn (tc T n) i) (itr (fun i => cloA S T np (nn (tc T n) i)) i z1)) M') ∧ _
      generalize itr (fun i => cloA S T np (nn (tc T n) i)) i z1 = z2 at *
      cases e : ta T (nn (tc T n) i) with
      | none =>
        rw [atv_none e, if_pos rfl, n_cl, if_pos rfl, n_vv, kn_1, n_add, cloA_none e]
        exact ⟨_, _, ⟨g1, g2⟩, rfl⟩
      | some o =>
        obtain ⟨ho, -⟩ := ta_some e
        have hty := (hwt.2.1 o ho).1
        have e21 := (hX2.2.2.1 o ho).2.1
        obtain ⟨c1, c2⟩ := hX2.1.2.2.2.2.2.2 (ty T o) hty
        rw [atv_some e, i_m1 (by omega), n_ld (by omega) (by decide), e21, n_ld (by omega) (by decide)]
        by_cases hk : ∃ k, k < 8 ∧ sK S (ty T o) k = 4
        · obtain ⟨k, hk8, hk4⟩ := hk
          have hroot : labs S T (8 * o + k) = 8 * o + k := labs_alone hw hwt (Or.inr (by rw [kdp_at S T hk8]; exact hk4))
          obtain ⟨g, M3, b1, b2, b3⟩ := g2.pay hw hwt h3 hK (r := 8 * o + k) (by omega) hroot
          rw [c1 k hk8 hk4, i_m1 (by omega), kn_8, n_mul, n_ld (by omega) (by decide), e21, n_ld (by omega) (by decide), c1 k hk8 hk4, n_add, n_cl, i_m1 (by omega), show o * 8 + k = 8 * o + k by omega, b1, n_cl, n_vv, n_vv, g1, n_add, kn_1, n_add, cloA_yes hw hwt e hk8 hk4]
          exact ⟨_, _, ⟨by rw [b2], b3⟩, rfl⟩
        · have hk2 : ∀ k, k < 8 → sK S (ty T o) k ≠ 4 := fun k h8 h4 => hk ⟨k, h8, h4⟩
          rw [c2 hk2, if_pos rfl, n_cl, if_pos rfl, n_vv, kn_1, n_add, cloA_no e hk2]
          exact ⟨_, _, ⟨g1, g2⟩, rfl⟩
    · intro rec a M2 _
      unfold qo_X2_settle_51
      rw [len8, i_le (by decide) (by decide), if_pos (by decide)]
  · intro rec i a M2 hi hP
    obtain ⟨g1, g2⟩ := hP
    have hl8 := hle (8 * n + i)
    obtain ⟨g, M3, b1, b2, b3⟩ := g2.pay hw hwt h3 hK (r := labs S T (8 * n + i)) (by omega) (hid _)
    refine ⟨nI (zS (itr (fun j => score S T np (labs S T (8 * n + j))) i z) + g), M3, ⟨?_, b3⟩, ?_⟩
    · show _ = nI (zS (score S T np (labs S T (8 * n + i)) (itr (fun j => score S T np (labs S T (8 * n + j))) i z)))
      rw [b2]
    · unfold qo_X2_settle_14
      rw [kn_8, i_le (by decide) (by omega), if_neg (by omega), n_mul, n_add, show n * 8 + i = 8 * n + i by omega, x_rootOf g2.1.1.2.2.1 (by omega) (by omega), n_cl, b1, n_cl, n_vv, n_vv, g1, n_add, kn_1, n_add]
  · intro rec a M2 _
    unfold qo_X2_settle_14
    rw [kn_8, i_le (by decide) (by decide), if_pos (by decide)]

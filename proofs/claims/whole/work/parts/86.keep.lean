/-! What play keeps. -/
theorem sum_beyond {f : Nat → Nat} {n m : Nat} (h : ∀ x, n ≤ x → f x = 0) : sumN f (n + m) = sumN f n := by
  rw [sumN_split, sumN_zero (n := m) (fun p _ => h _ (by omega)), Nat.add_zero]
theorem WZ_snoc {S : Su} {T : Tl} {x : Nat × Nat × Nat} {np K B : Nat} {z : Pz} (h : WZ S T np K B z) : WZ S (T ++ [x]) np K B z := by
  obtain ⟨h1, h2, h3, h4⟩ := h
  have hl : (T ++ [x]).length = T.length + 1 := by simp
  have e8 : 8 * (T.length + 1) = 8 * T.length + 8 := by omega
  have hob : ob (zO z) (T ++ [x]).length = ob (zO z) T.length := by
    unfold ob
    rw [hl, e8]
    refine sum_beyond (fun y hy => ?_)
    unfold o1
    cases hx : zO z y with
    | none => rfl
    | some p => have := (h1 y p hx).1; omega
  refine ⟨fun y p hy => ?_, fun p hp => ?_, ?_, fun p => ?_⟩
  · obtain ⟨a, b, c⟩ := h1 y p hy
    refine ⟨by omega, b, ?_⟩
    unfold kdp at *
    rw [(snoc_lt (x := x) (show y / 8 < T.length by omega)).2.1]
    exact c
  · rw [hl, e8, sum_beyond (fun y hy => ?_)]
    · exact h2 p hp
    · unfold f1
      by_cases hx : zO z y = some p
      · have := (h1 y p hx).1; omega
      · rw [if_neg hx]
  · rw [hob]; exact h3
  · rw [hob]; exact h4 p
theorem fit_wf {S : Su} {T : Tl} {q k u : Nat} (hwt : wfTl S T) (hn : T.length < 24) (hk : k < sN S) (hu : u < 4) (hf : fit S T k q u) : wfTl S (T ++ [(q, k, u)]) := by
  have hl : (T ++ [(q, k, u)]).length = T.length + 1 := by simp
  refine ⟨by omega, fun t ht => ?_, fun t o ht ho e => ?_⟩
  · by_cases hc : t = T.length
    · subst hc
      rw [snoc_eq.1, snoc_eq.2.1, snoc_eq.2.2]
      exact ⟨hk, hu, hf.1⟩
    · have h2 : t < T.length := by omega
      rw [(snoc_lt h2).1, (snoc_lt h2).2.1, (snoc_lt h2).2.2]
      exact hwt.2.1 t h2
  · by_cases hc : t = T.length
    · by_cases hd : o = T.length
      · rw [hc, hd]
      · have h2 : o < T.length := by omega
        rw [hc, snoc_eq.1, (snoc_lt h2).1] at e
        exact absurd e.symm (ta_none hf.2.1 h2)
    · have h1 : t < T.length := by omega
      by_cases hd : o = T.length
      · rw [hd, snoc_eq.1, (snoc_lt h1).1] at e
        exact absurd e (ta_none hf.2.1 h1)
      · have h2 : o < T.length := by omega
        rw [(snoc_lt h1).1, (snoc_lt h2).1] at e
        exact hwt.2.2 t o h1 h2 e
theorem fit_mat {S : Su} {T : Tl} {q k u : Nat} (hwt : wfTl S T) (hm : mat S T) (hf : fit S T k q u) : mat S (T ++ [(q, k, u)]) := by
  have hl : (T ++ [(q, k, u)]).length = T.length + 1 := by simp
  intro t d o ht hd ho
  rcases (ta_new (x := (q, k, u)) hf.2.1).mp ho with h1 | ⟨h1, h2⟩
  · obtain ⟨hol, -⟩ := ta_some h1
    rw [(snoc_lt hol).2.1, (snoc_lt hol).2.2]
    by_cases hc : t = T.length
    · subst hc
      rw [snoc_eq.1] at h1
      rw [snoc_eq.2.1, snoc_eq.2.2]
      exact hf.2.2.2 d o hd h1
    · have ht2 : t < T.length := by omega
      rw [(snoc_lt ht2).1] at h1
      rw [(snoc_lt ht2).2.1, (snoc_lt ht2).2.2]
      exact hm t d o ht2 hd h1
  · have h1 : q = nb (tc (T ++ [(q, k, u)]) t) d := h1
    subst h2
    have ht2 : t < T.length := by
      by_cases hc : t = T.length
      · subst hc
        rw [snoc_eq.1] at h1
        exact absurd h1.symm (nb_ne hf.1)
      · omega
    rw [(snoc_lt ht2).1] at h1
    rw [(snoc_lt ht2).2.1, (snoc_lt ht2).2.2, snoc_eq.2.1, snoc_eq.2.2]
    have hin := (hwt.2.1 t ht2).2.2
    have hb := nb_back hin hd
    rw [← h1] at hb
    have := hf.2.2.2 ((d + 2) % 4) t (by omega) (by rw [hb]; exact ta_at hwt ht2)
    rw [show ((d + 2) % 4 + 2) % 4 = d by omega] at this
    exact this.symm
theorem fit_cen {S : Su} {T : Tl} {q k u : Nat} (hc : cen T) (hf : fit S T k q u) : cen (T ++ [(q, k, u)]) := by
  intro _
  by_cases hT : T = []
  · have hq : q = 220 := by
      rcases hf.2.2.1 with ⟨-, h⟩ | ⟨d, _, h⟩
      · exact h
      · rw [hT] at h; exact absurd rfl h
    subst hq
    rw [(ta_new (x := (220, k, u)) hf.2.1).mpr (Or.inr ⟨rfl, rfl⟩)]
    exact fun e => by cases e
  · cases e : ta T 220 with
    | none => exact absurd e (hc hT)
    | some t =>
      rw [(ta_new (x := (q, k, u)) hf.2.1).mpr (Or.inl e)]
      exact fun e => by cases e
theorem WG_room {S : Su} {np : Nat} {g : Gm} (hw : wfS S) (h : WG S np g) (hL : gL g = false) {k : Nat} (hD : gD g = some k) : (gT g).length < 24 := by
  obtain ⟨-, -, -, -, -, h6, -, h8, -⟩ := h
  rw [if_pos ⟨hL, by rw [hD]; exact fun e => by cases e⟩] at h8
  have := hw.2.1
  omega
theorem WG_lay {S : Su} {np : Nat} {g : Gm} {k q u : Nat} (hw : wfS S) (h : WG S np g) (hL : gL g = false) (hD : gD g = some k) (hf : fit S (gT g) k q u) (hu : u < 4) : WG S np (layG g q u) := by
  have hroom := WG_room hw h hL hD
  obtain ⟨h1, h2, h3, h4, h5, h6, h7, h8, h9, -⟩ := h
  have eT : gT (layG g q u) = gT g ++ [(q, k, u)] := by unfold layG gT; rw [hD]; rfl
  have hl : (gT g ++ [(q, k, u)]).length = (gT g).length + 1 := by simp
  have ew : gw (layG g q u) = gw g := by
    unfold gw
    rw [eT, hl, show gL (layG g q u) = true from rfl, if_pos rfl, hL, if_neg (by decide)]
    omega
  refine ⟨h1, ?_, ?_, ?_, h5, h6, h7, ?_, ?_, fun _ => ?_⟩
  · rw [eT]; exact fit_wf h2 hroom (h7 k hD) hu hf
  · rw [eT]; exact fit_mat h2 h3 hf
  · rw [eT]; exact fit_cen h4 hf
  · rw [eT, hl, show gL (layG g q u) = true from rfl, if_neg (fun e => by cases e.1)]
    rw [if_pos ⟨hL, by rw [hD]; exact fun e => by cases e⟩] at h8
    show (gT g).length + 1 + gA g + 0 = gX g
    omega
  · rw [eT, ew]
    exact WZ_snoc h9
  · rw [eT, hl]; omega
theorem sumN_upd {f g : Nat → Nat} {N x : Nat} (hx : x < N) (h0 : f x = 0) (h1 : g x = 1) (h : ∀ y, y ≠ x → g y = f y) : sumN g N = sumN f N + 1 := sumN_one hx (by rw [h0, h1]) (fun y _ hy => h y hy)
theorem WZ_put {S : Su} {np : Nat} {g : Gm} {j : Nat} (h : WG S np g) (hL : gL g = true) (hj : j = 0 ∨ ∃ k, j = k + 1 ∧ mayP S g k) : WZ S (gT g) np (2 * (gw g + 1)) (576 * (gw g + 1)) (putZ g j) := by
  obtain ⟨-, h2, -, -, h5, -, -, -, ⟨z1, z2, z3, z4⟩, h10⟩ := h
  have hn := h10 hL
  have z1 : ∀ x p, gO g x = some p → x < 8 * (gT g).length ∧ p < np ∧ kdp S (gT g) x ≠ 0 := z1
  have z2 : ∀ p, p < np → gF g p + sumN (f1 (gO g) p) (8 * (gT g).length) = 7 := z2
  have z3 : gCh g + ob (gO g) (gT g).length ≤ 2 * gw g := z3
  have z4 : ∀ p, gP g p + 576 * ob (gO g) (gT g).length ≤ 576 * gw g := z4
  rcases hj with rfl | ⟨k, rfl, hk8, hF, hkd, hno⟩
  · refine ⟨z1, z2, ?_, fun p => ?_⟩
    · show gCh g + ob (gO g) (gT g).length ≤ _; omega
    · show gP g p + 576 * ob (gO g) (gT g).length ≤ _
      have := z4 p
      omega
  · have hx : 8 * ((gT g).length - 1) + k < 8 * (gT g).length := by omega
    have e1 : putZ g (k + 1) = (fun x => if x = 8 * ((gT g).length - 1) + k then some (gW g) else gO g x, gP g, fun p => if p = gW g then gF g p - 1 else gF g p, gCh g + 1, 0) := by
      unfold putZ
      rw [if_neg (by omega)]
      rfl
    have hO : gO g (8 * ((gT g).length - 1) + k) = none := by
      cases e : gO g (8 * ((gT g).length - 1) + k) with
      | none => rfl
      | some p => exact absurd ⟨_, hx, rfl, by rw [e]; exact fun g => by cases g⟩ hno
    rw [e1]
    generalize hxx : 8 * ((gT g).length - 1) + k = x at *
    have hob : ob (fun y => if y = x then some (gW g) else gO g y) (gT g).length = ob (gO g) (gT g).length + 1 := by
      refine sumN_upd hx ?_ ?_ (fun y hy => ?_)
      · unfold o1; rw [hO]
      · unfold o1; simp
      · unfold o1; simp [hy]
    refine ⟨fun y p hy => ?_, fun p hp => ?_, ?_, fun p => ?_⟩
    · have hy : (if y = x then some (gW g) else gO g y) = some p := hy
      by_cases hc : y = x
      · rw [if_pos hc] at hy
        rw [hc]
        exact ⟨hx, by rw [← Option.some.inj hy]; exact h5, hkd⟩
      · rw [if_neg hc] at hy
        exact z1 y p hy
    · show (if p = gW g then gF g p - 1 else gF g p) + sumN (f1 (fun y => if y = x then some (gW g) else gO g y) p) (8 * (gT g).length) = 7
      have := z2 p hp
      by_cases hc : p = gW g
      · rw [if_pos hc]
        have : sumN (f1 (fun y => if y = x then some (gW g) else gO g y) p) (8 * (gT g).length) = sumN (f1 (gO g) p) (8 * (gT g).length) + 1 := by
          refine sumN_upd hx ?_ ?_ (fun y hy => ?_)
          · unfold f1; rw [hO]; simp
          · unfold f1; simp [hc]
          · unfold f1; simp [hy]
        have hF' : 0 < gF g p := by rw [hc]; exact hF
        omega
      · rw [if_neg hc]
        have : sumN (f1 (fun y => if y = x then some (gW g) else gO g y) p) (8 * (gT g).length) = sumN (f1 (gO g) p) (8 * (gT g).length) := by
          apply sumN_congr
          intro y _
          unfold f1
          by_cases hy : y = x
          · have hne : ¬ gW g = p := fun e => hc e.symm
            simp [hy, hO, hne]
          · simp [hy]
        omega
    · show gCh g + 1 + ob (fun y => if y = x then some (gW g) else gO g y) (gT g).length ≤ _
      omega
    · show gP g p + 576 * ob (fun y => if y = x then some (gW g) else gO g y) (gT g).length ≤ _
      have := z4 p
      omega
theorem gw_put {S : Su} {np : Nat} {g : Gm} {j : Nat} (h : WG S np g) (hL : gL g = true) : gw (putG S np g j) = gw g + 1 := by
  have := h.2.2.2.2.2.2.2.2.2 hL
  unfold gw
  rw [hL, if_pos rfl, show gL (putG S np g j) = false from rfl, if_neg (by decide), show gT (putG S np g j) = gT g from rfl]
  omega
theorem WG_put {S : Su} {np : Nat} {g : Gm} {j : Nat} (hw : wfS S) (h : WG S np g) (hL : gL g = true) (hj : j = 0 ∨ ∃ k, j = k + 1 ∧ mayP S g k) : WG S np (putG S np g j) := by
  have hz := WZ_put h hL hj
  have ew := gw_put (j := j) h hL
  obtain ⟨h1, h2, h3, h4, h5, h6, h7, h8, -, h10⟩ := h
  obtain ⟨a1, a2, a3, a4⟩ := dn_ok (T := gT g) hw ((sL S).length - gX g) (gX g) (gA g) (by omega)
  rw [if_neg (fun e => by rw [hL] at e; cases e.1)] at h8
  refine ⟨h1, h2, h3, h4, ?_, a1, fun k hk => (a2 k hk).1, ?_, ?_, fun hc => (by cases hc)⟩
  · show (if gW g + 1 < np then gW g + 1 else 0) < np
    by_cases hc : gW g + 1 < np
    · rw [if_pos hc]; exact hc
    · rw [if_neg hc]; omega
  · show (gT g).length + (dn S (gT g) ((sL S).length - gX g) (gX g) (gA g)).2.2 + (if false = false ∧ (dn S (gT g) ((sL S).length - gX g) (gX g) (gA g)).2.1 ≠ none then 1 else 0) = (dn S (gT g) ((sL S).length - gX g) (gX g) (gA g)).1
    by_cases hd : (dn S (gT g) ((sL S).length - gX g) (gX g) (gA g)).2.1 = none
    · rw [if_neg (fun g => g.2 hd)]; rw [if_pos hd] at a3; omega
    · rw [if_pos ⟨rfl, hd⟩]; rw [if_neg hd] at a3; omega
  · rw [ew]
    exact setl_keep (P := WZ S (gT g) np (2 * (gw g + 1)) (576 * (gw g + 1))) hz (fun r z hz => score_WZ hw h2 hz)
theorem stepG_lay {S : Su} {np : Nat} {g : Gm} {q u : Nat} : stepG S np g (1, q, u) = layG g q u := rfl
theorem stepG_put {S : Su} {np : Nat} {g : Gm} {j u : Nat} : stepG S np g (0, j, u) = putG S np g j := rfl
theorem WG_step {S : Su} {np : Nat} {g : Gm} {m : Mv} (hw : wfS S) (h : WG S np g) (hm : okM S g m) : WG S np (stepG S np g m) := by
  unfold okM at hm
  unfold stepG
  by_cases hc : m.1 = 1
  · rw [if_pos hc] at *
    obtain ⟨hL, k, hD, hf, hu⟩ := hm
    exact WG_lay hw h hL hD hf hu
  · rw [if_neg hc] at *
    exact WG_put hw h hm.1 hm.2
theorem leg_WG {S : Su} {np : Nat} (hw : wfS S) (h2 : 2 ≤ np) (h3 : np ≤ 3) : ∀ ms, leg S np ms → WG S np (play S np ms) := by
  intro ms
  induction ms with
  | nil => intro _; exact WG0 hw h2 h3
  | cons m ms ih => intro h; exact WG_step hw (ih h.1) h.2

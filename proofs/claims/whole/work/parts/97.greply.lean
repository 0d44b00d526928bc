/-! The reference's reply, whole. -/
theorem ok_low {S : Su} {g : Gm} {i : Nat} (h : i < 9 * ph 0) : ¬ okL S g i := by
  intro hok
  obtain ⟨a, ha, e⟩ := ph_onto (j := i / 9) (okL_inb hok)
  by_cases h0 : a = 0
  · subst h0; omega
  · have := ph_lt (show 0 < a by omega); omega
theorem ok_high {S : Su} {g : Gm} {i : Nat} (h : 9 * ph 1444 ≤ i) : ¬ okL S g i := by
  intro hok
  obtain ⟨a, ha, e⟩ := ph_onto (j := i / 9) (okL_inb hok)
  have := ph_lt ha
  omega
theorem ok_gap {S : Su} {g : Gm} {a i : Nat} (h1 : 9 * ph a + 9 ≤ i) (h2 : i < 9 * ph (a + 1)) : ¬ okL S g i := fun hok => ph_gap (a := a) (okL_inb hok) (by omega) (by omega)
theorem ph_9 {a : Nat} (h : a ≤ 1444) : 9 * ph a ≤ 15876 := by
  unfold ph
  omega
theorem y_spots1 {S : Su} {np : Nat} {h : Gm} {bud c0' k a : Nat} {Mb : Me} {K : Int32 → Me → Op} (hw : wfS S) (hG : WG S np h) (hL : gL h = false) (hD : gD h = some k) (hbud : bud ≤ 1500) (ha : a < 1444) (hf : fitS S (gT h) k (ph a)) : ∀ (f p : Nat) (w3 : Int32) (M : Me), 9 - p < f → p ≤ 9 → Q1 S np h bud c0' Mb (9 * ph a + p) w3 M → ∃ w M2, rx_lp2 (qo_X7_reply_67 K (nI bud) (nI (gW h)) (nI a) 1) f w3 (pv p) M = K w M2 ∧ Q1 S np h bud c0' Mb (9 * ph a + 9) w M2 := by
  intro f
  induction f with
  | zero => intro p w3 M h; omega
  | succ f ih =>
    intro p w3 M hf' hp hq
    show ∃ w M2, qo_X7_reply_67 K (nI bud) (nI (gW h)) (nI a) 1 (rx_lp2 (qo_X7_reply_67 K (nI bud) (nI (gW h)) (nI a) 1) f) w3 (pv p) M = K w M2 ∧ _
    by_cases hp9 : p = 9
    · subst hp9
      refine ⟨w3, M, ?_, hq⟩
      generalize rx_lp2 (qo_X7_reply_67 K (nI bud) (nI (gW h)) (nI a) 1) f = rec
      unfold qo_X7_reply_67
      rw [if_pos (show (8 : Int32) ≤ pv 9 by decide)]
    · rcases y_line1 (K := K) (rec := rx_lp2 (qo_X7_reply_67 K (nI bud) (nI (gW h)) (nI a) 1) f) hw hG hL hD hbud ha (show p < 9 by omega) hf hq with ⟨w, M2, a1, a2⟩ | ⟨a1, a2⟩
      · obtain ⟨w4, M3, b1', b2⟩ := ih (p + 1) w M2 (by omega) (by omega) a2
        exact ⟨w4, M3, by rw [a1]; exact b1', b2⟩
      · exact ⟨w3, M, a1, a2 _⟩
theorem y_cells1 {S : Su} {np : Nat} {h : Gm} {bud c0' k : Nat} {Mb : Me} {K : Me → Op} (hw : wfS S) (hG : WG S np h) (hL : gL h = false) (hD : gD h = some k) (hbud : bud ≤ 1500) : ∀ (f a : Nat) (w3 : Int32) (M : Me), 1444 - a < f → a ≤ 1444 → Q1 S np h bud c0' Mb (9 * ph a) w3 M → ∃ w M2, rx_lp2 (qo_X7_reply_16 K (nI bud) (nI (gW h))) f w3 (nI a) M = K M2 ∧ Q1 S np h bud c0' Mb 15876 w M2 := by
  intro f
  induction f with
  | zero => intro a w3 M h; omega
  | succ f ih =>
    intro a w3 M hf ha hq
    show ∃ w M2, qo_X7_reply_16 K (nI bud) (nI (gW h)) (rx_lp2 (qo_X7_reply_16 K (nI bud) (nI (gW h))) f) w3 (nI a) M = K M2 ∧ _
    by_cases ha4 : a = 1444
    · subst ha4
      refine ⟨w3, M, ?_, Q1_skip hq (ph_9 (by omega)) (fun i i1 _ => ok_high i1)⟩
      generalize rx_lp2 (qo_X7_reply_16 K (nI bud) (nI (gW h))) f = rec
      unfold qo_X7_reply_16
      rw [kn_1444, i_le (by decide) (by decide), if_pos (by decide)]
    · have halt : a < 1444 := by omega
      obtain ⟨q1, q2, q3, q4⟩ := hq
      rcases q4 with ⟨c, c1, c2, c3, c4, c5⟩ | ⟨c, c1, c2, c3, c4⟩
      · have hq : Q1 S np h bud c0' Mb (9 * ph a) w3 M := ⟨q1, q2, q3, Or.inl ⟨c, c1, c2, c3, c4, c5⟩⟩
        have hk := hG.2.2.2.2.2.2.1 k hD
        obtain ⟨s1, s2, s3⟩ := y_spot halt
        have hfa := y_fitsAt hw hG.2.1 q1.1 q1.2.1 hk (ph_inb halt) (show ph a % 4 < 4 from Nat.mod_lt _ (by decide))
        have e20 : M 0 20 = nI k := by rw [q1.2.2.2.2.2.2.2.2.1, hD]; rfl
        have h212 : ∀ (w : Int32) (M : Me), qb_X7_reply_212 (rx_lp2 (qo_X7_reply_16 K (nI bud) (nI (gW h))) f) (nI bud) (nI (gW h)) w (nI a) M = rx_lp2 (qo_X7_reply_16 K (nI bud) (nI (gW h))) f w (nI (a + 1)) M := by
          intro w M
          unfold qb_X7_reply_212
          rw [n_vv, kn_1, n_add]
        have go : ∀ (w : Int32) (M2 : Me), Q1 S np h bud c0' Mb (9 * ph a + 9) w M2 → ∃ w' M3, qb_X7_reply_212 (rx_lp2 (qo_X7_reply_16 K (nI bud) (nI (gW h))) f) (nI bud) (nI (gW h)) w (nI a) M2 = K M3 ∧ Q1 S np h bud c0' Mb 15876 w' M3 := by
          intro w M2 hq2
          have hlt := ph_lt (show a < a + 1 by omega)
          rw [h212]
          exact ih (a + 1) w M2 (by omega) (by omega) (Q1_skip hq2 (by omega) (fun i i1 i2 => ok_gap i1 i2))
        have run : qo_X7_reply_16 K (nI bud) (nI (gW h)) (rx_lp2 (qo_X7_reply_16 K (nI bud) (nI (gW h))) f) w3 (nI a) M = rx_lp2 (qo_X7_reply_67 (fun a3 M => qb_X7_reply_212 (rx_lp2 (qo_X7_reply_16 K (nI bud) (nI (gW h))) f) (nI bud) (nI (gW h)) a3 (nI a) M) (nI bud) (nI (gW h)) (nI a) (flg (fit S (gT h) k (ph a / 4) (ph a % 4)))) rx_FU w3 (-1) M := by
          generalize rx_lp2 (qo_X7_reply_16 K (nI bud) (nI (gW h))) f = rec
          unfold qo_X7_reply_16
          rw [kn_1444, i_le (by decide) (by omega), if_neg (by omega), n_vv, c2, i_lt (by omega) (by omega), if_neg (by omega), n_vv, e20, s1, s2, s3, hfa, n_cl]
        rw [run]
        by_cases hfit : fit S (gT h) k (ph a / 4) (ph a % 4)
        · rw [flg_t hfit]
          obtain ⟨w, M2, a1, a2⟩ := y_spots1 (K := fun a3 M => qb_X7_reply_212 (rx_lp2 (qo_X7_reply_16 K (nI bud) (nI (gW h))) f) (nI bud) (nI (gW h)) a3 (nI a) M) hw hG hL hD hbud halt hfit rx_FU 0 w3 M (fu_lt (by decide)) (by omega) hq
          obtain ⟨w2, M3, b1', b2⟩ := go w M2 a2
          exact ⟨w2, M3, by rw [← b1']; exact a1, b2⟩
        · rw [flg_f hfit]
          obtain ⟨w2, M3, b1', b2⟩ := go w3 M (Q1_skip hq (by omega) (fun i i1 i2 => by
            rintro ⟨k2, o1, o2, o3⟩
            rw [hD] at o1
            cases o1
            rw [show i / 9 = ph a by omega] at o2
            exact hfit o2))
          refine ⟨w2, M3, ?_, b2⟩
          rw [← b1']
          obtain ⟨f2, hf2⟩ : ∃ f2, rx_FU = f2 + 1 := ⟨rx_FU - 1, by have := rx_FUe; omega⟩
          rw [hf2]
          show qo_X7_reply_67 (fun a3 M => qb_X7_reply_212 (rx_lp2 (qo_X7_reply_16 K (nI bud) (nI (gW h))) f) (nI bud) (nI (gW h)) a3 (nI a) M) (nI bud) (nI (gW h)) (nI a) 0 _ w3 (-1) M = _
          unfold qo_X7_reply_67
          rw [if_neg (by decide), if_pos rfl]
      · refine ⟨w3, M, ?_, q1, q2, q3, Or.inr ⟨c, c1, c2, c3, c4⟩⟩
        generalize rx_lp2 (qo_X7_reply_16 K (nI bud) (nI (gW h))) f = rec
        unfold qo_X7_reply_16
        rw [kn_1444, i_le (by decide) (by omega), if_neg (by omega), n_vv, c3, i_lt (by omega) (by omega), if_pos c1]
theorem y_reply {S : Su} {np : Nat} {h : Gm} {bud c k : Nat} {M : Me} (hw : wfS S) (hG : WG S np h) (hL : gL h = false) (hD : gD h = some k) (hany : anyF S (gT h) k) (hbud : bud ≤ 1500) (hR : RY M S np h) (hc : c ≤ bud + 1) (h30 : M 0 30 = nI c) : ∃ M2, qf_X7_reply (nI bud) M = some (0, M2) ∧ RY M2 S np h ∧ (∀ c i, ¬ Ky c i → ¬ (c = 0 ∧ i = 30) → ¬ (c = 16 ∧ 210 ≤ i) → c ≠ 17 → c ≠ 18 → M2 c i = M c i) ∧ ((∃ c2, c2 ≤ bud ∧ M2 0 30 = nI c2 ∧ c2 = c + n1 S h 15876 ∧ ∀ p, p < np → M2 17 p = nI (G1 S np h p)) ∨ ∃ c2, bud < c2 ∧ c2 ≤ bud + 1 ∧ M2 0 30 = nI c2 ∧ c2 ≤ c + n1 S h 15876) := by
  have h3 := hG.1.2
  obtain ⟨M1, a1, a2, a3⟩ := y_copy (lv := 1) (by omega) hR hL
  have hR1 : RY M1 S np h := RY_keep hR (fun c i hc => a3 c i (by unfold Ky at hc; omega))
  have h130 : M1 0 30 = nI c := by rw [a3 0 30 (by omega)]; exact h30
  have hq0 : Q1 S np h bud c M1 0 (-100000) M1 := by
    refine ⟨hR1, a2, fun _ _ _ _ _ _ => rfl, ?_⟩
    by_cases hcb : c ≤ bud
    · exact Or.inl ⟨c, hcb, h130, rfl, rfl, fun b hb => (by cases hb)⟩
    · exact Or.inr ⟨c, by omega, hc, h130, by omega⟩
  obtain ⟨w, M2, b1', b2⟩ := y_cells1 (K := fun M => qb_X7_reply_218 M) hw hG hL hD hbud rx_FU 0 (-100000) M1 (fu_lt (by omega)) (by omega) (Q1_skip hq0 (by omega) (fun i _ i2 => ok_low i2))
  have L := lp1_up (b := qo_X7_reply_221) (e := 3) (K := fun M => some ((0 : Int32), M)) (P := fun i M3 => (∀ p, p < i → M3 17 p = M2 18 p) ∧ ∀ c i, c ≠ 17 → M3 c i = M2 c i) ?_ ?_ rx_FU 0 M2 (fu_lt (by decide)) (by decide) ⟨fun p hp => (by omega), fun _ _ _ => rfl⟩
  · obtain ⟨M3, ⟨t1, t2⟩, L⟩ := L
    obtain ⟨q1, q2, q3, q4⟩ := b2
    refine ⟨M3, ?_, RY_keep q1 (fun c i hc => t2 c i (by unfold Ky at hc; omega)), fun c i c1 c2 c3 c4 c5 => by rw [t2 c i c4, q3 c i c1 c2 c4 c5, a3 c i (by omega)], ?_⟩
    · unfold qf_X7_reply
      rw [n_vv, hR.2.2.2.2.2.2.1, show (1 : Int32) = nI 1 from rfl, a1, n_cl]
      exact b1'.trans L
    · rcases q4 with ⟨c2, c1, c3, c4, c5, c6⟩ | ⟨c2, c1, c3, c4, c5⟩
      · left
        refine ⟨c2, c1, by rw [t2 0 30 (by decide)]; exact c3, c4, fun p hp => ?_⟩
        obtain ⟨b, hb⟩ := b1_any (np := np) hD hany
        rw [t1 p (by omega), c6 b hb p hp]
        unfold G1
        rw [hb]
        rfl
      · right
        exact ⟨c2, c1, c3, by rw [t2 0 30 (by decide)]; exact c4, c5⟩
  · intro rec i M3 hi hP
    refine ⟨rx_st M3 17 i (M2 18 i), ⟨fun x hx => ?_, fun c k hc => by rw [st_cell hc]; exact hP.2 c k hc⟩, ?_⟩
    · by_cases cx : x = i
      · rw [cx]; exact st_same _ _ _ _
      · rw [st_place cx]; exact hP.1 x (by omega)
    · unfold qo_X7_reply_221
      rw [kn_3, i_le (by decide) (by omega), if_neg (by omega), n_ld hi (by decide), hP.2 18 i (by decide), n_sv hi (by decide), n_vv, kn_1, n_add]
  · intro rec M3 _
    unfold qo_X7_reply_221
    rw [kn_3, i_le (by decide) (by decide), if_pos (by decide)]

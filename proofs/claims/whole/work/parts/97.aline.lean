/-! Lines of a search: codes of a spot and a part, the best line, how many positions. -/
noncomputable def lyG (g : Gm) (e : Nat) : Gm := layG g (e / 9 / 4) (e / 9 % 4)
noncomputable def nx (S : Su) (np : Nat) (g : Gm) (e : Nat) : Gm := putG S np (lyG g e) (e % 9)
def okL (S : Su) (g : Gm) (e : Nat) : Prop := ∃ k, gD g = some k ∧ fitS S (gT g) k (e / 9) ∧ (e % 9 = 0 ∨ mayP S (lyG g e) (e % 9 - 1))
def oth (mv : Nat) (F : Nat → Nat) : Nat → Nat
  | 0 => 0
  | n + 1 => if n = mv then oth mv F n else max (oth mv F n) (F n)
def mgI (mv np : Nat) (F : Nat → Nat) : Int32 := nI (F mv) - nI (oth mv F np)
theorem oth_congr {mv n : Nat} {F G : Nat → Nat} (h : ∀ p, p < n → F p = G p) : oth mv F n = oth mv G n := by
  induction n with
  | zero => rfl
  | succ n ih =>
    show (if n = mv then oth mv F n else max (oth mv F n) (F n)) = (if n = mv then oth mv G n else max (oth mv G n) (G n))
    rw [ih (fun p hp => h p (by omega)), h n (by omega)]
theorem oth_le {mv n c : Nat} {F : Nat → Nat} (h : ∀ p, p < n → F p ≤ c) : oth mv F n ≤ c := by
  induction n with
  | zero => exact Nat.zero_le _
  | succ n ih =>
    have h1 := ih (fun p hp => h p (by omega))
    have h2 := h n (by omega)
    show (if n = mv then oth mv F n else max (oth mv F n) (F n)) ≤ c
    by_cases hc : n = mv
    · rw [if_pos hc]; exact h1
    · rw [if_neg hc]; omega
theorem mgI_gt {mv np : Nat} {F : Nat → Nat} (hm : mv < np) (h : ∀ p, p < np → F p ≤ 20000) : ¬ (mgI mv np F ≤ -100000) := by
  have h1 := h mv hm
  have h2 := oth_le (mv := mv) h
  intro hc
  have h3 := Int32.le_iff_toInt_le.mp hc
  unfold mgI at h3
  rw [Int32.toInt_sub, nI_toInt (by omega), nI_toInt (by omega)] at h3
  have h4 : (-100000 : Int32).toInt = -100000 := by decide
  rw [h4, Int.bmod_def] at h3
  split at h3 <;> omega
noncomputable def bnew (v : Nat → Int32) (b : Option Nat) (e : Nat) : Option Nat := match b with
  | none => some e
  | some b => if v e ≤ v b then some b else some e
noncomputable def bs (ok : Nat → Prop) (v : Nat → Int32) : Nat → Option Nat
  | 0 => none
  | e + 1 => @ite _ (ok e) (Classical.propDecidable _) (bnew v (bs ok v e) e) (bs ok v e)
theorem bs_t {ok : Nat → Prop} {v : Nat → Int32} {e : Nat} (h : ok e) : bs ok v (e + 1) = bnew v (bs ok v e) e := if_pos h
theorem bs_f {ok : Nat → Prop} {v : Nat → Int32} {e : Nat} (h : ¬ ok e) : bs ok v (e + 1) = bs ok v e := if_neg h
theorem bs_skip {ok : Nat → Prop} {v : Nat → Int32} {a b : Nat} (hab : a ≤ b) (h : ∀ i, a ≤ i → i < b → ¬ ok i) : bs ok v b = bs ok v a := by
  induction b with
  | zero => rw [show a = 0 by omega]
  | succ b ih =>
    by_cases hc : a = b + 1
    · rw [hc]
    · rw [bs_f (h b (by omega) (by omega))]
      exact ih (by omega) (fun i h1 h2 => h i h1 (by omega))
theorem bs_some {ok : Nat → Prop} {v : Nat → Int32} {e b : Nat} (h : bs ok v e = some b) : ok b ∧ b < e := by
  induction e with
  | zero => cases h
  | succ e ih =>
    by_cases hc : ok e
    · rw [bs_t hc] at h
      unfold bnew at h
      cases hb : bs ok v e with
      | none => rw [hb] at h; cases h; exact ⟨hc, by omega⟩
      | some b2 =>
        rw [hb] at h
        have h : (if v e ≤ v b2 then some b2 else some e) = some b := h
        by_cases hv : v e ≤ v b2
        · rw [if_pos hv] at h
          have := ih (by rw [hb]; exact h)
          exact ⟨this.1, by omega⟩
        · rw [if_neg hv] at h; cases h; exact ⟨hc, by omega⟩
    · rw [bs_f hc] at h
      have := ih h
      exact ⟨this.1, by omega⟩
theorem bs_none {ok : Nat → Prop} {v : Nat → Int32} {e : Nat} (h : bs ok v e = none) : ∀ i, i < e → ¬ ok i := by
  induction e with
  | zero => intro i hi; omega
  | succ e ih =>
    by_cases hc : ok e
    · rw [bs_t hc] at h
      unfold bnew at h
      cases hb : bs ok v e with
      | none => rw [hb] at h; cases h
      | some b2 =>
        rw [hb] at h
        have h : (if v e ≤ v b2 then some b2 else some e) = none := h
        by_cases hv : v e ≤ v b2
        · rw [if_pos hv] at h; cases h
        · rw [if_neg hv] at h; cases h
    · rw [bs_f hc] at h
      intro i hi
      by_cases hie : i = e
      · subst hie; exact hc
      · exact ih h i (by omega)
noncomputable def posn (ok : Nat → Prop) (cost : Nat → Nat) (e : Nat) : Nat := sumN (fun e => ci (ok e) * cost e) e
theorem posn_t {ok : Nat → Prop} {cost : Nat → Nat} {e : Nat} (h : ok e) : posn ok cost (e + 1) = posn ok cost e + cost e := by
  show posn ok cost e + ci (ok e) * cost e = _
  rw [ci_t h, Nat.one_mul]
theorem posn_f {ok : Nat → Prop} {cost : Nat → Nat} {e : Nat} (h : ¬ ok e) : posn ok cost (e + 1) = posn ok cost e := by
  show posn ok cost e + ci (ok e) * cost e = _
  rw [ci_f h, Nat.zero_mul]; rfl
theorem posn_skip {ok : Nat → Prop} {cost : Nat → Nat} {a b : Nat} (hab : a ≤ b) (h : ∀ i, a ≤ i → i < b → ¬ ok i) : posn ok cost b = posn ok cost a := by
  induction b with
  | zero => rw [show a = 0 by omega]
  | succ b ih =>
    by_cases hc : a = b + 1
    · rw [hc]
    · rw [posn_f (h b (by omega) (by omega))]
      exact ih (by omega) (fun i h1 h2 => h i h1 (by omega))
theorem posn_mono {ok : Nat → Prop} {cost : Nat → Nat} {a b : Nat} (hab : a ≤ b) : posn ok cost a ≤ posn ok cost b := sumN_mono hab
/-! two levels -/
noncomputable def fG (S : Su) (np : Nat) (g : Gm) (p : Nat) : Nat := fins S (gT g) (gO g) np (gP g) p
noncomputable def v1 (S : Su) (np : Nat) (h : Gm) (e : Nat) : Int32 := mgI (gW h) np (fG S np (nx S np h e))
noncomputable def b1 (S : Su) (np : Nat) (h : Gm) (e : Nat) : Option Nat := bs (okL S h) (v1 S np h) e
noncomputable def n1 (S : Su) (h : Gm) (e : Nat) : Nat := posn (okL S h) (fun _ => 1) e
noncomputable def gb (S : Su) (np : Nat) (h : Gm) (b : Option Nat) : Nat → Nat := match b with
  | none => fun _ => 0
  | some b => fG S np (nx S np h b)
noncomputable def G1 (S : Su) (np : Nat) (h : Gm) : Nat → Nat := gb S np h (b1 S np h 15876)
noncomputable def Fy0 (S : Su) (np : Nat) (g : Gm) (e : Nat) : Nat → Nat := match gD (nx S np g e) with
  | none => fG S np (nx S np g e)
  | some _ => G1 S np (nx S np g e)
noncomputable def c0 (S : Su) (np : Nat) (g : Gm) (e : Nat) : Nat := match gD (nx S np g e) with
  | none => 1
  | some _ => 1 + n1 S (nx S np g e) 15876
noncomputable def v0 (S : Su) (np : Nat) (g : Gm) (e : Nat) : Int32 := mgI (gW g) np (Fy0 S np g e)
noncomputable def b0 (S : Su) (np : Nat) (g : Gm) (e : Nat) : Option Nat := bs (okL S g) (v0 S np g) e
noncomputable def n0 (S : Su) (np : Nat) (g : Gm) (e : Nat) : Nat := posn (okL S g) (c0 S np g) e
theorem Fy0_none {S : Su} {np : Nat} {g : Gm} {e : Nat} (h : gD (nx S np g e) = none) : Fy0 S np g e = fG S np (nx S np g e) := by unfold Fy0; rw [h]
theorem Fy0_some {S : Su} {np : Nat} {g : Gm} {e k : Nat} (h : gD (nx S np g e) = some k) : Fy0 S np g e = G1 S np (nx S np g e) := by unfold Fy0; rw [h]
theorem c0_none {S : Su} {np : Nat} {g : Gm} {e : Nat} (h : gD (nx S np g e) = none) : c0 S np g e = 1 := by unfold c0; rw [h]
theorem c0_some {S : Su} {np : Nat} {g : Gm} {e k : Nat} (h : gD (nx S np g e) = some k) : c0 S np g e = 1 + n1 S (nx S np g e) 15876 := by unfold c0; rw [h]
def pv (p : Nat) : Int32 := if p = 0 then -1 else nI (p - 1)
theorem pv_up : ∀ p, p < 9 → pv p + 1 = nI p := by decide
theorem pv_0 : pv 0 = -1 := rfl
theorem pv_s (p : Nat) : pv (p + 1) = nI p := by unfold pv; rw [if_neg (by omega)]; rfl
/-- the moves of a line -/
theorem okL_lay {S : Su} {np : Nat} {g : Gm} {e k : Nat} (hL : gL g = false) (hD : gD g = some k) (h : okL S g e) : okM S g (1, e / 9 / 4, e / 9 % 4) := by
  obtain ⟨k2, h1, h2, h3⟩ := h
  rw [hD] at h1
  cases h1
  unfold okM
  rw [if_pos rfl]
  exact ⟨hL, k, hD, h2, Nat.mod_lt _ (by decide)⟩
theorem okL_put {S : Su} {np : Nat} {g : Gm} {e : Nat} (h : okL S g e) : okM S (lyG g e) (0, e % 9, 0) := by
  obtain ⟨k2, h1, h2, h3⟩ := h
  unfold okM
  rw [if_neg (show ¬ ((0, e % 9, 0) : Mv).1 = 1 from (by decide : ¬ (0 = 1)))]
  refine ⟨rfl, ?_⟩
  rcases h3 with h3 | h3
  · exact Or.inl h3
  · by_cases hc : e % 9 = 0
    · exact Or.inl hc
    · exact Or.inr ⟨e % 9 - 1, by show e % 9 = e % 9 - 1 + 1; omega, h3⟩
theorem okL_inb {S : Su} {g : Gm} {e : Nat} (h : okL S g e) : inb (e / 9 / 4) := by
  obtain ⟨k2, h1, h2, h3⟩ := h
  exact h2.1
theorem okL_lt {S : Su} {g : Gm} {e : Nat} (h : okL S g e) : e < 15876 := by
  obtain ⟨q1, q2, q3, q4⟩ := okL_inb h
  omega
theorem nx_play (S : Su) (np : Nat) (ms : List Mv) (e : Nat) : play S np ((0, e % 9, 0) :: (1, e / 9 / 4, e / 9 % 4) :: ms) = nx S np (play S np ms) e := rfl
theorem ly_play (S : Su) (np : Nat) (ms : List Mv) (e : Nat) : play S np ((1, e / 9 / 4, e / 9 % 4) :: ms) = lyG (play S np ms) e := rfl
theorem WG_ly {S : Su} {np : Nat} {g : Gm} {e k : Nat} (hw : wfS S) (hG : WG S np g) (hL : gL g = false) (hD : gD g = some k) (h : okL S g e) : WG S np (lyG g e) := WG_step (m := (1, e / 9 / 4, e / 9 % 4)) hw hG (okL_lay (np := np) hL hD h)
theorem WG_nx {S : Su} {np : Nat} {g : Gm} {e k : Nat} (hw : wfS S) (hG : WG S np g) (hL : gL g = false) (hD : gD g = some k) (h : okL S g e) : WG S np (nx S np g e) := WG_step (m := (0, e % 9, 0)) hw (WG_ly hw hG hL hD h) (okL_put (np := np) h)
theorem ly_eq {g : Gm} {e e2 : Nat} (h : e / 9 = e2 / 9) : lyG g e = lyG g e2 := by unfold lyG; rw [h]
theorem fG_le {S : Su} {np : Nat} {g : Gm} (hw : wfS S) (hG : WG S np g) {p : Nat} (hp : p < np) : fG S np g p ≤ 20000 := fins_le hw hG hp
theorem gb_le {S : Su} {np : Nat} {h : Gm} {k e : Nat} (hw : wfS S) (hG : WG S np h) (hL : gL h = false) (hD : gD h = some k) {p : Nat} (hp : p < np) : gb S np h (b1 S np h e) p ≤ 20000 := by
  cases hb : b1 S np h e with
  | none => exact Nat.zero_le _
  | some b => exact fG_le hw (WG_nx hw hG hL hD (bs_some hb).1) hp
theorem Fy0_le {S : Su} {np : Nat} {g : Gm} {e k : Nat} (hw : wfS S) (hG : WG S np g) (hL : gL g = false) (hD : gD g = some k) (h : okL S g e) {p : Nat} (hp : p < np) : Fy0 S np g e p ≤ 20000 := by
  have hG2 := WG_nx hw hG hL hD h
  cases hc : gD (nx S np g e) with
  | none => rw [Fy0_none hc]; exact fG_le hw hG2 hp
  | some k2 => rw [Fy0_some hc]; exact gb_le hw hG2 rfl hc hp
/-- a drawn tile fits somewhere -/
theorem any_ok {S : Su} {g : Gm} {k : Nat} (hD : gD g = some k) (h : anyF S (gT g) k) : ∃ e, okL S g e := by
  obtain ⟨j, h1, h2⟩ := h
  exact ⟨9 * j, k, hD, by rw [show 9 * j / 9 = j by omega]; exact h2, Or.inl (by omega)⟩
theorem put_any {S : Su} {np : Nat} {g : Gm} {j k : Nat} (hw : wfS S) (hX : gX g ≤ (sL S).length) (h : gD (putG S np g j) = some k) : anyF S (gT (putG S np g j)) k := ((dn_ok (T := gT g) hw ((sL S).length - gX g) (gX g) (gA g) (by omega)).2.1 k h).2
theorem leg_any {S : Su} {np : Nat} (hw : wfS S) (hnp : 2 ≤ np ∧ np ≤ 3) : ∀ ms k, leg S np ms → gL (play S np ms) = false → gD (play S np ms) = some k → anyF S (gT (play S np ms)) k := by
  intro ms k hl hL hD
  cases ms with
  | nil => exact ((dn_ok (T := []) hw ((sL S).length - 0) 0 0 (by omega)).2.1 k hD).2
  | cons m ms =>
    have hG := leg_WG hw hnp.1 hnp.2 ms hl.1
    have hok := hl.2
    unfold okM at hok
    by_cases hc : m.1 = 1
    · exfalso
      have e : play S np (m :: ms) = layG (play S np ms) m.2.1 m.2.2 := by
        show stepG S np (play S np ms) m = _
        unfold stepG
        rw [if_pos hc]
      rw [e] at hL
      exact absurd (show true = false from hL) (by decide)
    · have e : play S np (m :: ms) = putG S np (play S np ms) m.2.1 := by
        show stepG S np (play S np ms) m = _
        unfold stepG
        rw [if_neg hc]
      rw [e] at hD ⊢
      exact put_any hw hG.2.2.2.2.2.1 hD

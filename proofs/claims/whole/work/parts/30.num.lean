/-! Numbers: pure functions over memories whose places hold naturals. -/
theorem n_ld {β : Type} {M : Me} {c n i : Nat} {k : Int32 → Option β} (h : i < n) (hn : n < 2147483648) : rx_ld M c n (nI i) k = k (M c i) := by
  unfold rx_ld
  rw [if_neg (nI_in h hn), nI_clamp (by omega)]
theorem n_sv {β : Type} {M : Me} {c n i : Nat} {x : Int32} {k : Me → Option β} (h : i < n) (hn : n < 2147483648) : rx_sv M c n (nI i) x k = k (rx_st M c i x) := by
  unfold rx_sv
  rw [if_neg (nI_in h hn), nI_clamp (by omega)]
theorem n_vv {α β : Type} (e : α) (k : α → Option β) : rx_vv e k = k e := rfl
theorem n_cl {β : Type} (r : Int32) (M : Me) (k : Int32 → Me → Option β) : rx_cl (some (r, M)) k = k r M := rfl
theorem n_zb0 {β : Type} (k : Option β) : rx_zb 0 k = k := rfl
theorem n_zb1 {β : Type} (k : Option β) : rx_zb 1 k = k := rfl
theorem n_add (a b : Nat) : nI a + nI b = nI (a + b) := nI_add a b
theorem n_mul (a b : Nat) : nI a * nI b = nI (a * b) := pk_mul a b
theorem n_sub {a b : Nat} (h : b ≤ a) : nI a - nI b = nI (a - b) := pk_sub h
theorem n_div {a d : Nat} (ha : a < 2147483648) (h0 : 0 < d) (hd : d < 2147483648) : nI a / nI d = nI (a / d) := pk_div ha h0 hd
theorem n_rem {a d : Nat} (ha : a < 2147483648) (h0 : 0 < d) (hd : d < 2147483648) : nI a - nI a / nI d * nI d = nI (a % d) := pk_rem ha h0 hd
theorem n_le {a b : Nat} (ha : a < 2147483648) (hb : b < 2147483648) : (nI a ≤ nI b) = (a ≤ b) := propext (nI_leI ha hb)
theorem n_lt {a b : Nat} (ha : a < 2147483648) (hb : b < 2147483648) : (nI a < nI b) = (a < b) := propext (nI_ltI ha hb)
theorem n_eq {a b : Nat} (ha : a < 2147483648) (hb : b < 2147483648) : (nI a = nI b) = (a = b) := propext (nI_eq ha hb)
theorem n_m1 {a : Nat} (ha : a < 2147483648) : (nI a = -1) = False := by
  refine propext ⟨fun h => ?_, fun h => h.elim⟩
  have h1 := nI_toInt ha
  rw [h] at h1
  have h2 : (-1 : Int32).toInt = -1 := by decide
  omega
theorem n_neg {a : Nat} (ha : a < 2147483648) : (nI a < 0) = False := by
  refine propext ⟨fun h => ?_, fun h => h.elim⟩
  exact nI_pos ha h
theorem n_m1n : ((-1 : Int32) < 0) = True := by decide
theorem n_inj {a b : Nat} (ha : a < 2147483648) (hb : b < 2147483648) (h : nI a = nI b) : a = b := (nI_eq ha hb).mp h
/-- memories -/
theorem st_same (M : Me) (c i : Nat) (x : Int32) : rx_st M c i x c i = x := by simp [rx_st, upd]
theorem st_cell {M : Me} {c d i j : Nat} {x : Int32} (h : d ≠ c) : rx_st M c i x d j = M d j := by simp [rx_st, h]
theorem st_place {M : Me} {c d i j : Nat} {x : Int32} (h : j ≠ i) : rx_st M c i x d j = M d j := by
  by_cases hd : d = c
  · subst hd; simp [rx_st, upd, h]
  · simp [rx_st, hd]
theorem st_get (M : Me) (c d i j : Nat) (x : Int32) : rx_st M c i x d j = if d = c ∧ j = i then x else M d j := by
  by_cases hd : d = c
  · subst hd
    by_cases hj : j = i
    · subst hj; simp [rx_st, upd]
    · simp [rx_st, upd, hj]
  · simp [rx_st, hd]
theorem st_row (M : Me) (c d i : Nat) (x : Int32) (h : d ≠ c) : rx_st M c i x d = M d := by
  funext j; exact st_cell h
/-- loops that count up from i to e: the body goes on to i + 1 with a memory that keeps the invariant -/
theorem lp1_up {β : Type} {b : (Int32 → Me → Option β) → Int32 → Me → Option β} {e : Nat} {P : Nat → Me → Prop} {K : Me → Option β}
    (hs : ∀ (rec : Int32 → Me → Option β) (i : Nat) (M : Me), i < e → P i M → ∃ M', P (i + 1) M' ∧ b rec (nI i) M = rec (nI (i + 1)) M') (he : ∀ (rec : Int32 → Me → Option β) (M : Me), P e M → b rec (nI e) M = K M) :
    ∀ (n i : Nat) (M : Me), e - i < n → i ≤ e → P i M → ∃ M', P e M' ∧ rx_lp1 b n (nI i) M = K M' := by
  intro n
  induction n with
  | zero => intro i M h; omega
  | succ n ih =>
    intro i M hn hi hP
    show ∃ M', P e M' ∧ b (rx_lp1 b n) (nI i) M = K M'
    by_cases h : i = e
    · subst h; exact ⟨M, hP, he _ M hP⟩
    · obtain ⟨M1, h1, h2⟩ := hs (rx_lp1 b n) i M (by omega) hP
      obtain ⟨M2, h3, h4⟩ := ih (i + 1) M1 (by omega) (by omega) h1
      exact ⟨M2, h3, by rw [h2]; exact h4⟩
/-- the same with one more number carried along -/
theorem lp2_up {β : Type} {b : (Int32 → Int32 → Me → Option β) → Int32 → Int32 → Me → Option β} {e : Nat} {P : Nat → Int32 → Me → Prop} {K : Int32 → Me → Option β}
    (hs : ∀ (rec : Int32 → Int32 → Me → Option β) (i : Nat) (a : Int32) (M : Me), i < e → P i a M → ∃ a' M', P (i + 1) a' M' ∧ b rec a (nI i) M = rec a' (nI (i + 1)) M') (he : ∀ (rec : Int32 → Int32 → Me → Option β) (a : Int32) (M : Me), P e a M → b rec a (nI e) M = K a M) :
    ∀ (n i : Nat) (a : Int32) (M : Me), e - i < n → i ≤ e → P i a M → ∃ a' M', P e a' M' ∧ rx_lp2 b n a (nI i) M = K a' M' := by
  intro n
  induction n with
  | zero => intro i a M h; omega
  | succ n ih =>
    intro i a M hn hi hP
    show ∃ a' M', P e a' M' ∧ b (rx_lp2 b n) a (nI i) M = K a' M'
    by_cases h : i = e
    · subst h; exact ⟨a, M, hP, he _ a M hP⟩
    · obtain ⟨a1, M1, h1, h2⟩ := hs (rx_lp2 b n) i a M (by omega) hP
      obtain ⟨a2, M2, h3, h4⟩ := ih (i + 1) a1 M1 (by omega) (by omega) h1
      exact ⟨a2, M2, h3, by rw [h2]; exact h4⟩
/-- a loop that only reads and looks for the first i at which it ends otherwise -/
theorem lp1_chk {β : Type} {b : (Int32 → Me → Option β) → Int32 → Me → Option β} {e : Nat} {M : Me} {K F : Option β} {bad : Nat → Prop}
    (hb : ∀ (rec : Int32 → Me → Option β) (i : Nat), i < e → bad i → b rec (nI i) M = F) (hs : ∀ (rec : Int32 → Me → Option β) (i : Nat), i < e → ¬ bad i → b rec (nI i) M = rec (nI (i + 1)) M) (he : ∀ (rec : Int32 → Me → Option β), b rec (nI e) M = K) :
    ∀ (n i : Nat), e - i < n → i ≤ e → ((∀ j, i ≤ j → j < e → ¬ bad j) → rx_lp1 b n (nI i) M = K) ∧ ((∃ j, i ≤ j ∧ j < e ∧ bad j) → rx_lp1 b n (nI i) M = F) := by
  intro n
  induction n with
  | zero => intro i h; omega
  | succ n ih =>
    intro i hn hi
    show (_ → b (rx_lp1 b n) (nI i) M = K) ∧ (_ → b (rx_lp1 b n) (nI i) M = F)
    by_cases h : i = e
    · subst h
      exact ⟨fun _ => he _, fun ⟨j, h1, h2, _⟩ => by omega⟩
    · have hlt : i < e := by omega
      by_cases hbad : bad i
      · exact ⟨fun hg => absurd hbad (hg i (Nat.le_refl _) hlt), fun _ => hb _ i hlt hbad⟩
      · have h2 := ih (i + 1) (by omega) (by omega)
        rw [hs _ i hlt hbad]
        refine ⟨fun hg => h2.1 (fun j h3 h4 => hg j (by omega) h4), fun ⟨j, h3, h4, h5⟩ => h2.2 ⟨j, ?_, h4, h5⟩⟩
        by_cases hij : j = i
        · subst hij; exact absurd h5 hbad
        · omega
theorem nat_rem (a d : Nat) : a - a / d * d = a % d := by
  have h := Nat.div_add_mod a d
  rw [Nat.mul_comm] at h
  omega

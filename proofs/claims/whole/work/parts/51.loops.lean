/-! More loops. -/
theorem fu_lt {a : Nat} (h : a < 4096) : a < rx_FU := by rw [rx_FUe]; exact h
/-- a number carried along as a function of the count; an early end otherwise -/
theorem lp2_chk {β : Type} {b : (Int32 → Int32 → Me → Option β) → Int32 → Int32 → Me → Option β} {e : Nat} {M : Me} {K F : Option β} {bad : Nat → Prop} (A : Nat → Int32)
    (hb : ∀ (rec : Int32 → Int32 → Me → Option β) (i : Nat), i < e → bad i → b rec (A i) (nI i) M = F) (hs : ∀ (rec : Int32 → Int32 → Me → Option β) (i : Nat), i < e → ¬ bad i → b rec (A i) (nI i) M = rec (A (i + 1)) (nI (i + 1)) M) (he : ∀ (rec : Int32 → Int32 → Me → Option β), b rec (A e) (nI e) M = K) :
    ∀ (n i : Nat), e - i < n → i ≤ e → ((∀ j, i ≤ j → j < e → ¬ bad j) → rx_lp2 b n (A i) (nI i) M = K) ∧ ((∃ j, i ≤ j ∧ j < e ∧ bad j) → rx_lp2 b n (A i) (nI i) M = F) := by
  intro n
  induction n with
  | zero => intro i h; omega
  | succ n ih =>
    intro i hn hi
    show (_ → b (rx_lp2 b n) (A i) (nI i) M = K) ∧ (_ → b (rx_lp2 b n) (A i) (nI i) M = F)
    by_cases h : i = e
    · subst h
      exact ⟨fun _ => he _, fun ⟨j, h1, h2, _⟩ => by omega⟩
    · have hlt : i < e := by omega
      by_cases hbad : bad i
      · exact ⟨fun hg => absurd hbad (hg i (Nat.le_refl _) hlt), fun _ => hb _ i hlt hbad⟩
      · have h2 := ih (i + 1) (by omega) (by omega)
        rw [hs _ i hlt hbad]
        refine ⟨fun hg => h2.1 (fun j h3 h4 => hg j (by omega) h4), fun ⟨j, h3, h4, h5⟩ => h2.2 ⟨j, ?_, h4, h5⟩⟩
        by_cases hij : j = i
        · subst hij; exact absurd h5 hbad
        · omega
/-- a flag that stays 1 while all is well; the places are ix 0, ix 1 .. -/
theorem lp2_and {β : Type} {b : (Int32 → Int32 → Me → Option β) → Int32 → Int32 → Me → Option β} {e : Nat} {M : Me} {K : Int32 → Option β} {c : Nat → Prop} (ix : Nat → Int32)
    (h1 : ∀ (rec : Int32 → Int32 → Me → Option β) (i : Nat), i < e → c i → b rec 1 (ix i) M = rec 1 (ix (i + 1)) M) (h0 : ∀ (rec : Int32 → Int32 → Me → Option β) (i : Nat), i < e → ¬ c i → b rec 1 (ix i) M = rec 0 (ix (i + 1)) M)
    (hz : ∀ (rec : Int32 → Int32 → Me → Option β) (i : Nat), i < e → b rec 0 (ix i) M = K 0 ∨ b rec 0 (ix i) M = rec 0 (ix (i + 1)) M) (he : ∀ (rec : Int32 → Int32 → Me → Option β) (a : Int32), b rec a (ix e) M = K a) :
    ∀ (n i : Nat), e - i < n → i ≤ e → ((∀ j, i ≤ j → j < e → c j) → rx_lp2 b n 1 (ix i) M = K 1) ∧ ((∃ j, i ≤ j ∧ j < e ∧ ¬ c j) → rx_lp2 b n 1 (ix i) M = K 0) ∧ rx_lp2 b n 0 (ix i) M = K 0 := by
  intro n
  induction n with
  | zero => intro i h; omega
  | succ n ih =>
    intro i hn hi
    show (_ → b (rx_lp2 b n) 1 (ix i) M = K 1) ∧ (_ → b (rx_lp2 b n) 1 (ix i) M = K 0) ∧ b (rx_lp2 b n) 0 (ix i) M = K 0
    by_cases h : i = e
    · subst h
      exact ⟨fun _ => he _ _, fun ⟨j, h1, h2, _⟩ => by omega, he _ _⟩
    · have hlt : i < e := by omega
      have h2 := ih (i + 1) (by omega) (by omega)
      have hz2 : b (rx_lp2 b n) 0 (ix i) M = K 0 := by
        rcases hz (rx_lp2 b n) i hlt with q | q
        · exact q
        · rw [q]; exact h2.2.2
      by_cases hc : c i
      · refine ⟨fun hg => ?_, fun ⟨j, h3, h4, h5⟩ => ?_, hz2⟩
        · rw [h1 _ i hlt hc]; exact h2.1 (fun j h3 h4 => hg j (by omega) h4)
        · rw [h1 _ i hlt hc]
          refine h2.2.1 ⟨j, ?_, h4, h5⟩
          by_cases hij : j = i
          · subst hij; exact absurd hc h5
          · omega
      · refine ⟨fun hg => absurd (hg i (Nat.le_refl _) hlt) hc, fun _ => ?_, hz2⟩
        rw [h0 _ i hlt hc]; exact h2.2.2
theorem lp1_chkx {β : Type} {b : (Int32 → Me → Option β) → Int32 → Me → Option β} {e : Nat} {M : Me} {K F : Option β} {bad : Nat → Prop} (ix : Nat → Int32)
    (hb : ∀ (rec : Int32 → Me → Option β) (i : Nat), i < e → bad i → b rec (ix i) M = F) (hs : ∀ (rec : Int32 → Me → Option β) (i : Nat), i < e → ¬ bad i → b rec (ix i) M = rec (ix (i + 1)) M) (he : ∀ (rec : Int32 → Me → Option β), b rec (ix e) M = K) :
    ∀ (n i : Nat), e - i < n → i ≤ e → ((∀ j, i ≤ j → j < e → ¬ bad j) → rx_lp1 b n (ix i) M = K) ∧ ((∃ j, i ≤ j ∧ j < e ∧ bad j) → rx_lp1 b n (ix i) M = F) := by
  intro n
  induction n with
  | zero => intro i h; omega
  | succ n ih =>
    intro i hn hi
    show (_ → b (rx_lp1 b n) (ix i) M = K) ∧ (_ → b (rx_lp1 b n) (ix i) M = F)
    by_cases h : i = e
    · subst h
      exact ⟨fun _ => he _, fun ⟨j, h1, h2, _⟩ => by omega⟩
    · have hlt : i < e := by omega
      by_cases hbad : bad i
      · exact ⟨fun hg => absurd hbad (hg i (Nat.le_refl _) hlt), fun _ => hb _ i hlt hbad⟩
      · have h2 := ih (i + 1) (by omega) (by omega)
        rw [hs _ i hlt hbad]
        refine ⟨fun hg => h2.1 (fun j h3 h4 => hg j (by omega) h4), fun ⟨j, h3, h4, h5⟩ => h2.2 ⟨j, ?_, h4, h5⟩⟩
        by_cases hij : j = i
        · subst hij; exact absurd h5 hbad
        · omega
/-! branches on numbers -/
theorem i_le {α : Type} {a b : Nat} {x y : α} {d : Decidable (nI a ≤ nI b)} (ha : a < 2147483648) (hb : b < 2147483648) : @ite α (nI a ≤ nI b) d x y = if a ≤ b then x else y := by
  by_cases h : a ≤ b
  · rw [if_pos h, if_pos ((nI_leI ha hb).mpr h)]
  · rw [if_neg h, if_neg (fun q => h ((nI_leI ha hb).mp q))]
theorem i_lt {α : Type} {a b : Nat} {x y : α} {d : Decidable (nI a < nI b)} (ha : a < 2147483648) (hb : b < 2147483648) : @ite α (nI a < nI b) d x y = if a < b then x else y := by
  by_cases h : a < b
  · rw [if_pos h, if_pos ((nI_ltI ha hb).mpr h)]
  · rw [if_neg h, if_neg (fun q => h ((nI_ltI ha hb).mp q))]
theorem i_eq {α : Type} {a b : Nat} {x y : α} {d : Decidable (nI a = nI b)} (ha : a < 2147483648) (hb : b < 2147483648) : @ite α (nI a = nI b) d x y = if a = b then x else y := by
  by_cases h : a = b
  · rw [if_pos h, if_pos ((nI_eq ha hb).mpr h)]
  · rw [if_neg h, if_neg (fun q => h ((nI_eq ha hb).mp q))]
theorem i_m1 {α : Type} {a : Nat} {x y : α} {d : Decidable (nI a = -1)} (ha : a < 2147483648) : @ite α (nI a = -1) d x y = y := by
  rw [if_neg (fun q => by have := n_m1 ha; rw [this] at q; exact q)]
theorem i_neg {α : Type} {a : Nat} {x y : α} {d : Decidable (nI a < 0)} (ha : a < 2147483648) : @ite α (nI a < 0) d x y = y := by
  rw [if_neg (nI_pos ha)]
theorem lp2_zero {β : Type} {b : (Int32 → Int32 → Me → Option β) → Int32 → Int32 → Me → Option β} {e : Nat} {M : Me} {K : Int32 → Option β} (ix : Nat → Int32)
    (hz : ∀ (rec : Int32 → Int32 → Me → Option β) (i : Nat), i < e → b rec 0 (ix i) M = K 0 ∨ b rec 0 (ix i) M = rec 0 (ix (i + 1)) M) (he : ∀ (rec : Int32 → Int32 → Me → Option β), b rec 0 (ix e) M = K 0) :
    ∀ (n i : Nat), e - i < n → i ≤ e → rx_lp2 b n 0 (ix i) M = K 0 := by
  intro n
  induction n with
  | zero => intro i h; omega
  | succ n ih =>
    intro i hn hi
    show b (rx_lp2 b n) 0 (ix i) M = K 0
    by_cases h : i = e
    · subst h; exact he _
    · rcases hz (rx_lp2 b n) i (by omega) with q | q
      · exact q
      · rw [q]; exact ih (i + 1) (by omega) (by omega)
/-- a flag that becomes 1 once -/
theorem lp2_or {β : Type} {b : (Int32 → Int32 → Me → Option β) → Int32 → Int32 → Me → Option β} {e : Nat} {M : Me} {K : Int32 → Option β} {c : Nat → Prop} (ix : Nat → Int32)
    (h1 : ∀ (rec : Int32 → Int32 → Me → Option β) (i : Nat), i < e → c i → b rec 0 (ix i) M = rec 1 (ix (i + 1)) M) (h0 : ∀ (rec : Int32 → Int32 → Me → Option β) (i : Nat), i < e → ¬ c i → b rec 0 (ix i) M = rec 0 (ix (i + 1)) M)
    (ho : ∀ (rec : Int32 → Int32 → Me → Option β) (i : Nat), i < e → b rec 1 (ix i) M = rec 1 (ix (i + 1)) M) (he : ∀ (rec : Int32 → Int32 → Me → Option β) (a : Int32), b rec a (ix e) M = K a) :
    ∀ (n i : Nat), e - i < n → i ≤ e → ((∃ j, i ≤ j ∧ j < e ∧ c j) → rx_lp2 b n 0 (ix i) M = K 1) ∧ ((∀ j, i ≤ j → j < e → ¬ c j) → rx_lp2 b n 0 (ix i) M = K 0) ∧ rx_lp2 b n 1 (ix i) M = K 1 := by
  intro n
  induction n with
  | zero => intro i h; omega
  | succ n ih =>
    intro i hn hi
    show (_ → b (rx_lp2 b n) 0 (ix i) M = K 1) ∧ (_ → b (rx_lp2 b n) 0 (ix i) M = K 0) ∧ b (rx_lp2 b n) 1 (ix i) M = K 1
    by_cases h : i = e
    · subst h
      exact ⟨fun ⟨j, h1, h2, _⟩ => by omega, fun _ => he _ _, he _ _⟩
    · have hlt : i < e := by omega
      have h2 := ih (i + 1) (by omega) (by omega)
      have ho2 : b (rx_lp2 b n) 1 (ix i) M = K 1 := by rw [ho _ i hlt]; exact h2.2.2
      by_cases hc : c i
      · refine ⟨fun _ => ?_, fun hg => absurd hc (hg i (Nat.le_refl _) hlt), ho2⟩
        rw [h1 _ i hlt hc]; exact h2.2.2
      · refine ⟨fun ⟨j, h3, h4, h5⟩ => ?_, fun hg => ?_, ho2⟩
        · rw [h0 _ i hlt hc]
          refine h2.1 ⟨j, ?_, h4, h5⟩
          by_cases hij : j = i
          · subst hij; exact absurd h5 hc
          · omega
        · rw [h0 _ i hlt hc]; exact h2.2.1 (fun j h3 h4 => hg j (by omega) h4)
/-- a flag that stays 1 while all is well, and a number carried along -/
theorem lp3_and {β : Type} {b : (Int32 → Int32 → Int32 → Me → Option β) → Int32 → Int32 → Int32 → Me → Option β} {e : Nat} {M : Me} {K : Int32 → Option β} {c : Nat → Prop} (A ix : Nat → Int32)
    (h1 : ∀ (rec : Int32 → Int32 → Int32 → Me → Option β) (i : Nat), i < e → c i → b rec 1 (A i) (ix i) M = rec 1 (A (i + 1)) (ix (i + 1)) M) (h0 : ∀ (rec : Int32 → Int32 → Int32 → Me → Option β) (i : Nat), i < e → ¬ c i → b rec 1 (A i) (ix i) M = rec 0 (A (i + 1)) (ix (i + 1)) M)
    (hz : ∀ (rec : Int32 → Int32 → Int32 → Me → Option β) (i : Nat), i < e → b rec 0 (A i) (ix i) M = rec 0 (A (i + 1)) (ix (i + 1)) M) (he : ∀ (rec : Int32 → Int32 → Int32 → Me → Option β) (a : Int32), b rec a (A e) (ix e) M = K a) :
    ∀ (n i : Nat), e - i < n → i ≤ e → ((∀ j, i ≤ j → j < e → c j) → rx_lp3 b n 1 (A i) (ix i) M = K 1) ∧ ((∃ j, i ≤ j ∧ j < e ∧ ¬ c j) → rx_lp3 b n 1 (A i) (ix i) M = K 0) ∧ rx_lp3 b n 0 (A i) (ix i) M = K 0 := by
  intro n
  induction n with
  | zero => intro i h; omega
  | succ n ih =>
    intro i hn hi
    show (_ → b (rx_lp3 b n) 1 (A i) (ix i) M = K 1) ∧ (_ → b (rx_lp3 b n) 1 (A i) (ix i) M = K 0) ∧ b (rx_lp3 b n) 0 (A i) (ix i) M = K 0
    by_cases h : i = e
    · subst h
      exact ⟨fun _ => he _ _, fun ⟨j, h1, h2, _⟩ => by omega, he _ _⟩
    · have hlt : i < e := by omega
      have h2 := ih (i + 1) (by omega) (by omega)
      have hz2 : b (rx_lp3 b n) 0 (A i) (ix i) M = K 0 := by rw [hz _ i hlt]; exact h2.2.2
      by_cases hc : c i
      · refine ⟨fun hg => ?_, fun ⟨j, h3, h4, h5⟩ => ?_, hz2⟩
        · rw [h1 _ i hlt hc]; exact h2.1 (fun j h3 h4 => hg j (by omega) h4)
        · rw [h1 _ i hlt hc]
          refine h2.2.1 ⟨j, ?_, h4, h5⟩
          by_cases hij : j = i
          · subst hij; exact absurd hc h5
          · omega
      · refine ⟨fun hg => absurd (hg i (Nat.le_refl _) hlt) hc, fun _ => ?_, hz2⟩
        rw [h0 _ i hlt hc]; exact h2.2.2

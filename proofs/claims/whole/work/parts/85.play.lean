/-! The game: states, moves, play. -/
abbrev Gm : Type := Tl × Ow × (Nat → Nat) × (Nat → Nat) × Nat × Nat × Option Nat × Nat × Bool × Nat
def gT (g : Gm) : Tl := g.1
def gO (g : Gm) : Ow := g.2.1
def gP (g : Gm) : Nat → Nat := g.2.2.1
def gF (g : Gm) : Nat → Nat := g.2.2.2.1
def gW (g : Gm) : Nat := g.2.2.2.2.1
def gX (g : Gm) : Nat := g.2.2.2.2.2.1
def gD (g : Gm) : Option Nat := g.2.2.2.2.2.2.1
def gA (g : Gm) : Nat := g.2.2.2.2.2.2.2.1
def gL (g : Gm) : Bool := g.2.2.2.2.2.2.2.2.1
def gCh (g : Gm) : Nat := g.2.2.2.2.2.2.2.2.2
def gZ (g : Gm) : Pz := (gO g, gP g, gF g, gCh g, 0)
/-- turns that are done -/
def gw (g : Gm) : Nat := (gT g).length - if gL g = true then 1 else 0
def anyF (S : Su) (T : Tl) (k : Nat) : Prop := ∃ j, j < 1764 ∧ fitS S T k j
noncomputable def dn (S : Su) (T : Tl) : Nat → Nat → Nat → Nat × Option Nat × Nat
  | 0, x, a => (x, none, a)
  | n + 1, x, a => @ite _ (anyF S T ((sL S).getD x 0)) (Classical.propDecidable _) (x + 1, some ((sL S).getD x 0), a) (dn S T n (x + 1) (a + 1))
theorem dn_t {S : Su} {T : Tl} {n x a : Nat} (h : anyF S T ((sL S).getD x 0)) : dn S T (n + 1) x a = (x + 1, some ((sL S).getD x 0), a) := if_pos h
theorem dn_f {S : Su} {T : Tl} {n x a : Nat} (h : ¬ anyF S T ((sL S).getD x 0)) : dn S T (n + 1) x a = dn S T n (x + 1) (a + 1) := if_neg h
noncomputable def drw (S : Su) (T : Tl) (x a : Nat) : Nat × Option Nat × Nat := dn S T ((sL S).length - x) x a
theorem dn_ok {S : Su} {T : Tl} (hw : wfS S) : ∀ n x a, x + n = (sL S).length → (dn S T n x a).1 ≤ (sL S).length ∧ (∀ k, (dn S T n x a).2.1 = some k → k < sN S ∧ anyF S T k) ∧ (dn S T n x a).1 + a = x + (dn S T n x a).2.2 + (if (dn S T n x a).2.1 = none then 0 else 1) ∧ ((dn S T n x a).2.1 = none → (dn S T n x a).1 = (sL S).length) := by
  intro n
  induction n with
  | zero =>
    intro x a h
    show x ≤ _ ∧ (∀ k, (none : Option Nat) = some k → _) ∧ x + a = x + a + 0 ∧ ((none : Option Nat) = none → x = _)
    exact ⟨by omega, fun k hk => (by cases hk), rfl, fun _ => by omega⟩
  | succ n ih =>
    intro x a h
    by_cases hf : anyF S T ((sL S).getD x 0)
    · rw [dn_t hf]
      refine ⟨by show x + 1 ≤ _; omega, fun k hk => ?_, ?_, fun hk => (by cases hk)⟩
      · have : (sL S).getD x 0 = k := Option.some.inj hk
        rw [← this]
        exact ⟨hw.2.2.1 x (by omega), hf⟩
      · show x + 1 + a = x + a + 1
        omega
    · rw [dn_f hf]
      obtain ⟨a1, a2, a3, a4⟩ := ih (x + 1) (a + 1) (by omega)
      exact ⟨a1, a2, by omega, a4⟩
noncomputable def g0 (S : Su) : Gm := ([], fun _ => none, fun _ => 0, fun _ => 7, 0, (drw S [] 0 0).1, (drw S [] 0 0).2.1, (drw S [] 0 0).2.2, false, 0)
def layG (g : Gm) (q u : Nat) : Gm := (gT g ++ [(q, (gD g).getD 0, u)], gO g, gP g, gF g, gW g, gX g, gD g, gA g, true, gCh g)
/-- a follower is put: j is 0 for none, or the part and one -/
def putZ (g : Gm) (j : Nat) : Pz := if j = 0 then gZ g else (fun x => if x = 8 * ((gT g).length - 1) + (j - 1) then some (gW g) else gO g x, gP g, fun p => if p = gW g then gF g p - 1 else gF g p, gCh g + 1, 0)
noncomputable def putG (S : Su) (np : Nat) (g : Gm) (j : Nat) : Gm := (gT g, zO (setl S (gT g) np (putZ g j)), zP (setl S (gT g) np (putZ g j)), zF (setl S (gT g) np (putZ g j)), if gW g + 1 < np then gW g + 1 else 0, (drw S (gT g) (gX g) (gA g)).1, (drw S (gT g) (gX g) (gA g)).2.1, (drw S (gT g) (gX g) (gA g)).2.2, false, zC (setl S (gT g) np (putZ g j)))
noncomputable def putS (S : Su) (np : Nat) (g : Gm) (j : Nat) : Nat := zS (setl S (gT g) np (putZ g j))
abbrev Mv : Type := Nat × Nat × Nat
noncomputable def stepG (S : Su) (np : Nat) (g : Gm) (m : Mv) : Gm := if m.1 = 1 then layG g m.2.1 m.2.2 else putG S np g m.2.1
/-- moves, the last one first -/
noncomputable def play (S : Su) (np : Nat) : List Mv → Gm
  | [] => g0 S
  | m :: ms => stepG S np (play S np ms) m
def mayP (S : Su) (g : Gm) (k : Nat) : Prop := k < 8 ∧ 0 < gF g (gW g) ∧ kdp S (gT g) (8 * ((gT g).length - 1) + k) ≠ 0 ∧ ¬ has S (gT g) (gO g) (labs S (gT g) (8 * ((gT g).length - 1) + k))
def okM (S : Su) (g : Gm) (m : Mv) : Prop := if m.1 = 1 then gL g = false ∧ ∃ k, gD g = some k ∧ fit S (gT g) k m.2.1 m.2.2 ∧ m.2.2 < 4 else gL g = true ∧ (m.2.1 = 0 ∨ ∃ k, m.2.1 = k + 1 ∧ mayP S g k)
def leg (S : Su) (np : Nat) : List Mv → Prop
  | [] => True
  | m :: ms => leg S np ms ∧ okM S (play S np ms) m
def mat (S : Su) (T : Tl) : Prop := ∀ t d o, t < T.length → d < 4 → ta T (nb (tc T t) d) = some o → ms S (ty T t) (tu T t) d = ms S (ty T o) (tu T o) ((d + 2) % 4)
def WG (S : Su) (np : Nat) (g : Gm) : Prop := (2 ≤ np ∧ np ≤ 3) ∧ wfTl S (gT g) ∧ mat S (gT g) ∧ cen (gT g) ∧ gW g < np ∧ gX g ≤ (sL S).length ∧ (∀ k, gD g = some k → k < sN S) ∧ (gT g).length + gA g + (if gL g = false ∧ gD g ≠ none then 1 else 0) = gX g ∧ WZ S (gT g) np (2 * gw g) (576 * gw g) (gZ g) ∧ (gL g = true → 0 < (gT g).length)
theorem wf_nil (S : Su) : wfTl S [] := ⟨by decide, fun t h => (by cases h), fun t o h => (by cases h)⟩
theorem WG0 {S : Su} {np : Nat} (hw : wfS S) (h2 : 2 ≤ np) (h3 : np ≤ 3) : WG S np (g0 S) := by
  obtain ⟨a1, a2, a3, a4⟩ := dn_ok (T := []) hw (sL S).length 0 0 (by omega)
  refine ⟨⟨h2, h3⟩, wf_nil S, fun t d o h => (by cases h), ?_, by show 0 < np; omega, ?_, ?_, ?_, ⟨fun x p hx => (by cases hx), fun p hp => rfl, Nat.le_refl _, fun p => Nat.le_refl _⟩, fun h => (by cases h)⟩
  · exact fun h => absurd rfl h
  · exact a1
  · exact fun k hk => (a2 k hk).1
  · show 0 + (dn S [] (sL S).length 0 0).2.2 + (if false = false ∧ (dn S [] (sL S).length 0 0).2.1 ≠ none then 1 else 0) = (dn S [] (sL S).length 0 0).1
    by_cases hd : (dn S [] (sL S).length 0 0).2.1 = none
    · rw [if_neg (fun g => g.2 hd)]; rw [if_pos hd] at a3; omega
    · rw [if_pos ⟨rfl, hd⟩]; rw [if_neg hd] at a3; omega

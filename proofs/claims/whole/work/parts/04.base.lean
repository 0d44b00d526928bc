/-! The pure side's words: memory of a side (cell, place), loads, stores, calls as functions into Option; and rows of the machine over a world that is a function of such a memory. -/
abbrev Me : Type := Nat → Nat → Int32
abbrev Op : Type := Option (Int32 × Me)
def rx_st (M : Me) (c i : Nat) (x : Int32) : Me := fun d => if d = c then upd (M c) i x else M d
def rx_ld {β : Type} (M : Me) (c n : Nat) (i : Int32) (k : Int32 → Option β) : Option β := if i < 0 ∨ n ≤ i.toNatClampNeg then none else k (M c i.toNatClampNeg)
def rx_sv {β : Type} (M : Me) (c n : Nat) (i x : Int32) (k : Me → Option β) : Option β := if i < 0 ∨ n ≤ i.toNatClampNeg then none else k (rx_st M c i.toNatClampNeg x)
def rx_ls {β : Type} (xs : List Int32) (i : Int32) (k : Int32 → Option β) : Option β := if i < 0 ∨ xs.length ≤ i.toNatClampNeg then none else k (xs.getD i.toNatClampNeg 0)
def rx_vv {α β : Type} (e : α) (k : α → Option β) : Option β := k e
def rx_cl {β : Type} (o : Op) (k : Int32 → Me → Option β) : Option β := match o with
  | none => none
  | some q => k q.1 q.2
def rx_zb {β : Type} (r : Int32) (k : Option β) : Option β := if r = 0 ∨ r = 1 then k else none
def rx_lp0 {β : Type} (b : (Me → Option β) → Me → Option β) : Nat → Me → Option β
  | 0 => fun _ => none
  | n + 1 => b (rx_lp0 b n)
def rx_lp1 {β : Type} (b : (Int32 → Me → Option β) → Int32 → Me → Option β) : Nat → Int32 → Me → Option β
  | 0 => fun _ _ => none
  | n + 1 => b (rx_lp1 b n)
def rx_lp2 {β : Type} (b : (Int32 → Int32 → Me → Option β) → Int32 → Int32 → Me → Option β) : Nat → Int32 → Int32 → Me → Option β
  | 0 => fun _ _ _ => none
  | n + 1 => b (rx_lp2 b n)
def rx_lp3 {β : Type} (b : (Int32 → Int32 → Int32 → Me → Option β) → Int32 → Int32 → Int32 → Me → Option β) : Nat → Int32 → Int32 → Int32 → Me → Option β
  | 0 => fun _ _ _ _ => none
  | n + 1 => b (rx_lp3 b n)
def rx_lp4 {β : Type} (b : (Int32 → Int32 → Int32 → Int32 → Me → Option β) → Int32 → Int32 → Int32 → Int32 → Me → Option β) : Nat → Int32 → Int32 → Int32 → Int32 → Me → Option β
  | 0 => fun _ _ _ _ _ => none
  | n + 1 => b (rx_lp4 b n)
/-- the fuel of loops: 4096, as a name that no unfolding opens -/
noncomputable def rx_FU : Nat := Classical.choose (⟨4096, rfl⟩ : ∃ n : Nat, n = 4096)
theorem rx_FUe : rx_FU = 4096 := Classical.choose_spec (⟨4096, rfl⟩ : ∃ n : Nat, n = 4096)
theorem rx_ldI {β : Type} {M : Me} {c n : Nat} {i : Int32} {k : Int32 → Option β} {o : β} (h : rx_ld M c n i k = some o) : vp_in i n ∧ ∃ v, v = M c i.toNatClampNeg ∧ k v = some o := by
  unfold rx_ld at h
  by_cases hc : i < 0 ∨ n ≤ i.toNatClampNeg
  · rw [if_pos hc] at h; cases h
  · rw [if_neg hc] at h; exact ⟨hc, _, rfl, h⟩
theorem rx_lsI {β : Type} {xs : List Int32} {i : Int32} {k : Int32 → Option β} {o : β} (h : rx_ls xs i k = some o) : vp_in i xs.length ∧ ∃ v, v = xs.getD i.toNatClampNeg 0 ∧ k v = some o := by
  unfold rx_ls at h
  by_cases hc : i < 0 ∨ xs.length ≤ i.toNatClampNeg
  · rw [if_pos hc] at h; cases h
  · rw [if_neg hc] at h; exact ⟨hc, _, rfl, h⟩
theorem rx_svI {β : Type} {M : Me} {c n : Nat} {i x : Int32} {k : Me → Option β} {o : β} (h : rx_sv M c n i x k = some o) : vp_in i n ∧ ∃ v, v = rx_st M c i.toNatClampNeg x ∧ k v = some o := by
  unfold rx_sv at h
  by_cases hc : i < 0 ∨ n ≤ i.toNatClampNeg
  · rw [if_pos hc] at h; cases h
  · rw [if_neg hc] at h; exact ⟨hc, _, rfl, h⟩
theorem rx_vvI {α β : Type} {e : α} {k : α → Option β} {o : β} (h : rx_vv e k = some o) : ∃ v, v = e ∧ k v = some o := ⟨e, rfl, h⟩
theorem rx_clI {β : Type} {q : Op} {k : Int32 → Me → Option β} {o : β} (h : rx_cl q k = some o) : ∃ r M, q = some (r, M) ∧ k r M = some o := by
  cases q with
  | none => cases h
  | some q => exact ⟨q.1, q.2, rfl, h⟩
theorem rx_zbI {β : Type} {r : Int32} {k : Option β} {o : β} (h : rx_zb r k = some o) : (r = 0 ∨ r = 1) ∧ k = some o := by
  unfold rx_zb at h
  by_cases hc : r = 0 ∨ r = 1
  · rw [if_pos hc] at h; exact ⟨hc, h⟩
  · rw [if_neg hc] at h; cases h
theorem rx_t {β : Type} {c : Prop} {dc : Decidable c} {a b : Option β} {o : β} (hc : c) (h : @ite _ c dc a b = some o) : a = some o := by rw [if_pos hc] at h; exact h
theorem rx_f {β : Type} {c : Prop} {dc : Decidable c} {a b : Option β} {o : β} (hc : ¬ c) (h : @ite _ c dc a b = some o) : b = some o := by rw [if_neg hc] at h; exact h
theorem rx_no {β : Type} {P : Prop} {o : β} (h : (none : Option β) = some o) : P := by cases h
theorem rx_inc {n : Int} {k x v : Int32} (h : Int32.ofInt n = k) (e : v = x + k) : x + Int32.ofInt n = v := by rw [h, e]
theorem rx_fz {r : Int32} (h : r = 0 ∨ r = 1) : fits .boolean (.int r) = true := by
  rcases h with rfl | rfl <;> rfl
theorem rx_nest_same {w : Cond} (hw : rx_nest w = true) {u U : State} (h : u.vm = U.vm) (hZ : va_Nw w u) : va_Nw w U := by
  cases w <;> first | (exact va_Nw.same rfl h hZ) | (cases hw)
theorem rx_nest_warm {w : Cond} (hw : rx_nest w = true) {s U : State} (hW : s.WarmedH U.vm) (hZ : va_Nw w s) : va_Nw w U := by
  cases w <;> first | (exact va_Nw.warmF hW hZ) | (exact va_Nw.warmM hW hZ) | (cases hw)
abbrev rx_zt : Type := List (String × Nat × List Int32)
def rx_Z (zs : rx_zt) (A : Nat → Prop) (U : State) (H : Heap) : Prop := ∀ z ∈ zs, va_Z "RealmTiles" z.1 "[I" (.ref z.2.1) A U H ∧ va_T .int z.2.1 z.2.2.length (fun j => .int (z.2.2.getD j 0)) A U H
theorem rx_Z.moved {zs : rx_zt} {A : Nat → Prop} {u U : State} {H : Heap} (hvm : u.vm.Alike U.vm) (h : rx_Z zs A u H) : rx_Z zs A U H := fun z hz => ⟨va_Z.moved hvm (h z hz).1, va_T.moved hvm (h z hz).2⟩
theorem rx_Z.kept {zs : rx_zt} {A : Nat → Prop} {U : State} {H H1 : Heap} (h : rx_Z zs A U H) (hq : ∀ a : Nat, a < H.size → ¬ A a → H1[a]? = H[a]?) : rx_Z zs A U H1 := fun z hz => ⟨va_Z.kept (h z hz).1 hq, va_T.kept (h z hz).2 hq⟩
theorem rx_Z.narrow {zs : rx_zt} {A B : Nat → Prop} {U : State} {H : Heap} (h : rx_Z zs A U H) (hAB : ∀ q, B q → A q) : rx_Z zs B U H := fun z hz => ⟨va_Z.narrow (h z hz).1 hAB, va_T.narrow (h z hz).2 hAB⟩
/-- a method's surroundings, and the world at a heap -/
def rx_C (p : Program) (m : MethodId) (c : Code) (cc : ByteArray) (nL : Nat) (s : State) (args : Array Value) (Ts : List Cond) (own : String) (D : va_G) (cl : List vw_C) (tys : List (ClassId × FieldType)) (zs : rx_zt) (NW : List Cond) (A : Nat → Prop) : Prop :=
  CallFix p m c cc nL s args Ts own ∧ va_K D cl tys s ∧ rx_Z zs A s s.heap ∧ (∀ w ∈ NW, va_Nw w s) ∧ (∀ w ∈ NW, rx_nest w = true) ∧ ∀ q : Nat, s.heap.size ≤ q → A q
def rx_W (D : va_G) (cl : List vw_C) (wd : Me → va_W) (A : Nat → Prop) (H0 : Heap) (M : Me) (H : Heap) (locs : List Loc) : Prop := va_P D cl (wd M) H ∧ va_D A (wd M) ∧ va_S A H0 H locs
/-- an array of ints (or booleans) at a cell; an int field; a field that holds another cell -/
def rx_ar (wd : Me → va_W) (tys : List (ClassId × FieldType)) (ty : FieldType) (a q0 n : Nat) : Prop := ∃ (cA : ClassId) (t0 : Nat), tys[t0]? = some (cA, ty) ∧ (∀ M, (wd M)[q0]? = some (a, .inl (cA, n, .inl (M q0)))) ∧ ∀ M f, (wd M).set q0 (a, .inl (cA, n, .inl f)) = wd (fun d => if d = q0 then f else M d)
def rx_fi (wd : Me → va_W) (a q0 ci k : Nat) : Prop := ∃ fs : Me → List Value, (∀ M, (wd M)[q0]? = some (a, .inr (ci, fs M))) ∧ (∀ M, (fs M)[k]? = some (.int (M q0 k))) ∧ ∀ M x, (wd M).set q0 (a, .inr (ci, (fs M).set k (.int x))) = wd (rx_st M q0 k x)
def rx_fr (wd : Me → va_W) (a q0 ci k b : Nat) : Prop := ∃ fs : Me → List Value, (∀ M, (wd M)[q0]? = some (a, .inr (ci, fs M))) ∧ ∀ M, (fs M)[k]? = some (.ref b)
def rx_ob (wd : Me → va_W) (a q0 ci : Nat) : Prop := ∃ fs : Me → List Value, ∀ M, (wd M)[q0]? = some (a, .inr (ci, fs M))
def rx_Pre (D : va_G) (cl : List vw_C) (wd : Me → va_W) (tys : List (ClassId × FieldType)) (zs : rx_zt) (NW : List Cond) (sz : Nat) (M : Me) (U : State) : Prop := U.heap.size = sz ∧ va_P D cl (wd M) U.heap ∧ va_K D cl tys U ∧ va_D (fun _ => True) (wd M) ∧ rx_Z zs (va_A (wd M) sz) U U.heap ∧ ∀ w ∈ NW, va_Nw w U
def rx_Post (D : va_G) (cl : List vw_C) (wd : Me → va_W) (tys : List (ClassId × FieldType)) (A : Nat → Prop) (M : Me) (t : State) : Prop := va_P D cl (wd M) t.heap ∧ va_K D cl tys t ∧ va_D A (wd M)
/-- contracts: with an int for an answer, with none -/
def rx_MI (l : Launch) (y : MethodName) (ws : List Cond) (rm : Room) (D : va_G) (cl : List vw_C) (wd : Me → va_W) (tys : List (ClassId × FieldType)) (zs : rx_zt) (NW : List Cond) (av : List Value) (f : Me → Op) : Prop := ∀ (sz : Nat) (M : Me) (o : Int32 × Me), f M = some o →
  Met l y ws rm (va_Pc av (rx_Pre D cl wd tys zs NW sz M)) (va_Qi (fun r u => r = o.1 ∧ u = o.2) (rx_Post D cl wd tys (va_A (wd M) sz)) (va_A (wd M) sz)) 0 0 (va_A (wd M) sz)
def rx_MV (l : Launch) (y : MethodName) (ws : List Cond) (rm : Room) (D : va_G) (cl : List vw_C) (wd : Me → va_W) (tys : List (ClassId × FieldType)) (zs : rx_zt) (NW : List Cond) (av : List Value) (f : Me → Op) : Prop := ∀ (sz : Nat) (M : Me) (o : Int32 × Me), f M = some o →
  Met l y ws rm (va_Pc av (rx_Pre D cl wd tys zs NW sz M)) (va_Qv (fun u => u = o.2) (rx_Post D cl wd tys (va_A (wd M) sz)) (va_A (wd M) sz)) 0 0 (va_A (wd M) sz)
section RX
variable {p : Program} {l : Launch} {e : Env} {R : Room} {s : State} {m : MethodId} {args : Array Value} {below : List Frame} {meth : Method} {c : Code} {H : Heap} {locs : List Loc} {cells slots : Nat} {Q : State → Prop} {cc : ByteArray} {pc nL : Nat} {ls : Array Slot} {rest : List Value} {D : va_G} {cl : List vw_C} {A : Nat → Prop} {tys : List (ClassId × FieldType)} {wd : Me → va_W} {zs : rx_zt} {NW Ts : List Cond} {own : String} {M : Me}
theorem rx_top {x v : Int32} (h : v = x) (k : W p l e R s m args below meth c H locs cells slots Q (F0 m pc ls (.int v :: rest))) : W p l e R s m args below meth c H locs cells slots Q (F0 m pc ls (.int x :: rest)) := by subst h; exact k
theorem rx_topl {x v : Int64} (h : v = x) (k : W p l e R s m args below meth c H locs cells slots Q (F0 m pc ls (.long v :: rest))) : W p l e R s m args below meth c H locs cells slots Q (F0 m pc ls (.long x :: rest)) := by subst h; exact k
theorem rx_iald (cx : rx_C p m c cc nL s args Ts own D cl tys zs NW A) (hw : rx_W D cl wd A s.heap M H locs) {a q0 n : Nat} (ha : rx_ar wd tys .int a q0 n) {i v : Int32} (hi : vp_in i n ∧ v = M q0 i.toNatClampNeg) (hdg : decode cc pc = .ok (.iaload, 1))
    (kk : W p l e R s m args below meth c H locs cells slots Q (F0 m (pc + 1) ls (.int v :: rest))) : W p l e R s m args below meth c H locs cells slots Q (F0 m pc ls (.int i :: .ref a :: rest)) := by
  obtain ⟨cA, t0, ht, hq, -⟩ := ha
  obtain ⟨hin, rfl⟩ := hi
  exact va_iald cx.1.1 cx.1.2.1 cx.2.1 hw.1 q0 t0 (hq M) ht hin hdg kk
theorem rx_zald (cx : rx_C p m c cc nL s args Ts own D cl tys zs NW A) (hw : rx_W D cl wd A s.heap M H locs) {a q0 n : Nat} (ha : rx_ar wd tys .boolean a q0 n) {i v : Int32} (hi : vp_in i n ∧ v = M q0 i.toNatClampNeg) (hdg : decode cc pc = .ok (.baload, 1))
    (kk : W p l e R s m args below meth c H locs cells slots Q (F0 m (pc + 1) ls (.int v :: rest))) : W p l e R s m args below meth c H locs cells slots Q (F0 m pc ls (.int i :: .ref a :: rest)) := by
  obtain ⟨cA, t0, ht, hq, -⟩ := ha
  obtain ⟨hin, rfl⟩ := hi
  exact va_zald cx.1.1 cx.1.2.1 cx.2.1 hw.1 q0 t0 (hq M) ht hin hdg kk
theorem rx_iast (cx : rx_C p m c cc nL s args Ts own D cl tys zs NW A) (hw : rx_W D cl wd A s.heap M H locs) {a q0 n : Nat} (ha : rx_ar wd tys .int a q0 n) {i x : Int32} {M1 : Me} (hi : vp_in i n ∧ M1 = rx_st M q0 i.toNatClampNeg x) (hdg : decode cc pc = .ok (.iastore, 1))
    (kk : ∀ (H : Heap) (locs : List Loc), rx_W D cl wd A s.heap M1 H locs → W p l e R s m args below meth c H locs cells slots Q (F0 m (pc + 1) ls rest)) : W p l e R s m args below meth c H locs cells slots Q (F0 m pc ls (.int x :: .int i :: .ref a :: rest)) := by
  obtain ⟨cA, t0, ht, hq, hs⟩ := ha
  obtain ⟨hin, rfl⟩ := hi
  refine va_iast cx.1.1 cx.1.2.1 cx.2.1 hw.1 hw.2.1 hw.2.2 q0 t0 (hq M) ht hin hdg (fun H1 locs1 hP hD hS => ?_)
  rw [hs] at hP hD
  exact kk H1 locs1 ⟨hP, hD, hS⟩
theorem rx_zast (cx : rx_C p m c cc nL s args Ts own D cl tys zs NW A) (hw : rx_W D cl wd A s.heap M H locs) {a q0 n : Nat} (ha : rx_ar wd tys .boolean a q0 n) {i x : Int32} {M1 : Me} (hi : vp_in i n ∧ M1 = rx_st M q0 i.toNatClampNeg (vp_nar .boolean x)) (hdg : decode cc pc = .ok (.bastore, 1))
    (kk : ∀ (H : Heap) (locs : List Loc), rx_W D cl wd A s.heap M1 H locs → W p l e R s m args below meth c H locs cells slots Q (F0 m (pc + 1) ls rest)) : W p l e R s m args below meth c H locs cells slots Q (F0 m pc ls (.int x :: .int i :: .ref a :: rest)) := by
  obtain ⟨cA, t0, ht, hq, hs⟩ := ha
  obtain ⟨hin, rfl⟩ := hi
  refine va_zast cx.1.1 cx.1.2.1 cx.2.1 hw.1 hw.2.1 hw.2.2 q0 t0 (hq M) ht hin hdg (fun H1 locs1 hP hD hS => ?_)
  rw [hs] at hP hD
  exact kk H1 locs1 ⟨hP, hD, hS⟩
theorem rx_alen (cx : rx_C p m c cc nL s args Ts own D cl tys zs NW A) (hw : rx_W D cl wd A s.heap M H locs) {ty : FieldType} {a q0 n : Nat} (ha : rx_ar wd tys ty a q0 n) (hdg : decode cc pc = .ok (.arraylength, 1))
    (kk : W p l e R s m args below meth c H locs cells slots Q (F0 m (pc + 1) ls (.int (Int32.ofNat n) :: rest))) : W p l e R s m args below meth c H locs cells slots Q (F0 m pc ls (.ref a :: rest)) := by
  obtain ⟨cA, t0, ht, hq, -⟩ := ha
  exact va_alen cx.1.1 cx.1.2.1 cx.2.1 hw.1 q0 t0 (hq M) ht rfl hdg kk
theorem rx_geti (cx : rx_C p m c cc nL s args Ts own D cl tys zs NW A) (hw : rx_W D cl wd A s.heap M H locs) {C : String} {T : u_T} {N ci index a q0 k : Nat} (hf : rx_fi wd a q0 ci k) (hc : cl[ci]? = some (C, T, N)) (hin : ∀ w ∈ u_ws C T N, w ∈ Ts) (hk : k < N) (hlink : Cond.fieldLink own index (T k).1 (T k).2.1 (T k).2.2.1 ∈ Ts) {v : Int32} (hv : v = M q0 k) (hdg : decode cc pc = .ok (.getfield index, 3))
    (kk : W p l e R s m args below meth c H locs cells slots Q (F0 m (pc + 3) ls (.int v :: rest))) : W p l e R s m args below meth c H locs cells slots Q (F0 m pc ls (.ref a :: rest)) := by
  obtain ⟨fs, h1, h2, -⟩ := hf
  subst hv
  exact va_get cx.1.1 cx.1.2.1 cx.1.2.2.2.2 hin cx.1.2.2.2.1 cx.2.1 hw.1 q0 (h1 M) hc k hk (cx.1.2.2.2.2 _ hlink) (fun _ h => h) (h2 M) hdg kk
theorem rx_getiN (cx : rx_C p m c cc nL s args Ts own D cl tys zs NW A) (hw : rx_W D cl wd A s.heap M H locs) {C host : String} {T : u_T} {N ci index a q0 k : Nat} (hf : rx_fi wd a q0 ci k) (hc : cl[ci]? = some (C, T, N)) (hin : ∀ w ∈ u_ws C T N, w ∈ Ts) (hk : k < N) (hlink : Cond.fieldLinkNest own index (T k).1 (T k).2.1 (T k).2.2.1 host ∈ NW) {v : Int32} (hv : v = M q0 k) (hdg : decode cc pc = .ok (.getfield index, 3))
    (kk : W p l e R s m args below meth c H locs cells slots Q (F0 m (pc + 3) ls (.int v :: rest))) : W p l e R s m args below meth c H locs cells slots Q (F0 m pc ls (.ref a :: rest)) := by
  obtain ⟨fs, h1, h2, -⟩ := hf
  subst hv
  exact va_getN cx.1.1 cx.1.2.1 cx.1.2.2.2.2 hin cx.1.2.2.2.1 cx.2.1 hw.1 q0 (h1 M) hc k hk (va_Nw.use rfl (cx.2.2.2.1 _ hlink)) (fun _ h => h) (h2 M) hdg kk
theorem rx_getr (cx : rx_C p m c cc nL s args Ts own D cl tys zs NW A) (hw : rx_W D cl wd A s.heap M H locs) {C : String} {T : u_T} {N ci index a q0 k b : Nat} (hf : rx_fr wd a q0 ci k b) (hc : cl[ci]? = some (C, T, N)) (hin : ∀ w ∈ u_ws C T N, w ∈ Ts) (hk : k < N) (hlink : Cond.fieldLink own index (T k).1 (T k).2.1 (T k).2.2.1 ∈ Ts) (hdg : decode cc pc = .ok (.getfield index, 3))
    (kk : W p l e R s m args below meth c H locs cells slots Q (F0 m (pc + 3) ls (.ref b :: rest))) : W p l e R s m args below meth c H locs cells slots Q (F0 m pc ls (.ref a :: rest)) := by
  obtain ⟨fs, h1, h2⟩ := hf
  exact va_get cx.1.1 cx.1.2.1 cx.1.2.2.2.2 hin cx.1.2.2.2.1 cx.2.1 hw.1 q0 (h1 M) hc k hk (cx.1.2.2.2.2 _ hlink) (fun _ h => h) (h2 M) hdg kk
theorem rx_getrN (cx : rx_C p m c cc nL s args Ts own D cl tys zs NW A) (hw : rx_W D cl wd A s.heap M H locs) {C host : String} {T : u_T} {N ci index a q0 k b : Nat} (hf : rx_fr wd a q0 ci k b) (hc : cl[ci]? = some (C, T, N)) (hin : ∀ w ∈ u_ws C T N, w ∈ Ts) (hk : k < N) (hlink : Cond.fieldLinkNest own index (T k).1 (T k).2.1 (T k).2.2.1 host ∈ NW) (hdg : decode cc pc = .ok (.getfield index, 3))
    (kk : W p l e R s m args below meth c H locs cells slots Q (F0 m (pc + 3) ls (.ref b :: rest))) : W p l e R s m args below meth c H locs cells slots Q (F0 m pc ls (.ref a :: rest)) := by
  obtain ⟨fs, h1, h2⟩ := hf
  exact va_getN cx.1.1 cx.1.2.1 cx.1.2.2.2.2 hin cx.1.2.2.2.1 cx.2.1 hw.1 q0 (h1 M) hc k hk (va_Nw.use rfl (cx.2.2.2.1 _ hlink)) (fun _ h => h) (h2 M) hdg kk
theorem rx_len {α : Type} {l : List α} {k : Nat} {x : α} (h : l[k]? = some x) : k < l.length := (List.getElem?_eq_some_iff.mp h).1
theorem rx_puti (cx : rx_C p m c cc nL s args Ts own D cl tys zs NW A) (hw : rx_W D cl wd A s.heap M H locs) {C : String} {T : u_T} {N ci index a q0 k : Nat} (hf : rx_fi wd a q0 ci k) (hc : cl[ci]? = some (C, T, N)) (hin : ∀ w ∈ u_ws C T N, w ∈ Ts) (ty0 : Nat → FieldType) (hty : ∀ k, k < N → parseFieldDescriptor (T k).2.2.1 = some (ty0 k)) (hnm : ∀ a, a < N → ∀ b, b < N → a ≠ b → (T a).2.1 ≠ (T b).2.1) (hk : k < N) (hlink : Cond.fieldLink own index (T k).1 (T k).2.1 (T k).2.2.1 ∈ Ts) (hfin : (T k).2.2.2 = false) {x : Int32} (hn : narrow (ty0 k) (.int x) = .int x) (hfit : fits (ty0 k) (.int x) = true) {M1 : Me} (hv : M1 = rx_st M q0 k x) (hdg : decode cc pc = .ok (.putfield index, 3))
    (kk : ∀ (H : Heap) (locs : List Loc), rx_W D cl wd A s.heap M1 H locs → W p l e R s m args below meth c H locs cells slots Q (F0 m (pc + 3) ls rest)) : W p l e R s m args below meth c H locs cells slots Q (F0 m pc ls (.int x :: .ref a :: rest)) := by
  obtain ⟨fs, h1, h2, h3⟩ := hf
  subst hv
  refine va_put cx.1.1 cx.1.2.1 cx.1.2.2.2.2 hin ty0 hty hnm cx.1.2.2.2.1 cx.2.1 hw.1 hw.2.1 hw.2.2 q0 (h1 M) hc k hk (cx.1.2.2.2.2 _ hlink) (fun _ h => h) hfin (hty k hk) hn hfit (rx_len (h2 M)) hdg (fun H1 locs1 hP hD hS => ?_)
  rw [h3] at hP hD
  exact kk H1 locs1 ⟨hP, hD, hS⟩
theorem rx_putiN (cx : rx_C p m c cc nL s args Ts own D cl tys zs NW A) (hw : rx_W D cl wd A s.heap M H locs) {C host : String} {T : u_T} {N ci index a q0 k : Nat} (hf : rx_fi wd a q0 ci k) (hc : cl[ci]? = some (C, T, N)) (hin : ∀ w ∈ u_ws C T N, w ∈ Ts) (ty0 : Nat → FieldType) (hty : ∀ k, k < N → parseFieldDescriptor (T k).2.2.1 = some (ty0 k)) (hnm : ∀ a, a < N → ∀ b, b < N → a ≠ b → (T a).2.1 ≠ (T b).2.1) (hk : k < N) (hlink : Cond.fieldLinkNest own index (T k).1 (T k).2.1 (T k).2.2.1 host ∈ NW) (hfin : (T k).2.2.2 = false) {x : Int32} (hn : narrow (ty0 k) (.int x) = .int x) (hfit : fits (ty0 k) (.int x) = true) {M1 : Me} (hv : M1 = rx_st M q0 k x) (hdg : decode cc pc = .ok (.putfield index, 3))
    (kk : ∀ (H : Heap) (locs : List Loc), rx_W D cl wd A s.heap M1 H locs → W p l e R s m args below meth c H locs cells slots Q (F0 m (pc + 3) ls rest)) : W p l e R s m args below meth c H locs cells slots Q (F0 m pc ls (.int x :: .ref a :: rest)) := by
  obtain ⟨fs, h1, h2, h3⟩ := hf
  subst hv
  refine va_putN cx.1.1 cx.1.2.1 cx.1.2.2.2.2 hin ty0 hty hnm cx.1.2.2.2.1 cx.2.1 hw.1 hw.2.1 hw.2.2 q0 (h1 M) hc k hk (va_Nw.use rfl (cx.2.2.2.1 _ hlink)) (fun _ h => h) hfin (hty k hk) hn hfit (rx_len (h2 M)) hdg (fun H1 locs1 hP hD hS => ?_)
  rw [h3] at hP hD
  exact kk H1 locs1 ⟨hP, hD, hS⟩
/-- a static array of the class: its reference, its length, its places -/
theorem rx_gets (cx : rx_C p m c cc nL s args Ts own D cl tys zs NW A) (hw : rx_W D cl wd A s.heap M H locs) {index : Nat} {z : String × Nat × List Int32} (hz : z ∈ zs) (hlink : Cond.fieldLink own index "RealmTiles" z.1 "[I" ∈ Ts) (hdg : decode cc pc = .ok (.getstatic index, 3))
    (kk : W p l e R s m args below meth c H locs cells slots Q (F0 m (pc + 3) ls (.ref z.2.1 :: rest))) : W p l e R s m args below meth c H locs cells slots Q (F0 m pc ls rest) :=
  va_gets cx.1.1 cx.1.2.1 (cx.2.2.1 z hz).1 hw.2.2 cx.1.2.2.2.1 (cx.1.2.2.2.2 _ hlink) (fun _ h => h) hdg kk
theorem rx_getsN (cx : rx_C p m c cc nL s args Ts own D cl tys zs NW A) (hw : rx_W D cl wd A s.heap M H locs) {host : String} {index : Nat} {z : String × Nat × List Int32} (hz : z ∈ zs) (hlink : Cond.fieldLinkNest own index "RealmTiles" z.1 "[I" host ∈ NW) (hdg : decode cc pc = .ok (.getstatic index, 3))
    (kk : W p l e R s m args below meth c H locs cells slots Q (F0 m (pc + 3) ls (.ref z.2.1 :: rest))) : W p l e R s m args below meth c H locs cells slots Q (F0 m pc ls rest) :=
  va_getsN cx.1.1 cx.1.2.1 (cx.2.2.1 z hz).1 hw.2.2 cx.1.2.2.2.1 (va_Nw.use rfl (cx.2.2.2.1 _ hlink)) (fun _ h => h) hdg kk
theorem rx_lds (cx : rx_C p m c cc nL s args Ts own D cl tys zs NW A) (hw : rx_W D cl wd A s.heap M H locs) {z : String × Nat × List Int32} (hz : z ∈ zs) {i v : Int32} (hi : vp_in i z.2.2.length ∧ v = z.2.2.getD i.toNatClampNeg 0) (hdg : decode cc pc = .ok (.iaload, 1))
    (kk : W p l e R s m args below meth c H locs cells slots Q (F0 m (pc + 1) ls (.int v :: rest))) : W p l e R s m args below meth c H locs cells slots Q (F0 m pc ls (.int i :: .ref z.2.1 :: rest)) := by
  obtain ⟨hin, rfl⟩ := hi
  exact va_ti cx.1.1 cx.1.2.1 (cx.2.2.1 z hz).2 hw.2.2 hin rfl hdg kk
theorem rx_lens (cx : rx_C p m c cc nL s args Ts own D cl tys zs NW A) (hw : rx_W D cl wd A s.heap M H locs) {z : String × Nat × List Int32} (hz : z ∈ zs) (hdg : decode cc pc = .ok (.arraylength, 1))
    (kk : W p l e R s m args below meth c H locs cells slots Q (F0 m (pc + 1) ls (.int (Int32.ofNat z.2.2.length) :: rest))) : W p l e R s m args below meth c H locs cells slots Q (F0 m pc ls (.ref z.2.1 :: rest)) :=
  va_tlen cx.1.1 cx.1.2.1 (cx.2.2.1 z hz).2 hw.2.2 rfl hdg kk
/-- an array of two objects -/
def rx_lv (wd : Me → va_W) (tys : List (ClassId × FieldType)) (a q0 b0 b1 : Nat) : Prop := ∃ (cA : ClassId) (t0 : Nat) (C : String), tys[t0]? = some (cA, .object C) ∧ ∀ M, (wd M)[q0]? = some (a, .inl (cA, 2, .inr (.inr (.inr (.inr (va_up (va_up (fun _ => none) 0 (some b0)) 1 (some b1)))))))
theorem rx_aal0 (cx : rx_C p m c cc nL s args Ts own D cl tys zs NW A) (hw : rx_W D cl wd A s.heap M H locs) {a q0 b0 b1 : Nat} (ha : rx_lv wd tys a q0 b0 b1) {i : Int32} (hi : i = 0) (hdg : decode cc pc = .ok (.aaload, 1))
    (kk : W p l e R s m args below meth c H locs cells slots Q (F0 m (pc + 1) ls (.ref b0 :: rest))) : W p l e R s m args below meth c H locs cells slots Q (F0 m pc ls (.int i :: .ref a :: rest)) := by
  obtain ⟨cA, t0, C, ht, hq⟩ := ha
  subst hi
  exact va_aldq cx.1.1 cx.1.2.1 cx.2.1 hw.1 q0 t0 (hq M) ht (by unfold vp_in; decide) hdg kk
theorem rx_aal1 (cx : rx_C p m c cc nL s args Ts own D cl tys zs NW A) (hw : rx_W D cl wd A s.heap M H locs) {a q0 b0 b1 : Nat} (ha : rx_lv wd tys a q0 b0 b1) {i : Int32} (hi : i = 1) (hdg : decode cc pc = .ok (.aaload, 1))
    (kk : W p l e R s m args below meth c H locs cells slots Q (F0 m (pc + 1) ls (.ref b1 :: rest))) : W p l e R s m args below meth c H locs cells slots Q (F0 m pc ls (.int i :: .ref a :: rest)) := by
  obtain ⟨cA, t0, C, ht, hq⟩ := ha
  subst hi
  exact va_aldq cx.1.1 cx.1.2.1 cx.2.1 hw.1 q0 t0 (hq M) ht (by unfold vp_in; decide) hdg kk
theorem rx_lvlen (cx : rx_C p m c cc nL s args Ts own D cl tys zs NW A) (hw : rx_W D cl wd A s.heap M H locs) {a q0 b0 b1 : Nat} (ha : rx_lv wd tys a q0 b0 b1) (hdg : decode cc pc = .ok (.arraylength, 1))
    (kk : W p l e R s m args below meth c H locs cells slots Q (F0 m (pc + 1) ls (.int 2 :: rest))) : W p l e R s m args below meth c H locs cells slots Q (F0 m pc ls (.ref a :: rest)) := by
  obtain ⟨cA, t0, C, ht, hq⟩ := ha
  exact va_alen cx.1.1 cx.1.2.1 cx.2.1 hw.1 q0 t0 (hq M) ht (v := 2) rfl hdg kk
theorem rx_max (cx : rx_C p m c cc nL s args Ts own D cl tys zs NW A) {index : Nat} (h1 : Cond.methodLink own index Lib.Math.max.name ∈ Ts) (h2 : Cond.static Lib.Math.max.name ∈ Ts) (h3 : Cond.initialized "java/lang/Math" ∈ Ts) (h4 : Cond.code Lib.Math.max.name Lib.Math.max.code 2 (some .int) ∈ Ts) (hsz : ls.size = nL) (hr : 1 ≤ R.frames ∧ (rest.map fun v => v.category).sum + 13 ≤ R.locals ∧ cells ≤ R.cells ∧ slots ≤ R.slots) {x y : Int32} (hdg : decode cc pc = .ok (.invokestatic index, 3))
    (kk : W p l e R s m args below meth c H locs cells slots Q (F0 m (pc + 3) ls (.int (if x < y then y else x) :: rest))) : W p l e R s m args below meth c H locs cells slots Q (F0 m pc ls (.int y :: .int x :: rest)) :=
  va_mmax cx.1.1 cx.1.2.1 (by rw [hsz]; exact cx.1.2.2.1) cx.1.2.2.2.1 (cx.1.2.2.2.2 _ h1) (cx.1.2.2.2.2 _ h2) (cx.1.2.2.2.2 _ h3) (cx.1.2.2.2.2 _ h4) hr.1 hr.2.1 hr.2.2.1 hr.2.2.2 hdg kk
theorem rx_min (cx : rx_C p m c cc nL s args Ts own D cl tys zs NW A) {index : Nat} (h1 : Cond.methodLink own index Lib.Math.min.name ∈ Ts) (h2 : Cond.static Lib.Math.min.name ∈ Ts) (h3 : Cond.initialized "java/lang/Math" ∈ Ts) (h4 : Cond.code Lib.Math.min.name Lib.Math.min.code 2 (some .int) ∈ Ts) (hsz : ls.size = nL) (hr : 1 ≤ R.frames ∧ (rest.map fun v => v.category).sum + 13 ≤ R.locals ∧ cells ≤ R.cells ∧ slots ≤ R.slots) {x y : Int32} (hdg : decode cc pc = .ok (.invokestatic index, 3))
    (kk : W p l e R s m args below meth c H locs cells slots Q (F0 m (pc + 3) ls (.int (if y < x then y else x) :: rest))) : W p l e R s m args below meth c H locs cells slots Q (F0 m pc ls (.int y :: .int x :: rest)) :=
  va_mmin cx.1.1 cx.1.2.1 (by rw [hsz]; exact cx.1.2.2.1) cx.1.2.2.2.1 (cx.1.2.2.2.2 _ h1) (cx.1.2.2.2.2 _ h2) (cx.1.2.2.2.2 _ h3) (cx.1.2.2.2.2 _ h4) hr.1 hr.2.1 hr.2.2.1 hr.2.2.2 hdg kk
/-- System.arraycopy(a0, 0, a1, 0, 3) between two rows of three -/
def rx_cp3 (M : Me) (q0 q1 : Nat) : Me := fun d => if d = q1 then va_cpy (M q0) (M q1) 0 0 3 else M d
theorem rx_copy (cx : rx_C p m c cc nL s args Ts own D cl tys zs NW A) (hw : rx_W D cl wd A s.heap M H locs) {index : Nat} (h1 : Cond.methodLink own index arraycopyName ∈ Ts) (h2 : Cond.native arraycopyName ∈ Ts) (h3 : Cond.static arraycopyName ∈ Ts) (h4 : Cond.initialized "java/lang/System" ∈ Ts) (hsz : ls.size = nL) {a0 q0 a1 q1 : Nat} (ha0 : rx_ar wd tys .int a0 q0 3) (ha1 : rx_ar wd tys .int a1 q1 3) {M1 : Me} (hv : M1 = rx_cp3 M q0 q1) (hr : 1 ≤ R.frames ∧ (rest.map fun v => v.category).sum + (nativeFrameWords "java/lang/System" "arraycopy" 5 + 11) ≤ R.locals) (hdg : decode cc pc = .ok (.invokestatic index, 3))
    (kk : ∀ (H : Heap) (locs : List Loc), rx_W D cl wd A s.heap M1 H locs → W p l e R s m args below meth c H locs cells slots Q (F0 m (pc + 3) ls rest)) : W p l e R s m args below meth c H locs cells slots Q (F0 m pc ls (.int 3 :: .int 0 :: .ref a1 :: .int 0 :: .ref a0 :: rest)) := by
  obtain ⟨c0, t0, ht0, hq0, -⟩ := ha0
  obtain ⟨c1, t1, ht1, hq1, hs1⟩ := ha1
  subst hv
  refine va_copyi cx.1.1 cx.1.2.1 (by rw [hsz]; exact cx.1.2.2.1) cx.1.2.2.2.1 (cx.1.2.2.2.2 _ h1) (cx.1.2.2.2.2 _ h2) (cx.1.2.2.2.2 _ h3) (cx.1.2.2.2.2 _ h4) cx.2.1 hw.1 hw.2.1 hw.2.2 q0 q1 t0 t1 (hq0 M) (hq1 M) ht0 ht1 rfl (by decide) (by decide) (by decide) (by decide) (by decide) (fun _ _ => rfl) hr.1 hr.2 hdg (fun H1 locs1 hP hD hS => ?_)
  rw [hs1] at hP hD
  exact kk H1 locs1 ⟨hP, hD, hS⟩
/-- calls -/
theorem rx_frees (cx : rx_C p m c cc nL s args Ts own D cl tys zs NW A) (hw : rx_W D cl wd A s.heap M H locs) : ∀ q, va_A (wd M) H.size q → A q := by
  rintro q (⟨k, e, h⟩ | h)
  · exact hw.2.1.2 k _ h
  · exact cx.2.2.2.2.2 q (Nat.le_trans hw.2.2.1 h)
theorem rx_blind {av : List Value} {sz : Nat} (hn : ∀ w ∈ NW, rx_nest w = true) : FrameBlind (va_Pc av (rx_Pre D cl wd tys zs NW sz M)) := fun a U g mk q => by
  obtain ⟨q0, q1, qP, qK, qD, qZ, qN⟩ := q
  exact ⟨q0, q1, qP, va_K.moved (u := U) (U := U.calling g mk a) (Vm.Alike.refl U.vm) qK, qD, rx_Z.moved (u := U) (U := U.calling g mk a) (Vm.Alike.refl U.vm) qZ, fun w h => rx_nest_same (u := U) (hn w h) rfl (qN w h)⟩
theorem rx_pre (cx : rx_C p m c cc nL s args Ts own D cl tys zs NW A) (hw : rx_W D cl wd A s.heap M H locs) {av : List Value} : ∀ U : State, U.heap = H → s.WarmedH U.vm → va_Pc av (rx_Pre D cl wd tys zs NW H.size M) av.toArray U := fun U hU hW => by
  refine ⟨rfl, by rw [hU], by rw [hU]; exact hw.1, va_K.moved hW.alike cx.2.1, hw.2.1.weaken (fun _ _ _ _ => trivial), ?_, fun w h => rx_nest_warm (cx.2.2.2.2.1 w h) hW (cx.2.2.2.1 w h)⟩
  rw [hU]
  exact (rx_Z.moved hW.alike (cx.2.2.1.kept (fun a h1 h2 => hw.2.2.2.1 a h1 h2))).narrow (rx_frees cx hw)
section CALLS
variable {y : MethodName} {bytes : ByteArray} {maxL n index : Nat} {ret : Option FieldType} {ws : List Cond} {rm : Room} {C host : String} {As : List Value} {f : Me → Op} {o : Int32 × Me} {r : Int32} {M1 : Me} {a q0 ci : Nat} {qc : vw_C}
theorem rx_endi (cx : rx_C p m c cc nL s args Ts own D cl tys zs NW A) (hw : rx_W D cl wd A s.heap M H locs) {st0 : List Value} {av : Array Value} (hr : va_Run p l e R s m args below meth c H locs cells slots 0 0 (F0 m pc ls st0) rest (va_Qi (fun r u => r = o.1 ∧ u = o.2) (rx_Post D cl wd tys (va_A (wd M) H.size)) (va_A (wd M) H.size) av) (va_A (wd M) H.size))
    (kk : ∀ (H : Heap) (locs : List Loc), rx_W D cl wd A s.heap o.2 H locs → W p l e R s m args below meth c H locs cells slots Q (F0 m (pc + 3) ls (.int o.1 :: rest))) : W p l e R s m args below meth c H locs cells slots Q (F0 m pc ls st0) := by
  have hFc := rx_frees cx hw
  refine va_calli hr hw.2.2 (fun q _ h => hFc q h) hFc (fun r u t H1 locs1 ht hvm hp hB hz hk hS => ?_)
  obtain ⟨rfl, rfl⟩ := hp
  exact kk H1 locs1 ⟨by rw [← ht]; exact hB.1, hB.2.2.weaken (fun _ _ _ h => hFc _ h), hS⟩
theorem rx_endv (cx : rx_C p m c cc nL s args Ts own D cl tys zs NW A) (hw : rx_W D cl wd A s.heap M H locs) {st0 : List Value} {av : Array Value} (hr : va_Run p l e R s m args below meth c H locs cells slots 0 0 (F0 m pc ls st0) rest (va_Qv (fun u => u = o.2) (rx_Post D cl wd tys (va_A (wd M) H.size)) (va_A (wd M) H.size) av) (va_A (wd M) H.size))
    (kk : ∀ (H : Heap) (locs : List Loc), rx_W D cl wd A s.heap o.2 H locs → W p l e R s m args below meth c H locs cells slots Q (F0 m (pc + 3) ls rest)) : W p l e R s m args below meth c H locs cells slots Q (F0 m pc ls st0) := by
  have hFc := rx_frees cx hw
  refine va_callv hr hw.2.2 (fun q _ h => hFc q h) hFc (fun u t H1 locs1 ht hvm hp hB hz hk hS => ?_)
  obtain rfl := hp
  exact kk H1 locs1 ⟨by rw [← ht]; exact hB.1, hB.2.2.weaken (fun _ _ _ h => hFc _ h), hS⟩
theorem rx_cVNi (cx : rx_C p m c cc nL s args Ts own D cl tys zs NW A) (hw : rx_W D cl wd A s.heap M H locs) (hM : rx_MI l y ws rm D cl wd tys zs NW (.ref a :: As) f) (ho : rx_ob wd a q0 ci) (hc : cl[ci]? = some qc) (hC : qc.1 = C) (cw : va_CN R s args own index y host bytes maxL ret ws rm 0 0 n ∧ (Cond.instanceMethod y).before args s = true ∧ (Cond.selects C y y).before args s = true) (hn : As.length = n) (hsz : ls.size = nL) (hst : (rest.map fun v => v.category).sum ≤ 8) (hcs : cells ≤ R.cells ∧ slots ≤ R.slots) (hdg : decode cc pc = .ok (.invokevirtual index, 3)) {st0 : List Value} (hstk : st0 = As.reverse ++ .ref a :: rest) (hf : f M = some (r, M1))
    (kk : ∀ (H : Heap) (locs : List Loc), rx_W D cl wd A s.heap M1 H locs → W p l e R s m args below meth c H locs cells slots Q (F0 m (pc + 3) ls (.int r :: rest))) : W p l e R s m args below meth c H locs cells slots Q (F0 m pc ls st0) := by
  obtain ⟨fs, hfs⟩ := ho
  exact rx_endi (o := (r, M1)) cx hw (va_runVN cx.1 (hM H.size M (r, M1) hf) cw ⟨rx_blind cx.2.2.2.2.1, hC ▸ va_recv cx.2.1 hw.1 hc (hfs M), rx_pre cx hw⟩ rfl hn hsz hstk (lv_room hst) hdg hcs) kk
theorem rx_cVNv (cx : rx_C p m c cc nL s args Ts own D cl tys zs NW A) (hw : rx_W D cl wd A s.heap M H locs) (hM : rx_MV l y ws rm D cl wd tys zs NW (.ref a :: As) f) (ho : rx_ob wd a q0 ci) (hc : cl[ci]? = some qc) (hC : qc.1 = C) (cw : va_CN R s args own index y host bytes maxL ret ws rm 0 0 n ∧ (Cond.instanceMethod y).before args s = true ∧ (Cond.selects C y y).before args s = true) (hn : As.length = n) (hsz : ls.size = nL) (hst : (rest.map fun v => v.category).sum ≤ 8) (hcs : cells ≤ R.cells ∧ slots ≤ R.slots) (hdg : decode cc pc = .ok (.invokevirtual index, 3)) {st0 : List Value} (hstk : st0 = As.reverse ++ .ref a :: rest) (hf : f M = some (r, M1))
    (kk : ∀ (H : Heap) (locs : List Loc), rx_W D cl wd A s.heap M1 H locs → W p l e R s m args below meth c H locs cells slots Q (F0 m (pc + 3) ls rest)) : W p l e R s m args below meth c H locs cells slots Q (F0 m pc ls st0) := by
  obtain ⟨fs, hfs⟩ := ho
  exact rx_endv (o := (r, M1)) cx hw (va_runVN cx.1 (hM H.size M (r, M1) hf) cw ⟨rx_blind cx.2.2.2.2.1, hC ▸ va_recv cx.2.1 hw.1 hc (hfs M), rx_pre cx hw⟩ rfl hn hsz hstk (lv_room hst) hdg hcs) kk
theorem rx_cVi (cx : rx_C p m c cc nL s args Ts own D cl tys zs NW A) (hw : rx_W D cl wd A s.heap M H locs) (hM : rx_MI l y ws rm D cl wd tys zs NW (.ref a :: As) f) (ho : rx_ob wd a q0 ci) (hc : cl[ci]? = some qc) (hC : qc.1 = C) (cw : CallW R s args own C index y bytes maxL ret ws rm 0 0 n) (hn : As.length = n) (hsz : ls.size = nL) (hst : (rest.map fun v => v.category).sum ≤ 8) (hcs : cells ≤ R.cells ∧ slots ≤ R.slots) (hdg : decode cc pc = .ok (.invokevirtual index, 3)) {st0 : List Value} (hstk : st0 = As.reverse ++ .ref a :: rest) (hf : f M = some (r, M1))
    (kk : ∀ (H : Heap) (locs : List Loc), rx_W D cl wd A s.heap M1 H locs → W p l e R s m args below meth c H locs cells slots Q (F0 m (pc + 3) ls (.int r :: rest))) : W p l e R s m args below meth c H locs cells slots Q (F0 m pc ls st0) := by
  obtain ⟨fs, hfs⟩ := ho
  exact rx_endi (o := (r, M1)) cx hw (va_runV cx.1 (hM H.size M (r, M1) hf) cw ⟨rx_blind cx.2.2.2.2.1, hC ▸ va_recv cx.2.1 hw.1 hc (hfs M), rx_pre cx hw⟩ rfl hn hsz hstk (lv_room hst) hdg hcs) kk
theorem rx_cVv (cx : rx_C p m c cc nL s args Ts own D cl tys zs NW A) (hw : rx_W D cl wd A s.heap M H locs) (hM : rx_MV l y ws rm D cl wd tys zs NW (.ref a :: As) f) (ho : rx_ob wd a q0 ci) (hc : cl[ci]? = some qc) (hC : qc.1 = C) (cw : CallW R s args own C index y bytes maxL ret ws rm 0 0 n) (hn : As.length = n) (hsz : ls.size = nL) (hst : (rest.map fun v => v.category).sum ≤ 8) (hcs : cells ≤ R.cells ∧ slots ≤ R.slots) (hdg : decode cc pc = .ok (.invokevirtual index, 3)) {st0 : List Value} (hstk : st0 = As.reverse ++ .ref a :: rest) (hf : f M = some (r, M1))
    (kk : ∀ (H : Heap) (locs : List Loc), rx_W D cl wd A s.heap M1 H locs → W p l e R s m args below meth c H locs cells slots Q (F0 m (pc + 3) ls rest)) : W p l e R s m args below meth c H locs cells slots Q (F0 m pc ls st0) := by
  obtain ⟨fs, hfs⟩ := ho
  exact rx_endv (o := (r, M1)) cx hw (va_runV cx.1 (hM H.size M (r, M1) hf) cw ⟨rx_blind cx.2.2.2.2.1, hC ▸ va_recv cx.2.1 hw.1 hc (hfs M), rx_pre cx hw⟩ rfl hn hsz hstk (lv_room hst) hdg hcs) kk
theorem rx_cSi (cx : rx_C p m c cc nL s args Ts own D cl tys zs NW A) (hw : rx_W D cl wd A s.heap M H locs) (hM : rx_MI l y ws rm D cl wd tys zs NW As f) (cw : CallB R s args own index y bytes maxL ret ws rm 0 0 n ∧ (Cond.static y).before args s = true) (hn : As.length = n) (hsz : ls.size = nL) (hst : (rest.map fun v => v.category).sum ≤ 8) (hcs : cells ≤ R.cells ∧ slots ≤ R.slots) (hdg : decode cc pc = .ok (.invokestatic index, 3)) {st0 : List Value} (hstk : st0 = As.reverse ++ rest) (hf : f M = some (r, M1))
    (kk : ∀ (H : Heap) (locs : List Loc), rx_W D cl wd A s.heap M1 H locs → W p l e R s m args below meth c H locs cells slots Q (F0 m (pc + 3) ls (.int r :: rest))) : W p l e R s m args below meth c H locs cells slots Q (F0 m pc ls st0) :=
  rx_endi (o := (r, M1)) cx hw (va_runS cx.1 (hM H.size M (r, M1) hf) cw ⟨rx_blind cx.2.2.2.2.1, rx_pre cx hw⟩ rfl hn hsz hstk (lv_room hst) hdg hcs) kk
theorem rx_cSv (cx : rx_C p m c cc nL s args Ts own D cl tys zs NW A) (hw : rx_W D cl wd A s.heap M H locs) (hM : rx_MV l y ws rm D cl wd tys zs NW As f) (cw : CallB R s args own index y bytes maxL ret ws rm 0 0 n ∧ (Cond.static y).before args s = true) (hn : As.length = n) (hsz : ls.size = nL) (hst : (rest.map fun v => v.category).sum ≤ 8) (hcs : cells ≤ R.cells ∧ slots ≤ R.slots) (hdg : decode cc pc = .ok (.invokestatic index, 3)) {st0 : List Value} (hstk : st0 = As.reverse ++ rest) (hf : f M = some (r, M1))
    (kk : ∀ (H : Heap) (locs : List Loc), rx_W D cl wd A s.heap M1 H locs → W p l e R s m args below meth c H locs cells slots Q (F0 m (pc + 3) ls rest)) : W p l e R s m args below meth c H locs cells slots Q (F0 m pc ls st0) :=
  rx_endv (o := (r, M1)) cx hw (va_runS cx.1 (hM H.size M (r, M1) hf) cw ⟨rx_blind cx.2.2.2.2.1, rx_pre cx hw⟩ rfl hn hsz hstk (lv_room hst) hdg hcs) kk
theorem rx_cSNi (cx : rx_C p m c cc nL s args Ts own D cl tys zs NW A) (hw : rx_W D cl wd A s.heap M H locs) (hM : rx_MI l y ws rm D cl wd tys zs NW As f) (cw : va_CN R s args own index y host bytes maxL ret ws rm 0 0 n ∧ (Cond.static y).before args s = true ∧ True) (hn : As.length = n) (hsz : ls.size = nL) (hst : (rest.map fun v => v.category).sum ≤ 8) (hcs : cells ≤ R.cells ∧ slots ≤ R.slots) (hdg : decode cc pc = .ok (.invokestatic index, 3)) {st0 : List Value} (hstk : st0 = As.reverse ++ rest) (hf : f M = some (r, M1))
    (kk : ∀ (H : Heap) (locs : List Loc), rx_W D cl wd A s.heap M1 H locs → W p l e R s m args below meth c H locs cells slots Q (F0 m (pc + 3) ls (.int r :: rest))) : W p l e R s m args below meth c H locs cells slots Q (F0 m pc ls st0) :=
  rx_endi (o := (r, M1)) cx hw (va_runSN cx.1 (hM H.size M (r, M1) hf) cw ⟨rx_blind cx.2.2.2.2.1, rx_pre cx hw⟩ rfl hn hsz hstk (lv_room hst) hdg hcs) kk
end CALLS
/-- the ends of a method -/
def rx_RI (p : Program) (l : Launch) (e : Env) (R : Room) (s : State) (m : MethodId) (args : Array Value) (below : List Frame) (meth : Method) (c : Code) (cc : ByteArray) (D : va_G) (cl : List vw_C) (wd : Me → va_W) (A : Nat → Prop) (Q : State → Prop) (o : Int32 × Me) : Prop := ∀ (pc : Nat) (ls : Array Slot) (H : Heap) (locs : List Loc), rx_W D cl wd A s.heap o.2 H locs → decode cc pc = .ok (.ireturn, 1) → W p l e R s m args below meth c H locs 0 0 Q (F0 m pc ls [.int o.1])
def rx_RZ (p : Program) (l : Launch) (e : Env) (R : Room) (s : State) (m : MethodId) (args : Array Value) (below : List Frame) (meth : Method) (c : Code) (cc : ByteArray) (D : va_G) (cl : List vw_C) (wd : Me → va_W) (A : Nat → Prop) (Q : State → Prop) (o : Int32 × Me) : Prop := ∀ (pc : Nat) (ls : Array Slot) (H : Heap) (locs : List Loc), rx_W D cl wd A s.heap o.2 H locs → (o.1 = 0 ∨ o.1 = 1) → decode cc pc = .ok (.ireturn, 1) → W p l e R s m args below meth c H locs 0 0 Q (F0 m pc ls [.int o.1])
def rx_RV (p : Program) (l : Launch) (e : Env) (R : Room) (s : State) (m : MethodId) (args : Array Value) (below : List Frame) (meth : Method) (c : Code) (cc : ByteArray) (D : va_G) (cl : List vw_C) (wd : Me → va_W) (A : Nat → Prop) (Q : State → Prop) (o : Int32 × Me) : Prop := ∀ (pc : Nat) (ls : Array Slot) (H : Heap) (locs : List Loc), rx_W D cl wd A s.heap o.2 H locs → decode cc pc = .ok (.return_, 1) → W p l e R s m args below meth c H locs 0 0 Q (F0 m pc ls [])
theorem rx_reti {o : Int32 × Me} {r : Int32} (hret : rx_RI p l e R s m args below meth c cc D cl wd A Q o) (hw : rx_W D cl wd A s.heap M H locs) (hf : some (r, M) = some o) (hdg : decode cc pc = .ok (.ireturn, 1)) : W p l e R s m args below meth c H locs 0 0 Q (F0 m pc ls [.int r]) := by
  cases hf
  exact hret pc ls H locs hw hdg
theorem rx_retz {o : Int32 × Me} {r : Int32} (hret : rx_RZ p l e R s m args below meth c cc D cl wd A Q o) (hw : rx_W D cl wd A s.heap M H locs) (hf : rx_zb r (some (r, M)) = some o) (hdg : decode cc pc = .ok (.ireturn, 1)) : W p l e R s m args below meth c H locs 0 0 Q (F0 m pc ls [.int r]) := by
  obtain ⟨h, hf⟩ := rx_zbI hf
  cases hf
  exact hret pc ls H locs hw h hdg
theorem rx_retv {o : Int32 × Me} {r : Int32} (hret : rx_RV p l e R s m args below meth c cc D cl wd A Q o) (hw : rx_W D cl wd A s.heap M H locs) (hf : some (r, M) = some o) (hdg : decode cc pc = .ok (.return_, 1)) : W p l e R s m args below meth c H locs 0 0 Q (F0 m pc ls []) := by
  cases hf
  exact hret pc ls H locs hw hdg
end RX
section RM
variable {l : Launch} {D : va_G} {cl : List vw_C} {tys : List (ClassId × FieldType)} {wd : Me → va_W} {zs : rx_zt} {NW ws ws' : List Cond} {y : MethodName} {cc : ByteArray} {maxL : Nat} {rm : Room} {av : List Value} {f : Me → Op}
theorem rx_Zin {A : Nat → Prop} {zs : rx_zt} {U : State} {H : Heap} (h : rx_Z zs A U H) : rx_Z zs A U H := h
theorem rx_ofI (hy : plainName y.cls = true) (hw : ws = Cond.code y cc maxL (some .int) :: ws') (hn : ∀ w ∈ NW, rx_nest w = true) (hav : (lg_sl av).length ≤ maxL)
    (body : ∀ (p : Program) (e : Env) (s : State) (m : MethodId) (args : Array Value) (below : List Frame) (meth : Method) (c : Code) (A : Nat → Prop) (Q : State → Prop) (M : Me) (o : Int32 × Me) (ls : Array Slot), rx_C p m c cc maxL s args ws y.cls D cl tys zs NW A → rx_RI p l e rm s m args below meth c cc D cl wd A Q o → rx_W D cl wd A s.heap M s.heap [] → lv_has ls maxL (lv_args 0 av) → f M = some o → W p l e rm s m args below meth c s.heap [] 0 0 Q (F0 m 0 ls [])) : rx_MI l y ws rm D cl wd tys zs NW av f := by
  intro sz M o hf
  refine Met.ofW (cc := cc) (maxL := maxL) (ret := some .int) hy hw ?_
  intro p e s m args below meth c s₁ B hml hv
  obtain ⟨rfl, rfl, hP, hK, hD0, hZ, hN⟩ := hv
  have hl := lv_entry av (n := maxL) hav
  rw [lg_entry_eq]
  have hlocks := B.notSynchronized
  have hr := B.returns
  refine body p e s m _ below meth c (va_A (wd M) s.heap.size) _ M o _ ⟨⟨B.exec, B.bytes, hml, findClass_of_methodNamed B.named, atoms_spec (ws := ws) B.pre⟩, hK, hZ, hN, hn, fun q h => Or.inr h⟩ ?_ ⟨hP, hD0.self, va_S.rf⟩ hl hf
  intro pc ls H locs hw hd
  exact W.iret B.exec B.bytes hr (fun t ht hW => ⟨⟨o.1, o.2, rfl, ⟨rfl, rfl⟩, by rw [ht]; exact hw.1, va_K.moved hW.alike hK, hw.2.1⟩, hw.2.2.F ht⟩) hw.2.2.2.2 hd
theorem rx_nz {r : Int32} (h : r = 0 ∨ r = 1) : narrow .boolean (.int r) = .int r := by
  rcases h with rfl | rfl <;> rfl
theorem rx_ofZ (hy : plainName y.cls = true) (hw : ws = Cond.code y cc maxL (some .boolean) :: ws') (hn : ∀ w ∈ NW, rx_nest w = true) (hav : (lg_sl av).length ≤ maxL)
    (body : ∀ (p : Program) (e : Env) (s : State) (m : MethodId) (args : Array Value) (below : List Frame) (meth : Method) (c : Code) (A : Nat → Prop) (Q : State → Prop) (M : Me) (o : Int32 × Me) (ls : Array Slot), rx_C p m c cc maxL s args ws y.cls D cl tys zs NW A → rx_RZ p l e rm s m args below meth c cc D cl wd A Q o → rx_W D cl wd A s.heap M s.heap [] → lv_has ls maxL (lv_args 0 av) → f M = some o → W p l e rm s m args below meth c s.heap [] 0 0 Q (F0 m 0 ls [])) : rx_MI l y ws rm D cl wd tys zs NW av f := by
  intro sz M o hf
  refine Met.ofW (cc := cc) (maxL := maxL) (ret := some .boolean) hy hw ?_
  intro p e s m args below meth c s₁ B hml hv
  obtain ⟨rfl, rfl, hP, hK, hD0, hZ, hN⟩ := hv
  have hl := lv_entry av (n := maxL) hav
  rw [lg_entry_eq]
  have hlocks := B.notSynchronized
  have hr := B.returns
  refine body p e s m _ below meth c (va_A (wd M) s.heap.size) _ M o _ ⟨⟨B.exec, B.bytes, hml, findClass_of_methodNamed B.named, atoms_spec (ws := ws) B.pre⟩, hK, hZ, hN, hn, fun q h => Or.inr h⟩ ?_ ⟨hP, hD0.self, va_S.rf⟩ hl hf
  intro pc ls H locs hw ho hd
  exact W.zret B.exec B.bytes hr (rx_nz ho) (fun t ht hW => ⟨⟨o.1, o.2, rfl, ⟨rfl, rfl⟩, by rw [ht]; exact hw.1, va_K.moved hW.alike hK, hw.2.1⟩, hw.2.2.F ht⟩) hw.2.2.2.2 hd
theorem rx_ofV (hy : plainName y.cls = true) (hw : ws = Cond.code y cc maxL none :: ws') (hn : ∀ w ∈ NW, rx_nest w = true) (hav : (lg_sl av).length ≤ maxL)
    (body : ∀ (p : Program) (e : Env) (s : State) (m : MethodId) (args : Array Value) (below : List Frame) (meth : Method) (c : Code) (A : Nat → Prop) (Q : State → Prop) (M : Me) (o : Int32 × Me) (ls : Array Slot), rx_C p m c cc maxL s args ws y.cls D cl tys zs NW A → rx_RV p l e rm s m args below meth c cc D cl wd A Q o → rx_W D cl wd A s.heap M s.heap [] → lv_has ls maxL (lv_args 0 av) → f M = some o → W p l e rm s m args below meth c s.heap [] 0 0 Q (F0 m 0 ls [])) : rx_MV l y ws rm D cl wd tys zs NW av f := by
  intro sz M o hf
  refine Met.ofW (cc := cc) (maxL := maxL) (ret := none) hy hw ?_
  intro p e s m args below meth c s₁ B hml hv
  obtain ⟨rfl, rfl, hP, hK, hD0, hZ, hN⟩ := hv
  have hl := lv_entry av (n := maxL) hav
  rw [lg_entry_eq]
  have hlocks := B.notSynchronized
  have hr := B.returns
  refine body p e s m _ below meth c (va_A (wd M) s.heap.size) _ M o _ ⟨⟨B.exec, B.bytes, hml, findClass_of_methodNamed B.named, atoms_spec (ws := ws) B.pre⟩, hK, hZ, hN, hn, fun q h => Or.inr h⟩ ?_ ⟨hP, hD0.self, va_S.rf⟩ hl hf
  intro pc ls H locs hw hd
  exact W.vret B.exec B.bytes hr (fun t ht hW => ⟨⟨o.2, rfl, rfl, by rw [ht]; exact hw.1, va_K.moved hW.alike hK, hw.2.1⟩, hw.2.2.F ht⟩) hw.2.2.2.2 hd
end RM
theorem rx_goodA {kw k2 : Cond} (h : k2 ∈ wA) : GoodIn (kw :: wA) (k2 :: wA) := fun w hw => (List.mem_cons.mp hw).elim (fun e => by rw [e]; exact ⟨.tail _ h, good_of_word (List.mem_filter.mp h).2⟩) (fun h => ⟨.tail _ h, good_of_word (List.mem_filter.mp h).2⟩)
section RJ
variable {p : Program} {l : Launch} {e : Env} {R : Room} {s : State} {m : MethodId} {args : Array Value} {below : List Frame} {meth : Method} {c : Code} {H : Heap} {locs : List Loc} {cells slots : Nat} {Q : State → Prop} {cc : ByteArray} {pc nL : Nat} {ls : Array Slot} {rest : List Value} {D : va_G} {cl : List vw_C} {A : Nat → Prop} {tys : List (ClassId × FieldType)} {wd : Me → va_W} {zs : rx_zt} {kw : Cond} {own : String} {M : Me}
variable {y : MethodName} {bytes : ByteArray} {maxL n index : Nat} {ret : Option FieldType} {rm : Room} {host : String} {As : List Value} {f : Me → Op} {r : Int32} {M1 : Me} {a q0 ci : Nat} {qc : vw_C}
theorem rx_kVN (cx : rx_C p m c cc nL s args (kw :: wA) own D cl tys zs wN A) (kf : rx_KV y bytes maxL ret n) (hlk : Cond.methodLinkNest own index y host ∈ wN) (hR : rm.frames + 1 ≤ R.frames ∧ 8 + (maxL + 11) + rm.locals ≤ R.locals ∧ rm.cells = 0 ∧ rm.slots = 0) : va_CN R s args own index y host bytes maxL ret (Cond.code y bytes maxL ret :: wA) rm 0 0 n ∧ (Cond.instanceMethod y).before args s = true ∧ (Cond.selects y.cls y y).before args s = true :=
  ⟨va_cnB n cx.1.2.2.2.2 (rx_goodA kf.1) rfl hR.2.2.1 hR.2.2.2 (cx.2.2.2.1 _ hlk) (cx.1.2.2.2.2 _ (.tail _ kf.2.1)) kf.2.2.1 ⟨hR.1, hR.2.1⟩, cx.1.2.2.2.2 _ (.tail _ kf.2.2.2.1), cx.1.2.2.2.2 _ (.tail _ kf.2.2.2.2)⟩
theorem rx_kV (cx : rx_C p m c cc nL s args (kw :: wA) own D cl tys zs wN A) (kf : rx_KV y bytes maxL ret n) (hlk : Cond.methodLink own index y ∈ wA) (hR : rm.frames + 1 ≤ R.frames ∧ 8 + (maxL + 11) + rm.locals ≤ R.locals ∧ rm.cells = 0 ∧ rm.slots = 0) : CallW R s args own y.cls index y bytes maxL ret (Cond.code y bytes maxL ret :: wA) rm 0 0 n :=
  ⟨callB_of n cx.1.2.2.2.2 (rx_goodA kf.1) rfl hR.2.2.1 hR.2.2.2 (cx.1.2.2.2.2 _ (.tail _ kf.2.1)) (cx.1.2.2.2.2 _ (.tail _ hlk)) kf.2.2.1 ⟨hR.1, hR.2.1⟩, cx.1.2.2.2.2 _ (.tail _ kf.2.2.2.1), cx.1.2.2.2.2 _ (.tail _ kf.2.2.2.2)⟩
theorem rx_kS (cx : rx_C p m c cc nL s args (kw :: wA) own D cl tys zs wN A) (kf : rx_KS y bytes maxL ret n) (hlk : Cond.methodLink own index y ∈ wA) (hR : rm.frames + 1 ≤ R.frames ∧ 8 + (maxL + 11) + rm.locals ≤ R.locals ∧ rm.cells = 0 ∧ rm.slots = 0) : CallB R s args own index y bytes maxL ret (Cond.code y bytes maxL ret :: wA) rm 0 0 n ∧ (Cond.static y).before args s = true :=
  ⟨callB_of n cx.1.2.2.2.2 (rx_goodA kf.1) rfl hR.2.2.1 hR.2.2.2 (cx.1.2.2.2.2 _ (.tail _ kf.2.1)) (cx.1.2.2.2.2 _ (.tail _ hlk)) kf.2.2.1 ⟨hR.1, hR.2.1⟩, cx.1.2.2.2.2 _ (.tail _ kf.2.2.2)⟩
theorem rx_kSN (cx : rx_C p m c cc nL s args (kw :: wA) own D cl tys zs wN A) (kf : rx_KS y bytes maxL ret n) (hlk : Cond.methodLinkNest own index y host ∈ wN) (hR : rm.frames + 1 ≤ R.frames ∧ 8 + (maxL + 11) + rm.locals ≤ R.locals ∧ rm.cells = 0 ∧ rm.slots = 0) : va_CN R s args own index y host bytes maxL ret (Cond.code y bytes maxL ret :: wA) rm 0 0 n ∧ (Cond.static y).before args s = true ∧ True :=
  ⟨va_cnB n cx.1.2.2.2.2 (rx_goodA kf.1) rfl hR.2.2.1 hR.2.2.2 (cx.2.2.2.1 _ hlk) (cx.1.2.2.2.2 _ (.tail _ kf.2.1)) kf.2.2.1 ⟨hR.1, hR.2.1⟩, cx.1.2.2.2.2 _ (.tail _ kf.2.2.2), trivial⟩
theorem rx_jVNi (cx : rx_C p m c cc nL s args (kw :: wA) own D cl tys zs wN A) (hw : rx_W D cl wd A s.heap M H locs) (hM : rx_MI l y (Cond.code y bytes maxL ret :: wA) rm D cl wd tys zs wN (.ref a :: As) f) (ho : rx_ob wd a q0 ci) (hc : cl[ci]? = some qc) (hC : qc.1 = y.cls) (kf : rx_KV y bytes maxL ret n) (hlk : Cond.methodLinkNest own index y host ∈ wN) (hR : rm.frames + 1 ≤ R.frames ∧ 8 + (maxL + 11) + rm.locals ≤ R.locals ∧ rm.cells = 0 ∧ rm.slots = 0) (hn : As.length = n) (hsz : ls.size = nL) (hst : (rest.map fun v => v.category).sum ≤ 8) (hcs : cells ≤ R.cells ∧ slots ≤ R.slots) (hdg : decode cc pc = .ok (.invokevirtual index, 3)) {st0 : List Value} (hstk : st0 = As.reverse ++ .ref a :: rest) (hf : f M = some (r, M1))
    (kk : ∀ (H : Heap) (locs : List Loc), rx_W D cl wd A s.heap M1 H locs → W p l e R s m args below meth c H locs cells slots Q (F0 m (pc + 3) ls (.int r :: rest))) : W p l e R s m args below meth c H locs cells slots Q (F0 m pc ls st0) :=
  rx_cVNi cx hw hM ho hc hC (rx_kVN cx kf hlk hR) hn hsz hst hcs hdg hstk hf kk
theorem rx_jVNv (cx : rx_C p m c cc nL s args (kw :: wA) own D cl tys zs wN A) (hw : rx_W D cl wd A s.heap M H locs) (hM : rx_MV l y (Cond.code y bytes maxL ret :: wA) rm D cl wd tys zs wN (.ref a :: As) f) (ho : rx_ob wd a q0 ci) (hc : cl[ci]? = some qc) (hC : qc.1 = y.cls) (kf : rx_KV y bytes maxL ret n) (hlk : Cond.methodLinkNest own index y host ∈ wN) (hR : rm.frames + 1 ≤ R.frames ∧ 8 + (maxL + 11) + rm.locals ≤ R.locals ∧ rm.cells = 0 ∧ rm.slots = 0) (hn : As.length = n) (hsz : ls.size = nL) (hst : (rest.map fun v => v.category).sum ≤ 8) (hcs : cells ≤ R.cells ∧ slots ≤ R.slots) (hdg : decode cc pc = .ok (.invokevirtual index, 3)) {st0 : List Value} (hstk : st0 = As.reverse ++ .ref a :: rest) (hf : f M = some (r, M1))
    (kk : ∀ (H : Heap) (locs : List Loc), rx_W D cl wd A s.heap M1 H locs → W p l e R s m args below meth c H locs cells slots Q (F0 m (pc + 3) ls rest)) : W p l e R s m args below meth c H locs cells slots Q (F0 m pc ls st0) :=
  rx_cVNv cx hw hM ho hc hC (rx_kVN cx kf hlk hR) hn hsz hst hcs hdg hstk hf kk
theorem rx_jVi (cx : rx_C p m c cc nL s args (kw :: wA) own D cl tys zs wN A) (hw : rx_W D cl wd A s.heap M H locs) (hM : rx_MI l y (Cond.code y bytes maxL ret :: wA) rm D cl wd tys zs wN (.ref a :: As) f) (ho : rx_ob wd a q0 ci) (hc : cl[ci]? = some qc) (hC : qc.1 = y.cls) (kf : rx_KV y bytes maxL ret n) (hlk : Cond.methodLink own index y ∈ wA) (hR : rm.frames + 1 ≤ R.frames ∧ 8 + (maxL + 11) + rm.locals ≤ R.locals ∧ rm.cells = 0 ∧ rm.slots = 0) (hn : As.length = n) (hsz : ls.size = nL) (hst : (rest.map fun v => v.category).sum ≤ 8) (hcs : cells ≤ R.cells ∧ slots ≤ R.slots) (hdg : decode cc pc = .ok (.invokevirtual index, 3)) {st0 : List Value} (hstk : st0 = As.reverse ++ .ref a :: rest) (hf : f M = some (r, M1))
    (kk : ∀ (H : Heap) (locs : List Loc), rx_W D cl wd A s.heap M1 H locs → W p l e R s m args below meth c H locs cells slots Q (F0 m (pc + 3) ls (.int r :: rest))) : W p l e R s m args below meth c H locs cells slots Q (F0 m pc ls st0) :=
  rx_cVi cx hw hM ho hc hC (rx_kV cx kf hlk hR) hn hsz hst hcs hdg hstk hf kk
theorem rx_jVv (cx : rx_C p m c cc nL s args (kw :: wA) own D cl tys zs wN A) (hw : rx_W D cl wd A s.heap M H locs) (hM : rx_MV l y (Cond.code y bytes maxL ret :: wA) rm D cl wd tys zs wN (.ref a :: As) f) (ho : rx_ob wd a q0 ci) (hc : cl[ci]? = some qc) (hC : qc.1 = y.cls) (kf : rx_KV y bytes maxL ret n) (hlk : Cond.methodLink own index y ∈ wA) (hR : rm.frames + 1 ≤ R.frames ∧ 8 + (maxL + 11) + rm.locals ≤ R.locals ∧ rm.cells = 0 ∧ rm.slots = 0) (hn : As.length = n) (hsz : ls.size = nL) (hst : (rest.map fun v => v.category).sum ≤ 8) (hcs : cells ≤ R.cells ∧ slots ≤ R.slots) (hdg : decode cc pc = .ok (.invokevirtual index, 3)) {st0 : List Value} (hstk : st0 = As.reverse ++ .ref a :: rest) (hf : f M = some (r, M1))
    (kk : ∀ (H : Heap) (locs : List Loc), rx_W D cl wd A s.heap M1 H locs → W p l e R s m args below meth c H locs cells slots Q (F0 m (pc + 3) ls rest)) : W p l e R s m args below meth c H locs cells slots Q (F0 m pc ls st0) :=
  rx_cVv cx hw hM ho hc hC (rx_kV cx kf hlk hR) hn hsz hst hcs hdg hstk hf kk
theorem rx_jSNi (cx : rx_C p m c cc nL s args (kw :: wA) own D cl tys zs wN A) (hw : rx_W D cl wd A s.heap M H locs) (hM : rx_MI l y (Cond.code y bytes maxL ret :: wA) rm D cl wd tys zs wN As f) (kf : rx_KS y bytes maxL ret n) (hlk : Cond.methodLinkNest own index y host ∈ wN) (hR : rm.frames + 1 ≤ R.frames ∧ 8 + (maxL + 11) + rm.locals ≤ R.locals ∧ rm.cells = 0 ∧ rm.slots = 0) (hn : As.length = n) (hsz : ls.size = nL) (hst : (rest.map fun v => v.category).sum ≤ 8) (hcs : cells ≤ R.cells ∧ slots ≤ R.slots) (hdg : decode cc pc = .ok (.invokestatic index, 3)) {st0 : List Value} (hstk : st0 = As.reverse ++ rest) (hf : f M = some (r, M1))
    (kk : ∀ (H : Heap) (locs : List Loc), rx_W D cl wd A s.heap M1 H locs → W p l e R s m args below meth c H locs cells slots Q (F0 m (pc + 3) ls (.int r :: rest))) : W p l e R s m args below meth c H locs cells slots Q (F0 m pc ls st0) :=
  rx_cSNi cx hw hM (rx_kSN cx kf hlk hR) hn hsz hst hcs hdg hstk hf kk
theorem rx_jSi (cx : rx_C p m c cc nL s args (kw :: wA) own D cl tys zs wN A) (hw : rx_W D cl wd A s.heap M H locs) (hM : rx_MI l y (Cond.code y bytes maxL ret :: wA) rm D cl wd tys zs wN As f) (kf : rx_KS y bytes maxL ret n) (hlk : Cond.methodLink own index y ∈ wA) (hR : rm.frames + 1 ≤ R.frames ∧ 8 + (maxL + 11) + rm.locals ≤ R.locals ∧ rm.cells = 0 ∧ rm.slots = 0) (hn : As.length = n) (hsz : ls.size = nL) (hst : (rest.map fun v => v.category).sum ≤ 8) (hcs : cells ≤ R.cells ∧ slots ≤ R.slots) (hdg : decode cc pc = .ok (.invokestatic index, 3)) {st0 : List Value} (hstk : st0 = As.reverse ++ rest) (hf : f M = some (r, M1))
    (kk : ∀ (H : Heap) (locs : List Loc), rx_W D cl wd A s.heap M1 H locs → W p l e R s m args below meth c H locs cells slots Q (F0 m (pc + 3) ls (.int r :: rest))) : W p l e R s m args below meth c H locs cells slots Q (F0 m pc ls st0) :=
  rx_cSi cx hw hM (rx_kS cx kf hlk hR) hn hsz hst hcs hdg hstk hf kk
theorem rx_jSv (cx : rx_C p m c cc nL s args (kw :: wA) own D cl tys zs wN A) (hw : rx_W D cl wd A s.heap M H locs) (hM : rx_MV l y (Cond.code y bytes maxL ret :: wA) rm D cl wd tys zs wN As f) (kf : rx_KS y bytes maxL ret n) (hlk : Cond.methodLink own index y ∈ wA) (hR : rm.frames + 1 ≤ R.frames ∧ 8 + (maxL + 11) + rm.locals ≤ R.locals ∧ rm.cells = 0 ∧ rm.slots = 0) (hn : As.length = n) (hsz : ls.size = nL) (hst : (rest.map fun v => v.category).sum ≤ 8) (hcs : cells ≤ R.cells ∧ slots ≤ R.slots) (hdg : decode cc pc = .ok (.invokestatic index, 3)) {st0 : List Value} (hstk : st0 = As.reverse ++ rest) (hf : f M = some (r, M1))
    (kk : ∀ (H : Heap) (locs : List Loc), rx_W D cl wd A s.heap M1 H locs → W p l e R s m args below meth c H locs cells slots Q (F0 m (pc + 3) ls rest)) : W p l e R s m args below meth c H locs cells slots Q (F0 m pc ls st0) :=
  rx_cSv cx hw hM (rx_kS cx kf hlk hR) hn hsz hst hcs hdg hstk hf kk
end RJ

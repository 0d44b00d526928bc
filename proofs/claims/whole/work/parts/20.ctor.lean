/-! Constructors: worlds as lists that grow. -/
def rc_Pre (D : va_G) (tys : List (ClassId × FieldType)) (w0 : va_W) (sz : Nat) (U : State) : Prop := U.heap.size = sz ∧ va_P D vwCl w0 U.heap ∧ va_K D vwCl tys U ∧ va_D (fun _ => True) w0 ∧ (∀ w ∈ wN, va_Nw w U) ∧ va_AO "RealmTiles$Level" U
def rc_M (l : Launch) (y : MethodName) (ws : List Cond) (rm : Room) (D : va_G) (tys : List (ClassId × FieldType)) (av : List Value) (w0 : va_W) (w1 : (Nat → Nat) → va_W) (mc ms : Nat) : Prop := ∀ sz : Nat, Met l y ws rm (va_Pc av (rc_Pre D tys w0 sz)) (va_Qv (fun _ : Nat → Nat => True) (fun u t => va_P D vwCl (w1 u) t.heap ∧ va_K D vwCl tys t ∧ va_D (va_A w0 sz) (w1 u)) (va_A w0 sz)) mc ms (va_A w0 sz)
def rc_C (p : Program) (m : MethodId) (c : Code) (cc : ByteArray) (nL : Nat) (s : State) (args : Array Value) (Ts : List Cond) (own : String) (D : va_G) (tys : List (ClassId × FieldType)) (A : Nat → Prop) : Prop :=
  CallFix p m c cc nL s args Ts own ∧ va_K D vwCl tys s ∧ (∀ w ∈ wN, va_Nw w s) ∧ va_AO "RealmTiles$Level" s ∧ ∀ q : Nat, s.heap.size ≤ q → A q
def rc_W (D : va_G) (A : Nat → Prop) (H0 : Heap) (ws : va_W) (H : Heap) (locs : List Loc) : Prop := va_P D vwCl ws H ∧ va_D A ws ∧ va_S A H0 H locs
section RC
variable {p : Program} {l : Launch} {e : Env} {R : Room} {s : State} {m : MethodId} {args : Array Value} {below : List Frame} {meth : Method} {c : Code} {H : Heap} {locs : List Loc} {cells slots : Nat} {Q : State → Prop} {cc : ByteArray} {pc nL : Nat} {ls : Array Slot} {rest : List Value} {D : va_G} {A : Nat → Prop} {tys : List (ClassId × FieldType)} {ws ws1 : va_W} {kw : Cond} {own : String}
theorem rc_obj (cx : rc_C p m c cc nL s args (kw :: wA) own D tys A) {idx a : Nat} (h1 : Cond.methodLink own idx Lib.objectInit ∈ wA) (h2 : Cond.instanceMethod Lib.objectInit ∈ wA) (h3 : Cond.code Lib.objectInit ⟨#[0xb1]⟩ 1 none ∈ wA) (hsz : ls.size = nL) (hr : 1 ≤ R.frames ∧ (rest.map fun v => v.category).sum + 12 ≤ R.locals) (hd : decode cc pc = .ok (.invokespecial idx, 3))
    (kk : W p l e R s m args below meth c H locs cells slots Q (F0 m (pc + 3) ls rest)) : W p l e R s m args below meth c H locs cells slots Q (F0 m pc ls (.ref a :: rest)) :=
  W.objInit cx.1.1 cx.1.2.1 cx.1.2.2.2.1 (cx.1.2.2.2.2 _ (.tail _ h1)) (cx.1.2.2.2.2 _ (.tail _ h2)) (cx.1.2.2.2.2 _ (.tail _ h3)) rfl (by rw [cx.1.2.2.1]; exact hsz) rfl hd hr.1 (by show 2 * 0 + _ + 12 ≤ _; omega) kk
theorem rc_same {cA cB : ClassId} {t0 t1 : Nat} {ty : FieldType} {tys2 : List (ClassId × FieldType)} (hK : va_K D vwCl tys s) (h0 : tys[t0]? = some (cA, ty)) (hK2 : va_K D vwCl tys2 s) (h1 : tys2[t1]? = some (cB, ty)) : cB = cA := by
  have a := (hK.2 t0 _ h0).2
  have b := (hK2.2 t1 _ h1).2
  cases ty with
  | object C =>
    obtain ⟨_, _, _, _, _, a4⟩ := a
    obtain ⟨_, _, _, _, _, b4⟩ := b
    exact Option.some.inj (b4.symm.trans a4)
  | _ => exact Option.some.inj ((show s.vm.findClass _ = some cB from b).symm.trans a)
theorem rc_newi (cx : rc_C p m c cc nL s args (kw :: wA) own D tys A) (hw : rc_W D A s.heap ws H locs) (harr : Cond.arrayClass .int ∈ wA) {cI : ClassId} (t0 : Nat) (ht : tys[t0]? = some (cI, .int)) {n : Int32} {N : Nat} (hn : ¬ n < 0) (hN : n.toNatClampNeg = N) (hbytes : N * 4 ≤ 536870912) (hr : cells + 1 ≤ R.cells ∧ slots + N ≤ R.slots) (hdg : decode cc pc = .ok (.newarray .int, 2))
    (kk : ∀ (q : Nat) (H : Heap) (locs : List Loc), rc_W D A s.heap (ws ++ [(q, .inl (cI, N, .inl (fun _ => 0)))]) H locs → W p l e R s m args below meth c H locs (cells + 1) (slots + N) Q (F0 m (pc + 2) ls (.ref q :: rest))) : W p l e R s m args below meth c H locs cells slots Q (F0 m pc ls (.int n :: rest)) := by
  refine va_newa (atype := .int) (a0 := (N, .inl (fun _ => 0))) (ty := .int) cx.1.1 cx.1.2.1 (cx.1.2.2.2.2 _ (.tail _ harr)) rfl cx.2.1 hw.1 hw.2.1 hw.2.2 cx.2.2.2.2 (fun _ => rfl) hn hN hbytes hr.1 hr.2 hdg (fun q cA H1 hK1 hP1 hD1 hS1 => ?_)
  have he : cA = cI := rc_same cx.2.1 ht hK1 (t1 := tys.length) (by simp)
  subst he
  exact kk q H1 _ ⟨hP1, hD1, hS1⟩
theorem rc_newz (cx : rc_C p m c cc nL s args (kw :: wA) own D tys A) (hw : rc_W D A s.heap ws H locs) (harr : Cond.arrayClass .boolean ∈ wA) {cI : ClassId} (t0 : Nat) (ht : tys[t0]? = some (cI, .boolean)) {n : Int32} {N : Nat} (hn : ¬ n < 0) (hN : n.toNatClampNeg = N) (hbytes : N * 1 ≤ 536870912) (hr : cells + 1 ≤ R.cells ∧ slots + N ≤ R.slots) (hdg : decode cc pc = .ok (.newarray .boolean, 2))
    (kk : ∀ (q : Nat) (H : Heap) (locs : List Loc), rc_W D A s.heap (ws ++ [(q, .inl (cI, N, .inl (fun _ => 0)))]) H locs → W p l e R s m args below meth c H locs (cells + 1) (slots + N) Q (F0 m (pc + 2) ls (.ref q :: rest))) : W p l e R s m args below meth c H locs cells slots Q (F0 m pc ls (.int n :: rest)) := by
  refine va_newa (atype := .boolean) (a0 := (N, .inl (fun _ => 0))) (ty := .boolean) cx.1.1 cx.1.2.1 (cx.1.2.2.2.2 _ (.tail _ harr)) rfl cx.2.1 hw.1 hw.2.1 hw.2.2 cx.2.2.2.2 (fun _ => rfl) hn hN hbytes hr.1 hr.2 hdg (fun q cA H1 hK1 hP1 hD1 hS1 => ?_)
  have he : cA = cI := rc_same cx.2.1 ht hK1 (t1 := tys.length) (by simp)
  subst he
  exact kk q H1 _ ⟨hP1, hD1, hS1⟩
theorem rc_newq (cx : rc_C p m c cc nL s args (kw :: wA) own D tys A) (hw : rc_W D A s.heap ws H locs) {index : Nat} (hcl : Cond.classLink own index "RealmTiles$Level" ∈ wA) {cL : ClassId} (t0 : Nat) (ht : tys[t0]? = some (cL, .object "RealmTiles$Level")) {n : Int32} {N : Nat} (hn : ¬ n < 0) (hN : n.toNatClampNeg = N) (hbytes : N * 4 ≤ 536870912) (hr : cells + 1 ≤ R.cells ∧ slots + N ≤ R.slots) (hdg : decode cc pc = .ok (.anewarray index, 3))
    (kk : ∀ (q : Nat) (H : Heap) (locs : List Loc), rc_W D A s.heap (ws ++ [(q, .inl (cL, N, .inr (.inr (.inr (.inr (fun _ => none))))))]) H locs → W p l e R s m args below meth c H locs (cells + 1) (slots + N) Q (F0 m (pc + 3) ls (.ref q :: rest))) : W p l e R s m args below meth c H locs cells slots Q (F0 m pc ls (.int n :: rest)) := by
  refine va_newq cx.1.1 cx.1.2.1 cx.1.2.2.2.1 (cx.1.2.2.2.2 _ (.tail _ hcl)) cx.2.2.2.1 cx.2.1 hw.1 hw.2.1 hw.2.2 cx.2.2.2.2 hn hN hbytes hr.1 hr.2 hdg (fun q cA H1 hK1 hP1 hD1 hS1 => ?_)
  have he : cA = cL := rc_same cx.2.1 ht hK1 (t1 := tys.length) (by simp)
  subst he
  exact kk q H1 _ ⟨hP1, hD1, hS1⟩
theorem rc_astq (cx : rc_C p m c cc nL s args (kw :: wA) own D tys A) (hw : rc_W D A s.heap ws H locs) (q0 t0 qk ci : Nat) {a : Nat} {cA : ClassId} {r : vw_C} {n v : Nat} {vs : List Value} {f : Nat → Option Nat} (ha : ws[q0]? = some (a, .inl (cA, n, .inr (.inr (.inr (.inr f)))))) (ht : tys[t0]? = some (cA, .object r.1)) (hv : ws[qk]? = some (v, .inr (ci, vs))) (hc : vwCl[ci]? = some r) {i : Int32} (hin : vp_in i n) (hs : ws.set q0 (a, .inl (cA, n, .inr (.inr (.inr (.inr (va_up f i.toNatClampNeg (some v))))))) = ws1) (hdg : decode cc pc = .ok (.aastore, 1))
    (kk : ∀ (H : Heap) (locs : List Loc), rc_W D A s.heap ws1 H locs → W p l e R s m args below meth c H locs cells slots Q (F0 m (pc + 1) ls rest)) : W p l e R s m args below meth c H locs cells slots Q (F0 m pc ls (.ref v :: .int i :: .ref a :: rest)) := by
  subst hs
  exact va_astq cx.1.1 cx.1.2.1 cx.2.1 hw.1 hw.2.1 hw.2.2 q0 t0 qk ci ha ht hv hc hin hdg (fun H1 locs1 hP hD hS => kk H1 locs1 ⟨hP, hD, hS⟩)
theorem rc_iast (cx : rc_C p m c cc nL s args (kw :: wA) own D tys A) (hw : rc_W D A s.heap ws H locs) (q0 t0 : Nat) {a n : Nat} {cA : ClassId} {f g : Nat → Int32} (ha : ws[q0]? = some (a, .inl (cA, n, .inl f))) (ht : tys[t0]? = some (cA, .int)) {i x : Int32} (hin : vp_in i n) (hg : upd f i.toNatClampNeg x = g) (hs : ws.set q0 (a, .inl (cA, n, .inl g)) = ws1) (hdg : decode cc pc = .ok (.iastore, 1))
    (kk : ∀ (H : Heap) (locs : List Loc), rc_W D A s.heap ws1 H locs → W p l e R s m args below meth c H locs cells slots Q (F0 m (pc + 1) ls rest)) : W p l e R s m args below meth c H locs cells slots Q (F0 m pc ls (.int x :: .int i :: .ref a :: rest)) := by
  subst hs; subst hg
  exact va_iast cx.1.1 cx.1.2.1 cx.2.1 hw.1 hw.2.1 hw.2.2 q0 t0 ha ht hin hdg (fun H1 locs1 hP hD hS => kk H1 locs1 ⟨hP, hD, hS⟩)
theorem rc_get (cx : rc_C p m c cc nL s args (kw :: wA) own D tys A) (hw : rc_W D A s.heap ws H locs) {C : String} {T : u_T} {N ci index a : Nat} (q0 : Nat) {fs : List Value} (he : ws[q0]? = some (a, .inr (ci, fs))) (hc : vwCl[ci]? = some (C, T, N)) (hin : ∀ w ∈ u_ws C T N, w ∈ kw :: wA) (k : Nat) (hk : k < N) (hlink : Cond.fieldLink own index (T k).1 (T k).2.1 (T k).2.2.1 ∈ wA) {v : Value} (hv : fs[k]? = some v) (hdg : decode cc pc = .ok (.getfield index, 3))
    (kk : W p l e R s m args below meth c H locs cells slots Q (F0 m (pc + 3) ls (v :: rest))) : W p l e R s m args below meth c H locs cells slots Q (F0 m pc ls (.ref a :: rest)) :=
  va_get cx.1.1 cx.1.2.1 cx.1.2.2.2.2 hin cx.1.2.2.2.1 cx.2.1 hw.1 q0 he hc k hk (cx.1.2.2.2.2 _ (.tail _ hlink)) (fun _ h => h) hv hdg kk
theorem rc_putF (cx : rc_C p m c cc nL s args (kw :: wA) own D tys A) (hin0 : meth.name = "<init>") (hw : rc_W D A s.heap ws H locs) {C : String} {T : u_T} {N ci index a : Nat} (q0 : Nat) {fs : List Value} (he : ws[q0]? = some (a, .inr (ci, fs))) (hc : vwCl[ci]? = some (C, T, N)) (hin : ∀ w ∈ u_ws C T N, w ∈ kw :: wA) (ty0 : Nat → FieldType) (hty : ∀ k, k < N → parseFieldDescriptor (T k).2.2.1 = some (ty0 k)) (hnm : ∀ a, a < N → ∀ b, b < N → a ≠ b → (T a).2.1 ≠ (T b).2.1) (k : Nat) (hk : k < N) (hlink : Cond.fieldLink own index (T k).1 (T k).2.1 (T k).2.2.1 ∈ wA) (hfin : (T k).2.2.2 = true) (hdecl : (T k).1 = own) {v : Value} (hn : narrow (ty0 k) v = v) (hfit : fits (ty0 k) v = true) (hl : k < fs.length) (hs : ws.set q0 (a, .inr (ci, fs.set k v)) = ws1) (hdg : decode cc pc = .ok (.putfield index, 3))
    (kk : ∀ (H : Heap) (locs : List Loc), rc_W D A s.heap ws1 H locs → W p l e R s m args below meth c H locs cells slots Q (F0 m (pc + 3) ls rest)) : W p l e R s m args below meth c H locs cells slots Q (F0 m pc ls (v :: .ref a :: rest)) := by
  subst hs
  exact va_putF cx.1.1 cx.1.2.1 cx.1.2.2.2.2 hin ty0 hty hnm cx.1.2.2.2.1 cx.2.1 hw.1 hw.2.1 hw.2.2 q0 he hc k hk (cx.1.2.2.2.2 _ (.tail _ hlink)) (fun _ h => h) hfin hin0 hdecl (hty k hk) hn hfit hl hdg (fun H1 locs1 hP hD hS => kk H1 locs1 ⟨hP, hD, hS⟩)
theorem rc_put (cx : rc_C p m c cc nL s args (kw :: wA) own D tys A) (hw : rc_W D A s.heap ws H locs) {C : String} {T : u_T} {N ci index a : Nat} (q0 : Nat) {fs : List Value} (he : ws[q0]? = some (a, .inr (ci, fs))) (hc : vwCl[ci]? = some (C, T, N)) (hin : ∀ w ∈ u_ws C T N, w ∈ kw :: wA) (ty0 : Nat → FieldType) (hty : ∀ k, k < N → parseFieldDescriptor (T k).2.2.1 = some (ty0 k)) (hnm : ∀ a, a < N → ∀ b, b < N → a ≠ b → (T a).2.1 ≠ (T b).2.1) (k : Nat) (hk : k < N) (hlink : Cond.fieldLink own index (T k).1 (T k).2.1 (T k).2.2.1 ∈ wA) (hfin : (T k).2.2.2 = false) {v : Value} (hn : narrow (ty0 k) v = v) (hfit : fits (ty0 k) v = true) (hl : k < fs.length) (hs : ws.set q0 (a, .inr (ci, fs.set k v)) = ws1) (hdg : decode cc pc = .ok (.putfield index, 3))
    (kk : ∀ (H : Heap) (locs : List Loc), rc_W D A s.heap ws1 H locs → W p l e R s m args below meth c H locs cells slots Q (F0 m (pc + 3) ls rest)) : W p l e R s m args below meth c H locs cells slots Q (F0 m pc ls (v :: .ref a :: rest)) := by
  subst hs
  exact va_put cx.1.1 cx.1.2.1 cx.1.2.2.2.2 hin ty0 hty hnm cx.1.2.2.2.1 cx.2.1 hw.1 hw.2.1 hw.2.2 q0 he hc k hk (cx.1.2.2.2.2 _ (.tail _ hlink)) (fun _ h => h) hfin (hty k hk) hn hfit hl hdg (fun H1 locs1 hP hD hS => kk H1 locs1 ⟨hP, hD, hS⟩)
theorem rc_new (cx : rc_C p m c cc nL s args (kw :: wA) own D tys A) (hw : rc_W D A s.heap ws H locs) {C : String} {T : u_T} {N ci index : Nat} (hc : vwCl[ci]? = some (C, T, N)) (hin : ∀ w ∈ u_ws C T N, w ∈ kw :: wA) (ty : Nat → FieldType) (hty : ∀ k, k < N → parseFieldDescriptor (T k).2.2.1 = some (ty k)) (h1 : Cond.classLink own index C ∈ wA) (h2 : Cond.instantiable C N ∈ wA) (h3 : Cond.initialized C ∈ wA) {fs : List Value} (hfs : ∀ j, j < N → defaultValue (ty j) = vp_V fs j) (hr : cells + 1 ≤ R.cells ∧ slots + N ≤ R.slots) (hdg : decode cc pc = .ok (.new index, 3))
    (kk : ∀ (q : Nat) (H : Heap) (locs : List Loc), rc_W D A s.heap (ws ++ [(q, .inr (ci, fs))]) H locs → W p l e R s m args below meth c H locs (cells + 1) (slots + N) Q (F0 m (pc + 3) ls (.ref q :: rest))) : W p l e R s m args below meth c H locs cells slots Q (F0 m pc ls rest) :=
  va_new cx.1.1 cx.1.2.1 cx.1.2.2.2.2 hin ty hty cx.1.2.2.2.1 (cx.1.2.2.2.2 _ (.tail _ h1)) (cx.1.2.2.2.2 _ (.tail _ h2)) (cx.1.2.2.2.2 _ (.tail _ h3)) cx.2.1 hw.1 hw.2.1 hw.2.2 cx.2.2.2.2 hc hfs hr.1 hr.2 hdg (fun q H1 hP hD hS => kk q H1 _ ⟨hP, hD, hS⟩)
/-- a constructor's call -/
def rc_KI (y : MethodName) (cc : ByteArray) (maxL n : Nat) : Prop := Cond.code y cc maxL none ∈ wA ∧ Cond.initialized y.cls ∈ wA ∧ (y.cls ≠ "java/lang/invoke/MethodHandle" ∧ y.cls ≠ "java/lang/invoke/VarHandle" ∧ (parseMethodDescriptor y.desc).map (fun d => d.parameters.length) = some n) ∧ Cond.instanceMethod y ∈ wA ∧ y.name = "<init>"
theorem rc_frees (cx : rc_C p m c cc nL s args (kw :: wA) own D tys A) (hw : rc_W D A s.heap ws H locs) {wc : va_W} (isC : List Nat) (hC : isC.map (fun i => ws[i]?) = wc.map some) : ∀ q, va_A wc H.size q → A q := va_free hw.2.1 hw.2.2 cx.2.2.2.2 isC hC
theorem rc_blind {av : List Value} {sz : Nat} {w0 : va_W} : FrameBlind (va_Pc av (rc_Pre D tys w0 sz)) := fun a U g mk q => by
  obtain ⟨q0, q1, qP, qK, qD, qN, qO⟩ := q
  exact ⟨q0, q1, qP, va_K.moved (u := U) (U := U.calling g mk a) (Vm.Alike.refl U.vm) qK, qD, fun w h => rx_nest_same (u := U) (wN_ok w h) rfl (qN w h), va_AO.moved (u := U) (U := U.calling g mk a) (Vm.Alike.refl U.vm) qO⟩
theorem rc_sub {isC : List Nat} {wc : va_W} (hC : isC.map (fun i => ws[i]?) = wc.map some) : isC.filterMap (fun i => ws[i]?) = wc := by
  have h : (isC.map (fun i => ws[i]?)).filterMap id = (wc.map some).filterMap id := by rw [hC]
  rw [List.filterMap_map, List.filterMap_map] at h
  simpa using h
theorem rc_pre (cx : rc_C p m c cc nL s args (kw :: wA) own D tys A) (hw : rc_W D A s.heap ws H locs) {wc : va_W} (isC : List Nat) (hC : isC.map (fun i => ws[i]?) = wc.map some) (hnc : va_nd isC = true) {av : List Value} : ∀ U : State, U.heap = H → s.WarmedH U.vm → va_Pc av (rc_Pre D tys wc H.size) av.toArray U := fun U hU hW =>
  ⟨rfl, by rw [hU], by rw [hU]; exact hw.1.sub isC (rc_sub hC), va_K.moved hW.alike cx.2.1, (hw.2.1.sub isC hnc hC).weaken (fun _ _ _ _ => trivial), fun w h => rx_nest_warm (wN_ok w h) hW (cx.2.2.1 w h), va_AO.moved hW.alike cx.2.2.2.1⟩
variable {y : MethodName} {bytes : ByteArray} {maxL n index mc ms : Nat} {rm : Room} {host : String} {As : List Value} {a : Nat} {wc wr : va_W} {w1 : (Nat → Nat) → va_W}
theorem rc_end (cx : rc_C p m c cc nL s args (kw :: wA) own D tys A) (hw : rc_W D A s.heap ws H locs) (isC isR : List Nat) (hC : isC.map (fun i => ws[i]?) = wc.map some) (hR : isR.map (fun i => ws[i]?) = wr.map some) (hn : va_nd isR = true) (hdis : ∀ i ∈ isR, i ∉ isC) {st0 : List Value} {av : Array Value}
    (hr : va_Run p l e R s m args below meth c H locs cells slots mc ms (F0 m pc ls st0) rest (va_Qv (fun _ : Nat → Nat => True) (fun u t => va_P D vwCl (w1 u) t.heap ∧ va_K D vwCl tys t ∧ va_D (va_A wc H.size) (w1 u)) (va_A wc H.size) av) (va_A wc H.size))
    (kk : ∀ (u : Nat → Nat) (H : Heap) (locs : List Loc), rc_W D A s.heap (wr ++ w1 u) H locs → W p l e R s m args below meth c H locs (cells + mc) (slots + ms) Q (F0 m (pc + 3) ls rest)) : W p l e R s m args below meth c H locs cells slots Q (F0 m pc ls st0) := by
  have hFc := rc_frees cx hw isC hC
  refine va_callv hr hw.2.2 (fun q _ h => hFc q h) hFc (fun u t H1 locs1 ht hvm hp hB hz hk hS => ?_)
  obtain ⟨hP1, hK1, hD1⟩ := hB
  rw [ht] at hP1
  obtain ⟨hP, hD⟩ := va_join hw.1 hw.2.1 isC isR hC hR hn hdis hk hFc hP1 hD1
  exact kk u H1 locs1 ⟨hP, hD, hS⟩
theorem rc_callI (cx : rc_C p m c cc nL s args (kw :: wA) own D tys A) (hw : rc_W D A s.heap ws H locs) (hM : rc_M l y (Cond.code y bytes maxL none :: wA) rm D tys (.ref a :: As) wc w1 mc ms) (isC isR : List Nat) (hC : isC.map (fun i => ws[i]?) = wc.map some) (hnc : va_nd isC = true) (hR : isR.map (fun i => ws[i]?) = wr.map some) (hnr : va_nd isR = true) (hdis : ∀ i ∈ isR, i ∉ isC) (kf : rc_KI y bytes maxL n) (hlk : Cond.methodLink own index y ∈ wA) (hrm : rm.frames + 1 ≤ R.frames ∧ 8 + (maxL + 11) + rm.locals ≤ R.locals ∧ rm.cells = mc ∧ rm.slots = ms) (hn : As.length = n) (hsz : ls.size = nL) (hst : (rest.map fun v => v.category).sum ≤ 8) (hcs : cells + mc ≤ R.cells ∧ slots + ms ≤ R.slots) (hdg : decode cc pc = .ok (.invokespecial index, 3)) {st0 : List Value} (hstk : st0 = As.reverse ++ .ref a :: rest)
    (kk : ∀ (u : Nat → Nat) (H : Heap) (locs : List Loc), rc_W D A s.heap (wr ++ w1 u) H locs → W p l e R s m args below meth c H locs (cells + mc) (slots + ms) Q (F0 m (pc + 3) ls rest)) : W p l e R s m args below meth c H locs cells slots Q (F0 m pc ls st0) :=
  rc_end cx hw isC isR hC hR hnr hdis (va_runI cx.1 (hM H.size) ⟨callB_of n cx.1.2.2.2.2 (rx_goodA kf.1) rfl hrm.2.2.1 hrm.2.2.2 (cx.1.2.2.2.2 _ (.tail _ kf.2.1)) (cx.1.2.2.2.2 _ (.tail _ hlk)) kf.2.2.1 ⟨hrm.1, hrm.2.1⟩, kf.2.2.2.2, cx.1.2.2.2.2 _ (.tail _ kf.2.2.2.1)⟩ ⟨rc_blind, rc_pre cx hw isC hC hnc⟩ rfl hn hsz hstk (lv_room hst) hdg hcs) kk
theorem rc_callIN (cx : rc_C p m c cc nL s args (kw :: wA) own D tys A) (hw : rc_W D A s.heap ws H locs) (hM : rc_M l y (Cond.code y bytes maxL none :: wA) rm D tys (.ref a :: As) wc w1 mc ms) (isC isR : List Nat) (hC : isC.map (fun i => ws[i]?) = wc.map some) (hnc : va_nd isC = true) (hR : isR.map (fun i => ws[i]?) = wr.map some) (hnr : va_nd isR = true) (hdis : ∀ i ∈ isR, i ∉ isC) (kf : rc_KI y bytes maxL n) (hlk : Cond.methodLinkNest own index y host ∈ wN) (hrm : rm.frames + 1 ≤ R.frames ∧ 8 + (maxL + 11) + rm.locals ≤ R.locals ∧ rm.cells = mc ∧ rm.slots = ms) (hn : As.length = n) (hsz : ls.size = nL) (hst : (rest.map fun v => v.category).sum ≤ 8) (hcs : cells + mc ≤ R.cells ∧ slots + ms ≤ R.slots) (hdg : decode cc pc = .ok (.invokespecial index, 3)) {st0 : List Value} (hstk : st0 = As.reverse ++ .ref a :: rest)
    (kk : ∀ (u : Nat → Nat) (H : Heap) (locs : List Loc), rc_W D A s.heap (wr ++ w1 u) H locs → W p l e R s m args below meth c H locs (cells + mc) (slots + ms) Q (F0 m (pc + 3) ls rest)) : W p l e R s m args below meth c H locs cells slots Q (F0 m pc ls st0) :=
  rc_end cx hw isC isR hC hR hnr hdis (va_runIN cx.1 (hM H.size) ⟨va_cnB n cx.1.2.2.2.2 (rx_goodA kf.1) rfl hrm.2.2.1 hrm.2.2.2 (cx.2.2.1 _ hlk) (cx.1.2.2.2.2 _ (.tail _ kf.2.1)) kf.2.2.1 ⟨hrm.1, hrm.2.1⟩, kf.2.2.2.2, cx.1.2.2.2.2 _ (.tail _ kf.2.2.2.1)⟩ ⟨rc_blind, rc_pre cx hw isC hC hnc⟩ rfl hn hsz hstk (lv_room hst) hdg hcs) kk
/-- a static method with a contract over one cell, called beside others (Arrays.fill) -/
theorem rc_callS (cx : rc_C p m c cc nL s args (kw :: wA) own D tys A) (hw : rc_W D A s.heap ws H locs) {wd : Me → va_W} {tyc : List (ClassId × FieldType)} {f : Me → Op} {M M1 : Me} {r : Int32} (hM : rx_MV l y (Cond.code y bytes maxL none :: wA) rm D vwCl wd tyc [] wN As f) (hf : f M = some (r, M1)) (tk : List Nat) (htk : tk.filterMap (fun i => tys[i]?) = tyc) (isC isR : List Nat) (hC : isC.map (fun i => ws[i]?) = (wd M).map some) (hnc : va_nd isC = true) (hR : isR.map (fun i => ws[i]?) = wr.map some) (hnr : va_nd isR = true) (hdis : ∀ i ∈ isR, i ∉ isC) (kf : rx_KS y bytes maxL none n) (hlk : Cond.methodLink own index y ∈ wA) (hrm : rm.frames + 1 ≤ R.frames ∧ 8 + (maxL + 11) + rm.locals ≤ R.locals ∧ rm.cells = 0 ∧ rm.slots = 0) (hn : As.length = n) (hsz : ls.size = nL) (hst : (rest.map fun v => v.category).sum ≤ 8) (hcs : cells ≤ R.cells ∧ slots ≤ R.slots) (hdg : decode cc pc = .ok (.invokestatic index, 3)) {st0 : List Value} (hstk : st0 = As.reverse ++ rest)
    (kk : ∀ (H : Heap) (locs : List Loc), rc_W D A s.heap (wr ++ wd M1) H locs → W p l e R s m args below meth c H locs cells slots Q (F0 m (pc + 3) ls rest)) : W p l e R s m args below meth c H locs cells slots Q (F0 m pc ls st0) := by
  have hFc := rc_frees cx hw isC hC
  have hrun := va_runS (As := As) (rest := rest) (locs := locs) (cells := cells) (slots := slots) (below := below) (meth := meth) (e := e) (g := F0 m pc ls st0) cx.1 (hM H.size M (r, M1) hf) (⟨callB_of n cx.1.2.2.2.2 (rx_goodA kf.1) rfl hrm.2.2.1 hrm.2.2.2 (cx.1.2.2.2.2 _ (.tail _ kf.2.1)) (cx.1.2.2.2.2 _ (.tail _ hlk)) kf.2.2.1 ⟨hrm.1, hrm.2.1⟩, cx.1.2.2.2.2 _ (.tail _ kf.2.2.2)⟩ : CallB R s args own index y bytes maxL none (Cond.code y bytes maxL none :: wA) rm 0 0 n ∧ (Cond.static y).before args s = true) ⟨rx_blind wN_ok, fun U hU hW => ⟨rfl, by rw [hU], by rw [hU]; exact hw.1.sub isC (rc_sub hC), va_K.moved hW.alike (cx.2.1.sub tk htk), (hw.2.1.sub isC hnc hC).weaken (fun _ _ _ _ => trivial), fun z hz => (by cases hz), fun w h => rx_nest_warm (wN_ok w h) hW (cx.2.2.1 w h)⟩⟩ rfl hn hsz hstk (lv_room hst) hdg hcs
  refine va_callv hrun hw.2.2 (fun q _ h => hFc q h) hFc (fun u t H1 locs1 ht hvm hp hB hz hk hS => ?_)
  obtain ⟨hP1, hK1, hD1⟩ := hB
  rw [ht] at hP1
  subst hp
  obtain ⟨hP, hD⟩ := va_join hw.1 hw.2.1 isC isR hC hR hnr hdis hk hFc hP1 hD1
  exact kk H1 locs1 ⟨hP, hD, hS⟩
end RC
theorem rc_of {l : Launch} {D : va_G} {tys : List (ClassId × FieldType)} {y : MethodName} {cc : ByteArray} {maxL mc ms : Nat} {rm : Room} {av : List Value} {w0 : va_W} {w1 : (Nat → Nat) → va_W} (hy : plainName y.cls = true) (hyn : y.name = "<init>") (hav : (lg_sl av).length ≤ maxL)
    (body : ∀ (p : Program) (e : Env) (s : State) (m : MethodId) (args : Array Value) (below : List Frame) (meth : Method) (c : Code) (A : Nat → Prop) (Q : State → Prop) (ls : Array Slot), rc_C p m c cc maxL s args (Cond.code y cc maxL none :: wA) y.cls D tys A → meth.name = "<init>" → (∀ (pc : Nat) (ls : Array Slot) (H : Heap) (locs : List Loc) (u : Nat → Nat), rc_W D A s.heap (w1 u) H locs → decode cc pc = .ok (.return_, 1) → W p l e rm s m args below meth c H locs mc ms Q (F0 m pc ls [])) → rc_W D A s.heap w0 s.heap [] → lv_has ls maxL (lv_args 0 av) → W p l e rm s m args below meth c s.heap [] 0 0 Q (F0 m 0 ls [])) : rc_M l y (Cond.code y cc maxL none :: wA) rm D tys av w0 w1 mc ms := by
  intro sz
  refine Met.ofW (cc := cc) (maxL := maxL) (ret := none) hy rfl ?_
  intro p e s m args below meth c s₁ B hml hv
  obtain ⟨rfl, rfl, hP, hK, hD0, hN, hO⟩ := hv
  have hl := lv_entry av (n := maxL) hav
  rw [lg_entry_eq]
  have hlocks := B.notSynchronized
  have hr := B.returns
  refine body p e s m _ below meth c (va_A w0 s.heap.size) _ _ ⟨⟨B.exec, B.bytes, hml, findClass_of_methodNamed B.named, atoms_spec (ws := Cond.code y cc maxL none :: wA) B.pre⟩, hK, hN, hO, fun q h => Or.inr h⟩ (((name_of_methodNamed B.named B.method).1).trans hyn) ?_ ⟨hP, hD0.self, va_S.rf⟩ hl
  intro pc ls H locs u hw hd
  exact W.vret B.exec B.bytes hr (fun t ht hW => ⟨⟨u, rfl, trivial, by rw [ht]; exact hw.1, va_K.moved hW.alike hK, hw.2.1⟩, hw.2.2.F ht⟩) hw.2.2.2.2 hd
theorem kiX6_init : rc_KI yX6_init cX6_init 1 0 := ⟨tw_17, tw_1, ⟨by decide +kernel, by decide +kernel, by decide +kernel⟩, tw_16, rfl⟩
theorem kiX0_init : rc_KI yX0_init cX0_init 1 0 := ⟨tw_25, tw_2, ⟨by decide +kernel, by decide +kernel, by decide +kernel⟩, tw_24, rfl⟩
theorem kiX1_init : rc_KI yX1_init cX1_init 1 0 := ⟨tw_245, tw_8, ⟨by decide +kernel, by decide +kernel, by decide +kernel⟩, tw_244, rfl⟩
theorem kiX2_init : rc_KI yX2_init cX2_init 3 2 := ⟨tw_179, tw_6, ⟨by decide +kernel, by decide +kernel, by decide +kernel⟩, tw_178, rfl⟩
theorem kiX3_init : rc_KI yX3_init cX3_init 1 0 := ⟨tw_80, tw_4, ⟨by decide +kernel, by decide +kernel, by decide +kernel⟩, tw_79, rfl⟩
theorem kiX4_init : rc_KI yX4_init cX4_init 3 2 := ⟨tw_238, tw_7, ⟨by decide +kernel, by decide +kernel, by decide +kernel⟩, tw_237, rfl⟩
theorem kiX5_init : rc_KI yX5_init cX5_init 3 1 := ⟨tw_74, tw_3, ⟨by decide +kernel, by decide +kernel, by decide +kernel⟩, tw_73, rfl⟩
theorem kiX7_init : rc_KI yX7_init cX7_init 1 0 := ⟨tw_659, tw_9, ⟨by decide +kernel, by decide +kernel, by decide +kernel⟩, tw_658, rfl⟩
theorem df_X0 : ∀ j, j < 10 → defaultValue (tyX0 j) = vp_V [.null, .null, .null, .null, .null, .null, .null, .null, .int 0, .int 0] j := by
  intro j hj
  match j, hj with
  | 0, _ => rfl
  | 1, _ => rfl
  | 2, _ => rfl
  | 3, _ => rfl
  | 4, _ => rfl
  | 5, _ => rfl
  | 6, _ => rfl
  | 7, _ => rfl
  | 8, _ => rfl
  | 9, _ => rfl
  | n + 10, h => omega
theorem df_X1 : ∀ j, j < 9 → defaultValue (tyX1 j) = vp_V [.int 0, .int 0, .int 0, .int 0, .int 0, .int 0, .int 0, .int 0, .null] j := by
  intro j hj
  match j, hj with
  | 0, _ => rfl
  | 1, _ => rfl
  | 2, _ => rfl
  | 3, _ => rfl
  | 4, _ => rfl
  | 5, _ => rfl
  | 6, _ => rfl
  | 7, _ => rfl
  | 8, _ => rfl
  | n + 9, h => omega
theorem df_X2 : ∀ j, j < 13 → defaultValue (tyX2 j) = vp_V [.null, .null, .int 0, .int 0, .int 0, .int 0, .int 0, .int 0, .int 0, .null, .null, .null, .null] j := by
  intro j hj
  match j, hj with
  | 0, _ => rfl
  | 1, _ => rfl
  | 2, _ => rfl
  | 3, _ => rfl
  | 4, _ => rfl
  | 5, _ => rfl
  | 6, _ => rfl
  | 7, _ => rfl
  | 8, _ => rfl
  | 9, _ => rfl
  | 10, _ => rfl
  | 11, _ => rfl
  | 12, _ => rfl
  | n + 13, h => omega
theorem df_X3 : ∀ j, j < 11 → defaultValue (tyX3 j) = vp_V [.null, .null, .null, .null, .null, .null, .null, .int 0, .null, .null, .int 0] j := by
  intro j hj
  match j, hj with
  | 0, _ => rfl
  | 1, _ => rfl
  | 2, _ => rfl
  | 3, _ => rfl
  | 4, _ => rfl
  | 5, _ => rfl
  | 6, _ => rfl
  | 7, _ => rfl
  | 8, _ => rfl
  | 9, _ => rfl
  | 10, _ => rfl
  | n + 11, h => omega
theorem df_X4 : ∀ j, j < 6 → defaultValue (tyX4 j) = vp_V [.null, .null, .null, .int 0, .int 0, .int 0] j := by
  intro j hj
  match j, hj with
  | 0, _ => rfl
  | 1, _ => rfl
  | 2, _ => rfl
  | 3, _ => rfl
  | 4, _ => rfl
  | 5, _ => rfl
  | n + 6, h => omega
theorem df_X5 : ∀ j, j < 12 → defaultValue (tyX5 j) = vp_V [.null, .null, .null, .null, .null, .null, .null, .null, .null, .int 0, .null, .int 0] j := by
  intro j hj
  match j, hj with
  | 0, _ => rfl
  | 1, _ => rfl
  | 2, _ => rfl
  | 3, _ => rfl
  | 4, _ => rfl
  | 5, _ => rfl
  | 6, _ => rfl
  | 7, _ => rfl
  | 8, _ => rfl
  | 9, _ => rfl
  | 10, _ => rfl
  | 11, _ => rfl
  | n + 12, h => omega
theorem df_X6 : ∀ j, j < 4 → defaultValue (tyX6 j) = vp_V [.null, .null, .null, .null] j := by
  intro j hj
  match j, hj with
  | 0, _ => rfl
  | 1, _ => rfl
  | 2, _ => rfl
  | 3, _ => rfl
  | n + 4, h => omega
theorem df_X7 : ∀ j, j < 34 → defaultValue (tyX7 j) = vp_V [.int 0, .null, .null, .null, .null, .int 0, .null, .int 0, .int 0, .int 0, .null, .null, .null, .null, .null, .null, .null, .null, .int 0, .int 0, .int 0, .int 0, .int 0, .int 0, .null, .null, .int 0, .null, .null, .null, .int 0, .int 0, .null, .null] j := by
  intro j hj
  match j, hj with
  | 0, _ => rfl
  | 1, _ => rfl
  | 2, _ => rfl
  | 3, _ => rfl
  | 4, _ => rfl
  | 5, _ => rfl
  | 6, _ => rfl
  | 7, _ => rfl
  | 8, _ => rfl
  | 9, _ => rfl
  | 10, _ => rfl
  | 11, _ => rfl
  | 12, _ => rfl
  | 13, _ => rfl
  | 14, _ => rfl
  | 15, _ => rfl
  | 16, _ => rfl
  | 17, _ => rfl
  | 18, _ => rfl
  | 19, _ => rfl
  | 20, _ => rfl
  | 21, _ => rfl
  | 22, _ => rfl
  | 23, _ => rfl
  | 24, _ => rfl
  | 25, _ => rfl
  | 26, _ => rfl
  | 27, _ => rfl
  | 28, _ => rfl
  | 29, _ => rfl
  | 30, _ => rfl
  | 31, _ => rfl
  | 32, _ => rfl
  | 33, _ => rfl
  | n + 34, h => omega
def tT (cI cZ cL : ClassId) : List (ClassId × FieldType) := [(cI, .int), (cZ, .boolean), (cL, .object "RealmTiles$Level")]
def wF (ad : Nat → Nat) (cI cL : ClassId) (M : Me) : va_W := [(ad 0, .inl (cI, 441, .inl (M 0)))]
def tF (cI cL : ClassId) : List (ClassId × FieldType) := [(cI, .int)]
theorem arF_0 (ad : Nat → Nat) (cI cL : ClassId) : rx_ar (wF ad cI cL) (tF cI cL) .int (ad 0) 0 441 := ⟨cI, 0, rfl, fun _ => rfl, fun _ _ => rfl⟩
def rm_J7_fill_0_F : Room := { frames := 0, cells := 0, slots := 0, locals := 0 }
noncomputable def qo_J7_fill_0_F_5  (w1 : Int32) (w3 : Int32) (rec : Int32 → Me → Op) (w2 : Int32) (M : Me) : Op :=
  if w3 ≤ w2 then (some (0, M)) else (rx_sv M 0 441 w2 w1 fun M1 => rx_vv (w2 + 1) fun v2 => rec v2 M1)
noncomputable def qf_J7_fill_0_F  (w1 : Int32)  (M : Me) : Op :=
  rx_vv ((Int32.ofNat 441)) fun v1 => rx_lp1 (qo_J7_fill_0_F_5 w1 v1) rx_FU 0 M
section
variable {p : Program} {l : Launch} {e : Env} {s : State} {m : MethodId} {args : Array Value} {below : List Frame} {meth : Method} {c : Code} {Q : State → Prop} {D : va_G} {A : Nat → Prop} {o : Int32 × Me} {ad : Nat → Nat} {cI cL : ClassId} {b1 b2 : Nat}
set_option maxRecDepth 100000 in
set_option maxHeartbeats 4000000 in
theorem qk_J7_fill_0_F_5 (cx : rx_C p m c cJ7_fill 4 s args wJ7_fill RJ7 D vwCl (tF cI cL) [] wN A) (hret : rx_RV p l e rm_J7_fill_0_F s m args below meth c cJ7_fill D vwCl (wF ad cI cL) A Q o) {w1 : Int32} {w3 : Int32} : ∀ (n : Nat) {w2 : Int32} {ls : Array Slot} {H : Heap} {locs : List Loc} {M : Me}, rx_W D vwCl (wF ad cI cL) A s.heap M H locs → lv_has ls 4 [(0, .ref ((ad 0))), (1, .int w1), (2, .int w2), (3, .int w3)] → rx_lp1 (qo_J7_fill_0_F_5 w1 w3) n w2 M = some o → W p l e rm_J7_fill_0_F s m args below meth c H locs 0 0 Q (F0 m 5 ls []) := by
  have hx := cx.1.1
  have hb := cx.1.2.1
  intro n
  induction n with
  | zero => intro w2 ls H locs M hw hl hf; exact rx_no hf
  | succ n ih =>
    intro w2 ls H locs M hw hl hf
    have hf : qo_J7_fill_0_F_5 w1 w3 (rx_lp1 (qo_J7_fill_0_F_5 w1 w3) n) w2 M = some o := hf
    refine lv_iload_n hx hb dJ7_fill_5 rfl (lv_at hl 2 rfl) ?_
    refine lv_iload_n hx hb dJ7_fill_6 rfl (lv_at hl 3 rfl) ?_
    refine lv_icmp_ge hx hb dJ7_fill_7 rfl (fun hc => ?_) (fun hc => ?_)
    · have hf := rx_t hc hf
      exact rx_retv hret hw hf dJ7_fill_20
    · have hf := rx_f hc hf
      refine lv_aload_n hx hb dJ7_fill_10 rfl (lv_at hl 0 rfl) ?_
      refine lv_iload_n hx hb dJ7_fill_11 rfl (lv_at hl 2 rfl) ?_
      refine lv_iload_n hx hb dJ7_fill_12 rfl (lv_at hl 1 rfl) ?_
      obtain ⟨hM1, M1, eM1, hf⟩ := rx_svI hf
      refine rx_iast cx hw (arF_0 ad cI cL) ⟨hM1, eM1⟩ dJ7_fill_13 (fun H locs hw => ?_)
      obtain ⟨v2, ev2, hf⟩ := rx_vvI hf
      refine lv_iinc (lv' := [(2, .int v2), (0, .ref ((ad 0))), (1, .int w1), (3, .int w3)]) hx hb dJ7_fill_14 hl (k := 2) rfl (rx_inc ic_1 ev2) (Nat.le_of_ble_eq_true rfl) rfl (fun ls hl => ?_)
      refine lv_goto hx hb dJ7_fill_17 rfl ?_
      exact ih hw (lv_sub hl [1, 2, 0, 3] rfl) hf
set_option maxRecDepth 100000 in
set_option maxHeartbeats 4000000 in
theorem qk_J7_fill_0_F_0 (cx : rx_C p m c cJ7_fill 4 s args wJ7_fill RJ7 D vwCl (tF cI cL) [] wN A) (hret : rx_RV p l e rm_J7_fill_0_F s m args below meth c cJ7_fill D vwCl (wF ad cI cL) A Q o) {w1 : Int32} {ls : Array Slot} {H : Heap} {locs : List Loc} {M : Me} (hw : rx_W D vwCl (wF ad cI cL) A s.heap M H locs) (hl : lv_has ls 4 [(0, .ref ((ad 0))), (1, .int w1)]) (hf : qf_J7_fill_0_F w1 M = some o) : W p l e rm_J7_fill_0_F s m args below meth c H locs 0 0 Q (F0 m 0 ls []) := by
  have hx := cx.1.1
  have hb := cx.1.2.1
  refine lv_iconst (v := 0) hx hb dJ7_fill_0 ic_0 ?_
  refine lv_istore_n (lv' := [(2, .int 0), (0, .ref ((ad 0))), (1, .int w1)]) hx hb dJ7_fill_1 rfl hl (Nat.le_of_ble_eq_true rfl) rfl (fun ls hl => ?_)
  refine lv_aload_n hx hb dJ7_fill_2 rfl (lv_at hl 1 rfl) ?_
  refine rx_alen cx hw (arF_0 ad cI cL) dJ7_fill_3 ?_
  obtain ⟨v1, ev1, hf⟩ := rx_vvI hf
  refine rx_top ev1 ?_
  refine lv_istore_n (lv' := [(3, .int v1), (2, .int 0), (0, .ref ((ad 0))), (1, .int w1)]) hx hb dJ7_fill_4 rfl hl (Nat.le_of_ble_eq_true rfl) rfl (fun ls hl => ?_)
  exact (qk_J7_fill_0_F_5 cx hret rx_FU) hw (lv_sub hl [2, 3, 1, 0] rfl) hf
end
set_option maxRecDepth 100000 in
theorem qc_J7_fill_0_F (l : Launch) (D : va_G) (ad : Nat → Nat) (cI cL : ClassId) (w1 : Int32) : rx_MV l yJ7_fill wJ7_fill rm_J7_fill_0_F D vwCl (wF ad cI cL) (tF cI cL) [] wN [.ref (ad 0), .int w1] (fun M => qf_J7_fill_0_F w1 M) :=
  rx_ofV (by decide) rfl wN_ok (Nat.le_of_ble_eq_true rfl) (fun _ _ _ _ _ _ _ _ _ _ _ _ _ cx hret hw hl hf => qk_J7_fill_0_F_0 cx hret hw hl hf)
/-- Arrays.fill of 441 places with -1 -/
def fl_f (k : Nat) : Me := fun d j => if d = 0 ∧ j < k then -1 else 0
theorem fl_st (k : Nat) : rx_st (fl_f k) 0 k (-1) = fl_f (k + 1) := by
  funext d j
  by_cases hd : d = 0
  · subst hd
    by_cases hj : j = k
    · subst hj
      simp [rx_st, fl_f, upd]
    · have e : (j < k) = (j < k + 1) := propext (by omega)
      simp [rx_st, fl_f, upd, hj, e]
  · simp [rx_st, fl_f, hd]
theorem fl_lp (n : Nat) : ∀ k, k ≤ 441 → 441 - k < n → rx_lp1 (qo_J7_fill_0_F_5 (-1) (Int32.ofNat 441)) n (nI k) (fl_f k) = some (0, fl_f 441) := by
  induction n with
  | zero => intro k _ h; omega
  | succ n ih =>
    intro k hk hn
    show qo_J7_fill_0_F_5 (-1) (Int32.ofNat 441) (rx_lp1 (qo_J7_fill_0_F_5 (-1) (Int32.ofNat 441)) n) (nI k) (fl_f k) = _
    rw [qo_J7_fill_0_F_5]
    by_cases h : k = 441
    · subst h
      rw [if_pos (by decide)]
    · have hlt : k < 441 := by omega
      have hc : ¬ Int32.ofNat 441 ≤ nI k := nI_ge hlt (by decide)
      rw [if_neg hc]
      simp only [rx_sv]
      rw [if_neg (nI_in hlt (by decide)), nI_clamp (by omega), fl_st]
      show rx_lp1 _ n (nI k + 1) _ = _
      rw [nI_1]
      exact ih (k + 1) (by omega) (by omega)
def fl_at : Nat → Int32 := fl_f 441 0
theorem fl_eq (w1 : Int32) (M : Me) : qf_J7_fill_0_F w1 M = rx_lp1 (qo_J7_fill_0_F_5 w1 (Int32.ofNat 441)) rx_FU 0 M := rfl
theorem fl_0 : (fun _ _ => 0 : Me) = fl_f 0 := by
  funext d j
  simp [fl_f]
theorem fl_n (n : Nat) (h : 441 < n) : rx_lp1 (qo_J7_fill_0_F_5 (-1) (Int32.ofNat 441)) n 0 (fun _ _ => 0) = some (0, fl_f 441) := by
  have h := fl_lp n 0 (by omega) (by omega)
  rw [nI_0] at h
  rw [fl_0]
  exact h
theorem fill_at : qf_J7_fill_0_F (-1) (fun _ _ => 0) = some (0, fl_f 441) := (fl_eq _ _).trans (fl_n rx_FU (by rw [rx_FUe]; decide))

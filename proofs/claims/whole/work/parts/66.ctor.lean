/-! contracts of constructors: the bare object before, its cells behind it; α names the addresses -/
def ciB (D : va_G) (cy : Nat → ClassId) (h0 ci : Nat) (fs : List Value) (sz : Nat) (N : State → Prop) (U : State) : Prop := U.heap.size = sz ∧ va_P D classes [(h0, .inr (ci, fs))] U.heap ∧ va_K D classes (ctT cy) U ∧ N U
def ciQ {α : Type} (D : va_G) (w1 : α → va_W) (A : Nat → Prop) : Array Value → State → Outcome → State → Prop := va_Qv (fun _ : α => True) (fun a U => va_P D classes (w1 a) U.heap ∧ va_D A (w1 a)) A
def CI {α : Type} (l : Launch) (D : va_G) (cy : Nat → ClassId) (y : MethodName) (cc : ByteArray) (nL : Nat) (rm : Room) (h0 ci : Nat) (fs : List Value) (sz : Nat) (N : State → Prop) (w1 : α → va_W) (mc ms : Nat) : Prop :=
  Met l y (ctW y cc nL none) rm (va_Pc [.ref h0] (ciB D cy h0 ci fs sz N)) (ciQ D w1 (va_A [(h0, .inr (ci, fs))] sz)) mc ms (va_A [(h0, .inr (ci, fs))] sz)
theorem va_D1 {A : Nat → Prop} {q : Nat × va_E} (h : A q.1) : va_D A [q] := by
  have z : ∀ (k : Nat) (x : Nat × va_E), ([q] : va_W)[k]? = some x → k = 0 ∧ x = q := by
    intro k x hk
    cases k with
    | zero => exact ⟨rfl, (Option.some.inj hk).symm⟩
    | succ k => simp at hk
  exact ⟨fun i j x y hi hj _ => (z i x hi).1.trans (z j y hj).1.symm, fun k x hk => by rw [(z k x hk).2]; exact h⟩
theorem ci_of {α : Type} {l : Launch} {D : va_G} {cy : Nat → ClassId} {y : MethodName} {cc : ByteArray} {nL : Nat} {rm : Room} {h0 ci : Nat} {fs : List Value} {sz : Nat} {N : State → Prop} {w1 : α → va_W} {mc ms : Nat} (hy : plainName y.cls = true) (hyn : y.name = "<init>") (hn : 1 ≤ nL)
    (body : ∀ (p : Program) (e : Env) (s : State) (m : MethodId) (args : Array Value) (below : List Frame) (meth : Method) (c : Code) (A : Nat → Prop) (ls : Array Slot), MC p s m args meth c y.cls cc nL none → meth.name = "<init>" → va_K D classes (ctT cy) s → N s → va_P D classes [(h0, .inr (ci, fs))] s.heap → va_D A [(h0, .inr (ci, fs))] → (∀ q, s.heap.size ≤ q → A q) → va_S A s.heap s.heap [] → lv_has ls nL (lv_args 0 [.ref h0]) →
      W p l e rm s m args below meth c s.heap [] 0 0 (MQ below (ciQ D w1 A) args s mc ms A) (F0 m 0 ls [])) : CI l D cy y cc nL rm h0 ci fs sz N w1 mc ms := by
  refine Met.ofW (cc := cc) (maxL := nL) (ret := none) hy rfl ?_
  intro p e s m args below meth c s₁ B hml hv
  obtain ⟨rfl, hsz, hP, hK, hN⟩ := hv
  have hts := atoms_spec (ws := ctW y cc nL none) B.pre
  have hin : meth.name = "<init>" := (name_of_methodNamed B.named B.method).1.trans hyn
  subst hsz
  have hl := lv_entry [.ref h0] (n := nL) (by exact hn)
  rw [lg_entry_eq]
  generalize (lg_sl [.ref h0] ++ List.replicate (nL - (lg_sl [.ref h0]).length) Slot.unset).toArray = ls at hl ⊢
  exact body p e s m _ below meth c (va_A [(h0, .inr (ci, fs))] s.heap.size) ls ⟨B.exec, B.bytes, B.returns, hml, findClass_of_methodNamed B.named, fun w hw => hts w (List.mem_cons_of_mem _ hw), B.notSynchronized⟩ hin hK hN hP (va_D1 (Or.inl ⟨0, _, rfl⟩)) (fun q h => Or.inr h) va_S.rf hl
section CiRows
variable {p : Program} {l : Launch} {e : Env} {R : Room} {s : State} {m : MethodId} {args : Array Value} {below : List Frame} {meth : Method} {c : Code} {H : Heap} {locs : List Loc} {cells slots : Nat} {Q : State → Prop}
variable {cc : ByteArray} {pc : Nat} {ls : Array Slot} {rest st0 : List Value} {A : Nat → Prop} {H0 : Heap} {D : va_G} {cy : Nat → ClassId} {own : String} {nL : Nat} {ret : Option FieldType}
theorem ci_ret {α : Type} {w1 : α → va_W} (a : α) (hM : MC p s m args meth c own cc nL none) (hP : va_P D classes (w1 a) H) (hD : va_D A (w1 a)) (hS : va_S A s.heap H locs) (hdg : decode cc pc = .ok (.return_, 1)) :
    W p l e R s m args below meth c H locs cells slots (MQ below (ciQ D w1 A) args s cells slots A) (F0 m pc ls []) := by
  obtain ⟨hx, hb, hr, -, -, -, hlk⟩ := hM
  exact W.vret hx hb hr (fun t ht _ => ⟨⟨a, rfl, trivial, by rw [ht]; exact hP, hD⟩, hS.F ht⟩) hS.2.2 hdg hlk
theorem ci_obj {a : Nat} (hM : MC p s m args meth c own cc nL none) (hl : ls.size = nL) {index : Nat} (hlink : Cond.methodLink own index objectInit ∈ lw_g) (hdg : decode cc pc = .ok (.invokespecial index, 3)) (h1 : 1 ≤ R.frames) (h2 : 12 ≤ R.locals)
    (kk : W p l e R s m args below meth c H locs cells slots Q (F0 m (pc + 3) ls [])) : W p l e R s m args below meth c H locs cells slots Q (F0 m pc ls [.ref a]) := by
  obtain ⟨hx, hb, -, hml, hown, hts, -⟩ := hM
  exact W.objInit hx hb hown (hts _ hlink) (hts _ wim_obj) (hts _ wcd_obj) rfl (by rw [hml]; exact hl) rfl hdg (by exact h1) (by exact h2) kk
theorem ci_newi {ws : va_W} (hM : MC p s m args meth c own cc nL ret) (hK : va_K D classes (ctT cy) s) (hP : va_P D classes ws H) (hD : va_D A ws) (hS : va_S A H0 H locs) (hA : ∀ q, H0.size ≤ q → A q) {n : Int32} {N' : Nat} (hn : ¬ n < 0) (hN : n.toNatClampNeg = N') (hbytes : N' * componentBytes .int ≤ 536870912) (hcells : cells + 1 ≤ R.cells) (hslots : slots + N' ≤ R.slots) (hdg : decode cc pc = .ok (.newarray .int, 2))
    (kk : ∀ (q : Nat) (H1 : Heap), va_P D classes (ws ++ [(q, .inl (cy 0, N', .inl (fun _ => 0)))]) H1 → va_D A (ws ++ [(q, .inl (cy 0, N', .inl (fun _ => 0)))]) → va_S A H0 H1 locs → W p l e R s m args below meth c H1 locs (cells + 1) (slots + N') Q (F0 m (pc + 2) ls (.ref q :: rest))) : W p l e R s m args below meth c H locs cells slots Q (F0 m pc ls (.int n :: rest)) := by
  obtain ⟨hx, hb, -, hml, hown, hts, -⟩ := hM
  refine va_newa (atype := .int) (ty := .int) (a0 := (N', .inl (fun _ => 0))) hx hb (hts _ wac_int) rfl hK hP hD hS hA (fun _ => rfl) hn hN hbytes hcells hslots hdg (fun q cA H1 hK1 hP1 hD1 hS1 => ?_)
  have e1 : s.vm.findClass ("[" ++ FieldType.int.toString) = some cA := (hK1.2 3 _ rfl).2
  have e2 : s.vm.findClass ("[" ++ FieldType.int.toString) = some (cy 0) := (hK.2 0 _ rfl).2
  have e3 : cA = cy 0 := Option.some.inj (e1.symm.trans e2)
  subst e3
  exact kk q H1 hP1 hD1 hS1
theorem ci_newz {ws : va_W} (hM : MC p s m args meth c own cc nL ret) (hK : va_K D classes (ctT cy) s) (hP : va_P D classes ws H) (hD : va_D A ws) (hS : va_S A H0 H locs) (hA : ∀ q, H0.size ≤ q → A q) {n : Int32} {N' : Nat} (hn : ¬ n < 0) (hN : n.toNatClampNeg = N') (hbytes : N' * componentBytes .boolean ≤ 536870912) (hcells : cells + 1 ≤ R.cells) (hslots : slots + N' ≤ R.slots) (hdg : decode cc pc = .ok (.newarray .boolean, 2))
    (kk : ∀ (q : Nat) (H1 : Heap), va_P D classes (ws ++ [(q, .inl (cy 1, N', .inl (fun _ => 0)))]) H1 → va_D A (ws ++ [(q, .inl (cy 1, N', .inl (fun _ => 0)))]) → va_S A H0 H1 locs → W p l e R s m args below meth c H1 locs (cells + 1) (slots + N') Q (F0 m (pc + 2) ls (.ref q :: rest))) : W p l e R s m args below meth c H locs cells slots Q (F0 m pc ls (.int n :: rest)) := by
  obtain ⟨hx, hb, -, hml, hown, hts, -⟩ := hM
  refine va_newa (atype := .boolean) (ty := .boolean) (a0 := (N', .inl (fun _ => 0))) hx hb (hts _ wac_boolean) rfl hK hP hD hS hA (fun _ => rfl) hn hN hbytes hcells hslots hdg (fun q cA H1 hK1 hP1 hD1 hS1 => ?_)
  have e1 : s.vm.findClass ("[" ++ FieldType.boolean.toString) = some cA := (hK1.2 3 _ rfl).2
  have e2 : s.vm.findClass ("[" ++ FieldType.boolean.toString) = some (cy 1) := (hK.2 1 _ rfl).2
  have e3 : cA = cy 1 := Option.some.inj (e1.symm.trans e2)
  subst e3
  exact kk q H1 hP1 hD1 hS1
theorem ci_newq {ws : va_W} (hM : MC p s m args meth c own cc nL ret) (hK : va_K D classes (ctT cy) s) (hP : va_P D classes ws H) (hD : va_D A ws) (hS : va_S A H0 H locs) (hA : ∀ q, H0.size ≤ q → A q) {index : Nat} (hclink : Cond.classLink own index "FarthestFirst$Village" ∈ lw_g) (hover : va_AO "FarthestFirst$Village" s) {n : Int32} {N' : Nat} (hn : ¬ n < 0) (hN : n.toNatClampNeg = N') (hbytes : N' * 4 ≤ 536870912) (hcells : cells + 1 ≤ R.cells) (hslots : slots + N' ≤ R.slots) (hdg : decode cc pc = .ok (.anewarray index, 3))
    (kk : ∀ (q : Nat) (H1 : Heap), va_P D classes (ws ++ [(q, .inl (cy 2, N', .inr (.inr (.inr (.inr (fun _ => none))))))]) H1 → va_D A (ws ++ [(q, .inl (cy 2, N', .inr (.inr (.inr (.inr (fun _ => none))))))]) → va_S A H0 H1 locs → W p l e R s m args below meth c H1 locs (cells + 1) (slots + N') Q (F0 m (pc + 3) ls (.ref q :: rest))) : W p l e R s m args below meth c H locs cells slots Q (F0 m pc ls (.int n :: rest)) := by
  obtain ⟨hx, hb, -, hml, hown, hts, -⟩ := hM
  refine va_newq (C := "FarthestFirst$Village") hx hb hown (hts _ hclink) hover hK hP hD hS hA hn hN hbytes hcells hslots hdg (fun q cA H1 hK1 hP1 hD1 hS1 => ?_)
  obtain ⟨-, -, -, -, -, e1⟩ := (hK1.2 3 _ rfl).2
  obtain ⟨-, -, -, -, -, e2⟩ := (hK.2 2 _ rfl).2
  have e3 : cA = cy 2 := Option.some.inj (e1.symm.trans e2)
  subst e3
  exact kk q H1 hP1 hD1 hS1
theorem ci_putF {ws : va_W} {C : String} {T : u_T} {N ci index : Nat} {a : Nat} (hM : MC p s m args meth c own cc nL ret) (hin2 : meth.name = "<init>") (hK : va_K D classes (ctT cy) s) (hP : va_P D classes ws H) (hD : va_D A ws) (hS : va_S A H0 H locs) (hin : ∀ w ∈ u_ws C T N, w ∈ lw_g) (ty0 : Nat → FieldType) (hty : ∀ k, k < N → parseFieldDescriptor (T k).2.2.1 = some (ty0 k)) (hnm : ∀ a, a < N → ∀ b, b < N → a ≠ b → (T a).2.1 ≠ (T b).2.1) (q0 : Nat) {fs : List Value} (he : ws[q0]? = some (a, .inr (ci, fs))) (hc : classes[ci]? = some (C, T, N)) (k : Nat) (hk : k < N) (hlink : Cond.fieldLink own index (T k).1 (T k).2.1 (T k).2.2.1 ∈ lw_g) (hfin : (T k).2.2.2 = true) (hdecl : (T k).1 = own) {v : Value} (hn : narrow (ty0 k) v = v) (hfit : fits (ty0 k) v = true) (hl : k < fs.length) (hdg : decode cc pc = .ok (.putfield index, 3))
    (kk : ∀ (H1 : Heap) (locs1 : List Loc), va_P D classes (ws.set q0 (a, .inr (ci, fs.set k v))) H1 → va_D A (ws.set q0 (a, .inr (ci, fs.set k v))) → va_S A H0 H1 locs1 → W p l e R s m args below meth c H1 locs1 cells slots Q (F0 m (pc + 3) ls rest)) : W p l e R s m args below meth c H locs cells slots Q (F0 m pc ls (v :: .ref a :: rest)) := by
  obtain ⟨hx, hb, -, hml, hown, hts, -⟩ := hM
  exact va_putF (ty := ty0 k) hx hb hts hin ty0 hty hnm hown hK hP hD hS q0 he hc k hk (hts _ hlink) (fun _ h => h) hfin hin2 hdecl (hty k hk) hn hfit hl hdg kk
theorem ci_new {ws : va_W} {C : String} {T : u_T} {N ci index : Nat} (hM : MC p s m args meth c own cc nL ret) (hK : va_K D classes (ctT cy) s) (hP : va_P D classes ws H) (hD : va_D A ws) (hS : va_S A H0 H locs) (hA : ∀ q, H0.size ≤ q → A q) (hin : ∀ w ∈ u_ws C T N, w ∈ lw_g) (ty0 : Nat → FieldType) (hty : ∀ k, k < N → parseFieldDescriptor (T k).2.2.1 = some (ty0 k)) (hcl : Cond.classLink own index C ∈ lw_g) (hinst : Cond.instantiable C N ∈ lw_g) (hini : Cond.initialized C ∈ lw_g) (hc : classes[ci]? = some (C, T, N)) {fs : List Value} (hfs : ∀ j, j < N → defaultValue (ty0 j) = vp_V fs j) (hcells : cells + 1 ≤ R.cells) (hslots : slots + N ≤ R.slots) (hdg : decode cc pc = .ok (.new index, 3))
    (kk : ∀ (q : Nat) (H1 : Heap), va_P D classes (ws ++ [(q, .inr (ci, fs))]) H1 → va_D A (ws ++ [(q, .inr (ci, fs))]) → va_S A H0 H1 locs → W p l e R s m args below meth c H1 locs (cells + 1) (slots + N) Q (F0 m (pc + 3) ls (.ref q :: rest))) : W p l e R s m args below meth c H locs cells slots Q (F0 m pc ls rest) := by
  obtain ⟨hx, hb, -, hml, hown, hts, -⟩ := hM
  exact va_new (ci := ci) (C := C) (T := T) (N := N) hx hb hts hin ty0 hty hown (hts _ hcl) (hts _ hinst) (hts _ hini) hK hP hD hS hA hc hfs hcells hslots hdg kk
/-- what the tables say of a constructor -/
def KI (y : MethodName) (bytes : ByteArray) (maxL : Nat) : Prop :=
  Cond.code y bytes maxL none ∈ lw_g ∧ Cond.instanceMethod y ∈ lw_g ∧ Cond.initialized y.cls ∈ lw_g ∧ y.cls ≠ "java/lang/invoke/MethodHandle" ∧ y.cls ≠ "java/lang/invoke/VarHandle" ∧ (parseMethodDescriptor y.desc).map (fun d => d.parameters.length) = some 0 ∧ y.name = "<init>"
variable {y : MethodName} {bytes : ByteArray} {maxL index : Nat} {rm : Room} {b : Nat} {mc ms : Nat}
theorem ci_blind {h0 ci : Nat} {fs : List Value} {sz : Nat} {N : State → Prop} (hN : ∀ (a : Array Value) (U : State) g mk, N U → N (U.calling g mk a)) : FrameBlind (va_Pc [.ref h0] (ciB D cy h0 ci fs sz N)) := fun a U g mk q => by
  obtain ⟨q0, q1, qP, qK, qN⟩ := q
  exact ⟨q0, q1, qP, va_K.moved (u := U) (U := U.calling g mk a) (Vm.Alike.refl U.vm) qK, hN a U g mk qN⟩
theorem ci_runI {α : Type} {w1 : α → va_W} {ci : Nat} {fs : List Value} {N : State → Prop} (hN : ∀ (a : Array Value) (U : State) g mk, N U → N (U.calling g mk a)) (hN2 : ∀ U : State, s.WarmedH U.vm → N U) (hM : MC p s m args meth c own cc nL ret) (hK : va_K D classes (ctT cy) s) (hPc : va_P D classes [(b, .inr (ci, fs))] H) (hc : CI l D cy y bytes maxL rm b ci fs H.size N w1 mc ms) (k : KI y bytes maxL) (hlink : Cond.methodLink own index y ∈ lw_g)
    (hsz : ls.size = nL) (hst : st0 = .ref b :: rest) (hrm : rm.cells = mc ∧ rm.slots = ms ∧ rm.frames + 1 ≤ R.frames ∧ 8 + (maxL + 11) + rm.locals ≤ R.locals) (hW : (rest.map fun v => v.category).sum ≤ 8) (hf : cells + mc ≤ R.cells ∧ slots + ms ≤ R.slots) (hdg : decode cc pc = .ok (.invokespecial index, 3)) :
    va_Run p l e R s m args below meth c H locs cells slots mc ms (F0 m pc ls st0) rest (ciQ D w1 (va_A [(b, .inr (ci, fs))] H.size) #[Value.ref b]) (va_A [(b, .inr (ci, fs))] H.size) := by
  obtain ⟨hx, hb, -, hml, hown, hts, -⟩ := hM
  obtain ⟨k1, k2, k4, k5, k6, k7, k8⟩ := k
  obtain ⟨r1, r2, r3, r4⟩ := hrm
  exact va_runI (As := []) (rest := rest) (Ts := lw_g) (n := 0) ⟨hx, hb, hml, hown, hts⟩ hc ⟨callB_of 0 hts (ctW_good k1) rfl r1 r2 (hts _ k4) (hts _ hlink) ⟨k5, k6, k7⟩ ⟨r3, r4⟩, k8, hts _ k2⟩ ⟨ci_blind hN, fun U hU hW => ⟨rfl, by rw [hU], by rw [hU]; exact hPc, va_K.moved hW.alike hK, hN2 U hW⟩⟩ rfl rfl hsz hst (lv_room hW) hdg hf
theorem ci_runIN {α : Type} {w1 : α → va_W} {ci : Nat} {fs : List Value} {N : State → Prop} {host : String} (hN : ∀ (a : Array Value) (U : State) g mk, N U → N (U.calling g mk a)) (hN2 : ∀ U : State, s.WarmedH U.vm → N U) (hM : MC p s m args meth c own cc nL ret) (hK : va_K D classes (ctT cy) s) (hPc : va_P D classes [(b, .inr (ci, fs))] H) (hc : CI l D cy y bytes maxL rm b ci fs H.size N w1 mc ms) (k : KI y bytes maxL) (hlink : va_Nw (.methodLinkNest own index y host) s)
    (hsz : ls.size = nL) (hst : st0 = .ref b :: rest) (hrm : rm.cells = mc ∧ rm.slots = ms ∧ rm.frames + 1 ≤ R.frames ∧ 8 + (maxL + 11) + rm.locals ≤ R.locals) (hW : (rest.map fun v => v.category).sum ≤ 8) (hf : cells + mc ≤ R.cells ∧ slots + ms ≤ R.slots) (hdg : decode cc pc = .ok (.invokespecial index, 3)) :
    va_Run p l e R s m args below meth c H locs cells slots mc ms (F0 m pc ls st0) rest (ciQ D w1 (va_A [(b, .inr (ci, fs))] H.size) #[Value.ref b]) (va_A [(b, .inr (ci, fs))] H.size) := by
  obtain ⟨hx, hb, -, hml, hown, hts, -⟩ := hM
  obtain ⟨k1, k2, k4, k5, k6, k7, k8⟩ := k
  obtain ⟨r1, r2, r3, r4⟩ := hrm
  exact va_runIN (As := []) (rest := rest) (Ts := lw_g) (n := 0) ⟨hx, hb, hml, hown, hts⟩ hc ⟨va_cnB 0 hts (ctW_good k1) rfl r1 r2 hlink (hts _ k4) ⟨k5, k6, k7⟩ ⟨r3, r4⟩, k8, hts _ k2⟩ ⟨ci_blind hN, fun U hU hW => ⟨rfl, by rw [hU], by rw [hU]; exact hPc, va_K.moved hW.alike hK, hN2 U hW⟩⟩ rfl rfl hsz hst (lv_room hW) hdg hf
theorem ci_go {α : Type} {ws wr : va_W} {w1 : α → va_W} {ci : Nat} {fs : List Value} {a0 : Array Value} (hr : va_Run p l e R s m args below meth c H locs cells slots mc ms (F0 m pc ls st0) rest (ciQ D w1 (va_A [(b, .inr (ci, fs))] H.size) a0) (va_A [(b, .inr (ci, fs))] H.size)) (hP : va_P D classes ws H) (hD : va_D A ws) (hS : va_S A H0 H locs) (hA : ∀ q, H0.size ≤ q → A q)
    (qi : Nat) (isR : List Nat) (he : ws[qi]? = some (b, .inr (ci, fs))) (hR : isR.map (fun i => ws[i]?) = wr.map some) (hn : va_nd isR = true) (hdis : ∀ i ∈ isR, i ∉ [qi])
    (kk : ∀ (a : α) (H1 : Heap) (locs1 : List Loc), va_P D classes (wr ++ w1 a) H1 → va_D A (wr ++ w1 a) → va_S A H0 H1 locs1 → W p l e R s m args below meth c H1 locs1 (cells + mc) (slots + ms) Q (F0 m (pc + 3) ls rest)) : W p l e R s m args below meth c H locs cells slots Q (F0 m pc ls st0) := by
  have hC : [qi].map (fun i => ws[i]?) = ([(b, .inr (ci, fs))] : va_W).map some := by
    show [ws[qi]?] = [some (b, .inr (ci, fs))]
    rw [he]
  have hFc := va_free (wc := [(b, .inr (ci, fs))]) hD hS hA [qi] hC
  refine va_callv hr hS (fun q _ h => hFc q h) hFc (fun u t H1 locs ht hvm hw hB hz1 hk1 hS1 => ?_)
  obtain ⟨hP1, hD1⟩ := hB
  rw [ht] at hP1
  obtain ⟨hP2, hD2⟩ := va_join (wr := wr) (w1 := w1 u) hP hD [qi] isR hC hR hn hdis hk1 hFc hP1 hD1
  exact kk u H1 locs hP2 hD2 hS1
end CiRows

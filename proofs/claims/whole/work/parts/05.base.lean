/-! the form of a contract: a method that makes no cell; its world before, its answer and its world behind it, both as functions -/
abbrev ctW (y : MethodName) (cc : ByteArray) (n : Nat) (ret : Option FieldType) : List Cond := Cond.code y cc n ret :: lw_g
theorem ctW_good {y : MethodName} {cc : ByteArray} {n : Nat} {ret : Option FieldType} (h : Cond.code y cc n ret ∈ lw_g) : GoodIn lw_g (ctW y cc n ret) := by
  intro w hw
  rcases List.mem_cons.mp hw with e | hw
  · rw [e]
    exact ⟨h, good_of_word (List.mem_filter.mp h).2⟩
  · exact ⟨hw, good_of_word (List.mem_filter.mp hw).2⟩
def ctT (cy : Nat → ClassId) : List (ClassId × FieldType) := [(cy 0, .int), (cy 1, .boolean), (cy 2, .object "FarthestFirst$Village")]
def ctA (w : va_W) : Nat → Prop := fun q => ∃ (k : Nat) (e : va_E), w[k]? = some (q, e)
def ctQ (D : va_G) (v1 : Option Value) (w1 : va_W) (A : Nat → Prop) : Array Value → State → Outcome → State → Prop := fun _ st oc t => oc = .returned v1 ∧ va_P D classes w1 t.heap ∧ va_F A st t
def ctB (D : va_G) (cy : Nat → ClassId) (w : va_W) (U : State) : Prop := va_P D classes w U.heap ∧ va_K D classes (ctT cy) U ∧ va_D (fun _ => True) w
def CT (l : Launch) (D : va_G) (cy : Nat → ClassId) (y : MethodName) (cc : ByteArray) (nL : Nat) (ret : Option FieldType) (rm : Room) (av : List Value) (w : va_W) (v1 : Option Value) (w1 : va_W) : Prop :=
  Met l y (ctW y cc nL ret) rm (va_Pc av (ctB D cy w)) (ctQ D v1 w1 (ctA w)) 0 0 (ctA w)
/-- what a method's body stands on -/
def MC (p : Program) (s : State) (m : MethodId) (args : Array Value) (meth : Method) (c : Code) (own : String) (cc : ByteArray) (nL : Nat) (ret : Option FieldType) : Prop :=
  p.tables.exec = Jvm.exec ∧ c.code = cc ∧ meth.sig.returnType = ret ∧ c.maxLocals = nL ∧ s.vm.findClass own = some m.cls ∧ (∀ w ∈ lw_g, w.before args s = true) ∧ meth.locks = false
theorem ctA_D {w : va_W} {A : Nat → Prop} (h : va_D A w) : va_D (ctA w) w := ⟨h.1, fun k q hk => ⟨k, q.2, hk⟩⟩
theorem ct_of {l : Launch} {D : va_G} {cy : Nat → ClassId} {y : MethodName} {cc : ByteArray} {nL : Nat} {ret : Option FieldType} {rm : Room} {av : List Value} {w : va_W} {v1 : Option Value} {w1 : va_W} (hy : plainName y.cls = true) (hn : (lg_sl av).length ≤ nL)
    (body : ∀ (p : Program) (e : Env) (s : State) (m : MethodId) (args : Array Value) (below : List Frame) (meth : Method) (c : Code) (A : Nat → Prop) (ls : Array Slot), MC p s m args meth c y.cls cc nL ret → va_K D classes (ctT cy) s → va_P D classes w s.heap → va_D A w → va_S A s.heap s.heap [] → lv_has ls nL (lv_args 0 av) →
      W p l e rm s m args below meth c s.heap [] 0 0 (MQ below (ctQ D v1 w1 A) args s 0 0 A) (F0 m 0 ls [])) : CT l D cy y cc nL ret rm av w v1 w1 := by
  refine Met.ofW (cc := cc) (maxL := nL) (ret := ret) hy rfl ?_
  intro p e s m args below meth c s₁ B hml hv
  obtain ⟨rfl, hP, hK, hD⟩ := hv
  have hts := atoms_spec (ws := ctW y cc nL ret) B.pre
  have hl := lv_entry av (n := nL) hn
  rw [lg_entry_eq]
  generalize (lg_sl av ++ List.replicate (nL - (lg_sl av).length) Slot.unset).toArray = ls at hl ⊢
  exact body p e s m _ below meth c (ctA w) ls ⟨B.exec, B.bytes, B.returns, hml, findClass_of_methodNamed B.named, fun w hw => hts w (List.mem_cons_of_mem _ hw), B.notSynchronized⟩ hK hP (ctA_D hD) va_S.rf hl
/-- named values in the functions -/
def lt_ {α β : Type} (e : α) (k : α → β) : β := k e
def lo_ {α : Type} (e : α) (k : α → Prop) : Prop := k e
theorem lt_n {α β : Type} {e t : α} {k : α → β} {r : β} (h : e = t) (hF : lt_ e k = r) : k t = r := by rw [← h]; exact hF
theorem lo_n {α : Type} {e t : α} {k : α → Prop} (h : e = t) (hF : lo_ e k) : k t := by rw [← h]; exact hF
theorem lt_t {α : Type} {c : Prop} [Decidable c] {x y r : α} (h : c) (e : (if c then x else y) = r) : x = r := by rw [if_pos h] at e; exact e
theorem lt_f {α : Type} {c : Prop} [Decidable c] {x y r : α} (h : ¬ c) (e : (if c then x else y) = r) : y = r := by rw [if_neg h] at e; exact e
theorem lo_t {c : Prop} [Decidable c] {x y : Prop} (h : c) (e : if c then x else y) : x := by rw [if_pos h] at e; exact e
theorem lo_f {c : Prop} [Decidable c] {x y : Prop} (h : ¬ c) (e : if c then x else y) : y := by rw [if_neg h] at e; exact e
/-- worlds with cells put at places -/
def ct_puts : List Nat → va_W → va_W → va_W
  | [], _, ws => ws
  | i :: is, w, ws => match w with
    | [] => ws
    | q :: w => ct_puts is w (ws.set i q)
def ct_put (ws : va_W) (is : List Nat) (w : va_W) : va_W := ct_puts is w ws
theorem ct_put_test (q : Nat × va_E) (x y z : Nat × va_E) : ct_put [x, y, z] [2, 0] [q, z] = [z, y, q] := rfl
theorem ct_put_at : ∀ (is : List Nat) (w ws : va_W) (k : Nat) (q : Nat × va_E), (ct_put ws is w)[k]? = some q → (∃ j : Nat, is[j]? = some k ∧ w[j]? = some q) ∨ (ws[k]? = some q ∧ ∀ j : Nat, is[j]? = some k → w.length ≤ j)
  | [], w, ws, k, q, h => Or.inr ⟨h, fun j hj => by simp at hj⟩
  | i :: is, [], ws, k, q, h => Or.inr ⟨h, fun j _ => Nat.zero_le j⟩
  | i :: is, q0 :: w, ws, k, q, h => by
    rcases ct_put_at is w (ws.set i q0) k q h with ⟨j, h1, h2⟩ | ⟨h1, h2⟩
    · exact Or.inl ⟨j + 1, by simpa using h1, by simpa using h2⟩
    · by_cases hik : i = k
      · subst hik
        rw [List.getElem?_set] at h1
        simp only [if_true] at h1
        split at h1
        · exact Or.inl ⟨0, rfl, h1⟩
        · cases h1
      · rw [List.getElem?_set_ne hik] at h1
        refine Or.inr ⟨h1, fun j hj => ?_⟩
        cases j with
        | zero => exact absurd (Option.some.inj hj) hik
        | succ j => exact Nat.succ_le_succ (h2 j (by simpa using hj))
theorem va_D_fst {A : Nat → Prop} {w w' : va_W} (h : w'.map Prod.fst = w.map Prod.fst) (hD : va_D A w) : va_D A w' := by
  have key : ∀ (k : Nat) (q : Nat × va_E), w'[k]? = some q → ∃ q0, w[k]? = some q0 ∧ q0.1 = q.1 := by
    intro k q hk
    have h1 : (w'.map Prod.fst)[k]? = some q.1 := by rw [List.getElem?_map, hk]; rfl
    rw [h, List.getElem?_map] at h1
    cases hq : w[k]? with
    | none => rw [hq] at h1; cases h1
    | some q0 => rw [hq] at h1; exact ⟨q0, rfl, Option.some.inj h1⟩
  refine ⟨fun i j x y hi hj hxy => ?_, fun k q hk => ?_⟩
  · obtain ⟨x0, h1, h2⟩ := key i x hi
    obtain ⟨y0, h3, h4⟩ := key j y hj
    exact hD.1 i j x0 y0 h1 h3 (h2.trans (hxy.trans h4.symm))
  · obtain ⟨q0, h1, h2⟩ := key k q hk
    rw [← h2]
    exact hD.2 k q0 h1
section CtRows
variable {p : Program} {l : Launch} {e : Env} {R : Room} {s : State} {m : MethodId} {args : Array Value} {below : List Frame} {meth : Method} {c : Code} {H : Heap} {locs : List Loc} {cells slots : Nat} {Q : State → Prop}
variable {cc : ByteArray} {pc : Nat} {ls : Array Slot} {rest st0 : List Value} {A : Nat → Prop} {H0 : Heap} {D : va_G} {cy : Nat → ClassId} {own : String} {nL : Nat} {ret : Option FieldType}
theorem ct_iret {w1 : va_W} {r : Int32} (hM : MC p s m args meth c own cc nL (some .int)) (hP : va_P D classes w1 H) (hS : va_S A s.heap H locs) (hdg : decode cc pc = .ok (.ireturn, 1)) :
    W p l e R s m args below meth c H locs cells slots (MQ below (ctQ D (some (.int r)) w1 A) args s cells slots A) (F0 m pc ls [.int r]) := by
  obtain ⟨hx, hb, hr, -, -, -, hlk⟩ := hM
  exact W.iret hx hb hr (fun t ht _ => ⟨rfl, by rw [ht]; exact hP, hS.F ht⟩) hS.2.2 hdg hlk
theorem ct_zret {w1 : va_W} {r : Int32} (hM : MC p s m args meth c own cc nL (some .boolean)) (hP : va_P D classes w1 H) (hS : va_S A s.heap H locs) (hn : narrow .boolean (.int r) = .int r) (hdg : decode cc pc = .ok (.ireturn, 1)) :
    W p l e R s m args below meth c H locs cells slots (MQ below (ctQ D (some (.int r)) w1 A) args s cells slots A) (F0 m pc ls [.int r]) := by
  obtain ⟨hx, hb, hr, -, -, -, hlk⟩ := hM
  exact W.zret hx hb hr hn (fun t ht _ => ⟨rfl, by rw [ht]; exact hP, hS.F ht⟩) hS.2.2 hdg hlk
theorem ct_vret {w1 : va_W} (hM : MC p s m args meth c own cc nL none) (hP : va_P D classes w1 H) (hS : va_S A s.heap H locs) (hdg : decode cc pc = .ok (.return_, 1)) :
    W p l e R s m args below meth c H locs cells slots (MQ below (ctQ D none w1 A) args s cells slots A) (F0 m pc ls []) := by
  obtain ⟨hx, hb, hr, -, -, -, hlk⟩ := hM
  exact W.vret hx hb hr (fun t ht _ => ⟨rfl, by rw [ht]; exact hP, hS.F ht⟩) hS.2.2 hdg hlk
theorem ct_blind {av : List Value} {w : va_W} : FrameBlind (va_Pc av (ctB D cy w)) := fun a U g mk q => by
  obtain ⟨q0, qP, qK, qD⟩ := q
  exact ⟨q0, qP, va_K.moved (u := U) (U := U.calling g mk a) (Vm.Alike.refl U.vm) qK, qD⟩
/-- behind a call, the callee's cells at their places -/
theorem ct_go {ws wc w1 ws' : va_W} {v1 : Option Value} {a : Array Value} (hr : va_Run p l e R s m args below meth c H locs cells slots 0 0 (F0 m pc ls st0) rest (ctQ D v1 w1 (ctA wc) a) (ctA wc)) (hP : va_P D classes ws H) (hD : va_D A ws) (hS : va_S A H0 H locs)
    (isC : List Nat) (hC : isC.map (fun i => ws[i]?) = wc.map some) (hlen : w1.length = isC.length) (hs : ct_put ws isC w1 = ws') (hf : ws'.map Prod.fst = ws.map Prod.fst)
    (kk : ∀ (H1 : Heap) (locs1 : List Loc), va_P D classes ws' H1 → va_D A ws' → va_S A H0 H1 locs1 → W p l e R s m args below meth c H1 locs1 cells slots Q (F0 m (pc + 3) ls (v1.toList ++ rest))) : W p l e R s m args below meth c H locs cells slots Q (F0 m pc ls st0) := by
  have at' : ∀ (k : Nat) (q : Nat × va_E), wc[k]? = some q → ∃ i, isC[k]? = some i ∧ ws[i]? = some q := by
    intro k q hq
    have h1 : (isC.map (fun i => ws[i]?))[k]? = some (some q) := by rw [hC, List.getElem?_map, hq]; rfl
    rw [List.getElem?_map] at h1
    cases hi : isC[k]? with
    | none => rw [hi] at h1; cases h1
    | some i => rw [hi] at h1; exact ⟨i, rfl, Option.some.inj h1⟩
  have hAc : ∀ q, ctA wc q → A q := by
    rintro q ⟨k, e, h⟩
    obtain ⟨i, -, h2⟩ := at' k (q, e) h
    exact hD.2 i (q, e) h2
  intro T hT X
  obtain ⟨v, st₀, t, T', L, h0, X', hL, e1, e2, ⟨hv, hp1, hz, hk⟩, st⟩ := hr T hT X
  cases hv
  rw [h0] at hz hk
  have hP' : va_P D classes ws' T'.heap := by
    intro k q hq
    rw [← hs] at hq
    rcases ct_put_at isC w1 ws k q hq with ⟨j, h1, h2⟩ | ⟨h1, h2⟩
    · rw [e1]
      exact hp1 j q h2
    · have hkC : k ∉ isC := by
        intro hm
        obtain ⟨j, hj⟩ := List.getElem?_of_mem hm
        have h3 := h2 j hj
        have h4 := (List.getElem?_eq_some_iff.mp hj).1
        omega
      refine (hP k q h1).kept ?_
      rw [e1]
      refine hk q.1 (hP k q h1).lt ?_
      rintro ⟨k2, e3, h3⟩
      obtain ⟨i, h4, h5⟩ := at' k2 (q.1, e3) h3
      have hki := hD.1 k i q (q.1, e3) h1 h5 rfl
      subst hki
      exact hkC (List.mem_of_getElem? h4)
  obtain ⟨t2, a1, b1⟩ := kk T'.heap (locs ++ L) hP' (va_D_fst hf hD)
    ⟨Nat.le_trans hS.1 (by rw [e1]; exact hz), fun q h1 h2 => by rw [e1, hk q (Nat.lt_of_lt_of_le h1 hS.1) (fun z => h2 (hAc q z))]; exact hS.2.1 q h1 h2, fun q hq => by
      rcases List.mem_append.mp hq with h | h
      · exact hS.2.2 q h
      · exact hAc _ (hL q h)⟩ T' rfl X'
  exact ⟨t2, st t2 a1, b1⟩
/-- behind a call whose world is the caller's -/
theorem ct_goF {ws w1 : va_W} {v1 : Option Value} {a : Array Value} (hr : va_Run p l e R s m args below meth c H locs cells slots 0 0 (F0 m pc ls st0) rest (ctQ D v1 w1 (ctA ws) a) (ctA ws)) (hD : va_D A ws) (hS : va_S A H0 H locs) (hf : w1.map Prod.fst = ws.map Prod.fst)
    (kk : ∀ (H1 : Heap) (locs1 : List Loc), va_P D classes w1 H1 → va_D A w1 → va_S A H0 H1 locs1 → W p l e R s m args below meth c H1 locs1 cells slots Q (F0 m (pc + 3) ls (v1.toList ++ rest))) : W p l e R s m args below meth c H locs cells slots Q (F0 m pc ls st0) := by
  have hAc : ∀ q, ctA ws q → A q := by
    rintro q ⟨k, e, h⟩
    exact hD.2 k (q, e) h
  intro T hT X
  obtain ⟨v, st₀, t, T', L, h0, X', hL, e1, e2, ⟨hv, hp1, hz, hk⟩, st⟩ := hr T hT X
  cases hv
  rw [h0] at hz hk
  obtain ⟨t2, a1, b1⟩ := kk T'.heap (locs ++ L) (by rw [e1]; exact hp1) (va_D_fst hf hD)
    ⟨Nat.le_trans hS.1 (by rw [e1]; exact hz), fun q h1 h2 => by rw [e1, hk q (Nat.lt_of_lt_of_le h1 hS.1) (fun z => h2 (hAc q z))]; exact hS.2.1 q h1 h2, fun q hq => by
      rcases List.mem_append.mp hq with h | h
      · exact hS.2.2 q h
      · exact hAc _ (hL q h)⟩ T' rfl X'
  exact ⟨t2, st t2 a1, b1⟩
/-- what the tables say of a callee -/
def KV (y : MethodName) (bytes : ByteArray) (maxL : Nat) (ret : Option FieldType) (n : Nat) : Prop :=
  Cond.code y bytes maxL ret ∈ lw_g ∧ Cond.instanceMethod y ∈ lw_g ∧ Cond.selects y.cls y y ∈ lw_g ∧ Cond.initialized y.cls ∈ lw_g ∧ y.cls ≠ "java/lang/invoke/MethodHandle" ∧ y.cls ≠ "java/lang/invoke/VarHandle" ∧ (parseMethodDescriptor y.desc).map (fun d => d.parameters.length) = some n
def KS (y : MethodName) (bytes : ByteArray) (maxL : Nat) (ret : Option FieldType) (n : Nat) : Prop :=
  Cond.code y bytes maxL ret ∈ lw_g ∧ Cond.static y ∈ lw_g ∧ Cond.initialized y.cls ∈ lw_g ∧ y.cls ≠ "java/lang/invoke/MethodHandle" ∧ y.cls ≠ "java/lang/invoke/VarHandle" ∧ (parseMethodDescriptor y.desc).map (fun d => d.parameters.length) = some n
variable {y : MethodName} {bytes : ByteArray} {maxL n index : Nat} {retY : Option FieldType} {rm : Room} {b : Addr} {As : List Value} {v1 : Option Value}
theorem ct_runV {ws wc w1 : va_W} (hM : MC p s m args meth c own cc nL ret) (hK : va_K D classes (ctT cy) s) (hP : va_P D classes ws H) (hc : CT l D cy y bytes maxL retY rm (.ref b :: As) wc v1 w1) (k : KV y bytes maxL retY n) (hlink : Cond.methodLink own index y ∈ lw_g) (hPc : va_P D classes wc H) (hDc : va_D (fun _ => True) wc)
    (q0 : Nat) {ci : Nat} {q : vw_C} {fs : List Value} (he : ws[q0]? = some (b, .inr (ci, fs))) (hq : classes[ci]? = some q) (hcls : q.1 = y.cls) (hn : As.length = n) (hsz : ls.size = nL) (hst : st0 = As.reverse ++ .ref b :: rest) (hrm : rm.cells = 0 ∧ rm.slots = 0 ∧ rm.frames + 1 ≤ R.frames ∧ 8 + (maxL + 11) + rm.locals ≤ R.locals)
    (hW : (rest.map fun v => v.category).sum ≤ 8) (hf : cells ≤ R.cells ∧ slots ≤ R.slots) (hdg : decode cc pc = .ok (.invokevirtual index, 3)) :
    va_Run p l e R s m args below meth c H locs cells slots 0 0 (F0 m pc ls st0) rest (ctQ D v1 w1 (ctA wc) (Value.ref b :: As).toArray) (ctA wc) := by
  obtain ⟨hx, hb, -, hml, hown, hts, -⟩ := hM
  obtain ⟨k1, k2, k3, k4, k5, k6, k7⟩ := k
  obtain ⟨r1, r2, r3, r4⟩ := hrm
  refine va_runV (C := y.cls) (As := As) (rest := rest) (Ts := lw_g) (n := n) ⟨hx, hb, hml, hown, hts⟩ hc ⟨callB_of n hts (ctW_good k1) rfl r1 r2 (hts _ k4) (hts _ hlink) ⟨k5, k6, k7⟩ ⟨r3, r4⟩, hts _ k2, hts _ k3⟩ ⟨ct_blind, ?_, fun U hU hW => ⟨rfl, by rw [hU]; exact hPc, va_K.moved hW.alike hK, hDc⟩⟩ rfl hn hsz hst (lv_room hW) hdg hf
  have h := va_recv hK hP hq he
  rw [hcls] at h
  exact h
theorem ct_runS {wc w1 : va_W} (hM : MC p s m args meth c own cc nL ret) (hK : va_K D classes (ctT cy) s) (hc : CT l D cy y bytes maxL retY rm As wc v1 w1) (k : KS y bytes maxL retY n) (hlink : Cond.methodLink own index y ∈ lw_g) (hPc : va_P D classes wc H) (hDc : va_D (fun _ => True) wc)
    (hn : As.length = n) (hsz : ls.size = nL) (hst : st0 = As.reverse ++ rest) (hrm : rm.cells = 0 ∧ rm.slots = 0 ∧ rm.frames + 1 ≤ R.frames ∧ 8 + (maxL + 11) + rm.locals ≤ R.locals)
    (hW : (rest.map fun v => v.category).sum ≤ 8) (hf : cells ≤ R.cells ∧ slots ≤ R.slots) (hdg : decode cc pc = .ok (.invokestatic index, 3)) :
    va_Run p l e R s m args below meth c H locs cells slots 0 0 (F0 m pc ls st0) rest (ctQ D v1 w1 (ctA wc) As.toArray) (ctA wc) := by
  obtain ⟨hx, hb, -, hml, hown, hts, -⟩ := hM
  obtain ⟨k1, k2, k4, k5, k6, k7⟩ := k
  obtain ⟨r1, r2, r3, r4⟩ := hrm
  exact va_runS (As := As) (rest := rest) (Ts := lw_g) (n := n) ⟨hx, hb, hml, hown, hts⟩ hc ⟨callB_of n hts (ctW_good k1) rfl r1 r2 (hts _ k4) (hts _ hlink) ⟨k5, k6, k7⟩ ⟨r3, r4⟩, hts _ k2⟩ ⟨ct_blind, fun U hU hW => ⟨rfl, by rw [hU]; exact hPc, va_K.moved hW.alike hK, hDc⟩⟩ rfl hn hsz hst (lv_room hW) hdg hf
/-- a call of a method of an object: its world is a part of the caller's -/
theorem ct_callV {ws wc w1 ws' : va_W} (hM : MC p s m args meth c own cc nL ret) (hK : va_K D classes (ctT cy) s) (hP : va_P D classes ws H) (hD : va_D A ws) (hS : va_S A H0 H locs) (hc : CT l D cy y bytes maxL retY rm (.ref b :: As) wc v1 w1) (k : KV y bytes maxL retY n) (hlink : Cond.methodLink own index y ∈ lw_g)
    (isC : List Nat) (hC : isC.map (fun i => ws[i]?) = wc.map some) (hnd : va_nd isC = true) (hlen : w1.length = isC.length) (hs : ct_put ws isC w1 = ws') (hff : ws'.map Prod.fst = ws.map Prod.fst)
    (q0 : Nat) {ci : Nat} {q : vw_C} {fs : List Value} (he : ws[q0]? = some (b, .inr (ci, fs))) (hq : classes[ci]? = some q) (hcls : q.1 = y.cls) (hn : As.length = n) (hl : ls.size = nL) (hst : st0 = As.reverse ++ .ref b :: rest) (hrm : rm.cells = 0 ∧ rm.slots = 0 ∧ rm.frames + 1 ≤ R.frames ∧ 8 + (maxL + 11) + rm.locals ≤ R.locals)
    (hW : (rest.map fun v => v.category).sum ≤ 8) (hf : cells ≤ R.cells ∧ slots ≤ R.slots) (hdg : decode cc pc = .ok (.invokevirtual index, 3))
    (kk : ∀ (H1 : Heap) (locs1 : List Loc), va_P D classes ws' H1 → va_D A ws' → va_S A H0 H1 locs1 → W p l e R s m args below meth c H1 locs1 cells slots Q (F0 m (pc + 3) ls (v1.toList ++ rest))) : W p l e R s m args below meth c H locs cells slots Q (F0 m pc ls st0) := by
  have hPc : va_P D classes wc H := by
    intro j q' hj
    have h1 : (isC.map (fun i => ws[i]?))[j]? = some (some q') := by rw [hC, List.getElem?_map, hj]; rfl
    rw [List.getElem?_map] at h1
    cases hi : isC[j]? with
    | none => rw [hi] at h1; cases h1
    | some i => rw [hi] at h1; exact hP i q' (Option.some.inj h1)
  exact ct_go (ct_runV hM hK hP hc k hlink hPc ((hD.sub isC hnd hC).weaken (fun _ _ _ _ => trivial)) q0 he hq hcls hn hl hst hrm hW hf hdg) hP hD hS isC hC hlen hs hff kk
/-- a call of a method of an object, whose world is the caller's -/
theorem ct_callF {ws w1 : va_W} (hM : MC p s m args meth c own cc nL ret) (hK : va_K D classes (ctT cy) s) (hP : va_P D classes ws H) (hD : va_D A ws) (hS : va_S A H0 H locs) (hc : CT l D cy y bytes maxL retY rm (.ref b :: As) ws v1 w1) (k : KV y bytes maxL retY n) (hlink : Cond.methodLink own index y ∈ lw_g)
    (hff : w1.map Prod.fst = ws.map Prod.fst)
    (q0 : Nat) {ci : Nat} {q : vw_C} {fs : List Value} (he : ws[q0]? = some (b, .inr (ci, fs))) (hq : classes[ci]? = some q) (hcls : q.1 = y.cls) (hn : As.length = n) (hl : ls.size = nL) (hst : st0 = As.reverse ++ .ref b :: rest) (hrm : rm.cells = 0 ∧ rm.slots = 0 ∧ rm.frames + 1 ≤ R.frames ∧ 8 + (maxL + 11) + rm.locals ≤ R.locals)
    (hW : (rest.map fun v => v.category).sum ≤ 8) (hf : cells ≤ R.cells ∧ slots ≤ R.slots) (hdg : decode cc pc = .ok (.invokevirtual index, 3))
    (kk : ∀ (H1 : Heap) (locs1 : List Loc), va_P D classes w1 H1 → va_D A w1 → va_S A H0 H1 locs1 → W p l e R s m args below meth c H1 locs1 cells slots Q (F0 m (pc + 3) ls (v1.toList ++ rest))) : W p l e R s m args below meth c H locs cells slots Q (F0 m pc ls st0) :=
  ct_goF (ct_runV hM hK hP hc k hlink hP (hD.weaken (fun _ _ _ _ => trivial)) q0 he hq hcls hn hl hst hrm hW hf hdg) hD hS hff kk
/-- a call of a static method without a world -/
theorem ct_callS {ws : va_W} (hM : MC p s m args meth c own cc nL ret) (hK : va_K D classes (ctT cy) s) (hP : va_P D classes ws H) (hD : va_D A ws) (hS : va_S A H0 H locs) (hc : CT l D cy y bytes maxL retY rm As [] v1 []) (k : KS y bytes maxL retY n) (hlink : Cond.methodLink own index y ∈ lw_g)
    (hn : As.length = n) (hl : ls.size = nL) (hst : st0 = As.reverse ++ rest) (hrm : rm.cells = 0 ∧ rm.slots = 0 ∧ rm.frames + 1 ≤ R.frames ∧ 8 + (maxL + 11) + rm.locals ≤ R.locals)
    (hW : (rest.map fun v => v.category).sum ≤ 8) (hf : cells ≤ R.cells ∧ slots ≤ R.slots) (hdg : decode cc pc = .ok (.invokestatic index, 3))
    (kk : ∀ (H1 : Heap) (locs1 : List Loc), va_P D classes ws H1 → va_D A ws → va_S A H0 H1 locs1 → W p l e R s m args below meth c H1 locs1 cells slots Q (F0 m (pc + 3) ls (v1.toList ++ rest))) : W p l e R s m args below meth c H locs cells slots Q (F0 m pc ls st0) :=
  ct_go (ct_runS hM hK hc k hlink (fun _ _ h => by simp at h) ⟨fun _ _ _ _ h => by simp at h, fun _ _ h => by simp at h⟩ hn hl hst hrm hW hf hdg) hP hD hS [] rfl rfl rfl rfl kk
theorem ct_max {x z : Int32} (hM : MC p s m args meth c own cc nL ret) (hl : ls.size = nL) (hlink : Cond.methodLink own index Lib.Math.max.name ∈ lw_g) (hR : 1 ≤ R.frames ∧ (rest.map fun v => v.category).sum + 13 ≤ R.locals) (hf : cells ≤ R.cells ∧ slots ≤ R.slots) (hdg : decode cc pc = .ok (.invokestatic index, 3))
    (kk : W p l e R s m args below meth c H locs cells slots Q (F0 m (pc + 3) ls (.int (if x < z then z else x) :: rest))) : W p l e R s m args below meth c H locs cells slots Q (F0 m pc ls (.int z :: .int x :: rest)) := by
  obtain ⟨hx, hb, -, hml, hown, hts, -⟩ := hM
  exact va_mmax hx hb (hml.trans hl.symm) hown (hts _ hlink) (hts _ wst_max) (hts _ win_J9) (hts _ wcd_max) hR.1 hR.2 hf.1 hf.2 hdg kk
theorem ct_min {x z : Int32} (hM : MC p s m args meth c own cc nL ret) (hl : ls.size = nL) (hlink : Cond.methodLink own index Lib.Math.min.name ∈ lw_g) (hR : 1 ≤ R.frames ∧ (rest.map fun v => v.category).sum + 13 ≤ R.locals) (hf : cells ≤ R.cells ∧ slots ≤ R.slots) (hdg : decode cc pc = .ok (.invokestatic index, 3))
    (kk : W p l e R s m args below meth c H locs cells slots Q (F0 m (pc + 3) ls (.int (if z < x then z else x) :: rest))) : W p l e R s m args below meth c H locs cells slots Q (F0 m pc ls (.int z :: .int x :: rest)) := by
  obtain ⟨hx, hb, -, hml, hown, hts, -⟩ := hM
  exact va_mmin hx hb (hml.trans hl.symm) hown (hts _ hlink) (hts _ wst_min) (hts _ win_J9) (hts _ wcd_min) hR.1 hR.2 hf.1 hf.2 hdg kk
/-- a field read, written -/
theorem ct_get {ws : va_W} {C : String} {T : u_T} {N ci : Nat} {a : Nat} (hM : MC p s m args meth c own cc nL ret) (hK : va_K D classes (ctT cy) s) (hP : va_P D classes ws H) (hin : ∀ w ∈ u_ws C T N, w ∈ lw_g) (q0 : Nat) {fs : List Value} (he : ws[q0]? = some (a, .inr (ci, fs))) (hc : classes[ci]? = some (C, T, N)) (k : Nat) (hk : k < N) (hlink : Cond.fieldLink own index (T k).1 (T k).2.1 (T k).2.2.1 ∈ lw_g) {v : Value} (hv : fs[k]? = some v) (hdg : decode cc pc = .ok (.getfield index, 3))
    (kk : W p l e R s m args below meth c H locs cells slots Q (F0 m (pc + 3) ls (v :: rest))) : W p l e R s m args below meth c H locs cells slots Q (F0 m pc ls (.ref a :: rest)) := by
  obtain ⟨hx, hb, -, hml, hown, hts, -⟩ := hM
  exact va_get hx hb hts hin hown hK hP q0 he hc k hk (hts _ hlink) (fun _ h => h) hv hdg kk
theorem ct_put1 {ws : va_W} {C : String} {T : u_T} {N ci : Nat} {a : Nat} (hM : MC p s m args meth c own cc nL ret) (hK : va_K D classes (ctT cy) s) (hP : va_P D classes ws H) (hD : va_D A ws) (hS : va_S A H0 H locs) (hin : ∀ w ∈ u_ws C T N, w ∈ lw_g) (ty0 : Nat → FieldType) (hty : ∀ k, k < N → parseFieldDescriptor (T k).2.2.1 = some (ty0 k)) (hnm : ∀ a, a < N → ∀ b, b < N → a ≠ b → (T a).2.1 ≠ (T b).2.1) (q0 : Nat) {fs : List Value} (he : ws[q0]? = some (a, .inr (ci, fs))) (hc : classes[ci]? = some (C, T, N)) (k : Nat) (hk : k < N) (hlink : Cond.fieldLink own index (T k).1 (T k).2.1 (T k).2.2.1 ∈ lw_g) (hfin : (T k).2.2.2 = false) {v : Value} (hn : narrow (ty0 k) v = v) (hfit : fits (ty0 k) v = true) (hl : k < fs.length) (hdg : decode cc pc = .ok (.putfield index, 3))
    (kk : ∀ (H1 : Heap) (locs1 : List Loc), va_P D classes (ws.set q0 (a, .inr (ci, fs.set k v))) H1 → va_D A (ws.set q0 (a, .inr (ci, fs.set k v))) → va_S A H0 H1 locs1 → W p l e R s m args below meth c H1 locs1 cells slots Q (F0 m (pc + 3) ls rest)) : W p l e R s m args below meth c H locs cells slots Q (F0 m pc ls (v :: .ref a :: rest)) := by
  obtain ⟨hx, hb, -, hml, hown, hts, -⟩ := hM
  exact va_put (ty := ty0 k) hx hb hts hin ty0 hty hnm hown hK hP hD hS q0 he hc k hk (hts _ hlink) (fun _ h => h) hfin (hty k hk) hn hfit hl hdg kk
end CtRows

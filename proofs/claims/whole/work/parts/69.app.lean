/-! calls on one half of a world -/
theorem ap_l {α : Type} {w1 w2 : List α} {k : Nat} {q : α} (h : w1[k]? = some q) : (w1 ++ w2)[k]? = some q := by
  rw [List.getElem?_append_left (List.getElem?_eq_some_iff.mp h).1]; exact h
theorem ap_r {α : Type} {w1 w2 : List α} {k : Nat} {q : α} (h : w2[k]? = some q) : (w1 ++ w2)[w1.length + k]? = some q := by
  rw [List.getElem?_append_right (Nat.le_add_right _ _), Nat.add_sub_cancel_left]; exact h
theorem va_Pl {D : va_G} {w1 w2 : va_W} {H : Heap} (h : va_P D classes (w1 ++ w2) H) : va_P D classes w1 H := fun k q hk => h k q (ap_l hk)
theorem va_Pr {D : va_G} {w1 w2 : va_W} {H : Heap} (h : va_P D classes (w1 ++ w2) H) : va_P D classes w2 H := fun k q hk => h (w1.length + k) q (ap_r hk)
theorem va_Dl {A : Nat → Prop} {w1 w2 : va_W} (h : va_D A (w1 ++ w2)) : va_D A w1 := ⟨fun i j x y hi hj e => h.1 i j x y (ap_l hi) (ap_l hj) e, fun k q hk => h.2 k q (ap_l hk)⟩
theorem va_Dr {A : Nat → Prop} {w1 w2 : va_W} (h : va_D A (w1 ++ w2)) : va_D A w2 := ⟨fun i j x y hi hj e => by have := h.1 _ _ x y (ap_r hi) (ap_r hj) e; omega, fun k q hk => h.2 _ q (ap_r hk)⟩
section CtHalf
variable {p : Program} {l : Launch} {e : Env} {R : Room} {s : State} {m : MethodId} {args : Array Value} {below : List Frame} {meth : Method} {c : Code} {H : Heap} {locs : List Loc} {cells slots : Nat} {Q : State → Prop}
variable {cc : ByteArray} {pc : Nat} {ls : Array Slot} {rest st0 : List Value} {A : Nat → Prop} {H0 : Heap} {D : va_G} {cy : Nat → ClassId} {own : String} {nL : Nat} {ret : Option FieldType}
theorem ct_goX {ws wc wr w1 ws' : va_W} {v1 : Option Value} {a : Array Value} (hr : va_Run p l e R s m args below meth c H locs cells slots 0 0 (F0 m pc ls st0) rest (ctQ D v1 w1 (ctA wc) a) (ctA wc)) (hDc : va_D A wc) (hPr : va_P D classes wr H) (hap : ∀ (k : Nat) (q : Nat × va_E), wr[k]? = some q → ¬ ctA wc q.1) (hD' : va_D A ws') (hS : va_S A H0 H locs)
    (hj : ∀ H1 : Heap, va_P D classes w1 H1 → va_P D classes wr H1 → va_P D classes ws' H1)
    (kk : ∀ (H1 : Heap) (locs1 : List Loc), va_P D classes ws' H1 → va_D A ws' → va_S A H0 H1 locs1 → W p l e R s m args below meth c H1 locs1 cells slots Q (F0 m (pc + 3) ls (v1.toList ++ rest))) : W p l e R s m args below meth c H locs cells slots Q (F0 m pc ls st0) := by
  have hAc : ∀ q, ctA wc q → A q := by
    rintro q ⟨k, e, h⟩
    exact hDc.2 k (q, e) h
  intro T hT X
  obtain ⟨v, st₀, t, T', L, h0, X', hL, e1, e2, ⟨hv, hp1, hz, hk⟩, st⟩ := hr T hT X
  cases hv
  rw [h0] at hz hk
  have hPr' : va_P D classes wr T'.heap := by
    intro k q hq
    refine (hPr k q hq).kept ?_
    rw [e1]
    exact hk q.1 (hPr k q hq).lt (hap k q hq)
  obtain ⟨t2, a1, b1⟩ := kk T'.heap (locs ++ L) (hj _ (by rw [e1]; exact hp1) hPr') hD'
    ⟨Nat.le_trans hS.1 (by rw [e1]; exact hz), fun q h1 h2 => by rw [e1, hk q (Nat.lt_of_lt_of_le h1 hS.1) (fun z => h2 (hAc q z))]; exact hS.2.1 q h1 h2, fun q hq => by
      rcases List.mem_append.mp hq with h | h
      · exact hS.2.2 q h
      · exact hAc _ (hL q h)⟩ T' rfl X'
  exact ⟨t2, st t2 a1, b1⟩
variable {y : MethodName} {bytes : ByteArray} {maxL n index : Nat} {retY : Option FieldType} {rm : Room} {b : Addr} {As : List Value} {v1 : Option Value}
theorem ct_callL {wc wr w1 : va_W} (hM : MC p s m args meth c own cc nL ret) (hK : va_K D classes (ctT cy) s) (hP : va_P D classes (wc ++ wr) H) (hD : va_D A (wc ++ wr)) (hS : va_S A H0 H locs) (hc : CT l D cy y bytes maxL retY rm (.ref b :: As) wc v1 w1) (k : KV y bytes maxL retY n) (hlink : Cond.methodLink own index y ∈ lw_g)
    (hff : w1.map Prod.fst = wc.map Prod.fst)
    (q0 : Nat) {ci : Nat} {q : vw_C} {fs : List Value} (he : wc[q0]? = some (b, .inr (ci, fs))) (hq : classes[ci]? = some q) (hcls : q.1 = y.cls) (hn : As.length = n) (hl : ls.size = nL) (hst : st0 = As.reverse ++ .ref b :: rest) (hrm : rm.cells = 0 ∧ rm.slots = 0 ∧ rm.frames + 1 ≤ R.frames ∧ 8 + (maxL + 11) + rm.locals ≤ R.locals)
    (hW : (rest.map fun v => v.category).sum ≤ 8) (hf : cells ≤ R.cells ∧ slots ≤ R.slots) (hdg : decode cc pc = .ok (.invokevirtual index, 3))
    (kk : ∀ (H1 : Heap) (locs1 : List Loc), va_P D classes (w1 ++ wr) H1 → va_D A (w1 ++ wr) → va_S A H0 H1 locs1 → W p l e R s m args below meth c H1 locs1 cells slots Q (F0 m (pc + 3) ls (v1.toList ++ rest))) : W p l e R s m args below meth c H locs cells slots Q (F0 m pc ls st0) :=
  ct_goX (ws := wc ++ wr) (ct_runV hM hK (va_Pl hP) hc k hlink (va_Pl hP) ((va_Dl hD).weaken (fun _ _ _ _ => trivial)) q0 he hq hcls hn hl hst hrm hW hf hdg) (va_Dl hD) (va_Pr hP)
    (fun k q hk ⟨k2, e3, h3⟩ => by
      have h4 := hD.1 _ _ q (q.1, e3) (ap_r hk) (ap_l h3) rfl
      have h5 := (List.getElem?_eq_some_iff.mp h3).1
      omega)
    (va_D_fst (by rw [List.map_append, List.map_append, hff]) hD) hS (fun _ h1 h2 => h1.app h2) kk
theorem ct_callR {wc wl w1 : va_W} (hM : MC p s m args meth c own cc nL ret) (hK : va_K D classes (ctT cy) s) (hP : va_P D classes (wl ++ wc) H) (hD : va_D A (wl ++ wc)) (hS : va_S A H0 H locs) (hc : CT l D cy y bytes maxL retY rm (.ref b :: As) wc v1 w1) (k : KV y bytes maxL retY n) (hlink : Cond.methodLink own index y ∈ lw_g)
    (hff : w1.map Prod.fst = wc.map Prod.fst)
    (q0 : Nat) {ci : Nat} {q : vw_C} {fs : List Value} (he : wc[q0]? = some (b, .inr (ci, fs))) (hq : classes[ci]? = some q) (hcls : q.1 = y.cls) (hn : As.length = n) (hl : ls.size = nL) (hst : st0 = As.reverse ++ .ref b :: rest) (hrm : rm.cells = 0 ∧ rm.slots = 0 ∧ rm.frames + 1 ≤ R.frames ∧ 8 + (maxL + 11) + rm.locals ≤ R.locals)
    (hW : (rest.map fun v => v.category).sum ≤ 8) (hf : cells ≤ R.cells ∧ slots ≤ R.slots) (hdg : decode cc pc = .ok (.invokevirtual index, 3))
    (kk : ∀ (H1 : Heap) (locs1 : List Loc), va_P D classes (wl ++ w1) H1 → va_D A (wl ++ w1) → va_S A H0 H1 locs1 → W p l e R s m args below meth c H1 locs1 cells slots Q (F0 m (pc + 3) ls (v1.toList ++ rest))) : W p l e R s m args below meth c H locs cells slots Q (F0 m pc ls st0) :=
  ct_goX (ws := wl ++ wc) (ct_runV hM hK (va_Pr hP) hc k hlink (va_Pr hP) ((va_Dr hD).weaken (fun _ _ _ _ => trivial)) q0 he hq hcls hn hl hst hrm hW hf hdg) (va_Dr hD) (va_Pl hP)
    (fun k q hk ⟨k2, e3, h3⟩ => by
      have h4 := hD.1 _ _ q (q.1, e3) (ap_l hk) (ap_r h3) rfl
      have h5 := (List.getElem?_eq_some_iff.mp hk).1
      omega)
    (va_D_fst (by rw [List.map_append, List.map_append, hff]) hD) hS (fun _ h1 h2 => h2.app h1) kk
end CtHalf
theorem fstFF {cy : Nat → ClassId} {a : Nat → Nat → Nat} (kp kp' : tAr) (vN vT vI vJ vN' vT' vI' vJ' : tVl) (w w' : tWl) (pd pd' : tPd) : (gwFF cy a kp' vN' vT' vI' vJ' w' pd').map Prod.fst = (gwFF cy a kp vN vT vI vJ w pd).map Prod.fst := rfl
theorem fstM {cy : Nat → ClassId} {a : Nat → Nat} (x x' : tMs) : (gwM cy a x').map Prod.fst = (gwM cy a x).map Prod.fst := rfl
theorem atFF {cy : Nat → ClassId} {a : Nat → Nat → Nat} (kp : tAr) (vN vT vI vJ : tVl) (w : tWl) (pd : tPd) : (gwFF cy a kp vN vT vI vJ w pd)[0]? = some (a 0 0, .inr (3, [.ref (a 1 0), .ref (a 2 0), .ref (a 0 1), .ref (a 0 2), .ref (a 5 0), .ref (a 6 0)])) := rfl

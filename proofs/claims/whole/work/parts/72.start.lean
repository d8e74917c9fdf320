theorem pl_l {α : Type} (w1 w2 : List α) : (List.range w1.length).map (fun i => (w1 ++ w2)[i]?) = w1.map some := by
  apply List.ext_getElem
  · simp
  · intro n h1 h2
    have h3 : n < w1.length := by simpa using h2
    simp [List.getElem?_append_left h3, h3]
theorem nX3_call (a : Array Value) (U : State) (g : _) (mk : _) (h : nX3 U) : nX3 (U.calling g mk a) :=
  ⟨va_AO.moved (u := U) (U := U.calling g mk a) (Vm.Alike.refl U.vm) h.1, va_Nw.same rfl (u := U) (U := U.calling g mk a) rfl h.2.1, va_Nw.same rfl (u := U) (U := U.calling g mk a) rfl h.2.2⟩
set_option maxHeartbeats 4000000 in
set_option maxRecDepth 100000 in
theorem whole_start {p : Program} {e : Env} {s : State} {m : MethodId} {below : List Frame} {meth : Method} {c : Code} (l : Launch) (hflags : l.flags = flags0) {b L : Nat} {xs : Nat → Int32} (hL : L ≤ 3072) (C0 : lw_At p s m meth c b L xs) : W p l e room_1 s m #[Value.ref b] below meth c s.heap [] 0 0 (lw_Z below #[Value.ref b] s) (entryFrame m ([Value.ref b] : List Value).toArray 4) := by
  obtain ⟨hx, hb, hr, hml, hown, hts0, hX, hbl, hlocks, hgv⟩ := id C0
  have hts : ∀ w ∈ lw_g, w.before #[Value.ref b] s = true := fun w hw => hts0 w (List.mem_filter.mp hw).1
  have hM : MC p s m #[Value.ref b] meth c RL cL_law 4 ret := ⟨hx, hb, hr, hml, hown, hts, hlocks⟩
  have hA : ∀ q : Nat, s.heap.size ≤ q → (fun q : Nat => s.heap.size ≤ q) q := fun _ h => h
  obtain ⟨c0, iS0, hKn0⟩ := u_known (C := RX0) (T := TX0) (N := 2) (n := 2) hts inX0 (hts _ wit_X0)
  obtain ⟨c1, iS1, hKn1⟩ := u_known (C := RX1) (T := TX1) (N := 6) (n := 6) hts inX1 (hts _ wit_X1)
  obtain ⟨c2, iS2, hKn2⟩ := u_known (C := RX2) (T := TX2) (N := 10) (n := 10) hts inX2 (hts _ wit_X2)
  obtain ⟨c3, iS3, hKn3⟩ := u_known (C := RX3) (T := TX3) (N := 6) (n := 6) hts inX3 (hts _ wit_X3)
  obtain ⟨c4, iS4, hKn4⟩ := u_known (C := RX4) (T := TX4) (N := 24) (n := 24) hts inX4 (hts _ wit_X4)
  obtain ⟨D, hKc⟩ : ∃ D : va_G, ∀ (k : Nat) (q : vw_C), classes[k]? = some q → u_Kn s q.1 q.2.1 q.2.2 (D.1 k) (D.2 k) := by
    refine ⟨(fun k => match k with | 0 => c0 | 1 => c1 | 2 => c2 | 3 => c3 | _ => c4, fun k => match k with | 0 => iS0 | 1 => iS1 | 2 => iS2 | 3 => iS3 | _ => iS4), ?_⟩
    intro k q hq
    match k, hq with
    | 0, hq => cases hq; exact hKn0
    | 1, hq => cases hq; exact hKn1
    | 2, hq => cases hq; exact hKn2
    | 3, hq => cases hq; exact hKn3
    | 4, hq => cases hq; exact hKn4
    | k + 5, hq => simp [classes] at hq
  have wAO : Cond.arrayOver (.object "FarthestFirst$Village") ∈ lw_tbl := List.mem_of_getElem? (i := 77) (by decide +kernel)
  have wN2 : Cond.methodLinkNest RX3 29 yX2_init RX3 ∈ lw_tbl := List.mem_of_getElem? (i := 80) (by decide +kernel)
  have wN0 : Cond.methodLinkNest RX3 36 yX0_init RX3 ∈ lw_tbl := List.mem_of_getElem? (i := 124) (by decide +kernel)
  have hN : nX3 s := ⟨va_AO.of (hts0 _ wAO), va_Nw.of rfl (hts0 _ wN2), va_Nw.of rfl (hts0 _ wN0)⟩
  obtain ⟨cI, kI, pI, i1, i2, i3⟩ := Cond.arrayClass_spec (hts _ wac_int)
  obtain ⟨cZ, kZ, pZ', z1, z2, z3⟩ := Cond.arrayClass_spec (hts _ wac_boolean)
  obtain ⟨pV, cV, kV, v1, v2, v3, v4, v5⟩ := Cond.arrayOver_spec (hts0 _ wAO)
  obtain ⟨cy, hK⟩ : ∃ cy : Nat → ClassId, va_K D classes (ctT cy) s := by
    refine ⟨fun k => match k with | 0 => cI | 1 => cZ | _ => cV, hKc, ?_⟩
    intro k q hq
    match k, hq with
    | 0, hq => cases hq; exact ⟨fun n z => ⟨fun k h => (by cases h), kI, i2, pI, i3⟩, i1⟩
    | 1, hq => cases hq; exact ⟨fun n z => ⟨fun k h => (by cases h), kZ, z2, pZ', z3⟩, z1⟩
    | 2, hq => cases hq; exact ⟨fun n z => ⟨fun k h => (by cases h), kV, v3, pV, v4⟩, kV, pV, v3, v4, v1, v5⟩
    | k + 3, hq => simp [ctT] at hq
  have hS : va_S (fun q : Nat => s.heap.size ≤ q) s.heap s.heap [] := va_S.rf
  have hP : va_P D classes [] s.heap := fun k q h => by simp at h
  have hD : va_D (fun q : Nat => s.heap.size ≤ q) [] := ⟨fun i j p q h => by simp at h, fun k q h => by simp at h⟩
  have hl := lv_entry ([.ref b]) (n := 4) (Nat.le_of_ble_eq_true rfl)
  rw [lg_entry_eq]
  generalize (lg_sl ([.ref b]) ++ List.replicate (4 - (lg_sl ([.ref b])).length) Slot.unset).toArray = ls at hl ⊢
  have hl : lv_has ls 4 [(0, .ref b)] := hl
  refine ci_new (C := RX3) (T := TX3) (N := 6) (ci := 3) (fs := [.null, .null, .null, .null, .null, .null]) hM hK hP hD hS hA inX3 tyX3 tyX3_ok wcl_L_7 wit_X3 win_X3 rfl (fun j hj => by rcases (show j = 0 ∨ j = 1 ∨ j = 2 ∨ j = 3 ∨ j = 4 ∨ j = 5 by omega) with rfl | rfl | rfl | rfl | rfl | rfl <;> rfl) (Nat.le_of_ble_eq_true rfl) (Nat.le_of_ble_eq_true rfl) dL_law_0 (fun q0 H hP hD hS => ?_)
  have hP : va_P D classes [(q0, .inr (3, [.null, .null, .null, .null, .null, .null]))] H := hP
  have hD : va_D (fun q : Nat => s.heap.size ≤ q) [(q0, .inr (3, [.null, .null, .null, .null, .null, .null]))] := hD
  refine lv_dup hx hb dL_law_3 rfl ?_
  refine ci_go (wr := []) (ci_runI (rest := [.ref q0]) nX3_call (fun U hW => ⟨va_AO.moved hW.alike hN.1, va_Nw.warmM hW hN.2.1, va_Nw.warmM hW hN.2.2⟩) hM hK hP (kX3_init l D cy q0 H.size) kiX3 wml_L_9 hl.1 rfl ⟨rfl, rfl, Nat.le_of_ble_eq_true rfl, Nat.le_of_ble_eq_true rfl⟩ (Nat.le_of_ble_eq_true rfl) ⟨Nat.le_of_ble_eq_true rfl, Nat.le_of_ble_eq_true rfl⟩ dL_law_4) hP hD hS hA 0 [] rfl rfl (by decide) (by decide) (fun a1 H locs hP hD hS => ?_)
  have hP : va_P D classes (gwFF cy (ad2 q0 a1) zA vZ vZ vZ vZ wZ pZ) H := hP
  have hD : va_D (fun q : Nat => s.heap.size ≤ q) (gwFF cy (ad2 q0 a1) zA vZ vZ vZ vZ wZ pZ) := hD
  refine lv_astore_n (lv' := [(1, .ref q0), (0, .ref b)]) hx hb dL_law_7 rfl hl (by decide) rfl (fun ls hl => ?_)
  refine ci_new (C := RX4) (T := TX4) (N := 24) (ci := 4) (fs := [.int 0, .null, .null, .null, .null, .int 0, .int 0, .int 0, .int 0, .null, .int 0, .null, .null, .null, .null, .null, .null, .int 0, .int 0, .int 0, .null, .null, .int 0, .int 0]) hM hK hP hD hS hA inX4 tyX4 tyX4_ok wcl_L_10 wit_X4 win_X4 rfl (fun j hj => by rcases (show j = 0 ∨ j = 1 ∨ j = 2 ∨ j = 3 ∨ j = 4 ∨ j = 5 ∨ j = 6 ∨ j = 7 ∨ j = 8 ∨ j = 9 ∨ j = 10 ∨ j = 11 ∨ j = 12 ∨ j = 13 ∨ j = 14 ∨ j = 15 ∨ j = 16 ∨ j = 17 ∨ j = 18 ∨ j = 19 ∨ j = 20 ∨ j = 21 ∨ j = 22 ∨ j = 23 by omega) with rfl | rfl | rfl | rfl | rfl | rfl | rfl | rfl | rfl | rfl | rfl | rfl | rfl | rfl | rfl | rfl | rfl | rfl | rfl | rfl | rfl | rfl | rfl | rfl <;> rfl) (Nat.le_of_ble_eq_true rfl) (Nat.le_of_ble_eq_true rfl) dL_law_8 (fun q8 H hP hD hS => ?_)
  refine lv_dup hx hb dL_law_11 rfl ?_
  refine ci_go (wr := gwFF cy (ad2 q0 a1) zA vZ vZ vZ vZ wZ pZ) (ci_runI (rest := [.ref q8]) (fun _ _ _ _ h => h) (fun _ _ => trivial) hM hK (va_Pr hP) (kX4_init l D cy q8 H.size) kiX4 wml_L_12 hl.1 rfl ⟨rfl, rfl, Nat.le_of_ble_eq_true rfl, Nat.le_of_ble_eq_true rfl⟩ (Nat.le_of_ble_eq_true rfl) ⟨Nat.le_of_ble_eq_true rfl, Nat.le_of_ble_eq_true rfl⟩ dL_law_12) hP hD hS hA 34 (List.range (gwFF cy (ad2 q0 a1) zA vZ vZ vZ vZ wZ pZ).length) (ap_r (k := 0) rfl) (pl_l _ _) (show va_nd (List.range 34) = true by decide +kernel) (fun i hi => by
      have h1 : i < 34 := List.mem_range.mp hi
      simp
      omega) (fun a2 H locs hP hD hS => ?_)
  refine lv_astore_n (lv' := [(2, .ref q8), (1, .ref q0), (0, .ref b)]) hx hb dL_law_15 rfl hl (by decide) rfl (fun ls hl => ?_)
  refine lv_iconst (v := 0) hx hb dL_law_16 (by decide) ?_
  refine lv_istore_n (lv' := [(3, .int 0), (2, .ref q8), (1, .ref q0), (0, .ref b)]) hx hb dL_law_17 rfl hl (by decide) rfl (fun ls hl => ?_)
  exact law_loop (a := ad2 q0 a1) (ma := ad q8 a2) hL hM hK hX hbl ⟨Nat.le_of_ble_eq_true rfl, Nat.le_of_ble_eq_true rfl⟩ (L + 7) 0 zA vZ vZ vZ vZ wZ pZ mZ H locs ls (by omega) (by omega) rel0 hP hD hS hl

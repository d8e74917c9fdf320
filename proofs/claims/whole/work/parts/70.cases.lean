/-! the cases of the law -/
def lvs (b : Nat) (a : Nat → Nat → Nat) (ma : Nat → Nat) (i : Int32) : List (Nat × Value) := [(3, .int i), (2, .ref (ma 0)), (1, .ref (a 0 0)), (0, .ref b)]
abbrev LW (cy : Nat → ClassId) (a : Nat → Nat → Nat) (ma : Nat → Nat) (kp : tAr) (vN vT vI vJ : tVl) (w : tWl) (pd : tPd) (x : tMs) : va_W := gwFF cy a kp vN vT vI vJ w pd ++ gwM cy ma x
def LK (p : Program) (l : Launch) (e : Env) (s : State) (m : MethodId) (below : List Frame) (meth : Method) (c : Code) (D : va_G) (cy : Nat → ClassId) (A : Nat → Prop) (a : Nat → Nat → Nat) (ma : Nat → Nat) (b : Nat) (cells slots : Nat) (Q : State → Prop) (i : Int32) : Prop :=
  ∀ (kp : tAr) (vN vT vI vJ : tVl) (w : tWl) (pd : tPd) (x : tMs) (H : Heap) (locs : List Loc) (ls : Array Slot), Rel kp vN vI vJ pd x → va_P D classes (LW cy a ma kp vN vT vI vJ w pd x) H → va_D A (LW cy a ma kp vN vT vI vJ w pd x) → va_S A s.heap H locs → lv_has ls 4 (lvs b a ma i) →
    W p l e room_1 s m #[Value.ref b] below meth c H locs cells slots Q (F0 m 889 ls [])
section LawCases
variable {p : Program} {l : Launch} {e : Env} {s : State} {m : MethodId} {below : List Frame} {meth : Method} {c : Code} {D : va_G} {cy : Nat → ClassId} {A : Nat → Prop} {a : Nat → Nat → Nat} {ma : Nat → Nat} {b L : Nat} {xs : Nat → Int32} {cells slots : Nat} {Q : State → Prop} {i : Int32}
variable {kp : tAr} {vN vT vI vJ : tVl} {w : tWl} {pd : tPd} {x : tMs} {H : Heap} {locs : List Loc} {ls : Array Slot}
set_option maxHeartbeats 4000000 in
set_option maxRecDepth 100000 in
theorem lc_wipe (hM : MC p s m #[Value.ref b] meth c RL cL_law 4 ret) (hK : va_K D classes (ctT cy) s) (hX : va_X b L xs s s.heap) (hbl : b < s.heap.size) (hbA : ¬ A b) (hf : cells ≤ room_1.cells ∧ slots ≤ room_1.slots) (hi : ∀ k, k ≤ 5 → vp_in (i + nI k) L) (hRel : Rel kp vN vI vJ pd x) (hP : va_P D classes (LW cy a ma kp vN vT vI vJ w pd x) H) (hD : va_D A (LW cy a ma kp vN vT vI vJ w pd x)) (hS : va_S A s.heap H locs) (hl : lv_has ls 4 (lvs b a ma i)) (kk : LK p l e s m below meth c D cy A a ma b cells slots Q i) :
    W p l e room_1 s m #[Value.ref b] below meth c H locs cells slots Q (F0 m 339 ls []) := by
  obtain ⟨hx, hb, -, hml, hown, hts, -⟩ := id hM
  have hl : lv_has ls 4 [(3, .int i), (2, .ref (ma 0)), (1, .ref (a 0 0)), (0, .ref b)] := hl
  obtain ⟨o3, o4, heq, hrel⟩ := st_wipe hRel 
  obtain ⟨R3, h3⟩ : ∃ R, fX3_wipe pd = R := ⟨_, rfl⟩
  obtain ⟨R4, h4⟩ : ∃ R, fX4_wipe x = R := ⟨_, rfl⟩
  rw [h3, h4] at heq hrel
  refine lv_aload_n hx hb dL_law_339 rfl (lv_at hl 2 rfl) ?_
  refine ct_callL (As := []) (wc := gwFF cy a kp vN vT vI vJ w pd) (wr := gwM cy ma x) (w1 := gwFF cy a kp vN vT vI vJ w R3.2) (rest := []) (ci := 3) (q := (RX3, TX3, 6)) hM hK hP hD hS (kX3_wipe l D cy a kp vN vT vI vJ w pd  o3 h3) kvX3_wipe wml_L_36 (fstFF _ _ _ _ _ _ _ _ _ _ _ _ _ _) 0 (atFF _ _ _ _ _ _ _) rfl rfl rfl hl.1 rfl ⟨rfl, rfl, Nat.le_of_ble_eq_true rfl, Nat.le_of_ble_eq_true rfl⟩ (Nat.le_of_ble_eq_true rfl) hf dL_law_340 (fun H locs hP hD hS => ?_)
  refine lv_aload_n hx hb dL_law_343 rfl (lv_at hl 1 rfl) ?_
  refine ct_callR (As := []) (rest := [.int R3.1]) (wl := gwFF cy a kp vN vT vI vJ w R3.2) (wc := gwM cy ma x) (w1 := gwM cy ma R4.2) (ci := 4) (q := (RX4, TX4, 24)) hM hK hP hD hS (kX4_wipe l D cy ma x  o4 h4) kvX4_wipe wml_L_40 (fstM _ _) 0 rfl rfl rfl rfl hl.1 rfl ⟨rfl, rfl, Nat.le_of_ble_eq_true rfl, Nat.le_of_ble_eq_true rfl⟩ (Nat.le_of_ble_eq_true rfl) hf dL_law_344 (fun H locs hP hD hS => ?_)
  refine lv_icmp_eq (tgt := 889) hx hb dL_law_347 (by decide) (fun _ => ?_) (fun c7 => absurd heq c7)
  exact kk kp vN vT vI vJ w R3.2 R4.2 H locs ls hrel hP hD hS hl
end LawCases

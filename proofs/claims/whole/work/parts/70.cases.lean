/-! the cases of the law -/
def lvs (b : Nat) (a : Nat → Nat → Nat) (ma : Nat → Nat) (i : Int32) : List (Nat × Value) := [(3, .int i), (2, .ref (ma 0)), (1, .ref (a 0 0)), (0, .ref b)]
abbrev LW (cy : Nat → ClassId) (a : Nat → Nat → Nat) (ma : Nat → Nat) (kp : tAr) (vN vT vI vJ : tVl) (w : tWl) (pd : tPd) (x : tMs) : va_W := gwFF cy a kp vN vT vI vJ w pd ++ gwM cy ma x
def LK (p : Program) (l : Launch) (e : Env) (s : State) (m : MethodId) (below : List Frame) (meth : Method) (c : Code) (D : va_G) (cy : Nat → ClassId) (A : Nat → Prop) (a : Nat → Nat → Nat) (ma : Nat → Nat) (b : Nat) (cells slots : Nat) (Q : State → Prop) (i : Int32) : Prop :=
  ∀ (kp : tAr) (vN vT vI vJ : tVl) (w : tWl) (pd : tPd) (x : tMs) (H : Heap) (locs : List Loc) (ls : Array Slot), Rel kp vN vI vJ pd x → va_P D classes (LW cy a ma kp vN vT vI vJ w pd x) H → va_D A (LW cy a ma kp vN vT vI vJ w pd x) → va_S A s.heap H locs → lv_has ls 4 (lvs b a ma i) →
    W p l e room_1 s m #[Value.ref b] below meth c H locs cells slots Q (F0 m 889 ls [])
section LawCases
variable {p : Program} {l : Launch} {e : Env} {s : State} {m : MethodId} {below : List Frame} {meth : Method} {c : Code} {D : va_G} {cy : Nat → ClassId} {A : Nat → Prop} {a : Nat → Nat → Nat} {ma : Nat → Nat} {b L : Nat} {xs : Nat → Int32} {cells slots : Nat} {Q : State → Prop} {i : Int32}
variable {kp : tAr} {vN vT vI vJ : tVl} {w : tWl} {pd : tPd} {x : tMs} {H : Heap} {locs : List Loc} {ls : Array Slot}
set_option maxHeartbeats 4000000 in
set_option maxRecDepth 100000 in
theorem lc_come (hM : MC p s m #[Value.ref b] meth c RL cL_law 4 ret) (hK : va_K D classes (ctT cy) s) (hX : va_X b L xs s s.heap) (hbl : b < s.heap.size) (hbA : ¬ A b) (hf : cells ≤ room_1.cells ∧ slots ≤ room_1.slots) (hi : ∀ k, k ≤ 5 → vp_in (i + nI k) L) (hRel : Rel kp vN vI vJ pd x) (hP : va_P D classes (LW cy a ma kp vN vT vI vJ w pd x) H) (hD : va_D A (LW cy a ma kp vN vT vI vJ w pd x)) (hS : va_S A s.heap H locs) (hl : lv_has ls 4 (lvs b a ma i)) (kk : LK p l e s m below meth c D cy A a ma b cells slots Q i) :
    W p l e room_1 s m #[Value.ref b] below meth c H locs cells slots Q (F0 m 148 ls []) := by
  obtain ⟨hx, hb, -, hml, hown, hts, -⟩ := id hM
  have hl : lv_has ls 4 [(3, .int i), (2, .ref (ma 0)), (1, .ref (a 0 0)), (0, .ref b)] := hl
  refine lv_aload_n hx hb dL_law_148 rfl (lv_at hl 2 rfl) ?_
  refine lv_aload_n hx hb dL_law_149 rfl (lv_at hl 3 rfl) ?_
  refine lv_iload_n hx hb dL_law_150 rfl (lv_at hl 0 rfl) ?_
  refine lv_iconst (v := 1) hx hb dL_law_151 (by decide) ?_
  refine lv_iadd hx hb dL_law_152 ?_
  refine va_sld hx hb hX hbl hbA hS (hi 1 (by decide)) dL_law_153 ?_
  refine lv_aload_n hx hb dL_law_154 rfl (lv_at hl 3 rfl) ?_
  refine lv_iload_n hx hb dL_law_155 rfl (lv_at hl 0 rfl) ?_
  refine lv_iconst (v := 2) hx hb dL_law_156 (by decide) ?_
  refine lv_iadd hx hb dL_law_157 ?_
  refine va_sld hx hb hX hbl hbA hS (hi 2 (by decide)) dL_law_158 ?_
  refine lv_aload_n hx hb dL_law_159 rfl (lv_at hl 3 rfl) ?_
  refine lv_iload_n hx hb dL_law_160 rfl (lv_at hl 0 rfl) ?_
  refine lv_iconst (v := 3) hx hb dL_law_161 (by decide) ?_
  refine lv_iadd hx hb dL_law_162 ?_
  refine va_sld hx hb hX hbl hbA hS (hi 3 (by decide)) dL_law_163 ?_
  refine lv_aload_n hx hb dL_law_164 rfl (lv_at hl 3 rfl) ?_
  refine lv_iload_n hx hb dL_law_165 rfl (lv_at hl 0 rfl) ?_
  refine lv_iconst (v := 4) hx hb dL_law_166 (by decide) ?_
  refine lv_iadd hx hb dL_law_167 ?_
  refine va_sld hx hb hX hbl hbA hS (hi 4 (by decide)) dL_law_168 ?_
  refine lv_aload_n hx hb dL_law_169 rfl (lv_at hl 3 rfl) ?_
  refine lv_iload_n hx hb dL_law_170 rfl (lv_at hl 0 rfl) ?_
  refine lv_iconst (v := 5) hx hb dL_law_171 (by decide) ?_
  refine lv_iadd hx hb dL_law_172 ?_
  refine va_sld hx hb hX hbl hbA hS (hi 5 (by decide)) dL_law_173 ?_
  refine lv_if_eq (tgt := 181) hx hb dL_law_174 (by decide) (fun c5 => ?_) (fun c5 => ?_)
  · obtain ⟨o3, o4, heq, hrel⟩ := st_come hRel (xs (Int32.toNatClampNeg (i + 1))) (xs (Int32.toNatClampNeg (i + 2))) (xs (Int32.toNatClampNeg (i + 3))) (xs (Int32.toNatClampNeg (i + 4))) 0 (by decide)
    obtain ⟨R3, h3⟩ : ∃ R, fX3_come vN (xs (Int32.toNatClampNeg (i + 1))) (xs (Int32.toNatClampNeg (i + 2))) (xs (Int32.toNatClampNeg (i + 3))) (xs (Int32.toNatClampNeg (i + 4))) 0 = R := ⟨_, rfl⟩
    obtain ⟨R4, h4⟩ : ∃ R, fX4_come x (xs (Int32.toNatClampNeg (i + 1))) (xs (Int32.toNatClampNeg (i + 2))) (xs (Int32.toNatClampNeg (i + 3))) (xs (Int32.toNatClampNeg (i + 4))) 0 = R := ⟨_, rfl⟩
    rw [h3, h4] at heq hrel
    refine lv_iconst (v := 0) hx hb dL_law_181 (by decide) ?_
    refine ct_callL (As := [.int (xs (Int32.toNatClampNeg (i + 1))), .int (xs (Int32.toNatClampNeg (i + 2))), .int (xs (Int32.toNatClampNeg (i + 3))), .int (xs (Int32.toNatClampNeg (i + 4))), .int 0]) (wc := gwFF cy a kp vN vT vI vJ w pd) (wr := gwM cy ma x) (w1 := gwFF cy a kp R3.2 vT vI vJ w pd) (rest := []) (ci := 3) (q := (RX3, TX3, 6)) hM hK hP hD hS (kX3_come l D cy a kp vN vT vI vJ w pd (xs (Int32.toNatClampNeg (i + 1))) (xs (Int32.toNatClampNeg (i + 2))) (xs (Int32.toNatClampNeg (i + 3))) (xs (Int32.toNatClampNeg (i + 4))) 0 o3 h3) kvX3_come wml_L_13 (fstFF _ _ _ _ _ _ _ _ _ _ _ _ _ _) 0 (atFF _ _ _ _ _ _ _) rfl rfl rfl hl.1 rfl ⟨rfl, rfl, Nat.le_of_ble_eq_true rfl, Nat.le_of_ble_eq_true rfl⟩ (Nat.le_of_ble_eq_true rfl) hf dL_law_182 (fun H locs hP hD hS => ?_)
    refine lv_aload_n hx hb dL_law_185 rfl (lv_at hl 1 rfl) ?_
    refine lv_aload_n hx hb dL_law_186 rfl (lv_at hl 3 rfl) ?_
    refine lv_iload_n hx hb dL_law_187 rfl (lv_at hl 0 rfl) ?_
    refine lv_iconst (v := 1) hx hb dL_law_188 (by decide) ?_
    refine lv_iadd hx hb dL_law_189 ?_
    refine va_sld hx hb hX hbl hbA hS (hi 1 (by decide)) dL_law_190 ?_
    refine lv_aload_n hx hb dL_law_191 rfl (lv_at hl 3 rfl) ?_
    refine lv_iload_n hx hb dL_law_192 rfl (lv_at hl 0 rfl) ?_
    refine lv_iconst (v := 2) hx hb dL_law_193 (by decide) ?_
    refine lv_iadd hx hb dL_law_194 ?_
    refine va_sld hx hb hX hbl hbA hS (hi 2 (by decide)) dL_law_195 ?_
    refine lv_aload_n hx hb dL_law_196 rfl (lv_at hl 3 rfl) ?_
    refine lv_iload_n hx hb dL_law_197 rfl (lv_at hl 0 rfl) ?_
    refine lv_iconst (v := 3) hx hb dL_law_198 (by decide) ?_
    refine lv_iadd hx hb dL_law_199 ?_
    refine va_sld hx hb hX hbl hbA hS (hi 3 (by decide)) dL_law_200 ?_
    refine lv_aload_n hx hb dL_law_201 rfl (lv_at hl 3 rfl) ?_
    refine lv_iload_n hx hb dL_law_202 rfl (lv_at hl 0 rfl) ?_
    refine lv_iconst (v := 4) hx hb dL_law_203 (by decide) ?_
    refine lv_iadd hx hb dL_law_204 ?_
    refine va_sld hx hb hX hbl hbA hS (hi 4 (by decide)) dL_law_205 ?_
    refine lv_aload_n hx hb dL_law_206 rfl (lv_at hl 3 rfl) ?_
    refine lv_iload_n hx hb dL_law_207 rfl (lv_at hl 0 rfl) ?_
    refine lv_iconst (v := 5) hx hb dL_law_208 (by decide) ?_
    refine lv_iadd hx hb dL_law_209 ?_
    refine va_sld hx hb hX hbl hbA hS (hi 5 (by decide)) dL_law_210 ?_
    refine lv_if_eq (tgt := 218) hx hb dL_law_211 (by decide) (fun _ => ?_) (fun c6 => absurd c5 c6)
    refine lv_iconst (v := 0) hx hb dL_law_218 (by decide) ?_
    refine ct_callR (As := [.int (xs (Int32.toNatClampNeg (i + 1))), .int (xs (Int32.toNatClampNeg (i + 2))), .int (xs (Int32.toNatClampNeg (i + 3))), .int (xs (Int32.toNatClampNeg (i + 4))), .int 0]) (rest := [.int R3.1]) (wl := gwFF cy a kp R3.2 vT vI vJ w pd) (wc := gwM cy ma x) (w1 := gwM cy ma R4.2) (ci := 4) (q := (RX4, TX4, 24)) hM hK hP hD hS (kX4_come l D cy ma x (xs (Int32.toNatClampNeg (i + 1))) (xs (Int32.toNatClampNeg (i + 2))) (xs (Int32.toNatClampNeg (i + 3))) (xs (Int32.toNatClampNeg (i + 4))) 0 o4 h4) kvX4_come wml_L_17 (fstM _ _) 0 rfl rfl rfl rfl hl.1 rfl ⟨rfl, rfl, Nat.le_of_ble_eq_true rfl, Nat.le_of_ble_eq_true rfl⟩ (Nat.le_of_ble_eq_true rfl) hf dL_law_219 (fun H locs hP hD hS => ?_)
    refine lv_icmp_eq (tgt := 889) hx hb dL_law_222 (by decide) (fun _ => ?_) (fun c7 => absurd heq c7)
    exact kk kp R3.2 vT vI vJ w pd R4.2 H locs ls hrel hP hD hS hl
  · obtain ⟨o3, o4, heq, hrel⟩ := st_come hRel (xs (Int32.toNatClampNeg (i + 1))) (xs (Int32.toNatClampNeg (i + 2))) (xs (Int32.toNatClampNeg (i + 3))) (xs (Int32.toNatClampNeg (i + 4))) 1 (by decide)
    obtain ⟨R3, h3⟩ : ∃ R, fX3_come vN (xs (Int32.toNatClampNeg (i + 1))) (xs (Int32.toNatClampNeg (i + 2))) (xs (Int32.toNatClampNeg (i + 3))) (xs (Int32.toNatClampNeg (i + 4))) 1 = R := ⟨_, rfl⟩
    obtain ⟨R4, h4⟩ : ∃ R, fX4_come x (xs (Int32.toNatClampNeg (i + 1))) (xs (Int32.toNatClampNeg (i + 2))) (xs (Int32.toNatClampNeg (i + 3))) (xs (Int32.toNatClampNeg (i + 4))) 1 = R := ⟨_, rfl⟩
    rw [h3, h4] at heq hrel
    refine lv_iconst (v := 1) hx hb dL_law_177 (by decide) ?_
    refine lv_goto (tgt := 182) hx hb dL_law_178 (by decide) ?_
    refine ct_callL (As := [.int (xs (Int32.toNatClampNeg (i + 1))), .int (xs (Int32.toNatClampNeg (i + 2))), .int (xs (Int32.toNatClampNeg (i + 3))), .int (xs (Int32.toNatClampNeg (i + 4))), .int 1]) (wc := gwFF cy a kp vN vT vI vJ w pd) (wr := gwM cy ma x) (w1 := gwFF cy a kp R3.2 vT vI vJ w pd) (rest := []) (ci := 3) (q := (RX3, TX3, 6)) hM hK hP hD hS (kX3_come l D cy a kp vN vT vI vJ w pd (xs (Int32.toNatClampNeg (i + 1))) (xs (Int32.toNatClampNeg (i + 2))) (xs (Int32.toNatClampNeg (i + 3))) (xs (Int32.toNatClampNeg (i + 4))) 1 o3 h3) kvX3_come wml_L_13 (fstFF _ _ _ _ _ _ _ _ _ _ _ _ _ _) 0 (atFF _ _ _ _ _ _ _) rfl rfl rfl hl.1 rfl ⟨rfl, rfl, Nat.le_of_ble_eq_true rfl, Nat.le_of_ble_eq_true rfl⟩ (Nat.le_of_ble_eq_true rfl) hf dL_law_182 (fun H locs hP hD hS => ?_)
    refine lv_aload_n hx hb dL_law_185 rfl (lv_at hl 1 rfl) ?_
    refine lv_aload_n hx hb dL_law_186 rfl (lv_at hl 3 rfl) ?_
    refine lv_iload_n hx hb dL_law_187 rfl (lv_at hl 0 rfl) ?_
    refine lv_iconst (v := 1) hx hb dL_law_188 (by decide) ?_
    refine lv_iadd hx hb dL_law_189 ?_
    refine va_sld hx hb hX hbl hbA hS (hi 1 (by decide)) dL_law_190 ?_
    refine lv_aload_n hx hb dL_law_191 rfl (lv_at hl 3 rfl) ?_
    refine lv_iload_n hx hb dL_law_192 rfl (lv_at hl 0 rfl) ?_
    refine lv_iconst (v := 2) hx hb dL_law_193 (by decide) ?_
    refine lv_iadd hx hb dL_law_194 ?_
    refine va_sld hx hb hX hbl hbA hS (hi 2 (by decide)) dL_law_195 ?_
    refine lv_aload_n hx hb dL_law_196 rfl (lv_at hl 3 rfl) ?_
    refine lv_iload_n hx hb dL_law_197 rfl (lv_at hl 0 rfl) ?_
    refine lv_iconst (v := 3) hx hb dL_law_198 (by decide) ?_
    refine lv_iadd hx hb dL_law_199 ?_
    refine va_sld hx hb hX hbl hbA hS (hi 3 (by decide)) dL_law_200 ?_
    refine lv_aload_n hx hb dL_law_201 rfl (lv_at hl 3 rfl) ?_
    refine lv_iload_n hx hb dL_law_202 rfl (lv_at hl 0 rfl) ?_
    refine lv_iconst (v := 4) hx hb dL_law_203 (by decide) ?_
    refine lv_iadd hx hb dL_law_204 ?_
    refine va_sld hx hb hX hbl hbA hS (hi 4 (by decide)) dL_law_205 ?_
    refine lv_aload_n hx hb dL_law_206 rfl (lv_at hl 3 rfl) ?_
    refine lv_iload_n hx hb dL_law_207 rfl (lv_at hl 0 rfl) ?_
    refine lv_iconst (v := 5) hx hb dL_law_208 (by decide) ?_
    refine lv_iadd hx hb dL_law_209 ?_
    refine va_sld hx hb hX hbl hbA hS (hi 5 (by decide)) dL_law_210 ?_
    refine lv_if_eq (tgt := 218) hx hb dL_law_211 (by decide) (fun c6 => absurd c6 c5) (fun _ => ?_)
    refine lv_iconst (v := 1) hx hb dL_law_214 (by decide) ?_
    refine lv_goto (tgt := 219) hx hb dL_law_215 (by decide) ?_
    refine ct_callR (As := [.int (xs (Int32.toNatClampNeg (i + 1))), .int (xs (Int32.toNatClampNeg (i + 2))), .int (xs (Int32.toNatClampNeg (i + 3))), .int (xs (Int32.toNatClampNeg (i + 4))), .int 1]) (rest := [.int R3.1]) (wl := gwFF cy a kp R3.2 vT vI vJ w pd) (wc := gwM cy ma x) (w1 := gwM cy ma R4.2) (ci := 4) (q := (RX4, TX4, 24)) hM hK hP hD hS (kX4_come l D cy ma x (xs (Int32.toNatClampNeg (i + 1))) (xs (Int32.toNatClampNeg (i + 2))) (xs (Int32.toNatClampNeg (i + 3))) (xs (Int32.toNatClampNeg (i + 4))) 1 o4 h4) kvX4_come wml_L_17 (fstM _ _) 0 rfl rfl rfl rfl hl.1 rfl ⟨rfl, rfl, Nat.le_of_ble_eq_true rfl, Nat.le_of_ble_eq_true rfl⟩ (Nat.le_of_ble_eq_true rfl) hf dL_law_219 (fun H locs hP hD hS => ?_)
    refine lv_icmp_eq (tgt := 889) hx hb dL_law_222 (by decide) (fun _ => ?_) (fun c7 => absurd heq c7)
    exact kk kp R3.2 vT vI vJ w pd R4.2 H locs ls hrel hP hD hS hl
set_option maxHeartbeats 4000000 in
set_option maxRecDepth 100000 in
theorem lc_stays (hM : MC p s m #[Value.ref b] meth c RL cL_law 4 ret) (hK : va_K D classes (ctT cy) s) (hX : va_X b L xs s s.heap) (hbl : b < s.heap.size) (hbA : ¬ A b) (hf : cells ≤ room_1.cells ∧ slots ≤ room_1.slots) (hi : ∀ k, k ≤ 5 → vp_in (i + nI k) L) (hRel : Rel kp vN vI vJ pd x) (hP : va_P D classes (LW cy a ma kp vN vT vI vJ w pd x) H) (hD : va_D A (LW cy a ma kp vN vT vI vJ w pd x)) (hS : va_S A s.heap H locs) (hl : lv_has ls 4 (lvs b a ma i)) (kk : LK p l e s m below meth c D cy A a ma b cells slots Q i) :
    W p l e room_1 s m #[Value.ref b] below meth c H locs cells slots Q (F0 m 227 ls []) := by
  obtain ⟨hx, hb, -, hml, hown, hts, -⟩ := id hM
  have hl : lv_has ls 4 [(3, .int i), (2, .ref (ma 0)), (1, .ref (a 0 0)), (0, .ref b)] := hl
  obtain ⟨o3, o4, heq, hrel⟩ := st_stays hRel (xs (Int32.toNatClampNeg (i + 1)))
  obtain ⟨R3, h3⟩ : ∃ R, fX3_stays vN (xs (Int32.toNatClampNeg (i + 1))) = R := ⟨_, rfl⟩
  obtain ⟨R4, h4⟩ : ∃ R, fX4_stays x (xs (Int32.toNatClampNeg (i + 1))) = R := ⟨_, rfl⟩
  rw [h3, h4] at heq hrel
  refine lv_aload_n hx hb dL_law_227 rfl (lv_at hl 2 rfl) ?_
  refine lv_aload_n hx hb dL_law_228 rfl (lv_at hl 3 rfl) ?_
  refine lv_iload_n hx hb dL_law_229 rfl (lv_at hl 0 rfl) ?_
  refine lv_iconst (v := 1) hx hb dL_law_230 (by decide) ?_
  refine lv_iadd hx hb dL_law_231 ?_
  refine va_sld hx hb hX hbl hbA hS (hi 1 (by decide)) dL_law_232 ?_
  refine ct_callL (As := [.int (xs (Int32.toNatClampNeg (i + 1)))]) (wc := gwFF cy a kp vN vT vI vJ w pd) (wr := gwM cy ma x) (w1 := gwFF cy a kp R3.2 vT vI vJ w pd) (rest := []) (ci := 3) (q := (RX3, TX3, 6)) hM hK hP hD hS (kX3_stays l D cy a kp vN vT vI vJ w pd (xs (Int32.toNatClampNeg (i + 1))) o3 h3) kvX3_stays wml_L_18 (fstFF _ _ _ _ _ _ _ _ _ _ _ _ _ _) 0 (atFF _ _ _ _ _ _ _) rfl rfl rfl hl.1 rfl ⟨rfl, rfl, Nat.le_of_ble_eq_true rfl, Nat.le_of_ble_eq_true rfl⟩ (Nat.le_of_ble_eq_true rfl) hf dL_law_233 (fun H locs hP hD hS => ?_)
  refine lv_aload_n hx hb dL_law_236 rfl (lv_at hl 1 rfl) ?_
  refine lv_aload_n hx hb dL_law_237 rfl (lv_at hl 3 rfl) ?_
  refine lv_iload_n hx hb dL_law_238 rfl (lv_at hl 0 rfl) ?_
  refine lv_iconst (v := 1) hx hb dL_law_239 (by decide) ?_
  refine lv_iadd hx hb dL_law_240 ?_
  refine va_sld hx hb hX hbl hbA hS (hi 1 (by decide)) dL_law_241 ?_
  refine ct_callR (As := [.int (xs (Int32.toNatClampNeg (i + 1)))]) (rest := [.int R3.1]) (wl := gwFF cy a kp R3.2 vT vI vJ w pd) (wc := gwM cy ma x) (w1 := gwM cy ma R4.2) (ci := 4) (q := (RX4, TX4, 24)) hM hK hP hD hS (kX4_stays l D cy ma x (xs (Int32.toNatClampNeg (i + 1))) o4 h4) kvX4_stays wml_L_22 (fstM _ _) 0 rfl rfl rfl rfl hl.1 rfl ⟨rfl, rfl, Nat.le_of_ble_eq_true rfl, Nat.le_of_ble_eq_true rfl⟩ (Nat.le_of_ble_eq_true rfl) hf dL_law_242 (fun H locs hP hD hS => ?_)
  refine lv_icmp_eq (tgt := 889) hx hb dL_law_245 (by decide) (fun _ => ?_) (fun c7 => absurd heq c7)
  exact kk kp R3.2 vT vI vJ w pd R4.2 H locs ls hrel hP hD hS hl
set_option maxHeartbeats 4000000 in
set_option maxRecDepth 100000 in
theorem lc_person (hM : MC p s m #[Value.ref b] meth c RL cL_law 4 ret) (hK : va_K D classes (ctT cy) s) (hX : va_X b L xs s s.heap) (hbl : b < s.heap.size) (hbA : ¬ A b) (hf : cells ≤ room_1.cells ∧ slots ≤ room_1.slots) (hi : ∀ k, k ≤ 5 → vp_in (i + nI k) L) (hRel : Rel kp vN vI vJ pd x) (hP : va_P D classes (LW cy a ma kp vN vT vI vJ w pd x) H) (hD : va_D A (LW cy a ma kp vN vT vI vJ w pd x)) (hS : va_S A s.heap H locs) (hl : lv_has ls 4 (lvs b a ma i)) (kk : LK p l e s m below meth c D cy A a ma b cells slots Q i) :
    W p l e room_1 s m #[Value.ref b] below meth c H locs cells slots Q (F0 m 250 ls []) := by
  obtain ⟨hx, hb, -, hml, hown, hts, -⟩ := id hM
  have hl : lv_has ls 4 [(3, .int i), (2, .ref (ma 0)), (1, .ref (a 0 0)), (0, .ref b)] := hl
  obtain ⟨o3, o4, heq⟩ := st_person hRel (xs (Int32.toNatClampNeg (i + 1))) (xs (Int32.toNatClampNeg (i + 2)))
  have hrel := hRel
  obtain ⟨R3, h3⟩ : ∃ R, fX3_person vN (xs (Int32.toNatClampNeg (i + 1))) (xs (Int32.toNatClampNeg (i + 2))) = R := ⟨_, rfl⟩
  obtain ⟨R4, h4⟩ : ∃ R, fX4_person x (xs (Int32.toNatClampNeg (i + 1))) (xs (Int32.toNatClampNeg (i + 2))) = R := ⟨_, rfl⟩
  rw [h3, h4] at heq
  refine lv_aload_n hx hb dL_law_250 rfl (lv_at hl 2 rfl) ?_
  refine lv_aload_n hx hb dL_law_251 rfl (lv_at hl 3 rfl) ?_
  refine lv_iload_n hx hb dL_law_252 rfl (lv_at hl 0 rfl) ?_
  refine lv_iconst (v := 1) hx hb dL_law_253 (by decide) ?_
  refine lv_iadd hx hb dL_law_254 ?_
  refine va_sld hx hb hX hbl hbA hS (hi 1 (by decide)) dL_law_255 ?_
  refine lv_aload_n hx hb dL_law_256 rfl (lv_at hl 3 rfl) ?_
  refine lv_iload_n hx hb dL_law_257 rfl (lv_at hl 0 rfl) ?_
  refine lv_iconst (v := 2) hx hb dL_law_258 (by decide) ?_
  refine lv_iadd hx hb dL_law_259 ?_
  refine va_sld hx hb hX hbl hbA hS (hi 2 (by decide)) dL_law_260 ?_
  refine ct_callL (As := [.int (xs (Int32.toNatClampNeg (i + 1))), .int (xs (Int32.toNatClampNeg (i + 2)))]) (wc := gwFF cy a kp vN vT vI vJ w pd) (wr := gwM cy ma x) (w1 := gwFF cy a kp vN vT vI vJ w pd) (rest := []) (ci := 3) (q := (RX3, TX3, 6)) hM hK hP hD hS (kX3_person l D cy a kp vN vT vI vJ w pd (xs (Int32.toNatClampNeg (i + 1))) (xs (Int32.toNatClampNeg (i + 2))) o3 h3) kvX3_person wml_L_23 (fstFF _ _ _ _ _ _ _ _ _ _ _ _ _ _) 0 (atFF _ _ _ _ _ _ _) rfl rfl rfl hl.1 rfl ⟨rfl, rfl, Nat.le_of_ble_eq_true rfl, Nat.le_of_ble_eq_true rfl⟩ (Nat.le_of_ble_eq_true rfl) hf dL_law_261 (fun H locs hP hD hS => ?_)
  refine lv_aload_n hx hb dL_law_264 rfl (lv_at hl 1 rfl) ?_
  refine lv_aload_n hx hb dL_law_265 rfl (lv_at hl 3 rfl) ?_
  refine lv_iload_n hx hb dL_law_266 rfl (lv_at hl 0 rfl) ?_
  refine lv_iconst (v := 1) hx hb dL_law_267 (by decide) ?_
  refine lv_iadd hx hb dL_law_268 ?_
  refine va_sld hx hb hX hbl hbA hS (hi 1 (by decide)) dL_law_269 ?_
  refine lv_aload_n hx hb dL_law_270 rfl (lv_at hl 3 rfl) ?_
  refine lv_iload_n hx hb dL_law_271 rfl (lv_at hl 0 rfl) ?_
  refine lv_iconst (v := 2) hx hb dL_law_272 (by decide) ?_
  refine lv_iadd hx hb dL_law_273 ?_
  refine va_sld hx hb hX hbl hbA hS (hi 2 (by decide)) dL_law_274 ?_
  refine ct_callR (As := [.int (xs (Int32.toNatClampNeg (i + 1))), .int (xs (Int32.toNatClampNeg (i + 2)))]) (rest := [.int R3]) (wl := gwFF cy a kp vN vT vI vJ w pd) (wc := gwM cy ma x) (w1 := gwM cy ma x) (ci := 4) (q := (RX4, TX4, 24)) hM hK hP hD hS (kX4_person l D cy ma x (xs (Int32.toNatClampNeg (i + 1))) (xs (Int32.toNatClampNeg (i + 2))) o4 h4) kvX4_person wml_L_27 (fstM _ _) 0 rfl rfl rfl rfl hl.1 rfl ⟨rfl, rfl, Nat.le_of_ble_eq_true rfl, Nat.le_of_ble_eq_true rfl⟩ (Nat.le_of_ble_eq_true rfl) hf dL_law_275 (fun H locs hP hD hS => ?_)
  refine lv_icmp_eq (tgt := 889) hx hb dL_law_278 (by decide) (fun _ => ?_) (fun c7 => absurd heq c7)
  exact kk kp vN vT vI vJ w pd x H locs ls hrel hP hD hS hl
set_option maxHeartbeats 4000000 in
set_option maxRecDepth 100000 in
theorem lc_set (hM : MC p s m #[Value.ref b] meth c RL cL_law 4 ret) (hK : va_K D classes (ctT cy) s) (hX : va_X b L xs s s.heap) (hbl : b < s.heap.size) (hbA : ¬ A b) (hf : cells ≤ room_1.cells ∧ slots ≤ room_1.slots) (hi : ∀ k, k ≤ 5 → vp_in (i + nI k) L) (hRel : Rel kp vN vI vJ pd x) (hP : va_P D classes (LW cy a ma kp vN vT vI vJ w pd x) H) (hD : va_D A (LW cy a ma kp vN vT vI vJ w pd x)) (hS : va_S A s.heap H locs) (hl : lv_has ls 4 (lvs b a ma i)) (kk : LK p l e s m below meth c D cy A a ma b cells slots Q i) :
    W p l e room_1 s m #[Value.ref b] below meth c H locs cells slots Q (F0 m 283 ls []) := by
  obtain ⟨hx, hb, -, hml, hown, hts, -⟩ := id hM
  have hl : lv_has ls 4 [(3, .int i), (2, .ref (ma 0)), (1, .ref (a 0 0)), (0, .ref b)] := hl
  obtain ⟨o3, o4, heq, hrel⟩ := st_set hRel (xs (Int32.toNatClampNeg (i + 1))) (xs (Int32.toNatClampNeg (i + 2)))
  obtain ⟨R3, h3⟩ : ∃ R, fX3_set vN (xs (Int32.toNatClampNeg (i + 1))) (xs (Int32.toNatClampNeg (i + 2))) = R := ⟨_, rfl⟩
  obtain ⟨R4, h4⟩ : ∃ R, fX4_set x (xs (Int32.toNatClampNeg (i + 1))) (xs (Int32.toNatClampNeg (i + 2))) = R := ⟨_, rfl⟩
  rw [h3, h4] at heq hrel
  refine lv_aload_n hx hb dL_law_283 rfl (lv_at hl 2 rfl) ?_
  refine lv_aload_n hx hb dL_law_284 rfl (lv_at hl 3 rfl) ?_
  refine lv_iload_n hx hb dL_law_285 rfl (lv_at hl 0 rfl) ?_
  refine lv_iconst (v := 1) hx hb dL_law_286 (by decide) ?_
  refine lv_iadd hx hb dL_law_287 ?_
  refine va_sld hx hb hX hbl hbA hS (hi 1 (by decide)) dL_law_288 ?_
  refine lv_aload_n hx hb dL_law_289 rfl (lv_at hl 3 rfl) ?_
  refine lv_iload_n hx hb dL_law_290 rfl (lv_at hl 0 rfl) ?_
  refine lv_iconst (v := 2) hx hb dL_law_291 (by decide) ?_
  refine lv_iadd hx hb dL_law_292 ?_
  refine va_sld hx hb hX hbl hbA hS (hi 2 (by decide)) dL_law_293 ?_
  refine ct_callL (As := [.int (xs (Int32.toNatClampNeg (i + 1))), .int (xs (Int32.toNatClampNeg (i + 2)))]) (wc := gwFF cy a kp vN vT vI vJ w pd) (wr := gwM cy ma x) (w1 := gwFF cy a kp R3.2 vT vI vJ w pd) (rest := []) (ci := 3) (q := (RX3, TX3, 6)) hM hK hP hD hS (kX3_set l D cy a kp vN vT vI vJ w pd (xs (Int32.toNatClampNeg (i + 1))) (xs (Int32.toNatClampNeg (i + 2))) o3 h3) kvX3_set wml_L_28 (fstFF _ _ _ _ _ _ _ _ _ _ _ _ _ _) 0 (atFF _ _ _ _ _ _ _) rfl rfl rfl hl.1 rfl ⟨rfl, rfl, Nat.le_of_ble_eq_true rfl, Nat.le_of_ble_eq_true rfl⟩ (Nat.le_of_ble_eq_true rfl) hf dL_law_294 (fun H locs hP hD hS => ?_)
  refine lv_aload_n hx hb dL_law_297 rfl (lv_at hl 1 rfl) ?_
  refine lv_aload_n hx hb dL_law_298 rfl (lv_at hl 3 rfl) ?_
  refine lv_iload_n hx hb dL_law_299 rfl (lv_at hl 0 rfl) ?_
  refine lv_iconst (v := 1) hx hb dL_law_300 (by decide) ?_
  refine lv_iadd hx hb dL_law_301 ?_
  refine va_sld hx hb hX hbl hbA hS (hi 1 (by decide)) dL_law_302 ?_
  refine lv_aload_n hx hb dL_law_303 rfl (lv_at hl 3 rfl) ?_
  refine lv_iload_n hx hb dL_law_304 rfl (lv_at hl 0 rfl) ?_
  refine lv_iconst (v := 2) hx hb dL_law_305 (by decide) ?_
  refine lv_iadd hx hb dL_law_306 ?_
  refine va_sld hx hb hX hbl hbA hS (hi 2 (by decide)) dL_law_307 ?_
  refine ct_callR (As := [.int (xs (Int32.toNatClampNeg (i + 1))), .int (xs (Int32.toNatClampNeg (i + 2)))]) (rest := [.int R3.1]) (wl := gwFF cy a kp R3.2 vT vI vJ w pd) (wc := gwM cy ma x) (w1 := gwM cy ma R4.2) (ci := 4) (q := (RX4, TX4, 24)) hM hK hP hD hS (kX4_set l D cy ma x (xs (Int32.toNatClampNeg (i + 1))) (xs (Int32.toNatClampNeg (i + 2))) o4 h4) kvX4_set wml_L_31 (fstM _ _) 0 rfl rfl rfl rfl hl.1 rfl ⟨rfl, rfl, Nat.le_of_ble_eq_true rfl, Nat.le_of_ble_eq_true rfl⟩ (Nat.le_of_ble_eq_true rfl) hf dL_law_308 (fun H locs hP hD hS => ?_)
  refine lv_icmp_eq (tgt := 889) hx hb dL_law_311 (by decide) (fun _ => ?_) (fun c7 => absurd heq c7)
  exact kk kp R3.2 vT vI vJ w pd R4.2 H locs ls hrel hP hD hS hl
set_option maxHeartbeats 4000000 in
set_option maxRecDepth 100000 in
theorem lc_say (hM : MC p s m #[Value.ref b] meth c RL cL_law 4 ret) (hK : va_K D classes (ctT cy) s) (hX : va_X b L xs s s.heap) (hbl : b < s.heap.size) (hbA : ¬ A b) (hf : cells ≤ room_1.cells ∧ slots ≤ room_1.slots) (hi : ∀ k, k ≤ 5 → vp_in (i + nI k) L) (hRel : Rel kp vN vI vJ pd x) (hP : va_P D classes (LW cy a ma kp vN vT vI vJ w pd x) H) (hD : va_D A (LW cy a ma kp vN vT vI vJ w pd x)) (hS : va_S A s.heap H locs) (hl : lv_has ls 4 (lvs b a ma i)) (kk : LK p l e s m below meth c D cy A a ma b cells slots Q i) :
    W p l e room_1 s m #[Value.ref b] below meth c H locs cells slots Q (F0 m 316 ls []) := by
  obtain ⟨hx, hb, -, hml, hown, hts, -⟩ := id hM
  have hl : lv_has ls 4 [(3, .int i), (2, .ref (ma 0)), (1, .ref (a 0 0)), (0, .ref b)] := hl
  obtain ⟨o3, o4, heq, hrel⟩ := st_say hRel (xs (Int32.toNatClampNeg (i + 1)))
  obtain ⟨R3, h3⟩ : ∃ R, fX3_say pd (xs (Int32.toNatClampNeg (i + 1))) = R := ⟨_, rfl⟩
  obtain ⟨R4, h4⟩ : ∃ R, fX4_say x (xs (Int32.toNatClampNeg (i + 1))) = R := ⟨_, rfl⟩
  rw [h3, h4] at heq hrel
  refine lv_aload_n hx hb dL_law_316 rfl (lv_at hl 2 rfl) ?_
  refine lv_aload_n hx hb dL_law_317 rfl (lv_at hl 3 rfl) ?_
  refine lv_iload_n hx hb dL_law_318 rfl (lv_at hl 0 rfl) ?_
  refine lv_iconst (v := 1) hx hb dL_law_319 (by decide) ?_
  refine lv_iadd hx hb dL_law_320 ?_
  refine va_sld hx hb hX hbl hbA hS (hi 1 (by decide)) dL_law_321 ?_
  refine ct_callL (As := [.int (xs (Int32.toNatClampNeg (i + 1)))]) (wc := gwFF cy a kp vN vT vI vJ w pd) (wr := gwM cy ma x) (w1 := gwFF cy a kp vN vT vI vJ w R3.2) (rest := []) (ci := 3) (q := (RX3, TX3, 6)) hM hK hP hD hS (kX3_say l D cy a kp vN vT vI vJ w pd (xs (Int32.toNatClampNeg (i + 1))) o3 h3) kvX3_say wml_L_32 (fstFF _ _ _ _ _ _ _ _ _ _ _ _ _ _) 0 (atFF _ _ _ _ _ _ _) rfl rfl rfl hl.1 rfl ⟨rfl, rfl, Nat.le_of_ble_eq_true rfl, Nat.le_of_ble_eq_true rfl⟩ (Nat.le_of_ble_eq_true rfl) hf dL_law_322 (fun H locs hP hD hS => ?_)
  refine lv_aload_n hx hb dL_law_325 rfl (lv_at hl 1 rfl) ?_
  refine lv_aload_n hx hb dL_law_326 rfl (lv_at hl 3 rfl) ?_
  refine lv_iload_n hx hb dL_law_327 rfl (lv_at hl 0 rfl) ?_
  refine lv_iconst (v := 1) hx hb dL_law_328 (by decide) ?_
  refine lv_iadd hx hb dL_law_329 ?_
  refine va_sld hx hb hX hbl hbA hS (hi 1 (by decide)) dL_law_330 ?_
  refine ct_callR (As := [.int (xs (Int32.toNatClampNeg (i + 1)))]) (rest := [.int R3.1]) (wl := gwFF cy a kp vN vT vI vJ w R3.2) (wc := gwM cy ma x) (w1 := gwM cy ma R4.2) (ci := 4) (q := (RX4, TX4, 24)) hM hK hP hD hS (kX4_say l D cy ma x (xs (Int32.toNatClampNeg (i + 1))) o4 h4) kvX4_say wml_L_35 (fstM _ _) 0 rfl rfl rfl rfl hl.1 rfl ⟨rfl, rfl, Nat.le_of_ble_eq_true rfl, Nat.le_of_ble_eq_true rfl⟩ (Nat.le_of_ble_eq_true rfl) hf dL_law_331 (fun H locs hP hD hS => ?_)
  refine lv_icmp_eq (tgt := 889) hx hb dL_law_334 (by decide) (fun _ => ?_) (fun c7 => absurd heq c7)
  exact kk kp vN vT vI vJ w R3.2 R4.2 H locs ls hrel hP hD hS hl
set_option maxHeartbeats 4000000 in
set_option maxRecDepth 100000 in
theorem lc_wipe (hM : MC p s m #[Value.ref b] meth c RL cL_law 4 ret) (hK : va_K D classes (ctT cy) s) (hX : va_X b L xs s s.heap) (hbl : b < s.heap.size) (hbA : ¬ A b) (hf : cells ≤ room_1.cells ∧ slots ≤ room_1.slots) (hi : ∀ k, k ≤ 5 → vp_in (i + nI k) L) (hRel : Rel kp vN vI vJ pd x) (hP : va_P D classes (LW cy a ma kp vN vT vI vJ w pd x) H) (hD : va_D A (LW cy a ma kp vN vT vI vJ w pd x)) (hS : va_S A s.heap H locs) (hl : lv_has ls 4 (lvs b a ma i)) (kk : LK p l e s m below meth c D cy A a ma b cells slots Q i) :
    W p l e room_1 s m #[Value.ref b] below meth c H locs cells slots Q (F0 m 339 ls []) := by
  obtain ⟨hx, hb, -, hml, hown, hts, -⟩ := id hM
  have hl : lv_has ls 4 [(3, .int i), (2, .ref (ma 0)), (1, .ref (a 0 0)), (0, .ref b)] := hl
  obtain ⟨o3, o4, heq, hrel⟩ := st_wipe hRel 
  obtain ⟨R3, h3⟩ : ∃ R, fX3_wipe pd = R := ⟨_, rfl⟩
  obtain ⟨R4, h4⟩ : ∃ R, fX4_wipe x = R := ⟨_, rfl⟩
  rw [h3, h4] at heq hrel
  refine lv_aload_n hx hb dL_law_339 rfl (lv_at hl 2 rfl) ?_
  refine ct_callL (As := []) (wc := gwFF cy a kp vN vT vI vJ w pd) (wr := gwM cy ma x) (w1 := gwFF cy a kp vN vT vI vJ w R3.2) (rest := []) (ci := 3) (q := (RX3, TX3, 6)) hM hK hP hD hS (kX3_wipe l D cy a kp vN vT vI vJ w pd  o3 h3) kvX3_wipe wml_L_36 (fstFF _ _ _ _ _ _ _ _ _ _ _ _ _ _) 0 (atFF _ _ _ _ _ _ _) rfl rfl rfl hl.1 rfl ⟨rfl, rfl, Nat.le_of_ble_eq_true rfl, Nat.le_of_ble_eq_true rfl⟩ (Nat.le_of_ble_eq_true rfl) hf dL_law_340 (fun H locs hP hD hS => ?_)
  refine lv_aload_n hx hb dL_law_343 rfl (lv_at hl 1 rfl) ?_
  refine ct_callR (As := []) (rest := [.int R3.1]) (wl := gwFF cy a kp vN vT vI vJ w R3.2) (wc := gwM cy ma x) (w1 := gwM cy ma R4.2) (ci := 4) (q := (RX4, TX4, 24)) hM hK hP hD hS (kX4_wipe l D cy ma x  o4 h4) kvX4_wipe wml_L_40 (fstM _ _) 0 rfl rfl rfl rfl hl.1 rfl ⟨rfl, rfl, Nat.le_of_ble_eq_true rfl, Nat.le_of_ble_eq_true rfl⟩ (Nat.le_of_ble_eq_true rfl) hf dL_law_344 (fun H locs hP hD hS => ?_)
  refine lv_icmp_eq (tgt := 889) hx hb dL_law_347 (by decide) (fun _ => ?_) (fun c7 => absurd heq c7)
  exact kk kp vN vT vI vJ w R3.2 R4.2 H locs ls hrel hP hD hS hl
set_option maxHeartbeats 4000000 in
set_option maxRecDepth 100000 in
theorem lc_fault (hM : MC p s m #[Value.ref b] meth c RL cL_law 4 ret) (hK : va_K D classes (ctT cy) s) (hX : va_X b L xs s s.heap) (hbl : b < s.heap.size) (hbA : ¬ A b) (hf : cells ≤ room_1.cells ∧ slots ≤ room_1.slots) (hi : ∀ k, k ≤ 5 → vp_in (i + nI k) L) (hRel : Rel kp vN vI vJ pd x) (hP : va_P D classes (LW cy a ma kp vN vT vI vJ w pd x) H) (hD : va_D A (LW cy a ma kp vN vT vI vJ w pd x)) (hS : va_S A s.heap H locs) (hl : lv_has ls 4 (lvs b a ma i)) (kk : LK p l e s m below meth c D cy A a ma b cells slots Q i) :
    W p l e room_1 s m #[Value.ref b] below meth c H locs cells slots Q (F0 m 352 ls []) := by
  obtain ⟨hx, hb, -, hml, hown, hts, -⟩ := id hM
  have hl : lv_has ls 4 [(3, .int i), (2, .ref (ma 0)), (1, .ref (a 0 0)), (0, .ref b)] := hl
  obtain ⟨o3, o4, heq⟩ := st_fault hRel 
  have hrel := hRel
  obtain ⟨R3, h3⟩ : ∃ R, fX3_fault vN pd = R := ⟨_, rfl⟩
  obtain ⟨R4, h4⟩ : ∃ R, fX4_fault x = R := ⟨_, rfl⟩
  rw [h3, h4] at heq
  refine lv_aload_n hx hb dL_law_352 rfl (lv_at hl 2 rfl) ?_
  refine ct_callL (As := []) (wc := gwFF cy a kp vN vT vI vJ w pd) (wr := gwM cy ma x) (w1 := gwFF cy a kp vN vT vI vJ w pd) (rest := []) (ci := 3) (q := (RX3, TX3, 6)) hM hK hP hD hS (kX3_fault l D cy a kp vN vT vI vJ w pd  o3 h3) kvX3_fault wml_L_41 (fstFF _ _ _ _ _ _ _ _ _ _ _ _ _ _) 0 (atFF _ _ _ _ _ _ _) rfl rfl rfl hl.1 rfl ⟨rfl, rfl, Nat.le_of_ble_eq_true rfl, Nat.le_of_ble_eq_true rfl⟩ (Nat.le_of_ble_eq_true rfl) hf dL_law_353 (fun H locs hP hD hS => ?_)
  refine lv_aload_n hx hb dL_law_356 rfl (lv_at hl 1 rfl) ?_
  refine ct_callR (As := []) (rest := [.int R3]) (wl := gwFF cy a kp vN vT vI vJ w pd) (wc := gwM cy ma x) (w1 := gwM cy ma x) (ci := 4) (q := (RX4, TX4, 24)) hM hK hP hD hS (kX4_fault l D cy ma x  o4 h4) kvX4_fault wml_L_44 (fstM _ _) 0 rfl rfl rfl rfl hl.1 rfl ⟨rfl, rfl, Nat.le_of_ble_eq_true rfl, Nat.le_of_ble_eq_true rfl⟩ (Nat.le_of_ble_eq_true rfl) hf dL_law_357 (fun H locs hP hD hS => ?_)
  refine lv_icmp_eq (tgt := 889) hx hb dL_law_360 (by decide) (fun _ => ?_) (fun c7 => absurd heq c7)
  exact kk kp vN vT vI vJ w pd x H locs ls hrel hP hD hS hl
set_option maxHeartbeats 4000000 in
set_option maxRecDepth 100000 in
theorem lc_served (hM : MC p s m #[Value.ref b] meth c RL cL_law 4 ret) (hK : va_K D classes (ctT cy) s) (hX : va_X b L xs s s.heap) (hbl : b < s.heap.size) (hbA : ¬ A b) (hf : cells ≤ room_1.cells ∧ slots ≤ room_1.slots) (hi : ∀ k, k ≤ 5 → vp_in (i + nI k) L) (hRel : Rel kp vN vI vJ pd x) (hP : va_P D classes (LW cy a ma kp vN vT vI vJ w pd x) H) (hD : va_D A (LW cy a ma kp vN vT vI vJ w pd x)) (hS : va_S A s.heap H locs) (hl : lv_has ls 4 (lvs b a ma i)) (kk : LK p l e s m below meth c D cy A a ma b cells slots Q i) :
    W p l e room_1 s m #[Value.ref b] below meth c H locs cells slots Q (F0 m 365 ls []) := by
  obtain ⟨hx, hb, -, hml, hown, hts, -⟩ := id hM
  have hl : lv_has ls 4 [(3, .int i), (2, .ref (ma 0)), (1, .ref (a 0 0)), (0, .ref b)] := hl
  obtain ⟨o3, o4, heq, hrel⟩ := st_served hRel w (xs (Int32.toNatClampNeg (i + 1)))
  obtain ⟨R3, h3⟩ : ∃ R, fX3_served vN w (xs (Int32.toNatClampNeg (i + 1))) = R := ⟨_, rfl⟩
  obtain ⟨R4, h4⟩ : ∃ R, fX4_served x (xs (Int32.toNatClampNeg (i + 1))) = R := ⟨_, rfl⟩
  rw [h3, h4] at heq; rw [h4] at hrel
  refine lv_aload_n hx hb dL_law_365 rfl (lv_at hl 2 rfl) ?_
  refine lv_aload_n hx hb dL_law_366 rfl (lv_at hl 3 rfl) ?_
  refine lv_iload_n hx hb dL_law_367 rfl (lv_at hl 0 rfl) ?_
  refine lv_iconst (v := 1) hx hb dL_law_368 (by decide) ?_
  refine lv_iadd hx hb dL_law_369 ?_
  refine va_sld hx hb hX hbl hbA hS (hi 1 (by decide)) dL_law_370 ?_
  refine ct_callL (As := [.int (xs (Int32.toNatClampNeg (i + 1)))]) (wc := gwFF cy a kp vN vT vI vJ w pd) (wr := gwM cy ma x) (w1 := gwFF cy a kp vN vT vI vJ R3.2 pd) (rest := []) (ci := 3) (q := (RX3, TX3, 6)) hM hK hP hD hS (kX3_served l D cy a kp vN vT vI vJ w pd (xs (Int32.toNatClampNeg (i + 1))) o3 h3) kvX3_served wml_L_45 (fstFF _ _ _ _ _ _ _ _ _ _ _ _ _ _) 0 (atFF _ _ _ _ _ _ _) rfl rfl rfl hl.1 rfl ⟨rfl, rfl, Nat.le_of_ble_eq_true rfl, Nat.le_of_ble_eq_true rfl⟩ (Nat.le_of_ble_eq_true rfl) hf dL_law_371 (fun H locs hP hD hS => ?_)
  refine lv_aload_n hx hb dL_law_374 rfl (lv_at hl 1 rfl) ?_
  refine lv_aload_n hx hb dL_law_375 rfl (lv_at hl 3 rfl) ?_
  refine lv_iload_n hx hb dL_law_376 rfl (lv_at hl 0 rfl) ?_
  refine lv_iconst (v := 1) hx hb dL_law_377 (by decide) ?_
  refine lv_iadd hx hb dL_law_378 ?_
  refine va_sld hx hb hX hbl hbA hS (hi 1 (by decide)) dL_law_379 ?_
  refine ct_callR (As := [.int (xs (Int32.toNatClampNeg (i + 1)))]) (rest := [.int R3.1]) (wl := gwFF cy a kp vN vT vI vJ R3.2 pd) (wc := gwM cy ma x) (w1 := gwM cy ma R4.2) (ci := 4) (q := (RX4, TX4, 24)) hM hK hP hD hS (kX4_served l D cy ma x (xs (Int32.toNatClampNeg (i + 1))) o4 h4) kvX4_served wml_L_48 (fstM _ _) 0 rfl rfl rfl rfl hl.1 rfl ⟨rfl, rfl, Nat.le_of_ble_eq_true rfl, Nat.le_of_ble_eq_true rfl⟩ (Nat.le_of_ble_eq_true rfl) hf dL_law_380 (fun H locs hP hD hS => ?_)
  refine lv_icmp_eq (tgt := 889) hx hb dL_law_383 (by decide) (fun _ => ?_) (fun c7 => absurd heq c7)
  exact kk kp vN vT vI vJ R3.2 pd R4.2 H locs ls hrel hP hD hS hl
set_option maxHeartbeats 4000000 in
set_option maxRecDepth 100000 in
theorem lc_waits (hM : MC p s m #[Value.ref b] meth c RL cL_law 4 ret) (hK : va_K D classes (ctT cy) s) (hX : va_X b L xs s s.heap) (hbl : b < s.heap.size) (hbA : ¬ A b) (hf : cells ≤ room_1.cells ∧ slots ≤ room_1.slots) (hi : ∀ k, k ≤ 5 → vp_in (i + nI k) L) (hRel : Rel kp vN vI vJ pd x) (hP : va_P D classes (LW cy a ma kp vN vT vI vJ w pd x) H) (hD : va_D A (LW cy a ma kp vN vT vI vJ w pd x)) (hS : va_S A s.heap H locs) (hl : lv_has ls 4 (lvs b a ma i)) (kk : LK p l e s m below meth c D cy A a ma b cells slots Q i) :
    W p l e room_1 s m #[Value.ref b] below meth c H locs cells slots Q (F0 m 388 ls []) := by
  obtain ⟨hx, hb, -, hml, hown, hts, -⟩ := id hM
  have hl : lv_has ls 4 [(3, .int i), (2, .ref (ma 0)), (1, .ref (a 0 0)), (0, .ref b)] := hl
  obtain ⟨o3, o4, heq, hrel⟩ := st_waits hRel w (xs (Int32.toNatClampNeg (i + 1))) (xs (Int32.toNatClampNeg (i + 2)))
  obtain ⟨R3, h3⟩ : ∃ R, fX3_waits vN w (xs (Int32.toNatClampNeg (i + 1))) (xs (Int32.toNatClampNeg (i + 2))) = R := ⟨_, rfl⟩
  obtain ⟨R4, h4⟩ : ∃ R, fX4_waits x (xs (Int32.toNatClampNeg (i + 1))) (xs (Int32.toNatClampNeg (i + 2))) = R := ⟨_, rfl⟩
  rw [h3, h4] at heq; rw [h4] at hrel
  refine lv_aload_n hx hb dL_law_388 rfl (lv_at hl 2 rfl) ?_
  refine lv_aload_n hx hb dL_law_389 rfl (lv_at hl 3 rfl) ?_
  refine lv_iload_n hx hb dL_law_390 rfl (lv_at hl 0 rfl) ?_
  refine lv_iconst (v := 1) hx hb dL_law_391 (by decide) ?_
  refine lv_iadd hx hb dL_law_392 ?_
  refine va_sld hx hb hX hbl hbA hS (hi 1 (by decide)) dL_law_393 ?_
  refine lv_aload_n hx hb dL_law_394 rfl (lv_at hl 3 rfl) ?_
  refine lv_iload_n hx hb dL_law_395 rfl (lv_at hl 0 rfl) ?_
  refine lv_iconst (v := 2) hx hb dL_law_396 (by decide) ?_
  refine lv_iadd hx hb dL_law_397 ?_
  refine va_sld hx hb hX hbl hbA hS (hi 2 (by decide)) dL_law_398 ?_
  refine ct_callL (As := [.int (xs (Int32.toNatClampNeg (i + 1))), .int (xs (Int32.toNatClampNeg (i + 2)))]) (wc := gwFF cy a kp vN vT vI vJ w pd) (wr := gwM cy ma x) (w1 := gwFF cy a kp vN vT vI vJ R3.2 pd) (rest := []) (ci := 3) (q := (RX3, TX3, 6)) hM hK hP hD hS (kX3_waits l D cy a kp vN vT vI vJ w pd (xs (Int32.toNatClampNeg (i + 1))) (xs (Int32.toNatClampNeg (i + 2))) o3 h3) kvX3_waits wml_L_49 (fstFF _ _ _ _ _ _ _ _ _ _ _ _ _ _) 0 (atFF _ _ _ _ _ _ _) rfl rfl rfl hl.1 rfl ⟨rfl, rfl, Nat.le_of_ble_eq_true rfl, Nat.le_of_ble_eq_true rfl⟩ (Nat.le_of_ble_eq_true rfl) hf dL_law_399 (fun H locs hP hD hS => ?_)
  refine lv_aload_n hx hb dL_law_402 rfl (lv_at hl 1 rfl) ?_
  refine lv_aload_n hx hb dL_law_403 rfl (lv_at hl 3 rfl) ?_
  refine lv_iload_n hx hb dL_law_404 rfl (lv_at hl 0 rfl) ?_
  refine lv_iconst (v := 1) hx hb dL_law_405 (by decide) ?_
  refine lv_iadd hx hb dL_law_406 ?_
  refine va_sld hx hb hX hbl hbA hS (hi 1 (by decide)) dL_law_407 ?_
  refine lv_aload_n hx hb dL_law_408 rfl (lv_at hl 3 rfl) ?_
  refine lv_iload_n hx hb dL_law_409 rfl (lv_at hl 0 rfl) ?_
  refine lv_iconst (v := 2) hx hb dL_law_410 (by decide) ?_
  refine lv_iadd hx hb dL_law_411 ?_
  refine va_sld hx hb hX hbl hbA hS (hi 2 (by decide)) dL_law_412 ?_
  refine ct_callR (As := [.int (xs (Int32.toNatClampNeg (i + 1))), .int (xs (Int32.toNatClampNeg (i + 2)))]) (rest := [.int R3.1]) (wl := gwFF cy a kp vN vT vI vJ R3.2 pd) (wc := gwM cy ma x) (w1 := gwM cy ma R4.2) (ci := 4) (q := (RX4, TX4, 24)) hM hK hP hD hS (kX4_waits l D cy ma x (xs (Int32.toNatClampNeg (i + 1))) (xs (Int32.toNatClampNeg (i + 2))) o4 h4) kvX4_waits wml_L_52 (fstM _ _) 0 rfl rfl rfl rfl hl.1 rfl ⟨rfl, rfl, Nat.le_of_ble_eq_true rfl, Nat.le_of_ble_eq_true rfl⟩ (Nat.le_of_ble_eq_true rfl) hf dL_law_413 (fun H locs hP hD hS => ?_)
  refine lv_icmp_eq (tgt := 889) hx hb dL_law_416 (by decide) (fun _ => ?_) (fun c7 => absurd heq c7)
  exact kk kp vN vT vI vJ R3.2 pd R4.2 H locs ls hrel hP hD hS hl
set_option maxHeartbeats 4000000 in
set_option maxRecDepth 100000 in
theorem lc_all (hM : MC p s m #[Value.ref b] meth c RL cL_law 4 ret) (hK : va_K D classes (ctT cy) s) (hX : va_X b L xs s s.heap) (hbl : b < s.heap.size) (hbA : ¬ A b) (hf : cells ≤ room_1.cells ∧ slots ≤ room_1.slots) (hi : ∀ k, k ≤ 5 → vp_in (i + nI k) L) (hRel : Rel kp vN vI vJ pd x) (hP : va_P D classes (LW cy a ma kp vN vT vI vJ w pd x) H) (hD : va_D A (LW cy a ma kp vN vT vI vJ w pd x)) (hS : va_S A s.heap H locs) (hl : lv_has ls 4 (lvs b a ma i)) (kk : LK p l e s m below meth c D cy A a ma b cells slots Q i) :
    W p l e room_1 s m #[Value.ref b] below meth c H locs cells slots Q (F0 m 421 ls []) := by
  obtain ⟨hx, hb, -, hml, hown, hts, -⟩ := id hM
  have hl : lv_has ls 4 [(3, .int i), (2, .ref (ma 0)), (1, .ref (a 0 0)), (0, .ref b)] := hl
  obtain ⟨o3, o4, heq, hrel⟩ := st_all hRel w (xs (Int32.toNatClampNeg (i + 1)))
  obtain ⟨R3, h3⟩ : ∃ R, fX3_all vN w (xs (Int32.toNatClampNeg (i + 1))) = R := ⟨_, rfl⟩
  obtain ⟨R4, h4⟩ : ∃ R, fX4_all x (xs (Int32.toNatClampNeg (i + 1))) = R := ⟨_, rfl⟩
  rw [h3, h4] at heq; rw [h4] at hrel
  refine lv_aload_n hx hb dL_law_421 rfl (lv_at hl 2 rfl) ?_
  refine lv_aload_n hx hb dL_law_422 rfl (lv_at hl 3 rfl) ?_
  refine lv_iload_n hx hb dL_law_423 rfl (lv_at hl 0 rfl) ?_
  refine lv_iconst (v := 1) hx hb dL_law_424 (by decide) ?_
  refine lv_iadd hx hb dL_law_425 ?_
  refine va_sld hx hb hX hbl hbA hS (hi 1 (by decide)) dL_law_426 ?_
  refine ct_callL (As := [.int (xs (Int32.toNatClampNeg (i + 1)))]) (wc := gwFF cy a kp vN vT vI vJ w pd) (wr := gwM cy ma x) (w1 := gwFF cy a kp vN vT vI vJ R3.2 pd) (rest := []) (ci := 3) (q := (RX3, TX3, 6)) hM hK hP hD hS (kX3_all l D cy a kp vN vT vI vJ w pd (xs (Int32.toNatClampNeg (i + 1))) o3 h3) kvX3_all wml_L_53 (fstFF _ _ _ _ _ _ _ _ _ _ _ _ _ _) 0 (atFF _ _ _ _ _ _ _) rfl rfl rfl hl.1 rfl ⟨rfl, rfl, Nat.le_of_ble_eq_true rfl, Nat.le_of_ble_eq_true rfl⟩ (Nat.le_of_ble_eq_true rfl) hf dL_law_427 (fun H locs hP hD hS => ?_)
  refine lv_aload_n hx hb dL_law_430 rfl (lv_at hl 1 rfl) ?_
  refine lv_aload_n hx hb dL_law_431 rfl (lv_at hl 3 rfl) ?_
  refine lv_iload_n hx hb dL_law_432 rfl (lv_at hl 0 rfl) ?_
  refine lv_iconst (v := 1) hx hb dL_law_433 (by decide) ?_
  refine lv_iadd hx hb dL_law_434 ?_
  refine va_sld hx hb hX hbl hbA hS (hi 1 (by decide)) dL_law_435 ?_
  refine ct_callR (As := [.int (xs (Int32.toNatClampNeg (i + 1)))]) (rest := [.int R3.1]) (wl := gwFF cy a kp vN vT vI vJ R3.2 pd) (wc := gwM cy ma x) (w1 := gwM cy ma R4.2) (ci := 4) (q := (RX4, TX4, 24)) hM hK hP hD hS (kX4_all l D cy ma x (xs (Int32.toNatClampNeg (i + 1))) o4 h4) kvX4_all wml_L_56 (fstM _ _) 0 rfl rfl rfl rfl hl.1 rfl ⟨rfl, rfl, Nat.le_of_ble_eq_true rfl, Nat.le_of_ble_eq_true rfl⟩ (Nat.le_of_ble_eq_true rfl) hf dL_law_436 (fun H locs hP hD hS => ?_)
  refine lv_icmp_eq (tgt := 889) hx hb dL_law_439 (by decide) (fun _ => ?_) (fun c7 => absurd heq c7)
  exact kk kp vN vT vI vJ R3.2 pd R4.2 H locs ls hrel hP hD hS hl
set_option maxHeartbeats 4000000 in
set_option maxRecDepth 100000 in
theorem lc_judge (hM : MC p s m #[Value.ref b] meth c RL cL_law 4 ret) (hK : va_K D classes (ctT cy) s) (hX : va_X b L xs s s.heap) (hbl : b < s.heap.size) (hbA : ¬ A b) (hf : cells ≤ room_1.cells ∧ slots ≤ room_1.slots) (hi : ∀ k, k ≤ 5 → vp_in (i + nI k) L) (hRel : Rel kp vN vI vJ pd x) (hP : va_P D classes (LW cy a ma kp vN vT vI vJ w pd x) H) (hD : va_D A (LW cy a ma kp vN vT vI vJ w pd x)) (hS : va_S A s.heap H locs) (hl : lv_has ls 4 (lvs b a ma i)) (kk : LK p l e s m below meth c D cy A a ma b cells slots Q i) :
    W p l e room_1 s m #[Value.ref b] below meth c H locs cells slots Q (F0 m 444 ls []) := by
  obtain ⟨hx, hb, -, hml, hown, hts, -⟩ := id hM
  have hl : lv_has ls 4 [(3, .int i), (2, .ref (ma 0)), (1, .ref (a 0 0)), (0, .ref b)] := hl
  obtain ⟨o3, o4, heq, hrel⟩ := st_judge hRel w (xs (Int32.toNatClampNeg (i + 1)))
  obtain ⟨R3, h3⟩ : ∃ R, fX3_judge vN w pd (xs (Int32.toNatClampNeg (i + 1))) = R := ⟨_, rfl⟩
  obtain ⟨R4, h4⟩ : ∃ R, fX4_judge x (xs (Int32.toNatClampNeg (i + 1))) = R := ⟨_, rfl⟩
  rw [h3, h4] at heq; rw [h4] at hrel
  refine lv_aload_n hx hb dL_law_444 rfl (lv_at hl 2 rfl) ?_
  refine lv_aload_n hx hb dL_law_445 rfl (lv_at hl 3 rfl) ?_
  refine lv_iload_n hx hb dL_law_446 rfl (lv_at hl 0 rfl) ?_
  refine lv_iconst (v := 1) hx hb dL_law_447 (by decide) ?_
  refine lv_iadd hx hb dL_law_448 ?_
  refine va_sld hx hb hX hbl hbA hS (hi 1 (by decide)) dL_law_449 ?_
  refine ct_callL (As := [.int (xs (Int32.toNatClampNeg (i + 1)))]) (wc := gwFF cy a kp vN vT vI vJ w pd) (wr := gwM cy ma x) (w1 := gwFF cy a kp vN vT vI vJ R3.2 pd) (rest := []) (ci := 3) (q := (RX3, TX3, 6)) hM hK hP hD hS (kX3_judge l D cy a kp vN vT vI vJ w pd (xs (Int32.toNatClampNeg (i + 1))) o3 h3) kvX3_judge wml_L_57 (fstFF _ _ _ _ _ _ _ _ _ _ _ _ _ _) 0 (atFF _ _ _ _ _ _ _) rfl rfl rfl hl.1 rfl ⟨rfl, rfl, Nat.le_of_ble_eq_true rfl, Nat.le_of_ble_eq_true rfl⟩ (Nat.le_of_ble_eq_true rfl) hf dL_law_450 (fun H locs hP hD hS => ?_)
  refine lv_aload_n hx hb dL_law_453 rfl (lv_at hl 1 rfl) ?_
  refine lv_aload_n hx hb dL_law_454 rfl (lv_at hl 3 rfl) ?_
  refine lv_iload_n hx hb dL_law_455 rfl (lv_at hl 0 rfl) ?_
  refine lv_iconst (v := 1) hx hb dL_law_456 (by decide) ?_
  refine lv_iadd hx hb dL_law_457 ?_
  refine va_sld hx hb hX hbl hbA hS (hi 1 (by decide)) dL_law_458 ?_
  refine ct_callR (As := [.int (xs (Int32.toNatClampNeg (i + 1)))]) (rest := [.int R3.1]) (wl := gwFF cy a kp vN vT vI vJ R3.2 pd) (wc := gwM cy ma x) (w1 := gwM cy ma R4.2) (ci := 4) (q := (RX4, TX4, 24)) hM hK hP hD hS (kX4_judge l D cy ma x (xs (Int32.toNatClampNeg (i + 1))) o4 h4) kvX4_judge wml_L_60 (fstM _ _) 0 rfl rfl rfl rfl hl.1 rfl ⟨rfl, rfl, Nat.le_of_ble_eq_true rfl, Nat.le_of_ble_eq_true rfl⟩ (Nat.le_of_ble_eq_true rfl) hf dL_law_459 (fun H locs hP hD hS => ?_)
  refine lv_icmp_eq (tgt := 889) hx hb dL_law_462 (by decide) (fun _ => ?_) (fun c7 => absurd heq c7)
  exact kk kp vN vT vI vJ R3.2 pd R4.2 H locs ls hrel hP hD hS hl
set_option maxHeartbeats 4000000 in
set_option maxRecDepth 100000 in
theorem lc_left (hM : MC p s m #[Value.ref b] meth c RL cL_law 4 ret) (hK : va_K D classes (ctT cy) s) (hX : va_X b L xs s s.heap) (hbl : b < s.heap.size) (hbA : ¬ A b) (hf : cells ≤ room_1.cells ∧ slots ≤ room_1.slots) (hi : ∀ k, k ≤ 5 → vp_in (i + nI k) L) (hRel : Rel kp vN vI vJ pd x) (hP : va_P D classes (LW cy a ma kp vN vT vI vJ w pd x) H) (hD : va_D A (LW cy a ma kp vN vT vI vJ w pd x)) (hS : va_S A s.heap H locs) (hl : lv_has ls 4 (lvs b a ma i)) (kk : LK p l e s m below meth c D cy A a ma b cells slots Q i) :
    W p l e room_1 s m #[Value.ref b] below meth c H locs cells slots Q (F0 m 467 ls []) := by
  obtain ⟨hx, hb, -, hml, hown, hts, -⟩ := id hM
  have hl : lv_has ls 4 [(3, .int i), (2, .ref (ma 0)), (1, .ref (a 0 0)), (0, .ref b)] := hl
  obtain ⟨o3, o4, heq, hrel⟩ := st_left hRel w (xs (Int32.toNatClampNeg (i + 1))) (xs (Int32.toNatClampNeg (i + 2)))
  obtain ⟨R3, h3⟩ : ∃ R, fX3_left vN w (xs (Int32.toNatClampNeg (i + 1))) (xs (Int32.toNatClampNeg (i + 2))) = R := ⟨_, rfl⟩
  obtain ⟨R4, h4⟩ : ∃ R, fX4_left x (xs (Int32.toNatClampNeg (i + 1))) (xs (Int32.toNatClampNeg (i + 2))) = R := ⟨_, rfl⟩
  rw [h3, h4] at heq; rw [h4] at hrel
  refine lv_aload_n hx hb dL_law_467 rfl (lv_at hl 2 rfl) ?_
  refine lv_aload_n hx hb dL_law_468 rfl (lv_at hl 3 rfl) ?_
  refine lv_iload_n hx hb dL_law_469 rfl (lv_at hl 0 rfl) ?_
  refine lv_iconst (v := 1) hx hb dL_law_470 (by decide) ?_
  refine lv_iadd hx hb dL_law_471 ?_
  refine va_sld hx hb hX hbl hbA hS (hi 1 (by decide)) dL_law_472 ?_
  refine lv_aload_n hx hb dL_law_473 rfl (lv_at hl 3 rfl) ?_
  refine lv_iload_n hx hb dL_law_474 rfl (lv_at hl 0 rfl) ?_
  refine lv_iconst (v := 2) hx hb dL_law_475 (by decide) ?_
  refine lv_iadd hx hb dL_law_476 ?_
  refine va_sld hx hb hX hbl hbA hS (hi 2 (by decide)) dL_law_477 ?_
  refine ct_callL (As := [.int (xs (Int32.toNatClampNeg (i + 1))), .int (xs (Int32.toNatClampNeg (i + 2)))]) (wc := gwFF cy a kp vN vT vI vJ w pd) (wr := gwM cy ma x) (w1 := gwFF cy a kp vN vT vI vJ R3.2 pd) (rest := []) (ci := 3) (q := (RX3, TX3, 6)) hM hK hP hD hS (kX3_left l D cy a kp vN vT vI vJ w pd (xs (Int32.toNatClampNeg (i + 1))) (xs (Int32.toNatClampNeg (i + 2))) o3 h3) kvX3_left wml_L_61 (fstFF _ _ _ _ _ _ _ _ _ _ _ _ _ _) 0 (atFF _ _ _ _ _ _ _) rfl rfl rfl hl.1 rfl ⟨rfl, rfl, Nat.le_of_ble_eq_true rfl, Nat.le_of_ble_eq_true rfl⟩ (Nat.le_of_ble_eq_true rfl) hf dL_law_478 (fun H locs hP hD hS => ?_)
  refine lv_aload_n hx hb dL_law_481 rfl (lv_at hl 1 rfl) ?_
  refine lv_aload_n hx hb dL_law_482 rfl (lv_at hl 3 rfl) ?_
  refine lv_iload_n hx hb dL_law_483 rfl (lv_at hl 0 rfl) ?_
  refine lv_iconst (v := 1) hx hb dL_law_484 (by decide) ?_
  refine lv_iadd hx hb dL_law_485 ?_
  refine va_sld hx hb hX hbl hbA hS (hi 1 (by decide)) dL_law_486 ?_
  refine lv_aload_n hx hb dL_law_487 rfl (lv_at hl 3 rfl) ?_
  refine lv_iload_n hx hb dL_law_488 rfl (lv_at hl 0 rfl) ?_
  refine lv_iconst (v := 2) hx hb dL_law_489 (by decide) ?_
  refine lv_iadd hx hb dL_law_490 ?_
  refine va_sld hx hb hX hbl hbA hS (hi 2 (by decide)) dL_law_491 ?_
  refine ct_callR (As := [.int (xs (Int32.toNatClampNeg (i + 1))), .int (xs (Int32.toNatClampNeg (i + 2)))]) (rest := [.int R3.1]) (wl := gwFF cy a kp vN vT vI vJ R3.2 pd) (wc := gwM cy ma x) (w1 := gwM cy ma R4.2) (ci := 4) (q := (RX4, TX4, 24)) hM hK hP hD hS (kX4_left l D cy ma x (xs (Int32.toNatClampNeg (i + 1))) (xs (Int32.toNatClampNeg (i + 2))) o4 h4) kvX4_left wml_L_64 (fstM _ _) 0 rfl rfl rfl rfl hl.1 rfl ⟨rfl, rfl, Nat.le_of_ble_eq_true rfl, Nat.le_of_ble_eq_true rfl⟩ (Nat.le_of_ble_eq_true rfl) hf dL_law_492 (fun H locs hP hD hS => ?_)
  refine lv_icmp_eq (tgt := 889) hx hb dL_law_495 (by decide) (fun _ => ?_) (fun c7 => absurd heq c7)
  exact kk kp vN vT vI vJ R3.2 pd R4.2 H locs ls hrel hP hD hS hl
set_option maxHeartbeats 4000000 in
set_option maxRecDepth 100000 in
theorem lc_best (hM : MC p s m #[Value.ref b] meth c RL cL_law 4 ret) (hK : va_K D classes (ctT cy) s) (hX : va_X b L xs s s.heap) (hbl : b < s.heap.size) (hbA : ¬ A b) (hf : cells ≤ room_1.cells ∧ slots ≤ room_1.slots) (hi : ∀ k, k ≤ 5 → vp_in (i + nI k) L) (hRel : Rel kp vN vI vJ pd x) (hP : va_P D classes (LW cy a ma kp vN vT vI vJ w pd x) H) (hD : va_D A (LW cy a ma kp vN vT vI vJ w pd x)) (hS : va_S A s.heap H locs) (hl : lv_has ls 4 (lvs b a ma i)) (kk : LK p l e s m below meth c D cy A a ma b cells slots Q i) :
    W p l e room_1 s m #[Value.ref b] below meth c H locs cells slots Q (F0 m 500 ls []) := by
  obtain ⟨hx, hb, -, hml, hown, hts, -⟩ := id hM
  have hl : lv_has ls 4 [(3, .int i), (2, .ref (ma 0)), (1, .ref (a 0 0)), (0, .ref b)] := hl
  obtain ⟨o3, o4, heq, hrel⟩ := st_best hRel vT w (xs (Int32.toNatClampNeg (i + 1))) (xs (Int32.toNatClampNeg (i + 2))) (xs (Int32.toNatClampNeg (i + 3))) (xs (Int32.toNatClampNeg (i + 4)))
  obtain ⟨R3, h3⟩ : ∃ R, fX3_best vN vT w (xs (Int32.toNatClampNeg (i + 1))) (xs (Int32.toNatClampNeg (i + 2))) (xs (Int32.toNatClampNeg (i + 3))) (xs (Int32.toNatClampNeg (i + 4))) = R := ⟨_, rfl⟩
  obtain ⟨R4, h4⟩ : ∃ R, fX4_best x (xs (Int32.toNatClampNeg (i + 1))) (xs (Int32.toNatClampNeg (i + 2))) (xs (Int32.toNatClampNeg (i + 3))) (xs (Int32.toNatClampNeg (i + 4))) = R := ⟨_, rfl⟩
  rw [h3, h4] at heq; rw [h4] at hrel
  refine lv_aload_n hx hb dL_law_500 rfl (lv_at hl 2 rfl) ?_
  refine lv_aload_n hx hb dL_law_501 rfl (lv_at hl 3 rfl) ?_
  refine lv_iload_n hx hb dL_law_502 rfl (lv_at hl 0 rfl) ?_
  refine lv_iconst (v := 1) hx hb dL_law_503 (by decide) ?_
  refine lv_iadd hx hb dL_law_504 ?_
  refine va_sld hx hb hX hbl hbA hS (hi 1 (by decide)) dL_law_505 ?_
  refine lv_aload_n hx hb dL_law_506 rfl (lv_at hl 3 rfl) ?_
  refine lv_iload_n hx hb dL_law_507 rfl (lv_at hl 0 rfl) ?_
  refine lv_iconst (v := 2) hx hb dL_law_508 (by decide) ?_
  refine lv_iadd hx hb dL_law_509 ?_
  refine va_sld hx hb hX hbl hbA hS (hi 2 (by decide)) dL_law_510 ?_
  refine lv_aload_n hx hb dL_law_511 rfl (lv_at hl 3 rfl) ?_
  refine lv_iload_n hx hb dL_law_512 rfl (lv_at hl 0 rfl) ?_
  refine lv_iconst (v := 3) hx hb dL_law_513 (by decide) ?_
  refine lv_iadd hx hb dL_law_514 ?_
  refine va_sld hx hb hX hbl hbA hS (hi 3 (by decide)) dL_law_515 ?_
  refine lv_aload_n hx hb dL_law_516 rfl (lv_at hl 3 rfl) ?_
  refine lv_iload_n hx hb dL_law_517 rfl (lv_at hl 0 rfl) ?_
  refine lv_iconst (v := 4) hx hb dL_law_518 (by decide) ?_
  refine lv_iadd hx hb dL_law_519 ?_
  refine va_sld hx hb hX hbl hbA hS (hi 4 (by decide)) dL_law_520 ?_
  refine ct_callL (As := [.int (xs (Int32.toNatClampNeg (i + 1))), .int (xs (Int32.toNatClampNeg (i + 2))), .int (xs (Int32.toNatClampNeg (i + 3))), .int (xs (Int32.toNatClampNeg (i + 4)))]) (wc := gwFF cy a kp vN vT vI vJ w pd) (wr := gwM cy ma x) (w1 := gwFF cy a kp vN R3.2.1 vI vJ R3.2.2 pd) (rest := []) (ci := 3) (q := (RX3, TX3, 6)) hM hK hP hD hS (kX3_best l D cy a kp vN vT vI vJ w pd (xs (Int32.toNatClampNeg (i + 1))) (xs (Int32.toNatClampNeg (i + 2))) (xs (Int32.toNatClampNeg (i + 3))) (xs (Int32.toNatClampNeg (i + 4))) o3 h3) kvX3_best wml_L_65 (fstFF _ _ _ _ _ _ _ _ _ _ _ _ _ _) 0 (atFF _ _ _ _ _ _ _) rfl rfl rfl hl.1 rfl ⟨rfl, rfl, Nat.le_of_ble_eq_true rfl, Nat.le_of_ble_eq_true rfl⟩ (Nat.le_of_ble_eq_true rfl) hf dL_law_521 (fun H locs hP hD hS => ?_)
  refine lv_aload_n hx hb dL_law_524 rfl (lv_at hl 1 rfl) ?_
  refine lv_aload_n hx hb dL_law_525 rfl (lv_at hl 3 rfl) ?_
  refine lv_iload_n hx hb dL_law_526 rfl (lv_at hl 0 rfl) ?_
  refine lv_iconst (v := 1) hx hb dL_law_527 (by decide) ?_
  refine lv_iadd hx hb dL_law_528 ?_
  refine va_sld hx hb hX hbl hbA hS (hi 1 (by decide)) dL_law_529 ?_
  refine lv_aload_n hx hb dL_law_530 rfl (lv_at hl 3 rfl) ?_
  refine lv_iload_n hx hb dL_law_531 rfl (lv_at hl 0 rfl) ?_
  refine lv_iconst (v := 2) hx hb dL_law_532 (by decide) ?_
  refine lv_iadd hx hb dL_law_533 ?_
  refine va_sld hx hb hX hbl hbA hS (hi 2 (by decide)) dL_law_534 ?_
  refine lv_aload_n hx hb dL_law_535 rfl (lv_at hl 3 rfl) ?_
  refine lv_iload_n hx hb dL_law_536 rfl (lv_at hl 0 rfl) ?_
  refine lv_iconst (v := 3) hx hb dL_law_537 (by decide) ?_
  refine lv_iadd hx hb dL_law_538 ?_
  refine va_sld hx hb hX hbl hbA hS (hi 3 (by decide)) dL_law_539 ?_
  refine lv_aload_n hx hb dL_law_540 rfl (lv_at hl 3 rfl) ?_
  refine lv_iload_n hx hb dL_law_541 rfl (lv_at hl 0 rfl) ?_
  refine lv_iconst (v := 4) hx hb dL_law_542 (by decide) ?_
  refine lv_iadd hx hb dL_law_543 ?_
  refine va_sld hx hb hX hbl hbA hS (hi 4 (by decide)) dL_law_544 ?_
  refine ct_callR (As := [.int (xs (Int32.toNatClampNeg (i + 1))), .int (xs (Int32.toNatClampNeg (i + 2))), .int (xs (Int32.toNatClampNeg (i + 3))), .int (xs (Int32.toNatClampNeg (i + 4)))]) (rest := [.int R3.1]) (wl := gwFF cy a kp vN R3.2.1 vI vJ R3.2.2 pd) (wc := gwM cy ma x) (w1 := gwM cy ma R4.2) (ci := 4) (q := (RX4, TX4, 24)) hM hK hP hD hS (kX4_best l D cy ma x (xs (Int32.toNatClampNeg (i + 1))) (xs (Int32.toNatClampNeg (i + 2))) (xs (Int32.toNatClampNeg (i + 3))) (xs (Int32.toNatClampNeg (i + 4))) o4 h4) kvX4_best wml_L_69 (fstM _ _) 0 rfl rfl rfl rfl hl.1 rfl ⟨rfl, rfl, Nat.le_of_ble_eq_true rfl, Nat.le_of_ble_eq_true rfl⟩ (Nat.le_of_ble_eq_true rfl) hf dL_law_545 (fun H locs hP hD hS => ?_)
  refine lv_icmp_eq (tgt := 889) hx hb dL_law_548 (by decide) (fun _ => ?_) (fun c7 => absurd heq c7)
  exact kk kp vN R3.2.1 vI vJ R3.2.2 pd R4.2 H locs ls hrel hP hD hS hl
set_option maxHeartbeats 4000000 in
set_option maxRecDepth 100000 in
theorem lc_walk (hM : MC p s m #[Value.ref b] meth c RL cL_law 4 ret) (hK : va_K D classes (ctT cy) s) (hX : va_X b L xs s s.heap) (hbl : b < s.heap.size) (hbA : ¬ A b) (hf : cells ≤ room_1.cells ∧ slots ≤ room_1.slots) (hi : ∀ k, k ≤ 5 → vp_in (i + nI k) L) (hRel : Rel kp vN vI vJ pd x) (hP : va_P D classes (LW cy a ma kp vN vT vI vJ w pd x) H) (hD : va_D A (LW cy a ma kp vN vT vI vJ w pd x)) (hS : va_S A s.heap H locs) (hl : lv_has ls 4 (lvs b a ma i)) (kk : LK p l e s m below meth c D cy A a ma b cells slots Q i) :
    W p l e room_1 s m #[Value.ref b] below meth c H locs cells slots Q (F0 m 553 ls []) := by
  obtain ⟨hx, hb, -, hml, hown, hts, -⟩ := id hM
  have hl : lv_has ls 4 [(3, .int i), (2, .ref (ma 0)), (1, .ref (a 0 0)), (0, .ref b)] := hl
  obtain ⟨o3, o4, heq, hrel⟩ := st_walk hRel vT w (xs (Int32.toNatClampNeg (i + 1))) (xs (Int32.toNatClampNeg (i + 2))) (xs (Int32.toNatClampNeg (i + 3)))
  obtain ⟨R3, h3⟩ : ∃ R, fX3_walk vN vT w (xs (Int32.toNatClampNeg (i + 1))) (xs (Int32.toNatClampNeg (i + 2))) (xs (Int32.toNatClampNeg (i + 3))) = R := ⟨_, rfl⟩
  obtain ⟨R4, h4⟩ : ∃ R, fX4_walk x (xs (Int32.toNatClampNeg (i + 1))) (xs (Int32.toNatClampNeg (i + 2))) (xs (Int32.toNatClampNeg (i + 3))) = R := ⟨_, rfl⟩
  rw [h3, h4] at heq; rw [h4] at hrel
  refine lv_aload_n hx hb dL_law_553 rfl (lv_at hl 2 rfl) ?_
  refine lv_aload_n hx hb dL_law_554 rfl (lv_at hl 3 rfl) ?_
  refine lv_iload_n hx hb dL_law_555 rfl (lv_at hl 0 rfl) ?_
  refine lv_iconst (v := 1) hx hb dL_law_556 (by decide) ?_
  refine lv_iadd hx hb dL_law_557 ?_
  refine va_sld hx hb hX hbl hbA hS (hi 1 (by decide)) dL_law_558 ?_
  refine lv_aload_n hx hb dL_law_559 rfl (lv_at hl 3 rfl) ?_
  refine lv_iload_n hx hb dL_law_560 rfl (lv_at hl 0 rfl) ?_
  refine lv_iconst (v := 2) hx hb dL_law_561 (by decide) ?_
  refine lv_iadd hx hb dL_law_562 ?_
  refine va_sld hx hb hX hbl hbA hS (hi 2 (by decide)) dL_law_563 ?_
  refine lv_aload_n hx hb dL_law_564 rfl (lv_at hl 3 rfl) ?_
  refine lv_iload_n hx hb dL_law_565 rfl (lv_at hl 0 rfl) ?_
  refine lv_iconst (v := 3) hx hb dL_law_566 (by decide) ?_
  refine lv_iadd hx hb dL_law_567 ?_
  refine va_sld hx hb hX hbl hbA hS (hi 3 (by decide)) dL_law_568 ?_
  refine ct_callL (As := [.int (xs (Int32.toNatClampNeg (i + 1))), .int (xs (Int32.toNatClampNeg (i + 2))), .int (xs (Int32.toNatClampNeg (i + 3)))]) (wc := gwFF cy a kp vN vT vI vJ w pd) (wr := gwM cy ma x) (w1 := gwFF cy a kp vN R3.2.1 vI vJ R3.2.2 pd) (rest := []) (ci := 3) (q := (RX3, TX3, 6)) hM hK hP hD hS (kX3_walk l D cy a kp vN vT vI vJ w pd (xs (Int32.toNatClampNeg (i + 1))) (xs (Int32.toNatClampNeg (i + 2))) (xs (Int32.toNatClampNeg (i + 3))) o3 h3) kvX3_walk wml_L_70 (fstFF _ _ _ _ _ _ _ _ _ _ _ _ _ _) 0 (atFF _ _ _ _ _ _ _) rfl rfl rfl hl.1 rfl ⟨rfl, rfl, Nat.le_of_ble_eq_true rfl, Nat.le_of_ble_eq_true rfl⟩ (Nat.le_of_ble_eq_true rfl) hf dL_law_569 (fun H locs hP hD hS => ?_)
  refine lv_aload_n hx hb dL_law_572 rfl (lv_at hl 1 rfl) ?_
  refine lv_aload_n hx hb dL_law_573 rfl (lv_at hl 3 rfl) ?_
  refine lv_iload_n hx hb dL_law_574 rfl (lv_at hl 0 rfl) ?_
  refine lv_iconst (v := 1) hx hb dL_law_575 (by decide) ?_
  refine lv_iadd hx hb dL_law_576 ?_
  refine va_sld hx hb hX hbl hbA hS (hi 1 (by decide)) dL_law_577 ?_
  refine lv_aload_n hx hb dL_law_578 rfl (lv_at hl 3 rfl) ?_
  refine lv_iload_n hx hb dL_law_579 rfl (lv_at hl 0 rfl) ?_
  refine lv_iconst (v := 2) hx hb dL_law_580 (by decide) ?_
  refine lv_iadd hx hb dL_law_581 ?_
  refine va_sld hx hb hX hbl hbA hS (hi 2 (by decide)) dL_law_582 ?_
  refine lv_aload_n hx hb dL_law_583 rfl (lv_at hl 3 rfl) ?_
  refine lv_iload_n hx hb dL_law_584 rfl (lv_at hl 0 rfl) ?_
  refine lv_iconst (v := 3) hx hb dL_law_585 (by decide) ?_
  refine lv_iadd hx hb dL_law_586 ?_
  refine va_sld hx hb hX hbl hbA hS (hi 3 (by decide)) dL_law_587 ?_
  refine ct_callR (As := [.int (xs (Int32.toNatClampNeg (i + 1))), .int (xs (Int32.toNatClampNeg (i + 2))), .int (xs (Int32.toNatClampNeg (i + 3)))]) (rest := [.int R3.1]) (wl := gwFF cy a kp vN R3.2.1 vI vJ R3.2.2 pd) (wc := gwM cy ma x) (w1 := gwM cy ma R4.2) (ci := 4) (q := (RX4, TX4, 24)) hM hK hP hD hS (kX4_walk l D cy ma x (xs (Int32.toNatClampNeg (i + 1))) (xs (Int32.toNatClampNeg (i + 2))) (xs (Int32.toNatClampNeg (i + 3))) o4 h4) kvX4_walk wml_L_74 (fstM _ _) 0 rfl rfl rfl rfl hl.1 rfl ⟨rfl, rfl, Nat.le_of_ble_eq_true rfl, Nat.le_of_ble_eq_true rfl⟩ (Nat.le_of_ble_eq_true rfl) hf dL_law_588 (fun H locs hP hD hS => ?_)
  refine lv_icmp_eq (tgt := 889) hx hb dL_law_591 (by decide) (fun _ => ?_) (fun c7 => absurd heq c7)
  exact kk kp vN R3.2.1 vI vJ R3.2.2 pd R4.2 H locs ls hrel hP hD hS hl
set_option maxHeartbeats 4000000 in
set_option maxRecDepth 100000 in
theorem lc_claim (hM : MC p s m #[Value.ref b] meth c RL cL_law 4 ret) (hK : va_K D classes (ctT cy) s) (hX : va_X b L xs s s.heap) (hbl : b < s.heap.size) (hbA : ¬ A b) (hf : cells ≤ room_1.cells ∧ slots ≤ room_1.slots) (hi : ∀ k, k ≤ 5 → vp_in (i + nI k) L) (hRel : Rel kp vN vI vJ pd x) (hP : va_P D classes (LW cy a ma kp vN vT vI vJ w pd x) H) (hD : va_D A (LW cy a ma kp vN vT vI vJ w pd x)) (hS : va_S A s.heap H locs) (hl : lv_has ls 4 (lvs b a ma i)) (kk : LK p l e s m below meth c D cy A a ma b cells slots Q i) :
    W p l e room_1 s m #[Value.ref b] below meth c H locs cells slots Q (F0 m 596 ls []) := by
  obtain ⟨hx, hb, -, hml, hown, hts, -⟩ := id hM
  have hl : lv_has ls 4 [(3, .int i), (2, .ref (ma 0)), (1, .ref (a 0 0)), (0, .ref b)] := hl
  obtain ⟨o3, o4, heq, hrel⟩ := st_claim hRel vT w (xs (Int32.toNatClampNeg (i + 1))) (xs (Int32.toNatClampNeg (i + 2)))
  obtain ⟨R3, h3⟩ : ∃ R, fX3_claim vN vT w (xs (Int32.toNatClampNeg (i + 1))) (xs (Int32.toNatClampNeg (i + 2))) = R := ⟨_, rfl⟩
  obtain ⟨R4, h4⟩ : ∃ R, fX4_claim x (xs (Int32.toNatClampNeg (i + 1))) (xs (Int32.toNatClampNeg (i + 2))) = R := ⟨_, rfl⟩
  rw [h3, h4] at heq; rw [h4] at hrel
  refine lv_aload_n hx hb dL_law_596 rfl (lv_at hl 2 rfl) ?_
  refine lv_aload_n hx hb dL_law_597 rfl (lv_at hl 3 rfl) ?_
  refine lv_iload_n hx hb dL_law_598 rfl (lv_at hl 0 rfl) ?_
  refine lv_iconst (v := 1) hx hb dL_law_599 (by decide) ?_
  refine lv_iadd hx hb dL_law_600 ?_
  refine va_sld hx hb hX hbl hbA hS (hi 1 (by decide)) dL_law_601 ?_
  refine lv_aload_n hx hb dL_law_602 rfl (lv_at hl 3 rfl) ?_
  refine lv_iload_n hx hb dL_law_603 rfl (lv_at hl 0 rfl) ?_
  refine lv_iconst (v := 2) hx hb dL_law_604 (by decide) ?_
  refine lv_iadd hx hb dL_law_605 ?_
  refine va_sld hx hb hX hbl hbA hS (hi 2 (by decide)) dL_law_606 ?_
  refine ct_callL (As := [.int (xs (Int32.toNatClampNeg (i + 1))), .int (xs (Int32.toNatClampNeg (i + 2)))]) (wc := gwFF cy a kp vN vT vI vJ w pd) (wr := gwM cy ma x) (w1 := gwFF cy a kp vN R3.2.1 vI vJ R3.2.2 pd) (rest := []) (ci := 3) (q := (RX3, TX3, 6)) hM hK hP hD hS (kX3_claim l D cy a kp vN vT vI vJ w pd (xs (Int32.toNatClampNeg (i + 1))) (xs (Int32.toNatClampNeg (i + 2))) o3 h3) kvX3_claim wml_L_75 (fstFF _ _ _ _ _ _ _ _ _ _ _ _ _ _) 0 (atFF _ _ _ _ _ _ _) rfl rfl rfl hl.1 rfl ⟨rfl, rfl, Nat.le_of_ble_eq_true rfl, Nat.le_of_ble_eq_true rfl⟩ (Nat.le_of_ble_eq_true rfl) hf dL_law_607 (fun H locs hP hD hS => ?_)
  refine lv_aload_n hx hb dL_law_610 rfl (lv_at hl 1 rfl) ?_
  refine lv_aload_n hx hb dL_law_611 rfl (lv_at hl 3 rfl) ?_
  refine lv_iload_n hx hb dL_law_612 rfl (lv_at hl 0 rfl) ?_
  refine lv_iconst (v := 1) hx hb dL_law_613 (by decide) ?_
  refine lv_iadd hx hb dL_law_614 ?_
  refine va_sld hx hb hX hbl hbA hS (hi 1 (by decide)) dL_law_615 ?_
  refine lv_aload_n hx hb dL_law_616 rfl (lv_at hl 3 rfl) ?_
  refine lv_iload_n hx hb dL_law_617 rfl (lv_at hl 0 rfl) ?_
  refine lv_iconst (v := 2) hx hb dL_law_618 (by decide) ?_
  refine lv_iadd hx hb dL_law_619 ?_
  refine va_sld hx hb hX hbl hbA hS (hi 2 (by decide)) dL_law_620 ?_
  refine ct_callR (As := [.int (xs (Int32.toNatClampNeg (i + 1))), .int (xs (Int32.toNatClampNeg (i + 2)))]) (rest := [.int R3.1]) (wl := gwFF cy a kp vN R3.2.1 vI vJ R3.2.2 pd) (wc := gwM cy ma x) (w1 := gwM cy ma R4.2) (ci := 4) (q := (RX4, TX4, 24)) hM hK hP hD hS (kX4_claim l D cy ma x (xs (Int32.toNatClampNeg (i + 1))) (xs (Int32.toNatClampNeg (i + 2))) o4 h4) kvX4_claim wml_L_78 (fstM _ _) 0 rfl rfl rfl rfl hl.1 rfl ⟨rfl, rfl, Nat.le_of_ble_eq_true rfl, Nat.le_of_ble_eq_true rfl⟩ (Nat.le_of_ble_eq_true rfl) hf dL_law_621 (fun H locs hP hD hS => ?_)
  refine lv_icmp_eq (tgt := 889) hx hb dL_law_624 (by decide) (fun _ => ?_) (fun c7 => absurd heq c7)
  exact kk kp vN R3.2.1 vI vJ R3.2.2 pd R4.2 H locs ls hrel hP hD hS hl
set_option maxHeartbeats 4000000 in
set_option maxRecDepth 100000 in
theorem lc_lied (hM : MC p s m #[Value.ref b] meth c RL cL_law 4 ret) (hK : va_K D classes (ctT cy) s) (hX : va_X b L xs s s.heap) (hbl : b < s.heap.size) (hbA : ¬ A b) (hf : cells ≤ room_1.cells ∧ slots ≤ room_1.slots) (hi : ∀ k, k ≤ 5 → vp_in (i + nI k) L) (hRel : Rel kp vN vI vJ pd x) (hP : va_P D classes (LW cy a ma kp vN vT vI vJ w pd x) H) (hD : va_D A (LW cy a ma kp vN vT vI vJ w pd x)) (hS : va_S A s.heap H locs) (hl : lv_has ls 4 (lvs b a ma i)) (kk : LK p l e s m below meth c D cy A a ma b cells slots Q i) :
    W p l e room_1 s m #[Value.ref b] below meth c H locs cells slots Q (F0 m 629 ls []) := by
  obtain ⟨hx, hb, -, hml, hown, hts, -⟩ := id hM
  have hl : lv_has ls 4 [(3, .int i), (2, .ref (ma 0)), (1, .ref (a 0 0)), (0, .ref b)] := hl
  obtain ⟨o3, o4, heq, hrel⟩ := st_lied hRel vT w 
  obtain ⟨R3, h3⟩ : ∃ R, fX3_lied vN vT w pd = R := ⟨_, rfl⟩
  obtain ⟨R4, h4⟩ : ∃ R, fX4_lied x = R := ⟨_, rfl⟩
  rw [h3, h4] at heq; rw [h4] at hrel
  refine lv_aload_n hx hb dL_law_629 rfl (lv_at hl 2 rfl) ?_
  refine ct_callL (As := []) (wc := gwFF cy a kp vN vT vI vJ w pd) (wr := gwM cy ma x) (w1 := gwFF cy a kp vN R3.2.1 vI vJ R3.2.2 pd) (rest := []) (ci := 3) (q := (RX3, TX3, 6)) hM hK hP hD hS (kX3_lied l D cy a kp vN vT vI vJ w pd  o3 h3) kvX3_lied wml_L_79 (fstFF _ _ _ _ _ _ _ _ _ _ _ _ _ _) 0 (atFF _ _ _ _ _ _ _) rfl rfl rfl hl.1 rfl ⟨rfl, rfl, Nat.le_of_ble_eq_true rfl, Nat.le_of_ble_eq_true rfl⟩ (Nat.le_of_ble_eq_true rfl) hf dL_law_630 (fun H locs hP hD hS => ?_)
  refine lv_aload_n hx hb dL_law_633 rfl (lv_at hl 1 rfl) ?_
  refine ct_callR (As := []) (rest := [.int R3.1]) (wl := gwFF cy a kp vN R3.2.1 vI vJ R3.2.2 pd) (wc := gwM cy ma x) (w1 := gwM cy ma R4.2) (ci := 4) (q := (RX4, TX4, 24)) hM hK hP hD hS (kX4_lied l D cy ma x  o4 h4) kvX4_lied wml_L_82 (fstM _ _) 0 rfl rfl rfl rfl hl.1 rfl ⟨rfl, rfl, Nat.le_of_ble_eq_true rfl, Nat.le_of_ble_eq_true rfl⟩ (Nat.le_of_ble_eq_true rfl) hf dL_law_634 (fun H locs hP hD hS => ?_)
  refine lv_icmp_eq (tgt := 889) hx hb dL_law_637 (by decide) (fun _ => ?_) (fun c7 => absurd heq c7)
  exact kk kp vN R3.2.1 vI vJ R3.2.2 pd R4.2 H locs ls hrel hP hD hS hl
set_option maxHeartbeats 4000000 in
set_option maxRecDepth 100000 in
theorem lc_could (hM : MC p s m #[Value.ref b] meth c RL cL_law 4 ret) (hK : va_K D classes (ctT cy) s) (hX : va_X b L xs s s.heap) (hbl : b < s.heap.size) (hbA : ¬ A b) (hf : cells ≤ room_1.cells ∧ slots ≤ room_1.slots) (hi : ∀ k, k ≤ 5 → vp_in (i + nI k) L) (hRel : Rel kp vN vI vJ pd x) (hP : va_P D classes (LW cy a ma kp vN vT vI vJ w pd x) H) (hD : va_D A (LW cy a ma kp vN vT vI vJ w pd x)) (hS : va_S A s.heap H locs) (hl : lv_has ls 4 (lvs b a ma i)) (kk : LK p l e s m below meth c D cy A a ma b cells slots Q i) :
    W p l e room_1 s m #[Value.ref b] below meth c H locs cells slots Q (F0 m 642 ls []) := by
  obtain ⟨hx, hb, -, hml, hown, hts, -⟩ := id hM
  have hl : lv_has ls 4 [(3, .int i), (2, .ref (ma 0)), (1, .ref (a 0 0)), (0, .ref b)] := hl
  obtain ⟨o3, o4, heq, hrel⟩ := st_could hRel vT w (xs (Int32.toNatClampNeg (i + 1))) (xs (Int32.toNatClampNeg (i + 2)))
  obtain ⟨R3, h3⟩ : ∃ R, fX3_could vN vT w pd (xs (Int32.toNatClampNeg (i + 1))) (xs (Int32.toNatClampNeg (i + 2))) = R := ⟨_, rfl⟩
  obtain ⟨R4, h4⟩ : ∃ R, fX4_could x (xs (Int32.toNatClampNeg (i + 1))) (xs (Int32.toNatClampNeg (i + 2))) = R := ⟨_, rfl⟩
  rw [h3, h4] at heq; rw [h4] at hrel
  refine lv_aload_n hx hb dL_law_642 rfl (lv_at hl 2 rfl) ?_
  refine lv_aload_n hx hb dL_law_643 rfl (lv_at hl 3 rfl) ?_
  refine lv_iload_n hx hb dL_law_644 rfl (lv_at hl 0 rfl) ?_
  refine lv_iconst (v := 1) hx hb dL_law_645 (by decide) ?_
  refine lv_iadd hx hb dL_law_646 ?_
  refine va_sld hx hb hX hbl hbA hS (hi 1 (by decide)) dL_law_647 ?_
  refine lv_aload_n hx hb dL_law_648 rfl (lv_at hl 3 rfl) ?_
  refine lv_iload_n hx hb dL_law_649 rfl (lv_at hl 0 rfl) ?_
  refine lv_iconst (v := 2) hx hb dL_law_650 (by decide) ?_
  refine lv_iadd hx hb dL_law_651 ?_
  refine va_sld hx hb hX hbl hbA hS (hi 2 (by decide)) dL_law_652 ?_
  refine ct_callL (As := [.int (xs (Int32.toNatClampNeg (i + 1))), .int (xs (Int32.toNatClampNeg (i + 2)))]) (wc := gwFF cy a kp vN vT vI vJ w pd) (wr := gwM cy ma x) (w1 := gwFF cy a kp vN R3.2.1 vI vJ R3.2.2 pd) (rest := []) (ci := 3) (q := (RX3, TX3, 6)) hM hK hP hD hS (kX3_could l D cy a kp vN vT vI vJ w pd (xs (Int32.toNatClampNeg (i + 1))) (xs (Int32.toNatClampNeg (i + 2))) o3 h3) kvX3_could wml_L_83 (fstFF _ _ _ _ _ _ _ _ _ _ _ _ _ _) 0 (atFF _ _ _ _ _ _ _) rfl rfl rfl hl.1 rfl ⟨rfl, rfl, Nat.le_of_ble_eq_true rfl, Nat.le_of_ble_eq_true rfl⟩ (Nat.le_of_ble_eq_true rfl) hf dL_law_653 (fun H locs hP hD hS => ?_)
  refine lv_aload_n hx hb dL_law_656 rfl (lv_at hl 1 rfl) ?_
  refine lv_aload_n hx hb dL_law_657 rfl (lv_at hl 3 rfl) ?_
  refine lv_iload_n hx hb dL_law_658 rfl (lv_at hl 0 rfl) ?_
  refine lv_iconst (v := 1) hx hb dL_law_659 (by decide) ?_
  refine lv_iadd hx hb dL_law_660 ?_
  refine va_sld hx hb hX hbl hbA hS (hi 1 (by decide)) dL_law_661 ?_
  refine lv_aload_n hx hb dL_law_662 rfl (lv_at hl 3 rfl) ?_
  refine lv_iload_n hx hb dL_law_663 rfl (lv_at hl 0 rfl) ?_
  refine lv_iconst (v := 2) hx hb dL_law_664 (by decide) ?_
  refine lv_iadd hx hb dL_law_665 ?_
  refine va_sld hx hb hX hbl hbA hS (hi 2 (by decide)) dL_law_666 ?_
  refine ct_callR (As := [.int (xs (Int32.toNatClampNeg (i + 1))), .int (xs (Int32.toNatClampNeg (i + 2)))]) (rest := [.int R3.1]) (wl := gwFF cy a kp vN R3.2.1 vI vJ R3.2.2 pd) (wc := gwM cy ma x) (w1 := gwM cy ma R4.2) (ci := 4) (q := (RX4, TX4, 24)) hM hK hP hD hS (kX4_could l D cy ma x (xs (Int32.toNatClampNeg (i + 1))) (xs (Int32.toNatClampNeg (i + 2))) o4 h4) kvX4_could wml_L_86 (fstM _ _) 0 rfl rfl rfl rfl hl.1 rfl ⟨rfl, rfl, Nat.le_of_ble_eq_true rfl, Nat.le_of_ble_eq_true rfl⟩ (Nat.le_of_ble_eq_true rfl) hf dL_law_667 (fun H locs hP hD hS => ?_)
  refine lv_icmp_eq (tgt := 889) hx hb dL_law_670 (by decide) (fun _ => ?_) (fun c7 => absurd heq c7)
  exact kk kp vN R3.2.1 vI vJ R3.2.2 pd R4.2 H locs ls hrel hP hD hS hl
set_option maxHeartbeats 4000000 in
set_option maxRecDepth 100000 in
theorem lc_law (hM : MC p s m #[Value.ref b] meth c RL cL_law 4 ret) (hK : va_K D classes (ctT cy) s) (hX : va_X b L xs s s.heap) (hbl : b < s.heap.size) (hbA : ¬ A b) (hf : cells ≤ room_1.cells ∧ slots ≤ room_1.slots) (hi : ∀ k, k ≤ 5 → vp_in (i + nI k) L) (hRel : Rel kp vN vI vJ pd x) (hP : va_P D classes (LW cy a ma kp vN vT vI vJ w pd x) H) (hD : va_D A (LW cy a ma kp vN vT vI vJ w pd x)) (hS : va_S A s.heap H locs) (hl : lv_has ls 4 (lvs b a ma i)) (kk : LK p l e s m below meth c D cy A a ma b cells slots Q i) :
    W p l e room_1 s m #[Value.ref b] below meth c H locs cells slots Q (F0 m 675 ls []) := by
  obtain ⟨hx, hb, -, hml, hown, hts, -⟩ := id hM
  have hl : lv_has ls 4 [(3, .int i), (2, .ref (ma 0)), (1, .ref (a 0 0)), (0, .ref b)] := hl
  obtain ⟨o3, o4, heq, hrel⟩ := st_law hRel vT w (xs (Int32.toNatClampNeg (i + 1)))
  obtain ⟨R3, h3⟩ : ∃ R, fX3_law vN vT w (xs (Int32.toNatClampNeg (i + 1))) = R := ⟨_, rfl⟩
  obtain ⟨R4, h4⟩ : ∃ R, fX4_law x (xs (Int32.toNatClampNeg (i + 1))) = R := ⟨_, rfl⟩
  rw [h3, h4] at heq; rw [h4] at hrel
  refine lv_aload_n hx hb dL_law_675 rfl (lv_at hl 2 rfl) ?_
  refine lv_aload_n hx hb dL_law_676 rfl (lv_at hl 3 rfl) ?_
  refine lv_iload_n hx hb dL_law_677 rfl (lv_at hl 0 rfl) ?_
  refine lv_iconst (v := 1) hx hb dL_law_678 (by decide) ?_
  refine lv_iadd hx hb dL_law_679 ?_
  refine va_sld hx hb hX hbl hbA hS (hi 1 (by decide)) dL_law_680 ?_
  refine ct_callL (As := [.int (xs (Int32.toNatClampNeg (i + 1)))]) (wc := gwFF cy a kp vN vT vI vJ w pd) (wr := gwM cy ma x) (w1 := gwFF cy a kp vN R3.2.1 vI vJ R3.2.2 pd) (rest := []) (ci := 3) (q := (RX3, TX3, 6)) hM hK hP hD hS (kX3_law l D cy a kp vN vT vI vJ w pd (xs (Int32.toNatClampNeg (i + 1))) o3 h3) kvX3_law wml_L_87 (fstFF _ _ _ _ _ _ _ _ _ _ _ _ _ _) 0 (atFF _ _ _ _ _ _ _) rfl rfl rfl hl.1 rfl ⟨rfl, rfl, Nat.le_of_ble_eq_true rfl, Nat.le_of_ble_eq_true rfl⟩ (Nat.le_of_ble_eq_true rfl) hf dL_law_681 (fun H locs hP hD hS => ?_)
  refine lv_aload_n hx hb dL_law_684 rfl (lv_at hl 1 rfl) ?_
  refine lv_aload_n hx hb dL_law_685 rfl (lv_at hl 3 rfl) ?_
  refine lv_iload_n hx hb dL_law_686 rfl (lv_at hl 0 rfl) ?_
  refine lv_iconst (v := 1) hx hb dL_law_687 (by decide) ?_
  refine lv_iadd hx hb dL_law_688 ?_
  refine va_sld hx hb hX hbl hbA hS (hi 1 (by decide)) dL_law_689 ?_
  refine ct_callR (As := [.int (xs (Int32.toNatClampNeg (i + 1)))]) (rest := [.int R3.1]) (wl := gwFF cy a kp vN R3.2.1 vI vJ R3.2.2 pd) (wc := gwM cy ma x) (w1 := gwM cy ma R4.2) (ci := 4) (q := (RX4, TX4, 24)) hM hK hP hD hS (kX4_law l D cy ma x (xs (Int32.toNatClampNeg (i + 1))) o4 h4) kvX4_law wml_L_90 (fstM _ _) 0 rfl rfl rfl rfl hl.1 rfl ⟨rfl, rfl, Nat.le_of_ble_eq_true rfl, Nat.le_of_ble_eq_true rfl⟩ (Nat.le_of_ble_eq_true rfl) hf dL_law_690 (fun H locs hP hD hS => ?_)
  refine lv_icmp_eq (tgt := 889) hx hb dL_law_693 (by decide) (fun _ => ?_) (fun c7 => absurd heq c7)
  exact kk kp vN R3.2.1 vI vJ R3.2.2 pd R4.2 H locs ls hrel hP hD hS hl
set_option maxHeartbeats 4000000 in
set_option maxRecDepth 100000 in
theorem lc_home (hM : MC p s m #[Value.ref b] meth c RL cL_law 4 ret) (hK : va_K D classes (ctT cy) s) (hX : va_X b L xs s s.heap) (hbl : b < s.heap.size) (hbA : ¬ A b) (hf : cells ≤ room_1.cells ∧ slots ≤ room_1.slots) (hi : ∀ k, k ≤ 5 → vp_in (i + nI k) L) (hRel : Rel kp vN vI vJ pd x) (hP : va_P D classes (LW cy a ma kp vN vT vI vJ w pd x) H) (hD : va_D A (LW cy a ma kp vN vT vI vJ w pd x)) (hS : va_S A s.heap H locs) (hl : lv_has ls 4 (lvs b a ma i)) (kk : LK p l e s m below meth c D cy A a ma b cells slots Q i) :
    W p l e room_1 s m #[Value.ref b] below meth c H locs cells slots Q (F0 m 698 ls []) := by
  obtain ⟨hx, hb, -, hml, hown, hts, -⟩ := id hM
  have hl : lv_has ls 4 [(3, .int i), (2, .ref (ma 0)), (1, .ref (a 0 0)), (0, .ref b)] := hl
  obtain ⟨o3, o4, heq, hrel⟩ := st_home hRel vT w (xs (Int32.toNatClampNeg (i + 1))) (xs (Int32.toNatClampNeg (i + 2))) (xs (Int32.toNatClampNeg (i + 3)))
  obtain ⟨R3, h3⟩ : ∃ R, fX3_home vN vT w (xs (Int32.toNatClampNeg (i + 1))) (xs (Int32.toNatClampNeg (i + 2))) (xs (Int32.toNatClampNeg (i + 3))) = R := ⟨_, rfl⟩
  obtain ⟨R4, h4⟩ : ∃ R, fX4_home x (xs (Int32.toNatClampNeg (i + 1))) (xs (Int32.toNatClampNeg (i + 2))) (xs (Int32.toNatClampNeg (i + 3))) = R := ⟨_, rfl⟩
  rw [h3, h4] at heq; rw [h4] at hrel
  refine lv_aload_n hx hb dL_law_698 rfl (lv_at hl 2 rfl) ?_
  refine lv_aload_n hx hb dL_law_699 rfl (lv_at hl 3 rfl) ?_
  refine lv_iload_n hx hb dL_law_700 rfl (lv_at hl 0 rfl) ?_
  refine lv_iconst (v := 1) hx hb dL_law_701 (by decide) ?_
  refine lv_iadd hx hb dL_law_702 ?_
  refine va_sld hx hb hX hbl hbA hS (hi 1 (by decide)) dL_law_703 ?_
  refine lv_aload_n hx hb dL_law_704 rfl (lv_at hl 3 rfl) ?_
  refine lv_iload_n hx hb dL_law_705 rfl (lv_at hl 0 rfl) ?_
  refine lv_iconst (v := 2) hx hb dL_law_706 (by decide) ?_
  refine lv_iadd hx hb dL_law_707 ?_
  refine va_sld hx hb hX hbl hbA hS (hi 2 (by decide)) dL_law_708 ?_
  refine lv_aload_n hx hb dL_law_709 rfl (lv_at hl 3 rfl) ?_
  refine lv_iload_n hx hb dL_law_710 rfl (lv_at hl 0 rfl) ?_
  refine lv_iconst (v := 3) hx hb dL_law_711 (by decide) ?_
  refine lv_iadd hx hb dL_law_712 ?_
  refine va_sld hx hb hX hbl hbA hS (hi 3 (by decide)) dL_law_713 ?_
  refine ct_callL (As := [.int (xs (Int32.toNatClampNeg (i + 1))), .int (xs (Int32.toNatClampNeg (i + 2))), .int (xs (Int32.toNatClampNeg (i + 3)))]) (wc := gwFF cy a kp vN vT vI vJ w pd) (wr := gwM cy ma x) (w1 := gwFF cy a kp vN R3.2.1 vI vJ R3.2.2 pd) (rest := []) (ci := 3) (q := (RX3, TX3, 6)) hM hK hP hD hS (kX3_home l D cy a kp vN vT vI vJ w pd (xs (Int32.toNatClampNeg (i + 1))) (xs (Int32.toNatClampNeg (i + 2))) (xs (Int32.toNatClampNeg (i + 3))) o3 h3) kvX3_home wml_L_91 (fstFF _ _ _ _ _ _ _ _ _ _ _ _ _ _) 0 (atFF _ _ _ _ _ _ _) rfl rfl rfl hl.1 rfl ⟨rfl, rfl, Nat.le_of_ble_eq_true rfl, Nat.le_of_ble_eq_true rfl⟩ (Nat.le_of_ble_eq_true rfl) hf dL_law_714 (fun H locs hP hD hS => ?_)
  refine lv_aload_n hx hb dL_law_717 rfl (lv_at hl 1 rfl) ?_
  refine lv_aload_n hx hb dL_law_718 rfl (lv_at hl 3 rfl) ?_
  refine lv_iload_n hx hb dL_law_719 rfl (lv_at hl 0 rfl) ?_
  refine lv_iconst (v := 1) hx hb dL_law_720 (by decide) ?_
  refine lv_iadd hx hb dL_law_721 ?_
  refine va_sld hx hb hX hbl hbA hS (hi 1 (by decide)) dL_law_722 ?_
  refine lv_aload_n hx hb dL_law_723 rfl (lv_at hl 3 rfl) ?_
  refine lv_iload_n hx hb dL_law_724 rfl (lv_at hl 0 rfl) ?_
  refine lv_iconst (v := 2) hx hb dL_law_725 (by decide) ?_
  refine lv_iadd hx hb dL_law_726 ?_
  refine va_sld hx hb hX hbl hbA hS (hi 2 (by decide)) dL_law_727 ?_
  refine lv_aload_n hx hb dL_law_728 rfl (lv_at hl 3 rfl) ?_
  refine lv_iload_n hx hb dL_law_729 rfl (lv_at hl 0 rfl) ?_
  refine lv_iconst (v := 3) hx hb dL_law_730 (by decide) ?_
  refine lv_iadd hx hb dL_law_731 ?_
  refine va_sld hx hb hX hbl hbA hS (hi 3 (by decide)) dL_law_732 ?_
  refine ct_callR (As := [.int (xs (Int32.toNatClampNeg (i + 1))), .int (xs (Int32.toNatClampNeg (i + 2))), .int (xs (Int32.toNatClampNeg (i + 3)))]) (rest := [.int R3.1]) (wl := gwFF cy a kp vN R3.2.1 vI vJ R3.2.2 pd) (wc := gwM cy ma x) (w1 := gwM cy ma R4.2) (ci := 4) (q := (RX4, TX4, 24)) hM hK hP hD hS (kX4_home l D cy ma x (xs (Int32.toNatClampNeg (i + 1))) (xs (Int32.toNatClampNeg (i + 2))) (xs (Int32.toNatClampNeg (i + 3))) o4 h4) kvX4_home wml_L_94 (fstM _ _) 0 rfl rfl rfl rfl hl.1 rfl ⟨rfl, rfl, Nat.le_of_ble_eq_true rfl, Nat.le_of_ble_eq_true rfl⟩ (Nat.le_of_ble_eq_true rfl) hf dL_law_733 (fun H locs hP hD hS => ?_)
  refine lv_icmp_eq (tgt := 889) hx hb dL_law_736 (by decide) (fun _ => ?_) (fun c7 => absurd heq c7)
  exact kk kp vN R3.2.1 vI vJ R3.2.2 pd R4.2 H locs ls hrel hP hD hS hl
set_option maxHeartbeats 4000000 in
set_option maxRecDepth 100000 in
theorem lc_two (hM : MC p s m #[Value.ref b] meth c RL cL_law 4 ret) (hK : va_K D classes (ctT cy) s) (hX : va_X b L xs s s.heap) (hbl : b < s.heap.size) (hbA : ¬ A b) (hf : cells ≤ room_1.cells ∧ slots ≤ room_1.slots) (hi : ∀ k, k ≤ 5 → vp_in (i + nI k) L) (hRel : Rel kp vN vI vJ pd x) (hP : va_P D classes (LW cy a ma kp vN vT vI vJ w pd x) H) (hD : va_D A (LW cy a ma kp vN vT vI vJ w pd x)) (hS : va_S A s.heap H locs) (hl : lv_has ls 4 (lvs b a ma i)) (kk : LK p l e s m below meth c D cy A a ma b cells slots Q i) :
    W p l e room_1 s m #[Value.ref b] below meth c H locs cells slots Q (F0 m 741 ls []) := by
  obtain ⟨hx, hb, -, hml, hown, hts, -⟩ := id hM
  have hl : lv_has ls 4 [(3, .int i), (2, .ref (ma 0)), (1, .ref (a 0 0)), (0, .ref b)] := hl
  obtain ⟨o3, o4, heq, hrel⟩ := st_two hRel w (xs (Int32.toNatClampNeg (i + 1)))
  obtain ⟨R3, h3⟩ : ∃ R, fX3_two vN w (xs (Int32.toNatClampNeg (i + 1))) = R := ⟨_, rfl⟩
  obtain ⟨R4, h4⟩ : ∃ R, fX4_two x (xs (Int32.toNatClampNeg (i + 1))) = R := ⟨_, rfl⟩
  rw [h3, h4] at heq; rw [h4] at hrel
  refine lv_aload_n hx hb dL_law_741 rfl (lv_at hl 2 rfl) ?_
  refine lv_aload_n hx hb dL_law_742 rfl (lv_at hl 3 rfl) ?_
  refine lv_iload_n hx hb dL_law_743 rfl (lv_at hl 0 rfl) ?_
  refine lv_iconst (v := 1) hx hb dL_law_744 (by decide) ?_
  refine lv_iadd hx hb dL_law_745 ?_
  refine va_sld hx hb hX hbl hbA hS (hi 1 (by decide)) dL_law_746 ?_
  refine ct_callL (As := [.int (xs (Int32.toNatClampNeg (i + 1)))]) (wc := gwFF cy a kp vN vT vI vJ w pd) (wr := gwM cy ma x) (w1 := gwFF cy a kp vN vT vI vJ R3.2 pd) (rest := []) (ci := 3) (q := (RX3, TX3, 6)) hM hK hP hD hS (kX3_two l D cy a kp vN vT vI vJ w pd (xs (Int32.toNatClampNeg (i + 1))) o3 h3) kvX3_two wml_L_95 (fstFF _ _ _ _ _ _ _ _ _ _ _ _ _ _) 0 (atFF _ _ _ _ _ _ _) rfl rfl rfl hl.1 rfl ⟨rfl, rfl, Nat.le_of_ble_eq_true rfl, Nat.le_of_ble_eq_true rfl⟩ (Nat.le_of_ble_eq_true rfl) hf dL_law_747 (fun H locs hP hD hS => ?_)
  refine lv_aload_n hx hb dL_law_750 rfl (lv_at hl 1 rfl) ?_
  refine lv_aload_n hx hb dL_law_751 rfl (lv_at hl 3 rfl) ?_
  refine lv_iload_n hx hb dL_law_752 rfl (lv_at hl 0 rfl) ?_
  refine lv_iconst (v := 1) hx hb dL_law_753 (by decide) ?_
  refine lv_iadd hx hb dL_law_754 ?_
  refine va_sld hx hb hX hbl hbA hS (hi 1 (by decide)) dL_law_755 ?_
  refine ct_callR (As := [.int (xs (Int32.toNatClampNeg (i + 1)))]) (rest := [.int R3.1]) (wl := gwFF cy a kp vN vT vI vJ R3.2 pd) (wc := gwM cy ma x) (w1 := gwM cy ma R4.2) (ci := 4) (q := (RX4, TX4, 24)) hM hK hP hD hS (kX4_two l D cy ma x (xs (Int32.toNatClampNeg (i + 1))) o4 h4) kvX4_two wml_L_98 (fstM _ _) 0 rfl rfl rfl rfl hl.1 rfl ⟨rfl, rfl, Nat.le_of_ble_eq_true rfl, Nat.le_of_ble_eq_true rfl⟩ (Nat.le_of_ble_eq_true rfl) hf dL_law_756 (fun H locs hP hD hS => ?_)
  refine lv_icmp_eq (tgt := 889) hx hb dL_law_759 (by decide) (fun _ => ?_) (fun c7 => absurd heq c7)
  exact kk kp vN vT vI vJ R3.2 pd R4.2 H locs ls hrel hP hD hS hl
set_option maxHeartbeats 4000000 in
set_option maxRecDepth 100000 in
theorem lc_stay (hM : MC p s m #[Value.ref b] meth c RL cL_law 4 ret) (hK : va_K D classes (ctT cy) s) (hX : va_X b L xs s s.heap) (hbl : b < s.heap.size) (hbA : ¬ A b) (hf : cells ≤ room_1.cells ∧ slots ≤ room_1.slots) (hi : ∀ k, k ≤ 5 → vp_in (i + nI k) L) (hRel : Rel kp vN vI vJ pd x) (hP : va_P D classes (LW cy a ma kp vN vT vI vJ w pd x) H) (hD : va_D A (LW cy a ma kp vN vT vI vJ w pd x)) (hS : va_S A s.heap H locs) (hl : lv_has ls 4 (lvs b a ma i)) (kk : LK p l e s m below meth c D cy A a ma b cells slots Q i) :
    W p l e room_1 s m #[Value.ref b] below meth c H locs cells slots Q (F0 m 764 ls []) := by
  obtain ⟨hx, hb, -, hml, hown, hts, -⟩ := id hM
  have hl : lv_has ls 4 [(3, .int i), (2, .ref (ma 0)), (1, .ref (a 0 0)), (0, .ref b)] := hl
  obtain ⟨o3, o4, heq, hrel⟩ := st_stay hRel w (xs (Int32.toNatClampNeg (i + 1)))
  obtain ⟨R3, h3⟩ : ∃ R, fX3_stay vN w (xs (Int32.toNatClampNeg (i + 1))) = R := ⟨_, rfl⟩
  obtain ⟨R4, h4⟩ : ∃ R, fX4_stay x (xs (Int32.toNatClampNeg (i + 1))) = R := ⟨_, rfl⟩
  rw [h3, h4] at heq; rw [h4] at hrel
  refine lv_aload_n hx hb dL_law_764 rfl (lv_at hl 2 rfl) ?_
  refine lv_aload_n hx hb dL_law_765 rfl (lv_at hl 3 rfl) ?_
  refine lv_iload_n hx hb dL_law_766 rfl (lv_at hl 0 rfl) ?_
  refine lv_iconst (v := 1) hx hb dL_law_767 (by decide) ?_
  refine lv_iadd hx hb dL_law_768 ?_
  refine va_sld hx hb hX hbl hbA hS (hi 1 (by decide)) dL_law_769 ?_
  refine ct_callL (As := [.int (xs (Int32.toNatClampNeg (i + 1)))]) (wc := gwFF cy a kp vN vT vI vJ w pd) (wr := gwM cy ma x) (w1 := gwFF cy a kp vN vT vI vJ R3.2 pd) (rest := []) (ci := 3) (q := (RX3, TX3, 6)) hM hK hP hD hS (kX3_stay l D cy a kp vN vT vI vJ w pd (xs (Int32.toNatClampNeg (i + 1))) o3 h3) kvX3_stay wml_L_99 (fstFF _ _ _ _ _ _ _ _ _ _ _ _ _ _) 0 (atFF _ _ _ _ _ _ _) rfl rfl rfl hl.1 rfl ⟨rfl, rfl, Nat.le_of_ble_eq_true rfl, Nat.le_of_ble_eq_true rfl⟩ (Nat.le_of_ble_eq_true rfl) hf dL_law_770 (fun H locs hP hD hS => ?_)
  refine lv_aload_n hx hb dL_law_773 rfl (lv_at hl 1 rfl) ?_
  refine lv_aload_n hx hb dL_law_774 rfl (lv_at hl 3 rfl) ?_
  refine lv_iload_n hx hb dL_law_775 rfl (lv_at hl 0 rfl) ?_
  refine lv_iconst (v := 1) hx hb dL_law_776 (by decide) ?_
  refine lv_iadd hx hb dL_law_777 ?_
  refine va_sld hx hb hX hbl hbA hS (hi 1 (by decide)) dL_law_778 ?_
  refine ct_callR (As := [.int (xs (Int32.toNatClampNeg (i + 1)))]) (rest := [.int R3.1]) (wl := gwFF cy a kp vN vT vI vJ R3.2 pd) (wc := gwM cy ma x) (w1 := gwM cy ma R4.2) (ci := 4) (q := (RX4, TX4, 24)) hM hK hP hD hS (kX4_stay l D cy ma x (xs (Int32.toNatClampNeg (i + 1))) o4 h4) kvX4_stay wml_L_102 (fstM _ _) 0 rfl rfl rfl rfl hl.1 rfl ⟨rfl, rfl, Nat.le_of_ble_eq_true rfl, Nat.le_of_ble_eq_true rfl⟩ (Nat.le_of_ble_eq_true rfl) hf dL_law_779 (fun H locs hP hD hS => ?_)
  refine lv_icmp_eq (tgt := 889) hx hb dL_law_782 (by decide) (fun _ => ?_) (fun c7 => absurd heq c7)
  exact kk kp vN vT vI vJ R3.2 pd R4.2 H locs ls hrel hP hD hS hl
set_option maxHeartbeats 4000000 in
set_option maxRecDepth 100000 in
theorem lc_day (hM : MC p s m #[Value.ref b] meth c RL cL_law 4 ret) (hK : va_K D classes (ctT cy) s) (hX : va_X b L xs s s.heap) (hbl : b < s.heap.size) (hbA : ¬ A b) (hf : cells ≤ room_1.cells ∧ slots ≤ room_1.slots) (hi : ∀ k, k ≤ 5 → vp_in (i + nI k) L) (hRel : Rel kp vN vI vJ pd x) (hP : va_P D classes (LW cy a ma kp vN vT vI vJ w pd x) H) (hD : va_D A (LW cy a ma kp vN vT vI vJ w pd x)) (hS : va_S A s.heap H locs) (hl : lv_has ls 4 (lvs b a ma i)) (kk : LK p l e s m below meth c D cy A a ma b cells slots Q i) :
    W p l e room_1 s m #[Value.ref b] below meth c H locs cells slots Q (F0 m 787 ls []) := by
  obtain ⟨hx, hb, -, hml, hown, hts, -⟩ := id hM
  have hl : lv_has ls 4 [(3, .int i), (2, .ref (ma 0)), (1, .ref (a 0 0)), (0, .ref b)] := hl
  obtain ⟨o3, o4, heq, hrel⟩ := st_day hRel vT w (xs (Int32.toNatClampNeg (i + 1))) (xs (Int32.toNatClampNeg (i + 2)))
  obtain ⟨R3, h3⟩ : ∃ R, fX3_day vN vT w (xs (Int32.toNatClampNeg (i + 1))) (xs (Int32.toNatClampNeg (i + 2))) = R := ⟨_, rfl⟩
  obtain ⟨R4, h4⟩ : ∃ R, fX4_day x (xs (Int32.toNatClampNeg (i + 1))) (xs (Int32.toNatClampNeg (i + 2))) = R := ⟨_, rfl⟩
  rw [h3, h4] at heq; rw [h4] at hrel
  refine lv_aload_n hx hb dL_law_787 rfl (lv_at hl 2 rfl) ?_
  refine lv_aload_n hx hb dL_law_788 rfl (lv_at hl 3 rfl) ?_
  refine lv_iload_n hx hb dL_law_789 rfl (lv_at hl 0 rfl) ?_
  refine lv_iconst (v := 1) hx hb dL_law_790 (by decide) ?_
  refine lv_iadd hx hb dL_law_791 ?_
  refine va_sld hx hb hX hbl hbA hS (hi 1 (by decide)) dL_law_792 ?_
  refine lv_aload_n hx hb dL_law_793 rfl (lv_at hl 3 rfl) ?_
  refine lv_iload_n hx hb dL_law_794 rfl (lv_at hl 0 rfl) ?_
  refine lv_iconst (v := 2) hx hb dL_law_795 (by decide) ?_
  refine lv_iadd hx hb dL_law_796 ?_
  refine va_sld hx hb hX hbl hbA hS (hi 2 (by decide)) dL_law_797 ?_
  refine ct_callL (As := [.int (xs (Int32.toNatClampNeg (i + 1))), .int (xs (Int32.toNatClampNeg (i + 2)))]) (wc := gwFF cy a kp vN vT vI vJ w pd) (wr := gwM cy ma x) (w1 := gwFF cy a kp vN R3.2.1 vI vJ R3.2.2 pd) (rest := []) (ci := 3) (q := (RX3, TX3, 6)) hM hK hP hD hS (kX3_day l D cy a kp vN vT vI vJ w pd (xs (Int32.toNatClampNeg (i + 1))) (xs (Int32.toNatClampNeg (i + 2))) o3 h3) kvX3_day wml_L_103 (fstFF _ _ _ _ _ _ _ _ _ _ _ _ _ _) 0 (atFF _ _ _ _ _ _ _) rfl rfl rfl hl.1 rfl ⟨rfl, rfl, Nat.le_of_ble_eq_true rfl, Nat.le_of_ble_eq_true rfl⟩ (Nat.le_of_ble_eq_true rfl) hf dL_law_798 (fun H locs hP hD hS => ?_)
  refine lv_aload_n hx hb dL_law_801 rfl (lv_at hl 1 rfl) ?_
  refine lv_aload_n hx hb dL_law_802 rfl (lv_at hl 3 rfl) ?_
  refine lv_iload_n hx hb dL_law_803 rfl (lv_at hl 0 rfl) ?_
  refine lv_iconst (v := 1) hx hb dL_law_804 (by decide) ?_
  refine lv_iadd hx hb dL_law_805 ?_
  refine va_sld hx hb hX hbl hbA hS (hi 1 (by decide)) dL_law_806 ?_
  refine lv_aload_n hx hb dL_law_807 rfl (lv_at hl 3 rfl) ?_
  refine lv_iload_n hx hb dL_law_808 rfl (lv_at hl 0 rfl) ?_
  refine lv_iconst (v := 2) hx hb dL_law_809 (by decide) ?_
  refine lv_iadd hx hb dL_law_810 ?_
  refine va_sld hx hb hX hbl hbA hS (hi 2 (by decide)) dL_law_811 ?_
  refine ct_callR (As := [.int (xs (Int32.toNatClampNeg (i + 1))), .int (xs (Int32.toNatClampNeg (i + 2)))]) (rest := [.int R3.1]) (wl := gwFF cy a kp vN R3.2.1 vI vJ R3.2.2 pd) (wc := gwM cy ma x) (w1 := gwM cy ma R4.2) (ci := 4) (q := (RX4, TX4, 24)) hM hK hP hD hS (kX4_day l D cy ma x (xs (Int32.toNatClampNeg (i + 1))) (xs (Int32.toNatClampNeg (i + 2))) o4 h4) kvX4_day wml_L_106 (fstM _ _) 0 rfl rfl rfl rfl hl.1 rfl ⟨rfl, rfl, Nat.le_of_ble_eq_true rfl, Nat.le_of_ble_eq_true rfl⟩ (Nat.le_of_ble_eq_true rfl) hf dL_law_812 (fun H locs hP hD hS => ?_)
  refine lv_icmp_eq (tgt := 889) hx hb dL_law_815 (by decide) (fun _ => ?_) (fun c7 => absurd heq c7)
  exact kk kp vN R3.2.1 vI vJ R3.2.2 pd R4.2 H locs ls hrel hP hD hS hl
set_option maxHeartbeats 4000000 in
set_option maxRecDepth 100000 in
theorem lc_image (hM : MC p s m #[Value.ref b] meth c RL cL_law 4 ret) (hK : va_K D classes (ctT cy) s) (hX : va_X b L xs s s.heap) (hbl : b < s.heap.size) (hbA : ¬ A b) (hf : cells ≤ room_1.cells ∧ slots ≤ room_1.slots) (hi : ∀ k, k ≤ 5 → vp_in (i + nI k) L) (hRel : Rel kp vN vI vJ pd x) (hP : va_P D classes (LW cy a ma kp vN vT vI vJ w pd x) H) (hD : va_D A (LW cy a ma kp vN vT vI vJ w pd x)) (hS : va_S A s.heap H locs) (hl : lv_has ls 4 (lvs b a ma i)) (kk : LK p l e s m below meth c D cy A a ma b cells slots Q i) :
    W p l e room_1 s m #[Value.ref b] below meth c H locs cells slots Q (F0 m 820 ls []) := by
  obtain ⟨hx, hb, -, hml, hown, hts, -⟩ := id hM
  have hl : lv_has ls 4 [(3, .int i), (2, .ref (ma 0)), (1, .ref (a 0 0)), (0, .ref b)] := hl
  obtain ⟨o3, o4, heq, hrel⟩ := st_image hRel (xs (Int32.toNatClampNeg (i + 1)))
  obtain ⟨R3, h3⟩ : ∃ R, fX3_image kp vN vI vJ (xs (Int32.toNatClampNeg (i + 1))) = R := ⟨_, rfl⟩
  obtain ⟨R4, h4⟩ : ∃ R, fX4_image x (xs (Int32.toNatClampNeg (i + 1))) = R := ⟨_, rfl⟩
  rw [h3, h4] at heq hrel
  refine lv_aload_n hx hb dL_law_820 rfl (lv_at hl 2 rfl) ?_
  refine lv_aload_n hx hb dL_law_821 rfl (lv_at hl 3 rfl) ?_
  refine lv_iload_n hx hb dL_law_822 rfl (lv_at hl 0 rfl) ?_
  refine lv_iconst (v := 1) hx hb dL_law_823 (by decide) ?_
  refine lv_iadd hx hb dL_law_824 ?_
  refine va_sld hx hb hX hbl hbA hS (hi 1 (by decide)) dL_law_825 ?_
  refine ct_callL (As := [.int (xs (Int32.toNatClampNeg (i + 1)))]) (wc := gwFF cy a kp vN vT vI vJ w pd) (wr := gwM cy ma x) (w1 := gwFF cy a R3.2.1 vN vT R3.2.2.1 R3.2.2.2 w pd) (rest := []) (ci := 3) (q := (RX3, TX3, 6)) hM hK hP hD hS (kX3_image l D cy a kp vN vT vI vJ w pd (xs (Int32.toNatClampNeg (i + 1))) o3 h3) kvX3_image wml_L_107 (fstFF _ _ _ _ _ _ _ _ _ _ _ _ _ _) 0 (atFF _ _ _ _ _ _ _) rfl rfl rfl hl.1 rfl ⟨rfl, rfl, Nat.le_of_ble_eq_true rfl, Nat.le_of_ble_eq_true rfl⟩ (Nat.le_of_ble_eq_true rfl) hf dL_law_826 (fun H locs hP hD hS => ?_)
  refine lv_aload_n hx hb dL_law_829 rfl (lv_at hl 1 rfl) ?_
  refine lv_aload_n hx hb dL_law_830 rfl (lv_at hl 3 rfl) ?_
  refine lv_iload_n hx hb dL_law_831 rfl (lv_at hl 0 rfl) ?_
  refine lv_iconst (v := 1) hx hb dL_law_832 (by decide) ?_
  refine lv_iadd hx hb dL_law_833 ?_
  refine va_sld hx hb hX hbl hbA hS (hi 1 (by decide)) dL_law_834 ?_
  refine ct_callR (As := [.int (xs (Int32.toNatClampNeg (i + 1)))]) (rest := [.int R3.1]) (wl := gwFF cy a R3.2.1 vN vT R3.2.2.1 R3.2.2.2 w pd) (wc := gwM cy ma x) (w1 := gwM cy ma R4.2) (ci := 4) (q := (RX4, TX4, 24)) hM hK hP hD hS (kX4_image l D cy ma x (xs (Int32.toNatClampNeg (i + 1))) o4 h4) kvX4_image wml_L_110 (fstM _ _) 0 rfl rfl rfl rfl hl.1 rfl ⟨rfl, rfl, Nat.le_of_ble_eq_true rfl, Nat.le_of_ble_eq_true rfl⟩ (Nat.le_of_ble_eq_true rfl) hf dL_law_835 (fun H locs hP hD hS => ?_)
  refine lv_icmp_eq (tgt := 889) hx hb dL_law_838 (by decide) (fun _ => ?_) (fun c7 => absurd heq c7)
  exact kk R3.2.1 vN vT R3.2.2.1 R3.2.2.2 w pd R4.2 H locs ls hrel hP hD hS hl
set_option maxHeartbeats 4000000 in
set_option maxRecDepth 100000 in
theorem lc_restore (hM : MC p s m #[Value.ref b] meth c RL cL_law 4 ret) (hK : va_K D classes (ctT cy) s) (hX : va_X b L xs s s.heap) (hbl : b < s.heap.size) (hbA : ¬ A b) (hf : cells ≤ room_1.cells ∧ slots ≤ room_1.slots) (hi : ∀ k, k ≤ 5 → vp_in (i + nI k) L) (hRel : Rel kp vN vI vJ pd x) (hP : va_P D classes (LW cy a ma kp vN vT vI vJ w pd x) H) (hD : va_D A (LW cy a ma kp vN vT vI vJ w pd x)) (hS : va_S A s.heap H locs) (hl : lv_has ls 4 (lvs b a ma i)) (kk : LK p l e s m below meth c D cy A a ma b cells slots Q i) :
    W p l e room_1 s m #[Value.ref b] below meth c H locs cells slots Q (F0 m 843 ls []) := by
  obtain ⟨hx, hb, -, hml, hown, hts, -⟩ := id hM
  have hl : lv_has ls 4 [(3, .int i), (2, .ref (ma 0)), (1, .ref (a 0 0)), (0, .ref b)] := hl
  obtain ⟨o3, o4, heq, hrel⟩ := st_restore hRel (xs (Int32.toNatClampNeg (i + 1)))
  obtain ⟨R3, h3⟩ : ∃ R, fX3_restore kp vN vI vJ (xs (Int32.toNatClampNeg (i + 1))) = R := ⟨_, rfl⟩
  obtain ⟨R4, h4⟩ : ∃ R, fX4_restore x (xs (Int32.toNatClampNeg (i + 1))) = R := ⟨_, rfl⟩
  rw [h3, h4] at heq hrel
  refine lv_aload_n hx hb dL_law_843 rfl (lv_at hl 2 rfl) ?_
  refine lv_aload_n hx hb dL_law_844 rfl (lv_at hl 3 rfl) ?_
  refine lv_iload_n hx hb dL_law_845 rfl (lv_at hl 0 rfl) ?_
  refine lv_iconst (v := 1) hx hb dL_law_846 (by decide) ?_
  refine lv_iadd hx hb dL_law_847 ?_
  refine va_sld hx hb hX hbl hbA hS (hi 1 (by decide)) dL_law_848 ?_
  refine ct_callL (As := [.int (xs (Int32.toNatClampNeg (i + 1)))]) (wc := gwFF cy a kp vN vT vI vJ w pd) (wr := gwM cy ma x) (w1 := gwFF cy a kp R3.2 vT vI vJ w pd) (rest := []) (ci := 3) (q := (RX3, TX3, 6)) hM hK hP hD hS (kX3_restore l D cy a kp vN vT vI vJ w pd (xs (Int32.toNatClampNeg (i + 1))) o3 h3) kvX3_restore wml_L_111 (fstFF _ _ _ _ _ _ _ _ _ _ _ _ _ _) 0 (atFF _ _ _ _ _ _ _) rfl rfl rfl hl.1 rfl ⟨rfl, rfl, Nat.le_of_ble_eq_true rfl, Nat.le_of_ble_eq_true rfl⟩ (Nat.le_of_ble_eq_true rfl) hf dL_law_849 (fun H locs hP hD hS => ?_)
  refine lv_aload_n hx hb dL_law_852 rfl (lv_at hl 1 rfl) ?_
  refine lv_aload_n hx hb dL_law_853 rfl (lv_at hl 3 rfl) ?_
  refine lv_iload_n hx hb dL_law_854 rfl (lv_at hl 0 rfl) ?_
  refine lv_iconst (v := 1) hx hb dL_law_855 (by decide) ?_
  refine lv_iadd hx hb dL_law_856 ?_
  refine va_sld hx hb hX hbl hbA hS (hi 1 (by decide)) dL_law_857 ?_
  refine ct_callR (As := [.int (xs (Int32.toNatClampNeg (i + 1)))]) (rest := [.int R3.1]) (wl := gwFF cy a kp R3.2 vT vI vJ w pd) (wc := gwM cy ma x) (w1 := gwM cy ma R4.2) (ci := 4) (q := (RX4, TX4, 24)) hM hK hP hD hS (kX4_restore l D cy ma x (xs (Int32.toNatClampNeg (i + 1))) o4 h4) kvX4_restore wml_L_114 (fstM _ _) 0 rfl rfl rfl rfl hl.1 rfl ⟨rfl, rfl, Nat.le_of_ble_eq_true rfl, Nat.le_of_ble_eq_true rfl⟩ (Nat.le_of_ble_eq_true rfl) hf dL_law_858 (fun H locs hP hD hS => ?_)
  refine lv_icmp_eq (tgt := 889) hx hb dL_law_861 (by decide) (fun _ => ?_) (fun c7 => absurd heq c7)
  exact kk kp R3.2 vT vI vJ w pd R4.2 H locs ls hrel hP hD hS hl
set_option maxHeartbeats 4000000 in
set_option maxRecDepth 100000 in
theorem lc_told (hM : MC p s m #[Value.ref b] meth c RL cL_law 4 ret) (hK : va_K D classes (ctT cy) s) (hX : va_X b L xs s s.heap) (hbl : b < s.heap.size) (hbA : ¬ A b) (hf : cells ≤ room_1.cells ∧ slots ≤ room_1.slots) (hi : ∀ k, k ≤ 5 → vp_in (i + nI k) L) (hRel : Rel kp vN vI vJ pd x) (hP : va_P D classes (LW cy a ma kp vN vT vI vJ w pd x) H) (hD : va_D A (LW cy a ma kp vN vT vI vJ w pd x)) (hS : va_S A s.heap H locs) (hl : lv_has ls 4 (lvs b a ma i)) (kk : LK p l e s m below meth c D cy A a ma b cells slots Q i) :
    W p l e room_1 s m #[Value.ref b] below meth c H locs cells slots Q (F0 m 866 ls []) := by
  obtain ⟨hx, hb, -, hml, hown, hts, -⟩ := id hM
  have hl : lv_has ls 4 [(3, .int i), (2, .ref (ma 0)), (1, .ref (a 0 0)), (0, .ref b)] := hl
  obtain ⟨o3, o4, heq⟩ := st_told hRel (xs (Int32.toNatClampNeg (i + 1)))
  have hrel := hRel
  obtain ⟨R3, h3⟩ : ∃ R, fX3_told vN pd (xs (Int32.toNatClampNeg (i + 1))) = R := ⟨_, rfl⟩
  obtain ⟨R4, h4⟩ : ∃ R, fX4_told x (xs (Int32.toNatClampNeg (i + 1))) = R := ⟨_, rfl⟩
  rw [h3, h4] at heq
  refine lv_aload_n hx hb dL_law_866 rfl (lv_at hl 2 rfl) ?_
  refine lv_aload_n hx hb dL_law_867 rfl (lv_at hl 3 rfl) ?_
  refine lv_iload_n hx hb dL_law_868 rfl (lv_at hl 0 rfl) ?_
  refine lv_iconst (v := 1) hx hb dL_law_869 (by decide) ?_
  refine lv_iadd hx hb dL_law_870 ?_
  refine va_sld hx hb hX hbl hbA hS (hi 1 (by decide)) dL_law_871 ?_
  refine ct_callL (As := [.int (xs (Int32.toNatClampNeg (i + 1)))]) (wc := gwFF cy a kp vN vT vI vJ w pd) (wr := gwM cy ma x) (w1 := gwFF cy a kp vN vT vI vJ w pd) (rest := []) (ci := 3) (q := (RX3, TX3, 6)) hM hK hP hD hS (kX3_told l D cy a kp vN vT vI vJ w pd (xs (Int32.toNatClampNeg (i + 1))) o3 h3) kvX3_told wml_L_115 (fstFF _ _ _ _ _ _ _ _ _ _ _ _ _ _) 0 (atFF _ _ _ _ _ _ _) rfl rfl rfl hl.1 rfl ⟨rfl, rfl, Nat.le_of_ble_eq_true rfl, Nat.le_of_ble_eq_true rfl⟩ (Nat.le_of_ble_eq_true rfl) hf dL_law_872 (fun H locs hP hD hS => ?_)
  refine lv_aload_n hx hb dL_law_875 rfl (lv_at hl 1 rfl) ?_
  refine lv_aload_n hx hb dL_law_876 rfl (lv_at hl 3 rfl) ?_
  refine lv_iload_n hx hb dL_law_877 rfl (lv_at hl 0 rfl) ?_
  refine lv_iconst (v := 1) hx hb dL_law_878 (by decide) ?_
  refine lv_iadd hx hb dL_law_879 ?_
  refine va_sld hx hb hX hbl hbA hS (hi 1 (by decide)) dL_law_880 ?_
  refine ct_callR (As := [.int (xs (Int32.toNatClampNeg (i + 1)))]) (rest := [.int R3]) (wl := gwFF cy a kp vN vT vI vJ w pd) (wc := gwM cy ma x) (w1 := gwM cy ma x) (ci := 4) (q := (RX4, TX4, 24)) hM hK hP hD hS (kX4_told l D cy ma x (xs (Int32.toNatClampNeg (i + 1))) o4 h4) kvX4_told wml_L_118 (fstM _ _) 0 rfl rfl rfl rfl hl.1 rfl ⟨rfl, rfl, Nat.le_of_ble_eq_true rfl, Nat.le_of_ble_eq_true rfl⟩ (Nat.le_of_ble_eq_true rfl) hf dL_law_881 (fun H locs hP hD hS => ?_)
  refine lv_icmp_eq (tgt := 889) hx hb dL_law_884 (by decide) (fun _ => ?_) (fun c7 => absurd heq c7)
  exact kk kp vN vT vI vJ w pd x H locs ls hrel hP hD hS hl
end LawCases

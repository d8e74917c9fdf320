abbrev rX3_leaveOut : Room := { frames := 5, cells := 0, slots := 0, locals := 119 }
def fX3_leaveOut (vN : tVl) (vT : tVl) (w : tWl) (s1 : Int32) : tVl × tWl := lt_ (fX1_copy vT vN) fun q2 => lt_ (fX2_run vN w (v_cm vN &&& ((1 <<< (s1 &&& 31)) ^^^ (-1)))) fun q5 => (q2, q5)
def oX3_leaveOut (vN : tVl) (vT : tVl) (w : tWl) (s1 : Int32) : Prop := oX1_copy vT vN ∧ (lo_ (fX1_copy vT vN) fun q2 => oX2_run vN w (v_cm vN &&& ((1 <<< (s1 &&& 31)) ^^^ (-1))) ∧ True)
theorem kvX3_leaveOut : KV yX3_leaveOut cX3_leaveOut 2 none 1 := ⟨wcd_X3_leaveOut, wim_X3_leaveOut, wsl_X3_leaveOut, win_X3, by decide +kernel, by decide +kernel, by decide +kernel⟩
set_option maxHeartbeats 4000000 in
set_option maxRecDepth 100000 in
theorem kX3_leaveOut (l : Launch) (D : va_G) (cy : Nat → ClassId) (a : Nat → Nat → Nat) (kp : tAr) (vN : tVl) (vT : tVl) (vI : tVl) (vJ : tVl) (w : tWl) (pd : tPd) (s1 : Int32) {R : tVl × tWl} (hO : oX3_leaveOut vN vT w s1) (hF : fX3_leaveOut vN vT w s1 = R) : CT l D cy yX3_leaveOut cX3_leaveOut 2 none rX3_leaveOut [.ref (a 0 0), .int s1] (gwFF cy a kp vN vT vI vJ w pd) none (gwFF cy a kp vN R.1 vI vJ R.2 pd) := by
  refine ct_of (by decide) (Nat.le_of_ble_eq_true rfl) ?_
  intro p e s m args below meth c A ls hM hK hP hD hS hl
  obtain ⟨hx, hb, -, hml, hown, hts, -⟩ := id hM
  have hl : lv_has ls 2 [(0, .ref (a 0 0)), (1, .int s1)] := hl
  obtain ⟨H, hH⟩ : ∃ H : Heap, H = s.heap := ⟨_, rfl⟩
  obtain ⟨locs, hlocs⟩ : ∃ q : List Loc, q = [] := ⟨_, rfl⟩
  have hP : va_P D classes (gwFF cy a kp vN vT vI vJ w pd) H := by rw [hH]; exact hP
  have hS : va_S A s.heap H locs := by rw [hH, hlocs]; exact hS
  suffices hg : W p l e rX3_leaveOut s m args below meth c H locs 0 0 (MQ below (ctQ D none (gwFF cy a kp vN R.1 vI vJ R.2 pd) A) args s 0 0 A) (F0 m 0 ls []) by rw [hH, hlocs] at hg; exact hg
  clear hH hlocs
  unfold fX3_leaveOut at hF
  unfold oX3_leaveOut at hO
  refine lv_aload_n hx hb dX3_leaveOut_0 rfl (lv_at hl 0 rfl) ?_
  refine ct_get (C := RX3) (T := TX3) (N := 6) (ci := 3) (v := .ref (a 2 0)) hM hK hP inX3 0 rfl rfl 1 (by decide) wfl_X3_16 rfl dX3_leaveOut_1 ?_
  refine lv_aload_n hx hb dX3_leaveOut_4 rfl (lv_at hl 0 rfl) ?_
  refine ct_get (C := RX3) (T := TX3) (N := 6) (ci := 3) (v := .ref (a 1 0)) hM hK hP inX3 0 rfl rfl 0 (by decide) wfl_X3_10 rfl dX3_leaveOut_5 ?_
  obtain ⟨h1, hO⟩ := hO
  obtain ⟨q2, e3⟩ : ∃ q, fX1_copy vT vN = q := ⟨_, rfl⟩
  have hF := lt_n e3 hF
  try have hO := lo_n e3 hO
  refine ct_callV (ws' := gwFF cy a kp vN q2 vI vJ w pd) hM hK hP hD hS (kX1_copy l D cy (a 2) (a 1) vT vN h1 e3) kvX1_copy wml_X3_151 [9, 10, 11, 12, 13, 14, 3, 4, 5, 6, 7, 8] rfl (by decide) rfl rfl rfl 9 rfl rfl rfl rfl hl.1 rfl ⟨rfl, rfl, Nat.le_of_ble_eq_true rfl, Nat.le_of_ble_eq_true rfl⟩ (Nat.le_of_ble_eq_true rfl) ⟨Nat.zero_le _, Nat.zero_le _⟩ dX3_leaveOut_8 (fun H locs hP hD hS => ?_)
  refine W.eq (g2 := F0 m 11 ls []) rfl ?_
  refine lv_aload_n hx hb dX3_leaveOut_11 rfl (lv_at hl 0 rfl) ?_
  refine ct_get (C := RX3) (T := TX3) (N := 6) (ci := 3) (v := .ref (a 5 0)) hM hK hP inX3 0 rfl rfl 4 (by decide) wfl_X3_30 rfl dX3_leaveOut_12 ?_
  refine lv_aload_n hx hb dX3_leaveOut_15 rfl (lv_at hl 0 rfl) ?_
  refine ct_get (C := RX3) (T := TX3) (N := 6) (ci := 3) (v := .ref (a 1 0)) hM hK hP inX3 0 rfl rfl 0 (by decide) wfl_X3_10 rfl dX3_leaveOut_16 ?_
  refine lv_aload_n hx hb dX3_leaveOut_19 rfl (lv_at hl 0 rfl) ?_
  refine ct_get (C := RX3) (T := TX3) (N := 6) (ci := 3) (v := .ref (a 1 0)) hM hK hP inX3 0 rfl rfl 0 (by decide) wfl_X3_10 rfl dX3_leaveOut_20 ?_
  refine ct_get (C := RX1) (T := TX1) (N := 6) (ci := 1) (v := .int (v_cm vN)) hM hK hP inX1 3 rfl rfl 4 (by decide) wfl_X3_58 rfl dX3_leaveOut_23 ?_
  refine lv_iconst (v := 1) hx hb dX3_leaveOut_26 (by decide) ?_
  refine lv_iload_n hx hb dX3_leaveOut_27 rfl (lv_at hl 1 rfl) ?_
  refine lv_ishl hx hb dX3_leaveOut_28 ?_
  refine lv_iconst (v := (-1)) hx hb dX3_leaveOut_29 (by decide) ?_
  refine lv_ixor hx hb dX3_leaveOut_30 ?_
  refine lv_iand hx hb dX3_leaveOut_31 ?_
  obtain ⟨h4, hO⟩ := hO
  obtain ⟨q5, e6⟩ : ∃ q, fX2_run vN w (v_cm vN &&& ((1 <<< (s1 &&& 31)) ^^^ (-1))) = q := ⟨_, rfl⟩
  have hF := lt_n e6 hF
  try have hO := lo_n e6 hO
  refine ct_callV (ws' := gwFF cy a kp vN q2 vI vJ q5 pd) hM hK hP hD hS (kX2_run l D cy (a 1) (a 5) vN w (v_cm vN &&& ((1 <<< (s1 &&& 31)) ^^^ (-1))) h4 e6) kvX2_run wml_X3_94 [3, 4, 5, 6, 7, 8, 27, 28, 29, 30, 31] rfl (by decide) rfl rfl rfl 27 rfl rfl rfl rfl hl.1 rfl ⟨rfl, rfl, Nat.le_of_ble_eq_true rfl, Nat.le_of_ble_eq_true rfl⟩ (Nat.le_of_ble_eq_true rfl) ⟨Nat.zero_le _, Nat.zero_le _⟩ dX3_leaveOut_32 (fun H locs hP hD hS => ?_)
  refine W.eq (g2 := F0 m 35 ls []) rfl ?_
  subst hF
  exact ct_vret hM hP hS dX3_leaveOut_35

abbrev rX3_beginIf : Room := { frames := 3, cells := 0, slots := 0, locals := 78 }
def fX3_beginIf (vT : tVl) (w : tWl) (s1 : Int32) (s2 : Int32) (s3 : Int32) : Int32 × tVl := lt_ (fX2_beginOfOneMore (upd (v_mi vT) (Int32.toNatClampNeg s1) s2, upd (v_mn vT) (Int32.toNatClampNeg s1) s3, v_pa vT, v_ca vT, v_se vT, v_cm vT) w s1) fun q3 => (q3, (upd (v_mi vT) (Int32.toNatClampNeg s1) s2, upd (v_mn vT) (Int32.toNatClampNeg s1) s3, v_pa vT, v_ca vT, v_se vT, v_cm vT))
def oX3_beginIf (vT : tVl) (w : tWl) (s1 : Int32) (s2 : Int32) (s3 : Int32) : Prop := vp_in s1 8 ∧ oX2_beginOfOneMore (upd (v_mi vT) (Int32.toNatClampNeg s1) s2, upd (v_mn vT) (Int32.toNatClampNeg s1) s3, v_pa vT, v_ca vT, v_se vT, v_cm vT) w s1 ∧ True
theorem kvX3_beginIf : KV yX3_beginIf cX3_beginIf 4 (some .int) 3 := ⟨wcd_X3_beginIf, wim_X3_beginIf, wsl_X3_beginIf, win_X3, by decide +kernel, by decide +kernel, by decide +kernel⟩
set_option maxHeartbeats 4000000 in
set_option maxRecDepth 100000 in
theorem kX3_beginIf (l : Launch) (D : va_G) (cy : Nat → ClassId) (a : Nat → Nat → Nat) (kp : tAr) (vN : tVl) (vT : tVl) (vI : tVl) (vJ : tVl) (w : tWl) (pd : tPd) (s1 : Int32) (s2 : Int32) (s3 : Int32) {R : Int32 × tVl} (hO : oX3_beginIf vT w s1 s2 s3) (hF : fX3_beginIf vT w s1 s2 s3 = R) : CT l D cy yX3_beginIf cX3_beginIf 4 (some .int) rX3_beginIf [.ref (a 0 0), .int s1, .int s2, .int s3] (gwFF cy a kp vN vT vI vJ w pd) (some (.int R.1)) (gwFF cy a kp vN R.2 vI vJ w pd) := by
  refine ct_of (by decide) (Nat.le_of_ble_eq_true rfl) ?_
  intro p e s m args below meth c A ls hM hK hP hD hS hl
  obtain ⟨hx, hb, -, hml, hown, hts, -⟩ := id hM
  have hl : lv_has ls 4 [(0, .ref (a 0 0)), (1, .int s1), (2, .int s2), (3, .int s3)] := hl
  obtain ⟨H, hH⟩ : ∃ H : Heap, H = s.heap := ⟨_, rfl⟩
  obtain ⟨locs, hlocs⟩ : ∃ q : List Loc, q = [] := ⟨_, rfl⟩
  have hP : va_P D classes (gwFF cy a kp vN vT vI vJ w pd) H := by rw [hH]; exact hP
  have hS : va_S A s.heap H locs := by rw [hH, hlocs]; exact hS
  suffices hg : W p l e rX3_beginIf s m args below meth c H locs 0 0 (MQ below (ctQ D (some (.int R.1)) (gwFF cy a kp vN R.2 vI vJ w pd) A) args s 0 0 A) (F0 m 0 ls []) by rw [hH, hlocs] at hg; exact hg
  clear hH hlocs
  unfold fX3_beginIf at hF
  unfold oX3_beginIf at hO
  refine lv_aload_n hx hb dX3_beginIf_0 rfl (lv_at hl 0 rfl) ?_
  refine ct_get (C := RX3) (T := TX3) (N := 6) (ci := 3) (v := .ref (a 2 0)) hM hK hP inX3 0 rfl rfl 1 (by decide) wfl_X3_16 rfl dX3_beginIf_1 ?_
  refine ct_get (C := RX1) (T := TX1) (N := 6) (ci := 1) (v := .ref (a 2 1)) hM hK hP inX1 9 rfl rfl 0 (by decide) wfl_X3_45 rfl dX3_beginIf_4 ?_
  refine lv_iload_n hx hb dX3_beginIf_7 rfl (lv_at hl 1 rfl) ?_
  refine lv_iload_n hx hb dX3_beginIf_8 rfl (lv_at hl 2 rfl) ?_
  obtain ⟨h1, hO⟩ := hO
  refine va_iast hx hb hK hP hD hS 10 0 (f := v_mi vT) (n := 8) (cA := cy 0) rfl rfl h1 dX3_beginIf_9 (fun H locs hP hD hS => ?_)
  have hP : va_P D classes (gwFF cy a kp vN (upd (v_mi vT) (Int32.toNatClampNeg s1) s2, v_mn vT, v_pa vT, v_ca vT, v_se vT, v_cm vT) vI vJ w pd) H := hP
  have hD : va_D A (gwFF cy a kp vN (upd (v_mi vT) (Int32.toNatClampNeg s1) s2, v_mn vT, v_pa vT, v_ca vT, v_se vT, v_cm vT) vI vJ w pd) := hD
  refine lv_aload_n hx hb dX3_beginIf_10 rfl (lv_at hl 0 rfl) ?_
  refine ct_get (C := RX3) (T := TX3) (N := 6) (ci := 3) (v := .ref (a 2 0)) hM hK hP inX3 0 rfl rfl 1 (by decide) wfl_X3_16 rfl dX3_beginIf_11 ?_
  refine ct_get (C := RX1) (T := TX1) (N := 6) (ci := 1) (v := .ref (a 2 2)) hM hK hP inX1 9 rfl rfl 1 (by decide) wfl_X3_49 rfl dX3_beginIf_14 ?_
  refine lv_iload_n hx hb dX3_beginIf_17 rfl (lv_at hl 1 rfl) ?_
  refine lv_iload_n hx hb dX3_beginIf_18 rfl (lv_at hl 3 rfl) ?_
  refine va_iast hx hb hK hP hD hS 11 0 (f := v_mn vT) (n := 8) (cA := cy 0) rfl rfl h1 dX3_beginIf_19 (fun H locs hP hD hS => ?_)
  have hP : va_P D classes (gwFF cy a kp vN (upd (v_mi vT) (Int32.toNatClampNeg s1) s2, upd (v_mn vT) (Int32.toNatClampNeg s1) s3, v_pa vT, v_ca vT, v_se vT, v_cm vT) vI vJ w pd) H := hP
  have hD : va_D A (gwFF cy a kp vN (upd (v_mi vT) (Int32.toNatClampNeg s1) s2, upd (v_mn vT) (Int32.toNatClampNeg s1) s3, v_pa vT, v_ca vT, v_se vT, v_cm vT) vI vJ w pd) := hD
  refine lv_aload_n hx hb dX3_beginIf_20 rfl (lv_at hl 0 rfl) ?_
  refine ct_get (C := RX3) (T := TX3) (N := 6) (ci := 3) (v := .ref (a 5 0)) hM hK hP inX3 0 rfl rfl 4 (by decide) wfl_X3_30 rfl dX3_beginIf_21 ?_
  refine lv_aload_n hx hb dX3_beginIf_24 rfl (lv_at hl 0 rfl) ?_
  refine ct_get (C := RX3) (T := TX3) (N := 6) (ci := 3) (v := .ref (a 2 0)) hM hK hP inX3 0 rfl rfl 1 (by decide) wfl_X3_16 rfl dX3_beginIf_25 ?_
  refine lv_iload_n hx hb dX3_beginIf_28 rfl (lv_at hl 1 rfl) ?_
  obtain ⟨h2, hO⟩ := hO
  obtain ⟨q3, e4⟩ : ∃ q, fX2_beginOfOneMore (upd (v_mi vT) (Int32.toNatClampNeg s1) s2, upd (v_mn vT) (Int32.toNatClampNeg s1) s3, v_pa vT, v_ca vT, v_se vT, v_cm vT) w s1 = q := ⟨_, rfl⟩
  have hF := lt_n e4 hF
  try have hO := lo_n e4 hO
  refine ct_callV (ws' := gwFF cy a kp vN (upd (v_mi vT) (Int32.toNatClampNeg s1) s2, upd (v_mn vT) (Int32.toNatClampNeg s1) s3, v_pa vT, v_ca vT, v_se vT, v_cm vT) vI vJ w pd) hM hK hP hD hS (kX2_beginOfOneMore l D cy (a 2) (a 5) (upd (v_mi vT) (Int32.toNatClampNeg s1) s2, upd (v_mn vT) (Int32.toNatClampNeg s1) s3, v_pa vT, v_ca vT, v_se vT, v_cm vT) w s1 h2 e4) kvX2_beginOfOneMore wml_X3_169 [9, 10, 11, 12, 13, 14, 27, 28, 29, 30, 31] rfl (by decide) rfl rfl rfl 27 rfl rfl rfl rfl hl.1 rfl ⟨rfl, rfl, Nat.le_of_ble_eq_true rfl, Nat.le_of_ble_eq_true rfl⟩ (Nat.le_of_ble_eq_true rfl) ⟨Nat.zero_le _, Nat.zero_le _⟩ dX3_beginIf_29 (fun H locs hP hD hS => ?_)
  refine W.eq (g2 := F0 m 32 ls [.int q3]) rfl ?_
  subst hF
  exact ct_iret hM hP hS dX3_beginIf_32

abbrev rX3_waitIf : Room := { frames := 4, cells := 0, slots := 0, locals := 101 }
def fX3_waitIf (vT : tVl) (w : tWl) (s1 : Int32) (s2 : Int32) (s3 : Int32) : Int32 × tVl := lt_ (fX3_beginIf vT w s1 s2 s3) fun q2 => ((q2.1 - s3), q2.2)
def oX3_waitIf (vT : tVl) (w : tWl) (s1 : Int32) (s2 : Int32) (s3 : Int32) : Prop := oX3_beginIf vT w s1 s2 s3 ∧ True
theorem kvX3_waitIf : KV yX3_waitIf cX3_waitIf 4 (some .int) 3 := ⟨wcd_X3_waitIf, wim_X3_waitIf, wsl_X3_waitIf, win_X3, by decide +kernel, by decide +kernel, by decide +kernel⟩
set_option maxHeartbeats 4000000 in
set_option maxRecDepth 100000 in
theorem kX3_waitIf (l : Launch) (D : va_G) (cy : Nat → ClassId) (a : Nat → Nat → Nat) (kp : tAr) (vN : tVl) (vT : tVl) (vI : tVl) (vJ : tVl) (w : tWl) (pd : tPd) (s1 : Int32) (s2 : Int32) (s3 : Int32) {R : Int32 × tVl} (hO : oX3_waitIf vT w s1 s2 s3) (hF : fX3_waitIf vT w s1 s2 s3 = R) : CT l D cy yX3_waitIf cX3_waitIf 4 (some .int) rX3_waitIf [.ref (a 0 0), .int s1, .int s2, .int s3] (gwFF cy a kp vN vT vI vJ w pd) (some (.int R.1)) (gwFF cy a kp vN R.2 vI vJ w pd) := by
  refine ct_of (by decide) (Nat.le_of_ble_eq_true rfl) ?_
  intro p e s m args below meth c A ls hM hK hP hD hS hl
  obtain ⟨hx, hb, -, hml, hown, hts, -⟩ := id hM
  have hl : lv_has ls 4 [(0, .ref (a 0 0)), (1, .int s1), (2, .int s2), (3, .int s3)] := hl
  obtain ⟨H, hH⟩ : ∃ H : Heap, H = s.heap := ⟨_, rfl⟩
  obtain ⟨locs, hlocs⟩ : ∃ q : List Loc, q = [] := ⟨_, rfl⟩
  have hP : va_P D classes (gwFF cy a kp vN vT vI vJ w pd) H := by rw [hH]; exact hP
  have hS : va_S A s.heap H locs := by rw [hH, hlocs]; exact hS
  suffices hg : W p l e rX3_waitIf s m args below meth c H locs 0 0 (MQ below (ctQ D (some (.int R.1)) (gwFF cy a kp vN R.2 vI vJ w pd) A) args s 0 0 A) (F0 m 0 ls []) by rw [hH, hlocs] at hg; exact hg
  clear hH hlocs
  unfold fX3_waitIf at hF
  unfold oX3_waitIf at hO
  refine lv_aload_n hx hb dX3_waitIf_0 rfl (lv_at hl 0 rfl) ?_
  refine lv_iload_n hx hb dX3_waitIf_1 rfl (lv_at hl 1 rfl) ?_
  refine lv_iload_n hx hb dX3_waitIf_2 rfl (lv_at hl 2 rfl) ?_
  refine lv_iload_n hx hb dX3_waitIf_3 rfl (lv_at hl 3 rfl) ?_
  obtain ⟨h1, hO⟩ := hO
  obtain ⟨q2, e3⟩ : ∃ q, fX3_beginIf vT w s1 s2 s3 = q := ⟨_, rfl⟩
  have hF := lt_n e3 hF
  try have hO := lo_n e3 hO
  refine ct_callF hM hK hP hD hS (kX3_beginIf l D cy a kp vN vT vI vJ w pd s1 s2 s3 h1 e3) kvX3_beginIf wml_X3_173 rfl 0 rfl rfl rfl rfl hl.1 rfl ⟨rfl, rfl, Nat.le_of_ble_eq_true rfl, Nat.le_of_ble_eq_true rfl⟩ (Nat.le_of_ble_eq_true rfl) ⟨Nat.zero_le _, Nat.zero_le _⟩ dX3_waitIf_4 (fun H locs hP hD hS => ?_)
  refine W.eq (g2 := F0 m 7 ls [.int q2.1]) rfl ?_
  have hP : va_P D classes (gwFF cy a kp vN q2.2 vI vJ w pd) H := hP
  have hD : va_D A (gwFF cy a kp vN q2.2 vI vJ w pd) := hD
  refine lv_iload_n hx hb dX3_waitIf_7 rfl (lv_at hl 3 rfl) ?_
  refine lv_isub hx hb dX3_waitIf_8 ?_
  subst hF
  exact ct_iret hM hP hS dX3_waitIf_9

abbrev rX3_endIfWalked : Room := { frames := 4, cells := 0, slots := 0, locals := 101 }
def fX3_endIfWalked (vN : tVl) (vT : tVl) (w : tWl) (s1 : Int32) (s2 : Int32) (s3 : Int32) : Int32 × tVl := lt_ (if ((v_mi vN) (Int32.toNatClampNeg s1) + s2) < 99 then ((v_mi vN) (Int32.toNatClampNeg s1) + s2) else 99) fun x2 => lt_ (fX3_beginIf vT w s1 x2 ((v_mn vN) (Int32.toNatClampNeg s1) + (s2 * s3))) fun q5 => lt_ (fX1_timeToDraw vN s1) fun q8 => ((q5.1 + q8), q5.2)
def oX3_endIfWalked (vN : tVl) (vT : tVl) (w : tWl) (s1 : Int32) (s2 : Int32) (s3 : Int32) : Prop := vp_in s1 8 ∧ (lo_ (if ((v_mi vN) (Int32.toNatClampNeg s1) + s2) < 99 then ((v_mi vN) (Int32.toNatClampNeg s1) + s2) else 99) fun x2 => oX3_beginIf vT w s1 x2 ((v_mn vN) (Int32.toNatClampNeg s1) + (s2 * s3)) ∧ (lo_ (fX3_beginIf vT w s1 x2 ((v_mn vN) (Int32.toNatClampNeg s1) + (s2 * s3))) fun q5 => oX1_timeToDraw vN s1 ∧ True))
theorem kvX3_endIfWalked : KV yX3_endIfWalked cX3_endIfWalked 5 (some .int) 3 := ⟨wcd_X3_endIfWalked, wim_X3_endIfWalked, wsl_X3_endIfWalked, win_X3, by decide +kernel, by decide +kernel, by decide +kernel⟩
set_option maxHeartbeats 4000000 in
set_option maxRecDepth 100000 in
theorem kX3_endIfWalked (l : Launch) (D : va_G) (cy : Nat → ClassId) (a : Nat → Nat → Nat) (kp : tAr) (vN : tVl) (vT : tVl) (vI : tVl) (vJ : tVl) (w : tWl) (pd : tPd) (s1 : Int32) (s2 : Int32) (s3 : Int32) {R : Int32 × tVl} (hO : oX3_endIfWalked vN vT w s1 s2 s3) (hF : fX3_endIfWalked vN vT w s1 s2 s3 = R) : CT l D cy yX3_endIfWalked cX3_endIfWalked 5 (some .int) rX3_endIfWalked [.ref (a 0 0), .int s1, .int s2, .int s3] (gwFF cy a kp vN vT vI vJ w pd) (some (.int R.1)) (gwFF cy a kp vN R.2 vI vJ w pd) := by
  refine ct_of (by decide) (Nat.le_of_ble_eq_true rfl) ?_
  intro p e s m args below meth c A ls hM hK hP hD hS hl
  obtain ⟨hx, hb, -, hml, hown, hts, -⟩ := id hM
  have hl : lv_has ls 5 [(0, .ref (a 0 0)), (1, .int s1), (2, .int s2), (3, .int s3)] := hl
  obtain ⟨H, hH⟩ : ∃ H : Heap, H = s.heap := ⟨_, rfl⟩
  obtain ⟨locs, hlocs⟩ : ∃ q : List Loc, q = [] := ⟨_, rfl⟩
  have hP : va_P D classes (gwFF cy a kp vN vT vI vJ w pd) H := by rw [hH]; exact hP
  have hS : va_S A s.heap H locs := by rw [hH, hlocs]; exact hS
  suffices hg : W p l e rX3_endIfWalked s m args below meth c H locs 0 0 (MQ below (ctQ D (some (.int R.1)) (gwFF cy a kp vN R.2 vI vJ w pd) A) args s 0 0 A) (F0 m 0 ls []) by rw [hH, hlocs] at hg; exact hg
  clear hH hlocs
  unfold fX3_endIfWalked at hF
  unfold oX3_endIfWalked at hO
  refine lv_bipush (v := 99) hx hb dX3_endIfWalked_0 (by decide) ?_
  refine lv_aload_n hx hb dX3_endIfWalked_2 rfl (lv_at hl 0 rfl) ?_
  refine ct_get (C := RX3) (T := TX3) (N := 6) (ci := 3) (v := .ref (a 1 0)) hM hK hP inX3 0 rfl rfl 0 (by decide) wfl_X3_10 rfl dX3_endIfWalked_3 ?_
  refine ct_get (C := RX1) (T := TX1) (N := 6) (ci := 1) (v := .ref (a 1 1)) hM hK hP inX1 3 rfl rfl 0 (by decide) wfl_X3_45 rfl dX3_endIfWalked_6 ?_
  refine lv_iload_n hx hb dX3_endIfWalked_9 rfl (lv_at hl 1 rfl) ?_
  obtain ⟨h1, hO⟩ := hO
  refine va_iald hx hb hK hP 4 0 (f := v_mi vN) (n := 8) (cA := cy 0) rfl rfl h1 dX3_endIfWalked_10 ?_
  refine lv_iload_n hx hb dX3_endIfWalked_11 rfl (lv_at hl 2 rfl) ?_
  refine lv_iadd hx hb dX3_endIfWalked_12 ?_
  refine ct_min hM hl.1 wml_X3_126 ⟨Nat.le_of_ble_eq_true rfl, Nat.le_of_ble_eq_true rfl⟩ ⟨Nat.zero_le _, Nat.zero_le _⟩ dX3_endIfWalked_13 ?_
  refine lv_topi (fun x2 e3 => ?_)
  have hF := lt_n e3.symm hF
  try have hO := lo_n e3.symm hO
  refine lv_istore (lv' := [(4, .int x2), (0, .ref (a 0 0)), (1, .int s1), (2, .int s2), (3, .int s3)]) hx hb dX3_endIfWalked_16 hl (by decide) rfl (fun ls hl => ?_)
  refine lv_aload_n hx hb dX3_endIfWalked_18 rfl (lv_at hl 1 rfl) ?_
  refine lv_iload_n hx hb dX3_endIfWalked_19 rfl (lv_at hl 2 rfl) ?_
  refine lv_iload hx hb dX3_endIfWalked_20 (lv_at hl 0 rfl) ?_
  refine lv_aload_n hx hb dX3_endIfWalked_22 rfl (lv_at hl 1 rfl) ?_
  refine ct_get (C := RX3) (T := TX3) (N := 6) (ci := 3) (v := .ref (a 1 0)) hM hK hP inX3 0 rfl rfl 0 (by decide) wfl_X3_10 rfl dX3_endIfWalked_23 ?_
  refine ct_get (C := RX1) (T := TX1) (N := 6) (ci := 1) (v := .ref (a 1 2)) hM hK hP inX1 3 rfl rfl 1 (by decide) wfl_X3_49 rfl dX3_endIfWalked_26 ?_
  refine lv_iload_n hx hb dX3_endIfWalked_29 rfl (lv_at hl 2 rfl) ?_
  refine va_iald hx hb hK hP 5 0 (f := v_mn vN) (n := 8) (cA := cy 0) rfl rfl h1 dX3_endIfWalked_30 ?_
  refine lv_iload_n hx hb dX3_endIfWalked_31 rfl (lv_at hl 3 rfl) ?_
  refine lv_iload_n hx hb dX3_endIfWalked_32 rfl (lv_at hl 4 rfl) ?_
  refine lv_imul hx hb dX3_endIfWalked_33 ?_
  refine lv_iadd hx hb dX3_endIfWalked_34 ?_
  obtain ⟨h4, hO⟩ := hO
  obtain ⟨q5, e6⟩ : ∃ q, fX3_beginIf vT w s1 x2 ((v_mn vN) (Int32.toNatClampNeg s1) + (s2 * s3)) = q := ⟨_, rfl⟩
  have hF := lt_n e6 hF
  try have hO := lo_n e6 hO
  refine ct_callF hM hK hP hD hS (kX3_beginIf l D cy a kp vN vT vI vJ w pd s1 x2 ((v_mn vN) (Int32.toNatClampNeg s1) + (s2 * s3)) h4 e6) kvX3_beginIf wml_X3_173 rfl 0 rfl rfl rfl rfl hl.1 rfl ⟨rfl, rfl, Nat.le_of_ble_eq_true rfl, Nat.le_of_ble_eq_true rfl⟩ (Nat.le_of_ble_eq_true rfl) ⟨Nat.zero_le _, Nat.zero_le _⟩ dX3_endIfWalked_35 (fun H locs hP hD hS => ?_)
  refine W.eq (g2 := F0 m 38 ls [.int q5.1]) rfl ?_
  have hP : va_P D classes (gwFF cy a kp vN q5.2 vI vJ w pd) H := hP
  have hD : va_D A (gwFF cy a kp vN q5.2 vI vJ w pd) := hD
  refine lv_aload_n hx hb dX3_endIfWalked_38 rfl (lv_at hl 1 rfl) ?_
  refine ct_get (C := RX3) (T := TX3) (N := 6) (ci := 3) (v := .ref (a 1 0)) hM hK hP inX3 0 rfl rfl 0 (by decide) wfl_X3_10 rfl dX3_endIfWalked_39 ?_
  refine lv_iload_n hx hb dX3_endIfWalked_42 rfl (lv_at hl 2 rfl) ?_
  obtain ⟨h7, hO⟩ := hO
  obtain ⟨q8, e9⟩ : ∃ q, fX1_timeToDraw vN s1 = q := ⟨_, rfl⟩
  have hF := lt_n e9 hF
  try have hO := lo_n e9 hO
  refine ct_callV (ws' := gwFF cy a kp vN q5.2 vI vJ w pd) hM hK hP hD hS (kX1_timeToDraw l D cy (a 1) vN s1 h7 e9) kvX1_timeToDraw wml_X3_176 [3, 4, 5, 6, 7, 8] rfl (by decide) rfl rfl rfl 3 rfl rfl rfl rfl hl.1 rfl ⟨rfl, rfl, Nat.le_of_ble_eq_true rfl, Nat.le_of_ble_eq_true rfl⟩ (Nat.le_of_ble_eq_true rfl) ⟨Nat.zero_le _, Nat.zero_le _⟩ dX3_endIfWalked_43 (fun H locs hP hD hS => ?_)
  refine W.eq (g2 := F0 m 46 ls [.int q8, .int q5.1]) rfl ?_
  refine lv_iadd hx hb dX3_endIfWalked_46 ?_
  subst hF
  exact ct_iret hM hP hS dX3_endIfWalked_47

abbrev rX3_costOfLiving : Room := { frames := 5, cells := 0, slots := 0, locals := 124 }
def fX3_costOfLiving (vN : tVl) (vT : tVl) (w : tWl) (s1 : Int32) (s2 : Int32) (s3 : Int32) : Int32 × tVl := lt_ (fX3_waitIf vT w s1 s2 ((v_mn vN) (Int32.toNatClampNeg s1))) fun q3 => ((q3.1 + (s3 * (99 - s2))), q3.2)
def oX3_costOfLiving (vN : tVl) (vT : tVl) (w : tWl) (s1 : Int32) (s2 : Int32) (s3 : Int32) : Prop := vp_in s1 8 ∧ oX3_waitIf vT w s1 s2 ((v_mn vN) (Int32.toNatClampNeg s1)) ∧ True
theorem kvX3_costOfLiving : KV yX3_costOfLiving cX3_costOfLiving 4 (some .int) 3 := ⟨wcd_X3_costOfLiving, wim_X3_costOfLiving, wsl_X3_costOfLiving, win_X3, by decide +kernel, by decide +kernel, by decide +kernel⟩
set_option maxHeartbeats 4000000 in
set_option maxRecDepth 100000 in
theorem kX3_costOfLiving (l : Launch) (D : va_G) (cy : Nat → ClassId) (a : Nat → Nat → Nat) (kp : tAr) (vN : tVl) (vT : tVl) (vI : tVl) (vJ : tVl) (w : tWl) (pd : tPd) (s1 : Int32) (s2 : Int32) (s3 : Int32) {R : Int32 × tVl} (hO : oX3_costOfLiving vN vT w s1 s2 s3) (hF : fX3_costOfLiving vN vT w s1 s2 s3 = R) : CT l D cy yX3_costOfLiving cX3_costOfLiving 4 (some .int) rX3_costOfLiving [.ref (a 0 0), .int s1, .int s2, .int s3] (gwFF cy a kp vN vT vI vJ w pd) (some (.int R.1)) (gwFF cy a kp vN R.2 vI vJ w pd) := by
  refine ct_of (by decide) (Nat.le_of_ble_eq_true rfl) ?_
  intro p e s m args below meth c A ls hM hK hP hD hS hl
  obtain ⟨hx, hb, -, hml, hown, hts, -⟩ := id hM
  have hl : lv_has ls 4 [(0, .ref (a 0 0)), (1, .int s1), (2, .int s2), (3, .int s3)] := hl
  obtain ⟨H, hH⟩ : ∃ H : Heap, H = s.heap := ⟨_, rfl⟩
  obtain ⟨locs, hlocs⟩ : ∃ q : List Loc, q = [] := ⟨_, rfl⟩
  have hP : va_P D classes (gwFF cy a kp vN vT vI vJ w pd) H := by rw [hH]; exact hP
  have hS : va_S A s.heap H locs := by rw [hH, hlocs]; exact hS
  suffices hg : W p l e rX3_costOfLiving s m args below meth c H locs 0 0 (MQ below (ctQ D (some (.int R.1)) (gwFF cy a kp vN R.2 vI vJ w pd) A) args s 0 0 A) (F0 m 0 ls []) by rw [hH, hlocs] at hg; exact hg
  clear hH hlocs
  unfold fX3_costOfLiving at hF
  unfold oX3_costOfLiving at hO
  refine lv_aload_n hx hb dX3_costOfLiving_0 rfl (lv_at hl 0 rfl) ?_
  refine lv_iload_n hx hb dX3_costOfLiving_1 rfl (lv_at hl 1 rfl) ?_
  refine lv_iload_n hx hb dX3_costOfLiving_2 rfl (lv_at hl 2 rfl) ?_
  refine lv_aload_n hx hb dX3_costOfLiving_3 rfl (lv_at hl 0 rfl) ?_
  refine ct_get (C := RX3) (T := TX3) (N := 6) (ci := 3) (v := .ref (a 1 0)) hM hK hP inX3 0 rfl rfl 0 (by decide) wfl_X3_10 rfl dX3_costOfLiving_4 ?_
  refine ct_get (C := RX1) (T := TX1) (N := 6) (ci := 1) (v := .ref (a 1 2)) hM hK hP inX1 3 rfl rfl 1 (by decide) wfl_X3_49 rfl dX3_costOfLiving_7 ?_
  refine lv_iload_n hx hb dX3_costOfLiving_10 rfl (lv_at hl 1 rfl) ?_
  obtain ⟨h1, hO⟩ := hO
  refine va_iald hx hb hK hP 5 0 (f := v_mn vN) (n := 8) (cA := cy 0) rfl rfl h1 dX3_costOfLiving_11 ?_
  obtain ⟨h2, hO⟩ := hO
  obtain ⟨q3, e4⟩ : ∃ q, fX3_waitIf vT w s1 s2 ((v_mn vN) (Int32.toNatClampNeg s1)) = q := ⟨_, rfl⟩
  have hF := lt_n e4 hF
  try have hO := lo_n e4 hO
  refine ct_callF hM hK hP hD hS (kX3_waitIf l D cy a kp vN vT vI vJ w pd s1 s2 ((v_mn vN) (Int32.toNatClampNeg s1)) h2 e4) kvX3_waitIf wml_X3_136 rfl 0 rfl rfl rfl rfl hl.1 rfl ⟨rfl, rfl, Nat.le_of_ble_eq_true rfl, Nat.le_of_ble_eq_true rfl⟩ (Nat.le_of_ble_eq_true rfl) ⟨Nat.zero_le _, Nat.zero_le _⟩ dX3_costOfLiving_12 (fun H locs hP hD hS => ?_)
  refine W.eq (g2 := F0 m 15 ls [.int q3.1]) rfl ?_
  have hP : va_P D classes (gwFF cy a kp vN q3.2 vI vJ w pd) H := hP
  have hD : va_D A (gwFF cy a kp vN q3.2 vI vJ w pd) := hD
  refine lv_iload_n hx hb dX3_costOfLiving_15 rfl (lv_at hl 3 rfl) ?_
  refine lv_bipush (v := 99) hx hb dX3_costOfLiving_16 (by decide) ?_
  refine lv_iload_n hx hb dX3_costOfLiving_18 rfl (lv_at hl 2 rfl) ?_
  refine lv_isub hx hb dX3_costOfLiving_19 ?_
  refine lv_imul hx hb dX3_costOfLiving_20 ?_
  refine lv_iadd hx hb dX3_costOfLiving_21 ?_
  subst hF
  exact ct_iret hM hP hS dX3_costOfLiving_22

abbrev rX3_best : Room := { frames := 6, cells := 0, slots := 0, locals := 140 }
def fX3_best_78 (vN : tVl) (w : tWl) (s1 : Int32) (s3 : Int32) (s4 : Int32) : Nat → tVl → Int32 → Int32 → Int32 → Int32 × tVl × tWl
  | 0, vT, s5, s6, s7 => (0, vT, w)
  | n + 1, vT, s5, s6, s7 => if s3 < s7 then (if s4 = 0 then (s5, vT, w) else (s6, vT, w)) else (if s6 ≤ 0 then (if s4 = 0 then (s5, vT, w) else (s6, vT, w)) else (lt_ (fX3_waitIf vT w s1 ((v_mi vN) (Int32.toNatClampNeg s1)) s7) fun q34 => lt_ q34.1 fun x36 => if s6 ≤ x36 then (lt_ (s7 + 1) fun x39 => fX3_best_78 vN w s1 s3 s4 n q34.2 s5 s6 x39) else (lt_ (s7 + 1) fun x41 => fX3_best_78 vN w s1 s3 s4 n q34.2 s7 x36 x41)))
def oX3_best_78 (vN : tVl) (w : tWl) (s1 : Int32) (s3 : Int32) (s4 : Int32) : Nat → tVl → Int32 → Int32 → Int32 → Prop
  | 0, _, _, _, _ => False
  | n + 1, vT, s5, s6, s7 => if s3 < s7 then True else (if s6 ≤ 0 then True else (vp_in s1 8 ∧ oX3_waitIf vT w s1 ((v_mi vN) (Int32.toNatClampNeg s1)) s7 ∧ (lo_ (fX3_waitIf vT w s1 ((v_mi vN) (Int32.toNatClampNeg s1)) s7) fun q34 => lo_ q34.1 fun x36 => if s6 ≤ x36 then (lo_ (s7 + 1) fun x39 => oX3_best_78 vN w s1 s3 s4 n q34.2 s5 s6 x39) else (lo_ (s7 + 1) fun x41 => oX3_best_78 vN w s1 s3 s4 n q34.2 s7 x36 x41))))
set_option maxHeartbeats 4000000 in
set_option maxRecDepth 100000 in
theorem tX3_best_78 {p : Program} {l : Launch} {e : Env} {s : State} {m : MethodId} {args : Array Value} {below : List Frame} {meth : Method} {c : Code} {A : Nat → Prop} {D : va_G} {cy : Nat → ClassId} {a : Nat → Nat → Nat} {kp : tAr} {vN : tVl} {vI : tVl} {vJ : tVl} {w : tWl} {pd : tPd} {s1 : Int32} {s2 : Int32} {s3 : Int32} {s4 : Int32} {R : Int32 × tVl × tWl} (hM : MC p s m args meth c RX3 cX3_best 9 (some .int)) (hK : va_K D classes (ctT cy) s) :
    ∀ (n : Nat) (vT : tVl) (s5 : Int32) (s6 : Int32) (s7 : Int32) (H : Heap) (locs : List Loc) (ls : Array Slot), va_P D classes (gwFF cy a kp vN vT vI vJ w pd) H → va_D A (gwFF cy a kp vN vT vI vJ w pd) → va_S A s.heap H locs → lv_has ls 9 [(0, .ref (a 0 0)), (1, .int s1), (2, .int s2), (3, .int s3), (4, .int s4), (5, .int s5), (6, .int s6), (7, .int s7)] → oX3_best_78 vN w s1 s3 s4 n vT s5 s6 s7 → fX3_best_78 vN w s1 s3 s4 n vT s5 s6 s7 = R → W p l e rX3_best s m args below meth c H locs 0 0 (MQ below (ctQ D (some (.int R.1)) (gwFF cy a kp vN R.2.1 vI vJ R.2.2 pd) A) args s 0 0 A) (F0 m 78 ls []) := by
  obtain ⟨hx, hb, -, hml, hown, hts, -⟩ := id hM
  intro n
  induction n with
  | zero =>
    intro vT s5 s6 s7 H locs ls hP hD hS hl hO hF
    exact False.elim hO
  | succ n ih =>
    intro vT s5 s6 s7 H locs ls hP hD hS hl hO hF
    rw [fX3_best_78] at hF
    rw [oX3_best_78] at hO
    refine lv_iload hx hb dX3_best_78 (lv_at hl 7 rfl) ?_
    refine lv_iload_n hx hb dX3_best_80 rfl (lv_at hl 3 rfl) ?_
    refine lv_icmp_gt (tgt := 128) hx hb dX3_best_81 (by decide) (fun c28 => ?_) (fun c28 => ?_)
    · have hF := lt_t c28 hF
      have hO := lo_t c28 hO
      refine lv_iload hx hb dX3_best_128 (lv_at hl 4 rfl) ?_
      refine lv_if_ne (tgt := 138) hx hb dX3_best_130 (by decide) (fun c29 => ?_) (fun c29 => ?_)
      · have hF := lt_f c29 hF
        refine lv_iload hx hb dX3_best_138 (lv_at hl 6 rfl) ?_
        subst hF
        exact ct_iret hM hP hS dX3_best_140
      · have hF := lt_t c29 hF
        refine lv_iload hx hb dX3_best_133 (lv_at hl 5 rfl) ?_
        refine lv_goto (tgt := 140) hx hb dX3_best_135 (by decide) ?_
        subst hF
        exact ct_iret hM hP hS dX3_best_140
    · have hF := lt_f c28 hF
      have hO := lo_f c28 hO
      refine lv_iload hx hb dX3_best_84 (lv_at hl 6 rfl) ?_
      refine lv_if_le (tgt := 128) hx hb dX3_best_86 (by decide) (fun c30 => ?_) (fun c30 => ?_)
      · have hF := lt_t c30 hF
        have hO := lo_t c30 hO
        refine lv_iload hx hb dX3_best_128 (lv_at hl 4 rfl) ?_
        refine lv_if_ne (tgt := 138) hx hb dX3_best_130 (by decide) (fun c31 => ?_) (fun c31 => ?_)
        · have hF := lt_f c31 hF
          refine lv_iload hx hb dX3_best_138 (lv_at hl 6 rfl) ?_
          subst hF
          exact ct_iret hM hP hS dX3_best_140
        · have hF := lt_t c31 hF
          refine lv_iload hx hb dX3_best_133 (lv_at hl 5 rfl) ?_
          refine lv_goto (tgt := 140) hx hb dX3_best_135 (by decide) ?_
          subst hF
          exact ct_iret hM hP hS dX3_best_140
      · have hF := lt_f c30 hF
        have hO := lo_f c30 hO
        refine lv_aload_n hx hb dX3_best_89 rfl (lv_at hl 0 rfl) ?_
        refine lv_iload_n hx hb dX3_best_90 rfl (lv_at hl 1 rfl) ?_
        refine lv_aload_n hx hb dX3_best_91 rfl (lv_at hl 0 rfl) ?_
        refine ct_get (C := RX3) (T := TX3) (N := 6) (ci := 3) (v := .ref (a 1 0)) hM hK hP inX3 0 rfl rfl 0 (by decide) wfl_X3_10 rfl dX3_best_92 ?_
        refine ct_get (C := RX1) (T := TX1) (N := 6) (ci := 1) (v := .ref (a 1 1)) hM hK hP inX1 3 rfl rfl 0 (by decide) wfl_X3_45 rfl dX3_best_95 ?_
        refine lv_iload_n hx hb dX3_best_98 rfl (lv_at hl 1 rfl) ?_
        obtain ⟨h32, hO⟩ := hO
        refine va_iald hx hb hK hP 4 0 (f := v_mi vN) (n := 8) (cA := cy 0) rfl rfl h32 dX3_best_99 ?_
        refine lv_iload hx hb dX3_best_100 (lv_at hl 7 rfl) ?_
        obtain ⟨h33, hO⟩ := hO
        obtain ⟨q34, e35⟩ : ∃ q, fX3_waitIf vT w s1 ((v_mi vN) (Int32.toNatClampNeg s1)) s7 = q := ⟨_, rfl⟩
        have hF := lt_n e35 hF
        try have hO := lo_n e35 hO
        refine ct_callF hM hK hP hD hS (kX3_waitIf l D cy a kp vN vT vI vJ w pd s1 ((v_mi vN) (Int32.toNatClampNeg s1)) s7 h33 e35) kvX3_waitIf wml_X3_136 rfl 0 rfl rfl rfl rfl hl.1 rfl ⟨rfl, rfl, Nat.le_of_ble_eq_true rfl, Nat.le_of_ble_eq_true rfl⟩ (Nat.le_of_ble_eq_true rfl) ⟨Nat.zero_le _, Nat.zero_le _⟩ dX3_best_102 (fun H locs hP hD hS => ?_)
        refine W.eq (g2 := F0 m 105 ls [.int q34.1]) rfl ?_
        have hP : va_P D classes (gwFF cy a kp vN q34.2 vI vJ w pd) H := hP
        have hD : va_D A (gwFF cy a kp vN q34.2 vI vJ w pd) := hD
        refine lv_topi (fun x36 e37 => ?_)
        have hF := lt_n e37.symm hF
        try have hO := lo_n e37.symm hO
        refine lv_istore (lv' := [(8, .int x36), (0, .ref (a 0 0)), (1, .int s1), (2, .int s2), (3, .int s3), (4, .int s4), (5, .int s5), (6, .int s6), (7, .int s7)]) hx hb dX3_best_105 hl (by decide) rfl (fun ls hl => ?_)
        refine lv_iload hx hb dX3_best_107 (lv_at hl 0 rfl) ?_
        refine lv_iload hx hb dX3_best_109 (lv_at hl 7 rfl) ?_
        refine lv_icmp_ge (tgt := 122) hx hb dX3_best_111 (by decide) (fun c38 => ?_) (fun c38 => ?_)
        · have hF := lt_t c38 hF
          have hO := lo_t c38 hO
          obtain ⟨x39, e40⟩ : ∃ y : Int32, s7 + 1 = y := ⟨_, rfl⟩
          have hF := lt_n e40 hF
          try have hO := lo_n e40 hO
          refine lv_iinc (v := x39) (lv' := [(7, .int x39), (8, .int x36), (0, .ref (a 0 0)), (1, .int s1), (2, .int s2), (3, .int s3), (4, .int s4), (5, .int s5), (6, .int s6)]) hx hb dX3_best_122 hl (k := 8) rfl (by rw [← e40]; rfl) (by decide) rfl (fun ls hl => ?_)
          refine lv_goto (tgt := 78) hx hb dX3_best_125 (by decide) ?_
          exact ih q34.2 s5 s6 x39 H locs ls hP hD hS (lv_sub hl [2, 3, 4, 5, 6, 7, 8, 0] rfl) hO hF
        · have hF := lt_f c38 hF
          have hO := lo_f c38 hO
          refine lv_iload hx hb dX3_best_114 (lv_at hl 0 rfl) ?_
          refine lv_istore (lv' := [(6, .int x36), (8, .int x36), (0, .ref (a 0 0)), (1, .int s1), (2, .int s2), (3, .int s3), (4, .int s4), (5, .int s5), (7, .int s7)]) hx hb dX3_best_116 hl (by decide) rfl (fun ls hl => ?_)
          refine lv_iload hx hb dX3_best_118 (lv_at hl 8 rfl) ?_
          refine lv_istore (lv' := [(5, .int s7), (6, .int x36), (8, .int x36), (0, .ref (a 0 0)), (1, .int s1), (2, .int s2), (3, .int s3), (4, .int s4), (7, .int s7)]) hx hb dX3_best_120 hl (by decide) rfl (fun ls hl => ?_)
          obtain ⟨x41, e42⟩ : ∃ y : Int32, s7 + 1 = y := ⟨_, rfl⟩
          have hF := lt_n e42 hF
          try have hO := lo_n e42 hO
          refine lv_iinc (v := x41) (lv' := [(7, .int x41), (5, .int s7), (6, .int x36), (8, .int x36), (0, .ref (a 0 0)), (1, .int s1), (2, .int s2), (3, .int s3), (4, .int s4)]) hx hb dX3_best_122 hl (k := 8) rfl (by rw [← e42]; rfl) (by decide) rfl (fun ls hl => ?_)
          refine lv_goto (tgt := 78) hx hb dX3_best_125 (by decide) ?_
          exact ih q34.2 s7 x36 x41 H locs ls hP hD hS (lv_sub hl [4, 5, 6, 7, 8, 1, 2, 0] rfl) hO hF

def fX3_best (vN : tVl) (vT : tVl) (w : tWl) (s1 : Int32) (s2 : Int32) (s3 : Int32) (s4 : Int32) : Int32 × tVl × tWl := lt_ (fX1_comes vN s1) fun q2 => if q2 = 0 then ((-1), vT, w) else (lt_ (fX3_within s2 0 999) fun q6 => if q6 = 0 then ((-2), vT, w) else (lt_ (fX3_within s3 s2 999) fun q10 => if q10 = 0 then ((-2), vT, w) else (lt_ (fX3_within s4 0 1) fun q14 => if q14 = 0 then ((-2), vT, w) else (lt_ (fX3_leaveOut vN vT w s1) fun q18 => lt_ (fX3_waitIf q18.1 q18.2 s1 ((v_mi vN) (Int32.toNatClampNeg s1)) s2) fun q22 => lt_ q22.1 fun x24 => lt_ (s2 + 1) fun x26 => fX3_best_78 vN q18.2 s1 s3 s4 1001 q22.2 s2 x24 x26))))
def oX3_best (vN : tVl) (vT : tVl) (w : tWl) (s1 : Int32) (s2 : Int32) (s3 : Int32) (s4 : Int32) : Prop := lo_ (fX1_comes vN s1) fun q2 => if q2 = 0 then True else (lo_ (fX3_within s2 0 999) fun q6 => if q6 = 0 then True else (lo_ (fX3_within s3 s2 999) fun q10 => if q10 = 0 then True else (lo_ (fX3_within s4 0 1) fun q14 => if q14 = 0 then True else (oX3_leaveOut vN vT w s1 ∧ (lo_ (fX3_leaveOut vN vT w s1) fun q18 => vp_in s1 8 ∧ oX3_waitIf q18.1 q18.2 s1 ((v_mi vN) (Int32.toNatClampNeg s1)) s2 ∧ (lo_ (fX3_waitIf q18.1 q18.2 s1 ((v_mi vN) (Int32.toNatClampNeg s1)) s2) fun q22 => lo_ q22.1 fun x24 => lo_ (s2 + 1) fun x26 => oX3_best_78 vN q18.2 s1 s3 s4 1001 q22.2 s2 x24 x26))))))
theorem kvX3_best : KV yX3_best cX3_best 9 (some .int) 4 := ⟨wcd_X3_best, wim_X3_best, wsl_X3_best, win_X3, by decide +kernel, by decide +kernel, by decide +kernel⟩
set_option maxHeartbeats 4000000 in
set_option maxRecDepth 100000 in
theorem kX3_best (l : Launch) (D : va_G) (cy : Nat → ClassId) (a : Nat → Nat → Nat) (kp : tAr) (vN : tVl) (vT : tVl) (vI : tVl) (vJ : tVl) (w : tWl) (pd : tPd) (s1 : Int32) (s2 : Int32) (s3 : Int32) (s4 : Int32) {R : Int32 × tVl × tWl} (hO : oX3_best vN vT w s1 s2 s3 s4) (hF : fX3_best vN vT w s1 s2 s3 s4 = R) : CT l D cy yX3_best cX3_best 9 (some .int) rX3_best [.ref (a 0 0), .int s1, .int s2, .int s3, .int s4] (gwFF cy a kp vN vT vI vJ w pd) (some (.int R.1)) (gwFF cy a kp vN R.2.1 vI vJ R.2.2 pd) := by
  refine ct_of (by decide) (Nat.le_of_ble_eq_true rfl) ?_
  intro p e s m args below meth c A ls hM hK hP hD hS hl
  obtain ⟨hx, hb, -, hml, hown, hts, -⟩ := id hM
  have hl : lv_has ls 9 [(0, .ref (a 0 0)), (1, .int s1), (2, .int s2), (3, .int s3), (4, .int s4)] := hl
  obtain ⟨H, hH⟩ : ∃ H : Heap, H = s.heap := ⟨_, rfl⟩
  obtain ⟨locs, hlocs⟩ : ∃ q : List Loc, q = [] := ⟨_, rfl⟩
  have hP : va_P D classes (gwFF cy a kp vN vT vI vJ w pd) H := by rw [hH]; exact hP
  have hS : va_S A s.heap H locs := by rw [hH, hlocs]; exact hS
  suffices hg : W p l e rX3_best s m args below meth c H locs 0 0 (MQ below (ctQ D (some (.int R.1)) (gwFF cy a kp vN R.2.1 vI vJ R.2.2 pd) A) args s 0 0 A) (F0 m 0 ls []) by rw [hH, hlocs] at hg; exact hg
  clear hH hlocs
  unfold fX3_best at hF
  unfold oX3_best at hO
  refine lv_aload_n hx hb dX3_best_0 rfl (lv_at hl 0 rfl) ?_
  refine ct_get (C := RX3) (T := TX3) (N := 6) (ci := 3) (v := .ref (a 1 0)) hM hK hP inX3 0 rfl rfl 0 (by decide) wfl_X3_10 rfl dX3_best_1 ?_
  refine lv_iload_n hx hb dX3_best_4 rfl (lv_at hl 1 rfl) ?_
  obtain ⟨q2, e3⟩ : ∃ q, fX1_comes vN s1 = q := ⟨_, rfl⟩
  have hF := lt_n e3 hF
  try have hO := lo_n e3 hO
  refine ct_callV (ws' := gwFF cy a kp vN vT vI vJ w pd) hM hK hP hD hS (kX1_comes l D cy (a 1) vN s1 trivial e3) kvX1_comes wml_X3_68 [3, 4, 5, 6, 7, 8] rfl (by decide) rfl rfl rfl 3 rfl rfl rfl rfl hl.1 rfl ⟨rfl, rfl, Nat.le_of_ble_eq_true rfl, Nat.le_of_ble_eq_true rfl⟩ (Nat.le_of_ble_eq_true rfl) ⟨Nat.zero_le _, Nat.zero_le _⟩ dX3_best_5 (fun H locs hP hD hS => ?_)
  refine W.eq (g2 := F0 m 8 ls [.int q2]) rfl ?_
  refine lv_if_ne (tgt := 13) hx hb dX3_best_8 (by decide) (fun c4 => ?_) (fun c4 => ?_)
  · have hF := lt_f c4 hF
    have hO := lo_f c4 hO
    refine lv_iload_n hx hb dX3_best_13 rfl (lv_at hl 2 rfl) ?_
    refine lv_iconst (v := 0) hx hb dX3_best_14 (by decide) ?_
    refine lv_sipush (v := 999) hx hb dX3_best_15 (by decide) ?_
    obtain ⟨q6, e7⟩ : ∃ q, fX3_within s2 0 999 = q := ⟨_, rfl⟩
    have hF := lt_n e7 hF
    try have hO := lo_n e7 hO
    refine ct_callS hM hK hP hD hS (kX3_within l D cy s2 0 999 trivial e7) kvX3_within wml_X3_41 rfl hl.1 rfl ⟨rfl, rfl, Nat.le_of_ble_eq_true rfl, Nat.le_of_ble_eq_true rfl⟩ (Nat.le_of_ble_eq_true rfl) ⟨Nat.zero_le _, Nat.zero_le _⟩ dX3_best_18 (fun H locs hP hD hS => ?_)
    refine W.eq (g2 := F0 m 21 ls [.int q6]) rfl ?_
    have hP : va_P D classes (gwFF cy a kp vN vT vI vJ w pd) H := hP
    have hD : va_D A (gwFF cy a kp vN vT vI vJ w pd) := hD
    refine lv_if_eq (tgt := 45) hx hb dX3_best_21 (by decide) (fun c8 => ?_) (fun c8 => ?_)
    · have hF := lt_t c8 hF
      have hO := lo_t c8 hO
      refine lv_bipush (v := (-2)) hx hb dX3_best_45 (by decide) ?_
      subst hF
      exact ct_iret hM hP hS dX3_best_47
    · have hF := lt_f c8 hF
      have hO := lo_f c8 hO
      refine lv_iload_n hx hb dX3_best_24 rfl (lv_at hl 3 rfl) ?_
      refine lv_iload_n hx hb dX3_best_25 rfl (lv_at hl 2 rfl) ?_
      refine lv_sipush (v := 999) hx hb dX3_best_26 (by decide) ?_
      obtain ⟨q10, e11⟩ : ∃ q, fX3_within s3 s2 999 = q := ⟨_, rfl⟩
      have hF := lt_n e11 hF
      try have hO := lo_n e11 hO
      refine ct_callS hM hK hP hD hS (kX3_within l D cy s3 s2 999 trivial e11) kvX3_within wml_X3_41 rfl hl.1 rfl ⟨rfl, rfl, Nat.le_of_ble_eq_true rfl, Nat.le_of_ble_eq_true rfl⟩ (Nat.le_of_ble_eq_true rfl) ⟨Nat.zero_le _, Nat.zero_le _⟩ dX3_best_29 (fun H locs hP hD hS => ?_)
      refine W.eq (g2 := F0 m 32 ls [.int q10]) rfl ?_
      have hP : va_P D classes (gwFF cy a kp vN vT vI vJ w pd) H := hP
      have hD : va_D A (gwFF cy a kp vN vT vI vJ w pd) := hD
      refine lv_if_eq (tgt := 45) hx hb dX3_best_32 (by decide) (fun c12 => ?_) (fun c12 => ?_)
      · have hF := lt_t c12 hF
        have hO := lo_t c12 hO
        refine lv_bipush (v := (-2)) hx hb dX3_best_45 (by decide) ?_
        subst hF
        exact ct_iret hM hP hS dX3_best_47
      · have hF := lt_f c12 hF
        have hO := lo_f c12 hO
        refine lv_iload hx hb dX3_best_35 (lv_at hl 4 rfl) ?_
        refine lv_iconst (v := 0) hx hb dX3_best_37 (by decide) ?_
        refine lv_iconst (v := 1) hx hb dX3_best_38 (by decide) ?_
        obtain ⟨q14, e15⟩ : ∃ q, fX3_within s4 0 1 = q := ⟨_, rfl⟩
        have hF := lt_n e15 hF
        try have hO := lo_n e15 hO
        refine ct_callS hM hK hP hD hS (kX3_within l D cy s4 0 1 trivial e15) kvX3_within wml_X3_41 rfl hl.1 rfl ⟨rfl, rfl, Nat.le_of_ble_eq_true rfl, Nat.le_of_ble_eq_true rfl⟩ (Nat.le_of_ble_eq_true rfl) ⟨Nat.zero_le _, Nat.zero_le _⟩ dX3_best_39 (fun H locs hP hD hS => ?_)
        refine W.eq (g2 := F0 m 42 ls [.int q14]) rfl ?_
        have hP : va_P D classes (gwFF cy a kp vN vT vI vJ w pd) H := hP
        have hD : va_D A (gwFF cy a kp vN vT vI vJ w pd) := hD
        refine lv_if_ne (tgt := 48) hx hb dX3_best_42 (by decide) (fun c16 => ?_) (fun c16 => ?_)
        · have hF := lt_f c16 hF
          have hO := lo_f c16 hO
          refine lv_aload_n hx hb dX3_best_48 rfl (lv_at hl 0 rfl) ?_
          refine lv_iload_n hx hb dX3_best_49 rfl (lv_at hl 1 rfl) ?_
          obtain ⟨h17, hO⟩ := hO
          obtain ⟨q18, e19⟩ : ∃ q, fX3_leaveOut vN vT w s1 = q := ⟨_, rfl⟩
          have hF := lt_n e19 hF
          try have hO := lo_n e19 hO
          refine ct_callF hM hK hP hD hS (kX3_leaveOut l D cy a kp vN vT vI vJ w pd s1 h17 e19) kvX3_leaveOut wml_X3_132 rfl 0 rfl rfl rfl rfl hl.1 rfl ⟨rfl, rfl, Nat.le_of_ble_eq_true rfl, Nat.le_of_ble_eq_true rfl⟩ (Nat.le_of_ble_eq_true rfl) ⟨Nat.zero_le _, Nat.zero_le _⟩ dX3_best_50 (fun H locs hP hD hS => ?_)
          refine W.eq (g2 := F0 m 53 ls []) rfl ?_
          have hP : va_P D classes (gwFF cy a kp vN q18.1 vI vJ q18.2 pd) H := hP
          have hD : va_D A (gwFF cy a kp vN q18.1 vI vJ q18.2 pd) := hD
          refine lv_iload_n hx hb dX3_best_53 rfl (lv_at hl 2 rfl) ?_
          refine lv_istore (lv' := [(5, .int s2), (0, .ref (a 0 0)), (1, .int s1), (2, .int s2), (3, .int s3), (4, .int s4)]) hx hb dX3_best_54 hl (by decide) rfl (fun ls hl => ?_)
          refine lv_aload_n hx hb dX3_best_56 rfl (lv_at hl 1 rfl) ?_
          refine lv_iload_n hx hb dX3_best_57 rfl (lv_at hl 2 rfl) ?_
          refine lv_aload_n hx hb dX3_best_58 rfl (lv_at hl 1 rfl) ?_
          refine ct_get (C := RX3) (T := TX3) (N := 6) (ci := 3) (v := .ref (a 1 0)) hM hK hP inX3 0 rfl rfl 0 (by decide) wfl_X3_10 rfl dX3_best_59 ?_
          refine ct_get (C := RX1) (T := TX1) (N := 6) (ci := 1) (v := .ref (a 1 1)) hM hK hP inX1 3 rfl rfl 0 (by decide) wfl_X3_45 rfl dX3_best_62 ?_
          refine lv_iload_n hx hb dX3_best_65 rfl (lv_at hl 2 rfl) ?_
          obtain ⟨h20, hO⟩ := hO
          refine va_iald hx hb hK hP 4 0 (f := v_mi vN) (n := 8) (cA := cy 0) rfl rfl h20 dX3_best_66 ?_
          refine lv_iload_n hx hb dX3_best_67 rfl (lv_at hl 3 rfl) ?_
          obtain ⟨h21, hO⟩ := hO
          obtain ⟨q22, e23⟩ : ∃ q, fX3_waitIf q18.1 q18.2 s1 ((v_mi vN) (Int32.toNatClampNeg s1)) s2 = q := ⟨_, rfl⟩
          have hF := lt_n e23 hF
          try have hO := lo_n e23 hO
          refine ct_callF hM hK hP hD hS (kX3_waitIf l D cy a kp vN q18.1 vI vJ q18.2 pd s1 ((v_mi vN) (Int32.toNatClampNeg s1)) s2 h21 e23) kvX3_waitIf wml_X3_136 rfl 0 rfl rfl rfl rfl hl.1 rfl ⟨rfl, rfl, Nat.le_of_ble_eq_true rfl, Nat.le_of_ble_eq_true rfl⟩ (Nat.le_of_ble_eq_true rfl) ⟨Nat.zero_le _, Nat.zero_le _⟩ dX3_best_68 (fun H locs hP hD hS => ?_)
          refine W.eq (g2 := F0 m 71 ls [.int q22.1]) rfl ?_
          have hP : va_P D classes (gwFF cy a kp vN q22.2 vI vJ q18.2 pd) H := hP
          have hD : va_D A (gwFF cy a kp vN q22.2 vI vJ q18.2 pd) := hD
          refine lv_topi (fun x24 e25 => ?_)
          have hF := lt_n e25.symm hF
          try have hO := lo_n e25.symm hO
          refine lv_istore (lv' := [(6, .int x24), (5, .int s2), (0, .ref (a 0 0)), (1, .int s1), (2, .int s2), (3, .int s3), (4, .int s4)]) hx hb dX3_best_71 hl (by decide) rfl (fun ls hl => ?_)
          refine lv_iload_n hx hb dX3_best_73 rfl (lv_at hl 4 rfl) ?_
          refine lv_iconst (v := 1) hx hb dX3_best_74 (by decide) ?_
          refine lv_iadd hx hb dX3_best_75 ?_
          refine lv_topi (fun x26 e27 => ?_)
          have hF := lt_n e27.symm hF
          try have hO := lo_n e27.symm hO
          refine lv_istore (lv' := [(7, .int x26), (6, .int x24), (5, .int s2), (0, .ref (a 0 0)), (1, .int s1), (2, .int s2), (3, .int s3), (4, .int s4)]) hx hb dX3_best_76 hl (by decide) rfl (fun ls hl => ?_)
          exact tX3_best_78 hM hK 1001 q22.2 s2 x24 x26 H locs ls hP hD hS (lv_sub hl [3, 4, 5, 6, 7, 2, 1, 0] rfl) hO hF
        · have hF := lt_t c16 hF
          have hO := lo_t c16 hO
          refine lv_bipush (v := (-2)) hx hb dX3_best_45 (by decide) ?_
          subst hF
          exact ct_iret hM hP hS dX3_best_47
  · have hF := lt_t c4 hF
    have hO := lo_t c4 hO
    refine lv_iconst (v := (-1)) hx hb dX3_best_11 (by decide) ?_
    subst hF
    exact ct_iret hM hP hS dX3_best_12

abbrev rX3_walk : Room := { frames := 6, cells := 0, slots := 0, locals := 140 }
def fX3_walk_55 (vN : tVl) (w : tWl) (s1 : Int32) (s2 : Int32) (s3 : Int32) : Nat → tVl → Int32 → Int32 → Int32 → Int32 × tVl × tWl
  | 0, vT, s4, s5, s6 => (0, vT, w)
  | n + 1, vT, s4, s5, s6 => if 9 < s6 then (if s3 = 0 then (s4, vT, w) else (s5, vT, w)) else (lt_ (fX3_endIfWalked vN vT w s1 s6 s2) fun q24 => lt_ q24.1 fun x26 => if s5 ≤ x26 then (lt_ (s6 + 1) fun x29 => fX3_walk_55 vN w s1 s2 s3 n q24.2 s4 s5 x29) else (lt_ (s6 + 1) fun x31 => fX3_walk_55 vN w s1 s2 s3 n q24.2 s6 x26 x31))
def oX3_walk_55 (vN : tVl) (w : tWl) (s1 : Int32) (s2 : Int32) (s3 : Int32) : Nat → tVl → Int32 → Int32 → Int32 → Prop
  | 0, _, _, _, _ => False
  | n + 1, vT, s4, s5, s6 => if 9 < s6 then True else (oX3_endIfWalked vN vT w s1 s6 s2 ∧ (lo_ (fX3_endIfWalked vN vT w s1 s6 s2) fun q24 => lo_ q24.1 fun x26 => if s5 ≤ x26 then (lo_ (s6 + 1) fun x29 => oX3_walk_55 vN w s1 s2 s3 n q24.2 s4 s5 x29) else (lo_ (s6 + 1) fun x31 => oX3_walk_55 vN w s1 s2 s3 n q24.2 s6 x26 x31)))
set_option maxHeartbeats 4000000 in
set_option maxRecDepth 100000 in
theorem tX3_walk_55 {p : Program} {l : Launch} {e : Env} {s : State} {m : MethodId} {args : Array Value} {below : List Frame} {meth : Method} {c : Code} {A : Nat → Prop} {D : va_G} {cy : Nat → ClassId} {a : Nat → Nat → Nat} {kp : tAr} {vN : tVl} {vI : tVl} {vJ : tVl} {w : tWl} {pd : tPd} {s1 : Int32} {s2 : Int32} {s3 : Int32} {R : Int32 × tVl × tWl} (hM : MC p s m args meth c RX3 cX3_walk 8 (some .int)) (hK : va_K D classes (ctT cy) s) :
    ∀ (n : Nat) (vT : tVl) (s4 : Int32) (s5 : Int32) (s6 : Int32) (H : Heap) (locs : List Loc) (ls : Array Slot), va_P D classes (gwFF cy a kp vN vT vI vJ w pd) H → va_D A (gwFF cy a kp vN vT vI vJ w pd) → va_S A s.heap H locs → lv_has ls 8 [(0, .ref (a 0 0)), (1, .int s1), (2, .int s2), (3, .int s3), (4, .int s4), (5, .int s5), (6, .int s6)] → oX3_walk_55 vN w s1 s2 s3 n vT s4 s5 s6 → fX3_walk_55 vN w s1 s2 s3 n vT s4 s5 s6 = R → W p l e rX3_walk s m args below meth c H locs 0 0 (MQ below (ctQ D (some (.int R.1)) (gwFF cy a kp vN R.2.1 vI vJ R.2.2 pd) A) args s 0 0 A) (F0 m 55 ls []) := by
  obtain ⟨hx, hb, -, hml, hown, hts, -⟩ := id hM
  intro n
  induction n with
  | zero =>
    intro vT s4 s5 s6 H locs ls hP hD hS hl hO hF
    exact False.elim hO
  | succ n ih =>
    intro vT s4 s5 s6 H locs ls hP hD hS hl hO hF
    rw [fX3_walk_55] at hF
    rw [oX3_walk_55] at hO
    refine lv_iload hx hb dX3_walk_55 (lv_at hl 6 rfl) ?_
    refine lv_bipush (v := 9) hx hb dX3_walk_57 (by decide) ?_
    refine lv_icmp_gt (tgt := 93) hx hb dX3_walk_59 (by decide) (fun c21 => ?_) (fun c21 => ?_)
    · have hF := lt_t c21 hF
      have hO := lo_t c21 hO
      refine lv_iload_n hx hb dX3_walk_93 rfl (lv_at hl 3 rfl) ?_
      refine lv_if_ne (tgt := 102) hx hb dX3_walk_94 (by decide) (fun c22 => ?_) (fun c22 => ?_)
      · have hF := lt_f c22 hF
        refine lv_iload hx hb dX3_walk_102 (lv_at hl 5 rfl) ?_
        subst hF
        exact ct_iret hM hP hS dX3_walk_104
      · have hF := lt_t c22 hF
        refine lv_iload hx hb dX3_walk_97 (lv_at hl 4 rfl) ?_
        refine lv_goto (tgt := 104) hx hb dX3_walk_99 (by decide) ?_
        subst hF
        exact ct_iret hM hP hS dX3_walk_104
    · have hF := lt_f c21 hF
      have hO := lo_f c21 hO
      refine lv_aload_n hx hb dX3_walk_62 rfl (lv_at hl 0 rfl) ?_
      refine lv_iload_n hx hb dX3_walk_63 rfl (lv_at hl 1 rfl) ?_
      refine lv_iload hx hb dX3_walk_64 (lv_at hl 6 rfl) ?_
      refine lv_iload_n hx hb dX3_walk_66 rfl (lv_at hl 2 rfl) ?_
      obtain ⟨h23, hO⟩ := hO
      obtain ⟨q24, e25⟩ : ∃ q, fX3_endIfWalked vN vT w s1 s6 s2 = q := ⟨_, rfl⟩
      have hF := lt_n e25 hF
      try have hO := lo_n e25 hO
      refine ct_callF hM hK hP hD hS (kX3_endIfWalked l D cy a kp vN vT vI vJ w pd s1 s6 s2 h23 e25) kvX3_endIfWalked wml_X3_140 rfl 0 rfl rfl rfl rfl hl.1 rfl ⟨rfl, rfl, Nat.le_of_ble_eq_true rfl, Nat.le_of_ble_eq_true rfl⟩ (Nat.le_of_ble_eq_true rfl) ⟨Nat.zero_le _, Nat.zero_le _⟩ dX3_walk_67 (fun H locs hP hD hS => ?_)
      refine W.eq (g2 := F0 m 70 ls [.int q24.1]) rfl ?_
      have hP : va_P D classes (gwFF cy a kp vN q24.2 vI vJ w pd) H := hP
      have hD : va_D A (gwFF cy a kp vN q24.2 vI vJ w pd) := hD
      refine lv_topi (fun x26 e27 => ?_)
      have hF := lt_n e27.symm hF
      try have hO := lo_n e27.symm hO
      refine lv_istore (lv' := [(7, .int x26), (0, .ref (a 0 0)), (1, .int s1), (2, .int s2), (3, .int s3), (4, .int s4), (5, .int s5), (6, .int s6)]) hx hb dX3_walk_70 hl (by decide) rfl (fun ls hl => ?_)
      refine lv_iload hx hb dX3_walk_72 (lv_at hl 0 rfl) ?_
      refine lv_iload hx hb dX3_walk_74 (lv_at hl 6 rfl) ?_
      refine lv_icmp_ge (tgt := 87) hx hb dX3_walk_76 (by decide) (fun c28 => ?_) (fun c28 => ?_)
      · have hF := lt_t c28 hF
        have hO := lo_t c28 hO
        obtain ⟨x29, e30⟩ : ∃ y : Int32, s6 + 1 = y := ⟨_, rfl⟩
        have hF := lt_n e30 hF
        try have hO := lo_n e30 hO
        refine lv_iinc (v := x29) (lv' := [(6, .int x29), (7, .int x26), (0, .ref (a 0 0)), (1, .int s1), (2, .int s2), (3, .int s3), (4, .int s4), (5, .int s5)]) hx hb dX3_walk_87 hl (k := 7) rfl (by rw [← e30]; rfl) (by decide) rfl (fun ls hl => ?_)
        refine lv_goto (tgt := 55) hx hb dX3_walk_90 (by decide) ?_
        exact ih q24.2 s4 s5 x29 H locs ls hP hD hS (lv_sub hl [2, 3, 4, 5, 6, 7, 0] rfl) hO hF
      · have hF := lt_f c28 hF
        have hO := lo_f c28 hO
        refine lv_iload hx hb dX3_walk_79 (lv_at hl 0 rfl) ?_
        refine lv_istore (lv' := [(5, .int x26), (7, .int x26), (0, .ref (a 0 0)), (1, .int s1), (2, .int s2), (3, .int s3), (4, .int s4), (6, .int s6)]) hx hb dX3_walk_81 hl (by decide) rfl (fun ls hl => ?_)
        refine lv_iload hx hb dX3_walk_83 (lv_at hl 7 rfl) ?_
        refine lv_istore (lv' := [(4, .int s6), (5, .int x26), (7, .int x26), (0, .ref (a 0 0)), (1, .int s1), (2, .int s2), (3, .int s3), (6, .int s6)]) hx hb dX3_walk_85 hl (by decide) rfl (fun ls hl => ?_)
        obtain ⟨x31, e32⟩ : ∃ y : Int32, s6 + 1 = y := ⟨_, rfl⟩
        have hF := lt_n e32 hF
        try have hO := lo_n e32 hO
        refine lv_iinc (v := x31) (lv' := [(6, .int x31), (4, .int s6), (5, .int x26), (7, .int x26), (0, .ref (a 0 0)), (1, .int s1), (2, .int s2), (3, .int s3)]) hx hb dX3_walk_87 hl (k := 7) rfl (by rw [← e32]; rfl) (by decide) rfl (fun ls hl => ?_)
        refine lv_goto (tgt := 55) hx hb dX3_walk_90 (by decide) ?_
        exact ih q24.2 s6 x26 x31 H locs ls hP hD hS (lv_sub hl [4, 5, 6, 7, 1, 2, 0] rfl) hO hF

def fX3_walk (vN : tVl) (vT : tVl) (w : tWl) (s1 : Int32) (s2 : Int32) (s3 : Int32) : Int32 × tVl × tWl := lt_ (fX1_comes vN s1) fun q2 => if q2 = 0 then ((-1), vT, w) else (lt_ (fX3_within s2 1 60) fun q6 => if q6 = 0 then ((-2), vT, w) else (lt_ (fX3_within s3 0 1) fun q10 => if q10 = 0 then ((-2), vT, w) else (lt_ (fX3_leaveOut vN vT w s1) fun q14 => lt_ (fX3_endIfWalked vN q14.1 q14.2 s1 0 s2) fun q17 => lt_ q17.1 fun x19 => fX3_walk_55 vN q14.2 s1 s2 s3 10 q17.2 0 x19 1)))
def oX3_walk (vN : tVl) (vT : tVl) (w : tWl) (s1 : Int32) (s2 : Int32) (s3 : Int32) : Prop := lo_ (fX1_comes vN s1) fun q2 => if q2 = 0 then True else (lo_ (fX3_within s2 1 60) fun q6 => if q6 = 0 then True else (lo_ (fX3_within s3 0 1) fun q10 => if q10 = 0 then True else (oX3_leaveOut vN vT w s1 ∧ (lo_ (fX3_leaveOut vN vT w s1) fun q14 => oX3_endIfWalked vN q14.1 q14.2 s1 0 s2 ∧ (lo_ (fX3_endIfWalked vN q14.1 q14.2 s1 0 s2) fun q17 => lo_ q17.1 fun x19 => oX3_walk_55 vN q14.2 s1 s2 s3 10 q17.2 0 x19 1)))))
theorem kvX3_walk : KV yX3_walk cX3_walk 8 (some .int) 3 := ⟨wcd_X3_walk, wim_X3_walk, wsl_X3_walk, win_X3, by decide +kernel, by decide +kernel, by decide +kernel⟩
set_option maxHeartbeats 4000000 in
set_option maxRecDepth 100000 in
theorem kX3_walk (l : Launch) (D : va_G) (cy : Nat → ClassId) (a : Nat → Nat → Nat) (kp : tAr) (vN : tVl) (vT : tVl) (vI : tVl) (vJ : tVl) (w : tWl) (pd : tPd) (s1 : Int32) (s2 : Int32) (s3 : Int32) {R : Int32 × tVl × tWl} (hO : oX3_walk vN vT w s1 s2 s3) (hF : fX3_walk vN vT w s1 s2 s3 = R) : CT l D cy yX3_walk cX3_walk 8 (some .int) rX3_walk [.ref (a 0 0), .int s1, .int s2, .int s3] (gwFF cy a kp vN vT vI vJ w pd) (some (.int R.1)) (gwFF cy a kp vN R.2.1 vI vJ R.2.2 pd) := by
  refine ct_of (by decide) (Nat.le_of_ble_eq_true rfl) ?_
  intro p e s m args below meth c A ls hM hK hP hD hS hl
  obtain ⟨hx, hb, -, hml, hown, hts, -⟩ := id hM
  have hl : lv_has ls 8 [(0, .ref (a 0 0)), (1, .int s1), (2, .int s2), (3, .int s3)] := hl
  obtain ⟨H, hH⟩ : ∃ H : Heap, H = s.heap := ⟨_, rfl⟩
  obtain ⟨locs, hlocs⟩ : ∃ q : List Loc, q = [] := ⟨_, rfl⟩
  have hP : va_P D classes (gwFF cy a kp vN vT vI vJ w pd) H := by rw [hH]; exact hP
  have hS : va_S A s.heap H locs := by rw [hH, hlocs]; exact hS
  suffices hg : W p l e rX3_walk s m args below meth c H locs 0 0 (MQ below (ctQ D (some (.int R.1)) (gwFF cy a kp vN R.2.1 vI vJ R.2.2 pd) A) args s 0 0 A) (F0 m 0 ls []) by rw [hH, hlocs] at hg; exact hg
  clear hH hlocs
  unfold fX3_walk at hF
  unfold oX3_walk at hO
  refine lv_aload_n hx hb dX3_walk_0 rfl (lv_at hl 0 rfl) ?_
  refine ct_get (C := RX3) (T := TX3) (N := 6) (ci := 3) (v := .ref (a 1 0)) hM hK hP inX3 0 rfl rfl 0 (by decide) wfl_X3_10 rfl dX3_walk_1 ?_
  refine lv_iload_n hx hb dX3_walk_4 rfl (lv_at hl 1 rfl) ?_
  obtain ⟨q2, e3⟩ : ∃ q, fX1_comes vN s1 = q := ⟨_, rfl⟩
  have hF := lt_n e3 hF
  try have hO := lo_n e3 hO
  refine ct_callV (ws' := gwFF cy a kp vN vT vI vJ w pd) hM hK hP hD hS (kX1_comes l D cy (a 1) vN s1 trivial e3) kvX1_comes wml_X3_68 [3, 4, 5, 6, 7, 8] rfl (by decide) rfl rfl rfl 3 rfl rfl rfl rfl hl.1 rfl ⟨rfl, rfl, Nat.le_of_ble_eq_true rfl, Nat.le_of_ble_eq_true rfl⟩ (Nat.le_of_ble_eq_true rfl) ⟨Nat.zero_le _, Nat.zero_le _⟩ dX3_walk_5 (fun H locs hP hD hS => ?_)
  refine W.eq (g2 := F0 m 8 ls [.int q2]) rfl ?_
  refine lv_if_ne (tgt := 13) hx hb dX3_walk_8 (by decide) (fun c4 => ?_) (fun c4 => ?_)
  · have hF := lt_f c4 hF
    have hO := lo_f c4 hO
    refine lv_iload_n hx hb dX3_walk_13 rfl (lv_at hl 2 rfl) ?_
    refine lv_iconst (v := 1) hx hb dX3_walk_14 (by decide) ?_
    refine lv_bipush (v := 60) hx hb dX3_walk_15 (by decide) ?_
    obtain ⟨q6, e7⟩ : ∃ q, fX3_within s2 1 60 = q := ⟨_, rfl⟩
    have hF := lt_n e7 hF
    try have hO := lo_n e7 hO
    refine ct_callS hM hK hP hD hS (kX3_within l D cy s2 1 60 trivial e7) kvX3_within wml_X3_41 rfl hl.1 rfl ⟨rfl, rfl, Nat.le_of_ble_eq_true rfl, Nat.le_of_ble_eq_true rfl⟩ (Nat.le_of_ble_eq_true rfl) ⟨Nat.zero_le _, Nat.zero_le _⟩ dX3_walk_17 (fun H locs hP hD hS => ?_)
    refine W.eq (g2 := F0 m 20 ls [.int q6]) rfl ?_
    have hP : va_P D classes (gwFF cy a kp vN vT vI vJ w pd) H := hP
    have hD : va_D A (gwFF cy a kp vN vT vI vJ w pd) := hD
    refine lv_if_eq (tgt := 32) hx hb dX3_walk_20 (by decide) (fun c8 => ?_) (fun c8 => ?_)
    · have hF := lt_t c8 hF
      have hO := lo_t c8 hO
      refine lv_bipush (v := (-2)) hx hb dX3_walk_32 (by decide) ?_
      subst hF
      exact ct_iret hM hP hS dX3_walk_34
    · have hF := lt_f c8 hF
      have hO := lo_f c8 hO
      refine lv_iload_n hx hb dX3_walk_23 rfl (lv_at hl 3 rfl) ?_
      refine lv_iconst (v := 0) hx hb dX3_walk_24 (by decide) ?_
      refine lv_iconst (v := 1) hx hb dX3_walk_25 (by decide) ?_
      obtain ⟨q10, e11⟩ : ∃ q, fX3_within s3 0 1 = q := ⟨_, rfl⟩
      have hF := lt_n e11 hF
      try have hO := lo_n e11 hO
      refine ct_callS hM hK hP hD hS (kX3_within l D cy s3 0 1 trivial e11) kvX3_within wml_X3_41 rfl hl.1 rfl ⟨rfl, rfl, Nat.le_of_ble_eq_true rfl, Nat.le_of_ble_eq_true rfl⟩ (Nat.le_of_ble_eq_true rfl) ⟨Nat.zero_le _, Nat.zero_le _⟩ dX3_walk_26 (fun H locs hP hD hS => ?_)
      refine W.eq (g2 := F0 m 29 ls [.int q10]) rfl ?_
      have hP : va_P D classes (gwFF cy a kp vN vT vI vJ w pd) H := hP
      have hD : va_D A (gwFF cy a kp vN vT vI vJ w pd) := hD
      refine lv_if_ne (tgt := 35) hx hb dX3_walk_29 (by decide) (fun c12 => ?_) (fun c12 => ?_)
      · have hF := lt_f c12 hF
        have hO := lo_f c12 hO
        refine lv_aload_n hx hb dX3_walk_35 rfl (lv_at hl 0 rfl) ?_
        refine lv_iload_n hx hb dX3_walk_36 rfl (lv_at hl 1 rfl) ?_
        obtain ⟨h13, hO⟩ := hO
        obtain ⟨q14, e15⟩ : ∃ q, fX3_leaveOut vN vT w s1 = q := ⟨_, rfl⟩
        have hF := lt_n e15 hF
        try have hO := lo_n e15 hO
        refine ct_callF hM hK hP hD hS (kX3_leaveOut l D cy a kp vN vT vI vJ w pd s1 h13 e15) kvX3_leaveOut wml_X3_132 rfl 0 rfl rfl rfl rfl hl.1 rfl ⟨rfl, rfl, Nat.le_of_ble_eq_true rfl, Nat.le_of_ble_eq_true rfl⟩ (Nat.le_of_ble_eq_true rfl) ⟨Nat.zero_le _, Nat.zero_le _⟩ dX3_walk_37 (fun H locs hP hD hS => ?_)
        refine W.eq (g2 := F0 m 40 ls []) rfl ?_
        have hP : va_P D classes (gwFF cy a kp vN q14.1 vI vJ q14.2 pd) H := hP
        have hD : va_D A (gwFF cy a kp vN q14.1 vI vJ q14.2 pd) := hD
        refine lv_iconst (v := 0) hx hb dX3_walk_40 (by decide) ?_
        refine lv_istore (lv' := [(4, .int 0), (0, .ref (a 0 0)), (1, .int s1), (2, .int s2), (3, .int s3)]) hx hb dX3_walk_41 hl (by decide) rfl (fun ls hl => ?_)
        refine lv_aload_n hx hb dX3_walk_43 rfl (lv_at hl 1 rfl) ?_
        refine lv_iload_n hx hb dX3_walk_44 rfl (lv_at hl 2 rfl) ?_
        refine lv_iconst (v := 0) hx hb dX3_walk_45 (by decide) ?_
        refine lv_iload_n hx hb dX3_walk_46 rfl (lv_at hl 3 rfl) ?_
        obtain ⟨h16, hO⟩ := hO
        obtain ⟨q17, e18⟩ : ∃ q, fX3_endIfWalked vN q14.1 q14.2 s1 0 s2 = q := ⟨_, rfl⟩
        have hF := lt_n e18 hF
        try have hO := lo_n e18 hO
        refine ct_callF hM hK hP hD hS (kX3_endIfWalked l D cy a kp vN q14.1 vI vJ q14.2 pd s1 0 s2 h16 e18) kvX3_endIfWalked wml_X3_140 rfl 0 rfl rfl rfl rfl hl.1 rfl ⟨rfl, rfl, Nat.le_of_ble_eq_true rfl, Nat.le_of_ble_eq_true rfl⟩ (Nat.le_of_ble_eq_true rfl) ⟨Nat.zero_le _, Nat.zero_le _⟩ dX3_walk_47 (fun H locs hP hD hS => ?_)
        refine W.eq (g2 := F0 m 50 ls [.int q17.1]) rfl ?_
        have hP : va_P D classes (gwFF cy a kp vN q17.2 vI vJ q14.2 pd) H := hP
        have hD : va_D A (gwFF cy a kp vN q17.2 vI vJ q14.2 pd) := hD
        refine lv_topi (fun x19 e20 => ?_)
        have hF := lt_n e20.symm hF
        try have hO := lo_n e20.symm hO
        refine lv_istore (lv' := [(5, .int x19), (4, .int 0), (0, .ref (a 0 0)), (1, .int s1), (2, .int s2), (3, .int s3)]) hx hb dX3_walk_50 hl (by decide) rfl (fun ls hl => ?_)
        refine lv_iconst (v := 1) hx hb dX3_walk_52 (by decide) ?_
        refine lv_istore (lv' := [(6, .int 1), (5, .int x19), (4, .int 0), (0, .ref (a 0 0)), (1, .int s1), (2, .int s2), (3, .int s3)]) hx hb dX3_walk_53 hl (by decide) rfl (fun ls hl => ?_)
        exact tX3_walk_55 hM hK 10 q17.2 0 x19 1 H locs ls hP hD hS (lv_sub hl [3, 4, 5, 6, 2, 1, 0] rfl) hO hF
      · have hF := lt_t c12 hF
        have hO := lo_t c12 hO
        refine lv_bipush (v := (-2)) hx hb dX3_walk_32 (by decide) ?_
        subst hF
        exact ct_iret hM hP hS dX3_walk_34
  · have hF := lt_t c4 hF
    have hO := lo_t c4 hO
    refine lv_iconst (v := (-1)) hx hb dX3_walk_11 (by decide) ?_
    subst hF
    exact ct_iret hM hP hS dX3_walk_12

abbrev rX3_claim : Room := { frames := 6, cells := 0, slots := 0, locals := 140 }
def fX3_claim_34 (vN : tVl) (w : tWl) (s1 : Int32) (s2 : Int32) : Nat → tVl → Int32 → Int32 × tVl × tWl
  | 0, vT, s3 => (0, vT, w)
  | n + 1, vT, s3 => if 99 < s3 then ((-6), vT, w) else (lt_ (fX3_waitIf vT w s1 s3 ((v_mn vN) (Int32.toNatClampNeg s1))) fun q15 => if s2 < q15.1 then (lt_ (s3 + 1) fun x18 => fX3_claim_34 vN w s1 s2 n q15.2 x18) else (s3, q15.2, w))
def oX3_claim_34 (vN : tVl) (w : tWl) (s1 : Int32) (s2 : Int32) : Nat → tVl → Int32 → Prop
  | 0, _, _ => False
  | n + 1, vT, s3 => if 99 < s3 then True else (vp_in s1 8 ∧ oX3_waitIf vT w s1 s3 ((v_mn vN) (Int32.toNatClampNeg s1)) ∧ (lo_ (fX3_waitIf vT w s1 s3 ((v_mn vN) (Int32.toNatClampNeg s1))) fun q15 => if s2 < q15.1 then (lo_ (s3 + 1) fun x18 => oX3_claim_34 vN w s1 s2 n q15.2 x18) else True))
set_option maxHeartbeats 4000000 in
set_option maxRecDepth 100000 in
theorem tX3_claim_34 {p : Program} {l : Launch} {e : Env} {s : State} {m : MethodId} {args : Array Value} {below : List Frame} {meth : Method} {c : Code} {A : Nat → Prop} {D : va_G} {cy : Nat → ClassId} {a : Nat → Nat → Nat} {kp : tAr} {vN : tVl} {vI : tVl} {vJ : tVl} {w : tWl} {pd : tPd} {s1 : Int32} {s2 : Int32} {R : Int32 × tVl × tWl} (hM : MC p s m args meth c RX3 cX3_claim 4 (some .int)) (hK : va_K D classes (ctT cy) s) :
    ∀ (n : Nat) (vT : tVl) (s3 : Int32) (H : Heap) (locs : List Loc) (ls : Array Slot), va_P D classes (gwFF cy a kp vN vT vI vJ w pd) H → va_D A (gwFF cy a kp vN vT vI vJ w pd) → va_S A s.heap H locs → lv_has ls 4 [(0, .ref (a 0 0)), (1, .int s1), (2, .int s2), (3, .int s3)] → oX3_claim_34 vN w s1 s2 n vT s3 → fX3_claim_34 vN w s1 s2 n vT s3 = R → W p l e rX3_claim s m args below meth c H locs 0 0 (MQ below (ctQ D (some (.int R.1)) (gwFF cy a kp vN R.2.1 vI vJ R.2.2 pd) A) args s 0 0 A) (F0 m 34 ls []) := by
  obtain ⟨hx, hb, -, hml, hown, hts, -⟩ := id hM
  intro n
  induction n with
  | zero =>
    intro vT s3 H locs ls hP hD hS hl hO hF
    exact False.elim hO
  | succ n ih =>
    intro vT s3 H locs ls hP hD hS hl hO hF
    rw [fX3_claim_34] at hF
    rw [oX3_claim_34] at hO
    refine lv_iload_n hx hb dX3_claim_34 rfl (lv_at hl 3 rfl) ?_
    refine lv_bipush (v := 99) hx hb dX3_claim_35 (by decide) ?_
    refine lv_icmp_gt (tgt := 67) hx hb dX3_claim_37 (by decide) (fun c12 => ?_) (fun c12 => ?_)
    · have hF := lt_t c12 hF
      have hO := lo_t c12 hO
      refine lv_bipush (v := (-6)) hx hb dX3_claim_67 (by decide) ?_
      subst hF
      exact ct_iret hM hP hS dX3_claim_69
    · have hF := lt_f c12 hF
      have hO := lo_f c12 hO
      refine lv_aload_n hx hb dX3_claim_40 rfl (lv_at hl 0 rfl) ?_
      refine lv_iload_n hx hb dX3_claim_41 rfl (lv_at hl 1 rfl) ?_
      refine lv_iload_n hx hb dX3_claim_42 rfl (lv_at hl 3 rfl) ?_
      refine lv_aload_n hx hb dX3_claim_43 rfl (lv_at hl 0 rfl) ?_
      refine ct_get (C := RX3) (T := TX3) (N := 6) (ci := 3) (v := .ref (a 1 0)) hM hK hP inX3 0 rfl rfl 0 (by decide) wfl_X3_10 rfl dX3_claim_44 ?_
      refine ct_get (C := RX1) (T := TX1) (N := 6) (ci := 1) (v := .ref (a 1 2)) hM hK hP inX1 3 rfl rfl 1 (by decide) wfl_X3_49 rfl dX3_claim_47 ?_
      refine lv_iload_n hx hb dX3_claim_50 rfl (lv_at hl 1 rfl) ?_
      obtain ⟨h13, hO⟩ := hO
      refine va_iald hx hb hK hP 5 0 (f := v_mn vN) (n := 8) (cA := cy 0) rfl rfl h13 dX3_claim_51 ?_
      obtain ⟨h14, hO⟩ := hO
      obtain ⟨q15, e16⟩ : ∃ q, fX3_waitIf vT w s1 s3 ((v_mn vN) (Int32.toNatClampNeg s1)) = q := ⟨_, rfl⟩
      have hF := lt_n e16 hF
      try have hO := lo_n e16 hO
      refine ct_callF hM hK hP hD hS (kX3_waitIf l D cy a kp vN vT vI vJ w pd s1 s3 ((v_mn vN) (Int32.toNatClampNeg s1)) h14 e16) kvX3_waitIf wml_X3_136 rfl 0 rfl rfl rfl rfl hl.1 rfl ⟨rfl, rfl, Nat.le_of_ble_eq_true rfl, Nat.le_of_ble_eq_true rfl⟩ (Nat.le_of_ble_eq_true rfl) ⟨Nat.zero_le _, Nat.zero_le _⟩ dX3_claim_52 (fun H locs hP hD hS => ?_)
      refine W.eq (g2 := F0 m 55 ls [.int q15.1]) rfl ?_
      have hP : va_P D classes (gwFF cy a kp vN q15.2 vI vJ w pd) H := hP
      have hD : va_D A (gwFF cy a kp vN q15.2 vI vJ w pd) := hD
      refine lv_iload_n hx hb dX3_claim_55 rfl (lv_at hl 2 rfl) ?_
      refine lv_icmp_gt (tgt := 61) hx hb dX3_claim_56 (by decide) (fun c17 => ?_) (fun c17 => ?_)
      · have hF := lt_t c17 hF
        have hO := lo_t c17 hO
        obtain ⟨x18, e19⟩ : ∃ y : Int32, s3 + 1 = y := ⟨_, rfl⟩
        have hF := lt_n e19 hF
        try have hO := lo_n e19 hO
        refine lv_iinc (v := x18) (lv' := [(3, .int x18), (0, .ref (a 0 0)), (1, .int s1), (2, .int s2)]) hx hb dX3_claim_61 hl (k := 3) rfl (by rw [← e19]; rfl) (by decide) rfl (fun ls hl => ?_)
        refine lv_goto (tgt := 34) hx hb dX3_claim_64 (by decide) ?_
        exact ih q15.2 x18 H locs ls hP hD hS (lv_sub hl [1, 2, 3, 0] rfl) hO hF
      · have hF := lt_f c17 hF
        have hO := lo_f c17 hO
        refine lv_iload_n hx hb dX3_claim_59 rfl (lv_at hl 3 rfl) ?_
        subst hF
        exact ct_iret hM hP hS dX3_claim_60

def fX3_claim (vN : tVl) (vT : tVl) (w : tWl) (s1 : Int32) (s2 : Int32) : Int32 × tVl × tWl := lt_ (fX1_comes vN s1) fun q2 => if q2 = 0 then ((-1), vT, w) else (lt_ (fX3_within s2 0 9999) fun q6 => if q6 = 0 then ((-2), vT, w) else (lt_ (fX3_leaveOut vN vT w s1) fun q10 => fX3_claim_34 vN q10.2 s1 s2 101 q10.1 0))
def oX3_claim (vN : tVl) (vT : tVl) (w : tWl) (s1 : Int32) (s2 : Int32) : Prop := lo_ (fX1_comes vN s1) fun q2 => if q2 = 0 then True else (lo_ (fX3_within s2 0 9999) fun q6 => if q6 = 0 then True else (oX3_leaveOut vN vT w s1 ∧ (lo_ (fX3_leaveOut vN vT w s1) fun q10 => oX3_claim_34 vN q10.2 s1 s2 101 q10.1 0)))
theorem kvX3_claim : KV yX3_claim cX3_claim 4 (some .int) 2 := ⟨wcd_X3_claim, wim_X3_claim, wsl_X3_claim, win_X3, by decide +kernel, by decide +kernel, by decide +kernel⟩
set_option maxHeartbeats 4000000 in
set_option maxRecDepth 100000 in
theorem kX3_claim (l : Launch) (D : va_G) (cy : Nat → ClassId) (a : Nat → Nat → Nat) (kp : tAr) (vN : tVl) (vT : tVl) (vI : tVl) (vJ : tVl) (w : tWl) (pd : tPd) (s1 : Int32) (s2 : Int32) {R : Int32 × tVl × tWl} (hO : oX3_claim vN vT w s1 s2) (hF : fX3_claim vN vT w s1 s2 = R) : CT l D cy yX3_claim cX3_claim 4 (some .int) rX3_claim [.ref (a 0 0), .int s1, .int s2] (gwFF cy a kp vN vT vI vJ w pd) (some (.int R.1)) (gwFF cy a kp vN R.2.1 vI vJ R.2.2 pd) := by
  refine ct_of (by decide) (Nat.le_of_ble_eq_true rfl) ?_
  intro p e s m args below meth c A ls hM hK hP hD hS hl
  obtain ⟨hx, hb, -, hml, hown, hts, -⟩ := id hM
  have hl : lv_has ls 4 [(0, .ref (a 0 0)), (1, .int s1), (2, .int s2)] := hl
  obtain ⟨H, hH⟩ : ∃ H : Heap, H = s.heap := ⟨_, rfl⟩
  obtain ⟨locs, hlocs⟩ : ∃ q : List Loc, q = [] := ⟨_, rfl⟩
  have hP : va_P D classes (gwFF cy a kp vN vT vI vJ w pd) H := by rw [hH]; exact hP
  have hS : va_S A s.heap H locs := by rw [hH, hlocs]; exact hS
  suffices hg : W p l e rX3_claim s m args below meth c H locs 0 0 (MQ below (ctQ D (some (.int R.1)) (gwFF cy a kp vN R.2.1 vI vJ R.2.2 pd) A) args s 0 0 A) (F0 m 0 ls []) by rw [hH, hlocs] at hg; exact hg
  clear hH hlocs
  unfold fX3_claim at hF
  unfold oX3_claim at hO
  refine lv_aload_n hx hb dX3_claim_0 rfl (lv_at hl 0 rfl) ?_
  refine ct_get (C := RX3) (T := TX3) (N := 6) (ci := 3) (v := .ref (a 1 0)) hM hK hP inX3 0 rfl rfl 0 (by decide) wfl_X3_10 rfl dX3_claim_1 ?_
  refine lv_iload_n hx hb dX3_claim_4 rfl (lv_at hl 1 rfl) ?_
  obtain ⟨q2, e3⟩ : ∃ q, fX1_comes vN s1 = q := ⟨_, rfl⟩
  have hF := lt_n e3 hF
  try have hO := lo_n e3 hO
  refine ct_callV (ws' := gwFF cy a kp vN vT vI vJ w pd) hM hK hP hD hS (kX1_comes l D cy (a 1) vN s1 trivial e3) kvX1_comes wml_X3_68 [3, 4, 5, 6, 7, 8] rfl (by decide) rfl rfl rfl 3 rfl rfl rfl rfl hl.1 rfl ⟨rfl, rfl, Nat.le_of_ble_eq_true rfl, Nat.le_of_ble_eq_true rfl⟩ (Nat.le_of_ble_eq_true rfl) ⟨Nat.zero_le _, Nat.zero_le _⟩ dX3_claim_5 (fun H locs hP hD hS => ?_)
  refine W.eq (g2 := F0 m 8 ls [.int q2]) rfl ?_
  refine lv_if_ne (tgt := 13) hx hb dX3_claim_8 (by decide) (fun c4 => ?_) (fun c4 => ?_)
  · have hF := lt_f c4 hF
    have hO := lo_f c4 hO
    refine lv_iload_n hx hb dX3_claim_13 rfl (lv_at hl 2 rfl) ?_
    refine lv_iconst (v := 0) hx hb dX3_claim_14 (by decide) ?_
    refine lv_sipush (v := 9999) hx hb dX3_claim_15 (by decide) ?_
    obtain ⟨q6, e7⟩ : ∃ q, fX3_within s2 0 9999 = q := ⟨_, rfl⟩
    have hF := lt_n e7 hF
    try have hO := lo_n e7 hO
    refine ct_callS hM hK hP hD hS (kX3_within l D cy s2 0 9999 trivial e7) kvX3_within wml_X3_41 rfl hl.1 rfl ⟨rfl, rfl, Nat.le_of_ble_eq_true rfl, Nat.le_of_ble_eq_true rfl⟩ (Nat.le_of_ble_eq_true rfl) ⟨Nat.zero_le _, Nat.zero_le _⟩ dX3_claim_18 (fun H locs hP hD hS => ?_)
    refine W.eq (g2 := F0 m 21 ls [.int q6]) rfl ?_
    have hP : va_P D classes (gwFF cy a kp vN vT vI vJ w pd) H := hP
    have hD : va_D A (gwFF cy a kp vN vT vI vJ w pd) := hD
    refine lv_if_ne (tgt := 27) hx hb dX3_claim_21 (by decide) (fun c8 => ?_) (fun c8 => ?_)
    · have hF := lt_f c8 hF
      have hO := lo_f c8 hO
      refine lv_aload_n hx hb dX3_claim_27 rfl (lv_at hl 0 rfl) ?_
      refine lv_iload_n hx hb dX3_claim_28 rfl (lv_at hl 1 rfl) ?_
      obtain ⟨h9, hO⟩ := hO
      obtain ⟨q10, e11⟩ : ∃ q, fX3_leaveOut vN vT w s1 = q := ⟨_, rfl⟩
      have hF := lt_n e11 hF
      try have hO := lo_n e11 hO
      refine ct_callF hM hK hP hD hS (kX3_leaveOut l D cy a kp vN vT vI vJ w pd s1 h9 e11) kvX3_leaveOut wml_X3_132 rfl 0 rfl rfl rfl rfl hl.1 rfl ⟨rfl, rfl, Nat.le_of_ble_eq_true rfl, Nat.le_of_ble_eq_true rfl⟩ (Nat.le_of_ble_eq_true rfl) ⟨Nat.zero_le _, Nat.zero_le _⟩ dX3_claim_29 (fun H locs hP hD hS => ?_)
      refine W.eq (g2 := F0 m 32 ls []) rfl ?_
      have hP : va_P D classes (gwFF cy a kp vN q10.1 vI vJ q10.2 pd) H := hP
      have hD : va_D A (gwFF cy a kp vN q10.1 vI vJ q10.2 pd) := hD
      refine lv_iconst (v := 0) hx hb dX3_claim_32 (by decide) ?_
      refine lv_istore_n (lv' := [(3, .int 0), (0, .ref (a 0 0)), (1, .int s1), (2, .int s2)]) hx hb dX3_claim_33 rfl hl (by decide) rfl (fun ls hl => ?_)
      exact tX3_claim_34 hM hK 101 q10.1 0 H locs ls hP hD hS (lv_sub hl [1, 2, 3, 0] rfl) hO hF
    · have hF := lt_t c8 hF
      have hO := lo_t c8 hO
      refine lv_bipush (v := (-2)) hx hb dX3_claim_24 (by decide) ?_
      subst hF
      exact ct_iret hM hP hS dX3_claim_26
  · have hF := lt_t c4 hF
    have hO := lo_t c4 hO
    refine lv_iconst (v := (-1)) hx hb dX3_claim_11 (by decide) ?_
    subst hF
    exact ct_iret hM hP hS dX3_claim_12

abbrev rX3_home : Room := { frames := 6, cells := 0, slots := 0, locals := 147 }
def fX3_home_55 (vN : tVl) (w : tWl) (s1 : Int32) (s2 : Int32) (s3 : Int32) : Nat → tVl → Int32 → Int32 → Int32 → Int32 × tVl × tWl
  | 0, vT, s4, s5, s6 => (0, vT, w)
  | n + 1, vT, s4, s5, s6 => if 99 < s6 then (if s3 = 0 then (s4, vT, w) else (s5, vT, w)) else (lt_ (fX3_costOfLiving vN vT w s1 s6 s2) fun q24 => lt_ q24.1 fun x26 => if s5 ≤ x26 then (lt_ (s6 + 1) fun x29 => fX3_home_55 vN w s1 s2 s3 n q24.2 s4 s5 x29) else (lt_ (s6 + 1) fun x31 => fX3_home_55 vN w s1 s2 s3 n q24.2 s6 x26 x31))
def oX3_home_55 (vN : tVl) (w : tWl) (s1 : Int32) (s2 : Int32) (s3 : Int32) : Nat → tVl → Int32 → Int32 → Int32 → Prop
  | 0, _, _, _, _ => False
  | n + 1, vT, s4, s5, s6 => if 99 < s6 then True else (oX3_costOfLiving vN vT w s1 s6 s2 ∧ (lo_ (fX3_costOfLiving vN vT w s1 s6 s2) fun q24 => lo_ q24.1 fun x26 => if s5 ≤ x26 then (lo_ (s6 + 1) fun x29 => oX3_home_55 vN w s1 s2 s3 n q24.2 s4 s5 x29) else (lo_ (s6 + 1) fun x31 => oX3_home_55 vN w s1 s2 s3 n q24.2 s6 x26 x31)))
set_option maxHeartbeats 4000000 in
set_option maxRecDepth 100000 in
theorem tX3_home_55 {p : Program} {l : Launch} {e : Env} {s : State} {m : MethodId} {args : Array Value} {below : List Frame} {meth : Method} {c : Code} {A : Nat → Prop} {D : va_G} {cy : Nat → ClassId} {a : Nat → Nat → Nat} {kp : tAr} {vN : tVl} {vI : tVl} {vJ : tVl} {w : tWl} {pd : tPd} {s1 : Int32} {s2 : Int32} {s3 : Int32} {R : Int32 × tVl × tWl} (hM : MC p s m args meth c RX3 cX3_home 8 (some .int)) (hK : va_K D classes (ctT cy) s) :
    ∀ (n : Nat) (vT : tVl) (s4 : Int32) (s5 : Int32) (s6 : Int32) (H : Heap) (locs : List Loc) (ls : Array Slot), va_P D classes (gwFF cy a kp vN vT vI vJ w pd) H → va_D A (gwFF cy a kp vN vT vI vJ w pd) → va_S A s.heap H locs → lv_has ls 8 [(0, .ref (a 0 0)), (1, .int s1), (2, .int s2), (3, .int s3), (4, .int s4), (5, .int s5), (6, .int s6)] → oX3_home_55 vN w s1 s2 s3 n vT s4 s5 s6 → fX3_home_55 vN w s1 s2 s3 n vT s4 s5 s6 = R → W p l e rX3_home s m args below meth c H locs 0 0 (MQ below (ctQ D (some (.int R.1)) (gwFF cy a kp vN R.2.1 vI vJ R.2.2 pd) A) args s 0 0 A) (F0 m 55 ls []) := by
  obtain ⟨hx, hb, -, hml, hown, hts, -⟩ := id hM
  intro n
  induction n with
  | zero =>
    intro vT s4 s5 s6 H locs ls hP hD hS hl hO hF
    exact False.elim hO
  | succ n ih =>
    intro vT s4 s5 s6 H locs ls hP hD hS hl hO hF
    rw [fX3_home_55] at hF
    rw [oX3_home_55] at hO
    refine lv_iload hx hb dX3_home_55 (lv_at hl 6 rfl) ?_
    refine lv_bipush (v := 99) hx hb dX3_home_57 (by decide) ?_
    refine lv_icmp_gt (tgt := 93) hx hb dX3_home_59 (by decide) (fun c21 => ?_) (fun c21 => ?_)
    · have hF := lt_t c21 hF
      have hO := lo_t c21 hO
      refine lv_iload_n hx hb dX3_home_93 rfl (lv_at hl 3 rfl) ?_
      refine lv_if_ne (tgt := 102) hx hb dX3_home_94 (by decide) (fun c22 => ?_) (fun c22 => ?_)
      · have hF := lt_f c22 hF
        refine lv_iload hx hb dX3_home_102 (lv_at hl 5 rfl) ?_
        subst hF
        exact ct_iret hM hP hS dX3_home_104
      · have hF := lt_t c22 hF
        refine lv_iload hx hb dX3_home_97 (lv_at hl 4 rfl) ?_
        refine lv_goto (tgt := 104) hx hb dX3_home_99 (by decide) ?_
        subst hF
        exact ct_iret hM hP hS dX3_home_104
    · have hF := lt_f c21 hF
      have hO := lo_f c21 hO
      refine lv_aload_n hx hb dX3_home_62 rfl (lv_at hl 0 rfl) ?_
      refine lv_iload_n hx hb dX3_home_63 rfl (lv_at hl 1 rfl) ?_
      refine lv_iload hx hb dX3_home_64 (lv_at hl 6 rfl) ?_
      refine lv_iload_n hx hb dX3_home_66 rfl (lv_at hl 2 rfl) ?_
      obtain ⟨h23, hO⟩ := hO
      obtain ⟨q24, e25⟩ : ∃ q, fX3_costOfLiving vN vT w s1 s6 s2 = q := ⟨_, rfl⟩
      have hF := lt_n e25 hF
      try have hO := lo_n e25 hO
      refine ct_callF hM hK hP hD hS (kX3_costOfLiving l D cy a kp vN vT vI vJ w pd s1 s6 s2 h23 e25) kvX3_costOfLiving wml_X3_162 rfl 0 rfl rfl rfl rfl hl.1 rfl ⟨rfl, rfl, Nat.le_of_ble_eq_true rfl, Nat.le_of_ble_eq_true rfl⟩ (Nat.le_of_ble_eq_true rfl) ⟨Nat.zero_le _, Nat.zero_le _⟩ dX3_home_67 (fun H locs hP hD hS => ?_)
      refine W.eq (g2 := F0 m 70 ls [.int q24.1]) rfl ?_
      have hP : va_P D classes (gwFF cy a kp vN q24.2 vI vJ w pd) H := hP
      have hD : va_D A (gwFF cy a kp vN q24.2 vI vJ w pd) := hD
      refine lv_topi (fun x26 e27 => ?_)
      have hF := lt_n e27.symm hF
      try have hO := lo_n e27.symm hO
      refine lv_istore (lv' := [(7, .int x26), (0, .ref (a 0 0)), (1, .int s1), (2, .int s2), (3, .int s3), (4, .int s4), (5, .int s5), (6, .int s6)]) hx hb dX3_home_70 hl (by decide) rfl (fun ls hl => ?_)
      refine lv_iload hx hb dX3_home_72 (lv_at hl 0 rfl) ?_
      refine lv_iload hx hb dX3_home_74 (lv_at hl 6 rfl) ?_
      refine lv_icmp_ge (tgt := 87) hx hb dX3_home_76 (by decide) (fun c28 => ?_) (fun c28 => ?_)
      · have hF := lt_t c28 hF
        have hO := lo_t c28 hO
        obtain ⟨x29, e30⟩ : ∃ y : Int32, s6 + 1 = y := ⟨_, rfl⟩
        have hF := lt_n e30 hF
        try have hO := lo_n e30 hO
        refine lv_iinc (v := x29) (lv' := [(6, .int x29), (7, .int x26), (0, .ref (a 0 0)), (1, .int s1), (2, .int s2), (3, .int s3), (4, .int s4), (5, .int s5)]) hx hb dX3_home_87 hl (k := 7) rfl (by rw [← e30]; rfl) (by decide) rfl (fun ls hl => ?_)
        refine lv_goto (tgt := 55) hx hb dX3_home_90 (by decide) ?_
        exact ih q24.2 s4 s5 x29 H locs ls hP hD hS (lv_sub hl [2, 3, 4, 5, 6, 7, 0] rfl) hO hF
      · have hF := lt_f c28 hF
        have hO := lo_f c28 hO
        refine lv_iload hx hb dX3_home_79 (lv_at hl 0 rfl) ?_
        refine lv_istore (lv' := [(5, .int x26), (7, .int x26), (0, .ref (a 0 0)), (1, .int s1), (2, .int s2), (3, .int s3), (4, .int s4), (6, .int s6)]) hx hb dX3_home_81 hl (by decide) rfl (fun ls hl => ?_)
        refine lv_iload hx hb dX3_home_83 (lv_at hl 7 rfl) ?_
        refine lv_istore (lv' := [(4, .int s6), (5, .int x26), (7, .int x26), (0, .ref (a 0 0)), (1, .int s1), (2, .int s2), (3, .int s3), (6, .int s6)]) hx hb dX3_home_85 hl (by decide) rfl (fun ls hl => ?_)
        obtain ⟨x31, e32⟩ : ∃ y : Int32, s6 + 1 = y := ⟨_, rfl⟩
        have hF := lt_n e32 hF
        try have hO := lo_n e32 hO
        refine lv_iinc (v := x31) (lv' := [(6, .int x31), (4, .int s6), (5, .int x26), (7, .int x26), (0, .ref (a 0 0)), (1, .int s1), (2, .int s2), (3, .int s3)]) hx hb dX3_home_87 hl (k := 7) rfl (by rw [← e32]; rfl) (by decide) rfl (fun ls hl => ?_)
        refine lv_goto (tgt := 55) hx hb dX3_home_90 (by decide) ?_
        exact ih q24.2 s6 x26 x31 H locs ls hP hD hS (lv_sub hl [4, 5, 6, 7, 1, 2, 0] rfl) hO hF

def fX3_home (vN : tVl) (vT : tVl) (w : tWl) (s1 : Int32) (s2 : Int32) (s3 : Int32) : Int32 × tVl × tWl := lt_ (fX1_comes vN s1) fun q2 => if q2 = 0 then ((-1), vT, w) else (lt_ (fX3_within s2 0 99) fun q6 => if q6 = 0 then ((-2), vT, w) else (lt_ (fX3_within s3 0 1) fun q10 => if q10 = 0 then ((-2), vT, w) else (lt_ (fX3_leaveOut vN vT w s1) fun q14 => lt_ (fX3_costOfLiving vN q14.1 q14.2 s1 0 s2) fun q17 => lt_ q17.1 fun x19 => fX3_home_55 vN q14.2 s1 s2 s3 100 q17.2 0 x19 1)))
def oX3_home (vN : tVl) (vT : tVl) (w : tWl) (s1 : Int32) (s2 : Int32) (s3 : Int32) : Prop := lo_ (fX1_comes vN s1) fun q2 => if q2 = 0 then True else (lo_ (fX3_within s2 0 99) fun q6 => if q6 = 0 then True else (lo_ (fX3_within s3 0 1) fun q10 => if q10 = 0 then True else (oX3_leaveOut vN vT w s1 ∧ (lo_ (fX3_leaveOut vN vT w s1) fun q14 => oX3_costOfLiving vN q14.1 q14.2 s1 0 s2 ∧ (lo_ (fX3_costOfLiving vN q14.1 q14.2 s1 0 s2) fun q17 => lo_ q17.1 fun x19 => oX3_home_55 vN q14.2 s1 s2 s3 100 q17.2 0 x19 1)))))
theorem kvX3_home : KV yX3_home cX3_home 8 (some .int) 3 := ⟨wcd_X3_home, wim_X3_home, wsl_X3_home, win_X3, by decide +kernel, by decide +kernel, by decide +kernel⟩
set_option maxHeartbeats 4000000 in
set_option maxRecDepth 100000 in
theorem kX3_home (l : Launch) (D : va_G) (cy : Nat → ClassId) (a : Nat → Nat → Nat) (kp : tAr) (vN : tVl) (vT : tVl) (vI : tVl) (vJ : tVl) (w : tWl) (pd : tPd) (s1 : Int32) (s2 : Int32) (s3 : Int32) {R : Int32 × tVl × tWl} (hO : oX3_home vN vT w s1 s2 s3) (hF : fX3_home vN vT w s1 s2 s3 = R) : CT l D cy yX3_home cX3_home 8 (some .int) rX3_home [.ref (a 0 0), .int s1, .int s2, .int s3] (gwFF cy a kp vN vT vI vJ w pd) (some (.int R.1)) (gwFF cy a kp vN R.2.1 vI vJ R.2.2 pd) := by
  refine ct_of (by decide) (Nat.le_of_ble_eq_true rfl) ?_
  intro p e s m args below meth c A ls hM hK hP hD hS hl
  obtain ⟨hx, hb, -, hml, hown, hts, -⟩ := id hM
  have hl : lv_has ls 8 [(0, .ref (a 0 0)), (1, .int s1), (2, .int s2), (3, .int s3)] := hl
  obtain ⟨H, hH⟩ : ∃ H : Heap, H = s.heap := ⟨_, rfl⟩
  obtain ⟨locs, hlocs⟩ : ∃ q : List Loc, q = [] := ⟨_, rfl⟩
  have hP : va_P D classes (gwFF cy a kp vN vT vI vJ w pd) H := by rw [hH]; exact hP
  have hS : va_S A s.heap H locs := by rw [hH, hlocs]; exact hS
  suffices hg : W p l e rX3_home s m args below meth c H locs 0 0 (MQ below (ctQ D (some (.int R.1)) (gwFF cy a kp vN R.2.1 vI vJ R.2.2 pd) A) args s 0 0 A) (F0 m 0 ls []) by rw [hH, hlocs] at hg; exact hg
  clear hH hlocs
  unfold fX3_home at hF
  unfold oX3_home at hO
  refine lv_aload_n hx hb dX3_home_0 rfl (lv_at hl 0 rfl) ?_
  refine ct_get (C := RX3) (T := TX3) (N := 6) (ci := 3) (v := .ref (a 1 0)) hM hK hP inX3 0 rfl rfl 0 (by decide) wfl_X3_10 rfl dX3_home_1 ?_
  refine lv_iload_n hx hb dX3_home_4 rfl (lv_at hl 1 rfl) ?_
  obtain ⟨q2, e3⟩ : ∃ q, fX1_comes vN s1 = q := ⟨_, rfl⟩
  have hF := lt_n e3 hF
  try have hO := lo_n e3 hO
  refine ct_callV (ws' := gwFF cy a kp vN vT vI vJ w pd) hM hK hP hD hS (kX1_comes l D cy (a 1) vN s1 trivial e3) kvX1_comes wml_X3_68 [3, 4, 5, 6, 7, 8] rfl (by decide) rfl rfl rfl 3 rfl rfl rfl rfl hl.1 rfl ⟨rfl, rfl, Nat.le_of_ble_eq_true rfl, Nat.le_of_ble_eq_true rfl⟩ (Nat.le_of_ble_eq_true rfl) ⟨Nat.zero_le _, Nat.zero_le _⟩ dX3_home_5 (fun H locs hP hD hS => ?_)
  refine W.eq (g2 := F0 m 8 ls [.int q2]) rfl ?_
  refine lv_if_ne (tgt := 13) hx hb dX3_home_8 (by decide) (fun c4 => ?_) (fun c4 => ?_)
  · have hF := lt_f c4 hF
    have hO := lo_f c4 hO
    refine lv_iload_n hx hb dX3_home_13 rfl (lv_at hl 2 rfl) ?_
    refine lv_iconst (v := 0) hx hb dX3_home_14 (by decide) ?_
    refine lv_bipush (v := 99) hx hb dX3_home_15 (by decide) ?_
    obtain ⟨q6, e7⟩ : ∃ q, fX3_within s2 0 99 = q := ⟨_, rfl⟩
    have hF := lt_n e7 hF
    try have hO := lo_n e7 hO
    refine ct_callS hM hK hP hD hS (kX3_within l D cy s2 0 99 trivial e7) kvX3_within wml_X3_41 rfl hl.1 rfl ⟨rfl, rfl, Nat.le_of_ble_eq_true rfl, Nat.le_of_ble_eq_true rfl⟩ (Nat.le_of_ble_eq_true rfl) ⟨Nat.zero_le _, Nat.zero_le _⟩ dX3_home_17 (fun H locs hP hD hS => ?_)
    refine W.eq (g2 := F0 m 20 ls [.int q6]) rfl ?_
    have hP : va_P D classes (gwFF cy a kp vN vT vI vJ w pd) H := hP
    have hD : va_D A (gwFF cy a kp vN vT vI vJ w pd) := hD
    refine lv_if_eq (tgt := 32) hx hb dX3_home_20 (by decide) (fun c8 => ?_) (fun c8 => ?_)
    · have hF := lt_t c8 hF
      have hO := lo_t c8 hO
      refine lv_bipush (v := (-2)) hx hb dX3_home_32 (by decide) ?_
      subst hF
      exact ct_iret hM hP hS dX3_home_34
    · have hF := lt_f c8 hF
      have hO := lo_f c8 hO
      refine lv_iload_n hx hb dX3_home_23 rfl (lv_at hl 3 rfl) ?_
      refine lv_iconst (v := 0) hx hb dX3_home_24 (by decide) ?_
      refine lv_iconst (v := 1) hx hb dX3_home_25 (by decide) ?_
      obtain ⟨q10, e11⟩ : ∃ q, fX3_within s3 0 1 = q := ⟨_, rfl⟩
      have hF := lt_n e11 hF
      try have hO := lo_n e11 hO
      refine ct_callS hM hK hP hD hS (kX3_within l D cy s3 0 1 trivial e11) kvX3_within wml_X3_41 rfl hl.1 rfl ⟨rfl, rfl, Nat.le_of_ble_eq_true rfl, Nat.le_of_ble_eq_true rfl⟩ (Nat.le_of_ble_eq_true rfl) ⟨Nat.zero_le _, Nat.zero_le _⟩ dX3_home_26 (fun H locs hP hD hS => ?_)
      refine W.eq (g2 := F0 m 29 ls [.int q10]) rfl ?_
      have hP : va_P D classes (gwFF cy a kp vN vT vI vJ w pd) H := hP
      have hD : va_D A (gwFF cy a kp vN vT vI vJ w pd) := hD
      refine lv_if_ne (tgt := 35) hx hb dX3_home_29 (by decide) (fun c12 => ?_) (fun c12 => ?_)
      · have hF := lt_f c12 hF
        have hO := lo_f c12 hO
        refine lv_aload_n hx hb dX3_home_35 rfl (lv_at hl 0 rfl) ?_
        refine lv_iload_n hx hb dX3_home_36 rfl (lv_at hl 1 rfl) ?_
        obtain ⟨h13, hO⟩ := hO
        obtain ⟨q14, e15⟩ : ∃ q, fX3_leaveOut vN vT w s1 = q := ⟨_, rfl⟩
        have hF := lt_n e15 hF
        try have hO := lo_n e15 hO
        refine ct_callF hM hK hP hD hS (kX3_leaveOut l D cy a kp vN vT vI vJ w pd s1 h13 e15) kvX3_leaveOut wml_X3_132 rfl 0 rfl rfl rfl rfl hl.1 rfl ⟨rfl, rfl, Nat.le_of_ble_eq_true rfl, Nat.le_of_ble_eq_true rfl⟩ (Nat.le_of_ble_eq_true rfl) ⟨Nat.zero_le _, Nat.zero_le _⟩ dX3_home_37 (fun H locs hP hD hS => ?_)
        refine W.eq (g2 := F0 m 40 ls []) rfl ?_
        have hP : va_P D classes (gwFF cy a kp vN q14.1 vI vJ q14.2 pd) H := hP
        have hD : va_D A (gwFF cy a kp vN q14.1 vI vJ q14.2 pd) := hD
        refine lv_iconst (v := 0) hx hb dX3_home_40 (by decide) ?_
        refine lv_istore (lv' := [(4, .int 0), (0, .ref (a 0 0)), (1, .int s1), (2, .int s2), (3, .int s3)]) hx hb dX3_home_41 hl (by decide) rfl (fun ls hl => ?_)
        refine lv_aload_n hx hb dX3_home_43 rfl (lv_at hl 1 rfl) ?_
        refine lv_iload_n hx hb dX3_home_44 rfl (lv_at hl 2 rfl) ?_
        refine lv_iconst (v := 0) hx hb dX3_home_45 (by decide) ?_
        refine lv_iload_n hx hb dX3_home_46 rfl (lv_at hl 3 rfl) ?_
        obtain ⟨h16, hO⟩ := hO
        obtain ⟨q17, e18⟩ : ∃ q, fX3_costOfLiving vN q14.1 q14.2 s1 0 s2 = q := ⟨_, rfl⟩
        have hF := lt_n e18 hF
        try have hO := lo_n e18 hO
        refine ct_callF hM hK hP hD hS (kX3_costOfLiving l D cy a kp vN q14.1 vI vJ q14.2 pd s1 0 s2 h16 e18) kvX3_costOfLiving wml_X3_162 rfl 0 rfl rfl rfl rfl hl.1 rfl ⟨rfl, rfl, Nat.le_of_ble_eq_true rfl, Nat.le_of_ble_eq_true rfl⟩ (Nat.le_of_ble_eq_true rfl) ⟨Nat.zero_le _, Nat.zero_le _⟩ dX3_home_47 (fun H locs hP hD hS => ?_)
        refine W.eq (g2 := F0 m 50 ls [.int q17.1]) rfl ?_
        have hP : va_P D classes (gwFF cy a kp vN q17.2 vI vJ q14.2 pd) H := hP
        have hD : va_D A (gwFF cy a kp vN q17.2 vI vJ q14.2 pd) := hD
        refine lv_topi (fun x19 e20 => ?_)
        have hF := lt_n e20.symm hF
        try have hO := lo_n e20.symm hO
        refine lv_istore (lv' := [(5, .int x19), (4, .int 0), (0, .ref (a 0 0)), (1, .int s1), (2, .int s2), (3, .int s3)]) hx hb dX3_home_50 hl (by decide) rfl (fun ls hl => ?_)
        refine lv_iconst (v := 1) hx hb dX3_home_52 (by decide) ?_
        refine lv_istore (lv' := [(6, .int 1), (5, .int x19), (4, .int 0), (0, .ref (a 0 0)), (1, .int s1), (2, .int s2), (3, .int s3)]) hx hb dX3_home_53 hl (by decide) rfl (fun ls hl => ?_)
        exact tX3_home_55 hM hK 100 q17.2 0 x19 1 H locs ls hP hD hS (lv_sub hl [3, 4, 5, 6, 2, 1, 0] rfl) hO hF
      · have hF := lt_t c12 hF
        have hO := lo_t c12 hO
        refine lv_bipush (v := (-2)) hx hb dX3_home_32 (by decide) ?_
        subst hF
        exact ct_iret hM hP hS dX3_home_34
  · have hF := lt_t c4 hF
    have hO := lo_t c4 hO
    refine lv_iconst (v := (-1)) hx hb dX3_home_11 (by decide) ?_
    subst hF
    exact ct_iret hM hP hS dX3_home_12

abbrev rX3_allTold : Room := { frames := 2, cells := 0, slots := 0, locals := 46 }
def fX3_allTold (vN : tVl) (pd : tPd) : Int32 := lt_ (fX0_faultAmong pd (v_cm vN)) fun q2 => if q2 = (-6) then (lt_ (fJ6_bitCount_0f7a4 (v_cm vN)) fun q6 => if p_ct pd = q6 then 1 else 0) else 0
def oX3_allTold (vN : tVl) (pd : tPd) : Prop := oX0_faultAmong pd (v_cm vN) ∧ True
theorem kvX3_allTold : KV yX3_allTold cX3_allTold 1 (some .boolean) 0 := ⟨wcd_X3_allTold, wim_X3_allTold, wsl_X3_allTold, win_X3, by decide +kernel, by decide +kernel, by decide +kernel⟩
set_option maxHeartbeats 4000000 in
set_option maxRecDepth 100000 in
theorem kX3_allTold (l : Launch) (D : va_G) (cy : Nat → ClassId) (a : Nat → Nat → Nat) (kp : tAr) (vN : tVl) (vT : tVl) (vI : tVl) (vJ : tVl) (w : tWl) (pd : tPd) {R : Int32} (hO : oX3_allTold vN pd) (hF : fX3_allTold vN pd = R) : CT l D cy yX3_allTold cX3_allTold 1 (some .boolean) rX3_allTold [.ref (a 0 0)] (gwFF cy a kp vN vT vI vJ w pd) (some (.int R)) (gwFF cy a kp vN vT vI vJ w pd) := by
  refine ct_of (by decide) (Nat.le_of_ble_eq_true rfl) ?_
  intro p e s m args below meth c A ls hM hK hP hD hS hl
  obtain ⟨hx, hb, -, hml, hown, hts, -⟩ := id hM
  have hl : lv_has ls 1 [(0, .ref (a 0 0))] := hl
  obtain ⟨H, hH⟩ : ∃ H : Heap, H = s.heap := ⟨_, rfl⟩
  obtain ⟨locs, hlocs⟩ : ∃ q : List Loc, q = [] := ⟨_, rfl⟩
  have hP : va_P D classes (gwFF cy a kp vN vT vI vJ w pd) H := by rw [hH]; exact hP
  have hS : va_S A s.heap H locs := by rw [hH, hlocs]; exact hS
  suffices hg : W p l e rX3_allTold s m args below meth c H locs 0 0 (MQ below (ctQ D (some (.int R)) (gwFF cy a kp vN vT vI vJ w pd) A) args s 0 0 A) (F0 m 0 ls []) by rw [hH, hlocs] at hg; exact hg
  clear hH hlocs
  unfold fX3_allTold at hF
  unfold oX3_allTold at hO
  refine lv_aload_n hx hb dX3_allTold_0 rfl (lv_at hl 0 rfl) ?_
  refine ct_get (C := RX3) (T := TX3) (N := 6) (ci := 3) (v := .ref (a 6 0)) hM hK hP inX3 0 rfl rfl 5 (by decide) wfl_X3_37 rfl dX3_allTold_1 ?_
  refine lv_aload_n hx hb dX3_allTold_4 rfl (lv_at hl 0 rfl) ?_
  refine ct_get (C := RX3) (T := TX3) (N := 6) (ci := 3) (v := .ref (a 1 0)) hM hK hP inX3 0 rfl rfl 0 (by decide) wfl_X3_10 rfl dX3_allTold_5 ?_
  refine ct_get (C := RX1) (T := TX1) (N := 6) (ci := 1) (v := .int (v_cm vN)) hM hK hP inX1 3 rfl rfl 4 (by decide) wfl_X3_58 rfl dX3_allTold_8 ?_
  obtain ⟨h1, hO⟩ := hO
  obtain ⟨q2, e3⟩ : ∃ q, fX0_faultAmong pd (v_cm vN) = q := ⟨_, rfl⟩
  have hF := lt_n e3 hF
  try have hO := lo_n e3 hO
  refine ct_callV (ws' := gwFF cy a kp vN vT vI vJ w pd) hM hK hP hD hS (kX0_faultAmong l D cy (a 6) pd (v_cm vN) h1 e3) kvX0_faultAmong wml_X3_91 [32, 33] rfl (by decide) rfl rfl rfl 32 rfl rfl rfl rfl hl.1 rfl ⟨rfl, rfl, Nat.le_of_ble_eq_true rfl, Nat.le_of_ble_eq_true rfl⟩ (Nat.le_of_ble_eq_true rfl) ⟨Nat.zero_le _, Nat.zero_le _⟩ dX3_allTold_11 (fun H locs hP hD hS => ?_)
  refine W.eq (g2 := F0 m 14 ls [.int q2]) rfl ?_
  refine lv_bipush (v := (-6)) hx hb dX3_allTold_14 (by decide) ?_
  refine lv_icmp_ne (tgt := 43) hx hb dX3_allTold_16 (by decide) (fun c4 => ?_) (fun c4 => ?_)
  · have hF := lt_f c4 hF
    refine lv_iconst (v := 0) hx hb dX3_allTold_43 (by decide) ?_
    subst hF
    exact ct_zret (r := 0) hM hP hS rfl dX3_allTold_44
  · have hF := lt_t c4 hF
    refine lv_aload_n hx hb dX3_allTold_19 rfl (lv_at hl 0 rfl) ?_
    refine ct_get (C := RX3) (T := TX3) (N := 6) (ci := 3) (v := .ref (a 6 0)) hM hK hP inX3 0 rfl rfl 5 (by decide) wfl_X3_37 rfl dX3_allTold_20 ?_
    refine ct_get (C := RX0) (T := TX0) (N := 2) (ci := 0) (v := .int (p_ct pd)) hM hK hP inX0 32 rfl rfl 0 (by decide) wfl_X3_88 rfl dX3_allTold_23 ?_
    refine lv_aload_n hx hb dX3_allTold_26 rfl (lv_at hl 0 rfl) ?_
    refine ct_get (C := RX3) (T := TX3) (N := 6) (ci := 3) (v := .ref (a 1 0)) hM hK hP inX3 0 rfl rfl 0 (by decide) wfl_X3_10 rfl dX3_allTold_27 ?_
    refine ct_get (C := RX1) (T := TX1) (N := 6) (ci := 1) (v := .int (v_cm vN)) hM hK hP inX1 3 rfl rfl 4 (by decide) wfl_X3_58 rfl dX3_allTold_30 ?_
    obtain ⟨q6, e7⟩ : ∃ q, fJ6_bitCount_0f7a4 (v_cm vN) = q := ⟨_, rfl⟩
    have hF := lt_n e7 hF
    try have hO := lo_n e7 hO
    refine ct_callS hM hK hP hD hS (kJ6_bitCount_0f7a4 l D cy (v_cm vN) trivial e7) kvJ6_bitCount_0f7a4 wml_X3_62 rfl hl.1 rfl ⟨rfl, rfl, Nat.le_of_ble_eq_true rfl, Nat.le_of_ble_eq_true rfl⟩ (Nat.le_of_ble_eq_true rfl) ⟨Nat.zero_le _, Nat.zero_le _⟩ dX3_allTold_33 (fun H locs hP hD hS => ?_)
    refine W.eq (g2 := F0 m 36 ls [.int q6, .int (p_ct pd)]) rfl ?_
    have hP : va_P D classes (gwFF cy a kp vN vT vI vJ w pd) H := hP
    have hD : va_D A (gwFF cy a kp vN vT vI vJ w pd) := hD
    refine lv_icmp_ne (tgt := 43) hx hb dX3_allTold_36 (by decide) (fun c8 => ?_) (fun c8 => ?_)
    · have hF := lt_f c8 hF
      refine lv_iconst (v := 0) hx hb dX3_allTold_43 (by decide) ?_
      subst hF
      exact ct_zret (r := 0) hM hP hS rfl dX3_allTold_44
    · have hF := lt_t c8 hF
      refine lv_iconst (v := 1) hx hb dX3_allTold_39 (by decide) ?_
      refine lv_goto (tgt := 44) hx hb dX3_allTold_40 (by decide) ?_
      subst hF
      exact ct_zret (r := 1) hM hP hS rfl dX3_allTold_44

abbrev rX3_milesThatBring : Room := { frames := 5, cells := 0, slots := 0, locals := 119 }
def fX3_milesThatBring_13 (pd : tPd) (s1 : Int32) (s2 : Int32) : Nat → tVl → tWl → Int32 → Int32 × tVl × tWl
  | 0, vT, w, s3 => (0, vT, w)
  | n + 1, vT, w, s3 => if 99 < s3 then ((-6), vT, w) else (if s2 = 0 then (lt_ (99 - s3) fun x6 => lt_ (fX2_keepsTo (upd (v_mi vT) (Int32.toNatClampNeg s1) x6, v_mn vT, v_pa vT, v_ca vT, v_se vT, v_cm vT) w pd) fun q10 => if q10.1 = 0 then (lt_ (s3 + 1) fun x13 => fX3_milesThatBring_13 pd s1 s2 n (upd (v_mi vT) (Int32.toNatClampNeg s1) x6, v_mn vT, v_pa vT, v_ca vT, v_se vT, v_cm vT) q10.2 x13) else (x6, (upd (v_mi vT) (Int32.toNatClampNeg s1) x6, v_mn vT, v_pa vT, v_ca vT, v_se vT, v_cm vT), q10.2)) else (lt_ (fX2_keepsTo (upd (v_mi vT) (Int32.toNatClampNeg s1) s3, v_mn vT, v_pa vT, v_ca vT, v_se vT, v_cm vT) w pd) fun q17 => if q17.1 = 0 then (lt_ (s3 + 1) fun x20 => fX3_milesThatBring_13 pd s1 s2 n (upd (v_mi vT) (Int32.toNatClampNeg s1) s3, v_mn vT, v_pa vT, v_ca vT, v_se vT, v_cm vT) q17.2 x20) else (s3, (upd (v_mi vT) (Int32.toNatClampNeg s1) s3, v_mn vT, v_pa vT, v_ca vT, v_se vT, v_cm vT), q17.2)))
def oX3_milesThatBring_13 (pd : tPd) (s1 : Int32) (s2 : Int32) : Nat → tVl → tWl → Int32 → Prop
  | 0, _, _, _ => False
  | n + 1, vT, w, s3 => if 99 < s3 then True else (if s2 = 0 then (lo_ (99 - s3) fun x6 => vp_in s1 8 ∧ oX2_keepsTo (upd (v_mi vT) (Int32.toNatClampNeg s1) x6, v_mn vT, v_pa vT, v_ca vT, v_se vT, v_cm vT) w pd ∧ (lo_ (fX2_keepsTo (upd (v_mi vT) (Int32.toNatClampNeg s1) x6, v_mn vT, v_pa vT, v_ca vT, v_se vT, v_cm vT) w pd) fun q10 => if q10.1 = 0 then (lo_ (s3 + 1) fun x13 => oX3_milesThatBring_13 pd s1 s2 n (upd (v_mi vT) (Int32.toNatClampNeg s1) x6, v_mn vT, v_pa vT, v_ca vT, v_se vT, v_cm vT) q10.2 x13) else True)) else (vp_in s1 8 ∧ oX2_keepsTo (upd (v_mi vT) (Int32.toNatClampNeg s1) s3, v_mn vT, v_pa vT, v_ca vT, v_se vT, v_cm vT) w pd ∧ (lo_ (fX2_keepsTo (upd (v_mi vT) (Int32.toNatClampNeg s1) s3, v_mn vT, v_pa vT, v_ca vT, v_se vT, v_cm vT) w pd) fun q17 => if q17.1 = 0 then (lo_ (s3 + 1) fun x20 => oX3_milesThatBring_13 pd s1 s2 n (upd (v_mi vT) (Int32.toNatClampNeg s1) s3, v_mn vT, v_pa vT, v_ca vT, v_se vT, v_cm vT) q17.2 x20) else True)))
set_option maxHeartbeats 4000000 in
set_option maxRecDepth 100000 in
theorem tX3_milesThatBring_13 {p : Program} {l : Launch} {e : Env} {s : State} {m : MethodId} {args : Array Value} {below : List Frame} {meth : Method} {c : Code} {A : Nat → Prop} {D : va_G} {cy : Nat → ClassId} {a : Nat → Nat → Nat} {kp : tAr} {vN : tVl} {vI : tVl} {vJ : tVl} {pd : tPd} {s1 : Int32} {s2 : Int32} {R : Int32 × tVl × tWl} (hM : MC p s m args meth c RX3 cX3_milesThatBring 5 (some .int)) (hK : va_K D classes (ctT cy) s) :
    ∀ (n : Nat) (vT : tVl) (w : tWl) (s3 : Int32) (H : Heap) (locs : List Loc) (ls : Array Slot), va_P D classes (gwFF cy a kp vN vT vI vJ w pd) H → va_D A (gwFF cy a kp vN vT vI vJ w pd) → va_S A s.heap H locs → lv_has ls 5 [(0, .ref (a 0 0)), (1, .int s1), (2, .int s2), (3, .int s3)] → oX3_milesThatBring_13 pd s1 s2 n vT w s3 → fX3_milesThatBring_13 pd s1 s2 n vT w s3 = R → W p l e rX3_milesThatBring s m args below meth c H locs 0 0 (MQ below (ctQ D (some (.int R.1)) (gwFF cy a kp vN R.2.1 vI vJ R.2.2 pd) A) args s 0 0 A) (F0 m 13 ls []) := by
  obtain ⟨hx, hb, -, hml, hown, hts, -⟩ := id hM
  intro n
  induction n with
  | zero =>
    intro vT w s3 H locs ls hP hD hS hl hO hF
    exact False.elim hO
  | succ n ih =>
    intro vT w s3 H locs ls hP hD hS hl hO hF
    rw [fX3_milesThatBring_13] at hF
    rw [oX3_milesThatBring_13] at hO
    refine lv_iload_n hx hb dX3_milesThatBring_13 rfl (lv_at hl 3 rfl) ?_
    refine lv_bipush (v := 99) hx hb dX3_milesThatBring_14 (by decide) ?_
    refine lv_icmp_gt (tgt := 71) hx hb dX3_milesThatBring_16 (by decide) (fun c4 => ?_) (fun c4 => ?_)
    · have hF := lt_t c4 hF
      have hO := lo_t c4 hO
      refine lv_bipush (v := (-6)) hx hb dX3_milesThatBring_71 (by decide) ?_
      subst hF
      exact ct_iret hM hP hS dX3_milesThatBring_73
    · have hF := lt_f c4 hF
      have hO := lo_f c4 hO
      refine lv_iload_n hx hb dX3_milesThatBring_19 rfl (lv_at hl 2 rfl) ?_
      refine lv_if_eq (tgt := 27) hx hb dX3_milesThatBring_20 (by decide) (fun c5 => ?_) (fun c5 => ?_)
      · have hF := lt_t c5 hF
        have hO := lo_t c5 hO
        refine lv_bipush (v := 99) hx hb dX3_milesThatBring_27 (by decide) ?_
        refine lv_iload_n hx hb dX3_milesThatBring_29 rfl (lv_at hl 3 rfl) ?_
        refine lv_isub hx hb dX3_milesThatBring_30 ?_
        refine lv_topi (fun x6 e7 => ?_)
        have hF := lt_n e7.symm hF
        try have hO := lo_n e7.symm hO
        refine lv_istore (lv' := [(4, .int x6), (0, .ref (a 0 0)), (1, .int s1), (2, .int s2), (3, .int s3)]) hx hb dX3_milesThatBring_31 hl (by decide) rfl (fun ls hl => ?_)
        refine lv_aload_n hx hb dX3_milesThatBring_33 rfl (lv_at hl 1 rfl) ?_
        refine ct_get (C := RX3) (T := TX3) (N := 6) (ci := 3) (v := .ref (a 2 0)) hM hK hP inX3 0 rfl rfl 1 (by decide) wfl_X3_16 rfl dX3_milesThatBring_34 ?_
        refine ct_get (C := RX1) (T := TX1) (N := 6) (ci := 1) (v := .ref (a 2 1)) hM hK hP inX1 9 rfl rfl 0 (by decide) wfl_X3_45 rfl dX3_milesThatBring_37 ?_
        refine lv_iload_n hx hb dX3_milesThatBring_40 rfl (lv_at hl 2 rfl) ?_
        refine lv_iload hx hb dX3_milesThatBring_41 (lv_at hl 0 rfl) ?_
        obtain ⟨h8, hO⟩ := hO
        refine va_iast hx hb hK hP hD hS 10 0 (f := v_mi vT) (n := 8) (cA := cy 0) rfl rfl h8 dX3_milesThatBring_43 (fun H locs hP hD hS => ?_)
        have hP : va_P D classes (gwFF cy a kp vN (upd (v_mi vT) (Int32.toNatClampNeg s1) x6, v_mn vT, v_pa vT, v_ca vT, v_se vT, v_cm vT) vI vJ w pd) H := hP
        have hD : va_D A (gwFF cy a kp vN (upd (v_mi vT) (Int32.toNatClampNeg s1) x6, v_mn vT, v_pa vT, v_ca vT, v_se vT, v_cm vT) vI vJ w pd) := hD
        refine lv_aload_n hx hb dX3_milesThatBring_44 rfl (lv_at hl 1 rfl) ?_
        refine ct_get (C := RX3) (T := TX3) (N := 6) (ci := 3) (v := .ref (a 5 0)) hM hK hP inX3 0 rfl rfl 4 (by decide) wfl_X3_30 rfl dX3_milesThatBring_45 ?_
        refine lv_aload_n hx hb dX3_milesThatBring_48 rfl (lv_at hl 1 rfl) ?_
        refine ct_get (C := RX3) (T := TX3) (N := 6) (ci := 3) (v := .ref (a 2 0)) hM hK hP inX3 0 rfl rfl 1 (by decide) wfl_X3_16 rfl dX3_milesThatBring_49 ?_
        refine lv_aload_n hx hb dX3_milesThatBring_52 rfl (lv_at hl 1 rfl) ?_
        refine ct_get (C := RX3) (T := TX3) (N := 6) (ci := 3) (v := .ref (a 6 0)) hM hK hP inX3 0 rfl rfl 5 (by decide) wfl_X3_37 rfl dX3_milesThatBring_53 ?_
        obtain ⟨h9, hO⟩ := hO
        obtain ⟨q10, e11⟩ : ∃ q, fX2_keepsTo (upd (v_mi vT) (Int32.toNatClampNeg s1) x6, v_mn vT, v_pa vT, v_ca vT, v_se vT, v_cm vT) w pd = q := ⟨_, rfl⟩
        have hF := lt_n e11 hF
        try have hO := lo_n e11 hO
        refine ct_callV (ws' := gwFF cy a kp vN (upd (v_mi vT) (Int32.toNatClampNeg s1) x6, v_mn vT, v_pa vT, v_ca vT, v_se vT, v_cm vT) vI vJ q10.2 pd) hM hK hP hD hS (kX2_keepsTo l D cy (a 2) (a 5) (a 6) (upd (v_mi vT) (Int32.toNatClampNeg s1) x6, v_mn vT, v_pa vT, v_ca vT, v_se vT, v_cm vT) w pd h9 e11) kvX2_keepsTo wml_X3_179 [9, 10, 11, 12, 13, 14, 27, 28, 29, 30, 31, 32, 33] rfl (by decide) rfl rfl rfl 27 rfl rfl rfl rfl hl.1 rfl ⟨rfl, rfl, Nat.le_of_ble_eq_true rfl, Nat.le_of_ble_eq_true rfl⟩ (Nat.le_of_ble_eq_true rfl) ⟨Nat.zero_le _, Nat.zero_le _⟩ dX3_milesThatBring_56 (fun H locs hP hD hS => ?_)
        refine W.eq (g2 := F0 m 59 ls [.int q10.1]) rfl ?_
        refine lv_if_eq (tgt := 65) hx hb dX3_milesThatBring_59 (by decide) (fun c12 => ?_) (fun c12 => ?_)
        · have hF := lt_t c12 hF
          have hO := lo_t c12 hO
          obtain ⟨x13, e14⟩ : ∃ y : Int32, s3 + 1 = y := ⟨_, rfl⟩
          have hF := lt_n e14 hF
          try have hO := lo_n e14 hO
          refine lv_iinc (v := x13) (lv' := [(3, .int x13), (4, .int x6), (0, .ref (a 0 0)), (1, .int s1), (2, .int s2)]) hx hb dX3_milesThatBring_65 hl (k := 4) rfl (by rw [← e14]; rfl) (by decide) rfl (fun ls hl => ?_)
          refine lv_goto (tgt := 13) hx hb dX3_milesThatBring_68 (by decide) ?_
          exact ih (upd (v_mi vT) (Int32.toNatClampNeg s1) x6, v_mn vT, v_pa vT, v_ca vT, v_se vT, v_cm vT) q10.2 x13 H locs ls hP hD hS (lv_sub hl [2, 3, 4, 0] rfl) hO hF
        · have hF := lt_f c12 hF
          have hO := lo_f c12 hO
          refine lv_iload hx hb dX3_milesThatBring_62 (lv_at hl 0 rfl) ?_
          subst hF
          exact ct_iret hM hP hS dX3_milesThatBring_64
      · have hF := lt_f c5 hF
        have hO := lo_f c5 hO
        refine lv_iload_n hx hb dX3_milesThatBring_23 rfl (lv_at hl 3 rfl) ?_
        refine lv_goto (tgt := 31) hx hb dX3_milesThatBring_24 (by decide) ?_
        refine lv_istore (lv' := [(4, .int s3), (0, .ref (a 0 0)), (1, .int s1), (2, .int s2), (3, .int s3)]) hx hb dX3_milesThatBring_31 hl (by decide) rfl (fun ls hl => ?_)
        refine lv_aload_n hx hb dX3_milesThatBring_33 rfl (lv_at hl 1 rfl) ?_
        refine ct_get (C := RX3) (T := TX3) (N := 6) (ci := 3) (v := .ref (a 2 0)) hM hK hP inX3 0 rfl rfl 1 (by decide) wfl_X3_16 rfl dX3_milesThatBring_34 ?_
        refine ct_get (C := RX1) (T := TX1) (N := 6) (ci := 1) (v := .ref (a 2 1)) hM hK hP inX1 9 rfl rfl 0 (by decide) wfl_X3_45 rfl dX3_milesThatBring_37 ?_
        refine lv_iload_n hx hb dX3_milesThatBring_40 rfl (lv_at hl 2 rfl) ?_
        refine lv_iload hx hb dX3_milesThatBring_41 (lv_at hl 0 rfl) ?_
        obtain ⟨h15, hO⟩ := hO
        refine va_iast hx hb hK hP hD hS 10 0 (f := v_mi vT) (n := 8) (cA := cy 0) rfl rfl h15 dX3_milesThatBring_43 (fun H locs hP hD hS => ?_)
        have hP : va_P D classes (gwFF cy a kp vN (upd (v_mi vT) (Int32.toNatClampNeg s1) s3, v_mn vT, v_pa vT, v_ca vT, v_se vT, v_cm vT) vI vJ w pd) H := hP
        have hD : va_D A (gwFF cy a kp vN (upd (v_mi vT) (Int32.toNatClampNeg s1) s3, v_mn vT, v_pa vT, v_ca vT, v_se vT, v_cm vT) vI vJ w pd) := hD
        refine lv_aload_n hx hb dX3_milesThatBring_44 rfl (lv_at hl 1 rfl) ?_
        refine ct_get (C := RX3) (T := TX3) (N := 6) (ci := 3) (v := .ref (a 5 0)) hM hK hP inX3 0 rfl rfl 4 (by decide) wfl_X3_30 rfl dX3_milesThatBring_45 ?_
        refine lv_aload_n hx hb dX3_milesThatBring_48 rfl (lv_at hl 1 rfl) ?_
        refine ct_get (C := RX3) (T := TX3) (N := 6) (ci := 3) (v := .ref (a 2 0)) hM hK hP inX3 0 rfl rfl 1 (by decide) wfl_X3_16 rfl dX3_milesThatBring_49 ?_
        refine lv_aload_n hx hb dX3_milesThatBring_52 rfl (lv_at hl 1 rfl) ?_
        refine ct_get (C := RX3) (T := TX3) (N := 6) (ci := 3) (v := .ref (a 6 0)) hM hK hP inX3 0 rfl rfl 5 (by decide) wfl_X3_37 rfl dX3_milesThatBring_53 ?_
        obtain ⟨h16, hO⟩ := hO
        obtain ⟨q17, e18⟩ : ∃ q, fX2_keepsTo (upd (v_mi vT) (Int32.toNatClampNeg s1) s3, v_mn vT, v_pa vT, v_ca vT, v_se vT, v_cm vT) w pd = q := ⟨_, rfl⟩
        have hF := lt_n e18 hF
        try have hO := lo_n e18 hO
        refine ct_callV (ws' := gwFF cy a kp vN (upd (v_mi vT) (Int32.toNatClampNeg s1) s3, v_mn vT, v_pa vT, v_ca vT, v_se vT, v_cm vT) vI vJ q17.2 pd) hM hK hP hD hS (kX2_keepsTo l D cy (a 2) (a 5) (a 6) (upd (v_mi vT) (Int32.toNatClampNeg s1) s3, v_mn vT, v_pa vT, v_ca vT, v_se vT, v_cm vT) w pd h16 e18) kvX2_keepsTo wml_X3_179 [9, 10, 11, 12, 13, 14, 27, 28, 29, 30, 31, 32, 33] rfl (by decide) rfl rfl rfl 27 rfl rfl rfl rfl hl.1 rfl ⟨rfl, rfl, Nat.le_of_ble_eq_true rfl, Nat.le_of_ble_eq_true rfl⟩ (Nat.le_of_ble_eq_true rfl) ⟨Nat.zero_le _, Nat.zero_le _⟩ dX3_milesThatBring_56 (fun H locs hP hD hS => ?_)
        refine W.eq (g2 := F0 m 59 ls [.int q17.1]) rfl ?_
        refine lv_if_eq (tgt := 65) hx hb dX3_milesThatBring_59 (by decide) (fun c19 => ?_) (fun c19 => ?_)
        · have hF := lt_t c19 hF
          have hO := lo_t c19 hO
          obtain ⟨x20, e21⟩ : ∃ y : Int32, s3 + 1 = y := ⟨_, rfl⟩
          have hF := lt_n e21 hF
          try have hO := lo_n e21 hO
          refine lv_iinc (v := x20) (lv' := [(3, .int x20), (4, .int s3), (0, .ref (a 0 0)), (1, .int s1), (2, .int s2)]) hx hb dX3_milesThatBring_65 hl (k := 4) rfl (by rw [← e21]; rfl) (by decide) rfl (fun ls hl => ?_)
          refine lv_goto (tgt := 13) hx hb dX3_milesThatBring_68 (by decide) ?_
          exact ih (upd (v_mi vT) (Int32.toNatClampNeg s1) s3, v_mn vT, v_pa vT, v_ca vT, v_se vT, v_cm vT) q17.2 x20 H locs ls hP hD hS (lv_sub hl [2, 3, 4, 0] rfl) hO hF
        · have hF := lt_f c19 hF
          have hO := lo_f c19 hO
          refine lv_iload hx hb dX3_milesThatBring_62 (lv_at hl 0 rfl) ?_
          subst hF
          exact ct_iret hM hP hS dX3_milesThatBring_64

def fX3_milesThatBring (vN : tVl) (vT : tVl) (w : tWl) (pd : tPd) (s1 : Int32) (s2 : Int32) : Int32 × tVl × tWl := lt_ (fX1_copy vT vN) fun q2 => fX3_milesThatBring_13 pd s1 s2 101 q2 w 0
def oX3_milesThatBring (vN : tVl) (vT : tVl) (w : tWl) (pd : tPd) (s1 : Int32) (s2 : Int32) : Prop := oX1_copy vT vN ∧ (lo_ (fX1_copy vT vN) fun q2 => oX3_milesThatBring_13 pd s1 s2 101 q2 w 0)
theorem kvX3_milesThatBring : KV yX3_milesThatBring cX3_milesThatBring 5 (some .int) 2 := ⟨wcd_X3_milesThatBring, wim_X3_milesThatBring, wsl_X3_milesThatBring, win_X3, by decide +kernel, by decide +kernel, by decide +kernel⟩
set_option maxHeartbeats 4000000 in
set_option maxRecDepth 100000 in
theorem kX3_milesThatBring (l : Launch) (D : va_G) (cy : Nat → ClassId) (a : Nat → Nat → Nat) (kp : tAr) (vN : tVl) (vT : tVl) (vI : tVl) (vJ : tVl) (w : tWl) (pd : tPd) (s1 : Int32) (s2 : Int32) {R : Int32 × tVl × tWl} (hO : oX3_milesThatBring vN vT w pd s1 s2) (hF : fX3_milesThatBring vN vT w pd s1 s2 = R) : CT l D cy yX3_milesThatBring cX3_milesThatBring 5 (some .int) rX3_milesThatBring [.ref (a 0 0), .int s1, .int s2] (gwFF cy a kp vN vT vI vJ w pd) (some (.int R.1)) (gwFF cy a kp vN R.2.1 vI vJ R.2.2 pd) := by
  refine ct_of (by decide) (Nat.le_of_ble_eq_true rfl) ?_
  intro p e s m args below meth c A ls hM hK hP hD hS hl
  obtain ⟨hx, hb, -, hml, hown, hts, -⟩ := id hM
  have hl : lv_has ls 5 [(0, .ref (a 0 0)), (1, .int s1), (2, .int s2)] := hl
  obtain ⟨H, hH⟩ : ∃ H : Heap, H = s.heap := ⟨_, rfl⟩
  obtain ⟨locs, hlocs⟩ : ∃ q : List Loc, q = [] := ⟨_, rfl⟩
  have hP : va_P D classes (gwFF cy a kp vN vT vI vJ w pd) H := by rw [hH]; exact hP
  have hS : va_S A s.heap H locs := by rw [hH, hlocs]; exact hS
  suffices hg : W p l e rX3_milesThatBring s m args below meth c H locs 0 0 (MQ below (ctQ D (some (.int R.1)) (gwFF cy a kp vN R.2.1 vI vJ R.2.2 pd) A) args s 0 0 A) (F0 m 0 ls []) by rw [hH, hlocs] at hg; exact hg
  clear hH hlocs
  unfold fX3_milesThatBring at hF
  unfold oX3_milesThatBring at hO
  refine lv_aload_n hx hb dX3_milesThatBring_0 rfl (lv_at hl 0 rfl) ?_
  refine ct_get (C := RX3) (T := TX3) (N := 6) (ci := 3) (v := .ref (a 2 0)) hM hK hP inX3 0 rfl rfl 1 (by decide) wfl_X3_16 rfl dX3_milesThatBring_1 ?_
  refine lv_aload_n hx hb dX3_milesThatBring_4 rfl (lv_at hl 0 rfl) ?_
  refine ct_get (C := RX3) (T := TX3) (N := 6) (ci := 3) (v := .ref (a 1 0)) hM hK hP inX3 0 rfl rfl 0 (by decide) wfl_X3_10 rfl dX3_milesThatBring_5 ?_
  obtain ⟨h1, hO⟩ := hO
  obtain ⟨q2, e3⟩ : ∃ q, fX1_copy vT vN = q := ⟨_, rfl⟩
  have hF := lt_n e3 hF
  try have hO := lo_n e3 hO
  refine ct_callV (ws' := gwFF cy a kp vN q2 vI vJ w pd) hM hK hP hD hS (kX1_copy l D cy (a 2) (a 1) vT vN h1 e3) kvX1_copy wml_X3_151 [9, 10, 11, 12, 13, 14, 3, 4, 5, 6, 7, 8] rfl (by decide) rfl rfl rfl 9 rfl rfl rfl rfl hl.1 rfl ⟨rfl, rfl, Nat.le_of_ble_eq_true rfl, Nat.le_of_ble_eq_true rfl⟩ (Nat.le_of_ble_eq_true rfl) ⟨Nat.zero_le _, Nat.zero_le _⟩ dX3_milesThatBring_8 (fun H locs hP hD hS => ?_)
  refine W.eq (g2 := F0 m 11 ls []) rfl ?_
  refine lv_iconst (v := 0) hx hb dX3_milesThatBring_11 (by decide) ?_
  refine lv_istore_n (lv' := [(3, .int 0), (0, .ref (a 0 0)), (1, .int s1), (2, .int s2)]) hx hb dX3_milesThatBring_12 rfl hl (by decide) rfl (fun ls hl => ?_)
  exact tX3_milesThatBring_13 hM hK 101 q2 w 0 H locs ls hP hD hS (lv_sub hl [1, 2, 3, 0] rfl) hO hF

abbrev rX3_lied : Room := { frames := 6, cells := 0, slots := 0, locals := 143 }
def fX3_lied_14 (vN : tVl) (pd : tPd) : Nat → tVl → tWl → Int32 → Int32 → Int32 × tVl × tWl
  | 0, vT, w, s1, s2 => (0, vT, w)
  | n + 1, vT, w, s1, s2 => if 8 ≤ s2 then (s1, vT, w) else (lt_ (fX1_comes vN s2) fun q7 => if q7 = 0 then (lt_ (s2 + 1) fun x10 => fX3_lied_14 vN pd n vT w s1 x10) else (lt_ (fX3_milesThatBring vN vT w pd s2 1) fun q13 => if q13.1 = (-6) then (lt_ (s2 + 1) fun x16 => fX3_lied_14 vN pd n q13.2.1 q13.2.2 s1 x16) else (lt_ (s1 ||| (1 <<< (s2 &&& 31))) fun x18 => lt_ (s2 + 1) fun x20 => fX3_lied_14 vN pd n q13.2.1 q13.2.2 x18 x20)))
def oX3_lied_14 (vN : tVl) (pd : tPd) : Nat → tVl → tWl → Int32 → Int32 → Prop
  | 0, _, _, _, _ => False
  | n + 1, vT, w, s1, s2 => if 8 ≤ s2 then True else (lo_ (fX1_comes vN s2) fun q7 => if q7 = 0 then (lo_ (s2 + 1) fun x10 => oX3_lied_14 vN pd n vT w s1 x10) else (oX3_milesThatBring vN vT w pd s2 1 ∧ (lo_ (fX3_milesThatBring vN vT w pd s2 1) fun q13 => if q13.1 = (-6) then (lo_ (s2 + 1) fun x16 => oX3_lied_14 vN pd n q13.2.1 q13.2.2 s1 x16) else (lo_ (s1 ||| (1 <<< (s2 &&& 31))) fun x18 => lo_ (s2 + 1) fun x20 => oX3_lied_14 vN pd n q13.2.1 q13.2.2 x18 x20))))
set_option maxHeartbeats 4000000 in
set_option maxRecDepth 100000 in
theorem tX3_lied_14 {p : Program} {l : Launch} {e : Env} {s : State} {m : MethodId} {args : Array Value} {below : List Frame} {meth : Method} {c : Code} {A : Nat → Prop} {D : va_G} {cy : Nat → ClassId} {a : Nat → Nat → Nat} {kp : tAr} {vN : tVl} {vI : tVl} {vJ : tVl} {pd : tPd} {R : Int32 × tVl × tWl} (hM : MC p s m args meth c RX3 cX3_lied 3 (some .int)) (hK : va_K D classes (ctT cy) s) :
    ∀ (n : Nat) (vT : tVl) (w : tWl) (s1 : Int32) (s2 : Int32) (H : Heap) (locs : List Loc) (ls : Array Slot), va_P D classes (gwFF cy a kp vN vT vI vJ w pd) H → va_D A (gwFF cy a kp vN vT vI vJ w pd) → va_S A s.heap H locs → lv_has ls 3 [(0, .ref (a 0 0)), (1, .int s1), (2, .int s2)] → oX3_lied_14 vN pd n vT w s1 s2 → fX3_lied_14 vN pd n vT w s1 s2 = R → W p l e rX3_lied s m args below meth c H locs 0 0 (MQ below (ctQ D (some (.int R.1)) (gwFF cy a kp vN R.2.1 vI vJ R.2.2 pd) A) args s 0 0 A) (F0 m 14 ls []) := by
  obtain ⟨hx, hb, -, hml, hown, hts, -⟩ := id hM
  intro n
  induction n with
  | zero =>
    intro vT w s1 s2 H locs ls hP hD hS hl hO hF
    exact False.elim hO
  | succ n ih =>
    intro vT w s1 s2 H locs ls hP hD hS hl hO hF
    rw [fX3_lied_14] at hF
    rw [oX3_lied_14] at hO
    refine lv_iload_n hx hb dX3_lied_14 rfl (lv_at hl 2 rfl) ?_
    refine lv_bipush (v := 8) hx hb dX3_lied_15 (by decide) ?_
    refine lv_icmp_ge (tgt := 54) hx hb dX3_lied_17 (by decide) (fun c5 => ?_) (fun c5 => ?_)
    · have hF := lt_t c5 hF
      have hO := lo_t c5 hO
      refine lv_iload_n hx hb dX3_lied_54 rfl (lv_at hl 1 rfl) ?_
      subst hF
      exact ct_iret hM hP hS dX3_lied_55
    · have hF := lt_f c5 hF
      have hO := lo_f c5 hO
      refine lv_aload_n hx hb dX3_lied_20 rfl (lv_at hl 0 rfl) ?_
      refine ct_get (C := RX3) (T := TX3) (N := 6) (ci := 3) (v := .ref (a 1 0)) hM hK hP inX3 0 rfl rfl 0 (by decide) wfl_X3_10 rfl dX3_lied_21 ?_
      refine lv_iload_n hx hb dX3_lied_24 rfl (lv_at hl 2 rfl) ?_
      obtain ⟨q7, e8⟩ : ∃ q, fX1_comes vN s2 = q := ⟨_, rfl⟩
      have hF := lt_n e8 hF
      try have hO := lo_n e8 hO
      refine ct_callV (ws' := gwFF cy a kp vN vT vI vJ w pd) hM hK hP hD hS (kX1_comes l D cy (a 1) vN s2 trivial e8) kvX1_comes wml_X3_68 [3, 4, 5, 6, 7, 8] rfl (by decide) rfl rfl rfl 3 rfl rfl rfl rfl hl.1 rfl ⟨rfl, rfl, Nat.le_of_ble_eq_true rfl, Nat.le_of_ble_eq_true rfl⟩ (Nat.le_of_ble_eq_true rfl) ⟨Nat.zero_le _, Nat.zero_le _⟩ dX3_lied_25 (fun H locs hP hD hS => ?_)
      refine W.eq (g2 := F0 m 28 ls [.int q7]) rfl ?_
      refine lv_if_eq (tgt := 48) hx hb dX3_lied_28 (by decide) (fun c9 => ?_) (fun c9 => ?_)
      · have hF := lt_t c9 hF
        have hO := lo_t c9 hO
        obtain ⟨x10, e11⟩ : ∃ y : Int32, s2 + 1 = y := ⟨_, rfl⟩
        have hF := lt_n e11 hF
        try have hO := lo_n e11 hO
        refine lv_iinc (v := x10) (lv' := [(2, .int x10), (0, .ref (a 0 0)), (1, .int s1)]) hx hb dX3_lied_48 hl (k := 2) rfl (by rw [← e11]; rfl) (by decide) rfl (fun ls hl => ?_)
        refine lv_goto (tgt := 14) hx hb dX3_lied_51 (by decide) ?_
        exact ih vT w s1 x10 H locs ls hP hD hS (lv_sub hl [1, 2, 0] rfl) hO hF
      · have hF := lt_f c9 hF
        have hO := lo_f c9 hO
        refine lv_aload_n hx hb dX3_lied_31 rfl (lv_at hl 0 rfl) ?_
        refine lv_iload_n hx hb dX3_lied_32 rfl (lv_at hl 2 rfl) ?_
        refine lv_iconst (v := 1) hx hb dX3_lied_33 (by decide) ?_
        obtain ⟨h12, hO⟩ := hO
        obtain ⟨q13, e14⟩ : ∃ q, fX3_milesThatBring vN vT w pd s2 1 = q := ⟨_, rfl⟩
        have hF := lt_n e14 hF
        try have hO := lo_n e14 hO
        refine ct_callF hM hK hP hD hS (kX3_milesThatBring l D cy a kp vN vT vI vJ w pd s2 1 h12 e14) kvX3_milesThatBring wml_X3_147 rfl 0 rfl rfl rfl rfl hl.1 rfl ⟨rfl, rfl, Nat.le_of_ble_eq_true rfl, Nat.le_of_ble_eq_true rfl⟩ (Nat.le_of_ble_eq_true rfl) ⟨Nat.zero_le _, Nat.zero_le _⟩ dX3_lied_34 (fun H locs hP hD hS => ?_)
        refine W.eq (g2 := F0 m 37 ls [.int q13.1]) rfl ?_
        have hP : va_P D classes (gwFF cy a kp vN q13.2.1 vI vJ q13.2.2 pd) H := hP
        have hD : va_D A (gwFF cy a kp vN q13.2.1 vI vJ q13.2.2 pd) := hD
        refine lv_bipush (v := (-6)) hx hb dX3_lied_37 (by decide) ?_
        refine lv_icmp_eq (tgt := 48) hx hb dX3_lied_39 (by decide) (fun c15 => ?_) (fun c15 => ?_)
        · have hF := lt_t c15 hF
          have hO := lo_t c15 hO
          obtain ⟨x16, e17⟩ : ∃ y : Int32, s2 + 1 = y := ⟨_, rfl⟩
          have hF := lt_n e17 hF
          try have hO := lo_n e17 hO
          refine lv_iinc (v := x16) (lv' := [(2, .int x16), (0, .ref (a 0 0)), (1, .int s1)]) hx hb dX3_lied_48 hl (k := 2) rfl (by rw [← e17]; rfl) (by decide) rfl (fun ls hl => ?_)
          refine lv_goto (tgt := 14) hx hb dX3_lied_51 (by decide) ?_
          exact ih q13.2.1 q13.2.2 s1 x16 H locs ls hP hD hS (lv_sub hl [1, 2, 0] rfl) hO hF
        · have hF := lt_f c15 hF
          have hO := lo_f c15 hO
          refine lv_iload_n hx hb dX3_lied_42 rfl (lv_at hl 1 rfl) ?_
          refine lv_iconst (v := 1) hx hb dX3_lied_43 (by decide) ?_
          refine lv_iload_n hx hb dX3_lied_44 rfl (lv_at hl 2 rfl) ?_
          refine lv_ishl hx hb dX3_lied_45 ?_
          refine lv_ior hx hb dX3_lied_46 ?_
          refine lv_topi (fun x18 e19 => ?_)
          have hF := lt_n e19.symm hF
          try have hO := lo_n e19.symm hO
          refine lv_istore_n (lv' := [(1, .int x18), (0, .ref (a 0 0)), (2, .int s2)]) hx hb dX3_lied_47 rfl hl (by decide) rfl (fun ls hl => ?_)
          obtain ⟨x20, e21⟩ : ∃ y : Int32, s2 + 1 = y := ⟨_, rfl⟩
          have hF := lt_n e21 hF
          try have hO := lo_n e21 hO
          refine lv_iinc (v := x20) (lv' := [(2, .int x20), (1, .int x18), (0, .ref (a 0 0))]) hx hb dX3_lied_48 hl (k := 2) rfl (by rw [← e21]; rfl) (by decide) rfl (fun ls hl => ?_)
          refine lv_goto (tgt := 14) hx hb dX3_lied_51 (by decide) ?_
          exact ih q13.2.1 q13.2.2 x18 x20 H locs ls hP hD hS (lv_sub hl [2, 1, 0] rfl) hO hF

def fX3_lied (vN : tVl) (vT : tVl) (w : tWl) (pd : tPd) : Int32 × tVl × tWl := lt_ (fX3_allTold vN pd) fun q2 => if q2 = 0 then ((-5), vT, w) else (fX3_lied_14 vN pd 9 vT w 0 0)
def oX3_lied (vN : tVl) (vT : tVl) (w : tWl) (pd : tPd) : Prop := oX3_allTold vN pd ∧ (lo_ (fX3_allTold vN pd) fun q2 => if q2 = 0 then True else (oX3_lied_14 vN pd 9 vT w 0 0))
theorem kvX3_lied : KV yX3_lied cX3_lied 3 (some .int) 0 := ⟨wcd_X3_lied, wim_X3_lied, wsl_X3_lied, win_X3, by decide +kernel, by decide +kernel, by decide +kernel⟩
set_option maxHeartbeats 4000000 in
set_option maxRecDepth 100000 in
theorem kX3_lied (l : Launch) (D : va_G) (cy : Nat → ClassId) (a : Nat → Nat → Nat) (kp : tAr) (vN : tVl) (vT : tVl) (vI : tVl) (vJ : tVl) (w : tWl) (pd : tPd) {R : Int32 × tVl × tWl} (hO : oX3_lied vN vT w pd) (hF : fX3_lied vN vT w pd = R) : CT l D cy yX3_lied cX3_lied 3 (some .int) rX3_lied [.ref (a 0 0)] (gwFF cy a kp vN vT vI vJ w pd) (some (.int R.1)) (gwFF cy a kp vN R.2.1 vI vJ R.2.2 pd) := by
  refine ct_of (by decide) (Nat.le_of_ble_eq_true rfl) ?_
  intro p e s m args below meth c A ls hM hK hP hD hS hl
  obtain ⟨hx, hb, -, hml, hown, hts, -⟩ := id hM
  have hl : lv_has ls 3 [(0, .ref (a 0 0))] := hl
  obtain ⟨H, hH⟩ : ∃ H : Heap, H = s.heap := ⟨_, rfl⟩
  obtain ⟨locs, hlocs⟩ : ∃ q : List Loc, q = [] := ⟨_, rfl⟩
  have hP : va_P D classes (gwFF cy a kp vN vT vI vJ w pd) H := by rw [hH]; exact hP
  have hS : va_S A s.heap H locs := by rw [hH, hlocs]; exact hS
  suffices hg : W p l e rX3_lied s m args below meth c H locs 0 0 (MQ below (ctQ D (some (.int R.1)) (gwFF cy a kp vN R.2.1 vI vJ R.2.2 pd) A) args s 0 0 A) (F0 m 0 ls []) by rw [hH, hlocs] at hg; exact hg
  clear hH hlocs
  unfold fX3_lied at hF
  unfold oX3_lied at hO
  refine lv_aload_n hx hb dX3_lied_0 rfl (lv_at hl 0 rfl) ?_
  obtain ⟨h1, hO⟩ := hO
  obtain ⟨q2, e3⟩ : ∃ q, fX3_allTold vN pd = q := ⟨_, rfl⟩
  have hF := lt_n e3 hF
  try have hO := lo_n e3 hO
  refine ct_callF hM hK hP hD hS (kX3_allTold l D cy a kp vN vT vI vJ w pd h1 e3) kvX3_allTold wml_X3_143 rfl 0 rfl rfl rfl rfl hl.1 rfl ⟨rfl, rfl, Nat.le_of_ble_eq_true rfl, Nat.le_of_ble_eq_true rfl⟩ (Nat.le_of_ble_eq_true rfl) ⟨Nat.zero_le _, Nat.zero_le _⟩ dX3_lied_1 (fun H locs hP hD hS => ?_)
  refine W.eq (g2 := F0 m 4 ls [.int q2]) rfl ?_
  refine lv_if_ne (tgt := 10) hx hb dX3_lied_4 (by decide) (fun c4 => ?_) (fun c4 => ?_)
  · have hF := lt_f c4 hF
    have hO := lo_f c4 hO
    refine lv_iconst (v := 0) hx hb dX3_lied_10 (by decide) ?_
    refine lv_istore_n (lv' := [(1, .int 0), (0, .ref (a 0 0))]) hx hb dX3_lied_11 rfl hl (by decide) rfl (fun ls hl => ?_)
    refine lv_iconst (v := 0) hx hb dX3_lied_12 (by decide) ?_
    refine lv_istore_n (lv' := [(2, .int 0), (1, .int 0), (0, .ref (a 0 0))]) hx hb dX3_lied_13 rfl hl (by decide) rfl (fun ls hl => ?_)
    exact tX3_lied_14 hM hK 9 vT w 0 0 H locs ls hP hD hS (lv_sub hl [2, 1, 0] rfl) hO hF
  · have hF := lt_t c4 hF
    have hO := lo_t c4 hO
    refine lv_bipush (v := (-5)) hx hb dX3_lied_7 (by decide) ?_
    subst hF
    exact ct_iret hM hP hS dX3_lied_9

abbrev rX3_could : Room := { frames := 6, cells := 0, slots := 0, locals := 143 }
def fX3_could (vN : tVl) (vT : tVl) (w : tWl) (pd : tPd) (s1 : Int32) (s2 : Int32) : Int32 × tVl × tWl := lt_ (fX1_comes vN s1) fun q2 => if q2 = 0 then ((-1), vT, w) else (lt_ (fX3_within s2 0 1) fun q6 => if q6 = 0 then ((-2), vT, w) else (lt_ (fX3_allTold vN pd) fun q10 => if q10 = 0 then ((-5), vT, w) else (if s2 = 0 then (lt_ (fX3_milesThatBring vN vT w pd s1 1) fun q18 => (q18.1, q18.2.1, q18.2.2)) else (lt_ (fX3_milesThatBring vN vT w pd s1 0) fun q15 => (q15.1, q15.2.1, q15.2.2)))))
def oX3_could (vN : tVl) (vT : tVl) (w : tWl) (pd : tPd) (s1 : Int32) (s2 : Int32) : Prop := lo_ (fX1_comes vN s1) fun q2 => if q2 = 0 then True else (lo_ (fX3_within s2 0 1) fun q6 => if q6 = 0 then True else (oX3_allTold vN pd ∧ (lo_ (fX3_allTold vN pd) fun q10 => if q10 = 0 then True else (if s2 = 0 then (oX3_milesThatBring vN vT w pd s1 1 ∧ True) else (oX3_milesThatBring vN vT w pd s1 0 ∧ True)))))
theorem kvX3_could : KV yX3_could cX3_could 3 (some .int) 2 := ⟨wcd_X3_could, wim_X3_could, wsl_X3_could, win_X3, by decide +kernel, by decide +kernel, by decide +kernel⟩
set_option maxHeartbeats 4000000 in
set_option maxRecDepth 100000 in
theorem kX3_could (l : Launch) (D : va_G) (cy : Nat → ClassId) (a : Nat → Nat → Nat) (kp : tAr) (vN : tVl) (vT : tVl) (vI : tVl) (vJ : tVl) (w : tWl) (pd : tPd) (s1 : Int32) (s2 : Int32) {R : Int32 × tVl × tWl} (hO : oX3_could vN vT w pd s1 s2) (hF : fX3_could vN vT w pd s1 s2 = R) : CT l D cy yX3_could cX3_could 3 (some .int) rX3_could [.ref (a 0 0), .int s1, .int s2] (gwFF cy a kp vN vT vI vJ w pd) (some (.int R.1)) (gwFF cy a kp vN R.2.1 vI vJ R.2.2 pd) := by
  refine ct_of (by decide) (Nat.le_of_ble_eq_true rfl) ?_
  intro p e s m args below meth c A ls hM hK hP hD hS hl
  obtain ⟨hx, hb, -, hml, hown, hts, -⟩ := id hM
  have hl : lv_has ls 3 [(0, .ref (a 0 0)), (1, .int s1), (2, .int s2)] := hl
  obtain ⟨H, hH⟩ : ∃ H : Heap, H = s.heap := ⟨_, rfl⟩
  obtain ⟨locs, hlocs⟩ : ∃ q : List Loc, q = [] := ⟨_, rfl⟩
  have hP : va_P D classes (gwFF cy a kp vN vT vI vJ w pd) H := by rw [hH]; exact hP
  have hS : va_S A s.heap H locs := by rw [hH, hlocs]; exact hS
  suffices hg : W p l e rX3_could s m args below meth c H locs 0 0 (MQ below (ctQ D (some (.int R.1)) (gwFF cy a kp vN R.2.1 vI vJ R.2.2 pd) A) args s 0 0 A) (F0 m 0 ls []) by rw [hH, hlocs] at hg; exact hg
  clear hH hlocs
  unfold fX3_could at hF
  unfold oX3_could at hO
  refine lv_aload_n hx hb dX3_could_0 rfl (lv_at hl 0 rfl) ?_
  refine ct_get (C := RX3) (T := TX3) (N := 6) (ci := 3) (v := .ref (a 1 0)) hM hK hP inX3 0 rfl rfl 0 (by decide) wfl_X3_10 rfl dX3_could_1 ?_
  refine lv_iload_n hx hb dX3_could_4 rfl (lv_at hl 1 rfl) ?_
  obtain ⟨q2, e3⟩ : ∃ q, fX1_comes vN s1 = q := ⟨_, rfl⟩
  have hF := lt_n e3 hF
  try have hO := lo_n e3 hO
  refine ct_callV (ws' := gwFF cy a kp vN vT vI vJ w pd) hM hK hP hD hS (kX1_comes l D cy (a 1) vN s1 trivial e3) kvX1_comes wml_X3_68 [3, 4, 5, 6, 7, 8] rfl (by decide) rfl rfl rfl 3 rfl rfl rfl rfl hl.1 rfl ⟨rfl, rfl, Nat.le_of_ble_eq_true rfl, Nat.le_of_ble_eq_true rfl⟩ (Nat.le_of_ble_eq_true rfl) ⟨Nat.zero_le _, Nat.zero_le _⟩ dX3_could_5 (fun H locs hP hD hS => ?_)
  refine W.eq (g2 := F0 m 8 ls [.int q2]) rfl ?_
  refine lv_if_ne (tgt := 13) hx hb dX3_could_8 (by decide) (fun c4 => ?_) (fun c4 => ?_)
  · have hF := lt_f c4 hF
    have hO := lo_f c4 hO
    refine lv_iload_n hx hb dX3_could_13 rfl (lv_at hl 2 rfl) ?_
    refine lv_iconst (v := 0) hx hb dX3_could_14 (by decide) ?_
    refine lv_iconst (v := 1) hx hb dX3_could_15 (by decide) ?_
    obtain ⟨q6, e7⟩ : ∃ q, fX3_within s2 0 1 = q := ⟨_, rfl⟩
    have hF := lt_n e7 hF
    try have hO := lo_n e7 hO
    refine ct_callS hM hK hP hD hS (kX3_within l D cy s2 0 1 trivial e7) kvX3_within wml_X3_41 rfl hl.1 rfl ⟨rfl, rfl, Nat.le_of_ble_eq_true rfl, Nat.le_of_ble_eq_true rfl⟩ (Nat.le_of_ble_eq_true rfl) ⟨Nat.zero_le _, Nat.zero_le _⟩ dX3_could_16 (fun H locs hP hD hS => ?_)
    refine W.eq (g2 := F0 m 19 ls [.int q6]) rfl ?_
    have hP : va_P D classes (gwFF cy a kp vN vT vI vJ w pd) H := hP
    have hD : va_D A (gwFF cy a kp vN vT vI vJ w pd) := hD
    refine lv_if_ne (tgt := 25) hx hb dX3_could_19 (by decide) (fun c8 => ?_) (fun c8 => ?_)
    · have hF := lt_f c8 hF
      have hO := lo_f c8 hO
      refine lv_aload_n hx hb dX3_could_25 rfl (lv_at hl 0 rfl) ?_
      obtain ⟨h9, hO⟩ := hO
      obtain ⟨q10, e11⟩ : ∃ q, fX3_allTold vN pd = q := ⟨_, rfl⟩
      have hF := lt_n e11 hF
      try have hO := lo_n e11 hO
      refine ct_callF hM hK hP hD hS (kX3_allTold l D cy a kp vN vT vI vJ w pd h9 e11) kvX3_allTold wml_X3_143 rfl 0 rfl rfl rfl rfl hl.1 rfl ⟨rfl, rfl, Nat.le_of_ble_eq_true rfl, Nat.le_of_ble_eq_true rfl⟩ (Nat.le_of_ble_eq_true rfl) ⟨Nat.zero_le _, Nat.zero_le _⟩ dX3_could_26 (fun H locs hP hD hS => ?_)
      refine W.eq (g2 := F0 m 29 ls [.int q10]) rfl ?_
      refine lv_if_eq (tgt := 49) hx hb dX3_could_29 (by decide) (fun c12 => ?_) (fun c12 => ?_)
      · have hF := lt_t c12 hF
        have hO := lo_t c12 hO
        refine lv_bipush (v := (-5)) hx hb dX3_could_49 (by decide) ?_
        subst hF
        exact ct_iret hM hP hS dX3_could_51
      · have hF := lt_f c12 hF
        have hO := lo_f c12 hO
        refine lv_aload_n hx hb dX3_could_32 rfl (lv_at hl 0 rfl) ?_
        refine lv_iload_n hx hb dX3_could_33 rfl (lv_at hl 1 rfl) ?_
        refine lv_iload_n hx hb dX3_could_34 rfl (lv_at hl 2 rfl) ?_
        refine lv_if_ne (tgt := 42) hx hb dX3_could_35 (by decide) (fun c13 => ?_) (fun c13 => ?_)
        · have hF := lt_f c13 hF
          have hO := lo_f c13 hO
          refine lv_iconst (v := 0) hx hb dX3_could_42 (by decide) ?_
          obtain ⟨h14, hO⟩ := hO
          obtain ⟨q15, e16⟩ : ∃ q, fX3_milesThatBring vN vT w pd s1 0 = q := ⟨_, rfl⟩
          have hF := lt_n e16 hF
          try have hO := lo_n e16 hO
          refine ct_callF hM hK hP hD hS (kX3_milesThatBring l D cy a kp vN vT vI vJ w pd s1 0 h14 e16) kvX3_milesThatBring wml_X3_147 rfl 0 rfl rfl rfl rfl hl.1 rfl ⟨rfl, rfl, Nat.le_of_ble_eq_true rfl, Nat.le_of_ble_eq_true rfl⟩ (Nat.le_of_ble_eq_true rfl) ⟨Nat.zero_le _, Nat.zero_le _⟩ dX3_could_43 (fun H locs hP hD hS => ?_)
          refine W.eq (g2 := F0 m 46 ls [.int q15.1]) rfl ?_
          have hP : va_P D classes (gwFF cy a kp vN q15.2.1 vI vJ q15.2.2 pd) H := hP
          have hD : va_D A (gwFF cy a kp vN q15.2.1 vI vJ q15.2.2 pd) := hD
          refine lv_goto (tgt := 51) hx hb dX3_could_46 (by decide) ?_
          subst hF
          exact ct_iret hM hP hS dX3_could_51
        · have hF := lt_t c13 hF
          have hO := lo_t c13 hO
          refine lv_iconst (v := 1) hx hb dX3_could_38 (by decide) ?_
          refine lv_goto (tgt := 43) hx hb dX3_could_39 (by decide) ?_
          obtain ⟨h17, hO⟩ := hO
          obtain ⟨q18, e19⟩ : ∃ q, fX3_milesThatBring vN vT w pd s1 1 = q := ⟨_, rfl⟩
          have hF := lt_n e19 hF
          try have hO := lo_n e19 hO
          refine ct_callF hM hK hP hD hS (kX3_milesThatBring l D cy a kp vN vT vI vJ w pd s1 1 h17 e19) kvX3_milesThatBring wml_X3_147 rfl 0 rfl rfl rfl rfl hl.1 rfl ⟨rfl, rfl, Nat.le_of_ble_eq_true rfl, Nat.le_of_ble_eq_true rfl⟩ (Nat.le_of_ble_eq_true rfl) ⟨Nat.zero_le _, Nat.zero_le _⟩ dX3_could_43 (fun H locs hP hD hS => ?_)
          refine W.eq (g2 := F0 m 46 ls [.int q18.1]) rfl ?_
          have hP : va_P D classes (gwFF cy a kp vN q18.2.1 vI vJ q18.2.2 pd) H := hP
          have hD : va_D A (gwFF cy a kp vN q18.2.1 vI vJ q18.2.2 pd) := hD
          refine lv_goto (tgt := 51) hx hb dX3_could_46 (by decide) ?_
          subst hF
          exact ct_iret hM hP hS dX3_could_51
    · have hF := lt_t c8 hF
      have hO := lo_t c8 hO
      refine lv_bipush (v := (-2)) hx hb dX3_could_22 (by decide) ?_
      subst hF
      exact ct_iret hM hP hS dX3_could_24
  · have hF := lt_t c4 hF
    have hO := lo_t c4 hO
    refine lv_iconst (v := (-1)) hx hb dX3_could_11 (by decide) ?_
    subst hF
    exact ct_iret hM hP hS dX3_could_12

abbrev rX3_runUnder : Room := { frames := 5, cells := 0, slots := 0, locals := 119 }
def fX3_runUnder (vT : tVl) (w : tWl) (s1 : Int32) : tVl × tWl := lt_ (fX1_change vT 1 (s1 / 4)) fun q2 => lt_ (fX1_change q2 2 (s1 - (s1 / 4) * 4)) fun q5 => lt_ (fX2_run q5 w (v_cm q5)) fun q8 => (q5, q8)
def oX3_runUnder (vT : tVl) (w : tWl) (s1 : Int32) : Prop := oX1_change vT 1 (s1 / 4) ∧ (lo_ (fX1_change vT 1 (s1 / 4)) fun q2 => oX1_change q2 2 (s1 - (s1 / 4) * 4) ∧ (lo_ (fX1_change q2 2 (s1 - (s1 / 4) * 4)) fun q5 => oX2_run q5 w (v_cm q5) ∧ True))
theorem kvX3_runUnder : KV yX3_runUnder cX3_runUnder 2 none 1 := ⟨wcd_X3_runUnder, wim_X3_runUnder, wsl_X3_runUnder, win_X3, by decide +kernel, by decide +kernel, by decide +kernel⟩
set_option maxHeartbeats 4000000 in
set_option maxRecDepth 100000 in
theorem kX3_runUnder (l : Launch) (D : va_G) (cy : Nat → ClassId) (a : Nat → Nat → Nat) (kp : tAr) (vN : tVl) (vT : tVl) (vI : tVl) (vJ : tVl) (w : tWl) (pd : tPd) (s1 : Int32) {R : tVl × tWl} (hO : oX3_runUnder vT w s1) (hF : fX3_runUnder vT w s1 = R) : CT l D cy yX3_runUnder cX3_runUnder 2 none rX3_runUnder [.ref (a 0 0), .int s1] (gwFF cy a kp vN vT vI vJ w pd) none (gwFF cy a kp vN R.1 vI vJ R.2 pd) := by
  refine ct_of (by decide) (Nat.le_of_ble_eq_true rfl) ?_
  intro p e s m args below meth c A ls hM hK hP hD hS hl
  obtain ⟨hx, hb, -, hml, hown, hts, -⟩ := id hM
  have hl : lv_has ls 2 [(0, .ref (a 0 0)), (1, .int s1)] := hl
  obtain ⟨H, hH⟩ : ∃ H : Heap, H = s.heap := ⟨_, rfl⟩
  obtain ⟨locs, hlocs⟩ : ∃ q : List Loc, q = [] := ⟨_, rfl⟩
  have hP : va_P D classes (gwFF cy a kp vN vT vI vJ w pd) H := by rw [hH]; exact hP
  have hS : va_S A s.heap H locs := by rw [hH, hlocs]; exact hS
  suffices hg : W p l e rX3_runUnder s m args below meth c H locs 0 0 (MQ below (ctQ D none (gwFF cy a kp vN R.1 vI vJ R.2 pd) A) args s 0 0 A) (F0 m 0 ls []) by rw [hH, hlocs] at hg; exact hg
  clear hH hlocs
  unfold fX3_runUnder at hF
  unfold oX3_runUnder at hO
  refine lv_aload_n hx hb dX3_runUnder_0 rfl (lv_at hl 0 rfl) ?_
  refine ct_get (C := RX3) (T := TX3) (N := 6) (ci := 3) (v := .ref (a 2 0)) hM hK hP inX3 0 rfl rfl 1 (by decide) wfl_X3_16 rfl dX3_runUnder_1 ?_
  refine lv_iconst (v := 1) hx hb dX3_runUnder_4 (by decide) ?_
  refine lv_iload_n hx hb dX3_runUnder_5 rfl (lv_at hl 1 rfl) ?_
  refine lv_iconst (v := 4) hx hb dX3_runUnder_6 (by decide) ?_
  refine lv_idiv hx hb dX3_runUnder_7 (by decide) ?_
  obtain ⟨h1, hO⟩ := hO
  obtain ⟨q2, e3⟩ : ∃ q, fX1_change vT 1 (s1 / 4) = q := ⟨_, rfl⟩
  have hF := lt_n e3 hF
  try have hO := lo_n e3 hO
  refine ct_callV (ws' := gwFF cy a kp vN q2 vI vJ w pd) hM hK hP hD hS (kX1_change l D cy (a 2) vT 1 (s1 / 4) h1 e3) kvX1_change wml_X3_81 [9, 10, 11, 12, 13, 14] rfl (by decide) rfl rfl rfl 9 rfl rfl rfl rfl hl.1 rfl ⟨rfl, rfl, Nat.le_of_ble_eq_true rfl, Nat.le_of_ble_eq_true rfl⟩ (Nat.le_of_ble_eq_true rfl) ⟨Nat.zero_le _, Nat.zero_le _⟩ dX3_runUnder_8 (fun H locs hP hD hS => ?_)
  refine W.eq (g2 := F0 m 11 ls []) rfl ?_
  refine lv_aload_n hx hb dX3_runUnder_11 rfl (lv_at hl 0 rfl) ?_
  refine ct_get (C := RX3) (T := TX3) (N := 6) (ci := 3) (v := .ref (a 2 0)) hM hK hP inX3 0 rfl rfl 1 (by decide) wfl_X3_16 rfl dX3_runUnder_12 ?_
  refine lv_iconst (v := 2) hx hb dX3_runUnder_15 (by decide) ?_
  refine lv_iload_n hx hb dX3_runUnder_16 rfl (lv_at hl 1 rfl) ?_
  refine lv_iconst (v := 4) hx hb dX3_runUnder_17 (by decide) ?_
  refine lv_irem hx hb dX3_runUnder_18 (by decide) ?_
  obtain ⟨h4, hO⟩ := hO
  obtain ⟨q5, e6⟩ : ∃ q, fX1_change q2 2 (s1 - (s1 / 4) * 4) = q := ⟨_, rfl⟩
  have hF := lt_n e6 hF
  try have hO := lo_n e6 hO
  refine ct_callV (ws' := gwFF cy a kp vN q5 vI vJ w pd) hM hK hP hD hS (kX1_change l D cy (a 2) q2 2 (s1 - (s1 / 4) * 4) h4 e6) kvX1_change wml_X3_81 [9, 10, 11, 12, 13, 14] rfl (by decide) rfl rfl rfl 9 rfl rfl rfl rfl hl.1 rfl ⟨rfl, rfl, Nat.le_of_ble_eq_true rfl, Nat.le_of_ble_eq_true rfl⟩ (Nat.le_of_ble_eq_true rfl) ⟨Nat.zero_le _, Nat.zero_le _⟩ dX3_runUnder_19 (fun H locs hP hD hS => ?_)
  refine W.eq (g2 := F0 m 22 ls []) rfl ?_
  refine lv_aload_n hx hb dX3_runUnder_22 rfl (lv_at hl 0 rfl) ?_
  refine ct_get (C := RX3) (T := TX3) (N := 6) (ci := 3) (v := .ref (a 5 0)) hM hK hP inX3 0 rfl rfl 4 (by decide) wfl_X3_30 rfl dX3_runUnder_23 ?_
  refine lv_aload_n hx hb dX3_runUnder_26 rfl (lv_at hl 0 rfl) ?_
  refine ct_get (C := RX3) (T := TX3) (N := 6) (ci := 3) (v := .ref (a 2 0)) hM hK hP inX3 0 rfl rfl 1 (by decide) wfl_X3_16 rfl dX3_runUnder_27 ?_
  refine lv_aload_n hx hb dX3_runUnder_30 rfl (lv_at hl 0 rfl) ?_
  refine ct_get (C := RX3) (T := TX3) (N := 6) (ci := 3) (v := .ref (a 2 0)) hM hK hP inX3 0 rfl rfl 1 (by decide) wfl_X3_16 rfl dX3_runUnder_31 ?_
  refine ct_get (C := RX1) (T := TX1) (N := 6) (ci := 1) (v := .int (v_cm q5)) hM hK hP inX1 9 rfl rfl 4 (by decide) wfl_X3_58 rfl dX3_runUnder_34 ?_
  obtain ⟨h7, hO⟩ := hO
  obtain ⟨q8, e9⟩ : ∃ q, fX2_run q5 w (v_cm q5) = q := ⟨_, rfl⟩
  have hF := lt_n e9 hF
  try have hO := lo_n e9 hO
  refine ct_callV (ws' := gwFF cy a kp vN q5 vI vJ q8 pd) hM hK hP hD hS (kX2_run l D cy (a 2) (a 5) q5 w (v_cm q5) h7 e9) kvX2_run wml_X3_94 [9, 10, 11, 12, 13, 14, 27, 28, 29, 30, 31] rfl (by decide) rfl rfl rfl 27 rfl rfl rfl rfl hl.1 rfl ⟨rfl, rfl, Nat.le_of_ble_eq_true rfl, Nat.le_of_ble_eq_true rfl⟩ (Nat.le_of_ble_eq_true rfl) ⟨Nat.zero_le _, Nat.zero_le _⟩ dX3_runUnder_37 (fun H locs hP hD hS => ?_)
  refine W.eq (g2 := F0 m 40 ls []) rfl ?_
  subst hF
  exact ct_vret hM hP hS dX3_runUnder_40

abbrev rX3_law : Room := { frames := 6, cells := 0, slots := 0, locals := 140 }
def fX3_law_50 (s1 : Int32) : Nat → tVl → tWl → Int32 → Int32 → Int32 → Int32 → Int32 × tVl × tWl
  | 0, vT, w, s2, s3, s4, s5 => (0, vT, w)
  | n + 1, vT, w, s2, s3, s4, s5 => if 16 ≤ s5 then (if s1 = 0 then ((s2 / 4), vT, w) else (if s1 = 1 then ((s2 - (s2 / 4) * 4), vT, w) else (s3, vT, w))) else (lt_ (fX3_runUnder vT w s5) fun q19 => lt_ (fX3_better (w_wo q19.2) (w_su q19.2) s3 s4) fun q22 => if q22 = 0 then (lt_ (s5 + 1) fun x25 => fX3_law_50 s1 n q19.1 q19.2 s2 s3 s4 x25) else (lt_ (w_wo q19.2) fun x27 => lt_ (w_su q19.2) fun x29 => lt_ (s5 + 1) fun x31 => fX3_law_50 s1 n q19.1 q19.2 s5 x27 x29 x31))
def oX3_law_50 (s1 : Int32) : Nat → tVl → tWl → Int32 → Int32 → Int32 → Int32 → Prop
  | 0, _, _, _, _, _, _ => False
  | n + 1, vT, w, s2, s3, s4, s5 => if 16 ≤ s5 then True else (oX3_runUnder vT w s5 ∧ (lo_ (fX3_runUnder vT w s5) fun q19 => lo_ (fX3_better (w_wo q19.2) (w_su q19.2) s3 s4) fun q22 => if q22 = 0 then (lo_ (s5 + 1) fun x25 => oX3_law_50 s1 n q19.1 q19.2 s2 s3 s4 x25) else (lo_ (w_wo q19.2) fun x27 => lo_ (w_su q19.2) fun x29 => lo_ (s5 + 1) fun x31 => oX3_law_50 s1 n q19.1 q19.2 s5 x27 x29 x31)))
set_option maxHeartbeats 4000000 in
set_option maxRecDepth 100000 in
theorem tX3_law_50 {p : Program} {l : Launch} {e : Env} {s : State} {m : MethodId} {args : Array Value} {below : List Frame} {meth : Method} {c : Code} {A : Nat → Prop} {D : va_G} {cy : Nat → ClassId} {a : Nat → Nat → Nat} {kp : tAr} {vN : tVl} {vI : tVl} {vJ : tVl} {pd : tPd} {s1 : Int32} {R : Int32 × tVl × tWl} (hM : MC p s m args meth c RX3 cX3_law 6 (some .int)) (hK : va_K D classes (ctT cy) s) :
    ∀ (n : Nat) (vT : tVl) (w : tWl) (s2 : Int32) (s3 : Int32) (s4 : Int32) (s5 : Int32) (H : Heap) (locs : List Loc) (ls : Array Slot), va_P D classes (gwFF cy a kp vN vT vI vJ w pd) H → va_D A (gwFF cy a kp vN vT vI vJ w pd) → va_S A s.heap H locs → lv_has ls 6 [(0, .ref (a 0 0)), (1, .int s1), (2, .int s2), (3, .int s3), (4, .int s4), (5, .int s5)] → oX3_law_50 s1 n vT w s2 s3 s4 s5 → fX3_law_50 s1 n vT w s2 s3 s4 s5 = R → W p l e rX3_law s m args below meth c H locs 0 0 (MQ below (ctQ D (some (.int R.1)) (gwFF cy a kp vN R.2.1 vI vJ R.2.2 pd) A) args s 0 0 A) (F0 m 50 ls []) := by
  obtain ⟨hx, hb, -, hml, hown, hts, -⟩ := id hM
  intro n
  induction n with
  | zero =>
    intro vT w s2 s3 s4 s5 H locs ls hP hD hS hl hO hF
    exact False.elim hO
  | succ n ih =>
    intro vT w s2 s3 s4 s5 H locs ls hP hD hS hl hO hF
    rw [fX3_law_50] at hF
    rw [oX3_law_50] at hO
    refine lv_iload hx hb dX3_law_50 (lv_at hl 5 rfl) ?_
    refine lv_bipush (v := 16) hx hb dX3_law_52 (by decide) ?_
    refine lv_icmp_ge (tgt := 112) hx hb dX3_law_54 (by decide) (fun c15 => ?_) (fun c15 => ?_)
    · have hF := lt_t c15 hF
      have hO := lo_t c15 hO
      refine lv_iload_n hx hb dX3_law_112 rfl (lv_at hl 1 rfl) ?_
      by_cases c16 : s1 = 0
      · have hF := lt_t c16 hF
        refine lv_lookup (off := 27) (tgt := 140) hx hb dX3_law_113 (by decide) (by rw [c16]; rfl) (by decide) ?_
        refine lv_iload_n hx hb dX3_law_140 rfl (lv_at hl 2 rfl) ?_
        refine lv_iconst (v := 4) hx hb dX3_law_141 (by decide) ?_
        refine lv_idiv hx hb dX3_law_142 (by decide) ?_
        subst hF
        exact ct_iret hM hP hS dX3_law_143
      · have hF := lt_f c16 hF
        by_cases c17 : s1 = 1
        · have hF := lt_t c17 hF
          refine lv_lookup (off := 31) (tgt := 144) hx hb dX3_law_113 (by decide) (by rw [c17]; rfl) (by decide) ?_
          refine lv_iload_n hx hb dX3_law_144 rfl (lv_at hl 2 rfl) ?_
          refine lv_iconst (v := 4) hx hb dX3_law_145 (by decide) ?_
          refine lv_irem hx hb dX3_law_146 (by decide) ?_
          subst hF
          exact ct_iret hM hP hS dX3_law_147
        · have hF := lt_f c17 hF
          refine lv_lookup (off := 35) (tgt := 148) hx hb dX3_law_113 (by decide) ((lv_osw c16 rfl).trans ((lv_osw c17 rfl).trans rfl)) (by decide) ?_
          refine lv_iload_n hx hb dX3_law_148 rfl (lv_at hl 3 rfl) ?_
          subst hF
          exact ct_iret hM hP hS dX3_law_149
    · have hF := lt_f c15 hF
      have hO := lo_f c15 hO
      refine lv_aload_n hx hb dX3_law_57 rfl (lv_at hl 0 rfl) ?_
      refine lv_iload hx hb dX3_law_58 (lv_at hl 5 rfl) ?_
      obtain ⟨h18, hO⟩ := hO
      obtain ⟨q19, e20⟩ : ∃ q, fX3_runUnder vT w s5 = q := ⟨_, rfl⟩
      have hF := lt_n e20 hF
      try have hO := lo_n e20 hO
      refine ct_callF hM hK hP hD hS (kX3_runUnder l D cy a kp vN vT vI vJ w pd s5 h18 e20) kvX3_runUnder wml_X3_155 rfl 0 rfl rfl rfl rfl hl.1 rfl ⟨rfl, rfl, Nat.le_of_ble_eq_true rfl, Nat.le_of_ble_eq_true rfl⟩ (Nat.le_of_ble_eq_true rfl) ⟨Nat.zero_le _, Nat.zero_le _⟩ dX3_law_60 (fun H locs hP hD hS => ?_)
      refine W.eq (g2 := F0 m 63 ls []) rfl ?_
      have hP : va_P D classes (gwFF cy a kp vN q19.1 vI vJ q19.2 pd) H := hP
      have hD : va_D A (gwFF cy a kp vN q19.1 vI vJ q19.2 pd) := hD
      refine lv_aload_n hx hb dX3_law_63 rfl (lv_at hl 0 rfl) ?_
      refine ct_get (C := RX3) (T := TX3) (N := 6) (ci := 3) (v := .ref (a 5 0)) hM hK hP inX3 0 rfl rfl 4 (by decide) wfl_X3_30 rfl dX3_law_64 ?_
      refine ct_get (C := RX2) (T := TX2) (N := 10) (ci := 2) (v := .int (w_wo q19.2)) hM hK hP inX2 27 rfl rfl 5 (by decide) wfl_X3_110 rfl dX3_law_67 ?_
      refine lv_aload_n hx hb dX3_law_70 rfl (lv_at hl 0 rfl) ?_
      refine ct_get (C := RX3) (T := TX3) (N := 6) (ci := 3) (v := .ref (a 5 0)) hM hK hP inX3 0 rfl rfl 4 (by decide) wfl_X3_30 rfl dX3_law_71 ?_
      refine ct_get (C := RX2) (T := TX2) (N := 10) (ci := 2) (v := .int (w_su q19.2)) hM hK hP inX2 27 rfl rfl 6 (by decide) wfl_X3_117 rfl dX3_law_74 ?_
      refine lv_iload_n hx hb dX3_law_77 rfl (lv_at hl 3 rfl) ?_
      refine lv_iload hx hb dX3_law_78 (lv_at hl 4 rfl) ?_
      obtain ⟨q22, e23⟩ : ∃ q, fX3_better (w_wo q19.2) (w_su q19.2) s3 s4 = q := ⟨_, rfl⟩
      have hF := lt_n e23 hF
      try have hO := lo_n e23 hO
      refine ct_callS hM hK hP hD hS (kX3_better l D cy (w_wo q19.2) (w_su q19.2) s3 s4 trivial e23) kvX3_better wml_X3_158 rfl hl.1 rfl ⟨rfl, rfl, Nat.le_of_ble_eq_true rfl, Nat.le_of_ble_eq_true rfl⟩ (Nat.le_of_ble_eq_true rfl) ⟨Nat.zero_le _, Nat.zero_le _⟩ dX3_law_80 (fun H locs hP hD hS => ?_)
      refine W.eq (g2 := F0 m 83 ls [.int q22]) rfl ?_
      have hP : va_P D classes (gwFF cy a kp vN q19.1 vI vJ q19.2 pd) H := hP
      have hD : va_D A (gwFF cy a kp vN q19.1 vI vJ q19.2 pd) := hD
      refine lv_if_eq (tgt := 106) hx hb dX3_law_83 (by decide) (fun c24 => ?_) (fun c24 => ?_)
      · have hF := lt_t c24 hF
        have hO := lo_t c24 hO
        obtain ⟨x25, e26⟩ : ∃ y : Int32, s5 + 1 = y := ⟨_, rfl⟩
        have hF := lt_n e26 hF
        try have hO := lo_n e26 hO
        refine lv_iinc (v := x25) (lv' := [(5, .int x25), (0, .ref (a 0 0)), (1, .int s1), (2, .int s2), (3, .int s3), (4, .int s4)]) hx hb dX3_law_106 hl (k := 5) rfl (by rw [← e26]; rfl) (by decide) rfl (fun ls hl => ?_)
        refine lv_goto (tgt := 50) hx hb dX3_law_109 (by decide) ?_
        exact ih q19.1 q19.2 s2 s3 s4 x25 H locs ls hP hD hS (lv_sub hl [1, 2, 3, 4, 5, 0] rfl) hO hF
      · have hF := lt_f c24 hF
        have hO := lo_f c24 hO
        refine lv_iload hx hb dX3_law_86 (lv_at hl 5 rfl) ?_
        refine lv_istore_n (lv' := [(2, .int s5), (0, .ref (a 0 0)), (1, .int s1), (3, .int s3), (4, .int s4), (5, .int s5)]) hx hb dX3_law_88 rfl hl (by decide) rfl (fun ls hl => ?_)
        refine lv_aload_n hx hb dX3_law_89 rfl (lv_at hl 1 rfl) ?_
        refine ct_get (C := RX3) (T := TX3) (N := 6) (ci := 3) (v := .ref (a 5 0)) hM hK hP inX3 0 rfl rfl 4 (by decide) wfl_X3_30 rfl dX3_law_90 ?_
        refine ct_get (C := RX2) (T := TX2) (N := 10) (ci := 2) (v := .int (w_wo q19.2)) hM hK hP inX2 27 rfl rfl 5 (by decide) wfl_X3_110 rfl dX3_law_93 ?_
        refine lv_topi (fun x27 e28 => ?_)
        have hF := lt_n e28.symm hF
        try have hO := lo_n e28.symm hO
        refine lv_istore_n (lv' := [(3, .int x27), (2, .int s5), (0, .ref (a 0 0)), (1, .int s1), (4, .int s4), (5, .int s5)]) hx hb dX3_law_96 rfl hl (by decide) rfl (fun ls hl => ?_)
        refine lv_aload_n hx hb dX3_law_97 rfl (lv_at hl 2 rfl) ?_
        refine ct_get (C := RX3) (T := TX3) (N := 6) (ci := 3) (v := .ref (a 5 0)) hM hK hP inX3 0 rfl rfl 4 (by decide) wfl_X3_30 rfl dX3_law_98 ?_
        refine ct_get (C := RX2) (T := TX2) (N := 10) (ci := 2) (v := .int (w_su q19.2)) hM hK hP inX2 27 rfl rfl 6 (by decide) wfl_X3_117 rfl dX3_law_101 ?_
        refine lv_topi (fun x29 e30 => ?_)
        have hF := lt_n e30.symm hF
        try have hO := lo_n e30.symm hO
        refine lv_istore (lv' := [(4, .int x29), (3, .int x27), (2, .int s5), (0, .ref (a 0 0)), (1, .int s1), (5, .int s5)]) hx hb dX3_law_104 hl (by decide) rfl (fun ls hl => ?_)
        obtain ⟨x31, e32⟩ : ∃ y : Int32, s5 + 1 = y := ⟨_, rfl⟩
        have hF := lt_n e32 hF
        try have hO := lo_n e32 hO
        refine lv_iinc (v := x31) (lv' := [(5, .int x31), (4, .int x29), (3, .int x27), (2, .int s5), (0, .ref (a 0 0)), (1, .int s1)]) hx hb dX3_law_106 hl (k := 5) rfl (by rw [← e32]; rfl) (by decide) rfl (fun ls hl => ?_)
        refine lv_goto (tgt := 50) hx hb dX3_law_109 (by decide) ?_
        exact ih q19.1 q19.2 s5 x27 x29 x31 H locs ls hP hD hS (lv_sub hl [4, 5, 3, 2, 1, 0] rfl) hO hF

def fX3_law (vN : tVl) (vT : tVl) (w : tWl) (s1 : Int32) : Int32 × tVl × tWl := lt_ (fX3_within s1 0 2) fun q2 => if q2 = 0 then ((-2), vT, w) else (lt_ (fX1_copy vT vN) fun q6 => lt_ (fX3_runUnder q6 w 1) fun q9 => lt_ (w_wo q9.2) fun x11 => lt_ (w_su q9.2) fun x13 => fX3_law_50 s1 15 q9.1 q9.2 1 x11 x13 2)
def oX3_law (vN : tVl) (vT : tVl) (w : tWl) (s1 : Int32) : Prop := lo_ (fX3_within s1 0 2) fun q2 => if q2 = 0 then True else (oX1_copy vT vN ∧ (lo_ (fX1_copy vT vN) fun q6 => oX3_runUnder q6 w 1 ∧ (lo_ (fX3_runUnder q6 w 1) fun q9 => lo_ (w_wo q9.2) fun x11 => lo_ (w_su q9.2) fun x13 => oX3_law_50 s1 15 q9.1 q9.2 1 x11 x13 2)))
theorem kvX3_law : KV yX3_law cX3_law 6 (some .int) 1 := ⟨wcd_X3_law, wim_X3_law, wsl_X3_law, win_X3, by decide +kernel, by decide +kernel, by decide +kernel⟩
set_option maxHeartbeats 4000000 in
set_option maxRecDepth 100000 in
theorem kX3_law (l : Launch) (D : va_G) (cy : Nat → ClassId) (a : Nat → Nat → Nat) (kp : tAr) (vN : tVl) (vT : tVl) (vI : tVl) (vJ : tVl) (w : tWl) (pd : tPd) (s1 : Int32) {R : Int32 × tVl × tWl} (hO : oX3_law vN vT w s1) (hF : fX3_law vN vT w s1 = R) : CT l D cy yX3_law cX3_law 6 (some .int) rX3_law [.ref (a 0 0), .int s1] (gwFF cy a kp vN vT vI vJ w pd) (some (.int R.1)) (gwFF cy a kp vN R.2.1 vI vJ R.2.2 pd) := by
  refine ct_of (by decide) (Nat.le_of_ble_eq_true rfl) ?_
  intro p e s m args below meth c A ls hM hK hP hD hS hl
  obtain ⟨hx, hb, -, hml, hown, hts, -⟩ := id hM
  have hl : lv_has ls 6 [(0, .ref (a 0 0)), (1, .int s1)] := hl
  obtain ⟨H, hH⟩ : ∃ H : Heap, H = s.heap := ⟨_, rfl⟩
  obtain ⟨locs, hlocs⟩ : ∃ q : List Loc, q = [] := ⟨_, rfl⟩
  have hP : va_P D classes (gwFF cy a kp vN vT vI vJ w pd) H := by rw [hH]; exact hP
  have hS : va_S A s.heap H locs := by rw [hH, hlocs]; exact hS
  suffices hg : W p l e rX3_law s m args below meth c H locs 0 0 (MQ below (ctQ D (some (.int R.1)) (gwFF cy a kp vN R.2.1 vI vJ R.2.2 pd) A) args s 0 0 A) (F0 m 0 ls []) by rw [hH, hlocs] at hg; exact hg
  clear hH hlocs
  unfold fX3_law at hF
  unfold oX3_law at hO
  refine lv_iload_n hx hb dX3_law_0 rfl (lv_at hl 1 rfl) ?_
  refine lv_iconst (v := 0) hx hb dX3_law_1 (by decide) ?_
  refine lv_iconst (v := 2) hx hb dX3_law_2 (by decide) ?_
  obtain ⟨q2, e3⟩ : ∃ q, fX3_within s1 0 2 = q := ⟨_, rfl⟩
  have hF := lt_n e3 hF
  try have hO := lo_n e3 hO
  refine ct_callS hM hK hP hD hS (kX3_within l D cy s1 0 2 trivial e3) kvX3_within wml_X3_41 rfl hl.1 rfl ⟨rfl, rfl, Nat.le_of_ble_eq_true rfl, Nat.le_of_ble_eq_true rfl⟩ (Nat.le_of_ble_eq_true rfl) ⟨Nat.zero_le _, Nat.zero_le _⟩ dX3_law_3 (fun H locs hP hD hS => ?_)
  refine W.eq (g2 := F0 m 6 ls [.int q2]) rfl ?_
  have hP : va_P D classes (gwFF cy a kp vN vT vI vJ w pd) H := hP
  have hD : va_D A (gwFF cy a kp vN vT vI vJ w pd) := hD
  refine lv_if_ne (tgt := 12) hx hb dX3_law_6 (by decide) (fun c4 => ?_) (fun c4 => ?_)
  · have hF := lt_f c4 hF
    have hO := lo_f c4 hO
    refine lv_aload_n hx hb dX3_law_12 rfl (lv_at hl 0 rfl) ?_
    refine ct_get (C := RX3) (T := TX3) (N := 6) (ci := 3) (v := .ref (a 2 0)) hM hK hP inX3 0 rfl rfl 1 (by decide) wfl_X3_16 rfl dX3_law_13 ?_
    refine lv_aload_n hx hb dX3_law_16 rfl (lv_at hl 0 rfl) ?_
    refine ct_get (C := RX3) (T := TX3) (N := 6) (ci := 3) (v := .ref (a 1 0)) hM hK hP inX3 0 rfl rfl 0 (by decide) wfl_X3_10 rfl dX3_law_17 ?_
    obtain ⟨h5, hO⟩ := hO
    obtain ⟨q6, e7⟩ : ∃ q, fX1_copy vT vN = q := ⟨_, rfl⟩
    have hF := lt_n e7 hF
    try have hO := lo_n e7 hO
    refine ct_callV (ws' := gwFF cy a kp vN q6 vI vJ w pd) hM hK hP hD hS (kX1_copy l D cy (a 2) (a 1) vT vN h5 e7) kvX1_copy wml_X3_151 [9, 10, 11, 12, 13, 14, 3, 4, 5, 6, 7, 8] rfl (by decide) rfl rfl rfl 9 rfl rfl rfl rfl hl.1 rfl ⟨rfl, rfl, Nat.le_of_ble_eq_true rfl, Nat.le_of_ble_eq_true rfl⟩ (Nat.le_of_ble_eq_true rfl) ⟨Nat.zero_le _, Nat.zero_le _⟩ dX3_law_20 (fun H locs hP hD hS => ?_)
    refine W.eq (g2 := F0 m 23 ls []) rfl ?_
    refine lv_iconst (v := 1) hx hb dX3_law_23 (by decide) ?_
    refine lv_istore_n (lv' := [(2, .int 1), (0, .ref (a 0 0)), (1, .int s1)]) hx hb dX3_law_24 rfl hl (by decide) rfl (fun ls hl => ?_)
    refine lv_aload_n hx hb dX3_law_25 rfl (lv_at hl 1 rfl) ?_
    refine lv_iload_n hx hb dX3_law_26 rfl (lv_at hl 0 rfl) ?_
    obtain ⟨h8, hO⟩ := hO
    obtain ⟨q9, e10⟩ : ∃ q, fX3_runUnder q6 w 1 = q := ⟨_, rfl⟩
    have hF := lt_n e10 hF
    try have hO := lo_n e10 hO
    refine ct_callF hM hK hP hD hS (kX3_runUnder l D cy a kp vN q6 vI vJ w pd 1 h8 e10) kvX3_runUnder wml_X3_155 rfl 0 rfl rfl rfl rfl hl.1 rfl ⟨rfl, rfl, Nat.le_of_ble_eq_true rfl, Nat.le_of_ble_eq_true rfl⟩ (Nat.le_of_ble_eq_true rfl) ⟨Nat.zero_le _, Nat.zero_le _⟩ dX3_law_27 (fun H locs hP hD hS => ?_)
    refine W.eq (g2 := F0 m 30 ls []) rfl ?_
    have hP : va_P D classes (gwFF cy a kp vN q9.1 vI vJ q9.2 pd) H := hP
    have hD : va_D A (gwFF cy a kp vN q9.1 vI vJ q9.2 pd) := hD
    refine lv_aload_n hx hb dX3_law_30 rfl (lv_at hl 1 rfl) ?_
    refine ct_get (C := RX3) (T := TX3) (N := 6) (ci := 3) (v := .ref (a 5 0)) hM hK hP inX3 0 rfl rfl 4 (by decide) wfl_X3_30 rfl dX3_law_31 ?_
    refine ct_get (C := RX2) (T := TX2) (N := 10) (ci := 2) (v := .int (w_wo q9.2)) hM hK hP inX2 27 rfl rfl 5 (by decide) wfl_X3_110 rfl dX3_law_34 ?_
    refine lv_topi (fun x11 e12 => ?_)
    have hF := lt_n e12.symm hF
    try have hO := lo_n e12.symm hO
    refine lv_istore_n (lv' := [(3, .int x11), (2, .int 1), (0, .ref (a 0 0)), (1, .int s1)]) hx hb dX3_law_37 rfl hl (by decide) rfl (fun ls hl => ?_)
    refine lv_aload_n hx hb dX3_law_38 rfl (lv_at hl 2 rfl) ?_
    refine ct_get (C := RX3) (T := TX3) (N := 6) (ci := 3) (v := .ref (a 5 0)) hM hK hP inX3 0 rfl rfl 4 (by decide) wfl_X3_30 rfl dX3_law_39 ?_
    refine ct_get (C := RX2) (T := TX2) (N := 10) (ci := 2) (v := .int (w_su q9.2)) hM hK hP inX2 27 rfl rfl 6 (by decide) wfl_X3_117 rfl dX3_law_42 ?_
    refine lv_topi (fun x13 e14 => ?_)
    have hF := lt_n e14.symm hF
    try have hO := lo_n e14.symm hO
    refine lv_istore (lv' := [(4, .int x13), (3, .int x11), (2, .int 1), (0, .ref (a 0 0)), (1, .int s1)]) hx hb dX3_law_45 hl (by decide) rfl (fun ls hl => ?_)
    refine lv_iconst (v := 2) hx hb dX3_law_47 (by decide) ?_
    refine lv_istore (lv' := [(5, .int 2), (4, .int x13), (3, .int x11), (2, .int 1), (0, .ref (a 0 0)), (1, .int s1)]) hx hb dX3_law_48 hl (by decide) rfl (fun ls hl => ?_)
    exact tX3_law_50 hM hK 15 q9.1 q9.2 1 x11 x13 2 H locs ls hP hD hS (lv_sub hl [4, 5, 3, 2, 1, 0] rfl) hO hF
  · have hF := lt_t c4 hF
    have hO := lo_t c4 hO
    refine lv_bipush (v := (-2)) hx hb dX3_law_9 (by decide) ?_
    subst hF
    exact ct_iret hM hP hS dX3_law_11

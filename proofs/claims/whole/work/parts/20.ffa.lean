abbrev rX3_come : Room := { frames := 1, cells := 0, slots := 0, locals := 22 }
def fX3_come (vN : tVl) (s1 : Int32) (s2 : Int32) (s3 : Int32) (s4 : Int32) (s5 : Int32) : Int32 × tVl := lt_ (fX3_within s1 0 7) fun q2 => if q2 = 0 then ((-1), vN) else (lt_ (fX3_within s2 0 99) fun q6 => if q6 = 0 then ((-2), vN) else (lt_ (fX3_within s3 0 999) fun q10 => if q10 = 0 then ((-2), vN) else (lt_ (fX3_within s4 1 9) fun q14 => if q14 = 0 then ((-2), vN) else (lt_ (v_cm vN ||| (1 <<< (s1 &&& 31))) fun x18 => lt_ (fJ6_bitCount_0f7a4 x18) fun q21 => (q21, (upd (v_mi vN) (Int32.toNatClampNeg s1) s2, upd (v_mn vN) (Int32.toNatClampNeg s1) s3, upd (v_pa vN) (Int32.toNatClampNeg s1) s4, upd (v_ca vN) (Int32.toNatClampNeg s1) (vp_nar .boolean s5), v_se vN, x18))))))
def oX3_come (vN : tVl) (s1 : Int32) (s2 : Int32) (s3 : Int32) (s4 : Int32) (s5 : Int32) : Prop := lo_ (fX3_within s1 0 7) fun q2 => if q2 = 0 then True else (lo_ (fX3_within s2 0 99) fun q6 => if q6 = 0 then True else (lo_ (fX3_within s3 0 999) fun q10 => if q10 = 0 then True else (lo_ (fX3_within s4 1 9) fun q14 => if q14 = 0 then True else (vp_in s1 8 ∧ True))))
theorem kvX3_come : KV yX3_come cX3_come 6 (some .int) 5 := ⟨wcd_X3_come, wim_X3_come, wsl_X3_come, win_X3, by decide +kernel, by decide +kernel, by decide +kernel⟩
set_option maxHeartbeats 4000000 in
set_option maxRecDepth 100000 in
theorem kX3_come (l : Launch) (D : va_G) (cy : Nat → ClassId) (a : Nat → Nat → Nat) (kp : tAr) (vN : tVl) (vT : tVl) (vI : tVl) (vJ : tVl) (w : tWl) (pd : tPd) (s1 : Int32) (s2 : Int32) (s3 : Int32) (s4 : Int32) (s5 : Int32) {R : Int32 × tVl} (hO : oX3_come vN s1 s2 s3 s4 s5) (hF : fX3_come vN s1 s2 s3 s4 s5 = R) : CT l D cy yX3_come cX3_come 6 (some .int) rX3_come [.ref (a 0 0), .int s1, .int s2, .int s3, .int s4, .int s5] (gwFF cy a kp vN vT vI vJ w pd) (some (.int R.1)) (gwFF cy a kp R.2 vT vI vJ w pd) := by
  refine ct_of (by decide) (Nat.le_of_ble_eq_true rfl) ?_
  intro p e s m args below meth c A ls hM hK hP hD hS hl
  obtain ⟨hx, hb, -, hml, hown, hts, -⟩ := id hM
  have hl : lv_has ls 6 [(0, .ref (a 0 0)), (1, .int s1), (2, .int s2), (3, .int s3), (4, .int s4), (5, .int s5)] := hl
  obtain ⟨H, hH⟩ : ∃ H : Heap, H = s.heap := ⟨_, rfl⟩
  obtain ⟨locs, hlocs⟩ : ∃ q : List Loc, q = [] := ⟨_, rfl⟩
  have hP : va_P D classes (gwFF cy a kp vN vT vI vJ w pd) H := by rw [hH]; exact hP
  have hS : va_S A s.heap H locs := by rw [hH, hlocs]; exact hS
  suffices hg : W p l e rX3_come s m args below meth c H locs 0 0 (MQ below (ctQ D (some (.int R.1)) (gwFF cy a kp R.2 vT vI vJ w pd) A) args s 0 0 A) (F0 m 0 ls []) by rw [hH, hlocs] at hg; exact hg
  clear hH hlocs
  unfold fX3_come at hF
  unfold oX3_come at hO
  refine lv_iload_n hx hb dX3_come_0 rfl (lv_at hl 1 rfl) ?_
  refine lv_iconst (v := 0) hx hb dX3_come_1 (by decide) ?_
  refine lv_bipush (v := 7) hx hb dX3_come_2 (by decide) ?_
  obtain ⟨q2, e3⟩ : ∃ q, fX3_within s1 0 7 = q := ⟨_, rfl⟩
  have hF := lt_n e3 hF
  try have hO := lo_n e3 hO
  refine ct_callS hM hK hP hD hS (kX3_within l D cy s1 0 7 trivial e3) kvX3_within wml_X3_41 rfl hl.1 rfl ⟨rfl, rfl, Nat.le_of_ble_eq_true rfl, Nat.le_of_ble_eq_true rfl⟩ (Nat.le_of_ble_eq_true rfl) ⟨Nat.zero_le _, Nat.zero_le _⟩ dX3_come_4 (fun H locs hP hD hS => ?_)
  refine W.eq (g2 := F0 m 7 ls [.int q2]) rfl ?_
  have hP : va_P D classes (gwFF cy a kp vN vT vI vJ w pd) H := hP
  have hD : va_D A (gwFF cy a kp vN vT vI vJ w pd) := hD
  refine lv_if_ne (tgt := 12) hx hb dX3_come_7 (by decide) (fun c4 => ?_) (fun c4 => ?_)
  · have hF := lt_f c4 hF
    have hO := lo_f c4 hO
    refine lv_iload_n hx hb dX3_come_12 rfl (lv_at hl 2 rfl) ?_
    refine lv_iconst (v := 0) hx hb dX3_come_13 (by decide) ?_
    refine lv_bipush (v := 99) hx hb dX3_come_14 (by decide) ?_
    obtain ⟨q6, e7⟩ : ∃ q, fX3_within s2 0 99 = q := ⟨_, rfl⟩
    have hF := lt_n e7 hF
    try have hO := lo_n e7 hO
    refine ct_callS hM hK hP hD hS (kX3_within l D cy s2 0 99 trivial e7) kvX3_within wml_X3_41 rfl hl.1 rfl ⟨rfl, rfl, Nat.le_of_ble_eq_true rfl, Nat.le_of_ble_eq_true rfl⟩ (Nat.le_of_ble_eq_true rfl) ⟨Nat.zero_le _, Nat.zero_le _⟩ dX3_come_16 (fun H locs hP hD hS => ?_)
    refine W.eq (g2 := F0 m 19 ls [.int q6]) rfl ?_
    have hP : va_P D classes (gwFF cy a kp vN vT vI vJ w pd) H := hP
    have hD : va_D A (gwFF cy a kp vN vT vI vJ w pd) := hD
    refine lv_if_eq (tgt := 44) hx hb dX3_come_19 (by decide) (fun c8 => ?_) (fun c8 => ?_)
    · have hF := lt_t c8 hF
      have hO := lo_t c8 hO
      refine lv_bipush (v := (-2)) hx hb dX3_come_44 (by decide) ?_
      subst hF
      exact ct_iret hM hP hS dX3_come_46
    · have hF := lt_f c8 hF
      have hO := lo_f c8 hO
      refine lv_iload_n hx hb dX3_come_22 rfl (lv_at hl 3 rfl) ?_
      refine lv_iconst (v := 0) hx hb dX3_come_23 (by decide) ?_
      refine lv_sipush (v := 999) hx hb dX3_come_24 (by decide) ?_
      obtain ⟨q10, e11⟩ : ∃ q, fX3_within s3 0 999 = q := ⟨_, rfl⟩
      have hF := lt_n e11 hF
      try have hO := lo_n e11 hO
      refine ct_callS hM hK hP hD hS (kX3_within l D cy s3 0 999 trivial e11) kvX3_within wml_X3_41 rfl hl.1 rfl ⟨rfl, rfl, Nat.le_of_ble_eq_true rfl, Nat.le_of_ble_eq_true rfl⟩ (Nat.le_of_ble_eq_true rfl) ⟨Nat.zero_le _, Nat.zero_le _⟩ dX3_come_27 (fun H locs hP hD hS => ?_)
      refine W.eq (g2 := F0 m 30 ls [.int q10]) rfl ?_
      have hP : va_P D classes (gwFF cy a kp vN vT vI vJ w pd) H := hP
      have hD : va_D A (gwFF cy a kp vN vT vI vJ w pd) := hD
      refine lv_if_eq (tgt := 44) hx hb dX3_come_30 (by decide) (fun c12 => ?_) (fun c12 => ?_)
      · have hF := lt_t c12 hF
        have hO := lo_t c12 hO
        refine lv_bipush (v := (-2)) hx hb dX3_come_44 (by decide) ?_
        subst hF
        exact ct_iret hM hP hS dX3_come_46
      · have hF := lt_f c12 hF
        have hO := lo_f c12 hO
        refine lv_iload hx hb dX3_come_33 (lv_at hl 4 rfl) ?_
        refine lv_iconst (v := 1) hx hb dX3_come_35 (by decide) ?_
        refine lv_bipush (v := 9) hx hb dX3_come_36 (by decide) ?_
        obtain ⟨q14, e15⟩ : ∃ q, fX3_within s4 1 9 = q := ⟨_, rfl⟩
        have hF := lt_n e15 hF
        try have hO := lo_n e15 hO
        refine ct_callS hM hK hP hD hS (kX3_within l D cy s4 1 9 trivial e15) kvX3_within wml_X3_41 rfl hl.1 rfl ⟨rfl, rfl, Nat.le_of_ble_eq_true rfl, Nat.le_of_ble_eq_true rfl⟩ (Nat.le_of_ble_eq_true rfl) ⟨Nat.zero_le _, Nat.zero_le _⟩ dX3_come_38 (fun H locs hP hD hS => ?_)
        refine W.eq (g2 := F0 m 41 ls [.int q14]) rfl ?_
        have hP : va_P D classes (gwFF cy a kp vN vT vI vJ w pd) H := hP
        have hD : va_D A (gwFF cy a kp vN vT vI vJ w pd) := hD
        refine lv_if_ne (tgt := 47) hx hb dX3_come_41 (by decide) (fun c16 => ?_) (fun c16 => ?_)
        · have hF := lt_f c16 hF
          have hO := lo_f c16 hO
          refine lv_aload_n hx hb dX3_come_47 rfl (lv_at hl 0 rfl) ?_
          refine ct_get (C := RX3) (T := TX3) (N := 6) (ci := 3) (v := .ref (a 1 0)) hM hK hP inX3 0 rfl rfl 0 (by decide) wfl_X3_10 rfl dX3_come_48 ?_
          refine ct_get (C := RX1) (T := TX1) (N := 6) (ci := 1) (v := .ref (a 1 1)) hM hK hP inX1 3 rfl rfl 0 (by decide) wfl_X3_45 rfl dX3_come_51 ?_
          refine lv_iload_n hx hb dX3_come_54 rfl (lv_at hl 1 rfl) ?_
          refine lv_iload_n hx hb dX3_come_55 rfl (lv_at hl 2 rfl) ?_
          obtain ⟨h17, hO⟩ := hO
          refine va_iast hx hb hK hP hD hS 4 0 (f := v_mi vN) (n := 8) (cA := cy 0) rfl rfl h17 dX3_come_56 (fun H locs hP hD hS => ?_)
          have hP : va_P D classes (gwFF cy a kp (upd (v_mi vN) (Int32.toNatClampNeg s1) s2, v_mn vN, v_pa vN, v_ca vN, v_se vN, v_cm vN) vT vI vJ w pd) H := hP
          have hD : va_D A (gwFF cy a kp (upd (v_mi vN) (Int32.toNatClampNeg s1) s2, v_mn vN, v_pa vN, v_ca vN, v_se vN, v_cm vN) vT vI vJ w pd) := hD
          refine lv_aload_n hx hb dX3_come_57 rfl (lv_at hl 0 rfl) ?_
          refine ct_get (C := RX3) (T := TX3) (N := 6) (ci := 3) (v := .ref (a 1 0)) hM hK hP inX3 0 rfl rfl 0 (by decide) wfl_X3_10 rfl dX3_come_58 ?_
          refine ct_get (C := RX1) (T := TX1) (N := 6) (ci := 1) (v := .ref (a 1 2)) hM hK hP inX1 3 rfl rfl 1 (by decide) wfl_X3_49 rfl dX3_come_61 ?_
          refine lv_iload_n hx hb dX3_come_64 rfl (lv_at hl 1 rfl) ?_
          refine lv_iload_n hx hb dX3_come_65 rfl (lv_at hl 3 rfl) ?_
          refine va_iast hx hb hK hP hD hS 5 0 (f := v_mn vN) (n := 8) (cA := cy 0) rfl rfl h17 dX3_come_66 (fun H locs hP hD hS => ?_)
          have hP : va_P D classes (gwFF cy a kp (upd (v_mi vN) (Int32.toNatClampNeg s1) s2, upd (v_mn vN) (Int32.toNatClampNeg s1) s3, v_pa vN, v_ca vN, v_se vN, v_cm vN) vT vI vJ w pd) H := hP
          have hD : va_D A (gwFF cy a kp (upd (v_mi vN) (Int32.toNatClampNeg s1) s2, upd (v_mn vN) (Int32.toNatClampNeg s1) s3, v_pa vN, v_ca vN, v_se vN, v_cm vN) vT vI vJ w pd) := hD
          refine lv_aload_n hx hb dX3_come_67 rfl (lv_at hl 0 rfl) ?_
          refine ct_get (C := RX3) (T := TX3) (N := 6) (ci := 3) (v := .ref (a 1 0)) hM hK hP inX3 0 rfl rfl 0 (by decide) wfl_X3_10 rfl dX3_come_68 ?_
          refine ct_get (C := RX1) (T := TX1) (N := 6) (ci := 1) (v := .ref (a 1 3)) hM hK hP inX1 3 rfl rfl 2 (by decide) wfl_X3_52 rfl dX3_come_71 ?_
          refine lv_iload_n hx hb dX3_come_74 rfl (lv_at hl 1 rfl) ?_
          refine lv_iload hx hb dX3_come_75 (lv_at hl 4 rfl) ?_
          refine va_iast hx hb hK hP hD hS 6 0 (f := v_pa vN) (n := 8) (cA := cy 0) rfl rfl h17 dX3_come_77 (fun H locs hP hD hS => ?_)
          have hP : va_P D classes (gwFF cy a kp (upd (v_mi vN) (Int32.toNatClampNeg s1) s2, upd (v_mn vN) (Int32.toNatClampNeg s1) s3, upd (v_pa vN) (Int32.toNatClampNeg s1) s4, v_ca vN, v_se vN, v_cm vN) vT vI vJ w pd) H := hP
          have hD : va_D A (gwFF cy a kp (upd (v_mi vN) (Int32.toNatClampNeg s1) s2, upd (v_mn vN) (Int32.toNatClampNeg s1) s3, upd (v_pa vN) (Int32.toNatClampNeg s1) s4, v_ca vN, v_se vN, v_cm vN) vT vI vJ w pd) := hD
          refine lv_aload_n hx hb dX3_come_78 rfl (lv_at hl 0 rfl) ?_
          refine ct_get (C := RX3) (T := TX3) (N := 6) (ci := 3) (v := .ref (a 1 0)) hM hK hP inX3 0 rfl rfl 0 (by decide) wfl_X3_10 rfl dX3_come_79 ?_
          refine ct_get (C := RX1) (T := TX1) (N := 6) (ci := 1) (v := .ref (a 1 4)) hM hK hP inX1 3 rfl rfl 3 (by decide) wfl_X3_55 rfl dX3_come_82 ?_
          refine lv_iload_n hx hb dX3_come_85 rfl (lv_at hl 1 rfl) ?_
          refine lv_iload hx hb dX3_come_86 (lv_at hl 5 rfl) ?_
          refine va_zast hx hb hK hP hD hS 7 1 (f := v_ca vN) (n := 8) (cA := cy 1) rfl rfl h17 dX3_come_88 (fun H locs hP hD hS => ?_)
          have hP : va_P D classes (gwFF cy a kp (upd (v_mi vN) (Int32.toNatClampNeg s1) s2, upd (v_mn vN) (Int32.toNatClampNeg s1) s3, upd (v_pa vN) (Int32.toNatClampNeg s1) s4, upd (v_ca vN) (Int32.toNatClampNeg s1) (vp_nar .boolean s5), v_se vN, v_cm vN) vT vI vJ w pd) H := hP
          have hD : va_D A (gwFF cy a kp (upd (v_mi vN) (Int32.toNatClampNeg s1) s2, upd (v_mn vN) (Int32.toNatClampNeg s1) s3, upd (v_pa vN) (Int32.toNatClampNeg s1) s4, upd (v_ca vN) (Int32.toNatClampNeg s1) (vp_nar .boolean s5), v_se vN, v_cm vN) vT vI vJ w pd) := hD
          refine lv_aload_n hx hb dX3_come_89 rfl (lv_at hl 0 rfl) ?_
          refine ct_get (C := RX3) (T := TX3) (N := 6) (ci := 3) (v := .ref (a 1 0)) hM hK hP inX3 0 rfl rfl 0 (by decide) wfl_X3_10 rfl dX3_come_90 ?_
          refine lv_dup hx hb dX3_come_93 rfl ?_
          refine ct_get (C := RX1) (T := TX1) (N := 6) (ci := 1) (v := .int (v_cm vN)) hM hK hP inX1 3 rfl rfl 4 (by decide) wfl_X3_58 rfl dX3_come_94 ?_
          refine lv_iconst (v := 1) hx hb dX3_come_97 (by decide) ?_
          refine lv_iload_n hx hb dX3_come_98 rfl (lv_at hl 1 rfl) ?_
          refine lv_ishl hx hb dX3_come_99 ?_
          refine lv_ior hx hb dX3_come_100 ?_
          refine lv_topi (fun x18 e19 => ?_)
          have hF := lt_n e19.symm hF
          try have hO := lo_n e19.symm hO
          refine ct_put1 (C := RX1) (T := TX1) (N := 6) (ci := 1) (v := .int x18) hM hK hP hD hS inX1 tyX1 tyX1_ok nmX1 3 rfl rfl 4 (by decide) wfl_X3_58 rfl (by first | rfl | decide) (by first | rfl | decide) (Nat.le_of_ble_eq_true rfl) dX3_come_101 (fun H locs hP hD hS => ?_)
          have hP : va_P D classes (gwFF cy a kp (upd (v_mi vN) (Int32.toNatClampNeg s1) s2, upd (v_mn vN) (Int32.toNatClampNeg s1) s3, upd (v_pa vN) (Int32.toNatClampNeg s1) s4, upd (v_ca vN) (Int32.toNatClampNeg s1) (vp_nar .boolean s5), v_se vN, x18) vT vI vJ w pd) H := hP
          have hD : va_D A (gwFF cy a kp (upd (v_mi vN) (Int32.toNatClampNeg s1) s2, upd (v_mn vN) (Int32.toNatClampNeg s1) s3, upd (v_pa vN) (Int32.toNatClampNeg s1) s4, upd (v_ca vN) (Int32.toNatClampNeg s1) (vp_nar .boolean s5), v_se vN, x18) vT vI vJ w pd) := hD
          refine lv_aload_n hx hb dX3_come_104 rfl (lv_at hl 0 rfl) ?_
          refine ct_get (C := RX3) (T := TX3) (N := 6) (ci := 3) (v := .ref (a 1 0)) hM hK hP inX3 0 rfl rfl 0 (by decide) wfl_X3_10 rfl dX3_come_105 ?_
          refine ct_get (C := RX1) (T := TX1) (N := 6) (ci := 1) (v := .int x18) hM hK hP inX1 3 rfl rfl 4 (by decide) wfl_X3_58 rfl dX3_come_108 ?_
          obtain ⟨q21, e22⟩ : ∃ q, fJ6_bitCount_0f7a4 x18 = q := ⟨_, rfl⟩
          have hF := lt_n e22 hF
          try have hO := lo_n e22 hO
          refine ct_callS hM hK hP hD hS (kJ6_bitCount_0f7a4 l D cy x18 trivial e22) kvJ6_bitCount_0f7a4 wml_X3_62 rfl hl.1 rfl ⟨rfl, rfl, Nat.le_of_ble_eq_true rfl, Nat.le_of_ble_eq_true rfl⟩ (Nat.le_of_ble_eq_true rfl) ⟨Nat.zero_le _, Nat.zero_le _⟩ dX3_come_111 (fun H locs hP hD hS => ?_)
          refine W.eq (g2 := F0 m 114 ls [.int q21]) rfl ?_
          have hP : va_P D classes (gwFF cy a kp (upd (v_mi vN) (Int32.toNatClampNeg s1) s2, upd (v_mn vN) (Int32.toNatClampNeg s1) s3, upd (v_pa vN) (Int32.toNatClampNeg s1) s4, upd (v_ca vN) (Int32.toNatClampNeg s1) (vp_nar .boolean s5), v_se vN, x18) vT vI vJ w pd) H := hP
          have hD : va_D A (gwFF cy a kp (upd (v_mi vN) (Int32.toNatClampNeg s1) s2, upd (v_mn vN) (Int32.toNatClampNeg s1) s3, upd (v_pa vN) (Int32.toNatClampNeg s1) s4, upd (v_ca vN) (Int32.toNatClampNeg s1) (vp_nar .boolean s5), v_se vN, x18) vT vI vJ w pd) := hD
          subst hF
          exact ct_iret hM hP hS dX3_come_114
        · have hF := lt_t c16 hF
          have hO := lo_t c16 hO
          refine lv_bipush (v := (-2)) hx hb dX3_come_44 (by decide) ?_
          subst hF
          exact ct_iret hM hP hS dX3_come_46
  · have hF := lt_t c4 hF
    have hO := lo_t c4 hO
    refine lv_iconst (v := (-1)) hx hb dX3_come_10 (by decide) ?_
    subst hF
    exact ct_iret hM hP hS dX3_come_11

abbrev rX3_stays : Room := { frames := 1, cells := 0, slots := 0, locals := 21 }
def fX3_stays (vN : tVl) (s1 : Int32) : Int32 × tVl := lt_ (fX1_comes vN s1) fun q2 => if q2 = 0 then ((-1), vN) else (lt_ (v_cm vN &&& ((1 <<< (s1 &&& 31)) ^^^ (-1))) fun x5 => lt_ (fJ6_bitCount_0f7a4 x5) fun q8 => (q8, (v_mi vN, v_mn vN, v_pa vN, v_ca vN, v_se vN, x5)))
def oX3_stays (vN : tVl) (s1 : Int32) : Prop := True
theorem kvX3_stays : KV yX3_stays cX3_stays 2 (some .int) 1 := ⟨wcd_X3_stays, wim_X3_stays, wsl_X3_stays, win_X3, by decide +kernel, by decide +kernel, by decide +kernel⟩
set_option maxHeartbeats 4000000 in
set_option maxRecDepth 100000 in
theorem kX3_stays (l : Launch) (D : va_G) (cy : Nat → ClassId) (a : Nat → Nat → Nat) (kp : tAr) (vN : tVl) (vT : tVl) (vI : tVl) (vJ : tVl) (w : tWl) (pd : tPd) (s1 : Int32) {R : Int32 × tVl} (hO : oX3_stays vN s1) (hF : fX3_stays vN s1 = R) : CT l D cy yX3_stays cX3_stays 2 (some .int) rX3_stays [.ref (a 0 0), .int s1] (gwFF cy a kp vN vT vI vJ w pd) (some (.int R.1)) (gwFF cy a kp R.2 vT vI vJ w pd) := by
  refine ct_of (by decide) (Nat.le_of_ble_eq_true rfl) ?_
  intro p e s m args below meth c A ls hM hK hP hD hS hl
  obtain ⟨hx, hb, -, hml, hown, hts, -⟩ := id hM
  have hl : lv_has ls 2 [(0, .ref (a 0 0)), (1, .int s1)] := hl
  obtain ⟨H, hH⟩ : ∃ H : Heap, H = s.heap := ⟨_, rfl⟩
  obtain ⟨locs, hlocs⟩ : ∃ q : List Loc, q = [] := ⟨_, rfl⟩
  have hP : va_P D classes (gwFF cy a kp vN vT vI vJ w pd) H := by rw [hH]; exact hP
  have hS : va_S A s.heap H locs := by rw [hH, hlocs]; exact hS
  suffices hg : W p l e rX3_stays s m args below meth c H locs 0 0 (MQ below (ctQ D (some (.int R.1)) (gwFF cy a kp R.2 vT vI vJ w pd) A) args s 0 0 A) (F0 m 0 ls []) by rw [hH, hlocs] at hg; exact hg
  clear hH hlocs
  unfold fX3_stays at hF
  unfold oX3_stays at hO
  refine lv_aload_n hx hb dX3_stays_0 rfl (lv_at hl 0 rfl) ?_
  refine ct_get (C := RX3) (T := TX3) (N := 6) (ci := 3) (v := .ref (a 1 0)) hM hK hP inX3 0 rfl rfl 0 (by decide) wfl_X3_10 rfl dX3_stays_1 ?_
  refine lv_iload_n hx hb dX3_stays_4 rfl (lv_at hl 1 rfl) ?_
  obtain ⟨q2, e3⟩ : ∃ q, fX1_comes vN s1 = q := ⟨_, rfl⟩
  have hF := lt_n e3 hF
  try have hO := lo_n e3 hO
  refine ct_callV (ws' := gwFF cy a kp vN vT vI vJ w pd) hM hK hP hD hS (kX1_comes l D cy (a 1) vN s1 trivial e3) kvX1_comes wml_X3_68 [3, 4, 5, 6, 7, 8] rfl (by decide) rfl rfl rfl 3 rfl rfl rfl rfl hl.1 rfl ⟨rfl, rfl, Nat.le_of_ble_eq_true rfl, Nat.le_of_ble_eq_true rfl⟩ (Nat.le_of_ble_eq_true rfl) ⟨Nat.zero_le _, Nat.zero_le _⟩ dX3_stays_5 (fun H locs hP hD hS => ?_)
  refine W.eq (g2 := F0 m 8 ls [.int q2]) rfl ?_
  refine lv_if_ne (tgt := 13) hx hb dX3_stays_8 (by decide) (fun c4 => ?_) (fun c4 => ?_)
  · have hF := lt_f c4 hF
    refine lv_aload_n hx hb dX3_stays_13 rfl (lv_at hl 0 rfl) ?_
    refine ct_get (C := RX3) (T := TX3) (N := 6) (ci := 3) (v := .ref (a 1 0)) hM hK hP inX3 0 rfl rfl 0 (by decide) wfl_X3_10 rfl dX3_stays_14 ?_
    refine lv_dup hx hb dX3_stays_17 rfl ?_
    refine ct_get (C := RX1) (T := TX1) (N := 6) (ci := 1) (v := .int (v_cm vN)) hM hK hP inX1 3 rfl rfl 4 (by decide) wfl_X3_58 rfl dX3_stays_18 ?_
    refine lv_iconst (v := 1) hx hb dX3_stays_21 (by decide) ?_
    refine lv_iload_n hx hb dX3_stays_22 rfl (lv_at hl 1 rfl) ?_
    refine lv_ishl hx hb dX3_stays_23 ?_
    refine lv_iconst (v := (-1)) hx hb dX3_stays_24 (by decide) ?_
    refine lv_ixor hx hb dX3_stays_25 ?_
    refine lv_iand hx hb dX3_stays_26 ?_
    refine lv_topi (fun x5 e6 => ?_)
    have hF := lt_n e6.symm hF
    try have hO := lo_n e6.symm hO
    refine ct_put1 (C := RX1) (T := TX1) (N := 6) (ci := 1) (v := .int x5) hM hK hP hD hS inX1 tyX1 tyX1_ok nmX1 3 rfl rfl 4 (by decide) wfl_X3_58 rfl (by first | rfl | decide) (by first | rfl | decide) (Nat.le_of_ble_eq_true rfl) dX3_stays_27 (fun H locs hP hD hS => ?_)
    have hP : va_P D classes (gwFF cy a kp (v_mi vN, v_mn vN, v_pa vN, v_ca vN, v_se vN, x5) vT vI vJ w pd) H := hP
    have hD : va_D A (gwFF cy a kp (v_mi vN, v_mn vN, v_pa vN, v_ca vN, v_se vN, x5) vT vI vJ w pd) := hD
    refine lv_aload_n hx hb dX3_stays_30 rfl (lv_at hl 0 rfl) ?_
    refine ct_get (C := RX3) (T := TX3) (N := 6) (ci := 3) (v := .ref (a 1 0)) hM hK hP inX3 0 rfl rfl 0 (by decide) wfl_X3_10 rfl dX3_stays_31 ?_
    refine ct_get (C := RX1) (T := TX1) (N := 6) (ci := 1) (v := .int x5) hM hK hP inX1 3 rfl rfl 4 (by decide) wfl_X3_58 rfl dX3_stays_34 ?_
    obtain ⟨q8, e9⟩ : ∃ q, fJ6_bitCount_0f7a4 x5 = q := ⟨_, rfl⟩
    have hF := lt_n e9 hF
    try have hO := lo_n e9 hO
    refine ct_callS hM hK hP hD hS (kJ6_bitCount_0f7a4 l D cy x5 trivial e9) kvJ6_bitCount_0f7a4 wml_X3_62 rfl hl.1 rfl ⟨rfl, rfl, Nat.le_of_ble_eq_true rfl, Nat.le_of_ble_eq_true rfl⟩ (Nat.le_of_ble_eq_true rfl) ⟨Nat.zero_le _, Nat.zero_le _⟩ dX3_stays_37 (fun H locs hP hD hS => ?_)
    refine W.eq (g2 := F0 m 40 ls [.int q8]) rfl ?_
    have hP : va_P D classes (gwFF cy a kp (v_mi vN, v_mn vN, v_pa vN, v_ca vN, v_se vN, x5) vT vI vJ w pd) H := hP
    have hD : va_D A (gwFF cy a kp (v_mi vN, v_mn vN, v_pa vN, v_ca vN, v_se vN, x5) vT vI vJ w pd) := hD
    subst hF
    exact ct_iret hM hP hS dX3_stays_40
  · have hF := lt_t c4 hF
    refine lv_iconst (v := (-1)) hx hb dX3_stays_11 (by decide) ?_
    subst hF
    exact ct_iret hM hP hS dX3_stays_12

abbrev rX3_person : Room := { frames := 1, cells := 0, slots := 0, locals := 21 }
def fX3_person (vN : tVl) (s1 : Int32) (s2 : Int32) : Int32 := lt_ (fX1_comes vN s1) fun q2 => if q2 = 0 then (-1) else (if s2 = 0 then ((v_mi vN) (Int32.toNatClampNeg s1)) else (if s2 = 1 then ((v_mn vN) (Int32.toNatClampNeg s1)) else (if s2 = 2 then ((v_pa vN) (Int32.toNatClampNeg s1)) else (if s2 = 3 then (if (v_ca vN) (Int32.toNatClampNeg s1) = 0 then 0 else 1) else (-2)))))
def oX3_person (vN : tVl) (s1 : Int32) (s2 : Int32) : Prop := lo_ (fX1_comes vN s1) fun q2 => if q2 = 0 then True else (if s2 = 0 then (vp_in s1 8 ∧ True) else (if s2 = 1 then (vp_in s1 8 ∧ True) else (if s2 = 2 then (vp_in s1 8 ∧ True) else (if s2 = 3 then (vp_in s1 8 ∧ True) else True))))
theorem kvX3_person : KV yX3_person cX3_person 3 (some .int) 2 := ⟨wcd_X3_person, wim_X3_person, wsl_X3_person, win_X3, by decide +kernel, by decide +kernel, by decide +kernel⟩
set_option maxHeartbeats 4000000 in
set_option maxRecDepth 100000 in
theorem kX3_person (l : Launch) (D : va_G) (cy : Nat → ClassId) (a : Nat → Nat → Nat) (kp : tAr) (vN : tVl) (vT : tVl) (vI : tVl) (vJ : tVl) (w : tWl) (pd : tPd) (s1 : Int32) (s2 : Int32) {R : Int32} (hO : oX3_person vN s1 s2) (hF : fX3_person vN s1 s2 = R) : CT l D cy yX3_person cX3_person 3 (some .int) rX3_person [.ref (a 0 0), .int s1, .int s2] (gwFF cy a kp vN vT vI vJ w pd) (some (.int R)) (gwFF cy a kp vN vT vI vJ w pd) := by
  refine ct_of (by decide) (Nat.le_of_ble_eq_true rfl) ?_
  intro p e s m args below meth c A ls hM hK hP hD hS hl
  obtain ⟨hx, hb, -, hml, hown, hts, -⟩ := id hM
  have hl : lv_has ls 3 [(0, .ref (a 0 0)), (1, .int s1), (2, .int s2)] := hl
  obtain ⟨H, hH⟩ : ∃ H : Heap, H = s.heap := ⟨_, rfl⟩
  obtain ⟨locs, hlocs⟩ : ∃ q : List Loc, q = [] := ⟨_, rfl⟩
  have hP : va_P D classes (gwFF cy a kp vN vT vI vJ w pd) H := by rw [hH]; exact hP
  have hS : va_S A s.heap H locs := by rw [hH, hlocs]; exact hS
  suffices hg : W p l e rX3_person s m args below meth c H locs 0 0 (MQ below (ctQ D (some (.int R)) (gwFF cy a kp vN vT vI vJ w pd) A) args s 0 0 A) (F0 m 0 ls []) by rw [hH, hlocs] at hg; exact hg
  clear hH hlocs
  unfold fX3_person at hF
  unfold oX3_person at hO
  refine lv_aload_n hx hb dX3_person_0 rfl (lv_at hl 0 rfl) ?_
  refine ct_get (C := RX3) (T := TX3) (N := 6) (ci := 3) (v := .ref (a 1 0)) hM hK hP inX3 0 rfl rfl 0 (by decide) wfl_X3_10 rfl dX3_person_1 ?_
  refine lv_iload_n hx hb dX3_person_4 rfl (lv_at hl 1 rfl) ?_
  obtain ⟨q2, e3⟩ : ∃ q, fX1_comes vN s1 = q := ⟨_, rfl⟩
  have hF := lt_n e3 hF
  try have hO := lo_n e3 hO
  refine ct_callV (ws' := gwFF cy a kp vN vT vI vJ w pd) hM hK hP hD hS (kX1_comes l D cy (a 1) vN s1 trivial e3) kvX1_comes wml_X3_68 [3, 4, 5, 6, 7, 8] rfl (by decide) rfl rfl rfl 3 rfl rfl rfl rfl hl.1 rfl ⟨rfl, rfl, Nat.le_of_ble_eq_true rfl, Nat.le_of_ble_eq_true rfl⟩ (Nat.le_of_ble_eq_true rfl) ⟨Nat.zero_le _, Nat.zero_le _⟩ dX3_person_5 (fun H locs hP hD hS => ?_)
  refine W.eq (g2 := F0 m 8 ls [.int q2]) rfl ?_
  refine lv_if_ne (tgt := 13) hx hb dX3_person_8 (by decide) (fun c4 => ?_) (fun c4 => ?_)
  · have hF := lt_f c4 hF
    have hO := lo_f c4 hO
    refine lv_iload_n hx hb dX3_person_13 rfl (lv_at hl 2 rfl) ?_
    by_cases c5 : s2 = 0
    · have hF := lt_t c5 hF
      have hO := lo_t c5 hO
      refine lv_tableIn (off := 30) (tgt := 44) hx hb dX3_person_14 (by rw [c5]; decide) (by rw [c5]; decide) (by rw [c5]; rfl) (by decide) ?_
      refine lv_aload_n hx hb dX3_person_44 rfl (lv_at hl 0 rfl) ?_
      refine ct_get (C := RX3) (T := TX3) (N := 6) (ci := 3) (v := .ref (a 1 0)) hM hK hP inX3 0 rfl rfl 0 (by decide) wfl_X3_10 rfl dX3_person_45 ?_
      refine ct_get (C := RX1) (T := TX1) (N := 6) (ci := 1) (v := .ref (a 1 1)) hM hK hP inX1 3 rfl rfl 0 (by decide) wfl_X3_45 rfl dX3_person_48 ?_
      refine lv_iload_n hx hb dX3_person_51 rfl (lv_at hl 1 rfl) ?_
      obtain ⟨h6, hO⟩ := hO
      refine va_iald hx hb hK hP 4 0 (f := v_mi vN) (n := 8) (cA := cy 0) rfl rfl h6 dX3_person_52 ?_
      subst hF
      exact ct_iret hM hP hS dX3_person_53
    · have hF := lt_f c5 hF
      have hO := lo_f c5 hO
      by_cases c7 : s2 = 1
      · have hF := lt_t c7 hF
        have hO := lo_t c7 hO
        refine lv_tableIn (off := 40) (tgt := 54) hx hb dX3_person_14 (by rw [c7]; decide) (by rw [c7]; decide) (by rw [c7]; rfl) (by decide) ?_
        refine lv_aload_n hx hb dX3_person_54 rfl (lv_at hl 0 rfl) ?_
        refine ct_get (C := RX3) (T := TX3) (N := 6) (ci := 3) (v := .ref (a 1 0)) hM hK hP inX3 0 rfl rfl 0 (by decide) wfl_X3_10 rfl dX3_person_55 ?_
        refine ct_get (C := RX1) (T := TX1) (N := 6) (ci := 1) (v := .ref (a 1 2)) hM hK hP inX1 3 rfl rfl 1 (by decide) wfl_X3_49 rfl dX3_person_58 ?_
        refine lv_iload_n hx hb dX3_person_61 rfl (lv_at hl 1 rfl) ?_
        obtain ⟨h8, hO⟩ := hO
        refine va_iald hx hb hK hP 5 0 (f := v_mn vN) (n := 8) (cA := cy 0) rfl rfl h8 dX3_person_62 ?_
        subst hF
        exact ct_iret hM hP hS dX3_person_63
      · have hF := lt_f c7 hF
        have hO := lo_f c7 hO
        by_cases c9 : s2 = 2
        · have hF := lt_t c9 hF
          have hO := lo_t c9 hO
          refine lv_tableIn (off := 50) (tgt := 64) hx hb dX3_person_14 (by rw [c9]; decide) (by rw [c9]; decide) (by rw [c9]; rfl) (by decide) ?_
          refine lv_aload_n hx hb dX3_person_64 rfl (lv_at hl 0 rfl) ?_
          refine ct_get (C := RX3) (T := TX3) (N := 6) (ci := 3) (v := .ref (a 1 0)) hM hK hP inX3 0 rfl rfl 0 (by decide) wfl_X3_10 rfl dX3_person_65 ?_
          refine ct_get (C := RX1) (T := TX1) (N := 6) (ci := 1) (v := .ref (a 1 3)) hM hK hP inX1 3 rfl rfl 2 (by decide) wfl_X3_52 rfl dX3_person_68 ?_
          refine lv_iload_n hx hb dX3_person_71 rfl (lv_at hl 1 rfl) ?_
          obtain ⟨h10, hO⟩ := hO
          refine va_iald hx hb hK hP 6 0 (f := v_pa vN) (n := 8) (cA := cy 0) rfl rfl h10 dX3_person_72 ?_
          subst hF
          exact ct_iret hM hP hS dX3_person_73
        · have hF := lt_f c9 hF
          have hO := lo_f c9 hO
          by_cases c11 : s2 = 3
          · have hF := lt_t c11 hF
            have hO := lo_t c11 hO
            refine lv_tableIn (off := 60) (tgt := 74) hx hb dX3_person_14 (by rw [c11]; decide) (by rw [c11]; decide) (by rw [c11]; rfl) (by decide) ?_
            refine lv_aload_n hx hb dX3_person_74 rfl (lv_at hl 0 rfl) ?_
            refine ct_get (C := RX3) (T := TX3) (N := 6) (ci := 3) (v := .ref (a 1 0)) hM hK hP inX3 0 rfl rfl 0 (by decide) wfl_X3_10 rfl dX3_person_75 ?_
            refine ct_get (C := RX1) (T := TX1) (N := 6) (ci := 1) (v := .ref (a 1 4)) hM hK hP inX1 3 rfl rfl 3 (by decide) wfl_X3_55 rfl dX3_person_78 ?_
            refine lv_iload_n hx hb dX3_person_81 rfl (lv_at hl 1 rfl) ?_
            obtain ⟨h12, hO⟩ := hO
            refine va_zald hx hb hK hP 7 1 (f := v_ca vN) (n := 8) (cA := cy 1) rfl rfl h12 dX3_person_82 ?_
            refine lv_if_eq (tgt := 90) hx hb dX3_person_83 (by decide) (fun c13 => ?_) (fun c13 => ?_)
            · have hF := lt_t c13 hF
              refine lv_iconst (v := 0) hx hb dX3_person_90 (by decide) ?_
              subst hF
              exact ct_iret hM hP hS dX3_person_91
            · have hF := lt_f c13 hF
              refine lv_iconst (v := 1) hx hb dX3_person_86 (by decide) ?_
              refine lv_goto (tgt := 91) hx hb dX3_person_87 (by decide) ?_
              subst hF
              exact ct_iret hM hP hS dX3_person_91
          · have hF := lt_f c11 hF
            have hO := lo_f c11 hO
            refine lv_tableOut (tgt := 92) hx hb dX3_person_14 (by have z0 := lv_neT c5 (a := 0) rfl; have z1 := lv_neT c7 (a := 1) rfl; have z2 := lv_neT c9 (a := 2) rfl; have z3 := lv_neT c11 (a := 3) rfl; omega) (by decide) ?_
            refine lv_bipush (v := (-2)) hx hb dX3_person_92 (by decide) ?_
            subst hF
            exact ct_iret hM hP hS dX3_person_94
  · have hF := lt_t c4 hF
    have hO := lo_t c4 hO
    refine lv_iconst (v := (-1)) hx hb dX3_person_11 (by decide) ?_
    subst hF
    exact ct_iret hM hP hS dX3_person_12

abbrev rX3_set : Room := { frames := 1, cells := 0, slots := 0, locals := 22 }
def fX3_set (vN : tVl) (s1 : Int32) (s2 : Int32) : Int32 × tVl := lt_ (fX3_within s1 0 3) fun q2 => if q2 = 0 then ((-2), vN) else (lt_ (fX3_leastOf s1) fun q6 => lt_ (fX3_mostOf s1) fun q9 => lt_ (fX3_within s2 q6 q9) fun q12 => if q12 = 0 then ((-2), vN) else (lt_ (fX1_setting vN s1) fun q16 => lt_ (fX1_change vN s1 s2) fun q19 => (q16, q19)))
def oX3_set (vN : tVl) (s1 : Int32) (s2 : Int32) : Prop := lo_ (fX3_within s1 0 3) fun q2 => if q2 = 0 then True else (lo_ (fX3_leastOf s1) fun q6 => lo_ (fX3_mostOf s1) fun q9 => lo_ (fX3_within s2 q6 q9) fun q12 => if q12 = 0 then True else (oX1_setting vN s1 ∧ (lo_ (fX1_setting vN s1) fun q16 => oX1_change vN s1 s2 ∧ True)))
theorem kvX3_set : KV yX3_set cX3_set 4 (some .int) 2 := ⟨wcd_X3_set, wim_X3_set, wsl_X3_set, win_X3, by decide +kernel, by decide +kernel, by decide +kernel⟩
set_option maxHeartbeats 4000000 in
set_option maxRecDepth 100000 in
theorem kX3_set (l : Launch) (D : va_G) (cy : Nat → ClassId) (a : Nat → Nat → Nat) (kp : tAr) (vN : tVl) (vT : tVl) (vI : tVl) (vJ : tVl) (w : tWl) (pd : tPd) (s1 : Int32) (s2 : Int32) {R : Int32 × tVl} (hO : oX3_set vN s1 s2) (hF : fX3_set vN s1 s2 = R) : CT l D cy yX3_set cX3_set 4 (some .int) rX3_set [.ref (a 0 0), .int s1, .int s2] (gwFF cy a kp vN vT vI vJ w pd) (some (.int R.1)) (gwFF cy a kp R.2 vT vI vJ w pd) := by
  refine ct_of (by decide) (Nat.le_of_ble_eq_true rfl) ?_
  intro p e s m args below meth c A ls hM hK hP hD hS hl
  obtain ⟨hx, hb, -, hml, hown, hts, -⟩ := id hM
  have hl : lv_has ls 4 [(0, .ref (a 0 0)), (1, .int s1), (2, .int s2)] := hl
  obtain ⟨H, hH⟩ : ∃ H : Heap, H = s.heap := ⟨_, rfl⟩
  obtain ⟨locs, hlocs⟩ : ∃ q : List Loc, q = [] := ⟨_, rfl⟩
  have hP : va_P D classes (gwFF cy a kp vN vT vI vJ w pd) H := by rw [hH]; exact hP
  have hS : va_S A s.heap H locs := by rw [hH, hlocs]; exact hS
  suffices hg : W p l e rX3_set s m args below meth c H locs 0 0 (MQ below (ctQ D (some (.int R.1)) (gwFF cy a kp R.2 vT vI vJ w pd) A) args s 0 0 A) (F0 m 0 ls []) by rw [hH, hlocs] at hg; exact hg
  clear hH hlocs
  unfold fX3_set at hF
  unfold oX3_set at hO
  refine lv_iload_n hx hb dX3_set_0 rfl (lv_at hl 1 rfl) ?_
  refine lv_iconst (v := 0) hx hb dX3_set_1 (by decide) ?_
  refine lv_iconst (v := 3) hx hb dX3_set_2 (by decide) ?_
  obtain ⟨q2, e3⟩ : ∃ q, fX3_within s1 0 3 = q := ⟨_, rfl⟩
  have hF := lt_n e3 hF
  try have hO := lo_n e3 hO
  refine ct_callS hM hK hP hD hS (kX3_within l D cy s1 0 3 trivial e3) kvX3_within wml_X3_41 rfl hl.1 rfl ⟨rfl, rfl, Nat.le_of_ble_eq_true rfl, Nat.le_of_ble_eq_true rfl⟩ (Nat.le_of_ble_eq_true rfl) ⟨Nat.zero_le _, Nat.zero_le _⟩ dX3_set_3 (fun H locs hP hD hS => ?_)
  refine W.eq (g2 := F0 m 6 ls [.int q2]) rfl ?_
  have hP : va_P D classes (gwFF cy a kp vN vT vI vJ w pd) H := hP
  have hD : va_D A (gwFF cy a kp vN vT vI vJ w pd) := hD
  refine lv_if_eq (tgt := 24) hx hb dX3_set_6 (by decide) (fun c4 => ?_) (fun c4 => ?_)
  · have hF := lt_t c4 hF
    have hO := lo_t c4 hO
    refine lv_bipush (v := (-2)) hx hb dX3_set_24 (by decide) ?_
    subst hF
    exact ct_iret hM hP hS dX3_set_26
  · have hF := lt_f c4 hF
    have hO := lo_f c4 hO
    refine lv_iload_n hx hb dX3_set_9 rfl (lv_at hl 2 rfl) ?_
    refine lv_iload_n hx hb dX3_set_10 rfl (lv_at hl 1 rfl) ?_
    obtain ⟨q6, e7⟩ : ∃ q, fX3_leastOf s1 = q := ⟨_, rfl⟩
    have hF := lt_n e7 hF
    try have hO := lo_n e7 hO
    refine ct_callS hM hK hP hD hS (kX3_leastOf l D cy s1 trivial e7) kvX3_leastOf wml_X3_72 rfl hl.1 rfl ⟨rfl, rfl, Nat.le_of_ble_eq_true rfl, Nat.le_of_ble_eq_true rfl⟩ (Nat.le_of_ble_eq_true rfl) ⟨Nat.zero_le _, Nat.zero_le _⟩ dX3_set_11 (fun H locs hP hD hS => ?_)
    refine W.eq (g2 := F0 m 14 ls [.int q6, .int s2]) rfl ?_
    have hP : va_P D classes (gwFF cy a kp vN vT vI vJ w pd) H := hP
    have hD : va_D A (gwFF cy a kp vN vT vI vJ w pd) := hD
    refine lv_iload_n hx hb dX3_set_14 rfl (lv_at hl 1 rfl) ?_
    obtain ⟨q9, e10⟩ : ∃ q, fX3_mostOf s1 = q := ⟨_, rfl⟩
    have hF := lt_n e10 hF
    try have hO := lo_n e10 hO
    refine ct_callS hM hK hP hD hS (kX3_mostOf l D cy s1 trivial e10) kvX3_mostOf wml_X3_75 rfl hl.1 rfl ⟨rfl, rfl, Nat.le_of_ble_eq_true rfl, Nat.le_of_ble_eq_true rfl⟩ (Nat.le_of_ble_eq_true rfl) ⟨Nat.zero_le _, Nat.zero_le _⟩ dX3_set_15 (fun H locs hP hD hS => ?_)
    refine W.eq (g2 := F0 m 18 ls [.int q9, .int q6, .int s2]) rfl ?_
    have hP : va_P D classes (gwFF cy a kp vN vT vI vJ w pd) H := hP
    have hD : va_D A (gwFF cy a kp vN vT vI vJ w pd) := hD
    obtain ⟨q12, e13⟩ : ∃ q, fX3_within s2 q6 q9 = q := ⟨_, rfl⟩
    have hF := lt_n e13 hF
    try have hO := lo_n e13 hO
    refine ct_callS hM hK hP hD hS (kX3_within l D cy s2 q6 q9 trivial e13) kvX3_within wml_X3_41 rfl hl.1 rfl ⟨rfl, rfl, Nat.le_of_ble_eq_true rfl, Nat.le_of_ble_eq_true rfl⟩ (Nat.le_of_ble_eq_true rfl) ⟨Nat.zero_le _, Nat.zero_le _⟩ dX3_set_18 (fun H locs hP hD hS => ?_)
    refine W.eq (g2 := F0 m 21 ls [.int q12]) rfl ?_
    have hP : va_P D classes (gwFF cy a kp vN vT vI vJ w pd) H := hP
    have hD : va_D A (gwFF cy a kp vN vT vI vJ w pd) := hD
    refine lv_if_ne (tgt := 27) hx hb dX3_set_21 (by decide) (fun c14 => ?_) (fun c14 => ?_)
    · have hF := lt_f c14 hF
      have hO := lo_f c14 hO
      refine lv_aload_n hx hb dX3_set_27 rfl (lv_at hl 0 rfl) ?_
      refine ct_get (C := RX3) (T := TX3) (N := 6) (ci := 3) (v := .ref (a 1 0)) hM hK hP inX3 0 rfl rfl 0 (by decide) wfl_X3_10 rfl dX3_set_28 ?_
      refine lv_iload_n hx hb dX3_set_31 rfl (lv_at hl 1 rfl) ?_
      obtain ⟨h15, hO⟩ := hO
      obtain ⟨q16, e17⟩ : ∃ q, fX1_setting vN s1 = q := ⟨_, rfl⟩
      have hF := lt_n e17 hF
      try have hO := lo_n e17 hO
      refine ct_callV (ws' := gwFF cy a kp vN vT vI vJ w pd) hM hK hP hD hS (kX1_setting l D cy (a 1) vN s1 h15 e17) kvX1_setting wml_X3_78 [3, 4, 5, 6, 7, 8] rfl (by decide) rfl rfl rfl 3 rfl rfl rfl rfl hl.1 rfl ⟨rfl, rfl, Nat.le_of_ble_eq_true rfl, Nat.le_of_ble_eq_true rfl⟩ (Nat.le_of_ble_eq_true rfl) ⟨Nat.zero_le _, Nat.zero_le _⟩ dX3_set_32 (fun H locs hP hD hS => ?_)
      refine W.eq (g2 := F0 m 35 ls [.int q16]) rfl ?_
      refine lv_istore_n (lv' := [(3, .int q16), (0, .ref (a 0 0)), (1, .int s1), (2, .int s2)]) hx hb dX3_set_35 rfl hl (by decide) rfl (fun ls hl => ?_)
      refine lv_aload_n hx hb dX3_set_36 rfl (lv_at hl 1 rfl) ?_
      refine ct_get (C := RX3) (T := TX3) (N := 6) (ci := 3) (v := .ref (a 1 0)) hM hK hP inX3 0 rfl rfl 0 (by decide) wfl_X3_10 rfl dX3_set_37 ?_
      refine lv_iload_n hx hb dX3_set_40 rfl (lv_at hl 2 rfl) ?_
      refine lv_iload_n hx hb dX3_set_41 rfl (lv_at hl 3 rfl) ?_
      obtain ⟨h18, hO⟩ := hO
      obtain ⟨q19, e20⟩ : ∃ q, fX1_change vN s1 s2 = q := ⟨_, rfl⟩
      have hF := lt_n e20 hF
      try have hO := lo_n e20 hO
      refine ct_callV (ws' := gwFF cy a kp q19 vT vI vJ w pd) hM hK hP hD hS (kX1_change l D cy (a 1) vN s1 s2 h18 e20) kvX1_change wml_X3_81 [3, 4, 5, 6, 7, 8] rfl (by decide) rfl rfl rfl 3 rfl rfl rfl rfl hl.1 rfl ⟨rfl, rfl, Nat.le_of_ble_eq_true rfl, Nat.le_of_ble_eq_true rfl⟩ (Nat.le_of_ble_eq_true rfl) ⟨Nat.zero_le _, Nat.zero_le _⟩ dX3_set_42 (fun H locs hP hD hS => ?_)
      refine W.eq (g2 := F0 m 45 ls []) rfl ?_
      refine lv_iload_n hx hb dX3_set_45 rfl (lv_at hl 0 rfl) ?_
      subst hF
      exact ct_iret hM hP hS dX3_set_46
    · have hF := lt_t c14 hF
      have hO := lo_t c14 hO
      refine lv_bipush (v := (-2)) hx hb dX3_set_24 (by decide) ?_
      subst hF
      exact ct_iret hM hP hS dX3_set_26

abbrev rX3_say : Room := { frames := 1, cells := 0, slots := 0, locals := 22 }
def fX3_say (pd : tPd) (s1 : Int32) : Int32 × tPd := lt_ (fX3_within s1 33 126) fun q2 => if q2 = 0 then ((-2), pd) else (lt_ (fX0_add pd s1) fun q6 => if q6.1 = 0 then ((-4), q6.2) else (p_ct q6.2, q6.2))
def oX3_say (pd : tPd) (s1 : Int32) : Prop := lo_ (fX3_within s1 33 126) fun q2 => if q2 = 0 then True else (oX0_add pd s1 ∧ True)
theorem kvX3_say : KV yX3_say cX3_say 2 (some .int) 1 := ⟨wcd_X3_say, wim_X3_say, wsl_X3_say, win_X3, by decide +kernel, by decide +kernel, by decide +kernel⟩
set_option maxHeartbeats 4000000 in
set_option maxRecDepth 100000 in
theorem kX3_say (l : Launch) (D : va_G) (cy : Nat → ClassId) (a : Nat → Nat → Nat) (kp : tAr) (vN : tVl) (vT : tVl) (vI : tVl) (vJ : tVl) (w : tWl) (pd : tPd) (s1 : Int32) {R : Int32 × tPd} (hO : oX3_say pd s1) (hF : fX3_say pd s1 = R) : CT l D cy yX3_say cX3_say 2 (some .int) rX3_say [.ref (a 0 0), .int s1] (gwFF cy a kp vN vT vI vJ w pd) (some (.int R.1)) (gwFF cy a kp vN vT vI vJ w R.2) := by
  refine ct_of (by decide) (Nat.le_of_ble_eq_true rfl) ?_
  intro p e s m args below meth c A ls hM hK hP hD hS hl
  obtain ⟨hx, hb, -, hml, hown, hts, -⟩ := id hM
  have hl : lv_has ls 2 [(0, .ref (a 0 0)), (1, .int s1)] := hl
  obtain ⟨H, hH⟩ : ∃ H : Heap, H = s.heap := ⟨_, rfl⟩
  obtain ⟨locs, hlocs⟩ : ∃ q : List Loc, q = [] := ⟨_, rfl⟩
  have hP : va_P D classes (gwFF cy a kp vN vT vI vJ w pd) H := by rw [hH]; exact hP
  have hS : va_S A s.heap H locs := by rw [hH, hlocs]; exact hS
  suffices hg : W p l e rX3_say s m args below meth c H locs 0 0 (MQ below (ctQ D (some (.int R.1)) (gwFF cy a kp vN vT vI vJ w R.2) A) args s 0 0 A) (F0 m 0 ls []) by rw [hH, hlocs] at hg; exact hg
  clear hH hlocs
  unfold fX3_say at hF
  unfold oX3_say at hO
  refine lv_iload_n hx hb dX3_say_0 rfl (lv_at hl 1 rfl) ?_
  refine lv_bipush (v := 33) hx hb dX3_say_1 (by decide) ?_
  refine lv_bipush (v := 126) hx hb dX3_say_3 (by decide) ?_
  obtain ⟨q2, e3⟩ : ∃ q, fX3_within s1 33 126 = q := ⟨_, rfl⟩
  have hF := lt_n e3 hF
  try have hO := lo_n e3 hO
  refine ct_callS hM hK hP hD hS (kX3_within l D cy s1 33 126 trivial e3) kvX3_within wml_X3_41 rfl hl.1 rfl ⟨rfl, rfl, Nat.le_of_ble_eq_true rfl, Nat.le_of_ble_eq_true rfl⟩ (Nat.le_of_ble_eq_true rfl) ⟨Nat.zero_le _, Nat.zero_le _⟩ dX3_say_5 (fun H locs hP hD hS => ?_)
  refine W.eq (g2 := F0 m 8 ls [.int q2]) rfl ?_
  have hP : va_P D classes (gwFF cy a kp vN vT vI vJ w pd) H := hP
  have hD : va_D A (gwFF cy a kp vN vT vI vJ w pd) := hD
  refine lv_if_ne (tgt := 14) hx hb dX3_say_8 (by decide) (fun c4 => ?_) (fun c4 => ?_)
  · have hF := lt_f c4 hF
    have hO := lo_f c4 hO
    refine lv_aload_n hx hb dX3_say_14 rfl (lv_at hl 0 rfl) ?_
    refine ct_get (C := RX3) (T := TX3) (N := 6) (ci := 3) (v := .ref (a 6 0)) hM hK hP inX3 0 rfl rfl 5 (by decide) wfl_X3_37 rfl dX3_say_15 ?_
    refine lv_iload_n hx hb dX3_say_18 rfl (lv_at hl 1 rfl) ?_
    obtain ⟨h5, hO⟩ := hO
    obtain ⟨q6, e7⟩ : ∃ q, fX0_add pd s1 = q := ⟨_, rfl⟩
    have hF := lt_n e7 hF
    try have hO := lo_n e7 hO
    refine ct_callV (ws' := gwFF cy a kp vN vT vI vJ w q6.2) hM hK hP hD hS (kX0_add l D cy (a 6) pd s1 h5 e7) kvX0_add wml_X3_85 [32, 33] rfl (by decide) rfl rfl rfl 32 rfl rfl rfl rfl hl.1 rfl ⟨rfl, rfl, Nat.le_of_ble_eq_true rfl, Nat.le_of_ble_eq_true rfl⟩ (Nat.le_of_ble_eq_true rfl) ⟨Nat.zero_le _, Nat.zero_le _⟩ dX3_say_19 (fun H locs hP hD hS => ?_)
    refine W.eq (g2 := F0 m 22 ls [.int q6.1]) rfl ?_
    refine lv_if_eq (tgt := 35) hx hb dX3_say_22 (by decide) (fun c8 => ?_) (fun c8 => ?_)
    · have hF := lt_t c8 hF
      refine lv_bipush (v := (-4)) hx hb dX3_say_35 (by decide) ?_
      subst hF
      exact ct_iret hM hP hS dX3_say_37
    · have hF := lt_f c8 hF
      refine lv_aload_n hx hb dX3_say_25 rfl (lv_at hl 0 rfl) ?_
      refine ct_get (C := RX3) (T := TX3) (N := 6) (ci := 3) (v := .ref (a 6 0)) hM hK hP inX3 0 rfl rfl 5 (by decide) wfl_X3_37 rfl dX3_say_26 ?_
      refine ct_get (C := RX0) (T := TX0) (N := 2) (ci := 0) (v := .int (p_ct q6.2)) hM hK hP inX0 32 rfl rfl 0 (by decide) wfl_X3_88 rfl dX3_say_29 ?_
      refine lv_goto (tgt := 37) hx hb dX3_say_32 (by decide) ?_
      subst hF
      exact ct_iret hM hP hS dX3_say_37
  · have hF := lt_t c4 hF
    have hO := lo_t c4 hO
    refine lv_bipush (v := (-2)) hx hb dX3_say_11 (by decide) ?_
    subst hF
    exact ct_iret hM hP hS dX3_say_13

abbrev rX3_wipe : Room := { frames := 0, cells := 0, slots := 0, locals := 0 }
def fX3_wipe (pd : tPd) : Int32 × tPd := lt_ (p_ct pd) fun x1 => (x1, (0, p_sg pd))
def oX3_wipe (pd : tPd) : Prop := True
theorem kvX3_wipe : KV yX3_wipe cX3_wipe 2 (some .int) 0 := ⟨wcd_X3_wipe, wim_X3_wipe, wsl_X3_wipe, win_X3, by decide +kernel, by decide +kernel, by decide +kernel⟩
set_option maxHeartbeats 4000000 in
set_option maxRecDepth 100000 in
theorem kX3_wipe (l : Launch) (D : va_G) (cy : Nat → ClassId) (a : Nat → Nat → Nat) (kp : tAr) (vN : tVl) (vT : tVl) (vI : tVl) (vJ : tVl) (w : tWl) (pd : tPd) {R : Int32 × tPd} (hO : oX3_wipe pd) (hF : fX3_wipe pd = R) : CT l D cy yX3_wipe cX3_wipe 2 (some .int) rX3_wipe [.ref (a 0 0)] (gwFF cy a kp vN vT vI vJ w pd) (some (.int R.1)) (gwFF cy a kp vN vT vI vJ w R.2) := by
  refine ct_of (by decide) (Nat.le_of_ble_eq_true rfl) ?_
  intro p e s m args below meth c A ls hM hK hP hD hS hl
  obtain ⟨hx, hb, -, hml, hown, hts, -⟩ := id hM
  have hl : lv_has ls 2 [(0, .ref (a 0 0))] := hl
  obtain ⟨H, hH⟩ : ∃ H : Heap, H = s.heap := ⟨_, rfl⟩
  obtain ⟨locs, hlocs⟩ : ∃ q : List Loc, q = [] := ⟨_, rfl⟩
  have hP : va_P D classes (gwFF cy a kp vN vT vI vJ w pd) H := by rw [hH]; exact hP
  have hS : va_S A s.heap H locs := by rw [hH, hlocs]; exact hS
  suffices hg : W p l e rX3_wipe s m args below meth c H locs 0 0 (MQ below (ctQ D (some (.int R.1)) (gwFF cy a kp vN vT vI vJ w R.2) A) args s 0 0 A) (F0 m 0 ls []) by rw [hH, hlocs] at hg; exact hg
  clear hH hlocs
  unfold fX3_wipe at hF
  unfold oX3_wipe at hO
  refine lv_aload_n hx hb dX3_wipe_0 rfl (lv_at hl 0 rfl) ?_
  refine ct_get (C := RX3) (T := TX3) (N := 6) (ci := 3) (v := .ref (a 6 0)) hM hK hP inX3 0 rfl rfl 5 (by decide) wfl_X3_37 rfl dX3_wipe_1 ?_
  refine ct_get (C := RX0) (T := TX0) (N := 2) (ci := 0) (v := .int (p_ct pd)) hM hK hP inX0 32 rfl rfl 0 (by decide) wfl_X3_88 rfl dX3_wipe_4 ?_
  refine lv_topi (fun x1 e2 => ?_)
  have hF := lt_n e2.symm hF
  try have hO := lo_n e2.symm hO
  refine lv_istore_n (lv' := [(1, .int x1), (0, .ref (a 0 0))]) hx hb dX3_wipe_7 rfl hl (by decide) rfl (fun ls hl => ?_)
  refine lv_aload_n hx hb dX3_wipe_8 rfl (lv_at hl 1 rfl) ?_
  refine ct_get (C := RX3) (T := TX3) (N := 6) (ci := 3) (v := .ref (a 6 0)) hM hK hP inX3 0 rfl rfl 5 (by decide) wfl_X3_37 rfl dX3_wipe_9 ?_
  refine lv_iconst (v := 0) hx hb dX3_wipe_12 (by decide) ?_
  refine ct_put1 (C := RX0) (T := TX0) (N := 2) (ci := 0) (v := .int 0) hM hK hP hD hS inX0 tyX0 tyX0_ok nmX0 32 rfl rfl 0 (by decide) wfl_X3_88 rfl (by first | rfl | decide) (by first | rfl | decide) (Nat.le_of_ble_eq_true rfl) dX3_wipe_13 (fun H locs hP hD hS => ?_)
  have hP : va_P D classes (gwFF cy a kp vN vT vI vJ w (0, p_sg pd)) H := hP
  have hD : va_D A (gwFF cy a kp vN vT vI vJ w (0, p_sg pd)) := hD
  refine lv_iload_n hx hb dX3_wipe_16 rfl (lv_at hl 0 rfl) ?_
  subst hF
  exact ct_iret hM hP hS dX3_wipe_17

abbrev rX3_fault : Room := { frames := 2, cells := 0, slots := 0, locals := 46 }
def fX3_fault (vN : tVl) (pd : tPd) : Int32 := lt_ (fX0_faultAmong pd (v_cm vN)) fun q2 => q2
def oX3_fault (vN : tVl) (pd : tPd) : Prop := oX0_faultAmong pd (v_cm vN) ∧ True
theorem kvX3_fault : KV yX3_fault cX3_fault 1 (some .int) 0 := ⟨wcd_X3_fault, wim_X3_fault, wsl_X3_fault, win_X3, by decide +kernel, by decide +kernel, by decide +kernel⟩
set_option maxHeartbeats 4000000 in
set_option maxRecDepth 100000 in
theorem kX3_fault (l : Launch) (D : va_G) (cy : Nat → ClassId) (a : Nat → Nat → Nat) (kp : tAr) (vN : tVl) (vT : tVl) (vI : tVl) (vJ : tVl) (w : tWl) (pd : tPd) {R : Int32} (hO : oX3_fault vN pd) (hF : fX3_fault vN pd = R) : CT l D cy yX3_fault cX3_fault 1 (some .int) rX3_fault [.ref (a 0 0)] (gwFF cy a kp vN vT vI vJ w pd) (some (.int R)) (gwFF cy a kp vN vT vI vJ w pd) := by
  refine ct_of (by decide) (Nat.le_of_ble_eq_true rfl) ?_
  intro p e s m args below meth c A ls hM hK hP hD hS hl
  obtain ⟨hx, hb, -, hml, hown, hts, -⟩ := id hM
  have hl : lv_has ls 1 [(0, .ref (a 0 0))] := hl
  obtain ⟨H, hH⟩ : ∃ H : Heap, H = s.heap := ⟨_, rfl⟩
  obtain ⟨locs, hlocs⟩ : ∃ q : List Loc, q = [] := ⟨_, rfl⟩
  have hP : va_P D classes (gwFF cy a kp vN vT vI vJ w pd) H := by rw [hH]; exact hP
  have hS : va_S A s.heap H locs := by rw [hH, hlocs]; exact hS
  suffices hg : W p l e rX3_fault s m args below meth c H locs 0 0 (MQ below (ctQ D (some (.int R)) (gwFF cy a kp vN vT vI vJ w pd) A) args s 0 0 A) (F0 m 0 ls []) by rw [hH, hlocs] at hg; exact hg
  clear hH hlocs
  unfold fX3_fault at hF
  unfold oX3_fault at hO
  refine lv_aload_n hx hb dX3_fault_0 rfl (lv_at hl 0 rfl) ?_
  refine ct_get (C := RX3) (T := TX3) (N := 6) (ci := 3) (v := .ref (a 6 0)) hM hK hP inX3 0 rfl rfl 5 (by decide) wfl_X3_37 rfl dX3_fault_1 ?_
  refine lv_aload_n hx hb dX3_fault_4 rfl (lv_at hl 0 rfl) ?_
  refine ct_get (C := RX3) (T := TX3) (N := 6) (ci := 3) (v := .ref (a 1 0)) hM hK hP inX3 0 rfl rfl 0 (by decide) wfl_X3_10 rfl dX3_fault_5 ?_
  refine ct_get (C := RX1) (T := TX1) (N := 6) (ci := 1) (v := .int (v_cm vN)) hM hK hP inX1 3 rfl rfl 4 (by decide) wfl_X3_58 rfl dX3_fault_8 ?_
  obtain ⟨h1, hO⟩ := hO
  obtain ⟨q2, e3⟩ : ∃ q, fX0_faultAmong pd (v_cm vN) = q := ⟨_, rfl⟩
  have hF := lt_n e3 hF
  try have hO := lo_n e3 hO
  refine ct_callV (ws' := gwFF cy a kp vN vT vI vJ w pd) hM hK hP hD hS (kX0_faultAmong l D cy (a 6) pd (v_cm vN) h1 e3) kvX0_faultAmong wml_X3_91 [32, 33] rfl (by decide) rfl rfl rfl 32 rfl rfl rfl rfl hl.1 rfl ⟨rfl, rfl, Nat.le_of_ble_eq_true rfl, Nat.le_of_ble_eq_true rfl⟩ (Nat.le_of_ble_eq_true rfl) ⟨Nat.zero_le _, Nat.zero_le _⟩ dX3_fault_11 (fun H locs hP hD hS => ?_)
  refine W.eq (g2 := F0 m 14 ls [.int q2]) rfl ?_
  subst hF
  exact ct_iret hM hP hS dX3_fault_14

abbrev rX3_told : Room := { frames := 1, cells := 0, slots := 0, locals := 22 }
def fX3_told (vN : tVl) (pd : tPd) (s1 : Int32) : Int32 := lt_ (fX3_within s1 0 5) fun q2 => if q2 = 0 then (-2) else (if s1 = 0 then (p_ct pd) else (if s1 = 5 then (v_cm vN) else (lt_ (fX1_setting vN (s1 - 1)) fun q8 => q8)))
def oX3_told (vN : tVl) (pd : tPd) (s1 : Int32) : Prop := lo_ (fX3_within s1 0 5) fun q2 => if q2 = 0 then True else (if s1 = 0 then True else (if s1 = 5 then True else (oX1_setting vN (s1 - 1) ∧ True)))
theorem kvX3_told : KV yX3_told cX3_told 2 (some .int) 1 := ⟨wcd_X3_told, wim_X3_told, wsl_X3_told, win_X3, by decide +kernel, by decide +kernel, by decide +kernel⟩
set_option maxHeartbeats 4000000 in
set_option maxRecDepth 100000 in
theorem kX3_told (l : Launch) (D : va_G) (cy : Nat → ClassId) (a : Nat → Nat → Nat) (kp : tAr) (vN : tVl) (vT : tVl) (vI : tVl) (vJ : tVl) (w : tWl) (pd : tPd) (s1 : Int32) {R : Int32} (hO : oX3_told vN pd s1) (hF : fX3_told vN pd s1 = R) : CT l D cy yX3_told cX3_told 2 (some .int) rX3_told [.ref (a 0 0), .int s1] (gwFF cy a kp vN vT vI vJ w pd) (some (.int R)) (gwFF cy a kp vN vT vI vJ w pd) := by
  refine ct_of (by decide) (Nat.le_of_ble_eq_true rfl) ?_
  intro p e s m args below meth c A ls hM hK hP hD hS hl
  obtain ⟨hx, hb, -, hml, hown, hts, -⟩ := id hM
  have hl : lv_has ls 2 [(0, .ref (a 0 0)), (1, .int s1)] := hl
  obtain ⟨H, hH⟩ : ∃ H : Heap, H = s.heap := ⟨_, rfl⟩
  obtain ⟨locs, hlocs⟩ : ∃ q : List Loc, q = [] := ⟨_, rfl⟩
  have hP : va_P D classes (gwFF cy a kp vN vT vI vJ w pd) H := by rw [hH]; exact hP
  have hS : va_S A s.heap H locs := by rw [hH, hlocs]; exact hS
  suffices hg : W p l e rX3_told s m args below meth c H locs 0 0 (MQ below (ctQ D (some (.int R)) (gwFF cy a kp vN vT vI vJ w pd) A) args s 0 0 A) (F0 m 0 ls []) by rw [hH, hlocs] at hg; exact hg
  clear hH hlocs
  unfold fX3_told at hF
  unfold oX3_told at hO
  refine lv_iload_n hx hb dX3_told_0 rfl (lv_at hl 1 rfl) ?_
  refine lv_iconst (v := 0) hx hb dX3_told_1 (by decide) ?_
  refine lv_iconst (v := 5) hx hb dX3_told_2 (by decide) ?_
  obtain ⟨q2, e3⟩ : ∃ q, fX3_within s1 0 5 = q := ⟨_, rfl⟩
  have hF := lt_n e3 hF
  try have hO := lo_n e3 hO
  refine ct_callS hM hK hP hD hS (kX3_within l D cy s1 0 5 trivial e3) kvX3_within wml_X3_41 rfl hl.1 rfl ⟨rfl, rfl, Nat.le_of_ble_eq_true rfl, Nat.le_of_ble_eq_true rfl⟩ (Nat.le_of_ble_eq_true rfl) ⟨Nat.zero_le _, Nat.zero_le _⟩ dX3_told_3 (fun H locs hP hD hS => ?_)
  refine W.eq (g2 := F0 m 6 ls [.int q2]) rfl ?_
  have hP : va_P D classes (gwFF cy a kp vN vT vI vJ w pd) H := hP
  have hD : va_D A (gwFF cy a kp vN vT vI vJ w pd) := hD
  refine lv_if_ne (tgt := 12) hx hb dX3_told_6 (by decide) (fun c4 => ?_) (fun c4 => ?_)
  · have hF := lt_f c4 hF
    have hO := lo_f c4 hO
    refine lv_iload_n hx hb dX3_told_12 rfl (lv_at hl 1 rfl) ?_
    refine lv_if_ne (tgt := 24) hx hb dX3_told_13 (by decide) (fun c5 => ?_) (fun c5 => ?_)
    · have hF := lt_f c5 hF
      have hO := lo_f c5 hO
      refine lv_iload_n hx hb dX3_told_24 rfl (lv_at hl 1 rfl) ?_
      refine lv_iconst (v := 5) hx hb dX3_told_25 (by decide) ?_
      refine lv_icmp_ne (tgt := 39) hx hb dX3_told_26 (by decide) (fun c6 => ?_) (fun c6 => ?_)
      · have hF := lt_f c6 hF
        have hO := lo_f c6 hO
        refine lv_aload_n hx hb dX3_told_39 rfl (lv_at hl 0 rfl) ?_
        refine ct_get (C := RX3) (T := TX3) (N := 6) (ci := 3) (v := .ref (a 1 0)) hM hK hP inX3 0 rfl rfl 0 (by decide) wfl_X3_10 rfl dX3_told_40 ?_
        refine lv_iload_n hx hb dX3_told_43 rfl (lv_at hl 1 rfl) ?_
        refine lv_iconst (v := 1) hx hb dX3_told_44 (by decide) ?_
        refine lv_isub hx hb dX3_told_45 ?_
        obtain ⟨h7, hO⟩ := hO
        obtain ⟨q8, e9⟩ : ∃ q, fX1_setting vN (s1 - 1) = q := ⟨_, rfl⟩
        have hF := lt_n e9 hF
        try have hO := lo_n e9 hO
        refine ct_callV (ws' := gwFF cy a kp vN vT vI vJ w pd) hM hK hP hD hS (kX1_setting l D cy (a 1) vN (s1 - 1) h7 e9) kvX1_setting wml_X3_78 [3, 4, 5, 6, 7, 8] rfl (by decide) rfl rfl rfl 3 rfl rfl rfl rfl hl.1 rfl ⟨rfl, rfl, Nat.le_of_ble_eq_true rfl, Nat.le_of_ble_eq_true rfl⟩ (Nat.le_of_ble_eq_true rfl) ⟨Nat.zero_le _, Nat.zero_le _⟩ dX3_told_46 (fun H locs hP hD hS => ?_)
        refine W.eq (g2 := F0 m 49 ls [.int q8]) rfl ?_
        subst hF
        exact ct_iret hM hP hS dX3_told_49
      · have hF := lt_t c6 hF
        have hO := lo_t c6 hO
        refine lv_aload_n hx hb dX3_told_29 rfl (lv_at hl 0 rfl) ?_
        refine ct_get (C := RX3) (T := TX3) (N := 6) (ci := 3) (v := .ref (a 1 0)) hM hK hP inX3 0 rfl rfl 0 (by decide) wfl_X3_10 rfl dX3_told_30 ?_
        refine ct_get (C := RX1) (T := TX1) (N := 6) (ci := 1) (v := .int (v_cm vN)) hM hK hP inX1 3 rfl rfl 4 (by decide) wfl_X3_58 rfl dX3_told_33 ?_
        refine lv_goto (tgt := 49) hx hb dX3_told_36 (by decide) ?_
        subst hF
        exact ct_iret hM hP hS dX3_told_49
    · have hF := lt_t c5 hF
      have hO := lo_t c5 hO
      refine lv_aload_n hx hb dX3_told_16 rfl (lv_at hl 0 rfl) ?_
      refine ct_get (C := RX3) (T := TX3) (N := 6) (ci := 3) (v := .ref (a 6 0)) hM hK hP inX3 0 rfl rfl 5 (by decide) wfl_X3_37 rfl dX3_told_17 ?_
      refine ct_get (C := RX0) (T := TX0) (N := 2) (ci := 0) (v := .int (p_ct pd)) hM hK hP inX0 32 rfl rfl 0 (by decide) wfl_X3_88 rfl dX3_told_20 ?_
      subst hF
      exact ct_iret hM hP hS dX3_told_23
  · have hF := lt_t c4 hF
    have hO := lo_t c4 hO
    refine lv_bipush (v := (-2)) hx hb dX3_told_9 (by decide) ?_
    subst hF
    exact ct_iret hM hP hS dX3_told_11

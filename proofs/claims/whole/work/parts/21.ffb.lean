abbrev rX3_served : Room := { frames := 5, cells := 0, slots := 0, locals := 119 }
def fX3_served (vN : tVl) (w : tWl) (s1 : Int32) : Int32 × tWl := lt_ (fX2_run vN w (v_cm vN)) fun q2 => if s1 = (-1) then (w_tu q2, q2) else (lt_ (fX3_within s1 0 (w_tu q2 - 1)) fun q6 => if q6 = 0 then ((-6), q2) else ((w_or q2) (Int32.toNatClampNeg s1), q2))
def oX3_served (vN : tVl) (w : tWl) (s1 : Int32) : Prop := oX2_run vN w (v_cm vN) ∧ (lo_ (fX2_run vN w (v_cm vN)) fun q2 => if s1 = (-1) then True else (lo_ (fX3_within s1 0 (w_tu q2 - 1)) fun q6 => if q6 = 0 then True else (vp_in s1 8 ∧ True)))
theorem kvX3_served : KV yX3_served cX3_served 2 (some .int) 1 := ⟨wcd_X3_served, wim_X3_served, wsl_X3_served, win_X3, by decide +kernel, by decide +kernel, by decide +kernel⟩
set_option maxHeartbeats 4000000 in
set_option maxRecDepth 100000 in
theorem kX3_served (l : Launch) (D : va_G) (cy : Nat → ClassId) (a : Nat → Nat → Nat) (kp : tAr) (vN : tVl) (vT : tVl) (vI : tVl) (vJ : tVl) (w : tWl) (pd : tPd) (s1 : Int32) {R : Int32 × tWl} (hO : oX3_served vN w s1) (hF : fX3_served vN w s1 = R) : CT l D cy yX3_served cX3_served 2 (some .int) rX3_served [.ref (a 0 0), .int s1] (gwFF cy a kp vN vT vI vJ w pd) (some (.int R.1)) (gwFF cy a kp vN vT vI vJ R.2 pd) := by
  refine ct_of (by decide) (Nat.le_of_ble_eq_true rfl) ?_
  intro p e s m args below meth c A ls hM hK hP hD hS hl
  obtain ⟨hx, hb, -, hml, hown, hts, -⟩ := id hM
  have hl : lv_has ls 2 [(0, .ref (a 0 0)), (1, .int s1)] := hl
  obtain ⟨H, hH⟩ : ∃ H : Heap, H = s.heap := ⟨_, rfl⟩
  obtain ⟨locs, hlocs⟩ : ∃ q : List Loc, q = [] := ⟨_, rfl⟩
  have hP : va_P D classes (gwFF cy a kp vN vT vI vJ w pd) H := by rw [hH]; exact hP
  have hS : va_S A s.heap H locs := by rw [hH, hlocs]; exact hS
  suffices hg : W p l e rX3_served s m args below meth c H locs 0 0 (MQ below (ctQ D (some (.int R.1)) (gwFF cy a kp vN vT vI vJ R.2 pd) A) args s 0 0 A) (F0 m 0 ls []) by rw [hH, hlocs] at hg; exact hg
  clear hH hlocs
  unfold fX3_served at hF
  unfold oX3_served at hO
  refine lv_aload_n hx hb dX3_served_0 rfl (lv_at hl 0 rfl) ?_
  refine ct_get (C := RX3) (T := TX3) (N := 6) (ci := 3) (v := .ref (a 5 0)) hM hK hP inX3 0 rfl rfl 4 (by decide) wfl_X3_30 rfl dX3_served_1 ?_
  refine lv_aload_n hx hb dX3_served_4 rfl (lv_at hl 0 rfl) ?_
  refine ct_get (C := RX3) (T := TX3) (N := 6) (ci := 3) (v := .ref (a 1 0)) hM hK hP inX3 0 rfl rfl 0 (by decide) wfl_X3_10 rfl dX3_served_5 ?_
  refine lv_aload_n hx hb dX3_served_8 rfl (lv_at hl 0 rfl) ?_
  refine ct_get (C := RX3) (T := TX3) (N := 6) (ci := 3) (v := .ref (a 1 0)) hM hK hP inX3 0 rfl rfl 0 (by decide) wfl_X3_10 rfl dX3_served_9 ?_
  refine ct_get (C := RX1) (T := TX1) (N := 6) (ci := 1) (v := .int (v_cm vN)) hM hK hP inX1 3 rfl rfl 4 (by decide) wfl_X3_58 rfl dX3_served_12 ?_
  obtain ⟨h1, hO⟩ := hO
  obtain ⟨q2, e3⟩ : ∃ q, fX2_run vN w (v_cm vN) = q := ⟨_, rfl⟩
  have hF := lt_n e3 hF
  try have hO := lo_n e3 hO
  refine ct_callV (ws' := gwFF cy a kp vN vT vI vJ q2 pd) hM hK hP hD hS (kX2_run l D cy (a 1) (a 5) vN w (v_cm vN) h1 e3) kvX2_run wml_X3_94 [3, 4, 5, 6, 7, 8, 27, 28, 29, 30, 31] rfl (by decide) rfl rfl rfl 27 rfl rfl rfl rfl hl.1 rfl ⟨rfl, rfl, Nat.le_of_ble_eq_true rfl, Nat.le_of_ble_eq_true rfl⟩ (Nat.le_of_ble_eq_true rfl) ⟨Nat.zero_le _, Nat.zero_le _⟩ dX3_served_15 (fun H locs hP hD hS => ?_)
  refine W.eq (g2 := F0 m 18 ls []) rfl ?_
  refine lv_iload_n hx hb dX3_served_18 rfl (lv_at hl 1 rfl) ?_
  refine lv_iconst (v := (-1)) hx hb dX3_served_19 (by decide) ?_
  refine lv_icmp_ne (tgt := 31) hx hb dX3_served_20 (by decide) (fun c4 => ?_) (fun c4 => ?_)
  · have hF := lt_f c4 hF
    have hO := lo_f c4 hO
    refine lv_iload_n hx hb dX3_served_31 rfl (lv_at hl 1 rfl) ?_
    refine lv_iconst (v := 0) hx hb dX3_served_32 (by decide) ?_
    refine lv_aload_n hx hb dX3_served_33 rfl (lv_at hl 0 rfl) ?_
    refine ct_get (C := RX3) (T := TX3) (N := 6) (ci := 3) (v := .ref (a 5 0)) hM hK hP inX3 0 rfl rfl 4 (by decide) wfl_X3_30 rfl dX3_served_34 ?_
    refine ct_get (C := RX2) (T := TX2) (N := 10) (ci := 2) (v := .int (w_tu q2)) hM hK hP inX2 27 rfl rfl 4 (by decide) wfl_X3_98 rfl dX3_served_37 ?_
    refine lv_iconst (v := 1) hx hb dX3_served_40 (by decide) ?_
    refine lv_isub hx hb dX3_served_41 ?_
    obtain ⟨q6, e7⟩ : ∃ q, fX3_within s1 0 (w_tu q2 - 1) = q := ⟨_, rfl⟩
    have hF := lt_n e7 hF
    try have hO := lo_n e7 hO
    refine ct_callS hM hK hP hD hS (kX3_within l D cy s1 0 (w_tu q2 - 1) trivial e7) kvX3_within wml_X3_41 rfl hl.1 rfl ⟨rfl, rfl, Nat.le_of_ble_eq_true rfl, Nat.le_of_ble_eq_true rfl⟩ (Nat.le_of_ble_eq_true rfl) ⟨Nat.zero_le _, Nat.zero_le _⟩ dX3_served_42 (fun H locs hP hD hS => ?_)
    refine W.eq (g2 := F0 m 45 ls [.int q6]) rfl ?_
    have hP : va_P D classes (gwFF cy a kp vN vT vI vJ q2 pd) H := hP
    have hD : va_D A (gwFF cy a kp vN vT vI vJ q2 pd) := hD
    refine lv_if_eq (tgt := 60) hx hb dX3_served_45 (by decide) (fun c8 => ?_) (fun c8 => ?_)
    · have hF := lt_t c8 hF
      have hO := lo_t c8 hO
      refine lv_bipush (v := (-6)) hx hb dX3_served_60 (by decide) ?_
      subst hF
      exact ct_iret hM hP hS dX3_served_62
    · have hF := lt_f c8 hF
      have hO := lo_f c8 hO
      refine lv_aload_n hx hb dX3_served_48 rfl (lv_at hl 0 rfl) ?_
      refine ct_get (C := RX3) (T := TX3) (N := 6) (ci := 3) (v := .ref (a 5 0)) hM hK hP inX3 0 rfl rfl 4 (by decide) wfl_X3_30 rfl dX3_served_49 ?_
      refine ct_get (C := RX2) (T := TX2) (N := 10) (ci := 2) (v := .ref (a 5 1)) hM hK hP inX2 27 rfl rfl 0 (by decide) wfl_X3_101 rfl dX3_served_52 ?_
      refine lv_iload_n hx hb dX3_served_55 rfl (lv_at hl 1 rfl) ?_
      obtain ⟨h9, hO⟩ := hO
      refine va_iald hx hb hK hP 28 0 (f := w_or q2) (n := 8) (cA := cy 0) rfl rfl h9 dX3_served_56 ?_
      refine lv_goto (tgt := 62) hx hb dX3_served_57 (by decide) ?_
      subst hF
      exact ct_iret hM hP hS dX3_served_62
  · have hF := lt_t c4 hF
    have hO := lo_t c4 hO
    refine lv_aload_n hx hb dX3_served_23 rfl (lv_at hl 0 rfl) ?_
    refine ct_get (C := RX3) (T := TX3) (N := 6) (ci := 3) (v := .ref (a 5 0)) hM hK hP inX3 0 rfl rfl 4 (by decide) wfl_X3_30 rfl dX3_served_24 ?_
    refine ct_get (C := RX2) (T := TX2) (N := 10) (ci := 2) (v := .int (w_tu q2)) hM hK hP inX2 27 rfl rfl 4 (by decide) wfl_X3_98 rfl dX3_served_27 ?_
    subst hF
    exact ct_iret hM hP hS dX3_served_30

abbrev rX3_waits : Room := { frames := 5, cells := 0, slots := 0, locals := 119 }
def fX3_waits (vN : tVl) (w : tWl) (s1 : Int32) (s2 : Int32) : Int32 × tWl := lt_ (fX1_comes vN s1) fun q2 => if q2 = 0 then ((-1), w) else (lt_ (fX3_within s2 0 1) fun q6 => if q6 = 0 then ((-2), w) else (lt_ (fX2_run vN w (v_cm vN)) fun q10 => if s2 = 0 then ((w_wa q10) (Int32.toNatClampNeg s1), q10) else ((w_en q10) (Int32.toNatClampNeg s1), q10)))
def oX3_waits (vN : tVl) (w : tWl) (s1 : Int32) (s2 : Int32) : Prop := lo_ (fX1_comes vN s1) fun q2 => if q2 = 0 then True else (lo_ (fX3_within s2 0 1) fun q6 => if q6 = 0 then True else (oX2_run vN w (v_cm vN) ∧ (lo_ (fX2_run vN w (v_cm vN)) fun q10 => if s2 = 0 then (vp_in s1 8 ∧ True) else (vp_in s1 8 ∧ True))))
theorem kvX3_waits : KV yX3_waits cX3_waits 3 (some .int) 2 := ⟨wcd_X3_waits, wim_X3_waits, wsl_X3_waits, win_X3, by decide +kernel, by decide +kernel, by decide +kernel⟩
set_option maxHeartbeats 4000000 in
set_option maxRecDepth 100000 in
theorem kX3_waits (l : Launch) (D : va_G) (cy : Nat → ClassId) (a : Nat → Nat → Nat) (kp : tAr) (vN : tVl) (vT : tVl) (vI : tVl) (vJ : tVl) (w : tWl) (pd : tPd) (s1 : Int32) (s2 : Int32) {R : Int32 × tWl} (hO : oX3_waits vN w s1 s2) (hF : fX3_waits vN w s1 s2 = R) : CT l D cy yX3_waits cX3_waits 3 (some .int) rX3_waits [.ref (a 0 0), .int s1, .int s2] (gwFF cy a kp vN vT vI vJ w pd) (some (.int R.1)) (gwFF cy a kp vN vT vI vJ R.2 pd) := by
  refine ct_of (by decide) (Nat.le_of_ble_eq_true rfl) ?_
  intro p e s m args below meth c A ls hM hK hP hD hS hl
  obtain ⟨hx, hb, -, hml, hown, hts, -⟩ := id hM
  have hl : lv_has ls 3 [(0, .ref (a 0 0)), (1, .int s1), (2, .int s2)] := hl
  obtain ⟨H, hH⟩ : ∃ H : Heap, H = s.heap := ⟨_, rfl⟩
  obtain ⟨locs, hlocs⟩ : ∃ q : List Loc, q = [] := ⟨_, rfl⟩
  have hP : va_P D classes (gwFF cy a kp vN vT vI vJ w pd) H := by rw [hH]; exact hP
  have hS : va_S A s.heap H locs := by rw [hH, hlocs]; exact hS
  suffices hg : W p l e rX3_waits s m args below meth c H locs 0 0 (MQ below (ctQ D (some (.int R.1)) (gwFF cy a kp vN vT vI vJ R.2 pd) A) args s 0 0 A) (F0 m 0 ls []) by rw [hH, hlocs] at hg; exact hg
  clear hH hlocs
  unfold fX3_waits at hF
  unfold oX3_waits at hO
  refine lv_aload_n hx hb dX3_waits_0 rfl (lv_at hl 0 rfl) ?_
  refine ct_get (C := RX3) (T := TX3) (N := 6) (ci := 3) (v := .ref (a 1 0)) hM hK hP inX3 0 rfl rfl 0 (by decide) wfl_X3_10 rfl dX3_waits_1 ?_
  refine lv_iload_n hx hb dX3_waits_4 rfl (lv_at hl 1 rfl) ?_
  obtain ⟨q2, e3⟩ : ∃ q, fX1_comes vN s1 = q := ⟨_, rfl⟩
  have hF := lt_n e3 hF
  try have hO := lo_n e3 hO
  refine ct_callV (ws' := gwFF cy a kp vN vT vI vJ w pd) hM hK hP hD hS (kX1_comes l D cy (a 1) vN s1 trivial e3) kvX1_comes wml_X3_68 [3, 4, 5, 6, 7, 8] rfl (by decide) rfl rfl rfl 3 rfl rfl rfl rfl hl.1 rfl ⟨rfl, rfl, Nat.le_of_ble_eq_true rfl, Nat.le_of_ble_eq_true rfl⟩ (Nat.le_of_ble_eq_true rfl) ⟨Nat.zero_le _, Nat.zero_le _⟩ dX3_waits_5 (fun H locs hP hD hS => ?_)
  refine W.eq (g2 := F0 m 8 ls [.int q2]) rfl ?_
  refine lv_if_ne (tgt := 13) hx hb dX3_waits_8 (by decide) (fun c4 => ?_) (fun c4 => ?_)
  · have hF := lt_f c4 hF
    have hO := lo_f c4 hO
    refine lv_iload_n hx hb dX3_waits_13 rfl (lv_at hl 2 rfl) ?_
    refine lv_iconst (v := 0) hx hb dX3_waits_14 (by decide) ?_
    refine lv_iconst (v := 1) hx hb dX3_waits_15 (by decide) ?_
    obtain ⟨q6, e7⟩ : ∃ q, fX3_within s2 0 1 = q := ⟨_, rfl⟩
    have hF := lt_n e7 hF
    try have hO := lo_n e7 hO
    refine ct_callS hM hK hP hD hS (kX3_within l D cy s2 0 1 trivial e7) kvX3_within wml_X3_41 rfl hl.1 rfl ⟨rfl, rfl, Nat.le_of_ble_eq_true rfl, Nat.le_of_ble_eq_true rfl⟩ (Nat.le_of_ble_eq_true rfl) ⟨Nat.zero_le _, Nat.zero_le _⟩ dX3_waits_16 (fun H locs hP hD hS => ?_)
    refine W.eq (g2 := F0 m 19 ls [.int q6]) rfl ?_
    have hP : va_P D classes (gwFF cy a kp vN vT vI vJ w pd) H := hP
    have hD : va_D A (gwFF cy a kp vN vT vI vJ w pd) := hD
    refine lv_if_ne (tgt := 25) hx hb dX3_waits_19 (by decide) (fun c8 => ?_) (fun c8 => ?_)
    · have hF := lt_f c8 hF
      have hO := lo_f c8 hO
      refine lv_aload_n hx hb dX3_waits_25 rfl (lv_at hl 0 rfl) ?_
      refine ct_get (C := RX3) (T := TX3) (N := 6) (ci := 3) (v := .ref (a 5 0)) hM hK hP inX3 0 rfl rfl 4 (by decide) wfl_X3_30 rfl dX3_waits_26 ?_
      refine lv_aload_n hx hb dX3_waits_29 rfl (lv_at hl 0 rfl) ?_
      refine ct_get (C := RX3) (T := TX3) (N := 6) (ci := 3) (v := .ref (a 1 0)) hM hK hP inX3 0 rfl rfl 0 (by decide) wfl_X3_10 rfl dX3_waits_30 ?_
      refine lv_aload_n hx hb dX3_waits_33 rfl (lv_at hl 0 rfl) ?_
      refine ct_get (C := RX3) (T := TX3) (N := 6) (ci := 3) (v := .ref (a 1 0)) hM hK hP inX3 0 rfl rfl 0 (by decide) wfl_X3_10 rfl dX3_waits_34 ?_
      refine ct_get (C := RX1) (T := TX1) (N := 6) (ci := 1) (v := .int (v_cm vN)) hM hK hP inX1 3 rfl rfl 4 (by decide) wfl_X3_58 rfl dX3_waits_37 ?_
      obtain ⟨h9, hO⟩ := hO
      obtain ⟨q10, e11⟩ : ∃ q, fX2_run vN w (v_cm vN) = q := ⟨_, rfl⟩
      have hF := lt_n e11 hF
      try have hO := lo_n e11 hO
      refine ct_callV (ws' := gwFF cy a kp vN vT vI vJ q10 pd) hM hK hP hD hS (kX2_run l D cy (a 1) (a 5) vN w (v_cm vN) h9 e11) kvX2_run wml_X3_94 [3, 4, 5, 6, 7, 8, 27, 28, 29, 30, 31] rfl (by decide) rfl rfl rfl 27 rfl rfl rfl rfl hl.1 rfl ⟨rfl, rfl, Nat.le_of_ble_eq_true rfl, Nat.le_of_ble_eq_true rfl⟩ (Nat.le_of_ble_eq_true rfl) ⟨Nat.zero_le _, Nat.zero_le _⟩ dX3_waits_40 (fun H locs hP hD hS => ?_)
      refine W.eq (g2 := F0 m 43 ls []) rfl ?_
      refine lv_iload_n hx hb dX3_waits_43 rfl (lv_at hl 2 rfl) ?_
      refine lv_if_ne (tgt := 59) hx hb dX3_waits_44 (by decide) (fun c12 => ?_) (fun c12 => ?_)
      · have hF := lt_f c12 hF
        have hO := lo_f c12 hO
        refine lv_aload_n hx hb dX3_waits_59 rfl (lv_at hl 0 rfl) ?_
        refine ct_get (C := RX3) (T := TX3) (N := 6) (ci := 3) (v := .ref (a 5 0)) hM hK hP inX3 0 rfl rfl 4 (by decide) wfl_X3_30 rfl dX3_waits_60 ?_
        refine ct_get (C := RX2) (T := TX2) (N := 10) (ci := 2) (v := .ref (a 5 3)) hM hK hP inX2 27 rfl rfl 2 (by decide) wfl_X3_107 rfl dX3_waits_63 ?_
        refine lv_iload_n hx hb dX3_waits_66 rfl (lv_at hl 1 rfl) ?_
        obtain ⟨h13, hO⟩ := hO
        refine va_iald hx hb hK hP 30 0 (f := w_en q10) (n := 8) (cA := cy 0) rfl rfl h13 dX3_waits_67 ?_
        subst hF
        exact ct_iret hM hP hS dX3_waits_68
      · have hF := lt_t c12 hF
        have hO := lo_t c12 hO
        refine lv_aload_n hx hb dX3_waits_47 rfl (lv_at hl 0 rfl) ?_
        refine ct_get (C := RX3) (T := TX3) (N := 6) (ci := 3) (v := .ref (a 5 0)) hM hK hP inX3 0 rfl rfl 4 (by decide) wfl_X3_30 rfl dX3_waits_48 ?_
        refine ct_get (C := RX2) (T := TX2) (N := 10) (ci := 2) (v := .ref (a 5 4)) hM hK hP inX2 27 rfl rfl 3 (by decide) wfl_X3_104 rfl dX3_waits_51 ?_
        refine lv_iload_n hx hb dX3_waits_54 rfl (lv_at hl 1 rfl) ?_
        obtain ⟨h14, hO⟩ := hO
        refine va_iald hx hb hK hP 31 0 (f := w_wa q10) (n := 8) (cA := cy 0) rfl rfl h14 dX3_waits_55 ?_
        refine lv_goto (tgt := 68) hx hb dX3_waits_56 (by decide) ?_
        subst hF
        exact ct_iret hM hP hS dX3_waits_68
    · have hF := lt_t c8 hF
      have hO := lo_t c8 hO
      refine lv_bipush (v := (-2)) hx hb dX3_waits_22 (by decide) ?_
      subst hF
      exact ct_iret hM hP hS dX3_waits_24
  · have hF := lt_t c4 hF
    have hO := lo_t c4 hO
    refine lv_iconst (v := (-1)) hx hb dX3_waits_11 (by decide) ?_
    subst hF
    exact ct_iret hM hP hS dX3_waits_12

abbrev rX3_all : Room := { frames := 5, cells := 0, slots := 0, locals := 119 }
def fX3_all (vN : tVl) (w : tWl) (s1 : Int32) : Int32 × tWl := lt_ (fX3_within s1 0 3) fun q2 => if q2 = 0 then ((-2), w) else (lt_ (fX2_run vN w (v_cm vN)) fun q6 => if s1 = 0 then (w_wo q6, q6) else (if s1 = 1 then (lt_ (fX2_worstOff q6) fun q11 => (q11, q6)) else (if s1 = 2 then (w_su q6, q6) else (w_ti q6, q6))))
def oX3_all (vN : tVl) (w : tWl) (s1 : Int32) : Prop := lo_ (fX3_within s1 0 3) fun q2 => if q2 = 0 then True else (oX2_run vN w (v_cm vN) ∧ (lo_ (fX2_run vN w (v_cm vN)) fun q6 => if s1 = 0 then True else (if s1 = 1 then (oX2_worstOff q6 ∧ True) else True)))
theorem kvX3_all : KV yX3_all cX3_all 2 (some .int) 1 := ⟨wcd_X3_all, wim_X3_all, wsl_X3_all, win_X3, by decide +kernel, by decide +kernel, by decide +kernel⟩
set_option maxHeartbeats 4000000 in
set_option maxRecDepth 100000 in
theorem kX3_all (l : Launch) (D : va_G) (cy : Nat → ClassId) (a : Nat → Nat → Nat) (kp : tAr) (vN : tVl) (vT : tVl) (vI : tVl) (vJ : tVl) (w : tWl) (pd : tPd) (s1 : Int32) {R : Int32 × tWl} (hO : oX3_all vN w s1) (hF : fX3_all vN w s1 = R) : CT l D cy yX3_all cX3_all 2 (some .int) rX3_all [.ref (a 0 0), .int s1] (gwFF cy a kp vN vT vI vJ w pd) (some (.int R.1)) (gwFF cy a kp vN vT vI vJ R.2 pd) := by
  refine ct_of (by decide) (Nat.le_of_ble_eq_true rfl) ?_
  intro p e s m args below meth c A ls hM hK hP hD hS hl
  obtain ⟨hx, hb, -, hml, hown, hts, -⟩ := id hM
  have hl : lv_has ls 2 [(0, .ref (a 0 0)), (1, .int s1)] := hl
  obtain ⟨H, hH⟩ : ∃ H : Heap, H = s.heap := ⟨_, rfl⟩
  obtain ⟨locs, hlocs⟩ : ∃ q : List Loc, q = [] := ⟨_, rfl⟩
  have hP : va_P D classes (gwFF cy a kp vN vT vI vJ w pd) H := by rw [hH]; exact hP
  have hS : va_S A s.heap H locs := by rw [hH, hlocs]; exact hS
  suffices hg : W p l e rX3_all s m args below meth c H locs 0 0 (MQ below (ctQ D (some (.int R.1)) (gwFF cy a kp vN vT vI vJ R.2 pd) A) args s 0 0 A) (F0 m 0 ls []) by rw [hH, hlocs] at hg; exact hg
  clear hH hlocs
  unfold fX3_all at hF
  unfold oX3_all at hO
  refine lv_iload_n hx hb dX3_all_0 rfl (lv_at hl 1 rfl) ?_
  refine lv_iconst (v := 0) hx hb dX3_all_1 (by decide) ?_
  refine lv_iconst (v := 3) hx hb dX3_all_2 (by decide) ?_
  obtain ⟨q2, e3⟩ : ∃ q, fX3_within s1 0 3 = q := ⟨_, rfl⟩
  have hF := lt_n e3 hF
  try have hO := lo_n e3 hO
  refine ct_callS hM hK hP hD hS (kX3_within l D cy s1 0 3 trivial e3) kvX3_within wml_X3_41 rfl hl.1 rfl ⟨rfl, rfl, Nat.le_of_ble_eq_true rfl, Nat.le_of_ble_eq_true rfl⟩ (Nat.le_of_ble_eq_true rfl) ⟨Nat.zero_le _, Nat.zero_le _⟩ dX3_all_3 (fun H locs hP hD hS => ?_)
  refine W.eq (g2 := F0 m 6 ls [.int q2]) rfl ?_
  have hP : va_P D classes (gwFF cy a kp vN vT vI vJ w pd) H := hP
  have hD : va_D A (gwFF cy a kp vN vT vI vJ w pd) := hD
  refine lv_if_ne (tgt := 12) hx hb dX3_all_6 (by decide) (fun c4 => ?_) (fun c4 => ?_)
  · have hF := lt_f c4 hF
    have hO := lo_f c4 hO
    refine lv_aload_n hx hb dX3_all_12 rfl (lv_at hl 0 rfl) ?_
    refine ct_get (C := RX3) (T := TX3) (N := 6) (ci := 3) (v := .ref (a 5 0)) hM hK hP inX3 0 rfl rfl 4 (by decide) wfl_X3_30 rfl dX3_all_13 ?_
    refine lv_aload_n hx hb dX3_all_16 rfl (lv_at hl 0 rfl) ?_
    refine ct_get (C := RX3) (T := TX3) (N := 6) (ci := 3) (v := .ref (a 1 0)) hM hK hP inX3 0 rfl rfl 0 (by decide) wfl_X3_10 rfl dX3_all_17 ?_
    refine lv_aload_n hx hb dX3_all_20 rfl (lv_at hl 0 rfl) ?_
    refine ct_get (C := RX3) (T := TX3) (N := 6) (ci := 3) (v := .ref (a 1 0)) hM hK hP inX3 0 rfl rfl 0 (by decide) wfl_X3_10 rfl dX3_all_21 ?_
    refine ct_get (C := RX1) (T := TX1) (N := 6) (ci := 1) (v := .int (v_cm vN)) hM hK hP inX1 3 rfl rfl 4 (by decide) wfl_X3_58 rfl dX3_all_24 ?_
    obtain ⟨h5, hO⟩ := hO
    obtain ⟨q6, e7⟩ : ∃ q, fX2_run vN w (v_cm vN) = q := ⟨_, rfl⟩
    have hF := lt_n e7 hF
    try have hO := lo_n e7 hO
    refine ct_callV (ws' := gwFF cy a kp vN vT vI vJ q6 pd) hM hK hP hD hS (kX2_run l D cy (a 1) (a 5) vN w (v_cm vN) h5 e7) kvX2_run wml_X3_94 [3, 4, 5, 6, 7, 8, 27, 28, 29, 30, 31] rfl (by decide) rfl rfl rfl 27 rfl rfl rfl rfl hl.1 rfl ⟨rfl, rfl, Nat.le_of_ble_eq_true rfl, Nat.le_of_ble_eq_true rfl⟩ (Nat.le_of_ble_eq_true rfl) ⟨Nat.zero_le _, Nat.zero_le _⟩ dX3_all_27 (fun H locs hP hD hS => ?_)
    refine W.eq (g2 := F0 m 30 ls []) rfl ?_
    refine lv_iload_n hx hb dX3_all_30 rfl (lv_at hl 1 rfl) ?_
    by_cases c8 : s1 = 0
    · have hF := lt_t c8 hF
      have hO := lo_t c8 hO
      refine lv_tableIn (off := 25) (tgt := 56) hx hb dX3_all_31 (by rw [c8]; decide) (by rw [c8]; decide) (by rw [c8]; rfl) (by decide) ?_
      refine lv_aload_n hx hb dX3_all_56 rfl (lv_at hl 0 rfl) ?_
      refine ct_get (C := RX3) (T := TX3) (N := 6) (ci := 3) (v := .ref (a 5 0)) hM hK hP inX3 0 rfl rfl 4 (by decide) wfl_X3_30 rfl dX3_all_57 ?_
      refine ct_get (C := RX2) (T := TX2) (N := 10) (ci := 2) (v := .int (w_wo q6)) hM hK hP inX2 27 rfl rfl 5 (by decide) wfl_X3_110 rfl dX3_all_60 ?_
      subst hF
      exact ct_iret hM hP hS dX3_all_63
    · have hF := lt_f c8 hF
      have hO := lo_f c8 hO
      by_cases c9 : s1 = 1
      · have hF := lt_t c9 hF
        have hO := lo_t c9 hO
        refine lv_tableIn (off := 33) (tgt := 64) hx hb dX3_all_31 (by rw [c9]; decide) (by rw [c9]; decide) (by rw [c9]; rfl) (by decide) ?_
        refine lv_aload_n hx hb dX3_all_64 rfl (lv_at hl 0 rfl) ?_
        refine ct_get (C := RX3) (T := TX3) (N := 6) (ci := 3) (v := .ref (a 5 0)) hM hK hP inX3 0 rfl rfl 4 (by decide) wfl_X3_30 rfl dX3_all_65 ?_
        obtain ⟨h10, hO⟩ := hO
        obtain ⟨q11, e12⟩ : ∃ q, fX2_worstOff q6 = q := ⟨_, rfl⟩
        have hF := lt_n e12 hF
        try have hO := lo_n e12 hO
        refine ct_callV (ws' := gwFF cy a kp vN vT vI vJ q6 pd) hM hK hP hD hS (kX2_worstOff l D cy (a 5) q6 h10 e12) kvX2_worstOff wml_X3_113 [27, 28, 29, 30, 31] rfl (by decide) rfl rfl rfl 27 rfl rfl rfl rfl hl.1 rfl ⟨rfl, rfl, Nat.le_of_ble_eq_true rfl, Nat.le_of_ble_eq_true rfl⟩ (Nat.le_of_ble_eq_true rfl) ⟨Nat.zero_le _, Nat.zero_le _⟩ dX3_all_68 (fun H locs hP hD hS => ?_)
        refine W.eq (g2 := F0 m 71 ls [.int q11]) rfl ?_
        subst hF
        exact ct_iret hM hP hS dX3_all_71
      · have hF := lt_f c9 hF
        have hO := lo_f c9 hO
        by_cases c13 : s1 = 2
        · have hF := lt_t c13 hF
          refine lv_tableIn (off := 41) (tgt := 72) hx hb dX3_all_31 (by rw [c13]; decide) (by rw [c13]; decide) (by rw [c13]; rfl) (by decide) ?_
          refine lv_aload_n hx hb dX3_all_72 rfl (lv_at hl 0 rfl) ?_
          refine ct_get (C := RX3) (T := TX3) (N := 6) (ci := 3) (v := .ref (a 5 0)) hM hK hP inX3 0 rfl rfl 4 (by decide) wfl_X3_30 rfl dX3_all_73 ?_
          refine ct_get (C := RX2) (T := TX2) (N := 10) (ci := 2) (v := .int (w_su q6)) hM hK hP inX2 27 rfl rfl 6 (by decide) wfl_X3_117 rfl dX3_all_76 ?_
          subst hF
          exact ct_iret hM hP hS dX3_all_79
        · have hF := lt_f c13 hF
          refine lv_tableOut (tgt := 80) hx hb dX3_all_31 (by have z0 := lv_neT c8 (a := 0) rfl; have z1 := lv_neT c9 (a := 1) rfl; have z2 := lv_neT c13 (a := 2) rfl; omega) (by decide) ?_
          refine lv_aload_n hx hb dX3_all_80 rfl (lv_at hl 0 rfl) ?_
          refine ct_get (C := RX3) (T := TX3) (N := 6) (ci := 3) (v := .ref (a 5 0)) hM hK hP inX3 0 rfl rfl 4 (by decide) wfl_X3_30 rfl dX3_all_81 ?_
          refine ct_get (C := RX2) (T := TX2) (N := 10) (ci := 2) (v := .int (w_ti q6)) hM hK hP inX2 27 rfl rfl 7 (by decide) wfl_X3_120 rfl dX3_all_84 ?_
          subst hF
          exact ct_iret hM hP hS dX3_all_87
  · have hF := lt_t c4 hF
    have hO := lo_t c4 hO
    refine lv_bipush (v := (-2)) hx hb dX3_all_9 (by decide) ?_
    subst hF
    exact ct_iret hM hP hS dX3_all_11

abbrev rX3_judge : Room := { frames := 5, cells := 0, slots := 0, locals := 119 }
def fX3_judge_54 (w : tWl) (pd : tPd) (s1 : Int32) : Nat → Int32 → Int32 × tWl
  | 0, s2 => (0, w)
  | n + 1, s2 => if p_ct pd ≤ s2 then ((-6), w) else (if w_tu w ≤ s2 then ((-6), w) else (lt_ (fX0_personAt pd s2) fun q15 => if q15 = (w_or w) (Int32.toNatClampNeg s2) then (lt_ (s2 + 1) fun x19 => fX3_judge_54 w pd s1 n x19) else (if s1 = 0 then (s2, w) else ((w_or w) (Int32.toNatClampNeg s2), w))))
def oX3_judge_54 (w : tWl) (pd : tPd) (s1 : Int32) : Nat → Int32 → Prop
  | 0, _ => False
  | n + 1, s2 => if p_ct pd ≤ s2 then True else (if w_tu w ≤ s2 then True else (oX0_personAt pd s2 ∧ (lo_ (fX0_personAt pd s2) fun q15 => vp_in s2 8 ∧ (if q15 = (w_or w) (Int32.toNatClampNeg s2) then (lo_ (s2 + 1) fun x19 => oX3_judge_54 w pd s1 n x19) else True))))
set_option maxHeartbeats 4000000 in
set_option maxRecDepth 100000 in
theorem tX3_judge_54 {p : Program} {l : Launch} {e : Env} {s : State} {m : MethodId} {args : Array Value} {below : List Frame} {meth : Method} {c : Code} {A : Nat → Prop} {D : va_G} {cy : Nat → ClassId} {a : Nat → Nat → Nat} {kp : tAr} {vN : tVl} {vT : tVl} {vI : tVl} {vJ : tVl} {w : tWl} {pd : tPd} {s1 : Int32} {R : Int32 × tWl} (hM : MC p s m args meth c RX3 cX3_judge 3 (some .int)) (hK : va_K D classes (ctT cy) s) :
    ∀ (n : Nat) (s2 : Int32) (H : Heap) (locs : List Loc) (ls : Array Slot), va_P D classes (gwFF cy a kp vN vT vI vJ w pd) H → va_D A (gwFF cy a kp vN vT vI vJ w pd) → va_S A s.heap H locs → lv_has ls 3 [(0, .ref (a 0 0)), (1, .int s1), (2, .int s2)] → oX3_judge_54 w pd s1 n s2 → fX3_judge_54 w pd s1 n s2 = R → W p l e rX3_judge s m args below meth c H locs 0 0 (MQ below (ctQ D (some (.int R.1)) (gwFF cy a kp vN vT vI vJ R.2 pd) A) args s 0 0 A) (F0 m 54 ls []) := by
  obtain ⟨hx, hb, -, hml, hown, hts, -⟩ := id hM
  intro n
  induction n with
  | zero =>
    intro s2 H locs ls hP hD hS hl hO hF
    exact False.elim hO
  | succ n ih =>
    intro s2 H locs ls hP hD hS hl hO hF
    rw [fX3_judge_54] at hF
    rw [oX3_judge_54] at hO
    refine lv_iload_n hx hb dX3_judge_54 rfl (lv_at hl 2 rfl) ?_
    refine lv_aload_n hx hb dX3_judge_55 rfl (lv_at hl 0 rfl) ?_
    refine ct_get (C := RX3) (T := TX3) (N := 6) (ci := 3) (v := .ref (a 6 0)) hM hK hP inX3 0 rfl rfl 5 (by decide) wfl_X3_37 rfl dX3_judge_56 ?_
    refine ct_get (C := RX0) (T := TX0) (N := 2) (ci := 0) (v := .int (p_ct pd)) hM hK hP inX0 32 rfl rfl 0 (by decide) wfl_X3_88 rfl dX3_judge_59 ?_
    refine lv_icmp_ge (tgt := 120) hx hb dX3_judge_62 (by decide) (fun c12 => ?_) (fun c12 => ?_)
    · have hF := lt_t c12 hF
      have hO := lo_t c12 hO
      refine lv_bipush (v := (-6)) hx hb dX3_judge_120 (by decide) ?_
      subst hF
      exact ct_iret hM hP hS dX3_judge_122
    · have hF := lt_f c12 hF
      have hO := lo_f c12 hO
      refine lv_iload_n hx hb dX3_judge_65 rfl (lv_at hl 2 rfl) ?_
      refine lv_aload_n hx hb dX3_judge_66 rfl (lv_at hl 0 rfl) ?_
      refine ct_get (C := RX3) (T := TX3) (N := 6) (ci := 3) (v := .ref (a 5 0)) hM hK hP inX3 0 rfl rfl 4 (by decide) wfl_X3_30 rfl dX3_judge_67 ?_
      refine ct_get (C := RX2) (T := TX2) (N := 10) (ci := 2) (v := .int (w_tu w)) hM hK hP inX2 27 rfl rfl 4 (by decide) wfl_X3_98 rfl dX3_judge_70 ?_
      refine lv_icmp_ge (tgt := 120) hx hb dX3_judge_73 (by decide) (fun c13 => ?_) (fun c13 => ?_)
      · have hF := lt_t c13 hF
        have hO := lo_t c13 hO
        refine lv_bipush (v := (-6)) hx hb dX3_judge_120 (by decide) ?_
        subst hF
        exact ct_iret hM hP hS dX3_judge_122
      · have hF := lt_f c13 hF
        have hO := lo_f c13 hO
        refine lv_aload_n hx hb dX3_judge_76 rfl (lv_at hl 0 rfl) ?_
        refine ct_get (C := RX3) (T := TX3) (N := 6) (ci := 3) (v := .ref (a 6 0)) hM hK hP inX3 0 rfl rfl 5 (by decide) wfl_X3_37 rfl dX3_judge_77 ?_
        refine lv_iload_n hx hb dX3_judge_80 rfl (lv_at hl 2 rfl) ?_
        obtain ⟨h14, hO⟩ := hO
        obtain ⟨q15, e16⟩ : ∃ q, fX0_personAt pd s2 = q := ⟨_, rfl⟩
        have hF := lt_n e16 hF
        try have hO := lo_n e16 hO
        refine ct_callV (ws' := gwFF cy a kp vN vT vI vJ w pd) hM hK hP hD hS (kX0_personAt l D cy (a 6) pd s2 h14 e16) kvX0_personAt wml_X3_123 [32, 33] rfl (by decide) rfl rfl rfl 32 rfl rfl rfl rfl hl.1 rfl ⟨rfl, rfl, Nat.le_of_ble_eq_true rfl, Nat.le_of_ble_eq_true rfl⟩ (Nat.le_of_ble_eq_true rfl) ⟨Nat.zero_le _, Nat.zero_le _⟩ dX3_judge_81 (fun H locs hP hD hS => ?_)
        refine W.eq (g2 := F0 m 84 ls [.int q15]) rfl ?_
        refine lv_aload_n hx hb dX3_judge_84 rfl (lv_at hl 0 rfl) ?_
        refine ct_get (C := RX3) (T := TX3) (N := 6) (ci := 3) (v := .ref (a 5 0)) hM hK hP inX3 0 rfl rfl 4 (by decide) wfl_X3_30 rfl dX3_judge_85 ?_
        refine ct_get (C := RX2) (T := TX2) (N := 10) (ci := 2) (v := .ref (a 5 1)) hM hK hP inX2 27 rfl rfl 0 (by decide) wfl_X3_101 rfl dX3_judge_88 ?_
        refine lv_iload_n hx hb dX3_judge_91 rfl (lv_at hl 2 rfl) ?_
        obtain ⟨h17, hO⟩ := hO
        refine va_iald hx hb hK hP 28 0 (f := w_or w) (n := 8) (cA := cy 0) rfl rfl h17 dX3_judge_92 ?_
        refine lv_icmp_eq (tgt := 114) hx hb dX3_judge_93 (by decide) (fun c18 => ?_) (fun c18 => ?_)
        · have hF := lt_t c18 hF
          have hO := lo_t c18 hO
          obtain ⟨x19, e20⟩ : ∃ y : Int32, s2 + 1 = y := ⟨_, rfl⟩
          have hF := lt_n e20 hF
          try have hO := lo_n e20 hO
          refine lv_iinc (v := x19) (lv' := [(2, .int x19), (0, .ref (a 0 0)), (1, .int s1)]) hx hb dX3_judge_114 hl (k := 2) rfl (by rw [← e20]; rfl) (by decide) rfl (fun ls hl => ?_)
          refine lv_goto (tgt := 54) hx hb dX3_judge_117 (by decide) ?_
          exact ih x19 H locs ls hP hD hS (lv_sub hl [1, 2, 0] rfl) hO hF
        · have hF := lt_f c18 hF
          have hO := lo_f c18 hO
          refine lv_iload_n hx hb dX3_judge_96 rfl (lv_at hl 1 rfl) ?_
          refine lv_if_ne (tgt := 104) hx hb dX3_judge_97 (by decide) (fun c21 => ?_) (fun c21 => ?_)
          · have hF := lt_f c21 hF
            refine lv_aload_n hx hb dX3_judge_104 rfl (lv_at hl 0 rfl) ?_
            refine ct_get (C := RX3) (T := TX3) (N := 6) (ci := 3) (v := .ref (a 5 0)) hM hK hP inX3 0 rfl rfl 4 (by decide) wfl_X3_30 rfl dX3_judge_105 ?_
            refine ct_get (C := RX2) (T := TX2) (N := 10) (ci := 2) (v := .ref (a 5 1)) hM hK hP inX2 27 rfl rfl 0 (by decide) wfl_X3_101 rfl dX3_judge_108 ?_
            refine lv_iload_n hx hb dX3_judge_111 rfl (lv_at hl 2 rfl) ?_
            refine va_iald hx hb hK hP 28 0 (f := w_or w) (n := 8) (cA := cy 0) rfl rfl h17 dX3_judge_112 ?_
            subst hF
            exact ct_iret hM hP hS dX3_judge_113
          · have hF := lt_t c21 hF
            refine lv_iload_n hx hb dX3_judge_100 rfl (lv_at hl 2 rfl) ?_
            refine lv_goto (tgt := 113) hx hb dX3_judge_101 (by decide) ?_
            subst hF
            exact ct_iret hM hP hS dX3_judge_113

def fX3_judge (vN : tVl) (w : tWl) (pd : tPd) (s1 : Int32) : Int32 × tWl := lt_ (fX3_within s1 0 1) fun q2 => if q2 = 0 then ((-2), w) else (lt_ (fX0_faultAmong pd (v_cm vN)) fun q6 => if q6 = (-6) then (lt_ (fX2_run vN w (v_cm vN)) fun q10 => fX3_judge_54 q10 pd s1 9 0) else ((-5), w))
def oX3_judge (vN : tVl) (w : tWl) (pd : tPd) (s1 : Int32) : Prop := lo_ (fX3_within s1 0 1) fun q2 => if q2 = 0 then True else (oX0_faultAmong pd (v_cm vN) ∧ (lo_ (fX0_faultAmong pd (v_cm vN)) fun q6 => if q6 = (-6) then (oX2_run vN w (v_cm vN) ∧ (lo_ (fX2_run vN w (v_cm vN)) fun q10 => oX3_judge_54 q10 pd s1 9 0)) else True))
theorem kvX3_judge : KV yX3_judge cX3_judge 3 (some .int) 1 := ⟨wcd_X3_judge, wim_X3_judge, wsl_X3_judge, win_X3, by decide +kernel, by decide +kernel, by decide +kernel⟩
set_option maxHeartbeats 4000000 in
set_option maxRecDepth 100000 in
theorem kX3_judge (l : Launch) (D : va_G) (cy : Nat → ClassId) (a : Nat → Nat → Nat) (kp : tAr) (vN : tVl) (vT : tVl) (vI : tVl) (vJ : tVl) (w : tWl) (pd : tPd) (s1 : Int32) {R : Int32 × tWl} (hO : oX3_judge vN w pd s1) (hF : fX3_judge vN w pd s1 = R) : CT l D cy yX3_judge cX3_judge 3 (some .int) rX3_judge [.ref (a 0 0), .int s1] (gwFF cy a kp vN vT vI vJ w pd) (some (.int R.1)) (gwFF cy a kp vN vT vI vJ R.2 pd) := by
  refine ct_of (by decide) (Nat.le_of_ble_eq_true rfl) ?_
  intro p e s m args below meth c A ls hM hK hP hD hS hl
  obtain ⟨hx, hb, -, hml, hown, hts, -⟩ := id hM
  have hl : lv_has ls 3 [(0, .ref (a 0 0)), (1, .int s1)] := hl
  obtain ⟨H, hH⟩ : ∃ H : Heap, H = s.heap := ⟨_, rfl⟩
  obtain ⟨locs, hlocs⟩ : ∃ q : List Loc, q = [] := ⟨_, rfl⟩
  have hP : va_P D classes (gwFF cy a kp vN vT vI vJ w pd) H := by rw [hH]; exact hP
  have hS : va_S A s.heap H locs := by rw [hH, hlocs]; exact hS
  suffices hg : W p l e rX3_judge s m args below meth c H locs 0 0 (MQ below (ctQ D (some (.int R.1)) (gwFF cy a kp vN vT vI vJ R.2 pd) A) args s 0 0 A) (F0 m 0 ls []) by rw [hH, hlocs] at hg; exact hg
  clear hH hlocs
  unfold fX3_judge at hF
  unfold oX3_judge at hO
  refine lv_iload_n hx hb dX3_judge_0 rfl (lv_at hl 1 rfl) ?_
  refine lv_iconst (v := 0) hx hb dX3_judge_1 (by decide) ?_
  refine lv_iconst (v := 1) hx hb dX3_judge_2 (by decide) ?_
  obtain ⟨q2, e3⟩ : ∃ q, fX3_within s1 0 1 = q := ⟨_, rfl⟩
  have hF := lt_n e3 hF
  try have hO := lo_n e3 hO
  refine ct_callS hM hK hP hD hS (kX3_within l D cy s1 0 1 trivial e3) kvX3_within wml_X3_41 rfl hl.1 rfl ⟨rfl, rfl, Nat.le_of_ble_eq_true rfl, Nat.le_of_ble_eq_true rfl⟩ (Nat.le_of_ble_eq_true rfl) ⟨Nat.zero_le _, Nat.zero_le _⟩ dX3_judge_3 (fun H locs hP hD hS => ?_)
  refine W.eq (g2 := F0 m 6 ls [.int q2]) rfl ?_
  have hP : va_P D classes (gwFF cy a kp vN vT vI vJ w pd) H := hP
  have hD : va_D A (gwFF cy a kp vN vT vI vJ w pd) := hD
  refine lv_if_ne (tgt := 12) hx hb dX3_judge_6 (by decide) (fun c4 => ?_) (fun c4 => ?_)
  · have hF := lt_f c4 hF
    have hO := lo_f c4 hO
    refine lv_aload_n hx hb dX3_judge_12 rfl (lv_at hl 0 rfl) ?_
    refine ct_get (C := RX3) (T := TX3) (N := 6) (ci := 3) (v := .ref (a 6 0)) hM hK hP inX3 0 rfl rfl 5 (by decide) wfl_X3_37 rfl dX3_judge_13 ?_
    refine lv_aload_n hx hb dX3_judge_16 rfl (lv_at hl 0 rfl) ?_
    refine ct_get (C := RX3) (T := TX3) (N := 6) (ci := 3) (v := .ref (a 1 0)) hM hK hP inX3 0 rfl rfl 0 (by decide) wfl_X3_10 rfl dX3_judge_17 ?_
    refine ct_get (C := RX1) (T := TX1) (N := 6) (ci := 1) (v := .int (v_cm vN)) hM hK hP inX1 3 rfl rfl 4 (by decide) wfl_X3_58 rfl dX3_judge_20 ?_
    obtain ⟨h5, hO⟩ := hO
    obtain ⟨q6, e7⟩ : ∃ q, fX0_faultAmong pd (v_cm vN) = q := ⟨_, rfl⟩
    have hF := lt_n e7 hF
    try have hO := lo_n e7 hO
    refine ct_callV (ws' := gwFF cy a kp vN vT vI vJ w pd) hM hK hP hD hS (kX0_faultAmong l D cy (a 6) pd (v_cm vN) h5 e7) kvX0_faultAmong wml_X3_91 [32, 33] rfl (by decide) rfl rfl rfl 32 rfl rfl rfl rfl hl.1 rfl ⟨rfl, rfl, Nat.le_of_ble_eq_true rfl, Nat.le_of_ble_eq_true rfl⟩ (Nat.le_of_ble_eq_true rfl) ⟨Nat.zero_le _, Nat.zero_le _⟩ dX3_judge_23 (fun H locs hP hD hS => ?_)
    refine W.eq (g2 := F0 m 26 ls [.int q6]) rfl ?_
    refine lv_bipush (v := (-6)) hx hb dX3_judge_26 (by decide) ?_
    refine lv_icmp_eq (tgt := 34) hx hb dX3_judge_28 (by decide) (fun c8 => ?_) (fun c8 => ?_)
    · have hF := lt_t c8 hF
      have hO := lo_t c8 hO
      refine lv_aload_n hx hb dX3_judge_34 rfl (lv_at hl 0 rfl) ?_
      refine ct_get (C := RX3) (T := TX3) (N := 6) (ci := 3) (v := .ref (a 5 0)) hM hK hP inX3 0 rfl rfl 4 (by decide) wfl_X3_30 rfl dX3_judge_35 ?_
      refine lv_aload_n hx hb dX3_judge_38 rfl (lv_at hl 0 rfl) ?_
      refine ct_get (C := RX3) (T := TX3) (N := 6) (ci := 3) (v := .ref (a 1 0)) hM hK hP inX3 0 rfl rfl 0 (by decide) wfl_X3_10 rfl dX3_judge_39 ?_
      refine lv_aload_n hx hb dX3_judge_42 rfl (lv_at hl 0 rfl) ?_
      refine ct_get (C := RX3) (T := TX3) (N := 6) (ci := 3) (v := .ref (a 1 0)) hM hK hP inX3 0 rfl rfl 0 (by decide) wfl_X3_10 rfl dX3_judge_43 ?_
      refine ct_get (C := RX1) (T := TX1) (N := 6) (ci := 1) (v := .int (v_cm vN)) hM hK hP inX1 3 rfl rfl 4 (by decide) wfl_X3_58 rfl dX3_judge_46 ?_
      obtain ⟨h9, hO⟩ := hO
      obtain ⟨q10, e11⟩ : ∃ q, fX2_run vN w (v_cm vN) = q := ⟨_, rfl⟩
      have hF := lt_n e11 hF
      try have hO := lo_n e11 hO
      refine ct_callV (ws' := gwFF cy a kp vN vT vI vJ q10 pd) hM hK hP hD hS (kX2_run l D cy (a 1) (a 5) vN w (v_cm vN) h9 e11) kvX2_run wml_X3_94 [3, 4, 5, 6, 7, 8, 27, 28, 29, 30, 31] rfl (by decide) rfl rfl rfl 27 rfl rfl rfl rfl hl.1 rfl ⟨rfl, rfl, Nat.le_of_ble_eq_true rfl, Nat.le_of_ble_eq_true rfl⟩ (Nat.le_of_ble_eq_true rfl) ⟨Nat.zero_le _, Nat.zero_le _⟩ dX3_judge_49 (fun H locs hP hD hS => ?_)
      refine W.eq (g2 := F0 m 52 ls []) rfl ?_
      refine lv_iconst (v := 0) hx hb dX3_judge_52 (by decide) ?_
      refine lv_istore_n (lv' := [(2, .int 0), (0, .ref (a 0 0)), (1, .int s1)]) hx hb dX3_judge_53 rfl hl (by decide) rfl (fun ls hl => ?_)
      exact tX3_judge_54 hM hK 9 0 H locs ls hP hD hS (lv_sub hl [1, 2, 0] rfl) hO hF
    · have hF := lt_f c8 hF
      have hO := lo_f c8 hO
      refine lv_bipush (v := (-5)) hx hb dX3_judge_31 (by decide) ?_
      subst hF
      exact ct_iret hM hP hS dX3_judge_33
  · have hF := lt_t c4 hF
    have hO := lo_t c4 hO
    refine lv_bipush (v := (-2)) hx hb dX3_judge_9 (by decide) ?_
    subst hF
    exact ct_iret hM hP hS dX3_judge_11

abbrev rX3_left : Room := { frames := 5, cells := 0, slots := 0, locals := 119 }
def fX3_left_49 (vN : tVl) (w : tWl) (s2 : Int32) : Nat → Int32 → Int32 → Int32 × tWl
  | 0, s3, s4 => (0, w)
  | n + 1, s3, s4 => if w_tu w ≤ s4 then (0, w) else (lt_ (if (v_pa vN) (Int32.toNatClampNeg ((w_or w) (Int32.toNatClampNeg s4))) < s3 then (v_pa vN) (Int32.toNatClampNeg ((w_or w) (Int32.toNatClampNeg s4))) else s3) fun x15 => if (w_or w) (Int32.toNatClampNeg s4) = s2 then (x15, w) else (lt_ (s3 - x15) fun x18 => lt_ (s4 + 1) fun x20 => fX3_left_49 vN w s2 n x18 x20))
def oX3_left_49 (vN : tVl) (w : tWl) (s2 : Int32) : Nat → Int32 → Int32 → Prop
  | 0, _, _ => False
  | n + 1, s3, s4 => if w_tu w ≤ s4 then True else (vp_in s4 8 ∧ vp_in ((w_or w) (Int32.toNatClampNeg s4)) 8 ∧ (lo_ (if (v_pa vN) (Int32.toNatClampNeg ((w_or w) (Int32.toNatClampNeg s4))) < s3 then (v_pa vN) (Int32.toNatClampNeg ((w_or w) (Int32.toNatClampNeg s4))) else s3) fun x15 => if (w_or w) (Int32.toNatClampNeg s4) = s2 then True else (lo_ (s3 - x15) fun x18 => lo_ (s4 + 1) fun x20 => oX3_left_49 vN w s2 n x18 x20)))
set_option maxHeartbeats 4000000 in
set_option maxRecDepth 100000 in
theorem tX3_left_49 {p : Program} {l : Launch} {e : Env} {s : State} {m : MethodId} {args : Array Value} {below : List Frame} {meth : Method} {c : Code} {A : Nat → Prop} {D : va_G} {cy : Nat → ClassId} {a : Nat → Nat → Nat} {kp : tAr} {vN : tVl} {vT : tVl} {vI : tVl} {vJ : tVl} {w : tWl} {pd : tPd} {s1 : Int32} {s2 : Int32} {R : Int32 × tWl} (hM : MC p s m args meth c RX3 cX3_left 6 (some .int)) (hK : va_K D classes (ctT cy) s) :
    ∀ (n : Nat) (s3 : Int32) (s4 : Int32) (H : Heap) (locs : List Loc) (ls : Array Slot), va_P D classes (gwFF cy a kp vN vT vI vJ w pd) H → va_D A (gwFF cy a kp vN vT vI vJ w pd) → va_S A s.heap H locs → lv_has ls 6 [(0, .ref (a 0 0)), (1, .int s1), (2, .int s2), (3, .int s3), (4, .int s4)] → oX3_left_49 vN w s2 n s3 s4 → fX3_left_49 vN w s2 n s3 s4 = R → W p l e rX3_left s m args below meth c H locs 0 0 (MQ below (ctQ D (some (.int R.1)) (gwFF cy a kp vN vT vI vJ R.2 pd) A) args s 0 0 A) (F0 m 49 ls []) := by
  obtain ⟨hx, hb, -, hml, hown, hts, -⟩ := id hM
  intro n
  induction n with
  | zero =>
    intro s3 s4 H locs ls hP hD hS hl hO hF
    exact False.elim hO
  | succ n ih =>
    intro s3 s4 H locs ls hP hD hS hl hO hF
    rw [fX3_left_49] at hF
    rw [oX3_left_49] at hO
    refine lv_iload hx hb dX3_left_49 (lv_at hl 4 rfl) ?_
    refine lv_aload_n hx hb dX3_left_51 rfl (lv_at hl 0 rfl) ?_
    refine ct_get (C := RX3) (T := TX3) (N := 6) (ci := 3) (v := .ref (a 5 0)) hM hK hP inX3 0 rfl rfl 4 (by decide) wfl_X3_30 rfl dX3_left_52 ?_
    refine ct_get (C := RX2) (T := TX2) (N := 10) (ci := 2) (v := .int (w_tu w)) hM hK hP inX2 27 rfl rfl 4 (by decide) wfl_X3_98 rfl dX3_left_55 ?_
    refine lv_icmp_ge (tgt := 113) hx hb dX3_left_58 (by decide) (fun c12 => ?_) (fun c12 => ?_)
    · have hF := lt_t c12 hF
      have hO := lo_t c12 hO
      refine lv_iconst (v := 0) hx hb dX3_left_113 (by decide) ?_
      subst hF
      exact ct_iret hM hP hS dX3_left_114
    · have hF := lt_f c12 hF
      have hO := lo_f c12 hO
      refine lv_iload_n hx hb dX3_left_61 rfl (lv_at hl 3 rfl) ?_
      refine lv_aload_n hx hb dX3_left_62 rfl (lv_at hl 0 rfl) ?_
      refine ct_get (C := RX3) (T := TX3) (N := 6) (ci := 3) (v := .ref (a 1 0)) hM hK hP inX3 0 rfl rfl 0 (by decide) wfl_X3_10 rfl dX3_left_63 ?_
      refine ct_get (C := RX1) (T := TX1) (N := 6) (ci := 1) (v := .ref (a 1 3)) hM hK hP inX1 3 rfl rfl 2 (by decide) wfl_X3_52 rfl dX3_left_66 ?_
      refine lv_aload_n hx hb dX3_left_69 rfl (lv_at hl 0 rfl) ?_
      refine ct_get (C := RX3) (T := TX3) (N := 6) (ci := 3) (v := .ref (a 5 0)) hM hK hP inX3 0 rfl rfl 4 (by decide) wfl_X3_30 rfl dX3_left_70 ?_
      refine ct_get (C := RX2) (T := TX2) (N := 10) (ci := 2) (v := .ref (a 5 1)) hM hK hP inX2 27 rfl rfl 0 (by decide) wfl_X3_101 rfl dX3_left_73 ?_
      refine lv_iload hx hb dX3_left_76 (lv_at hl 4 rfl) ?_
      obtain ⟨h13, hO⟩ := hO
      refine va_iald hx hb hK hP 28 0 (f := w_or w) (n := 8) (cA := cy 0) rfl rfl h13 dX3_left_78 ?_
      obtain ⟨h14, hO⟩ := hO
      refine va_iald hx hb hK hP 6 0 (f := v_pa vN) (n := 8) (cA := cy 0) rfl rfl h14 dX3_left_79 ?_
      refine ct_min hM hl.1 wml_X3_126 ⟨Nat.le_of_ble_eq_true rfl, Nat.le_of_ble_eq_true rfl⟩ ⟨Nat.zero_le _, Nat.zero_le _⟩ dX3_left_80 ?_
      refine lv_topi (fun x15 e16 => ?_)
      have hF := lt_n e16.symm hF
      try have hO := lo_n e16.symm hO
      refine lv_istore (lv' := [(5, .int x15), (0, .ref (a 0 0)), (1, .int s1), (2, .int s2), (3, .int s3), (4, .int s4)]) hx hb dX3_left_83 hl (by decide) rfl (fun ls hl => ?_)
      refine lv_aload_n hx hb dX3_left_85 rfl (lv_at hl 1 rfl) ?_
      refine ct_get (C := RX3) (T := TX3) (N := 6) (ci := 3) (v := .ref (a 5 0)) hM hK hP inX3 0 rfl rfl 4 (by decide) wfl_X3_30 rfl dX3_left_86 ?_
      refine ct_get (C := RX2) (T := TX2) (N := 10) (ci := 2) (v := .ref (a 5 1)) hM hK hP inX2 27 rfl rfl 0 (by decide) wfl_X3_101 rfl dX3_left_89 ?_
      refine lv_iload hx hb dX3_left_92 (lv_at hl 5 rfl) ?_
      refine va_iald hx hb hK hP 28 0 (f := w_or w) (n := 8) (cA := cy 0) rfl rfl h13 dX3_left_94 ?_
      refine lv_iload_n hx hb dX3_left_95 rfl (lv_at hl 3 rfl) ?_
      refine lv_icmp_ne (tgt := 102) hx hb dX3_left_96 (by decide) (fun c17 => ?_) (fun c17 => ?_)
      · have hF := lt_f c17 hF
        have hO := lo_f c17 hO
        refine lv_iload_n hx hb dX3_left_102 rfl (lv_at hl 4 rfl) ?_
        refine lv_iload hx hb dX3_left_103 (lv_at hl 0 rfl) ?_
        refine lv_isub hx hb dX3_left_105 ?_
        refine lv_topi (fun x18 e19 => ?_)
        have hF := lt_n e19.symm hF
        try have hO := lo_n e19.symm hO
        refine lv_istore_n (lv' := [(3, .int x18), (5, .int x15), (0, .ref (a 0 0)), (1, .int s1), (2, .int s2), (4, .int s4)]) hx hb dX3_left_106 rfl hl (by decide) rfl (fun ls hl => ?_)
        obtain ⟨x20, e21⟩ : ∃ y : Int32, s4 + 1 = y := ⟨_, rfl⟩
        have hF := lt_n e21 hF
        try have hO := lo_n e21 hO
        refine lv_iinc (v := x20) (lv' := [(4, .int x20), (3, .int x18), (5, .int x15), (0, .ref (a 0 0)), (1, .int s1), (2, .int s2)]) hx hb dX3_left_107 hl (k := 5) rfl (by rw [← e21]; rfl) (by decide) rfl (fun ls hl => ?_)
        refine lv_goto (tgt := 49) hx hb dX3_left_110 (by decide) ?_
        exact ih x18 x20 H locs ls hP hD hS (lv_sub hl [3, 4, 5, 1, 0] rfl) hO hF
      · have hF := lt_t c17 hF
        have hO := lo_t c17 hO
        refine lv_iload hx hb dX3_left_99 (lv_at hl 0 rfl) ?_
        subst hF
        exact ct_iret hM hP hS dX3_left_101

def fX3_left (vN : tVl) (w : tWl) (s1 : Int32) (s2 : Int32) : Int32 × tWl := lt_ (fX1_comes vN s2) fun q2 => if q2 = 0 then ((-1), w) else (lt_ (fX3_within s1 0 99) fun q6 => if q6 = 0 then ((-2), w) else (lt_ (fX2_run vN w (v_cm vN)) fun q10 => fX3_left_49 vN q10 s2 9 s1 0))
def oX3_left (vN : tVl) (w : tWl) (s1 : Int32) (s2 : Int32) : Prop := lo_ (fX1_comes vN s2) fun q2 => if q2 = 0 then True else (lo_ (fX3_within s1 0 99) fun q6 => if q6 = 0 then True else (oX2_run vN w (v_cm vN) ∧ (lo_ (fX2_run vN w (v_cm vN)) fun q10 => oX3_left_49 vN q10 s2 9 s1 0)))
theorem kvX3_left : KV yX3_left cX3_left 6 (some .int) 2 := ⟨wcd_X3_left, wim_X3_left, wsl_X3_left, win_X3, by decide +kernel, by decide +kernel, by decide +kernel⟩
set_option maxHeartbeats 4000000 in
set_option maxRecDepth 100000 in
theorem kX3_left (l : Launch) (D : va_G) (cy : Nat → ClassId) (a : Nat → Nat → Nat) (kp : tAr) (vN : tVl) (vT : tVl) (vI : tVl) (vJ : tVl) (w : tWl) (pd : tPd) (s1 : Int32) (s2 : Int32) {R : Int32 × tWl} (hO : oX3_left vN w s1 s2) (hF : fX3_left vN w s1 s2 = R) : CT l D cy yX3_left cX3_left 6 (some .int) rX3_left [.ref (a 0 0), .int s1, .int s2] (gwFF cy a kp vN vT vI vJ w pd) (some (.int R.1)) (gwFF cy a kp vN vT vI vJ R.2 pd) := by
  refine ct_of (by decide) (Nat.le_of_ble_eq_true rfl) ?_
  intro p e s m args below meth c A ls hM hK hP hD hS hl
  obtain ⟨hx, hb, -, hml, hown, hts, -⟩ := id hM
  have hl : lv_has ls 6 [(0, .ref (a 0 0)), (1, .int s1), (2, .int s2)] := hl
  obtain ⟨H, hH⟩ : ∃ H : Heap, H = s.heap := ⟨_, rfl⟩
  obtain ⟨locs, hlocs⟩ : ∃ q : List Loc, q = [] := ⟨_, rfl⟩
  have hP : va_P D classes (gwFF cy a kp vN vT vI vJ w pd) H := by rw [hH]; exact hP
  have hS : va_S A s.heap H locs := by rw [hH, hlocs]; exact hS
  suffices hg : W p l e rX3_left s m args below meth c H locs 0 0 (MQ below (ctQ D (some (.int R.1)) (gwFF cy a kp vN vT vI vJ R.2 pd) A) args s 0 0 A) (F0 m 0 ls []) by rw [hH, hlocs] at hg; exact hg
  clear hH hlocs
  unfold fX3_left at hF
  unfold oX3_left at hO
  refine lv_aload_n hx hb dX3_left_0 rfl (lv_at hl 0 rfl) ?_
  refine ct_get (C := RX3) (T := TX3) (N := 6) (ci := 3) (v := .ref (a 1 0)) hM hK hP inX3 0 rfl rfl 0 (by decide) wfl_X3_10 rfl dX3_left_1 ?_
  refine lv_iload_n hx hb dX3_left_4 rfl (lv_at hl 2 rfl) ?_
  obtain ⟨q2, e3⟩ : ∃ q, fX1_comes vN s2 = q := ⟨_, rfl⟩
  have hF := lt_n e3 hF
  try have hO := lo_n e3 hO
  refine ct_callV (ws' := gwFF cy a kp vN vT vI vJ w pd) hM hK hP hD hS (kX1_comes l D cy (a 1) vN s2 trivial e3) kvX1_comes wml_X3_68 [3, 4, 5, 6, 7, 8] rfl (by decide) rfl rfl rfl 3 rfl rfl rfl rfl hl.1 rfl ⟨rfl, rfl, Nat.le_of_ble_eq_true rfl, Nat.le_of_ble_eq_true rfl⟩ (Nat.le_of_ble_eq_true rfl) ⟨Nat.zero_le _, Nat.zero_le _⟩ dX3_left_5 (fun H locs hP hD hS => ?_)
  refine W.eq (g2 := F0 m 8 ls [.int q2]) rfl ?_
  refine lv_if_ne (tgt := 13) hx hb dX3_left_8 (by decide) (fun c4 => ?_) (fun c4 => ?_)
  · have hF := lt_f c4 hF
    have hO := lo_f c4 hO
    refine lv_iload_n hx hb dX3_left_13 rfl (lv_at hl 1 rfl) ?_
    refine lv_iconst (v := 0) hx hb dX3_left_14 (by decide) ?_
    refine lv_bipush (v := 99) hx hb dX3_left_15 (by decide) ?_
    obtain ⟨q6, e7⟩ : ∃ q, fX3_within s1 0 99 = q := ⟨_, rfl⟩
    have hF := lt_n e7 hF
    try have hO := lo_n e7 hO
    refine ct_callS hM hK hP hD hS (kX3_within l D cy s1 0 99 trivial e7) kvX3_within wml_X3_41 rfl hl.1 rfl ⟨rfl, rfl, Nat.le_of_ble_eq_true rfl, Nat.le_of_ble_eq_true rfl⟩ (Nat.le_of_ble_eq_true rfl) ⟨Nat.zero_le _, Nat.zero_le _⟩ dX3_left_17 (fun H locs hP hD hS => ?_)
    refine W.eq (g2 := F0 m 20 ls [.int q6]) rfl ?_
    have hP : va_P D classes (gwFF cy a kp vN vT vI vJ w pd) H := hP
    have hD : va_D A (gwFF cy a kp vN vT vI vJ w pd) := hD
    refine lv_if_ne (tgt := 26) hx hb dX3_left_20 (by decide) (fun c8 => ?_) (fun c8 => ?_)
    · have hF := lt_f c8 hF
      have hO := lo_f c8 hO
      refine lv_aload_n hx hb dX3_left_26 rfl (lv_at hl 0 rfl) ?_
      refine ct_get (C := RX3) (T := TX3) (N := 6) (ci := 3) (v := .ref (a 5 0)) hM hK hP inX3 0 rfl rfl 4 (by decide) wfl_X3_30 rfl dX3_left_27 ?_
      refine lv_aload_n hx hb dX3_left_30 rfl (lv_at hl 0 rfl) ?_
      refine ct_get (C := RX3) (T := TX3) (N := 6) (ci := 3) (v := .ref (a 1 0)) hM hK hP inX3 0 rfl rfl 0 (by decide) wfl_X3_10 rfl dX3_left_31 ?_
      refine lv_aload_n hx hb dX3_left_34 rfl (lv_at hl 0 rfl) ?_
      refine ct_get (C := RX3) (T := TX3) (N := 6) (ci := 3) (v := .ref (a 1 0)) hM hK hP inX3 0 rfl rfl 0 (by decide) wfl_X3_10 rfl dX3_left_35 ?_
      refine ct_get (C := RX1) (T := TX1) (N := 6) (ci := 1) (v := .int (v_cm vN)) hM hK hP inX1 3 rfl rfl 4 (by decide) wfl_X3_58 rfl dX3_left_38 ?_
      obtain ⟨h9, hO⟩ := hO
      obtain ⟨q10, e11⟩ : ∃ q, fX2_run vN w (v_cm vN) = q := ⟨_, rfl⟩
      have hF := lt_n e11 hF
      try have hO := lo_n e11 hO
      refine ct_callV (ws' := gwFF cy a kp vN vT vI vJ q10 pd) hM hK hP hD hS (kX2_run l D cy (a 1) (a 5) vN w (v_cm vN) h9 e11) kvX2_run wml_X3_94 [3, 4, 5, 6, 7, 8, 27, 28, 29, 30, 31] rfl (by decide) rfl rfl rfl 27 rfl rfl rfl rfl hl.1 rfl ⟨rfl, rfl, Nat.le_of_ble_eq_true rfl, Nat.le_of_ble_eq_true rfl⟩ (Nat.le_of_ble_eq_true rfl) ⟨Nat.zero_le _, Nat.zero_le _⟩ dX3_left_41 (fun H locs hP hD hS => ?_)
      refine W.eq (g2 := F0 m 44 ls []) rfl ?_
      refine lv_iload_n hx hb dX3_left_44 rfl (lv_at hl 1 rfl) ?_
      refine lv_istore_n (lv' := [(3, .int s1), (0, .ref (a 0 0)), (1, .int s1), (2, .int s2)]) hx hb dX3_left_45 rfl hl (by decide) rfl (fun ls hl => ?_)
      refine lv_iconst (v := 0) hx hb dX3_left_46 (by decide) ?_
      refine lv_istore (lv' := [(4, .int 0), (3, .int s1), (0, .ref (a 0 0)), (1, .int s1), (2, .int s2)]) hx hb dX3_left_47 hl (by decide) rfl (fun ls hl => ?_)
      exact tX3_left_49 hM hK 9 s1 0 H locs ls hP hD hS (lv_sub hl [2, 3, 4, 1, 0] rfl) hO hF
    · have hF := lt_t c8 hF
      have hO := lo_t c8 hO
      refine lv_bipush (v := (-2)) hx hb dX3_left_23 (by decide) ?_
      subst hF
      exact ct_iret hM hP hS dX3_left_25
  · have hF := lt_t c4 hF
    have hO := lo_t c4 hO
    refine lv_iconst (v := (-1)) hx hb dX3_left_11 (by decide) ?_
    subst hF
    exact ct_iret hM hP hS dX3_left_12

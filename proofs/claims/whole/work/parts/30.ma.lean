abbrev rX4_comes : Room := { frames := 2, cells := 0, slots := 0, locals := 45 }
def fX4_comes (x : tMs) (s1 : Int32) : Int32 := lt_ (fX4_isPerson s1) fun q2 => if q2 = 0 then 0 else (if ((m_co x >>> (s1 &&& 31)) &&& 1) = 1 then 1 else 0)
def oX4_comes (x : tMs) (s1 : Int32) : Prop := oX4_isPerson s1 ∧ True
theorem kvX4_comes : KV yX4_comes cX4_comes 2 (some .boolean) 1 := ⟨wcd_X4_comes, wim_X4_comes, wsl_X4_comes, win_X4, by decide +kernel, by decide +kernel, by decide +kernel⟩
set_option maxHeartbeats 4000000 in
set_option maxRecDepth 100000 in
theorem kX4_comes (l : Launch) (D : va_G) (cy : Nat → ClassId) (a : Nat → Nat) (x : tMs) (s1 : Int32) {R : Int32} (hO : oX4_comes x s1) (hF : fX4_comes x s1 = R) : CT l D cy yX4_comes cX4_comes 2 (some .boolean) rX4_comes [.ref (a 0), .int s1] (gwM cy a x) (some (.int R)) (gwM cy a x) := by
  refine ct_of (by decide) (Nat.le_of_ble_eq_true rfl) ?_
  intro p e s m args below meth c A ls hM hK hP hD hS hl
  obtain ⟨hx, hb, -, hml, hown, hts, -⟩ := id hM
  have hl : lv_has ls 2 [(0, .ref (a 0)), (1, .int s1)] := hl
  obtain ⟨H, hH⟩ : ∃ H : Heap, H = s.heap := ⟨_, rfl⟩
  obtain ⟨locs, hlocs⟩ : ∃ q : List Loc, q = [] := ⟨_, rfl⟩
  have hP : va_P D classes (gwM cy a x) H := by rw [hH]; exact hP
  have hS : va_S A s.heap H locs := by rw [hH, hlocs]; exact hS
  suffices hg : W p l e rX4_comes s m args below meth c H locs 0 0 (MQ below (ctQ D (some (.int R)) (gwM cy a x) A) args s 0 0 A) (F0 m 0 ls []) by rw [hH, hlocs] at hg; exact hg
  clear hH hlocs
  unfold fX4_comes at hF
  unfold oX4_comes at hO
  refine lv_iload_n hx hb dX4_comes_0 rfl (lv_at hl 1 rfl) ?_
  obtain ⟨h1, hO⟩ := hO
  obtain ⟨q2, e3⟩ : ∃ q, fX4_isPerson s1 = q := ⟨_, rfl⟩
  have hF := lt_n e3 hF
  try have hO := lo_n e3 hO
  refine ct_callS hM hK hP hD hS (kX4_isPerson l D cy s1 h1 e3) kvX4_isPerson wml_X4_63 rfl hl.1 rfl ⟨rfl, rfl, Nat.le_of_ble_eq_true rfl, Nat.le_of_ble_eq_true rfl⟩ (Nat.le_of_ble_eq_true rfl) ⟨Nat.zero_le _, Nat.zero_le _⟩ dX4_comes_1 (fun H locs hP hD hS => ?_)
  refine W.eq (g2 := F0 m 4 ls [.int q2]) rfl ?_
  have hP : va_P D classes (gwM cy a x) H := hP
  have hD : va_D A (gwM cy a x) := hD
  refine lv_if_eq (tgt := 23) hx hb dX4_comes_4 (by decide) (fun c4 => ?_) (fun c4 => ?_)
  · have hF := lt_t c4 hF
    refine lv_iconst (v := 0) hx hb dX4_comes_23 (by decide) ?_
    subst hF
    exact ct_zret (r := 0) hM hP hS rfl dX4_comes_24
  · have hF := lt_f c4 hF
    refine lv_aload_n hx hb dX4_comes_7 rfl (lv_at hl 0 rfl) ?_
    refine ct_get (C := RX4) (T := TX4) (N := 24) (ci := 4) (v := .int (m_co x)) hM hK hP inX4 0 rfl rfl 0 (by decide) wfl_X4_67 rfl dX4_comes_8 ?_
    refine lv_iload_n hx hb dX4_comes_11 rfl (lv_at hl 1 rfl) ?_
    refine lv_ishr hx hb dX4_comes_12 ?_
    refine lv_iconst (v := 1) hx hb dX4_comes_13 (by decide) ?_
    refine lv_iand hx hb dX4_comes_14 ?_
    refine lv_iconst (v := 1) hx hb dX4_comes_15 (by decide) ?_
    refine lv_icmp_ne (tgt := 23) hx hb dX4_comes_16 (by decide) (fun c5 => ?_) (fun c5 => ?_)
    · have hF := lt_f c5 hF
      refine lv_iconst (v := 0) hx hb dX4_comes_23 (by decide) ?_
      subst hF
      exact ct_zret (r := 0) hM hP hS rfl dX4_comes_24
    · have hF := lt_t c5 hF
      refine lv_iconst (v := 1) hx hb dX4_comes_19 (by decide) ?_
      refine lv_goto (tgt := 24) hx hb dX4_comes_20 (by decide) ?_
      subst hF
      exact ct_zret (r := 1) hM hP hS rfl dX4_comes_24

abbrev rX4_come : Room := { frames := 2, cells := 0, slots := 0, locals := 45 }
def fX4_come (x : tMs) (s1 : Int32) (s2 : Int32) (s3 : Int32) (s4 : Int32) (s5 : Int32) : Int32 × tMs := lt_ (fX4_isPerson s1) fun q2 => if q2 = 0 then ((-1), x) else (lt_ (fX4_in (Int32.toInt64 s2) 0 99) fun q6 => if q6 = 0 then ((-2), x) else (lt_ (fX4_in (Int32.toInt64 s3) 0 999) fun q10 => if q10 = 0 then ((-2), x) else (lt_ (fX4_in (Int32.toInt64 s4) 1 9) fun q14 => if q14 = 0 then ((-2), x) else (if s5 = 0 then (lt_ (m_co x ||| (1 <<< (s1 &&& 31))) fun x19 => lt_ (fX4_ones x19) fun q22 => (q22, (x19, upd (m_mi x) (Int32.toNatClampNeg s1) s2, upd (m_mn x) (Int32.toNatClampNeg s1) s3, upd (m_pa x) (Int32.toNatClampNeg s1) s4, upd (m_ca x) (Int32.toNatClampNeg s1) 0, m_dr x, m_fa x, m_st x, m_ha x, m_pd x, m_pn x, m_fr x, m_at x, m_wa x, m_en x, m_to x, m_or x, m_my x, m_bf x, m_bs x, m_kp x, m_ik x, m_ka x, m_iw x))) else (lt_ (m_co x ||| (1 <<< (s1 &&& 31))) fun x24 => lt_ (fX4_ones x24) fun q27 => (q27, (x24, upd (m_mi x) (Int32.toNatClampNeg s1) s2, upd (m_mn x) (Int32.toNatClampNeg s1) s3, upd (m_pa x) (Int32.toNatClampNeg s1) s4, upd (m_ca x) (Int32.toNatClampNeg s1) 1, m_dr x, m_fa x, m_st x, m_ha x, m_pd x, m_pn x, m_fr x, m_at x, m_wa x, m_en x, m_to x, m_or x, m_my x, m_bf x, m_bs x, m_kp x, m_ik x, m_ka x, m_iw x)))))))
def oX4_come (x : tMs) (s1 : Int32) (s2 : Int32) (s3 : Int32) (s4 : Int32) (s5 : Int32) : Prop := oX4_isPerson s1 ∧ (lo_ (fX4_isPerson s1) fun q2 => if q2 = 0 then True else (lo_ (fX4_in (Int32.toInt64 s2) 0 99) fun q6 => if q6 = 0 then True else (lo_ (fX4_in (Int32.toInt64 s3) 0 999) fun q10 => if q10 = 0 then True else (lo_ (fX4_in (Int32.toInt64 s4) 1 9) fun q14 => if q14 = 0 then True else (vp_in s1 8 ∧ (if s5 = 0 then (lo_ (m_co x ||| (1 <<< (s1 &&& 31))) fun x19 => oX4_ones x19 ∧ True) else (lo_ (m_co x ||| (1 <<< (s1 &&& 31))) fun x24 => oX4_ones x24 ∧ True)))))))
theorem kvX4_come : KV yX4_come cX4_come 6 (some .int) 5 := ⟨wcd_X4_come, wim_X4_come, wsl_X4_come, win_X4, by decide +kernel, by decide +kernel, by decide +kernel⟩
set_option maxHeartbeats 4000000 in
set_option maxRecDepth 100000 in
theorem kX4_come (l : Launch) (D : va_G) (cy : Nat → ClassId) (a : Nat → Nat) (x : tMs) (s1 : Int32) (s2 : Int32) (s3 : Int32) (s4 : Int32) (s5 : Int32) {R : Int32 × tMs} (hO : oX4_come x s1 s2 s3 s4 s5) (hF : fX4_come x s1 s2 s3 s4 s5 = R) : CT l D cy yX4_come cX4_come 6 (some .int) rX4_come [.ref (a 0), .int s1, .int s2, .int s3, .int s4, .int s5] (gwM cy a x) (some (.int R.1)) (gwM cy a R.2) := by
  refine ct_of (by decide) (Nat.le_of_ble_eq_true rfl) ?_
  intro p e s m args below meth c A ls hM hK hP hD hS hl
  obtain ⟨hx, hb, -, hml, hown, hts, -⟩ := id hM
  have hl : lv_has ls 6 [(0, .ref (a 0)), (1, .int s1), (2, .int s2), (3, .int s3), (4, .int s4), (5, .int s5)] := hl
  obtain ⟨H, hH⟩ : ∃ H : Heap, H = s.heap := ⟨_, rfl⟩
  obtain ⟨locs, hlocs⟩ : ∃ q : List Loc, q = [] := ⟨_, rfl⟩
  have hP : va_P D classes (gwM cy a x) H := by rw [hH]; exact hP
  have hS : va_S A s.heap H locs := by rw [hH, hlocs]; exact hS
  suffices hg : W p l e rX4_come s m args below meth c H locs 0 0 (MQ below (ctQ D (some (.int R.1)) (gwM cy a R.2) A) args s 0 0 A) (F0 m 0 ls []) by rw [hH, hlocs] at hg; exact hg
  clear hH hlocs
  unfold fX4_come at hF
  unfold oX4_come at hO
  refine lv_iload_n hx hb dX4_come_0 rfl (lv_at hl 1 rfl) ?_
  obtain ⟨h1, hO⟩ := hO
  obtain ⟨q2, e3⟩ : ∃ q, fX4_isPerson s1 = q := ⟨_, rfl⟩
  have hF := lt_n e3 hF
  try have hO := lo_n e3 hO
  refine ct_callS hM hK hP hD hS (kX4_isPerson l D cy s1 h1 e3) kvX4_isPerson wml_X4_63 rfl hl.1 rfl ⟨rfl, rfl, Nat.le_of_ble_eq_true rfl, Nat.le_of_ble_eq_true rfl⟩ (Nat.le_of_ble_eq_true rfl) ⟨Nat.zero_le _, Nat.zero_le _⟩ dX4_come_1 (fun H locs hP hD hS => ?_)
  refine W.eq (g2 := F0 m 4 ls [.int q2]) rfl ?_
  have hP : va_P D classes (gwM cy a x) H := hP
  have hD : va_D A (gwM cy a x) := hD
  refine lv_if_ne (tgt := 9) hx hb dX4_come_4 (by decide) (fun c4 => ?_) (fun c4 => ?_)
  · have hF := lt_f c4 hF
    have hO := lo_f c4 hO
    refine lv_iload_n hx hb dX4_come_9 rfl (lv_at hl 2 rfl) ?_
    refine lv_i2l (v := Int32.toInt64 s2) hx hb dX4_come_10 rfl ?_
    refine lv_lconst (v := 0) hx hb dX4_come_11 rfl ?_
    refine lv_ldc2 (v := 99) hx hb hown (hts _ wct_X4_70) dX4_come_12 ?_
    obtain ⟨q6, e7⟩ : ∃ q, fX4_in (Int32.toInt64 s2) 0 99 = q := ⟨_, rfl⟩
    have hF := lt_n e7 hF
    try have hO := lo_n e7 hO
    refine ct_callS hM hK hP hD hS (kX4_in l D cy (Int32.toInt64 s2) 0 99 trivial e7) kvX4_in wml_X4_59 rfl hl.1 rfl ⟨rfl, rfl, Nat.le_of_ble_eq_true rfl, Nat.le_of_ble_eq_true rfl⟩ (Nat.le_of_ble_eq_true rfl) ⟨Nat.zero_le _, Nat.zero_le _⟩ dX4_come_15 (fun H locs hP hD hS => ?_)
    refine W.eq (g2 := F0 m 18 ls [.int q6]) rfl ?_
    have hP : va_P D classes (gwM cy a x) H := hP
    have hD : va_D A (gwM cy a x) := hD
    refine lv_if_eq (tgt := 46) hx hb dX4_come_18 (by decide) (fun c8 => ?_) (fun c8 => ?_)
    · have hF := lt_t c8 hF
      have hO := lo_t c8 hO
      refine lv_bipush (v := (-2)) hx hb dX4_come_46 (by decide) ?_
      subst hF
      exact ct_iret hM hP hS dX4_come_48
    · have hF := lt_f c8 hF
      have hO := lo_f c8 hO
      refine lv_iload_n hx hb dX4_come_21 rfl (lv_at hl 3 rfl) ?_
      refine lv_i2l (v := Int32.toInt64 s3) hx hb dX4_come_22 rfl ?_
      refine lv_lconst (v := 0) hx hb dX4_come_23 rfl ?_
      refine lv_ldc2 (v := 999) hx hb hown (hts _ wct_X4_72) dX4_come_24 ?_
      obtain ⟨q10, e11⟩ : ∃ q, fX4_in (Int32.toInt64 s3) 0 999 = q := ⟨_, rfl⟩
      have hF := lt_n e11 hF
      try have hO := lo_n e11 hO
      refine ct_callS hM hK hP hD hS (kX4_in l D cy (Int32.toInt64 s3) 0 999 trivial e11) kvX4_in wml_X4_59 rfl hl.1 rfl ⟨rfl, rfl, Nat.le_of_ble_eq_true rfl, Nat.le_of_ble_eq_true rfl⟩ (Nat.le_of_ble_eq_true rfl) ⟨Nat.zero_le _, Nat.zero_le _⟩ dX4_come_27 (fun H locs hP hD hS => ?_)
      refine W.eq (g2 := F0 m 30 ls [.int q10]) rfl ?_
      have hP : va_P D classes (gwM cy a x) H := hP
      have hD : va_D A (gwM cy a x) := hD
      refine lv_if_eq (tgt := 46) hx hb dX4_come_30 (by decide) (fun c12 => ?_) (fun c12 => ?_)
      · have hF := lt_t c12 hF
        have hO := lo_t c12 hO
        refine lv_bipush (v := (-2)) hx hb dX4_come_46 (by decide) ?_
        subst hF
        exact ct_iret hM hP hS dX4_come_48
      · have hF := lt_f c12 hF
        have hO := lo_f c12 hO
        refine lv_iload hx hb dX4_come_33 (lv_at hl 4 rfl) ?_
        refine lv_i2l (v := Int32.toInt64 s4) hx hb dX4_come_35 rfl ?_
        refine lv_lconst (v := 1) hx hb dX4_come_36 rfl ?_
        refine lv_ldc2 (v := 9) hx hb hown (hts _ wct_X4_74) dX4_come_37 ?_
        obtain ⟨q14, e15⟩ : ∃ q, fX4_in (Int32.toInt64 s4) 1 9 = q := ⟨_, rfl⟩
        have hF := lt_n e15 hF
        try have hO := lo_n e15 hO
        refine ct_callS hM hK hP hD hS (kX4_in l D cy (Int32.toInt64 s4) 1 9 trivial e15) kvX4_in wml_X4_59 rfl hl.1 rfl ⟨rfl, rfl, Nat.le_of_ble_eq_true rfl, Nat.le_of_ble_eq_true rfl⟩ (Nat.le_of_ble_eq_true rfl) ⟨Nat.zero_le _, Nat.zero_le _⟩ dX4_come_40 (fun H locs hP hD hS => ?_)
        refine W.eq (g2 := F0 m 43 ls [.int q14]) rfl ?_
        have hP : va_P D classes (gwM cy a x) H := hP
        have hD : va_D A (gwM cy a x) := hD
        refine lv_if_ne (tgt := 49) hx hb dX4_come_43 (by decide) (fun c16 => ?_) (fun c16 => ?_)
        · have hF := lt_f c16 hF
          have hO := lo_f c16 hO
          refine lv_aload_n hx hb dX4_come_49 rfl (lv_at hl 0 rfl) ?_
          refine ct_get (C := RX4) (T := TX4) (N := 24) (ci := 4) (v := .ref (a 1)) hM hK hP inX4 0 rfl rfl 1 (by decide) wfl_X4_7 rfl dX4_come_50 ?_
          refine lv_iload_n hx hb dX4_come_53 rfl (lv_at hl 1 rfl) ?_
          refine lv_iload_n hx hb dX4_come_54 rfl (lv_at hl 2 rfl) ?_
          obtain ⟨h17, hO⟩ := hO
          refine va_iast hx hb hK hP hD hS 1 0 (f := m_mi x) (n := 8) (cA := cy 0) rfl rfl h17 dX4_come_55 (fun H locs hP hD hS => ?_)
          have hP : va_P D classes (gwM cy a (m_co x, upd (m_mi x) (Int32.toNatClampNeg s1) s2, m_mn x, m_pa x, m_ca x, m_dr x, m_fa x, m_st x, m_ha x, m_pd x, m_pn x, m_fr x, m_at x, m_wa x, m_en x, m_to x, m_or x, m_my x, m_bf x, m_bs x, m_kp x, m_ik x, m_ka x, m_iw x)) H := hP
          have hD : va_D A (gwM cy a (m_co x, upd (m_mi x) (Int32.toNatClampNeg s1) s2, m_mn x, m_pa x, m_ca x, m_dr x, m_fa x, m_st x, m_ha x, m_pd x, m_pn x, m_fr x, m_at x, m_wa x, m_en x, m_to x, m_or x, m_my x, m_bf x, m_bs x, m_kp x, m_ik x, m_ka x, m_iw x)) := hD
          refine lv_aload_n hx hb dX4_come_56 rfl (lv_at hl 0 rfl) ?_
          refine ct_get (C := RX4) (T := TX4) (N := 24) (ci := 4) (v := .ref (a 2)) hM hK hP inX4 0 rfl rfl 2 (by decide) wfl_X4_13 rfl dX4_come_57 ?_
          refine lv_iload_n hx hb dX4_come_60 rfl (lv_at hl 1 rfl) ?_
          refine lv_iload_n hx hb dX4_come_61 rfl (lv_at hl 3 rfl) ?_
          refine va_iast hx hb hK hP hD hS 2 0 (f := m_mn x) (n := 8) (cA := cy 0) rfl rfl h17 dX4_come_62 (fun H locs hP hD hS => ?_)
          have hP : va_P D classes (gwM cy a (m_co x, upd (m_mi x) (Int32.toNatClampNeg s1) s2, upd (m_mn x) (Int32.toNatClampNeg s1) s3, m_pa x, m_ca x, m_dr x, m_fa x, m_st x, m_ha x, m_pd x, m_pn x, m_fr x, m_at x, m_wa x, m_en x, m_to x, m_or x, m_my x, m_bf x, m_bs x, m_kp x, m_ik x, m_ka x, m_iw x)) H := hP
          have hD : va_D A (gwM cy a (m_co x, upd (m_mi x) (Int32.toNatClampNeg s1) s2, upd (m_mn x) (Int32.toNatClampNeg s1) s3, m_pa x, m_ca x, m_dr x, m_fa x, m_st x, m_ha x, m_pd x, m_pn x, m_fr x, m_at x, m_wa x, m_en x, m_to x, m_or x, m_my x, m_bf x, m_bs x, m_kp x, m_ik x, m_ka x, m_iw x)) := hD
          refine lv_aload_n hx hb dX4_come_63 rfl (lv_at hl 0 rfl) ?_
          refine ct_get (C := RX4) (T := TX4) (N := 24) (ci := 4) (v := .ref (a 3)) hM hK hP inX4 0 rfl rfl 3 (by decide) wfl_X4_16 rfl dX4_come_64 ?_
          refine lv_iload_n hx hb dX4_come_67 rfl (lv_at hl 1 rfl) ?_
          refine lv_iload hx hb dX4_come_68 (lv_at hl 4 rfl) ?_
          refine va_iast hx hb hK hP hD hS 3 0 (f := m_pa x) (n := 8) (cA := cy 0) rfl rfl h17 dX4_come_70 (fun H locs hP hD hS => ?_)
          have hP : va_P D classes (gwM cy a (m_co x, upd (m_mi x) (Int32.toNatClampNeg s1) s2, upd (m_mn x) (Int32.toNatClampNeg s1) s3, upd (m_pa x) (Int32.toNatClampNeg s1) s4, m_ca x, m_dr x, m_fa x, m_st x, m_ha x, m_pd x, m_pn x, m_fr x, m_at x, m_wa x, m_en x, m_to x, m_or x, m_my x, m_bf x, m_bs x, m_kp x, m_ik x, m_ka x, m_iw x)) H := hP
          have hD : va_D A (gwM cy a (m_co x, upd (m_mi x) (Int32.toNatClampNeg s1) s2, upd (m_mn x) (Int32.toNatClampNeg s1) s3, upd (m_pa x) (Int32.toNatClampNeg s1) s4, m_ca x, m_dr x, m_fa x, m_st x, m_ha x, m_pd x, m_pn x, m_fr x, m_at x, m_wa x, m_en x, m_to x, m_or x, m_my x, m_bf x, m_bs x, m_kp x, m_ik x, m_ka x, m_iw x)) := hD
          refine lv_aload_n hx hb dX4_come_71 rfl (lv_at hl 0 rfl) ?_
          refine ct_get (C := RX4) (T := TX4) (N := 24) (ci := 4) (v := .ref (a 4)) hM hK hP inX4 0 rfl rfl 4 (by decide) wfl_X4_19 rfl dX4_come_72 ?_
          refine lv_iload_n hx hb dX4_come_75 rfl (lv_at hl 1 rfl) ?_
          refine lv_iload hx hb dX4_come_76 (lv_at hl 5 rfl) ?_
          refine lv_if_eq (tgt := 85) hx hb dX4_come_78 (by decide) (fun c18 => ?_) (fun c18 => ?_)
          · have hF := lt_t c18 hF
            have hO := lo_t c18 hO
            refine lv_iconst (v := 0) hx hb dX4_come_85 (by decide) ?_
            refine va_iast hx hb hK hP hD hS 4 0 (f := m_ca x) (n := 8) (cA := cy 0) rfl rfl h17 dX4_come_86 (fun H locs hP hD hS => ?_)
            have hP : va_P D classes (gwM cy a (m_co x, upd (m_mi x) (Int32.toNatClampNeg s1) s2, upd (m_mn x) (Int32.toNatClampNeg s1) s3, upd (m_pa x) (Int32.toNatClampNeg s1) s4, upd (m_ca x) (Int32.toNatClampNeg s1) 0, m_dr x, m_fa x, m_st x, m_ha x, m_pd x, m_pn x, m_fr x, m_at x, m_wa x, m_en x, m_to x, m_or x, m_my x, m_bf x, m_bs x, m_kp x, m_ik x, m_ka x, m_iw x)) H := hP
            have hD : va_D A (gwM cy a (m_co x, upd (m_mi x) (Int32.toNatClampNeg s1) s2, upd (m_mn x) (Int32.toNatClampNeg s1) s3, upd (m_pa x) (Int32.toNatClampNeg s1) s4, upd (m_ca x) (Int32.toNatClampNeg s1) 0, m_dr x, m_fa x, m_st x, m_ha x, m_pd x, m_pn x, m_fr x, m_at x, m_wa x, m_en x, m_to x, m_or x, m_my x, m_bf x, m_bs x, m_kp x, m_ik x, m_ka x, m_iw x)) := hD
            refine lv_aload_n hx hb dX4_come_87 rfl (lv_at hl 0 rfl) ?_
            refine lv_dup hx hb dX4_come_88 rfl ?_
            refine ct_get (C := RX4) (T := TX4) (N := 24) (ci := 4) (v := .int (m_co x)) hM hK hP inX4 0 rfl rfl 0 (by decide) wfl_X4_67 rfl dX4_come_89 ?_
            refine lv_iconst (v := 1) hx hb dX4_come_92 (by decide) ?_
            refine lv_iload_n hx hb dX4_come_93 rfl (lv_at hl 1 rfl) ?_
            refine lv_ishl hx hb dX4_come_94 ?_
            refine lv_ior hx hb dX4_come_95 ?_
            refine lv_topi (fun x19 e20 => ?_)
            have hF := lt_n e20.symm hF
            try have hO := lo_n e20.symm hO
            refine ct_put1 (C := RX4) (T := TX4) (N := 24) (ci := 4) (v := .int x19) hM hK hP hD hS inX4 tyX4 tyX4_ok nmX4 0 rfl rfl 0 (by decide) wfl_X4_67 rfl (by first | rfl | decide) (by first | rfl | decide) (Nat.le_of_ble_eq_true rfl) dX4_come_96 (fun H locs hP hD hS => ?_)
            have hP : va_P D classes (gwM cy a (x19, upd (m_mi x) (Int32.toNatClampNeg s1) s2, upd (m_mn x) (Int32.toNatClampNeg s1) s3, upd (m_pa x) (Int32.toNatClampNeg s1) s4, upd (m_ca x) (Int32.toNatClampNeg s1) 0, m_dr x, m_fa x, m_st x, m_ha x, m_pd x, m_pn x, m_fr x, m_at x, m_wa x, m_en x, m_to x, m_or x, m_my x, m_bf x, m_bs x, m_kp x, m_ik x, m_ka x, m_iw x)) H := hP
            have hD : va_D A (gwM cy a (x19, upd (m_mi x) (Int32.toNatClampNeg s1) s2, upd (m_mn x) (Int32.toNatClampNeg s1) s3, upd (m_pa x) (Int32.toNatClampNeg s1) s4, upd (m_ca x) (Int32.toNatClampNeg s1) 0, m_dr x, m_fa x, m_st x, m_ha x, m_pd x, m_pn x, m_fr x, m_at x, m_wa x, m_en x, m_to x, m_or x, m_my x, m_bf x, m_bs x, m_kp x, m_ik x, m_ka x, m_iw x)) := hD
            refine lv_aload_n hx hb dX4_come_99 rfl (lv_at hl 0 rfl) ?_
            refine ct_get (C := RX4) (T := TX4) (N := 24) (ci := 4) (v := .int x19) hM hK hP inX4 0 rfl rfl 0 (by decide) wfl_X4_67 rfl dX4_come_100 ?_
            obtain ⟨h21, hO⟩ := hO
            obtain ⟨q22, e23⟩ : ∃ q, fX4_ones x19 = q := ⟨_, rfl⟩
            have hF := lt_n e23 hF
            try have hO := lo_n e23 hO
            refine ct_callS hM hK hP hD hS (kX4_ones l D cy x19 h21 e23) kvX4_ones wml_X4_76 rfl hl.1 rfl ⟨rfl, rfl, Nat.le_of_ble_eq_true rfl, Nat.le_of_ble_eq_true rfl⟩ (Nat.le_of_ble_eq_true rfl) ⟨Nat.zero_le _, Nat.zero_le _⟩ dX4_come_103 (fun H locs hP hD hS => ?_)
            refine W.eq (g2 := F0 m 106 ls [.int q22]) rfl ?_
            have hP : va_P D classes (gwM cy a (x19, upd (m_mi x) (Int32.toNatClampNeg s1) s2, upd (m_mn x) (Int32.toNatClampNeg s1) s3, upd (m_pa x) (Int32.toNatClampNeg s1) s4, upd (m_ca x) (Int32.toNatClampNeg s1) 0, m_dr x, m_fa x, m_st x, m_ha x, m_pd x, m_pn x, m_fr x, m_at x, m_wa x, m_en x, m_to x, m_or x, m_my x, m_bf x, m_bs x, m_kp x, m_ik x, m_ka x, m_iw x)) H := hP
            have hD : va_D A (gwM cy a (x19, upd (m_mi x) (Int32.toNatClampNeg s1) s2, upd (m_mn x) (Int32.toNatClampNeg s1) s3, upd (m_pa x) (Int32.toNatClampNeg s1) s4, upd (m_ca x) (Int32.toNatClampNeg s1) 0, m_dr x, m_fa x, m_st x, m_ha x, m_pd x, m_pn x, m_fr x, m_at x, m_wa x, m_en x, m_to x, m_or x, m_my x, m_bf x, m_bs x, m_kp x, m_ik x, m_ka x, m_iw x)) := hD
            subst hF
            exact ct_iret hM hP hS dX4_come_106
          · have hF := lt_f c18 hF
            have hO := lo_f c18 hO
            refine lv_iconst (v := 1) hx hb dX4_come_81 (by decide) ?_
            refine lv_goto (tgt := 86) hx hb dX4_come_82 (by decide) ?_
            refine va_iast hx hb hK hP hD hS 4 0 (f := m_ca x) (n := 8) (cA := cy 0) rfl rfl h17 dX4_come_86 (fun H locs hP hD hS => ?_)
            have hP : va_P D classes (gwM cy a (m_co x, upd (m_mi x) (Int32.toNatClampNeg s1) s2, upd (m_mn x) (Int32.toNatClampNeg s1) s3, upd (m_pa x) (Int32.toNatClampNeg s1) s4, upd (m_ca x) (Int32.toNatClampNeg s1) 1, m_dr x, m_fa x, m_st x, m_ha x, m_pd x, m_pn x, m_fr x, m_at x, m_wa x, m_en x, m_to x, m_or x, m_my x, m_bf x, m_bs x, m_kp x, m_ik x, m_ka x, m_iw x)) H := hP
            have hD : va_D A (gwM cy a (m_co x, upd (m_mi x) (Int32.toNatClampNeg s1) s2, upd (m_mn x) (Int32.toNatClampNeg s1) s3, upd (m_pa x) (Int32.toNatClampNeg s1) s4, upd (m_ca x) (Int32.toNatClampNeg s1) 1, m_dr x, m_fa x, m_st x, m_ha x, m_pd x, m_pn x, m_fr x, m_at x, m_wa x, m_en x, m_to x, m_or x, m_my x, m_bf x, m_bs x, m_kp x, m_ik x, m_ka x, m_iw x)) := hD
            refine lv_aload_n hx hb dX4_come_87 rfl (lv_at hl 0 rfl) ?_
            refine lv_dup hx hb dX4_come_88 rfl ?_
            refine ct_get (C := RX4) (T := TX4) (N := 24) (ci := 4) (v := .int (m_co x)) hM hK hP inX4 0 rfl rfl 0 (by decide) wfl_X4_67 rfl dX4_come_89 ?_
            refine lv_iconst (v := 1) hx hb dX4_come_92 (by decide) ?_
            refine lv_iload_n hx hb dX4_come_93 rfl (lv_at hl 1 rfl) ?_
            refine lv_ishl hx hb dX4_come_94 ?_
            refine lv_ior hx hb dX4_come_95 ?_
            refine lv_topi (fun x24 e25 => ?_)
            have hF := lt_n e25.symm hF
            try have hO := lo_n e25.symm hO
            refine ct_put1 (C := RX4) (T := TX4) (N := 24) (ci := 4) (v := .int x24) hM hK hP hD hS inX4 tyX4 tyX4_ok nmX4 0 rfl rfl 0 (by decide) wfl_X4_67 rfl (by first | rfl | decide) (by first | rfl | decide) (Nat.le_of_ble_eq_true rfl) dX4_come_96 (fun H locs hP hD hS => ?_)
            have hP : va_P D classes (gwM cy a (x24, upd (m_mi x) (Int32.toNatClampNeg s1) s2, upd (m_mn x) (Int32.toNatClampNeg s1) s3, upd (m_pa x) (Int32.toNatClampNeg s1) s4, upd (m_ca x) (Int32.toNatClampNeg s1) 1, m_dr x, m_fa x, m_st x, m_ha x, m_pd x, m_pn x, m_fr x, m_at x, m_wa x, m_en x, m_to x, m_or x, m_my x, m_bf x, m_bs x, m_kp x, m_ik x, m_ka x, m_iw x)) H := hP
            have hD : va_D A (gwM cy a (x24, upd (m_mi x) (Int32.toNatClampNeg s1) s2, upd (m_mn x) (Int32.toNatClampNeg s1) s3, upd (m_pa x) (Int32.toNatClampNeg s1) s4, upd (m_ca x) (Int32.toNatClampNeg s1) 1, m_dr x, m_fa x, m_st x, m_ha x, m_pd x, m_pn x, m_fr x, m_at x, m_wa x, m_en x, m_to x, m_or x, m_my x, m_bf x, m_bs x, m_kp x, m_ik x, m_ka x, m_iw x)) := hD
            refine lv_aload_n hx hb dX4_come_99 rfl (lv_at hl 0 rfl) ?_
            refine ct_get (C := RX4) (T := TX4) (N := 24) (ci := 4) (v := .int x24) hM hK hP inX4 0 rfl rfl 0 (by decide) wfl_X4_67 rfl dX4_come_100 ?_
            obtain ⟨h26, hO⟩ := hO
            obtain ⟨q27, e28⟩ : ∃ q, fX4_ones x24 = q := ⟨_, rfl⟩
            have hF := lt_n e28 hF
            try have hO := lo_n e28 hO
            refine ct_callS hM hK hP hD hS (kX4_ones l D cy x24 h26 e28) kvX4_ones wml_X4_76 rfl hl.1 rfl ⟨rfl, rfl, Nat.le_of_ble_eq_true rfl, Nat.le_of_ble_eq_true rfl⟩ (Nat.le_of_ble_eq_true rfl) ⟨Nat.zero_le _, Nat.zero_le _⟩ dX4_come_103 (fun H locs hP hD hS => ?_)
            refine W.eq (g2 := F0 m 106 ls [.int q27]) rfl ?_
            have hP : va_P D classes (gwM cy a (x24, upd (m_mi x) (Int32.toNatClampNeg s1) s2, upd (m_mn x) (Int32.toNatClampNeg s1) s3, upd (m_pa x) (Int32.toNatClampNeg s1) s4, upd (m_ca x) (Int32.toNatClampNeg s1) 1, m_dr x, m_fa x, m_st x, m_ha x, m_pd x, m_pn x, m_fr x, m_at x, m_wa x, m_en x, m_to x, m_or x, m_my x, m_bf x, m_bs x, m_kp x, m_ik x, m_ka x, m_iw x)) H := hP
            have hD : va_D A (gwM cy a (x24, upd (m_mi x) (Int32.toNatClampNeg s1) s2, upd (m_mn x) (Int32.toNatClampNeg s1) s3, upd (m_pa x) (Int32.toNatClampNeg s1) s4, upd (m_ca x) (Int32.toNatClampNeg s1) 1, m_dr x, m_fa x, m_st x, m_ha x, m_pd x, m_pn x, m_fr x, m_at x, m_wa x, m_en x, m_to x, m_or x, m_my x, m_bf x, m_bs x, m_kp x, m_ik x, m_ka x, m_iw x)) := hD
            subst hF
            exact ct_iret hM hP hS dX4_come_106
        · have hF := lt_t c16 hF
          have hO := lo_t c16 hO
          refine lv_bipush (v := (-2)) hx hb dX4_come_46 (by decide) ?_
          subst hF
          exact ct_iret hM hP hS dX4_come_48
  · have hF := lt_t c4 hF
    have hO := lo_t c4 hO
    refine lv_iconst (v := (-1)) hx hb dX4_come_7 (by decide) ?_
    subst hF
    exact ct_iret hM hP hS dX4_come_8

abbrev rX4_stays : Room := { frames := 3, cells := 0, slots := 0, locals := 66 }
def fX4_stays (x : tMs) (s1 : Int32) : Int32 × tMs := lt_ (fX4_comes x s1) fun q2 => if q2 = 0 then ((-1), x) else (lt_ (m_co x &&& ((1 <<< (s1 &&& 31)) ^^^ (-1))) fun x5 => lt_ (fX4_ones x5) fun q8 => (q8, (x5, m_mi x, m_mn x, m_pa x, m_ca x, m_dr x, m_fa x, m_st x, m_ha x, m_pd x, m_pn x, m_fr x, m_at x, m_wa x, m_en x, m_to x, m_or x, m_my x, m_bf x, m_bs x, m_kp x, m_ik x, m_ka x, m_iw x)))
def oX4_stays (x : tMs) (s1 : Int32) : Prop := oX4_comes x s1 ∧ (lo_ (fX4_comes x s1) fun q2 => if q2 = 0 then True else (lo_ (m_co x &&& ((1 <<< (s1 &&& 31)) ^^^ (-1))) fun x5 => oX4_ones x5 ∧ True))
theorem kvX4_stays : KV yX4_stays cX4_stays 2 (some .int) 1 := ⟨wcd_X4_stays, wim_X4_stays, wsl_X4_stays, win_X4, by decide +kernel, by decide +kernel, by decide +kernel⟩
set_option maxHeartbeats 4000000 in
set_option maxRecDepth 100000 in
theorem kX4_stays (l : Launch) (D : va_G) (cy : Nat → ClassId) (a : Nat → Nat) (x : tMs) (s1 : Int32) {R : Int32 × tMs} (hO : oX4_stays x s1) (hF : fX4_stays x s1 = R) : CT l D cy yX4_stays cX4_stays 2 (some .int) rX4_stays [.ref (a 0), .int s1] (gwM cy a x) (some (.int R.1)) (gwM cy a R.2) := by
  refine ct_of (by decide) (Nat.le_of_ble_eq_true rfl) ?_
  intro p e s m args below meth c A ls hM hK hP hD hS hl
  obtain ⟨hx, hb, -, hml, hown, hts, -⟩ := id hM
  have hl : lv_has ls 2 [(0, .ref (a 0)), (1, .int s1)] := hl
  obtain ⟨H, hH⟩ : ∃ H : Heap, H = s.heap := ⟨_, rfl⟩
  obtain ⟨locs, hlocs⟩ : ∃ q : List Loc, q = [] := ⟨_, rfl⟩
  have hP : va_P D classes (gwM cy a x) H := by rw [hH]; exact hP
  have hS : va_S A s.heap H locs := by rw [hH, hlocs]; exact hS
  suffices hg : W p l e rX4_stays s m args below meth c H locs 0 0 (MQ below (ctQ D (some (.int R.1)) (gwM cy a R.2) A) args s 0 0 A) (F0 m 0 ls []) by rw [hH, hlocs] at hg; exact hg
  clear hH hlocs
  unfold fX4_stays at hF
  unfold oX4_stays at hO
  refine lv_aload_n hx hb dX4_stays_0 rfl (lv_at hl 0 rfl) ?_
  refine lv_iload_n hx hb dX4_stays_1 rfl (lv_at hl 1 rfl) ?_
  obtain ⟨h1, hO⟩ := hO
  obtain ⟨q2, e3⟩ : ∃ q, fX4_comes x s1 = q := ⟨_, rfl⟩
  have hF := lt_n e3 hF
  try have hO := lo_n e3 hO
  refine ct_callF hM hK hP hD hS (kX4_comes l D cy a x s1 h1 e3) kvX4_comes wml_X4_80 rfl 0 rfl rfl rfl rfl hl.1 rfl ⟨rfl, rfl, Nat.le_of_ble_eq_true rfl, Nat.le_of_ble_eq_true rfl⟩ (Nat.le_of_ble_eq_true rfl) ⟨Nat.zero_le _, Nat.zero_le _⟩ dX4_stays_2 (fun H locs hP hD hS => ?_)
  refine W.eq (g2 := F0 m 5 ls [.int q2]) rfl ?_
  refine lv_if_ne (tgt := 10) hx hb dX4_stays_5 (by decide) (fun c4 => ?_) (fun c4 => ?_)
  · have hF := lt_f c4 hF
    have hO := lo_f c4 hO
    refine lv_aload_n hx hb dX4_stays_10 rfl (lv_at hl 0 rfl) ?_
    refine lv_dup hx hb dX4_stays_11 rfl ?_
    refine ct_get (C := RX4) (T := TX4) (N := 24) (ci := 4) (v := .int (m_co x)) hM hK hP inX4 0 rfl rfl 0 (by decide) wfl_X4_67 rfl dX4_stays_12 ?_
    refine lv_iconst (v := 1) hx hb dX4_stays_15 (by decide) ?_
    refine lv_iload_n hx hb dX4_stays_16 rfl (lv_at hl 1 rfl) ?_
    refine lv_ishl hx hb dX4_stays_17 ?_
    refine lv_iconst (v := (-1)) hx hb dX4_stays_18 (by decide) ?_
    refine lv_ixor hx hb dX4_stays_19 ?_
    refine lv_iand hx hb dX4_stays_20 ?_
    refine lv_topi (fun x5 e6 => ?_)
    have hF := lt_n e6.symm hF
    try have hO := lo_n e6.symm hO
    refine ct_put1 (C := RX4) (T := TX4) (N := 24) (ci := 4) (v := .int x5) hM hK hP hD hS inX4 tyX4 tyX4_ok nmX4 0 rfl rfl 0 (by decide) wfl_X4_67 rfl (by first | rfl | decide) (by first | rfl | decide) (Nat.le_of_ble_eq_true rfl) dX4_stays_21 (fun H locs hP hD hS => ?_)
    have hP : va_P D classes (gwM cy a (x5, m_mi x, m_mn x, m_pa x, m_ca x, m_dr x, m_fa x, m_st x, m_ha x, m_pd x, m_pn x, m_fr x, m_at x, m_wa x, m_en x, m_to x, m_or x, m_my x, m_bf x, m_bs x, m_kp x, m_ik x, m_ka x, m_iw x)) H := hP
    have hD : va_D A (gwM cy a (x5, m_mi x, m_mn x, m_pa x, m_ca x, m_dr x, m_fa x, m_st x, m_ha x, m_pd x, m_pn x, m_fr x, m_at x, m_wa x, m_en x, m_to x, m_or x, m_my x, m_bf x, m_bs x, m_kp x, m_ik x, m_ka x, m_iw x)) := hD
    refine lv_aload_n hx hb dX4_stays_24 rfl (lv_at hl 0 rfl) ?_
    refine ct_get (C := RX4) (T := TX4) (N := 24) (ci := 4) (v := .int x5) hM hK hP inX4 0 rfl rfl 0 (by decide) wfl_X4_67 rfl dX4_stays_25 ?_
    obtain ⟨h7, hO⟩ := hO
    obtain ⟨q8, e9⟩ : ∃ q, fX4_ones x5 = q := ⟨_, rfl⟩
    have hF := lt_n e9 hF
    try have hO := lo_n e9 hO
    refine ct_callS hM hK hP hD hS (kX4_ones l D cy x5 h7 e9) kvX4_ones wml_X4_76 rfl hl.1 rfl ⟨rfl, rfl, Nat.le_of_ble_eq_true rfl, Nat.le_of_ble_eq_true rfl⟩ (Nat.le_of_ble_eq_true rfl) ⟨Nat.zero_le _, Nat.zero_le _⟩ dX4_stays_28 (fun H locs hP hD hS => ?_)
    refine W.eq (g2 := F0 m 31 ls [.int q8]) rfl ?_
    have hP : va_P D classes (gwM cy a (x5, m_mi x, m_mn x, m_pa x, m_ca x, m_dr x, m_fa x, m_st x, m_ha x, m_pd x, m_pn x, m_fr x, m_at x, m_wa x, m_en x, m_to x, m_or x, m_my x, m_bf x, m_bs x, m_kp x, m_ik x, m_ka x, m_iw x)) H := hP
    have hD : va_D A (gwM cy a (x5, m_mi x, m_mn x, m_pa x, m_ca x, m_dr x, m_fa x, m_st x, m_ha x, m_pd x, m_pn x, m_fr x, m_at x, m_wa x, m_en x, m_to x, m_or x, m_my x, m_bf x, m_bs x, m_kp x, m_ik x, m_ka x, m_iw x)) := hD
    subst hF
    exact ct_iret hM hP hS dX4_stays_31
  · have hF := lt_t c4 hF
    have hO := lo_t c4 hO
    refine lv_iconst (v := (-1)) hx hb dX4_stays_8 (by decide) ?_
    subst hF
    exact ct_iret hM hP hS dX4_stays_9

abbrev rX4_person : Room := { frames := 3, cells := 0, slots := 0, locals := 66 }
def fX4_person (x : tMs) (s1 : Int32) (s2 : Int32) : Int32 := lt_ (fX4_comes x s1) fun q2 => if q2 = 0 then (-1) else (if s2 = 0 then ((m_mi x) (Int32.toNatClampNeg s1)) else (if s2 = 1 then ((m_mn x) (Int32.toNatClampNeg s1)) else (if s2 = 2 then ((m_pa x) (Int32.toNatClampNeg s1)) else (if s2 = 3 then ((m_ca x) (Int32.toNatClampNeg s1)) else (-2)))))
def oX4_person (x : tMs) (s1 : Int32) (s2 : Int32) : Prop := oX4_comes x s1 ∧ (lo_ (fX4_comes x s1) fun q2 => if q2 = 0 then True else (if s2 = 0 then (vp_in s1 8 ∧ True) else (if s2 = 1 then (vp_in s1 8 ∧ True) else (if s2 = 2 then (vp_in s1 8 ∧ True) else (if s2 = 3 then (vp_in s1 8 ∧ True) else True)))))
theorem kvX4_person : KV yX4_person cX4_person 3 (some .int) 2 := ⟨wcd_X4_person, wim_X4_person, wsl_X4_person, win_X4, by decide +kernel, by decide +kernel, by decide +kernel⟩
set_option maxHeartbeats 4000000 in
set_option maxRecDepth 100000 in
theorem kX4_person (l : Launch) (D : va_G) (cy : Nat → ClassId) (a : Nat → Nat) (x : tMs) (s1 : Int32) (s2 : Int32) {R : Int32} (hO : oX4_person x s1 s2) (hF : fX4_person x s1 s2 = R) : CT l D cy yX4_person cX4_person 3 (some .int) rX4_person [.ref (a 0), .int s1, .int s2] (gwM cy a x) (some (.int R)) (gwM cy a x) := by
  refine ct_of (by decide) (Nat.le_of_ble_eq_true rfl) ?_
  intro p e s m args below meth c A ls hM hK hP hD hS hl
  obtain ⟨hx, hb, -, hml, hown, hts, -⟩ := id hM
  have hl : lv_has ls 3 [(0, .ref (a 0)), (1, .int s1), (2, .int s2)] := hl
  obtain ⟨H, hH⟩ : ∃ H : Heap, H = s.heap := ⟨_, rfl⟩
  obtain ⟨locs, hlocs⟩ : ∃ q : List Loc, q = [] := ⟨_, rfl⟩
  have hP : va_P D classes (gwM cy a x) H := by rw [hH]; exact hP
  have hS : va_S A s.heap H locs := by rw [hH, hlocs]; exact hS
  suffices hg : W p l e rX4_person s m args below meth c H locs 0 0 (MQ below (ctQ D (some (.int R)) (gwM cy a x) A) args s 0 0 A) (F0 m 0 ls []) by rw [hH, hlocs] at hg; exact hg
  clear hH hlocs
  unfold fX4_person at hF
  unfold oX4_person at hO
  refine lv_aload_n hx hb dX4_person_0 rfl (lv_at hl 0 rfl) ?_
  refine lv_iload_n hx hb dX4_person_1 rfl (lv_at hl 1 rfl) ?_
  obtain ⟨h1, hO⟩ := hO
  obtain ⟨q2, e3⟩ : ∃ q, fX4_comes x s1 = q := ⟨_, rfl⟩
  have hF := lt_n e3 hF
  try have hO := lo_n e3 hO
  refine ct_callF hM hK hP hD hS (kX4_comes l D cy a x s1 h1 e3) kvX4_comes wml_X4_80 rfl 0 rfl rfl rfl rfl hl.1 rfl ⟨rfl, rfl, Nat.le_of_ble_eq_true rfl, Nat.le_of_ble_eq_true rfl⟩ (Nat.le_of_ble_eq_true rfl) ⟨Nat.zero_le _, Nat.zero_le _⟩ dX4_person_2 (fun H locs hP hD hS => ?_)
  refine W.eq (g2 := F0 m 5 ls [.int q2]) rfl ?_
  refine lv_if_ne (tgt := 10) hx hb dX4_person_5 (by decide) (fun c4 => ?_) (fun c4 => ?_)
  · have hF := lt_f c4 hF
    have hO := lo_f c4 hO
    refine lv_iload_n hx hb dX4_person_10 rfl (lv_at hl 2 rfl) ?_
    refine lv_if_ne (tgt := 23) hx hb dX4_person_11 (by decide) (fun c5 => ?_) (fun c5 => ?_)
    · have hF := lt_f c5 hF
      have hO := lo_f c5 hO
      refine lv_iload_n hx hb dX4_person_23 rfl (lv_at hl 2 rfl) ?_
      refine lv_iconst (v := 1) hx hb dX4_person_24 (by decide) ?_
      refine lv_icmp_ne (tgt := 37) hx hb dX4_person_25 (by decide) (fun c6 => ?_) (fun c6 => ?_)
      · have hF := lt_f c6 hF
        have hO := lo_f c6 hO
        refine lv_iload_n hx hb dX4_person_37 rfl (lv_at hl 2 rfl) ?_
        refine lv_iconst (v := 2) hx hb dX4_person_38 (by decide) ?_
        refine lv_icmp_ne (tgt := 51) hx hb dX4_person_39 (by decide) (fun c7 => ?_) (fun c7 => ?_)
        · have hF := lt_f c7 hF
          have hO := lo_f c7 hO
          refine lv_iload_n hx hb dX4_person_51 rfl (lv_at hl 2 rfl) ?_
          refine lv_iconst (v := 3) hx hb dX4_person_52 (by decide) ?_
          refine lv_icmp_ne (tgt := 65) hx hb dX4_person_53 (by decide) (fun c8 => ?_) (fun c8 => ?_)
          · have hF := lt_f c8 hF
            have hO := lo_f c8 hO
            refine lv_bipush (v := (-2)) hx hb dX4_person_65 (by decide) ?_
            subst hF
            exact ct_iret hM hP hS dX4_person_67
          · have hF := lt_t c8 hF
            have hO := lo_t c8 hO
            refine lv_aload_n hx hb dX4_person_56 rfl (lv_at hl 0 rfl) ?_
            refine ct_get (C := RX4) (T := TX4) (N := 24) (ci := 4) (v := .ref (a 4)) hM hK hP inX4 0 rfl rfl 4 (by decide) wfl_X4_19 rfl dX4_person_57 ?_
            refine lv_iload_n hx hb dX4_person_60 rfl (lv_at hl 1 rfl) ?_
            obtain ⟨h9, hO⟩ := hO
            refine va_iald hx hb hK hP 4 0 (f := m_ca x) (n := 8) (cA := cy 0) rfl rfl h9 dX4_person_61 ?_
            refine lv_goto (tgt := 67) hx hb dX4_person_62 (by decide) ?_
            subst hF
            exact ct_iret hM hP hS dX4_person_67
        · have hF := lt_t c7 hF
          have hO := lo_t c7 hO
          refine lv_aload_n hx hb dX4_person_42 rfl (lv_at hl 0 rfl) ?_
          refine ct_get (C := RX4) (T := TX4) (N := 24) (ci := 4) (v := .ref (a 3)) hM hK hP inX4 0 rfl rfl 3 (by decide) wfl_X4_16 rfl dX4_person_43 ?_
          refine lv_iload_n hx hb dX4_person_46 rfl (lv_at hl 1 rfl) ?_
          obtain ⟨h10, hO⟩ := hO
          refine va_iald hx hb hK hP 3 0 (f := m_pa x) (n := 8) (cA := cy 0) rfl rfl h10 dX4_person_47 ?_
          refine lv_goto (tgt := 67) hx hb dX4_person_48 (by decide) ?_
          subst hF
          exact ct_iret hM hP hS dX4_person_67
      · have hF := lt_t c6 hF
        have hO := lo_t c6 hO
        refine lv_aload_n hx hb dX4_person_28 rfl (lv_at hl 0 rfl) ?_
        refine ct_get (C := RX4) (T := TX4) (N := 24) (ci := 4) (v := .ref (a 2)) hM hK hP inX4 0 rfl rfl 2 (by decide) wfl_X4_13 rfl dX4_person_29 ?_
        refine lv_iload_n hx hb dX4_person_32 rfl (lv_at hl 1 rfl) ?_
        obtain ⟨h11, hO⟩ := hO
        refine va_iald hx hb hK hP 2 0 (f := m_mn x) (n := 8) (cA := cy 0) rfl rfl h11 dX4_person_33 ?_
        refine lv_goto (tgt := 67) hx hb dX4_person_34 (by decide) ?_
        subst hF
        exact ct_iret hM hP hS dX4_person_67
    · have hF := lt_t c5 hF
      have hO := lo_t c5 hO
      refine lv_aload_n hx hb dX4_person_14 rfl (lv_at hl 0 rfl) ?_
      refine ct_get (C := RX4) (T := TX4) (N := 24) (ci := 4) (v := .ref (a 1)) hM hK hP inX4 0 rfl rfl 1 (by decide) wfl_X4_7 rfl dX4_person_15 ?_
      refine lv_iload_n hx hb dX4_person_18 rfl (lv_at hl 1 rfl) ?_
      obtain ⟨h12, hO⟩ := hO
      refine va_iald hx hb hK hP 1 0 (f := m_mi x) (n := 8) (cA := cy 0) rfl rfl h12 dX4_person_19 ?_
      refine lv_goto (tgt := 67) hx hb dX4_person_20 (by decide) ?_
      subst hF
      exact ct_iret hM hP hS dX4_person_67
  · have hF := lt_t c4 hF
    have hO := lo_t c4 hO
    refine lv_iconst (v := (-1)) hx hb dX4_person_8 (by decide) ?_
    subst hF
    exact ct_iret hM hP hS dX4_person_9

abbrev rX4_set : Room := { frames := 1, cells := 0, slots := 0, locals := 25 }
def fX4_set (x : tMs) (s1 : Int32) (s2 : Int32) : Int32 × tMs := lt_ (fX4_in (Int32.toInt64 s1) 0 3) fun q2 => if q2 = 0 then ((-2), x) else (if s1 = 0 then (lt_ (fX4_in (Int32.toInt64 s2) 1 20) fun q52 => if q52 = 0 then ((-2), x) else (lt_ (m_dr x) fun x55 => lt_ (m_fa x) fun x57 => lt_ (m_st x) fun x59 => lt_ (m_ha x) fun x61 => (x55, (m_co x, m_mi x, m_mn x, m_pa x, m_ca x, s2, x57, x59, x61, m_pd x, m_pn x, m_fr x, m_at x, m_wa x, m_en x, m_to x, m_or x, m_my x, m_bf x, m_bs x, m_kp x, m_ik x, m_ka x, m_iw x)))) else (if s1 = 3 then (lt_ (fX4_in (Int32.toInt64 s2) 0 1) fun q40 => if q40 = 0 then ((-2), x) else (lt_ (m_ha x) fun x43 => lt_ (m_dr x) fun x45 => lt_ (m_fa x) fun x47 => lt_ (m_st x) fun x49 => (x43, (m_co x, m_mi x, m_mn x, m_pa x, m_ca x, x45, x47, x49, s2, m_pd x, m_pn x, m_fr x, m_at x, m_wa x, m_en x, m_to x, m_or x, m_my x, m_bf x, m_bs x, m_kp x, m_ik x, m_ka x, m_iw x)))) else (lt_ (fX4_in (Int32.toInt64 s2) 0 9) fun q8 => if q8 = 0 then ((-2), x) else (if s1 = 1 then (lt_ (m_fa x) fun x31 => lt_ (m_dr x) fun x33 => lt_ (m_st x) fun x35 => lt_ (m_ha x) fun x37 => (x31, (m_co x, m_mi x, m_mn x, m_pa x, m_ca x, x33, s2, x35, x37, m_pd x, m_pn x, m_fr x, m_at x, m_wa x, m_en x, m_to x, m_or x, m_my x, m_bf x, m_bs x, m_kp x, m_ik x, m_ka x, m_iw x))) else (if s1 = 2 then (lt_ (m_st x) fun x23 => lt_ (m_dr x) fun x25 => lt_ (m_fa x) fun x27 => lt_ (m_ha x) fun x29 => (x23, (m_co x, m_mi x, m_mn x, m_pa x, m_ca x, x25, x27, s2, x29, m_pd x, m_pn x, m_fr x, m_at x, m_wa x, m_en x, m_to x, m_or x, m_my x, m_bf x, m_bs x, m_kp x, m_ik x, m_ka x, m_iw x))) else (lt_ (m_ha x) fun x13 => lt_ (m_dr x) fun x15 => lt_ (m_fa x) fun x17 => lt_ (m_st x) fun x19 => lt_ (m_ha x) fun x21 => (x13, (m_co x, m_mi x, m_mn x, m_pa x, m_ca x, x15, x17, x19, x21, m_pd x, m_pn x, m_fr x, m_at x, m_wa x, m_en x, m_to x, m_or x, m_my x, m_bf x, m_bs x, m_kp x, m_ik x, m_ka x, m_iw x))))))))
def oX4_set (x : tMs) (s1 : Int32) (s2 : Int32) : Prop := True
theorem kvX4_set : KV yX4_set cX4_set 4 (some .int) 2 := ⟨wcd_X4_set, wim_X4_set, wsl_X4_set, win_X4, by decide +kernel, by decide +kernel, by decide +kernel⟩
set_option maxHeartbeats 4000000 in
set_option maxRecDepth 100000 in
theorem kX4_set (l : Launch) (D : va_G) (cy : Nat → ClassId) (a : Nat → Nat) (x : tMs) (s1 : Int32) (s2 : Int32) {R : Int32 × tMs} (hO : oX4_set x s1 s2) (hF : fX4_set x s1 s2 = R) : CT l D cy yX4_set cX4_set 4 (some .int) rX4_set [.ref (a 0), .int s1, .int s2] (gwM cy a x) (some (.int R.1)) (gwM cy a R.2) := by
  refine ct_of (by decide) (Nat.le_of_ble_eq_true rfl) ?_
  intro p e s m args below meth c A ls hM hK hP hD hS hl
  obtain ⟨hx, hb, -, hml, hown, hts, -⟩ := id hM
  have hl : lv_has ls 4 [(0, .ref (a 0)), (1, .int s1), (2, .int s2)] := hl
  obtain ⟨H, hH⟩ : ∃ H : Heap, H = s.heap := ⟨_, rfl⟩
  obtain ⟨locs, hlocs⟩ : ∃ q : List Loc, q = [] := ⟨_, rfl⟩
  have hP : va_P D classes (gwM cy a x) H := by rw [hH]; exact hP
  have hS : va_S A s.heap H locs := by rw [hH, hlocs]; exact hS
  suffices hg : W p l e rX4_set s m args below meth c H locs 0 0 (MQ below (ctQ D (some (.int R.1)) (gwM cy a R.2) A) args s 0 0 A) (F0 m 0 ls []) by rw [hH, hlocs] at hg; exact hg
  clear hH hlocs
  unfold fX4_set at hF
  unfold oX4_set at hO
  refine lv_iload_n hx hb dX4_set_0 rfl (lv_at hl 1 rfl) ?_
  refine lv_i2l (v := Int32.toInt64 s1) hx hb dX4_set_1 rfl ?_
  refine lv_lconst (v := 0) hx hb dX4_set_2 rfl ?_
  refine lv_ldc2 (v := 3) hx hb hown (hts _ wct_X4_83) dX4_set_3 ?_
  obtain ⟨q2, e3⟩ : ∃ q, fX4_in (Int32.toInt64 s1) 0 3 = q := ⟨_, rfl⟩
  have hF := lt_n e3 hF
  try have hO := lo_n e3 hO
  refine ct_callS hM hK hP hD hS (kX4_in l D cy (Int32.toInt64 s1) 0 3 trivial e3) kvX4_in wml_X4_59 rfl hl.1 rfl ⟨rfl, rfl, Nat.le_of_ble_eq_true rfl, Nat.le_of_ble_eq_true rfl⟩ (Nat.le_of_ble_eq_true rfl) ⟨Nat.zero_le _, Nat.zero_le _⟩ dX4_set_6 (fun H locs hP hD hS => ?_)
  refine W.eq (g2 := F0 m 9 ls [.int q2]) rfl ?_
  have hP : va_P D classes (gwM cy a x) H := hP
  have hD : va_D A (gwM cy a x) := hD
  refine lv_if_eq (tgt := 51) hx hb dX4_set_9 (by decide) (fun c4 => ?_) (fun c4 => ?_)
  · have hF := lt_t c4 hF
    refine lv_bipush (v := (-2)) hx hb dX4_set_51 (by decide) ?_
    subst hF
    exact ct_iret hM hP hS dX4_set_53
  · have hF := lt_f c4 hF
    refine lv_iload_n hx hb dX4_set_12 rfl (lv_at hl 2 rfl) ?_
    refine lv_i2l (v := Int32.toInt64 s2) hx hb dX4_set_13 rfl ?_
    refine lv_iload_n hx hb dX4_set_14 rfl (lv_at hl 1 rfl) ?_
    refine lv_if_ne (tgt := 22) hx hb dX4_set_15 (by decide) (fun c5 => ?_) (fun c5 => ?_)
    · have hF := lt_f c5 hF
      refine lv_lconst (v := 0) hx hb dX4_set_22 rfl ?_
      refine lv_iload_n hx hb dX4_set_23 rfl (lv_at hl 1 rfl) ?_
      refine lv_if_ne (tgt := 33) hx hb dX4_set_24 (by decide) (fun _ => ?_) (fun z => absurd z c5)
      refine lv_iload_n hx hb dX4_set_33 rfl (lv_at hl 1 rfl) ?_
      refine lv_iconst (v := 3) hx hb dX4_set_34 (by decide) ?_
      refine lv_icmp_ne (tgt := 42) hx hb dX4_set_35 (by decide) (fun c6 => ?_) (fun c6 => ?_)
      · have hF := lt_f c6 hF
        refine lv_ldc2 (v := 9) hx hb hown (hts _ wct_X4_74) dX4_set_42 ?_
        obtain ⟨q8, e9⟩ : ∃ q, fX4_in (Int32.toInt64 s2) 0 9 = q := ⟨_, rfl⟩
        have hF := lt_n e9 hF
        try have hO := lo_n e9 hO
        refine ct_callS hM hK hP hD hS (kX4_in l D cy (Int32.toInt64 s2) 0 9 trivial e9) kvX4_in wml_X4_59 rfl hl.1 rfl ⟨rfl, rfl, Nat.le_of_ble_eq_true rfl, Nat.le_of_ble_eq_true rfl⟩ (Nat.le_of_ble_eq_true rfl) ⟨Nat.zero_le _, Nat.zero_le _⟩ dX4_set_45 (fun H locs hP hD hS => ?_)
        refine W.eq (g2 := F0 m 48 ls [.int q8]) rfl ?_
        have hP : va_P D classes (gwM cy a x) H := hP
        have hD : va_D A (gwM cy a x) := hD
        refine lv_if_ne (tgt := 54) hx hb dX4_set_48 (by decide) (fun c10 => ?_) (fun c10 => ?_)
        · have hF := lt_f c10 hF
          refine lv_iload_n hx hb dX4_set_54 rfl (lv_at hl 1 rfl) ?_
          refine lv_if_ne (tgt := 65) hx hb dX4_set_55 (by decide) (fun _ => ?_) (fun z => absurd z c5)
          refine lv_iload_n hx hb dX4_set_65 rfl (lv_at hl 1 rfl) ?_
          refine lv_iconst (v := 1) hx hb dX4_set_66 (by decide) ?_
          refine lv_icmp_ne (tgt := 77) hx hb dX4_set_67 (by decide) (fun c11 => ?_) (fun c11 => ?_)
          · have hF := lt_f c11 hF
            refine lv_iload_n hx hb dX4_set_77 rfl (lv_at hl 1 rfl) ?_
            refine lv_iconst (v := 2) hx hb dX4_set_78 (by decide) ?_
            refine lv_icmp_ne (tgt := 89) hx hb dX4_set_79 (by decide) (fun c12 => ?_) (fun c12 => ?_)
            · have hF := lt_f c12 hF
              refine lv_aload_n hx hb dX4_set_89 rfl (lv_at hl 0 rfl) ?_
              refine ct_get (C := RX4) (T := TX4) (N := 24) (ci := 4) (v := .int (m_ha x)) hM hK hP inX4 0 rfl rfl 8 (by decide) wfl_X4_90 rfl dX4_set_90 ?_
              refine lv_topi (fun x13 e14 => ?_)
              have hF := lt_n e14.symm hF
              try have hO := lo_n e14.symm hO
              refine lv_istore_n (lv' := [(3, .int x13), (0, .ref (a 0)), (1, .int s1), (2, .int s2)]) hx hb dX4_set_93 rfl hl (by decide) rfl (fun ls hl => ?_)
              refine lv_aload_n hx hb dX4_set_94 rfl (lv_at hl 1 rfl) ?_
              refine lv_iload_n hx hb dX4_set_95 rfl (lv_at hl 2 rfl) ?_
              refine lv_if_ne (tgt := 103) hx hb dX4_set_96 (by decide) (fun _ => ?_) (fun z => absurd z c5)
              refine lv_aload_n hx hb dX4_set_103 rfl (lv_at hl 1 rfl) ?_
              refine ct_get (C := RX4) (T := TX4) (N := 24) (ci := 4) (v := .int (m_dr x)) hM hK hP inX4 0 rfl rfl 5 (by decide) wfl_X4_50 rfl dX4_set_104 ?_
              refine lv_topi (fun x15 e16 => ?_)
              have hF := lt_n e16.symm hF
              try have hO := lo_n e16.symm hO
              refine ct_put1 (C := RX4) (T := TX4) (N := 24) (ci := 4) (v := .int x15) hM hK hP hD hS inX4 tyX4 tyX4_ok nmX4 0 rfl rfl 5 (by decide) wfl_X4_50 rfl (by first | rfl | decide) (by first | rfl | decide) (Nat.le_of_ble_eq_true rfl) dX4_set_107 (fun H locs hP hD hS => ?_)
              have hP : va_P D classes (gwM cy a (m_co x, m_mi x, m_mn x, m_pa x, m_ca x, x15, m_fa x, m_st x, m_ha x, m_pd x, m_pn x, m_fr x, m_at x, m_wa x, m_en x, m_to x, m_or x, m_my x, m_bf x, m_bs x, m_kp x, m_ik x, m_ka x, m_iw x)) H := hP
              have hD : va_D A (gwM cy a (m_co x, m_mi x, m_mn x, m_pa x, m_ca x, x15, m_fa x, m_st x, m_ha x, m_pd x, m_pn x, m_fr x, m_at x, m_wa x, m_en x, m_to x, m_or x, m_my x, m_bf x, m_bs x, m_kp x, m_ik x, m_ka x, m_iw x)) := hD
              refine lv_aload_n hx hb dX4_set_110 rfl (lv_at hl 1 rfl) ?_
              refine lv_iload_n hx hb dX4_set_111 rfl (lv_at hl 2 rfl) ?_
              refine lv_iconst (v := 1) hx hb dX4_set_112 (by decide) ?_
              refine lv_icmp_ne (tgt := 120) hx hb dX4_set_113 (by decide) (fun _ => ?_) (fun z => absurd z c11)
              refine lv_aload_n hx hb dX4_set_120 rfl (lv_at hl 1 rfl) ?_
              refine ct_get (C := RX4) (T := TX4) (N := 24) (ci := 4) (v := .int (m_fa x)) hM hK hP inX4 0 rfl rfl 6 (by decide) wfl_X4_54 rfl dX4_set_121 ?_
              refine lv_topi (fun x17 e18 => ?_)
              have hF := lt_n e18.symm hF
              try have hO := lo_n e18.symm hO
              refine ct_put1 (C := RX4) (T := TX4) (N := 24) (ci := 4) (v := .int x17) hM hK hP hD hS inX4 tyX4 tyX4_ok nmX4 0 rfl rfl 6 (by decide) wfl_X4_54 rfl (by first | rfl | decide) (by first | rfl | decide) (Nat.le_of_ble_eq_true rfl) dX4_set_124 (fun H locs hP hD hS => ?_)
              have hP : va_P D classes (gwM cy a (m_co x, m_mi x, m_mn x, m_pa x, m_ca x, x15, x17, m_st x, m_ha x, m_pd x, m_pn x, m_fr x, m_at x, m_wa x, m_en x, m_to x, m_or x, m_my x, m_bf x, m_bs x, m_kp x, m_ik x, m_ka x, m_iw x)) H := hP
              have hD : va_D A (gwM cy a (m_co x, m_mi x, m_mn x, m_pa x, m_ca x, x15, x17, m_st x, m_ha x, m_pd x, m_pn x, m_fr x, m_at x, m_wa x, m_en x, m_to x, m_or x, m_my x, m_bf x, m_bs x, m_kp x, m_ik x, m_ka x, m_iw x)) := hD
              refine lv_aload_n hx hb dX4_set_127 rfl (lv_at hl 1 rfl) ?_
              refine lv_iload_n hx hb dX4_set_128 rfl (lv_at hl 2 rfl) ?_
              refine lv_iconst (v := 2) hx hb dX4_set_129 (by decide) ?_
              refine lv_icmp_ne (tgt := 137) hx hb dX4_set_130 (by decide) (fun _ => ?_) (fun z => absurd z c12)
              refine lv_aload_n hx hb dX4_set_137 rfl (lv_at hl 1 rfl) ?_
              refine ct_get (C := RX4) (T := TX4) (N := 24) (ci := 4) (v := .int (m_st x)) hM hK hP inX4 0 rfl rfl 7 (by decide) wfl_X4_87 rfl dX4_set_138 ?_
              refine lv_topi (fun x19 e20 => ?_)
              have hF := lt_n e20.symm hF
              try have hO := lo_n e20.symm hO
              refine ct_put1 (C := RX4) (T := TX4) (N := 24) (ci := 4) (v := .int x19) hM hK hP hD hS inX4 tyX4 tyX4_ok nmX4 0 rfl rfl 7 (by decide) wfl_X4_87 rfl (by first | rfl | decide) (by first | rfl | decide) (Nat.le_of_ble_eq_true rfl) dX4_set_141 (fun H locs hP hD hS => ?_)
              have hP : va_P D classes (gwM cy a (m_co x, m_mi x, m_mn x, m_pa x, m_ca x, x15, x17, x19, m_ha x, m_pd x, m_pn x, m_fr x, m_at x, m_wa x, m_en x, m_to x, m_or x, m_my x, m_bf x, m_bs x, m_kp x, m_ik x, m_ka x, m_iw x)) H := hP
              have hD : va_D A (gwM cy a (m_co x, m_mi x, m_mn x, m_pa x, m_ca x, x15, x17, x19, m_ha x, m_pd x, m_pn x, m_fr x, m_at x, m_wa x, m_en x, m_to x, m_or x, m_my x, m_bf x, m_bs x, m_kp x, m_ik x, m_ka x, m_iw x)) := hD
              refine lv_aload_n hx hb dX4_set_144 rfl (lv_at hl 1 rfl) ?_
              refine lv_iload_n hx hb dX4_set_145 rfl (lv_at hl 2 rfl) ?_
              refine lv_iconst (v := 3) hx hb dX4_set_146 (by decide) ?_
              refine lv_icmp_ne (tgt := 154) hx hb dX4_set_147 (by decide) (fun _ => ?_) (fun z => absurd z c6)
              refine lv_aload_n hx hb dX4_set_154 rfl (lv_at hl 1 rfl) ?_
              refine ct_get (C := RX4) (T := TX4) (N := 24) (ci := 4) (v := .int (m_ha x)) hM hK hP inX4 0 rfl rfl 8 (by decide) wfl_X4_90 rfl dX4_set_155 ?_
              refine lv_topi (fun x21 e22 => ?_)
              have hF := lt_n e22.symm hF
              try have hO := lo_n e22.symm hO
              refine ct_put1 (C := RX4) (T := TX4) (N := 24) (ci := 4) (v := .int x21) hM hK hP hD hS inX4 tyX4 tyX4_ok nmX4 0 rfl rfl 8 (by decide) wfl_X4_90 rfl (by first | rfl | decide) (by first | rfl | decide) (Nat.le_of_ble_eq_true rfl) dX4_set_158 (fun H locs hP hD hS => ?_)
              have hP : va_P D classes (gwM cy a (m_co x, m_mi x, m_mn x, m_pa x, m_ca x, x15, x17, x19, x21, m_pd x, m_pn x, m_fr x, m_at x, m_wa x, m_en x, m_to x, m_or x, m_my x, m_bf x, m_bs x, m_kp x, m_ik x, m_ka x, m_iw x)) H := hP
              have hD : va_D A (gwM cy a (m_co x, m_mi x, m_mn x, m_pa x, m_ca x, x15, x17, x19, x21, m_pd x, m_pn x, m_fr x, m_at x, m_wa x, m_en x, m_to x, m_or x, m_my x, m_bf x, m_bs x, m_kp x, m_ik x, m_ka x, m_iw x)) := hD
              refine lv_iload_n hx hb dX4_set_161 rfl (lv_at hl 0 rfl) ?_
              subst hF
              exact ct_iret hM hP hS dX4_set_162
            · have hF := lt_t c12 hF
              refine lv_aload_n hx hb dX4_set_82 rfl (lv_at hl 0 rfl) ?_
              refine ct_get (C := RX4) (T := TX4) (N := 24) (ci := 4) (v := .int (m_st x)) hM hK hP inX4 0 rfl rfl 7 (by decide) wfl_X4_87 rfl dX4_set_83 ?_
              refine lv_goto (tgt := 93) hx hb dX4_set_86 (by decide) ?_
              refine lv_topi (fun x23 e24 => ?_)
              have hF := lt_n e24.symm hF
              try have hO := lo_n e24.symm hO
              refine lv_istore_n (lv' := [(3, .int x23), (0, .ref (a 0)), (1, .int s1), (2, .int s2)]) hx hb dX4_set_93 rfl hl (by decide) rfl (fun ls hl => ?_)
              refine lv_aload_n hx hb dX4_set_94 rfl (lv_at hl 1 rfl) ?_
              refine lv_iload_n hx hb dX4_set_95 rfl (lv_at hl 2 rfl) ?_
              refine lv_if_ne (tgt := 103) hx hb dX4_set_96 (by decide) (fun _ => ?_) (fun z => absurd z c5)
              refine lv_aload_n hx hb dX4_set_103 rfl (lv_at hl 1 rfl) ?_
              refine ct_get (C := RX4) (T := TX4) (N := 24) (ci := 4) (v := .int (m_dr x)) hM hK hP inX4 0 rfl rfl 5 (by decide) wfl_X4_50 rfl dX4_set_104 ?_
              refine lv_topi (fun x25 e26 => ?_)
              have hF := lt_n e26.symm hF
              try have hO := lo_n e26.symm hO
              refine ct_put1 (C := RX4) (T := TX4) (N := 24) (ci := 4) (v := .int x25) hM hK hP hD hS inX4 tyX4 tyX4_ok nmX4 0 rfl rfl 5 (by decide) wfl_X4_50 rfl (by first | rfl | decide) (by first | rfl | decide) (Nat.le_of_ble_eq_true rfl) dX4_set_107 (fun H locs hP hD hS => ?_)
              have hP : va_P D classes (gwM cy a (m_co x, m_mi x, m_mn x, m_pa x, m_ca x, x25, m_fa x, m_st x, m_ha x, m_pd x, m_pn x, m_fr x, m_at x, m_wa x, m_en x, m_to x, m_or x, m_my x, m_bf x, m_bs x, m_kp x, m_ik x, m_ka x, m_iw x)) H := hP
              have hD : va_D A (gwM cy a (m_co x, m_mi x, m_mn x, m_pa x, m_ca x, x25, m_fa x, m_st x, m_ha x, m_pd x, m_pn x, m_fr x, m_at x, m_wa x, m_en x, m_to x, m_or x, m_my x, m_bf x, m_bs x, m_kp x, m_ik x, m_ka x, m_iw x)) := hD
              refine lv_aload_n hx hb dX4_set_110 rfl (lv_at hl 1 rfl) ?_
              refine lv_iload_n hx hb dX4_set_111 rfl (lv_at hl 2 rfl) ?_
              refine lv_iconst (v := 1) hx hb dX4_set_112 (by decide) ?_
              refine lv_icmp_ne (tgt := 120) hx hb dX4_set_113 (by decide) (fun _ => ?_) (fun z => absurd z c11)
              refine lv_aload_n hx hb dX4_set_120 rfl (lv_at hl 1 rfl) ?_
              refine ct_get (C := RX4) (T := TX4) (N := 24) (ci := 4) (v := .int (m_fa x)) hM hK hP inX4 0 rfl rfl 6 (by decide) wfl_X4_54 rfl dX4_set_121 ?_
              refine lv_topi (fun x27 e28 => ?_)
              have hF := lt_n e28.symm hF
              try have hO := lo_n e28.symm hO
              refine ct_put1 (C := RX4) (T := TX4) (N := 24) (ci := 4) (v := .int x27) hM hK hP hD hS inX4 tyX4 tyX4_ok nmX4 0 rfl rfl 6 (by decide) wfl_X4_54 rfl (by first | rfl | decide) (by first | rfl | decide) (Nat.le_of_ble_eq_true rfl) dX4_set_124 (fun H locs hP hD hS => ?_)
              have hP : va_P D classes (gwM cy a (m_co x, m_mi x, m_mn x, m_pa x, m_ca x, x25, x27, m_st x, m_ha x, m_pd x, m_pn x, m_fr x, m_at x, m_wa x, m_en x, m_to x, m_or x, m_my x, m_bf x, m_bs x, m_kp x, m_ik x, m_ka x, m_iw x)) H := hP
              have hD : va_D A (gwM cy a (m_co x, m_mi x, m_mn x, m_pa x, m_ca x, x25, x27, m_st x, m_ha x, m_pd x, m_pn x, m_fr x, m_at x, m_wa x, m_en x, m_to x, m_or x, m_my x, m_bf x, m_bs x, m_kp x, m_ik x, m_ka x, m_iw x)) := hD
              refine lv_aload_n hx hb dX4_set_127 rfl (lv_at hl 1 rfl) ?_
              refine lv_iload_n hx hb dX4_set_128 rfl (lv_at hl 2 rfl) ?_
              refine lv_iconst (v := 2) hx hb dX4_set_129 (by decide) ?_
              refine lv_icmp_ne (tgt := 137) hx hb dX4_set_130 (by decide) (fun z => absurd c12 z) (fun _ => ?_)
              refine lv_iload_n hx hb dX4_set_133 rfl (lv_at hl 3 rfl) ?_
              refine lv_goto (tgt := 141) hx hb dX4_set_134 (by decide) ?_
              refine ct_put1 (C := RX4) (T := TX4) (N := 24) (ci := 4) (v := .int s2) hM hK hP hD hS inX4 tyX4 tyX4_ok nmX4 0 rfl rfl 7 (by decide) wfl_X4_87 rfl (by first | rfl | decide) (by first | rfl | decide) (Nat.le_of_ble_eq_true rfl) dX4_set_141 (fun H locs hP hD hS => ?_)
              have hP : va_P D classes (gwM cy a (m_co x, m_mi x, m_mn x, m_pa x, m_ca x, x25, x27, s2, m_ha x, m_pd x, m_pn x, m_fr x, m_at x, m_wa x, m_en x, m_to x, m_or x, m_my x, m_bf x, m_bs x, m_kp x, m_ik x, m_ka x, m_iw x)) H := hP
              have hD : va_D A (gwM cy a (m_co x, m_mi x, m_mn x, m_pa x, m_ca x, x25, x27, s2, m_ha x, m_pd x, m_pn x, m_fr x, m_at x, m_wa x, m_en x, m_to x, m_or x, m_my x, m_bf x, m_bs x, m_kp x, m_ik x, m_ka x, m_iw x)) := hD
              refine lv_aload_n hx hb dX4_set_144 rfl (lv_at hl 1 rfl) ?_
              refine lv_iload_n hx hb dX4_set_145 rfl (lv_at hl 2 rfl) ?_
              refine lv_iconst (v := 3) hx hb dX4_set_146 (by decide) ?_
              refine lv_icmp_ne (tgt := 154) hx hb dX4_set_147 (by decide) (fun _ => ?_) (fun z => absurd z c6)
              refine lv_aload_n hx hb dX4_set_154 rfl (lv_at hl 1 rfl) ?_
              refine ct_get (C := RX4) (T := TX4) (N := 24) (ci := 4) (v := .int (m_ha x)) hM hK hP inX4 0 rfl rfl 8 (by decide) wfl_X4_90 rfl dX4_set_155 ?_
              refine lv_topi (fun x29 e30 => ?_)
              have hF := lt_n e30.symm hF
              try have hO := lo_n e30.symm hO
              refine ct_put1 (C := RX4) (T := TX4) (N := 24) (ci := 4) (v := .int x29) hM hK hP hD hS inX4 tyX4 tyX4_ok nmX4 0 rfl rfl 8 (by decide) wfl_X4_90 rfl (by first | rfl | decide) (by first | rfl | decide) (Nat.le_of_ble_eq_true rfl) dX4_set_158 (fun H locs hP hD hS => ?_)
              have hP : va_P D classes (gwM cy a (m_co x, m_mi x, m_mn x, m_pa x, m_ca x, x25, x27, s2, x29, m_pd x, m_pn x, m_fr x, m_at x, m_wa x, m_en x, m_to x, m_or x, m_my x, m_bf x, m_bs x, m_kp x, m_ik x, m_ka x, m_iw x)) H := hP
              have hD : va_D A (gwM cy a (m_co x, m_mi x, m_mn x, m_pa x, m_ca x, x25, x27, s2, x29, m_pd x, m_pn x, m_fr x, m_at x, m_wa x, m_en x, m_to x, m_or x, m_my x, m_bf x, m_bs x, m_kp x, m_ik x, m_ka x, m_iw x)) := hD
              refine lv_iload_n hx hb dX4_set_161 rfl (lv_at hl 0 rfl) ?_
              subst hF
              exact ct_iret hM hP hS dX4_set_162
          · have hF := lt_t c11 hF
            refine lv_aload_n hx hb dX4_set_70 rfl (lv_at hl 0 rfl) ?_
            refine ct_get (C := RX4) (T := TX4) (N := 24) (ci := 4) (v := .int (m_fa x)) hM hK hP inX4 0 rfl rfl 6 (by decide) wfl_X4_54 rfl dX4_set_71 ?_
            refine lv_goto (tgt := 93) hx hb dX4_set_74 (by decide) ?_
            refine lv_topi (fun x31 e32 => ?_)
            have hF := lt_n e32.symm hF
            try have hO := lo_n e32.symm hO
            refine lv_istore_n (lv' := [(3, .int x31), (0, .ref (a 0)), (1, .int s1), (2, .int s2)]) hx hb dX4_set_93 rfl hl (by decide) rfl (fun ls hl => ?_)
            refine lv_aload_n hx hb dX4_set_94 rfl (lv_at hl 1 rfl) ?_
            refine lv_iload_n hx hb dX4_set_95 rfl (lv_at hl 2 rfl) ?_
            refine lv_if_ne (tgt := 103) hx hb dX4_set_96 (by decide) (fun _ => ?_) (fun z => absurd z c5)
            refine lv_aload_n hx hb dX4_set_103 rfl (lv_at hl 1 rfl) ?_
            refine ct_get (C := RX4) (T := TX4) (N := 24) (ci := 4) (v := .int (m_dr x)) hM hK hP inX4 0 rfl rfl 5 (by decide) wfl_X4_50 rfl dX4_set_104 ?_
            refine lv_topi (fun x33 e34 => ?_)
            have hF := lt_n e34.symm hF
            try have hO := lo_n e34.symm hO
            refine ct_put1 (C := RX4) (T := TX4) (N := 24) (ci := 4) (v := .int x33) hM hK hP hD hS inX4 tyX4 tyX4_ok nmX4 0 rfl rfl 5 (by decide) wfl_X4_50 rfl (by first | rfl | decide) (by first | rfl | decide) (Nat.le_of_ble_eq_true rfl) dX4_set_107 (fun H locs hP hD hS => ?_)
            have hP : va_P D classes (gwM cy a (m_co x, m_mi x, m_mn x, m_pa x, m_ca x, x33, m_fa x, m_st x, m_ha x, m_pd x, m_pn x, m_fr x, m_at x, m_wa x, m_en x, m_to x, m_or x, m_my x, m_bf x, m_bs x, m_kp x, m_ik x, m_ka x, m_iw x)) H := hP
            have hD : va_D A (gwM cy a (m_co x, m_mi x, m_mn x, m_pa x, m_ca x, x33, m_fa x, m_st x, m_ha x, m_pd x, m_pn x, m_fr x, m_at x, m_wa x, m_en x, m_to x, m_or x, m_my x, m_bf x, m_bs x, m_kp x, m_ik x, m_ka x, m_iw x)) := hD
            refine lv_aload_n hx hb dX4_set_110 rfl (lv_at hl 1 rfl) ?_
            refine lv_iload_n hx hb dX4_set_111 rfl (lv_at hl 2 rfl) ?_
            refine lv_iconst (v := 1) hx hb dX4_set_112 (by decide) ?_
            refine lv_icmp_ne (tgt := 120) hx hb dX4_set_113 (by decide) (fun z => absurd c11 z) (fun _ => ?_)
            refine lv_iload_n hx hb dX4_set_116 rfl (lv_at hl 3 rfl) ?_
            refine lv_goto (tgt := 124) hx hb dX4_set_117 (by decide) ?_
            refine ct_put1 (C := RX4) (T := TX4) (N := 24) (ci := 4) (v := .int s2) hM hK hP hD hS inX4 tyX4 tyX4_ok nmX4 0 rfl rfl 6 (by decide) wfl_X4_54 rfl (by first | rfl | decide) (by first | rfl | decide) (Nat.le_of_ble_eq_true rfl) dX4_set_124 (fun H locs hP hD hS => ?_)
            have hP : va_P D classes (gwM cy a (m_co x, m_mi x, m_mn x, m_pa x, m_ca x, x33, s2, m_st x, m_ha x, m_pd x, m_pn x, m_fr x, m_at x, m_wa x, m_en x, m_to x, m_or x, m_my x, m_bf x, m_bs x, m_kp x, m_ik x, m_ka x, m_iw x)) H := hP
            have hD : va_D A (gwM cy a (m_co x, m_mi x, m_mn x, m_pa x, m_ca x, x33, s2, m_st x, m_ha x, m_pd x, m_pn x, m_fr x, m_at x, m_wa x, m_en x, m_to x, m_or x, m_my x, m_bf x, m_bs x, m_kp x, m_ik x, m_ka x, m_iw x)) := hD
            refine lv_aload_n hx hb dX4_set_127 rfl (lv_at hl 1 rfl) ?_
            refine lv_iload_n hx hb dX4_set_128 rfl (lv_at hl 2 rfl) ?_
            refine lv_iconst (v := 2) hx hb dX4_set_129 (by decide) ?_
            refine lv_icmp_ne (tgt := 137) hx hb dX4_set_130 (by decide) (fun _ => ?_) (fun z => absurd z (by rw [c11]; decide))
            refine lv_aload_n hx hb dX4_set_137 rfl (lv_at hl 1 rfl) ?_
            refine ct_get (C := RX4) (T := TX4) (N := 24) (ci := 4) (v := .int (m_st x)) hM hK hP inX4 0 rfl rfl 7 (by decide) wfl_X4_87 rfl dX4_set_138 ?_
            refine lv_topi (fun x35 e36 => ?_)
            have hF := lt_n e36.symm hF
            try have hO := lo_n e36.symm hO
            refine ct_put1 (C := RX4) (T := TX4) (N := 24) (ci := 4) (v := .int x35) hM hK hP hD hS inX4 tyX4 tyX4_ok nmX4 0 rfl rfl 7 (by decide) wfl_X4_87 rfl (by first | rfl | decide) (by first | rfl | decide) (Nat.le_of_ble_eq_true rfl) dX4_set_141 (fun H locs hP hD hS => ?_)
            have hP : va_P D classes (gwM cy a (m_co x, m_mi x, m_mn x, m_pa x, m_ca x, x33, s2, x35, m_ha x, m_pd x, m_pn x, m_fr x, m_at x, m_wa x, m_en x, m_to x, m_or x, m_my x, m_bf x, m_bs x, m_kp x, m_ik x, m_ka x, m_iw x)) H := hP
            have hD : va_D A (gwM cy a (m_co x, m_mi x, m_mn x, m_pa x, m_ca x, x33, s2, x35, m_ha x, m_pd x, m_pn x, m_fr x, m_at x, m_wa x, m_en x, m_to x, m_or x, m_my x, m_bf x, m_bs x, m_kp x, m_ik x, m_ka x, m_iw x)) := hD
            refine lv_aload_n hx hb dX4_set_144 rfl (lv_at hl 1 rfl) ?_
            refine lv_iload_n hx hb dX4_set_145 rfl (lv_at hl 2 rfl) ?_
            refine lv_iconst (v := 3) hx hb dX4_set_146 (by decide) ?_
            refine lv_icmp_ne (tgt := 154) hx hb dX4_set_147 (by decide) (fun _ => ?_) (fun z => absurd z c6)
            refine lv_aload_n hx hb dX4_set_154 rfl (lv_at hl 1 rfl) ?_
            refine ct_get (C := RX4) (T := TX4) (N := 24) (ci := 4) (v := .int (m_ha x)) hM hK hP inX4 0 rfl rfl 8 (by decide) wfl_X4_90 rfl dX4_set_155 ?_
            refine lv_topi (fun x37 e38 => ?_)
            have hF := lt_n e38.symm hF
            try have hO := lo_n e38.symm hO
            refine ct_put1 (C := RX4) (T := TX4) (N := 24) (ci := 4) (v := .int x37) hM hK hP hD hS inX4 tyX4 tyX4_ok nmX4 0 rfl rfl 8 (by decide) wfl_X4_90 rfl (by first | rfl | decide) (by first | rfl | decide) (Nat.le_of_ble_eq_true rfl) dX4_set_158 (fun H locs hP hD hS => ?_)
            have hP : va_P D classes (gwM cy a (m_co x, m_mi x, m_mn x, m_pa x, m_ca x, x33, s2, x35, x37, m_pd x, m_pn x, m_fr x, m_at x, m_wa x, m_en x, m_to x, m_or x, m_my x, m_bf x, m_bs x, m_kp x, m_ik x, m_ka x, m_iw x)) H := hP
            have hD : va_D A (gwM cy a (m_co x, m_mi x, m_mn x, m_pa x, m_ca x, x33, s2, x35, x37, m_pd x, m_pn x, m_fr x, m_at x, m_wa x, m_en x, m_to x, m_or x, m_my x, m_bf x, m_bs x, m_kp x, m_ik x, m_ka x, m_iw x)) := hD
            refine lv_iload_n hx hb dX4_set_161 rfl (lv_at hl 0 rfl) ?_
            subst hF
            exact ct_iret hM hP hS dX4_set_162
        · have hF := lt_t c10 hF
          refine lv_bipush (v := (-2)) hx hb dX4_set_51 (by decide) ?_
          subst hF
          exact ct_iret hM hP hS dX4_set_53
      · have hF := lt_t c6 hF
        refine lv_lconst (v := 1) hx hb dX4_set_38 rfl ?_
        refine lv_goto (tgt := 45) hx hb dX4_set_39 (by decide) ?_
        obtain ⟨q40, e41⟩ : ∃ q, fX4_in (Int32.toInt64 s2) 0 1 = q := ⟨_, rfl⟩
        have hF := lt_n e41 hF
        try have hO := lo_n e41 hO
        refine ct_callS hM hK hP hD hS (kX4_in l D cy (Int32.toInt64 s2) 0 1 trivial e41) kvX4_in wml_X4_59 rfl hl.1 rfl ⟨rfl, rfl, Nat.le_of_ble_eq_true rfl, Nat.le_of_ble_eq_true rfl⟩ (Nat.le_of_ble_eq_true rfl) ⟨Nat.zero_le _, Nat.zero_le _⟩ dX4_set_45 (fun H locs hP hD hS => ?_)
        refine W.eq (g2 := F0 m 48 ls [.int q40]) rfl ?_
        have hP : va_P D classes (gwM cy a x) H := hP
        have hD : va_D A (gwM cy a x) := hD
        refine lv_if_ne (tgt := 54) hx hb dX4_set_48 (by decide) (fun c42 => ?_) (fun c42 => ?_)
        · have hF := lt_f c42 hF
          refine lv_iload_n hx hb dX4_set_54 rfl (lv_at hl 1 rfl) ?_
          refine lv_if_ne (tgt := 65) hx hb dX4_set_55 (by decide) (fun _ => ?_) (fun z => absurd z c5)
          refine lv_iload_n hx hb dX4_set_65 rfl (lv_at hl 1 rfl) ?_
          refine lv_iconst (v := 1) hx hb dX4_set_66 (by decide) ?_
          refine lv_icmp_ne (tgt := 77) hx hb dX4_set_67 (by decide) (fun _ => ?_) (fun z => absurd z (by rw [c6]; decide))
          refine lv_iload_n hx hb dX4_set_77 rfl (lv_at hl 1 rfl) ?_
          refine lv_iconst (v := 2) hx hb dX4_set_78 (by decide) ?_
          refine lv_icmp_ne (tgt := 89) hx hb dX4_set_79 (by decide) (fun _ => ?_) (fun z => absurd z (by rw [c6]; decide))
          refine lv_aload_n hx hb dX4_set_89 rfl (lv_at hl 0 rfl) ?_
          refine ct_get (C := RX4) (T := TX4) (N := 24) (ci := 4) (v := .int (m_ha x)) hM hK hP inX4 0 rfl rfl 8 (by decide) wfl_X4_90 rfl dX4_set_90 ?_
          refine lv_topi (fun x43 e44 => ?_)
          have hF := lt_n e44.symm hF
          try have hO := lo_n e44.symm hO
          refine lv_istore_n (lv' := [(3, .int x43), (0, .ref (a 0)), (1, .int s1), (2, .int s2)]) hx hb dX4_set_93 rfl hl (by decide) rfl (fun ls hl => ?_)
          refine lv_aload_n hx hb dX4_set_94 rfl (lv_at hl 1 rfl) ?_
          refine lv_iload_n hx hb dX4_set_95 rfl (lv_at hl 2 rfl) ?_
          refine lv_if_ne (tgt := 103) hx hb dX4_set_96 (by decide) (fun _ => ?_) (fun z => absurd z c5)
          refine lv_aload_n hx hb dX4_set_103 rfl (lv_at hl 1 rfl) ?_
          refine ct_get (C := RX4) (T := TX4) (N := 24) (ci := 4) (v := .int (m_dr x)) hM hK hP inX4 0 rfl rfl 5 (by decide) wfl_X4_50 rfl dX4_set_104 ?_
          refine lv_topi (fun x45 e46 => ?_)
          have hF := lt_n e46.symm hF
          try have hO := lo_n e46.symm hO
          refine ct_put1 (C := RX4) (T := TX4) (N := 24) (ci := 4) (v := .int x45) hM hK hP hD hS inX4 tyX4 tyX4_ok nmX4 0 rfl rfl 5 (by decide) wfl_X4_50 rfl (by first | rfl | decide) (by first | rfl | decide) (Nat.le_of_ble_eq_true rfl) dX4_set_107 (fun H locs hP hD hS => ?_)
          have hP : va_P D classes (gwM cy a (m_co x, m_mi x, m_mn x, m_pa x, m_ca x, x45, m_fa x, m_st x, m_ha x, m_pd x, m_pn x, m_fr x, m_at x, m_wa x, m_en x, m_to x, m_or x, m_my x, m_bf x, m_bs x, m_kp x, m_ik x, m_ka x, m_iw x)) H := hP
          have hD : va_D A (gwM cy a (m_co x, m_mi x, m_mn x, m_pa x, m_ca x, x45, m_fa x, m_st x, m_ha x, m_pd x, m_pn x, m_fr x, m_at x, m_wa x, m_en x, m_to x, m_or x, m_my x, m_bf x, m_bs x, m_kp x, m_ik x, m_ka x, m_iw x)) := hD
          refine lv_aload_n hx hb dX4_set_110 rfl (lv_at hl 1 rfl) ?_
          refine lv_iload_n hx hb dX4_set_111 rfl (lv_at hl 2 rfl) ?_
          refine lv_iconst (v := 1) hx hb dX4_set_112 (by decide) ?_
          refine lv_icmp_ne (tgt := 120) hx hb dX4_set_113 (by decide) (fun _ => ?_) (fun z => absurd z (by rw [c6]; decide))
          refine lv_aload_n hx hb dX4_set_120 rfl (lv_at hl 1 rfl) ?_
          refine ct_get (C := RX4) (T := TX4) (N := 24) (ci := 4) (v := .int (m_fa x)) hM hK hP inX4 0 rfl rfl 6 (by decide) wfl_X4_54 rfl dX4_set_121 ?_
          refine lv_topi (fun x47 e48 => ?_)
          have hF := lt_n e48.symm hF
          try have hO := lo_n e48.symm hO
          refine ct_put1 (C := RX4) (T := TX4) (N := 24) (ci := 4) (v := .int x47) hM hK hP hD hS inX4 tyX4 tyX4_ok nmX4 0 rfl rfl 6 (by decide) wfl_X4_54 rfl (by first | rfl | decide) (by first | rfl | decide) (Nat.le_of_ble_eq_true rfl) dX4_set_124 (fun H locs hP hD hS => ?_)
          have hP : va_P D classes (gwM cy a (m_co x, m_mi x, m_mn x, m_pa x, m_ca x, x45, x47, m_st x, m_ha x, m_pd x, m_pn x, m_fr x, m_at x, m_wa x, m_en x, m_to x, m_or x, m_my x, m_bf x, m_bs x, m_kp x, m_ik x, m_ka x, m_iw x)) H := hP
          have hD : va_D A (gwM cy a (m_co x, m_mi x, m_mn x, m_pa x, m_ca x, x45, x47, m_st x, m_ha x, m_pd x, m_pn x, m_fr x, m_at x, m_wa x, m_en x, m_to x, m_or x, m_my x, m_bf x, m_bs x, m_kp x, m_ik x, m_ka x, m_iw x)) := hD
          refine lv_aload_n hx hb dX4_set_127 rfl (lv_at hl 1 rfl) ?_
          refine lv_iload_n hx hb dX4_set_128 rfl (lv_at hl 2 rfl) ?_
          refine lv_iconst (v := 2) hx hb dX4_set_129 (by decide) ?_
          refine lv_icmp_ne (tgt := 137) hx hb dX4_set_130 (by decide) (fun _ => ?_) (fun z => absurd z (by rw [c6]; decide))
          refine lv_aload_n hx hb dX4_set_137 rfl (lv_at hl 1 rfl) ?_
          refine ct_get (C := RX4) (T := TX4) (N := 24) (ci := 4) (v := .int (m_st x)) hM hK hP inX4 0 rfl rfl 7 (by decide) wfl_X4_87 rfl dX4_set_138 ?_
          refine lv_topi (fun x49 e50 => ?_)
          have hF := lt_n e50.symm hF
          try have hO := lo_n e50.symm hO
          refine ct_put1 (C := RX4) (T := TX4) (N := 24) (ci := 4) (v := .int x49) hM hK hP hD hS inX4 tyX4 tyX4_ok nmX4 0 rfl rfl 7 (by decide) wfl_X4_87 rfl (by first | rfl | decide) (by first | rfl | decide) (Nat.le_of_ble_eq_true rfl) dX4_set_141 (fun H locs hP hD hS => ?_)
          have hP : va_P D classes (gwM cy a (m_co x, m_mi x, m_mn x, m_pa x, m_ca x, x45, x47, x49, m_ha x, m_pd x, m_pn x, m_fr x, m_at x, m_wa x, m_en x, m_to x, m_or x, m_my x, m_bf x, m_bs x, m_kp x, m_ik x, m_ka x, m_iw x)) H := hP
          have hD : va_D A (gwM cy a (m_co x, m_mi x, m_mn x, m_pa x, m_ca x, x45, x47, x49, m_ha x, m_pd x, m_pn x, m_fr x, m_at x, m_wa x, m_en x, m_to x, m_or x, m_my x, m_bf x, m_bs x, m_kp x, m_ik x, m_ka x, m_iw x)) := hD
          refine lv_aload_n hx hb dX4_set_144 rfl (lv_at hl 1 rfl) ?_
          refine lv_iload_n hx hb dX4_set_145 rfl (lv_at hl 2 rfl) ?_
          refine lv_iconst (v := 3) hx hb dX4_set_146 (by decide) ?_
          refine lv_icmp_ne (tgt := 154) hx hb dX4_set_147 (by decide) (fun z => absurd c6 z) (fun _ => ?_)
          refine lv_iload_n hx hb dX4_set_150 rfl (lv_at hl 3 rfl) ?_
          refine lv_goto (tgt := 158) hx hb dX4_set_151 (by decide) ?_
          refine ct_put1 (C := RX4) (T := TX4) (N := 24) (ci := 4) (v := .int s2) hM hK hP hD hS inX4 tyX4 tyX4_ok nmX4 0 rfl rfl 8 (by decide) wfl_X4_90 rfl (by first | rfl | decide) (by first | rfl | decide) (Nat.le_of_ble_eq_true rfl) dX4_set_158 (fun H locs hP hD hS => ?_)
          have hP : va_P D classes (gwM cy a (m_co x, m_mi x, m_mn x, m_pa x, m_ca x, x45, x47, x49, s2, m_pd x, m_pn x, m_fr x, m_at x, m_wa x, m_en x, m_to x, m_or x, m_my x, m_bf x, m_bs x, m_kp x, m_ik x, m_ka x, m_iw x)) H := hP
          have hD : va_D A (gwM cy a (m_co x, m_mi x, m_mn x, m_pa x, m_ca x, x45, x47, x49, s2, m_pd x, m_pn x, m_fr x, m_at x, m_wa x, m_en x, m_to x, m_or x, m_my x, m_bf x, m_bs x, m_kp x, m_ik x, m_ka x, m_iw x)) := hD
          refine lv_iload_n hx hb dX4_set_161 rfl (lv_at hl 0 rfl) ?_
          subst hF
          exact ct_iret hM hP hS dX4_set_162
        · have hF := lt_t c42 hF
          refine lv_bipush (v := (-2)) hx hb dX4_set_51 (by decide) ?_
          subst hF
          exact ct_iret hM hP hS dX4_set_53
    · have hF := lt_t c5 hF
      refine lv_lconst (v := 1) hx hb dX4_set_18 rfl ?_
      refine lv_goto (tgt := 23) hx hb dX4_set_19 (by decide) ?_
      refine lv_iload_n hx hb dX4_set_23 rfl (lv_at hl 1 rfl) ?_
      refine lv_if_ne (tgt := 33) hx hb dX4_set_24 (by decide) (fun z => absurd c5 z) (fun _ => ?_)
      refine lv_ldc2 (v := 20) hx hb hown (hts _ wct_X4_85) dX4_set_27 ?_
      refine lv_goto (tgt := 45) hx hb dX4_set_30 (by decide) ?_
      obtain ⟨q52, e53⟩ : ∃ q, fX4_in (Int32.toInt64 s2) 1 20 = q := ⟨_, rfl⟩
      have hF := lt_n e53 hF
      try have hO := lo_n e53 hO
      refine ct_callS hM hK hP hD hS (kX4_in l D cy (Int32.toInt64 s2) 1 20 trivial e53) kvX4_in wml_X4_59 rfl hl.1 rfl ⟨rfl, rfl, Nat.le_of_ble_eq_true rfl, Nat.le_of_ble_eq_true rfl⟩ (Nat.le_of_ble_eq_true rfl) ⟨Nat.zero_le _, Nat.zero_le _⟩ dX4_set_45 (fun H locs hP hD hS => ?_)
      refine W.eq (g2 := F0 m 48 ls [.int q52]) rfl ?_
      have hP : va_P D classes (gwM cy a x) H := hP
      have hD : va_D A (gwM cy a x) := hD
      refine lv_if_ne (tgt := 54) hx hb dX4_set_48 (by decide) (fun c54 => ?_) (fun c54 => ?_)
      · have hF := lt_f c54 hF
        refine lv_iload_n hx hb dX4_set_54 rfl (lv_at hl 1 rfl) ?_
        refine lv_if_ne (tgt := 65) hx hb dX4_set_55 (by decide) (fun z => absurd c5 z) (fun _ => ?_)
        refine lv_aload_n hx hb dX4_set_58 rfl (lv_at hl 0 rfl) ?_
        refine ct_get (C := RX4) (T := TX4) (N := 24) (ci := 4) (v := .int (m_dr x)) hM hK hP inX4 0 rfl rfl 5 (by decide) wfl_X4_50 rfl dX4_set_59 ?_
        refine lv_goto (tgt := 93) hx hb dX4_set_62 (by decide) ?_
        refine lv_topi (fun x55 e56 => ?_)
        have hF := lt_n e56.symm hF
        try have hO := lo_n e56.symm hO
        refine lv_istore_n (lv' := [(3, .int x55), (0, .ref (a 0)), (1, .int s1), (2, .int s2)]) hx hb dX4_set_93 rfl hl (by decide) rfl (fun ls hl => ?_)
        refine lv_aload_n hx hb dX4_set_94 rfl (lv_at hl 1 rfl) ?_
        refine lv_iload_n hx hb dX4_set_95 rfl (lv_at hl 2 rfl) ?_
        refine lv_if_ne (tgt := 103) hx hb dX4_set_96 (by decide) (fun z => absurd c5 z) (fun _ => ?_)
        refine lv_iload_n hx hb dX4_set_99 rfl (lv_at hl 3 rfl) ?_
        refine lv_goto (tgt := 107) hx hb dX4_set_100 (by decide) ?_
        refine ct_put1 (C := RX4) (T := TX4) (N := 24) (ci := 4) (v := .int s2) hM hK hP hD hS inX4 tyX4 tyX4_ok nmX4 0 rfl rfl 5 (by decide) wfl_X4_50 rfl (by first | rfl | decide) (by first | rfl | decide) (Nat.le_of_ble_eq_true rfl) dX4_set_107 (fun H locs hP hD hS => ?_)
        have hP : va_P D classes (gwM cy a (m_co x, m_mi x, m_mn x, m_pa x, m_ca x, s2, m_fa x, m_st x, m_ha x, m_pd x, m_pn x, m_fr x, m_at x, m_wa x, m_en x, m_to x, m_or x, m_my x, m_bf x, m_bs x, m_kp x, m_ik x, m_ka x, m_iw x)) H := hP
        have hD : va_D A (gwM cy a (m_co x, m_mi x, m_mn x, m_pa x, m_ca x, s2, m_fa x, m_st x, m_ha x, m_pd x, m_pn x, m_fr x, m_at x, m_wa x, m_en x, m_to x, m_or x, m_my x, m_bf x, m_bs x, m_kp x, m_ik x, m_ka x, m_iw x)) := hD
        refine lv_aload_n hx hb dX4_set_110 rfl (lv_at hl 1 rfl) ?_
        refine lv_iload_n hx hb dX4_set_111 rfl (lv_at hl 2 rfl) ?_
        refine lv_iconst (v := 1) hx hb dX4_set_112 (by decide) ?_
        refine lv_icmp_ne (tgt := 120) hx hb dX4_set_113 (by decide) (fun _ => ?_) (fun z => absurd z (by rw [c5]; decide))
        refine lv_aload_n hx hb dX4_set_120 rfl (lv_at hl 1 rfl) ?_
        refine ct_get (C := RX4) (T := TX4) (N := 24) (ci := 4) (v := .int (m_fa x)) hM hK hP inX4 0 rfl rfl 6 (by decide) wfl_X4_54 rfl dX4_set_121 ?_
        refine lv_topi (fun x57 e58 => ?_)
        have hF := lt_n e58.symm hF
        try have hO := lo_n e58.symm hO
        refine ct_put1 (C := RX4) (T := TX4) (N := 24) (ci := 4) (v := .int x57) hM hK hP hD hS inX4 tyX4 tyX4_ok nmX4 0 rfl rfl 6 (by decide) wfl_X4_54 rfl (by first | rfl | decide) (by first | rfl | decide) (Nat.le_of_ble_eq_true rfl) dX4_set_124 (fun H locs hP hD hS => ?_)
        have hP : va_P D classes (gwM cy a (m_co x, m_mi x, m_mn x, m_pa x, m_ca x, s2, x57, m_st x, m_ha x, m_pd x, m_pn x, m_fr x, m_at x, m_wa x, m_en x, m_to x, m_or x, m_my x, m_bf x, m_bs x, m_kp x, m_ik x, m_ka x, m_iw x)) H := hP
        have hD : va_D A (gwM cy a (m_co x, m_mi x, m_mn x, m_pa x, m_ca x, s2, x57, m_st x, m_ha x, m_pd x, m_pn x, m_fr x, m_at x, m_wa x, m_en x, m_to x, m_or x, m_my x, m_bf x, m_bs x, m_kp x, m_ik x, m_ka x, m_iw x)) := hD
        refine lv_aload_n hx hb dX4_set_127 rfl (lv_at hl 1 rfl) ?_
        refine lv_iload_n hx hb dX4_set_128 rfl (lv_at hl 2 rfl) ?_
        refine lv_iconst (v := 2) hx hb dX4_set_129 (by decide) ?_
        refine lv_icmp_ne (tgt := 137) hx hb dX4_set_130 (by decide) (fun _ => ?_) (fun z => absurd z (by rw [c5]; decide))
        refine lv_aload_n hx hb dX4_set_137 rfl (lv_at hl 1 rfl) ?_
        refine ct_get (C := RX4) (T := TX4) (N := 24) (ci := 4) (v := .int (m_st x)) hM hK hP inX4 0 rfl rfl 7 (by decide) wfl_X4_87 rfl dX4_set_138 ?_
        refine lv_topi (fun x59 e60 => ?_)
        have hF := lt_n e60.symm hF
        try have hO := lo_n e60.symm hO
        refine ct_put1 (C := RX4) (T := TX4) (N := 24) (ci := 4) (v := .int x59) hM hK hP hD hS inX4 tyX4 tyX4_ok nmX4 0 rfl rfl 7 (by decide) wfl_X4_87 rfl (by first | rfl | decide) (by first | rfl | decide) (Nat.le_of_ble_eq_true rfl) dX4_set_141 (fun H locs hP hD hS => ?_)
        have hP : va_P D classes (gwM cy a (m_co x, m_mi x, m_mn x, m_pa x, m_ca x, s2, x57, x59, m_ha x, m_pd x, m_pn x, m_fr x, m_at x, m_wa x, m_en x, m_to x, m_or x, m_my x, m_bf x, m_bs x, m_kp x, m_ik x, m_ka x, m_iw x)) H := hP
        have hD : va_D A (gwM cy a (m_co x, m_mi x, m_mn x, m_pa x, m_ca x, s2, x57, x59, m_ha x, m_pd x, m_pn x, m_fr x, m_at x, m_wa x, m_en x, m_to x, m_or x, m_my x, m_bf x, m_bs x, m_kp x, m_ik x, m_ka x, m_iw x)) := hD
        refine lv_aload_n hx hb dX4_set_144 rfl (lv_at hl 1 rfl) ?_
        refine lv_iload_n hx hb dX4_set_145 rfl (lv_at hl 2 rfl) ?_
        refine lv_iconst (v := 3) hx hb dX4_set_146 (by decide) ?_
        refine lv_icmp_ne (tgt := 154) hx hb dX4_set_147 (by decide) (fun _ => ?_) (fun z => absurd z (by rw [c5]; decide))
        refine lv_aload_n hx hb dX4_set_154 rfl (lv_at hl 1 rfl) ?_
        refine ct_get (C := RX4) (T := TX4) (N := 24) (ci := 4) (v := .int (m_ha x)) hM hK hP inX4 0 rfl rfl 8 (by decide) wfl_X4_90 rfl dX4_set_155 ?_
        refine lv_topi (fun x61 e62 => ?_)
        have hF := lt_n e62.symm hF
        try have hO := lo_n e62.symm hO
        refine ct_put1 (C := RX4) (T := TX4) (N := 24) (ci := 4) (v := .int x61) hM hK hP hD hS inX4 tyX4 tyX4_ok nmX4 0 rfl rfl 8 (by decide) wfl_X4_90 rfl (by first | rfl | decide) (by first | rfl | decide) (Nat.le_of_ble_eq_true rfl) dX4_set_158 (fun H locs hP hD hS => ?_)
        have hP : va_P D classes (gwM cy a (m_co x, m_mi x, m_mn x, m_pa x, m_ca x, s2, x57, x59, x61, m_pd x, m_pn x, m_fr x, m_at x, m_wa x, m_en x, m_to x, m_or x, m_my x, m_bf x, m_bs x, m_kp x, m_ik x, m_ka x, m_iw x)) H := hP
        have hD : va_D A (gwM cy a (m_co x, m_mi x, m_mn x, m_pa x, m_ca x, s2, x57, x59, x61, m_pd x, m_pn x, m_fr x, m_at x, m_wa x, m_en x, m_to x, m_or x, m_my x, m_bf x, m_bs x, m_kp x, m_ik x, m_ka x, m_iw x)) := hD
        refine lv_iload_n hx hb dX4_set_161 rfl (lv_at hl 0 rfl) ?_
        subst hF
        exact ct_iret hM hP hS dX4_set_162
      · have hF := lt_t c54 hF
        refine lv_bipush (v := (-2)) hx hb dX4_set_51 (by decide) ?_
        subst hF
        exact ct_iret hM hP hS dX4_set_53

abbrev rX4_say : Room := { frames := 1, cells := 0, slots := 0, locals := 25 }
def fX4_say (x : tMs) (s1 : Int32) : Int32 × tMs := lt_ (fX4_in (Int32.toInt64 s1) 33 126) fun q2 => if q2 = 0 then ((-2), x) else (if m_pn x = 40 then ((-4), x) else (lt_ (m_pn x + 1) fun x7 => (x7, (m_co x, m_mi x, m_mn x, m_pa x, m_ca x, m_dr x, m_fa x, m_st x, m_ha x, upd (m_pd x) (Int32.toNatClampNeg (m_pn x)) s1, x7, m_fr x, m_at x, m_wa x, m_en x, m_to x, m_or x, m_my x, m_bf x, m_bs x, m_kp x, m_ik x, m_ka x, m_iw x))))
def oX4_say (x : tMs) (s1 : Int32) : Prop := lo_ (fX4_in (Int32.toInt64 s1) 33 126) fun q2 => if q2 = 0 then True else (if m_pn x = 40 then True else (vp_in (m_pn x) 40 ∧ True))
theorem kvX4_say : KV yX4_say cX4_say 2 (some .int) 1 := ⟨wcd_X4_say, wim_X4_say, wsl_X4_say, win_X4, by decide +kernel, by decide +kernel, by decide +kernel⟩
set_option maxHeartbeats 4000000 in
set_option maxRecDepth 100000 in
theorem kX4_say (l : Launch) (D : va_G) (cy : Nat → ClassId) (a : Nat → Nat) (x : tMs) (s1 : Int32) {R : Int32 × tMs} (hO : oX4_say x s1) (hF : fX4_say x s1 = R) : CT l D cy yX4_say cX4_say 2 (some .int) rX4_say [.ref (a 0), .int s1] (gwM cy a x) (some (.int R.1)) (gwM cy a R.2) := by
  refine ct_of (by decide) (Nat.le_of_ble_eq_true rfl) ?_
  intro p e s m args below meth c A ls hM hK hP hD hS hl
  obtain ⟨hx, hb, -, hml, hown, hts, -⟩ := id hM
  have hl : lv_has ls 2 [(0, .ref (a 0)), (1, .int s1)] := hl
  obtain ⟨H, hH⟩ : ∃ H : Heap, H = s.heap := ⟨_, rfl⟩
  obtain ⟨locs, hlocs⟩ : ∃ q : List Loc, q = [] := ⟨_, rfl⟩
  have hP : va_P D classes (gwM cy a x) H := by rw [hH]; exact hP
  have hS : va_S A s.heap H locs := by rw [hH, hlocs]; exact hS
  suffices hg : W p l e rX4_say s m args below meth c H locs 0 0 (MQ below (ctQ D (some (.int R.1)) (gwM cy a R.2) A) args s 0 0 A) (F0 m 0 ls []) by rw [hH, hlocs] at hg; exact hg
  clear hH hlocs
  unfold fX4_say at hF
  unfold oX4_say at hO
  refine lv_iload_n hx hb dX4_say_0 rfl (lv_at hl 1 rfl) ?_
  refine lv_i2l (v := Int32.toInt64 s1) hx hb dX4_say_1 rfl ?_
  refine lv_ldc2 (v := 33) hx hb hown (hts _ wct_X4_93) dX4_say_2 ?_
  refine lv_ldc2 (v := 126) hx hb hown (hts _ wct_X4_95) dX4_say_5 ?_
  obtain ⟨q2, e3⟩ : ∃ q, fX4_in (Int32.toInt64 s1) 33 126 = q := ⟨_, rfl⟩
  have hF := lt_n e3 hF
  try have hO := lo_n e3 hO
  refine ct_callS hM hK hP hD hS (kX4_in l D cy (Int32.toInt64 s1) 33 126 trivial e3) kvX4_in wml_X4_59 rfl hl.1 rfl ⟨rfl, rfl, Nat.le_of_ble_eq_true rfl, Nat.le_of_ble_eq_true rfl⟩ (Nat.le_of_ble_eq_true rfl) ⟨Nat.zero_le _, Nat.zero_le _⟩ dX4_say_8 (fun H locs hP hD hS => ?_)
  refine W.eq (g2 := F0 m 11 ls [.int q2]) rfl ?_
  have hP : va_P D classes (gwM cy a x) H := hP
  have hD : va_D A (gwM cy a x) := hD
  refine lv_if_ne (tgt := 17) hx hb dX4_say_11 (by decide) (fun c4 => ?_) (fun c4 => ?_)
  · have hF := lt_f c4 hF
    have hO := lo_f c4 hO
    refine lv_aload_n hx hb dX4_say_17 rfl (lv_at hl 0 rfl) ?_
    refine ct_get (C := RX4) (T := TX4) (N := 24) (ci := 4) (v := .int (m_pn x)) hM hK hP inX4 0 rfl rfl 10 (by decide) wfl_X4_97 rfl dX4_say_18 ?_
    refine lv_bipush (v := 40) hx hb dX4_say_21 (by decide) ?_
    refine lv_icmp_ne (tgt := 29) hx hb dX4_say_23 (by decide) (fun c5 => ?_) (fun c5 => ?_)
    · have hF := lt_f c5 hF
      have hO := lo_f c5 hO
      refine lv_aload_n hx hb dX4_say_29 rfl (lv_at hl 0 rfl) ?_
      refine ct_get (C := RX4) (T := TX4) (N := 24) (ci := 4) (v := .ref (a 5)) hM hK hP inX4 0 rfl rfl 9 (by decide) wfl_X4_22 rfl dX4_say_30 ?_
      refine lv_aload_n hx hb dX4_say_33 rfl (lv_at hl 0 rfl) ?_
      refine ct_get (C := RX4) (T := TX4) (N := 24) (ci := 4) (v := .int (m_pn x)) hM hK hP inX4 0 rfl rfl 10 (by decide) wfl_X4_97 rfl dX4_say_34 ?_
      refine lv_iload_n hx hb dX4_say_37 rfl (lv_at hl 1 rfl) ?_
      obtain ⟨h6, hO⟩ := hO
      refine va_iast hx hb hK hP hD hS 5 0 (f := m_pd x) (n := 40) (cA := cy 0) rfl rfl h6 dX4_say_38 (fun H locs hP hD hS => ?_)
      have hP : va_P D classes (gwM cy a (m_co x, m_mi x, m_mn x, m_pa x, m_ca x, m_dr x, m_fa x, m_st x, m_ha x, upd (m_pd x) (Int32.toNatClampNeg (m_pn x)) s1, m_pn x, m_fr x, m_at x, m_wa x, m_en x, m_to x, m_or x, m_my x, m_bf x, m_bs x, m_kp x, m_ik x, m_ka x, m_iw x)) H := hP
      have hD : va_D A (gwM cy a (m_co x, m_mi x, m_mn x, m_pa x, m_ca x, m_dr x, m_fa x, m_st x, m_ha x, upd (m_pd x) (Int32.toNatClampNeg (m_pn x)) s1, m_pn x, m_fr x, m_at x, m_wa x, m_en x, m_to x, m_or x, m_my x, m_bf x, m_bs x, m_kp x, m_ik x, m_ka x, m_iw x)) := hD
      refine lv_aload_n hx hb dX4_say_39 rfl (lv_at hl 0 rfl) ?_
      refine lv_dup hx hb dX4_say_40 rfl ?_
      refine ct_get (C := RX4) (T := TX4) (N := 24) (ci := 4) (v := .int (m_pn x)) hM hK hP inX4 0 rfl rfl 10 (by decide) wfl_X4_97 rfl dX4_say_41 ?_
      refine lv_iconst (v := 1) hx hb dX4_say_44 (by decide) ?_
      refine lv_iadd hx hb dX4_say_45 ?_
      refine lv_topi (fun x7 e8 => ?_)
      have hF := lt_n e8.symm hF
      try have hO := lo_n e8.symm hO
      refine ct_put1 (C := RX4) (T := TX4) (N := 24) (ci := 4) (v := .int x7) hM hK hP hD hS inX4 tyX4 tyX4_ok nmX4 0 rfl rfl 10 (by decide) wfl_X4_97 rfl (by first | rfl | decide) (by first | rfl | decide) (Nat.le_of_ble_eq_true rfl) dX4_say_46 (fun H locs hP hD hS => ?_)
      have hP : va_P D classes (gwM cy a (m_co x, m_mi x, m_mn x, m_pa x, m_ca x, m_dr x, m_fa x, m_st x, m_ha x, upd (m_pd x) (Int32.toNatClampNeg (m_pn x)) s1, x7, m_fr x, m_at x, m_wa x, m_en x, m_to x, m_or x, m_my x, m_bf x, m_bs x, m_kp x, m_ik x, m_ka x, m_iw x)) H := hP
      have hD : va_D A (gwM cy a (m_co x, m_mi x, m_mn x, m_pa x, m_ca x, m_dr x, m_fa x, m_st x, m_ha x, upd (m_pd x) (Int32.toNatClampNeg (m_pn x)) s1, x7, m_fr x, m_at x, m_wa x, m_en x, m_to x, m_or x, m_my x, m_bf x, m_bs x, m_kp x, m_ik x, m_ka x, m_iw x)) := hD
      refine lv_aload_n hx hb dX4_say_49 rfl (lv_at hl 0 rfl) ?_
      refine ct_get (C := RX4) (T := TX4) (N := 24) (ci := 4) (v := .int x7) hM hK hP inX4 0 rfl rfl 10 (by decide) wfl_X4_97 rfl dX4_say_50 ?_
      subst hF
      exact ct_iret hM hP hS dX4_say_53
    · have hF := lt_t c5 hF
      have hO := lo_t c5 hO
      refine lv_bipush (v := (-4)) hx hb dX4_say_26 (by decide) ?_
      subst hF
      exact ct_iret hM hP hS dX4_say_28
  · have hF := lt_t c4 hF
    have hO := lo_t c4 hO
    refine lv_bipush (v := (-2)) hx hb dX4_say_14 (by decide) ?_
    subst hF
    exact ct_iret hM hP hS dX4_say_16

abbrev rX4_wipe : Room := { frames := 0, cells := 0, slots := 0, locals := 0 }
def fX4_wipe (x : tMs) : Int32 × tMs := lt_ (m_pn x) fun x1 => (x1, (m_co x, m_mi x, m_mn x, m_pa x, m_ca x, m_dr x, m_fa x, m_st x, m_ha x, m_pd x, 0, m_fr x, m_at x, m_wa x, m_en x, m_to x, m_or x, m_my x, m_bf x, m_bs x, m_kp x, m_ik x, m_ka x, m_iw x))
def oX4_wipe (x : tMs) : Prop := True
theorem kvX4_wipe : KV yX4_wipe cX4_wipe 2 (some .int) 0 := ⟨wcd_X4_wipe, wim_X4_wipe, wsl_X4_wipe, win_X4, by decide +kernel, by decide +kernel, by decide +kernel⟩
set_option maxHeartbeats 4000000 in
set_option maxRecDepth 100000 in
theorem kX4_wipe (l : Launch) (D : va_G) (cy : Nat → ClassId) (a : Nat → Nat) (x : tMs) {R : Int32 × tMs} (hO : oX4_wipe x) (hF : fX4_wipe x = R) : CT l D cy yX4_wipe cX4_wipe 2 (some .int) rX4_wipe [.ref (a 0)] (gwM cy a x) (some (.int R.1)) (gwM cy a R.2) := by
  refine ct_of (by decide) (Nat.le_of_ble_eq_true rfl) ?_
  intro p e s m args below meth c A ls hM hK hP hD hS hl
  obtain ⟨hx, hb, -, hml, hown, hts, -⟩ := id hM
  have hl : lv_has ls 2 [(0, .ref (a 0))] := hl
  obtain ⟨H, hH⟩ : ∃ H : Heap, H = s.heap := ⟨_, rfl⟩
  obtain ⟨locs, hlocs⟩ : ∃ q : List Loc, q = [] := ⟨_, rfl⟩
  have hP : va_P D classes (gwM cy a x) H := by rw [hH]; exact hP
  have hS : va_S A s.heap H locs := by rw [hH, hlocs]; exact hS
  suffices hg : W p l e rX4_wipe s m args below meth c H locs 0 0 (MQ below (ctQ D (some (.int R.1)) (gwM cy a R.2) A) args s 0 0 A) (F0 m 0 ls []) by rw [hH, hlocs] at hg; exact hg
  clear hH hlocs
  unfold fX4_wipe at hF
  unfold oX4_wipe at hO
  refine lv_aload_n hx hb dX4_wipe_0 rfl (lv_at hl 0 rfl) ?_
  refine ct_get (C := RX4) (T := TX4) (N := 24) (ci := 4) (v := .int (m_pn x)) hM hK hP inX4 0 rfl rfl 10 (by decide) wfl_X4_97 rfl dX4_wipe_1 ?_
  refine lv_topi (fun x1 e2 => ?_)
  have hF := lt_n e2.symm hF
  try have hO := lo_n e2.symm hO
  refine lv_istore_n (lv' := [(1, .int x1), (0, .ref (a 0))]) hx hb dX4_wipe_4 rfl hl (by decide) rfl (fun ls hl => ?_)
  refine lv_aload_n hx hb dX4_wipe_5 rfl (lv_at hl 1 rfl) ?_
  refine lv_iconst (v := 0) hx hb dX4_wipe_6 (by decide) ?_
  refine ct_put1 (C := RX4) (T := TX4) (N := 24) (ci := 4) (v := .int 0) hM hK hP hD hS inX4 tyX4 tyX4_ok nmX4 0 rfl rfl 10 (by decide) wfl_X4_97 rfl (by first | rfl | decide) (by first | rfl | decide) (Nat.le_of_ble_eq_true rfl) dX4_wipe_7 (fun H locs hP hD hS => ?_)
  have hP : va_P D classes (gwM cy a (m_co x, m_mi x, m_mn x, m_pa x, m_ca x, m_dr x, m_fa x, m_st x, m_ha x, m_pd x, 0, m_fr x, m_at x, m_wa x, m_en x, m_to x, m_or x, m_my x, m_bf x, m_bs x, m_kp x, m_ik x, m_ka x, m_iw x)) H := hP
  have hD : va_D A (gwM cy a (m_co x, m_mi x, m_mn x, m_pa x, m_ca x, m_dr x, m_fa x, m_st x, m_ha x, m_pd x, 0, m_fr x, m_at x, m_wa x, m_en x, m_to x, m_or x, m_my x, m_bf x, m_bs x, m_kp x, m_ik x, m_ka x, m_iw x)) := hD
  refine lv_iload_n hx hb dX4_wipe_10 rfl (lv_at hl 0 rfl) ?_
  subst hF
  exact ct_iret hM hP hS dX4_wipe_11

abbrev rX4_fault : Room := { frames := 3, cells := 0, slots := 0, locals := 66 }
def fX4_fault_4 (x : tMs) : Nat → Int32 → Int32 → Int32
  | 0, s1, s2 => 0
  | n + 1, s1, s2 => if m_pn x ≤ s2 then (-6) else (lt_ ((m_pd x) (Int32.toNatClampNeg s2) - 65) fun x3 => lt_ (fX4_comes x x3) fun q6 => if q6 = 0 then s2 else (if ((s1 >>> (x3 &&& 31)) &&& 1) = 1 then s2 else (lt_ (s1 ||| (1 <<< (x3 &&& 31))) fun x10 => lt_ (s2 + 1) fun x12 => fX4_fault_4 x n x10 x12)))
def oX4_fault_4 (x : tMs) : Nat → Int32 → Int32 → Prop
  | 0, _, _ => False
  | n + 1, s1, s2 => if m_pn x ≤ s2 then True else (vp_in s2 40 ∧ (lo_ ((m_pd x) (Int32.toNatClampNeg s2) - 65) fun x3 => oX4_comes x x3 ∧ (lo_ (fX4_comes x x3) fun q6 => if q6 = 0 then True else (if ((s1 >>> (x3 &&& 31)) &&& 1) = 1 then True else (lo_ (s1 ||| (1 <<< (x3 &&& 31))) fun x10 => lo_ (s2 + 1) fun x12 => oX4_fault_4 x n x10 x12)))))
set_option maxHeartbeats 4000000 in
set_option maxRecDepth 100000 in
theorem tX4_fault_4 {p : Program} {l : Launch} {e : Env} {s : State} {m : MethodId} {args : Array Value} {below : List Frame} {meth : Method} {c : Code} {A : Nat → Prop} {D : va_G} {cy : Nat → ClassId} {a : Nat → Nat} {x : tMs} {R : Int32} (hM : MC p s m args meth c RX4 cX4_fault 4 (some .int)) (hK : va_K D classes (ctT cy) s) :
    ∀ (n : Nat) (s1 : Int32) (s2 : Int32) (H : Heap) (locs : List Loc) (ls : Array Slot), va_P D classes (gwM cy a x) H → va_D A (gwM cy a x) → va_S A s.heap H locs → lv_has ls 4 [(0, .ref (a 0)), (1, .int s1), (2, .int s2)] → oX4_fault_4 x n s1 s2 → fX4_fault_4 x n s1 s2 = R → W p l e rX4_fault s m args below meth c H locs 0 0 (MQ below (ctQ D (some (.int R)) (gwM cy a x) A) args s 0 0 A) (F0 m 4 ls []) := by
  obtain ⟨hx, hb, -, hml, hown, hts, -⟩ := id hM
  intro n
  induction n with
  | zero =>
    intro s1 s2 H locs ls hP hD hS hl hO hF
    exact False.elim hO
  | succ n ih =>
    intro s1 s2 H locs ls hP hD hS hl hO hF
    rw [fX4_fault_4] at hF
    rw [oX4_fault_4] at hO
    refine lv_iload_n hx hb dX4_fault_4 rfl (lv_at hl 2 rfl) ?_
    refine lv_aload_n hx hb dX4_fault_5 rfl (lv_at hl 0 rfl) ?_
    refine ct_get (C := RX4) (T := TX4) (N := 24) (ci := 4) (v := .int (m_pn x)) hM hK hP inX4 0 rfl rfl 10 (by decide) wfl_X4_97 rfl dX4_fault_6 ?_
    refine lv_icmp_ge (tgt := 53) hx hb dX4_fault_9 (by decide) (fun c1 => ?_) (fun c1 => ?_)
    · have hF := lt_t c1 hF
      have hO := lo_t c1 hO
      refine lv_bipush (v := (-6)) hx hb dX4_fault_53 (by decide) ?_
      subst hF
      exact ct_iret hM hP hS dX4_fault_55
    · have hF := lt_f c1 hF
      have hO := lo_f c1 hO
      refine lv_aload_n hx hb dX4_fault_12 rfl (lv_at hl 0 rfl) ?_
      refine ct_get (C := RX4) (T := TX4) (N := 24) (ci := 4) (v := .ref (a 5)) hM hK hP inX4 0 rfl rfl 9 (by decide) wfl_X4_22 rfl dX4_fault_13 ?_
      refine lv_iload_n hx hb dX4_fault_16 rfl (lv_at hl 2 rfl) ?_
      obtain ⟨h2, hO⟩ := hO
      refine va_iald hx hb hK hP 5 0 (f := m_pd x) (n := 40) (cA := cy 0) rfl rfl h2 dX4_fault_17 ?_
      refine lv_bipush (v := 65) hx hb dX4_fault_18 (by decide) ?_
      refine lv_isub hx hb dX4_fault_20 ?_
      refine lv_topi (fun x3 e4 => ?_)
      have hF := lt_n e4.symm hF
      try have hO := lo_n e4.symm hO
      refine lv_istore_n (lv' := [(3, .int x3), (0, .ref (a 0)), (1, .int s1), (2, .int s2)]) hx hb dX4_fault_21 rfl hl (by decide) rfl (fun ls hl => ?_)
      refine lv_aload_n hx hb dX4_fault_22 rfl (lv_at hl 1 rfl) ?_
      refine lv_iload_n hx hb dX4_fault_23 rfl (lv_at hl 0 rfl) ?_
      obtain ⟨h5, hO⟩ := hO
      obtain ⟨q6, e7⟩ : ∃ q, fX4_comes x x3 = q := ⟨_, rfl⟩
      have hF := lt_n e7 hF
      try have hO := lo_n e7 hO
      refine ct_callF hM hK hP hD hS (kX4_comes l D cy a x x3 h5 e7) kvX4_comes wml_X4_80 rfl 0 rfl rfl rfl rfl hl.1 rfl ⟨rfl, rfl, Nat.le_of_ble_eq_true rfl, Nat.le_of_ble_eq_true rfl⟩ (Nat.le_of_ble_eq_true rfl) ⟨Nat.zero_le _, Nat.zero_le _⟩ dX4_fault_24 (fun H locs hP hD hS => ?_)
      refine W.eq (g2 := F0 m 27 ls [.int q6]) rfl ?_
      refine lv_if_eq (tgt := 39) hx hb dX4_fault_27 (by decide) (fun c8 => ?_) (fun c8 => ?_)
      · have hF := lt_t c8 hF
        have hO := lo_t c8 hO
        refine lv_iload_n hx hb dX4_fault_39 rfl (lv_at hl 3 rfl) ?_
        subst hF
        exact ct_iret hM hP hS dX4_fault_40
      · have hF := lt_f c8 hF
        have hO := lo_f c8 hO
        refine lv_iload_n hx hb dX4_fault_30 rfl (lv_at hl 2 rfl) ?_
        refine lv_iload_n hx hb dX4_fault_31 rfl (lv_at hl 0 rfl) ?_
        refine lv_ishr hx hb dX4_fault_32 ?_
        refine lv_iconst (v := 1) hx hb dX4_fault_33 (by decide) ?_
        refine lv_iand hx hb dX4_fault_34 ?_
        refine lv_iconst (v := 1) hx hb dX4_fault_35 (by decide) ?_
        refine lv_icmp_ne (tgt := 41) hx hb dX4_fault_36 (by decide) (fun c9 => ?_) (fun c9 => ?_)
        · have hF := lt_f c9 hF
          have hO := lo_f c9 hO
          refine lv_iload_n hx hb dX4_fault_41 rfl (lv_at hl 2 rfl) ?_
          refine lv_iconst (v := 1) hx hb dX4_fault_42 (by decide) ?_
          refine lv_iload_n hx hb dX4_fault_43 rfl (lv_at hl 0 rfl) ?_
          refine lv_ishl hx hb dX4_fault_44 ?_
          refine lv_ior hx hb dX4_fault_45 ?_
          refine lv_topi (fun x10 e11 => ?_)
          have hF := lt_n e11.symm hF
          try have hO := lo_n e11.symm hO
          refine lv_istore_n (lv' := [(1, .int x10), (3, .int x3), (0, .ref (a 0)), (2, .int s2)]) hx hb dX4_fault_46 rfl hl (by decide) rfl (fun ls hl => ?_)
          obtain ⟨x12, e13⟩ : ∃ y : Int32, s2 + 1 = y := ⟨_, rfl⟩
          have hF := lt_n e13 hF
          try have hO := lo_n e13 hO
          refine lv_iinc (v := x12) (lv' := [(2, .int x12), (1, .int x10), (3, .int x3), (0, .ref (a 0))]) hx hb dX4_fault_47 hl (k := 3) rfl (by rw [← e13]; rfl) (by decide) rfl (fun ls hl => ?_)
          refine lv_goto (tgt := 4) hx hb dX4_fault_50 (by decide) ?_
          exact ih x10 x12 H locs ls hP hD hS (lv_sub hl [3, 1, 0] rfl) hO hF
        · have hF := lt_t c9 hF
          have hO := lo_t c9 hO
          refine lv_iload_n hx hb dX4_fault_39 rfl (lv_at hl 3 rfl) ?_
          subst hF
          exact ct_iret hM hP hS dX4_fault_40

def fX4_fault (x : tMs) : Int32 := fX4_fault_4 x 41 0 0
def oX4_fault (x : tMs) : Prop := oX4_fault_4 x 41 0 0
theorem kvX4_fault : KV yX4_fault cX4_fault 4 (some .int) 0 := ⟨wcd_X4_fault, wim_X4_fault, wsl_X4_fault, win_X4, by decide +kernel, by decide +kernel, by decide +kernel⟩
set_option maxHeartbeats 4000000 in
set_option maxRecDepth 100000 in
theorem kX4_fault (l : Launch) (D : va_G) (cy : Nat → ClassId) (a : Nat → Nat) (x : tMs) {R : Int32} (hO : oX4_fault x) (hF : fX4_fault x = R) : CT l D cy yX4_fault cX4_fault 4 (some .int) rX4_fault [.ref (a 0)] (gwM cy a x) (some (.int R)) (gwM cy a x) := by
  refine ct_of (by decide) (Nat.le_of_ble_eq_true rfl) ?_
  intro p e s m args below meth c A ls hM hK hP hD hS hl
  obtain ⟨hx, hb, -, hml, hown, hts, -⟩ := id hM
  have hl : lv_has ls 4 [(0, .ref (a 0))] := hl
  obtain ⟨H, hH⟩ : ∃ H : Heap, H = s.heap := ⟨_, rfl⟩
  obtain ⟨locs, hlocs⟩ : ∃ q : List Loc, q = [] := ⟨_, rfl⟩
  have hP : va_P D classes (gwM cy a x) H := by rw [hH]; exact hP
  have hS : va_S A s.heap H locs := by rw [hH, hlocs]; exact hS
  suffices hg : W p l e rX4_fault s m args below meth c H locs 0 0 (MQ below (ctQ D (some (.int R)) (gwM cy a x) A) args s 0 0 A) (F0 m 0 ls []) by rw [hH, hlocs] at hg; exact hg
  clear hH hlocs
  unfold fX4_fault at hF
  unfold oX4_fault at hO
  refine lv_iconst (v := 0) hx hb dX4_fault_0 (by decide) ?_
  refine lv_istore_n (lv' := [(1, .int 0), (0, .ref (a 0))]) hx hb dX4_fault_1 rfl hl (by decide) rfl (fun ls hl => ?_)
  refine lv_iconst (v := 0) hx hb dX4_fault_2 (by decide) ?_
  refine lv_istore_n (lv' := [(2, .int 0), (1, .int 0), (0, .ref (a 0))]) hx hb dX4_fault_3 rfl hl (by decide) rfl (fun ls hl => ?_)
  exact tX4_fault_4 hM hK 41 0 0 H locs ls hP hD hS (lv_sub hl [2, 1, 0] rfl) hO hF

abbrev rX4_told : Room := { frames := 0, cells := 0, slots := 0, locals := 0 }
def fX4_told (x : tMs) (s1 : Int32) : Int32 := if s1 = 0 then (m_pn x) else (if s1 = 1 then (m_dr x) else (if s1 = 2 then (m_fa x) else (if s1 = 3 then (m_st x) else (if s1 = 4 then (m_ha x) else (if s1 = 5 then (m_co x) else (-2))))))
def oX4_told (x : tMs) (s1 : Int32) : Prop := True
theorem kvX4_told : KV yX4_told cX4_told 2 (some .int) 1 := ⟨wcd_X4_told, wim_X4_told, wsl_X4_told, win_X4, by decide +kernel, by decide +kernel, by decide +kernel⟩
set_option maxHeartbeats 4000000 in
set_option maxRecDepth 100000 in
theorem kX4_told (l : Launch) (D : va_G) (cy : Nat → ClassId) (a : Nat → Nat) (x : tMs) (s1 : Int32) {R : Int32} (hO : oX4_told x s1) (hF : fX4_told x s1 = R) : CT l D cy yX4_told cX4_told 2 (some .int) rX4_told [.ref (a 0), .int s1] (gwM cy a x) (some (.int R)) (gwM cy a x) := by
  refine ct_of (by decide) (Nat.le_of_ble_eq_true rfl) ?_
  intro p e s m args below meth c A ls hM hK hP hD hS hl
  obtain ⟨hx, hb, -, hml, hown, hts, -⟩ := id hM
  have hl : lv_has ls 2 [(0, .ref (a 0)), (1, .int s1)] := hl
  obtain ⟨H, hH⟩ : ∃ H : Heap, H = s.heap := ⟨_, rfl⟩
  obtain ⟨locs, hlocs⟩ : ∃ q : List Loc, q = [] := ⟨_, rfl⟩
  have hP : va_P D classes (gwM cy a x) H := by rw [hH]; exact hP
  have hS : va_S A s.heap H locs := by rw [hH, hlocs]; exact hS
  suffices hg : W p l e rX4_told s m args below meth c H locs 0 0 (MQ below (ctQ D (some (.int R)) (gwM cy a x) A) args s 0 0 A) (F0 m 0 ls []) by rw [hH, hlocs] at hg; exact hg
  clear hH hlocs
  unfold fX4_told at hF
  unfold oX4_told at hO
  refine lv_iload_n hx hb dX4_told_0 rfl (lv_at hl 1 rfl) ?_
  refine lv_if_ne (tgt := 11) hx hb dX4_told_1 (by decide) (fun c1 => ?_) (fun c1 => ?_)
  · have hF := lt_f c1 hF
    refine lv_iload_n hx hb dX4_told_11 rfl (lv_at hl 1 rfl) ?_
    refine lv_iconst (v := 1) hx hb dX4_told_12 (by decide) ?_
    refine lv_icmp_ne (tgt := 23) hx hb dX4_told_13 (by decide) (fun c2 => ?_) (fun c2 => ?_)
    · have hF := lt_f c2 hF
      refine lv_iload_n hx hb dX4_told_23 rfl (lv_at hl 1 rfl) ?_
      refine lv_iconst (v := 2) hx hb dX4_told_24 (by decide) ?_
      refine lv_icmp_ne (tgt := 35) hx hb dX4_told_25 (by decide) (fun c3 => ?_) (fun c3 => ?_)
      · have hF := lt_f c3 hF
        refine lv_iload_n hx hb dX4_told_35 rfl (lv_at hl 1 rfl) ?_
        refine lv_iconst (v := 3) hx hb dX4_told_36 (by decide) ?_
        refine lv_icmp_ne (tgt := 47) hx hb dX4_told_37 (by decide) (fun c4 => ?_) (fun c4 => ?_)
        · have hF := lt_f c4 hF
          refine lv_iload_n hx hb dX4_told_47 rfl (lv_at hl 1 rfl) ?_
          refine lv_iconst (v := 4) hx hb dX4_told_48 (by decide) ?_
          refine lv_icmp_ne (tgt := 59) hx hb dX4_told_49 (by decide) (fun c5 => ?_) (fun c5 => ?_)
          · have hF := lt_f c5 hF
            refine lv_iload_n hx hb dX4_told_59 rfl (lv_at hl 1 rfl) ?_
            refine lv_iconst (v := 5) hx hb dX4_told_60 (by decide) ?_
            refine lv_icmp_ne (tgt := 71) hx hb dX4_told_61 (by decide) (fun c6 => ?_) (fun c6 => ?_)
            · have hF := lt_f c6 hF
              refine lv_bipush (v := (-2)) hx hb dX4_told_71 (by decide) ?_
              subst hF
              exact ct_iret hM hP hS dX4_told_73
            · have hF := lt_t c6 hF
              refine lv_aload_n hx hb dX4_told_64 rfl (lv_at hl 0 rfl) ?_
              refine ct_get (C := RX4) (T := TX4) (N := 24) (ci := 4) (v := .int (m_co x)) hM hK hP inX4 0 rfl rfl 0 (by decide) wfl_X4_67 rfl dX4_told_65 ?_
              refine lv_goto (tgt := 73) hx hb dX4_told_68 (by decide) ?_
              subst hF
              exact ct_iret hM hP hS dX4_told_73
          · have hF := lt_t c5 hF
            refine lv_aload_n hx hb dX4_told_52 rfl (lv_at hl 0 rfl) ?_
            refine ct_get (C := RX4) (T := TX4) (N := 24) (ci := 4) (v := .int (m_ha x)) hM hK hP inX4 0 rfl rfl 8 (by decide) wfl_X4_90 rfl dX4_told_53 ?_
            refine lv_goto (tgt := 73) hx hb dX4_told_56 (by decide) ?_
            subst hF
            exact ct_iret hM hP hS dX4_told_73
        · have hF := lt_t c4 hF
          refine lv_aload_n hx hb dX4_told_40 rfl (lv_at hl 0 rfl) ?_
          refine ct_get (C := RX4) (T := TX4) (N := 24) (ci := 4) (v := .int (m_st x)) hM hK hP inX4 0 rfl rfl 7 (by decide) wfl_X4_87 rfl dX4_told_41 ?_
          refine lv_goto (tgt := 73) hx hb dX4_told_44 (by decide) ?_
          subst hF
          exact ct_iret hM hP hS dX4_told_73
      · have hF := lt_t c3 hF
        refine lv_aload_n hx hb dX4_told_28 rfl (lv_at hl 0 rfl) ?_
        refine ct_get (C := RX4) (T := TX4) (N := 24) (ci := 4) (v := .int (m_fa x)) hM hK hP inX4 0 rfl rfl 6 (by decide) wfl_X4_54 rfl dX4_told_29 ?_
        refine lv_goto (tgt := 73) hx hb dX4_told_32 (by decide) ?_
        subst hF
        exact ct_iret hM hP hS dX4_told_73
    · have hF := lt_t c2 hF
      refine lv_aload_n hx hb dX4_told_16 rfl (lv_at hl 0 rfl) ?_
      refine ct_get (C := RX4) (T := TX4) (N := 24) (ci := 4) (v := .int (m_dr x)) hM hK hP inX4 0 rfl rfl 5 (by decide) wfl_X4_50 rfl dX4_told_17 ?_
      refine lv_goto (tgt := 73) hx hb dX4_told_20 (by decide) ?_
      subst hF
      exact ct_iret hM hP hS dX4_told_73
  · have hF := lt_t c1 hF
    refine lv_aload_n hx hb dX4_told_4 rfl (lv_at hl 0 rfl) ?_
    refine ct_get (C := RX4) (T := TX4) (N := 24) (ci := 4) (v := .int (m_pn x)) hM hK hP inX4 0 rfl rfl 10 (by decide) wfl_X4_97 rfl dX4_told_5 ?_
    refine lv_goto (tgt := 73) hx hb dX4_told_8 (by decide) ?_
    subst hF
    exact ct_iret hM hP hS dX4_told_73

abbrev rX4_served : Room := { frames := 5, cells := 0, slots := 0, locals := 119 }
def fX4_served (x : tMs) (s1 : Int32) : Int32 × tMs := lt_ (fX4_goNow x) fun q2 => if s1 = (-1) then (m_my q2, q2) else (lt_ (fX4_in (Int32.toInt64 s1) 0 (Int32.toInt64 (m_my q2 - 1))) fun q6 => if q6 = 0 then ((-6), q2) else ((m_or q2) (Int32.toNatClampNeg s1), q2))
def oX4_served (x : tMs) (s1 : Int32) : Prop := oX4_goNow x ∧ (lo_ (fX4_goNow x) fun q2 => if s1 = (-1) then True else (lo_ (fX4_in (Int32.toInt64 s1) 0 (Int32.toInt64 (m_my q2 - 1))) fun q6 => if q6 = 0 then True else (vp_in s1 8 ∧ True)))
theorem kvX4_served : KV yX4_served cX4_served 2 (some .int) 1 := ⟨wcd_X4_served, wim_X4_served, wsl_X4_served, win_X4, by decide +kernel, by decide +kernel, by decide +kernel⟩
set_option maxHeartbeats 4000000 in
set_option maxRecDepth 100000 in
theorem kX4_served (l : Launch) (D : va_G) (cy : Nat → ClassId) (a : Nat → Nat) (x : tMs) (s1 : Int32) {R : Int32 × tMs} (hO : oX4_served x s1) (hF : fX4_served x s1 = R) : CT l D cy yX4_served cX4_served 2 (some .int) rX4_served [.ref (a 0), .int s1] (gwM cy a x) (some (.int R.1)) (gwM cy a R.2) := by
  refine ct_of (by decide) (Nat.le_of_ble_eq_true rfl) ?_
  intro p e s m args below meth c A ls hM hK hP hD hS hl
  obtain ⟨hx, hb, -, hml, hown, hts, -⟩ := id hM
  have hl : lv_has ls 2 [(0, .ref (a 0)), (1, .int s1)] := hl
  obtain ⟨H, hH⟩ : ∃ H : Heap, H = s.heap := ⟨_, rfl⟩
  obtain ⟨locs, hlocs⟩ : ∃ q : List Loc, q = [] := ⟨_, rfl⟩
  have hP : va_P D classes (gwM cy a x) H := by rw [hH]; exact hP
  have hS : va_S A s.heap H locs := by rw [hH, hlocs]; exact hS
  suffices hg : W p l e rX4_served s m args below meth c H locs 0 0 (MQ below (ctQ D (some (.int R.1)) (gwM cy a R.2) A) args s 0 0 A) (F0 m 0 ls []) by rw [hH, hlocs] at hg; exact hg
  clear hH hlocs
  unfold fX4_served at hF
  unfold oX4_served at hO
  refine lv_aload_n hx hb dX4_served_0 rfl (lv_at hl 0 rfl) ?_
  obtain ⟨h1, hO⟩ := hO
  obtain ⟨q2, e3⟩ : ∃ q, fX4_goNow x = q := ⟨_, rfl⟩
  have hF := lt_n e3 hF
  try have hO := lo_n e3 hO
  refine ct_callF hM hK hP hD hS (kX4_goNow l D cy a x h1 e3) kvX4_goNow wml_X4_131 rfl 0 rfl rfl rfl rfl hl.1 rfl ⟨rfl, rfl, Nat.le_of_ble_eq_true rfl, Nat.le_of_ble_eq_true rfl⟩ (Nat.le_of_ble_eq_true rfl) ⟨Nat.zero_le _, Nat.zero_le _⟩ dX4_served_1 (fun H locs hP hD hS => ?_)
  refine W.eq (g2 := F0 m 4 ls []) rfl ?_
  have hP : va_P D classes (gwM cy a q2) H := hP
  have hD : va_D A (gwM cy a q2) := hD
  refine lv_iload_n hx hb dX4_served_4 rfl (lv_at hl 1 rfl) ?_
  refine lv_iconst (v := (-1)) hx hb dX4_served_5 (by decide) ?_
  refine lv_icmp_ne (tgt := 16) hx hb dX4_served_6 (by decide) (fun c4 => ?_) (fun c4 => ?_)
  · have hF := lt_f c4 hF
    have hO := lo_f c4 hO
    refine lv_iload_n hx hb dX4_served_16 rfl (lv_at hl 1 rfl) ?_
    refine lv_i2l (v := Int32.toInt64 s1) hx hb dX4_served_17 rfl ?_
    refine lv_lconst (v := 0) hx hb dX4_served_18 rfl ?_
    refine lv_aload_n hx hb dX4_served_19 rfl (lv_at hl 0 rfl) ?_
    refine ct_get (C := RX4) (T := TX4) (N := 24) (ci := 4) (v := .int (m_my q2)) hM hK hP inX4 0 rfl rfl 17 (by decide) wfl_X4_115 rfl dX4_served_20 ?_
    refine lv_iconst (v := 1) hx hb dX4_served_23 (by decide) ?_
    refine lv_isub hx hb dX4_served_24 ?_
    refine lv_i2l (v := Int32.toInt64 (m_my q2 - 1)) hx hb dX4_served_25 rfl ?_
    obtain ⟨q6, e7⟩ : ∃ q, fX4_in (Int32.toInt64 s1) 0 (Int32.toInt64 (m_my q2 - 1)) = q := ⟨_, rfl⟩
    have hF := lt_n e7 hF
    try have hO := lo_n e7 hO
    refine ct_callS hM hK hP hD hS (kX4_in l D cy (Int32.toInt64 s1) 0 (Int32.toInt64 (m_my q2 - 1)) trivial e7) kvX4_in wml_X4_59 rfl hl.1 rfl ⟨rfl, rfl, Nat.le_of_ble_eq_true rfl, Nat.le_of_ble_eq_true rfl⟩ (Nat.le_of_ble_eq_true rfl) ⟨Nat.zero_le _, Nat.zero_le _⟩ dX4_served_26 (fun H locs hP hD hS => ?_)
    refine W.eq (g2 := F0 m 29 ls [.int q6]) rfl ?_
    have hP : va_P D classes (gwM cy a q2) H := hP
    have hD : va_D A (gwM cy a q2) := hD
    refine lv_if_eq (tgt := 41) hx hb dX4_served_29 (by decide) (fun c8 => ?_) (fun c8 => ?_)
    · have hF := lt_t c8 hF
      have hO := lo_t c8 hO
      refine lv_bipush (v := (-6)) hx hb dX4_served_41 (by decide) ?_
      subst hF
      exact ct_iret hM hP hS dX4_served_43
    · have hF := lt_f c8 hF
      have hO := lo_f c8 hO
      refine lv_aload_n hx hb dX4_served_32 rfl (lv_at hl 0 rfl) ?_
      refine ct_get (C := RX4) (T := TX4) (N := 24) (ci := 4) (v := .ref (a 11)) hM hK hP inX4 0 rfl rfl 16 (by decide) wfl_X4_40 rfl dX4_served_33 ?_
      refine lv_iload_n hx hb dX4_served_36 rfl (lv_at hl 1 rfl) ?_
      obtain ⟨h9, hO⟩ := hO
      refine va_iald hx hb hK hP 11 0 (f := m_or q2) (n := 8) (cA := cy 0) rfl rfl h9 dX4_served_37 ?_
      refine lv_goto (tgt := 43) hx hb dX4_served_38 (by decide) ?_
      subst hF
      exact ct_iret hM hP hS dX4_served_43
  · have hF := lt_t c4 hF
    have hO := lo_t c4 hO
    refine lv_aload_n hx hb dX4_served_9 rfl (lv_at hl 0 rfl) ?_
    refine ct_get (C := RX4) (T := TX4) (N := 24) (ci := 4) (v := .int (m_my q2)) hM hK hP inX4 0 rfl rfl 17 (by decide) wfl_X4_115 rfl dX4_served_10 ?_
    refine lv_goto (tgt := 43) hx hb dX4_served_13 (by decide) ?_
    subst hF
    exact ct_iret hM hP hS dX4_served_43

abbrev rX4_waits : Room := { frames := 5, cells := 0, slots := 0, locals := 119 }
def fX4_waits (x : tMs) (s1 : Int32) (s2 : Int32) : Int32 × tMs := lt_ (fX4_comes x s1) fun q2 => if q2 = 0 then ((-1), x) else (lt_ (fX4_in (Int32.toInt64 s2) 0 1) fun q6 => if q6 = 0 then ((-2), x) else (lt_ (fX4_goNow x) fun q10 => if s2 = 0 then ((m_wa q10) (Int32.toNatClampNeg s1), q10) else ((m_en q10) (Int32.toNatClampNeg s1), q10)))
def oX4_waits (x : tMs) (s1 : Int32) (s2 : Int32) : Prop := oX4_comes x s1 ∧ (lo_ (fX4_comes x s1) fun q2 => if q2 = 0 then True else (lo_ (fX4_in (Int32.toInt64 s2) 0 1) fun q6 => if q6 = 0 then True else (oX4_goNow x ∧ (lo_ (fX4_goNow x) fun q10 => if s2 = 0 then (vp_in s1 8 ∧ True) else (vp_in s1 8 ∧ True)))))
theorem kvX4_waits : KV yX4_waits cX4_waits 3 (some .int) 2 := ⟨wcd_X4_waits, wim_X4_waits, wsl_X4_waits, win_X4, by decide +kernel, by decide +kernel, by decide +kernel⟩
set_option maxHeartbeats 4000000 in
set_option maxRecDepth 100000 in
theorem kX4_waits (l : Launch) (D : va_G) (cy : Nat → ClassId) (a : Nat → Nat) (x : tMs) (s1 : Int32) (s2 : Int32) {R : Int32 × tMs} (hO : oX4_waits x s1 s2) (hF : fX4_waits x s1 s2 = R) : CT l D cy yX4_waits cX4_waits 3 (some .int) rX4_waits [.ref (a 0), .int s1, .int s2] (gwM cy a x) (some (.int R.1)) (gwM cy a R.2) := by
  refine ct_of (by decide) (Nat.le_of_ble_eq_true rfl) ?_
  intro p e s m args below meth c A ls hM hK hP hD hS hl
  obtain ⟨hx, hb, -, hml, hown, hts, -⟩ := id hM
  have hl : lv_has ls 3 [(0, .ref (a 0)), (1, .int s1), (2, .int s2)] := hl
  obtain ⟨H, hH⟩ : ∃ H : Heap, H = s.heap := ⟨_, rfl⟩
  obtain ⟨locs, hlocs⟩ : ∃ q : List Loc, q = [] := ⟨_, rfl⟩
  have hP : va_P D classes (gwM cy a x) H := by rw [hH]; exact hP
  have hS : va_S A s.heap H locs := by rw [hH, hlocs]; exact hS
  suffices hg : W p l e rX4_waits s m args below meth c H locs 0 0 (MQ below (ctQ D (some (.int R.1)) (gwM cy a R.2) A) args s 0 0 A) (F0 m 0 ls []) by rw [hH, hlocs] at hg; exact hg
  clear hH hlocs
  unfold fX4_waits at hF
  unfold oX4_waits at hO
  refine lv_aload_n hx hb dX4_waits_0 rfl (lv_at hl 0 rfl) ?_
  refine lv_iload_n hx hb dX4_waits_1 rfl (lv_at hl 1 rfl) ?_
  obtain ⟨h1, hO⟩ := hO
  obtain ⟨q2, e3⟩ : ∃ q, fX4_comes x s1 = q := ⟨_, rfl⟩
  have hF := lt_n e3 hF
  try have hO := lo_n e3 hO
  refine ct_callF hM hK hP hD hS (kX4_comes l D cy a x s1 h1 e3) kvX4_comes wml_X4_80 rfl 0 rfl rfl rfl rfl hl.1 rfl ⟨rfl, rfl, Nat.le_of_ble_eq_true rfl, Nat.le_of_ble_eq_true rfl⟩ (Nat.le_of_ble_eq_true rfl) ⟨Nat.zero_le _, Nat.zero_le _⟩ dX4_waits_2 (fun H locs hP hD hS => ?_)
  refine W.eq (g2 := F0 m 5 ls [.int q2]) rfl ?_
  refine lv_if_ne (tgt := 10) hx hb dX4_waits_5 (by decide) (fun c4 => ?_) (fun c4 => ?_)
  · have hF := lt_f c4 hF
    have hO := lo_f c4 hO
    refine lv_iload_n hx hb dX4_waits_10 rfl (lv_at hl 2 rfl) ?_
    refine lv_i2l (v := Int32.toInt64 s2) hx hb dX4_waits_11 rfl ?_
    refine lv_lconst (v := 0) hx hb dX4_waits_12 rfl ?_
    refine lv_lconst (v := 1) hx hb dX4_waits_13 rfl ?_
    obtain ⟨q6, e7⟩ : ∃ q, fX4_in (Int32.toInt64 s2) 0 1 = q := ⟨_, rfl⟩
    have hF := lt_n e7 hF
    try have hO := lo_n e7 hO
    refine ct_callS hM hK hP hD hS (kX4_in l D cy (Int32.toInt64 s2) 0 1 trivial e7) kvX4_in wml_X4_59 rfl hl.1 rfl ⟨rfl, rfl, Nat.le_of_ble_eq_true rfl, Nat.le_of_ble_eq_true rfl⟩ (Nat.le_of_ble_eq_true rfl) ⟨Nat.zero_le _, Nat.zero_le _⟩ dX4_waits_14 (fun H locs hP hD hS => ?_)
    refine W.eq (g2 := F0 m 17 ls [.int q6]) rfl ?_
    have hP : va_P D classes (gwM cy a x) H := hP
    have hD : va_D A (gwM cy a x) := hD
    refine lv_if_ne (tgt := 23) hx hb dX4_waits_17 (by decide) (fun c8 => ?_) (fun c8 => ?_)
    · have hF := lt_f c8 hF
      have hO := lo_f c8 hO
      refine lv_aload_n hx hb dX4_waits_23 rfl (lv_at hl 0 rfl) ?_
      obtain ⟨h9, hO⟩ := hO
      obtain ⟨q10, e11⟩ : ∃ q, fX4_goNow x = q := ⟨_, rfl⟩
      have hF := lt_n e11 hF
      try have hO := lo_n e11 hO
      refine ct_callF hM hK hP hD hS (kX4_goNow l D cy a x h9 e11) kvX4_goNow wml_X4_131 rfl 0 rfl rfl rfl rfl hl.1 rfl ⟨rfl, rfl, Nat.le_of_ble_eq_true rfl, Nat.le_of_ble_eq_true rfl⟩ (Nat.le_of_ble_eq_true rfl) ⟨Nat.zero_le _, Nat.zero_le _⟩ dX4_waits_24 (fun H locs hP hD hS => ?_)
      refine W.eq (g2 := F0 m 27 ls []) rfl ?_
      have hP : va_P D classes (gwM cy a q10) H := hP
      have hD : va_D A (gwM cy a q10) := hD
      refine lv_iload_n hx hb dX4_waits_27 rfl (lv_at hl 2 rfl) ?_
      refine lv_if_ne (tgt := 40) hx hb dX4_waits_28 (by decide) (fun c12 => ?_) (fun c12 => ?_)
      · have hF := lt_f c12 hF
        have hO := lo_f c12 hO
        refine lv_aload_n hx hb dX4_waits_40 rfl (lv_at hl 0 rfl) ?_
        refine ct_get (C := RX4) (T := TX4) (N := 24) (ci := 4) (v := .ref (a 9)) hM hK hP inX4 0 rfl rfl 14 (by decide) wfl_X4_34 rfl dX4_waits_41 ?_
        refine lv_iload_n hx hb dX4_waits_44 rfl (lv_at hl 1 rfl) ?_
        obtain ⟨h13, hO⟩ := hO
        refine va_iald hx hb hK hP 9 0 (f := m_en q10) (n := 8) (cA := cy 0) rfl rfl h13 dX4_waits_45 ?_
        subst hF
        exact ct_iret hM hP hS dX4_waits_46
      · have hF := lt_t c12 hF
        have hO := lo_t c12 hO
        refine lv_aload_n hx hb dX4_waits_31 rfl (lv_at hl 0 rfl) ?_
        refine ct_get (C := RX4) (T := TX4) (N := 24) (ci := 4) (v := .ref (a 8)) hM hK hP inX4 0 rfl rfl 13 (by decide) wfl_X4_31 rfl dX4_waits_32 ?_
        refine lv_iload_n hx hb dX4_waits_35 rfl (lv_at hl 1 rfl) ?_
        obtain ⟨h14, hO⟩ := hO
        refine va_iald hx hb hK hP 8 0 (f := m_wa q10) (n := 8) (cA := cy 0) rfl rfl h14 dX4_waits_36 ?_
        refine lv_goto (tgt := 46) hx hb dX4_waits_37 (by decide) ?_
        subst hF
        exact ct_iret hM hP hS dX4_waits_46
    · have hF := lt_t c8 hF
      have hO := lo_t c8 hO
      refine lv_bipush (v := (-2)) hx hb dX4_waits_20 (by decide) ?_
      subst hF
      exact ct_iret hM hP hS dX4_waits_22
  · have hF := lt_t c4 hF
    have hO := lo_t c4 hO
    refine lv_iconst (v := (-1)) hx hb dX4_waits_8 (by decide) ?_
    subst hF
    exact ct_iret hM hP hS dX4_waits_9

abbrev rX4_whose : Room := { frames := 3, cells := 0, slots := 0, locals := 66 }
def fX4_whose_11 (x : tMs) (s1 : Int32) : Nat → Int32 → Int32
  | 0, s2 => 0
  | n + 1, s2 => if 8 ≤ s2 then (-6) else (lt_ (fX4_comes x s2) fun q6 => if q6 = 0 then (lt_ (s2 + 1) fun x9 => fX4_whose_11 x s1 n x9) else (if (m_wa x) (Int32.toNatClampNeg s2) = s1 then s2 else (lt_ (s2 + 1) fun x13 => fX4_whose_11 x s1 n x13)))
def oX4_whose_11 (x : tMs) (s1 : Int32) : Nat → Int32 → Prop
  | 0, _ => False
  | n + 1, s2 => if 8 ≤ s2 then True else (oX4_comes x s2 ∧ (lo_ (fX4_comes x s2) fun q6 => if q6 = 0 then (lo_ (s2 + 1) fun x9 => oX4_whose_11 x s1 n x9) else (vp_in s2 8 ∧ (if (m_wa x) (Int32.toNatClampNeg s2) = s1 then True else (lo_ (s2 + 1) fun x13 => oX4_whose_11 x s1 n x13)))))
set_option maxHeartbeats 4000000 in
set_option maxRecDepth 100000 in
theorem tX4_whose_11 {p : Program} {l : Launch} {e : Env} {s : State} {m : MethodId} {args : Array Value} {below : List Frame} {meth : Method} {c : Code} {A : Nat → Prop} {D : va_G} {cy : Nat → ClassId} {a : Nat → Nat} {x : tMs} {s1 : Int32} {R : Int32} (hM : MC p s m args meth c RX4 cX4_whose 3 (some .int)) (hK : va_K D classes (ctT cy) s) :
    ∀ (n : Nat) (s2 : Int32) (H : Heap) (locs : List Loc) (ls : Array Slot), va_P D classes (gwM cy a x) H → va_D A (gwM cy a x) → va_S A s.heap H locs → lv_has ls 3 [(0, .ref (a 0)), (1, .int s1), (2, .int s2)] → oX4_whose_11 x s1 n s2 → fX4_whose_11 x s1 n s2 = R → W p l e rX4_whose s m args below meth c H locs 0 0 (MQ below (ctQ D (some (.int R)) (gwM cy a x) A) args s 0 0 A) (F0 m 11 ls []) := by
  obtain ⟨hx, hb, -, hml, hown, hts, -⟩ := id hM
  intro n
  induction n with
  | zero =>
    intro s2 H locs ls hP hD hS hl hO hF
    exact False.elim hO
  | succ n ih =>
    intro s2 H locs ls hP hD hS hl hO hF
    rw [fX4_whose_11] at hF
    rw [oX4_whose_11] at hO
    refine lv_iload_n hx hb dX4_whose_11 rfl (lv_at hl 2 rfl) ?_
    refine lv_bipush (v := 8) hx hb dX4_whose_12 (by decide) ?_
    refine lv_icmp_ge (tgt := 43) hx hb dX4_whose_14 (by decide) (fun c4 => ?_) (fun c4 => ?_)
    · have hF := lt_t c4 hF
      have hO := lo_t c4 hO
      refine lv_bipush (v := (-6)) hx hb dX4_whose_43 (by decide) ?_
      subst hF
      exact ct_iret hM hP hS dX4_whose_45
    · have hF := lt_f c4 hF
      have hO := lo_f c4 hO
      refine lv_aload_n hx hb dX4_whose_17 rfl (lv_at hl 0 rfl) ?_
      refine lv_iload_n hx hb dX4_whose_18 rfl (lv_at hl 2 rfl) ?_
      obtain ⟨h5, hO⟩ := hO
      obtain ⟨q6, e7⟩ : ∃ q, fX4_comes x s2 = q := ⟨_, rfl⟩
      have hF := lt_n e7 hF
      try have hO := lo_n e7 hO
      refine ct_callF hM hK hP hD hS (kX4_comes l D cy a x s2 h5 e7) kvX4_comes wml_X4_80 rfl 0 rfl rfl rfl rfl hl.1 rfl ⟨rfl, rfl, Nat.le_of_ble_eq_true rfl, Nat.le_of_ble_eq_true rfl⟩ (Nat.le_of_ble_eq_true rfl) ⟨Nat.zero_le _, Nat.zero_le _⟩ dX4_whose_19 (fun H locs hP hD hS => ?_)
      refine W.eq (g2 := F0 m 22 ls [.int q6]) rfl ?_
      refine lv_if_eq (tgt := 37) hx hb dX4_whose_22 (by decide) (fun c8 => ?_) (fun c8 => ?_)
      · have hF := lt_t c8 hF
        have hO := lo_t c8 hO
        obtain ⟨x9, e10⟩ : ∃ y : Int32, s2 + 1 = y := ⟨_, rfl⟩
        have hF := lt_n e10 hF
        try have hO := lo_n e10 hO
        refine lv_iinc (v := x9) (lv' := [(2, .int x9), (0, .ref (a 0)), (1, .int s1)]) hx hb dX4_whose_37 hl (k := 2) rfl (by rw [← e10]; rfl) (by decide) rfl (fun ls hl => ?_)
        refine lv_goto (tgt := 11) hx hb dX4_whose_40 (by decide) ?_
        exact ih x9 H locs ls hP hD hS (lv_sub hl [1, 2, 0] rfl) hO hF
      · have hF := lt_f c8 hF
        have hO := lo_f c8 hO
        refine lv_aload_n hx hb dX4_whose_25 rfl (lv_at hl 0 rfl) ?_
        refine ct_get (C := RX4) (T := TX4) (N := 24) (ci := 4) (v := .ref (a 8)) hM hK hP inX4 0 rfl rfl 13 (by decide) wfl_X4_31 rfl dX4_whose_26 ?_
        refine lv_iload_n hx hb dX4_whose_29 rfl (lv_at hl 2 rfl) ?_
        obtain ⟨h11, hO⟩ := hO
        refine va_iald hx hb hK hP 8 0 (f := m_wa x) (n := 8) (cA := cy 0) rfl rfl h11 dX4_whose_30 ?_
        refine lv_iload_n hx hb dX4_whose_31 rfl (lv_at hl 1 rfl) ?_
        refine lv_icmp_ne (tgt := 37) hx hb dX4_whose_32 (by decide) (fun c12 => ?_) (fun c12 => ?_)
        · have hF := lt_f c12 hF
          have hO := lo_f c12 hO
          obtain ⟨x13, e14⟩ : ∃ y : Int32, s2 + 1 = y := ⟨_, rfl⟩
          have hF := lt_n e14 hF
          try have hO := lo_n e14 hO
          refine lv_iinc (v := x13) (lv' := [(2, .int x13), (0, .ref (a 0)), (1, .int s1)]) hx hb dX4_whose_37 hl (k := 2) rfl (by rw [← e14]; rfl) (by decide) rfl (fun ls hl => ?_)
          refine lv_goto (tgt := 11) hx hb dX4_whose_40 (by decide) ?_
          exact ih x13 H locs ls hP hD hS (lv_sub hl [1, 2, 0] rfl) hO hF
        · have hF := lt_t c12 hF
          have hO := lo_t c12 hO
          refine lv_iload_n hx hb dX4_whose_35 rfl (lv_at hl 2 rfl) ?_
          subst hF
          exact ct_iret hM hP hS dX4_whose_36

def fX4_whose (x : tMs) : Int32 := lt_ (fX4_worstOf x (m_co x)) fun q2 => fX4_whose_11 x q2 9 0
def oX4_whose (x : tMs) : Prop := oX4_worstOf x (m_co x) ∧ (lo_ (fX4_worstOf x (m_co x)) fun q2 => oX4_whose_11 x q2 9 0)
theorem kvX4_whose : KV yX4_whose cX4_whose 3 (some .int) 0 := ⟨wcd_X4_whose, wim_X4_whose, wsl_X4_whose, win_X4, by decide +kernel, by decide +kernel, by decide +kernel⟩
set_option maxHeartbeats 4000000 in
set_option maxRecDepth 100000 in
theorem kX4_whose (l : Launch) (D : va_G) (cy : Nat → ClassId) (a : Nat → Nat) (x : tMs) {R : Int32} (hO : oX4_whose x) (hF : fX4_whose x = R) : CT l D cy yX4_whose cX4_whose 3 (some .int) rX4_whose [.ref (a 0)] (gwM cy a x) (some (.int R)) (gwM cy a x) := by
  refine ct_of (by decide) (Nat.le_of_ble_eq_true rfl) ?_
  intro p e s m args below meth c A ls hM hK hP hD hS hl
  obtain ⟨hx, hb, -, hml, hown, hts, -⟩ := id hM
  have hl : lv_has ls 3 [(0, .ref (a 0))] := hl
  obtain ⟨H, hH⟩ : ∃ H : Heap, H = s.heap := ⟨_, rfl⟩
  obtain ⟨locs, hlocs⟩ : ∃ q : List Loc, q = [] := ⟨_, rfl⟩
  have hP : va_P D classes (gwM cy a x) H := by rw [hH]; exact hP
  have hS : va_S A s.heap H locs := by rw [hH, hlocs]; exact hS
  suffices hg : W p l e rX4_whose s m args below meth c H locs 0 0 (MQ below (ctQ D (some (.int R)) (gwM cy a x) A) args s 0 0 A) (F0 m 0 ls []) by rw [hH, hlocs] at hg; exact hg
  clear hH hlocs
  unfold fX4_whose at hF
  unfold oX4_whose at hO
  refine lv_aload_n hx hb dX4_whose_0 rfl (lv_at hl 0 rfl) ?_
  refine lv_aload_n hx hb dX4_whose_1 rfl (lv_at hl 0 rfl) ?_
  refine ct_get (C := RX4) (T := TX4) (N := 24) (ci := 4) (v := .int (m_co x)) hM hK hP inX4 0 rfl rfl 0 (by decide) wfl_X4_67 rfl dX4_whose_2 ?_
  obtain ⟨h1, hO⟩ := hO
  obtain ⟨q2, e3⟩ : ∃ q, fX4_worstOf x (m_co x) = q := ⟨_, rfl⟩
  have hF := lt_n e3 hF
  try have hO := lo_n e3 hO
  refine ct_callF hM hK hP hD hS (kX4_worstOf l D cy a x (m_co x) h1 e3) kvX4_worstOf wml_X4_134 rfl 0 rfl rfl rfl rfl hl.1 rfl ⟨rfl, rfl, Nat.le_of_ble_eq_true rfl, Nat.le_of_ble_eq_true rfl⟩ (Nat.le_of_ble_eq_true rfl) ⟨Nat.zero_le _, Nat.zero_le _⟩ dX4_whose_5 (fun H locs hP hD hS => ?_)
  refine W.eq (g2 := F0 m 8 ls [.int q2]) rfl ?_
  refine lv_istore_n (lv' := [(1, .int q2), (0, .ref (a 0))]) hx hb dX4_whose_8 rfl hl (by decide) rfl (fun ls hl => ?_)
  refine lv_iconst (v := 0) hx hb dX4_whose_9 (by decide) ?_
  refine lv_istore_n (lv' := [(2, .int 0), (1, .int q2), (0, .ref (a 0))]) hx hb dX4_whose_10 rfl hl (by decide) rfl (fun ls hl => ?_)
  exact tX4_whose_11 hM hK 9 0 H locs ls hP hD hS (lv_sub hl [2, 1, 0] rfl) hO hF

abbrev rX4_all : Room := { frames := 5, cells := 0, slots := 0, locals := 119 }
def fX4_all (x : tMs) (s1 : Int32) : Int32 × tMs := lt_ (fX4_in (Int32.toInt64 s1) 0 3) fun q2 => if q2 = 0 then ((-2), x) else (lt_ (fX4_goNow x) fun q6 => if s1 = 0 then (lt_ (fX4_worstOf q6 (m_co q6)) fun q21 => (q21, q6)) else (if s1 = 1 then (lt_ (fX4_whose q6) fun q18 => (q18, q6)) else (if s1 = 2 then (lt_ (fX4_sumOf q6 (m_co q6)) fun q15 => (q15, q6)) else (if m_my q6 = 0 then (0, q6) else ((m_en q6) (Int32.toNatClampNeg ((m_or q6) (Int32.toNatClampNeg (m_my q6 - 1)))), q6)))))
def oX4_all (x : tMs) (s1 : Int32) : Prop := lo_ (fX4_in (Int32.toInt64 s1) 0 3) fun q2 => if q2 = 0 then True else (oX4_goNow x ∧ (lo_ (fX4_goNow x) fun q6 => if s1 = 0 then (oX4_worstOf q6 (m_co q6) ∧ True) else (if s1 = 1 then (oX4_whose q6 ∧ True) else (if s1 = 2 then (oX4_sumOf q6 (m_co q6) ∧ True) else (if m_my q6 = 0 then True else (vp_in (m_my q6 - 1) 8 ∧ vp_in ((m_or q6) (Int32.toNatClampNeg (m_my q6 - 1))) 8 ∧ True))))))
theorem kvX4_all : KV yX4_all cX4_all 2 (some .int) 1 := ⟨wcd_X4_all, wim_X4_all, wsl_X4_all, win_X4, by decide +kernel, by decide +kernel, by decide +kernel⟩
set_option maxHeartbeats 4000000 in
set_option maxRecDepth 100000 in
theorem kX4_all (l : Launch) (D : va_G) (cy : Nat → ClassId) (a : Nat → Nat) (x : tMs) (s1 : Int32) {R : Int32 × tMs} (hO : oX4_all x s1) (hF : fX4_all x s1 = R) : CT l D cy yX4_all cX4_all 2 (some .int) rX4_all [.ref (a 0), .int s1] (gwM cy a x) (some (.int R.1)) (gwM cy a R.2) := by
  refine ct_of (by decide) (Nat.le_of_ble_eq_true rfl) ?_
  intro p e s m args below meth c A ls hM hK hP hD hS hl
  obtain ⟨hx, hb, -, hml, hown, hts, -⟩ := id hM
  have hl : lv_has ls 2 [(0, .ref (a 0)), (1, .int s1)] := hl
  obtain ⟨H, hH⟩ : ∃ H : Heap, H = s.heap := ⟨_, rfl⟩
  obtain ⟨locs, hlocs⟩ : ∃ q : List Loc, q = [] := ⟨_, rfl⟩
  have hP : va_P D classes (gwM cy a x) H := by rw [hH]; exact hP
  have hS : va_S A s.heap H locs := by rw [hH, hlocs]; exact hS
  suffices hg : W p l e rX4_all s m args below meth c H locs 0 0 (MQ below (ctQ D (some (.int R.1)) (gwM cy a R.2) A) args s 0 0 A) (F0 m 0 ls []) by rw [hH, hlocs] at hg; exact hg
  clear hH hlocs
  unfold fX4_all at hF
  unfold oX4_all at hO
  refine lv_iload_n hx hb dX4_all_0 rfl (lv_at hl 1 rfl) ?_
  refine lv_i2l (v := Int32.toInt64 s1) hx hb dX4_all_1 rfl ?_
  refine lv_lconst (v := 0) hx hb dX4_all_2 rfl ?_
  refine lv_ldc2 (v := 3) hx hb hown (hts _ wct_X4_83) dX4_all_3 ?_
  obtain ⟨q2, e3⟩ : ∃ q, fX4_in (Int32.toInt64 s1) 0 3 = q := ⟨_, rfl⟩
  have hF := lt_n e3 hF
  try have hO := lo_n e3 hO
  refine ct_callS hM hK hP hD hS (kX4_in l D cy (Int32.toInt64 s1) 0 3 trivial e3) kvX4_in wml_X4_59 rfl hl.1 rfl ⟨rfl, rfl, Nat.le_of_ble_eq_true rfl, Nat.le_of_ble_eq_true rfl⟩ (Nat.le_of_ble_eq_true rfl) ⟨Nat.zero_le _, Nat.zero_le _⟩ dX4_all_6 (fun H locs hP hD hS => ?_)
  refine W.eq (g2 := F0 m 9 ls [.int q2]) rfl ?_
  have hP : va_P D classes (gwM cy a x) H := hP
  have hD : va_D A (gwM cy a x) := hD
  refine lv_if_ne (tgt := 15) hx hb dX4_all_9 (by decide) (fun c4 => ?_) (fun c4 => ?_)
  · have hF := lt_f c4 hF
    have hO := lo_f c4 hO
    refine lv_aload_n hx hb dX4_all_15 rfl (lv_at hl 0 rfl) ?_
    obtain ⟨h5, hO⟩ := hO
    obtain ⟨q6, e7⟩ : ∃ q, fX4_goNow x = q := ⟨_, rfl⟩
    have hF := lt_n e7 hF
    try have hO := lo_n e7 hO
    refine ct_callF hM hK hP hD hS (kX4_goNow l D cy a x h5 e7) kvX4_goNow wml_X4_131 rfl 0 rfl rfl rfl rfl hl.1 rfl ⟨rfl, rfl, Nat.le_of_ble_eq_true rfl, Nat.le_of_ble_eq_true rfl⟩ (Nat.le_of_ble_eq_true rfl) ⟨Nat.zero_le _, Nat.zero_le _⟩ dX4_all_16 (fun H locs hP hD hS => ?_)
    refine W.eq (g2 := F0 m 19 ls []) rfl ?_
    have hP : va_P D classes (gwM cy a q6) H := hP
    have hD : va_D A (gwM cy a q6) := hD
    refine lv_iload_n hx hb dX4_all_19 rfl (lv_at hl 1 rfl) ?_
    refine lv_if_ne (tgt := 34) hx hb dX4_all_20 (by decide) (fun c8 => ?_) (fun c8 => ?_)
    · have hF := lt_f c8 hF
      have hO := lo_f c8 hO
      refine lv_iload_n hx hb dX4_all_34 rfl (lv_at hl 1 rfl) ?_
      refine lv_iconst (v := 1) hx hb dX4_all_35 (by decide) ?_
      refine lv_icmp_ne (tgt := 46) hx hb dX4_all_36 (by decide) (fun c9 => ?_) (fun c9 => ?_)
      · have hF := lt_f c9 hF
        have hO := lo_f c9 hO
        refine lv_iload_n hx hb dX4_all_46 rfl (lv_at hl 1 rfl) ?_
        refine lv_iconst (v := 2) hx hb dX4_all_47 (by decide) ?_
        refine lv_icmp_ne (tgt := 62) hx hb dX4_all_48 (by decide) (fun c10 => ?_) (fun c10 => ?_)
        · have hF := lt_f c10 hF
          have hO := lo_f c10 hO
          refine lv_aload_n hx hb dX4_all_62 rfl (lv_at hl 0 rfl) ?_
          refine ct_get (C := RX4) (T := TX4) (N := 24) (ci := 4) (v := .int (m_my q6)) hM hK hP inX4 0 rfl rfl 17 (by decide) wfl_X4_115 rfl dX4_all_63 ?_
          refine lv_if_ne (tgt := 73) hx hb dX4_all_66 (by decide) (fun c11 => ?_) (fun c11 => ?_)
          · have hF := lt_f c11 hF
            have hO := lo_f c11 hO
            refine lv_aload_n hx hb dX4_all_73 rfl (lv_at hl 0 rfl) ?_
            refine ct_get (C := RX4) (T := TX4) (N := 24) (ci := 4) (v := .ref (a 9)) hM hK hP inX4 0 rfl rfl 14 (by decide) wfl_X4_34 rfl dX4_all_74 ?_
            refine lv_aload_n hx hb dX4_all_77 rfl (lv_at hl 0 rfl) ?_
            refine ct_get (C := RX4) (T := TX4) (N := 24) (ci := 4) (v := .ref (a 11)) hM hK hP inX4 0 rfl rfl 16 (by decide) wfl_X4_40 rfl dX4_all_78 ?_
            refine lv_aload_n hx hb dX4_all_81 rfl (lv_at hl 0 rfl) ?_
            refine ct_get (C := RX4) (T := TX4) (N := 24) (ci := 4) (v := .int (m_my q6)) hM hK hP inX4 0 rfl rfl 17 (by decide) wfl_X4_115 rfl dX4_all_82 ?_
            refine lv_iconst (v := 1) hx hb dX4_all_85 (by decide) ?_
            refine lv_isub hx hb dX4_all_86 ?_
            obtain ⟨h12, hO⟩ := hO
            refine va_iald hx hb hK hP 11 0 (f := m_or q6) (n := 8) (cA := cy 0) rfl rfl h12 dX4_all_87 ?_
            obtain ⟨h13, hO⟩ := hO
            refine va_iald hx hb hK hP 9 0 (f := m_en q6) (n := 8) (cA := cy 0) rfl rfl h13 dX4_all_88 ?_
            subst hF
            exact ct_iret hM hP hS dX4_all_89
          · have hF := lt_t c11 hF
            have hO := lo_t c11 hO
            refine lv_iconst (v := 0) hx hb dX4_all_69 (by decide) ?_
            refine lv_goto (tgt := 89) hx hb dX4_all_70 (by decide) ?_
            subst hF
            exact ct_iret hM hP hS dX4_all_89
        · have hF := lt_t c10 hF
          have hO := lo_t c10 hO
          refine lv_aload_n hx hb dX4_all_51 rfl (lv_at hl 0 rfl) ?_
          refine lv_aload_n hx hb dX4_all_52 rfl (lv_at hl 0 rfl) ?_
          refine ct_get (C := RX4) (T := TX4) (N := 24) (ci := 4) (v := .int (m_co q6)) hM hK hP inX4 0 rfl rfl 0 (by decide) wfl_X4_67 rfl dX4_all_53 ?_
          obtain ⟨h14, hO⟩ := hO
          obtain ⟨q15, e16⟩ : ∃ q, fX4_sumOf q6 (m_co q6) = q := ⟨_, rfl⟩
          have hF := lt_n e16 hF
          try have hO := lo_n e16 hO
          refine ct_callF hM hK hP hD hS (kX4_sumOf l D cy a q6 (m_co q6) h14 e16) kvX4_sumOf wml_X4_141 rfl 0 rfl rfl rfl rfl hl.1 rfl ⟨rfl, rfl, Nat.le_of_ble_eq_true rfl, Nat.le_of_ble_eq_true rfl⟩ (Nat.le_of_ble_eq_true rfl) ⟨Nat.zero_le _, Nat.zero_le _⟩ dX4_all_56 (fun H locs hP hD hS => ?_)
          refine W.eq (g2 := F0 m 59 ls [.int q15]) rfl ?_
          refine lv_goto (tgt := 89) hx hb dX4_all_59 (by decide) ?_
          subst hF
          exact ct_iret hM hP hS dX4_all_89
      · have hF := lt_t c9 hF
        have hO := lo_t c9 hO
        refine lv_aload_n hx hb dX4_all_39 rfl (lv_at hl 0 rfl) ?_
        obtain ⟨h17, hO⟩ := hO
        obtain ⟨q18, e19⟩ : ∃ q, fX4_whose q6 = q := ⟨_, rfl⟩
        have hF := lt_n e19 hF
        try have hO := lo_n e19 hO
        refine ct_callF hM hK hP hD hS (kX4_whose l D cy a q6 h17 e19) kvX4_whose wml_X4_137 rfl 0 rfl rfl rfl rfl hl.1 rfl ⟨rfl, rfl, Nat.le_of_ble_eq_true rfl, Nat.le_of_ble_eq_true rfl⟩ (Nat.le_of_ble_eq_true rfl) ⟨Nat.zero_le _, Nat.zero_le _⟩ dX4_all_40 (fun H locs hP hD hS => ?_)
        refine W.eq (g2 := F0 m 43 ls [.int q18]) rfl ?_
        refine lv_goto (tgt := 89) hx hb dX4_all_43 (by decide) ?_
        subst hF
        exact ct_iret hM hP hS dX4_all_89
    · have hF := lt_t c8 hF
      have hO := lo_t c8 hO
      refine lv_aload_n hx hb dX4_all_23 rfl (lv_at hl 0 rfl) ?_
      refine lv_aload_n hx hb dX4_all_24 rfl (lv_at hl 0 rfl) ?_
      refine ct_get (C := RX4) (T := TX4) (N := 24) (ci := 4) (v := .int (m_co q6)) hM hK hP inX4 0 rfl rfl 0 (by decide) wfl_X4_67 rfl dX4_all_25 ?_
      obtain ⟨h20, hO⟩ := hO
      obtain ⟨q21, e22⟩ : ∃ q, fX4_worstOf q6 (m_co q6) = q := ⟨_, rfl⟩
      have hF := lt_n e22 hF
      try have hO := lo_n e22 hO
      refine ct_callF hM hK hP hD hS (kX4_worstOf l D cy a q6 (m_co q6) h20 e22) kvX4_worstOf wml_X4_134 rfl 0 rfl rfl rfl rfl hl.1 rfl ⟨rfl, rfl, Nat.le_of_ble_eq_true rfl, Nat.le_of_ble_eq_true rfl⟩ (Nat.le_of_ble_eq_true rfl) ⟨Nat.zero_le _, Nat.zero_le _⟩ dX4_all_28 (fun H locs hP hD hS => ?_)
      refine W.eq (g2 := F0 m 31 ls [.int q21]) rfl ?_
      refine lv_goto (tgt := 89) hx hb dX4_all_31 (by decide) ?_
      subst hF
      exact ct_iret hM hP hS dX4_all_89
  · have hF := lt_t c4 hF
    have hO := lo_t c4 hO
    refine lv_bipush (v := (-2)) hx hb dX4_all_12 (by decide) ?_
    subst hF
    exact ct_iret hM hP hS dX4_all_14

abbrev rX4_judge : Room := { frames := 5, cells := 0, slots := 0, locals := 119 }
def fX4_judge_29 (x : tMs) (s1 : Int32) : Nat → Int32 → Int32 × tMs
  | 0, s2 => (0, x)
  | n + 1, s2 => if m_pn x ≤ s2 then ((-6), x) else (if ((m_pd x) (Int32.toNatClampNeg s2) - 65) = (m_or x) (Int32.toNatClampNeg s2) then (lt_ (s2 + 1) fun x16 => fX4_judge_29 x s1 n x16) else (if s1 = 0 then (s2, x) else ((m_or x) (Int32.toNatClampNeg s2), x)))
def oX4_judge_29 (x : tMs) (s1 : Int32) : Nat → Int32 → Prop
  | 0, _ => False
  | n + 1, s2 => if m_pn x ≤ s2 then True else (vp_in s2 40 ∧ vp_in s2 8 ∧ (if ((m_pd x) (Int32.toNatClampNeg s2) - 65) = (m_or x) (Int32.toNatClampNeg s2) then (lo_ (s2 + 1) fun x16 => oX4_judge_29 x s1 n x16) else True))
set_option maxHeartbeats 4000000 in
set_option maxRecDepth 100000 in
theorem tX4_judge_29 {p : Program} {l : Launch} {e : Env} {s : State} {m : MethodId} {args : Array Value} {below : List Frame} {meth : Method} {c : Code} {A : Nat → Prop} {D : va_G} {cy : Nat → ClassId} {a : Nat → Nat} {x : tMs} {s1 : Int32} {R : Int32 × tMs} (hM : MC p s m args meth c RX4 cX4_judge 3 (some .int)) (hK : va_K D classes (ctT cy) s) :
    ∀ (n : Nat) (s2 : Int32) (H : Heap) (locs : List Loc) (ls : Array Slot), va_P D classes (gwM cy a x) H → va_D A (gwM cy a x) → va_S A s.heap H locs → lv_has ls 3 [(0, .ref (a 0)), (1, .int s1), (2, .int s2)] → oX4_judge_29 x s1 n s2 → fX4_judge_29 x s1 n s2 = R → W p l e rX4_judge s m args below meth c H locs 0 0 (MQ below (ctQ D (some (.int R.1)) (gwM cy a R.2) A) args s 0 0 A) (F0 m 29 ls []) := by
  obtain ⟨hx, hb, -, hml, hown, hts, -⟩ := id hM
  intro n
  induction n with
  | zero =>
    intro s2 H locs ls hP hD hS hl hO hF
    exact False.elim hO
  | succ n ih =>
    intro s2 H locs ls hP hD hS hl hO hF
    rw [fX4_judge_29] at hF
    rw [oX4_judge_29] at hO
    refine lv_iload_n hx hb dX4_judge_29 rfl (lv_at hl 2 rfl) ?_
    refine lv_aload_n hx hb dX4_judge_30 rfl (lv_at hl 0 rfl) ?_
    refine ct_get (C := RX4) (T := TX4) (N := 24) (ci := 4) (v := .int (m_pn x)) hM hK hP inX4 0 rfl rfl 10 (by decide) wfl_X4_97 rfl dX4_judge_31 ?_
    refine lv_icmp_ge (tgt := 76) hx hb dX4_judge_34 (by decide) (fun c12 => ?_) (fun c12 => ?_)
    · have hF := lt_t c12 hF
      have hO := lo_t c12 hO
      refine lv_bipush (v := (-6)) hx hb dX4_judge_76 (by decide) ?_
      subst hF
      exact ct_iret hM hP hS dX4_judge_78
    · have hF := lt_f c12 hF
      have hO := lo_f c12 hO
      refine lv_aload_n hx hb dX4_judge_37 rfl (lv_at hl 0 rfl) ?_
      refine ct_get (C := RX4) (T := TX4) (N := 24) (ci := 4) (v := .ref (a 5)) hM hK hP inX4 0 rfl rfl 9 (by decide) wfl_X4_22 rfl dX4_judge_38 ?_
      refine lv_iload_n hx hb dX4_judge_41 rfl (lv_at hl 2 rfl) ?_
      obtain ⟨h13, hO⟩ := hO
      refine va_iald hx hb hK hP 5 0 (f := m_pd x) (n := 40) (cA := cy 0) rfl rfl h13 dX4_judge_42 ?_
      refine lv_bipush (v := 65) hx hb dX4_judge_43 (by decide) ?_
      refine lv_isub hx hb dX4_judge_45 ?_
      refine lv_aload_n hx hb dX4_judge_46 rfl (lv_at hl 0 rfl) ?_
      refine ct_get (C := RX4) (T := TX4) (N := 24) (ci := 4) (v := .ref (a 11)) hM hK hP inX4 0 rfl rfl 16 (by decide) wfl_X4_40 rfl dX4_judge_47 ?_
      refine lv_iload_n hx hb dX4_judge_50 rfl (lv_at hl 2 rfl) ?_
      obtain ⟨h14, hO⟩ := hO
      refine va_iald hx hb hK hP 11 0 (f := m_or x) (n := 8) (cA := cy 0) rfl rfl h14 dX4_judge_51 ?_
      refine lv_icmp_eq (tgt := 70) hx hb dX4_judge_52 (by decide) (fun c15 => ?_) (fun c15 => ?_)
      · have hF := lt_t c15 hF
        have hO := lo_t c15 hO
        obtain ⟨x16, e17⟩ : ∃ y : Int32, s2 + 1 = y := ⟨_, rfl⟩
        have hF := lt_n e17 hF
        try have hO := lo_n e17 hO
        refine lv_iinc (v := x16) (lv' := [(2, .int x16), (0, .ref (a 0)), (1, .int s1)]) hx hb dX4_judge_70 hl (k := 2) rfl (by rw [← e17]; rfl) (by decide) rfl (fun ls hl => ?_)
        refine lv_goto (tgt := 29) hx hb dX4_judge_73 (by decide) ?_
        exact ih x16 H locs ls hP hD hS (lv_sub hl [1, 2, 0] rfl) hO hF
      · have hF := lt_f c15 hF
        have hO := lo_f c15 hO
        refine lv_iload_n hx hb dX4_judge_55 rfl (lv_at hl 1 rfl) ?_
        refine lv_if_ne (tgt := 63) hx hb dX4_judge_56 (by decide) (fun c18 => ?_) (fun c18 => ?_)
        · have hF := lt_f c18 hF
          refine lv_aload_n hx hb dX4_judge_63 rfl (lv_at hl 0 rfl) ?_
          refine ct_get (C := RX4) (T := TX4) (N := 24) (ci := 4) (v := .ref (a 11)) hM hK hP inX4 0 rfl rfl 16 (by decide) wfl_X4_40 rfl dX4_judge_64 ?_
          refine lv_iload_n hx hb dX4_judge_67 rfl (lv_at hl 2 rfl) ?_
          refine va_iald hx hb hK hP 11 0 (f := m_or x) (n := 8) (cA := cy 0) rfl rfl h14 dX4_judge_68 ?_
          subst hF
          exact ct_iret hM hP hS dX4_judge_69
        · have hF := lt_t c18 hF
          refine lv_iload_n hx hb dX4_judge_59 rfl (lv_at hl 2 rfl) ?_
          refine lv_goto (tgt := 69) hx hb dX4_judge_60 (by decide) ?_
          subst hF
          exact ct_iret hM hP hS dX4_judge_69

def fX4_judge (x : tMs) (s1 : Int32) : Int32 × tMs := lt_ (fX4_in (Int32.toInt64 s1) 0 1) fun q2 => if q2 = 0 then ((-2), x) else (lt_ (fX4_fault x) fun q6 => if q6 < 0 then (lt_ (fX4_goNow x) fun q10 => fX4_judge_29 q10 s1 41 0) else ((-5), x))
def oX4_judge (x : tMs) (s1 : Int32) : Prop := lo_ (fX4_in (Int32.toInt64 s1) 0 1) fun q2 => if q2 = 0 then True else (oX4_fault x ∧ (lo_ (fX4_fault x) fun q6 => if q6 < 0 then (oX4_goNow x ∧ (lo_ (fX4_goNow x) fun q10 => oX4_judge_29 q10 s1 41 0)) else True))
theorem kvX4_judge : KV yX4_judge cX4_judge 3 (some .int) 1 := ⟨wcd_X4_judge, wim_X4_judge, wsl_X4_judge, win_X4, by decide +kernel, by decide +kernel, by decide +kernel⟩
set_option maxHeartbeats 4000000 in
set_option maxRecDepth 100000 in
theorem kX4_judge (l : Launch) (D : va_G) (cy : Nat → ClassId) (a : Nat → Nat) (x : tMs) (s1 : Int32) {R : Int32 × tMs} (hO : oX4_judge x s1) (hF : fX4_judge x s1 = R) : CT l D cy yX4_judge cX4_judge 3 (some .int) rX4_judge [.ref (a 0), .int s1] (gwM cy a x) (some (.int R.1)) (gwM cy a R.2) := by
  refine ct_of (by decide) (Nat.le_of_ble_eq_true rfl) ?_
  intro p e s m args below meth c A ls hM hK hP hD hS hl
  obtain ⟨hx, hb, -, hml, hown, hts, -⟩ := id hM
  have hl : lv_has ls 3 [(0, .ref (a 0)), (1, .int s1)] := hl
  obtain ⟨H, hH⟩ : ∃ H : Heap, H = s.heap := ⟨_, rfl⟩
  obtain ⟨locs, hlocs⟩ : ∃ q : List Loc, q = [] := ⟨_, rfl⟩
  have hP : va_P D classes (gwM cy a x) H := by rw [hH]; exact hP
  have hS : va_S A s.heap H locs := by rw [hH, hlocs]; exact hS
  suffices hg : W p l e rX4_judge s m args below meth c H locs 0 0 (MQ below (ctQ D (some (.int R.1)) (gwM cy a R.2) A) args s 0 0 A) (F0 m 0 ls []) by rw [hH, hlocs] at hg; exact hg
  clear hH hlocs
  unfold fX4_judge at hF
  unfold oX4_judge at hO
  refine lv_iload_n hx hb dX4_judge_0 rfl (lv_at hl 1 rfl) ?_
  refine lv_i2l (v := Int32.toInt64 s1) hx hb dX4_judge_1 rfl ?_
  refine lv_lconst (v := 0) hx hb dX4_judge_2 rfl ?_
  refine lv_lconst (v := 1) hx hb dX4_judge_3 rfl ?_
  obtain ⟨q2, e3⟩ : ∃ q, fX4_in (Int32.toInt64 s1) 0 1 = q := ⟨_, rfl⟩
  have hF := lt_n e3 hF
  try have hO := lo_n e3 hO
  refine ct_callS hM hK hP hD hS (kX4_in l D cy (Int32.toInt64 s1) 0 1 trivial e3) kvX4_in wml_X4_59 rfl hl.1 rfl ⟨rfl, rfl, Nat.le_of_ble_eq_true rfl, Nat.le_of_ble_eq_true rfl⟩ (Nat.le_of_ble_eq_true rfl) ⟨Nat.zero_le _, Nat.zero_le _⟩ dX4_judge_4 (fun H locs hP hD hS => ?_)
  refine W.eq (g2 := F0 m 7 ls [.int q2]) rfl ?_
  have hP : va_P D classes (gwM cy a x) H := hP
  have hD : va_D A (gwM cy a x) := hD
  refine lv_if_ne (tgt := 13) hx hb dX4_judge_7 (by decide) (fun c4 => ?_) (fun c4 => ?_)
  · have hF := lt_f c4 hF
    have hO := lo_f c4 hO
    refine lv_aload_n hx hb dX4_judge_13 rfl (lv_at hl 0 rfl) ?_
    obtain ⟨h5, hO⟩ := hO
    obtain ⟨q6, e7⟩ : ∃ q, fX4_fault x = q := ⟨_, rfl⟩
    have hF := lt_n e7 hF
    try have hO := lo_n e7 hO
    refine ct_callF hM hK hP hD hS (kX4_fault l D cy a x h5 e7) kvX4_fault wml_X4_144 rfl 0 rfl rfl rfl rfl hl.1 rfl ⟨rfl, rfl, Nat.le_of_ble_eq_true rfl, Nat.le_of_ble_eq_true rfl⟩ (Nat.le_of_ble_eq_true rfl) ⟨Nat.zero_le _, Nat.zero_le _⟩ dX4_judge_14 (fun H locs hP hD hS => ?_)
    refine W.eq (g2 := F0 m 17 ls [.int q6]) rfl ?_
    refine lv_if_lt (tgt := 23) hx hb dX4_judge_17 (by decide) (fun c8 => ?_) (fun c8 => ?_)
    · have hF := lt_t c8 hF
      have hO := lo_t c8 hO
      refine lv_aload_n hx hb dX4_judge_23 rfl (lv_at hl 0 rfl) ?_
      obtain ⟨h9, hO⟩ := hO
      obtain ⟨q10, e11⟩ : ∃ q, fX4_goNow x = q := ⟨_, rfl⟩
      have hF := lt_n e11 hF
      try have hO := lo_n e11 hO
      refine ct_callF hM hK hP hD hS (kX4_goNow l D cy a x h9 e11) kvX4_goNow wml_X4_131 rfl 0 rfl rfl rfl rfl hl.1 rfl ⟨rfl, rfl, Nat.le_of_ble_eq_true rfl, Nat.le_of_ble_eq_true rfl⟩ (Nat.le_of_ble_eq_true rfl) ⟨Nat.zero_le _, Nat.zero_le _⟩ dX4_judge_24 (fun H locs hP hD hS => ?_)
      refine W.eq (g2 := F0 m 27 ls []) rfl ?_
      have hP : va_P D classes (gwM cy a q10) H := hP
      have hD : va_D A (gwM cy a q10) := hD
      refine lv_iconst (v := 0) hx hb dX4_judge_27 (by decide) ?_
      refine lv_istore_n (lv' := [(2, .int 0), (0, .ref (a 0)), (1, .int s1)]) hx hb dX4_judge_28 rfl hl (by decide) rfl (fun ls hl => ?_)
      exact tX4_judge_29 hM hK 41 0 H locs ls hP hD hS (lv_sub hl [1, 2, 0] rfl) hO hF
    · have hF := lt_f c8 hF
      have hO := lo_f c8 hO
      refine lv_bipush (v := (-5)) hx hb dX4_judge_20 (by decide) ?_
      subst hF
      exact ct_iret hM hP hS dX4_judge_22
  · have hF := lt_t c4 hF
    have hO := lo_t c4 hO
    refine lv_bipush (v := (-2)) hx hb dX4_judge_10 (by decide) ?_
    subst hF
    exact ct_iret hM hP hS dX4_judge_12

abbrev rX4_left : Room := { frames := 4, cells := 0, slots := 0, locals := 99 }
def fX4_left (x : tMs) (s1 : Int32) (s2 : Int32) : Int32 × tMs := lt_ (fX4_comes x s2) fun q2 => if q2 = 0 then ((-1), x) else (lt_ (fX4_in (Int32.toInt64 s1) 0 99) fun q6 => if q6 = 0 then ((-2), x) else (lt_ (fX4_layNow x) fun q10 => lt_ (fX4_go q10 (m_co q10) s1) fun q13 => ((m_to q13) (Int32.toNatClampNeg s2), q13)))
def oX4_left (x : tMs) (s1 : Int32) (s2 : Int32) : Prop := oX4_comes x s2 ∧ (lo_ (fX4_comes x s2) fun q2 => if q2 = 0 then True else (lo_ (fX4_in (Int32.toInt64 s1) 0 99) fun q6 => if q6 = 0 then True else (oX4_layNow x ∧ (lo_ (fX4_layNow x) fun q10 => oX4_go q10 (m_co q10) s1 ∧ (lo_ (fX4_go q10 (m_co q10) s1) fun q13 => vp_in s2 8 ∧ True)))))
theorem kvX4_left : KV yX4_left cX4_left 3 (some .int) 2 := ⟨wcd_X4_left, wim_X4_left, wsl_X4_left, win_X4, by decide +kernel, by decide +kernel, by decide +kernel⟩
set_option maxHeartbeats 4000000 in
set_option maxRecDepth 100000 in
theorem kX4_left (l : Launch) (D : va_G) (cy : Nat → ClassId) (a : Nat → Nat) (x : tMs) (s1 : Int32) (s2 : Int32) {R : Int32 × tMs} (hO : oX4_left x s1 s2) (hF : fX4_left x s1 s2 = R) : CT l D cy yX4_left cX4_left 3 (some .int) rX4_left [.ref (a 0), .int s1, .int s2] (gwM cy a x) (some (.int R.1)) (gwM cy a R.2) := by
  refine ct_of (by decide) (Nat.le_of_ble_eq_true rfl) ?_
  intro p e s m args below meth c A ls hM hK hP hD hS hl
  obtain ⟨hx, hb, -, hml, hown, hts, -⟩ := id hM
  have hl : lv_has ls 3 [(0, .ref (a 0)), (1, .int s1), (2, .int s2)] := hl
  obtain ⟨H, hH⟩ : ∃ H : Heap, H = s.heap := ⟨_, rfl⟩
  obtain ⟨locs, hlocs⟩ : ∃ q : List Loc, q = [] := ⟨_, rfl⟩
  have hP : va_P D classes (gwM cy a x) H := by rw [hH]; exact hP
  have hS : va_S A s.heap H locs := by rw [hH, hlocs]; exact hS
  suffices hg : W p l e rX4_left s m args below meth c H locs 0 0 (MQ below (ctQ D (some (.int R.1)) (gwM cy a R.2) A) args s 0 0 A) (F0 m 0 ls []) by rw [hH, hlocs] at hg; exact hg
  clear hH hlocs
  unfold fX4_left at hF
  unfold oX4_left at hO
  refine lv_aload_n hx hb dX4_left_0 rfl (lv_at hl 0 rfl) ?_
  refine lv_iload_n hx hb dX4_left_1 rfl (lv_at hl 2 rfl) ?_
  obtain ⟨h1, hO⟩ := hO
  obtain ⟨q2, e3⟩ : ∃ q, fX4_comes x s2 = q := ⟨_, rfl⟩
  have hF := lt_n e3 hF
  try have hO := lo_n e3 hO
  refine ct_callF hM hK hP hD hS (kX4_comes l D cy a x s2 h1 e3) kvX4_comes wml_X4_80 rfl 0 rfl rfl rfl rfl hl.1 rfl ⟨rfl, rfl, Nat.le_of_ble_eq_true rfl, Nat.le_of_ble_eq_true rfl⟩ (Nat.le_of_ble_eq_true rfl) ⟨Nat.zero_le _, Nat.zero_le _⟩ dX4_left_2 (fun H locs hP hD hS => ?_)
  refine W.eq (g2 := F0 m 5 ls [.int q2]) rfl ?_
  refine lv_if_ne (tgt := 10) hx hb dX4_left_5 (by decide) (fun c4 => ?_) (fun c4 => ?_)
  · have hF := lt_f c4 hF
    have hO := lo_f c4 hO
    refine lv_iload_n hx hb dX4_left_10 rfl (lv_at hl 1 rfl) ?_
    refine lv_i2l (v := Int32.toInt64 s1) hx hb dX4_left_11 rfl ?_
    refine lv_lconst (v := 0) hx hb dX4_left_12 rfl ?_
    refine lv_ldc2 (v := 99) hx hb hown (hts _ wct_X4_70) dX4_left_13 ?_
    obtain ⟨q6, e7⟩ : ∃ q, fX4_in (Int32.toInt64 s1) 0 99 = q := ⟨_, rfl⟩
    have hF := lt_n e7 hF
    try have hO := lo_n e7 hO
    refine ct_callS hM hK hP hD hS (kX4_in l D cy (Int32.toInt64 s1) 0 99 trivial e7) kvX4_in wml_X4_59 rfl hl.1 rfl ⟨rfl, rfl, Nat.le_of_ble_eq_true rfl, Nat.le_of_ble_eq_true rfl⟩ (Nat.le_of_ble_eq_true rfl) ⟨Nat.zero_le _, Nat.zero_le _⟩ dX4_left_16 (fun H locs hP hD hS => ?_)
    refine W.eq (g2 := F0 m 19 ls [.int q6]) rfl ?_
    have hP : va_P D classes (gwM cy a x) H := hP
    have hD : va_D A (gwM cy a x) := hD
    refine lv_if_ne (tgt := 25) hx hb dX4_left_19 (by decide) (fun c8 => ?_) (fun c8 => ?_)
    · have hF := lt_f c8 hF
      have hO := lo_f c8 hO
      refine lv_aload_n hx hb dX4_left_25 rfl (lv_at hl 0 rfl) ?_
      obtain ⟨h9, hO⟩ := hO
      obtain ⟨q10, e11⟩ : ∃ q, fX4_layNow x = q := ⟨_, rfl⟩
      have hF := lt_n e11 hF
      try have hO := lo_n e11 hO
      refine ct_callF hM hK hP hD hS (kX4_layNow l D cy a x h9 e11) kvX4_layNow wml_X4_124 rfl 0 rfl rfl rfl rfl hl.1 rfl ⟨rfl, rfl, Nat.le_of_ble_eq_true rfl, Nat.le_of_ble_eq_true rfl⟩ (Nat.le_of_ble_eq_true rfl) ⟨Nat.zero_le _, Nat.zero_le _⟩ dX4_left_26 (fun H locs hP hD hS => ?_)
      refine W.eq (g2 := F0 m 29 ls []) rfl ?_
      have hP : va_P D classes (gwM cy a q10) H := hP
      have hD : va_D A (gwM cy a q10) := hD
      refine lv_aload_n hx hb dX4_left_29 rfl (lv_at hl 0 rfl) ?_
      refine lv_aload_n hx hb dX4_left_30 rfl (lv_at hl 0 rfl) ?_
      refine ct_get (C := RX4) (T := TX4) (N := 24) (ci := 4) (v := .int (m_co q10)) hM hK hP inX4 0 rfl rfl 0 (by decide) wfl_X4_67 rfl dX4_left_31 ?_
      refine lv_iload_n hx hb dX4_left_34 rfl (lv_at hl 1 rfl) ?_
      obtain ⟨h12, hO⟩ := hO
      obtain ⟨q13, e14⟩ : ∃ q, fX4_go q10 (m_co q10) s1 = q := ⟨_, rfl⟩
      have hF := lt_n e14 hF
      try have hO := lo_n e14 hO
      refine ct_callF hM hK hP hD hS (kX4_go l D cy a q10 (m_co q10) s1 h12 e14) kvX4_go wml_X4_127 rfl 0 rfl rfl rfl rfl hl.1 rfl ⟨rfl, rfl, Nat.le_of_ble_eq_true rfl, Nat.le_of_ble_eq_true rfl⟩ (Nat.le_of_ble_eq_true rfl) ⟨Nat.zero_le _, Nat.zero_le _⟩ dX4_left_35 (fun H locs hP hD hS => ?_)
      refine W.eq (g2 := F0 m 38 ls []) rfl ?_
      have hP : va_P D classes (gwM cy a q13) H := hP
      have hD : va_D A (gwM cy a q13) := hD
      refine lv_aload_n hx hb dX4_left_38 rfl (lv_at hl 0 rfl) ?_
      refine ct_get (C := RX4) (T := TX4) (N := 24) (ci := 4) (v := .ref (a 10)) hM hK hP inX4 0 rfl rfl 15 (by decide) wfl_X4_37 rfl dX4_left_39 ?_
      refine lv_iload_n hx hb dX4_left_42 rfl (lv_at hl 2 rfl) ?_
      obtain ⟨h15, hO⟩ := hO
      refine va_iald hx hb hK hP 10 0 (f := m_to q13) (n := 8) (cA := cy 0) rfl rfl h15 dX4_left_43 ?_
      subst hF
      exact ct_iret hM hP hS dX4_left_44
    · have hF := lt_t c8 hF
      have hO := lo_t c8 hO
      refine lv_bipush (v := (-2)) hx hb dX4_left_22 (by decide) ?_
      subst hF
      exact ct_iret hM hP hS dX4_left_24
  · have hF := lt_t c4 hF
    have hO := lo_t c4 hO
    refine lv_iconst (v := (-1)) hx hb dX4_left_8 (by decide) ?_
    subst hF
    exact ct_iret hM hP hS dX4_left_9

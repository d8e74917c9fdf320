abbrev rX4_best : Room := { frames := 4, cells := 0, slots := 0, locals := 99 }
def fX4_best_64 (s1 : Int32) (s3 : Int32) (s4 : Int32) : Nat → tMs → Int32 → Int32 → Int32 → Int32 × tMs
  | 0, x, s5, s6, s7 => (0, x)
  | n + 1, x, s5, s6, s7 => if s3 < s7 then (if s4 = 0 then (s5, x) else (s6, x)) else (lt_ (fX4_go (m_co x, m_mi x, m_mn x, m_pa x, m_ca x, m_dr x, m_fa x, m_st x, m_ha x, m_pd x, m_pn x, m_fr x, upd (m_at x) (Int32.toNatClampNeg s1) s7, m_wa x, m_en x, m_to x, m_or x, m_my x, m_bf x, m_bs x, m_kp x, m_ik x, m_ka x, m_iw x) (m_co x) 99) fun q24 => if s6 ≤ (m_wa q24) (Int32.toNatClampNeg s1) then (lt_ (s7 + 1) fun x27 => fX4_best_64 s1 s3 s4 n q24 s5 s6 x27) else (lt_ ((m_wa q24) (Int32.toNatClampNeg s1)) fun x29 => lt_ (s7 + 1) fun x31 => fX4_best_64 s1 s3 s4 n q24 s7 x29 x31))
def oX4_best_64 (s1 : Int32) (s3 : Int32) (s4 : Int32) : Nat → tMs → Int32 → Int32 → Int32 → Prop
  | 0, _, _, _, _ => False
  | n + 1, x, s5, s6, s7 => if s3 < s7 then True else (vp_in s1 8 ∧ oX4_go (m_co x, m_mi x, m_mn x, m_pa x, m_ca x, m_dr x, m_fa x, m_st x, m_ha x, m_pd x, m_pn x, m_fr x, upd (m_at x) (Int32.toNatClampNeg s1) s7, m_wa x, m_en x, m_to x, m_or x, m_my x, m_bf x, m_bs x, m_kp x, m_ik x, m_ka x, m_iw x) (m_co x) 99 ∧ (lo_ (fX4_go (m_co x, m_mi x, m_mn x, m_pa x, m_ca x, m_dr x, m_fa x, m_st x, m_ha x, m_pd x, m_pn x, m_fr x, upd (m_at x) (Int32.toNatClampNeg s1) s7, m_wa x, m_en x, m_to x, m_or x, m_my x, m_bf x, m_bs x, m_kp x, m_ik x, m_ka x, m_iw x) (m_co x) 99) fun q24 => if s6 ≤ (m_wa q24) (Int32.toNatClampNeg s1) then (lo_ (s7 + 1) fun x27 => oX4_best_64 s1 s3 s4 n q24 s5 s6 x27) else (lo_ ((m_wa q24) (Int32.toNatClampNeg s1)) fun x29 => lo_ (s7 + 1) fun x31 => oX4_best_64 s1 s3 s4 n q24 s7 x29 x31)))
set_option maxHeartbeats 4000000 in
set_option maxRecDepth 100000 in
theorem tX4_best_64 {p : Program} {l : Launch} {e : Env} {s : State} {m : MethodId} {args : Array Value} {below : List Frame} {meth : Method} {c : Code} {A : Nat → Prop} {D : va_G} {cy : Nat → ClassId} {a : Nat → Nat} {s1 : Int32} {s2 : Int32} {s3 : Int32} {s4 : Int32} {R : Int32 × tMs} (hM : MC p s m args meth c RX4 cX4_best 8 (some .int)) (hK : va_K D classes (ctT cy) s) :
    ∀ (n : Nat) (x : tMs) (s5 : Int32) (s6 : Int32) (s7 : Int32) (H : Heap) (locs : List Loc) (ls : Array Slot), va_P D classes (gwM cy a x) H → va_D A (gwM cy a x) → va_S A s.heap H locs → lv_has ls 8 [(0, .ref (a 0)), (1, .int s1), (2, .int s2), (3, .int s3), (4, .int s4), (5, .int s5), (6, .int s6), (7, .int s7)] → oX4_best_64 s1 s3 s4 n x s5 s6 s7 → fX4_best_64 s1 s3 s4 n x s5 s6 s7 = R → W p l e rX4_best s m args below meth c H locs 0 0 (MQ below (ctQ D (some (.int R.1)) (gwM cy a R.2) A) args s 0 0 A) (F0 m 64 ls []) := by
  obtain ⟨hx, hb, -, hml, hown, hts, -⟩ := id hM
  intro n
  induction n with
  | zero =>
    intro x s5 s6 s7 H locs ls hP hD hS hl hO hF
    exact False.elim hO
  | succ n ih =>
    intro x s5 s6 s7 H locs ls hP hD hS hl hO hF
    rw [fX4_best_64] at hF
    rw [oX4_best_64] at hO
    refine lv_iload hx hb dX4_best_64 (lv_at hl 7 rfl) ?_
    refine lv_iload_n hx hb dX4_best_66 rfl (lv_at hl 3 rfl) ?_
    refine lv_icmp_gt (tgt := 138) hx hb dX4_best_67 (by decide) (fun c20 => ?_) (fun c20 => ?_)
    · have hF := lt_t c20 hF
      have hO := lo_t c20 hO
      refine lv_iload hx hb dX4_best_138 (lv_at hl 4 rfl) ?_
      refine lv_if_ne (tgt := 148) hx hb dX4_best_140 (by decide) (fun c21 => ?_) (fun c21 => ?_)
      · have hF := lt_f c21 hF
        refine lv_iload hx hb dX4_best_148 (lv_at hl 6 rfl) ?_
        subst hF
        exact ct_iret hM hP hS dX4_best_150
      · have hF := lt_t c21 hF
        refine lv_iload hx hb dX4_best_143 (lv_at hl 5 rfl) ?_
        refine lv_goto (tgt := 150) hx hb dX4_best_145 (by decide) ?_
        subst hF
        exact ct_iret hM hP hS dX4_best_150
    · have hF := lt_f c20 hF
      have hO := lo_f c20 hO
      refine lv_aload_n hx hb dX4_best_70 rfl (lv_at hl 0 rfl) ?_
      refine ct_get (C := RX4) (T := TX4) (N := 24) (ci := 4) (v := .ref (a 7)) hM hK hP inX4 0 rfl rfl 12 (by decide) wfl_X4_28 rfl dX4_best_71 ?_
      refine lv_iload_n hx hb dX4_best_74 rfl (lv_at hl 1 rfl) ?_
      refine lv_iload hx hb dX4_best_75 (lv_at hl 7 rfl) ?_
      obtain ⟨h22, hO⟩ := hO
      refine va_iast hx hb hK hP hD hS 7 0 (f := m_at x) (n := 8) (cA := cy 0) rfl rfl h22 dX4_best_77 (fun H locs hP hD hS => ?_)
      have hP : va_P D classes (gwM cy a (m_co x, m_mi x, m_mn x, m_pa x, m_ca x, m_dr x, m_fa x, m_st x, m_ha x, m_pd x, m_pn x, m_fr x, upd (m_at x) (Int32.toNatClampNeg s1) s7, m_wa x, m_en x, m_to x, m_or x, m_my x, m_bf x, m_bs x, m_kp x, m_ik x, m_ka x, m_iw x)) H := hP
      have hD : va_D A (gwM cy a (m_co x, m_mi x, m_mn x, m_pa x, m_ca x, m_dr x, m_fa x, m_st x, m_ha x, m_pd x, m_pn x, m_fr x, upd (m_at x) (Int32.toNatClampNeg s1) s7, m_wa x, m_en x, m_to x, m_or x, m_my x, m_bf x, m_bs x, m_kp x, m_ik x, m_ka x, m_iw x)) := hD
      refine lv_aload_n hx hb dX4_best_78 rfl (lv_at hl 0 rfl) ?_
      refine lv_aload_n hx hb dX4_best_79 rfl (lv_at hl 0 rfl) ?_
      refine ct_get (C := RX4) (T := TX4) (N := 24) (ci := 4) (v := .int (m_co x)) hM hK hP inX4 0 rfl rfl 0 (by decide) wfl_X4_67 rfl dX4_best_80 ?_
      refine lv_bipush (v := 99) hx hb dX4_best_83 (by decide) ?_
      obtain ⟨h23, hO⟩ := hO
      obtain ⟨q24, e25⟩ : ∃ q, fX4_go (m_co x, m_mi x, m_mn x, m_pa x, m_ca x, m_dr x, m_fa x, m_st x, m_ha x, m_pd x, m_pn x, m_fr x, upd (m_at x) (Int32.toNatClampNeg s1) s7, m_wa x, m_en x, m_to x, m_or x, m_my x, m_bf x, m_bs x, m_kp x, m_ik x, m_ka x, m_iw x) (m_co x) 99 = q := ⟨_, rfl⟩
      have hF := lt_n e25 hF
      try have hO := lo_n e25 hO
      refine ct_callF hM hK hP hD hS (kX4_go l D cy a (m_co x, m_mi x, m_mn x, m_pa x, m_ca x, m_dr x, m_fa x, m_st x, m_ha x, m_pd x, m_pn x, m_fr x, upd (m_at x) (Int32.toNatClampNeg s1) s7, m_wa x, m_en x, m_to x, m_or x, m_my x, m_bf x, m_bs x, m_kp x, m_ik x, m_ka x, m_iw x) (m_co x) 99 h23 e25) kvX4_go wml_X4_127 rfl 0 rfl rfl rfl rfl hl.1 rfl ⟨rfl, rfl, Nat.le_of_ble_eq_true rfl, Nat.le_of_ble_eq_true rfl⟩ (Nat.le_of_ble_eq_true rfl) ⟨Nat.zero_le _, Nat.zero_le _⟩ dX4_best_85 (fun H locs hP hD hS => ?_)
      refine W.eq (g2 := F0 m 88 ls []) rfl ?_
      have hP : va_P D classes (gwM cy a q24) H := hP
      have hD : va_D A (gwM cy a q24) := hD
      refine lv_aload_n hx hb dX4_best_88 rfl (lv_at hl 0 rfl) ?_
      refine ct_get (C := RX4) (T := TX4) (N := 24) (ci := 4) (v := .ref (a 8)) hM hK hP inX4 0 rfl rfl 13 (by decide) wfl_X4_31 rfl dX4_best_89 ?_
      refine lv_iload_n hx hb dX4_best_92 rfl (lv_at hl 1 rfl) ?_
      refine va_iald hx hb hK hP 8 0 (f := m_wa q24) (n := 8) (cA := cy 0) rfl rfl h22 dX4_best_93 ?_
      refine lv_iload hx hb dX4_best_94 (lv_at hl 6 rfl) ?_
      refine lv_icmp_ge (tgt := 104) hx hb dX4_best_96 (by decide) (fun c26 => ?_) (fun c26 => ?_)
      · have hF := lt_t c26 hF
        have hO := lo_t c26 hO
        refine lv_iload hx hb dX4_best_104 (lv_at hl 5 rfl) ?_
        refine lv_istore (lv' := [(5, .int s5), (0, .ref (a 0)), (1, .int s1), (2, .int s2), (3, .int s3), (4, .int s4), (6, .int s6), (7, .int s7)]) hx hb dX4_best_106 hl (by decide) rfl (fun ls hl => ?_)
        refine lv_aload_n hx hb dX4_best_108 rfl (lv_at hl 1 rfl) ?_
        refine ct_get (C := RX4) (T := TX4) (N := 24) (ci := 4) (v := .ref (a 8)) hM hK hP inX4 0 rfl rfl 13 (by decide) wfl_X4_31 rfl dX4_best_109 ?_
        refine lv_iload_n hx hb dX4_best_112 rfl (lv_at hl 2 rfl) ?_
        refine va_iald hx hb hK hP 8 0 (f := m_wa q24) (n := 8) (cA := cy 0) rfl rfl h22 dX4_best_113 ?_
        refine lv_iload hx hb dX4_best_114 (lv_at hl 6 rfl) ?_
        refine lv_icmp_ge (tgt := 128) hx hb dX4_best_116 (by decide) (fun _ => ?_) (fun z => absurd c26 z)
        refine lv_iload hx hb dX4_best_128 (lv_at hl 6 rfl) ?_
        refine lv_istore (lv' := [(6, .int s6), (5, .int s5), (0, .ref (a 0)), (1, .int s1), (2, .int s2), (3, .int s3), (4, .int s4), (7, .int s7)]) hx hb dX4_best_130 hl (by decide) rfl (fun ls hl => ?_)
        obtain ⟨x27, e28⟩ : ∃ y : Int32, s7 + 1 = y := ⟨_, rfl⟩
        have hF := lt_n e28 hF
        try have hO := lo_n e28 hO
        refine lv_iinc (v := x27) (lv' := [(7, .int x27), (6, .int s6), (5, .int s5), (0, .ref (a 0)), (1, .int s1), (2, .int s2), (3, .int s3), (4, .int s4)]) hx hb dX4_best_132 hl (k := 7) rfl (by rw [← e28]; rfl) (by decide) rfl (fun ls hl => ?_)
        refine lv_goto (tgt := 64) hx hb dX4_best_135 (by decide) ?_
        exact ih q24 s5 s6 x27 H locs ls hP hD hS (lv_sub hl [3, 4, 5, 6, 7, 2, 1, 0] rfl) hO hF
      · have hF := lt_f c26 hF
        have hO := lo_f c26 hO
        refine lv_iload hx hb dX4_best_99 (lv_at hl 7 rfl) ?_
        refine lv_goto (tgt := 106) hx hb dX4_best_101 (by decide) ?_
        refine lv_istore (lv' := [(5, .int s7), (0, .ref (a 0)), (1, .int s1), (2, .int s2), (3, .int s3), (4, .int s4), (6, .int s6), (7, .int s7)]) hx hb dX4_best_106 hl (by decide) rfl (fun ls hl => ?_)
        refine lv_aload_n hx hb dX4_best_108 rfl (lv_at hl 1 rfl) ?_
        refine ct_get (C := RX4) (T := TX4) (N := 24) (ci := 4) (v := .ref (a 8)) hM hK hP inX4 0 rfl rfl 13 (by decide) wfl_X4_31 rfl dX4_best_109 ?_
        refine lv_iload_n hx hb dX4_best_112 rfl (lv_at hl 2 rfl) ?_
        refine va_iald hx hb hK hP 8 0 (f := m_wa q24) (n := 8) (cA := cy 0) rfl rfl h22 dX4_best_113 ?_
        refine lv_iload hx hb dX4_best_114 (lv_at hl 6 rfl) ?_
        refine lv_icmp_ge (tgt := 128) hx hb dX4_best_116 (by decide) (fun z => absurd z c26) (fun _ => ?_)
        refine lv_aload_n hx hb dX4_best_119 rfl (lv_at hl 1 rfl) ?_
        refine ct_get (C := RX4) (T := TX4) (N := 24) (ci := 4) (v := .ref (a 8)) hM hK hP inX4 0 rfl rfl 13 (by decide) wfl_X4_31 rfl dX4_best_120 ?_
        refine lv_iload_n hx hb dX4_best_123 rfl (lv_at hl 2 rfl) ?_
        refine va_iald hx hb hK hP 8 0 (f := m_wa q24) (n := 8) (cA := cy 0) rfl rfl h22 dX4_best_124 ?_
        refine lv_goto (tgt := 130) hx hb dX4_best_125 (by decide) ?_
        refine lv_topi (fun x29 e30 => ?_)
        have hF := lt_n e30.symm hF
        try have hO := lo_n e30.symm hO
        refine lv_istore (lv' := [(6, .int x29), (5, .int s7), (0, .ref (a 0)), (1, .int s1), (2, .int s2), (3, .int s3), (4, .int s4), (7, .int s7)]) hx hb dX4_best_130 hl (by decide) rfl (fun ls hl => ?_)
        obtain ⟨x31, e32⟩ : ∃ y : Int32, s7 + 1 = y := ⟨_, rfl⟩
        have hF := lt_n e32 hF
        try have hO := lo_n e32 hO
        refine lv_iinc (v := x31) (lv' := [(7, .int x31), (6, .int x29), (5, .int s7), (0, .ref (a 0)), (1, .int s1), (2, .int s2), (3, .int s3), (4, .int s4)]) hx hb dX4_best_132 hl (k := 7) rfl (by rw [← e32]; rfl) (by decide) rfl (fun ls hl => ?_)
        refine lv_goto (tgt := 64) hx hb dX4_best_135 (by decide) ?_
        exact ih q24 s7 x29 x31 H locs ls hP hD hS (lv_sub hl [3, 4, 5, 6, 7, 2, 1, 0] rfl) hO hF

def fX4_best (x : tMs) (s1 : Int32) (s2 : Int32) (s3 : Int32) (s4 : Int32) : Int32 × tMs := lt_ (fX4_comes x s1) fun q2 => if q2 = 0 then ((-1), x) else (lt_ (fX4_in (Int32.toInt64 s2) 0 999) fun q6 => if q6 = 0 then ((-2), x) else (lt_ (fX4_in (Int32.toInt64 s3) (Int32.toInt64 s2) 999) fun q10 => if q10 = 0 then ((-2), x) else (lt_ (fX4_in (Int32.toInt64 s4) 0 1) fun q14 => if q14 = 0 then ((-2), x) else (lt_ (fX4_layNow x) fun q18 => fX4_best_64 s1 s3 s4 1001 q18 (-6) 1000000000 s2))))
def oX4_best (x : tMs) (s1 : Int32) (s2 : Int32) (s3 : Int32) (s4 : Int32) : Prop := oX4_comes x s1 ∧ (lo_ (fX4_comes x s1) fun q2 => if q2 = 0 then True else (lo_ (fX4_in (Int32.toInt64 s2) 0 999) fun q6 => if q6 = 0 then True else (lo_ (fX4_in (Int32.toInt64 s3) (Int32.toInt64 s2) 999) fun q10 => if q10 = 0 then True else (lo_ (fX4_in (Int32.toInt64 s4) 0 1) fun q14 => if q14 = 0 then True else (oX4_layNow x ∧ (lo_ (fX4_layNow x) fun q18 => oX4_best_64 s1 s3 s4 1001 q18 (-6) 1000000000 s2))))))
theorem kvX4_best : KV yX4_best cX4_best 8 (some .int) 4 := ⟨wcd_X4_best, wim_X4_best, wsl_X4_best, win_X4, by decide +kernel, by decide +kernel, by decide +kernel⟩
set_option maxHeartbeats 4000000 in
set_option maxRecDepth 100000 in
theorem kX4_best (l : Launch) (D : va_G) (cy : Nat → ClassId) (a : Nat → Nat) (x : tMs) (s1 : Int32) (s2 : Int32) (s3 : Int32) (s4 : Int32) {R : Int32 × tMs} (hO : oX4_best x s1 s2 s3 s4) (hF : fX4_best x s1 s2 s3 s4 = R) : CT l D cy yX4_best cX4_best 8 (some .int) rX4_best [.ref (a 0), .int s1, .int s2, .int s3, .int s4] (gwM cy a x) (some (.int R.1)) (gwM cy a R.2) := by
  refine ct_of (by decide) (Nat.le_of_ble_eq_true rfl) ?_
  intro p e s m args below meth c A ls hM hK hP hD hS hl
  obtain ⟨hx, hb, -, hml, hown, hts, -⟩ := id hM
  have hl : lv_has ls 8 [(0, .ref (a 0)), (1, .int s1), (2, .int s2), (3, .int s3), (4, .int s4)] := hl
  obtain ⟨H, hH⟩ : ∃ H : Heap, H = s.heap := ⟨_, rfl⟩
  obtain ⟨locs, hlocs⟩ : ∃ q : List Loc, q = [] := ⟨_, rfl⟩
  have hP : va_P D classes (gwM cy a x) H := by rw [hH]; exact hP
  have hS : va_S A s.heap H locs := by rw [hH, hlocs]; exact hS
  suffices hg : W p l e rX4_best s m args below meth c H locs 0 0 (MQ below (ctQ D (some (.int R.1)) (gwM cy a R.2) A) args s 0 0 A) (F0 m 0 ls []) by rw [hH, hlocs] at hg; exact hg
  clear hH hlocs
  unfold fX4_best at hF
  unfold oX4_best at hO
  refine lv_aload_n hx hb dX4_best_0 rfl (lv_at hl 0 rfl) ?_
  refine lv_iload_n hx hb dX4_best_1 rfl (lv_at hl 1 rfl) ?_
  obtain ⟨h1, hO⟩ := hO
  obtain ⟨q2, e3⟩ : ∃ q, fX4_comes x s1 = q := ⟨_, rfl⟩
  have hF := lt_n e3 hF
  try have hO := lo_n e3 hO
  refine ct_callF hM hK hP hD hS (kX4_comes l D cy a x s1 h1 e3) kvX4_comes wml_X4_80 rfl 0 rfl rfl rfl rfl hl.1 rfl ⟨rfl, rfl, Nat.le_of_ble_eq_true rfl, Nat.le_of_ble_eq_true rfl⟩ (Nat.le_of_ble_eq_true rfl) ⟨Nat.zero_le _, Nat.zero_le _⟩ dX4_best_2 (fun H locs hP hD hS => ?_)
  refine W.eq (g2 := F0 m 5 ls [.int q2]) rfl ?_
  refine lv_if_ne (tgt := 10) hx hb dX4_best_5 (by decide) (fun c4 => ?_) (fun c4 => ?_)
  · have hF := lt_f c4 hF
    have hO := lo_f c4 hO
    refine lv_iload_n hx hb dX4_best_10 rfl (lv_at hl 2 rfl) ?_
    refine lv_i2l (v := Int32.toInt64 s2) hx hb dX4_best_11 rfl ?_
    refine lv_lconst (v := 0) hx hb dX4_best_12 rfl ?_
    refine lv_ldc2 (v := 999) hx hb hown (hts _ wct_X4_72) dX4_best_13 ?_
    obtain ⟨q6, e7⟩ : ∃ q, fX4_in (Int32.toInt64 s2) 0 999 = q := ⟨_, rfl⟩
    have hF := lt_n e7 hF
    try have hO := lo_n e7 hO
    refine ct_callS hM hK hP hD hS (kX4_in l D cy (Int32.toInt64 s2) 0 999 trivial e7) kvX4_in wml_X4_59 rfl hl.1 rfl ⟨rfl, rfl, Nat.le_of_ble_eq_true rfl, Nat.le_of_ble_eq_true rfl⟩ (Nat.le_of_ble_eq_true rfl) ⟨Nat.zero_le _, Nat.zero_le _⟩ dX4_best_16 (fun H locs hP hD hS => ?_)
    refine W.eq (g2 := F0 m 19 ls [.int q6]) rfl ?_
    have hP : va_P D classes (gwM cy a x) H := hP
    have hD : va_D A (gwM cy a x) := hD
    refine lv_if_eq (tgt := 46) hx hb dX4_best_19 (by decide) (fun c8 => ?_) (fun c8 => ?_)
    · have hF := lt_t c8 hF
      have hO := lo_t c8 hO
      refine lv_bipush (v := (-2)) hx hb dX4_best_46 (by decide) ?_
      subst hF
      exact ct_iret hM hP hS dX4_best_48
    · have hF := lt_f c8 hF
      have hO := lo_f c8 hO
      refine lv_iload_n hx hb dX4_best_22 rfl (lv_at hl 3 rfl) ?_
      refine lv_i2l (v := Int32.toInt64 s3) hx hb dX4_best_23 rfl ?_
      refine lv_iload_n hx hb dX4_best_24 rfl (lv_at hl 2 rfl) ?_
      refine lv_i2l (v := Int32.toInt64 s2) hx hb dX4_best_25 rfl ?_
      refine lv_ldc2 (v := 999) hx hb hown (hts _ wct_X4_72) dX4_best_26 ?_
      obtain ⟨q10, e11⟩ : ∃ q, fX4_in (Int32.toInt64 s3) (Int32.toInt64 s2) 999 = q := ⟨_, rfl⟩
      have hF := lt_n e11 hF
      try have hO := lo_n e11 hO
      refine ct_callS hM hK hP hD hS (kX4_in l D cy (Int32.toInt64 s3) (Int32.toInt64 s2) 999 trivial e11) kvX4_in wml_X4_59 rfl hl.1 rfl ⟨rfl, rfl, Nat.le_of_ble_eq_true rfl, Nat.le_of_ble_eq_true rfl⟩ (Nat.le_of_ble_eq_true rfl) ⟨Nat.zero_le _, Nat.zero_le _⟩ dX4_best_29 (fun H locs hP hD hS => ?_)
      refine W.eq (g2 := F0 m 32 ls [.int q10]) rfl ?_
      have hP : va_P D classes (gwM cy a x) H := hP
      have hD : va_D A (gwM cy a x) := hD
      refine lv_if_eq (tgt := 46) hx hb dX4_best_32 (by decide) (fun c12 => ?_) (fun c12 => ?_)
      · have hF := lt_t c12 hF
        have hO := lo_t c12 hO
        refine lv_bipush (v := (-2)) hx hb dX4_best_46 (by decide) ?_
        subst hF
        exact ct_iret hM hP hS dX4_best_48
      · have hF := lt_f c12 hF
        have hO := lo_f c12 hO
        refine lv_iload hx hb dX4_best_35 (lv_at hl 4 rfl) ?_
        refine lv_i2l (v := Int32.toInt64 s4) hx hb dX4_best_37 rfl ?_
        refine lv_lconst (v := 0) hx hb dX4_best_38 rfl ?_
        refine lv_lconst (v := 1) hx hb dX4_best_39 rfl ?_
        obtain ⟨q14, e15⟩ : ∃ q, fX4_in (Int32.toInt64 s4) 0 1 = q := ⟨_, rfl⟩
        have hF := lt_n e15 hF
        try have hO := lo_n e15 hO
        refine ct_callS hM hK hP hD hS (kX4_in l D cy (Int32.toInt64 s4) 0 1 trivial e15) kvX4_in wml_X4_59 rfl hl.1 rfl ⟨rfl, rfl, Nat.le_of_ble_eq_true rfl, Nat.le_of_ble_eq_true rfl⟩ (Nat.le_of_ble_eq_true rfl) ⟨Nat.zero_le _, Nat.zero_le _⟩ dX4_best_40 (fun H locs hP hD hS => ?_)
        refine W.eq (g2 := F0 m 43 ls [.int q14]) rfl ?_
        have hP : va_P D classes (gwM cy a x) H := hP
        have hD : va_D A (gwM cy a x) := hD
        refine lv_if_ne (tgt := 49) hx hb dX4_best_43 (by decide) (fun c16 => ?_) (fun c16 => ?_)
        · have hF := lt_f c16 hF
          have hO := lo_f c16 hO
          refine lv_aload_n hx hb dX4_best_49 rfl (lv_at hl 0 rfl) ?_
          obtain ⟨h17, hO⟩ := hO
          obtain ⟨q18, e19⟩ : ∃ q, fX4_layNow x = q := ⟨_, rfl⟩
          have hF := lt_n e19 hF
          try have hO := lo_n e19 hO
          refine ct_callF hM hK hP hD hS (kX4_layNow l D cy a x h17 e19) kvX4_layNow wml_X4_124 rfl 0 rfl rfl rfl rfl hl.1 rfl ⟨rfl, rfl, Nat.le_of_ble_eq_true rfl, Nat.le_of_ble_eq_true rfl⟩ (Nat.le_of_ble_eq_true rfl) ⟨Nat.zero_le _, Nat.zero_le _⟩ dX4_best_50 (fun H locs hP hD hS => ?_)
          refine W.eq (g2 := F0 m 53 ls []) rfl ?_
          have hP : va_P D classes (gwM cy a q18) H := hP
          have hD : va_D A (gwM cy a q18) := hD
          refine lv_bipush (v := (-6)) hx hb dX4_best_53 (by decide) ?_
          refine lv_istore (lv' := [(5, .int (-6)), (0, .ref (a 0)), (1, .int s1), (2, .int s2), (3, .int s3), (4, .int s4)]) hx hb dX4_best_55 hl (by decide) rfl (fun ls hl => ?_)
          refine lv_ldc (v := 1000000000) hx hb hown (hts _ wct_X4_114) dX4_best_57 ?_
          refine lv_istore (lv' := [(6, .int 1000000000), (5, .int (-6)), (0, .ref (a 0)), (1, .int s1), (2, .int s2), (3, .int s3), (4, .int s4)]) hx hb dX4_best_59 hl (by decide) rfl (fun ls hl => ?_)
          refine lv_iload_n hx hb dX4_best_61 rfl (lv_at hl 4 rfl) ?_
          refine lv_istore (lv' := [(7, .int s2), (6, .int 1000000000), (5, .int (-6)), (0, .ref (a 0)), (1, .int s1), (2, .int s2), (3, .int s3), (4, .int s4)]) hx hb dX4_best_62 hl (by decide) rfl (fun ls hl => ?_)
          exact tX4_best_64 hM hK 1001 q18 (-6) 1000000000 s2 H locs ls hP hD hS (lv_sub hl [3, 4, 5, 6, 7, 2, 1, 0] rfl) hO hF
        · have hF := lt_t c16 hF
          have hO := lo_t c16 hO
          refine lv_bipush (v := (-2)) hx hb dX4_best_46 (by decide) ?_
          subst hF
          exact ct_iret hM hP hS dX4_best_48
  · have hF := lt_t c4 hF
    have hO := lo_t c4 hO
    refine lv_iconst (v := (-1)) hx hb dX4_best_8 (by decide) ?_
    subst hF
    exact ct_iret hM hP hS dX4_best_9

abbrev rX4_walk : Room := { frames := 4, cells := 0, slots := 0, locals := 99 }
def fX4_walk_50 (s1 : Int32) (s2 : Int32) (s3 : Int32) : Nat → tMs → Int32 → Int32 → Int32 → Int32 × tMs
  | 0, x, s4, s5, s6 => (0, x)
  | n + 1, x, s4, s5, s6 => if 10 ≤ s6 then (if s3 = 0 then (s4, x) else (s5, x)) else (if ((m_mi x) (Int32.toNatClampNeg s1) + s6) ≤ 99 then (lt_ ((m_mi x) (Int32.toNatClampNeg s1) + s6) fun x20 => lt_ ((m_mn x) (Int32.toNatClampNeg s1) + (s2 * s6)) fun x22 => lt_ (fX4_go (m_co x, m_mi x, m_mn x, m_pa x, m_ca x, m_dr x, m_fa x, m_st x, m_ha x, m_pd x, m_pn x, upd (m_fr x) (Int32.toNatClampNeg s1) x20, upd (m_at x) (Int32.toNatClampNeg s1) x22, m_wa x, m_en x, m_to x, m_or x, m_my x, m_bf x, m_bs x, m_kp x, m_ik x, m_ka x, m_iw x) (m_co x) 99) fun q25 => if s5 ≤ (m_en q25) (Int32.toNatClampNeg s1) then (lt_ (s6 + 1) fun x28 => fX4_walk_50 s1 s2 s3 n q25 s4 s5 x28) else (lt_ ((m_en q25) (Int32.toNatClampNeg s1)) fun x30 => lt_ (s6 + 1) fun x32 => fX4_walk_50 s1 s2 s3 n q25 s6 x30 x32)) else (lt_ ((m_mn x) (Int32.toNatClampNeg s1) + (s2 * s6)) fun x34 => lt_ (fX4_go (m_co x, m_mi x, m_mn x, m_pa x, m_ca x, m_dr x, m_fa x, m_st x, m_ha x, m_pd x, m_pn x, upd (m_fr x) (Int32.toNatClampNeg s1) 99, upd (m_at x) (Int32.toNatClampNeg s1) x34, m_wa x, m_en x, m_to x, m_or x, m_my x, m_bf x, m_bs x, m_kp x, m_ik x, m_ka x, m_iw x) (m_co x) 99) fun q37 => if s5 ≤ (m_en q37) (Int32.toNatClampNeg s1) then (lt_ (s6 + 1) fun x40 => fX4_walk_50 s1 s2 s3 n q37 s4 s5 x40) else (lt_ ((m_en q37) (Int32.toNatClampNeg s1)) fun x42 => lt_ (s6 + 1) fun x44 => fX4_walk_50 s1 s2 s3 n q37 s6 x42 x44)))
def oX4_walk_50 (s1 : Int32) (s2 : Int32) (s3 : Int32) : Nat → tMs → Int32 → Int32 → Int32 → Prop
  | 0, _, _, _, _ => False
  | n + 1, x, s4, s5, s6 => if 10 ≤ s6 then True else (vp_in s1 8 ∧ (if ((m_mi x) (Int32.toNatClampNeg s1) + s6) ≤ 99 then (lo_ ((m_mi x) (Int32.toNatClampNeg s1) + s6) fun x20 => lo_ ((m_mn x) (Int32.toNatClampNeg s1) + (s2 * s6)) fun x22 => oX4_go (m_co x, m_mi x, m_mn x, m_pa x, m_ca x, m_dr x, m_fa x, m_st x, m_ha x, m_pd x, m_pn x, upd (m_fr x) (Int32.toNatClampNeg s1) x20, upd (m_at x) (Int32.toNatClampNeg s1) x22, m_wa x, m_en x, m_to x, m_or x, m_my x, m_bf x, m_bs x, m_kp x, m_ik x, m_ka x, m_iw x) (m_co x) 99 ∧ (lo_ (fX4_go (m_co x, m_mi x, m_mn x, m_pa x, m_ca x, m_dr x, m_fa x, m_st x, m_ha x, m_pd x, m_pn x, upd (m_fr x) (Int32.toNatClampNeg s1) x20, upd (m_at x) (Int32.toNatClampNeg s1) x22, m_wa x, m_en x, m_to x, m_or x, m_my x, m_bf x, m_bs x, m_kp x, m_ik x, m_ka x, m_iw x) (m_co x) 99) fun q25 => if s5 ≤ (m_en q25) (Int32.toNatClampNeg s1) then (lo_ (s6 + 1) fun x28 => oX4_walk_50 s1 s2 s3 n q25 s4 s5 x28) else (lo_ ((m_en q25) (Int32.toNatClampNeg s1)) fun x30 => lo_ (s6 + 1) fun x32 => oX4_walk_50 s1 s2 s3 n q25 s6 x30 x32))) else (lo_ ((m_mn x) (Int32.toNatClampNeg s1) + (s2 * s6)) fun x34 => oX4_go (m_co x, m_mi x, m_mn x, m_pa x, m_ca x, m_dr x, m_fa x, m_st x, m_ha x, m_pd x, m_pn x, upd (m_fr x) (Int32.toNatClampNeg s1) 99, upd (m_at x) (Int32.toNatClampNeg s1) x34, m_wa x, m_en x, m_to x, m_or x, m_my x, m_bf x, m_bs x, m_kp x, m_ik x, m_ka x, m_iw x) (m_co x) 99 ∧ (lo_ (fX4_go (m_co x, m_mi x, m_mn x, m_pa x, m_ca x, m_dr x, m_fa x, m_st x, m_ha x, m_pd x, m_pn x, upd (m_fr x) (Int32.toNatClampNeg s1) 99, upd (m_at x) (Int32.toNatClampNeg s1) x34, m_wa x, m_en x, m_to x, m_or x, m_my x, m_bf x, m_bs x, m_kp x, m_ik x, m_ka x, m_iw x) (m_co x) 99) fun q37 => if s5 ≤ (m_en q37) (Int32.toNatClampNeg s1) then (lo_ (s6 + 1) fun x40 => oX4_walk_50 s1 s2 s3 n q37 s4 s5 x40) else (lo_ ((m_en q37) (Int32.toNatClampNeg s1)) fun x42 => lo_ (s6 + 1) fun x44 => oX4_walk_50 s1 s2 s3 n q37 s6 x42 x44)))))
set_option maxHeartbeats 4000000 in
set_option maxRecDepth 100000 in
theorem tX4_walk_50 {p : Program} {l : Launch} {e : Env} {s : State} {m : MethodId} {args : Array Value} {below : List Frame} {meth : Method} {c : Code} {A : Nat → Prop} {D : va_G} {cy : Nat → ClassId} {a : Nat → Nat} {s1 : Int32} {s2 : Int32} {s3 : Int32} {R : Int32 × tMs} (hM : MC p s m args meth c RX4 cX4_walk 7 (some .int)) (hK : va_K D classes (ctT cy) s) :
    ∀ (n : Nat) (x : tMs) (s4 : Int32) (s5 : Int32) (s6 : Int32) (H : Heap) (locs : List Loc) (ls : Array Slot), va_P D classes (gwM cy a x) H → va_D A (gwM cy a x) → va_S A s.heap H locs → lv_has ls 7 [(0, .ref (a 0)), (1, .int s1), (2, .int s2), (3, .int s3), (4, .int s4), (5, .int s5), (6, .int s6)] → oX4_walk_50 s1 s2 s3 n x s4 s5 s6 → fX4_walk_50 s1 s2 s3 n x s4 s5 s6 = R → W p l e rX4_walk s m args below meth c H locs 0 0 (MQ below (ctQ D (some (.int R.1)) (gwM cy a R.2) A) args s 0 0 A) (F0 m 50 ls []) := by
  obtain ⟨hx, hb, -, hml, hown, hts, -⟩ := id hM
  intro n
  induction n with
  | zero =>
    intro x s4 s5 s6 H locs ls hP hD hS hl hO hF
    exact False.elim hO
  | succ n ih =>
    intro x s4 s5 s6 H locs ls hP hD hS hl hO hF
    rw [fX4_walk_50] at hF
    rw [oX4_walk_50] at hO
    refine lv_iload hx hb dX4_walk_50 (lv_at hl 6 rfl) ?_
    refine lv_bipush (v := 10) hx hb dX4_walk_52 (by decide) ?_
    refine lv_icmp_ge (tgt := 168) hx hb dX4_walk_54 (by decide) (fun c16 => ?_) (fun c16 => ?_)
    · have hF := lt_t c16 hF
      have hO := lo_t c16 hO
      refine lv_iload_n hx hb dX4_walk_168 rfl (lv_at hl 3 rfl) ?_
      refine lv_if_ne (tgt := 177) hx hb dX4_walk_169 (by decide) (fun c17 => ?_) (fun c17 => ?_)
      · have hF := lt_f c17 hF
        refine lv_iload hx hb dX4_walk_177 (lv_at hl 5 rfl) ?_
        subst hF
        exact ct_iret hM hP hS dX4_walk_179
      · have hF := lt_t c17 hF
        refine lv_iload hx hb dX4_walk_172 (lv_at hl 4 rfl) ?_
        refine lv_goto (tgt := 179) hx hb dX4_walk_174 (by decide) ?_
        subst hF
        exact ct_iret hM hP hS dX4_walk_179
    · have hF := lt_f c16 hF
      have hO := lo_f c16 hO
      refine lv_aload_n hx hb dX4_walk_57 rfl (lv_at hl 0 rfl) ?_
      refine ct_get (C := RX4) (T := TX4) (N := 24) (ci := 4) (v := .ref (a 6)) hM hK hP inX4 0 rfl rfl 11 (by decide) wfl_X4_25 rfl dX4_walk_58 ?_
      refine lv_iload_n hx hb dX4_walk_61 rfl (lv_at hl 1 rfl) ?_
      refine lv_aload_n hx hb dX4_walk_62 rfl (lv_at hl 0 rfl) ?_
      refine ct_get (C := RX4) (T := TX4) (N := 24) (ci := 4) (v := .ref (a 1)) hM hK hP inX4 0 rfl rfl 1 (by decide) wfl_X4_7 rfl dX4_walk_63 ?_
      refine lv_iload_n hx hb dX4_walk_66 rfl (lv_at hl 1 rfl) ?_
      obtain ⟨h18, hO⟩ := hO
      refine va_iald hx hb hK hP 1 0 (f := m_mi x) (n := 8) (cA := cy 0) rfl rfl h18 dX4_walk_67 ?_
      refine lv_iload hx hb dX4_walk_68 (lv_at hl 6 rfl) ?_
      refine lv_iadd hx hb dX4_walk_70 ?_
      refine lv_bipush (v := 99) hx hb dX4_walk_71 (by decide) ?_
      refine lv_icmp_le (tgt := 81) hx hb dX4_walk_73 (by decide) (fun c19 => ?_) (fun c19 => ?_)
      · have hF := lt_t c19 hF
        have hO := lo_t c19 hO
        refine lv_aload_n hx hb dX4_walk_81 rfl (lv_at hl 0 rfl) ?_
        refine ct_get (C := RX4) (T := TX4) (N := 24) (ci := 4) (v := .ref (a 1)) hM hK hP inX4 0 rfl rfl 1 (by decide) wfl_X4_7 rfl dX4_walk_82 ?_
        refine lv_iload_n hx hb dX4_walk_85 rfl (lv_at hl 1 rfl) ?_
        refine va_iald hx hb hK hP 1 0 (f := m_mi x) (n := 8) (cA := cy 0) rfl rfl h18 dX4_walk_86 ?_
        refine lv_iload hx hb dX4_walk_87 (lv_at hl 6 rfl) ?_
        refine lv_iadd hx hb dX4_walk_89 ?_
        refine lv_topi (fun x20 e21 => ?_)
        have hF := lt_n e21.symm hF
        try have hO := lo_n e21.symm hO
        refine va_iast hx hb hK hP hD hS 6 0 (f := m_fr x) (n := 8) (cA := cy 0) rfl rfl h18 dX4_walk_90 (fun H locs hP hD hS => ?_)
        have hP : va_P D classes (gwM cy a (m_co x, m_mi x, m_mn x, m_pa x, m_ca x, m_dr x, m_fa x, m_st x, m_ha x, m_pd x, m_pn x, upd (m_fr x) (Int32.toNatClampNeg s1) x20, m_at x, m_wa x, m_en x, m_to x, m_or x, m_my x, m_bf x, m_bs x, m_kp x, m_ik x, m_ka x, m_iw x)) H := hP
        have hD : va_D A (gwM cy a (m_co x, m_mi x, m_mn x, m_pa x, m_ca x, m_dr x, m_fa x, m_st x, m_ha x, m_pd x, m_pn x, upd (m_fr x) (Int32.toNatClampNeg s1) x20, m_at x, m_wa x, m_en x, m_to x, m_or x, m_my x, m_bf x, m_bs x, m_kp x, m_ik x, m_ka x, m_iw x)) := hD
        refine lv_aload_n hx hb dX4_walk_91 rfl (lv_at hl 0 rfl) ?_
        refine ct_get (C := RX4) (T := TX4) (N := 24) (ci := 4) (v := .ref (a 7)) hM hK hP inX4 0 rfl rfl 12 (by decide) wfl_X4_28 rfl dX4_walk_92 ?_
        refine lv_iload_n hx hb dX4_walk_95 rfl (lv_at hl 1 rfl) ?_
        refine lv_aload_n hx hb dX4_walk_96 rfl (lv_at hl 0 rfl) ?_
        refine ct_get (C := RX4) (T := TX4) (N := 24) (ci := 4) (v := .ref (a 2)) hM hK hP inX4 0 rfl rfl 2 (by decide) wfl_X4_13 rfl dX4_walk_97 ?_
        refine lv_iload_n hx hb dX4_walk_100 rfl (lv_at hl 1 rfl) ?_
        refine va_iald hx hb hK hP 2 0 (f := m_mn x) (n := 8) (cA := cy 0) rfl rfl h18 dX4_walk_101 ?_
        refine lv_iload_n hx hb dX4_walk_102 rfl (lv_at hl 2 rfl) ?_
        refine lv_iload hx hb dX4_walk_103 (lv_at hl 6 rfl) ?_
        refine lv_imul hx hb dX4_walk_105 ?_
        refine lv_iadd hx hb dX4_walk_106 ?_
        refine lv_topi (fun x22 e23 => ?_)
        have hF := lt_n e23.symm hF
        try have hO := lo_n e23.symm hO
        refine va_iast hx hb hK hP hD hS 7 0 (f := m_at x) (n := 8) (cA := cy 0) rfl rfl h18 dX4_walk_107 (fun H locs hP hD hS => ?_)
        have hP : va_P D classes (gwM cy a (m_co x, m_mi x, m_mn x, m_pa x, m_ca x, m_dr x, m_fa x, m_st x, m_ha x, m_pd x, m_pn x, upd (m_fr x) (Int32.toNatClampNeg s1) x20, upd (m_at x) (Int32.toNatClampNeg s1) x22, m_wa x, m_en x, m_to x, m_or x, m_my x, m_bf x, m_bs x, m_kp x, m_ik x, m_ka x, m_iw x)) H := hP
        have hD : va_D A (gwM cy a (m_co x, m_mi x, m_mn x, m_pa x, m_ca x, m_dr x, m_fa x, m_st x, m_ha x, m_pd x, m_pn x, upd (m_fr x) (Int32.toNatClampNeg s1) x20, upd (m_at x) (Int32.toNatClampNeg s1) x22, m_wa x, m_en x, m_to x, m_or x, m_my x, m_bf x, m_bs x, m_kp x, m_ik x, m_ka x, m_iw x)) := hD
        refine lv_aload_n hx hb dX4_walk_108 rfl (lv_at hl 0 rfl) ?_
        refine lv_aload_n hx hb dX4_walk_109 rfl (lv_at hl 0 rfl) ?_
        refine ct_get (C := RX4) (T := TX4) (N := 24) (ci := 4) (v := .int (m_co x)) hM hK hP inX4 0 rfl rfl 0 (by decide) wfl_X4_67 rfl dX4_walk_110 ?_
        refine lv_bipush (v := 99) hx hb dX4_walk_113 (by decide) ?_
        obtain ⟨h24, hO⟩ := hO
        obtain ⟨q25, e26⟩ : ∃ q, fX4_go (m_co x, m_mi x, m_mn x, m_pa x, m_ca x, m_dr x, m_fa x, m_st x, m_ha x, m_pd x, m_pn x, upd (m_fr x) (Int32.toNatClampNeg s1) x20, upd (m_at x) (Int32.toNatClampNeg s1) x22, m_wa x, m_en x, m_to x, m_or x, m_my x, m_bf x, m_bs x, m_kp x, m_ik x, m_ka x, m_iw x) (m_co x) 99 = q := ⟨_, rfl⟩
        have hF := lt_n e26 hF
        try have hO := lo_n e26 hO
        refine ct_callF hM hK hP hD hS (kX4_go l D cy a (m_co x, m_mi x, m_mn x, m_pa x, m_ca x, m_dr x, m_fa x, m_st x, m_ha x, m_pd x, m_pn x, upd (m_fr x) (Int32.toNatClampNeg s1) x20, upd (m_at x) (Int32.toNatClampNeg s1) x22, m_wa x, m_en x, m_to x, m_or x, m_my x, m_bf x, m_bs x, m_kp x, m_ik x, m_ka x, m_iw x) (m_co x) 99 h24 e26) kvX4_go wml_X4_127 rfl 0 rfl rfl rfl rfl hl.1 rfl ⟨rfl, rfl, Nat.le_of_ble_eq_true rfl, Nat.le_of_ble_eq_true rfl⟩ (Nat.le_of_ble_eq_true rfl) ⟨Nat.zero_le _, Nat.zero_le _⟩ dX4_walk_115 (fun H locs hP hD hS => ?_)
        refine W.eq (g2 := F0 m 118 ls []) rfl ?_
        have hP : va_P D classes (gwM cy a q25) H := hP
        have hD : va_D A (gwM cy a q25) := hD
        refine lv_aload_n hx hb dX4_walk_118 rfl (lv_at hl 0 rfl) ?_
        refine ct_get (C := RX4) (T := TX4) (N := 24) (ci := 4) (v := .ref (a 9)) hM hK hP inX4 0 rfl rfl 14 (by decide) wfl_X4_34 rfl dX4_walk_119 ?_
        refine lv_iload_n hx hb dX4_walk_122 rfl (lv_at hl 1 rfl) ?_
        refine va_iald hx hb hK hP 9 0 (f := m_en q25) (n := 8) (cA := cy 0) rfl rfl h18 dX4_walk_123 ?_
        refine lv_iload hx hb dX4_walk_124 (lv_at hl 5 rfl) ?_
        refine lv_icmp_ge (tgt := 134) hx hb dX4_walk_126 (by decide) (fun c27 => ?_) (fun c27 => ?_)
        · have hF := lt_t c27 hF
          have hO := lo_t c27 hO
          refine lv_iload hx hb dX4_walk_134 (lv_at hl 4 rfl) ?_
          refine lv_istore (lv' := [(4, .int s4), (0, .ref (a 0)), (1, .int s1), (2, .int s2), (3, .int s3), (5, .int s5), (6, .int s6)]) hx hb dX4_walk_136 hl (by decide) rfl (fun ls hl => ?_)
          refine lv_aload_n hx hb dX4_walk_138 rfl (lv_at hl 1 rfl) ?_
          refine ct_get (C := RX4) (T := TX4) (N := 24) (ci := 4) (v := .ref (a 9)) hM hK hP inX4 0 rfl rfl 14 (by decide) wfl_X4_34 rfl dX4_walk_139 ?_
          refine lv_iload_n hx hb dX4_walk_142 rfl (lv_at hl 2 rfl) ?_
          refine va_iald hx hb hK hP 9 0 (f := m_en q25) (n := 8) (cA := cy 0) rfl rfl h18 dX4_walk_143 ?_
          refine lv_iload hx hb dX4_walk_144 (lv_at hl 5 rfl) ?_
          refine lv_icmp_ge (tgt := 158) hx hb dX4_walk_146 (by decide) (fun _ => ?_) (fun z => absurd c27 z)
          refine lv_iload hx hb dX4_walk_158 (lv_at hl 5 rfl) ?_
          refine lv_istore (lv' := [(5, .int s5), (4, .int s4), (0, .ref (a 0)), (1, .int s1), (2, .int s2), (3, .int s3), (6, .int s6)]) hx hb dX4_walk_160 hl (by decide) rfl (fun ls hl => ?_)
          obtain ⟨x28, e29⟩ : ∃ y : Int32, s6 + 1 = y := ⟨_, rfl⟩
          have hF := lt_n e29 hF
          try have hO := lo_n e29 hO
          refine lv_iinc (v := x28) (lv' := [(6, .int x28), (5, .int s5), (4, .int s4), (0, .ref (a 0)), (1, .int s1), (2, .int s2), (3, .int s3)]) hx hb dX4_walk_162 hl (k := 6) rfl (by rw [← e29]; rfl) (by decide) rfl (fun ls hl => ?_)
          refine lv_goto (tgt := 50) hx hb dX4_walk_165 (by decide) ?_
          exact ih q25 s4 s5 x28 H locs ls hP hD hS (lv_sub hl [3, 4, 5, 6, 2, 1, 0] rfl) hO hF
        · have hF := lt_f c27 hF
          have hO := lo_f c27 hO
          refine lv_iload hx hb dX4_walk_129 (lv_at hl 6 rfl) ?_
          refine lv_goto (tgt := 136) hx hb dX4_walk_131 (by decide) ?_
          refine lv_istore (lv' := [(4, .int s6), (0, .ref (a 0)), (1, .int s1), (2, .int s2), (3, .int s3), (5, .int s5), (6, .int s6)]) hx hb dX4_walk_136 hl (by decide) rfl (fun ls hl => ?_)
          refine lv_aload_n hx hb dX4_walk_138 rfl (lv_at hl 1 rfl) ?_
          refine ct_get (C := RX4) (T := TX4) (N := 24) (ci := 4) (v := .ref (a 9)) hM hK hP inX4 0 rfl rfl 14 (by decide) wfl_X4_34 rfl dX4_walk_139 ?_
          refine lv_iload_n hx hb dX4_walk_142 rfl (lv_at hl 2 rfl) ?_
          refine va_iald hx hb hK hP 9 0 (f := m_en q25) (n := 8) (cA := cy 0) rfl rfl h18 dX4_walk_143 ?_
          refine lv_iload hx hb dX4_walk_144 (lv_at hl 5 rfl) ?_
          refine lv_icmp_ge (tgt := 158) hx hb dX4_walk_146 (by decide) (fun z => absurd z c27) (fun _ => ?_)
          refine lv_aload_n hx hb dX4_walk_149 rfl (lv_at hl 1 rfl) ?_
          refine ct_get (C := RX4) (T := TX4) (N := 24) (ci := 4) (v := .ref (a 9)) hM hK hP inX4 0 rfl rfl 14 (by decide) wfl_X4_34 rfl dX4_walk_150 ?_
          refine lv_iload_n hx hb dX4_walk_153 rfl (lv_at hl 2 rfl) ?_
          refine va_iald hx hb hK hP 9 0 (f := m_en q25) (n := 8) (cA := cy 0) rfl rfl h18 dX4_walk_154 ?_
          refine lv_goto (tgt := 160) hx hb dX4_walk_155 (by decide) ?_
          refine lv_topi (fun x30 e31 => ?_)
          have hF := lt_n e31.symm hF
          try have hO := lo_n e31.symm hO
          refine lv_istore (lv' := [(5, .int x30), (4, .int s6), (0, .ref (a 0)), (1, .int s1), (2, .int s2), (3, .int s3), (6, .int s6)]) hx hb dX4_walk_160 hl (by decide) rfl (fun ls hl => ?_)
          obtain ⟨x32, e33⟩ : ∃ y : Int32, s6 + 1 = y := ⟨_, rfl⟩
          have hF := lt_n e33 hF
          try have hO := lo_n e33 hO
          refine lv_iinc (v := x32) (lv' := [(6, .int x32), (5, .int x30), (4, .int s6), (0, .ref (a 0)), (1, .int s1), (2, .int s2), (3, .int s3)]) hx hb dX4_walk_162 hl (k := 6) rfl (by rw [← e33]; rfl) (by decide) rfl (fun ls hl => ?_)
          refine lv_goto (tgt := 50) hx hb dX4_walk_165 (by decide) ?_
          exact ih q25 s6 x30 x32 H locs ls hP hD hS (lv_sub hl [3, 4, 5, 6, 2, 1, 0] rfl) hO hF
      · have hF := lt_f c19 hF
        have hO := lo_f c19 hO
        refine lv_bipush (v := 99) hx hb dX4_walk_76 (by decide) ?_
        refine lv_goto (tgt := 90) hx hb dX4_walk_78 (by decide) ?_
        refine va_iast hx hb hK hP hD hS 6 0 (f := m_fr x) (n := 8) (cA := cy 0) rfl rfl h18 dX4_walk_90 (fun H locs hP hD hS => ?_)
        have hP : va_P D classes (gwM cy a (m_co x, m_mi x, m_mn x, m_pa x, m_ca x, m_dr x, m_fa x, m_st x, m_ha x, m_pd x, m_pn x, upd (m_fr x) (Int32.toNatClampNeg s1) 99, m_at x, m_wa x, m_en x, m_to x, m_or x, m_my x, m_bf x, m_bs x, m_kp x, m_ik x, m_ka x, m_iw x)) H := hP
        have hD : va_D A (gwM cy a (m_co x, m_mi x, m_mn x, m_pa x, m_ca x, m_dr x, m_fa x, m_st x, m_ha x, m_pd x, m_pn x, upd (m_fr x) (Int32.toNatClampNeg s1) 99, m_at x, m_wa x, m_en x, m_to x, m_or x, m_my x, m_bf x, m_bs x, m_kp x, m_ik x, m_ka x, m_iw x)) := hD
        refine lv_aload_n hx hb dX4_walk_91 rfl (lv_at hl 0 rfl) ?_
        refine ct_get (C := RX4) (T := TX4) (N := 24) (ci := 4) (v := .ref (a 7)) hM hK hP inX4 0 rfl rfl 12 (by decide) wfl_X4_28 rfl dX4_walk_92 ?_
        refine lv_iload_n hx hb dX4_walk_95 rfl (lv_at hl 1 rfl) ?_
        refine lv_aload_n hx hb dX4_walk_96 rfl (lv_at hl 0 rfl) ?_
        refine ct_get (C := RX4) (T := TX4) (N := 24) (ci := 4) (v := .ref (a 2)) hM hK hP inX4 0 rfl rfl 2 (by decide) wfl_X4_13 rfl dX4_walk_97 ?_
        refine lv_iload_n hx hb dX4_walk_100 rfl (lv_at hl 1 rfl) ?_
        refine va_iald hx hb hK hP 2 0 (f := m_mn x) (n := 8) (cA := cy 0) rfl rfl h18 dX4_walk_101 ?_
        refine lv_iload_n hx hb dX4_walk_102 rfl (lv_at hl 2 rfl) ?_
        refine lv_iload hx hb dX4_walk_103 (lv_at hl 6 rfl) ?_
        refine lv_imul hx hb dX4_walk_105 ?_
        refine lv_iadd hx hb dX4_walk_106 ?_
        refine lv_topi (fun x34 e35 => ?_)
        have hF := lt_n e35.symm hF
        try have hO := lo_n e35.symm hO
        refine va_iast hx hb hK hP hD hS 7 0 (f := m_at x) (n := 8) (cA := cy 0) rfl rfl h18 dX4_walk_107 (fun H locs hP hD hS => ?_)
        have hP : va_P D classes (gwM cy a (m_co x, m_mi x, m_mn x, m_pa x, m_ca x, m_dr x, m_fa x, m_st x, m_ha x, m_pd x, m_pn x, upd (m_fr x) (Int32.toNatClampNeg s1) 99, upd (m_at x) (Int32.toNatClampNeg s1) x34, m_wa x, m_en x, m_to x, m_or x, m_my x, m_bf x, m_bs x, m_kp x, m_ik x, m_ka x, m_iw x)) H := hP
        have hD : va_D A (gwM cy a (m_co x, m_mi x, m_mn x, m_pa x, m_ca x, m_dr x, m_fa x, m_st x, m_ha x, m_pd x, m_pn x, upd (m_fr x) (Int32.toNatClampNeg s1) 99, upd (m_at x) (Int32.toNatClampNeg s1) x34, m_wa x, m_en x, m_to x, m_or x, m_my x, m_bf x, m_bs x, m_kp x, m_ik x, m_ka x, m_iw x)) := hD
        refine lv_aload_n hx hb dX4_walk_108 rfl (lv_at hl 0 rfl) ?_
        refine lv_aload_n hx hb dX4_walk_109 rfl (lv_at hl 0 rfl) ?_
        refine ct_get (C := RX4) (T := TX4) (N := 24) (ci := 4) (v := .int (m_co x)) hM hK hP inX4 0 rfl rfl 0 (by decide) wfl_X4_67 rfl dX4_walk_110 ?_
        refine lv_bipush (v := 99) hx hb dX4_walk_113 (by decide) ?_
        obtain ⟨h36, hO⟩ := hO
        obtain ⟨q37, e38⟩ : ∃ q, fX4_go (m_co x, m_mi x, m_mn x, m_pa x, m_ca x, m_dr x, m_fa x, m_st x, m_ha x, m_pd x, m_pn x, upd (m_fr x) (Int32.toNatClampNeg s1) 99, upd (m_at x) (Int32.toNatClampNeg s1) x34, m_wa x, m_en x, m_to x, m_or x, m_my x, m_bf x, m_bs x, m_kp x, m_ik x, m_ka x, m_iw x) (m_co x) 99 = q := ⟨_, rfl⟩
        have hF := lt_n e38 hF
        try have hO := lo_n e38 hO
        refine ct_callF hM hK hP hD hS (kX4_go l D cy a (m_co x, m_mi x, m_mn x, m_pa x, m_ca x, m_dr x, m_fa x, m_st x, m_ha x, m_pd x, m_pn x, upd (m_fr x) (Int32.toNatClampNeg s1) 99, upd (m_at x) (Int32.toNatClampNeg s1) x34, m_wa x, m_en x, m_to x, m_or x, m_my x, m_bf x, m_bs x, m_kp x, m_ik x, m_ka x, m_iw x) (m_co x) 99 h36 e38) kvX4_go wml_X4_127 rfl 0 rfl rfl rfl rfl hl.1 rfl ⟨rfl, rfl, Nat.le_of_ble_eq_true rfl, Nat.le_of_ble_eq_true rfl⟩ (Nat.le_of_ble_eq_true rfl) ⟨Nat.zero_le _, Nat.zero_le _⟩ dX4_walk_115 (fun H locs hP hD hS => ?_)
        refine W.eq (g2 := F0 m 118 ls []) rfl ?_
        have hP : va_P D classes (gwM cy a q37) H := hP
        have hD : va_D A (gwM cy a q37) := hD
        refine lv_aload_n hx hb dX4_walk_118 rfl (lv_at hl 0 rfl) ?_
        refine ct_get (C := RX4) (T := TX4) (N := 24) (ci := 4) (v := .ref (a 9)) hM hK hP inX4 0 rfl rfl 14 (by decide) wfl_X4_34 rfl dX4_walk_119 ?_
        refine lv_iload_n hx hb dX4_walk_122 rfl (lv_at hl 1 rfl) ?_
        refine va_iald hx hb hK hP 9 0 (f := m_en q37) (n := 8) (cA := cy 0) rfl rfl h18 dX4_walk_123 ?_
        refine lv_iload hx hb dX4_walk_124 (lv_at hl 5 rfl) ?_
        refine lv_icmp_ge (tgt := 134) hx hb dX4_walk_126 (by decide) (fun c39 => ?_) (fun c39 => ?_)
        · have hF := lt_t c39 hF
          have hO := lo_t c39 hO
          refine lv_iload hx hb dX4_walk_134 (lv_at hl 4 rfl) ?_
          refine lv_istore (lv' := [(4, .int s4), (0, .ref (a 0)), (1, .int s1), (2, .int s2), (3, .int s3), (5, .int s5), (6, .int s6)]) hx hb dX4_walk_136 hl (by decide) rfl (fun ls hl => ?_)
          refine lv_aload_n hx hb dX4_walk_138 rfl (lv_at hl 1 rfl) ?_
          refine ct_get (C := RX4) (T := TX4) (N := 24) (ci := 4) (v := .ref (a 9)) hM hK hP inX4 0 rfl rfl 14 (by decide) wfl_X4_34 rfl dX4_walk_139 ?_
          refine lv_iload_n hx hb dX4_walk_142 rfl (lv_at hl 2 rfl) ?_
          refine va_iald hx hb hK hP 9 0 (f := m_en q37) (n := 8) (cA := cy 0) rfl rfl h18 dX4_walk_143 ?_
          refine lv_iload hx hb dX4_walk_144 (lv_at hl 5 rfl) ?_
          refine lv_icmp_ge (tgt := 158) hx hb dX4_walk_146 (by decide) (fun _ => ?_) (fun z => absurd c39 z)
          refine lv_iload hx hb dX4_walk_158 (lv_at hl 5 rfl) ?_
          refine lv_istore (lv' := [(5, .int s5), (4, .int s4), (0, .ref (a 0)), (1, .int s1), (2, .int s2), (3, .int s3), (6, .int s6)]) hx hb dX4_walk_160 hl (by decide) rfl (fun ls hl => ?_)
          obtain ⟨x40, e41⟩ : ∃ y : Int32, s6 + 1 = y := ⟨_, rfl⟩
          have hF := lt_n e41 hF
          try have hO := lo_n e41 hO
          refine lv_iinc (v := x40) (lv' := [(6, .int x40), (5, .int s5), (4, .int s4), (0, .ref (a 0)), (1, .int s1), (2, .int s2), (3, .int s3)]) hx hb dX4_walk_162 hl (k := 6) rfl (by rw [← e41]; rfl) (by decide) rfl (fun ls hl => ?_)
          refine lv_goto (tgt := 50) hx hb dX4_walk_165 (by decide) ?_
          exact ih q37 s4 s5 x40 H locs ls hP hD hS (lv_sub hl [3, 4, 5, 6, 2, 1, 0] rfl) hO hF
        · have hF := lt_f c39 hF
          have hO := lo_f c39 hO
          refine lv_iload hx hb dX4_walk_129 (lv_at hl 6 rfl) ?_
          refine lv_goto (tgt := 136) hx hb dX4_walk_131 (by decide) ?_
          refine lv_istore (lv' := [(4, .int s6), (0, .ref (a 0)), (1, .int s1), (2, .int s2), (3, .int s3), (5, .int s5), (6, .int s6)]) hx hb dX4_walk_136 hl (by decide) rfl (fun ls hl => ?_)
          refine lv_aload_n hx hb dX4_walk_138 rfl (lv_at hl 1 rfl) ?_
          refine ct_get (C := RX4) (T := TX4) (N := 24) (ci := 4) (v := .ref (a 9)) hM hK hP inX4 0 rfl rfl 14 (by decide) wfl_X4_34 rfl dX4_walk_139 ?_
          refine lv_iload_n hx hb dX4_walk_142 rfl (lv_at hl 2 rfl) ?_
          refine va_iald hx hb hK hP 9 0 (f := m_en q37) (n := 8) (cA := cy 0) rfl rfl h18 dX4_walk_143 ?_
          refine lv_iload hx hb dX4_walk_144 (lv_at hl 5 rfl) ?_
          refine lv_icmp_ge (tgt := 158) hx hb dX4_walk_146 (by decide) (fun z => absurd z c39) (fun _ => ?_)
          refine lv_aload_n hx hb dX4_walk_149 rfl (lv_at hl 1 rfl) ?_
          refine ct_get (C := RX4) (T := TX4) (N := 24) (ci := 4) (v := .ref (a 9)) hM hK hP inX4 0 rfl rfl 14 (by decide) wfl_X4_34 rfl dX4_walk_150 ?_
          refine lv_iload_n hx hb dX4_walk_153 rfl (lv_at hl 2 rfl) ?_
          refine va_iald hx hb hK hP 9 0 (f := m_en q37) (n := 8) (cA := cy 0) rfl rfl h18 dX4_walk_154 ?_
          refine lv_goto (tgt := 160) hx hb dX4_walk_155 (by decide) ?_
          refine lv_topi (fun x42 e43 => ?_)
          have hF := lt_n e43.symm hF
          try have hO := lo_n e43.symm hO
          refine lv_istore (lv' := [(5, .int x42), (4, .int s6), (0, .ref (a 0)), (1, .int s1), (2, .int s2), (3, .int s3), (6, .int s6)]) hx hb dX4_walk_160 hl (by decide) rfl (fun ls hl => ?_)
          obtain ⟨x44, e45⟩ : ∃ y : Int32, s6 + 1 = y := ⟨_, rfl⟩
          have hF := lt_n e45 hF
          try have hO := lo_n e45 hO
          refine lv_iinc (v := x44) (lv' := [(6, .int x44), (5, .int x42), (4, .int s6), (0, .ref (a 0)), (1, .int s1), (2, .int s2), (3, .int s3)]) hx hb dX4_walk_162 hl (k := 6) rfl (by rw [← e45]; rfl) (by decide) rfl (fun ls hl => ?_)
          refine lv_goto (tgt := 50) hx hb dX4_walk_165 (by decide) ?_
          exact ih q37 s6 x42 x44 H locs ls hP hD hS (lv_sub hl [3, 4, 5, 6, 2, 1, 0] rfl) hO hF

def fX4_walk (x : tMs) (s1 : Int32) (s2 : Int32) (s3 : Int32) : Int32 × tMs := lt_ (fX4_comes x s1) fun q2 => if q2 = 0 then ((-1), x) else (lt_ (fX4_in (Int32.toInt64 s2) 1 60) fun q6 => if q6 = 0 then ((-2), x) else (lt_ (fX4_in (Int32.toInt64 s3) 0 1) fun q10 => if q10 = 0 then ((-2), x) else (lt_ (fX4_layNow x) fun q14 => fX4_walk_50 s1 s2 s3 11 q14 (-6) 1000000000 0)))
def oX4_walk (x : tMs) (s1 : Int32) (s2 : Int32) (s3 : Int32) : Prop := oX4_comes x s1 ∧ (lo_ (fX4_comes x s1) fun q2 => if q2 = 0 then True else (lo_ (fX4_in (Int32.toInt64 s2) 1 60) fun q6 => if q6 = 0 then True else (lo_ (fX4_in (Int32.toInt64 s3) 0 1) fun q10 => if q10 = 0 then True else (oX4_layNow x ∧ (lo_ (fX4_layNow x) fun q14 => oX4_walk_50 s1 s2 s3 11 q14 (-6) 1000000000 0)))))
theorem kvX4_walk : KV yX4_walk cX4_walk 7 (some .int) 3 := ⟨wcd_X4_walk, wim_X4_walk, wsl_X4_walk, win_X4, by decide +kernel, by decide +kernel, by decide +kernel⟩
set_option maxHeartbeats 4000000 in
set_option maxRecDepth 100000 in
theorem kX4_walk (l : Launch) (D : va_G) (cy : Nat → ClassId) (a : Nat → Nat) (x : tMs) (s1 : Int32) (s2 : Int32) (s3 : Int32) {R : Int32 × tMs} (hO : oX4_walk x s1 s2 s3) (hF : fX4_walk x s1 s2 s3 = R) : CT l D cy yX4_walk cX4_walk 7 (some .int) rX4_walk [.ref (a 0), .int s1, .int s2, .int s3] (gwM cy a x) (some (.int R.1)) (gwM cy a R.2) := by
  refine ct_of (by decide) (Nat.le_of_ble_eq_true rfl) ?_
  intro p e s m args below meth c A ls hM hK hP hD hS hl
  obtain ⟨hx, hb, -, hml, hown, hts, -⟩ := id hM
  have hl : lv_has ls 7 [(0, .ref (a 0)), (1, .int s1), (2, .int s2), (3, .int s3)] := hl
  obtain ⟨H, hH⟩ : ∃ H : Heap, H = s.heap := ⟨_, rfl⟩
  obtain ⟨locs, hlocs⟩ : ∃ q : List Loc, q = [] := ⟨_, rfl⟩
  have hP : va_P D classes (gwM cy a x) H := by rw [hH]; exact hP
  have hS : va_S A s.heap H locs := by rw [hH, hlocs]; exact hS
  suffices hg : W p l e rX4_walk s m args below meth c H locs 0 0 (MQ below (ctQ D (some (.int R.1)) (gwM cy a R.2) A) args s 0 0 A) (F0 m 0 ls []) by rw [hH, hlocs] at hg; exact hg
  clear hH hlocs
  unfold fX4_walk at hF
  unfold oX4_walk at hO
  refine lv_aload_n hx hb dX4_walk_0 rfl (lv_at hl 0 rfl) ?_
  refine lv_iload_n hx hb dX4_walk_1 rfl (lv_at hl 1 rfl) ?_
  obtain ⟨h1, hO⟩ := hO
  obtain ⟨q2, e3⟩ : ∃ q, fX4_comes x s1 = q := ⟨_, rfl⟩
  have hF := lt_n e3 hF
  try have hO := lo_n e3 hO
  refine ct_callF hM hK hP hD hS (kX4_comes l D cy a x s1 h1 e3) kvX4_comes wml_X4_80 rfl 0 rfl rfl rfl rfl hl.1 rfl ⟨rfl, rfl, Nat.le_of_ble_eq_true rfl, Nat.le_of_ble_eq_true rfl⟩ (Nat.le_of_ble_eq_true rfl) ⟨Nat.zero_le _, Nat.zero_le _⟩ dX4_walk_2 (fun H locs hP hD hS => ?_)
  refine W.eq (g2 := F0 m 5 ls [.int q2]) rfl ?_
  refine lv_if_ne (tgt := 10) hx hb dX4_walk_5 (by decide) (fun c4 => ?_) (fun c4 => ?_)
  · have hF := lt_f c4 hF
    have hO := lo_f c4 hO
    refine lv_iload_n hx hb dX4_walk_10 rfl (lv_at hl 2 rfl) ?_
    refine lv_i2l (v := Int32.toInt64 s2) hx hb dX4_walk_11 rfl ?_
    refine lv_lconst (v := 1) hx hb dX4_walk_12 rfl ?_
    refine lv_ldc2 (v := 60) hx hb hown (hts _ wct_X4_147) dX4_walk_13 ?_
    obtain ⟨q6, e7⟩ : ∃ q, fX4_in (Int32.toInt64 s2) 1 60 = q := ⟨_, rfl⟩
    have hF := lt_n e7 hF
    try have hO := lo_n e7 hO
    refine ct_callS hM hK hP hD hS (kX4_in l D cy (Int32.toInt64 s2) 1 60 trivial e7) kvX4_in wml_X4_59 rfl hl.1 rfl ⟨rfl, rfl, Nat.le_of_ble_eq_true rfl, Nat.le_of_ble_eq_true rfl⟩ (Nat.le_of_ble_eq_true rfl) ⟨Nat.zero_le _, Nat.zero_le _⟩ dX4_walk_16 (fun H locs hP hD hS => ?_)
    refine W.eq (g2 := F0 m 19 ls [.int q6]) rfl ?_
    have hP : va_P D classes (gwM cy a x) H := hP
    have hD : va_D A (gwM cy a x) := hD
    refine lv_if_eq (tgt := 32) hx hb dX4_walk_19 (by decide) (fun c8 => ?_) (fun c8 => ?_)
    · have hF := lt_t c8 hF
      have hO := lo_t c8 hO
      refine lv_bipush (v := (-2)) hx hb dX4_walk_32 (by decide) ?_
      subst hF
      exact ct_iret hM hP hS dX4_walk_34
    · have hF := lt_f c8 hF
      have hO := lo_f c8 hO
      refine lv_iload_n hx hb dX4_walk_22 rfl (lv_at hl 3 rfl) ?_
      refine lv_i2l (v := Int32.toInt64 s3) hx hb dX4_walk_23 rfl ?_
      refine lv_lconst (v := 0) hx hb dX4_walk_24 rfl ?_
      refine lv_lconst (v := 1) hx hb dX4_walk_25 rfl ?_
      obtain ⟨q10, e11⟩ : ∃ q, fX4_in (Int32.toInt64 s3) 0 1 = q := ⟨_, rfl⟩
      have hF := lt_n e11 hF
      try have hO := lo_n e11 hO
      refine ct_callS hM hK hP hD hS (kX4_in l D cy (Int32.toInt64 s3) 0 1 trivial e11) kvX4_in wml_X4_59 rfl hl.1 rfl ⟨rfl, rfl, Nat.le_of_ble_eq_true rfl, Nat.le_of_ble_eq_true rfl⟩ (Nat.le_of_ble_eq_true rfl) ⟨Nat.zero_le _, Nat.zero_le _⟩ dX4_walk_26 (fun H locs hP hD hS => ?_)
      refine W.eq (g2 := F0 m 29 ls [.int q10]) rfl ?_
      have hP : va_P D classes (gwM cy a x) H := hP
      have hD : va_D A (gwM cy a x) := hD
      refine lv_if_ne (tgt := 35) hx hb dX4_walk_29 (by decide) (fun c12 => ?_) (fun c12 => ?_)
      · have hF := lt_f c12 hF
        have hO := lo_f c12 hO
        refine lv_aload_n hx hb dX4_walk_35 rfl (lv_at hl 0 rfl) ?_
        obtain ⟨h13, hO⟩ := hO
        obtain ⟨q14, e15⟩ : ∃ q, fX4_layNow x = q := ⟨_, rfl⟩
        have hF := lt_n e15 hF
        try have hO := lo_n e15 hO
        refine ct_callF hM hK hP hD hS (kX4_layNow l D cy a x h13 e15) kvX4_layNow wml_X4_124 rfl 0 rfl rfl rfl rfl hl.1 rfl ⟨rfl, rfl, Nat.le_of_ble_eq_true rfl, Nat.le_of_ble_eq_true rfl⟩ (Nat.le_of_ble_eq_true rfl) ⟨Nat.zero_le _, Nat.zero_le _⟩ dX4_walk_36 (fun H locs hP hD hS => ?_)
        refine W.eq (g2 := F0 m 39 ls []) rfl ?_
        have hP : va_P D classes (gwM cy a q14) H := hP
        have hD : va_D A (gwM cy a q14) := hD
        refine lv_bipush (v := (-6)) hx hb dX4_walk_39 (by decide) ?_
        refine lv_istore (lv' := [(4, .int (-6)), (0, .ref (a 0)), (1, .int s1), (2, .int s2), (3, .int s3)]) hx hb dX4_walk_41 hl (by decide) rfl (fun ls hl => ?_)
        refine lv_ldc (v := 1000000000) hx hb hown (hts _ wct_X4_114) dX4_walk_43 ?_
        refine lv_istore (lv' := [(5, .int 1000000000), (4, .int (-6)), (0, .ref (a 0)), (1, .int s1), (2, .int s2), (3, .int s3)]) hx hb dX4_walk_45 hl (by decide) rfl (fun ls hl => ?_)
        refine lv_iconst (v := 0) hx hb dX4_walk_47 (by decide) ?_
        refine lv_istore (lv' := [(6, .int 0), (5, .int 1000000000), (4, .int (-6)), (0, .ref (a 0)), (1, .int s1), (2, .int s2), (3, .int s3)]) hx hb dX4_walk_48 hl (by decide) rfl (fun ls hl => ?_)
        exact tX4_walk_50 hM hK 11 q14 (-6) 1000000000 0 H locs ls hP hD hS (lv_sub hl [3, 4, 5, 6, 2, 1, 0] rfl) hO hF
      · have hF := lt_t c12 hF
        have hO := lo_t c12 hO
        refine lv_bipush (v := (-2)) hx hb dX4_walk_32 (by decide) ?_
        subst hF
        exact ct_iret hM hP hS dX4_walk_34
  · have hF := lt_t c4 hF
    have hO := lo_t c4 hO
    refine lv_iconst (v := (-1)) hx hb dX4_walk_8 (by decide) ?_
    subst hF
    exact ct_iret hM hP hS dX4_walk_9

abbrev rX4_claim : Room := { frames := 4, cells := 0, slots := 0, locals := 99 }
def fX4_claim_31 (s1 : Int32) (s2 : Int32) : Nat → tMs → Int32 → Int32 × tMs
  | 0, x, s3 => (0, x)
  | n + 1, x, s3 => if 100 ≤ s3 then ((-6), x) else (lt_ (fX4_go (m_co x, m_mi x, m_mn x, m_pa x, m_ca x, m_dr x, m_fa x, m_st x, m_ha x, m_pd x, m_pn x, upd (m_fr x) (Int32.toNatClampNeg s1) s3, m_at x, m_wa x, m_en x, m_to x, m_or x, m_my x, m_bf x, m_bs x, m_kp x, m_ik x, m_ka x, m_iw x) (m_co x) 99) fun q15 => if s2 < (m_wa q15) (Int32.toNatClampNeg s1) then (lt_ (s3 + 1) fun x18 => fX4_claim_31 s1 s2 n q15 x18) else (s3, q15))
def oX4_claim_31 (s1 : Int32) (s2 : Int32) : Nat → tMs → Int32 → Prop
  | 0, _, _ => False
  | n + 1, x, s3 => if 100 ≤ s3 then True else (vp_in s1 8 ∧ oX4_go (m_co x, m_mi x, m_mn x, m_pa x, m_ca x, m_dr x, m_fa x, m_st x, m_ha x, m_pd x, m_pn x, upd (m_fr x) (Int32.toNatClampNeg s1) s3, m_at x, m_wa x, m_en x, m_to x, m_or x, m_my x, m_bf x, m_bs x, m_kp x, m_ik x, m_ka x, m_iw x) (m_co x) 99 ∧ (lo_ (fX4_go (m_co x, m_mi x, m_mn x, m_pa x, m_ca x, m_dr x, m_fa x, m_st x, m_ha x, m_pd x, m_pn x, upd (m_fr x) (Int32.toNatClampNeg s1) s3, m_at x, m_wa x, m_en x, m_to x, m_or x, m_my x, m_bf x, m_bs x, m_kp x, m_ik x, m_ka x, m_iw x) (m_co x) 99) fun q15 => if s2 < (m_wa q15) (Int32.toNatClampNeg s1) then (lo_ (s3 + 1) fun x18 => oX4_claim_31 s1 s2 n q15 x18) else True))
set_option maxHeartbeats 4000000 in
set_option maxRecDepth 100000 in
theorem tX4_claim_31 {p : Program} {l : Launch} {e : Env} {s : State} {m : MethodId} {args : Array Value} {below : List Frame} {meth : Method} {c : Code} {A : Nat → Prop} {D : va_G} {cy : Nat → ClassId} {a : Nat → Nat} {s1 : Int32} {s2 : Int32} {R : Int32 × tMs} (hM : MC p s m args meth c RX4 cX4_claim 4 (some .int)) (hK : va_K D classes (ctT cy) s) :
    ∀ (n : Nat) (x : tMs) (s3 : Int32) (H : Heap) (locs : List Loc) (ls : Array Slot), va_P D classes (gwM cy a x) H → va_D A (gwM cy a x) → va_S A s.heap H locs → lv_has ls 4 [(0, .ref (a 0)), (1, .int s1), (2, .int s2), (3, .int s3)] → oX4_claim_31 s1 s2 n x s3 → fX4_claim_31 s1 s2 n x s3 = R → W p l e rX4_claim s m args below meth c H locs 0 0 (MQ below (ctQ D (some (.int R.1)) (gwM cy a R.2) A) args s 0 0 A) (F0 m 31 ls []) := by
  obtain ⟨hx, hb, -, hml, hown, hts, -⟩ := id hM
  intro n
  induction n with
  | zero =>
    intro x s3 H locs ls hP hD hS hl hO hF
    exact False.elim hO
  | succ n ih =>
    intro x s3 H locs ls hP hD hS hl hO hF
    rw [fX4_claim_31] at hF
    rw [oX4_claim_31] at hO
    refine lv_iload_n hx hb dX4_claim_31 rfl (lv_at hl 3 rfl) ?_
    refine lv_bipush (v := 100) hx hb dX4_claim_32 (by decide) ?_
    refine lv_icmp_ge (tgt := 72) hx hb dX4_claim_34 (by decide) (fun c12 => ?_) (fun c12 => ?_)
    · have hF := lt_t c12 hF
      have hO := lo_t c12 hO
      refine lv_bipush (v := (-6)) hx hb dX4_claim_72 (by decide) ?_
      subst hF
      exact ct_iret hM hP hS dX4_claim_74
    · have hF := lt_f c12 hF
      have hO := lo_f c12 hO
      refine lv_aload_n hx hb dX4_claim_37 rfl (lv_at hl 0 rfl) ?_
      refine ct_get (C := RX4) (T := TX4) (N := 24) (ci := 4) (v := .ref (a 6)) hM hK hP inX4 0 rfl rfl 11 (by decide) wfl_X4_25 rfl dX4_claim_38 ?_
      refine lv_iload_n hx hb dX4_claim_41 rfl (lv_at hl 1 rfl) ?_
      refine lv_iload_n hx hb dX4_claim_42 rfl (lv_at hl 3 rfl) ?_
      obtain ⟨h13, hO⟩ := hO
      refine va_iast hx hb hK hP hD hS 6 0 (f := m_fr x) (n := 8) (cA := cy 0) rfl rfl h13 dX4_claim_43 (fun H locs hP hD hS => ?_)
      have hP : va_P D classes (gwM cy a (m_co x, m_mi x, m_mn x, m_pa x, m_ca x, m_dr x, m_fa x, m_st x, m_ha x, m_pd x, m_pn x, upd (m_fr x) (Int32.toNatClampNeg s1) s3, m_at x, m_wa x, m_en x, m_to x, m_or x, m_my x, m_bf x, m_bs x, m_kp x, m_ik x, m_ka x, m_iw x)) H := hP
      have hD : va_D A (gwM cy a (m_co x, m_mi x, m_mn x, m_pa x, m_ca x, m_dr x, m_fa x, m_st x, m_ha x, m_pd x, m_pn x, upd (m_fr x) (Int32.toNatClampNeg s1) s3, m_at x, m_wa x, m_en x, m_to x, m_or x, m_my x, m_bf x, m_bs x, m_kp x, m_ik x, m_ka x, m_iw x)) := hD
      refine lv_aload_n hx hb dX4_claim_44 rfl (lv_at hl 0 rfl) ?_
      refine lv_aload_n hx hb dX4_claim_45 rfl (lv_at hl 0 rfl) ?_
      refine ct_get (C := RX4) (T := TX4) (N := 24) (ci := 4) (v := .int (m_co x)) hM hK hP inX4 0 rfl rfl 0 (by decide) wfl_X4_67 rfl dX4_claim_46 ?_
      refine lv_bipush (v := 99) hx hb dX4_claim_49 (by decide) ?_
      obtain ⟨h14, hO⟩ := hO
      obtain ⟨q15, e16⟩ : ∃ q, fX4_go (m_co x, m_mi x, m_mn x, m_pa x, m_ca x, m_dr x, m_fa x, m_st x, m_ha x, m_pd x, m_pn x, upd (m_fr x) (Int32.toNatClampNeg s1) s3, m_at x, m_wa x, m_en x, m_to x, m_or x, m_my x, m_bf x, m_bs x, m_kp x, m_ik x, m_ka x, m_iw x) (m_co x) 99 = q := ⟨_, rfl⟩
      have hF := lt_n e16 hF
      try have hO := lo_n e16 hO
      refine ct_callF hM hK hP hD hS (kX4_go l D cy a (m_co x, m_mi x, m_mn x, m_pa x, m_ca x, m_dr x, m_fa x, m_st x, m_ha x, m_pd x, m_pn x, upd (m_fr x) (Int32.toNatClampNeg s1) s3, m_at x, m_wa x, m_en x, m_to x, m_or x, m_my x, m_bf x, m_bs x, m_kp x, m_ik x, m_ka x, m_iw x) (m_co x) 99 h14 e16) kvX4_go wml_X4_127 rfl 0 rfl rfl rfl rfl hl.1 rfl ⟨rfl, rfl, Nat.le_of_ble_eq_true rfl, Nat.le_of_ble_eq_true rfl⟩ (Nat.le_of_ble_eq_true rfl) ⟨Nat.zero_le _, Nat.zero_le _⟩ dX4_claim_51 (fun H locs hP hD hS => ?_)
      refine W.eq (g2 := F0 m 54 ls []) rfl ?_
      have hP : va_P D classes (gwM cy a q15) H := hP
      have hD : va_D A (gwM cy a q15) := hD
      refine lv_aload_n hx hb dX4_claim_54 rfl (lv_at hl 0 rfl) ?_
      refine ct_get (C := RX4) (T := TX4) (N := 24) (ci := 4) (v := .ref (a 8)) hM hK hP inX4 0 rfl rfl 13 (by decide) wfl_X4_31 rfl dX4_claim_55 ?_
      refine lv_iload_n hx hb dX4_claim_58 rfl (lv_at hl 1 rfl) ?_
      refine va_iald hx hb hK hP 8 0 (f := m_wa q15) (n := 8) (cA := cy 0) rfl rfl h13 dX4_claim_59 ?_
      refine lv_iload_n hx hb dX4_claim_60 rfl (lv_at hl 2 rfl) ?_
      refine lv_icmp_gt (tgt := 66) hx hb dX4_claim_61 (by decide) (fun c17 => ?_) (fun c17 => ?_)
      · have hF := lt_t c17 hF
        have hO := lo_t c17 hO
        obtain ⟨x18, e19⟩ : ∃ y : Int32, s3 + 1 = y := ⟨_, rfl⟩
        have hF := lt_n e19 hF
        try have hO := lo_n e19 hO
        refine lv_iinc (v := x18) (lv' := [(3, .int x18), (0, .ref (a 0)), (1, .int s1), (2, .int s2)]) hx hb dX4_claim_66 hl (k := 3) rfl (by rw [← e19]; rfl) (by decide) rfl (fun ls hl => ?_)
        refine lv_goto (tgt := 31) hx hb dX4_claim_69 (by decide) ?_
        exact ih q15 x18 H locs ls hP hD hS (lv_sub hl [1, 2, 3, 0] rfl) hO hF
      · have hF := lt_f c17 hF
        have hO := lo_f c17 hO
        refine lv_iload_n hx hb dX4_claim_64 rfl (lv_at hl 3 rfl) ?_
        subst hF
        exact ct_iret hM hP hS dX4_claim_65

def fX4_claim (x : tMs) (s1 : Int32) (s2 : Int32) : Int32 × tMs := lt_ (fX4_comes x s1) fun q2 => if q2 = 0 then ((-1), x) else (lt_ (fX4_in (Int32.toInt64 s2) 0 9999) fun q6 => if q6 = 0 then ((-2), x) else (lt_ (fX4_layNow x) fun q10 => fX4_claim_31 s1 s2 101 q10 0))
def oX4_claim (x : tMs) (s1 : Int32) (s2 : Int32) : Prop := oX4_comes x s1 ∧ (lo_ (fX4_comes x s1) fun q2 => if q2 = 0 then True else (lo_ (fX4_in (Int32.toInt64 s2) 0 9999) fun q6 => if q6 = 0 then True else (oX4_layNow x ∧ (lo_ (fX4_layNow x) fun q10 => oX4_claim_31 s1 s2 101 q10 0))))
theorem kvX4_claim : KV yX4_claim cX4_claim 4 (some .int) 2 := ⟨wcd_X4_claim, wim_X4_claim, wsl_X4_claim, win_X4, by decide +kernel, by decide +kernel, by decide +kernel⟩
set_option maxHeartbeats 4000000 in
set_option maxRecDepth 100000 in
theorem kX4_claim (l : Launch) (D : va_G) (cy : Nat → ClassId) (a : Nat → Nat) (x : tMs) (s1 : Int32) (s2 : Int32) {R : Int32 × tMs} (hO : oX4_claim x s1 s2) (hF : fX4_claim x s1 s2 = R) : CT l D cy yX4_claim cX4_claim 4 (some .int) rX4_claim [.ref (a 0), .int s1, .int s2] (gwM cy a x) (some (.int R.1)) (gwM cy a R.2) := by
  refine ct_of (by decide) (Nat.le_of_ble_eq_true rfl) ?_
  intro p e s m args below meth c A ls hM hK hP hD hS hl
  obtain ⟨hx, hb, -, hml, hown, hts, -⟩ := id hM
  have hl : lv_has ls 4 [(0, .ref (a 0)), (1, .int s1), (2, .int s2)] := hl
  obtain ⟨H, hH⟩ : ∃ H : Heap, H = s.heap := ⟨_, rfl⟩
  obtain ⟨locs, hlocs⟩ : ∃ q : List Loc, q = [] := ⟨_, rfl⟩
  have hP : va_P D classes (gwM cy a x) H := by rw [hH]; exact hP
  have hS : va_S A s.heap H locs := by rw [hH, hlocs]; exact hS
  suffices hg : W p l e rX4_claim s m args below meth c H locs 0 0 (MQ below (ctQ D (some (.int R.1)) (gwM cy a R.2) A) args s 0 0 A) (F0 m 0 ls []) by rw [hH, hlocs] at hg; exact hg
  clear hH hlocs
  unfold fX4_claim at hF
  unfold oX4_claim at hO
  refine lv_aload_n hx hb dX4_claim_0 rfl (lv_at hl 0 rfl) ?_
  refine lv_iload_n hx hb dX4_claim_1 rfl (lv_at hl 1 rfl) ?_
  obtain ⟨h1, hO⟩ := hO
  obtain ⟨q2, e3⟩ : ∃ q, fX4_comes x s1 = q := ⟨_, rfl⟩
  have hF := lt_n e3 hF
  try have hO := lo_n e3 hO
  refine ct_callF hM hK hP hD hS (kX4_comes l D cy a x s1 h1 e3) kvX4_comes wml_X4_80 rfl 0 rfl rfl rfl rfl hl.1 rfl ⟨rfl, rfl, Nat.le_of_ble_eq_true rfl, Nat.le_of_ble_eq_true rfl⟩ (Nat.le_of_ble_eq_true rfl) ⟨Nat.zero_le _, Nat.zero_le _⟩ dX4_claim_2 (fun H locs hP hD hS => ?_)
  refine W.eq (g2 := F0 m 5 ls [.int q2]) rfl ?_
  refine lv_if_ne (tgt := 10) hx hb dX4_claim_5 (by decide) (fun c4 => ?_) (fun c4 => ?_)
  · have hF := lt_f c4 hF
    have hO := lo_f c4 hO
    refine lv_iload_n hx hb dX4_claim_10 rfl (lv_at hl 2 rfl) ?_
    refine lv_i2l (v := Int32.toInt64 s2) hx hb dX4_claim_11 rfl ?_
    refine lv_lconst (v := 0) hx hb dX4_claim_12 rfl ?_
    refine lv_ldc2 (v := 9999) hx hb hown (hts _ wct_X4_149) dX4_claim_13 ?_
    obtain ⟨q6, e7⟩ : ∃ q, fX4_in (Int32.toInt64 s2) 0 9999 = q := ⟨_, rfl⟩
    have hF := lt_n e7 hF
    try have hO := lo_n e7 hO
    refine ct_callS hM hK hP hD hS (kX4_in l D cy (Int32.toInt64 s2) 0 9999 trivial e7) kvX4_in wml_X4_59 rfl hl.1 rfl ⟨rfl, rfl, Nat.le_of_ble_eq_true rfl, Nat.le_of_ble_eq_true rfl⟩ (Nat.le_of_ble_eq_true rfl) ⟨Nat.zero_le _, Nat.zero_le _⟩ dX4_claim_16 (fun H locs hP hD hS => ?_)
    refine W.eq (g2 := F0 m 19 ls [.int q6]) rfl ?_
    have hP : va_P D classes (gwM cy a x) H := hP
    have hD : va_D A (gwM cy a x) := hD
    refine lv_if_ne (tgt := 25) hx hb dX4_claim_19 (by decide) (fun c8 => ?_) (fun c8 => ?_)
    · have hF := lt_f c8 hF
      have hO := lo_f c8 hO
      refine lv_aload_n hx hb dX4_claim_25 rfl (lv_at hl 0 rfl) ?_
      obtain ⟨h9, hO⟩ := hO
      obtain ⟨q10, e11⟩ : ∃ q, fX4_layNow x = q := ⟨_, rfl⟩
      have hF := lt_n e11 hF
      try have hO := lo_n e11 hO
      refine ct_callF hM hK hP hD hS (kX4_layNow l D cy a x h9 e11) kvX4_layNow wml_X4_124 rfl 0 rfl rfl rfl rfl hl.1 rfl ⟨rfl, rfl, Nat.le_of_ble_eq_true rfl, Nat.le_of_ble_eq_true rfl⟩ (Nat.le_of_ble_eq_true rfl) ⟨Nat.zero_le _, Nat.zero_le _⟩ dX4_claim_26 (fun H locs hP hD hS => ?_)
      refine W.eq (g2 := F0 m 29 ls []) rfl ?_
      have hP : va_P D classes (gwM cy a q10) H := hP
      have hD : va_D A (gwM cy a q10) := hD
      refine lv_iconst (v := 0) hx hb dX4_claim_29 (by decide) ?_
      refine lv_istore_n (lv' := [(3, .int 0), (0, .ref (a 0)), (1, .int s1), (2, .int s2)]) hx hb dX4_claim_30 rfl hl (by decide) rfl (fun ls hl => ?_)
      exact tX4_claim_31 hM hK 101 q10 0 H locs ls hP hD hS (lv_sub hl [1, 2, 3, 0] rfl) hO hF
    · have hF := lt_t c8 hF
      have hO := lo_t c8 hO
      refine lv_bipush (v := (-2)) hx hb dX4_claim_22 (by decide) ?_
      subst hF
      exact ct_iret hM hP hS dX4_claim_24
  · have hF := lt_t c4 hF
    have hO := lo_t c4 hO
    refine lv_iconst (v := (-1)) hx hb dX4_claim_8 (by decide) ?_
    subst hF
    exact ct_iret hM hP hS dX4_claim_9

abbrev rX4_home : Room := { frames := 4, cells := 0, slots := 0, locals := 99 }
def fX4_home_50 (s1 : Int32) (s2 : Int32) (s3 : Int32) : Nat → tMs → Int32 → Int32 → Int32 → Int32 × tMs
  | 0, x, s4, s5, s6 => (0, x)
  | n + 1, x, s4, s5, s6 => if 100 ≤ s6 then (if s3 = 0 then (s4, x) else (s5, x)) else (lt_ (fX4_go (m_co x, m_mi x, m_mn x, m_pa x, m_ca x, m_dr x, m_fa x, m_st x, m_ha x, m_pd x, m_pn x, upd (m_fr x) (Int32.toNatClampNeg s1) s6, m_at x, m_wa x, m_en x, m_to x, m_or x, m_my x, m_bf x, m_bs x, m_kp x, m_ik x, m_ka x, m_iw x) (m_co x) 99) fun q20 => lt_ ((m_wa q20) (Int32.toNatClampNeg s1) + (s2 * (99 - s6))) fun x22 => if s5 ≤ x22 then (lt_ (s6 + 1) fun x25 => fX4_home_50 s1 s2 s3 n q20 s4 s5 x25) else (lt_ (s6 + 1) fun x27 => fX4_home_50 s1 s2 s3 n q20 s6 x22 x27))
def oX4_home_50 (s1 : Int32) (s2 : Int32) (s3 : Int32) : Nat → tMs → Int32 → Int32 → Int32 → Prop
  | 0, _, _, _, _ => False
  | n + 1, x, s4, s5, s6 => if 100 ≤ s6 then True else (vp_in s1 8 ∧ oX4_go (m_co x, m_mi x, m_mn x, m_pa x, m_ca x, m_dr x, m_fa x, m_st x, m_ha x, m_pd x, m_pn x, upd (m_fr x) (Int32.toNatClampNeg s1) s6, m_at x, m_wa x, m_en x, m_to x, m_or x, m_my x, m_bf x, m_bs x, m_kp x, m_ik x, m_ka x, m_iw x) (m_co x) 99 ∧ (lo_ (fX4_go (m_co x, m_mi x, m_mn x, m_pa x, m_ca x, m_dr x, m_fa x, m_st x, m_ha x, m_pd x, m_pn x, upd (m_fr x) (Int32.toNatClampNeg s1) s6, m_at x, m_wa x, m_en x, m_to x, m_or x, m_my x, m_bf x, m_bs x, m_kp x, m_ik x, m_ka x, m_iw x) (m_co x) 99) fun q20 => lo_ ((m_wa q20) (Int32.toNatClampNeg s1) + (s2 * (99 - s6))) fun x22 => if s5 ≤ x22 then (lo_ (s6 + 1) fun x25 => oX4_home_50 s1 s2 s3 n q20 s4 s5 x25) else (lo_ (s6 + 1) fun x27 => oX4_home_50 s1 s2 s3 n q20 s6 x22 x27)))
set_option maxHeartbeats 4000000 in
set_option maxRecDepth 100000 in
theorem tX4_home_50 {p : Program} {l : Launch} {e : Env} {s : State} {m : MethodId} {args : Array Value} {below : List Frame} {meth : Method} {c : Code} {A : Nat → Prop} {D : va_G} {cy : Nat → ClassId} {a : Nat → Nat} {s1 : Int32} {s2 : Int32} {s3 : Int32} {R : Int32 × tMs} (hM : MC p s m args meth c RX4 cX4_home 8 (some .int)) (hK : va_K D classes (ctT cy) s) :
    ∀ (n : Nat) (x : tMs) (s4 : Int32) (s5 : Int32) (s6 : Int32) (H : Heap) (locs : List Loc) (ls : Array Slot), va_P D classes (gwM cy a x) H → va_D A (gwM cy a x) → va_S A s.heap H locs → lv_has ls 8 [(0, .ref (a 0)), (1, .int s1), (2, .int s2), (3, .int s3), (4, .int s4), (5, .int s5), (6, .int s6)] → oX4_home_50 s1 s2 s3 n x s4 s5 s6 → fX4_home_50 s1 s2 s3 n x s4 s5 s6 = R → W p l e rX4_home s m args below meth c H locs 0 0 (MQ below (ctQ D (some (.int R.1)) (gwM cy a R.2) A) args s 0 0 A) (F0 m 50 ls []) := by
  obtain ⟨hx, hb, -, hml, hown, hts, -⟩ := id hM
  intro n
  induction n with
  | zero =>
    intro x s4 s5 s6 H locs ls hP hD hS hl hO hF
    exact False.elim hO
  | succ n ih =>
    intro x s4 s5 s6 H locs ls hP hD hS hl hO hF
    rw [fX4_home_50] at hF
    rw [oX4_home_50] at hO
    refine lv_iload hx hb dX4_home_50 (lv_at hl 6 rfl) ?_
    refine lv_bipush (v := 100) hx hb dX4_home_52 (by decide) ?_
    refine lv_icmp_ge (tgt := 129) hx hb dX4_home_54 (by decide) (fun c16 => ?_) (fun c16 => ?_)
    · have hF := lt_t c16 hF
      have hO := lo_t c16 hO
      refine lv_iload_n hx hb dX4_home_129 rfl (lv_at hl 3 rfl) ?_
      refine lv_if_ne (tgt := 138) hx hb dX4_home_130 (by decide) (fun c17 => ?_) (fun c17 => ?_)
      · have hF := lt_f c17 hF
        refine lv_iload hx hb dX4_home_138 (lv_at hl 5 rfl) ?_
        subst hF
        exact ct_iret hM hP hS dX4_home_140
      · have hF := lt_t c17 hF
        refine lv_iload hx hb dX4_home_133 (lv_at hl 4 rfl) ?_
        refine lv_goto (tgt := 140) hx hb dX4_home_135 (by decide) ?_
        subst hF
        exact ct_iret hM hP hS dX4_home_140
    · have hF := lt_f c16 hF
      have hO := lo_f c16 hO
      refine lv_aload_n hx hb dX4_home_57 rfl (lv_at hl 0 rfl) ?_
      refine ct_get (C := RX4) (T := TX4) (N := 24) (ci := 4) (v := .ref (a 6)) hM hK hP inX4 0 rfl rfl 11 (by decide) wfl_X4_25 rfl dX4_home_58 ?_
      refine lv_iload_n hx hb dX4_home_61 rfl (lv_at hl 1 rfl) ?_
      refine lv_iload hx hb dX4_home_62 (lv_at hl 6 rfl) ?_
      obtain ⟨h18, hO⟩ := hO
      refine va_iast hx hb hK hP hD hS 6 0 (f := m_fr x) (n := 8) (cA := cy 0) rfl rfl h18 dX4_home_64 (fun H locs hP hD hS => ?_)
      have hP : va_P D classes (gwM cy a (m_co x, m_mi x, m_mn x, m_pa x, m_ca x, m_dr x, m_fa x, m_st x, m_ha x, m_pd x, m_pn x, upd (m_fr x) (Int32.toNatClampNeg s1) s6, m_at x, m_wa x, m_en x, m_to x, m_or x, m_my x, m_bf x, m_bs x, m_kp x, m_ik x, m_ka x, m_iw x)) H := hP
      have hD : va_D A (gwM cy a (m_co x, m_mi x, m_mn x, m_pa x, m_ca x, m_dr x, m_fa x, m_st x, m_ha x, m_pd x, m_pn x, upd (m_fr x) (Int32.toNatClampNeg s1) s6, m_at x, m_wa x, m_en x, m_to x, m_or x, m_my x, m_bf x, m_bs x, m_kp x, m_ik x, m_ka x, m_iw x)) := hD
      refine lv_aload_n hx hb dX4_home_65 rfl (lv_at hl 0 rfl) ?_
      refine lv_aload_n hx hb dX4_home_66 rfl (lv_at hl 0 rfl) ?_
      refine ct_get (C := RX4) (T := TX4) (N := 24) (ci := 4) (v := .int (m_co x)) hM hK hP inX4 0 rfl rfl 0 (by decide) wfl_X4_67 rfl dX4_home_67 ?_
      refine lv_bipush (v := 99) hx hb dX4_home_70 (by decide) ?_
      obtain ⟨h19, hO⟩ := hO
      obtain ⟨q20, e21⟩ : ∃ q, fX4_go (m_co x, m_mi x, m_mn x, m_pa x, m_ca x, m_dr x, m_fa x, m_st x, m_ha x, m_pd x, m_pn x, upd (m_fr x) (Int32.toNatClampNeg s1) s6, m_at x, m_wa x, m_en x, m_to x, m_or x, m_my x, m_bf x, m_bs x, m_kp x, m_ik x, m_ka x, m_iw x) (m_co x) 99 = q := ⟨_, rfl⟩
      have hF := lt_n e21 hF
      try have hO := lo_n e21 hO
      refine ct_callF hM hK hP hD hS (kX4_go l D cy a (m_co x, m_mi x, m_mn x, m_pa x, m_ca x, m_dr x, m_fa x, m_st x, m_ha x, m_pd x, m_pn x, upd (m_fr x) (Int32.toNatClampNeg s1) s6, m_at x, m_wa x, m_en x, m_to x, m_or x, m_my x, m_bf x, m_bs x, m_kp x, m_ik x, m_ka x, m_iw x) (m_co x) 99 h19 e21) kvX4_go wml_X4_127 rfl 0 rfl rfl rfl rfl hl.1 rfl ⟨rfl, rfl, Nat.le_of_ble_eq_true rfl, Nat.le_of_ble_eq_true rfl⟩ (Nat.le_of_ble_eq_true rfl) ⟨Nat.zero_le _, Nat.zero_le _⟩ dX4_home_72 (fun H locs hP hD hS => ?_)
      refine W.eq (g2 := F0 m 75 ls []) rfl ?_
      have hP : va_P D classes (gwM cy a q20) H := hP
      have hD : va_D A (gwM cy a q20) := hD
      refine lv_aload_n hx hb dX4_home_75 rfl (lv_at hl 0 rfl) ?_
      refine ct_get (C := RX4) (T := TX4) (N := 24) (ci := 4) (v := .ref (a 8)) hM hK hP inX4 0 rfl rfl 13 (by decide) wfl_X4_31 rfl dX4_home_76 ?_
      refine lv_iload_n hx hb dX4_home_79 rfl (lv_at hl 1 rfl) ?_
      refine va_iald hx hb hK hP 8 0 (f := m_wa q20) (n := 8) (cA := cy 0) rfl rfl h18 dX4_home_80 ?_
      refine lv_iload_n hx hb dX4_home_81 rfl (lv_at hl 2 rfl) ?_
      refine lv_bipush (v := 99) hx hb dX4_home_82 (by decide) ?_
      refine lv_iload hx hb dX4_home_84 (lv_at hl 6 rfl) ?_
      refine lv_isub hx hb dX4_home_86 ?_
      refine lv_imul hx hb dX4_home_87 ?_
      refine lv_iadd hx hb dX4_home_88 ?_
      refine lv_topi (fun x22 e23 => ?_)
      have hF := lt_n e23.symm hF
      try have hO := lo_n e23.symm hO
      refine lv_istore (lv' := [(7, .int x22), (0, .ref (a 0)), (1, .int s1), (2, .int s2), (3, .int s3), (4, .int s4), (5, .int s5), (6, .int s6)]) hx hb dX4_home_89 hl (by decide) rfl (fun ls hl => ?_)
      refine lv_iload hx hb dX4_home_91 (lv_at hl 0 rfl) ?_
      refine lv_iload hx hb dX4_home_93 (lv_at hl 6 rfl) ?_
      refine lv_icmp_ge (tgt := 103) hx hb dX4_home_95 (by decide) (fun c24 => ?_) (fun c24 => ?_)
      · have hF := lt_t c24 hF
        have hO := lo_t c24 hO
        refine lv_iload hx hb dX4_home_103 (lv_at hl 5 rfl) ?_
        refine lv_istore (lv' := [(4, .int s4), (7, .int x22), (0, .ref (a 0)), (1, .int s1), (2, .int s2), (3, .int s3), (5, .int s5), (6, .int s6)]) hx hb dX4_home_105 hl (by decide) rfl (fun ls hl => ?_)
        refine lv_iload hx hb dX4_home_107 (lv_at hl 1 rfl) ?_
        refine lv_iload hx hb dX4_home_109 (lv_at hl 6 rfl) ?_
        refine lv_icmp_ge (tgt := 119) hx hb dX4_home_111 (by decide) (fun _ => ?_) (fun z => absurd c24 z)
        refine lv_iload hx hb dX4_home_119 (lv_at hl 6 rfl) ?_
        refine lv_istore (lv' := [(5, .int s5), (4, .int s4), (7, .int x22), (0, .ref (a 0)), (1, .int s1), (2, .int s2), (3, .int s3), (6, .int s6)]) hx hb dX4_home_121 hl (by decide) rfl (fun ls hl => ?_)
        obtain ⟨x25, e26⟩ : ∃ y : Int32, s6 + 1 = y := ⟨_, rfl⟩
        have hF := lt_n e26 hF
        try have hO := lo_n e26 hO
        refine lv_iinc (v := x25) (lv' := [(6, .int x25), (5, .int s5), (4, .int s4), (7, .int x22), (0, .ref (a 0)), (1, .int s1), (2, .int s2), (3, .int s3)]) hx hb dX4_home_123 hl (k := 7) rfl (by rw [← e26]; rfl) (by decide) rfl (fun ls hl => ?_)
        refine lv_goto (tgt := 50) hx hb dX4_home_126 (by decide) ?_
        exact ih q20 s4 s5 x25 H locs ls hP hD hS (lv_sub hl [4, 5, 6, 7, 2, 1, 0] rfl) hO hF
      · have hF := lt_f c24 hF
        have hO := lo_f c24 hO
        refine lv_iload hx hb dX4_home_98 (lv_at hl 7 rfl) ?_
        refine lv_goto (tgt := 105) hx hb dX4_home_100 (by decide) ?_
        refine lv_istore (lv' := [(4, .int s6), (7, .int x22), (0, .ref (a 0)), (1, .int s1), (2, .int s2), (3, .int s3), (5, .int s5), (6, .int s6)]) hx hb dX4_home_105 hl (by decide) rfl (fun ls hl => ?_)
        refine lv_iload hx hb dX4_home_107 (lv_at hl 1 rfl) ?_
        refine lv_iload hx hb dX4_home_109 (lv_at hl 6 rfl) ?_
        refine lv_icmp_ge (tgt := 119) hx hb dX4_home_111 (by decide) (fun z => absurd z c24) (fun _ => ?_)
        refine lv_iload hx hb dX4_home_114 (lv_at hl 1 rfl) ?_
        refine lv_goto (tgt := 121) hx hb dX4_home_116 (by decide) ?_
        refine lv_istore (lv' := [(5, .int x22), (4, .int s6), (7, .int x22), (0, .ref (a 0)), (1, .int s1), (2, .int s2), (3, .int s3), (6, .int s6)]) hx hb dX4_home_121 hl (by decide) rfl (fun ls hl => ?_)
        obtain ⟨x27, e28⟩ : ∃ y : Int32, s6 + 1 = y := ⟨_, rfl⟩
        have hF := lt_n e28 hF
        try have hO := lo_n e28 hO
        refine lv_iinc (v := x27) (lv' := [(6, .int x27), (5, .int x22), (4, .int s6), (7, .int x22), (0, .ref (a 0)), (1, .int s1), (2, .int s2), (3, .int s3)]) hx hb dX4_home_123 hl (k := 7) rfl (by rw [← e28]; rfl) (by decide) rfl (fun ls hl => ?_)
        refine lv_goto (tgt := 50) hx hb dX4_home_126 (by decide) ?_
        exact ih q20 s6 x22 x27 H locs ls hP hD hS (lv_sub hl [4, 5, 6, 7, 2, 1, 0] rfl) hO hF

def fX4_home (x : tMs) (s1 : Int32) (s2 : Int32) (s3 : Int32) : Int32 × tMs := lt_ (fX4_comes x s1) fun q2 => if q2 = 0 then ((-1), x) else (lt_ (fX4_in (Int32.toInt64 s2) 0 99) fun q6 => if q6 = 0 then ((-2), x) else (lt_ (fX4_in (Int32.toInt64 s3) 0 1) fun q10 => if q10 = 0 then ((-2), x) else (lt_ (fX4_layNow x) fun q14 => fX4_home_50 s1 s2 s3 101 q14 (-6) 1000000000 0)))
def oX4_home (x : tMs) (s1 : Int32) (s2 : Int32) (s3 : Int32) : Prop := oX4_comes x s1 ∧ (lo_ (fX4_comes x s1) fun q2 => if q2 = 0 then True else (lo_ (fX4_in (Int32.toInt64 s2) 0 99) fun q6 => if q6 = 0 then True else (lo_ (fX4_in (Int32.toInt64 s3) 0 1) fun q10 => if q10 = 0 then True else (oX4_layNow x ∧ (lo_ (fX4_layNow x) fun q14 => oX4_home_50 s1 s2 s3 101 q14 (-6) 1000000000 0)))))
theorem kvX4_home : KV yX4_home cX4_home 8 (some .int) 3 := ⟨wcd_X4_home, wim_X4_home, wsl_X4_home, win_X4, by decide +kernel, by decide +kernel, by decide +kernel⟩
set_option maxHeartbeats 4000000 in
set_option maxRecDepth 100000 in
theorem kX4_home (l : Launch) (D : va_G) (cy : Nat → ClassId) (a : Nat → Nat) (x : tMs) (s1 : Int32) (s2 : Int32) (s3 : Int32) {R : Int32 × tMs} (hO : oX4_home x s1 s2 s3) (hF : fX4_home x s1 s2 s3 = R) : CT l D cy yX4_home cX4_home 8 (some .int) rX4_home [.ref (a 0), .int s1, .int s2, .int s3] (gwM cy a x) (some (.int R.1)) (gwM cy a R.2) := by
  refine ct_of (by decide) (Nat.le_of_ble_eq_true rfl) ?_
  intro p e s m args below meth c A ls hM hK hP hD hS hl
  obtain ⟨hx, hb, -, hml, hown, hts, -⟩ := id hM
  have hl : lv_has ls 8 [(0, .ref (a 0)), (1, .int s1), (2, .int s2), (3, .int s3)] := hl
  obtain ⟨H, hH⟩ : ∃ H : Heap, H = s.heap := ⟨_, rfl⟩
  obtain ⟨locs, hlocs⟩ : ∃ q : List Loc, q = [] := ⟨_, rfl⟩
  have hP : va_P D classes (gwM cy a x) H := by rw [hH]; exact hP
  have hS : va_S A s.heap H locs := by rw [hH, hlocs]; exact hS
  suffices hg : W p l e rX4_home s m args below meth c H locs 0 0 (MQ below (ctQ D (some (.int R.1)) (gwM cy a R.2) A) args s 0 0 A) (F0 m 0 ls []) by rw [hH, hlocs] at hg; exact hg
  clear hH hlocs
  unfold fX4_home at hF
  unfold oX4_home at hO
  refine lv_aload_n hx hb dX4_home_0 rfl (lv_at hl 0 rfl) ?_
  refine lv_iload_n hx hb dX4_home_1 rfl (lv_at hl 1 rfl) ?_
  obtain ⟨h1, hO⟩ := hO
  obtain ⟨q2, e3⟩ : ∃ q, fX4_comes x s1 = q := ⟨_, rfl⟩
  have hF := lt_n e3 hF
  try have hO := lo_n e3 hO
  refine ct_callF hM hK hP hD hS (kX4_comes l D cy a x s1 h1 e3) kvX4_comes wml_X4_80 rfl 0 rfl rfl rfl rfl hl.1 rfl ⟨rfl, rfl, Nat.le_of_ble_eq_true rfl, Nat.le_of_ble_eq_true rfl⟩ (Nat.le_of_ble_eq_true rfl) ⟨Nat.zero_le _, Nat.zero_le _⟩ dX4_home_2 (fun H locs hP hD hS => ?_)
  refine W.eq (g2 := F0 m 5 ls [.int q2]) rfl ?_
  refine lv_if_ne (tgt := 10) hx hb dX4_home_5 (by decide) (fun c4 => ?_) (fun c4 => ?_)
  · have hF := lt_f c4 hF
    have hO := lo_f c4 hO
    refine lv_iload_n hx hb dX4_home_10 rfl (lv_at hl 2 rfl) ?_
    refine lv_i2l (v := Int32.toInt64 s2) hx hb dX4_home_11 rfl ?_
    refine lv_lconst (v := 0) hx hb dX4_home_12 rfl ?_
    refine lv_ldc2 (v := 99) hx hb hown (hts _ wct_X4_70) dX4_home_13 ?_
    obtain ⟨q6, e7⟩ : ∃ q, fX4_in (Int32.toInt64 s2) 0 99 = q := ⟨_, rfl⟩
    have hF := lt_n e7 hF
    try have hO := lo_n e7 hO
    refine ct_callS hM hK hP hD hS (kX4_in l D cy (Int32.toInt64 s2) 0 99 trivial e7) kvX4_in wml_X4_59 rfl hl.1 rfl ⟨rfl, rfl, Nat.le_of_ble_eq_true rfl, Nat.le_of_ble_eq_true rfl⟩ (Nat.le_of_ble_eq_true rfl) ⟨Nat.zero_le _, Nat.zero_le _⟩ dX4_home_16 (fun H locs hP hD hS => ?_)
    refine W.eq (g2 := F0 m 19 ls [.int q6]) rfl ?_
    have hP : va_P D classes (gwM cy a x) H := hP
    have hD : va_D A (gwM cy a x) := hD
    refine lv_if_eq (tgt := 32) hx hb dX4_home_19 (by decide) (fun c8 => ?_) (fun c8 => ?_)
    · have hF := lt_t c8 hF
      have hO := lo_t c8 hO
      refine lv_bipush (v := (-2)) hx hb dX4_home_32 (by decide) ?_
      subst hF
      exact ct_iret hM hP hS dX4_home_34
    · have hF := lt_f c8 hF
      have hO := lo_f c8 hO
      refine lv_iload_n hx hb dX4_home_22 rfl (lv_at hl 3 rfl) ?_
      refine lv_i2l (v := Int32.toInt64 s3) hx hb dX4_home_23 rfl ?_
      refine lv_lconst (v := 0) hx hb dX4_home_24 rfl ?_
      refine lv_lconst (v := 1) hx hb dX4_home_25 rfl ?_
      obtain ⟨q10, e11⟩ : ∃ q, fX4_in (Int32.toInt64 s3) 0 1 = q := ⟨_, rfl⟩
      have hF := lt_n e11 hF
      try have hO := lo_n e11 hO
      refine ct_callS hM hK hP hD hS (kX4_in l D cy (Int32.toInt64 s3) 0 1 trivial e11) kvX4_in wml_X4_59 rfl hl.1 rfl ⟨rfl, rfl, Nat.le_of_ble_eq_true rfl, Nat.le_of_ble_eq_true rfl⟩ (Nat.le_of_ble_eq_true rfl) ⟨Nat.zero_le _, Nat.zero_le _⟩ dX4_home_26 (fun H locs hP hD hS => ?_)
      refine W.eq (g2 := F0 m 29 ls [.int q10]) rfl ?_
      have hP : va_P D classes (gwM cy a x) H := hP
      have hD : va_D A (gwM cy a x) := hD
      refine lv_if_ne (tgt := 35) hx hb dX4_home_29 (by decide) (fun c12 => ?_) (fun c12 => ?_)
      · have hF := lt_f c12 hF
        have hO := lo_f c12 hO
        refine lv_aload_n hx hb dX4_home_35 rfl (lv_at hl 0 rfl) ?_
        obtain ⟨h13, hO⟩ := hO
        obtain ⟨q14, e15⟩ : ∃ q, fX4_layNow x = q := ⟨_, rfl⟩
        have hF := lt_n e15 hF
        try have hO := lo_n e15 hO
        refine ct_callF hM hK hP hD hS (kX4_layNow l D cy a x h13 e15) kvX4_layNow wml_X4_124 rfl 0 rfl rfl rfl rfl hl.1 rfl ⟨rfl, rfl, Nat.le_of_ble_eq_true rfl, Nat.le_of_ble_eq_true rfl⟩ (Nat.le_of_ble_eq_true rfl) ⟨Nat.zero_le _, Nat.zero_le _⟩ dX4_home_36 (fun H locs hP hD hS => ?_)
        refine W.eq (g2 := F0 m 39 ls []) rfl ?_
        have hP : va_P D classes (gwM cy a q14) H := hP
        have hD : va_D A (gwM cy a q14) := hD
        refine lv_bipush (v := (-6)) hx hb dX4_home_39 (by decide) ?_
        refine lv_istore (lv' := [(4, .int (-6)), (0, .ref (a 0)), (1, .int s1), (2, .int s2), (3, .int s3)]) hx hb dX4_home_41 hl (by decide) rfl (fun ls hl => ?_)
        refine lv_ldc (v := 1000000000) hx hb hown (hts _ wct_X4_114) dX4_home_43 ?_
        refine lv_istore (lv' := [(5, .int 1000000000), (4, .int (-6)), (0, .ref (a 0)), (1, .int s1), (2, .int s2), (3, .int s3)]) hx hb dX4_home_45 hl (by decide) rfl (fun ls hl => ?_)
        refine lv_iconst (v := 0) hx hb dX4_home_47 (by decide) ?_
        refine lv_istore (lv' := [(6, .int 0), (5, .int 1000000000), (4, .int (-6)), (0, .ref (a 0)), (1, .int s1), (2, .int s2), (3, .int s3)]) hx hb dX4_home_48 hl (by decide) rfl (fun ls hl => ?_)
        exact tX4_home_50 hM hK 101 q14 (-6) 1000000000 0 H locs ls hP hD hS (lv_sub hl [3, 4, 5, 6, 2, 1, 0] rfl) hO hF
      · have hF := lt_t c12 hF
        have hO := lo_t c12 hO
        refine lv_bipush (v := (-2)) hx hb dX4_home_32 (by decide) ?_
        subst hF
        exact ct_iret hM hP hS dX4_home_34
  · have hF := lt_t c4 hF
    have hO := lo_t c4 hO
    refine lv_iconst (v := (-1)) hx hb dX4_home_8 (by decide) ?_
    subst hF
    exact ct_iret hM hP hS dX4_home_9

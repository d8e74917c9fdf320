abbrev rX4_layNow : Room := { frames := 0, cells := 0, slots := 0, locals := 0 }
def fX4_layNow_2 : Nat → tMs → Int32 → tMs
  | 0, x, s1 => x
  | n + 1, x, s1 => if 8 ≤ s1 then (lt_ (m_fa x) fun x2 => lt_ (m_st x) fun x4 => (m_co x, m_mi x, m_mn x, m_pa x, m_ca x, m_dr x, m_fa x, m_st x, m_ha x, m_pd x, m_pn x, m_fr x, m_at x, m_wa x, m_en x, m_to x, m_or x, m_my x, x2, x4, m_kp x, m_ik x, m_ka x, m_iw x)) else (lt_ ((m_mi x) (Int32.toNatClampNeg s1)) fun x7 => lt_ ((m_mn x) (Int32.toNatClampNeg s1)) fun x9 => lt_ (s1 + 1) fun x11 => fX4_layNow_2 n (m_co x, m_mi x, m_mn x, m_pa x, m_ca x, m_dr x, m_fa x, m_st x, m_ha x, m_pd x, m_pn x, upd (m_fr x) (Int32.toNatClampNeg s1) x7, upd (m_at x) (Int32.toNatClampNeg s1) x9, m_wa x, m_en x, m_to x, m_or x, m_my x, m_bf x, m_bs x, m_kp x, m_ik x, m_ka x, m_iw x) x11)
def oX4_layNow_2 : Nat → tMs → Int32 → Prop
  | 0, _, _ => False
  | n + 1, x, s1 => if 8 ≤ s1 then True else (vp_in s1 8 ∧ (lo_ ((m_mi x) (Int32.toNatClampNeg s1)) fun x7 => lo_ ((m_mn x) (Int32.toNatClampNeg s1)) fun x9 => lo_ (s1 + 1) fun x11 => oX4_layNow_2 n (m_co x, m_mi x, m_mn x, m_pa x, m_ca x, m_dr x, m_fa x, m_st x, m_ha x, m_pd x, m_pn x, upd (m_fr x) (Int32.toNatClampNeg s1) x7, upd (m_at x) (Int32.toNatClampNeg s1) x9, m_wa x, m_en x, m_to x, m_or x, m_my x, m_bf x, m_bs x, m_kp x, m_ik x, m_ka x, m_iw x) x11))
set_option maxHeartbeats 4000000 in
set_option maxRecDepth 100000 in
theorem tX4_layNow_2 {p : Program} {l : Launch} {e : Env} {s : State} {m : MethodId} {args : Array Value} {below : List Frame} {meth : Method} {c : Code} {A : Nat → Prop} {D : va_G} {cy : Nat → ClassId} {a : Nat → Nat} {R : tMs} (hM : MC p s m args meth c RX4 cX4_layNow 2 none) (hK : va_K D classes (ctT cy) s) :
    ∀ (n : Nat) (x : tMs) (s1 : Int32) (H : Heap) (locs : List Loc) (ls : Array Slot), va_P D classes (gwM cy a x) H → va_D A (gwM cy a x) → va_S A s.heap H locs → lv_has ls 2 [(0, .ref (a 0)), (1, .int s1)] → oX4_layNow_2 n x s1 → fX4_layNow_2 n x s1 = R → W p l e rX4_layNow s m args below meth c H locs 0 0 (MQ below (ctQ D none (gwM cy a R) A) args s 0 0 A) (F0 m 2 ls []) := by
  obtain ⟨hx, hb, -, hml, hown, hts, -⟩ := id hM
  intro n
  induction n with
  | zero =>
    intro x s1 H locs ls hP hD hS hl hO hF
    exact False.elim hO
  | succ n ih =>
    intro x s1 H locs ls hP hD hS hl hO hF
    rw [fX4_layNow_2] at hF
    rw [oX4_layNow_2] at hO
    refine lv_iload_n hx hb dX4_layNow_2 rfl (lv_at hl 1 rfl) ?_
    refine lv_bipush (v := 8) hx hb dX4_layNow_3 (by decide) ?_
    refine lv_icmp_ge (tgt := 38) hx hb dX4_layNow_5 (by decide) (fun c1 => ?_) (fun c1 => ?_)
    · have hF := lt_t c1 hF
      have hO := lo_t c1 hO
      refine lv_aload_n hx hb dX4_layNow_38 rfl (lv_at hl 0 rfl) ?_
      refine lv_aload_n hx hb dX4_layNow_39 rfl (lv_at hl 0 rfl) ?_
      refine ct_get (C := RX4) (T := TX4) (N := 24) (ci := 4) (v := .int (m_fa x)) hM hK hP inX4 0 rfl rfl 6 (by decide) wfl_X4_54 rfl dX4_layNow_40 ?_
      refine lv_topi (fun x2 e3 => ?_)
      have hF := lt_n e3.symm hF
      try have hO := lo_n e3.symm hO
      refine ct_put1 (C := RX4) (T := TX4) (N := 24) (ci := 4) (v := .int x2) hM hK hP hD hS inX4 tyX4 tyX4_ok nmX4 0 rfl rfl 18 (by decide) wfl_X4_100 rfl (by first | rfl | decide) (by first | rfl | decide) (Nat.le_of_ble_eq_true rfl) dX4_layNow_43 (fun H locs hP hD hS => ?_)
      have hP : va_P D classes (gwM cy a (m_co x, m_mi x, m_mn x, m_pa x, m_ca x, m_dr x, m_fa x, m_st x, m_ha x, m_pd x, m_pn x, m_fr x, m_at x, m_wa x, m_en x, m_to x, m_or x, m_my x, x2, m_bs x, m_kp x, m_ik x, m_ka x, m_iw x)) H := hP
      have hD : va_D A (gwM cy a (m_co x, m_mi x, m_mn x, m_pa x, m_ca x, m_dr x, m_fa x, m_st x, m_ha x, m_pd x, m_pn x, m_fr x, m_at x, m_wa x, m_en x, m_to x, m_or x, m_my x, x2, m_bs x, m_kp x, m_ik x, m_ka x, m_iw x)) := hD
      refine lv_aload_n hx hb dX4_layNow_46 rfl (lv_at hl 0 rfl) ?_
      refine lv_aload_n hx hb dX4_layNow_47 rfl (lv_at hl 0 rfl) ?_
      refine ct_get (C := RX4) (T := TX4) (N := 24) (ci := 4) (v := .int (m_st x)) hM hK hP inX4 0 rfl rfl 7 (by decide) wfl_X4_87 rfl dX4_layNow_48 ?_
      refine lv_topi (fun x4 e5 => ?_)
      have hF := lt_n e5.symm hF
      try have hO := lo_n e5.symm hO
      refine ct_put1 (C := RX4) (T := TX4) (N := 24) (ci := 4) (v := .int x4) hM hK hP hD hS inX4 tyX4 tyX4_ok nmX4 0 rfl rfl 19 (by decide) wfl_X4_103 rfl (by first | rfl | decide) (by first | rfl | decide) (Nat.le_of_ble_eq_true rfl) dX4_layNow_51 (fun H locs hP hD hS => ?_)
      have hP : va_P D classes (gwM cy a (m_co x, m_mi x, m_mn x, m_pa x, m_ca x, m_dr x, m_fa x, m_st x, m_ha x, m_pd x, m_pn x, m_fr x, m_at x, m_wa x, m_en x, m_to x, m_or x, m_my x, x2, x4, m_kp x, m_ik x, m_ka x, m_iw x)) H := hP
      have hD : va_D A (gwM cy a (m_co x, m_mi x, m_mn x, m_pa x, m_ca x, m_dr x, m_fa x, m_st x, m_ha x, m_pd x, m_pn x, m_fr x, m_at x, m_wa x, m_en x, m_to x, m_or x, m_my x, x2, x4, m_kp x, m_ik x, m_ka x, m_iw x)) := hD
      subst hF
      exact ct_vret hM hP hS dX4_layNow_54
    · have hF := lt_f c1 hF
      have hO := lo_f c1 hO
      refine lv_aload_n hx hb dX4_layNow_8 rfl (lv_at hl 0 rfl) ?_
      refine ct_get (C := RX4) (T := TX4) (N := 24) (ci := 4) (v := .ref (a 6)) hM hK hP inX4 0 rfl rfl 11 (by decide) wfl_X4_25 rfl dX4_layNow_9 ?_
      refine lv_iload_n hx hb dX4_layNow_12 rfl (lv_at hl 1 rfl) ?_
      refine lv_aload_n hx hb dX4_layNow_13 rfl (lv_at hl 0 rfl) ?_
      refine ct_get (C := RX4) (T := TX4) (N := 24) (ci := 4) (v := .ref (a 1)) hM hK hP inX4 0 rfl rfl 1 (by decide) wfl_X4_7 rfl dX4_layNow_14 ?_
      refine lv_iload_n hx hb dX4_layNow_17 rfl (lv_at hl 1 rfl) ?_
      obtain ⟨h6, hO⟩ := hO
      refine va_iald hx hb hK hP 1 0 (f := m_mi x) (n := 8) (cA := cy 0) rfl rfl h6 dX4_layNow_18 ?_
      refine lv_topi (fun x7 e8 => ?_)
      have hF := lt_n e8.symm hF
      try have hO := lo_n e8.symm hO
      refine va_iast hx hb hK hP hD hS 6 0 (f := m_fr x) (n := 8) (cA := cy 0) rfl rfl h6 dX4_layNow_19 (fun H locs hP hD hS => ?_)
      have hP : va_P D classes (gwM cy a (m_co x, m_mi x, m_mn x, m_pa x, m_ca x, m_dr x, m_fa x, m_st x, m_ha x, m_pd x, m_pn x, upd (m_fr x) (Int32.toNatClampNeg s1) x7, m_at x, m_wa x, m_en x, m_to x, m_or x, m_my x, m_bf x, m_bs x, m_kp x, m_ik x, m_ka x, m_iw x)) H := hP
      have hD : va_D A (gwM cy a (m_co x, m_mi x, m_mn x, m_pa x, m_ca x, m_dr x, m_fa x, m_st x, m_ha x, m_pd x, m_pn x, upd (m_fr x) (Int32.toNatClampNeg s1) x7, m_at x, m_wa x, m_en x, m_to x, m_or x, m_my x, m_bf x, m_bs x, m_kp x, m_ik x, m_ka x, m_iw x)) := hD
      refine lv_aload_n hx hb dX4_layNow_20 rfl (lv_at hl 0 rfl) ?_
      refine ct_get (C := RX4) (T := TX4) (N := 24) (ci := 4) (v := .ref (a 7)) hM hK hP inX4 0 rfl rfl 12 (by decide) wfl_X4_28 rfl dX4_layNow_21 ?_
      refine lv_iload_n hx hb dX4_layNow_24 rfl (lv_at hl 1 rfl) ?_
      refine lv_aload_n hx hb dX4_layNow_25 rfl (lv_at hl 0 rfl) ?_
      refine ct_get (C := RX4) (T := TX4) (N := 24) (ci := 4) (v := .ref (a 2)) hM hK hP inX4 0 rfl rfl 2 (by decide) wfl_X4_13 rfl dX4_layNow_26 ?_
      refine lv_iload_n hx hb dX4_layNow_29 rfl (lv_at hl 1 rfl) ?_
      refine va_iald hx hb hK hP 2 0 (f := m_mn x) (n := 8) (cA := cy 0) rfl rfl h6 dX4_layNow_30 ?_
      refine lv_topi (fun x9 e10 => ?_)
      have hF := lt_n e10.symm hF
      try have hO := lo_n e10.symm hO
      refine va_iast hx hb hK hP hD hS 7 0 (f := m_at x) (n := 8) (cA := cy 0) rfl rfl h6 dX4_layNow_31 (fun H locs hP hD hS => ?_)
      have hP : va_P D classes (gwM cy a (m_co x, m_mi x, m_mn x, m_pa x, m_ca x, m_dr x, m_fa x, m_st x, m_ha x, m_pd x, m_pn x, upd (m_fr x) (Int32.toNatClampNeg s1) x7, upd (m_at x) (Int32.toNatClampNeg s1) x9, m_wa x, m_en x, m_to x, m_or x, m_my x, m_bf x, m_bs x, m_kp x, m_ik x, m_ka x, m_iw x)) H := hP
      have hD : va_D A (gwM cy a (m_co x, m_mi x, m_mn x, m_pa x, m_ca x, m_dr x, m_fa x, m_st x, m_ha x, m_pd x, m_pn x, upd (m_fr x) (Int32.toNatClampNeg s1) x7, upd (m_at x) (Int32.toNatClampNeg s1) x9, m_wa x, m_en x, m_to x, m_or x, m_my x, m_bf x, m_bs x, m_kp x, m_ik x, m_ka x, m_iw x)) := hD
      obtain ⟨x11, e12⟩ : ∃ y : Int32, s1 + 1 = y := ⟨_, rfl⟩
      have hF := lt_n e12 hF
      try have hO := lo_n e12 hO
      refine lv_iinc (v := x11) (lv' := [(1, .int x11), (0, .ref (a 0))]) hx hb dX4_layNow_32 hl (k := 1) rfl (by rw [← e12]; rfl) (by decide) rfl (fun ls hl => ?_)
      refine lv_goto (tgt := 2) hx hb dX4_layNow_35 (by decide) ?_
      exact ih (m_co x, m_mi x, m_mn x, m_pa x, m_ca x, m_dr x, m_fa x, m_st x, m_ha x, m_pd x, m_pn x, upd (m_fr x) (Int32.toNatClampNeg s1) x7, upd (m_at x) (Int32.toNatClampNeg s1) x9, m_wa x, m_en x, m_to x, m_or x, m_my x, m_bf x, m_bs x, m_kp x, m_ik x, m_ka x, m_iw x) x11 H locs ls hP hD hS (lv_sub hl [1, 0] rfl) hO hF

def fX4_layNow (x : tMs) : tMs := fX4_layNow_2 9 x 0
def oX4_layNow (x : tMs) : Prop := oX4_layNow_2 9 x 0
theorem kvX4_layNow : KV yX4_layNow cX4_layNow 2 none 0 := ⟨wcd_X4_layNow, wim_X4_layNow, wsl_X4_layNow, win_X4, by decide +kernel, by decide +kernel, by decide +kernel⟩
set_option maxHeartbeats 4000000 in
set_option maxRecDepth 100000 in
theorem kX4_layNow (l : Launch) (D : va_G) (cy : Nat → ClassId) (a : Nat → Nat) (x : tMs) {R : tMs} (hO : oX4_layNow x) (hF : fX4_layNow x = R) : CT l D cy yX4_layNow cX4_layNow 2 none rX4_layNow [.ref (a 0)] (gwM cy a x) none (gwM cy a R) := by
  refine ct_of (by decide) (Nat.le_of_ble_eq_true rfl) ?_
  intro p e s m args below meth c A ls hM hK hP hD hS hl
  obtain ⟨hx, hb, -, hml, hown, hts, -⟩ := id hM
  have hl : lv_has ls 2 [(0, .ref (a 0))] := hl
  obtain ⟨H, hH⟩ : ∃ H : Heap, H = s.heap := ⟨_, rfl⟩
  obtain ⟨locs, hlocs⟩ : ∃ q : List Loc, q = [] := ⟨_, rfl⟩
  have hP : va_P D classes (gwM cy a x) H := by rw [hH]; exact hP
  have hS : va_S A s.heap H locs := by rw [hH, hlocs]; exact hS
  suffices hg : W p l e rX4_layNow s m args below meth c H locs 0 0 (MQ below (ctQ D none (gwM cy a R) A) args s 0 0 A) (F0 m 0 ls []) by rw [hH, hlocs] at hg; exact hg
  clear hH hlocs
  unfold fX4_layNow at hF
  unfold oX4_layNow at hO
  refine lv_iconst (v := 0) hx hb dX4_layNow_0 (by decide) ?_
  refine lv_istore_n (lv' := [(1, .int 0), (0, .ref (a 0))]) hx hb dX4_layNow_1 rfl hl (by decide) rfl (fun ls hl => ?_)
  exact tX4_layNow_2 hM hK 9 x 0 H locs ls hP hD hS (lv_sub hl [1, 0] rfl) hO hF

abbrev rX4_claimOf : Room := { frames := 0, cells := 0, slots := 0, locals := 0 }
def fX4_claimOf (x : tMs) (s1 : Int32) (s2 : Int32) : Int32 := if m_ha x = 1 then (if (m_ca x) (Int32.toNatClampNeg s1) = 1 then (lt_ ((m_fr x) (Int32.toNatClampNeg s1) / 2) fun x9 => ((m_bf x * x9) + (m_bs x * (s2 - (m_at x) (Int32.toNatClampNeg s1))))) else (lt_ ((m_fr x) (Int32.toNatClampNeg s1)) fun x7 => ((m_bf x * x7) + (m_bs x * (s2 - (m_at x) (Int32.toNatClampNeg s1)))))) else (lt_ ((m_fr x) (Int32.toNatClampNeg s1)) fun x3 => ((m_bf x * x3) + (m_bs x * (s2 - (m_at x) (Int32.toNatClampNeg s1)))))
def oX4_claimOf (x : tMs) (s1 : Int32) (s2 : Int32) : Prop := if m_ha x = 1 then (vp_in s1 8 ∧ True) else (vp_in s1 8 ∧ True)
theorem kvX4_claimOf : KV yX4_claimOf cX4_claimOf 4 (some .int) 2 := ⟨wcd_X4_claimOf, wim_X4_claimOf, wsl_X4_claimOf, win_X4, by decide +kernel, by decide +kernel, by decide +kernel⟩
set_option maxHeartbeats 4000000 in
set_option maxRecDepth 100000 in
theorem kX4_claimOf (l : Launch) (D : va_G) (cy : Nat → ClassId) (a : Nat → Nat) (x : tMs) (s1 : Int32) (s2 : Int32) {R : Int32} (hO : oX4_claimOf x s1 s2) (hF : fX4_claimOf x s1 s2 = R) : CT l D cy yX4_claimOf cX4_claimOf 4 (some .int) rX4_claimOf [.ref (a 0), .int s1, .int s2] (gwM cy a x) (some (.int R)) (gwM cy a x) := by
  refine ct_of (by decide) (Nat.le_of_ble_eq_true rfl) ?_
  intro p e s m args below meth c A ls hM hK hP hD hS hl
  obtain ⟨hx, hb, -, hml, hown, hts, -⟩ := id hM
  have hl : lv_has ls 4 [(0, .ref (a 0)), (1, .int s1), (2, .int s2)] := hl
  obtain ⟨H, hH⟩ : ∃ H : Heap, H = s.heap := ⟨_, rfl⟩
  obtain ⟨locs, hlocs⟩ : ∃ q : List Loc, q = [] := ⟨_, rfl⟩
  have hP : va_P D classes (gwM cy a x) H := by rw [hH]; exact hP
  have hS : va_S A s.heap H locs := by rw [hH, hlocs]; exact hS
  suffices hg : W p l e rX4_claimOf s m args below meth c H locs 0 0 (MQ below (ctQ D (some (.int R)) (gwM cy a x) A) args s 0 0 A) (F0 m 0 ls []) by rw [hH, hlocs] at hg; exact hg
  clear hH hlocs
  unfold fX4_claimOf at hF
  unfold oX4_claimOf at hO
  refine lv_aload_n hx hb dX4_claimOf_0 rfl (lv_at hl 0 rfl) ?_
  refine ct_get (C := RX4) (T := TX4) (N := 24) (ci := 4) (v := .int (m_ha x)) hM hK hP inX4 0 rfl rfl 8 (by decide) wfl_X4_90 rfl dX4_claimOf_1 ?_
  refine lv_iconst (v := 1) hx hb dX4_claimOf_4 (by decide) ?_
  refine lv_icmp_ne (tgt := 29) hx hb dX4_claimOf_5 (by decide) (fun c1 => ?_) (fun c1 => ?_)
  · have hF := lt_f c1 hF
    have hO := lo_f c1 hO
    refine lv_aload_n hx hb dX4_claimOf_29 rfl (lv_at hl 0 rfl) ?_
    refine ct_get (C := RX4) (T := TX4) (N := 24) (ci := 4) (v := .ref (a 6)) hM hK hP inX4 0 rfl rfl 11 (by decide) wfl_X4_25 rfl dX4_claimOf_30 ?_
    refine lv_iload_n hx hb dX4_claimOf_33 rfl (lv_at hl 1 rfl) ?_
    obtain ⟨h2, hO⟩ := hO
    refine va_iald hx hb hK hP 6 0 (f := m_fr x) (n := 8) (cA := cy 0) rfl rfl h2 dX4_claimOf_34 ?_
    refine lv_topi (fun x3 e4 => ?_)
    have hF := lt_n e4.symm hF
    try have hO := lo_n e4.symm hO
    refine lv_istore_n (lv' := [(3, .int x3), (0, .ref (a 0)), (1, .int s1), (2, .int s2)]) hx hb dX4_claimOf_35 rfl hl (by decide) rfl (fun ls hl => ?_)
    refine lv_aload_n hx hb dX4_claimOf_36 rfl (lv_at hl 1 rfl) ?_
    refine ct_get (C := RX4) (T := TX4) (N := 24) (ci := 4) (v := .int (m_bf x)) hM hK hP inX4 0 rfl rfl 18 (by decide) wfl_X4_100 rfl dX4_claimOf_37 ?_
    refine lv_iload_n hx hb dX4_claimOf_40 rfl (lv_at hl 0 rfl) ?_
    refine lv_imul hx hb dX4_claimOf_41 ?_
    refine lv_aload_n hx hb dX4_claimOf_42 rfl (lv_at hl 1 rfl) ?_
    refine ct_get (C := RX4) (T := TX4) (N := 24) (ci := 4) (v := .int (m_bs x)) hM hK hP inX4 0 rfl rfl 19 (by decide) wfl_X4_103 rfl dX4_claimOf_43 ?_
    refine lv_iload_n hx hb dX4_claimOf_46 rfl (lv_at hl 3 rfl) ?_
    refine lv_aload_n hx hb dX4_claimOf_47 rfl (lv_at hl 1 rfl) ?_
    refine ct_get (C := RX4) (T := TX4) (N := 24) (ci := 4) (v := .ref (a 7)) hM hK hP inX4 0 rfl rfl 12 (by decide) wfl_X4_28 rfl dX4_claimOf_48 ?_
    refine lv_iload_n hx hb dX4_claimOf_51 rfl (lv_at hl 2 rfl) ?_
    refine va_iald hx hb hK hP 7 0 (f := m_at x) (n := 8) (cA := cy 0) rfl rfl h2 dX4_claimOf_52 ?_
    refine lv_isub hx hb dX4_claimOf_53 ?_
    refine lv_imul hx hb dX4_claimOf_54 ?_
    refine lv_iadd hx hb dX4_claimOf_55 ?_
    subst hF
    exact ct_iret hM hP hS dX4_claimOf_56
  · have hF := lt_t c1 hF
    have hO := lo_t c1 hO
    refine lv_aload_n hx hb dX4_claimOf_8 rfl (lv_at hl 0 rfl) ?_
    refine ct_get (C := RX4) (T := TX4) (N := 24) (ci := 4) (v := .ref (a 4)) hM hK hP inX4 0 rfl rfl 4 (by decide) wfl_X4_19 rfl dX4_claimOf_9 ?_
    refine lv_iload_n hx hb dX4_claimOf_12 rfl (lv_at hl 1 rfl) ?_
    obtain ⟨h5, hO⟩ := hO
    refine va_iald hx hb hK hP 4 0 (f := m_ca x) (n := 8) (cA := cy 0) rfl rfl h5 dX4_claimOf_13 ?_
    refine lv_iconst (v := 1) hx hb dX4_claimOf_14 (by decide) ?_
    refine lv_icmp_ne (tgt := 29) hx hb dX4_claimOf_15 (by decide) (fun c6 => ?_) (fun c6 => ?_)
    · have hF := lt_f c6 hF
      refine lv_aload_n hx hb dX4_claimOf_29 rfl (lv_at hl 0 rfl) ?_
      refine ct_get (C := RX4) (T := TX4) (N := 24) (ci := 4) (v := .ref (a 6)) hM hK hP inX4 0 rfl rfl 11 (by decide) wfl_X4_25 rfl dX4_claimOf_30 ?_
      refine lv_iload_n hx hb dX4_claimOf_33 rfl (lv_at hl 1 rfl) ?_
      refine va_iald hx hb hK hP 6 0 (f := m_fr x) (n := 8) (cA := cy 0) rfl rfl h5 dX4_claimOf_34 ?_
      refine lv_topi (fun x7 e8 => ?_)
      have hF := lt_n e8.symm hF
      try have hO := lo_n e8.symm hO
      refine lv_istore_n (lv' := [(3, .int x7), (0, .ref (a 0)), (1, .int s1), (2, .int s2)]) hx hb dX4_claimOf_35 rfl hl (by decide) rfl (fun ls hl => ?_)
      refine lv_aload_n hx hb dX4_claimOf_36 rfl (lv_at hl 1 rfl) ?_
      refine ct_get (C := RX4) (T := TX4) (N := 24) (ci := 4) (v := .int (m_bf x)) hM hK hP inX4 0 rfl rfl 18 (by decide) wfl_X4_100 rfl dX4_claimOf_37 ?_
      refine lv_iload_n hx hb dX4_claimOf_40 rfl (lv_at hl 0 rfl) ?_
      refine lv_imul hx hb dX4_claimOf_41 ?_
      refine lv_aload_n hx hb dX4_claimOf_42 rfl (lv_at hl 1 rfl) ?_
      refine ct_get (C := RX4) (T := TX4) (N := 24) (ci := 4) (v := .int (m_bs x)) hM hK hP inX4 0 rfl rfl 19 (by decide) wfl_X4_103 rfl dX4_claimOf_43 ?_
      refine lv_iload_n hx hb dX4_claimOf_46 rfl (lv_at hl 3 rfl) ?_
      refine lv_aload_n hx hb dX4_claimOf_47 rfl (lv_at hl 1 rfl) ?_
      refine ct_get (C := RX4) (T := TX4) (N := 24) (ci := 4) (v := .ref (a 7)) hM hK hP inX4 0 rfl rfl 12 (by decide) wfl_X4_28 rfl dX4_claimOf_48 ?_
      refine lv_iload_n hx hb dX4_claimOf_51 rfl (lv_at hl 2 rfl) ?_
      refine va_iald hx hb hK hP 7 0 (f := m_at x) (n := 8) (cA := cy 0) rfl rfl h5 dX4_claimOf_52 ?_
      refine lv_isub hx hb dX4_claimOf_53 ?_
      refine lv_imul hx hb dX4_claimOf_54 ?_
      refine lv_iadd hx hb dX4_claimOf_55 ?_
      subst hF
      exact ct_iret hM hP hS dX4_claimOf_56
    · have hF := lt_t c6 hF
      refine lv_aload_n hx hb dX4_claimOf_18 rfl (lv_at hl 0 rfl) ?_
      refine ct_get (C := RX4) (T := TX4) (N := 24) (ci := 4) (v := .ref (a 6)) hM hK hP inX4 0 rfl rfl 11 (by decide) wfl_X4_25 rfl dX4_claimOf_19 ?_
      refine lv_iload_n hx hb dX4_claimOf_22 rfl (lv_at hl 1 rfl) ?_
      refine va_iald hx hb hK hP 6 0 (f := m_fr x) (n := 8) (cA := cy 0) rfl rfl h5 dX4_claimOf_23 ?_
      refine lv_iconst (v := 2) hx hb dX4_claimOf_24 (by decide) ?_
      refine lv_idiv hx hb dX4_claimOf_25 (by decide) ?_
      refine lv_goto (tgt := 35) hx hb dX4_claimOf_26 (by decide) ?_
      refine lv_topi (fun x9 e10 => ?_)
      have hF := lt_n e10.symm hF
      try have hO := lo_n e10.symm hO
      refine lv_istore_n (lv' := [(3, .int x9), (0, .ref (a 0)), (1, .int s1), (2, .int s2)]) hx hb dX4_claimOf_35 rfl hl (by decide) rfl (fun ls hl => ?_)
      refine lv_aload_n hx hb dX4_claimOf_36 rfl (lv_at hl 1 rfl) ?_
      refine ct_get (C := RX4) (T := TX4) (N := 24) (ci := 4) (v := .int (m_bf x)) hM hK hP inX4 0 rfl rfl 18 (by decide) wfl_X4_100 rfl dX4_claimOf_37 ?_
      refine lv_iload_n hx hb dX4_claimOf_40 rfl (lv_at hl 0 rfl) ?_
      refine lv_imul hx hb dX4_claimOf_41 ?_
      refine lv_aload_n hx hb dX4_claimOf_42 rfl (lv_at hl 1 rfl) ?_
      refine ct_get (C := RX4) (T := TX4) (N := 24) (ci := 4) (v := .int (m_bs x)) hM hK hP inX4 0 rfl rfl 19 (by decide) wfl_X4_103 rfl dX4_claimOf_43 ?_
      refine lv_iload_n hx hb dX4_claimOf_46 rfl (lv_at hl 3 rfl) ?_
      refine lv_aload_n hx hb dX4_claimOf_47 rfl (lv_at hl 1 rfl) ?_
      refine ct_get (C := RX4) (T := TX4) (N := 24) (ci := 4) (v := .ref (a 7)) hM hK hP inX4 0 rfl rfl 12 (by decide) wfl_X4_28 rfl dX4_claimOf_48 ?_
      refine lv_iload_n hx hb dX4_claimOf_51 rfl (lv_at hl 2 rfl) ?_
      refine va_iald hx hb hK hP 7 0 (f := m_at x) (n := 8) (cA := cy 0) rfl rfl h5 dX4_claimOf_52 ?_
      refine lv_isub hx hb dX4_claimOf_53 ?_
      refine lv_imul hx hb dX4_claimOf_54 ?_
      refine lv_iadd hx hb dX4_claimOf_55 ?_
      subst hF
      exact ct_iret hM hP hS dX4_claimOf_56

abbrev rX4_isAhead : Room := { frames := 1, cells := 0, slots := 0, locals := 23 }
def fX4_isAhead (x : tMs) (s1 : Int32) (s2 : Int32) (s3 : Int32) : Int32 := lt_ (fX4_claimOf x s1 s3) fun q2 => lt_ (fX4_claimOf x s2 s3) fun q5 => if q2 = q5 then (if (m_at x) (Int32.toNatClampNeg s1) = (m_at x) (Int32.toNatClampNeg s2) then (if s2 ≤ s1 then 0 else 1) else (if (m_at x) (Int32.toNatClampNeg s2) ≤ (m_at x) (Int32.toNatClampNeg s1) then 0 else 1)) else (if q2 ≤ q5 then 0 else 1)
def oX4_isAhead (x : tMs) (s1 : Int32) (s2 : Int32) (s3 : Int32) : Prop := oX4_claimOf x s1 s3 ∧ (lo_ (fX4_claimOf x s1 s3) fun q2 => oX4_claimOf x s2 s3 ∧ (lo_ (fX4_claimOf x s2 s3) fun q5 => if q2 = q5 then (vp_in s1 8 ∧ vp_in s2 8 ∧ True) else True))
theorem kvX4_isAhead : KV yX4_isAhead cX4_isAhead 6 (some .boolean) 3 := ⟨wcd_X4_isAhead, wim_X4_isAhead, wsl_X4_isAhead, win_X4, by decide +kernel, by decide +kernel, by decide +kernel⟩
set_option maxHeartbeats 4000000 in
set_option maxRecDepth 100000 in
theorem kX4_isAhead (l : Launch) (D : va_G) (cy : Nat → ClassId) (a : Nat → Nat) (x : tMs) (s1 : Int32) (s2 : Int32) (s3 : Int32) {R : Int32} (hO : oX4_isAhead x s1 s2 s3) (hF : fX4_isAhead x s1 s2 s3 = R) : CT l D cy yX4_isAhead cX4_isAhead 6 (some .boolean) rX4_isAhead [.ref (a 0), .int s1, .int s2, .int s3] (gwM cy a x) (some (.int R)) (gwM cy a x) := by
  refine ct_of (by decide) (Nat.le_of_ble_eq_true rfl) ?_
  intro p e s m args below meth c A ls hM hK hP hD hS hl
  obtain ⟨hx, hb, -, hml, hown, hts, -⟩ := id hM
  have hl : lv_has ls 6 [(0, .ref (a 0)), (1, .int s1), (2, .int s2), (3, .int s3)] := hl
  obtain ⟨H, hH⟩ : ∃ H : Heap, H = s.heap := ⟨_, rfl⟩
  obtain ⟨locs, hlocs⟩ : ∃ q : List Loc, q = [] := ⟨_, rfl⟩
  have hP : va_P D classes (gwM cy a x) H := by rw [hH]; exact hP
  have hS : va_S A s.heap H locs := by rw [hH, hlocs]; exact hS
  suffices hg : W p l e rX4_isAhead s m args below meth c H locs 0 0 (MQ below (ctQ D (some (.int R)) (gwM cy a x) A) args s 0 0 A) (F0 m 0 ls []) by rw [hH, hlocs] at hg; exact hg
  clear hH hlocs
  unfold fX4_isAhead at hF
  unfold oX4_isAhead at hO
  refine lv_aload_n hx hb dX4_isAhead_0 rfl (lv_at hl 0 rfl) ?_
  refine lv_iload_n hx hb dX4_isAhead_1 rfl (lv_at hl 1 rfl) ?_
  refine lv_iload_n hx hb dX4_isAhead_2 rfl (lv_at hl 3 rfl) ?_
  obtain ⟨h1, hO⟩ := hO
  obtain ⟨q2, e3⟩ : ∃ q, fX4_claimOf x s1 s3 = q := ⟨_, rfl⟩
  have hF := lt_n e3 hF
  try have hO := lo_n e3 hO
  refine ct_callF hM hK hP hD hS (kX4_claimOf l D cy a x s1 s3 h1 e3) kvX4_claimOf wml_X4_106 rfl 0 rfl rfl rfl rfl hl.1 rfl ⟨rfl, rfl, Nat.le_of_ble_eq_true rfl, Nat.le_of_ble_eq_true rfl⟩ (Nat.le_of_ble_eq_true rfl) ⟨Nat.zero_le _, Nat.zero_le _⟩ dX4_isAhead_3 (fun H locs hP hD hS => ?_)
  refine W.eq (g2 := F0 m 6 ls [.int q2]) rfl ?_
  refine lv_istore (lv' := [(4, .int q2), (0, .ref (a 0)), (1, .int s1), (2, .int s2), (3, .int s3)]) hx hb dX4_isAhead_6 hl (by decide) rfl (fun ls hl => ?_)
  refine lv_aload_n hx hb dX4_isAhead_8 rfl (lv_at hl 1 rfl) ?_
  refine lv_iload_n hx hb dX4_isAhead_9 rfl (lv_at hl 3 rfl) ?_
  refine lv_iload_n hx hb dX4_isAhead_10 rfl (lv_at hl 4 rfl) ?_
  obtain ⟨h4, hO⟩ := hO
  obtain ⟨q5, e6⟩ : ∃ q, fX4_claimOf x s2 s3 = q := ⟨_, rfl⟩
  have hF := lt_n e6 hF
  try have hO := lo_n e6 hO
  refine ct_callF hM hK hP hD hS (kX4_claimOf l D cy a x s2 s3 h4 e6) kvX4_claimOf wml_X4_106 rfl 0 rfl rfl rfl rfl hl.1 rfl ⟨rfl, rfl, Nat.le_of_ble_eq_true rfl, Nat.le_of_ble_eq_true rfl⟩ (Nat.le_of_ble_eq_true rfl) ⟨Nat.zero_le _, Nat.zero_le _⟩ dX4_isAhead_11 (fun H locs hP hD hS => ?_)
  refine W.eq (g2 := F0 m 14 ls [.int q5]) rfl ?_
  refine lv_istore (lv' := [(5, .int q5), (4, .int q2), (0, .ref (a 0)), (1, .int s1), (2, .int s2), (3, .int s3)]) hx hb dX4_isAhead_14 hl (by decide) rfl (fun ls hl => ?_)
  refine lv_iload hx hb dX4_isAhead_16 (lv_at hl 1 rfl) ?_
  refine lv_iload hx hb dX4_isAhead_18 (lv_at hl 0 rfl) ?_
  refine lv_icmp_eq (tgt := 38) hx hb dX4_isAhead_20 (by decide) (fun c7 => ?_) (fun c7 => ?_)
  · have hF := lt_t c7 hF
    have hO := lo_t c7 hO
    refine lv_aload_n hx hb dX4_isAhead_38 rfl (lv_at hl 2 rfl) ?_
    refine ct_get (C := RX4) (T := TX4) (N := 24) (ci := 4) (v := .ref (a 7)) hM hK hP inX4 0 rfl rfl 12 (by decide) wfl_X4_28 rfl dX4_isAhead_39 ?_
    refine lv_iload_n hx hb dX4_isAhead_42 rfl (lv_at hl 3 rfl) ?_
    obtain ⟨h8, hO⟩ := hO
    refine va_iald hx hb hK hP 7 0 (f := m_at x) (n := 8) (cA := cy 0) rfl rfl h8 dX4_isAhead_43 ?_
    refine lv_aload_n hx hb dX4_isAhead_44 rfl (lv_at hl 2 rfl) ?_
    refine ct_get (C := RX4) (T := TX4) (N := 24) (ci := 4) (v := .ref (a 7)) hM hK hP inX4 0 rfl rfl 12 (by decide) wfl_X4_28 rfl dX4_isAhead_45 ?_
    refine lv_iload_n hx hb dX4_isAhead_48 rfl (lv_at hl 4 rfl) ?_
    obtain ⟨h9, hO⟩ := hO
    refine va_iald hx hb hK hP 7 0 (f := m_at x) (n := 8) (cA := cy 0) rfl rfl h9 dX4_isAhead_49 ?_
    refine lv_icmp_eq (tgt := 76) hx hb dX4_isAhead_50 (by decide) (fun c10 => ?_) (fun c10 => ?_)
    · have hF := lt_t c10 hF
      refine lv_iload_n hx hb dX4_isAhead_76 rfl (lv_at hl 3 rfl) ?_
      refine lv_iload_n hx hb dX4_isAhead_77 rfl (lv_at hl 4 rfl) ?_
      refine lv_icmp_ge (tgt := 85) hx hb dX4_isAhead_78 (by decide) (fun c11 => ?_) (fun c11 => ?_)
      · have hF := lt_t c11 hF
        refine lv_iconst (v := 0) hx hb dX4_isAhead_85 (by decide) ?_
        subst hF
        exact ct_zret (r := 0) hM hP hS rfl dX4_isAhead_86
      · have hF := lt_f c11 hF
        refine lv_iconst (v := 1) hx hb dX4_isAhead_81 (by decide) ?_
        refine lv_goto (tgt := 86) hx hb dX4_isAhead_82 (by decide) ?_
        subst hF
        exact ct_zret (r := 1) hM hP hS rfl dX4_isAhead_86
    · have hF := lt_f c10 hF
      refine lv_aload_n hx hb dX4_isAhead_53 rfl (lv_at hl 2 rfl) ?_
      refine ct_get (C := RX4) (T := TX4) (N := 24) (ci := 4) (v := .ref (a 7)) hM hK hP inX4 0 rfl rfl 12 (by decide) wfl_X4_28 rfl dX4_isAhead_54 ?_
      refine lv_iload_n hx hb dX4_isAhead_57 rfl (lv_at hl 3 rfl) ?_
      refine va_iald hx hb hK hP 7 0 (f := m_at x) (n := 8) (cA := cy 0) rfl rfl h8 dX4_isAhead_58 ?_
      refine lv_aload_n hx hb dX4_isAhead_59 rfl (lv_at hl 2 rfl) ?_
      refine ct_get (C := RX4) (T := TX4) (N := 24) (ci := 4) (v := .ref (a 7)) hM hK hP inX4 0 rfl rfl 12 (by decide) wfl_X4_28 rfl dX4_isAhead_60 ?_
      refine lv_iload_n hx hb dX4_isAhead_63 rfl (lv_at hl 4 rfl) ?_
      refine va_iald hx hb hK hP 7 0 (f := m_at x) (n := 8) (cA := cy 0) rfl rfl h9 dX4_isAhead_64 ?_
      refine lv_icmp_ge (tgt := 72) hx hb dX4_isAhead_65 (by decide) (fun c12 => ?_) (fun c12 => ?_)
      · have hF := lt_t c12 hF
        refine lv_iconst (v := 0) hx hb dX4_isAhead_72 (by decide) ?_
        refine lv_goto (tgt := 86) hx hb dX4_isAhead_73 (by decide) ?_
        subst hF
        exact ct_zret (r := 0) hM hP hS rfl dX4_isAhead_86
      · have hF := lt_f c12 hF
        refine lv_iconst (v := 1) hx hb dX4_isAhead_68 (by decide) ?_
        refine lv_goto (tgt := 86) hx hb dX4_isAhead_69 (by decide) ?_
        subst hF
        exact ct_zret (r := 1) hM hP hS rfl dX4_isAhead_86
  · have hF := lt_f c7 hF
    have hO := lo_f c7 hO
    refine lv_iload hx hb dX4_isAhead_23 (lv_at hl 1 rfl) ?_
    refine lv_iload hx hb dX4_isAhead_25 (lv_at hl 0 rfl) ?_
    refine lv_icmp_le (tgt := 34) hx hb dX4_isAhead_27 (by decide) (fun c13 => ?_) (fun c13 => ?_)
    · have hF := lt_t c13 hF
      refine lv_iconst (v := 0) hx hb dX4_isAhead_34 (by decide) ?_
      refine lv_goto (tgt := 86) hx hb dX4_isAhead_35 (by decide) ?_
      subst hF
      exact ct_zret (r := 0) hM hP hS rfl dX4_isAhead_86
    · have hF := lt_f c13 hF
      refine lv_iconst (v := 1) hx hb dX4_isAhead_30 (by decide) ?_
      refine lv_goto (tgt := 86) hx hb dX4_isAhead_31 (by decide) ?_
      subst hF
      exact ct_zret (r := 1) hM hP hS rfl dX4_isAhead_86

abbrev rX4_nextOf : Room := { frames := 2, cells := 0, slots := 0, locals := 48 }
def fX4_nextOf_6 (x : tMs) (s1 : Int32) (s2 : Int32) : Nat → Int32 → Int32 → Int32
  | 0, s3, s4 => 0
  | n + 1, s3, s4 => if 8 ≤ s4 then s3 else (if ((s1 >>> (s4 &&& 31)) &&& 1) = 1 then (if s2 < (m_at x) (Int32.toNatClampNeg s4) then (lt_ (s4 + 1) fun x7 => fX4_nextOf_6 x s1 s2 n s3 x7) else (if s3 < 0 then (lt_ (s4 + 1) fun x10 => fX4_nextOf_6 x s1 s2 n s4 x10) else (lt_ (fX4_isAhead x s4 s3 s2) fun q13 => if q13 = 0 then (lt_ (s4 + 1) fun x16 => fX4_nextOf_6 x s1 s2 n s3 x16) else (lt_ (s4 + 1) fun x18 => fX4_nextOf_6 x s1 s2 n s4 x18)))) else (lt_ (s4 + 1) fun x3 => fX4_nextOf_6 x s1 s2 n s3 x3))
def oX4_nextOf_6 (x : tMs) (s1 : Int32) (s2 : Int32) : Nat → Int32 → Int32 → Prop
  | 0, _, _ => False
  | n + 1, s3, s4 => if 8 ≤ s4 then True else (if ((s1 >>> (s4 &&& 31)) &&& 1) = 1 then (vp_in s4 8 ∧ (if s2 < (m_at x) (Int32.toNatClampNeg s4) then (lo_ (s4 + 1) fun x7 => oX4_nextOf_6 x s1 s2 n s3 x7) else (if s3 < 0 then (lo_ (s4 + 1) fun x10 => oX4_nextOf_6 x s1 s2 n s4 x10) else (oX4_isAhead x s4 s3 s2 ∧ (lo_ (fX4_isAhead x s4 s3 s2) fun q13 => if q13 = 0 then (lo_ (s4 + 1) fun x16 => oX4_nextOf_6 x s1 s2 n s3 x16) else (lo_ (s4 + 1) fun x18 => oX4_nextOf_6 x s1 s2 n s4 x18)))))) else (lo_ (s4 + 1) fun x3 => oX4_nextOf_6 x s1 s2 n s3 x3))
set_option maxHeartbeats 4000000 in
set_option maxRecDepth 100000 in
theorem tX4_nextOf_6 {p : Program} {l : Launch} {e : Env} {s : State} {m : MethodId} {args : Array Value} {below : List Frame} {meth : Method} {c : Code} {A : Nat → Prop} {D : va_G} {cy : Nat → ClassId} {a : Nat → Nat} {x : tMs} {s1 : Int32} {s2 : Int32} {R : Int32} (hM : MC p s m args meth c RX4 cX4_nextOf 6 (some .int)) (hK : va_K D classes (ctT cy) s) :
    ∀ (n : Nat) (s3 : Int32) (s4 : Int32) (H : Heap) (locs : List Loc) (ls : Array Slot), va_P D classes (gwM cy a x) H → va_D A (gwM cy a x) → va_S A s.heap H locs → lv_has ls 6 [(0, .ref (a 0)), (1, .int s1), (2, .int s2), (3, .int s3), (4, .int s4)] → oX4_nextOf_6 x s1 s2 n s3 s4 → fX4_nextOf_6 x s1 s2 n s3 s4 = R → W p l e rX4_nextOf s m args below meth c H locs 0 0 (MQ below (ctQ D (some (.int R)) (gwM cy a x) A) args s 0 0 A) (F0 m 6 ls []) := by
  obtain ⟨hx, hb, -, hml, hown, hts, -⟩ := id hM
  intro n
  induction n with
  | zero =>
    intro s3 s4 H locs ls hP hD hS hl hO hF
    exact False.elim hO
  | succ n ih =>
    intro s3 s4 H locs ls hP hD hS hl hO hF
    rw [fX4_nextOf_6] at hF
    rw [oX4_nextOf_6] at hO
    refine lv_iload hx hb dX4_nextOf_6 (lv_at hl 4 rfl) ?_
    refine lv_bipush (v := 8) hx hb dX4_nextOf_8 (by decide) ?_
    refine lv_icmp_ge (tgt := 74) hx hb dX4_nextOf_10 (by decide) (fun c1 => ?_) (fun c1 => ?_)
    · have hF := lt_t c1 hF
      have hO := lo_t c1 hO
      refine lv_iload_n hx hb dX4_nextOf_74 rfl (lv_at hl 3 rfl) ?_
      subst hF
      exact ct_iret hM hP hS dX4_nextOf_75
    · have hF := lt_f c1 hF
      have hO := lo_f c1 hO
      refine lv_iload_n hx hb dX4_nextOf_13 rfl (lv_at hl 1 rfl) ?_
      refine lv_iload hx hb dX4_nextOf_14 (lv_at hl 4 rfl) ?_
      refine lv_ishr hx hb dX4_nextOf_16 ?_
      refine lv_iconst (v := 1) hx hb dX4_nextOf_17 (by decide) ?_
      refine lv_iand hx hb dX4_nextOf_18 ?_
      refine lv_iconst (v := 1) hx hb dX4_nextOf_19 (by decide) ?_
      refine lv_icmp_ne (tgt := 38) hx hb dX4_nextOf_20 (by decide) (fun c2 => ?_) (fun c2 => ?_)
      · have hF := lt_f c2 hF
        have hO := lo_f c2 hO
        refine lv_iconst (v := 0) hx hb dX4_nextOf_38 (by decide) ?_
        refine lv_istore (lv' := [(5, .int 0), (0, .ref (a 0)), (1, .int s1), (2, .int s2), (3, .int s3), (4, .int s4)]) hx hb dX4_nextOf_39 hl (by decide) rfl (fun ls hl => ?_)
        refine lv_iload hx hb dX4_nextOf_41 (lv_at hl 0 rfl) ?_
        refine lv_if_eq (tgt := 66) hx hb dX4_nextOf_43 (by decide) (fun _ => ?_) (fun z => absurd (by decide) z)
        refine lv_iload_n hx hb dX4_nextOf_66 rfl (lv_at hl 4 rfl) ?_
        refine lv_istore_n (lv' := [(3, .int s3), (5, .int 0), (0, .ref (a 0)), (1, .int s1), (2, .int s2), (4, .int s4)]) hx hb dX4_nextOf_67 rfl hl (by decide) rfl (fun ls hl => ?_)
        obtain ⟨x3, e4⟩ : ∃ y : Int32, s4 + 1 = y := ⟨_, rfl⟩
        have hF := lt_n e4 hF
        try have hO := lo_n e4 hO
        refine lv_iinc (v := x3) (lv' := [(4, .int x3), (3, .int s3), (5, .int 0), (0, .ref (a 0)), (1, .int s1), (2, .int s2)]) hx hb dX4_nextOf_68 hl (k := 5) rfl (by rw [← e4]; rfl) (by decide) rfl (fun ls hl => ?_)
        refine lv_goto (tgt := 6) hx hb dX4_nextOf_71 (by decide) ?_
        exact ih s3 x3 H locs ls hP hD hS (lv_sub hl [3, 4, 5, 1, 0] rfl) hO hF
      · have hF := lt_t c2 hF
        have hO := lo_t c2 hO
        refine lv_aload_n hx hb dX4_nextOf_23 rfl (lv_at hl 0 rfl) ?_
        refine ct_get (C := RX4) (T := TX4) (N := 24) (ci := 4) (v := .ref (a 7)) hM hK hP inX4 0 rfl rfl 12 (by decide) wfl_X4_28 rfl dX4_nextOf_24 ?_
        refine lv_iload hx hb dX4_nextOf_27 (lv_at hl 4 rfl) ?_
        obtain ⟨h5, hO⟩ := hO
        refine va_iald hx hb hK hP 7 0 (f := m_at x) (n := 8) (cA := cy 0) rfl rfl h5 dX4_nextOf_29 ?_
        refine lv_iload_n hx hb dX4_nextOf_30 rfl (lv_at hl 2 rfl) ?_
        refine lv_icmp_gt (tgt := 38) hx hb dX4_nextOf_31 (by decide) (fun c6 => ?_) (fun c6 => ?_)
        · have hF := lt_t c6 hF
          have hO := lo_t c6 hO
          refine lv_iconst (v := 0) hx hb dX4_nextOf_38 (by decide) ?_
          refine lv_istore (lv' := [(5, .int 0), (0, .ref (a 0)), (1, .int s1), (2, .int s2), (3, .int s3), (4, .int s4)]) hx hb dX4_nextOf_39 hl (by decide) rfl (fun ls hl => ?_)
          refine lv_iload hx hb dX4_nextOf_41 (lv_at hl 0 rfl) ?_
          refine lv_if_eq (tgt := 66) hx hb dX4_nextOf_43 (by decide) (fun _ => ?_) (fun z => absurd (by decide) z)
          refine lv_iload_n hx hb dX4_nextOf_66 rfl (lv_at hl 4 rfl) ?_
          refine lv_istore_n (lv' := [(3, .int s3), (5, .int 0), (0, .ref (a 0)), (1, .int s1), (2, .int s2), (4, .int s4)]) hx hb dX4_nextOf_67 rfl hl (by decide) rfl (fun ls hl => ?_)
          obtain ⟨x7, e8⟩ : ∃ y : Int32, s4 + 1 = y := ⟨_, rfl⟩
          have hF := lt_n e8 hF
          try have hO := lo_n e8 hO
          refine lv_iinc (v := x7) (lv' := [(4, .int x7), (3, .int s3), (5, .int 0), (0, .ref (a 0)), (1, .int s1), (2, .int s2)]) hx hb dX4_nextOf_68 hl (k := 5) rfl (by rw [← e8]; rfl) (by decide) rfl (fun ls hl => ?_)
          refine lv_goto (tgt := 6) hx hb dX4_nextOf_71 (by decide) ?_
          exact ih s3 x7 H locs ls hP hD hS (lv_sub hl [3, 4, 5, 1, 0] rfl) hO hF
        · have hF := lt_f c6 hF
          have hO := lo_f c6 hO
          refine lv_iconst (v := 1) hx hb dX4_nextOf_34 (by decide) ?_
          refine lv_goto (tgt := 39) hx hb dX4_nextOf_35 (by decide) ?_
          refine lv_istore (lv' := [(5, .int 1), (0, .ref (a 0)), (1, .int s1), (2, .int s2), (3, .int s3), (4, .int s4)]) hx hb dX4_nextOf_39 hl (by decide) rfl (fun ls hl => ?_)
          refine lv_iload hx hb dX4_nextOf_41 (lv_at hl 0 rfl) ?_
          refine lv_if_eq (tgt := 66) hx hb dX4_nextOf_43 (by decide) (fun z => absurd z (by decide)) (fun _ => ?_)
          refine lv_iload_n hx hb dX4_nextOf_46 rfl (lv_at hl 4 rfl) ?_
          refine lv_if_lt (tgt := 61) hx hb dX4_nextOf_47 (by decide) (fun c9 => ?_) (fun c9 => ?_)
          · have hF := lt_t c9 hF
            have hO := lo_t c9 hO
            refine lv_iload hx hb dX4_nextOf_61 (lv_at hl 5 rfl) ?_
            refine lv_goto (tgt := 67) hx hb dX4_nextOf_63 (by decide) ?_
            refine lv_istore_n (lv' := [(3, .int s4), (5, .int 1), (0, .ref (a 0)), (1, .int s1), (2, .int s2), (4, .int s4)]) hx hb dX4_nextOf_67 rfl hl (by decide) rfl (fun ls hl => ?_)
            obtain ⟨x10, e11⟩ : ∃ y : Int32, s4 + 1 = y := ⟨_, rfl⟩
            have hF := lt_n e11 hF
            try have hO := lo_n e11 hO
            refine lv_iinc (v := x10) (lv' := [(4, .int x10), (3, .int s4), (5, .int 1), (0, .ref (a 0)), (1, .int s1), (2, .int s2)]) hx hb dX4_nextOf_68 hl (k := 5) rfl (by rw [← e11]; rfl) (by decide) rfl (fun ls hl => ?_)
            refine lv_goto (tgt := 6) hx hb dX4_nextOf_71 (by decide) ?_
            exact ih s4 x10 H locs ls hP hD hS (lv_sub hl [3, 4, 5, 1, 0] rfl) hO hF
          · have hF := lt_f c9 hF
            have hO := lo_f c9 hO
            refine lv_aload_n hx hb dX4_nextOf_50 rfl (lv_at hl 1 rfl) ?_
            refine lv_iload hx hb dX4_nextOf_51 (lv_at hl 5 rfl) ?_
            refine lv_iload_n hx hb dX4_nextOf_53 rfl (lv_at hl 4 rfl) ?_
            refine lv_iload_n hx hb dX4_nextOf_54 rfl (lv_at hl 3 rfl) ?_
            obtain ⟨h12, hO⟩ := hO
            obtain ⟨q13, e14⟩ : ∃ q, fX4_isAhead x s4 s3 s2 = q := ⟨_, rfl⟩
            have hF := lt_n e14 hF
            try have hO := lo_n e14 hO
            refine ct_callF hM hK hP hD hS (kX4_isAhead l D cy a x s4 s3 s2 h12 e14) kvX4_isAhead wml_X4_110 rfl 0 rfl rfl rfl rfl hl.1 rfl ⟨rfl, rfl, Nat.le_of_ble_eq_true rfl, Nat.le_of_ble_eq_true rfl⟩ (Nat.le_of_ble_eq_true rfl) ⟨Nat.zero_le _, Nat.zero_le _⟩ dX4_nextOf_55 (fun H locs hP hD hS => ?_)
            refine W.eq (g2 := F0 m 58 ls [.int q13]) rfl ?_
            refine lv_if_eq (tgt := 66) hx hb dX4_nextOf_58 (by decide) (fun c15 => ?_) (fun c15 => ?_)
            · have hF := lt_t c15 hF
              have hO := lo_t c15 hO
              refine lv_iload_n hx hb dX4_nextOf_66 rfl (lv_at hl 4 rfl) ?_
              refine lv_istore_n (lv' := [(3, .int s3), (5, .int 1), (0, .ref (a 0)), (1, .int s1), (2, .int s2), (4, .int s4)]) hx hb dX4_nextOf_67 rfl hl (by decide) rfl (fun ls hl => ?_)
              obtain ⟨x16, e17⟩ : ∃ y : Int32, s4 + 1 = y := ⟨_, rfl⟩
              have hF := lt_n e17 hF
              try have hO := lo_n e17 hO
              refine lv_iinc (v := x16) (lv' := [(4, .int x16), (3, .int s3), (5, .int 1), (0, .ref (a 0)), (1, .int s1), (2, .int s2)]) hx hb dX4_nextOf_68 hl (k := 5) rfl (by rw [← e17]; rfl) (by decide) rfl (fun ls hl => ?_)
              refine lv_goto (tgt := 6) hx hb dX4_nextOf_71 (by decide) ?_
              exact ih s3 x16 H locs ls hP hD hS (lv_sub hl [3, 4, 5, 1, 0] rfl) hO hF
            · have hF := lt_f c15 hF
              have hO := lo_f c15 hO
              refine lv_iload hx hb dX4_nextOf_61 (lv_at hl 5 rfl) ?_
              refine lv_goto (tgt := 67) hx hb dX4_nextOf_63 (by decide) ?_
              refine lv_istore_n (lv' := [(3, .int s4), (5, .int 1), (0, .ref (a 0)), (1, .int s1), (2, .int s2), (4, .int s4)]) hx hb dX4_nextOf_67 rfl hl (by decide) rfl (fun ls hl => ?_)
              obtain ⟨x18, e19⟩ : ∃ y : Int32, s4 + 1 = y := ⟨_, rfl⟩
              have hF := lt_n e19 hF
              try have hO := lo_n e19 hO
              refine lv_iinc (v := x18) (lv' := [(4, .int x18), (3, .int s4), (5, .int 1), (0, .ref (a 0)), (1, .int s1), (2, .int s2)]) hx hb dX4_nextOf_68 hl (k := 5) rfl (by rw [← e19]; rfl) (by decide) rfl (fun ls hl => ?_)
              refine lv_goto (tgt := 6) hx hb dX4_nextOf_71 (by decide) ?_
              exact ih s4 x18 H locs ls hP hD hS (lv_sub hl [3, 4, 5, 1, 0] rfl) hO hF

def fX4_nextOf (x : tMs) (s1 : Int32) (s2 : Int32) : Int32 := fX4_nextOf_6 x s1 s2 9 (-6) 0
def oX4_nextOf (x : tMs) (s1 : Int32) (s2 : Int32) : Prop := oX4_nextOf_6 x s1 s2 9 (-6) 0
theorem kvX4_nextOf : KV yX4_nextOf cX4_nextOf 6 (some .int) 2 := ⟨wcd_X4_nextOf, wim_X4_nextOf, wsl_X4_nextOf, win_X4, by decide +kernel, by decide +kernel, by decide +kernel⟩
set_option maxHeartbeats 4000000 in
set_option maxRecDepth 100000 in
theorem kX4_nextOf (l : Launch) (D : va_G) (cy : Nat → ClassId) (a : Nat → Nat) (x : tMs) (s1 : Int32) (s2 : Int32) {R : Int32} (hO : oX4_nextOf x s1 s2) (hF : fX4_nextOf x s1 s2 = R) : CT l D cy yX4_nextOf cX4_nextOf 6 (some .int) rX4_nextOf [.ref (a 0), .int s1, .int s2] (gwM cy a x) (some (.int R)) (gwM cy a x) := by
  refine ct_of (by decide) (Nat.le_of_ble_eq_true rfl) ?_
  intro p e s m args below meth c A ls hM hK hP hD hS hl
  obtain ⟨hx, hb, -, hml, hown, hts, -⟩ := id hM
  have hl : lv_has ls 6 [(0, .ref (a 0)), (1, .int s1), (2, .int s2)] := hl
  obtain ⟨H, hH⟩ : ∃ H : Heap, H = s.heap := ⟨_, rfl⟩
  obtain ⟨locs, hlocs⟩ : ∃ q : List Loc, q = [] := ⟨_, rfl⟩
  have hP : va_P D classes (gwM cy a x) H := by rw [hH]; exact hP
  have hS : va_S A s.heap H locs := by rw [hH, hlocs]; exact hS
  suffices hg : W p l e rX4_nextOf s m args below meth c H locs 0 0 (MQ below (ctQ D (some (.int R)) (gwM cy a x) A) args s 0 0 A) (F0 m 0 ls []) by rw [hH, hlocs] at hg; exact hg
  clear hH hlocs
  unfold fX4_nextOf at hF
  unfold oX4_nextOf at hO
  refine lv_bipush (v := (-6)) hx hb dX4_nextOf_0 (by decide) ?_
  refine lv_istore_n (lv' := [(3, .int (-6)), (0, .ref (a 0)), (1, .int s1), (2, .int s2)]) hx hb dX4_nextOf_2 rfl hl (by decide) rfl (fun ls hl => ?_)
  refine lv_iconst (v := 0) hx hb dX4_nextOf_3 (by decide) ?_
  refine lv_istore (lv' := [(4, .int 0), (3, .int (-6)), (0, .ref (a 0)), (1, .int s1), (2, .int s2)]) hx hb dX4_nextOf_4 hl (by decide) rfl (fun ls hl => ?_)
  exact tX4_nextOf_6 hM hK 9 (-6) 0 H locs ls hP hD hS (lv_sub hl [2, 3, 4, 1, 0] rfl) hO hF

abbrev rX4_soonest : Room := { frames := 0, cells := 0, slots := 0, locals := 0 }
def fX4_soonest_5 (x : tMs) (s1 : Int32) : Nat → Int32 → Int32 → Int32
  | 0, s2, s3 => 0
  | n + 1, s2, s3 => if 8 ≤ s3 then s2 else (if ((s1 >>> (s3 &&& 31)) &&& 1) = 1 then (if s2 ≤ (m_at x) (Int32.toNatClampNeg s3) then (lt_ (s3 + 1) fun x7 => fX4_soonest_5 x s1 n s2 x7) else (lt_ ((m_at x) (Int32.toNatClampNeg s3)) fun x9 => lt_ (s3 + 1) fun x11 => fX4_soonest_5 x s1 n x9 x11)) else (lt_ (s3 + 1) fun x3 => fX4_soonest_5 x s1 n s2 x3))
def oX4_soonest_5 (x : tMs) (s1 : Int32) : Nat → Int32 → Int32 → Prop
  | 0, _, _ => False
  | n + 1, s2, s3 => if 8 ≤ s3 then True else (if ((s1 >>> (s3 &&& 31)) &&& 1) = 1 then (vp_in s3 8 ∧ (if s2 ≤ (m_at x) (Int32.toNatClampNeg s3) then (lo_ (s3 + 1) fun x7 => oX4_soonest_5 x s1 n s2 x7) else (lo_ ((m_at x) (Int32.toNatClampNeg s3)) fun x9 => lo_ (s3 + 1) fun x11 => oX4_soonest_5 x s1 n x9 x11))) else (lo_ (s3 + 1) fun x3 => oX4_soonest_5 x s1 n s2 x3))
set_option maxHeartbeats 4000000 in
set_option maxRecDepth 100000 in
theorem tX4_soonest_5 {p : Program} {l : Launch} {e : Env} {s : State} {m : MethodId} {args : Array Value} {below : List Frame} {meth : Method} {c : Code} {A : Nat → Prop} {D : va_G} {cy : Nat → ClassId} {a : Nat → Nat} {x : tMs} {s1 : Int32} {R : Int32} (hM : MC p s m args meth c RX4 cX4_soonest 4 (some .int)) (hK : va_K D classes (ctT cy) s) :
    ∀ (n : Nat) (s2 : Int32) (s3 : Int32) (H : Heap) (locs : List Loc) (ls : Array Slot), va_P D classes (gwM cy a x) H → va_D A (gwM cy a x) → va_S A s.heap H locs → lv_has ls 4 [(0, .ref (a 0)), (1, .int s1), (2, .int s2), (3, .int s3)] → oX4_soonest_5 x s1 n s2 s3 → fX4_soonest_5 x s1 n s2 s3 = R → W p l e rX4_soonest s m args below meth c H locs 0 0 (MQ below (ctQ D (some (.int R)) (gwM cy a x) A) args s 0 0 A) (F0 m 5 ls []) := by
  obtain ⟨hx, hb, -, hml, hown, hts, -⟩ := id hM
  intro n
  induction n with
  | zero =>
    intro s2 s3 H locs ls hP hD hS hl hO hF
    exact False.elim hO
  | succ n ih =>
    intro s2 s3 H locs ls hP hD hS hl hO hF
    rw [fX4_soonest_5] at hF
    rw [oX4_soonest_5] at hO
    refine lv_iload_n hx hb dX4_soonest_5 rfl (lv_at hl 3 rfl) ?_
    refine lv_bipush (v := 8) hx hb dX4_soonest_6 (by decide) ?_
    refine lv_icmp_ge (tgt := 47) hx hb dX4_soonest_8 (by decide) (fun c1 => ?_) (fun c1 => ?_)
    · have hF := lt_t c1 hF
      have hO := lo_t c1 hO
      refine lv_iload_n hx hb dX4_soonest_47 rfl (lv_at hl 2 rfl) ?_
      subst hF
      exact ct_iret hM hP hS dX4_soonest_48
    · have hF := lt_f c1 hF
      have hO := lo_f c1 hO
      refine lv_iload_n hx hb dX4_soonest_11 rfl (lv_at hl 1 rfl) ?_
      refine lv_iload_n hx hb dX4_soonest_12 rfl (lv_at hl 3 rfl) ?_
      refine lv_ishr hx hb dX4_soonest_13 ?_
      refine lv_iconst (v := 1) hx hb dX4_soonest_14 (by decide) ?_
      refine lv_iand hx hb dX4_soonest_15 ?_
      refine lv_iconst (v := 1) hx hb dX4_soonest_16 (by decide) ?_
      refine lv_icmp_ne (tgt := 39) hx hb dX4_soonest_17 (by decide) (fun c2 => ?_) (fun c2 => ?_)
      · have hF := lt_f c2 hF
        have hO := lo_f c2 hO
        refine lv_iload_n hx hb dX4_soonest_39 rfl (lv_at hl 2 rfl) ?_
        refine lv_istore_n (lv' := [(2, .int s2), (0, .ref (a 0)), (1, .int s1), (3, .int s3)]) hx hb dX4_soonest_40 rfl hl (by decide) rfl (fun ls hl => ?_)
        obtain ⟨x3, e4⟩ : ∃ y : Int32, s3 + 1 = y := ⟨_, rfl⟩
        have hF := lt_n e4 hF
        try have hO := lo_n e4 hO
        refine lv_iinc (v := x3) (lv' := [(3, .int x3), (2, .int s2), (0, .ref (a 0)), (1, .int s1)]) hx hb dX4_soonest_41 hl (k := 3) rfl (by rw [← e4]; rfl) (by decide) rfl (fun ls hl => ?_)
        refine lv_goto (tgt := 5) hx hb dX4_soonest_44 (by decide) ?_
        exact ih s2 x3 H locs ls hP hD hS (lv_sub hl [2, 3, 1, 0] rfl) hO hF
      · have hF := lt_t c2 hF
        have hO := lo_t c2 hO
        refine lv_aload_n hx hb dX4_soonest_20 rfl (lv_at hl 0 rfl) ?_
        refine ct_get (C := RX4) (T := TX4) (N := 24) (ci := 4) (v := .ref (a 7)) hM hK hP inX4 0 rfl rfl 12 (by decide) wfl_X4_28 rfl dX4_soonest_21 ?_
        refine lv_iload_n hx hb dX4_soonest_24 rfl (lv_at hl 3 rfl) ?_
        obtain ⟨h5, hO⟩ := hO
        refine va_iald hx hb hK hP 7 0 (f := m_at x) (n := 8) (cA := cy 0) rfl rfl h5 dX4_soonest_25 ?_
        refine lv_iload_n hx hb dX4_soonest_26 rfl (lv_at hl 2 rfl) ?_
        refine lv_icmp_ge (tgt := 39) hx hb dX4_soonest_27 (by decide) (fun c6 => ?_) (fun c6 => ?_)
        · have hF := lt_t c6 hF
          have hO := lo_t c6 hO
          refine lv_iload_n hx hb dX4_soonest_39 rfl (lv_at hl 2 rfl) ?_
          refine lv_istore_n (lv' := [(2, .int s2), (0, .ref (a 0)), (1, .int s1), (3, .int s3)]) hx hb dX4_soonest_40 rfl hl (by decide) rfl (fun ls hl => ?_)
          obtain ⟨x7, e8⟩ : ∃ y : Int32, s3 + 1 = y := ⟨_, rfl⟩
          have hF := lt_n e8 hF
          try have hO := lo_n e8 hO
          refine lv_iinc (v := x7) (lv' := [(3, .int x7), (2, .int s2), (0, .ref (a 0)), (1, .int s1)]) hx hb dX4_soonest_41 hl (k := 3) rfl (by rw [← e8]; rfl) (by decide) rfl (fun ls hl => ?_)
          refine lv_goto (tgt := 5) hx hb dX4_soonest_44 (by decide) ?_
          exact ih s2 x7 H locs ls hP hD hS (lv_sub hl [2, 3, 1, 0] rfl) hO hF
        · have hF := lt_f c6 hF
          have hO := lo_f c6 hO
          refine lv_aload_n hx hb dX4_soonest_30 rfl (lv_at hl 0 rfl) ?_
          refine ct_get (C := RX4) (T := TX4) (N := 24) (ci := 4) (v := .ref (a 7)) hM hK hP inX4 0 rfl rfl 12 (by decide) wfl_X4_28 rfl dX4_soonest_31 ?_
          refine lv_iload_n hx hb dX4_soonest_34 rfl (lv_at hl 3 rfl) ?_
          refine va_iald hx hb hK hP 7 0 (f := m_at x) (n := 8) (cA := cy 0) rfl rfl h5 dX4_soonest_35 ?_
          refine lv_goto (tgt := 40) hx hb dX4_soonest_36 (by decide) ?_
          refine lv_topi (fun x9 e10 => ?_)
          have hF := lt_n e10.symm hF
          try have hO := lo_n e10.symm hO
          refine lv_istore_n (lv' := [(2, .int x9), (0, .ref (a 0)), (1, .int s1), (3, .int s3)]) hx hb dX4_soonest_40 rfl hl (by decide) rfl (fun ls hl => ?_)
          obtain ⟨x11, e12⟩ : ∃ y : Int32, s3 + 1 = y := ⟨_, rfl⟩
          have hF := lt_n e12 hF
          try have hO := lo_n e12 hO
          refine lv_iinc (v := x11) (lv' := [(3, .int x11), (2, .int x9), (0, .ref (a 0)), (1, .int s1)]) hx hb dX4_soonest_41 hl (k := 3) rfl (by rw [← e12]; rfl) (by decide) rfl (fun ls hl => ?_)
          refine lv_goto (tgt := 5) hx hb dX4_soonest_44 (by decide) ?_
          exact ih x9 x11 H locs ls hP hD hS (lv_sub hl [2, 3, 1, 0] rfl) hO hF

def fX4_soonest (x : tMs) (s1 : Int32) : Int32 := fX4_soonest_5 x s1 9 1000000000 0
def oX4_soonest (x : tMs) (s1 : Int32) : Prop := oX4_soonest_5 x s1 9 1000000000 0
theorem kvX4_soonest : KV yX4_soonest cX4_soonest 4 (some .int) 1 := ⟨wcd_X4_soonest, wim_X4_soonest, wsl_X4_soonest, win_X4, by decide +kernel, by decide +kernel, by decide +kernel⟩
set_option maxHeartbeats 4000000 in
set_option maxRecDepth 100000 in
theorem kX4_soonest (l : Launch) (D : va_G) (cy : Nat → ClassId) (a : Nat → Nat) (x : tMs) (s1 : Int32) {R : Int32} (hO : oX4_soonest x s1) (hF : fX4_soonest x s1 = R) : CT l D cy yX4_soonest cX4_soonest 4 (some .int) rX4_soonest [.ref (a 0), .int s1] (gwM cy a x) (some (.int R)) (gwM cy a x) := by
  refine ct_of (by decide) (Nat.le_of_ble_eq_true rfl) ?_
  intro p e s m args below meth c A ls hM hK hP hD hS hl
  obtain ⟨hx, hb, -, hml, hown, hts, -⟩ := id hM
  have hl : lv_has ls 4 [(0, .ref (a 0)), (1, .int s1)] := hl
  obtain ⟨H, hH⟩ : ∃ H : Heap, H = s.heap := ⟨_, rfl⟩
  obtain ⟨locs, hlocs⟩ : ∃ q : List Loc, q = [] := ⟨_, rfl⟩
  have hP : va_P D classes (gwM cy a x) H := by rw [hH]; exact hP
  have hS : va_S A s.heap H locs := by rw [hH, hlocs]; exact hS
  suffices hg : W p l e rX4_soonest s m args below meth c H locs 0 0 (MQ below (ctQ D (some (.int R)) (gwM cy a x) A) args s 0 0 A) (F0 m 0 ls []) by rw [hH, hlocs] at hg; exact hg
  clear hH hlocs
  unfold fX4_soonest at hF
  unfold oX4_soonest at hO
  refine lv_ldc (v := 1000000000) hx hb hown (hts _ wct_X4_114) dX4_soonest_0 ?_
  refine lv_istore_n (lv' := [(2, .int 1000000000), (0, .ref (a 0)), (1, .int s1)]) hx hb dX4_soonest_2 rfl hl (by decide) rfl (fun ls hl => ?_)
  refine lv_iconst (v := 0) hx hb dX4_soonest_3 (by decide) ?_
  refine lv_istore_n (lv' := [(3, .int 0), (2, .int 1000000000), (0, .ref (a 0)), (1, .int s1)]) hx hb dX4_soonest_4 rfl hl (by decide) rfl (fun ls hl => ?_)
  exact tX4_soonest_5 hM hK 9 1000000000 0 H locs ls hP hD hS (lv_sub hl [2, 3, 1, 0] rfl) hO hF

abbrev rX4_go : Room := { frames := 3, cells := 0, slots := 0, locals := 73 }
def fX4_go_13 : Nat → tMs → Int32 → Int32 → Int32 → tMs
  | 0, x, s3, s4, s5 => x
  | n + 1, x, s3, s4, s5 => if s3 = 0 then x else (lt_ (fX4_nextOf x s3 s4) fun q3 => if 0 ≤ q3 then (if s5 ≤ (m_pa x) (Int32.toNatClampNeg q3) then (lt_ (s5 - (upd (m_to x) (Int32.toNatClampNeg q3) s5) (Int32.toNatClampNeg q3)) fun x8 => lt_ (s4 - (m_at x) (Int32.toNatClampNeg q3)) fun x10 => lt_ (s4 + (m_dr x * (upd (m_to x) (Int32.toNatClampNeg q3) s5) (Int32.toNatClampNeg q3))) fun x12 => lt_ (m_my x + 1) fun x15 => lt_ (s3 &&& ((1 <<< (q3 &&& 31)) ^^^ (-1))) fun x17 => fX4_go_13 n (m_co x, m_mi x, m_mn x, m_pa x, m_ca x, m_dr x, m_fa x, m_st x, m_ha x, m_pd x, m_pn x, m_fr x, m_at x, upd (m_wa x) (Int32.toNatClampNeg q3) x10, upd (m_en x) (Int32.toNatClampNeg q3) x12, upd (m_to x) (Int32.toNatClampNeg q3) s5, upd (m_or x) (Int32.toNatClampNeg (m_my x)) q3, x15, m_bf x, m_bs x, m_kp x, m_ik x, m_ka x, m_iw x) x17 x12 x8) else (lt_ ((m_pa x) (Int32.toNatClampNeg q3)) fun x19 => lt_ (s5 - (upd (m_to x) (Int32.toNatClampNeg q3) x19) (Int32.toNatClampNeg q3)) fun x21 => lt_ (s4 - (m_at x) (Int32.toNatClampNeg q3)) fun x23 => lt_ (s4 + (m_dr x * (upd (m_to x) (Int32.toNatClampNeg q3) x19) (Int32.toNatClampNeg q3))) fun x25 => lt_ (m_my x + 1) fun x28 => lt_ (s3 &&& ((1 <<< (q3 &&& 31)) ^^^ (-1))) fun x30 => fX4_go_13 n (m_co x, m_mi x, m_mn x, m_pa x, m_ca x, m_dr x, m_fa x, m_st x, m_ha x, m_pd x, m_pn x, m_fr x, m_at x, upd (m_wa x) (Int32.toNatClampNeg q3) x23, upd (m_en x) (Int32.toNatClampNeg q3) x25, upd (m_to x) (Int32.toNatClampNeg q3) x19, upd (m_or x) (Int32.toNatClampNeg (m_my x)) q3, x28, m_bf x, m_bs x, m_kp x, m_ik x, m_ka x, m_iw x) x30 x25 x21)) else (lt_ (fX4_soonest x s3) fun q33 => fX4_go_13 n x s3 q33 s5))
def oX4_go_13 : Nat → tMs → Int32 → Int32 → Int32 → Prop
  | 0, _, _, _, _ => False
  | n + 1, x, s3, s4, s5 => if s3 = 0 then True else (oX4_nextOf x s3 s4 ∧ (lo_ (fX4_nextOf x s3 s4) fun q3 => if 0 ≤ q3 then (vp_in q3 8 ∧ (if s5 ≤ (m_pa x) (Int32.toNatClampNeg q3) then (lo_ (s5 - (upd (m_to x) (Int32.toNatClampNeg q3) s5) (Int32.toNatClampNeg q3)) fun x8 => lo_ (s4 - (m_at x) (Int32.toNatClampNeg q3)) fun x10 => lo_ (s4 + (m_dr x * (upd (m_to x) (Int32.toNatClampNeg q3) s5) (Int32.toNatClampNeg q3))) fun x12 => vp_in (m_my x) 8 ∧ (lo_ (m_my x + 1) fun x15 => lo_ (s3 &&& ((1 <<< (q3 &&& 31)) ^^^ (-1))) fun x17 => oX4_go_13 n (m_co x, m_mi x, m_mn x, m_pa x, m_ca x, m_dr x, m_fa x, m_st x, m_ha x, m_pd x, m_pn x, m_fr x, m_at x, upd (m_wa x) (Int32.toNatClampNeg q3) x10, upd (m_en x) (Int32.toNatClampNeg q3) x12, upd (m_to x) (Int32.toNatClampNeg q3) s5, upd (m_or x) (Int32.toNatClampNeg (m_my x)) q3, x15, m_bf x, m_bs x, m_kp x, m_ik x, m_ka x, m_iw x) x17 x12 x8)) else (lo_ ((m_pa x) (Int32.toNatClampNeg q3)) fun x19 => lo_ (s5 - (upd (m_to x) (Int32.toNatClampNeg q3) x19) (Int32.toNatClampNeg q3)) fun x21 => lo_ (s4 - (m_at x) (Int32.toNatClampNeg q3)) fun x23 => lo_ (s4 + (m_dr x * (upd (m_to x) (Int32.toNatClampNeg q3) x19) (Int32.toNatClampNeg q3))) fun x25 => vp_in (m_my x) 8 ∧ (lo_ (m_my x + 1) fun x28 => lo_ (s3 &&& ((1 <<< (q3 &&& 31)) ^^^ (-1))) fun x30 => oX4_go_13 n (m_co x, m_mi x, m_mn x, m_pa x, m_ca x, m_dr x, m_fa x, m_st x, m_ha x, m_pd x, m_pn x, m_fr x, m_at x, upd (m_wa x) (Int32.toNatClampNeg q3) x23, upd (m_en x) (Int32.toNatClampNeg q3) x25, upd (m_to x) (Int32.toNatClampNeg q3) x19, upd (m_or x) (Int32.toNatClampNeg (m_my x)) q3, x28, m_bf x, m_bs x, m_kp x, m_ik x, m_ka x, m_iw x) x30 x25 x21)))) else (oX4_soonest x s3 ∧ (lo_ (fX4_soonest x s3) fun q33 => oX4_go_13 n x s3 q33 s5))))
set_option maxHeartbeats 4000000 in
set_option maxRecDepth 100000 in
theorem tX4_go_13 {p : Program} {l : Launch} {e : Env} {s : State} {m : MethodId} {args : Array Value} {below : List Frame} {meth : Method} {c : Code} {A : Nat → Prop} {D : va_G} {cy : Nat → ClassId} {a : Nat → Nat} {s1 : Int32} {s2 : Int32} {R : tMs} (hM : MC p s m args meth c RX4 cX4_go 7 none) (hK : va_K D classes (ctT cy) s) :
    ∀ (n : Nat) (x : tMs) (s3 : Int32) (s4 : Int32) (s5 : Int32) (H : Heap) (locs : List Loc) (ls : Array Slot), va_P D classes (gwM cy a x) H → va_D A (gwM cy a x) → va_S A s.heap H locs → lv_has ls 7 [(0, .ref (a 0)), (1, .int s1), (2, .int s2), (3, .int s3), (4, .int s4), (5, .int s5)] → oX4_go_13 n x s3 s4 s5 → fX4_go_13 n x s3 s4 s5 = R → W p l e rX4_go s m args below meth c H locs 0 0 (MQ below (ctQ D none (gwM cy a R) A) args s 0 0 A) (F0 m 13 ls []) := by
  obtain ⟨hx, hb, -, hml, hown, hts, -⟩ := id hM
  intro n
  induction n with
  | zero =>
    intro x s3 s4 s5 H locs ls hP hD hS hl hO hF
    exact False.elim hO
  | succ n ih =>
    intro x s3 s4 s5 H locs ls hP hD hS hl hO hF
    rw [fX4_go_13] at hF
    rw [oX4_go_13] at hO
    refine lv_iload_n hx hb dX4_go_13 rfl (lv_at hl 3 rfl) ?_
    refine lv_if_eq (tgt := 160) hx hb dX4_go_14 (by decide) (fun c1 => ?_) (fun c1 => ?_)
    · have hF := lt_t c1 hF
      have hO := lo_t c1 hO
      subst hF
      exact ct_vret hM hP hS dX4_go_160
    · have hF := lt_f c1 hF
      have hO := lo_f c1 hO
      refine lv_aload_n hx hb dX4_go_17 rfl (lv_at hl 0 rfl) ?_
      refine lv_iload_n hx hb dX4_go_18 rfl (lv_at hl 3 rfl) ?_
      refine lv_iload hx hb dX4_go_19 (lv_at hl 4 rfl) ?_
      obtain ⟨h2, hO⟩ := hO
      obtain ⟨q3, e4⟩ : ∃ q, fX4_nextOf x s3 s4 = q := ⟨_, rfl⟩
      have hF := lt_n e4 hF
      try have hO := lo_n e4 hO
      refine ct_callF hM hK hP hD hS (kX4_nextOf l D cy a x s3 s4 h2 e4) kvX4_nextOf wml_X4_118 rfl 0 rfl rfl rfl rfl hl.1 rfl ⟨rfl, rfl, Nat.le_of_ble_eq_true rfl, Nat.le_of_ble_eq_true rfl⟩ (Nat.le_of_ble_eq_true rfl) ⟨Nat.zero_le _, Nat.zero_le _⟩ dX4_go_21 (fun H locs hP hD hS => ?_)
      refine W.eq (g2 := F0 m 24 ls [.int q3]) rfl ?_
      refine lv_istore (lv' := [(6, .int q3), (0, .ref (a 0)), (1, .int s1), (2, .int s2), (3, .int s3), (4, .int s4), (5, .int s5)]) hx hb dX4_go_24 hl (by decide) rfl (fun ls hl => ?_)
      refine lv_iload hx hb dX4_go_26 (lv_at hl 0 rfl) ?_
      refine lv_if_ge (tgt := 41) hx hb dX4_go_28 (by decide) (fun c5 => ?_) (fun c5 => ?_)
      · have hF := lt_t c5 hF
        have hO := lo_t c5 hO
        refine lv_aload_n hx hb dX4_go_41 rfl (lv_at hl 1 rfl) ?_
        refine ct_get (C := RX4) (T := TX4) (N := 24) (ci := 4) (v := .ref (a 10)) hM hK hP inX4 0 rfl rfl 15 (by decide) wfl_X4_37 rfl dX4_go_42 ?_
        refine lv_iload hx hb dX4_go_45 (lv_at hl 0 rfl) ?_
        refine lv_aload_n hx hb dX4_go_47 rfl (lv_at hl 1 rfl) ?_
        refine ct_get (C := RX4) (T := TX4) (N := 24) (ci := 4) (v := .ref (a 3)) hM hK hP inX4 0 rfl rfl 3 (by decide) wfl_X4_16 rfl dX4_go_48 ?_
        refine lv_iload hx hb dX4_go_51 (lv_at hl 0 rfl) ?_
        obtain ⟨h6, hO⟩ := hO
        refine va_iald hx hb hK hP 3 0 (f := m_pa x) (n := 8) (cA := cy 0) rfl rfl h6 dX4_go_53 ?_
        refine lv_iload hx hb dX4_go_54 (lv_at hl 6 rfl) ?_
        refine lv_icmp_ge (tgt := 69) hx hb dX4_go_56 (by decide) (fun c7 => ?_) (fun c7 => ?_)
        · have hF := lt_t c7 hF
          have hO := lo_t c7 hO
          refine lv_iload hx hb dX4_go_69 (lv_at hl 6 rfl) ?_
          refine va_iast hx hb hK hP hD hS 10 0 (f := m_to x) (n := 8) (cA := cy 0) rfl rfl h6 dX4_go_71 (fun H locs hP hD hS => ?_)
          have hP : va_P D classes (gwM cy a (m_co x, m_mi x, m_mn x, m_pa x, m_ca x, m_dr x, m_fa x, m_st x, m_ha x, m_pd x, m_pn x, m_fr x, m_at x, m_wa x, m_en x, upd (m_to x) (Int32.toNatClampNeg q3) s5, m_or x, m_my x, m_bf x, m_bs x, m_kp x, m_ik x, m_ka x, m_iw x)) H := hP
          have hD : va_D A (gwM cy a (m_co x, m_mi x, m_mn x, m_pa x, m_ca x, m_dr x, m_fa x, m_st x, m_ha x, m_pd x, m_pn x, m_fr x, m_at x, m_wa x, m_en x, upd (m_to x) (Int32.toNatClampNeg q3) s5, m_or x, m_my x, m_bf x, m_bs x, m_kp x, m_ik x, m_ka x, m_iw x)) := hD
          refine lv_iload hx hb dX4_go_72 (lv_at hl 6 rfl) ?_
          refine lv_aload_n hx hb dX4_go_74 rfl (lv_at hl 1 rfl) ?_
          refine ct_get (C := RX4) (T := TX4) (N := 24) (ci := 4) (v := .ref (a 10)) hM hK hP inX4 0 rfl rfl 15 (by decide) wfl_X4_37 rfl dX4_go_75 ?_
          refine lv_iload hx hb dX4_go_78 (lv_at hl 0 rfl) ?_
          refine va_iald hx hb hK hP 10 0 (f := upd (m_to x) (Int32.toNatClampNeg q3) s5) (n := 8) (cA := cy 0) rfl rfl h6 dX4_go_80 ?_
          refine lv_isub hx hb dX4_go_81 ?_
          refine lv_topi (fun x8 e9 => ?_)
          have hF := lt_n e9.symm hF
          try have hO := lo_n e9.symm hO
          refine lv_istore (lv' := [(5, .int x8), (6, .int q3), (0, .ref (a 0)), (1, .int s1), (2, .int s2), (3, .int s3), (4, .int s4)]) hx hb dX4_go_82 hl (by decide) rfl (fun ls hl => ?_)
          refine lv_aload_n hx hb dX4_go_84 rfl (lv_at hl 2 rfl) ?_
          refine ct_get (C := RX4) (T := TX4) (N := 24) (ci := 4) (v := .ref (a 8)) hM hK hP inX4 0 rfl rfl 13 (by decide) wfl_X4_31 rfl dX4_go_85 ?_
          refine lv_iload hx hb dX4_go_88 (lv_at hl 1 rfl) ?_
          refine lv_iload hx hb dX4_go_90 (lv_at hl 6 rfl) ?_
          refine lv_aload_n hx hb dX4_go_92 rfl (lv_at hl 2 rfl) ?_
          refine ct_get (C := RX4) (T := TX4) (N := 24) (ci := 4) (v := .ref (a 7)) hM hK hP inX4 0 rfl rfl 12 (by decide) wfl_X4_28 rfl dX4_go_93 ?_
          refine lv_iload hx hb dX4_go_96 (lv_at hl 1 rfl) ?_
          refine va_iald hx hb hK hP 7 0 (f := m_at x) (n := 8) (cA := cy 0) rfl rfl h6 dX4_go_98 ?_
          refine lv_isub hx hb dX4_go_99 ?_
          refine lv_topi (fun x10 e11 => ?_)
          have hF := lt_n e11.symm hF
          try have hO := lo_n e11.symm hO
          refine va_iast hx hb hK hP hD hS 8 0 (f := m_wa x) (n := 8) (cA := cy 0) rfl rfl h6 dX4_go_100 (fun H locs hP hD hS => ?_)
          have hP : va_P D classes (gwM cy a (m_co x, m_mi x, m_mn x, m_pa x, m_ca x, m_dr x, m_fa x, m_st x, m_ha x, m_pd x, m_pn x, m_fr x, m_at x, upd (m_wa x) (Int32.toNatClampNeg q3) x10, m_en x, upd (m_to x) (Int32.toNatClampNeg q3) s5, m_or x, m_my x, m_bf x, m_bs x, m_kp x, m_ik x, m_ka x, m_iw x)) H := hP
          have hD : va_D A (gwM cy a (m_co x, m_mi x, m_mn x, m_pa x, m_ca x, m_dr x, m_fa x, m_st x, m_ha x, m_pd x, m_pn x, m_fr x, m_at x, upd (m_wa x) (Int32.toNatClampNeg q3) x10, m_en x, upd (m_to x) (Int32.toNatClampNeg q3) s5, m_or x, m_my x, m_bf x, m_bs x, m_kp x, m_ik x, m_ka x, m_iw x)) := hD
          refine lv_iload hx hb dX4_go_101 (lv_at hl 6 rfl) ?_
          refine lv_aload_n hx hb dX4_go_103 rfl (lv_at hl 2 rfl) ?_
          refine ct_get (C := RX4) (T := TX4) (N := 24) (ci := 4) (v := .int (m_dr x)) hM hK hP inX4 0 rfl rfl 5 (by decide) wfl_X4_50 rfl dX4_go_104 ?_
          refine lv_aload_n hx hb dX4_go_107 rfl (lv_at hl 2 rfl) ?_
          refine ct_get (C := RX4) (T := TX4) (N := 24) (ci := 4) (v := .ref (a 10)) hM hK hP inX4 0 rfl rfl 15 (by decide) wfl_X4_37 rfl dX4_go_108 ?_
          refine lv_iload hx hb dX4_go_111 (lv_at hl 1 rfl) ?_
          refine va_iald hx hb hK hP 10 0 (f := upd (m_to x) (Int32.toNatClampNeg q3) s5) (n := 8) (cA := cy 0) rfl rfl h6 dX4_go_113 ?_
          refine lv_imul hx hb dX4_go_114 ?_
          refine lv_iadd hx hb dX4_go_115 ?_
          refine lv_topi (fun x12 e13 => ?_)
          have hF := lt_n e13.symm hF
          try have hO := lo_n e13.symm hO
          refine lv_istore (lv' := [(4, .int x12), (5, .int x8), (6, .int q3), (0, .ref (a 0)), (1, .int s1), (2, .int s2), (3, .int s3)]) hx hb dX4_go_116 hl (by decide) rfl (fun ls hl => ?_)
          refine lv_aload_n hx hb dX4_go_118 rfl (lv_at hl 3 rfl) ?_
          refine ct_get (C := RX4) (T := TX4) (N := 24) (ci := 4) (v := .ref (a 9)) hM hK hP inX4 0 rfl rfl 14 (by decide) wfl_X4_34 rfl dX4_go_119 ?_
          refine lv_iload hx hb dX4_go_122 (lv_at hl 2 rfl) ?_
          refine lv_iload hx hb dX4_go_124 (lv_at hl 0 rfl) ?_
          refine va_iast hx hb hK hP hD hS 9 0 (f := m_en x) (n := 8) (cA := cy 0) rfl rfl h6 dX4_go_126 (fun H locs hP hD hS => ?_)
          have hP : va_P D classes (gwM cy a (m_co x, m_mi x, m_mn x, m_pa x, m_ca x, m_dr x, m_fa x, m_st x, m_ha x, m_pd x, m_pn x, m_fr x, m_at x, upd (m_wa x) (Int32.toNatClampNeg q3) x10, upd (m_en x) (Int32.toNatClampNeg q3) x12, upd (m_to x) (Int32.toNatClampNeg q3) s5, m_or x, m_my x, m_bf x, m_bs x, m_kp x, m_ik x, m_ka x, m_iw x)) H := hP
          have hD : va_D A (gwM cy a (m_co x, m_mi x, m_mn x, m_pa x, m_ca x, m_dr x, m_fa x, m_st x, m_ha x, m_pd x, m_pn x, m_fr x, m_at x, upd (m_wa x) (Int32.toNatClampNeg q3) x10, upd (m_en x) (Int32.toNatClampNeg q3) x12, upd (m_to x) (Int32.toNatClampNeg q3) s5, m_or x, m_my x, m_bf x, m_bs x, m_kp x, m_ik x, m_ka x, m_iw x)) := hD
          refine lv_aload_n hx hb dX4_go_127 rfl (lv_at hl 3 rfl) ?_
          refine ct_get (C := RX4) (T := TX4) (N := 24) (ci := 4) (v := .ref (a 11)) hM hK hP inX4 0 rfl rfl 16 (by decide) wfl_X4_40 rfl dX4_go_128 ?_
          refine lv_aload_n hx hb dX4_go_131 rfl (lv_at hl 3 rfl) ?_
          refine ct_get (C := RX4) (T := TX4) (N := 24) (ci := 4) (v := .int (m_my x)) hM hK hP inX4 0 rfl rfl 17 (by decide) wfl_X4_115 rfl dX4_go_132 ?_
          refine lv_iload hx hb dX4_go_135 (lv_at hl 2 rfl) ?_
          obtain ⟨h14, hO⟩ := hO
          refine va_iast hx hb hK hP hD hS 11 0 (f := m_or x) (n := 8) (cA := cy 0) rfl rfl h14 dX4_go_137 (fun H locs hP hD hS => ?_)
          have hP : va_P D classes (gwM cy a (m_co x, m_mi x, m_mn x, m_pa x, m_ca x, m_dr x, m_fa x, m_st x, m_ha x, m_pd x, m_pn x, m_fr x, m_at x, upd (m_wa x) (Int32.toNatClampNeg q3) x10, upd (m_en x) (Int32.toNatClampNeg q3) x12, upd (m_to x) (Int32.toNatClampNeg q3) s5, upd (m_or x) (Int32.toNatClampNeg (m_my x)) q3, m_my x, m_bf x, m_bs x, m_kp x, m_ik x, m_ka x, m_iw x)) H := hP
          have hD : va_D A (gwM cy a (m_co x, m_mi x, m_mn x, m_pa x, m_ca x, m_dr x, m_fa x, m_st x, m_ha x, m_pd x, m_pn x, m_fr x, m_at x, upd (m_wa x) (Int32.toNatClampNeg q3) x10, upd (m_en x) (Int32.toNatClampNeg q3) x12, upd (m_to x) (Int32.toNatClampNeg q3) s5, upd (m_or x) (Int32.toNatClampNeg (m_my x)) q3, m_my x, m_bf x, m_bs x, m_kp x, m_ik x, m_ka x, m_iw x)) := hD
          refine lv_aload_n hx hb dX4_go_138 rfl (lv_at hl 3 rfl) ?_
          refine lv_dup hx hb dX4_go_139 rfl ?_
          refine ct_get (C := RX4) (T := TX4) (N := 24) (ci := 4) (v := .int (m_my x)) hM hK hP inX4 0 rfl rfl 17 (by decide) wfl_X4_115 rfl dX4_go_140 ?_
          refine lv_iconst (v := 1) hx hb dX4_go_143 (by decide) ?_
          refine lv_iadd hx hb dX4_go_144 ?_
          refine lv_topi (fun x15 e16 => ?_)
          have hF := lt_n e16.symm hF
          try have hO := lo_n e16.symm hO
          refine ct_put1 (C := RX4) (T := TX4) (N := 24) (ci := 4) (v := .int x15) hM hK hP hD hS inX4 tyX4 tyX4_ok nmX4 0 rfl rfl 17 (by decide) wfl_X4_115 rfl (by first | rfl | decide) (by first | rfl | decide) (Nat.le_of_ble_eq_true rfl) dX4_go_145 (fun H locs hP hD hS => ?_)
          have hP : va_P D classes (gwM cy a (m_co x, m_mi x, m_mn x, m_pa x, m_ca x, m_dr x, m_fa x, m_st x, m_ha x, m_pd x, m_pn x, m_fr x, m_at x, upd (m_wa x) (Int32.toNatClampNeg q3) x10, upd (m_en x) (Int32.toNatClampNeg q3) x12, upd (m_to x) (Int32.toNatClampNeg q3) s5, upd (m_or x) (Int32.toNatClampNeg (m_my x)) q3, x15, m_bf x, m_bs x, m_kp x, m_ik x, m_ka x, m_iw x)) H := hP
          have hD : va_D A (gwM cy a (m_co x, m_mi x, m_mn x, m_pa x, m_ca x, m_dr x, m_fa x, m_st x, m_ha x, m_pd x, m_pn x, m_fr x, m_at x, upd (m_wa x) (Int32.toNatClampNeg q3) x10, upd (m_en x) (Int32.toNatClampNeg q3) x12, upd (m_to x) (Int32.toNatClampNeg q3) s5, upd (m_or x) (Int32.toNatClampNeg (m_my x)) q3, x15, m_bf x, m_bs x, m_kp x, m_ik x, m_ka x, m_iw x)) := hD
          refine lv_iload_n hx hb dX4_go_148 rfl (lv_at hl 6 rfl) ?_
          refine lv_iconst (v := 1) hx hb dX4_go_149 (by decide) ?_
          refine lv_iload hx hb dX4_go_150 (lv_at hl 2 rfl) ?_
          refine lv_ishl hx hb dX4_go_152 ?_
          refine lv_iconst (v := (-1)) hx hb dX4_go_153 (by decide) ?_
          refine lv_ixor hx hb dX4_go_154 ?_
          refine lv_iand hx hb dX4_go_155 ?_
          refine lv_topi (fun x17 e18 => ?_)
          have hF := lt_n e18.symm hF
          try have hO := lo_n e18.symm hO
          refine lv_istore_n (lv' := [(3, .int x17), (4, .int x12), (5, .int x8), (6, .int q3), (0, .ref (a 0)), (1, .int s1), (2, .int s2)]) hx hb dX4_go_156 rfl hl (by decide) rfl (fun ls hl => ?_)
          refine lv_goto (tgt := 13) hx hb dX4_go_157 (by decide) ?_
          exact ih (m_co x, m_mi x, m_mn x, m_pa x, m_ca x, m_dr x, m_fa x, m_st x, m_ha x, m_pd x, m_pn x, m_fr x, m_at x, upd (m_wa x) (Int32.toNatClampNeg q3) x10, upd (m_en x) (Int32.toNatClampNeg q3) x12, upd (m_to x) (Int32.toNatClampNeg q3) s5, upd (m_or x) (Int32.toNatClampNeg (m_my x)) q3, x15, m_bf x, m_bs x, m_kp x, m_ik x, m_ka x, m_iw x) x17 x12 x8 H locs ls hP hD hS (lv_sub hl [4, 5, 6, 0, 1, 2] rfl) hO hF
        · have hF := lt_f c7 hF
          have hO := lo_f c7 hO
          refine lv_aload_n hx hb dX4_go_59 rfl (lv_at hl 1 rfl) ?_
          refine ct_get (C := RX4) (T := TX4) (N := 24) (ci := 4) (v := .ref (a 3)) hM hK hP inX4 0 rfl rfl 3 (by decide) wfl_X4_16 rfl dX4_go_60 ?_
          refine lv_iload hx hb dX4_go_63 (lv_at hl 0 rfl) ?_
          refine va_iald hx hb hK hP 3 0 (f := m_pa x) (n := 8) (cA := cy 0) rfl rfl h6 dX4_go_65 ?_
          refine lv_goto (tgt := 71) hx hb dX4_go_66 (by decide) ?_
          refine lv_topi (fun x19 e20 => ?_)
          have hF := lt_n e20.symm hF
          try have hO := lo_n e20.symm hO
          refine va_iast hx hb hK hP hD hS 10 0 (f := m_to x) (n := 8) (cA := cy 0) rfl rfl h6 dX4_go_71 (fun H locs hP hD hS => ?_)
          have hP : va_P D classes (gwM cy a (m_co x, m_mi x, m_mn x, m_pa x, m_ca x, m_dr x, m_fa x, m_st x, m_ha x, m_pd x, m_pn x, m_fr x, m_at x, m_wa x, m_en x, upd (m_to x) (Int32.toNatClampNeg q3) x19, m_or x, m_my x, m_bf x, m_bs x, m_kp x, m_ik x, m_ka x, m_iw x)) H := hP
          have hD : va_D A (gwM cy a (m_co x, m_mi x, m_mn x, m_pa x, m_ca x, m_dr x, m_fa x, m_st x, m_ha x, m_pd x, m_pn x, m_fr x, m_at x, m_wa x, m_en x, upd (m_to x) (Int32.toNatClampNeg q3) x19, m_or x, m_my x, m_bf x, m_bs x, m_kp x, m_ik x, m_ka x, m_iw x)) := hD
          refine lv_iload hx hb dX4_go_72 (lv_at hl 6 rfl) ?_
          refine lv_aload_n hx hb dX4_go_74 rfl (lv_at hl 1 rfl) ?_
          refine ct_get (C := RX4) (T := TX4) (N := 24) (ci := 4) (v := .ref (a 10)) hM hK hP inX4 0 rfl rfl 15 (by decide) wfl_X4_37 rfl dX4_go_75 ?_
          refine lv_iload hx hb dX4_go_78 (lv_at hl 0 rfl) ?_
          refine va_iald hx hb hK hP 10 0 (f := upd (m_to x) (Int32.toNatClampNeg q3) x19) (n := 8) (cA := cy 0) rfl rfl h6 dX4_go_80 ?_
          refine lv_isub hx hb dX4_go_81 ?_
          refine lv_topi (fun x21 e22 => ?_)
          have hF := lt_n e22.symm hF
          try have hO := lo_n e22.symm hO
          refine lv_istore (lv' := [(5, .int x21), (6, .int q3), (0, .ref (a 0)), (1, .int s1), (2, .int s2), (3, .int s3), (4, .int s4)]) hx hb dX4_go_82 hl (by decide) rfl (fun ls hl => ?_)
          refine lv_aload_n hx hb dX4_go_84 rfl (lv_at hl 2 rfl) ?_
          refine ct_get (C := RX4) (T := TX4) (N := 24) (ci := 4) (v := .ref (a 8)) hM hK hP inX4 0 rfl rfl 13 (by decide) wfl_X4_31 rfl dX4_go_85 ?_
          refine lv_iload hx hb dX4_go_88 (lv_at hl 1 rfl) ?_
          refine lv_iload hx hb dX4_go_90 (lv_at hl 6 rfl) ?_
          refine lv_aload_n hx hb dX4_go_92 rfl (lv_at hl 2 rfl) ?_
          refine ct_get (C := RX4) (T := TX4) (N := 24) (ci := 4) (v := .ref (a 7)) hM hK hP inX4 0 rfl rfl 12 (by decide) wfl_X4_28 rfl dX4_go_93 ?_
          refine lv_iload hx hb dX4_go_96 (lv_at hl 1 rfl) ?_
          refine va_iald hx hb hK hP 7 0 (f := m_at x) (n := 8) (cA := cy 0) rfl rfl h6 dX4_go_98 ?_
          refine lv_isub hx hb dX4_go_99 ?_
          refine lv_topi (fun x23 e24 => ?_)
          have hF := lt_n e24.symm hF
          try have hO := lo_n e24.symm hO
          refine va_iast hx hb hK hP hD hS 8 0 (f := m_wa x) (n := 8) (cA := cy 0) rfl rfl h6 dX4_go_100 (fun H locs hP hD hS => ?_)
          have hP : va_P D classes (gwM cy a (m_co x, m_mi x, m_mn x, m_pa x, m_ca x, m_dr x, m_fa x, m_st x, m_ha x, m_pd x, m_pn x, m_fr x, m_at x, upd (m_wa x) (Int32.toNatClampNeg q3) x23, m_en x, upd (m_to x) (Int32.toNatClampNeg q3) x19, m_or x, m_my x, m_bf x, m_bs x, m_kp x, m_ik x, m_ka x, m_iw x)) H := hP
          have hD : va_D A (gwM cy a (m_co x, m_mi x, m_mn x, m_pa x, m_ca x, m_dr x, m_fa x, m_st x, m_ha x, m_pd x, m_pn x, m_fr x, m_at x, upd (m_wa x) (Int32.toNatClampNeg q3) x23, m_en x, upd (m_to x) (Int32.toNatClampNeg q3) x19, m_or x, m_my x, m_bf x, m_bs x, m_kp x, m_ik x, m_ka x, m_iw x)) := hD
          refine lv_iload hx hb dX4_go_101 (lv_at hl 6 rfl) ?_
          refine lv_aload_n hx hb dX4_go_103 rfl (lv_at hl 2 rfl) ?_
          refine ct_get (C := RX4) (T := TX4) (N := 24) (ci := 4) (v := .int (m_dr x)) hM hK hP inX4 0 rfl rfl 5 (by decide) wfl_X4_50 rfl dX4_go_104 ?_
          refine lv_aload_n hx hb dX4_go_107 rfl (lv_at hl 2 rfl) ?_
          refine ct_get (C := RX4) (T := TX4) (N := 24) (ci := 4) (v := .ref (a 10)) hM hK hP inX4 0 rfl rfl 15 (by decide) wfl_X4_37 rfl dX4_go_108 ?_
          refine lv_iload hx hb dX4_go_111 (lv_at hl 1 rfl) ?_
          refine va_iald hx hb hK hP 10 0 (f := upd (m_to x) (Int32.toNatClampNeg q3) x19) (n := 8) (cA := cy 0) rfl rfl h6 dX4_go_113 ?_
          refine lv_imul hx hb dX4_go_114 ?_
          refine lv_iadd hx hb dX4_go_115 ?_
          refine lv_topi (fun x25 e26 => ?_)
          have hF := lt_n e26.symm hF
          try have hO := lo_n e26.symm hO
          refine lv_istore (lv' := [(4, .int x25), (5, .int x21), (6, .int q3), (0, .ref (a 0)), (1, .int s1), (2, .int s2), (3, .int s3)]) hx hb dX4_go_116 hl (by decide) rfl (fun ls hl => ?_)
          refine lv_aload_n hx hb dX4_go_118 rfl (lv_at hl 3 rfl) ?_
          refine ct_get (C := RX4) (T := TX4) (N := 24) (ci := 4) (v := .ref (a 9)) hM hK hP inX4 0 rfl rfl 14 (by decide) wfl_X4_34 rfl dX4_go_119 ?_
          refine lv_iload hx hb dX4_go_122 (lv_at hl 2 rfl) ?_
          refine lv_iload hx hb dX4_go_124 (lv_at hl 0 rfl) ?_
          refine va_iast hx hb hK hP hD hS 9 0 (f := m_en x) (n := 8) (cA := cy 0) rfl rfl h6 dX4_go_126 (fun H locs hP hD hS => ?_)
          have hP : va_P D classes (gwM cy a (m_co x, m_mi x, m_mn x, m_pa x, m_ca x, m_dr x, m_fa x, m_st x, m_ha x, m_pd x, m_pn x, m_fr x, m_at x, upd (m_wa x) (Int32.toNatClampNeg q3) x23, upd (m_en x) (Int32.toNatClampNeg q3) x25, upd (m_to x) (Int32.toNatClampNeg q3) x19, m_or x, m_my x, m_bf x, m_bs x, m_kp x, m_ik x, m_ka x, m_iw x)) H := hP
          have hD : va_D A (gwM cy a (m_co x, m_mi x, m_mn x, m_pa x, m_ca x, m_dr x, m_fa x, m_st x, m_ha x, m_pd x, m_pn x, m_fr x, m_at x, upd (m_wa x) (Int32.toNatClampNeg q3) x23, upd (m_en x) (Int32.toNatClampNeg q3) x25, upd (m_to x) (Int32.toNatClampNeg q3) x19, m_or x, m_my x, m_bf x, m_bs x, m_kp x, m_ik x, m_ka x, m_iw x)) := hD
          refine lv_aload_n hx hb dX4_go_127 rfl (lv_at hl 3 rfl) ?_
          refine ct_get (C := RX4) (T := TX4) (N := 24) (ci := 4) (v := .ref (a 11)) hM hK hP inX4 0 rfl rfl 16 (by decide) wfl_X4_40 rfl dX4_go_128 ?_
          refine lv_aload_n hx hb dX4_go_131 rfl (lv_at hl 3 rfl) ?_
          refine ct_get (C := RX4) (T := TX4) (N := 24) (ci := 4) (v := .int (m_my x)) hM hK hP inX4 0 rfl rfl 17 (by decide) wfl_X4_115 rfl dX4_go_132 ?_
          refine lv_iload hx hb dX4_go_135 (lv_at hl 2 rfl) ?_
          obtain ⟨h27, hO⟩ := hO
          refine va_iast hx hb hK hP hD hS 11 0 (f := m_or x) (n := 8) (cA := cy 0) rfl rfl h27 dX4_go_137 (fun H locs hP hD hS => ?_)
          have hP : va_P D classes (gwM cy a (m_co x, m_mi x, m_mn x, m_pa x, m_ca x, m_dr x, m_fa x, m_st x, m_ha x, m_pd x, m_pn x, m_fr x, m_at x, upd (m_wa x) (Int32.toNatClampNeg q3) x23, upd (m_en x) (Int32.toNatClampNeg q3) x25, upd (m_to x) (Int32.toNatClampNeg q3) x19, upd (m_or x) (Int32.toNatClampNeg (m_my x)) q3, m_my x, m_bf x, m_bs x, m_kp x, m_ik x, m_ka x, m_iw x)) H := hP
          have hD : va_D A (gwM cy a (m_co x, m_mi x, m_mn x, m_pa x, m_ca x, m_dr x, m_fa x, m_st x, m_ha x, m_pd x, m_pn x, m_fr x, m_at x, upd (m_wa x) (Int32.toNatClampNeg q3) x23, upd (m_en x) (Int32.toNatClampNeg q3) x25, upd (m_to x) (Int32.toNatClampNeg q3) x19, upd (m_or x) (Int32.toNatClampNeg (m_my x)) q3, m_my x, m_bf x, m_bs x, m_kp x, m_ik x, m_ka x, m_iw x)) := hD
          refine lv_aload_n hx hb dX4_go_138 rfl (lv_at hl 3 rfl) ?_
          refine lv_dup hx hb dX4_go_139 rfl ?_
          refine ct_get (C := RX4) (T := TX4) (N := 24) (ci := 4) (v := .int (m_my x)) hM hK hP inX4 0 rfl rfl 17 (by decide) wfl_X4_115 rfl dX4_go_140 ?_
          refine lv_iconst (v := 1) hx hb dX4_go_143 (by decide) ?_
          refine lv_iadd hx hb dX4_go_144 ?_
          refine lv_topi (fun x28 e29 => ?_)
          have hF := lt_n e29.symm hF
          try have hO := lo_n e29.symm hO
          refine ct_put1 (C := RX4) (T := TX4) (N := 24) (ci := 4) (v := .int x28) hM hK hP hD hS inX4 tyX4 tyX4_ok nmX4 0 rfl rfl 17 (by decide) wfl_X4_115 rfl (by first | rfl | decide) (by first | rfl | decide) (Nat.le_of_ble_eq_true rfl) dX4_go_145 (fun H locs hP hD hS => ?_)
          have hP : va_P D classes (gwM cy a (m_co x, m_mi x, m_mn x, m_pa x, m_ca x, m_dr x, m_fa x, m_st x, m_ha x, m_pd x, m_pn x, m_fr x, m_at x, upd (m_wa x) (Int32.toNatClampNeg q3) x23, upd (m_en x) (Int32.toNatClampNeg q3) x25, upd (m_to x) (Int32.toNatClampNeg q3) x19, upd (m_or x) (Int32.toNatClampNeg (m_my x)) q3, x28, m_bf x, m_bs x, m_kp x, m_ik x, m_ka x, m_iw x)) H := hP
          have hD : va_D A (gwM cy a (m_co x, m_mi x, m_mn x, m_pa x, m_ca x, m_dr x, m_fa x, m_st x, m_ha x, m_pd x, m_pn x, m_fr x, m_at x, upd (m_wa x) (Int32.toNatClampNeg q3) x23, upd (m_en x) (Int32.toNatClampNeg q3) x25, upd (m_to x) (Int32.toNatClampNeg q3) x19, upd (m_or x) (Int32.toNatClampNeg (m_my x)) q3, x28, m_bf x, m_bs x, m_kp x, m_ik x, m_ka x, m_iw x)) := hD
          refine lv_iload_n hx hb dX4_go_148 rfl (lv_at hl 6 rfl) ?_
          refine lv_iconst (v := 1) hx hb dX4_go_149 (by decide) ?_
          refine lv_iload hx hb dX4_go_150 (lv_at hl 2 rfl) ?_
          refine lv_ishl hx hb dX4_go_152 ?_
          refine lv_iconst (v := (-1)) hx hb dX4_go_153 (by decide) ?_
          refine lv_ixor hx hb dX4_go_154 ?_
          refine lv_iand hx hb dX4_go_155 ?_
          refine lv_topi (fun x30 e31 => ?_)
          have hF := lt_n e31.symm hF
          try have hO := lo_n e31.symm hO
          refine lv_istore_n (lv' := [(3, .int x30), (4, .int x25), (5, .int x21), (6, .int q3), (0, .ref (a 0)), (1, .int s1), (2, .int s2)]) hx hb dX4_go_156 rfl hl (by decide) rfl (fun ls hl => ?_)
          refine lv_goto (tgt := 13) hx hb dX4_go_157 (by decide) ?_
          exact ih (m_co x, m_mi x, m_mn x, m_pa x, m_ca x, m_dr x, m_fa x, m_st x, m_ha x, m_pd x, m_pn x, m_fr x, m_at x, upd (m_wa x) (Int32.toNatClampNeg q3) x23, upd (m_en x) (Int32.toNatClampNeg q3) x25, upd (m_to x) (Int32.toNatClampNeg q3) x19, upd (m_or x) (Int32.toNatClampNeg (m_my x)) q3, x28, m_bf x, m_bs x, m_kp x, m_ik x, m_ka x, m_iw x) x30 x25 x21 H locs ls hP hD hS (lv_sub hl [4, 5, 6, 0, 1, 2] rfl) hO hF
      · have hF := lt_f c5 hF
        have hO := lo_f c5 hO
        refine lv_aload_n hx hb dX4_go_31 rfl (lv_at hl 1 rfl) ?_
        refine lv_iload_n hx hb dX4_go_32 rfl (lv_at hl 4 rfl) ?_
        obtain ⟨h32, hO⟩ := hO
        obtain ⟨q33, e34⟩ : ∃ q, fX4_soonest x s3 = q := ⟨_, rfl⟩
        have hF := lt_n e34 hF
        try have hO := lo_n e34 hO
        refine ct_callF hM hK hP hD hS (kX4_soonest l D cy a x s3 h32 e34) kvX4_soonest wml_X4_121 rfl 0 rfl rfl rfl rfl hl.1 rfl ⟨rfl, rfl, Nat.le_of_ble_eq_true rfl, Nat.le_of_ble_eq_true rfl⟩ (Nat.le_of_ble_eq_true rfl) ⟨Nat.zero_le _, Nat.zero_le _⟩ dX4_go_33 (fun H locs hP hD hS => ?_)
        refine W.eq (g2 := F0 m 36 ls [.int q33]) rfl ?_
        refine lv_istore (lv' := [(4, .int q33), (6, .int q3), (0, .ref (a 0)), (1, .int s1), (2, .int s2), (3, .int s3), (5, .int s5)]) hx hb dX4_go_36 hl (by decide) rfl (fun ls hl => ?_)
        refine lv_goto (tgt := 157) hx hb dX4_go_38 (by decide) ?_
        refine lv_goto (tgt := 13) hx hb dX4_go_157 (by decide) ?_
        exact ih x s3 q33 s5 H locs ls hP hD hS (lv_sub hl [2, 3, 4, 5, 0, 6] rfl) hO hF

def fX4_go (x : tMs) (s1 : Int32) (s2 : Int32) : tMs := fX4_go_13 17 (m_co x, m_mi x, m_mn x, m_pa x, m_ca x, m_dr x, m_fa x, m_st x, m_ha x, m_pd x, m_pn x, m_fr x, m_at x, m_wa x, m_en x, m_to x, m_or x, 0, m_bf x, m_bs x, m_kp x, m_ik x, m_ka x, m_iw x) s1 0 s2
def oX4_go (x : tMs) (s1 : Int32) (s2 : Int32) : Prop := oX4_go_13 17 (m_co x, m_mi x, m_mn x, m_pa x, m_ca x, m_dr x, m_fa x, m_st x, m_ha x, m_pd x, m_pn x, m_fr x, m_at x, m_wa x, m_en x, m_to x, m_or x, 0, m_bf x, m_bs x, m_kp x, m_ik x, m_ka x, m_iw x) s1 0 s2
theorem kvX4_go : KV yX4_go cX4_go 7 none 2 := ⟨wcd_X4_go, wim_X4_go, wsl_X4_go, win_X4, by decide +kernel, by decide +kernel, by decide +kernel⟩
set_option maxHeartbeats 4000000 in
set_option maxRecDepth 100000 in
theorem kX4_go (l : Launch) (D : va_G) (cy : Nat → ClassId) (a : Nat → Nat) (x : tMs) (s1 : Int32) (s2 : Int32) {R : tMs} (hO : oX4_go x s1 s2) (hF : fX4_go x s1 s2 = R) : CT l D cy yX4_go cX4_go 7 none rX4_go [.ref (a 0), .int s1, .int s2] (gwM cy a x) none (gwM cy a R) := by
  refine ct_of (by decide) (Nat.le_of_ble_eq_true rfl) ?_
  intro p e s m args below meth c A ls hM hK hP hD hS hl
  obtain ⟨hx, hb, -, hml, hown, hts, -⟩ := id hM
  have hl : lv_has ls 7 [(0, .ref (a 0)), (1, .int s1), (2, .int s2)] := hl
  obtain ⟨H, hH⟩ : ∃ H : Heap, H = s.heap := ⟨_, rfl⟩
  obtain ⟨locs, hlocs⟩ : ∃ q : List Loc, q = [] := ⟨_, rfl⟩
  have hP : va_P D classes (gwM cy a x) H := by rw [hH]; exact hP
  have hS : va_S A s.heap H locs := by rw [hH, hlocs]; exact hS
  suffices hg : W p l e rX4_go s m args below meth c H locs 0 0 (MQ below (ctQ D none (gwM cy a R) A) args s 0 0 A) (F0 m 0 ls []) by rw [hH, hlocs] at hg; exact hg
  clear hH hlocs
  unfold fX4_go at hF
  unfold oX4_go at hO
  refine lv_iload_n hx hb dX4_go_0 rfl (lv_at hl 1 rfl) ?_
  refine lv_istore_n (lv' := [(3, .int s1), (0, .ref (a 0)), (1, .int s1), (2, .int s2)]) hx hb dX4_go_1 rfl hl (by decide) rfl (fun ls hl => ?_)
  refine lv_iconst (v := 0) hx hb dX4_go_2 (by decide) ?_
  refine lv_istore (lv' := [(4, .int 0), (3, .int s1), (0, .ref (a 0)), (1, .int s1), (2, .int s2)]) hx hb dX4_go_3 hl (by decide) rfl (fun ls hl => ?_)
  refine lv_iload_n hx hb dX4_go_5 rfl (lv_at hl 4 rfl) ?_
  refine lv_istore (lv' := [(5, .int s2), (4, .int 0), (3, .int s1), (0, .ref (a 0)), (1, .int s1), (2, .int s2)]) hx hb dX4_go_6 hl (by decide) rfl (fun ls hl => ?_)
  refine lv_aload_n hx hb dX4_go_8 rfl (lv_at hl 3 rfl) ?_
  refine lv_iconst (v := 0) hx hb dX4_go_9 (by decide) ?_
  refine ct_put1 (C := RX4) (T := TX4) (N := 24) (ci := 4) (v := .int 0) hM hK hP hD hS inX4 tyX4 tyX4_ok nmX4 0 rfl rfl 17 (by decide) wfl_X4_115 rfl (by first | rfl | decide) (by first | rfl | decide) (Nat.le_of_ble_eq_true rfl) dX4_go_10 (fun H locs hP hD hS => ?_)
  have hP : va_P D classes (gwM cy a (m_co x, m_mi x, m_mn x, m_pa x, m_ca x, m_dr x, m_fa x, m_st x, m_ha x, m_pd x, m_pn x, m_fr x, m_at x, m_wa x, m_en x, m_to x, m_or x, 0, m_bf x, m_bs x, m_kp x, m_ik x, m_ka x, m_iw x)) H := hP
  have hD : va_D A (gwM cy a (m_co x, m_mi x, m_mn x, m_pa x, m_ca x, m_dr x, m_fa x, m_st x, m_ha x, m_pd x, m_pn x, m_fr x, m_at x, m_wa x, m_en x, m_to x, m_or x, 0, m_bf x, m_bs x, m_kp x, m_ik x, m_ka x, m_iw x)) := hD
  exact tX4_go_13 hM hK 17 (m_co x, m_mi x, m_mn x, m_pa x, m_ca x, m_dr x, m_fa x, m_st x, m_ha x, m_pd x, m_pn x, m_fr x, m_at x, m_wa x, m_en x, m_to x, m_or x, 0, m_bf x, m_bs x, m_kp x, m_ik x, m_ka x, m_iw x) s1 0 s2 H locs ls hP hD hS (lv_sub hl [3, 4, 5, 2, 1, 0] rfl) hO hF

abbrev rX4_worstOf : Room := { frames := 0, cells := 0, slots := 0, locals := 0 }
def fX4_worstOf_4 (x : tMs) (s1 : Int32) : Nat → Int32 → Int32 → Int32
  | 0, s2, s3 => 0
  | n + 1, s2, s3 => if 8 ≤ s3 then s2 else (if ((s1 >>> (s3 &&& 31)) &&& 1) = 1 then (if (m_wa x) (Int32.toNatClampNeg s3) ≤ s2 then (lt_ (s3 + 1) fun x7 => fX4_worstOf_4 x s1 n s2 x7) else (lt_ ((m_wa x) (Int32.toNatClampNeg s3)) fun x9 => lt_ (s3 + 1) fun x11 => fX4_worstOf_4 x s1 n x9 x11)) else (lt_ (s3 + 1) fun x3 => fX4_worstOf_4 x s1 n s2 x3))
def oX4_worstOf_4 (x : tMs) (s1 : Int32) : Nat → Int32 → Int32 → Prop
  | 0, _, _ => False
  | n + 1, s2, s3 => if 8 ≤ s3 then True else (if ((s1 >>> (s3 &&& 31)) &&& 1) = 1 then (vp_in s3 8 ∧ (if (m_wa x) (Int32.toNatClampNeg s3) ≤ s2 then (lo_ (s3 + 1) fun x7 => oX4_worstOf_4 x s1 n s2 x7) else (lo_ ((m_wa x) (Int32.toNatClampNeg s3)) fun x9 => lo_ (s3 + 1) fun x11 => oX4_worstOf_4 x s1 n x9 x11))) else (lo_ (s3 + 1) fun x3 => oX4_worstOf_4 x s1 n s2 x3))
set_option maxHeartbeats 4000000 in
set_option maxRecDepth 100000 in
theorem tX4_worstOf_4 {p : Program} {l : Launch} {e : Env} {s : State} {m : MethodId} {args : Array Value} {below : List Frame} {meth : Method} {c : Code} {A : Nat → Prop} {D : va_G} {cy : Nat → ClassId} {a : Nat → Nat} {x : tMs} {s1 : Int32} {R : Int32} (hM : MC p s m args meth c RX4 cX4_worstOf 4 (some .int)) (hK : va_K D classes (ctT cy) s) :
    ∀ (n : Nat) (s2 : Int32) (s3 : Int32) (H : Heap) (locs : List Loc) (ls : Array Slot), va_P D classes (gwM cy a x) H → va_D A (gwM cy a x) → va_S A s.heap H locs → lv_has ls 4 [(0, .ref (a 0)), (1, .int s1), (2, .int s2), (3, .int s3)] → oX4_worstOf_4 x s1 n s2 s3 → fX4_worstOf_4 x s1 n s2 s3 = R → W p l e rX4_worstOf s m args below meth c H locs 0 0 (MQ below (ctQ D (some (.int R)) (gwM cy a x) A) args s 0 0 A) (F0 m 4 ls []) := by
  obtain ⟨hx, hb, -, hml, hown, hts, -⟩ := id hM
  intro n
  induction n with
  | zero =>
    intro s2 s3 H locs ls hP hD hS hl hO hF
    exact False.elim hO
  | succ n ih =>
    intro s2 s3 H locs ls hP hD hS hl hO hF
    rw [fX4_worstOf_4] at hF
    rw [oX4_worstOf_4] at hO
    refine lv_iload_n hx hb dX4_worstOf_4 rfl (lv_at hl 3 rfl) ?_
    refine lv_bipush (v := 8) hx hb dX4_worstOf_5 (by decide) ?_
    refine lv_icmp_ge (tgt := 46) hx hb dX4_worstOf_7 (by decide) (fun c1 => ?_) (fun c1 => ?_)
    · have hF := lt_t c1 hF
      have hO := lo_t c1 hO
      refine lv_iload_n hx hb dX4_worstOf_46 rfl (lv_at hl 2 rfl) ?_
      subst hF
      exact ct_iret hM hP hS dX4_worstOf_47
    · have hF := lt_f c1 hF
      have hO := lo_f c1 hO
      refine lv_iload_n hx hb dX4_worstOf_10 rfl (lv_at hl 1 rfl) ?_
      refine lv_iload_n hx hb dX4_worstOf_11 rfl (lv_at hl 3 rfl) ?_
      refine lv_ishr hx hb dX4_worstOf_12 ?_
      refine lv_iconst (v := 1) hx hb dX4_worstOf_13 (by decide) ?_
      refine lv_iand hx hb dX4_worstOf_14 ?_
      refine lv_iconst (v := 1) hx hb dX4_worstOf_15 (by decide) ?_
      refine lv_icmp_ne (tgt := 38) hx hb dX4_worstOf_16 (by decide) (fun c2 => ?_) (fun c2 => ?_)
      · have hF := lt_f c2 hF
        have hO := lo_f c2 hO
        refine lv_iload_n hx hb dX4_worstOf_38 rfl (lv_at hl 2 rfl) ?_
        refine lv_istore_n (lv' := [(2, .int s2), (0, .ref (a 0)), (1, .int s1), (3, .int s3)]) hx hb dX4_worstOf_39 rfl hl (by decide) rfl (fun ls hl => ?_)
        obtain ⟨x3, e4⟩ : ∃ y : Int32, s3 + 1 = y := ⟨_, rfl⟩
        have hF := lt_n e4 hF
        try have hO := lo_n e4 hO
        refine lv_iinc (v := x3) (lv' := [(3, .int x3), (2, .int s2), (0, .ref (a 0)), (1, .int s1)]) hx hb dX4_worstOf_40 hl (k := 3) rfl (by rw [← e4]; rfl) (by decide) rfl (fun ls hl => ?_)
        refine lv_goto (tgt := 4) hx hb dX4_worstOf_43 (by decide) ?_
        exact ih s2 x3 H locs ls hP hD hS (lv_sub hl [2, 3, 1, 0] rfl) hO hF
      · have hF := lt_t c2 hF
        have hO := lo_t c2 hO
        refine lv_aload_n hx hb dX4_worstOf_19 rfl (lv_at hl 0 rfl) ?_
        refine ct_get (C := RX4) (T := TX4) (N := 24) (ci := 4) (v := .ref (a 8)) hM hK hP inX4 0 rfl rfl 13 (by decide) wfl_X4_31 rfl dX4_worstOf_20 ?_
        refine lv_iload_n hx hb dX4_worstOf_23 rfl (lv_at hl 3 rfl) ?_
        obtain ⟨h5, hO⟩ := hO
        refine va_iald hx hb hK hP 8 0 (f := m_wa x) (n := 8) (cA := cy 0) rfl rfl h5 dX4_worstOf_24 ?_
        refine lv_iload_n hx hb dX4_worstOf_25 rfl (lv_at hl 2 rfl) ?_
        refine lv_icmp_le (tgt := 38) hx hb dX4_worstOf_26 (by decide) (fun c6 => ?_) (fun c6 => ?_)
        · have hF := lt_t c6 hF
          have hO := lo_t c6 hO
          refine lv_iload_n hx hb dX4_worstOf_38 rfl (lv_at hl 2 rfl) ?_
          refine lv_istore_n (lv' := [(2, .int s2), (0, .ref (a 0)), (1, .int s1), (3, .int s3)]) hx hb dX4_worstOf_39 rfl hl (by decide) rfl (fun ls hl => ?_)
          obtain ⟨x7, e8⟩ : ∃ y : Int32, s3 + 1 = y := ⟨_, rfl⟩
          have hF := lt_n e8 hF
          try have hO := lo_n e8 hO
          refine lv_iinc (v := x7) (lv' := [(3, .int x7), (2, .int s2), (0, .ref (a 0)), (1, .int s1)]) hx hb dX4_worstOf_40 hl (k := 3) rfl (by rw [← e8]; rfl) (by decide) rfl (fun ls hl => ?_)
          refine lv_goto (tgt := 4) hx hb dX4_worstOf_43 (by decide) ?_
          exact ih s2 x7 H locs ls hP hD hS (lv_sub hl [2, 3, 1, 0] rfl) hO hF
        · have hF := lt_f c6 hF
          have hO := lo_f c6 hO
          refine lv_aload_n hx hb dX4_worstOf_29 rfl (lv_at hl 0 rfl) ?_
          refine ct_get (C := RX4) (T := TX4) (N := 24) (ci := 4) (v := .ref (a 8)) hM hK hP inX4 0 rfl rfl 13 (by decide) wfl_X4_31 rfl dX4_worstOf_30 ?_
          refine lv_iload_n hx hb dX4_worstOf_33 rfl (lv_at hl 3 rfl) ?_
          refine va_iald hx hb hK hP 8 0 (f := m_wa x) (n := 8) (cA := cy 0) rfl rfl h5 dX4_worstOf_34 ?_
          refine lv_goto (tgt := 39) hx hb dX4_worstOf_35 (by decide) ?_
          refine lv_topi (fun x9 e10 => ?_)
          have hF := lt_n e10.symm hF
          try have hO := lo_n e10.symm hO
          refine lv_istore_n (lv' := [(2, .int x9), (0, .ref (a 0)), (1, .int s1), (3, .int s3)]) hx hb dX4_worstOf_39 rfl hl (by decide) rfl (fun ls hl => ?_)
          obtain ⟨x11, e12⟩ : ∃ y : Int32, s3 + 1 = y := ⟨_, rfl⟩
          have hF := lt_n e12 hF
          try have hO := lo_n e12 hO
          refine lv_iinc (v := x11) (lv' := [(3, .int x11), (2, .int x9), (0, .ref (a 0)), (1, .int s1)]) hx hb dX4_worstOf_40 hl (k := 3) rfl (by rw [← e12]; rfl) (by decide) rfl (fun ls hl => ?_)
          refine lv_goto (tgt := 4) hx hb dX4_worstOf_43 (by decide) ?_
          exact ih x9 x11 H locs ls hP hD hS (lv_sub hl [2, 3, 1, 0] rfl) hO hF

def fX4_worstOf (x : tMs) (s1 : Int32) : Int32 := fX4_worstOf_4 x s1 9 0 0
def oX4_worstOf (x : tMs) (s1 : Int32) : Prop := oX4_worstOf_4 x s1 9 0 0
theorem kvX4_worstOf : KV yX4_worstOf cX4_worstOf 4 (some .int) 1 := ⟨wcd_X4_worstOf, wim_X4_worstOf, wsl_X4_worstOf, win_X4, by decide +kernel, by decide +kernel, by decide +kernel⟩
set_option maxHeartbeats 4000000 in
set_option maxRecDepth 100000 in
theorem kX4_worstOf (l : Launch) (D : va_G) (cy : Nat → ClassId) (a : Nat → Nat) (x : tMs) (s1 : Int32) {R : Int32} (hO : oX4_worstOf x s1) (hF : fX4_worstOf x s1 = R) : CT l D cy yX4_worstOf cX4_worstOf 4 (some .int) rX4_worstOf [.ref (a 0), .int s1] (gwM cy a x) (some (.int R)) (gwM cy a x) := by
  refine ct_of (by decide) (Nat.le_of_ble_eq_true rfl) ?_
  intro p e s m args below meth c A ls hM hK hP hD hS hl
  obtain ⟨hx, hb, -, hml, hown, hts, -⟩ := id hM
  have hl : lv_has ls 4 [(0, .ref (a 0)), (1, .int s1)] := hl
  obtain ⟨H, hH⟩ : ∃ H : Heap, H = s.heap := ⟨_, rfl⟩
  obtain ⟨locs, hlocs⟩ : ∃ q : List Loc, q = [] := ⟨_, rfl⟩
  have hP : va_P D classes (gwM cy a x) H := by rw [hH]; exact hP
  have hS : va_S A s.heap H locs := by rw [hH, hlocs]; exact hS
  suffices hg : W p l e rX4_worstOf s m args below meth c H locs 0 0 (MQ below (ctQ D (some (.int R)) (gwM cy a x) A) args s 0 0 A) (F0 m 0 ls []) by rw [hH, hlocs] at hg; exact hg
  clear hH hlocs
  unfold fX4_worstOf at hF
  unfold oX4_worstOf at hO
  refine lv_iconst (v := 0) hx hb dX4_worstOf_0 (by decide) ?_
  refine lv_istore_n (lv' := [(2, .int 0), (0, .ref (a 0)), (1, .int s1)]) hx hb dX4_worstOf_1 rfl hl (by decide) rfl (fun ls hl => ?_)
  refine lv_iconst (v := 0) hx hb dX4_worstOf_2 (by decide) ?_
  refine lv_istore_n (lv' := [(3, .int 0), (2, .int 0), (0, .ref (a 0)), (1, .int s1)]) hx hb dX4_worstOf_3 rfl hl (by decide) rfl (fun ls hl => ?_)
  exact tX4_worstOf_4 hM hK 9 0 0 H locs ls hP hD hS (lv_sub hl [2, 3, 1, 0] rfl) hO hF

abbrev rX4_sumOf : Room := { frames := 0, cells := 0, slots := 0, locals := 0 }
def fX4_sumOf_4 (x : tMs) (s1 : Int32) : Nat → Int32 → Int32 → Int32
  | 0, s2, s3 => 0
  | n + 1, s2, s3 => if 8 ≤ s3 then s2 else (if ((s1 >>> (s3 &&& 31)) &&& 1) = 1 then (lt_ (s2 + (m_wa x) (Int32.toNatClampNeg s3)) fun x8 => lt_ (s3 + 1) fun x10 => fX4_sumOf_4 x s1 n x8 x10) else (lt_ (s2 + 0) fun x3 => lt_ (s3 + 1) fun x5 => fX4_sumOf_4 x s1 n x3 x5))
def oX4_sumOf_4 (x : tMs) (s1 : Int32) : Nat → Int32 → Int32 → Prop
  | 0, _, _ => False
  | n + 1, s2, s3 => if 8 ≤ s3 then True else (if ((s1 >>> (s3 &&& 31)) &&& 1) = 1 then (vp_in s3 8 ∧ (lo_ (s2 + (m_wa x) (Int32.toNatClampNeg s3)) fun x8 => lo_ (s3 + 1) fun x10 => oX4_sumOf_4 x s1 n x8 x10)) else (lo_ (s2 + 0) fun x3 => lo_ (s3 + 1) fun x5 => oX4_sumOf_4 x s1 n x3 x5))
set_option maxHeartbeats 4000000 in
set_option maxRecDepth 100000 in
theorem tX4_sumOf_4 {p : Program} {l : Launch} {e : Env} {s : State} {m : MethodId} {args : Array Value} {below : List Frame} {meth : Method} {c : Code} {A : Nat → Prop} {D : va_G} {cy : Nat → ClassId} {a : Nat → Nat} {x : tMs} {s1 : Int32} {R : Int32} (hM : MC p s m args meth c RX4 cX4_sumOf 4 (some .int)) (hK : va_K D classes (ctT cy) s) :
    ∀ (n : Nat) (s2 : Int32) (s3 : Int32) (H : Heap) (locs : List Loc) (ls : Array Slot), va_P D classes (gwM cy a x) H → va_D A (gwM cy a x) → va_S A s.heap H locs → lv_has ls 4 [(0, .ref (a 0)), (1, .int s1), (2, .int s2), (3, .int s3)] → oX4_sumOf_4 x s1 n s2 s3 → fX4_sumOf_4 x s1 n s2 s3 = R → W p l e rX4_sumOf s m args below meth c H locs 0 0 (MQ below (ctQ D (some (.int R)) (gwM cy a x) A) args s 0 0 A) (F0 m 4 ls []) := by
  obtain ⟨hx, hb, -, hml, hown, hts, -⟩ := id hM
  intro n
  induction n with
  | zero =>
    intro s2 s3 H locs ls hP hD hS hl hO hF
    exact False.elim hO
  | succ n ih =>
    intro s2 s3 H locs ls hP hD hS hl hO hF
    rw [fX4_sumOf_4] at hF
    rw [oX4_sumOf_4] at hO
    refine lv_iload_n hx hb dX4_sumOf_4 rfl (lv_at hl 3 rfl) ?_
    refine lv_bipush (v := 8) hx hb dX4_sumOf_5 (by decide) ?_
    refine lv_icmp_ge (tgt := 38) hx hb dX4_sumOf_7 (by decide) (fun c1 => ?_) (fun c1 => ?_)
    · have hF := lt_t c1 hF
      have hO := lo_t c1 hO
      refine lv_iload_n hx hb dX4_sumOf_38 rfl (lv_at hl 2 rfl) ?_
      subst hF
      exact ct_iret hM hP hS dX4_sumOf_39
    · have hF := lt_f c1 hF
      have hO := lo_f c1 hO
      refine lv_iload_n hx hb dX4_sumOf_10 rfl (lv_at hl 2 rfl) ?_
      refine lv_iload_n hx hb dX4_sumOf_11 rfl (lv_at hl 1 rfl) ?_
      refine lv_iload_n hx hb dX4_sumOf_12 rfl (lv_at hl 3 rfl) ?_
      refine lv_ishr hx hb dX4_sumOf_13 ?_
      refine lv_iconst (v := 1) hx hb dX4_sumOf_14 (by decide) ?_
      refine lv_iand hx hb dX4_sumOf_15 ?_
      refine lv_iconst (v := 1) hx hb dX4_sumOf_16 (by decide) ?_
      refine lv_icmp_ne (tgt := 29) hx hb dX4_sumOf_17 (by decide) (fun c2 => ?_) (fun c2 => ?_)
      · have hF := lt_f c2 hF
        have hO := lo_f c2 hO
        refine lv_iconst (v := 0) hx hb dX4_sumOf_29 (by decide) ?_
        refine lv_iadd hx hb dX4_sumOf_30 ?_
        refine lv_topi (fun x3 e4 => ?_)
        have hF := lt_n e4.symm hF
        try have hO := lo_n e4.symm hO
        refine lv_istore_n (lv' := [(2, .int x3), (0, .ref (a 0)), (1, .int s1), (3, .int s3)]) hx hb dX4_sumOf_31 rfl hl (by decide) rfl (fun ls hl => ?_)
        obtain ⟨x5, e6⟩ : ∃ y : Int32, s3 + 1 = y := ⟨_, rfl⟩
        have hF := lt_n e6 hF
        try have hO := lo_n e6 hO
        refine lv_iinc (v := x5) (lv' := [(3, .int x5), (2, .int x3), (0, .ref (a 0)), (1, .int s1)]) hx hb dX4_sumOf_32 hl (k := 3) rfl (by rw [← e6]; rfl) (by decide) rfl (fun ls hl => ?_)
        refine lv_goto (tgt := 4) hx hb dX4_sumOf_35 (by decide) ?_
        exact ih x3 x5 H locs ls hP hD hS (lv_sub hl [2, 3, 1, 0] rfl) hO hF
      · have hF := lt_t c2 hF
        have hO := lo_t c2 hO
        refine lv_aload_n hx hb dX4_sumOf_20 rfl (lv_at hl 0 rfl) ?_
        refine ct_get (C := RX4) (T := TX4) (N := 24) (ci := 4) (v := .ref (a 8)) hM hK hP inX4 0 rfl rfl 13 (by decide) wfl_X4_31 rfl dX4_sumOf_21 ?_
        refine lv_iload_n hx hb dX4_sumOf_24 rfl (lv_at hl 3 rfl) ?_
        obtain ⟨h7, hO⟩ := hO
        refine va_iald hx hb hK hP 8 0 (f := m_wa x) (n := 8) (cA := cy 0) rfl rfl h7 dX4_sumOf_25 ?_
        refine lv_goto (tgt := 30) hx hb dX4_sumOf_26 (by decide) ?_
        refine lv_iadd hx hb dX4_sumOf_30 ?_
        refine lv_topi (fun x8 e9 => ?_)
        have hF := lt_n e9.symm hF
        try have hO := lo_n e9.symm hO
        refine lv_istore_n (lv' := [(2, .int x8), (0, .ref (a 0)), (1, .int s1), (3, .int s3)]) hx hb dX4_sumOf_31 rfl hl (by decide) rfl (fun ls hl => ?_)
        obtain ⟨x10, e11⟩ : ∃ y : Int32, s3 + 1 = y := ⟨_, rfl⟩
        have hF := lt_n e11 hF
        try have hO := lo_n e11 hO
        refine lv_iinc (v := x10) (lv' := [(3, .int x10), (2, .int x8), (0, .ref (a 0)), (1, .int s1)]) hx hb dX4_sumOf_32 hl (k := 3) rfl (by rw [← e11]; rfl) (by decide) rfl (fun ls hl => ?_)
        refine lv_goto (tgt := 4) hx hb dX4_sumOf_35 (by decide) ?_
        exact ih x8 x10 H locs ls hP hD hS (lv_sub hl [2, 3, 1, 0] rfl) hO hF

def fX4_sumOf (x : tMs) (s1 : Int32) : Int32 := fX4_sumOf_4 x s1 9 0 0
def oX4_sumOf (x : tMs) (s1 : Int32) : Prop := oX4_sumOf_4 x s1 9 0 0
theorem kvX4_sumOf : KV yX4_sumOf cX4_sumOf 4 (some .int) 1 := ⟨wcd_X4_sumOf, wim_X4_sumOf, wsl_X4_sumOf, win_X4, by decide +kernel, by decide +kernel, by decide +kernel⟩
set_option maxHeartbeats 4000000 in
set_option maxRecDepth 100000 in
theorem kX4_sumOf (l : Launch) (D : va_G) (cy : Nat → ClassId) (a : Nat → Nat) (x : tMs) (s1 : Int32) {R : Int32} (hO : oX4_sumOf x s1) (hF : fX4_sumOf x s1 = R) : CT l D cy yX4_sumOf cX4_sumOf 4 (some .int) rX4_sumOf [.ref (a 0), .int s1] (gwM cy a x) (some (.int R)) (gwM cy a x) := by
  refine ct_of (by decide) (Nat.le_of_ble_eq_true rfl) ?_
  intro p e s m args below meth c A ls hM hK hP hD hS hl
  obtain ⟨hx, hb, -, hml, hown, hts, -⟩ := id hM
  have hl : lv_has ls 4 [(0, .ref (a 0)), (1, .int s1)] := hl
  obtain ⟨H, hH⟩ : ∃ H : Heap, H = s.heap := ⟨_, rfl⟩
  obtain ⟨locs, hlocs⟩ : ∃ q : List Loc, q = [] := ⟨_, rfl⟩
  have hP : va_P D classes (gwM cy a x) H := by rw [hH]; exact hP
  have hS : va_S A s.heap H locs := by rw [hH, hlocs]; exact hS
  suffices hg : W p l e rX4_sumOf s m args below meth c H locs 0 0 (MQ below (ctQ D (some (.int R)) (gwM cy a x) A) args s 0 0 A) (F0 m 0 ls []) by rw [hH, hlocs] at hg; exact hg
  clear hH hlocs
  unfold fX4_sumOf at hF
  unfold oX4_sumOf at hO
  refine lv_iconst (v := 0) hx hb dX4_sumOf_0 (by decide) ?_
  refine lv_istore_n (lv' := [(2, .int 0), (0, .ref (a 0)), (1, .int s1)]) hx hb dX4_sumOf_1 rfl hl (by decide) rfl (fun ls hl => ?_)
  refine lv_iconst (v := 0) hx hb dX4_sumOf_2 (by decide) ?_
  refine lv_istore_n (lv' := [(3, .int 0), (2, .int 0), (0, .ref (a 0)), (1, .int s1)]) hx hb dX4_sumOf_3 rfl hl (by decide) rfl (fun ls hl => ?_)
  exact tX4_sumOf_4 hM hK 9 0 0 H locs ls hP hD hS (lv_sub hl [2, 3, 1, 0] rfl) hO hF

abbrev rX4_goNow : Room := { frames := 4, cells := 0, slots := 0, locals := 99 }
def fX4_goNow (x : tMs) : tMs := lt_ (fX4_layNow x) fun q2 => lt_ (fX4_go q2 (m_co q2) 99) fun q5 => q5
def oX4_goNow (x : tMs) : Prop := oX4_layNow x ∧ (lo_ (fX4_layNow x) fun q2 => oX4_go q2 (m_co q2) 99 ∧ True)
theorem kvX4_goNow : KV yX4_goNow cX4_goNow 1 none 0 := ⟨wcd_X4_goNow, wim_X4_goNow, wsl_X4_goNow, win_X4, by decide +kernel, by decide +kernel, by decide +kernel⟩
set_option maxHeartbeats 4000000 in
set_option maxRecDepth 100000 in
theorem kX4_goNow (l : Launch) (D : va_G) (cy : Nat → ClassId) (a : Nat → Nat) (x : tMs) {R : tMs} (hO : oX4_goNow x) (hF : fX4_goNow x = R) : CT l D cy yX4_goNow cX4_goNow 1 none rX4_goNow [.ref (a 0)] (gwM cy a x) none (gwM cy a R) := by
  refine ct_of (by decide) (Nat.le_of_ble_eq_true rfl) ?_
  intro p e s m args below meth c A ls hM hK hP hD hS hl
  obtain ⟨hx, hb, -, hml, hown, hts, -⟩ := id hM
  have hl : lv_has ls 1 [(0, .ref (a 0))] := hl
  obtain ⟨H, hH⟩ : ∃ H : Heap, H = s.heap := ⟨_, rfl⟩
  obtain ⟨locs, hlocs⟩ : ∃ q : List Loc, q = [] := ⟨_, rfl⟩
  have hP : va_P D classes (gwM cy a x) H := by rw [hH]; exact hP
  have hS : va_S A s.heap H locs := by rw [hH, hlocs]; exact hS
  suffices hg : W p l e rX4_goNow s m args below meth c H locs 0 0 (MQ below (ctQ D none (gwM cy a R) A) args s 0 0 A) (F0 m 0 ls []) by rw [hH, hlocs] at hg; exact hg
  clear hH hlocs
  unfold fX4_goNow at hF
  unfold oX4_goNow at hO
  refine lv_aload_n hx hb dX4_goNow_0 rfl (lv_at hl 0 rfl) ?_
  obtain ⟨h1, hO⟩ := hO
  obtain ⟨q2, e3⟩ : ∃ q, fX4_layNow x = q := ⟨_, rfl⟩
  have hF := lt_n e3 hF
  try have hO := lo_n e3 hO
  refine ct_callF hM hK hP hD hS (kX4_layNow l D cy a x h1 e3) kvX4_layNow wml_X4_124 rfl 0 rfl rfl rfl rfl hl.1 rfl ⟨rfl, rfl, Nat.le_of_ble_eq_true rfl, Nat.le_of_ble_eq_true rfl⟩ (Nat.le_of_ble_eq_true rfl) ⟨Nat.zero_le _, Nat.zero_le _⟩ dX4_goNow_1 (fun H locs hP hD hS => ?_)
  refine W.eq (g2 := F0 m 4 ls []) rfl ?_
  have hP : va_P D classes (gwM cy a q2) H := hP
  have hD : va_D A (gwM cy a q2) := hD
  refine lv_aload_n hx hb dX4_goNow_4 rfl (lv_at hl 0 rfl) ?_
  refine lv_aload_n hx hb dX4_goNow_5 rfl (lv_at hl 0 rfl) ?_
  refine ct_get (C := RX4) (T := TX4) (N := 24) (ci := 4) (v := .int (m_co q2)) hM hK hP inX4 0 rfl rfl 0 (by decide) wfl_X4_67 rfl dX4_goNow_6 ?_
  refine lv_bipush (v := 99) hx hb dX4_goNow_9 (by decide) ?_
  obtain ⟨h4, hO⟩ := hO
  obtain ⟨q5, e6⟩ : ∃ q, fX4_go q2 (m_co q2) 99 = q := ⟨_, rfl⟩
  have hF := lt_n e6 hF
  try have hO := lo_n e6 hO
  refine ct_callF hM hK hP hD hS (kX4_go l D cy a q2 (m_co q2) 99 h4 e6) kvX4_go wml_X4_127 rfl 0 rfl rfl rfl rfl hl.1 rfl ⟨rfl, rfl, Nat.le_of_ble_eq_true rfl, Nat.le_of_ble_eq_true rfl⟩ (Nat.le_of_ble_eq_true rfl) ⟨Nat.zero_le _, Nat.zero_le _⟩ dX4_goNow_11 (fun H locs hP hD hS => ?_)
  refine W.eq (g2 := F0 m 14 ls []) rfl ?_
  have hP : va_P D classes (gwM cy a q5) H := hP
  have hD : va_D A (gwM cy a q5) := hD
  subst hF
  exact ct_vret hM hP hS dX4_goNow_14

abbrev rX2_start : Room := { frames := 0, cells := 0, slots := 0, locals := 0 }
def fX2_start (w : tWl) (s1 : Int32) : tWl := (w_or w, w_be w, w_en w, w_wa w, 0, 0, 0, 0, s1, s1)
def oX2_start (w : tWl) (s1 : Int32) : Prop := True
theorem kvX2_start : KV yX2_start cX2_start 2 none 1 := ⟨wcd_X2_start, wim_X2_start, wsl_X2_start, win_X2, by decide +kernel, by decide +kernel, by decide +kernel⟩
set_option maxHeartbeats 4000000 in
set_option maxRecDepth 100000 in
theorem kX2_start (l : Launch) (D : va_G) (cy : Nat → ClassId) (a : Nat → Nat) (w : tWl) (s1 : Int32) {R : tWl} (hO : oX2_start w s1) (hF : fX2_start w s1 = R) : CT l D cy yX2_start cX2_start 2 none rX2_start [.ref (a 0), .int s1] (gwW cy a w) none (gwW cy a R) := by
  refine ct_of (by decide) (Nat.le_of_ble_eq_true rfl) ?_
  intro p e s m args below meth c A ls hM hK hP hD hS hl
  obtain ⟨hx, hb, -, hml, hown, hts, -⟩ := id hM
  have hl : lv_has ls 2 [(0, .ref (a 0)), (1, .int s1)] := hl
  obtain ⟨H, hH⟩ : ∃ H : Heap, H = s.heap := ⟨_, rfl⟩
  obtain ⟨locs, hlocs⟩ : ∃ q : List Loc, q = [] := ⟨_, rfl⟩
  have hP : va_P D classes (gwW cy a w) H := by rw [hH]; exact hP
  have hS : va_S A s.heap H locs := by rw [hH, hlocs]; exact hS
  suffices hg : W p l e rX2_start s m args below meth c H locs 0 0 (MQ below (ctQ D none (gwW cy a R) A) args s 0 0 A) (F0 m 0 ls []) by rw [hH, hlocs] at hg; exact hg
  clear hH hlocs
  unfold fX2_start at hF
  unfold oX2_start at hO
  refine lv_aload_n hx hb dX2_start_0 rfl (lv_at hl 0 rfl) ?_
  refine lv_iload_n hx hb dX2_start_1 rfl (lv_at hl 1 rfl) ?_
  refine ct_put1 (C := RX2) (T := TX2) (N := 10) (ci := 2) (v := .int s1) hM hK hP hD hS inX2 tyX2 tyX2_ok nmX2 0 rfl rfl 8 (by decide) wfl_X2_63 rfl (by first | rfl | decide) (by first | rfl | decide) (Nat.le_of_ble_eq_true rfl) dX2_start_2 (fun H locs hP hD hS => ?_)
  have hP : va_P D classes (gwW cy a (w_or w, w_be w, w_en w, w_wa w, w_tu w, w_wo w, w_su w, w_ti w, s1, w_re w)) H := hP
  have hD : va_D A (gwW cy a (w_or w, w_be w, w_en w, w_wa w, w_tu w, w_wo w, w_su w, w_ti w, s1, w_re w)) := hD
  refine lv_aload_n hx hb dX2_start_5 rfl (lv_at hl 0 rfl) ?_
  refine lv_iload_n hx hb dX2_start_6 rfl (lv_at hl 1 rfl) ?_
  refine ct_put1 (C := RX2) (T := TX2) (N := 10) (ci := 2) (v := .int s1) hM hK hP hD hS inX2 tyX2 tyX2_ok nmX2 0 rfl rfl 9 (by decide) wfl_X2_67 rfl (by first | rfl | decide) (by first | rfl | decide) (Nat.le_of_ble_eq_true rfl) dX2_start_7 (fun H locs hP hD hS => ?_)
  have hP : va_P D classes (gwW cy a (w_or w, w_be w, w_en w, w_wa w, w_tu w, w_wo w, w_su w, w_ti w, s1, s1)) H := hP
  have hD : va_D A (gwW cy a (w_or w, w_be w, w_en w, w_wa w, w_tu w, w_wo w, w_su w, w_ti w, s1, s1)) := hD
  refine lv_aload_n hx hb dX2_start_10 rfl (lv_at hl 0 rfl) ?_
  refine lv_iconst (v := 0) hx hb dX2_start_11 (by decide) ?_
  refine ct_put1 (C := RX2) (T := TX2) (N := 10) (ci := 2) (v := .int 0) hM hK hP hD hS inX2 tyX2 tyX2_ok nmX2 0 rfl rfl 4 (by decide) wfl_X2_50 rfl (by first | rfl | decide) (by first | rfl | decide) (Nat.le_of_ble_eq_true rfl) dX2_start_12 (fun H locs hP hD hS => ?_)
  have hP : va_P D classes (gwW cy a (w_or w, w_be w, w_en w, w_wa w, 0, w_wo w, w_su w, w_ti w, s1, s1)) H := hP
  have hD : va_D A (gwW cy a (w_or w, w_be w, w_en w, w_wa w, 0, w_wo w, w_su w, w_ti w, s1, s1)) := hD
  refine lv_aload_n hx hb dX2_start_15 rfl (lv_at hl 0 rfl) ?_
  refine lv_iconst (v := 0) hx hb dX2_start_16 (by decide) ?_
  refine ct_put1 (C := RX2) (T := TX2) (N := 10) (ci := 2) (v := .int 0) hM hK hP hD hS inX2 tyX2 tyX2_ok nmX2 0 rfl rfl 5 (by decide) wfl_X2_64 rfl (by first | rfl | decide) (by first | rfl | decide) (Nat.le_of_ble_eq_true rfl) dX2_start_17 (fun H locs hP hD hS => ?_)
  have hP : va_P D classes (gwW cy a (w_or w, w_be w, w_en w, w_wa w, 0, 0, w_su w, w_ti w, s1, s1)) H := hP
  have hD : va_D A (gwW cy a (w_or w, w_be w, w_en w, w_wa w, 0, 0, w_su w, w_ti w, s1, s1)) := hD
  refine lv_aload_n hx hb dX2_start_20 rfl (lv_at hl 0 rfl) ?_
  refine lv_iconst (v := 0) hx hb dX2_start_21 (by decide) ?_
  refine ct_put1 (C := RX2) (T := TX2) (N := 10) (ci := 2) (v := .int 0) hM hK hP hD hS inX2 tyX2 tyX2_ok nmX2 0 rfl rfl 6 (by decide) wfl_X2_70 rfl (by first | rfl | decide) (by first | rfl | decide) (Nat.le_of_ble_eq_true rfl) dX2_start_22 (fun H locs hP hD hS => ?_)
  have hP : va_P D classes (gwW cy a (w_or w, w_be w, w_en w, w_wa w, 0, 0, 0, w_ti w, s1, s1)) H := hP
  have hD : va_D A (gwW cy a (w_or w, w_be w, w_en w, w_wa w, 0, 0, 0, w_ti w, s1, s1)) := hD
  refine lv_aload_n hx hb dX2_start_25 rfl (lv_at hl 0 rfl) ?_
  refine lv_iconst (v := 0) hx hb dX2_start_26 (by decide) ?_
  refine ct_put1 (C := RX2) (T := TX2) (N := 10) (ci := 2) (v := .int 0) hM hK hP hD hS inX2 tyX2 tyX2_ok nmX2 0 rfl rfl 7 (by decide) wfl_X2_73 rfl (by first | rfl | decide) (by first | rfl | decide) (Nat.le_of_ble_eq_true rfl) dX2_start_27 (fun H locs hP hD hS => ?_)
  have hP : va_P D classes (gwW cy a (w_or w, w_be w, w_en w, w_wa w, 0, 0, 0, 0, s1, s1)) H := hP
  have hD : va_D A (gwW cy a (w_or w, w_be w, w_en w, w_wa w, 0, 0, 0, 0, s1, s1)) := hD
  subst hF
  exact ct_vret hM hP hS dX2_start_30

abbrev rX2_serveNext : Room := { frames := 3, cells := 0, slots := 0, locals := 74 }
def fX2_serveNext (v : tVl) (w : tWl) : Int32 × tWl := if w_re w = 0 then ((-6), w) else (if w_tu w < 8 then (lt_ (fX1_firstComing v (w_re w)) fun q4 => lt_ (if w_ti w < q4 then q4 else w_ti w) fun x6 => lt_ (fX1_nextAt v x6 (w_re w)) fun q9 => if q9 = (-6) then ((-6), (w_or w, w_be w, w_en w, w_wa w, w_tu w, w_wo w, w_su w, x6, w_co w, w_re w)) else (lt_ (x6 - (v_mn v) (Int32.toNatClampNeg q9)) fun x13 => lt_ (fX1_timeToDraw v q9) fun q16 => lt_ (x6 + q16) fun x18 => lt_ (if w_wo w < (upd (w_wa w) (Int32.toNatClampNeg q9) x13) (Int32.toNatClampNeg q9) then (upd (w_wa w) (Int32.toNatClampNeg q9) x13) (Int32.toNatClampNeg q9) else w_wo w) fun x20 => lt_ (w_su w + (upd (w_wa w) (Int32.toNatClampNeg q9) x13) (Int32.toNatClampNeg q9)) fun x22 => lt_ (w_tu w + 1) fun x25 => lt_ (w_re w &&& ((1 <<< (q9 &&& 31)) ^^^ (-1))) fun x27 => (q9, (upd (w_or w) (Int32.toNatClampNeg (w_tu w)) q9, upd (w_be w) (Int32.toNatClampNeg q9) x6, upd (w_en w) (Int32.toNatClampNeg q9) x18, upd (w_wa w) (Int32.toNatClampNeg q9) x13, x25, x20, x22, x18, w_co w, x27)))) else ((-6), w))
def oX2_serveNext (v : tVl) (w : tWl) : Prop := if w_re w = 0 then True else (if w_tu w < 8 then (oX1_firstComing v (w_re w) ∧ (lo_ (fX1_firstComing v (w_re w)) fun q4 => lo_ (if w_ti w < q4 then q4 else w_ti w) fun x6 => oX1_nextAt v x6 (w_re w) ∧ (lo_ (fX1_nextAt v x6 (w_re w)) fun q9 => if q9 = (-6) then True else (vp_in q9 8 ∧ (lo_ (x6 - (v_mn v) (Int32.toNatClampNeg q9)) fun x13 => oX1_timeToDraw v q9 ∧ (lo_ (fX1_timeToDraw v q9) fun q16 => lo_ (x6 + q16) fun x18 => lo_ (if w_wo w < (upd (w_wa w) (Int32.toNatClampNeg q9) x13) (Int32.toNatClampNeg q9) then (upd (w_wa w) (Int32.toNatClampNeg q9) x13) (Int32.toNatClampNeg q9) else w_wo w) fun x20 => lo_ (w_su w + (upd (w_wa w) (Int32.toNatClampNeg q9) x13) (Int32.toNatClampNeg q9)) fun x22 => vp_in (w_tu w) 8 ∧ True)))))) else True)
theorem kvX2_serveNext : KV yX2_serveNext cX2_serveNext 3 (some .int) 1 := ⟨wcd_X2_serveNext, wim_X2_serveNext, wsl_X2_serveNext, win_X2, by decide +kernel, by decide +kernel, by decide +kernel⟩
set_option maxHeartbeats 4000000 in
set_option maxRecDepth 100000 in
theorem kX2_serveNext (l : Launch) (D : va_G) (cy : Nat → ClassId) (b : Nat → Nat) (a : Nat → Nat) (v : tVl) (w : tWl) {R : Int32 × tWl} (hO : oX2_serveNext v w) (hF : fX2_serveNext v w = R) : CT l D cy yX2_serveNext cX2_serveNext 3 (some .int) rX2_serveNext [.ref (a 0), .ref (b 0)] (gwV cy b v ++ gwW cy a w) (some (.int R.1)) (gwV cy b v ++ gwW cy a R.2) := by
  refine ct_of (by decide) (Nat.le_of_ble_eq_true rfl) ?_
  intro p e s m args below meth c A ls hM hK hP hD hS hl
  obtain ⟨hx, hb, -, hml, hown, hts, -⟩ := id hM
  have hl : lv_has ls 3 [(0, .ref (a 0)), (1, .ref (b 0))] := hl
  obtain ⟨H, hH⟩ : ∃ H : Heap, H = s.heap := ⟨_, rfl⟩
  obtain ⟨locs, hlocs⟩ : ∃ q : List Loc, q = [] := ⟨_, rfl⟩
  have hP : va_P D classes (gwV cy b v ++ gwW cy a w) H := by rw [hH]; exact hP
  have hS : va_S A s.heap H locs := by rw [hH, hlocs]; exact hS
  suffices hg : W p l e rX2_serveNext s m args below meth c H locs 0 0 (MQ below (ctQ D (some (.int R.1)) (gwV cy b v ++ gwW cy a R.2) A) args s 0 0 A) (F0 m 0 ls []) by rw [hH, hlocs] at hg; exact hg
  clear hH hlocs
  unfold fX2_serveNext at hF
  unfold oX2_serveNext at hO
  refine lv_aload_n hx hb dX2_serveNext_0 rfl (lv_at hl 0 rfl) ?_
  refine ct_get (C := RX2) (T := TX2) (N := 10) (ci := 2) (v := .int (w_re w)) hM hK hP inX2 6 rfl rfl 9 (by decide) wfl_X2_67 rfl dX2_serveNext_1 ?_
  refine lv_if_eq (tgt := 16) hx hb dX2_serveNext_4 (by decide) (fun c1 => ?_) (fun c1 => ?_)
  · have hF := lt_t c1 hF
    have hO := lo_t c1 hO
    refine lv_bipush (v := (-6)) hx hb dX2_serveNext_16 (by decide) ?_
    subst hF
    exact ct_iret hM hP hS dX2_serveNext_18
  · have hF := lt_f c1 hF
    have hO := lo_f c1 hO
    refine lv_aload_n hx hb dX2_serveNext_7 rfl (lv_at hl 0 rfl) ?_
    refine ct_get (C := RX2) (T := TX2) (N := 10) (ci := 2) (v := .int (w_tu w)) hM hK hP inX2 6 rfl rfl 4 (by decide) wfl_X2_50 rfl dX2_serveNext_8 ?_
    refine lv_bipush (v := 8) hx hb dX2_serveNext_11 (by decide) ?_
    refine lv_icmp_lt (tgt := 19) hx hb dX2_serveNext_13 (by decide) (fun c2 => ?_) (fun c2 => ?_)
    · have hF := lt_t c2 hF
      have hO := lo_t c2 hO
      refine lv_aload_n hx hb dX2_serveNext_19 rfl (lv_at hl 0 rfl) ?_
      refine lv_aload_n hx hb dX2_serveNext_20 rfl (lv_at hl 0 rfl) ?_
      refine ct_get (C := RX2) (T := TX2) (N := 10) (ci := 2) (v := .int (w_ti w)) hM hK hP inX2 6 rfl rfl 7 (by decide) wfl_X2_73 rfl dX2_serveNext_21 ?_
      refine lv_aload_n hx hb dX2_serveNext_24 rfl (lv_at hl 1 rfl) ?_
      refine lv_aload_n hx hb dX2_serveNext_25 rfl (lv_at hl 0 rfl) ?_
      refine ct_get (C := RX2) (T := TX2) (N := 10) (ci := 2) (v := .int (w_re w)) hM hK hP inX2 6 rfl rfl 9 (by decide) wfl_X2_67 rfl dX2_serveNext_26 ?_
      obtain ⟨h3, hO⟩ := hO
      obtain ⟨q4, e5⟩ : ∃ q, fX1_firstComing v (w_re w) = q := ⟨_, rfl⟩
      have hF := lt_n e5 hF
      try have hO := lo_n e5 hO
      refine ct_callV (ws' := gwV cy b v ++ gwW cy a w) hM hK hP hD hS (kX1_firstComing l D cy b v (w_re w) h3 e5) kvX1_firstComing wml_X2_76 [0, 1, 2, 3, 4, 5] rfl (by decide) rfl rfl rfl 0 rfl rfl rfl rfl hl.1 rfl ⟨rfl, rfl, Nat.le_of_ble_eq_true rfl, Nat.le_of_ble_eq_true rfl⟩ (Nat.le_of_ble_eq_true rfl) ⟨Nat.zero_le _, Nat.zero_le _⟩ dX2_serveNext_29 (fun H locs hP hD hS => ?_)
      refine W.eq (g2 := F0 m 32 ls [.int q4, .int (w_ti w), .ref (a 0)]) rfl ?_
      refine ct_max hM hl.1 wml_X2_53 ⟨Nat.le_of_ble_eq_true rfl, Nat.le_of_ble_eq_true rfl⟩ ⟨Nat.zero_le _, Nat.zero_le _⟩ dX2_serveNext_32 ?_
      refine lv_topi (fun x6 e7 => ?_)
      have hF := lt_n e7.symm hF
      try have hO := lo_n e7.symm hO
      refine ct_put1 (C := RX2) (T := TX2) (N := 10) (ci := 2) (v := .int x6) hM hK hP hD hS inX2 tyX2 tyX2_ok nmX2 6 rfl rfl 7 (by decide) wfl_X2_73 rfl (by first | rfl | decide) (by first | rfl | decide) (Nat.le_of_ble_eq_true rfl) dX2_serveNext_35 (fun H locs hP hD hS => ?_)
      have hP : va_P D classes (gwV cy b v ++ gwW cy a (w_or w, w_be w, w_en w, w_wa w, w_tu w, w_wo w, w_su w, x6, w_co w, w_re w)) H := hP
      have hD : va_D A (gwV cy b v ++ gwW cy a (w_or w, w_be w, w_en w, w_wa w, w_tu w, w_wo w, w_su w, x6, w_co w, w_re w)) := hD
      refine lv_aload_n hx hb dX2_serveNext_38 rfl (lv_at hl 1 rfl) ?_
      refine lv_aload_n hx hb dX2_serveNext_39 rfl (lv_at hl 0 rfl) ?_
      refine ct_get (C := RX2) (T := TX2) (N := 10) (ci := 2) (v := .int x6) hM hK hP inX2 6 rfl rfl 7 (by decide) wfl_X2_73 rfl dX2_serveNext_40 ?_
      refine lv_aload_n hx hb dX2_serveNext_43 rfl (lv_at hl 0 rfl) ?_
      refine ct_get (C := RX2) (T := TX2) (N := 10) (ci := 2) (v := .int (w_re w)) hM hK hP inX2 6 rfl rfl 9 (by decide) wfl_X2_67 rfl dX2_serveNext_44 ?_
      obtain ⟨h8, hO⟩ := hO
      obtain ⟨q9, e10⟩ : ∃ q, fX1_nextAt v x6 (w_re w) = q := ⟨_, rfl⟩
      have hF := lt_n e10 hF
      try have hO := lo_n e10 hO
      refine ct_callV (ws' := gwV cy b v ++ gwW cy a (w_or w, w_be w, w_en w, w_wa w, w_tu w, w_wo w, w_su w, x6, w_co w, w_re w)) hM hK hP hD hS (kX1_nextAt l D cy b v x6 (w_re w) h8 e10) kvX1_nextAt wml_X2_79 [0, 1, 2, 3, 4, 5] rfl (by decide) rfl rfl rfl 0 rfl rfl rfl rfl hl.1 rfl ⟨rfl, rfl, Nat.le_of_ble_eq_true rfl, Nat.le_of_ble_eq_true rfl⟩ (Nat.le_of_ble_eq_true rfl) ⟨Nat.zero_le _, Nat.zero_le _⟩ dX2_serveNext_47 (fun H locs hP hD hS => ?_)
      refine W.eq (g2 := F0 m 50 ls [.int q9]) rfl ?_
      refine lv_istore_n (lv' := [(2, .int q9), (0, .ref (a 0)), (1, .ref (b 0))]) hx hb dX2_serveNext_50 rfl hl (by decide) rfl (fun ls hl => ?_)
      refine lv_iload_n hx hb dX2_serveNext_51 rfl (lv_at hl 0 rfl) ?_
      refine lv_bipush (v := (-6)) hx hb dX2_serveNext_52 (by decide) ?_
      refine lv_icmp_ne (tgt := 60) hx hb dX2_serveNext_54 (by decide) (fun c11 => ?_) (fun c11 => ?_)
      · have hF := lt_f c11 hF
        have hO := lo_f c11 hO
        refine lv_aload_n hx hb dX2_serveNext_60 rfl (lv_at hl 1 rfl) ?_
        refine ct_get (C := RX2) (T := TX2) (N := 10) (ci := 2) (v := .ref (a 2)) hM hK hP inX2 6 rfl rfl 1 (by decide) wfl_X2_15 rfl dX2_serveNext_61 ?_
        refine lv_iload_n hx hb dX2_serveNext_64 rfl (lv_at hl 0 rfl) ?_
        refine lv_aload_n hx hb dX2_serveNext_65 rfl (lv_at hl 1 rfl) ?_
        refine ct_get (C := RX2) (T := TX2) (N := 10) (ci := 2) (v := .int x6) hM hK hP inX2 6 rfl rfl 7 (by decide) wfl_X2_73 rfl dX2_serveNext_66 ?_
        obtain ⟨h12, hO⟩ := hO
        refine va_iast hx hb hK hP hD hS 8 0 (f := w_be w) (n := 8) (cA := cy 0) rfl rfl h12 dX2_serveNext_69 (fun H locs hP hD hS => ?_)
        have hP : va_P D classes (gwV cy b v ++ gwW cy a (w_or w, upd (w_be w) (Int32.toNatClampNeg q9) x6, w_en w, w_wa w, w_tu w, w_wo w, w_su w, x6, w_co w, w_re w)) H := hP
        have hD : va_D A (gwV cy b v ++ gwW cy a (w_or w, upd (w_be w) (Int32.toNatClampNeg q9) x6, w_en w, w_wa w, w_tu w, w_wo w, w_su w, x6, w_co w, w_re w)) := hD
        refine lv_aload_n hx hb dX2_serveNext_70 rfl (lv_at hl 1 rfl) ?_
        refine ct_get (C := RX2) (T := TX2) (N := 10) (ci := 2) (v := .ref (a 4)) hM hK hP inX2 6 rfl rfl 3 (by decide) wfl_X2_21 rfl dX2_serveNext_71 ?_
        refine lv_iload_n hx hb dX2_serveNext_74 rfl (lv_at hl 0 rfl) ?_
        refine lv_aload_n hx hb dX2_serveNext_75 rfl (lv_at hl 1 rfl) ?_
        refine ct_get (C := RX2) (T := TX2) (N := 10) (ci := 2) (v := .int x6) hM hK hP inX2 6 rfl rfl 7 (by decide) wfl_X2_73 rfl dX2_serveNext_76 ?_
        refine lv_aload_n hx hb dX2_serveNext_79 rfl (lv_at hl 2 rfl) ?_
        refine ct_get (C := RX1) (T := TX1) (N := 6) (ci := 1) (v := .ref (b 2)) hM hK hP inX1 0 rfl rfl 1 (by decide) wfl_X2_47 rfl dX2_serveNext_80 ?_
        refine lv_iload_n hx hb dX2_serveNext_83 rfl (lv_at hl 0 rfl) ?_
        refine va_iald hx hb hK hP 2 0 (f := v_mn v) (n := 8) (cA := cy 0) rfl rfl h12 dX2_serveNext_84 ?_
        refine lv_isub hx hb dX2_serveNext_85 ?_
        refine lv_topi (fun x13 e14 => ?_)
        have hF := lt_n e14.symm hF
        try have hO := lo_n e14.symm hO
        refine va_iast hx hb hK hP hD hS 10 0 (f := w_wa w) (n := 8) (cA := cy 0) rfl rfl h12 dX2_serveNext_86 (fun H locs hP hD hS => ?_)
        have hP : va_P D classes (gwV cy b v ++ gwW cy a (w_or w, upd (w_be w) (Int32.toNatClampNeg q9) x6, w_en w, upd (w_wa w) (Int32.toNatClampNeg q9) x13, w_tu w, w_wo w, w_su w, x6, w_co w, w_re w)) H := hP
        have hD : va_D A (gwV cy b v ++ gwW cy a (w_or w, upd (w_be w) (Int32.toNatClampNeg q9) x6, w_en w, upd (w_wa w) (Int32.toNatClampNeg q9) x13, w_tu w, w_wo w, w_su w, x6, w_co w, w_re w)) := hD
        refine lv_aload_n hx hb dX2_serveNext_87 rfl (lv_at hl 1 rfl) ?_
        refine lv_dup hx hb dX2_serveNext_88 rfl ?_
        refine ct_get (C := RX2) (T := TX2) (N := 10) (ci := 2) (v := .int x6) hM hK hP inX2 6 rfl rfl 7 (by decide) wfl_X2_73 rfl dX2_serveNext_89 ?_
        refine lv_aload_n hx hb dX2_serveNext_92 rfl (lv_at hl 2 rfl) ?_
        refine lv_iload_n hx hb dX2_serveNext_93 rfl (lv_at hl 0 rfl) ?_
        obtain ⟨h15, hO⟩ := hO
        obtain ⟨q16, e17⟩ : ∃ q, fX1_timeToDraw v q9 = q := ⟨_, rfl⟩
        have hF := lt_n e17 hF
        try have hO := lo_n e17 hO
        refine ct_callV (ws' := gwV cy b v ++ gwW cy a (w_or w, upd (w_be w) (Int32.toNatClampNeg q9) x6, w_en w, upd (w_wa w) (Int32.toNatClampNeg q9) x13, w_tu w, w_wo w, w_su w, x6, w_co w, w_re w)) hM hK hP hD hS (kX1_timeToDraw l D cy b v q9 h15 e17) kvX1_timeToDraw wml_X2_82 [0, 1, 2, 3, 4, 5] rfl (by decide) rfl rfl rfl 0 rfl rfl rfl rfl hl.1 rfl ⟨rfl, rfl, Nat.le_of_ble_eq_true rfl, Nat.le_of_ble_eq_true rfl⟩ (Nat.le_of_ble_eq_true rfl) ⟨Nat.zero_le _, Nat.zero_le _⟩ dX2_serveNext_94 (fun H locs hP hD hS => ?_)
        refine W.eq (g2 := F0 m 97 ls [.int q16, .int x6, .ref (a 0)]) rfl ?_
        refine lv_iadd hx hb dX2_serveNext_97 ?_
        refine lv_topi (fun x18 e19 => ?_)
        have hF := lt_n e19.symm hF
        try have hO := lo_n e19.symm hO
        refine ct_put1 (C := RX2) (T := TX2) (N := 10) (ci := 2) (v := .int x18) hM hK hP hD hS inX2 tyX2 tyX2_ok nmX2 6 rfl rfl 7 (by decide) wfl_X2_73 rfl (by first | rfl | decide) (by first | rfl | decide) (Nat.le_of_ble_eq_true rfl) dX2_serveNext_98 (fun H locs hP hD hS => ?_)
        have hP : va_P D classes (gwV cy b v ++ gwW cy a (w_or w, upd (w_be w) (Int32.toNatClampNeg q9) x6, w_en w, upd (w_wa w) (Int32.toNatClampNeg q9) x13, w_tu w, w_wo w, w_su w, x18, w_co w, w_re w)) H := hP
        have hD : va_D A (gwV cy b v ++ gwW cy a (w_or w, upd (w_be w) (Int32.toNatClampNeg q9) x6, w_en w, upd (w_wa w) (Int32.toNatClampNeg q9) x13, w_tu w, w_wo w, w_su w, x18, w_co w, w_re w)) := hD
        refine lv_aload_n hx hb dX2_serveNext_101 rfl (lv_at hl 1 rfl) ?_
        refine ct_get (C := RX2) (T := TX2) (N := 10) (ci := 2) (v := .ref (a 3)) hM hK hP inX2 6 rfl rfl 2 (by decide) wfl_X2_18 rfl dX2_serveNext_102 ?_
        refine lv_iload_n hx hb dX2_serveNext_105 rfl (lv_at hl 0 rfl) ?_
        refine lv_aload_n hx hb dX2_serveNext_106 rfl (lv_at hl 1 rfl) ?_
        refine ct_get (C := RX2) (T := TX2) (N := 10) (ci := 2) (v := .int x18) hM hK hP inX2 6 rfl rfl 7 (by decide) wfl_X2_73 rfl dX2_serveNext_107 ?_
        refine va_iast hx hb hK hP hD hS 9 0 (f := w_en w) (n := 8) (cA := cy 0) rfl rfl h12 dX2_serveNext_110 (fun H locs hP hD hS => ?_)
        have hP : va_P D classes (gwV cy b v ++ gwW cy a (w_or w, upd (w_be w) (Int32.toNatClampNeg q9) x6, upd (w_en w) (Int32.toNatClampNeg q9) x18, upd (w_wa w) (Int32.toNatClampNeg q9) x13, w_tu w, w_wo w, w_su w, x18, w_co w, w_re w)) H := hP
        have hD : va_D A (gwV cy b v ++ gwW cy a (w_or w, upd (w_be w) (Int32.toNatClampNeg q9) x6, upd (w_en w) (Int32.toNatClampNeg q9) x18, upd (w_wa w) (Int32.toNatClampNeg q9) x13, w_tu w, w_wo w, w_su w, x18, w_co w, w_re w)) := hD
        refine lv_aload_n hx hb dX2_serveNext_111 rfl (lv_at hl 1 rfl) ?_
        refine lv_aload_n hx hb dX2_serveNext_112 rfl (lv_at hl 1 rfl) ?_
        refine ct_get (C := RX2) (T := TX2) (N := 10) (ci := 2) (v := .int (w_wo w)) hM hK hP inX2 6 rfl rfl 5 (by decide) wfl_X2_64 rfl dX2_serveNext_113 ?_
        refine lv_aload_n hx hb dX2_serveNext_116 rfl (lv_at hl 1 rfl) ?_
        refine ct_get (C := RX2) (T := TX2) (N := 10) (ci := 2) (v := .ref (a 4)) hM hK hP inX2 6 rfl rfl 3 (by decide) wfl_X2_21 rfl dX2_serveNext_117 ?_
        refine lv_iload_n hx hb dX2_serveNext_120 rfl (lv_at hl 0 rfl) ?_
        refine va_iald hx hb hK hP 10 0 (f := upd (w_wa w) (Int32.toNatClampNeg q9) x13) (n := 8) (cA := cy 0) rfl rfl h12 dX2_serveNext_121 ?_
        refine ct_max hM hl.1 wml_X2_53 ⟨Nat.le_of_ble_eq_true rfl, Nat.le_of_ble_eq_true rfl⟩ ⟨Nat.zero_le _, Nat.zero_le _⟩ dX2_serveNext_122 ?_
        refine lv_topi (fun x20 e21 => ?_)
        have hF := lt_n e21.symm hF
        try have hO := lo_n e21.symm hO
        refine ct_put1 (C := RX2) (T := TX2) (N := 10) (ci := 2) (v := .int x20) hM hK hP hD hS inX2 tyX2 tyX2_ok nmX2 6 rfl rfl 5 (by decide) wfl_X2_64 rfl (by first | rfl | decide) (by first | rfl | decide) (Nat.le_of_ble_eq_true rfl) dX2_serveNext_125 (fun H locs hP hD hS => ?_)
        have hP : va_P D classes (gwV cy b v ++ gwW cy a (w_or w, upd (w_be w) (Int32.toNatClampNeg q9) x6, upd (w_en w) (Int32.toNatClampNeg q9) x18, upd (w_wa w) (Int32.toNatClampNeg q9) x13, w_tu w, x20, w_su w, x18, w_co w, w_re w)) H := hP
        have hD : va_D A (gwV cy b v ++ gwW cy a (w_or w, upd (w_be w) (Int32.toNatClampNeg q9) x6, upd (w_en w) (Int32.toNatClampNeg q9) x18, upd (w_wa w) (Int32.toNatClampNeg q9) x13, w_tu w, x20, w_su w, x18, w_co w, w_re w)) := hD
        refine lv_aload_n hx hb dX2_serveNext_128 rfl (lv_at hl 1 rfl) ?_
        refine lv_dup hx hb dX2_serveNext_129 rfl ?_
        refine ct_get (C := RX2) (T := TX2) (N := 10) (ci := 2) (v := .int (w_su w)) hM hK hP inX2 6 rfl rfl 6 (by decide) wfl_X2_70 rfl dX2_serveNext_130 ?_
        refine lv_aload_n hx hb dX2_serveNext_133 rfl (lv_at hl 1 rfl) ?_
        refine ct_get (C := RX2) (T := TX2) (N := 10) (ci := 2) (v := .ref (a 4)) hM hK hP inX2 6 rfl rfl 3 (by decide) wfl_X2_21 rfl dX2_serveNext_134 ?_
        refine lv_iload_n hx hb dX2_serveNext_137 rfl (lv_at hl 0 rfl) ?_
        refine va_iald hx hb hK hP 10 0 (f := upd (w_wa w) (Int32.toNatClampNeg q9) x13) (n := 8) (cA := cy 0) rfl rfl h12 dX2_serveNext_138 ?_
        refine lv_iadd hx hb dX2_serveNext_139 ?_
        refine lv_topi (fun x22 e23 => ?_)
        have hF := lt_n e23.symm hF
        try have hO := lo_n e23.symm hO
        refine ct_put1 (C := RX2) (T := TX2) (N := 10) (ci := 2) (v := .int x22) hM hK hP hD hS inX2 tyX2 tyX2_ok nmX2 6 rfl rfl 6 (by decide) wfl_X2_70 rfl (by first | rfl | decide) (by first | rfl | decide) (Nat.le_of_ble_eq_true rfl) dX2_serveNext_140 (fun H locs hP hD hS => ?_)
        have hP : va_P D classes (gwV cy b v ++ gwW cy a (w_or w, upd (w_be w) (Int32.toNatClampNeg q9) x6, upd (w_en w) (Int32.toNatClampNeg q9) x18, upd (w_wa w) (Int32.toNatClampNeg q9) x13, w_tu w, x20, x22, x18, w_co w, w_re w)) H := hP
        have hD : va_D A (gwV cy b v ++ gwW cy a (w_or w, upd (w_be w) (Int32.toNatClampNeg q9) x6, upd (w_en w) (Int32.toNatClampNeg q9) x18, upd (w_wa w) (Int32.toNatClampNeg q9) x13, w_tu w, x20, x22, x18, w_co w, w_re w)) := hD
        refine lv_aload_n hx hb dX2_serveNext_143 rfl (lv_at hl 1 rfl) ?_
        refine ct_get (C := RX2) (T := TX2) (N := 10) (ci := 2) (v := .ref (a 1)) hM hK hP inX2 6 rfl rfl 0 (by decide) wfl_X2_9 rfl dX2_serveNext_144 ?_
        refine lv_aload_n hx hb dX2_serveNext_147 rfl (lv_at hl 1 rfl) ?_
        refine ct_get (C := RX2) (T := TX2) (N := 10) (ci := 2) (v := .int (w_tu w)) hM hK hP inX2 6 rfl rfl 4 (by decide) wfl_X2_50 rfl dX2_serveNext_148 ?_
        refine lv_iload_n hx hb dX2_serveNext_151 rfl (lv_at hl 0 rfl) ?_
        obtain ⟨h24, hO⟩ := hO
        refine va_iast hx hb hK hP hD hS 7 0 (f := w_or w) (n := 8) (cA := cy 0) rfl rfl h24 dX2_serveNext_152 (fun H locs hP hD hS => ?_)
        have hP : va_P D classes (gwV cy b v ++ gwW cy a (upd (w_or w) (Int32.toNatClampNeg (w_tu w)) q9, upd (w_be w) (Int32.toNatClampNeg q9) x6, upd (w_en w) (Int32.toNatClampNeg q9) x18, upd (w_wa w) (Int32.toNatClampNeg q9) x13, w_tu w, x20, x22, x18, w_co w, w_re w)) H := hP
        have hD : va_D A (gwV cy b v ++ gwW cy a (upd (w_or w) (Int32.toNatClampNeg (w_tu w)) q9, upd (w_be w) (Int32.toNatClampNeg q9) x6, upd (w_en w) (Int32.toNatClampNeg q9) x18, upd (w_wa w) (Int32.toNatClampNeg q9) x13, w_tu w, x20, x22, x18, w_co w, w_re w)) := hD
        refine lv_aload_n hx hb dX2_serveNext_153 rfl (lv_at hl 1 rfl) ?_
        refine lv_dup hx hb dX2_serveNext_154 rfl ?_
        refine ct_get (C := RX2) (T := TX2) (N := 10) (ci := 2) (v := .int (w_tu w)) hM hK hP inX2 6 rfl rfl 4 (by decide) wfl_X2_50 rfl dX2_serveNext_155 ?_
        refine lv_iconst (v := 1) hx hb dX2_serveNext_158 (by decide) ?_
        refine lv_iadd hx hb dX2_serveNext_159 ?_
        refine lv_topi (fun x25 e26 => ?_)
        have hF := lt_n e26.symm hF
        try have hO := lo_n e26.symm hO
        refine ct_put1 (C := RX2) (T := TX2) (N := 10) (ci := 2) (v := .int x25) hM hK hP hD hS inX2 tyX2 tyX2_ok nmX2 6 rfl rfl 4 (by decide) wfl_X2_50 rfl (by first | rfl | decide) (by first | rfl | decide) (Nat.le_of_ble_eq_true rfl) dX2_serveNext_160 (fun H locs hP hD hS => ?_)
        have hP : va_P D classes (gwV cy b v ++ gwW cy a (upd (w_or w) (Int32.toNatClampNeg (w_tu w)) q9, upd (w_be w) (Int32.toNatClampNeg q9) x6, upd (w_en w) (Int32.toNatClampNeg q9) x18, upd (w_wa w) (Int32.toNatClampNeg q9) x13, x25, x20, x22, x18, w_co w, w_re w)) H := hP
        have hD : va_D A (gwV cy b v ++ gwW cy a (upd (w_or w) (Int32.toNatClampNeg (w_tu w)) q9, upd (w_be w) (Int32.toNatClampNeg q9) x6, upd (w_en w) (Int32.toNatClampNeg q9) x18, upd (w_wa w) (Int32.toNatClampNeg q9) x13, x25, x20, x22, x18, w_co w, w_re w)) := hD
        refine lv_aload_n hx hb dX2_serveNext_163 rfl (lv_at hl 1 rfl) ?_
        refine lv_dup hx hb dX2_serveNext_164 rfl ?_
        refine ct_get (C := RX2) (T := TX2) (N := 10) (ci := 2) (v := .int (w_re w)) hM hK hP inX2 6 rfl rfl 9 (by decide) wfl_X2_67 rfl dX2_serveNext_165 ?_
        refine lv_iconst (v := 1) hx hb dX2_serveNext_168 (by decide) ?_
        refine lv_iload_n hx hb dX2_serveNext_169 rfl (lv_at hl 0 rfl) ?_
        refine lv_ishl hx hb dX2_serveNext_170 ?_
        refine lv_iconst (v := (-1)) hx hb dX2_serveNext_171 (by decide) ?_
        refine lv_ixor hx hb dX2_serveNext_172 ?_
        refine lv_iand hx hb dX2_serveNext_173 ?_
        refine lv_topi (fun x27 e28 => ?_)
        have hF := lt_n e28.symm hF
        try have hO := lo_n e28.symm hO
        refine ct_put1 (C := RX2) (T := TX2) (N := 10) (ci := 2) (v := .int x27) hM hK hP hD hS inX2 tyX2 tyX2_ok nmX2 6 rfl rfl 9 (by decide) wfl_X2_67 rfl (by first | rfl | decide) (by first | rfl | decide) (Nat.le_of_ble_eq_true rfl) dX2_serveNext_174 (fun H locs hP hD hS => ?_)
        have hP : va_P D classes (gwV cy b v ++ gwW cy a (upd (w_or w) (Int32.toNatClampNeg (w_tu w)) q9, upd (w_be w) (Int32.toNatClampNeg q9) x6, upd (w_en w) (Int32.toNatClampNeg q9) x18, upd (w_wa w) (Int32.toNatClampNeg q9) x13, x25, x20, x22, x18, w_co w, x27)) H := hP
        have hD : va_D A (gwV cy b v ++ gwW cy a (upd (w_or w) (Int32.toNatClampNeg (w_tu w)) q9, upd (w_be w) (Int32.toNatClampNeg q9) x6, upd (w_en w) (Int32.toNatClampNeg q9) x18, upd (w_wa w) (Int32.toNatClampNeg q9) x13, x25, x20, x22, x18, w_co w, x27)) := hD
        refine lv_iload_n hx hb dX2_serveNext_177 rfl (lv_at hl 0 rfl) ?_
        subst hF
        exact ct_iret hM hP hS dX2_serveNext_178
      · have hF := lt_t c11 hF
        have hO := lo_t c11 hO
        refine lv_bipush (v := (-6)) hx hb dX2_serveNext_57 (by decide) ?_
        subst hF
        exact ct_iret hM hP hS dX2_serveNext_59
    · have hF := lt_f c2 hF
      have hO := lo_f c2 hO
      refine lv_bipush (v := (-6)) hx hb dX2_serveNext_16 (by decide) ?_
      subst hF
      exact ct_iret hM hP hS dX2_serveNext_18

abbrev rX2_run : Room := { frames := 4, cells := 0, slots := 0, locals := 96 }
def fX2_run_7 (v : tVl) : Nat → tWl → Int32 → tWl
  | 0, w, s3 => w
  | n + 1, w, s3 => if 8 ≤ s3 then w else (lt_ (fX2_serveNext v w) fun q6 => if q6.1 = (-6) then q6.2 else (lt_ (s3 + 1) fun x9 => fX2_run_7 v n q6.2 x9))
def oX2_run_7 (v : tVl) : Nat → tWl → Int32 → Prop
  | 0, _, _ => False
  | n + 1, w, s3 => if 8 ≤ s3 then True else (oX2_serveNext v w ∧ (lo_ (fX2_serveNext v w) fun q6 => if q6.1 = (-6) then True else (lo_ (s3 + 1) fun x9 => oX2_run_7 v n q6.2 x9)))
set_option maxHeartbeats 4000000 in
set_option maxRecDepth 100000 in
theorem tX2_run_7 {p : Program} {l : Launch} {e : Env} {s : State} {m : MethodId} {args : Array Value} {below : List Frame} {meth : Method} {c : Code} {A : Nat → Prop} {D : va_G} {cy : Nat → ClassId} {b : Nat → Nat} {a : Nat → Nat} {v : tVl} {s2 : Int32} {R : tWl} (hM : MC p s m args meth c RX2 cX2_run 4 none) (hK : va_K D classes (ctT cy) s) :
    ∀ (n : Nat) (w : tWl) (s3 : Int32) (H : Heap) (locs : List Loc) (ls : Array Slot), va_P D classes (gwV cy b v ++ gwW cy a w) H → va_D A (gwV cy b v ++ gwW cy a w) → va_S A s.heap H locs → lv_has ls 4 [(0, .ref (a 0)), (1, .ref (b 0)), (2, .int s2), (3, .int s3)] → oX2_run_7 v n w s3 → fX2_run_7 v n w s3 = R → W p l e rX2_run s m args below meth c H locs 0 0 (MQ below (ctQ D none (gwV cy b v ++ gwW cy a R) A) args s 0 0 A) (F0 m 7 ls []) := by
  obtain ⟨hx, hb, -, hml, hown, hts, -⟩ := id hM
  intro n
  induction n with
  | zero =>
    intro w s3 H locs ls hP hD hS hl hO hF
    exact False.elim hO
  | succ n ih =>
    intro w s3 H locs ls hP hD hS hl hO hF
    rw [fX2_run_7] at hF
    rw [oX2_run_7] at hO
    refine lv_iload_n hx hb dX2_run_7 rfl (lv_at hl 3 rfl) ?_
    refine lv_bipush (v := 8) hx hb dX2_run_8 (by decide) ?_
    refine lv_icmp_ge (tgt := 32) hx hb dX2_run_10 (by decide) (fun c4 => ?_) (fun c4 => ?_)
    · have hF := lt_t c4 hF
      have hO := lo_t c4 hO
      subst hF
      exact ct_vret hM hP hS dX2_run_32
    · have hF := lt_f c4 hF
      have hO := lo_f c4 hO
      refine lv_aload_n hx hb dX2_run_13 rfl (lv_at hl 0 rfl) ?_
      refine lv_aload_n hx hb dX2_run_14 rfl (lv_at hl 1 rfl) ?_
      obtain ⟨h5, hO⟩ := hO
      obtain ⟨q6, e7⟩ : ∃ q, fX2_serveNext v w = q := ⟨_, rfl⟩
      have hF := lt_n e7 hF
      try have hO := lo_n e7 hO
      refine ct_callV (ws' := gwV cy b v ++ gwW cy a q6.2) hM hK hP hD hS (kX2_serveNext l D cy b a v w h5 e7) kvX2_serveNext wml_X2_28 [0, 1, 2, 3, 4, 5, 6, 7, 8, 9, 10] rfl (by decide) rfl rfl rfl 6 rfl rfl rfl rfl hl.1 rfl ⟨rfl, rfl, Nat.le_of_ble_eq_true rfl, Nat.le_of_ble_eq_true rfl⟩ (Nat.le_of_ble_eq_true rfl) ⟨Nat.zero_le _, Nat.zero_le _⟩ dX2_run_15 (fun H locs hP hD hS => ?_)
      refine W.eq (g2 := F0 m 18 ls [.int q6.1]) rfl ?_
      refine lv_bipush (v := (-6)) hx hb dX2_run_18 (by decide) ?_
      refine lv_icmp_ne (tgt := 26) hx hb dX2_run_20 (by decide) (fun c8 => ?_) (fun c8 => ?_)
      · have hF := lt_f c8 hF
        have hO := lo_f c8 hO
        obtain ⟨x9, e10⟩ : ∃ y : Int32, s3 + 1 = y := ⟨_, rfl⟩
        have hF := lt_n e10 hF
        try have hO := lo_n e10 hO
        refine lv_iinc (v := x9) (lv' := [(3, .int x9), (0, .ref (a 0)), (1, .ref (b 0)), (2, .int s2)]) hx hb dX2_run_26 hl (k := 3) rfl (by rw [← e10]; rfl) (by decide) rfl (fun ls hl => ?_)
        refine lv_goto (tgt := 7) hx hb dX2_run_29 (by decide) ?_
        exact ih q6.2 x9 H locs ls hP hD hS (lv_sub hl [1, 2, 3, 0] rfl) hO hF
      · have hF := lt_t c8 hF
        have hO := lo_t c8 hO
        refine lv_goto (tgt := 32) hx hb dX2_run_23 (by decide) ?_
        subst hF
        exact ct_vret hM hP hS dX2_run_32

def fX2_run (v : tVl) (w : tWl) (s2 : Int32) : tWl := lt_ (fX2_start w s2) fun q2 => fX2_run_7 v 9 q2 0
def oX2_run (v : tVl) (w : tWl) (s2 : Int32) : Prop := lo_ (fX2_start w s2) fun q2 => oX2_run_7 v 9 q2 0
theorem kvX2_run : KV yX2_run cX2_run 4 none 2 := ⟨wcd_X2_run, wim_X2_run, wsl_X2_run, win_X2, by decide +kernel, by decide +kernel, by decide +kernel⟩
set_option maxHeartbeats 4000000 in
set_option maxRecDepth 100000 in
theorem kX2_run (l : Launch) (D : va_G) (cy : Nat → ClassId) (b : Nat → Nat) (a : Nat → Nat) (v : tVl) (w : tWl) (s2 : Int32) {R : tWl} (hO : oX2_run v w s2) (hF : fX2_run v w s2 = R) : CT l D cy yX2_run cX2_run 4 none rX2_run [.ref (a 0), .ref (b 0), .int s2] (gwV cy b v ++ gwW cy a w) none (gwV cy b v ++ gwW cy a R) := by
  refine ct_of (by decide) (Nat.le_of_ble_eq_true rfl) ?_
  intro p e s m args below meth c A ls hM hK hP hD hS hl
  obtain ⟨hx, hb, -, hml, hown, hts, -⟩ := id hM
  have hl : lv_has ls 4 [(0, .ref (a 0)), (1, .ref (b 0)), (2, .int s2)] := hl
  obtain ⟨H, hH⟩ : ∃ H : Heap, H = s.heap := ⟨_, rfl⟩
  obtain ⟨locs, hlocs⟩ : ∃ q : List Loc, q = [] := ⟨_, rfl⟩
  have hP : va_P D classes (gwV cy b v ++ gwW cy a w) H := by rw [hH]; exact hP
  have hS : va_S A s.heap H locs := by rw [hH, hlocs]; exact hS
  suffices hg : W p l e rX2_run s m args below meth c H locs 0 0 (MQ below (ctQ D none (gwV cy b v ++ gwW cy a R) A) args s 0 0 A) (F0 m 0 ls []) by rw [hH, hlocs] at hg; exact hg
  clear hH hlocs
  unfold fX2_run at hF
  unfold oX2_run at hO
  refine lv_aload_n hx hb dX2_run_0 rfl (lv_at hl 0 rfl) ?_
  refine lv_iload_n hx hb dX2_run_1 rfl (lv_at hl 2 rfl) ?_
  obtain ⟨q2, e3⟩ : ∃ q, fX2_start w s2 = q := ⟨_, rfl⟩
  have hF := lt_n e3 hF
  try have hO := lo_n e3 hO
  refine ct_callV (ws' := gwV cy b v ++ gwW cy a q2) hM hK hP hD hS (kX2_start l D cy a w s2 trivial e3) kvX2_start wml_X2_24 [6, 7, 8, 9, 10] rfl (by decide) rfl rfl rfl 6 rfl rfl rfl rfl hl.1 rfl ⟨rfl, rfl, Nat.le_of_ble_eq_true rfl, Nat.le_of_ble_eq_true rfl⟩ (Nat.le_of_ble_eq_true rfl) ⟨Nat.zero_le _, Nat.zero_le _⟩ dX2_run_2 (fun H locs hP hD hS => ?_)
  refine W.eq (g2 := F0 m 5 ls []) rfl ?_
  refine lv_iconst (v := 0) hx hb dX2_run_5 (by decide) ?_
  refine lv_istore_n (lv' := [(3, .int 0), (0, .ref (a 0)), (1, .ref (b 0)), (2, .int s2)]) hx hb dX2_run_6 rfl hl (by decide) rfl (fun ls hl => ?_)
  exact tX2_run_7 hM hK 9 q2 0 H locs ls hP hD hS (lv_sub hl [1, 2, 3, 0] rfl) hO hF

abbrev rX2_keepsTo : Room := { frames := 4, cells := 0, slots := 0, locals := 96 }
def fX2_keepsTo_10 (v : tVl) (pd : tPd) : Nat → tWl → Int32 → Int32 × tWl
  | 0, w, s3 => (0, w)
  | n + 1, w, s3 => if p_ct pd ≤ s3 then (1, w) else (if 8 ≤ s3 then (1, w) else (lt_ (fX2_serveNext v w) fun q7 => lt_ (fX0_personAt pd s3) fun q10 => if q7.1 = q10 then (lt_ (s3 + 1) fun x13 => fX2_keepsTo_10 v pd n q7.2 x13) else (0, q7.2)))
def oX2_keepsTo_10 (v : tVl) (pd : tPd) : Nat → tWl → Int32 → Prop
  | 0, _, _ => False
  | n + 1, w, s3 => if p_ct pd ≤ s3 then True else (if 8 ≤ s3 then True else (oX2_serveNext v w ∧ (lo_ (fX2_serveNext v w) fun q7 => oX0_personAt pd s3 ∧ (lo_ (fX0_personAt pd s3) fun q10 => if q7.1 = q10 then (lo_ (s3 + 1) fun x13 => oX2_keepsTo_10 v pd n q7.2 x13) else True))))
set_option maxHeartbeats 4000000 in
set_option maxRecDepth 100000 in
theorem tX2_keepsTo_10 {p : Program} {l : Launch} {e : Env} {s : State} {m : MethodId} {args : Array Value} {below : List Frame} {meth : Method} {c : Code} {A : Nat → Prop} {D : va_G} {cy : Nat → ClassId} {b : Nat → Nat} {a : Nat → Nat} {d : Nat → Nat} {v : tVl} {pd : tPd} {R : Int32 × tWl} (hM : MC p s m args meth c RX2 cX2_keepsTo 4 (some .boolean)) (hK : va_K D classes (ctT cy) s) :
    ∀ (n : Nat) (w : tWl) (s3 : Int32) (H : Heap) (locs : List Loc) (ls : Array Slot), va_P D classes (gwV cy b v ++ (gwW cy a w ++ gwP cy d pd)) H → va_D A (gwV cy b v ++ (gwW cy a w ++ gwP cy d pd)) → va_S A s.heap H locs → lv_has ls 4 [(0, .ref (a 0)), (1, .ref (b 0)), (2, .ref (d 0)), (3, .int s3)] → oX2_keepsTo_10 v pd n w s3 → fX2_keepsTo_10 v pd n w s3 = R → W p l e rX2_keepsTo s m args below meth c H locs 0 0 (MQ below (ctQ D (some (.int R.1)) (gwV cy b v ++ (gwW cy a R.2 ++ gwP cy d pd)) A) args s 0 0 A) (F0 m 10 ls []) := by
  obtain ⟨hx, hb, -, hml, hown, hts, -⟩ := id hM
  intro n
  induction n with
  | zero =>
    intro w s3 H locs ls hP hD hS hl hO hF
    exact False.elim hO
  | succ n ih =>
    intro w s3 H locs ls hP hD hS hl hO hF
    rw [fX2_keepsTo_10] at hF
    rw [oX2_keepsTo_10] at hO
    refine lv_iload_n hx hb dX2_keepsTo_10 rfl (lv_at hl 3 rfl) ?_
    refine lv_aload_n hx hb dX2_keepsTo_11 rfl (lv_at hl 2 rfl) ?_
    refine ct_get (C := RX0) (T := TX0) (N := 2) (ci := 0) (v := .int (p_ct pd)) hM hK hP inX0 11 rfl rfl 0 (by decide) wfl_X2_38 rfl dX2_keepsTo_12 ?_
    refine lv_icmp_ge (tgt := 45) hx hb dX2_keepsTo_15 (by decide) (fun c4 => ?_) (fun c4 => ?_)
    · have hF := lt_t c4 hF
      have hO := lo_t c4 hO
      refine lv_iconst (v := 1) hx hb dX2_keepsTo_45 (by decide) ?_
      subst hF
      exact ct_zret (r := 1) hM hP hS rfl dX2_keepsTo_46
    · have hF := lt_f c4 hF
      have hO := lo_f c4 hO
      refine lv_iload_n hx hb dX2_keepsTo_18 rfl (lv_at hl 3 rfl) ?_
      refine lv_bipush (v := 8) hx hb dX2_keepsTo_19 (by decide) ?_
      refine lv_icmp_ge (tgt := 45) hx hb dX2_keepsTo_21 (by decide) (fun c5 => ?_) (fun c5 => ?_)
      · have hF := lt_t c5 hF
        have hO := lo_t c5 hO
        refine lv_iconst (v := 1) hx hb dX2_keepsTo_45 (by decide) ?_
        subst hF
        exact ct_zret (r := 1) hM hP hS rfl dX2_keepsTo_46
      · have hF := lt_f c5 hF
        have hO := lo_f c5 hO
        refine lv_aload_n hx hb dX2_keepsTo_24 rfl (lv_at hl 0 rfl) ?_
        refine lv_aload_n hx hb dX2_keepsTo_25 rfl (lv_at hl 1 rfl) ?_
        obtain ⟨h6, hO⟩ := hO
        obtain ⟨q7, e8⟩ : ∃ q, fX2_serveNext v w = q := ⟨_, rfl⟩
        have hF := lt_n e8 hF
        try have hO := lo_n e8 hO
        refine ct_callV (ws' := gwV cy b v ++ (gwW cy a q7.2 ++ gwP cy d pd)) hM hK hP hD hS (kX2_serveNext l D cy b a v w h6 e8) kvX2_serveNext wml_X2_28 [0, 1, 2, 3, 4, 5, 6, 7, 8, 9, 10] rfl (by decide) rfl rfl rfl 6 rfl rfl rfl rfl hl.1 rfl ⟨rfl, rfl, Nat.le_of_ble_eq_true rfl, Nat.le_of_ble_eq_true rfl⟩ (Nat.le_of_ble_eq_true rfl) ⟨Nat.zero_le _, Nat.zero_le _⟩ dX2_keepsTo_26 (fun H locs hP hD hS => ?_)
        refine W.eq (g2 := F0 m 29 ls [.int q7.1]) rfl ?_
        refine lv_aload_n hx hb dX2_keepsTo_29 rfl (lv_at hl 2 rfl) ?_
        refine lv_iload_n hx hb dX2_keepsTo_30 rfl (lv_at hl 3 rfl) ?_
        obtain ⟨h9, hO⟩ := hO
        obtain ⟨q10, e11⟩ : ∃ q, fX0_personAt pd s3 = q := ⟨_, rfl⟩
        have hF := lt_n e11 hF
        try have hO := lo_n e11 hO
        refine ct_callV (ws' := gwV cy b v ++ (gwW cy a q7.2 ++ gwP cy d pd)) hM hK hP hD hS (kX0_personAt l D cy d pd s3 h9 e11) kvX0_personAt wml_X2_43 [11, 12] rfl (by decide) rfl rfl rfl 11 rfl rfl rfl rfl hl.1 rfl ⟨rfl, rfl, Nat.le_of_ble_eq_true rfl, Nat.le_of_ble_eq_true rfl⟩ (Nat.le_of_ble_eq_true rfl) ⟨Nat.zero_le _, Nat.zero_le _⟩ dX2_keepsTo_31 (fun H locs hP hD hS => ?_)
        refine W.eq (g2 := F0 m 34 ls [.int q10, .int q7.1]) rfl ?_
        refine lv_icmp_eq (tgt := 39) hx hb dX2_keepsTo_34 (by decide) (fun c12 => ?_) (fun c12 => ?_)
        · have hF := lt_t c12 hF
          have hO := lo_t c12 hO
          obtain ⟨x13, e14⟩ : ∃ y : Int32, s3 + 1 = y := ⟨_, rfl⟩
          have hF := lt_n e14 hF
          try have hO := lo_n e14 hO
          refine lv_iinc (v := x13) (lv' := [(3, .int x13), (0, .ref (a 0)), (1, .ref (b 0)), (2, .ref (d 0))]) hx hb dX2_keepsTo_39 hl (k := 3) rfl (by rw [← e14]; rfl) (by decide) rfl (fun ls hl => ?_)
          refine lv_goto (tgt := 10) hx hb dX2_keepsTo_42 (by decide) ?_
          exact ih q7.2 x13 H locs ls hP hD hS (lv_sub hl [1, 2, 3, 0] rfl) hO hF
        · have hF := lt_f c12 hF
          have hO := lo_f c12 hO
          refine lv_iconst (v := 0) hx hb dX2_keepsTo_37 (by decide) ?_
          subst hF
          exact ct_zret (r := 0) hM hP hS rfl dX2_keepsTo_38

def fX2_keepsTo (v : tVl) (w : tWl) (pd : tPd) : Int32 × tWl := lt_ (fX2_start w (v_cm v)) fun q2 => fX2_keepsTo_10 v pd 9 q2 0
def oX2_keepsTo (v : tVl) (w : tWl) (pd : tPd) : Prop := lo_ (fX2_start w (v_cm v)) fun q2 => oX2_keepsTo_10 v pd 9 q2 0
theorem kvX2_keepsTo : KV yX2_keepsTo cX2_keepsTo 4 (some .boolean) 2 := ⟨wcd_X2_keepsTo, wim_X2_keepsTo, wsl_X2_keepsTo, win_X2, by decide +kernel, by decide +kernel, by decide +kernel⟩
set_option maxHeartbeats 4000000 in
set_option maxRecDepth 100000 in
theorem kX2_keepsTo (l : Launch) (D : va_G) (cy : Nat → ClassId) (b : Nat → Nat) (a : Nat → Nat) (d : Nat → Nat) (v : tVl) (w : tWl) (pd : tPd) {R : Int32 × tWl} (hO : oX2_keepsTo v w pd) (hF : fX2_keepsTo v w pd = R) : CT l D cy yX2_keepsTo cX2_keepsTo 4 (some .boolean) rX2_keepsTo [.ref (a 0), .ref (b 0), .ref (d 0)] (gwV cy b v ++ (gwW cy a w ++ gwP cy d pd)) (some (.int R.1)) (gwV cy b v ++ (gwW cy a R.2 ++ gwP cy d pd)) := by
  refine ct_of (by decide) (Nat.le_of_ble_eq_true rfl) ?_
  intro p e s m args below meth c A ls hM hK hP hD hS hl
  obtain ⟨hx, hb, -, hml, hown, hts, -⟩ := id hM
  have hl : lv_has ls 4 [(0, .ref (a 0)), (1, .ref (b 0)), (2, .ref (d 0))] := hl
  obtain ⟨H, hH⟩ : ∃ H : Heap, H = s.heap := ⟨_, rfl⟩
  obtain ⟨locs, hlocs⟩ : ∃ q : List Loc, q = [] := ⟨_, rfl⟩
  have hP : va_P D classes (gwV cy b v ++ (gwW cy a w ++ gwP cy d pd)) H := by rw [hH]; exact hP
  have hS : va_S A s.heap H locs := by rw [hH, hlocs]; exact hS
  suffices hg : W p l e rX2_keepsTo s m args below meth c H locs 0 0 (MQ below (ctQ D (some (.int R.1)) (gwV cy b v ++ (gwW cy a R.2 ++ gwP cy d pd)) A) args s 0 0 A) (F0 m 0 ls []) by rw [hH, hlocs] at hg; exact hg
  clear hH hlocs
  unfold fX2_keepsTo at hF
  unfold oX2_keepsTo at hO
  refine lv_aload_n hx hb dX2_keepsTo_0 rfl (lv_at hl 0 rfl) ?_
  refine lv_aload_n hx hb dX2_keepsTo_1 rfl (lv_at hl 1 rfl) ?_
  refine ct_get (C := RX1) (T := TX1) (N := 6) (ci := 1) (v := .int (v_cm v)) hM hK hP inX1 0 rfl rfl 4 (by decide) wfl_X2_32 rfl dX2_keepsTo_2 ?_
  obtain ⟨q2, e3⟩ : ∃ q, fX2_start w (v_cm v) = q := ⟨_, rfl⟩
  have hF := lt_n e3 hF
  try have hO := lo_n e3 hO
  refine ct_callV (ws' := gwV cy b v ++ (gwW cy a q2 ++ gwP cy d pd)) hM hK hP hD hS (kX2_start l D cy a w (v_cm v) trivial e3) kvX2_start wml_X2_24 [6, 7, 8, 9, 10] rfl (by decide) rfl rfl rfl 6 rfl rfl rfl rfl hl.1 rfl ⟨rfl, rfl, Nat.le_of_ble_eq_true rfl, Nat.le_of_ble_eq_true rfl⟩ (Nat.le_of_ble_eq_true rfl) ⟨Nat.zero_le _, Nat.zero_le _⟩ dX2_keepsTo_5 (fun H locs hP hD hS => ?_)
  refine W.eq (g2 := F0 m 8 ls []) rfl ?_
  refine lv_iconst (v := 0) hx hb dX2_keepsTo_8 (by decide) ?_
  refine lv_istore_n (lv' := [(3, .int 0), (0, .ref (a 0)), (1, .ref (b 0)), (2, .ref (d 0))]) hx hb dX2_keepsTo_9 rfl hl (by decide) rfl (fun ls hl => ?_)
  exact tX2_keepsTo_10 hM hK 9 q2 0 H locs ls hP hD hS (lv_sub hl [1, 2, 3, 0] rfl) hO hF

abbrev rX2_beginOfOneMore : Room := { frames := 2, cells := 0, slots := 0, locals := 49 }
def fX2_beginOfOneMore_13 (v : tVl) (w : tWl) (s2 : Int32) (s3 : Int32) : Nat → Int32 → Int32 → Int32
  | 0, s4, s5 => 0
  | n + 1, s4, s5 => if w_tu w ≤ s5 then (if s3 < s4 then s4 else s3) else (lt_ ((w_or w) (Int32.toNatClampNeg s5)) fun x6 => lt_ (if s3 < s4 then s4 else s3) fun x8 => if (w_be w) (Int32.toNatClampNeg x6) ≤ x8 then (if x8 = (w_be w) (Int32.toNatClampNeg x6) then (lt_ (fX1_goesBefore v s2 x6 x8) fun q18 => if q18 = 0 then (lt_ ((w_en w) (Int32.toNatClampNeg x6)) fun x21 => lt_ (s5 + 1) fun x23 => fX2_beginOfOneMore_13 v w s2 s3 n x21 x23) else x8) else (lt_ ((w_en w) (Int32.toNatClampNeg x6)) fun x13 => lt_ (s5 + 1) fun x15 => fX2_beginOfOneMore_13 v w s2 s3 n x13 x15)) else (if x8 = (w_be w) (Int32.toNatClampNeg x6) then (lt_ (fX1_goesBefore v s2 x6 x8) fun q27 => if q27 = 0 then x8 else x8) else x8))
def oX2_beginOfOneMore_13 (v : tVl) (w : tWl) (s2 : Int32) (s3 : Int32) : Nat → Int32 → Int32 → Prop
  | 0, _, _ => False
  | n + 1, s4, s5 => if w_tu w ≤ s5 then True else (vp_in s5 8 ∧ (lo_ ((w_or w) (Int32.toNatClampNeg s5)) fun x6 => lo_ (if s3 < s4 then s4 else s3) fun x8 => vp_in x6 8 ∧ (if (w_be w) (Int32.toNatClampNeg x6) ≤ x8 then (if x8 = (w_be w) (Int32.toNatClampNeg x6) then (oX1_goesBefore v s2 x6 x8 ∧ (lo_ (fX1_goesBefore v s2 x6 x8) fun q18 => if q18 = 0 then (lo_ ((w_en w) (Int32.toNatClampNeg x6)) fun x21 => lo_ (s5 + 1) fun x23 => oX2_beginOfOneMore_13 v w s2 s3 n x21 x23) else True)) else (lo_ ((w_en w) (Int32.toNatClampNeg x6)) fun x13 => lo_ (s5 + 1) fun x15 => oX2_beginOfOneMore_13 v w s2 s3 n x13 x15)) else (if x8 = (w_be w) (Int32.toNatClampNeg x6) then (oX1_goesBefore v s2 x6 x8 ∧ True) else True))))
set_option maxHeartbeats 4000000 in
set_option maxRecDepth 100000 in
theorem tX2_beginOfOneMore_13 {p : Program} {l : Launch} {e : Env} {s : State} {m : MethodId} {args : Array Value} {below : List Frame} {meth : Method} {c : Code} {A : Nat → Prop} {D : va_G} {cy : Nat → ClassId} {b : Nat → Nat} {a : Nat → Nat} {v : tVl} {w : tWl} {s2 : Int32} {s3 : Int32} {R : Int32} (hM : MC p s m args meth c RX2 cX2_beginOfOneMore 10 (some .int)) (hK : va_K D classes (ctT cy) s) :
    ∀ (n : Nat) (s4 : Int32) (s5 : Int32) (H : Heap) (locs : List Loc) (ls : Array Slot), va_P D classes (gwV cy b v ++ gwW cy a w) H → va_D A (gwV cy b v ++ gwW cy a w) → va_S A s.heap H locs → lv_has ls 10 [(0, .ref (a 0)), (1, .ref (b 0)), (2, .int s2), (3, .int s3), (4, .int s4), (5, .int s5)] → oX2_beginOfOneMore_13 v w s2 s3 n s4 s5 → fX2_beginOfOneMore_13 v w s2 s3 n s4 s5 = R → W p l e rX2_beginOfOneMore s m args below meth c H locs 0 0 (MQ below (ctQ D (some (.int R)) (gwV cy b v ++ gwW cy a w) A) args s 0 0 A) (F0 m 13 ls []) := by
  obtain ⟨hx, hb, -, hml, hown, hts, -⟩ := id hM
  intro n
  induction n with
  | zero =>
    intro s4 s5 H locs ls hP hD hS hl hO hF
    exact False.elim hO
  | succ n ih =>
    intro s4 s5 H locs ls hP hD hS hl hO hF
    rw [fX2_beginOfOneMore_13] at hF
    rw [oX2_beginOfOneMore_13] at hO
    refine lv_iload hx hb dX2_beginOfOneMore_13 (lv_at hl 5 rfl) ?_
    refine lv_aload_n hx hb dX2_beginOfOneMore_15 rfl (lv_at hl 0 rfl) ?_
    refine ct_get (C := RX2) (T := TX2) (N := 10) (ci := 2) (v := .int (w_tu w)) hM hK hP inX2 6 rfl rfl 4 (by decide) wfl_X2_50 rfl dX2_beginOfOneMore_16 ?_
    refine lv_icmp_ge (tgt := 117) hx hb dX2_beginOfOneMore_19 (by decide) (fun c4 => ?_) (fun c4 => ?_)
    · have hF := lt_t c4 hF
      have hO := lo_t c4 hO
      refine lv_iload_n hx hb dX2_beginOfOneMore_117 rfl (lv_at hl 3 rfl) ?_
      refine lv_iload hx hb dX2_beginOfOneMore_118 (lv_at hl 4 rfl) ?_
      refine ct_max hM hl.1 wml_X2_53 ⟨Nat.le_of_ble_eq_true rfl, Nat.le_of_ble_eq_true rfl⟩ ⟨Nat.zero_le _, Nat.zero_le _⟩ dX2_beginOfOneMore_120 ?_
      subst hF
      exact ct_iret hM hP hS dX2_beginOfOneMore_123
    · have hF := lt_f c4 hF
      have hO := lo_f c4 hO
      refine lv_aload_n hx hb dX2_beginOfOneMore_22 rfl (lv_at hl 0 rfl) ?_
      refine ct_get (C := RX2) (T := TX2) (N := 10) (ci := 2) (v := .ref (a 1)) hM hK hP inX2 6 rfl rfl 0 (by decide) wfl_X2_9 rfl dX2_beginOfOneMore_23 ?_
      refine lv_iload hx hb dX2_beginOfOneMore_26 (lv_at hl 5 rfl) ?_
      obtain ⟨h5, hO⟩ := hO
      refine va_iald hx hb hK hP 7 0 (f := w_or w) (n := 8) (cA := cy 0) rfl rfl h5 dX2_beginOfOneMore_28 ?_
      refine lv_topi (fun x6 e7 => ?_)
      have hF := lt_n e7.symm hF
      try have hO := lo_n e7.symm hO
      refine lv_istore (lv' := [(6, .int x6), (0, .ref (a 0)), (1, .ref (b 0)), (2, .int s2), (3, .int s3), (4, .int s4), (5, .int s5)]) hx hb dX2_beginOfOneMore_29 hl (by decide) rfl (fun ls hl => ?_)
      refine lv_iload_n hx hb dX2_beginOfOneMore_31 rfl (lv_at hl 4 rfl) ?_
      refine lv_iload hx hb dX2_beginOfOneMore_32 (lv_at hl 5 rfl) ?_
      refine ct_max hM hl.1 wml_X2_53 ⟨Nat.le_of_ble_eq_true rfl, Nat.le_of_ble_eq_true rfl⟩ ⟨Nat.zero_le _, Nat.zero_le _⟩ dX2_beginOfOneMore_34 ?_
      refine lv_topi (fun x8 e9 => ?_)
      have hF := lt_n e9.symm hF
      try have hO := lo_n e9.symm hO
      refine lv_istore (lv' := [(7, .int x8), (6, .int x6), (0, .ref (a 0)), (1, .ref (b 0)), (2, .int s2), (3, .int s3), (4, .int s4), (5, .int s5)]) hx hb dX2_beginOfOneMore_37 hl (by decide) rfl (fun ls hl => ?_)
      refine lv_iload hx hb dX2_beginOfOneMore_39 (lv_at hl 0 rfl) ?_
      refine lv_aload_n hx hb dX2_beginOfOneMore_41 rfl (lv_at hl 2 rfl) ?_
      refine ct_get (C := RX2) (T := TX2) (N := 10) (ci := 2) (v := .ref (a 2)) hM hK hP inX2 6 rfl rfl 1 (by decide) wfl_X2_15 rfl dX2_beginOfOneMore_42 ?_
      refine lv_iload hx hb dX2_beginOfOneMore_45 (lv_at hl 1 rfl) ?_
      obtain ⟨h10, hO⟩ := hO
      refine va_iald hx hb hK hP 8 0 (f := w_be w) (n := 8) (cA := cy 0) rfl rfl h10 dX2_beginOfOneMore_47 ?_
      refine lv_icmp_ge (tgt := 55) hx hb dX2_beginOfOneMore_48 (by decide) (fun c11 => ?_) (fun c11 => ?_)
      · have hF := lt_t c11 hF
        have hO := lo_t c11 hO
        refine lv_iconst (v := 0) hx hb dX2_beginOfOneMore_55 (by decide) ?_
        refine lv_istore (lv' := [(8, .int 0), (7, .int x8), (6, .int x6), (0, .ref (a 0)), (1, .ref (b 0)), (2, .int s2), (3, .int s3), (4, .int s4), (5, .int s5)]) hx hb dX2_beginOfOneMore_56 hl (by decide) rfl (fun ls hl => ?_)
        refine lv_iload hx hb dX2_beginOfOneMore_58 (lv_at hl 1 rfl) ?_
        refine lv_aload_n hx hb dX2_beginOfOneMore_60 rfl (lv_at hl 3 rfl) ?_
        refine ct_get (C := RX2) (T := TX2) (N := 10) (ci := 2) (v := .ref (a 2)) hM hK hP inX2 6 rfl rfl 1 (by decide) wfl_X2_15 rfl dX2_beginOfOneMore_61 ?_
        refine lv_iload hx hb dX2_beginOfOneMore_64 (lv_at hl 2 rfl) ?_
        refine va_iald hx hb hK hP 8 0 (f := w_be w) (n := 8) (cA := cy 0) rfl rfl h10 dX2_beginOfOneMore_66 ?_
        refine lv_icmp_ne (tgt := 86) hx hb dX2_beginOfOneMore_67 (by decide) (fun c12 => ?_) (fun c12 => ?_)
        · have hF := lt_f c12 hF
          have hO := lo_f c12 hO
          refine lv_iconst (v := 0) hx hb dX2_beginOfOneMore_86 (by decide) ?_
          refine lv_istore (lv' := [(9, .int 0), (8, .int 0), (7, .int x8), (6, .int x6), (0, .ref (a 0)), (1, .ref (b 0)), (2, .int s2), (3, .int s3), (4, .int s4), (5, .int s5)]) hx hb dX2_beginOfOneMore_87 hl (by decide) rfl (fun ls hl => ?_)
          refine lv_iload hx hb dX2_beginOfOneMore_89 (lv_at hl 1 rfl) ?_
          refine lv_if_ne (tgt := 99) hx hb dX2_beginOfOneMore_91 (by decide) (fun z => absurd (by decide) z) (fun _ => ?_)
          refine lv_iload hx hb dX2_beginOfOneMore_94 (lv_at hl 0 rfl) ?_
          refine lv_if_eq (tgt := 102) hx hb dX2_beginOfOneMore_96 (by decide) (fun _ => ?_) (fun z => absurd (by decide) z)
          refine lv_aload_n hx hb dX2_beginOfOneMore_102 rfl (lv_at hl 4 rfl) ?_
          refine ct_get (C := RX2) (T := TX2) (N := 10) (ci := 2) (v := .ref (a 3)) hM hK hP inX2 6 rfl rfl 2 (by decide) wfl_X2_18 rfl dX2_beginOfOneMore_103 ?_
          refine lv_iload hx hb dX2_beginOfOneMore_106 (lv_at hl 3 rfl) ?_
          refine va_iald hx hb hK hP 9 0 (f := w_en w) (n := 8) (cA := cy 0) rfl rfl h10 dX2_beginOfOneMore_108 ?_
          refine lv_topi (fun x13 e14 => ?_)
          have hF := lt_n e14.symm hF
          try have hO := lo_n e14.symm hO
          refine lv_istore (lv' := [(4, .int x13), (9, .int 0), (8, .int 0), (7, .int x8), (6, .int x6), (0, .ref (a 0)), (1, .ref (b 0)), (2, .int s2), (3, .int s3), (5, .int s5)]) hx hb dX2_beginOfOneMore_109 hl (by decide) rfl (fun ls hl => ?_)
          obtain ⟨x15, e16⟩ : ∃ y : Int32, s5 + 1 = y := ⟨_, rfl⟩
          have hF := lt_n e16 hF
          try have hO := lo_n e16 hO
          refine lv_iinc (v := x15) (lv' := [(5, .int x15), (4, .int x13), (9, .int 0), (8, .int 0), (7, .int x8), (6, .int x6), (0, .ref (a 0)), (1, .ref (b 0)), (2, .int s2), (3, .int s3)]) hx hb dX2_beginOfOneMore_111 hl (k := 9) rfl (by rw [← e16]; rfl) (by decide) rfl (fun ls hl => ?_)
          refine lv_goto (tgt := 13) hx hb dX2_beginOfOneMore_114 (by decide) ?_
          exact ih x13 x15 H locs ls hP hD hS (lv_sub hl [6, 7, 8, 9, 1, 0] rfl) hO hF
        · have hF := lt_t c12 hF
          have hO := lo_t c12 hO
          refine lv_aload_n hx hb dX2_beginOfOneMore_70 rfl (lv_at hl 4 rfl) ?_
          refine lv_iload_n hx hb dX2_beginOfOneMore_71 rfl (lv_at hl 5 rfl) ?_
          refine lv_iload hx hb dX2_beginOfOneMore_72 (lv_at hl 2 rfl) ?_
          refine lv_iload hx hb dX2_beginOfOneMore_74 (lv_at hl 1 rfl) ?_
          obtain ⟨h17, hO⟩ := hO
          obtain ⟨q18, e19⟩ : ∃ q, fX1_goesBefore v s2 x6 x8 = q := ⟨_, rfl⟩
          have hF := lt_n e19 hF
          try have hO := lo_n e19 hO
          refine ct_callV (ws' := gwV cy b v ++ gwW cy a w) hM hK hP hD hS (kX1_goesBefore l D cy b v s2 x6 x8 h17 e19) kvX1_goesBefore wml_X2_59 [0, 1, 2, 3, 4, 5] rfl (by decide) rfl rfl rfl 0 rfl rfl rfl rfl hl.1 rfl ⟨rfl, rfl, Nat.le_of_ble_eq_true rfl, Nat.le_of_ble_eq_true rfl⟩ (Nat.le_of_ble_eq_true rfl) ⟨Nat.zero_le _, Nat.zero_le _⟩ dX2_beginOfOneMore_76 (fun H locs hP hD hS => ?_)
          refine W.eq (g2 := F0 m 79 ls [.int q18]) rfl ?_
          refine lv_if_eq (tgt := 86) hx hb dX2_beginOfOneMore_79 (by decide) (fun c20 => ?_) (fun c20 => ?_)
          · have hF := lt_t c20 hF
            have hO := lo_t c20 hO
            refine lv_iconst (v := 0) hx hb dX2_beginOfOneMore_86 (by decide) ?_
            refine lv_istore (lv' := [(9, .int 0), (8, .int 0), (7, .int x8), (6, .int x6), (0, .ref (a 0)), (1, .ref (b 0)), (2, .int s2), (3, .int s3), (4, .int s4), (5, .int s5)]) hx hb dX2_beginOfOneMore_87 hl (by decide) rfl (fun ls hl => ?_)
            refine lv_iload hx hb dX2_beginOfOneMore_89 (lv_at hl 1 rfl) ?_
            refine lv_if_ne (tgt := 99) hx hb dX2_beginOfOneMore_91 (by decide) (fun z => absurd (by decide) z) (fun _ => ?_)
            refine lv_iload hx hb dX2_beginOfOneMore_94 (lv_at hl 0 rfl) ?_
            refine lv_if_eq (tgt := 102) hx hb dX2_beginOfOneMore_96 (by decide) (fun _ => ?_) (fun z => absurd (by decide) z)
            refine lv_aload_n hx hb dX2_beginOfOneMore_102 rfl (lv_at hl 4 rfl) ?_
            refine ct_get (C := RX2) (T := TX2) (N := 10) (ci := 2) (v := .ref (a 3)) hM hK hP inX2 6 rfl rfl 2 (by decide) wfl_X2_18 rfl dX2_beginOfOneMore_103 ?_
            refine lv_iload hx hb dX2_beginOfOneMore_106 (lv_at hl 3 rfl) ?_
            refine va_iald hx hb hK hP 9 0 (f := w_en w) (n := 8) (cA := cy 0) rfl rfl h10 dX2_beginOfOneMore_108 ?_
            refine lv_topi (fun x21 e22 => ?_)
            have hF := lt_n e22.symm hF
            try have hO := lo_n e22.symm hO
            refine lv_istore (lv' := [(4, .int x21), (9, .int 0), (8, .int 0), (7, .int x8), (6, .int x6), (0, .ref (a 0)), (1, .ref (b 0)), (2, .int s2), (3, .int s3), (5, .int s5)]) hx hb dX2_beginOfOneMore_109 hl (by decide) rfl (fun ls hl => ?_)
            obtain ⟨x23, e24⟩ : ∃ y : Int32, s5 + 1 = y := ⟨_, rfl⟩
            have hF := lt_n e24 hF
            try have hO := lo_n e24 hO
            refine lv_iinc (v := x23) (lv' := [(5, .int x23), (4, .int x21), (9, .int 0), (8, .int 0), (7, .int x8), (6, .int x6), (0, .ref (a 0)), (1, .ref (b 0)), (2, .int s2), (3, .int s3)]) hx hb dX2_beginOfOneMore_111 hl (k := 9) rfl (by rw [← e24]; rfl) (by decide) rfl (fun ls hl => ?_)
            refine lv_goto (tgt := 13) hx hb dX2_beginOfOneMore_114 (by decide) ?_
            exact ih x21 x23 H locs ls hP hD hS (lv_sub hl [6, 7, 8, 9, 1, 0] rfl) hO hF
          · have hF := lt_f c20 hF
            have hO := lo_f c20 hO
            refine lv_iconst (v := 1) hx hb dX2_beginOfOneMore_82 (by decide) ?_
            refine lv_goto (tgt := 87) hx hb dX2_beginOfOneMore_83 (by decide) ?_
            refine lv_istore (lv' := [(9, .int 1), (8, .int 0), (7, .int x8), (6, .int x6), (0, .ref (a 0)), (1, .ref (b 0)), (2, .int s2), (3, .int s3), (4, .int s4), (5, .int s5)]) hx hb dX2_beginOfOneMore_87 hl (by decide) rfl (fun ls hl => ?_)
            refine lv_iload hx hb dX2_beginOfOneMore_89 (lv_at hl 1 rfl) ?_
            refine lv_if_ne (tgt := 99) hx hb dX2_beginOfOneMore_91 (by decide) (fun z => absurd (by decide) z) (fun _ => ?_)
            refine lv_iload hx hb dX2_beginOfOneMore_94 (lv_at hl 0 rfl) ?_
            refine lv_if_eq (tgt := 102) hx hb dX2_beginOfOneMore_96 (by decide) (fun z => absurd z (by decide)) (fun _ => ?_)
            refine lv_iload hx hb dX2_beginOfOneMore_99 (lv_at hl 2 rfl) ?_
            subst hF
            exact ct_iret hM hP hS dX2_beginOfOneMore_101
      · have hF := lt_f c11 hF
        have hO := lo_f c11 hO
        refine lv_iconst (v := 1) hx hb dX2_beginOfOneMore_51 (by decide) ?_
        refine lv_goto (tgt := 56) hx hb dX2_beginOfOneMore_52 (by decide) ?_
        refine lv_istore (lv' := [(8, .int 1), (7, .int x8), (6, .int x6), (0, .ref (a 0)), (1, .ref (b 0)), (2, .int s2), (3, .int s3), (4, .int s4), (5, .int s5)]) hx hb dX2_beginOfOneMore_56 hl (by decide) rfl (fun ls hl => ?_)
        refine lv_iload hx hb dX2_beginOfOneMore_58 (lv_at hl 1 rfl) ?_
        refine lv_aload_n hx hb dX2_beginOfOneMore_60 rfl (lv_at hl 3 rfl) ?_
        refine ct_get (C := RX2) (T := TX2) (N := 10) (ci := 2) (v := .ref (a 2)) hM hK hP inX2 6 rfl rfl 1 (by decide) wfl_X2_15 rfl dX2_beginOfOneMore_61 ?_
        refine lv_iload hx hb dX2_beginOfOneMore_64 (lv_at hl 2 rfl) ?_
        refine va_iald hx hb hK hP 8 0 (f := w_be w) (n := 8) (cA := cy 0) rfl rfl h10 dX2_beginOfOneMore_66 ?_
        refine lv_icmp_ne (tgt := 86) hx hb dX2_beginOfOneMore_67 (by decide) (fun c25 => ?_) (fun c25 => ?_)
        · have hF := lt_f c25 hF
          have hO := lo_f c25 hO
          refine lv_iconst (v := 0) hx hb dX2_beginOfOneMore_86 (by decide) ?_
          refine lv_istore (lv' := [(9, .int 0), (8, .int 1), (7, .int x8), (6, .int x6), (0, .ref (a 0)), (1, .ref (b 0)), (2, .int s2), (3, .int s3), (4, .int s4), (5, .int s5)]) hx hb dX2_beginOfOneMore_87 hl (by decide) rfl (fun ls hl => ?_)
          refine lv_iload hx hb dX2_beginOfOneMore_89 (lv_at hl 1 rfl) ?_
          refine lv_if_ne (tgt := 99) hx hb dX2_beginOfOneMore_91 (by decide) (fun _ => ?_) (fun z => absurd z (by decide))
          refine lv_iload hx hb dX2_beginOfOneMore_99 (lv_at hl 2 rfl) ?_
          subst hF
          exact ct_iret hM hP hS dX2_beginOfOneMore_101
        · have hF := lt_t c25 hF
          have hO := lo_t c25 hO
          refine lv_aload_n hx hb dX2_beginOfOneMore_70 rfl (lv_at hl 4 rfl) ?_
          refine lv_iload_n hx hb dX2_beginOfOneMore_71 rfl (lv_at hl 5 rfl) ?_
          refine lv_iload hx hb dX2_beginOfOneMore_72 (lv_at hl 2 rfl) ?_
          refine lv_iload hx hb dX2_beginOfOneMore_74 (lv_at hl 1 rfl) ?_
          obtain ⟨h26, hO⟩ := hO
          obtain ⟨q27, e28⟩ : ∃ q, fX1_goesBefore v s2 x6 x8 = q := ⟨_, rfl⟩
          have hF := lt_n e28 hF
          try have hO := lo_n e28 hO
          refine ct_callV (ws' := gwV cy b v ++ gwW cy a w) hM hK hP hD hS (kX1_goesBefore l D cy b v s2 x6 x8 h26 e28) kvX1_goesBefore wml_X2_59 [0, 1, 2, 3, 4, 5] rfl (by decide) rfl rfl rfl 0 rfl rfl rfl rfl hl.1 rfl ⟨rfl, rfl, Nat.le_of_ble_eq_true rfl, Nat.le_of_ble_eq_true rfl⟩ (Nat.le_of_ble_eq_true rfl) ⟨Nat.zero_le _, Nat.zero_le _⟩ dX2_beginOfOneMore_76 (fun H locs hP hD hS => ?_)
          refine W.eq (g2 := F0 m 79 ls [.int q27]) rfl ?_
          refine lv_if_eq (tgt := 86) hx hb dX2_beginOfOneMore_79 (by decide) (fun c29 => ?_) (fun c29 => ?_)
          · have hF := lt_t c29 hF
            refine lv_iconst (v := 0) hx hb dX2_beginOfOneMore_86 (by decide) ?_
            refine lv_istore (lv' := [(9, .int 0), (8, .int 1), (7, .int x8), (6, .int x6), (0, .ref (a 0)), (1, .ref (b 0)), (2, .int s2), (3, .int s3), (4, .int s4), (5, .int s5)]) hx hb dX2_beginOfOneMore_87 hl (by decide) rfl (fun ls hl => ?_)
            refine lv_iload hx hb dX2_beginOfOneMore_89 (lv_at hl 1 rfl) ?_
            refine lv_if_ne (tgt := 99) hx hb dX2_beginOfOneMore_91 (by decide) (fun _ => ?_) (fun z => absurd z (by decide))
            refine lv_iload hx hb dX2_beginOfOneMore_99 (lv_at hl 2 rfl) ?_
            subst hF
            exact ct_iret hM hP hS dX2_beginOfOneMore_101
          · have hF := lt_f c29 hF
            refine lv_iconst (v := 1) hx hb dX2_beginOfOneMore_82 (by decide) ?_
            refine lv_goto (tgt := 87) hx hb dX2_beginOfOneMore_83 (by decide) ?_
            refine lv_istore (lv' := [(9, .int 1), (8, .int 1), (7, .int x8), (6, .int x6), (0, .ref (a 0)), (1, .ref (b 0)), (2, .int s2), (3, .int s3), (4, .int s4), (5, .int s5)]) hx hb dX2_beginOfOneMore_87 hl (by decide) rfl (fun ls hl => ?_)
            refine lv_iload hx hb dX2_beginOfOneMore_89 (lv_at hl 1 rfl) ?_
            refine lv_if_ne (tgt := 99) hx hb dX2_beginOfOneMore_91 (by decide) (fun _ => ?_) (fun z => absurd z (by decide))
            refine lv_iload hx hb dX2_beginOfOneMore_99 (lv_at hl 2 rfl) ?_
            subst hF
            exact ct_iret hM hP hS dX2_beginOfOneMore_101

def fX2_beginOfOneMore (v : tVl) (w : tWl) (s2 : Int32) : Int32 := lt_ ((v_mn v) (Int32.toNatClampNeg s2)) fun x2 => fX2_beginOfOneMore_13 v w s2 x2 9 0 0
def oX2_beginOfOneMore (v : tVl) (w : tWl) (s2 : Int32) : Prop := vp_in s2 8 ∧ (lo_ ((v_mn v) (Int32.toNatClampNeg s2)) fun x2 => oX2_beginOfOneMore_13 v w s2 x2 9 0 0)
theorem kvX2_beginOfOneMore : KV yX2_beginOfOneMore cX2_beginOfOneMore 10 (some .int) 2 := ⟨wcd_X2_beginOfOneMore, wim_X2_beginOfOneMore, wsl_X2_beginOfOneMore, win_X2, by decide +kernel, by decide +kernel, by decide +kernel⟩
set_option maxHeartbeats 4000000 in
set_option maxRecDepth 100000 in
theorem kX2_beginOfOneMore (l : Launch) (D : va_G) (cy : Nat → ClassId) (b : Nat → Nat) (a : Nat → Nat) (v : tVl) (w : tWl) (s2 : Int32) {R : Int32} (hO : oX2_beginOfOneMore v w s2) (hF : fX2_beginOfOneMore v w s2 = R) : CT l D cy yX2_beginOfOneMore cX2_beginOfOneMore 10 (some .int) rX2_beginOfOneMore [.ref (a 0), .ref (b 0), .int s2] (gwV cy b v ++ gwW cy a w) (some (.int R)) (gwV cy b v ++ gwW cy a w) := by
  refine ct_of (by decide) (Nat.le_of_ble_eq_true rfl) ?_
  intro p e s m args below meth c A ls hM hK hP hD hS hl
  obtain ⟨hx, hb, -, hml, hown, hts, -⟩ := id hM
  have hl : lv_has ls 10 [(0, .ref (a 0)), (1, .ref (b 0)), (2, .int s2)] := hl
  obtain ⟨H, hH⟩ : ∃ H : Heap, H = s.heap := ⟨_, rfl⟩
  obtain ⟨locs, hlocs⟩ : ∃ q : List Loc, q = [] := ⟨_, rfl⟩
  have hP : va_P D classes (gwV cy b v ++ gwW cy a w) H := by rw [hH]; exact hP
  have hS : va_S A s.heap H locs := by rw [hH, hlocs]; exact hS
  suffices hg : W p l e rX2_beginOfOneMore s m args below meth c H locs 0 0 (MQ below (ctQ D (some (.int R)) (gwV cy b v ++ gwW cy a w) A) args s 0 0 A) (F0 m 0 ls []) by rw [hH, hlocs] at hg; exact hg
  clear hH hlocs
  unfold fX2_beginOfOneMore at hF
  unfold oX2_beginOfOneMore at hO
  refine lv_aload_n hx hb dX2_beginOfOneMore_0 rfl (lv_at hl 1 rfl) ?_
  refine ct_get (C := RX1) (T := TX1) (N := 6) (ci := 1) (v := .ref (b 2)) hM hK hP inX1 0 rfl rfl 1 (by decide) wfl_X2_47 rfl dX2_beginOfOneMore_1 ?_
  refine lv_iload_n hx hb dX2_beginOfOneMore_4 rfl (lv_at hl 2 rfl) ?_
  obtain ⟨h1, hO⟩ := hO
  refine va_iald hx hb hK hP 2 0 (f := v_mn v) (n := 8) (cA := cy 0) rfl rfl h1 dX2_beginOfOneMore_5 ?_
  refine lv_topi (fun x2 e3 => ?_)
  have hF := lt_n e3.symm hF
  try have hO := lo_n e3.symm hO
  refine lv_istore_n (lv' := [(3, .int x2), (0, .ref (a 0)), (1, .ref (b 0)), (2, .int s2)]) hx hb dX2_beginOfOneMore_6 rfl hl (by decide) rfl (fun ls hl => ?_)
  refine lv_iconst (v := 0) hx hb dX2_beginOfOneMore_7 (by decide) ?_
  refine lv_istore (lv' := [(4, .int 0), (3, .int x2), (0, .ref (a 0)), (1, .ref (b 0)), (2, .int s2)]) hx hb dX2_beginOfOneMore_8 hl (by decide) rfl (fun ls hl => ?_)
  refine lv_iconst (v := 0) hx hb dX2_beginOfOneMore_10 (by decide) ?_
  refine lv_istore (lv' := [(5, .int 0), (4, .int 0), (3, .int x2), (0, .ref (a 0)), (1, .ref (b 0)), (2, .int s2)]) hx hb dX2_beginOfOneMore_11 hl (by decide) rfl (fun ls hl => ?_)
  exact tX2_beginOfOneMore_13 hM hK 9 0 0 H locs ls hP hD hS (lv_sub hl [3, 4, 5, 2, 1, 0] rfl) hO hF

abbrev rX2_worstOff : Room := { frames := 0, cells := 0, slots := 0, locals := 0 }
def fX2_worstOff_2 (w : tWl) : Nat → Int32 → Int32
  | 0, s1 => 0
  | n + 1, s1 => if 8 ≤ s1 then (-6) else (if ((w_co w >>> (s1 &&& 31)) &&& 1) = 0 then (lt_ (s1 + 1) fun x3 => fX2_worstOff_2 w n x3) else (if (w_wa w) (Int32.toNatClampNeg s1) = w_wo w then s1 else (lt_ (s1 + 1) fun x7 => fX2_worstOff_2 w n x7)))
def oX2_worstOff_2 (w : tWl) : Nat → Int32 → Prop
  | 0, _ => False
  | n + 1, s1 => if 8 ≤ s1 then True else (if ((w_co w >>> (s1 &&& 31)) &&& 1) = 0 then (lo_ (s1 + 1) fun x3 => oX2_worstOff_2 w n x3) else (vp_in s1 8 ∧ (if (w_wa w) (Int32.toNatClampNeg s1) = w_wo w then True else (lo_ (s1 + 1) fun x7 => oX2_worstOff_2 w n x7))))
set_option maxHeartbeats 4000000 in
set_option maxRecDepth 100000 in
theorem tX2_worstOff_2 {p : Program} {l : Launch} {e : Env} {s : State} {m : MethodId} {args : Array Value} {below : List Frame} {meth : Method} {c : Code} {A : Nat → Prop} {D : va_G} {cy : Nat → ClassId} {a : Nat → Nat} {w : tWl} {R : Int32} (hM : MC p s m args meth c RX2 cX2_worstOff 2 (some .int)) (hK : va_K D classes (ctT cy) s) :
    ∀ (n : Nat) (s1 : Int32) (H : Heap) (locs : List Loc) (ls : Array Slot), va_P D classes (gwW cy a w) H → va_D A (gwW cy a w) → va_S A s.heap H locs → lv_has ls 2 [(0, .ref (a 0)), (1, .int s1)] → oX2_worstOff_2 w n s1 → fX2_worstOff_2 w n s1 = R → W p l e rX2_worstOff s m args below meth c H locs 0 0 (MQ below (ctQ D (some (.int R)) (gwW cy a w) A) args s 0 0 A) (F0 m 2 ls []) := by
  obtain ⟨hx, hb, -, hml, hown, hts, -⟩ := id hM
  intro n
  induction n with
  | zero =>
    intro s1 H locs ls hP hD hS hl hO hF
    exact False.elim hO
  | succ n ih =>
    intro s1 H locs ls hP hD hS hl hO hF
    rw [fX2_worstOff_2] at hF
    rw [oX2_worstOff_2] at hO
    refine lv_iload_n hx hb dX2_worstOff_2 rfl (lv_at hl 1 rfl) ?_
    refine lv_bipush (v := 8) hx hb dX2_worstOff_3 (by decide) ?_
    refine lv_icmp_ge (tgt := 40) hx hb dX2_worstOff_5 (by decide) (fun c1 => ?_) (fun c1 => ?_)
    · have hF := lt_t c1 hF
      have hO := lo_t c1 hO
      refine lv_bipush (v := (-6)) hx hb dX2_worstOff_40 (by decide) ?_
      subst hF
      exact ct_iret hM hP hS dX2_worstOff_42
    · have hF := lt_f c1 hF
      have hO := lo_f c1 hO
      refine lv_aload_n hx hb dX2_worstOff_8 rfl (lv_at hl 0 rfl) ?_
      refine ct_get (C := RX2) (T := TX2) (N := 10) (ci := 2) (v := .int (w_co w)) hM hK hP inX2 0 rfl rfl 8 (by decide) wfl_X2_63 rfl dX2_worstOff_9 ?_
      refine lv_iload_n hx hb dX2_worstOff_12 rfl (lv_at hl 1 rfl) ?_
      refine lv_ishr hx hb dX2_worstOff_13 ?_
      refine lv_iconst (v := 1) hx hb dX2_worstOff_14 (by decide) ?_
      refine lv_iand hx hb dX2_worstOff_15 ?_
      refine lv_if_eq (tgt := 34) hx hb dX2_worstOff_16 (by decide) (fun c2 => ?_) (fun c2 => ?_)
      · have hF := lt_t c2 hF
        have hO := lo_t c2 hO
        obtain ⟨x3, e4⟩ : ∃ y : Int32, s1 + 1 = y := ⟨_, rfl⟩
        have hF := lt_n e4 hF
        try have hO := lo_n e4 hO
        refine lv_iinc (v := x3) (lv' := [(1, .int x3), (0, .ref (a 0))]) hx hb dX2_worstOff_34 hl (k := 1) rfl (by rw [← e4]; rfl) (by decide) rfl (fun ls hl => ?_)
        refine lv_goto (tgt := 2) hx hb dX2_worstOff_37 (by decide) ?_
        exact ih x3 H locs ls hP hD hS (lv_sub hl [1, 0] rfl) hO hF
      · have hF := lt_f c2 hF
        have hO := lo_f c2 hO
        refine lv_aload_n hx hb dX2_worstOff_19 rfl (lv_at hl 0 rfl) ?_
        refine ct_get (C := RX2) (T := TX2) (N := 10) (ci := 2) (v := .ref (a 4)) hM hK hP inX2 0 rfl rfl 3 (by decide) wfl_X2_21 rfl dX2_worstOff_20 ?_
        refine lv_iload_n hx hb dX2_worstOff_23 rfl (lv_at hl 1 rfl) ?_
        obtain ⟨h5, hO⟩ := hO
        refine va_iald hx hb hK hP 4 0 (f := w_wa w) (n := 8) (cA := cy 0) rfl rfl h5 dX2_worstOff_24 ?_
        refine lv_aload_n hx hb dX2_worstOff_25 rfl (lv_at hl 0 rfl) ?_
        refine ct_get (C := RX2) (T := TX2) (N := 10) (ci := 2) (v := .int (w_wo w)) hM hK hP inX2 0 rfl rfl 5 (by decide) wfl_X2_64 rfl dX2_worstOff_26 ?_
        refine lv_icmp_ne (tgt := 34) hx hb dX2_worstOff_29 (by decide) (fun c6 => ?_) (fun c6 => ?_)
        · have hF := lt_f c6 hF
          have hO := lo_f c6 hO
          obtain ⟨x7, e8⟩ : ∃ y : Int32, s1 + 1 = y := ⟨_, rfl⟩
          have hF := lt_n e8 hF
          try have hO := lo_n e8 hO
          refine lv_iinc (v := x7) (lv' := [(1, .int x7), (0, .ref (a 0))]) hx hb dX2_worstOff_34 hl (k := 1) rfl (by rw [← e8]; rfl) (by decide) rfl (fun ls hl => ?_)
          refine lv_goto (tgt := 2) hx hb dX2_worstOff_37 (by decide) ?_
          exact ih x7 H locs ls hP hD hS (lv_sub hl [1, 0] rfl) hO hF
        · have hF := lt_t c6 hF
          have hO := lo_t c6 hO
          refine lv_iload_n hx hb dX2_worstOff_32 rfl (lv_at hl 1 rfl) ?_
          subst hF
          exact ct_iret hM hP hS dX2_worstOff_33

def fX2_worstOff (w : tWl) : Int32 := fX2_worstOff_2 w 9 0
def oX2_worstOff (w : tWl) : Prop := oX2_worstOff_2 w 9 0
theorem kvX2_worstOff : KV yX2_worstOff cX2_worstOff 2 (some .int) 0 := ⟨wcd_X2_worstOff, wim_X2_worstOff, wsl_X2_worstOff, win_X2, by decide +kernel, by decide +kernel, by decide +kernel⟩
set_option maxHeartbeats 4000000 in
set_option maxRecDepth 100000 in
theorem kX2_worstOff (l : Launch) (D : va_G) (cy : Nat → ClassId) (a : Nat → Nat) (w : tWl) {R : Int32} (hO : oX2_worstOff w) (hF : fX2_worstOff w = R) : CT l D cy yX2_worstOff cX2_worstOff 2 (some .int) rX2_worstOff [.ref (a 0)] (gwW cy a w) (some (.int R)) (gwW cy a w) := by
  refine ct_of (by decide) (Nat.le_of_ble_eq_true rfl) ?_
  intro p e s m args below meth c A ls hM hK hP hD hS hl
  obtain ⟨hx, hb, -, hml, hown, hts, -⟩ := id hM
  have hl : lv_has ls 2 [(0, .ref (a 0))] := hl
  obtain ⟨H, hH⟩ : ∃ H : Heap, H = s.heap := ⟨_, rfl⟩
  obtain ⟨locs, hlocs⟩ : ∃ q : List Loc, q = [] := ⟨_, rfl⟩
  have hP : va_P D classes (gwW cy a w) H := by rw [hH]; exact hP
  have hS : va_S A s.heap H locs := by rw [hH, hlocs]; exact hS
  suffices hg : W p l e rX2_worstOff s m args below meth c H locs 0 0 (MQ below (ctQ D (some (.int R)) (gwW cy a w) A) args s 0 0 A) (F0 m 0 ls []) by rw [hH, hlocs] at hg; exact hg
  clear hH hlocs
  unfold fX2_worstOff at hF
  unfold oX2_worstOff at hO
  refine lv_iconst (v := 0) hx hb dX2_worstOff_0 (by decide) ?_
  refine lv_istore_n (lv' := [(1, .int 0), (0, .ref (a 0))]) hx hb dX2_worstOff_1 rfl hl (by decide) rfl (fun ls hl => ?_)
  exact tX2_worstOff_2 hM hK 9 0 H locs ls hP hD hS (lv_sub hl [1, 0] rfl) hO hF

abbrev rX0_add : Room := { frames := 0, cells := 0, slots := 0, locals := 0 }
def fX0_add (pd : tPd) (s1 : Int32) : Int32 × tPd := if p_ct pd < 40 then (lt_ (p_ct pd + 1) fun x3 => (1, (x3, upd (p_sg pd) (Int32.toNatClampNeg (p_ct pd)) s1))) else (0, pd)
def oX0_add (pd : tPd) (s1 : Int32) : Prop := if p_ct pd < 40 then (vp_in (p_ct pd) 40 ∧ True) else True
theorem kvX0_add : KV yX0_add cX0_add 2 (some .boolean) 1 := ⟨wcd_X0_add, wim_X0_add, wsl_X0_add, win_X0, by decide +kernel, by decide +kernel, by decide +kernel⟩
set_option maxHeartbeats 4000000 in
set_option maxRecDepth 100000 in
theorem kX0_add (l : Launch) (D : va_G) (cy : Nat → ClassId) (a : Nat → Nat) (pd : tPd) (s1 : Int32) {R : Int32 × tPd} (hO : oX0_add pd s1) (hF : fX0_add pd s1 = R) : CT l D cy yX0_add cX0_add 2 (some .boolean) rX0_add [.ref (a 0), .int s1] (gwP cy a pd) (some (.int R.1)) (gwP cy a R.2) := by
  refine ct_of (by decide) (Nat.le_of_ble_eq_true rfl) ?_
  intro p e s m args below meth c A ls hM hK hP hD hS hl
  obtain ⟨hx, hb, -, hml, hown, hts, -⟩ := id hM
  have hl : lv_has ls 2 [(0, .ref (a 0)), (1, .int s1)] := hl
  obtain ⟨H, hH⟩ : ∃ H : Heap, H = s.heap := ⟨_, rfl⟩
  obtain ⟨locs, hlocs⟩ : ∃ q : List Loc, q = [] := ⟨_, rfl⟩
  have hP : va_P D classes (gwP cy a pd) H := by rw [hH]; exact hP
  have hS : va_S A s.heap H locs := by rw [hH, hlocs]; exact hS
  suffices hg : W p l e rX0_add s m args below meth c H locs 0 0 (MQ below (ctQ D (some (.int R.1)) (gwP cy a R.2) A) args s 0 0 A) (F0 m 0 ls []) by rw [hH, hlocs] at hg; exact hg
  clear hH hlocs
  unfold fX0_add at hF
  unfold oX0_add at hO
  refine lv_aload_n hx hb dX0_add_0 rfl (lv_at hl 0 rfl) ?_
  refine ct_get (C := RX0) (T := TX0) (N := 2) (ci := 0) (v := .int (p_ct pd)) hM hK hP inX0 0 rfl rfl 0 (by decide) wfl_X0_15 rfl dX0_add_1 ?_
  refine lv_bipush (v := 40) hx hb dX0_add_4 (by decide) ?_
  refine lv_icmp_lt (tgt := 11) hx hb dX0_add_6 (by decide) (fun c1 => ?_) (fun c1 => ?_)
  · have hF := lt_t c1 hF
    have hO := lo_t c1 hO
    refine lv_aload_n hx hb dX0_add_11 rfl (lv_at hl 0 rfl) ?_
    refine ct_get (C := RX0) (T := TX0) (N := 2) (ci := 0) (v := .ref (a 1)) hM hK hP inX0 0 rfl rfl 1 (by decide) wfl_X0_11 rfl dX0_add_12 ?_
    refine lv_aload_n hx hb dX0_add_15 rfl (lv_at hl 0 rfl) ?_
    refine ct_get (C := RX0) (T := TX0) (N := 2) (ci := 0) (v := .int (p_ct pd)) hM hK hP inX0 0 rfl rfl 0 (by decide) wfl_X0_15 rfl dX0_add_16 ?_
    refine lv_iload_n hx hb dX0_add_19 rfl (lv_at hl 1 rfl) ?_
    obtain ⟨h2, hO⟩ := hO
    refine va_iast hx hb hK hP hD hS 1 0 (f := p_sg pd) (n := 40) (cA := cy 0) rfl rfl h2 dX0_add_20 (fun H locs hP hD hS => ?_)
    have hP : va_P D classes (gwP cy a (p_ct pd, upd (p_sg pd) (Int32.toNatClampNeg (p_ct pd)) s1)) H := hP
    have hD : va_D A (gwP cy a (p_ct pd, upd (p_sg pd) (Int32.toNatClampNeg (p_ct pd)) s1)) := hD
    refine lv_aload_n hx hb dX0_add_21 rfl (lv_at hl 0 rfl) ?_
    refine lv_dup hx hb dX0_add_22 rfl ?_
    refine ct_get (C := RX0) (T := TX0) (N := 2) (ci := 0) (v := .int (p_ct pd)) hM hK hP inX0 0 rfl rfl 0 (by decide) wfl_X0_15 rfl dX0_add_23 ?_
    refine lv_iconst (v := 1) hx hb dX0_add_26 (by decide) ?_
    refine lv_iadd hx hb dX0_add_27 ?_
    refine lv_topi (fun x3 e4 => ?_)
    have hF := lt_n e4.symm hF
    try have hO := lo_n e4.symm hO
    refine ct_put1 (C := RX0) (T := TX0) (N := 2) (ci := 0) (v := .int x3) hM hK hP hD hS inX0 tyX0 tyX0_ok nmX0 0 rfl rfl 0 (by decide) wfl_X0_15 rfl (by first | rfl | decide) (by first | rfl | decide) (Nat.le_of_ble_eq_true rfl) dX0_add_28 (fun H locs hP hD hS => ?_)
    have hP : va_P D classes (gwP cy a (x3, upd (p_sg pd) (Int32.toNatClampNeg (p_ct pd)) s1)) H := hP
    have hD : va_D A (gwP cy a (x3, upd (p_sg pd) (Int32.toNatClampNeg (p_ct pd)) s1)) := hD
    refine lv_iconst (v := 1) hx hb dX0_add_31 (by decide) ?_
    subst hF
    exact ct_zret (r := 1) hM hP hS rfl dX0_add_32
  · have hF := lt_f c1 hF
    have hO := lo_f c1 hO
    refine lv_iconst (v := 0) hx hb dX0_add_9 (by decide) ?_
    subst hF
    exact ct_zret (r := 0) hM hP hS rfl dX0_add_10

abbrev rX0_personAt : Room := { frames := 0, cells := 0, slots := 0, locals := 0 }
def fX0_personAt (pd : tPd) (s1 : Int32) : Int32 := if s1 < 0 then (-6) else (if s1 < p_ct pd then (lt_ ((p_sg pd) (Int32.toNatClampNeg s1) - 65) fun x4 => if x4 < 0 then (-6) else (if 8 ≤ x4 then (-6) else x4)) else (-6))
def oX0_personAt (pd : tPd) (s1 : Int32) : Prop := if s1 < 0 then True else (if s1 < p_ct pd then (vp_in s1 40 ∧ True) else True)
theorem kvX0_personAt : KV yX0_personAt cX0_personAt 3 (some .int) 1 := ⟨wcd_X0_personAt, wim_X0_personAt, wsl_X0_personAt, win_X0, by decide +kernel, by decide +kernel, by decide +kernel⟩
set_option maxHeartbeats 4000000 in
set_option maxRecDepth 100000 in
theorem kX0_personAt (l : Launch) (D : va_G) (cy : Nat → ClassId) (a : Nat → Nat) (pd : tPd) (s1 : Int32) {R : Int32} (hO : oX0_personAt pd s1) (hF : fX0_personAt pd s1 = R) : CT l D cy yX0_personAt cX0_personAt 3 (some .int) rX0_personAt [.ref (a 0), .int s1] (gwP cy a pd) (some (.int R)) (gwP cy a pd) := by
  refine ct_of (by decide) (Nat.le_of_ble_eq_true rfl) ?_
  intro p e s m args below meth c A ls hM hK hP hD hS hl
  obtain ⟨hx, hb, -, hml, hown, hts, -⟩ := id hM
  have hl : lv_has ls 3 [(0, .ref (a 0)), (1, .int s1)] := hl
  obtain ⟨H, hH⟩ : ∃ H : Heap, H = s.heap := ⟨_, rfl⟩
  obtain ⟨locs, hlocs⟩ : ∃ q : List Loc, q = [] := ⟨_, rfl⟩
  have hP : va_P D classes (gwP cy a pd) H := by rw [hH]; exact hP
  have hS : va_S A s.heap H locs := by rw [hH, hlocs]; exact hS
  suffices hg : W p l e rX0_personAt s m args below meth c H locs 0 0 (MQ below (ctQ D (some (.int R)) (gwP cy a pd) A) args s 0 0 A) (F0 m 0 ls []) by rw [hH, hlocs] at hg; exact hg
  clear hH hlocs
  unfold fX0_personAt at hF
  unfold oX0_personAt at hO
  refine lv_iload_n hx hb dX0_personAt_0 rfl (lv_at hl 1 rfl) ?_
  refine lv_if_lt (tgt := 12) hx hb dX0_personAt_1 (by decide) (fun c1 => ?_) (fun c1 => ?_)
  · have hF := lt_t c1 hF
    have hO := lo_t c1 hO
    refine lv_bipush (v := (-6)) hx hb dX0_personAt_12 (by decide) ?_
    subst hF
    exact ct_iret hM hP hS dX0_personAt_14
  · have hF := lt_f c1 hF
    have hO := lo_f c1 hO
    refine lv_iload_n hx hb dX0_personAt_4 rfl (lv_at hl 1 rfl) ?_
    refine lv_aload_n hx hb dX0_personAt_5 rfl (lv_at hl 0 rfl) ?_
    refine ct_get (C := RX0) (T := TX0) (N := 2) (ci := 0) (v := .int (p_ct pd)) hM hK hP inX0 0 rfl rfl 0 (by decide) wfl_X0_15 rfl dX0_personAt_6 ?_
    refine lv_icmp_lt (tgt := 15) hx hb dX0_personAt_9 (by decide) (fun c2 => ?_) (fun c2 => ?_)
    · have hF := lt_t c2 hF
      have hO := lo_t c2 hO
      refine lv_aload_n hx hb dX0_personAt_15 rfl (lv_at hl 0 rfl) ?_
      refine ct_get (C := RX0) (T := TX0) (N := 2) (ci := 0) (v := .ref (a 1)) hM hK hP inX0 0 rfl rfl 1 (by decide) wfl_X0_11 rfl dX0_personAt_16 ?_
      refine lv_iload_n hx hb dX0_personAt_19 rfl (lv_at hl 1 rfl) ?_
      obtain ⟨h3, hO⟩ := hO
      refine va_iald hx hb hK hP 1 0 (f := p_sg pd) (n := 40) (cA := cy 0) rfl rfl h3 dX0_personAt_20 ?_
      refine lv_bipush (v := 65) hx hb dX0_personAt_21 (by decide) ?_
      refine lv_isub hx hb dX0_personAt_23 ?_
      refine lv_topi (fun x4 e5 => ?_)
      have hF := lt_n e5.symm hF
      try have hO := lo_n e5.symm hO
      refine lv_istore_n (lv' := [(2, .int x4), (0, .ref (a 0)), (1, .int s1)]) hx hb dX0_personAt_24 rfl hl (by decide) rfl (fun ls hl => ?_)
      refine lv_iload_n hx hb dX0_personAt_25 rfl (lv_at hl 0 rfl) ?_
      refine lv_if_lt (tgt := 39) hx hb dX0_personAt_26 (by decide) (fun c6 => ?_) (fun c6 => ?_)
      · have hF := lt_t c6 hF
        refine lv_bipush (v := (-6)) hx hb dX0_personAt_39 (by decide) ?_
        subst hF
        exact ct_iret hM hP hS dX0_personAt_41
      · have hF := lt_f c6 hF
        refine lv_iload_n hx hb dX0_personAt_29 rfl (lv_at hl 0 rfl) ?_
        refine lv_bipush (v := 8) hx hb dX0_personAt_30 (by decide) ?_
        refine lv_icmp_ge (tgt := 39) hx hb dX0_personAt_32 (by decide) (fun c7 => ?_) (fun c7 => ?_)
        · have hF := lt_t c7 hF
          refine lv_bipush (v := (-6)) hx hb dX0_personAt_39 (by decide) ?_
          subst hF
          exact ct_iret hM hP hS dX0_personAt_41
        · have hF := lt_f c7 hF
          refine lv_iload_n hx hb dX0_personAt_35 rfl (lv_at hl 0 rfl) ?_
          refine lv_goto (tgt := 41) hx hb dX0_personAt_36 (by decide) ?_
          subst hF
          exact ct_iret hM hP hS dX0_personAt_41
    · have hF := lt_f c2 hF
      have hO := lo_f c2 hO
      refine lv_bipush (v := (-6)) hx hb dX0_personAt_12 (by decide) ?_
      subst hF
      exact ct_iret hM hP hS dX0_personAt_14

abbrev rX0_faultAmong : Room := { frames := 1, cells := 0, slots := 0, locals := 22 }
def fX0_faultAmong_4 (pd : tPd) : Nat → Int32 → Int32 → Int32
  | 0, s2, s3 => 0
  | n + 1, s2, s3 => if p_ct pd ≤ s3 then (-6) else (lt_ (fX0_personAt pd s3) fun q3 => if q3 = (-6) then s3 else (if ((s2 >>> (q3 &&& 31)) &&& 1) = 0 then s3 else (lt_ (s2 &&& ((1 <<< (q3 &&& 31)) ^^^ (-1))) fun x7 => lt_ (s3 + 1) fun x9 => fX0_faultAmong_4 pd n x7 x9)))
def oX0_faultAmong_4 (pd : tPd) : Nat → Int32 → Int32 → Prop
  | 0, _, _ => False
  | n + 1, s2, s3 => if p_ct pd ≤ s3 then True else (oX0_personAt pd s3 ∧ (lo_ (fX0_personAt pd s3) fun q3 => if q3 = (-6) then True else (if ((s2 >>> (q3 &&& 31)) &&& 1) = 0 then True else (lo_ (s2 &&& ((1 <<< (q3 &&& 31)) ^^^ (-1))) fun x7 => lo_ (s3 + 1) fun x9 => oX0_faultAmong_4 pd n x7 x9))))
set_option maxHeartbeats 4000000 in
set_option maxRecDepth 100000 in
theorem tX0_faultAmong_4 {p : Program} {l : Launch} {e : Env} {s : State} {m : MethodId} {args : Array Value} {below : List Frame} {meth : Method} {c : Code} {A : Nat → Prop} {D : va_G} {cy : Nat → ClassId} {a : Nat → Nat} {pd : tPd} {s1 : Int32} {R : Int32} (hM : MC p s m args meth c RX0 cX0_faultAmong 5 (some .int)) (hK : va_K D classes (ctT cy) s) :
    ∀ (n : Nat) (s2 : Int32) (s3 : Int32) (H : Heap) (locs : List Loc) (ls : Array Slot), va_P D classes (gwP cy a pd) H → va_D A (gwP cy a pd) → va_S A s.heap H locs → lv_has ls 5 [(0, .ref (a 0)), (1, .int s1), (2, .int s2), (3, .int s3)] → oX0_faultAmong_4 pd n s2 s3 → fX0_faultAmong_4 pd n s2 s3 = R → W p l e rX0_faultAmong s m args below meth c H locs 0 0 (MQ below (ctQ D (some (.int R)) (gwP cy a pd) A) args s 0 0 A) (F0 m 4 ls []) := by
  obtain ⟨hx, hb, -, hml, hown, hts, -⟩ := id hM
  intro n
  induction n with
  | zero =>
    intro s2 s3 H locs ls hP hD hS hl hO hF
    exact False.elim hO
  | succ n ih =>
    intro s2 s3 H locs ls hP hD hS hl hO hF
    rw [fX0_faultAmong_4] at hF
    rw [oX0_faultAmong_4] at hO
    refine lv_iload_n hx hb dX0_faultAmong_4 rfl (lv_at hl 3 rfl) ?_
    refine lv_aload_n hx hb dX0_faultAmong_5 rfl (lv_at hl 0 rfl) ?_
    refine ct_get (C := RX0) (T := TX0) (N := 2) (ci := 0) (v := .int (p_ct pd)) hM hK hP inX0 0 rfl rfl 0 (by decide) wfl_X0_15 rfl dX0_faultAmong_6 ?_
    refine lv_icmp_ge (tgt := 52) hx hb dX0_faultAmong_9 (by decide) (fun c1 => ?_) (fun c1 => ?_)
    · have hF := lt_t c1 hF
      have hO := lo_t c1 hO
      refine lv_bipush (v := (-6)) hx hb dX0_faultAmong_52 (by decide) ?_
      subst hF
      exact ct_iret hM hP hS dX0_faultAmong_54
    · have hF := lt_f c1 hF
      have hO := lo_f c1 hO
      refine lv_aload_n hx hb dX0_faultAmong_12 rfl (lv_at hl 0 rfl) ?_
      refine lv_iload_n hx hb dX0_faultAmong_13 rfl (lv_at hl 3 rfl) ?_
      obtain ⟨h2, hO⟩ := hO
      obtain ⟨q3, e4⟩ : ∃ q, fX0_personAt pd s3 = q := ⟨_, rfl⟩
      have hF := lt_n e4 hF
      try have hO := lo_n e4 hO
      refine ct_callV (ws' := gwP cy a pd) hM hK hP hD hS (kX0_personAt l D cy a pd s3 h2 e4) kvX0_personAt wml_X0_19 [0, 1] rfl (by decide) rfl rfl rfl 0 rfl rfl rfl rfl hl.1 rfl ⟨rfl, rfl, Nat.le_of_ble_eq_true rfl, Nat.le_of_ble_eq_true rfl⟩ (Nat.le_of_ble_eq_true rfl) ⟨Nat.zero_le _, Nat.zero_le _⟩ dX0_faultAmong_14 (fun H locs hP hD hS => ?_)
      refine W.eq (g2 := F0 m 17 ls [.int q3]) rfl ?_
      refine lv_istore (lv' := [(4, .int q3), (0, .ref (a 0)), (1, .int s1), (2, .int s2), (3, .int s3)]) hx hb dX0_faultAmong_17 hl (by decide) rfl (fun ls hl => ?_)
      refine lv_iload hx hb dX0_faultAmong_19 (lv_at hl 0 rfl) ?_
      refine lv_bipush (v := (-6)) hx hb dX0_faultAmong_21 (by decide) ?_
      refine lv_icmp_eq (tgt := 35) hx hb dX0_faultAmong_23 (by decide) (fun c5 => ?_) (fun c5 => ?_)
      · have hF := lt_t c5 hF
        have hO := lo_t c5 hO
        refine lv_iload_n hx hb dX0_faultAmong_35 rfl (lv_at hl 4 rfl) ?_
        subst hF
        exact ct_iret hM hP hS dX0_faultAmong_36
      · have hF := lt_f c5 hF
        have hO := lo_f c5 hO
        refine lv_iload_n hx hb dX0_faultAmong_26 rfl (lv_at hl 3 rfl) ?_
        refine lv_iload hx hb dX0_faultAmong_27 (lv_at hl 0 rfl) ?_
        refine lv_ishr hx hb dX0_faultAmong_29 ?_
        refine lv_iconst (v := 1) hx hb dX0_faultAmong_30 (by decide) ?_
        refine lv_iand hx hb dX0_faultAmong_31 ?_
        refine lv_if_ne (tgt := 37) hx hb dX0_faultAmong_32 (by decide) (fun c6 => ?_) (fun c6 => ?_)
        · have hF := lt_f c6 hF
          have hO := lo_f c6 hO
          refine lv_iload_n hx hb dX0_faultAmong_37 rfl (lv_at hl 3 rfl) ?_
          refine lv_iconst (v := 1) hx hb dX0_faultAmong_38 (by decide) ?_
          refine lv_iload hx hb dX0_faultAmong_39 (lv_at hl 0 rfl) ?_
          refine lv_ishl hx hb dX0_faultAmong_41 ?_
          refine lv_iconst (v := (-1)) hx hb dX0_faultAmong_42 (by decide) ?_
          refine lv_ixor hx hb dX0_faultAmong_43 ?_
          refine lv_iand hx hb dX0_faultAmong_44 ?_
          refine lv_topi (fun x7 e8 => ?_)
          have hF := lt_n e8.symm hF
          try have hO := lo_n e8.symm hO
          refine lv_istore_n (lv' := [(2, .int x7), (4, .int q3), (0, .ref (a 0)), (1, .int s1), (3, .int s3)]) hx hb dX0_faultAmong_45 rfl hl (by decide) rfl (fun ls hl => ?_)
          obtain ⟨x9, e10⟩ : ∃ y : Int32, s3 + 1 = y := ⟨_, rfl⟩
          have hF := lt_n e10 hF
          try have hO := lo_n e10 hO
          refine lv_iinc (v := x9) (lv' := [(3, .int x9), (2, .int x7), (4, .int q3), (0, .ref (a 0)), (1, .int s1)]) hx hb dX0_faultAmong_46 hl (k := 4) rfl (by rw [← e10]; rfl) (by decide) rfl (fun ls hl => ?_)
          refine lv_goto (tgt := 4) hx hb dX0_faultAmong_49 (by decide) ?_
          exact ih x7 x9 H locs ls hP hD hS (lv_sub hl [3, 4, 1, 0] rfl) hO hF
        · have hF := lt_t c6 hF
          have hO := lo_t c6 hO
          refine lv_iload_n hx hb dX0_faultAmong_35 rfl (lv_at hl 4 rfl) ?_
          subst hF
          exact ct_iret hM hP hS dX0_faultAmong_36

def fX0_faultAmong (pd : tPd) (s1 : Int32) : Int32 := fX0_faultAmong_4 pd 41 s1 0
def oX0_faultAmong (pd : tPd) (s1 : Int32) : Prop := oX0_faultAmong_4 pd 41 s1 0
theorem kvX0_faultAmong : KV yX0_faultAmong cX0_faultAmong 5 (some .int) 1 := ⟨wcd_X0_faultAmong, wim_X0_faultAmong, wsl_X0_faultAmong, win_X0, by decide +kernel, by decide +kernel, by decide +kernel⟩
set_option maxHeartbeats 4000000 in
set_option maxRecDepth 100000 in
theorem kX0_faultAmong (l : Launch) (D : va_G) (cy : Nat → ClassId) (a : Nat → Nat) (pd : tPd) (s1 : Int32) {R : Int32} (hO : oX0_faultAmong pd s1) (hF : fX0_faultAmong pd s1 = R) : CT l D cy yX0_faultAmong cX0_faultAmong 5 (some .int) rX0_faultAmong [.ref (a 0), .int s1] (gwP cy a pd) (some (.int R)) (gwP cy a pd) := by
  refine ct_of (by decide) (Nat.le_of_ble_eq_true rfl) ?_
  intro p e s m args below meth c A ls hM hK hP hD hS hl
  obtain ⟨hx, hb, -, hml, hown, hts, -⟩ := id hM
  have hl : lv_has ls 5 [(0, .ref (a 0)), (1, .int s1)] := hl
  obtain ⟨H, hH⟩ : ∃ H : Heap, H = s.heap := ⟨_, rfl⟩
  obtain ⟨locs, hlocs⟩ : ∃ q : List Loc, q = [] := ⟨_, rfl⟩
  have hP : va_P D classes (gwP cy a pd) H := by rw [hH]; exact hP
  have hS : va_S A s.heap H locs := by rw [hH, hlocs]; exact hS
  suffices hg : W p l e rX0_faultAmong s m args below meth c H locs 0 0 (MQ below (ctQ D (some (.int R)) (gwP cy a pd) A) args s 0 0 A) (F0 m 0 ls []) by rw [hH, hlocs] at hg; exact hg
  clear hH hlocs
  unfold fX0_faultAmong at hF
  unfold oX0_faultAmong at hO
  refine lv_iload_n hx hb dX0_faultAmong_0 rfl (lv_at hl 1 rfl) ?_
  refine lv_istore_n (lv' := [(2, .int s1), (0, .ref (a 0)), (1, .int s1)]) hx hb dX0_faultAmong_1 rfl hl (by decide) rfl (fun ls hl => ?_)
  refine lv_iconst (v := 0) hx hb dX0_faultAmong_2 (by decide) ?_
  refine lv_istore_n (lv' := [(3, .int 0), (2, .int s1), (0, .ref (a 0)), (1, .int s1)]) hx hb dX0_faultAmong_3 rfl hl (by decide) rfl (fun ls hl => ?_)
  exact tX0_faultAmong_4 hM hK 41 s1 0 H locs ls hP hD hS (lv_sub hl [2, 3, 1, 0] rfl) hO hF

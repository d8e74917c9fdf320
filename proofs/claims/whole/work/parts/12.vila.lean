abbrev rX1_setting : Room := { frames := 0, cells := 0, slots := 0, locals := 0 }
def fX1_setting (v : tVl) (s1 : Int32) : Int32 := if s1 < 0 then (-2) else (if 4 ≤ s1 then (-2) else ((v_se v) (Int32.toNatClampNeg s1)))
def oX1_setting (v : tVl) (s1 : Int32) : Prop := if s1 < 0 then True else (if 4 ≤ s1 then True else (vp_in s1 4 ∧ True))
theorem kvX1_setting : KV yX1_setting cX1_setting 2 (some .int) 1 := ⟨wcd_X1_setting, wim_X1_setting, wsl_X1_setting, win_X1, by decide +kernel, by decide +kernel, by decide +kernel⟩
set_option maxHeartbeats 4000000 in
set_option maxRecDepth 100000 in
theorem kX1_setting (l : Launch) (D : va_G) (cy : Nat → ClassId) (a : Nat → Nat) (v : tVl) (s1 : Int32) {R : Int32} (hO : oX1_setting v s1) (hF : fX1_setting v s1 = R) : CT l D cy yX1_setting cX1_setting 2 (some .int) rX1_setting [.ref (a 0), .int s1] (gwV cy a v) (some (.int R)) (gwV cy a v) := by
  refine ct_of (by decide) (Nat.le_of_ble_eq_true rfl) ?_
  intro p e s m args below meth c A ls hM hK hP hD hS hl
  obtain ⟨hx, hb, -, hml, hown, hts, -⟩ := id hM
  have hl : lv_has ls 2 [(0, .ref (a 0)), (1, .int s1)] := hl
  obtain ⟨H, hH⟩ : ∃ H : Heap, H = s.heap := ⟨_, rfl⟩
  obtain ⟨locs, hlocs⟩ : ∃ q : List Loc, q = [] := ⟨_, rfl⟩
  have hP : va_P D classes (gwV cy a v) H := by rw [hH]; exact hP
  have hS : va_S A s.heap H locs := by rw [hH, hlocs]; exact hS
  suffices hg : W p l e rX1_setting s m args below meth c H locs 0 0 (MQ below (ctQ D (some (.int R)) (gwV cy a v) A) args s 0 0 A) (F0 m 0 ls []) by rw [hH, hlocs] at hg; exact hg
  clear hH hlocs
  unfold fX1_setting at hF
  unfold oX1_setting at hO
  refine lv_iload_n hx hb dX1_setting_0 rfl (lv_at hl 1 rfl) ?_
  refine lv_if_lt (tgt := 18) hx hb dX1_setting_1 (by decide) (fun c1 => ?_) (fun c1 => ?_)
  · have hF := lt_t c1 hF
    have hO := lo_t c1 hO
    refine lv_bipush (v := (-2)) hx hb dX1_setting_18 (by decide) ?_
    subst hF
    exact ct_iret hM hP hS dX1_setting_20
  · have hF := lt_f c1 hF
    have hO := lo_f c1 hO
    refine lv_iload_n hx hb dX1_setting_4 rfl (lv_at hl 1 rfl) ?_
    refine lv_iconst (v := 4) hx hb dX1_setting_5 (by decide) ?_
    refine lv_icmp_ge (tgt := 18) hx hb dX1_setting_6 (by decide) (fun c2 => ?_) (fun c2 => ?_)
    · have hF := lt_t c2 hF
      have hO := lo_t c2 hO
      refine lv_bipush (v := (-2)) hx hb dX1_setting_18 (by decide) ?_
      subst hF
      exact ct_iret hM hP hS dX1_setting_20
    · have hF := lt_f c2 hF
      have hO := lo_f c2 hO
      refine lv_aload_n hx hb dX1_setting_9 rfl (lv_at hl 0 rfl) ?_
      refine ct_get (C := RX1) (T := TX1) (N := 6) (ci := 1) (v := .ref (a 5)) hM hK hP inX1 0 rfl rfl 5 (by decide) wfl_X1_25 rfl dX1_setting_10 ?_
      refine lv_iload_n hx hb dX1_setting_13 rfl (lv_at hl 1 rfl) ?_
      obtain ⟨h3, hO⟩ := hO
      refine va_iald hx hb hK hP 5 0 (f := v_se v) (n := 4) (cA := cy 0) rfl rfl h3 dX1_setting_14 ?_
      refine lv_goto (tgt := 20) hx hb dX1_setting_15 (by decide) ?_
      subst hF
      exact ct_iret hM hP hS dX1_setting_20

abbrev rX1_change : Room := { frames := 0, cells := 0, slots := 0, locals := 0 }
def fX1_change (v : tVl) (s1 : Int32) (s2 : Int32) : tVl := if s1 < 0 then v else (if 4 ≤ s1 then v else (v_mi v, v_mn v, v_pa v, v_ca v, upd (v_se v) (Int32.toNatClampNeg s1) s2, v_cm v))
def oX1_change (v : tVl) (s1 : Int32) (s2 : Int32) : Prop := if s1 < 0 then True else (if 4 ≤ s1 then True else (vp_in s1 4 ∧ True))
theorem kvX1_change : KV yX1_change cX1_change 3 none 2 := ⟨wcd_X1_change, wim_X1_change, wsl_X1_change, win_X1, by decide +kernel, by decide +kernel, by decide +kernel⟩
set_option maxHeartbeats 4000000 in
set_option maxRecDepth 100000 in
theorem kX1_change (l : Launch) (D : va_G) (cy : Nat → ClassId) (a : Nat → Nat) (v : tVl) (s1 : Int32) (s2 : Int32) {R : tVl} (hO : oX1_change v s1 s2) (hF : fX1_change v s1 s2 = R) : CT l D cy yX1_change cX1_change 3 none rX1_change [.ref (a 0), .int s1, .int s2] (gwV cy a v) none (gwV cy a R) := by
  refine ct_of (by decide) (Nat.le_of_ble_eq_true rfl) ?_
  intro p e s m args below meth c A ls hM hK hP hD hS hl
  obtain ⟨hx, hb, -, hml, hown, hts, -⟩ := id hM
  have hl : lv_has ls 3 [(0, .ref (a 0)), (1, .int s1), (2, .int s2)] := hl
  obtain ⟨H, hH⟩ : ∃ H : Heap, H = s.heap := ⟨_, rfl⟩
  obtain ⟨locs, hlocs⟩ : ∃ q : List Loc, q = [] := ⟨_, rfl⟩
  have hP : va_P D classes (gwV cy a v) H := by rw [hH]; exact hP
  have hS : va_S A s.heap H locs := by rw [hH, hlocs]; exact hS
  suffices hg : W p l e rX1_change s m args below meth c H locs 0 0 (MQ below (ctQ D none (gwV cy a R) A) args s 0 0 A) (F0 m 0 ls []) by rw [hH, hlocs] at hg; exact hg
  clear hH hlocs
  unfold fX1_change at hF
  unfold oX1_change at hO
  refine lv_iload_n hx hb dX1_change_0 rfl (lv_at hl 1 rfl) ?_
  refine lv_if_lt (tgt := 16) hx hb dX1_change_1 (by decide) (fun c1 => ?_) (fun c1 => ?_)
  · have hF := lt_t c1 hF
    have hO := lo_t c1 hO
    subst hF
    exact ct_vret hM hP hS dX1_change_16
  · have hF := lt_f c1 hF
    have hO := lo_f c1 hO
    refine lv_iload_n hx hb dX1_change_4 rfl (lv_at hl 1 rfl) ?_
    refine lv_iconst (v := 4) hx hb dX1_change_5 (by decide) ?_
    refine lv_icmp_ge (tgt := 16) hx hb dX1_change_6 (by decide) (fun c2 => ?_) (fun c2 => ?_)
    · have hF := lt_t c2 hF
      have hO := lo_t c2 hO
      subst hF
      exact ct_vret hM hP hS dX1_change_16
    · have hF := lt_f c2 hF
      have hO := lo_f c2 hO
      refine lv_aload_n hx hb dX1_change_9 rfl (lv_at hl 0 rfl) ?_
      refine ct_get (C := RX1) (T := TX1) (N := 6) (ci := 1) (v := .ref (a 5)) hM hK hP inX1 0 rfl rfl 5 (by decide) wfl_X1_25 rfl dX1_change_10 ?_
      refine lv_iload_n hx hb dX1_change_13 rfl (lv_at hl 1 rfl) ?_
      refine lv_iload_n hx hb dX1_change_14 rfl (lv_at hl 2 rfl) ?_
      obtain ⟨h3, hO⟩ := hO
      refine va_iast hx hb hK hP hD hS 5 0 (f := v_se v) (n := 4) (cA := cy 0) rfl rfl h3 dX1_change_15 (fun H locs hP hD hS => ?_)
      have hP : va_P D classes (gwV cy a (v_mi v, v_mn v, v_pa v, v_ca v, upd (v_se v) (Int32.toNatClampNeg s1) s2, v_cm v)) H := hP
      have hD : va_D A (gwV cy a (v_mi v, v_mn v, v_pa v, v_ca v, upd (v_se v) (Int32.toNatClampNeg s1) s2, v_cm v)) := hD
      subst hF
      exact ct_vret hM hP hS dX1_change_16

abbrev rX1_comes : Room := { frames := 0, cells := 0, slots := 0, locals := 0 }
def fX1_comes (v : tVl) (s1 : Int32) : Int32 := if s1 < 0 then 0 else (if 8 ≤ s1 then 0 else (if ((v_cm v >>> (s1 &&& 31)) &&& 1) = 0 then 0 else 1))
def oX1_comes (v : tVl) (s1 : Int32) : Prop := True
theorem kvX1_comes : KV yX1_comes cX1_comes 2 (some .boolean) 1 := ⟨wcd_X1_comes, wim_X1_comes, wsl_X1_comes, win_X1, by decide +kernel, by decide +kernel, by decide +kernel⟩
set_option maxHeartbeats 4000000 in
set_option maxRecDepth 100000 in
theorem kX1_comes (l : Launch) (D : va_G) (cy : Nat → ClassId) (a : Nat → Nat) (v : tVl) (s1 : Int32) {R : Int32} (hO : oX1_comes v s1) (hF : fX1_comes v s1 = R) : CT l D cy yX1_comes cX1_comes 2 (some .boolean) rX1_comes [.ref (a 0), .int s1] (gwV cy a v) (some (.int R)) (gwV cy a v) := by
  refine ct_of (by decide) (Nat.le_of_ble_eq_true rfl) ?_
  intro p e s m args below meth c A ls hM hK hP hD hS hl
  obtain ⟨hx, hb, -, hml, hown, hts, -⟩ := id hM
  have hl : lv_has ls 2 [(0, .ref (a 0)), (1, .int s1)] := hl
  obtain ⟨H, hH⟩ : ∃ H : Heap, H = s.heap := ⟨_, rfl⟩
  obtain ⟨locs, hlocs⟩ : ∃ q : List Loc, q = [] := ⟨_, rfl⟩
  have hP : va_P D classes (gwV cy a v) H := by rw [hH]; exact hP
  have hS : va_S A s.heap H locs := by rw [hH, hlocs]; exact hS
  suffices hg : W p l e rX1_comes s m args below meth c H locs 0 0 (MQ below (ctQ D (some (.int R)) (gwV cy a v) A) args s 0 0 A) (F0 m 0 ls []) by rw [hH, hlocs] at hg; exact hg
  clear hH hlocs
  unfold fX1_comes at hF
  unfold oX1_comes at hO
  refine lv_iload_n hx hb dX1_comes_0 rfl (lv_at hl 1 rfl) ?_
  refine lv_if_lt (tgt := 25) hx hb dX1_comes_1 (by decide) (fun c1 => ?_) (fun c1 => ?_)
  · have hF := lt_t c1 hF
    refine lv_iconst (v := 0) hx hb dX1_comes_25 (by decide) ?_
    subst hF
    exact ct_zret (r := 0) hM hP hS rfl dX1_comes_26
  · have hF := lt_f c1 hF
    refine lv_iload_n hx hb dX1_comes_4 rfl (lv_at hl 1 rfl) ?_
    refine lv_bipush (v := 8) hx hb dX1_comes_5 (by decide) ?_
    refine lv_icmp_ge (tgt := 25) hx hb dX1_comes_7 (by decide) (fun c2 => ?_) (fun c2 => ?_)
    · have hF := lt_t c2 hF
      refine lv_iconst (v := 0) hx hb dX1_comes_25 (by decide) ?_
      subst hF
      exact ct_zret (r := 0) hM hP hS rfl dX1_comes_26
    · have hF := lt_f c2 hF
      refine lv_aload_n hx hb dX1_comes_10 rfl (lv_at hl 0 rfl) ?_
      refine ct_get (C := RX1) (T := TX1) (N := 6) (ci := 1) (v := .int (v_cm v)) hM hK hP inX1 0 rfl rfl 4 (by decide) wfl_X1_28 rfl dX1_comes_11 ?_
      refine lv_iload_n hx hb dX1_comes_14 rfl (lv_at hl 1 rfl) ?_
      refine lv_ishr hx hb dX1_comes_15 ?_
      refine lv_iconst (v := 1) hx hb dX1_comes_16 (by decide) ?_
      refine lv_iand hx hb dX1_comes_17 ?_
      refine lv_if_eq (tgt := 25) hx hb dX1_comes_18 (by decide) (fun c3 => ?_) (fun c3 => ?_)
      · have hF := lt_t c3 hF
        refine lv_iconst (v := 0) hx hb dX1_comes_25 (by decide) ?_
        subst hF
        exact ct_zret (r := 0) hM hP hS rfl dX1_comes_26
      · have hF := lt_f c3 hF
        refine lv_iconst (v := 1) hx hb dX1_comes_21 (by decide) ?_
        refine lv_goto (tgt := 26) hx hb dX1_comes_22 (by decide) ?_
        subst hF
        exact ct_zret (r := 1) hM hP hS rfl dX1_comes_26

abbrev rX1_timeToDraw : Room := { frames := 0, cells := 0, slots := 0, locals := 0 }
def fX1_timeToDraw (v : tVl) (s1 : Int32) : Int32 := ((v_se v) (Int32.toNatClampNeg 0) * (v_pa v) (Int32.toNatClampNeg s1))
def oX1_timeToDraw (v : tVl) (s1 : Int32) : Prop := vp_in s1 8 ∧ True
theorem kvX1_timeToDraw : KV yX1_timeToDraw cX1_timeToDraw 2 (some .int) 1 := ⟨wcd_X1_timeToDraw, wim_X1_timeToDraw, wsl_X1_timeToDraw, win_X1, by decide +kernel, by decide +kernel, by decide +kernel⟩
set_option maxHeartbeats 4000000 in
set_option maxRecDepth 100000 in
theorem kX1_timeToDraw (l : Launch) (D : va_G) (cy : Nat → ClassId) (a : Nat → Nat) (v : tVl) (s1 : Int32) {R : Int32} (hO : oX1_timeToDraw v s1) (hF : fX1_timeToDraw v s1 = R) : CT l D cy yX1_timeToDraw cX1_timeToDraw 2 (some .int) rX1_timeToDraw [.ref (a 0), .int s1] (gwV cy a v) (some (.int R)) (gwV cy a v) := by
  refine ct_of (by decide) (Nat.le_of_ble_eq_true rfl) ?_
  intro p e s m args below meth c A ls hM hK hP hD hS hl
  obtain ⟨hx, hb, -, hml, hown, hts, -⟩ := id hM
  have hl : lv_has ls 2 [(0, .ref (a 0)), (1, .int s1)] := hl
  obtain ⟨H, hH⟩ : ∃ H : Heap, H = s.heap := ⟨_, rfl⟩
  obtain ⟨locs, hlocs⟩ : ∃ q : List Loc, q = [] := ⟨_, rfl⟩
  have hP : va_P D classes (gwV cy a v) H := by rw [hH]; exact hP
  have hS : va_S A s.heap H locs := by rw [hH, hlocs]; exact hS
  suffices hg : W p l e rX1_timeToDraw s m args below meth c H locs 0 0 (MQ below (ctQ D (some (.int R)) (gwV cy a v) A) args s 0 0 A) (F0 m 0 ls []) by rw [hH, hlocs] at hg; exact hg
  clear hH hlocs
  unfold fX1_timeToDraw at hF
  unfold oX1_timeToDraw at hO
  refine lv_aload_n hx hb dX1_timeToDraw_0 rfl (lv_at hl 0 rfl) ?_
  refine ct_get (C := RX1) (T := TX1) (N := 6) (ci := 1) (v := .ref (a 5)) hM hK hP inX1 0 rfl rfl 5 (by decide) wfl_X1_25 rfl dX1_timeToDraw_1 ?_
  refine lv_iconst (v := 0) hx hb dX1_timeToDraw_4 (by decide) ?_
  refine va_iald hx hb hK hP 5 0 (f := v_se v) (n := 4) (cA := cy 0) rfl rfl (show ¬ (_ ∨ _) by decide) dX1_timeToDraw_5 ?_
  refine lv_aload_n hx hb dX1_timeToDraw_6 rfl (lv_at hl 0 rfl) ?_
  refine ct_get (C := RX1) (T := TX1) (N := 6) (ci := 1) (v := .ref (a 3)) hM hK hP inX1 0 rfl rfl 2 (by decide) wfl_X1_18 rfl dX1_timeToDraw_7 ?_
  refine lv_iload_n hx hb dX1_timeToDraw_10 rfl (lv_at hl 1 rfl) ?_
  obtain ⟨h1, hO⟩ := hO
  refine va_iald hx hb hK hP 3 0 (f := v_pa v) (n := 8) (cA := cy 0) rfl rfl h1 dX1_timeToDraw_11 ?_
  refine lv_imul hx hb dX1_timeToDraw_12 ?_
  subst hF
  exact ct_iret hM hP hS dX1_timeToDraw_13

abbrev rX1_firstComing : Room := { frames := 0, cells := 0, slots := 0, locals := 0 }
def fX1_firstComing_5 (v : tVl) (s1 : Int32) : Nat → Int32 → Int32 → Int32
  | 0, s2, s3 => 0
  | n + 1, s2, s3 => if 8 ≤ s3 then s2 else (if ((s1 >>> (s3 &&& 31)) &&& 1) = 0 then (lt_ (s3 + 1) fun x3 => fX1_firstComing_5 v s1 n s2 x3) else (if s2 = (-6) then (lt_ ((v_mn v) (Int32.toNatClampNeg s3)) fun x7 => lt_ (s3 + 1) fun x9 => fX1_firstComing_5 v s1 n x7 x9) else (if s2 ≤ (v_mn v) (Int32.toNatClampNeg s3) then (lt_ (s3 + 1) fun x13 => fX1_firstComing_5 v s1 n s2 x13) else (lt_ ((v_mn v) (Int32.toNatClampNeg s3)) fun x15 => lt_ (s3 + 1) fun x17 => fX1_firstComing_5 v s1 n x15 x17))))
def oX1_firstComing_5 (v : tVl) (s1 : Int32) : Nat → Int32 → Int32 → Prop
  | 0, _, _ => False
  | n + 1, s2, s3 => if 8 ≤ s3 then True else (if ((s1 >>> (s3 &&& 31)) &&& 1) = 0 then (lo_ (s3 + 1) fun x3 => oX1_firstComing_5 v s1 n s2 x3) else (if s2 = (-6) then (vp_in s3 8 ∧ (lo_ ((v_mn v) (Int32.toNatClampNeg s3)) fun x7 => lo_ (s3 + 1) fun x9 => oX1_firstComing_5 v s1 n x7 x9)) else (vp_in s3 8 ∧ (if s2 ≤ (v_mn v) (Int32.toNatClampNeg s3) then (lo_ (s3 + 1) fun x13 => oX1_firstComing_5 v s1 n s2 x13) else (lo_ ((v_mn v) (Int32.toNatClampNeg s3)) fun x15 => lo_ (s3 + 1) fun x17 => oX1_firstComing_5 v s1 n x15 x17)))))
set_option maxHeartbeats 4000000 in
set_option maxRecDepth 100000 in
theorem tX1_firstComing_5 {p : Program} {l : Launch} {e : Env} {s : State} {m : MethodId} {args : Array Value} {below : List Frame} {meth : Method} {c : Code} {A : Nat → Prop} {D : va_G} {cy : Nat → ClassId} {a : Nat → Nat} {v : tVl} {s1 : Int32} {R : Int32} (hM : MC p s m args meth c RX1 cX1_firstComing 5 (some .int)) (hK : va_K D classes (ctT cy) s) :
    ∀ (n : Nat) (s2 : Int32) (s3 : Int32) (H : Heap) (locs : List Loc) (ls : Array Slot), va_P D classes (gwV cy a v) H → va_D A (gwV cy a v) → va_S A s.heap H locs → lv_has ls 5 [(0, .ref (a 0)), (1, .int s1), (2, .int s2), (3, .int s3)] → oX1_firstComing_5 v s1 n s2 s3 → fX1_firstComing_5 v s1 n s2 s3 = R → W p l e rX1_firstComing s m args below meth c H locs 0 0 (MQ below (ctQ D (some (.int R)) (gwV cy a v) A) args s 0 0 A) (F0 m 5 ls []) := by
  obtain ⟨hx, hb, -, hml, hown, hts, -⟩ := id hM
  intro n
  induction n with
  | zero =>
    intro s2 s3 H locs ls hP hD hS hl hO hF
    exact False.elim hO
  | succ n ih =>
    intro s2 s3 H locs ls hP hD hS hl hO hF
    rw [fX1_firstComing_5] at hF
    rw [oX1_firstComing_5] at hO
    refine lv_iload_n hx hb dX1_firstComing_5 rfl (lv_at hl 3 rfl) ?_
    refine lv_bipush (v := 8) hx hb dX1_firstComing_6 (by decide) ?_
    refine lv_icmp_ge (tgt := 60) hx hb dX1_firstComing_8 (by decide) (fun c1 => ?_) (fun c1 => ?_)
    · have hF := lt_t c1 hF
      have hO := lo_t c1 hO
      refine lv_iload_n hx hb dX1_firstComing_60 rfl (lv_at hl 2 rfl) ?_
      subst hF
      exact ct_iret hM hP hS dX1_firstComing_61
    · have hF := lt_f c1 hF
      have hO := lo_f c1 hO
      refine lv_iload_n hx hb dX1_firstComing_11 rfl (lv_at hl 1 rfl) ?_
      refine lv_iload_n hx hb dX1_firstComing_12 rfl (lv_at hl 3 rfl) ?_
      refine lv_ishr hx hb dX1_firstComing_13 ?_
      refine lv_iconst (v := 1) hx hb dX1_firstComing_14 (by decide) ?_
      refine lv_iand hx hb dX1_firstComing_15 ?_
      refine lv_if_eq (tgt := 23) hx hb dX1_firstComing_16 (by decide) (fun c2 => ?_) (fun c2 => ?_)
      · have hF := lt_t c2 hF
        have hO := lo_t c2 hO
        refine lv_iconst (v := 0) hx hb dX1_firstComing_23 (by decide) ?_
        refine lv_istore (lv' := [(4, .int 0), (0, .ref (a 0)), (1, .int s1), (2, .int s2), (3, .int s3)]) hx hb dX1_firstComing_24 hl (by decide) rfl (fun ls hl => ?_)
        refine lv_iload hx hb dX1_firstComing_26 (lv_at hl 0 rfl) ?_
        refine lv_if_eq (tgt := 54) hx hb dX1_firstComing_28 (by decide) (fun _ => ?_) (fun z => absurd (by decide) z)
        obtain ⟨x3, e4⟩ : ∃ y : Int32, s3 + 1 = y := ⟨_, rfl⟩
        have hF := lt_n e4 hF
        try have hO := lo_n e4 hO
        refine lv_iinc (v := x3) (lv' := [(3, .int x3), (4, .int 0), (0, .ref (a 0)), (1, .int s1), (2, .int s2)]) hx hb dX1_firstComing_54 hl (k := 4) rfl (by rw [← e4]; rfl) (by decide) rfl (fun ls hl => ?_)
        refine lv_goto (tgt := 5) hx hb dX1_firstComing_57 (by decide) ?_
        exact ih s2 x3 H locs ls hP hD hS (lv_sub hl [2, 3, 4, 0] rfl) hO hF
      · have hF := lt_f c2 hF
        have hO := lo_f c2 hO
        refine lv_iconst (v := 1) hx hb dX1_firstComing_19 (by decide) ?_
        refine lv_goto (tgt := 24) hx hb dX1_firstComing_20 (by decide) ?_
        refine lv_istore (lv' := [(4, .int 1), (0, .ref (a 0)), (1, .int s1), (2, .int s2), (3, .int s3)]) hx hb dX1_firstComing_24 hl (by decide) rfl (fun ls hl => ?_)
        refine lv_iload hx hb dX1_firstComing_26 (lv_at hl 0 rfl) ?_
        refine lv_if_eq (tgt := 54) hx hb dX1_firstComing_28 (by decide) (fun z => absurd z (by decide)) (fun _ => ?_)
        refine lv_iload_n hx hb dX1_firstComing_31 rfl (lv_at hl 3 rfl) ?_
        refine lv_bipush (v := (-6)) hx hb dX1_firstComing_32 (by decide) ?_
        refine lv_icmp_eq (tgt := 47) hx hb dX1_firstComing_34 (by decide) (fun c5 => ?_) (fun c5 => ?_)
        · have hF := lt_t c5 hF
          have hO := lo_t c5 hO
          refine lv_aload_n hx hb dX1_firstComing_47 rfl (lv_at hl 1 rfl) ?_
          refine ct_get (C := RX1) (T := TX1) (N := 6) (ci := 1) (v := .ref (a 2)) hM hK hP inX1 0 rfl rfl 1 (by decide) wfl_X1_15 rfl dX1_firstComing_48 ?_
          refine lv_iload_n hx hb dX1_firstComing_51 rfl (lv_at hl 4 rfl) ?_
          obtain ⟨h6, hO⟩ := hO
          refine va_iald hx hb hK hP 2 0 (f := v_mn v) (n := 8) (cA := cy 0) rfl rfl h6 dX1_firstComing_52 ?_
          refine lv_topi (fun x7 e8 => ?_)
          have hF := lt_n e8.symm hF
          try have hO := lo_n e8.symm hO
          refine lv_istore_n (lv' := [(2, .int x7), (4, .int 1), (0, .ref (a 0)), (1, .int s1), (3, .int s3)]) hx hb dX1_firstComing_53 rfl hl (by decide) rfl (fun ls hl => ?_)
          obtain ⟨x9, e10⟩ : ∃ y : Int32, s3 + 1 = y := ⟨_, rfl⟩
          have hF := lt_n e10 hF
          try have hO := lo_n e10 hO
          refine lv_iinc (v := x9) (lv' := [(3, .int x9), (2, .int x7), (4, .int 1), (0, .ref (a 0)), (1, .int s1)]) hx hb dX1_firstComing_54 hl (k := 4) rfl (by rw [← e10]; rfl) (by decide) rfl (fun ls hl => ?_)
          refine lv_goto (tgt := 5) hx hb dX1_firstComing_57 (by decide) ?_
          exact ih x7 x9 H locs ls hP hD hS (lv_sub hl [3, 4, 1, 0] rfl) hO hF
        · have hF := lt_f c5 hF
          have hO := lo_f c5 hO
          refine lv_aload_n hx hb dX1_firstComing_37 rfl (lv_at hl 1 rfl) ?_
          refine ct_get (C := RX1) (T := TX1) (N := 6) (ci := 1) (v := .ref (a 2)) hM hK hP inX1 0 rfl rfl 1 (by decide) wfl_X1_15 rfl dX1_firstComing_38 ?_
          refine lv_iload_n hx hb dX1_firstComing_41 rfl (lv_at hl 4 rfl) ?_
          obtain ⟨h11, hO⟩ := hO
          refine va_iald hx hb hK hP 2 0 (f := v_mn v) (n := 8) (cA := cy 0) rfl rfl h11 dX1_firstComing_42 ?_
          refine lv_iload_n hx hb dX1_firstComing_43 rfl (lv_at hl 3 rfl) ?_
          refine lv_icmp_ge (tgt := 54) hx hb dX1_firstComing_44 (by decide) (fun c12 => ?_) (fun c12 => ?_)
          · have hF := lt_t c12 hF
            have hO := lo_t c12 hO
            obtain ⟨x13, e14⟩ : ∃ y : Int32, s3 + 1 = y := ⟨_, rfl⟩
            have hF := lt_n e14 hF
            try have hO := lo_n e14 hO
            refine lv_iinc (v := x13) (lv' := [(3, .int x13), (4, .int 1), (0, .ref (a 0)), (1, .int s1), (2, .int s2)]) hx hb dX1_firstComing_54 hl (k := 4) rfl (by rw [← e14]; rfl) (by decide) rfl (fun ls hl => ?_)
            refine lv_goto (tgt := 5) hx hb dX1_firstComing_57 (by decide) ?_
            exact ih s2 x13 H locs ls hP hD hS (lv_sub hl [2, 3, 4, 0] rfl) hO hF
          · have hF := lt_f c12 hF
            have hO := lo_f c12 hO
            refine lv_aload_n hx hb dX1_firstComing_47 rfl (lv_at hl 1 rfl) ?_
            refine ct_get (C := RX1) (T := TX1) (N := 6) (ci := 1) (v := .ref (a 2)) hM hK hP inX1 0 rfl rfl 1 (by decide) wfl_X1_15 rfl dX1_firstComing_48 ?_
            refine lv_iload_n hx hb dX1_firstComing_51 rfl (lv_at hl 4 rfl) ?_
            refine va_iald hx hb hK hP 2 0 (f := v_mn v) (n := 8) (cA := cy 0) rfl rfl h11 dX1_firstComing_52 ?_
            refine lv_topi (fun x15 e16 => ?_)
            have hF := lt_n e16.symm hF
            try have hO := lo_n e16.symm hO
            refine lv_istore_n (lv' := [(2, .int x15), (4, .int 1), (0, .ref (a 0)), (1, .int s1), (3, .int s3)]) hx hb dX1_firstComing_53 rfl hl (by decide) rfl (fun ls hl => ?_)
            obtain ⟨x17, e18⟩ : ∃ y : Int32, s3 + 1 = y := ⟨_, rfl⟩
            have hF := lt_n e18 hF
            try have hO := lo_n e18 hO
            refine lv_iinc (v := x17) (lv' := [(3, .int x17), (2, .int x15), (4, .int 1), (0, .ref (a 0)), (1, .int s1)]) hx hb dX1_firstComing_54 hl (k := 4) rfl (by rw [← e18]; rfl) (by decide) rfl (fun ls hl => ?_)
            refine lv_goto (tgt := 5) hx hb dX1_firstComing_57 (by decide) ?_
            exact ih x15 x17 H locs ls hP hD hS (lv_sub hl [3, 4, 1, 0] rfl) hO hF

def fX1_firstComing (v : tVl) (s1 : Int32) : Int32 := fX1_firstComing_5 v s1 9 (-6) 0
def oX1_firstComing (v : tVl) (s1 : Int32) : Prop := oX1_firstComing_5 v s1 9 (-6) 0
theorem kvX1_firstComing : KV yX1_firstComing cX1_firstComing 5 (some .int) 1 := ⟨wcd_X1_firstComing, wim_X1_firstComing, wsl_X1_firstComing, win_X1, by decide +kernel, by decide +kernel, by decide +kernel⟩
set_option maxHeartbeats 4000000 in
set_option maxRecDepth 100000 in
theorem kX1_firstComing (l : Launch) (D : va_G) (cy : Nat → ClassId) (a : Nat → Nat) (v : tVl) (s1 : Int32) {R : Int32} (hO : oX1_firstComing v s1) (hF : fX1_firstComing v s1 = R) : CT l D cy yX1_firstComing cX1_firstComing 5 (some .int) rX1_firstComing [.ref (a 0), .int s1] (gwV cy a v) (some (.int R)) (gwV cy a v) := by
  refine ct_of (by decide) (Nat.le_of_ble_eq_true rfl) ?_
  intro p e s m args below meth c A ls hM hK hP hD hS hl
  obtain ⟨hx, hb, -, hml, hown, hts, -⟩ := id hM
  have hl : lv_has ls 5 [(0, .ref (a 0)), (1, .int s1)] := hl
  obtain ⟨H, hH⟩ : ∃ H : Heap, H = s.heap := ⟨_, rfl⟩
  obtain ⟨locs, hlocs⟩ : ∃ q : List Loc, q = [] := ⟨_, rfl⟩
  have hP : va_P D classes (gwV cy a v) H := by rw [hH]; exact hP
  have hS : va_S A s.heap H locs := by rw [hH, hlocs]; exact hS
  suffices hg : W p l e rX1_firstComing s m args below meth c H locs 0 0 (MQ below (ctQ D (some (.int R)) (gwV cy a v) A) args s 0 0 A) (F0 m 0 ls []) by rw [hH, hlocs] at hg; exact hg
  clear hH hlocs
  unfold fX1_firstComing at hF
  unfold oX1_firstComing at hO
  refine lv_bipush (v := (-6)) hx hb dX1_firstComing_0 (by decide) ?_
  refine lv_istore_n (lv' := [(2, .int (-6)), (0, .ref (a 0)), (1, .int s1)]) hx hb dX1_firstComing_2 rfl hl (by decide) rfl (fun ls hl => ?_)
  refine lv_iconst (v := 0) hx hb dX1_firstComing_3 (by decide) ?_
  refine lv_istore_n (lv' := [(3, .int 0), (2, .int (-6)), (0, .ref (a 0)), (1, .int s1)]) hx hb dX1_firstComing_4 rfl hl (by decide) rfl (fun ls hl => ?_)
  exact tX1_firstComing_5 hM hK 9 (-6) 0 H locs ls hP hD hS (lv_sub hl [2, 3, 1, 0] rfl) hO hF

abbrev rX1_claimAt : Room := { frames := 0, cells := 0, slots := 0, locals := 0 }
def fX1_claimAt (v : tVl) (s1 : Int32) (s2 : Int32) : Int32 := if (v_se v) (Int32.toNatClampNeg 3) = 1 then (if (v_ca v) (Int32.toNatClampNeg s2) = 0 then (lt_ ((v_mi v) (Int32.toNatClampNeg s2)) fun x7 => (((v_se v) (Int32.toNatClampNeg 1) * x7) + ((v_se v) (Int32.toNatClampNeg 2) * (s1 - (v_mn v) (Int32.toNatClampNeg s2))))) else (lt_ ((v_mi v) (Int32.toNatClampNeg s2) / 2) fun x9 => (((v_se v) (Int32.toNatClampNeg 1) * x9) + ((v_se v) (Int32.toNatClampNeg 2) * (s1 - (v_mn v) (Int32.toNatClampNeg s2)))))) else (lt_ ((v_mi v) (Int32.toNatClampNeg s2)) fun x3 => (((v_se v) (Int32.toNatClampNeg 1) * x3) + ((v_se v) (Int32.toNatClampNeg 2) * (s1 - (v_mn v) (Int32.toNatClampNeg s2)))))
def oX1_claimAt (v : tVl) (s1 : Int32) (s2 : Int32) : Prop := if (v_se v) (Int32.toNatClampNeg 3) = 1 then (vp_in s2 8 ∧ True) else (vp_in s2 8 ∧ True)
theorem kvX1_claimAt : KV yX1_claimAt cX1_claimAt 5 (some .int) 2 := ⟨wcd_X1_claimAt, wim_X1_claimAt, wsl_X1_claimAt, win_X1, by decide +kernel, by decide +kernel, by decide +kernel⟩
set_option maxHeartbeats 4000000 in
set_option maxRecDepth 100000 in
theorem kX1_claimAt (l : Launch) (D : va_G) (cy : Nat → ClassId) (a : Nat → Nat) (v : tVl) (s1 : Int32) (s2 : Int32) {R : Int32} (hO : oX1_claimAt v s1 s2) (hF : fX1_claimAt v s1 s2 = R) : CT l D cy yX1_claimAt cX1_claimAt 5 (some .int) rX1_claimAt [.ref (a 0), .int s1, .int s2] (gwV cy a v) (some (.int R)) (gwV cy a v) := by
  refine ct_of (by decide) (Nat.le_of_ble_eq_true rfl) ?_
  intro p e s m args below meth c A ls hM hK hP hD hS hl
  obtain ⟨hx, hb, -, hml, hown, hts, -⟩ := id hM
  have hl : lv_has ls 5 [(0, .ref (a 0)), (1, .int s1), (2, .int s2)] := hl
  obtain ⟨H, hH⟩ : ∃ H : Heap, H = s.heap := ⟨_, rfl⟩
  obtain ⟨locs, hlocs⟩ : ∃ q : List Loc, q = [] := ⟨_, rfl⟩
  have hP : va_P D classes (gwV cy a v) H := by rw [hH]; exact hP
  have hS : va_S A s.heap H locs := by rw [hH, hlocs]; exact hS
  suffices hg : W p l e rX1_claimAt s m args below meth c H locs 0 0 (MQ below (ctQ D (some (.int R)) (gwV cy a v) A) args s 0 0 A) (F0 m 0 ls []) by rw [hH, hlocs] at hg; exact hg
  clear hH hlocs
  unfold fX1_claimAt at hF
  unfold oX1_claimAt at hO
  refine lv_aload_n hx hb dX1_claimAt_0 rfl (lv_at hl 0 rfl) ?_
  refine ct_get (C := RX1) (T := TX1) (N := 6) (ci := 1) (v := .ref (a 5)) hM hK hP inX1 0 rfl rfl 5 (by decide) wfl_X1_25 rfl dX1_claimAt_1 ?_
  refine lv_iconst (v := 3) hx hb dX1_claimAt_4 (by decide) ?_
  refine va_iald hx hb hK hP 5 0 (f := v_se v) (n := 4) (cA := cy 0) rfl rfl (show ¬ (_ ∨ _) by decide) dX1_claimAt_5 ?_
  refine lv_iconst (v := 1) hx hb dX1_claimAt_6 (by decide) ?_
  refine lv_icmp_ne (tgt := 23) hx hb dX1_claimAt_7 (by decide) (fun c1 => ?_) (fun c1 => ?_)
  · have hF := lt_f c1 hF
    have hO := lo_f c1 hO
    refine lv_iconst (v := 0) hx hb dX1_claimAt_23 (by decide) ?_
    refine lv_istore_n (lv' := [(3, .int 0), (0, .ref (a 0)), (1, .int s1), (2, .int s2)]) hx hb dX1_claimAt_24 rfl hl (by decide) rfl (fun ls hl => ?_)
    refine lv_iload_n hx hb dX1_claimAt_25 rfl (lv_at hl 0 rfl) ?_
    refine lv_if_eq (tgt := 40) hx hb dX1_claimAt_26 (by decide) (fun _ => ?_) (fun z => absurd (by decide) z)
    refine lv_aload_n hx hb dX1_claimAt_40 rfl (lv_at hl 1 rfl) ?_
    refine ct_get (C := RX1) (T := TX1) (N := 6) (ci := 1) (v := .ref (a 1)) hM hK hP inX1 0 rfl rfl 0 (by decide) wfl_X1_9 rfl dX1_claimAt_41 ?_
    refine lv_iload_n hx hb dX1_claimAt_44 rfl (lv_at hl 3 rfl) ?_
    obtain ⟨h2, hO⟩ := hO
    refine va_iald hx hb hK hP 1 0 (f := v_mi v) (n := 8) (cA := cy 0) rfl rfl h2 dX1_claimAt_45 ?_
    refine lv_topi (fun x3 e4 => ?_)
    have hF := lt_n e4.symm hF
    try have hO := lo_n e4.symm hO
    refine lv_istore (lv' := [(4, .int x3), (3, .int 0), (0, .ref (a 0)), (1, .int s1), (2, .int s2)]) hx hb dX1_claimAt_46 hl (by decide) rfl (fun ls hl => ?_)
    refine lv_aload_n hx hb dX1_claimAt_48 rfl (lv_at hl 2 rfl) ?_
    refine ct_get (C := RX1) (T := TX1) (N := 6) (ci := 1) (v := .ref (a 5)) hM hK hP inX1 0 rfl rfl 5 (by decide) wfl_X1_25 rfl dX1_claimAt_49 ?_
    refine lv_iconst (v := 1) hx hb dX1_claimAt_52 (by decide) ?_
    refine va_iald hx hb hK hP 5 0 (f := v_se v) (n := 4) (cA := cy 0) rfl rfl (show ¬ (_ ∨ _) by decide) dX1_claimAt_53 ?_
    refine lv_iload hx hb dX1_claimAt_54 (lv_at hl 0 rfl) ?_
    refine lv_imul hx hb dX1_claimAt_56 ?_
    refine lv_aload_n hx hb dX1_claimAt_57 rfl (lv_at hl 2 rfl) ?_
    refine ct_get (C := RX1) (T := TX1) (N := 6) (ci := 1) (v := .ref (a 5)) hM hK hP inX1 0 rfl rfl 5 (by decide) wfl_X1_25 rfl dX1_claimAt_58 ?_
    refine lv_iconst (v := 2) hx hb dX1_claimAt_61 (by decide) ?_
    refine va_iald hx hb hK hP 5 0 (f := v_se v) (n := 4) (cA := cy 0) rfl rfl (show ¬ (_ ∨ _) by decide) dX1_claimAt_62 ?_
    refine lv_iload_n hx hb dX1_claimAt_63 rfl (lv_at hl 3 rfl) ?_
    refine lv_aload_n hx hb dX1_claimAt_64 rfl (lv_at hl 2 rfl) ?_
    refine ct_get (C := RX1) (T := TX1) (N := 6) (ci := 1) (v := .ref (a 2)) hM hK hP inX1 0 rfl rfl 1 (by decide) wfl_X1_15 rfl dX1_claimAt_65 ?_
    refine lv_iload_n hx hb dX1_claimAt_68 rfl (lv_at hl 4 rfl) ?_
    refine va_iald hx hb hK hP 2 0 (f := v_mn v) (n := 8) (cA := cy 0) rfl rfl h2 dX1_claimAt_69 ?_
    refine lv_isub hx hb dX1_claimAt_70 ?_
    refine lv_imul hx hb dX1_claimAt_71 ?_
    refine lv_iadd hx hb dX1_claimAt_72 ?_
    subst hF
    exact ct_iret hM hP hS dX1_claimAt_73
  · have hF := lt_t c1 hF
    have hO := lo_t c1 hO
    refine lv_aload_n hx hb dX1_claimAt_10 rfl (lv_at hl 0 rfl) ?_
    refine ct_get (C := RX1) (T := TX1) (N := 6) (ci := 1) (v := .ref (a 4)) hM hK hP inX1 0 rfl rfl 3 (by decide) wfl_X1_21 rfl dX1_claimAt_11 ?_
    refine lv_iload_n hx hb dX1_claimAt_14 rfl (lv_at hl 2 rfl) ?_
    obtain ⟨h5, hO⟩ := hO
    refine va_zald hx hb hK hP 4 1 (f := v_ca v) (n := 8) (cA := cy 1) rfl rfl h5 dX1_claimAt_15 ?_
    refine lv_if_eq (tgt := 23) hx hb dX1_claimAt_16 (by decide) (fun c6 => ?_) (fun c6 => ?_)
    · have hF := lt_t c6 hF
      refine lv_iconst (v := 0) hx hb dX1_claimAt_23 (by decide) ?_
      refine lv_istore_n (lv' := [(3, .int 0), (0, .ref (a 0)), (1, .int s1), (2, .int s2)]) hx hb dX1_claimAt_24 rfl hl (by decide) rfl (fun ls hl => ?_)
      refine lv_iload_n hx hb dX1_claimAt_25 rfl (lv_at hl 0 rfl) ?_
      refine lv_if_eq (tgt := 40) hx hb dX1_claimAt_26 (by decide) (fun _ => ?_) (fun z => absurd (by decide) z)
      refine lv_aload_n hx hb dX1_claimAt_40 rfl (lv_at hl 1 rfl) ?_
      refine ct_get (C := RX1) (T := TX1) (N := 6) (ci := 1) (v := .ref (a 1)) hM hK hP inX1 0 rfl rfl 0 (by decide) wfl_X1_9 rfl dX1_claimAt_41 ?_
      refine lv_iload_n hx hb dX1_claimAt_44 rfl (lv_at hl 3 rfl) ?_
      refine va_iald hx hb hK hP 1 0 (f := v_mi v) (n := 8) (cA := cy 0) rfl rfl h5 dX1_claimAt_45 ?_
      refine lv_topi (fun x7 e8 => ?_)
      have hF := lt_n e8.symm hF
      try have hO := lo_n e8.symm hO
      refine lv_istore (lv' := [(4, .int x7), (3, .int 0), (0, .ref (a 0)), (1, .int s1), (2, .int s2)]) hx hb dX1_claimAt_46 hl (by decide) rfl (fun ls hl => ?_)
      refine lv_aload_n hx hb dX1_claimAt_48 rfl (lv_at hl 2 rfl) ?_
      refine ct_get (C := RX1) (T := TX1) (N := 6) (ci := 1) (v := .ref (a 5)) hM hK hP inX1 0 rfl rfl 5 (by decide) wfl_X1_25 rfl dX1_claimAt_49 ?_
      refine lv_iconst (v := 1) hx hb dX1_claimAt_52 (by decide) ?_
      refine va_iald hx hb hK hP 5 0 (f := v_se v) (n := 4) (cA := cy 0) rfl rfl (show ¬ (_ ∨ _) by decide) dX1_claimAt_53 ?_
      refine lv_iload hx hb dX1_claimAt_54 (lv_at hl 0 rfl) ?_
      refine lv_imul hx hb dX1_claimAt_56 ?_
      refine lv_aload_n hx hb dX1_claimAt_57 rfl (lv_at hl 2 rfl) ?_
      refine ct_get (C := RX1) (T := TX1) (N := 6) (ci := 1) (v := .ref (a 5)) hM hK hP inX1 0 rfl rfl 5 (by decide) wfl_X1_25 rfl dX1_claimAt_58 ?_
      refine lv_iconst (v := 2) hx hb dX1_claimAt_61 (by decide) ?_
      refine va_iald hx hb hK hP 5 0 (f := v_se v) (n := 4) (cA := cy 0) rfl rfl (show ¬ (_ ∨ _) by decide) dX1_claimAt_62 ?_
      refine lv_iload_n hx hb dX1_claimAt_63 rfl (lv_at hl 3 rfl) ?_
      refine lv_aload_n hx hb dX1_claimAt_64 rfl (lv_at hl 2 rfl) ?_
      refine ct_get (C := RX1) (T := TX1) (N := 6) (ci := 1) (v := .ref (a 2)) hM hK hP inX1 0 rfl rfl 1 (by decide) wfl_X1_15 rfl dX1_claimAt_65 ?_
      refine lv_iload_n hx hb dX1_claimAt_68 rfl (lv_at hl 4 rfl) ?_
      refine va_iald hx hb hK hP 2 0 (f := v_mn v) (n := 8) (cA := cy 0) rfl rfl h5 dX1_claimAt_69 ?_
      refine lv_isub hx hb dX1_claimAt_70 ?_
      refine lv_imul hx hb dX1_claimAt_71 ?_
      refine lv_iadd hx hb dX1_claimAt_72 ?_
      subst hF
      exact ct_iret hM hP hS dX1_claimAt_73
    · have hF := lt_f c6 hF
      refine lv_iconst (v := 1) hx hb dX1_claimAt_19 (by decide) ?_
      refine lv_goto (tgt := 24) hx hb dX1_claimAt_20 (by decide) ?_
      refine lv_istore_n (lv' := [(3, .int 1), (0, .ref (a 0)), (1, .int s1), (2, .int s2)]) hx hb dX1_claimAt_24 rfl hl (by decide) rfl (fun ls hl => ?_)
      refine lv_iload_n hx hb dX1_claimAt_25 rfl (lv_at hl 0 rfl) ?_
      refine lv_if_eq (tgt := 40) hx hb dX1_claimAt_26 (by decide) (fun z => absurd z (by decide)) (fun _ => ?_)
      refine lv_aload_n hx hb dX1_claimAt_29 rfl (lv_at hl 1 rfl) ?_
      refine ct_get (C := RX1) (T := TX1) (N := 6) (ci := 1) (v := .ref (a 1)) hM hK hP inX1 0 rfl rfl 0 (by decide) wfl_X1_9 rfl dX1_claimAt_30 ?_
      refine lv_iload_n hx hb dX1_claimAt_33 rfl (lv_at hl 3 rfl) ?_
      refine va_iald hx hb hK hP 1 0 (f := v_mi v) (n := 8) (cA := cy 0) rfl rfl h5 dX1_claimAt_34 ?_
      refine lv_iconst (v := 2) hx hb dX1_claimAt_35 (by decide) ?_
      refine lv_idiv hx hb dX1_claimAt_36 (by decide) ?_
      refine lv_goto (tgt := 46) hx hb dX1_claimAt_37 (by decide) ?_
      refine lv_topi (fun x9 e10 => ?_)
      have hF := lt_n e10.symm hF
      try have hO := lo_n e10.symm hO
      refine lv_istore (lv' := [(4, .int x9), (3, .int 1), (0, .ref (a 0)), (1, .int s1), (2, .int s2)]) hx hb dX1_claimAt_46 hl (by decide) rfl (fun ls hl => ?_)
      refine lv_aload_n hx hb dX1_claimAt_48 rfl (lv_at hl 2 rfl) ?_
      refine ct_get (C := RX1) (T := TX1) (N := 6) (ci := 1) (v := .ref (a 5)) hM hK hP inX1 0 rfl rfl 5 (by decide) wfl_X1_25 rfl dX1_claimAt_49 ?_
      refine lv_iconst (v := 1) hx hb dX1_claimAt_52 (by decide) ?_
      refine va_iald hx hb hK hP 5 0 (f := v_se v) (n := 4) (cA := cy 0) rfl rfl (show ¬ (_ ∨ _) by decide) dX1_claimAt_53 ?_
      refine lv_iload hx hb dX1_claimAt_54 (lv_at hl 0 rfl) ?_
      refine lv_imul hx hb dX1_claimAt_56 ?_
      refine lv_aload_n hx hb dX1_claimAt_57 rfl (lv_at hl 2 rfl) ?_
      refine ct_get (C := RX1) (T := TX1) (N := 6) (ci := 1) (v := .ref (a 5)) hM hK hP inX1 0 rfl rfl 5 (by decide) wfl_X1_25 rfl dX1_claimAt_58 ?_
      refine lv_iconst (v := 2) hx hb dX1_claimAt_61 (by decide) ?_
      refine va_iald hx hb hK hP 5 0 (f := v_se v) (n := 4) (cA := cy 0) rfl rfl (show ¬ (_ ∨ _) by decide) dX1_claimAt_62 ?_
      refine lv_iload_n hx hb dX1_claimAt_63 rfl (lv_at hl 3 rfl) ?_
      refine lv_aload_n hx hb dX1_claimAt_64 rfl (lv_at hl 2 rfl) ?_
      refine ct_get (C := RX1) (T := TX1) (N := 6) (ci := 1) (v := .ref (a 2)) hM hK hP inX1 0 rfl rfl 1 (by decide) wfl_X1_15 rfl dX1_claimAt_65 ?_
      refine lv_iload_n hx hb dX1_claimAt_68 rfl (lv_at hl 4 rfl) ?_
      refine va_iald hx hb hK hP 2 0 (f := v_mn v) (n := 8) (cA := cy 0) rfl rfl h5 dX1_claimAt_69 ?_
      refine lv_isub hx hb dX1_claimAt_70 ?_
      refine lv_imul hx hb dX1_claimAt_71 ?_
      refine lv_iadd hx hb dX1_claimAt_72 ?_
      subst hF
      exact ct_iret hM hP hS dX1_claimAt_73

abbrev rX1_goesBefore : Room := { frames := 1, cells := 0, slots := 0, locals := 24 }
def fX1_goesBefore (v : tVl) (s1 : Int32) (s2 : Int32) (s3 : Int32) : Int32 := lt_ (fX1_claimAt v s3 s1) fun q2 => lt_ (fX1_claimAt v s3 s2) fun q5 => if q2 = q5 then (if (v_mn v) (Int32.toNatClampNeg s1) = (v_mn v) (Int32.toNatClampNeg s2) then (if s2 ≤ s1 then 0 else 1) else (if (v_mn v) (Int32.toNatClampNeg s2) ≤ (v_mn v) (Int32.toNatClampNeg s1) then 0 else 1)) else (if q2 ≤ q5 then 0 else 1)
def oX1_goesBefore (v : tVl) (s1 : Int32) (s2 : Int32) (s3 : Int32) : Prop := oX1_claimAt v s3 s1 ∧ (lo_ (fX1_claimAt v s3 s1) fun q2 => oX1_claimAt v s3 s2 ∧ (lo_ (fX1_claimAt v s3 s2) fun q5 => if q2 = q5 then (vp_in s1 8 ∧ vp_in s2 8 ∧ True) else True))
theorem kvX1_goesBefore : KV yX1_goesBefore cX1_goesBefore 6 (some .boolean) 3 := ⟨wcd_X1_goesBefore, wim_X1_goesBefore, wsl_X1_goesBefore, win_X1, by decide +kernel, by decide +kernel, by decide +kernel⟩
set_option maxHeartbeats 4000000 in
set_option maxRecDepth 100000 in
theorem kX1_goesBefore (l : Launch) (D : va_G) (cy : Nat → ClassId) (a : Nat → Nat) (v : tVl) (s1 : Int32) (s2 : Int32) (s3 : Int32) {R : Int32} (hO : oX1_goesBefore v s1 s2 s3) (hF : fX1_goesBefore v s1 s2 s3 = R) : CT l D cy yX1_goesBefore cX1_goesBefore 6 (some .boolean) rX1_goesBefore [.ref (a 0), .int s1, .int s2, .int s3] (gwV cy a v) (some (.int R)) (gwV cy a v) := by
  refine ct_of (by decide) (Nat.le_of_ble_eq_true rfl) ?_
  intro p e s m args below meth c A ls hM hK hP hD hS hl
  obtain ⟨hx, hb, -, hml, hown, hts, -⟩ := id hM
  have hl : lv_has ls 6 [(0, .ref (a 0)), (1, .int s1), (2, .int s2), (3, .int s3)] := hl
  obtain ⟨H, hH⟩ : ∃ H : Heap, H = s.heap := ⟨_, rfl⟩
  obtain ⟨locs, hlocs⟩ : ∃ q : List Loc, q = [] := ⟨_, rfl⟩
  have hP : va_P D classes (gwV cy a v) H := by rw [hH]; exact hP
  have hS : va_S A s.heap H locs := by rw [hH, hlocs]; exact hS
  suffices hg : W p l e rX1_goesBefore s m args below meth c H locs 0 0 (MQ below (ctQ D (some (.int R)) (gwV cy a v) A) args s 0 0 A) (F0 m 0 ls []) by rw [hH, hlocs] at hg; exact hg
  clear hH hlocs
  unfold fX1_goesBefore at hF
  unfold oX1_goesBefore at hO
  refine lv_aload_n hx hb dX1_goesBefore_0 rfl (lv_at hl 0 rfl) ?_
  refine lv_iload_n hx hb dX1_goesBefore_1 rfl (lv_at hl 3 rfl) ?_
  refine lv_iload_n hx hb dX1_goesBefore_2 rfl (lv_at hl 1 rfl) ?_
  obtain ⟨h1, hO⟩ := hO
  obtain ⟨q2, e3⟩ : ∃ q, fX1_claimAt v s3 s1 = q := ⟨_, rfl⟩
  have hF := lt_n e3 hF
  try have hO := lo_n e3 hO
  refine ct_callV (ws' := gwV cy a v) hM hK hP hD hS (kX1_claimAt l D cy a v s3 s1 h1 e3) kvX1_claimAt wml_X1_36 [0, 1, 2, 3, 4, 5] rfl (by decide) rfl rfl rfl 0 rfl rfl rfl rfl hl.1 rfl ⟨rfl, rfl, Nat.le_of_ble_eq_true rfl, Nat.le_of_ble_eq_true rfl⟩ (Nat.le_of_ble_eq_true rfl) ⟨Nat.zero_le _, Nat.zero_le _⟩ dX1_goesBefore_3 (fun H locs hP hD hS => ?_)
  refine W.eq (g2 := F0 m 6 ls [.int q2]) rfl ?_
  refine lv_istore (lv' := [(4, .int q2), (0, .ref (a 0)), (1, .int s1), (2, .int s2), (3, .int s3)]) hx hb dX1_goesBefore_6 hl (by decide) rfl (fun ls hl => ?_)
  refine lv_aload_n hx hb dX1_goesBefore_8 rfl (lv_at hl 1 rfl) ?_
  refine lv_iload_n hx hb dX1_goesBefore_9 rfl (lv_at hl 4 rfl) ?_
  refine lv_iload_n hx hb dX1_goesBefore_10 rfl (lv_at hl 3 rfl) ?_
  obtain ⟨h4, hO⟩ := hO
  obtain ⟨q5, e6⟩ : ∃ q, fX1_claimAt v s3 s2 = q := ⟨_, rfl⟩
  have hF := lt_n e6 hF
  try have hO := lo_n e6 hO
  refine ct_callV (ws' := gwV cy a v) hM hK hP hD hS (kX1_claimAt l D cy a v s3 s2 h4 e6) kvX1_claimAt wml_X1_36 [0, 1, 2, 3, 4, 5] rfl (by decide) rfl rfl rfl 0 rfl rfl rfl rfl hl.1 rfl ⟨rfl, rfl, Nat.le_of_ble_eq_true rfl, Nat.le_of_ble_eq_true rfl⟩ (Nat.le_of_ble_eq_true rfl) ⟨Nat.zero_le _, Nat.zero_le _⟩ dX1_goesBefore_11 (fun H locs hP hD hS => ?_)
  refine W.eq (g2 := F0 m 14 ls [.int q5]) rfl ?_
  refine lv_istore (lv' := [(5, .int q5), (4, .int q2), (0, .ref (a 0)), (1, .int s1), (2, .int s2), (3, .int s3)]) hx hb dX1_goesBefore_14 hl (by decide) rfl (fun ls hl => ?_)
  refine lv_iload hx hb dX1_goesBefore_16 (lv_at hl 1 rfl) ?_
  refine lv_iload hx hb dX1_goesBefore_18 (lv_at hl 0 rfl) ?_
  refine lv_icmp_eq (tgt := 36) hx hb dX1_goesBefore_20 (by decide) (fun c7 => ?_) (fun c7 => ?_)
  · have hF := lt_t c7 hF
    have hO := lo_t c7 hO
    refine lv_aload_n hx hb dX1_goesBefore_36 rfl (lv_at hl 2 rfl) ?_
    refine ct_get (C := RX1) (T := TX1) (N := 6) (ci := 1) (v := .ref (a 2)) hM hK hP inX1 0 rfl rfl 1 (by decide) wfl_X1_15 rfl dX1_goesBefore_37 ?_
    refine lv_iload_n hx hb dX1_goesBefore_40 rfl (lv_at hl 3 rfl) ?_
    obtain ⟨h8, hO⟩ := hO
    refine va_iald hx hb hK hP 2 0 (f := v_mn v) (n := 8) (cA := cy 0) rfl rfl h8 dX1_goesBefore_41 ?_
    refine lv_aload_n hx hb dX1_goesBefore_42 rfl (lv_at hl 2 rfl) ?_
    refine ct_get (C := RX1) (T := TX1) (N := 6) (ci := 1) (v := .ref (a 2)) hM hK hP inX1 0 rfl rfl 1 (by decide) wfl_X1_15 rfl dX1_goesBefore_43 ?_
    refine lv_iload_n hx hb dX1_goesBefore_46 rfl (lv_at hl 4 rfl) ?_
    obtain ⟨h9, hO⟩ := hO
    refine va_iald hx hb hK hP 2 0 (f := v_mn v) (n := 8) (cA := cy 0) rfl rfl h9 dX1_goesBefore_47 ?_
    refine lv_icmp_eq (tgt := 72) hx hb dX1_goesBefore_48 (by decide) (fun c10 => ?_) (fun c10 => ?_)
    · have hF := lt_t c10 hF
      refine lv_iload_n hx hb dX1_goesBefore_72 rfl (lv_at hl 3 rfl) ?_
      refine lv_iload_n hx hb dX1_goesBefore_73 rfl (lv_at hl 4 rfl) ?_
      refine lv_icmp_ge (tgt := 81) hx hb dX1_goesBefore_74 (by decide) (fun c11 => ?_) (fun c11 => ?_)
      · have hF := lt_t c11 hF
        refine lv_iconst (v := 0) hx hb dX1_goesBefore_81 (by decide) ?_
        subst hF
        exact ct_zret (r := 0) hM hP hS rfl dX1_goesBefore_82
      · have hF := lt_f c11 hF
        refine lv_iconst (v := 1) hx hb dX1_goesBefore_77 (by decide) ?_
        refine lv_goto (tgt := 82) hx hb dX1_goesBefore_78 (by decide) ?_
        subst hF
        exact ct_zret (r := 1) hM hP hS rfl dX1_goesBefore_82
    · have hF := lt_f c10 hF
      refine lv_aload_n hx hb dX1_goesBefore_51 rfl (lv_at hl 2 rfl) ?_
      refine ct_get (C := RX1) (T := TX1) (N := 6) (ci := 1) (v := .ref (a 2)) hM hK hP inX1 0 rfl rfl 1 (by decide) wfl_X1_15 rfl dX1_goesBefore_52 ?_
      refine lv_iload_n hx hb dX1_goesBefore_55 rfl (lv_at hl 3 rfl) ?_
      refine va_iald hx hb hK hP 2 0 (f := v_mn v) (n := 8) (cA := cy 0) rfl rfl h8 dX1_goesBefore_56 ?_
      refine lv_aload_n hx hb dX1_goesBefore_57 rfl (lv_at hl 2 rfl) ?_
      refine ct_get (C := RX1) (T := TX1) (N := 6) (ci := 1) (v := .ref (a 2)) hM hK hP inX1 0 rfl rfl 1 (by decide) wfl_X1_15 rfl dX1_goesBefore_58 ?_
      refine lv_iload_n hx hb dX1_goesBefore_61 rfl (lv_at hl 4 rfl) ?_
      refine va_iald hx hb hK hP 2 0 (f := v_mn v) (n := 8) (cA := cy 0) rfl rfl h9 dX1_goesBefore_62 ?_
      refine lv_icmp_ge (tgt := 70) hx hb dX1_goesBefore_63 (by decide) (fun c12 => ?_) (fun c12 => ?_)
      · have hF := lt_t c12 hF
        refine lv_iconst (v := 0) hx hb dX1_goesBefore_70 (by decide) ?_
        subst hF
        exact ct_zret (r := 0) hM hP hS rfl dX1_goesBefore_71
      · have hF := lt_f c12 hF
        refine lv_iconst (v := 1) hx hb dX1_goesBefore_66 (by decide) ?_
        refine lv_goto (tgt := 71) hx hb dX1_goesBefore_67 (by decide) ?_
        subst hF
        exact ct_zret (r := 1) hM hP hS rfl dX1_goesBefore_71
  · have hF := lt_f c7 hF
    have hO := lo_f c7 hO
    refine lv_iload hx hb dX1_goesBefore_23 (lv_at hl 1 rfl) ?_
    refine lv_iload hx hb dX1_goesBefore_25 (lv_at hl 0 rfl) ?_
    refine lv_icmp_le (tgt := 34) hx hb dX1_goesBefore_27 (by decide) (fun c13 => ?_) (fun c13 => ?_)
    · have hF := lt_t c13 hF
      refine lv_iconst (v := 0) hx hb dX1_goesBefore_34 (by decide) ?_
      subst hF
      exact ct_zret (r := 0) hM hP hS rfl dX1_goesBefore_35
    · have hF := lt_f c13 hF
      refine lv_iconst (v := 1) hx hb dX1_goesBefore_30 (by decide) ?_
      refine lv_goto (tgt := 35) hx hb dX1_goesBefore_31 (by decide) ?_
      subst hF
      exact ct_zret (r := 1) hM hP hS rfl dX1_goesBefore_35

abbrev rX3_within : Room := { frames := 0, cells := 0, slots := 0, locals := 0 }
def fX3_within (s0 : Int32) (s1 : Int32) (s2 : Int32) : Int32 := if s0 < s1 then 0 else (if s2 < s0 then 0 else 1)
def oX3_within (s0 : Int32) (s1 : Int32) (s2 : Int32) : Prop := True
theorem kvX3_within : KS yX3_within cX3_within 3 (some .boolean) 3 := ⟨wcd_X3_within, wst_X3_within, win_X3, by decide +kernel, by decide +kernel, by decide +kernel⟩
set_option maxHeartbeats 4000000 in
set_option maxRecDepth 100000 in
theorem kX3_within (l : Launch) (D : va_G) (cy : Nat → ClassId) (s0 : Int32) (s1 : Int32) (s2 : Int32) {R : Int32} (hO : oX3_within s0 s1 s2) (hF : fX3_within s0 s1 s2 = R) : CT l D cy yX3_within cX3_within 3 (some .boolean) rX3_within [.int s0, .int s1, .int s2] ([]) (some (.int R)) ([]) := by
  refine ct_of (by decide) (Nat.le_of_ble_eq_true rfl) ?_
  intro p e s m args below meth c A ls hM hK hP hD hS hl
  obtain ⟨hx, hb, -, hml, hown, hts, -⟩ := id hM
  have hl : lv_has ls 3 [(0, .int s0), (1, .int s1), (2, .int s2)] := hl
  obtain ⟨H, hH⟩ : ∃ H : Heap, H = s.heap := ⟨_, rfl⟩
  obtain ⟨locs, hlocs⟩ : ∃ q : List Loc, q = [] := ⟨_, rfl⟩
  have hP : va_P D classes ([]) H := by rw [hH]; exact hP
  have hS : va_S A s.heap H locs := by rw [hH, hlocs]; exact hS
  suffices hg : W p l e rX3_within s m args below meth c H locs 0 0 (MQ below (ctQ D (some (.int R)) ([]) A) args s 0 0 A) (F0 m 0 ls []) by rw [hH, hlocs] at hg; exact hg
  clear hH hlocs
  unfold fX3_within at hF
  unfold oX3_within at hO
  refine lv_iload_n hx hb dX3_within_0 rfl (lv_at hl 0 rfl) ?_
  refine lv_iload_n hx hb dX3_within_1 rfl (lv_at hl 1 rfl) ?_
  refine lv_icmp_lt (tgt := 14) hx hb dX3_within_2 (by decide) (fun c1 => ?_) (fun c1 => ?_)
  · have hF := lt_t c1 hF
    refine lv_iconst (v := 0) hx hb dX3_within_14 (by decide) ?_
    subst hF
    exact ct_zret (r := 0) hM hP hS rfl dX3_within_15
  · have hF := lt_f c1 hF
    refine lv_iload_n hx hb dX3_within_5 rfl (lv_at hl 0 rfl) ?_
    refine lv_iload_n hx hb dX3_within_6 rfl (lv_at hl 2 rfl) ?_
    refine lv_icmp_gt (tgt := 14) hx hb dX3_within_7 (by decide) (fun c2 => ?_) (fun c2 => ?_)
    · have hF := lt_t c2 hF
      refine lv_iconst (v := 0) hx hb dX3_within_14 (by decide) ?_
      subst hF
      exact ct_zret (r := 0) hM hP hS rfl dX3_within_15
    · have hF := lt_f c2 hF
      refine lv_iconst (v := 1) hx hb dX3_within_10 (by decide) ?_
      refine lv_goto (tgt := 15) hx hb dX3_within_11 (by decide) ?_
      subst hF
      exact ct_zret (r := 1) hM hP hS rfl dX3_within_15

abbrev rX3_better : Room := { frames := 0, cells := 0, slots := 0, locals := 0 }
def fX3_better (s0 : Int32) (s1 : Int32) (s2 : Int32) (s3 : Int32) : Int32 := if s0 < s2 then 1 else (if s0 = s2 then (if s3 ≤ s1 then 0 else 1) else 0)
def oX3_better (s0 : Int32) (s1 : Int32) (s2 : Int32) (s3 : Int32) : Prop := True
theorem kvX3_better : KS yX3_better cX3_better 4 (some .boolean) 4 := ⟨wcd_X3_better, wst_X3_better, win_X3, by decide +kernel, by decide +kernel, by decide +kernel⟩
set_option maxHeartbeats 4000000 in
set_option maxRecDepth 100000 in
theorem kX3_better (l : Launch) (D : va_G) (cy : Nat → ClassId) (s0 : Int32) (s1 : Int32) (s2 : Int32) (s3 : Int32) {R : Int32} (hO : oX3_better s0 s1 s2 s3) (hF : fX3_better s0 s1 s2 s3 = R) : CT l D cy yX3_better cX3_better 4 (some .boolean) rX3_better [.int s0, .int s1, .int s2, .int s3] ([]) (some (.int R)) ([]) := by
  refine ct_of (by decide) (Nat.le_of_ble_eq_true rfl) ?_
  intro p e s m args below meth c A ls hM hK hP hD hS hl
  obtain ⟨hx, hb, -, hml, hown, hts, -⟩ := id hM
  have hl : lv_has ls 4 [(0, .int s0), (1, .int s1), (2, .int s2), (3, .int s3)] := hl
  obtain ⟨H, hH⟩ : ∃ H : Heap, H = s.heap := ⟨_, rfl⟩
  obtain ⟨locs, hlocs⟩ : ∃ q : List Loc, q = [] := ⟨_, rfl⟩
  have hP : va_P D classes ([]) H := by rw [hH]; exact hP
  have hS : va_S A s.heap H locs := by rw [hH, hlocs]; exact hS
  suffices hg : W p l e rX3_better s m args below meth c H locs 0 0 (MQ below (ctQ D (some (.int R)) ([]) A) args s 0 0 A) (F0 m 0 ls []) by rw [hH, hlocs] at hg; exact hg
  clear hH hlocs
  unfold fX3_better at hF
  unfold oX3_better at hO
  refine lv_iload_n hx hb dX3_better_0 rfl (lv_at hl 0 rfl) ?_
  refine lv_iload_n hx hb dX3_better_1 rfl (lv_at hl 2 rfl) ?_
  refine lv_icmp_lt (tgt := 15) hx hb dX3_better_2 (by decide) (fun c1 => ?_) (fun c1 => ?_)
  · have hF := lt_t c1 hF
    refine lv_iconst (v := 1) hx hb dX3_better_15 (by decide) ?_
    refine lv_goto (tgt := 20) hx hb dX3_better_16 (by decide) ?_
    subst hF
    exact ct_zret (r := 1) hM hP hS rfl dX3_better_20
  · have hF := lt_f c1 hF
    refine lv_iload_n hx hb dX3_better_5 rfl (lv_at hl 0 rfl) ?_
    refine lv_iload_n hx hb dX3_better_6 rfl (lv_at hl 2 rfl) ?_
    refine lv_icmp_ne (tgt := 19) hx hb dX3_better_7 (by decide) (fun c2 => ?_) (fun c2 => ?_)
    · have hF := lt_f c2 hF
      refine lv_iconst (v := 0) hx hb dX3_better_19 (by decide) ?_
      subst hF
      exact ct_zret (r := 0) hM hP hS rfl dX3_better_20
    · have hF := lt_t c2 hF
      refine lv_iload_n hx hb dX3_better_10 rfl (lv_at hl 1 rfl) ?_
      refine lv_iload_n hx hb dX3_better_11 rfl (lv_at hl 3 rfl) ?_
      refine lv_icmp_ge (tgt := 19) hx hb dX3_better_12 (by decide) (fun c3 => ?_) (fun c3 => ?_)
      · have hF := lt_t c3 hF
        refine lv_iconst (v := 0) hx hb dX3_better_19 (by decide) ?_
        subst hF
        exact ct_zret (r := 0) hM hP hS rfl dX3_better_20
      · have hF := lt_f c3 hF
        refine lv_iconst (v := 1) hx hb dX3_better_15 (by decide) ?_
        refine lv_goto (tgt := 20) hx hb dX3_better_16 (by decide) ?_
        subst hF
        exact ct_zret (r := 1) hM hP hS rfl dX3_better_20

abbrev rX3_leastOf : Room := { frames := 0, cells := 0, slots := 0, locals := 0 }
def fX3_leastOf (s0 : Int32) : Int32 := if s0 = 0 then 1 else 0
def oX3_leastOf (s0 : Int32) : Prop := True
theorem kvX3_leastOf : KS yX3_leastOf cX3_leastOf 1 (some .int) 1 := ⟨wcd_X3_leastOf, wst_X3_leastOf, win_X3, by decide +kernel, by decide +kernel, by decide +kernel⟩
set_option maxHeartbeats 4000000 in
set_option maxRecDepth 100000 in
theorem kX3_leastOf (l : Launch) (D : va_G) (cy : Nat → ClassId) (s0 : Int32) {R : Int32} (hO : oX3_leastOf s0) (hF : fX3_leastOf s0 = R) : CT l D cy yX3_leastOf cX3_leastOf 1 (some .int) rX3_leastOf [.int s0] ([]) (some (.int R)) ([]) := by
  refine ct_of (by decide) (Nat.le_of_ble_eq_true rfl) ?_
  intro p e s m args below meth c A ls hM hK hP hD hS hl
  obtain ⟨hx, hb, -, hml, hown, hts, -⟩ := id hM
  have hl : lv_has ls 1 [(0, .int s0)] := hl
  obtain ⟨H, hH⟩ : ∃ H : Heap, H = s.heap := ⟨_, rfl⟩
  obtain ⟨locs, hlocs⟩ : ∃ q : List Loc, q = [] := ⟨_, rfl⟩
  have hP : va_P D classes ([]) H := by rw [hH]; exact hP
  have hS : va_S A s.heap H locs := by rw [hH, hlocs]; exact hS
  suffices hg : W p l e rX3_leastOf s m args below meth c H locs 0 0 (MQ below (ctQ D (some (.int R)) ([]) A) args s 0 0 A) (F0 m 0 ls []) by rw [hH, hlocs] at hg; exact hg
  clear hH hlocs
  unfold fX3_leastOf at hF
  unfold oX3_leastOf at hO
  refine lv_iload_n hx hb dX3_leastOf_0 rfl (lv_at hl 0 rfl) ?_
  refine lv_if_ne (tgt := 8) hx hb dX3_leastOf_1 (by decide) (fun c1 => ?_) (fun c1 => ?_)
  · have hF := lt_f c1 hF
    refine lv_iconst (v := 0) hx hb dX3_leastOf_8 (by decide) ?_
    subst hF
    exact ct_iret hM hP hS dX3_leastOf_9
  · have hF := lt_t c1 hF
    refine lv_iconst (v := 1) hx hb dX3_leastOf_4 (by decide) ?_
    refine lv_goto (tgt := 9) hx hb dX3_leastOf_5 (by decide) ?_
    subst hF
    exact ct_iret hM hP hS dX3_leastOf_9

abbrev rX3_mostOf : Room := { frames := 0, cells := 0, slots := 0, locals := 0 }
def fX3_mostOf (s0 : Int32) : Int32 := if s0 = 0 then 20 else (if s0 = 3 then 1 else 9)
def oX3_mostOf (s0 : Int32) : Prop := True
theorem kvX3_mostOf : KS yX3_mostOf cX3_mostOf 1 (some .int) 1 := ⟨wcd_X3_mostOf, wst_X3_mostOf, win_X3, by decide +kernel, by decide +kernel, by decide +kernel⟩
set_option maxHeartbeats 4000000 in
set_option maxRecDepth 100000 in
theorem kX3_mostOf (l : Launch) (D : va_G) (cy : Nat → ClassId) (s0 : Int32) {R : Int32} (hO : oX3_mostOf s0) (hF : fX3_mostOf s0 = R) : CT l D cy yX3_mostOf cX3_mostOf 1 (some .int) rX3_mostOf [.int s0] ([]) (some (.int R)) ([]) := by
  refine ct_of (by decide) (Nat.le_of_ble_eq_true rfl) ?_
  intro p e s m args below meth c A ls hM hK hP hD hS hl
  obtain ⟨hx, hb, -, hml, hown, hts, -⟩ := id hM
  have hl : lv_has ls 1 [(0, .int s0)] := hl
  obtain ⟨H, hH⟩ : ∃ H : Heap, H = s.heap := ⟨_, rfl⟩
  obtain ⟨locs, hlocs⟩ : ∃ q : List Loc, q = [] := ⟨_, rfl⟩
  have hP : va_P D classes ([]) H := by rw [hH]; exact hP
  have hS : va_S A s.heap H locs := by rw [hH, hlocs]; exact hS
  suffices hg : W p l e rX3_mostOf s m args below meth c H locs 0 0 (MQ below (ctQ D (some (.int R)) ([]) A) args s 0 0 A) (F0 m 0 ls []) by rw [hH, hlocs] at hg; exact hg
  clear hH hlocs
  unfold fX3_mostOf at hF
  unfold oX3_mostOf at hO
  refine lv_iload_n hx hb dX3_mostOf_0 rfl (lv_at hl 0 rfl) ?_
  by_cases c1 : s0 = 0
  · have hF := lt_t c1 hF
    refine lv_lookup (off := 27) (tgt := 28) hx hb dX3_mostOf_1 (by decide) (by rw [c1]; rfl) (by decide) ?_
    refine lv_bipush (v := 20) hx hb dX3_mostOf_28 (by decide) ?_
    subst hF
    exact ct_iret hM hP hS dX3_mostOf_30
  · have hF := lt_f c1 hF
    by_cases c2 : s0 = 3
    · have hF := lt_t c2 hF
      refine lv_lookup (off := 30) (tgt := 31) hx hb dX3_mostOf_1 (by decide) (by rw [c2]; rfl) (by decide) ?_
      refine lv_iconst (v := 1) hx hb dX3_mostOf_31 (by decide) ?_
      subst hF
      exact ct_iret hM hP hS dX3_mostOf_32
    · have hF := lt_f c2 hF
      refine lv_lookup (off := 32) (tgt := 33) hx hb dX3_mostOf_1 (by decide) ((lv_osw c1 rfl).trans ((lv_osw c2 rfl).trans rfl)) (by decide) ?_
      refine lv_bipush (v := 9) hx hb dX3_mostOf_33 (by decide) ?_
      subst hF
      exact ct_iret hM hP hS dX3_mostOf_35

abbrev rJ6_bitCount_0f7a4 : Room := { frames := 0, cells := 0, slots := 0, locals := 0 }
def fJ6_bitCount_0f7a4 (s0 : Int32) : Int32 := lt_ (s0 - ((Int32.toUInt32 s0 >>> (Int32.toUInt32 1 &&& Int32.toUInt32 31)).toInt32 &&& 1431655765)) fun x1 => lt_ ((x1 &&& 858993459) + ((Int32.toUInt32 x1 >>> (Int32.toUInt32 2 &&& Int32.toUInt32 31)).toInt32 &&& 858993459)) fun x3 => lt_ ((x3 + (Int32.toUInt32 x3 >>> (Int32.toUInt32 4 &&& Int32.toUInt32 31)).toInt32) &&& 252645135) fun x5 => lt_ (x5 + (Int32.toUInt32 x5 >>> (Int32.toUInt32 8 &&& Int32.toUInt32 31)).toInt32) fun x7 => lt_ (x7 + (Int32.toUInt32 x7 >>> (Int32.toUInt32 16 &&& Int32.toUInt32 31)).toInt32) fun x9 => (x9 &&& 63)
def oJ6_bitCount_0f7a4 (s0 : Int32) : Prop := True
theorem kvJ6_bitCount_0f7a4 : KS yJ6_bitCount_0f7a4 cJ6_bitCount_0f7a4 1 (some .int) 1 := ⟨wcd_J6_bitCount_0f7a4, wst_J6_bitCount_0f7a4, win_J6, by decide +kernel, by decide +kernel, by decide +kernel⟩
set_option maxHeartbeats 4000000 in
set_option maxRecDepth 100000 in
theorem kJ6_bitCount_0f7a4 (l : Launch) (D : va_G) (cy : Nat → ClassId) (s0 : Int32) {R : Int32} (hO : oJ6_bitCount_0f7a4 s0) (hF : fJ6_bitCount_0f7a4 s0 = R) : CT l D cy yJ6_bitCount_0f7a4 cJ6_bitCount_0f7a4 1 (some .int) rJ6_bitCount_0f7a4 [.int s0] ([]) (some (.int R)) ([]) := by
  refine ct_of (by decide) (Nat.le_of_ble_eq_true rfl) ?_
  intro p e s m args below meth c A ls hM hK hP hD hS hl
  obtain ⟨hx, hb, -, hml, hown, hts, -⟩ := id hM
  have hl : lv_has ls 1 [(0, .int s0)] := hl
  obtain ⟨H, hH⟩ : ∃ H : Heap, H = s.heap := ⟨_, rfl⟩
  obtain ⟨locs, hlocs⟩ : ∃ q : List Loc, q = [] := ⟨_, rfl⟩
  have hP : va_P D classes ([]) H := by rw [hH]; exact hP
  have hS : va_S A s.heap H locs := by rw [hH, hlocs]; exact hS
  suffices hg : W p l e rJ6_bitCount_0f7a4 s m args below meth c H locs 0 0 (MQ below (ctQ D (some (.int R)) ([]) A) args s 0 0 A) (F0 m 0 ls []) by rw [hH, hlocs] at hg; exact hg
  clear hH hlocs
  unfold fJ6_bitCount_0f7a4 at hF
  unfold oJ6_bitCount_0f7a4 at hO
  refine lv_iload_n hx hb dJ6_bitCount_0f7a4_0 rfl (lv_at hl 0 rfl) ?_
  refine lv_iload_n hx hb dJ6_bitCount_0f7a4_1 rfl (lv_at hl 0 rfl) ?_
  refine lv_iconst (v := 1) hx hb dJ6_bitCount_0f7a4_2 (by decide) ?_
  refine lv_iushr (v := (Int32.toUInt32 s0 >>> (Int32.toUInt32 1 &&& Int32.toUInt32 31)).toInt32) hx hb dJ6_bitCount_0f7a4_3 rfl ?_
  refine lv_ldcw (v := 1431655765) hx hb hown (hts _ wct_J6_265) dJ6_bitCount_0f7a4_4 ?_
  refine lv_iand hx hb dJ6_bitCount_0f7a4_7 ?_
  refine lv_isub hx hb dJ6_bitCount_0f7a4_8 ?_
  refine lv_topi (fun x1 e2 => ?_)
  have hF := lt_n e2.symm hF
  try have hO := lo_n e2.symm hO
  refine lv_istore_n (lv' := [(0, .int x1)]) hx hb dJ6_bitCount_0f7a4_9 rfl hl (by decide) rfl (fun ls hl => ?_)
  refine lv_iload_n hx hb dJ6_bitCount_0f7a4_10 rfl (lv_at hl 0 rfl) ?_
  refine lv_ldcw (v := 858993459) hx hb hown (hts _ wct_J6_266) dJ6_bitCount_0f7a4_11 ?_
  refine lv_iand hx hb dJ6_bitCount_0f7a4_14 ?_
  refine lv_iload_n hx hb dJ6_bitCount_0f7a4_15 rfl (lv_at hl 0 rfl) ?_
  refine lv_iconst (v := 2) hx hb dJ6_bitCount_0f7a4_16 (by decide) ?_
  refine lv_iushr (v := (Int32.toUInt32 x1 >>> (Int32.toUInt32 2 &&& Int32.toUInt32 31)).toInt32) hx hb dJ6_bitCount_0f7a4_17 rfl ?_
  refine lv_ldcw (v := 858993459) hx hb hown (hts _ wct_J6_266) dJ6_bitCount_0f7a4_18 ?_
  refine lv_iand hx hb dJ6_bitCount_0f7a4_21 ?_
  refine lv_iadd hx hb dJ6_bitCount_0f7a4_22 ?_
  refine lv_topi (fun x3 e4 => ?_)
  have hF := lt_n e4.symm hF
  try have hO := lo_n e4.symm hO
  refine lv_istore_n (lv' := [(0, .int x3)]) hx hb dJ6_bitCount_0f7a4_23 rfl hl (by decide) rfl (fun ls hl => ?_)
  refine lv_iload_n hx hb dJ6_bitCount_0f7a4_24 rfl (lv_at hl 0 rfl) ?_
  refine lv_iload_n hx hb dJ6_bitCount_0f7a4_25 rfl (lv_at hl 0 rfl) ?_
  refine lv_iconst (v := 4) hx hb dJ6_bitCount_0f7a4_26 (by decide) ?_
  refine lv_iushr (v := (Int32.toUInt32 x3 >>> (Int32.toUInt32 4 &&& Int32.toUInt32 31)).toInt32) hx hb dJ6_bitCount_0f7a4_27 rfl ?_
  refine lv_iadd hx hb dJ6_bitCount_0f7a4_28 ?_
  refine lv_ldcw (v := 252645135) hx hb hown (hts _ wct_J6_267) dJ6_bitCount_0f7a4_29 ?_
  refine lv_iand hx hb dJ6_bitCount_0f7a4_32 ?_
  refine lv_topi (fun x5 e6 => ?_)
  have hF := lt_n e6.symm hF
  try have hO := lo_n e6.symm hO
  refine lv_istore_n (lv' := [(0, .int x5)]) hx hb dJ6_bitCount_0f7a4_33 rfl hl (by decide) rfl (fun ls hl => ?_)
  refine lv_iload_n hx hb dJ6_bitCount_0f7a4_34 rfl (lv_at hl 0 rfl) ?_
  refine lv_iload_n hx hb dJ6_bitCount_0f7a4_35 rfl (lv_at hl 0 rfl) ?_
  refine lv_bipush (v := 8) hx hb dJ6_bitCount_0f7a4_36 (by decide) ?_
  refine lv_iushr (v := (Int32.toUInt32 x5 >>> (Int32.toUInt32 8 &&& Int32.toUInt32 31)).toInt32) hx hb dJ6_bitCount_0f7a4_38 rfl ?_
  refine lv_iadd hx hb dJ6_bitCount_0f7a4_39 ?_
  refine lv_topi (fun x7 e8 => ?_)
  have hF := lt_n e8.symm hF
  try have hO := lo_n e8.symm hO
  refine lv_istore_n (lv' := [(0, .int x7)]) hx hb dJ6_bitCount_0f7a4_40 rfl hl (by decide) rfl (fun ls hl => ?_)
  refine lv_iload_n hx hb dJ6_bitCount_0f7a4_41 rfl (lv_at hl 0 rfl) ?_
  refine lv_iload_n hx hb dJ6_bitCount_0f7a4_42 rfl (lv_at hl 0 rfl) ?_
  refine lv_bipush (v := 16) hx hb dJ6_bitCount_0f7a4_43 (by decide) ?_
  refine lv_iushr (v := (Int32.toUInt32 x7 >>> (Int32.toUInt32 16 &&& Int32.toUInt32 31)).toInt32) hx hb dJ6_bitCount_0f7a4_45 rfl ?_
  refine lv_iadd hx hb dJ6_bitCount_0f7a4_46 ?_
  refine lv_topi (fun x9 e10 => ?_)
  have hF := lt_n e10.symm hF
  try have hO := lo_n e10.symm hO
  refine lv_istore_n (lv' := [(0, .int x9)]) hx hb dJ6_bitCount_0f7a4_47 rfl hl (by decide) rfl (fun ls hl => ?_)
  refine lv_iload_n hx hb dJ6_bitCount_0f7a4_48 rfl (lv_at hl 0 rfl) ?_
  refine lv_bipush (v := 63) hx hb dJ6_bitCount_0f7a4_49 (by decide) ?_
  refine lv_iand hx hb dJ6_bitCount_0f7a4_51 ?_
  subst hF
  exact ct_iret hM hP hS dJ6_bitCount_0f7a4_52

abbrev rX4_in : Room := { frames := 0, cells := 0, slots := 0, locals := 0 }
def fX4_in (s0 : Int64) (s2 : Int64) (s4 : Int64) : Int32 := if lg_cmp s0 s2 < 0 then 0 else (if 0 < lg_cmp s0 s4 then 0 else 1)
def oX4_in (s0 : Int64) (s2 : Int64) (s4 : Int64) : Prop := True
theorem kvX4_in : KS yX4_in cX4_in 6 (some .boolean) 3 := ⟨wcd_X4_in, wst_X4_in, win_X4, by decide +kernel, by decide +kernel, by decide +kernel⟩
set_option maxHeartbeats 4000000 in
set_option maxRecDepth 100000 in
theorem kX4_in (l : Launch) (D : va_G) (cy : Nat → ClassId) (s0 : Int64) (s2 : Int64) (s4 : Int64) {R : Int32} (hO : oX4_in s0 s2 s4) (hF : fX4_in s0 s2 s4 = R) : CT l D cy yX4_in cX4_in 6 (some .boolean) rX4_in [.long s0, .long s2, .long s4] ([]) (some (.int R)) ([]) := by
  refine ct_of (by decide) (Nat.le_of_ble_eq_true rfl) ?_
  intro p e s m args below meth c A ls hM hK hP hD hS hl
  obtain ⟨hx, hb, -, hml, hown, hts, -⟩ := id hM
  have hl : lv_has ls 6 [(0, .long s0), (2, .long s2), (4, .long s4)] := hl
  obtain ⟨H, hH⟩ : ∃ H : Heap, H = s.heap := ⟨_, rfl⟩
  obtain ⟨locs, hlocs⟩ : ∃ q : List Loc, q = [] := ⟨_, rfl⟩
  have hP : va_P D classes ([]) H := by rw [hH]; exact hP
  have hS : va_S A s.heap H locs := by rw [hH, hlocs]; exact hS
  suffices hg : W p l e rX4_in s m args below meth c H locs 0 0 (MQ below (ctQ D (some (.int R)) ([]) A) args s 0 0 A) (F0 m 0 ls []) by rw [hH, hlocs] at hg; exact hg
  clear hH hlocs
  unfold fX4_in at hF
  unfold oX4_in at hO
  refine lv_lload_n hx hb dX4_in_0 rfl (lv_at hl 0 rfl) ?_
  refine lv_lload_n hx hb dX4_in_1 rfl (lv_at hl 1 rfl) ?_
  refine W.lcmp hx hb dX4_in_2 ?_
  refine lv_if_lt (tgt := 17) hx hb dX4_in_3 (by decide) (fun c1 => ?_) (fun c1 => ?_)
  · have hF := lt_t c1 hF
    refine lv_iconst (v := 0) hx hb dX4_in_17 (by decide) ?_
    subst hF
    exact ct_zret (r := 0) hM hP hS rfl dX4_in_18
  · have hF := lt_f c1 hF
    refine lv_lload_n hx hb dX4_in_6 rfl (lv_at hl 0 rfl) ?_
    refine lv_lload hx hb dX4_in_7 (lv_at hl 2 rfl) ?_
    refine W.lcmp hx hb dX4_in_9 ?_
    refine lv_if_gt (tgt := 17) hx hb dX4_in_10 (by decide) (fun c2 => ?_) (fun c2 => ?_)
    · have hF := lt_t c2 hF
      refine lv_iconst (v := 0) hx hb dX4_in_17 (by decide) ?_
      subst hF
      exact ct_zret (r := 0) hM hP hS rfl dX4_in_18
    · have hF := lt_f c2 hF
      refine lv_iconst (v := 1) hx hb dX4_in_13 (by decide) ?_
      refine lv_goto (tgt := 18) hx hb dX4_in_14 (by decide) ?_
      subst hF
      exact ct_zret (r := 1) hM hP hS rfl dX4_in_18

abbrev rX4_ones : Room := { frames := 0, cells := 0, slots := 0, locals := 0 }
def fX4_ones_4 : Nat → Int32 → Int32 → Int32
  | 0, s1, s2 => 0
  | n + 1, s1, s2 => if s2 = 0 then s1 else (lt_ (s1 + 1) fun x2 => lt_ (s2 &&& (s2 - 1)) fun x4 => fX4_ones_4 n x2 x4)
def oX4_ones_4 : Nat → Int32 → Int32 → Prop
  | 0, _, _ => False
  | n + 1, s1, s2 => if s2 = 0 then True else (lo_ (s1 + 1) fun x2 => lo_ (s2 &&& (s2 - 1)) fun x4 => oX4_ones_4 n x2 x4)
set_option maxHeartbeats 4000000 in
set_option maxRecDepth 100000 in
theorem tX4_ones_4 {p : Program} {l : Launch} {e : Env} {s : State} {m : MethodId} {args : Array Value} {below : List Frame} {meth : Method} {c : Code} {A : Nat → Prop} {D : va_G} {cy : Nat → ClassId} {s0 : Int32} {R : Int32} (hM : MC p s m args meth c RX4 cX4_ones 3 (some .int)) (hK : va_K D classes (ctT cy) s) :
    ∀ (n : Nat) (s1 : Int32) (s2 : Int32) (H : Heap) (locs : List Loc) (ls : Array Slot), va_P D classes ([]) H → va_D A ([]) → va_S A s.heap H locs → lv_has ls 3 [(0, .int s0), (1, .int s1), (2, .int s2)] → oX4_ones_4 n s1 s2 → fX4_ones_4 n s1 s2 = R → W p l e rX4_ones s m args below meth c H locs 0 0 (MQ below (ctQ D (some (.int R)) ([]) A) args s 0 0 A) (F0 m 4 ls []) := by
  obtain ⟨hx, hb, -, hml, hown, hts, -⟩ := id hM
  intro n
  induction n with
  | zero =>
    intro s1 s2 H locs ls hP hD hS hl hO hF
    exact False.elim hO
  | succ n ih =>
    intro s1 s2 H locs ls hP hD hS hl hO hF
    rw [fX4_ones_4] at hF
    rw [oX4_ones_4] at hO
    refine lv_iload_n hx hb dX4_ones_4 rfl (lv_at hl 2 rfl) ?_
    refine lv_if_eq (tgt := 20) hx hb dX4_ones_5 (by decide) (fun c1 => ?_) (fun c1 => ?_)
    · have hF := lt_t c1 hF
      have hO := lo_t c1 hO
      refine lv_iload_n hx hb dX4_ones_20 rfl (lv_at hl 1 rfl) ?_
      subst hF
      exact ct_iret hM hP hS dX4_ones_21
    · have hF := lt_f c1 hF
      have hO := lo_f c1 hO
      obtain ⟨x2, e3⟩ : ∃ y : Int32, s1 + 1 = y := ⟨_, rfl⟩
      have hF := lt_n e3 hF
      try have hO := lo_n e3 hO
      refine lv_iinc (v := x2) (lv' := [(1, .int x2), (0, .int s0), (2, .int s2)]) hx hb dX4_ones_8 hl (k := 1) rfl (by rw [← e3]; rfl) (by decide) rfl (fun ls hl => ?_)
      refine lv_iload_n hx hb dX4_ones_11 rfl (lv_at hl 2 rfl) ?_
      refine lv_iload_n hx hb dX4_ones_12 rfl (lv_at hl 2 rfl) ?_
      refine lv_iconst (v := 1) hx hb dX4_ones_13 (by decide) ?_
      refine lv_isub hx hb dX4_ones_14 ?_
      refine lv_iand hx hb dX4_ones_15 ?_
      refine lv_topi (fun x4 e5 => ?_)
      have hF := lt_n e5.symm hF
      try have hO := lo_n e5.symm hO
      refine lv_istore_n (lv' := [(2, .int x4), (1, .int x2), (0, .int s0)]) hx hb dX4_ones_16 rfl hl (by decide) rfl (fun ls hl => ?_)
      refine lv_goto (tgt := 4) hx hb dX4_ones_17 (by decide) ?_
      exact ih x2 x4 H locs ls hP hD hS (lv_sub hl [2, 1, 0] rfl) hO hF

def fX4_ones (s0 : Int32) : Int32 := fX4_ones_4 9 0 s0
def oX4_ones (s0 : Int32) : Prop := oX4_ones_4 9 0 s0
theorem kvX4_ones : KS yX4_ones cX4_ones 3 (some .int) 1 := ⟨wcd_X4_ones, wst_X4_ones, win_X4, by decide +kernel, by decide +kernel, by decide +kernel⟩
set_option maxHeartbeats 4000000 in
set_option maxRecDepth 100000 in
theorem kX4_ones (l : Launch) (D : va_G) (cy : Nat → ClassId) (s0 : Int32) {R : Int32} (hO : oX4_ones s0) (hF : fX4_ones s0 = R) : CT l D cy yX4_ones cX4_ones 3 (some .int) rX4_ones [.int s0] ([]) (some (.int R)) ([]) := by
  refine ct_of (by decide) (Nat.le_of_ble_eq_true rfl) ?_
  intro p e s m args below meth c A ls hM hK hP hD hS hl
  obtain ⟨hx, hb, -, hml, hown, hts, -⟩ := id hM
  have hl : lv_has ls 3 [(0, .int s0)] := hl
  obtain ⟨H, hH⟩ : ∃ H : Heap, H = s.heap := ⟨_, rfl⟩
  obtain ⟨locs, hlocs⟩ : ∃ q : List Loc, q = [] := ⟨_, rfl⟩
  have hP : va_P D classes ([]) H := by rw [hH]; exact hP
  have hS : va_S A s.heap H locs := by rw [hH, hlocs]; exact hS
  suffices hg : W p l e rX4_ones s m args below meth c H locs 0 0 (MQ below (ctQ D (some (.int R)) ([]) A) args s 0 0 A) (F0 m 0 ls []) by rw [hH, hlocs] at hg; exact hg
  clear hH hlocs
  unfold fX4_ones at hF
  unfold oX4_ones at hO
  refine lv_iconst (v := 0) hx hb dX4_ones_0 (by decide) ?_
  refine lv_istore_n (lv' := [(1, .int 0), (0, .int s0)]) hx hb dX4_ones_1 rfl hl (by decide) rfl (fun ls hl => ?_)
  refine lv_iload_n hx hb dX4_ones_2 rfl (lv_at hl 1 rfl) ?_
  refine lv_istore_n (lv' := [(2, .int s0), (1, .int 0), (0, .int s0)]) hx hb dX4_ones_3 rfl hl (by decide) rfl (fun ls hl => ?_)
  exact tX4_ones_4 hM hK 9 0 s0 H locs ls hP hD hS (lv_sub hl [2, 1, 0] rfl) hO hF

abbrev rX4_isPerson : Room := { frames := 1, cells := 0, slots := 0, locals := 25 }
def fX4_isPerson (s0 : Int32) : Int32 := lt_ (fX4_in (Int32.toInt64 s0) 0 7) fun q2 => q2
def oX4_isPerson (s0 : Int32) : Prop := lo_ (fX4_in (Int32.toInt64 s0) 0 7) fun q2 => narrow .boolean (.int q2) = .int q2 ∧ True
theorem kvX4_isPerson : KS yX4_isPerson cX4_isPerson 1 (some .boolean) 1 := ⟨wcd_X4_isPerson, wst_X4_isPerson, win_X4, by decide +kernel, by decide +kernel, by decide +kernel⟩
set_option maxHeartbeats 4000000 in
set_option maxRecDepth 100000 in
theorem kX4_isPerson (l : Launch) (D : va_G) (cy : Nat → ClassId) (s0 : Int32) {R : Int32} (hO : oX4_isPerson s0) (hF : fX4_isPerson s0 = R) : CT l D cy yX4_isPerson cX4_isPerson 1 (some .boolean) rX4_isPerson [.int s0] ([]) (some (.int R)) ([]) := by
  refine ct_of (by decide) (Nat.le_of_ble_eq_true rfl) ?_
  intro p e s m args below meth c A ls hM hK hP hD hS hl
  obtain ⟨hx, hb, -, hml, hown, hts, -⟩ := id hM
  have hl : lv_has ls 1 [(0, .int s0)] := hl
  obtain ⟨H, hH⟩ : ∃ H : Heap, H = s.heap := ⟨_, rfl⟩
  obtain ⟨locs, hlocs⟩ : ∃ q : List Loc, q = [] := ⟨_, rfl⟩
  have hP : va_P D classes ([]) H := by rw [hH]; exact hP
  have hS : va_S A s.heap H locs := by rw [hH, hlocs]; exact hS
  suffices hg : W p l e rX4_isPerson s m args below meth c H locs 0 0 (MQ below (ctQ D (some (.int R)) ([]) A) args s 0 0 A) (F0 m 0 ls []) by rw [hH, hlocs] at hg; exact hg
  clear hH hlocs
  unfold fX4_isPerson at hF
  unfold oX4_isPerson at hO
  refine lv_iload_n hx hb dX4_isPerson_0 rfl (lv_at hl 0 rfl) ?_
  refine lv_i2l (v := Int32.toInt64 s0) hx hb dX4_isPerson_1 rfl ?_
  refine lv_lconst (v := 0) hx hb dX4_isPerson_2 rfl ?_
  refine lv_ldc2 (v := 7) hx hb hown (hts _ wct_X4_57) dX4_isPerson_3 ?_
  obtain ⟨q2, e3⟩ : ∃ q, fX4_in (Int32.toInt64 s0) 0 7 = q := ⟨_, rfl⟩
  have hF := lt_n e3 hF
  try have hO := lo_n e3 hO
  refine ct_callS hM hK hP hD hS (kX4_in l D cy (Int32.toInt64 s0) 0 7 trivial e3) kvX4_in wml_X4_59 rfl hl.1 rfl ⟨rfl, rfl, Nat.le_of_ble_eq_true rfl, Nat.le_of_ble_eq_true rfl⟩ (Nat.le_of_ble_eq_true rfl) ⟨Nat.zero_le _, Nat.zero_le _⟩ dX4_isPerson_6 (fun H locs hP hD hS => ?_)
  refine W.eq (g2 := F0 m 9 ls [.int q2]) rfl ?_
  have hP : va_P D classes ([]) H := hP
  have hD : va_D A ([]) := hD
  obtain ⟨h4, hO⟩ := hO
  subst hF
  exact ct_zret (r := q2) hM hP hS h4 dX4_isPerson_9

abbrev rX4_isRow : Room := { frames := 0, cells := 0, slots := 0, locals := 0 }
def fX4_isRow_4 (x : tMs) : Nat → Int32 → Int32 → Int32
  | 0, s1, s2 => 0
  | n + 1, s1, s2 => if m_my x ≤ s2 then s1 else (if s1 = 0 then (lt_ (s2 + 1) fun x4 => fX4_isRow_4 x n 0 x4) else (if (m_or x) (Int32.toNatClampNeg s2) = ((m_pd x) (Int32.toNatClampNeg s2) - 65) then (lt_ (s2 + 1) fun x11 => fX4_isRow_4 x n 1 x11) else (lt_ (s2 + 1) fun x9 => fX4_isRow_4 x n 0 x9)))
def oX4_isRow_4 (x : tMs) : Nat → Int32 → Int32 → Prop
  | 0, _, _ => False
  | n + 1, s1, s2 => if m_my x ≤ s2 then (narrow .boolean (.int s1) = .int s1 ∧ True) else (if s1 = 0 then (lo_ (s2 + 1) fun x4 => oX4_isRow_4 x n 0 x4) else (vp_in s2 8 ∧ vp_in s2 40 ∧ (if (m_or x) (Int32.toNatClampNeg s2) = ((m_pd x) (Int32.toNatClampNeg s2) - 65) then (lo_ (s2 + 1) fun x11 => oX4_isRow_4 x n 1 x11) else (lo_ (s2 + 1) fun x9 => oX4_isRow_4 x n 0 x9))))
set_option maxHeartbeats 4000000 in
set_option maxRecDepth 100000 in
theorem tX4_isRow_4 {p : Program} {l : Launch} {e : Env} {s : State} {m : MethodId} {args : Array Value} {below : List Frame} {meth : Method} {c : Code} {A : Nat → Prop} {D : va_G} {cy : Nat → ClassId} {a : Nat → Nat} {x : tMs} {R : Int32} (hM : MC p s m args meth c RX4 cX4_isRow 3 (some .boolean)) (hK : va_K D classes (ctT cy) s) :
    ∀ (n : Nat) (s1 : Int32) (s2 : Int32) (H : Heap) (locs : List Loc) (ls : Array Slot), va_P D classes (gwM cy a x) H → va_D A (gwM cy a x) → va_S A s.heap H locs → lv_has ls 3 [(0, .ref (a 0)), (1, .int s1), (2, .int s2)] → oX4_isRow_4 x n s1 s2 → fX4_isRow_4 x n s1 s2 = R → W p l e rX4_isRow s m args below meth c H locs 0 0 (MQ below (ctQ D (some (.int R)) (gwM cy a x) A) args s 0 0 A) (F0 m 4 ls []) := by
  obtain ⟨hx, hb, -, hml, hown, hts, -⟩ := id hM
  intro n
  induction n with
  | zero =>
    intro s1 s2 H locs ls hP hD hS hl hO hF
    exact False.elim hO
  | succ n ih =>
    intro s1 s2 H locs ls hP hD hS hl hO hF
    rw [fX4_isRow_4] at hF
    rw [oX4_isRow_4] at hO
    refine lv_iload_n hx hb dX4_isRow_4 rfl (lv_at hl 2 rfl) ?_
    refine lv_aload_n hx hb dX4_isRow_5 rfl (lv_at hl 0 rfl) ?_
    refine ct_get (C := RX4) (T := TX4) (N := 24) (ci := 4) (v := .int (m_my x)) hM hK hP inX4 0 rfl rfl 17 (by decide) wfl_X4_115 rfl dX4_isRow_6 ?_
    refine lv_icmp_ge (tgt := 46) hx hb dX4_isRow_9 (by decide) (fun c1 => ?_) (fun c1 => ?_)
    · have hF := lt_t c1 hF
      have hO := lo_t c1 hO
      refine lv_iload_n hx hb dX4_isRow_46 rfl (lv_at hl 1 rfl) ?_
      obtain ⟨h2, hO⟩ := hO
      subst hF
      exact ct_zret (r := s1) hM hP hS h2 dX4_isRow_47
    · have hF := lt_f c1 hF
      have hO := lo_f c1 hO
      refine lv_iload_n hx hb dX4_isRow_12 rfl (lv_at hl 1 rfl) ?_
      refine lv_if_eq (tgt := 38) hx hb dX4_isRow_13 (by decide) (fun c3 => ?_) (fun c3 => ?_)
      · have hF := lt_t c3 hF
        have hO := lo_t c3 hO
        refine lv_iconst (v := 0) hx hb dX4_isRow_38 (by decide) ?_
        refine lv_istore_n (lv' := [(1, .int 0), (0, .ref (a 0)), (2, .int s2)]) hx hb dX4_isRow_39 rfl hl (by decide) rfl (fun ls hl => ?_)
        obtain ⟨x4, e5⟩ : ∃ y : Int32, s2 + 1 = y := ⟨_, rfl⟩
        have hF := lt_n e5 hF
        try have hO := lo_n e5 hO
        refine lv_iinc (v := x4) (lv' := [(2, .int x4), (1, .int 0), (0, .ref (a 0))]) hx hb dX4_isRow_40 hl (k := 2) rfl (by rw [← e5]; rfl) (by decide) rfl (fun ls hl => ?_)
        refine lv_goto (tgt := 4) hx hb dX4_isRow_43 (by decide) ?_
        exact ih 0 x4 H locs ls hP hD hS (lv_sub hl [2, 1, 0] rfl) hO hF
      · have hF := lt_f c3 hF
        have hO := lo_f c3 hO
        refine lv_aload_n hx hb dX4_isRow_16 rfl (lv_at hl 0 rfl) ?_
        refine ct_get (C := RX4) (T := TX4) (N := 24) (ci := 4) (v := .ref (a 11)) hM hK hP inX4 0 rfl rfl 16 (by decide) wfl_X4_40 rfl dX4_isRow_17 ?_
        refine lv_iload_n hx hb dX4_isRow_20 rfl (lv_at hl 2 rfl) ?_
        obtain ⟨h6, hO⟩ := hO
        refine va_iald hx hb hK hP 11 0 (f := m_or x) (n := 8) (cA := cy 0) rfl rfl h6 dX4_isRow_21 ?_
        refine lv_aload_n hx hb dX4_isRow_22 rfl (lv_at hl 0 rfl) ?_
        refine ct_get (C := RX4) (T := TX4) (N := 24) (ci := 4) (v := .ref (a 5)) hM hK hP inX4 0 rfl rfl 9 (by decide) wfl_X4_22 rfl dX4_isRow_23 ?_
        refine lv_iload_n hx hb dX4_isRow_26 rfl (lv_at hl 2 rfl) ?_
        obtain ⟨h7, hO⟩ := hO
        refine va_iald hx hb hK hP 5 0 (f := m_pd x) (n := 40) (cA := cy 0) rfl rfl h7 dX4_isRow_27 ?_
        refine lv_bipush (v := 65) hx hb dX4_isRow_28 (by decide) ?_
        refine lv_isub hx hb dX4_isRow_30 ?_
        refine lv_icmp_ne (tgt := 38) hx hb dX4_isRow_31 (by decide) (fun c8 => ?_) (fun c8 => ?_)
        · have hF := lt_f c8 hF
          have hO := lo_f c8 hO
          refine lv_iconst (v := 0) hx hb dX4_isRow_38 (by decide) ?_
          refine lv_istore_n (lv' := [(1, .int 0), (0, .ref (a 0)), (2, .int s2)]) hx hb dX4_isRow_39 rfl hl (by decide) rfl (fun ls hl => ?_)
          obtain ⟨x9, e10⟩ : ∃ y : Int32, s2 + 1 = y := ⟨_, rfl⟩
          have hF := lt_n e10 hF
          try have hO := lo_n e10 hO
          refine lv_iinc (v := x9) (lv' := [(2, .int x9), (1, .int 0), (0, .ref (a 0))]) hx hb dX4_isRow_40 hl (k := 2) rfl (by rw [← e10]; rfl) (by decide) rfl (fun ls hl => ?_)
          refine lv_goto (tgt := 4) hx hb dX4_isRow_43 (by decide) ?_
          exact ih 0 x9 H locs ls hP hD hS (lv_sub hl [2, 1, 0] rfl) hO hF
        · have hF := lt_t c8 hF
          have hO := lo_t c8 hO
          refine lv_iconst (v := 1) hx hb dX4_isRow_34 (by decide) ?_
          refine lv_goto (tgt := 39) hx hb dX4_isRow_35 (by decide) ?_
          refine lv_istore_n (lv' := [(1, .int 1), (0, .ref (a 0)), (2, .int s2)]) hx hb dX4_isRow_39 rfl hl (by decide) rfl (fun ls hl => ?_)
          obtain ⟨x11, e12⟩ : ∃ y : Int32, s2 + 1 = y := ⟨_, rfl⟩
          have hF := lt_n e12 hF
          try have hO := lo_n e12 hO
          refine lv_iinc (v := x11) (lv' := [(2, .int x11), (1, .int 1), (0, .ref (a 0))]) hx hb dX4_isRow_40 hl (k := 2) rfl (by rw [← e12]; rfl) (by decide) rfl (fun ls hl => ?_)
          refine lv_goto (tgt := 4) hx hb dX4_isRow_43 (by decide) ?_
          exact ih 1 x11 H locs ls hP hD hS (lv_sub hl [2, 1, 0] rfl) hO hF

def fX4_isRow (x : tMs) : Int32 := fX4_isRow_4 x 9 1 0
def oX4_isRow (x : tMs) : Prop := oX4_isRow_4 x 9 1 0
theorem kvX4_isRow : KV yX4_isRow cX4_isRow 3 (some .boolean) 0 := ⟨wcd_X4_isRow, wim_X4_isRow, wsl_X4_isRow, win_X4, by decide +kernel, by decide +kernel, by decide +kernel⟩
set_option maxHeartbeats 4000000 in
set_option maxRecDepth 100000 in
theorem kX4_isRow (l : Launch) (D : va_G) (cy : Nat → ClassId) (a : Nat → Nat) (x : tMs) {R : Int32} (hO : oX4_isRow x) (hF : fX4_isRow x = R) : CT l D cy yX4_isRow cX4_isRow 3 (some .boolean) rX4_isRow [.ref (a 0)] (gwM cy a x) (some (.int R)) (gwM cy a x) := by
  refine ct_of (by decide) (Nat.le_of_ble_eq_true rfl) ?_
  intro p e s m args below meth c A ls hM hK hP hD hS hl
  obtain ⟨hx, hb, -, hml, hown, hts, -⟩ := id hM
  have hl : lv_has ls 3 [(0, .ref (a 0))] := hl
  obtain ⟨H, hH⟩ : ∃ H : Heap, H = s.heap := ⟨_, rfl⟩
  obtain ⟨locs, hlocs⟩ : ∃ q : List Loc, q = [] := ⟨_, rfl⟩
  have hP : va_P D classes (gwM cy a x) H := by rw [hH]; exact hP
  have hS : va_S A s.heap H locs := by rw [hH, hlocs]; exact hS
  suffices hg : W p l e rX4_isRow s m args below meth c H locs 0 0 (MQ below (ctQ D (some (.int R)) (gwM cy a x) A) args s 0 0 A) (F0 m 0 ls []) by rw [hH, hlocs] at hg; exact hg
  clear hH hlocs
  unfold fX4_isRow at hF
  unfold oX4_isRow at hO
  refine lv_iconst (v := 1) hx hb dX4_isRow_0 (by decide) ?_
  refine lv_istore_n (lv' := [(1, .int 1), (0, .ref (a 0))]) hx hb dX4_isRow_1 rfl hl (by decide) rfl (fun ls hl => ?_)
  refine lv_iconst (v := 0) hx hb dX4_isRow_2 (by decide) ?_
  refine lv_istore_n (lv' := [(2, .int 0), (1, .int 1), (0, .ref (a 0))]) hx hb dX4_isRow_3 rfl hl (by decide) rfl (fun ls hl => ?_)
  exact tX4_isRow_4 hM hK 9 1 0 H locs ls hP hD hS (lv_sub hl [2, 1, 0] rfl) hO hF

abbrev rX4_areAllTold : Room := { frames := 4, cells := 0, slots := 0, locals := 89 }
def fX4_areAllTold (x : tMs) : Int32 := lt_ (fX4_fault x) fun q2 => if 0 ≤ q2 then 0 else (lt_ (fX4_ones (m_co x)) fun q6 => if m_pn x = q6 then 1 else 0)
def oX4_areAllTold (x : tMs) : Prop := oX4_fault x ∧ (lo_ (fX4_fault x) fun q2 => if 0 ≤ q2 then True else (oX4_ones (m_co x) ∧ True))
theorem kvX4_areAllTold : KV yX4_areAllTold cX4_areAllTold 1 (some .boolean) 0 := ⟨wcd_X4_areAllTold, wim_X4_areAllTold, wsl_X4_areAllTold, win_X4, by decide +kernel, by decide +kernel, by decide +kernel⟩
set_option maxHeartbeats 4000000 in
set_option maxRecDepth 100000 in
theorem kX4_areAllTold (l : Launch) (D : va_G) (cy : Nat → ClassId) (a : Nat → Nat) (x : tMs) {R : Int32} (hO : oX4_areAllTold x) (hF : fX4_areAllTold x = R) : CT l D cy yX4_areAllTold cX4_areAllTold 1 (some .boolean) rX4_areAllTold [.ref (a 0)] (gwM cy a x) (some (.int R)) (gwM cy a x) := by
  refine ct_of (by decide) (Nat.le_of_ble_eq_true rfl) ?_
  intro p e s m args below meth c A ls hM hK hP hD hS hl
  obtain ⟨hx, hb, -, hml, hown, hts, -⟩ := id hM
  have hl : lv_has ls 1 [(0, .ref (a 0))] := hl
  obtain ⟨H, hH⟩ : ∃ H : Heap, H = s.heap := ⟨_, rfl⟩
  obtain ⟨locs, hlocs⟩ : ∃ q : List Loc, q = [] := ⟨_, rfl⟩
  have hP : va_P D classes (gwM cy a x) H := by rw [hH]; exact hP
  have hS : va_S A s.heap H locs := by rw [hH, hlocs]; exact hS
  suffices hg : W p l e rX4_areAllTold s m args below meth c H locs 0 0 (MQ below (ctQ D (some (.int R)) (gwM cy a x) A) args s 0 0 A) (F0 m 0 ls []) by rw [hH, hlocs] at hg; exact hg
  clear hH hlocs
  unfold fX4_areAllTold at hF
  unfold oX4_areAllTold at hO
  refine lv_aload_n hx hb dX4_areAllTold_0 rfl (lv_at hl 0 rfl) ?_
  obtain ⟨h1, hO⟩ := hO
  obtain ⟨q2, e3⟩ : ∃ q, fX4_fault x = q := ⟨_, rfl⟩
  have hF := lt_n e3 hF
  try have hO := lo_n e3 hO
  refine ct_callF hM hK hP hD hS (kX4_fault l D cy a x h1 e3) kvX4_fault wml_X4_144 rfl 0 rfl rfl rfl rfl hl.1 rfl ⟨rfl, rfl, Nat.le_of_ble_eq_true rfl, Nat.le_of_ble_eq_true rfl⟩ (Nat.le_of_ble_eq_true rfl) ⟨Nat.zero_le _, Nat.zero_le _⟩ dX4_areAllTold_1 (fun H locs hP hD hS => ?_)
  refine W.eq (g2 := F0 m 4 ls [.int q2]) rfl ?_
  refine lv_if_ge (tgt := 25) hx hb dX4_areAllTold_4 (by decide) (fun c4 => ?_) (fun c4 => ?_)
  · have hF := lt_t c4 hF
    have hO := lo_t c4 hO
    refine lv_iconst (v := 0) hx hb dX4_areAllTold_25 (by decide) ?_
    subst hF
    exact ct_zret (r := 0) hM hP hS rfl dX4_areAllTold_26
  · have hF := lt_f c4 hF
    have hO := lo_f c4 hO
    refine lv_aload_n hx hb dX4_areAllTold_7 rfl (lv_at hl 0 rfl) ?_
    refine ct_get (C := RX4) (T := TX4) (N := 24) (ci := 4) (v := .int (m_pn x)) hM hK hP inX4 0 rfl rfl 10 (by decide) wfl_X4_97 rfl dX4_areAllTold_8 ?_
    refine lv_aload_n hx hb dX4_areAllTold_11 rfl (lv_at hl 0 rfl) ?_
    refine ct_get (C := RX4) (T := TX4) (N := 24) (ci := 4) (v := .int (m_co x)) hM hK hP inX4 0 rfl rfl 0 (by decide) wfl_X4_67 rfl dX4_areAllTold_12 ?_
    obtain ⟨h5, hO⟩ := hO
    obtain ⟨q6, e7⟩ : ∃ q, fX4_ones (m_co x) = q := ⟨_, rfl⟩
    have hF := lt_n e7 hF
    try have hO := lo_n e7 hO
    refine ct_callS hM hK hP hD hS (kX4_ones l D cy (m_co x) h5 e7) kvX4_ones wml_X4_76 rfl hl.1 rfl ⟨rfl, rfl, Nat.le_of_ble_eq_true rfl, Nat.le_of_ble_eq_true rfl⟩ (Nat.le_of_ble_eq_true rfl) ⟨Nat.zero_le _, Nat.zero_le _⟩ dX4_areAllTold_15 (fun H locs hP hD hS => ?_)
    refine W.eq (g2 := F0 m 18 ls [.int q6, .int (m_pn x)]) rfl ?_
    have hP : va_P D classes (gwM cy a x) H := hP
    have hD : va_D A (gwM cy a x) := hD
    refine lv_icmp_ne (tgt := 25) hx hb dX4_areAllTold_18 (by decide) (fun c8 => ?_) (fun c8 => ?_)
    · have hF := lt_f c8 hF
      refine lv_iconst (v := 0) hx hb dX4_areAllTold_25 (by decide) ?_
      subst hF
      exact ct_zret (r := 0) hM hP hS rfl dX4_areAllTold_26
    · have hF := lt_t c8 hF
      refine lv_iconst (v := 1) hx hb dX4_areAllTold_21 (by decide) ?_
      refine lv_goto (tgt := 26) hx hb dX4_areAllTold_22 (by decide) ?_
      subst hF
      exact ct_zret (r := 1) hM hP hS rfl dX4_areAllTold_26

abbrev rX4_isRowBy : Room := { frames := 4, cells := 0, slots := 0, locals := 99 }
def fX4_isRowBy (x : tMs) (s1 : Int32) (s2 : Int32) : Int32 × tMs := lt_ (fX4_layNow x) fun q2 => lt_ (fX4_go (m_co q2, m_mi q2, m_mn q2, m_pa q2, m_ca q2, m_dr q2, m_fa q2, m_st q2, m_ha q2, m_pd q2, m_pn q2, upd (m_fr q2) (Int32.toNatClampNeg s1) s2, m_at q2, m_wa q2, m_en q2, m_to q2, m_or q2, m_my q2, m_bf q2, m_bs q2, m_kp q2, m_ik q2, m_ka q2, m_iw q2) (m_co q2) 99) fun q6 => lt_ (fX4_isRow q6) fun q9 => (q9, q6)
def oX4_isRowBy (x : tMs) (s1 : Int32) (s2 : Int32) : Prop := oX4_layNow x ∧ (lo_ (fX4_layNow x) fun q2 => vp_in s1 8 ∧ oX4_go (m_co q2, m_mi q2, m_mn q2, m_pa q2, m_ca q2, m_dr q2, m_fa q2, m_st q2, m_ha q2, m_pd q2, m_pn q2, upd (m_fr q2) (Int32.toNatClampNeg s1) s2, m_at q2, m_wa q2, m_en q2, m_to q2, m_or q2, m_my q2, m_bf q2, m_bs q2, m_kp q2, m_ik q2, m_ka q2, m_iw q2) (m_co q2) 99 ∧ (lo_ (fX4_go (m_co q2, m_mi q2, m_mn q2, m_pa q2, m_ca q2, m_dr q2, m_fa q2, m_st q2, m_ha q2, m_pd q2, m_pn q2, upd (m_fr q2) (Int32.toNatClampNeg s1) s2, m_at q2, m_wa q2, m_en q2, m_to q2, m_or q2, m_my q2, m_bf q2, m_bs q2, m_kp q2, m_ik q2, m_ka q2, m_iw q2) (m_co q2) 99) fun q6 => oX4_isRow q6 ∧ (lo_ (fX4_isRow q6) fun q9 => narrow .boolean (.int q9) = .int q9 ∧ True)))
theorem kvX4_isRowBy : KV yX4_isRowBy cX4_isRowBy 3 (some .boolean) 2 := ⟨wcd_X4_isRowBy, wim_X4_isRowBy, wsl_X4_isRowBy, win_X4, by decide +kernel, by decide +kernel, by decide +kernel⟩
set_option maxHeartbeats 4000000 in
set_option maxRecDepth 100000 in
theorem kX4_isRowBy (l : Launch) (D : va_G) (cy : Nat → ClassId) (a : Nat → Nat) (x : tMs) (s1 : Int32) (s2 : Int32) {R : Int32 × tMs} (hO : oX4_isRowBy x s1 s2) (hF : fX4_isRowBy x s1 s2 = R) : CT l D cy yX4_isRowBy cX4_isRowBy 3 (some .boolean) rX4_isRowBy [.ref (a 0), .int s1, .int s2] (gwM cy a x) (some (.int R.1)) (gwM cy a R.2) := by
  refine ct_of (by decide) (Nat.le_of_ble_eq_true rfl) ?_
  intro p e s m args below meth c A ls hM hK hP hD hS hl
  obtain ⟨hx, hb, -, hml, hown, hts, -⟩ := id hM
  have hl : lv_has ls 3 [(0, .ref (a 0)), (1, .int s1), (2, .int s2)] := hl
  obtain ⟨H, hH⟩ : ∃ H : Heap, H = s.heap := ⟨_, rfl⟩
  obtain ⟨locs, hlocs⟩ : ∃ q : List Loc, q = [] := ⟨_, rfl⟩
  have hP : va_P D classes (gwM cy a x) H := by rw [hH]; exact hP
  have hS : va_S A s.heap H locs := by rw [hH, hlocs]; exact hS
  suffices hg : W p l e rX4_isRowBy s m args below meth c H locs 0 0 (MQ below (ctQ D (some (.int R.1)) (gwM cy a R.2) A) args s 0 0 A) (F0 m 0 ls []) by rw [hH, hlocs] at hg; exact hg
  clear hH hlocs
  unfold fX4_isRowBy at hF
  unfold oX4_isRowBy at hO
  refine lv_aload_n hx hb dX4_isRowBy_0 rfl (lv_at hl 0 rfl) ?_
  obtain ⟨h1, hO⟩ := hO
  obtain ⟨q2, e3⟩ : ∃ q, fX4_layNow x = q := ⟨_, rfl⟩
  have hF := lt_n e3 hF
  try have hO := lo_n e3 hO
  refine ct_callF hM hK hP hD hS (kX4_layNow l D cy a x h1 e3) kvX4_layNow wml_X4_124 rfl 0 rfl rfl rfl rfl hl.1 rfl ⟨rfl, rfl, Nat.le_of_ble_eq_true rfl, Nat.le_of_ble_eq_true rfl⟩ (Nat.le_of_ble_eq_true rfl) ⟨Nat.zero_le _, Nat.zero_le _⟩ dX4_isRowBy_1 (fun H locs hP hD hS => ?_)
  refine W.eq (g2 := F0 m 4 ls []) rfl ?_
  have hP : va_P D classes (gwM cy a q2) H := hP
  have hD : va_D A (gwM cy a q2) := hD
  refine lv_aload_n hx hb dX4_isRowBy_4 rfl (lv_at hl 0 rfl) ?_
  refine ct_get (C := RX4) (T := TX4) (N := 24) (ci := 4) (v := .ref (a 6)) hM hK hP inX4 0 rfl rfl 11 (by decide) wfl_X4_25 rfl dX4_isRowBy_5 ?_
  refine lv_iload_n hx hb dX4_isRowBy_8 rfl (lv_at hl 1 rfl) ?_
  refine lv_iload_n hx hb dX4_isRowBy_9 rfl (lv_at hl 2 rfl) ?_
  obtain ⟨h4, hO⟩ := hO
  refine va_iast hx hb hK hP hD hS 6 0 (f := m_fr q2) (n := 8) (cA := cy 0) rfl rfl h4 dX4_isRowBy_10 (fun H locs hP hD hS => ?_)
  have hP : va_P D classes (gwM cy a (m_co q2, m_mi q2, m_mn q2, m_pa q2, m_ca q2, m_dr q2, m_fa q2, m_st q2, m_ha q2, m_pd q2, m_pn q2, upd (m_fr q2) (Int32.toNatClampNeg s1) s2, m_at q2, m_wa q2, m_en q2, m_to q2, m_or q2, m_my q2, m_bf q2, m_bs q2, m_kp q2, m_ik q2, m_ka q2, m_iw q2)) H := hP
  have hD : va_D A (gwM cy a (m_co q2, m_mi q2, m_mn q2, m_pa q2, m_ca q2, m_dr q2, m_fa q2, m_st q2, m_ha q2, m_pd q2, m_pn q2, upd (m_fr q2) (Int32.toNatClampNeg s1) s2, m_at q2, m_wa q2, m_en q2, m_to q2, m_or q2, m_my q2, m_bf q2, m_bs q2, m_kp q2, m_ik q2, m_ka q2, m_iw q2)) := hD
  refine lv_aload_n hx hb dX4_isRowBy_11 rfl (lv_at hl 0 rfl) ?_
  refine lv_aload_n hx hb dX4_isRowBy_12 rfl (lv_at hl 0 rfl) ?_
  refine ct_get (C := RX4) (T := TX4) (N := 24) (ci := 4) (v := .int (m_co q2)) hM hK hP inX4 0 rfl rfl 0 (by decide) wfl_X4_67 rfl dX4_isRowBy_13 ?_
  refine lv_bipush (v := 99) hx hb dX4_isRowBy_16 (by decide) ?_
  obtain ⟨h5, hO⟩ := hO
  obtain ⟨q6, e7⟩ : ∃ q, fX4_go (m_co q2, m_mi q2, m_mn q2, m_pa q2, m_ca q2, m_dr q2, m_fa q2, m_st q2, m_ha q2, m_pd q2, m_pn q2, upd (m_fr q2) (Int32.toNatClampNeg s1) s2, m_at q2, m_wa q2, m_en q2, m_to q2, m_or q2, m_my q2, m_bf q2, m_bs q2, m_kp q2, m_ik q2, m_ka q2, m_iw q2) (m_co q2) 99 = q := ⟨_, rfl⟩
  have hF := lt_n e7 hF
  try have hO := lo_n e7 hO
  refine ct_callF hM hK hP hD hS (kX4_go l D cy a (m_co q2, m_mi q2, m_mn q2, m_pa q2, m_ca q2, m_dr q2, m_fa q2, m_st q2, m_ha q2, m_pd q2, m_pn q2, upd (m_fr q2) (Int32.toNatClampNeg s1) s2, m_at q2, m_wa q2, m_en q2, m_to q2, m_or q2, m_my q2, m_bf q2, m_bs q2, m_kp q2, m_ik q2, m_ka q2, m_iw q2) (m_co q2) 99 h5 e7) kvX4_go wml_X4_127 rfl 0 rfl rfl rfl rfl hl.1 rfl ⟨rfl, rfl, Nat.le_of_ble_eq_true rfl, Nat.le_of_ble_eq_true rfl⟩ (Nat.le_of_ble_eq_true rfl) ⟨Nat.zero_le _, Nat.zero_le _⟩ dX4_isRowBy_18 (fun H locs hP hD hS => ?_)
  refine W.eq (g2 := F0 m 21 ls []) rfl ?_
  have hP : va_P D classes (gwM cy a q6) H := hP
  have hD : va_D A (gwM cy a q6) := hD
  refine lv_aload_n hx hb dX4_isRowBy_21 rfl (lv_at hl 0 rfl) ?_
  obtain ⟨h8, hO⟩ := hO
  obtain ⟨q9, e10⟩ : ∃ q, fX4_isRow q6 = q := ⟨_, rfl⟩
  have hF := lt_n e10 hF
  try have hO := lo_n e10 hO
  refine ct_callF hM hK hP hD hS (kX4_isRow l D cy a q6 h8 e10) kvX4_isRow wml_X4_151 rfl 0 rfl rfl rfl rfl hl.1 rfl ⟨rfl, rfl, Nat.le_of_ble_eq_true rfl, Nat.le_of_ble_eq_true rfl⟩ (Nat.le_of_ble_eq_true rfl) ⟨Nat.zero_le _, Nat.zero_le _⟩ dX4_isRowBy_22 (fun H locs hP hD hS => ?_)
  refine W.eq (g2 := F0 m 25 ls [.int q9]) rfl ?_
  obtain ⟨h11, hO⟩ := hO
  subst hF
  exact ct_zret (r := q9) hM hP hS h11 dX4_isRowBy_25

abbrev rX4_lied : Room := { frames := 5, cells := 0, slots := 0, locals := 121 }
def fX4_lied_22 (s2 : Int32) (k14 : tMs → Int32 → Int32 → Int32 × tMs) : Nat → tMs → Int32 → Int32 → Int32 × tMs
  | 0, x, s1, s3 => (0, x)
  | n + 1, x, s1, s3 => if 100 ≤ s3 then (lt_ (s2 + 1) fun x7 => k14 x s1 x7) else (lt_ (fX4_comes x s2) fun q10 => if q10 = 0 then (lt_ (s2 + 1) fun x13 => k14 x s1 x13) else (lt_ (fX4_isRowBy x s2 s3) fun q16 => if q16.1 = 0 then (lt_ (s1 ||| 0) fun x19 => lt_ (s3 + 1) fun x21 => fX4_lied_22 s2 k14 n q16.2 x19 x21) else (lt_ (s1 ||| (1 <<< (s2 &&& 31))) fun x23 => lt_ (s3 + 1) fun x25 => fX4_lied_22 s2 k14 n q16.2 x23 x25)))
def oX4_lied_22 (s2 : Int32) (g14 : tMs → Int32 → Int32 → Prop) : Nat → tMs → Int32 → Int32 → Prop
  | 0, _, _, _ => False
  | n + 1, x, s1, s3 => if 100 ≤ s3 then (lo_ (s2 + 1) fun x7 => g14 x s1 x7) else (oX4_comes x s2 ∧ (lo_ (fX4_comes x s2) fun q10 => if q10 = 0 then (lo_ (s2 + 1) fun x13 => g14 x s1 x13) else (oX4_isRowBy x s2 s3 ∧ (lo_ (fX4_isRowBy x s2 s3) fun q16 => if q16.1 = 0 then (lo_ (s1 ||| 0) fun x19 => lo_ (s3 + 1) fun x21 => oX4_lied_22 s2 g14 n q16.2 x19 x21) else (lo_ (s1 ||| (1 <<< (s2 &&& 31))) fun x23 => lo_ (s3 + 1) fun x25 => oX4_lied_22 s2 g14 n q16.2 x23 x25)))))
set_option maxHeartbeats 4000000 in
set_option maxRecDepth 100000 in
theorem tX4_lied_22 {p : Program} {l : Launch} {e : Env} {s : State} {m : MethodId} {args : Array Value} {below : List Frame} {meth : Method} {c : Code} {A : Nat → Prop} {D : va_G} {cy : Nat → ClassId} {a : Nat → Nat} {s2 : Int32} {k14 : tMs → Int32 → Int32 → Int32 × tMs} {g14 : tMs → Int32 → Int32 → Prop} {R : Int32 × tMs} (hM : MC p s m args meth c RX4 cX4_lied 4 (some .int)) (hK : va_K D classes (ctT cy) s) (hk14 : ∀ (x : tMs) (s1 : Int32) (s2 : Int32) (H : Heap) (locs : List Loc) (ls : Array Slot), va_P D classes (gwM cy a x) H → va_D A (gwM cy a x) → va_S A s.heap H locs → lv_has ls 4 [(0, .ref (a 0)), (1, .int s1), (2, .int s2)] → g14 x s1 s2 → k14 x s1 s2 = R → W p l e rX4_lied s m args below meth c H locs 0 0 (MQ below (ctQ D (some (.int R.1)) (gwM cy a R.2) A) args s 0 0 A) (F0 m 14 ls [])) :
    ∀ (n : Nat) (x : tMs) (s1 : Int32) (s3 : Int32) (H : Heap) (locs : List Loc) (ls : Array Slot), va_P D classes (gwM cy a x) H → va_D A (gwM cy a x) → va_S A s.heap H locs → lv_has ls 4 [(0, .ref (a 0)), (1, .int s1), (2, .int s2), (3, .int s3)] → oX4_lied_22 s2 g14 n x s1 s3 → fX4_lied_22 s2 k14 n x s1 s3 = R → W p l e rX4_lied s m args below meth c H locs 0 0 (MQ below (ctQ D (some (.int R.1)) (gwM cy a R.2) A) args s 0 0 A) (F0 m 22 ls []) := by
  obtain ⟨hx, hb, -, hml, hown, hts, -⟩ := id hM
  intro n
  induction n with
  | zero =>
    intro x s1 s3 H locs ls hP hD hS hl hO hF
    exact False.elim hO
  | succ n ih =>
    intro x s1 s3 H locs ls hP hD hS hl hO hF
    rw [fX4_lied_22] at hF
    rw [oX4_lied_22] at hO
    refine lv_iload_n hx hb dX4_lied_22 rfl (lv_at hl 3 rfl) ?_
    refine lv_bipush (v := 100) hx hb dX4_lied_23 (by decide) ?_
    refine lv_icmp_ge (tgt := 61) hx hb dX4_lied_25 (by decide) (fun c6 => ?_) (fun c6 => ?_)
    · have hF := lt_t c6 hF
      have hO := lo_t c6 hO
      obtain ⟨x7, e8⟩ : ∃ y : Int32, s2 + 1 = y := ⟨_, rfl⟩
      have hF := lt_n e8 hF
      try have hO := lo_n e8 hO
      refine lv_iinc (v := x7) (lv' := [(2, .int x7), (0, .ref (a 0)), (1, .int s1), (3, .int s3)]) hx hb dX4_lied_61 hl (k := 2) rfl (by rw [← e8]; rfl) (by decide) rfl (fun ls hl => ?_)
      refine lv_goto (tgt := 14) hx hb dX4_lied_64 (by decide) ?_
      exact hk14 x s1 x7 H locs ls hP hD hS (lv_sub hl [1, 2, 0] rfl) hO hF
    · have hF := lt_f c6 hF
      have hO := lo_f c6 hO
      refine lv_aload_n hx hb dX4_lied_28 rfl (lv_at hl 0 rfl) ?_
      refine lv_iload_n hx hb dX4_lied_29 rfl (lv_at hl 2 rfl) ?_
      obtain ⟨h9, hO⟩ := hO
      obtain ⟨q10, e11⟩ : ∃ q, fX4_comes x s2 = q := ⟨_, rfl⟩
      have hF := lt_n e11 hF
      try have hO := lo_n e11 hO
      refine ct_callF hM hK hP hD hS (kX4_comes l D cy a x s2 h9 e11) kvX4_comes wml_X4_80 rfl 0 rfl rfl rfl rfl hl.1 rfl ⟨rfl, rfl, Nat.le_of_ble_eq_true rfl, Nat.le_of_ble_eq_true rfl⟩ (Nat.le_of_ble_eq_true rfl) ⟨Nat.zero_le _, Nat.zero_le _⟩ dX4_lied_30 (fun H locs hP hD hS => ?_)
      refine W.eq (g2 := F0 m 33 ls [.int q10]) rfl ?_
      refine lv_if_eq (tgt := 61) hx hb dX4_lied_33 (by decide) (fun c12 => ?_) (fun c12 => ?_)
      · have hF := lt_t c12 hF
        have hO := lo_t c12 hO
        obtain ⟨x13, e14⟩ : ∃ y : Int32, s2 + 1 = y := ⟨_, rfl⟩
        have hF := lt_n e14 hF
        try have hO := lo_n e14 hO
        refine lv_iinc (v := x13) (lv' := [(2, .int x13), (0, .ref (a 0)), (1, .int s1), (3, .int s3)]) hx hb dX4_lied_61 hl (k := 2) rfl (by rw [← e14]; rfl) (by decide) rfl (fun ls hl => ?_)
        refine lv_goto (tgt := 14) hx hb dX4_lied_64 (by decide) ?_
        exact hk14 x s1 x13 H locs ls hP hD hS (lv_sub hl [1, 2, 0] rfl) hO hF
      · have hF := lt_f c12 hF
        have hO := lo_f c12 hO
        refine lv_iload_n hx hb dX4_lied_36 rfl (lv_at hl 1 rfl) ?_
        refine lv_aload_n hx hb dX4_lied_37 rfl (lv_at hl 0 rfl) ?_
        refine lv_iload_n hx hb dX4_lied_38 rfl (lv_at hl 2 rfl) ?_
        refine lv_iload_n hx hb dX4_lied_39 rfl (lv_at hl 3 rfl) ?_
        obtain ⟨h15, hO⟩ := hO
        obtain ⟨q16, e17⟩ : ∃ q, fX4_isRowBy x s2 s3 = q := ⟨_, rfl⟩
        have hF := lt_n e17 hF
        try have hO := lo_n e17 hO
        refine ct_callF hM hK hP hD hS (kX4_isRowBy l D cy a x s2 s3 h15 e17) kvX4_isRowBy wml_X4_158 rfl 0 rfl rfl rfl rfl hl.1 rfl ⟨rfl, rfl, Nat.le_of_ble_eq_true rfl, Nat.le_of_ble_eq_true rfl⟩ (Nat.le_of_ble_eq_true rfl) ⟨Nat.zero_le _, Nat.zero_le _⟩ dX4_lied_40 (fun H locs hP hD hS => ?_)
        refine W.eq (g2 := F0 m 43 ls [.int q16.1, .int s1]) rfl ?_
        have hP : va_P D classes (gwM cy a q16.2) H := hP
        have hD : va_D A (gwM cy a q16.2) := hD
        refine lv_if_eq (tgt := 52) hx hb dX4_lied_43 (by decide) (fun c18 => ?_) (fun c18 => ?_)
        · have hF := lt_t c18 hF
          have hO := lo_t c18 hO
          refine lv_iconst (v := 0) hx hb dX4_lied_52 (by decide) ?_
          refine lv_ior hx hb dX4_lied_53 ?_
          refine lv_topi (fun x19 e20 => ?_)
          have hF := lt_n e20.symm hF
          try have hO := lo_n e20.symm hO
          refine lv_istore_n (lv' := [(1, .int x19), (0, .ref (a 0)), (2, .int s2), (3, .int s3)]) hx hb dX4_lied_54 rfl hl (by decide) rfl (fun ls hl => ?_)
          obtain ⟨x21, e22⟩ : ∃ y : Int32, s3 + 1 = y := ⟨_, rfl⟩
          have hF := lt_n e22 hF
          try have hO := lo_n e22 hO
          refine lv_iinc (v := x21) (lv' := [(3, .int x21), (1, .int x19), (0, .ref (a 0)), (2, .int s2)]) hx hb dX4_lied_55 hl (k := 3) rfl (by rw [← e22]; rfl) (by decide) rfl (fun ls hl => ?_)
          refine lv_goto (tgt := 22) hx hb dX4_lied_58 (by decide) ?_
          exact ih q16.2 x19 x21 H locs ls hP hD hS (lv_sub hl [2, 1, 3, 0] rfl) hO hF
        · have hF := lt_f c18 hF
          have hO := lo_f c18 hO
          refine lv_iconst (v := 1) hx hb dX4_lied_46 (by decide) ?_
          refine lv_iload_n hx hb dX4_lied_47 rfl (lv_at hl 2 rfl) ?_
          refine lv_ishl hx hb dX4_lied_48 ?_
          refine lv_goto (tgt := 53) hx hb dX4_lied_49 (by decide) ?_
          refine lv_ior hx hb dX4_lied_53 ?_
          refine lv_topi (fun x23 e24 => ?_)
          have hF := lt_n e24.symm hF
          try have hO := lo_n e24.symm hO
          refine lv_istore_n (lv' := [(1, .int x23), (0, .ref (a 0)), (2, .int s2), (3, .int s3)]) hx hb dX4_lied_54 rfl hl (by decide) rfl (fun ls hl => ?_)
          obtain ⟨x25, e26⟩ : ∃ y : Int32, s3 + 1 = y := ⟨_, rfl⟩
          have hF := lt_n e26 hF
          try have hO := lo_n e26 hO
          refine lv_iinc (v := x25) (lv' := [(3, .int x25), (1, .int x23), (0, .ref (a 0)), (2, .int s2)]) hx hb dX4_lied_55 hl (k := 3) rfl (by rw [← e26]; rfl) (by decide) rfl (fun ls hl => ?_)
          refine lv_goto (tgt := 22) hx hb dX4_lied_58 (by decide) ?_
          exact ih q16.2 x23 x25 H locs ls hP hD hS (lv_sub hl [2, 1, 3, 0] rfl) hO hF

def fX4_lied_14 : Nat → tMs → Int32 → Int32 → Int32 × tMs
  | 0, x, s1, s2 => (0, x)
  | n + 1, x, s1, s2 => if 8 ≤ s2 then (s1, x) else (fX4_lied_22 s2 (fX4_lied_14 n) 101 x s1 0)
def oX4_lied_14 : Nat → tMs → Int32 → Int32 → Prop
  | 0, _, _, _ => False
  | n + 1, x, s1, s2 => if 8 ≤ s2 then True else (oX4_lied_22 s2 (oX4_lied_14 n) 101 x s1 0)
set_option maxHeartbeats 4000000 in
set_option maxRecDepth 100000 in
theorem tX4_lied_14 {p : Program} {l : Launch} {e : Env} {s : State} {m : MethodId} {args : Array Value} {below : List Frame} {meth : Method} {c : Code} {A : Nat → Prop} {D : va_G} {cy : Nat → ClassId} {a : Nat → Nat} {R : Int32 × tMs} (hM : MC p s m args meth c RX4 cX4_lied 4 (some .int)) (hK : va_K D classes (ctT cy) s) :
    ∀ (n : Nat) (x : tMs) (s1 : Int32) (s2 : Int32) (H : Heap) (locs : List Loc) (ls : Array Slot), va_P D classes (gwM cy a x) H → va_D A (gwM cy a x) → va_S A s.heap H locs → lv_has ls 4 [(0, .ref (a 0)), (1, .int s1), (2, .int s2)] → oX4_lied_14 n x s1 s2 → fX4_lied_14 n x s1 s2 = R → W p l e rX4_lied s m args below meth c H locs 0 0 (MQ below (ctQ D (some (.int R.1)) (gwM cy a R.2) A) args s 0 0 A) (F0 m 14 ls []) := by
  obtain ⟨hx, hb, -, hml, hown, hts, -⟩ := id hM
  intro n
  induction n with
  | zero =>
    intro x s1 s2 H locs ls hP hD hS hl hO hF
    exact False.elim hO
  | succ n ih =>
    intro x s1 s2 H locs ls hP hD hS hl hO hF
    rw [fX4_lied_14] at hF
    rw [oX4_lied_14] at hO
    refine lv_iload_n hx hb dX4_lied_14 rfl (lv_at hl 2 rfl) ?_
    refine lv_bipush (v := 8) hx hb dX4_lied_15 (by decide) ?_
    refine lv_icmp_ge (tgt := 67) hx hb dX4_lied_17 (by decide) (fun c5 => ?_) (fun c5 => ?_)
    · have hF := lt_t c5 hF
      have hO := lo_t c5 hO
      refine lv_iload_n hx hb dX4_lied_67 rfl (lv_at hl 1 rfl) ?_
      subst hF
      exact ct_iret hM hP hS dX4_lied_68
    · have hF := lt_f c5 hF
      have hO := lo_f c5 hO
      refine lv_iconst (v := 0) hx hb dX4_lied_20 (by decide) ?_
      refine lv_istore_n (lv' := [(3, .int 0), (0, .ref (a 0)), (1, .int s1), (2, .int s2)]) hx hb dX4_lied_21 rfl hl (by decide) rfl (fun ls hl => ?_)
      exact tX4_lied_22 hM hK ih 101 x s1 0 H locs ls hP hD hS (lv_sub hl [1, 2, 3, 0] rfl) hO hF

def fX4_lied (x : tMs) : Int32 × tMs := lt_ (fX4_areAllTold x) fun q2 => if q2 = 0 then ((-5), x) else (fX4_lied_14 9 x 0 0)
def oX4_lied (x : tMs) : Prop := oX4_areAllTold x ∧ (lo_ (fX4_areAllTold x) fun q2 => if q2 = 0 then True else (oX4_lied_14 9 x 0 0))
theorem kvX4_lied : KV yX4_lied cX4_lied 4 (some .int) 0 := ⟨wcd_X4_lied, wim_X4_lied, wsl_X4_lied, win_X4, by decide +kernel, by decide +kernel, by decide +kernel⟩
set_option maxHeartbeats 4000000 in
set_option maxRecDepth 100000 in
theorem kX4_lied (l : Launch) (D : va_G) (cy : Nat → ClassId) (a : Nat → Nat) (x : tMs) {R : Int32 × tMs} (hO : oX4_lied x) (hF : fX4_lied x = R) : CT l D cy yX4_lied cX4_lied 4 (some .int) rX4_lied [.ref (a 0)] (gwM cy a x) (some (.int R.1)) (gwM cy a R.2) := by
  refine ct_of (by decide) (Nat.le_of_ble_eq_true rfl) ?_
  intro p e s m args below meth c A ls hM hK hP hD hS hl
  obtain ⟨hx, hb, -, hml, hown, hts, -⟩ := id hM
  have hl : lv_has ls 4 [(0, .ref (a 0))] := hl
  obtain ⟨H, hH⟩ : ∃ H : Heap, H = s.heap := ⟨_, rfl⟩
  obtain ⟨locs, hlocs⟩ : ∃ q : List Loc, q = [] := ⟨_, rfl⟩
  have hP : va_P D classes (gwM cy a x) H := by rw [hH]; exact hP
  have hS : va_S A s.heap H locs := by rw [hH, hlocs]; exact hS
  suffices hg : W p l e rX4_lied s m args below meth c H locs 0 0 (MQ below (ctQ D (some (.int R.1)) (gwM cy a R.2) A) args s 0 0 A) (F0 m 0 ls []) by rw [hH, hlocs] at hg; exact hg
  clear hH hlocs
  unfold fX4_lied at hF
  unfold oX4_lied at hO
  refine lv_aload_n hx hb dX4_lied_0 rfl (lv_at hl 0 rfl) ?_
  obtain ⟨h1, hO⟩ := hO
  obtain ⟨q2, e3⟩ : ∃ q, fX4_areAllTold x = q := ⟨_, rfl⟩
  have hF := lt_n e3 hF
  try have hO := lo_n e3 hO
  refine ct_callF hM hK hP hD hS (kX4_areAllTold l D cy a x h1 e3) kvX4_areAllTold wml_X4_155 rfl 0 rfl rfl rfl rfl hl.1 rfl ⟨rfl, rfl, Nat.le_of_ble_eq_true rfl, Nat.le_of_ble_eq_true rfl⟩ (Nat.le_of_ble_eq_true rfl) ⟨Nat.zero_le _, Nat.zero_le _⟩ dX4_lied_1 (fun H locs hP hD hS => ?_)
  refine W.eq (g2 := F0 m 4 ls [.int q2]) rfl ?_
  refine lv_if_ne (tgt := 10) hx hb dX4_lied_4 (by decide) (fun c4 => ?_) (fun c4 => ?_)
  · have hF := lt_f c4 hF
    have hO := lo_f c4 hO
    refine lv_iconst (v := 0) hx hb dX4_lied_10 (by decide) ?_
    refine lv_istore_n (lv' := [(1, .int 0), (0, .ref (a 0))]) hx hb dX4_lied_11 rfl hl (by decide) rfl (fun ls hl => ?_)
    refine lv_iconst (v := 0) hx hb dX4_lied_12 (by decide) ?_
    refine lv_istore_n (lv' := [(2, .int 0), (1, .int 0), (0, .ref (a 0))]) hx hb dX4_lied_13 rfl hl (by decide) rfl (fun ls hl => ?_)
    exact tX4_lied_14 hM hK 9 x 0 0 H locs ls hP hD hS (lv_sub hl [2, 1, 0] rfl) hO hF
  · have hF := lt_t c4 hF
    have hO := lo_t c4 hO
    refine lv_bipush (v := (-5)) hx hb dX4_lied_7 (by decide) ?_
    subst hF
    exact ct_iret hM hP hS dX4_lied_9

abbrev rX4_could : Room := { frames := 5, cells := 0, slots := 0, locals := 121 }
def fX4_could_39 (s1 : Int32) (s2 : Int32) : Nat → tMs → Int32 → Int32 → Int32 × tMs
  | 0, x, s3, s4 => (0, x)
  | n + 1, x, s3, s4 => if 100 ≤ s4 then (s3, x) else (if s2 = 1 then (lt_ (fX4_isRowBy x s1 s4) fun q16 => if q16.1 = 0 then (lt_ (s4 + 1) fun x19 => fX4_could_39 s1 s2 n q16.2 s3 x19) else (lt_ (s4 + 1) fun x21 => fX4_could_39 s1 s2 n q16.2 s4 x21)) else (if 0 ≤ s3 then (lt_ (s4 + 1) fun x24 => fX4_could_39 s1 s2 n x s3 x24) else (lt_ (fX4_isRowBy x s1 s4) fun q27 => if q27.1 = 0 then (lt_ (s4 + 1) fun x30 => fX4_could_39 s1 s2 n q27.2 s3 x30) else (lt_ (s4 + 1) fun x32 => fX4_could_39 s1 s2 n q27.2 s4 x32))))
def oX4_could_39 (s1 : Int32) (s2 : Int32) : Nat → tMs → Int32 → Int32 → Prop
  | 0, _, _, _ => False
  | n + 1, x, s3, s4 => if 100 ≤ s4 then True else (if s2 = 1 then (oX4_isRowBy x s1 s4 ∧ (lo_ (fX4_isRowBy x s1 s4) fun q16 => if q16.1 = 0 then (lo_ (s4 + 1) fun x19 => oX4_could_39 s1 s2 n q16.2 s3 x19) else (lo_ (s4 + 1) fun x21 => oX4_could_39 s1 s2 n q16.2 s4 x21))) else (if 0 ≤ s3 then (lo_ (s4 + 1) fun x24 => oX4_could_39 s1 s2 n x s3 x24) else (oX4_isRowBy x s1 s4 ∧ (lo_ (fX4_isRowBy x s1 s4) fun q27 => if q27.1 = 0 then (lo_ (s4 + 1) fun x30 => oX4_could_39 s1 s2 n q27.2 s3 x30) else (lo_ (s4 + 1) fun x32 => oX4_could_39 s1 s2 n q27.2 s4 x32)))))
set_option maxHeartbeats 4000000 in
set_option maxRecDepth 100000 in
theorem tX4_could_39 {p : Program} {l : Launch} {e : Env} {s : State} {m : MethodId} {args : Array Value} {below : List Frame} {meth : Method} {c : Code} {A : Nat → Prop} {D : va_G} {cy : Nat → ClassId} {a : Nat → Nat} {s1 : Int32} {s2 : Int32} {R : Int32 × tMs} (hM : MC p s m args meth c RX4 cX4_could 6 (some .int)) (hK : va_K D classes (ctT cy) s) :
    ∀ (n : Nat) (x : tMs) (s3 : Int32) (s4 : Int32) (H : Heap) (locs : List Loc) (ls : Array Slot), va_P D classes (gwM cy a x) H → va_D A (gwM cy a x) → va_S A s.heap H locs → lv_has ls 6 [(0, .ref (a 0)), (1, .int s1), (2, .int s2), (3, .int s3), (4, .int s4)] → oX4_could_39 s1 s2 n x s3 s4 → fX4_could_39 s1 s2 n x s3 s4 = R → W p l e rX4_could s m args below meth c H locs 0 0 (MQ below (ctQ D (some (.int R.1)) (gwM cy a R.2) A) args s 0 0 A) (F0 m 39 ls []) := by
  obtain ⟨hx, hb, -, hml, hown, hts, -⟩ := id hM
  intro n
  induction n with
  | zero =>
    intro x s3 s4 H locs ls hP hD hS hl hO hF
    exact False.elim hO
  | succ n ih =>
    intro x s3 s4 H locs ls hP hD hS hl hO hF
    rw [fX4_could_39] at hF
    rw [oX4_could_39] at hO
    refine lv_iload hx hb dX4_could_39 (lv_at hl 4 rfl) ?_
    refine lv_bipush (v := 100) hx hb dX4_could_41 (by decide) ?_
    refine lv_icmp_ge (tgt := 90) hx hb dX4_could_43 (by decide) (fun c13 => ?_) (fun c13 => ?_)
    · have hF := lt_t c13 hF
      have hO := lo_t c13 hO
      refine lv_iload_n hx hb dX4_could_90 rfl (lv_at hl 3 rfl) ?_
      subst hF
      exact ct_iret hM hP hS dX4_could_91
    · have hF := lt_f c13 hF
      have hO := lo_f c13 hO
      refine lv_iload_n hx hb dX4_could_46 rfl (lv_at hl 2 rfl) ?_
      refine lv_iconst (v := 1) hx hb dX4_could_47 (by decide) ?_
      refine lv_icmp_eq (tgt := 55) hx hb dX4_could_48 (by decide) (fun c14 => ?_) (fun c14 => ?_)
      · have hF := lt_t c14 hF
        have hO := lo_t c14 hO
        refine lv_iconst (v := 1) hx hb dX4_could_55 (by decide) ?_
        refine lv_goto (tgt := 60) hx hb dX4_could_56 (by decide) ?_
        refine lv_istore (lv' := [(5, .int 1), (0, .ref (a 0)), (1, .int s1), (2, .int s2), (3, .int s3), (4, .int s4)]) hx hb dX4_could_60 hl (by decide) rfl (fun ls hl => ?_)
        refine lv_iload hx hb dX4_could_62 (lv_at hl 0 rfl) ?_
        refine lv_if_eq (tgt := 82) hx hb dX4_could_64 (by decide) (fun z => absurd z (by decide)) (fun _ => ?_)
        refine lv_aload_n hx hb dX4_could_67 rfl (lv_at hl 1 rfl) ?_
        refine lv_iload_n hx hb dX4_could_68 rfl (lv_at hl 2 rfl) ?_
        refine lv_iload hx hb dX4_could_69 (lv_at hl 5 rfl) ?_
        obtain ⟨h15, hO⟩ := hO
        obtain ⟨q16, e17⟩ : ∃ q, fX4_isRowBy x s1 s4 = q := ⟨_, rfl⟩
        have hF := lt_n e17 hF
        try have hO := lo_n e17 hO
        refine ct_callF hM hK hP hD hS (kX4_isRowBy l D cy a x s1 s4 h15 e17) kvX4_isRowBy wml_X4_158 rfl 0 rfl rfl rfl rfl hl.1 rfl ⟨rfl, rfl, Nat.le_of_ble_eq_true rfl, Nat.le_of_ble_eq_true rfl⟩ (Nat.le_of_ble_eq_true rfl) ⟨Nat.zero_le _, Nat.zero_le _⟩ dX4_could_71 (fun H locs hP hD hS => ?_)
        refine W.eq (g2 := F0 m 74 ls [.int q16.1]) rfl ?_
        have hP : va_P D classes (gwM cy a q16.2) H := hP
        have hD : va_D A (gwM cy a q16.2) := hD
        refine lv_if_eq (tgt := 82) hx hb dX4_could_74 (by decide) (fun c18 => ?_) (fun c18 => ?_)
        · have hF := lt_t c18 hF
          have hO := lo_t c18 hO
          refine lv_iload_n hx hb dX4_could_82 rfl (lv_at hl 4 rfl) ?_
          refine lv_istore_n (lv' := [(3, .int s3), (5, .int 1), (0, .ref (a 0)), (1, .int s1), (2, .int s2), (4, .int s4)]) hx hb dX4_could_83 rfl hl (by decide) rfl (fun ls hl => ?_)
          obtain ⟨x19, e20⟩ : ∃ y : Int32, s4 + 1 = y := ⟨_, rfl⟩
          have hF := lt_n e20 hF
          try have hO := lo_n e20 hO
          refine lv_iinc (v := x19) (lv' := [(4, .int x19), (3, .int s3), (5, .int 1), (0, .ref (a 0)), (1, .int s1), (2, .int s2)]) hx hb dX4_could_84 hl (k := 5) rfl (by rw [← e20]; rfl) (by decide) rfl (fun ls hl => ?_)
          refine lv_goto (tgt := 39) hx hb dX4_could_87 (by decide) ?_
          exact ih q16.2 s3 x19 H locs ls hP hD hS (lv_sub hl [3, 4, 5, 1, 0] rfl) hO hF
        · have hF := lt_f c18 hF
          have hO := lo_f c18 hO
          refine lv_iload hx hb dX4_could_77 (lv_at hl 5 rfl) ?_
          refine lv_goto (tgt := 83) hx hb dX4_could_79 (by decide) ?_
          refine lv_istore_n (lv' := [(3, .int s4), (5, .int 1), (0, .ref (a 0)), (1, .int s1), (2, .int s2), (4, .int s4)]) hx hb dX4_could_83 rfl hl (by decide) rfl (fun ls hl => ?_)
          obtain ⟨x21, e22⟩ : ∃ y : Int32, s4 + 1 = y := ⟨_, rfl⟩
          have hF := lt_n e22 hF
          try have hO := lo_n e22 hO
          refine lv_iinc (v := x21) (lv' := [(4, .int x21), (3, .int s4), (5, .int 1), (0, .ref (a 0)), (1, .int s1), (2, .int s2)]) hx hb dX4_could_84 hl (k := 5) rfl (by rw [← e22]; rfl) (by decide) rfl (fun ls hl => ?_)
          refine lv_goto (tgt := 39) hx hb dX4_could_87 (by decide) ?_
          exact ih q16.2 s4 x21 H locs ls hP hD hS (lv_sub hl [3, 4, 5, 1, 0] rfl) hO hF
      · have hF := lt_f c14 hF
        have hO := lo_f c14 hO
        refine lv_iload_n hx hb dX4_could_51 rfl (lv_at hl 3 rfl) ?_
        refine lv_if_ge (tgt := 59) hx hb dX4_could_52 (by decide) (fun c23 => ?_) (fun c23 => ?_)
        · have hF := lt_t c23 hF
          have hO := lo_t c23 hO
          refine lv_iconst (v := 0) hx hb dX4_could_59 (by decide) ?_
          refine lv_istore (lv' := [(5, .int 0), (0, .ref (a 0)), (1, .int s1), (2, .int s2), (3, .int s3), (4, .int s4)]) hx hb dX4_could_60 hl (by decide) rfl (fun ls hl => ?_)
          refine lv_iload hx hb dX4_could_62 (lv_at hl 0 rfl) ?_
          refine lv_if_eq (tgt := 82) hx hb dX4_could_64 (by decide) (fun _ => ?_) (fun z => absurd (by decide) z)
          refine lv_iload_n hx hb dX4_could_82 rfl (lv_at hl 4 rfl) ?_
          refine lv_istore_n (lv' := [(3, .int s3), (5, .int 0), (0, .ref (a 0)), (1, .int s1), (2, .int s2), (4, .int s4)]) hx hb dX4_could_83 rfl hl (by decide) rfl (fun ls hl => ?_)
          obtain ⟨x24, e25⟩ : ∃ y : Int32, s4 + 1 = y := ⟨_, rfl⟩
          have hF := lt_n e25 hF
          try have hO := lo_n e25 hO
          refine lv_iinc (v := x24) (lv' := [(4, .int x24), (3, .int s3), (5, .int 0), (0, .ref (a 0)), (1, .int s1), (2, .int s2)]) hx hb dX4_could_84 hl (k := 5) rfl (by rw [← e25]; rfl) (by decide) rfl (fun ls hl => ?_)
          refine lv_goto (tgt := 39) hx hb dX4_could_87 (by decide) ?_
          exact ih x s3 x24 H locs ls hP hD hS (lv_sub hl [3, 4, 5, 1, 0] rfl) hO hF
        · have hF := lt_f c23 hF
          have hO := lo_f c23 hO
          refine lv_iconst (v := 1) hx hb dX4_could_55 (by decide) ?_
          refine lv_goto (tgt := 60) hx hb dX4_could_56 (by decide) ?_
          refine lv_istore (lv' := [(5, .int 1), (0, .ref (a 0)), (1, .int s1), (2, .int s2), (3, .int s3), (4, .int s4)]) hx hb dX4_could_60 hl (by decide) rfl (fun ls hl => ?_)
          refine lv_iload hx hb dX4_could_62 (lv_at hl 0 rfl) ?_
          refine lv_if_eq (tgt := 82) hx hb dX4_could_64 (by decide) (fun z => absurd z (by decide)) (fun _ => ?_)
          refine lv_aload_n hx hb dX4_could_67 rfl (lv_at hl 1 rfl) ?_
          refine lv_iload_n hx hb dX4_could_68 rfl (lv_at hl 2 rfl) ?_
          refine lv_iload hx hb dX4_could_69 (lv_at hl 5 rfl) ?_
          obtain ⟨h26, hO⟩ := hO
          obtain ⟨q27, e28⟩ : ∃ q, fX4_isRowBy x s1 s4 = q := ⟨_, rfl⟩
          have hF := lt_n e28 hF
          try have hO := lo_n e28 hO
          refine ct_callF hM hK hP hD hS (kX4_isRowBy l D cy a x s1 s4 h26 e28) kvX4_isRowBy wml_X4_158 rfl 0 rfl rfl rfl rfl hl.1 rfl ⟨rfl, rfl, Nat.le_of_ble_eq_true rfl, Nat.le_of_ble_eq_true rfl⟩ (Nat.le_of_ble_eq_true rfl) ⟨Nat.zero_le _, Nat.zero_le _⟩ dX4_could_71 (fun H locs hP hD hS => ?_)
          refine W.eq (g2 := F0 m 74 ls [.int q27.1]) rfl ?_
          have hP : va_P D classes (gwM cy a q27.2) H := hP
          have hD : va_D A (gwM cy a q27.2) := hD
          refine lv_if_eq (tgt := 82) hx hb dX4_could_74 (by decide) (fun c29 => ?_) (fun c29 => ?_)
          · have hF := lt_t c29 hF
            have hO := lo_t c29 hO
            refine lv_iload_n hx hb dX4_could_82 rfl (lv_at hl 4 rfl) ?_
            refine lv_istore_n (lv' := [(3, .int s3), (5, .int 1), (0, .ref (a 0)), (1, .int s1), (2, .int s2), (4, .int s4)]) hx hb dX4_could_83 rfl hl (by decide) rfl (fun ls hl => ?_)
            obtain ⟨x30, e31⟩ : ∃ y : Int32, s4 + 1 = y := ⟨_, rfl⟩
            have hF := lt_n e31 hF
            try have hO := lo_n e31 hO
            refine lv_iinc (v := x30) (lv' := [(4, .int x30), (3, .int s3), (5, .int 1), (0, .ref (a 0)), (1, .int s1), (2, .int s2)]) hx hb dX4_could_84 hl (k := 5) rfl (by rw [← e31]; rfl) (by decide) rfl (fun ls hl => ?_)
            refine lv_goto (tgt := 39) hx hb dX4_could_87 (by decide) ?_
            exact ih q27.2 s3 x30 H locs ls hP hD hS (lv_sub hl [3, 4, 5, 1, 0] rfl) hO hF
          · have hF := lt_f c29 hF
            have hO := lo_f c29 hO
            refine lv_iload hx hb dX4_could_77 (lv_at hl 5 rfl) ?_
            refine lv_goto (tgt := 83) hx hb dX4_could_79 (by decide) ?_
            refine lv_istore_n (lv' := [(3, .int s4), (5, .int 1), (0, .ref (a 0)), (1, .int s1), (2, .int s2), (4, .int s4)]) hx hb dX4_could_83 rfl hl (by decide) rfl (fun ls hl => ?_)
            obtain ⟨x32, e33⟩ : ∃ y : Int32, s4 + 1 = y := ⟨_, rfl⟩
            have hF := lt_n e33 hF
            try have hO := lo_n e33 hO
            refine lv_iinc (v := x32) (lv' := [(4, .int x32), (3, .int s4), (5, .int 1), (0, .ref (a 0)), (1, .int s1), (2, .int s2)]) hx hb dX4_could_84 hl (k := 5) rfl (by rw [← e33]; rfl) (by decide) rfl (fun ls hl => ?_)
            refine lv_goto (tgt := 39) hx hb dX4_could_87 (by decide) ?_
            exact ih q27.2 s4 x32 H locs ls hP hD hS (lv_sub hl [3, 4, 5, 1, 0] rfl) hO hF

def fX4_could (x : tMs) (s1 : Int32) (s2 : Int32) : Int32 × tMs := lt_ (fX4_comes x s1) fun q2 => if q2 = 0 then ((-1), x) else (lt_ (fX4_in (Int32.toInt64 s2) 0 1) fun q6 => if q6 = 0 then ((-2), x) else (lt_ (fX4_areAllTold x) fun q10 => if q10 = 0 then ((-5), x) else (fX4_could_39 s1 s2 101 x (-6) 0)))
def oX4_could (x : tMs) (s1 : Int32) (s2 : Int32) : Prop := oX4_comes x s1 ∧ (lo_ (fX4_comes x s1) fun q2 => if q2 = 0 then True else (lo_ (fX4_in (Int32.toInt64 s2) 0 1) fun q6 => if q6 = 0 then True else (oX4_areAllTold x ∧ (lo_ (fX4_areAllTold x) fun q10 => if q10 = 0 then True else (oX4_could_39 s1 s2 101 x (-6) 0)))))
theorem kvX4_could : KV yX4_could cX4_could 6 (some .int) 2 := ⟨wcd_X4_could, wim_X4_could, wsl_X4_could, win_X4, by decide +kernel, by decide +kernel, by decide +kernel⟩
set_option maxHeartbeats 4000000 in
set_option maxRecDepth 100000 in
theorem kX4_could (l : Launch) (D : va_G) (cy : Nat → ClassId) (a : Nat → Nat) (x : tMs) (s1 : Int32) (s2 : Int32) {R : Int32 × tMs} (hO : oX4_could x s1 s2) (hF : fX4_could x s1 s2 = R) : CT l D cy yX4_could cX4_could 6 (some .int) rX4_could [.ref (a 0), .int s1, .int s2] (gwM cy a x) (some (.int R.1)) (gwM cy a R.2) := by
  refine ct_of (by decide) (Nat.le_of_ble_eq_true rfl) ?_
  intro p e s m args below meth c A ls hM hK hP hD hS hl
  obtain ⟨hx, hb, -, hml, hown, hts, -⟩ := id hM
  have hl : lv_has ls 6 [(0, .ref (a 0)), (1, .int s1), (2, .int s2)] := hl
  obtain ⟨H, hH⟩ : ∃ H : Heap, H = s.heap := ⟨_, rfl⟩
  obtain ⟨locs, hlocs⟩ : ∃ q : List Loc, q = [] := ⟨_, rfl⟩
  have hP : va_P D classes (gwM cy a x) H := by rw [hH]; exact hP
  have hS : va_S A s.heap H locs := by rw [hH, hlocs]; exact hS
  suffices hg : W p l e rX4_could s m args below meth c H locs 0 0 (MQ below (ctQ D (some (.int R.1)) (gwM cy a R.2) A) args s 0 0 A) (F0 m 0 ls []) by rw [hH, hlocs] at hg; exact hg
  clear hH hlocs
  unfold fX4_could at hF
  unfold oX4_could at hO
  refine lv_aload_n hx hb dX4_could_0 rfl (lv_at hl 0 rfl) ?_
  refine lv_iload_n hx hb dX4_could_1 rfl (lv_at hl 1 rfl) ?_
  obtain ⟨h1, hO⟩ := hO
  obtain ⟨q2, e3⟩ : ∃ q, fX4_comes x s1 = q := ⟨_, rfl⟩
  have hF := lt_n e3 hF
  try have hO := lo_n e3 hO
  refine ct_callF hM hK hP hD hS (kX4_comes l D cy a x s1 h1 e3) kvX4_comes wml_X4_80 rfl 0 rfl rfl rfl rfl hl.1 rfl ⟨rfl, rfl, Nat.le_of_ble_eq_true rfl, Nat.le_of_ble_eq_true rfl⟩ (Nat.le_of_ble_eq_true rfl) ⟨Nat.zero_le _, Nat.zero_le _⟩ dX4_could_2 (fun H locs hP hD hS => ?_)
  refine W.eq (g2 := F0 m 5 ls [.int q2]) rfl ?_
  refine lv_if_ne (tgt := 10) hx hb dX4_could_5 (by decide) (fun c4 => ?_) (fun c4 => ?_)
  · have hF := lt_f c4 hF
    have hO := lo_f c4 hO
    refine lv_iload_n hx hb dX4_could_10 rfl (lv_at hl 2 rfl) ?_
    refine lv_i2l (v := Int32.toInt64 s2) hx hb dX4_could_11 rfl ?_
    refine lv_lconst (v := 0) hx hb dX4_could_12 rfl ?_
    refine lv_lconst (v := 1) hx hb dX4_could_13 rfl ?_
    obtain ⟨q6, e7⟩ : ∃ q, fX4_in (Int32.toInt64 s2) 0 1 = q := ⟨_, rfl⟩
    have hF := lt_n e7 hF
    try have hO := lo_n e7 hO
    refine ct_callS hM hK hP hD hS (kX4_in l D cy (Int32.toInt64 s2) 0 1 trivial e7) kvX4_in wml_X4_59 rfl hl.1 rfl ⟨rfl, rfl, Nat.le_of_ble_eq_true rfl, Nat.le_of_ble_eq_true rfl⟩ (Nat.le_of_ble_eq_true rfl) ⟨Nat.zero_le _, Nat.zero_le _⟩ dX4_could_14 (fun H locs hP hD hS => ?_)
    refine W.eq (g2 := F0 m 17 ls [.int q6]) rfl ?_
    have hP : va_P D classes (gwM cy a x) H := hP
    have hD : va_D A (gwM cy a x) := hD
    refine lv_if_ne (tgt := 23) hx hb dX4_could_17 (by decide) (fun c8 => ?_) (fun c8 => ?_)
    · have hF := lt_f c8 hF
      have hO := lo_f c8 hO
      refine lv_aload_n hx hb dX4_could_23 rfl (lv_at hl 0 rfl) ?_
      obtain ⟨h9, hO⟩ := hO
      obtain ⟨q10, e11⟩ : ∃ q, fX4_areAllTold x = q := ⟨_, rfl⟩
      have hF := lt_n e11 hF
      try have hO := lo_n e11 hO
      refine ct_callF hM hK hP hD hS (kX4_areAllTold l D cy a x h9 e11) kvX4_areAllTold wml_X4_155 rfl 0 rfl rfl rfl rfl hl.1 rfl ⟨rfl, rfl, Nat.le_of_ble_eq_true rfl, Nat.le_of_ble_eq_true rfl⟩ (Nat.le_of_ble_eq_true rfl) ⟨Nat.zero_le _, Nat.zero_le _⟩ dX4_could_24 (fun H locs hP hD hS => ?_)
      refine W.eq (g2 := F0 m 27 ls [.int q10]) rfl ?_
      refine lv_if_ne (tgt := 33) hx hb dX4_could_27 (by decide) (fun c12 => ?_) (fun c12 => ?_)
      · have hF := lt_f c12 hF
        have hO := lo_f c12 hO
        refine lv_bipush (v := (-6)) hx hb dX4_could_33 (by decide) ?_
        refine lv_istore_n (lv' := [(3, .int (-6)), (0, .ref (a 0)), (1, .int s1), (2, .int s2)]) hx hb dX4_could_35 rfl hl (by decide) rfl (fun ls hl => ?_)
        refine lv_iconst (v := 0) hx hb dX4_could_36 (by decide) ?_
        refine lv_istore (lv' := [(4, .int 0), (3, .int (-6)), (0, .ref (a 0)), (1, .int s1), (2, .int s2)]) hx hb dX4_could_37 hl (by decide) rfl (fun ls hl => ?_)
        exact tX4_could_39 hM hK 101 x (-6) 0 H locs ls hP hD hS (lv_sub hl [2, 3, 4, 1, 0] rfl) hO hF
      · have hF := lt_t c12 hF
        have hO := lo_t c12 hO
        refine lv_bipush (v := (-5)) hx hb dX4_could_30 (by decide) ?_
        subst hF
        exact ct_iret hM hP hS dX4_could_32
    · have hF := lt_t c8 hF
      have hO := lo_t c8 hO
      refine lv_bipush (v := (-2)) hx hb dX4_could_20 (by decide) ?_
      subst hF
      exact ct_iret hM hP hS dX4_could_22
  · have hF := lt_t c4 hF
    have hO := lo_t c4 hO
    refine lv_iconst (v := (-1)) hx hb dX4_could_8 (by decide) ?_
    subst hF
    exact ct_iret hM hP hS dX4_could_9

abbrev rX4_law : Room := { frames := 4, cells := 0, slots := 0, locals := 99 }
def fX4_law_26 (s1 : Int32) : Nat → tMs → Int32 → Int32 → Int32 → Int32 → Int32 × tMs
  | 0, x, s2, s3, s4, s5 => (0, x)
  | n + 1, x, s2, s3, s4, s5 => if 16 ≤ s5 then (if s1 = 0 then ((s2 / 4), x) else (if s1 = 1 then ((s2 - (s2 / 4) * 4), x) else (s3, x))) else (lt_ (fX4_layNow x) fun q9 => lt_ (s5 / 4) fun x11 => lt_ (s5 - (s5 / 4) * 4) fun x13 => lt_ (fX4_go (m_co q9, m_mi q9, m_mn q9, m_pa q9, m_ca q9, m_dr q9, m_fa q9, m_st q9, m_ha q9, m_pd q9, m_pn q9, m_fr q9, m_at q9, m_wa q9, m_en q9, m_to q9, m_or q9, m_my q9, x11, x13, m_kp q9, m_ik q9, m_ka q9, m_iw q9) (m_co q9) 99) fun q16 => lt_ (fX4_worstOf q16 (m_co q16)) fun q19 => lt_ (fX4_sumOf q16 (m_co q16)) fun q22 => if s2 < 0 then (lt_ (s5 + 1) fun x25 => fX4_law_26 s1 n q16 s5 q19 q22 x25) else (if q19 < s3 then (lt_ (s5 + 1) fun x28 => fX4_law_26 s1 n q16 s5 q19 q22 x28) else (if q19 = s3 then (if s4 ≤ q22 then (lt_ (s5 + 1) fun x34 => fX4_law_26 s1 n q16 s2 s3 s4 x34) else (lt_ (s5 + 1) fun x36 => fX4_law_26 s1 n q16 s5 q19 q22 x36)) else (lt_ (s5 + 1) fun x31 => fX4_law_26 s1 n q16 s2 s3 s4 x31))))
def oX4_law_26 (s1 : Int32) : Nat → tMs → Int32 → Int32 → Int32 → Int32 → Prop
  | 0, _, _, _, _, _ => False
  | n + 1, x, s2, s3, s4, s5 => if 16 ≤ s5 then True else (oX4_layNow x ∧ (lo_ (fX4_layNow x) fun q9 => lo_ (s5 / 4) fun x11 => lo_ (s5 - (s5 / 4) * 4) fun x13 => oX4_go (m_co q9, m_mi q9, m_mn q9, m_pa q9, m_ca q9, m_dr q9, m_fa q9, m_st q9, m_ha q9, m_pd q9, m_pn q9, m_fr q9, m_at q9, m_wa q9, m_en q9, m_to q9, m_or q9, m_my q9, x11, x13, m_kp q9, m_ik q9, m_ka q9, m_iw q9) (m_co q9) 99 ∧ (lo_ (fX4_go (m_co q9, m_mi q9, m_mn q9, m_pa q9, m_ca q9, m_dr q9, m_fa q9, m_st q9, m_ha q9, m_pd q9, m_pn q9, m_fr q9, m_at q9, m_wa q9, m_en q9, m_to q9, m_or q9, m_my q9, x11, x13, m_kp q9, m_ik q9, m_ka q9, m_iw q9) (m_co q9) 99) fun q16 => oX4_worstOf q16 (m_co q16) ∧ (lo_ (fX4_worstOf q16 (m_co q16)) fun q19 => oX4_sumOf q16 (m_co q16) ∧ (lo_ (fX4_sumOf q16 (m_co q16)) fun q22 => if s2 < 0 then (lo_ (s5 + 1) fun x25 => oX4_law_26 s1 n q16 s5 q19 q22 x25) else (if q19 < s3 then (lo_ (s5 + 1) fun x28 => oX4_law_26 s1 n q16 s5 q19 q22 x28) else (if q19 = s3 then (if s4 ≤ q22 then (lo_ (s5 + 1) fun x34 => oX4_law_26 s1 n q16 s2 s3 s4 x34) else (lo_ (s5 + 1) fun x36 => oX4_law_26 s1 n q16 s5 q19 q22 x36)) else (lo_ (s5 + 1) fun x31 => oX4_law_26 s1 n q16 s2 s3 s4 x31))))))))
set_option maxHeartbeats 4000000 in
set_option maxRecDepth 100000 in
theorem tX4_law_26 {p : Program} {l : Launch} {e : Env} {s : State} {m : MethodId} {args : Array Value} {below : List Frame} {meth : Method} {c : Code} {A : Nat → Prop} {D : va_G} {cy : Nat → ClassId} {a : Nat → Nat} {s1 : Int32} {R : Int32 × tMs} (hM : MC p s m args meth c RX4 cX4_law 8 (some .int)) (hK : va_K D classes (ctT cy) s) :
    ∀ (n : Nat) (x : tMs) (s2 : Int32) (s3 : Int32) (s4 : Int32) (s5 : Int32) (H : Heap) (locs : List Loc) (ls : Array Slot), va_P D classes (gwM cy a x) H → va_D A (gwM cy a x) → va_S A s.heap H locs → lv_has ls 8 [(0, .ref (a 0)), (1, .int s1), (2, .int s2), (3, .int s3), (4, .int s4), (5, .int s5)] → oX4_law_26 s1 n x s2 s3 s4 s5 → fX4_law_26 s1 n x s2 s3 s4 s5 = R → W p l e rX4_law s m args below meth c H locs 0 0 (MQ below (ctQ D (some (.int R.1)) (gwM cy a R.2) A) args s 0 0 A) (F0 m 26 ls []) := by
  obtain ⟨hx, hb, -, hml, hown, hts, -⟩ := id hM
  intro n
  induction n with
  | zero =>
    intro x s2 s3 s4 s5 H locs ls hP hD hS hl hO hF
    exact False.elim hO
  | succ n ih =>
    intro x s2 s3 s4 s5 H locs ls hP hD hS hl hO hF
    rw [fX4_law_26] at hF
    rw [oX4_law_26] at hO
    refine lv_iload hx hb dX4_law_26 (lv_at hl 5 rfl) ?_
    refine lv_bipush (v := 16) hx hb dX4_law_28 (by decide) ?_
    refine lv_icmp_ge (tgt := 122) hx hb dX4_law_30 (by decide) (fun c5 => ?_) (fun c5 => ?_)
    · have hF := lt_t c5 hF
      have hO := lo_t c5 hO
      refine lv_iload_n hx hb dX4_law_122 rfl (lv_at hl 1 rfl) ?_
      refine lv_if_ne (tgt := 132) hx hb dX4_law_123 (by decide) (fun c6 => ?_) (fun c6 => ?_)
      · have hF := lt_f c6 hF
        refine lv_iload_n hx hb dX4_law_132 rfl (lv_at hl 1 rfl) ?_
        refine lv_iconst (v := 1) hx hb dX4_law_133 (by decide) ?_
        refine lv_icmp_ne (tgt := 143) hx hb dX4_law_134 (by decide) (fun c7 => ?_) (fun c7 => ?_)
        · have hF := lt_f c7 hF
          refine lv_iload_n hx hb dX4_law_143 rfl (lv_at hl 3 rfl) ?_
          subst hF
          exact ct_iret hM hP hS dX4_law_144
        · have hF := lt_t c7 hF
          refine lv_iload_n hx hb dX4_law_137 rfl (lv_at hl 2 rfl) ?_
          refine lv_iconst (v := 4) hx hb dX4_law_138 (by decide) ?_
          refine lv_irem hx hb dX4_law_139 (by decide) ?_
          refine lv_goto (tgt := 144) hx hb dX4_law_140 (by decide) ?_
          subst hF
          exact ct_iret hM hP hS dX4_law_144
      · have hF := lt_t c6 hF
        refine lv_iload_n hx hb dX4_law_126 rfl (lv_at hl 2 rfl) ?_
        refine lv_iconst (v := 4) hx hb dX4_law_127 (by decide) ?_
        refine lv_idiv hx hb dX4_law_128 (by decide) ?_
        refine lv_goto (tgt := 144) hx hb dX4_law_129 (by decide) ?_
        subst hF
        exact ct_iret hM hP hS dX4_law_144
    · have hF := lt_f c5 hF
      have hO := lo_f c5 hO
      refine lv_aload_n hx hb dX4_law_33 rfl (lv_at hl 0 rfl) ?_
      obtain ⟨h8, hO⟩ := hO
      obtain ⟨q9, e10⟩ : ∃ q, fX4_layNow x = q := ⟨_, rfl⟩
      have hF := lt_n e10 hF
      try have hO := lo_n e10 hO
      refine ct_callF hM hK hP hD hS (kX4_layNow l D cy a x h8 e10) kvX4_layNow wml_X4_124 rfl 0 rfl rfl rfl rfl hl.1 rfl ⟨rfl, rfl, Nat.le_of_ble_eq_true rfl, Nat.le_of_ble_eq_true rfl⟩ (Nat.le_of_ble_eq_true rfl) ⟨Nat.zero_le _, Nat.zero_le _⟩ dX4_law_34 (fun H locs hP hD hS => ?_)
      refine W.eq (g2 := F0 m 37 ls []) rfl ?_
      have hP : va_P D classes (gwM cy a q9) H := hP
      have hD : va_D A (gwM cy a q9) := hD
      refine lv_aload_n hx hb dX4_law_37 rfl (lv_at hl 0 rfl) ?_
      refine lv_iload hx hb dX4_law_38 (lv_at hl 5 rfl) ?_
      refine lv_iconst (v := 4) hx hb dX4_law_40 (by decide) ?_
      refine lv_idiv hx hb dX4_law_41 (by decide) ?_
      refine lv_topi (fun x11 e12 => ?_)
      have hF := lt_n e12.symm hF
      try have hO := lo_n e12.symm hO
      refine ct_put1 (C := RX4) (T := TX4) (N := 24) (ci := 4) (v := .int x11) hM hK hP hD hS inX4 tyX4 tyX4_ok nmX4 0 rfl rfl 18 (by decide) wfl_X4_100 rfl (by first | rfl | decide) (by first | rfl | decide) (Nat.le_of_ble_eq_true rfl) dX4_law_42 (fun H locs hP hD hS => ?_)
      have hP : va_P D classes (gwM cy a (m_co q9, m_mi q9, m_mn q9, m_pa q9, m_ca q9, m_dr q9, m_fa q9, m_st q9, m_ha q9, m_pd q9, m_pn q9, m_fr q9, m_at q9, m_wa q9, m_en q9, m_to q9, m_or q9, m_my q9, x11, m_bs q9, m_kp q9, m_ik q9, m_ka q9, m_iw q9)) H := hP
      have hD : va_D A (gwM cy a (m_co q9, m_mi q9, m_mn q9, m_pa q9, m_ca q9, m_dr q9, m_fa q9, m_st q9, m_ha q9, m_pd q9, m_pn q9, m_fr q9, m_at q9, m_wa q9, m_en q9, m_to q9, m_or q9, m_my q9, x11, m_bs q9, m_kp q9, m_ik q9, m_ka q9, m_iw q9)) := hD
      refine lv_aload_n hx hb dX4_law_45 rfl (lv_at hl 0 rfl) ?_
      refine lv_iload hx hb dX4_law_46 (lv_at hl 5 rfl) ?_
      refine lv_iconst (v := 4) hx hb dX4_law_48 (by decide) ?_
      refine lv_irem hx hb dX4_law_49 (by decide) ?_
      refine lv_topi (fun x13 e14 => ?_)
      have hF := lt_n e14.symm hF
      try have hO := lo_n e14.symm hO
      refine ct_put1 (C := RX4) (T := TX4) (N := 24) (ci := 4) (v := .int x13) hM hK hP hD hS inX4 tyX4 tyX4_ok nmX4 0 rfl rfl 19 (by decide) wfl_X4_103 rfl (by first | rfl | decide) (by first | rfl | decide) (Nat.le_of_ble_eq_true rfl) dX4_law_50 (fun H locs hP hD hS => ?_)
      have hP : va_P D classes (gwM cy a (m_co q9, m_mi q9, m_mn q9, m_pa q9, m_ca q9, m_dr q9, m_fa q9, m_st q9, m_ha q9, m_pd q9, m_pn q9, m_fr q9, m_at q9, m_wa q9, m_en q9, m_to q9, m_or q9, m_my q9, x11, x13, m_kp q9, m_ik q9, m_ka q9, m_iw q9)) H := hP
      have hD : va_D A (gwM cy a (m_co q9, m_mi q9, m_mn q9, m_pa q9, m_ca q9, m_dr q9, m_fa q9, m_st q9, m_ha q9, m_pd q9, m_pn q9, m_fr q9, m_at q9, m_wa q9, m_en q9, m_to q9, m_or q9, m_my q9, x11, x13, m_kp q9, m_ik q9, m_ka q9, m_iw q9)) := hD
      refine lv_aload_n hx hb dX4_law_53 rfl (lv_at hl 0 rfl) ?_
      refine lv_aload_n hx hb dX4_law_54 rfl (lv_at hl 0 rfl) ?_
      refine ct_get (C := RX4) (T := TX4) (N := 24) (ci := 4) (v := .int (m_co q9)) hM hK hP inX4 0 rfl rfl 0 (by decide) wfl_X4_67 rfl dX4_law_55 ?_
      refine lv_bipush (v := 99) hx hb dX4_law_58 (by decide) ?_
      obtain ⟨h15, hO⟩ := hO
      obtain ⟨q16, e17⟩ : ∃ q, fX4_go (m_co q9, m_mi q9, m_mn q9, m_pa q9, m_ca q9, m_dr q9, m_fa q9, m_st q9, m_ha q9, m_pd q9, m_pn q9, m_fr q9, m_at q9, m_wa q9, m_en q9, m_to q9, m_or q9, m_my q9, x11, x13, m_kp q9, m_ik q9, m_ka q9, m_iw q9) (m_co q9) 99 = q := ⟨_, rfl⟩
      have hF := lt_n e17 hF
      try have hO := lo_n e17 hO
      refine ct_callF hM hK hP hD hS (kX4_go l D cy a (m_co q9, m_mi q9, m_mn q9, m_pa q9, m_ca q9, m_dr q9, m_fa q9, m_st q9, m_ha q9, m_pd q9, m_pn q9, m_fr q9, m_at q9, m_wa q9, m_en q9, m_to q9, m_or q9, m_my q9, x11, x13, m_kp q9, m_ik q9, m_ka q9, m_iw q9) (m_co q9) 99 h15 e17) kvX4_go wml_X4_127 rfl 0 rfl rfl rfl rfl hl.1 rfl ⟨rfl, rfl, Nat.le_of_ble_eq_true rfl, Nat.le_of_ble_eq_true rfl⟩ (Nat.le_of_ble_eq_true rfl) ⟨Nat.zero_le _, Nat.zero_le _⟩ dX4_law_60 (fun H locs hP hD hS => ?_)
      refine W.eq (g2 := F0 m 63 ls []) rfl ?_
      have hP : va_P D classes (gwM cy a q16) H := hP
      have hD : va_D A (gwM cy a q16) := hD
      refine lv_aload_n hx hb dX4_law_63 rfl (lv_at hl 0 rfl) ?_
      refine lv_aload_n hx hb dX4_law_64 rfl (lv_at hl 0 rfl) ?_
      refine ct_get (C := RX4) (T := TX4) (N := 24) (ci := 4) (v := .int (m_co q16)) hM hK hP inX4 0 rfl rfl 0 (by decide) wfl_X4_67 rfl dX4_law_65 ?_
      obtain ⟨h18, hO⟩ := hO
      obtain ⟨q19, e20⟩ : ∃ q, fX4_worstOf q16 (m_co q16) = q := ⟨_, rfl⟩
      have hF := lt_n e20 hF
      try have hO := lo_n e20 hO
      refine ct_callF hM hK hP hD hS (kX4_worstOf l D cy a q16 (m_co q16) h18 e20) kvX4_worstOf wml_X4_134 rfl 0 rfl rfl rfl rfl hl.1 rfl ⟨rfl, rfl, Nat.le_of_ble_eq_true rfl, Nat.le_of_ble_eq_true rfl⟩ (Nat.le_of_ble_eq_true rfl) ⟨Nat.zero_le _, Nat.zero_le _⟩ dX4_law_68 (fun H locs hP hD hS => ?_)
      refine W.eq (g2 := F0 m 71 ls [.int q19]) rfl ?_
      refine lv_istore (lv' := [(6, .int q19), (0, .ref (a 0)), (1, .int s1), (2, .int s2), (3, .int s3), (4, .int s4), (5, .int s5)]) hx hb dX4_law_71 hl (by decide) rfl (fun ls hl => ?_)
      refine lv_aload_n hx hb dX4_law_73 rfl (lv_at hl 1 rfl) ?_
      refine lv_aload_n hx hb dX4_law_74 rfl (lv_at hl 1 rfl) ?_
      refine ct_get (C := RX4) (T := TX4) (N := 24) (ci := 4) (v := .int (m_co q16)) hM hK hP inX4 0 rfl rfl 0 (by decide) wfl_X4_67 rfl dX4_law_75 ?_
      obtain ⟨h21, hO⟩ := hO
      obtain ⟨q22, e23⟩ : ∃ q, fX4_sumOf q16 (m_co q16) = q := ⟨_, rfl⟩
      have hF := lt_n e23 hF
      try have hO := lo_n e23 hO
      refine ct_callF hM hK hP hD hS (kX4_sumOf l D cy a q16 (m_co q16) h21 e23) kvX4_sumOf wml_X4_141 rfl 0 rfl rfl rfl rfl hl.1 rfl ⟨rfl, rfl, Nat.le_of_ble_eq_true rfl, Nat.le_of_ble_eq_true rfl⟩ (Nat.le_of_ble_eq_true rfl) ⟨Nat.zero_le _, Nat.zero_le _⟩ dX4_law_78 (fun H locs hP hD hS => ?_)
      refine W.eq (g2 := F0 m 81 ls [.int q22]) rfl ?_
      refine lv_istore (lv' := [(7, .int q22), (6, .int q19), (0, .ref (a 0)), (1, .int s1), (2, .int s2), (3, .int s3), (4, .int s4), (5, .int s5)]) hx hb dX4_law_81 hl (by decide) rfl (fun ls hl => ?_)
      refine lv_iload_n hx hb dX4_law_83 rfl (lv_at hl 4 rfl) ?_
      refine lv_if_lt (tgt := 106) hx hb dX4_law_84 (by decide) (fun c24 => ?_) (fun c24 => ?_)
      · have hF := lt_t c24 hF
        have hO := lo_t c24 hO
        refine lv_iload hx hb dX4_law_106 (lv_at hl 7 rfl) ?_
        refine lv_istore_n (lv' := [(2, .int s5), (7, .int q22), (6, .int q19), (0, .ref (a 0)), (1, .int s1), (3, .int s3), (4, .int s4), (5, .int s5)]) hx hb dX4_law_108 rfl hl (by decide) rfl (fun ls hl => ?_)
        refine lv_iload hx hb dX4_law_109 (lv_at hl 2 rfl) ?_
        refine lv_istore_n (lv' := [(3, .int q19), (2, .int s5), (7, .int q22), (6, .int q19), (0, .ref (a 0)), (1, .int s1), (4, .int s4), (5, .int s5)]) hx hb dX4_law_111 rfl hl (by decide) rfl (fun ls hl => ?_)
        refine lv_iload hx hb dX4_law_112 (lv_at hl 2 rfl) ?_
        refine lv_istore (lv' := [(4, .int q22), (3, .int q19), (2, .int s5), (7, .int q22), (6, .int q19), (0, .ref (a 0)), (1, .int s1), (5, .int s5)]) hx hb dX4_law_114 hl (by decide) rfl (fun ls hl => ?_)
        obtain ⟨x25, e26⟩ : ∃ y : Int32, s5 + 1 = y := ⟨_, rfl⟩
        have hF := lt_n e26 hF
        try have hO := lo_n e26 hO
        refine lv_iinc (v := x25) (lv' := [(5, .int x25), (4, .int q22), (3, .int q19), (2, .int s5), (7, .int q22), (6, .int q19), (0, .ref (a 0)), (1, .int s1)]) hx hb dX4_law_116 hl (k := 7) rfl (by rw [← e26]; rfl) (by decide) rfl (fun ls hl => ?_)
        refine lv_goto (tgt := 26) hx hb dX4_law_119 (by decide) ?_
        exact ih q16 s5 q19 q22 x25 H locs ls hP hD hS (lv_sub hl [6, 7, 3, 2, 1, 0] rfl) hO hF
      · have hF := lt_f c24 hF
        have hO := lo_f c24 hO
        refine lv_iload hx hb dX4_law_87 (lv_at hl 1 rfl) ?_
        refine lv_iload_n hx hb dX4_law_89 rfl (lv_at hl 5 rfl) ?_
        refine lv_icmp_lt (tgt := 106) hx hb dX4_law_90 (by decide) (fun c27 => ?_) (fun c27 => ?_)
        · have hF := lt_t c27 hF
          have hO := lo_t c27 hO
          refine lv_iload hx hb dX4_law_106 (lv_at hl 7 rfl) ?_
          refine lv_istore_n (lv' := [(2, .int s5), (7, .int q22), (6, .int q19), (0, .ref (a 0)), (1, .int s1), (3, .int s3), (4, .int s4), (5, .int s5)]) hx hb dX4_law_108 rfl hl (by decide) rfl (fun ls hl => ?_)
          refine lv_iload hx hb dX4_law_109 (lv_at hl 2 rfl) ?_
          refine lv_istore_n (lv' := [(3, .int q19), (2, .int s5), (7, .int q22), (6, .int q19), (0, .ref (a 0)), (1, .int s1), (4, .int s4), (5, .int s5)]) hx hb dX4_law_111 rfl hl (by decide) rfl (fun ls hl => ?_)
          refine lv_iload hx hb dX4_law_112 (lv_at hl 2 rfl) ?_
          refine lv_istore (lv' := [(4, .int q22), (3, .int q19), (2, .int s5), (7, .int q22), (6, .int q19), (0, .ref (a 0)), (1, .int s1), (5, .int s5)]) hx hb dX4_law_114 hl (by decide) rfl (fun ls hl => ?_)
          obtain ⟨x28, e29⟩ : ∃ y : Int32, s5 + 1 = y := ⟨_, rfl⟩
          have hF := lt_n e29 hF
          try have hO := lo_n e29 hO
          refine lv_iinc (v := x28) (lv' := [(5, .int x28), (4, .int q22), (3, .int q19), (2, .int s5), (7, .int q22), (6, .int q19), (0, .ref (a 0)), (1, .int s1)]) hx hb dX4_law_116 hl (k := 7) rfl (by rw [← e29]; rfl) (by decide) rfl (fun ls hl => ?_)
          refine lv_goto (tgt := 26) hx hb dX4_law_119 (by decide) ?_
          exact ih q16 s5 q19 q22 x28 H locs ls hP hD hS (lv_sub hl [6, 7, 3, 2, 1, 0] rfl) hO hF
        · have hF := lt_f c27 hF
          have hO := lo_f c27 hO
          refine lv_iload hx hb dX4_law_93 (lv_at hl 1 rfl) ?_
          refine lv_iload_n hx hb dX4_law_95 rfl (lv_at hl 5 rfl) ?_
          refine lv_icmp_ne (tgt := 116) hx hb dX4_law_96 (by decide) (fun c30 => ?_) (fun c30 => ?_)
          · have hF := lt_f c30 hF
            have hO := lo_f c30 hO
            obtain ⟨x31, e32⟩ : ∃ y : Int32, s5 + 1 = y := ⟨_, rfl⟩
            have hF := lt_n e32 hF
            try have hO := lo_n e32 hO
            refine lv_iinc (v := x31) (lv' := [(5, .int x31), (7, .int q22), (6, .int q19), (0, .ref (a 0)), (1, .int s1), (2, .int s2), (3, .int s3), (4, .int s4)]) hx hb dX4_law_116 hl (k := 7) rfl (by rw [← e32]; rfl) (by decide) rfl (fun ls hl => ?_)
            refine lv_goto (tgt := 26) hx hb dX4_law_119 (by decide) ?_
            exact ih q16 s2 s3 s4 x31 H locs ls hP hD hS (lv_sub hl [3, 4, 5, 6, 7, 0] rfl) hO hF
          · have hF := lt_t c30 hF
            have hO := lo_t c30 hO
            refine lv_iload hx hb dX4_law_99 (lv_at hl 0 rfl) ?_
            refine lv_iload hx hb dX4_law_101 (lv_at hl 6 rfl) ?_
            refine lv_icmp_ge (tgt := 116) hx hb dX4_law_103 (by decide) (fun c33 => ?_) (fun c33 => ?_)
            · have hF := lt_t c33 hF
              have hO := lo_t c33 hO
              obtain ⟨x34, e35⟩ : ∃ y : Int32, s5 + 1 = y := ⟨_, rfl⟩
              have hF := lt_n e35 hF
              try have hO := lo_n e35 hO
              refine lv_iinc (v := x34) (lv' := [(5, .int x34), (7, .int q22), (6, .int q19), (0, .ref (a 0)), (1, .int s1), (2, .int s2), (3, .int s3), (4, .int s4)]) hx hb dX4_law_116 hl (k := 7) rfl (by rw [← e35]; rfl) (by decide) rfl (fun ls hl => ?_)
              refine lv_goto (tgt := 26) hx hb dX4_law_119 (by decide) ?_
              exact ih q16 s2 s3 s4 x34 H locs ls hP hD hS (lv_sub hl [3, 4, 5, 6, 7, 0] rfl) hO hF
            · have hF := lt_f c33 hF
              have hO := lo_f c33 hO
              refine lv_iload hx hb dX4_law_106 (lv_at hl 7 rfl) ?_
              refine lv_istore_n (lv' := [(2, .int s5), (7, .int q22), (6, .int q19), (0, .ref (a 0)), (1, .int s1), (3, .int s3), (4, .int s4), (5, .int s5)]) hx hb dX4_law_108 rfl hl (by decide) rfl (fun ls hl => ?_)
              refine lv_iload hx hb dX4_law_109 (lv_at hl 2 rfl) ?_
              refine lv_istore_n (lv' := [(3, .int q19), (2, .int s5), (7, .int q22), (6, .int q19), (0, .ref (a 0)), (1, .int s1), (4, .int s4), (5, .int s5)]) hx hb dX4_law_111 rfl hl (by decide) rfl (fun ls hl => ?_)
              refine lv_iload hx hb dX4_law_112 (lv_at hl 2 rfl) ?_
              refine lv_istore (lv' := [(4, .int q22), (3, .int q19), (2, .int s5), (7, .int q22), (6, .int q19), (0, .ref (a 0)), (1, .int s1), (5, .int s5)]) hx hb dX4_law_114 hl (by decide) rfl (fun ls hl => ?_)
              obtain ⟨x36, e37⟩ : ∃ y : Int32, s5 + 1 = y := ⟨_, rfl⟩
              have hF := lt_n e37 hF
              try have hO := lo_n e37 hO
              refine lv_iinc (v := x36) (lv' := [(5, .int x36), (4, .int q22), (3, .int q19), (2, .int s5), (7, .int q22), (6, .int q19), (0, .ref (a 0)), (1, .int s1)]) hx hb dX4_law_116 hl (k := 7) rfl (by rw [← e37]; rfl) (by decide) rfl (fun ls hl => ?_)
              refine lv_goto (tgt := 26) hx hb dX4_law_119 (by decide) ?_
              exact ih q16 s5 q19 q22 x36 H locs ls hP hD hS (lv_sub hl [6, 7, 3, 2, 1, 0] rfl) hO hF

def fX4_law (x : tMs) (s1 : Int32) : Int32 × tMs := lt_ (fX4_in (Int32.toInt64 s1) 0 2) fun q2 => if q2 = 0 then ((-2), x) else (fX4_law_26 s1 16 x (-6) 0 0 1)
def oX4_law (x : tMs) (s1 : Int32) : Prop := lo_ (fX4_in (Int32.toInt64 s1) 0 2) fun q2 => if q2 = 0 then True else (oX4_law_26 s1 16 x (-6) 0 0 1)
theorem kvX4_law : KV yX4_law cX4_law 8 (some .int) 1 := ⟨wcd_X4_law, wim_X4_law, wsl_X4_law, win_X4, by decide +kernel, by decide +kernel, by decide +kernel⟩
set_option maxHeartbeats 4000000 in
set_option maxRecDepth 100000 in
theorem kX4_law (l : Launch) (D : va_G) (cy : Nat → ClassId) (a : Nat → Nat) (x : tMs) (s1 : Int32) {R : Int32 × tMs} (hO : oX4_law x s1) (hF : fX4_law x s1 = R) : CT l D cy yX4_law cX4_law 8 (some .int) rX4_law [.ref (a 0), .int s1] (gwM cy a x) (some (.int R.1)) (gwM cy a R.2) := by
  refine ct_of (by decide) (Nat.le_of_ble_eq_true rfl) ?_
  intro p e s m args below meth c A ls hM hK hP hD hS hl
  obtain ⟨hx, hb, -, hml, hown, hts, -⟩ := id hM
  have hl : lv_has ls 8 [(0, .ref (a 0)), (1, .int s1)] := hl
  obtain ⟨H, hH⟩ : ∃ H : Heap, H = s.heap := ⟨_, rfl⟩
  obtain ⟨locs, hlocs⟩ : ∃ q : List Loc, q = [] := ⟨_, rfl⟩
  have hP : va_P D classes (gwM cy a x) H := by rw [hH]; exact hP
  have hS : va_S A s.heap H locs := by rw [hH, hlocs]; exact hS
  suffices hg : W p l e rX4_law s m args below meth c H locs 0 0 (MQ below (ctQ D (some (.int R.1)) (gwM cy a R.2) A) args s 0 0 A) (F0 m 0 ls []) by rw [hH, hlocs] at hg; exact hg
  clear hH hlocs
  unfold fX4_law at hF
  unfold oX4_law at hO
  refine lv_iload_n hx hb dX4_law_0 rfl (lv_at hl 1 rfl) ?_
  refine lv_i2l (v := Int32.toInt64 s1) hx hb dX4_law_1 rfl ?_
  refine lv_lconst (v := 0) hx hb dX4_law_2 rfl ?_
  refine lv_ldc2 (v := 2) hx hb hown (hts _ wct_X4_162) dX4_law_3 ?_
  obtain ⟨q2, e3⟩ : ∃ q, fX4_in (Int32.toInt64 s1) 0 2 = q := ⟨_, rfl⟩
  have hF := lt_n e3 hF
  try have hO := lo_n e3 hO
  refine ct_callS hM hK hP hD hS (kX4_in l D cy (Int32.toInt64 s1) 0 2 trivial e3) kvX4_in wml_X4_59 rfl hl.1 rfl ⟨rfl, rfl, Nat.le_of_ble_eq_true rfl, Nat.le_of_ble_eq_true rfl⟩ (Nat.le_of_ble_eq_true rfl) ⟨Nat.zero_le _, Nat.zero_le _⟩ dX4_law_6 (fun H locs hP hD hS => ?_)
  refine W.eq (g2 := F0 m 9 ls [.int q2]) rfl ?_
  have hP : va_P D classes (gwM cy a x) H := hP
  have hD : va_D A (gwM cy a x) := hD
  refine lv_if_ne (tgt := 15) hx hb dX4_law_9 (by decide) (fun c4 => ?_) (fun c4 => ?_)
  · have hF := lt_f c4 hF
    have hO := lo_f c4 hO
    refine lv_bipush (v := (-6)) hx hb dX4_law_15 (by decide) ?_
    refine lv_istore_n (lv' := [(2, .int (-6)), (0, .ref (a 0)), (1, .int s1)]) hx hb dX4_law_17 rfl hl (by decide) rfl (fun ls hl => ?_)
    refine lv_iconst (v := 0) hx hb dX4_law_18 (by decide) ?_
    refine lv_istore_n (lv' := [(3, .int 0), (2, .int (-6)), (0, .ref (a 0)), (1, .int s1)]) hx hb dX4_law_19 rfl hl (by decide) rfl (fun ls hl => ?_)
    refine lv_iconst (v := 0) hx hb dX4_law_20 (by decide) ?_
    refine lv_istore (lv' := [(4, .int 0), (3, .int 0), (2, .int (-6)), (0, .ref (a 0)), (1, .int s1)]) hx hb dX4_law_21 hl (by decide) rfl (fun ls hl => ?_)
    refine lv_iconst (v := 1) hx hb dX4_law_23 (by decide) ?_
    refine lv_istore (lv' := [(5, .int 1), (4, .int 0), (3, .int 0), (2, .int (-6)), (0, .ref (a 0)), (1, .int s1)]) hx hb dX4_law_24 hl (by decide) rfl (fun ls hl => ?_)
    exact tX4_law_26 hM hK 16 x (-6) 0 0 1 H locs ls hP hD hS (lv_sub hl [4, 5, 3, 2, 1, 0] rfl) hO hF
  · have hF := lt_t c4 hF
    have hO := lo_t c4 hO
    refine lv_bipush (v := (-2)) hx hb dX4_law_12 (by decide) ?_
    subst hF
    exact ct_iret hM hP hS dX4_law_14

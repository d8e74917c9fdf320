abbrev rX1_nextAt : Room := { frames := 2, cells := 0, slots := 0, locals := 49 }
def fX1_nextAt_6 (v : tVl) (s1 : Int32) (s2 : Int32) : Nat → Int32 → Int32 → Int32
  | 0, s3, s4 => 0
  | n + 1, s3, s4 => if 8 ≤ s4 then s3 else (if ((s2 >>> (s4 &&& 31)) &&& 1) = 0 then (lt_ (s4 + 1) fun x3 => fX1_nextAt_6 v s1 s2 n s3 x3) else (if s1 < (v_mn v) (Int32.toNatClampNeg s4) then (lt_ (s4 + 1) fun x7 => fX1_nextAt_6 v s1 s2 n s3 x7) else (if s3 = (-6) then (lt_ (s4 + 1) fun x10 => fX1_nextAt_6 v s1 s2 n s4 x10) else (lt_ (fX1_goesBefore v s4 s3 s1) fun q13 => if q13 = 0 then (lt_ (s4 + 1) fun x16 => fX1_nextAt_6 v s1 s2 n s3 x16) else (lt_ (s4 + 1) fun x18 => fX1_nextAt_6 v s1 s2 n s4 x18)))))
def oX1_nextAt_6 (v : tVl) (s1 : Int32) (s2 : Int32) : Nat → Int32 → Int32 → Prop
  | 0, _, _ => False
  | n + 1, s3, s4 => if 8 ≤ s4 then True else (if ((s2 >>> (s4 &&& 31)) &&& 1) = 0 then (lo_ (s4 + 1) fun x3 => oX1_nextAt_6 v s1 s2 n s3 x3) else (vp_in s4 8 ∧ (if s1 < (v_mn v) (Int32.toNatClampNeg s4) then (lo_ (s4 + 1) fun x7 => oX1_nextAt_6 v s1 s2 n s3 x7) else (if s3 = (-6) then (lo_ (s4 + 1) fun x10 => oX1_nextAt_6 v s1 s2 n s4 x10) else (oX1_goesBefore v s4 s3 s1 ∧ (lo_ (fX1_goesBefore v s4 s3 s1) fun q13 => if q13 = 0 then (lo_ (s4 + 1) fun x16 => oX1_nextAt_6 v s1 s2 n s3 x16) else (lo_ (s4 + 1) fun x18 => oX1_nextAt_6 v s1 s2 n s4 x18)))))))
set_option maxHeartbeats 4000000 in
set_option maxRecDepth 100000 in
theorem tX1_nextAt_6 {p : Program} {l : Launch} {e : Env} {s : State} {m : MethodId} {args : Array Value} {below : List Frame} {meth : Method} {c : Code} {A : Nat → Prop} {D : va_G} {cy : Nat → ClassId} {a : Nat → Nat} {v : tVl} {s1 : Int32} {s2 : Int32} {R : Int32} (hM : MC p s m args meth c RX1 cX1_nextAt 6 (some .int)) (hK : va_K D classes (ctT cy) s) :
    ∀ (n : Nat) (s3 : Int32) (s4 : Int32) (H : Heap) (locs : List Loc) (ls : Array Slot), va_P D classes (gwV cy a v) H → va_D A (gwV cy a v) → va_S A s.heap H locs → lv_has ls 6 [(0, .ref (a 0)), (1, .int s1), (2, .int s2), (3, .int s3), (4, .int s4)] → oX1_nextAt_6 v s1 s2 n s3 s4 → fX1_nextAt_6 v s1 s2 n s3 s4 = R → W p l e rX1_nextAt s m args below meth c H locs 0 0 (MQ below (ctQ D (some (.int R)) (gwV cy a v) A) args s 0 0 A) (F0 m 6 ls []) := by
  obtain ⟨hx, hb, -, hml, hown, hts, -⟩ := id hM
  intro n
  induction n with
  | zero =>
    intro s3 s4 H locs ls hP hD hS hl hO hF
    exact False.elim hO
  | succ n ih =>
    intro s3 s4 H locs ls hP hD hS hl hO hF
    rw [fX1_nextAt_6] at hF
    rw [oX1_nextAt_6] at hO
    refine lv_iload hx hb dX1_nextAt_6 (lv_at hl 4 rfl) ?_
    refine lv_bipush (v := 8) hx hb dX1_nextAt_8 (by decide) ?_
    refine lv_icmp_ge (tgt := 71) hx hb dX1_nextAt_10 (by decide) (fun c1 => ?_) (fun c1 => ?_)
    · have hF := lt_t c1 hF
      have hO := lo_t c1 hO
      refine lv_iload_n hx hb dX1_nextAt_71 rfl (lv_at hl 3 rfl) ?_
      subst hF
      exact ct_iret hM hP hS dX1_nextAt_72
    · have hF := lt_f c1 hF
      have hO := lo_f c1 hO
      refine lv_iload_n hx hb dX1_nextAt_13 rfl (lv_at hl 2 rfl) ?_
      refine lv_iload hx hb dX1_nextAt_14 (lv_at hl 4 rfl) ?_
      refine lv_ishr hx hb dX1_nextAt_16 ?_
      refine lv_iconst (v := 1) hx hb dX1_nextAt_17 (by decide) ?_
      refine lv_iand hx hb dX1_nextAt_18 ?_
      refine lv_if_eq (tgt := 37) hx hb dX1_nextAt_19 (by decide) (fun c2 => ?_) (fun c2 => ?_)
      · have hF := lt_t c2 hF
        have hO := lo_t c2 hO
        refine lv_iconst (v := 0) hx hb dX1_nextAt_37 (by decide) ?_
        refine lv_istore (lv' := [(5, .int 0), (0, .ref (a 0)), (1, .int s1), (2, .int s2), (3, .int s3), (4, .int s4)]) hx hb dX1_nextAt_38 hl (by decide) rfl (fun ls hl => ?_)
        refine lv_iload hx hb dX1_nextAt_40 (lv_at hl 0 rfl) ?_
        refine lv_if_eq (tgt := 65) hx hb dX1_nextAt_42 (by decide) (fun _ => ?_) (fun z => absurd (by decide) z)
        obtain ⟨x3, e4⟩ : ∃ y : Int32, s4 + 1 = y := ⟨_, rfl⟩
        have hF := lt_n e4 hF
        try have hO := lo_n e4 hO
        refine lv_iinc (v := x3) (lv' := [(4, .int x3), (5, .int 0), (0, .ref (a 0)), (1, .int s1), (2, .int s2), (3, .int s3)]) hx hb dX1_nextAt_65 hl (k := 5) rfl (by rw [← e4]; rfl) (by decide) rfl (fun ls hl => ?_)
        refine lv_goto (tgt := 6) hx hb dX1_nextAt_68 (by decide) ?_
        exact ih s3 x3 H locs ls hP hD hS (lv_sub hl [2, 3, 4, 5, 0] rfl) hO hF
      · have hF := lt_f c2 hF
        have hO := lo_f c2 hO
        refine lv_aload_n hx hb dX1_nextAt_22 rfl (lv_at hl 0 rfl) ?_
        refine ct_get (C := RX1) (T := TX1) (N := 6) (ci := 1) (v := .ref (a 2)) hM hK hP inX1 0 rfl rfl 1 (by decide) wfl_X1_15 rfl dX1_nextAt_23 ?_
        refine lv_iload hx hb dX1_nextAt_26 (lv_at hl 4 rfl) ?_
        obtain ⟨h5, hO⟩ := hO
        refine va_iald hx hb hK hP 2 0 (f := v_mn v) (n := 8) (cA := cy 0) rfl rfl h5 dX1_nextAt_28 ?_
        refine lv_iload_n hx hb dX1_nextAt_29 rfl (lv_at hl 1 rfl) ?_
        refine lv_icmp_gt (tgt := 37) hx hb dX1_nextAt_30 (by decide) (fun c6 => ?_) (fun c6 => ?_)
        · have hF := lt_t c6 hF
          have hO := lo_t c6 hO
          refine lv_iconst (v := 0) hx hb dX1_nextAt_37 (by decide) ?_
          refine lv_istore (lv' := [(5, .int 0), (0, .ref (a 0)), (1, .int s1), (2, .int s2), (3, .int s3), (4, .int s4)]) hx hb dX1_nextAt_38 hl (by decide) rfl (fun ls hl => ?_)
          refine lv_iload hx hb dX1_nextAt_40 (lv_at hl 0 rfl) ?_
          refine lv_if_eq (tgt := 65) hx hb dX1_nextAt_42 (by decide) (fun _ => ?_) (fun z => absurd (by decide) z)
          obtain ⟨x7, e8⟩ : ∃ y : Int32, s4 + 1 = y := ⟨_, rfl⟩
          have hF := lt_n e8 hF
          try have hO := lo_n e8 hO
          refine lv_iinc (v := x7) (lv' := [(4, .int x7), (5, .int 0), (0, .ref (a 0)), (1, .int s1), (2, .int s2), (3, .int s3)]) hx hb dX1_nextAt_65 hl (k := 5) rfl (by rw [← e8]; rfl) (by decide) rfl (fun ls hl => ?_)
          refine lv_goto (tgt := 6) hx hb dX1_nextAt_68 (by decide) ?_
          exact ih s3 x7 H locs ls hP hD hS (lv_sub hl [2, 3, 4, 5, 0] rfl) hO hF
        · have hF := lt_f c6 hF
          have hO := lo_f c6 hO
          refine lv_iconst (v := 1) hx hb dX1_nextAt_33 (by decide) ?_
          refine lv_goto (tgt := 38) hx hb dX1_nextAt_34 (by decide) ?_
          refine lv_istore (lv' := [(5, .int 1), (0, .ref (a 0)), (1, .int s1), (2, .int s2), (3, .int s3), (4, .int s4)]) hx hb dX1_nextAt_38 hl (by decide) rfl (fun ls hl => ?_)
          refine lv_iload hx hb dX1_nextAt_40 (lv_at hl 0 rfl) ?_
          refine lv_if_eq (tgt := 65) hx hb dX1_nextAt_42 (by decide) (fun z => absurd z (by decide)) (fun _ => ?_)
          refine lv_iload_n hx hb dX1_nextAt_45 rfl (lv_at hl 4 rfl) ?_
          refine lv_bipush (v := (-6)) hx hb dX1_nextAt_46 (by decide) ?_
          refine lv_icmp_eq (tgt := 62) hx hb dX1_nextAt_48 (by decide) (fun c9 => ?_) (fun c9 => ?_)
          · have hF := lt_t c9 hF
            have hO := lo_t c9 hO
            refine lv_iload hx hb dX1_nextAt_62 (lv_at hl 5 rfl) ?_
            refine lv_istore_n (lv' := [(3, .int s4), (5, .int 1), (0, .ref (a 0)), (1, .int s1), (2, .int s2), (4, .int s4)]) hx hb dX1_nextAt_64 rfl hl (by decide) rfl (fun ls hl => ?_)
            obtain ⟨x10, e11⟩ : ∃ y : Int32, s4 + 1 = y := ⟨_, rfl⟩
            have hF := lt_n e11 hF
            try have hO := lo_n e11 hO
            refine lv_iinc (v := x10) (lv' := [(4, .int x10), (3, .int s4), (5, .int 1), (0, .ref (a 0)), (1, .int s1), (2, .int s2)]) hx hb dX1_nextAt_65 hl (k := 5) rfl (by rw [← e11]; rfl) (by decide) rfl (fun ls hl => ?_)
            refine lv_goto (tgt := 6) hx hb dX1_nextAt_68 (by decide) ?_
            exact ih s4 x10 H locs ls hP hD hS (lv_sub hl [3, 4, 5, 1, 0] rfl) hO hF
          · have hF := lt_f c9 hF
            have hO := lo_f c9 hO
            refine lv_aload_n hx hb dX1_nextAt_51 rfl (lv_at hl 1 rfl) ?_
            refine lv_iload hx hb dX1_nextAt_52 (lv_at hl 5 rfl) ?_
            refine lv_iload_n hx hb dX1_nextAt_54 rfl (lv_at hl 4 rfl) ?_
            refine lv_iload_n hx hb dX1_nextAt_55 rfl (lv_at hl 2 rfl) ?_
            obtain ⟨h12, hO⟩ := hO
            obtain ⟨q13, e14⟩ : ∃ q, fX1_goesBefore v s4 s3 s1 = q := ⟨_, rfl⟩
            have hF := lt_n e14 hF
            try have hO := lo_n e14 hO
            refine ct_callV (ws' := gwV cy a v) hM hK hP hD hS (kX1_goesBefore l D cy a v s4 s3 s1 h12 e14) kvX1_goesBefore wml_X1_32 [0, 1, 2, 3, 4, 5] rfl (by decide) rfl rfl rfl 0 rfl rfl rfl rfl hl.1 rfl ⟨rfl, rfl, Nat.le_of_ble_eq_true rfl, Nat.le_of_ble_eq_true rfl⟩ (Nat.le_of_ble_eq_true rfl) ⟨Nat.zero_le _, Nat.zero_le _⟩ dX1_nextAt_56 (fun H locs hP hD hS => ?_)
            refine W.eq (g2 := F0 m 59 ls [.int q13]) rfl ?_
            refine lv_if_eq (tgt := 65) hx hb dX1_nextAt_59 (by decide) (fun c15 => ?_) (fun c15 => ?_)
            · have hF := lt_t c15 hF
              have hO := lo_t c15 hO
              obtain ⟨x16, e17⟩ : ∃ y : Int32, s4 + 1 = y := ⟨_, rfl⟩
              have hF := lt_n e17 hF
              try have hO := lo_n e17 hO
              refine lv_iinc (v := x16) (lv' := [(4, .int x16), (5, .int 1), (0, .ref (a 0)), (1, .int s1), (2, .int s2), (3, .int s3)]) hx hb dX1_nextAt_65 hl (k := 5) rfl (by rw [← e17]; rfl) (by decide) rfl (fun ls hl => ?_)
              refine lv_goto (tgt := 6) hx hb dX1_nextAt_68 (by decide) ?_
              exact ih s3 x16 H locs ls hP hD hS (lv_sub hl [2, 3, 4, 5, 0] rfl) hO hF
            · have hF := lt_f c15 hF
              have hO := lo_f c15 hO
              refine lv_iload hx hb dX1_nextAt_62 (lv_at hl 5 rfl) ?_
              refine lv_istore_n (lv' := [(3, .int s4), (5, .int 1), (0, .ref (a 0)), (1, .int s1), (2, .int s2), (4, .int s4)]) hx hb dX1_nextAt_64 rfl hl (by decide) rfl (fun ls hl => ?_)
              obtain ⟨x18, e19⟩ : ∃ y : Int32, s4 + 1 = y := ⟨_, rfl⟩
              have hF := lt_n e19 hF
              try have hO := lo_n e19 hO
              refine lv_iinc (v := x18) (lv' := [(4, .int x18), (3, .int s4), (5, .int 1), (0, .ref (a 0)), (1, .int s1), (2, .int s2)]) hx hb dX1_nextAt_65 hl (k := 5) rfl (by rw [← e19]; rfl) (by decide) rfl (fun ls hl => ?_)
              refine lv_goto (tgt := 6) hx hb dX1_nextAt_68 (by decide) ?_
              exact ih s4 x18 H locs ls hP hD hS (lv_sub hl [3, 4, 5, 1, 0] rfl) hO hF

def fX1_nextAt (v : tVl) (s1 : Int32) (s2 : Int32) : Int32 := fX1_nextAt_6 v s1 s2 9 (-6) 0
def oX1_nextAt (v : tVl) (s1 : Int32) (s2 : Int32) : Prop := oX1_nextAt_6 v s1 s2 9 (-6) 0
theorem kvX1_nextAt : KV yX1_nextAt cX1_nextAt 6 (some .int) 2 := ⟨wcd_X1_nextAt, wim_X1_nextAt, wsl_X1_nextAt, win_X1, by decide +kernel, by decide +kernel, by decide +kernel⟩
set_option maxHeartbeats 4000000 in
set_option maxRecDepth 100000 in
theorem kX1_nextAt (l : Launch) (D : va_G) (cy : Nat → ClassId) (a : Nat → Nat) (v : tVl) (s1 : Int32) (s2 : Int32) {R : Int32} (hO : oX1_nextAt v s1 s2) (hF : fX1_nextAt v s1 s2 = R) : CT l D cy yX1_nextAt cX1_nextAt 6 (some .int) rX1_nextAt [.ref (a 0), .int s1, .int s2] (gwV cy a v) (some (.int R)) (gwV cy a v) := by
  refine ct_of (by decide) (Nat.le_of_ble_eq_true rfl) ?_
  intro p e s m args below meth c A ls hM hK hP hD hS hl
  obtain ⟨hx, hb, -, hml, hown, hts, -⟩ := id hM
  have hl : lv_has ls 6 [(0, .ref (a 0)), (1, .int s1), (2, .int s2)] := hl
  obtain ⟨H, hH⟩ : ∃ H : Heap, H = s.heap := ⟨_, rfl⟩
  obtain ⟨locs, hlocs⟩ : ∃ q : List Loc, q = [] := ⟨_, rfl⟩
  have hP : va_P D classes (gwV cy a v) H := by rw [hH]; exact hP
  have hS : va_S A s.heap H locs := by rw [hH, hlocs]; exact hS
  suffices hg : W p l e rX1_nextAt s m args below meth c H locs 0 0 (MQ below (ctQ D (some (.int R)) (gwV cy a v) A) args s 0 0 A) (F0 m 0 ls []) by rw [hH, hlocs] at hg; exact hg
  clear hH hlocs
  unfold fX1_nextAt at hF
  unfold oX1_nextAt at hO
  refine lv_bipush (v := (-6)) hx hb dX1_nextAt_0 (by decide) ?_
  refine lv_istore_n (lv' := [(3, .int (-6)), (0, .ref (a 0)), (1, .int s1), (2, .int s2)]) hx hb dX1_nextAt_2 rfl hl (by decide) rfl (fun ls hl => ?_)
  refine lv_iconst (v := 0) hx hb dX1_nextAt_3 (by decide) ?_
  refine lv_istore (lv' := [(4, .int 0), (3, .int (-6)), (0, .ref (a 0)), (1, .int s1), (2, .int s2)]) hx hb dX1_nextAt_4 hl (by decide) rfl (fun ls hl => ?_)
  exact tX1_nextAt_6 hM hK 9 (-6) 0 H locs ls hP hD hS (lv_sub hl [2, 3, 4, 1, 0] rfl) hO hF

abbrev rX1_copy : Room := { frames := 0, cells := 0, slots := 0, locals := 0 }
def fX1_copy_64 (u : tVl) : Nat → tVl → Int32 → tVl
  | 0, v, s2 => v
  | n + 1, v, s2 => if 4 ≤ s2 then (lt_ (v_cm u) fun x3 => (v_mi v, v_mn v, v_pa v, v_ca v, v_se v, x3)) else (lt_ ((v_se u) (Int32.toNatClampNeg s2)) fun x6 => lt_ (s2 + 1) fun x8 => fX1_copy_64 u n (v_mi v, v_mn v, v_pa v, v_ca v, upd (v_se v) (Int32.toNatClampNeg s2) x6, v_cm v) x8)
def oX1_copy_64 (u : tVl) : Nat → tVl → Int32 → Prop
  | 0, _, _ => False
  | n + 1, v, s2 => if 4 ≤ s2 then True else (vp_in s2 4 ∧ (lo_ ((v_se u) (Int32.toNatClampNeg s2)) fun x6 => lo_ (s2 + 1) fun x8 => oX1_copy_64 u n (v_mi v, v_mn v, v_pa v, v_ca v, upd (v_se v) (Int32.toNatClampNeg s2) x6, v_cm v) x8))
set_option maxHeartbeats 4000000 in
set_option maxRecDepth 100000 in
theorem tX1_copy_64 {p : Program} {l : Launch} {e : Env} {s : State} {m : MethodId} {args : Array Value} {below : List Frame} {meth : Method} {c : Code} {A : Nat → Prop} {D : va_G} {cy : Nat → ClassId} {a : Nat → Nat} {b : Nat → Nat} {u : tVl} {R : tVl} (hM : MC p s m args meth c RX1 cX1_copy 3 none) (hK : va_K D classes (ctT cy) s) :
    ∀ (n : Nat) (v : tVl) (s2 : Int32) (H : Heap) (locs : List Loc) (ls : Array Slot), va_P D classes (gwV cy a v ++ gwV cy b u) H → va_D A (gwV cy a v ++ gwV cy b u) → va_S A s.heap H locs → lv_has ls 3 [(0, .ref (a 0)), (1, .ref (b 0)), (2, .int s2)] → oX1_copy_64 u n v s2 → fX1_copy_64 u n v s2 = R → W p l e rX1_copy s m args below meth c H locs 0 0 (MQ below (ctQ D none (gwV cy a R ++ gwV cy b u) A) args s 0 0 A) (F0 m 64 ls []) := by
  obtain ⟨hx, hb, -, hml, hown, hts, -⟩ := id hM
  intro n
  induction n with
  | zero =>
    intro v s2 H locs ls hP hD hS hl hO hF
    exact False.elim hO
  | succ n ih =>
    intro v s2 H locs ls hP hD hS hl hO hF
    rw [fX1_copy_64] at hF
    rw [oX1_copy_64] at hO
    refine lv_iload_n hx hb dX1_copy_64 rfl (lv_at hl 2 rfl) ?_
    refine lv_iconst (v := 4) hx hb dX1_copy_65 (by decide) ?_
    refine lv_icmp_ge (tgt := 87) hx hb dX1_copy_66 (by decide) (fun c2 => ?_) (fun c2 => ?_)
    · have hF := lt_t c2 hF
      have hO := lo_t c2 hO
      refine lv_aload_n hx hb dX1_copy_87 rfl (lv_at hl 0 rfl) ?_
      refine lv_aload_n hx hb dX1_copy_88 rfl (lv_at hl 1 rfl) ?_
      refine ct_get (C := RX1) (T := TX1) (N := 6) (ci := 1) (v := .int (v_cm u)) hM hK hP inX1 6 rfl rfl 4 (by decide) wfl_X1_28 rfl dX1_copy_89 ?_
      refine lv_topi (fun x3 e4 => ?_)
      have hF := lt_n e4.symm hF
      try have hO := lo_n e4.symm hO
      refine ct_put1 (C := RX1) (T := TX1) (N := 6) (ci := 1) (v := .int x3) hM hK hP hD hS inX1 tyX1 tyX1_ok nmX1 0 rfl rfl 4 (by decide) wfl_X1_28 rfl (by first | rfl | decide) (by first | rfl | decide) (Nat.le_of_ble_eq_true rfl) dX1_copy_92 (fun H locs hP hD hS => ?_)
      have hP : va_P D classes (gwV cy a (v_mi v, v_mn v, v_pa v, v_ca v, v_se v, x3) ++ gwV cy b u) H := hP
      have hD : va_D A (gwV cy a (v_mi v, v_mn v, v_pa v, v_ca v, v_se v, x3) ++ gwV cy b u) := hD
      subst hF
      exact ct_vret hM hP hS dX1_copy_95
    · have hF := lt_f c2 hF
      have hO := lo_f c2 hO
      refine lv_aload_n hx hb dX1_copy_69 rfl (lv_at hl 0 rfl) ?_
      refine ct_get (C := RX1) (T := TX1) (N := 6) (ci := 1) (v := .ref (a 5)) hM hK hP inX1 0 rfl rfl 5 (by decide) wfl_X1_25 rfl dX1_copy_70 ?_
      refine lv_iload_n hx hb dX1_copy_73 rfl (lv_at hl 2 rfl) ?_
      refine lv_aload_n hx hb dX1_copy_74 rfl (lv_at hl 1 rfl) ?_
      refine ct_get (C := RX1) (T := TX1) (N := 6) (ci := 1) (v := .ref (b 5)) hM hK hP inX1 6 rfl rfl 5 (by decide) wfl_X1_25 rfl dX1_copy_75 ?_
      refine lv_iload_n hx hb dX1_copy_78 rfl (lv_at hl 2 rfl) ?_
      obtain ⟨h5, hO⟩ := hO
      refine va_iald hx hb hK hP 11 0 (f := v_se u) (n := 4) (cA := cy 0) rfl rfl h5 dX1_copy_79 ?_
      refine lv_topi (fun x6 e7 => ?_)
      have hF := lt_n e7.symm hF
      try have hO := lo_n e7.symm hO
      refine va_iast hx hb hK hP hD hS 5 0 (f := v_se v) (n := 4) (cA := cy 0) rfl rfl h5 dX1_copy_80 (fun H locs hP hD hS => ?_)
      have hP : va_P D classes (gwV cy a (v_mi v, v_mn v, v_pa v, v_ca v, upd (v_se v) (Int32.toNatClampNeg s2) x6, v_cm v) ++ gwV cy b u) H := hP
      have hD : va_D A (gwV cy a (v_mi v, v_mn v, v_pa v, v_ca v, upd (v_se v) (Int32.toNatClampNeg s2) x6, v_cm v) ++ gwV cy b u) := hD
      obtain ⟨x8, e9⟩ : ∃ y : Int32, s2 + 1 = y := ⟨_, rfl⟩
      have hF := lt_n e9 hF
      try have hO := lo_n e9 hO
      refine lv_iinc (v := x8) (lv' := [(2, .int x8), (0, .ref (a 0)), (1, .ref (b 0))]) hx hb dX1_copy_81 hl (k := 2) rfl (by rw [← e9]; rfl) (by decide) rfl (fun ls hl => ?_)
      refine lv_goto (tgt := 64) hx hb dX1_copy_84 (by decide) ?_
      exact ih (v_mi v, v_mn v, v_pa v, v_ca v, upd (v_se v) (Int32.toNatClampNeg s2) x6, v_cm v) x8 H locs ls hP hD hS (lv_sub hl [1, 2, 0] rfl) hO hF

def fX1_copy_2 (u : tVl) : Nat → tVl → Int32 → tVl
  | 0, v, s2 => v
  | n + 1, v, s2 => if 8 ≤ s2 then (fX1_copy_64 u 5 v 0) else (lt_ ((v_mi u) (Int32.toNatClampNeg s2)) fun x11 => lt_ ((v_mn u) (Int32.toNatClampNeg s2)) fun x13 => lt_ ((v_pa u) (Int32.toNatClampNeg s2)) fun x15 => lt_ ((v_ca u) (Int32.toNatClampNeg s2)) fun x17 => lt_ (s2 + 1) fun x19 => fX1_copy_2 u n (upd (v_mi v) (Int32.toNatClampNeg s2) x11, upd (v_mn v) (Int32.toNatClampNeg s2) x13, upd (v_pa v) (Int32.toNatClampNeg s2) x15, upd (v_ca v) (Int32.toNatClampNeg s2) (vp_nar .boolean x17), v_se v, v_cm v) x19)
def oX1_copy_2 (u : tVl) : Nat → tVl → Int32 → Prop
  | 0, _, _ => False
  | n + 1, v, s2 => if 8 ≤ s2 then (oX1_copy_64 u 5 v 0) else (vp_in s2 8 ∧ (lo_ ((v_mi u) (Int32.toNatClampNeg s2)) fun x11 => lo_ ((v_mn u) (Int32.toNatClampNeg s2)) fun x13 => lo_ ((v_pa u) (Int32.toNatClampNeg s2)) fun x15 => lo_ ((v_ca u) (Int32.toNatClampNeg s2)) fun x17 => lo_ (s2 + 1) fun x19 => oX1_copy_2 u n (upd (v_mi v) (Int32.toNatClampNeg s2) x11, upd (v_mn v) (Int32.toNatClampNeg s2) x13, upd (v_pa v) (Int32.toNatClampNeg s2) x15, upd (v_ca v) (Int32.toNatClampNeg s2) (vp_nar .boolean x17), v_se v, v_cm v) x19))
set_option maxHeartbeats 4000000 in
set_option maxRecDepth 100000 in
theorem tX1_copy_2 {p : Program} {l : Launch} {e : Env} {s : State} {m : MethodId} {args : Array Value} {below : List Frame} {meth : Method} {c : Code} {A : Nat → Prop} {D : va_G} {cy : Nat → ClassId} {a : Nat → Nat} {b : Nat → Nat} {u : tVl} {R : tVl} (hM : MC p s m args meth c RX1 cX1_copy 3 none) (hK : va_K D classes (ctT cy) s) :
    ∀ (n : Nat) (v : tVl) (s2 : Int32) (H : Heap) (locs : List Loc) (ls : Array Slot), va_P D classes (gwV cy a v ++ gwV cy b u) H → va_D A (gwV cy a v ++ gwV cy b u) → va_S A s.heap H locs → lv_has ls 3 [(0, .ref (a 0)), (1, .ref (b 0)), (2, .int s2)] → oX1_copy_2 u n v s2 → fX1_copy_2 u n v s2 = R → W p l e rX1_copy s m args below meth c H locs 0 0 (MQ below (ctQ D none (gwV cy a R ++ gwV cy b u) A) args s 0 0 A) (F0 m 2 ls []) := by
  obtain ⟨hx, hb, -, hml, hown, hts, -⟩ := id hM
  intro n
  induction n with
  | zero =>
    intro v s2 H locs ls hP hD hS hl hO hF
    exact False.elim hO
  | succ n ih =>
    intro v s2 H locs ls hP hD hS hl hO hF
    rw [fX1_copy_2] at hF
    rw [oX1_copy_2] at hO
    refine lv_iload_n hx hb dX1_copy_2 rfl (lv_at hl 2 rfl) ?_
    refine lv_bipush (v := 8) hx hb dX1_copy_3 (by decide) ?_
    refine lv_icmp_ge (tgt := 62) hx hb dX1_copy_5 (by decide) (fun c1 => ?_) (fun c1 => ?_)
    · have hF := lt_t c1 hF
      have hO := lo_t c1 hO
      refine lv_iconst (v := 0) hx hb dX1_copy_62 (by decide) ?_
      refine lv_istore_n (lv' := [(2, .int 0), (0, .ref (a 0)), (1, .ref (b 0))]) hx hb dX1_copy_63 rfl hl (by decide) rfl (fun ls hl => ?_)
      exact tX1_copy_64 hM hK 5 v 0 H locs ls hP hD hS (lv_sub hl [1, 2, 0] rfl) hO hF
    · have hF := lt_f c1 hF
      have hO := lo_f c1 hO
      refine lv_aload_n hx hb dX1_copy_8 rfl (lv_at hl 0 rfl) ?_
      refine ct_get (C := RX1) (T := TX1) (N := 6) (ci := 1) (v := .ref (a 1)) hM hK hP inX1 0 rfl rfl 0 (by decide) wfl_X1_9 rfl dX1_copy_9 ?_
      refine lv_iload_n hx hb dX1_copy_12 rfl (lv_at hl 2 rfl) ?_
      refine lv_aload_n hx hb dX1_copy_13 rfl (lv_at hl 1 rfl) ?_
      refine ct_get (C := RX1) (T := TX1) (N := 6) (ci := 1) (v := .ref (b 1)) hM hK hP inX1 6 rfl rfl 0 (by decide) wfl_X1_9 rfl dX1_copy_14 ?_
      refine lv_iload_n hx hb dX1_copy_17 rfl (lv_at hl 2 rfl) ?_
      obtain ⟨h10, hO⟩ := hO
      refine va_iald hx hb hK hP 7 0 (f := v_mi u) (n := 8) (cA := cy 0) rfl rfl h10 dX1_copy_18 ?_
      refine lv_topi (fun x11 e12 => ?_)
      have hF := lt_n e12.symm hF
      try have hO := lo_n e12.symm hO
      refine va_iast hx hb hK hP hD hS 1 0 (f := v_mi v) (n := 8) (cA := cy 0) rfl rfl h10 dX1_copy_19 (fun H locs hP hD hS => ?_)
      have hP : va_P D classes (gwV cy a (upd (v_mi v) (Int32.toNatClampNeg s2) x11, v_mn v, v_pa v, v_ca v, v_se v, v_cm v) ++ gwV cy b u) H := hP
      have hD : va_D A (gwV cy a (upd (v_mi v) (Int32.toNatClampNeg s2) x11, v_mn v, v_pa v, v_ca v, v_se v, v_cm v) ++ gwV cy b u) := hD
      refine lv_aload_n hx hb dX1_copy_20 rfl (lv_at hl 0 rfl) ?_
      refine ct_get (C := RX1) (T := TX1) (N := 6) (ci := 1) (v := .ref (a 2)) hM hK hP inX1 0 rfl rfl 1 (by decide) wfl_X1_15 rfl dX1_copy_21 ?_
      refine lv_iload_n hx hb dX1_copy_24 rfl (lv_at hl 2 rfl) ?_
      refine lv_aload_n hx hb dX1_copy_25 rfl (lv_at hl 1 rfl) ?_
      refine ct_get (C := RX1) (T := TX1) (N := 6) (ci := 1) (v := .ref (b 2)) hM hK hP inX1 6 rfl rfl 1 (by decide) wfl_X1_15 rfl dX1_copy_26 ?_
      refine lv_iload_n hx hb dX1_copy_29 rfl (lv_at hl 2 rfl) ?_
      refine va_iald hx hb hK hP 8 0 (f := v_mn u) (n := 8) (cA := cy 0) rfl rfl h10 dX1_copy_30 ?_
      refine lv_topi (fun x13 e14 => ?_)
      have hF := lt_n e14.symm hF
      try have hO := lo_n e14.symm hO
      refine va_iast hx hb hK hP hD hS 2 0 (f := v_mn v) (n := 8) (cA := cy 0) rfl rfl h10 dX1_copy_31 (fun H locs hP hD hS => ?_)
      have hP : va_P D classes (gwV cy a (upd (v_mi v) (Int32.toNatClampNeg s2) x11, upd (v_mn v) (Int32.toNatClampNeg s2) x13, v_pa v, v_ca v, v_se v, v_cm v) ++ gwV cy b u) H := hP
      have hD : va_D A (gwV cy a (upd (v_mi v) (Int32.toNatClampNeg s2) x11, upd (v_mn v) (Int32.toNatClampNeg s2) x13, v_pa v, v_ca v, v_se v, v_cm v) ++ gwV cy b u) := hD
      refine lv_aload_n hx hb dX1_copy_32 rfl (lv_at hl 0 rfl) ?_
      refine ct_get (C := RX1) (T := TX1) (N := 6) (ci := 1) (v := .ref (a 3)) hM hK hP inX1 0 rfl rfl 2 (by decide) wfl_X1_18 rfl dX1_copy_33 ?_
      refine lv_iload_n hx hb dX1_copy_36 rfl (lv_at hl 2 rfl) ?_
      refine lv_aload_n hx hb dX1_copy_37 rfl (lv_at hl 1 rfl) ?_
      refine ct_get (C := RX1) (T := TX1) (N := 6) (ci := 1) (v := .ref (b 3)) hM hK hP inX1 6 rfl rfl 2 (by decide) wfl_X1_18 rfl dX1_copy_38 ?_
      refine lv_iload_n hx hb dX1_copy_41 rfl (lv_at hl 2 rfl) ?_
      refine va_iald hx hb hK hP 9 0 (f := v_pa u) (n := 8) (cA := cy 0) rfl rfl h10 dX1_copy_42 ?_
      refine lv_topi (fun x15 e16 => ?_)
      have hF := lt_n e16.symm hF
      try have hO := lo_n e16.symm hO
      refine va_iast hx hb hK hP hD hS 3 0 (f := v_pa v) (n := 8) (cA := cy 0) rfl rfl h10 dX1_copy_43 (fun H locs hP hD hS => ?_)
      have hP : va_P D classes (gwV cy a (upd (v_mi v) (Int32.toNatClampNeg s2) x11, upd (v_mn v) (Int32.toNatClampNeg s2) x13, upd (v_pa v) (Int32.toNatClampNeg s2) x15, v_ca v, v_se v, v_cm v) ++ gwV cy b u) H := hP
      have hD : va_D A (gwV cy a (upd (v_mi v) (Int32.toNatClampNeg s2) x11, upd (v_mn v) (Int32.toNatClampNeg s2) x13, upd (v_pa v) (Int32.toNatClampNeg s2) x15, v_ca v, v_se v, v_cm v) ++ gwV cy b u) := hD
      refine lv_aload_n hx hb dX1_copy_44 rfl (lv_at hl 0 rfl) ?_
      refine ct_get (C := RX1) (T := TX1) (N := 6) (ci := 1) (v := .ref (a 4)) hM hK hP inX1 0 rfl rfl 3 (by decide) wfl_X1_21 rfl dX1_copy_45 ?_
      refine lv_iload_n hx hb dX1_copy_48 rfl (lv_at hl 2 rfl) ?_
      refine lv_aload_n hx hb dX1_copy_49 rfl (lv_at hl 1 rfl) ?_
      refine ct_get (C := RX1) (T := TX1) (N := 6) (ci := 1) (v := .ref (b 4)) hM hK hP inX1 6 rfl rfl 3 (by decide) wfl_X1_21 rfl dX1_copy_50 ?_
      refine lv_iload_n hx hb dX1_copy_53 rfl (lv_at hl 2 rfl) ?_
      refine va_zald hx hb hK hP 10 1 (f := v_ca u) (n := 8) (cA := cy 1) rfl rfl h10 dX1_copy_54 ?_
      refine lv_topi (fun x17 e18 => ?_)
      have hF := lt_n e18.symm hF
      try have hO := lo_n e18.symm hO
      refine va_zast hx hb hK hP hD hS 4 1 (f := v_ca v) (n := 8) (cA := cy 1) rfl rfl h10 dX1_copy_55 (fun H locs hP hD hS => ?_)
      have hP : va_P D classes (gwV cy a (upd (v_mi v) (Int32.toNatClampNeg s2) x11, upd (v_mn v) (Int32.toNatClampNeg s2) x13, upd (v_pa v) (Int32.toNatClampNeg s2) x15, upd (v_ca v) (Int32.toNatClampNeg s2) (vp_nar .boolean x17), v_se v, v_cm v) ++ gwV cy b u) H := hP
      have hD : va_D A (gwV cy a (upd (v_mi v) (Int32.toNatClampNeg s2) x11, upd (v_mn v) (Int32.toNatClampNeg s2) x13, upd (v_pa v) (Int32.toNatClampNeg s2) x15, upd (v_ca v) (Int32.toNatClampNeg s2) (vp_nar .boolean x17), v_se v, v_cm v) ++ gwV cy b u) := hD
      obtain ⟨x19, e20⟩ : ∃ y : Int32, s2 + 1 = y := ⟨_, rfl⟩
      have hF := lt_n e20 hF
      try have hO := lo_n e20 hO
      refine lv_iinc (v := x19) (lv' := [(2, .int x19), (0, .ref (a 0)), (1, .ref (b 0))]) hx hb dX1_copy_56 hl (k := 2) rfl (by rw [← e20]; rfl) (by decide) rfl (fun ls hl => ?_)
      refine lv_goto (tgt := 2) hx hb dX1_copy_59 (by decide) ?_
      exact ih (upd (v_mi v) (Int32.toNatClampNeg s2) x11, upd (v_mn v) (Int32.toNatClampNeg s2) x13, upd (v_pa v) (Int32.toNatClampNeg s2) x15, upd (v_ca v) (Int32.toNatClampNeg s2) (vp_nar .boolean x17), v_se v, v_cm v) x19 H locs ls hP hD hS (lv_sub hl [1, 2, 0] rfl) hO hF

def fX1_copy (v : tVl) (u : tVl) : tVl := fX1_copy_2 u 9 v 0
def oX1_copy (v : tVl) (u : tVl) : Prop := oX1_copy_2 u 9 v 0
theorem kvX1_copy : KV yX1_copy cX1_copy 3 none 1 := ⟨wcd_X1_copy, wim_X1_copy, wsl_X1_copy, win_X1, by decide +kernel, by decide +kernel, by decide +kernel⟩
set_option maxHeartbeats 4000000 in
set_option maxRecDepth 100000 in
theorem kX1_copy (l : Launch) (D : va_G) (cy : Nat → ClassId) (a : Nat → Nat) (b : Nat → Nat) (v : tVl) (u : tVl) {R : tVl} (hO : oX1_copy v u) (hF : fX1_copy v u = R) : CT l D cy yX1_copy cX1_copy 3 none rX1_copy [.ref (a 0), .ref (b 0)] (gwV cy a v ++ gwV cy b u) none (gwV cy a R ++ gwV cy b u) := by
  refine ct_of (by decide) (Nat.le_of_ble_eq_true rfl) ?_
  intro p e s m args below meth c A ls hM hK hP hD hS hl
  obtain ⟨hx, hb, -, hml, hown, hts, -⟩ := id hM
  have hl : lv_has ls 3 [(0, .ref (a 0)), (1, .ref (b 0))] := hl
  obtain ⟨H, hH⟩ : ∃ H : Heap, H = s.heap := ⟨_, rfl⟩
  obtain ⟨locs, hlocs⟩ : ∃ q : List Loc, q = [] := ⟨_, rfl⟩
  have hP : va_P D classes (gwV cy a v ++ gwV cy b u) H := by rw [hH]; exact hP
  have hS : va_S A s.heap H locs := by rw [hH, hlocs]; exact hS
  suffices hg : W p l e rX1_copy s m args below meth c H locs 0 0 (MQ below (ctQ D none (gwV cy a R ++ gwV cy b u) A) args s 0 0 A) (F0 m 0 ls []) by rw [hH, hlocs] at hg; exact hg
  clear hH hlocs
  unfold fX1_copy at hF
  unfold oX1_copy at hO
  refine lv_iconst (v := 0) hx hb dX1_copy_0 (by decide) ?_
  refine lv_istore_n (lv' := [(2, .int 0), (0, .ref (a 0)), (1, .ref (b 0))]) hx hb dX1_copy_1 rfl hl (by decide) rfl (fun ls hl => ?_)
  exact tX1_copy_2 hM hK 9 v 0 H locs ls hP hD hS (lv_sub hl [1, 2, 0] rfl) hO hF

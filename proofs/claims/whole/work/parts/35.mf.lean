abbrev rX4_two : Room := { frames := 4, cells := 0, slots := 0, locals := 99 }
def fX4_two_30 (s1 : Int32) : Nat → tMs → Int32 → Int32 → Int32 → Int32 → Int32 × tMs
  | 0, x, s2, s3, s4, s5 => (0, x)
  | n + 1, x, s2, s3, s4, s5 => if 256 ≤ s5 then (if s1 = 0 then (s2, x) else (if s1 = 1 then (s3, x) else (s4, x))) else (if (s5 &&& (m_co x ^^^ (-1))) = 0 then (lt_ (fX4_go x s5 99) fun q15 => lt_ (fX4_go q15 (m_co q15 &&& (s5 ^^^ (-1))) 99) fun q18 => lt_ (fX4_worstOf q18 (m_co q18)) fun q21 => lt_ (fX4_sumOf q18 (m_co q18)) fun q24 => if s2 < 0 then (lt_ (s5 + 1) fun x27 => fX4_two_30 s1 n q18 s5 q21 q24 x27) else (if q21 < s3 then (lt_ (s5 + 1) fun x30 => fX4_two_30 s1 n q18 s5 q21 q24 x30) else (if q21 = s3 then (if s4 ≤ q24 then (lt_ (s5 + 1) fun x36 => fX4_two_30 s1 n q18 s2 s3 s4 x36) else (lt_ (s5 + 1) fun x38 => fX4_two_30 s1 n q18 s5 q21 q24 x38)) else (lt_ (s5 + 1) fun x33 => fX4_two_30 s1 n q18 s2 s3 s4 x33)))) else (lt_ (s5 + 1) fun x12 => fX4_two_30 s1 n x s2 s3 s4 x12))
def oX4_two_30 (s1 : Int32) : Nat → tMs → Int32 → Int32 → Int32 → Int32 → Prop
  | 0, _, _, _, _, _ => False
  | n + 1, x, s2, s3, s4, s5 => if 256 ≤ s5 then True else (if (s5 &&& (m_co x ^^^ (-1))) = 0 then (oX4_go x s5 99 ∧ (lo_ (fX4_go x s5 99) fun q15 => oX4_go q15 (m_co q15 &&& (s5 ^^^ (-1))) 99 ∧ (lo_ (fX4_go q15 (m_co q15 &&& (s5 ^^^ (-1))) 99) fun q18 => oX4_worstOf q18 (m_co q18) ∧ (lo_ (fX4_worstOf q18 (m_co q18)) fun q21 => oX4_sumOf q18 (m_co q18) ∧ (lo_ (fX4_sumOf q18 (m_co q18)) fun q24 => if s2 < 0 then (lo_ (s5 + 1) fun x27 => oX4_two_30 s1 n q18 s5 q21 q24 x27) else (if q21 < s3 then (lo_ (s5 + 1) fun x30 => oX4_two_30 s1 n q18 s5 q21 q24 x30) else (if q21 = s3 then (if s4 ≤ q24 then (lo_ (s5 + 1) fun x36 => oX4_two_30 s1 n q18 s2 s3 s4 x36) else (lo_ (s5 + 1) fun x38 => oX4_two_30 s1 n q18 s5 q21 q24 x38)) else (lo_ (s5 + 1) fun x33 => oX4_two_30 s1 n q18 s2 s3 s4 x33)))))))) else (lo_ (s5 + 1) fun x12 => oX4_two_30 s1 n x s2 s3 s4 x12))
set_option maxHeartbeats 4000000 in
set_option maxRecDepth 100000 in
theorem tX4_two_30 {p : Program} {l : Launch} {e : Env} {s : State} {m : MethodId} {args : Array Value} {below : List Frame} {meth : Method} {c : Code} {A : Nat → Prop} {D : va_G} {cy : Nat → ClassId} {a : Nat → Nat} {s1 : Int32} {R : Int32 × tMs} (hM : MC p s m args meth c RX4 cX4_two 8 (some .int)) (hK : va_K D classes (ctT cy) s) :
    ∀ (n : Nat) (x : tMs) (s2 : Int32) (s3 : Int32) (s4 : Int32) (s5 : Int32) (H : Heap) (locs : List Loc) (ls : Array Slot), va_P D classes (gwM cy a x) H → va_D A (gwM cy a x) → va_S A s.heap H locs → lv_has ls 8 [(0, .ref (a 0)), (1, .int s1), (2, .int s2), (3, .int s3), (4, .int s4), (5, .int s5)] → oX4_two_30 s1 n x s2 s3 s4 s5 → fX4_two_30 s1 n x s2 s3 s4 s5 = R → W p l e rX4_two s m args below meth c H locs 0 0 (MQ below (ctQ D (some (.int R.1)) (gwM cy a R.2) A) args s 0 0 A) (F0 m 30 ls []) := by
  obtain ⟨hx, hb, -, hml, hown, hts, -⟩ := id hM
  intro n
  induction n with
  | zero =>
    intro x s2 s3 s4 s5 H locs ls hP hD hS hl hO hF
    exact False.elim hO
  | succ n ih =>
    intro x s2 s3 s4 s5 H locs ls hP hD hS hl hO hF
    rw [fX4_two_30] at hF
    rw [oX4_two_30] at hO
    refine lv_iload hx hb dX4_two_30 (lv_at hl 5 rfl) ?_
    refine lv_sipush (v := 256) hx hb dX4_two_32 (by decide) ?_
    refine lv_icmp_ge (tgt := 132) hx hb dX4_two_35 (by decide) (fun c8 => ?_) (fun c8 => ?_)
    · have hF := lt_t c8 hF
      have hO := lo_t c8 hO
      refine lv_iload_n hx hb dX4_two_132 rfl (lv_at hl 1 rfl) ?_
      refine lv_if_ne (tgt := 140) hx hb dX4_two_133 (by decide) (fun c9 => ?_) (fun c9 => ?_)
      · have hF := lt_f c9 hF
        refine lv_iload_n hx hb dX4_two_140 rfl (lv_at hl 1 rfl) ?_
        refine lv_iconst (v := 1) hx hb dX4_two_141 (by decide) ?_
        refine lv_icmp_ne (tgt := 149) hx hb dX4_two_142 (by decide) (fun c10 => ?_) (fun c10 => ?_)
        · have hF := lt_f c10 hF
          refine lv_iload hx hb dX4_two_149 (lv_at hl 4 rfl) ?_
          subst hF
          exact ct_iret hM hP hS dX4_two_151
        · have hF := lt_t c10 hF
          refine lv_iload_n hx hb dX4_two_145 rfl (lv_at hl 3 rfl) ?_
          refine lv_goto (tgt := 151) hx hb dX4_two_146 (by decide) ?_
          subst hF
          exact ct_iret hM hP hS dX4_two_151
      · have hF := lt_t c9 hF
        refine lv_iload_n hx hb dX4_two_136 rfl (lv_at hl 2 rfl) ?_
        refine lv_goto (tgt := 151) hx hb dX4_two_137 (by decide) ?_
        subst hF
        exact ct_iret hM hP hS dX4_two_151
    · have hF := lt_f c8 hF
      have hO := lo_f c8 hO
      refine lv_iload hx hb dX4_two_38 (lv_at hl 5 rfl) ?_
      refine lv_aload_n hx hb dX4_two_40 rfl (lv_at hl 0 rfl) ?_
      refine ct_get (C := RX4) (T := TX4) (N := 24) (ci := 4) (v := .int (m_co x)) hM hK hP inX4 0 rfl rfl 0 (by decide) wfl_X4_67 rfl dX4_two_41 ?_
      refine lv_iconst (v := (-1)) hx hb dX4_two_44 (by decide) ?_
      refine lv_ixor hx hb dX4_two_45 ?_
      refine lv_iand hx hb dX4_two_46 ?_
      refine lv_if_ne (tgt := 126) hx hb dX4_two_47 (by decide) (fun c11 => ?_) (fun c11 => ?_)
      · have hF := lt_f c11 hF
        have hO := lo_f c11 hO
        obtain ⟨x12, e13⟩ : ∃ y : Int32, s5 + 1 = y := ⟨_, rfl⟩
        have hF := lt_n e13 hF
        try have hO := lo_n e13 hO
        refine lv_iinc (v := x12) (lv' := [(5, .int x12), (0, .ref (a 0)), (1, .int s1), (2, .int s2), (3, .int s3), (4, .int s4)]) hx hb dX4_two_126 hl (k := 5) rfl (by rw [← e13]; rfl) (by decide) rfl (fun ls hl => ?_)
        refine lv_goto (tgt := 30) hx hb dX4_two_129 (by decide) ?_
        exact ih x s2 s3 s4 x12 H locs ls hP hD hS (lv_sub hl [1, 2, 3, 4, 5, 0] rfl) hO hF
      · have hF := lt_t c11 hF
        have hO := lo_t c11 hO
        refine lv_aload_n hx hb dX4_two_50 rfl (lv_at hl 0 rfl) ?_
        refine lv_iload hx hb dX4_two_51 (lv_at hl 5 rfl) ?_
        refine lv_bipush (v := 99) hx hb dX4_two_53 (by decide) ?_
        obtain ⟨h14, hO⟩ := hO
        obtain ⟨q15, e16⟩ : ∃ q, fX4_go x s5 99 = q := ⟨_, rfl⟩
        have hF := lt_n e16 hF
        try have hO := lo_n e16 hO
        refine ct_callF hM hK hP hD hS (kX4_go l D cy a x s5 99 h14 e16) kvX4_go wml_X4_127 rfl 0 rfl rfl rfl rfl hl.1 rfl ⟨rfl, rfl, Nat.le_of_ble_eq_true rfl, Nat.le_of_ble_eq_true rfl⟩ (Nat.le_of_ble_eq_true rfl) ⟨Nat.zero_le _, Nat.zero_le _⟩ dX4_two_55 (fun H locs hP hD hS => ?_)
        refine W.eq (g2 := F0 m 58 ls []) rfl ?_
        have hP : va_P D classes (gwM cy a q15) H := hP
        have hD : va_D A (gwM cy a q15) := hD
        refine lv_aload_n hx hb dX4_two_58 rfl (lv_at hl 0 rfl) ?_
        refine lv_aload_n hx hb dX4_two_59 rfl (lv_at hl 0 rfl) ?_
        refine ct_get (C := RX4) (T := TX4) (N := 24) (ci := 4) (v := .int (m_co q15)) hM hK hP inX4 0 rfl rfl 0 (by decide) wfl_X4_67 rfl dX4_two_60 ?_
        refine lv_iload hx hb dX4_two_63 (lv_at hl 5 rfl) ?_
        refine lv_iconst (v := (-1)) hx hb dX4_two_65 (by decide) ?_
        refine lv_ixor hx hb dX4_two_66 ?_
        refine lv_iand hx hb dX4_two_67 ?_
        refine lv_bipush (v := 99) hx hb dX4_two_68 (by decide) ?_
        obtain ⟨h17, hO⟩ := hO
        obtain ⟨q18, e19⟩ : ∃ q, fX4_go q15 (m_co q15 &&& (s5 ^^^ (-1))) 99 = q := ⟨_, rfl⟩
        have hF := lt_n e19 hF
        try have hO := lo_n e19 hO
        refine ct_callF hM hK hP hD hS (kX4_go l D cy a q15 (m_co q15 &&& (s5 ^^^ (-1))) 99 h17 e19) kvX4_go wml_X4_127 rfl 0 rfl rfl rfl rfl hl.1 rfl ⟨rfl, rfl, Nat.le_of_ble_eq_true rfl, Nat.le_of_ble_eq_true rfl⟩ (Nat.le_of_ble_eq_true rfl) ⟨Nat.zero_le _, Nat.zero_le _⟩ dX4_two_70 (fun H locs hP hD hS => ?_)
        refine W.eq (g2 := F0 m 73 ls []) rfl ?_
        have hP : va_P D classes (gwM cy a q18) H := hP
        have hD : va_D A (gwM cy a q18) := hD
        refine lv_aload_n hx hb dX4_two_73 rfl (lv_at hl 0 rfl) ?_
        refine lv_aload_n hx hb dX4_two_74 rfl (lv_at hl 0 rfl) ?_
        refine ct_get (C := RX4) (T := TX4) (N := 24) (ci := 4) (v := .int (m_co q18)) hM hK hP inX4 0 rfl rfl 0 (by decide) wfl_X4_67 rfl dX4_two_75 ?_
        obtain ⟨h20, hO⟩ := hO
        obtain ⟨q21, e22⟩ : ∃ q, fX4_worstOf q18 (m_co q18) = q := ⟨_, rfl⟩
        have hF := lt_n e22 hF
        try have hO := lo_n e22 hO
        refine ct_callF hM hK hP hD hS (kX4_worstOf l D cy a q18 (m_co q18) h20 e22) kvX4_worstOf wml_X4_134 rfl 0 rfl rfl rfl rfl hl.1 rfl ⟨rfl, rfl, Nat.le_of_ble_eq_true rfl, Nat.le_of_ble_eq_true rfl⟩ (Nat.le_of_ble_eq_true rfl) ⟨Nat.zero_le _, Nat.zero_le _⟩ dX4_two_78 (fun H locs hP hD hS => ?_)
        refine W.eq (g2 := F0 m 81 ls [.int q21]) rfl ?_
        refine lv_istore (lv' := [(6, .int q21), (0, .ref (a 0)), (1, .int s1), (2, .int s2), (3, .int s3), (4, .int s4), (5, .int s5)]) hx hb dX4_two_81 hl (by decide) rfl (fun ls hl => ?_)
        refine lv_aload_n hx hb dX4_two_83 rfl (lv_at hl 1 rfl) ?_
        refine lv_aload_n hx hb dX4_two_84 rfl (lv_at hl 1 rfl) ?_
        refine ct_get (C := RX4) (T := TX4) (N := 24) (ci := 4) (v := .int (m_co q18)) hM hK hP inX4 0 rfl rfl 0 (by decide) wfl_X4_67 rfl dX4_two_85 ?_
        obtain ⟨h23, hO⟩ := hO
        obtain ⟨q24, e25⟩ : ∃ q, fX4_sumOf q18 (m_co q18) = q := ⟨_, rfl⟩
        have hF := lt_n e25 hF
        try have hO := lo_n e25 hO
        refine ct_callF hM hK hP hD hS (kX4_sumOf l D cy a q18 (m_co q18) h23 e25) kvX4_sumOf wml_X4_141 rfl 0 rfl rfl rfl rfl hl.1 rfl ⟨rfl, rfl, Nat.le_of_ble_eq_true rfl, Nat.le_of_ble_eq_true rfl⟩ (Nat.le_of_ble_eq_true rfl) ⟨Nat.zero_le _, Nat.zero_le _⟩ dX4_two_88 (fun H locs hP hD hS => ?_)
        refine W.eq (g2 := F0 m 91 ls [.int q24]) rfl ?_
        refine lv_istore (lv' := [(7, .int q24), (6, .int q21), (0, .ref (a 0)), (1, .int s1), (2, .int s2), (3, .int s3), (4, .int s4), (5, .int s5)]) hx hb dX4_two_91 hl (by decide) rfl (fun ls hl => ?_)
        refine lv_iload_n hx hb dX4_two_93 rfl (lv_at hl 4 rfl) ?_
        refine lv_if_lt (tgt := 116) hx hb dX4_two_94 (by decide) (fun c26 => ?_) (fun c26 => ?_)
        · have hF := lt_t c26 hF
          have hO := lo_t c26 hO
          refine lv_iload hx hb dX4_two_116 (lv_at hl 7 rfl) ?_
          refine lv_istore_n (lv' := [(2, .int s5), (7, .int q24), (6, .int q21), (0, .ref (a 0)), (1, .int s1), (3, .int s3), (4, .int s4), (5, .int s5)]) hx hb dX4_two_118 rfl hl (by decide) rfl (fun ls hl => ?_)
          refine lv_iload hx hb dX4_two_119 (lv_at hl 2 rfl) ?_
          refine lv_istore_n (lv' := [(3, .int q21), (2, .int s5), (7, .int q24), (6, .int q21), (0, .ref (a 0)), (1, .int s1), (4, .int s4), (5, .int s5)]) hx hb dX4_two_121 rfl hl (by decide) rfl (fun ls hl => ?_)
          refine lv_iload hx hb dX4_two_122 (lv_at hl 2 rfl) ?_
          refine lv_istore (lv' := [(4, .int q24), (3, .int q21), (2, .int s5), (7, .int q24), (6, .int q21), (0, .ref (a 0)), (1, .int s1), (5, .int s5)]) hx hb dX4_two_124 hl (by decide) rfl (fun ls hl => ?_)
          obtain ⟨x27, e28⟩ : ∃ y : Int32, s5 + 1 = y := ⟨_, rfl⟩
          have hF := lt_n e28 hF
          try have hO := lo_n e28 hO
          refine lv_iinc (v := x27) (lv' := [(5, .int x27), (4, .int q24), (3, .int q21), (2, .int s5), (7, .int q24), (6, .int q21), (0, .ref (a 0)), (1, .int s1)]) hx hb dX4_two_126 hl (k := 7) rfl (by rw [← e28]; rfl) (by decide) rfl (fun ls hl => ?_)
          refine lv_goto (tgt := 30) hx hb dX4_two_129 (by decide) ?_
          exact ih q18 s5 q21 q24 x27 H locs ls hP hD hS (lv_sub hl [6, 7, 3, 2, 1, 0] rfl) hO hF
        · have hF := lt_f c26 hF
          have hO := lo_f c26 hO
          refine lv_iload hx hb dX4_two_97 (lv_at hl 1 rfl) ?_
          refine lv_iload_n hx hb dX4_two_99 rfl (lv_at hl 5 rfl) ?_
          refine lv_icmp_lt (tgt := 116) hx hb dX4_two_100 (by decide) (fun c29 => ?_) (fun c29 => ?_)
          · have hF := lt_t c29 hF
            have hO := lo_t c29 hO
            refine lv_iload hx hb dX4_two_116 (lv_at hl 7 rfl) ?_
            refine lv_istore_n (lv' := [(2, .int s5), (7, .int q24), (6, .int q21), (0, .ref (a 0)), (1, .int s1), (3, .int s3), (4, .int s4), (5, .int s5)]) hx hb dX4_two_118 rfl hl (by decide) rfl (fun ls hl => ?_)
            refine lv_iload hx hb dX4_two_119 (lv_at hl 2 rfl) ?_
            refine lv_istore_n (lv' := [(3, .int q21), (2, .int s5), (7, .int q24), (6, .int q21), (0, .ref (a 0)), (1, .int s1), (4, .int s4), (5, .int s5)]) hx hb dX4_two_121 rfl hl (by decide) rfl (fun ls hl => ?_)
            refine lv_iload hx hb dX4_two_122 (lv_at hl 2 rfl) ?_
            refine lv_istore (lv' := [(4, .int q24), (3, .int q21), (2, .int s5), (7, .int q24), (6, .int q21), (0, .ref (a 0)), (1, .int s1), (5, .int s5)]) hx hb dX4_two_124 hl (by decide) rfl (fun ls hl => ?_)
            obtain ⟨x30, e31⟩ : ∃ y : Int32, s5 + 1 = y := ⟨_, rfl⟩
            have hF := lt_n e31 hF
            try have hO := lo_n e31 hO
            refine lv_iinc (v := x30) (lv' := [(5, .int x30), (4, .int q24), (3, .int q21), (2, .int s5), (7, .int q24), (6, .int q21), (0, .ref (a 0)), (1, .int s1)]) hx hb dX4_two_126 hl (k := 7) rfl (by rw [← e31]; rfl) (by decide) rfl (fun ls hl => ?_)
            refine lv_goto (tgt := 30) hx hb dX4_two_129 (by decide) ?_
            exact ih q18 s5 q21 q24 x30 H locs ls hP hD hS (lv_sub hl [6, 7, 3, 2, 1, 0] rfl) hO hF
          · have hF := lt_f c29 hF
            have hO := lo_f c29 hO
            refine lv_iload hx hb dX4_two_103 (lv_at hl 1 rfl) ?_
            refine lv_iload_n hx hb dX4_two_105 rfl (lv_at hl 5 rfl) ?_
            refine lv_icmp_ne (tgt := 126) hx hb dX4_two_106 (by decide) (fun c32 => ?_) (fun c32 => ?_)
            · have hF := lt_f c32 hF
              have hO := lo_f c32 hO
              obtain ⟨x33, e34⟩ : ∃ y : Int32, s5 + 1 = y := ⟨_, rfl⟩
              have hF := lt_n e34 hF
              try have hO := lo_n e34 hO
              refine lv_iinc (v := x33) (lv' := [(5, .int x33), (7, .int q24), (6, .int q21), (0, .ref (a 0)), (1, .int s1), (2, .int s2), (3, .int s3), (4, .int s4)]) hx hb dX4_two_126 hl (k := 7) rfl (by rw [← e34]; rfl) (by decide) rfl (fun ls hl => ?_)
              refine lv_goto (tgt := 30) hx hb dX4_two_129 (by decide) ?_
              exact ih q18 s2 s3 s4 x33 H locs ls hP hD hS (lv_sub hl [3, 4, 5, 6, 7, 0] rfl) hO hF
            · have hF := lt_t c32 hF
              have hO := lo_t c32 hO
              refine lv_iload hx hb dX4_two_109 (lv_at hl 0 rfl) ?_
              refine lv_iload hx hb dX4_two_111 (lv_at hl 6 rfl) ?_
              refine lv_icmp_ge (tgt := 126) hx hb dX4_two_113 (by decide) (fun c35 => ?_) (fun c35 => ?_)
              · have hF := lt_t c35 hF
                have hO := lo_t c35 hO
                obtain ⟨x36, e37⟩ : ∃ y : Int32, s5 + 1 = y := ⟨_, rfl⟩
                have hF := lt_n e37 hF
                try have hO := lo_n e37 hO
                refine lv_iinc (v := x36) (lv' := [(5, .int x36), (7, .int q24), (6, .int q21), (0, .ref (a 0)), (1, .int s1), (2, .int s2), (3, .int s3), (4, .int s4)]) hx hb dX4_two_126 hl (k := 7) rfl (by rw [← e37]; rfl) (by decide) rfl (fun ls hl => ?_)
                refine lv_goto (tgt := 30) hx hb dX4_two_129 (by decide) ?_
                exact ih q18 s2 s3 s4 x36 H locs ls hP hD hS (lv_sub hl [3, 4, 5, 6, 7, 0] rfl) hO hF
              · have hF := lt_f c35 hF
                have hO := lo_f c35 hO
                refine lv_iload hx hb dX4_two_116 (lv_at hl 7 rfl) ?_
                refine lv_istore_n (lv' := [(2, .int s5), (7, .int q24), (6, .int q21), (0, .ref (a 0)), (1, .int s1), (3, .int s3), (4, .int s4), (5, .int s5)]) hx hb dX4_two_118 rfl hl (by decide) rfl (fun ls hl => ?_)
                refine lv_iload hx hb dX4_two_119 (lv_at hl 2 rfl) ?_
                refine lv_istore_n (lv' := [(3, .int q21), (2, .int s5), (7, .int q24), (6, .int q21), (0, .ref (a 0)), (1, .int s1), (4, .int s4), (5, .int s5)]) hx hb dX4_two_121 rfl hl (by decide) rfl (fun ls hl => ?_)
                refine lv_iload hx hb dX4_two_122 (lv_at hl 2 rfl) ?_
                refine lv_istore (lv' := [(4, .int q24), (3, .int q21), (2, .int s5), (7, .int q24), (6, .int q21), (0, .ref (a 0)), (1, .int s1), (5, .int s5)]) hx hb dX4_two_124 hl (by decide) rfl (fun ls hl => ?_)
                obtain ⟨x38, e39⟩ : ∃ y : Int32, s5 + 1 = y := ⟨_, rfl⟩
                have hF := lt_n e39 hF
                try have hO := lo_n e39 hO
                refine lv_iinc (v := x38) (lv' := [(5, .int x38), (4, .int q24), (3, .int q21), (2, .int s5), (7, .int q24), (6, .int q21), (0, .ref (a 0)), (1, .int s1)]) hx hb dX4_two_126 hl (k := 7) rfl (by rw [← e39]; rfl) (by decide) rfl (fun ls hl => ?_)
                refine lv_goto (tgt := 30) hx hb dX4_two_129 (by decide) ?_
                exact ih q18 s5 q21 q24 x38 H locs ls hP hD hS (lv_sub hl [6, 7, 3, 2, 1, 0] rfl) hO hF

def fX4_two (x : tMs) (s1 : Int32) : Int32 × tMs := lt_ (fX4_in (Int32.toInt64 s1) 0 2) fun q2 => if q2 = 0 then ((-2), x) else (lt_ (fX4_layNow x) fun q6 => fX4_two_30 s1 257 q6 (-6) 0 0 0)
def oX4_two (x : tMs) (s1 : Int32) : Prop := lo_ (fX4_in (Int32.toInt64 s1) 0 2) fun q2 => if q2 = 0 then True else (oX4_layNow x ∧ (lo_ (fX4_layNow x) fun q6 => oX4_two_30 s1 257 q6 (-6) 0 0 0))
theorem kvX4_two : KV yX4_two cX4_two 8 (some .int) 1 := ⟨wcd_X4_two, wim_X4_two, wsl_X4_two, win_X4, by decide +kernel, by decide +kernel, by decide +kernel⟩
set_option maxHeartbeats 4000000 in
set_option maxRecDepth 100000 in
theorem kX4_two (l : Launch) (D : va_G) (cy : Nat → ClassId) (a : Nat → Nat) (x : tMs) (s1 : Int32) {R : Int32 × tMs} (hO : oX4_two x s1) (hF : fX4_two x s1 = R) : CT l D cy yX4_two cX4_two 8 (some .int) rX4_two [.ref (a 0), .int s1] (gwM cy a x) (some (.int R.1)) (gwM cy a R.2) := by
  refine ct_of (by decide) (Nat.le_of_ble_eq_true rfl) ?_
  intro p e s m args below meth c A ls hM hK hP hD hS hl
  obtain ⟨hx, hb, -, hml, hown, hts, -⟩ := id hM
  have hl : lv_has ls 8 [(0, .ref (a 0)), (1, .int s1)] := hl
  obtain ⟨H, hH⟩ : ∃ H : Heap, H = s.heap := ⟨_, rfl⟩
  obtain ⟨locs, hlocs⟩ : ∃ q : List Loc, q = [] := ⟨_, rfl⟩
  have hP : va_P D classes (gwM cy a x) H := by rw [hH]; exact hP
  have hS : va_S A s.heap H locs := by rw [hH, hlocs]; exact hS
  suffices hg : W p l e rX4_two s m args below meth c H locs 0 0 (MQ below (ctQ D (some (.int R.1)) (gwM cy a R.2) A) args s 0 0 A) (F0 m 0 ls []) by rw [hH, hlocs] at hg; exact hg
  clear hH hlocs
  unfold fX4_two at hF
  unfold oX4_two at hO
  refine lv_iload_n hx hb dX4_two_0 rfl (lv_at hl 1 rfl) ?_
  refine lv_i2l (v := Int32.toInt64 s1) hx hb dX4_two_1 rfl ?_
  refine lv_lconst (v := 0) hx hb dX4_two_2 rfl ?_
  refine lv_ldc2 (v := 2) hx hb hown (hts _ wct_X4_162) dX4_two_3 ?_
  obtain ⟨q2, e3⟩ : ∃ q, fX4_in (Int32.toInt64 s1) 0 2 = q := ⟨_, rfl⟩
  have hF := lt_n e3 hF
  try have hO := lo_n e3 hO
  refine ct_callS hM hK hP hD hS (kX4_in l D cy (Int32.toInt64 s1) 0 2 trivial e3) kvX4_in wml_X4_59 rfl hl.1 rfl ⟨rfl, rfl, Nat.le_of_ble_eq_true rfl, Nat.le_of_ble_eq_true rfl⟩ (Nat.le_of_ble_eq_true rfl) ⟨Nat.zero_le _, Nat.zero_le _⟩ dX4_two_6 (fun H locs hP hD hS => ?_)
  refine W.eq (g2 := F0 m 9 ls [.int q2]) rfl ?_
  have hP : va_P D classes (gwM cy a x) H := hP
  have hD : va_D A (gwM cy a x) := hD
  refine lv_if_ne (tgt := 15) hx hb dX4_two_9 (by decide) (fun c4 => ?_) (fun c4 => ?_)
  · have hF := lt_f c4 hF
    have hO := lo_f c4 hO
    refine lv_aload_n hx hb dX4_two_15 rfl (lv_at hl 0 rfl) ?_
    obtain ⟨h5, hO⟩ := hO
    obtain ⟨q6, e7⟩ : ∃ q, fX4_layNow x = q := ⟨_, rfl⟩
    have hF := lt_n e7 hF
    try have hO := lo_n e7 hO
    refine ct_callF hM hK hP hD hS (kX4_layNow l D cy a x h5 e7) kvX4_layNow wml_X4_124 rfl 0 rfl rfl rfl rfl hl.1 rfl ⟨rfl, rfl, Nat.le_of_ble_eq_true rfl, Nat.le_of_ble_eq_true rfl⟩ (Nat.le_of_ble_eq_true rfl) ⟨Nat.zero_le _, Nat.zero_le _⟩ dX4_two_16 (fun H locs hP hD hS => ?_)
    refine W.eq (g2 := F0 m 19 ls []) rfl ?_
    have hP : va_P D classes (gwM cy a q6) H := hP
    have hD : va_D A (gwM cy a q6) := hD
    refine lv_bipush (v := (-6)) hx hb dX4_two_19 (by decide) ?_
    refine lv_istore_n (lv' := [(2, .int (-6)), (0, .ref (a 0)), (1, .int s1)]) hx hb dX4_two_21 rfl hl (by decide) rfl (fun ls hl => ?_)
    refine lv_iconst (v := 0) hx hb dX4_two_22 (by decide) ?_
    refine lv_istore_n (lv' := [(3, .int 0), (2, .int (-6)), (0, .ref (a 0)), (1, .int s1)]) hx hb dX4_two_23 rfl hl (by decide) rfl (fun ls hl => ?_)
    refine lv_iconst (v := 0) hx hb dX4_two_24 (by decide) ?_
    refine lv_istore (lv' := [(4, .int 0), (3, .int 0), (2, .int (-6)), (0, .ref (a 0)), (1, .int s1)]) hx hb dX4_two_25 hl (by decide) rfl (fun ls hl => ?_)
    refine lv_iconst (v := 0) hx hb dX4_two_27 (by decide) ?_
    refine lv_istore (lv' := [(5, .int 0), (4, .int 0), (3, .int 0), (2, .int (-6)), (0, .ref (a 0)), (1, .int s1)]) hx hb dX4_two_28 hl (by decide) rfl (fun ls hl => ?_)
    exact tX4_two_30 hM hK 257 q6 (-6) 0 0 0 H locs ls hP hD hS (lv_sub hl [4, 5, 3, 2, 1, 0] rfl) hO hF
  · have hF := lt_t c4 hF
    have hO := lo_t c4 hO
    refine lv_bipush (v := (-2)) hx hb dX4_two_12 (by decide) ?_
    subst hF
    exact ct_iret hM hP hS dX4_two_14

abbrev rX4_stay : Room := { frames := 4, cells := 0, slots := 0, locals := 99 }
def fX4_stay_24 (s1 : Int32) : Nat → tMs → Int32 → Int32 → Int32 × tMs
  | 0, x, s2, s3 => (0, x)
  | n + 1, x, s2, s3 => if 256 ≤ s3 then (s2, x) else (if (s3 &&& (m_co x ^^^ (-1))) = 0 then (if s2 < 0 then (lt_ (fX4_go x (m_co x &&& (s3 ^^^ (-1))) 99) fun q14 => lt_ (fX4_worstOf q14 (m_co q14 &&& (s3 ^^^ (-1)))) fun q17 => if s1 < q17 then (lt_ (s3 + 1) fun x20 => fX4_stay_24 s1 n q14 s2 x20) else (lt_ (s3 + 1) fun x22 => fX4_stay_24 s1 n q14 s3 x22)) else (lt_ (fX4_ones s3) fun q25 => lt_ (fX4_ones s2) fun q28 => if q28 ≤ q25 then (lt_ (s3 + 1) fun x31 => fX4_stay_24 s1 n x s2 x31) else (lt_ (fX4_go x (m_co x &&& (s3 ^^^ (-1))) 99) fun q34 => lt_ (fX4_worstOf q34 (m_co q34 &&& (s3 ^^^ (-1)))) fun q37 => if s1 < q37 then (lt_ (s3 + 1) fun x40 => fX4_stay_24 s1 n q34 s2 x40) else (lt_ (s3 + 1) fun x42 => fX4_stay_24 s1 n q34 s3 x42)))) else (lt_ (s3 + 1) fun x10 => fX4_stay_24 s1 n x s2 x10))
def oX4_stay_24 (s1 : Int32) : Nat → tMs → Int32 → Int32 → Prop
  | 0, _, _, _ => False
  | n + 1, x, s2, s3 => if 256 ≤ s3 then True else (if (s3 &&& (m_co x ^^^ (-1))) = 0 then (if s2 < 0 then (oX4_go x (m_co x &&& (s3 ^^^ (-1))) 99 ∧ (lo_ (fX4_go x (m_co x &&& (s3 ^^^ (-1))) 99) fun q14 => oX4_worstOf q14 (m_co q14 &&& (s3 ^^^ (-1))) ∧ (lo_ (fX4_worstOf q14 (m_co q14 &&& (s3 ^^^ (-1)))) fun q17 => if s1 < q17 then (lo_ (s3 + 1) fun x20 => oX4_stay_24 s1 n q14 s2 x20) else (lo_ (s3 + 1) fun x22 => oX4_stay_24 s1 n q14 s3 x22)))) else (oX4_ones s3 ∧ (lo_ (fX4_ones s3) fun q25 => oX4_ones s2 ∧ (lo_ (fX4_ones s2) fun q28 => if q28 ≤ q25 then (lo_ (s3 + 1) fun x31 => oX4_stay_24 s1 n x s2 x31) else (oX4_go x (m_co x &&& (s3 ^^^ (-1))) 99 ∧ (lo_ (fX4_go x (m_co x &&& (s3 ^^^ (-1))) 99) fun q34 => oX4_worstOf q34 (m_co q34 &&& (s3 ^^^ (-1))) ∧ (lo_ (fX4_worstOf q34 (m_co q34 &&& (s3 ^^^ (-1)))) fun q37 => if s1 < q37 then (lo_ (s3 + 1) fun x40 => oX4_stay_24 s1 n q34 s2 x40) else (lo_ (s3 + 1) fun x42 => oX4_stay_24 s1 n q34 s3 x42)))))))) else (lo_ (s3 + 1) fun x10 => oX4_stay_24 s1 n x s2 x10))
set_option maxHeartbeats 4000000 in
set_option maxRecDepth 100000 in
theorem tX4_stay_24 {p : Program} {l : Launch} {e : Env} {s : State} {m : MethodId} {args : Array Value} {below : List Frame} {meth : Method} {c : Code} {A : Nat → Prop} {D : va_G} {cy : Nat → ClassId} {a : Nat → Nat} {s1 : Int32} {R : Int32 × tMs} (hM : MC p s m args meth c RX4 cX4_stay 4 (some .int)) (hK : va_K D classes (ctT cy) s) :
    ∀ (n : Nat) (x : tMs) (s2 : Int32) (s3 : Int32) (H : Heap) (locs : List Loc) (ls : Array Slot), va_P D classes (gwM cy a x) H → va_D A (gwM cy a x) → va_S A s.heap H locs → lv_has ls 4 [(0, .ref (a 0)), (1, .int s1), (2, .int s2), (3, .int s3)] → oX4_stay_24 s1 n x s2 s3 → fX4_stay_24 s1 n x s2 s3 = R → W p l e rX4_stay s m args below meth c H locs 0 0 (MQ below (ctQ D (some (.int R.1)) (gwM cy a R.2) A) args s 0 0 A) (F0 m 24 ls []) := by
  obtain ⟨hx, hb, -, hml, hown, hts, -⟩ := id hM
  intro n
  induction n with
  | zero =>
    intro x s2 s3 H locs ls hP hD hS hl hO hF
    exact False.elim hO
  | succ n ih =>
    intro x s2 s3 H locs ls hP hD hS hl hO hF
    rw [fX4_stay_24] at hF
    rw [oX4_stay_24] at hO
    refine lv_iload_n hx hb dX4_stay_24 rfl (lv_at hl 3 rfl) ?_
    refine lv_sipush (v := 256) hx hb dX4_stay_25 (by decide) ?_
    refine lv_icmp_ge (tgt := 99) hx hb dX4_stay_28 (by decide) (fun c8 => ?_) (fun c8 => ?_)
    · have hF := lt_t c8 hF
      have hO := lo_t c8 hO
      refine lv_iload_n hx hb dX4_stay_99 rfl (lv_at hl 2 rfl) ?_
      subst hF
      exact ct_iret hM hP hS dX4_stay_100
    · have hF := lt_f c8 hF
      have hO := lo_f c8 hO
      refine lv_iload_n hx hb dX4_stay_31 rfl (lv_at hl 3 rfl) ?_
      refine lv_aload_n hx hb dX4_stay_32 rfl (lv_at hl 0 rfl) ?_
      refine ct_get (C := RX4) (T := TX4) (N := 24) (ci := 4) (v := .int (m_co x)) hM hK hP inX4 0 rfl rfl 0 (by decide) wfl_X4_67 rfl dX4_stay_33 ?_
      refine lv_iconst (v := (-1)) hx hb dX4_stay_36 (by decide) ?_
      refine lv_ixor hx hb dX4_stay_37 ?_
      refine lv_iand hx hb dX4_stay_38 ?_
      refine lv_if_ne (tgt := 93) hx hb dX4_stay_39 (by decide) (fun c9 => ?_) (fun c9 => ?_)
      · have hF := lt_f c9 hF
        have hO := lo_f c9 hO
        obtain ⟨x10, e11⟩ : ∃ y : Int32, s3 + 1 = y := ⟨_, rfl⟩
        have hF := lt_n e11 hF
        try have hO := lo_n e11 hO
        refine lv_iinc (v := x10) (lv' := [(3, .int x10), (0, .ref (a 0)), (1, .int s1), (2, .int s2)]) hx hb dX4_stay_93 hl (k := 3) rfl (by rw [← e11]; rfl) (by decide) rfl (fun ls hl => ?_)
        refine lv_goto (tgt := 24) hx hb dX4_stay_96 (by decide) ?_
        exact ih x s2 x10 H locs ls hP hD hS (lv_sub hl [1, 2, 3, 0] rfl) hO hF
      · have hF := lt_t c9 hF
        have hO := lo_t c9 hO
        refine lv_iload_n hx hb dX4_stay_42 rfl (lv_at hl 2 rfl) ?_
        refine lv_if_lt (tgt := 57) hx hb dX4_stay_43 (by decide) (fun c12 => ?_) (fun c12 => ?_)
        · have hF := lt_t c12 hF
          have hO := lo_t c12 hO
          refine lv_aload_n hx hb dX4_stay_57 rfl (lv_at hl 0 rfl) ?_
          refine lv_aload_n hx hb dX4_stay_58 rfl (lv_at hl 0 rfl) ?_
          refine ct_get (C := RX4) (T := TX4) (N := 24) (ci := 4) (v := .int (m_co x)) hM hK hP inX4 0 rfl rfl 0 (by decide) wfl_X4_67 rfl dX4_stay_59 ?_
          refine lv_iload_n hx hb dX4_stay_62 rfl (lv_at hl 3 rfl) ?_
          refine lv_iconst (v := (-1)) hx hb dX4_stay_63 (by decide) ?_
          refine lv_ixor hx hb dX4_stay_64 ?_
          refine lv_iand hx hb dX4_stay_65 ?_
          refine lv_bipush (v := 99) hx hb dX4_stay_66 (by decide) ?_
          obtain ⟨h13, hO⟩ := hO
          obtain ⟨q14, e15⟩ : ∃ q, fX4_go x (m_co x &&& (s3 ^^^ (-1))) 99 = q := ⟨_, rfl⟩
          have hF := lt_n e15 hF
          try have hO := lo_n e15 hO
          refine ct_callF hM hK hP hD hS (kX4_go l D cy a x (m_co x &&& (s3 ^^^ (-1))) 99 h13 e15) kvX4_go wml_X4_127 rfl 0 rfl rfl rfl rfl hl.1 rfl ⟨rfl, rfl, Nat.le_of_ble_eq_true rfl, Nat.le_of_ble_eq_true rfl⟩ (Nat.le_of_ble_eq_true rfl) ⟨Nat.zero_le _, Nat.zero_le _⟩ dX4_stay_68 (fun H locs hP hD hS => ?_)
          refine W.eq (g2 := F0 m 71 ls []) rfl ?_
          have hP : va_P D classes (gwM cy a q14) H := hP
          have hD : va_D A (gwM cy a q14) := hD
          refine lv_aload_n hx hb dX4_stay_71 rfl (lv_at hl 0 rfl) ?_
          refine lv_aload_n hx hb dX4_stay_72 rfl (lv_at hl 0 rfl) ?_
          refine ct_get (C := RX4) (T := TX4) (N := 24) (ci := 4) (v := .int (m_co q14)) hM hK hP inX4 0 rfl rfl 0 (by decide) wfl_X4_67 rfl dX4_stay_73 ?_
          refine lv_iload_n hx hb dX4_stay_76 rfl (lv_at hl 3 rfl) ?_
          refine lv_iconst (v := (-1)) hx hb dX4_stay_77 (by decide) ?_
          refine lv_ixor hx hb dX4_stay_78 ?_
          refine lv_iand hx hb dX4_stay_79 ?_
          obtain ⟨h16, hO⟩ := hO
          obtain ⟨q17, e18⟩ : ∃ q, fX4_worstOf q14 (m_co q14 &&& (s3 ^^^ (-1))) = q := ⟨_, rfl⟩
          have hF := lt_n e18 hF
          try have hO := lo_n e18 hO
          refine ct_callF hM hK hP hD hS (kX4_worstOf l D cy a q14 (m_co q14 &&& (s3 ^^^ (-1))) h16 e18) kvX4_worstOf wml_X4_134 rfl 0 rfl rfl rfl rfl hl.1 rfl ⟨rfl, rfl, Nat.le_of_ble_eq_true rfl, Nat.le_of_ble_eq_true rfl⟩ (Nat.le_of_ble_eq_true rfl) ⟨Nat.zero_le _, Nat.zero_le _⟩ dX4_stay_80 (fun H locs hP hD hS => ?_)
          refine W.eq (g2 := F0 m 83 ls [.int q17]) rfl ?_
          refine lv_iload_n hx hb dX4_stay_83 rfl (lv_at hl 1 rfl) ?_
          refine lv_icmp_gt (tgt := 91) hx hb dX4_stay_84 (by decide) (fun c19 => ?_) (fun c19 => ?_)
          · have hF := lt_t c19 hF
            have hO := lo_t c19 hO
            refine lv_iload_n hx hb dX4_stay_91 rfl (lv_at hl 2 rfl) ?_
            refine lv_istore_n (lv' := [(2, .int s2), (0, .ref (a 0)), (1, .int s1), (3, .int s3)]) hx hb dX4_stay_92 rfl hl (by decide) rfl (fun ls hl => ?_)
            obtain ⟨x20, e21⟩ : ∃ y : Int32, s3 + 1 = y := ⟨_, rfl⟩
            have hF := lt_n e21 hF
            try have hO := lo_n e21 hO
            refine lv_iinc (v := x20) (lv' := [(3, .int x20), (2, .int s2), (0, .ref (a 0)), (1, .int s1)]) hx hb dX4_stay_93 hl (k := 3) rfl (by rw [← e21]; rfl) (by decide) rfl (fun ls hl => ?_)
            refine lv_goto (tgt := 24) hx hb dX4_stay_96 (by decide) ?_
            exact ih q14 s2 x20 H locs ls hP hD hS (lv_sub hl [2, 3, 1, 0] rfl) hO hF
          · have hF := lt_f c19 hF
            have hO := lo_f c19 hO
            refine lv_iload_n hx hb dX4_stay_87 rfl (lv_at hl 3 rfl) ?_
            refine lv_goto (tgt := 92) hx hb dX4_stay_88 (by decide) ?_
            refine lv_istore_n (lv' := [(2, .int s3), (0, .ref (a 0)), (1, .int s1), (3, .int s3)]) hx hb dX4_stay_92 rfl hl (by decide) rfl (fun ls hl => ?_)
            obtain ⟨x22, e23⟩ : ∃ y : Int32, s3 + 1 = y := ⟨_, rfl⟩
            have hF := lt_n e23 hF
            try have hO := lo_n e23 hO
            refine lv_iinc (v := x22) (lv' := [(3, .int x22), (2, .int s3), (0, .ref (a 0)), (1, .int s1)]) hx hb dX4_stay_93 hl (k := 3) rfl (by rw [← e23]; rfl) (by decide) rfl (fun ls hl => ?_)
            refine lv_goto (tgt := 24) hx hb dX4_stay_96 (by decide) ?_
            exact ih q14 s3 x22 H locs ls hP hD hS (lv_sub hl [2, 3, 1, 0] rfl) hO hF
        · have hF := lt_f c12 hF
          have hO := lo_f c12 hO
          refine lv_iload_n hx hb dX4_stay_46 rfl (lv_at hl 3 rfl) ?_
          obtain ⟨h24, hO⟩ := hO
          obtain ⟨q25, e26⟩ : ∃ q, fX4_ones s3 = q := ⟨_, rfl⟩
          have hF := lt_n e26 hF
          try have hO := lo_n e26 hO
          refine ct_callS hM hK hP hD hS (kX4_ones l D cy s3 h24 e26) kvX4_ones wml_X4_76 rfl hl.1 rfl ⟨rfl, rfl, Nat.le_of_ble_eq_true rfl, Nat.le_of_ble_eq_true rfl⟩ (Nat.le_of_ble_eq_true rfl) ⟨Nat.zero_le _, Nat.zero_le _⟩ dX4_stay_47 (fun H locs hP hD hS => ?_)
          refine W.eq (g2 := F0 m 50 ls [.int q25]) rfl ?_
          have hP : va_P D classes (gwM cy a x) H := hP
          have hD : va_D A (gwM cy a x) := hD
          refine lv_iload_n hx hb dX4_stay_50 rfl (lv_at hl 2 rfl) ?_
          obtain ⟨h27, hO⟩ := hO
          obtain ⟨q28, e29⟩ : ∃ q, fX4_ones s2 = q := ⟨_, rfl⟩
          have hF := lt_n e29 hF
          try have hO := lo_n e29 hO
          refine ct_callS hM hK hP hD hS (kX4_ones l D cy s2 h27 e29) kvX4_ones wml_X4_76 rfl hl.1 rfl ⟨rfl, rfl, Nat.le_of_ble_eq_true rfl, Nat.le_of_ble_eq_true rfl⟩ (Nat.le_of_ble_eq_true rfl) ⟨Nat.zero_le _, Nat.zero_le _⟩ dX4_stay_51 (fun H locs hP hD hS => ?_)
          refine W.eq (g2 := F0 m 54 ls [.int q28, .int q25]) rfl ?_
          have hP : va_P D classes (gwM cy a x) H := hP
          have hD : va_D A (gwM cy a x) := hD
          refine lv_icmp_ge (tgt := 93) hx hb dX4_stay_54 (by decide) (fun c30 => ?_) (fun c30 => ?_)
          · have hF := lt_t c30 hF
            have hO := lo_t c30 hO
            obtain ⟨x31, e32⟩ : ∃ y : Int32, s3 + 1 = y := ⟨_, rfl⟩
            have hF := lt_n e32 hF
            try have hO := lo_n e32 hO
            refine lv_iinc (v := x31) (lv' := [(3, .int x31), (0, .ref (a 0)), (1, .int s1), (2, .int s2)]) hx hb dX4_stay_93 hl (k := 3) rfl (by rw [← e32]; rfl) (by decide) rfl (fun ls hl => ?_)
            refine lv_goto (tgt := 24) hx hb dX4_stay_96 (by decide) ?_
            exact ih x s2 x31 H locs ls hP hD hS (lv_sub hl [1, 2, 3, 0] rfl) hO hF
          · have hF := lt_f c30 hF
            have hO := lo_f c30 hO
            refine lv_aload_n hx hb dX4_stay_57 rfl (lv_at hl 0 rfl) ?_
            refine lv_aload_n hx hb dX4_stay_58 rfl (lv_at hl 0 rfl) ?_
            refine ct_get (C := RX4) (T := TX4) (N := 24) (ci := 4) (v := .int (m_co x)) hM hK hP inX4 0 rfl rfl 0 (by decide) wfl_X4_67 rfl dX4_stay_59 ?_
            refine lv_iload_n hx hb dX4_stay_62 rfl (lv_at hl 3 rfl) ?_
            refine lv_iconst (v := (-1)) hx hb dX4_stay_63 (by decide) ?_
            refine lv_ixor hx hb dX4_stay_64 ?_
            refine lv_iand hx hb dX4_stay_65 ?_
            refine lv_bipush (v := 99) hx hb dX4_stay_66 (by decide) ?_
            obtain ⟨h33, hO⟩ := hO
            obtain ⟨q34, e35⟩ : ∃ q, fX4_go x (m_co x &&& (s3 ^^^ (-1))) 99 = q := ⟨_, rfl⟩
            have hF := lt_n e35 hF
            try have hO := lo_n e35 hO
            refine ct_callF hM hK hP hD hS (kX4_go l D cy a x (m_co x &&& (s3 ^^^ (-1))) 99 h33 e35) kvX4_go wml_X4_127 rfl 0 rfl rfl rfl rfl hl.1 rfl ⟨rfl, rfl, Nat.le_of_ble_eq_true rfl, Nat.le_of_ble_eq_true rfl⟩ (Nat.le_of_ble_eq_true rfl) ⟨Nat.zero_le _, Nat.zero_le _⟩ dX4_stay_68 (fun H locs hP hD hS => ?_)
            refine W.eq (g2 := F0 m 71 ls []) rfl ?_
            have hP : va_P D classes (gwM cy a q34) H := hP
            have hD : va_D A (gwM cy a q34) := hD
            refine lv_aload_n hx hb dX4_stay_71 rfl (lv_at hl 0 rfl) ?_
            refine lv_aload_n hx hb dX4_stay_72 rfl (lv_at hl 0 rfl) ?_
            refine ct_get (C := RX4) (T := TX4) (N := 24) (ci := 4) (v := .int (m_co q34)) hM hK hP inX4 0 rfl rfl 0 (by decide) wfl_X4_67 rfl dX4_stay_73 ?_
            refine lv_iload_n hx hb dX4_stay_76 rfl (lv_at hl 3 rfl) ?_
            refine lv_iconst (v := (-1)) hx hb dX4_stay_77 (by decide) ?_
            refine lv_ixor hx hb dX4_stay_78 ?_
            refine lv_iand hx hb dX4_stay_79 ?_
            obtain ⟨h36, hO⟩ := hO
            obtain ⟨q37, e38⟩ : ∃ q, fX4_worstOf q34 (m_co q34 &&& (s3 ^^^ (-1))) = q := ⟨_, rfl⟩
            have hF := lt_n e38 hF
            try have hO := lo_n e38 hO
            refine ct_callF hM hK hP hD hS (kX4_worstOf l D cy a q34 (m_co q34 &&& (s3 ^^^ (-1))) h36 e38) kvX4_worstOf wml_X4_134 rfl 0 rfl rfl rfl rfl hl.1 rfl ⟨rfl, rfl, Nat.le_of_ble_eq_true rfl, Nat.le_of_ble_eq_true rfl⟩ (Nat.le_of_ble_eq_true rfl) ⟨Nat.zero_le _, Nat.zero_le _⟩ dX4_stay_80 (fun H locs hP hD hS => ?_)
            refine W.eq (g2 := F0 m 83 ls [.int q37]) rfl ?_
            refine lv_iload_n hx hb dX4_stay_83 rfl (lv_at hl 1 rfl) ?_
            refine lv_icmp_gt (tgt := 91) hx hb dX4_stay_84 (by decide) (fun c39 => ?_) (fun c39 => ?_)
            · have hF := lt_t c39 hF
              have hO := lo_t c39 hO
              refine lv_iload_n hx hb dX4_stay_91 rfl (lv_at hl 2 rfl) ?_
              refine lv_istore_n (lv' := [(2, .int s2), (0, .ref (a 0)), (1, .int s1), (3, .int s3)]) hx hb dX4_stay_92 rfl hl (by decide) rfl (fun ls hl => ?_)
              obtain ⟨x40, e41⟩ : ∃ y : Int32, s3 + 1 = y := ⟨_, rfl⟩
              have hF := lt_n e41 hF
              try have hO := lo_n e41 hO
              refine lv_iinc (v := x40) (lv' := [(3, .int x40), (2, .int s2), (0, .ref (a 0)), (1, .int s1)]) hx hb dX4_stay_93 hl (k := 3) rfl (by rw [← e41]; rfl) (by decide) rfl (fun ls hl => ?_)
              refine lv_goto (tgt := 24) hx hb dX4_stay_96 (by decide) ?_
              exact ih q34 s2 x40 H locs ls hP hD hS (lv_sub hl [2, 3, 1, 0] rfl) hO hF
            · have hF := lt_f c39 hF
              have hO := lo_f c39 hO
              refine lv_iload_n hx hb dX4_stay_87 rfl (lv_at hl 3 rfl) ?_
              refine lv_goto (tgt := 92) hx hb dX4_stay_88 (by decide) ?_
              refine lv_istore_n (lv' := [(2, .int s3), (0, .ref (a 0)), (1, .int s1), (3, .int s3)]) hx hb dX4_stay_92 rfl hl (by decide) rfl (fun ls hl => ?_)
              obtain ⟨x42, e43⟩ : ∃ y : Int32, s3 + 1 = y := ⟨_, rfl⟩
              have hF := lt_n e43 hF
              try have hO := lo_n e43 hO
              refine lv_iinc (v := x42) (lv' := [(3, .int x42), (2, .int s3), (0, .ref (a 0)), (1, .int s1)]) hx hb dX4_stay_93 hl (k := 3) rfl (by rw [← e43]; rfl) (by decide) rfl (fun ls hl => ?_)
              refine lv_goto (tgt := 24) hx hb dX4_stay_96 (by decide) ?_
              exact ih q34 s3 x42 H locs ls hP hD hS (lv_sub hl [2, 3, 1, 0] rfl) hO hF

def fX4_stay (x : tMs) (s1 : Int32) : Int32 × tMs := lt_ (fX4_in (Int32.toInt64 s1) 0 9999) fun q2 => if q2 = 0 then ((-2), x) else (lt_ (fX4_layNow x) fun q6 => fX4_stay_24 s1 257 q6 (-6) 0)
def oX4_stay (x : tMs) (s1 : Int32) : Prop := lo_ (fX4_in (Int32.toInt64 s1) 0 9999) fun q2 => if q2 = 0 then True else (oX4_layNow x ∧ (lo_ (fX4_layNow x) fun q6 => oX4_stay_24 s1 257 q6 (-6) 0))
theorem kvX4_stay : KV yX4_stay cX4_stay 4 (some .int) 1 := ⟨wcd_X4_stay, wim_X4_stay, wsl_X4_stay, win_X4, by decide +kernel, by decide +kernel, by decide +kernel⟩
set_option maxHeartbeats 4000000 in
set_option maxRecDepth 100000 in
theorem kX4_stay (l : Launch) (D : va_G) (cy : Nat → ClassId) (a : Nat → Nat) (x : tMs) (s1 : Int32) {R : Int32 × tMs} (hO : oX4_stay x s1) (hF : fX4_stay x s1 = R) : CT l D cy yX4_stay cX4_stay 4 (some .int) rX4_stay [.ref (a 0), .int s1] (gwM cy a x) (some (.int R.1)) (gwM cy a R.2) := by
  refine ct_of (by decide) (Nat.le_of_ble_eq_true rfl) ?_
  intro p e s m args below meth c A ls hM hK hP hD hS hl
  obtain ⟨hx, hb, -, hml, hown, hts, -⟩ := id hM
  have hl : lv_has ls 4 [(0, .ref (a 0)), (1, .int s1)] := hl
  obtain ⟨H, hH⟩ : ∃ H : Heap, H = s.heap := ⟨_, rfl⟩
  obtain ⟨locs, hlocs⟩ : ∃ q : List Loc, q = [] := ⟨_, rfl⟩
  have hP : va_P D classes (gwM cy a x) H := by rw [hH]; exact hP
  have hS : va_S A s.heap H locs := by rw [hH, hlocs]; exact hS
  suffices hg : W p l e rX4_stay s m args below meth c H locs 0 0 (MQ below (ctQ D (some (.int R.1)) (gwM cy a R.2) A) args s 0 0 A) (F0 m 0 ls []) by rw [hH, hlocs] at hg; exact hg
  clear hH hlocs
  unfold fX4_stay at hF
  unfold oX4_stay at hO
  refine lv_iload_n hx hb dX4_stay_0 rfl (lv_at hl 1 rfl) ?_
  refine lv_i2l (v := Int32.toInt64 s1) hx hb dX4_stay_1 rfl ?_
  refine lv_lconst (v := 0) hx hb dX4_stay_2 rfl ?_
  refine lv_ldc2 (v := 9999) hx hb hown (hts _ wct_X4_149) dX4_stay_3 ?_
  obtain ⟨q2, e3⟩ : ∃ q, fX4_in (Int32.toInt64 s1) 0 9999 = q := ⟨_, rfl⟩
  have hF := lt_n e3 hF
  try have hO := lo_n e3 hO
  refine ct_callS hM hK hP hD hS (kX4_in l D cy (Int32.toInt64 s1) 0 9999 trivial e3) kvX4_in wml_X4_59 rfl hl.1 rfl ⟨rfl, rfl, Nat.le_of_ble_eq_true rfl, Nat.le_of_ble_eq_true rfl⟩ (Nat.le_of_ble_eq_true rfl) ⟨Nat.zero_le _, Nat.zero_le _⟩ dX4_stay_6 (fun H locs hP hD hS => ?_)
  refine W.eq (g2 := F0 m 9 ls [.int q2]) rfl ?_
  have hP : va_P D classes (gwM cy a x) H := hP
  have hD : va_D A (gwM cy a x) := hD
  refine lv_if_ne (tgt := 15) hx hb dX4_stay_9 (by decide) (fun c4 => ?_) (fun c4 => ?_)
  · have hF := lt_f c4 hF
    have hO := lo_f c4 hO
    refine lv_aload_n hx hb dX4_stay_15 rfl (lv_at hl 0 rfl) ?_
    obtain ⟨h5, hO⟩ := hO
    obtain ⟨q6, e7⟩ : ∃ q, fX4_layNow x = q := ⟨_, rfl⟩
    have hF := lt_n e7 hF
    try have hO := lo_n e7 hO
    refine ct_callF hM hK hP hD hS (kX4_layNow l D cy a x h5 e7) kvX4_layNow wml_X4_124 rfl 0 rfl rfl rfl rfl hl.1 rfl ⟨rfl, rfl, Nat.le_of_ble_eq_true rfl, Nat.le_of_ble_eq_true rfl⟩ (Nat.le_of_ble_eq_true rfl) ⟨Nat.zero_le _, Nat.zero_le _⟩ dX4_stay_16 (fun H locs hP hD hS => ?_)
    refine W.eq (g2 := F0 m 19 ls []) rfl ?_
    have hP : va_P D classes (gwM cy a q6) H := hP
    have hD : va_D A (gwM cy a q6) := hD
    refine lv_bipush (v := (-6)) hx hb dX4_stay_19 (by decide) ?_
    refine lv_istore_n (lv' := [(2, .int (-6)), (0, .ref (a 0)), (1, .int s1)]) hx hb dX4_stay_21 rfl hl (by decide) rfl (fun ls hl => ?_)
    refine lv_iconst (v := 0) hx hb dX4_stay_22 (by decide) ?_
    refine lv_istore_n (lv' := [(3, .int 0), (2, .int (-6)), (0, .ref (a 0)), (1, .int s1)]) hx hb dX4_stay_23 rfl hl (by decide) rfl (fun ls hl => ?_)
    exact tX4_stay_24 hM hK 257 q6 (-6) 0 H locs ls hP hD hS (lv_sub hl [2, 3, 1, 0] rfl) hO hF
  · have hF := lt_t c4 hF
    have hO := lo_t c4 hO
    refine lv_bipush (v := (-2)) hx hb dX4_stay_12 (by decide) ?_
    subst hF
    exact ct_iret hM hP hS dX4_stay_14

abbrev rX4_day : Room := { frames := 4, cells := 0, slots := 0, locals := 99 }
def fX4_day_34 (s2 : Int32) : Nat → tMs → Int32 → Int32 → Int32 × tMs
  | 0, x, s3, s4 => (0, x)
  | n + 1, x, s3, s4 => if 8 ≤ s4 then (lt_ (fX4_go x (m_co x) 99) fun q14 => if s2 = 0 then (lt_ (fX4_worstOf q14 (m_co q14)) fun q21 => (q21, q14)) else (lt_ (fX4_sumOf q14 (m_co q14)) fun q18 => (q18, q14))) else (lt_ (fX4_comes x s4) fun q24 => if q24 = 0 then (lt_ (s4 + 1) fun x27 => fX4_day_34 s2 n x s3 x27) else (lt_ (Int64.toInt32 (((75 * (Int32.toInt64 s3)) + 74) - (((75 * (Int32.toInt64 s3)) + 74) / 65537) * 65537)) fun x29 => lt_ (x29 - (x29 / 600) * 600) fun x31 => lt_ (s4 + 1) fun x34 => fX4_day_34 s2 n (m_co x, m_mi x, m_mn x, m_pa x, m_ca x, m_dr x, m_fa x, m_st x, m_ha x, m_pd x, m_pn x, m_fr x, upd (m_at x) (Int32.toNatClampNeg s4) x31, m_wa x, m_en x, m_to x, m_or x, m_my x, m_bf x, m_bs x, m_kp x, m_ik x, m_ka x, m_iw x) x29 x34))
def oX4_day_34 (s2 : Int32) : Nat → tMs → Int32 → Int32 → Prop
  | 0, _, _, _ => False
  | n + 1, x, s3, s4 => if 8 ≤ s4 then (oX4_go x (m_co x) 99 ∧ (lo_ (fX4_go x (m_co x) 99) fun q14 => if s2 = 0 then (oX4_worstOf q14 (m_co q14) ∧ True) else (oX4_sumOf q14 (m_co q14) ∧ True))) else (oX4_comes x s4 ∧ (lo_ (fX4_comes x s4) fun q24 => if q24 = 0 then (lo_ (s4 + 1) fun x27 => oX4_day_34 s2 n x s3 x27) else (lo_ (Int64.toInt32 (((75 * (Int32.toInt64 s3)) + 74) - (((75 * (Int32.toInt64 s3)) + 74) / 65537) * 65537)) fun x29 => lo_ (x29 - (x29 / 600) * 600) fun x31 => vp_in s4 8 ∧ (lo_ (s4 + 1) fun x34 => oX4_day_34 s2 n (m_co x, m_mi x, m_mn x, m_pa x, m_ca x, m_dr x, m_fa x, m_st x, m_ha x, m_pd x, m_pn x, m_fr x, upd (m_at x) (Int32.toNatClampNeg s4) x31, m_wa x, m_en x, m_to x, m_or x, m_my x, m_bf x, m_bs x, m_kp x, m_ik x, m_ka x, m_iw x) x29 x34))))
set_option maxHeartbeats 4000000 in
set_option maxRecDepth 100000 in
theorem tX4_day_34 {p : Program} {l : Launch} {e : Env} {s : State} {m : MethodId} {args : Array Value} {below : List Frame} {meth : Method} {c : Code} {A : Nat → Prop} {D : va_G} {cy : Nat → ClassId} {a : Nat → Nat} {s1 : Int32} {s2 : Int32} {R : Int32 × tMs} (hM : MC p s m args meth c RX4 cX4_day 5 (some .int)) (hK : va_K D classes (ctT cy) s) :
    ∀ (n : Nat) (x : tMs) (s3 : Int32) (s4 : Int32) (H : Heap) (locs : List Loc) (ls : Array Slot), va_P D classes (gwM cy a x) H → va_D A (gwM cy a x) → va_S A s.heap H locs → lv_has ls 5 [(0, .ref (a 0)), (1, .int s1), (2, .int s2), (3, .int s3), (4, .int s4)] → oX4_day_34 s2 n x s3 s4 → fX4_day_34 s2 n x s3 s4 = R → W p l e rX4_day s m args below meth c H locs 0 0 (MQ below (ctQ D (some (.int R.1)) (gwM cy a R.2) A) args s 0 0 A) (F0 m 34 ls []) := by
  obtain ⟨hx, hb, -, hml, hown, hts, -⟩ := id hM
  intro n
  induction n with
  | zero =>
    intro x s3 s4 H locs ls hP hD hS hl hO hF
    exact False.elim hO
  | succ n ih =>
    intro x s3 s4 H locs ls hP hD hS hl hO hF
    rw [fX4_day_34] at hF
    rw [oX4_day_34] at hO
    refine lv_iload hx hb dX4_day_34 (lv_at hl 4 rfl) ?_
    refine lv_bipush (v := 8) hx hb dX4_day_36 (by decide) ?_
    refine lv_icmp_ge (tgt := 84) hx hb dX4_day_38 (by decide) (fun c12 => ?_) (fun c12 => ?_)
    · have hF := lt_t c12 hF
      have hO := lo_t c12 hO
      refine lv_aload_n hx hb dX4_day_84 rfl (lv_at hl 0 rfl) ?_
      refine lv_aload_n hx hb dX4_day_85 rfl (lv_at hl 0 rfl) ?_
      refine ct_get (C := RX4) (T := TX4) (N := 24) (ci := 4) (v := .int (m_co x)) hM hK hP inX4 0 rfl rfl 0 (by decide) wfl_X4_67 rfl dX4_day_86 ?_
      refine lv_bipush (v := 99) hx hb dX4_day_89 (by decide) ?_
      obtain ⟨h13, hO⟩ := hO
      obtain ⟨q14, e15⟩ : ∃ q, fX4_go x (m_co x) 99 = q := ⟨_, rfl⟩
      have hF := lt_n e15 hF
      try have hO := lo_n e15 hO
      refine ct_callF hM hK hP hD hS (kX4_go l D cy a x (m_co x) 99 h13 e15) kvX4_go wml_X4_127 rfl 0 rfl rfl rfl rfl hl.1 rfl ⟨rfl, rfl, Nat.le_of_ble_eq_true rfl, Nat.le_of_ble_eq_true rfl⟩ (Nat.le_of_ble_eq_true rfl) ⟨Nat.zero_le _, Nat.zero_le _⟩ dX4_day_91 (fun H locs hP hD hS => ?_)
      refine W.eq (g2 := F0 m 94 ls []) rfl ?_
      have hP : va_P D classes (gwM cy a q14) H := hP
      have hD : va_D A (gwM cy a q14) := hD
      refine lv_iload_n hx hb dX4_day_94 rfl (lv_at hl 2 rfl) ?_
      refine lv_if_ne (tgt := 109) hx hb dX4_day_95 (by decide) (fun c16 => ?_) (fun c16 => ?_)
      · have hF := lt_f c16 hF
        have hO := lo_f c16 hO
        refine lv_aload_n hx hb dX4_day_109 rfl (lv_at hl 0 rfl) ?_
        refine lv_aload_n hx hb dX4_day_110 rfl (lv_at hl 0 rfl) ?_
        refine ct_get (C := RX4) (T := TX4) (N := 24) (ci := 4) (v := .int (m_co q14)) hM hK hP inX4 0 rfl rfl 0 (by decide) wfl_X4_67 rfl dX4_day_111 ?_
        obtain ⟨h17, hO⟩ := hO
        obtain ⟨q18, e19⟩ : ∃ q, fX4_sumOf q14 (m_co q14) = q := ⟨_, rfl⟩
        have hF := lt_n e19 hF
        try have hO := lo_n e19 hO
        refine ct_callF hM hK hP hD hS (kX4_sumOf l D cy a q14 (m_co q14) h17 e19) kvX4_sumOf wml_X4_141 rfl 0 rfl rfl rfl rfl hl.1 rfl ⟨rfl, rfl, Nat.le_of_ble_eq_true rfl, Nat.le_of_ble_eq_true rfl⟩ (Nat.le_of_ble_eq_true rfl) ⟨Nat.zero_le _, Nat.zero_le _⟩ dX4_day_114 (fun H locs hP hD hS => ?_)
        refine W.eq (g2 := F0 m 117 ls [.int q18]) rfl ?_
        subst hF
        exact ct_iret hM hP hS dX4_day_117
      · have hF := lt_t c16 hF
        have hO := lo_t c16 hO
        refine lv_aload_n hx hb dX4_day_98 rfl (lv_at hl 0 rfl) ?_
        refine lv_aload_n hx hb dX4_day_99 rfl (lv_at hl 0 rfl) ?_
        refine ct_get (C := RX4) (T := TX4) (N := 24) (ci := 4) (v := .int (m_co q14)) hM hK hP inX4 0 rfl rfl 0 (by decide) wfl_X4_67 rfl dX4_day_100 ?_
        obtain ⟨h20, hO⟩ := hO
        obtain ⟨q21, e22⟩ : ∃ q, fX4_worstOf q14 (m_co q14) = q := ⟨_, rfl⟩
        have hF := lt_n e22 hF
        try have hO := lo_n e22 hO
        refine ct_callF hM hK hP hD hS (kX4_worstOf l D cy a q14 (m_co q14) h20 e22) kvX4_worstOf wml_X4_134 rfl 0 rfl rfl rfl rfl hl.1 rfl ⟨rfl, rfl, Nat.le_of_ble_eq_true rfl, Nat.le_of_ble_eq_true rfl⟩ (Nat.le_of_ble_eq_true rfl) ⟨Nat.zero_le _, Nat.zero_le _⟩ dX4_day_103 (fun H locs hP hD hS => ?_)
        refine W.eq (g2 := F0 m 106 ls [.int q21]) rfl ?_
        refine lv_goto (tgt := 117) hx hb dX4_day_106 (by decide) ?_
        subst hF
        exact ct_iret hM hP hS dX4_day_117
    · have hF := lt_f c12 hF
      have hO := lo_f c12 hO
      refine lv_aload_n hx hb dX4_day_41 rfl (lv_at hl 0 rfl) ?_
      refine lv_iload hx hb dX4_day_42 (lv_at hl 4 rfl) ?_
      obtain ⟨h23, hO⟩ := hO
      obtain ⟨q24, e25⟩ : ∃ q, fX4_comes x s4 = q := ⟨_, rfl⟩
      have hF := lt_n e25 hF
      try have hO := lo_n e25 hO
      refine ct_callF hM hK hP hD hS (kX4_comes l D cy a x s4 h23 e25) kvX4_comes wml_X4_80 rfl 0 rfl rfl rfl rfl hl.1 rfl ⟨rfl, rfl, Nat.le_of_ble_eq_true rfl, Nat.le_of_ble_eq_true rfl⟩ (Nat.le_of_ble_eq_true rfl) ⟨Nat.zero_le _, Nat.zero_le _⟩ dX4_day_44 (fun H locs hP hD hS => ?_)
      refine W.eq (g2 := F0 m 47 ls [.int q24]) rfl ?_
      refine lv_if_eq (tgt := 78) hx hb dX4_day_47 (by decide) (fun c26 => ?_) (fun c26 => ?_)
      · have hF := lt_t c26 hF
        have hO := lo_t c26 hO
        obtain ⟨x27, e28⟩ : ∃ y : Int32, s4 + 1 = y := ⟨_, rfl⟩
        have hF := lt_n e28 hF
        try have hO := lo_n e28 hO
        refine lv_iinc (v := x27) (lv' := [(4, .int x27), (0, .ref (a 0)), (1, .int s1), (2, .int s2), (3, .int s3)]) hx hb dX4_day_78 hl (k := 4) rfl (by rw [← e28]; rfl) (by decide) rfl (fun ls hl => ?_)
        refine lv_goto (tgt := 34) hx hb dX4_day_81 (by decide) ?_
        exact ih x s3 x27 H locs ls hP hD hS (lv_sub hl [1, 2, 3, 4, 0] rfl) hO hF
      · have hF := lt_f c26 hF
        have hO := lo_f c26 hO
        refine lv_ldc2 (v := 75) hx hb hown (hts _ wct_X4_164) dX4_day_50 ?_
        refine lv_iload_n hx hb dX4_day_53 rfl (lv_at hl 3 rfl) ?_
        refine lv_i2l (v := Int32.toInt64 s3) hx hb dX4_day_54 rfl ?_
        refine lv_lmul hx hb dX4_day_55 ?_
        refine lv_ldc2 (v := 74) hx hb hown (hts _ wct_X4_166) dX4_day_56 ?_
        refine lv_ladd hx hb dX4_day_59 ?_
        refine lv_ldc2 (v := 65537) hx hb hown (hts _ wct_X4_168) dX4_day_60 ?_
        refine lv_lrem hx hb dX4_day_63 (by decide) ?_
        refine lv_l2i (v := Int64.toInt32 (((75 * (Int32.toInt64 s3)) + 74) - (((75 * (Int32.toInt64 s3)) + 74) / 65537) * 65537)) hx hb dX4_day_64 rfl ?_
        refine lv_topi (fun x29 e30 => ?_)
        have hF := lt_n e30.symm hF
        try have hO := lo_n e30.symm hO
        refine lv_istore_n (lv' := [(3, .int x29), (0, .ref (a 0)), (1, .int s1), (2, .int s2), (4, .int s4)]) hx hb dX4_day_65 rfl hl (by decide) rfl (fun ls hl => ?_)
        refine lv_aload_n hx hb dX4_day_66 rfl (lv_at hl 1 rfl) ?_
        refine ct_get (C := RX4) (T := TX4) (N := 24) (ci := 4) (v := .ref (a 7)) hM hK hP inX4 0 rfl rfl 12 (by decide) wfl_X4_28 rfl dX4_day_67 ?_
        refine lv_iload hx hb dX4_day_70 (lv_at hl 4 rfl) ?_
        refine lv_iload_n hx hb dX4_day_72 rfl (lv_at hl 0 rfl) ?_
        refine lv_sipush (v := 600) hx hb dX4_day_73 (by decide) ?_
        refine lv_irem hx hb dX4_day_76 (by decide) ?_
        refine lv_topi (fun x31 e32 => ?_)
        have hF := lt_n e32.symm hF
        try have hO := lo_n e32.symm hO
        obtain ⟨h33, hO⟩ := hO
        refine va_iast hx hb hK hP hD hS 7 0 (f := m_at x) (n := 8) (cA := cy 0) rfl rfl h33 dX4_day_77 (fun H locs hP hD hS => ?_)
        have hP : va_P D classes (gwM cy a (m_co x, m_mi x, m_mn x, m_pa x, m_ca x, m_dr x, m_fa x, m_st x, m_ha x, m_pd x, m_pn x, m_fr x, upd (m_at x) (Int32.toNatClampNeg s4) x31, m_wa x, m_en x, m_to x, m_or x, m_my x, m_bf x, m_bs x, m_kp x, m_ik x, m_ka x, m_iw x)) H := hP
        have hD : va_D A (gwM cy a (m_co x, m_mi x, m_mn x, m_pa x, m_ca x, m_dr x, m_fa x, m_st x, m_ha x, m_pd x, m_pn x, m_fr x, upd (m_at x) (Int32.toNatClampNeg s4) x31, m_wa x, m_en x, m_to x, m_or x, m_my x, m_bf x, m_bs x, m_kp x, m_ik x, m_ka x, m_iw x)) := hD
        obtain ⟨x34, e35⟩ : ∃ y : Int32, s4 + 1 = y := ⟨_, rfl⟩
        have hF := lt_n e35 hF
        try have hO := lo_n e35 hO
        refine lv_iinc (v := x34) (lv' := [(4, .int x34), (3, .int x29), (0, .ref (a 0)), (1, .int s1), (2, .int s2)]) hx hb dX4_day_78 hl (k := 4) rfl (by rw [← e35]; rfl) (by decide) rfl (fun ls hl => ?_)
        refine lv_goto (tgt := 34) hx hb dX4_day_81 (by decide) ?_
        exact ih (m_co x, m_mi x, m_mn x, m_pa x, m_ca x, m_dr x, m_fa x, m_st x, m_ha x, m_pd x, m_pn x, m_fr x, upd (m_at x) (Int32.toNatClampNeg s4) x31, m_wa x, m_en x, m_to x, m_or x, m_my x, m_bf x, m_bs x, m_kp x, m_ik x, m_ka x, m_iw x) x29 x34 H locs ls hP hD hS (lv_sub hl [2, 3, 4, 1, 0] rfl) hO hF

def fX4_day (x : tMs) (s1 : Int32) (s2 : Int32) : Int32 × tMs := lt_ (fX4_in (Int32.toInt64 s1) 0 9999) fun q2 => if q2 = 0 then ((-2), x) else (lt_ (fX4_in (Int32.toInt64 s2) 0 1) fun q6 => if q6 = 0 then ((-2), x) else (lt_ (fX4_layNow x) fun q10 => fX4_day_34 s2 9 q10 s1 0))
def oX4_day (x : tMs) (s1 : Int32) (s2 : Int32) : Prop := lo_ (fX4_in (Int32.toInt64 s1) 0 9999) fun q2 => if q2 = 0 then True else (lo_ (fX4_in (Int32.toInt64 s2) 0 1) fun q6 => if q6 = 0 then True else (oX4_layNow x ∧ (lo_ (fX4_layNow x) fun q10 => oX4_day_34 s2 9 q10 s1 0)))
theorem kvX4_day : KV yX4_day cX4_day 5 (some .int) 2 := ⟨wcd_X4_day, wim_X4_day, wsl_X4_day, win_X4, by decide +kernel, by decide +kernel, by decide +kernel⟩
set_option maxHeartbeats 4000000 in
set_option maxRecDepth 100000 in
theorem kX4_day (l : Launch) (D : va_G) (cy : Nat → ClassId) (a : Nat → Nat) (x : tMs) (s1 : Int32) (s2 : Int32) {R : Int32 × tMs} (hO : oX4_day x s1 s2) (hF : fX4_day x s1 s2 = R) : CT l D cy yX4_day cX4_day 5 (some .int) rX4_day [.ref (a 0), .int s1, .int s2] (gwM cy a x) (some (.int R.1)) (gwM cy a R.2) := by
  refine ct_of (by decide) (Nat.le_of_ble_eq_true rfl) ?_
  intro p e s m args below meth c A ls hM hK hP hD hS hl
  obtain ⟨hx, hb, -, hml, hown, hts, -⟩ := id hM
  have hl : lv_has ls 5 [(0, .ref (a 0)), (1, .int s1), (2, .int s2)] := hl
  obtain ⟨H, hH⟩ : ∃ H : Heap, H = s.heap := ⟨_, rfl⟩
  obtain ⟨locs, hlocs⟩ : ∃ q : List Loc, q = [] := ⟨_, rfl⟩
  have hP : va_P D classes (gwM cy a x) H := by rw [hH]; exact hP
  have hS : va_S A s.heap H locs := by rw [hH, hlocs]; exact hS
  suffices hg : W p l e rX4_day s m args below meth c H locs 0 0 (MQ below (ctQ D (some (.int R.1)) (gwM cy a R.2) A) args s 0 0 A) (F0 m 0 ls []) by rw [hH, hlocs] at hg; exact hg
  clear hH hlocs
  unfold fX4_day at hF
  unfold oX4_day at hO
  refine lv_iload_n hx hb dX4_day_0 rfl (lv_at hl 1 rfl) ?_
  refine lv_i2l (v := Int32.toInt64 s1) hx hb dX4_day_1 rfl ?_
  refine lv_lconst (v := 0) hx hb dX4_day_2 rfl ?_
  refine lv_ldc2 (v := 9999) hx hb hown (hts _ wct_X4_149) dX4_day_3 ?_
  obtain ⟨q2, e3⟩ : ∃ q, fX4_in (Int32.toInt64 s1) 0 9999 = q := ⟨_, rfl⟩
  have hF := lt_n e3 hF
  try have hO := lo_n e3 hO
  refine ct_callS hM hK hP hD hS (kX4_in l D cy (Int32.toInt64 s1) 0 9999 trivial e3) kvX4_in wml_X4_59 rfl hl.1 rfl ⟨rfl, rfl, Nat.le_of_ble_eq_true rfl, Nat.le_of_ble_eq_true rfl⟩ (Nat.le_of_ble_eq_true rfl) ⟨Nat.zero_le _, Nat.zero_le _⟩ dX4_day_6 (fun H locs hP hD hS => ?_)
  refine W.eq (g2 := F0 m 9 ls [.int q2]) rfl ?_
  have hP : va_P D classes (gwM cy a x) H := hP
  have hD : va_D A (gwM cy a x) := hD
  refine lv_if_eq (tgt := 22) hx hb dX4_day_9 (by decide) (fun c4 => ?_) (fun c4 => ?_)
  · have hF := lt_t c4 hF
    have hO := lo_t c4 hO
    refine lv_bipush (v := (-2)) hx hb dX4_day_22 (by decide) ?_
    subst hF
    exact ct_iret hM hP hS dX4_day_24
  · have hF := lt_f c4 hF
    have hO := lo_f c4 hO
    refine lv_iload_n hx hb dX4_day_12 rfl (lv_at hl 2 rfl) ?_
    refine lv_i2l (v := Int32.toInt64 s2) hx hb dX4_day_13 rfl ?_
    refine lv_lconst (v := 0) hx hb dX4_day_14 rfl ?_
    refine lv_lconst (v := 1) hx hb dX4_day_15 rfl ?_
    obtain ⟨q6, e7⟩ : ∃ q, fX4_in (Int32.toInt64 s2) 0 1 = q := ⟨_, rfl⟩
    have hF := lt_n e7 hF
    try have hO := lo_n e7 hO
    refine ct_callS hM hK hP hD hS (kX4_in l D cy (Int32.toInt64 s2) 0 1 trivial e7) kvX4_in wml_X4_59 rfl hl.1 rfl ⟨rfl, rfl, Nat.le_of_ble_eq_true rfl, Nat.le_of_ble_eq_true rfl⟩ (Nat.le_of_ble_eq_true rfl) ⟨Nat.zero_le _, Nat.zero_le _⟩ dX4_day_16 (fun H locs hP hD hS => ?_)
    refine W.eq (g2 := F0 m 19 ls [.int q6]) rfl ?_
    have hP : va_P D classes (gwM cy a x) H := hP
    have hD : va_D A (gwM cy a x) := hD
    refine lv_if_ne (tgt := 25) hx hb dX4_day_19 (by decide) (fun c8 => ?_) (fun c8 => ?_)
    · have hF := lt_f c8 hF
      have hO := lo_f c8 hO
      refine lv_aload_n hx hb dX4_day_25 rfl (lv_at hl 0 rfl) ?_
      obtain ⟨h9, hO⟩ := hO
      obtain ⟨q10, e11⟩ : ∃ q, fX4_layNow x = q := ⟨_, rfl⟩
      have hF := lt_n e11 hF
      try have hO := lo_n e11 hO
      refine ct_callF hM hK hP hD hS (kX4_layNow l D cy a x h9 e11) kvX4_layNow wml_X4_124 rfl 0 rfl rfl rfl rfl hl.1 rfl ⟨rfl, rfl, Nat.le_of_ble_eq_true rfl, Nat.le_of_ble_eq_true rfl⟩ (Nat.le_of_ble_eq_true rfl) ⟨Nat.zero_le _, Nat.zero_le _⟩ dX4_day_26 (fun H locs hP hD hS => ?_)
      refine W.eq (g2 := F0 m 29 ls []) rfl ?_
      have hP : va_P D classes (gwM cy a q10) H := hP
      have hD : va_D A (gwM cy a q10) := hD
      refine lv_iload_n hx hb dX4_day_29 rfl (lv_at hl 1 rfl) ?_
      refine lv_istore_n (lv' := [(3, .int s1), (0, .ref (a 0)), (1, .int s1), (2, .int s2)]) hx hb dX4_day_30 rfl hl (by decide) rfl (fun ls hl => ?_)
      refine lv_iconst (v := 0) hx hb dX4_day_31 (by decide) ?_
      refine lv_istore (lv' := [(4, .int 0), (3, .int s1), (0, .ref (a 0)), (1, .int s1), (2, .int s2)]) hx hb dX4_day_32 hl (by decide) rfl (fun ls hl => ?_)
      exact tX4_day_34 hM hK 9 q10 s1 0 H locs ls hP hD hS (lv_sub hl [2, 3, 4, 1, 0] rfl) hO hF
    · have hF := lt_t c8 hF
      have hO := lo_t c8 hO
      refine lv_bipush (v := (-2)) hx hb dX4_day_22 (by decide) ?_
      subst hF
      exact ct_iret hM hP hS dX4_day_24

abbrev rX4_pass : Room := { frames := 0, cells := 0, slots := 0, locals := 0 }
def fX4_pass (x : tMs) (s1 : Int32) : Int32 × tMs := if m_iw x = 0 then (lt_ ((m_kp x) (Int32.toNatClampNeg (m_ka x))) fun x3 => lt_ (m_ka x + 1) fun x5 => (x3, (m_co x, m_mi x, m_mn x, m_pa x, m_ca x, m_dr x, m_fa x, m_st x, m_ha x, m_pd x, m_pn x, m_fr x, m_at x, m_wa x, m_en x, m_to x, m_or x, m_my x, m_bf x, m_bs x, upd (m_kp x) (Int32.toNatClampNeg (m_ka x)) x3, m_ik x, x5, m_iw x))) else (lt_ (m_ka x + 1) fun x8 => (s1, (m_co x, m_mi x, m_mn x, m_pa x, m_ca x, m_dr x, m_fa x, m_st x, m_ha x, m_pd x, m_pn x, m_fr x, m_at x, m_wa x, m_en x, m_to x, m_or x, m_my x, m_bf x, m_bs x, upd (m_kp x) (Int32.toNatClampNeg (m_ka x)) s1, m_ik x, x8, m_iw x)))
def oX4_pass (x : tMs) (s1 : Int32) : Prop := if m_iw x = 0 then (vp_in (m_ka x) 100 ∧ True) else (vp_in (m_ka x) 100 ∧ True)
theorem kvX4_pass : KV yX4_pass cX4_pass 3 (some .int) 1 := ⟨wcd_X4_pass, wim_X4_pass, wsl_X4_pass, win_X4, by decide +kernel, by decide +kernel, by decide +kernel⟩
set_option maxHeartbeats 4000000 in
set_option maxRecDepth 100000 in
theorem kX4_pass (l : Launch) (D : va_G) (cy : Nat → ClassId) (a : Nat → Nat) (x : tMs) (s1 : Int32) {R : Int32 × tMs} (hO : oX4_pass x s1) (hF : fX4_pass x s1 = R) : CT l D cy yX4_pass cX4_pass 3 (some .int) rX4_pass [.ref (a 0), .int s1] (gwM cy a x) (some (.int R.1)) (gwM cy a R.2) := by
  refine ct_of (by decide) (Nat.le_of_ble_eq_true rfl) ?_
  intro p e s m args below meth c A ls hM hK hP hD hS hl
  obtain ⟨hx, hb, -, hml, hown, hts, -⟩ := id hM
  have hl : lv_has ls 3 [(0, .ref (a 0)), (1, .int s1)] := hl
  obtain ⟨H, hH⟩ : ∃ H : Heap, H = s.heap := ⟨_, rfl⟩
  obtain ⟨locs, hlocs⟩ : ∃ q : List Loc, q = [] := ⟨_, rfl⟩
  have hP : va_P D classes (gwM cy a x) H := by rw [hH]; exact hP
  have hS : va_S A s.heap H locs := by rw [hH, hlocs]; exact hS
  suffices hg : W p l e rX4_pass s m args below meth c H locs 0 0 (MQ below (ctQ D (some (.int R.1)) (gwM cy a R.2) A) args s 0 0 A) (F0 m 0 ls []) by rw [hH, hlocs] at hg; exact hg
  clear hH hlocs
  unfold fX4_pass at hF
  unfold oX4_pass at hO
  refine lv_aload_n hx hb dX4_pass_0 rfl (lv_at hl 0 rfl) ?_
  refine ct_get (C := RX4) (T := TX4) (N := 24) (ci := 4) (v := .int (m_iw x)) hM hK hP inX4 0 rfl rfl 23 (by decide) wfl_X4_170 rfl dX4_pass_1 ?_
  refine lv_if_eq (tgt := 11) hx hb dX4_pass_4 (by decide) (fun c1 => ?_) (fun c1 => ?_)
  · have hF := lt_t c1 hF
    have hO := lo_t c1 hO
    refine lv_aload_n hx hb dX4_pass_11 rfl (lv_at hl 0 rfl) ?_
    refine ct_get (C := RX4) (T := TX4) (N := 24) (ci := 4) (v := .ref (a 12)) hM hK hP inX4 0 rfl rfl 20 (by decide) wfl_X4_43 rfl dX4_pass_12 ?_
    refine lv_aload_n hx hb dX4_pass_15 rfl (lv_at hl 0 rfl) ?_
    refine ct_get (C := RX4) (T := TX4) (N := 24) (ci := 4) (v := .int (m_ka x)) hM hK hP inX4 0 rfl rfl 22 (by decide) wfl_X4_174 rfl dX4_pass_16 ?_
    obtain ⟨h2, hO⟩ := hO
    refine va_iald hx hb hK hP 12 0 (f := m_kp x) (n := 100) (cA := cy 0) rfl rfl h2 dX4_pass_19 ?_
    refine lv_topi (fun x3 e4 => ?_)
    have hF := lt_n e4.symm hF
    try have hO := lo_n e4.symm hO
    refine lv_istore_n (lv' := [(2, .int x3), (0, .ref (a 0)), (1, .int s1)]) hx hb dX4_pass_20 rfl hl (by decide) rfl (fun ls hl => ?_)
    refine lv_aload_n hx hb dX4_pass_21 rfl (lv_at hl 1 rfl) ?_
    refine ct_get (C := RX4) (T := TX4) (N := 24) (ci := 4) (v := .ref (a 12)) hM hK hP inX4 0 rfl rfl 20 (by decide) wfl_X4_43 rfl dX4_pass_22 ?_
    refine lv_aload_n hx hb dX4_pass_25 rfl (lv_at hl 1 rfl) ?_
    refine ct_get (C := RX4) (T := TX4) (N := 24) (ci := 4) (v := .int (m_ka x)) hM hK hP inX4 0 rfl rfl 22 (by decide) wfl_X4_174 rfl dX4_pass_26 ?_
    refine lv_iload_n hx hb dX4_pass_29 rfl (lv_at hl 0 rfl) ?_
    refine va_iast hx hb hK hP hD hS 12 0 (f := m_kp x) (n := 100) (cA := cy 0) rfl rfl h2 dX4_pass_30 (fun H locs hP hD hS => ?_)
    have hP : va_P D classes (gwM cy a (m_co x, m_mi x, m_mn x, m_pa x, m_ca x, m_dr x, m_fa x, m_st x, m_ha x, m_pd x, m_pn x, m_fr x, m_at x, m_wa x, m_en x, m_to x, m_or x, m_my x, m_bf x, m_bs x, upd (m_kp x) (Int32.toNatClampNeg (m_ka x)) x3, m_ik x, m_ka x, m_iw x)) H := hP
    have hD : va_D A (gwM cy a (m_co x, m_mi x, m_mn x, m_pa x, m_ca x, m_dr x, m_fa x, m_st x, m_ha x, m_pd x, m_pn x, m_fr x, m_at x, m_wa x, m_en x, m_to x, m_or x, m_my x, m_bf x, m_bs x, upd (m_kp x) (Int32.toNatClampNeg (m_ka x)) x3, m_ik x, m_ka x, m_iw x)) := hD
    refine lv_aload_n hx hb dX4_pass_31 rfl (lv_at hl 1 rfl) ?_
    refine lv_dup hx hb dX4_pass_32 rfl ?_
    refine ct_get (C := RX4) (T := TX4) (N := 24) (ci := 4) (v := .int (m_ka x)) hM hK hP inX4 0 rfl rfl 22 (by decide) wfl_X4_174 rfl dX4_pass_33 ?_
    refine lv_iconst (v := 1) hx hb dX4_pass_36 (by decide) ?_
    refine lv_iadd hx hb dX4_pass_37 ?_
    refine lv_topi (fun x5 e6 => ?_)
    have hF := lt_n e6.symm hF
    try have hO := lo_n e6.symm hO
    refine ct_put1 (C := RX4) (T := TX4) (N := 24) (ci := 4) (v := .int x5) hM hK hP hD hS inX4 tyX4 tyX4_ok nmX4 0 rfl rfl 22 (by decide) wfl_X4_174 rfl (by first | rfl | decide) (by first | rfl | decide) (Nat.le_of_ble_eq_true rfl) dX4_pass_38 (fun H locs hP hD hS => ?_)
    have hP : va_P D classes (gwM cy a (m_co x, m_mi x, m_mn x, m_pa x, m_ca x, m_dr x, m_fa x, m_st x, m_ha x, m_pd x, m_pn x, m_fr x, m_at x, m_wa x, m_en x, m_to x, m_or x, m_my x, m_bf x, m_bs x, upd (m_kp x) (Int32.toNatClampNeg (m_ka x)) x3, m_ik x, x5, m_iw x)) H := hP
    have hD : va_D A (gwM cy a (m_co x, m_mi x, m_mn x, m_pa x, m_ca x, m_dr x, m_fa x, m_st x, m_ha x, m_pd x, m_pn x, m_fr x, m_at x, m_wa x, m_en x, m_to x, m_or x, m_my x, m_bf x, m_bs x, upd (m_kp x) (Int32.toNatClampNeg (m_ka x)) x3, m_ik x, x5, m_iw x)) := hD
    refine lv_iload_n hx hb dX4_pass_41 rfl (lv_at hl 0 rfl) ?_
    subst hF
    exact ct_iret hM hP hS dX4_pass_42
  · have hF := lt_f c1 hF
    have hO := lo_f c1 hO
    refine lv_iload_n hx hb dX4_pass_7 rfl (lv_at hl 1 rfl) ?_
    refine lv_goto (tgt := 20) hx hb dX4_pass_8 (by decide) ?_
    refine lv_istore_n (lv' := [(2, .int s1), (0, .ref (a 0)), (1, .int s1)]) hx hb dX4_pass_20 rfl hl (by decide) rfl (fun ls hl => ?_)
    refine lv_aload_n hx hb dX4_pass_21 rfl (lv_at hl 1 rfl) ?_
    refine ct_get (C := RX4) (T := TX4) (N := 24) (ci := 4) (v := .ref (a 12)) hM hK hP inX4 0 rfl rfl 20 (by decide) wfl_X4_43 rfl dX4_pass_22 ?_
    refine lv_aload_n hx hb dX4_pass_25 rfl (lv_at hl 1 rfl) ?_
    refine ct_get (C := RX4) (T := TX4) (N := 24) (ci := 4) (v := .int (m_ka x)) hM hK hP inX4 0 rfl rfl 22 (by decide) wfl_X4_174 rfl dX4_pass_26 ?_
    refine lv_iload_n hx hb dX4_pass_29 rfl (lv_at hl 0 rfl) ?_
    obtain ⟨h7, hO⟩ := hO
    refine va_iast hx hb hK hP hD hS 12 0 (f := m_kp x) (n := 100) (cA := cy 0) rfl rfl h7 dX4_pass_30 (fun H locs hP hD hS => ?_)
    have hP : va_P D classes (gwM cy a (m_co x, m_mi x, m_mn x, m_pa x, m_ca x, m_dr x, m_fa x, m_st x, m_ha x, m_pd x, m_pn x, m_fr x, m_at x, m_wa x, m_en x, m_to x, m_or x, m_my x, m_bf x, m_bs x, upd (m_kp x) (Int32.toNatClampNeg (m_ka x)) s1, m_ik x, m_ka x, m_iw x)) H := hP
    have hD : va_D A (gwM cy a (m_co x, m_mi x, m_mn x, m_pa x, m_ca x, m_dr x, m_fa x, m_st x, m_ha x, m_pd x, m_pn x, m_fr x, m_at x, m_wa x, m_en x, m_to x, m_or x, m_my x, m_bf x, m_bs x, upd (m_kp x) (Int32.toNatClampNeg (m_ka x)) s1, m_ik x, m_ka x, m_iw x)) := hD
    refine lv_aload_n hx hb dX4_pass_31 rfl (lv_at hl 1 rfl) ?_
    refine lv_dup hx hb dX4_pass_32 rfl ?_
    refine ct_get (C := RX4) (T := TX4) (N := 24) (ci := 4) (v := .int (m_ka x)) hM hK hP inX4 0 rfl rfl 22 (by decide) wfl_X4_174 rfl dX4_pass_33 ?_
    refine lv_iconst (v := 1) hx hb dX4_pass_36 (by decide) ?_
    refine lv_iadd hx hb dX4_pass_37 ?_
    refine lv_topi (fun x8 e9 => ?_)
    have hF := lt_n e9.symm hF
    try have hO := lo_n e9.symm hO
    refine ct_put1 (C := RX4) (T := TX4) (N := 24) (ci := 4) (v := .int x8) hM hK hP hD hS inX4 tyX4 tyX4_ok nmX4 0 rfl rfl 22 (by decide) wfl_X4_174 rfl (by first | rfl | decide) (by first | rfl | decide) (Nat.le_of_ble_eq_true rfl) dX4_pass_38 (fun H locs hP hD hS => ?_)
    have hP : va_P D classes (gwM cy a (m_co x, m_mi x, m_mn x, m_pa x, m_ca x, m_dr x, m_fa x, m_st x, m_ha x, m_pd x, m_pn x, m_fr x, m_at x, m_wa x, m_en x, m_to x, m_or x, m_my x, m_bf x, m_bs x, upd (m_kp x) (Int32.toNatClampNeg (m_ka x)) s1, m_ik x, x8, m_iw x)) H := hP
    have hD : va_D A (gwM cy a (m_co x, m_mi x, m_mn x, m_pa x, m_ca x, m_dr x, m_fa x, m_st x, m_ha x, m_pd x, m_pn x, m_fr x, m_at x, m_wa x, m_en x, m_to x, m_or x, m_my x, m_bf x, m_bs x, upd (m_kp x) (Int32.toNatClampNeg (m_ka x)) s1, m_ik x, x8, m_iw x)) := hD
    refine lv_iload_n hx hb dX4_pass_41 rfl (lv_at hl 0 rfl) ?_
    subst hF
    exact ct_iret hM hP hS dX4_pass_42

abbrev rX4_passAll : Room := { frames := 1, cells := 0, slots := 0, locals := 22 }
def fX4_passAll_62 : Nat → tMs → Int32 → tMs
  | 0, x, s1 => x
  | n + 1, x, s1 => if 8 ≤ s1 then x else (lt_ (fX4_pass x ((m_mi x) (Int32.toNatClampNeg s1))) fun q29 => lt_ q29.1 fun x31 => lt_ (fX4_pass (m_co q29.2, upd (m_mi q29.2) (Int32.toNatClampNeg s1) x31, m_mn q29.2, m_pa q29.2, m_ca q29.2, m_dr q29.2, m_fa q29.2, m_st q29.2, m_ha q29.2, m_pd q29.2, m_pn q29.2, m_fr q29.2, m_at q29.2, m_wa q29.2, m_en q29.2, m_to q29.2, m_or q29.2, m_my q29.2, m_bf q29.2, m_bs q29.2, m_kp q29.2, m_ik q29.2, m_ka q29.2, m_iw q29.2) ((m_mn q29.2) (Int32.toNatClampNeg s1))) fun q34 => lt_ q34.1 fun x36 => lt_ (fX4_pass (m_co q34.2, m_mi q34.2, upd (m_mn q34.2) (Int32.toNatClampNeg s1) x36, m_pa q34.2, m_ca q34.2, m_dr q34.2, m_fa q34.2, m_st q34.2, m_ha q34.2, m_pd q34.2, m_pn q34.2, m_fr q34.2, m_at q34.2, m_wa q34.2, m_en q34.2, m_to q34.2, m_or q34.2, m_my q34.2, m_bf q34.2, m_bs q34.2, m_kp q34.2, m_ik q34.2, m_ka q34.2, m_iw q34.2) ((m_pa q34.2) (Int32.toNatClampNeg s1))) fun q39 => lt_ q39.1 fun x41 => lt_ (fX4_pass (m_co q39.2, m_mi q39.2, m_mn q39.2, upd (m_pa q39.2) (Int32.toNatClampNeg s1) x41, m_ca q39.2, m_dr q39.2, m_fa q39.2, m_st q39.2, m_ha q39.2, m_pd q39.2, m_pn q39.2, m_fr q39.2, m_at q39.2, m_wa q39.2, m_en q39.2, m_to q39.2, m_or q39.2, m_my q39.2, m_bf q39.2, m_bs q39.2, m_kp q39.2, m_ik q39.2, m_ka q39.2, m_iw q39.2) ((m_ca q39.2) (Int32.toNatClampNeg s1))) fun q44 => lt_ q44.1 fun x46 => lt_ (s1 + 1) fun x48 => fX4_passAll_62 n (m_co q44.2, m_mi q44.2, m_mn q44.2, m_pa q44.2, upd (m_ca q44.2) (Int32.toNatClampNeg s1) x46, m_dr q44.2, m_fa q44.2, m_st q44.2, m_ha q44.2, m_pd q44.2, m_pn q44.2, m_fr q44.2, m_at q44.2, m_wa q44.2, m_en q44.2, m_to q44.2, m_or q44.2, m_my q44.2, m_bf q44.2, m_bs q44.2, m_kp q44.2, m_ik q44.2, m_ka q44.2, m_iw q44.2) x48)
def oX4_passAll_62 : Nat → tMs → Int32 → Prop
  | 0, _, _ => False
  | n + 1, x, s1 => if 8 ≤ s1 then True else (vp_in s1 8 ∧ oX4_pass x ((m_mi x) (Int32.toNatClampNeg s1)) ∧ (lo_ (fX4_pass x ((m_mi x) (Int32.toNatClampNeg s1))) fun q29 => lo_ q29.1 fun x31 => oX4_pass (m_co q29.2, upd (m_mi q29.2) (Int32.toNatClampNeg s1) x31, m_mn q29.2, m_pa q29.2, m_ca q29.2, m_dr q29.2, m_fa q29.2, m_st q29.2, m_ha q29.2, m_pd q29.2, m_pn q29.2, m_fr q29.2, m_at q29.2, m_wa q29.2, m_en q29.2, m_to q29.2, m_or q29.2, m_my q29.2, m_bf q29.2, m_bs q29.2, m_kp q29.2, m_ik q29.2, m_ka q29.2, m_iw q29.2) ((m_mn q29.2) (Int32.toNatClampNeg s1)) ∧ (lo_ (fX4_pass (m_co q29.2, upd (m_mi q29.2) (Int32.toNatClampNeg s1) x31, m_mn q29.2, m_pa q29.2, m_ca q29.2, m_dr q29.2, m_fa q29.2, m_st q29.2, m_ha q29.2, m_pd q29.2, m_pn q29.2, m_fr q29.2, m_at q29.2, m_wa q29.2, m_en q29.2, m_to q29.2, m_or q29.2, m_my q29.2, m_bf q29.2, m_bs q29.2, m_kp q29.2, m_ik q29.2, m_ka q29.2, m_iw q29.2) ((m_mn q29.2) (Int32.toNatClampNeg s1))) fun q34 => lo_ q34.1 fun x36 => oX4_pass (m_co q34.2, m_mi q34.2, upd (m_mn q34.2) (Int32.toNatClampNeg s1) x36, m_pa q34.2, m_ca q34.2, m_dr q34.2, m_fa q34.2, m_st q34.2, m_ha q34.2, m_pd q34.2, m_pn q34.2, m_fr q34.2, m_at q34.2, m_wa q34.2, m_en q34.2, m_to q34.2, m_or q34.2, m_my q34.2, m_bf q34.2, m_bs q34.2, m_kp q34.2, m_ik q34.2, m_ka q34.2, m_iw q34.2) ((m_pa q34.2) (Int32.toNatClampNeg s1)) ∧ (lo_ (fX4_pass (m_co q34.2, m_mi q34.2, upd (m_mn q34.2) (Int32.toNatClampNeg s1) x36, m_pa q34.2, m_ca q34.2, m_dr q34.2, m_fa q34.2, m_st q34.2, m_ha q34.2, m_pd q34.2, m_pn q34.2, m_fr q34.2, m_at q34.2, m_wa q34.2, m_en q34.2, m_to q34.2, m_or q34.2, m_my q34.2, m_bf q34.2, m_bs q34.2, m_kp q34.2, m_ik q34.2, m_ka q34.2, m_iw q34.2) ((m_pa q34.2) (Int32.toNatClampNeg s1))) fun q39 => lo_ q39.1 fun x41 => oX4_pass (m_co q39.2, m_mi q39.2, m_mn q39.2, upd (m_pa q39.2) (Int32.toNatClampNeg s1) x41, m_ca q39.2, m_dr q39.2, m_fa q39.2, m_st q39.2, m_ha q39.2, m_pd q39.2, m_pn q39.2, m_fr q39.2, m_at q39.2, m_wa q39.2, m_en q39.2, m_to q39.2, m_or q39.2, m_my q39.2, m_bf q39.2, m_bs q39.2, m_kp q39.2, m_ik q39.2, m_ka q39.2, m_iw q39.2) ((m_ca q39.2) (Int32.toNatClampNeg s1)) ∧ (lo_ (fX4_pass (m_co q39.2, m_mi q39.2, m_mn q39.2, upd (m_pa q39.2) (Int32.toNatClampNeg s1) x41, m_ca q39.2, m_dr q39.2, m_fa q39.2, m_st q39.2, m_ha q39.2, m_pd q39.2, m_pn q39.2, m_fr q39.2, m_at q39.2, m_wa q39.2, m_en q39.2, m_to q39.2, m_or q39.2, m_my q39.2, m_bf q39.2, m_bs q39.2, m_kp q39.2, m_ik q39.2, m_ka q39.2, m_iw q39.2) ((m_ca q39.2) (Int32.toNatClampNeg s1))) fun q44 => lo_ q44.1 fun x46 => lo_ (s1 + 1) fun x48 => oX4_passAll_62 n (m_co q44.2, m_mi q44.2, m_mn q44.2, m_pa q44.2, upd (m_ca q44.2) (Int32.toNatClampNeg s1) x46, m_dr q44.2, m_fa q44.2, m_st q44.2, m_ha q44.2, m_pd q44.2, m_pn q44.2, m_fr q44.2, m_at q44.2, m_wa q44.2, m_en q44.2, m_to q44.2, m_or q44.2, m_my q44.2, m_bf q44.2, m_bs q44.2, m_kp q44.2, m_ik q44.2, m_ka q44.2, m_iw q44.2) x48)))))
set_option maxHeartbeats 4000000 in
set_option maxRecDepth 100000 in
theorem tX4_passAll_62 {p : Program} {l : Launch} {e : Env} {s : State} {m : MethodId} {args : Array Value} {below : List Frame} {meth : Method} {c : Code} {A : Nat → Prop} {D : va_G} {cy : Nat → ClassId} {a : Nat → Nat} {R : tMs} (hM : MC p s m args meth c RX4 cX4_passAll 2 none) (hK : va_K D classes (ctT cy) s) :
    ∀ (n : Nat) (x : tMs) (s1 : Int32) (H : Heap) (locs : List Loc) (ls : Array Slot), va_P D classes (gwM cy a x) H → va_D A (gwM cy a x) → va_S A s.heap H locs → lv_has ls 2 [(0, .ref (a 0)), (1, .int s1)] → oX4_passAll_62 n x s1 → fX4_passAll_62 n x s1 = R → W p l e rX4_passAll s m args below meth c H locs 0 0 (MQ below (ctQ D none (gwM cy a R) A) args s 0 0 A) (F0 m 62 ls []) := by
  obtain ⟨hx, hb, -, hml, hown, hts, -⟩ := id hM
  intro n
  induction n with
  | zero =>
    intro x s1 H locs ls hP hD hS hl hO hF
    exact False.elim hO
  | succ n ih =>
    intro x s1 H locs ls hP hD hS hl hO hF
    rw [fX4_passAll_62] at hF
    rw [oX4_passAll_62] at hO
    refine lv_iload_n hx hb dX4_passAll_62 rfl (lv_at hl 1 rfl) ?_
    refine lv_bipush (v := 8) hx hb dX4_passAll_63 (by decide) ?_
    refine lv_icmp_ge (tgt := 138) hx hb dX4_passAll_65 (by decide) (fun c26 => ?_) (fun c26 => ?_)
    · have hF := lt_t c26 hF
      have hO := lo_t c26 hO
      subst hF
      exact ct_vret hM hP hS dX4_passAll_138
    · have hF := lt_f c26 hF
      have hO := lo_f c26 hO
      refine lv_aload_n hx hb dX4_passAll_68 rfl (lv_at hl 0 rfl) ?_
      refine ct_get (C := RX4) (T := TX4) (N := 24) (ci := 4) (v := .ref (a 1)) hM hK hP inX4 0 rfl rfl 1 (by decide) wfl_X4_7 rfl dX4_passAll_69 ?_
      refine lv_iload_n hx hb dX4_passAll_72 rfl (lv_at hl 1 rfl) ?_
      refine lv_aload_n hx hb dX4_passAll_73 rfl (lv_at hl 0 rfl) ?_
      refine lv_aload_n hx hb dX4_passAll_74 rfl (lv_at hl 0 rfl) ?_
      refine ct_get (C := RX4) (T := TX4) (N := 24) (ci := 4) (v := .ref (a 1)) hM hK hP inX4 0 rfl rfl 1 (by decide) wfl_X4_7 rfl dX4_passAll_75 ?_
      refine lv_iload_n hx hb dX4_passAll_78 rfl (lv_at hl 1 rfl) ?_
      obtain ⟨h27, hO⟩ := hO
      refine va_iald hx hb hK hP 1 0 (f := m_mi x) (n := 8) (cA := cy 0) rfl rfl h27 dX4_passAll_79 ?_
      obtain ⟨h28, hO⟩ := hO
      obtain ⟨q29, e30⟩ : ∃ q, fX4_pass x ((m_mi x) (Int32.toNatClampNeg s1)) = q := ⟨_, rfl⟩
      have hF := lt_n e30 hF
      try have hO := lo_n e30 hO
      refine ct_callF hM hK hP hD hS (kX4_pass l D cy a x ((m_mi x) (Int32.toNatClampNeg s1)) h28 e30) kvX4_pass wml_X4_177 rfl 0 rfl rfl rfl rfl hl.1 rfl ⟨rfl, rfl, Nat.le_of_ble_eq_true rfl, Nat.le_of_ble_eq_true rfl⟩ (Nat.le_of_ble_eq_true rfl) ⟨Nat.zero_le _, Nat.zero_le _⟩ dX4_passAll_80 (fun H locs hP hD hS => ?_)
      refine W.eq (g2 := F0 m 83 ls [.int q29.1, .int s1, .ref (a 1)]) rfl ?_
      have hP : va_P D classes (gwM cy a q29.2) H := hP
      have hD : va_D A (gwM cy a q29.2) := hD
      refine lv_topi (fun x31 e32 => ?_)
      have hF := lt_n e32.symm hF
      try have hO := lo_n e32.symm hO
      refine va_iast hx hb hK hP hD hS 1 0 (f := m_mi q29.2) (n := 8) (cA := cy 0) rfl rfl h27 dX4_passAll_83 (fun H locs hP hD hS => ?_)
      have hP : va_P D classes (gwM cy a (m_co q29.2, upd (m_mi q29.2) (Int32.toNatClampNeg s1) x31, m_mn q29.2, m_pa q29.2, m_ca q29.2, m_dr q29.2, m_fa q29.2, m_st q29.2, m_ha q29.2, m_pd q29.2, m_pn q29.2, m_fr q29.2, m_at q29.2, m_wa q29.2, m_en q29.2, m_to q29.2, m_or q29.2, m_my q29.2, m_bf q29.2, m_bs q29.2, m_kp q29.2, m_ik q29.2, m_ka q29.2, m_iw q29.2)) H := hP
      have hD : va_D A (gwM cy a (m_co q29.2, upd (m_mi q29.2) (Int32.toNatClampNeg s1) x31, m_mn q29.2, m_pa q29.2, m_ca q29.2, m_dr q29.2, m_fa q29.2, m_st q29.2, m_ha q29.2, m_pd q29.2, m_pn q29.2, m_fr q29.2, m_at q29.2, m_wa q29.2, m_en q29.2, m_to q29.2, m_or q29.2, m_my q29.2, m_bf q29.2, m_bs q29.2, m_kp q29.2, m_ik q29.2, m_ka q29.2, m_iw q29.2)) := hD
      refine lv_aload_n hx hb dX4_passAll_84 rfl (lv_at hl 0 rfl) ?_
      refine ct_get (C := RX4) (T := TX4) (N := 24) (ci := 4) (v := .ref (a 2)) hM hK hP inX4 0 rfl rfl 2 (by decide) wfl_X4_13 rfl dX4_passAll_85 ?_
      refine lv_iload_n hx hb dX4_passAll_88 rfl (lv_at hl 1 rfl) ?_
      refine lv_aload_n hx hb dX4_passAll_89 rfl (lv_at hl 0 rfl) ?_
      refine lv_aload_n hx hb dX4_passAll_90 rfl (lv_at hl 0 rfl) ?_
      refine ct_get (C := RX4) (T := TX4) (N := 24) (ci := 4) (v := .ref (a 2)) hM hK hP inX4 0 rfl rfl 2 (by decide) wfl_X4_13 rfl dX4_passAll_91 ?_
      refine lv_iload_n hx hb dX4_passAll_94 rfl (lv_at hl 1 rfl) ?_
      refine va_iald hx hb hK hP 2 0 (f := m_mn q29.2) (n := 8) (cA := cy 0) rfl rfl h27 dX4_passAll_95 ?_
      obtain ⟨h33, hO⟩ := hO
      obtain ⟨q34, e35⟩ : ∃ q, fX4_pass (m_co q29.2, upd (m_mi q29.2) (Int32.toNatClampNeg s1) x31, m_mn q29.2, m_pa q29.2, m_ca q29.2, m_dr q29.2, m_fa q29.2, m_st q29.2, m_ha q29.2, m_pd q29.2, m_pn q29.2, m_fr q29.2, m_at q29.2, m_wa q29.2, m_en q29.2, m_to q29.2, m_or q29.2, m_my q29.2, m_bf q29.2, m_bs q29.2, m_kp q29.2, m_ik q29.2, m_ka q29.2, m_iw q29.2) ((m_mn q29.2) (Int32.toNatClampNeg s1)) = q := ⟨_, rfl⟩
      have hF := lt_n e35 hF
      try have hO := lo_n e35 hO
      refine ct_callF hM hK hP hD hS (kX4_pass l D cy a (m_co q29.2, upd (m_mi q29.2) (Int32.toNatClampNeg s1) x31, m_mn q29.2, m_pa q29.2, m_ca q29.2, m_dr q29.2, m_fa q29.2, m_st q29.2, m_ha q29.2, m_pd q29.2, m_pn q29.2, m_fr q29.2, m_at q29.2, m_wa q29.2, m_en q29.2, m_to q29.2, m_or q29.2, m_my q29.2, m_bf q29.2, m_bs q29.2, m_kp q29.2, m_ik q29.2, m_ka q29.2, m_iw q29.2) ((m_mn q29.2) (Int32.toNatClampNeg s1)) h33 e35) kvX4_pass wml_X4_177 rfl 0 rfl rfl rfl rfl hl.1 rfl ⟨rfl, rfl, Nat.le_of_ble_eq_true rfl, Nat.le_of_ble_eq_true rfl⟩ (Nat.le_of_ble_eq_true rfl) ⟨Nat.zero_le _, Nat.zero_le _⟩ dX4_passAll_96 (fun H locs hP hD hS => ?_)
      refine W.eq (g2 := F0 m 99 ls [.int q34.1, .int s1, .ref (a 2)]) rfl ?_
      have hP : va_P D classes (gwM cy a q34.2) H := hP
      have hD : va_D A (gwM cy a q34.2) := hD
      refine lv_topi (fun x36 e37 => ?_)
      have hF := lt_n e37.symm hF
      try have hO := lo_n e37.symm hO
      refine va_iast hx hb hK hP hD hS 2 0 (f := m_mn q34.2) (n := 8) (cA := cy 0) rfl rfl h27 dX4_passAll_99 (fun H locs hP hD hS => ?_)
      have hP : va_P D classes (gwM cy a (m_co q34.2, m_mi q34.2, upd (m_mn q34.2) (Int32.toNatClampNeg s1) x36, m_pa q34.2, m_ca q34.2, m_dr q34.2, m_fa q34.2, m_st q34.2, m_ha q34.2, m_pd q34.2, m_pn q34.2, m_fr q34.2, m_at q34.2, m_wa q34.2, m_en q34.2, m_to q34.2, m_or q34.2, m_my q34.2, m_bf q34.2, m_bs q34.2, m_kp q34.2, m_ik q34.2, m_ka q34.2, m_iw q34.2)) H := hP
      have hD : va_D A (gwM cy a (m_co q34.2, m_mi q34.2, upd (m_mn q34.2) (Int32.toNatClampNeg s1) x36, m_pa q34.2, m_ca q34.2, m_dr q34.2, m_fa q34.2, m_st q34.2, m_ha q34.2, m_pd q34.2, m_pn q34.2, m_fr q34.2, m_at q34.2, m_wa q34.2, m_en q34.2, m_to q34.2, m_or q34.2, m_my q34.2, m_bf q34.2, m_bs q34.2, m_kp q34.2, m_ik q34.2, m_ka q34.2, m_iw q34.2)) := hD
      refine lv_aload_n hx hb dX4_passAll_100 rfl (lv_at hl 0 rfl) ?_
      refine ct_get (C := RX4) (T := TX4) (N := 24) (ci := 4) (v := .ref (a 3)) hM hK hP inX4 0 rfl rfl 3 (by decide) wfl_X4_16 rfl dX4_passAll_101 ?_
      refine lv_iload_n hx hb dX4_passAll_104 rfl (lv_at hl 1 rfl) ?_
      refine lv_aload_n hx hb dX4_passAll_105 rfl (lv_at hl 0 rfl) ?_
      refine lv_aload_n hx hb dX4_passAll_106 rfl (lv_at hl 0 rfl) ?_
      refine ct_get (C := RX4) (T := TX4) (N := 24) (ci := 4) (v := .ref (a 3)) hM hK hP inX4 0 rfl rfl 3 (by decide) wfl_X4_16 rfl dX4_passAll_107 ?_
      refine lv_iload_n hx hb dX4_passAll_110 rfl (lv_at hl 1 rfl) ?_
      refine va_iald hx hb hK hP 3 0 (f := m_pa q34.2) (n := 8) (cA := cy 0) rfl rfl h27 dX4_passAll_111 ?_
      obtain ⟨h38, hO⟩ := hO
      obtain ⟨q39, e40⟩ : ∃ q, fX4_pass (m_co q34.2, m_mi q34.2, upd (m_mn q34.2) (Int32.toNatClampNeg s1) x36, m_pa q34.2, m_ca q34.2, m_dr q34.2, m_fa q34.2, m_st q34.2, m_ha q34.2, m_pd q34.2, m_pn q34.2, m_fr q34.2, m_at q34.2, m_wa q34.2, m_en q34.2, m_to q34.2, m_or q34.2, m_my q34.2, m_bf q34.2, m_bs q34.2, m_kp q34.2, m_ik q34.2, m_ka q34.2, m_iw q34.2) ((m_pa q34.2) (Int32.toNatClampNeg s1)) = q := ⟨_, rfl⟩
      have hF := lt_n e40 hF
      try have hO := lo_n e40 hO
      refine ct_callF hM hK hP hD hS (kX4_pass l D cy a (m_co q34.2, m_mi q34.2, upd (m_mn q34.2) (Int32.toNatClampNeg s1) x36, m_pa q34.2, m_ca q34.2, m_dr q34.2, m_fa q34.2, m_st q34.2, m_ha q34.2, m_pd q34.2, m_pn q34.2, m_fr q34.2, m_at q34.2, m_wa q34.2, m_en q34.2, m_to q34.2, m_or q34.2, m_my q34.2, m_bf q34.2, m_bs q34.2, m_kp q34.2, m_ik q34.2, m_ka q34.2, m_iw q34.2) ((m_pa q34.2) (Int32.toNatClampNeg s1)) h38 e40) kvX4_pass wml_X4_177 rfl 0 rfl rfl rfl rfl hl.1 rfl ⟨rfl, rfl, Nat.le_of_ble_eq_true rfl, Nat.le_of_ble_eq_true rfl⟩ (Nat.le_of_ble_eq_true rfl) ⟨Nat.zero_le _, Nat.zero_le _⟩ dX4_passAll_112 (fun H locs hP hD hS => ?_)
      refine W.eq (g2 := F0 m 115 ls [.int q39.1, .int s1, .ref (a 3)]) rfl ?_
      have hP : va_P D classes (gwM cy a q39.2) H := hP
      have hD : va_D A (gwM cy a q39.2) := hD
      refine lv_topi (fun x41 e42 => ?_)
      have hF := lt_n e42.symm hF
      try have hO := lo_n e42.symm hO
      refine va_iast hx hb hK hP hD hS 3 0 (f := m_pa q39.2) (n := 8) (cA := cy 0) rfl rfl h27 dX4_passAll_115 (fun H locs hP hD hS => ?_)
      have hP : va_P D classes (gwM cy a (m_co q39.2, m_mi q39.2, m_mn q39.2, upd (m_pa q39.2) (Int32.toNatClampNeg s1) x41, m_ca q39.2, m_dr q39.2, m_fa q39.2, m_st q39.2, m_ha q39.2, m_pd q39.2, m_pn q39.2, m_fr q39.2, m_at q39.2, m_wa q39.2, m_en q39.2, m_to q39.2, m_or q39.2, m_my q39.2, m_bf q39.2, m_bs q39.2, m_kp q39.2, m_ik q39.2, m_ka q39.2, m_iw q39.2)) H := hP
      have hD : va_D A (gwM cy a (m_co q39.2, m_mi q39.2, m_mn q39.2, upd (m_pa q39.2) (Int32.toNatClampNeg s1) x41, m_ca q39.2, m_dr q39.2, m_fa q39.2, m_st q39.2, m_ha q39.2, m_pd q39.2, m_pn q39.2, m_fr q39.2, m_at q39.2, m_wa q39.2, m_en q39.2, m_to q39.2, m_or q39.2, m_my q39.2, m_bf q39.2, m_bs q39.2, m_kp q39.2, m_ik q39.2, m_ka q39.2, m_iw q39.2)) := hD
      refine lv_aload_n hx hb dX4_passAll_116 rfl (lv_at hl 0 rfl) ?_
      refine ct_get (C := RX4) (T := TX4) (N := 24) (ci := 4) (v := .ref (a 4)) hM hK hP inX4 0 rfl rfl 4 (by decide) wfl_X4_19 rfl dX4_passAll_117 ?_
      refine lv_iload_n hx hb dX4_passAll_120 rfl (lv_at hl 1 rfl) ?_
      refine lv_aload_n hx hb dX4_passAll_121 rfl (lv_at hl 0 rfl) ?_
      refine lv_aload_n hx hb dX4_passAll_122 rfl (lv_at hl 0 rfl) ?_
      refine ct_get (C := RX4) (T := TX4) (N := 24) (ci := 4) (v := .ref (a 4)) hM hK hP inX4 0 rfl rfl 4 (by decide) wfl_X4_19 rfl dX4_passAll_123 ?_
      refine lv_iload_n hx hb dX4_passAll_126 rfl (lv_at hl 1 rfl) ?_
      refine va_iald hx hb hK hP 4 0 (f := m_ca q39.2) (n := 8) (cA := cy 0) rfl rfl h27 dX4_passAll_127 ?_
      obtain ⟨h43, hO⟩ := hO
      obtain ⟨q44, e45⟩ : ∃ q, fX4_pass (m_co q39.2, m_mi q39.2, m_mn q39.2, upd (m_pa q39.2) (Int32.toNatClampNeg s1) x41, m_ca q39.2, m_dr q39.2, m_fa q39.2, m_st q39.2, m_ha q39.2, m_pd q39.2, m_pn q39.2, m_fr q39.2, m_at q39.2, m_wa q39.2, m_en q39.2, m_to q39.2, m_or q39.2, m_my q39.2, m_bf q39.2, m_bs q39.2, m_kp q39.2, m_ik q39.2, m_ka q39.2, m_iw q39.2) ((m_ca q39.2) (Int32.toNatClampNeg s1)) = q := ⟨_, rfl⟩
      have hF := lt_n e45 hF
      try have hO := lo_n e45 hO
      refine ct_callF hM hK hP hD hS (kX4_pass l D cy a (m_co q39.2, m_mi q39.2, m_mn q39.2, upd (m_pa q39.2) (Int32.toNatClampNeg s1) x41, m_ca q39.2, m_dr q39.2, m_fa q39.2, m_st q39.2, m_ha q39.2, m_pd q39.2, m_pn q39.2, m_fr q39.2, m_at q39.2, m_wa q39.2, m_en q39.2, m_to q39.2, m_or q39.2, m_my q39.2, m_bf q39.2, m_bs q39.2, m_kp q39.2, m_ik q39.2, m_ka q39.2, m_iw q39.2) ((m_ca q39.2) (Int32.toNatClampNeg s1)) h43 e45) kvX4_pass wml_X4_177 rfl 0 rfl rfl rfl rfl hl.1 rfl ⟨rfl, rfl, Nat.le_of_ble_eq_true rfl, Nat.le_of_ble_eq_true rfl⟩ (Nat.le_of_ble_eq_true rfl) ⟨Nat.zero_le _, Nat.zero_le _⟩ dX4_passAll_128 (fun H locs hP hD hS => ?_)
      refine W.eq (g2 := F0 m 131 ls [.int q44.1, .int s1, .ref (a 4)]) rfl ?_
      have hP : va_P D classes (gwM cy a q44.2) H := hP
      have hD : va_D A (gwM cy a q44.2) := hD
      refine lv_topi (fun x46 e47 => ?_)
      have hF := lt_n e47.symm hF
      try have hO := lo_n e47.symm hO
      refine va_iast hx hb hK hP hD hS 4 0 (f := m_ca q44.2) (n := 8) (cA := cy 0) rfl rfl h27 dX4_passAll_131 (fun H locs hP hD hS => ?_)
      have hP : va_P D classes (gwM cy a (m_co q44.2, m_mi q44.2, m_mn q44.2, m_pa q44.2, upd (m_ca q44.2) (Int32.toNatClampNeg s1) x46, m_dr q44.2, m_fa q44.2, m_st q44.2, m_ha q44.2, m_pd q44.2, m_pn q44.2, m_fr q44.2, m_at q44.2, m_wa q44.2, m_en q44.2, m_to q44.2, m_or q44.2, m_my q44.2, m_bf q44.2, m_bs q44.2, m_kp q44.2, m_ik q44.2, m_ka q44.2, m_iw q44.2)) H := hP
      have hD : va_D A (gwM cy a (m_co q44.2, m_mi q44.2, m_mn q44.2, m_pa q44.2, upd (m_ca q44.2) (Int32.toNatClampNeg s1) x46, m_dr q44.2, m_fa q44.2, m_st q44.2, m_ha q44.2, m_pd q44.2, m_pn q44.2, m_fr q44.2, m_at q44.2, m_wa q44.2, m_en q44.2, m_to q44.2, m_or q44.2, m_my q44.2, m_bf q44.2, m_bs q44.2, m_kp q44.2, m_ik q44.2, m_ka q44.2, m_iw q44.2)) := hD
      obtain ⟨x48, e49⟩ : ∃ y : Int32, s1 + 1 = y := ⟨_, rfl⟩
      have hF := lt_n e49 hF
      try have hO := lo_n e49 hO
      refine lv_iinc (v := x48) (lv' := [(1, .int x48), (0, .ref (a 0))]) hx hb dX4_passAll_132 hl (k := 1) rfl (by rw [← e49]; rfl) (by decide) rfl (fun ls hl => ?_)
      refine lv_goto (tgt := 62) hx hb dX4_passAll_135 (by decide) ?_
      exact ih (m_co q44.2, m_mi q44.2, m_mn q44.2, m_pa q44.2, upd (m_ca q44.2) (Int32.toNatClampNeg s1) x46, m_dr q44.2, m_fa q44.2, m_st q44.2, m_ha q44.2, m_pd q44.2, m_pn q44.2, m_fr q44.2, m_at q44.2, m_wa q44.2, m_en q44.2, m_to q44.2, m_or q44.2, m_my q44.2, m_bf q44.2, m_bs q44.2, m_kp q44.2, m_ik q44.2, m_ka q44.2, m_iw q44.2) x48 H locs ls hP hD hS (lv_sub hl [1, 0] rfl) hO hF

def fX4_passAll (x : tMs) : tMs := lt_ (fX4_pass x (m_co x)) fun q2 => lt_ q2.1 fun x4 => lt_ (fX4_pass (x4, m_mi q2.2, m_mn q2.2, m_pa q2.2, m_ca q2.2, m_dr q2.2, m_fa q2.2, m_st q2.2, m_ha q2.2, m_pd q2.2, m_pn q2.2, m_fr q2.2, m_at q2.2, m_wa q2.2, m_en q2.2, m_to q2.2, m_or q2.2, m_my q2.2, m_bf q2.2, m_bs q2.2, m_kp q2.2, m_ik q2.2, m_ka q2.2, m_iw q2.2) (m_dr q2.2)) fun q7 => lt_ q7.1 fun x9 => lt_ (fX4_pass (m_co q7.2, m_mi q7.2, m_mn q7.2, m_pa q7.2, m_ca q7.2, x9, m_fa q7.2, m_st q7.2, m_ha q7.2, m_pd q7.2, m_pn q7.2, m_fr q7.2, m_at q7.2, m_wa q7.2, m_en q7.2, m_to q7.2, m_or q7.2, m_my q7.2, m_bf q7.2, m_bs q7.2, m_kp q7.2, m_ik q7.2, m_ka q7.2, m_iw q7.2) (m_fa q7.2)) fun q12 => lt_ q12.1 fun x14 => lt_ (fX4_pass (m_co q12.2, m_mi q12.2, m_mn q12.2, m_pa q12.2, m_ca q12.2, m_dr q12.2, x14, m_st q12.2, m_ha q12.2, m_pd q12.2, m_pn q12.2, m_fr q12.2, m_at q12.2, m_wa q12.2, m_en q12.2, m_to q12.2, m_or q12.2, m_my q12.2, m_bf q12.2, m_bs q12.2, m_kp q12.2, m_ik q12.2, m_ka q12.2, m_iw q12.2) (m_st q12.2)) fun q17 => lt_ q17.1 fun x19 => lt_ (fX4_pass (m_co q17.2, m_mi q17.2, m_mn q17.2, m_pa q17.2, m_ca q17.2, m_dr q17.2, m_fa q17.2, x19, m_ha q17.2, m_pd q17.2, m_pn q17.2, m_fr q17.2, m_at q17.2, m_wa q17.2, m_en q17.2, m_to q17.2, m_or q17.2, m_my q17.2, m_bf q17.2, m_bs q17.2, m_kp q17.2, m_ik q17.2, m_ka q17.2, m_iw q17.2) (m_ha q17.2)) fun q22 => lt_ q22.1 fun x24 => fX4_passAll_62 9 (m_co q22.2, m_mi q22.2, m_mn q22.2, m_pa q22.2, m_ca q22.2, m_dr q22.2, m_fa q22.2, m_st q22.2, x24, m_pd q22.2, m_pn q22.2, m_fr q22.2, m_at q22.2, m_wa q22.2, m_en q22.2, m_to q22.2, m_or q22.2, m_my q22.2, m_bf q22.2, m_bs q22.2, m_kp q22.2, m_ik q22.2, m_ka q22.2, m_iw q22.2) 0
def oX4_passAll (x : tMs) : Prop := oX4_pass x (m_co x) ∧ (lo_ (fX4_pass x (m_co x)) fun q2 => lo_ q2.1 fun x4 => oX4_pass (x4, m_mi q2.2, m_mn q2.2, m_pa q2.2, m_ca q2.2, m_dr q2.2, m_fa q2.2, m_st q2.2, m_ha q2.2, m_pd q2.2, m_pn q2.2, m_fr q2.2, m_at q2.2, m_wa q2.2, m_en q2.2, m_to q2.2, m_or q2.2, m_my q2.2, m_bf q2.2, m_bs q2.2, m_kp q2.2, m_ik q2.2, m_ka q2.2, m_iw q2.2) (m_dr q2.2) ∧ (lo_ (fX4_pass (x4, m_mi q2.2, m_mn q2.2, m_pa q2.2, m_ca q2.2, m_dr q2.2, m_fa q2.2, m_st q2.2, m_ha q2.2, m_pd q2.2, m_pn q2.2, m_fr q2.2, m_at q2.2, m_wa q2.2, m_en q2.2, m_to q2.2, m_or q2.2, m_my q2.2, m_bf q2.2, m_bs q2.2, m_kp q2.2, m_ik q2.2, m_ka q2.2, m_iw q2.2) (m_dr q2.2)) fun q7 => lo_ q7.1 fun x9 => oX4_pass (m_co q7.2, m_mi q7.2, m_mn q7.2, m_pa q7.2, m_ca q7.2, x9, m_fa q7.2, m_st q7.2, m_ha q7.2, m_pd q7.2, m_pn q7.2, m_fr q7.2, m_at q7.2, m_wa q7.2, m_en q7.2, m_to q7.2, m_or q7.2, m_my q7.2, m_bf q7.2, m_bs q7.2, m_kp q7.2, m_ik q7.2, m_ka q7.2, m_iw q7.2) (m_fa q7.2) ∧ (lo_ (fX4_pass (m_co q7.2, m_mi q7.2, m_mn q7.2, m_pa q7.2, m_ca q7.2, x9, m_fa q7.2, m_st q7.2, m_ha q7.2, m_pd q7.2, m_pn q7.2, m_fr q7.2, m_at q7.2, m_wa q7.2, m_en q7.2, m_to q7.2, m_or q7.2, m_my q7.2, m_bf q7.2, m_bs q7.2, m_kp q7.2, m_ik q7.2, m_ka q7.2, m_iw q7.2) (m_fa q7.2)) fun q12 => lo_ q12.1 fun x14 => oX4_pass (m_co q12.2, m_mi q12.2, m_mn q12.2, m_pa q12.2, m_ca q12.2, m_dr q12.2, x14, m_st q12.2, m_ha q12.2, m_pd q12.2, m_pn q12.2, m_fr q12.2, m_at q12.2, m_wa q12.2, m_en q12.2, m_to q12.2, m_or q12.2, m_my q12.2, m_bf q12.2, m_bs q12.2, m_kp q12.2, m_ik q12.2, m_ka q12.2, m_iw q12.2) (m_st q12.2) ∧ (lo_ (fX4_pass (m_co q12.2, m_mi q12.2, m_mn q12.2, m_pa q12.2, m_ca q12.2, m_dr q12.2, x14, m_st q12.2, m_ha q12.2, m_pd q12.2, m_pn q12.2, m_fr q12.2, m_at q12.2, m_wa q12.2, m_en q12.2, m_to q12.2, m_or q12.2, m_my q12.2, m_bf q12.2, m_bs q12.2, m_kp q12.2, m_ik q12.2, m_ka q12.2, m_iw q12.2) (m_st q12.2)) fun q17 => lo_ q17.1 fun x19 => oX4_pass (m_co q17.2, m_mi q17.2, m_mn q17.2, m_pa q17.2, m_ca q17.2, m_dr q17.2, m_fa q17.2, x19, m_ha q17.2, m_pd q17.2, m_pn q17.2, m_fr q17.2, m_at q17.2, m_wa q17.2, m_en q17.2, m_to q17.2, m_or q17.2, m_my q17.2, m_bf q17.2, m_bs q17.2, m_kp q17.2, m_ik q17.2, m_ka q17.2, m_iw q17.2) (m_ha q17.2) ∧ (lo_ (fX4_pass (m_co q17.2, m_mi q17.2, m_mn q17.2, m_pa q17.2, m_ca q17.2, m_dr q17.2, m_fa q17.2, x19, m_ha q17.2, m_pd q17.2, m_pn q17.2, m_fr q17.2, m_at q17.2, m_wa q17.2, m_en q17.2, m_to q17.2, m_or q17.2, m_my q17.2, m_bf q17.2, m_bs q17.2, m_kp q17.2, m_ik q17.2, m_ka q17.2, m_iw q17.2) (m_ha q17.2)) fun q22 => lo_ q22.1 fun x24 => oX4_passAll_62 9 (m_co q22.2, m_mi q22.2, m_mn q22.2, m_pa q22.2, m_ca q22.2, m_dr q22.2, m_fa q22.2, m_st q22.2, x24, m_pd q22.2, m_pn q22.2, m_fr q22.2, m_at q22.2, m_wa q22.2, m_en q22.2, m_to q22.2, m_or q22.2, m_my q22.2, m_bf q22.2, m_bs q22.2, m_kp q22.2, m_ik q22.2, m_ka q22.2, m_iw q22.2) 0)))))
theorem kvX4_passAll : KV yX4_passAll cX4_passAll 2 none 0 := ⟨wcd_X4_passAll, wim_X4_passAll, wsl_X4_passAll, win_X4, by decide +kernel, by decide +kernel, by decide +kernel⟩
set_option maxHeartbeats 4000000 in
set_option maxRecDepth 100000 in
theorem kX4_passAll (l : Launch) (D : va_G) (cy : Nat → ClassId) (a : Nat → Nat) (x : tMs) {R : tMs} (hO : oX4_passAll x) (hF : fX4_passAll x = R) : CT l D cy yX4_passAll cX4_passAll 2 none rX4_passAll [.ref (a 0)] (gwM cy a x) none (gwM cy a R) := by
  refine ct_of (by decide) (Nat.le_of_ble_eq_true rfl) ?_
  intro p e s m args below meth c A ls hM hK hP hD hS hl
  obtain ⟨hx, hb, -, hml, hown, hts, -⟩ := id hM
  have hl : lv_has ls 2 [(0, .ref (a 0))] := hl
  obtain ⟨H, hH⟩ : ∃ H : Heap, H = s.heap := ⟨_, rfl⟩
  obtain ⟨locs, hlocs⟩ : ∃ q : List Loc, q = [] := ⟨_, rfl⟩
  have hP : va_P D classes (gwM cy a x) H := by rw [hH]; exact hP
  have hS : va_S A s.heap H locs := by rw [hH, hlocs]; exact hS
  suffices hg : W p l e rX4_passAll s m args below meth c H locs 0 0 (MQ below (ctQ D none (gwM cy a R) A) args s 0 0 A) (F0 m 0 ls []) by rw [hH, hlocs] at hg; exact hg
  clear hH hlocs
  unfold fX4_passAll at hF
  unfold oX4_passAll at hO
  refine lv_aload_n hx hb dX4_passAll_0 rfl (lv_at hl 0 rfl) ?_
  refine lv_aload_n hx hb dX4_passAll_1 rfl (lv_at hl 0 rfl) ?_
  refine lv_aload_n hx hb dX4_passAll_2 rfl (lv_at hl 0 rfl) ?_
  refine ct_get (C := RX4) (T := TX4) (N := 24) (ci := 4) (v := .int (m_co x)) hM hK hP inX4 0 rfl rfl 0 (by decide) wfl_X4_67 rfl dX4_passAll_3 ?_
  obtain ⟨h1, hO⟩ := hO
  obtain ⟨q2, e3⟩ : ∃ q, fX4_pass x (m_co x) = q := ⟨_, rfl⟩
  have hF := lt_n e3 hF
  try have hO := lo_n e3 hO
  refine ct_callF hM hK hP hD hS (kX4_pass l D cy a x (m_co x) h1 e3) kvX4_pass wml_X4_177 rfl 0 rfl rfl rfl rfl hl.1 rfl ⟨rfl, rfl, Nat.le_of_ble_eq_true rfl, Nat.le_of_ble_eq_true rfl⟩ (Nat.le_of_ble_eq_true rfl) ⟨Nat.zero_le _, Nat.zero_le _⟩ dX4_passAll_6 (fun H locs hP hD hS => ?_)
  refine W.eq (g2 := F0 m 9 ls [.int q2.1, .ref (a 0)]) rfl ?_
  have hP : va_P D classes (gwM cy a q2.2) H := hP
  have hD : va_D A (gwM cy a q2.2) := hD
  refine lv_topi (fun x4 e5 => ?_)
  have hF := lt_n e5.symm hF
  try have hO := lo_n e5.symm hO
  refine ct_put1 (C := RX4) (T := TX4) (N := 24) (ci := 4) (v := .int x4) hM hK hP hD hS inX4 tyX4 tyX4_ok nmX4 0 rfl rfl 0 (by decide) wfl_X4_67 rfl (by first | rfl | decide) (by first | rfl | decide) (Nat.le_of_ble_eq_true rfl) dX4_passAll_9 (fun H locs hP hD hS => ?_)
  have hP : va_P D classes (gwM cy a (x4, m_mi q2.2, m_mn q2.2, m_pa q2.2, m_ca q2.2, m_dr q2.2, m_fa q2.2, m_st q2.2, m_ha q2.2, m_pd q2.2, m_pn q2.2, m_fr q2.2, m_at q2.2, m_wa q2.2, m_en q2.2, m_to q2.2, m_or q2.2, m_my q2.2, m_bf q2.2, m_bs q2.2, m_kp q2.2, m_ik q2.2, m_ka q2.2, m_iw q2.2)) H := hP
  have hD : va_D A (gwM cy a (x4, m_mi q2.2, m_mn q2.2, m_pa q2.2, m_ca q2.2, m_dr q2.2, m_fa q2.2, m_st q2.2, m_ha q2.2, m_pd q2.2, m_pn q2.2, m_fr q2.2, m_at q2.2, m_wa q2.2, m_en q2.2, m_to q2.2, m_or q2.2, m_my q2.2, m_bf q2.2, m_bs q2.2, m_kp q2.2, m_ik q2.2, m_ka q2.2, m_iw q2.2)) := hD
  refine lv_aload_n hx hb dX4_passAll_12 rfl (lv_at hl 0 rfl) ?_
  refine lv_aload_n hx hb dX4_passAll_13 rfl (lv_at hl 0 rfl) ?_
  refine lv_aload_n hx hb dX4_passAll_14 rfl (lv_at hl 0 rfl) ?_
  refine ct_get (C := RX4) (T := TX4) (N := 24) (ci := 4) (v := .int (m_dr q2.2)) hM hK hP inX4 0 rfl rfl 5 (by decide) wfl_X4_50 rfl dX4_passAll_15 ?_
  obtain ⟨h6, hO⟩ := hO
  obtain ⟨q7, e8⟩ : ∃ q, fX4_pass (x4, m_mi q2.2, m_mn q2.2, m_pa q2.2, m_ca q2.2, m_dr q2.2, m_fa q2.2, m_st q2.2, m_ha q2.2, m_pd q2.2, m_pn q2.2, m_fr q2.2, m_at q2.2, m_wa q2.2, m_en q2.2, m_to q2.2, m_or q2.2, m_my q2.2, m_bf q2.2, m_bs q2.2, m_kp q2.2, m_ik q2.2, m_ka q2.2, m_iw q2.2) (m_dr q2.2) = q := ⟨_, rfl⟩
  have hF := lt_n e8 hF
  try have hO := lo_n e8 hO
  refine ct_callF hM hK hP hD hS (kX4_pass l D cy a (x4, m_mi q2.2, m_mn q2.2, m_pa q2.2, m_ca q2.2, m_dr q2.2, m_fa q2.2, m_st q2.2, m_ha q2.2, m_pd q2.2, m_pn q2.2, m_fr q2.2, m_at q2.2, m_wa q2.2, m_en q2.2, m_to q2.2, m_or q2.2, m_my q2.2, m_bf q2.2, m_bs q2.2, m_kp q2.2, m_ik q2.2, m_ka q2.2, m_iw q2.2) (m_dr q2.2) h6 e8) kvX4_pass wml_X4_177 rfl 0 rfl rfl rfl rfl hl.1 rfl ⟨rfl, rfl, Nat.le_of_ble_eq_true rfl, Nat.le_of_ble_eq_true rfl⟩ (Nat.le_of_ble_eq_true rfl) ⟨Nat.zero_le _, Nat.zero_le _⟩ dX4_passAll_18 (fun H locs hP hD hS => ?_)
  refine W.eq (g2 := F0 m 21 ls [.int q7.1, .ref (a 0)]) rfl ?_
  have hP : va_P D classes (gwM cy a q7.2) H := hP
  have hD : va_D A (gwM cy a q7.2) := hD
  refine lv_topi (fun x9 e10 => ?_)
  have hF := lt_n e10.symm hF
  try have hO := lo_n e10.symm hO
  refine ct_put1 (C := RX4) (T := TX4) (N := 24) (ci := 4) (v := .int x9) hM hK hP hD hS inX4 tyX4 tyX4_ok nmX4 0 rfl rfl 5 (by decide) wfl_X4_50 rfl (by first | rfl | decide) (by first | rfl | decide) (Nat.le_of_ble_eq_true rfl) dX4_passAll_21 (fun H locs hP hD hS => ?_)
  have hP : va_P D classes (gwM cy a (m_co q7.2, m_mi q7.2, m_mn q7.2, m_pa q7.2, m_ca q7.2, x9, m_fa q7.2, m_st q7.2, m_ha q7.2, m_pd q7.2, m_pn q7.2, m_fr q7.2, m_at q7.2, m_wa q7.2, m_en q7.2, m_to q7.2, m_or q7.2, m_my q7.2, m_bf q7.2, m_bs q7.2, m_kp q7.2, m_ik q7.2, m_ka q7.2, m_iw q7.2)) H := hP
  have hD : va_D A (gwM cy a (m_co q7.2, m_mi q7.2, m_mn q7.2, m_pa q7.2, m_ca q7.2, x9, m_fa q7.2, m_st q7.2, m_ha q7.2, m_pd q7.2, m_pn q7.2, m_fr q7.2, m_at q7.2, m_wa q7.2, m_en q7.2, m_to q7.2, m_or q7.2, m_my q7.2, m_bf q7.2, m_bs q7.2, m_kp q7.2, m_ik q7.2, m_ka q7.2, m_iw q7.2)) := hD
  refine lv_aload_n hx hb dX4_passAll_24 rfl (lv_at hl 0 rfl) ?_
  refine lv_aload_n hx hb dX4_passAll_25 rfl (lv_at hl 0 rfl) ?_
  refine lv_aload_n hx hb dX4_passAll_26 rfl (lv_at hl 0 rfl) ?_
  refine ct_get (C := RX4) (T := TX4) (N := 24) (ci := 4) (v := .int (m_fa q7.2)) hM hK hP inX4 0 rfl rfl 6 (by decide) wfl_X4_54 rfl dX4_passAll_27 ?_
  obtain ⟨h11, hO⟩ := hO
  obtain ⟨q12, e13⟩ : ∃ q, fX4_pass (m_co q7.2, m_mi q7.2, m_mn q7.2, m_pa q7.2, m_ca q7.2, x9, m_fa q7.2, m_st q7.2, m_ha q7.2, m_pd q7.2, m_pn q7.2, m_fr q7.2, m_at q7.2, m_wa q7.2, m_en q7.2, m_to q7.2, m_or q7.2, m_my q7.2, m_bf q7.2, m_bs q7.2, m_kp q7.2, m_ik q7.2, m_ka q7.2, m_iw q7.2) (m_fa q7.2) = q := ⟨_, rfl⟩
  have hF := lt_n e13 hF
  try have hO := lo_n e13 hO
  refine ct_callF hM hK hP hD hS (kX4_pass l D cy a (m_co q7.2, m_mi q7.2, m_mn q7.2, m_pa q7.2, m_ca q7.2, x9, m_fa q7.2, m_st q7.2, m_ha q7.2, m_pd q7.2, m_pn q7.2, m_fr q7.2, m_at q7.2, m_wa q7.2, m_en q7.2, m_to q7.2, m_or q7.2, m_my q7.2, m_bf q7.2, m_bs q7.2, m_kp q7.2, m_ik q7.2, m_ka q7.2, m_iw q7.2) (m_fa q7.2) h11 e13) kvX4_pass wml_X4_177 rfl 0 rfl rfl rfl rfl hl.1 rfl ⟨rfl, rfl, Nat.le_of_ble_eq_true rfl, Nat.le_of_ble_eq_true rfl⟩ (Nat.le_of_ble_eq_true rfl) ⟨Nat.zero_le _, Nat.zero_le _⟩ dX4_passAll_30 (fun H locs hP hD hS => ?_)
  refine W.eq (g2 := F0 m 33 ls [.int q12.1, .ref (a 0)]) rfl ?_
  have hP : va_P D classes (gwM cy a q12.2) H := hP
  have hD : va_D A (gwM cy a q12.2) := hD
  refine lv_topi (fun x14 e15 => ?_)
  have hF := lt_n e15.symm hF
  try have hO := lo_n e15.symm hO
  refine ct_put1 (C := RX4) (T := TX4) (N := 24) (ci := 4) (v := .int x14) hM hK hP hD hS inX4 tyX4 tyX4_ok nmX4 0 rfl rfl 6 (by decide) wfl_X4_54 rfl (by first | rfl | decide) (by first | rfl | decide) (Nat.le_of_ble_eq_true rfl) dX4_passAll_33 (fun H locs hP hD hS => ?_)
  have hP : va_P D classes (gwM cy a (m_co q12.2, m_mi q12.2, m_mn q12.2, m_pa q12.2, m_ca q12.2, m_dr q12.2, x14, m_st q12.2, m_ha q12.2, m_pd q12.2, m_pn q12.2, m_fr q12.2, m_at q12.2, m_wa q12.2, m_en q12.2, m_to q12.2, m_or q12.2, m_my q12.2, m_bf q12.2, m_bs q12.2, m_kp q12.2, m_ik q12.2, m_ka q12.2, m_iw q12.2)) H := hP
  have hD : va_D A (gwM cy a (m_co q12.2, m_mi q12.2, m_mn q12.2, m_pa q12.2, m_ca q12.2, m_dr q12.2, x14, m_st q12.2, m_ha q12.2, m_pd q12.2, m_pn q12.2, m_fr q12.2, m_at q12.2, m_wa q12.2, m_en q12.2, m_to q12.2, m_or q12.2, m_my q12.2, m_bf q12.2, m_bs q12.2, m_kp q12.2, m_ik q12.2, m_ka q12.2, m_iw q12.2)) := hD
  refine lv_aload_n hx hb dX4_passAll_36 rfl (lv_at hl 0 rfl) ?_
  refine lv_aload_n hx hb dX4_passAll_37 rfl (lv_at hl 0 rfl) ?_
  refine lv_aload_n hx hb dX4_passAll_38 rfl (lv_at hl 0 rfl) ?_
  refine ct_get (C := RX4) (T := TX4) (N := 24) (ci := 4) (v := .int (m_st q12.2)) hM hK hP inX4 0 rfl rfl 7 (by decide) wfl_X4_87 rfl dX4_passAll_39 ?_
  obtain ⟨h16, hO⟩ := hO
  obtain ⟨q17, e18⟩ : ∃ q, fX4_pass (m_co q12.2, m_mi q12.2, m_mn q12.2, m_pa q12.2, m_ca q12.2, m_dr q12.2, x14, m_st q12.2, m_ha q12.2, m_pd q12.2, m_pn q12.2, m_fr q12.2, m_at q12.2, m_wa q12.2, m_en q12.2, m_to q12.2, m_or q12.2, m_my q12.2, m_bf q12.2, m_bs q12.2, m_kp q12.2, m_ik q12.2, m_ka q12.2, m_iw q12.2) (m_st q12.2) = q := ⟨_, rfl⟩
  have hF := lt_n e18 hF
  try have hO := lo_n e18 hO
  refine ct_callF hM hK hP hD hS (kX4_pass l D cy a (m_co q12.2, m_mi q12.2, m_mn q12.2, m_pa q12.2, m_ca q12.2, m_dr q12.2, x14, m_st q12.2, m_ha q12.2, m_pd q12.2, m_pn q12.2, m_fr q12.2, m_at q12.2, m_wa q12.2, m_en q12.2, m_to q12.2, m_or q12.2, m_my q12.2, m_bf q12.2, m_bs q12.2, m_kp q12.2, m_ik q12.2, m_ka q12.2, m_iw q12.2) (m_st q12.2) h16 e18) kvX4_pass wml_X4_177 rfl 0 rfl rfl rfl rfl hl.1 rfl ⟨rfl, rfl, Nat.le_of_ble_eq_true rfl, Nat.le_of_ble_eq_true rfl⟩ (Nat.le_of_ble_eq_true rfl) ⟨Nat.zero_le _, Nat.zero_le _⟩ dX4_passAll_42 (fun H locs hP hD hS => ?_)
  refine W.eq (g2 := F0 m 45 ls [.int q17.1, .ref (a 0)]) rfl ?_
  have hP : va_P D classes (gwM cy a q17.2) H := hP
  have hD : va_D A (gwM cy a q17.2) := hD
  refine lv_topi (fun x19 e20 => ?_)
  have hF := lt_n e20.symm hF
  try have hO := lo_n e20.symm hO
  refine ct_put1 (C := RX4) (T := TX4) (N := 24) (ci := 4) (v := .int x19) hM hK hP hD hS inX4 tyX4 tyX4_ok nmX4 0 rfl rfl 7 (by decide) wfl_X4_87 rfl (by first | rfl | decide) (by first | rfl | decide) (Nat.le_of_ble_eq_true rfl) dX4_passAll_45 (fun H locs hP hD hS => ?_)
  have hP : va_P D classes (gwM cy a (m_co q17.2, m_mi q17.2, m_mn q17.2, m_pa q17.2, m_ca q17.2, m_dr q17.2, m_fa q17.2, x19, m_ha q17.2, m_pd q17.2, m_pn q17.2, m_fr q17.2, m_at q17.2, m_wa q17.2, m_en q17.2, m_to q17.2, m_or q17.2, m_my q17.2, m_bf q17.2, m_bs q17.2, m_kp q17.2, m_ik q17.2, m_ka q17.2, m_iw q17.2)) H := hP
  have hD : va_D A (gwM cy a (m_co q17.2, m_mi q17.2, m_mn q17.2, m_pa q17.2, m_ca q17.2, m_dr q17.2, m_fa q17.2, x19, m_ha q17.2, m_pd q17.2, m_pn q17.2, m_fr q17.2, m_at q17.2, m_wa q17.2, m_en q17.2, m_to q17.2, m_or q17.2, m_my q17.2, m_bf q17.2, m_bs q17.2, m_kp q17.2, m_ik q17.2, m_ka q17.2, m_iw q17.2)) := hD
  refine lv_aload_n hx hb dX4_passAll_48 rfl (lv_at hl 0 rfl) ?_
  refine lv_aload_n hx hb dX4_passAll_49 rfl (lv_at hl 0 rfl) ?_
  refine lv_aload_n hx hb dX4_passAll_50 rfl (lv_at hl 0 rfl) ?_
  refine ct_get (C := RX4) (T := TX4) (N := 24) (ci := 4) (v := .int (m_ha q17.2)) hM hK hP inX4 0 rfl rfl 8 (by decide) wfl_X4_90 rfl dX4_passAll_51 ?_
  obtain ⟨h21, hO⟩ := hO
  obtain ⟨q22, e23⟩ : ∃ q, fX4_pass (m_co q17.2, m_mi q17.2, m_mn q17.2, m_pa q17.2, m_ca q17.2, m_dr q17.2, m_fa q17.2, x19, m_ha q17.2, m_pd q17.2, m_pn q17.2, m_fr q17.2, m_at q17.2, m_wa q17.2, m_en q17.2, m_to q17.2, m_or q17.2, m_my q17.2, m_bf q17.2, m_bs q17.2, m_kp q17.2, m_ik q17.2, m_ka q17.2, m_iw q17.2) (m_ha q17.2) = q := ⟨_, rfl⟩
  have hF := lt_n e23 hF
  try have hO := lo_n e23 hO
  refine ct_callF hM hK hP hD hS (kX4_pass l D cy a (m_co q17.2, m_mi q17.2, m_mn q17.2, m_pa q17.2, m_ca q17.2, m_dr q17.2, m_fa q17.2, x19, m_ha q17.2, m_pd q17.2, m_pn q17.2, m_fr q17.2, m_at q17.2, m_wa q17.2, m_en q17.2, m_to q17.2, m_or q17.2, m_my q17.2, m_bf q17.2, m_bs q17.2, m_kp q17.2, m_ik q17.2, m_ka q17.2, m_iw q17.2) (m_ha q17.2) h21 e23) kvX4_pass wml_X4_177 rfl 0 rfl rfl rfl rfl hl.1 rfl ⟨rfl, rfl, Nat.le_of_ble_eq_true rfl, Nat.le_of_ble_eq_true rfl⟩ (Nat.le_of_ble_eq_true rfl) ⟨Nat.zero_le _, Nat.zero_le _⟩ dX4_passAll_54 (fun H locs hP hD hS => ?_)
  refine W.eq (g2 := F0 m 57 ls [.int q22.1, .ref (a 0)]) rfl ?_
  have hP : va_P D classes (gwM cy a q22.2) H := hP
  have hD : va_D A (gwM cy a q22.2) := hD
  refine lv_topi (fun x24 e25 => ?_)
  have hF := lt_n e25.symm hF
  try have hO := lo_n e25.symm hO
  refine ct_put1 (C := RX4) (T := TX4) (N := 24) (ci := 4) (v := .int x24) hM hK hP hD hS inX4 tyX4 tyX4_ok nmX4 0 rfl rfl 8 (by decide) wfl_X4_90 rfl (by first | rfl | decide) (by first | rfl | decide) (Nat.le_of_ble_eq_true rfl) dX4_passAll_57 (fun H locs hP hD hS => ?_)
  have hP : va_P D classes (gwM cy a (m_co q22.2, m_mi q22.2, m_mn q22.2, m_pa q22.2, m_ca q22.2, m_dr q22.2, m_fa q22.2, m_st q22.2, x24, m_pd q22.2, m_pn q22.2, m_fr q22.2, m_at q22.2, m_wa q22.2, m_en q22.2, m_to q22.2, m_or q22.2, m_my q22.2, m_bf q22.2, m_bs q22.2, m_kp q22.2, m_ik q22.2, m_ka q22.2, m_iw q22.2)) H := hP
  have hD : va_D A (gwM cy a (m_co q22.2, m_mi q22.2, m_mn q22.2, m_pa q22.2, m_ca q22.2, m_dr q22.2, m_fa q22.2, m_st q22.2, x24, m_pd q22.2, m_pn q22.2, m_fr q22.2, m_at q22.2, m_wa q22.2, m_en q22.2, m_to q22.2, m_or q22.2, m_my q22.2, m_bf q22.2, m_bs q22.2, m_kp q22.2, m_ik q22.2, m_ka q22.2, m_iw q22.2)) := hD
  refine lv_iconst (v := 0) hx hb dX4_passAll_60 (by decide) ?_
  refine lv_istore_n (lv' := [(1, .int 0), (0, .ref (a 0))]) hx hb dX4_passAll_61 rfl hl (by decide) rfl (fun ls hl => ?_)
  exact tX4_passAll_62 hM hK 9 (m_co q22.2, m_mi q22.2, m_mn q22.2, m_pa q22.2, m_ca q22.2, m_dr q22.2, m_fa q22.2, m_st q22.2, x24, m_pd q22.2, m_pn q22.2, m_fr q22.2, m_at q22.2, m_wa q22.2, m_en q22.2, m_to q22.2, m_or q22.2, m_my q22.2, m_bf q22.2, m_bs q22.2, m_kp q22.2, m_ik q22.2, m_ka q22.2, m_iw q22.2) 0 H locs ls hP hD hS (lv_sub hl [1, 0] rfl) hO hF

abbrev rX4_image : Room := { frames := 2, cells := 0, slots := 0, locals := 43 }
def fX4_image (x : tMs) (s1 : Int32) : Int32 × tMs := lt_ (fX4_in (Int32.toInt64 s1) 0 1) fun q2 => if q2 = 0 then ((-2), x) else (lt_ (50 * s1) fun x5 => lt_ (fX4_passAll (m_co x, m_mi x, m_mn x, m_pa x, m_ca x, m_dr x, m_fa x, m_st x, m_ha x, m_pd x, m_pn x, m_fr x, m_at x, m_wa x, m_en x, m_to x, m_or x, m_my x, m_bf x, m_bs x, m_kp x, m_ik x, x5, 1)) fun q8 => (1, (m_co q8, m_mi q8, m_mn q8, m_pa q8, m_ca q8, m_dr q8, m_fa q8, m_st q8, m_ha q8, m_pd q8, m_pn q8, m_fr q8, m_at q8, m_wa q8, m_en q8, m_to q8, m_or q8, m_my q8, m_bf q8, m_bs q8, m_kp q8, upd (m_ik q8) (Int32.toNatClampNeg s1) (vp_nar .boolean 1), m_ka q8, m_iw q8)))
def oX4_image (x : tMs) (s1 : Int32) : Prop := lo_ (fX4_in (Int32.toInt64 s1) 0 1) fun q2 => if q2 = 0 then True else (lo_ (50 * s1) fun x5 => oX4_passAll (m_co x, m_mi x, m_mn x, m_pa x, m_ca x, m_dr x, m_fa x, m_st x, m_ha x, m_pd x, m_pn x, m_fr x, m_at x, m_wa x, m_en x, m_to x, m_or x, m_my x, m_bf x, m_bs x, m_kp x, m_ik x, x5, 1) ∧ (lo_ (fX4_passAll (m_co x, m_mi x, m_mn x, m_pa x, m_ca x, m_dr x, m_fa x, m_st x, m_ha x, m_pd x, m_pn x, m_fr x, m_at x, m_wa x, m_en x, m_to x, m_or x, m_my x, m_bf x, m_bs x, m_kp x, m_ik x, x5, 1)) fun q8 => vp_in s1 2 ∧ True))
theorem kvX4_image : KV yX4_image cX4_image 2 (some .int) 1 := ⟨wcd_X4_image, wim_X4_image, wsl_X4_image, win_X4, by decide +kernel, by decide +kernel, by decide +kernel⟩
set_option maxHeartbeats 4000000 in
set_option maxRecDepth 100000 in
theorem kX4_image (l : Launch) (D : va_G) (cy : Nat → ClassId) (a : Nat → Nat) (x : tMs) (s1 : Int32) {R : Int32 × tMs} (hO : oX4_image x s1) (hF : fX4_image x s1 = R) : CT l D cy yX4_image cX4_image 2 (some .int) rX4_image [.ref (a 0), .int s1] (gwM cy a x) (some (.int R.1)) (gwM cy a R.2) := by
  refine ct_of (by decide) (Nat.le_of_ble_eq_true rfl) ?_
  intro p e s m args below meth c A ls hM hK hP hD hS hl
  obtain ⟨hx, hb, -, hml, hown, hts, -⟩ := id hM
  have hl : lv_has ls 2 [(0, .ref (a 0)), (1, .int s1)] := hl
  obtain ⟨H, hH⟩ : ∃ H : Heap, H = s.heap := ⟨_, rfl⟩
  obtain ⟨locs, hlocs⟩ : ∃ q : List Loc, q = [] := ⟨_, rfl⟩
  have hP : va_P D classes (gwM cy a x) H := by rw [hH]; exact hP
  have hS : va_S A s.heap H locs := by rw [hH, hlocs]; exact hS
  suffices hg : W p l e rX4_image s m args below meth c H locs 0 0 (MQ below (ctQ D (some (.int R.1)) (gwM cy a R.2) A) args s 0 0 A) (F0 m 0 ls []) by rw [hH, hlocs] at hg; exact hg
  clear hH hlocs
  unfold fX4_image at hF
  unfold oX4_image at hO
  refine lv_iload_n hx hb dX4_image_0 rfl (lv_at hl 1 rfl) ?_
  refine lv_i2l (v := Int32.toInt64 s1) hx hb dX4_image_1 rfl ?_
  refine lv_lconst (v := 0) hx hb dX4_image_2 rfl ?_
  refine lv_lconst (v := 1) hx hb dX4_image_3 rfl ?_
  obtain ⟨q2, e3⟩ : ∃ q, fX4_in (Int32.toInt64 s1) 0 1 = q := ⟨_, rfl⟩
  have hF := lt_n e3 hF
  try have hO := lo_n e3 hO
  refine ct_callS hM hK hP hD hS (kX4_in l D cy (Int32.toInt64 s1) 0 1 trivial e3) kvX4_in wml_X4_59 rfl hl.1 rfl ⟨rfl, rfl, Nat.le_of_ble_eq_true rfl, Nat.le_of_ble_eq_true rfl⟩ (Nat.le_of_ble_eq_true rfl) ⟨Nat.zero_le _, Nat.zero_le _⟩ dX4_image_4 (fun H locs hP hD hS => ?_)
  refine W.eq (g2 := F0 m 7 ls [.int q2]) rfl ?_
  have hP : va_P D classes (gwM cy a x) H := hP
  have hD : va_D A (gwM cy a x) := hD
  refine lv_if_ne (tgt := 13) hx hb dX4_image_7 (by decide) (fun c4 => ?_) (fun c4 => ?_)
  · have hF := lt_f c4 hF
    have hO := lo_f c4 hO
    refine lv_aload_n hx hb dX4_image_13 rfl (lv_at hl 0 rfl) ?_
    refine lv_bipush (v := 50) hx hb dX4_image_14 (by decide) ?_
    refine lv_iload_n hx hb dX4_image_16 rfl (lv_at hl 1 rfl) ?_
    refine lv_imul hx hb dX4_image_17 ?_
    refine lv_topi (fun x5 e6 => ?_)
    have hF := lt_n e6.symm hF
    try have hO := lo_n e6.symm hO
    refine ct_put1 (C := RX4) (T := TX4) (N := 24) (ci := 4) (v := .int x5) hM hK hP hD hS inX4 tyX4 tyX4_ok nmX4 0 rfl rfl 22 (by decide) wfl_X4_174 rfl (by first | rfl | decide) (by first | rfl | decide) (Nat.le_of_ble_eq_true rfl) dX4_image_18 (fun H locs hP hD hS => ?_)
    have hP : va_P D classes (gwM cy a (m_co x, m_mi x, m_mn x, m_pa x, m_ca x, m_dr x, m_fa x, m_st x, m_ha x, m_pd x, m_pn x, m_fr x, m_at x, m_wa x, m_en x, m_to x, m_or x, m_my x, m_bf x, m_bs x, m_kp x, m_ik x, x5, m_iw x)) H := hP
    have hD : va_D A (gwM cy a (m_co x, m_mi x, m_mn x, m_pa x, m_ca x, m_dr x, m_fa x, m_st x, m_ha x, m_pd x, m_pn x, m_fr x, m_at x, m_wa x, m_en x, m_to x, m_or x, m_my x, m_bf x, m_bs x, m_kp x, m_ik x, x5, m_iw x)) := hD
    refine lv_aload_n hx hb dX4_image_21 rfl (lv_at hl 0 rfl) ?_
    refine lv_iconst (v := 1) hx hb dX4_image_22 (by decide) ?_
    refine ct_put1 (C := RX4) (T := TX4) (N := 24) (ci := 4) (v := .int 1) hM hK hP hD hS inX4 tyX4 tyX4_ok nmX4 0 rfl rfl 23 (by decide) wfl_X4_170 rfl (by first | rfl | decide) (by first | rfl | decide) (Nat.le_of_ble_eq_true rfl) dX4_image_23 (fun H locs hP hD hS => ?_)
    have hP : va_P D classes (gwM cy a (m_co x, m_mi x, m_mn x, m_pa x, m_ca x, m_dr x, m_fa x, m_st x, m_ha x, m_pd x, m_pn x, m_fr x, m_at x, m_wa x, m_en x, m_to x, m_or x, m_my x, m_bf x, m_bs x, m_kp x, m_ik x, x5, 1)) H := hP
    have hD : va_D A (gwM cy a (m_co x, m_mi x, m_mn x, m_pa x, m_ca x, m_dr x, m_fa x, m_st x, m_ha x, m_pd x, m_pn x, m_fr x, m_at x, m_wa x, m_en x, m_to x, m_or x, m_my x, m_bf x, m_bs x, m_kp x, m_ik x, x5, 1)) := hD
    refine lv_aload_n hx hb dX4_image_26 rfl (lv_at hl 0 rfl) ?_
    obtain ⟨h7, hO⟩ := hO
    obtain ⟨q8, e9⟩ : ∃ q, fX4_passAll (m_co x, m_mi x, m_mn x, m_pa x, m_ca x, m_dr x, m_fa x, m_st x, m_ha x, m_pd x, m_pn x, m_fr x, m_at x, m_wa x, m_en x, m_to x, m_or x, m_my x, m_bf x, m_bs x, m_kp x, m_ik x, x5, 1) = q := ⟨_, rfl⟩
    have hF := lt_n e9 hF
    try have hO := lo_n e9 hO
    refine ct_callF hM hK hP hD hS (kX4_passAll l D cy a (m_co x, m_mi x, m_mn x, m_pa x, m_ca x, m_dr x, m_fa x, m_st x, m_ha x, m_pd x, m_pn x, m_fr x, m_at x, m_wa x, m_en x, m_to x, m_or x, m_my x, m_bf x, m_bs x, m_kp x, m_ik x, x5, 1) h7 e9) kvX4_passAll wml_X4_180 rfl 0 rfl rfl rfl rfl hl.1 rfl ⟨rfl, rfl, Nat.le_of_ble_eq_true rfl, Nat.le_of_ble_eq_true rfl⟩ (Nat.le_of_ble_eq_true rfl) ⟨Nat.zero_le _, Nat.zero_le _⟩ dX4_image_27 (fun H locs hP hD hS => ?_)
    refine W.eq (g2 := F0 m 30 ls []) rfl ?_
    have hP : va_P D classes (gwM cy a q8) H := hP
    have hD : va_D A (gwM cy a q8) := hD
    refine lv_aload_n hx hb dX4_image_30 rfl (lv_at hl 0 rfl) ?_
    refine ct_get (C := RX4) (T := TX4) (N := 24) (ci := 4) (v := .ref (a 13)) hM hK hP inX4 0 rfl rfl 21 (by decide) wfl_X4_46 rfl dX4_image_31 ?_
    refine lv_iload_n hx hb dX4_image_34 rfl (lv_at hl 1 rfl) ?_
    refine lv_iconst (v := 1) hx hb dX4_image_35 (by decide) ?_
    obtain ⟨h10, hO⟩ := hO
    refine va_zast hx hb hK hP hD hS 13 1 (f := m_ik q8) (n := 2) (cA := cy 1) rfl rfl h10 dX4_image_36 (fun H locs hP hD hS => ?_)
    have hP : va_P D classes (gwM cy a (m_co q8, m_mi q8, m_mn q8, m_pa q8, m_ca q8, m_dr q8, m_fa q8, m_st q8, m_ha q8, m_pd q8, m_pn q8, m_fr q8, m_at q8, m_wa q8, m_en q8, m_to q8, m_or q8, m_my q8, m_bf q8, m_bs q8, m_kp q8, upd (m_ik q8) (Int32.toNatClampNeg s1) (vp_nar .boolean 1), m_ka q8, m_iw q8)) H := hP
    have hD : va_D A (gwM cy a (m_co q8, m_mi q8, m_mn q8, m_pa q8, m_ca q8, m_dr q8, m_fa q8, m_st q8, m_ha q8, m_pd q8, m_pn q8, m_fr q8, m_at q8, m_wa q8, m_en q8, m_to q8, m_or q8, m_my q8, m_bf q8, m_bs q8, m_kp q8, upd (m_ik q8) (Int32.toNatClampNeg s1) (vp_nar .boolean 1), m_ka q8, m_iw q8)) := hD
    refine lv_iconst (v := 1) hx hb dX4_image_37 (by decide) ?_
    subst hF
    exact ct_iret hM hP hS dX4_image_38
  · have hF := lt_t c4 hF
    have hO := lo_t c4 hO
    refine lv_bipush (v := (-2)) hx hb dX4_image_10 (by decide) ?_
    subst hF
    exact ct_iret hM hP hS dX4_image_12

abbrev rX4_restore : Room := { frames := 2, cells := 0, slots := 0, locals := 43 }
def fX4_restore (x : tMs) (s1 : Int32) : Int32 × tMs := lt_ (fX4_in (Int32.toInt64 s1) 0 1) fun q2 => if q2 = 0 then ((-2), x) else (if (m_ik x) (Int32.toNatClampNeg s1) = 0 then ((-3), x) else (lt_ (50 * s1) fun x7 => lt_ (fX4_passAll (m_co x, m_mi x, m_mn x, m_pa x, m_ca x, m_dr x, m_fa x, m_st x, m_ha x, m_pd x, m_pn x, m_fr x, m_at x, m_wa x, m_en x, m_to x, m_or x, m_my x, m_bf x, m_bs x, m_kp x, m_ik x, x7, 0)) fun q10 => (1, q10)))
def oX4_restore (x : tMs) (s1 : Int32) : Prop := lo_ (fX4_in (Int32.toInt64 s1) 0 1) fun q2 => if q2 = 0 then True else (vp_in s1 2 ∧ (if (m_ik x) (Int32.toNatClampNeg s1) = 0 then True else (lo_ (50 * s1) fun x7 => oX4_passAll (m_co x, m_mi x, m_mn x, m_pa x, m_ca x, m_dr x, m_fa x, m_st x, m_ha x, m_pd x, m_pn x, m_fr x, m_at x, m_wa x, m_en x, m_to x, m_or x, m_my x, m_bf x, m_bs x, m_kp x, m_ik x, x7, 0) ∧ True)))
theorem kvX4_restore : KV yX4_restore cX4_restore 2 (some .int) 1 := ⟨wcd_X4_restore, wim_X4_restore, wsl_X4_restore, win_X4, by decide +kernel, by decide +kernel, by decide +kernel⟩
set_option maxHeartbeats 4000000 in
set_option maxRecDepth 100000 in
theorem kX4_restore (l : Launch) (D : va_G) (cy : Nat → ClassId) (a : Nat → Nat) (x : tMs) (s1 : Int32) {R : Int32 × tMs} (hO : oX4_restore x s1) (hF : fX4_restore x s1 = R) : CT l D cy yX4_restore cX4_restore 2 (some .int) rX4_restore [.ref (a 0), .int s1] (gwM cy a x) (some (.int R.1)) (gwM cy a R.2) := by
  refine ct_of (by decide) (Nat.le_of_ble_eq_true rfl) ?_
  intro p e s m args below meth c A ls hM hK hP hD hS hl
  obtain ⟨hx, hb, -, hml, hown, hts, -⟩ := id hM
  have hl : lv_has ls 2 [(0, .ref (a 0)), (1, .int s1)] := hl
  obtain ⟨H, hH⟩ : ∃ H : Heap, H = s.heap := ⟨_, rfl⟩
  obtain ⟨locs, hlocs⟩ : ∃ q : List Loc, q = [] := ⟨_, rfl⟩
  have hP : va_P D classes (gwM cy a x) H := by rw [hH]; exact hP
  have hS : va_S A s.heap H locs := by rw [hH, hlocs]; exact hS
  suffices hg : W p l e rX4_restore s m args below meth c H locs 0 0 (MQ below (ctQ D (some (.int R.1)) (gwM cy a R.2) A) args s 0 0 A) (F0 m 0 ls []) by rw [hH, hlocs] at hg; exact hg
  clear hH hlocs
  unfold fX4_restore at hF
  unfold oX4_restore at hO
  refine lv_iload_n hx hb dX4_restore_0 rfl (lv_at hl 1 rfl) ?_
  refine lv_i2l (v := Int32.toInt64 s1) hx hb dX4_restore_1 rfl ?_
  refine lv_lconst (v := 0) hx hb dX4_restore_2 rfl ?_
  refine lv_lconst (v := 1) hx hb dX4_restore_3 rfl ?_
  obtain ⟨q2, e3⟩ : ∃ q, fX4_in (Int32.toInt64 s1) 0 1 = q := ⟨_, rfl⟩
  have hF := lt_n e3 hF
  try have hO := lo_n e3 hO
  refine ct_callS hM hK hP hD hS (kX4_in l D cy (Int32.toInt64 s1) 0 1 trivial e3) kvX4_in wml_X4_59 rfl hl.1 rfl ⟨rfl, rfl, Nat.le_of_ble_eq_true rfl, Nat.le_of_ble_eq_true rfl⟩ (Nat.le_of_ble_eq_true rfl) ⟨Nat.zero_le _, Nat.zero_le _⟩ dX4_restore_4 (fun H locs hP hD hS => ?_)
  refine W.eq (g2 := F0 m 7 ls [.int q2]) rfl ?_
  have hP : va_P D classes (gwM cy a x) H := hP
  have hD : va_D A (gwM cy a x) := hD
  refine lv_if_ne (tgt := 13) hx hb dX4_restore_7 (by decide) (fun c4 => ?_) (fun c4 => ?_)
  · have hF := lt_f c4 hF
    have hO := lo_f c4 hO
    refine lv_aload_n hx hb dX4_restore_13 rfl (lv_at hl 0 rfl) ?_
    refine ct_get (C := RX4) (T := TX4) (N := 24) (ci := 4) (v := .ref (a 13)) hM hK hP inX4 0 rfl rfl 21 (by decide) wfl_X4_46 rfl dX4_restore_14 ?_
    refine lv_iload_n hx hb dX4_restore_17 rfl (lv_at hl 1 rfl) ?_
    obtain ⟨h5, hO⟩ := hO
    refine va_zald hx hb hK hP 13 1 (f := m_ik x) (n := 2) (cA := cy 1) rfl rfl h5 dX4_restore_18 ?_
    refine lv_if_ne (tgt := 25) hx hb dX4_restore_19 (by decide) (fun c6 => ?_) (fun c6 => ?_)
    · have hF := lt_f c6 hF
      have hO := lo_f c6 hO
      refine lv_aload_n hx hb dX4_restore_25 rfl (lv_at hl 0 rfl) ?_
      refine lv_bipush (v := 50) hx hb dX4_restore_26 (by decide) ?_
      refine lv_iload_n hx hb dX4_restore_28 rfl (lv_at hl 1 rfl) ?_
      refine lv_imul hx hb dX4_restore_29 ?_
      refine lv_topi (fun x7 e8 => ?_)
      have hF := lt_n e8.symm hF
      try have hO := lo_n e8.symm hO
      refine ct_put1 (C := RX4) (T := TX4) (N := 24) (ci := 4) (v := .int x7) hM hK hP hD hS inX4 tyX4 tyX4_ok nmX4 0 rfl rfl 22 (by decide) wfl_X4_174 rfl (by first | rfl | decide) (by first | rfl | decide) (Nat.le_of_ble_eq_true rfl) dX4_restore_30 (fun H locs hP hD hS => ?_)
      have hP : va_P D classes (gwM cy a (m_co x, m_mi x, m_mn x, m_pa x, m_ca x, m_dr x, m_fa x, m_st x, m_ha x, m_pd x, m_pn x, m_fr x, m_at x, m_wa x, m_en x, m_to x, m_or x, m_my x, m_bf x, m_bs x, m_kp x, m_ik x, x7, m_iw x)) H := hP
      have hD : va_D A (gwM cy a (m_co x, m_mi x, m_mn x, m_pa x, m_ca x, m_dr x, m_fa x, m_st x, m_ha x, m_pd x, m_pn x, m_fr x, m_at x, m_wa x, m_en x, m_to x, m_or x, m_my x, m_bf x, m_bs x, m_kp x, m_ik x, x7, m_iw x)) := hD
      refine lv_aload_n hx hb dX4_restore_33 rfl (lv_at hl 0 rfl) ?_
      refine lv_iconst (v := 0) hx hb dX4_restore_34 (by decide) ?_
      refine ct_put1 (C := RX4) (T := TX4) (N := 24) (ci := 4) (v := .int 0) hM hK hP hD hS inX4 tyX4 tyX4_ok nmX4 0 rfl rfl 23 (by decide) wfl_X4_170 rfl (by first | rfl | decide) (by first | rfl | decide) (Nat.le_of_ble_eq_true rfl) dX4_restore_35 (fun H locs hP hD hS => ?_)
      have hP : va_P D classes (gwM cy a (m_co x, m_mi x, m_mn x, m_pa x, m_ca x, m_dr x, m_fa x, m_st x, m_ha x, m_pd x, m_pn x, m_fr x, m_at x, m_wa x, m_en x, m_to x, m_or x, m_my x, m_bf x, m_bs x, m_kp x, m_ik x, x7, 0)) H := hP
      have hD : va_D A (gwM cy a (m_co x, m_mi x, m_mn x, m_pa x, m_ca x, m_dr x, m_fa x, m_st x, m_ha x, m_pd x, m_pn x, m_fr x, m_at x, m_wa x, m_en x, m_to x, m_or x, m_my x, m_bf x, m_bs x, m_kp x, m_ik x, x7, 0)) := hD
      refine lv_aload_n hx hb dX4_restore_38 rfl (lv_at hl 0 rfl) ?_
      obtain ⟨h9, hO⟩ := hO
      obtain ⟨q10, e11⟩ : ∃ q, fX4_passAll (m_co x, m_mi x, m_mn x, m_pa x, m_ca x, m_dr x, m_fa x, m_st x, m_ha x, m_pd x, m_pn x, m_fr x, m_at x, m_wa x, m_en x, m_to x, m_or x, m_my x, m_bf x, m_bs x, m_kp x, m_ik x, x7, 0) = q := ⟨_, rfl⟩
      have hF := lt_n e11 hF
      try have hO := lo_n e11 hO
      refine ct_callF hM hK hP hD hS (kX4_passAll l D cy a (m_co x, m_mi x, m_mn x, m_pa x, m_ca x, m_dr x, m_fa x, m_st x, m_ha x, m_pd x, m_pn x, m_fr x, m_at x, m_wa x, m_en x, m_to x, m_or x, m_my x, m_bf x, m_bs x, m_kp x, m_ik x, x7, 0) h9 e11) kvX4_passAll wml_X4_180 rfl 0 rfl rfl rfl rfl hl.1 rfl ⟨rfl, rfl, Nat.le_of_ble_eq_true rfl, Nat.le_of_ble_eq_true rfl⟩ (Nat.le_of_ble_eq_true rfl) ⟨Nat.zero_le _, Nat.zero_le _⟩ dX4_restore_39 (fun H locs hP hD hS => ?_)
      refine W.eq (g2 := F0 m 42 ls []) rfl ?_
      have hP : va_P D classes (gwM cy a q10) H := hP
      have hD : va_D A (gwM cy a q10) := hD
      refine lv_iconst (v := 1) hx hb dX4_restore_42 (by decide) ?_
      subst hF
      exact ct_iret hM hP hS dX4_restore_43
    · have hF := lt_t c6 hF
      have hO := lo_t c6 hO
      refine lv_bipush (v := (-3)) hx hb dX4_restore_22 (by decide) ?_
      subst hF
      exact ct_iret hM hP hS dX4_restore_24
  · have hF := lt_t c4 hF
    have hO := lo_t c4 hO
    refine lv_bipush (v := (-2)) hx hb dX4_restore_10 (by decide) ?_
    subst hF
    exact ct_iret hM hP hS dX4_restore_12

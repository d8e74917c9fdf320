abbrev rX3_two : Room := { frames := 5, cells := 0, slots := 0, locals := 119 }
def fX3_two_52 (vN : tVl) (s1 : Int32) : Nat → tWl → Int32 → Int32 → Int32 → Int32 → Int32 × tWl
  | 0, w, s2, s3, s4, s5 => (0, w)
  | n + 1, w, s2, s3, s4, s5 => if v_cm vN < s5 then (if s1 = 0 then (s2, w) else (if s1 = 1 then (s3, w) else (s4, w))) else (lt_ (v_cm vN &&& (s5 ^^^ (-1))) fun x15 => if (s5 &&& (v_cm vN ^^^ (-1))) = 0 then (if s5 ≤ x15 then (lt_ (fX2_run vN w s5) fun q22 => lt_ (w_wo q22) fun x24 => lt_ (w_su q22) fun x26 => lt_ (fX2_run vN q22 x15) fun q29 => lt_ (if x24 < w_wo q29 then w_wo q29 else x24) fun x31 => lt_ (x26 + w_su q29) fun x33 => lt_ (fX3_better x31 x33 s3 s4) fun q36 => if q36 = 0 then (lt_ (s5 + 1) fun x39 => fX3_two_52 vN s1 n q29 s2 s3 s4 x39) else (lt_ (s5 + 1) fun x41 => fX3_two_52 vN s1 n q29 s5 x31 x33 x41)) else (lt_ (s5 + 1) fun x43 => fX3_two_52 vN s1 n w s2 s3 s4 x43)) else (lt_ (s5 + 1) fun x18 => fX3_two_52 vN s1 n w s2 s3 s4 x18))
def oX3_two_52 (vN : tVl) (s1 : Int32) : Nat → tWl → Int32 → Int32 → Int32 → Int32 → Prop
  | 0, _, _, _, _, _ => False
  | n + 1, w, s2, s3, s4, s5 => if v_cm vN < s5 then True else (lo_ (v_cm vN &&& (s5 ^^^ (-1))) fun x15 => if (s5 &&& (v_cm vN ^^^ (-1))) = 0 then (if s5 ≤ x15 then (oX2_run vN w s5 ∧ (lo_ (fX2_run vN w s5) fun q22 => lo_ (w_wo q22) fun x24 => lo_ (w_su q22) fun x26 => oX2_run vN q22 x15 ∧ (lo_ (fX2_run vN q22 x15) fun q29 => lo_ (if x24 < w_wo q29 then w_wo q29 else x24) fun x31 => lo_ (x26 + w_su q29) fun x33 => lo_ (fX3_better x31 x33 s3 s4) fun q36 => if q36 = 0 then (lo_ (s5 + 1) fun x39 => oX3_two_52 vN s1 n q29 s2 s3 s4 x39) else (lo_ (s5 + 1) fun x41 => oX3_two_52 vN s1 n q29 s5 x31 x33 x41)))) else (lo_ (s5 + 1) fun x43 => oX3_two_52 vN s1 n w s2 s3 s4 x43)) else (lo_ (s5 + 1) fun x18 => oX3_two_52 vN s1 n w s2 s3 s4 x18))
set_option maxHeartbeats 4000000 in
set_option maxRecDepth 100000 in
theorem tX3_two_52 {p : Program} {l : Launch} {e : Env} {s : State} {m : MethodId} {args : Array Value} {below : List Frame} {meth : Method} {c : Code} {A : Nat → Prop} {D : va_G} {cy : Nat → ClassId} {a : Nat → Nat → Nat} {kp : tAr} {vN : tVl} {vT : tVl} {vI : tVl} {vJ : tVl} {pd : tPd} {s1 : Int32} {R : Int32 × tWl} (hM : MC p s m args meth c RX3 cX3_two 11 (some .int)) (hK : va_K D classes (ctT cy) s) :
    ∀ (n : Nat) (w : tWl) (s2 : Int32) (s3 : Int32) (s4 : Int32) (s5 : Int32) (H : Heap) (locs : List Loc) (ls : Array Slot), va_P D classes (gwFF cy a kp vN vT vI vJ w pd) H → va_D A (gwFF cy a kp vN vT vI vJ w pd) → va_S A s.heap H locs → lv_has ls 11 [(0, .ref (a 0 0)), (1, .int s1), (2, .int s2), (3, .int s3), (4, .int s4), (5, .int s5)] → oX3_two_52 vN s1 n w s2 s3 s4 s5 → fX3_two_52 vN s1 n w s2 s3 s4 s5 = R → W p l e rX3_two s m args below meth c H locs 0 0 (MQ below (ctQ D (some (.int R.1)) (gwFF cy a kp vN vT vI vJ R.2 pd) A) args s 0 0 A) (F0 m 52 ls []) := by
  obtain ⟨hx, hb, -, hml, hown, hts, -⟩ := id hM
  intro n
  induction n with
  | zero =>
    intro w s2 s3 s4 s5 H locs ls hP hD hS hl hO hF
    exact False.elim hO
  | succ n ih =>
    intro w s2 s3 s4 s5 H locs ls hP hD hS hl hO hF
    rw [fX3_two_52] at hF
    rw [oX3_two_52] at hO
    refine lv_iload hx hb dX3_two_52 (lv_at hl 5 rfl) ?_
    refine lv_aload_n hx hb dX3_two_54 rfl (lv_at hl 0 rfl) ?_
    refine ct_get (C := RX3) (T := TX3) (N := 6) (ci := 3) (v := .ref (a 1 0)) hM hK hP inX3 0 rfl rfl 0 (by decide) wfl_X3_10 rfl dX3_two_55 ?_
    refine ct_get (C := RX1) (T := TX1) (N := 6) (ci := 1) (v := .int (v_cm vN)) hM hK hP inX1 3 rfl rfl 4 (by decide) wfl_X3_58 rfl dX3_two_58 ?_
    refine lv_icmp_gt (tgt := 202) hx hb dX3_two_61 (by decide) (fun c12 => ?_) (fun c12 => ?_)
    · have hF := lt_t c12 hF
      have hO := lo_t c12 hO
      refine lv_iload_n hx hb dX3_two_202 rfl (lv_at hl 1 rfl) ?_
      by_cases c13 : s1 = 0
      · have hF := lt_t c13 hF
        refine lv_lookup (off := 25) (tgt := 228) hx hb dX3_two_203 (by decide) (by rw [c13]; rfl) (by decide) ?_
        refine lv_iload_n hx hb dX3_two_228 rfl (lv_at hl 2 rfl) ?_
        subst hF
        exact ct_iret hM hP hS dX3_two_229
      · have hF := lt_f c13 hF
        by_cases c14 : s1 = 1
        · have hF := lt_t c14 hF
          refine lv_lookup (off := 27) (tgt := 230) hx hb dX3_two_203 (by decide) (by rw [c14]; rfl) (by decide) ?_
          refine lv_iload_n hx hb dX3_two_230 rfl (lv_at hl 3 rfl) ?_
          subst hF
          exact ct_iret hM hP hS dX3_two_231
        · have hF := lt_f c14 hF
          refine lv_lookup (off := 29) (tgt := 232) hx hb dX3_two_203 (by decide) ((lv_osw c13 rfl).trans ((lv_osw c14 rfl).trans rfl)) (by decide) ?_
          refine lv_iload hx hb dX3_two_232 (lv_at hl 4 rfl) ?_
          subst hF
          exact ct_iret hM hP hS dX3_two_234
    · have hF := lt_f c12 hF
      have hO := lo_f c12 hO
      refine lv_aload_n hx hb dX3_two_64 rfl (lv_at hl 0 rfl) ?_
      refine ct_get (C := RX3) (T := TX3) (N := 6) (ci := 3) (v := .ref (a 1 0)) hM hK hP inX3 0 rfl rfl 0 (by decide) wfl_X3_10 rfl dX3_two_65 ?_
      refine ct_get (C := RX1) (T := TX1) (N := 6) (ci := 1) (v := .int (v_cm vN)) hM hK hP inX1 3 rfl rfl 4 (by decide) wfl_X3_58 rfl dX3_two_68 ?_
      refine lv_iload hx hb dX3_two_71 (lv_at hl 5 rfl) ?_
      refine lv_iconst (v := (-1)) hx hb dX3_two_73 (by decide) ?_
      refine lv_ixor hx hb dX3_two_74 ?_
      refine lv_iand hx hb dX3_two_75 ?_
      refine lv_topi (fun x15 e16 => ?_)
      have hF := lt_n e16.symm hF
      try have hO := lo_n e16.symm hO
      refine lv_istore (lv' := [(6, .int x15), (0, .ref (a 0 0)), (1, .int s1), (2, .int s2), (3, .int s3), (4, .int s4), (5, .int s5)]) hx hb dX3_two_76 hl (by decide) rfl (fun ls hl => ?_)
      refine lv_iload hx hb dX3_two_78 (lv_at hl 6 rfl) ?_
      refine lv_aload_n hx hb dX3_two_80 rfl (lv_at hl 1 rfl) ?_
      refine ct_get (C := RX3) (T := TX3) (N := 6) (ci := 3) (v := .ref (a 1 0)) hM hK hP inX3 0 rfl rfl 0 (by decide) wfl_X3_10 rfl dX3_two_81 ?_
      refine ct_get (C := RX1) (T := TX1) (N := 6) (ci := 1) (v := .int (v_cm vN)) hM hK hP inX1 3 rfl rfl 4 (by decide) wfl_X3_58 rfl dX3_two_84 ?_
      refine lv_iconst (v := (-1)) hx hb dX3_two_87 (by decide) ?_
      refine lv_ixor hx hb dX3_two_88 ?_
      refine lv_iand hx hb dX3_two_89 ?_
      refine lv_if_ne (tgt := 196) hx hb dX3_two_90 (by decide) (fun c17 => ?_) (fun c17 => ?_)
      · have hF := lt_f c17 hF
        have hO := lo_f c17 hO
        obtain ⟨x18, e19⟩ : ∃ y : Int32, s5 + 1 = y := ⟨_, rfl⟩
        have hF := lt_n e19 hF
        try have hO := lo_n e19 hO
        refine lv_iinc (v := x18) (lv' := [(5, .int x18), (6, .int x15), (0, .ref (a 0 0)), (1, .int s1), (2, .int s2), (3, .int s3), (4, .int s4)]) hx hb dX3_two_196 hl (k := 6) rfl (by rw [← e19]; rfl) (by decide) rfl (fun ls hl => ?_)
        refine lv_goto (tgt := 52) hx hb dX3_two_199 (by decide) ?_
        exact ih w s2 s3 s4 x18 H locs ls hP hD hS (lv_sub hl [2, 3, 4, 5, 6, 0] rfl) hO hF
      · have hF := lt_t c17 hF
        have hO := lo_t c17 hO
        refine lv_iload hx hb dX3_two_93 (lv_at hl 6 rfl) ?_
        refine lv_iload hx hb dX3_two_95 (lv_at hl 0 rfl) ?_
        refine lv_icmp_le (tgt := 103) hx hb dX3_two_97 (by decide) (fun c20 => ?_) (fun c20 => ?_)
        · have hF := lt_t c20 hF
          have hO := lo_t c20 hO
          refine lv_aload_n hx hb dX3_two_103 rfl (lv_at hl 1 rfl) ?_
          refine ct_get (C := RX3) (T := TX3) (N := 6) (ci := 3) (v := .ref (a 5 0)) hM hK hP inX3 0 rfl rfl 4 (by decide) wfl_X3_30 rfl dX3_two_104 ?_
          refine lv_aload_n hx hb dX3_two_107 rfl (lv_at hl 1 rfl) ?_
          refine ct_get (C := RX3) (T := TX3) (N := 6) (ci := 3) (v := .ref (a 1 0)) hM hK hP inX3 0 rfl rfl 0 (by decide) wfl_X3_10 rfl dX3_two_108 ?_
          refine lv_iload hx hb dX3_two_111 (lv_at hl 6 rfl) ?_
          obtain ⟨h21, hO⟩ := hO
          obtain ⟨q22, e23⟩ : ∃ q, fX2_run vN w s5 = q := ⟨_, rfl⟩
          have hF := lt_n e23 hF
          try have hO := lo_n e23 hO
          refine ct_callV (ws' := gwFF cy a kp vN vT vI vJ q22 pd) hM hK hP hD hS (kX2_run l D cy (a 1) (a 5) vN w s5 h21 e23) kvX2_run wml_X3_94 [3, 4, 5, 6, 7, 8, 27, 28, 29, 30, 31] rfl (by decide) rfl rfl rfl 27 rfl rfl rfl rfl hl.1 rfl ⟨rfl, rfl, Nat.le_of_ble_eq_true rfl, Nat.le_of_ble_eq_true rfl⟩ (Nat.le_of_ble_eq_true rfl) ⟨Nat.zero_le _, Nat.zero_le _⟩ dX3_two_113 (fun H locs hP hD hS => ?_)
          refine W.eq (g2 := F0 m 116 ls []) rfl ?_
          refine lv_aload_n hx hb dX3_two_116 rfl (lv_at hl 1 rfl) ?_
          refine ct_get (C := RX3) (T := TX3) (N := 6) (ci := 3) (v := .ref (a 5 0)) hM hK hP inX3 0 rfl rfl 4 (by decide) wfl_X3_30 rfl dX3_two_117 ?_
          refine ct_get (C := RX2) (T := TX2) (N := 10) (ci := 2) (v := .int (w_wo q22)) hM hK hP inX2 27 rfl rfl 5 (by decide) wfl_X3_110 rfl dX3_two_120 ?_
          refine lv_topi (fun x24 e25 => ?_)
          have hF := lt_n e25.symm hF
          try have hO := lo_n e25.symm hO
          refine lv_istore (lv' := [(7, .int x24), (6, .int x15), (0, .ref (a 0 0)), (1, .int s1), (2, .int s2), (3, .int s3), (4, .int s4), (5, .int s5)]) hx hb dX3_two_123 hl (by decide) rfl (fun ls hl => ?_)
          refine lv_aload_n hx hb dX3_two_125 rfl (lv_at hl 2 rfl) ?_
          refine ct_get (C := RX3) (T := TX3) (N := 6) (ci := 3) (v := .ref (a 5 0)) hM hK hP inX3 0 rfl rfl 4 (by decide) wfl_X3_30 rfl dX3_two_126 ?_
          refine ct_get (C := RX2) (T := TX2) (N := 10) (ci := 2) (v := .int (w_su q22)) hM hK hP inX2 27 rfl rfl 6 (by decide) wfl_X3_117 rfl dX3_two_129 ?_
          refine lv_topi (fun x26 e27 => ?_)
          have hF := lt_n e27.symm hF
          try have hO := lo_n e27.symm hO
          refine lv_istore (lv' := [(8, .int x26), (7, .int x24), (6, .int x15), (0, .ref (a 0 0)), (1, .int s1), (2, .int s2), (3, .int s3), (4, .int s4), (5, .int s5)]) hx hb dX3_two_132 hl (by decide) rfl (fun ls hl => ?_)
          refine lv_aload_n hx hb dX3_two_134 rfl (lv_at hl 3 rfl) ?_
          refine ct_get (C := RX3) (T := TX3) (N := 6) (ci := 3) (v := .ref (a 5 0)) hM hK hP inX3 0 rfl rfl 4 (by decide) wfl_X3_30 rfl dX3_two_135 ?_
          refine lv_aload_n hx hb dX3_two_138 rfl (lv_at hl 3 rfl) ?_
          refine ct_get (C := RX3) (T := TX3) (N := 6) (ci := 3) (v := .ref (a 1 0)) hM hK hP inX3 0 rfl rfl 0 (by decide) wfl_X3_10 rfl dX3_two_139 ?_
          refine lv_iload hx hb dX3_two_142 (lv_at hl 2 rfl) ?_
          obtain ⟨h28, hO⟩ := hO
          obtain ⟨q29, e30⟩ : ∃ q, fX2_run vN q22 x15 = q := ⟨_, rfl⟩
          have hF := lt_n e30 hF
          try have hO := lo_n e30 hO
          refine ct_callV (ws' := gwFF cy a kp vN vT vI vJ q29 pd) hM hK hP hD hS (kX2_run l D cy (a 1) (a 5) vN q22 x15 h28 e30) kvX2_run wml_X3_94 [3, 4, 5, 6, 7, 8, 27, 28, 29, 30, 31] rfl (by decide) rfl rfl rfl 27 rfl rfl rfl rfl hl.1 rfl ⟨rfl, rfl, Nat.le_of_ble_eq_true rfl, Nat.le_of_ble_eq_true rfl⟩ (Nat.le_of_ble_eq_true rfl) ⟨Nat.zero_le _, Nat.zero_le _⟩ dX3_two_144 (fun H locs hP hD hS => ?_)
          refine W.eq (g2 := F0 m 147 ls []) rfl ?_
          refine lv_iload hx hb dX3_two_147 (lv_at hl 1 rfl) ?_
          refine lv_aload_n hx hb dX3_two_149 rfl (lv_at hl 3 rfl) ?_
          refine ct_get (C := RX3) (T := TX3) (N := 6) (ci := 3) (v := .ref (a 5 0)) hM hK hP inX3 0 rfl rfl 4 (by decide) wfl_X3_30 rfl dX3_two_150 ?_
          refine ct_get (C := RX2) (T := TX2) (N := 10) (ci := 2) (v := .int (w_wo q29)) hM hK hP inX2 27 rfl rfl 5 (by decide) wfl_X3_110 rfl dX3_two_153 ?_
          refine ct_max hM hl.1 wml_X3_165 ⟨Nat.le_of_ble_eq_true rfl, Nat.le_of_ble_eq_true rfl⟩ ⟨Nat.zero_le _, Nat.zero_le _⟩ dX3_two_156 ?_
          refine lv_topi (fun x31 e32 => ?_)
          have hF := lt_n e32.symm hF
          try have hO := lo_n e32.symm hO
          refine lv_istore (lv' := [(9, .int x31), (8, .int x26), (7, .int x24), (6, .int x15), (0, .ref (a 0 0)), (1, .int s1), (2, .int s2), (3, .int s3), (4, .int s4), (5, .int s5)]) hx hb dX3_two_159 hl (by decide) rfl (fun ls hl => ?_)
          refine lv_iload hx hb dX3_two_161 (lv_at hl 1 rfl) ?_
          refine lv_aload_n hx hb dX3_two_163 rfl (lv_at hl 4 rfl) ?_
          refine ct_get (C := RX3) (T := TX3) (N := 6) (ci := 3) (v := .ref (a 5 0)) hM hK hP inX3 0 rfl rfl 4 (by decide) wfl_X3_30 rfl dX3_two_164 ?_
          refine ct_get (C := RX2) (T := TX2) (N := 10) (ci := 2) (v := .int (w_su q29)) hM hK hP inX2 27 rfl rfl 6 (by decide) wfl_X3_117 rfl dX3_two_167 ?_
          refine lv_iadd hx hb dX3_two_170 ?_
          refine lv_topi (fun x33 e34 => ?_)
          have hF := lt_n e34.symm hF
          try have hO := lo_n e34.symm hO
          refine lv_istore (lv' := [(10, .int x33), (9, .int x31), (8, .int x26), (7, .int x24), (6, .int x15), (0, .ref (a 0 0)), (1, .int s1), (2, .int s2), (3, .int s3), (4, .int s4), (5, .int s5)]) hx hb dX3_two_171 hl (by decide) rfl (fun ls hl => ?_)
          refine lv_iload hx hb dX3_two_173 (lv_at hl 1 rfl) ?_
          refine lv_iload hx hb dX3_two_175 (lv_at hl 0 rfl) ?_
          refine lv_iload_n hx hb dX3_two_177 rfl (lv_at hl 8 rfl) ?_
          refine lv_iload hx hb dX3_two_178 (lv_at hl 9 rfl) ?_
          obtain ⟨q36, e37⟩ : ∃ q, fX3_better x31 x33 s3 s4 = q := ⟨_, rfl⟩
          have hF := lt_n e37 hF
          try have hO := lo_n e37 hO
          refine ct_callS hM hK hP hD hS (kX3_better l D cy x31 x33 s3 s4 trivial e37) kvX3_better wml_X3_158 rfl hl.1 rfl ⟨rfl, rfl, Nat.le_of_ble_eq_true rfl, Nat.le_of_ble_eq_true rfl⟩ (Nat.le_of_ble_eq_true rfl) ⟨Nat.zero_le _, Nat.zero_le _⟩ dX3_two_180 (fun H locs hP hD hS => ?_)
          refine W.eq (g2 := F0 m 183 ls [.int q36]) rfl ?_
          have hP : va_P D classes (gwFF cy a kp vN vT vI vJ q29 pd) H := hP
          have hD : va_D A (gwFF cy a kp vN vT vI vJ q29 pd) := hD
          refine lv_if_eq (tgt := 196) hx hb dX3_two_183 (by decide) (fun c38 => ?_) (fun c38 => ?_)
          · have hF := lt_t c38 hF
            have hO := lo_t c38 hO
            obtain ⟨x39, e40⟩ : ∃ y : Int32, s5 + 1 = y := ⟨_, rfl⟩
            have hF := lt_n e40 hF
            try have hO := lo_n e40 hO
            refine lv_iinc (v := x39) (lv' := [(5, .int x39), (10, .int x33), (9, .int x31), (8, .int x26), (7, .int x24), (6, .int x15), (0, .ref (a 0 0)), (1, .int s1), (2, .int s2), (3, .int s3), (4, .int s4)]) hx hb dX3_two_196 hl (k := 10) rfl (by rw [← e40]; rfl) (by decide) rfl (fun ls hl => ?_)
            refine lv_goto (tgt := 52) hx hb dX3_two_199 (by decide) ?_
            exact ih q29 s2 s3 s4 x39 H locs ls hP hD hS (lv_sub hl [6, 7, 8, 9, 10, 0] rfl) hO hF
          · have hF := lt_f c38 hF
            have hO := lo_f c38 hO
            refine lv_iload hx hb dX3_two_186 (lv_at hl 10 rfl) ?_
            refine lv_istore_n (lv' := [(2, .int s5), (10, .int x33), (9, .int x31), (8, .int x26), (7, .int x24), (6, .int x15), (0, .ref (a 0 0)), (1, .int s1), (3, .int s3), (4, .int s4), (5, .int s5)]) hx hb dX3_two_188 rfl hl (by decide) rfl (fun ls hl => ?_)
            refine lv_iload hx hb dX3_two_189 (lv_at hl 2 rfl) ?_
            refine lv_istore_n (lv' := [(3, .int x31), (2, .int s5), (10, .int x33), (9, .int x31), (8, .int x26), (7, .int x24), (6, .int x15), (0, .ref (a 0 0)), (1, .int s1), (4, .int s4), (5, .int s5)]) hx hb dX3_two_191 rfl hl (by decide) rfl (fun ls hl => ?_)
            refine lv_iload hx hb dX3_two_192 (lv_at hl 2 rfl) ?_
            refine lv_istore (lv' := [(4, .int x33), (3, .int x31), (2, .int s5), (10, .int x33), (9, .int x31), (8, .int x26), (7, .int x24), (6, .int x15), (0, .ref (a 0 0)), (1, .int s1), (5, .int s5)]) hx hb dX3_two_194 hl (by decide) rfl (fun ls hl => ?_)
            obtain ⟨x41, e42⟩ : ∃ y : Int32, s5 + 1 = y := ⟨_, rfl⟩
            have hF := lt_n e42 hF
            try have hO := lo_n e42 hO
            refine lv_iinc (v := x41) (lv' := [(5, .int x41), (4, .int x33), (3, .int x31), (2, .int s5), (10, .int x33), (9, .int x31), (8, .int x26), (7, .int x24), (6, .int x15), (0, .ref (a 0 0)), (1, .int s1)]) hx hb dX3_two_196 hl (k := 10) rfl (by rw [← e42]; rfl) (by decide) rfl (fun ls hl => ?_)
            refine lv_goto (tgt := 52) hx hb dX3_two_199 (by decide) ?_
            exact ih q29 s5 x31 x33 x41 H locs ls hP hD hS (lv_sub hl [9, 10, 3, 2, 1, 0] rfl) hO hF
        · have hF := lt_f c20 hF
          have hO := lo_f c20 hO
          refine lv_goto (tgt := 196) hx hb dX3_two_100 (by decide) ?_
          obtain ⟨x43, e44⟩ : ∃ y : Int32, s5 + 1 = y := ⟨_, rfl⟩
          have hF := lt_n e44 hF
          try have hO := lo_n e44 hO
          refine lv_iinc (v := x43) (lv' := [(5, .int x43), (6, .int x15), (0, .ref (a 0 0)), (1, .int s1), (2, .int s2), (3, .int s3), (4, .int s4)]) hx hb dX3_two_196 hl (k := 6) rfl (by rw [← e44]; rfl) (by decide) rfl (fun ls hl => ?_)
          refine lv_goto (tgt := 52) hx hb dX3_two_199 (by decide) ?_
          exact ih w s2 s3 s4 x43 H locs ls hP hD hS (lv_sub hl [2, 3, 4, 5, 6, 0] rfl) hO hF

def fX3_two (vN : tVl) (w : tWl) (s1 : Int32) : Int32 × tWl := lt_ (fX3_within s1 0 2) fun q2 => if q2 = 0 then ((-2), w) else (lt_ (fX2_run vN w (v_cm vN)) fun q6 => lt_ (w_wo q6) fun x8 => lt_ (w_su q6) fun x10 => fX3_two_52 vN s1 257 q6 0 x8 x10 1)
def oX3_two (vN : tVl) (w : tWl) (s1 : Int32) : Prop := lo_ (fX3_within s1 0 2) fun q2 => if q2 = 0 then True else (oX2_run vN w (v_cm vN) ∧ (lo_ (fX2_run vN w (v_cm vN)) fun q6 => lo_ (w_wo q6) fun x8 => lo_ (w_su q6) fun x10 => oX3_two_52 vN s1 257 q6 0 x8 x10 1))
theorem kvX3_two : KV yX3_two cX3_two 11 (some .int) 1 := ⟨wcd_X3_two, wim_X3_two, wsl_X3_two, win_X3, by decide +kernel, by decide +kernel, by decide +kernel⟩
set_option maxHeartbeats 4000000 in
set_option maxRecDepth 100000 in
theorem kX3_two (l : Launch) (D : va_G) (cy : Nat → ClassId) (a : Nat → Nat → Nat) (kp : tAr) (vN : tVl) (vT : tVl) (vI : tVl) (vJ : tVl) (w : tWl) (pd : tPd) (s1 : Int32) {R : Int32 × tWl} (hO : oX3_two vN w s1) (hF : fX3_two vN w s1 = R) : CT l D cy yX3_two cX3_two 11 (some .int) rX3_two [.ref (a 0 0), .int s1] (gwFF cy a kp vN vT vI vJ w pd) (some (.int R.1)) (gwFF cy a kp vN vT vI vJ R.2 pd) := by
  refine ct_of (by decide) (Nat.le_of_ble_eq_true rfl) ?_
  intro p e s m args below meth c A ls hM hK hP hD hS hl
  obtain ⟨hx, hb, -, hml, hown, hts, -⟩ := id hM
  have hl : lv_has ls 11 [(0, .ref (a 0 0)), (1, .int s1)] := hl
  obtain ⟨H, hH⟩ : ∃ H : Heap, H = s.heap := ⟨_, rfl⟩
  obtain ⟨locs, hlocs⟩ : ∃ q : List Loc, q = [] := ⟨_, rfl⟩
  have hP : va_P D classes (gwFF cy a kp vN vT vI vJ w pd) H := by rw [hH]; exact hP
  have hS : va_S A s.heap H locs := by rw [hH, hlocs]; exact hS
  suffices hg : W p l e rX3_two s m args below meth c H locs 0 0 (MQ below (ctQ D (some (.int R.1)) (gwFF cy a kp vN vT vI vJ R.2 pd) A) args s 0 0 A) (F0 m 0 ls []) by rw [hH, hlocs] at hg; exact hg
  clear hH hlocs
  unfold fX3_two at hF
  unfold oX3_two at hO
  refine lv_iload_n hx hb dX3_two_0 rfl (lv_at hl 1 rfl) ?_
  refine lv_iconst (v := 0) hx hb dX3_two_1 (by decide) ?_
  refine lv_iconst (v := 2) hx hb dX3_two_2 (by decide) ?_
  obtain ⟨q2, e3⟩ : ∃ q, fX3_within s1 0 2 = q := ⟨_, rfl⟩
  have hF := lt_n e3 hF
  try have hO := lo_n e3 hO
  refine ct_callS hM hK hP hD hS (kX3_within l D cy s1 0 2 trivial e3) kvX3_within wml_X3_41 rfl hl.1 rfl ⟨rfl, rfl, Nat.le_of_ble_eq_true rfl, Nat.le_of_ble_eq_true rfl⟩ (Nat.le_of_ble_eq_true rfl) ⟨Nat.zero_le _, Nat.zero_le _⟩ dX3_two_3 (fun H locs hP hD hS => ?_)
  refine W.eq (g2 := F0 m 6 ls [.int q2]) rfl ?_
  have hP : va_P D classes (gwFF cy a kp vN vT vI vJ w pd) H := hP
  have hD : va_D A (gwFF cy a kp vN vT vI vJ w pd) := hD
  refine lv_if_ne (tgt := 12) hx hb dX3_two_6 (by decide) (fun c4 => ?_) (fun c4 => ?_)
  · have hF := lt_f c4 hF
    have hO := lo_f c4 hO
    refine lv_aload_n hx hb dX3_two_12 rfl (lv_at hl 0 rfl) ?_
    refine ct_get (C := RX3) (T := TX3) (N := 6) (ci := 3) (v := .ref (a 5 0)) hM hK hP inX3 0 rfl rfl 4 (by decide) wfl_X3_30 rfl dX3_two_13 ?_
    refine lv_aload_n hx hb dX3_two_16 rfl (lv_at hl 0 rfl) ?_
    refine ct_get (C := RX3) (T := TX3) (N := 6) (ci := 3) (v := .ref (a 1 0)) hM hK hP inX3 0 rfl rfl 0 (by decide) wfl_X3_10 rfl dX3_two_17 ?_
    refine lv_aload_n hx hb dX3_two_20 rfl (lv_at hl 0 rfl) ?_
    refine ct_get (C := RX3) (T := TX3) (N := 6) (ci := 3) (v := .ref (a 1 0)) hM hK hP inX3 0 rfl rfl 0 (by decide) wfl_X3_10 rfl dX3_two_21 ?_
    refine ct_get (C := RX1) (T := TX1) (N := 6) (ci := 1) (v := .int (v_cm vN)) hM hK hP inX1 3 rfl rfl 4 (by decide) wfl_X3_58 rfl dX3_two_24 ?_
    obtain ⟨h5, hO⟩ := hO
    obtain ⟨q6, e7⟩ : ∃ q, fX2_run vN w (v_cm vN) = q := ⟨_, rfl⟩
    have hF := lt_n e7 hF
    try have hO := lo_n e7 hO
    refine ct_callV (ws' := gwFF cy a kp vN vT vI vJ q6 pd) hM hK hP hD hS (kX2_run l D cy (a 1) (a 5) vN w (v_cm vN) h5 e7) kvX2_run wml_X3_94 [3, 4, 5, 6, 7, 8, 27, 28, 29, 30, 31] rfl (by decide) rfl rfl rfl 27 rfl rfl rfl rfl hl.1 rfl ⟨rfl, rfl, Nat.le_of_ble_eq_true rfl, Nat.le_of_ble_eq_true rfl⟩ (Nat.le_of_ble_eq_true rfl) ⟨Nat.zero_le _, Nat.zero_le _⟩ dX3_two_27 (fun H locs hP hD hS => ?_)
    refine W.eq (g2 := F0 m 30 ls []) rfl ?_
    refine lv_iconst (v := 0) hx hb dX3_two_30 (by decide) ?_
    refine lv_istore_n (lv' := [(2, .int 0), (0, .ref (a 0 0)), (1, .int s1)]) hx hb dX3_two_31 rfl hl (by decide) rfl (fun ls hl => ?_)
    refine lv_aload_n hx hb dX3_two_32 rfl (lv_at hl 1 rfl) ?_
    refine ct_get (C := RX3) (T := TX3) (N := 6) (ci := 3) (v := .ref (a 5 0)) hM hK hP inX3 0 rfl rfl 4 (by decide) wfl_X3_30 rfl dX3_two_33 ?_
    refine ct_get (C := RX2) (T := TX2) (N := 10) (ci := 2) (v := .int (w_wo q6)) hM hK hP inX2 27 rfl rfl 5 (by decide) wfl_X3_110 rfl dX3_two_36 ?_
    refine lv_topi (fun x8 e9 => ?_)
    have hF := lt_n e9.symm hF
    try have hO := lo_n e9.symm hO
    refine lv_istore_n (lv' := [(3, .int x8), (2, .int 0), (0, .ref (a 0 0)), (1, .int s1)]) hx hb dX3_two_39 rfl hl (by decide) rfl (fun ls hl => ?_)
    refine lv_aload_n hx hb dX3_two_40 rfl (lv_at hl 2 rfl) ?_
    refine ct_get (C := RX3) (T := TX3) (N := 6) (ci := 3) (v := .ref (a 5 0)) hM hK hP inX3 0 rfl rfl 4 (by decide) wfl_X3_30 rfl dX3_two_41 ?_
    refine ct_get (C := RX2) (T := TX2) (N := 10) (ci := 2) (v := .int (w_su q6)) hM hK hP inX2 27 rfl rfl 6 (by decide) wfl_X3_117 rfl dX3_two_44 ?_
    refine lv_topi (fun x10 e11 => ?_)
    have hF := lt_n e11.symm hF
    try have hO := lo_n e11.symm hO
    refine lv_istore (lv' := [(4, .int x10), (3, .int x8), (2, .int 0), (0, .ref (a 0 0)), (1, .int s1)]) hx hb dX3_two_47 hl (by decide) rfl (fun ls hl => ?_)
    refine lv_iconst (v := 1) hx hb dX3_two_49 (by decide) ?_
    refine lv_istore (lv' := [(5, .int 1), (4, .int x10), (3, .int x8), (2, .int 0), (0, .ref (a 0 0)), (1, .int s1)]) hx hb dX3_two_50 hl (by decide) rfl (fun ls hl => ?_)
    exact tX3_two_52 hM hK 257 q6 0 x8 x10 1 H locs ls hP hD hS (lv_sub hl [4, 5, 3, 2, 1, 0] rfl) hO hF
  · have hF := lt_t c4 hF
    have hO := lo_t c4 hO
    refine lv_bipush (v := (-2)) hx hb dX3_two_9 (by decide) ?_
    subst hF
    exact ct_iret hM hP hS dX3_two_11

abbrev rX3_stay : Room := { frames := 5, cells := 0, slots := 0, locals := 119 }
def fX3_stay_24 (vN : tVl) (s1 : Int32) : Nat → tWl → Int32 → Int32 → Int32 × tWl
  | 0, w, s2, s3 => (0, w)
  | n + 1, w, s2, s3 => if v_cm vN ≤ s3 then (s2, w) else (if (s3 &&& (v_cm vN ^^^ (-1))) = 0 then (lt_ (fJ6_bitCount_0f7a4 s3) fun q12 => lt_ (fJ6_bitCount_0f7a4 s2) fun q15 => if q15 ≤ q12 then (lt_ (s3 + 1) fun x18 => fX3_stay_24 vN s1 n w s2 x18) else (lt_ (fX2_run vN w (v_cm vN &&& (s3 ^^^ (-1)))) fun q21 => if s1 < w_wo q21 then (lt_ (s3 + 1) fun x24 => fX3_stay_24 vN s1 n q21 s2 x24) else (lt_ (s3 + 1) fun x26 => fX3_stay_24 vN s1 n q21 s3 x26))) else (lt_ (s3 + 1) fun x9 => fX3_stay_24 vN s1 n w s2 x9))
def oX3_stay_24 (vN : tVl) (s1 : Int32) : Nat → tWl → Int32 → Int32 → Prop
  | 0, _, _, _ => False
  | n + 1, w, s2, s3 => if v_cm vN ≤ s3 then True else (if (s3 &&& (v_cm vN ^^^ (-1))) = 0 then (lo_ (fJ6_bitCount_0f7a4 s3) fun q12 => lo_ (fJ6_bitCount_0f7a4 s2) fun q15 => if q15 ≤ q12 then (lo_ (s3 + 1) fun x18 => oX3_stay_24 vN s1 n w s2 x18) else (oX2_run vN w (v_cm vN &&& (s3 ^^^ (-1))) ∧ (lo_ (fX2_run vN w (v_cm vN &&& (s3 ^^^ (-1)))) fun q21 => if s1 < w_wo q21 then (lo_ (s3 + 1) fun x24 => oX3_stay_24 vN s1 n q21 s2 x24) else (lo_ (s3 + 1) fun x26 => oX3_stay_24 vN s1 n q21 s3 x26)))) else (lo_ (s3 + 1) fun x9 => oX3_stay_24 vN s1 n w s2 x9))
set_option maxHeartbeats 4000000 in
set_option maxRecDepth 100000 in
theorem tX3_stay_24 {p : Program} {l : Launch} {e : Env} {s : State} {m : MethodId} {args : Array Value} {below : List Frame} {meth : Method} {c : Code} {A : Nat → Prop} {D : va_G} {cy : Nat → ClassId} {a : Nat → Nat → Nat} {kp : tAr} {vN : tVl} {vT : tVl} {vI : tVl} {vJ : tVl} {pd : tPd} {s1 : Int32} {R : Int32 × tWl} (hM : MC p s m args meth c RX3 cX3_stay 4 (some .int)) (hK : va_K D classes (ctT cy) s) :
    ∀ (n : Nat) (w : tWl) (s2 : Int32) (s3 : Int32) (H : Heap) (locs : List Loc) (ls : Array Slot), va_P D classes (gwFF cy a kp vN vT vI vJ w pd) H → va_D A (gwFF cy a kp vN vT vI vJ w pd) → va_S A s.heap H locs → lv_has ls 4 [(0, .ref (a 0 0)), (1, .int s1), (2, .int s2), (3, .int s3)] → oX3_stay_24 vN s1 n w s2 s3 → fX3_stay_24 vN s1 n w s2 s3 = R → W p l e rX3_stay s m args below meth c H locs 0 0 (MQ below (ctQ D (some (.int R.1)) (gwFF cy a kp vN vT vI vJ R.2 pd) A) args s 0 0 A) (F0 m 24 ls []) := by
  obtain ⟨hx, hb, -, hml, hown, hts, -⟩ := id hM
  intro n
  induction n with
  | zero =>
    intro w s2 s3 H locs ls hP hD hS hl hO hF
    exact False.elim hO
  | succ n ih =>
    intro w s2 s3 H locs ls hP hD hS hl hO hF
    rw [fX3_stay_24] at hF
    rw [oX3_stay_24] at hO
    refine lv_iload_n hx hb dX3_stay_24 rfl (lv_at hl 3 rfl) ?_
    refine lv_aload_n hx hb dX3_stay_25 rfl (lv_at hl 0 rfl) ?_
    refine ct_get (C := RX3) (T := TX3) (N := 6) (ci := 3) (v := .ref (a 1 0)) hM hK hP inX3 0 rfl rfl 0 (by decide) wfl_X3_10 rfl dX3_stay_26 ?_
    refine ct_get (C := RX1) (T := TX1) (N := 6) (ci := 1) (v := .int (v_cm vN)) hM hK hP inX1 3 rfl rfl 4 (by decide) wfl_X3_58 rfl dX3_stay_29 ?_
    refine lv_icmp_ge (tgt := 101) hx hb dX3_stay_32 (by decide) (fun c7 => ?_) (fun c7 => ?_)
    · have hF := lt_t c7 hF
      have hO := lo_t c7 hO
      refine lv_iload_n hx hb dX3_stay_101 rfl (lv_at hl 2 rfl) ?_
      subst hF
      exact ct_iret hM hP hS dX3_stay_102
    · have hF := lt_f c7 hF
      have hO := lo_f c7 hO
      refine lv_iload_n hx hb dX3_stay_35 rfl (lv_at hl 3 rfl) ?_
      refine lv_aload_n hx hb dX3_stay_36 rfl (lv_at hl 0 rfl) ?_
      refine ct_get (C := RX3) (T := TX3) (N := 6) (ci := 3) (v := .ref (a 1 0)) hM hK hP inX3 0 rfl rfl 0 (by decide) wfl_X3_10 rfl dX3_stay_37 ?_
      refine ct_get (C := RX1) (T := TX1) (N := 6) (ci := 1) (v := .int (v_cm vN)) hM hK hP inX1 3 rfl rfl 4 (by decide) wfl_X3_58 rfl dX3_stay_40 ?_
      refine lv_iconst (v := (-1)) hx hb dX3_stay_43 (by decide) ?_
      refine lv_ixor hx hb dX3_stay_44 ?_
      refine lv_iand hx hb dX3_stay_45 ?_
      refine lv_if_ne (tgt := 95) hx hb dX3_stay_46 (by decide) (fun c8 => ?_) (fun c8 => ?_)
      · have hF := lt_f c8 hF
        have hO := lo_f c8 hO
        obtain ⟨x9, e10⟩ : ∃ y : Int32, s3 + 1 = y := ⟨_, rfl⟩
        have hF := lt_n e10 hF
        try have hO := lo_n e10 hO
        refine lv_iinc (v := x9) (lv' := [(3, .int x9), (0, .ref (a 0 0)), (1, .int s1), (2, .int s2)]) hx hb dX3_stay_95 hl (k := 3) rfl (by rw [← e10]; rfl) (by decide) rfl (fun ls hl => ?_)
        refine lv_goto (tgt := 24) hx hb dX3_stay_98 (by decide) ?_
        exact ih w s2 x9 H locs ls hP hD hS (lv_sub hl [1, 2, 3, 0] rfl) hO hF
      · have hF := lt_t c8 hF
        have hO := lo_t c8 hO
        refine lv_iload_n hx hb dX3_stay_49 rfl (lv_at hl 3 rfl) ?_
        obtain ⟨q12, e13⟩ : ∃ q, fJ6_bitCount_0f7a4 s3 = q := ⟨_, rfl⟩
        have hF := lt_n e13 hF
        try have hO := lo_n e13 hO
        refine ct_callS hM hK hP hD hS (kJ6_bitCount_0f7a4 l D cy s3 trivial e13) kvJ6_bitCount_0f7a4 wml_X3_62 rfl hl.1 rfl ⟨rfl, rfl, Nat.le_of_ble_eq_true rfl, Nat.le_of_ble_eq_true rfl⟩ (Nat.le_of_ble_eq_true rfl) ⟨Nat.zero_le _, Nat.zero_le _⟩ dX3_stay_50 (fun H locs hP hD hS => ?_)
        refine W.eq (g2 := F0 m 53 ls [.int q12]) rfl ?_
        have hP : va_P D classes (gwFF cy a kp vN vT vI vJ w pd) H := hP
        have hD : va_D A (gwFF cy a kp vN vT vI vJ w pd) := hD
        refine lv_iload_n hx hb dX3_stay_53 rfl (lv_at hl 2 rfl) ?_
        obtain ⟨q15, e16⟩ : ∃ q, fJ6_bitCount_0f7a4 s2 = q := ⟨_, rfl⟩
        have hF := lt_n e16 hF
        try have hO := lo_n e16 hO
        refine ct_callS hM hK hP hD hS (kJ6_bitCount_0f7a4 l D cy s2 trivial e16) kvJ6_bitCount_0f7a4 wml_X3_62 rfl hl.1 rfl ⟨rfl, rfl, Nat.le_of_ble_eq_true rfl, Nat.le_of_ble_eq_true rfl⟩ (Nat.le_of_ble_eq_true rfl) ⟨Nat.zero_le _, Nat.zero_le _⟩ dX3_stay_54 (fun H locs hP hD hS => ?_)
        refine W.eq (g2 := F0 m 57 ls [.int q15, .int q12]) rfl ?_
        have hP : va_P D classes (gwFF cy a kp vN vT vI vJ w pd) H := hP
        have hD : va_D A (gwFF cy a kp vN vT vI vJ w pd) := hD
        refine lv_icmp_ge (tgt := 95) hx hb dX3_stay_57 (by decide) (fun c17 => ?_) (fun c17 => ?_)
        · have hF := lt_t c17 hF
          have hO := lo_t c17 hO
          obtain ⟨x18, e19⟩ : ∃ y : Int32, s3 + 1 = y := ⟨_, rfl⟩
          have hF := lt_n e19 hF
          try have hO := lo_n e19 hO
          refine lv_iinc (v := x18) (lv' := [(3, .int x18), (0, .ref (a 0 0)), (1, .int s1), (2, .int s2)]) hx hb dX3_stay_95 hl (k := 3) rfl (by rw [← e19]; rfl) (by decide) rfl (fun ls hl => ?_)
          refine lv_goto (tgt := 24) hx hb dX3_stay_98 (by decide) ?_
          exact ih w s2 x18 H locs ls hP hD hS (lv_sub hl [1, 2, 3, 0] rfl) hO hF
        · have hF := lt_f c17 hF
          have hO := lo_f c17 hO
          refine lv_aload_n hx hb dX3_stay_60 rfl (lv_at hl 0 rfl) ?_
          refine ct_get (C := RX3) (T := TX3) (N := 6) (ci := 3) (v := .ref (a 5 0)) hM hK hP inX3 0 rfl rfl 4 (by decide) wfl_X3_30 rfl dX3_stay_61 ?_
          refine lv_aload_n hx hb dX3_stay_64 rfl (lv_at hl 0 rfl) ?_
          refine ct_get (C := RX3) (T := TX3) (N := 6) (ci := 3) (v := .ref (a 1 0)) hM hK hP inX3 0 rfl rfl 0 (by decide) wfl_X3_10 rfl dX3_stay_65 ?_
          refine lv_aload_n hx hb dX3_stay_68 rfl (lv_at hl 0 rfl) ?_
          refine ct_get (C := RX3) (T := TX3) (N := 6) (ci := 3) (v := .ref (a 1 0)) hM hK hP inX3 0 rfl rfl 0 (by decide) wfl_X3_10 rfl dX3_stay_69 ?_
          refine ct_get (C := RX1) (T := TX1) (N := 6) (ci := 1) (v := .int (v_cm vN)) hM hK hP inX1 3 rfl rfl 4 (by decide) wfl_X3_58 rfl dX3_stay_72 ?_
          refine lv_iload_n hx hb dX3_stay_75 rfl (lv_at hl 3 rfl) ?_
          refine lv_iconst (v := (-1)) hx hb dX3_stay_76 (by decide) ?_
          refine lv_ixor hx hb dX3_stay_77 ?_
          refine lv_iand hx hb dX3_stay_78 ?_
          obtain ⟨h20, hO⟩ := hO
          obtain ⟨q21, e22⟩ : ∃ q, fX2_run vN w (v_cm vN &&& (s3 ^^^ (-1))) = q := ⟨_, rfl⟩
          have hF := lt_n e22 hF
          try have hO := lo_n e22 hO
          refine ct_callV (ws' := gwFF cy a kp vN vT vI vJ q21 pd) hM hK hP hD hS (kX2_run l D cy (a 1) (a 5) vN w (v_cm vN &&& (s3 ^^^ (-1))) h20 e22) kvX2_run wml_X3_94 [3, 4, 5, 6, 7, 8, 27, 28, 29, 30, 31] rfl (by decide) rfl rfl rfl 27 rfl rfl rfl rfl hl.1 rfl ⟨rfl, rfl, Nat.le_of_ble_eq_true rfl, Nat.le_of_ble_eq_true rfl⟩ (Nat.le_of_ble_eq_true rfl) ⟨Nat.zero_le _, Nat.zero_le _⟩ dX3_stay_79 (fun H locs hP hD hS => ?_)
          refine W.eq (g2 := F0 m 82 ls []) rfl ?_
          refine lv_aload_n hx hb dX3_stay_82 rfl (lv_at hl 0 rfl) ?_
          refine ct_get (C := RX3) (T := TX3) (N := 6) (ci := 3) (v := .ref (a 5 0)) hM hK hP inX3 0 rfl rfl 4 (by decide) wfl_X3_30 rfl dX3_stay_83 ?_
          refine ct_get (C := RX2) (T := TX2) (N := 10) (ci := 2) (v := .int (w_wo q21)) hM hK hP inX2 27 rfl rfl 5 (by decide) wfl_X3_110 rfl dX3_stay_86 ?_
          refine lv_iload_n hx hb dX3_stay_89 rfl (lv_at hl 1 rfl) ?_
          refine lv_icmp_gt (tgt := 95) hx hb dX3_stay_90 (by decide) (fun c23 => ?_) (fun c23 => ?_)
          · have hF := lt_t c23 hF
            have hO := lo_t c23 hO
            obtain ⟨x24, e25⟩ : ∃ y : Int32, s3 + 1 = y := ⟨_, rfl⟩
            have hF := lt_n e25 hF
            try have hO := lo_n e25 hO
            refine lv_iinc (v := x24) (lv' := [(3, .int x24), (0, .ref (a 0 0)), (1, .int s1), (2, .int s2)]) hx hb dX3_stay_95 hl (k := 3) rfl (by rw [← e25]; rfl) (by decide) rfl (fun ls hl => ?_)
            refine lv_goto (tgt := 24) hx hb dX3_stay_98 (by decide) ?_
            exact ih q21 s2 x24 H locs ls hP hD hS (lv_sub hl [1, 2, 3, 0] rfl) hO hF
          · have hF := lt_f c23 hF
            have hO := lo_f c23 hO
            refine lv_iload_n hx hb dX3_stay_93 rfl (lv_at hl 3 rfl) ?_
            refine lv_istore_n (lv' := [(2, .int s3), (0, .ref (a 0 0)), (1, .int s1), (3, .int s3)]) hx hb dX3_stay_94 rfl hl (by decide) rfl (fun ls hl => ?_)
            obtain ⟨x26, e27⟩ : ∃ y : Int32, s3 + 1 = y := ⟨_, rfl⟩
            have hF := lt_n e27 hF
            try have hO := lo_n e27 hO
            refine lv_iinc (v := x26) (lv' := [(3, .int x26), (2, .int s3), (0, .ref (a 0 0)), (1, .int s1)]) hx hb dX3_stay_95 hl (k := 3) rfl (by rw [← e27]; rfl) (by decide) rfl (fun ls hl => ?_)
            refine lv_goto (tgt := 24) hx hb dX3_stay_98 (by decide) ?_
            exact ih q21 s3 x26 H locs ls hP hD hS (lv_sub hl [2, 3, 1, 0] rfl) hO hF

def fX3_stay (vN : tVl) (w : tWl) (s1 : Int32) : Int32 × tWl := lt_ (fX3_within s1 0 9999) fun q2 => if q2 = 0 then ((-2), w) else (lt_ (v_cm vN) fun x5 => fX3_stay_24 vN s1 257 w x5 0)
def oX3_stay (vN : tVl) (w : tWl) (s1 : Int32) : Prop := lo_ (fX3_within s1 0 9999) fun q2 => if q2 = 0 then True else (lo_ (v_cm vN) fun x5 => oX3_stay_24 vN s1 257 w x5 0)
theorem kvX3_stay : KV yX3_stay cX3_stay 4 (some .int) 1 := ⟨wcd_X3_stay, wim_X3_stay, wsl_X3_stay, win_X3, by decide +kernel, by decide +kernel, by decide +kernel⟩
set_option maxHeartbeats 4000000 in
set_option maxRecDepth 100000 in
theorem kX3_stay (l : Launch) (D : va_G) (cy : Nat → ClassId) (a : Nat → Nat → Nat) (kp : tAr) (vN : tVl) (vT : tVl) (vI : tVl) (vJ : tVl) (w : tWl) (pd : tPd) (s1 : Int32) {R : Int32 × tWl} (hO : oX3_stay vN w s1) (hF : fX3_stay vN w s1 = R) : CT l D cy yX3_stay cX3_stay 4 (some .int) rX3_stay [.ref (a 0 0), .int s1] (gwFF cy a kp vN vT vI vJ w pd) (some (.int R.1)) (gwFF cy a kp vN vT vI vJ R.2 pd) := by
  refine ct_of (by decide) (Nat.le_of_ble_eq_true rfl) ?_
  intro p e s m args below meth c A ls hM hK hP hD hS hl
  obtain ⟨hx, hb, -, hml, hown, hts, -⟩ := id hM
  have hl : lv_has ls 4 [(0, .ref (a 0 0)), (1, .int s1)] := hl
  obtain ⟨H, hH⟩ : ∃ H : Heap, H = s.heap := ⟨_, rfl⟩
  obtain ⟨locs, hlocs⟩ : ∃ q : List Loc, q = [] := ⟨_, rfl⟩
  have hP : va_P D classes (gwFF cy a kp vN vT vI vJ w pd) H := by rw [hH]; exact hP
  have hS : va_S A s.heap H locs := by rw [hH, hlocs]; exact hS
  suffices hg : W p l e rX3_stay s m args below meth c H locs 0 0 (MQ below (ctQ D (some (.int R.1)) (gwFF cy a kp vN vT vI vJ R.2 pd) A) args s 0 0 A) (F0 m 0 ls []) by rw [hH, hlocs] at hg; exact hg
  clear hH hlocs
  unfold fX3_stay at hF
  unfold oX3_stay at hO
  refine lv_iload_n hx hb dX3_stay_0 rfl (lv_at hl 1 rfl) ?_
  refine lv_iconst (v := 0) hx hb dX3_stay_1 (by decide) ?_
  refine lv_sipush (v := 9999) hx hb dX3_stay_2 (by decide) ?_
  obtain ⟨q2, e3⟩ : ∃ q, fX3_within s1 0 9999 = q := ⟨_, rfl⟩
  have hF := lt_n e3 hF
  try have hO := lo_n e3 hO
  refine ct_callS hM hK hP hD hS (kX3_within l D cy s1 0 9999 trivial e3) kvX3_within wml_X3_41 rfl hl.1 rfl ⟨rfl, rfl, Nat.le_of_ble_eq_true rfl, Nat.le_of_ble_eq_true rfl⟩ (Nat.le_of_ble_eq_true rfl) ⟨Nat.zero_le _, Nat.zero_le _⟩ dX3_stay_5 (fun H locs hP hD hS => ?_)
  refine W.eq (g2 := F0 m 8 ls [.int q2]) rfl ?_
  have hP : va_P D classes (gwFF cy a kp vN vT vI vJ w pd) H := hP
  have hD : va_D A (gwFF cy a kp vN vT vI vJ w pd) := hD
  refine lv_if_ne (tgt := 14) hx hb dX3_stay_8 (by decide) (fun c4 => ?_) (fun c4 => ?_)
  · have hF := lt_f c4 hF
    have hO := lo_f c4 hO
    refine lv_aload_n hx hb dX3_stay_14 rfl (lv_at hl 0 rfl) ?_
    refine ct_get (C := RX3) (T := TX3) (N := 6) (ci := 3) (v := .ref (a 1 0)) hM hK hP inX3 0 rfl rfl 0 (by decide) wfl_X3_10 rfl dX3_stay_15 ?_
    refine ct_get (C := RX1) (T := TX1) (N := 6) (ci := 1) (v := .int (v_cm vN)) hM hK hP inX1 3 rfl rfl 4 (by decide) wfl_X3_58 rfl dX3_stay_18 ?_
    refine lv_topi (fun x5 e6 => ?_)
    have hF := lt_n e6.symm hF
    try have hO := lo_n e6.symm hO
    refine lv_istore_n (lv' := [(2, .int x5), (0, .ref (a 0 0)), (1, .int s1)]) hx hb dX3_stay_21 rfl hl (by decide) rfl (fun ls hl => ?_)
    refine lv_iconst (v := 0) hx hb dX3_stay_22 (by decide) ?_
    refine lv_istore_n (lv' := [(3, .int 0), (2, .int x5), (0, .ref (a 0 0)), (1, .int s1)]) hx hb dX3_stay_23 rfl hl (by decide) rfl (fun ls hl => ?_)
    exact tX3_stay_24 hM hK 257 w x5 0 H locs ls hP hD hS (lv_sub hl [2, 3, 1, 0] rfl) hO hF
  · have hF := lt_t c4 hF
    have hO := lo_t c4 hO
    refine lv_bipush (v := (-2)) hx hb dX3_stay_11 (by decide) ?_
    subst hF
    exact ct_iret hM hP hS dX3_stay_13

abbrev rX3_day : Room := { frames := 5, cells := 0, slots := 0, locals := 119 }
def fX3_day_39 (vN : tVl) (s2 : Int32) : Nat → tVl → tWl → Int32 → Int32 → Int32 × tVl × tWl
  | 0, vT, w, s3, s4 => (0, vT, w)
  | n + 1, vT, w, s3, s4 => if 8 ≤ s4 then (lt_ (fX2_run vT w (v_cm vT)) fun q14 => if s2 = 0 then (w_wo q14, vT, q14) else (w_su q14, vT, q14)) else (lt_ (fX1_comes vN s4) fun q18 => if q18 = 0 then (lt_ (s4 + 1) fun x21 => fX3_day_39 vN s2 n vT w s3 x21) else (lt_ (((75 * s3) + 74) - (((75 * s3) + 74) / 65537) * 65537) fun x23 => lt_ (x23 - (x23 / 600) * 600) fun x25 => lt_ (s4 + 1) fun x28 => fX3_day_39 vN s2 n (v_mi vT, upd (v_mn vT) (Int32.toNatClampNeg s4) x25, v_pa vT, v_ca vT, v_se vT, v_cm vT) w x23 x28))
def oX3_day_39 (vN : tVl) (s2 : Int32) : Nat → tVl → tWl → Int32 → Int32 → Prop
  | 0, _, _, _, _ => False
  | n + 1, vT, w, s3, s4 => if 8 ≤ s4 then (oX2_run vT w (v_cm vT) ∧ True) else (lo_ (fX1_comes vN s4) fun q18 => if q18 = 0 then (lo_ (s4 + 1) fun x21 => oX3_day_39 vN s2 n vT w s3 x21) else (lo_ (((75 * s3) + 74) - (((75 * s3) + 74) / 65537) * 65537) fun x23 => lo_ (x23 - (x23 / 600) * 600) fun x25 => vp_in s4 8 ∧ (lo_ (s4 + 1) fun x28 => oX3_day_39 vN s2 n (v_mi vT, upd (v_mn vT) (Int32.toNatClampNeg s4) x25, v_pa vT, v_ca vT, v_se vT, v_cm vT) w x23 x28)))
set_option maxHeartbeats 4000000 in
set_option maxRecDepth 100000 in
theorem tX3_day_39 {p : Program} {l : Launch} {e : Env} {s : State} {m : MethodId} {args : Array Value} {below : List Frame} {meth : Method} {c : Code} {A : Nat → Prop} {D : va_G} {cy : Nat → ClassId} {a : Nat → Nat → Nat} {kp : tAr} {vN : tVl} {vI : tVl} {vJ : tVl} {pd : tPd} {s1 : Int32} {s2 : Int32} {R : Int32 × tVl × tWl} (hM : MC p s m args meth c RX3 cX3_day 5 (some .int)) (hK : va_K D classes (ctT cy) s) :
    ∀ (n : Nat) (vT : tVl) (w : tWl) (s3 : Int32) (s4 : Int32) (H : Heap) (locs : List Loc) (ls : Array Slot), va_P D classes (gwFF cy a kp vN vT vI vJ w pd) H → va_D A (gwFF cy a kp vN vT vI vJ w pd) → va_S A s.heap H locs → lv_has ls 5 [(0, .ref (a 0 0)), (1, .int s1), (2, .int s2), (3, .int s3), (4, .int s4)] → oX3_day_39 vN s2 n vT w s3 s4 → fX3_day_39 vN s2 n vT w s3 s4 = R → W p l e rX3_day s m args below meth c H locs 0 0 (MQ below (ctQ D (some (.int R.1)) (gwFF cy a kp vN R.2.1 vI vJ R.2.2 pd) A) args s 0 0 A) (F0 m 39 ls []) := by
  obtain ⟨hx, hb, -, hml, hown, hts, -⟩ := id hM
  intro n
  induction n with
  | zero =>
    intro vT w s3 s4 H locs ls hP hD hS hl hO hF
    exact False.elim hO
  | succ n ih =>
    intro vT w s3 s4 H locs ls hP hD hS hl hO hF
    rw [fX3_day_39] at hF
    rw [oX3_day_39] at hO
    refine lv_iload hx hb dX3_day_39 (lv_at hl 4 rfl) ?_
    refine lv_bipush (v := 8) hx hb dX3_day_41 (by decide) ?_
    refine lv_icmp_ge (tgt := 90) hx hb dX3_day_43 (by decide) (fun c12 => ?_) (fun c12 => ?_)
    · have hF := lt_t c12 hF
      have hO := lo_t c12 hO
      refine lv_aload_n hx hb dX3_day_90 rfl (lv_at hl 0 rfl) ?_
      refine ct_get (C := RX3) (T := TX3) (N := 6) (ci := 3) (v := .ref (a 5 0)) hM hK hP inX3 0 rfl rfl 4 (by decide) wfl_X3_30 rfl dX3_day_91 ?_
      refine lv_aload_n hx hb dX3_day_94 rfl (lv_at hl 0 rfl) ?_
      refine ct_get (C := RX3) (T := TX3) (N := 6) (ci := 3) (v := .ref (a 2 0)) hM hK hP inX3 0 rfl rfl 1 (by decide) wfl_X3_16 rfl dX3_day_95 ?_
      refine lv_aload_n hx hb dX3_day_98 rfl (lv_at hl 0 rfl) ?_
      refine ct_get (C := RX3) (T := TX3) (N := 6) (ci := 3) (v := .ref (a 2 0)) hM hK hP inX3 0 rfl rfl 1 (by decide) wfl_X3_16 rfl dX3_day_99 ?_
      refine ct_get (C := RX1) (T := TX1) (N := 6) (ci := 1) (v := .int (v_cm vT)) hM hK hP inX1 9 rfl rfl 4 (by decide) wfl_X3_58 rfl dX3_day_102 ?_
      obtain ⟨h13, hO⟩ := hO
      obtain ⟨q14, e15⟩ : ∃ q, fX2_run vT w (v_cm vT) = q := ⟨_, rfl⟩
      have hF := lt_n e15 hF
      try have hO := lo_n e15 hO
      refine ct_callV (ws' := gwFF cy a kp vN vT vI vJ q14 pd) hM hK hP hD hS (kX2_run l D cy (a 2) (a 5) vT w (v_cm vT) h13 e15) kvX2_run wml_X3_94 [9, 10, 11, 12, 13, 14, 27, 28, 29, 30, 31] rfl (by decide) rfl rfl rfl 27 rfl rfl rfl rfl hl.1 rfl ⟨rfl, rfl, Nat.le_of_ble_eq_true rfl, Nat.le_of_ble_eq_true rfl⟩ (Nat.le_of_ble_eq_true rfl) ⟨Nat.zero_le _, Nat.zero_le _⟩ dX3_day_105 (fun H locs hP hD hS => ?_)
      refine W.eq (g2 := F0 m 108 ls []) rfl ?_
      refine lv_iload_n hx hb dX3_day_108 rfl (lv_at hl 2 rfl) ?_
      refine lv_if_ne (tgt := 122) hx hb dX3_day_109 (by decide) (fun c16 => ?_) (fun c16 => ?_)
      · have hF := lt_f c16 hF
        refine lv_aload_n hx hb dX3_day_122 rfl (lv_at hl 0 rfl) ?_
        refine ct_get (C := RX3) (T := TX3) (N := 6) (ci := 3) (v := .ref (a 5 0)) hM hK hP inX3 0 rfl rfl 4 (by decide) wfl_X3_30 rfl dX3_day_123 ?_
        refine ct_get (C := RX2) (T := TX2) (N := 10) (ci := 2) (v := .int (w_su q14)) hM hK hP inX2 27 rfl rfl 6 (by decide) wfl_X3_117 rfl dX3_day_126 ?_
        subst hF
        exact ct_iret hM hP hS dX3_day_129
      · have hF := lt_t c16 hF
        refine lv_aload_n hx hb dX3_day_112 rfl (lv_at hl 0 rfl) ?_
        refine ct_get (C := RX3) (T := TX3) (N := 6) (ci := 3) (v := .ref (a 5 0)) hM hK hP inX3 0 rfl rfl 4 (by decide) wfl_X3_30 rfl dX3_day_113 ?_
        refine ct_get (C := RX2) (T := TX2) (N := 10) (ci := 2) (v := .int (w_wo q14)) hM hK hP inX2 27 rfl rfl 5 (by decide) wfl_X3_110 rfl dX3_day_116 ?_
        refine lv_goto (tgt := 129) hx hb dX3_day_119 (by decide) ?_
        subst hF
        exact ct_iret hM hP hS dX3_day_129
    · have hF := lt_f c12 hF
      have hO := lo_f c12 hO
      refine lv_aload_n hx hb dX3_day_46 rfl (lv_at hl 0 rfl) ?_
      refine ct_get (C := RX3) (T := TX3) (N := 6) (ci := 3) (v := .ref (a 1 0)) hM hK hP inX3 0 rfl rfl 0 (by decide) wfl_X3_10 rfl dX3_day_47 ?_
      refine lv_iload hx hb dX3_day_50 (lv_at hl 4 rfl) ?_
      obtain ⟨q18, e19⟩ : ∃ q, fX1_comes vN s4 = q := ⟨_, rfl⟩
      have hF := lt_n e19 hF
      try have hO := lo_n e19 hO
      refine ct_callV (ws' := gwFF cy a kp vN vT vI vJ w pd) hM hK hP hD hS (kX1_comes l D cy (a 1) vN s4 trivial e19) kvX1_comes wml_X3_68 [3, 4, 5, 6, 7, 8] rfl (by decide) rfl rfl rfl 3 rfl rfl rfl rfl hl.1 rfl ⟨rfl, rfl, Nat.le_of_ble_eq_true rfl, Nat.le_of_ble_eq_true rfl⟩ (Nat.le_of_ble_eq_true rfl) ⟨Nat.zero_le _, Nat.zero_le _⟩ dX3_day_52 (fun H locs hP hD hS => ?_)
      refine W.eq (g2 := F0 m 55 ls [.int q18]) rfl ?_
      refine lv_if_eq (tgt := 84) hx hb dX3_day_55 (by decide) (fun c20 => ?_) (fun c20 => ?_)
      · have hF := lt_t c20 hF
        have hO := lo_t c20 hO
        obtain ⟨x21, e22⟩ : ∃ y : Int32, s4 + 1 = y := ⟨_, rfl⟩
        have hF := lt_n e22 hF
        try have hO := lo_n e22 hO
        refine lv_iinc (v := x21) (lv' := [(4, .int x21), (0, .ref (a 0 0)), (1, .int s1), (2, .int s2), (3, .int s3)]) hx hb dX3_day_84 hl (k := 4) rfl (by rw [← e22]; rfl) (by decide) rfl (fun ls hl => ?_)
        refine lv_goto (tgt := 39) hx hb dX3_day_87 (by decide) ?_
        exact ih vT w s3 x21 H locs ls hP hD hS (lv_sub hl [1, 2, 3, 4, 0] rfl) hO hF
      · have hF := lt_f c20 hF
        have hO := lo_f c20 hO
        refine lv_bipush (v := 75) hx hb dX3_day_58 (by decide) ?_
        refine lv_iload_n hx hb dX3_day_60 rfl (lv_at hl 3 rfl) ?_
        refine lv_imul hx hb dX3_day_61 ?_
        refine lv_bipush (v := 74) hx hb dX3_day_62 (by decide) ?_
        refine lv_iadd hx hb dX3_day_64 ?_
        refine lv_ldc (v := 65537) hx hb hown (hts _ wct_X3_168) dX3_day_65 ?_
        refine lv_irem hx hb dX3_day_67 (by decide) ?_
        refine lv_topi (fun x23 e24 => ?_)
        have hF := lt_n e24.symm hF
        try have hO := lo_n e24.symm hO
        refine lv_istore_n (lv' := [(3, .int x23), (0, .ref (a 0 0)), (1, .int s1), (2, .int s2), (4, .int s4)]) hx hb dX3_day_68 rfl hl (by decide) rfl (fun ls hl => ?_)
        refine lv_aload_n hx hb dX3_day_69 rfl (lv_at hl 1 rfl) ?_
        refine ct_get (C := RX3) (T := TX3) (N := 6) (ci := 3) (v := .ref (a 2 0)) hM hK hP inX3 0 rfl rfl 1 (by decide) wfl_X3_16 rfl dX3_day_70 ?_
        refine ct_get (C := RX1) (T := TX1) (N := 6) (ci := 1) (v := .ref (a 2 2)) hM hK hP inX1 9 rfl rfl 1 (by decide) wfl_X3_49 rfl dX3_day_73 ?_
        refine lv_iload hx hb dX3_day_76 (lv_at hl 4 rfl) ?_
        refine lv_iload_n hx hb dX3_day_78 rfl (lv_at hl 0 rfl) ?_
        refine lv_sipush (v := 600) hx hb dX3_day_79 (by decide) ?_
        refine lv_irem hx hb dX3_day_82 (by decide) ?_
        refine lv_topi (fun x25 e26 => ?_)
        have hF := lt_n e26.symm hF
        try have hO := lo_n e26.symm hO
        obtain ⟨h27, hO⟩ := hO
        refine va_iast hx hb hK hP hD hS 11 0 (f := v_mn vT) (n := 8) (cA := cy 0) rfl rfl h27 dX3_day_83 (fun H locs hP hD hS => ?_)
        have hP : va_P D classes (gwFF cy a kp vN (v_mi vT, upd (v_mn vT) (Int32.toNatClampNeg s4) x25, v_pa vT, v_ca vT, v_se vT, v_cm vT) vI vJ w pd) H := hP
        have hD : va_D A (gwFF cy a kp vN (v_mi vT, upd (v_mn vT) (Int32.toNatClampNeg s4) x25, v_pa vT, v_ca vT, v_se vT, v_cm vT) vI vJ w pd) := hD
        obtain ⟨x28, e29⟩ : ∃ y : Int32, s4 + 1 = y := ⟨_, rfl⟩
        have hF := lt_n e29 hF
        try have hO := lo_n e29 hO
        refine lv_iinc (v := x28) (lv' := [(4, .int x28), (3, .int x23), (0, .ref (a 0 0)), (1, .int s1), (2, .int s2)]) hx hb dX3_day_84 hl (k := 4) rfl (by rw [← e29]; rfl) (by decide) rfl (fun ls hl => ?_)
        refine lv_goto (tgt := 39) hx hb dX3_day_87 (by decide) ?_
        exact ih (v_mi vT, upd (v_mn vT) (Int32.toNatClampNeg s4) x25, v_pa vT, v_ca vT, v_se vT, v_cm vT) w x23 x28 H locs ls hP hD hS (lv_sub hl [2, 3, 4, 1, 0] rfl) hO hF

def fX3_day (vN : tVl) (vT : tVl) (w : tWl) (s1 : Int32) (s2 : Int32) : Int32 × tVl × tWl := lt_ (fX3_within s1 0 9999) fun q2 => if q2 = 0 then ((-2), vT, w) else (lt_ (fX3_within s2 0 1) fun q6 => if q6 = 0 then ((-2), vT, w) else (lt_ (fX1_copy vT vN) fun q10 => fX3_day_39 vN s2 9 q10 w s1 0))
def oX3_day (vN : tVl) (vT : tVl) (w : tWl) (s1 : Int32) (s2 : Int32) : Prop := lo_ (fX3_within s1 0 9999) fun q2 => if q2 = 0 then True else (lo_ (fX3_within s2 0 1) fun q6 => if q6 = 0 then True else (oX1_copy vT vN ∧ (lo_ (fX1_copy vT vN) fun q10 => oX3_day_39 vN s2 9 q10 w s1 0)))
theorem kvX3_day : KV yX3_day cX3_day 5 (some .int) 2 := ⟨wcd_X3_day, wim_X3_day, wsl_X3_day, win_X3, by decide +kernel, by decide +kernel, by decide +kernel⟩
set_option maxHeartbeats 4000000 in
set_option maxRecDepth 100000 in
theorem kX3_day (l : Launch) (D : va_G) (cy : Nat → ClassId) (a : Nat → Nat → Nat) (kp : tAr) (vN : tVl) (vT : tVl) (vI : tVl) (vJ : tVl) (w : tWl) (pd : tPd) (s1 : Int32) (s2 : Int32) {R : Int32 × tVl × tWl} (hO : oX3_day vN vT w s1 s2) (hF : fX3_day vN vT w s1 s2 = R) : CT l D cy yX3_day cX3_day 5 (some .int) rX3_day [.ref (a 0 0), .int s1, .int s2] (gwFF cy a kp vN vT vI vJ w pd) (some (.int R.1)) (gwFF cy a kp vN R.2.1 vI vJ R.2.2 pd) := by
  refine ct_of (by decide) (Nat.le_of_ble_eq_true rfl) ?_
  intro p e s m args below meth c A ls hM hK hP hD hS hl
  obtain ⟨hx, hb, -, hml, hown, hts, -⟩ := id hM
  have hl : lv_has ls 5 [(0, .ref (a 0 0)), (1, .int s1), (2, .int s2)] := hl
  obtain ⟨H, hH⟩ : ∃ H : Heap, H = s.heap := ⟨_, rfl⟩
  obtain ⟨locs, hlocs⟩ : ∃ q : List Loc, q = [] := ⟨_, rfl⟩
  have hP : va_P D classes (gwFF cy a kp vN vT vI vJ w pd) H := by rw [hH]; exact hP
  have hS : va_S A s.heap H locs := by rw [hH, hlocs]; exact hS
  suffices hg : W p l e rX3_day s m args below meth c H locs 0 0 (MQ below (ctQ D (some (.int R.1)) (gwFF cy a kp vN R.2.1 vI vJ R.2.2 pd) A) args s 0 0 A) (F0 m 0 ls []) by rw [hH, hlocs] at hg; exact hg
  clear hH hlocs
  unfold fX3_day at hF
  unfold oX3_day at hO
  refine lv_iload_n hx hb dX3_day_0 rfl (lv_at hl 1 rfl) ?_
  refine lv_iconst (v := 0) hx hb dX3_day_1 (by decide) ?_
  refine lv_sipush (v := 9999) hx hb dX3_day_2 (by decide) ?_
  obtain ⟨q2, e3⟩ : ∃ q, fX3_within s1 0 9999 = q := ⟨_, rfl⟩
  have hF := lt_n e3 hF
  try have hO := lo_n e3 hO
  refine ct_callS hM hK hP hD hS (kX3_within l D cy s1 0 9999 trivial e3) kvX3_within wml_X3_41 rfl hl.1 rfl ⟨rfl, rfl, Nat.le_of_ble_eq_true rfl, Nat.le_of_ble_eq_true rfl⟩ (Nat.le_of_ble_eq_true rfl) ⟨Nat.zero_le _, Nat.zero_le _⟩ dX3_day_5 (fun H locs hP hD hS => ?_)
  refine W.eq (g2 := F0 m 8 ls [.int q2]) rfl ?_
  have hP : va_P D classes (gwFF cy a kp vN vT vI vJ w pd) H := hP
  have hD : va_D A (gwFF cy a kp vN vT vI vJ w pd) := hD
  refine lv_if_eq (tgt := 20) hx hb dX3_day_8 (by decide) (fun c4 => ?_) (fun c4 => ?_)
  · have hF := lt_t c4 hF
    have hO := lo_t c4 hO
    refine lv_bipush (v := (-2)) hx hb dX3_day_20 (by decide) ?_
    subst hF
    exact ct_iret hM hP hS dX3_day_22
  · have hF := lt_f c4 hF
    have hO := lo_f c4 hO
    refine lv_iload_n hx hb dX3_day_11 rfl (lv_at hl 2 rfl) ?_
    refine lv_iconst (v := 0) hx hb dX3_day_12 (by decide) ?_
    refine lv_iconst (v := 1) hx hb dX3_day_13 (by decide) ?_
    obtain ⟨q6, e7⟩ : ∃ q, fX3_within s2 0 1 = q := ⟨_, rfl⟩
    have hF := lt_n e7 hF
    try have hO := lo_n e7 hO
    refine ct_callS hM hK hP hD hS (kX3_within l D cy s2 0 1 trivial e7) kvX3_within wml_X3_41 rfl hl.1 rfl ⟨rfl, rfl, Nat.le_of_ble_eq_true rfl, Nat.le_of_ble_eq_true rfl⟩ (Nat.le_of_ble_eq_true rfl) ⟨Nat.zero_le _, Nat.zero_le _⟩ dX3_day_14 (fun H locs hP hD hS => ?_)
    refine W.eq (g2 := F0 m 17 ls [.int q6]) rfl ?_
    have hP : va_P D classes (gwFF cy a kp vN vT vI vJ w pd) H := hP
    have hD : va_D A (gwFF cy a kp vN vT vI vJ w pd) := hD
    refine lv_if_ne (tgt := 23) hx hb dX3_day_17 (by decide) (fun c8 => ?_) (fun c8 => ?_)
    · have hF := lt_f c8 hF
      have hO := lo_f c8 hO
      refine lv_aload_n hx hb dX3_day_23 rfl (lv_at hl 0 rfl) ?_
      refine ct_get (C := RX3) (T := TX3) (N := 6) (ci := 3) (v := .ref (a 2 0)) hM hK hP inX3 0 rfl rfl 1 (by decide) wfl_X3_16 rfl dX3_day_24 ?_
      refine lv_aload_n hx hb dX3_day_27 rfl (lv_at hl 0 rfl) ?_
      refine ct_get (C := RX3) (T := TX3) (N := 6) (ci := 3) (v := .ref (a 1 0)) hM hK hP inX3 0 rfl rfl 0 (by decide) wfl_X3_10 rfl dX3_day_28 ?_
      obtain ⟨h9, hO⟩ := hO
      obtain ⟨q10, e11⟩ : ∃ q, fX1_copy vT vN = q := ⟨_, rfl⟩
      have hF := lt_n e11 hF
      try have hO := lo_n e11 hO
      refine ct_callV (ws' := gwFF cy a kp vN q10 vI vJ w pd) hM hK hP hD hS (kX1_copy l D cy (a 2) (a 1) vT vN h9 e11) kvX1_copy wml_X3_151 [9, 10, 11, 12, 13, 14, 3, 4, 5, 6, 7, 8] rfl (by decide) rfl rfl rfl 9 rfl rfl rfl rfl hl.1 rfl ⟨rfl, rfl, Nat.le_of_ble_eq_true rfl, Nat.le_of_ble_eq_true rfl⟩ (Nat.le_of_ble_eq_true rfl) ⟨Nat.zero_le _, Nat.zero_le _⟩ dX3_day_31 (fun H locs hP hD hS => ?_)
      refine W.eq (g2 := F0 m 34 ls []) rfl ?_
      refine lv_iload_n hx hb dX3_day_34 rfl (lv_at hl 1 rfl) ?_
      refine lv_istore_n (lv' := [(3, .int s1), (0, .ref (a 0 0)), (1, .int s1), (2, .int s2)]) hx hb dX3_day_35 rfl hl (by decide) rfl (fun ls hl => ?_)
      refine lv_iconst (v := 0) hx hb dX3_day_36 (by decide) ?_
      refine lv_istore (lv' := [(4, .int 0), (3, .int s1), (0, .ref (a 0 0)), (1, .int s1), (2, .int s2)]) hx hb dX3_day_37 hl (by decide) rfl (fun ls hl => ?_)
      exact tX3_day_39 hM hK 9 q10 w s1 0 H locs ls hP hD hS (lv_sub hl [2, 3, 4, 1, 0] rfl) hO hF
    · have hF := lt_t c8 hF
      have hO := lo_t c8 hO
      refine lv_bipush (v := (-2)) hx hb dX3_day_20 (by decide) ?_
      subst hF
      exact ct_iret hM hP hS dX3_day_22

abbrev rX3_image : Room := { frames := 1, cells := 0, slots := 0, locals := 22 }
def fX3_image (kp : tAr) (vN : tVl) (vI : tVl) (vJ : tVl) (s1 : Int32) : Int32 × tAr × tVl × tVl := lt_ (fX3_within s1 0 1) fun q2 => if q2 = 0 then ((-2), kp, vI, vJ) else (if s1 = 0 then (lt_ (fX1_copy vI vN) fun q8 => (1, upd kp (Int32.toNatClampNeg s1) (vp_nar .boolean 1), q8, vJ)) else (lt_ (fX1_copy vJ vN) fun q11 => (1, upd kp (Int32.toNatClampNeg s1) (vp_nar .boolean 1), vI, q11)))
def oX3_image (kp : tAr) (vN : tVl) (vI : tVl) (vJ : tVl) (s1 : Int32) : Prop := lo_ (fX3_within s1 0 1) fun q2 => if q2 = 0 then True else (vp_in s1 2 ∧ (if s1 = 0 then (oX1_copy vI vN ∧ True) else (oX1_copy vJ vN ∧ True)))
theorem kvX3_image : KV yX3_image cX3_image 2 (some .int) 1 := ⟨wcd_X3_image, wim_X3_image, wsl_X3_image, win_X3, by decide +kernel, by decide +kernel, by decide +kernel⟩
set_option maxHeartbeats 4000000 in
set_option maxRecDepth 100000 in
theorem kX3_image (l : Launch) (D : va_G) (cy : Nat → ClassId) (a : Nat → Nat → Nat) (kp : tAr) (vN : tVl) (vT : tVl) (vI : tVl) (vJ : tVl) (w : tWl) (pd : tPd) (s1 : Int32) {R : Int32 × tAr × tVl × tVl} (hO : oX3_image kp vN vI vJ s1) (hF : fX3_image kp vN vI vJ s1 = R) : CT l D cy yX3_image cX3_image 2 (some .int) rX3_image [.ref (a 0 0), .int s1] (gwFF cy a kp vN vT vI vJ w pd) (some (.int R.1)) (gwFF cy a R.2.1 vN vT R.2.2.1 R.2.2.2 w pd) := by
  refine ct_of (by decide) (Nat.le_of_ble_eq_true rfl) ?_
  intro p e s m args below meth c A ls hM hK hP hD hS hl
  obtain ⟨hx, hb, -, hml, hown, hts, -⟩ := id hM
  have hl : lv_has ls 2 [(0, .ref (a 0 0)), (1, .int s1)] := hl
  obtain ⟨H, hH⟩ : ∃ H : Heap, H = s.heap := ⟨_, rfl⟩
  obtain ⟨locs, hlocs⟩ : ∃ q : List Loc, q = [] := ⟨_, rfl⟩
  have hP : va_P D classes (gwFF cy a kp vN vT vI vJ w pd) H := by rw [hH]; exact hP
  have hS : va_S A s.heap H locs := by rw [hH, hlocs]; exact hS
  suffices hg : W p l e rX3_image s m args below meth c H locs 0 0 (MQ below (ctQ D (some (.int R.1)) (gwFF cy a R.2.1 vN vT R.2.2.1 R.2.2.2 w pd) A) args s 0 0 A) (F0 m 0 ls []) by rw [hH, hlocs] at hg; exact hg
  clear hH hlocs
  unfold fX3_image at hF
  unfold oX3_image at hO
  refine lv_iload_n hx hb dX3_image_0 rfl (lv_at hl 1 rfl) ?_
  refine lv_iconst (v := 0) hx hb dX3_image_1 (by decide) ?_
  refine lv_iconst (v := 1) hx hb dX3_image_2 (by decide) ?_
  obtain ⟨q2, e3⟩ : ∃ q, fX3_within s1 0 1 = q := ⟨_, rfl⟩
  have hF := lt_n e3 hF
  try have hO := lo_n e3 hO
  refine ct_callS hM hK hP hD hS (kX3_within l D cy s1 0 1 trivial e3) kvX3_within wml_X3_41 rfl hl.1 rfl ⟨rfl, rfl, Nat.le_of_ble_eq_true rfl, Nat.le_of_ble_eq_true rfl⟩ (Nat.le_of_ble_eq_true rfl) ⟨Nat.zero_le _, Nat.zero_le _⟩ dX3_image_3 (fun H locs hP hD hS => ?_)
  refine W.eq (g2 := F0 m 6 ls [.int q2]) rfl ?_
  have hP : va_P D classes (gwFF cy a kp vN vT vI vJ w pd) H := hP
  have hD : va_D A (gwFF cy a kp vN vT vI vJ w pd) := hD
  refine lv_if_ne (tgt := 12) hx hb dX3_image_6 (by decide) (fun c4 => ?_) (fun c4 => ?_)
  · have hF := lt_f c4 hF
    have hO := lo_f c4 hO
    refine lv_aload_n hx hb dX3_image_12 rfl (lv_at hl 0 rfl) ?_
    refine ct_get (C := RX3) (T := TX3) (N := 6) (ci := 3) (v := .ref (a 0 1)) hM hK hP inX3 0 rfl rfl 2 (by decide) wfl_X3_19 rfl dX3_image_13 ?_
    refine lv_iload_n hx hb dX3_image_16 rfl (lv_at hl 1 rfl) ?_
    obtain ⟨h5, hO⟩ := hO
    by_cases c6 : s1 = 0
    · have hF := lt_t c6 hF
      have hO := lo_t c6 hO
      refine va_aldq hx hb hK hP 1 2 (C := "FarthestFirst$Village") (n := 2) (cA := cy 2) (f := gImg a) rfl rfl h5 dX3_image_17 ?_
      refine W.eq (g2 := F0 m 18 ls [.ref (a 3 0)]) (by rw [c6]; rfl) ?_
      refine lv_aload_n hx hb dX3_image_18 rfl (lv_at hl 0 rfl) ?_
      refine ct_get (C := RX3) (T := TX3) (N := 6) (ci := 3) (v := .ref (a 1 0)) hM hK hP inX3 0 rfl rfl 0 (by decide) wfl_X3_10 rfl dX3_image_19 ?_
      obtain ⟨h7, hO⟩ := hO
      obtain ⟨q8, e9⟩ : ∃ q, fX1_copy vI vN = q := ⟨_, rfl⟩
      have hF := lt_n e9 hF
      try have hO := lo_n e9 hO
      refine ct_callV (ws' := gwFF cy a kp vN vT q8 vJ w pd) hM hK hP hD hS (kX1_copy l D cy (a 3) (a 1) vI vN h7 e9) kvX1_copy wml_X3_151 [15, 16, 17, 18, 19, 20, 3, 4, 5, 6, 7, 8] rfl (by decide) rfl rfl rfl 15 rfl rfl rfl rfl hl.1 rfl ⟨rfl, rfl, Nat.le_of_ble_eq_true rfl, Nat.le_of_ble_eq_true rfl⟩ (Nat.le_of_ble_eq_true rfl) ⟨Nat.zero_le _, Nat.zero_le _⟩ dX3_image_22 (fun H locs hP hD hS => ?_)
      refine W.eq (g2 := F0 m 25 ls []) rfl ?_
      refine lv_aload_n hx hb dX3_image_25 rfl (lv_at hl 0 rfl) ?_
      refine ct_get (C := RX3) (T := TX3) (N := 6) (ci := 3) (v := .ref (a 0 2)) hM hK hP inX3 0 rfl rfl 3 (by decide) wfl_X3_23 rfl dX3_image_26 ?_
      refine lv_iload_n hx hb dX3_image_29 rfl (lv_at hl 1 rfl) ?_
      refine lv_iconst (v := 1) hx hb dX3_image_30 (by decide) ?_
      refine va_zast hx hb hK hP hD hS 2 1 (f := kp) (n := 2) (cA := cy 1) rfl rfl h5 dX3_image_31 (fun H locs hP hD hS => ?_)
      have hP : va_P D classes (gwFF cy a (upd kp (Int32.toNatClampNeg s1) (vp_nar .boolean 1)) vN vT q8 vJ w pd) H := hP
      have hD : va_D A (gwFF cy a (upd kp (Int32.toNatClampNeg s1) (vp_nar .boolean 1)) vN vT q8 vJ w pd) := hD
      refine lv_iconst (v := 1) hx hb dX3_image_32 (by decide) ?_
      subst hF
      exact ct_iret hM hP hS dX3_image_33
    · have hF := lt_f c6 hF
      have hO := lo_f c6 hO
      refine va_aldq hx hb hK hP 1 2 (C := "FarthestFirst$Village") (n := 2) (cA := cy 2) (f := gImg a) rfl rfl h5 dX3_image_17 ?_
      have c6z := vp_two h5 c6
      refine W.eq (g2 := F0 m 18 ls [.ref (a 4 0)]) (by rw [c6z]; rfl) ?_
      refine lv_aload_n hx hb dX3_image_18 rfl (lv_at hl 0 rfl) ?_
      refine ct_get (C := RX3) (T := TX3) (N := 6) (ci := 3) (v := .ref (a 1 0)) hM hK hP inX3 0 rfl rfl 0 (by decide) wfl_X3_10 rfl dX3_image_19 ?_
      obtain ⟨h10, hO⟩ := hO
      obtain ⟨q11, e12⟩ : ∃ q, fX1_copy vJ vN = q := ⟨_, rfl⟩
      have hF := lt_n e12 hF
      try have hO := lo_n e12 hO
      refine ct_callV (ws' := gwFF cy a kp vN vT vI q11 w pd) hM hK hP hD hS (kX1_copy l D cy (a 4) (a 1) vJ vN h10 e12) kvX1_copy wml_X3_151 [21, 22, 23, 24, 25, 26, 3, 4, 5, 6, 7, 8] rfl (by decide) rfl rfl rfl 21 rfl rfl rfl rfl hl.1 rfl ⟨rfl, rfl, Nat.le_of_ble_eq_true rfl, Nat.le_of_ble_eq_true rfl⟩ (Nat.le_of_ble_eq_true rfl) ⟨Nat.zero_le _, Nat.zero_le _⟩ dX3_image_22 (fun H locs hP hD hS => ?_)
      refine W.eq (g2 := F0 m 25 ls []) rfl ?_
      refine lv_aload_n hx hb dX3_image_25 rfl (lv_at hl 0 rfl) ?_
      refine ct_get (C := RX3) (T := TX3) (N := 6) (ci := 3) (v := .ref (a 0 2)) hM hK hP inX3 0 rfl rfl 3 (by decide) wfl_X3_23 rfl dX3_image_26 ?_
      refine lv_iload_n hx hb dX3_image_29 rfl (lv_at hl 1 rfl) ?_
      refine lv_iconst (v := 1) hx hb dX3_image_30 (by decide) ?_
      refine va_zast hx hb hK hP hD hS 2 1 (f := kp) (n := 2) (cA := cy 1) rfl rfl h5 dX3_image_31 (fun H locs hP hD hS => ?_)
      have hP : va_P D classes (gwFF cy a (upd kp (Int32.toNatClampNeg s1) (vp_nar .boolean 1)) vN vT vI q11 w pd) H := hP
      have hD : va_D A (gwFF cy a (upd kp (Int32.toNatClampNeg s1) (vp_nar .boolean 1)) vN vT vI q11 w pd) := hD
      refine lv_iconst (v := 1) hx hb dX3_image_32 (by decide) ?_
      subst hF
      exact ct_iret hM hP hS dX3_image_33
  · have hF := lt_t c4 hF
    have hO := lo_t c4 hO
    refine lv_bipush (v := (-2)) hx hb dX3_image_9 (by decide) ?_
    subst hF
    exact ct_iret hM hP hS dX3_image_11

abbrev rX3_restore : Room := { frames := 1, cells := 0, slots := 0, locals := 22 }
def fX3_restore (kp : tAr) (vN : tVl) (vI : tVl) (vJ : tVl) (s1 : Int32) : Int32 × tVl := lt_ (fX3_within s1 0 1) fun q2 => if q2 = 0 then ((-2), vN) else (if kp (Int32.toNatClampNeg s1) = 0 then ((-3), vN) else (if s1 = 0 then (lt_ (fX1_copy vN vI) fun q9 => (1, q9)) else (lt_ (fX1_copy vN vJ) fun q12 => (1, q12))))
def oX3_restore (kp : tAr) (vN : tVl) (vI : tVl) (vJ : tVl) (s1 : Int32) : Prop := lo_ (fX3_within s1 0 1) fun q2 => if q2 = 0 then True else (vp_in s1 2 ∧ (if kp (Int32.toNatClampNeg s1) = 0 then True else (if s1 = 0 then (oX1_copy vN vI ∧ True) else (oX1_copy vN vJ ∧ True))))
theorem kvX3_restore : KV yX3_restore cX3_restore 2 (some .int) 1 := ⟨wcd_X3_restore, wim_X3_restore, wsl_X3_restore, win_X3, by decide +kernel, by decide +kernel, by decide +kernel⟩
set_option maxHeartbeats 4000000 in
set_option maxRecDepth 100000 in
theorem kX3_restore (l : Launch) (D : va_G) (cy : Nat → ClassId) (a : Nat → Nat → Nat) (kp : tAr) (vN : tVl) (vT : tVl) (vI : tVl) (vJ : tVl) (w : tWl) (pd : tPd) (s1 : Int32) {R : Int32 × tVl} (hO : oX3_restore kp vN vI vJ s1) (hF : fX3_restore kp vN vI vJ s1 = R) : CT l D cy yX3_restore cX3_restore 2 (some .int) rX3_restore [.ref (a 0 0), .int s1] (gwFF cy a kp vN vT vI vJ w pd) (some (.int R.1)) (gwFF cy a kp R.2 vT vI vJ w pd) := by
  refine ct_of (by decide) (Nat.le_of_ble_eq_true rfl) ?_
  intro p e s m args below meth c A ls hM hK hP hD hS hl
  obtain ⟨hx, hb, -, hml, hown, hts, -⟩ := id hM
  have hl : lv_has ls 2 [(0, .ref (a 0 0)), (1, .int s1)] := hl
  obtain ⟨H, hH⟩ : ∃ H : Heap, H = s.heap := ⟨_, rfl⟩
  obtain ⟨locs, hlocs⟩ : ∃ q : List Loc, q = [] := ⟨_, rfl⟩
  have hP : va_P D classes (gwFF cy a kp vN vT vI vJ w pd) H := by rw [hH]; exact hP
  have hS : va_S A s.heap H locs := by rw [hH, hlocs]; exact hS
  suffices hg : W p l e rX3_restore s m args below meth c H locs 0 0 (MQ below (ctQ D (some (.int R.1)) (gwFF cy a kp R.2 vT vI vJ w pd) A) args s 0 0 A) (F0 m 0 ls []) by rw [hH, hlocs] at hg; exact hg
  clear hH hlocs
  unfold fX3_restore at hF
  unfold oX3_restore at hO
  refine lv_iload_n hx hb dX3_restore_0 rfl (lv_at hl 1 rfl) ?_
  refine lv_iconst (v := 0) hx hb dX3_restore_1 (by decide) ?_
  refine lv_iconst (v := 1) hx hb dX3_restore_2 (by decide) ?_
  obtain ⟨q2, e3⟩ : ∃ q, fX3_within s1 0 1 = q := ⟨_, rfl⟩
  have hF := lt_n e3 hF
  try have hO := lo_n e3 hO
  refine ct_callS hM hK hP hD hS (kX3_within l D cy s1 0 1 trivial e3) kvX3_within wml_X3_41 rfl hl.1 rfl ⟨rfl, rfl, Nat.le_of_ble_eq_true rfl, Nat.le_of_ble_eq_true rfl⟩ (Nat.le_of_ble_eq_true rfl) ⟨Nat.zero_le _, Nat.zero_le _⟩ dX3_restore_3 (fun H locs hP hD hS => ?_)
  refine W.eq (g2 := F0 m 6 ls [.int q2]) rfl ?_
  have hP : va_P D classes (gwFF cy a kp vN vT vI vJ w pd) H := hP
  have hD : va_D A (gwFF cy a kp vN vT vI vJ w pd) := hD
  refine lv_if_ne (tgt := 12) hx hb dX3_restore_6 (by decide) (fun c4 => ?_) (fun c4 => ?_)
  · have hF := lt_f c4 hF
    have hO := lo_f c4 hO
    refine lv_aload_n hx hb dX3_restore_12 rfl (lv_at hl 0 rfl) ?_
    refine ct_get (C := RX3) (T := TX3) (N := 6) (ci := 3) (v := .ref (a 0 2)) hM hK hP inX3 0 rfl rfl 3 (by decide) wfl_X3_23 rfl dX3_restore_13 ?_
    refine lv_iload_n hx hb dX3_restore_16 rfl (lv_at hl 1 rfl) ?_
    obtain ⟨h5, hO⟩ := hO
    refine va_zald hx hb hK hP 2 1 (f := kp) (n := 2) (cA := cy 1) rfl rfl h5 dX3_restore_17 ?_
    refine lv_if_ne (tgt := 24) hx hb dX3_restore_18 (by decide) (fun c6 => ?_) (fun c6 => ?_)
    · have hF := lt_f c6 hF
      have hO := lo_f c6 hO
      refine lv_aload_n hx hb dX3_restore_24 rfl (lv_at hl 0 rfl) ?_
      refine ct_get (C := RX3) (T := TX3) (N := 6) (ci := 3) (v := .ref (a 1 0)) hM hK hP inX3 0 rfl rfl 0 (by decide) wfl_X3_10 rfl dX3_restore_25 ?_
      refine lv_aload_n hx hb dX3_restore_28 rfl (lv_at hl 0 rfl) ?_
      refine ct_get (C := RX3) (T := TX3) (N := 6) (ci := 3) (v := .ref (a 0 1)) hM hK hP inX3 0 rfl rfl 2 (by decide) wfl_X3_19 rfl dX3_restore_29 ?_
      refine lv_iload_n hx hb dX3_restore_32 rfl (lv_at hl 1 rfl) ?_
      by_cases c7 : s1 = 0
      · have hF := lt_t c7 hF
        have hO := lo_t c7 hO
        refine va_aldq hx hb hK hP 1 2 (C := "FarthestFirst$Village") (n := 2) (cA := cy 2) (f := gImg a) rfl rfl h5 dX3_restore_33 ?_
        refine W.eq (g2 := F0 m 34 ls [.ref (a 3 0), .ref (a 1 0)]) (by rw [c7]; rfl) ?_
        obtain ⟨h8, hO⟩ := hO
        obtain ⟨q9, e10⟩ : ∃ q, fX1_copy vN vI = q := ⟨_, rfl⟩
        have hF := lt_n e10 hF
        try have hO := lo_n e10 hO
        refine ct_callV (ws' := gwFF cy a kp q9 vT vI vJ w pd) hM hK hP hD hS (kX1_copy l D cy (a 1) (a 3) vN vI h8 e10) kvX1_copy wml_X3_151 [3, 4, 5, 6, 7, 8, 15, 16, 17, 18, 19, 20] rfl (by decide) rfl rfl rfl 3 rfl rfl rfl rfl hl.1 rfl ⟨rfl, rfl, Nat.le_of_ble_eq_true rfl, Nat.le_of_ble_eq_true rfl⟩ (Nat.le_of_ble_eq_true rfl) ⟨Nat.zero_le _, Nat.zero_le _⟩ dX3_restore_34 (fun H locs hP hD hS => ?_)
        refine W.eq (g2 := F0 m 37 ls []) rfl ?_
        refine lv_iconst (v := 1) hx hb dX3_restore_37 (by decide) ?_
        subst hF
        exact ct_iret hM hP hS dX3_restore_38
      · have hF := lt_f c7 hF
        have hO := lo_f c7 hO
        refine va_aldq hx hb hK hP 1 2 (C := "FarthestFirst$Village") (n := 2) (cA := cy 2) (f := gImg a) rfl rfl h5 dX3_restore_33 ?_
        have c7z := vp_two h5 c7
        refine W.eq (g2 := F0 m 34 ls [.ref (a 4 0), .ref (a 1 0)]) (by rw [c7z]; rfl) ?_
        obtain ⟨h11, hO⟩ := hO
        obtain ⟨q12, e13⟩ : ∃ q, fX1_copy vN vJ = q := ⟨_, rfl⟩
        have hF := lt_n e13 hF
        try have hO := lo_n e13 hO
        refine ct_callV (ws' := gwFF cy a kp q12 vT vI vJ w pd) hM hK hP hD hS (kX1_copy l D cy (a 1) (a 4) vN vJ h11 e13) kvX1_copy wml_X3_151 [3, 4, 5, 6, 7, 8, 21, 22, 23, 24, 25, 26] rfl (by decide) rfl rfl rfl 3 rfl rfl rfl rfl hl.1 rfl ⟨rfl, rfl, Nat.le_of_ble_eq_true rfl, Nat.le_of_ble_eq_true rfl⟩ (Nat.le_of_ble_eq_true rfl) ⟨Nat.zero_le _, Nat.zero_le _⟩ dX3_restore_34 (fun H locs hP hD hS => ?_)
        refine W.eq (g2 := F0 m 37 ls []) rfl ?_
        refine lv_iconst (v := 1) hx hb dX3_restore_37 (by decide) ?_
        subst hF
        exact ct_iret hM hP hS dX3_restore_38
    · have hF := lt_t c6 hF
      have hO := lo_t c6 hO
      refine lv_bipush (v := (-3)) hx hb dX3_restore_21 (by decide) ?_
      subst hF
      exact ct_iret hM hP hS dX3_restore_23
  · have hF := lt_t c4 hF
    have hO := lo_t c4 hO
    refine lv_bipush (v := (-2)) hx hb dX3_restore_9 (by decide) ?_
    subst hF
    exact ct_iret hM hP hS dX3_restore_11

/-! best -/
theorem best_c {P : Nat} (s3 s4 s5 s6 s7 : Int32) (n : Nat) (y : tMs) (hP : P < 8) : fX4_best_64 (nI P) s3 s4 (n + 1) y s5 s6 s7 = (if s3 < s7 then (if s4 = 0 then (s5, y) else (s6, y)) else (if s6 ≤ m_wa (fX4_go (mA y (m_fr y) (upd (m_at y) P s7) (m_bf y) (m_bs y)) (m_co y) 99) P then fX4_best_64 (nI P) s3 s4 n (fX4_go (mA y (m_fr y) (upd (m_at y) P s7) (m_bf y) (m_bs y)) (m_co y) 99) s5 s6 (s7 + 1) else fX4_best_64 (nI P) s3 s4 n (fX4_go (mA y (m_fr y) (upd (m_at y) P s7) (m_bf y) (m_bs y)) (m_co y) 99) s7 (m_wa (fX4_go (mA y (m_fr y) (upd (m_at y) P s7) (m_bf y) (m_bs y)) (m_co y) 99) P) (s7 + 1))) := by
  rw [fX4_best_64]
  simp only [lt_, c8 hP]
  rfl
theorem best_o {P : Nat} (s3 s4 s5 s6 s7 : Int32) (n : Nat) (y : tMs) (hP : P < 8) : oX4_best_64 (nI P) s3 s4 (n + 1) y s5 s6 s7 = (if s3 < s7 then True else (vp_in (nI P) 8 ∧ oX4_go (mA y (m_fr y) (upd (m_at y) P s7) (m_bf y) (m_bs y)) (m_co y) 99 ∧ (if s6 ≤ m_wa (fX4_go (mA y (m_fr y) (upd (m_at y) P s7) (m_bf y) (m_bs y)) (m_co y) 99) P then oX4_best_64 (nI P) s3 s4 n (fX4_go (mA y (m_fr y) (upd (m_at y) P s7) (m_bf y) (m_bs y)) (m_co y) 99) s5 s6 (s7 + 1) else oX4_best_64 (nI P) s3 s4 n (fX4_go (mA y (m_fr y) (upd (m_at y) P s7) (m_bf y) (m_bs y)) (m_co y) 99) s7 (m_wa (fX4_go (mA y (m_fr y) (upd (m_at y) P s7) (m_bf y) (m_bs y)) (m_co y) 99) P) (s7 + 1)))) := by
  rw [oX4_best_64]
  simp only [lo_, c8 hP]
  rfl
theorem best_s {vN vT : tVl} {x y : tMs} {k P : Nat} (w : tWl) (hX : RX vN x) (hco : m_co x = nI k) (hk : k < 256) (hP : P < 8) (hb : k.testBit P = true) {i : Nat} (hi : i ≤ 999) (hV : V1 vT vN P) (hM : M1 x y P) (hfr : m_fr y P = m_mi x P) :
    ∃ c : Int32, fX3_waitIf vT (fX2_run vN w (nI (clr k P))) (nI P) (m_mi x P) (nI i) = (c, setV vT P (m_mi x P) (nI i)) ∧ oX3_waitIf vT (fX2_run vN w (nI (clr k P))) (nI P) (m_mi x P) (nI i) ∧ oX4_go (mA y (m_fr y) (upd (m_at y) P (nI i)) (m_bf y) (m_bs y)) (m_co y) 99 ∧ m_wa (fX4_go (mA y (m_fr y) (upd (m_at y) P (nI i)) (m_bf y) (m_bs y)) (m_co y) 99) P = c ∧ 0 ≤ c.toInt ∧ c.toInt < 1000000000 ∧ M1 x (fX4_go (mA y (m_fr y) (upd (m_at y) P (nI i)) (m_bf y) (m_bs y)) (m_co y) 99) P ∧ m_fr (fX4_go (mA y (m_fr y) (upd (m_at y) P (nI i)) (m_bf y) (m_bs y)) (m_co y) 99) P = m_mi x P := by
  have hM2 : M1 x (mA y (m_fr y) (upd (m_at y) P (nI i)) (m_bf y) (m_bs y)) P := hM.A (fun q _ => rfl) (fun q hq => pk_un hq)
  have mi : (nI i).toInt = (i : Int) := nI_toInt (by omega)
  obtain ⟨b, e1, e2, e3, e4, -, ⟨e6a, e6b, -, -⟩, wa, en, to_, or_, e7⟩ := one w hX hco hk hP hb hV hM2 (m := m_mi x P) (t := nI i) hfr pk_us (by omega) (by omega)
  have hyc : m_co y = nI k := hM.1.base.1.trans hco
  rw [hyc]
  exact ⟨b - nI i, wait_of e1, ⟨e2, trivial⟩, e3, e4, e6a, by omega, by rw [e7]; exact hM2.O _ _ _ _ _, by rw [e7]; exact hfr⟩
theorem best_idle {vN : tVl} {x : tMs} {k P : Nat} (hX : RX vN x) (hco : m_co x = nI k) (hk : k < 256) (hP : P < 8) (hb : k.testBit P = true) {T : Nat} (hT : T ≤ 999) (s4 s5 s6 : Int32) (hs6 : s6.toInt ≤ 0) : ∀ (n i : Nat) (y : tMs), i ≤ T + 1 → T + 1 < i + n → M1 x y P → m_fr y P = m_mi x P →
    (fX4_best_64 (nI P) (nI T) s4 n y s5 s6 (nI i)).1 = (if s4 = 0 then s5 else s6) ∧ oX4_best_64 (nI P) (nI T) s4 n y s5 s6 (nI i) ∧ SB x (fX4_best_64 (nI P) (nI T) s4 n y s5 s6 (nI i)).2
  | 0, i, y, h1, h2, _, _ => by omega
  | n + 1, i, y, h1, h2, hM, hfr => by
    rw [best_c _ s4 s5 s6 _ n y hP, best_o _ s4 s5 s6 _ n y hP]
    by_cases hi : i = T + 1
    · have c1 : nI T < nI i := nI_lt (by omega) (by omega)
      simp only [if_pos c1]
      by_cases c0 : s4 = 0
      · simp only [if_pos c0]; exact ⟨trivial, trivial, hM.1⟩
      · simp only [if_neg c0]; exact ⟨trivial, trivial, hM.1⟩
    · have c1 : ¬ nI T < nI i := nI_nlt (by omega) (by omega)
      have hVV : V1 vN vN P := ⟨rfl, fun _ _ => rfl, fun _ _ => ⟨rfl, rfl, fun _ => ⟨rfl, rfl⟩⟩⟩
      obtain ⟨c, -, -, e3, e4, e5, -, hM3, hfr3⟩ := best_s (vT := vN) ((fun _ => 0), (fun _ => 0), (fun _ => 0), (fun _ => 0), 0, 0, 0, 0, 0, 0) hX hco hk hP hb (show i ≤ 999 by omega) hVV hM hfr
      have c3 : s6 ≤ c := by rw [i_le]; omega
      simp only [if_neg c1, e4, if_pos c3, nI_1]
      generalize fX4_go (mA y (m_fr y) (upd (m_at y) P (nI i)) (m_bf y) (m_bs y)) (m_co y) 99 = Y at *
      have ih := best_idle hX hco hk hP hb hT s4 s5 s6 hs6 n (i + 1) Y (by omega) (by omega) hM3 hfr3
      exact ⟨ih.1, ⟨vin8 hP, e3, ih.2.1⟩, ih.2.2⟩
theorem best_l {vN : tVl} {x : tMs} {k P : Nat} (w : tWl) (hX : RX vN x) (hco : m_co x = nI k) (hk : k < 256) (hP : P < 8) (hb : k.testBit P = true) {T : Nat} (hT : T ≤ 999) (s4 : Int32) : ∀ (n n2 i : Nat) (vT : tVl) (y : tMs) (s5 s6 : Int32), i ≤ T + 1 → T + 1 < i + n → T + 1 < i + n2 → V1 vT vN P → M1 x y P → m_fr y P = m_mi x P →
    (fX3_best_78 vN (fX2_run vN w (nI (clr k P))) (nI P) (nI T) s4 n vT s5 s6 (nI i)).1 = (fX4_best_64 (nI P) (nI T) s4 n2 y s5 s6 (nI i)).1 ∧ oX3_best_78 vN (fX2_run vN w (nI (clr k P))) (nI P) (nI T) s4 n vT s5 s6 (nI i) ∧ oX4_best_64 (nI P) (nI T) s4 n2 y s5 s6 (nI i) ∧ SB x (fX4_best_64 (nI P) (nI T) s4 n2 y s5 s6 (nI i)).2
  | 0, n2, i, vT, y, s5, s6, h1, h2, h3, _, _, _ => by omega
  | n + 1, 0, i, vT, y, s5, s6, h1, h2, h3, _, _, _ => by omega
  | n + 1, n2 + 1, i, vT, y, s5, s6, h1, h2, h3, hV, hM, hfr => by
    obtain ⟨-, t2, -, -, -, -⟩ := mnR hX hP
    by_cases c6 : s6 ≤ 0
    · have hs6 : s6.toInt ≤ 0 := by rw [i_le, show (0 : Int32).toInt = 0 by decide] at c6; exact c6
      obtain ⟨d1, d2, d3⟩ := best_idle hX hco hk hP hb hT s4 s5 s6 hs6 (n2 + 1) i y h1 h3 hM hfr
      refine ⟨?_, ?_, d2, d3⟩
      · rw [d1]
        simp only [fX3_best_78, if_pos c6]
        by_cases c1 : nI T < nI i
        · simp only [if_pos c1]; split <;> rfl
        · simp only [if_neg c1]; split <;> rfl
      · simp only [oX3_best_78, if_pos c6]
        split <;> trivial
    · rw [best_c _ s4 s5 s6 _ n2 y hP, best_o _ s4 s5 s6 _ n2 y hP]
      simp only [fX3_best_78, oX3_best_78, lt_, lo_, c8 hP, t2, if_neg c6]
      by_cases hi : i = T + 1
      · have c1 : nI T < nI i := nI_lt (by omega) (by omega)
        simp only [if_pos c1]
        by_cases c0 : s4 = 0
        · simp only [if_pos c0]; exact ⟨trivial, trivial, trivial, hM.1⟩
        · simp only [if_neg c0]; exact ⟨trivial, trivial, trivial, hM.1⟩
      · have c1 : ¬ nI T < nI i := nI_nlt (by omega) (by omega)
        obtain ⟨c, e1, e2, e3, e4, -, -, hM3, hfr3⟩ := best_s w hX hco hk hP hb (show i ≤ 999 by omega) hV hM hfr
        simp only [if_neg c1, e1, e4, nI_1]
        generalize fX4_go (mA y (m_fr y) (upd (m_at y) P (nI i)) (m_bf y) (m_bs y)) (m_co y) 99 = Y at *
        by_cases c3 : s6 ≤ c
        · have ih := best_l w hX hco hk hP hb hT s4 n n2 (i + 1) (setV vT P (m_mi x P) (nI i)) Y s5 s6 (by omega) (by omega) (by omega) (hV.set _ _) hM3 hfr3
          simp only [if_pos c3]
          exact ⟨ih.1, ⟨vin8 hP, e2, ih.2.1⟩, ⟨vin8 hP, e3, ih.2.2.1⟩, ih.2.2.2⟩
        · have ih := best_l w hX hco hk hP hb hT s4 n n2 (i + 1) (setV vT P (m_mi x P) (nI i)) Y (nI i) c (by omega) (by omega) (by omega) (hV.set _ _) hM3 hfr3
          simp only [if_neg c3]
          exact ⟨ih.1, ⟨vin8 hP, e2, ih.2.1⟩, ⟨vin8 hP, e3, ih.2.2.1⟩, ih.2.2.2⟩
theorem st_best {kp : tAr} {vN vI vJ : tVl} {pd : tPd} {x : tMs} (h : Rel kp vN vI vJ pd x) (vT : tVl) (w : tWl) (s1 s2 s3 s4 : Int32) :
    oX3_best vN vT w s1 s2 s3 s4 ∧ oX4_best x s1 s2 s3 s4 ∧ (fX3_best vN vT w s1 s2 s3 s4).1 = (fX4_best x s1 s2 s3 s4).1 ∧ Rel kp vN vI vJ pd (fX4_best x s1 s2 s3 s4).2 := by
  obtain ⟨⟨⟨k, hk, hco⟩, hdr, hcm, hse, hp⟩, hR⟩ := id h
  have hcm' : v_cm vN = nI k := hcm.trans hco
  obtain ⟨q1, q2⟩ := cm_cases hk hcm' hco s1
  obtain ⟨o1, -, -, -, hl, -, -⟩ := scN h.1
  have hm1 := fun P => m1N h.1 P
  have hin : fX4_in (Int32.toInt64 s2) 0 999 = fX3_within s2 0 999 := in_n s2 (by decide) (by decide)
  have hin2 : fX4_in (Int32.toInt64 s3) (Int32.toInt64 s2) 999 = fX3_within s3 s2 999 := in_n s3 rfl (by decide)
  have hin3 : fX4_in (Int32.toInt64 s4) 0 1 = fX3_within s4 0 1 := in_n s4 (by decide) (by decide)
  unfold oX3_best oX4_best fX3_best fX4_best
  simp only [lt_e, lo_e, hin, hin2, hin3]
  generalize fX4_layNow x = y at *
  rcases q2 with ⟨a, b⟩ | ⟨P, hP, rfl, hb, a, b⟩
  · simp only [a, b, if_true]
    exact ⟨trivial, ⟨q1, trivial⟩, trivial, h⟩
  · simp only [a, b, if_neg i10]
    rcases wi s2 0 999 with ⟨w1, -⟩ | ⟨w1, a1, b1⟩
    · simp only [w1, if_true]
      exact ⟨trivial, ⟨q1, trivial⟩, trivial, h⟩
    · simp only [w1, if_neg i10]
      rcases wi s3 s2 999 with ⟨w2, -⟩ | ⟨w2, a2, b2⟩
      · simp only [w2, if_true]
        exact ⟨trivial, ⟨q1, trivial⟩, trivial, h⟩
      · simp only [w2, if_neg i10]
        rcases wi s4 0 1 with ⟨w3, -⟩ | ⟨w3, a3, b3⟩
        · simp only [w3, if_true]
          exact ⟨trivial, ⟨q1, trivial⟩, trivial, h⟩
        · have m0 : (0 : Int32).toInt = 0 := by decide
          have m999 : (999 : Int32).toInt = 999 := by decide
          obtain ⟨F, hF, rfl⟩ := as_n (a := s2) (n := 999) (by omega) (by omega) (by decide)
          obtain ⟨T, hT, rfl⟩ := as_n (a := s3) (n := 999) (by omega) (by omega) (by decide)
          have hFT : F ≤ T := by
            rw [nI_toInt (by omega), nI_toInt (by omega)] at a2
            omega
          obtain ⟨-, t2, -, -, -, -⟩ := mnR h.1 hP
          obtain ⟨l1, l2, l3⟩ := leave_eq (vT := vT) (ok6R h.1) w hk hP hcm' (caR h.1)
          obtain ⟨c, e1, e2, e3, e4, -, e6, hM3, hfr3⟩ := best_s w h.1 hco hk hP hb hF l3 (hm1 P) (hl P hP).1
          have g0 : ¬ nI T < nI F := nI_nlt hFT (by omega)
          have lp := best_l w h.1 hco hk hP hb hT s4 1001 1000 (F + 1) (setV (fX1_copy vT vN) P (m_mi x P) (nI F)) _ (nI F) c (by omega) (by omega) (by omega) (l3.set _ _) hM3 hfr3
          have bc := best_c (nI T) s4 (-6) 1000000000 (nI F) 1000 y hP
          have bo := best_o (nI T) s4 (-6) 1000000000 (nI F) 1000 y hP
          simp only [if_neg g0, e4, if_neg (far_le e6), nI_1] at bc bo
          simp only [w3, if_neg i10, l1, c8 hP, t2, e1, nI_1]
          rw [bc, bo]
          exact ⟨⟨l2, vin8 hP, e2, lp.2.1⟩, ⟨q1, o1, vin8 hP, e3, lp.2.2.1⟩, lp.1, h.sb lp.2.2.2⟩
/-! walk -/
def wkM (mi more : Int32) : Int32 := if mi + more ≤ 99 then mi + more else 99
theorem walk_c {P : Nat} (s2 s3 s4 s5 s6 : Int32) (n : Nat) (y : tMs) (hP : P < 8) : fX4_walk_50 (nI P) s2 s3 (n + 1) y s4 s5 s6 = (if 10 ≤ s6 then (if s3 = 0 then (s4, y) else (s5, y)) else (if s5 ≤ m_en (fX4_go (mA y (upd (m_fr y) P (wkM (m_mi y P) s6)) (upd (m_at y) P (m_mn y P + s2 * s6)) (m_bf y) (m_bs y)) (m_co y) 99) P then fX4_walk_50 (nI P) s2 s3 n (fX4_go (mA y (upd (m_fr y) P (wkM (m_mi y P) s6)) (upd (m_at y) P (m_mn y P + s2 * s6)) (m_bf y) (m_bs y)) (m_co y) 99) s4 s5 (s6 + 1) else fX4_walk_50 (nI P) s2 s3 n (fX4_go (mA y (upd (m_fr y) P (wkM (m_mi y P) s6)) (upd (m_at y) P (m_mn y P + s2 * s6)) (m_bf y) (m_bs y)) (m_co y) 99) s6 (m_en (fX4_go (mA y (upd (m_fr y) P (wkM (m_mi y P) s6)) (upd (m_at y) P (m_mn y P + s2 * s6)) (m_bf y) (m_bs y)) (m_co y) 99) P) (s6 + 1))) := by
  rw [fX4_walk_50]
  simp only [lt_, c8 hP]
  by_cases c0 : 10 ≤ s6
  · simp only [if_pos c0]
  · simp only [if_neg c0]
    by_cases c1 : m_mi y P + s6 ≤ 99
    · have e : wkM (m_mi y P) s6 = m_mi y P + s6 := if_pos c1
      rw [if_pos c1, e]
      rfl
    · have e : wkM (m_mi y P) s6 = 99 := if_neg c1
      rw [if_neg c1, e]
      rfl
theorem walk_o {P : Nat} (s2 s3 s4 s5 s6 : Int32) (n : Nat) (y : tMs) (hP : P < 8) : oX4_walk_50 (nI P) s2 s3 (n + 1) y s4 s5 s6 = (if 10 ≤ s6 then True else (vp_in (nI P) 8 ∧ oX4_go (mA y (upd (m_fr y) P (wkM (m_mi y P) s6)) (upd (m_at y) P (m_mn y P + s2 * s6)) (m_bf y) (m_bs y)) (m_co y) 99 ∧ (if s5 ≤ m_en (fX4_go (mA y (upd (m_fr y) P (wkM (m_mi y P) s6)) (upd (m_at y) P (m_mn y P + s2 * s6)) (m_bf y) (m_bs y)) (m_co y) 99) P then oX4_walk_50 (nI P) s2 s3 n (fX4_go (mA y (upd (m_fr y) P (wkM (m_mi y P) s6)) (upd (m_at y) P (m_mn y P + s2 * s6)) (m_bf y) (m_bs y)) (m_co y) 99) s4 s5 (s6 + 1) else oX4_walk_50 (nI P) s2 s3 n (fX4_go (mA y (upd (m_fr y) P (wkM (m_mi y P) s6)) (upd (m_at y) P (m_mn y P + s2 * s6)) (m_bf y) (m_bs y)) (m_co y) 99) s6 (m_en (fX4_go (mA y (upd (m_fr y) P (wkM (m_mi y P) s6)) (upd (m_at y) P (m_mn y P + s2 * s6)) (m_bf y) (m_bs y)) (m_co y) 99) P) (s6 + 1)))) := by
  rw [oX4_walk_50]
  simp only [lo_, c8 hP]
  by_cases c0 : 10 ≤ s6
  · simp only [if_pos c0]
  · simp only [if_neg c0]
    by_cases c1 : m_mi y P + s6 ≤ 99
    · have e : wkM (m_mi y P) s6 = m_mi y P + s6 := if_pos c1
      rw [if_pos c1, e]
      rfl
    · have e : wkM (m_mi y P) s6 = 99 := if_neg c1
      rw [if_neg c1, e]
      rfl
theorem walk_s {vN vT : tVl} {x y : tMs} {k P : Nat} (w : tWl) (hX : RX vN x) (hco : m_co x = nI k) (hk : k < 256) (hP : P < 8) (hb : k.testBit P = true) (s2 : Int32) (hs0 : 0 ≤ s2.toInt) (hs1 : s2.toInt ≤ 60) {i : Nat} (hi : i < 10) (hV : V1 vT vN P) (hM : M1 x y P) :
    ∃ c : Int32, ∃ vT2 : tVl, fX3_endIfWalked vN vT (fX2_run vN w (nI (clr k P))) (nI P) (nI i) s2 = (c, vT2) ∧ V1 vT2 vN P ∧ oX3_endIfWalked vN vT (fX2_run vN w (nI (clr k P))) (nI P) (nI i) s2 ∧ oX4_go (mA y (upd (m_fr y) P (wkM (m_mi y P) (nI i))) (upd (m_at y) P (m_mn y P + s2 * nI i)) (m_bf y) (m_bs y)) (m_co y) 99 ∧ m_en (fX4_go (mA y (upd (m_fr y) P (wkM (m_mi y P) (nI i))) (upd (m_at y) P (m_mn y P + s2 * nI i)) (m_bf y) (m_bs y)) (m_co y) 99) P = c ∧ c.toInt < 1000000000 ∧ M1 x (fX4_go (mA y (upd (m_fr y) P (wkM (m_mi y P) (nI i))) (upd (m_at y) P (m_mn y P + s2 * nI i)) (m_bf y) (m_bs y)) (m_co y) 99) P := by
  obtain ⟨t1, t2, t3, t4, t5, t6⟩ := mnR hX hP
  obtain ⟨b1, b2, b3, -⟩ := hM.1.base
  have hM2 : M1 x (mA y (upd (m_fr y) P (wkM (m_mi y P) (nI i))) (upd (m_at y) P (m_mn y P + s2 * nI i)) (m_bf y) (m_bs y)) P := hM.A (fun q hq => pk_un hq) (fun q hq => pk_un hq)
  have mi : (nI i).toInt = (i : Int) := nI_toInt (by omega)
  have d2 : 0 ≤ s2.toInt * (nI i).toInt := Int.mul_nonneg hs0 (by omega)
  have d3 : s2.toInt * (nI i).toInt ≤ 60 * 9 := Int.mul_le_mul hs1 (by omega) (by omega) (by decide)
  have d4 : (s2 * nI i).toInt = s2.toInt * (nI i).toInt := ib_mul (by omega) (by omega)
  have d5 : (m_mn x P + s2 * nI i).toInt = (m_mn x P).toInt + (s2 * nI i).toInt := ib_add (by omega) (by omega)
  rw [b2, b3] at hM2 ⊢
  obtain ⟨b, e1, e2, e3, -, e5, ⟨-, -, e6c, e6d⟩, wa, en, to_, or_, e7⟩ := one w hX hco hk hP hb hV hM2 (m := wkM (m_mi x P) (nI i)) (t := m_mn x P + s2 * nI i) pk_us pk_us (by omega) (by omega)
  have hyc : m_co y = nI k := b1.trans hco
  have hm : (if m_mi x P + nI i < 99 then m_mi x P + nI i else 99) = wkM (m_mi x P) (nI i) := by
    unfold wkM
    have m99 : (99 : Int32).toInt = 99 := by decide
    by_cases c1 : m_mi x P + nI i < 99
    · rw [if_pos c1, if_pos (by rw [i_le]; rw [i_lt] at c1; omega)]
    · rw [if_neg c1]
      rw [i_lt] at c1
      by_cases c2 : m_mi x P + nI i ≤ 99
      · rw [if_pos c2, ← Int32.toInt_inj]
        rw [i_le] at c2
        omega
      · rw [if_neg c2]
  have hmul : nI i * s2 = s2 * nI i := Int32.mul_comm _ _
  rw [hyc]
  refine ⟨b + fX1_timeToDraw vN (nI P), setV vT P (wkM (m_mi x P) (nI i)) (m_mn x P + s2 * nI i), ?_, hV.set _ _, ?_, e3, e5, by omega, by rw [e7]; exact hM2.O _ _ _ _ _⟩
  · unfold fX3_endIfWalked
    simp only [lt_e, c8 hP, t1, t2, hm, hmul, e1]
  · unfold oX3_endIfWalked
    simp only [lo_e, c8 hP, t1, t2, hm, hmul]
    exact ⟨vin8 hP, e2, ⟨vin8 hP, trivial⟩, trivial⟩
theorem walk_l {vN : tVl} {x : tMs} {k P : Nat} (w : tWl) (hX : RX vN x) (hco : m_co x = nI k) (hk : k < 256) (hP : P < 8) (hb : k.testBit P = true) (s2 s3 : Int32) (hs0 : 0 ≤ s2.toInt) (hs1 : s2.toInt ≤ 60) : ∀ (n n2 i : Nat) (vT : tVl) (y : tMs) (s4 s5 : Int32), i ≤ 10 → 10 < i + n → 10 < i + n2 → V1 vT vN P → M1 x y P →
    (fX3_walk_55 vN (fX2_run vN w (nI (clr k P))) (nI P) s2 s3 n vT s4 s5 (nI i)).1 = (fX4_walk_50 (nI P) s2 s3 n2 y s4 s5 (nI i)).1 ∧ oX3_walk_55 vN (fX2_run vN w (nI (clr k P))) (nI P) s2 s3 n vT s4 s5 (nI i) ∧ oX4_walk_50 (nI P) s2 s3 n2 y s4 s5 (nI i) ∧ SB x (fX4_walk_50 (nI P) s2 s3 n2 y s4 s5 (nI i)).2
  | 0, n2, i, vT, y, s4, s5, h1, h2, h3, _, _ => by omega
  | n + 1, 0, i, vT, y, s4, s5, h1, h2, h3, _, _ => by omega
  | n + 1, n2 + 1, i, vT, y, s4, s5, h1, h2, h3, hV, hM => by
    have g9 := iN (c := 9) (n := 9) (by decide) (show i < 2 ^ 31 by omega)
    have g10 := iN (c := 10) (n := 10) (by decide) (show i < 2 ^ 31 by omega)
    rw [walk_c s2 s3 s4 s5 _ n2 y hP, walk_o s2 s3 s4 s5 _ n2 y hP]
    simp only [fX3_walk_55, oX3_walk_55, lt_e, lo_e]
    by_cases hi : i = 10
    · have c1 : (9 : Int32) < nI i := g9.2.1.mpr (by omega)
      have c2 : (10 : Int32) ≤ nI i := g10.1.mpr (by omega)
      simp only [if_pos c1, if_pos c2]
      by_cases c0 : s3 = 0
      · simp only [if_pos c0]; exact ⟨trivial, trivial, trivial, hM.1⟩
      · simp only [if_neg c0]; exact ⟨trivial, trivial, trivial, hM.1⟩
    · have c1 : ¬ (9 : Int32) < nI i := fun z => by have := g9.2.1.mp z; omega
      have c2 : ¬ (10 : Int32) ≤ nI i := fun z => by have := g10.1.mp z; omega
      obtain ⟨c, vT2, e1, hV2, e2, e3, e4, -, hM3⟩ := walk_s w hX hco hk hP hb s2 hs0 hs1 (show i < 10 by omega) hV hM
      simp only [if_neg c1, if_neg c2, e1, e4, nI_1]
      generalize fX4_go (mA y (upd (m_fr y) P (wkM (m_mi y P) (nI i))) (upd (m_at y) P (m_mn y P + s2 * nI i)) (m_bf y) (m_bs y)) (m_co y) 99 = Y at *
      by_cases c3 : s5 ≤ c
      · have ih := walk_l w hX hco hk hP hb s2 s3 hs0 hs1 n n2 (i + 1) vT2 Y s4 s5 (by omega) (by omega) (by omega) hV2 hM3
        simp only [if_pos c3]
        exact ⟨ih.1, ⟨e2, ih.2.1⟩, ⟨vin8 hP, e3, ih.2.2.1⟩, ih.2.2.2⟩
      · have ih := walk_l w hX hco hk hP hb s2 s3 hs0 hs1 n n2 (i + 1) vT2 Y (nI i) c (by omega) (by omega) (by omega) hV2 hM3
        simp only [if_neg c3]
        exact ⟨ih.1, ⟨e2, ih.2.1⟩, ⟨vin8 hP, e3, ih.2.2.1⟩, ih.2.2.2⟩
theorem st_walk {kp : tAr} {vN vI vJ : tVl} {pd : tPd} {x : tMs} (h : Rel kp vN vI vJ pd x) (vT : tVl) (w : tWl) (s1 s2 s3 : Int32) :
    oX3_walk vN vT w s1 s2 s3 ∧ oX4_walk x s1 s2 s3 ∧ (fX3_walk vN vT w s1 s2 s3).1 = (fX4_walk x s1 s2 s3).1 ∧ Rel kp vN vI vJ pd (fX4_walk x s1 s2 s3).2 := by
  obtain ⟨⟨⟨k, hk, hco⟩, hdr, hcm, hse, hp⟩, hR⟩ := id h
  have hcm' : v_cm vN = nI k := hcm.trans hco
  obtain ⟨q1, q2⟩ := cm_cases hk hcm' hco s1
  obtain ⟨o1, -, -, -, hl, -, -⟩ := scN h.1
  have hm1 := fun P => m1N h.1 P
  have hin : fX4_in (Int32.toInt64 s2) 1 60 = fX3_within s2 1 60 := in_n s2 (by decide) (by decide)
  have hin2 : fX4_in (Int32.toInt64 s3) 0 1 = fX3_within s3 0 1 := in_n s3 (by decide) (by decide)
  unfold oX3_walk oX4_walk fX3_walk fX4_walk
  simp only [lt_e, lo_e, hin, hin2]
  generalize fX4_layNow x = y at *
  rcases q2 with ⟨a, b⟩ | ⟨P, hP, rfl, hb, a, b⟩
  · simp only [a, b, if_true]
    exact ⟨trivial, ⟨q1, trivial⟩, trivial, h⟩
  · simp only [a, b, if_neg i10]
    rcases wi s2 1 60 with ⟨w1, -⟩ | ⟨w1, a1, b1⟩
    · simp only [w1, if_true]
      exact ⟨trivial, ⟨q1, trivial⟩, trivial, h⟩
    · simp only [w1, if_neg i10]
      rcases wi s3 0 1 with ⟨w2, -⟩ | ⟨w2, a2, b2⟩
      · simp only [w2, if_true]
        exact ⟨trivial, ⟨q1, trivial⟩, trivial, h⟩
      · have hs0 : 0 ≤ s2.toInt := by rw [show (1 : Int32).toInt = 1 by decide] at a1; omega
        have hs1 : s2.toInt ≤ 60 := by rw [show (60 : Int32).toInt = 60 by decide] at b1; exact b1
        obtain ⟨l1, l2, l3⟩ := leave_eq (vT := vT) (ok6R h.1) w hk hP hcm' (caR h.1)
        obtain ⟨c, vT2, e1, hV2, e2, e3, e4, e5, hM3⟩ := walk_s w h.1 hco hk hP hb s2 hs0 hs1 (show 0 < 10 by omega) l3 (hm1 P)
        have g0 : ¬ (10 : Int32) ≤ 0 := by decide
        have lp := walk_l w h.1 hco hk hP hb s2 s3 hs0 hs1 10 10 1 vT2 _ 0 c (by omega) (by omega) (by omega) hV2 hM3
        have bc := walk_c s2 s3 (-6) 1000000000 0 10 y hP
        have bo := walk_o s2 s3 (-6) 1000000000 0 10 y hP
        rw [nI_0] at e1 e2 e3 e4 lp hM3
        simp only [if_neg g0, e4, if_neg (far_le e5)] at bc bo
        rw [show (0 : Int32) + 1 = nI 1 by decide] at bc bo
        simp only [w2, if_neg i10, l1, e1]
        rw [bc, bo, show (1 : Int32) = nI 1 from rfl]
        exact ⟨⟨l2, e2, lp.2.1⟩, ⟨q1, o1, vin8 hP, e3, lp.2.2.1⟩, lp.1, h.sb lp.2.2.2⟩

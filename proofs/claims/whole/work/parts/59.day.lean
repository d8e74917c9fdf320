/-! a day by a seed -/
theorem dy_c {X : Nat} (h : X ≤ 65536) : ((75 * nI X) + 74) - (((75 * nI X) + 74) / 65537) * 65537 = nI ((75 * X + 74) % 65537) := by
  have e : (75 * nI X) + 74 = nI (75 * X + 74) := by
    rw [show (75 : Int32) = nI 75 from rfl, show (74 : Int32) = nI 74 from rfl, pk_mul, nI_add]
  rw [e, show (65537 : Int32) = nI 65537 from rfl, pk_rem (by omega) (by decide) (by decide)]
theorem dy_m {X : Nat} (h : X ≤ 65536) : Int64.toInt32 (((75 * (Int32.toInt64 (nI X))) + 74) - (((75 * (Int32.toInt64 (nI X))) + 74) / 65537) * 65537) = nI ((75 * X + 74) % 65537) := by
  have e : (75 * Int32.toInt64 (nI X)) + 74 = lN (75 * X + 74) := by
    rw [nI_l (by omega), show (75 : Int64) = lN 75 from rfl, show (74 : Int64) = lN 74 from rfl, lN_mul, lN_add]
  rw [e, show (65537 : Int64) = lN 65537 from rfl, pk_lRem (by omega) (by decide) (by decide), lN_i]
theorem dy_r {D : Nat} (h : D < 65537) : nI D - (nI D / 600) * 600 = nI (D % 600) := by
  rw [show (600 : Int32) = nI 600 from rfl, pk_rem (by omega) (by decide) (by decide)]
def mnV (vT : tVl) (p : Nat) (t : Int32) : tVl := (v_mi vT, upd (v_mn vT) p t, v_pa vT, v_ca vT, v_se vT, v_cm vT)
theorem day_c (s2 s3 : Int32) (n : Nat) (y : tMs) {p : Nat} (hp : p < 8) : fX4_day_34 s2 (n + 1) y s3 (nI p) = (if 8 ≤ nI p then lt_ (fX4_go y (m_co y) 99) (fun q14 => if s2 = 0 then lt_ (fX4_worstOf q14 (m_co q14)) (fun q => (q, q14)) else lt_ (fX4_sumOf q14 (m_co q14)) (fun q => (q, q14))) else lt_ (fX4_comes y (nI p)) (fun q24 => if q24 = 0 then fX4_day_34 s2 n y s3 (nI p + 1) else lt_ (Int64.toInt32 (((75 * (Int32.toInt64 s3)) + 74) - (((75 * (Int32.toInt64 s3)) + 74) / 65537) * 65537)) (fun x29 => lt_ (x29 - (x29 / 600) * 600) (fun x31 => fX4_day_34 s2 n (mA y (m_fr y) (upd (m_at y) p x31) (m_bf y) (m_bs y)) x29 (nI p + 1))))) := by
  rw [fX4_day_34]
  simp only [lt_e, c8 hp]
  rfl
theorem day_o (s2 s3 : Int32) (n : Nat) (y : tMs) {p : Nat} (hp : p < 8) : oX4_day_34 s2 (n + 1) y s3 (nI p) = (if 8 ≤ nI p then (oX4_go y (m_co y) 99 ∧ (lo_ (fX4_go y (m_co y) 99) fun q14 => if s2 = 0 then (oX4_worstOf q14 (m_co q14) ∧ True) else (oX4_sumOf q14 (m_co q14) ∧ True))) else (oX4_comes y (nI p) ∧ (lo_ (fX4_comes y (nI p)) fun q24 => if q24 = 0 then oX4_day_34 s2 n y s3 (nI p + 1) else (lo_ (Int64.toInt32 (((75 * (Int32.toInt64 s3)) + 74) - (((75 * (Int32.toInt64 s3)) + 74) / 65537) * 65537)) fun x29 => lo_ (x29 - (x29 / 600) * 600) fun x31 => vp_in (nI p) 8 ∧ oX4_day_34 s2 n (mA y (m_fr y) (upd (m_at y) p x31) (m_bf y) (m_bs y)) x29 (nI p + 1))))) := by
  rw [oX4_day_34]
  simp only [lo_e, c8 hp]
  rfl
theorem day_8 (s2 s3 : Int32) (n : Nat) (y : tMs) : fX4_day_34 s2 (n + 1) y s3 (nI 8) = lt_ (fX4_go y (m_co y) 99) (fun q14 => if s2 = 0 then (fX4_worstOf q14 (m_co q14), q14) else (fX4_sumOf q14 (m_co q14), q14)) := by
  have g : (8 : Int32) ≤ nI 8 := by decide
  rw [fX4_day_34]
  simp only [lt_e, if_pos g]
theorem day_8o (s2 s3 : Int32) (n : Nat) (y : tMs) : oX4_day_34 s2 (n + 1) y s3 (nI 8) = (oX4_go y (m_co y) 99 ∧ (lo_ (fX4_go y (m_co y) 99) fun q14 => if s2 = 0 then (oX4_worstOf q14 (m_co q14) ∧ True) else (oX4_sumOf q14 (m_co q14) ∧ True))) := by
  have g : (8 : Int32) ≤ nI 8 := by decide
  rw [oX4_day_34]
  simp only [lo_e, if_pos g]
theorem day_l {vN : tVl} {x : tMs} {k : Nat} (hk : k < 256) (hco : m_co x = nI k) (hcm : v_cm vN = nI k) (s2 : Int32) : ∀ (n p X : Nat) (vT : tVl) (w : tWl) (y : tMs), p ≤ 8 → 8 < p + n → X ≤ 65536 → Sc vT y → v_cm vT = nI k → SB x y →
    (fX3_day_39 vN s2 n vT w (nI X) (nI p)).1 = (fX4_day_34 s2 n y (nI X) (nI p)).1 ∧ oX3_day_39 vN s2 n vT w (nI X) (nI p) ∧ oX4_day_34 s2 n y (nI X) (nI p) ∧ SB x (fX4_day_34 s2 n y (nI X) (nI p)).2
  | 0, p, X, vT, w, y, h1, h2, _, _, _, _ => by omega
  | n + 1, p, X, vT, w, y, h1, h2, hX, hS, hc, hB => by
    have hyc : m_co y = nI k := hB.base.1.trans hco
    by_cases h8 : p = 8
    · subst h8
      have g : (8 : Int32) ≤ nI 8 := by decide
      obtain ⟨r1, r2, -, -, -, -, -, -, r9, r10, -, ⟨wa, en, to_, or_, r12⟩, -⟩ := runs w hk hS
      rw [day_8, day_8o]
      simp only [fX3_day_39, oX3_day_39, lt_e, lo_e, if_pos g, hc, hyc]
      clear hS
      generalize fX2_run vT w (nI k) = Wr at *
      generalize fX4_go y (nI k) 99 = Y at *
      have hsb : SB y Y := by rw [r12]; exact SB.O _ _ _ _ _ _
      have hYc : m_co Y = nI k := hsb.base.1.trans hyc
      obtain ⟨e1, e2⟩ := worst_eq Y hk
      obtain ⟨e3, e4⟩ := sum_eq Y hk
      rw [hYc]
      by_cases c0 : s2 = 0
      · simp only [if_pos c0]
        exact ⟨r9.trans e1.symm, ⟨r1, trivial⟩, ⟨r2, e2, trivial⟩, hB.tr hsb⟩
      · simp only [if_neg c0]
        exact ⟨r10.trans e3.symm, ⟨r1, trivial⟩, ⟨r2, e4, trivial⟩, hB.tr hsb⟩
    · have hp : p < 8 := by omega
      have g : ¬ (8 : Int32) ≤ nI p := fun h => h8 ((ge8 h1).mp h)
      obtain ⟨e1, e2⟩ := cm_m hk hp hyc
      rw [day_c _ _ _ _ hp, day_o _ _ _ _ hp]
      by_cases hb : k.testBit p = true
      · have hD : (75 * X + 74) % 65537 < 65537 := Nat.mod_lt _ (by decide)
        have hset : (v_mi vT, upd (v_mn vT) p (nI ((75 * X + 74) % 65537 % 600)), v_pa vT, v_ca vT, v_se vT, v_cm vT) = mnV vT p (nI ((75 * X + 74) % 65537 % 600)) := rfl
        simp only [fX3_day_39, oX3_day_39, lt_e, lo_e, if_neg g, cm_n hk hp hcm, e1, if_pos hb, if_neg i10, c8 hp, dy_c hX, dy_m hX, dy_r hD, nI_1, hset]
        generalize hDe : (75 * X + 74) % 65537 = D at *
        have hr : D % 600 < 600 := Nat.mod_lt _ (by decide)
        have hS2 : Sc (mnV vT p (nI (D % 600))) (mA y (m_fr y) (upd (m_at y) p (nI (D % 600))) (m_bf y) (m_bs y)) := by
          obtain ⟨s1, s2, s3⟩ := hS
          refine ⟨s1, s2, fun q hq => ?_⟩
          obtain ⟨⟨t1, t2, t3, t4⟩, t5, t6⟩ := s3 q hq
          have hu : v_mn (mnV vT p (nI (D % 600))) q = m_at (mA y (m_fr y) (upd (m_at y) p (nI (D % 600))) (m_bf y) (m_bs y)) q ∧ 0 ≤ (m_at (mA y (m_fr y) (upd (m_at y) p (nI (D % 600))) (m_bf y) (m_bs y)) q).toInt ∧ (m_at (mA y (m_fr y) (upd (m_at y) p (nI (D % 600))) (m_bf y) (m_bs y)) q).toInt ≤ 2000 := by
            show upd (v_mn vT) p (nI (D % 600)) q = upd (m_at y) p (nI (D % 600)) q ∧ 0 ≤ (upd (m_at y) p (nI (D % 600)) q).toInt ∧ (upd (m_at y) p (nI (D % 600)) q).toInt ≤ 2000
            simp only [upd_case]
            by_cases hqp : q = p
            · simp only [if_pos hqp]
              rw [nI_toInt (by omega)]
              exact ⟨trivial, by omega, by omega⟩
            · simp only [if_neg hqp]
              exact ⟨t2, t5⟩
          exact ⟨⟨t1, hu.1, t3, t4⟩, hu.2, t6⟩
        have ih := day_l hk hco hcm s2 n (p + 1) D (mnV vT p (nI (D % 600))) w _ (by omega) (by omega) (by omega) hS2 hc (hB.tr (SB.A y _ _ _ _))
        exact ⟨ih.1, ⟨vin8 hp, ih.2.1⟩, ⟨e2, vin8 hp, ih.2.2.1⟩, ih.2.2.2⟩
      · have ih := day_l hk hco hcm s2 n (p + 1) X vT w y (by omega) (by omega) hX hS hc hB
        simp only [fX3_day_39, oX3_day_39, lt_e, lo_e, if_neg g, cm_n hk hp hcm, e1, if_neg hb, if_true, nI_1]
        exact ⟨ih.1, ih.2.1, ⟨e2, ih.2.2.1⟩, ih.2.2.2⟩
theorem st_day {kp : tAr} {vN vI vJ : tVl} {pd : tPd} {x : tMs} (h : Rel kp vN vI vJ pd x) (vT : tVl) (w : tWl) (s1 s2 : Int32) :
    oX3_day vN vT w s1 s2 ∧ oX4_day x s1 s2 ∧ (fX3_day vN vT w s1 s2).1 = (fX4_day x s1 s2).1 ∧ Rel kp vN vI vJ pd (fX4_day x s1 s2).2 := by
  obtain ⟨⟨⟨k, hk, hco⟩, hdr, hcm, hse, hp⟩, hR⟩ := id h
  have hcm' : v_cm vN = nI k := hcm.trans hco
  have hin : fX4_in (Int32.toInt64 s1) 0 9999 = fX3_within s1 0 9999 := in_n s1 (by decide) (by decide)
  have hin2 : fX4_in (Int32.toInt64 s2) 0 1 = fX3_within s2 0 1 := in_n s2 (by decide) (by decide)
  obtain ⟨o1, hS, hB, hc, -, -, -⟩ := scN h.1
  obtain ⟨c1, c2⟩ := copy_eq vT vN (caR h.1)
  have hS2 : Sc (fX1_copy vT vN) (fX4_layNow x) := by
    obtain ⟨a1, ⟨a2, a3, a4, a5⟩, a6⟩ := hS
    refine ⟨a1, ⟨(c2.2.1 0 (by decide)).trans a2, (c2.2.1 1 (by decide)).trans a3, (c2.2.1 2 (by decide)).trans a4, (c2.2.1 3 (by decide)).trans a5⟩, fun q hq => ?_⟩
    obtain ⟨⟨t1, t2, t3, t4⟩, t5⟩ := a6 q hq
    obtain ⟨v1, v2, v3, v4⟩ := c2.2.2 q hq
    exact ⟨⟨v1.trans t1, v2.trans t2, v3.trans t3, v4.trans t4⟩, t5⟩
  have hcc : v_cm (fX1_copy vT vN) = nI k := c2.1.trans hcm'
  unfold oX3_day oX4_day fX3_day fX4_day
  simp only [lt_e, lo_e, hin, hin2]
  clear hS c2
  generalize fX4_layNow x = y at *
  generalize fX1_copy vT vN = vT2 at *
  rcases wi s1 0 9999 with ⟨w1, -⟩ | ⟨w1, a1, b1⟩
  · simp only [w1, if_true]
    exact ⟨trivial, trivial, trivial, h⟩
  · simp only [w1, if_neg i10]
    rcases wi s2 0 1 with ⟨w2, -⟩ | ⟨w2, a2, b2⟩
    · simp only [w2, if_true]
      exact ⟨trivial, trivial, trivial, h⟩
    · simp only [w2, if_neg i10]
      have m0 : (0 : Int32).toInt = 0 := by decide
      have m9 : (9999 : Int32).toInt = 9999 := by decide
      obtain ⟨X, hX, rfl⟩ := as_n (a := s1) (n := 9999) (by omega) (by omega) (by decide)
      have lp := day_l hk hco hcm' s2 9 0 X vT2 w y (by omega) (by omega) (by omega) hS2 hcc hB
      rw [nI_0] at lp
      exact ⟨⟨c1, lp.2.1⟩, ⟨o1, lp.2.2.1⟩, lp.1, h.sb lp.2.2.2⟩

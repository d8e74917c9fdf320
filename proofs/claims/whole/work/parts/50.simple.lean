/-! people, settings, pad: both sides answer alike -/
section Simple
variable {kp : tAr} {vN vI vJ : tVl} {pd : tPd} {x : tMs}
theorem upd_case {f : Nat → Int32} {p q : Nat} {a : Int32} : upd f p a q = if q = p then a else f q := rfl
theorem nz0 : vp_nar .boolean 0 = 0 := by decide
theorem nz1 : vp_nar .boolean 1 = 1 := by decide
theorem st_come (h : Rel kp vN vI vJ pd x) (s1 s2 s3 s4 s5 : Int32) (h5 : s5 = 0 ∨ s5 = 1) :
    oX3_come vN s1 s2 s3 s4 s5 ∧ oX4_come x s1 s2 s3 s4 s5 ∧ (fX3_come vN s1 s2 s3 s4 s5).1 = (fX4_come x s1 s2 s3 s4 s5).1 ∧ Rel kp (fX3_come vN s1 s2 s3 s4 s5).2 vI vJ pd (fX4_come x s1 s2 s3 s4 s5).2 := by
  obtain ⟨⟨⟨k, hk, hco⟩, hdr, hcm, hse, hp⟩, hR⟩ := id h
  have hcm' : v_cm vN = nI k := hcm.trans hco
  have e2 : fX4_in (Int32.toInt64 s2) 0 99 = fX3_within s2 0 99 := in_n s2 (by decide) (by decide)
  have e3 : fX4_in (Int32.toInt64 s3) 0 999 = fX3_within s3 0 999 := in_n s3 (by decide) (by decide)
  have e4 : fX4_in (Int32.toInt64 s4) 1 9 = fX3_within s4 1 9 := in_n s4 (by decide) (by decide)
  have o1 := (isP_eq s1).2
  unfold oX3_come oX4_come fX3_come fX4_come
  simp only [lt_, lo_, (isP_eq s1).1, e2, e3, e4]
  rcases wi s1 0 7 with ⟨w1, -⟩ | ⟨w1, a1, b1⟩
  · simp only [w1, if_true]
    exact ⟨trivial, ⟨o1, trivial⟩, trivial, h⟩
  · simp only [w1, if_neg i10]
    rcases wi s2 0 99 with ⟨w2, -⟩ | ⟨w2, a2, b2⟩
    · simp only [w2, if_true]
      exact ⟨trivial, ⟨o1, trivial⟩, trivial, h⟩
    · simp only [w2, if_neg i10]
      rcases wi s3 0 999 with ⟨w3, -⟩ | ⟨w3, a3, b3⟩
      · simp only [w3, if_true]
        exact ⟨trivial, ⟨o1, trivial⟩, trivial, h⟩
      · simp only [w3, if_neg i10]
        rcases wi s4 1 9 with ⟨w4, -⟩ | ⟨w4, a4, b4⟩
        · simp only [w4, if_true]
          exact ⟨trivial, ⟨o1, trivial⟩, trivial, h⟩
        · simp only [w4, if_neg i10]
          have m0 : (0 : Int32).toInt = 0 := by decide
          have m1 : (1 : Int32).toInt = 1 := by decide
          have m7 : (7 : Int32).toInt = 7 := by decide
          have m9 : (9 : Int32).toInt = 9 := by decide
          have m99 : (99 : Int32).toInt = 99 := by decide
          have m999 : (999 : Int32).toInt = 999 := by decide
          obtain ⟨p, hp7, rfl⟩ := as_n (a := s1) (n := 7) (by omega) (by omega) (by decide)
          have hp8 : p < 8 := by omega
          have hsb := sbt_lt k hk p hp8
          simp only [hco, hcm', bt_set k hk p hp8, bc_eq _ hsb, ones_eq _ hsb, c8 hp8]
          have new : ∀ (b : Int32), (b = 0 ∨ b = 1) → ∀ q, q < 8 → (upd (v_mi vN) p s2 q = upd (m_mi x) p s2 q ∧ upd (v_mn vN) p s3 q = upd (m_mn x) p s3 q ∧ upd (v_pa vN) p s4 q = upd (m_pa x) p s4 q ∧ upd (v_ca vN) p b q = upd (m_ca x) p b q) ∧ (0 ≤ (upd (m_mi x) p s2 q).toInt ∧ (upd (m_mi x) p s2 q).toInt ≤ 99) ∧ (0 ≤ (upd (m_mn x) p s3 q).toInt ∧ (upd (m_mn x) p s3 q).toInt ≤ 999) ∧ (0 ≤ (upd (m_pa x) p s4 q).toInt ∧ (upd (m_pa x) p s4 q).toInt ≤ 9) ∧ (upd (m_ca x) p b q = 0 ∨ upd (m_ca x) p b q = 1) := by
            intro b hb q hq
            simp only [upd_case]
            by_cases hqp : q = p
            · simp only [if_pos hqp]
              exact ⟨by simp, ⟨by omega, by omega⟩, ⟨by omega, by omega⟩, ⟨by omega, by omega⟩, hb⟩
            · simp only [if_neg hqp]
              exact hp q hq
          rcases h5 with rfl | rfl
          · simp only [if_true, nz0]
            exact ⟨⟨vin8 hp8, trivial⟩, ⟨o1, vin8 hp8, ones_ok _ hsb, trivial⟩, trivial, ⟨⟨sbt k p, hsb, rfl⟩, hdr, rfl, hse, new 0 (Or.inl rfl)⟩, hR⟩
          · simp only [if_neg i10, nz1]
            exact ⟨⟨vin8 hp8, trivial⟩, ⟨o1, vin8 hp8, ones_ok _ hsb, trivial⟩, trivial, ⟨⟨sbt k p, hsb, rfl⟩, hdr, rfl, hse, new 1 (Or.inr rfl)⟩, hR⟩
theorem st_stays (h : Rel kp vN vI vJ pd x) (s1 : Int32) :
    oX3_stays vN s1 ∧ oX4_stays x s1 ∧ (fX3_stays vN s1).1 = (fX4_stays x s1).1 ∧ Rel kp (fX3_stays vN s1).2 vI vJ pd (fX4_stays x s1).2 := by
  obtain ⟨⟨⟨k, hk, hco⟩, hdr, hcm, hse, hp⟩, hR⟩ := id h
  have hcm' : v_cm vN = nI k := hcm.trans hco
  obtain ⟨o1, o2⟩ := cm_cases hk hcm' hco s1
  unfold oX3_stays oX4_stays fX3_stays fX4_stays
  simp only [lt_, lo_]
  rcases o2 with ⟨a, b⟩ | ⟨p, hp8, rfl, hb, a, b⟩
  · simp only [a, b, if_true]
    exact ⟨trivial, ⟨o1, trivial⟩, trivial, h⟩
  · have hcl := clr_lt k hk p hp8
    simp only [a, b, if_neg i10, hco, hcm', bt_clr k hk p hp8, bc_eq _ hcl, ones_eq _ hcl]
    exact ⟨trivial, ⟨o1, ones_ok _ hcl, trivial⟩, trivial, ⟨⟨clr k p, hcl, rfl⟩, hdr, rfl, hse, hp⟩, hR⟩
theorem st_person (h : Rel kp vN vI vJ pd x) (s1 s2 : Int32) : oX3_person vN s1 s2 ∧ oX4_person x s1 s2 ∧ fX3_person vN s1 s2 = fX4_person x s1 s2 := by
  obtain ⟨⟨⟨k, hk, hco⟩, hdr, hcm, hse, hp⟩, hR⟩ := id h
  have hcm' : v_cm vN = nI k := hcm.trans hco
  obtain ⟨o1, o2⟩ := cm_cases hk hcm' hco s1
  unfold oX3_person oX4_person fX3_person fX4_person
  simp only [lt_, lo_]
  rcases o2 with ⟨a, b⟩ | ⟨p, hp8, rfl, hb, a, b⟩
  · simp only [a, b, if_true]
    exact ⟨trivial, ⟨o1, trivial⟩, trivial⟩
  · obtain ⟨⟨q1, q2, q3, q4⟩, -, -, -, q5⟩ := hp p hp8
    have v8 := vin8 hp8
    simp only [a, b, if_neg i10, c8 hp8, q1, q2, q3, q4]
    have hc : (if m_ca x p = 0 then (0 : Int32) else 1) = m_ca x p := by
      rcases q5 with e | e
      · rw [e, if_pos rfl]
      · rw [e, if_neg i10]
    rw [hc]
    have tr : ∀ (c1 c2 c3 c4 : Prop) [Decidable c1] [Decidable c2] [Decidable c3] [Decidable c4], if c1 then (vp_in (nI p) 8 ∧ True) else (if c2 then (vp_in (nI p) 8 ∧ True) else (if c3 then (vp_in (nI p) 8 ∧ True) else (if c4 then (vp_in (nI p) 8 ∧ True) else True))) := by
      intro c1 c2 c3 c4 _ _ _ _
      repeat' split
      all_goals first | exact ⟨v8, trivial⟩ | trivial
    exact ⟨tr _ _ _ _, ⟨o1, tr _ _ _ _⟩, rfl⟩
theorem set_c {i : Nat} (hi : i < 4) : fX1_setting vN (nI i) = v_se vN i ∧ oX1_setting vN (nI i) := by
  have c1 : ¬ nI i < 0 := n0 (by omega)
  have c2 : ¬ (4 : Int32) ≤ nI i := by rw [show (4 : Int32) = nI 4 from rfl]; exact nI_ge hi (by decide)
  unfold fX1_setting oX1_setting
  rw [if_neg c1, if_neg c2, if_neg c1, if_neg c2, c8 (by omega)]
  exact ⟨rfl, vp_in_nI hi (by decide), trivial⟩
theorem chg_c {i : Nat} (hi : i < 4) (a : Int32) : fX1_change vN (nI i) a = (v_mi vN, v_mn vN, v_pa vN, v_ca vN, upd (v_se vN) i a, v_cm vN) ∧ oX1_change vN (nI i) a := by
  have c1 : ¬ nI i < 0 := n0 (by omega)
  have c2 : ¬ (4 : Int32) ≤ nI i := by rw [show (4 : Int32) = nI 4 from rfl]; exact nI_ge hi (by decide)
  unfold fX1_change oX1_change
  rw [if_neg c1, if_neg c2, if_neg c1, if_neg c2, c8 (by omega)]
  exact ⟨rfl, vp_in_nI hi (by decide), trivial⟩
theorem st_set (h : Rel kp vN vI vJ pd x) (s1 s2 : Int32) :
    oX3_set vN s1 s2 ∧ oX4_set x s1 s2 ∧ (fX3_set vN s1 s2).1 = (fX4_set x s1 s2).1 ∧ Rel kp (fX3_set vN s1 s2).2 vI vJ pd (fX4_set x s1 s2).2 := by
  obtain ⟨⟨hk, hdr, hcm, ⟨e0, e1, e2, e3⟩, hp⟩, hR⟩ := id h
  have i1 : fX4_in (Int32.toInt64 s1) 0 3 = fX3_within s1 0 3 := in_n s1 (by decide) (by decide)
  have i2 : fX4_in (Int32.toInt64 s2) 1 20 = fX3_within s2 1 20 := in_n s2 (by decide) (by decide)
  have i3 : fX4_in (Int32.toInt64 s2) 0 1 = fX3_within s2 0 1 := in_n s2 (by decide) (by decide)
  have i4 : fX4_in (Int32.toInt64 s2) 0 9 = fX3_within s2 0 9 := in_n s2 (by decide) (by decide)
  unfold oX3_set oX4_set fX3_set fX4_set
  simp only [lt_, lo_, i1, i2, i3, i4]
  rcases wi s1 0 3 with ⟨w1, -⟩ | ⟨w1, a1, b1⟩
  · simp only [w1, if_true]
    exact ⟨trivial, trivial, trivial, h⟩
  · simp only [w1, if_neg i10]
    have m0 : (0 : Int32).toInt = 0 := by decide
    have m1 : (1 : Int32).toInt = 1 := by decide
    have m3 : (3 : Int32).toInt = 3 := by decide
    have m20 : (20 : Int32).toInt = 20 := by decide
    obtain ⟨p, hp3, rfl⟩ := as_n (a := s1) (n := 3) (by omega) (by omega) (by decide)
    obtain ⟨g1, g2⟩ := set_c (vN := vN) (show p < 4 by omega)
    obtain ⟨g3, g4⟩ := chg_c (vN := vN) (show p < 4 by omega) s2
    have us : ∀ (i j : Nat), i ≠ j → upd (v_se vN) j s2 i = v_se vN i := fun i j h => pk_un h
    have ue : ∀ (j : Nat), upd (v_se vN) j s2 j = s2 := fun j => pk_us
    simp only [g1, g3]
    rcases (show p = 0 ∨ p = 1 ∨ p = 2 ∨ p = 3 by omega) with rfl | rfl | rfl | rfl
    · have l1 : fX3_leastOf (nI 0) = 1 := by decide
      have l2 : fX3_mostOf (nI 0) = 20 := by decide
      have c0 : nI 0 = 0 := rfl
      simp only [l1, l2, if_pos c0]
      rcases wi s2 1 20 with ⟨w2, -⟩ | ⟨w2, a2, b2⟩
      · simp only [w2, if_true]
        exact ⟨trivial, trivial, trivial, h⟩
      · simp only [w2, if_neg i10]
        exact ⟨⟨g2, g4, trivial⟩, trivial, e0, ⟨hk, ⟨by show 0 ≤ s2.toInt; omega, by show s2.toInt ≤ 20; omega⟩, hcm, ⟨ue 0, (us 1 0 (by decide)).trans e1, (us 2 0 (by decide)).trans e2, (us 3 0 (by decide)).trans e3⟩, hp⟩, hR⟩
    · have l1 : fX3_leastOf (nI 1) = 0 := by decide
      have l2 : fX3_mostOf (nI 1) = 9 := by decide
      have c0 : ¬ nI 1 = 0 := by decide
      have c3 : ¬ nI 1 = 3 := by decide
      have c1 : nI 1 = 1 := rfl
      simp only [l1, l2, if_neg c0, if_neg c3, if_pos c1]
      rcases wi s2 0 9 with ⟨w2, -⟩ | ⟨w2, a2, b2⟩
      · simp only [w2, if_true]
        exact ⟨trivial, trivial, trivial, h⟩
      · simp only [w2, if_neg i10]
        exact ⟨⟨g2, g4, trivial⟩, trivial, e1, ⟨hk, hdr, hcm, ⟨(us 0 1 (by decide)).trans e0, ue 1, (us 2 1 (by decide)).trans e2, (us 3 1 (by decide)).trans e3⟩, hp⟩, hR⟩
    · have l1 : fX3_leastOf (nI 2) = 0 := by decide
      have l2 : fX3_mostOf (nI 2) = 9 := by decide
      have c0 : ¬ nI 2 = 0 := by decide
      have c3 : ¬ nI 2 = 3 := by decide
      have c1 : ¬ nI 2 = 1 := by decide
      have c2 : nI 2 = 2 := rfl
      simp only [l1, l2, if_neg c0, if_neg c3, if_neg c1, if_pos c2]
      rcases wi s2 0 9 with ⟨w2, -⟩ | ⟨w2, a2, b2⟩
      · simp only [w2, if_true]
        exact ⟨trivial, trivial, trivial, h⟩
      · simp only [w2, if_neg i10]
        exact ⟨⟨g2, g4, trivial⟩, trivial, e2, ⟨hk, hdr, hcm, ⟨(us 0 2 (by decide)).trans e0, (us 1 2 (by decide)).trans e1, ue 2, (us 3 2 (by decide)).trans e3⟩, hp⟩, hR⟩
    · have l1 : fX3_leastOf (nI 3) = 0 := by decide
      have l2 : fX3_mostOf (nI 3) = 1 := by decide
      have c0 : ¬ nI 3 = 0 := by decide
      have c3 : nI 3 = 3 := rfl
      simp only [l1, l2, if_neg c0, if_pos c3]
      rcases wi s2 0 1 with ⟨w2, -⟩ | ⟨w2, a2, b2⟩
      · simp only [w2, if_true]
        exact ⟨trivial, trivial, trivial, h⟩
      · simp only [w2, if_neg i10]
        exact ⟨⟨g2, g4, trivial⟩, trivial, e3, ⟨hk, hdr, hcm, ⟨(us 0 3 (by decide)).trans e0, (us 1 3 (by decide)).trans e1, (us 2 3 (by decide)).trans e2, ue 3⟩, hp⟩, hR⟩
theorem st_say (h : Rel kp vN vI vJ pd x) (s1 : Int32) :
    oX3_say pd s1 ∧ oX4_say x s1 ∧ (fX3_say pd s1).1 = (fX4_say x s1).1 ∧ Rel kp vN vI vJ (fX3_say pd s1).2 (fX4_say x s1).2 := by
  obtain ⟨hX, ⟨c, hc2, hc, hpn, hsg⟩, hR⟩ := id h
  have i1 : fX4_in (Int32.toInt64 s1) 33 126 = fX3_within s1 33 126 := in_n s1 (by decide) (by decide)
  unfold oX3_say oX4_say fX3_say fX4_say oX0_add fX0_add
  simp only [lt_, lo_, i1, hc, hpn]
  rcases wi s1 33 126 with ⟨w1, -⟩ | ⟨w1, a1, b1⟩
  · simp only [w1, if_true]
    exact ⟨trivial, trivial, trivial, h⟩
  · simp only [w1, if_neg i10]
    by_cases h40 : c = 40
    · subst h40
      have g1 : ¬ nI 40 < 40 := by decide
      have g2 : nI 40 = 40 := rfl
      simp only [if_neg g1, if_pos g2, if_true]
      exact ⟨⟨trivial, trivial⟩, trivial, trivial, h⟩
    · have hlt : c < 40 := by omega
      have g1 : nI c < 40 := by rw [show (40 : Int32) = nI 40 from rfl]; exact nI_lt hlt (by decide)
      have g2 : ¬ nI c = 40 := by rw [show (40 : Int32) = nI 40 from rfl, nI_eq (by omega) (by decide)]; exact h40
      have vi : vp_in (nI c) 40 := vp_in_nI hlt (by decide)
      simp only [if_pos g1, if_neg g2, if_neg i10, nI_1, cl_n (show c < 256 by omega)]
      refine ⟨⟨⟨vi, trivial⟩, trivial⟩, ⟨vi, trivial⟩, trivial, hX, ⟨c + 1, by omega, rfl, rfl, fun i hi => ?_⟩, hR⟩
      show upd (p_sg pd) c s1 i = upd (m_pd x) c s1 i
      simp only [upd_case]
      by_cases hic : i = c
      · rw [if_pos hic, if_pos hic]
      · rw [if_neg hic, if_neg hic, hsg i hi]
theorem st_wipe (h : Rel kp vN vI vJ pd x) : oX3_wipe pd ∧ oX4_wipe x ∧ (fX3_wipe pd).1 = (fX4_wipe x).1 ∧ Rel kp vN vI vJ (fX3_wipe pd).2 (fX4_wipe x).2 := by
  obtain ⟨hX, ⟨c, hc2, hc, hpn, hsg⟩, hR⟩ := id h
  unfold oX3_wipe oX4_wipe fX3_wipe fX4_wipe
  simp only [lt_]
  exact ⟨trivial, trivial, hc.trans hpn.symm, hX, ⟨0, by omega, by rw [nI_0], by rw [nI_0], hsg⟩, hR⟩
theorem st_fault (h : Rel kp vN vI vJ pd x) : oX3_fault vN pd ∧ oX4_fault x ∧ fX3_fault vN pd = fX4_fault x := by
  obtain ⟨⟨⟨k, hk, hco⟩, hdr, hcm, hse, hp⟩, hP, hR⟩ := id h
  have hcm' : v_cm vN = nI k := hcm.trans hco
  obtain ⟨a, b, c, -⟩ := fault_eq hk hco hcm' hP
  unfold oX3_fault fX3_fault
  simp only [lt_, hcm']
  exact ⟨⟨b, trivial⟩, c, a⟩
theorem st_told (h : Rel kp vN vI vJ pd x) (s1 : Int32) : oX3_told vN pd s1 ∧ oX4_told x s1 ∧ fX3_told vN pd s1 = fX4_told x s1 := by
  obtain ⟨⟨hk, hdr, hcm, ⟨e0, e1, e2, e3⟩, hp⟩, ⟨c, hc2, hc, hpn, hsg⟩, hR⟩ := id h
  have hcp : p_ct pd = m_pn x := hc.trans hpn.symm
  unfold oX3_told oX4_told fX3_told fX4_told
  simp only [lt_, lo_]
  have m0 : (0 : Int32).toInt = 0 := by decide
  have m5 : (5 : Int32).toInt = 5 := by decide
  rcases wi s1 0 5 with ⟨w1, g⟩ | ⟨w1, a1, b1⟩
  · simp only [w1, if_true]
    have ne : ∀ (n : Nat), n ≤ 5 → ¬ s1 = nI n := fun n hn e => by
      rw [e, nI_toInt (by omega)] at g
      omega
    have c0 : ¬ s1 = 0 := ne 0 (by omega)
    have c1 : ¬ s1 = 1 := ne 1 (by omega)
    have c2 : ¬ s1 = 2 := ne 2 (by omega)
    have c3 : ¬ s1 = 3 := ne 3 (by omega)
    have c4 : ¬ s1 = 4 := ne 4 (by omega)
    have c5 : ¬ s1 = 5 := ne 5 (by omega)
    simp only [if_neg c0, if_neg c1, if_neg c2, if_neg c3, if_neg c4, if_neg c5]
    exact ⟨trivial, trivial, trivial⟩
  · simp only [w1, if_neg i10]
    obtain ⟨p, hp5, rfl⟩ := as_n (a := s1) (n := 5) (by omega) (by omega) (by decide)
    have key : ∀ (j : Nat), j < 4 → fX1_setting vN (nI (j + 1) - 1) = v_se vN j ∧ oX1_setting vN (nI (j + 1) - 1) := fun j hj => by
      rw [nI_pred]; exact set_c hj
    rcases (show p = 0 ∨ p = 1 ∨ p = 2 ∨ p = 3 ∨ p = 4 ∨ p = 5 by omega) with rfl | rfl | rfl | rfl | rfl | rfl
    · have c0 : nI 0 = 0 := rfl
      simp only [if_pos c0]
      exact ⟨trivial, trivial, hcp⟩
    · have c0 : ¬ nI 1 = 0 := by decide
      have c5 : ¬ nI 1 = 5 := by decide
      have c1 : nI 1 = 1 := rfl
      simp only [if_neg c0, if_neg c5, if_pos c1]
      exact ⟨⟨(key 0 (by decide)).2, trivial⟩, trivial, (key 0 (by decide)).1.trans e0⟩
    · have c0 : ¬ nI 2 = 0 := by decide
      have c5 : ¬ nI 2 = 5 := by decide
      have c1 : ¬ nI 2 = 1 := by decide
      have c2 : nI 2 = 2 := rfl
      simp only [if_neg c0, if_neg c5, if_neg c1, if_pos c2]
      exact ⟨⟨(key 1 (by decide)).2, trivial⟩, trivial, (key 1 (by decide)).1.trans e1⟩
    · have c0 : ¬ nI 3 = 0 := by decide
      have c5 : ¬ nI 3 = 5 := by decide
      have c1 : ¬ nI 3 = 1 := by decide
      have c2 : ¬ nI 3 = 2 := by decide
      have c3 : nI 3 = 3 := rfl
      simp only [if_neg c0, if_neg c5, if_neg c1, if_neg c2, if_pos c3]
      exact ⟨⟨(key 2 (by decide)).2, trivial⟩, trivial, (key 2 (by decide)).1.trans e2⟩
    · have c0 : ¬ nI 4 = 0 := by decide
      have c5 : ¬ nI 4 = 5 := by decide
      have c1 : ¬ nI 4 = 1 := by decide
      have c2 : ¬ nI 4 = 2 := by decide
      have c3 : ¬ nI 4 = 3 := by decide
      have c4 : nI 4 = 4 := rfl
      simp only [if_neg c0, if_neg c5, if_neg c1, if_neg c2, if_neg c3, if_pos c4]
      exact ⟨⟨(key 3 (by decide)).2, trivial⟩, trivial, (key 3 (by decide)).1.trans e3⟩
    · have c0 : ¬ nI 5 = 0 := by decide
      have c5 : nI 5 = 5 := rfl
      have c1 : ¬ nI 5 = 1 := by decide
      have c2 : ¬ nI 5 = 2 := by decide
      have c3 : ¬ nI 5 = 3 := by decide
      have c4 : ¬ nI 5 = 4 := by decide
      simp only [if_neg c0, if_pos c5, if_neg c1, if_neg c2, if_neg c3, if_neg c4]
      exact ⟨trivial, trivial, hcm⟩
end Simple

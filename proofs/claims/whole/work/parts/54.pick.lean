/-! claim, best, walk, home: both sides answer alike -/
theorem lt_e {α β : Type} (e : α) (k : α → β) : lt_ e k = k e := by
  have h : lt_ e k = k e := rfl
  exact h.trans (Eq.refl (k e))
theorem lo_e {α : Type} (e : α) (k : α → Prop) : lo_ e k = k e := propext Iff.rfl
theorem leave_eq {vN vT : tVl} (h6 : ok6 vN) (w : tWl) {k P : Nat} (hk : k < 256) (hP : P < 8) (hcm : v_cm vN = nI k) (hca : ∀ p, p < 8 → v_ca vN p = 0 ∨ v_ca vN p = 1) :
    fX3_leaveOut vN vT w (nI P) = (fX1_copy vT vN, fX2_run vN w (nI (clr k P))) ∧ oX3_leaveOut vN vT w (nI P) ∧ V1 (fX1_copy vT vN) vN P := by
  obtain ⟨c1, c2⟩ := copy_eq vT vN hca
  have r := (run_eq vN h6 w (clr_lt k hk P hP)).2
  refine ⟨?_, ?_, c2.v1 P⟩
  · unfold fX3_leaveOut
    simp only [lt_, hcm, bt_clr k hk P hP]
  · unfold oX3_leaveOut
    simp only [lo_, hcm, bt_clr k hk P hP]
    exact ⟨c1, r, trivial⟩
theorem m1N {vN : tVl} {x : tMs} (h : RX vN x) (P : Nat) : M1 x (fX4_layNow x) P := by
  obtain ⟨-, -, hB, -, hl, h1, h2⟩ := scN h
  exact ⟨hB, h1, h2, fun q hq _ => hl q hq⟩
theorem wait_of {vT : tVl} {W1 : tWl} {P : Nat} {m t b : Int32} (h : fX3_beginIf vT W1 (nI P) m t = (b, setV vT P m t)) : fX3_waitIf vT W1 (nI P) m t = (b - t, setV vT P m t) := by
  unfold fX3_waitIf
  simp only [lt_, h]
theorem iN {n : Nat} {c : Int32} (hc : c.toInt = (n : Int)) {i : Nat} (hi : i < 2 ^ 31) : (c ≤ nI i ↔ n ≤ i) ∧ (c < nI i ↔ n < i) ∧ (nI i ≤ c ↔ i ≤ n) := by
  rw [i_le, i_lt, i_le, hc, nI_toInt hi]
  omega
/-! claim -/
theorem claim_c {P : Nat} (s2 s3 : Int32) (n : Nat) (y : tMs) (hP : P < 8) : fX4_claim_31 (nI P) s2 (n + 1) y s3 = (if 100 ≤ s3 then ((-6), y) else (if s2 < m_wa (fX4_go (mA y (upd (m_fr y) P s3) (m_at y) (m_bf y) (m_bs y)) (m_co y) 99) P then fX4_claim_31 (nI P) s2 n (fX4_go (mA y (upd (m_fr y) P s3) (m_at y) (m_bf y) (m_bs y)) (m_co y) 99) (s3 + 1) else (s3, fX4_go (mA y (upd (m_fr y) P s3) (m_at y) (m_bf y) (m_bs y)) (m_co y) 99))) := by
  rw [fX4_claim_31]
  simp only [lt_, c8 hP]
  rfl
theorem claim_o {P : Nat} (s2 s3 : Int32) (n : Nat) (y : tMs) (hP : P < 8) : oX4_claim_31 (nI P) s2 (n + 1) y s3 = (if 100 ≤ s3 then True else (vp_in (nI P) 8 ∧ oX4_go (mA y (upd (m_fr y) P s3) (m_at y) (m_bf y) (m_bs y)) (m_co y) 99 ∧ (if s2 < m_wa (fX4_go (mA y (upd (m_fr y) P s3) (m_at y) (m_bf y) (m_bs y)) (m_co y) 99) P then oX4_claim_31 (nI P) s2 n (fX4_go (mA y (upd (m_fr y) P s3) (m_at y) (m_bf y) (m_bs y)) (m_co y) 99) (s3 + 1) else True))) := by
  rw [oX4_claim_31]
  simp only [lo_, c8 hP]
  rfl
theorem mnR {vN : tVl} {x : tMs} (hX : RX vN x) {P : Nat} (hP : P < 8) : v_mn vN P = m_mn x P ∧ v_mi vN P = m_mi x P ∧ 0 ≤ (m_mn x P).toInt ∧ (m_mn x P).toInt ≤ 999 ∧ 0 ≤ (m_mi x P).toInt ∧ (m_mi x P).toInt ≤ 99 := by
  obtain ⟨-, -, -, -, hp⟩ := hX
  obtain ⟨⟨a1, a2, -, -⟩, r1, r2, -⟩ := hp P hP
  exact ⟨a2, a1, r2.1, r2.2, r1.1, r1.2⟩
theorem claim_l {vN : tVl} {x : tMs} {k P : Nat} (w : tWl) (hX : RX vN x) (hco : m_co x = nI k) (hk : k < 256) (hP : P < 8) (hb : k.testBit P = true) (s2 : Int32) : ∀ (n n2 i : Nat) (vT : tVl) (y : tMs), i ≤ 100 → 100 < i + n → 100 < i + n2 → V1 vT vN P → M1 x y P → m_at y P = m_mn x P →
    (fX3_claim_34 vN (fX2_run vN w (nI (clr k P))) (nI P) s2 n vT (nI i)).1 = (fX4_claim_31 (nI P) s2 n2 y (nI i)).1 ∧ oX3_claim_34 vN (fX2_run vN w (nI (clr k P))) (nI P) s2 n vT (nI i) ∧ oX4_claim_31 (nI P) s2 n2 y (nI i) ∧ SB x (fX4_claim_31 (nI P) s2 n2 y (nI i)).2
  | 0, n2, i, vT, y, h1, h2, h3, _, _, _ => by omega
  | n + 1, 0, i, vT, y, h1, h2, h3, _, _, _ => by omega
  | n + 1, n2 + 1, i, vT, y, h1, h2, h3, hV, hM, hat => by
    obtain ⟨t1, t2, t3, t4, -, -⟩ := mnR hX hP
    have g99 := iN (c := 99) (n := 99) (by decide) (show i < 2 ^ 31 by omega)
    have g100 := iN (c := 100) (n := 100) (by decide) (show i < 2 ^ 31 by omega)
    rw [claim_c s2 _ n2 y hP, claim_o s2 _ n2 y hP]
    simp only [fX3_claim_34, oX3_claim_34, lt_, lo_, c8 hP, t1]
    by_cases hi : i = 100
    · have c1 : (99 : Int32) < nI i := g99.2.1.mpr (by omega)
      have c2 : (100 : Int32) ≤ nI i := g100.1.mpr (by omega)
      simp only [if_pos c1, if_pos c2]
      exact ⟨trivial, trivial, trivial, hM.1⟩
    · have c1 : ¬ (99 : Int32) < nI i := fun z => by have := g99.2.1.mp z; omega
      have c2 : ¬ (100 : Int32) ≤ nI i := fun z => by have := g100.1.mp z; omega
      have hM2 : M1 x (mA y (upd (m_fr y) P (nI i)) (m_at y) (m_bf y) (m_bs y)) P := hM.A (fun q hq => pk_un hq) (fun q _ => rfl)
      obtain ⟨b, e1, e2, e3, e4, -, -, wa, en, to_, or_, e7⟩ := one w hX hco hk hP hb hV hM2 (m := nI i) (t := m_mn x P) pk_us hat t3 (by omega)
      have hyc : m_co y = nI k := hM.1.base.1.trans hco
      have hM3 : M1 x (fX4_go (mA y (upd (m_fr y) P (nI i)) (m_at y) (m_bf y) (m_bs y)) (nI k) 99) P := by rw [e7]; exact hM2.O _ _ _ _ _
      have hat3 : m_at (fX4_go (mA y (upd (m_fr y) P (nI i)) (m_at y) (m_bf y) (m_bs y)) (nI k) 99) P = m_mn x P := by rw [e7]; exact hat
      simp only [if_neg c1, if_neg c2, wait_of e1, hyc, e4, nI_1]
      have ow : oX3_waitIf vT (fX2_run vN w (nI (clr k P))) (nI P) (nI i) (m_mn x P) := ⟨e2, trivial⟩
      generalize fX4_go (mA y (upd (m_fr y) P (nI i)) (m_at y) (m_bf y) (m_bs y)) (nI k) 99 = Y at *
      have ih := claim_l w hX hco hk hP hb s2 n n2 (i + 1) (setV vT P (nI i) (m_mn x P)) Y (by omega) (by omega) (by omega) (hV.set _ _) hM3 hat3
      by_cases c3 : s2 < b - m_mn x P
      · simp only [if_pos c3]
        exact ⟨ih.1, ⟨vin8 hP, ow, ih.2.1⟩, ⟨vin8 hP, e3, ih.2.2.1⟩, ih.2.2.2⟩
      · simp only [if_neg c3]
        exact ⟨trivial, ⟨vin8 hP, ow, trivial⟩, ⟨vin8 hP, e3, trivial⟩, hM3.1⟩
theorem caR {vN : tVl} {x : tMs} (hX : RX vN x) : ∀ p, p < 8 → v_ca vN p = 0 ∨ v_ca vN p = 1 := by
  obtain ⟨-, -, -, -, hp⟩ := hX
  intro p hp8
  obtain ⟨⟨-, -, -, a4⟩, -, -, -, r⟩ := hp p hp8
  rw [a4]
  exact r
theorem st_claim {kp : tAr} {vN vI vJ : tVl} {pd : tPd} {x : tMs} (h : Rel kp vN vI vJ pd x) (vT : tVl) (w : tWl) (s1 s2 : Int32) :
    oX3_claim vN vT w s1 s2 ∧ oX4_claim x s1 s2 ∧ (fX3_claim vN vT w s1 s2).1 = (fX4_claim x s1 s2).1 ∧ Rel kp vN vI vJ pd (fX4_claim x s1 s2).2 := by
  obtain ⟨⟨⟨k, hk, hco⟩, hdr, hcm, hse, hp⟩, hR⟩ := id h
  have hcm' : v_cm vN = nI k := hcm.trans hco
  obtain ⟨q1, q2⟩ := cm_cases hk hcm' hco s1
  obtain ⟨o1, -, -, -, hl, -, -⟩ := scN h.1
  have hm1 := fun P => m1N h.1 P
  have hin : fX4_in (Int32.toInt64 s2) 0 9999 = fX3_within s2 0 9999 := in_n s2 (by decide) (by decide)
  unfold oX3_claim oX4_claim fX3_claim fX4_claim
  simp only [lt_e, lo_e, hin]
  generalize fX4_layNow x = y at *
  rcases q2 with ⟨a, b⟩ | ⟨P, hP, rfl, hb, a, b⟩
  · simp only [a, b, if_true]
    exact ⟨trivial, ⟨q1, trivial⟩, trivial, h⟩
  · obtain ⟨l1, l2, l3⟩ := leave_eq (vT := vT) (ok6R h.1) w hk hP hcm' (caR h.1)
    have lp := claim_l w h.1 hco hk hP hb s2 101 101 0 (fX1_copy vT vN) y (by omega) (by omega) (by omega) l3 (hm1 P) (hl P hP).2
    rw [nI_0] at lp
    simp only [a, b, if_neg i10]
    rcases wi s2 0 9999 with ⟨w1, -⟩ | ⟨w1, a1, b1⟩
    · simp only [w1, if_true]
      exact ⟨trivial, ⟨q1, trivial⟩, trivial, h⟩
    · simp only [w1, if_neg i10, l1]
      exact ⟨⟨l2, lp.2.1⟩, ⟨q1, o1, lp.2.2.1⟩, lp.1, h.sb lp.2.2.2⟩
/-! home -/
theorem home_c {P : Nat} (s2 s3 s4 s5 s6 : Int32) (n : Nat) (y : tMs) (hP : P < 8) : fX4_home_50 (nI P) s2 s3 (n + 1) y s4 s5 s6 = (if 100 ≤ s6 then (if s3 = 0 then (s4, y) else (s5, y)) else (if s5 ≤ m_wa (fX4_go (mA y (upd (m_fr y) P s6) (m_at y) (m_bf y) (m_bs y)) (m_co y) 99) P + (s2 * (99 - s6)) then fX4_home_50 (nI P) s2 s3 n (fX4_go (mA y (upd (m_fr y) P s6) (m_at y) (m_bf y) (m_bs y)) (m_co y) 99) s4 s5 (s6 + 1) else fX4_home_50 (nI P) s2 s3 n (fX4_go (mA y (upd (m_fr y) P s6) (m_at y) (m_bf y) (m_bs y)) (m_co y) 99) s6 (m_wa (fX4_go (mA y (upd (m_fr y) P s6) (m_at y) (m_bf y) (m_bs y)) (m_co y) 99) P + (s2 * (99 - s6))) (s6 + 1))) := by
  rw [fX4_home_50]
  simp only [lt_, c8 hP]
  rfl
theorem home_o {P : Nat} (s2 s3 s4 s5 s6 : Int32) (n : Nat) (y : tMs) (hP : P < 8) : oX4_home_50 (nI P) s2 s3 (n + 1) y s4 s5 s6 = (if 100 ≤ s6 then True else (vp_in (nI P) 8 ∧ oX4_go (mA y (upd (m_fr y) P s6) (m_at y) (m_bf y) (m_bs y)) (m_co y) 99 ∧ (if s5 ≤ m_wa (fX4_go (mA y (upd (m_fr y) P s6) (m_at y) (m_bf y) (m_bs y)) (m_co y) 99) P + (s2 * (99 - s6)) then oX4_home_50 (nI P) s2 s3 n (fX4_go (mA y (upd (m_fr y) P s6) (m_at y) (m_bf y) (m_bs y)) (m_co y) 99) s4 s5 (s6 + 1) else oX4_home_50 (nI P) s2 s3 n (fX4_go (mA y (upd (m_fr y) P s6) (m_at y) (m_bf y) (m_bs y)) (m_co y) 99) s6 (m_wa (fX4_go (mA y (upd (m_fr y) P s6) (m_at y) (m_bf y) (m_bs y)) (m_co y) 99) P + (s2 * (99 - s6))) (s6 + 1)))) := by
  rw [oX4_home_50]
  simp only [lo_, c8 hP]
  rfl
/-- one step of a search that goes through the miles -/
theorem home_s {vN vT : tVl} {x y : tMs} {k P : Nat} (w : tWl) (hX : RX vN x) (hco : m_co x = nI k) (hk : k < 256) (hP : P < 8) (hb : k.testBit P = true) (s2 : Int32) (hs0 : 0 ≤ s2.toInt) (hs1 : s2.toInt ≤ 99) {i : Nat} (hi : i < 100) (hV : V1 vT vN P) (hM : M1 x y P) (hat : m_at y P = m_mn x P) :
    ∃ c : Int32, fX3_costOfLiving vN vT (fX2_run vN w (nI (clr k P))) (nI P) (nI i) s2 = (c, setV vT P (nI i) (m_mn x P)) ∧ oX3_costOfLiving vN vT (fX2_run vN w (nI (clr k P))) (nI P) (nI i) s2 ∧ oX4_go (mA y (upd (m_fr y) P (nI i)) (m_at y) (m_bf y) (m_bs y)) (m_co y) 99 ∧ m_wa (fX4_go (mA y (upd (m_fr y) P (nI i)) (m_at y) (m_bf y) (m_bs y)) (m_co y) 99) P + (s2 * (99 - nI i)) = c ∧ c.toInt < 1000000000 ∧ M1 x (fX4_go (mA y (upd (m_fr y) P (nI i)) (m_at y) (m_bf y) (m_bs y)) (m_co y) 99) P ∧ m_at (fX4_go (mA y (upd (m_fr y) P (nI i)) (m_at y) (m_bf y) (m_bs y)) (m_co y) 99) P = m_mn x P := by
  obtain ⟨t1, t2, t3, t4, -, -⟩ := mnR hX hP
  have hM2 : M1 x (mA y (upd (m_fr y) P (nI i)) (m_at y) (m_bf y) (m_bs y)) P := hM.A (fun q hq => pk_un hq) (fun q _ => rfl)
  obtain ⟨b, e1, e2, e3, e4, -, ⟨e6a, e6b, -, -⟩, wa, en, to_, or_, e7⟩ := one w hX hco hk hP hb hV hM2 (m := nI i) (t := m_mn x P) pk_us hat t3 (by omega)
  have hyc : m_co y = nI k := hM.1.base.1.trans hco
  have m99 : (99 : Int32).toInt = 99 := by decide
  have mi : (nI i).toInt = (i : Int) := nI_toInt (by omega)
  have d1 : (99 - nI i).toInt = 99 - (i : Int) := by rw [ib_sub (by omega) (by omega), m99, mi]
  have d2 : 0 ≤ s2.toInt * (99 - nI i).toInt := Int.mul_nonneg hs0 (by omega)
  have d3 : s2.toInt * (99 - nI i).toInt ≤ 99 * 99 := Int.mul_le_mul hs1 (by omega) (by omega) (by decide)
  have d4 : (s2 * (99 - nI i)).toInt = s2.toInt * (99 - nI i).toInt := ib_mul (by omega) (by omega)
  have d5 : (b - m_mn x P + s2 * (99 - nI i)).toInt = (b - m_mn x P).toInt + (s2 * (99 - nI i)).toInt := ib_add (by omega) (by omega)
  rw [hyc]
  refine ⟨b - m_mn x P + s2 * (99 - nI i), ?_, ?_, e3, by rw [e4], by omega, by rw [e7]; exact hM2.O _ _ _ _ _, by rw [e7]; exact hat⟩
  · unfold fX3_costOfLiving
    simp only [lt_, c8 hP, t1, wait_of e1]
  · unfold oX3_costOfLiving
    simp only [c8 hP, t1]
    exact ⟨vin8 hP, ⟨e2, trivial⟩, trivial⟩
theorem home_l {vN : tVl} {x : tMs} {k P : Nat} (w : tWl) (hX : RX vN x) (hco : m_co x = nI k) (hk : k < 256) (hP : P < 8) (hb : k.testBit P = true) (s2 s3 : Int32) (hs0 : 0 ≤ s2.toInt) (hs1 : s2.toInt ≤ 99) : ∀ (n n2 i : Nat) (vT : tVl) (y : tMs) (s4 s5 : Int32), i ≤ 100 → 100 < i + n → 100 < i + n2 → V1 vT vN P → M1 x y P → m_at y P = m_mn x P →
    (fX3_home_55 vN (fX2_run vN w (nI (clr k P))) (nI P) s2 s3 n vT s4 s5 (nI i)).1 = (fX4_home_50 (nI P) s2 s3 n2 y s4 s5 (nI i)).1 ∧ oX3_home_55 vN (fX2_run vN w (nI (clr k P))) (nI P) s2 s3 n vT s4 s5 (nI i) ∧ oX4_home_50 (nI P) s2 s3 n2 y s4 s5 (nI i) ∧ SB x (fX4_home_50 (nI P) s2 s3 n2 y s4 s5 (nI i)).2
  | 0, n2, i, vT, y, s4, s5, h1, h2, h3, _, _, _ => by omega
  | n + 1, 0, i, vT, y, s4, s5, h1, h2, h3, _, _, _ => by omega
  | n + 1, n2 + 1, i, vT, y, s4, s5, h1, h2, h3, hV, hM, hat => by
    have g99 := iN (c := 99) (n := 99) (by decide) (show i < 2 ^ 31 by omega)
    have g100 := iN (c := 100) (n := 100) (by decide) (show i < 2 ^ 31 by omega)
    rw [home_c s2 s3 s4 s5 _ n2 y hP, home_o s2 s3 s4 s5 _ n2 y hP]
    simp only [fX3_home_55, oX3_home_55, lt_, lo_]
    by_cases hi : i = 100
    · have c1 : (99 : Int32) < nI i := g99.2.1.mpr (by omega)
      have c2 : (100 : Int32) ≤ nI i := g100.1.mpr (by omega)
      simp only [if_pos c1, if_pos c2]
      by_cases c0 : s3 = 0
      · simp only [if_pos c0]; exact ⟨trivial, trivial, trivial, hM.1⟩
      · simp only [if_neg c0]; exact ⟨trivial, trivial, trivial, hM.1⟩
    · have c1 : ¬ (99 : Int32) < nI i := fun z => by have := g99.2.1.mp z; omega
      have c2 : ¬ (100 : Int32) ≤ nI i := fun z => by have := g100.1.mp z; omega
      obtain ⟨c, e1, e2, e3, e4, -, hM3, hat3⟩ := home_s w hX hco hk hP hb s2 hs0 hs1 (show i < 100 by omega) hV hM hat
      simp only [if_neg c1, if_neg c2, e1, e4, nI_1]
      generalize fX4_go (mA y (upd (m_fr y) P (nI i)) (m_at y) (m_bf y) (m_bs y)) (m_co y) 99 = Y at *
      by_cases c3 : s5 ≤ c
      · have ih := home_l w hX hco hk hP hb s2 s3 hs0 hs1 n n2 (i + 1) (setV vT P (nI i) (m_mn x P)) Y s4 s5 (by omega) (by omega) (by omega) (hV.set _ _) hM3 hat3
        simp only [if_pos c3]
        exact ⟨ih.1, ⟨e2, ih.2.1⟩, ⟨vin8 hP, e3, ih.2.2.1⟩, ih.2.2.2⟩
      · have ih := home_l w hX hco hk hP hb s2 s3 hs0 hs1 n n2 (i + 1) (setV vT P (nI i) (m_mn x P)) Y (nI i) c (by omega) (by omega) (by omega) (hV.set _ _) hM3 hat3
        simp only [if_neg c3]
        exact ⟨ih.1, ⟨e2, ih.2.1⟩, ⟨vin8 hP, e3, ih.2.2.1⟩, ih.2.2.2⟩
theorem far_le {c : Int32} (h : c.toInt < 1000000000) : ¬ (1000000000 : Int32) ≤ c := by
  rw [i_le, show (1000000000 : Int32).toInt = 1000000000 by decide]
  omega
theorem st_home {kp : tAr} {vN vI vJ : tVl} {pd : tPd} {x : tMs} (h : Rel kp vN vI vJ pd x) (vT : tVl) (w : tWl) (s1 s2 s3 : Int32) :
    oX3_home vN vT w s1 s2 s3 ∧ oX4_home x s1 s2 s3 ∧ (fX3_home vN vT w s1 s2 s3).1 = (fX4_home x s1 s2 s3).1 ∧ Rel kp vN vI vJ pd (fX4_home x s1 s2 s3).2 := by
  obtain ⟨⟨⟨k, hk, hco⟩, hdr, hcm, hse, hp⟩, hR⟩ := id h
  have hcm' : v_cm vN = nI k := hcm.trans hco
  obtain ⟨q1, q2⟩ := cm_cases hk hcm' hco s1
  obtain ⟨o1, -, -, -, hl, -, -⟩ := scN h.1
  have hm1 := fun P => m1N h.1 P
  have hin : fX4_in (Int32.toInt64 s2) 0 99 = fX3_within s2 0 99 := in_n s2 (by decide) (by decide)
  have hin2 : fX4_in (Int32.toInt64 s3) 0 1 = fX3_within s3 0 1 := in_n s3 (by decide) (by decide)
  unfold oX3_home oX4_home fX3_home fX4_home
  simp only [lt_e, lo_e, hin, hin2]
  generalize fX4_layNow x = y at *
  rcases q2 with ⟨a, b⟩ | ⟨P, hP, rfl, hb, a, b⟩
  · simp only [a, b, if_true]
    exact ⟨trivial, ⟨q1, trivial⟩, trivial, h⟩
  · simp only [a, b, if_neg i10]
    rcases wi s2 0 99 with ⟨w1, -⟩ | ⟨w1, a1, b1⟩
    · simp only [w1, if_true]
      exact ⟨trivial, ⟨q1, trivial⟩, trivial, h⟩
    · simp only [w1, if_neg i10]
      rcases wi s3 0 1 with ⟨w2, -⟩ | ⟨w2, a2, b2⟩
      · simp only [w2, if_true]
        exact ⟨trivial, ⟨q1, trivial⟩, trivial, h⟩
      · have hs0 : 0 ≤ s2.toInt := by rw [show (0 : Int32).toInt = 0 by decide] at a1; exact a1
        have hs1 : s2.toInt ≤ 99 := by rw [show (99 : Int32).toInt = 99 by decide] at b1; exact b1
        obtain ⟨l1, l2, l3⟩ := leave_eq (vT := vT) (ok6R h.1) w hk hP hcm' (caR h.1)
        obtain ⟨c, e1, e2, e3, e4, e5, hM3, hat3⟩ := home_s w h.1 hco hk hP hb s2 hs0 hs1 (show 0 < 100 by omega) l3 (hm1 P) (hl P hP).2
        have g0 : ¬ (100 : Int32) ≤ 0 := by decide
        have lp := home_l w h.1 hco hk hP hb s2 s3 hs0 hs1 100 100 1 (setV (fX1_copy vT vN) P (nI 0) (m_mn x P)) _ 0 c (by omega) (by omega) (by omega) (l3.set _ _) hM3 hat3
        rw [show (101 : Nat) = 100 + 1 from rfl, home_c s2 s3 _ _ 0 100 y hP, home_o s2 s3 _ _ 0 100 y hP]
        rw [nI_0] at e1 e2 e3 e4 lp hM3 hat3
        simp only [w2, if_neg i10, l1, e1, if_neg g0, e4, if_neg (far_le e5)]
        rw [show (0 : Int32) + 1 = nI 1 by decide, show (1 : Int32) = nI 1 from rfl]
        exact ⟨⟨l2, e2, lp.2.1⟩, ⟨q1, o1, vin8 hP, e3, lp.2.2.1⟩, lp.1, h.sb lp.2.2.2⟩

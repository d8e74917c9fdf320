/-! images, whole -/
theorem RV.cg {r u : tVl} {co dr fa st ha co' dr' fa' st' ha' : Int32} {mi mn pa ca mi' mn' pa' ca' : tAr} (h : RV u co dr fa st ha mi mn pa ca) (hv : VE r u) (e0 : co' = co) (e1 : dr' = dr) (e2 : fa' = fa) (e3 : st' = st) (e4 : ha' = ha) (ea : ∀ q, q < 8 → mi' q = mi q ∧ mn' q = mn q ∧ pa' q = pa q ∧ ca' q = ca q) : RV r co' dr' fa' st' ha' mi' mn' pa' ca' := by
  subst e0; subst e1; subst e2; subst e3; subst e4
  obtain ⟨h1, h2, h3, ⟨s0, s1, s2, s3⟩, h5⟩ := h
  obtain ⟨v1, v2, v3⟩ := hv
  refine ⟨h1, h2, v1.trans h3, ⟨(v2 0 (by decide)).trans s0, (v2 1 (by decide)).trans s1, (v2 2 (by decide)).trans s2, (v2 3 (by decide)).trans s3⟩, fun p hp => ?_⟩
  obtain ⟨a1, a2, a3, a4⟩ := ea p hp
  obtain ⟨b1, b2, b3, b4⟩ := v3 p hp
  rw [a1, a2, a3, a4, b1, b2, b3, b4]
  exact h5 p hp
theorem VE.rf (u : tVl) : VE u u := ⟨rfl, fun _ _ => rfl, fun _ _ => ⟨rfl, rfl, rfl, rfl⟩⟩
theorem RV.ca {u : tVl} {co dr fa st ha : Int32} {mi mn pa ca : tAr} (h : RV u co dr fa st ha mi mn pa ca) : ∀ p, p < 8 → v_ca u p = 0 ∨ v_ca u p = 1 := by
  intro p hp
  obtain ⟨⟨-, -, -, a⟩, -, -, -, b⟩ := h.2.2.2.2 p hp
  rw [a]
  exact b
theorem in01 {s1 : Int32} (h1 : (0 : Int32).toInt ≤ s1.toInt) (h2 : s1.toInt ≤ (1 : Int32).toInt) : s1 = 0 ∨ s1 = 1 := by
  have m0 : (0 : Int32).toInt = 0 := by decide
  have m1 : (1 : Int32).toInt = 1 := by decide
  rcases (show s1.toInt = 0 ∨ s1.toInt = 1 by omega) with e | e
  · exact Or.inl (by rw [← Int32.toInt_inj, e, m0])
  · exact Or.inr (by rw [← Int32.toInt_inj, e, m1])
theorem RI.nw {v r : tVl} {x y : tMs} {b : Nat} (hX : RX v x) (vc : VE r v) (q0 : m_kp y b = m_co x) (q1 : m_kp y (b + 1) = m_dr x) (q2 : m_kp y (b + 2) = m_fa x) (q3 : m_kp y (b + 3) = m_st x) (q4 : m_kp y (b + 4) = m_ha x) (q5 : ∀ q, q < 8 → m_kp y (b + 5 + 4 * q) = m_mi x q ∧ m_kp y (b + 6 + 4 * q) = m_mn x q ∧ m_kp y (b + 7 + 4 * q) = m_pa x q ∧ m_kp y (b + 8 + 4 * q) = m_ca x q) : RI r y b :=
  RV.cg hX vc q0 q1 q2 q3 q4 q5
theorem RI.kp {v : tVl} {x y : tMs} {b : Nat} (h : RI v x b) (e : ∀ i, b ≤ i → i < b + 37 → m_kp y i = m_kp x i) : RI v y b :=
  RV.cg h (VE.rf v) (e _ (by omega) (by omega)) (e _ (by omega) (by omega)) (e _ (by omega) (by omega)) (e _ (by omega) (by omega)) (e _ (by omega) (by omega)) (fun q hq => ⟨e _ (by omega) (by omega), e _ (by omega) (by omega), e _ (by omega) (by omega), e _ (by omega) (by omega)⟩)
section Images
variable {kp : tAr} {vN vI vJ : tVl} {pd : tPd} {x : tMs}
theorem st_image (h : Rel kp vN vI vJ pd x) (s1 : Int32) :
    oX3_image kp vN vI vJ s1 ∧ oX4_image x s1 ∧ (fX3_image kp vN vI vJ s1).1 = (fX4_image x s1).1 ∧ Rel (fX3_image kp vN vI vJ s1).2.1 vN (fX3_image kp vN vI vJ s1).2.2.1 (fX3_image kp vN vI vJ s1).2.2.2 pd (fX4_image x s1).2 := by
  have e1 : fX4_in (Int32.toInt64 s1) 0 1 = fX3_within s1 0 1 := in_n s1 (by decide) (by decide)
  rcases wi s1 0 1 with ⟨w1, -⟩ | ⟨w1, a1, b1⟩
  · unfold oX3_image oX4_image fX3_image fX4_image
    simp only [lt_e, lo_e, e1, w1, if_true]
    exact ⟨trivial, trivial, trivial, h⟩
  · obtain ⟨hX, hP, hK, hI, hJ⟩ := id h
    have hca := RV.ca hX
    obtain ⟨co, mi, mn, pa, ca, dr, fa, st, ha, pd_, pn, fr, at_, wa, en, to_, or_, my, bf, bs, kp_, ik, ka, iw⟩ := x
    have hX' : RV vN co dr fa st ha mi mn pa ca := hX
    have hP' : RP pd pn pd_ := hP
    rcases in01 a1 b1 with rfl | rfl
    · obtain ⟨o1, kp', p1, p2, p3, ⟨q0, q1, q2, q3, q4⟩, p5⟩ := passAllW (co := co) (dr := dr) (fa := fa) (st := st) (ha := ha) (pn := pn) (my := my) (bf := bf) (bs := bs) (mi := mi) (mn := mn) (pa := pa) (ca := ca) (pd := pd_) (fr := fr) (at_ := at_) (wa := wa) (en := en) (to_ := to_) (or_ := or_) (ik := ik) kp_ (b := 0) (by omega)
      have k0 : (50 : Int32) * 0 = nI 0 := by decide
      have c0 : Int32.toNatClampNeg 0 = 0 := by decide
      obtain ⟨oc, vc⟩ := copy_eq vI vN hca
      refine ⟨?_, ?_, ?_⟩
      · unfold oX3_image
        simp only [lo_e, w1, if_neg i10, if_true]
        exact ⟨vp_in_nI (n := 0) (by decide) (by decide), oc, trivial⟩
      · unfold oX4_image
        simp only [lo_e, e1, w1, if_neg i10, m_co, m_mi, m_mn, m_pa, m_ca, m_dr, m_fa, m_st, m_ha, m_pd, m_pn, m_fr, m_at, m_wa, m_en, m_to, m_or, m_my, m_bf, m_bs, m_kp, m_ik, k0]
        exact ⟨o1, vp_in_nI (n := 0) (by decide) (by decide), trivial⟩
      · unfold fX3_image fX4_image
        simp only [lt_e, e1, w1, if_neg i10, if_true, m_co, m_mi, m_mn, m_pa, m_ca, m_dr, m_fa, m_st, m_ha, m_pd, m_pn, m_fr, m_at, m_wa, m_en, m_to, m_or, m_my, m_bf, m_bs, m_kp, m_ik, k0, p1, nz1, c0]
        refine ⟨trivial, hX', hP', fun n hn => ?_, ?_, ?_⟩
        · simp only [m_ik, upd_case]
          by_cases hn0 : n = 0
          · rw [if_pos hn0, if_pos hn0]; exact ⟨rfl, Or.inr rfl⟩
          · rw [if_neg hn0, if_neg hn0]; exact hK n hn
        · exact fun hk => RI.nw hX vc q0 q1 q2 q3 q4 p5
        · rw [pk_un (by decide)]; exact fun hk => RI.kp (hJ hk) (fun i h1 h2 => p3 i (by omega))
    · obtain ⟨o1, kp', p1, p2, p3, ⟨q0, q1, q2, q3, q4⟩, p5⟩ := passAllW (co := co) (dr := dr) (fa := fa) (st := st) (ha := ha) (pn := pn) (my := my) (bf := bf) (bs := bs) (mi := mi) (mn := mn) (pa := pa) (ca := ca) (pd := pd_) (fr := fr) (at_ := at_) (wa := wa) (en := en) (to_ := to_) (or_ := or_) (ik := ik) kp_ (b := 50) (by omega)
      have k0 : (50 : Int32) * 1 = nI 50 := by decide
      have c0 : Int32.toNatClampNeg 1 = 1 := by decide
      obtain ⟨oc, vc⟩ := copy_eq vJ vN hca
      refine ⟨?_, ?_, ?_⟩
      · unfold oX3_image
        simp only [lo_e, w1, if_neg i10]
        exact ⟨vp_in_nI (n := 1) (by decide) (by decide), oc, trivial⟩
      · unfold oX4_image
        simp only [lo_e, e1, w1, if_neg i10, m_co, m_mi, m_mn, m_pa, m_ca, m_dr, m_fa, m_st, m_ha, m_pd, m_pn, m_fr, m_at, m_wa, m_en, m_to, m_or, m_my, m_bf, m_bs, m_kp, m_ik, k0]
        exact ⟨o1, vp_in_nI (n := 1) (by decide) (by decide), trivial⟩
      · unfold fX3_image fX4_image
        simp only [lt_e, e1, w1, if_neg i10, m_co, m_mi, m_mn, m_pa, m_ca, m_dr, m_fa, m_st, m_ha, m_pd, m_pn, m_fr, m_at, m_wa, m_en, m_to, m_or, m_my, m_bf, m_bs, m_kp, m_ik, k0, p1, nz1, c0]
        refine ⟨trivial, hX', hP', fun n hn => ?_, ?_, ?_⟩
        · simp only [m_ik, upd_case]
          by_cases hn0 : n = 1
          · rw [if_pos hn0, if_pos hn0]; exact ⟨rfl, Or.inr rfl⟩
          · rw [if_neg hn0, if_neg hn0]; exact hK n hn
        · rw [pk_un (by decide)]; exact fun hk => RI.kp (hI hk) (fun i h1 h2 => p2 i (by omega))
        · exact fun hk => RI.nw hX vc q0 q1 q2 q3 q4 p5
theorem st_restore (h : Rel kp vN vI vJ pd x) (s1 : Int32) :
    oX3_restore kp vN vI vJ s1 ∧ oX4_restore x s1 ∧ (fX3_restore kp vN vI vJ s1).1 = (fX4_restore x s1).1 ∧ Rel kp (fX3_restore kp vN vI vJ s1).2 vI vJ pd (fX4_restore x s1).2 := by
  have e1 : fX4_in (Int32.toInt64 s1) 0 1 = fX3_within s1 0 1 := in_n s1 (by decide) (by decide)
  rcases wi s1 0 1 with ⟨w1, -⟩ | ⟨w1, a1, b1⟩
  · unfold oX3_restore oX4_restore fX3_restore fX4_restore
    simp only [lt_e, lo_e, e1, w1, if_true]
    exact ⟨trivial, trivial, trivial, h⟩
  · obtain ⟨hX, hP, hK, hI, hJ⟩ := id h
    obtain ⟨co, mi, mn, pa, ca, dr, fa, st, ha, pd_, pn, fr, at_, wa, en, to_, or_, my, bf, bs, kp_, ik, ka, iw⟩ := x
    rcases in01 a1 b1 with rfl | rfl
    · have c0 : Int32.toNatClampNeg 0 = 0 := by decide
      have k0 : (50 : Int32) * 0 = nI 0 := by decide
      have hk := (hK 0 (by decide)).1
      simp only [m_ik] at hk
      by_cases hz : kp 0 = 0
      · unfold oX3_restore oX4_restore fX3_restore fX4_restore
        simp only [lt_e, lo_e, e1, w1, if_neg i10, c0, m_co, m_mi, m_mn, m_pa, m_ca, m_dr, m_fa, m_st, m_ha, m_pd, m_pn, m_fr, m_at, m_wa, m_en, m_to, m_or, m_my, m_bf, m_bs, m_kp, m_ik, ← hk, hz, if_true]
        exact ⟨⟨vp_in_nI (n := 0) (by decide) (by decide), trivial⟩, ⟨vp_in_nI (n := 0) (by decide) (by decide), trivial⟩, trivial, h⟩
      · have hz' := hI hz
        obtain ⟨o1, mi', mn', pa', ca', p1, p2⟩ := passAllR (co := co) (dr := dr) (fa := fa) (st := st) (ha := ha) (pn := pn) (my := my) (bf := bf) (bs := bs) (mi := mi) (mn := mn) (pa := pa) (ca := ca) (pd := pd_) (fr := fr) (at_ := at_) (wa := wa) (en := en) (to_ := to_) (or_ := or_) (ik := ik) kp_ (b := 0) (by omega)
        obtain ⟨oc, vc⟩ := copy_eq vN vI (RV.ca hz')
        refine ⟨?_, ?_, ?_⟩
        · unfold oX3_restore
          simp only [lo_e, w1, if_neg i10, if_true, c0, if_neg hz]
          exact ⟨vp_in_nI (n := 0) (by decide) (by decide), oc, trivial⟩
        · unfold oX4_restore
          simp only [lo_e, e1, w1, if_neg i10, c0, m_co, m_mi, m_mn, m_pa, m_ca, m_dr, m_fa, m_st, m_ha, m_pd, m_pn, m_fr, m_at, m_wa, m_en, m_to, m_or, m_my, m_bf, m_bs, m_kp, m_ik, ← hk, if_neg hz, k0]
          exact ⟨vp_in_nI (n := 0) (by decide) (by decide), o1, trivial⟩
        · unfold fX3_restore fX4_restore
          simp only [lt_e, e1, w1, if_neg i10, if_true, c0, m_co, m_mi, m_mn, m_pa, m_ca, m_dr, m_fa, m_st, m_ha, m_pd, m_pn, m_fr, m_at, m_wa, m_en, m_to, m_or, m_my, m_bf, m_bs, m_kp, m_ik, ← hk, if_neg hz, k0, p1]
          exact ⟨trivial, RV.cg hz' vc rfl rfl rfl rfl rfl p2, hP, hK, hI, hJ⟩
    · have c0 : Int32.toNatClampNeg 1 = 1 := by decide
      have k0 : (50 : Int32) * 1 = nI 50 := by decide
      have hk := (hK 1 (by decide)).1
      simp only [m_ik] at hk
      by_cases hz : kp 1 = 0
      · unfold oX3_restore oX4_restore fX3_restore fX4_restore
        simp only [lt_e, lo_e, e1, w1, if_neg i10, c0, m_co, m_mi, m_mn, m_pa, m_ca, m_dr, m_fa, m_st, m_ha, m_pd, m_pn, m_fr, m_at, m_wa, m_en, m_to, m_or, m_my, m_bf, m_bs, m_kp, m_ik, ← hk, hz, if_true]
        exact ⟨⟨vp_in_nI (n := 1) (by decide) (by decide), trivial⟩, ⟨vp_in_nI (n := 1) (by decide) (by decide), trivial⟩, trivial, h⟩
      · have hz' := hJ hz
        obtain ⟨o1, mi', mn', pa', ca', p1, p2⟩ := passAllR (co := co) (dr := dr) (fa := fa) (st := st) (ha := ha) (pn := pn) (my := my) (bf := bf) (bs := bs) (mi := mi) (mn := mn) (pa := pa) (ca := ca) (pd := pd_) (fr := fr) (at_ := at_) (wa := wa) (en := en) (to_ := to_) (or_ := or_) (ik := ik) kp_ (b := 50) (by omega)
        obtain ⟨oc, vc⟩ := copy_eq vN vJ (RV.ca hz')
        refine ⟨?_, ?_, ?_⟩
        · unfold oX3_restore
          simp only [lo_e, w1, if_neg i10, c0, if_neg hz]
          exact ⟨vp_in_nI (n := 1) (by decide) (by decide), oc, trivial⟩
        · unfold oX4_restore
          simp only [lo_e, e1, w1, if_neg i10, c0, m_co, m_mi, m_mn, m_pa, m_ca, m_dr, m_fa, m_st, m_ha, m_pd, m_pn, m_fr, m_at, m_wa, m_en, m_to, m_or, m_my, m_bf, m_bs, m_kp, m_ik, ← hk, if_neg hz, k0]
          exact ⟨vp_in_nI (n := 1) (by decide) (by decide), o1, trivial⟩
        · unfold fX3_restore fX4_restore
          simp only [lt_e, e1, w1, if_neg i10, c0, m_co, m_mi, m_mn, m_pa, m_ca, m_dr, m_fa, m_st, m_ha, m_pd, m_pn, m_fr, m_at, m_wa, m_en, m_to, m_or, m_my, m_bf, m_bs, m_kp, m_ik, ← hk, if_neg hz, k0, p1]
          exact ⟨trivial, RV.cg hz' vc rfl rfl rfl rfl rfl p2, hP, hK, hI, hJ⟩
end Images

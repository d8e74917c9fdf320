/-! copies -/
def VE (r u : tVl) : Prop := v_cm r = v_cm u ∧ (∀ i, i < 4 → v_se r i = v_se u i) ∧ ∀ p, p < 8 → v_mi r p = v_mi u p ∧ v_mn r p = v_mn u p ∧ v_pa r p = v_pa u p ∧ v_ca r p = v_ca u p
theorem ge4 {i : Nat} (h : i ≤ 4) : (4 : Int32) ≤ nI i ↔ i = 4 := by
  rw [show (4 : Int32) = nI 4 from rfl, nI_leI (by decide) (by omega)]
  omega
theorem copy_64 (u : tVl) : ∀ (n i : Nat) (v : tVl), i ≤ 4 → 4 < i + n → oX1_copy_64 u n v (nI i) ∧ v_mi (fX1_copy_64 u n v (nI i)) = v_mi v ∧ v_mn (fX1_copy_64 u n v (nI i)) = v_mn v ∧ v_pa (fX1_copy_64 u n v (nI i)) = v_pa v ∧ v_ca (fX1_copy_64 u n v (nI i)) = v_ca v ∧ v_cm (fX1_copy_64 u n v (nI i)) = v_cm u ∧ (∀ j, j < i → v_se (fX1_copy_64 u n v (nI i)) j = v_se v j) ∧ ∀ j, i ≤ j → j < 4 → v_se (fX1_copy_64 u n v (nI i)) j = v_se u j
  | 0, i, v, h1, h2 => by omega
  | n + 1, i, v, h1, h2 => by
    by_cases h4 : i = 4
    · have g : (4 : Int32) ≤ nI i := (ge4 h1).mpr h4
      simp only [fX1_copy_64, oX1_copy_64, lt_, if_pos g]
      exact ⟨trivial, trivial, trivial, trivial, trivial, trivial, fun _ _ => trivial, fun j a b => by omega⟩
    · have hi : i < 4 := by omega
      have g : ¬ (4 : Int32) ≤ nI i := fun h => h4 ((ge4 h1).mp h)
      obtain ⟨a0, a1, a2, a3, a4, a5, a6, a7⟩ := copy_64 u n (i + 1) (v_mi v, v_mn v, v_pa v, v_ca v, upd (v_se v) i (v_se u i), v_cm v) (by omega) (by omega)
      simp only [fX1_copy_64, oX1_copy_64, lt_, lo_, if_neg g, c8 (show i < 8 by omega), nI_1]
      refine ⟨⟨vp_in_nI hi (by decide), a0⟩, a1, a2, a3, a4, a5, fun j hj => ?_, fun j hj hj4 => ?_⟩
      · rw [a6 j (by omega)]
        exact pk_un (by omega)
      · by_cases hji : j = i
        · subst hji
          rw [a6 j (by omega)]
          exact pk_us
        · exact a7 j (by omega) hj4
theorem copy_2 (u : tVl) (hca : ∀ p, p < 8 → v_ca u p = 0 ∨ v_ca u p = 1) : ∀ (n i : Nat) (v : tVl), i ≤ 8 → 8 < i + n → oX1_copy_2 u n v (nI i) ∧ v_cm (fX1_copy_2 u n v (nI i)) = v_cm u ∧ (∀ j, j < 4 → v_se (fX1_copy_2 u n v (nI i)) j = v_se u j) ∧ (∀ p, p < i → v_mi (fX1_copy_2 u n v (nI i)) p = v_mi v p ∧ v_mn (fX1_copy_2 u n v (nI i)) p = v_mn v p ∧ v_pa (fX1_copy_2 u n v (nI i)) p = v_pa v p ∧ v_ca (fX1_copy_2 u n v (nI i)) p = v_ca v p) ∧ ∀ p, i ≤ p → p < 8 → v_mi (fX1_copy_2 u n v (nI i)) p = v_mi u p ∧ v_mn (fX1_copy_2 u n v (nI i)) p = v_mn u p ∧ v_pa (fX1_copy_2 u n v (nI i)) p = v_pa u p ∧ v_ca (fX1_copy_2 u n v (nI i)) p = v_ca u p
  | 0, i, v, h1, h2 => by omega
  | n + 1, i, v, h1, h2 => by
    by_cases h8 : i = 8
    · have g : (8 : Int32) ≤ nI i := (ge8 h1).mpr h8
      obtain ⟨a0, a1, a2, a3, a4, a5, -, a7⟩ := copy_64 u 5 0 v (by omega) (by omega)
      rw [nI_0] at a0 a1 a2 a3 a4 a5 a7
      simp only [fX1_copy_2, oX1_copy_2, if_pos g]
      exact ⟨a0, a5, fun j hj => a7 j (Nat.zero_le _) hj, fun p _ => by rw [a1, a2, a3, a4]; exact ⟨rfl, rfl, rfl, rfl⟩, fun p a b => by omega⟩
    · have hi : i < 8 := by omega
      have g : ¬ (8 : Int32) ≤ nI i := fun h => h8 ((ge8 h1).mp h)
      have hn : vp_nar .boolean (v_ca u i) = v_ca u i := by
        rcases hca i hi with e | e <;> rw [e] <;> decide
      obtain ⟨a0, a1, a2, a3, a4⟩ := copy_2 u hca n (i + 1) (upd (v_mi v) i (v_mi u i), upd (v_mn v) i (v_mn u i), upd (v_pa v) i (v_pa u i), upd (v_ca v) i (v_ca u i), v_se v, v_cm v) (by omega) (by omega)
      simp only [fX1_copy_2, oX1_copy_2, lt_, lo_, if_neg g, c8 hi, nI_1, hn]
      refine ⟨⟨vin8 hi, a0⟩, a1, a2, fun p hp => ?_, fun p hp hp8 => ?_⟩
      · obtain ⟨b1, b2, b3, b4⟩ := a3 p (by omega)
        rw [b1, b2, b3, b4]
        exact ⟨pk_un (by omega), pk_un (by omega), pk_un (by omega), pk_un (by omega)⟩
      · by_cases hpi : p = i
        · subst hpi
          obtain ⟨b1, b2, b3, b4⟩ := a3 p (by omega)
          rw [b1, b2, b3, b4]
          exact ⟨pk_us, pk_us, pk_us, pk_us⟩
        · exact a4 p (by omega) hp8
theorem copy_eq (v u : tVl) (hca : ∀ p, p < 8 → v_ca u p = 0 ∨ v_ca u p = 1) : oX1_copy v u ∧ VE (fX1_copy v u) u := by
  obtain ⟨a0, a1, a2, -, a4⟩ := copy_2 u hca 9 0 v (by omega) (by omega)
  rw [nI_0] at a0 a1 a2 a4
  exact ⟨a0, a1, a2, fun p hp => a4 p (Nat.zero_le _) hp⟩
/-! one person at other miles, at another minute -/
def V1 (vT vN : tVl) (P : Nat) : Prop := v_cm vT = v_cm vN ∧ (∀ i, i < 4 → v_se vT i = v_se vN i) ∧ ∀ q, q < 8 → v_pa vT q = v_pa vN q ∧ v_ca vT q = v_ca vN q ∧ (q ≠ P → v_mi vT q = v_mi vN q ∧ v_mn vT q = v_mn vN q)
def setV (vT : tVl) (P : Nat) (m t : Int32) : tVl := (upd (v_mi vT) P m, upd (v_mn vT) P t, v_pa vT, v_ca vT, v_se vT, v_cm vT)
theorem VE.v1 {r u : tVl} (h : VE r u) (P : Nat) : V1 r u P := ⟨h.1, h.2.1, fun q hq => ⟨(h.2.2 q hq).2.2.1, (h.2.2 q hq).2.2.2, fun _ => ⟨(h.2.2 q hq).1, (h.2.2 q hq).2.1⟩⟩⟩
theorem V1.set {vT vN : tVl} {P : Nat} (h : V1 vT vN P) (m t : Int32) : V1 (setV vT P m t) vN P :=
  ⟨h.1, h.2.1, fun q hq => ⟨(h.2.2 q hq).1, (h.2.2 q hq).2.1, fun hn => ⟨by rw [← ((h.2.2 q hq).2.2 hn).1]; exact pk_un hn, by rw [← ((h.2.2 q hq).2.2 hn).2]; exact pk_un hn⟩⟩⟩
def M1 (x y : tMs) (P : Nat) : Prop := SB x y ∧ m_bf y = m_fa x ∧ m_bs y = m_st x ∧ ∀ q, q < 8 → q ≠ P → m_fr y q = m_mi x q ∧ m_at y q = m_mn x q
theorem SB.base {x y : tMs} (h : SB x y) : m_co y = m_co x ∧ m_mi y = m_mi x ∧ m_mn y = m_mn x ∧ m_pa y = m_pa x ∧ m_ca y = m_ca x ∧ m_dr y = m_dr x ∧ m_ha y = m_ha x ∧ m_pd y = m_pd x ∧ m_pn y = m_pn x := by
  obtain ⟨fr, at_, wa, en, to_, or_, my, bf, bs, rfl⟩ := h
  exact ⟨rfl, rfl, rfl, rfl, rfl, rfl, rfl, rfl, rfl⟩
theorem M1.O {x y : tMs} {P : Nat} (h : M1 x y P) (wa en to_ or_ : tAr) (my : Int32) : M1 x (mO y wa en to_ or_ my) P := ⟨h.1.tr (SB.O y wa en to_ or_ my), h.2.1, h.2.2.1, h.2.2.2⟩
theorem M1.A {x y : tMs} {P : Nat} (h : M1 x y P) {fr at_ : tAr} (hf : ∀ q, q ≠ P → fr q = m_fr y q) (ha : ∀ q, q ≠ P → at_ q = m_at y q) : M1 x (mA y fr at_ (m_bf y) (m_bs y)) P :=
  ⟨h.1.tr (SB.A y fr at_ _ _), h.2.1, h.2.2.1, fun q hq hn => ⟨(hf q hn).trans (h.2.2.2 q hq hn).1, (ha q hn).trans (h.2.2.2 q hq hn).2⟩⟩
theorem one {vN vT : tVl} {x y : tMs} (w : tWl) {k P : Nat} {m t : Int32} (hX : RX vN x) (hco : m_co x = nI k) (hk : k < 256) (hP : P < 8) (hb : k.testBit P = true) (hV : V1 vT vN P) (hM : M1 x y P) (hm : m_fr y P = m) (ht : m_at y P = t) (ht0 : 0 ≤ t.toInt) (ht1 : t.toInt ≤ 2000) :
    ∃ b : Int32, fX3_beginIf vT (fX2_run vN w (nI (clr k P))) (nI P) m t = (b, setV vT P m t) ∧ oX3_beginIf vT (fX2_run vN w (nI (clr k P))) (nI P) m t ∧ oX4_go y (nI k) 99 ∧ m_wa (fX4_go y (nI k) 99) P = b - t ∧ m_en (fX4_go y (nI k) 99) P = b + fX1_timeToDraw vN (nI P) ∧
      (0 ≤ (b - t).toInt ∧ (b - t).toInt ≤ 3440 ∧ 0 ≤ (b + fX1_timeToDraw vN (nI P)).toInt ∧ (b + fX1_timeToDraw vN (nI P)).toInt ≤ 3620) ∧ ∃ wa en to_ or_ : tAr, fX4_go y (nI k) 99 = mO y wa en to_ or_ (nI (pop k)) := by
  have h6 := ok6R hX
  obtain ⟨-, hdr, hcm, ⟨e0, e1, e2, e3⟩, hp⟩ := hX
  obtain ⟨hV1, hV2, hV3⟩ := hV
  obtain ⟨hB, hM2, hM3, hM4⟩ := hM
  obtain ⟨b1, b2, b3, b4, b5, b6, b7, -, -⟩ := hB.base
  have hu : ∀ q, q < 8 → v_mi (setV vT P m t) q = m_fr y q ∧ v_mn (setV vT P m t) q = m_at y q := by
    intro q hq
    by_cases hqP : q = P
    · subst hqP
      rw [hm, ht]
      exact ⟨pk_us, pk_us⟩
    · obtain ⟨c1, c2⟩ := (hV3 q hq).2.2 hqP
      obtain ⟨d1, d2⟩ := hM4 q hq hqP
      obtain ⟨⟨a1, a2, -, -⟩, -⟩ := hp q hq
      refine ⟨?_, ?_⟩
      · rw [d1, ← a1, ← c1]; exact pk_un hqP
      · rw [d2, ← a2, ← c2]; exact pk_un hqP
  have hS : Sc (setV vT P m t) y := by
    refine ⟨by rw [b6]; exact hdr, ⟨?_, ?_, ?_, ?_⟩, fun q hq => ?_⟩
    · rw [b6, ← e0]; exact hV2 0 (by decide)
    · rw [hM2, ← e1]; exact hV2 1 (by decide)
    · rw [hM3, ← e2]; exact hV2 2 (by decide)
    · rw [b7, ← e3]; exact hV2 3 (by decide)
    · obtain ⟨⟨a1, a2, a3, a4⟩, r1, r2, r3, r4⟩ := hp q hq
      obtain ⟨c1, c2, -⟩ := hV3 q hq
      refine ⟨⟨(hu q hq).1, (hu q hq).2, ?_, ?_⟩, ?_, by rw [b4]; exact r3, by rw [b5]; exact r4⟩
      · rw [b4, ← a3]; exact c1
      · rw [b5, ← a4]; exact c2
      · by_cases hqP : q = P
        · subst hqP; rw [ht]; exact ⟨ht0, ht1⟩
        · rw [(hM4 q hq hqP).2]; omega
  have hcl : ∀ q, q < 8 → q ≠ P → atV (setV vT P m t) q = atV vN q ∧ ∀ z, clV (setV vT P m t) z q = clV vN z q := by
    intro q hq hqP
    obtain ⟨c1, c2⟩ := (hV3 q hq).2.2 hqP
    have f1 : v_mi (setV vT P m t) q = v_mi vN q := by rw [← c1]; exact pk_un hqP
    have f2 : v_mn (setV vT P m t) q = v_mn vN q := by rw [← c2]; exact pk_un hqP
    have f3 : v_ca (setV vT P m t) q = v_ca vN q := (hV3 q hq).2.1
    have f4 : ∀ i, i < 4 → v_se (setV vT P m t) i = v_se vN i := hV2
    refine ⟨f2, fun z => ?_⟩
    unfold clV fX1_claimAt
    simp only [z1, z2, z3, c8 hq, f1, f2, f3, f4 1 (by decide), f4 2 (by decide), f4 3 (by decide)]
  have hdt : ∀ q, q < 8 → dtV (setV vT P m t) q = dtV vN q := by
    intro q hq
    have f1 : v_pa (setV vT P m t) q = v_pa vN q := (hV3 q hq).1
    have f4 : v_se (setV vT P m t) 0 = v_se vN 0 := hV2 0 (by decide)
    unfold dtV fX1_timeToDraw
    simp only [z0, c8 hq, f1, f4]
  obtain ⟨g1, g2⟩ := onemore h6 w hk hP hb hcl hdt
  obtain ⟨-, r2, -, -, -, -, r7, -, -, -, -, r12, -⟩ := runs w hk hS
  obtain ⟨-, -, -, r7a, r7b⟩ := r7 P hP hb
  have hw := hS.wait hk hP hb
  have hat : atV (setV vT P m t) P = t := pk_us
  rw [hat] at r7a hw
  rw [hdt P hP] at r7b hw
  have hset : (upd (v_mi vT) P m, upd (v_mn vT) P t, v_pa vT, v_ca vT, v_se vT, v_cm vT) = setV vT P m t := rfl
  refine ⟨bgn (trV (setV vT P m t) k) P, ?_, ?_, r2, r7a, r7b, hw, r12⟩
  · unfold fX3_beginIf
    simp only [lt_, c8 hP, hset, g1]
  · unfold oX3_beginIf
    simp only [lo_, c8 hP, hset]
    exact ⟨vin8 hP, g2, trivial⟩

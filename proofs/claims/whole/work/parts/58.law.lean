/-! the best law -/
def V3 (vT vN : tVl) : Prop := v_cm vT = v_cm vN ∧ v_se vT 0 = v_se vN 0 ∧ v_se vT 3 = v_se vN 3 ∧ ∀ q, q < 8 → v_mi vT q = v_mi vN q ∧ v_mn vT q = v_mn vN q ∧ v_pa vT q = v_pa vN q ∧ v_ca vT q = v_ca vN q
def lwV (vT : tVl) (a b : Int32) : tVl := (v_mi vT, v_mn vT, v_pa vT, v_ca vT, upd (upd (v_se vT) 1 a) 2 b, v_cm vT)
theorem under_eq {vN vT : tVl} (h6 : ok6 vN) (w : tWl) {k : Nat} (s : Int32) (hk : k < 256) (hV : V3 vT vN) (hcm : v_cm vN = nI k) :
    fX3_runUnder vT w s = (lwV vT (s / 4) (s - s / 4 * 4), fX2_run (lwV vT (s / 4) (s - s / 4 * 4)) w (nI k)) ∧ oX3_runUnder vT w s ∧ V3 (lwV vT (s / 4) (s - s / 4 * 4)) vN := by
  obtain ⟨a1, a2⟩ := chg_c (vN := vT) (i := 1) (by decide) (s / 4)
  obtain ⟨b1, b2⟩ := chg_c (vN := (v_mi vT, v_mn vT, v_pa vT, v_ca vT, upd (v_se vT) 1 (s / 4), v_cm vT)) (i := 2) (by decide) (s - s / 4 * 4)
  rw [show nI 1 = 1 from rfl] at a1 a2
  rw [show nI 2 = 2 from rfl] at b1 b2
  have hc : v_cm vT = nI k := hV.1.trans hcm
  have hset : (v_mi vT, v_mn vT, v_pa vT, v_ca vT, upd (upd (v_se vT) 1 (s / 4)) 2 (s - s / 4 * 4), v_cm vT) = lwV vT (s / 4) (s - s / 4 * 4) := rfl
  have hb1 : fX1_change (v_mi vT, v_mn vT, v_pa vT, v_ca vT, upd (v_se vT) 1 (s / 4), v_cm vT) 2 (s - s / 4 * 4) = lwV vT (s / 4) (s - s / 4 * 4) := b1
  have hc2 : v_cm (lwV vT (s / 4) (s - s / 4 * 4)) = nI k := hc
  refine ⟨?_, ?_, hV.1, ?_, ?_, hV.2.2.2⟩
  · unfold fX3_runUnder
    simp only [lt_e, a1, hb1, hc2]
  · unfold oX3_runUnder
    simp only [lo_e, a1, hb1, hc2]
    exact ⟨a2, b2, (run_eq _ (fun p hp => by show ¬ v_mn vT p = -6; rw [(hV.2.2.2 p hp).2.1]; exact h6 p hp) w hk).2, trivial⟩
  · rw [← hV.2.1]
    show upd (upd (v_se vT) 1 (s / 4)) 2 (s - s / 4 * 4) 0 = v_se vT 0
    rw [pk_un (by decide), pk_un (by decide)]
  · rw [← hV.2.2.1]
    show upd (upd (v_se vT) 1 (s / 4)) 2 (s - s / 4 * 4) 3 = v_se vT 3
    rw [pk_un (by decide), pk_un (by decide)]
theorem lw_sc {vN vT : tVl} {z : tMs} (a b : Int32) (hS : Sc vN z) (hV : V3 vT vN) : Sc (lwV vT a b) (mA z (m_fr z) (m_at z) a b) := by
  obtain ⟨s1, ⟨s2a, -, -, s2d⟩, s3⟩ := hS
  have f0 : v_se (lwV vT a b) 0 = v_se vT 0 := by
    show upd (upd (v_se vT) 1 a) 2 b 0 = v_se vT 0
    rw [pk_un (by decide), pk_un (by decide)]
  have f1 : v_se (lwV vT a b) 1 = a := by
    show upd (upd (v_se vT) 1 a) 2 b 1 = a
    rw [pk_un (by decide), pk_us]
  have f2 : v_se (lwV vT a b) 2 = b := by
    show upd (upd (v_se vT) 1 a) 2 b 2 = b
    rw [pk_us]
  have f3 : v_se (lwV vT a b) 3 = v_se vT 3 := by
    show upd (upd (v_se vT) 1 a) 2 b 3 = v_se vT 3
    rw [pk_un (by decide), pk_un (by decide)]
  refine ⟨s1, ⟨?_, f1, f2, ?_⟩, fun q hq => ?_⟩
  · rw [f0, hV.2.1]; exact s2a
  · rw [f3, hV.2.2.1]; exact s2d
  · obtain ⟨⟨t1, t2, t3, t4⟩, t5⟩ := s3 q hq
    obtain ⟨v1, v2, v3, v4⟩ := hV.2.2.2 q hq
    exact ⟨⟨v1.trans t1, v2.trans t2, v3.trans t3, v4.trans t4⟩, t5⟩
theorem law_s {vN vT : tVl} {x y : tMs} (w : tWl) {k : Nat} (s : Int32) (hk : k < 256) (hX : RX vN x) (hco : m_co x = nI k) (hV : V3 vT vN) (hB : SB x y) :
    ∃ Y, SB x Y ∧ fX4_go (mA (fX4_layNow y) (m_fr (fX4_layNow y)) (m_at (fX4_layNow y)) (s / 4) (s - s / 4 * 4)) (nI k) 99 = Y ∧ m_co (fX4_layNow y) = nI k ∧ m_co Y = nI k ∧ oX4_layNow y ∧ oX4_go (mA (fX4_layNow y) (m_fr (fX4_layNow y)) (m_at (fX4_layNow y)) (s / 4) (s - s / 4 * 4)) (nI k) 99 ∧
      w_wo (fX2_run (lwV vT (s / 4) (s - s / 4 * 4)) w (nI k)) = fX4_worstOf Y (nI k) ∧ w_su (fX2_run (lwV vT (s / 4) (s - s / 4 * 4)) w (nI k)) = fX4_sumOf Y (nI k) ∧ oX4_worstOf Y (nI k) ∧ oX4_sumOf Y (nI k) := by
  have hXy : RX vN y := by
    obtain ⟨fr, at_, wa, en, to_, or_, my, bf, bs, he⟩ := id hB
    rw [he]; exact hX
  obtain ⟨o1, hS, hB2, hc, -, -, -⟩ := scN hXy
  have hyc : m_co (fX4_layNow y) = nI k := hc.trans (hB.base.1.trans hco)
  generalize fX4_layNow y = z at *
  have hS2 := lw_sc (s / 4) (s - s / 4 * 4) hS hV
  obtain ⟨-, r2, -, -, -, -, -, -, r9, r10, -, ⟨wa, en, to_, or_, r12⟩, -⟩ := runs w hk hS2
  clear hS2
  generalize fX2_run (lwV vT (s / 4) (s - s / 4 * 4)) w (nI k) = Wr at *
  generalize fX4_go (mA z (m_fr z) (m_at z) (s / 4) (s - s / 4 * 4)) (nI k) 99 = Y at *
  have hsb : SB z Y := (SB.A z _ _ _ _).tr (by rw [r12]; exact SB.O _ _ _ _ _ _)
  obtain ⟨e1, e2⟩ := worst_eq Y hk
  obtain ⟨e3, e4⟩ := sum_eq Y hk
  exact ⟨Y, (hB.tr hB2).tr hsb, rfl, hyc, hsb.base.1.trans hyc, o1, r2, r9.trans e1.symm, r10.trans e3.symm, e2, e4⟩
theorem law_c (s1 s2 s3 s4 s5 : Int32) (n : Nat) (y : tMs) : fX4_law_26 s1 (n + 1) y s2 s3 s4 s5 = (if 16 ≤ s5 then (if s1 = 0 then ((s2 / 4), y) else (if s1 = 1 then ((s2 - (s2 / 4) * 4), y) else (s3, y))) else lt_ (fX4_go (mA (fX4_layNow y) (m_fr (fX4_layNow y)) (m_at (fX4_layNow y)) (s5 / 4) (s5 - s5 / 4 * 4)) (m_co (fX4_layNow y)) 99) fun q16 => lt_ (fX4_worstOf q16 (m_co q16)) fun q19 => lt_ (fX4_sumOf q16 (m_co q16)) fun q22 => if s2 < 0 then fX4_law_26 s1 n q16 s5 q19 q22 (s5 + 1) else (if q19 < s3 then fX4_law_26 s1 n q16 s5 q19 q22 (s5 + 1) else (if q19 = s3 then (if s4 ≤ q22 then fX4_law_26 s1 n q16 s2 s3 s4 (s5 + 1) else fX4_law_26 s1 n q16 s5 q19 q22 (s5 + 1)) else fX4_law_26 s1 n q16 s2 s3 s4 (s5 + 1)))) := by
  rw [fX4_law_26]
  simp only [lt_e]
  generalize fX4_layNow y = z
  rfl
theorem law_o (s1 s2 s3 s4 s5 : Int32) (n : Nat) (y : tMs) : oX4_law_26 s1 (n + 1) y s2 s3 s4 s5 = (if 16 ≤ s5 then True else (oX4_layNow y ∧ (oX4_go (mA (fX4_layNow y) (m_fr (fX4_layNow y)) (m_at (fX4_layNow y)) (s5 / 4) (s5 - s5 / 4 * 4)) (m_co (fX4_layNow y)) 99 ∧ (lo_ (fX4_go (mA (fX4_layNow y) (m_fr (fX4_layNow y)) (m_at (fX4_layNow y)) (s5 / 4) (s5 - s5 / 4 * 4)) (m_co (fX4_layNow y)) 99) fun q16 => oX4_worstOf q16 (m_co q16) ∧ (lo_ (fX4_worstOf q16 (m_co q16)) fun q19 => oX4_sumOf q16 (m_co q16) ∧ (lo_ (fX4_sumOf q16 (m_co q16)) fun q22 => if s2 < 0 then oX4_law_26 s1 n q16 s5 q19 q22 (s5 + 1) else (if q19 < s3 then oX4_law_26 s1 n q16 s5 q19 q22 (s5 + 1) else (if q19 = s3 then (if s4 ≤ q22 then oX4_law_26 s1 n q16 s2 s3 s4 (s5 + 1) else oX4_law_26 s1 n q16 s5 q19 q22 (s5 + 1)) else oX4_law_26 s1 n q16 s2 s3 s4 (s5 + 1))))))))) := by
  rw [oX4_law_26]
  simp only [lo_e]
  generalize fX4_layNow y = z
  rfl
theorem law_l {vN : tVl} {x : tMs} {k : Nat} (hk : k < 256) (hX : RX vN x) (hco : m_co x = nI k) (hcm : v_cm vN = nI k) (s1 : Int32) : ∀ (n i : Nat) (vT : tVl) (w : tWl) (y : tMs) (s2 s3 s4 : Int32), i ≤ 16 → 16 < i + n → V3 vT vN → SB x y → ¬ s2 < 0 →
    (fX3_law_50 s1 n vT w s2 s3 s4 (nI i)).1 = (fX4_law_26 s1 n y s2 s3 s4 (nI i)).1 ∧ oX3_law_50 s1 n vT w s2 s3 s4 (nI i) ∧ oX4_law_26 s1 n y s2 s3 s4 (nI i) ∧ SB x (fX4_law_26 s1 n y s2 s3 s4 (nI i)).2
  | 0, i, vT, w, y, s2, s3, s4, h1, h2, _, _, _ => by omega
  | n + 1, i, vT, w, y, s2, s3, s4, h1, h2, hV, hB, hs2 => by
    have g := iN (c := 16) (n := 16) (by decide) (show i < 2 ^ 31 by omega)
    rw [law_c, law_o]
    by_cases hi : i = 16
    · have c1 : (16 : Int32) ≤ nI i := g.1.mpr (by omega)
      simp only [fX3_law_50, oX3_law_50, if_pos c1]
      by_cases c2 : s1 = 0
      · simp only [if_pos c2]; exact ⟨trivial, trivial, trivial, hB⟩
      · simp only [if_neg c2]
        by_cases c3 : s1 = 1
        · simp only [if_pos c3]; exact ⟨trivial, trivial, trivial, hB⟩
        · simp only [if_neg c3]; exact ⟨trivial, trivial, trivial, hB⟩
    · have c1 : ¬ (16 : Int32) ≤ nI i := fun z => by have := g.1.mp z; omega
      obtain ⟨u1, u2, u3⟩ := under_eq (ok6R hX) w (nI i) hk hV hcm
      obtain ⟨Y, d1, d2, d3, d4, d5, d6, d7, d8, d9, d10⟩ := law_s w (nI i) hk hX hco hV hB
      have hni : ¬ nI i < 0 := nI_pos (by omega)
      simp only [fX3_law_50, oX3_law_50, lt_e, lo_e, if_neg c1, u1, d3, d2, d4, d7, d8, if_neg hs2, nI_1]
      have ihk := law_l hk hX hco hcm s1 n (i + 1) _ (fX2_run (lwV vT (nI i / 4) (nI i - nI i / 4 * 4)) w (nI k)) Y s2 s3 s4 (by omega) (by omega) u3 d1 hs2
      have ihn := law_l hk hX hco hcm s1 n (i + 1) _ (fX2_run (lwV vT (nI i / 4) (nI i - nI i / 4 * 4)) w (nI k)) Y (nI i) (fX4_worstOf Y (nI k)) (fX4_sumOf Y (nI k)) (by omega) (by omega) u3 d1 hni
      by_cases e1 : fX4_worstOf Y (nI k) < s3
      · simp only [if_pos e1, if_neg (bet_1 e1)]
        exact ⟨ihn.1, ⟨u2, ihn.2.1⟩, ⟨d5, d6, d9, d10, ihn.2.2.1⟩, ihn.2.2.2⟩
      · simp only [if_neg e1]
        by_cases e2 : fX4_worstOf Y (nI k) = s3
        · simp only [if_pos e2]
          by_cases e3 : s4 ≤ fX4_sumOf Y (nI k)
          · simp only [if_pos e3, if_pos (bet_2 e1 e2 e3)]
            exact ⟨ihk.1, ⟨u2, ihk.2.1⟩, ⟨d5, d6, d9, d10, ihk.2.2.1⟩, ihk.2.2.2⟩
          · simp only [if_neg e3, if_neg (bet_3 e1 e2 e3)]
            exact ⟨ihn.1, ⟨u2, ihn.2.1⟩, ⟨d5, d6, d9, d10, ihn.2.2.1⟩, ihn.2.2.2⟩
        · simp only [if_neg e2, if_pos (bet_4 e1 e2)]
          exact ⟨ihk.1, ⟨u2, ihk.2.1⟩, ⟨d5, d6, d9, d10, ihk.2.2.1⟩, ihk.2.2.2⟩
theorem st_law {kp : tAr} {vN vI vJ : tVl} {pd : tPd} {x : tMs} (h : Rel kp vN vI vJ pd x) (vT : tVl) (w : tWl) (s1 : Int32) :
    oX3_law vN vT w s1 ∧ oX4_law x s1 ∧ (fX3_law vN vT w s1).1 = (fX4_law x s1).1 ∧ Rel kp vN vI vJ pd (fX4_law x s1).2 := by
  obtain ⟨⟨⟨k, hk, hco⟩, hdr, hcm, hse, hp⟩, hR⟩ := id h
  have hcm' : v_cm vN = nI k := hcm.trans hco
  have hin : fX4_in (Int32.toInt64 s1) 0 2 = fX3_within s1 0 2 := in_n s1 (by decide) (by decide)
  obtain ⟨c1, c2⟩ := copy_eq vT vN (caR h.1)
  have hV : V3 (fX1_copy vT vN) vN := ⟨c2.1, c2.2.1 0 (by decide), c2.2.1 3 (by decide), c2.2.2⟩
  obtain ⟨u1, u2, u3⟩ := under_eq (ok6R h.1) w 1 hk hV hcm'
  obtain ⟨Y, d1, d2, d3, d4, d5, d6, d7, d8, d9, d10⟩ := law_s w 1 hk h.1 hco hV (SB.rf x)
  have lp := law_l hk h.1 hco hcm' s1 15 2 _ (fX2_run (lwV (fX1_copy vT vN) (1 / 4) (1 - 1 / 4 * 4)) w (nI k)) Y 1 (fX4_worstOf Y (nI k)) (fX4_sumOf Y (nI k)) (by omega) (by omega) u3 d1 (by decide)
  have lc := law_c s1 (-6) 0 0 1 15 x
  have lo := law_o s1 (-6) 0 0 1 15 x
  have g1 : ¬ (16 : Int32) ≤ 1 := by decide
  have g6 : (-6 : Int32) < 0 := by decide
  simp only [lt_e, lo_e, if_neg g1, if_pos g6, d3, d2, d4, show (1 : Int32) + 1 = nI 2 by decide] at lc lo
  unfold oX3_law oX4_law fX3_law fX4_law
  simp only [lt_e, lo_e, hin]
  rcases wi s1 0 2 with ⟨w1, -⟩ | ⟨w1, a1, b1⟩
  · simp only [w1, if_true]
    exact ⟨trivial, trivial, trivial, h⟩
  · simp only [w1, if_neg i10, u1, d7, d8]
    rw [lc, lo, show (2 : Int32) = nI 2 from rfl]
    exact ⟨⟨c1, u2, lp.2.1⟩, ⟨d5, d6, d9, d10, lp.2.2.1⟩, lp.1, h.sb lp.2.2.2⟩

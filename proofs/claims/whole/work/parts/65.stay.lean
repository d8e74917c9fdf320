/-! who stays at home -/
theorem stayM_end {s1 : Int32} {c : Nat} (hc : c < 256) : ∀ (n s : Nat) (y : tMs) (a : Int32), s ≤ 256 → 256 < s + n → c < s → m_co y = nI c →
    oX4_stay_24 s1 n y a (nI s) ∧ fX4_stay_24 s1 n y a (nI s) = (a, y)
  | 0, s, y, a, h1, h2, h3, h4 => by omega
  | n + 1, s, y, a, h1, h2, h3, h4 => by
    rw [oX4_stay_24, fX4_stay_24]
    by_cases h8 : s = 256
    · have g := (le256 h1).mpr h8
      rw [if_pos g, if_pos g]
      exact ⟨trivial, rfl⟩
    · have g : ¬ (256 : Int32) ≤ nI s := fun h => h8 ((le256 h1).mp h)
      have hs : s < 256 := by omega
      have gd : ¬ nI (dif s c) = 0 := by
        rw [nI0 (dif_lt s hs c hc)]
        intro e
        have := (dif_sub s hs c hc e).1
        omega
      rw [if_neg g, if_neg g, h4, bt_dif s hs c hc, if_neg gd, if_neg gd]
      simp only [lt_e, lo_e, nI_1]
      exact stayM_end hc n (s + 1) y a (by omega) (by omega) (by omega) h4
/-- both bests: none found yet, or the same set -/
def SBst (c s : Nat) (a b : Int32) : Prop := (a = nI c ∧ b = -6) ∨ ∃ d, d < s ∧ dif d c = 0 ∧ a = nI d ∧ b = nI d
theorem SBst.up {c s : Nat} {a b : Int32} (h : SBst c s a b) : SBst c (s + 1) a b := by
  rcases h with h | ⟨d, h1, h2⟩
  · exact Or.inl h
  · exact Or.inr ⟨d, by omega, h2⟩
theorem difcc : ∀ c, c < 256 → dif c c = 0 ∧ dif 0 c = 0 := by decide +kernel
theorem stay_loop {s1 : Int32} {u : tVl} {c : Nat} (hc : c < 256) (hcm : v_cm u = nI c) (h0 : 0 ≤ s1.toInt) : ∀ (m n s : Nat) (w : tWl) (y : tMs) (a b : Int32), s ≤ c → c < s + n → 256 < s + m → m_co y = nI c → Sc u y → SBst c s a b →
    oX3_stay_24 u s1 n w a (nI s) ∧ oX4_stay_24 s1 m y b (nI s) ∧ (fX3_stay_24 u s1 n w a (nI s)).1 = (fX4_stay_24 s1 m y b (nI s)).1 ∧ SB y (fX4_stay_24 s1 m y b (nI s)).2
  | 0, n, s, w, y, a, b, h1, h2, h3, h5, h6, h7 => by omega
  | m + 1, 0, s, w, y, a, b, h1, h2, h3, h5, h6, h7 => by omega
  | m + 1, n + 1, s, w, y, a, b, h1, h2, h3, h5, h6, h7 => by
    have hs : s < 256 := by omega
    have g2 : ¬ (256 : Int32) ≤ nI s := fun h => by
      have := (le256 (show s ≤ 256 by omega)).mp h
      omega
    have n6 : (-6 : Int32) < 0 := by decide
    have m0 : (0 : Int32).toInt = 0 := by decide
    rw [oX3_stay_24, oX4_stay_24, fX3_stay_24, fX4_stay_24, if_neg g2, if_neg g2, hcm, h5, bt_dif s hs c hc, bt_dif c hc s hs]
    have ho := dif_lt c hc s hs
    obtain ⟨r1, r2, -, r4, r5, r6, r7, -, -, r10⟩ := solo w ho h6
    generalize fX2_run u w (nI (dif c s)) = w2 at *
    generalize fX4_go y (nI (dif c s)) 99 = z at *
    have z6 : m_co z = nI c := r7.trans h5
    obtain ⟨c1, c2⟩ := worst_eq z ho
    rw [r10] at c1
    by_cases hsc : s = c
    · subst hsc
      have g : nI s ≤ nI s := by rw [i_le]; exact Int.le_refl _
      have gd : nI (dif s s) = 0 := by rw [nI0 ho]; exact (difcc s hc).1
      rw [if_pos g, if_pos g, if_pos gd, if_pos gd]
      rcases h7 with ⟨rfl, rfl⟩ | ⟨d, k1, k2, rfl, rfl⟩
      · obtain ⟨e1, e2⟩ := stayM_end (s1 := s1) hc m (s + 1) z (nI s) (by omega) (by omega) (by omega) z6
        have hw : ¬ s1 < Wd u (dif s s) := by
          rw [(difcc s hc).1, Wd_e, i_lt]; omega
        simp only [lt_e, lo_e, if_pos n6, z6, bt_dif s hc s hc, c1, if_neg hw, nI_1, e2]
        exact ⟨trivial, ⟨r4, c2, e1⟩, trivial, r6⟩
      · obtain ⟨e1, e2⟩ := stayM_end (s1 := s1) hc m (s + 1) y (nI d) (by omega) (by omega) (by omega) h5
        have hp := (dif_sub d (by omega) s hc k2).2.2.2 (by omega)
        have hp8 := pop_le s hc
        have gp : nI (pop d) ≤ nI (pop s) := by rw [nIle (by omega) (by omega)]; omega
        simp only [lt_e, lo_e, if_neg (nneg (show d < 256 by omega)), ones_eq s hc, ones_eq d (show d < 256 by omega), if_pos gp, nI_1, e2]
        exact ⟨trivial, ⟨ones_ok s hc, ones_ok d (by omega), e1⟩, trivial, SB.rf y⟩
    · have g : ¬ nI c ≤ nI s := nI_ge (by omega) (by omega)
      rw [if_neg g, if_neg g]
      have ih := fun (wq : tWl) (yq : tMs) (a' b' : Int32) => stay_loop (s1 := s1) hc hcm h0 m n (s + 1) wq yq a' b' (by omega) (by omega) (by omega)
      by_cases hd : dif s c = 0
      · have gd : nI (dif s c) = 0 := by rw [nI0 (dif_lt s hs c hc)]; exact hd
        rw [if_pos gd, if_pos gd, if_pos gd, if_pos gd]
        have hfs : SBst c (s + 1) (nI s) (nI s) := Or.inr ⟨s, by omega, hd, rfl, rfl⟩
        have hps := (dif_sub s hs c hc hd).2.2.2 hsc
        have hp8 := pop_le c hc
        rcases h7 with ⟨rfl, rfl⟩ | ⟨d, k1, k2, rfl, rfl⟩
        · have gp : ¬ nI (pop c) ≤ nI (pop s) := nI_ge hps (by omega)
          simp only [lt_e, lo_e, if_pos n6, z6, bt_dif c hc s hs, c1, r2, bc_eq s hs, bc_eq c hc, if_neg gp, nI_1]
          by_cases hw : s1 < Wd u (dif c s)
          · obtain ⟨f1, f2, f3, f4⟩ := ih w2 z (nI c) (-6) z6 r5 (Or.inl ⟨rfl, rfl⟩)
            simp only [if_pos hw]
            exact ⟨⟨r1, f1⟩, ⟨r4, c2, f2⟩, f3, r6.tr f4⟩
          · obtain ⟨f1, f2, f3, f4⟩ := ih w2 z (nI s) (nI s) z6 r5 hfs
            simp only [if_neg hw]
            exact ⟨⟨r1, f1⟩, ⟨r4, c2, f2⟩, f3, r6.tr f4⟩
        · have hd8 : d < 256 := by omega
          simp only [lt_e, lo_e, if_neg (nneg hd8), z6, bt_dif c hc s hs, c1, r2, bc_eq s hs, bc_eq d hd8, ones_eq s hs, ones_eq d hd8, nI_1]
          have os := ones_ok s hs
          have od := ones_ok d hd8
          by_cases gp : nI (pop d) ≤ nI (pop s)
          · obtain ⟨f1, f2, f3, f4⟩ := ih w y (nI d) (nI d) h5 h6 (Or.inr ⟨d, by omega, k2, rfl, rfl⟩)
            simp only [if_pos gp]
            exact ⟨f1, ⟨os, od, f2⟩, f3, f4⟩
          · simp only [if_neg gp]
            by_cases hw : s1 < Wd u (dif c s)
            · obtain ⟨f1, f2, f3, f4⟩ := ih w2 z (nI d) (nI d) z6 r5 (Or.inr ⟨d, by omega, k2, rfl, rfl⟩)
              simp only [if_pos hw]
              exact ⟨⟨r1, f1⟩, ⟨os, od, r4, c2, f2⟩, f3, r6.tr f4⟩
            · obtain ⟨f1, f2, f3, f4⟩ := ih w2 z (nI s) (nI s) z6 r5 hfs
              simp only [if_neg hw]
              exact ⟨⟨r1, f1⟩, ⟨os, od, r4, c2, f2⟩, f3, r6.tr f4⟩
      · have gd : ¬ nI (dif s c) = 0 := by rw [nI0 (dif_lt s hs c hc)]; exact hd
        simp only [lt_e, lo_e, if_neg gd, nI_1]
        exact ih w y a b h5 h6 h7.up
section StayS
variable {kp : tAr} {vN vI vJ : tVl} {pd : tPd} {x : tMs}
theorem st_stay (h : Rel kp vN vI vJ pd x) (w : tWl) (s1 : Int32) :
    oX3_stay vN w s1 ∧ oX4_stay x s1 ∧ (fX3_stay vN w s1).1 = (fX4_stay x s1).1 ∧ Rel kp vN vI vJ pd (fX4_stay x s1).2 := by
  obtain ⟨⟨⟨k, hk, hco⟩, hdr, hcm, hse, hp⟩, hR⟩ := id h
  have hcm' : v_cm vN = nI k := hcm.trans hco
  have e1 : fX4_in (Int32.toInt64 s1) 0 9999 = fX3_within s1 0 9999 := in_n s1 (by decide) (by decide)
  rw [oX3_stay, oX4_stay, fX3_stay, fX4_stay]
  rcases wi s1 0 9999 with ⟨w1, -⟩ | ⟨w1, a1, -⟩
  · simp only [lt_e, lo_e, e1, w1, if_true]
    exact ⟨trivial, trivial, trivial, h⟩
  · obtain ⟨o1, hS, hB, hc, -, -, -⟩ := scN h.1
    generalize fX4_layNow x = y at *
    have hcy : m_co y = nI k := hc.trans hco
    have m0 : (0 : Int32).toInt = 0 := by decide
    simp only [lt_e, lo_e, e1, w1, if_neg i10, hcm']
    obtain ⟨f1, f2, f3, f4⟩ := stay_loop (s1 := s1) hk hcm' (by omega) 257 257 0 w y (nI k) (-6) (by omega) (by omega) (by omega) hcy hS (Or.inl ⟨rfl, rfl⟩)
    rw [nI_0] at f1 f2 f3 f4
    exact ⟨f1, ⟨o1, f2⟩, f3, h.sb (hB.tr f4)⟩
end StayS

/-! two wells -/
def LX (b t m u : Int32) : Prop := b.toInt < m.toInt ∨ (b = m ∧ t.toInt ≤ u.toInt)
theorem LX.tr {a b c d e f : Int32} (h : LX a b c d) (g : LX c d e f) : LX a b e f := by
  rcases h with h | ⟨rfl, h⟩
  · rcases g with g | ⟨rfl, g⟩
    · exact Or.inl (by omega)
    · exact Or.inl h
  · rcases g with g | ⟨rfl, g⟩
    · exact Or.inl g
    · exact Or.inr ⟨rfl, by omega⟩
theorem LX.rf (a b : Int32) : LX a b a b := Or.inr ⟨rfl, Int.le_refl _⟩
def two3 (s1 a b t : Int32) : Int32 := if s1 = 0 then a else (if s1 = 1 then b else t)
theorem le256 {s : Nat} (h : s ≤ 256) : (256 : Int32) ≤ nI s ↔ s = 256 := by
  rw [show (256 : Int32) = nI 256 from rfl, nI_leI (by decide) (by omega)]
  omega
theorem nneg {a : Nat} (h : a < 256) : ¬ nI a < 0 := nI_pos (by omega)
/-- past all that come, the model goes on and finds nothing more -/
theorem twoM_end {s1 : Int32} {c : Nat} (hc : c < 256) : ∀ (n s : Nat) (y : tMs) (a b t : Int32), s ≤ 256 → 256 < s + n → c < s → m_co y = nI c →
    oX4_two_30 s1 n y a b t (nI s) ∧ fX4_two_30 s1 n y a b t (nI s) = (two3 s1 a b t, y)
  | 0, s, y, a, b, t, h1, h2, h3, h4 => by omega
  | n + 1, s, y, a, b, t, h1, h2, h3, h4 => by
    rw [oX4_two_30, fX4_two_30]
    by_cases h8 : s = 256
    · have g := (le256 h1).mpr h8
      rw [if_pos g, if_pos g]
      refine ⟨trivial, ?_⟩
      unfold two3
      by_cases e0 : s1 = 0
      · rw [if_pos e0, if_pos e0]
      · rw [if_neg e0, if_neg e0]
        by_cases e1 : s1 = 1
        · rw [if_pos e1, if_pos e1]
        · rw [if_neg e1, if_neg e1]
    · have g : ¬ (256 : Int32) ≤ nI s := fun h => h8 ((le256 h1).mp h)
      have hs : s < 256 := by omega
      have gd : ¬ nI (dif s c) = 0 := by
        rw [nI0 (dif_lt s hs c hc)]
        intro e
        have := (dif_sub s hs c hc e).1
        omega
      rw [if_neg g, if_neg g, h4, bt_dif s hs c hc, if_neg gd, if_neg gd]
      simp only [lt_e, lo_e, nI_1]
      exact twoM_end hc n (s + 1) y a b t (by omega) (by omega) (by omega) h4
theorem two_loop {s1 : Int32} {u : tVl} {c : Nat} (hc : c < 256) (hcm : v_cm u = nI c) : ∀ (m n s : Nat) (w : tWl) (y : tMs) (a : Nat) (b t : Int32), s ≤ c + 1 → c + 1 < s + n → 256 < s + m → a < 256 → m_co y = nI c → Sc u y → (∀ d, d < s → dif d c = 0 → LX b t (Mx u c d) (Tx u c d)) →
    oX3_two_52 u s1 n w (nI a) b t (nI s) ∧ oX4_two_30 s1 m y (nI a) b t (nI s) ∧ (fX3_two_52 u s1 n w (nI a) b t (nI s)).1 = (fX4_two_30 s1 m y (nI a) b t (nI s)).1 ∧ SB y (fX4_two_30 s1 m y (nI a) b t (nI s)).2
  | 0, n, s, w, y, a, b, t, h1, h2, h3, h4, h5, h6, h7 => by omega
  | m + 1, 0, s, w, y, a, b, t, h1, h2, h3, h4, h5, h6, h7 => by omega
  | m + 1, n + 1, s, w, y, a, b, t, h1, h2, h3, h4, h5, h6, h7 => by
    by_cases hs1 : s = c + 1
    · have g : nI c < nI s := nI_lt (by omega) (by omega)
      obtain ⟨o, e⟩ := twoM_end (s1 := s1) hc (m + 1) s y (nI a) b t (by omega) (by omega) (by omega) h5
      refine ⟨?_, o, ?_, ?_⟩
      · rw [oX3_two_52, hcm, if_pos g]; trivial
      · rw [e, fX3_two_52, hcm, if_pos g]
        show _ = two3 s1 (nI a) b t
        unfold two3
        by_cases e0 : s1 = 0
        · rw [if_pos e0, if_pos e0]
        · rw [if_neg e0, if_neg e0]
          by_cases e1 : s1 = 1
          · rw [if_pos e1, if_pos e1]
          · rw [if_neg e1, if_neg e1]
      · rw [e]; exact SB.rf y
    · have hs : s < 256 := by omega
      have g : ¬ nI c < nI s := by
        rw [i_lt, nI_toInt (by omega), nI_toInt (by omega)]
        omega
      have g2 : ¬ (256 : Int32) ≤ nI s := fun h => by
        have := (le256 (show s ≤ 256 by omega)).mp h
        omega
      rw [oX3_two_52, oX4_two_30, fX3_two_52, fX4_two_30, if_neg g2, if_neg g2, hcm, if_neg g, if_neg g, h5, bt_dif s hs c hc, bt_dif c hc s hs]
      have ho := dif_lt c hc s hs
      by_cases hd : dif s c = 0
      · have gd : nI (dif s c) = 0 := by rw [nI0 (dif_lt s hs c hc)]; exact hd
        obtain ⟨z, z0, z1, z2, z3, z4, z5, z6, z7, z8, z9, z10⟩ := pair hc hs hd h6 h5
        simp only [lt_e, lo_e, if_pos gd, z0, z2, z6, z9, z10, bt_dif c hc s hs, nI_1, if_neg (nneg h4)]
        have hl : ∀ (b' t' : Int32), LX b' t' b t → LX b' t' (Mx u c s) (Tx u c s) → ∀ d, d < s + 1 → dif d c = 0 → LX b' t' (Mx u c d) (Tx u c d) := fun b' t' e1 e2 d hd1 hd2 => by
          by_cases e : d = s
          · subst e; exact e2
          · exact e1.tr (h7 d (by omega) hd2)
        by_cases hle : s ≤ dif c s
        · have gl : nI s ≤ nI (dif c s) := by rw [nIle (by omega) (by omega)]; exact hle
          obtain ⟨r1, r2, r3, -⟩ := solo w hs h6
          generalize fX2_run u w (nI s) = w1 at *
          obtain ⟨q1, q2, q3, -⟩ := solo w1 ho h6
          generalize fX2_run u w1 (nI (dif c s)) = w2 at *
          have eM : (if Wd u s < Wd u (dif c s) then Wd u (dif c s) else Wd u s) = Mx u c s := rfl
          have eT : Sd u s + Sd u (dif c s) = Tx u c s := rfl
          simp only [if_pos gl, r2, r3, q2, q3, eM, eT]
          by_cases c1 : Mx u c s < b
          · have c1' := c1
            rw [i_lt] at c1'
            obtain ⟨f1, f2, f3, f4⟩ := two_loop (s1 := s1) hc hcm m n (s + 1) w2 z s (Mx u c s) (Tx u c s) (by omega) (by omega) (by omega) hs z6 z5 (hl _ _ (Or.inl c1') (LX.rf _ _))
            simp only [if_pos c1, if_neg (bet_1 c1)]
            exact ⟨⟨r1, q1, f1⟩, ⟨z1, z3, z7, z8, f2⟩, f3, z4.tr f4⟩
          · have c1' := c1
            rw [i_lt] at c1'
            simp only [if_neg c1]
            by_cases c2 : Mx u c s = b
            · simp only [if_pos c2]
              by_cases c3 : t ≤ Tx u c s
              · have c3' := c3
                rw [i_le] at c3'
                obtain ⟨f1, f2, f3, f4⟩ := two_loop (s1 := s1) hc hcm m n (s + 1) w2 z a b t (by omega) (by omega) (by omega) h4 z6 z5 (hl _ _ (LX.rf _ _) (Or.inr ⟨c2.symm, c3'⟩))
                simp only [if_pos c3, if_pos (bet_2 c1 c2 c3)]
                exact ⟨⟨r1, q1, f1⟩, ⟨z1, z3, z7, z8, f2⟩, f3, z4.tr f4⟩
              · have c3' := c3
                rw [i_le] at c3'
                obtain ⟨f1, f2, f3, f4⟩ := two_loop (s1 := s1) hc hcm m n (s + 1) w2 z s (Mx u c s) (Tx u c s) (by omega) (by omega) (by omega) hs z6 z5 (hl _ _ (Or.inr ⟨c2, by omega⟩) (LX.rf _ _))
                simp only [if_neg c3, if_neg (bet_3 c1 c2 c3)]
                exact ⟨⟨r1, q1, f1⟩, ⟨z1, z3, z7, z8, f2⟩, f3, z4.tr f4⟩
            · simp only [if_neg c2, if_pos (bet_4 c1 c2)]
              have c2' : ¬ (Mx u c s).toInt = b.toInt := fun e => c2 (Int32.toInt_inj.mp e)
              obtain ⟨f1, f2, f3, f4⟩ := two_loop (s1 := s1) hc hcm m n (s + 1) w2 z a b t (by omega) (by omega) (by omega) h4 z6 z5 (hl _ _ (LX.rf _ _) (Or.inl (by omega)))
              exact ⟨⟨r1, q1, f1⟩, ⟨z1, z3, z7, z8, f2⟩, f3, z4.tr f4⟩
        · have gl : ¬ nI s ≤ nI (dif c s) := by rw [nIle (by omega) (by omega)]; exact hle
          obtain ⟨d1, d2, d3, -⟩ := dif_sub s hs c hc hd
          have hx := h7 (dif c s) (by omega) d3
          rw [Mx_sy u d2, Tx_sy u d2] at hx
          obtain ⟨f1, f2, f3, f4⟩ := two_loop (s1 := s1) hc hcm m n (s + 1) w z a b t (by omega) (by omega) (by omega) h4 z6 z5 (hl _ _ (LX.rf _ _) hx)
          have c1 : ¬ Mx u c s < b := by
            rw [i_lt]
            rcases hx with e | ⟨e, -⟩
            · omega
            · rw [e]; omega
          simp only [if_neg gl, if_neg c1]
          by_cases c2 : Mx u c s = b
          · have c3 : t ≤ Tx u c s := by
              rw [i_le]
              rcases hx with e | ⟨-, e⟩
              · rw [c2] at e; omega
              · exact e
            simp only [if_pos c2, if_pos c3]
            exact ⟨f1, ⟨z1, z3, z7, z8, f2⟩, f3, z4.tr f4⟩
          · simp only [if_neg c2]
            exact ⟨f1, ⟨z1, z3, z7, z8, f2⟩, f3, z4.tr f4⟩
      · have gd : ¬ nI (dif s c) = 0 := by rw [nI0 (dif_lt s hs c hc)]; exact hd
        simp only [lt_e, lo_e, if_neg gd, nI_1]
        exact two_loop hc hcm m n (s + 1) w y a b t (by omega) (by omega) (by omega) h4 h5 h6 (fun d hl hdc => by
          by_cases e : d = s
          · subst e; exact absurd hdc hd
          · exact h7 d (by omega) hdc)
section TwoS
variable {kp : tAr} {vN vI vJ : tVl} {pd : tPd} {x : tMs}
theorem st_two (h : Rel kp vN vI vJ pd x) (w : tWl) (s1 : Int32) :
    oX3_two vN w s1 ∧ oX4_two x s1 ∧ (fX3_two vN w s1).1 = (fX4_two x s1).1 ∧ Rel kp vN vI vJ pd (fX4_two x s1).2 := by
  obtain ⟨⟨⟨k, hk, hco⟩, hdr, hcm, hse, hp⟩, hR⟩ := id h
  have hcm' : v_cm vN = nI k := hcm.trans hco
  have e1 : fX4_in (Int32.toInt64 s1) 0 2 = fX3_within s1 0 2 := in_n s1 (by decide) (by decide)
  rw [oX3_two, oX4_two, fX3_two, fX4_two]
  rcases wi s1 0 2 with ⟨w1, -⟩ | ⟨w1, -, -⟩
  · simp only [lt_e, lo_e, e1, w1, if_true]
    exact ⟨trivial, trivial, trivial, h⟩
  · obtain ⟨o1, hS, hB, hc, -, -, -⟩ := scN h.1
    generalize fX4_layNow x = y at *
    have hcy : m_co y = nI k := hc.trans hco
    obtain ⟨r1, r2, r3, -⟩ := solo w hk hS
    simp only [lt_e, lo_e, e1, w1, if_neg i10, hcm']
    generalize fX2_run vN w (nI k) = wr at *
    rw [r2, r3]
    have d0 : dif 0 k = 0 := by unfold dif; exact Nat.zero_and _
    have dk : dif k 0 = k := by
      have : ∀ k, k < 256 → dif k 0 = k := by decide +kernel
      exact this k hk
    obtain ⟨z, z0, z1, z2, z3, z4, z5, z6, z7, z8, z9, z10⟩ := pair hk (by decide) d0 hS hcy
    have eM : Mx vN k 0 = Wd vN k := by
      unfold Mx
      rw [dk, Wd_e]
      by_cases hl : 0 < Wd vN k
      · rw [if_pos hl]
      · rw [if_neg hl]
        rw [i_lt] at hl
        have := Wd_0 vN k
        have m0 : (0 : Int32).toInt = 0 := by decide
        rw [← Int32.toInt_inj]
        omega
    have eT : Tx vN k 0 = Sd vN k := by
      unfold Tx
      rw [dk, Sd_e, Int32.zero_add]
    obtain ⟨f1, f2, f3, f4⟩ := two_loop (s1 := s1) hk hcm' 256 257 1 wr z 0 (Wd vN k) (Sd vN k) (by omega) (by omega) (by omega) (by decide) z6 z5 (fun d hd _ => by
      have : d = 0 := by omega
      subst this
      rw [eM, eT]
      exact LX.rf _ _)
    have bd := bt_dif 0 (by decide) k hk
    rw [d0] at bd
    have bd2 := bt_dif k hk 0 (by decide)
    rw [nI_0] at z0 z1 z2 z3 bd bd2 f1 f2 f3 f4
    have n6 : (-6 : Int32) < 0 := by decide
    have g2 : ¬ (256 : Int32) ≤ 0 := by decide
    have n1 : (0 : Int32) + 1 = nI 1 := by decide
    have n1' : (1 : Int32) = nI 1 := by decide
    have eo : oX4_two_30 s1 257 y (-6) 0 0 0 := by
      rw [oX4_two_30]
      simp only [if_neg g2, hcy, bd, if_true, lo_e, z2, bd2, z0, z6, if_pos n6, n1, z9, z10, eM, eT]
      exact ⟨z1, z3, z7, z8, f2⟩
    have ef : fX4_two_30 s1 257 y (-6) 0 0 0 = fX4_two_30 s1 256 z 0 (Wd vN k) (Sd vN k) (nI 1) := by
      rw [fX4_two_30]
      simp only [if_neg g2, hcy, bd, if_true, lt_e, z2, bd2, z0, z6, if_pos n6, n1, z9, z10, eM, eT]
    rw [ef]
    rw [← n1'] at f1 f3 f4
    rw [← n1']
    exact ⟨⟨r1, f1⟩, ⟨o1, eo⟩, f3, h.sb (hB.tr (z4.tr f4))⟩
end TwoS

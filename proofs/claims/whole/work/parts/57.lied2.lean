theorem or0 : ∀ k, k < 256 → nI k ||| 0 = nI k := by decide +kernel
theorem sbt2 : ∀ k, k < 256 → ∀ p, p < 8 → sbt (sbt k p) p = sbt k p := by decide +kernel
theorem n6' {i : Nat} (h : i < 2 ^ 31) : ¬ nI i = -6 := by
  intro z
  have z2 := congrArg Int32.toInt z
  rw [nI_toInt h] at z2
  have : (-6 : Int32).toInt = -6 := by decide
  omega
section Could
variable {vN : tVl} {pd : tPd} {x : tMs} {k P : Nat}
theorem could_1 (hX : RX vN x) (hRP : RP pd (m_pn x) (m_pd x)) (hco : m_co x = nI k) (hk : k < 256) (hP : P < 8) (hct : p_ct pd = nI (pop k)) (w : tWl) : ∀ (n i : Nat) (y : tMs) (s3 : Int32), i ≤ 100 → 100 < i + n → SB x y →
    (fX4_could_39 (nI P) 1 n y s3 (nI i)).1 = dn2 (br vN pd k P) i (100 - i) s3 ∧ SB x (fX4_could_39 (nI P) 1 n y s3 (nI i)).2 ∧ oX4_could_39 (nI P) 1 n y s3 (nI i)
  | 0, i, y, s3, h1, h2, _ => by omega
  | n + 1, i, y, s3, h1, h2, hB => by
    have g := iN (c := 100) (n := 100) (by decide) (show i < 2 ^ 31 by omega)
    by_cases hi : i = 100
    · have c1 : (100 : Int32) ≤ nI i := g.1.mpr (by omega)
      simp only [fX4_could_39, oX4_could_39, if_pos c1]
      rw [hi]
      exact ⟨rfl, hB, trivial⟩
    · have c1 : ¬ (100 : Int32) ≤ nI i := fun z => by have := g.1.mp z; omega
      have hB' := id hB
      obtain ⟨fr, at_, wa, en, to_, or_, my, bf, bs, he⟩ := hB'
      have hXy : RX vN y := by rw [he]; exact hX
      have hRy : RP pd (m_pn y) (m_pd y) := by rw [he]; exact hRP
      obtain ⟨Y, d1, d2, d3⟩ := bringM (P := P) (i := i) w hXy hRy (hB.base.1.trans hco) hk hP hct
      clear he hXy hRy
      rw [show 100 - i = (100 - (i + 1)) + 1 by omega, dn2_s]
      simp only [fX4_could_39, oX4_could_39, lt_e, lo_e, if_neg c1, if_true, d2, nI_1]
      by_cases c2 : br vN pd k P i = true
      · have ih := could_1 hX hRP hco hk hP hct w n (i + 1) Y (nI i) (by omega) (by omega) (hB.tr d1)
        simp only [if_pos c2, if_neg i10]
        exact ⟨ih.1, ih.2.1, d3, ih.2.2⟩
      · have ih := could_1 hX hRP hco hk hP hct w n (i + 1) Y s3 (by omega) (by omega) (hB.tr d1)
        simp only [if_neg c2, if_true]
        exact ⟨ih.1, ih.2.1, d3, ih.2.2⟩
theorem could_0f (s2 : Int32) (hs2 : ¬ s2 = 1) {j : Nat} (hj : j < 100) : ∀ (n i : Nat) (y : tMs), i ≤ 100 → 100 < i + n →
    fX4_could_39 (nI P) s2 n y (nI j) (nI i) = (nI j, y) ∧ oX4_could_39 (nI P) s2 n y (nI j) (nI i)
  | 0, i, y, h1, h2 => by omega
  | n + 1, i, y, h1, h2 => by
    have g := iN (c := 100) (n := 100) (by decide) (show i < 2 ^ 31 by omega)
    by_cases hi : i = 100
    · have c1 : (100 : Int32) ≤ nI i := g.1.mpr (by omega)
      simp only [fX4_could_39, oX4_could_39, if_pos c1]
      exact ⟨trivial, trivial⟩
    · have c1 : ¬ (100 : Int32) ≤ nI i := fun z => by have := g.1.mp z; omega
      have c2 : (0 : Int32) ≤ nI j := nI_pos' (by omega)
      simp only [fX4_could_39, oX4_could_39, lt_e, lo_e, if_neg c1, if_neg hs2, if_pos c2, nI_1]
      exact could_0f s2 hs2 hj n (i + 1) y (by omega) (by omega)
theorem could_0 (hX : RX vN x) (hRP : RP pd (m_pn x) (m_pd x)) (hco : m_co x = nI k) (hk : k < 256) (hP : P < 8) (hct : p_ct pd = nI (pop k)) (w : tWl) (s2 : Int32) (hs2 : ¬ s2 = 1) : ∀ (n i : Nat) (y : tMs), i ≤ 100 → 100 < i + n → SB x y →
    (fX4_could_39 (nI P) s2 n y (-6) (nI i)).1 = up (br vN pd k P) (100 - i) i ∧ SB x (fX4_could_39 (nI P) s2 n y (-6) (nI i)).2 ∧ oX4_could_39 (nI P) s2 n y (-6) (nI i)
  | 0, i, y, h1, h2, _ => by omega
  | n + 1, i, y, h1, h2, hB => by
    have g := iN (c := 100) (n := 100) (by decide) (show i < 2 ^ 31 by omega)
    by_cases hi : i = 100
    · have c1 : (100 : Int32) ≤ nI i := g.1.mpr (by omega)
      simp only [fX4_could_39, oX4_could_39, if_pos c1]
      rw [hi]
      exact ⟨rfl, hB, trivial⟩
    · have c1 : ¬ (100 : Int32) ≤ nI i := fun z => by have := g.1.mp z; omega
      have hB' := id hB
      obtain ⟨fr, at_, wa, en, to_, or_, my, bf, bs, he⟩ := hB'
      have hXy : RX vN y := by rw [he]; exact hX
      have hRy : RP pd (m_pn y) (m_pd y) := by rw [he]; exact hRP
      obtain ⟨Y, d1, d2, d3⟩ := bringM (P := P) (i := i) w hXy hRy (hB.base.1.trans hco) hk hP hct
      clear he hXy hRy
      have c3 : ¬ (0 : Int32) ≤ -6 := by decide
      rw [show 100 - i = (100 - (i + 1)) + 1 by omega, up]
      simp only [fX4_could_39, oX4_could_39, lt_e, lo_e, if_neg c1, if_neg hs2, if_neg c3, d2, nI_1]
      by_cases c2 : br vN pd k P i = true
      · obtain ⟨e1, e2⟩ := could_0f (P := P) s2 hs2 (show i < 100 by omega) n (i + 1) Y (by omega) (by omega)
        simp only [if_pos c2, if_neg i10, e1]
        exact ⟨trivial, hB.tr d1, d3, e2⟩
      · have ih := could_0 hX hRP hco hk hP hct w s2 hs2 n (i + 1) Y (by omega) (by omega) (hB.tr d1)
        simp only [if_neg c2, if_true]
        exact ⟨ih.1, ih.2.1, d3, ih.2.2⟩
end Could
theorem st_could {kp : tAr} {vN vI vJ : tVl} {pd : tPd} {x : tMs} (h : Rel kp vN vI vJ pd x) (vT : tVl) (w : tWl) (s1 s2 : Int32) :
    oX3_could vN vT w pd s1 s2 ∧ oX4_could x s1 s2 ∧ (fX3_could vN vT w pd s1 s2).1 = (fX4_could x s1 s2).1 ∧ Rel kp vN vI vJ pd (fX4_could x s1 s2).2 := by
  obtain ⟨⟨⟨k, hk, hco⟩, hdr, hcm, hse, hp⟩, hRP, hR⟩ := id h
  have hcm' : v_cm vN = nI k := hcm.trans hco
  obtain ⟨q1, q2⟩ := cm_cases hk hcm' hco s1
  obtain ⟨t1, t2, t3⟩ := told_eq hk hco hcm' hRP
  have hin : fX4_in (Int32.toInt64 s2) 0 1 = fX3_within s2 0 1 := in_n s2 (by decide) (by decide)
  unfold oX3_could oX4_could fX3_could fX4_could
  simp only [lt_e, lo_e, hin]
  rcases q2 with ⟨a, b⟩ | ⟨P, hP, rfl, hb, a, b⟩
  · simp only [a, b, if_true]
    exact ⟨trivial, ⟨q1, trivial⟩, trivial, h⟩
  · simp only [a, b, if_neg i10]
    rcases wi s2 0 1 with ⟨w1, -⟩ | ⟨w1, a1, b1⟩
    · simp only [w1, if_true]
      exact ⟨trivial, ⟨q1, trivial⟩, trivial, h⟩
    · simp only [w1, if_neg i10]
      rcases t3 with ⟨u1, u2⟩ | ⟨u1, u2, hct⟩
      · simp only [u1, u2, if_true]
        exact ⟨⟨t1, trivial⟩, ⟨q1, t2, trivial⟩, trivial, h⟩
      · simp only [u1, u2, if_neg i10]
        obtain ⟨⟨e1, e2⟩, e3, e4⟩ := mb_eq (vN := vN) (ok6R h.1) vT w hk hP hcm' hct (caR h.1)
        by_cases c0 : s2 = 0
        · have hs2 : ¬ s2 = 1 := by rw [c0]; exact i01
          obtain ⟨f1, f2, f3⟩ := could_0 h.1 hRP hco hk hP hct w s2 hs2 101 0 x (by omega) (by omega) (SB.rf x)
          rw [nI_0] at f1 f2 f3
          simp only [if_pos c0]
          exact ⟨⟨t1, e2, trivial⟩, ⟨q1, t2, f3⟩, e1.trans f1.symm, h.sb f2⟩
        · have hs2 : s2 = 1 := by
            rw [show (0 : Int32).toInt = 0 by decide] at a1
            rw [show (1 : Int32).toInt = 1 by decide] at b1
            have c0' : ¬ s2.toInt = (0 : Int32).toInt := fun z => c0 (Int32.toInt_inj.mp z)
            rw [show (0 : Int32).toInt = 0 by decide] at c0'
            rw [← Int32.toInt_inj, show (1 : Int32).toInt = 1 by decide]
            omega
          subst hs2
          obtain ⟨f1, f2, f3⟩ := could_1 h.1 hRP hco hk hP hct w 101 0 x (-6) (by omega) (by omega) (SB.rf x)
          rw [nI_0] at f1 f2 f3
          simp only [if_neg i10]
          exact ⟨⟨t1, e4, trivial⟩, ⟨q1, t2, f3⟩, e3.trans f1.symm, h.sb f2⟩
/-! lied -/
def lsp (b : Nat → Bool) : Nat → Nat → Nat → Nat
  | 0, _, B => B
  | n + 1, p, B => if b p = true then lsp b n (p + 1) (sbt B p) else lsp b n (p + 1) B
def anB (vN : tVl) (pd : tPd) (k p : Nat) : Bool := k.testBit p && decide (¬ up (br vN pd k p) 100 0 = -6)
theorem liedC {vN : tVl} {pd : tPd} {k : Nat} (h6 : ok6 vN) (hk : k < 256) (hcm : v_cm vN = nI k) (hct : p_ct pd = nI (pop k)) (hca : ∀ p, p < 8 → v_ca vN p = 0 ∨ v_ca vN p = 1) : ∀ (n p B : Nat) (vT : tVl) (w : tWl), p ≤ 8 → 8 < p + n → B < 256 →
    (fX3_lied_14 vN pd n vT w (nI B) (nI p)).1 = nI (lsp (anB vN pd k) (8 - p) p B) ∧ oX3_lied_14 vN pd n vT w (nI B) (nI p)
  | 0, p, B, vT, w, h1, h2, _ => by omega
  | n + 1, p, B, vT, w, h1, h2, hB => by
    by_cases h8 : p = 8
    · have g : (8 : Int32) ≤ nI p := (ge8 h1).mpr h8
      simp only [fX3_lied_14, oX3_lied_14, if_pos g]
      rw [h8]
      exact ⟨rfl, trivial⟩
    · have hp : p < 8 := by omega
      have g : ¬ (8 : Int32) ≤ nI p := fun h => h8 ((ge8 h1).mp h)
      rw [show 8 - p = (8 - (p + 1)) + 1 by omega, lsp]
      by_cases hb : k.testBit p = true
      · obtain ⟨⟨e1, e2⟩, -, -⟩ := mb_eq (vN := vN) h6 vT w hk hp hcm hct hca
        simp only [fX3_lied_14, oX3_lied_14, lt_e, lo_e, if_neg g, cm_n hk hp hcm, if_pos hb, if_neg i10, e1, bt_set B hB p hp, nI_1]
        by_cases c2 : up (br vN pd k p) 100 0 = -6
        · have ha : anB vN pd k p = false := by
            unfold anB
            rw [c2]
            simp
          have ih := liedC h6 hk hcm hct hca n (p + 1) B (fX3_milesThatBring vN vT w pd (nI p) 1).2.1 (fX3_milesThatBring vN vT w pd (nI p) 1).2.2 (by omega) (by omega) hB
          simp only [if_pos c2, ha]
          exact ⟨ih.1, e2, ih.2⟩
        · have ha : anB vN pd k p = true := by
            unfold anB
            rw [hb]
            simp [c2]
          have ih := liedC h6 hk hcm hct hca n (p + 1) (sbt B p) (fX3_milesThatBring vN vT w pd (nI p) 1).2.1 (fX3_milesThatBring vN vT w pd (nI p) 1).2.2 (by omega) (by omega) (sbt_lt B hB p hp)
          simp only [if_neg c2, ha, if_true]
          exact ⟨ih.1, e2, ih.2⟩
      · have ha : anB vN pd k p = false := by
          unfold anB
          simp [hb]
        have ih := liedC h6 hk hcm hct hca n (p + 1) B vT w (by omega) (by omega) hB
        simp only [fX3_lied_14, oX3_lied_14, lt_e, lo_e, if_neg g, cm_n hk hp hcm, if_neg hb, if_true, nI_1, ha]
        exact ih
theorem lied_22 {vN : tVl} {pd : tPd} {x : tMs} {k p : Nat} (hX : RX vN x) (hRP : RP pd (m_pn x) (m_pd x)) (hco : m_co x = nI k) (hk : k < 256) (hp : p < 8) (hb : k.testBit p = true) (hct : p_ct pd = nI (pop k)) (w : tWl) (k14 : tMs → Int32 → Int32 → Int32 × tMs) (g14 : tMs → Int32 → Int32 → Prop) : ∀ (n i B : Nat) (y : tMs), i ≤ 100 → 100 < i + n → B < 256 → SB x y →
    ∃ Y, SB x Y ∧ fX4_lied_22 (nI p) k14 n y (nI B) (nI i) = k14 Y (nI (if up (br vN pd k p) (100 - i) i = -6 then B else sbt B p)) (nI (p + 1)) ∧ (g14 Y (nI (if up (br vN pd k p) (100 - i) i = -6 then B else sbt B p)) (nI (p + 1)) → oX4_lied_22 (nI p) g14 n y (nI B) (nI i))
  | 0, i, B, y, h1, h2, _, _ => by omega
  | n + 1, i, B, y, h1, h2, hB, hS => by
    have g := iN (c := 100) (n := 100) (by decide) (show i < 2 ^ 31 by omega)
    by_cases hi : i = 100
    · have c1 : (100 : Int32) ≤ nI i := g.1.mpr (by omega)
      refine ⟨y, hS, ?_, ?_⟩
      · simp only [fX4_lied_22, lt_e, if_pos c1, nI_1]
        rw [hi, show up (br vN pd k p) (100 - 100) 100 = -6 from rfl, if_pos rfl]
      · intro hg
        simp only [oX4_lied_22, lo_e, if_pos c1, nI_1]
        rw [hi, show up (br vN pd k p) (100 - 100) 100 = -6 from rfl, if_pos rfl] at hg
        exact hg
    · have c1 : ¬ (100 : Int32) ≤ nI i := fun z => by have := g.1.mp z; omega
      have hB' := id hS
      obtain ⟨fr, at_, wa, en, to_, or_, my, bf, bs, he⟩ := hB'
      have hXy : RX vN y := by rw [he]; exact hX
      have hRy : RP pd (m_pn y) (m_pd y) := by rw [he]; exact hRP
      have hyc : m_co y = nI k := hS.base.1.trans hco
      obtain ⟨Z, d1, d2, d3⟩ := bringM (P := p) (i := i) w hXy hRy hyc hk hp hct
      obtain ⟨e1, e2⟩ := cm_m hk hp hyc
      clear he hXy hRy
      rw [show 100 - i = (100 - (i + 1)) + 1 by omega, up]
      by_cases c2 : br vN pd k p i = true
      · obtain ⟨Y, f1, f2, f3⟩ := lied_22 hX hRP hco hk hp hb hct w k14 g14 n (i + 1) (sbt B p) Z (by omega) (by omega) (sbt_lt B hB p hp) (hS.tr d1)
        rw [sbt2 B hB p hp] at f2 f3
        have hif : (if up (br vN pd k p) (100 - (i + 1)) (i + 1) = -6 then sbt B p else sbt B p) = sbt B p := by split <;> rfl
        rw [hif] at f2 f3
        rw [if_pos c2, if_neg (n6' (show i < 2 ^ 31 by omega))]
        refine ⟨Y, f1, ?_, ?_⟩
        · simp only [fX4_lied_22, lt_e, if_neg c1, e1, if_pos hb, if_neg i10, d2, if_pos c2, bt_set B hB p hp, nI_1]
          exact f2
        · intro hg
          simp only [oX4_lied_22, lo_e, if_neg c1, e1, if_pos hb, if_neg i10, d2, if_pos c2, bt_set B hB p hp, nI_1]
          exact ⟨e2, d3, f3 hg⟩
      · obtain ⟨Y, f1, f2, f3⟩ := lied_22 hX hRP hco hk hp hb hct w k14 g14 n (i + 1) B Z (by omega) (by omega) hB (hS.tr d1)
        rw [if_neg c2]
        refine ⟨Y, f1, ?_, ?_⟩
        · simp only [fX4_lied_22, lt_e, if_neg c1, e1, if_pos hb, if_neg i10, d2, if_neg c2, if_true, or0 B hB, nI_1]
          exact f2
        · intro hg
          simp only [oX4_lied_22, lo_e, if_neg c1, e1, if_pos hb, if_neg i10, d2, if_neg c2, if_true, or0 B hB, nI_1]
          exact ⟨e2, d3, f3 hg⟩
theorem lied_14c (n : Nat) (y : tMs) (s1 s2 : Int32) : fX4_lied_14 (n + 1) y s1 s2 = (if 8 ≤ s2 then (s1, y) else fX4_lied_22 s2 (fX4_lied_14 n) 101 y s1 0) := by rw [fX4_lied_14]
theorem lied_14o (n : Nat) (y : tMs) (s1 s2 : Int32) : oX4_lied_14 (n + 1) y s1 s2 = (if 8 ≤ s2 then True else oX4_lied_22 s2 (oX4_lied_14 n) 101 y s1 0) := by rw [oX4_lied_14]
theorem lied_22c (s2 : Int32) (k14 : tMs → Int32 → Int32 → Int32 × tMs) (n : Nat) (y : tMs) (s1 s3 : Int32) (h1 : ¬ 100 ≤ s3) (h2 : fX4_comes y s2 = 0) : fX4_lied_22 s2 k14 (n + 1) y s1 s3 = k14 y s1 (s2 + 1) := by
  rw [fX4_lied_22, if_neg h1, lt_e, h2, if_pos rfl, lt_e]
theorem lied_22o (s2 : Int32) (g14 : tMs → Int32 → Int32 → Prop) (n : Nat) (y : tMs) (s1 s3 : Int32) (h1 : ¬ 100 ≤ s3) (h2 : fX4_comes y s2 = 0) : oX4_lied_22 s2 g14 (n + 1) y s1 s3 = (oX4_comes y s2 ∧ g14 y s1 (s2 + 1)) := by
  rw [oX4_lied_22, if_neg h1, lo_e, h2, if_pos rfl, lo_e]
theorem liedM {vN : tVl} {pd : tPd} {x : tMs} {k : Nat} (hX : RX vN x) (hRP : RP pd (m_pn x) (m_pd x)) (hco : m_co x = nI k) (hk : k < 256) (hct : p_ct pd = nI (pop k)) (w : tWl) : ∀ (n p B : Nat) (y : tMs), p ≤ 8 → 8 < p + n → B < 256 → SB x y →
    (fX4_lied_14 n y (nI B) (nI p)).1 = nI (lsp (anB vN pd k) (8 - p) p B) ∧ SB x (fX4_lied_14 n y (nI B) (nI p)).2 ∧ oX4_lied_14 n y (nI B) (nI p)
  | 0, p, B, y, h1, h2, _, _ => by omega
  | n + 1, p, B, y, h1, h2, hB, hS => by
    rw [lied_14c, lied_14o]
    by_cases h8 : p = 8
    · have g : (8 : Int32) ≤ nI p := (ge8 h1).mpr h8
      rw [if_pos g, if_pos g, h8]
      exact ⟨rfl, hS, trivial⟩
    · have hp : p < 8 := by omega
      have g : ¬ (8 : Int32) ≤ nI p := fun h => h8 ((ge8 h1).mp h)
      rw [if_neg g, if_neg g, show 8 - p = (8 - (p + 1)) + 1 by omega, lsp]
      by_cases hb : k.testBit p = true
      · obtain ⟨Y, f1, f2, f3⟩ := lied_22 hX hRP hco hk hp hb hct w (fX4_lied_14 n) (oX4_lied_14 n) 101 0 B y (by omega) (by omega) hB hS
        rw [nI_0, Nat.sub_zero] at f2 f3
        rw [f2]
        by_cases c2 : up (br vN pd k p) 100 0 = -6
        · have ha : anB vN pd k p = false := by
            unfold anB
            rw [c2]
            simp
          rw [if_pos c2] at f3 ⊢
          have ih := liedM hX hRP hco hk hct w n (p + 1) B Y (by omega) (by omega) hB f1
          rw [ha]
          exact ⟨ih.1, ih.2.1, f3 ih.2.2⟩
        · have ha : anB vN pd k p = true := by
            unfold anB
            rw [hb]
            simp [c2]
          rw [if_neg c2] at f3 ⊢
          have ih := liedM hX hRP hco hk hct w n (p + 1) (sbt B p) Y (by omega) (by omega) (sbt_lt B hB p hp) f1
          rw [ha]
          exact ⟨ih.1, ih.2.1, f3 ih.2.2⟩
      · have ha : anB vN pd k p = false := by
          unfold anB
          simp [hb]
        obtain ⟨e1, e2⟩ := cm_m hk hp (hS.base.1.trans hco)
        rw [if_neg hb] at e1
        have g0 : ¬ (100 : Int32) ≤ 0 := by decide
        rw [lied_22c _ _ 100 y _ _ g0 e1, lied_22o _ _ 100 y _ _ g0 e1, nI_1, ha]
        have ih := liedM hX hRP hco hk hct w n (p + 1) B y (by omega) (by omega) hB hS
        exact ⟨ih.1, ih.2.1, e2, ih.2.2⟩
theorem st_lied {kp : tAr} {vN vI vJ : tVl} {pd : tPd} {x : tMs} (h : Rel kp vN vI vJ pd x) (vT : tVl) (w : tWl) :
    oX3_lied vN vT w pd ∧ oX4_lied x ∧ (fX3_lied vN vT w pd).1 = (fX4_lied x).1 ∧ Rel kp vN vI vJ pd (fX4_lied x).2 := by
  obtain ⟨⟨⟨k, hk, hco⟩, hdr, hcm, hse, hp⟩, hRP, hR⟩ := id h
  have hcm' : v_cm vN = nI k := hcm.trans hco
  obtain ⟨t1, t2, t3⟩ := told_eq hk hco hcm' hRP
  unfold oX3_lied oX4_lied fX3_lied fX4_lied
  simp only [lt_e, lo_e]
  rcases t3 with ⟨u1, u2⟩ | ⟨u1, u2, hct⟩
  · simp only [u1, u2, if_true]
    exact ⟨⟨t1, trivial⟩, ⟨t2, trivial⟩, trivial, h⟩
  · simp only [u1, u2, if_neg i10]
    obtain ⟨a1, a2⟩ := liedC (vN := vN) (ok6R h.1) hk hcm' hct (caR h.1) 9 0 0 vT w (by omega) (by omega) (by decide)
    obtain ⟨b1, b2, b3⟩ := liedM h.1 hRP hco hk hct w 9 0 0 x (by omega) (by omega) (by decide) (SB.rf x)
    rw [nI_0] at a1 a2 b1 b2 b3
    exact ⟨⟨t1, a2⟩, ⟨t2, b3⟩, a1.trans b1.symm, h.sb b2⟩

/-! numbers in bounds -/
theorem wi (a l h : Int32) : (fX3_within a l h = 0 ∧ (a.toInt < l.toInt ∨ h.toInt < a.toInt)) ∨ (fX3_within a l h = 1 ∧ l.toInt ≤ a.toInt ∧ a.toInt ≤ h.toInt) := by
  unfold fX3_within
  split
  · rename_i g; rw [i_lt] at g; exact Or.inl ⟨rfl, Or.inl g⟩
  · rename_i g; rw [i_lt] at g
    split
    · rename_i g2; rw [i_lt] at g2; exact Or.inl ⟨rfl, Or.inr g2⟩
    · rename_i g2; rw [i_lt] at g2; exact Or.inr ⟨rfl, by omega, by omega⟩
theorem lg_lt (a b : Int32) : lg_cmp (Int32.toInt64 a) (Int32.toInt64 b) < 0 ↔ a < b := by
  unfold lg_cmp
  rw [i_lt (x := a) (y := b)]
  have e1 : (Int32.toInt64 a).toInt = a.toInt := Int32.toInt_toInt64 a
  have e2 : (Int32.toInt64 b).toInt = b.toInt := Int32.toInt_toInt64 b
  split
  · rename_i h
    have h' : (Int32.toInt64 b).toInt < (Int32.toInt64 a).toInt := Int64.lt_iff_toInt_lt.mp h
    constructor
    · intro h2; exact absurd h2 (by decide)
    · intro h2; omega
  · rename_i h
    have h' : ¬ (Int32.toInt64 b).toInt < (Int32.toInt64 a).toInt := fun z => h (Int64.lt_iff_toInt_lt.mpr z)
    split
    · rename_i h3
      have h3' := congrArg Int64.toInt h3
      constructor
      · intro h2; exact absurd h2 (by decide)
      · intro h2; omega
    · rename_i h3
      have h3' : ¬ (Int32.toInt64 a).toInt = (Int32.toInt64 b).toInt := fun z => h3 (Int64.toInt_inj.mp z)
      constructor
      · intro _; omega
      · intro _; decide
theorem lg_gt (a b : Int32) : 0 < lg_cmp (Int32.toInt64 a) (Int32.toInt64 b) ↔ b < a := by
  unfold lg_cmp
  rw [i_lt (x := b) (y := a)]
  have e1 : (Int32.toInt64 a).toInt = a.toInt := Int32.toInt_toInt64 a
  have e2 : (Int32.toInt64 b).toInt = b.toInt := Int32.toInt_toInt64 b
  split
  · rename_i h
    have h' : (Int32.toInt64 b).toInt < (Int32.toInt64 a).toInt := Int64.lt_iff_toInt_lt.mp h
    constructor
    · intro _; omega
    · intro _; decide
  · rename_i h
    have h' : ¬ (Int32.toInt64 b).toInt < (Int32.toInt64 a).toInt := fun z => h (Int64.lt_iff_toInt_lt.mpr z)
    split
    · constructor
      · intro h2; exact absurd h2 (by decide)
      · intro h2; omega
    · constructor
      · intro h2; exact absurd h2 (by decide)
      · intro h2; omega
theorem in_n (a : Int32) {L H : Int64} {l h : Int32} (hl : L = Int32.toInt64 l) (hh : H = Int32.toInt64 h) : fX4_in (Int32.toInt64 a) L H = fX3_within a l h := by
  subst hl; subst hh
  unfold fX4_in fX3_within
  by_cases h1 : a < l
  · rw [if_pos ((lg_lt a l).mpr h1), if_pos h1]
  · rw [if_neg (fun z => h1 ((lg_lt a l).mp z)), if_neg h1]
    by_cases h2 : h < a
    · rw [if_pos ((lg_gt a h).mpr h2), if_pos h2]
    · rw [if_neg (fun z => h2 ((lg_gt a h).mp z)), if_neg h2]
theorem as_n {a : Int32} {n : Nat} (h1 : 0 ≤ a.toInt) (h2 : a.toInt ≤ n) (hn : n < 2 ^ 31) : ∃ p : Nat, p ≤ n ∧ a = nI p :=
  ⟨a.toInt.toNat, by omega, by rw [← Int32.toInt_inj, nI_toInt (by omega)]; omega⟩
theorem isP_eq (a : Int32) : fX4_isPerson a = fX3_within a 0 7 ∧ oX4_isPerson a := by
  have e : fX4_in (Int32.toInt64 a) 0 7 = fX3_within a 0 7 := in_n a (by decide) (by decide)
  unfold fX4_isPerson oX4_isPerson
  simp only [lt_, lo_, e]
  refine ⟨trivial, ?_, trivial⟩
  rcases wi a 0 7 with ⟨h, -⟩ | ⟨h, -⟩ <;> rw [h] <;> rfl
/-- whether one comes, on both sides -/
theorem cm_cases {v : tVl} {x : tMs} {k : Nat} (hk : k < 256) (h1 : v_cm v = nI k) (h2 : m_co x = nI k) (a : Int32) :
    oX4_comes x a ∧ ((fX1_comes v a = 0 ∧ fX4_comes x a = 0) ∨ ∃ p, p < 8 ∧ a = nI p ∧ k.testBit p = true ∧ fX1_comes v a = 1 ∧ fX4_comes x a = 1) := by
  refine ⟨⟨(isP_eq a).2, trivial⟩, ?_⟩
  have m7 : (7 : Int32).toInt = 7 := by decide
  have m8 : (8 : Int32).toInt = 8 := by decide
  have m0 : (0 : Int32).toInt = 0 := by decide
  rcases wi a 0 7 with ⟨e, g⟩ | ⟨e, g1, g2⟩
  · refine Or.inl ⟨?_, ?_⟩
    · unfold fX1_comes
      by_cases c1 : a < 0
      · rw [if_pos c1]
      · rw [if_neg c1, if_pos (by rw [i_lt] at c1; rw [i_le]; omega)]
    · unfold fX4_comes
      simp only [lt_, (isP_eq a).1, e, if_true]
  · obtain ⟨p, hp, rfl⟩ := as_n (a := a) (n := 7) (by omega) (by omega) (by decide)
    have hp8 : p < 8 := by omega
    have c1 : ¬ nI p < 0 := n0 hp8
    have c2 : ¬ (8 : Int32) ≤ nI p := fun h => absurd ((ge8 (by omega)).mp h) (by omega)
    by_cases hb : k.testBit p = true
    · refine Or.inr ⟨p, hp8, rfl, hb, ?_, ?_⟩
      · unfold fX1_comes
        rw [if_neg c1, if_neg c2, h1, bt_test k hk p hp8, if_pos hb, if_neg i10]
      · unfold fX4_comes
        simp only [lt_, (isP_eq _).1, e, if_neg i10, h2, bt_test k hk p hp8, if_pos hb, if_true]
    · refine Or.inl ⟨?_, ?_⟩
      · unfold fX1_comes
        rw [if_neg c1, if_neg c2, h1, bt_test k hk p hp8, if_neg hb, if_pos rfl]
      · unfold fX4_comes
        simp only [lt_, (isP_eq _).1, e, if_neg i10, h2, bt_test k hk p hp8, if_neg hb, if_neg i01]
theorem cm_n {v : tVl} {k p : Nat} (hk : k < 256) (hp : p < 8) (h1 : v_cm v = nI k) : fX1_comes v (nI p) = if k.testBit p = true then 1 else 0 := by
  have c1 : ¬ nI p < 0 := n0 hp
  have c2 : ¬ (8 : Int32) ≤ nI p := fun h => absurd ((ge8 (by omega)).mp h) (by omega)
  unfold fX1_comes
  rw [if_neg c1, if_neg c2, h1, bt_test k hk p hp]
  by_cases hb : k.testBit p = true
  · rw [if_pos hb, if_neg i10]
  · rw [if_neg hb, if_pos rfl]
theorem cm_m {x : tMs} {k p : Nat} (hk : k < 256) (hp : p < 8) (h2 : m_co x = nI k) : fX4_comes x (nI p) = (if k.testBit p = true then 1 else 0) ∧ oX4_comes x (nI p) := by
  refine ⟨?_, (isP_eq _).2, trivial⟩
  have e : fX3_within (nI p) 0 7 = 1 := by
    rcases wi (nI p) 0 7 with ⟨_, g⟩ | ⟨e, _⟩
    · have m7 : (7 : Int32).toInt = 7 := by decide
      have m0 : (0 : Int32).toInt = 0 := by decide
      rw [nI_toInt (by omega)] at g
      omega
    · exact e
  unfold fX4_comes
  simp only [lt_, (isP_eq _).1, e, if_neg i10, h2, bt_test k hk p hp]
  by_cases hb : k.testBit p = true
  · simp only [if_pos hb, if_true]
  · simp only [if_neg hb, if_neg i01]
/-! the relation of both states -/
def RV (v : tVl) (co dr fa st ha : Int32) (mi mn pa ca : tAr) : Prop :=
  (∃ k, k < 256 ∧ co = nI k) ∧ (0 ≤ dr.toInt ∧ dr.toInt ≤ 20) ∧ v_cm v = co ∧ (v_se v 0 = dr ∧ v_se v 1 = fa ∧ v_se v 2 = st ∧ v_se v 3 = ha) ∧
  ∀ p, p < 8 → (v_mi v p = mi p ∧ v_mn v p = mn p ∧ v_pa v p = pa p ∧ v_ca v p = ca p) ∧ (0 ≤ (mi p).toInt ∧ (mi p).toInt ≤ 99) ∧ (0 ≤ (mn p).toInt ∧ (mn p).toInt ≤ 999) ∧ (0 ≤ (pa p).toInt ∧ (pa p).toInt ≤ 9) ∧ (ca p = 0 ∨ ca p = 1)
def RP (pd : tPd) (pn : Int32) (sg : tAr) : Prop := ∃ c, c ≤ 40 ∧ p_ct pd = nI c ∧ pn = nI c ∧ ∀ i, i < 40 → p_sg pd i = sg i
def RX (v : tVl) (x : tMs) : Prop := RV v (m_co x) (m_dr x) (m_fa x) (m_st x) (m_ha x) (m_mi x) (m_mn x) (m_pa x) (m_ca x)
def RI (v : tVl) (x : tMs) (b : Nat) : Prop := RV v (m_kp x b) (m_kp x (b + 1)) (m_kp x (b + 2)) (m_kp x (b + 3)) (m_kp x (b + 4)) (fun p => m_kp x (b + 5 + 4 * p)) (fun p => m_kp x (b + 6 + 4 * p)) (fun p => m_kp x (b + 7 + 4 * p)) (fun p => m_kp x (b + 8 + 4 * p))
def Rel (kp : tAr) (vN vI vJ : tVl) (pd : tPd) (x : tMs) : Prop :=
  RX vN x ∧ RP pd (m_pn x) (m_pd x) ∧ (∀ n, n < 2 → kp n = m_ik x n ∧ (kp n = 0 ∨ kp n = 1)) ∧ (¬ kp 0 = 0 → RI vI x 0) ∧ (¬ kp 1 = 0 → RI vJ x 50)
theorem Rel.sb {kp : tAr} {vN vI vJ : tVl} {pd : tPd} {x y : tMs} (h : Rel kp vN vI vJ pd x) (hs : SB x y) : Rel kp vN vI vJ pd y := by
  obtain ⟨fr, at_, wa, en, to_, or_, my, bf, bs, rfl⟩ := hs
  exact h
theorem ok6R {v : tVl} {x : tMs} (h : RX v x) : ok6 v := fun p hp => by
  obtain ⟨-, -, -, -, h5⟩ := h
  obtain ⟨⟨-, a, -, -⟩, -, ⟨b, -⟩, -⟩ := h5 p hp
  rw [a]
  exact ge_6 b
/-! faults of the row -/
theorem pAt_eq {pd : tPd} {c i : Nat} (hc : p_ct pd = nI c) (hc2 : c ≤ 40) (hi : i < c) : fX0_personAt pd (nI i) = if p_sg pd i - 65 < 0 then -6 else (if 8 ≤ p_sg pd i - 65 then -6 else p_sg pd i - 65) := by
  unfold fX0_personAt
  simp only [lt_, if_neg (nI_pos (show i < 2 ^ 31 by omega)), hc, if_pos (nI_lt hi (show c < 2 ^ 31 by omega)), cl_n (show i < 256 by omega)]
theorem pop_pos : ∀ k, k < 256 → ∀ p, p < 8 → k.testBit p = true → 0 < pop k := by decide +kernel
theorem fault_4 {v : tVl} {pd : tPd} {x : tMs} {k c : Nat} (hk : k < 256) (hco : m_co x = nI k) (hcv : v_cm v = nI k) (hc2 : c ≤ 40) (hc : p_ct pd = nI c) (hpn : m_pn x = nI c) (hsg : ∀ i, i < 40 → p_sg pd i = m_pd x i) :
    ∀ (n i U G : Nat), i ≤ c → c < i + n → U < 256 → G < 256 → (∀ p, p < 8 → (U.testBit p = true ↔ (k.testBit p = true ∧ ¬ G.testBit p = true))) →
      fX0_faultAmong_4 pd n (nI U) (nI i) = fX4_fault_4 x n (nI G) (nI i) ∧ oX0_faultAmong_4 pd n (nI U) (nI i) ∧ oX4_fault_4 x n (nI G) (nI i) ∧ ((fX4_fault_4 x n (nI G) (nI i) = -6 ∧ c - i ≤ pop U) ∨ ∃ j, j < 40 ∧ fX4_fault_4 x n (nI G) (nI i) = nI j)
  | 0, i, U, G, h1, h2, _, _, _ => by omega
  | n + 1, i, U, G, h1, h2, hU, hG, hUG => by
    by_cases hic : i = c
    · have g : nI c ≤ nI i := by rw [hic, i_le]; exact Int.le_refl _
      simp only [fX0_faultAmong_4, oX0_faultAmong_4, fX4_fault_4, oX4_fault_4, hc, hpn, if_pos g]
      exact ⟨by first | rfl | trivial, trivial, trivial, Or.inl ⟨by first | rfl | trivial, by omega⟩⟩
    · have hi : i < c := by omega
      have g : ¬ nI c ≤ nI i := nI_ge hi (by omega)
      have vi : vp_in (nI i) 40 := vp_in_nI (by omega) (by decide)
      simp only [fX0_faultAmong_4, oX0_faultAmong_4, fX4_fault_4, oX4_fault_4, lt_, lo_, hc, hpn, if_neg g, cl_n (show i < 256 by omega), pAt_eq hc hc2 hi, hsg i (by omega), nI_1]
      have m8 : (8 : Int32).toInt = 8 := by decide
      have m0 : (0 : Int32).toInt = 0 := by decide
      obtain ⟨o1, o2⟩ := cm_cases hk hcv hco (m_pd x i - 65)
      rcases o2 with ⟨e1, e2⟩ | ⟨p, hp, e0, hb, e1, e2⟩
      · -- nobody of that letter comes
        have done : ∀ (A B : Prop), (A ∧ oX0_personAt pd (nI i) ∧ B) → (A ∧ oX0_personAt pd (nI i) ∧ B) := fun _ _ h => h
        simp only [e2, if_true]
        refine ⟨?_, ⟨pAt_ok (by omega), ?_⟩, ⟨vi, o1, trivial⟩, Or.inr ⟨i, by omega, rfl⟩⟩
        · by_cases c1 : m_pd x i - 65 < 0
          · simp only [if_pos c1, if_true]
          · simp only [if_neg c1]
            by_cases c2 : 8 ≤ m_pd x i - 65
            · simp only [if_pos c2, if_true]
            · simp only [if_neg c2]
              rw [i_lt] at c1
              rw [i_le] at c2
              obtain ⟨p, hp, e0⟩ := as_n (a := m_pd x i - 65) (n := 7) (by omega) (by omega) (by decide)
              have hp8 : p < 8 := by omega
              rw [e0] at e1 ⊢
              rw [cm_n hk hp8 hcv] at e1
              have hb : ¬ k.testBit p = true := fun hb => by rw [if_pos hb] at e1; exact i10 e1
              have hu : ¬ U.testBit p = true := fun hu => hb ((hUG p hp8).mp hu).1
              rw [if_neg (n6 hp8), bt_test U hU p hp8, if_neg hu, if_pos rfl]
        · by_cases c1 : m_pd x i - 65 < 0
          · simp only [if_pos c1, if_true]
          · simp only [if_neg c1]
            by_cases c2 : 8 ≤ m_pd x i - 65
            · simp only [if_pos c2, if_true]
            · simp only [if_neg c2]
              rw [i_lt] at c1
              rw [i_le] at c2
              obtain ⟨p, hp, e0⟩ := as_n (a := m_pd x i - 65) (n := 7) (by omega) (by omega) (by decide)
              have hp8 : p < 8 := by omega
              rw [e0] at e1 ⊢
              rw [cm_n hk hp8 hcv] at e1
              have hb : ¬ k.testBit p = true := fun hb => by rw [if_pos hb] at e1; exact i10 e1
              have hu : ¬ U.testBit p = true := fun hu => hb ((hUG p hp8).mp hu).1
              rw [if_neg (n6 hp8), bt_test U hU p hp8, if_neg hu, if_pos rfl]
              trivial
      · rw [e0] at e2 o1
        have c1 : ¬ nI p < 0 := n0 hp
        have c2 : ¬ (8 : Int32) ≤ nI p := fun h => absurd ((ge8 (by omega)).mp h) (by omega)
        simp only [e0, e2, if_neg i10, if_neg c1, if_neg c2, if_neg (n6 hp), bt_test U hU p hp, bt_test G hG p hp]
        by_cases hg : G.testBit p = true
        · have hu : ¬ U.testBit p = true := fun hu => ((hUG p hp).mp hu).2 hg
          simp only [if_pos hg, if_neg hu, if_true]
          exact ⟨by first | rfl | trivial, ⟨pAt_ok (by omega), trivial⟩, ⟨vi, o1, trivial⟩, Or.inr ⟨i, by omega, rfl⟩⟩
        · have hu : U.testBit p = true := (hUG p hp).mpr ⟨hb, hg⟩
          simp only [if_neg hg, if_pos hu, if_neg i10, if_neg i01, bt_clr U hU p hp, bt_set G hG p hp]
          have ih := fault_4 (v := v) hk hco hcv hc2 hc hpn hsg n (i + 1) (clr U p) (sbt G p) (by omega) (by omega) (clr_lt U hU p hp) (sbt_lt G hG p hp) (fun q hq => by
            rw [clr_t hU hp hq, hUG q hq, sbt_t hG hp hq]
            constructor
            · rintro ⟨⟨a, b⟩, d⟩; exact ⟨a, fun z => z.elim b d⟩
            · rintro ⟨a, b⟩; exact ⟨⟨a, fun z => b (Or.inl z)⟩, fun z => b (Or.inr z)⟩)
          have hpc := pop_clr U hU p hp hu
          refine ⟨ih.1, ⟨pAt_ok (by omega), ih.2.1⟩, ⟨vi, o1, ih.2.2.1⟩, ?_⟩
          rcases ih.2.2.2 with ⟨a, b⟩ | h
          · exact Or.inl ⟨a, by omega⟩
          · exact Or.inr h
theorem fault_eq {v : tVl} {pd : tPd} {x : tMs} {k : Nat} (hk : k < 256) (hco : m_co x = nI k) (hcv : v_cm v = nI k) (hp : RP pd (m_pn x) (m_pd x)) :
    fX0_faultAmong pd (nI k) = fX4_fault x ∧ oX0_faultAmong pd (nI k) ∧ oX4_fault x ∧ ((fX4_fault x = -6 ∧ ∃ c, c ≤ pop k ∧ p_ct pd = nI c ∧ m_pn x = nI c) ∨ ∃ j, j < 40 ∧ fX4_fault x = nI j) := by
  obtain ⟨c, hc2, hc, hpn, hsg⟩ := hp
  obtain ⟨a, b, d, e⟩ := fault_4 hk hco hcv hc2 hc hpn hsg 41 0 k 0 (Nat.zero_le _) (by omega) hk (by decide) (fun p hp => by simp)
  rw [nI_0] at a b d e
  refine ⟨a, b, d, ?_⟩
  rcases e with ⟨e1, e2⟩ | e
  · exact Or.inl ⟨e1, c, by omega, hc, hpn⟩
  · exact Or.inr e

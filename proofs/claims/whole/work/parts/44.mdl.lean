/-! the reference's well is the list of turns -/
def atM (x : tMs) (p : Nat) : Int32 := m_at x p
def clM (x : tMs) (t : Int32) (p : Nat) : Int32 := fX4_claimOf x (nI p) t
theorem claimOf_ok (x : tMs) (t : Int32) {p : Nat} (hp : p < 8) : oX4_claimOf x (nI p) t := by
  unfold oX4_claimOf
  split <;> exact ⟨vin8 hp, trivial⟩
theorem ia_ok (x : tMs) (t : Int32) {p q : Nat} (hp : p < 8) (hq : q < 8) : oX4_isAhead x (nI p) (nI q) t := by
  unfold oX4_isAhead
  refine ⟨claimOf_ok x t hp, ?_⟩
  simp only [lo_]
  refine ⟨claimOf_ok x t hq, ?_⟩
  split
  · exact ⟨vin8 hp, vin8 hq, trivial⟩
  · trivial
theorem ia_eq (x : tMs) (t : Int32) {p q : Nat} (hp : p < 8) (hq : q < 8) : fX4_isAhead x (nI p) (nI q) t = if ahd (atM x) (clM x) t p q = true then 1 else 0 := by
  have e : fX4_isAhead x (nI p) (nI q) t = (if clM x t p = clM x t q then (if (m_at x) (Int32.toNatClampNeg (nI p)) = (m_at x) (Int32.toNatClampNeg (nI q)) then (if nI q ≤ nI p then 0 else 1) else (if (m_at x) (Int32.toNatClampNeg (nI q)) ≤ (m_at x) (Int32.toNatClampNeg (nI p)) then 0 else 1)) else (if clM x t p ≤ clM x t q then 0 else 1)) := rfl
  rw [e, c8 hp, c8 hq]
  unfold ahd
  by_cases h1 : clM x t p = clM x t q
  · rw [if_pos h1, if_pos h1]
    by_cases h2 : atM x p = atM x q
    · rw [if_pos h2, if_pos (show m_at x p = m_at x q from h2)]
      rcases Nat.lt_or_ge p q with h3 | h3
      · rw [if_neg (by rw [nI_leI (by omega) (by omega)]; omega), if_pos (by simpa using h3)]
      · rw [if_pos (by rw [nI_leI (by omega) (by omega)]; exact h3), if_neg (by simpa using h3)]
    · rw [if_neg h2, if_neg (show ¬ m_at x p = m_at x q from h2)]
      by_cases h3 : atM x p < atM x q
      · rw [if_neg (show ¬ m_at x q ≤ m_at x p by rw [i_le]; rw [i_lt] at h3; exact Int.not_le.mpr h3), if_pos (by simpa using h3)]
      · rw [if_pos (show m_at x q ≤ m_at x p by rw [i_le]; rw [i_lt] at h3; exact Int.not_lt.mp h3), if_neg (by simpa using h3)]
  · rw [if_neg h1, if_neg h1]
    by_cases h3 : clM x t q < clM x t p
    · rw [if_neg (by rw [i_le]; rw [i_lt] at h3; omega), if_pos (by simpa using h3)]
    · rw [if_pos (by rw [i_le]; rw [i_lt] at h3; omega), if_neg (by simpa using h3)]
theorem nextOf_6 (x : tMs) (t : Int32) {k : Nat} (hk : k < 256) : ∀ (n i : Nat), i ≤ 8 → 8 < i + n → fX4_nextOf_6 x (nI k) t n (enc (nxt (atM x) (clM x) k t i)) (nI i) = enc (nxt (atM x) (clM x) k t 8) ∧ oX4_nextOf_6 x (nI k) t n (enc (nxt (atM x) (clM x) k t i)) (nI i)
  | 0, i, h1, h2 => by omega
  | n + 1, i, h1, h2 => by
    by_cases h8 : i = 8
    · subst h8
      have g : (8 : Int32) ≤ nI 8 := by decide
      simp only [fX4_nextOf_6, oX4_nextOf_6, if_pos g]
      exact ⟨by first | rfl | trivial, trivial⟩
    · have hi : i < 8 := by omega
      have g : ¬ (8 : Int32) ≤ nI i := fun h => h8 ((ge8 h1).mp h)
      have ih := nextOf_6 x t hk n (i + 1) (by omega) (by omega)
      have e := nxt_1 (atM x) (clM x) k t i
      by_cases hb : k.testBit i = true
      · simp only [fX4_nextOf_6, oX4_nextOf_6, lt_, lo_, if_neg g, bt_test k hk i hi, if_pos hb, if_true, c8 hi, nI_1]
        rw [if_pos hb] at e
        by_cases ht : t < atM x i
        · rw [if_pos ht] at e
          have ht' : t < m_at x i := ht
          simp only [if_pos ht']
          rw [e] at ih
          exact ⟨ih.1, vin8 hi, ih.2⟩
        · rw [if_neg ht] at e
          have ht' : ¬ t < m_at x i := ht
          simp only [if_neg ht']
          cases hq : nxt (atM x) (clM x) k t i with
          | none =>
            rw [hq, nx1] at e
            rw [e] at ih
            have h6 : (-6 : Int32) < 0 := by decide
            simp only [enc, if_pos h6]
            exact ⟨ih.1, vin8 hi, ih.2⟩
          | some q =>
            obtain ⟨q1, -, -, -⟩ := nxt_some hq
            rw [hq, nx1] at e
            have hq6 := n0 (show q < 8 by omega)
            simp only [enc, if_neg hq6, ia_eq x t hi (show q < 8 by omega)]
            by_cases ha : ahd (atM x) (clM x) t i q = true
            · rw [if_pos ha] at e
              rw [e] at ih
              simp only [if_pos ha, if_neg i10]
              exact ⟨ih.1, vin8 hi, ia_ok x t hi (by omega), ih.2⟩
            · rw [if_neg ha] at e
              rw [e] at ih
              simp only [if_neg ha, if_true]
              exact ⟨ih.1, vin8 hi, ia_ok x t hi (by omega), ih.2⟩
      · rw [if_neg hb] at e
        rw [e] at ih
        simp only [fX4_nextOf_6, oX4_nextOf_6, lt_, lo_, if_neg g, bt_test k hk i hi, if_neg hb, if_neg i01, c8 hi, nI_1]
        exact ih
theorem nextOf_eq (x : tMs) (t : Int32) {k : Nat} (hk : k < 256) : fX4_nextOf x (nI k) t = enc (nxt (atM x) (clM x) k t 8) ∧ oX4_nextOf x (nI k) t := nextOf_6 x t hk 9 0 (by omega) (by omega)
theorem soon_5 (x : tMs) {k : Nat} (hk : k < 256) : ∀ (n i : Nat), i ≤ 8 → 8 < i + n → fX4_soonest_5 x (nI k) n (fsI (atM x) k 1000000000 i) (nI i) = fsI (atM x) k 1000000000 8 ∧ oX4_soonest_5 x (nI k) n (fsI (atM x) k 1000000000 i) (nI i)
  | 0, i, h1, h2 => by omega
  | n + 1, i, h1, h2 => by
    by_cases h8 : i = 8
    · subst h8
      have g : (8 : Int32) ≤ nI 8 := by decide
      simp only [fX4_soonest_5, oX4_soonest_5, if_pos g]
      exact ⟨by first | rfl | trivial, trivial⟩
    · have hi : i < 8 := by omega
      have g : ¬ (8 : Int32) ≤ nI i := fun h => h8 ((ge8 h1).mp h)
      have ih := soon_5 x hk n (i + 1) (by omega) (by omega)
      have e := fsI_1 (atM x) k 1000000000 i
      rw [e] at ih
      by_cases hb : k.testBit i = true
      · rw [if_pos hb] at ih
        simp only [fX4_soonest_5, oX4_soonest_5, lt_, lo_, if_neg g, bt_test k hk i hi, if_pos hb, if_true, c8 hi, nI_1]
        by_cases hl : atM x i < fsI (atM x) k 1000000000 i
        · rw [if_pos hl] at ih
          have hl' : ¬ fsI (atM x) k 1000000000 i ≤ m_at x i := by
            rw [i_le]; rw [i_lt] at hl; exact Int.not_le.mpr hl
          simp only [if_neg hl']
          exact ⟨ih.1, vin8 hi, ih.2⟩
        · rw [if_neg hl] at ih
          have hl' : fsI (atM x) k 1000000000 i ≤ m_at x i := by
            rw [i_le]; rw [i_lt] at hl; exact Int.not_lt.mp hl
          simp only [if_pos hl']
          exact ⟨ih.1, vin8 hi, ih.2⟩
      · rw [if_neg hb] at ih
        simp only [fX4_soonest_5, oX4_soonest_5, lt_, lo_, if_neg g, bt_test k hk i hi, if_neg hb, if_neg i01, c8 hi, nI_1]
        exact ih
theorem soon_eq (x : tMs) {k : Nat} (hk : k < 256) : fX4_soonest x (nI k) = fsI (atM x) k 1000000000 8 ∧ oX4_soonest x (nI k) := soon_5 x hk 9 0 (by omega) (by omega)
/-- whoever comes before the thousand millionth minute -/
theorem fs_far {at_ : Nat → Int32} {k : Nat} (hk : k < 256) (h0 : k ≠ 0) (h : ∀ p, p < 8 → k.testBit p = true → (at_ p).toInt < 1000000000) : fsI at_ k 1000000000 8 = fsI at_ k 2147483647 8 := by
  have m1 : (1000000000 : Int32).toInt = 1000000000 := by decide
  have m2 : (2147483647 : Int32).toInt = 2147483647 := by decide
  obtain ⟨p0, a0, b0⟩ := mask_ex hk h0
  have g1 := fsI_le (at_ := at_) (M := 1000000000) p0 a0 b0
  have g2 := fsI_le (at_ := at_) (M := 2147483647) p0 a0 b0
  have g3 := h p0 a0 b0
  rw [← Int32.toInt_inj]
  rcases fsI_at (at_ := at_) (k := k) (M := 1000000000) (n := 8) with h1 | ⟨p, a, b, c⟩
  · rw [h1] at g1; omega
  · rcases fsI_at (at_ := at_) (k := k) (M := 2147483647) (n := 8) with h2 | ⟨q, a2, b2, c2⟩
    · rw [h2] at g2; omega
    · have g4 := fsI_le (at_ := at_) (M := 1000000000) q a2 b2
      have g5 := fsI_le (at_ := at_) (M := 2147483647) p a b
      rw [← c] at g5
      rw [← c2] at g4
      omega
/-! turns with so much water -/
def tkW (W pa : Int32) : Int32 := if W ≤ pa then W else pa
def trW (at_ : Nat → Int32) (cl : Int32 → Nat → Int32) (pa : Nat → Int32) (dr : Int32) : Nat → Nat → Int32 → Int32 → List (Nat × Int32 × Int32)
  | 0, _, _, _ => []
  | n + 1, k, t, W => if k = 0 then [] else
    match nxt at_ cl k (bgt at_ k t) 8 with
    | none => []
    | some p => (p, bgt at_ k t, tkW W (pa p)) :: trW at_ cl pa dr n (clr k p) (bgt at_ k t + dr * tkW W (pa p)) (W - tkW W (pa p))
theorem trW_0 {at_ : Nat → Int32} {cl : Int32 → Nat → Int32} {pa : Nat → Int32} {dr : Int32} (n : Nat) (t W : Int32) : trW at_ cl pa dr n 0 t W = [] := by
  cases n with
  | zero => rfl
  | succ n => rw [trW, if_pos rfl]
theorem trW_s {at_ : Nat → Int32} {cl : Int32 → Nat → Int32} {pa : Nat → Int32} {dr : Int32} (n : Nat) {k : Nat} {t W : Int32} (h0 : k ≠ 0) {p : Nat} (h : nxt at_ cl k (bgt at_ k t) 8 = some p) : trW at_ cl pa dr (n + 1) k t W = (p, bgt at_ k t, tkW W (pa p)) :: trW at_ cl pa dr n (clr k p) (bgt at_ k t + dr * tkW W (pa p)) (W - tkW W (pa p)) := by
  rw [trW, if_neg h0, h]
def mSt (x : tMs) (q : Nat × Int32 × Int32) : tMs := (m_co x, m_mi x, m_mn x, m_pa x, m_ca x, m_dr x, m_fa x, m_st x, m_ha x, m_pd x, m_pn x, m_fr x, m_at x, upd (m_wa x) q.1 (q.2.1 - m_at x q.1), upd (m_en x) q.1 (q.2.1 + (m_dr x * q.2.2)), upd (m_to x) q.1 q.2.2, upd (m_or x) (Int32.toNatClampNeg (m_my x)) (nI q.1), m_my x + 1, m_bf x, m_bs x, m_kp x, m_ik x, m_ka x, m_iw x)
theorem bgt_now {at_ : Nat → Int32} {cl : Int32 → Nat → Int32} {k p : Nat} {t : Int32} (h : nxt at_ cl k t 8 = some p) : bgt at_ k t = t := by
  obtain ⟨a, b, c, -⟩ := nxt_some h
  have g := fsI_le (at_ := at_) (M := 2147483647) p a b
  rw [i_lt] at c
  unfold bgt
  rw [if_neg (by rw [i_lt]; omega)]
theorem bgt_soon {at_ : Nat → Int32} {cl : Int32 → Nat → Int32} {k : Nat} {t : Int32} (h : nxt at_ cl k t 8 = none) : bgt at_ k t = fsI at_ k 2147483647 8 := by
  have hn := nxt_none h
  rw [← Int32.toInt_inj, bgt_I]
  rcases fsI_at (at_ := at_) (k := k) (M := 2147483647) (n := 8) with h1 | ⟨p, a, b, c⟩
  · rw [h1]
    have := i_max t
    omega
  · have := hn p a b
    rw [i_lt] at this
    rw [c]
    omega
theorem bgt_again {at_ : Nat → Int32} {k : Nat} {t : Int32} (h : bgt at_ k t = fsI at_ k 2147483647 8) : bgt at_ k (fsI at_ k 2147483647 8) = bgt at_ k t := by
  rw [← Int32.toInt_inj, bgt_I, h]
  omega
theorem go_13 : ∀ (m n k j : Nat) (x : tMs) (t W : Int32), 2 * m + 1 ≤ n → pop k ≤ m → k < 256 → m_my x = nI j → j + m ≤ 8 → (∀ p, p < 8 → k.testBit p = true → (m_at x p).toInt < 1000000000) →
    fX4_go_13 n x (nI k) t W = (trW (atM x) (clM x) (m_pa x) (m_dr x) m k t W).foldl mSt x ∧ oX4_go_13 n x (nI k) t W := by
  intro m
  induction m with
  | zero =>
    intro n k j x t W hn hp hk hj hm hf
    have hk0 : k = 0 := pop_0 k hk (by omega)
    subst hk0
    obtain ⟨n', rfl⟩ : ∃ n', n = n' + 1 := ⟨n - 1, by omega⟩
    have g : nI 0 = 0 := rfl
    simp only [fX4_go_13, oX4_go_13, if_pos g, trW_0]
    exact ⟨rfl, trivial⟩
  | succ m ih =>
    intro n k j x t W hn hp hk hj hm hf
    by_cases hk0 : k = 0
    · subst hk0
      obtain ⟨n', rfl⟩ : ∃ n', n = n' + 1 := ⟨n - 1, by omega⟩
      have g : nI 0 = 0 := rfl
      simp only [fX4_go_13, oX4_go_13, if_pos g, trW_0]
      exact ⟨rfl, trivial⟩
    · have g0 : ¬ nI k = 0 := nI_ne0 (by omega) (by omega)
      -- somebody waits at that time
      have key : ∀ (n : Nat) (t : Int32) (p : Nat), 2 * m + 2 ≤ n → nxt (atM x) (clM x) k t 8 = some p → fX4_go_13 n x (nI k) t W = (trW (atM x) (clM x) (m_pa x) (m_dr x) (m + 1) k t W).foldl mSt x ∧ oX4_go_13 n x (nI k) t W := by
        intro n t p hn hx
        obtain ⟨n', rfl⟩ : ∃ n', n = n' + 1 := ⟨n - 1, by omega⟩
        obtain ⟨p1, p2, -, -⟩ := nxt_some hx
        have hb := bgt_now hx
        have hnx : fX4_nextOf x (nI k) t = nI p := by rw [(nextOf_eq x t hk).1, hx]; rfl
        have g1 : (0 : Int32) ≤ nI p := nI_pos' (by omega)
        have hi8 : vp_in (nI j) 8 := vin8 (by omega)
        rw [trW_s m hk0 (by rw [hb]; exact hx), hb, List.foldl_cons]
        have ih2 := ih n' (clr k p) (j + 1) (mSt x (p, t, tkW W (m_pa x p))) (t + m_dr x * tkW W (m_pa x p)) (W - tkW W (m_pa x p)) (by omega) (by have := pop_clr k hk p p1 p2; omega) (clr_lt k hk p p1) (by show m_my x + 1 = _; rw [hj, nI_1]) (by omega) (fun q hq hb2 => hf q hq ((clr_t hk p1 hq).mp hb2).1)
        by_cases hw : W ≤ m_pa x p
        · have ht : tkW W (m_pa x p) = W := if_pos hw
          rw [ht] at ih2 ⊢
          simp only [fX4_go_13, oX4_go_13, lt_, lo_, if_neg g0, hnx, if_pos g1, c8 p1, if_pos hw, pk_us, bt_clr k hk p p1, hj]
          rw [mSt, hj] at ih2 ⊢
          exact ⟨ih2.1, (nextOf_eq x t hk).2, vin8 p1, hi8, ih2.2⟩
        · have ht : tkW W (m_pa x p) = m_pa x p := if_neg hw
          rw [ht] at ih2 ⊢
          simp only [fX4_go_13, oX4_go_13, lt_, lo_, if_neg g0, hnx, if_pos g1, c8 p1, if_neg hw, pk_us, bt_clr k hk p p1, hj]
          rw [mSt, hj] at ih2 ⊢
          exact ⟨ih2.1, (nextOf_eq x t hk).2, vin8 p1, hi8, ih2.2⟩
      cases hx : nxt (atM x) (clM x) k t 8 with
      | some p => exact key n t p (by omega) hx
      | none =>
        obtain ⟨n', rfl⟩ : ∃ n', n = n' + 1 := ⟨n - 1, by omega⟩
        have hs := bgt_soon hx
        have hf2 := fs_far (at_ := atM x) hk hk0 hf
        obtain ⟨p, hp2⟩ := nxt_ne (at_ := atM x) (cl := clM x) (t := t) hk hk0
        have hp3 : nxt (atM x) (clM x) k (fsI (atM x) k 2147483647 8) 8 = some p := by rw [← hs]; exact hp2
        have hk2 := key n' (fsI (atM x) k 2147483647 8) p (by omega) hp3
        have hag := bgt_again hs
        have hnx : fX4_nextOf x (nI k) t = -6 := by rw [(nextOf_eq x t hk).1, hx]; rfl
        have g1 : ¬ (0 : Int32) ≤ -6 := by decide
        have e : trW (atM x) (clM x) (m_pa x) (m_dr x) (m + 1) k t W = trW (atM x) (clM x) (m_pa x) (m_dr x) (m + 1) k (fsI (atM x) k 2147483647 8) W := by
          rw [trW_s m hk0 hp2, trW_s m hk0 (by rw [hag]; exact hp2), hag]
        rw [e]
        simp only [fX4_go_13, oX4_go_13, lt_, lo_, if_neg g0, hnx, if_neg g1, (soon_eq x hk).1, hf2]
        exact ⟨hk2.1, (nextOf_eq x t hk).2, (soon_eq x hk).2, hk2.2⟩

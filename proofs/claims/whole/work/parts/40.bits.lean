/-! masks of people: numbers below 256; places below 8 -/
def clr (k p : Nat) : Nat := k &&& (255 ^^^ 2 ^ p)
def sbt (k p : Nat) : Nat := k ||| 2 ^ p
def popU (k : Nat) : Nat → Nat
  | 0 => 0
  | n + 1 => popU k n + (if k.testBit n then 1 else 0)
def pop (k : Nat) : Nat := popU k 8
theorem bt_test : ∀ k, k < 256 → ∀ p, p < 8 → ((nI k >>> (nI p &&& 31)) &&& 1) = if k.testBit p then 1 else 0 := by decide +kernel
theorem bt_clr : ∀ k, k < 256 → ∀ p, p < 8 → nI k &&& ((1 <<< (nI p &&& 31)) ^^^ (-1)) = nI (clr k p) := by decide +kernel
theorem bt_set : ∀ k, k < 256 → ∀ p, p < 8 → nI k ||| (1 <<< (nI p &&& 31)) = nI (sbt k p) := by decide +kernel
theorem clr_lt : ∀ k, k < 256 → ∀ p, p < 8 → clr k p < 256 := by decide +kernel
theorem sbt_lt : ∀ k, k < 256 → ∀ p, p < 8 → sbt k p < 256 := by decide +kernel
theorem clr_test : ∀ k, k < 256 → ∀ p, p < 8 → ∀ q, q < 8 → (clr k p).testBit q = (k.testBit q && decide (q ≠ p)) := by decide +kernel
theorem sbt_test : ∀ k, k < 256 → ∀ p, p < 8 → ∀ q, q < 8 → (sbt k p).testBit q = (k.testBit q || decide (q = p)) := by decide +kernel
theorem pop_clr : ∀ k, k < 256 → ∀ p, p < 8 → k.testBit p = true → pop (clr k p) + 1 = pop k := by decide +kernel
theorem pop_le : ∀ k, k < 256 → pop k ≤ 8 := by decide +kernel
theorem pop_0 : ∀ k, k < 256 → pop k = 0 → k = 0 := by decide +kernel
theorem mask_0 : ∀ k, k < 256 → (∀ p, p < 8 → k.testBit p = false) → k = 0 := by decide +kernel
theorem bc_eq : ∀ k, k < 256 → fJ6_bitCount_0f7a4 (nI k) = nI (pop k) := by decide +kernel
theorem ones_eq : ∀ k, k < 256 → fX4_ones (nI k) = nI (pop k) := by decide +kernel
theorem ones_st : ∀ k, k < 256 → k ≠ 0 → nI k &&& (nI k - 1) = nI (k &&& (k - 1)) ∧ pop (k &&& (k - 1)) + 1 = pop k ∧ k &&& (k - 1) < 256 := by decide +kernel
theorem ones_ok4 : ∀ (n k : Nat) (s : Int32), k < 256 → pop k < n → oX4_ones_4 n s (nI k)
  | 0, k, s, _, h => absurd h (Nat.not_lt_zero _)
  | n + 1, k, s, hk, h => by
    rw [oX4_ones_4]
    by_cases h0 : k = 0
    · subst h0
      rw [if_pos (by decide)]
      trivial
    · rw [if_neg (nI_ne0 (by omega) (by omega))]
      obtain ⟨h1, h2, h3⟩ := ones_st k hk h0
      show oX4_ones_4 n (s + 1) (nI k &&& (nI k - 1))
      rw [h1]
      exact ones_ok4 n _ _ h3 (by omega)
theorem ones_ok (k : Nat) (hk : k < 256) : oX4_ones (nI k) := ones_ok4 9 k 0 hk (by have := pop_le k hk; omega)
/-! small comparisons -/
theorem nIle {a b : Nat} (ha : a < 2 ^ 31) (hb : b < 2 ^ 31) : (nI a ≤ nI b) = (a ≤ b) := propext (nI_leI ha hb)
theorem i_lt {x y : Int32} : (x < y) = (x.toInt < y.toInt) := propext Int32.lt_iff_toInt_lt
theorem i_le {x y : Int32} : (x ≤ y) = (x.toInt ≤ y.toInt) := propext Int32.le_iff_toInt_le
theorem i_eq {x y : Int32} : (x = y) = (x.toInt = y.toInt) := propext Int32.toInt_inj.symm
theorem cl_n {n : Nat} (h : n < 256) : Int32.toNatClampNeg (nI n) = n := nI_clamp (by omega)
theorem ge8 {i : Nat} (h : i ≤ 8) : (8 : Int32) ≤ nI i ↔ i = 8 := by
  rw [show (8 : Int32) = nI 8 from rfl, nI_leI (by decide) (by omega)]
  omega

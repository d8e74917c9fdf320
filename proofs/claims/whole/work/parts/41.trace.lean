/-! the well as a list of turns: who, and when it begins -/
def ahd (at_ : Nat → Int32) (cl : Int32 → Nat → Int32) (t : Int32) (p q : Nat) : Bool :=
  if cl t p = cl t q then (if at_ p = at_ q then decide (p < q) else decide (at_ p < at_ q)) else decide (cl t q < cl t p)
def nx1 (at_ : Nat → Int32) (cl : Int32 → Nat → Int32) (t : Int32) (n : Nat) : Option Nat → Option Nat
  | none => some n
  | some q => if ahd at_ cl t n q = true then some n else some q
def nxt (at_ : Nat → Int32) (cl : Int32 → Nat → Int32) (k : Nat) (t : Int32) : Nat → Option Nat
  | 0 => none
  | n + 1 => if k.testBit n = true then (if t < at_ n then nxt at_ cl k t n else nx1 at_ cl t n (nxt at_ cl k t n)) else nxt at_ cl k t n
def fsI (at_ : Nat → Int32) (k : Nat) (M : Int32) : Nat → Int32
  | 0 => M
  | n + 1 => if k.testBit n = true then (if at_ n < fsI at_ k M n then at_ n else fsI at_ k M n) else fsI at_ k M n
def bgt (at_ : Nat → Int32) (k : Nat) (t : Int32) : Int32 := if t < fsI at_ k 2147483647 8 then fsI at_ k 2147483647 8 else t
def trc (at_ : Nat → Int32) (cl : Int32 → Nat → Int32) (dt : Nat → Int32) : Nat → Nat → Int32 → List (Nat × Int32)
  | 0, _, _ => []
  | n + 1, k, t => if k = 0 then [] else
    match nxt at_ cl k (bgt at_ k t) 8 with
    | none => []
    | some p => (p, bgt at_ k t) :: trc at_ cl dt n (clr k p) (bgt at_ k t + dt p)
def bgn : List (Nat × Int32) → Nat → Int32
  | [], _ => 0
  | (q, b) :: L, p => if q = p then b else bgn L p
theorem ahd_iff {at_ : Nat → Int32} {cl : Int32 → Nat → Int32} {t : Int32} {p q : Nat} : ahd at_ cl t p q = true ↔ ((cl t q).toInt < (cl t p).toInt ∨ ((cl t p).toInt = (cl t q).toInt ∧ ((at_ p).toInt < (at_ q).toInt ∨ ((at_ p).toInt = (at_ q).toInt ∧ p < q)))) := by
  unfold ahd
  by_cases h1 : cl t p = cl t q
  · rw [if_pos h1]
    have e1 := congrArg Int32.toInt h1
    by_cases h2 : at_ p = at_ q
    · rw [if_pos h2]
      have e2 := congrArg Int32.toInt h2
      simp only [decide_eq_true_eq]
      omega
    · rw [if_neg h2]
      have e2 : ¬ (at_ p).toInt = (at_ q).toInt := fun h => h2 (Int32.toInt_inj.mp h)
      simp only [decide_eq_true_eq, i_lt]
      omega
  · rw [if_neg h1]
    have e1 : ¬ (cl t p).toInt = (cl t q).toInt := fun h => h1 (Int32.toInt_inj.mp h)
    simp only [decide_eq_true_eq, i_lt]
    omega
section Tr
variable {at_ : Nat → Int32} {cl : Int32 → Nat → Int32} {dt : Nat → Int32} {k : Nat} {t : Int32}
theorem ahd_asym {p q : Nat} (h : ahd at_ cl t p q = true) : ¬ ahd at_ cl t q p = true := by
  rw [ahd_iff] at h ⊢
  omega
theorem ahd_tot {p q : Nat} (hn : p ≠ q) (h : ¬ ahd at_ cl t p q = true) : ahd at_ cl t q p = true := by
  rw [ahd_iff] at h ⊢
  omega
theorem ahd_tr {p q r : Nat} (h : ahd at_ cl t p q = true) (h2 : ahd at_ cl t q r = true) : ahd at_ cl t p r = true := by
  rw [ahd_iff] at h h2 ⊢
  omega
theorem nxt_none : ∀ {n : Nat}, nxt at_ cl k t n = none → ∀ p, p < n → k.testBit p = true → t < at_ p
  | 0, _, p, hp, _ => absurd hp (Nat.not_lt_zero p)
  | n + 1, h, p, hp, hb => by
    rw [nxt] at h
    by_cases h1 : k.testBit n = true
    · rw [if_pos h1] at h
      by_cases h2 : t < at_ n
      · rw [if_pos h2] at h
        by_cases hpn : p = n
        · subst hpn; exact h2
        · exact nxt_none h p (by omega) hb
      · rw [if_neg h2] at h
        cases hq : nxt at_ cl k t n with
        | none => rw [hq] at h; cases h
        | some q => rw [hq, nx1] at h; split at h <;> cases h
    · rw [if_neg h1] at h
      by_cases hpn : p = n
      · subst hpn; exact absurd hb h1
      · exact nxt_none h p (by omega) hb
theorem nxt_some : ∀ {n p : Nat}, nxt at_ cl k t n = some p → p < n ∧ k.testBit p = true ∧ ¬ t < at_ p ∧ ∀ q, q < n → k.testBit q = true → ¬ t < at_ q → q ≠ p → ahd at_ cl t p q = true
  | 0, p, h => by rw [nxt] at h; cases h
  | n + 1, p, h => by
    rw [nxt] at h
    by_cases h1 : k.testBit n = true
    · rw [if_pos h1] at h
      by_cases h2 : t < at_ n
      · rw [if_pos h2] at h
        obtain ⟨a, b, c, d⟩ := nxt_some h
        refine ⟨by omega, b, c, fun q hq hb hc hn => ?_⟩
        by_cases hqn : q = n
        · subst hqn; exact absurd h2 hc
        · exact d q (by omega) hb hc hn
      · rw [if_neg h2] at h
        cases hq : nxt at_ cl k t n with
        | none =>
          rw [hq, nx1] at h
          cases h
          refine ⟨by omega, h1, h2, fun q hq2 hb hc hn => ?_⟩
          exact absurd (nxt_none hq q (by omega) hb) hc
        | some r =>
          obtain ⟨a, b, c, d⟩ := nxt_some hq
          rw [hq, nx1] at h
          by_cases h3 : ahd at_ cl t n r = true
          · rw [if_pos h3] at h
            cases h
            refine ⟨by omega, h1, h2, fun q hq2 hb hc hn => ?_⟩
            by_cases hqr : q = r
            · subst hqr; exact h3
            · exact ahd_tr h3 (d q (by omega) hb hc hqr)
          · rw [if_neg h3] at h
            cases h
            refine ⟨by omega, b, c, fun q hq2 hb hc hn => ?_⟩
            by_cases hqn : q = n
            · subst hqn; exact ahd_tot hn h3
            · exact d q (by omega) hb hc hn
    · rw [if_neg h1] at h
      obtain ⟨a, b, c, d⟩ := nxt_some h
      refine ⟨by omega, b, c, fun q hq hb hc hn => ?_⟩
      by_cases hqn : q = n
      · subst hqn; exact absurd hb h1
      · exact d q (by omega) hb hc hn
/-- who is ahead of all others who wait is the next -/
theorem nxt_is {p : Nat} (hp : p < 8) (hb : k.testBit p = true) (hc : ¬ t < at_ p) (h : ∀ q, q < 8 → k.testBit q = true → ¬ t < at_ q → q ≠ p → ahd at_ cl t p q = true) : nxt at_ cl k t 8 = some p := by
  cases hq : nxt at_ cl k t 8 with
  | none => exact absurd (nxt_none hq p hp hb) hc
  | some r =>
    obtain ⟨a, b, c, d⟩ := nxt_some hq
    by_cases hrp : r = p
    · rw [hrp]
    · exact absurd (h r a b c hrp) (ahd_asym (d p hp hb hc (Ne.symm hrp)))
theorem fsI_le {M : Int32} : ∀ {n : Nat} (p : Nat), p < n → k.testBit p = true → (fsI at_ k M n).toInt ≤ (at_ p).toInt
  | 0, p, hp, _ => absurd hp (Nat.not_lt_zero p)
  | n + 1, p, hp, hb => by
    rw [fsI]
    by_cases hpn : p = n
    · subst hpn
      rw [if_pos hb]
      split
      · exact Int.le_refl _
      · rename_i h; rw [i_lt] at h; omega
    · have ih := fsI_le (M := M) p (show p < n by omega) hb
      split
      · split
        · rename_i h; rw [i_lt] at h; omega
        · exact ih
      · exact ih
theorem fsI_at {M : Int32} : ∀ {n : Nat}, fsI at_ k M n = M ∨ ∃ p, p < n ∧ k.testBit p = true ∧ fsI at_ k M n = at_ p
  | 0 => Or.inl rfl
  | n + 1 => by
    rw [fsI]
    have ih := fsI_at (M := M) (n := n)
    split
    · rename_i h1
      split
      · exact Or.inr ⟨n, by omega, h1, rfl⟩
      · rcases ih with h | ⟨p, a, b, c⟩
        · exact Or.inl h
        · exact Or.inr ⟨p, by omega, b, c⟩
    · rcases ih with h | ⟨p, a, b, c⟩
      · exact Or.inl h
      · exact Or.inr ⟨p, by omega, b, c⟩
theorem fsI_M {M : Int32} : ∀ {n : Nat}, (fsI at_ k M n).toInt ≤ M.toInt
  | 0 => Int.le_refl _
  | n + 1 => by
    rw [fsI]
    have ih := fsI_M (M := M) (n := n)
    split
    · split
      · rename_i h; rw [i_lt] at h; omega
      · exact ih
    · exact ih
theorem i_max (x : Int32) : x.toInt ≤ (2147483647 : Int32).toInt := by
  have h1 := x.toInt_lt
  have h2 : (2147483647 : Int32).toInt = 2147483647 := by decide
  omega
theorem mask_ex (hk : k < 256) (h0 : k ≠ 0) : ∃ p, p < 8 ∧ k.testBit p = true := by
  apply Classical.byContradiction
  intro h
  apply h0
  refine mask_0 k hk fun p hp => ?_
  cases hb : k.testBit p with
  | false => rfl
  | true => exact absurd ⟨p, hp, hb⟩ h
theorem bgt_ge : t.toInt ≤ (bgt at_ k t).toInt := by
  unfold bgt
  split
  · rename_i h; rw [i_lt] at h; omega
  · exact Int.le_refl _
/-- at the moment at which a turn begins somebody waits -/
theorem nxt_ne (hk : k < 256) (h0 : k ≠ 0) : ∃ p, nxt at_ cl k (bgt at_ k t) 8 = some p := by
  cases h : nxt at_ cl k (bgt at_ k t) 8 with
  | some p => exact ⟨p, rfl⟩
  | none =>
    exfalso
    have hn := nxt_none h
    obtain ⟨p0, hp0, hb0⟩ := mask_ex hk h0
    have hbg : (fsI at_ k 2147483647 8).toInt ≤ (bgt at_ k t).toInt := by
      unfold bgt
      split
      · exact Int.le_refl _
      · rename_i h; rw [i_lt] at h; omega
    rcases fsI_at (at_ := at_) (k := k) (M := 2147483647) (n := 8) with h1 | ⟨p, a, b, c⟩
    · have h2 := hn p0 hp0 hb0
      rw [i_lt] at h2
      rw [h1] at hbg
      have := i_max (at_ p0)
      omega
    · have h2 := hn p a b
      rw [i_lt] at h2
      rw [c] at hbg
      omega
theorem trc_0 (n : Nat) : trc at_ cl dt n 0 t = [] := by
  cases n with
  | zero => rfl
  | succ n => rw [trc, if_pos rfl]
theorem trc_s (n : Nat) (h0 : k ≠ 0) {p : Nat} (h : nxt at_ cl k (bgt at_ k t) 8 = some p) : trc at_ cl dt (n + 1) k t = (p, bgt at_ k t) :: trc at_ cl dt n (clr k p) (bgt at_ k t + dt p) := by
  rw [trc, if_neg h0, h]
theorem clr_t {p q : Nat} (hk : k < 256) (hp : p < 8) (hq : q < 8) : (clr k p).testBit q = true ↔ (k.testBit q = true ∧ q ≠ p) := by
  rw [clr_test k hk p hp q hq]
  simp
/-- who is in the list -/
theorem trc_in : ∀ (n : Nat) (k : Nat) (t : Int32), k < 256 → ∀ q ∈ trc at_ cl dt n k t, q.1 < 8 ∧ k.testBit q.1 = true
  | 0, k, t, _, q, h => by rw [trc] at h; cases h
  | n + 1, k, t, hk, q, h => by
    by_cases h0 : k = 0
    · subst h0; rw [trc_0] at h; cases h
    · obtain ⟨p, hp⟩ := nxt_ne (at_ := at_) (cl := cl) (t := t) hk h0
      obtain ⟨a, b, -, -⟩ := nxt_some hp
      rw [trc_s n h0 hp] at h
      rcases List.mem_cons.mp h with rfl | h
      · exact ⟨a, b⟩
      · obtain ⟨c, d⟩ := trc_in n _ _ (clr_lt k hk p a) q h
        exact ⟨c, ((clr_t hk a c).mp d).1⟩
theorem trc_nd : ∀ (n : Nat) (k : Nat) (t : Int32), k < 256 → ((trc at_ cl dt n k t).map Prod.fst).Nodup
  | 0, k, t, _ => by rw [trc]; exact List.nodup_nil
  | n + 1, k, t, hk => by
    by_cases h0 : k = 0
    · subst h0; rw [trc_0]; exact List.nodup_nil
    · obtain ⟨p, hp⟩ := nxt_ne (at_ := at_) (cl := cl) (t := t) hk h0
      obtain ⟨a, b, -, -⟩ := nxt_some hp
      rw [trc_s n h0 hp, List.map_cons, List.nodup_cons]
      refine ⟨fun h => ?_, trc_nd n _ _ (clr_lt k hk p a)⟩
      obtain ⟨q, hq, e⟩ := List.mem_map.mp h
      obtain ⟨c, d⟩ := trc_in n _ _ (clr_lt k hk p a) q hq
      exact ((clr_t hk a c).mp d).2 e
theorem trc_len : ∀ (n : Nat) (k : Nat) (t : Int32), k < 256 → (trc at_ cl dt n k t).length = min n (pop k)
  | 0, k, t, _ => by rw [trc]; simp
  | n + 1, k, t, hk => by
    by_cases h0 : k = 0
    · subst h0; rw [trc_0]; simp [show pop 0 = 0 by decide]
    · obtain ⟨p, hp⟩ := nxt_ne (at_ := at_) (cl := cl) (t := t) hk h0
      obtain ⟨a, b, -, -⟩ := nxt_some hp
      rw [trc_s n h0 hp, List.length_cons, trc_len n _ _ (clr_lt k hk p a)]
      have := pop_clr k hk p a b
      omega
theorem trc_all : ∀ (n : Nat) (k : Nat) (t : Int32), k < 256 → pop k ≤ n → ∀ p, p < 8 → k.testBit p = true → p ∈ (trc at_ cl dt n k t).map Prod.fst
  | 0, k, t, hk, hn, p, hp, hb => by
    have := pop_clr k hk p hp hb
    omega
  | n + 1, k, t, hk, hn, p, hp, hb => by
    by_cases h0 : k = 0
    · subst h0; simp at hb
    · obtain ⟨r, hr⟩ := nxt_ne (at_ := at_) (cl := cl) (t := t) hk h0
      obtain ⟨a, b, -, -⟩ := nxt_some hr
      rw [trc_s n h0 hr, List.map_cons]
      by_cases hpr : p = r
      · subst hpr; exact List.mem_cons_self
      · refine List.mem_cons_of_mem _ (trc_all n _ _ (clr_lt k hk r a) ?_ p hp ((clr_t hk a hp).mpr ⟨hb, hpr⟩))
        have := pop_clr k hk r a b
        omega
end Tr
/-- only those of the mask matter -/
theorem ahd_congr {at_ at2 : Nat → Int32} {cl cl2 : Int32 → Nat → Int32} {t : Int32} {p q : Nat} (h1 : at_ p = at2 p) (h2 : at_ q = at2 q) (h3 : cl t p = cl2 t p) (h4 : cl t q = cl2 t q) : ahd at_ cl t p q = ahd at2 cl2 t p q := by
  unfold ahd
  rw [h1, h2, h3, h4]
theorem nxt_congr {at_ at2 : Nat → Int32} {cl cl2 : Int32 → Nat → Int32} {k : Nat} {t : Int32} : ∀ {n : Nat}, (∀ p, p < n → k.testBit p = true → at_ p = at2 p ∧ cl t p = cl2 t p) → nxt at_ cl k t n = nxt at2 cl2 k t n
  | 0, _ => rfl
  | n + 1, h => by
    have ih := nxt_congr (n := n) (fun p hp hb => h p (by omega) hb)
    rw [nxt, nxt, ← ih]
    by_cases h1 : k.testBit n = true
    · rw [if_pos h1, if_pos h1, (h n (by omega) h1).1]
      by_cases h2 : t < at2 n
      · rw [if_pos h2, if_pos h2]
      · rw [if_neg h2, if_neg h2]
        cases hq : nxt at_ cl k t n with
        | none => rfl
        | some q =>
          obtain ⟨a, b, -, -⟩ := nxt_some hq
          rw [nx1, nx1, ahd_congr (h n (by omega) h1).1 (h q (by omega) b).1 (h n (by omega) h1).2 (h q (by omega) b).2]
    · rw [if_neg h1, if_neg h1]
theorem fsI_congr {at_ at2 : Nat → Int32} {k : Nat} {M : Int32} : ∀ {n : Nat}, (∀ p, p < n → k.testBit p = true → at_ p = at2 p) → fsI at_ k M n = fsI at2 k M n
  | 0, _ => rfl
  | n + 1, h => by
    have ih := fsI_congr (M := M) (n := n) (fun p hp hb => h p (by omega) hb)
    rw [fsI, fsI, ih]
    by_cases h1 : k.testBit n = true
    · rw [if_pos h1, if_pos h1, h n (by omega) h1]
    · rw [if_neg h1, if_neg h1]
theorem trc_congr {at_ at2 : Nat → Int32} {cl cl2 : Int32 → Nat → Int32} {dt dt2 : Nat → Int32} : ∀ (n k : Nat) (t : Int32), k < 256 → (∀ p, p < 8 → k.testBit p = true → at_ p = at2 p ∧ (∀ t, cl t p = cl2 t p) ∧ dt p = dt2 p) → trc at_ cl dt n k t = trc at2 cl2 dt2 n k t
  | 0, k, t, _, _ => rfl
  | n + 1, k, t, hk, h => by
    by_cases h0 : k = 0
    · subst h0; rw [trc_0, trc_0]
    · have hf : bgt at_ k t = bgt at2 k t := by
        unfold bgt
        rw [fsI_congr (fun p hp hb => (h p hp hb).1)]
      have hx : nxt at_ cl k (bgt at_ k t) 8 = nxt at2 cl2 k (bgt at2 k t) 8 := by
        rw [hf]
        exact nxt_congr (fun p hp hb => ⟨(h p hp hb).1, (h p hp hb).2.1 _⟩)
      obtain ⟨p, hp⟩ := nxt_ne (at_ := at_) (cl := cl) (t := t) hk h0
      obtain ⟨a, b, -, -⟩ := nxt_some hp
      rw [trc_s n h0 hp, trc_s n h0 (hx.symm.trans hp), hf, (h p a b).2.2]
      rw [trc_congr n (clr k p) _ (clr_lt k hk p a) (fun q hq hb => h q hq ((clr_t hk a hq).mp hb).1)]

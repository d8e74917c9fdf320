/-! sums of ints without wrap-around -/
theorem ib_rng (x : Int32) : -2147483648 ≤ x.toInt ∧ x.toInt < 2147483648 := by
  have h1 := Int32.le_toInt x
  have h2 := Int32.toInt_lt x
  omega
theorem ib_bmod {z : Int} (h1 : -2147483648 ≤ z) (h2 : z < 2147483648) : z.bmod (2 ^ 32) = z := by
  rw [Int.bmod_eq_of_le (by omega) (by omega)]
theorem ib_add {x y : Int32} (h1 : -2147483648 ≤ x.toInt + y.toInt) (h2 : x.toInt + y.toInt < 2147483648) : (x + y).toInt = x.toInt + y.toInt := by
  rw [Int32.toInt_add, ib_bmod h1 h2]
theorem ib_sub {x y : Int32} (h1 : -2147483648 ≤ x.toInt - y.toInt) (h2 : x.toInt - y.toInt < 2147483648) : (x - y).toInt = x.toInt - y.toInt := by
  rw [Int32.toInt_sub, ib_bmod h1 h2]
theorem ib_mul {x y : Int32} (h1 : -2147483648 ≤ x.toInt * y.toInt) (h2 : x.toInt * y.toInt < 2147483648) : (x * y).toInt = x.toInt * y.toInt := by
  rw [Int32.toInt_mul, ib_bmod h1 h2]
theorem ib_nI {n : Nat} (h : n < 2 ^ 31) : (nI n).toInt = (n : Int) := nI_toInt h
/-! one more at the well -/
def chn (c f : Int32) : Int32 := if c < f then f else c
def bom (at_ : Nat → Int32) (cl : Int32 → Nat → Int32) (dt : Nat → Int32) (P : Nat) : Int32 → List (Nat × Int32) → Int32
  | f, [] => chn (at_ P) f
  | f, (q, b) :: L => if b ≤ chn (at_ P) f then (if chn (at_ P) f = b then (if ahd at_ cl (chn (at_ P) f) P q = true then chn (at_ P) f else bom at_ cl dt P (b + dt q) L) else bom at_ cl dt P (b + dt q) L) else chn (at_ P) f
theorem sbt_t {k p q : Nat} (hk : k < 256) (hp : p < 8) (hq : q < 8) : (sbt k p).testBit q = true ↔ (k.testBit q = true ∨ q = p) := by
  rw [sbt_test k hk p hp q hq]
  simp
theorem clr_sbt : ∀ k, k < 256 → ∀ p, p < 8 → ∀ q, q < 8 → q ≠ p → clr (sbt k p) q = sbt (clr k q) p := by decide +kernel
theorem sbt_ne : ∀ k, k < 256 → ∀ p, p < 8 → sbt k p ≠ 0 := by decide +kernel
theorem sbt_clr : ∀ k, k < 256 → ∀ p, p < 8 → k.testBit p = true → sbt (clr k p) p = k := by decide +kernel
theorem chn_I (c f : Int32) : (chn c f).toInt = max c.toInt f.toInt := by
  unfold chn
  split <;> rename_i h <;> rw [i_lt] at h <;> omega
theorem bgt_I (at_ : Nat → Int32) (k : Nat) (t : Int32) : (bgt at_ k t).toInt = max t.toInt (fsI at_ k 2147483647 8).toInt := by
  unfold bgt
  split <;> rename_i h <;> rw [i_lt] at h <;> omega
theorem fsI_sbt (at_ : Nat → Int32) {k P : Nat} (M : Int32) (hk : k < 256) (hP : P < 8) : (fsI at_ (sbt k P) M 8).toInt = min (at_ P).toInt (fsI at_ k M 8).toInt := by
  have h1 : (fsI at_ (sbt k P) M 8).toInt ≤ (at_ P).toInt := fsI_le P hP ((sbt_t hk hP hP).mpr (Or.inr rfl))
  have h2 : (fsI at_ (sbt k P) M 8).toInt ≤ (fsI at_ k M 8).toInt := by
    rcases fsI_at (at_ := at_) (k := k) (M := M) (n := 8) with h | ⟨p, a, b, c⟩
    · rw [h]; exact fsI_M
    · rw [c]; exact fsI_le p a ((sbt_t hk hP a).mpr (Or.inl b))
  have h3 : min (at_ P).toInt (fsI at_ k M 8).toInt ≤ (fsI at_ (sbt k P) M 8).toInt := by
    rcases fsI_at (at_ := at_) (k := sbt k P) (M := M) (n := 8) with h | ⟨p, a, b, c⟩
    · rw [h]
      have := fsI_M (at_ := at_) (k := k) (M := M) (n := 8)
      omega
    · rw [c]
      rcases (sbt_t hk hP a).mp b with h | h
      · have := fsI_le (at_ := at_) (M := M) p a h
        omega
      · subst h; omega
  omega
theorem fsI_0 (at_ : Nat → Int32) (M : Int32) : fsI at_ 0 M 8 = M := by
  rcases fsI_at (at_ := at_) (k := 0) (M := M) (n := 8) with h | ⟨p, a, b, c⟩
  · exact h
  · simp at b
theorem bgn_at {P : Nat} {b : Int32} {L : List (Nat × Int32)} : bgn ((P, b) :: L) P = b := by rw [bgn, if_pos rfl]
theorem ins {at_ : Nat → Int32} {cl : Int32 → Nat → Int32} {dt : Nat → Int32} {P : Nat} (hP : P < 8) : ∀ (n k : Nat) (t : Int32), k < 256 → ¬ k.testBit P = true → pop k ≤ n → bgn (trc at_ cl dt (n + 1) (sbt k P) t) P = bom at_ cl dt P t (trc at_ cl dt n k t) := by
  intro n
  induction n with
  | zero =>
    intro k t hk hn h0
    have hk0 : k = 0 := pop_0 k hk (by omega)
    subst hk0
    have hb : bgt at_ (sbt 0 P) t = chn (at_ P) t := by
      rw [← Int32.toInt_inj, bgt_I, chn_I, fsI_sbt at_ _ (by decide) hP, fsI_0]
      have := i_max (at_ P)
      omega
    have hx : nxt at_ cl (sbt 0 P) (bgt at_ (sbt 0 P) t) 8 = some P := by
      refine nxt_is hP ((sbt_t (by decide) hP hP).mpr (Or.inr rfl)) ?_ (fun q hq hb2 _ hne => ?_)
      · rw [hb, i_lt, chn_I]; omega
      · rcases (sbt_t (by decide) hP hq).mp hb2 with h | h
        · simp at h
        · exact absurd h hne
    rw [trc_s 0 (sbt_ne 0 (by decide) P hP) hx, bgn_at, trc_0, bom, hb]
  | succ n ih =>
    intro k t hk hn h0
    by_cases hk0 : k = 0
    · subst hk0
      have hb : bgt at_ (sbt 0 P) t = chn (at_ P) t := by
        rw [← Int32.toInt_inj, bgt_I, chn_I, fsI_sbt at_ _ (by decide) hP, fsI_0]
        have := i_max (at_ P)
        omega
      have hx : nxt at_ cl (sbt 0 P) (bgt at_ (sbt 0 P) t) 8 = some P := by
        refine nxt_is hP ((sbt_t (by decide) hP hP).mpr (Or.inr rfl)) ?_ (fun q hq hb2 _ hne => ?_)
        · rw [hb, i_lt, chn_I]; omega
        · rcases (sbt_t (by decide) hP hq).mp hb2 with h | h
          · simp at h
          · exact absurd h hne
      rw [trc_s (n + 1) (sbt_ne 0 (by decide) P hP) hx, bgn_at, trc_0, bom, hb]
    · obtain ⟨q, hq⟩ := nxt_ne (at_ := at_) (cl := cl) (t := t) hk hk0
      obtain ⟨q1, q2, q3, q4⟩ := nxt_some hq
      have hqP : q ≠ P := fun h => hn (h ▸ q2)
      have hB := bgt_I at_ (sbt k P) t
      have hB' := bgt_I at_ k t
      have hF := fsI_sbt at_ (k := k) (P := P) 2147483647 hk hP
      have hC := chn_I (at_ P) t
      rw [trc_s n hk0 hq, bom]
      rw [i_lt] at q3
      -- goes on to q
      have cont : bgt at_ (sbt k P) t = bgt at_ k t → (¬ (bgt at_ k t).toInt < (at_ P).toInt → ahd at_ cl (bgt at_ k t) q P = true) → bgn (trc at_ cl dt (n + 1 + 1) (sbt k P) t) P = bom at_ cl dt P (bgt at_ k t + dt q) (trc at_ cl dt n (clr k q) (bgt at_ k t + dt q)) := by
        intro hb ha
        have hx : nxt at_ cl (sbt k P) (bgt at_ (sbt k P) t) 8 = some q := by
          rw [hb]
          refine nxt_is q1 ((sbt_t hk hP q1).mpr (Or.inl q2)) (by rw [i_lt]; exact q3) (fun r hr hb2 hc hne => ?_)
          rcases (sbt_t hk hP hr).mp hb2 with h | h
          · exact q4 r hr h hc hne
          · subst h; exact ha (by rw [← i_lt]; exact hc)
        rw [trc_s (n + 1) (sbt_ne k hk P hP) hx, bgn, if_neg hqP, hb, clr_sbt k hk P hP q q1 hqP]
        refine ih (clr k q) _ (clr_lt k hk q q1) (fun h => hn ((clr_t hk q1 hP).mp h).1) ?_
        have := pop_clr k hk q q1 q2
        omega
      by_cases c1 : bgt at_ k t ≤ chn (at_ P) t
      · rw [if_pos c1]
        rw [i_le] at c1
        by_cases c2 : chn (at_ P) t = bgt at_ k t
        · rw [if_pos c2]
          have c2' := congrArg Int32.toInt c2
          have hb : bgt at_ (sbt k P) t = bgt at_ k t := by
            rw [← Int32.toInt_inj]; omega
          by_cases c3 : ahd at_ cl (chn (at_ P) t) P q = true
          · rw [if_pos c3]
            have hx : nxt at_ cl (sbt k P) (bgt at_ (sbt k P) t) 8 = some P := by
              rw [hb]
              refine nxt_is hP ((sbt_t hk hP hP).mpr (Or.inr rfl)) (by rw [i_lt]; omega) (fun r hr hb2 hc hne => ?_)
              rw [c2] at c3
              rcases (sbt_t hk hP hr).mp hb2 with h | h
              · by_cases hrq : r = q
                · subst hrq; exact c3
                · exact ahd_tr c3 (q4 r hr h hc hrq)
              · exact absurd h hne
            rw [trc_s (n + 1) (sbt_ne k hk P hP) hx, bgn_at, hb, c2]
          · rw [if_neg c3]
            rw [c2] at c3
            exact cont hb (fun _ => ahd_tot (Ne.symm hqP) c3)
        · rw [if_neg c2]
          have c2' : ¬ (chn (at_ P) t).toInt = (bgt at_ k t).toInt := fun h => c2 (Int32.toInt_inj.mp h)
          have hb : bgt at_ (sbt k P) t = bgt at_ k t := by
            rw [← Int32.toInt_inj]; omega
          exact cont hb (fun h => absurd h (by omega))
      · rw [if_neg c1]
        rw [i_le] at c1
        have hb : bgt at_ (sbt k P) t = chn (at_ P) t := by
          rw [← Int32.toInt_inj]; omega
        have hx : nxt at_ cl (sbt k P) (bgt at_ (sbt k P) t) 8 = some P := by
          rw [hb]
          refine nxt_is hP ((sbt_t hk hP hP).mpr (Or.inr rfl)) (by rw [i_lt]; omega) (fun r hr hb2 hc hne => ?_)
          rcases (sbt_t hk hP hr).mp hb2 with h | h
          · have h1 := fsI_le (at_ := at_) (M := 2147483647) r hr h
            rw [i_lt] at hc
            omega
          · exact absurd h hne
        rw [trc_s (n + 1) (sbt_ne k hk P hP) hx, bgn_at, hb]
/-! bounds of the times -/
theorem trc_bd {at_ : Nat → Int32} {cl : Int32 → Nat → Int32} {dt : Nat → Int32} : ∀ (n k : Nat) (t : Int32), k < 256 → n ≤ 8 → 0 ≤ t.toInt → t.toInt ≤ 2000 + 180 * (8 - n) → (∀ p, p < 8 → k.testBit p = true → 0 ≤ (at_ p).toInt ∧ (at_ p).toInt ≤ 2000 ∧ 0 ≤ (dt p).toInt ∧ (dt p).toInt ≤ 180) → ∀ q ∈ trc at_ cl dt n k t, (at_ q.1).toInt ≤ q.2.toInt ∧ q.2.toInt ≤ 3440
  | 0, k, t, _, _, _, _, _, q, h => by rw [trc] at h; cases h
  | n + 1, k, t, hk, hn, h0, h1, hr, q, h => by
    by_cases hk0 : k = 0
    · subst hk0; rw [trc_0] at h; cases h
    · obtain ⟨p, hp⟩ := nxt_ne (at_ := at_) (cl := cl) (t := t) hk hk0
      obtain ⟨a, b, c, -⟩ := nxt_some hp
      rw [trc_s n hk0 hp] at h
      have hB := bgt_I at_ k t
      have hF := fsI_le (at_ := at_) (M := 2147483647) p a b
      have hrp := hr p a b
      rw [i_lt] at c
      rcases List.mem_cons.mp h with rfl | h
      · dsimp only
        omega
      · have hs : (bgt at_ k t + dt p).toInt = (bgt at_ k t).toInt + (dt p).toInt := ib_add (by omega) (by omega)
        exact trc_bd n (clr k p) _ (clr_lt k hk p a) (by omega) (by omega) (by omega) (fun q hq hb => hr q hq ((clr_t hk a hq).mp hb).1) q h

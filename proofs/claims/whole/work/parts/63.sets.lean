theorem dif_t {s c p : Nat} (hp : p < 8) : (dif s c).testBit p = (s.testBit p && !c.testBit p) := by
  unfold dif
  rw [Nat.testBit_and, Nat.testBit_xor, show 255 = 2 ^ 8 - 1 from rfl, Nat.testBit_two_pow_sub_one]
  simp [hp]
theorem dif_in {s c p : Nat} (h : dif s c = 0) (hp : p < 8) (hb : s.testBit p = true) : c.testBit p = true := by
  have e := dif_t (s := s) (c := c) hp
  rw [h, hb] at e
  simp at e
  exact e
theorem nI0 {a : Nat} (h : a < 256) : (nI a = 0) = (a = 0) := propext ⟨fun e => by
    have := congrArg Int32.toInt e
    rw [nI_toInt (by omega)] at this
    have m0 : (0 : Int32).toInt = 0 := by decide
    omega, fun e => by rw [e]; rfl⟩
/-! waits of a set alone -/
def wt (v : tVl) (k p : Nat) : Int32 := bgn (trV v k) p - atV v p
def Wd (v : tVl) (k : Nat) : Int32 := wsU (wt v k) k 8
def Sd (v : tVl) (k : Nat) : Int32 := smU (wt v k) k 8
def Mx (v : tVl) (c s : Nat) : Int32 := if Wd v s < Wd v (dif c s) then Wd v (dif c s) else Wd v s
def Tx (v : tVl) (c s : Nat) : Int32 := Sd v s + Sd v (dif c s)
theorem wsU_cg {f g : Nat → Int32} {k : Nat} : ∀ {n : Nat}, (∀ p, p < n → k.testBit p = true → f p = g p) → wsU f k n = wsU g k n
  | 0, _ => rfl
  | n + 1, h => by
    rw [wsU_1, wsU_1, wsU_cg (n := n) (fun p hp hb => h p (by omega) hb)]
    by_cases hb : k.testBit n = true
    · rw [h n (by omega) hb]
    · rw [if_neg hb, if_neg hb]
theorem smU_un {f g h : Nat → Int32} {c s : Nat} (hs : dif s c = 0) : ∀ {n : Nat}, n ≤ 8 → (∀ p, p < n → s.testBit p = true → f p = g p) → (∀ p, p < n → (dif c s).testBit p = true → f p = h p) → smU f c n = smU g s n + smU h (dif c s) n
  | 0, _, _, _ => by
    show (0 : Int32) = 0 + 0
    decide
  | n + 1, hn, hg, hh => by
    have ih := smU_un (n := n) hs (by omega) (fun p hp hb => hg p (by omega) hb) (fun p hp hb => hh p (by omega) hb)
    rw [smU_1, smU_1, smU_1, ih]
    have e := dif_t (s := c) (c := s) (p := n) (by omega)
    by_cases hb : s.testBit n = true
    · have hc := dif_in hs (by omega) hb
      rw [hc, hb] at e
      rw [if_pos hc, if_pos hb, if_neg (by rw [e]; decide), hg n (by omega) hb, Int32.add_assoc, Int32.add_comm _ (g n), ← Int32.add_assoc]
    · by_cases hc : c.testBit n = true
      · have hd : (dif c s).testBit n = true := by rw [e, hc]; simp at hb; rw [hb]; rfl
        rw [if_pos hc, if_neg hb, if_pos hd, hh n (by omega) hd, Int32.add_assoc]
      · have hd : ¬ (dif c s).testBit n = true := by rw [e]; simp at hc; rw [hc]; simp
        rw [if_neg hc, if_neg hb, if_neg hd]
theorem wsU_un {f g h : Nat → Int32} {c s : Nat} (hs : dif s c = 0) (hg : ∀ p, p < 8 → s.testBit p = true → f p = g p) (hh : ∀ p, p < 8 → (dif c s).testBit p = true → f p = h p) : wsU f c 8 = if wsU g s 8 < wsU h (dif c s) 8 then wsU h (dif c s) 8 else wsU g s 8 := by
  obtain ⟨a0, a1⟩ := wsU_at g s 8
  obtain ⟨b0, b1⟩ := wsU_at h (dif c s) 8
  have ins : ∀ p, p < 8 → (dif c s).testBit p = true → c.testBit p = true := fun p hp hb => by
    rw [dif_t hp] at hb
    simp at hb
    exact hb.1
  have cov : ∀ p, p < 8 → c.testBit p = true → (f p).toInt ≤ (wsU g s 8).toInt ∨ (f p).toInt ≤ (wsU h (dif c s) 8).toInt := by
    intro p hp hb
    by_cases hq : s.testBit p = true
    · left
      rw [hg p hp hq]
      exact wsU_ge g s 8 p hp hq
    · right
      have hd : (dif c s).testBit p = true := by rw [dif_t hp, hb]; simp at hq; rw [hq]; rfl
      rw [hh p hp hd]
      exact wsU_ge h _ 8 p hp hd
  by_cases hlt : wsU g s 8 < wsU h (dif c s) 8
  · rw [if_pos hlt]
    rw [i_lt] at hlt
    refine wsU_is b0 (fun p hp hb => ?_) ?_
    · rcases cov p hp hb with z | z <;> omega
    · rcases b1 with e | ⟨p, hp, hb, e⟩
      · exact Or.inl e
      · exact Or.inr ⟨p, hp, ins p hp hb, by rw [hh p hp hb]; exact e⟩
  · rw [if_neg hlt]
    rw [i_lt] at hlt
    refine wsU_is a0 (fun p hp hb => ?_) ?_
    · rcases cov p hp hb with z | z <;> omega
    · rcases a1 with e | ⟨p, hp, hb, e⟩
      · exact Or.inl e
      · exact Or.inr ⟨p, hp, dif_in hs hp hb, by rw [hg p hp hb]; exact e⟩
theorem Wd_0 (v : tVl) (k : Nat) : 0 ≤ (Wd v k).toInt := (wsU_at (wt v k) k 8).1
theorem Wd_e (v : tVl) : Wd v 0 = 0 := by
  rcases (wsU_at (wt v 0) 0 8).2 with e | ⟨p, _, hb, _⟩
  · exact e
  · simp at hb
theorem Sd_e (v : tVl) : Sd v 0 = 0 := smU_0 _ 8
theorem Mx_sy (v : tVl) {c s : Nat} (h : dif c (dif c s) = s) : Mx v c (dif c s) = Mx v c s := by
  unfold Mx
  rw [h]
  generalize Wd v s = a
  generalize Wd v (dif c s) = b
  by_cases h1 : b < a
  · have h1' := h1
    rw [i_lt] at h1'
    rw [if_pos h1, if_neg (by rw [i_lt]; omega)]
  · have h1' := h1
    rw [i_lt] at h1'
    rw [if_neg h1]
    by_cases h2 : a < b
    · rw [if_pos h2]
    · have h2' := h2
      rw [i_lt] at h2'
      rw [if_neg h2, ← Int32.toInt_inj]; omega
theorem Tx_sy (v : tVl) {c s : Nat} (h : dif c (dif c s) = s) : Tx v c (dif c s) = Tx v c s := by
  unfold Tx
  rw [h, Int32.add_comm]
theorem Sc.O {u : tVl} {y : tMs} (h : Sc u y) (wa en to_ or_ : tAr) (my : Int32) : Sc u (mO y wa en to_ or_ my) := by
  obtain ⟨co, mi, mn, pa, ca, dr, fa, st, ha, pd_, pn, fr, at_, wa_, en_, to__, or__, my_, bf, bs, kp_, ik, ka, iw⟩ := y
  obtain ⟨a, b, c⟩ := h
  exact ⟨a, b, c⟩
theorem mO_co (x : tMs) (wa en to_ or_ : tAr) (my : Int32) : m_co (mO x wa en to_ or_ my) = m_co x := rfl
/-- one set alone -/
theorem solo {u : tVl} {y : tMs} (w : tWl) {k : Nat} (hk : k < 256) (h : Sc u y) : oX2_run u w (nI k) ∧ w_wo (fX2_run u w (nI k)) = Wd u k ∧ w_su (fX2_run u w (nI k)) = Sd u k ∧ oX4_go y (nI k) 99 ∧ Sc u (fX4_go y (nI k) 99) ∧ SB y (fX4_go y (nI k) 99) ∧ m_co (fX4_go y (nI k) 99) = m_co y ∧ (∀ p, p < 8 → k.testBit p = true → m_wa (fX4_go y (nI k) 99) p = wt u k p) ∧ (∀ p, p < 8 → ¬ k.testBit p = true → m_wa (fX4_go y (nI k) 99) p = m_wa y p) ∧ wsU (m_wa (fX4_go y (nI k) 99)) k 8 = Wd u k := by
  obtain ⟨r1, r2, r3, r4, r5, r6, r7, r8, r9, r10, -, ⟨wa, en, to_, or_, r12⟩, -⟩ := runs w hk h
  have hw : ∀ p, p < 8 → k.testBit p = true → m_wa (fX4_go y (nI k) 99) p = wt u k p := fun p hp hb => (r7 p hp hb).2.2.2.1
  have e1 : wsU (m_wa (fX4_go y (nI k) 99)) k 8 = Wd u k := wsU_cg hw
  have e2 : smU (m_wa (fX4_go y (nI k) 99)) k 8 = Sd u k := smU_congr hw
  refine ⟨r1, r9.trans e1, r10.trans e2, r2, ?_, ?_, ?_, hw, r8, e1⟩
  · rw [r12]; exact h.O _ _ _ _ _
  · rw [r12]; exact SB.O _ _ _ _ _ _
  · rw [r12, mO_co]
/-- a set and its rest, one after the other -/
theorem pair {u : tVl} {y : tMs} {c s : Nat} (hc : c < 256) (hs : s < 256) (hd : dif s c = 0) (h : Sc u y) (hco : m_co y = nI c) : ∃ z : tMs, fX4_go (fX4_go y (nI s) 99) (nI (dif c s)) 99 = z ∧ oX4_go y (nI s) 99 ∧ m_co (fX4_go y (nI s) 99) = nI c ∧ oX4_go (fX4_go y (nI s) 99) (nI (dif c s)) 99 ∧ SB y z ∧ Sc u z ∧ m_co z = nI c ∧ oX4_worstOf z (nI c) ∧ oX4_sumOf z (nI c) ∧ fX4_worstOf z (nI c) = Mx u c s ∧ fX4_sumOf z (nI c) = Tx u c s := by
  have w : tWl := (fun _ => 0, fun _ => 0, fun _ => 0, fun _ => 0, 0, 0, 0, 0, 0, 0)
  have ho := dif_lt c hc s hs
  obtain ⟨-, -, -, a1, a2, a3, a4, a5, -, -⟩ := solo w hs h
  generalize fX4_go y (nI s) 99 = y1 at *
  obtain ⟨-, -, -, b1, b2, b3, b4, b5, b6, -⟩ := solo w ho a2
  generalize fX4_go y1 (nI (dif c s)) 99 = z at *
  obtain ⟨c1, c2⟩ := worst_eq z hc
  obtain ⟨d1, d2⟩ := sum_eq z hc
  have hg : ∀ p, p < 8 → s.testBit p = true → m_wa z p = wt u s p := fun p hp hb => by
    rw [b6 p hp (by rw [dif_t hp, hb]; simp), a5 p hp hb]
  refine ⟨z, rfl, a1, a4.trans hco, b1, a3.tr b3, b2, (b4.trans a4).trans hco, c2, d2, ?_, ?_⟩
  · rw [c1]; exact wsU_un hd hg b5
  · rw [d1]; exact smU_un hd (Nat.le_refl 8) hg b5

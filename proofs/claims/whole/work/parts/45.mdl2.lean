/-! enough water: all pails -/
def dtM (x : tMs) (p : Nat) : Int32 := m_dr x * m_pa x p
theorem trW_99 {at_ : Nat → Int32} {cl : Int32 → Nat → Int32} {pa : Nat → Int32} {dr : Int32} : ∀ (n k : Nat) (t W : Int32), k < 256 → (9 * n : Int) ≤ W.toInt → W.toInt ≤ 99 → (∀ p, p < 8 → k.testBit p = true → 0 ≤ (pa p).toInt ∧ (pa p).toInt ≤ 9) →
    trW at_ cl pa dr n k t W = (trc at_ cl (fun p => dr * pa p) n k t).map (fun q => (q.1, q.2, pa q.1))
  | 0, k, t, W, _, _, _, _ => rfl
  | n + 1, k, t, W, hk, h1, h2, hp => by
    by_cases h0 : k = 0
    · subst h0; rw [trW_0, trc_0]; rfl
    · obtain ⟨p, hx⟩ := nxt_ne (at_ := at_) (cl := cl) (t := t) hk h0
      obtain ⟨a, b, -, -⟩ := nxt_some hx
      obtain ⟨r1, r2⟩ := hp p a b
      have ht : tkW W (pa p) = pa p := by
        unfold tkW
        split
        · rename_i h
          rw [i_le] at h
          rw [← Int32.toInt_inj]
          omega
        · rfl
      have hs : (W - pa p).toInt = W.toInt - (pa p).toInt := ib_sub (by omega) (by omega)
      rw [trW_s n h0 hx, trc_s n h0 hx, ht, List.map_cons]
      rw [trW_99 n (clr k p) _ _ (clr_lt k hk p a) (by omega) (by omega) (fun q hq hb => hp q hq ((clr_t hk a hq).mp hb).1)]
/-- the state behind a run: waits, ends, pails taken, order, how many -/
def mO (x : tMs) (wa en to_ or_ : tAr) (my : Int32) : tMs := (m_co x, m_mi x, m_mn x, m_pa x, m_ca x, m_dr x, m_fa x, m_st x, m_ha x, m_pd x, m_pn x, m_fr x, m_at x, wa, en, to_, or_, my, m_bf x, m_bs x, m_kp x, m_ik x, m_ka x, m_iw x)
/-- the state with other miles, minutes, laws to run by -/
def mA (x : tMs) (fr at_ : tAr) (bf bs : Int32) : tMs := (m_co x, m_mi x, m_mn x, m_pa x, m_ca x, m_dr x, m_fa x, m_st x, m_ha x, m_pd x, m_pn x, fr, at_, m_wa x, m_en x, m_to x, m_or x, m_my x, bf, bs, m_kp x, m_ik x, m_ka x, m_iw x)
/-- what turns L leave in rows -/
def mHas (L : List (Nat × Int32 × Int32)) (at_ : tAr) (dr : Int32) (wa0 en0 to0 wa en to_ or_ : tAr) (j : Nat) : Prop :=
  (∀ i q, L[i]? = some q → or_ (j + i) = nI q.1) ∧ (∀ q ∈ L, wa q.1 = q.2.1 - at_ q.1 ∧ en q.1 = q.2.1 + dr * q.2.2 ∧ to_ q.1 = q.2.2) ∧ (∀ p, p ∉ L.map Prod.fst → wa p = wa0 p ∧ en p = en0 p ∧ to_ p = to0 p)
theorem mF : ∀ (L : List (Nat × Int32 × Int32)) (x : tMs) (j : Nat), m_my x = nI j → j + L.length ≤ 8 → (L.map Prod.fst).Nodup →
    ∃ wa en to_ or_ : tAr, L.foldl mSt x = mO x wa en to_ or_ (nI (j + L.length)) ∧ mHas L (m_at x) (m_dr x) (m_wa x) (m_en x) (m_to x) wa en to_ or_ j ∧ ∀ i, i < j → or_ i = m_or x i
  | [], x, j, hj, _, _ => ⟨m_wa x, m_en x, m_to x, m_or x, by rw [List.length_nil, Nat.add_zero, ← hj]; rfl, ⟨fun i q h => by simp at h, fun q h => by simp at h, fun p _ => ⟨rfl, rfl, rfl⟩⟩, fun _ _ => rfl⟩
  | (p, b, tk) :: L, x, j, hj, hl, hn => by
    rw [List.length_cons] at hl
    rw [List.map_cons, List.nodup_cons] at hn
    obtain ⟨wa, en, to_, or_, h1, ⟨h2, h3, h4⟩, h5⟩ := mF L (mSt x (p, b, tk)) (j + 1) (by show m_my x + 1 = _; rw [hj, nI_1]) (by omega) hn.2
    refine ⟨wa, en, to_, or_, ?_, ⟨?_, ?_, ?_⟩, ?_⟩
    · rw [List.foldl_cons, h1, List.length_cons, show j + 1 + L.length = j + (L.length + 1) by omega]
      rfl
    · intro i q hq
      cases i with
      | zero =>
        rw [List.getElem?_cons_zero] at hq
        cases hq
        rw [h5 (j + 0) (by omega)]
        show upd (m_or x) (Int32.toNatClampNeg (m_my x)) (nI p) (j + 0) = _
        rw [hj, cl_n (by omega)]
        exact pk_us
      | succ i =>
        rw [List.getElem?_cons_succ] at hq
        rw [show j + (i + 1) = j + 1 + i by omega]
        exact h2 i q hq
    · intro q hq
      rcases List.mem_cons.mp hq with rfl | hq
      · obtain ⟨a1, a2, a3⟩ := h4 p hn.1
        dsimp only
        rw [a1, a2, a3]
        exact ⟨pk_us, pk_us, pk_us⟩
      · exact h3 q hq
    · intro r hr
      rw [List.map_cons, List.mem_cons, not_or] at hr
      obtain ⟨a1, a2, a3⟩ := h4 r hr.2
      rw [a1, a2, a3]
      exact ⟨pk_un hr.1, pk_un hr.1, pk_un hr.1⟩
    · intro i hi
      rw [h5 i (by omega)]
      show upd (m_or x) (Int32.toNatClampNeg (m_my x)) (nI p) i = _
      rw [hj, cl_n (by omega)]
      exact pk_un (by omega)
theorem bgn_mem : ∀ {L : List (Nat × Int32)} {q : Nat × Int32}, (L.map Prod.fst).Nodup → q ∈ L → bgn L q.1 = q.2
  | [], q, _, h => by cases h
  | (r, b) :: L, q, hn, h => by
    rw [List.map_cons, List.nodup_cons] at hn
    rcases List.mem_cons.mp h with rfl | h
    · exact bgn_at
    · rw [bgn, if_neg (fun e : r = q.1 => hn.1 (by show r ∈ _; rw [e]; exact List.mem_map_of_mem h))]
      exact bgn_mem hn.2 h
def trM (x : tMs) (k : Nat) : List (Nat × Int32) := trc (atM x) (clM x) (dtM x) 8 k 0
/-- what a run with enough water leaves -/
def mRun (x : tMs) (k : Nat) (L : List (Nat × Int32)) (y : tMs) : Prop :=
  ∃ wa en to_ or_ : tAr, y = mO x wa en to_ or_ (nI L.length) ∧ (∀ i p, (L.map Prod.fst)[i]? = some p → or_ i = nI p) ∧ (∀ p, p < 8 → k.testBit p = true → wa p = bgn L p - atM x p ∧ en p = bgn L p + dtM x p) ∧ (∀ p, p < 8 → ¬ k.testBit p = true → wa p = m_wa x p ∧ en p = m_en x p)
theorem go_ok (x : tMs) (k : Nat) (W : Int32) (hk : k < 256) (hf : ∀ p, p < 8 → k.testBit p = true → (m_at x p).toInt < 1000000000) :
    fX4_go x (nI k) W = (trW (atM x) (clM x) (m_pa x) (m_dr x) 8 k 0 W).foldl mSt (mO x (m_wa x) (m_en x) (m_to x) (m_or x) 0) ∧ oX4_go x (nI k) W := by
  have h := go_13 8 17 k 0 (mO x (m_wa x) (m_en x) (m_to x) (m_or x) 0) 0 W (by omega) (pop_le k hk) hk (by rw [nI_0]; rfl) (by omega) hf
  exact h
theorem go_eq (x : tMs) (k : Nat) (hk : k < 256) (hf : ∀ p, p < 8 → k.testBit p = true → (m_at x p).toInt < 1000000000) (hp : ∀ p, p < 8 → k.testBit p = true → 0 ≤ (m_pa x p).toInt ∧ (m_pa x p).toInt ≤ 9) :
    mRun x k (trM x k) (fX4_go x (nI k) 99) ∧ oX4_go x (nI k) 99 := by
  obtain ⟨e, o⟩ := go_ok x k 99 hk hf
  refine ⟨?_, o⟩
  rw [e, trW_99 8 k 0 99 hk (by decide) (by decide) hp]
  have hd : trc (atM x) (clM x) (fun p => m_dr x * m_pa x p) 8 k 0 = trM x k := rfl
  rw [hd]
  have hnd : ((trM x k).map Prod.fst).Nodup := trc_nd 8 k 0 hk
  have hln : (trM x k).length = min 8 (pop k) := trc_len 8 k 0 hk
  have hmm : ((trM x k).map (fun q => (q.1, q.2, m_pa x q.1))).map Prod.fst = (trM x k).map Prod.fst := by
    rw [List.map_map]; rfl
  obtain ⟨wa, en, to_, or_, h1, ⟨h2, h3, h4⟩, -⟩ := mF ((trM x k).map (fun q => (q.1, q.2, m_pa x q.1))) (mO x (m_wa x) (m_en x) (m_to x) (m_or x) 0) 0 (by rw [nI_0]; rfl) (by rw [List.length_map]; omega) (by rw [hmm]; exact hnd)
  refine ⟨wa, en, to_, or_, ?_, ?_, ?_, ?_⟩
  · rw [h1, List.length_map, Nat.zero_add]; rfl
  · intro i p hi
    rw [List.getElem?_map] at hi
    cases hq : (trM x k)[i]? with
    | none => rw [hq] at hi; cases hi
    | some q =>
      rw [hq] at hi
      cases hi
      have := h2 i (q.1, q.2, m_pa x q.1) (by rw [List.getElem?_map, hq]; rfl)
      rw [Nat.zero_add] at this
      exact this
  · intro p hp8 hb
    obtain ⟨q, hq, rfl⟩ := List.mem_map.mp (trc_all (at_ := atM x) (cl := clM x) (dt := dtM x) 8 k 0 hk (pop_le k hk) p hp8 hb)
    obtain ⟨a1, a2, -⟩ := h3 (q.1, q.2, m_pa x q.1) (List.mem_map.mpr ⟨q, hq, rfl⟩)
    rw [bgn_mem hnd hq]
    exact ⟨a1, a2⟩
  · intro p hp8 hb
    obtain ⟨a1, a2, -⟩ := h4 p (by
      rw [hmm]
      intro hm
      obtain ⟨q, hq, rfl⟩ := List.mem_map.mp hm
      exact hb (trc_in (at_ := atM x) (cl := clM x) (dt := dtM x) 8 k 0 hk q hq).2)
    exact ⟨a1, a2⟩
/-! rows laid -/
theorem lay_2 : ∀ (n i : Nat) (x : tMs), i ≤ 8 → 8 < i + n → (∃ fr at_ : tAr, fX4_layNow_2 n x (nI i) = mA x fr at_ (m_fa x) (m_st x) ∧ (∀ p, p < i → fr p = m_fr x p ∧ at_ p = m_at x p) ∧ ∀ p, i ≤ p → p < 8 → fr p = m_mi x p ∧ at_ p = m_mn x p) ∧ oX4_layNow_2 n x (nI i)
  | 0, i, x, h1, h2 => by omega
  | n + 1, i, x, h1, h2 => by
    by_cases h8 : i = 8
    · subst h8
      have g : (8 : Int32) ≤ nI 8 := by decide
      simp only [fX4_layNow_2, oX4_layNow_2, lt_, if_pos g]
      exact ⟨⟨m_fr x, m_at x, rfl, fun _ _ => ⟨rfl, rfl⟩, fun p a b => by omega⟩, trivial⟩
    · have hi : i < 8 := by omega
      have g : ¬ (8 : Int32) ≤ nI i := fun h => h8 ((ge8 h1).mp h)
      obtain ⟨⟨fr, at_, a1, a2, a3⟩, a4⟩ := lay_2 n (i + 1) (mA x (upd (m_fr x) i (m_mi x i)) (upd (m_at x) i (m_mn x i)) (m_bf x) (m_bs x)) (by omega) (by omega)
      simp only [fX4_layNow_2, oX4_layNow_2, lt_, lo_, if_neg g, c8 hi, nI_1]
      refine ⟨⟨fr, at_, a1, fun p hp => ?_, fun p hp hp8 => ?_⟩, vin8 hi, a4⟩
      · obtain ⟨b1, b2⟩ := a2 p (by omega)
        rw [b1, b2]
        exact ⟨pk_un (by omega), pk_un (by omega)⟩
      · by_cases hpi : p = i
        · subst hpi
          obtain ⟨b1, b2⟩ := a2 p (by omega)
          rw [b1, b2]
          exact ⟨pk_us, pk_us⟩
        · exact a3 p (by omega) hp8
theorem lay_eq (x : tMs) : (∃ fr at_ : tAr, fX4_layNow x = mA x fr at_ (m_fa x) (m_st x) ∧ ∀ p, p < 8 → fr p = m_mi x p ∧ at_ p = m_mn x p) ∧ oX4_layNow x := by
  obtain ⟨⟨fr, at_, a1, a2, a3⟩, a4⟩ := lay_2 9 0 x (by omega) (by omega)
  rw [nI_0] at a1 a4
  exact ⟨⟨fr, at_, a1, fun p hp => a3 p (by omega) hp⟩, a4⟩
/-! the worst wait, the sum -/
def wsU (wa : Nat → Int32) (k : Nat) : Nat → Int32
  | 0 => 0
  | n + 1 => if k.testBit n = true then (if wa n ≤ wsU wa k n then wsU wa k n else wa n) else wsU wa k n
def smU (wa : Nat → Int32) (k : Nat) : Nat → Int32
  | 0 => 0
  | n + 1 => if k.testBit n = true then smU wa k n + wa n else smU wa k n
theorem wsU_1 (wa : Nat → Int32) (k n : Nat) : wsU wa k (n + 1) = if k.testBit n = true then (if wa n ≤ wsU wa k n then wsU wa k n else wa n) else wsU wa k n := rfl
theorem smU_1 (wa : Nat → Int32) (k n : Nat) : smU wa k (n + 1) = if k.testBit n = true then smU wa k n + wa n else smU wa k n := rfl
theorem worst_4 (x : tMs) {k : Nat} (hk : k < 256) : ∀ (n i : Nat), i ≤ 8 → 8 < i + n → fX4_worstOf_4 x (nI k) n (wsU (m_wa x) k i) (nI i) = wsU (m_wa x) k 8 ∧ oX4_worstOf_4 x (nI k) n (wsU (m_wa x) k i) (nI i)
  | 0, i, h1, h2 => by omega
  | n + 1, i, h1, h2 => by
    by_cases h8 : i = 8
    · subst h8
      have g : (8 : Int32) ≤ nI 8 := by decide
      simp only [fX4_worstOf_4, oX4_worstOf_4, if_pos g]
      exact ⟨by first | rfl | trivial, trivial⟩
    · have hi : i < 8 := by omega
      have g : ¬ (8 : Int32) ≤ nI i := fun h => h8 ((ge8 h1).mp h)
      have ih := worst_4 x hk n (i + 1) (by omega) (by omega)
      rw [wsU_1] at ih
      by_cases hb : k.testBit i = true
      · rw [if_pos hb] at ih
        simp only [fX4_worstOf_4, oX4_worstOf_4, lt_, lo_, if_neg g, bt_test k hk i hi, if_pos hb, if_true, c8 hi, nI_1]
        by_cases hl : m_wa x i ≤ wsU (m_wa x) k i
        · rw [if_pos hl] at ih
          simp only [if_pos hl]
          exact ⟨ih.1, vin8 hi, ih.2⟩
        · rw [if_neg hl] at ih
          simp only [if_neg hl]
          exact ⟨ih.1, vin8 hi, ih.2⟩
      · rw [if_neg hb] at ih
        simp only [fX4_worstOf_4, oX4_worstOf_4, lt_, lo_, if_neg g, bt_test k hk i hi, if_neg hb, if_neg i01, c8 hi, nI_1]
        exact ih
theorem worst_eq (x : tMs) {k : Nat} (hk : k < 256) : fX4_worstOf x (nI k) = wsU (m_wa x) k 8 ∧ oX4_worstOf x (nI k) := worst_4 x hk 9 0 (by omega) (by omega)
theorem sum_4 (x : tMs) {k : Nat} (hk : k < 256) : ∀ (n i : Nat), i ≤ 8 → 8 < i + n → fX4_sumOf_4 x (nI k) n (smU (m_wa x) k i) (nI i) = smU (m_wa x) k 8 ∧ oX4_sumOf_4 x (nI k) n (smU (m_wa x) k i) (nI i)
  | 0, i, h1, h2 => by omega
  | n + 1, i, h1, h2 => by
    by_cases h8 : i = 8
    · subst h8
      have g : (8 : Int32) ≤ nI 8 := by decide
      simp only [fX4_sumOf_4, oX4_sumOf_4, if_pos g]
      exact ⟨by first | rfl | trivial, trivial⟩
    · have hi : i < 8 := by omega
      have g : ¬ (8 : Int32) ≤ nI i := fun h => h8 ((ge8 h1).mp h)
      have ih := sum_4 x hk n (i + 1) (by omega) (by omega)
      rw [smU_1] at ih
      by_cases hb : k.testBit i = true
      · rw [if_pos hb] at ih
        simp only [fX4_sumOf_4, oX4_sumOf_4, lt_, lo_, if_neg g, bt_test k hk i hi, if_pos hb, if_true, c8 hi, nI_1]
        exact ⟨ih.1, vin8 hi, ih.2⟩
      · rw [if_neg hb] at ih
        simp only [fX4_sumOf_4, oX4_sumOf_4, lt_, lo_, if_neg g, bt_test k hk i hi, if_neg hb, if_neg i01, c8 hi, nI_1, Int32.add_zero]
        exact ih
theorem sum_eq (x : tMs) {k : Nat} (hk : k < 256) : fX4_sumOf x (nI k) = smU (m_wa x) k 8 ∧ oX4_sumOf x (nI k) := sum_4 x hk 9 0 (by omega) (by omega)
theorem wsU_ge (wa : Nat → Int32) (k : Nat) : ∀ (n p : Nat), p < n → k.testBit p = true → (wa p).toInt ≤ (wsU wa k n).toInt
  | 0, p, h, _ => absurd h (Nat.not_lt_zero p)
  | n + 1, p, h, hb => by
    rw [wsU_1]
    by_cases hpn : p = n
    · subst hpn
      rw [if_pos hb]
      split
      · rename_i h; rw [i_le] at h; exact h
      · exact Int.le_refl _
    · have ih := wsU_ge wa k n p (by omega) hb
      split
      · split
        · exact ih
        · rename_i h; rw [i_le] at h; omega
      · exact ih
theorem wsU_at (wa : Nat → Int32) (k : Nat) : ∀ (n : Nat), 0 ≤ (wsU wa k n).toInt ∧ (wsU wa k n = 0 ∨ ∃ p, p < n ∧ k.testBit p = true ∧ wsU wa k n = wa p)
  | 0 => ⟨(show 0 ≤ (0 : Int32).toInt by decide), Or.inl rfl⟩
  | n + 1 => by
    rw [wsU_1]
    obtain ⟨h0, h1⟩ := wsU_at wa k n
    have up : wsU wa k n = 0 ∨ ∃ p, p < n + 1 ∧ k.testBit p = true ∧ wsU wa k n = wa p := by
      rcases h1 with h | ⟨p, a, b, c⟩
      · exact Or.inl h
      · exact Or.inr ⟨p, by omega, b, c⟩
    split
    · rename_i hb
      split
      · exact ⟨h0, up⟩
      · rename_i h; rw [i_le] at h
        exact ⟨by omega, Or.inr ⟨n, by omega, hb, rfl⟩⟩
    · exact ⟨h0, up⟩
/-- the greatest of no less than 0 is one -/
theorem wsU_is {wa : Nat → Int32} {k : Nat} {M : Int32} (h0 : 0 ≤ M.toInt) (h1 : ∀ p, p < 8 → k.testBit p = true → (wa p).toInt ≤ M.toInt) (h2 : M = 0 ∨ ∃ p, p < 8 ∧ k.testBit p = true ∧ M = wa p) : wsU wa k 8 = M := by
  rw [← Int32.toInt_inj]
  obtain ⟨g0, g1⟩ := wsU_at wa k 8
  have z : (0 : Int32).toInt = 0 := by decide
  have a1 : (wsU wa k 8).toInt ≤ M.toInt := by
    rcases g1 with h | ⟨p, a, b, c⟩
    · rw [h, z]; exact h0
    · rw [c]; exact h1 p a b
  have a2 : M.toInt ≤ (wsU wa k 8).toInt := by
    rcases h2 with h | ⟨p, a, b, c⟩
    · rw [h, z]; exact g0
    · rw [c]; exact wsU_ge wa k 8 p a b
  omega
theorem smU_congr {f g : Nat → Int32} {k : Nat} : ∀ {n : Nat}, (∀ p, p < n → k.testBit p = true → f p = g p) → smU f k n = smU g k n
  | 0, _ => rfl
  | n + 1, h => by
    rw [smU_1, smU_1, smU_congr (n := n) (fun p hp hb => h p (by omega) hb)]
    by_cases hb : k.testBit n = true
    · rw [if_pos hb, if_pos hb, h n (by omega) hb]
    · rw [if_neg hb, if_neg hb]
theorem smU_clr (f : Nat → Int32) {k p : Nat} (hk : k < 256) (hp : p < 8) (hb : k.testBit p = true) : ∀ (n : Nat), n ≤ 8 → smU f k n = if p < n then f p + smU f (clr k p) n else smU f (clr k p) n
  | 0, _ => by rw [if_neg (by omega)]; rfl
  | n + 1, hn => by
    rw [smU_1, smU_1, smU_clr f hk hp hb n (by omega)]
    by_cases hpn : n = p
    · subst hpn
      have hc : ¬ (clr k n).testBit n = true := fun h => ((clr_t hk hp hp).mp h).2 rfl
      rw [if_pos hb, if_neg hc, if_neg (by omega), if_pos (by omega), Int32.add_comm]
    · have hc := clr_t hk hp (show n < 8 by omega)
      by_cases hbn : k.testBit n = true
      · rw [if_pos hbn, if_pos (hc.mpr ⟨hbn, hpn⟩)]
        by_cases hlt : p < n
        · rw [if_pos hlt, if_pos (by omega), Int32.add_assoc]
        · rw [if_neg hlt, if_neg (by omega)]
      · rw [if_neg hbn, if_neg (fun h => hbn (hc.mp h).1)]
        by_cases hlt : p < n
        · rw [if_pos hlt, if_pos (by omega)]
        · rw [if_neg hlt, if_neg (by omega)]
theorem smU_0 (f : Nat → Int32) : ∀ (n : Nat), smU f 0 n = 0
  | 0 => rfl
  | n + 1 => by rw [smU_1, if_neg (by simp), smU_0 f n]
theorem sum_fold (g : Nat × Int32 → Int32) : ∀ (L : List (Nat × Int32)) (a : Int32), L.foldl (fun m q => m + g q) a = a + L.foldl (fun m q => m + g q) 0
  | [], a => by simp
  | q :: L, a => by
    rw [List.foldl_cons, List.foldl_cons, sum_fold g L (a + g q), sum_fold g L (0 + g q), Int32.zero_add, Int32.add_assoc]
/-- the sum over a whole list of turns is the sum over the mask -/
theorem sum_trc {at_ : Nat → Int32} {cl : Int32 → Nat → Int32} {dt : Nat → Int32} (f : Nat → Int32) (g : Nat × Int32 → Int32) : ∀ (n k : Nat) (t : Int32), k < 256 → pop k ≤ n → (∀ q ∈ trc at_ cl dt n k t, g q = f q.1) → (trc at_ cl dt n k t).foldl (fun m q => m + g q) 0 = smU f k 8
  | 0, k, t, hk, hn, _ => by
    have hk0 : k = 0 := pop_0 k hk (by omega)
    subst hk0
    rw [smU_0]; rfl
  | n + 1, k, t, hk, hn, h => by
    by_cases h0 : k = 0
    · subst h0; rw [trc_0, smU_0]; rfl
    · obtain ⟨p, hx⟩ := nxt_ne (at_ := at_) (cl := cl) (t := t) hk h0
      obtain ⟨a, b, -, -⟩ := nxt_some hx
      rw [trc_s n h0 hx] at h ⊢
      have := pop_clr k hk p a b
      rw [List.foldl_cons, sum_fold, sum_trc f g n _ _ (clr_lt k hk p a) (by omega) (fun q hq => h q (List.mem_cons_of_mem _ hq)), h _ List.mem_cons_self, smU_clr f hk a b 8 (Nat.le_refl 8), if_pos a, Int32.zero_add]
/-- the worst over a list -/
theorem wst_fold (g : Nat × Int32 → Int32) : ∀ (L : List (Nat × Int32)) (a : Int32), a.toInt ≤ (L.foldl (fun m q => if m < g q then g q else m) a).toInt ∧ (∀ q ∈ L, (g q).toInt ≤ (L.foldl (fun m q => if m < g q then g q else m) a).toInt) ∧ (L.foldl (fun m q => if m < g q then g q else m) a = a ∨ ∃ q ∈ L, L.foldl (fun m q => if m < g q then g q else m) a = g q)
  | [], a => ⟨Int.le_refl _, (fun q h => by cases h), Or.inl rfl⟩
  | q :: L, a => by
    rw [List.foldl_cons]
    obtain ⟨h1, h2, h3⟩ := wst_fold g L (if a < g q then g q else a)
    have hm : a.toInt ≤ (if a < g q then g q else a).toInt ∧ (g q).toInt ≤ (if a < g q then g q else a).toInt := by
      split <;> rename_i h <;> rw [i_lt] at h <;> omega
    refine ⟨by omega, fun r hr => ?_, ?_⟩
    · rcases List.mem_cons.mp hr with rfl | hr
      · omega
      · exact h2 r hr
    · rcases h3 with h | ⟨r, hr, h⟩
      · rw [h]
        split
        · exact Or.inr ⟨q, List.mem_cons_self, rfl⟩
        · exact Or.inl rfl
      · exact Or.inr ⟨r, List.mem_cons_of_mem _ hr, h⟩
/-- the worst over a whole list of turns is the worst over the mask -/
theorem wst_trc {at_ : Nat → Int32} {cl : Int32 → Nat → Int32} {dt : Nat → Int32} (f : Nat → Int32) (g : Nat × Int32 → Int32) (n k : Nat) (t : Int32) (hk : k < 256) (hn : pop k ≤ n) (h : ∀ q ∈ trc at_ cl dt n k t, g q = f q.1) : (trc at_ cl dt n k t).foldl (fun m q => if m < g q then g q else m) 0 = wsU f k 8 := by
  obtain ⟨h1, h2, h3⟩ := wst_fold g (trc at_ cl dt n k t) 0
  refine (wsU_is (by rw [show (0 : Int32).toInt = 0 by decide] at h1; exact h1) (fun p hp hb => ?_) ?_).symm
  · obtain ⟨q, hq, rfl⟩ := List.mem_map.mp (trc_all (at_ := at_) (cl := cl) (dt := dt) n k t hk hn p hp hb)
    rw [← h q hq]
    exact h2 q hq
  · rcases h3 with h4 | ⟨q, hq, h4⟩
    · exact Or.inl h4
    · obtain ⟨a, b⟩ := trc_in n k t hk q hq
      exact Or.inr ⟨q.1, a, b, by rw [h4, h q hq]⟩

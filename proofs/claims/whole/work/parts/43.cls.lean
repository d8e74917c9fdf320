/-! the class's well is the list of turns -/
def atV (v : tVl) (p : Nat) : Int32 := v_mn v p
def clV (v : tVl) (t : Int32) (p : Nat) : Int32 := fX1_claimAt v t (nI p)
def dtV (v : tVl) (p : Nat) : Int32 := fX1_timeToDraw v (nI p)
def enc : Option Nat → Int32
  | none => -6
  | some p => nI p
theorem vin8 {p : Nat} (h : p < 8) : vp_in (nI p) 8 := vp_in_nI h (by decide)
theorem c8 {p : Nat} (h : p < 8) : Int32.toNatClampNeg (nI p) = p := cl_n (by omega)
theorem n6 {p : Nat} (h : p < 8) : ¬ nI p = -6 := (by decide : ∀ p, p < 8 → ¬ nI p = -6) p h
theorem n0 {p : Nat} (h : p < 8) : ¬ nI p < 0 := nI_pos (by omega)
theorem i10 : ¬ (1 : Int32) = 0 := by decide
theorem i01 : ¬ (0 : Int32) = 1 := by decide
theorem nxt_1 (at_ : Nat → Int32) (cl : Int32 → Nat → Int32) (k : Nat) (t : Int32) (n : Nat) : nxt at_ cl k t (n + 1) = if k.testBit n = true then (if t < at_ n then nxt at_ cl k t n else nx1 at_ cl t n (nxt at_ cl k t n)) else nxt at_ cl k t n := rfl
theorem fsI_1 (at_ : Nat → Int32) (k : Nat) (M : Int32) (n : Nat) : fsI at_ k M (n + 1) = if k.testBit n = true then (if at_ n < fsI at_ k M n then at_ n else fsI at_ k M n) else fsI at_ k M n := rfl
theorem claimAt_ok (v : tVl) (t : Int32) {p : Nat} (hp : p < 8) : oX1_claimAt v t (nI p) := by
  unfold oX1_claimAt
  split <;> exact ⟨vin8 hp, trivial⟩
theorem gb_ok (v : tVl) (t : Int32) {p q : Nat} (hp : p < 8) (hq : q < 8) : oX1_goesBefore v (nI p) (nI q) t := by
  unfold oX1_goesBefore
  refine ⟨claimAt_ok v t hp, ?_⟩
  simp only [lo_]
  refine ⟨claimAt_ok v t hq, ?_⟩
  split
  · exact ⟨vin8 hp, vin8 hq, trivial⟩
  · trivial
theorem gb_eq (v : tVl) (t : Int32) {p q : Nat} (hp : p < 8) (hq : q < 8) : fX1_goesBefore v (nI p) (nI q) t = if ahd (atV v) (clV v) t p q = true then 1 else 0 := by
  have e : fX1_goesBefore v (nI p) (nI q) t = (if clV v t p = clV v t q then (if (v_mn v) (Int32.toNatClampNeg (nI p)) = (v_mn v) (Int32.toNatClampNeg (nI q)) then (if nI q ≤ nI p then 0 else 1) else (if (v_mn v) (Int32.toNatClampNeg (nI q)) ≤ (v_mn v) (Int32.toNatClampNeg (nI p)) then 0 else 1)) else (if clV v t p ≤ clV v t q then 0 else 1)) := rfl
  rw [e, c8 hp, c8 hq]
  unfold ahd
  by_cases h1 : clV v t p = clV v t q
  · rw [if_pos h1, if_pos h1]
    by_cases h2 : atV v p = atV v q
    · rw [if_pos h2, if_pos (show v_mn v p = v_mn v q from h2)]
      rcases Nat.lt_or_ge p q with h3 | h3
      · rw [if_neg (by rw [nI_leI (by omega) (by omega)]; omega), if_pos (by simpa using h3)]
      · rw [if_pos (by rw [nI_leI (by omega) (by omega)]; exact h3), if_neg (by simpa using h3)]
    · rw [if_neg h2, if_neg (show ¬ v_mn v p = v_mn v q from h2)]
      by_cases h3 : atV v p < atV v q
      · rw [if_neg (show ¬ v_mn v q ≤ v_mn v p by rw [i_le]; rw [i_lt] at h3; exact Int.not_le.mpr h3), if_pos (by simpa using h3)]
      · rw [if_pos (show v_mn v q ≤ v_mn v p by rw [i_le]; rw [i_lt] at h3; exact Int.not_lt.mp h3), if_neg (by simpa using h3)]
  · rw [if_neg h1, if_neg h1]
    by_cases h3 : clV v t q < clV v t p
    · rw [if_neg (by rw [i_le]; rw [i_lt] at h3; omega), if_pos (by simpa using h3)]
    · rw [if_pos (by rw [i_le]; rw [i_lt] at h3; omega), if_neg (by simpa using h3)]
theorem nextAt_6 (v : tVl) (t : Int32) {k : Nat} (hk : k < 256) : ∀ (n i : Nat), i ≤ 8 → 8 < i + n → fX1_nextAt_6 v t (nI k) n (enc (nxt (atV v) (clV v) k t i)) (nI i) = enc (nxt (atV v) (clV v) k t 8) ∧ oX1_nextAt_6 v t (nI k) n (enc (nxt (atV v) (clV v) k t i)) (nI i)
  | 0, i, h1, h2 => by omega
  | n + 1, i, h1, h2 => by
    by_cases h8 : i = 8
    · subst h8
      have g : (8 : Int32) ≤ nI 8 := by decide
      simp only [fX1_nextAt_6, oX1_nextAt_6, if_pos g]
      exact ⟨by first | rfl | trivial, trivial⟩
    · have hi : i < 8 := by omega
      have g : ¬ (8 : Int32) ≤ nI i := fun h => h8 ((ge8 h1).mp h)
      have ih := nextAt_6 v t hk n (i + 1) (by omega) (by omega)
      have e := nxt_1 (atV v) (clV v) k t i
      by_cases hb : k.testBit i = true
      · simp only [fX1_nextAt_6, oX1_nextAt_6, lt_, lo_, if_neg g, bt_test k hk i hi, if_pos hb, if_neg i10, c8 hi, nI_1]
        rw [if_pos hb] at e
        by_cases ht : t < atV v i
        · rw [if_pos ht] at e
          have ht' : t < v_mn v i := ht
          simp only [if_pos ht']
          rw [e] at ih
          exact ⟨ih.1, vin8 hi, ih.2⟩
        · rw [if_neg ht] at e
          have ht' : ¬ t < v_mn v i := ht
          simp only [if_neg ht']
          cases hq : nxt (atV v) (clV v) k t i with
          | none =>
            rw [hq, nx1] at e
            rw [e] at ih
            simp only [enc, if_true]
            exact ⟨ih.1, vin8 hi, ih.2⟩
          | some q =>
            obtain ⟨q1, -, -, -⟩ := nxt_some hq
            rw [hq, nx1] at e
            have hq6 := n6 (show q < 8 by omega)
            simp only [enc, if_neg hq6, gb_eq v t hi (show q < 8 by omega)]
            by_cases ha : ahd (atV v) (clV v) t i q = true
            · rw [if_pos ha] at e
              rw [e] at ih
              simp only [if_pos ha, if_neg i10]
              exact ⟨ih.1, vin8 hi, gb_ok v t hi (by omega), ih.2⟩
            · rw [if_neg ha] at e
              rw [e] at ih
              simp only [if_neg ha, if_true]
              exact ⟨ih.1, vin8 hi, gb_ok v t hi (by omega), ih.2⟩
      · rw [if_neg hb] at e
        rw [e] at ih
        simp only [fX1_nextAt_6, oX1_nextAt_6, lt_, lo_, if_neg g, bt_test k hk i hi, if_neg hb, if_true, c8 hi, nI_1]
        exact ih
theorem nextAt_eq (v : tVl) (t : Int32) {k : Nat} (hk : k < 256) : fX1_nextAt v t (nI k) = enc (nxt (atV v) (clV v) k t 8) ∧ oX1_nextAt v t (nI k) := nextAt_6 v t hk 9 0 (by omega) (by omega)
/-! the first to come; the class begins it with -6, which is nobody's minute -/
def ok6 (v : tVl) : Prop := ∀ p, p < 8 → ¬ v_mn v p = -6
def fsN (at_ : Nat → Int32) (k : Nat) : Nat → Int32
  | 0 => -6
  | n + 1 => if k.testBit n = true then (if fsN at_ k n = -6 then at_ n else (if fsN at_ k n ≤ at_ n then fsN at_ k n else at_ n)) else fsN at_ k n
theorem fsN_1 (at_ : Nat → Int32) (k : Nat) (n : Nat) : fsN at_ k (n + 1) = if k.testBit n = true then (if fsN at_ k n = -6 then at_ n else (if fsN at_ k n ≤ at_ n then fsN at_ k n else at_ n)) else fsN at_ k n := rfl
theorem first_5 (v : tVl) {k : Nat} (hk : k < 256) : ∀ (n i : Nat), i ≤ 8 → 8 < i + n → fX1_firstComing_5 v (nI k) n (fsN (atV v) k i) (nI i) = fsN (atV v) k 8 ∧ oX1_firstComing_5 v (nI k) n (fsN (atV v) k i) (nI i)
  | 0, i, h1, h2 => by omega
  | n + 1, i, h1, h2 => by
    by_cases h8 : i = 8
    · subst h8
      have g : (8 : Int32) ≤ nI 8 := by decide
      simp only [fX1_firstComing_5, oX1_firstComing_5, if_pos g]
      exact ⟨by first | rfl | trivial, trivial⟩
    · have hi : i < 8 := by omega
      have g : ¬ (8 : Int32) ≤ nI i := fun h => h8 ((ge8 h1).mp h)
      have ih := first_5 v hk n (i + 1) (by omega) (by omega)
      have e := fsN_1 (atV v) k i
      rw [e] at ih
      by_cases hb : k.testBit i = true
      · rw [if_pos hb] at ih
        simp only [fX1_firstComing_5, oX1_firstComing_5, lt_, lo_, if_neg g, bt_test k hk i hi, if_pos hb, if_neg i10, c8 hi, nI_1]
        by_cases c1 : fsN (atV v) k i = -6
        · rw [if_pos c1] at ih
          simp only [if_pos c1]
          exact ⟨ih.1, vin8 hi, ih.2⟩
        · rw [if_neg c1] at ih
          simp only [if_neg c1]
          by_cases c2 : fsN (atV v) k i ≤ atV v i
          · rw [if_pos c2] at ih
            have c2' : fsN (atV v) k i ≤ v_mn v i := c2
            simp only [if_pos c2']
            exact ⟨ih.1, vin8 hi, ih.2⟩
          · rw [if_neg c2] at ih
            have c2' : ¬ fsN (atV v) k i ≤ v_mn v i := c2
            simp only [if_neg c2']
            exact ⟨ih.1, vin8 hi, ih.2⟩
      · rw [if_neg hb] at ih
        simp only [fX1_firstComing_5, oX1_firstComing_5, lt_, lo_, if_neg g, bt_test k hk i hi, if_neg hb, if_true, c8 hi, nI_1]
        exact ih
theorem fsN_I {v : tVl} (h6 : ok6 v) (k : Nat) : ∀ n, n ≤ 8 → (fsN (atV v) k n = -6 ∧ fsI (atV v) k 2147483647 n = 2147483647 ∧ ∀ p, p < n → ¬ k.testBit p = true) ∨ (¬ fsN (atV v) k n = -6 ∧ fsN (atV v) k n = fsI (atV v) k 2147483647 n)
  | 0, _ => Or.inl ⟨rfl, rfl, fun p hp => absurd hp (Nat.not_lt_zero p)⟩
  | n + 1, hn => by
    have ih := fsN_I h6 k n (by omega)
    have h := h6 n (by omega)
    rw [fsN_1, fsI_1]
    by_cases hb : k.testBit n = true
    · rw [if_pos hb, if_pos hb]
      refine Or.inr ?_
      rcases ih with ⟨a, b, -⟩ | ⟨a, b⟩
      · rw [if_pos a, b]
        refine ⟨h, ?_⟩
        by_cases c : atV v n < 2147483647
        · rw [if_pos c]
        · rw [if_neg c, ← Int32.toInt_inj]
          rw [i_lt] at c
          have := i_max (atV v n)
          omega
      · rw [if_neg a, ← b]
        by_cases c : fsN (atV v) k n ≤ atV v n
        · rw [if_pos c, if_neg (by rw [i_lt]; rw [i_le] at c; omega)]
          exact ⟨a, rfl⟩
        · rw [if_neg c, if_pos (by rw [i_lt]; rw [i_le] at c; omega)]
          exact ⟨h, rfl⟩
    · rw [if_neg hb, if_neg hb]
      rcases ih with ⟨a, b, d⟩ | ih
      · refine Or.inl ⟨a, b, fun p hp => ?_⟩
        by_cases e : p = n
        · subst e; exact hb
        · exact d p (by omega)
      · exact Or.inr ih
theorem first_eq (v : tVl) {k : Nat} (hk : k < 256) (h0 : k ≠ 0) (h6 : ok6 v) : fX1_firstComing v (nI k) = fsI (atV v) k 2147483647 8 ∧ oX1_firstComing v (nI k) := by
  obtain ⟨a, b⟩ := first_5 v hk 9 0 (by omega) (by omega)
  refine ⟨?_, b⟩
  rcases fsN_I h6 k 8 (by omega) with ⟨-, -, d⟩ | ⟨-, d⟩
  · obtain ⟨p, hp, hb⟩ := mask_ex hk h0
    exact absurd hb (d p hp)
  · rw [← d]
    exact a
/-- a turn -/
def wSt (v : tVl) (w : tWl) (q : Nat × Int32) : tWl := (upd (w_or w) (Int32.toNatClampNeg (w_tu w)) (nI q.1), upd (w_be w) q.1 q.2, upd (w_en w) q.1 (q.2 + dtV v q.1), upd (w_wa w) q.1 (q.2 - atV v q.1), w_tu w + 1, (if w_wo w < q.2 - atV v q.1 then q.2 - atV v q.1 else w_wo w), w_su w + (q.2 - atV v q.1), q.2 + dtV v q.1, w_co w, w_re w &&& ((1 <<< (nI q.1 &&& 31)) ^^^ (-1)))
theorem sv_eq (v : tVl) (h6 : ok6 v) (w : tWl) {k j p : Nat} (hk : k < 256) (h0 : k ≠ 0) (hj : j < 8) (hre : w_re w = nI k) (htu : w_tu w = nI j) (hp : nxt (atV v) (clV v) k (bgt (atV v) k (w_ti w)) 8 = some p) : fX2_serveNext v w = (nI p, wSt v w (p, bgt (atV v) k (w_ti w))) ∧ oX2_serveNext v w := by
  obtain ⟨p1, p2, -, -⟩ := nxt_some hp
  have g0 : ¬ nI k = 0 := nI_ne0 (by omega) (by omega)
  have g1 : nI j < 8 := by rw [show (8 : Int32) = nI 8 from rfl, nI_ltI (by omega) (by decide)]; exact hj
  have hbg : (if w_ti w < fsI (atV v) k 2147483647 8 then fsI (atV v) k 2147483647 8 else w_ti w) = bgt (atV v) k (w_ti w) := rfl
  have hnx : fX1_nextAt v (bgt (atV v) k (w_ti w)) (nI k) = nI p := by rw [(nextAt_eq v _ hk).1, hp]; rfl
  have e : fX2_serveNext v w = (nI p, wSt v w (p, bgt (atV v) k (w_ti w))) := by
    unfold fX2_serveNext
    simp only [lt_, hre, htu, if_neg g0, if_pos g1, (first_eq v hk h0 h6).1, hbg, hnx, if_neg (n6 p1), c8 p1, pk_us]
    unfold wSt
    rw [htu, hre]
    rfl
  refine ⟨e, ?_⟩
  unfold oX2_serveNext
  simp only [lo_, hre, htu, if_neg g0, if_pos g1, (first_eq v hk h0 h6).1, hbg, hnx, if_neg (n6 p1), c8 p1, pk_us]
  exact ⟨(first_eq v hk h0 h6).2, (nextAt_eq v _ hk).2, vin8 p1, ⟨vin8 p1, trivial⟩, vin8 hj, trivial⟩
theorem sv_0 (v : tVl) (w : tWl) (h : w_re w = 0) : fX2_serveNext v w = (-6, w) ∧ oX2_serveNext v w := by
  unfold fX2_serveNext oX2_serveNext
  simp only [if_pos h]
  exact ⟨trivial, trivial⟩
theorem run_7 (v : tVl) (h6 : ok6 v) : ∀ (n j k : Nat) (w : tWl), j ≤ 8 → 8 < j + n → k < 256 → w_re w = nI k → w_tu w = nI j → fX2_run_7 v n w (nI j) = (trc (atV v) (clV v) (dtV v) (8 - j) k (w_ti w)).foldl (wSt v) w ∧ oX2_run_7 v n w (nI j)
  | 0, j, k, w, h1, h2, _, _, _ => by omega
  | n + 1, j, k, w, h1, h2, hk, hre, htu => by
    by_cases h8 : j = 8
    · subst h8
      have g : (8 : Int32) ≤ nI 8 := by decide
      simp only [fX2_run_7, oX2_run_7, if_pos g]
      exact ⟨by first | rfl | trivial, trivial⟩
    · have hj : j < 8 := by omega
      have g : ¬ (8 : Int32) ≤ nI j := fun h => h8 ((ge8 h1).mp h)
      by_cases h0 : k = 0
      · subst h0
        obtain ⟨a, b⟩ := sv_0 v w hre
        simp only [fX2_run_7, oX2_run_7, lt_, lo_, if_neg g, a, if_true, trc_0]
        exact ⟨rfl, b, trivial⟩
      · obtain ⟨p, hp⟩ := nxt_ne (at_ := atV v) (cl := clV v) (t := w_ti w) hk h0
        obtain ⟨p1, p2, -, -⟩ := nxt_some hp
        obtain ⟨a, b⟩ := sv_eq v h6 w hk h0 hj hre htu hp
        have ih := run_7 v h6 n (j + 1) (clr k p) (wSt v w (p, bgt (atV v) k (w_ti w))) (by omega) (by omega) (clr_lt k hk p p1) (by
          show w_re w &&& ((1 <<< (nI p &&& 31)) ^^^ (-1)) = _
          rw [hre, bt_clr k hk p p1]) (by
          show w_tu w + 1 = _
          rw [htu, nI_1])
        simp only [fX2_run_7, oX2_run_7, lt_, lo_, if_neg g, a, if_neg (n6 p1), nI_1]
        rw [show 8 - j = (8 - (j + 1)) + 1 by omega, trc_s _ h0 hp, List.foldl_cons]
        exact ⟨ih.1, b, ih.2⟩
def trV (v : tVl) (k : Nat) : List (Nat × Int32) := trc (atV v) (clV v) (dtV v) 8 k 0
theorem st_re (w : tWl) (x : Int32) : w_re (fX2_start w x) = x := rfl
theorem st_tu (w : tWl) (x : Int32) : w_tu (fX2_start w x) = nI 0 := by rw [nI_0]; rfl
theorem st_ti (w : tWl) (x : Int32) : w_ti (fX2_start w x) = 0 := rfl
theorem run_u (v : tVl) (w : tWl) (x : Int32) : fX2_run v w x = fX2_run_7 v 9 (fX2_start w x) (nI 0) := by rw [nI_0, fX2_run, lt_]
theorem run_o (v : tVl) (w : tWl) (x : Int32) : oX2_run v w x = oX2_run_7 v 9 (fX2_start w x) (nI 0) := by rw [nI_0, oX2_run, lo_]
theorem run_eq (v : tVl) (h6 : ok6 v) (w : tWl) {k : Nat} (hk : k < 256) : fX2_run v w (nI k) = (trV v k).foldl (wSt v) (fX2_start w (nI k)) ∧ oX2_run v w (nI k) := by
  have h := run_7 v h6 9 0 k (fX2_start w (nI k)) (by omega) (by omega) hk (st_re w _) (st_tu w _)
  rw [st_ti, Nat.sub_zero] at h
  rw [run_u, run_o, trV]
  exact h
/-! what the turns leave -/
section Fold
variable (v : tVl)
theorem fo_co : ∀ (L : List (Nat × Int32)) (w : tWl), w_co (L.foldl (wSt v) w) = w_co w
  | [], _ => rfl
  | q :: L, w => by rw [List.foldl_cons, fo_co L]; rfl
theorem fo_tu : ∀ (L : List (Nat × Int32)) (w : tWl) (j : Nat), w_tu w = nI j → w_tu (L.foldl (wSt v) w) = nI (j + L.length)
  | [], w, j, h => h
  | q :: L, w, j, h => by
    rw [List.foldl_cons, fo_tu L _ (j + 1) (by show w_tu w + 1 = _; rw [h, nI_1]), List.length_cons]
    rw [show j + 1 + L.length = j + (L.length + 1) by omega]
theorem fo_out : ∀ (L : List (Nat × Int32)) (w : tWl) (p : Nat), p ∉ L.map Prod.fst → w_be (L.foldl (wSt v) w) p = w_be w p ∧ w_en (L.foldl (wSt v) w) p = w_en w p ∧ w_wa (L.foldl (wSt v) w) p = w_wa w p
  | [], w, p, _ => ⟨rfl, rfl, rfl⟩
  | q :: L, w, p, h => by
    rw [List.map_cons, List.mem_cons, not_or] at h
    rw [List.foldl_cons]
    obtain ⟨a, b, c⟩ := fo_out L (wSt v w q) p h.2
    rw [a, b, c]
    exact ⟨pk_un h.1, pk_un h.1, pk_un h.1⟩
theorem fo_in : ∀ (L : List (Nat × Int32)) (w : tWl) (p : Nat), (L.map Prod.fst).Nodup → p ∈ L.map Prod.fst → w_be (L.foldl (wSt v) w) p = bgn L p ∧ w_en (L.foldl (wSt v) w) p = bgn L p + dtV v p ∧ w_wa (L.foldl (wSt v) w) p = bgn L p - atV v p
  | [], w, p, _, h => by simp at h
  | (r, b) :: L, w, p, hn, h => by
    rw [List.map_cons, List.nodup_cons] at hn
    rw [List.foldl_cons]
    by_cases hp : r = p
    · subst hp
      obtain ⟨a, b2, c⟩ := fo_out v L (wSt v w (r, b)) r hn.1
      rw [a, b2, c, bgn_at]
      exact ⟨pk_us, pk_us, pk_us⟩
    · rw [bgn, if_neg hp]
      rw [List.map_cons, List.mem_cons] at h
      exact fo_in L _ p hn.2 (h.resolve_left (fun z => hp z.symm))
theorem fo_or0 : ∀ (L : List (Nat × Int32)) (w : tWl) (j i : Nat), w_tu w = nI j → j + L.length ≤ 8 → i < j → w_or (L.foldl (wSt v) w) i = w_or w i
  | [], w, j, i, _, _, _ => rfl
  | q :: L, w, j, i, h, hl, hi => by
    rw [List.length_cons] at hl
    rw [List.foldl_cons, fo_or0 L _ (j + 1) i (by show w_tu w + 1 = _; rw [h, nI_1]) (by omega) (by omega)]
    show upd (w_or w) (Int32.toNatClampNeg (w_tu w)) (nI q.1) i = _
    rw [h, cl_n (by omega)]
    exact pk_un (by omega)
theorem fo_or : ∀ (L : List (Nat × Int32)) (w : tWl) (j i p : Nat), w_tu w = nI j → j + L.length ≤ 8 → (L.map Prod.fst)[i]? = some p → w_or (L.foldl (wSt v) w) (j + i) = nI p
  | [], w, j, i, p, _, _, h => by simp at h
  | q :: L, w, j, i, p, h, hl, hi => by
    rw [List.length_cons] at hl
    rw [List.foldl_cons]
    have h1 : w_tu (wSt v w q) = nI (j + 1) := by show w_tu w + 1 = _; rw [h, nI_1]
    cases i with
    | zero =>
      rw [fo_or0 v L _ (j + 1) (j + 0) h1 (by omega) (by omega)]
      rw [List.map_cons, List.getElem?_cons_zero] at hi
      cases hi
      show upd (w_or w) (Int32.toNatClampNeg (w_tu w)) (nI q.1) (j + 0) = _
      rw [h, cl_n (by omega)]
      exact pk_us
    | succ i =>
      rw [List.map_cons, List.getElem?_cons_succ] at hi
      rw [show j + (i + 1) = (j + 1) + i by omega]
      exact fo_or L _ (j + 1) i p h1 (by omega) hi
theorem fo_su : ∀ (L : List (Nat × Int32)) (w : tWl), w_su (L.foldl (wSt v) w) = L.foldl (fun m q => m + (q.2 - atV v q.1)) (w_su w)
  | [], _ => rfl
  | q :: L, w => by rw [List.foldl_cons, fo_su L, List.foldl_cons]; rfl
theorem fo_wo : ∀ (L : List (Nat × Int32)) (w : tWl), w_wo (L.foldl (wSt v) w) = L.foldl (fun m q => if m < q.2 - atV v q.1 then q.2 - atV v q.1 else m) (w_wo w)
  | [], _ => rfl
  | q :: L, w => by rw [List.foldl_cons, fo_wo L, List.foldl_cons]; rfl
theorem fo_ti : ∀ (L : List (Nat × Int32)) (w : tWl), w_ti (L.foldl (wSt v) w) = L.foldl (fun _ q => q.2 + dtV v q.1) (w_ti w)
  | [], _ => rfl
  | q :: L, w => by rw [List.foldl_cons, fo_ti L, List.foldl_cons]; rfl
end Fold
/-! which of two is better -/
theorem bet_1 {a b c d : Int32} (h : a < c) : ¬ fX3_better a b c d = 0 := by
  unfold fX3_better
  rw [if_pos h]
  exact i10
theorem bet_2 {a b c d : Int32} (h : ¬ a < c) (h2 : a = c) (h3 : d ≤ b) : fX3_better a b c d = 0 := by
  unfold fX3_better
  rw [if_neg h, if_pos h2, if_pos h3]
theorem bet_3 {a b c d : Int32} (h : ¬ a < c) (h2 : a = c) (h3 : ¬ d ≤ b) : ¬ fX3_better a b c d = 0 := by
  unfold fX3_better
  rw [if_neg h, if_pos h2, if_neg h3]
  exact i10
theorem bet_4 {a b c d : Int32} (h : ¬ a < c) (h2 : ¬ a = c) : fX3_better a b c d = 0 := by
  unfold fX3_better
  rw [if_neg h, if_neg h2]

/-! one more at the class's well -/
theorem trc_fuel {at_ : Nat → Int32} {cl : Int32 → Nat → Int32} {dt : Nat → Int32} : ∀ (n k : Nat) (t : Int32), k < 256 → pop k ≤ n → trc at_ cl dt (n + 1) k t = trc at_ cl dt n k t
  | 0, k, t, hk, hn => by
    have hk0 : k = 0 := pop_0 k hk (by omega)
    subst hk0
    rw [trc_0, trc_0]
  | n + 1, k, t, hk, hn => by
    by_cases h0 : k = 0
    · subst h0; rw [trc_0, trc_0]
    · obtain ⟨p, hx⟩ := nxt_ne (at_ := at_) (cl := cl) (t := t) hk h0
      obtain ⟨a, b, -, -⟩ := nxt_some hx
      have := pop_clr k hk p a b
      rw [trc_s (n + 1) h0 hx, trc_s n h0 hx, trc_fuel n _ _ (clr_lt k hk p a) (by omega)]
def wHolds (v : tVl) (w : tWl) (L : List (Nat × Int32)) : Prop :=
  w_tu w = nI L.length ∧ L.length ≤ 8 ∧ ∀ i q, L[i]? = some q → q.1 < 8 ∧ w_or w i = nI q.1 ∧ w_be w q.1 = q.2 ∧ w_en w q.1 = q.2 + dtV v q.1
theorem runC (v : tVl) (h6 : ok6 v) (w : tWl) {k : Nat} (hk : k < 256) : wHolds v (fX2_run v w (nI k)) (trV v k) := by
  obtain ⟨e, -⟩ := run_eq v h6 w hk
  have hnd : ((trV v k).map Prod.fst).Nodup := trc_nd 8 k 0 hk
  have hln : (trV v k).length = min 8 (pop k) := trc_len 8 k 0 hk
  have hst := st_tu w (nI k)
  refine ⟨by rw [e, fo_tu v _ _ 0 hst, Nat.zero_add], by omega, fun i q hq => ?_⟩
  have hm := List.mem_of_getElem? hq
  obtain ⟨a, b⟩ := trc_in (at_ := atV v) (cl := clV v) (dt := dtV v) 8 k 0 hk q hm
  obtain ⟨c1, c2, -⟩ := fo_in v (trV v k) (fX2_start w (nI k)) q.1 hnd (List.mem_map_of_mem hm)
  have c3 := fo_or v (trV v k) (fX2_start w (nI k)) 0 i q.1 hst (by omega) (by rw [List.getElem?_map, hq]; rfl)
  rw [Nat.zero_add] at c3
  rw [e, c1, c2, c3, bgn_mem hnd hm]
  exact ⟨a, rfl, rfl, rfl⟩
theorem bm_13 {u v : tVl} {w : tWl} {L : List (Nat × Int32)} (hw : wHolds v w L) {P : Nat} (hP : P < 8) : ∀ (n i : Nat) (f : Int32), i ≤ L.length → L.length < i + n →
    fX2_beginOfOneMore_13 u w (nI P) (atV u P) n f (nI i) = bom (atV u) (clV u) (dtV v) P f (L.drop i) ∧ oX2_beginOfOneMore_13 u w (nI P) (atV u P) n f (nI i)
  | 0, i, f, h1, h2 => by omega
  | n + 1, i, f, h1, h2 => by
    obtain ⟨w1, w2, w3⟩ := hw
    have hch : (if atV u P < f then f else atV u P) = chn (atV u P) f := rfl
    by_cases hi : i = L.length
    · have g : w_tu w ≤ nI i := by rw [w1, hi, nI_leI (by omega) (by omega)]; exact Nat.le_refl _
      simp only [fX2_beginOfOneMore_13, oX2_beginOfOneMore_13, if_pos g, hch]
      rw [hi, List.drop_length, bom]
      exact ⟨by first | rfl | trivial, trivial⟩
    · have hil : i < L.length := by omega
      have g : ¬ w_tu w ≤ nI i := by rw [w1, nI_leI (by omega) (by omega)]; omega
      obtain ⟨q, hq⟩ : ∃ q, L[i]? = some q := ⟨L[i], List.getElem?_eq_getElem hil⟩
      obtain ⟨q1, q2, q3, q4⟩ := w3 i q hq
      have hd : L.drop i = q :: L.drop (i + 1) := by
        rw [List.drop_eq_getElem_cons hil]
        rw [List.getElem?_eq_getElem hil] at hq
        rw [Option.some.inj hq]
      have hi8 : i < 8 := by omega
      have ih := bm_13 (u := u) ⟨w1, w2, w3⟩ hP n (i + 1) (q.2 + dtV v q.1) (by omega) (by omega)
      rw [hd]
      obtain ⟨r, b⟩ := q
      dsimp only at q1 q2 q3 q4 ih
      rw [bom]
      simp only [fX2_beginOfOneMore_13, oX2_beginOfOneMore_13, lt_, lo_, if_neg g, hch, c8 hi8, q2, c8 q1, q3, q4, nI_1, gb_eq u _ hP q1]
      by_cases c1 : b ≤ chn (atV u P) f
      · simp only [if_pos c1]
        by_cases c2 : chn (atV u P) f = b
        · simp only [if_pos c2]
          by_cases c3 : ahd (atV u) (clV u) (chn (atV u P) f) P r = true
          · simp only [if_pos c3, if_neg i10]
            exact ⟨by first | rfl | trivial, vin8 hi8, vin8 q1, gb_ok u _ hP q1, trivial⟩
          · simp only [if_neg c3, if_true]
            exact ⟨ih.1, vin8 hi8, vin8 q1, gb_ok u _ hP q1, ih.2⟩
        · simp only [if_neg c2]
          exact ⟨ih.1, vin8 hi8, vin8 q1, ih.2⟩
      · have c2 : ¬ chn (atV u P) f = b := fun h => c1 (by rw [h, i_le]; exact Int.le_refl _)
        simp only [if_neg c1, if_neg c2]
        exact ⟨by first | rfl | trivial, vin8 hi8, vin8 q1, trivial⟩
/-- the turn of one who was left out is its turn when it is there -/
theorem onemore {u v : tVl} (h6 : ok6 v) (w : tWl) {k P : Nat} (hk : k < 256) (hP : P < 8) (hb : k.testBit P = true) (hs : ∀ q, q < 8 → q ≠ P → atV u q = atV v q ∧ ∀ t, clV u t q = clV v t q) (hd : ∀ q, q < 8 → dtV u q = dtV v q) :
    fX2_beginOfOneMore u (fX2_run v w (nI (clr k P))) (nI P) = bgn (trV u k) P ∧ oX2_beginOfOneMore u (fX2_run v w (nI (clr k P))) (nI P) := by
  have hck := clr_lt k hk P hP
  have hpc := pop_clr k hk P hP hb
  have hp8 := pop_le k hk
  obtain ⟨w1, w2, w3⟩ := runC v h6 w hck
  obtain ⟨a, b⟩ := bm_13 (u := u) ⟨w1, w2, w3⟩ hP 9 0 0 (Nat.zero_le _) (by omega)
  rw [List.drop_zero, nI_0] at a
  rw [nI_0] at b
  have hnP : ∀ q, q < 8 → (clr k P).testBit q = true → q ≠ P := fun q hq h => ((clr_t hk hP hq).mp h).2
  have e1 : trV v (clr k P) = trc (atV u) (clV u) (dtV u) 7 (clr k P) 0 := by
    rw [show trV v (clr k P) = trc (atV v) (clV v) (dtV v) (7 + 1) (clr k P) 0 from rfl, trc_fuel 7 _ _ hck (by omega)]
    exact trc_congr 7 _ 0 hck (fun q hq h => ⟨(hs q hq (hnP q hq h)).1.symm, fun t => ((hs q hq (hnP q hq h)).2 t).symm, (hd q hq).symm⟩)
  have e2 : bom (atV u) (clV u) (dtV v) P 0 (trV v (clr k P)) = bom (atV u) (clV u) (dtV u) P 0 (trV v (clr k P)) := by
    have hin := fun q hq => (trc_in (at_ := atV v) (cl := clV v) (dt := dtV v) 8 (clr k P) 0 hck q hq).1
    have gen : ∀ (L : List (Nat × Int32)) (f : Int32), (∀ q ∈ L, q.1 < 8) → bom (atV u) (clV u) (dtV v) P f L = bom (atV u) (clV u) (dtV u) P f L := by
      intro L
      induction L with
      | nil => intro f _; rfl
      | cons q L ih =>
        intro f h
        obtain ⟨r, b⟩ := q
        rw [bom, bom, hd r (h _ List.mem_cons_self), ih _ (fun q hq => h q (List.mem_cons_of_mem _ hq))]
    exact gen _ 0 hin
  have e3 := ins (at_ := atV u) (cl := clV u) (dt := dtV u) hP 7 (clr k P) 0 hck (fun h => (hnP P hP h) rfl) (by omega)
  rw [sbt_clr k hk P hP hb, ← e1, ← e2, ← a] at e3
  refine ⟨?_, vin8 hP, ?_⟩
  · rw [fX2_beginOfOneMore, lt_, c8 hP]
    exact e3.symm
  · rw [lo_, c8 hP]
    exact b
/-! a told row -/
theorem pAt_ok {pd : tPd} {i : Nat} (hi : i < 40) : oX0_personAt pd (nI i) := by
  unfold oX0_personAt
  split
  · trivial
  · split
    · exact ⟨vp_in_nI hi (by decide), trivial⟩
    · trivial
/-- whether turns go on as the pad tells from a place on -/
def mt (pd : tPd) : Nat → List (Nat × Int32) → Bool
  | _, [] => true
  | i, q :: L => decide (fX0_personAt pd (nI i) = nI q.1) && mt pd (i + 1) L
theorem keeps_10 (u : tVl) (h6 : ok6 u) (pd : tPd) : ∀ (n i k : Nat) (w : tWl), i ≤ 8 → 8 < i + n → k < 256 → w_re w = nI k → w_tu w = nI i → p_ct pd = nI (i + pop k) → i + pop k ≤ 8 →
    (fX2_keepsTo_10 u pd n w (nI i)).1 = (if mt pd i (trc (atV u) (clV u) (dtV u) (8 - i) k (w_ti w)) = true then 1 else 0) ∧ oX2_keepsTo_10 u pd n w (nI i)
  | 0, i, k, w, h1, h2, _, _, _, _, _ => by omega
  | n + 1, i, k, w, h1, h2, hk, hre, htu, hct, hle => by
    by_cases h0 : k = 0
    · subst h0
      have g : p_ct pd ≤ nI i := by rw [hct, nI_leI (by omega) (by omega)]; simp [show pop 0 = 0 by decide]
      simp only [fX2_keepsTo_10, oX2_keepsTo_10, if_pos g, trc_0, mt, if_true]
      exact ⟨by first | rfl | trivial, trivial⟩
    · have hpos : 0 < pop k := by
        rcases Nat.eq_zero_or_pos (pop k) with h | h
        · exact absurd (pop_0 k hk h) h0
        · exact h
      have hi : i < 8 := by omega
      have g : ¬ p_ct pd ≤ nI i := by rw [hct, nI_leI (by omega) (by omega)]; omega
      have g8 : ¬ (8 : Int32) ≤ nI i := fun h => absurd ((ge8 h1).mp h) (by omega)
      obtain ⟨p, hp⟩ := nxt_ne (at_ := atV u) (cl := clV u) (t := w_ti w) hk h0
      obtain ⟨p1, p2, -, -⟩ := nxt_some hp
      obtain ⟨a, b⟩ := sv_eq u h6 w hk h0 hi hre htu hp
      have hpc := pop_clr k hk p p1 p2
      have ih := keeps_10 u h6 pd n (i + 1) (clr k p) (wSt u w (p, bgt (atV u) k (w_ti w))) (by omega) (by omega) (clr_lt k hk p p1) (by
          show w_re w &&& ((1 <<< (nI p &&& 31)) ^^^ (-1)) = _
          rw [hre, bt_clr k hk p p1]) (by
          show w_tu w + 1 = _
          rw [htu, nI_1]) (by rw [hct]; congr 1; omega) (by omega)
      rw [show 8 - i = (8 - (i + 1)) + 1 by omega, trc_s _ h0 hp, mt]
      simp only [fX2_keepsTo_10, oX2_keepsTo_10, lt_, lo_, if_neg g, if_neg g8, a, nI_1]
      by_cases hm : fX0_personAt pd (nI i) = nI p
      · simp only [hm, decide_true, Bool.true_and, if_true]
        exact ⟨ih.1, b, pAt_ok (by omega), ih.2⟩
      · have hm2 : ¬ nI p = fX0_personAt pd (nI i) := fun h => hm h.symm
        simp only [if_neg hm2, decide_eq_false hm, Bool.false_and]
        exact ⟨by first | rfl | simp, b, pAt_ok (by omega), trivial⟩
theorem keeps_eq (u : tVl) (h6 : ok6 u) (w : tWl) (pd : tPd) {k : Nat} (hk : k < 256) (hcm : v_cm u = nI k) (hct : p_ct pd = nI (pop k)) :
    (fX2_keepsTo u w pd).1 = (if mt pd 0 (trV u k) = true then 1 else 0) ∧ oX2_keepsTo u w pd := by
  have hp8 := pop_le k hk
  have h := keeps_10 u h6 pd 9 0 k (fX2_start w (nI k)) (by omega) (by omega) hk (st_re w _) (st_tu w _) (by rw [hct, Nat.zero_add]) (by omega)
  rw [st_ti, Nat.sub_zero, nI_0] at h
  unfold fX2_keepsTo oX2_keepsTo trV
  simp only [lt_, lo_, hcm]
  exact h

/-! the same scene on both sides -/
def Sc (u : tVl) (y : tMs) : Prop :=
  (0 ≤ (m_dr y).toInt ∧ (m_dr y).toInt ≤ 20) ∧ (v_se u 0 = m_dr y ∧ v_se u 1 = m_bf y ∧ v_se u 2 = m_bs y ∧ v_se u 3 = m_ha y) ∧
  ∀ p, p < 8 → (v_mi u p = m_fr y p ∧ v_mn u p = m_at y p ∧ v_pa u p = m_pa y p ∧ v_ca u p = m_ca y p) ∧ (0 ≤ (m_at y p).toInt ∧ (m_at y p).toInt ≤ 2000) ∧ (0 ≤ (m_pa y p).toInt ∧ (m_pa y p).toInt ≤ 9) ∧ (m_ca y p = 0 ∨ m_ca y p = 1)
theorem ge_6 {a : Int32} (h : 0 ≤ a.toInt) : ¬ a = -6 := fun e => by
  rw [e] at h
  exact absurd h (by decide)
theorem Sc.six {u : tVl} {y : tMs} (h : Sc u y) : ok6 u := fun p hp => by
  obtain ⟨⟨-, a, -, -⟩, ⟨b, -⟩, -⟩ := h.2.2 p hp
  rw [a]
  exact ge_6 b
theorem z0 : Int32.toNatClampNeg 0 = 0 := by decide
theorem z1 : Int32.toNatClampNeg 1 = 1 := by decide
theorem z2 : Int32.toNatClampNeg 2 = 2 := by decide
theorem z3 : Int32.toNatClampNeg 3 = 3 := by decide
theorem Sc.at_ {u : tVl} {y : tMs} (h : Sc u y) {p : Nat} (hp : p < 8) : atV u p = atM y p := (h.2.2 p hp).1.2.1
theorem Sc.dt {u : tVl} {y : tMs} (h : Sc u y) {p : Nat} (hp : p < 8) : dtV u p = dtM y p := by
  unfold dtV dtM fX1_timeToDraw
  rw [z0, c8 hp, h.2.1.1, (h.2.2 p hp).1.2.2.1]
theorem Sc.cl {u : tVl} {y : tMs} (h : Sc u y) {p : Nat} (hp : p < 8) (t : Int32) : clV u t p = clM y t p := by
  obtain ⟨-, ⟨-, h1, h2, h3⟩, h4⟩ := h
  obtain ⟨⟨a1, a2, a3, a4⟩, -, -, a5⟩ := h4 p hp
  unfold clV clM fX1_claimAt fX4_claimOf
  simp only [lt_, z1, z2, z3, c8 hp, h1, h2, h3, a1, a2, a4]
  by_cases hh : m_ha y = 1
  · simp only [if_pos hh]
    rcases a5 with e | e
    · rw [if_pos e, if_neg (by rw [e]; decide)]
    · rw [if_neg (by rw [e]; decide), if_pos e]
  · simp only [if_neg hh]
theorem Sc.tr {u : tVl} {y : tMs} (h : Sc u y) {k : Nat} (hk : k < 256) : trV u k = trM y k :=
  trc_congr 8 k 0 hk (fun p hp _ => ⟨h.at_ hp, h.cl hp, h.dt hp⟩)
theorem Sc.dtR {u : tVl} {y : tMs} (h : Sc u y) {p : Nat} (hp : p < 8) : 0 ≤ (dtV u p).toInt ∧ (dtV u p).toInt ≤ 180 := by
  have hdt := h.dt hp
  obtain ⟨⟨d1, d2⟩, -, h4⟩ := h
  obtain ⟨-, -, ⟨p1, p2⟩, -⟩ := h4 p hp
  rw [hdt]
  unfold dtM
  have hlo : 0 ≤ (m_dr y).toInt * (m_pa y p).toInt := Int.mul_nonneg d1 p1
  have hhi : (m_dr y).toInt * (m_pa y p).toInt ≤ 20 * 9 := Int.mul_le_mul d2 p2 p1 (by decide)
  have e : (m_dr y * m_pa y p).toInt = (m_dr y).toInt * (m_pa y p).toInt := ib_mul (by omega) (by omega)
  omega
theorem Sc.rng {u : tVl} {y : tMs} (h : Sc u y) {k : Nat} (hk : k < 256) : ∀ q ∈ trV u k, (atV u q.1).toInt ≤ q.2.toInt ∧ q.2.toInt ≤ 3440 :=
  trc_bd 8 k 0 hk (by omega) (by decide) (by decide) (fun p hp _ => by
    have h1 := h.dtR hp
    have h2 := (h.2.2 p hp).2.1
    rw [h.at_ hp]
    exact ⟨h2.1, h2.2, h1.1, h1.2⟩)
/-- the same state but for what runs write, and what they run by -/
def SB (x y : tMs) : Prop := ∃ (fr at_ wa en to_ or_ : tAr) (my bf bs : Int32), y = mO (mA x fr at_ bf bs) wa en to_ or_ my
theorem SB.rf (x : tMs) : SB x x := ⟨m_fr x, m_at x, m_wa x, m_en x, m_to x, m_or x, m_my x, m_bf x, m_bs x, rfl⟩
theorem SB.tr {x y z : tMs} (h : SB x y) (h2 : SB y z) : SB x z := by
  obtain ⟨fr, at_, wa, en, to_, or_, my, bf, bs, rfl⟩ := h
  obtain ⟨fr2, at2, wa2, en2, to2, or2, my2, bf2, bs2, rfl⟩ := h2
  exact ⟨fr2, at2, wa2, en2, to2, or2, my2, bf2, bs2, rfl⟩
theorem SB.O (x : tMs) (wa en to_ or_ : tAr) (my : Int32) : SB x (mO x wa en to_ or_ my) := ⟨m_fr x, m_at x, wa, en, to_, or_, my, m_bf x, m_bs x, rfl⟩
theorem SB.A (x : tMs) (fr at_ : tAr) (bf bs : Int32) : SB x (mA x fr at_ bf bs) := ⟨fr, at_, m_wa x, m_en x, m_to x, m_or x, m_my x, bf, bs, rfl⟩
theorem getL {α : Type} {L : List α} (h : L ≠ []) : L[L.length - 1]? = some (L.getLast h) := by
  rw [List.getLast_eq_getElem]
  exact List.getElem?_eq_getElem _
theorem foldl_last {α β : Type} (f : α → β) : ∀ (L : List α) (a : β) (h : L ≠ []), L.foldl (fun _ q => f q) a = f (L.getLast h)
  | [x], a, h => rfl
  | x :: y :: L, a, h => by
    rw [List.foldl_cons, foldl_last f (y :: L) (f x) (by simp), List.getLast_cons_cons]
theorem mO_wa (x : tMs) (wa en to_ or_ : tAr) (my : Int32) : m_wa (mO x wa en to_ or_ my) = wa := rfl
theorem mO_en (x : tMs) (wa en to_ or_ : tAr) (my : Int32) : m_en (mO x wa en to_ or_ my) = en := rfl
theorem mO_to (x : tMs) (wa en to_ or_ : tAr) (my : Int32) : m_to (mO x wa en to_ or_ my) = to_ := rfl
theorem mO_or (x : tMs) (wa en to_ or_ : tAr) (my : Int32) : m_or (mO x wa en to_ or_ my) = or_ := rfl
theorem mO_my (x : tMs) (wa en to_ or_ : tAr) (my : Int32) : m_my (mO x wa en to_ or_ my) = my := rfl
theorem st_co (w : tWl) (x : Int32) : w_co (fX2_start w x) = x := rfl
/-- a run on both sides -/
theorem runs {u : tVl} {y : tMs} (w : tWl) {k : Nat} (hk : k < 256) (h : Sc u y) :
    oX2_run u w (nI k) ∧ oX4_go y (nI k) 99 ∧
    (trV u k).length = pop k ∧ w_tu (fX2_run u w (nI k)) = nI (pop k) ∧ m_my (fX4_go y (nI k) 99) = nI (pop k) ∧
    (∀ i p, ((trV u k).map Prod.fst)[i]? = some p → w_or (fX2_run u w (nI k)) i = nI p ∧ m_or (fX4_go y (nI k) 99) i = nI p) ∧
    (∀ p, p < 8 → k.testBit p = true → w_be (fX2_run u w (nI k)) p = bgn (trV u k) p ∧ w_en (fX2_run u w (nI k)) p = bgn (trV u k) p + dtV u p ∧ w_wa (fX2_run u w (nI k)) p = bgn (trV u k) p - atV u p ∧ m_wa (fX4_go y (nI k) 99) p = bgn (trV u k) p - atV u p ∧ m_en (fX4_go y (nI k) 99) p = bgn (trV u k) p + dtV u p) ∧
    (∀ p, p < 8 → ¬ k.testBit p = true → m_wa (fX4_go y (nI k) 99) p = m_wa y p) ∧
    w_wo (fX2_run u w (nI k)) = wsU (m_wa (fX4_go y (nI k) 99)) k 8 ∧ w_su (fX2_run u w (nI k)) = smU (m_wa (fX4_go y (nI k) 99)) k 8 ∧
    w_co (fX2_run u w (nI k)) = nI k ∧ (∃ wa en to_ or_ : tAr, fX4_go y (nI k) 99 = mO y wa en to_ or_ (nI (pop k))) ∧
    w_ti (fX2_run u w (nI k)) = (trV u k).foldl (fun _ q => q.2 + dtV u q.1) 0 := by
  obtain ⟨e, o⟩ := run_eq u h.six w hk
  obtain ⟨⟨wa, en, to_, or_, g1, g2, g3, g4⟩, o2⟩ := go_eq y k hk (fun p hp _ => by have := (h.2.2 p hp).2.1; omega) (fun p hp _ => (h.2.2 p hp).2.2.1)
  have ht := h.tr hk
  have hnd : ((trV u k).map Prod.fst).Nodup := trc_nd 8 k 0 hk
  have hp8 := pop_le k hk
  have hln : (trV u k).length = pop k := by
    have : (trV u k).length = min 8 (pop k) := trc_len 8 k 0 hk
    omega
  have hst := st_tu w (nI k)
  rw [← ht] at g1 g2 g3
  rw [hln] at g1
  have hwa : ∀ p, p < 8 → k.testBit p = true → wa p = bgn (trV u k) p - atV u p := fun p hp hb => by rw [(g3 p hp hb).1, h.at_ hp]
  have hmw : m_wa (fX4_go y (nI k) 99) = wa := by rw [g1, mO_wa]
  have hgw : ∀ q ∈ trV u k, q.2 - atV u q.1 = wa q.1 := fun q hq => by
    obtain ⟨a, b⟩ := trc_in (at_ := atV u) (cl := clV u) (dt := dtV u) 8 k 0 hk q hq
    rw [hwa q.1 a b, bgn_mem hnd hq]
  refine ⟨o, o2, hln, ?_, ?_, ?_, ?_, ?_, ?_, ?_, ?_, ⟨wa, en, to_, or_, g1⟩, ?_⟩
  · rw [e, fo_tu u _ _ 0 hst, Nat.zero_add, hln]
  · rw [g1, mO_my]
  · intro i p hi
    refine ⟨?_, ?_⟩
    · have := fo_or u (trV u k) (fX2_start w (nI k)) 0 i p hst (by omega) hi
      rw [Nat.zero_add] at this
      rw [e]
      exact this
    · rw [g1, mO_or]
      exact g2 i p hi
  · intro p hp hb
    have hin : p ∈ (trV u k).map Prod.fst := trc_all (at_ := atV u) (cl := clV u) (dt := dtV u) 8 k 0 hk hp8 p hp hb
    obtain ⟨a, b, c⟩ := fo_in u (trV u k) (fX2_start w (nI k)) p hnd hin
    rw [e, a, b, c, hmw, hwa p hp hb]
    refine ⟨rfl, rfl, rfl, rfl, ?_⟩
    rw [g1, mO_en, h.dt hp]
    exact (g3 p hp hb).2
  · intro p hp hb
    rw [hmw]
    exact (g4 p hp hb).1
  · rw [e, fo_wo, hmw]
    exact wst_trc wa (fun q => q.2 - atV u q.1) 8 k 0 hk hp8 hgw
  · rw [e, fo_su, hmw]
    exact sum_trc wa (fun q => q.2 - atV u q.1) 8 k 0 hk hp8 hgw
  · rw [e, fo_co, st_co]
  · rw [e, fo_ti, st_ti]
/-- waits and ends are small -/
theorem Sc.wait {u : tVl} {y : tMs} (h : Sc u y) {k p : Nat} (hk : k < 256) (hp : p < 8) (hb : k.testBit p = true) : 0 ≤ (bgn (trV u k) p - atV u p).toInt ∧ (bgn (trV u k) p - atV u p).toInt ≤ 3440 ∧ 0 ≤ (bgn (trV u k) p + dtV u p).toInt ∧ (bgn (trV u k) p + dtV u p).toInt ≤ 3620 := by
  have hnd : ((trV u k).map Prod.fst).Nodup := trc_nd 8 k 0 hk
  obtain ⟨q, hq, rfl⟩ := List.mem_map.mp (trc_all (at_ := atV u) (cl := clV u) (dt := dtV u) 8 k 0 hk (pop_le k hk) p hp hb)
  obtain ⟨a, b⟩ := h.rng hk q hq
  have h2 := (h.2.2 q.1 hp).2.1
  have h3 := h.dtR hp
  rw [← show atV u q.1 = m_at y q.1 from h.at_ hp] at h2
  rw [bgn_mem hnd hq]
  have e1 : (q.2 - atV u q.1).toInt = q.2.toInt - (atV u q.1).toInt := ib_sub (by omega) (by omega)
  have e2 : (q.2 + dtV u q.1).toInt = q.2.toInt + (dtV u q.1).toInt := ib_add (by omega) (by omega)
  omega

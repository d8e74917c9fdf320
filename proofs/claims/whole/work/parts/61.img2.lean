theorem W62 {co dr fa st ha pn my bf bs : Int32} {mi mn pa ca pd fr at_ wa en to_ or_ ik : tAr} {b : Nat} (hb : b + 32 ≤ 100) : ∀ (n p : Nat) (kp : tAr), p ≤ 8 → 8 < p + n →
    oX4_passAll_62 n ((co, mi, mn, pa, ca, dr, fa, st, ha, pd, pn, fr, at_, wa, en, to_, or_, my, bf, bs, kp, ik, nI (b + 4 * p), 1) : tMs) (nI p) ∧ ∃ kp' : tAr, fX4_passAll_62 n ((co, mi, mn, pa, ca, dr, fa, st, ha, pd, pn, fr, at_, wa, en, to_, or_, my, bf, bs, kp, ik, nI (b + 4 * p), 1) : tMs) (nI p) = (co, mi, mn, pa, ca, dr, fa, st, ha, pd, pn, fr, at_, wa, en, to_, or_, my, bf, bs, kp', ik, nI (b + 32), 1) ∧
      (∀ i, i < b + 4 * p → kp' i = kp i) ∧ (∀ i, b + 32 ≤ i → kp' i = kp i) ∧ ∀ q, p ≤ q → q < 8 → kp' (b + 4 * q) = mi q ∧ kp' (b + 4 * q + 1) = mn q ∧ kp' (b + 4 * q + 2) = pa q ∧ kp' (b + 4 * q + 3) = ca q
  | 0, p, kp, h1, h2 => by omega
  | n + 1, p, kp, h1, h2 => by
    by_cases h8 : p = 8
    · have g : (8 : Int32) ≤ nI p := (ge8 h1).mpr h8
      subst h8
      rw [fX4_passAll_62, oX4_passAll_62, if_pos g, if_pos g]
      exact ⟨trivial, kp, rfl, fun _ _ => rfl, fun _ _ => rfl, fun q a c => by omega⟩
    · have hp : p < 8 := by omega
      obtain ⟨e1, e2⟩ := st62W (co := co) (dr := dr) (fa := fa) (st := st) (ha := ha) (pn := pn) (my := my) (bf := bf) (bs := bs) (mi := mi) (mn := mn) (pa := pa) (ca := ca) (pd := pd) (fr := fr) (at_ := at_) (wa := wa) (en := en) (to_ := to_) (or_ := or_) (ik := ik) kp (j := b + 4 * p) (p := p) (by omega) hp n
      obtain ⟨i1, kp', i2, i3, i4, i5⟩ := W62 (co := co) (dr := dr) (fa := fa) (st := st) (ha := ha) (pn := pn) (my := my) (bf := bf) (bs := bs) (mi := mi) (mn := mn) (pa := pa) (ca := ca) (pd := pd) (fr := fr) (at_ := at_) (wa := wa) (en := en) (to_ := to_) (or_ := or_) (ik := ik) hb n (p + 1) (upd (upd (upd (upd kp (b + 4 * p) (mi p)) (b + 4 * p + 1) (mn p)) (b + 4 * p + 2) (pa p)) (b + 4 * p + 3) (ca p)) (by omega) (by omega)
      have eb : b + 4 * (p + 1) = b + 4 * p + 4 := by omega
      rw [eb] at i1 i2 i3
      refine ⟨e2 i1, kp', e1.trans i2, fun i hi => ?_, fun i hi => ?_, fun q hq hq8 => ?_⟩
      · rw [i3 i (by omega)]
        simp only [upd_case]
        rw [if_neg (by omega), if_neg (by omega), if_neg (by omega), if_neg (by omega)]
      · rw [i4 i hi]
        simp only [upd_case]
        rw [if_neg (by omega), if_neg (by omega), if_neg (by omega), if_neg (by omega)]
      · by_cases hqp : q = p
        · subst hqp
          rw [i3 _ (by omega), i3 _ (by omega), i3 _ (by omega), i3 _ (by omega)]
          simp only [upd_case]
          refine ⟨?_, ?_, ?_, ?_⟩
          · rw [if_neg (by omega), if_neg (by omega), if_neg (by omega), if_pos trivial]
          · rw [if_neg (by omega), if_neg (by omega), if_pos trivial]
          · rw [if_neg (by omega), if_pos trivial]
          · rw [if_pos trivial]
        · exact i5 q (by omega) hq8
theorem R62 {co dr fa st ha pn my bf bs : Int32} {kp pd fr at_ wa en to_ or_ ik : tAr} {b : Nat} (hb : b + 32 ≤ 100) : ∀ (n p : Nat) (mi mn pa ca : tAr), p ≤ 8 → 8 < p + n →
    oX4_passAll_62 n ((co, mi, mn, pa, ca, dr, fa, st, ha, pd, pn, fr, at_, wa, en, to_, or_, my, bf, bs, kp, ik, nI (b + 4 * p), 0) : tMs) (nI p) ∧ ∃ mi' mn' pa' ca' : tAr, fX4_passAll_62 n ((co, mi, mn, pa, ca, dr, fa, st, ha, pd, pn, fr, at_, wa, en, to_, or_, my, bf, bs, kp, ik, nI (b + 4 * p), 0) : tMs) (nI p) = (co, mi', mn', pa', ca', dr, fa, st, ha, pd, pn, fr, at_, wa, en, to_, or_, my, bf, bs, kp, ik, nI (b + 32), 0) ∧
      (∀ q, q < p → mi' q = mi q ∧ mn' q = mn q ∧ pa' q = pa q ∧ ca' q = ca q) ∧ ∀ q, p ≤ q → q < 8 → mi' q = kp (b + 4 * q) ∧ mn' q = kp (b + 4 * q + 1) ∧ pa' q = kp (b + 4 * q + 2) ∧ ca' q = kp (b + 4 * q + 3)
  | 0, p, mi, mn, pa, ca, h1, h2 => by omega
  | n + 1, p, mi, mn, pa, ca, h1, h2 => by
    by_cases h8 : p = 8
    · have g : (8 : Int32) ≤ nI p := (ge8 h1).mpr h8
      subst h8
      rw [fX4_passAll_62, oX4_passAll_62, if_pos g, if_pos g]
      exact ⟨trivial, mi, mn, pa, ca, rfl, fun _ _ => ⟨rfl, rfl, rfl, rfl⟩, fun q a c => by omega⟩
    · have hp : p < 8 := by omega
      obtain ⟨e1, e2⟩ := st62R (co := co) (dr := dr) (fa := fa) (st := st) (ha := ha) (pn := pn) (my := my) (bf := bf) (bs := bs) (mi := mi) (mn := mn) (pa := pa) (ca := ca) (pd := pd) (fr := fr) (at_ := at_) (wa := wa) (en := en) (to_ := to_) (or_ := or_) (ik := ik) kp (j := b + 4 * p) (p := p) (by omega) hp n
      obtain ⟨i1, mi', mn', pa', ca', i2, i3, i4⟩ := R62 (co := co) (dr := dr) (fa := fa) (st := st) (ha := ha) (pn := pn) (my := my) (bf := bf) (bs := bs) (kp := kp) (pd := pd) (fr := fr) (at_ := at_) (wa := wa) (en := en) (to_ := to_) (or_ := or_) (ik := ik) hb n (p + 1) (upd mi p (kp (b + 4 * p))) (upd mn p (kp (b + 4 * p + 1))) (upd pa p (kp (b + 4 * p + 2))) (upd ca p (kp (b + 4 * p + 3))) (by omega) (by omega)
      have eb : b + 4 * (p + 1) = b + 4 * p + 4 := by omega
      rw [eb] at i1 i2
      refine ⟨e2 i1, mi', mn', pa', ca', e1.trans i2, fun q hq => ?_, fun q hq hq8 => ?_⟩
      · obtain ⟨a1, a2, a3, a4⟩ := i3 q (by omega)
        rw [a1, a2, a3, a4]
        exact ⟨pk_un (by omega), pk_un (by omega), pk_un (by omega), pk_un (by omega)⟩
      · by_cases hqp : q = p
        · subst hqp
          obtain ⟨a1, a2, a3, a4⟩ := i3 q (by omega)
          rw [a1, a2, a3, a4]
          exact ⟨pk_us, pk_us, pk_us, pk_us⟩
        · exact i4 q (by omega) hq8
theorem passAllW {co dr fa st ha pn my bf bs : Int32} {mi mn pa ca pd fr at_ wa en to_ or_ ik : tAr} (kp : tAr) {b : Nat} (hb : b + 37 ≤ 100) : oX4_passAll ((co, mi, mn, pa, ca, dr, fa, st, ha, pd, pn, fr, at_, wa, en, to_, or_, my, bf, bs, kp, ik, nI b, 1) : tMs) ∧ ∃ kp' : tAr, fX4_passAll ((co, mi, mn, pa, ca, dr, fa, st, ha, pd, pn, fr, at_, wa, en, to_, or_, my, bf, bs, kp, ik, nI b, 1) : tMs) = (co, mi, mn, pa, ca, dr, fa, st, ha, pd, pn, fr, at_, wa, en, to_, or_, my, bf, bs, kp', ik, nI (b + 37), 1) ∧
    (∀ i, i < b → kp' i = kp i) ∧ (∀ i, b + 37 ≤ i → kp' i = kp i) ∧ (kp' b = co ∧ kp' (b + 1) = dr ∧ kp' (b + 2) = fa ∧ kp' (b + 3) = st ∧ kp' (b + 4) = ha) ∧ ∀ q, q < 8 → kp' (b + 5 + 4 * q) = mi q ∧ kp' (b + 6 + 4 * q) = mn q ∧ kp' (b + 7 + 4 * q) = pa q ∧ kp' (b + 8 + 4 * q) = ca q := by
  have e0 := fun (co dr fa st ha : Int32) (mi mn pa ca kp : tAr) (v : Int32) => passW (co := co) (dr := dr) (fa := fa) (st := st) (ha := ha) (pn := pn) (my := my) (bf := bf) (bs := bs) (mi := mi) (mn := mn) (pa := pa) (ca := ca) (pd := pd) (fr := fr) (at_ := at_) (wa := wa) (en := en) (to_ := to_) (or_ := or_) (ik := ik) kp v (show b < 100 by omega)
  have e1 := fun (co dr fa st ha : Int32) (mi mn pa ca kp : tAr) (v : Int32) => passW (co := co) (dr := dr) (fa := fa) (st := st) (ha := ha) (pn := pn) (my := my) (bf := bf) (bs := bs) (mi := mi) (mn := mn) (pa := pa) (ca := ca) (pd := pd) (fr := fr) (at_ := at_) (wa := wa) (en := en) (to_ := to_) (or_ := or_) (ik := ik) kp v (show b + 1 < 100 by omega)
  have e2 := fun (co dr fa st ha : Int32) (mi mn pa ca kp : tAr) (v : Int32) => passW (co := co) (dr := dr) (fa := fa) (st := st) (ha := ha) (pn := pn) (my := my) (bf := bf) (bs := bs) (mi := mi) (mn := mn) (pa := pa) (ca := ca) (pd := pd) (fr := fr) (at_ := at_) (wa := wa) (en := en) (to_ := to_) (or_ := or_) (ik := ik) kp v (show b + 1 + 1 < 100 by omega)
  have e3 := fun (co dr fa st ha : Int32) (mi mn pa ca kp : tAr) (v : Int32) => passW (co := co) (dr := dr) (fa := fa) (st := st) (ha := ha) (pn := pn) (my := my) (bf := bf) (bs := bs) (mi := mi) (mn := mn) (pa := pa) (ca := ca) (pd := pd) (fr := fr) (at_ := at_) (wa := wa) (en := en) (to_ := to_) (or_ := or_) (ik := ik) kp v (show b + 1 + 1 + 1 < 100 by omega)
  have e4 := fun (co dr fa st ha : Int32) (mi mn pa ca kp : tAr) (v : Int32) => passW (co := co) (dr := dr) (fa := fa) (st := st) (ha := ha) (pn := pn) (my := my) (bf := bf) (bs := bs) (mi := mi) (mn := mn) (pa := pa) (ca := ca) (pd := pd) (fr := fr) (at_ := at_) (wa := wa) (en := en) (to_ := to_) (or_ := or_) (ik := ik) kp v (show b + 1 + 1 + 1 + 1 < 100 by omega)
  obtain ⟨i1, kp', i2, i3, i4, i5⟩ := W62 (co := co) (dr := dr) (fa := fa) (st := st) (ha := ha) (pn := pn) (my := my) (bf := bf) (bs := bs) (mi := mi) (mn := mn) (pa := pa) (ca := ca) (pd := pd) (fr := fr) (at_ := at_) (wa := wa) (en := en) (to_ := to_) (or_ := or_) (ik := ik) (b := b + 5) (by omega) 9 0 (upd (upd (upd (upd (upd kp b co) (b + 1) dr) (b + 2) fa) (b + 3) st) (b + 4) ha) (by omega) (by omega)
  rw [nI_0] at i1 i2
  refine ⟨?_, kp', ?_, fun i hi => ?_, fun i hi => ?_, ?_, fun q hq => ?_⟩
  · rw [oX4_passAll]
    simp only [lo_e, m_co, m_mi, m_mn, m_pa, m_ca, m_dr, m_fa, m_st, m_ha, m_pd, m_pn, m_fr, m_at, m_wa, m_en, m_to, m_or, m_my, m_bf, m_bs, m_kp, m_ik, m_ka, m_iw, (e0 _ _ _ _ _ _ _ _ _ _ _).1, (e1 _ _ _ _ _ _ _ _ _ _ _).1, (e2 _ _ _ _ _ _ _ _ _ _ _).1, (e3 _ _ _ _ _ _ _ _ _ _ _).1, (e4 _ _ _ _ _ _ _ _ _ _ _).1]
    exact ⟨(e0 _ _ _ _ _ _ _ _ _ _ _).2, (e1 _ _ _ _ _ _ _ _ _ _ _).2, (e2 _ _ _ _ _ _ _ _ _ _ _).2, (e3 _ _ _ _ _ _ _ _ _ _ _).2, (e4 _ _ _ _ _ _ _ _ _ _ _).2, i1⟩
  · rw [fX4_passAll]
    simp only [lt_e, m_co, m_mi, m_mn, m_pa, m_ca, m_dr, m_fa, m_st, m_ha, m_pd, m_pn, m_fr, m_at, m_wa, m_en, m_to, m_or, m_my, m_bf, m_bs, m_kp, m_ik, m_ka, m_iw, (e0 _ _ _ _ _ _ _ _ _ _ _).1, (e1 _ _ _ _ _ _ _ _ _ _ _).1, (e2 _ _ _ _ _ _ _ _ _ _ _).1, (e3 _ _ _ _ _ _ _ _ _ _ _).1, (e4 _ _ _ _ _ _ _ _ _ _ _).1]
    exact i2
  · rw [i3 i (by omega)]
    simp only [upd_case]
    rw [if_neg (by omega), if_neg (by omega), if_neg (by omega), if_neg (by omega), if_neg (by omega)]
  · rw [i4 i (by omega)]
    simp only [upd_case]
    rw [if_neg (by omega), if_neg (by omega), if_neg (by omega), if_neg (by omega), if_neg (by omega)]
  · rw [i3 _ (by omega), i3 _ (by omega), i3 _ (by omega), i3 _ (by omega), i3 _ (by omega)]
    simp only [upd_case]
    refine ⟨?_, ?_, ?_, ?_, ?_⟩
    · rw [if_neg (by omega), if_neg (by omega), if_neg (by omega), if_neg (by omega), if_pos trivial]
    · rw [if_neg (by omega), if_neg (by omega), if_neg (by omega), if_pos trivial]
    · rw [if_neg (by omega), if_neg (by omega), if_pos trivial]
    · rw [if_neg (by omega), if_pos trivial]
    · rw [if_pos trivial]
  · rw [show b + 6 + 4 * q = b + 5 + 4 * q + 1 by omega, show b + 7 + 4 * q = b + 5 + 4 * q + 2 by omega, show b + 8 + 4 * q = b + 5 + 4 * q + 3 by omega]
    exact i5 q (Nat.zero_le _) hq
theorem passAllR {co dr fa st ha pn my bf bs : Int32} {mi mn pa ca pd fr at_ wa en to_ or_ ik : tAr} (kp : tAr) {b : Nat} (hb : b + 37 ≤ 100) : oX4_passAll ((co, mi, mn, pa, ca, dr, fa, st, ha, pd, pn, fr, at_, wa, en, to_, or_, my, bf, bs, kp, ik, nI b, 0) : tMs) ∧ ∃ mi' mn' pa' ca' : tAr, fX4_passAll ((co, mi, mn, pa, ca, dr, fa, st, ha, pd, pn, fr, at_, wa, en, to_, or_, my, bf, bs, kp, ik, nI b, 0) : tMs) = (kp b, mi', mn', pa', ca', kp (b + 1), kp (b + 2), kp (b + 3), kp (b + 4), pd, pn, fr, at_, wa, en, to_, or_, my, bf, bs, kp, ik, nI (b + 37), 0) ∧
    ∀ q, q < 8 → mi' q = kp (b + 5 + 4 * q) ∧ mn' q = kp (b + 6 + 4 * q) ∧ pa' q = kp (b + 7 + 4 * q) ∧ ca' q = kp (b + 8 + 4 * q) := by
  have e0 := fun (co dr fa st ha : Int32) (mi mn pa ca kp : tAr) (v : Int32) => passR (co := co) (dr := dr) (fa := fa) (st := st) (ha := ha) (pn := pn) (my := my) (bf := bf) (bs := bs) (mi := mi) (mn := mn) (pa := pa) (ca := ca) (pd := pd) (fr := fr) (at_ := at_) (wa := wa) (en := en) (to_ := to_) (or_ := or_) (ik := ik) kp v (show b < 100 by omega)
  have e1 := fun (co dr fa st ha : Int32) (mi mn pa ca kp : tAr) (v : Int32) => passR (co := co) (dr := dr) (fa := fa) (st := st) (ha := ha) (pn := pn) (my := my) (bf := bf) (bs := bs) (mi := mi) (mn := mn) (pa := pa) (ca := ca) (pd := pd) (fr := fr) (at_ := at_) (wa := wa) (en := en) (to_ := to_) (or_ := or_) (ik := ik) kp v (show b + 1 < 100 by omega)
  have e2 := fun (co dr fa st ha : Int32) (mi mn pa ca kp : tAr) (v : Int32) => passR (co := co) (dr := dr) (fa := fa) (st := st) (ha := ha) (pn := pn) (my := my) (bf := bf) (bs := bs) (mi := mi) (mn := mn) (pa := pa) (ca := ca) (pd := pd) (fr := fr) (at_ := at_) (wa := wa) (en := en) (to_ := to_) (or_ := or_) (ik := ik) kp v (show b + 1 + 1 < 100 by omega)
  have e3 := fun (co dr fa st ha : Int32) (mi mn pa ca kp : tAr) (v : Int32) => passR (co := co) (dr := dr) (fa := fa) (st := st) (ha := ha) (pn := pn) (my := my) (bf := bf) (bs := bs) (mi := mi) (mn := mn) (pa := pa) (ca := ca) (pd := pd) (fr := fr) (at_ := at_) (wa := wa) (en := en) (to_ := to_) (or_ := or_) (ik := ik) kp v (show b + 1 + 1 + 1 < 100 by omega)
  have e4 := fun (co dr fa st ha : Int32) (mi mn pa ca kp : tAr) (v : Int32) => passR (co := co) (dr := dr) (fa := fa) (st := st) (ha := ha) (pn := pn) (my := my) (bf := bf) (bs := bs) (mi := mi) (mn := mn) (pa := pa) (ca := ca) (pd := pd) (fr := fr) (at_ := at_) (wa := wa) (en := en) (to_ := to_) (or_ := or_) (ik := ik) kp v (show b + 1 + 1 + 1 + 1 < 100 by omega)
  obtain ⟨i1, mi', mn', pa', ca', i2, -, i4⟩ := R62 (co := kp b) (dr := kp (b + 1)) (fa := kp (b + 2)) (st := kp (b + 3)) (ha := kp (b + 4)) (pn := pn) (my := my) (bf := bf) (bs := bs) (kp := kp) (pd := pd) (fr := fr) (at_ := at_) (wa := wa) (en := en) (to_ := to_) (or_ := or_) (ik := ik) (b := b + 5) (by omega) 9 0 mi mn pa ca (by omega) (by omega)
  rw [nI_0] at i1 i2
  refine ⟨?_, mi', mn', pa', ca', ?_, fun q hq => ?_⟩
  · rw [oX4_passAll]
    simp only [lo_e, m_co, m_mi, m_mn, m_pa, m_ca, m_dr, m_fa, m_st, m_ha, m_pd, m_pn, m_fr, m_at, m_wa, m_en, m_to, m_or, m_my, m_bf, m_bs, m_kp, m_ik, m_ka, m_iw, (e0 _ _ _ _ _ _ _ _ _ _ _).1, (e1 _ _ _ _ _ _ _ _ _ _ _).1, (e2 _ _ _ _ _ _ _ _ _ _ _).1, (e3 _ _ _ _ _ _ _ _ _ _ _).1, (e4 _ _ _ _ _ _ _ _ _ _ _).1]
    exact ⟨(e0 _ _ _ _ _ _ _ _ _ _ _).2, (e1 _ _ _ _ _ _ _ _ _ _ _).2, (e2 _ _ _ _ _ _ _ _ _ _ _).2, (e3 _ _ _ _ _ _ _ _ _ _ _).2, (e4 _ _ _ _ _ _ _ _ _ _ _).2, i1⟩
  · rw [fX4_passAll]
    simp only [lt_e, m_co, m_mi, m_mn, m_pa, m_ca, m_dr, m_fa, m_st, m_ha, m_pd, m_pn, m_fr, m_at, m_wa, m_en, m_to, m_or, m_my, m_bf, m_bs, m_kp, m_ik, m_ka, m_iw, (e0 _ _ _ _ _ _ _ _ _ _ _).1, (e1 _ _ _ _ _ _ _ _ _ _ _).1, (e2 _ _ _ _ _ _ _ _ _ _ _).1, (e3 _ _ _ _ _ _ _ _ _ _ _).1, (e4 _ _ _ _ _ _ _ _ _ _ _).1]
    exact i2
  · rw [show b + 6 + 4 * q = b + 5 + 4 * q + 1 by omega, show b + 7 + 4 * q = b + 5 + 4 * q + 2 by omega, show b + 8 + 4 * q = b + 5 + 4 * q + 3 by omega]
    exact i4 q (Nat.zero_le _) hq

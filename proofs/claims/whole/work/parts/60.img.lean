/-! images -/
theorem upd_self (f : Nat → Int32) (k : Nat) : upd f k (f k) = f := funext fun j => by
  rw [upd_case]
  split
  · rename_i h; rw [h]
  · rfl
theorem v100 {j : Nat} (h : j < 100) : vp_in (nI j) 100 := vp_in_nI h (by decide)
theorem passW {co dr fa st ha pn my bf bs : Int32} {mi mn pa ca pd fr at_ wa en to_ or_ ik : tAr} (kp : tAr) (v : Int32) {j : Nat} (hj : j < 100) : fX4_pass ((co, mi, mn, pa, ca, dr, fa, st, ha, pd, pn, fr, at_, wa, en, to_, or_, my, bf, bs, kp, ik, nI j, 1) : tMs) v = (v, (co, mi, mn, pa, ca, dr, fa, st, ha, pd, pn, fr, at_, wa, en, to_, or_, my, bf, bs, upd kp j v, ik, nI (j + 1), 1)) ∧ oX4_pass ((co, mi, mn, pa, ca, dr, fa, st, ha, pd, pn, fr, at_, wa, en, to_, or_, my, bf, bs, kp, ik, nI j, 1) : tMs) v := by
  have g : ¬ (1 : Int32) = 0 := by decide
  unfold fX4_pass oX4_pass
  simp only [lt_e, m_co, m_mi, m_mn, m_pa, m_ca, m_dr, m_fa, m_st, m_ha, m_pd, m_pn, m_fr, m_at, m_wa, m_en, m_to, m_or, m_my, m_bf, m_bs, m_kp, m_ik, m_ka, m_iw, if_neg g, cl_n (show j < 256 by omega), nI_1]
  exact ⟨by first | rfl | trivial, v100 hj, trivial⟩
theorem passR {co dr fa st ha pn my bf bs : Int32} {mi mn pa ca pd fr at_ wa en to_ or_ ik : tAr} (kp : tAr) (v : Int32) {j : Nat} (hj : j < 100) : fX4_pass ((co, mi, mn, pa, ca, dr, fa, st, ha, pd, pn, fr, at_, wa, en, to_, or_, my, bf, bs, kp, ik, nI j, 0) : tMs) v = (kp j, (co, mi, mn, pa, ca, dr, fa, st, ha, pd, pn, fr, at_, wa, en, to_, or_, my, bf, bs, kp, ik, nI (j + 1), 0)) ∧ oX4_pass ((co, mi, mn, pa, ca, dr, fa, st, ha, pd, pn, fr, at_, wa, en, to_, or_, my, bf, bs, kp, ik, nI j, 0) : tMs) v := by
  unfold fX4_pass oX4_pass
  simp only [lt_e, m_co, m_mi, m_mn, m_pa, m_ca, m_dr, m_fa, m_st, m_ha, m_pd, m_pn, m_fr, m_at, m_wa, m_en, m_to, m_or, m_my, m_bf, m_bs, m_kp, m_ik, m_ka, m_iw, if_true, cl_n (show j < 256 by omega), nI_1, upd_self]
  exact ⟨by first | rfl | trivial, v100 hj, trivial⟩
theorem st62W {co dr fa st ha pn my bf bs : Int32} {mi mn pa ca pd fr at_ wa en to_ or_ ik : tAr} (kp : tAr) {j p : Nat} (hj : j + 4 ≤ 100) (hp : p < 8) (n : Nat) : fX4_passAll_62 (n + 1) ((co, mi, mn, pa, ca, dr, fa, st, ha, pd, pn, fr, at_, wa, en, to_, or_, my, bf, bs, kp, ik, nI j, 1) : tMs) (nI p) = fX4_passAll_62 n (co, mi, mn, pa, ca, dr, fa, st, ha, pd, pn, fr, at_, wa, en, to_, or_, my, bf, bs, upd (upd (upd (upd kp j (mi p)) (j + 1) (mn p)) (j + 2) (pa p)) (j + 3) (ca p), ik, nI (j + 4), 1) (nI (p + 1)) ∧ (oX4_passAll_62 n ((co, mi, mn, pa, ca, dr, fa, st, ha, pd, pn, fr, at_, wa, en, to_, or_, my, bf, bs, upd (upd (upd (upd kp j (mi p)) (j + 1) (mn p)) (j + 2) (pa p)) (j + 3) (ca p), ik, nI (j + 4), 1) : tMs) (nI (p + 1)) → oX4_passAll_62 (n + 1) ((co, mi, mn, pa, ca, dr, fa, st, ha, pd, pn, fr, at_, wa, en, to_, or_, my, bf, bs, kp, ik, nI j, 1) : tMs) (nI p)) := by
  have g : ¬ (8 : Int32) ≤ nI p := fun h => absurd ((ge8 (by omega)).mp h) (by omega)
  have e0 := fun (mi mn pa ca kp : tAr) (v : Int32) => passW (co := co) (dr := dr) (fa := fa) (st := st) (ha := ha) (pn := pn) (my := my) (bf := bf) (bs := bs) (mi := mi) (mn := mn) (pa := pa) (ca := ca) (pd := pd) (fr := fr) (at_ := at_) (wa := wa) (en := en) (to_ := to_) (or_ := or_) (ik := ik) kp v (show j < 100 by omega)
  have e1 := fun (mi mn pa ca kp : tAr) (v : Int32) => passW (co := co) (dr := dr) (fa := fa) (st := st) (ha := ha) (pn := pn) (my := my) (bf := bf) (bs := bs) (mi := mi) (mn := mn) (pa := pa) (ca := ca) (pd := pd) (fr := fr) (at_ := at_) (wa := wa) (en := en) (to_ := to_) (or_ := or_) (ik := ik) kp v (show j + 1 < 100 by omega)
  have e2 := fun (mi mn pa ca kp : tAr) (v : Int32) => passW (co := co) (dr := dr) (fa := fa) (st := st) (ha := ha) (pn := pn) (my := my) (bf := bf) (bs := bs) (mi := mi) (mn := mn) (pa := pa) (ca := ca) (pd := pd) (fr := fr) (at_ := at_) (wa := wa) (en := en) (to_ := to_) (or_ := or_) (ik := ik) kp v (show j + 1 + 1 < 100 by omega)
  have e3 := fun (mi mn pa ca kp : tAr) (v : Int32) => passW (co := co) (dr := dr) (fa := fa) (st := st) (ha := ha) (pn := pn) (my := my) (bf := bf) (bs := bs) (mi := mi) (mn := mn) (pa := pa) (ca := ca) (pd := pd) (fr := fr) (at_ := at_) (wa := wa) (en := en) (to_ := to_) (or_ := or_) (ik := ik) kp v (show j + 1 + 1 + 1 < 100 by omega)
  constructor
  · rw [fX4_passAll_62, if_neg g]
    simp only [lt_e, c8 hp, m_co, m_mi, m_mn, m_pa, m_ca, m_dr, m_fa, m_st, m_ha, m_pd, m_pn, m_fr, m_at, m_wa, m_en, m_to, m_or, m_my, m_bf, m_bs, m_kp, m_ik, m_ka, m_iw, (e0 _ _ _ _ _ _).1, (e1 _ _ _ _ _ _).1, (e2 _ _ _ _ _ _).1, (e3 _ _ _ _ _ _).1, nI_1, upd_self]
  · intro ho
    rw [oX4_passAll_62, if_neg g]
    simp only [lo_e, c8 hp, m_co, m_mi, m_mn, m_pa, m_ca, m_dr, m_fa, m_st, m_ha, m_pd, m_pn, m_fr, m_at, m_wa, m_en, m_to, m_or, m_my, m_bf, m_bs, m_kp, m_ik, m_ka, m_iw, (e0 _ _ _ _ _ _).1, (e1 _ _ _ _ _ _).1, (e2 _ _ _ _ _ _).1, (e3 _ _ _ _ _ _).1, nI_1, upd_self]
    exact ⟨vin8 hp, (e0 _ _ _ _ _ _).2, (e1 _ _ _ _ _ _).2, (e2 _ _ _ _ _ _).2, (e3 _ _ _ _ _ _).2, ho⟩
theorem st62R {co dr fa st ha pn my bf bs : Int32} {mi mn pa ca pd fr at_ wa en to_ or_ ik : tAr} (kp : tAr) {j p : Nat} (hj : j + 4 ≤ 100) (hp : p < 8) (n : Nat) : fX4_passAll_62 (n + 1) ((co, mi, mn, pa, ca, dr, fa, st, ha, pd, pn, fr, at_, wa, en, to_, or_, my, bf, bs, kp, ik, nI j, 0) : tMs) (nI p) = fX4_passAll_62 n (co, upd mi p (kp j), upd mn p (kp (j + 1)), upd pa p (kp (j + 2)), upd ca p (kp (j + 3)), dr, fa, st, ha, pd, pn, fr, at_, wa, en, to_, or_, my, bf, bs, kp, ik, nI (j + 4), 0) (nI (p + 1)) ∧ (oX4_passAll_62 n ((co, upd mi p (kp j), upd mn p (kp (j + 1)), upd pa p (kp (j + 2)), upd ca p (kp (j + 3)), dr, fa, st, ha, pd, pn, fr, at_, wa, en, to_, or_, my, bf, bs, kp, ik, nI (j + 4), 0) : tMs) (nI (p + 1)) → oX4_passAll_62 (n + 1) ((co, mi, mn, pa, ca, dr, fa, st, ha, pd, pn, fr, at_, wa, en, to_, or_, my, bf, bs, kp, ik, nI j, 0) : tMs) (nI p)) := by
  have g : ¬ (8 : Int32) ≤ nI p := fun h => absurd ((ge8 (by omega)).mp h) (by omega)
  have e0 := fun (mi mn pa ca kp : tAr) (v : Int32) => passR (co := co) (dr := dr) (fa := fa) (st := st) (ha := ha) (pn := pn) (my := my) (bf := bf) (bs := bs) (mi := mi) (mn := mn) (pa := pa) (ca := ca) (pd := pd) (fr := fr) (at_ := at_) (wa := wa) (en := en) (to_ := to_) (or_ := or_) (ik := ik) kp v (show j < 100 by omega)
  have e1 := fun (mi mn pa ca kp : tAr) (v : Int32) => passR (co := co) (dr := dr) (fa := fa) (st := st) (ha := ha) (pn := pn) (my := my) (bf := bf) (bs := bs) (mi := mi) (mn := mn) (pa := pa) (ca := ca) (pd := pd) (fr := fr) (at_ := at_) (wa := wa) (en := en) (to_ := to_) (or_ := or_) (ik := ik) kp v (show j + 1 < 100 by omega)
  have e2 := fun (mi mn pa ca kp : tAr) (v : Int32) => passR (co := co) (dr := dr) (fa := fa) (st := st) (ha := ha) (pn := pn) (my := my) (bf := bf) (bs := bs) (mi := mi) (mn := mn) (pa := pa) (ca := ca) (pd := pd) (fr := fr) (at_ := at_) (wa := wa) (en := en) (to_ := to_) (or_ := or_) (ik := ik) kp v (show j + 1 + 1 < 100 by omega)
  have e3 := fun (mi mn pa ca kp : tAr) (v : Int32) => passR (co := co) (dr := dr) (fa := fa) (st := st) (ha := ha) (pn := pn) (my := my) (bf := bf) (bs := bs) (mi := mi) (mn := mn) (pa := pa) (ca := ca) (pd := pd) (fr := fr) (at_ := at_) (wa := wa) (en := en) (to_ := to_) (or_ := or_) (ik := ik) kp v (show j + 1 + 1 + 1 < 100 by omega)
  constructor
  · rw [fX4_passAll_62, if_neg g]
    simp only [lt_e, c8 hp, m_co, m_mi, m_mn, m_pa, m_ca, m_dr, m_fa, m_st, m_ha, m_pd, m_pn, m_fr, m_at, m_wa, m_en, m_to, m_or, m_my, m_bf, m_bs, m_kp, m_ik, m_ka, m_iw, (e0 _ _ _ _ _ _).1, (e1 _ _ _ _ _ _).1, (e2 _ _ _ _ _ _).1, (e3 _ _ _ _ _ _).1, nI_1]
  · intro ho
    rw [oX4_passAll_62, if_neg g]
    simp only [lo_e, c8 hp, m_co, m_mi, m_mn, m_pa, m_ca, m_dr, m_fa, m_st, m_ha, m_pd, m_pn, m_fr, m_at, m_wa, m_en, m_to, m_or, m_my, m_bf, m_bs, m_kp, m_ik, m_ka, m_iw, (e0 _ _ _ _ _ _).1, (e1 _ _ _ _ _ _).1, (e2 _ _ _ _ _ _).1, (e3 _ _ _ _ _ _).1, nI_1]
    exact ⟨vin8 hp, (e0 _ _ _ _ _ _).2, (e1 _ _ _ _ _ _).2, (e2 _ _ _ _ _ _).2, (e3 _ _ _ _ _ _).2, ho⟩

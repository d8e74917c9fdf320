/-! lied, could: both sides answer alike -/
def bsV (vN : tVl) (P : Nat) (m : Int32) : tVl := (upd (v_mi vN) P m, v_mn vN, v_pa vN, v_ca vN, v_se vN, v_cm vN)
def br (vN : tVl) (pd : tPd) (k P i : Nat) : Bool := mt pd 0 (trV (bsV vN P (nI i)) k)
/-- a trial that differs from now in one person's miles at most -/
def V2 (vT vN : tVl) (P : Nat) : Prop := v_cm vT = v_cm vN ∧ (∀ i, i < 4 → v_se vT i = v_se vN i) ∧ ∀ q, q < 8 → v_pa vT q = v_pa vN q ∧ v_ca vT q = v_ca vN q ∧ v_mn vT q = v_mn vN q ∧ (q ≠ P → v_mi vT q = v_mi vN q)
theorem VE.v2 {r u : tVl} (h : VE r u) (P : Nat) : V2 r u P := ⟨h.1, h.2.1, fun q hq => ⟨(h.2.2 q hq).2.2.1, (h.2.2 q hq).2.2.2, (h.2.2 q hq).2.1, fun _ => (h.2.2 q hq).1⟩⟩
theorem V2.set {vT vN : tVl} {P : Nat} (h : V2 vT vN P) (m : Int32) : V2 (bsV vT P m) vN P :=
  ⟨h.1, h.2.1, fun q hq => ⟨(h.2.2 q hq).1, (h.2.2 q hq).2.1, (h.2.2 q hq).2.2.1, fun hn => by rw [← (h.2.2 q hq).2.2.2 hn]; exact pk_un hn⟩⟩
theorem V2.tr {vT vN : tVl} {P : Nat} (h : V2 vT vN P) (m : Int32) {k : Nat} (hk : k < 256) : trV (bsV vT P m) k = trV (bsV vN P m) k := by
  refine trc_congr 8 k 0 hk (fun q hq _ => ?_)
  obtain ⟨a1, a2, a3, a4⟩ := h.2.2 q hq
  have f1 : v_mi (bsV vT P m) q = v_mi (bsV vN P m) q := by
    by_cases hqP : q = P
    · subst hqP
      show upd _ _ _ _ = upd _ _ _ _
      rw [pk_us, pk_us]
    · show upd _ _ _ _ = upd _ _ _ _
      rw [pk_un hqP, pk_un hqP]; exact a4 hqP
  have f2 : v_mn (bsV vT P m) q = v_mn (bsV vN P m) q := a3
  have f3 : v_ca (bsV vT P m) q = v_ca (bsV vN P m) q := a2
  have f4 : ∀ i, i < 4 → v_se (bsV vT P m) i = v_se (bsV vN P m) i := h.2.1
  have f5 : v_pa (bsV vT P m) q = v_pa (bsV vN P m) q := a1
  refine ⟨f2, fun z => ?_, ?_⟩
  · unfold clV fX1_claimAt
    simp only [z1, z2, z3, c8 hq, f1, f2, f3, f4 1 (by decide), f4 2 (by decide), f4 3 (by decide)]
  · unfold dtV fX1_timeToDraw
    simp only [z0, c8 hq, f5, f4 0 (by decide)]
def mt2 (sg : Nat → Int32) : Nat → List (Nat × Int32) → Bool
  | _, [] => true
  | i, q :: L => decide (sg i - 65 = nI q.1) && mt2 sg (i + 1) L
theorem pAt_iff {pd : tPd} {c i p : Nat} (hc : p_ct pd = nI c) (hc2 : c ≤ 40) (hi : i < c) (hp : p < 8) : fX0_personAt pd (nI i) = nI p ↔ p_sg pd i - 65 = nI p := by
  rw [pAt_eq hc hc2 hi]
  have m8 : (8 : Int32).toInt = 8 := by decide
  have m0 : (0 : Int32).toInt = 0 := by decide
  have mp : (nI p).toInt = (p : Int) := nI_toInt (by omega)
  by_cases c1 : p_sg pd i - 65 < 0
  · rw [if_pos c1]
    rw [i_lt] at c1
    constructor
    · intro z; exact absurd z.symm (n6 hp)
    · intro z; rw [z] at c1; omega
  · rw [if_neg c1]
    by_cases c2 : 8 ≤ p_sg pd i - 65
    · rw [if_pos c2]
      rw [i_le] at c2
      constructor
      · intro z; exact absurd z.symm (n6 hp)
      · intro z; rw [z] at c2; omega
    · rw [if_neg c2]
theorem mt_mt2 {pd : tPd} {sg : Nat → Int32} {c : Nat} (hc : p_ct pd = nI c) (hc2 : c ≤ 40) (hsg : ∀ i, i < 40 → p_sg pd i = sg i) : ∀ (L : List (Nat × Int32)) (i : Nat), i + L.length ≤ c → (∀ q ∈ L, q.1 < 8) → mt pd i L = mt2 sg i L
  | [], i, _, _ => rfl
  | q :: L, i, h, hq => by
    rw [List.length_cons] at h
    rw [mt, mt2, mt_mt2 hc hc2 hsg L (i + 1) (by omega) (fun r hr => hq r (List.mem_cons_of_mem _ hr))]
    congr 1
    exact decide_eq_decide.mpr (by rw [pAt_iff hc hc2 (by omega) (hq q List.mem_cons_self), hsg i (by omega)])
theorem isRow_4 {y : tMs} {L : List (Nat × Int32)} (hmy : m_my y = nI L.length) (hl : L.length ≤ 8) (hor : ∀ i p, (L.map Prod.fst)[i]? = some p → m_or y i = nI p) : ∀ (n i : Nat), i ≤ L.length → L.length < i + n →
    (fX4_isRow_4 y n 0 (nI i) = 0 ∧ oX4_isRow_4 y n 0 (nI i)) ∧ (fX4_isRow_4 y n 1 (nI i) = (if mt2 (m_pd y) i (L.drop i) = true then 1 else 0) ∧ oX4_isRow_4 y n 1 (nI i))
  | 0, i, h1, h2 => by omega
  | n + 1, i, h1, h2 => by
    by_cases hi : i = L.length
    · have g : m_my y ≤ nI i := by rw [hmy, hi, i_le]; exact Int.le_refl _
      have d0 : L.drop i = [] := by rw [hi, List.drop_length]
      simp only [fX4_isRow_4, oX4_isRow_4, if_pos g, d0, mt2, if_true]
      exact ⟨⟨trivial, rfl, trivial⟩, trivial, rfl, trivial⟩
    · have hil : i < L.length := by omega
      have g : ¬ m_my y ≤ nI i := by rw [hmy]; exact nI_ge hil (by omega)
      have hi8 : i < 8 := by omega
      obtain ⟨⟨a1, a2⟩, a3, a4⟩ := isRow_4 hmy hl hor n (i + 1) (by omega) (by omega)
      have hq := hor i (L[i]).1 (by rw [List.getElem?_map, List.getElem?_eq_getElem hil]; rfl)
      have v40 : vp_in (nI i) 40 := vp_in_nI (by omega) (by decide)
      rw [List.drop_eq_getElem_cons hil, mt2]
      simp only [fX4_isRow_4, oX4_isRow_4, lt_e, lo_e, if_neg g, if_true, if_neg i10, c8 hi8, hq, nI_1]
      refine ⟨⟨a1, a2⟩, ?_⟩
      by_cases c1 : m_pd y i - 65 = nI (L[i]).1
      · simp only [if_pos c1.symm, decide_eq_true c1, Bool.true_and]
        exact ⟨a3, vin8 hi8, v40, a4⟩
      · have c1' : ¬ nI (L[i]).1 = m_pd y i - 65 := fun z => c1 z.symm
        simp only [if_neg c1', decide_eq_false c1, Bool.false_and]
        exact ⟨by rw [a1]; rfl, vin8 hi8, v40, a2⟩
theorem isRowBy_c {P : Nat} (y : tMs) (m : Int32) (hP : P < 8) : fX4_isRowBy y (nI P) m = (fX4_isRow (fX4_go (mA (fX4_layNow y) (upd (m_fr (fX4_layNow y)) P m) (m_at (fX4_layNow y)) (m_bf (fX4_layNow y)) (m_bs (fX4_layNow y))) (m_co (fX4_layNow y)) 99), fX4_go (mA (fX4_layNow y) (upd (m_fr (fX4_layNow y)) P m) (m_at (fX4_layNow y)) (m_bf (fX4_layNow y)) (m_bs (fX4_layNow y))) (m_co (fX4_layNow y)) 99) := by
  unfold fX4_isRowBy
  simp only [lt_e, c8 hP]
  generalize fX4_layNow y = z
  rfl
theorem isRowBy_o {P : Nat} (y : tMs) (m : Int32) (hP : P < 8) : oX4_isRowBy y (nI P) m = (oX4_layNow y ∧ vp_in (nI P) 8 ∧ oX4_go (mA (fX4_layNow y) (upd (m_fr (fX4_layNow y)) P m) (m_at (fX4_layNow y)) (m_bf (fX4_layNow y)) (m_bs (fX4_layNow y))) (m_co (fX4_layNow y)) 99 ∧ (oX4_isRow (fX4_go (mA (fX4_layNow y) (upd (m_fr (fX4_layNow y)) P m) (m_at (fX4_layNow y)) (m_bf (fX4_layNow y)) (m_bs (fX4_layNow y))) (m_co (fX4_layNow y)) 99) ∧ (narrow .boolean (.int (fX4_isRow (fX4_go (mA (fX4_layNow y) (upd (m_fr (fX4_layNow y)) P m) (m_at (fX4_layNow y)) (m_bf (fX4_layNow y)) (m_bs (fX4_layNow y))) (m_co (fX4_layNow y)) 99))) = .int (fX4_isRow (fX4_go (mA (fX4_layNow y) (upd (m_fr (fX4_layNow y)) P m) (m_at (fX4_layNow y)) (m_bf (fX4_layNow y)) (m_bs (fX4_layNow y))) (m_co (fX4_layNow y)) 99)) ∧ True))) := by
  unfold oX4_isRowBy
  simp only [lo_e, c8 hP]
  generalize fX4_layNow y = z
  rfl
/-- whether miles bring the row about, on the reference's side -/
theorem bringZ {vN : tVl} {pd : tPd} {z : tMs} {k P i : Nat} (w : tWl) (hS : Sc vN z) (hRP : RP pd (m_pn z) (m_pd z)) (hk : k < 256) (hct : p_ct pd = nI (pop k)) {Y : tMs} (hY : Y = fX4_go (mA z (upd (m_fr z) P (nI i)) (m_at z) (m_bf z) (m_bs z)) (nI k) 99) :
    oX4_go (mA z (upd (m_fr z) P (nI i)) (m_at z) (m_bf z) (m_bs z)) (nI k) 99 ∧ SB z Y ∧ fX4_isRow Y = (if br vN pd k P i = true then 1 else 0) ∧ oX4_isRow Y := by
  have hS2 : Sc (bsV vN P (nI i)) (mA z (upd (m_fr z) P (nI i)) (m_at z) (m_bf z) (m_bs z)) := by
    obtain ⟨s1, s2, s3⟩ := hS
    refine ⟨s1, s2, fun q hq => ?_⟩
    obtain ⟨⟨t1, t2, t3, t4⟩, t5⟩ := s3 q hq
    refine ⟨⟨?_, t2, t3, t4⟩, t5⟩
    show upd (v_mi vN) P (nI i) q = upd (m_fr z) P (nI i) q
    simp only [upd_case]
    rw [t1]
  obtain ⟨-, r2, r3, -, r5, r6, -, -, -, -, -, ⟨wa, en, to_, or_, r12⟩, -⟩ := runs w hk hS2
  have hp8 := pop_le k hk
  rw [← hY] at r5 r12
  have r6' : ∀ j p, ((trV (bsV vN P (nI i)) k).map Prod.fst)[j]? = some p → m_or Y j = nI p := fun j p h => by rw [hY]; exact (r6 j p h).2
  have hpd : m_pd Y = m_pd z := by rw [r12]; rfl
  have hsb : SB z Y := (SB.A z _ _ _ _).tr (by rw [r12]; exact SB.O _ _ _ _ _ _)
  clear r6 r12 hY hS2
  have hin8 : ∀ q ∈ trV (bsV vN P (nI i)) k, q.1 < 8 := fun q hq => (trc_in 8 k 0 hk q hq).1
  unfold br
  generalize trV (bsV vN P (nI i)) k = L at *
  obtain ⟨-, e1, e2⟩ := isRow_4 (y := Y) (L := L) (by rw [r3]; exact r5) (by omega) r6' 9 0 (Nat.zero_le _) (by omega)
  obtain ⟨c, hc2, hcc, -, hsg⟩ := hRP
  have hcp : c = pop k := (nI_eq (by omega) (by omega)).mp (hcc.symm.trans hct)
  rw [List.drop_zero, hpd, ← mt_mt2 hcc hc2 hsg L 0 (by omega) hin8, nI_0] at e1
  rw [nI_0] at e2
  exact ⟨r2, hsb, e1, e2⟩
theorem bringM {vN : tVl} {pd : tPd} {y : tMs} {k P i : Nat} (w : tWl) (hX : RX vN y) (hRP : RP pd (m_pn y) (m_pd y)) (hco : m_co y = nI k) (hk : k < 256) (hP : P < 8) (hct : p_ct pd = nI (pop k)) :
    ∃ Y, SB y Y ∧ fX4_isRowBy y (nI P) (nI i) = ((if br vN pd k P i = true then 1 else 0), Y) ∧ oX4_isRowBy y (nI P) (nI i) := by
  obtain ⟨o1, hS, hB, hc, -, -, -⟩ := scN hX
  rw [isRowBy_c y _ hP, isRowBy_o y _ hP]
  have hyc : m_co (fX4_layNow y) = nI k := hc.trans hco
  obtain ⟨-, -, -, -, -, -, -, b8, b9⟩ := hB.base
  rw [hyc]
  generalize fX4_layNow y = z at *
  obtain ⟨Y, hY⟩ : ∃ Y, Y = fX4_go (mA z (upd (m_fr z) P (nI i)) (m_at z) (m_bf z) (m_bs z)) (nI k) 99 := ⟨_, rfl⟩
  obtain ⟨r2, hsb, e1, e2⟩ := bringZ w hS (by rw [b8, b9]; exact hRP) hk hct hY
  rw [← hY]
  have e3 : narrow .boolean (.int (fX4_isRow Y)) = .int (fX4_isRow Y) := by
    rw [e1]
    generalize br vN pd k P i = bb
    cases bb <;> rfl
  exact ⟨Y, hB.tr hsb, by rw [e1], o1, vin8 hP, r2, e2, e3, trivial⟩
/-- and on the class's -/
theorem bringC {vN vT : tVl} {pd : tPd} (h6 : ok6 vN) (w : tWl) {k P i : Nat} (hk : k < 256) (hV : V2 vT vN P) (hcm : v_cm vN = nI k) (hct : p_ct pd = nI (pop k)) :
    (fX2_keepsTo (bsV vT P (nI i)) w pd).1 = (if br vN pd k P i = true then 1 else 0) ∧ oX2_keepsTo (bsV vT P (nI i)) w pd := by
  have h := keeps_eq (bsV vT P (nI i)) (fun q hq => by show ¬ v_mn vT q = -6; rw [(hV.2.2 q hq).2.2.1]; exact h6 q hq) w pd hk (hV.1.trans hcm) hct
  rw [hV.tr (nI i) hk] at h
  exact h
/-! first and last -/
def up (b : Nat → Bool) : Nat → Nat → Int32
  | 0, _ => -6
  | n + 1, i => if b i = true then nI i else up b n (i + 1)
def dn2 (b : Nat → Bool) (lo : Nat) : Nat → Int32 → Int32
  | 0, s => s
  | n + 1, s => if b (lo + n) = true then nI (lo + n) else dn2 b lo n s
theorem dn2_s (b : Nat → Bool) (i : Nat) (s : Int32) : ∀ n, dn2 b i (n + 1) s = dn2 b (i + 1) n (if b i = true then nI i else s)
  | 0 => rfl
  | n + 1 => by
    rw [dn2, dn2_s b i s n, dn2, show i + (n + 1) = i + 1 + n by omega]
theorem mb_1 {vN : tVl} {pd : tPd} {k P : Nat} (h6 : ok6 vN) (hk : k < 256) (hP : P < 8) (hcm : v_cm vN = nI k) (hct : p_ct pd = nI (pop k)) : ∀ (n i : Nat) (vT : tVl) (w : tWl), i ≤ 100 → 100 < i + n → V2 vT vN P →
    (fX3_milesThatBring_13 pd (nI P) 1 n vT w (nI i)).1 = up (br vN pd k P) (100 - i) i ∧ oX3_milesThatBring_13 pd (nI P) 1 n vT w (nI i)
  | 0, i, vT, w, h1, h2, _ => by omega
  | n + 1, i, vT, w, h1, h2, hV => by
    have g99 := iN (c := 99) (n := 99) (by decide) (show i < 2 ^ 31 by omega)
    by_cases hi : i = 100
    · have c1 : (99 : Int32) < nI i := g99.2.1.mpr (by omega)
      simp only [fX3_milesThatBring_13, oX3_milesThatBring_13, if_pos c1]
      rw [hi]
      exact ⟨rfl, trivial⟩
    · have c1 : ¬ (99 : Int32) < nI i := fun z => by have := g99.2.1.mp z; omega
      obtain ⟨a1, a2⟩ := bringC (vT := vT) h6 w (P := P) (i := i) hk hV hcm hct
      have hset : (upd (v_mi vT) P (nI i), v_mn vT, v_pa vT, v_ca vT, v_se vT, v_cm vT) = bsV vT P (nI i) := rfl
      simp only [fX3_milesThatBring_13, oX3_milesThatBring_13, lt_e, lo_e, if_neg c1, if_neg i10, c8 hP, hset, a1, nI_1]
      rw [show 100 - i = (100 - (i + 1)) + 1 by omega, up]
      obtain ⟨b1, b2⟩ := mb_1 h6 hk hP hcm hct n (i + 1) (bsV vT P (nI i)) (fX2_keepsTo (bsV vT P (nI i)) w pd).2 (by omega) (by omega) (hV.set _)
      by_cases c2 : br vN pd k P i = true
      · simp only [if_pos c2, if_neg i10]
        exact ⟨trivial, vin8 hP, a2, trivial⟩
      · simp only [if_neg c2, if_true]
        exact ⟨b1, vin8 hP, a2, b2⟩
theorem mb_0 {vN : tVl} {pd : tPd} {k P : Nat} (h6 : ok6 vN) (hk : k < 256) (hP : P < 8) (hcm : v_cm vN = nI k) (hct : p_ct pd = nI (pop k)) : ∀ (n i : Nat) (vT : tVl) (w : tWl), i ≤ 100 → 100 < i + n → V2 vT vN P →
    (fX3_milesThatBring_13 pd (nI P) 0 n vT w (nI i)).1 = dn2 (br vN pd k P) 0 (100 - i) (-6) ∧ oX3_milesThatBring_13 pd (nI P) 0 n vT w (nI i)
  | 0, i, vT, w, h1, h2, _ => by omega
  | n + 1, i, vT, w, h1, h2, hV => by
    have g99 := iN (c := 99) (n := 99) (by decide) (show i < 2 ^ 31 by omega)
    by_cases hi : i = 100
    · have c1 : (99 : Int32) < nI i := g99.2.1.mpr (by omega)
      simp only [fX3_milesThatBring_13, oX3_milesThatBring_13, if_pos c1]
      rw [hi]
      exact ⟨rfl, trivial⟩
    · have c1 : ¬ (99 : Int32) < nI i := fun z => by have := g99.2.1.mp z; omega
      have hsub : (99 : Int32) - nI i = nI (99 - i) := by
        rw [show (99 : Int32) = nI 99 from rfl]
        exact pk_sub (by omega)
      obtain ⟨a1, a2⟩ := bringC (vT := vT) h6 w (P := P) (i := 99 - i) hk hV hcm hct
      have hset : (upd (v_mi vT) P (nI (99 - i)), v_mn vT, v_pa vT, v_ca vT, v_se vT, v_cm vT) = bsV vT P (nI (99 - i)) := rfl
      simp only [fX3_milesThatBring_13, oX3_milesThatBring_13, lt_e, lo_e, if_neg c1, if_true, c8 hP, hsub, hset, a1, nI_1]
      rw [show 100 - i = (99 - i) + 1 by omega, dn2, Nat.zero_add]
      obtain ⟨b1, b2⟩ := mb_0 h6 hk hP hcm hct n (i + 1) (bsV vT P (nI (99 - i))) (fX2_keepsTo (bsV vT P (nI (99 - i))) w pd).2 (by omega) (by omega) (hV.set _)
      rw [show 100 - (i + 1) = 99 - i by omega] at b1
      by_cases c2 : br vN pd k P (99 - i) = true
      · simp only [if_pos c2, if_neg i10]
        exact ⟨trivial, vin8 hP, a2, trivial⟩
      · simp only [if_neg c2, if_true]
        exact ⟨b1, vin8 hP, a2, b2⟩
theorem mb_eq {vN : tVl} (h6 : ok6 vN) (vT : tVl) {pd : tPd} (w : tWl) {k P : Nat} (hk : k < 256) (hP : P < 8) (hcm : v_cm vN = nI k) (hct : p_ct pd = nI (pop k)) (hca : ∀ p, p < 8 → v_ca vN p = 0 ∨ v_ca vN p = 1) :
    ((fX3_milesThatBring vN vT w pd (nI P) 1).1 = up (br vN pd k P) 100 0 ∧ oX3_milesThatBring vN vT w pd (nI P) 1) ∧ ((fX3_milesThatBring vN vT w pd (nI P) 0).1 = dn2 (br vN pd k P) 0 100 (-6) ∧ oX3_milesThatBring vN vT w pd (nI P) 0) := by
  obtain ⟨c1, c2⟩ := copy_eq vT vN hca
  obtain ⟨a1, a2⟩ := mb_1 h6 hk hP hcm hct 101 0 (fX1_copy vT vN) w (by omega) (by omega) (c2.v2 P)
  obtain ⟨b1, b2⟩ := mb_0 h6 hk hP hcm hct 101 0 (fX1_copy vT vN) w (by omega) (by omega) (c2.v2 P)
  rw [nI_0] at a1 a2 b1 b2
  refine ⟨⟨?_, c1, ?_⟩, ?_, c1, ?_⟩
  · rw [fX3_milesThatBring, lt_e]; exact a1
  · rw [lo_e]; exact a2
  · rw [fX3_milesThatBring, lt_e]; exact b1
  · rw [lo_e]; exact b2
/-- all told, on both sides -/
theorem told_eq {vN : tVl} {pd : tPd} {x : tMs} {k : Nat} (hk : k < 256) (hco : m_co x = nI k) (hcm : v_cm vN = nI k) (hRP : RP pd (m_pn x) (m_pd x)) :
    oX3_allTold vN pd ∧ oX4_areAllTold x ∧ ((fX3_allTold vN pd = 0 ∧ fX4_areAllTold x = 0) ∨ (fX3_allTold vN pd = 1 ∧ fX4_areAllTold x = 1 ∧ p_ct pd = nI (pop k))) := by
  obtain ⟨f1, f2, f3, f4⟩ := fault_eq hk hco hcm hRP
  unfold oX3_allTold oX4_areAllTold fX3_allTold fX4_areAllTold
  simp only [lt_e, lo_e, hcm, hco, f1, bc_eq k hk, ones_eq k hk]
  rcases f4 with ⟨e, c, hcp, g1, g2⟩ | ⟨j, hj, e⟩
  · have l6 : ¬ (0 : Int32) ≤ -6 := by decide
    simp only [e, if_true, if_neg l6, g1, g2]
    refine ⟨⟨f2, trivial⟩, ⟨f3, ones_ok k hk, trivial⟩, ?_⟩
    by_cases c2 : nI c = nI (pop k)
    · simp only [if_pos c2]
      exact Or.inr ⟨trivial, trivial, c2⟩
    · simp only [if_neg c2]
      exact Or.inl ⟨trivial, trivial⟩
  · have n1 : ¬ nI j = -6 := by
      intro z
      have z2 := congrArg Int32.toInt z
      rw [nI_toInt (by omega)] at z2
      have : (-6 : Int32).toInt = -6 := by decide
      omega
    have n2 : (0 : Int32) ≤ nI j := nI_pos' (by omega)
    simp only [e, if_neg n1, if_pos n2]
    exact ⟨⟨f2, trivial⟩, ⟨f3, trivial⟩, Or.inl ⟨trivial, trivial⟩⟩

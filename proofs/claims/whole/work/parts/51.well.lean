/-! served, waits, all, judge: both sides answer alike -/
section WellS
variable {kp : tAr} {vN vI vJ : tVl} {pd : tPd} {x : tMs}
theorem scN (h : RX vN x) : oX4_layNow x ∧ Sc vN (fX4_layNow x) ∧ SB x (fX4_layNow x) ∧ m_co (fX4_layNow x) = m_co x ∧ (∀ p, p < 8 → m_fr (fX4_layNow x) p = m_mi x p ∧ m_at (fX4_layNow x) p = m_mn x p) ∧ m_bf (fX4_layNow x) = m_fa x ∧ m_bs (fX4_layNow x) = m_st x := by
  obtain ⟨⟨fr, at_, e, hl⟩, o⟩ := lay_eq x
  obtain ⟨hk, hdr, hcm, hse, hp⟩ := h
  rw [e]
  refine ⟨o, ⟨hdr, hse, fun p hp8 => ?_⟩, SB.A x fr at_ _ _, rfl, hl, rfl, rfl⟩
  obtain ⟨⟨a1, a2, a3, a4⟩, b1, b2, b3, b4⟩ := hp p hp8
  obtain ⟨c1, c2⟩ := hl p hp8
  refine ⟨⟨a1.trans c1.symm, a2.trans c2.symm, a3, a4⟩, ?_, b3, b4⟩
  show 0 ≤ (at_ p).toInt ∧ (at_ p).toInt ≤ 2000
  rw [c2]
  omega
theorem goNow_eq (x : tMs) : fX4_goNow x = fX4_go (fX4_layNow x) (m_co (fX4_layNow x)) 99 := rfl
theorem goNow_ok (x : tMs) : oX4_goNow x = (oX4_layNow x ∧ oX4_go (fX4_layNow x) (m_co (fX4_layNow x)) 99 ∧ True) := rfl
theorem st_served (h : Rel kp vN vI vJ pd x) (w : tWl) (s1 : Int32) :
    oX3_served vN w s1 ∧ oX4_served x s1 ∧ (fX3_served vN w s1).1 = (fX4_served x s1).1 ∧ Rel kp vN vI vJ pd (fX4_served x s1).2 := by
  obtain ⟨⟨⟨k, hk, hco⟩, hdr, hcm, hse, hp⟩, hR⟩ := id h
  have hcm' : v_cm vN = nI k := hcm.trans hco
  obtain ⟨o1, hS, hB, hc, -, -, -⟩ := scN h.1
  obtain ⟨r1, r2, r3, r4, r5, r6, r7, -, -, -, -, ⟨wa, en, to_, or_, r12⟩, -⟩ := runs w hk hS
  have hp8 := pop_le k hk
  have hgo : fX4_goNow x = fX4_go (fX4_layNow x) (nI k) 99 := by rw [goNow_eq, hc, hco]
  have hgk : oX4_goNow x := by rw [goNow_ok, hc, hco]; exact ⟨o1, r2, trivial⟩
  have hrel : Rel kp vN vI vJ pd (fX4_go (fX4_layNow x) (nI k) 99) := h.sb (hB.tr (by rw [r12]; exact SB.O _ _ _ _ _ _))
  have hin : fX4_in (Int32.toInt64 s1) 0 (Int32.toInt64 (nI (pop k) - 1)) = fX3_within s1 0 (nI (pop k) - 1) := in_n s1 (by decide) rfl
  unfold oX3_served oX4_served fX3_served fX4_served
  simp only [lt_, lo_, hcm', hgo, r4, r5, hin]
  by_cases c1 : s1 = -1
  · simp only [if_pos c1]
    exact ⟨⟨r1, trivial⟩, ⟨hgk, trivial⟩, trivial, hrel⟩
  · simp only [if_neg c1]
    rcases wi s1 0 (nI (pop k) - 1) with ⟨w1, -⟩ | ⟨w1, a1, b1⟩
    · simp only [w1, if_true]
      exact ⟨⟨r1, trivial⟩, ⟨hgk, trivial⟩, trivial, hrel⟩
    · simp only [w1, if_neg i10]
      have m0 : (0 : Int32).toInt = 0 := by decide
      have m1 : (1 : Int32).toInt = 1 := by decide
      have mp : (nI (pop k)).toInt = (pop k : Int) := nI_toInt (by omega)
      have ms : (nI (pop k) - 1).toInt = (pop k : Int) - 1 := by rw [ib_sub (by omega) (by omega), mp, m1]
      obtain ⟨i, hi, rfl⟩ := as_n (a := s1) (n := 7) (by omega) (by omega) (by decide)
      rw [nI_toInt (by omega)] at b1
      have hlt : i < (trV vN k).length := by omega
      obtain ⟨a, b⟩ := r6 i ((trV vN k)[i]).1 (by rw [List.getElem?_map, List.getElem?_eq_getElem hlt]; rfl)
      rw [c8 (show i < 8 by omega), a, b]
      exact ⟨⟨r1, vin8 (by omega), trivial⟩, ⟨hgk, vin8 (by omega), trivial⟩, rfl, hrel⟩
theorem st_waits (h : Rel kp vN vI vJ pd x) (w : tWl) (s1 s2 : Int32) :
    oX3_waits vN w s1 s2 ∧ oX4_waits x s1 s2 ∧ (fX3_waits vN w s1 s2).1 = (fX4_waits x s1 s2).1 ∧ Rel kp vN vI vJ pd (fX4_waits x s1 s2).2 := by
  obtain ⟨⟨⟨k, hk, hco⟩, hdr, hcm, hse, hp⟩, hR⟩ := id h
  have hcm' : v_cm vN = nI k := hcm.trans hco
  obtain ⟨q1, q2⟩ := cm_cases hk hcm' hco s1
  obtain ⟨o1, hS, hB, hc, -, -, -⟩ := scN h.1
  obtain ⟨r1, r2, r3, r4, r5, r6, r7, -, -, -, -, ⟨wa, en, to_, or_, r12⟩, -⟩ := runs w hk hS
  have hgo : fX4_goNow x = fX4_go (fX4_layNow x) (nI k) 99 := by rw [goNow_eq, hc, hco]
  have hgk : oX4_goNow x := by rw [goNow_ok, hc, hco]; exact ⟨o1, r2, trivial⟩
  have hrel : Rel kp vN vI vJ pd (fX4_go (fX4_layNow x) (nI k) 99) := h.sb (hB.tr (by rw [r12]; exact SB.O _ _ _ _ _ _))
  have hin : fX4_in (Int32.toInt64 s2) 0 1 = fX3_within s2 0 1 := in_n s2 (by decide) (by decide)
  unfold oX3_waits oX4_waits fX3_waits fX4_waits
  simp only [lt_, lo_, hcm', hgo, hin]
  rcases q2 with ⟨a, b⟩ | ⟨p, hp8, rfl, hb, a, b⟩
  · simp only [a, b, if_true]
    exact ⟨trivial, ⟨q1, trivial⟩, trivial, h⟩
  · simp only [a, b, if_neg i10]
    rcases wi s2 0 1 with ⟨w1, -⟩ | ⟨w1, a1, b1⟩
    · simp only [w1, if_true]
      exact ⟨trivial, ⟨q1, trivial⟩, trivial, h⟩
    · obtain ⟨-, t2, t3, t4, t5⟩ := r7 p hp8 hb
      simp only [w1, if_neg i10, c8 hp8, t2, t3, t4, t5]
      have v8 := vin8 hp8
      by_cases c2 : s2 = 0
      · simp only [if_pos c2]
        exact ⟨⟨r1, v8, trivial⟩, ⟨q1, hgk, v8, trivial⟩, trivial, hrel⟩
      · simp only [if_neg c2]
        exact ⟨⟨r1, v8, trivial⟩, ⟨q1, hgk, v8, trivial⟩, trivial, hrel⟩
theorem whose_11 {w : tWl} {y : tMs} {k : Nat} {M : Int32} (hk : k < 256) (hwo : w_wo w = M) (hwc : w_co w = nI k) (hyc : m_co y = nI k) (heq : ∀ p, p < 8 → k.testBit p = true → w_wa w p = m_wa y p) : ∀ (n i : Nat), i ≤ 8 → 8 < i + n →
    fX2_worstOff_2 w n (nI i) = fX4_whose_11 y M n (nI i) ∧ oX2_worstOff_2 w n (nI i) ∧ oX4_whose_11 y M n (nI i)
  | 0, i, h1, h2 => by omega
  | n + 1, i, h1, h2 => by
    by_cases h8 : i = 8
    · subst h8
      have g : (8 : Int32) ≤ nI 8 := by decide
      simp only [fX2_worstOff_2, oX2_worstOff_2, fX4_whose_11, oX4_whose_11, if_pos g]
      exact ⟨trivial, trivial, trivial⟩
    · have hi : i < 8 := by omega
      have g : ¬ (8 : Int32) ≤ nI i := fun h => h8 ((ge8 h1).mp h)
      have ih := whose_11 hk hwo hwc hyc heq n (i + 1) (by omega) (by omega)
      obtain ⟨e, o⟩ := cm_m hk hi hyc
      by_cases hb : k.testBit i = true
      · simp only [fX2_worstOff_2, oX2_worstOff_2, fX4_whose_11, oX4_whose_11, lt_, lo_, if_neg g, hwc, bt_test k hk i hi, e, if_pos hb, if_neg i10, c8 hi, nI_1, heq i hi hb, hwo]
        by_cases hm : m_wa y i = M
        · simp only [if_pos hm]
          exact ⟨trivial, ⟨vin8 hi, trivial⟩, o, vin8 hi, trivial⟩
        · simp only [if_neg hm]
          exact ⟨ih.1, ⟨vin8 hi, ih.2.1⟩, o, vin8 hi, ih.2.2⟩
      · simp only [fX2_worstOff_2, oX2_worstOff_2, fX4_whose_11, oX4_whose_11, lt_, lo_, if_neg g, hwc, bt_test k hk i hi, e, if_neg hb, if_true, c8 hi, nI_1]
        exact ⟨ih.1, ih.2.1, o, ih.2.2⟩
theorem st_all (h : Rel kp vN vI vJ pd x) (w : tWl) (s1 : Int32) :
    oX3_all vN w s1 ∧ oX4_all x s1 ∧ (fX3_all vN w s1).1 = (fX4_all x s1).1 ∧ Rel kp vN vI vJ pd (fX4_all x s1).2 := by
  obtain ⟨⟨⟨k, hk, hco⟩, hdr, hcm, hse, hp⟩, hR⟩ := id h
  have hcm' : v_cm vN = nI k := hcm.trans hco
  obtain ⟨o1, hS, hB, hc, -, -, -⟩ := scN h.1
  obtain ⟨r1, r2, r3, r4, r5, r6, r7, r8, r9, r10, r11, ⟨wa, en, to_, or_, r12⟩, r13⟩ := runs w hk hS
  have hgo : fX4_goNow x = fX4_go (fX4_layNow x) (nI k) 99 := by rw [goNow_eq, hc, hco]
  have hgk : oX4_goNow x := by rw [goNow_ok, hc, hco]; exact ⟨o1, r2, trivial⟩
  have hsb : SB (fX4_layNow x) (fX4_go (fX4_layNow x) (nI k) 99) := by rw [r12]; exact SB.O _ _ _ _ _ _
  have hrel : Rel kp vN vI vJ pd (fX4_go (fX4_layNow x) (nI k) 99) := h.sb (hB.tr hsb)
  have hyc : m_co (fX4_go (fX4_layNow x) (nI k) 99) = nI k := by rw [r12]; exact hc.trans hco
  have hin : fX4_in (Int32.toInt64 s1) 0 3 = fX3_within s1 0 3 := in_n s1 (by decide) (by decide)
  have hp8 := pop_le k hk
  generalize fX4_go (fX4_layNow x) (nI k) 99 = Y at *
  generalize hW : fX2_run vN w (nI k) = Wr at *
  obtain ⟨e1, e2⟩ := worst_eq Y hk
  obtain ⟨e3, e4⟩ := sum_eq Y hk
  unfold oX3_all oX4_all fX3_all fX4_all fX2_worstOff oX2_worstOff fX4_whose oX4_whose
  simp only [lt_, lo_, hcm', hgo, hin, hW, hyc, e1, e3]
  rcases wi s1 0 3 with ⟨w1, -⟩ | ⟨w1, a1, b1⟩
  · simp only [w1, if_true]
    exact ⟨trivial, trivial, trivial, h⟩
  · simp only [w1, if_neg i10]
    by_cases c0 : s1 = 0
    · simp only [if_pos c0]
      exact ⟨⟨r1, trivial⟩, ⟨hgk, e2, trivial⟩, r9, hrel⟩
    · simp only [if_neg c0]
      by_cases c1 : s1 = 1
      · simp only [if_pos c1]
        have hw := whose_11 (M := wsU (m_wa Y) k 8) hk r9 r11 hyc (fun p hp hb => by rw [(r7 p hp hb).2.2.1, (r7 p hp hb).2.2.2.1]) 9 0 (by omega) (by omega)
        rw [nI_0] at hw
        exact ⟨⟨r1, hw.2.1, trivial⟩, ⟨hgk, ⟨e2, hw.2.2⟩, trivial⟩, hw.1, hrel⟩
      · simp only [if_neg c1]
        by_cases c2 : s1 = 2
        · simp only [if_pos c2]
          exact ⟨⟨r1, trivial⟩, ⟨hgk, e4, trivial⟩, r10, hrel⟩
        · simp only [if_neg c2]
          by_cases h0 : k = 0
          · subst h0
            have z : pop 0 = 0 := by decide
            have c3 : m_my Y = 0 := by rw [r5, z]; rfl
            simp only [if_pos c3]
            refine ⟨⟨r1, trivial⟩, ⟨hgk, trivial⟩, ?_, hrel⟩
            rw [r13, show trV vN 0 = [] from trc_0 8]
            rfl
          · have hpos : 0 < pop k := by
              rcases Nat.eq_zero_or_pos (pop k) with h | h
              · exact absurd (pop_0 k hk h) h0
              · exact h
            have c3 : ¬ m_my Y = 0 := by rw [r5]; exact nI_ne0 hpos (by omega)
            have hne : trV vN k ≠ [] := fun hn => by rw [hn] at r3; simp at r3; omega
            have hlast := getL hne
            have hsub : m_my Y - 1 = nI (pop k - 1) := by
              rw [r5, show pop k = (pop k - 1) + 1 by omega, nI_pred]
              rfl
            have hq := trc_in (at_ := atV vN) (cl := clV vN) (dt := dtV vN) 8 k 0 hk ((trV vN k).getLast hne) (List.getLast_mem hne)
            have hor := (r6 (pop k - 1) ((trV vN k).getLast hne).1 (by rw [List.getElem?_map, ← r3, hlast]; rfl)).2
            have hen := (r7 _ hq.1 hq.2).2.2.2.2
            have hnd : ((trV vN k).map Prod.fst).Nodup := trc_nd 8 k 0 hk
            simp only [if_neg c3, hsub, c8 (show pop k - 1 < 8 by omega), hor, c8 hq.1, hen]
            refine ⟨⟨r1, trivial⟩, ⟨hgk, vin8 (by omega), vin8 hq.1, trivial⟩, ?_, hrel⟩
            rw [r13, foldl_last (fun q : Nat × Int32 => q.2 + dtV vN q.1) _ _ hne, bgn_mem hnd (List.getLast_mem hne)]
theorem judge_54 {w : tWl} {y : tMs} {c m : Nat} (s1 : Int32) (hc2 : c ≤ m) (hm : m ≤ 8) (hc : p_ct pd = nI c) (hpn : m_pn y = nI c) (htu : w_tu w = nI m) (hsg : ∀ i, i < 40 → p_sg pd i = m_pd y i) (hor : ∀ i, i < m → ∃ p, p < 8 ∧ w_or w i = nI p ∧ m_or y i = nI p) : ∀ (n n2 i : Nat), i ≤ c → c < i + n → c < i + n2 →
    (fX3_judge_54 w pd s1 n (nI i)).1 = (fX4_judge_29 y s1 n2 (nI i)).1 ∧ (fX4_judge_29 y s1 n2 (nI i)).2 = y ∧ oX3_judge_54 w pd s1 n (nI i) ∧ oX4_judge_29 y s1 n2 (nI i)
  | 0, n2, i, h1, h2, h3 => by omega
  | n + 1, 0, i, h1, h2, h3 => by omega
  | n + 1, n2 + 1, i, h1, h2, h3 => by
    by_cases hic : i = c
    · have g : nI c ≤ nI i := by rw [hic, i_le]; exact Int.le_refl _
      simp only [fX3_judge_54, oX3_judge_54, fX4_judge_29, oX4_judge_29, hc, hpn, if_pos g]
      exact ⟨trivial, trivial, trivial, trivial⟩
    · have hi : i < c := by omega
      have g : ¬ nI c ≤ nI i := nI_ge hi (by omega)
      have g2 : ¬ nI m ≤ nI i := nI_ge (by omega) (by omega)
      obtain ⟨p, hp, q1, q2⟩ := hor i (by omega)
      have ih := judge_54 s1 hc2 hm hc hpn htu hsg hor n n2 (i + 1) (by omega) (by omega) (by omega)
      have v40 : vp_in (nI i) 40 := vp_in_nI (by omega) (by decide)
      have v8 : vp_in (nI i) 8 := vin8 (by omega)
      have hpa : fX0_personAt pd (nI i) = nI p ↔ m_pd y i - 65 = nI p := by
        rw [pAt_eq hc (by omega) hi, hsg i (by omega)]
        have m8 : (8 : Int32).toInt = 8 := by decide
        have m0 : (0 : Int32).toInt = 0 := by decide
        have mp : (nI p).toInt = (p : Int) := nI_toInt (by omega)
        by_cases c1 : m_pd y i - 65 < 0
        · rw [if_pos c1]
          rw [i_lt] at c1
          constructor
          · intro z; exact absurd z.symm (n6 hp)
          · intro z; rw [z] at c1; omega
        · rw [if_neg c1]
          by_cases c2 : 8 ≤ m_pd y i - 65
          · rw [if_pos c2]
            rw [i_le] at c2
            constructor
            · intro z; exact absurd z.symm (n6 hp)
            · intro z; rw [z] at c2; omega
          · rw [if_neg c2]
      simp only [fX3_judge_54, oX3_judge_54, fX4_judge_29, oX4_judge_29, lt_, lo_, hc, hpn, htu, if_neg g, if_neg g2, c8 (show i < 8 by omega), q1, q2, nI_1]
      by_cases hm2 : m_pd y i - 65 = nI p
      · simp only [if_pos hm2, if_pos (hpa.mpr hm2)]
        exact ⟨ih.1, ih.2.1, ⟨pAt_ok (by omega), v8, ih.2.2.1⟩, v40, v8, ih.2.2.2⟩
      · simp only [if_neg hm2, if_neg (fun z => hm2 (hpa.mp z))]
        by_cases c0 : s1 = 0
        · simp only [if_pos c0]
          exact ⟨trivial, trivial, ⟨pAt_ok (by omega), v8, trivial⟩, v40, v8, trivial⟩
        · simp only [if_neg c0]
          exact ⟨trivial, trivial, ⟨pAt_ok (by omega), v8, trivial⟩, v40, v8, trivial⟩
theorem st_judge (h : Rel kp vN vI vJ pd x) (w : tWl) (s1 : Int32) :
    oX3_judge vN w pd s1 ∧ oX4_judge x s1 ∧ (fX3_judge vN w pd s1).1 = (fX4_judge x s1).1 ∧ Rel kp vN vI vJ pd (fX4_judge x s1).2 := by
  obtain ⟨⟨⟨k, hk, hco⟩, hdr, hcm, hse, hp⟩, hRP, hR⟩ := id h
  have hcm' : v_cm vN = nI k := hcm.trans hco
  obtain ⟨o1, hS, hB, hc, -, -, -⟩ := scN h.1
  obtain ⟨r1, r2, r3, r4, r5, r6, r7, r8, r9, r10, r11, ⟨wa, en, to_, or_, r12⟩, r13⟩ := runs w hk hS
  have hgo : fX4_goNow x = fX4_go (fX4_layNow x) (nI k) 99 := by rw [goNow_eq, hc, hco]
  have hgk : oX4_goNow x := by rw [goNow_ok, hc, hco]; exact ⟨o1, r2, trivial⟩
  have hsb : SB (fX4_layNow x) (fX4_go (fX4_layNow x) (nI k) 99) := by rw [r12]; exact SB.O _ _ _ _ _ _
  have hrel : Rel kp vN vI vJ pd (fX4_go (fX4_layNow x) (nI k) 99) := h.sb (hB.tr hsb)
  have hin : fX4_in (Int32.toInt64 s1) 0 1 = fX3_within s1 0 1 := in_n s1 (by decide) (by decide)
  obtain ⟨f1, f2, f3, f4⟩ := fault_eq hk hco hcm' hRP
  have hp8 := pop_le k hk
  generalize fX4_go (fX4_layNow x) (nI k) 99 = Y at *
  generalize hW : fX2_run vN w (nI k) = Wr at *
  unfold oX3_judge oX4_judge fX3_judge fX4_judge
  simp only [lt_, lo_, hcm', hgo, hin, hW, f1]
  rcases wi s1 0 1 with ⟨w1, -⟩ | ⟨w1, a1, b1⟩
  · simp only [w1, if_true]
    exact ⟨trivial, trivial, trivial, h⟩
  · simp only [w1, if_neg i10]
    rcases f4 with ⟨e, c, hcp, g1, g2⟩ | ⟨j, hj, e⟩
    · have l6 : (-6 : Int32) < 0 := by decide
      simp only [e, if_true, if_pos l6]
      obtain ⟨-, ⟨c', hc2', hc', hpn', hsg'⟩, -⟩ := id hrel
      have hcc : c' = c := (nI_eq (by omega) (by omega)).mp (hc'.symm.trans g1)
      subst hcc
      have hj := judge_54 (pd := pd) (w := Wr) (y := Y) s1 hcp hp8 hc' hpn' r4 hsg' (fun i hi => by
        have hlt : i < (trV vN k).length := by omega
        have hq := trc_in (at_ := atV vN) (cl := clV vN) (dt := dtV vN) 8 k 0 hk (trV vN k)[i] (List.getElem_mem hlt)
        exact ⟨((trV vN k)[i]).1, hq.1, r6 i _ (by rw [List.getElem?_map, List.getElem?_eq_getElem hlt]; rfl)⟩) 9 41 0 (Nat.zero_le _) (by omega) (by omega)
      rw [nI_0] at hj
      exact ⟨⟨f2, r1, hj.2.2.1⟩, ⟨f3, hgk, hj.2.2.2⟩, hj.1, by rw [hj.2.1]; exact hrel⟩
    · have n1 : ¬ nI j = -6 := by
        intro z
        have z2 := congrArg Int32.toInt z
        rw [nI_toInt (by omega)] at z2
        have : (-6 : Int32).toInt = -6 := by decide
        omega
      have n2 : ¬ nI j < 0 := nI_pos (by omega)
      simp only [e, if_neg n1, if_neg n2]
      exact ⟨⟨f2, trivial⟩, ⟨f3, trivial⟩, trivial, h⟩
end WellS

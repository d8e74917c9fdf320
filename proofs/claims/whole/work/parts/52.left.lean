/-! pails that run out -/
theorem trW_in {at_ : Nat → Int32} {cl : Int32 → Nat → Int32} {pa : Nat → Int32} {dr : Int32} : ∀ (n k : Nat) (t W : Int32), k < 256 → ∀ q ∈ trW at_ cl pa dr n k t W, q.1 < 8 ∧ k.testBit q.1 = true
  | 0, k, t, W, _, q, h => by rw [trW] at h; cases h
  | n + 1, k, t, W, hk, q, h => by
    by_cases h0 : k = 0
    · subst h0; rw [trW_0] at h; cases h
    · obtain ⟨p, hp⟩ := nxt_ne (at_ := at_) (cl := cl) (t := t) hk h0
      obtain ⟨a, b, -, -⟩ := nxt_some hp
      rw [trW_s n h0 hp] at h
      rcases List.mem_cons.mp h with rfl | h
      · exact ⟨a, b⟩
      · obtain ⟨c, d⟩ := trW_in n _ _ _ (clr_lt k hk p a) q h
        exact ⟨c, ((clr_t hk a c).mp d).1⟩
theorem trW_nd {at_ : Nat → Int32} {cl : Int32 → Nat → Int32} {pa : Nat → Int32} {dr : Int32} : ∀ (n k : Nat) (t W : Int32), k < 256 → ((trW at_ cl pa dr n k t W).map Prod.fst).Nodup
  | 0, k, t, W, _ => by rw [trW]; exact List.nodup_nil
  | n + 1, k, t, W, hk => by
    by_cases h0 : k = 0
    · subst h0; rw [trW_0]; exact List.nodup_nil
    · obtain ⟨p, hp⟩ := nxt_ne (at_ := at_) (cl := cl) (t := t) hk h0
      obtain ⟨a, b, -, -⟩ := nxt_some hp
      rw [trW_s n h0 hp, List.map_cons, List.nodup_cons]
      refine ⟨fun h => ?_, trW_nd n _ _ _ (clr_lt k hk p a)⟩
      obtain ⟨q, hq, e⟩ := List.mem_map.mp h
      obtain ⟨c, d⟩ := trW_in n _ _ _ (clr_lt k hk p a) q hq
      exact ((clr_t hk a c).mp d).2 e
theorem trW_len {at_ : Nat → Int32} {cl : Int32 → Nat → Int32} {pa : Nat → Int32} {dr : Int32} : ∀ (n k : Nat) (t W : Int32), k < 256 → (trW at_ cl pa dr n k t W).length ≤ n
  | 0, k, t, W, _ => by rw [trW]; exact Nat.le_refl _
  | n + 1, k, t, W, hk => by
    by_cases h0 : k = 0
    · subst h0; rw [trW_0]; exact Nat.zero_le _
    · obtain ⟨p, hp⟩ := nxt_ne (at_ := at_) (cl := cl) (t := t) hk h0
      obtain ⟨a, b, -, -⟩ := nxt_some hp
      rw [trW_s n h0 hp, List.length_cons]
      have := trW_len (at_ := at_) (cl := cl) (pa := pa) (dr := dr) n (clr k p) (bgt at_ k t + dr * tkW W (pa p)) (W - tkW W (pa p)) (clr_lt k hk p a)
      omega
/-- with no water nobody draws -/
theorem tkW_0 {a : Int32} (h : 0 ≤ a.toInt) : tkW 0 a = 0 := by
  unfold tkW
  rw [if_pos (by rw [i_le]; have : (0 : Int32).toInt = 0 := by decide
                 omega)]
theorem trW_dry {at_ : Nat → Int32} {cl : Int32 → Nat → Int32} {pa : Nat → Int32} {dr : Int32} : ∀ (n k : Nat) (t : Int32), k < 256 → (∀ p, p < 8 → k.testBit p = true → 0 ≤ (pa p).toInt) → ∀ q ∈ trW at_ cl pa dr n k t 0, q.2.2 = 0
  | 0, k, t, _, _, q, h => by rw [trW] at h; cases h
  | n + 1, k, t, hk, hp, q, h => by
    by_cases h0 : k = 0
    · subst h0; rw [trW_0] at h; cases h
    · obtain ⟨p, hx⟩ := nxt_ne (at_ := at_) (cl := cl) (t := t) hk h0
      obtain ⟨a, b, -, -⟩ := nxt_some hx
      rw [trW_s n h0 hx, tkW_0 (hp p a b)] at h
      rcases List.mem_cons.mp h with rfl | h
      · rfl
      · rw [show (0 : Int32) - 0 = 0 by decide] at h
        exact trW_dry n _ _ (clr_lt k hk p a) (fun q hq hb => hp q hq ((clr_t hk a hq).mp hb).1) q h
/-- what the class reckons along the ordinary order -/
def lf (pa : Nat → Int32) (P : Nat) : Int32 → List (Nat × Int32) → Int32
  | _, [] => 0
  | W, q :: L => if q.1 = P then tkW W (pa q.1) else lf pa P (W - tkW W (pa q.1)) L
theorem lf_dry {pa : Nat → Int32} {P : Nat} : ∀ (L : List (Nat × Int32)), (∀ q ∈ L, 0 ≤ (pa q.1).toInt) → lf pa P 0 L = 0
  | [], _ => rfl
  | q :: L, h => by
    rw [lf, tkW_0 (h q List.mem_cons_self), show (0 : Int32) - 0 = 0 by decide, lf_dry L (fun r hr => h r (List.mem_cons_of_mem _ hr))]
    split <;> rfl
theorem lf_eq {at_ : Nat → Int32} {cl : Int32 → Nat → Int32} {pa : Nat → Int32} {dr : Int32} {P : Nat} (hP : P < 8) : ∀ (n k : Nat) (t W : Int32), k < 256 → pop k ≤ n → k.testBit P = true → (∀ p, p < 8 → k.testBit p = true → 0 ≤ (pa p).toInt) →
    ∃ b, (P, b, lf pa P W (trc at_ cl (fun p => dr * pa p) n k t)) ∈ trW at_ cl pa dr n k t W
  | 0, k, t, W, hk, hn, hb, _ => by
    have := pop_clr k hk P hP hb
    omega
  | n + 1, k, t, W, hk, hn, hb, hp => by
    have h0 : k ≠ 0 := fun h => by subst h; simp at hb
    obtain ⟨p, hx⟩ := nxt_ne (at_ := at_) (cl := cl) (t := t) hk h0
    obtain ⟨a, b, -, -⟩ := nxt_some hx
    have hpc := pop_clr k hk p a b
    have hcl := clr_lt k hk p a
    rw [trW_s n h0 hx, trc_s n h0 hx, lf]
    by_cases hpP : p = P
    · subst hpP
      rw [if_pos rfl]
      exact ⟨_, List.mem_cons_self⟩
    · rw [if_neg hpP]
      have hcb : (clr k p).testBit P = true := (clr_t hk a hP).mpr ⟨hb, fun e => hpP e.symm⟩
      have hcp : ∀ q, q < 8 → (clr k p).testBit q = true → 0 ≤ (pa q).toInt := fun q hq hb2 => hp q hq ((clr_t hk a hq).mp hb2).1
      by_cases hw : W ≤ pa p
      · have ht : tkW W (pa p) = W := if_pos hw
        rw [ht, show W - W = 0 from Int32.sub_self W]
        have hz : lf pa P 0 (trc at_ cl (fun p => dr * pa p) n (clr k p) (bgt at_ k t + dr * pa p)) = 0 := lf_dry _ (fun q hq => by
          obtain ⟨c, d⟩ := trc_in (at_ := at_) (cl := cl) (dt := fun p => dr * pa p) n _ _ hcl q hq
          exact hcp q.1 c d)
        rw [hz]
        obtain ⟨b', hm⟩ := lf_eq (at_ := at_) (cl := cl) (pa := pa) (dr := dr) hP n (clr k p) (bgt at_ k t + dr * W) 0 hcl (by omega) hcb hcp
        have hd := trW_dry n (clr k p) (bgt at_ k t + dr * W) hcl hcp _ hm
        dsimp only at hd
        rw [hd] at hm
        exact ⟨b', List.mem_cons_of_mem _ hm⟩
      · have ht : tkW W (pa p) = pa p := if_neg hw
        rw [ht]
        obtain ⟨b', hm⟩ := lf_eq (at_ := at_) (cl := cl) (pa := pa) (dr := dr) hP n (clr k p) (bgt at_ k t + dr * pa p) (W - pa p) hcl (by omega) hcb hcp
        exact ⟨b', List.mem_cons_of_mem _ hm⟩
theorem left_49 {v : tVl} {w : tWl} {L : List (Nat × Int32)} (hw : wHolds v w L) {P : Nat} (hP : P < 8) : ∀ (n i : Nat) (W : Int32), i ≤ L.length → L.length < i + n →
    (fX3_left_49 v w (nI P) n W (nI i)).1 = lf (v_pa v) P W (L.drop i) ∧ oX3_left_49 v w (nI P) n W (nI i)
  | 0, i, W, h1, h2 => by omega
  | n + 1, i, W, h1, h2 => by
    obtain ⟨w1, w2, w3⟩ := hw
    by_cases hi : i = L.length
    · have g : w_tu w ≤ nI i := by rw [w1, hi, i_le]; exact Int.le_refl _
      simp only [fX3_left_49, oX3_left_49, if_pos g]
      rw [hi, List.drop_length, lf]
      exact ⟨by first | rfl | trivial, trivial⟩
    · have hil : i < L.length := by omega
      have g : ¬ w_tu w ≤ nI i := by rw [w1]; exact nI_ge hil (by omega)
      obtain ⟨q, hq⟩ : ∃ q, L[i]? = some q := ⟨L[i], List.getElem?_eq_getElem hil⟩
      obtain ⟨q1, q2, -, -⟩ := w3 i q hq
      have hd : L.drop i = q :: L.drop (i + 1) := by
        rw [List.drop_eq_getElem_cons hil]
        rw [List.getElem?_eq_getElem hil] at hq
        rw [Option.some.inj hq]
      have hi8 : i < 8 := by omega
      have ih := left_49 ⟨w1, w2, w3⟩ hP n (i + 1) (W - tkW W (v_pa v q.1)) (by omega) (by omega)
      have htk : (if v_pa v q.1 < W then v_pa v q.1 else W) = tkW W (v_pa v q.1) := by
        unfold tkW
        by_cases c : W ≤ v_pa v q.1
        · rw [if_pos c, if_neg (by rw [i_lt]; rw [i_le] at c; omega)]
        · rw [if_neg c, if_pos (by rw [i_lt]; rw [i_le] at c; omega)]
      rw [hd, lf]
      simp only [fX3_left_49, oX3_left_49, lt_, lo_, if_neg g, c8 hi8, q2, c8 q1, htk, nI_1, nI_eq (show q.1 < 2 ^ 31 by omega) (show P < 2 ^ 31 by omega)]
      by_cases c : q.1 = P
      · simp only [if_pos c]
        exact ⟨trivial, vin8 hi8, vin8 q1, trivial⟩
      · simp only [if_neg c]
        exact ⟨ih.1, vin8 hi8, vin8 q1, ih.2⟩
theorem left_go {vN : tVl} {y : tMs} (w : tWl) {k p : Nat} (s1 : Int32) (hk : k < 256) (hS : Sc vN y) (hp8' : p < 8) (hb : k.testBit p = true) :
    oX2_run vN w (nI k) ∧ oX3_left_49 vN (fX2_run vN w (nI k)) (nI p) 9 s1 0 ∧ oX4_go y (nI k) s1 ∧ SB y (fX4_go y (nI k) s1) ∧ (fX3_left_49 vN (fX2_run vN w (nI k)) (nI p) 9 s1 0).1 = m_to (fX4_go y (nI k) s1) p := by
  have r1 := (run_eq vN hS.six w hk).2
  have hC := runC vN hS.six w hk
  have hp8 := pop_le k hk
  obtain ⟨g1, g2⟩ := go_ok y k s1 hk (fun p hp8 _ => by have := (hS.2.2 p hp8).2.1; omega)
  have hln : (trV vN k).length = min 8 (pop k) := trc_len 8 k 0 hk
  have hlW := trW_len (at_ := atM y) (cl := clM y) (pa := m_pa y) (dr := m_dr y) 8 k 0 s1 hk
  have hnW := trW_nd (at_ := atM y) (cl := clM y) (pa := m_pa y) (dr := m_dr y) 8 k 0 s1 hk
  obtain ⟨b', hm⟩ := lf_eq (at_ := atM y) (cl := clM y) (pa := m_pa y) (dr := m_dr y) hp8' 8 k 0 s1 hk (pop_le k hk) hb (fun q hq _ => (hS.2.2 q hq).2.2.1.1)
  generalize trW (atM y) (clM y) (m_pa y) (m_dr y) 8 k 0 s1 = LW at *
  obtain ⟨wa, en, to_, or_, f1, ⟨-, f3, -⟩, -⟩ := mF LW (mO y (m_wa y) (m_en y) (m_to y) (m_or y) 0) 0 (by rw [nI_0, mO_my]) (by omega) hnW
  rw [f1] at g1
  have hsb : SB y (fX4_go y (nI k) s1) := by
    rw [g1]
    exact (SB.O y _ _ _ _ _).tr (SB.O _ _ _ _ _ _)
  obtain ⟨l1, l2⟩ := left_49 hC hp8' 9 0 s1 (Nat.zero_le _) (by omega)
  rw [nI_0, List.drop_zero] at l1
  rw [nI_0] at l2
  refine ⟨r1, l2, g2, hsb, ?_⟩
  have e := (f3 _ hm).2.2
  dsimp only at e
  rw [l1, g1, mO_to, e]
  have ht : trV vN k = trc (atM y) (clM y) (fun p => m_dr y * m_pa y p) 8 k 0 := hS.tr hk
  have hi8 := fun q hq => (trc_in (at_ := atM y) (cl := clM y) (dt := fun p => m_dr y * m_pa y p) 8 k 0 hk q hq).1
  rw [ht]
  generalize trc (atM y) (clM y) (fun p => m_dr y * m_pa y p) 8 k 0 = L at *
  have gen : ∀ (L : List (Nat × Int32)) (W : Int32), (∀ q ∈ L, q.1 < 8) → lf (v_pa vN) p W L = lf (m_pa y) p W L := by
    intro L
    induction L with
    | nil => intro W _; rfl
    | cons q L ih =>
      intro W hL
      rw [lf, lf, (hS.2.2 q.1 (hL q List.mem_cons_self)).1.2.2.1, ih _ (fun r hr => hL r (List.mem_cons_of_mem _ hr))]
  exact gen L s1 hi8
theorem st_left {kp : tAr} {vN vI vJ : tVl} {pd : tPd} {x : tMs} (h : Rel kp vN vI vJ pd x) (w : tWl) (s1 s2 : Int32) :
    oX3_left vN w s1 s2 ∧ oX4_left x s1 s2 ∧ (fX3_left vN w s1 s2).1 = (fX4_left x s1 s2).1 ∧ Rel kp vN vI vJ pd (fX4_left x s1 s2).2 := by
  obtain ⟨⟨⟨k, hk, hco⟩, hdr, hcm, hse, hp⟩, hR⟩ := id h
  have hcm' : v_cm vN = nI k := hcm.trans hco
  obtain ⟨q1, q2⟩ := cm_cases hk hcm' hco s2
  obtain ⟨o1, hS, hB, hc, -, -, -⟩ := scN h.1
  have hin : fX4_in (Int32.toInt64 s1) 0 99 = fX3_within s1 0 99 := in_n s1 (by decide) (by decide)
  unfold oX3_left oX4_left fX3_left fX4_left
  simp only [lt_, lo_, hcm', hc, hco, hin]
  generalize fX4_layNow x = y at *
  rcases q2 with ⟨a, b⟩ | ⟨p, hp8', rfl, hb, a, b⟩
  · simp only [a, b, if_true]
    exact ⟨trivial, ⟨q1, trivial⟩, trivial, h⟩
  · obtain ⟨l1, l2, l3, l4, l5⟩ := left_go w s1 hk hS hp8' hb
    simp only [a, b, if_neg i10]
    rcases wi s1 0 99 with ⟨w1, -⟩ | ⟨w1, a1, b1⟩
    · simp only [w1, if_true]
      exact ⟨trivial, ⟨q1, trivial⟩, trivial, h⟩
    · simp only [w1, if_neg i10, c8 hp8']
      exact ⟨⟨l1, l2⟩, ⟨q1, o1, l3, vin8 hp8', trivial⟩, l5, h.sb (hB.tr l4)⟩

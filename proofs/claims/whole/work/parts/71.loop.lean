/-! THE CLAIM OUT OF ONE WALK OF THE LAW'S BODY. Your part is whole_start (and what it stands on); all else here is the same for every law, but numbers. -/
def R_law : String := "FarthestFirstLaw"
def lw_P (b : Addr) (xs : List Int32) (args : Array Value) (s : State) : Prop := args = #[.ref b] ∧ s.IntsAt b xs ∧ xs.length ≤ 3072 ∧ (Jvm.Cond.and given_1 narrow_1).before args s = true
def lw_Q (_ : Array Value) (s : State) (o : Outcome) (t : State) : Prop := o = .returned (some (.int 1)) ∧ Framed s o t [] 600000 7302250
def lw_Z (below : List Frame) (a : Array Value) (s : State) : State → Prop := fun t => ∃ o, t.status = .running ∧ Ended t below o ∧ lw_Q a s o t
/-- the law's own end, with 1 on the stack, nothing written that was there before, its room as the claim has it -/
theorem lw_ret {p : Program} {l : Launch} {e : Env} {s : State} {m : MethodId} {below : List Frame} {meth : Method} {c : Code} {b : Nat} (hx : p.tables.exec = Jvm.exec) (hb : c.code = code) (hr : meth.sig.returnType = ret) (hlocks : meth.locks = false) {pc : Nat} {H : Heap} {ls : Array Slot} (hdg : decode code pc = .ok (.ireturn, 1)) : W p l e room_1 s m #[Value.ref b] below meth c H [] 600000 7302250 (lw_Z below #[Value.ref b] s) (F0 m pc ls [.int 1]) := by
  intro T hT X
  obtain ⟨fs, hret, hrun, hended, hW, hframe⟩ := X.leave (v := some (.int 1)) (hlocks := hlocks) (fun h => by rw [hr] at h; cases h)
  have hmeth' : T.vm.method? m = some meth := X.method'
  refine ⟨T.setFrames fs, ?_, .returned (some (.int 1)), hrun, hended, rfl, ⟨_, rfl⟩, hW, hframe⟩
  jvm_step X.here [X.here.top, hx, hb, hdg, hmeth', hr, ret, narrow_b1]
  (try refine ⟨rfl, ?_⟩); (try refine ⟨rfl, ?_⟩)
  first | (intro acts; rw [hret _ acts rfl rfl rfl]) | rw [hret _ _ rfl rfl rfl]
  exact Steps.refl _
/-- what holds at the law's entry: the machine, the code, the tables' words (any of lw_tbl by 'hts w (by decide +kernel)'), the script of L ints xs at the cell b, what the Statement gives of the start (any of its parts by flat_of_before) -/
def lw_At (p : Program) (s : State) (m : MethodId) (meth : Method) (c : Code) (b L : Nat) (xs : Nat → Int32) : Prop :=
  p.tables.exec = Jvm.exec ∧ c.code = code ∧ meth.sig.returnType = ret ∧ c.maxLocals = 4 ∧ s.vm.findClass R_law = some m.cls ∧ (∀ w ∈ lw_tbl, w.before #[Value.ref b] s = true) ∧ va_X b L xs s s.heap ∧ b < s.heap.size ∧ meth.locks = false ∧ (Jvm.Cond.and given_1 narrow_1).before #[Value.ref b] s = true
/-! the law -/
theorem rel0 : Rel zA vZ vZ vZ pZ mZ := by
  refine ⟨⟨⟨0, by decide, rfl⟩, ⟨by decide, by decide⟩, rfl, ⟨by decide, by decide, by decide, by decide⟩, fun p hp => ⟨⟨rfl, rfl, rfl, rfl⟩, ⟨show 0 ≤ (0 : Int32).toInt by decide, show (0 : Int32).toInt ≤ 99 by decide⟩, ⟨show 0 ≤ (0 : Int32).toInt by decide, show (0 : Int32).toInt ≤ 999 by decide⟩, ⟨show 0 ≤ (0 : Int32).toInt by decide, show (0 : Int32).toInt ≤ 9 by decide⟩, Or.inl rfl⟩⟩, ⟨0, by decide, rfl, rfl, fun i hi => rfl⟩, fun n hn => ⟨rfl, Or.inl rfl⟩, fun h => absurd rfl h, fun h => absurd rfl h⟩
set_option maxHeartbeats 4000000 in
set_option maxRecDepth 100000 in
theorem law_loop {p : Program} {l : Launch} {e : Env} {s : State} {m : MethodId} {below : List Frame} {meth : Method} {c : Code} {D : va_G} {cy : Nat → ClassId} {a : Nat → Nat → Nat} {ma : Nat → Nat} {b L : Nat} {xs : Nat → Int32} {cells slots : Nat} (hL : L ≤ 3072) (hM : MC p s m #[Value.ref b] meth c RL cL_law 4 ret) (hK : va_K D classes (ctT cy) s) (hX : va_X b L xs s s.heap) (hbl : b < s.heap.size) (hf : cells ≤ room_1.cells ∧ slots ≤ room_1.slots) :
    ∀ (n j : Nat) (kp : tAr) (vN vT vI vJ : tVl) (w : tWl) (pd : tPd) (x : tMs) (H : Heap) (locs : List Loc) (ls : Array Slot), j ≤ L + 6 → L + 6 < j + n → Rel kp vN vI vJ pd x → va_P D classes (LW cy a ma kp vN vT vI vJ w pd x) H → va_D (fun q : Nat => s.heap.size ≤ q) (LW cy a ma kp vN vT vI vJ w pd x) → va_S (fun q : Nat => s.heap.size ≤ q) s.heap H locs → lv_has ls 4 (lvs b a ma (nI j)) →
      W p l e room_1 s m #[Value.ref b] below meth c H locs cells slots (lw_Z below #[Value.ref b] s) (F0 m 18 ls []) := by
  have hbA : ¬ (fun q : Nat => s.heap.size ≤ q) b := Nat.not_le.mpr hbl
  obtain ⟨hx, hb, hr, hml, hown, hts, hlocks⟩ := id hM
  intro n
  induction n with
  | zero =>
    intro j kp vN vT vI vJ w pd x H locs ls h1 h2
    exact absurd h2 (by omega)
  | succ n ih =>
    intro j kp vN vT vI vJ w pd x H locs ls h1 h2 hRel hP hD hS hl
    have hl0 : lv_has ls 4 [(3, .int (nI j)), (2, .ref (ma 0)), (1, .ref (a 0 0)), (0, .ref b)] := hl
    refine lv_iload_n hx hb dL_law_18 rfl (lv_at hl0 0 rfl) ?_
    refine lv_aload_n hx hb dL_law_19 rfl (lv_at hl0 3 rfl) ?_
    refine va_slen hx hb hX hbl hbA hS dL_law_20 ?_
    refine lv_bipush (v := 6) hx hb dL_law_21 (by decide) ?_
    refine lv_isub hx hb dL_law_23 ?_
    refine lv_icmp_gt (tgt := 895) hx hb dL_law_24 (by decide) (fun c1 => ?_) (fun c1 => ?_)
    · refine lv_iconst (v := 1) hx hb dL_law_895 (by decide) ?_
      refine va_forget (fun q hq => hS.2.2 q hq) ?_
      refine W.widen (k := 600000) (n := 7302250) hf.1 hf.2 ?_
      exact lw_ret hx hb hr hlocks dL_law_896
    · have hj : j + 6 ≤ L := by
        rw [i_lt, show Int32.ofNat L = nI L from rfl] at c1
        have m6 : (6 : Int32).toInt = 6 := by decide
        have mL : (nI L).toInt = (L : Int) := nI_toInt (by omega)
        have mj : (nI j).toInt = (j : Int) := nI_toInt (by omega)
        have e1 : (nI L - 6).toInt = (L : Int) - 6 := by rw [ib_sub (by omega) (by omega), mL, m6]
        rw [e1, mj] at c1
        omega
      have hi : ∀ k, k ≤ 5 → vp_in (nI j + nI k) L := fun k hk => by
        rw [nI_add]
        exact vp_in_nI (by omega) (by omega)
      refine lv_aload_n hx hb dL_law_27 rfl (lv_at hl0 3 rfl) ?_
      refine lv_iload_n hx hb dL_law_28 rfl (lv_at hl0 0 rfl) ?_
      refine va_sld hx hb hX hbl hbA hS (vp_in_nI (by omega) (by omega)) dL_law_29 ?_
      refine lv_bipush (v := 31) hx hb dL_law_30 (by decide) ?_
      refine lv_iand hx hb dL_law_32 ?_
      obtain ⟨t, ht, et⟩ := pk_andE (xs (Int32.toNatClampNeg (nI j))) (m := 31) 5 rfl
      rw [et]
      have kk : LK p l e s m below meth c D cy (fun q : Nat => s.heap.size ≤ q) a ma b cells slots (lw_Z below #[Value.ref b] s) (nI j) := by
        intro kp vN vT vI vJ w pd x H locs ls hRel hP hD hS hl
        have hl0 : lv_has ls 4 [(3, .int (nI j)), (2, .ref (ma 0)), (1, .ref (a 0 0)), (0, .ref b)] := hl
        refine lv_iinc (v := nI (j + 6)) (lv' := [(3, .int (nI (j + 6))), (2, .ref (ma 0)), (1, .ref (a 0 0)), (0, .ref b)]) hx hb dL_law_889 hl0 (k := 0) rfl (by rw [← nI_add]; rfl) (by decide) rfl (fun ls hl => ?_)
        refine lv_goto (tgt := 18) hx hb dL_law_892 (by decide) ?_
        exact ih (j + 6) kp vN vT vI vJ w pd x H locs ls (by omega) (by omega) hRel hP hD hS hl
      by_cases h25 : t < 25
      · rcases (show t = 0 ∨ t = 1 ∨ t = 2 ∨ t = 3 ∨ t = 4 ∨ t = 5 ∨ t = 6 ∨ t = 7 ∨ t = 8 ∨ t = 9 ∨ t = 10 ∨ t = 11 ∨ t = 12 ∨ t = 13 ∨ t = 14 ∨ t = 15 ∨ t = 16 ∨ t = 17 ∨ t = 18 ∨ t = 19 ∨ t = 20 ∨ t = 21 ∨ t = 22 ∨ t = 23 ∨ t = 24 by omega) with rfl | rfl | rfl | rfl | rfl | rfl | rfl | rfl | rfl | rfl | rfl | rfl | rfl | rfl | rfl | rfl | rfl | rfl | rfl | rfl | rfl | rfl | rfl | rfl | rfl
        · exact lv_tableIn (off := 115) (tgt := 148) hx hb dL_law_33 (by decide) (by decide) (by decide) (by decide) (lc_come hM hK hX hbl hbA hf hi hRel hP hD hS hl kk)
        · exact lv_tableIn (off := 194) (tgt := 227) hx hb dL_law_33 (by decide) (by decide) (by decide) (by decide) (lc_stays hM hK hX hbl hbA hf hi hRel hP hD hS hl kk)
        · exact lv_tableIn (off := 217) (tgt := 250) hx hb dL_law_33 (by decide) (by decide) (by decide) (by decide) (lc_person hM hK hX hbl hbA hf hi hRel hP hD hS hl kk)
        · exact lv_tableIn (off := 250) (tgt := 283) hx hb dL_law_33 (by decide) (by decide) (by decide) (by decide) (lc_set hM hK hX hbl hbA hf hi hRel hP hD hS hl kk)
        · exact lv_tableIn (off := 283) (tgt := 316) hx hb dL_law_33 (by decide) (by decide) (by decide) (by decide) (lc_say hM hK hX hbl hbA hf hi hRel hP hD hS hl kk)
        · exact lv_tableIn (off := 306) (tgt := 339) hx hb dL_law_33 (by decide) (by decide) (by decide) (by decide) (lc_wipe hM hK hX hbl hbA hf hi hRel hP hD hS hl kk)
        · exact lv_tableIn (off := 319) (tgt := 352) hx hb dL_law_33 (by decide) (by decide) (by decide) (by decide) (lc_fault hM hK hX hbl hbA hf hi hRel hP hD hS hl kk)
        · exact lv_tableIn (off := 332) (tgt := 365) hx hb dL_law_33 (by decide) (by decide) (by decide) (by decide) (lc_served hM hK hX hbl hbA hf hi hRel hP hD hS hl kk)
        · exact lv_tableIn (off := 355) (tgt := 388) hx hb dL_law_33 (by decide) (by decide) (by decide) (by decide) (lc_waits hM hK hX hbl hbA hf hi hRel hP hD hS hl kk)
        · exact lv_tableIn (off := 388) (tgt := 421) hx hb dL_law_33 (by decide) (by decide) (by decide) (by decide) (lc_all hM hK hX hbl hbA hf hi hRel hP hD hS hl kk)
        · exact lv_tableIn (off := 411) (tgt := 444) hx hb dL_law_33 (by decide) (by decide) (by decide) (by decide) (lc_judge hM hK hX hbl hbA hf hi hRel hP hD hS hl kk)
        · exact lv_tableIn (off := 434) (tgt := 467) hx hb dL_law_33 (by decide) (by decide) (by decide) (by decide) (lc_left hM hK hX hbl hbA hf hi hRel hP hD hS hl kk)
        · exact lv_tableIn (off := 467) (tgt := 500) hx hb dL_law_33 (by decide) (by decide) (by decide) (by decide) (lc_best hM hK hX hbl hbA hf hi hRel hP hD hS hl kk)
        · exact lv_tableIn (off := 520) (tgt := 553) hx hb dL_law_33 (by decide) (by decide) (by decide) (by decide) (lc_walk hM hK hX hbl hbA hf hi hRel hP hD hS hl kk)
        · exact lv_tableIn (off := 563) (tgt := 596) hx hb dL_law_33 (by decide) (by decide) (by decide) (by decide) (lc_claim hM hK hX hbl hbA hf hi hRel hP hD hS hl kk)
        · exact lv_tableIn (off := 596) (tgt := 629) hx hb dL_law_33 (by decide) (by decide) (by decide) (by decide) (lc_lied hM hK hX hbl hbA hf hi hRel hP hD hS hl kk)
        · exact lv_tableIn (off := 609) (tgt := 642) hx hb dL_law_33 (by decide) (by decide) (by decide) (by decide) (lc_could hM hK hX hbl hbA hf hi hRel hP hD hS hl kk)
        · exact lv_tableIn (off := 642) (tgt := 675) hx hb dL_law_33 (by decide) (by decide) (by decide) (by decide) (lc_law hM hK hX hbl hbA hf hi hRel hP hD hS hl kk)
        · exact lv_tableIn (off := 665) (tgt := 698) hx hb dL_law_33 (by decide) (by decide) (by decide) (by decide) (lc_home hM hK hX hbl hbA hf hi hRel hP hD hS hl kk)
        · exact lv_tableIn (off := 708) (tgt := 741) hx hb dL_law_33 (by decide) (by decide) (by decide) (by decide) (lc_two hM hK hX hbl hbA hf hi hRel hP hD hS hl kk)
        · exact lv_tableIn (off := 731) (tgt := 764) hx hb dL_law_33 (by decide) (by decide) (by decide) (by decide) (lc_stay hM hK hX hbl hbA hf hi hRel hP hD hS hl kk)
        · exact lv_tableIn (off := 754) (tgt := 787) hx hb dL_law_33 (by decide) (by decide) (by decide) (by decide) (lc_day hM hK hX hbl hbA hf hi hRel hP hD hS hl kk)
        · exact lv_tableIn (off := 787) (tgt := 820) hx hb dL_law_33 (by decide) (by decide) (by decide) (by decide) (lc_image hM hK hX hbl hbA hf hi hRel hP hD hS hl kk)
        · exact lv_tableIn (off := 810) (tgt := 843) hx hb dL_law_33 (by decide) (by decide) (by decide) (by decide) (lc_restore hM hK hX hbl hbA hf hi hRel hP hD hS hl kk)
        · exact lv_tableIn (off := 833) (tgt := 866) hx hb dL_law_33 (by decide) (by decide) (by decide) (by decide) (lc_told hM hK hX hbl hbA hf hi hRel hP hD hS hl kk)
      · have mt : (nI t).toInt = (t : Int) := nI_toInt (by omega)
        exact lv_tableOut (tgt := 889) hx hb dL_law_33 (Or.inr (by rw [mt]; omega)) (by decide) (kk kp vN vT vI vJ w pd x H locs ls hRel hP hD hS hl)

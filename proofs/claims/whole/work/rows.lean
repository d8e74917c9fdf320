section
-- ===== PART A: goes FIRST, ahead of the names: the tables' words, and 'selects' of the private methods out of them =====
/-- a private method of a class that the tables say can be made, by its rows of tables_1 -/
def lw_okq (q : MethodName × Nat) : Prop := (q.1.cls ≠ "java/lang/invoke/MethodHandle" ∧ q.1.cls ≠ "java/lang/invoke/VarHandle") ∧ Cond.instantiable q.1.cls q.2 ∈ tables_1 ∧ Cond.privateMethod q.1 ∈ tables_1 ∧ Cond.instanceMethod q.1 ∈ tables_1
theorem lw_p0 : lw_okq (⟨"FarthestFirst$Well", "start", "(I)V"⟩, 10) := ⟨⟨by decide +kernel, by decide +kernel⟩, List.mem_of_getElem? (i := 52) (by decide +kernel), List.mem_of_getElem? (i := 205) (by decide +kernel), List.mem_of_getElem? (i := 206) (by decide +kernel)⟩
theorem lw_p1 : lw_okq (⟨"FarthestFirst$Well", "serveNext", "(LFarthestFirst$Village;)I"⟩, 10) := ⟨⟨by decide +kernel, by decide +kernel⟩, List.mem_of_getElem? (i := 52) (by decide +kernel), List.mem_of_getElem? (i := 209) (by decide +kernel), List.mem_of_getElem? (i := 210) (by decide +kernel)⟩
theorem lw_p2 : lw_okq (⟨"FarthestFirst$Village", "claimAt", "(II)I"⟩, 6) := ⟨⟨by decide +kernel, by decide +kernel⟩, List.mem_of_getElem? (i := 17) (by decide +kernel), List.mem_of_getElem? (i := 232) (by decide +kernel), List.mem_of_getElem? (i := 233) (by decide +kernel)⟩
theorem lw_p3 : lw_okq (⟨"FarthestFirst", "leaveOut", "(I)V"⟩, 6) := ⟨⟨by decide +kernel, by decide +kernel⟩, List.mem_of_getElem? (i := 9) (by decide +kernel), List.mem_of_getElem? (i := 266) (by decide +kernel), List.mem_of_getElem? (i := 267) (by decide +kernel)⟩
theorem lw_p4 : lw_okq (⟨"FarthestFirst", "waitIf", "(III)I"⟩, 6) := ⟨⟨by decide +kernel, by decide +kernel⟩, List.mem_of_getElem? (i := 9) (by decide +kernel), List.mem_of_getElem? (i := 274) (by decide +kernel), List.mem_of_getElem? (i := 275) (by decide +kernel)⟩
theorem lw_p5 : lw_okq (⟨"FarthestFirst", "beginIf", "(III)I"⟩, 6) := ⟨⟨by decide +kernel, by decide +kernel⟩, List.mem_of_getElem? (i := 9) (by decide +kernel), List.mem_of_getElem? (i := 278) (by decide +kernel), List.mem_of_getElem? (i := 279) (by decide +kernel)⟩
theorem lw_p6 : lw_okq (⟨"FarthestFirst", "endIfWalked", "(III)I"⟩, 6) := ⟨⟨by decide +kernel, by decide +kernel⟩, List.mem_of_getElem? (i := 9) (by decide +kernel), List.mem_of_getElem? (i := 291) (by decide +kernel), List.mem_of_getElem? (i := 292) (by decide +kernel)⟩
theorem lw_p7 : lw_okq (⟨"FarthestFirst", "allTold", "()Z"⟩, 6) := ⟨⟨by decide +kernel, by decide +kernel⟩, List.mem_of_getElem? (i := 9) (by decide +kernel), List.mem_of_getElem? (i := 304) (by decide +kernel), List.mem_of_getElem? (i := 305) (by decide +kernel)⟩
theorem lw_p8 : lw_okq (⟨"FarthestFirst", "milesThatBring", "(IZ)I"⟩, 6) := ⟨⟨by decide +kernel, by decide +kernel⟩, List.mem_of_getElem? (i := 9) (by decide +kernel), List.mem_of_getElem? (i := 308) (by decide +kernel), List.mem_of_getElem? (i := 309) (by decide +kernel)⟩
theorem lw_p9 : lw_okq (⟨"FarthestFirst", "runUnder", "(I)V"⟩, 6) := ⟨⟨by decide +kernel, by decide +kernel⟩, List.mem_of_getElem? (i := 9) (by decide +kernel), List.mem_of_getElem? (i := 325) (by decide +kernel), List.mem_of_getElem? (i := 326) (by decide +kernel)⟩
theorem lw_p10 : lw_okq (⟨"FarthestFirst", "costOfLiving", "(III)I"⟩, 6) := ⟨⟨by decide +kernel, by decide +kernel⟩, List.mem_of_getElem? (i := 9) (by decide +kernel), List.mem_of_getElem? (i := 333) (by decide +kernel), List.mem_of_getElem? (i := 334) (by decide +kernel)⟩
theorem lw_p11 : lw_okq (⟨"FarthestFirstModel", "comes", "(I)Z"⟩, 24) := ⟨⟨by decide +kernel, by decide +kernel⟩, List.mem_of_getElem? (i := 363) (by decide +kernel), List.mem_of_getElem? (i := 463) (by decide +kernel), List.mem_of_getElem? (i := 464) (by decide +kernel)⟩
theorem lw_p12 : lw_okq (⟨"FarthestFirstModel", "goNow", "()V"⟩, 24) := ⟨⟨by decide +kernel, by decide +kernel⟩, List.mem_of_getElem? (i := 363) (by decide +kernel), List.mem_of_getElem? (i := 495) (by decide +kernel), List.mem_of_getElem? (i := 496) (by decide +kernel)⟩
theorem lw_p13 : lw_okq (⟨"FarthestFirstModel", "layNow", "()V"⟩, 24) := ⟨⟨by decide +kernel, by decide +kernel⟩, List.mem_of_getElem? (i := 363) (by decide +kernel), List.mem_of_getElem? (i := 499) (by decide +kernel), List.mem_of_getElem? (i := 500) (by decide +kernel)⟩
theorem lw_p14 : lw_okq (⟨"FarthestFirstModel", "go", "(II)V"⟩, 24) := ⟨⟨by decide +kernel, by decide +kernel⟩, List.mem_of_getElem? (i := 363) (by decide +kernel), List.mem_of_getElem? (i := 503) (by decide +kernel), List.mem_of_getElem? (i := 504) (by decide +kernel)⟩
theorem lw_p15 : lw_okq (⟨"FarthestFirstModel", "nextOf", "(II)I"⟩, 24) := ⟨⟨by decide +kernel, by decide +kernel⟩, List.mem_of_getElem? (i := 363) (by decide +kernel), List.mem_of_getElem? (i := 507) (by decide +kernel), List.mem_of_getElem? (i := 508) (by decide +kernel)⟩
def lw_privs_1 : List (MethodName × Nat) := [(⟨"FarthestFirst$Well", "start", "(I)V"⟩, 10), (⟨"FarthestFirst$Well", "serveNext", "(LFarthestFirst$Village;)I"⟩, 10), (⟨"FarthestFirst$Village", "claimAt", "(II)I"⟩, 6), (⟨"FarthestFirst", "leaveOut", "(I)V"⟩, 6), (⟨"FarthestFirst", "waitIf", "(III)I"⟩, 6), (⟨"FarthestFirst", "beginIf", "(III)I"⟩, 6), (⟨"FarthestFirst", "endIfWalked", "(III)I"⟩, 6), (⟨"FarthestFirst", "allTold", "()Z"⟩, 6), (⟨"FarthestFirst", "milesThatBring", "(IZ)I"⟩, 6), (⟨"FarthestFirst", "runUnder", "(I)V"⟩, 6), (⟨"FarthestFirst", "costOfLiving", "(III)I"⟩, 6), (⟨"FarthestFirstModel", "comes", "(I)Z"⟩, 24), (⟨"FarthestFirstModel", "goNow", "()V"⟩, 24), (⟨"FarthestFirstModel", "layNow", "()V"⟩, 24), (⟨"FarthestFirstModel", "go", "(II)V"⟩, 24), (⟨"FarthestFirstModel", "nextOf", "(II)I"⟩, 24)]
theorem lw_r1 : ∀ q ∈ lw_privs_1, lw_okq q := List.forall_mem_cons.mpr ⟨lw_p0, List.forall_mem_cons.mpr ⟨lw_p1, List.forall_mem_cons.mpr ⟨lw_p2, List.forall_mem_cons.mpr ⟨lw_p3, List.forall_mem_cons.mpr ⟨lw_p4, List.forall_mem_cons.mpr ⟨lw_p5, List.forall_mem_cons.mpr ⟨lw_p6, List.forall_mem_cons.mpr ⟨lw_p7, List.forall_mem_cons.mpr ⟨lw_p8, List.forall_mem_cons.mpr ⟨lw_p9, List.forall_mem_cons.mpr ⟨lw_p10, List.forall_mem_cons.mpr ⟨lw_p11, List.forall_mem_cons.mpr ⟨lw_p12, List.forall_mem_cons.mpr ⟨lw_p13, List.forall_mem_cons.mpr ⟨lw_p14, List.forall_mem_cons.mpr ⟨lw_p15, fun _ h => absurd h List.not_mem_nil⟩⟩⟩⟩⟩⟩⟩⟩⟩⟩⟩⟩⟩⟩⟩⟩
theorem lw_p16 : lw_okq (⟨"FarthestFirstModel", "isAhead", "(III)Z"⟩, 24) := ⟨⟨by decide +kernel, by decide +kernel⟩, List.mem_of_getElem? (i := 363) (by decide +kernel), List.mem_of_getElem? (i := 511) (by decide +kernel), List.mem_of_getElem? (i := 512) (by decide +kernel)⟩
theorem lw_p17 : lw_okq (⟨"FarthestFirstModel", "claimOf", "(II)I"⟩, 24) := ⟨⟨by decide +kernel, by decide +kernel⟩, List.mem_of_getElem? (i := 363) (by decide +kernel), List.mem_of_getElem? (i := 515) (by decide +kernel), List.mem_of_getElem? (i := 516) (by decide +kernel)⟩
theorem lw_p18 : lw_okq (⟨"FarthestFirstModel", "soonest", "(I)I"⟩, 24) := ⟨⟨by decide +kernel, by decide +kernel⟩, List.mem_of_getElem? (i := 363) (by decide +kernel), List.mem_of_getElem? (i := 519) (by decide +kernel), List.mem_of_getElem? (i := 520) (by decide +kernel)⟩
theorem lw_p19 : lw_okq (⟨"FarthestFirstModel", "worstOf", "(I)I"⟩, 24) := ⟨⟨by decide +kernel, by decide +kernel⟩, List.mem_of_getElem? (i := 363) (by decide +kernel), List.mem_of_getElem? (i := 532) (by decide +kernel), List.mem_of_getElem? (i := 533) (by decide +kernel)⟩
theorem lw_p20 : lw_okq (⟨"FarthestFirstModel", "whose", "()I"⟩, 24) := ⟨⟨by decide +kernel, by decide +kernel⟩, List.mem_of_getElem? (i := 363) (by decide +kernel), List.mem_of_getElem? (i := 536) (by decide +kernel), List.mem_of_getElem? (i := 537) (by decide +kernel)⟩
theorem lw_p21 : lw_okq (⟨"FarthestFirstModel", "sumOf", "(I)I"⟩, 24) := ⟨⟨by decide +kernel, by decide +kernel⟩, List.mem_of_getElem? (i := 363) (by decide +kernel), List.mem_of_getElem? (i := 540) (by decide +kernel), List.mem_of_getElem? (i := 541) (by decide +kernel)⟩
theorem lw_p22 : lw_okq (⟨"FarthestFirstModel", "areAllTold", "()Z"⟩, 24) := ⟨⟨by decide +kernel, by decide +kernel⟩, List.mem_of_getElem? (i := 363) (by decide +kernel), List.mem_of_getElem? (i := 571) (by decide +kernel), List.mem_of_getElem? (i := 572) (by decide +kernel)⟩
theorem lw_p23 : lw_okq (⟨"FarthestFirstModel", "isRowBy", "(II)Z"⟩, 24) := ⟨⟨by decide +kernel, by decide +kernel⟩, List.mem_of_getElem? (i := 363) (by decide +kernel), List.mem_of_getElem? (i := 575) (by decide +kernel), List.mem_of_getElem? (i := 576) (by decide +kernel)⟩
theorem lw_p24 : lw_okq (⟨"FarthestFirstModel", "isRow", "()Z"⟩, 24) := ⟨⟨by decide +kernel, by decide +kernel⟩, List.mem_of_getElem? (i := 363) (by decide +kernel), List.mem_of_getElem? (i := 579) (by decide +kernel), List.mem_of_getElem? (i := 580) (by decide +kernel)⟩
theorem lw_p25 : lw_okq (⟨"FarthestFirstModel", "passAll", "()V"⟩, 24) := ⟨⟨by decide +kernel, by decide +kernel⟩, List.mem_of_getElem? (i := 363) (by decide +kernel), List.mem_of_getElem? (i := 615) (by decide +kernel), List.mem_of_getElem? (i := 616) (by decide +kernel)⟩
theorem lw_p26 : lw_okq (⟨"FarthestFirstModel", "pass", "(I)I"⟩, 24) := ⟨⟨by decide +kernel, by decide +kernel⟩, List.mem_of_getElem? (i := 363) (by decide +kernel), List.mem_of_getElem? (i := 619) (by decide +kernel), List.mem_of_getElem? (i := 620) (by decide +kernel)⟩
def lw_privs_2 : List (MethodName × Nat) := [(⟨"FarthestFirstModel", "isAhead", "(III)Z"⟩, 24), (⟨"FarthestFirstModel", "claimOf", "(II)I"⟩, 24), (⟨"FarthestFirstModel", "soonest", "(I)I"⟩, 24), (⟨"FarthestFirstModel", "worstOf", "(I)I"⟩, 24), (⟨"FarthestFirstModel", "whose", "()I"⟩, 24), (⟨"FarthestFirstModel", "sumOf", "(I)I"⟩, 24), (⟨"FarthestFirstModel", "areAllTold", "()Z"⟩, 24), (⟨"FarthestFirstModel", "isRowBy", "(II)Z"⟩, 24), (⟨"FarthestFirstModel", "isRow", "()Z"⟩, 24), (⟨"FarthestFirstModel", "passAll", "()V"⟩, 24), (⟨"FarthestFirstModel", "pass", "(I)I"⟩, 24)]
theorem lw_r2 : ∀ q ∈ lw_privs_2, lw_okq q := List.forall_mem_cons.mpr ⟨lw_p16, List.forall_mem_cons.mpr ⟨lw_p17, List.forall_mem_cons.mpr ⟨lw_p18, List.forall_mem_cons.mpr ⟨lw_p19, List.forall_mem_cons.mpr ⟨lw_p20, List.forall_mem_cons.mpr ⟨lw_p21, List.forall_mem_cons.mpr ⟨lw_p22, List.forall_mem_cons.mpr ⟨lw_p23, List.forall_mem_cons.mpr ⟨lw_p24, List.forall_mem_cons.mpr ⟨lw_p25, List.forall_mem_cons.mpr ⟨lw_p26, fun _ h => absurd h List.not_mem_nil⟩⟩⟩⟩⟩⟩⟩⟩⟩⟩⟩
def lw_privs : List (MethodName × Nat) := lw_privs_1 ++ (lw_privs_2)
def lw_tbl : List Cond := k2_sels lw_privs ++ tables_1
theorem lw_privs_ok : ∀ q ∈ lw_privs, lw_okq q := by
  show ∀ q ∈ lw_privs_1 ++ (lw_privs_2), lw_okq q
  exact List.forall_mem_append.mpr ⟨lw_r1, lw_r2⟩
end
section
def RX0 : String := "FarthestFirst$Pad"
def TX0 : u_T := fun k => match k with
  | 0 => ("FarthestFirst$Pad", "count", "I", false)
  | _ => ("FarthestFirst$Pad", "signs", "[I", true)
def tyX0 : Nat → FieldType := fun k => match k with
  | 0 => .int
  | _ => .array .int
theorem nmX0 : ∀ a, a < 2 → ∀ b, b < 2 → a ≠ b → (TX0 a).2.1 ≠ (TX0 b).2.1 := by decide +kernel
theorem tyX0_ok : ∀ k, k < 2 → parseFieldDescriptor (TX0 k).2.2.1 = some (tyX0 k) := by decide +kernel
abbrev cX0_init : ByteArray := prog_2_method_1_code
def yX0_init : MethodName := ⟨RX0, "<init>", "()V"⟩
abbrev cX0_add : ByteArray := prog_2_method_2_code
def yX0_add : MethodName := ⟨RX0, "add", "(I)Z"⟩
abbrev cX0_personAt : ByteArray := prog_2_method_3_code
def yX0_personAt : MethodName := ⟨RX0, "personAt", "(I)I"⟩
abbrev cX0_faultAmong : ByteArray := prog_2_method_4_code
def yX0_faultAmong : MethodName := ⟨RX0, "faultAmong", "(I)I"⟩
def RX1 : String := "FarthestFirst$Village"
def TX1 : u_T := fun k => match k with
  | 0 => ("FarthestFirst$Village", "miles", "[I", true)
  | 1 => ("FarthestFirst$Village", "minute", "[I", true)
  | 2 => ("FarthestFirst$Village", "pails", "[I", true)
  | 3 => ("FarthestFirst$Village", "cart", "[Z", true)
  | 4 => ("FarthestFirst$Village", "comers", "I", false)
  | _ => ("FarthestFirst$Village", "settings", "[I", true)
def tyX1 : Nat → FieldType := fun k => match k with
  | 0 => .array .int
  | 1 => .array .int
  | 2 => .array .int
  | 3 => .array .boolean
  | 4 => .int
  | _ => .array .int
theorem nmX1 : ∀ a, a < 6 → ∀ b, b < 6 → a ≠ b → (TX1 a).2.1 ≠ (TX1 b).2.1 := by decide +kernel
theorem tyX1_ok : ∀ k, k < 6 → parseFieldDescriptor (TX1 k).2.2.1 = some (tyX1 k) := by decide +kernel
abbrev cX1_init : ByteArray := prog_3_method_1_code
def yX1_init : MethodName := ⟨RX1, "<init>", "()V"⟩
abbrev cX1_copy : ByteArray := prog_3_method_2_code
def yX1_copy : MethodName := ⟨RX1, "copy", "(LFarthestFirst$Village;)V"⟩
abbrev cX1_setting : ByteArray := prog_3_method_3_code
def yX1_setting : MethodName := ⟨RX1, "setting", "(I)I"⟩
abbrev cX1_change : ByteArray := prog_3_method_4_code
def yX1_change : MethodName := ⟨RX1, "change", "(II)V"⟩
abbrev cX1_comes : ByteArray := prog_3_method_5_code
def yX1_comes : MethodName := ⟨RX1, "comes", "(I)Z"⟩
abbrev cX1_timeToDraw : ByteArray := prog_3_method_6_code
def yX1_timeToDraw : MethodName := ⟨RX1, "timeToDraw", "(I)I"⟩
abbrev cX1_firstComing : ByteArray := prog_3_method_7_code
def yX1_firstComing : MethodName := ⟨RX1, "firstComing", "(I)I"⟩
abbrev cX1_nextAt : ByteArray := prog_3_method_8_code
def yX1_nextAt : MethodName := ⟨RX1, "nextAt", "(II)I"⟩
abbrev cX1_goesBefore : ByteArray := prog_3_method_9_code
def yX1_goesBefore : MethodName := ⟨RX1, "goesBefore", "(III)Z"⟩
abbrev cX1_claimAt : ByteArray := prog_3_method_10_code
def yX1_claimAt : MethodName := ⟨RX1, "claimAt", "(II)I"⟩
def RX2 : String := "FarthestFirst$Well"
def TX2 : u_T := fun k => match k with
  | 0 => ("FarthestFirst$Well", "order", "[I", true)
  | 1 => ("FarthestFirst$Well", "begin", "[I", true)
  | 2 => ("FarthestFirst$Well", "end", "[I", true)
  | 3 => ("FarthestFirst$Well", "wait", "[I", true)
  | 4 => ("FarthestFirst$Well", "turns", "I", false)
  | 5 => ("FarthestFirst$Well", "worst", "I", false)
  | 6 => ("FarthestFirst$Well", "sum", "I", false)
  | 7 => ("FarthestFirst$Well", "time", "I", false)
  | 8 => ("FarthestFirst$Well", "comers", "I", false)
  | _ => ("FarthestFirst$Well", "rest", "I", false)
def tyX2 : Nat → FieldType := fun k => match k with
  | 0 => .array .int
  | 1 => .array .int
  | 2 => .array .int
  | 3 => .array .int
  | 4 => .int
  | 5 => .int
  | 6 => .int
  | 7 => .int
  | 8 => .int
  | _ => .int
theorem nmX2 : ∀ a, a < 10 → ∀ b, b < 10 → a ≠ b → (TX2 a).2.1 ≠ (TX2 b).2.1 := by decide +kernel
theorem tyX2_ok : ∀ k, k < 10 → parseFieldDescriptor (TX2 k).2.2.1 = some (tyX2 k) := by decide +kernel
abbrev cX2_init : ByteArray := prog_4_method_1_code
def yX2_init : MethodName := ⟨RX2, "<init>", "()V"⟩
abbrev cX2_run : ByteArray := prog_4_method_2_code
def yX2_run : MethodName := ⟨RX2, "run", "(LFarthestFirst$Village;I)V"⟩
abbrev cX2_keepsTo : ByteArray := prog_4_method_3_code
def yX2_keepsTo : MethodName := ⟨RX2, "keepsTo", "(LFarthestFirst$Village;LFarthestFirst$Pad;)Z"⟩
abbrev cX2_beginOfOneMore : ByteArray := prog_4_method_4_code
def yX2_beginOfOneMore : MethodName := ⟨RX2, "beginOfOneMore", "(LFarthestFirst$Village;I)I"⟩
abbrev cX2_worstOff : ByteArray := prog_4_method_5_code
def yX2_worstOff : MethodName := ⟨RX2, "worstOff", "()I"⟩
abbrev cX2_start : ByteArray := prog_4_method_6_code
def yX2_start : MethodName := ⟨RX2, "start", "(I)V"⟩
abbrev cX2_serveNext : ByteArray := prog_4_method_7_code
def yX2_serveNext : MethodName := ⟨RX2, "serveNext", "(LFarthestFirst$Village;)I"⟩
def RX3 : String := "FarthestFirst"
def TX3 : u_T := fun k => match k with
  | 0 => ("FarthestFirst", "now", "LFarthestFirst$Village;", true)
  | 1 => ("FarthestFirst", "trial", "LFarthestFirst$Village;", true)
  | 2 => ("FarthestFirst", "images", "[LFarthestFirst$Village;", true)
  | 3 => ("FarthestFirst", "kept", "[Z", true)
  | 4 => ("FarthestFirst", "well", "LFarthestFirst$Well;", true)
  | _ => ("FarthestFirst", "pad", "LFarthestFirst$Pad;", true)
def tyX3 : Nat → FieldType := fun k => match k with
  | 0 => .object "FarthestFirst$Village"
  | 1 => .object "FarthestFirst$Village"
  | 2 => .array (.object "FarthestFirst$Village")
  | 3 => .array .boolean
  | 4 => .object "FarthestFirst$Well"
  | _ => .object "FarthestFirst$Pad"
theorem nmX3 : ∀ a, a < 6 → ∀ b, b < 6 → a ≠ b → (TX3 a).2.1 ≠ (TX3 b).2.1 := by decide +kernel
theorem tyX3_ok : ∀ k, k < 6 → parseFieldDescriptor (TX3 k).2.2.1 = some (tyX3 k) := by decide +kernel
abbrev cX3_init : ByteArray := prog_1_method_1_code
def yX3_init : MethodName := ⟨RX3, "<init>", "()V"⟩
abbrev cX3_come : ByteArray := prog_1_method_2_code
def yX3_come : MethodName := ⟨RX3, "come", "(IIIIZ)I"⟩
abbrev cX3_stays : ByteArray := prog_1_method_3_code
def yX3_stays : MethodName := ⟨RX3, "stays", "(I)I"⟩
abbrev cX3_person : ByteArray := prog_1_method_4_code
def yX3_person : MethodName := ⟨RX3, "person", "(II)I"⟩
abbrev cX3_set : ByteArray := prog_1_method_5_code
def yX3_set : MethodName := ⟨RX3, "set", "(II)I"⟩
abbrev cX3_say : ByteArray := prog_1_method_6_code
def yX3_say : MethodName := ⟨RX3, "say", "(I)I"⟩
abbrev cX3_wipe : ByteArray := prog_1_method_7_code
def yX3_wipe : MethodName := ⟨RX3, "wipe", "()I"⟩
abbrev cX3_fault : ByteArray := prog_1_method_8_code
def yX3_fault : MethodName := ⟨RX3, "fault", "()I"⟩
abbrev cX3_served : ByteArray := prog_1_method_9_code
def yX3_served : MethodName := ⟨RX3, "served", "(I)I"⟩
abbrev cX3_waits : ByteArray := prog_1_method_10_code
def yX3_waits : MethodName := ⟨RX3, "waits", "(II)I"⟩
abbrev cX3_all : ByteArray := prog_1_method_11_code
def yX3_all : MethodName := ⟨RX3, "all", "(I)I"⟩
abbrev cX3_judge : ByteArray := prog_1_method_12_code
def yX3_judge : MethodName := ⟨RX3, "judge", "(I)I"⟩
abbrev cX3_left : ByteArray := prog_1_method_13_code
def yX3_left : MethodName := ⟨RX3, "left", "(II)I"⟩
abbrev cX3_best : ByteArray := prog_1_method_14_code
def yX3_best : MethodName := ⟨RX3, "best", "(IIII)I"⟩
abbrev cX3_walk : ByteArray := prog_1_method_15_code
def yX3_walk : MethodName := ⟨RX3, "walk", "(III)I"⟩
abbrev cX3_claim : ByteArray := prog_1_method_16_code
def yX3_claim : MethodName := ⟨RX3, "claim", "(II)I"⟩
abbrev cX3_lied : ByteArray := prog_1_method_17_code
def yX3_lied : MethodName := ⟨RX3, "lied", "()I"⟩
abbrev cX3_could : ByteArray := prog_1_method_18_code
def yX3_could : MethodName := ⟨RX3, "could", "(II)I"⟩
abbrev cX3_law : ByteArray := prog_1_method_19_code
def yX3_law : MethodName := ⟨RX3, "law", "(I)I"⟩
abbrev cX3_home : ByteArray := prog_1_method_20_code
def yX3_home : MethodName := ⟨RX3, "home", "(III)I"⟩
abbrev cX3_two : ByteArray := prog_1_method_21_code
def yX3_two : MethodName := ⟨RX3, "two", "(I)I"⟩
abbrev cX3_stay : ByteArray := prog_1_method_22_code
def yX3_stay : MethodName := ⟨RX3, "stay", "(I)I"⟩
abbrev cX3_day : ByteArray := prog_1_method_23_code
def yX3_day : MethodName := ⟨RX3, "day", "(II)I"⟩
abbrev cX3_image : ByteArray := prog_1_method_24_code
def yX3_image : MethodName := ⟨RX3, "image", "(I)I"⟩
abbrev cX3_restore : ByteArray := prog_1_method_25_code
def yX3_restore : MethodName := ⟨RX3, "restore", "(I)I"⟩
abbrev cX3_told : ByteArray := prog_1_method_26_code
def yX3_told : MethodName := ⟨RX3, "told", "(I)I"⟩
abbrev cX3_within : ByteArray := prog_1_method_27_code
def yX3_within : MethodName := ⟨RX3, "within", "(III)Z"⟩
abbrev cX3_leastOf : ByteArray := prog_1_method_28_code
def yX3_leastOf : MethodName := ⟨RX3, "leastOf", "(I)I"⟩
abbrev cX3_mostOf : ByteArray := prog_1_method_29_code
def yX3_mostOf : MethodName := ⟨RX3, "mostOf", "(I)I"⟩
abbrev cX3_leaveOut : ByteArray := prog_1_method_30_code
def yX3_leaveOut : MethodName := ⟨RX3, "leaveOut", "(I)V"⟩
abbrev cX3_beginIf : ByteArray := prog_1_method_31_code
def yX3_beginIf : MethodName := ⟨RX3, "beginIf", "(III)I"⟩
abbrev cX3_waitIf : ByteArray := prog_1_method_32_code
def yX3_waitIf : MethodName := ⟨RX3, "waitIf", "(III)I"⟩
abbrev cX3_endIfWalked : ByteArray := prog_1_method_33_code
def yX3_endIfWalked : MethodName := ⟨RX3, "endIfWalked", "(III)I"⟩
abbrev cX3_costOfLiving : ByteArray := prog_1_method_34_code
def yX3_costOfLiving : MethodName := ⟨RX3, "costOfLiving", "(III)I"⟩
abbrev cX3_allTold : ByteArray := prog_1_method_35_code
def yX3_allTold : MethodName := ⟨RX3, "allTold", "()Z"⟩
abbrev cX3_milesThatBring : ByteArray := prog_1_method_36_code
def yX3_milesThatBring : MethodName := ⟨RX3, "milesThatBring", "(IZ)I"⟩
abbrev cX3_runUnder : ByteArray := prog_1_method_37_code
def yX3_runUnder : MethodName := ⟨RX3, "runUnder", "(I)V"⟩
def RX4 : String := "FarthestFirstModel"
def TX4 : u_T := fun k => match k with
  | 0 => ("FarthestFirstModel", "coming", "I", false)
  | 1 => ("FarthestFirstModel", "miles", "[I", true)
  | 2 => ("FarthestFirstModel", "minute", "[I", true)
  | 3 => ("FarthestFirstModel", "pails", "[I", true)
  | 4 => ("FarthestFirstModel", "cart", "[I", true)
  | 5 => ("FarthestFirstModel", "draw", "I", false)
  | 6 => ("FarthestFirstModel", "far", "I", false)
  | 7 => ("FarthestFirstModel", "stood", "I", false)
  | 8 => ("FarthestFirstModel", "halved", "I", false)
  | 9 => ("FarthestFirstModel", "pad", "[I", true)
  | 10 => ("FarthestFirstModel", "padMany", "I", false)
  | 11 => ("FarthestFirstModel", "from", "[I", true)
  | 12 => ("FarthestFirstModel", "at", "[I", true)
  | 13 => ("FarthestFirstModel", "waited", "[I", true)
  | 14 => ("FarthestFirstModel", "ended", "[I", true)
  | 15 => ("FarthestFirstModel", "took", "[I", true)
  | 16 => ("FarthestFirstModel", "order", "[I", true)
  | 17 => ("FarthestFirstModel", "many", "I", false)
  | 18 => ("FarthestFirstModel", "byFar", "I", false)
  | 19 => ("FarthestFirstModel", "byStood", "I", false)
  | 20 => ("FarthestFirstModel", "kept", "[I", true)
  | 21 => ("FarthestFirstModel", "isKept", "[Z", true)
  | 22 => ("FarthestFirstModel", "keptAt", "I", false)
  | _ => ("FarthestFirstModel", "isWriting", "Z", false)
def tyX4 : Nat → FieldType := fun k => match k with
  | 0 => .int
  | 1 => .array .int
  | 2 => .array .int
  | 3 => .array .int
  | 4 => .array .int
  | 5 => .int
  | 6 => .int
  | 7 => .int
  | 8 => .int
  | 9 => .array .int
  | 10 => .int
  | 11 => .array .int
  | 12 => .array .int
  | 13 => .array .int
  | 14 => .array .int
  | 15 => .array .int
  | 16 => .array .int
  | 17 => .int
  | 18 => .int
  | 19 => .int
  | 20 => .array .int
  | 21 => .array .boolean
  | 22 => .int
  | _ => .boolean
theorem nmX4 : ∀ a, a < 24 → ∀ b, b < 24 → a ≠ b → (TX4 a).2.1 ≠ (TX4 b).2.1 := by decide +kernel
theorem tyX4_ok : ∀ k, k < 24 → parseFieldDescriptor (TX4 k).2.2.1 = some (tyX4 k) := by decide +kernel
abbrev cX4_init : ByteArray := prog_6_method_1_code
def yX4_init : MethodName := ⟨RX4, "<init>", "()V"⟩
abbrev cX4_in : ByteArray := prog_6_method_3_code
def yX4_in : MethodName := ⟨RX4, "in", "(JJJ)Z"⟩
abbrev cX4_ones : ByteArray := prog_6_method_4_code
def yX4_ones : MethodName := ⟨RX4, "ones", "(I)I"⟩
abbrev cX4_isPerson : ByteArray := prog_6_method_5_code
def yX4_isPerson : MethodName := ⟨RX4, "isPerson", "(I)Z"⟩
abbrev cX4_comes : ByteArray := prog_6_method_6_code
def yX4_comes : MethodName := ⟨RX4, "comes", "(I)Z"⟩
abbrev cX4_come : ByteArray := prog_6_method_7_code
def yX4_come : MethodName := ⟨RX4, "come", "(IIIIZ)I"⟩
abbrev cX4_stays : ByteArray := prog_6_method_8_code
def yX4_stays : MethodName := ⟨RX4, "stays", "(I)I"⟩
abbrev cX4_person : ByteArray := prog_6_method_9_code
def yX4_person : MethodName := ⟨RX4, "person", "(II)I"⟩
abbrev cX4_set : ByteArray := prog_6_method_10_code
def yX4_set : MethodName := ⟨RX4, "set", "(II)I"⟩
abbrev cX4_say : ByteArray := prog_6_method_11_code
def yX4_say : MethodName := ⟨RX4, "say", "(I)I"⟩
abbrev cX4_wipe : ByteArray := prog_6_method_12_code
def yX4_wipe : MethodName := ⟨RX4, "wipe", "()I"⟩
abbrev cX4_fault : ByteArray := prog_6_method_13_code
def yX4_fault : MethodName := ⟨RX4, "fault", "()I"⟩
abbrev cX4_layNow : ByteArray := prog_6_method_14_code
def yX4_layNow : MethodName := ⟨RX4, "layNow", "()V"⟩
abbrev cX4_claimOf : ByteArray := prog_6_method_15_code
def yX4_claimOf : MethodName := ⟨RX4, "claimOf", "(II)I"⟩
abbrev cX4_isAhead : ByteArray := prog_6_method_16_code
def yX4_isAhead : MethodName := ⟨RX4, "isAhead", "(III)Z"⟩
abbrev cX4_nextOf : ByteArray := prog_6_method_17_code
def yX4_nextOf : MethodName := ⟨RX4, "nextOf", "(II)I"⟩
abbrev cX4_soonest : ByteArray := prog_6_method_18_code
def yX4_soonest : MethodName := ⟨RX4, "soonest", "(I)I"⟩
abbrev cX4_go : ByteArray := prog_6_method_19_code
def yX4_go : MethodName := ⟨RX4, "go", "(II)V"⟩
abbrev cX4_worstOf : ByteArray := prog_6_method_20_code
def yX4_worstOf : MethodName := ⟨RX4, "worstOf", "(I)I"⟩
abbrev cX4_sumOf : ByteArray := prog_6_method_21_code
def yX4_sumOf : MethodName := ⟨RX4, "sumOf", "(I)I"⟩
abbrev cX4_goNow : ByteArray := prog_6_method_22_code
def yX4_goNow : MethodName := ⟨RX4, "goNow", "()V"⟩
abbrev cX4_served : ByteArray := prog_6_method_23_code
def yX4_served : MethodName := ⟨RX4, "served", "(I)I"⟩
abbrev cX4_waits : ByteArray := prog_6_method_24_code
def yX4_waits : MethodName := ⟨RX4, "waits", "(II)I"⟩
abbrev cX4_whose : ByteArray := prog_6_method_25_code
def yX4_whose : MethodName := ⟨RX4, "whose", "()I"⟩
abbrev cX4_all : ByteArray := prog_6_method_26_code
def yX4_all : MethodName := ⟨RX4, "all", "(I)I"⟩
abbrev cX4_judge : ByteArray := prog_6_method_27_code
def yX4_judge : MethodName := ⟨RX4, "judge", "(I)I"⟩
abbrev cX4_left : ByteArray := prog_6_method_28_code
def yX4_left : MethodName := ⟨RX4, "left", "(II)I"⟩
abbrev cX4_best : ByteArray := prog_6_method_29_code
def yX4_best : MethodName := ⟨RX4, "best", "(IIII)I"⟩
abbrev cX4_walk : ByteArray := prog_6_method_30_code
def yX4_walk : MethodName := ⟨RX4, "walk", "(III)I"⟩
abbrev cX4_claim : ByteArray := prog_6_method_31_code
def yX4_claim : MethodName := ⟨RX4, "claim", "(II)I"⟩
abbrev cX4_isRow : ByteArray := prog_6_method_32_code
def yX4_isRow : MethodName := ⟨RX4, "isRow", "()Z"⟩
abbrev cX4_areAllTold : ByteArray := prog_6_method_33_code
def yX4_areAllTold : MethodName := ⟨RX4, "areAllTold", "()Z"⟩
abbrev cX4_isRowBy : ByteArray := prog_6_method_34_code
def yX4_isRowBy : MethodName := ⟨RX4, "isRowBy", "(II)Z"⟩
abbrev cX4_lied : ByteArray := prog_6_method_35_code
def yX4_lied : MethodName := ⟨RX4, "lied", "()I"⟩
abbrev cX4_could : ByteArray := prog_6_method_36_code
def yX4_could : MethodName := ⟨RX4, "could", "(II)I"⟩
abbrev cX4_law : ByteArray := prog_6_method_37_code
def yX4_law : MethodName := ⟨RX4, "law", "(I)I"⟩
abbrev cX4_home : ByteArray := prog_6_method_38_code
def yX4_home : MethodName := ⟨RX4, "home", "(III)I"⟩
abbrev cX4_two : ByteArray := prog_6_method_39_code
def yX4_two : MethodName := ⟨RX4, "two", "(I)I"⟩
abbrev cX4_stay : ByteArray := prog_6_method_40_code
def yX4_stay : MethodName := ⟨RX4, "stay", "(I)I"⟩
abbrev cX4_day : ByteArray := prog_6_method_41_code
def yX4_day : MethodName := ⟨RX4, "day", "(II)I"⟩
abbrev cX4_pass : ByteArray := prog_6_method_42_code
def yX4_pass : MethodName := ⟨RX4, "pass", "(I)I"⟩
abbrev cX4_passAll : ByteArray := prog_6_method_43_code
def yX4_passAll : MethodName := ⟨RX4, "passAll", "()V"⟩
abbrev cX4_image : ByteArray := prog_6_method_44_code
def yX4_image : MethodName := ⟨RX4, "image", "(I)I"⟩
abbrev cX4_restore : ByteArray := prog_6_method_45_code
def yX4_restore : MethodName := ⟨RX4, "restore", "(I)I"⟩
abbrev cX4_told : ByteArray := prog_6_method_46_code
def yX4_told : MethodName := ⟨RX4, "told", "(I)I"⟩
def RJ6 : String := "java/lang/Integer"
abbrev cJ6_bitCount_0f7a4 : ByteArray := prog_7_method_49_code
def yJ6_bitCount_0f7a4 : MethodName := ⟨RJ6, "bitCount", "(I)I"⟩
def RJ9 : String := "java/lang/Math"
abbrev cJ9_max_7cf53 : ByteArray := prog_8_method_65_code
def yJ9_max_7cf53 : MethodName := ⟨RJ9, "max", "(II)I"⟩
abbrev cJ9_min_7cf53 : ByteArray := prog_8_method_69_code
def yJ9_min_7cf53 : MethodName := ⟨RJ9, "min", "(II)I"⟩
def RL : String := "FarthestFirstLaw"
abbrev cL_law : ByteArray := code
def yL_law : MethodName := ⟨RL, "law", "([I)Z"⟩
abbrev classes : List vw_C := [(RX0, TX0, 2), (RX1, TX1, 6), (RX2, TX2, 10), (RX3, TX3, 6), (RX4, TX4, 24)]
end
section
theorem dX0_init_0 : decode cX0_init 0 = .ok (.aload_n 0, 1) := by decide +kernel
theorem dX0_init_1 : decode cX0_init 1 = .ok (.invokespecial 3, 3) := by decide +kernel
theorem dX0_init_4 : decode cX0_init 4 = .ok (.aload_n 0, 1) := by decide +kernel
theorem dX0_init_5 : decode cX0_init 5 = .ok (.bipush 40, 2) := by decide +kernel
theorem dX0_init_7 : decode cX0_init 7 = .ok (.newarray .int, 2) := by decide +kernel
theorem dX0_init_9 : decode cX0_init 9 = .ok (.putfield 11, 3) := by decide +kernel
theorem dX0_init_12 : decode cX0_init 12 = .ok (.return_, 1) := by decide +kernel
theorem dX0_add_0 : decode cX0_add 0 = .ok (.aload_n 0, 1) := by decide +kernel
theorem dX0_add_1 : decode cX0_add 1 = .ok (.getfield 15, 3) := by decide +kernel
theorem dX0_add_4 : decode cX0_add 4 = .ok (.bipush 40, 2) := by decide +kernel
theorem dX0_add_6 : decode cX0_add 6 = .ok (.if_icmp .lt 5, 3) := by decide +kernel
theorem dX0_add_9 : decode cX0_add 9 = .ok (.iconst 0, 1) := by decide +kernel
theorem dX0_add_10 : decode cX0_add 10 = .ok (.ireturn, 1) := by decide +kernel
theorem dX0_add_11 : decode cX0_add 11 = .ok (.aload_n 0, 1) := by decide +kernel
theorem dX0_add_12 : decode cX0_add 12 = .ok (.getfield 11, 3) := by decide +kernel
theorem dX0_add_15 : decode cX0_add 15 = .ok (.aload_n 0, 1) := by decide +kernel
theorem dX0_add_16 : decode cX0_add 16 = .ok (.getfield 15, 3) := by decide +kernel
theorem dX0_add_19 : decode cX0_add 19 = .ok (.iload_n 1, 1) := by decide +kernel
theorem dX0_add_20 : decode cX0_add 20 = .ok (.iastore, 1) := by decide +kernel
theorem dX0_add_21 : decode cX0_add 21 = .ok (.aload_n 0, 1) := by decide +kernel
theorem dX0_add_22 : decode cX0_add 22 = .ok (.dup, 1) := by decide +kernel
theorem dX0_add_23 : decode cX0_add 23 = .ok (.getfield 15, 3) := by decide +kernel
theorem dX0_add_26 : decode cX0_add 26 = .ok (.iconst 1, 1) := by decide +kernel
theorem dX0_add_27 : decode cX0_add 27 = .ok (.iadd, 1) := by decide +kernel
theorem dX0_add_28 : decode cX0_add 28 = .ok (.putfield 15, 3) := by decide +kernel
theorem dX0_add_31 : decode cX0_add 31 = .ok (.iconst 1, 1) := by decide +kernel
theorem dX0_add_32 : decode cX0_add 32 = .ok (.ireturn, 1) := by decide +kernel
theorem dX0_personAt_0 : decode cX0_personAt 0 = .ok (.iload_n 1, 1) := by decide +kernel
theorem dX0_personAt_1 : decode cX0_personAt 1 = .ok (.ifCond .lt 11, 3) := by decide +kernel
theorem dX0_personAt_4 : decode cX0_personAt 4 = .ok (.iload_n 1, 1) := by decide +kernel
theorem dX0_personAt_5 : decode cX0_personAt 5 = .ok (.aload_n 0, 1) := by decide +kernel
theorem dX0_personAt_6 : decode cX0_personAt 6 = .ok (.getfield 15, 3) := by decide +kernel
theorem dX0_personAt_9 : decode cX0_personAt 9 = .ok (.if_icmp .lt 6, 3) := by decide +kernel
theorem dX0_personAt_12 : decode cX0_personAt 12 = .ok (.bipush (-6), 2) := by decide +kernel
theorem dX0_personAt_14 : decode cX0_personAt 14 = .ok (.ireturn, 1) := by decide +kernel
theorem dX0_personAt_15 : decode cX0_personAt 15 = .ok (.aload_n 0, 1) := by decide +kernel
theorem dX0_personAt_16 : decode cX0_personAt 16 = .ok (.getfield 11, 3) := by decide +kernel
theorem dX0_personAt_19 : decode cX0_personAt 19 = .ok (.iload_n 1, 1) := by decide +kernel
theorem dX0_personAt_20 : decode cX0_personAt 20 = .ok (.iaload, 1) := by decide +kernel
theorem dX0_personAt_21 : decode cX0_personAt 21 = .ok (.bipush 65, 2) := by decide +kernel
theorem dX0_personAt_23 : decode cX0_personAt 23 = .ok (.isub, 1) := by decide +kernel
theorem dX0_personAt_24 : decode cX0_personAt 24 = .ok (.istore_n 2, 1) := by decide +kernel
theorem dX0_personAt_25 : decode cX0_personAt 25 = .ok (.iload_n 2, 1) := by decide +kernel
theorem dX0_personAt_26 : decode cX0_personAt 26 = .ok (.ifCond .lt 13, 3) := by decide +kernel
theorem dX0_personAt_29 : decode cX0_personAt 29 = .ok (.iload_n 2, 1) := by decide +kernel
theorem dX0_personAt_30 : decode cX0_personAt 30 = .ok (.bipush 8, 2) := by decide +kernel
theorem dX0_personAt_32 : decode cX0_personAt 32 = .ok (.if_icmp .ge 7, 3) := by decide +kernel
theorem dX0_personAt_35 : decode cX0_personAt 35 = .ok (.iload_n 2, 1) := by decide +kernel
theorem dX0_personAt_36 : decode cX0_personAt 36 = .ok (.goto 5, 3) := by decide +kernel
theorem dX0_personAt_39 : decode cX0_personAt 39 = .ok (.bipush (-6), 2) := by decide +kernel
theorem dX0_personAt_41 : decode cX0_personAt 41 = .ok (.ireturn, 1) := by decide +kernel
theorem dX0_faultAmong_0 : decode cX0_faultAmong 0 = .ok (.iload_n 1, 1) := by decide +kernel
theorem dX0_faultAmong_1 : decode cX0_faultAmong 1 = .ok (.istore_n 2, 1) := by decide +kernel
theorem dX0_faultAmong_2 : decode cX0_faultAmong 2 = .ok (.iconst 0, 1) := by decide +kernel
theorem dX0_faultAmong_3 : decode cX0_faultAmong 3 = .ok (.istore_n 3, 1) := by decide +kernel
theorem dX0_faultAmong_4 : decode cX0_faultAmong 4 = .ok (.iload_n 3, 1) := by decide +kernel
theorem dX0_faultAmong_5 : decode cX0_faultAmong 5 = .ok (.aload_n 0, 1) := by decide +kernel
theorem dX0_faultAmong_6 : decode cX0_faultAmong 6 = .ok (.getfield 15, 3) := by decide +kernel
theorem dX0_faultAmong_9 : decode cX0_faultAmong 9 = .ok (.if_icmp .ge 43, 3) := by decide +kernel
theorem dX0_faultAmong_12 : decode cX0_faultAmong 12 = .ok (.aload_n 0, 1) := by decide +kernel
theorem dX0_faultAmong_13 : decode cX0_faultAmong 13 = .ok (.iload_n 3, 1) := by decide +kernel
theorem dX0_faultAmong_14 : decode cX0_faultAmong 14 = .ok (.invokevirtual 19, 3) := by decide +kernel
theorem dX0_faultAmong_17 : decode cX0_faultAmong 17 = .ok (.istore 4, 2) := by decide +kernel
theorem dX0_faultAmong_19 : decode cX0_faultAmong 19 = .ok (.iload 4, 2) := by decide +kernel
theorem dX0_faultAmong_21 : decode cX0_faultAmong 21 = .ok (.bipush (-6), 2) := by decide +kernel
theorem dX0_faultAmong_23 : decode cX0_faultAmong 23 = .ok (.if_icmp .eq 12, 3) := by decide +kernel
theorem dX0_faultAmong_26 : decode cX0_faultAmong 26 = .ok (.iload_n 2, 1) := by decide +kernel
theorem dX0_faultAmong_27 : decode cX0_faultAmong 27 = .ok (.iload 4, 2) := by decide +kernel
theorem dX0_faultAmong_29 : decode cX0_faultAmong 29 = .ok (.ishr, 1) := by decide +kernel
theorem dX0_faultAmong_30 : decode cX0_faultAmong 30 = .ok (.iconst 1, 1) := by decide +kernel
theorem dX0_faultAmong_31 : decode cX0_faultAmong 31 = .ok (.iand, 1) := by decide +kernel
theorem dX0_faultAmong_32 : decode cX0_faultAmong 32 = .ok (.ifCond .ne 5, 3) := by decide +kernel
theorem dX0_faultAmong_35 : decode cX0_faultAmong 35 = .ok (.iload_n 3, 1) := by decide +kernel
theorem dX0_faultAmong_36 : decode cX0_faultAmong 36 = .ok (.ireturn, 1) := by decide +kernel
theorem dX0_faultAmong_37 : decode cX0_faultAmong 37 = .ok (.iload_n 2, 1) := by decide +kernel
theorem dX0_faultAmong_38 : decode cX0_faultAmong 38 = .ok (.iconst 1, 1) := by decide +kernel
theorem dX0_faultAmong_39 : decode cX0_faultAmong 39 = .ok (.iload 4, 2) := by decide +kernel
theorem dX0_faultAmong_41 : decode cX0_faultAmong 41 = .ok (.ishl, 1) := by decide +kernel
theorem dX0_faultAmong_42 : decode cX0_faultAmong 42 = .ok (.iconst (-1), 1) := by decide +kernel
theorem dX0_faultAmong_43 : decode cX0_faultAmong 43 = .ok (.ixor, 1) := by decide +kernel
theorem dX0_faultAmong_44 : decode cX0_faultAmong 44 = .ok (.iand, 1) := by decide +kernel
theorem dX0_faultAmong_45 : decode cX0_faultAmong 45 = .ok (.istore_n 2, 1) := by decide +kernel
theorem dX0_faultAmong_46 : decode cX0_faultAmong 46 = .ok (.iinc 3 1, 3) := by decide +kernel
theorem dX0_faultAmong_49 : decode cX0_faultAmong 49 = .ok (.goto (-45), 3) := by decide +kernel
theorem dX0_faultAmong_52 : decode cX0_faultAmong 52 = .ok (.bipush (-6), 2) := by decide +kernel
theorem dX0_faultAmong_54 : decode cX0_faultAmong 54 = .ok (.ireturn, 1) := by decide +kernel
theorem dX1_init_0 : decode cX1_init 0 = .ok (.aload_n 0, 1) := by decide +kernel
theorem dX1_init_1 : decode cX1_init 1 = .ok (.invokespecial 3, 3) := by decide +kernel
theorem dX1_init_4 : decode cX1_init 4 = .ok (.aload_n 0, 1) := by decide +kernel
theorem dX1_init_5 : decode cX1_init 5 = .ok (.bipush 8, 2) := by decide +kernel
theorem dX1_init_7 : decode cX1_init 7 = .ok (.newarray .int, 2) := by decide +kernel
theorem dX1_init_9 : decode cX1_init 9 = .ok (.putfield 9, 3) := by decide +kernel
theorem dX1_init_12 : decode cX1_init 12 = .ok (.aload_n 0, 1) := by decide +kernel
theorem dX1_init_13 : decode cX1_init 13 = .ok (.bipush 8, 2) := by decide +kernel
theorem dX1_init_15 : decode cX1_init 15 = .ok (.newarray .int, 2) := by decide +kernel
theorem dX1_init_17 : decode cX1_init 17 = .ok (.putfield 15, 3) := by decide +kernel
theorem dX1_init_20 : decode cX1_init 20 = .ok (.aload_n 0, 1) := by decide +kernel
theorem dX1_init_21 : decode cX1_init 21 = .ok (.bipush 8, 2) := by decide +kernel
theorem dX1_init_23 : decode cX1_init 23 = .ok (.newarray .int, 2) := by decide +kernel
theorem dX1_init_25 : decode cX1_init 25 = .ok (.putfield 18, 3) := by decide +kernel
theorem dX1_init_28 : decode cX1_init 28 = .ok (.aload_n 0, 1) := by decide +kernel
theorem dX1_init_29 : decode cX1_init 29 = .ok (.bipush 8, 2) := by decide +kernel
theorem dX1_init_31 : decode cX1_init 31 = .ok (.newarray .boolean, 2) := by decide +kernel
theorem dX1_init_33 : decode cX1_init 33 = .ok (.putfield 21, 3) := by decide +kernel
theorem dX1_init_36 : decode cX1_init 36 = .ok (.aload_n 0, 1) := by decide +kernel
theorem dX1_init_37 : decode cX1_init 37 = .ok (.iconst 4, 1) := by decide +kernel
theorem dX1_init_38 : decode cX1_init 38 = .ok (.newarray .int, 2) := by decide +kernel
theorem dX1_init_40 : decode cX1_init 40 = .ok (.putfield 25, 3) := by decide +kernel
theorem dX1_init_43 : decode cX1_init 43 = .ok (.aload_n 0, 1) := by decide +kernel
theorem dX1_init_44 : decode cX1_init 44 = .ok (.getfield 25, 3) := by decide +kernel
theorem dX1_init_47 : decode cX1_init 47 = .ok (.iconst 0, 1) := by decide +kernel
theorem dX1_init_48 : decode cX1_init 48 = .ok (.iconst 2, 1) := by decide +kernel
theorem dX1_init_49 : decode cX1_init 49 = .ok (.iastore, 1) := by decide +kernel
theorem dX1_init_50 : decode cX1_init 50 = .ok (.aload_n 0, 1) := by decide +kernel
theorem dX1_init_51 : decode cX1_init 51 = .ok (.getfield 25, 3) := by decide +kernel
theorem dX1_init_54 : decode cX1_init 54 = .ok (.iconst 1, 1) := by decide +kernel
theorem dX1_init_55 : decode cX1_init 55 = .ok (.iconst 1, 1) := by decide +kernel
theorem dX1_init_56 : decode cX1_init 56 = .ok (.iastore, 1) := by decide +kernel
theorem dX1_init_57 : decode cX1_init 57 = .ok (.return_, 1) := by decide +kernel
theorem dX1_copy_0 : decode cX1_copy 0 = .ok (.iconst 0, 1) := by decide +kernel
theorem dX1_copy_1 : decode cX1_copy 1 = .ok (.istore_n 2, 1) := by decide +kernel
theorem dX1_copy_2 : decode cX1_copy 2 = .ok (.iload_n 2, 1) := by decide +kernel
theorem dX1_copy_3 : decode cX1_copy 3 = .ok (.bipush 8, 2) := by decide +kernel
theorem dX1_copy_5 : decode cX1_copy 5 = .ok (.if_icmp .ge 57, 3) := by decide +kernel
theorem dX1_copy_8 : decode cX1_copy 8 = .ok (.aload_n 0, 1) := by decide +kernel
theorem dX1_copy_9 : decode cX1_copy 9 = .ok (.getfield 9, 3) := by decide +kernel
theorem dX1_copy_12 : decode cX1_copy 12 = .ok (.iload_n 2, 1) := by decide +kernel
theorem dX1_copy_13 : decode cX1_copy 13 = .ok (.aload_n 1, 1) := by decide +kernel
theorem dX1_copy_14 : decode cX1_copy 14 = .ok (.getfield 9, 3) := by decide +kernel
theorem dX1_copy_17 : decode cX1_copy 17 = .ok (.iload_n 2, 1) := by decide +kernel
theorem dX1_copy_18 : decode cX1_copy 18 = .ok (.iaload, 1) := by decide +kernel
theorem dX1_copy_19 : decode cX1_copy 19 = .ok (.iastore, 1) := by decide +kernel
theorem dX1_copy_20 : decode cX1_copy 20 = .ok (.aload_n 0, 1) := by decide +kernel
theorem dX1_copy_21 : decode cX1_copy 21 = .ok (.getfield 15, 3) := by decide +kernel
theorem dX1_copy_24 : decode cX1_copy 24 = .ok (.iload_n 2, 1) := by decide +kernel
theorem dX1_copy_25 : decode cX1_copy 25 = .ok (.aload_n 1, 1) := by decide +kernel
theorem dX1_copy_26 : decode cX1_copy 26 = .ok (.getfield 15, 3) := by decide +kernel
theorem dX1_copy_29 : decode cX1_copy 29 = .ok (.iload_n 2, 1) := by decide +kernel
theorem dX1_copy_30 : decode cX1_copy 30 = .ok (.iaload, 1) := by decide +kernel
theorem dX1_copy_31 : decode cX1_copy 31 = .ok (.iastore, 1) := by decide +kernel
theorem dX1_copy_32 : decode cX1_copy 32 = .ok (.aload_n 0, 1) := by decide +kernel
theorem dX1_copy_33 : decode cX1_copy 33 = .ok (.getfield 18, 3) := by decide +kernel
theorem dX1_copy_36 : decode cX1_copy 36 = .ok (.iload_n 2, 1) := by decide +kernel
theorem dX1_copy_37 : decode cX1_copy 37 = .ok (.aload_n 1, 1) := by decide +kernel
theorem dX1_copy_38 : decode cX1_copy 38 = .ok (.getfield 18, 3) := by decide +kernel
theorem dX1_copy_41 : decode cX1_copy 41 = .ok (.iload_n 2, 1) := by decide +kernel
theorem dX1_copy_42 : decode cX1_copy 42 = .ok (.iaload, 1) := by decide +kernel
theorem dX1_copy_43 : decode cX1_copy 43 = .ok (.iastore, 1) := by decide +kernel
theorem dX1_copy_44 : decode cX1_copy 44 = .ok (.aload_n 0, 1) := by decide +kernel
theorem dX1_copy_45 : decode cX1_copy 45 = .ok (.getfield 21, 3) := by decide +kernel
theorem dX1_copy_48 : decode cX1_copy 48 = .ok (.iload_n 2, 1) := by decide +kernel
theorem dX1_copy_49 : decode cX1_copy 49 = .ok (.aload_n 1, 1) := by decide +kernel
theorem dX1_copy_50 : decode cX1_copy 50 = .ok (.getfield 21, 3) := by decide +kernel
theorem dX1_copy_53 : decode cX1_copy 53 = .ok (.iload_n 2, 1) := by decide +kernel
theorem dX1_copy_54 : decode cX1_copy 54 = .ok (.baload, 1) := by decide +kernel
theorem dX1_copy_55 : decode cX1_copy 55 = .ok (.bastore, 1) := by decide +kernel
theorem dX1_copy_56 : decode cX1_copy 56 = .ok (.iinc 2 1, 3) := by decide +kernel
theorem dX1_copy_59 : decode cX1_copy 59 = .ok (.goto (-57), 3) := by decide +kernel
theorem dX1_copy_62 : decode cX1_copy 62 = .ok (.iconst 0, 1) := by decide +kernel
theorem dX1_copy_63 : decode cX1_copy 63 = .ok (.istore_n 2, 1) := by decide +kernel
theorem dX1_copy_64 : decode cX1_copy 64 = .ok (.iload_n 2, 1) := by decide +kernel
theorem dX1_copy_65 : decode cX1_copy 65 = .ok (.iconst 4, 1) := by decide +kernel
theorem dX1_copy_66 : decode cX1_copy 66 = .ok (.if_icmp .ge 21, 3) := by decide +kernel
theorem dX1_copy_69 : decode cX1_copy 69 = .ok (.aload_n 0, 1) := by decide +kernel
theorem dX1_copy_70 : decode cX1_copy 70 = .ok (.getfield 25, 3) := by decide +kernel
theorem dX1_copy_73 : decode cX1_copy 73 = .ok (.iload_n 2, 1) := by decide +kernel
theorem dX1_copy_74 : decode cX1_copy 74 = .ok (.aload_n 1, 1) := by decide +kernel
theorem dX1_copy_75 : decode cX1_copy 75 = .ok (.getfield 25, 3) := by decide +kernel
theorem dX1_copy_78 : decode cX1_copy 78 = .ok (.iload_n 2, 1) := by decide +kernel
theorem dX1_copy_79 : decode cX1_copy 79 = .ok (.iaload, 1) := by decide +kernel
theorem dX1_copy_80 : decode cX1_copy 80 = .ok (.iastore, 1) := by decide +kernel
theorem dX1_copy_81 : decode cX1_copy 81 = .ok (.iinc 2 1, 3) := by decide +kernel
theorem dX1_copy_84 : decode cX1_copy 84 = .ok (.goto (-20), 3) := by decide +kernel
theorem dX1_copy_87 : decode cX1_copy 87 = .ok (.aload_n 0, 1) := by decide +kernel
theorem dX1_copy_88 : decode cX1_copy 88 = .ok (.aload_n 1, 1) := by decide +kernel
theorem dX1_copy_89 : decode cX1_copy 89 = .ok (.getfield 28, 3) := by decide +kernel
theorem dX1_copy_92 : decode cX1_copy 92 = .ok (.putfield 28, 3) := by decide +kernel
theorem dX1_copy_95 : decode cX1_copy 95 = .ok (.return_, 1) := by decide +kernel
theorem dX1_setting_0 : decode cX1_setting 0 = .ok (.iload_n 1, 1) := by decide +kernel
theorem dX1_setting_1 : decode cX1_setting 1 = .ok (.ifCond .lt 17, 3) := by decide +kernel
theorem dX1_setting_4 : decode cX1_setting 4 = .ok (.iload_n 1, 1) := by decide +kernel
theorem dX1_setting_5 : decode cX1_setting 5 = .ok (.iconst 4, 1) := by decide +kernel
theorem dX1_setting_6 : decode cX1_setting 6 = .ok (.if_icmp .ge 12, 3) := by decide +kernel
theorem dX1_setting_9 : decode cX1_setting 9 = .ok (.aload_n 0, 1) := by decide +kernel
theorem dX1_setting_10 : decode cX1_setting 10 = .ok (.getfield 25, 3) := by decide +kernel
theorem dX1_setting_13 : decode cX1_setting 13 = .ok (.iload_n 1, 1) := by decide +kernel
theorem dX1_setting_14 : decode cX1_setting 14 = .ok (.iaload, 1) := by decide +kernel
theorem dX1_setting_15 : decode cX1_setting 15 = .ok (.goto 5, 3) := by decide +kernel
theorem dX1_setting_18 : decode cX1_setting 18 = .ok (.bipush (-2), 2) := by decide +kernel
theorem dX1_setting_20 : decode cX1_setting 20 = .ok (.ireturn, 1) := by decide +kernel
theorem dX1_change_0 : decode cX1_change 0 = .ok (.iload_n 1, 1) := by decide +kernel
theorem dX1_change_1 : decode cX1_change 1 = .ok (.ifCond .lt 15, 3) := by decide +kernel
theorem dX1_change_4 : decode cX1_change 4 = .ok (.iload_n 1, 1) := by decide +kernel
theorem dX1_change_5 : decode cX1_change 5 = .ok (.iconst 4, 1) := by decide +kernel
theorem dX1_change_6 : decode cX1_change 6 = .ok (.if_icmp .ge 10, 3) := by decide +kernel
theorem dX1_change_9 : decode cX1_change 9 = .ok (.aload_n 0, 1) := by decide +kernel
theorem dX1_change_10 : decode cX1_change 10 = .ok (.getfield 25, 3) := by decide +kernel
theorem dX1_change_13 : decode cX1_change 13 = .ok (.iload_n 1, 1) := by decide +kernel
theorem dX1_change_14 : decode cX1_change 14 = .ok (.iload_n 2, 1) := by decide +kernel
theorem dX1_change_15 : decode cX1_change 15 = .ok (.iastore, 1) := by decide +kernel
theorem dX1_change_16 : decode cX1_change 16 = .ok (.return_, 1) := by decide +kernel
theorem dX1_comes_0 : decode cX1_comes 0 = .ok (.iload_n 1, 1) := by decide +kernel
theorem dX1_comes_1 : decode cX1_comes 1 = .ok (.ifCond .lt 24, 3) := by decide +kernel
theorem dX1_comes_4 : decode cX1_comes 4 = .ok (.iload_n 1, 1) := by decide +kernel
theorem dX1_comes_5 : decode cX1_comes 5 = .ok (.bipush 8, 2) := by decide +kernel
theorem dX1_comes_7 : decode cX1_comes 7 = .ok (.if_icmp .ge 18, 3) := by decide +kernel
theorem dX1_comes_10 : decode cX1_comes 10 = .ok (.aload_n 0, 1) := by decide +kernel
theorem dX1_comes_11 : decode cX1_comes 11 = .ok (.getfield 28, 3) := by decide +kernel
theorem dX1_comes_14 : decode cX1_comes 14 = .ok (.iload_n 1, 1) := by decide +kernel
theorem dX1_comes_15 : decode cX1_comes 15 = .ok (.ishr, 1) := by decide +kernel
theorem dX1_comes_16 : decode cX1_comes 16 = .ok (.iconst 1, 1) := by decide +kernel
theorem dX1_comes_17 : decode cX1_comes 17 = .ok (.iand, 1) := by decide +kernel
theorem dX1_comes_18 : decode cX1_comes 18 = .ok (.ifCond .eq 7, 3) := by decide +kernel
theorem dX1_comes_21 : decode cX1_comes 21 = .ok (.iconst 1, 1) := by decide +kernel
theorem dX1_comes_22 : decode cX1_comes 22 = .ok (.goto 4, 3) := by decide +kernel
theorem dX1_comes_25 : decode cX1_comes 25 = .ok (.iconst 0, 1) := by decide +kernel
theorem dX1_comes_26 : decode cX1_comes 26 = .ok (.ireturn, 1) := by decide +kernel
theorem dX1_timeToDraw_0 : decode cX1_timeToDraw 0 = .ok (.aload_n 0, 1) := by decide +kernel
theorem dX1_timeToDraw_1 : decode cX1_timeToDraw 1 = .ok (.getfield 25, 3) := by decide +kernel
theorem dX1_timeToDraw_4 : decode cX1_timeToDraw 4 = .ok (.iconst 0, 1) := by decide +kernel
theorem dX1_timeToDraw_5 : decode cX1_timeToDraw 5 = .ok (.iaload, 1) := by decide +kernel
theorem dX1_timeToDraw_6 : decode cX1_timeToDraw 6 = .ok (.aload_n 0, 1) := by decide +kernel
theorem dX1_timeToDraw_7 : decode cX1_timeToDraw 7 = .ok (.getfield 18, 3) := by decide +kernel
theorem dX1_timeToDraw_10 : decode cX1_timeToDraw 10 = .ok (.iload_n 1, 1) := by decide +kernel
theorem dX1_timeToDraw_11 : decode cX1_timeToDraw 11 = .ok (.iaload, 1) := by decide +kernel
theorem dX1_timeToDraw_12 : decode cX1_timeToDraw 12 = .ok (.imul, 1) := by decide +kernel
theorem dX1_timeToDraw_13 : decode cX1_timeToDraw 13 = .ok (.ireturn, 1) := by decide +kernel
theorem dX1_firstComing_0 : decode cX1_firstComing 0 = .ok (.ldc 34, 2) := by decide +kernel
theorem dX1_firstComing_2 : decode cX1_firstComing 2 = .ok (.istore_n 2, 1) := by decide +kernel
theorem dX1_firstComing_3 : decode cX1_firstComing 3 = .ok (.iconst 0, 1) := by decide +kernel
theorem dX1_firstComing_4 : decode cX1_firstComing 4 = .ok (.istore_n 3, 1) := by decide +kernel
theorem dX1_firstComing_5 : decode cX1_firstComing 5 = .ok (.iload_n 3, 1) := by decide +kernel
theorem dX1_firstComing_6 : decode cX1_firstComing 6 = .ok (.bipush 8, 2) := by decide +kernel
theorem dX1_firstComing_8 : decode cX1_firstComing 8 = .ok (.if_icmp .ge 28, 3) := by decide +kernel
theorem dX1_firstComing_11 : decode cX1_firstComing 11 = .ok (.iload_n 1, 1) := by decide +kernel
theorem dX1_firstComing_12 : decode cX1_firstComing 12 = .ok (.iload_n 3, 1) := by decide +kernel
theorem dX1_firstComing_13 : decode cX1_firstComing 13 = .ok (.ishr, 1) := by decide +kernel
theorem dX1_firstComing_14 : decode cX1_firstComing 14 = .ok (.iconst 1, 1) := by decide +kernel
theorem dX1_firstComing_15 : decode cX1_firstComing 15 = .ok (.iand, 1) := by decide +kernel
theorem dX1_firstComing_16 : decode cX1_firstComing 16 = .ok (.ifCond .eq 14, 3) := by decide +kernel
theorem dX1_firstComing_19 : decode cX1_firstComing 19 = .ok (.iload_n 2, 1) := by decide +kernel
theorem dX1_firstComing_20 : decode cX1_firstComing 20 = .ok (.aload_n 0, 1) := by decide +kernel
theorem dX1_firstComing_21 : decode cX1_firstComing 21 = .ok (.getfield 15, 3) := by decide +kernel
theorem dX1_firstComing_24 : decode cX1_firstComing 24 = .ok (.iload_n 3, 1) := by decide +kernel
theorem dX1_firstComing_25 : decode cX1_firstComing 25 = .ok (.iaload, 1) := by decide +kernel
theorem dX1_firstComing_26 : decode cX1_firstComing 26 = .ok (.invokestatic 35, 3) := by decide +kernel
theorem dX1_firstComing_29 : decode cX1_firstComing 29 = .ok (.istore_n 2, 1) := by decide +kernel
theorem dX1_firstComing_30 : decode cX1_firstComing 30 = .ok (.iinc 3 1, 3) := by decide +kernel
theorem dX1_firstComing_33 : decode cX1_firstComing 33 = .ok (.goto (-28), 3) := by decide +kernel
theorem dX1_firstComing_36 : decode cX1_firstComing 36 = .ok (.iload_n 2, 1) := by decide +kernel
theorem dX1_firstComing_37 : decode cX1_firstComing 37 = .ok (.ireturn, 1) := by decide +kernel
theorem dX1_nextAt_0 : decode cX1_nextAt 0 = .ok (.bipush (-6), 2) := by decide +kernel
theorem dX1_nextAt_2 : decode cX1_nextAt 2 = .ok (.istore_n 3, 1) := by decide +kernel
theorem dX1_nextAt_3 : decode cX1_nextAt 3 = .ok (.iconst 0, 1) := by decide +kernel
theorem dX1_nextAt_4 : decode cX1_nextAt 4 = .ok (.istore 4, 2) := by decide +kernel
theorem dX1_nextAt_6 : decode cX1_nextAt 6 = .ok (.iload 4, 2) := by decide +kernel
theorem dX1_nextAt_8 : decode cX1_nextAt 8 = .ok (.bipush 8, 2) := by decide +kernel
theorem dX1_nextAt_10 : decode cX1_nextAt 10 = .ok (.if_icmp .ge 61, 3) := by decide +kernel
theorem dX1_nextAt_13 : decode cX1_nextAt 13 = .ok (.iload_n 2, 1) := by decide +kernel
theorem dX1_nextAt_14 : decode cX1_nextAt 14 = .ok (.iload 4, 2) := by decide +kernel
theorem dX1_nextAt_16 : decode cX1_nextAt 16 = .ok (.ishr, 1) := by decide +kernel
theorem dX1_nextAt_17 : decode cX1_nextAt 17 = .ok (.iconst 1, 1) := by decide +kernel
theorem dX1_nextAt_18 : decode cX1_nextAt 18 = .ok (.iand, 1) := by decide +kernel
theorem dX1_nextAt_19 : decode cX1_nextAt 19 = .ok (.ifCond .eq 18, 3) := by decide +kernel
theorem dX1_nextAt_22 : decode cX1_nextAt 22 = .ok (.aload_n 0, 1) := by decide +kernel
theorem dX1_nextAt_23 : decode cX1_nextAt 23 = .ok (.getfield 15, 3) := by decide +kernel
theorem dX1_nextAt_26 : decode cX1_nextAt 26 = .ok (.iload 4, 2) := by decide +kernel
theorem dX1_nextAt_28 : decode cX1_nextAt 28 = .ok (.iaload, 1) := by decide +kernel
theorem dX1_nextAt_29 : decode cX1_nextAt 29 = .ok (.iload_n 1, 1) := by decide +kernel
theorem dX1_nextAt_30 : decode cX1_nextAt 30 = .ok (.if_icmp .gt 7, 3) := by decide +kernel
theorem dX1_nextAt_33 : decode cX1_nextAt 33 = .ok (.iconst 1, 1) := by decide +kernel
theorem dX1_nextAt_34 : decode cX1_nextAt 34 = .ok (.goto 4, 3) := by decide +kernel
theorem dX1_nextAt_37 : decode cX1_nextAt 37 = .ok (.iconst 0, 1) := by decide +kernel
theorem dX1_nextAt_38 : decode cX1_nextAt 38 = .ok (.istore 5, 2) := by decide +kernel
theorem dX1_nextAt_40 : decode cX1_nextAt 40 = .ok (.iload 5, 2) := by decide +kernel
theorem dX1_nextAt_42 : decode cX1_nextAt 42 = .ok (.ifCond .eq 23, 3) := by decide +kernel
theorem dX1_nextAt_45 : decode cX1_nextAt 45 = .ok (.iload_n 3, 1) := by decide +kernel
theorem dX1_nextAt_46 : decode cX1_nextAt 46 = .ok (.bipush (-6), 2) := by decide +kernel
theorem dX1_nextAt_48 : decode cX1_nextAt 48 = .ok (.if_icmp .eq 14, 3) := by decide +kernel
theorem dX1_nextAt_51 : decode cX1_nextAt 51 = .ok (.aload_n 0, 1) := by decide +kernel
theorem dX1_nextAt_52 : decode cX1_nextAt 52 = .ok (.iload 4, 2) := by decide +kernel
theorem dX1_nextAt_54 : decode cX1_nextAt 54 = .ok (.iload_n 3, 1) := by decide +kernel
theorem dX1_nextAt_55 : decode cX1_nextAt 55 = .ok (.iload_n 1, 1) := by decide +kernel
theorem dX1_nextAt_56 : decode cX1_nextAt 56 = .ok (.invokevirtual 41, 3) := by decide +kernel
theorem dX1_nextAt_59 : decode cX1_nextAt 59 = .ok (.ifCond .eq 6, 3) := by decide +kernel
theorem dX1_nextAt_62 : decode cX1_nextAt 62 = .ok (.iload 4, 2) := by decide +kernel
theorem dX1_nextAt_64 : decode cX1_nextAt 64 = .ok (.istore_n 3, 1) := by decide +kernel
theorem dX1_nextAt_65 : decode cX1_nextAt 65 = .ok (.iinc 4 1, 3) := by decide +kernel
theorem dX1_nextAt_68 : decode cX1_nextAt 68 = .ok (.goto (-62), 3) := by decide +kernel
theorem dX1_nextAt_71 : decode cX1_nextAt 71 = .ok (.iload_n 3, 1) := by decide +kernel
theorem dX1_nextAt_72 : decode cX1_nextAt 72 = .ok (.ireturn, 1) := by decide +kernel
theorem dX1_goesBefore_0 : decode cX1_goesBefore 0 = .ok (.aload_n 0, 1) := by decide +kernel
theorem dX1_goesBefore_1 : decode cX1_goesBefore 1 = .ok (.iload_n 3, 1) := by decide +kernel
theorem dX1_goesBefore_2 : decode cX1_goesBefore 2 = .ok (.iload_n 1, 1) := by decide +kernel
theorem dX1_goesBefore_3 : decode cX1_goesBefore 3 = .ok (.invokevirtual 45, 3) := by decide +kernel
theorem dX1_goesBefore_6 : decode cX1_goesBefore 6 = .ok (.istore 4, 2) := by decide +kernel
theorem dX1_goesBefore_8 : decode cX1_goesBefore 8 = .ok (.aload_n 0, 1) := by decide +kernel
theorem dX1_goesBefore_9 : decode cX1_goesBefore 9 = .ok (.iload_n 3, 1) := by decide +kernel
theorem dX1_goesBefore_10 : decode cX1_goesBefore 10 = .ok (.iload_n 2, 1) := by decide +kernel
theorem dX1_goesBefore_11 : decode cX1_goesBefore 11 = .ok (.invokevirtual 45, 3) := by decide +kernel
theorem dX1_goesBefore_14 : decode cX1_goesBefore 14 = .ok (.istore 5, 2) := by decide +kernel
theorem dX1_goesBefore_16 : decode cX1_goesBefore 16 = .ok (.iload 4, 2) := by decide +kernel
theorem dX1_goesBefore_18 : decode cX1_goesBefore 18 = .ok (.iload 5, 2) := by decide +kernel
theorem dX1_goesBefore_20 : decode cX1_goesBefore 20 = .ok (.if_icmp .eq 16, 3) := by decide +kernel
theorem dX1_goesBefore_23 : decode cX1_goesBefore 23 = .ok (.iload 4, 2) := by decide +kernel
theorem dX1_goesBefore_25 : decode cX1_goesBefore 25 = .ok (.iload 5, 2) := by decide +kernel
theorem dX1_goesBefore_27 : decode cX1_goesBefore 27 = .ok (.if_icmp .le 7, 3) := by decide +kernel
theorem dX1_goesBefore_30 : decode cX1_goesBefore 30 = .ok (.iconst 1, 1) := by decide +kernel
theorem dX1_goesBefore_31 : decode cX1_goesBefore 31 = .ok (.goto 4, 3) := by decide +kernel
theorem dX1_goesBefore_34 : decode cX1_goesBefore 34 = .ok (.iconst 0, 1) := by decide +kernel
theorem dX1_goesBefore_35 : decode cX1_goesBefore 35 = .ok (.ireturn, 1) := by decide +kernel
theorem dX1_goesBefore_36 : decode cX1_goesBefore 36 = .ok (.aload_n 0, 1) := by decide +kernel
theorem dX1_goesBefore_37 : decode cX1_goesBefore 37 = .ok (.getfield 15, 3) := by decide +kernel
theorem dX1_goesBefore_40 : decode cX1_goesBefore 40 = .ok (.iload_n 1, 1) := by decide +kernel
theorem dX1_goesBefore_41 : decode cX1_goesBefore 41 = .ok (.iaload, 1) := by decide +kernel
theorem dX1_goesBefore_42 : decode cX1_goesBefore 42 = .ok (.aload_n 0, 1) := by decide +kernel
theorem dX1_goesBefore_43 : decode cX1_goesBefore 43 = .ok (.getfield 15, 3) := by decide +kernel
theorem dX1_goesBefore_46 : decode cX1_goesBefore 46 = .ok (.iload_n 2, 1) := by decide +kernel
theorem dX1_goesBefore_47 : decode cX1_goesBefore 47 = .ok (.iaload, 1) := by decide +kernel
theorem dX1_goesBefore_48 : decode cX1_goesBefore 48 = .ok (.if_icmp .eq 24, 3) := by decide +kernel
theorem dX1_goesBefore_51 : decode cX1_goesBefore 51 = .ok (.aload_n 0, 1) := by decide +kernel
theorem dX1_goesBefore_52 : decode cX1_goesBefore 52 = .ok (.getfield 15, 3) := by decide +kernel
theorem dX1_goesBefore_55 : decode cX1_goesBefore 55 = .ok (.iload_n 1, 1) := by decide +kernel
theorem dX1_goesBefore_56 : decode cX1_goesBefore 56 = .ok (.iaload, 1) := by decide +kernel
theorem dX1_goesBefore_57 : decode cX1_goesBefore 57 = .ok (.aload_n 0, 1) := by decide +kernel
theorem dX1_goesBefore_58 : decode cX1_goesBefore 58 = .ok (.getfield 15, 3) := by decide +kernel
theorem dX1_goesBefore_61 : decode cX1_goesBefore 61 = .ok (.iload_n 2, 1) := by decide +kernel
theorem dX1_goesBefore_62 : decode cX1_goesBefore 62 = .ok (.iaload, 1) := by decide +kernel
theorem dX1_goesBefore_63 : decode cX1_goesBefore 63 = .ok (.if_icmp .ge 7, 3) := by decide +kernel
theorem dX1_goesBefore_66 : decode cX1_goesBefore 66 = .ok (.iconst 1, 1) := by decide +kernel
theorem dX1_goesBefore_67 : decode cX1_goesBefore 67 = .ok (.goto 4, 3) := by decide +kernel
theorem dX1_goesBefore_70 : decode cX1_goesBefore 70 = .ok (.iconst 0, 1) := by decide +kernel
theorem dX1_goesBefore_71 : decode cX1_goesBefore 71 = .ok (.ireturn, 1) := by decide +kernel
theorem dX1_goesBefore_72 : decode cX1_goesBefore 72 = .ok (.iload_n 1, 1) := by decide +kernel
theorem dX1_goesBefore_73 : decode cX1_goesBefore 73 = .ok (.iload_n 2, 1) := by decide +kernel
theorem dX1_goesBefore_74 : decode cX1_goesBefore 74 = .ok (.if_icmp .ge 7, 3) := by decide +kernel
theorem dX1_goesBefore_77 : decode cX1_goesBefore 77 = .ok (.iconst 1, 1) := by decide +kernel
theorem dX1_goesBefore_78 : decode cX1_goesBefore 78 = .ok (.goto 4, 3) := by decide +kernel
theorem dX1_goesBefore_81 : decode cX1_goesBefore 81 = .ok (.iconst 0, 1) := by decide +kernel
theorem dX1_goesBefore_82 : decode cX1_goesBefore 82 = .ok (.ireturn, 1) := by decide +kernel
theorem dX1_claimAt_0 : decode cX1_claimAt 0 = .ok (.aload_n 0, 1) := by decide +kernel
theorem dX1_claimAt_1 : decode cX1_claimAt 1 = .ok (.getfield 25, 3) := by decide +kernel
theorem dX1_claimAt_4 : decode cX1_claimAt 4 = .ok (.iconst 3, 1) := by decide +kernel
theorem dX1_claimAt_5 : decode cX1_claimAt 5 = .ok (.iaload, 1) := by decide +kernel
theorem dX1_claimAt_6 : decode cX1_claimAt 6 = .ok (.iconst 1, 1) := by decide +kernel
theorem dX1_claimAt_7 : decode cX1_claimAt 7 = .ok (.if_icmp .ne 16, 3) := by decide +kernel
theorem dX1_claimAt_10 : decode cX1_claimAt 10 = .ok (.aload_n 0, 1) := by decide +kernel
theorem dX1_claimAt_11 : decode cX1_claimAt 11 = .ok (.getfield 21, 3) := by decide +kernel
theorem dX1_claimAt_14 : decode cX1_claimAt 14 = .ok (.iload_n 2, 1) := by decide +kernel
theorem dX1_claimAt_15 : decode cX1_claimAt 15 = .ok (.baload, 1) := by decide +kernel
theorem dX1_claimAt_16 : decode cX1_claimAt 16 = .ok (.ifCond .eq 7, 3) := by decide +kernel
theorem dX1_claimAt_19 : decode cX1_claimAt 19 = .ok (.iconst 1, 1) := by decide +kernel
theorem dX1_claimAt_20 : decode cX1_claimAt 20 = .ok (.goto 4, 3) := by decide +kernel
theorem dX1_claimAt_23 : decode cX1_claimAt 23 = .ok (.iconst 0, 1) := by decide +kernel
theorem dX1_claimAt_24 : decode cX1_claimAt 24 = .ok (.istore_n 3, 1) := by decide +kernel
theorem dX1_claimAt_25 : decode cX1_claimAt 25 = .ok (.iload_n 3, 1) := by decide +kernel
theorem dX1_claimAt_26 : decode cX1_claimAt 26 = .ok (.ifCond .eq 14, 3) := by decide +kernel
theorem dX1_claimAt_29 : decode cX1_claimAt 29 = .ok (.aload_n 0, 1) := by decide +kernel
theorem dX1_claimAt_30 : decode cX1_claimAt 30 = .ok (.getfield 9, 3) := by decide +kernel
theorem dX1_claimAt_33 : decode cX1_claimAt 33 = .ok (.iload_n 2, 1) := by decide +kernel
theorem dX1_claimAt_34 : decode cX1_claimAt 34 = .ok (.iaload, 1) := by decide +kernel
theorem dX1_claimAt_35 : decode cX1_claimAt 35 = .ok (.iconst 2, 1) := by decide +kernel
theorem dX1_claimAt_36 : decode cX1_claimAt 36 = .ok (.idiv, 1) := by decide +kernel
theorem dX1_claimAt_37 : decode cX1_claimAt 37 = .ok (.goto 9, 3) := by decide +kernel
theorem dX1_claimAt_40 : decode cX1_claimAt 40 = .ok (.aload_n 0, 1) := by decide +kernel
theorem dX1_claimAt_41 : decode cX1_claimAt 41 = .ok (.getfield 9, 3) := by decide +kernel
theorem dX1_claimAt_44 : decode cX1_claimAt 44 = .ok (.iload_n 2, 1) := by decide +kernel
theorem dX1_claimAt_45 : decode cX1_claimAt 45 = .ok (.iaload, 1) := by decide +kernel
theorem dX1_claimAt_46 : decode cX1_claimAt 46 = .ok (.istore 4, 2) := by decide +kernel
theorem dX1_claimAt_48 : decode cX1_claimAt 48 = .ok (.aload_n 0, 1) := by decide +kernel
theorem dX1_claimAt_49 : decode cX1_claimAt 49 = .ok (.getfield 25, 3) := by decide +kernel
theorem dX1_claimAt_52 : decode cX1_claimAt 52 = .ok (.iconst 1, 1) := by decide +kernel
theorem dX1_claimAt_53 : decode cX1_claimAt 53 = .ok (.iaload, 1) := by decide +kernel
theorem dX1_claimAt_54 : decode cX1_claimAt 54 = .ok (.iload 4, 2) := by decide +kernel
theorem dX1_claimAt_56 : decode cX1_claimAt 56 = .ok (.imul, 1) := by decide +kernel
theorem dX1_claimAt_57 : decode cX1_claimAt 57 = .ok (.aload_n 0, 1) := by decide +kernel
theorem dX1_claimAt_58 : decode cX1_claimAt 58 = .ok (.getfield 25, 3) := by decide +kernel
theorem dX1_claimAt_61 : decode cX1_claimAt 61 = .ok (.iconst 2, 1) := by decide +kernel
theorem dX1_claimAt_62 : decode cX1_claimAt 62 = .ok (.iaload, 1) := by decide +kernel
theorem dX1_claimAt_63 : decode cX1_claimAt 63 = .ok (.iload_n 1, 1) := by decide +kernel
theorem dX1_claimAt_64 : decode cX1_claimAt 64 = .ok (.aload_n 0, 1) := by decide +kernel
theorem dX1_claimAt_65 : decode cX1_claimAt 65 = .ok (.getfield 15, 3) := by decide +kernel
theorem dX1_claimAt_68 : decode cX1_claimAt 68 = .ok (.iload_n 2, 1) := by decide +kernel
theorem dX1_claimAt_69 : decode cX1_claimAt 69 = .ok (.iaload, 1) := by decide +kernel
theorem dX1_claimAt_70 : decode cX1_claimAt 70 = .ok (.isub, 1) := by decide +kernel
theorem dX1_claimAt_71 : decode cX1_claimAt 71 = .ok (.imul, 1) := by decide +kernel
theorem dX1_claimAt_72 : decode cX1_claimAt 72 = .ok (.iadd, 1) := by decide +kernel
theorem dX1_claimAt_73 : decode cX1_claimAt 73 = .ok (.ireturn, 1) := by decide +kernel
theorem dX2_init_0 : decode cX2_init 0 = .ok (.aload_n 0, 1) := by decide +kernel
theorem dX2_init_1 : decode cX2_init 1 = .ok (.invokespecial 3, 3) := by decide +kernel
theorem dX2_init_4 : decode cX2_init 4 = .ok (.aload_n 0, 1) := by decide +kernel
theorem dX2_init_5 : decode cX2_init 5 = .ok (.bipush 8, 2) := by decide +kernel
theorem dX2_init_7 : decode cX2_init 7 = .ok (.newarray .int, 2) := by decide +kernel
theorem dX2_init_9 : decode cX2_init 9 = .ok (.putfield 9, 3) := by decide +kernel
theorem dX2_init_12 : decode cX2_init 12 = .ok (.aload_n 0, 1) := by decide +kernel
theorem dX2_init_13 : decode cX2_init 13 = .ok (.bipush 8, 2) := by decide +kernel
theorem dX2_init_15 : decode cX2_init 15 = .ok (.newarray .int, 2) := by decide +kernel
theorem dX2_init_17 : decode cX2_init 17 = .ok (.putfield 15, 3) := by decide +kernel
theorem dX2_init_20 : decode cX2_init 20 = .ok (.aload_n 0, 1) := by decide +kernel
theorem dX2_init_21 : decode cX2_init 21 = .ok (.bipush 8, 2) := by decide +kernel
theorem dX2_init_23 : decode cX2_init 23 = .ok (.newarray .int, 2) := by decide +kernel
theorem dX2_init_25 : decode cX2_init 25 = .ok (.putfield 18, 3) := by decide +kernel
theorem dX2_init_28 : decode cX2_init 28 = .ok (.aload_n 0, 1) := by decide +kernel
theorem dX2_init_29 : decode cX2_init 29 = .ok (.bipush 8, 2) := by decide +kernel
theorem dX2_init_31 : decode cX2_init 31 = .ok (.newarray .int, 2) := by decide +kernel
theorem dX2_init_33 : decode cX2_init 33 = .ok (.putfield 21, 3) := by decide +kernel
theorem dX2_init_36 : decode cX2_init 36 = .ok (.return_, 1) := by decide +kernel
theorem dX2_run_0 : decode cX2_run 0 = .ok (.aload_n 0, 1) := by decide +kernel
theorem dX2_run_1 : decode cX2_run 1 = .ok (.iload_n 2, 1) := by decide +kernel
theorem dX2_run_2 : decode cX2_run 2 = .ok (.invokevirtual 24, 3) := by decide +kernel
theorem dX2_run_5 : decode cX2_run 5 = .ok (.iconst 0, 1) := by decide +kernel
theorem dX2_run_6 : decode cX2_run 6 = .ok (.istore_n 3, 1) := by decide +kernel
theorem dX2_run_7 : decode cX2_run 7 = .ok (.iload_n 3, 1) := by decide +kernel
theorem dX2_run_8 : decode cX2_run 8 = .ok (.bipush 8, 2) := by decide +kernel
theorem dX2_run_10 : decode cX2_run 10 = .ok (.if_icmp .ge 22, 3) := by decide +kernel
theorem dX2_run_13 : decode cX2_run 13 = .ok (.aload_n 0, 1) := by decide +kernel
theorem dX2_run_14 : decode cX2_run 14 = .ok (.aload_n 1, 1) := by decide +kernel
theorem dX2_run_15 : decode cX2_run 15 = .ok (.invokevirtual 28, 3) := by decide +kernel
theorem dX2_run_18 : decode cX2_run 18 = .ok (.bipush (-6), 2) := by decide +kernel
theorem dX2_run_20 : decode cX2_run 20 = .ok (.if_icmp .ne 6, 3) := by decide +kernel
theorem dX2_run_23 : decode cX2_run 23 = .ok (.goto 9, 3) := by decide +kernel
theorem dX2_run_26 : decode cX2_run 26 = .ok (.iinc 3 1, 3) := by decide +kernel
theorem dX2_run_29 : decode cX2_run 29 = .ok (.goto (-22), 3) := by decide +kernel
theorem dX2_run_32 : decode cX2_run 32 = .ok (.return_, 1) := by decide +kernel
theorem dX2_keepsTo_0 : decode cX2_keepsTo 0 = .ok (.aload_n 0, 1) := by decide +kernel
theorem dX2_keepsTo_1 : decode cX2_keepsTo 1 = .ok (.aload_n 1, 1) := by decide +kernel
theorem dX2_keepsTo_2 : decode cX2_keepsTo 2 = .ok (.getfield 32, 3) := by decide +kernel
theorem dX2_keepsTo_5 : decode cX2_keepsTo 5 = .ok (.invokevirtual 24, 3) := by decide +kernel
theorem dX2_keepsTo_8 : decode cX2_keepsTo 8 = .ok (.iconst 0, 1) := by decide +kernel
theorem dX2_keepsTo_9 : decode cX2_keepsTo 9 = .ok (.istore_n 3, 1) := by decide +kernel
theorem dX2_keepsTo_10 : decode cX2_keepsTo 10 = .ok (.iload_n 3, 1) := by decide +kernel
theorem dX2_keepsTo_11 : decode cX2_keepsTo 11 = .ok (.aload_n 2, 1) := by decide +kernel
theorem dX2_keepsTo_12 : decode cX2_keepsTo 12 = .ok (.getfield 38, 3) := by decide +kernel
theorem dX2_keepsTo_15 : decode cX2_keepsTo 15 = .ok (.if_icmp .ge 30, 3) := by decide +kernel
theorem dX2_keepsTo_18 : decode cX2_keepsTo 18 = .ok (.iload_n 3, 1) := by decide +kernel
theorem dX2_keepsTo_19 : decode cX2_keepsTo 19 = .ok (.bipush 8, 2) := by decide +kernel
theorem dX2_keepsTo_21 : decode cX2_keepsTo 21 = .ok (.if_icmp .ge 24, 3) := by decide +kernel
theorem dX2_keepsTo_24 : decode cX2_keepsTo 24 = .ok (.aload_n 0, 1) := by decide +kernel
theorem dX2_keepsTo_25 : decode cX2_keepsTo 25 = .ok (.aload_n 1, 1) := by decide +kernel
theorem dX2_keepsTo_26 : decode cX2_keepsTo 26 = .ok (.invokevirtual 28, 3) := by decide +kernel
theorem dX2_keepsTo_29 : decode cX2_keepsTo 29 = .ok (.aload_n 2, 1) := by decide +kernel
theorem dX2_keepsTo_30 : decode cX2_keepsTo 30 = .ok (.iload_n 3, 1) := by decide +kernel
theorem dX2_keepsTo_31 : decode cX2_keepsTo 31 = .ok (.invokevirtual 43, 3) := by decide +kernel
theorem dX2_keepsTo_34 : decode cX2_keepsTo 34 = .ok (.if_icmp .eq 5, 3) := by decide +kernel
theorem dX2_keepsTo_37 : decode cX2_keepsTo 37 = .ok (.iconst 0, 1) := by decide +kernel
theorem dX2_keepsTo_38 : decode cX2_keepsTo 38 = .ok (.ireturn, 1) := by decide +kernel
theorem dX2_keepsTo_39 : decode cX2_keepsTo 39 = .ok (.iinc 3 1, 3) := by decide +kernel
theorem dX2_keepsTo_42 : decode cX2_keepsTo 42 = .ok (.goto (-32), 3) := by decide +kernel
theorem dX2_keepsTo_45 : decode cX2_keepsTo 45 = .ok (.iconst 1, 1) := by decide +kernel
theorem dX2_keepsTo_46 : decode cX2_keepsTo 46 = .ok (.ireturn, 1) := by decide +kernel
theorem dX2_beginOfOneMore_0 : decode cX2_beginOfOneMore 0 = .ok (.aload_n 1, 1) := by decide +kernel
theorem dX2_beginOfOneMore_1 : decode cX2_beginOfOneMore 1 = .ok (.getfield 47, 3) := by decide +kernel
theorem dX2_beginOfOneMore_4 : decode cX2_beginOfOneMore 4 = .ok (.iload_n 2, 1) := by decide +kernel
theorem dX2_beginOfOneMore_5 : decode cX2_beginOfOneMore 5 = .ok (.iaload, 1) := by decide +kernel
theorem dX2_beginOfOneMore_6 : decode cX2_beginOfOneMore 6 = .ok (.istore_n 3, 1) := by decide +kernel
theorem dX2_beginOfOneMore_7 : decode cX2_beginOfOneMore 7 = .ok (.iconst 0, 1) := by decide +kernel
theorem dX2_beginOfOneMore_8 : decode cX2_beginOfOneMore 8 = .ok (.istore 4, 2) := by decide +kernel
theorem dX2_beginOfOneMore_10 : decode cX2_beginOfOneMore 10 = .ok (.iconst 0, 1) := by decide +kernel
theorem dX2_beginOfOneMore_11 : decode cX2_beginOfOneMore 11 = .ok (.istore 5, 2) := by decide +kernel
theorem dX2_beginOfOneMore_13 : decode cX2_beginOfOneMore 13 = .ok (.iload 5, 2) := by decide +kernel
theorem dX2_beginOfOneMore_15 : decode cX2_beginOfOneMore 15 = .ok (.aload_n 0, 1) := by decide +kernel
theorem dX2_beginOfOneMore_16 : decode cX2_beginOfOneMore 16 = .ok (.getfield 50, 3) := by decide +kernel
theorem dX2_beginOfOneMore_19 : decode cX2_beginOfOneMore 19 = .ok (.if_icmp .ge 98, 3) := by decide +kernel
theorem dX2_beginOfOneMore_22 : decode cX2_beginOfOneMore 22 = .ok (.aload_n 0, 1) := by decide +kernel
theorem dX2_beginOfOneMore_23 : decode cX2_beginOfOneMore 23 = .ok (.getfield 9, 3) := by decide +kernel
theorem dX2_beginOfOneMore_26 : decode cX2_beginOfOneMore 26 = .ok (.iload 5, 2) := by decide +kernel
theorem dX2_beginOfOneMore_28 : decode cX2_beginOfOneMore 28 = .ok (.iaload, 1) := by decide +kernel
theorem dX2_beginOfOneMore_29 : decode cX2_beginOfOneMore 29 = .ok (.istore 6, 2) := by decide +kernel
theorem dX2_beginOfOneMore_31 : decode cX2_beginOfOneMore 31 = .ok (.iload_n 3, 1) := by decide +kernel
theorem dX2_beginOfOneMore_32 : decode cX2_beginOfOneMore 32 = .ok (.iload 4, 2) := by decide +kernel
theorem dX2_beginOfOneMore_34 : decode cX2_beginOfOneMore 34 = .ok (.invokestatic 53, 3) := by decide +kernel
theorem dX2_beginOfOneMore_37 : decode cX2_beginOfOneMore 37 = .ok (.istore 7, 2) := by decide +kernel
theorem dX2_beginOfOneMore_39 : decode cX2_beginOfOneMore 39 = .ok (.iload 7, 2) := by decide +kernel
theorem dX2_beginOfOneMore_41 : decode cX2_beginOfOneMore 41 = .ok (.aload_n 0, 1) := by decide +kernel
theorem dX2_beginOfOneMore_42 : decode cX2_beginOfOneMore 42 = .ok (.getfield 15, 3) := by decide +kernel
theorem dX2_beginOfOneMore_45 : decode cX2_beginOfOneMore 45 = .ok (.iload 6, 2) := by decide +kernel
theorem dX2_beginOfOneMore_47 : decode cX2_beginOfOneMore 47 = .ok (.iaload, 1) := by decide +kernel
theorem dX2_beginOfOneMore_48 : decode cX2_beginOfOneMore 48 = .ok (.if_icmp .ge 7, 3) := by decide +kernel
theorem dX2_beginOfOneMore_51 : decode cX2_beginOfOneMore 51 = .ok (.iconst 1, 1) := by decide +kernel
theorem dX2_beginOfOneMore_52 : decode cX2_beginOfOneMore 52 = .ok (.goto 4, 3) := by decide +kernel
theorem dX2_beginOfOneMore_55 : decode cX2_beginOfOneMore 55 = .ok (.iconst 0, 1) := by decide +kernel
theorem dX2_beginOfOneMore_56 : decode cX2_beginOfOneMore 56 = .ok (.istore 8, 2) := by decide +kernel
theorem dX2_beginOfOneMore_58 : decode cX2_beginOfOneMore 58 = .ok (.iload 7, 2) := by decide +kernel
theorem dX2_beginOfOneMore_60 : decode cX2_beginOfOneMore 60 = .ok (.aload_n 0, 1) := by decide +kernel
theorem dX2_beginOfOneMore_61 : decode cX2_beginOfOneMore 61 = .ok (.getfield 15, 3) := by decide +kernel
theorem dX2_beginOfOneMore_64 : decode cX2_beginOfOneMore 64 = .ok (.iload 6, 2) := by decide +kernel
theorem dX2_beginOfOneMore_66 : decode cX2_beginOfOneMore 66 = .ok (.iaload, 1) := by decide +kernel
theorem dX2_beginOfOneMore_67 : decode cX2_beginOfOneMore 67 = .ok (.if_icmp .ne 19, 3) := by decide +kernel
theorem dX2_beginOfOneMore_70 : decode cX2_beginOfOneMore 70 = .ok (.aload_n 1, 1) := by decide +kernel
theorem dX2_beginOfOneMore_71 : decode cX2_beginOfOneMore 71 = .ok (.iload_n 2, 1) := by decide +kernel
theorem dX2_beginOfOneMore_72 : decode cX2_beginOfOneMore 72 = .ok (.iload 6, 2) := by decide +kernel
theorem dX2_beginOfOneMore_74 : decode cX2_beginOfOneMore 74 = .ok (.iload 7, 2) := by decide +kernel
theorem dX2_beginOfOneMore_76 : decode cX2_beginOfOneMore 76 = .ok (.invokevirtual 59, 3) := by decide +kernel
theorem dX2_beginOfOneMore_79 : decode cX2_beginOfOneMore 79 = .ok (.ifCond .eq 7, 3) := by decide +kernel
theorem dX2_beginOfOneMore_82 : decode cX2_beginOfOneMore 82 = .ok (.iconst 1, 1) := by decide +kernel
theorem dX2_beginOfOneMore_83 : decode cX2_beginOfOneMore 83 = .ok (.goto 4, 3) := by decide +kernel
theorem dX2_beginOfOneMore_86 : decode cX2_beginOfOneMore 86 = .ok (.iconst 0, 1) := by decide +kernel
theorem dX2_beginOfOneMore_87 : decode cX2_beginOfOneMore 87 = .ok (.istore 9, 2) := by decide +kernel
theorem dX2_beginOfOneMore_89 : decode cX2_beginOfOneMore 89 = .ok (.iload 8, 2) := by decide +kernel
theorem dX2_beginOfOneMore_91 : decode cX2_beginOfOneMore 91 = .ok (.ifCond .ne 8, 3) := by decide +kernel
theorem dX2_beginOfOneMore_94 : decode cX2_beginOfOneMore 94 = .ok (.iload 9, 2) := by decide +kernel
theorem dX2_beginOfOneMore_96 : decode cX2_beginOfOneMore 96 = .ok (.ifCond .eq 6, 3) := by decide +kernel
theorem dX2_beginOfOneMore_99 : decode cX2_beginOfOneMore 99 = .ok (.iload 7, 2) := by decide +kernel
theorem dX2_beginOfOneMore_101 : decode cX2_beginOfOneMore 101 = .ok (.ireturn, 1) := by decide +kernel
theorem dX2_beginOfOneMore_102 : decode cX2_beginOfOneMore 102 = .ok (.aload_n 0, 1) := by decide +kernel
theorem dX2_beginOfOneMore_103 : decode cX2_beginOfOneMore 103 = .ok (.getfield 18, 3) := by decide +kernel
theorem dX2_beginOfOneMore_106 : decode cX2_beginOfOneMore 106 = .ok (.iload 6, 2) := by decide +kernel
theorem dX2_beginOfOneMore_108 : decode cX2_beginOfOneMore 108 = .ok (.iaload, 1) := by decide +kernel
theorem dX2_beginOfOneMore_109 : decode cX2_beginOfOneMore 109 = .ok (.istore 4, 2) := by decide +kernel
theorem dX2_beginOfOneMore_111 : decode cX2_beginOfOneMore 111 = .ok (.iinc 5 1, 3) := by decide +kernel
theorem dX2_beginOfOneMore_114 : decode cX2_beginOfOneMore 114 = .ok (.goto (-101), 3) := by decide +kernel
theorem dX2_beginOfOneMore_117 : decode cX2_beginOfOneMore 117 = .ok (.iload_n 3, 1) := by decide +kernel
theorem dX2_beginOfOneMore_118 : decode cX2_beginOfOneMore 118 = .ok (.iload 4, 2) := by decide +kernel
theorem dX2_beginOfOneMore_120 : decode cX2_beginOfOneMore 120 = .ok (.invokestatic 53, 3) := by decide +kernel
theorem dX2_beginOfOneMore_123 : decode cX2_beginOfOneMore 123 = .ok (.ireturn, 1) := by decide +kernel
theorem dX2_worstOff_0 : decode cX2_worstOff 0 = .ok (.iconst 0, 1) := by decide +kernel
theorem dX2_worstOff_1 : decode cX2_worstOff 1 = .ok (.istore_n 1, 1) := by decide +kernel
theorem dX2_worstOff_2 : decode cX2_worstOff 2 = .ok (.iload_n 1, 1) := by decide +kernel
theorem dX2_worstOff_3 : decode cX2_worstOff 3 = .ok (.bipush 8, 2) := by decide +kernel
theorem dX2_worstOff_5 : decode cX2_worstOff 5 = .ok (.if_icmp .ge 35, 3) := by decide +kernel
theorem dX2_worstOff_8 : decode cX2_worstOff 8 = .ok (.aload_n 0, 1) := by decide +kernel
theorem dX2_worstOff_9 : decode cX2_worstOff 9 = .ok (.getfield 63, 3) := by decide +kernel
theorem dX2_worstOff_12 : decode cX2_worstOff 12 = .ok (.iload_n 1, 1) := by decide +kernel
theorem dX2_worstOff_13 : decode cX2_worstOff 13 = .ok (.ishr, 1) := by decide +kernel
theorem dX2_worstOff_14 : decode cX2_worstOff 14 = .ok (.iconst 1, 1) := by decide +kernel
theorem dX2_worstOff_15 : decode cX2_worstOff 15 = .ok (.iand, 1) := by decide +kernel
theorem dX2_worstOff_16 : decode cX2_worstOff 16 = .ok (.ifCond .eq 18, 3) := by decide +kernel
theorem dX2_worstOff_19 : decode cX2_worstOff 19 = .ok (.aload_n 0, 1) := by decide +kernel
theorem dX2_worstOff_20 : decode cX2_worstOff 20 = .ok (.getfield 21, 3) := by decide +kernel
theorem dX2_worstOff_23 : decode cX2_worstOff 23 = .ok (.iload_n 1, 1) := by decide +kernel
theorem dX2_worstOff_24 : decode cX2_worstOff 24 = .ok (.iaload, 1) := by decide +kernel
theorem dX2_worstOff_25 : decode cX2_worstOff 25 = .ok (.aload_n 0, 1) := by decide +kernel
theorem dX2_worstOff_26 : decode cX2_worstOff 26 = .ok (.getfield 64, 3) := by decide +kernel
theorem dX2_worstOff_29 : decode cX2_worstOff 29 = .ok (.if_icmp .ne 5, 3) := by decide +kernel
theorem dX2_worstOff_32 : decode cX2_worstOff 32 = .ok (.iload_n 1, 1) := by decide +kernel
theorem dX2_worstOff_33 : decode cX2_worstOff 33 = .ok (.ireturn, 1) := by decide +kernel
theorem dX2_worstOff_34 : decode cX2_worstOff 34 = .ok (.iinc 1 1, 3) := by decide +kernel
theorem dX2_worstOff_37 : decode cX2_worstOff 37 = .ok (.goto (-35), 3) := by decide +kernel
theorem dX2_worstOff_40 : decode cX2_worstOff 40 = .ok (.bipush (-6), 2) := by decide +kernel
theorem dX2_worstOff_42 : decode cX2_worstOff 42 = .ok (.ireturn, 1) := by decide +kernel
theorem dX2_start_0 : decode cX2_start 0 = .ok (.aload_n 0, 1) := by decide +kernel
theorem dX2_start_1 : decode cX2_start 1 = .ok (.iload_n 1, 1) := by decide +kernel
theorem dX2_start_2 : decode cX2_start 2 = .ok (.putfield 63, 3) := by decide +kernel
theorem dX2_start_5 : decode cX2_start 5 = .ok (.aload_n 0, 1) := by decide +kernel
theorem dX2_start_6 : decode cX2_start 6 = .ok (.iload_n 1, 1) := by decide +kernel
theorem dX2_start_7 : decode cX2_start 7 = .ok (.putfield 67, 3) := by decide +kernel
theorem dX2_start_10 : decode cX2_start 10 = .ok (.aload_n 0, 1) := by decide +kernel
theorem dX2_start_11 : decode cX2_start 11 = .ok (.iconst 0, 1) := by decide +kernel
theorem dX2_start_12 : decode cX2_start 12 = .ok (.putfield 50, 3) := by decide +kernel
theorem dX2_start_15 : decode cX2_start 15 = .ok (.aload_n 0, 1) := by decide +kernel
theorem dX2_start_16 : decode cX2_start 16 = .ok (.iconst 0, 1) := by decide +kernel
theorem dX2_start_17 : decode cX2_start 17 = .ok (.putfield 64, 3) := by decide +kernel
theorem dX2_start_20 : decode cX2_start 20 = .ok (.aload_n 0, 1) := by decide +kernel
theorem dX2_start_21 : decode cX2_start 21 = .ok (.iconst 0, 1) := by decide +kernel
theorem dX2_start_22 : decode cX2_start 22 = .ok (.putfield 70, 3) := by decide +kernel
theorem dX2_start_25 : decode cX2_start 25 = .ok (.aload_n 0, 1) := by decide +kernel
theorem dX2_start_26 : decode cX2_start 26 = .ok (.iconst 0, 1) := by decide +kernel
theorem dX2_start_27 : decode cX2_start 27 = .ok (.putfield 73, 3) := by decide +kernel
theorem dX2_start_30 : decode cX2_start 30 = .ok (.return_, 1) := by decide +kernel
theorem dX2_serveNext_0 : decode cX2_serveNext 0 = .ok (.aload_n 0, 1) := by decide +kernel
theorem dX2_serveNext_1 : decode cX2_serveNext 1 = .ok (.getfield 67, 3) := by decide +kernel
theorem dX2_serveNext_4 : decode cX2_serveNext 4 = .ok (.ifCond .eq 12, 3) := by decide +kernel
theorem dX2_serveNext_7 : decode cX2_serveNext 7 = .ok (.aload_n 0, 1) := by decide +kernel
theorem dX2_serveNext_8 : decode cX2_serveNext 8 = .ok (.getfield 50, 3) := by decide +kernel
theorem dX2_serveNext_11 : decode cX2_serveNext 11 = .ok (.bipush 8, 2) := by decide +kernel
theorem dX2_serveNext_13 : decode cX2_serveNext 13 = .ok (.if_icmp .lt 6, 3) := by decide +kernel
theorem dX2_serveNext_16 : decode cX2_serveNext 16 = .ok (.bipush (-6), 2) := by decide +kernel
theorem dX2_serveNext_18 : decode cX2_serveNext 18 = .ok (.ireturn, 1) := by decide +kernel
theorem dX2_serveNext_19 : decode cX2_serveNext 19 = .ok (.aload_n 0, 1) := by decide +kernel
theorem dX2_serveNext_20 : decode cX2_serveNext 20 = .ok (.aload_n 0, 1) := by decide +kernel
theorem dX2_serveNext_21 : decode cX2_serveNext 21 = .ok (.getfield 73, 3) := by decide +kernel
theorem dX2_serveNext_24 : decode cX2_serveNext 24 = .ok (.aload_n 1, 1) := by decide +kernel
theorem dX2_serveNext_25 : decode cX2_serveNext 25 = .ok (.aload_n 0, 1) := by decide +kernel
theorem dX2_serveNext_26 : decode cX2_serveNext 26 = .ok (.getfield 67, 3) := by decide +kernel
theorem dX2_serveNext_29 : decode cX2_serveNext 29 = .ok (.invokevirtual 76, 3) := by decide +kernel
theorem dX2_serveNext_32 : decode cX2_serveNext 32 = .ok (.invokestatic 53, 3) := by decide +kernel
theorem dX2_serveNext_35 : decode cX2_serveNext 35 = .ok (.putfield 73, 3) := by decide +kernel
theorem dX2_serveNext_38 : decode cX2_serveNext 38 = .ok (.aload_n 1, 1) := by decide +kernel
theorem dX2_serveNext_39 : decode cX2_serveNext 39 = .ok (.aload_n 0, 1) := by decide +kernel
theorem dX2_serveNext_40 : decode cX2_serveNext 40 = .ok (.getfield 73, 3) := by decide +kernel
theorem dX2_serveNext_43 : decode cX2_serveNext 43 = .ok (.aload_n 0, 1) := by decide +kernel
theorem dX2_serveNext_44 : decode cX2_serveNext 44 = .ok (.getfield 67, 3) := by decide +kernel
theorem dX2_serveNext_47 : decode cX2_serveNext 47 = .ok (.invokevirtual 79, 3) := by decide +kernel
theorem dX2_serveNext_50 : decode cX2_serveNext 50 = .ok (.istore_n 2, 1) := by decide +kernel
theorem dX2_serveNext_51 : decode cX2_serveNext 51 = .ok (.iload_n 2, 1) := by decide +kernel
theorem dX2_serveNext_52 : decode cX2_serveNext 52 = .ok (.bipush (-6), 2) := by decide +kernel
theorem dX2_serveNext_54 : decode cX2_serveNext 54 = .ok (.if_icmp .ne 6, 3) := by decide +kernel
theorem dX2_serveNext_57 : decode cX2_serveNext 57 = .ok (.bipush (-6), 2) := by decide +kernel
theorem dX2_serveNext_59 : decode cX2_serveNext 59 = .ok (.ireturn, 1) := by decide +kernel
theorem dX2_serveNext_60 : decode cX2_serveNext 60 = .ok (.aload_n 0, 1) := by decide +kernel
theorem dX2_serveNext_61 : decode cX2_serveNext 61 = .ok (.getfield 15, 3) := by decide +kernel
theorem dX2_serveNext_64 : decode cX2_serveNext 64 = .ok (.iload_n 2, 1) := by decide +kernel
theorem dX2_serveNext_65 : decode cX2_serveNext 65 = .ok (.aload_n 0, 1) := by decide +kernel
theorem dX2_serveNext_66 : decode cX2_serveNext 66 = .ok (.getfield 73, 3) := by decide +kernel
theorem dX2_serveNext_69 : decode cX2_serveNext 69 = .ok (.iastore, 1) := by decide +kernel
theorem dX2_serveNext_70 : decode cX2_serveNext 70 = .ok (.aload_n 0, 1) := by decide +kernel
theorem dX2_serveNext_71 : decode cX2_serveNext 71 = .ok (.getfield 21, 3) := by decide +kernel
theorem dX2_serveNext_74 : decode cX2_serveNext 74 = .ok (.iload_n 2, 1) := by decide +kernel
theorem dX2_serveNext_75 : decode cX2_serveNext 75 = .ok (.aload_n 0, 1) := by decide +kernel
theorem dX2_serveNext_76 : decode cX2_serveNext 76 = .ok (.getfield 73, 3) := by decide +kernel
theorem dX2_serveNext_79 : decode cX2_serveNext 79 = .ok (.aload_n 1, 1) := by decide +kernel
theorem dX2_serveNext_80 : decode cX2_serveNext 80 = .ok (.getfield 47, 3) := by decide +kernel
theorem dX2_serveNext_83 : decode cX2_serveNext 83 = .ok (.iload_n 2, 1) := by decide +kernel
theorem dX2_serveNext_84 : decode cX2_serveNext 84 = .ok (.iaload, 1) := by decide +kernel
theorem dX2_serveNext_85 : decode cX2_serveNext 85 = .ok (.isub, 1) := by decide +kernel
theorem dX2_serveNext_86 : decode cX2_serveNext 86 = .ok (.iastore, 1) := by decide +kernel
theorem dX2_serveNext_87 : decode cX2_serveNext 87 = .ok (.aload_n 0, 1) := by decide +kernel
theorem dX2_serveNext_88 : decode cX2_serveNext 88 = .ok (.dup, 1) := by decide +kernel
theorem dX2_serveNext_89 : decode cX2_serveNext 89 = .ok (.getfield 73, 3) := by decide +kernel
theorem dX2_serveNext_92 : decode cX2_serveNext 92 = .ok (.aload_n 1, 1) := by decide +kernel
theorem dX2_serveNext_93 : decode cX2_serveNext 93 = .ok (.iload_n 2, 1) := by decide +kernel
theorem dX2_serveNext_94 : decode cX2_serveNext 94 = .ok (.invokevirtual 82, 3) := by decide +kernel
theorem dX2_serveNext_97 : decode cX2_serveNext 97 = .ok (.iadd, 1) := by decide +kernel
theorem dX2_serveNext_98 : decode cX2_serveNext 98 = .ok (.putfield 73, 3) := by decide +kernel
theorem dX2_serveNext_101 : decode cX2_serveNext 101 = .ok (.aload_n 0, 1) := by decide +kernel
theorem dX2_serveNext_102 : decode cX2_serveNext 102 = .ok (.getfield 18, 3) := by decide +kernel
theorem dX2_serveNext_105 : decode cX2_serveNext 105 = .ok (.iload_n 2, 1) := by decide +kernel
theorem dX2_serveNext_106 : decode cX2_serveNext 106 = .ok (.aload_n 0, 1) := by decide +kernel
theorem dX2_serveNext_107 : decode cX2_serveNext 107 = .ok (.getfield 73, 3) := by decide +kernel
theorem dX2_serveNext_110 : decode cX2_serveNext 110 = .ok (.iastore, 1) := by decide +kernel
theorem dX2_serveNext_111 : decode cX2_serveNext 111 = .ok (.aload_n 0, 1) := by decide +kernel
theorem dX2_serveNext_112 : decode cX2_serveNext 112 = .ok (.aload_n 0, 1) := by decide +kernel
theorem dX2_serveNext_113 : decode cX2_serveNext 113 = .ok (.getfield 64, 3) := by decide +kernel
theorem dX2_serveNext_116 : decode cX2_serveNext 116 = .ok (.aload_n 0, 1) := by decide +kernel
theorem dX2_serveNext_117 : decode cX2_serveNext 117 = .ok (.getfield 21, 3) := by decide +kernel
theorem dX2_serveNext_120 : decode cX2_serveNext 120 = .ok (.iload_n 2, 1) := by decide +kernel
theorem dX2_serveNext_121 : decode cX2_serveNext 121 = .ok (.iaload, 1) := by decide +kernel
theorem dX2_serveNext_122 : decode cX2_serveNext 122 = .ok (.invokestatic 53, 3) := by decide +kernel
theorem dX2_serveNext_125 : decode cX2_serveNext 125 = .ok (.putfield 64, 3) := by decide +kernel
theorem dX2_serveNext_128 : decode cX2_serveNext 128 = .ok (.aload_n 0, 1) := by decide +kernel
theorem dX2_serveNext_129 : decode cX2_serveNext 129 = .ok (.dup, 1) := by decide +kernel
theorem dX2_serveNext_130 : decode cX2_serveNext 130 = .ok (.getfield 70, 3) := by decide +kernel
theorem dX2_serveNext_133 : decode cX2_serveNext 133 = .ok (.aload_n 0, 1) := by decide +kernel
theorem dX2_serveNext_134 : decode cX2_serveNext 134 = .ok (.getfield 21, 3) := by decide +kernel
theorem dX2_serveNext_137 : decode cX2_serveNext 137 = .ok (.iload_n 2, 1) := by decide +kernel
theorem dX2_serveNext_138 : decode cX2_serveNext 138 = .ok (.iaload, 1) := by decide +kernel
theorem dX2_serveNext_139 : decode cX2_serveNext 139 = .ok (.iadd, 1) := by decide +kernel
theorem dX2_serveNext_140 : decode cX2_serveNext 140 = .ok (.putfield 70, 3) := by decide +kernel
theorem dX2_serveNext_143 : decode cX2_serveNext 143 = .ok (.aload_n 0, 1) := by decide +kernel
theorem dX2_serveNext_144 : decode cX2_serveNext 144 = .ok (.getfield 9, 3) := by decide +kernel
theorem dX2_serveNext_147 : decode cX2_serveNext 147 = .ok (.aload_n 0, 1) := by decide +kernel
theorem dX2_serveNext_148 : decode cX2_serveNext 148 = .ok (.getfield 50, 3) := by decide +kernel
theorem dX2_serveNext_151 : decode cX2_serveNext 151 = .ok (.iload_n 2, 1) := by decide +kernel
theorem dX2_serveNext_152 : decode cX2_serveNext 152 = .ok (.iastore, 1) := by decide +kernel
theorem dX2_serveNext_153 : decode cX2_serveNext 153 = .ok (.aload_n 0, 1) := by decide +kernel
theorem dX2_serveNext_154 : decode cX2_serveNext 154 = .ok (.dup, 1) := by decide +kernel
theorem dX2_serveNext_155 : decode cX2_serveNext 155 = .ok (.getfield 50, 3) := by decide +kernel
theorem dX2_serveNext_158 : decode cX2_serveNext 158 = .ok (.iconst 1, 1) := by decide +kernel
theorem dX2_serveNext_159 : decode cX2_serveNext 159 = .ok (.iadd, 1) := by decide +kernel
theorem dX2_serveNext_160 : decode cX2_serveNext 160 = .ok (.putfield 50, 3) := by decide +kernel
theorem dX2_serveNext_163 : decode cX2_serveNext 163 = .ok (.aload_n 0, 1) := by decide +kernel
theorem dX2_serveNext_164 : decode cX2_serveNext 164 = .ok (.dup, 1) := by decide +kernel
theorem dX2_serveNext_165 : decode cX2_serveNext 165 = .ok (.getfield 67, 3) := by decide +kernel
theorem dX2_serveNext_168 : decode cX2_serveNext 168 = .ok (.iconst 1, 1) := by decide +kernel
theorem dX2_serveNext_169 : decode cX2_serveNext 169 = .ok (.iload_n 2, 1) := by decide +kernel
theorem dX2_serveNext_170 : decode cX2_serveNext 170 = .ok (.ishl, 1) := by decide +kernel
theorem dX2_serveNext_171 : decode cX2_serveNext 171 = .ok (.iconst (-1), 1) := by decide +kernel
theorem dX2_serveNext_172 : decode cX2_serveNext 172 = .ok (.ixor, 1) := by decide +kernel
theorem dX2_serveNext_173 : decode cX2_serveNext 173 = .ok (.iand, 1) := by decide +kernel
theorem dX2_serveNext_174 : decode cX2_serveNext 174 = .ok (.putfield 67, 3) := by decide +kernel
theorem dX2_serveNext_177 : decode cX2_serveNext 177 = .ok (.iload_n 2, 1) := by decide +kernel
theorem dX2_serveNext_178 : decode cX2_serveNext 178 = .ok (.ireturn, 1) := by decide +kernel
theorem dX3_init_0 : decode cX3_init 0 = .ok (.aload_n 0, 1) := by decide +kernel
theorem dX3_init_1 : decode cX3_init 1 = .ok (.invokespecial 1, 3) := by decide +kernel
theorem dX3_init_4 : decode cX3_init 4 = .ok (.aload_n 0, 1) := by decide +kernel
theorem dX3_init_5 : decode cX3_init 5 = .ok (.new 7, 3) := by decide +kernel
theorem dX3_init_8 : decode cX3_init 8 = .ok (.dup, 1) := by decide +kernel
theorem dX3_init_9 : decode cX3_init 9 = .ok (.invokespecial 9, 3) := by decide +kernel
theorem dX3_init_12 : decode cX3_init 12 = .ok (.putfield 10, 3) := by decide +kernel
theorem dX3_init_15 : decode cX3_init 15 = .ok (.aload_n 0, 1) := by decide +kernel
theorem dX3_init_16 : decode cX3_init 16 = .ok (.new 7, 3) := by decide +kernel
theorem dX3_init_19 : decode cX3_init 19 = .ok (.dup, 1) := by decide +kernel
theorem dX3_init_20 : decode cX3_init 20 = .ok (.invokespecial 9, 3) := by decide +kernel
theorem dX3_init_23 : decode cX3_init 23 = .ok (.putfield 16, 3) := by decide +kernel
theorem dX3_init_26 : decode cX3_init 26 = .ok (.aload_n 0, 1) := by decide +kernel
theorem dX3_init_27 : decode cX3_init 27 = .ok (.iconst 2, 1) := by decide +kernel
theorem dX3_init_28 : decode cX3_init 28 = .ok (.anewarray 7, 3) := by decide +kernel
theorem dX3_init_31 : decode cX3_init 31 = .ok (.putfield 19, 3) := by decide +kernel
theorem dX3_init_34 : decode cX3_init 34 = .ok (.iconst 0, 1) := by decide +kernel
theorem dX3_init_35 : decode cX3_init 35 = .ok (.istore_n 1, 1) := by decide +kernel
theorem dX3_init_36 : decode cX3_init 36 = .ok (.iload_n 1, 1) := by decide +kernel
theorem dX3_init_37 : decode cX3_init 37 = .ok (.iconst 2, 1) := by decide +kernel
theorem dX3_init_38 : decode cX3_init 38 = .ok (.if_icmp .ge 22, 3) := by decide +kernel
theorem dX3_init_41 : decode cX3_init 41 = .ok (.aload_n 0, 1) := by decide +kernel
theorem dX3_init_42 : decode cX3_init 42 = .ok (.getfield 19, 3) := by decide +kernel
theorem dX3_init_45 : decode cX3_init 45 = .ok (.iload_n 1, 1) := by decide +kernel
theorem dX3_init_46 : decode cX3_init 46 = .ok (.new 7, 3) := by decide +kernel
theorem dX3_init_49 : decode cX3_init 49 = .ok (.dup, 1) := by decide +kernel
theorem dX3_init_50 : decode cX3_init 50 = .ok (.invokespecial 9, 3) := by decide +kernel
theorem dX3_init_53 : decode cX3_init 53 = .ok (.aastore, 1) := by decide +kernel
theorem dX3_init_54 : decode cX3_init 54 = .ok (.iinc 1 1, 3) := by decide +kernel
theorem dX3_init_57 : decode cX3_init 57 = .ok (.goto (-21), 3) := by decide +kernel
theorem dX3_init_60 : decode cX3_init 60 = .ok (.aload_n 0, 1) := by decide +kernel
theorem dX3_init_61 : decode cX3_init 61 = .ok (.iconst 2, 1) := by decide +kernel
theorem dX3_init_62 : decode cX3_init 62 = .ok (.newarray .boolean, 2) := by decide +kernel
theorem dX3_init_64 : decode cX3_init 64 = .ok (.putfield 23, 3) := by decide +kernel
theorem dX3_init_67 : decode cX3_init 67 = .ok (.aload_n 0, 1) := by decide +kernel
theorem dX3_init_68 : decode cX3_init 68 = .ok (.new 27, 3) := by decide +kernel
theorem dX3_init_71 : decode cX3_init 71 = .ok (.dup, 1) := by decide +kernel
theorem dX3_init_72 : decode cX3_init 72 = .ok (.invokespecial 29, 3) := by decide +kernel
theorem dX3_init_75 : decode cX3_init 75 = .ok (.putfield 30, 3) := by decide +kernel
theorem dX3_init_78 : decode cX3_init 78 = .ok (.aload_n 0, 1) := by decide +kernel
theorem dX3_init_79 : decode cX3_init 79 = .ok (.new 34, 3) := by decide +kernel
theorem dX3_init_82 : decode cX3_init 82 = .ok (.dup, 1) := by decide +kernel
theorem dX3_init_83 : decode cX3_init 83 = .ok (.invokespecial 36, 3) := by decide +kernel
theorem dX3_init_86 : decode cX3_init 86 = .ok (.putfield 37, 3) := by decide +kernel
theorem dX3_init_89 : decode cX3_init 89 = .ok (.return_, 1) := by decide +kernel
theorem dX3_come_0 : decode cX3_come 0 = .ok (.iload_n 1, 1) := by decide +kernel
theorem dX3_come_1 : decode cX3_come 1 = .ok (.iconst 0, 1) := by decide +kernel
theorem dX3_come_2 : decode cX3_come 2 = .ok (.bipush 7, 2) := by decide +kernel
theorem dX3_come_4 : decode cX3_come 4 = .ok (.invokestatic 41, 3) := by decide +kernel
theorem dX3_come_7 : decode cX3_come 7 = .ok (.ifCond .ne 5, 3) := by decide +kernel
theorem dX3_come_10 : decode cX3_come 10 = .ok (.iconst (-1), 1) := by decide +kernel
theorem dX3_come_11 : decode cX3_come 11 = .ok (.ireturn, 1) := by decide +kernel
theorem dX3_come_12 : decode cX3_come 12 = .ok (.iload_n 2, 1) := by decide +kernel
theorem dX3_come_13 : decode cX3_come 13 = .ok (.iconst 0, 1) := by decide +kernel
theorem dX3_come_14 : decode cX3_come 14 = .ok (.bipush 99, 2) := by decide +kernel
theorem dX3_come_16 : decode cX3_come 16 = .ok (.invokestatic 41, 3) := by decide +kernel
theorem dX3_come_19 : decode cX3_come 19 = .ok (.ifCond .eq 25, 3) := by decide +kernel
theorem dX3_come_22 : decode cX3_come 22 = .ok (.iload_n 3, 1) := by decide +kernel
theorem dX3_come_23 : decode cX3_come 23 = .ok (.iconst 0, 1) := by decide +kernel
theorem dX3_come_24 : decode cX3_come 24 = .ok (.sipush 999, 3) := by decide +kernel
theorem dX3_come_27 : decode cX3_come 27 = .ok (.invokestatic 41, 3) := by decide +kernel
theorem dX3_come_30 : decode cX3_come 30 = .ok (.ifCond .eq 14, 3) := by decide +kernel
theorem dX3_come_33 : decode cX3_come 33 = .ok (.iload 4, 2) := by decide +kernel
theorem dX3_come_35 : decode cX3_come 35 = .ok (.iconst 1, 1) := by decide +kernel
theorem dX3_come_36 : decode cX3_come 36 = .ok (.bipush 9, 2) := by decide +kernel
theorem dX3_come_38 : decode cX3_come 38 = .ok (.invokestatic 41, 3) := by decide +kernel
theorem dX3_come_41 : decode cX3_come 41 = .ok (.ifCond .ne 6, 3) := by decide +kernel
theorem dX3_come_44 : decode cX3_come 44 = .ok (.bipush (-2), 2) := by decide +kernel
theorem dX3_come_46 : decode cX3_come 46 = .ok (.ireturn, 1) := by decide +kernel
theorem dX3_come_47 : decode cX3_come 47 = .ok (.aload_n 0, 1) := by decide +kernel
theorem dX3_come_48 : decode cX3_come 48 = .ok (.getfield 10, 3) := by decide +kernel
theorem dX3_come_51 : decode cX3_come 51 = .ok (.getfield 45, 3) := by decide +kernel
theorem dX3_come_54 : decode cX3_come 54 = .ok (.iload_n 1, 1) := by decide +kernel
theorem dX3_come_55 : decode cX3_come 55 = .ok (.iload_n 2, 1) := by decide +kernel
theorem dX3_come_56 : decode cX3_come 56 = .ok (.iastore, 1) := by decide +kernel
theorem dX3_come_57 : decode cX3_come 57 = .ok (.aload_n 0, 1) := by decide +kernel
theorem dX3_come_58 : decode cX3_come 58 = .ok (.getfield 10, 3) := by decide +kernel
theorem dX3_come_61 : decode cX3_come 61 = .ok (.getfield 49, 3) := by decide +kernel
theorem dX3_come_64 : decode cX3_come 64 = .ok (.iload_n 1, 1) := by decide +kernel
theorem dX3_come_65 : decode cX3_come 65 = .ok (.iload_n 3, 1) := by decide +kernel
theorem dX3_come_66 : decode cX3_come 66 = .ok (.iastore, 1) := by decide +kernel
theorem dX3_come_67 : decode cX3_come 67 = .ok (.aload_n 0, 1) := by decide +kernel
theorem dX3_come_68 : decode cX3_come 68 = .ok (.getfield 10, 3) := by decide +kernel
theorem dX3_come_71 : decode cX3_come 71 = .ok (.getfield 52, 3) := by decide +kernel
theorem dX3_come_74 : decode cX3_come 74 = .ok (.iload_n 1, 1) := by decide +kernel
theorem dX3_come_75 : decode cX3_come 75 = .ok (.iload 4, 2) := by decide +kernel
theorem dX3_come_77 : decode cX3_come 77 = .ok (.iastore, 1) := by decide +kernel
theorem dX3_come_78 : decode cX3_come 78 = .ok (.aload_n 0, 1) := by decide +kernel
end
section
theorem dX3_come_79 : decode cX3_come 79 = .ok (.getfield 10, 3) := by decide +kernel
theorem dX3_come_82 : decode cX3_come 82 = .ok (.getfield 55, 3) := by decide +kernel
theorem dX3_come_85 : decode cX3_come 85 = .ok (.iload_n 1, 1) := by decide +kernel
theorem dX3_come_86 : decode cX3_come 86 = .ok (.iload 5, 2) := by decide +kernel
theorem dX3_come_88 : decode cX3_come 88 = .ok (.bastore, 1) := by decide +kernel
theorem dX3_come_89 : decode cX3_come 89 = .ok (.aload_n 0, 1) := by decide +kernel
theorem dX3_come_90 : decode cX3_come 90 = .ok (.getfield 10, 3) := by decide +kernel
theorem dX3_come_93 : decode cX3_come 93 = .ok (.dup, 1) := by decide +kernel
theorem dX3_come_94 : decode cX3_come 94 = .ok (.getfield 58, 3) := by decide +kernel
theorem dX3_come_97 : decode cX3_come 97 = .ok (.iconst 1, 1) := by decide +kernel
theorem dX3_come_98 : decode cX3_come 98 = .ok (.iload_n 1, 1) := by decide +kernel
theorem dX3_come_99 : decode cX3_come 99 = .ok (.ishl, 1) := by decide +kernel
theorem dX3_come_100 : decode cX3_come 100 = .ok (.ior, 1) := by decide +kernel
theorem dX3_come_101 : decode cX3_come 101 = .ok (.putfield 58, 3) := by decide +kernel
theorem dX3_come_104 : decode cX3_come 104 = .ok (.aload_n 0, 1) := by decide +kernel
theorem dX3_come_105 : decode cX3_come 105 = .ok (.getfield 10, 3) := by decide +kernel
theorem dX3_come_108 : decode cX3_come 108 = .ok (.getfield 58, 3) := by decide +kernel
theorem dX3_come_111 : decode cX3_come 111 = .ok (.invokestatic 62, 3) := by decide +kernel
theorem dX3_come_114 : decode cX3_come 114 = .ok (.ireturn, 1) := by decide +kernel
theorem dX3_stays_0 : decode cX3_stays 0 = .ok (.aload_n 0, 1) := by decide +kernel
theorem dX3_stays_1 : decode cX3_stays 1 = .ok (.getfield 10, 3) := by decide +kernel
theorem dX3_stays_4 : decode cX3_stays 4 = .ok (.iload_n 1, 1) := by decide +kernel
theorem dX3_stays_5 : decode cX3_stays 5 = .ok (.invokevirtual 68, 3) := by decide +kernel
theorem dX3_stays_8 : decode cX3_stays 8 = .ok (.ifCond .ne 5, 3) := by decide +kernel
theorem dX3_stays_11 : decode cX3_stays 11 = .ok (.iconst (-1), 1) := by decide +kernel
theorem dX3_stays_12 : decode cX3_stays 12 = .ok (.ireturn, 1) := by decide +kernel
theorem dX3_stays_13 : decode cX3_stays 13 = .ok (.aload_n 0, 1) := by decide +kernel
theorem dX3_stays_14 : decode cX3_stays 14 = .ok (.getfield 10, 3) := by decide +kernel
theorem dX3_stays_17 : decode cX3_stays 17 = .ok (.dup, 1) := by decide +kernel
theorem dX3_stays_18 : decode cX3_stays 18 = .ok (.getfield 58, 3) := by decide +kernel
theorem dX3_stays_21 : decode cX3_stays 21 = .ok (.iconst 1, 1) := by decide +kernel
theorem dX3_stays_22 : decode cX3_stays 22 = .ok (.iload_n 1, 1) := by decide +kernel
theorem dX3_stays_23 : decode cX3_stays 23 = .ok (.ishl, 1) := by decide +kernel
theorem dX3_stays_24 : decode cX3_stays 24 = .ok (.iconst (-1), 1) := by decide +kernel
theorem dX3_stays_25 : decode cX3_stays 25 = .ok (.ixor, 1) := by decide +kernel
theorem dX3_stays_26 : decode cX3_stays 26 = .ok (.iand, 1) := by decide +kernel
theorem dX3_stays_27 : decode cX3_stays 27 = .ok (.putfield 58, 3) := by decide +kernel
theorem dX3_stays_30 : decode cX3_stays 30 = .ok (.aload_n 0, 1) := by decide +kernel
theorem dX3_stays_31 : decode cX3_stays 31 = .ok (.getfield 10, 3) := by decide +kernel
theorem dX3_stays_34 : decode cX3_stays 34 = .ok (.getfield 58, 3) := by decide +kernel
theorem dX3_stays_37 : decode cX3_stays 37 = .ok (.invokestatic 62, 3) := by decide +kernel
theorem dX3_stays_40 : decode cX3_stays 40 = .ok (.ireturn, 1) := by decide +kernel
theorem dX3_person_0 : decode cX3_person 0 = .ok (.aload_n 0, 1) := by decide +kernel
theorem dX3_person_1 : decode cX3_person 1 = .ok (.getfield 10, 3) := by decide +kernel
theorem dX3_person_4 : decode cX3_person 4 = .ok (.iload_n 1, 1) := by decide +kernel
theorem dX3_person_5 : decode cX3_person 5 = .ok (.invokevirtual 68, 3) := by decide +kernel
theorem dX3_person_8 : decode cX3_person 8 = .ok (.ifCond .ne 5, 3) := by decide +kernel
theorem dX3_person_11 : decode cX3_person 11 = .ok (.iconst (-1), 1) := by decide +kernel
theorem dX3_person_12 : decode cX3_person 12 = .ok (.ireturn, 1) := by decide +kernel
theorem dX3_person_13 : decode cX3_person 13 = .ok (.iload_n 2, 1) := by decide +kernel
theorem dX3_person_14 : decode cX3_person 14 = .ok (.tableswitch 78 0 3 #[30, 40, 50, 60], 30) := by decide +kernel
theorem dX3_person_44 : decode cX3_person 44 = .ok (.aload_n 0, 1) := by decide +kernel
theorem dX3_person_45 : decode cX3_person 45 = .ok (.getfield 10, 3) := by decide +kernel
theorem dX3_person_48 : decode cX3_person 48 = .ok (.getfield 45, 3) := by decide +kernel
theorem dX3_person_51 : decode cX3_person 51 = .ok (.iload_n 1, 1) := by decide +kernel
theorem dX3_person_52 : decode cX3_person 52 = .ok (.iaload, 1) := by decide +kernel
theorem dX3_person_53 : decode cX3_person 53 = .ok (.ireturn, 1) := by decide +kernel
theorem dX3_person_54 : decode cX3_person 54 = .ok (.aload_n 0, 1) := by decide +kernel
theorem dX3_person_55 : decode cX3_person 55 = .ok (.getfield 10, 3) := by decide +kernel
theorem dX3_person_58 : decode cX3_person 58 = .ok (.getfield 49, 3) := by decide +kernel
theorem dX3_person_61 : decode cX3_person 61 = .ok (.iload_n 1, 1) := by decide +kernel
theorem dX3_person_62 : decode cX3_person 62 = .ok (.iaload, 1) := by decide +kernel
theorem dX3_person_63 : decode cX3_person 63 = .ok (.ireturn, 1) := by decide +kernel
theorem dX3_person_64 : decode cX3_person 64 = .ok (.aload_n 0, 1) := by decide +kernel
theorem dX3_person_65 : decode cX3_person 65 = .ok (.getfield 10, 3) := by decide +kernel
theorem dX3_person_68 : decode cX3_person 68 = .ok (.getfield 52, 3) := by decide +kernel
theorem dX3_person_71 : decode cX3_person 71 = .ok (.iload_n 1, 1) := by decide +kernel
theorem dX3_person_72 : decode cX3_person 72 = .ok (.iaload, 1) := by decide +kernel
theorem dX3_person_73 : decode cX3_person 73 = .ok (.ireturn, 1) := by decide +kernel
theorem dX3_person_74 : decode cX3_person 74 = .ok (.aload_n 0, 1) := by decide +kernel
theorem dX3_person_75 : decode cX3_person 75 = .ok (.getfield 10, 3) := by decide +kernel
theorem dX3_person_78 : decode cX3_person 78 = .ok (.getfield 55, 3) := by decide +kernel
theorem dX3_person_81 : decode cX3_person 81 = .ok (.iload_n 1, 1) := by decide +kernel
theorem dX3_person_82 : decode cX3_person 82 = .ok (.baload, 1) := by decide +kernel
theorem dX3_person_83 : decode cX3_person 83 = .ok (.ifCond .eq 7, 3) := by decide +kernel
theorem dX3_person_86 : decode cX3_person 86 = .ok (.iconst 1, 1) := by decide +kernel
theorem dX3_person_87 : decode cX3_person 87 = .ok (.goto 4, 3) := by decide +kernel
theorem dX3_person_90 : decode cX3_person 90 = .ok (.iconst 0, 1) := by decide +kernel
theorem dX3_person_91 : decode cX3_person 91 = .ok (.ireturn, 1) := by decide +kernel
theorem dX3_person_92 : decode cX3_person 92 = .ok (.bipush (-2), 2) := by decide +kernel
theorem dX3_person_94 : decode cX3_person 94 = .ok (.ireturn, 1) := by decide +kernel
theorem dX3_set_0 : decode cX3_set 0 = .ok (.iload_n 1, 1) := by decide +kernel
theorem dX3_set_1 : decode cX3_set 1 = .ok (.iconst 0, 1) := by decide +kernel
theorem dX3_set_2 : decode cX3_set 2 = .ok (.iconst 3, 1) := by decide +kernel
theorem dX3_set_3 : decode cX3_set 3 = .ok (.invokestatic 41, 3) := by decide +kernel
theorem dX3_set_6 : decode cX3_set 6 = .ok (.ifCond .eq 18, 3) := by decide +kernel
theorem dX3_set_9 : decode cX3_set 9 = .ok (.iload_n 2, 1) := by decide +kernel
theorem dX3_set_10 : decode cX3_set 10 = .ok (.iload_n 1, 1) := by decide +kernel
theorem dX3_set_11 : decode cX3_set 11 = .ok (.invokestatic 72, 3) := by decide +kernel
theorem dX3_set_14 : decode cX3_set 14 = .ok (.iload_n 1, 1) := by decide +kernel
theorem dX3_set_15 : decode cX3_set 15 = .ok (.invokestatic 75, 3) := by decide +kernel
theorem dX3_set_18 : decode cX3_set 18 = .ok (.invokestatic 41, 3) := by decide +kernel
theorem dX3_set_21 : decode cX3_set 21 = .ok (.ifCond .ne 6, 3) := by decide +kernel
theorem dX3_set_24 : decode cX3_set 24 = .ok (.bipush (-2), 2) := by decide +kernel
theorem dX3_set_26 : decode cX3_set 26 = .ok (.ireturn, 1) := by decide +kernel
theorem dX3_set_27 : decode cX3_set 27 = .ok (.aload_n 0, 1) := by decide +kernel
theorem dX3_set_28 : decode cX3_set 28 = .ok (.getfield 10, 3) := by decide +kernel
theorem dX3_set_31 : decode cX3_set 31 = .ok (.iload_n 1, 1) := by decide +kernel
theorem dX3_set_32 : decode cX3_set 32 = .ok (.invokevirtual 78, 3) := by decide +kernel
theorem dX3_set_35 : decode cX3_set 35 = .ok (.istore_n 3, 1) := by decide +kernel
theorem dX3_set_36 : decode cX3_set 36 = .ok (.aload_n 0, 1) := by decide +kernel
theorem dX3_set_37 : decode cX3_set 37 = .ok (.getfield 10, 3) := by decide +kernel
theorem dX3_set_40 : decode cX3_set 40 = .ok (.iload_n 1, 1) := by decide +kernel
theorem dX3_set_41 : decode cX3_set 41 = .ok (.iload_n 2, 1) := by decide +kernel
theorem dX3_set_42 : decode cX3_set 42 = .ok (.invokevirtual 81, 3) := by decide +kernel
theorem dX3_set_45 : decode cX3_set 45 = .ok (.iload_n 3, 1) := by decide +kernel
theorem dX3_set_46 : decode cX3_set 46 = .ok (.ireturn, 1) := by decide +kernel
theorem dX3_say_0 : decode cX3_say 0 = .ok (.iload_n 1, 1) := by decide +kernel
theorem dX3_say_1 : decode cX3_say 1 = .ok (.bipush 33, 2) := by decide +kernel
theorem dX3_say_3 : decode cX3_say 3 = .ok (.bipush 126, 2) := by decide +kernel
theorem dX3_say_5 : decode cX3_say 5 = .ok (.invokestatic 41, 3) := by decide +kernel
theorem dX3_say_8 : decode cX3_say 8 = .ok (.ifCond .ne 6, 3) := by decide +kernel
theorem dX3_say_11 : decode cX3_say 11 = .ok (.bipush (-2), 2) := by decide +kernel
theorem dX3_say_13 : decode cX3_say 13 = .ok (.ireturn, 1) := by decide +kernel
theorem dX3_say_14 : decode cX3_say 14 = .ok (.aload_n 0, 1) := by decide +kernel
theorem dX3_say_15 : decode cX3_say 15 = .ok (.getfield 37, 3) := by decide +kernel
theorem dX3_say_18 : decode cX3_say 18 = .ok (.iload_n 1, 1) := by decide +kernel
theorem dX3_say_19 : decode cX3_say 19 = .ok (.invokevirtual 85, 3) := by decide +kernel
theorem dX3_say_22 : decode cX3_say 22 = .ok (.ifCond .eq 13, 3) := by decide +kernel
theorem dX3_say_25 : decode cX3_say 25 = .ok (.aload_n 0, 1) := by decide +kernel
theorem dX3_say_26 : decode cX3_say 26 = .ok (.getfield 37, 3) := by decide +kernel
theorem dX3_say_29 : decode cX3_say 29 = .ok (.getfield 88, 3) := by decide +kernel
theorem dX3_say_32 : decode cX3_say 32 = .ok (.goto 5, 3) := by decide +kernel
theorem dX3_say_35 : decode cX3_say 35 = .ok (.bipush (-4), 2) := by decide +kernel
theorem dX3_say_37 : decode cX3_say 37 = .ok (.ireturn, 1) := by decide +kernel
theorem dX3_wipe_0 : decode cX3_wipe 0 = .ok (.aload_n 0, 1) := by decide +kernel
theorem dX3_wipe_1 : decode cX3_wipe 1 = .ok (.getfield 37, 3) := by decide +kernel
theorem dX3_wipe_4 : decode cX3_wipe 4 = .ok (.getfield 88, 3) := by decide +kernel
theorem dX3_wipe_7 : decode cX3_wipe 7 = .ok (.istore_n 1, 1) := by decide +kernel
theorem dX3_wipe_8 : decode cX3_wipe 8 = .ok (.aload_n 0, 1) := by decide +kernel
theorem dX3_wipe_9 : decode cX3_wipe 9 = .ok (.getfield 37, 3) := by decide +kernel
theorem dX3_wipe_12 : decode cX3_wipe 12 = .ok (.iconst 0, 1) := by decide +kernel
theorem dX3_wipe_13 : decode cX3_wipe 13 = .ok (.putfield 88, 3) := by decide +kernel
theorem dX3_wipe_16 : decode cX3_wipe 16 = .ok (.iload_n 1, 1) := by decide +kernel
theorem dX3_wipe_17 : decode cX3_wipe 17 = .ok (.ireturn, 1) := by decide +kernel
theorem dX3_fault_0 : decode cX3_fault 0 = .ok (.aload_n 0, 1) := by decide +kernel
theorem dX3_fault_1 : decode cX3_fault 1 = .ok (.getfield 37, 3) := by decide +kernel
theorem dX3_fault_4 : decode cX3_fault 4 = .ok (.aload_n 0, 1) := by decide +kernel
theorem dX3_fault_5 : decode cX3_fault 5 = .ok (.getfield 10, 3) := by decide +kernel
theorem dX3_fault_8 : decode cX3_fault 8 = .ok (.getfield 58, 3) := by decide +kernel
theorem dX3_fault_11 : decode cX3_fault 11 = .ok (.invokevirtual 91, 3) := by decide +kernel
theorem dX3_fault_14 : decode cX3_fault 14 = .ok (.ireturn, 1) := by decide +kernel
theorem dX3_served_0 : decode cX3_served 0 = .ok (.aload_n 0, 1) := by decide +kernel
theorem dX3_served_1 : decode cX3_served 1 = .ok (.getfield 30, 3) := by decide +kernel
theorem dX3_served_4 : decode cX3_served 4 = .ok (.aload_n 0, 1) := by decide +kernel
theorem dX3_served_5 : decode cX3_served 5 = .ok (.getfield 10, 3) := by decide +kernel
theorem dX3_served_8 : decode cX3_served 8 = .ok (.aload_n 0, 1) := by decide +kernel
theorem dX3_served_9 : decode cX3_served 9 = .ok (.getfield 10, 3) := by decide +kernel
theorem dX3_served_12 : decode cX3_served 12 = .ok (.getfield 58, 3) := by decide +kernel
theorem dX3_served_15 : decode cX3_served 15 = .ok (.invokevirtual 94, 3) := by decide +kernel
theorem dX3_served_18 : decode cX3_served 18 = .ok (.iload_n 1, 1) := by decide +kernel
theorem dX3_served_19 : decode cX3_served 19 = .ok (.iconst (-1), 1) := by decide +kernel
theorem dX3_served_20 : decode cX3_served 20 = .ok (.if_icmp .ne 11, 3) := by decide +kernel
theorem dX3_served_23 : decode cX3_served 23 = .ok (.aload_n 0, 1) := by decide +kernel
theorem dX3_served_24 : decode cX3_served 24 = .ok (.getfield 30, 3) := by decide +kernel
theorem dX3_served_27 : decode cX3_served 27 = .ok (.getfield 98, 3) := by decide +kernel
theorem dX3_served_30 : decode cX3_served 30 = .ok (.ireturn, 1) := by decide +kernel
theorem dX3_served_31 : decode cX3_served 31 = .ok (.iload_n 1, 1) := by decide +kernel
theorem dX3_served_32 : decode cX3_served 32 = .ok (.iconst 0, 1) := by decide +kernel
theorem dX3_served_33 : decode cX3_served 33 = .ok (.aload_n 0, 1) := by decide +kernel
theorem dX3_served_34 : decode cX3_served 34 = .ok (.getfield 30, 3) := by decide +kernel
theorem dX3_served_37 : decode cX3_served 37 = .ok (.getfield 98, 3) := by decide +kernel
theorem dX3_served_40 : decode cX3_served 40 = .ok (.iconst 1, 1) := by decide +kernel
theorem dX3_served_41 : decode cX3_served 41 = .ok (.isub, 1) := by decide +kernel
theorem dX3_served_42 : decode cX3_served 42 = .ok (.invokestatic 41, 3) := by decide +kernel
theorem dX3_served_45 : decode cX3_served 45 = .ok (.ifCond .eq 15, 3) := by decide +kernel
theorem dX3_served_48 : decode cX3_served 48 = .ok (.aload_n 0, 1) := by decide +kernel
theorem dX3_served_49 : decode cX3_served 49 = .ok (.getfield 30, 3) := by decide +kernel
theorem dX3_served_52 : decode cX3_served 52 = .ok (.getfield 101, 3) := by decide +kernel
theorem dX3_served_55 : decode cX3_served 55 = .ok (.iload_n 1, 1) := by decide +kernel
theorem dX3_served_56 : decode cX3_served 56 = .ok (.iaload, 1) := by decide +kernel
theorem dX3_served_57 : decode cX3_served 57 = .ok (.goto 5, 3) := by decide +kernel
theorem dX3_served_60 : decode cX3_served 60 = .ok (.bipush (-6), 2) := by decide +kernel
theorem dX3_served_62 : decode cX3_served 62 = .ok (.ireturn, 1) := by decide +kernel
theorem dX3_waits_0 : decode cX3_waits 0 = .ok (.aload_n 0, 1) := by decide +kernel
theorem dX3_waits_1 : decode cX3_waits 1 = .ok (.getfield 10, 3) := by decide +kernel
theorem dX3_waits_4 : decode cX3_waits 4 = .ok (.iload_n 1, 1) := by decide +kernel
theorem dX3_waits_5 : decode cX3_waits 5 = .ok (.invokevirtual 68, 3) := by decide +kernel
theorem dX3_waits_8 : decode cX3_waits 8 = .ok (.ifCond .ne 5, 3) := by decide +kernel
theorem dX3_waits_11 : decode cX3_waits 11 = .ok (.iconst (-1), 1) := by decide +kernel
theorem dX3_waits_12 : decode cX3_waits 12 = .ok (.ireturn, 1) := by decide +kernel
theorem dX3_waits_13 : decode cX3_waits 13 = .ok (.iload_n 2, 1) := by decide +kernel
theorem dX3_waits_14 : decode cX3_waits 14 = .ok (.iconst 0, 1) := by decide +kernel
theorem dX3_waits_15 : decode cX3_waits 15 = .ok (.iconst 1, 1) := by decide +kernel
theorem dX3_waits_16 : decode cX3_waits 16 = .ok (.invokestatic 41, 3) := by decide +kernel
theorem dX3_waits_19 : decode cX3_waits 19 = .ok (.ifCond .ne 6, 3) := by decide +kernel
theorem dX3_waits_22 : decode cX3_waits 22 = .ok (.bipush (-2), 2) := by decide +kernel
theorem dX3_waits_24 : decode cX3_waits 24 = .ok (.ireturn, 1) := by decide +kernel
theorem dX3_waits_25 : decode cX3_waits 25 = .ok (.aload_n 0, 1) := by decide +kernel
theorem dX3_waits_26 : decode cX3_waits 26 = .ok (.getfield 30, 3) := by decide +kernel
theorem dX3_waits_29 : decode cX3_waits 29 = .ok (.aload_n 0, 1) := by decide +kernel
theorem dX3_waits_30 : decode cX3_waits 30 = .ok (.getfield 10, 3) := by decide +kernel
theorem dX3_waits_33 : decode cX3_waits 33 = .ok (.aload_n 0, 1) := by decide +kernel
theorem dX3_waits_34 : decode cX3_waits 34 = .ok (.getfield 10, 3) := by decide +kernel
theorem dX3_waits_37 : decode cX3_waits 37 = .ok (.getfield 58, 3) := by decide +kernel
theorem dX3_waits_40 : decode cX3_waits 40 = .ok (.invokevirtual 94, 3) := by decide +kernel
theorem dX3_waits_43 : decode cX3_waits 43 = .ok (.iload_n 2, 1) := by decide +kernel
theorem dX3_waits_44 : decode cX3_waits 44 = .ok (.ifCond .ne 15, 3) := by decide +kernel
theorem dX3_waits_47 : decode cX3_waits 47 = .ok (.aload_n 0, 1) := by decide +kernel
theorem dX3_waits_48 : decode cX3_waits 48 = .ok (.getfield 30, 3) := by decide +kernel
theorem dX3_waits_51 : decode cX3_waits 51 = .ok (.getfield 104, 3) := by decide +kernel
theorem dX3_waits_54 : decode cX3_waits 54 = .ok (.iload_n 1, 1) := by decide +kernel
theorem dX3_waits_55 : decode cX3_waits 55 = .ok (.iaload, 1) := by decide +kernel
theorem dX3_waits_56 : decode cX3_waits 56 = .ok (.goto 12, 3) := by decide +kernel
theorem dX3_waits_59 : decode cX3_waits 59 = .ok (.aload_n 0, 1) := by decide +kernel
theorem dX3_waits_60 : decode cX3_waits 60 = .ok (.getfield 30, 3) := by decide +kernel
theorem dX3_waits_63 : decode cX3_waits 63 = .ok (.getfield 107, 3) := by decide +kernel
theorem dX3_waits_66 : decode cX3_waits 66 = .ok (.iload_n 1, 1) := by decide +kernel
theorem dX3_waits_67 : decode cX3_waits 67 = .ok (.iaload, 1) := by decide +kernel
theorem dX3_waits_68 : decode cX3_waits 68 = .ok (.ireturn, 1) := by decide +kernel
theorem dX3_all_0 : decode cX3_all 0 = .ok (.iload_n 1, 1) := by decide +kernel
theorem dX3_all_1 : decode cX3_all 1 = .ok (.iconst 0, 1) := by decide +kernel
theorem dX3_all_2 : decode cX3_all 2 = .ok (.iconst 3, 1) := by decide +kernel
theorem dX3_all_3 : decode cX3_all 3 = .ok (.invokestatic 41, 3) := by decide +kernel
theorem dX3_all_6 : decode cX3_all 6 = .ok (.ifCond .ne 6, 3) := by decide +kernel
theorem dX3_all_9 : decode cX3_all 9 = .ok (.bipush (-2), 2) := by decide +kernel
theorem dX3_all_11 : decode cX3_all 11 = .ok (.ireturn, 1) := by decide +kernel
theorem dX3_all_12 : decode cX3_all 12 = .ok (.aload_n 0, 1) := by decide +kernel
theorem dX3_all_13 : decode cX3_all 13 = .ok (.getfield 30, 3) := by decide +kernel
theorem dX3_all_16 : decode cX3_all 16 = .ok (.aload_n 0, 1) := by decide +kernel
theorem dX3_all_17 : decode cX3_all 17 = .ok (.getfield 10, 3) := by decide +kernel
theorem dX3_all_20 : decode cX3_all 20 = .ok (.aload_n 0, 1) := by decide +kernel
theorem dX3_all_21 : decode cX3_all 21 = .ok (.getfield 10, 3) := by decide +kernel
theorem dX3_all_24 : decode cX3_all 24 = .ok (.getfield 58, 3) := by decide +kernel
theorem dX3_all_27 : decode cX3_all 27 = .ok (.invokevirtual 94, 3) := by decide +kernel
theorem dX3_all_30 : decode cX3_all 30 = .ok (.iload_n 1, 1) := by decide +kernel
theorem dX3_all_31 : decode cX3_all 31 = .ok (.tableswitch 49 0 2 #[25, 33, 41], 25) := by decide +kernel
theorem dX3_all_56 : decode cX3_all 56 = .ok (.aload_n 0, 1) := by decide +kernel
theorem dX3_all_57 : decode cX3_all 57 = .ok (.getfield 30, 3) := by decide +kernel
theorem dX3_all_60 : decode cX3_all 60 = .ok (.getfield 110, 3) := by decide +kernel
theorem dX3_all_63 : decode cX3_all 63 = .ok (.ireturn, 1) := by decide +kernel
theorem dX3_all_64 : decode cX3_all 64 = .ok (.aload_n 0, 1) := by decide +kernel
theorem dX3_all_65 : decode cX3_all 65 = .ok (.getfield 30, 3) := by decide +kernel
theorem dX3_all_68 : decode cX3_all 68 = .ok (.invokevirtual 113, 3) := by decide +kernel
theorem dX3_all_71 : decode cX3_all 71 = .ok (.ireturn, 1) := by decide +kernel
theorem dX3_all_72 : decode cX3_all 72 = .ok (.aload_n 0, 1) := by decide +kernel
theorem dX3_all_73 : decode cX3_all 73 = .ok (.getfield 30, 3) := by decide +kernel
theorem dX3_all_76 : decode cX3_all 76 = .ok (.getfield 117, 3) := by decide +kernel
theorem dX3_all_79 : decode cX3_all 79 = .ok (.ireturn, 1) := by decide +kernel
theorem dX3_all_80 : decode cX3_all 80 = .ok (.aload_n 0, 1) := by decide +kernel
theorem dX3_all_81 : decode cX3_all 81 = .ok (.getfield 30, 3) := by decide +kernel
theorem dX3_all_84 : decode cX3_all 84 = .ok (.getfield 120, 3) := by decide +kernel
theorem dX3_all_87 : decode cX3_all 87 = .ok (.ireturn, 1) := by decide +kernel
theorem dX3_judge_0 : decode cX3_judge 0 = .ok (.iload_n 1, 1) := by decide +kernel
theorem dX3_judge_1 : decode cX3_judge 1 = .ok (.iconst 0, 1) := by decide +kernel
theorem dX3_judge_2 : decode cX3_judge 2 = .ok (.iconst 1, 1) := by decide +kernel
theorem dX3_judge_3 : decode cX3_judge 3 = .ok (.invokestatic 41, 3) := by decide +kernel
theorem dX3_judge_6 : decode cX3_judge 6 = .ok (.ifCond .ne 6, 3) := by decide +kernel
theorem dX3_judge_9 : decode cX3_judge 9 = .ok (.bipush (-2), 2) := by decide +kernel
theorem dX3_judge_11 : decode cX3_judge 11 = .ok (.ireturn, 1) := by decide +kernel
theorem dX3_judge_12 : decode cX3_judge 12 = .ok (.aload_n 0, 1) := by decide +kernel
theorem dX3_judge_13 : decode cX3_judge 13 = .ok (.getfield 37, 3) := by decide +kernel
theorem dX3_judge_16 : decode cX3_judge 16 = .ok (.aload_n 0, 1) := by decide +kernel
theorem dX3_judge_17 : decode cX3_judge 17 = .ok (.getfield 10, 3) := by decide +kernel
theorem dX3_judge_20 : decode cX3_judge 20 = .ok (.getfield 58, 3) := by decide +kernel
theorem dX3_judge_23 : decode cX3_judge 23 = .ok (.invokevirtual 91, 3) := by decide +kernel
theorem dX3_judge_26 : decode cX3_judge 26 = .ok (.bipush (-6), 2) := by decide +kernel
theorem dX3_judge_28 : decode cX3_judge 28 = .ok (.if_icmp .eq 6, 3) := by decide +kernel
theorem dX3_judge_31 : decode cX3_judge 31 = .ok (.bipush (-5), 2) := by decide +kernel
theorem dX3_judge_33 : decode cX3_judge 33 = .ok (.ireturn, 1) := by decide +kernel
theorem dX3_judge_34 : decode cX3_judge 34 = .ok (.aload_n 0, 1) := by decide +kernel
theorem dX3_judge_35 : decode cX3_judge 35 = .ok (.getfield 30, 3) := by decide +kernel
theorem dX3_judge_38 : decode cX3_judge 38 = .ok (.aload_n 0, 1) := by decide +kernel
theorem dX3_judge_39 : decode cX3_judge 39 = .ok (.getfield 10, 3) := by decide +kernel
theorem dX3_judge_42 : decode cX3_judge 42 = .ok (.aload_n 0, 1) := by decide +kernel
theorem dX3_judge_43 : decode cX3_judge 43 = .ok (.getfield 10, 3) := by decide +kernel
theorem dX3_judge_46 : decode cX3_judge 46 = .ok (.getfield 58, 3) := by decide +kernel
theorem dX3_judge_49 : decode cX3_judge 49 = .ok (.invokevirtual 94, 3) := by decide +kernel
theorem dX3_judge_52 : decode cX3_judge 52 = .ok (.iconst 0, 1) := by decide +kernel
theorem dX3_judge_53 : decode cX3_judge 53 = .ok (.istore_n 2, 1) := by decide +kernel
theorem dX3_judge_54 : decode cX3_judge 54 = .ok (.iload_n 2, 1) := by decide +kernel
theorem dX3_judge_55 : decode cX3_judge 55 = .ok (.aload_n 0, 1) := by decide +kernel
theorem dX3_judge_56 : decode cX3_judge 56 = .ok (.getfield 37, 3) := by decide +kernel
theorem dX3_judge_59 : decode cX3_judge 59 = .ok (.getfield 88, 3) := by decide +kernel
theorem dX3_judge_62 : decode cX3_judge 62 = .ok (.if_icmp .ge 58, 3) := by decide +kernel
theorem dX3_judge_65 : decode cX3_judge 65 = .ok (.iload_n 2, 1) := by decide +kernel
theorem dX3_judge_66 : decode cX3_judge 66 = .ok (.aload_n 0, 1) := by decide +kernel
theorem dX3_judge_67 : decode cX3_judge 67 = .ok (.getfield 30, 3) := by decide +kernel
theorem dX3_judge_70 : decode cX3_judge 70 = .ok (.getfield 98, 3) := by decide +kernel
theorem dX3_judge_73 : decode cX3_judge 73 = .ok (.if_icmp .ge 47, 3) := by decide +kernel
theorem dX3_judge_76 : decode cX3_judge 76 = .ok (.aload_n 0, 1) := by decide +kernel
theorem dX3_judge_77 : decode cX3_judge 77 = .ok (.getfield 37, 3) := by decide +kernel
theorem dX3_judge_80 : decode cX3_judge 80 = .ok (.iload_n 2, 1) := by decide +kernel
theorem dX3_judge_81 : decode cX3_judge 81 = .ok (.invokevirtual 123, 3) := by decide +kernel
theorem dX3_judge_84 : decode cX3_judge 84 = .ok (.aload_n 0, 1) := by decide +kernel
theorem dX3_judge_85 : decode cX3_judge 85 = .ok (.getfield 30, 3) := by decide +kernel
theorem dX3_judge_88 : decode cX3_judge 88 = .ok (.getfield 101, 3) := by decide +kernel
theorem dX3_judge_91 : decode cX3_judge 91 = .ok (.iload_n 2, 1) := by decide +kernel
theorem dX3_judge_92 : decode cX3_judge 92 = .ok (.iaload, 1) := by decide +kernel
theorem dX3_judge_93 : decode cX3_judge 93 = .ok (.if_icmp .eq 21, 3) := by decide +kernel
theorem dX3_judge_96 : decode cX3_judge 96 = .ok (.iload_n 1, 1) := by decide +kernel
theorem dX3_judge_97 : decode cX3_judge 97 = .ok (.ifCond .ne 7, 3) := by decide +kernel
theorem dX3_judge_100 : decode cX3_judge 100 = .ok (.iload_n 2, 1) := by decide +kernel
theorem dX3_judge_101 : decode cX3_judge 101 = .ok (.goto 12, 3) := by decide +kernel
theorem dX3_judge_104 : decode cX3_judge 104 = .ok (.aload_n 0, 1) := by decide +kernel
theorem dX3_judge_105 : decode cX3_judge 105 = .ok (.getfield 30, 3) := by decide +kernel
theorem dX3_judge_108 : decode cX3_judge 108 = .ok (.getfield 101, 3) := by decide +kernel
theorem dX3_judge_111 : decode cX3_judge 111 = .ok (.iload_n 2, 1) := by decide +kernel
theorem dX3_judge_112 : decode cX3_judge 112 = .ok (.iaload, 1) := by decide +kernel
theorem dX3_judge_113 : decode cX3_judge 113 = .ok (.ireturn, 1) := by decide +kernel
theorem dX3_judge_114 : decode cX3_judge 114 = .ok (.iinc 2 1, 3) := by decide +kernel
theorem dX3_judge_117 : decode cX3_judge 117 = .ok (.goto (-63), 3) := by decide +kernel
theorem dX3_judge_120 : decode cX3_judge 120 = .ok (.bipush (-6), 2) := by decide +kernel
theorem dX3_judge_122 : decode cX3_judge 122 = .ok (.ireturn, 1) := by decide +kernel
theorem dX3_left_0 : decode cX3_left 0 = .ok (.aload_n 0, 1) := by decide +kernel
theorem dX3_left_1 : decode cX3_left 1 = .ok (.getfield 10, 3) := by decide +kernel
theorem dX3_left_4 : decode cX3_left 4 = .ok (.iload_n 2, 1) := by decide +kernel
theorem dX3_left_5 : decode cX3_left 5 = .ok (.invokevirtual 68, 3) := by decide +kernel
theorem dX3_left_8 : decode cX3_left 8 = .ok (.ifCond .ne 5, 3) := by decide +kernel
theorem dX3_left_11 : decode cX3_left 11 = .ok (.iconst (-1), 1) := by decide +kernel
theorem dX3_left_12 : decode cX3_left 12 = .ok (.ireturn, 1) := by decide +kernel
theorem dX3_left_13 : decode cX3_left 13 = .ok (.iload_n 1, 1) := by decide +kernel
theorem dX3_left_14 : decode cX3_left 14 = .ok (.iconst 0, 1) := by decide +kernel
theorem dX3_left_15 : decode cX3_left 15 = .ok (.bipush 99, 2) := by decide +kernel
theorem dX3_left_17 : decode cX3_left 17 = .ok (.invokestatic 41, 3) := by decide +kernel
theorem dX3_left_20 : decode cX3_left 20 = .ok (.ifCond .ne 6, 3) := by decide +kernel
theorem dX3_left_23 : decode cX3_left 23 = .ok (.bipush (-2), 2) := by decide +kernel
theorem dX3_left_25 : decode cX3_left 25 = .ok (.ireturn, 1) := by decide +kernel
theorem dX3_left_26 : decode cX3_left 26 = .ok (.aload_n 0, 1) := by decide +kernel
theorem dX3_left_27 : decode cX3_left 27 = .ok (.getfield 30, 3) := by decide +kernel
theorem dX3_left_30 : decode cX3_left 30 = .ok (.aload_n 0, 1) := by decide +kernel
theorem dX3_left_31 : decode cX3_left 31 = .ok (.getfield 10, 3) := by decide +kernel
theorem dX3_left_34 : decode cX3_left 34 = .ok (.aload_n 0, 1) := by decide +kernel
theorem dX3_left_35 : decode cX3_left 35 = .ok (.getfield 10, 3) := by decide +kernel
theorem dX3_left_38 : decode cX3_left 38 = .ok (.getfield 58, 3) := by decide +kernel
theorem dX3_left_41 : decode cX3_left 41 = .ok (.invokevirtual 94, 3) := by decide +kernel
theorem dX3_left_44 : decode cX3_left 44 = .ok (.iload_n 1, 1) := by decide +kernel
theorem dX3_left_45 : decode cX3_left 45 = .ok (.istore_n 3, 1) := by decide +kernel
theorem dX3_left_46 : decode cX3_left 46 = .ok (.iconst 0, 1) := by decide +kernel
theorem dX3_left_47 : decode cX3_left 47 = .ok (.istore 4, 2) := by decide +kernel
theorem dX3_left_49 : decode cX3_left 49 = .ok (.iload 4, 2) := by decide +kernel
theorem dX3_left_51 : decode cX3_left 51 = .ok (.aload_n 0, 1) := by decide +kernel
theorem dX3_left_52 : decode cX3_left 52 = .ok (.getfield 30, 3) := by decide +kernel
theorem dX3_left_55 : decode cX3_left 55 = .ok (.getfield 98, 3) := by decide +kernel
theorem dX3_left_58 : decode cX3_left 58 = .ok (.if_icmp .ge 55, 3) := by decide +kernel
theorem dX3_left_61 : decode cX3_left 61 = .ok (.iload_n 3, 1) := by decide +kernel
theorem dX3_left_62 : decode cX3_left 62 = .ok (.aload_n 0, 1) := by decide +kernel
theorem dX3_left_63 : decode cX3_left 63 = .ok (.getfield 10, 3) := by decide +kernel
theorem dX3_left_66 : decode cX3_left 66 = .ok (.getfield 52, 3) := by decide +kernel
theorem dX3_left_69 : decode cX3_left 69 = .ok (.aload_n 0, 1) := by decide +kernel
theorem dX3_left_70 : decode cX3_left 70 = .ok (.getfield 30, 3) := by decide +kernel
theorem dX3_left_73 : decode cX3_left 73 = .ok (.getfield 101, 3) := by decide +kernel
theorem dX3_left_76 : decode cX3_left 76 = .ok (.iload 4, 2) := by decide +kernel
theorem dX3_left_78 : decode cX3_left 78 = .ok (.iaload, 1) := by decide +kernel
theorem dX3_left_79 : decode cX3_left 79 = .ok (.iaload, 1) := by decide +kernel
theorem dX3_left_80 : decode cX3_left 80 = .ok (.invokestatic 126, 3) := by decide +kernel
theorem dX3_left_83 : decode cX3_left 83 = .ok (.istore 5, 2) := by decide +kernel
theorem dX3_left_85 : decode cX3_left 85 = .ok (.aload_n 0, 1) := by decide +kernel
theorem dX3_left_86 : decode cX3_left 86 = .ok (.getfield 30, 3) := by decide +kernel
theorem dX3_left_89 : decode cX3_left 89 = .ok (.getfield 101, 3) := by decide +kernel
theorem dX3_left_92 : decode cX3_left 92 = .ok (.iload 4, 2) := by decide +kernel
theorem dX3_left_94 : decode cX3_left 94 = .ok (.iaload, 1) := by decide +kernel
theorem dX3_left_95 : decode cX3_left 95 = .ok (.iload_n 2, 1) := by decide +kernel
theorem dX3_left_96 : decode cX3_left 96 = .ok (.if_icmp .ne 6, 3) := by decide +kernel
theorem dX3_left_99 : decode cX3_left 99 = .ok (.iload 5, 2) := by decide +kernel
theorem dX3_left_101 : decode cX3_left 101 = .ok (.ireturn, 1) := by decide +kernel
theorem dX3_left_102 : decode cX3_left 102 = .ok (.iload_n 3, 1) := by decide +kernel
theorem dX3_left_103 : decode cX3_left 103 = .ok (.iload 5, 2) := by decide +kernel
theorem dX3_left_105 : decode cX3_left 105 = .ok (.isub, 1) := by decide +kernel
theorem dX3_left_106 : decode cX3_left 106 = .ok (.istore_n 3, 1) := by decide +kernel
theorem dX3_left_107 : decode cX3_left 107 = .ok (.iinc 4 1, 3) := by decide +kernel
theorem dX3_left_110 : decode cX3_left 110 = .ok (.goto (-61), 3) := by decide +kernel
theorem dX3_left_113 : decode cX3_left 113 = .ok (.iconst 0, 1) := by decide +kernel
theorem dX3_left_114 : decode cX3_left 114 = .ok (.ireturn, 1) := by decide +kernel
theorem dX3_best_0 : decode cX3_best 0 = .ok (.aload_n 0, 1) := by decide +kernel
theorem dX3_best_1 : decode cX3_best 1 = .ok (.getfield 10, 3) := by decide +kernel
theorem dX3_best_4 : decode cX3_best 4 = .ok (.iload_n 1, 1) := by decide +kernel
theorem dX3_best_5 : decode cX3_best 5 = .ok (.invokevirtual 68, 3) := by decide +kernel
theorem dX3_best_8 : decode cX3_best 8 = .ok (.ifCond .ne 5, 3) := by decide +kernel
theorem dX3_best_11 : decode cX3_best 11 = .ok (.iconst (-1), 1) := by decide +kernel
theorem dX3_best_12 : decode cX3_best 12 = .ok (.ireturn, 1) := by decide +kernel
theorem dX3_best_13 : decode cX3_best 13 = .ok (.iload_n 2, 1) := by decide +kernel
theorem dX3_best_14 : decode cX3_best 14 = .ok (.iconst 0, 1) := by decide +kernel
theorem dX3_best_15 : decode cX3_best 15 = .ok (.sipush 999, 3) := by decide +kernel
theorem dX3_best_18 : decode cX3_best 18 = .ok (.invokestatic 41, 3) := by decide +kernel
theorem dX3_best_21 : decode cX3_best 21 = .ok (.ifCond .eq 24, 3) := by decide +kernel
theorem dX3_best_24 : decode cX3_best 24 = .ok (.iload_n 3, 1) := by decide +kernel
theorem dX3_best_25 : decode cX3_best 25 = .ok (.iload_n 2, 1) := by decide +kernel
theorem dX3_best_26 : decode cX3_best 26 = .ok (.sipush 999, 3) := by decide +kernel
theorem dX3_best_29 : decode cX3_best 29 = .ok (.invokestatic 41, 3) := by decide +kernel
theorem dX3_best_32 : decode cX3_best 32 = .ok (.ifCond .eq 13, 3) := by decide +kernel
theorem dX3_best_35 : decode cX3_best 35 = .ok (.iload 4, 2) := by decide +kernel
theorem dX3_best_37 : decode cX3_best 37 = .ok (.iconst 0, 1) := by decide +kernel
theorem dX3_best_38 : decode cX3_best 38 = .ok (.iconst 1, 1) := by decide +kernel
theorem dX3_best_39 : decode cX3_best 39 = .ok (.invokestatic 41, 3) := by decide +kernel
theorem dX3_best_42 : decode cX3_best 42 = .ok (.ifCond .ne 6, 3) := by decide +kernel
theorem dX3_best_45 : decode cX3_best 45 = .ok (.bipush (-2), 2) := by decide +kernel
theorem dX3_best_47 : decode cX3_best 47 = .ok (.ireturn, 1) := by decide +kernel
theorem dX3_best_48 : decode cX3_best 48 = .ok (.aload_n 0, 1) := by decide +kernel
theorem dX3_best_49 : decode cX3_best 49 = .ok (.iload_n 1, 1) := by decide +kernel
theorem dX3_best_50 : decode cX3_best 50 = .ok (.invokevirtual 132, 3) := by decide +kernel
theorem dX3_best_53 : decode cX3_best 53 = .ok (.iload_n 2, 1) := by decide +kernel
theorem dX3_best_54 : decode cX3_best 54 = .ok (.istore 5, 2) := by decide +kernel
theorem dX3_best_56 : decode cX3_best 56 = .ok (.aload_n 0, 1) := by decide +kernel
theorem dX3_best_57 : decode cX3_best 57 = .ok (.iload_n 1, 1) := by decide +kernel
theorem dX3_best_58 : decode cX3_best 58 = .ok (.aload_n 0, 1) := by decide +kernel
theorem dX3_best_59 : decode cX3_best 59 = .ok (.getfield 10, 3) := by decide +kernel
theorem dX3_best_62 : decode cX3_best 62 = .ok (.getfield 45, 3) := by decide +kernel
theorem dX3_best_65 : decode cX3_best 65 = .ok (.iload_n 1, 1) := by decide +kernel
theorem dX3_best_66 : decode cX3_best 66 = .ok (.iaload, 1) := by decide +kernel
theorem dX3_best_67 : decode cX3_best 67 = .ok (.iload_n 2, 1) := by decide +kernel
theorem dX3_best_68 : decode cX3_best 68 = .ok (.invokevirtual 136, 3) := by decide +kernel
theorem dX3_best_71 : decode cX3_best 71 = .ok (.istore 6, 2) := by decide +kernel
theorem dX3_best_73 : decode cX3_best 73 = .ok (.iload_n 2, 1) := by decide +kernel
theorem dX3_best_74 : decode cX3_best 74 = .ok (.iconst 1, 1) := by decide +kernel
theorem dX3_best_75 : decode cX3_best 75 = .ok (.iadd, 1) := by decide +kernel
theorem dX3_best_76 : decode cX3_best 76 = .ok (.istore 7, 2) := by decide +kernel
theorem dX3_best_78 : decode cX3_best 78 = .ok (.iload 7, 2) := by decide +kernel
theorem dX3_best_80 : decode cX3_best 80 = .ok (.iload_n 3, 1) := by decide +kernel
theorem dX3_best_81 : decode cX3_best 81 = .ok (.if_icmp .gt 47, 3) := by decide +kernel
theorem dX3_best_84 : decode cX3_best 84 = .ok (.iload 6, 2) := by decide +kernel
theorem dX3_best_86 : decode cX3_best 86 = .ok (.ifCond .le 42, 3) := by decide +kernel
theorem dX3_best_89 : decode cX3_best 89 = .ok (.aload_n 0, 1) := by decide +kernel
theorem dX3_best_90 : decode cX3_best 90 = .ok (.iload_n 1, 1) := by decide +kernel
theorem dX3_best_91 : decode cX3_best 91 = .ok (.aload_n 0, 1) := by decide +kernel
theorem dX3_best_92 : decode cX3_best 92 = .ok (.getfield 10, 3) := by decide +kernel
theorem dX3_best_95 : decode cX3_best 95 = .ok (.getfield 45, 3) := by decide +kernel
theorem dX3_best_98 : decode cX3_best 98 = .ok (.iload_n 1, 1) := by decide +kernel
theorem dX3_best_99 : decode cX3_best 99 = .ok (.iaload, 1) := by decide +kernel
theorem dX3_best_100 : decode cX3_best 100 = .ok (.iload 7, 2) := by decide +kernel
theorem dX3_best_102 : decode cX3_best 102 = .ok (.invokevirtual 136, 3) := by decide +kernel
theorem dX3_best_105 : decode cX3_best 105 = .ok (.istore 8, 2) := by decide +kernel
theorem dX3_best_107 : decode cX3_best 107 = .ok (.iload 8, 2) := by decide +kernel
theorem dX3_best_109 : decode cX3_best 109 = .ok (.iload 6, 2) := by decide +kernel
theorem dX3_best_111 : decode cX3_best 111 = .ok (.if_icmp .ge 11, 3) := by decide +kernel
theorem dX3_best_114 : decode cX3_best 114 = .ok (.iload 8, 2) := by decide +kernel
theorem dX3_best_116 : decode cX3_best 116 = .ok (.istore 6, 2) := by decide +kernel
theorem dX3_best_118 : decode cX3_best 118 = .ok (.iload 7, 2) := by decide +kernel
theorem dX3_best_120 : decode cX3_best 120 = .ok (.istore 5, 2) := by decide +kernel
theorem dX3_best_122 : decode cX3_best 122 = .ok (.iinc 7 1, 3) := by decide +kernel
theorem dX3_best_125 : decode cX3_best 125 = .ok (.goto (-47), 3) := by decide +kernel
theorem dX3_best_128 : decode cX3_best 128 = .ok (.iload 4, 2) := by decide +kernel
theorem dX3_best_130 : decode cX3_best 130 = .ok (.ifCond .ne 8, 3) := by decide +kernel
theorem dX3_best_133 : decode cX3_best 133 = .ok (.iload 5, 2) := by decide +kernel
theorem dX3_best_135 : decode cX3_best 135 = .ok (.goto 5, 3) := by decide +kernel
theorem dX3_best_138 : decode cX3_best 138 = .ok (.iload 6, 2) := by decide +kernel
theorem dX3_best_140 : decode cX3_best 140 = .ok (.ireturn, 1) := by decide +kernel
theorem dX3_walk_0 : decode cX3_walk 0 = .ok (.aload_n 0, 1) := by decide +kernel
theorem dX3_walk_1 : decode cX3_walk 1 = .ok (.getfield 10, 3) := by decide +kernel
theorem dX3_walk_4 : decode cX3_walk 4 = .ok (.iload_n 1, 1) := by decide +kernel
theorem dX3_walk_5 : decode cX3_walk 5 = .ok (.invokevirtual 68, 3) := by decide +kernel
theorem dX3_walk_8 : decode cX3_walk 8 = .ok (.ifCond .ne 5, 3) := by decide +kernel
theorem dX3_walk_11 : decode cX3_walk 11 = .ok (.iconst (-1), 1) := by decide +kernel
theorem dX3_walk_12 : decode cX3_walk 12 = .ok (.ireturn, 1) := by decide +kernel
theorem dX3_walk_13 : decode cX3_walk 13 = .ok (.iload_n 2, 1) := by decide +kernel
theorem dX3_walk_14 : decode cX3_walk 14 = .ok (.iconst 1, 1) := by decide +kernel
theorem dX3_walk_15 : decode cX3_walk 15 = .ok (.bipush 60, 2) := by decide +kernel
theorem dX3_walk_17 : decode cX3_walk 17 = .ok (.invokestatic 41, 3) := by decide +kernel
theorem dX3_walk_20 : decode cX3_walk 20 = .ok (.ifCond .eq 12, 3) := by decide +kernel
theorem dX3_walk_23 : decode cX3_walk 23 = .ok (.iload_n 3, 1) := by decide +kernel
theorem dX3_walk_24 : decode cX3_walk 24 = .ok (.iconst 0, 1) := by decide +kernel
theorem dX3_walk_25 : decode cX3_walk 25 = .ok (.iconst 1, 1) := by decide +kernel
theorem dX3_walk_26 : decode cX3_walk 26 = .ok (.invokestatic 41, 3) := by decide +kernel
theorem dX3_walk_29 : decode cX3_walk 29 = .ok (.ifCond .ne 6, 3) := by decide +kernel
theorem dX3_walk_32 : decode cX3_walk 32 = .ok (.bipush (-2), 2) := by decide +kernel
theorem dX3_walk_34 : decode cX3_walk 34 = .ok (.ireturn, 1) := by decide +kernel
theorem dX3_walk_35 : decode cX3_walk 35 = .ok (.aload_n 0, 1) := by decide +kernel
theorem dX3_walk_36 : decode cX3_walk 36 = .ok (.iload_n 1, 1) := by decide +kernel
theorem dX3_walk_37 : decode cX3_walk 37 = .ok (.invokevirtual 132, 3) := by decide +kernel
theorem dX3_walk_40 : decode cX3_walk 40 = .ok (.iconst 0, 1) := by decide +kernel
theorem dX3_walk_41 : decode cX3_walk 41 = .ok (.istore 4, 2) := by decide +kernel
theorem dX3_walk_43 : decode cX3_walk 43 = .ok (.aload_n 0, 1) := by decide +kernel
theorem dX3_walk_44 : decode cX3_walk 44 = .ok (.iload_n 1, 1) := by decide +kernel
theorem dX3_walk_45 : decode cX3_walk 45 = .ok (.iconst 0, 1) := by decide +kernel
theorem dX3_walk_46 : decode cX3_walk 46 = .ok (.iload_n 2, 1) := by decide +kernel
theorem dX3_walk_47 : decode cX3_walk 47 = .ok (.invokevirtual 140, 3) := by decide +kernel
theorem dX3_walk_50 : decode cX3_walk 50 = .ok (.istore 5, 2) := by decide +kernel
theorem dX3_walk_52 : decode cX3_walk 52 = .ok (.iconst 1, 1) := by decide +kernel
theorem dX3_walk_53 : decode cX3_walk 53 = .ok (.istore 6, 2) := by decide +kernel
theorem dX3_walk_55 : decode cX3_walk 55 = .ok (.iload 6, 2) := by decide +kernel
theorem dX3_walk_57 : decode cX3_walk 57 = .ok (.bipush 9, 2) := by decide +kernel
theorem dX3_walk_59 : decode cX3_walk 59 = .ok (.if_icmp .gt 34, 3) := by decide +kernel
theorem dX3_walk_62 : decode cX3_walk 62 = .ok (.aload_n 0, 1) := by decide +kernel
theorem dX3_walk_63 : decode cX3_walk 63 = .ok (.iload_n 1, 1) := by decide +kernel
theorem dX3_walk_64 : decode cX3_walk 64 = .ok (.iload 6, 2) := by decide +kernel
theorem dX3_walk_66 : decode cX3_walk 66 = .ok (.iload_n 2, 1) := by decide +kernel
theorem dX3_walk_67 : decode cX3_walk 67 = .ok (.invokevirtual 140, 3) := by decide +kernel
theorem dX3_walk_70 : decode cX3_walk 70 = .ok (.istore 7, 2) := by decide +kernel
theorem dX3_walk_72 : decode cX3_walk 72 = .ok (.iload 7, 2) := by decide +kernel
theorem dX3_walk_74 : decode cX3_walk 74 = .ok (.iload 5, 2) := by decide +kernel
theorem dX3_walk_76 : decode cX3_walk 76 = .ok (.if_icmp .ge 11, 3) := by decide +kernel
theorem dX3_walk_79 : decode cX3_walk 79 = .ok (.iload 7, 2) := by decide +kernel
theorem dX3_walk_81 : decode cX3_walk 81 = .ok (.istore 5, 2) := by decide +kernel
theorem dX3_walk_83 : decode cX3_walk 83 = .ok (.iload 6, 2) := by decide +kernel
theorem dX3_walk_85 : decode cX3_walk 85 = .ok (.istore 4, 2) := by decide +kernel
theorem dX3_walk_87 : decode cX3_walk 87 = .ok (.iinc 6 1, 3) := by decide +kernel
theorem dX3_walk_90 : decode cX3_walk 90 = .ok (.goto (-35), 3) := by decide +kernel
theorem dX3_walk_93 : decode cX3_walk 93 = .ok (.iload_n 3, 1) := by decide +kernel
theorem dX3_walk_94 : decode cX3_walk 94 = .ok (.ifCond .ne 8, 3) := by decide +kernel
theorem dX3_walk_97 : decode cX3_walk 97 = .ok (.iload 4, 2) := by decide +kernel
theorem dX3_walk_99 : decode cX3_walk 99 = .ok (.goto 5, 3) := by decide +kernel
theorem dX3_walk_102 : decode cX3_walk 102 = .ok (.iload 5, 2) := by decide +kernel
theorem dX3_walk_104 : decode cX3_walk 104 = .ok (.ireturn, 1) := by decide +kernel
theorem dX3_claim_0 : decode cX3_claim 0 = .ok (.aload_n 0, 1) := by decide +kernel
theorem dX3_claim_1 : decode cX3_claim 1 = .ok (.getfield 10, 3) := by decide +kernel
theorem dX3_claim_4 : decode cX3_claim 4 = .ok (.iload_n 1, 1) := by decide +kernel
theorem dX3_claim_5 : decode cX3_claim 5 = .ok (.invokevirtual 68, 3) := by decide +kernel
theorem dX3_claim_8 : decode cX3_claim 8 = .ok (.ifCond .ne 5, 3) := by decide +kernel
theorem dX3_claim_11 : decode cX3_claim 11 = .ok (.iconst (-1), 1) := by decide +kernel
theorem dX3_claim_12 : decode cX3_claim 12 = .ok (.ireturn, 1) := by decide +kernel
theorem dX3_claim_13 : decode cX3_claim 13 = .ok (.iload_n 2, 1) := by decide +kernel
theorem dX3_claim_14 : decode cX3_claim 14 = .ok (.iconst 0, 1) := by decide +kernel
theorem dX3_claim_15 : decode cX3_claim 15 = .ok (.sipush 9999, 3) := by decide +kernel
theorem dX3_claim_18 : decode cX3_claim 18 = .ok (.invokestatic 41, 3) := by decide +kernel
theorem dX3_claim_21 : decode cX3_claim 21 = .ok (.ifCond .ne 6, 3) := by decide +kernel
theorem dX3_claim_24 : decode cX3_claim 24 = .ok (.bipush (-2), 2) := by decide +kernel
theorem dX3_claim_26 : decode cX3_claim 26 = .ok (.ireturn, 1) := by decide +kernel
theorem dX3_claim_27 : decode cX3_claim 27 = .ok (.aload_n 0, 1) := by decide +kernel
theorem dX3_claim_28 : decode cX3_claim 28 = .ok (.iload_n 1, 1) := by decide +kernel
theorem dX3_claim_29 : decode cX3_claim 29 = .ok (.invokevirtual 132, 3) := by decide +kernel
theorem dX3_claim_32 : decode cX3_claim 32 = .ok (.iconst 0, 1) := by decide +kernel
theorem dX3_claim_33 : decode cX3_claim 33 = .ok (.istore_n 3, 1) := by decide +kernel
theorem dX3_claim_34 : decode cX3_claim 34 = .ok (.iload_n 3, 1) := by decide +kernel
theorem dX3_claim_35 : decode cX3_claim 35 = .ok (.bipush 99, 2) := by decide +kernel
theorem dX3_claim_37 : decode cX3_claim 37 = .ok (.if_icmp .gt 30, 3) := by decide +kernel
theorem dX3_claim_40 : decode cX3_claim 40 = .ok (.aload_n 0, 1) := by decide +kernel
theorem dX3_claim_41 : decode cX3_claim 41 = .ok (.iload_n 1, 1) := by decide +kernel
theorem dX3_claim_42 : decode cX3_claim 42 = .ok (.iload_n 3, 1) := by decide +kernel
theorem dX3_claim_43 : decode cX3_claim 43 = .ok (.aload_n 0, 1) := by decide +kernel
theorem dX3_claim_44 : decode cX3_claim 44 = .ok (.getfield 10, 3) := by decide +kernel
theorem dX3_claim_47 : decode cX3_claim 47 = .ok (.getfield 49, 3) := by decide +kernel
theorem dX3_claim_50 : decode cX3_claim 50 = .ok (.iload_n 1, 1) := by decide +kernel
theorem dX3_claim_51 : decode cX3_claim 51 = .ok (.iaload, 1) := by decide +kernel
theorem dX3_claim_52 : decode cX3_claim 52 = .ok (.invokevirtual 136, 3) := by decide +kernel
theorem dX3_claim_55 : decode cX3_claim 55 = .ok (.iload_n 2, 1) := by decide +kernel
theorem dX3_claim_56 : decode cX3_claim 56 = .ok (.if_icmp .gt 5, 3) := by decide +kernel
theorem dX3_claim_59 : decode cX3_claim 59 = .ok (.iload_n 3, 1) := by decide +kernel
theorem dX3_claim_60 : decode cX3_claim 60 = .ok (.ireturn, 1) := by decide +kernel
theorem dX3_claim_61 : decode cX3_claim 61 = .ok (.iinc 3 1, 3) := by decide +kernel
theorem dX3_claim_64 : decode cX3_claim 64 = .ok (.goto (-30), 3) := by decide +kernel
theorem dX3_claim_67 : decode cX3_claim 67 = .ok (.bipush (-6), 2) := by decide +kernel
theorem dX3_claim_69 : decode cX3_claim 69 = .ok (.ireturn, 1) := by decide +kernel
theorem dX3_lied_0 : decode cX3_lied 0 = .ok (.aload_n 0, 1) := by decide +kernel
theorem dX3_lied_1 : decode cX3_lied 1 = .ok (.invokevirtual 143, 3) := by decide +kernel
theorem dX3_lied_4 : decode cX3_lied 4 = .ok (.ifCond .ne 6, 3) := by decide +kernel
theorem dX3_lied_7 : decode cX3_lied 7 = .ok (.bipush (-5), 2) := by decide +kernel
theorem dX3_lied_9 : decode cX3_lied 9 = .ok (.ireturn, 1) := by decide +kernel
theorem dX3_lied_10 : decode cX3_lied 10 = .ok (.iconst 0, 1) := by decide +kernel
theorem dX3_lied_11 : decode cX3_lied 11 = .ok (.istore_n 1, 1) := by decide +kernel
theorem dX3_lied_12 : decode cX3_lied 12 = .ok (.iconst 0, 1) := by decide +kernel
theorem dX3_lied_13 : decode cX3_lied 13 = .ok (.istore_n 2, 1) := by decide +kernel
theorem dX3_lied_14 : decode cX3_lied 14 = .ok (.iload_n 2, 1) := by decide +kernel
theorem dX3_lied_15 : decode cX3_lied 15 = .ok (.bipush 8, 2) := by decide +kernel
theorem dX3_lied_17 : decode cX3_lied 17 = .ok (.if_icmp .ge 37, 3) := by decide +kernel
theorem dX3_lied_20 : decode cX3_lied 20 = .ok (.aload_n 0, 1) := by decide +kernel
theorem dX3_lied_21 : decode cX3_lied 21 = .ok (.getfield 10, 3) := by decide +kernel
theorem dX3_lied_24 : decode cX3_lied 24 = .ok (.iload_n 2, 1) := by decide +kernel
theorem dX3_lied_25 : decode cX3_lied 25 = .ok (.invokevirtual 68, 3) := by decide +kernel
theorem dX3_lied_28 : decode cX3_lied 28 = .ok (.ifCond .eq 20, 3) := by decide +kernel
theorem dX3_lied_31 : decode cX3_lied 31 = .ok (.aload_n 0, 1) := by decide +kernel
theorem dX3_lied_32 : decode cX3_lied 32 = .ok (.iload_n 2, 1) := by decide +kernel
theorem dX3_lied_33 : decode cX3_lied 33 = .ok (.iconst 1, 1) := by decide +kernel
theorem dX3_lied_34 : decode cX3_lied 34 = .ok (.invokevirtual 147, 3) := by decide +kernel
theorem dX3_lied_37 : decode cX3_lied 37 = .ok (.bipush (-6), 2) := by decide +kernel
theorem dX3_lied_39 : decode cX3_lied 39 = .ok (.if_icmp .eq 9, 3) := by decide +kernel
theorem dX3_lied_42 : decode cX3_lied 42 = .ok (.iload_n 1, 1) := by decide +kernel
theorem dX3_lied_43 : decode cX3_lied 43 = .ok (.iconst 1, 1) := by decide +kernel
theorem dX3_lied_44 : decode cX3_lied 44 = .ok (.iload_n 2, 1) := by decide +kernel
theorem dX3_lied_45 : decode cX3_lied 45 = .ok (.ishl, 1) := by decide +kernel
theorem dX3_lied_46 : decode cX3_lied 46 = .ok (.ior, 1) := by decide +kernel
theorem dX3_lied_47 : decode cX3_lied 47 = .ok (.istore_n 1, 1) := by decide +kernel
theorem dX3_lied_48 : decode cX3_lied 48 = .ok (.iinc 2 1, 3) := by decide +kernel
theorem dX3_lied_51 : decode cX3_lied 51 = .ok (.goto (-37), 3) := by decide +kernel
theorem dX3_lied_54 : decode cX3_lied 54 = .ok (.iload_n 1, 1) := by decide +kernel
theorem dX3_lied_55 : decode cX3_lied 55 = .ok (.ireturn, 1) := by decide +kernel
theorem dX3_could_0 : decode cX3_could 0 = .ok (.aload_n 0, 1) := by decide +kernel
theorem dX3_could_1 : decode cX3_could 1 = .ok (.getfield 10, 3) := by decide +kernel
theorem dX3_could_4 : decode cX3_could 4 = .ok (.iload_n 1, 1) := by decide +kernel
theorem dX3_could_5 : decode cX3_could 5 = .ok (.invokevirtual 68, 3) := by decide +kernel
theorem dX3_could_8 : decode cX3_could 8 = .ok (.ifCond .ne 5, 3) := by decide +kernel
theorem dX3_could_11 : decode cX3_could 11 = .ok (.iconst (-1), 1) := by decide +kernel
theorem dX3_could_12 : decode cX3_could 12 = .ok (.ireturn, 1) := by decide +kernel
theorem dX3_could_13 : decode cX3_could 13 = .ok (.iload_n 2, 1) := by decide +kernel
theorem dX3_could_14 : decode cX3_could 14 = .ok (.iconst 0, 1) := by decide +kernel
theorem dX3_could_15 : decode cX3_could 15 = .ok (.iconst 1, 1) := by decide +kernel
theorem dX3_could_16 : decode cX3_could 16 = .ok (.invokestatic 41, 3) := by decide +kernel
theorem dX3_could_19 : decode cX3_could 19 = .ok (.ifCond .ne 6, 3) := by decide +kernel
theorem dX3_could_22 : decode cX3_could 22 = .ok (.bipush (-2), 2) := by decide +kernel
theorem dX3_could_24 : decode cX3_could 24 = .ok (.ireturn, 1) := by decide +kernel
theorem dX3_could_25 : decode cX3_could 25 = .ok (.aload_n 0, 1) := by decide +kernel
theorem dX3_could_26 : decode cX3_could 26 = .ok (.invokevirtual 143, 3) := by decide +kernel
theorem dX3_could_29 : decode cX3_could 29 = .ok (.ifCond .eq 20, 3) := by decide +kernel
theorem dX3_could_32 : decode cX3_could 32 = .ok (.aload_n 0, 1) := by decide +kernel
theorem dX3_could_33 : decode cX3_could 33 = .ok (.iload_n 1, 1) := by decide +kernel
theorem dX3_could_34 : decode cX3_could 34 = .ok (.iload_n 2, 1) := by decide +kernel
theorem dX3_could_35 : decode cX3_could 35 = .ok (.ifCond .ne 7, 3) := by decide +kernel
theorem dX3_could_38 : decode cX3_could 38 = .ok (.iconst 1, 1) := by decide +kernel
theorem dX3_could_39 : decode cX3_could 39 = .ok (.goto 4, 3) := by decide +kernel
theorem dX3_could_42 : decode cX3_could 42 = .ok (.iconst 0, 1) := by decide +kernel
theorem dX3_could_43 : decode cX3_could 43 = .ok (.invokevirtual 147, 3) := by decide +kernel
theorem dX3_could_46 : decode cX3_could 46 = .ok (.goto 5, 3) := by decide +kernel
theorem dX3_could_49 : decode cX3_could 49 = .ok (.bipush (-5), 2) := by decide +kernel
theorem dX3_could_51 : decode cX3_could 51 = .ok (.ireturn, 1) := by decide +kernel
theorem dX3_law_0 : decode cX3_law 0 = .ok (.iload_n 1, 1) := by decide +kernel
theorem dX3_law_1 : decode cX3_law 1 = .ok (.iconst 0, 1) := by decide +kernel
theorem dX3_law_2 : decode cX3_law 2 = .ok (.iconst 2, 1) := by decide +kernel
theorem dX3_law_3 : decode cX3_law 3 = .ok (.invokestatic 41, 3) := by decide +kernel
theorem dX3_law_6 : decode cX3_law 6 = .ok (.ifCond .ne 6, 3) := by decide +kernel
theorem dX3_law_9 : decode cX3_law 9 = .ok (.bipush (-2), 2) := by decide +kernel
theorem dX3_law_11 : decode cX3_law 11 = .ok (.ireturn, 1) := by decide +kernel
theorem dX3_law_12 : decode cX3_law 12 = .ok (.aload_n 0, 1) := by decide +kernel
theorem dX3_law_13 : decode cX3_law 13 = .ok (.getfield 16, 3) := by decide +kernel
theorem dX3_law_16 : decode cX3_law 16 = .ok (.aload_n 0, 1) := by decide +kernel
theorem dX3_law_17 : decode cX3_law 17 = .ok (.getfield 10, 3) := by decide +kernel
theorem dX3_law_20 : decode cX3_law 20 = .ok (.invokevirtual 151, 3) := by decide +kernel
theorem dX3_law_23 : decode cX3_law 23 = .ok (.iconst 1, 1) := by decide +kernel
theorem dX3_law_24 : decode cX3_law 24 = .ok (.istore_n 2, 1) := by decide +kernel
theorem dX3_law_25 : decode cX3_law 25 = .ok (.aload_n 0, 1) := by decide +kernel
theorem dX3_law_26 : decode cX3_law 26 = .ok (.iload_n 2, 1) := by decide +kernel
theorem dX3_law_27 : decode cX3_law 27 = .ok (.invokevirtual 155, 3) := by decide +kernel
theorem dX3_law_30 : decode cX3_law 30 = .ok (.aload_n 0, 1) := by decide +kernel
theorem dX3_law_31 : decode cX3_law 31 = .ok (.getfield 30, 3) := by decide +kernel
theorem dX3_law_34 : decode cX3_law 34 = .ok (.getfield 110, 3) := by decide +kernel
theorem dX3_law_37 : decode cX3_law 37 = .ok (.istore_n 3, 1) := by decide +kernel
theorem dX3_law_38 : decode cX3_law 38 = .ok (.aload_n 0, 1) := by decide +kernel
theorem dX3_law_39 : decode cX3_law 39 = .ok (.getfield 30, 3) := by decide +kernel
theorem dX3_law_42 : decode cX3_law 42 = .ok (.getfield 117, 3) := by decide +kernel
theorem dX3_law_45 : decode cX3_law 45 = .ok (.istore 4, 2) := by decide +kernel
theorem dX3_law_47 : decode cX3_law 47 = .ok (.iconst 2, 1) := by decide +kernel
theorem dX3_law_48 : decode cX3_law 48 = .ok (.istore 5, 2) := by decide +kernel
theorem dX3_law_50 : decode cX3_law 50 = .ok (.iload 5, 2) := by decide +kernel
theorem dX3_law_52 : decode cX3_law 52 = .ok (.bipush 16, 2) := by decide +kernel
theorem dX3_law_54 : decode cX3_law 54 = .ok (.if_icmp .ge 69, 3) := by decide +kernel
theorem dX3_law_57 : decode cX3_law 57 = .ok (.aload_n 0, 1) := by decide +kernel
theorem dX3_law_58 : decode cX3_law 58 = .ok (.iload 5, 2) := by decide +kernel
theorem dX3_law_60 : decode cX3_law 60 = .ok (.invokevirtual 155, 3) := by decide +kernel
theorem dX3_law_63 : decode cX3_law 63 = .ok (.aload_n 0, 1) := by decide +kernel
theorem dX3_law_64 : decode cX3_law 64 = .ok (.getfield 30, 3) := by decide +kernel
theorem dX3_law_67 : decode cX3_law 67 = .ok (.getfield 110, 3) := by decide +kernel
theorem dX3_law_70 : decode cX3_law 70 = .ok (.iload_n 3, 1) := by decide +kernel
theorem dX3_law_71 : decode cX3_law 71 = .ok (.if_icmp .lt 26, 3) := by decide +kernel
theorem dX3_law_74 : decode cX3_law 74 = .ok (.aload_n 0, 1) := by decide +kernel
theorem dX3_law_75 : decode cX3_law 75 = .ok (.getfield 30, 3) := by decide +kernel
theorem dX3_law_78 : decode cX3_law 78 = .ok (.getfield 110, 3) := by decide +kernel
theorem dX3_law_81 : decode cX3_law 81 = .ok (.iload_n 3, 1) := by decide +kernel
theorem dX3_law_82 : decode cX3_law 82 = .ok (.if_icmp .ne 35, 3) := by decide +kernel
theorem dX3_law_85 : decode cX3_law 85 = .ok (.aload_n 0, 1) := by decide +kernel
theorem dX3_law_86 : decode cX3_law 86 = .ok (.getfield 30, 3) := by decide +kernel
theorem dX3_law_89 : decode cX3_law 89 = .ok (.getfield 117, 3) := by decide +kernel
theorem dX3_law_92 : decode cX3_law 92 = .ok (.iload 4, 2) := by decide +kernel
theorem dX3_law_94 : decode cX3_law 94 = .ok (.if_icmp .ge 23, 3) := by decide +kernel
theorem dX3_law_97 : decode cX3_law 97 = .ok (.iload 5, 2) := by decide +kernel
theorem dX3_law_99 : decode cX3_law 99 = .ok (.istore_n 2, 1) := by decide +kernel
theorem dX3_law_100 : decode cX3_law 100 = .ok (.aload_n 0, 1) := by decide +kernel
theorem dX3_law_101 : decode cX3_law 101 = .ok (.getfield 30, 3) := by decide +kernel
theorem dX3_law_104 : decode cX3_law 104 = .ok (.getfield 110, 3) := by decide +kernel
theorem dX3_law_107 : decode cX3_law 107 = .ok (.istore_n 3, 1) := by decide +kernel
theorem dX3_law_108 : decode cX3_law 108 = .ok (.aload_n 0, 1) := by decide +kernel
theorem dX3_law_109 : decode cX3_law 109 = .ok (.getfield 30, 3) := by decide +kernel
theorem dX3_law_112 : decode cX3_law 112 = .ok (.getfield 117, 3) := by decide +kernel
theorem dX3_law_115 : decode cX3_law 115 = .ok (.istore 4, 2) := by decide +kernel
theorem dX3_law_117 : decode cX3_law 117 = .ok (.iinc 5 1, 3) := by decide +kernel
theorem dX3_law_120 : decode cX3_law 120 = .ok (.goto (-70), 3) := by decide +kernel
theorem dX3_law_123 : decode cX3_law 123 = .ok (.iload_n 1, 1) := by decide +kernel
theorem dX3_law_124 : decode cX3_law 124 = .ok (.lookupswitch 36 #[(0, 28), (1, 32)], 28) := by decide +kernel
theorem dX3_law_152 : decode cX3_law 152 = .ok (.iload_n 2, 1) := by decide +kernel
theorem dX3_law_153 : decode cX3_law 153 = .ok (.iconst 4, 1) := by decide +kernel
theorem dX3_law_154 : decode cX3_law 154 = .ok (.idiv, 1) := by decide +kernel
theorem dX3_law_155 : decode cX3_law 155 = .ok (.ireturn, 1) := by decide +kernel
theorem dX3_law_156 : decode cX3_law 156 = .ok (.iload_n 2, 1) := by decide +kernel
theorem dX3_law_157 : decode cX3_law 157 = .ok (.iconst 4, 1) := by decide +kernel
theorem dX3_law_158 : decode cX3_law 158 = .ok (.irem, 1) := by decide +kernel
theorem dX3_law_159 : decode cX3_law 159 = .ok (.ireturn, 1) := by decide +kernel
theorem dX3_law_160 : decode cX3_law 160 = .ok (.iload_n 3, 1) := by decide +kernel
theorem dX3_law_161 : decode cX3_law 161 = .ok (.ireturn, 1) := by decide +kernel
theorem dX3_home_0 : decode cX3_home 0 = .ok (.aload_n 0, 1) := by decide +kernel
theorem dX3_home_1 : decode cX3_home 1 = .ok (.getfield 10, 3) := by decide +kernel
theorem dX3_home_4 : decode cX3_home 4 = .ok (.iload_n 1, 1) := by decide +kernel
theorem dX3_home_5 : decode cX3_home 5 = .ok (.invokevirtual 68, 3) := by decide +kernel
theorem dX3_home_8 : decode cX3_home 8 = .ok (.ifCond .ne 5, 3) := by decide +kernel
theorem dX3_home_11 : decode cX3_home 11 = .ok (.iconst (-1), 1) := by decide +kernel
theorem dX3_home_12 : decode cX3_home 12 = .ok (.ireturn, 1) := by decide +kernel
theorem dX3_home_13 : decode cX3_home 13 = .ok (.iload_n 2, 1) := by decide +kernel
theorem dX3_home_14 : decode cX3_home 14 = .ok (.iconst 0, 1) := by decide +kernel
theorem dX3_home_15 : decode cX3_home 15 = .ok (.bipush 99, 2) := by decide +kernel
theorem dX3_home_17 : decode cX3_home 17 = .ok (.invokestatic 41, 3) := by decide +kernel
theorem dX3_home_20 : decode cX3_home 20 = .ok (.ifCond .eq 12, 3) := by decide +kernel
theorem dX3_home_23 : decode cX3_home 23 = .ok (.iload_n 3, 1) := by decide +kernel
theorem dX3_home_24 : decode cX3_home 24 = .ok (.iconst 0, 1) := by decide +kernel
theorem dX3_home_25 : decode cX3_home 25 = .ok (.iconst 1, 1) := by decide +kernel
theorem dX3_home_26 : decode cX3_home 26 = .ok (.invokestatic 41, 3) := by decide +kernel
theorem dX3_home_29 : decode cX3_home 29 = .ok (.ifCond .ne 6, 3) := by decide +kernel
theorem dX3_home_32 : decode cX3_home 32 = .ok (.bipush (-2), 2) := by decide +kernel
theorem dX3_home_34 : decode cX3_home 34 = .ok (.ireturn, 1) := by decide +kernel
theorem dX3_home_35 : decode cX3_home 35 = .ok (.aload_n 0, 1) := by decide +kernel
theorem dX3_home_36 : decode cX3_home 36 = .ok (.iload_n 1, 1) := by decide +kernel
theorem dX3_home_37 : decode cX3_home 37 = .ok (.invokevirtual 132, 3) := by decide +kernel
theorem dX3_home_40 : decode cX3_home 40 = .ok (.iconst 0, 1) := by decide +kernel
theorem dX3_home_41 : decode cX3_home 41 = .ok (.istore 4, 2) := by decide +kernel
theorem dX3_home_43 : decode cX3_home 43 = .ok (.aload_n 0, 1) := by decide +kernel
theorem dX3_home_44 : decode cX3_home 44 = .ok (.iload_n 1, 1) := by decide +kernel
theorem dX3_home_45 : decode cX3_home 45 = .ok (.iconst 0, 1) := by decide +kernel
theorem dX3_home_46 : decode cX3_home 46 = .ok (.iload_n 2, 1) := by decide +kernel
theorem dX3_home_47 : decode cX3_home 47 = .ok (.invokevirtual 158, 3) := by decide +kernel
theorem dX3_home_50 : decode cX3_home 50 = .ok (.istore 5, 2) := by decide +kernel
theorem dX3_home_52 : decode cX3_home 52 = .ok (.iconst 1, 1) := by decide +kernel
theorem dX3_home_53 : decode cX3_home 53 = .ok (.istore 6, 2) := by decide +kernel
theorem dX3_home_55 : decode cX3_home 55 = .ok (.iload 6, 2) := by decide +kernel
theorem dX3_home_57 : decode cX3_home 57 = .ok (.bipush 99, 2) := by decide +kernel
theorem dX3_home_59 : decode cX3_home 59 = .ok (.if_icmp .gt 34, 3) := by decide +kernel
theorem dX3_home_62 : decode cX3_home 62 = .ok (.aload_n 0, 1) := by decide +kernel
theorem dX3_home_63 : decode cX3_home 63 = .ok (.iload_n 1, 1) := by decide +kernel
theorem dX3_home_64 : decode cX3_home 64 = .ok (.iload 6, 2) := by decide +kernel
theorem dX3_home_66 : decode cX3_home 66 = .ok (.iload_n 2, 1) := by decide +kernel
theorem dX3_home_67 : decode cX3_home 67 = .ok (.invokevirtual 158, 3) := by decide +kernel
theorem dX3_home_70 : decode cX3_home 70 = .ok (.istore 7, 2) := by decide +kernel
theorem dX3_home_72 : decode cX3_home 72 = .ok (.iload 7, 2) := by decide +kernel
theorem dX3_home_74 : decode cX3_home 74 = .ok (.iload 5, 2) := by decide +kernel
theorem dX3_home_76 : decode cX3_home 76 = .ok (.if_icmp .ge 11, 3) := by decide +kernel
theorem dX3_home_79 : decode cX3_home 79 = .ok (.iload 7, 2) := by decide +kernel
theorem dX3_home_81 : decode cX3_home 81 = .ok (.istore 5, 2) := by decide +kernel
theorem dX3_home_83 : decode cX3_home 83 = .ok (.iload 6, 2) := by decide +kernel
theorem dX3_home_85 : decode cX3_home 85 = .ok (.istore 4, 2) := by decide +kernel
theorem dX3_home_87 : decode cX3_home 87 = .ok (.iinc 6 1, 3) := by decide +kernel
theorem dX3_home_90 : decode cX3_home 90 = .ok (.goto (-35), 3) := by decide +kernel
theorem dX3_home_93 : decode cX3_home 93 = .ok (.iload_n 3, 1) := by decide +kernel
theorem dX3_home_94 : decode cX3_home 94 = .ok (.ifCond .ne 8, 3) := by decide +kernel
theorem dX3_home_97 : decode cX3_home 97 = .ok (.iload 4, 2) := by decide +kernel
theorem dX3_home_99 : decode cX3_home 99 = .ok (.goto 5, 3) := by decide +kernel
theorem dX3_home_102 : decode cX3_home 102 = .ok (.iload 5, 2) := by decide +kernel
theorem dX3_home_104 : decode cX3_home 104 = .ok (.ireturn, 1) := by decide +kernel
theorem dX3_two_0 : decode cX3_two 0 = .ok (.iload_n 1, 1) := by decide +kernel
theorem dX3_two_1 : decode cX3_two 1 = .ok (.iconst 0, 1) := by decide +kernel
theorem dX3_two_2 : decode cX3_two 2 = .ok (.iconst 2, 1) := by decide +kernel
theorem dX3_two_3 : decode cX3_two 3 = .ok (.invokestatic 41, 3) := by decide +kernel
theorem dX3_two_6 : decode cX3_two 6 = .ok (.ifCond .ne 6, 3) := by decide +kernel
theorem dX3_two_9 : decode cX3_two 9 = .ok (.bipush (-2), 2) := by decide +kernel
theorem dX3_two_11 : decode cX3_two 11 = .ok (.ireturn, 1) := by decide +kernel
theorem dX3_two_12 : decode cX3_two 12 = .ok (.aload_n 0, 1) := by decide +kernel
theorem dX3_two_13 : decode cX3_two 13 = .ok (.getfield 30, 3) := by decide +kernel
theorem dX3_two_16 : decode cX3_two 16 = .ok (.aload_n 0, 1) := by decide +kernel
theorem dX3_two_17 : decode cX3_two 17 = .ok (.getfield 10, 3) := by decide +kernel
theorem dX3_two_20 : decode cX3_two 20 = .ok (.aload_n 0, 1) := by decide +kernel
theorem dX3_two_21 : decode cX3_two 21 = .ok (.getfield 10, 3) := by decide +kernel
theorem dX3_two_24 : decode cX3_two 24 = .ok (.getfield 58, 3) := by decide +kernel
theorem dX3_two_27 : decode cX3_two 27 = .ok (.invokevirtual 94, 3) := by decide +kernel
theorem dX3_two_30 : decode cX3_two 30 = .ok (.iconst 0, 1) := by decide +kernel
theorem dX3_two_31 : decode cX3_two 31 = .ok (.istore_n 2, 1) := by decide +kernel
theorem dX3_two_32 : decode cX3_two 32 = .ok (.aload_n 0, 1) := by decide +kernel
theorem dX3_two_33 : decode cX3_two 33 = .ok (.getfield 30, 3) := by decide +kernel
theorem dX3_two_36 : decode cX3_two 36 = .ok (.getfield 110, 3) := by decide +kernel
theorem dX3_two_39 : decode cX3_two 39 = .ok (.istore_n 3, 1) := by decide +kernel
theorem dX3_two_40 : decode cX3_two 40 = .ok (.aload_n 0, 1) := by decide +kernel
theorem dX3_two_41 : decode cX3_two 41 = .ok (.getfield 30, 3) := by decide +kernel
theorem dX3_two_44 : decode cX3_two 44 = .ok (.getfield 117, 3) := by decide +kernel
theorem dX3_two_47 : decode cX3_two 47 = .ok (.istore 4, 2) := by decide +kernel
theorem dX3_two_49 : decode cX3_two 49 = .ok (.iconst 1, 1) := by decide +kernel
theorem dX3_two_50 : decode cX3_two 50 = .ok (.istore 5, 2) := by decide +kernel
theorem dX3_two_52 : decode cX3_two 52 = .ok (.iload 5, 2) := by decide +kernel
theorem dX3_two_54 : decode cX3_two 54 = .ok (.aload_n 0, 1) := by decide +kernel
end
section
theorem dX3_two_55 : decode cX3_two 55 = .ok (.getfield 10, 3) := by decide +kernel
theorem dX3_two_58 : decode cX3_two 58 = .ok (.getfield 58, 3) := by decide +kernel
theorem dX3_two_61 : decode cX3_two 61 = .ok (.if_icmp .gt 147, 3) := by decide +kernel
theorem dX3_two_64 : decode cX3_two 64 = .ok (.aload_n 0, 1) := by decide +kernel
theorem dX3_two_65 : decode cX3_two 65 = .ok (.getfield 10, 3) := by decide +kernel
theorem dX3_two_68 : decode cX3_two 68 = .ok (.getfield 58, 3) := by decide +kernel
theorem dX3_two_71 : decode cX3_two 71 = .ok (.iload 5, 2) := by decide +kernel
theorem dX3_two_73 : decode cX3_two 73 = .ok (.iconst (-1), 1) := by decide +kernel
theorem dX3_two_74 : decode cX3_two 74 = .ok (.ixor, 1) := by decide +kernel
theorem dX3_two_75 : decode cX3_two 75 = .ok (.iand, 1) := by decide +kernel
theorem dX3_two_76 : decode cX3_two 76 = .ok (.istore 6, 2) := by decide +kernel
theorem dX3_two_78 : decode cX3_two 78 = .ok (.iload 5, 2) := by decide +kernel
theorem dX3_two_80 : decode cX3_two 80 = .ok (.aload_n 0, 1) := by decide +kernel
theorem dX3_two_81 : decode cX3_two 81 = .ok (.getfield 10, 3) := by decide +kernel
theorem dX3_two_84 : decode cX3_two 84 = .ok (.getfield 58, 3) := by decide +kernel
theorem dX3_two_87 : decode cX3_two 87 = .ok (.iconst (-1), 1) := by decide +kernel
theorem dX3_two_88 : decode cX3_two 88 = .ok (.ixor, 1) := by decide +kernel
theorem dX3_two_89 : decode cX3_two 89 = .ok (.iand, 1) := by decide +kernel
theorem dX3_two_90 : decode cX3_two 90 = .ok (.ifCond .ne 112, 3) := by decide +kernel
theorem dX3_two_93 : decode cX3_two 93 = .ok (.iload 5, 2) := by decide +kernel
theorem dX3_two_95 : decode cX3_two 95 = .ok (.iload 6, 2) := by decide +kernel
theorem dX3_two_97 : decode cX3_two 97 = .ok (.if_icmp .le 6, 3) := by decide +kernel
theorem dX3_two_100 : decode cX3_two 100 = .ok (.goto 102, 3) := by decide +kernel
theorem dX3_two_103 : decode cX3_two 103 = .ok (.aload_n 0, 1) := by decide +kernel
theorem dX3_two_104 : decode cX3_two 104 = .ok (.getfield 30, 3) := by decide +kernel
theorem dX3_two_107 : decode cX3_two 107 = .ok (.aload_n 0, 1) := by decide +kernel
theorem dX3_two_108 : decode cX3_two 108 = .ok (.getfield 10, 3) := by decide +kernel
theorem dX3_two_111 : decode cX3_two 111 = .ok (.iload 5, 2) := by decide +kernel
theorem dX3_two_113 : decode cX3_two 113 = .ok (.invokevirtual 94, 3) := by decide +kernel
theorem dX3_two_116 : decode cX3_two 116 = .ok (.aload_n 0, 1) := by decide +kernel
theorem dX3_two_117 : decode cX3_two 117 = .ok (.getfield 30, 3) := by decide +kernel
theorem dX3_two_120 : decode cX3_two 120 = .ok (.getfield 110, 3) := by decide +kernel
theorem dX3_two_123 : decode cX3_two 123 = .ok (.istore 7, 2) := by decide +kernel
theorem dX3_two_125 : decode cX3_two 125 = .ok (.aload_n 0, 1) := by decide +kernel
theorem dX3_two_126 : decode cX3_two 126 = .ok (.getfield 30, 3) := by decide +kernel
theorem dX3_two_129 : decode cX3_two 129 = .ok (.getfield 117, 3) := by decide +kernel
theorem dX3_two_132 : decode cX3_two 132 = .ok (.istore 8, 2) := by decide +kernel
theorem dX3_two_134 : decode cX3_two 134 = .ok (.aload_n 0, 1) := by decide +kernel
theorem dX3_two_135 : decode cX3_two 135 = .ok (.getfield 30, 3) := by decide +kernel
theorem dX3_two_138 : decode cX3_two 138 = .ok (.aload_n 0, 1) := by decide +kernel
theorem dX3_two_139 : decode cX3_two 139 = .ok (.getfield 10, 3) := by decide +kernel
theorem dX3_two_142 : decode cX3_two 142 = .ok (.iload 6, 2) := by decide +kernel
theorem dX3_two_144 : decode cX3_two 144 = .ok (.invokevirtual 94, 3) := by decide +kernel
theorem dX3_two_147 : decode cX3_two 147 = .ok (.iload 7, 2) := by decide +kernel
theorem dX3_two_149 : decode cX3_two 149 = .ok (.aload_n 0, 1) := by decide +kernel
theorem dX3_two_150 : decode cX3_two 150 = .ok (.getfield 30, 3) := by decide +kernel
theorem dX3_two_153 : decode cX3_two 153 = .ok (.getfield 110, 3) := by decide +kernel
theorem dX3_two_156 : decode cX3_two 156 = .ok (.invokestatic 161, 3) := by decide +kernel
theorem dX3_two_159 : decode cX3_two 159 = .ok (.istore 9, 2) := by decide +kernel
theorem dX3_two_161 : decode cX3_two 161 = .ok (.iload 8, 2) := by decide +kernel
theorem dX3_two_163 : decode cX3_two 163 = .ok (.aload_n 0, 1) := by decide +kernel
theorem dX3_two_164 : decode cX3_two 164 = .ok (.getfield 30, 3) := by decide +kernel
theorem dX3_two_167 : decode cX3_two 167 = .ok (.getfield 117, 3) := by decide +kernel
theorem dX3_two_170 : decode cX3_two 170 = .ok (.iadd, 1) := by decide +kernel
theorem dX3_two_171 : decode cX3_two 171 = .ok (.istore 10, 2) := by decide +kernel
theorem dX3_two_173 : decode cX3_two 173 = .ok (.iload 9, 2) := by decide +kernel
theorem dX3_two_175 : decode cX3_two 175 = .ok (.iload_n 3, 1) := by decide +kernel
theorem dX3_two_176 : decode cX3_two 176 = .ok (.if_icmp .lt 16, 3) := by decide +kernel
theorem dX3_two_179 : decode cX3_two 179 = .ok (.iload 9, 2) := by decide +kernel
theorem dX3_two_181 : decode cX3_two 181 = .ok (.iload_n 3, 1) := by decide +kernel
theorem dX3_two_182 : decode cX3_two 182 = .ok (.if_icmp .ne 20, 3) := by decide +kernel
theorem dX3_two_185 : decode cX3_two 185 = .ok (.iload 10, 2) := by decide +kernel
theorem dX3_two_187 : decode cX3_two 187 = .ok (.iload 4, 2) := by decide +kernel
theorem dX3_two_189 : decode cX3_two 189 = .ok (.if_icmp .ge 13, 3) := by decide +kernel
theorem dX3_two_192 : decode cX3_two 192 = .ok (.iload 5, 2) := by decide +kernel
theorem dX3_two_194 : decode cX3_two 194 = .ok (.istore_n 2, 1) := by decide +kernel
theorem dX3_two_195 : decode cX3_two 195 = .ok (.iload 9, 2) := by decide +kernel
theorem dX3_two_197 : decode cX3_two 197 = .ok (.istore_n 3, 1) := by decide +kernel
theorem dX3_two_198 : decode cX3_two 198 = .ok (.iload 10, 2) := by decide +kernel
theorem dX3_two_200 : decode cX3_two 200 = .ok (.istore 4, 2) := by decide +kernel
theorem dX3_two_202 : decode cX3_two 202 = .ok (.iinc 5 1, 3) := by decide +kernel
theorem dX3_two_205 : decode cX3_two 205 = .ok (.goto (-153), 3) := by decide +kernel
theorem dX3_two_208 : decode cX3_two 208 = .ok (.iload_n 1, 1) := by decide +kernel
theorem dX3_two_209 : decode cX3_two 209 = .ok (.lookupswitch 31 #[(0, 27), (1, 29)], 27) := by decide +kernel
theorem dX3_two_236 : decode cX3_two 236 = .ok (.iload_n 2, 1) := by decide +kernel
theorem dX3_two_237 : decode cX3_two 237 = .ok (.ireturn, 1) := by decide +kernel
theorem dX3_two_238 : decode cX3_two 238 = .ok (.iload_n 3, 1) := by decide +kernel
theorem dX3_two_239 : decode cX3_two 239 = .ok (.ireturn, 1) := by decide +kernel
theorem dX3_two_240 : decode cX3_two 240 = .ok (.iload 4, 2) := by decide +kernel
theorem dX3_two_242 : decode cX3_two 242 = .ok (.ireturn, 1) := by decide +kernel
theorem dX3_stay_0 : decode cX3_stay 0 = .ok (.iload_n 1, 1) := by decide +kernel
theorem dX3_stay_1 : decode cX3_stay 1 = .ok (.iconst 0, 1) := by decide +kernel
theorem dX3_stay_2 : decode cX3_stay 2 = .ok (.sipush 9999, 3) := by decide +kernel
theorem dX3_stay_5 : decode cX3_stay 5 = .ok (.invokestatic 41, 3) := by decide +kernel
theorem dX3_stay_8 : decode cX3_stay 8 = .ok (.ifCond .ne 6, 3) := by decide +kernel
theorem dX3_stay_11 : decode cX3_stay 11 = .ok (.bipush (-2), 2) := by decide +kernel
theorem dX3_stay_13 : decode cX3_stay 13 = .ok (.ireturn, 1) := by decide +kernel
theorem dX3_stay_14 : decode cX3_stay 14 = .ok (.aload_n 0, 1) := by decide +kernel
theorem dX3_stay_15 : decode cX3_stay 15 = .ok (.getfield 10, 3) := by decide +kernel
theorem dX3_stay_18 : decode cX3_stay 18 = .ok (.getfield 58, 3) := by decide +kernel
theorem dX3_stay_21 : decode cX3_stay 21 = .ok (.istore_n 2, 1) := by decide +kernel
theorem dX3_stay_22 : decode cX3_stay 22 = .ok (.iconst 0, 1) := by decide +kernel
theorem dX3_stay_23 : decode cX3_stay 23 = .ok (.istore_n 3, 1) := by decide +kernel
theorem dX3_stay_24 : decode cX3_stay 24 = .ok (.iload_n 3, 1) := by decide +kernel
theorem dX3_stay_25 : decode cX3_stay 25 = .ok (.aload_n 0, 1) := by decide +kernel
theorem dX3_stay_26 : decode cX3_stay 26 = .ok (.getfield 10, 3) := by decide +kernel
theorem dX3_stay_29 : decode cX3_stay 29 = .ok (.getfield 58, 3) := by decide +kernel
theorem dX3_stay_32 : decode cX3_stay 32 = .ok (.if_icmp .ge 69, 3) := by decide +kernel
theorem dX3_stay_35 : decode cX3_stay 35 = .ok (.iload_n 3, 1) := by decide +kernel
theorem dX3_stay_36 : decode cX3_stay 36 = .ok (.aload_n 0, 1) := by decide +kernel
theorem dX3_stay_37 : decode cX3_stay 37 = .ok (.getfield 10, 3) := by decide +kernel
theorem dX3_stay_40 : decode cX3_stay 40 = .ok (.getfield 58, 3) := by decide +kernel
theorem dX3_stay_43 : decode cX3_stay 43 = .ok (.iconst (-1), 1) := by decide +kernel
theorem dX3_stay_44 : decode cX3_stay 44 = .ok (.ixor, 1) := by decide +kernel
theorem dX3_stay_45 : decode cX3_stay 45 = .ok (.iand, 1) := by decide +kernel
theorem dX3_stay_46 : decode cX3_stay 46 = .ok (.ifCond .ne 49, 3) := by decide +kernel
theorem dX3_stay_49 : decode cX3_stay 49 = .ok (.iload_n 3, 1) := by decide +kernel
theorem dX3_stay_50 : decode cX3_stay 50 = .ok (.invokestatic 62, 3) := by decide +kernel
theorem dX3_stay_53 : decode cX3_stay 53 = .ok (.iload_n 2, 1) := by decide +kernel
theorem dX3_stay_54 : decode cX3_stay 54 = .ok (.invokestatic 62, 3) := by decide +kernel
theorem dX3_stay_57 : decode cX3_stay 57 = .ok (.if_icmp .ge 38, 3) := by decide +kernel
theorem dX3_stay_60 : decode cX3_stay 60 = .ok (.aload_n 0, 1) := by decide +kernel
theorem dX3_stay_61 : decode cX3_stay 61 = .ok (.getfield 30, 3) := by decide +kernel
theorem dX3_stay_64 : decode cX3_stay 64 = .ok (.aload_n 0, 1) := by decide +kernel
theorem dX3_stay_65 : decode cX3_stay 65 = .ok (.getfield 10, 3) := by decide +kernel
theorem dX3_stay_68 : decode cX3_stay 68 = .ok (.aload_n 0, 1) := by decide +kernel
theorem dX3_stay_69 : decode cX3_stay 69 = .ok (.getfield 10, 3) := by decide +kernel
theorem dX3_stay_72 : decode cX3_stay 72 = .ok (.getfield 58, 3) := by decide +kernel
theorem dX3_stay_75 : decode cX3_stay 75 = .ok (.iload_n 3, 1) := by decide +kernel
theorem dX3_stay_76 : decode cX3_stay 76 = .ok (.iconst (-1), 1) := by decide +kernel
theorem dX3_stay_77 : decode cX3_stay 77 = .ok (.ixor, 1) := by decide +kernel
theorem dX3_stay_78 : decode cX3_stay 78 = .ok (.iand, 1) := by decide +kernel
theorem dX3_stay_79 : decode cX3_stay 79 = .ok (.invokevirtual 94, 3) := by decide +kernel
theorem dX3_stay_82 : decode cX3_stay 82 = .ok (.aload_n 0, 1) := by decide +kernel
theorem dX3_stay_83 : decode cX3_stay 83 = .ok (.getfield 30, 3) := by decide +kernel
theorem dX3_stay_86 : decode cX3_stay 86 = .ok (.getfield 110, 3) := by decide +kernel
theorem dX3_stay_89 : decode cX3_stay 89 = .ok (.iload_n 1, 1) := by decide +kernel
theorem dX3_stay_90 : decode cX3_stay 90 = .ok (.if_icmp .gt 5, 3) := by decide +kernel
theorem dX3_stay_93 : decode cX3_stay 93 = .ok (.iload_n 3, 1) := by decide +kernel
theorem dX3_stay_94 : decode cX3_stay 94 = .ok (.istore_n 2, 1) := by decide +kernel
theorem dX3_stay_95 : decode cX3_stay 95 = .ok (.iinc 3 1, 3) := by decide +kernel
theorem dX3_stay_98 : decode cX3_stay 98 = .ok (.goto (-74), 3) := by decide +kernel
theorem dX3_stay_101 : decode cX3_stay 101 = .ok (.iload_n 2, 1) := by decide +kernel
theorem dX3_stay_102 : decode cX3_stay 102 = .ok (.ireturn, 1) := by decide +kernel
theorem dX3_day_0 : decode cX3_day 0 = .ok (.iload_n 1, 1) := by decide +kernel
theorem dX3_day_1 : decode cX3_day 1 = .ok (.iconst 0, 1) := by decide +kernel
theorem dX3_day_2 : decode cX3_day 2 = .ok (.sipush 9999, 3) := by decide +kernel
theorem dX3_day_5 : decode cX3_day 5 = .ok (.invokestatic 41, 3) := by decide +kernel
theorem dX3_day_8 : decode cX3_day 8 = .ok (.ifCond .eq 12, 3) := by decide +kernel
theorem dX3_day_11 : decode cX3_day 11 = .ok (.iload_n 2, 1) := by decide +kernel
theorem dX3_day_12 : decode cX3_day 12 = .ok (.iconst 0, 1) := by decide +kernel
theorem dX3_day_13 : decode cX3_day 13 = .ok (.iconst 1, 1) := by decide +kernel
theorem dX3_day_14 : decode cX3_day 14 = .ok (.invokestatic 41, 3) := by decide +kernel
theorem dX3_day_17 : decode cX3_day 17 = .ok (.ifCond .ne 6, 3) := by decide +kernel
theorem dX3_day_20 : decode cX3_day 20 = .ok (.bipush (-2), 2) := by decide +kernel
theorem dX3_day_22 : decode cX3_day 22 = .ok (.ireturn, 1) := by decide +kernel
theorem dX3_day_23 : decode cX3_day 23 = .ok (.aload_n 0, 1) := by decide +kernel
theorem dX3_day_24 : decode cX3_day 24 = .ok (.getfield 16, 3) := by decide +kernel
theorem dX3_day_27 : decode cX3_day 27 = .ok (.aload_n 0, 1) := by decide +kernel
theorem dX3_day_28 : decode cX3_day 28 = .ok (.getfield 10, 3) := by decide +kernel
theorem dX3_day_31 : decode cX3_day 31 = .ok (.invokevirtual 151, 3) := by decide +kernel
theorem dX3_day_34 : decode cX3_day 34 = .ok (.iload_n 1, 1) := by decide +kernel
theorem dX3_day_35 : decode cX3_day 35 = .ok (.istore_n 3, 1) := by decide +kernel
theorem dX3_day_36 : decode cX3_day 36 = .ok (.iconst 0, 1) := by decide +kernel
theorem dX3_day_37 : decode cX3_day 37 = .ok (.istore 4, 2) := by decide +kernel
theorem dX3_day_39 : decode cX3_day 39 = .ok (.iload 4, 2) := by decide +kernel
theorem dX3_day_41 : decode cX3_day 41 = .ok (.bipush 8, 2) := by decide +kernel
theorem dX3_day_43 : decode cX3_day 43 = .ok (.if_icmp .ge 47, 3) := by decide +kernel
theorem dX3_day_46 : decode cX3_day 46 = .ok (.aload_n 0, 1) := by decide +kernel
theorem dX3_day_47 : decode cX3_day 47 = .ok (.getfield 10, 3) := by decide +kernel
theorem dX3_day_50 : decode cX3_day 50 = .ok (.iload 4, 2) := by decide +kernel
theorem dX3_day_52 : decode cX3_day 52 = .ok (.invokevirtual 68, 3) := by decide +kernel
theorem dX3_day_55 : decode cX3_day 55 = .ok (.ifCond .eq 29, 3) := by decide +kernel
theorem dX3_day_58 : decode cX3_day 58 = .ok (.bipush 75, 2) := by decide +kernel
theorem dX3_day_60 : decode cX3_day 60 = .ok (.iload_n 3, 1) := by decide +kernel
theorem dX3_day_61 : decode cX3_day 61 = .ok (.imul, 1) := by decide +kernel
theorem dX3_day_62 : decode cX3_day 62 = .ok (.bipush 74, 2) := by decide +kernel
theorem dX3_day_64 : decode cX3_day 64 = .ok (.iadd, 1) := by decide +kernel
theorem dX3_day_65 : decode cX3_day 65 = .ok (.ldc 164, 2) := by decide +kernel
theorem dX3_day_67 : decode cX3_day 67 = .ok (.irem, 1) := by decide +kernel
theorem dX3_day_68 : decode cX3_day 68 = .ok (.istore_n 3, 1) := by decide +kernel
theorem dX3_day_69 : decode cX3_day 69 = .ok (.aload_n 0, 1) := by decide +kernel
theorem dX3_day_70 : decode cX3_day 70 = .ok (.getfield 16, 3) := by decide +kernel
theorem dX3_day_73 : decode cX3_day 73 = .ok (.getfield 49, 3) := by decide +kernel
theorem dX3_day_76 : decode cX3_day 76 = .ok (.iload 4, 2) := by decide +kernel
theorem dX3_day_78 : decode cX3_day 78 = .ok (.iload_n 3, 1) := by decide +kernel
theorem dX3_day_79 : decode cX3_day 79 = .ok (.sipush 600, 3) := by decide +kernel
theorem dX3_day_82 : decode cX3_day 82 = .ok (.irem, 1) := by decide +kernel
theorem dX3_day_83 : decode cX3_day 83 = .ok (.iastore, 1) := by decide +kernel
theorem dX3_day_84 : decode cX3_day 84 = .ok (.iinc 4 1, 3) := by decide +kernel
theorem dX3_day_87 : decode cX3_day 87 = .ok (.goto (-48), 3) := by decide +kernel
theorem dX3_day_90 : decode cX3_day 90 = .ok (.aload_n 0, 1) := by decide +kernel
theorem dX3_day_91 : decode cX3_day 91 = .ok (.getfield 30, 3) := by decide +kernel
theorem dX3_day_94 : decode cX3_day 94 = .ok (.aload_n 0, 1) := by decide +kernel
theorem dX3_day_95 : decode cX3_day 95 = .ok (.getfield 16, 3) := by decide +kernel
theorem dX3_day_98 : decode cX3_day 98 = .ok (.aload_n 0, 1) := by decide +kernel
theorem dX3_day_99 : decode cX3_day 99 = .ok (.getfield 16, 3) := by decide +kernel
theorem dX3_day_102 : decode cX3_day 102 = .ok (.getfield 58, 3) := by decide +kernel
theorem dX3_day_105 : decode cX3_day 105 = .ok (.invokevirtual 94, 3) := by decide +kernel
theorem dX3_day_108 : decode cX3_day 108 = .ok (.iload_n 2, 1) := by decide +kernel
theorem dX3_day_109 : decode cX3_day 109 = .ok (.ifCond .ne 13, 3) := by decide +kernel
theorem dX3_day_112 : decode cX3_day 112 = .ok (.aload_n 0, 1) := by decide +kernel
theorem dX3_day_113 : decode cX3_day 113 = .ok (.getfield 30, 3) := by decide +kernel
theorem dX3_day_116 : decode cX3_day 116 = .ok (.getfield 110, 3) := by decide +kernel
theorem dX3_day_119 : decode cX3_day 119 = .ok (.goto 10, 3) := by decide +kernel
theorem dX3_day_122 : decode cX3_day 122 = .ok (.aload_n 0, 1) := by decide +kernel
theorem dX3_day_123 : decode cX3_day 123 = .ok (.getfield 30, 3) := by decide +kernel
theorem dX3_day_126 : decode cX3_day 126 = .ok (.getfield 117, 3) := by decide +kernel
theorem dX3_day_129 : decode cX3_day 129 = .ok (.ireturn, 1) := by decide +kernel
theorem dX3_image_0 : decode cX3_image 0 = .ok (.iload_n 1, 1) := by decide +kernel
theorem dX3_image_1 : decode cX3_image 1 = .ok (.iconst 0, 1) := by decide +kernel
theorem dX3_image_2 : decode cX3_image 2 = .ok (.iconst 1, 1) := by decide +kernel
theorem dX3_image_3 : decode cX3_image 3 = .ok (.invokestatic 41, 3) := by decide +kernel
theorem dX3_image_6 : decode cX3_image 6 = .ok (.ifCond .ne 6, 3) := by decide +kernel
theorem dX3_image_9 : decode cX3_image 9 = .ok (.bipush (-2), 2) := by decide +kernel
theorem dX3_image_11 : decode cX3_image 11 = .ok (.ireturn, 1) := by decide +kernel
theorem dX3_image_12 : decode cX3_image 12 = .ok (.aload_n 0, 1) := by decide +kernel
theorem dX3_image_13 : decode cX3_image 13 = .ok (.getfield 19, 3) := by decide +kernel
theorem dX3_image_16 : decode cX3_image 16 = .ok (.iload_n 1, 1) := by decide +kernel
theorem dX3_image_17 : decode cX3_image 17 = .ok (.aaload, 1) := by decide +kernel
theorem dX3_image_18 : decode cX3_image 18 = .ok (.aload_n 0, 1) := by decide +kernel
theorem dX3_image_19 : decode cX3_image 19 = .ok (.getfield 10, 3) := by decide +kernel
theorem dX3_image_22 : decode cX3_image 22 = .ok (.invokevirtual 151, 3) := by decide +kernel
theorem dX3_image_25 : decode cX3_image 25 = .ok (.aload_n 0, 1) := by decide +kernel
theorem dX3_image_26 : decode cX3_image 26 = .ok (.getfield 23, 3) := by decide +kernel
theorem dX3_image_29 : decode cX3_image 29 = .ok (.iload_n 1, 1) := by decide +kernel
theorem dX3_image_30 : decode cX3_image 30 = .ok (.iconst 1, 1) := by decide +kernel
theorem dX3_image_31 : decode cX3_image 31 = .ok (.bastore, 1) := by decide +kernel
theorem dX3_image_32 : decode cX3_image 32 = .ok (.iconst 1, 1) := by decide +kernel
theorem dX3_image_33 : decode cX3_image 33 = .ok (.ireturn, 1) := by decide +kernel
theorem dX3_restore_0 : decode cX3_restore 0 = .ok (.iload_n 1, 1) := by decide +kernel
theorem dX3_restore_1 : decode cX3_restore 1 = .ok (.iconst 0, 1) := by decide +kernel
theorem dX3_restore_2 : decode cX3_restore 2 = .ok (.iconst 1, 1) := by decide +kernel
theorem dX3_restore_3 : decode cX3_restore 3 = .ok (.invokestatic 41, 3) := by decide +kernel
theorem dX3_restore_6 : decode cX3_restore 6 = .ok (.ifCond .ne 6, 3) := by decide +kernel
theorem dX3_restore_9 : decode cX3_restore 9 = .ok (.bipush (-2), 2) := by decide +kernel
theorem dX3_restore_11 : decode cX3_restore 11 = .ok (.ireturn, 1) := by decide +kernel
theorem dX3_restore_12 : decode cX3_restore 12 = .ok (.aload_n 0, 1) := by decide +kernel
theorem dX3_restore_13 : decode cX3_restore 13 = .ok (.getfield 23, 3) := by decide +kernel
theorem dX3_restore_16 : decode cX3_restore 16 = .ok (.iload_n 1, 1) := by decide +kernel
theorem dX3_restore_17 : decode cX3_restore 17 = .ok (.baload, 1) := by decide +kernel
theorem dX3_restore_18 : decode cX3_restore 18 = .ok (.ifCond .ne 6, 3) := by decide +kernel
theorem dX3_restore_21 : decode cX3_restore 21 = .ok (.bipush (-3), 2) := by decide +kernel
theorem dX3_restore_23 : decode cX3_restore 23 = .ok (.ireturn, 1) := by decide +kernel
theorem dX3_restore_24 : decode cX3_restore 24 = .ok (.aload_n 0, 1) := by decide +kernel
theorem dX3_restore_25 : decode cX3_restore 25 = .ok (.getfield 10, 3) := by decide +kernel
theorem dX3_restore_28 : decode cX3_restore 28 = .ok (.aload_n 0, 1) := by decide +kernel
theorem dX3_restore_29 : decode cX3_restore 29 = .ok (.getfield 19, 3) := by decide +kernel
theorem dX3_restore_32 : decode cX3_restore 32 = .ok (.iload_n 1, 1) := by decide +kernel
theorem dX3_restore_33 : decode cX3_restore 33 = .ok (.aaload, 1) := by decide +kernel
theorem dX3_restore_34 : decode cX3_restore 34 = .ok (.invokevirtual 151, 3) := by decide +kernel
theorem dX3_restore_37 : decode cX3_restore 37 = .ok (.iconst 1, 1) := by decide +kernel
theorem dX3_restore_38 : decode cX3_restore 38 = .ok (.ireturn, 1) := by decide +kernel
theorem dX3_told_0 : decode cX3_told 0 = .ok (.iload_n 1, 1) := by decide +kernel
theorem dX3_told_1 : decode cX3_told 1 = .ok (.iconst 0, 1) := by decide +kernel
theorem dX3_told_2 : decode cX3_told 2 = .ok (.iconst 5, 1) := by decide +kernel
theorem dX3_told_3 : decode cX3_told 3 = .ok (.invokestatic 41, 3) := by decide +kernel
theorem dX3_told_6 : decode cX3_told 6 = .ok (.ifCond .ne 6, 3) := by decide +kernel
theorem dX3_told_9 : decode cX3_told 9 = .ok (.bipush (-2), 2) := by decide +kernel
theorem dX3_told_11 : decode cX3_told 11 = .ok (.ireturn, 1) := by decide +kernel
theorem dX3_told_12 : decode cX3_told 12 = .ok (.iload_n 1, 1) := by decide +kernel
theorem dX3_told_13 : decode cX3_told 13 = .ok (.ifCond .ne 11, 3) := by decide +kernel
theorem dX3_told_16 : decode cX3_told 16 = .ok (.aload_n 0, 1) := by decide +kernel
theorem dX3_told_17 : decode cX3_told 17 = .ok (.getfield 37, 3) := by decide +kernel
theorem dX3_told_20 : decode cX3_told 20 = .ok (.getfield 88, 3) := by decide +kernel
theorem dX3_told_23 : decode cX3_told 23 = .ok (.ireturn, 1) := by decide +kernel
theorem dX3_told_24 : decode cX3_told 24 = .ok (.iload_n 1, 1) := by decide +kernel
theorem dX3_told_25 : decode cX3_told 25 = .ok (.iconst 5, 1) := by decide +kernel
theorem dX3_told_26 : decode cX3_told 26 = .ok (.if_icmp .ne 13, 3) := by decide +kernel
theorem dX3_told_29 : decode cX3_told 29 = .ok (.aload_n 0, 1) := by decide +kernel
theorem dX3_told_30 : decode cX3_told 30 = .ok (.getfield 10, 3) := by decide +kernel
theorem dX3_told_33 : decode cX3_told 33 = .ok (.getfield 58, 3) := by decide +kernel
theorem dX3_told_36 : decode cX3_told 36 = .ok (.goto 13, 3) := by decide +kernel
theorem dX3_told_39 : decode cX3_told 39 = .ok (.aload_n 0, 1) := by decide +kernel
theorem dX3_told_40 : decode cX3_told 40 = .ok (.getfield 10, 3) := by decide +kernel
theorem dX3_told_43 : decode cX3_told 43 = .ok (.iload_n 1, 1) := by decide +kernel
theorem dX3_told_44 : decode cX3_told 44 = .ok (.iconst 1, 1) := by decide +kernel
theorem dX3_told_45 : decode cX3_told 45 = .ok (.isub, 1) := by decide +kernel
theorem dX3_told_46 : decode cX3_told 46 = .ok (.invokevirtual 78, 3) := by decide +kernel
theorem dX3_told_49 : decode cX3_told 49 = .ok (.ireturn, 1) := by decide +kernel
theorem dX3_within_0 : decode cX3_within 0 = .ok (.iload_n 0, 1) := by decide +kernel
theorem dX3_within_1 : decode cX3_within 1 = .ok (.iload_n 1, 1) := by decide +kernel
theorem dX3_within_2 : decode cX3_within 2 = .ok (.if_icmp .lt 12, 3) := by decide +kernel
theorem dX3_within_5 : decode cX3_within 5 = .ok (.iload_n 0, 1) := by decide +kernel
theorem dX3_within_6 : decode cX3_within 6 = .ok (.iload_n 2, 1) := by decide +kernel
theorem dX3_within_7 : decode cX3_within 7 = .ok (.if_icmp .gt 7, 3) := by decide +kernel
theorem dX3_within_10 : decode cX3_within 10 = .ok (.iconst 1, 1) := by decide +kernel
theorem dX3_within_11 : decode cX3_within 11 = .ok (.goto 4, 3) := by decide +kernel
theorem dX3_within_14 : decode cX3_within 14 = .ok (.iconst 0, 1) := by decide +kernel
theorem dX3_within_15 : decode cX3_within 15 = .ok (.ireturn, 1) := by decide +kernel
theorem dX3_leastOf_0 : decode cX3_leastOf 0 = .ok (.iload_n 0, 1) := by decide +kernel
theorem dX3_leastOf_1 : decode cX3_leastOf 1 = .ok (.ifCond .ne 7, 3) := by decide +kernel
theorem dX3_leastOf_4 : decode cX3_leastOf 4 = .ok (.iconst 1, 1) := by decide +kernel
theorem dX3_leastOf_5 : decode cX3_leastOf 5 = .ok (.goto 4, 3) := by decide +kernel
theorem dX3_leastOf_8 : decode cX3_leastOf 8 = .ok (.iconst 0, 1) := by decide +kernel
theorem dX3_leastOf_9 : decode cX3_leastOf 9 = .ok (.ireturn, 1) := by decide +kernel
theorem dX3_mostOf_0 : decode cX3_mostOf 0 = .ok (.iload_n 0, 1) := by decide +kernel
theorem dX3_mostOf_1 : decode cX3_mostOf 1 = .ok (.lookupswitch 32 #[(0, 27), (3, 30)], 27) := by decide +kernel
theorem dX3_mostOf_28 : decode cX3_mostOf 28 = .ok (.bipush 20, 2) := by decide +kernel
theorem dX3_mostOf_30 : decode cX3_mostOf 30 = .ok (.ireturn, 1) := by decide +kernel
theorem dX3_mostOf_31 : decode cX3_mostOf 31 = .ok (.iconst 1, 1) := by decide +kernel
theorem dX3_mostOf_32 : decode cX3_mostOf 32 = .ok (.ireturn, 1) := by decide +kernel
theorem dX3_mostOf_33 : decode cX3_mostOf 33 = .ok (.bipush 9, 2) := by decide +kernel
theorem dX3_mostOf_35 : decode cX3_mostOf 35 = .ok (.ireturn, 1) := by decide +kernel
theorem dX3_leaveOut_0 : decode cX3_leaveOut 0 = .ok (.aload_n 0, 1) := by decide +kernel
theorem dX3_leaveOut_1 : decode cX3_leaveOut 1 = .ok (.getfield 16, 3) := by decide +kernel
theorem dX3_leaveOut_4 : decode cX3_leaveOut 4 = .ok (.aload_n 0, 1) := by decide +kernel
theorem dX3_leaveOut_5 : decode cX3_leaveOut 5 = .ok (.getfield 10, 3) := by decide +kernel
theorem dX3_leaveOut_8 : decode cX3_leaveOut 8 = .ok (.invokevirtual 151, 3) := by decide +kernel
theorem dX3_leaveOut_11 : decode cX3_leaveOut 11 = .ok (.aload_n 0, 1) := by decide +kernel
theorem dX3_leaveOut_12 : decode cX3_leaveOut 12 = .ok (.getfield 30, 3) := by decide +kernel
theorem dX3_leaveOut_15 : decode cX3_leaveOut 15 = .ok (.aload_n 0, 1) := by decide +kernel
theorem dX3_leaveOut_16 : decode cX3_leaveOut 16 = .ok (.getfield 10, 3) := by decide +kernel
theorem dX3_leaveOut_19 : decode cX3_leaveOut 19 = .ok (.aload_n 0, 1) := by decide +kernel
theorem dX3_leaveOut_20 : decode cX3_leaveOut 20 = .ok (.getfield 10, 3) := by decide +kernel
theorem dX3_leaveOut_23 : decode cX3_leaveOut 23 = .ok (.getfield 58, 3) := by decide +kernel
theorem dX3_leaveOut_26 : decode cX3_leaveOut 26 = .ok (.iconst 1, 1) := by decide +kernel
theorem dX3_leaveOut_27 : decode cX3_leaveOut 27 = .ok (.iload_n 1, 1) := by decide +kernel
theorem dX3_leaveOut_28 : decode cX3_leaveOut 28 = .ok (.ishl, 1) := by decide +kernel
theorem dX3_leaveOut_29 : decode cX3_leaveOut 29 = .ok (.iconst (-1), 1) := by decide +kernel
theorem dX3_leaveOut_30 : decode cX3_leaveOut 30 = .ok (.ixor, 1) := by decide +kernel
theorem dX3_leaveOut_31 : decode cX3_leaveOut 31 = .ok (.iand, 1) := by decide +kernel
theorem dX3_leaveOut_32 : decode cX3_leaveOut 32 = .ok (.invokevirtual 94, 3) := by decide +kernel
theorem dX3_leaveOut_35 : decode cX3_leaveOut 35 = .ok (.return_, 1) := by decide +kernel
theorem dX3_beginIf_0 : decode cX3_beginIf 0 = .ok (.aload_n 0, 1) := by decide +kernel
theorem dX3_beginIf_1 : decode cX3_beginIf 1 = .ok (.getfield 16, 3) := by decide +kernel
theorem dX3_beginIf_4 : decode cX3_beginIf 4 = .ok (.getfield 45, 3) := by decide +kernel
theorem dX3_beginIf_7 : decode cX3_beginIf 7 = .ok (.iload_n 1, 1) := by decide +kernel
theorem dX3_beginIf_8 : decode cX3_beginIf 8 = .ok (.iload_n 2, 1) := by decide +kernel
theorem dX3_beginIf_9 : decode cX3_beginIf 9 = .ok (.iastore, 1) := by decide +kernel
theorem dX3_beginIf_10 : decode cX3_beginIf 10 = .ok (.aload_n 0, 1) := by decide +kernel
theorem dX3_beginIf_11 : decode cX3_beginIf 11 = .ok (.getfield 16, 3) := by decide +kernel
theorem dX3_beginIf_14 : decode cX3_beginIf 14 = .ok (.getfield 49, 3) := by decide +kernel
theorem dX3_beginIf_17 : decode cX3_beginIf 17 = .ok (.iload_n 1, 1) := by decide +kernel
theorem dX3_beginIf_18 : decode cX3_beginIf 18 = .ok (.iload_n 3, 1) := by decide +kernel
theorem dX3_beginIf_19 : decode cX3_beginIf 19 = .ok (.iastore, 1) := by decide +kernel
theorem dX3_beginIf_20 : decode cX3_beginIf 20 = .ok (.aload_n 0, 1) := by decide +kernel
theorem dX3_beginIf_21 : decode cX3_beginIf 21 = .ok (.getfield 30, 3) := by decide +kernel
theorem dX3_beginIf_24 : decode cX3_beginIf 24 = .ok (.aload_n 0, 1) := by decide +kernel
theorem dX3_beginIf_25 : decode cX3_beginIf 25 = .ok (.getfield 16, 3) := by decide +kernel
theorem dX3_beginIf_28 : decode cX3_beginIf 28 = .ok (.iload_n 1, 1) := by decide +kernel
theorem dX3_beginIf_29 : decode cX3_beginIf 29 = .ok (.invokevirtual 165, 3) := by decide +kernel
theorem dX3_beginIf_32 : decode cX3_beginIf 32 = .ok (.ireturn, 1) := by decide +kernel
theorem dX3_waitIf_0 : decode cX3_waitIf 0 = .ok (.aload_n 0, 1) := by decide +kernel
theorem dX3_waitIf_1 : decode cX3_waitIf 1 = .ok (.iload_n 1, 1) := by decide +kernel
theorem dX3_waitIf_2 : decode cX3_waitIf 2 = .ok (.iload_n 2, 1) := by decide +kernel
theorem dX3_waitIf_3 : decode cX3_waitIf 3 = .ok (.iload_n 3, 1) := by decide +kernel
theorem dX3_waitIf_4 : decode cX3_waitIf 4 = .ok (.invokevirtual 169, 3) := by decide +kernel
theorem dX3_waitIf_7 : decode cX3_waitIf 7 = .ok (.iload_n 3, 1) := by decide +kernel
theorem dX3_waitIf_8 : decode cX3_waitIf 8 = .ok (.isub, 1) := by decide +kernel
theorem dX3_waitIf_9 : decode cX3_waitIf 9 = .ok (.ireturn, 1) := by decide +kernel
theorem dX3_endIfWalked_0 : decode cX3_endIfWalked 0 = .ok (.bipush 99, 2) := by decide +kernel
theorem dX3_endIfWalked_2 : decode cX3_endIfWalked 2 = .ok (.aload_n 0, 1) := by decide +kernel
theorem dX3_endIfWalked_3 : decode cX3_endIfWalked 3 = .ok (.getfield 10, 3) := by decide +kernel
theorem dX3_endIfWalked_6 : decode cX3_endIfWalked 6 = .ok (.getfield 45, 3) := by decide +kernel
theorem dX3_endIfWalked_9 : decode cX3_endIfWalked 9 = .ok (.iload_n 1, 1) := by decide +kernel
theorem dX3_endIfWalked_10 : decode cX3_endIfWalked 10 = .ok (.iaload, 1) := by decide +kernel
theorem dX3_endIfWalked_11 : decode cX3_endIfWalked 11 = .ok (.iload_n 2, 1) := by decide +kernel
theorem dX3_endIfWalked_12 : decode cX3_endIfWalked 12 = .ok (.iadd, 1) := by decide +kernel
theorem dX3_endIfWalked_13 : decode cX3_endIfWalked 13 = .ok (.invokestatic 126, 3) := by decide +kernel
theorem dX3_endIfWalked_16 : decode cX3_endIfWalked 16 = .ok (.istore 4, 2) := by decide +kernel
theorem dX3_endIfWalked_18 : decode cX3_endIfWalked 18 = .ok (.aload_n 0, 1) := by decide +kernel
theorem dX3_endIfWalked_19 : decode cX3_endIfWalked 19 = .ok (.iload_n 1, 1) := by decide +kernel
theorem dX3_endIfWalked_20 : decode cX3_endIfWalked 20 = .ok (.iload 4, 2) := by decide +kernel
theorem dX3_endIfWalked_22 : decode cX3_endIfWalked 22 = .ok (.aload_n 0, 1) := by decide +kernel
theorem dX3_endIfWalked_23 : decode cX3_endIfWalked 23 = .ok (.getfield 10, 3) := by decide +kernel
theorem dX3_endIfWalked_26 : decode cX3_endIfWalked 26 = .ok (.getfield 49, 3) := by decide +kernel
theorem dX3_endIfWalked_29 : decode cX3_endIfWalked 29 = .ok (.iload_n 1, 1) := by decide +kernel
theorem dX3_endIfWalked_30 : decode cX3_endIfWalked 30 = .ok (.iaload, 1) := by decide +kernel
theorem dX3_endIfWalked_31 : decode cX3_endIfWalked 31 = .ok (.iload_n 2, 1) := by decide +kernel
theorem dX3_endIfWalked_32 : decode cX3_endIfWalked 32 = .ok (.iload_n 3, 1) := by decide +kernel
theorem dX3_endIfWalked_33 : decode cX3_endIfWalked 33 = .ok (.imul, 1) := by decide +kernel
theorem dX3_endIfWalked_34 : decode cX3_endIfWalked 34 = .ok (.iadd, 1) := by decide +kernel
theorem dX3_endIfWalked_35 : decode cX3_endIfWalked 35 = .ok (.invokevirtual 169, 3) := by decide +kernel
theorem dX3_endIfWalked_38 : decode cX3_endIfWalked 38 = .ok (.aload_n 0, 1) := by decide +kernel
theorem dX3_endIfWalked_39 : decode cX3_endIfWalked 39 = .ok (.getfield 10, 3) := by decide +kernel
theorem dX3_endIfWalked_42 : decode cX3_endIfWalked 42 = .ok (.iload_n 1, 1) := by decide +kernel
theorem dX3_endIfWalked_43 : decode cX3_endIfWalked 43 = .ok (.invokevirtual 172, 3) := by decide +kernel
theorem dX3_endIfWalked_46 : decode cX3_endIfWalked 46 = .ok (.iadd, 1) := by decide +kernel
theorem dX3_endIfWalked_47 : decode cX3_endIfWalked 47 = .ok (.ireturn, 1) := by decide +kernel
theorem dX3_costOfLiving_0 : decode cX3_costOfLiving 0 = .ok (.aload_n 0, 1) := by decide +kernel
theorem dX3_costOfLiving_1 : decode cX3_costOfLiving 1 = .ok (.iload_n 1, 1) := by decide +kernel
theorem dX3_costOfLiving_2 : decode cX3_costOfLiving 2 = .ok (.iload_n 2, 1) := by decide +kernel
theorem dX3_costOfLiving_3 : decode cX3_costOfLiving 3 = .ok (.aload_n 0, 1) := by decide +kernel
theorem dX3_costOfLiving_4 : decode cX3_costOfLiving 4 = .ok (.getfield 10, 3) := by decide +kernel
theorem dX3_costOfLiving_7 : decode cX3_costOfLiving 7 = .ok (.getfield 49, 3) := by decide +kernel
theorem dX3_costOfLiving_10 : decode cX3_costOfLiving 10 = .ok (.iload_n 1, 1) := by decide +kernel
theorem dX3_costOfLiving_11 : decode cX3_costOfLiving 11 = .ok (.iaload, 1) := by decide +kernel
theorem dX3_costOfLiving_12 : decode cX3_costOfLiving 12 = .ok (.invokevirtual 136, 3) := by decide +kernel
theorem dX3_costOfLiving_15 : decode cX3_costOfLiving 15 = .ok (.iload_n 3, 1) := by decide +kernel
theorem dX3_costOfLiving_16 : decode cX3_costOfLiving 16 = .ok (.bipush 99, 2) := by decide +kernel
theorem dX3_costOfLiving_18 : decode cX3_costOfLiving 18 = .ok (.iload_n 2, 1) := by decide +kernel
theorem dX3_costOfLiving_19 : decode cX3_costOfLiving 19 = .ok (.isub, 1) := by decide +kernel
theorem dX3_costOfLiving_20 : decode cX3_costOfLiving 20 = .ok (.imul, 1) := by decide +kernel
theorem dX3_costOfLiving_21 : decode cX3_costOfLiving 21 = .ok (.iadd, 1) := by decide +kernel
theorem dX3_costOfLiving_22 : decode cX3_costOfLiving 22 = .ok (.ireturn, 1) := by decide +kernel
theorem dX3_allTold_0 : decode cX3_allTold 0 = .ok (.aload_n 0, 1) := by decide +kernel
theorem dX3_allTold_1 : decode cX3_allTold 1 = .ok (.getfield 37, 3) := by decide +kernel
theorem dX3_allTold_4 : decode cX3_allTold 4 = .ok (.aload_n 0, 1) := by decide +kernel
theorem dX3_allTold_5 : decode cX3_allTold 5 = .ok (.getfield 10, 3) := by decide +kernel
theorem dX3_allTold_8 : decode cX3_allTold 8 = .ok (.getfield 58, 3) := by decide +kernel
theorem dX3_allTold_11 : decode cX3_allTold 11 = .ok (.invokevirtual 91, 3) := by decide +kernel
theorem dX3_allTold_14 : decode cX3_allTold 14 = .ok (.bipush (-6), 2) := by decide +kernel
theorem dX3_allTold_16 : decode cX3_allTold 16 = .ok (.if_icmp .ne 27, 3) := by decide +kernel
theorem dX3_allTold_19 : decode cX3_allTold 19 = .ok (.aload_n 0, 1) := by decide +kernel
theorem dX3_allTold_20 : decode cX3_allTold 20 = .ok (.getfield 37, 3) := by decide +kernel
theorem dX3_allTold_23 : decode cX3_allTold 23 = .ok (.getfield 88, 3) := by decide +kernel
theorem dX3_allTold_26 : decode cX3_allTold 26 = .ok (.aload_n 0, 1) := by decide +kernel
theorem dX3_allTold_27 : decode cX3_allTold 27 = .ok (.getfield 10, 3) := by decide +kernel
theorem dX3_allTold_30 : decode cX3_allTold 30 = .ok (.getfield 58, 3) := by decide +kernel
theorem dX3_allTold_33 : decode cX3_allTold 33 = .ok (.invokestatic 62, 3) := by decide +kernel
theorem dX3_allTold_36 : decode cX3_allTold 36 = .ok (.if_icmp .ne 7, 3) := by decide +kernel
theorem dX3_allTold_39 : decode cX3_allTold 39 = .ok (.iconst 1, 1) := by decide +kernel
theorem dX3_allTold_40 : decode cX3_allTold 40 = .ok (.goto 4, 3) := by decide +kernel
theorem dX3_allTold_43 : decode cX3_allTold 43 = .ok (.iconst 0, 1) := by decide +kernel
theorem dX3_allTold_44 : decode cX3_allTold 44 = .ok (.ireturn, 1) := by decide +kernel
theorem dX3_milesThatBring_0 : decode cX3_milesThatBring 0 = .ok (.aload_n 0, 1) := by decide +kernel
theorem dX3_milesThatBring_1 : decode cX3_milesThatBring 1 = .ok (.getfield 16, 3) := by decide +kernel
theorem dX3_milesThatBring_4 : decode cX3_milesThatBring 4 = .ok (.aload_n 0, 1) := by decide +kernel
theorem dX3_milesThatBring_5 : decode cX3_milesThatBring 5 = .ok (.getfield 10, 3) := by decide +kernel
theorem dX3_milesThatBring_8 : decode cX3_milesThatBring 8 = .ok (.invokevirtual 151, 3) := by decide +kernel
theorem dX3_milesThatBring_11 : decode cX3_milesThatBring 11 = .ok (.iconst 0, 1) := by decide +kernel
theorem dX3_milesThatBring_12 : decode cX3_milesThatBring 12 = .ok (.istore_n 3, 1) := by decide +kernel
theorem dX3_milesThatBring_13 : decode cX3_milesThatBring 13 = .ok (.iload_n 3, 1) := by decide +kernel
theorem dX3_milesThatBring_14 : decode cX3_milesThatBring 14 = .ok (.bipush 99, 2) := by decide +kernel
theorem dX3_milesThatBring_16 : decode cX3_milesThatBring 16 = .ok (.if_icmp .gt 55, 3) := by decide +kernel
theorem dX3_milesThatBring_19 : decode cX3_milesThatBring 19 = .ok (.iload_n 2, 1) := by decide +kernel
theorem dX3_milesThatBring_20 : decode cX3_milesThatBring 20 = .ok (.ifCond .eq 7, 3) := by decide +kernel
theorem dX3_milesThatBring_23 : decode cX3_milesThatBring 23 = .ok (.iload_n 3, 1) := by decide +kernel
theorem dX3_milesThatBring_24 : decode cX3_milesThatBring 24 = .ok (.goto 7, 3) := by decide +kernel
theorem dX3_milesThatBring_27 : decode cX3_milesThatBring 27 = .ok (.bipush 99, 2) := by decide +kernel
theorem dX3_milesThatBring_29 : decode cX3_milesThatBring 29 = .ok (.iload_n 3, 1) := by decide +kernel
theorem dX3_milesThatBring_30 : decode cX3_milesThatBring 30 = .ok (.isub, 1) := by decide +kernel
theorem dX3_milesThatBring_31 : decode cX3_milesThatBring 31 = .ok (.istore 4, 2) := by decide +kernel
theorem dX3_milesThatBring_33 : decode cX3_milesThatBring 33 = .ok (.aload_n 0, 1) := by decide +kernel
theorem dX3_milesThatBring_34 : decode cX3_milesThatBring 34 = .ok (.getfield 16, 3) := by decide +kernel
theorem dX3_milesThatBring_37 : decode cX3_milesThatBring 37 = .ok (.getfield 45, 3) := by decide +kernel
theorem dX3_milesThatBring_40 : decode cX3_milesThatBring 40 = .ok (.iload_n 1, 1) := by decide +kernel
theorem dX3_milesThatBring_41 : decode cX3_milesThatBring 41 = .ok (.iload 4, 2) := by decide +kernel
theorem dX3_milesThatBring_43 : decode cX3_milesThatBring 43 = .ok (.iastore, 1) := by decide +kernel
theorem dX3_milesThatBring_44 : decode cX3_milesThatBring 44 = .ok (.aload_n 0, 1) := by decide +kernel
theorem dX3_milesThatBring_45 : decode cX3_milesThatBring 45 = .ok (.getfield 30, 3) := by decide +kernel
theorem dX3_milesThatBring_48 : decode cX3_milesThatBring 48 = .ok (.aload_n 0, 1) := by decide +kernel
theorem dX3_milesThatBring_49 : decode cX3_milesThatBring 49 = .ok (.getfield 16, 3) := by decide +kernel
theorem dX3_milesThatBring_52 : decode cX3_milesThatBring 52 = .ok (.aload_n 0, 1) := by decide +kernel
theorem dX3_milesThatBring_53 : decode cX3_milesThatBring 53 = .ok (.getfield 37, 3) := by decide +kernel
theorem dX3_milesThatBring_56 : decode cX3_milesThatBring 56 = .ok (.invokevirtual 175, 3) := by decide +kernel
theorem dX3_milesThatBring_59 : decode cX3_milesThatBring 59 = .ok (.ifCond .eq 6, 3) := by decide +kernel
theorem dX3_milesThatBring_62 : decode cX3_milesThatBring 62 = .ok (.iload 4, 2) := by decide +kernel
theorem dX3_milesThatBring_64 : decode cX3_milesThatBring 64 = .ok (.ireturn, 1) := by decide +kernel
theorem dX3_milesThatBring_65 : decode cX3_milesThatBring 65 = .ok (.iinc 3 1, 3) := by decide +kernel
theorem dX3_milesThatBring_68 : decode cX3_milesThatBring 68 = .ok (.goto (-55), 3) := by decide +kernel
theorem dX3_milesThatBring_71 : decode cX3_milesThatBring 71 = .ok (.bipush (-6), 2) := by decide +kernel
theorem dX3_milesThatBring_73 : decode cX3_milesThatBring 73 = .ok (.ireturn, 1) := by decide +kernel
theorem dX3_runUnder_0 : decode cX3_runUnder 0 = .ok (.aload_n 0, 1) := by decide +kernel
theorem dX3_runUnder_1 : decode cX3_runUnder 1 = .ok (.getfield 16, 3) := by decide +kernel
theorem dX3_runUnder_4 : decode cX3_runUnder 4 = .ok (.iconst 1, 1) := by decide +kernel
theorem dX3_runUnder_5 : decode cX3_runUnder 5 = .ok (.iload_n 1, 1) := by decide +kernel
theorem dX3_runUnder_6 : decode cX3_runUnder 6 = .ok (.iconst 4, 1) := by decide +kernel
theorem dX3_runUnder_7 : decode cX3_runUnder 7 = .ok (.idiv, 1) := by decide +kernel
theorem dX3_runUnder_8 : decode cX3_runUnder 8 = .ok (.invokevirtual 81, 3) := by decide +kernel
theorem dX3_runUnder_11 : decode cX3_runUnder 11 = .ok (.aload_n 0, 1) := by decide +kernel
theorem dX3_runUnder_12 : decode cX3_runUnder 12 = .ok (.getfield 16, 3) := by decide +kernel
theorem dX3_runUnder_15 : decode cX3_runUnder 15 = .ok (.iconst 2, 1) := by decide +kernel
theorem dX3_runUnder_16 : decode cX3_runUnder 16 = .ok (.iload_n 1, 1) := by decide +kernel
theorem dX3_runUnder_17 : decode cX3_runUnder 17 = .ok (.iconst 4, 1) := by decide +kernel
theorem dX3_runUnder_18 : decode cX3_runUnder 18 = .ok (.irem, 1) := by decide +kernel
theorem dX3_runUnder_19 : decode cX3_runUnder 19 = .ok (.invokevirtual 81, 3) := by decide +kernel
theorem dX3_runUnder_22 : decode cX3_runUnder 22 = .ok (.aload_n 0, 1) := by decide +kernel
theorem dX3_runUnder_23 : decode cX3_runUnder 23 = .ok (.getfield 30, 3) := by decide +kernel
theorem dX3_runUnder_26 : decode cX3_runUnder 26 = .ok (.aload_n 0, 1) := by decide +kernel
theorem dX3_runUnder_27 : decode cX3_runUnder 27 = .ok (.getfield 16, 3) := by decide +kernel
theorem dX3_runUnder_30 : decode cX3_runUnder 30 = .ok (.aload_n 0, 1) := by decide +kernel
theorem dX3_runUnder_31 : decode cX3_runUnder 31 = .ok (.getfield 16, 3) := by decide +kernel
theorem dX3_runUnder_34 : decode cX3_runUnder 34 = .ok (.getfield 58, 3) := by decide +kernel
theorem dX3_runUnder_37 : decode cX3_runUnder 37 = .ok (.invokevirtual 94, 3) := by decide +kernel
theorem dX3_runUnder_40 : decode cX3_runUnder 40 = .ok (.return_, 1) := by decide +kernel
theorem dX4_init_0 : decode cX4_init 0 = .ok (.aload_n 0, 1) := by decide +kernel
theorem dX4_init_1 : decode cX4_init 1 = .ok (.invokespecial 1, 3) := by decide +kernel
theorem dX4_init_4 : decode cX4_init 4 = .ok (.aload_n 0, 1) := by decide +kernel
theorem dX4_init_5 : decode cX4_init 5 = .ok (.bipush 8, 2) := by decide +kernel
theorem dX4_init_7 : decode cX4_init 7 = .ok (.newarray .int, 2) := by decide +kernel
theorem dX4_init_9 : decode cX4_init 9 = .ok (.putfield 7, 3) := by decide +kernel
theorem dX4_init_12 : decode cX4_init 12 = .ok (.aload_n 0, 1) := by decide +kernel
theorem dX4_init_13 : decode cX4_init 13 = .ok (.bipush 8, 2) := by decide +kernel
theorem dX4_init_15 : decode cX4_init 15 = .ok (.newarray .int, 2) := by decide +kernel
theorem dX4_init_17 : decode cX4_init 17 = .ok (.putfield 13, 3) := by decide +kernel
theorem dX4_init_20 : decode cX4_init 20 = .ok (.aload_n 0, 1) := by decide +kernel
theorem dX4_init_21 : decode cX4_init 21 = .ok (.bipush 8, 2) := by decide +kernel
theorem dX4_init_23 : decode cX4_init 23 = .ok (.newarray .int, 2) := by decide +kernel
theorem dX4_init_25 : decode cX4_init 25 = .ok (.putfield 16, 3) := by decide +kernel
theorem dX4_init_28 : decode cX4_init 28 = .ok (.aload_n 0, 1) := by decide +kernel
theorem dX4_init_29 : decode cX4_init 29 = .ok (.bipush 8, 2) := by decide +kernel
theorem dX4_init_31 : decode cX4_init 31 = .ok (.newarray .int, 2) := by decide +kernel
theorem dX4_init_33 : decode cX4_init 33 = .ok (.putfield 19, 3) := by decide +kernel
theorem dX4_init_36 : decode cX4_init 36 = .ok (.aload_n 0, 1) := by decide +kernel
theorem dX4_init_37 : decode cX4_init 37 = .ok (.bipush 40, 2) := by decide +kernel
theorem dX4_init_39 : decode cX4_init 39 = .ok (.newarray .int, 2) := by decide +kernel
theorem dX4_init_41 : decode cX4_init 41 = .ok (.putfield 22, 3) := by decide +kernel
theorem dX4_init_44 : decode cX4_init 44 = .ok (.aload_n 0, 1) := by decide +kernel
theorem dX4_init_45 : decode cX4_init 45 = .ok (.bipush 8, 2) := by decide +kernel
theorem dX4_init_47 : decode cX4_init 47 = .ok (.newarray .int, 2) := by decide +kernel
theorem dX4_init_49 : decode cX4_init 49 = .ok (.putfield 25, 3) := by decide +kernel
theorem dX4_init_52 : decode cX4_init 52 = .ok (.aload_n 0, 1) := by decide +kernel
theorem dX4_init_53 : decode cX4_init 53 = .ok (.bipush 8, 2) := by decide +kernel
theorem dX4_init_55 : decode cX4_init 55 = .ok (.newarray .int, 2) := by decide +kernel
theorem dX4_init_57 : decode cX4_init 57 = .ok (.putfield 28, 3) := by decide +kernel
theorem dX4_init_60 : decode cX4_init 60 = .ok (.aload_n 0, 1) := by decide +kernel
theorem dX4_init_61 : decode cX4_init 61 = .ok (.bipush 8, 2) := by decide +kernel
theorem dX4_init_63 : decode cX4_init 63 = .ok (.newarray .int, 2) := by decide +kernel
theorem dX4_init_65 : decode cX4_init 65 = .ok (.putfield 31, 3) := by decide +kernel
theorem dX4_init_68 : decode cX4_init 68 = .ok (.aload_n 0, 1) := by decide +kernel
theorem dX4_init_69 : decode cX4_init 69 = .ok (.bipush 8, 2) := by decide +kernel
theorem dX4_init_71 : decode cX4_init 71 = .ok (.newarray .int, 2) := by decide +kernel
theorem dX4_init_73 : decode cX4_init 73 = .ok (.putfield 34, 3) := by decide +kernel
theorem dX4_init_76 : decode cX4_init 76 = .ok (.aload_n 0, 1) := by decide +kernel
theorem dX4_init_77 : decode cX4_init 77 = .ok (.bipush 8, 2) := by decide +kernel
theorem dX4_init_79 : decode cX4_init 79 = .ok (.newarray .int, 2) := by decide +kernel
theorem dX4_init_81 : decode cX4_init 81 = .ok (.putfield 37, 3) := by decide +kernel
theorem dX4_init_84 : decode cX4_init 84 = .ok (.aload_n 0, 1) := by decide +kernel
theorem dX4_init_85 : decode cX4_init 85 = .ok (.bipush 8, 2) := by decide +kernel
theorem dX4_init_87 : decode cX4_init 87 = .ok (.newarray .int, 2) := by decide +kernel
theorem dX4_init_89 : decode cX4_init 89 = .ok (.putfield 40, 3) := by decide +kernel
theorem dX4_init_92 : decode cX4_init 92 = .ok (.aload_n 0, 1) := by decide +kernel
theorem dX4_init_93 : decode cX4_init 93 = .ok (.bipush 100, 2) := by decide +kernel
theorem dX4_init_95 : decode cX4_init 95 = .ok (.newarray .int, 2) := by decide +kernel
theorem dX4_init_97 : decode cX4_init 97 = .ok (.putfield 43, 3) := by decide +kernel
theorem dX4_init_100 : decode cX4_init 100 = .ok (.aload_n 0, 1) := by decide +kernel
theorem dX4_init_101 : decode cX4_init 101 = .ok (.iconst 2, 1) := by decide +kernel
theorem dX4_init_102 : decode cX4_init 102 = .ok (.newarray .boolean, 2) := by decide +kernel
theorem dX4_init_104 : decode cX4_init 104 = .ok (.putfield 46, 3) := by decide +kernel
theorem dX4_init_107 : decode cX4_init 107 = .ok (.aload_n 0, 1) := by decide +kernel
theorem dX4_init_108 : decode cX4_init 108 = .ok (.iconst 2, 1) := by decide +kernel
theorem dX4_init_109 : decode cX4_init 109 = .ok (.putfield 50, 3) := by decide +kernel
theorem dX4_init_112 : decode cX4_init 112 = .ok (.aload_n 0, 1) := by decide +kernel
theorem dX4_init_113 : decode cX4_init 113 = .ok (.iconst 1, 1) := by decide +kernel
theorem dX4_init_114 : decode cX4_init 114 = .ok (.putfield 54, 3) := by decide +kernel
theorem dX4_init_117 : decode cX4_init 117 = .ok (.return_, 1) := by decide +kernel
theorem dX4_in_0 : decode cX4_in 0 = .ok (.lload_n 0, 1) := by decide +kernel
theorem dX4_in_1 : decode cX4_in 1 = .ok (.lload_n 2, 1) := by decide +kernel
theorem dX4_in_2 : decode cX4_in 2 = .ok (.lcmp, 1) := by decide +kernel
theorem dX4_in_3 : decode cX4_in 3 = .ok (.ifCond .lt 14, 3) := by decide +kernel
theorem dX4_in_6 : decode cX4_in 6 = .ok (.lload_n 0, 1) := by decide +kernel
theorem dX4_in_7 : decode cX4_in 7 = .ok (.lload 4, 2) := by decide +kernel
theorem dX4_in_9 : decode cX4_in 9 = .ok (.lcmp, 1) := by decide +kernel
theorem dX4_in_10 : decode cX4_in 10 = .ok (.ifCond .gt 7, 3) := by decide +kernel
theorem dX4_in_13 : decode cX4_in 13 = .ok (.iconst 1, 1) := by decide +kernel
theorem dX4_in_14 : decode cX4_in 14 = .ok (.goto 4, 3) := by decide +kernel
theorem dX4_in_17 : decode cX4_in 17 = .ok (.iconst 0, 1) := by decide +kernel
theorem dX4_in_18 : decode cX4_in 18 = .ok (.ireturn, 1) := by decide +kernel
theorem dX4_ones_0 : decode cX4_ones 0 = .ok (.iconst 0, 1) := by decide +kernel
theorem dX4_ones_1 : decode cX4_ones 1 = .ok (.istore_n 1, 1) := by decide +kernel
theorem dX4_ones_2 : decode cX4_ones 2 = .ok (.iload_n 0, 1) := by decide +kernel
theorem dX4_ones_3 : decode cX4_ones 3 = .ok (.istore_n 2, 1) := by decide +kernel
theorem dX4_ones_4 : decode cX4_ones 4 = .ok (.iload_n 2, 1) := by decide +kernel
theorem dX4_ones_5 : decode cX4_ones 5 = .ok (.ifCond .eq 15, 3) := by decide +kernel
theorem dX4_ones_8 : decode cX4_ones 8 = .ok (.iinc 1 1, 3) := by decide +kernel
theorem dX4_ones_11 : decode cX4_ones 11 = .ok (.iload_n 2, 1) := by decide +kernel
theorem dX4_ones_12 : decode cX4_ones 12 = .ok (.iload_n 2, 1) := by decide +kernel
theorem dX4_ones_13 : decode cX4_ones 13 = .ok (.iconst 1, 1) := by decide +kernel
theorem dX4_ones_14 : decode cX4_ones 14 = .ok (.isub, 1) := by decide +kernel
theorem dX4_ones_15 : decode cX4_ones 15 = .ok (.iand, 1) := by decide +kernel
theorem dX4_ones_16 : decode cX4_ones 16 = .ok (.istore_n 2, 1) := by decide +kernel
theorem dX4_ones_17 : decode cX4_ones 17 = .ok (.goto (-13), 3) := by decide +kernel
theorem dX4_ones_20 : decode cX4_ones 20 = .ok (.iload_n 1, 1) := by decide +kernel
theorem dX4_ones_21 : decode cX4_ones 21 = .ok (.ireturn, 1) := by decide +kernel
theorem dX4_isPerson_0 : decode cX4_isPerson 0 = .ok (.iload_n 0, 1) := by decide +kernel
theorem dX4_isPerson_1 : decode cX4_isPerson 1 = .ok (.i2l, 1) := by decide +kernel
theorem dX4_isPerson_2 : decode cX4_isPerson 2 = .ok (.lconst 0, 1) := by decide +kernel
theorem dX4_isPerson_3 : decode cX4_isPerson 3 = .ok (.ldc2_w 57, 3) := by decide +kernel
theorem dX4_isPerson_6 : decode cX4_isPerson 6 = .ok (.invokestatic 59, 3) := by decide +kernel
theorem dX4_isPerson_9 : decode cX4_isPerson 9 = .ok (.ireturn, 1) := by decide +kernel
theorem dX4_comes_0 : decode cX4_comes 0 = .ok (.iload_n 1, 1) := by decide +kernel
theorem dX4_comes_1 : decode cX4_comes 1 = .ok (.invokestatic 63, 3) := by decide +kernel
theorem dX4_comes_4 : decode cX4_comes 4 = .ok (.ifCond .eq 19, 3) := by decide +kernel
theorem dX4_comes_7 : decode cX4_comes 7 = .ok (.aload_n 0, 1) := by decide +kernel
theorem dX4_comes_8 : decode cX4_comes 8 = .ok (.getfield 67, 3) := by decide +kernel
theorem dX4_comes_11 : decode cX4_comes 11 = .ok (.iload_n 1, 1) := by decide +kernel
theorem dX4_comes_12 : decode cX4_comes 12 = .ok (.ishr, 1) := by decide +kernel
theorem dX4_comes_13 : decode cX4_comes 13 = .ok (.iconst 1, 1) := by decide +kernel
theorem dX4_comes_14 : decode cX4_comes 14 = .ok (.iand, 1) := by decide +kernel
theorem dX4_comes_15 : decode cX4_comes 15 = .ok (.iconst 1, 1) := by decide +kernel
theorem dX4_comes_16 : decode cX4_comes 16 = .ok (.if_icmp .ne 7, 3) := by decide +kernel
theorem dX4_comes_19 : decode cX4_comes 19 = .ok (.iconst 1, 1) := by decide +kernel
theorem dX4_comes_20 : decode cX4_comes 20 = .ok (.goto 4, 3) := by decide +kernel
theorem dX4_comes_23 : decode cX4_comes 23 = .ok (.iconst 0, 1) := by decide +kernel
theorem dX4_comes_24 : decode cX4_comes 24 = .ok (.ireturn, 1) := by decide +kernel
theorem dX4_come_0 : decode cX4_come 0 = .ok (.iload_n 1, 1) := by decide +kernel
theorem dX4_come_1 : decode cX4_come 1 = .ok (.invokestatic 63, 3) := by decide +kernel
theorem dX4_come_4 : decode cX4_come 4 = .ok (.ifCond .ne 5, 3) := by decide +kernel
theorem dX4_come_7 : decode cX4_come 7 = .ok (.iconst (-1), 1) := by decide +kernel
theorem dX4_come_8 : decode cX4_come 8 = .ok (.ireturn, 1) := by decide +kernel
theorem dX4_come_9 : decode cX4_come 9 = .ok (.iload_n 2, 1) := by decide +kernel
theorem dX4_come_10 : decode cX4_come 10 = .ok (.i2l, 1) := by decide +kernel
theorem dX4_come_11 : decode cX4_come 11 = .ok (.lconst 0, 1) := by decide +kernel
theorem dX4_come_12 : decode cX4_come 12 = .ok (.ldc2_w 70, 3) := by decide +kernel
theorem dX4_come_15 : decode cX4_come 15 = .ok (.invokestatic 59, 3) := by decide +kernel
theorem dX4_come_18 : decode cX4_come 18 = .ok (.ifCond .eq 28, 3) := by decide +kernel
theorem dX4_come_21 : decode cX4_come 21 = .ok (.iload_n 3, 1) := by decide +kernel
theorem dX4_come_22 : decode cX4_come 22 = .ok (.i2l, 1) := by decide +kernel
theorem dX4_come_23 : decode cX4_come 23 = .ok (.lconst 0, 1) := by decide +kernel
theorem dX4_come_24 : decode cX4_come 24 = .ok (.ldc2_w 72, 3) := by decide +kernel
theorem dX4_come_27 : decode cX4_come 27 = .ok (.invokestatic 59, 3) := by decide +kernel
theorem dX4_come_30 : decode cX4_come 30 = .ok (.ifCond .eq 16, 3) := by decide +kernel
theorem dX4_come_33 : decode cX4_come 33 = .ok (.iload 4, 2) := by decide +kernel
theorem dX4_come_35 : decode cX4_come 35 = .ok (.i2l, 1) := by decide +kernel
theorem dX4_come_36 : decode cX4_come 36 = .ok (.lconst 1, 1) := by decide +kernel
theorem dX4_come_37 : decode cX4_come 37 = .ok (.ldc2_w 74, 3) := by decide +kernel
theorem dX4_come_40 : decode cX4_come 40 = .ok (.invokestatic 59, 3) := by decide +kernel
theorem dX4_come_43 : decode cX4_come 43 = .ok (.ifCond .ne 6, 3) := by decide +kernel
theorem dX4_come_46 : decode cX4_come 46 = .ok (.bipush (-2), 2) := by decide +kernel
theorem dX4_come_48 : decode cX4_come 48 = .ok (.ireturn, 1) := by decide +kernel
theorem dX4_come_49 : decode cX4_come 49 = .ok (.aload_n 0, 1) := by decide +kernel
theorem dX4_come_50 : decode cX4_come 50 = .ok (.getfield 7, 3) := by decide +kernel
theorem dX4_come_53 : decode cX4_come 53 = .ok (.iload_n 1, 1) := by decide +kernel
theorem dX4_come_54 : decode cX4_come 54 = .ok (.iload_n 2, 1) := by decide +kernel
theorem dX4_come_55 : decode cX4_come 55 = .ok (.iastore, 1) := by decide +kernel
theorem dX4_come_56 : decode cX4_come 56 = .ok (.aload_n 0, 1) := by decide +kernel
theorem dX4_come_57 : decode cX4_come 57 = .ok (.getfield 13, 3) := by decide +kernel
theorem dX4_come_60 : decode cX4_come 60 = .ok (.iload_n 1, 1) := by decide +kernel
theorem dX4_come_61 : decode cX4_come 61 = .ok (.iload_n 3, 1) := by decide +kernel
theorem dX4_come_62 : decode cX4_come 62 = .ok (.iastore, 1) := by decide +kernel
theorem dX4_come_63 : decode cX4_come 63 = .ok (.aload_n 0, 1) := by decide +kernel
theorem dX4_come_64 : decode cX4_come 64 = .ok (.getfield 16, 3) := by decide +kernel
theorem dX4_come_67 : decode cX4_come 67 = .ok (.iload_n 1, 1) := by decide +kernel
theorem dX4_come_68 : decode cX4_come 68 = .ok (.iload 4, 2) := by decide +kernel
theorem dX4_come_70 : decode cX4_come 70 = .ok (.iastore, 1) := by decide +kernel
theorem dX4_come_71 : decode cX4_come 71 = .ok (.aload_n 0, 1) := by decide +kernel
theorem dX4_come_72 : decode cX4_come 72 = .ok (.getfield 19, 3) := by decide +kernel
theorem dX4_come_75 : decode cX4_come 75 = .ok (.iload_n 1, 1) := by decide +kernel
theorem dX4_come_76 : decode cX4_come 76 = .ok (.iload 5, 2) := by decide +kernel
theorem dX4_come_78 : decode cX4_come 78 = .ok (.ifCond .eq 7, 3) := by decide +kernel
theorem dX4_come_81 : decode cX4_come 81 = .ok (.iconst 1, 1) := by decide +kernel
theorem dX4_come_82 : decode cX4_come 82 = .ok (.goto 4, 3) := by decide +kernel
theorem dX4_come_85 : decode cX4_come 85 = .ok (.iconst 0, 1) := by decide +kernel
theorem dX4_come_86 : decode cX4_come 86 = .ok (.iastore, 1) := by decide +kernel
theorem dX4_come_87 : decode cX4_come 87 = .ok (.aload_n 0, 1) := by decide +kernel
theorem dX4_come_88 : decode cX4_come 88 = .ok (.dup, 1) := by decide +kernel
theorem dX4_come_89 : decode cX4_come 89 = .ok (.getfield 67, 3) := by decide +kernel
theorem dX4_come_92 : decode cX4_come 92 = .ok (.iconst 1, 1) := by decide +kernel
theorem dX4_come_93 : decode cX4_come 93 = .ok (.iload_n 1, 1) := by decide +kernel
theorem dX4_come_94 : decode cX4_come 94 = .ok (.ishl, 1) := by decide +kernel
theorem dX4_come_95 : decode cX4_come 95 = .ok (.ior, 1) := by decide +kernel
theorem dX4_come_96 : decode cX4_come 96 = .ok (.putfield 67, 3) := by decide +kernel
theorem dX4_come_99 : decode cX4_come 99 = .ok (.aload_n 0, 1) := by decide +kernel
theorem dX4_come_100 : decode cX4_come 100 = .ok (.getfield 67, 3) := by decide +kernel
theorem dX4_come_103 : decode cX4_come 103 = .ok (.invokestatic 76, 3) := by decide +kernel
theorem dX4_come_106 : decode cX4_come 106 = .ok (.ireturn, 1) := by decide +kernel
theorem dX4_stays_0 : decode cX4_stays 0 = .ok (.aload_n 0, 1) := by decide +kernel
theorem dX4_stays_1 : decode cX4_stays 1 = .ok (.iload_n 1, 1) := by decide +kernel
theorem dX4_stays_2 : decode cX4_stays 2 = .ok (.invokevirtual 80, 3) := by decide +kernel
theorem dX4_stays_5 : decode cX4_stays 5 = .ok (.ifCond .ne 5, 3) := by decide +kernel
theorem dX4_stays_8 : decode cX4_stays 8 = .ok (.iconst (-1), 1) := by decide +kernel
theorem dX4_stays_9 : decode cX4_stays 9 = .ok (.ireturn, 1) := by decide +kernel
theorem dX4_stays_10 : decode cX4_stays 10 = .ok (.aload_n 0, 1) := by decide +kernel
theorem dX4_stays_11 : decode cX4_stays 11 = .ok (.dup, 1) := by decide +kernel
theorem dX4_stays_12 : decode cX4_stays 12 = .ok (.getfield 67, 3) := by decide +kernel
theorem dX4_stays_15 : decode cX4_stays 15 = .ok (.iconst 1, 1) := by decide +kernel
theorem dX4_stays_16 : decode cX4_stays 16 = .ok (.iload_n 1, 1) := by decide +kernel
theorem dX4_stays_17 : decode cX4_stays 17 = .ok (.ishl, 1) := by decide +kernel
theorem dX4_stays_18 : decode cX4_stays 18 = .ok (.iconst (-1), 1) := by decide +kernel
theorem dX4_stays_19 : decode cX4_stays 19 = .ok (.ixor, 1) := by decide +kernel
theorem dX4_stays_20 : decode cX4_stays 20 = .ok (.iand, 1) := by decide +kernel
theorem dX4_stays_21 : decode cX4_stays 21 = .ok (.putfield 67, 3) := by decide +kernel
theorem dX4_stays_24 : decode cX4_stays 24 = .ok (.aload_n 0, 1) := by decide +kernel
theorem dX4_stays_25 : decode cX4_stays 25 = .ok (.getfield 67, 3) := by decide +kernel
theorem dX4_stays_28 : decode cX4_stays 28 = .ok (.invokestatic 76, 3) := by decide +kernel
theorem dX4_stays_31 : decode cX4_stays 31 = .ok (.ireturn, 1) := by decide +kernel
theorem dX4_person_0 : decode cX4_person 0 = .ok (.aload_n 0, 1) := by decide +kernel
theorem dX4_person_1 : decode cX4_person 1 = .ok (.iload_n 1, 1) := by decide +kernel
theorem dX4_person_2 : decode cX4_person 2 = .ok (.invokevirtual 80, 3) := by decide +kernel
theorem dX4_person_5 : decode cX4_person 5 = .ok (.ifCond .ne 5, 3) := by decide +kernel
theorem dX4_person_8 : decode cX4_person 8 = .ok (.iconst (-1), 1) := by decide +kernel
theorem dX4_person_9 : decode cX4_person 9 = .ok (.ireturn, 1) := by decide +kernel
theorem dX4_person_10 : decode cX4_person 10 = .ok (.iload_n 2, 1) := by decide +kernel
theorem dX4_person_11 : decode cX4_person 11 = .ok (.ifCond .ne 12, 3) := by decide +kernel
theorem dX4_person_14 : decode cX4_person 14 = .ok (.aload_n 0, 1) := by decide +kernel
theorem dX4_person_15 : decode cX4_person 15 = .ok (.getfield 7, 3) := by decide +kernel
theorem dX4_person_18 : decode cX4_person 18 = .ok (.iload_n 1, 1) := by decide +kernel
theorem dX4_person_19 : decode cX4_person 19 = .ok (.iaload, 1) := by decide +kernel
theorem dX4_person_20 : decode cX4_person 20 = .ok (.goto 47, 3) := by decide +kernel
theorem dX4_person_23 : decode cX4_person 23 = .ok (.iload_n 2, 1) := by decide +kernel
theorem dX4_person_24 : decode cX4_person 24 = .ok (.iconst 1, 1) := by decide +kernel
theorem dX4_person_25 : decode cX4_person 25 = .ok (.if_icmp .ne 12, 3) := by decide +kernel
theorem dX4_person_28 : decode cX4_person 28 = .ok (.aload_n 0, 1) := by decide +kernel
theorem dX4_person_29 : decode cX4_person 29 = .ok (.getfield 13, 3) := by decide +kernel
theorem dX4_person_32 : decode cX4_person 32 = .ok (.iload_n 1, 1) := by decide +kernel
theorem dX4_person_33 : decode cX4_person 33 = .ok (.iaload, 1) := by decide +kernel
theorem dX4_person_34 : decode cX4_person 34 = .ok (.goto 33, 3) := by decide +kernel
theorem dX4_person_37 : decode cX4_person 37 = .ok (.iload_n 2, 1) := by decide +kernel
theorem dX4_person_38 : decode cX4_person 38 = .ok (.iconst 2, 1) := by decide +kernel
theorem dX4_person_39 : decode cX4_person 39 = .ok (.if_icmp .ne 12, 3) := by decide +kernel
theorem dX4_person_42 : decode cX4_person 42 = .ok (.aload_n 0, 1) := by decide +kernel
theorem dX4_person_43 : decode cX4_person 43 = .ok (.getfield 16, 3) := by decide +kernel
theorem dX4_person_46 : decode cX4_person 46 = .ok (.iload_n 1, 1) := by decide +kernel
theorem dX4_person_47 : decode cX4_person 47 = .ok (.iaload, 1) := by decide +kernel
theorem dX4_person_48 : decode cX4_person 48 = .ok (.goto 19, 3) := by decide +kernel
theorem dX4_person_51 : decode cX4_person 51 = .ok (.iload_n 2, 1) := by decide +kernel
theorem dX4_person_52 : decode cX4_person 52 = .ok (.iconst 3, 1) := by decide +kernel
theorem dX4_person_53 : decode cX4_person 53 = .ok (.if_icmp .ne 12, 3) := by decide +kernel
theorem dX4_person_56 : decode cX4_person 56 = .ok (.aload_n 0, 1) := by decide +kernel
theorem dX4_person_57 : decode cX4_person 57 = .ok (.getfield 19, 3) := by decide +kernel
theorem dX4_person_60 : decode cX4_person 60 = .ok (.iload_n 1, 1) := by decide +kernel
theorem dX4_person_61 : decode cX4_person 61 = .ok (.iaload, 1) := by decide +kernel
theorem dX4_person_62 : decode cX4_person 62 = .ok (.goto 5, 3) := by decide +kernel
theorem dX4_person_65 : decode cX4_person 65 = .ok (.bipush (-2), 2) := by decide +kernel
theorem dX4_person_67 : decode cX4_person 67 = .ok (.ireturn, 1) := by decide +kernel
theorem dX4_set_0 : decode cX4_set 0 = .ok (.iload_n 1, 1) := by decide +kernel
theorem dX4_set_1 : decode cX4_set 1 = .ok (.i2l, 1) := by decide +kernel
theorem dX4_set_2 : decode cX4_set 2 = .ok (.lconst 0, 1) := by decide +kernel
theorem dX4_set_3 : decode cX4_set 3 = .ok (.ldc2_w 83, 3) := by decide +kernel
theorem dX4_set_6 : decode cX4_set 6 = .ok (.invokestatic 59, 3) := by decide +kernel
theorem dX4_set_9 : decode cX4_set 9 = .ok (.ifCond .eq 42, 3) := by decide +kernel
theorem dX4_set_12 : decode cX4_set 12 = .ok (.iload_n 2, 1) := by decide +kernel
theorem dX4_set_13 : decode cX4_set 13 = .ok (.i2l, 1) := by decide +kernel
theorem dX4_set_14 : decode cX4_set 14 = .ok (.iload_n 1, 1) := by decide +kernel
theorem dX4_set_15 : decode cX4_set 15 = .ok (.ifCond .ne 7, 3) := by decide +kernel
theorem dX4_set_18 : decode cX4_set 18 = .ok (.lconst 1, 1) := by decide +kernel
theorem dX4_set_19 : decode cX4_set 19 = .ok (.goto 4, 3) := by decide +kernel
theorem dX4_set_22 : decode cX4_set 22 = .ok (.lconst 0, 1) := by decide +kernel
theorem dX4_set_23 : decode cX4_set 23 = .ok (.iload_n 1, 1) := by decide +kernel
theorem dX4_set_24 : decode cX4_set 24 = .ok (.ifCond .ne 9, 3) := by decide +kernel
theorem dX4_set_27 : decode cX4_set 27 = .ok (.ldc2_w 85, 3) := by decide +kernel
theorem dX4_set_30 : decode cX4_set 30 = .ok (.goto 15, 3) := by decide +kernel
theorem dX4_set_33 : decode cX4_set 33 = .ok (.iload_n 1, 1) := by decide +kernel
theorem dX4_set_34 : decode cX4_set 34 = .ok (.iconst 3, 1) := by decide +kernel
theorem dX4_set_35 : decode cX4_set 35 = .ok (.if_icmp .ne 7, 3) := by decide +kernel
theorem dX4_set_38 : decode cX4_set 38 = .ok (.lconst 1, 1) := by decide +kernel
theorem dX4_set_39 : decode cX4_set 39 = .ok (.goto 6, 3) := by decide +kernel
theorem dX4_set_42 : decode cX4_set 42 = .ok (.ldc2_w 74, 3) := by decide +kernel
theorem dX4_set_45 : decode cX4_set 45 = .ok (.invokestatic 59, 3) := by decide +kernel
theorem dX4_set_48 : decode cX4_set 48 = .ok (.ifCond .ne 6, 3) := by decide +kernel
theorem dX4_set_51 : decode cX4_set 51 = .ok (.bipush (-2), 2) := by decide +kernel
theorem dX4_set_53 : decode cX4_set 53 = .ok (.ireturn, 1) := by decide +kernel
theorem dX4_set_54 : decode cX4_set 54 = .ok (.iload_n 1, 1) := by decide +kernel
theorem dX4_set_55 : decode cX4_set 55 = .ok (.ifCond .ne 10, 3) := by decide +kernel
theorem dX4_set_58 : decode cX4_set 58 = .ok (.aload_n 0, 1) := by decide +kernel
theorem dX4_set_59 : decode cX4_set 59 = .ok (.getfield 50, 3) := by decide +kernel
theorem dX4_set_62 : decode cX4_set 62 = .ok (.goto 31, 3) := by decide +kernel
theorem dX4_set_65 : decode cX4_set 65 = .ok (.iload_n 1, 1) := by decide +kernel
theorem dX4_set_66 : decode cX4_set 66 = .ok (.iconst 1, 1) := by decide +kernel
theorem dX4_set_67 : decode cX4_set 67 = .ok (.if_icmp .ne 10, 3) := by decide +kernel
theorem dX4_set_70 : decode cX4_set 70 = .ok (.aload_n 0, 1) := by decide +kernel
theorem dX4_set_71 : decode cX4_set 71 = .ok (.getfield 54, 3) := by decide +kernel
theorem dX4_set_74 : decode cX4_set 74 = .ok (.goto 19, 3) := by decide +kernel
theorem dX4_set_77 : decode cX4_set 77 = .ok (.iload_n 1, 1) := by decide +kernel
theorem dX4_set_78 : decode cX4_set 78 = .ok (.iconst 2, 1) := by decide +kernel
theorem dX4_set_79 : decode cX4_set 79 = .ok (.if_icmp .ne 10, 3) := by decide +kernel
theorem dX4_set_82 : decode cX4_set 82 = .ok (.aload_n 0, 1) := by decide +kernel
theorem dX4_set_83 : decode cX4_set 83 = .ok (.getfield 87, 3) := by decide +kernel
theorem dX4_set_86 : decode cX4_set 86 = .ok (.goto 7, 3) := by decide +kernel
theorem dX4_set_89 : decode cX4_set 89 = .ok (.aload_n 0, 1) := by decide +kernel
theorem dX4_set_90 : decode cX4_set 90 = .ok (.getfield 90, 3) := by decide +kernel
theorem dX4_set_93 : decode cX4_set 93 = .ok (.istore_n 3, 1) := by decide +kernel
theorem dX4_set_94 : decode cX4_set 94 = .ok (.aload_n 0, 1) := by decide +kernel
theorem dX4_set_95 : decode cX4_set 95 = .ok (.iload_n 1, 1) := by decide +kernel
theorem dX4_set_96 : decode cX4_set 96 = .ok (.ifCond .ne 7, 3) := by decide +kernel
theorem dX4_set_99 : decode cX4_set 99 = .ok (.iload_n 2, 1) := by decide +kernel
theorem dX4_set_100 : decode cX4_set 100 = .ok (.goto 7, 3) := by decide +kernel
theorem dX4_set_103 : decode cX4_set 103 = .ok (.aload_n 0, 1) := by decide +kernel
end
section
theorem dX4_set_104 : decode cX4_set 104 = .ok (.getfield 50, 3) := by decide +kernel
theorem dX4_set_107 : decode cX4_set 107 = .ok (.putfield 50, 3) := by decide +kernel
theorem dX4_set_110 : decode cX4_set 110 = .ok (.aload_n 0, 1) := by decide +kernel
theorem dX4_set_111 : decode cX4_set 111 = .ok (.iload_n 1, 1) := by decide +kernel
theorem dX4_set_112 : decode cX4_set 112 = .ok (.iconst 1, 1) := by decide +kernel
theorem dX4_set_113 : decode cX4_set 113 = .ok (.if_icmp .ne 7, 3) := by decide +kernel
theorem dX4_set_116 : decode cX4_set 116 = .ok (.iload_n 2, 1) := by decide +kernel
theorem dX4_set_117 : decode cX4_set 117 = .ok (.goto 7, 3) := by decide +kernel
theorem dX4_set_120 : decode cX4_set 120 = .ok (.aload_n 0, 1) := by decide +kernel
theorem dX4_set_121 : decode cX4_set 121 = .ok (.getfield 54, 3) := by decide +kernel
theorem dX4_set_124 : decode cX4_set 124 = .ok (.putfield 54, 3) := by decide +kernel
theorem dX4_set_127 : decode cX4_set 127 = .ok (.aload_n 0, 1) := by decide +kernel
theorem dX4_set_128 : decode cX4_set 128 = .ok (.iload_n 1, 1) := by decide +kernel
theorem dX4_set_129 : decode cX4_set 129 = .ok (.iconst 2, 1) := by decide +kernel
theorem dX4_set_130 : decode cX4_set 130 = .ok (.if_icmp .ne 7, 3) := by decide +kernel
theorem dX4_set_133 : decode cX4_set 133 = .ok (.iload_n 2, 1) := by decide +kernel
theorem dX4_set_134 : decode cX4_set 134 = .ok (.goto 7, 3) := by decide +kernel
theorem dX4_set_137 : decode cX4_set 137 = .ok (.aload_n 0, 1) := by decide +kernel
theorem dX4_set_138 : decode cX4_set 138 = .ok (.getfield 87, 3) := by decide +kernel
theorem dX4_set_141 : decode cX4_set 141 = .ok (.putfield 87, 3) := by decide +kernel
theorem dX4_set_144 : decode cX4_set 144 = .ok (.aload_n 0, 1) := by decide +kernel
theorem dX4_set_145 : decode cX4_set 145 = .ok (.iload_n 1, 1) := by decide +kernel
theorem dX4_set_146 : decode cX4_set 146 = .ok (.iconst 3, 1) := by decide +kernel
theorem dX4_set_147 : decode cX4_set 147 = .ok (.if_icmp .ne 7, 3) := by decide +kernel
theorem dX4_set_150 : decode cX4_set 150 = .ok (.iload_n 2, 1) := by decide +kernel
theorem dX4_set_151 : decode cX4_set 151 = .ok (.goto 7, 3) := by decide +kernel
theorem dX4_set_154 : decode cX4_set 154 = .ok (.aload_n 0, 1) := by decide +kernel
theorem dX4_set_155 : decode cX4_set 155 = .ok (.getfield 90, 3) := by decide +kernel
theorem dX4_set_158 : decode cX4_set 158 = .ok (.putfield 90, 3) := by decide +kernel
theorem dX4_set_161 : decode cX4_set 161 = .ok (.iload_n 3, 1) := by decide +kernel
theorem dX4_set_162 : decode cX4_set 162 = .ok (.ireturn, 1) := by decide +kernel
theorem dX4_say_0 : decode cX4_say 0 = .ok (.iload_n 1, 1) := by decide +kernel
theorem dX4_say_1 : decode cX4_say 1 = .ok (.i2l, 1) := by decide +kernel
theorem dX4_say_2 : decode cX4_say 2 = .ok (.ldc2_w 93, 3) := by decide +kernel
theorem dX4_say_5 : decode cX4_say 5 = .ok (.ldc2_w 95, 3) := by decide +kernel
theorem dX4_say_8 : decode cX4_say 8 = .ok (.invokestatic 59, 3) := by decide +kernel
theorem dX4_say_11 : decode cX4_say 11 = .ok (.ifCond .ne 6, 3) := by decide +kernel
theorem dX4_say_14 : decode cX4_say 14 = .ok (.bipush (-2), 2) := by decide +kernel
theorem dX4_say_16 : decode cX4_say 16 = .ok (.ireturn, 1) := by decide +kernel
theorem dX4_say_17 : decode cX4_say 17 = .ok (.aload_n 0, 1) := by decide +kernel
theorem dX4_say_18 : decode cX4_say 18 = .ok (.getfield 97, 3) := by decide +kernel
theorem dX4_say_21 : decode cX4_say 21 = .ok (.bipush 40, 2) := by decide +kernel
theorem dX4_say_23 : decode cX4_say 23 = .ok (.if_icmp .ne 6, 3) := by decide +kernel
theorem dX4_say_26 : decode cX4_say 26 = .ok (.bipush (-4), 2) := by decide +kernel
theorem dX4_say_28 : decode cX4_say 28 = .ok (.ireturn, 1) := by decide +kernel
theorem dX4_say_29 : decode cX4_say 29 = .ok (.aload_n 0, 1) := by decide +kernel
theorem dX4_say_30 : decode cX4_say 30 = .ok (.getfield 22, 3) := by decide +kernel
theorem dX4_say_33 : decode cX4_say 33 = .ok (.aload_n 0, 1) := by decide +kernel
theorem dX4_say_34 : decode cX4_say 34 = .ok (.getfield 97, 3) := by decide +kernel
theorem dX4_say_37 : decode cX4_say 37 = .ok (.iload_n 1, 1) := by decide +kernel
theorem dX4_say_38 : decode cX4_say 38 = .ok (.iastore, 1) := by decide +kernel
theorem dX4_say_39 : decode cX4_say 39 = .ok (.aload_n 0, 1) := by decide +kernel
theorem dX4_say_40 : decode cX4_say 40 = .ok (.dup, 1) := by decide +kernel
theorem dX4_say_41 : decode cX4_say 41 = .ok (.getfield 97, 3) := by decide +kernel
theorem dX4_say_44 : decode cX4_say 44 = .ok (.iconst 1, 1) := by decide +kernel
theorem dX4_say_45 : decode cX4_say 45 = .ok (.iadd, 1) := by decide +kernel
theorem dX4_say_46 : decode cX4_say 46 = .ok (.putfield 97, 3) := by decide +kernel
theorem dX4_say_49 : decode cX4_say 49 = .ok (.aload_n 0, 1) := by decide +kernel
theorem dX4_say_50 : decode cX4_say 50 = .ok (.getfield 97, 3) := by decide +kernel
theorem dX4_say_53 : decode cX4_say 53 = .ok (.ireturn, 1) := by decide +kernel
theorem dX4_wipe_0 : decode cX4_wipe 0 = .ok (.aload_n 0, 1) := by decide +kernel
theorem dX4_wipe_1 : decode cX4_wipe 1 = .ok (.getfield 97, 3) := by decide +kernel
theorem dX4_wipe_4 : decode cX4_wipe 4 = .ok (.istore_n 1, 1) := by decide +kernel
theorem dX4_wipe_5 : decode cX4_wipe 5 = .ok (.aload_n 0, 1) := by decide +kernel
theorem dX4_wipe_6 : decode cX4_wipe 6 = .ok (.iconst 0, 1) := by decide +kernel
theorem dX4_wipe_7 : decode cX4_wipe 7 = .ok (.putfield 97, 3) := by decide +kernel
theorem dX4_wipe_10 : decode cX4_wipe 10 = .ok (.iload_n 1, 1) := by decide +kernel
theorem dX4_wipe_11 : decode cX4_wipe 11 = .ok (.ireturn, 1) := by decide +kernel
theorem dX4_fault_0 : decode cX4_fault 0 = .ok (.iconst 0, 1) := by decide +kernel
theorem dX4_fault_1 : decode cX4_fault 1 = .ok (.istore_n 1, 1) := by decide +kernel
theorem dX4_fault_2 : decode cX4_fault 2 = .ok (.iconst 0, 1) := by decide +kernel
theorem dX4_fault_3 : decode cX4_fault 3 = .ok (.istore_n 2, 1) := by decide +kernel
theorem dX4_fault_4 : decode cX4_fault 4 = .ok (.iload_n 2, 1) := by decide +kernel
theorem dX4_fault_5 : decode cX4_fault 5 = .ok (.aload_n 0, 1) := by decide +kernel
theorem dX4_fault_6 : decode cX4_fault 6 = .ok (.getfield 97, 3) := by decide +kernel
theorem dX4_fault_9 : decode cX4_fault 9 = .ok (.if_icmp .ge 44, 3) := by decide +kernel
theorem dX4_fault_12 : decode cX4_fault 12 = .ok (.aload_n 0, 1) := by decide +kernel
theorem dX4_fault_13 : decode cX4_fault 13 = .ok (.getfield 22, 3) := by decide +kernel
theorem dX4_fault_16 : decode cX4_fault 16 = .ok (.iload_n 2, 1) := by decide +kernel
theorem dX4_fault_17 : decode cX4_fault 17 = .ok (.iaload, 1) := by decide +kernel
theorem dX4_fault_18 : decode cX4_fault 18 = .ok (.bipush 65, 2) := by decide +kernel
theorem dX4_fault_20 : decode cX4_fault 20 = .ok (.isub, 1) := by decide +kernel
theorem dX4_fault_21 : decode cX4_fault 21 = .ok (.istore_n 3, 1) := by decide +kernel
theorem dX4_fault_22 : decode cX4_fault 22 = .ok (.aload_n 0, 1) := by decide +kernel
theorem dX4_fault_23 : decode cX4_fault 23 = .ok (.iload_n 3, 1) := by decide +kernel
theorem dX4_fault_24 : decode cX4_fault 24 = .ok (.invokevirtual 80, 3) := by decide +kernel
theorem dX4_fault_27 : decode cX4_fault 27 = .ok (.ifCond .eq 12, 3) := by decide +kernel
theorem dX4_fault_30 : decode cX4_fault 30 = .ok (.iload_n 1, 1) := by decide +kernel
theorem dX4_fault_31 : decode cX4_fault 31 = .ok (.iload_n 3, 1) := by decide +kernel
theorem dX4_fault_32 : decode cX4_fault 32 = .ok (.ishr, 1) := by decide +kernel
theorem dX4_fault_33 : decode cX4_fault 33 = .ok (.iconst 1, 1) := by decide +kernel
theorem dX4_fault_34 : decode cX4_fault 34 = .ok (.iand, 1) := by decide +kernel
theorem dX4_fault_35 : decode cX4_fault 35 = .ok (.iconst 1, 1) := by decide +kernel
theorem dX4_fault_36 : decode cX4_fault 36 = .ok (.if_icmp .ne 5, 3) := by decide +kernel
theorem dX4_fault_39 : decode cX4_fault 39 = .ok (.iload_n 2, 1) := by decide +kernel
theorem dX4_fault_40 : decode cX4_fault 40 = .ok (.ireturn, 1) := by decide +kernel
theorem dX4_fault_41 : decode cX4_fault 41 = .ok (.iload_n 1, 1) := by decide +kernel
theorem dX4_fault_42 : decode cX4_fault 42 = .ok (.iconst 1, 1) := by decide +kernel
theorem dX4_fault_43 : decode cX4_fault 43 = .ok (.iload_n 3, 1) := by decide +kernel
theorem dX4_fault_44 : decode cX4_fault 44 = .ok (.ishl, 1) := by decide +kernel
theorem dX4_fault_45 : decode cX4_fault 45 = .ok (.ior, 1) := by decide +kernel
theorem dX4_fault_46 : decode cX4_fault 46 = .ok (.istore_n 1, 1) := by decide +kernel
theorem dX4_fault_47 : decode cX4_fault 47 = .ok (.iinc 2 1, 3) := by decide +kernel
theorem dX4_fault_50 : decode cX4_fault 50 = .ok (.goto (-46), 3) := by decide +kernel
theorem dX4_fault_53 : decode cX4_fault 53 = .ok (.bipush (-6), 2) := by decide +kernel
theorem dX4_fault_55 : decode cX4_fault 55 = .ok (.ireturn, 1) := by decide +kernel
theorem dX4_layNow_0 : decode cX4_layNow 0 = .ok (.iconst 0, 1) := by decide +kernel
theorem dX4_layNow_1 : decode cX4_layNow 1 = .ok (.istore_n 1, 1) := by decide +kernel
theorem dX4_layNow_2 : decode cX4_layNow 2 = .ok (.iload_n 1, 1) := by decide +kernel
theorem dX4_layNow_3 : decode cX4_layNow 3 = .ok (.bipush 8, 2) := by decide +kernel
theorem dX4_layNow_5 : decode cX4_layNow 5 = .ok (.if_icmp .ge 33, 3) := by decide +kernel
theorem dX4_layNow_8 : decode cX4_layNow 8 = .ok (.aload_n 0, 1) := by decide +kernel
theorem dX4_layNow_9 : decode cX4_layNow 9 = .ok (.getfield 25, 3) := by decide +kernel
theorem dX4_layNow_12 : decode cX4_layNow 12 = .ok (.iload_n 1, 1) := by decide +kernel
theorem dX4_layNow_13 : decode cX4_layNow 13 = .ok (.aload_n 0, 1) := by decide +kernel
theorem dX4_layNow_14 : decode cX4_layNow 14 = .ok (.getfield 7, 3) := by decide +kernel
theorem dX4_layNow_17 : decode cX4_layNow 17 = .ok (.iload_n 1, 1) := by decide +kernel
theorem dX4_layNow_18 : decode cX4_layNow 18 = .ok (.iaload, 1) := by decide +kernel
theorem dX4_layNow_19 : decode cX4_layNow 19 = .ok (.iastore, 1) := by decide +kernel
theorem dX4_layNow_20 : decode cX4_layNow 20 = .ok (.aload_n 0, 1) := by decide +kernel
theorem dX4_layNow_21 : decode cX4_layNow 21 = .ok (.getfield 28, 3) := by decide +kernel
theorem dX4_layNow_24 : decode cX4_layNow 24 = .ok (.iload_n 1, 1) := by decide +kernel
theorem dX4_layNow_25 : decode cX4_layNow 25 = .ok (.aload_n 0, 1) := by decide +kernel
theorem dX4_layNow_26 : decode cX4_layNow 26 = .ok (.getfield 13, 3) := by decide +kernel
theorem dX4_layNow_29 : decode cX4_layNow 29 = .ok (.iload_n 1, 1) := by decide +kernel
theorem dX4_layNow_30 : decode cX4_layNow 30 = .ok (.iaload, 1) := by decide +kernel
theorem dX4_layNow_31 : decode cX4_layNow 31 = .ok (.iastore, 1) := by decide +kernel
theorem dX4_layNow_32 : decode cX4_layNow 32 = .ok (.iinc 1 1, 3) := by decide +kernel
theorem dX4_layNow_35 : decode cX4_layNow 35 = .ok (.goto (-33), 3) := by decide +kernel
theorem dX4_layNow_38 : decode cX4_layNow 38 = .ok (.aload_n 0, 1) := by decide +kernel
theorem dX4_layNow_39 : decode cX4_layNow 39 = .ok (.aload_n 0, 1) := by decide +kernel
theorem dX4_layNow_40 : decode cX4_layNow 40 = .ok (.getfield 54, 3) := by decide +kernel
theorem dX4_layNow_43 : decode cX4_layNow 43 = .ok (.putfield 100, 3) := by decide +kernel
theorem dX4_layNow_46 : decode cX4_layNow 46 = .ok (.aload_n 0, 1) := by decide +kernel
theorem dX4_layNow_47 : decode cX4_layNow 47 = .ok (.aload_n 0, 1) := by decide +kernel
theorem dX4_layNow_48 : decode cX4_layNow 48 = .ok (.getfield 87, 3) := by decide +kernel
theorem dX4_layNow_51 : decode cX4_layNow 51 = .ok (.putfield 103, 3) := by decide +kernel
theorem dX4_layNow_54 : decode cX4_layNow 54 = .ok (.return_, 1) := by decide +kernel
theorem dX4_claimOf_0 : decode cX4_claimOf 0 = .ok (.aload_n 0, 1) := by decide +kernel
theorem dX4_claimOf_1 : decode cX4_claimOf 1 = .ok (.getfield 90, 3) := by decide +kernel
theorem dX4_claimOf_4 : decode cX4_claimOf 4 = .ok (.iconst 1, 1) := by decide +kernel
theorem dX4_claimOf_5 : decode cX4_claimOf 5 = .ok (.if_icmp .ne 24, 3) := by decide +kernel
theorem dX4_claimOf_8 : decode cX4_claimOf 8 = .ok (.aload_n 0, 1) := by decide +kernel
theorem dX4_claimOf_9 : decode cX4_claimOf 9 = .ok (.getfield 19, 3) := by decide +kernel
theorem dX4_claimOf_12 : decode cX4_claimOf 12 = .ok (.iload_n 1, 1) := by decide +kernel
theorem dX4_claimOf_13 : decode cX4_claimOf 13 = .ok (.iaload, 1) := by decide +kernel
theorem dX4_claimOf_14 : decode cX4_claimOf 14 = .ok (.iconst 1, 1) := by decide +kernel
theorem dX4_claimOf_15 : decode cX4_claimOf 15 = .ok (.if_icmp .ne 14, 3) := by decide +kernel
theorem dX4_claimOf_18 : decode cX4_claimOf 18 = .ok (.aload_n 0, 1) := by decide +kernel
theorem dX4_claimOf_19 : decode cX4_claimOf 19 = .ok (.getfield 25, 3) := by decide +kernel
theorem dX4_claimOf_22 : decode cX4_claimOf 22 = .ok (.iload_n 1, 1) := by decide +kernel
theorem dX4_claimOf_23 : decode cX4_claimOf 23 = .ok (.iaload, 1) := by decide +kernel
theorem dX4_claimOf_24 : decode cX4_claimOf 24 = .ok (.iconst 2, 1) := by decide +kernel
theorem dX4_claimOf_25 : decode cX4_claimOf 25 = .ok (.idiv, 1) := by decide +kernel
theorem dX4_claimOf_26 : decode cX4_claimOf 26 = .ok (.goto 9, 3) := by decide +kernel
theorem dX4_claimOf_29 : decode cX4_claimOf 29 = .ok (.aload_n 0, 1) := by decide +kernel
theorem dX4_claimOf_30 : decode cX4_claimOf 30 = .ok (.getfield 25, 3) := by decide +kernel
theorem dX4_claimOf_33 : decode cX4_claimOf 33 = .ok (.iload_n 1, 1) := by decide +kernel
theorem dX4_claimOf_34 : decode cX4_claimOf 34 = .ok (.iaload, 1) := by decide +kernel
theorem dX4_claimOf_35 : decode cX4_claimOf 35 = .ok (.istore_n 3, 1) := by decide +kernel
theorem dX4_claimOf_36 : decode cX4_claimOf 36 = .ok (.aload_n 0, 1) := by decide +kernel
theorem dX4_claimOf_37 : decode cX4_claimOf 37 = .ok (.getfield 100, 3) := by decide +kernel
theorem dX4_claimOf_40 : decode cX4_claimOf 40 = .ok (.iload_n 3, 1) := by decide +kernel
theorem dX4_claimOf_41 : decode cX4_claimOf 41 = .ok (.imul, 1) := by decide +kernel
theorem dX4_claimOf_42 : decode cX4_claimOf 42 = .ok (.aload_n 0, 1) := by decide +kernel
theorem dX4_claimOf_43 : decode cX4_claimOf 43 = .ok (.getfield 103, 3) := by decide +kernel
theorem dX4_claimOf_46 : decode cX4_claimOf 46 = .ok (.iload_n 2, 1) := by decide +kernel
theorem dX4_claimOf_47 : decode cX4_claimOf 47 = .ok (.aload_n 0, 1) := by decide +kernel
theorem dX4_claimOf_48 : decode cX4_claimOf 48 = .ok (.getfield 28, 3) := by decide +kernel
theorem dX4_claimOf_51 : decode cX4_claimOf 51 = .ok (.iload_n 1, 1) := by decide +kernel
theorem dX4_claimOf_52 : decode cX4_claimOf 52 = .ok (.iaload, 1) := by decide +kernel
theorem dX4_claimOf_53 : decode cX4_claimOf 53 = .ok (.isub, 1) := by decide +kernel
theorem dX4_claimOf_54 : decode cX4_claimOf 54 = .ok (.imul, 1) := by decide +kernel
theorem dX4_claimOf_55 : decode cX4_claimOf 55 = .ok (.iadd, 1) := by decide +kernel
theorem dX4_claimOf_56 : decode cX4_claimOf 56 = .ok (.ireturn, 1) := by decide +kernel
theorem dX4_isAhead_0 : decode cX4_isAhead 0 = .ok (.aload_n 0, 1) := by decide +kernel
theorem dX4_isAhead_1 : decode cX4_isAhead 1 = .ok (.iload_n 1, 1) := by decide +kernel
theorem dX4_isAhead_2 : decode cX4_isAhead 2 = .ok (.iload_n 3, 1) := by decide +kernel
theorem dX4_isAhead_3 : decode cX4_isAhead 3 = .ok (.invokevirtual 106, 3) := by decide +kernel
theorem dX4_isAhead_6 : decode cX4_isAhead 6 = .ok (.istore 4, 2) := by decide +kernel
theorem dX4_isAhead_8 : decode cX4_isAhead 8 = .ok (.aload_n 0, 1) := by decide +kernel
theorem dX4_isAhead_9 : decode cX4_isAhead 9 = .ok (.iload_n 2, 1) := by decide +kernel
theorem dX4_isAhead_10 : decode cX4_isAhead 10 = .ok (.iload_n 3, 1) := by decide +kernel
theorem dX4_isAhead_11 : decode cX4_isAhead 11 = .ok (.invokevirtual 106, 3) := by decide +kernel
theorem dX4_isAhead_14 : decode cX4_isAhead 14 = .ok (.istore 5, 2) := by decide +kernel
theorem dX4_isAhead_16 : decode cX4_isAhead 16 = .ok (.iload 4, 2) := by decide +kernel
theorem dX4_isAhead_18 : decode cX4_isAhead 18 = .ok (.iload 5, 2) := by decide +kernel
theorem dX4_isAhead_20 : decode cX4_isAhead 20 = .ok (.if_icmp .eq 18, 3) := by decide +kernel
theorem dX4_isAhead_23 : decode cX4_isAhead 23 = .ok (.iload 4, 2) := by decide +kernel
theorem dX4_isAhead_25 : decode cX4_isAhead 25 = .ok (.iload 5, 2) := by decide +kernel
theorem dX4_isAhead_27 : decode cX4_isAhead 27 = .ok (.if_icmp .le 7, 3) := by decide +kernel
theorem dX4_isAhead_30 : decode cX4_isAhead 30 = .ok (.iconst 1, 1) := by decide +kernel
theorem dX4_isAhead_31 : decode cX4_isAhead 31 = .ok (.goto 55, 3) := by decide +kernel
theorem dX4_isAhead_34 : decode cX4_isAhead 34 = .ok (.iconst 0, 1) := by decide +kernel
theorem dX4_isAhead_35 : decode cX4_isAhead 35 = .ok (.goto 51, 3) := by decide +kernel
theorem dX4_isAhead_38 : decode cX4_isAhead 38 = .ok (.aload_n 0, 1) := by decide +kernel
theorem dX4_isAhead_39 : decode cX4_isAhead 39 = .ok (.getfield 28, 3) := by decide +kernel
theorem dX4_isAhead_42 : decode cX4_isAhead 42 = .ok (.iload_n 1, 1) := by decide +kernel
theorem dX4_isAhead_43 : decode cX4_isAhead 43 = .ok (.iaload, 1) := by decide +kernel
theorem dX4_isAhead_44 : decode cX4_isAhead 44 = .ok (.aload_n 0, 1) := by decide +kernel
theorem dX4_isAhead_45 : decode cX4_isAhead 45 = .ok (.getfield 28, 3) := by decide +kernel
theorem dX4_isAhead_48 : decode cX4_isAhead 48 = .ok (.iload_n 2, 1) := by decide +kernel
theorem dX4_isAhead_49 : decode cX4_isAhead 49 = .ok (.iaload, 1) := by decide +kernel
theorem dX4_isAhead_50 : decode cX4_isAhead 50 = .ok (.if_icmp .eq 26, 3) := by decide +kernel
theorem dX4_isAhead_53 : decode cX4_isAhead 53 = .ok (.aload_n 0, 1) := by decide +kernel
theorem dX4_isAhead_54 : decode cX4_isAhead 54 = .ok (.getfield 28, 3) := by decide +kernel
theorem dX4_isAhead_57 : decode cX4_isAhead 57 = .ok (.iload_n 1, 1) := by decide +kernel
theorem dX4_isAhead_58 : decode cX4_isAhead 58 = .ok (.iaload, 1) := by decide +kernel
theorem dX4_isAhead_59 : decode cX4_isAhead 59 = .ok (.aload_n 0, 1) := by decide +kernel
theorem dX4_isAhead_60 : decode cX4_isAhead 60 = .ok (.getfield 28, 3) := by decide +kernel
theorem dX4_isAhead_63 : decode cX4_isAhead 63 = .ok (.iload_n 2, 1) := by decide +kernel
theorem dX4_isAhead_64 : decode cX4_isAhead 64 = .ok (.iaload, 1) := by decide +kernel
theorem dX4_isAhead_65 : decode cX4_isAhead 65 = .ok (.if_icmp .ge 7, 3) := by decide +kernel
theorem dX4_isAhead_68 : decode cX4_isAhead 68 = .ok (.iconst 1, 1) := by decide +kernel
theorem dX4_isAhead_69 : decode cX4_isAhead 69 = .ok (.goto 17, 3) := by decide +kernel
theorem dX4_isAhead_72 : decode cX4_isAhead 72 = .ok (.iconst 0, 1) := by decide +kernel
theorem dX4_isAhead_73 : decode cX4_isAhead 73 = .ok (.goto 13, 3) := by decide +kernel
theorem dX4_isAhead_76 : decode cX4_isAhead 76 = .ok (.iload_n 1, 1) := by decide +kernel
theorem dX4_isAhead_77 : decode cX4_isAhead 77 = .ok (.iload_n 2, 1) := by decide +kernel
theorem dX4_isAhead_78 : decode cX4_isAhead 78 = .ok (.if_icmp .ge 7, 3) := by decide +kernel
theorem dX4_isAhead_81 : decode cX4_isAhead 81 = .ok (.iconst 1, 1) := by decide +kernel
theorem dX4_isAhead_82 : decode cX4_isAhead 82 = .ok (.goto 4, 3) := by decide +kernel
theorem dX4_isAhead_85 : decode cX4_isAhead 85 = .ok (.iconst 0, 1) := by decide +kernel
theorem dX4_isAhead_86 : decode cX4_isAhead 86 = .ok (.ireturn, 1) := by decide +kernel
theorem dX4_nextOf_0 : decode cX4_nextOf 0 = .ok (.bipush (-6), 2) := by decide +kernel
theorem dX4_nextOf_2 : decode cX4_nextOf 2 = .ok (.istore_n 3, 1) := by decide +kernel
theorem dX4_nextOf_3 : decode cX4_nextOf 3 = .ok (.iconst 0, 1) := by decide +kernel
theorem dX4_nextOf_4 : decode cX4_nextOf 4 = .ok (.istore 4, 2) := by decide +kernel
theorem dX4_nextOf_6 : decode cX4_nextOf 6 = .ok (.iload 4, 2) := by decide +kernel
theorem dX4_nextOf_8 : decode cX4_nextOf 8 = .ok (.bipush 8, 2) := by decide +kernel
theorem dX4_nextOf_10 : decode cX4_nextOf 10 = .ok (.if_icmp .ge 64, 3) := by decide +kernel
theorem dX4_nextOf_13 : decode cX4_nextOf 13 = .ok (.iload_n 1, 1) := by decide +kernel
theorem dX4_nextOf_14 : decode cX4_nextOf 14 = .ok (.iload 4, 2) := by decide +kernel
theorem dX4_nextOf_16 : decode cX4_nextOf 16 = .ok (.ishr, 1) := by decide +kernel
theorem dX4_nextOf_17 : decode cX4_nextOf 17 = .ok (.iconst 1, 1) := by decide +kernel
theorem dX4_nextOf_18 : decode cX4_nextOf 18 = .ok (.iand, 1) := by decide +kernel
theorem dX4_nextOf_19 : decode cX4_nextOf 19 = .ok (.iconst 1, 1) := by decide +kernel
theorem dX4_nextOf_20 : decode cX4_nextOf 20 = .ok (.if_icmp .ne 18, 3) := by decide +kernel
theorem dX4_nextOf_23 : decode cX4_nextOf 23 = .ok (.aload_n 0, 1) := by decide +kernel
theorem dX4_nextOf_24 : decode cX4_nextOf 24 = .ok (.getfield 28, 3) := by decide +kernel
theorem dX4_nextOf_27 : decode cX4_nextOf 27 = .ok (.iload 4, 2) := by decide +kernel
theorem dX4_nextOf_29 : decode cX4_nextOf 29 = .ok (.iaload, 1) := by decide +kernel
theorem dX4_nextOf_30 : decode cX4_nextOf 30 = .ok (.iload_n 2, 1) := by decide +kernel
theorem dX4_nextOf_31 : decode cX4_nextOf 31 = .ok (.if_icmp .gt 7, 3) := by decide +kernel
theorem dX4_nextOf_34 : decode cX4_nextOf 34 = .ok (.iconst 1, 1) := by decide +kernel
theorem dX4_nextOf_35 : decode cX4_nextOf 35 = .ok (.goto 4, 3) := by decide +kernel
theorem dX4_nextOf_38 : decode cX4_nextOf 38 = .ok (.iconst 0, 1) := by decide +kernel
theorem dX4_nextOf_39 : decode cX4_nextOf 39 = .ok (.istore 5, 2) := by decide +kernel
theorem dX4_nextOf_41 : decode cX4_nextOf 41 = .ok (.iload 5, 2) := by decide +kernel
theorem dX4_nextOf_43 : decode cX4_nextOf 43 = .ok (.ifCond .eq 23, 3) := by decide +kernel
theorem dX4_nextOf_46 : decode cX4_nextOf 46 = .ok (.iload_n 3, 1) := by decide +kernel
theorem dX4_nextOf_47 : decode cX4_nextOf 47 = .ok (.ifCond .lt 14, 3) := by decide +kernel
theorem dX4_nextOf_50 : decode cX4_nextOf 50 = .ok (.aload_n 0, 1) := by decide +kernel
theorem dX4_nextOf_51 : decode cX4_nextOf 51 = .ok (.iload 4, 2) := by decide +kernel
theorem dX4_nextOf_53 : decode cX4_nextOf 53 = .ok (.iload_n 3, 1) := by decide +kernel
theorem dX4_nextOf_54 : decode cX4_nextOf 54 = .ok (.iload_n 2, 1) := by decide +kernel
theorem dX4_nextOf_55 : decode cX4_nextOf 55 = .ok (.invokevirtual 110, 3) := by decide +kernel
theorem dX4_nextOf_58 : decode cX4_nextOf 58 = .ok (.ifCond .eq 8, 3) := by decide +kernel
theorem dX4_nextOf_61 : decode cX4_nextOf 61 = .ok (.iload 4, 2) := by decide +kernel
theorem dX4_nextOf_63 : decode cX4_nextOf 63 = .ok (.goto 4, 3) := by decide +kernel
theorem dX4_nextOf_66 : decode cX4_nextOf 66 = .ok (.iload_n 3, 1) := by decide +kernel
theorem dX4_nextOf_67 : decode cX4_nextOf 67 = .ok (.istore_n 3, 1) := by decide +kernel
theorem dX4_nextOf_68 : decode cX4_nextOf 68 = .ok (.iinc 4 1, 3) := by decide +kernel
theorem dX4_nextOf_71 : decode cX4_nextOf 71 = .ok (.goto (-65), 3) := by decide +kernel
theorem dX4_nextOf_74 : decode cX4_nextOf 74 = .ok (.iload_n 3, 1) := by decide +kernel
theorem dX4_nextOf_75 : decode cX4_nextOf 75 = .ok (.ireturn, 1) := by decide +kernel
theorem dX4_soonest_0 : decode cX4_soonest 0 = .ok (.ldc 114, 2) := by decide +kernel
theorem dX4_soonest_2 : decode cX4_soonest 2 = .ok (.istore_n 2, 1) := by decide +kernel
theorem dX4_soonest_3 : decode cX4_soonest 3 = .ok (.iconst 0, 1) := by decide +kernel
theorem dX4_soonest_4 : decode cX4_soonest 4 = .ok (.istore_n 3, 1) := by decide +kernel
theorem dX4_soonest_5 : decode cX4_soonest 5 = .ok (.iload_n 3, 1) := by decide +kernel
theorem dX4_soonest_6 : decode cX4_soonest 6 = .ok (.bipush 8, 2) := by decide +kernel
theorem dX4_soonest_8 : decode cX4_soonest 8 = .ok (.if_icmp .ge 39, 3) := by decide +kernel
theorem dX4_soonest_11 : decode cX4_soonest 11 = .ok (.iload_n 1, 1) := by decide +kernel
theorem dX4_soonest_12 : decode cX4_soonest 12 = .ok (.iload_n 3, 1) := by decide +kernel
theorem dX4_soonest_13 : decode cX4_soonest 13 = .ok (.ishr, 1) := by decide +kernel
theorem dX4_soonest_14 : decode cX4_soonest 14 = .ok (.iconst 1, 1) := by decide +kernel
theorem dX4_soonest_15 : decode cX4_soonest 15 = .ok (.iand, 1) := by decide +kernel
theorem dX4_soonest_16 : decode cX4_soonest 16 = .ok (.iconst 1, 1) := by decide +kernel
theorem dX4_soonest_17 : decode cX4_soonest 17 = .ok (.if_icmp .ne 22, 3) := by decide +kernel
theorem dX4_soonest_20 : decode cX4_soonest 20 = .ok (.aload_n 0, 1) := by decide +kernel
theorem dX4_soonest_21 : decode cX4_soonest 21 = .ok (.getfield 28, 3) := by decide +kernel
theorem dX4_soonest_24 : decode cX4_soonest 24 = .ok (.iload_n 3, 1) := by decide +kernel
theorem dX4_soonest_25 : decode cX4_soonest 25 = .ok (.iaload, 1) := by decide +kernel
theorem dX4_soonest_26 : decode cX4_soonest 26 = .ok (.iload_n 2, 1) := by decide +kernel
theorem dX4_soonest_27 : decode cX4_soonest 27 = .ok (.if_icmp .ge 12, 3) := by decide +kernel
theorem dX4_soonest_30 : decode cX4_soonest 30 = .ok (.aload_n 0, 1) := by decide +kernel
theorem dX4_soonest_31 : decode cX4_soonest 31 = .ok (.getfield 28, 3) := by decide +kernel
theorem dX4_soonest_34 : decode cX4_soonest 34 = .ok (.iload_n 3, 1) := by decide +kernel
theorem dX4_soonest_35 : decode cX4_soonest 35 = .ok (.iaload, 1) := by decide +kernel
theorem dX4_soonest_36 : decode cX4_soonest 36 = .ok (.goto 4, 3) := by decide +kernel
theorem dX4_soonest_39 : decode cX4_soonest 39 = .ok (.iload_n 2, 1) := by decide +kernel
theorem dX4_soonest_40 : decode cX4_soonest 40 = .ok (.istore_n 2, 1) := by decide +kernel
theorem dX4_soonest_41 : decode cX4_soonest 41 = .ok (.iinc 3 1, 3) := by decide +kernel
theorem dX4_soonest_44 : decode cX4_soonest 44 = .ok (.goto (-39), 3) := by decide +kernel
theorem dX4_soonest_47 : decode cX4_soonest 47 = .ok (.iload_n 2, 1) := by decide +kernel
theorem dX4_soonest_48 : decode cX4_soonest 48 = .ok (.ireturn, 1) := by decide +kernel
theorem dX4_go_0 : decode cX4_go 0 = .ok (.iload_n 1, 1) := by decide +kernel
theorem dX4_go_1 : decode cX4_go 1 = .ok (.istore_n 3, 1) := by decide +kernel
theorem dX4_go_2 : decode cX4_go 2 = .ok (.iconst 0, 1) := by decide +kernel
theorem dX4_go_3 : decode cX4_go 3 = .ok (.istore 4, 2) := by decide +kernel
theorem dX4_go_5 : decode cX4_go 5 = .ok (.iload_n 2, 1) := by decide +kernel
theorem dX4_go_6 : decode cX4_go 6 = .ok (.istore 5, 2) := by decide +kernel
theorem dX4_go_8 : decode cX4_go 8 = .ok (.aload_n 0, 1) := by decide +kernel
theorem dX4_go_9 : decode cX4_go 9 = .ok (.iconst 0, 1) := by decide +kernel
theorem dX4_go_10 : decode cX4_go 10 = .ok (.putfield 115, 3) := by decide +kernel
theorem dX4_go_13 : decode cX4_go 13 = .ok (.iload_n 3, 1) := by decide +kernel
theorem dX4_go_14 : decode cX4_go 14 = .ok (.ifCond .eq 146, 3) := by decide +kernel
theorem dX4_go_17 : decode cX4_go 17 = .ok (.aload_n 0, 1) := by decide +kernel
theorem dX4_go_18 : decode cX4_go 18 = .ok (.iload_n 3, 1) := by decide +kernel
theorem dX4_go_19 : decode cX4_go 19 = .ok (.iload 4, 2) := by decide +kernel
theorem dX4_go_21 : decode cX4_go 21 = .ok (.invokevirtual 118, 3) := by decide +kernel
theorem dX4_go_24 : decode cX4_go 24 = .ok (.istore 6, 2) := by decide +kernel
theorem dX4_go_26 : decode cX4_go 26 = .ok (.iload 6, 2) := by decide +kernel
theorem dX4_go_28 : decode cX4_go 28 = .ok (.ifCond .ge 13, 3) := by decide +kernel
theorem dX4_go_31 : decode cX4_go 31 = .ok (.aload_n 0, 1) := by decide +kernel
theorem dX4_go_32 : decode cX4_go 32 = .ok (.iload_n 3, 1) := by decide +kernel
theorem dX4_go_33 : decode cX4_go 33 = .ok (.invokevirtual 121, 3) := by decide +kernel
theorem dX4_go_36 : decode cX4_go 36 = .ok (.istore 4, 2) := by decide +kernel
theorem dX4_go_38 : decode cX4_go 38 = .ok (.goto 119, 3) := by decide +kernel
theorem dX4_go_41 : decode cX4_go 41 = .ok (.aload_n 0, 1) := by decide +kernel
theorem dX4_go_42 : decode cX4_go 42 = .ok (.getfield 37, 3) := by decide +kernel
theorem dX4_go_45 : decode cX4_go 45 = .ok (.iload 6, 2) := by decide +kernel
theorem dX4_go_47 : decode cX4_go 47 = .ok (.aload_n 0, 1) := by decide +kernel
theorem dX4_go_48 : decode cX4_go 48 = .ok (.getfield 16, 3) := by decide +kernel
theorem dX4_go_51 : decode cX4_go 51 = .ok (.iload 6, 2) := by decide +kernel
theorem dX4_go_53 : decode cX4_go 53 = .ok (.iaload, 1) := by decide +kernel
theorem dX4_go_54 : decode cX4_go 54 = .ok (.iload 5, 2) := by decide +kernel
theorem dX4_go_56 : decode cX4_go 56 = .ok (.if_icmp .ge 13, 3) := by decide +kernel
theorem dX4_go_59 : decode cX4_go 59 = .ok (.aload_n 0, 1) := by decide +kernel
theorem dX4_go_60 : decode cX4_go 60 = .ok (.getfield 16, 3) := by decide +kernel
theorem dX4_go_63 : decode cX4_go 63 = .ok (.iload 6, 2) := by decide +kernel
theorem dX4_go_65 : decode cX4_go 65 = .ok (.iaload, 1) := by decide +kernel
theorem dX4_go_66 : decode cX4_go 66 = .ok (.goto 5, 3) := by decide +kernel
theorem dX4_go_69 : decode cX4_go 69 = .ok (.iload 5, 2) := by decide +kernel
theorem dX4_go_71 : decode cX4_go 71 = .ok (.iastore, 1) := by decide +kernel
theorem dX4_go_72 : decode cX4_go 72 = .ok (.iload 5, 2) := by decide +kernel
theorem dX4_go_74 : decode cX4_go 74 = .ok (.aload_n 0, 1) := by decide +kernel
theorem dX4_go_75 : decode cX4_go 75 = .ok (.getfield 37, 3) := by decide +kernel
theorem dX4_go_78 : decode cX4_go 78 = .ok (.iload 6, 2) := by decide +kernel
theorem dX4_go_80 : decode cX4_go 80 = .ok (.iaload, 1) := by decide +kernel
theorem dX4_go_81 : decode cX4_go 81 = .ok (.isub, 1) := by decide +kernel
theorem dX4_go_82 : decode cX4_go 82 = .ok (.istore 5, 2) := by decide +kernel
theorem dX4_go_84 : decode cX4_go 84 = .ok (.aload_n 0, 1) := by decide +kernel
theorem dX4_go_85 : decode cX4_go 85 = .ok (.getfield 31, 3) := by decide +kernel
theorem dX4_go_88 : decode cX4_go 88 = .ok (.iload 6, 2) := by decide +kernel
theorem dX4_go_90 : decode cX4_go 90 = .ok (.iload 4, 2) := by decide +kernel
theorem dX4_go_92 : decode cX4_go 92 = .ok (.aload_n 0, 1) := by decide +kernel
theorem dX4_go_93 : decode cX4_go 93 = .ok (.getfield 28, 3) := by decide +kernel
theorem dX4_go_96 : decode cX4_go 96 = .ok (.iload 6, 2) := by decide +kernel
theorem dX4_go_98 : decode cX4_go 98 = .ok (.iaload, 1) := by decide +kernel
theorem dX4_go_99 : decode cX4_go 99 = .ok (.isub, 1) := by decide +kernel
theorem dX4_go_100 : decode cX4_go 100 = .ok (.iastore, 1) := by decide +kernel
theorem dX4_go_101 : decode cX4_go 101 = .ok (.iload 4, 2) := by decide +kernel
theorem dX4_go_103 : decode cX4_go 103 = .ok (.aload_n 0, 1) := by decide +kernel
theorem dX4_go_104 : decode cX4_go 104 = .ok (.getfield 50, 3) := by decide +kernel
theorem dX4_go_107 : decode cX4_go 107 = .ok (.aload_n 0, 1) := by decide +kernel
theorem dX4_go_108 : decode cX4_go 108 = .ok (.getfield 37, 3) := by decide +kernel
theorem dX4_go_111 : decode cX4_go 111 = .ok (.iload 6, 2) := by decide +kernel
theorem dX4_go_113 : decode cX4_go 113 = .ok (.iaload, 1) := by decide +kernel
theorem dX4_go_114 : decode cX4_go 114 = .ok (.imul, 1) := by decide +kernel
theorem dX4_go_115 : decode cX4_go 115 = .ok (.iadd, 1) := by decide +kernel
theorem dX4_go_116 : decode cX4_go 116 = .ok (.istore 4, 2) := by decide +kernel
theorem dX4_go_118 : decode cX4_go 118 = .ok (.aload_n 0, 1) := by decide +kernel
theorem dX4_go_119 : decode cX4_go 119 = .ok (.getfield 34, 3) := by decide +kernel
theorem dX4_go_122 : decode cX4_go 122 = .ok (.iload 6, 2) := by decide +kernel
theorem dX4_go_124 : decode cX4_go 124 = .ok (.iload 4, 2) := by decide +kernel
theorem dX4_go_126 : decode cX4_go 126 = .ok (.iastore, 1) := by decide +kernel
theorem dX4_go_127 : decode cX4_go 127 = .ok (.aload_n 0, 1) := by decide +kernel
theorem dX4_go_128 : decode cX4_go 128 = .ok (.getfield 40, 3) := by decide +kernel
theorem dX4_go_131 : decode cX4_go 131 = .ok (.aload_n 0, 1) := by decide +kernel
theorem dX4_go_132 : decode cX4_go 132 = .ok (.getfield 115, 3) := by decide +kernel
theorem dX4_go_135 : decode cX4_go 135 = .ok (.iload 6, 2) := by decide +kernel
theorem dX4_go_137 : decode cX4_go 137 = .ok (.iastore, 1) := by decide +kernel
theorem dX4_go_138 : decode cX4_go 138 = .ok (.aload_n 0, 1) := by decide +kernel
theorem dX4_go_139 : decode cX4_go 139 = .ok (.dup, 1) := by decide +kernel
theorem dX4_go_140 : decode cX4_go 140 = .ok (.getfield 115, 3) := by decide +kernel
theorem dX4_go_143 : decode cX4_go 143 = .ok (.iconst 1, 1) := by decide +kernel
theorem dX4_go_144 : decode cX4_go 144 = .ok (.iadd, 1) := by decide +kernel
theorem dX4_go_145 : decode cX4_go 145 = .ok (.putfield 115, 3) := by decide +kernel
theorem dX4_go_148 : decode cX4_go 148 = .ok (.iload_n 3, 1) := by decide +kernel
theorem dX4_go_149 : decode cX4_go 149 = .ok (.iconst 1, 1) := by decide +kernel
theorem dX4_go_150 : decode cX4_go 150 = .ok (.iload 6, 2) := by decide +kernel
theorem dX4_go_152 : decode cX4_go 152 = .ok (.ishl, 1) := by decide +kernel
theorem dX4_go_153 : decode cX4_go 153 = .ok (.iconst (-1), 1) := by decide +kernel
theorem dX4_go_154 : decode cX4_go 154 = .ok (.ixor, 1) := by decide +kernel
theorem dX4_go_155 : decode cX4_go 155 = .ok (.iand, 1) := by decide +kernel
theorem dX4_go_156 : decode cX4_go 156 = .ok (.istore_n 3, 1) := by decide +kernel
theorem dX4_go_157 : decode cX4_go 157 = .ok (.goto (-144), 3) := by decide +kernel
theorem dX4_go_160 : decode cX4_go 160 = .ok (.return_, 1) := by decide +kernel
theorem dX4_worstOf_0 : decode cX4_worstOf 0 = .ok (.iconst 0, 1) := by decide +kernel
theorem dX4_worstOf_1 : decode cX4_worstOf 1 = .ok (.istore_n 2, 1) := by decide +kernel
theorem dX4_worstOf_2 : decode cX4_worstOf 2 = .ok (.iconst 0, 1) := by decide +kernel
theorem dX4_worstOf_3 : decode cX4_worstOf 3 = .ok (.istore_n 3, 1) := by decide +kernel
theorem dX4_worstOf_4 : decode cX4_worstOf 4 = .ok (.iload_n 3, 1) := by decide +kernel
theorem dX4_worstOf_5 : decode cX4_worstOf 5 = .ok (.bipush 8, 2) := by decide +kernel
theorem dX4_worstOf_7 : decode cX4_worstOf 7 = .ok (.if_icmp .ge 39, 3) := by decide +kernel
theorem dX4_worstOf_10 : decode cX4_worstOf 10 = .ok (.iload_n 1, 1) := by decide +kernel
theorem dX4_worstOf_11 : decode cX4_worstOf 11 = .ok (.iload_n 3, 1) := by decide +kernel
theorem dX4_worstOf_12 : decode cX4_worstOf 12 = .ok (.ishr, 1) := by decide +kernel
theorem dX4_worstOf_13 : decode cX4_worstOf 13 = .ok (.iconst 1, 1) := by decide +kernel
theorem dX4_worstOf_14 : decode cX4_worstOf 14 = .ok (.iand, 1) := by decide +kernel
theorem dX4_worstOf_15 : decode cX4_worstOf 15 = .ok (.iconst 1, 1) := by decide +kernel
theorem dX4_worstOf_16 : decode cX4_worstOf 16 = .ok (.if_icmp .ne 22, 3) := by decide +kernel
theorem dX4_worstOf_19 : decode cX4_worstOf 19 = .ok (.aload_n 0, 1) := by decide +kernel
theorem dX4_worstOf_20 : decode cX4_worstOf 20 = .ok (.getfield 31, 3) := by decide +kernel
theorem dX4_worstOf_23 : decode cX4_worstOf 23 = .ok (.iload_n 3, 1) := by decide +kernel
theorem dX4_worstOf_24 : decode cX4_worstOf 24 = .ok (.iaload, 1) := by decide +kernel
theorem dX4_worstOf_25 : decode cX4_worstOf 25 = .ok (.iload_n 2, 1) := by decide +kernel
theorem dX4_worstOf_26 : decode cX4_worstOf 26 = .ok (.if_icmp .le 12, 3) := by decide +kernel
theorem dX4_worstOf_29 : decode cX4_worstOf 29 = .ok (.aload_n 0, 1) := by decide +kernel
theorem dX4_worstOf_30 : decode cX4_worstOf 30 = .ok (.getfield 31, 3) := by decide +kernel
theorem dX4_worstOf_33 : decode cX4_worstOf 33 = .ok (.iload_n 3, 1) := by decide +kernel
theorem dX4_worstOf_34 : decode cX4_worstOf 34 = .ok (.iaload, 1) := by decide +kernel
theorem dX4_worstOf_35 : decode cX4_worstOf 35 = .ok (.goto 4, 3) := by decide +kernel
theorem dX4_worstOf_38 : decode cX4_worstOf 38 = .ok (.iload_n 2, 1) := by decide +kernel
theorem dX4_worstOf_39 : decode cX4_worstOf 39 = .ok (.istore_n 2, 1) := by decide +kernel
theorem dX4_worstOf_40 : decode cX4_worstOf 40 = .ok (.iinc 3 1, 3) := by decide +kernel
theorem dX4_worstOf_43 : decode cX4_worstOf 43 = .ok (.goto (-39), 3) := by decide +kernel
theorem dX4_worstOf_46 : decode cX4_worstOf 46 = .ok (.iload_n 2, 1) := by decide +kernel
theorem dX4_worstOf_47 : decode cX4_worstOf 47 = .ok (.ireturn, 1) := by decide +kernel
theorem dX4_sumOf_0 : decode cX4_sumOf 0 = .ok (.iconst 0, 1) := by decide +kernel
theorem dX4_sumOf_1 : decode cX4_sumOf 1 = .ok (.istore_n 2, 1) := by decide +kernel
theorem dX4_sumOf_2 : decode cX4_sumOf 2 = .ok (.iconst 0, 1) := by decide +kernel
theorem dX4_sumOf_3 : decode cX4_sumOf 3 = .ok (.istore_n 3, 1) := by decide +kernel
theorem dX4_sumOf_4 : decode cX4_sumOf 4 = .ok (.iload_n 3, 1) := by decide +kernel
theorem dX4_sumOf_5 : decode cX4_sumOf 5 = .ok (.bipush 8, 2) := by decide +kernel
theorem dX4_sumOf_7 : decode cX4_sumOf 7 = .ok (.if_icmp .ge 31, 3) := by decide +kernel
theorem dX4_sumOf_10 : decode cX4_sumOf 10 = .ok (.iload_n 2, 1) := by decide +kernel
theorem dX4_sumOf_11 : decode cX4_sumOf 11 = .ok (.iload_n 1, 1) := by decide +kernel
theorem dX4_sumOf_12 : decode cX4_sumOf 12 = .ok (.iload_n 3, 1) := by decide +kernel
theorem dX4_sumOf_13 : decode cX4_sumOf 13 = .ok (.ishr, 1) := by decide +kernel
theorem dX4_sumOf_14 : decode cX4_sumOf 14 = .ok (.iconst 1, 1) := by decide +kernel
theorem dX4_sumOf_15 : decode cX4_sumOf 15 = .ok (.iand, 1) := by decide +kernel
theorem dX4_sumOf_16 : decode cX4_sumOf 16 = .ok (.iconst 1, 1) := by decide +kernel
theorem dX4_sumOf_17 : decode cX4_sumOf 17 = .ok (.if_icmp .ne 12, 3) := by decide +kernel
theorem dX4_sumOf_20 : decode cX4_sumOf 20 = .ok (.aload_n 0, 1) := by decide +kernel
theorem dX4_sumOf_21 : decode cX4_sumOf 21 = .ok (.getfield 31, 3) := by decide +kernel
theorem dX4_sumOf_24 : decode cX4_sumOf 24 = .ok (.iload_n 3, 1) := by decide +kernel
theorem dX4_sumOf_25 : decode cX4_sumOf 25 = .ok (.iaload, 1) := by decide +kernel
theorem dX4_sumOf_26 : decode cX4_sumOf 26 = .ok (.goto 4, 3) := by decide +kernel
theorem dX4_sumOf_29 : decode cX4_sumOf 29 = .ok (.iconst 0, 1) := by decide +kernel
theorem dX4_sumOf_30 : decode cX4_sumOf 30 = .ok (.iadd, 1) := by decide +kernel
theorem dX4_sumOf_31 : decode cX4_sumOf 31 = .ok (.istore_n 2, 1) := by decide +kernel
theorem dX4_sumOf_32 : decode cX4_sumOf 32 = .ok (.iinc 3 1, 3) := by decide +kernel
theorem dX4_sumOf_35 : decode cX4_sumOf 35 = .ok (.goto (-31), 3) := by decide +kernel
theorem dX4_sumOf_38 : decode cX4_sumOf 38 = .ok (.iload_n 2, 1) := by decide +kernel
theorem dX4_sumOf_39 : decode cX4_sumOf 39 = .ok (.ireturn, 1) := by decide +kernel
theorem dX4_goNow_0 : decode cX4_goNow 0 = .ok (.aload_n 0, 1) := by decide +kernel
theorem dX4_goNow_1 : decode cX4_goNow 1 = .ok (.invokevirtual 124, 3) := by decide +kernel
theorem dX4_goNow_4 : decode cX4_goNow 4 = .ok (.aload_n 0, 1) := by decide +kernel
theorem dX4_goNow_5 : decode cX4_goNow 5 = .ok (.aload_n 0, 1) := by decide +kernel
theorem dX4_goNow_6 : decode cX4_goNow 6 = .ok (.getfield 67, 3) := by decide +kernel
theorem dX4_goNow_9 : decode cX4_goNow 9 = .ok (.bipush 99, 2) := by decide +kernel
theorem dX4_goNow_11 : decode cX4_goNow 11 = .ok (.invokevirtual 127, 3) := by decide +kernel
theorem dX4_goNow_14 : decode cX4_goNow 14 = .ok (.return_, 1) := by decide +kernel
theorem dX4_served_0 : decode cX4_served 0 = .ok (.aload_n 0, 1) := by decide +kernel
theorem dX4_served_1 : decode cX4_served 1 = .ok (.invokevirtual 131, 3) := by decide +kernel
theorem dX4_served_4 : decode cX4_served 4 = .ok (.iload_n 1, 1) := by decide +kernel
theorem dX4_served_5 : decode cX4_served 5 = .ok (.iconst (-1), 1) := by decide +kernel
theorem dX4_served_6 : decode cX4_served 6 = .ok (.if_icmp .ne 10, 3) := by decide +kernel
theorem dX4_served_9 : decode cX4_served 9 = .ok (.aload_n 0, 1) := by decide +kernel
theorem dX4_served_10 : decode cX4_served 10 = .ok (.getfield 115, 3) := by decide +kernel
theorem dX4_served_13 : decode cX4_served 13 = .ok (.goto 30, 3) := by decide +kernel
theorem dX4_served_16 : decode cX4_served 16 = .ok (.iload_n 1, 1) := by decide +kernel
theorem dX4_served_17 : decode cX4_served 17 = .ok (.i2l, 1) := by decide +kernel
theorem dX4_served_18 : decode cX4_served 18 = .ok (.lconst 0, 1) := by decide +kernel
theorem dX4_served_19 : decode cX4_served 19 = .ok (.aload_n 0, 1) := by decide +kernel
theorem dX4_served_20 : decode cX4_served 20 = .ok (.getfield 115, 3) := by decide +kernel
theorem dX4_served_23 : decode cX4_served 23 = .ok (.iconst 1, 1) := by decide +kernel
theorem dX4_served_24 : decode cX4_served 24 = .ok (.isub, 1) := by decide +kernel
theorem dX4_served_25 : decode cX4_served 25 = .ok (.i2l, 1) := by decide +kernel
theorem dX4_served_26 : decode cX4_served 26 = .ok (.invokestatic 59, 3) := by decide +kernel
theorem dX4_served_29 : decode cX4_served 29 = .ok (.ifCond .eq 12, 3) := by decide +kernel
theorem dX4_served_32 : decode cX4_served 32 = .ok (.aload_n 0, 1) := by decide +kernel
theorem dX4_served_33 : decode cX4_served 33 = .ok (.getfield 40, 3) := by decide +kernel
theorem dX4_served_36 : decode cX4_served 36 = .ok (.iload_n 1, 1) := by decide +kernel
theorem dX4_served_37 : decode cX4_served 37 = .ok (.iaload, 1) := by decide +kernel
theorem dX4_served_38 : decode cX4_served 38 = .ok (.goto 5, 3) := by decide +kernel
theorem dX4_served_41 : decode cX4_served 41 = .ok (.bipush (-6), 2) := by decide +kernel
theorem dX4_served_43 : decode cX4_served 43 = .ok (.ireturn, 1) := by decide +kernel
theorem dX4_waits_0 : decode cX4_waits 0 = .ok (.aload_n 0, 1) := by decide +kernel
theorem dX4_waits_1 : decode cX4_waits 1 = .ok (.iload_n 1, 1) := by decide +kernel
theorem dX4_waits_2 : decode cX4_waits 2 = .ok (.invokevirtual 80, 3) := by decide +kernel
theorem dX4_waits_5 : decode cX4_waits 5 = .ok (.ifCond .ne 5, 3) := by decide +kernel
theorem dX4_waits_8 : decode cX4_waits 8 = .ok (.iconst (-1), 1) := by decide +kernel
theorem dX4_waits_9 : decode cX4_waits 9 = .ok (.ireturn, 1) := by decide +kernel
theorem dX4_waits_10 : decode cX4_waits 10 = .ok (.iload_n 2, 1) := by decide +kernel
theorem dX4_waits_11 : decode cX4_waits 11 = .ok (.i2l, 1) := by decide +kernel
theorem dX4_waits_12 : decode cX4_waits 12 = .ok (.lconst 0, 1) := by decide +kernel
theorem dX4_waits_13 : decode cX4_waits 13 = .ok (.lconst 1, 1) := by decide +kernel
theorem dX4_waits_14 : decode cX4_waits 14 = .ok (.invokestatic 59, 3) := by decide +kernel
theorem dX4_waits_17 : decode cX4_waits 17 = .ok (.ifCond .ne 6, 3) := by decide +kernel
theorem dX4_waits_20 : decode cX4_waits 20 = .ok (.bipush (-2), 2) := by decide +kernel
theorem dX4_waits_22 : decode cX4_waits 22 = .ok (.ireturn, 1) := by decide +kernel
theorem dX4_waits_23 : decode cX4_waits 23 = .ok (.aload_n 0, 1) := by decide +kernel
theorem dX4_waits_24 : decode cX4_waits 24 = .ok (.invokevirtual 131, 3) := by decide +kernel
theorem dX4_waits_27 : decode cX4_waits 27 = .ok (.iload_n 2, 1) := by decide +kernel
theorem dX4_waits_28 : decode cX4_waits 28 = .ok (.ifCond .ne 12, 3) := by decide +kernel
theorem dX4_waits_31 : decode cX4_waits 31 = .ok (.aload_n 0, 1) := by decide +kernel
theorem dX4_waits_32 : decode cX4_waits 32 = .ok (.getfield 31, 3) := by decide +kernel
theorem dX4_waits_35 : decode cX4_waits 35 = .ok (.iload_n 1, 1) := by decide +kernel
theorem dX4_waits_36 : decode cX4_waits 36 = .ok (.iaload, 1) := by decide +kernel
theorem dX4_waits_37 : decode cX4_waits 37 = .ok (.goto 9, 3) := by decide +kernel
theorem dX4_waits_40 : decode cX4_waits 40 = .ok (.aload_n 0, 1) := by decide +kernel
theorem dX4_waits_41 : decode cX4_waits 41 = .ok (.getfield 34, 3) := by decide +kernel
theorem dX4_waits_44 : decode cX4_waits 44 = .ok (.iload_n 1, 1) := by decide +kernel
theorem dX4_waits_45 : decode cX4_waits 45 = .ok (.iaload, 1) := by decide +kernel
theorem dX4_waits_46 : decode cX4_waits 46 = .ok (.ireturn, 1) := by decide +kernel
theorem dX4_whose_0 : decode cX4_whose 0 = .ok (.aload_n 0, 1) := by decide +kernel
theorem dX4_whose_1 : decode cX4_whose 1 = .ok (.aload_n 0, 1) := by decide +kernel
theorem dX4_whose_2 : decode cX4_whose 2 = .ok (.getfield 67, 3) := by decide +kernel
theorem dX4_whose_5 : decode cX4_whose 5 = .ok (.invokevirtual 134, 3) := by decide +kernel
theorem dX4_whose_8 : decode cX4_whose 8 = .ok (.istore_n 1, 1) := by decide +kernel
theorem dX4_whose_9 : decode cX4_whose 9 = .ok (.iconst 0, 1) := by decide +kernel
theorem dX4_whose_10 : decode cX4_whose 10 = .ok (.istore_n 2, 1) := by decide +kernel
theorem dX4_whose_11 : decode cX4_whose 11 = .ok (.iload_n 2, 1) := by decide +kernel
theorem dX4_whose_12 : decode cX4_whose 12 = .ok (.bipush 8, 2) := by decide +kernel
theorem dX4_whose_14 : decode cX4_whose 14 = .ok (.if_icmp .ge 29, 3) := by decide +kernel
theorem dX4_whose_17 : decode cX4_whose 17 = .ok (.aload_n 0, 1) := by decide +kernel
theorem dX4_whose_18 : decode cX4_whose 18 = .ok (.iload_n 2, 1) := by decide +kernel
theorem dX4_whose_19 : decode cX4_whose 19 = .ok (.invokevirtual 80, 3) := by decide +kernel
theorem dX4_whose_22 : decode cX4_whose 22 = .ok (.ifCond .eq 15, 3) := by decide +kernel
theorem dX4_whose_25 : decode cX4_whose 25 = .ok (.aload_n 0, 1) := by decide +kernel
theorem dX4_whose_26 : decode cX4_whose 26 = .ok (.getfield 31, 3) := by decide +kernel
theorem dX4_whose_29 : decode cX4_whose 29 = .ok (.iload_n 2, 1) := by decide +kernel
theorem dX4_whose_30 : decode cX4_whose 30 = .ok (.iaload, 1) := by decide +kernel
theorem dX4_whose_31 : decode cX4_whose 31 = .ok (.iload_n 1, 1) := by decide +kernel
theorem dX4_whose_32 : decode cX4_whose 32 = .ok (.if_icmp .ne 5, 3) := by decide +kernel
theorem dX4_whose_35 : decode cX4_whose 35 = .ok (.iload_n 2, 1) := by decide +kernel
theorem dX4_whose_36 : decode cX4_whose 36 = .ok (.ireturn, 1) := by decide +kernel
theorem dX4_whose_37 : decode cX4_whose 37 = .ok (.iinc 2 1, 3) := by decide +kernel
theorem dX4_whose_40 : decode cX4_whose 40 = .ok (.goto (-29), 3) := by decide +kernel
theorem dX4_whose_43 : decode cX4_whose 43 = .ok (.bipush (-6), 2) := by decide +kernel
theorem dX4_whose_45 : decode cX4_whose 45 = .ok (.ireturn, 1) := by decide +kernel
theorem dX4_all_0 : decode cX4_all 0 = .ok (.iload_n 1, 1) := by decide +kernel
theorem dX4_all_1 : decode cX4_all 1 = .ok (.i2l, 1) := by decide +kernel
theorem dX4_all_2 : decode cX4_all 2 = .ok (.lconst 0, 1) := by decide +kernel
theorem dX4_all_3 : decode cX4_all 3 = .ok (.ldc2_w 83, 3) := by decide +kernel
theorem dX4_all_6 : decode cX4_all 6 = .ok (.invokestatic 59, 3) := by decide +kernel
theorem dX4_all_9 : decode cX4_all 9 = .ok (.ifCond .ne 6, 3) := by decide +kernel
theorem dX4_all_12 : decode cX4_all 12 = .ok (.bipush (-2), 2) := by decide +kernel
theorem dX4_all_14 : decode cX4_all 14 = .ok (.ireturn, 1) := by decide +kernel
theorem dX4_all_15 : decode cX4_all 15 = .ok (.aload_n 0, 1) := by decide +kernel
theorem dX4_all_16 : decode cX4_all 16 = .ok (.invokevirtual 131, 3) := by decide +kernel
theorem dX4_all_19 : decode cX4_all 19 = .ok (.iload_n 1, 1) := by decide +kernel
theorem dX4_all_20 : decode cX4_all 20 = .ok (.ifCond .ne 14, 3) := by decide +kernel
theorem dX4_all_23 : decode cX4_all 23 = .ok (.aload_n 0, 1) := by decide +kernel
theorem dX4_all_24 : decode cX4_all 24 = .ok (.aload_n 0, 1) := by decide +kernel
theorem dX4_all_25 : decode cX4_all 25 = .ok (.getfield 67, 3) := by decide +kernel
theorem dX4_all_28 : decode cX4_all 28 = .ok (.invokevirtual 134, 3) := by decide +kernel
theorem dX4_all_31 : decode cX4_all 31 = .ok (.goto 58, 3) := by decide +kernel
theorem dX4_all_34 : decode cX4_all 34 = .ok (.iload_n 1, 1) := by decide +kernel
theorem dX4_all_35 : decode cX4_all 35 = .ok (.iconst 1, 1) := by decide +kernel
theorem dX4_all_36 : decode cX4_all 36 = .ok (.if_icmp .ne 10, 3) := by decide +kernel
theorem dX4_all_39 : decode cX4_all 39 = .ok (.aload_n 0, 1) := by decide +kernel
theorem dX4_all_40 : decode cX4_all 40 = .ok (.invokevirtual 137, 3) := by decide +kernel
theorem dX4_all_43 : decode cX4_all 43 = .ok (.goto 46, 3) := by decide +kernel
theorem dX4_all_46 : decode cX4_all 46 = .ok (.iload_n 1, 1) := by decide +kernel
theorem dX4_all_47 : decode cX4_all 47 = .ok (.iconst 2, 1) := by decide +kernel
theorem dX4_all_48 : decode cX4_all 48 = .ok (.if_icmp .ne 14, 3) := by decide +kernel
theorem dX4_all_51 : decode cX4_all 51 = .ok (.aload_n 0, 1) := by decide +kernel
theorem dX4_all_52 : decode cX4_all 52 = .ok (.aload_n 0, 1) := by decide +kernel
theorem dX4_all_53 : decode cX4_all 53 = .ok (.getfield 67, 3) := by decide +kernel
theorem dX4_all_56 : decode cX4_all 56 = .ok (.invokevirtual 141, 3) := by decide +kernel
theorem dX4_all_59 : decode cX4_all 59 = .ok (.goto 30, 3) := by decide +kernel
theorem dX4_all_62 : decode cX4_all 62 = .ok (.aload_n 0, 1) := by decide +kernel
theorem dX4_all_63 : decode cX4_all 63 = .ok (.getfield 115, 3) := by decide +kernel
theorem dX4_all_66 : decode cX4_all 66 = .ok (.ifCond .ne 7, 3) := by decide +kernel
theorem dX4_all_69 : decode cX4_all 69 = .ok (.iconst 0, 1) := by decide +kernel
theorem dX4_all_70 : decode cX4_all 70 = .ok (.goto 19, 3) := by decide +kernel
theorem dX4_all_73 : decode cX4_all 73 = .ok (.aload_n 0, 1) := by decide +kernel
theorem dX4_all_74 : decode cX4_all 74 = .ok (.getfield 34, 3) := by decide +kernel
theorem dX4_all_77 : decode cX4_all 77 = .ok (.aload_n 0, 1) := by decide +kernel
theorem dX4_all_78 : decode cX4_all 78 = .ok (.getfield 40, 3) := by decide +kernel
theorem dX4_all_81 : decode cX4_all 81 = .ok (.aload_n 0, 1) := by decide +kernel
theorem dX4_all_82 : decode cX4_all 82 = .ok (.getfield 115, 3) := by decide +kernel
theorem dX4_all_85 : decode cX4_all 85 = .ok (.iconst 1, 1) := by decide +kernel
theorem dX4_all_86 : decode cX4_all 86 = .ok (.isub, 1) := by decide +kernel
theorem dX4_all_87 : decode cX4_all 87 = .ok (.iaload, 1) := by decide +kernel
theorem dX4_all_88 : decode cX4_all 88 = .ok (.iaload, 1) := by decide +kernel
theorem dX4_all_89 : decode cX4_all 89 = .ok (.ireturn, 1) := by decide +kernel
theorem dX4_judge_0 : decode cX4_judge 0 = .ok (.iload_n 1, 1) := by decide +kernel
theorem dX4_judge_1 : decode cX4_judge 1 = .ok (.i2l, 1) := by decide +kernel
theorem dX4_judge_2 : decode cX4_judge 2 = .ok (.lconst 0, 1) := by decide +kernel
theorem dX4_judge_3 : decode cX4_judge 3 = .ok (.lconst 1, 1) := by decide +kernel
theorem dX4_judge_4 : decode cX4_judge 4 = .ok (.invokestatic 59, 3) := by decide +kernel
theorem dX4_judge_7 : decode cX4_judge 7 = .ok (.ifCond .ne 6, 3) := by decide +kernel
theorem dX4_judge_10 : decode cX4_judge 10 = .ok (.bipush (-2), 2) := by decide +kernel
theorem dX4_judge_12 : decode cX4_judge 12 = .ok (.ireturn, 1) := by decide +kernel
theorem dX4_judge_13 : decode cX4_judge 13 = .ok (.aload_n 0, 1) := by decide +kernel
theorem dX4_judge_14 : decode cX4_judge 14 = .ok (.invokevirtual 144, 3) := by decide +kernel
theorem dX4_judge_17 : decode cX4_judge 17 = .ok (.ifCond .lt 6, 3) := by decide +kernel
theorem dX4_judge_20 : decode cX4_judge 20 = .ok (.bipush (-5), 2) := by decide +kernel
theorem dX4_judge_22 : decode cX4_judge 22 = .ok (.ireturn, 1) := by decide +kernel
theorem dX4_judge_23 : decode cX4_judge 23 = .ok (.aload_n 0, 1) := by decide +kernel
theorem dX4_judge_24 : decode cX4_judge 24 = .ok (.invokevirtual 131, 3) := by decide +kernel
theorem dX4_judge_27 : decode cX4_judge 27 = .ok (.iconst 0, 1) := by decide +kernel
theorem dX4_judge_28 : decode cX4_judge 28 = .ok (.istore_n 2, 1) := by decide +kernel
theorem dX4_judge_29 : decode cX4_judge 29 = .ok (.iload_n 2, 1) := by decide +kernel
theorem dX4_judge_30 : decode cX4_judge 30 = .ok (.aload_n 0, 1) := by decide +kernel
theorem dX4_judge_31 : decode cX4_judge 31 = .ok (.getfield 97, 3) := by decide +kernel
theorem dX4_judge_34 : decode cX4_judge 34 = .ok (.if_icmp .ge 42, 3) := by decide +kernel
theorem dX4_judge_37 : decode cX4_judge 37 = .ok (.aload_n 0, 1) := by decide +kernel
theorem dX4_judge_38 : decode cX4_judge 38 = .ok (.getfield 22, 3) := by decide +kernel
theorem dX4_judge_41 : decode cX4_judge 41 = .ok (.iload_n 2, 1) := by decide +kernel
theorem dX4_judge_42 : decode cX4_judge 42 = .ok (.iaload, 1) := by decide +kernel
theorem dX4_judge_43 : decode cX4_judge 43 = .ok (.bipush 65, 2) := by decide +kernel
theorem dX4_judge_45 : decode cX4_judge 45 = .ok (.isub, 1) := by decide +kernel
theorem dX4_judge_46 : decode cX4_judge 46 = .ok (.aload_n 0, 1) := by decide +kernel
theorem dX4_judge_47 : decode cX4_judge 47 = .ok (.getfield 40, 3) := by decide +kernel
theorem dX4_judge_50 : decode cX4_judge 50 = .ok (.iload_n 2, 1) := by decide +kernel
theorem dX4_judge_51 : decode cX4_judge 51 = .ok (.iaload, 1) := by decide +kernel
theorem dX4_judge_52 : decode cX4_judge 52 = .ok (.if_icmp .eq 18, 3) := by decide +kernel
theorem dX4_judge_55 : decode cX4_judge 55 = .ok (.iload_n 1, 1) := by decide +kernel
theorem dX4_judge_56 : decode cX4_judge 56 = .ok (.ifCond .ne 7, 3) := by decide +kernel
theorem dX4_judge_59 : decode cX4_judge 59 = .ok (.iload_n 2, 1) := by decide +kernel
theorem dX4_judge_60 : decode cX4_judge 60 = .ok (.goto 9, 3) := by decide +kernel
theorem dX4_judge_63 : decode cX4_judge 63 = .ok (.aload_n 0, 1) := by decide +kernel
theorem dX4_judge_64 : decode cX4_judge 64 = .ok (.getfield 40, 3) := by decide +kernel
theorem dX4_judge_67 : decode cX4_judge 67 = .ok (.iload_n 2, 1) := by decide +kernel
theorem dX4_judge_68 : decode cX4_judge 68 = .ok (.iaload, 1) := by decide +kernel
theorem dX4_judge_69 : decode cX4_judge 69 = .ok (.ireturn, 1) := by decide +kernel
theorem dX4_judge_70 : decode cX4_judge 70 = .ok (.iinc 2 1, 3) := by decide +kernel
theorem dX4_judge_73 : decode cX4_judge 73 = .ok (.goto (-44), 3) := by decide +kernel
theorem dX4_judge_76 : decode cX4_judge 76 = .ok (.bipush (-6), 2) := by decide +kernel
theorem dX4_judge_78 : decode cX4_judge 78 = .ok (.ireturn, 1) := by decide +kernel
theorem dX4_left_0 : decode cX4_left 0 = .ok (.aload_n 0, 1) := by decide +kernel
theorem dX4_left_1 : decode cX4_left 1 = .ok (.iload_n 2, 1) := by decide +kernel
theorem dX4_left_2 : decode cX4_left 2 = .ok (.invokevirtual 80, 3) := by decide +kernel
theorem dX4_left_5 : decode cX4_left 5 = .ok (.ifCond .ne 5, 3) := by decide +kernel
theorem dX4_left_8 : decode cX4_left 8 = .ok (.iconst (-1), 1) := by decide +kernel
theorem dX4_left_9 : decode cX4_left 9 = .ok (.ireturn, 1) := by decide +kernel
theorem dX4_left_10 : decode cX4_left 10 = .ok (.iload_n 1, 1) := by decide +kernel
theorem dX4_left_11 : decode cX4_left 11 = .ok (.i2l, 1) := by decide +kernel
theorem dX4_left_12 : decode cX4_left 12 = .ok (.lconst 0, 1) := by decide +kernel
theorem dX4_left_13 : decode cX4_left 13 = .ok (.ldc2_w 70, 3) := by decide +kernel
theorem dX4_left_16 : decode cX4_left 16 = .ok (.invokestatic 59, 3) := by decide +kernel
theorem dX4_left_19 : decode cX4_left 19 = .ok (.ifCond .ne 6, 3) := by decide +kernel
theorem dX4_left_22 : decode cX4_left 22 = .ok (.bipush (-2), 2) := by decide +kernel
theorem dX4_left_24 : decode cX4_left 24 = .ok (.ireturn, 1) := by decide +kernel
theorem dX4_left_25 : decode cX4_left 25 = .ok (.aload_n 0, 1) := by decide +kernel
theorem dX4_left_26 : decode cX4_left 26 = .ok (.invokevirtual 124, 3) := by decide +kernel
theorem dX4_left_29 : decode cX4_left 29 = .ok (.aload_n 0, 1) := by decide +kernel
theorem dX4_left_30 : decode cX4_left 30 = .ok (.aload_n 0, 1) := by decide +kernel
theorem dX4_left_31 : decode cX4_left 31 = .ok (.getfield 67, 3) := by decide +kernel
theorem dX4_left_34 : decode cX4_left 34 = .ok (.iload_n 1, 1) := by decide +kernel
theorem dX4_left_35 : decode cX4_left 35 = .ok (.invokevirtual 127, 3) := by decide +kernel
theorem dX4_left_38 : decode cX4_left 38 = .ok (.aload_n 0, 1) := by decide +kernel
theorem dX4_left_39 : decode cX4_left 39 = .ok (.getfield 37, 3) := by decide +kernel
theorem dX4_left_42 : decode cX4_left 42 = .ok (.iload_n 2, 1) := by decide +kernel
theorem dX4_left_43 : decode cX4_left 43 = .ok (.iaload, 1) := by decide +kernel
theorem dX4_left_44 : decode cX4_left 44 = .ok (.ireturn, 1) := by decide +kernel
theorem dX4_best_0 : decode cX4_best 0 = .ok (.aload_n 0, 1) := by decide +kernel
theorem dX4_best_1 : decode cX4_best 1 = .ok (.iload_n 1, 1) := by decide +kernel
theorem dX4_best_2 : decode cX4_best 2 = .ok (.invokevirtual 80, 3) := by decide +kernel
theorem dX4_best_5 : decode cX4_best 5 = .ok (.ifCond .ne 5, 3) := by decide +kernel
theorem dX4_best_8 : decode cX4_best 8 = .ok (.iconst (-1), 1) := by decide +kernel
theorem dX4_best_9 : decode cX4_best 9 = .ok (.ireturn, 1) := by decide +kernel
theorem dX4_best_10 : decode cX4_best 10 = .ok (.iload_n 2, 1) := by decide +kernel
theorem dX4_best_11 : decode cX4_best 11 = .ok (.i2l, 1) := by decide +kernel
theorem dX4_best_12 : decode cX4_best 12 = .ok (.lconst 0, 1) := by decide +kernel
theorem dX4_best_13 : decode cX4_best 13 = .ok (.ldc2_w 72, 3) := by decide +kernel
theorem dX4_best_16 : decode cX4_best 16 = .ok (.invokestatic 59, 3) := by decide +kernel
theorem dX4_best_19 : decode cX4_best 19 = .ok (.ifCond .eq 27, 3) := by decide +kernel
theorem dX4_best_22 : decode cX4_best 22 = .ok (.iload_n 3, 1) := by decide +kernel
theorem dX4_best_23 : decode cX4_best 23 = .ok (.i2l, 1) := by decide +kernel
theorem dX4_best_24 : decode cX4_best 24 = .ok (.iload_n 2, 1) := by decide +kernel
theorem dX4_best_25 : decode cX4_best 25 = .ok (.i2l, 1) := by decide +kernel
theorem dX4_best_26 : decode cX4_best 26 = .ok (.ldc2_w 72, 3) := by decide +kernel
theorem dX4_best_29 : decode cX4_best 29 = .ok (.invokestatic 59, 3) := by decide +kernel
theorem dX4_best_32 : decode cX4_best 32 = .ok (.ifCond .eq 14, 3) := by decide +kernel
theorem dX4_best_35 : decode cX4_best 35 = .ok (.iload 4, 2) := by decide +kernel
theorem dX4_best_37 : decode cX4_best 37 = .ok (.i2l, 1) := by decide +kernel
theorem dX4_best_38 : decode cX4_best 38 = .ok (.lconst 0, 1) := by decide +kernel
theorem dX4_best_39 : decode cX4_best 39 = .ok (.lconst 1, 1) := by decide +kernel
theorem dX4_best_40 : decode cX4_best 40 = .ok (.invokestatic 59, 3) := by decide +kernel
theorem dX4_best_43 : decode cX4_best 43 = .ok (.ifCond .ne 6, 3) := by decide +kernel
theorem dX4_best_46 : decode cX4_best 46 = .ok (.bipush (-2), 2) := by decide +kernel
theorem dX4_best_48 : decode cX4_best 48 = .ok (.ireturn, 1) := by decide +kernel
theorem dX4_best_49 : decode cX4_best 49 = .ok (.aload_n 0, 1) := by decide +kernel
theorem dX4_best_50 : decode cX4_best 50 = .ok (.invokevirtual 124, 3) := by decide +kernel
theorem dX4_best_53 : decode cX4_best 53 = .ok (.bipush (-6), 2) := by decide +kernel
theorem dX4_best_55 : decode cX4_best 55 = .ok (.istore 5, 2) := by decide +kernel
theorem dX4_best_57 : decode cX4_best 57 = .ok (.ldc 114, 2) := by decide +kernel
theorem dX4_best_59 : decode cX4_best 59 = .ok (.istore 6, 2) := by decide +kernel
theorem dX4_best_61 : decode cX4_best 61 = .ok (.iload_n 2, 1) := by decide +kernel
theorem dX4_best_62 : decode cX4_best 62 = .ok (.istore 7, 2) := by decide +kernel
theorem dX4_best_64 : decode cX4_best 64 = .ok (.iload 7, 2) := by decide +kernel
theorem dX4_best_66 : decode cX4_best 66 = .ok (.iload_n 3, 1) := by decide +kernel
theorem dX4_best_67 : decode cX4_best 67 = .ok (.if_icmp .gt 71, 3) := by decide +kernel
theorem dX4_best_70 : decode cX4_best 70 = .ok (.aload_n 0, 1) := by decide +kernel
theorem dX4_best_71 : decode cX4_best 71 = .ok (.getfield 28, 3) := by decide +kernel
theorem dX4_best_74 : decode cX4_best 74 = .ok (.iload_n 1, 1) := by decide +kernel
theorem dX4_best_75 : decode cX4_best 75 = .ok (.iload 7, 2) := by decide +kernel
theorem dX4_best_77 : decode cX4_best 77 = .ok (.iastore, 1) := by decide +kernel
theorem dX4_best_78 : decode cX4_best 78 = .ok (.aload_n 0, 1) := by decide +kernel
theorem dX4_best_79 : decode cX4_best 79 = .ok (.aload_n 0, 1) := by decide +kernel
theorem dX4_best_80 : decode cX4_best 80 = .ok (.getfield 67, 3) := by decide +kernel
theorem dX4_best_83 : decode cX4_best 83 = .ok (.bipush 99, 2) := by decide +kernel
theorem dX4_best_85 : decode cX4_best 85 = .ok (.invokevirtual 127, 3) := by decide +kernel
theorem dX4_best_88 : decode cX4_best 88 = .ok (.aload_n 0, 1) := by decide +kernel
theorem dX4_best_89 : decode cX4_best 89 = .ok (.getfield 31, 3) := by decide +kernel
theorem dX4_best_92 : decode cX4_best 92 = .ok (.iload_n 1, 1) := by decide +kernel
theorem dX4_best_93 : decode cX4_best 93 = .ok (.iaload, 1) := by decide +kernel
theorem dX4_best_94 : decode cX4_best 94 = .ok (.iload 6, 2) := by decide +kernel
theorem dX4_best_96 : decode cX4_best 96 = .ok (.if_icmp .ge 8, 3) := by decide +kernel
theorem dX4_best_99 : decode cX4_best 99 = .ok (.iload 7, 2) := by decide +kernel
theorem dX4_best_101 : decode cX4_best 101 = .ok (.goto 5, 3) := by decide +kernel
theorem dX4_best_104 : decode cX4_best 104 = .ok (.iload 5, 2) := by decide +kernel
theorem dX4_best_106 : decode cX4_best 106 = .ok (.istore 5, 2) := by decide +kernel
theorem dX4_best_108 : decode cX4_best 108 = .ok (.aload_n 0, 1) := by decide +kernel
theorem dX4_best_109 : decode cX4_best 109 = .ok (.getfield 31, 3) := by decide +kernel
theorem dX4_best_112 : decode cX4_best 112 = .ok (.iload_n 1, 1) := by decide +kernel
theorem dX4_best_113 : decode cX4_best 113 = .ok (.iaload, 1) := by decide +kernel
theorem dX4_best_114 : decode cX4_best 114 = .ok (.iload 6, 2) := by decide +kernel
theorem dX4_best_116 : decode cX4_best 116 = .ok (.if_icmp .ge 12, 3) := by decide +kernel
theorem dX4_best_119 : decode cX4_best 119 = .ok (.aload_n 0, 1) := by decide +kernel
theorem dX4_best_120 : decode cX4_best 120 = .ok (.getfield 31, 3) := by decide +kernel
theorem dX4_best_123 : decode cX4_best 123 = .ok (.iload_n 1, 1) := by decide +kernel
theorem dX4_best_124 : decode cX4_best 124 = .ok (.iaload, 1) := by decide +kernel
theorem dX4_best_125 : decode cX4_best 125 = .ok (.goto 5, 3) := by decide +kernel
theorem dX4_best_128 : decode cX4_best 128 = .ok (.iload 6, 2) := by decide +kernel
theorem dX4_best_130 : decode cX4_best 130 = .ok (.istore 6, 2) := by decide +kernel
theorem dX4_best_132 : decode cX4_best 132 = .ok (.iinc 7 1, 3) := by decide +kernel
theorem dX4_best_135 : decode cX4_best 135 = .ok (.goto (-71), 3) := by decide +kernel
theorem dX4_best_138 : decode cX4_best 138 = .ok (.iload 4, 2) := by decide +kernel
theorem dX4_best_140 : decode cX4_best 140 = .ok (.ifCond .ne 8, 3) := by decide +kernel
theorem dX4_best_143 : decode cX4_best 143 = .ok (.iload 5, 2) := by decide +kernel
theorem dX4_best_145 : decode cX4_best 145 = .ok (.goto 5, 3) := by decide +kernel
theorem dX4_best_148 : decode cX4_best 148 = .ok (.iload 6, 2) := by decide +kernel
theorem dX4_best_150 : decode cX4_best 150 = .ok (.ireturn, 1) := by decide +kernel
theorem dX4_walk_0 : decode cX4_walk 0 = .ok (.aload_n 0, 1) := by decide +kernel
theorem dX4_walk_1 : decode cX4_walk 1 = .ok (.iload_n 1, 1) := by decide +kernel
theorem dX4_walk_2 : decode cX4_walk 2 = .ok (.invokevirtual 80, 3) := by decide +kernel
theorem dX4_walk_5 : decode cX4_walk 5 = .ok (.ifCond .ne 5, 3) := by decide +kernel
theorem dX4_walk_8 : decode cX4_walk 8 = .ok (.iconst (-1), 1) := by decide +kernel
theorem dX4_walk_9 : decode cX4_walk 9 = .ok (.ireturn, 1) := by decide +kernel
theorem dX4_walk_10 : decode cX4_walk 10 = .ok (.iload_n 2, 1) := by decide +kernel
theorem dX4_walk_11 : decode cX4_walk 11 = .ok (.i2l, 1) := by decide +kernel
theorem dX4_walk_12 : decode cX4_walk 12 = .ok (.lconst 1, 1) := by decide +kernel
theorem dX4_walk_13 : decode cX4_walk 13 = .ok (.ldc2_w 147, 3) := by decide +kernel
theorem dX4_walk_16 : decode cX4_walk 16 = .ok (.invokestatic 59, 3) := by decide +kernel
theorem dX4_walk_19 : decode cX4_walk 19 = .ok (.ifCond .eq 13, 3) := by decide +kernel
theorem dX4_walk_22 : decode cX4_walk 22 = .ok (.iload_n 3, 1) := by decide +kernel
theorem dX4_walk_23 : decode cX4_walk 23 = .ok (.i2l, 1) := by decide +kernel
theorem dX4_walk_24 : decode cX4_walk 24 = .ok (.lconst 0, 1) := by decide +kernel
theorem dX4_walk_25 : decode cX4_walk 25 = .ok (.lconst 1, 1) := by decide +kernel
theorem dX4_walk_26 : decode cX4_walk 26 = .ok (.invokestatic 59, 3) := by decide +kernel
theorem dX4_walk_29 : decode cX4_walk 29 = .ok (.ifCond .ne 6, 3) := by decide +kernel
end
section
theorem dX4_walk_32 : decode cX4_walk 32 = .ok (.bipush (-2), 2) := by decide +kernel
theorem dX4_walk_34 : decode cX4_walk 34 = .ok (.ireturn, 1) := by decide +kernel
theorem dX4_walk_35 : decode cX4_walk 35 = .ok (.aload_n 0, 1) := by decide +kernel
theorem dX4_walk_36 : decode cX4_walk 36 = .ok (.invokevirtual 124, 3) := by decide +kernel
theorem dX4_walk_39 : decode cX4_walk 39 = .ok (.bipush (-6), 2) := by decide +kernel
theorem dX4_walk_41 : decode cX4_walk 41 = .ok (.istore 4, 2) := by decide +kernel
theorem dX4_walk_43 : decode cX4_walk 43 = .ok (.ldc 114, 2) := by decide +kernel
theorem dX4_walk_45 : decode cX4_walk 45 = .ok (.istore 5, 2) := by decide +kernel
theorem dX4_walk_47 : decode cX4_walk 47 = .ok (.iconst 0, 1) := by decide +kernel
theorem dX4_walk_48 : decode cX4_walk 48 = .ok (.istore 6, 2) := by decide +kernel
theorem dX4_walk_50 : decode cX4_walk 50 = .ok (.iload 6, 2) := by decide +kernel
theorem dX4_walk_52 : decode cX4_walk 52 = .ok (.bipush 10, 2) := by decide +kernel
theorem dX4_walk_54 : decode cX4_walk 54 = .ok (.if_icmp .ge 114, 3) := by decide +kernel
theorem dX4_walk_57 : decode cX4_walk 57 = .ok (.aload_n 0, 1) := by decide +kernel
theorem dX4_walk_58 : decode cX4_walk 58 = .ok (.getfield 25, 3) := by decide +kernel
theorem dX4_walk_61 : decode cX4_walk 61 = .ok (.iload_n 1, 1) := by decide +kernel
theorem dX4_walk_62 : decode cX4_walk 62 = .ok (.aload_n 0, 1) := by decide +kernel
theorem dX4_walk_63 : decode cX4_walk 63 = .ok (.getfield 7, 3) := by decide +kernel
theorem dX4_walk_66 : decode cX4_walk 66 = .ok (.iload_n 1, 1) := by decide +kernel
theorem dX4_walk_67 : decode cX4_walk 67 = .ok (.iaload, 1) := by decide +kernel
theorem dX4_walk_68 : decode cX4_walk 68 = .ok (.iload 6, 2) := by decide +kernel
theorem dX4_walk_70 : decode cX4_walk 70 = .ok (.iadd, 1) := by decide +kernel
theorem dX4_walk_71 : decode cX4_walk 71 = .ok (.bipush 99, 2) := by decide +kernel
theorem dX4_walk_73 : decode cX4_walk 73 = .ok (.if_icmp .le 8, 3) := by decide +kernel
theorem dX4_walk_76 : decode cX4_walk 76 = .ok (.bipush 99, 2) := by decide +kernel
theorem dX4_walk_78 : decode cX4_walk 78 = .ok (.goto 12, 3) := by decide +kernel
theorem dX4_walk_81 : decode cX4_walk 81 = .ok (.aload_n 0, 1) := by decide +kernel
theorem dX4_walk_82 : decode cX4_walk 82 = .ok (.getfield 7, 3) := by decide +kernel
theorem dX4_walk_85 : decode cX4_walk 85 = .ok (.iload_n 1, 1) := by decide +kernel
theorem dX4_walk_86 : decode cX4_walk 86 = .ok (.iaload, 1) := by decide +kernel
theorem dX4_walk_87 : decode cX4_walk 87 = .ok (.iload 6, 2) := by decide +kernel
theorem dX4_walk_89 : decode cX4_walk 89 = .ok (.iadd, 1) := by decide +kernel
theorem dX4_walk_90 : decode cX4_walk 90 = .ok (.iastore, 1) := by decide +kernel
theorem dX4_walk_91 : decode cX4_walk 91 = .ok (.aload_n 0, 1) := by decide +kernel
theorem dX4_walk_92 : decode cX4_walk 92 = .ok (.getfield 28, 3) := by decide +kernel
theorem dX4_walk_95 : decode cX4_walk 95 = .ok (.iload_n 1, 1) := by decide +kernel
theorem dX4_walk_96 : decode cX4_walk 96 = .ok (.aload_n 0, 1) := by decide +kernel
theorem dX4_walk_97 : decode cX4_walk 97 = .ok (.getfield 13, 3) := by decide +kernel
theorem dX4_walk_100 : decode cX4_walk 100 = .ok (.iload_n 1, 1) := by decide +kernel
theorem dX4_walk_101 : decode cX4_walk 101 = .ok (.iaload, 1) := by decide +kernel
theorem dX4_walk_102 : decode cX4_walk 102 = .ok (.iload_n 2, 1) := by decide +kernel
theorem dX4_walk_103 : decode cX4_walk 103 = .ok (.iload 6, 2) := by decide +kernel
theorem dX4_walk_105 : decode cX4_walk 105 = .ok (.imul, 1) := by decide +kernel
theorem dX4_walk_106 : decode cX4_walk 106 = .ok (.iadd, 1) := by decide +kernel
theorem dX4_walk_107 : decode cX4_walk 107 = .ok (.iastore, 1) := by decide +kernel
theorem dX4_walk_108 : decode cX4_walk 108 = .ok (.aload_n 0, 1) := by decide +kernel
theorem dX4_walk_109 : decode cX4_walk 109 = .ok (.aload_n 0, 1) := by decide +kernel
theorem dX4_walk_110 : decode cX4_walk 110 = .ok (.getfield 67, 3) := by decide +kernel
theorem dX4_walk_113 : decode cX4_walk 113 = .ok (.bipush 99, 2) := by decide +kernel
theorem dX4_walk_115 : decode cX4_walk 115 = .ok (.invokevirtual 127, 3) := by decide +kernel
theorem dX4_walk_118 : decode cX4_walk 118 = .ok (.aload_n 0, 1) := by decide +kernel
theorem dX4_walk_119 : decode cX4_walk 119 = .ok (.getfield 34, 3) := by decide +kernel
theorem dX4_walk_122 : decode cX4_walk 122 = .ok (.iload_n 1, 1) := by decide +kernel
theorem dX4_walk_123 : decode cX4_walk 123 = .ok (.iaload, 1) := by decide +kernel
theorem dX4_walk_124 : decode cX4_walk 124 = .ok (.iload 5, 2) := by decide +kernel
theorem dX4_walk_126 : decode cX4_walk 126 = .ok (.if_icmp .ge 8, 3) := by decide +kernel
theorem dX4_walk_129 : decode cX4_walk 129 = .ok (.iload 6, 2) := by decide +kernel
theorem dX4_walk_131 : decode cX4_walk 131 = .ok (.goto 5, 3) := by decide +kernel
theorem dX4_walk_134 : decode cX4_walk 134 = .ok (.iload 4, 2) := by decide +kernel
theorem dX4_walk_136 : decode cX4_walk 136 = .ok (.istore 4, 2) := by decide +kernel
theorem dX4_walk_138 : decode cX4_walk 138 = .ok (.aload_n 0, 1) := by decide +kernel
theorem dX4_walk_139 : decode cX4_walk 139 = .ok (.getfield 34, 3) := by decide +kernel
theorem dX4_walk_142 : decode cX4_walk 142 = .ok (.iload_n 1, 1) := by decide +kernel
theorem dX4_walk_143 : decode cX4_walk 143 = .ok (.iaload, 1) := by decide +kernel
theorem dX4_walk_144 : decode cX4_walk 144 = .ok (.iload 5, 2) := by decide +kernel
theorem dX4_walk_146 : decode cX4_walk 146 = .ok (.if_icmp .ge 12, 3) := by decide +kernel
theorem dX4_walk_149 : decode cX4_walk 149 = .ok (.aload_n 0, 1) := by decide +kernel
theorem dX4_walk_150 : decode cX4_walk 150 = .ok (.getfield 34, 3) := by decide +kernel
theorem dX4_walk_153 : decode cX4_walk 153 = .ok (.iload_n 1, 1) := by decide +kernel
theorem dX4_walk_154 : decode cX4_walk 154 = .ok (.iaload, 1) := by decide +kernel
theorem dX4_walk_155 : decode cX4_walk 155 = .ok (.goto 5, 3) := by decide +kernel
theorem dX4_walk_158 : decode cX4_walk 158 = .ok (.iload 5, 2) := by decide +kernel
theorem dX4_walk_160 : decode cX4_walk 160 = .ok (.istore 5, 2) := by decide +kernel
theorem dX4_walk_162 : decode cX4_walk 162 = .ok (.iinc 6 1, 3) := by decide +kernel
theorem dX4_walk_165 : decode cX4_walk 165 = .ok (.goto (-115), 3) := by decide +kernel
theorem dX4_walk_168 : decode cX4_walk 168 = .ok (.iload_n 3, 1) := by decide +kernel
theorem dX4_walk_169 : decode cX4_walk 169 = .ok (.ifCond .ne 8, 3) := by decide +kernel
theorem dX4_walk_172 : decode cX4_walk 172 = .ok (.iload 4, 2) := by decide +kernel
theorem dX4_walk_174 : decode cX4_walk 174 = .ok (.goto 5, 3) := by decide +kernel
theorem dX4_walk_177 : decode cX4_walk 177 = .ok (.iload 5, 2) := by decide +kernel
theorem dX4_walk_179 : decode cX4_walk 179 = .ok (.ireturn, 1) := by decide +kernel
theorem dX4_claim_0 : decode cX4_claim 0 = .ok (.aload_n 0, 1) := by decide +kernel
theorem dX4_claim_1 : decode cX4_claim 1 = .ok (.iload_n 1, 1) := by decide +kernel
theorem dX4_claim_2 : decode cX4_claim 2 = .ok (.invokevirtual 80, 3) := by decide +kernel
theorem dX4_claim_5 : decode cX4_claim 5 = .ok (.ifCond .ne 5, 3) := by decide +kernel
theorem dX4_claim_8 : decode cX4_claim 8 = .ok (.iconst (-1), 1) := by decide +kernel
theorem dX4_claim_9 : decode cX4_claim 9 = .ok (.ireturn, 1) := by decide +kernel
theorem dX4_claim_10 : decode cX4_claim 10 = .ok (.iload_n 2, 1) := by decide +kernel
theorem dX4_claim_11 : decode cX4_claim 11 = .ok (.i2l, 1) := by decide +kernel
theorem dX4_claim_12 : decode cX4_claim 12 = .ok (.lconst 0, 1) := by decide +kernel
theorem dX4_claim_13 : decode cX4_claim 13 = .ok (.ldc2_w 149, 3) := by decide +kernel
theorem dX4_claim_16 : decode cX4_claim 16 = .ok (.invokestatic 59, 3) := by decide +kernel
theorem dX4_claim_19 : decode cX4_claim 19 = .ok (.ifCond .ne 6, 3) := by decide +kernel
theorem dX4_claim_22 : decode cX4_claim 22 = .ok (.bipush (-2), 2) := by decide +kernel
theorem dX4_claim_24 : decode cX4_claim 24 = .ok (.ireturn, 1) := by decide +kernel
theorem dX4_claim_25 : decode cX4_claim 25 = .ok (.aload_n 0, 1) := by decide +kernel
theorem dX4_claim_26 : decode cX4_claim 26 = .ok (.invokevirtual 124, 3) := by decide +kernel
theorem dX4_claim_29 : decode cX4_claim 29 = .ok (.iconst 0, 1) := by decide +kernel
theorem dX4_claim_30 : decode cX4_claim 30 = .ok (.istore_n 3, 1) := by decide +kernel
theorem dX4_claim_31 : decode cX4_claim 31 = .ok (.iload_n 3, 1) := by decide +kernel
theorem dX4_claim_32 : decode cX4_claim 32 = .ok (.bipush 100, 2) := by decide +kernel
theorem dX4_claim_34 : decode cX4_claim 34 = .ok (.if_icmp .ge 38, 3) := by decide +kernel
theorem dX4_claim_37 : decode cX4_claim 37 = .ok (.aload_n 0, 1) := by decide +kernel
theorem dX4_claim_38 : decode cX4_claim 38 = .ok (.getfield 25, 3) := by decide +kernel
theorem dX4_claim_41 : decode cX4_claim 41 = .ok (.iload_n 1, 1) := by decide +kernel
theorem dX4_claim_42 : decode cX4_claim 42 = .ok (.iload_n 3, 1) := by decide +kernel
theorem dX4_claim_43 : decode cX4_claim 43 = .ok (.iastore, 1) := by decide +kernel
theorem dX4_claim_44 : decode cX4_claim 44 = .ok (.aload_n 0, 1) := by decide +kernel
theorem dX4_claim_45 : decode cX4_claim 45 = .ok (.aload_n 0, 1) := by decide +kernel
theorem dX4_claim_46 : decode cX4_claim 46 = .ok (.getfield 67, 3) := by decide +kernel
theorem dX4_claim_49 : decode cX4_claim 49 = .ok (.bipush 99, 2) := by decide +kernel
theorem dX4_claim_51 : decode cX4_claim 51 = .ok (.invokevirtual 127, 3) := by decide +kernel
theorem dX4_claim_54 : decode cX4_claim 54 = .ok (.aload_n 0, 1) := by decide +kernel
theorem dX4_claim_55 : decode cX4_claim 55 = .ok (.getfield 31, 3) := by decide +kernel
theorem dX4_claim_58 : decode cX4_claim 58 = .ok (.iload_n 1, 1) := by decide +kernel
theorem dX4_claim_59 : decode cX4_claim 59 = .ok (.iaload, 1) := by decide +kernel
theorem dX4_claim_60 : decode cX4_claim 60 = .ok (.iload_n 2, 1) := by decide +kernel
theorem dX4_claim_61 : decode cX4_claim 61 = .ok (.if_icmp .gt 5, 3) := by decide +kernel
theorem dX4_claim_64 : decode cX4_claim 64 = .ok (.iload_n 3, 1) := by decide +kernel
theorem dX4_claim_65 : decode cX4_claim 65 = .ok (.ireturn, 1) := by decide +kernel
theorem dX4_claim_66 : decode cX4_claim 66 = .ok (.iinc 3 1, 3) := by decide +kernel
theorem dX4_claim_69 : decode cX4_claim 69 = .ok (.goto (-38), 3) := by decide +kernel
theorem dX4_claim_72 : decode cX4_claim 72 = .ok (.bipush (-6), 2) := by decide +kernel
theorem dX4_claim_74 : decode cX4_claim 74 = .ok (.ireturn, 1) := by decide +kernel
theorem dX4_isRow_0 : decode cX4_isRow 0 = .ok (.iconst 1, 1) := by decide +kernel
theorem dX4_isRow_1 : decode cX4_isRow 1 = .ok (.istore_n 1, 1) := by decide +kernel
theorem dX4_isRow_2 : decode cX4_isRow 2 = .ok (.iconst 0, 1) := by decide +kernel
theorem dX4_isRow_3 : decode cX4_isRow 3 = .ok (.istore_n 2, 1) := by decide +kernel
theorem dX4_isRow_4 : decode cX4_isRow 4 = .ok (.iload_n 2, 1) := by decide +kernel
theorem dX4_isRow_5 : decode cX4_isRow 5 = .ok (.aload_n 0, 1) := by decide +kernel
theorem dX4_isRow_6 : decode cX4_isRow 6 = .ok (.getfield 115, 3) := by decide +kernel
theorem dX4_isRow_9 : decode cX4_isRow 9 = .ok (.if_icmp .ge 37, 3) := by decide +kernel
theorem dX4_isRow_12 : decode cX4_isRow 12 = .ok (.iload_n 1, 1) := by decide +kernel
theorem dX4_isRow_13 : decode cX4_isRow 13 = .ok (.ifCond .eq 25, 3) := by decide +kernel
theorem dX4_isRow_16 : decode cX4_isRow 16 = .ok (.aload_n 0, 1) := by decide +kernel
theorem dX4_isRow_17 : decode cX4_isRow 17 = .ok (.getfield 40, 3) := by decide +kernel
theorem dX4_isRow_20 : decode cX4_isRow 20 = .ok (.iload_n 2, 1) := by decide +kernel
theorem dX4_isRow_21 : decode cX4_isRow 21 = .ok (.iaload, 1) := by decide +kernel
theorem dX4_isRow_22 : decode cX4_isRow 22 = .ok (.aload_n 0, 1) := by decide +kernel
theorem dX4_isRow_23 : decode cX4_isRow 23 = .ok (.getfield 22, 3) := by decide +kernel
theorem dX4_isRow_26 : decode cX4_isRow 26 = .ok (.iload_n 2, 1) := by decide +kernel
theorem dX4_isRow_27 : decode cX4_isRow 27 = .ok (.iaload, 1) := by decide +kernel
theorem dX4_isRow_28 : decode cX4_isRow 28 = .ok (.bipush 65, 2) := by decide +kernel
theorem dX4_isRow_30 : decode cX4_isRow 30 = .ok (.isub, 1) := by decide +kernel
theorem dX4_isRow_31 : decode cX4_isRow 31 = .ok (.if_icmp .ne 7, 3) := by decide +kernel
theorem dX4_isRow_34 : decode cX4_isRow 34 = .ok (.iconst 1, 1) := by decide +kernel
theorem dX4_isRow_35 : decode cX4_isRow 35 = .ok (.goto 4, 3) := by decide +kernel
theorem dX4_isRow_38 : decode cX4_isRow 38 = .ok (.iconst 0, 1) := by decide +kernel
theorem dX4_isRow_39 : decode cX4_isRow 39 = .ok (.istore_n 1, 1) := by decide +kernel
theorem dX4_isRow_40 : decode cX4_isRow 40 = .ok (.iinc 2 1, 3) := by decide +kernel
theorem dX4_isRow_43 : decode cX4_isRow 43 = .ok (.goto (-39), 3) := by decide +kernel
theorem dX4_isRow_46 : decode cX4_isRow 46 = .ok (.iload_n 1, 1) := by decide +kernel
theorem dX4_isRow_47 : decode cX4_isRow 47 = .ok (.ireturn, 1) := by decide +kernel
theorem dX4_areAllTold_0 : decode cX4_areAllTold 0 = .ok (.aload_n 0, 1) := by decide +kernel
theorem dX4_areAllTold_1 : decode cX4_areAllTold 1 = .ok (.invokevirtual 144, 3) := by decide +kernel
theorem dX4_areAllTold_4 : decode cX4_areAllTold 4 = .ok (.ifCond .ge 21, 3) := by decide +kernel
theorem dX4_areAllTold_7 : decode cX4_areAllTold 7 = .ok (.aload_n 0, 1) := by decide +kernel
theorem dX4_areAllTold_8 : decode cX4_areAllTold 8 = .ok (.getfield 97, 3) := by decide +kernel
theorem dX4_areAllTold_11 : decode cX4_areAllTold 11 = .ok (.aload_n 0, 1) := by decide +kernel
theorem dX4_areAllTold_12 : decode cX4_areAllTold 12 = .ok (.getfield 67, 3) := by decide +kernel
theorem dX4_areAllTold_15 : decode cX4_areAllTold 15 = .ok (.invokestatic 76, 3) := by decide +kernel
theorem dX4_areAllTold_18 : decode cX4_areAllTold 18 = .ok (.if_icmp .ne 7, 3) := by decide +kernel
theorem dX4_areAllTold_21 : decode cX4_areAllTold 21 = .ok (.iconst 1, 1) := by decide +kernel
theorem dX4_areAllTold_22 : decode cX4_areAllTold 22 = .ok (.goto 4, 3) := by decide +kernel
theorem dX4_areAllTold_25 : decode cX4_areAllTold 25 = .ok (.iconst 0, 1) := by decide +kernel
theorem dX4_areAllTold_26 : decode cX4_areAllTold 26 = .ok (.ireturn, 1) := by decide +kernel
theorem dX4_isRowBy_0 : decode cX4_isRowBy 0 = .ok (.aload_n 0, 1) := by decide +kernel
theorem dX4_isRowBy_1 : decode cX4_isRowBy 1 = .ok (.invokevirtual 124, 3) := by decide +kernel
theorem dX4_isRowBy_4 : decode cX4_isRowBy 4 = .ok (.aload_n 0, 1) := by decide +kernel
theorem dX4_isRowBy_5 : decode cX4_isRowBy 5 = .ok (.getfield 25, 3) := by decide +kernel
theorem dX4_isRowBy_8 : decode cX4_isRowBy 8 = .ok (.iload_n 1, 1) := by decide +kernel
theorem dX4_isRowBy_9 : decode cX4_isRowBy 9 = .ok (.iload_n 2, 1) := by decide +kernel
theorem dX4_isRowBy_10 : decode cX4_isRowBy 10 = .ok (.iastore, 1) := by decide +kernel
theorem dX4_isRowBy_11 : decode cX4_isRowBy 11 = .ok (.aload_n 0, 1) := by decide +kernel
theorem dX4_isRowBy_12 : decode cX4_isRowBy 12 = .ok (.aload_n 0, 1) := by decide +kernel
theorem dX4_isRowBy_13 : decode cX4_isRowBy 13 = .ok (.getfield 67, 3) := by decide +kernel
theorem dX4_isRowBy_16 : decode cX4_isRowBy 16 = .ok (.bipush 99, 2) := by decide +kernel
theorem dX4_isRowBy_18 : decode cX4_isRowBy 18 = .ok (.invokevirtual 127, 3) := by decide +kernel
theorem dX4_isRowBy_21 : decode cX4_isRowBy 21 = .ok (.aload_n 0, 1) := by decide +kernel
theorem dX4_isRowBy_22 : decode cX4_isRowBy 22 = .ok (.invokevirtual 151, 3) := by decide +kernel
theorem dX4_isRowBy_25 : decode cX4_isRowBy 25 = .ok (.ireturn, 1) := by decide +kernel
theorem dX4_lied_0 : decode cX4_lied 0 = .ok (.aload_n 0, 1) := by decide +kernel
theorem dX4_lied_1 : decode cX4_lied 1 = .ok (.invokevirtual 155, 3) := by decide +kernel
theorem dX4_lied_4 : decode cX4_lied 4 = .ok (.ifCond .ne 6, 3) := by decide +kernel
theorem dX4_lied_7 : decode cX4_lied 7 = .ok (.bipush (-5), 2) := by decide +kernel
theorem dX4_lied_9 : decode cX4_lied 9 = .ok (.ireturn, 1) := by decide +kernel
theorem dX4_lied_10 : decode cX4_lied 10 = .ok (.iconst 0, 1) := by decide +kernel
theorem dX4_lied_11 : decode cX4_lied 11 = .ok (.istore_n 1, 1) := by decide +kernel
theorem dX4_lied_12 : decode cX4_lied 12 = .ok (.iconst 0, 1) := by decide +kernel
theorem dX4_lied_13 : decode cX4_lied 13 = .ok (.istore_n 2, 1) := by decide +kernel
theorem dX4_lied_14 : decode cX4_lied 14 = .ok (.iload_n 2, 1) := by decide +kernel
theorem dX4_lied_15 : decode cX4_lied 15 = .ok (.bipush 8, 2) := by decide +kernel
theorem dX4_lied_17 : decode cX4_lied 17 = .ok (.if_icmp .ge 50, 3) := by decide +kernel
theorem dX4_lied_20 : decode cX4_lied 20 = .ok (.iconst 0, 1) := by decide +kernel
theorem dX4_lied_21 : decode cX4_lied 21 = .ok (.istore_n 3, 1) := by decide +kernel
theorem dX4_lied_22 : decode cX4_lied 22 = .ok (.iload_n 3, 1) := by decide +kernel
theorem dX4_lied_23 : decode cX4_lied 23 = .ok (.bipush 100, 2) := by decide +kernel
theorem dX4_lied_25 : decode cX4_lied 25 = .ok (.if_icmp .ge 36, 3) := by decide +kernel
theorem dX4_lied_28 : decode cX4_lied 28 = .ok (.aload_n 0, 1) := by decide +kernel
theorem dX4_lied_29 : decode cX4_lied 29 = .ok (.iload_n 2, 1) := by decide +kernel
theorem dX4_lied_30 : decode cX4_lied 30 = .ok (.invokevirtual 80, 3) := by decide +kernel
theorem dX4_lied_33 : decode cX4_lied 33 = .ok (.ifCond .eq 28, 3) := by decide +kernel
theorem dX4_lied_36 : decode cX4_lied 36 = .ok (.iload_n 1, 1) := by decide +kernel
theorem dX4_lied_37 : decode cX4_lied 37 = .ok (.aload_n 0, 1) := by decide +kernel
theorem dX4_lied_38 : decode cX4_lied 38 = .ok (.iload_n 2, 1) := by decide +kernel
theorem dX4_lied_39 : decode cX4_lied 39 = .ok (.iload_n 3, 1) := by decide +kernel
theorem dX4_lied_40 : decode cX4_lied 40 = .ok (.invokevirtual 158, 3) := by decide +kernel
theorem dX4_lied_43 : decode cX4_lied 43 = .ok (.ifCond .eq 9, 3) := by decide +kernel
theorem dX4_lied_46 : decode cX4_lied 46 = .ok (.iconst 1, 1) := by decide +kernel
theorem dX4_lied_47 : decode cX4_lied 47 = .ok (.iload_n 2, 1) := by decide +kernel
theorem dX4_lied_48 : decode cX4_lied 48 = .ok (.ishl, 1) := by decide +kernel
theorem dX4_lied_49 : decode cX4_lied 49 = .ok (.goto 4, 3) := by decide +kernel
theorem dX4_lied_52 : decode cX4_lied 52 = .ok (.iconst 0, 1) := by decide +kernel
theorem dX4_lied_53 : decode cX4_lied 53 = .ok (.ior, 1) := by decide +kernel
theorem dX4_lied_54 : decode cX4_lied 54 = .ok (.istore_n 1, 1) := by decide +kernel
theorem dX4_lied_55 : decode cX4_lied 55 = .ok (.iinc 3 1, 3) := by decide +kernel
theorem dX4_lied_58 : decode cX4_lied 58 = .ok (.goto (-36), 3) := by decide +kernel
theorem dX4_lied_61 : decode cX4_lied 61 = .ok (.iinc 2 1, 3) := by decide +kernel
theorem dX4_lied_64 : decode cX4_lied 64 = .ok (.goto (-50), 3) := by decide +kernel
theorem dX4_lied_67 : decode cX4_lied 67 = .ok (.iload_n 1, 1) := by decide +kernel
theorem dX4_lied_68 : decode cX4_lied 68 = .ok (.ireturn, 1) := by decide +kernel
theorem dX4_could_0 : decode cX4_could 0 = .ok (.aload_n 0, 1) := by decide +kernel
theorem dX4_could_1 : decode cX4_could 1 = .ok (.iload_n 1, 1) := by decide +kernel
theorem dX4_could_2 : decode cX4_could 2 = .ok (.invokevirtual 80, 3) := by decide +kernel
theorem dX4_could_5 : decode cX4_could 5 = .ok (.ifCond .ne 5, 3) := by decide +kernel
theorem dX4_could_8 : decode cX4_could 8 = .ok (.iconst (-1), 1) := by decide +kernel
theorem dX4_could_9 : decode cX4_could 9 = .ok (.ireturn, 1) := by decide +kernel
theorem dX4_could_10 : decode cX4_could 10 = .ok (.iload_n 2, 1) := by decide +kernel
theorem dX4_could_11 : decode cX4_could 11 = .ok (.i2l, 1) := by decide +kernel
theorem dX4_could_12 : decode cX4_could 12 = .ok (.lconst 0, 1) := by decide +kernel
theorem dX4_could_13 : decode cX4_could 13 = .ok (.lconst 1, 1) := by decide +kernel
theorem dX4_could_14 : decode cX4_could 14 = .ok (.invokestatic 59, 3) := by decide +kernel
theorem dX4_could_17 : decode cX4_could 17 = .ok (.ifCond .ne 6, 3) := by decide +kernel
theorem dX4_could_20 : decode cX4_could 20 = .ok (.bipush (-2), 2) := by decide +kernel
theorem dX4_could_22 : decode cX4_could 22 = .ok (.ireturn, 1) := by decide +kernel
theorem dX4_could_23 : decode cX4_could 23 = .ok (.aload_n 0, 1) := by decide +kernel
theorem dX4_could_24 : decode cX4_could 24 = .ok (.invokevirtual 155, 3) := by decide +kernel
theorem dX4_could_27 : decode cX4_could 27 = .ok (.ifCond .ne 6, 3) := by decide +kernel
theorem dX4_could_30 : decode cX4_could 30 = .ok (.bipush (-5), 2) := by decide +kernel
theorem dX4_could_32 : decode cX4_could 32 = .ok (.ireturn, 1) := by decide +kernel
theorem dX4_could_33 : decode cX4_could 33 = .ok (.bipush (-6), 2) := by decide +kernel
theorem dX4_could_35 : decode cX4_could 35 = .ok (.istore_n 3, 1) := by decide +kernel
theorem dX4_could_36 : decode cX4_could 36 = .ok (.iconst 0, 1) := by decide +kernel
theorem dX4_could_37 : decode cX4_could 37 = .ok (.istore 4, 2) := by decide +kernel
theorem dX4_could_39 : decode cX4_could 39 = .ok (.iload 4, 2) := by decide +kernel
theorem dX4_could_41 : decode cX4_could 41 = .ok (.bipush 100, 2) := by decide +kernel
theorem dX4_could_43 : decode cX4_could 43 = .ok (.if_icmp .ge 47, 3) := by decide +kernel
theorem dX4_could_46 : decode cX4_could 46 = .ok (.iload_n 2, 1) := by decide +kernel
theorem dX4_could_47 : decode cX4_could 47 = .ok (.iconst 1, 1) := by decide +kernel
theorem dX4_could_48 : decode cX4_could 48 = .ok (.if_icmp .eq 7, 3) := by decide +kernel
theorem dX4_could_51 : decode cX4_could 51 = .ok (.iload_n 3, 1) := by decide +kernel
theorem dX4_could_52 : decode cX4_could 52 = .ok (.ifCond .ge 7, 3) := by decide +kernel
theorem dX4_could_55 : decode cX4_could 55 = .ok (.iconst 1, 1) := by decide +kernel
theorem dX4_could_56 : decode cX4_could 56 = .ok (.goto 4, 3) := by decide +kernel
theorem dX4_could_59 : decode cX4_could 59 = .ok (.iconst 0, 1) := by decide +kernel
theorem dX4_could_60 : decode cX4_could 60 = .ok (.istore 5, 2) := by decide +kernel
theorem dX4_could_62 : decode cX4_could 62 = .ok (.iload 5, 2) := by decide +kernel
theorem dX4_could_64 : decode cX4_could 64 = .ok (.ifCond .eq 18, 3) := by decide +kernel
theorem dX4_could_67 : decode cX4_could 67 = .ok (.aload_n 0, 1) := by decide +kernel
theorem dX4_could_68 : decode cX4_could 68 = .ok (.iload_n 1, 1) := by decide +kernel
theorem dX4_could_69 : decode cX4_could 69 = .ok (.iload 4, 2) := by decide +kernel
theorem dX4_could_71 : decode cX4_could 71 = .ok (.invokevirtual 158, 3) := by decide +kernel
theorem dX4_could_74 : decode cX4_could 74 = .ok (.ifCond .eq 8, 3) := by decide +kernel
theorem dX4_could_77 : decode cX4_could 77 = .ok (.iload 4, 2) := by decide +kernel
theorem dX4_could_79 : decode cX4_could 79 = .ok (.goto 4, 3) := by decide +kernel
theorem dX4_could_82 : decode cX4_could 82 = .ok (.iload_n 3, 1) := by decide +kernel
theorem dX4_could_83 : decode cX4_could 83 = .ok (.istore_n 3, 1) := by decide +kernel
theorem dX4_could_84 : decode cX4_could 84 = .ok (.iinc 4 1, 3) := by decide +kernel
theorem dX4_could_87 : decode cX4_could 87 = .ok (.goto (-48), 3) := by decide +kernel
theorem dX4_could_90 : decode cX4_could 90 = .ok (.iload_n 3, 1) := by decide +kernel
theorem dX4_could_91 : decode cX4_could 91 = .ok (.ireturn, 1) := by decide +kernel
theorem dX4_law_0 : decode cX4_law 0 = .ok (.iload_n 1, 1) := by decide +kernel
theorem dX4_law_1 : decode cX4_law 1 = .ok (.i2l, 1) := by decide +kernel
theorem dX4_law_2 : decode cX4_law 2 = .ok (.lconst 0, 1) := by decide +kernel
theorem dX4_law_3 : decode cX4_law 3 = .ok (.ldc2_w 162, 3) := by decide +kernel
theorem dX4_law_6 : decode cX4_law 6 = .ok (.invokestatic 59, 3) := by decide +kernel
theorem dX4_law_9 : decode cX4_law 9 = .ok (.ifCond .ne 6, 3) := by decide +kernel
theorem dX4_law_12 : decode cX4_law 12 = .ok (.bipush (-2), 2) := by decide +kernel
theorem dX4_law_14 : decode cX4_law 14 = .ok (.ireturn, 1) := by decide +kernel
theorem dX4_law_15 : decode cX4_law 15 = .ok (.bipush (-6), 2) := by decide +kernel
theorem dX4_law_17 : decode cX4_law 17 = .ok (.istore_n 2, 1) := by decide +kernel
theorem dX4_law_18 : decode cX4_law 18 = .ok (.iconst 0, 1) := by decide +kernel
theorem dX4_law_19 : decode cX4_law 19 = .ok (.istore_n 3, 1) := by decide +kernel
theorem dX4_law_20 : decode cX4_law 20 = .ok (.iconst 0, 1) := by decide +kernel
theorem dX4_law_21 : decode cX4_law 21 = .ok (.istore 4, 2) := by decide +kernel
theorem dX4_law_23 : decode cX4_law 23 = .ok (.iconst 1, 1) := by decide +kernel
theorem dX4_law_24 : decode cX4_law 24 = .ok (.istore 5, 2) := by decide +kernel
theorem dX4_law_26 : decode cX4_law 26 = .ok (.iload 5, 2) := by decide +kernel
theorem dX4_law_28 : decode cX4_law 28 = .ok (.bipush 16, 2) := by decide +kernel
theorem dX4_law_30 : decode cX4_law 30 = .ok (.if_icmp .ge 92, 3) := by decide +kernel
theorem dX4_law_33 : decode cX4_law 33 = .ok (.aload_n 0, 1) := by decide +kernel
theorem dX4_law_34 : decode cX4_law 34 = .ok (.invokevirtual 124, 3) := by decide +kernel
theorem dX4_law_37 : decode cX4_law 37 = .ok (.aload_n 0, 1) := by decide +kernel
theorem dX4_law_38 : decode cX4_law 38 = .ok (.iload 5, 2) := by decide +kernel
theorem dX4_law_40 : decode cX4_law 40 = .ok (.iconst 4, 1) := by decide +kernel
theorem dX4_law_41 : decode cX4_law 41 = .ok (.idiv, 1) := by decide +kernel
theorem dX4_law_42 : decode cX4_law 42 = .ok (.putfield 100, 3) := by decide +kernel
theorem dX4_law_45 : decode cX4_law 45 = .ok (.aload_n 0, 1) := by decide +kernel
theorem dX4_law_46 : decode cX4_law 46 = .ok (.iload 5, 2) := by decide +kernel
theorem dX4_law_48 : decode cX4_law 48 = .ok (.iconst 4, 1) := by decide +kernel
theorem dX4_law_49 : decode cX4_law 49 = .ok (.irem, 1) := by decide +kernel
theorem dX4_law_50 : decode cX4_law 50 = .ok (.putfield 103, 3) := by decide +kernel
theorem dX4_law_53 : decode cX4_law 53 = .ok (.aload_n 0, 1) := by decide +kernel
theorem dX4_law_54 : decode cX4_law 54 = .ok (.aload_n 0, 1) := by decide +kernel
theorem dX4_law_55 : decode cX4_law 55 = .ok (.getfield 67, 3) := by decide +kernel
theorem dX4_law_58 : decode cX4_law 58 = .ok (.bipush 99, 2) := by decide +kernel
theorem dX4_law_60 : decode cX4_law 60 = .ok (.invokevirtual 127, 3) := by decide +kernel
theorem dX4_law_63 : decode cX4_law 63 = .ok (.aload_n 0, 1) := by decide +kernel
theorem dX4_law_64 : decode cX4_law 64 = .ok (.aload_n 0, 1) := by decide +kernel
theorem dX4_law_65 : decode cX4_law 65 = .ok (.getfield 67, 3) := by decide +kernel
theorem dX4_law_68 : decode cX4_law 68 = .ok (.invokevirtual 134, 3) := by decide +kernel
theorem dX4_law_71 : decode cX4_law 71 = .ok (.istore 6, 2) := by decide +kernel
theorem dX4_law_73 : decode cX4_law 73 = .ok (.aload_n 0, 1) := by decide +kernel
theorem dX4_law_74 : decode cX4_law 74 = .ok (.aload_n 0, 1) := by decide +kernel
theorem dX4_law_75 : decode cX4_law 75 = .ok (.getfield 67, 3) := by decide +kernel
theorem dX4_law_78 : decode cX4_law 78 = .ok (.invokevirtual 141, 3) := by decide +kernel
theorem dX4_law_81 : decode cX4_law 81 = .ok (.istore 7, 2) := by decide +kernel
theorem dX4_law_83 : decode cX4_law 83 = .ok (.iload_n 2, 1) := by decide +kernel
theorem dX4_law_84 : decode cX4_law 84 = .ok (.ifCond .lt 22, 3) := by decide +kernel
theorem dX4_law_87 : decode cX4_law 87 = .ok (.iload 6, 2) := by decide +kernel
theorem dX4_law_89 : decode cX4_law 89 = .ok (.iload_n 3, 1) := by decide +kernel
theorem dX4_law_90 : decode cX4_law 90 = .ok (.if_icmp .lt 16, 3) := by decide +kernel
theorem dX4_law_93 : decode cX4_law 93 = .ok (.iload 6, 2) := by decide +kernel
theorem dX4_law_95 : decode cX4_law 95 = .ok (.iload_n 3, 1) := by decide +kernel
theorem dX4_law_96 : decode cX4_law 96 = .ok (.if_icmp .ne 20, 3) := by decide +kernel
theorem dX4_law_99 : decode cX4_law 99 = .ok (.iload 7, 2) := by decide +kernel
theorem dX4_law_101 : decode cX4_law 101 = .ok (.iload 4, 2) := by decide +kernel
theorem dX4_law_103 : decode cX4_law 103 = .ok (.if_icmp .ge 13, 3) := by decide +kernel
theorem dX4_law_106 : decode cX4_law 106 = .ok (.iload 5, 2) := by decide +kernel
theorem dX4_law_108 : decode cX4_law 108 = .ok (.istore_n 2, 1) := by decide +kernel
theorem dX4_law_109 : decode cX4_law 109 = .ok (.iload 6, 2) := by decide +kernel
theorem dX4_law_111 : decode cX4_law 111 = .ok (.istore_n 3, 1) := by decide +kernel
theorem dX4_law_112 : decode cX4_law 112 = .ok (.iload 7, 2) := by decide +kernel
theorem dX4_law_114 : decode cX4_law 114 = .ok (.istore 4, 2) := by decide +kernel
theorem dX4_law_116 : decode cX4_law 116 = .ok (.iinc 5 1, 3) := by decide +kernel
theorem dX4_law_119 : decode cX4_law 119 = .ok (.goto (-93), 3) := by decide +kernel
theorem dX4_law_122 : decode cX4_law 122 = .ok (.iload_n 1, 1) := by decide +kernel
theorem dX4_law_123 : decode cX4_law 123 = .ok (.ifCond .ne 9, 3) := by decide +kernel
theorem dX4_law_126 : decode cX4_law 126 = .ok (.iload_n 2, 1) := by decide +kernel
theorem dX4_law_127 : decode cX4_law 127 = .ok (.iconst 4, 1) := by decide +kernel
theorem dX4_law_128 : decode cX4_law 128 = .ok (.idiv, 1) := by decide +kernel
theorem dX4_law_129 : decode cX4_law 129 = .ok (.goto 15, 3) := by decide +kernel
theorem dX4_law_132 : decode cX4_law 132 = .ok (.iload_n 1, 1) := by decide +kernel
theorem dX4_law_133 : decode cX4_law 133 = .ok (.iconst 1, 1) := by decide +kernel
theorem dX4_law_134 : decode cX4_law 134 = .ok (.if_icmp .ne 9, 3) := by decide +kernel
theorem dX4_law_137 : decode cX4_law 137 = .ok (.iload_n 2, 1) := by decide +kernel
theorem dX4_law_138 : decode cX4_law 138 = .ok (.iconst 4, 1) := by decide +kernel
theorem dX4_law_139 : decode cX4_law 139 = .ok (.irem, 1) := by decide +kernel
theorem dX4_law_140 : decode cX4_law 140 = .ok (.goto 4, 3) := by decide +kernel
theorem dX4_law_143 : decode cX4_law 143 = .ok (.iload_n 3, 1) := by decide +kernel
theorem dX4_law_144 : decode cX4_law 144 = .ok (.ireturn, 1) := by decide +kernel
theorem dX4_home_0 : decode cX4_home 0 = .ok (.aload_n 0, 1) := by decide +kernel
theorem dX4_home_1 : decode cX4_home 1 = .ok (.iload_n 1, 1) := by decide +kernel
theorem dX4_home_2 : decode cX4_home 2 = .ok (.invokevirtual 80, 3) := by decide +kernel
theorem dX4_home_5 : decode cX4_home 5 = .ok (.ifCond .ne 5, 3) := by decide +kernel
theorem dX4_home_8 : decode cX4_home 8 = .ok (.iconst (-1), 1) := by decide +kernel
theorem dX4_home_9 : decode cX4_home 9 = .ok (.ireturn, 1) := by decide +kernel
theorem dX4_home_10 : decode cX4_home 10 = .ok (.iload_n 2, 1) := by decide +kernel
theorem dX4_home_11 : decode cX4_home 11 = .ok (.i2l, 1) := by decide +kernel
theorem dX4_home_12 : decode cX4_home 12 = .ok (.lconst 0, 1) := by decide +kernel
theorem dX4_home_13 : decode cX4_home 13 = .ok (.ldc2_w 70, 3) := by decide +kernel
theorem dX4_home_16 : decode cX4_home 16 = .ok (.invokestatic 59, 3) := by decide +kernel
theorem dX4_home_19 : decode cX4_home 19 = .ok (.ifCond .eq 13, 3) := by decide +kernel
theorem dX4_home_22 : decode cX4_home 22 = .ok (.iload_n 3, 1) := by decide +kernel
theorem dX4_home_23 : decode cX4_home 23 = .ok (.i2l, 1) := by decide +kernel
theorem dX4_home_24 : decode cX4_home 24 = .ok (.lconst 0, 1) := by decide +kernel
theorem dX4_home_25 : decode cX4_home 25 = .ok (.lconst 1, 1) := by decide +kernel
theorem dX4_home_26 : decode cX4_home 26 = .ok (.invokestatic 59, 3) := by decide +kernel
theorem dX4_home_29 : decode cX4_home 29 = .ok (.ifCond .ne 6, 3) := by decide +kernel
theorem dX4_home_32 : decode cX4_home 32 = .ok (.bipush (-2), 2) := by decide +kernel
theorem dX4_home_34 : decode cX4_home 34 = .ok (.ireturn, 1) := by decide +kernel
theorem dX4_home_35 : decode cX4_home 35 = .ok (.aload_n 0, 1) := by decide +kernel
theorem dX4_home_36 : decode cX4_home 36 = .ok (.invokevirtual 124, 3) := by decide +kernel
theorem dX4_home_39 : decode cX4_home 39 = .ok (.bipush (-6), 2) := by decide +kernel
theorem dX4_home_41 : decode cX4_home 41 = .ok (.istore 4, 2) := by decide +kernel
theorem dX4_home_43 : decode cX4_home 43 = .ok (.ldc 114, 2) := by decide +kernel
theorem dX4_home_45 : decode cX4_home 45 = .ok (.istore 5, 2) := by decide +kernel
theorem dX4_home_47 : decode cX4_home 47 = .ok (.iconst 0, 1) := by decide +kernel
theorem dX4_home_48 : decode cX4_home 48 = .ok (.istore 6, 2) := by decide +kernel
theorem dX4_home_50 : decode cX4_home 50 = .ok (.iload 6, 2) := by decide +kernel
theorem dX4_home_52 : decode cX4_home 52 = .ok (.bipush 100, 2) := by decide +kernel
theorem dX4_home_54 : decode cX4_home 54 = .ok (.if_icmp .ge 75, 3) := by decide +kernel
theorem dX4_home_57 : decode cX4_home 57 = .ok (.aload_n 0, 1) := by decide +kernel
theorem dX4_home_58 : decode cX4_home 58 = .ok (.getfield 25, 3) := by decide +kernel
theorem dX4_home_61 : decode cX4_home 61 = .ok (.iload_n 1, 1) := by decide +kernel
theorem dX4_home_62 : decode cX4_home 62 = .ok (.iload 6, 2) := by decide +kernel
theorem dX4_home_64 : decode cX4_home 64 = .ok (.iastore, 1) := by decide +kernel
theorem dX4_home_65 : decode cX4_home 65 = .ok (.aload_n 0, 1) := by decide +kernel
theorem dX4_home_66 : decode cX4_home 66 = .ok (.aload_n 0, 1) := by decide +kernel
theorem dX4_home_67 : decode cX4_home 67 = .ok (.getfield 67, 3) := by decide +kernel
theorem dX4_home_70 : decode cX4_home 70 = .ok (.bipush 99, 2) := by decide +kernel
theorem dX4_home_72 : decode cX4_home 72 = .ok (.invokevirtual 127, 3) := by decide +kernel
theorem dX4_home_75 : decode cX4_home 75 = .ok (.aload_n 0, 1) := by decide +kernel
theorem dX4_home_76 : decode cX4_home 76 = .ok (.getfield 31, 3) := by decide +kernel
theorem dX4_home_79 : decode cX4_home 79 = .ok (.iload_n 1, 1) := by decide +kernel
theorem dX4_home_80 : decode cX4_home 80 = .ok (.iaload, 1) := by decide +kernel
theorem dX4_home_81 : decode cX4_home 81 = .ok (.iload_n 2, 1) := by decide +kernel
theorem dX4_home_82 : decode cX4_home 82 = .ok (.bipush 99, 2) := by decide +kernel
theorem dX4_home_84 : decode cX4_home 84 = .ok (.iload 6, 2) := by decide +kernel
theorem dX4_home_86 : decode cX4_home 86 = .ok (.isub, 1) := by decide +kernel
theorem dX4_home_87 : decode cX4_home 87 = .ok (.imul, 1) := by decide +kernel
theorem dX4_home_88 : decode cX4_home 88 = .ok (.iadd, 1) := by decide +kernel
theorem dX4_home_89 : decode cX4_home 89 = .ok (.istore 7, 2) := by decide +kernel
theorem dX4_home_91 : decode cX4_home 91 = .ok (.iload 7, 2) := by decide +kernel
theorem dX4_home_93 : decode cX4_home 93 = .ok (.iload 5, 2) := by decide +kernel
theorem dX4_home_95 : decode cX4_home 95 = .ok (.if_icmp .ge 8, 3) := by decide +kernel
theorem dX4_home_98 : decode cX4_home 98 = .ok (.iload 6, 2) := by decide +kernel
theorem dX4_home_100 : decode cX4_home 100 = .ok (.goto 5, 3) := by decide +kernel
theorem dX4_home_103 : decode cX4_home 103 = .ok (.iload 4, 2) := by decide +kernel
theorem dX4_home_105 : decode cX4_home 105 = .ok (.istore 4, 2) := by decide +kernel
theorem dX4_home_107 : decode cX4_home 107 = .ok (.iload 7, 2) := by decide +kernel
theorem dX4_home_109 : decode cX4_home 109 = .ok (.iload 5, 2) := by decide +kernel
theorem dX4_home_111 : decode cX4_home 111 = .ok (.if_icmp .ge 8, 3) := by decide +kernel
theorem dX4_home_114 : decode cX4_home 114 = .ok (.iload 7, 2) := by decide +kernel
theorem dX4_home_116 : decode cX4_home 116 = .ok (.goto 5, 3) := by decide +kernel
theorem dX4_home_119 : decode cX4_home 119 = .ok (.iload 5, 2) := by decide +kernel
theorem dX4_home_121 : decode cX4_home 121 = .ok (.istore 5, 2) := by decide +kernel
theorem dX4_home_123 : decode cX4_home 123 = .ok (.iinc 6 1, 3) := by decide +kernel
theorem dX4_home_126 : decode cX4_home 126 = .ok (.goto (-76), 3) := by decide +kernel
theorem dX4_home_129 : decode cX4_home 129 = .ok (.iload_n 3, 1) := by decide +kernel
theorem dX4_home_130 : decode cX4_home 130 = .ok (.ifCond .ne 8, 3) := by decide +kernel
theorem dX4_home_133 : decode cX4_home 133 = .ok (.iload 4, 2) := by decide +kernel
theorem dX4_home_135 : decode cX4_home 135 = .ok (.goto 5, 3) := by decide +kernel
theorem dX4_home_138 : decode cX4_home 138 = .ok (.iload 5, 2) := by decide +kernel
theorem dX4_home_140 : decode cX4_home 140 = .ok (.ireturn, 1) := by decide +kernel
theorem dX4_two_0 : decode cX4_two 0 = .ok (.iload_n 1, 1) := by decide +kernel
theorem dX4_two_1 : decode cX4_two 1 = .ok (.i2l, 1) := by decide +kernel
theorem dX4_two_2 : decode cX4_two 2 = .ok (.lconst 0, 1) := by decide +kernel
theorem dX4_two_3 : decode cX4_two 3 = .ok (.ldc2_w 162, 3) := by decide +kernel
theorem dX4_two_6 : decode cX4_two 6 = .ok (.invokestatic 59, 3) := by decide +kernel
theorem dX4_two_9 : decode cX4_two 9 = .ok (.ifCond .ne 6, 3) := by decide +kernel
theorem dX4_two_12 : decode cX4_two 12 = .ok (.bipush (-2), 2) := by decide +kernel
theorem dX4_two_14 : decode cX4_two 14 = .ok (.ireturn, 1) := by decide +kernel
theorem dX4_two_15 : decode cX4_two 15 = .ok (.aload_n 0, 1) := by decide +kernel
theorem dX4_two_16 : decode cX4_two 16 = .ok (.invokevirtual 124, 3) := by decide +kernel
theorem dX4_two_19 : decode cX4_two 19 = .ok (.bipush (-6), 2) := by decide +kernel
theorem dX4_two_21 : decode cX4_two 21 = .ok (.istore_n 2, 1) := by decide +kernel
theorem dX4_two_22 : decode cX4_two 22 = .ok (.iconst 0, 1) := by decide +kernel
theorem dX4_two_23 : decode cX4_two 23 = .ok (.istore_n 3, 1) := by decide +kernel
theorem dX4_two_24 : decode cX4_two 24 = .ok (.iconst 0, 1) := by decide +kernel
theorem dX4_two_25 : decode cX4_two 25 = .ok (.istore 4, 2) := by decide +kernel
theorem dX4_two_27 : decode cX4_two 27 = .ok (.iconst 0, 1) := by decide +kernel
theorem dX4_two_28 : decode cX4_two 28 = .ok (.istore 5, 2) := by decide +kernel
theorem dX4_two_30 : decode cX4_two 30 = .ok (.iload 5, 2) := by decide +kernel
theorem dX4_two_32 : decode cX4_two 32 = .ok (.sipush 256, 3) := by decide +kernel
theorem dX4_two_35 : decode cX4_two 35 = .ok (.if_icmp .ge 97, 3) := by decide +kernel
theorem dX4_two_38 : decode cX4_two 38 = .ok (.iload 5, 2) := by decide +kernel
theorem dX4_two_40 : decode cX4_two 40 = .ok (.aload_n 0, 1) := by decide +kernel
theorem dX4_two_41 : decode cX4_two 41 = .ok (.getfield 67, 3) := by decide +kernel
theorem dX4_two_44 : decode cX4_two 44 = .ok (.iconst (-1), 1) := by decide +kernel
theorem dX4_two_45 : decode cX4_two 45 = .ok (.ixor, 1) := by decide +kernel
theorem dX4_two_46 : decode cX4_two 46 = .ok (.iand, 1) := by decide +kernel
theorem dX4_two_47 : decode cX4_two 47 = .ok (.ifCond .ne 79, 3) := by decide +kernel
theorem dX4_two_50 : decode cX4_two 50 = .ok (.aload_n 0, 1) := by decide +kernel
theorem dX4_two_51 : decode cX4_two 51 = .ok (.iload 5, 2) := by decide +kernel
theorem dX4_two_53 : decode cX4_two 53 = .ok (.bipush 99, 2) := by decide +kernel
theorem dX4_two_55 : decode cX4_two 55 = .ok (.invokevirtual 127, 3) := by decide +kernel
theorem dX4_two_58 : decode cX4_two 58 = .ok (.aload_n 0, 1) := by decide +kernel
theorem dX4_two_59 : decode cX4_two 59 = .ok (.aload_n 0, 1) := by decide +kernel
theorem dX4_two_60 : decode cX4_two 60 = .ok (.getfield 67, 3) := by decide +kernel
theorem dX4_two_63 : decode cX4_two 63 = .ok (.iload 5, 2) := by decide +kernel
theorem dX4_two_65 : decode cX4_two 65 = .ok (.iconst (-1), 1) := by decide +kernel
theorem dX4_two_66 : decode cX4_two 66 = .ok (.ixor, 1) := by decide +kernel
theorem dX4_two_67 : decode cX4_two 67 = .ok (.iand, 1) := by decide +kernel
theorem dX4_two_68 : decode cX4_two 68 = .ok (.bipush 99, 2) := by decide +kernel
theorem dX4_two_70 : decode cX4_two 70 = .ok (.invokevirtual 127, 3) := by decide +kernel
theorem dX4_two_73 : decode cX4_two 73 = .ok (.aload_n 0, 1) := by decide +kernel
theorem dX4_two_74 : decode cX4_two 74 = .ok (.aload_n 0, 1) := by decide +kernel
theorem dX4_two_75 : decode cX4_two 75 = .ok (.getfield 67, 3) := by decide +kernel
theorem dX4_two_78 : decode cX4_two 78 = .ok (.invokevirtual 134, 3) := by decide +kernel
theorem dX4_two_81 : decode cX4_two 81 = .ok (.istore 6, 2) := by decide +kernel
theorem dX4_two_83 : decode cX4_two 83 = .ok (.aload_n 0, 1) := by decide +kernel
theorem dX4_two_84 : decode cX4_two 84 = .ok (.aload_n 0, 1) := by decide +kernel
theorem dX4_two_85 : decode cX4_two 85 = .ok (.getfield 67, 3) := by decide +kernel
theorem dX4_two_88 : decode cX4_two 88 = .ok (.invokevirtual 141, 3) := by decide +kernel
theorem dX4_two_91 : decode cX4_two 91 = .ok (.istore 7, 2) := by decide +kernel
theorem dX4_two_93 : decode cX4_two 93 = .ok (.iload_n 2, 1) := by decide +kernel
theorem dX4_two_94 : decode cX4_two 94 = .ok (.ifCond .lt 22, 3) := by decide +kernel
theorem dX4_two_97 : decode cX4_two 97 = .ok (.iload 6, 2) := by decide +kernel
theorem dX4_two_99 : decode cX4_two 99 = .ok (.iload_n 3, 1) := by decide +kernel
theorem dX4_two_100 : decode cX4_two 100 = .ok (.if_icmp .lt 16, 3) := by decide +kernel
theorem dX4_two_103 : decode cX4_two 103 = .ok (.iload 6, 2) := by decide +kernel
theorem dX4_two_105 : decode cX4_two 105 = .ok (.iload_n 3, 1) := by decide +kernel
theorem dX4_two_106 : decode cX4_two 106 = .ok (.if_icmp .ne 20, 3) := by decide +kernel
theorem dX4_two_109 : decode cX4_two 109 = .ok (.iload 7, 2) := by decide +kernel
theorem dX4_two_111 : decode cX4_two 111 = .ok (.iload 4, 2) := by decide +kernel
theorem dX4_two_113 : decode cX4_two 113 = .ok (.if_icmp .ge 13, 3) := by decide +kernel
theorem dX4_two_116 : decode cX4_two 116 = .ok (.iload 5, 2) := by decide +kernel
theorem dX4_two_118 : decode cX4_two 118 = .ok (.istore_n 2, 1) := by decide +kernel
theorem dX4_two_119 : decode cX4_two 119 = .ok (.iload 6, 2) := by decide +kernel
theorem dX4_two_121 : decode cX4_two 121 = .ok (.istore_n 3, 1) := by decide +kernel
theorem dX4_two_122 : decode cX4_two 122 = .ok (.iload 7, 2) := by decide +kernel
theorem dX4_two_124 : decode cX4_two 124 = .ok (.istore 4, 2) := by decide +kernel
theorem dX4_two_126 : decode cX4_two 126 = .ok (.iinc 5 1, 3) := by decide +kernel
theorem dX4_two_129 : decode cX4_two 129 = .ok (.goto (-99), 3) := by decide +kernel
theorem dX4_two_132 : decode cX4_two 132 = .ok (.iload_n 1, 1) := by decide +kernel
theorem dX4_two_133 : decode cX4_two 133 = .ok (.ifCond .ne 7, 3) := by decide +kernel
theorem dX4_two_136 : decode cX4_two 136 = .ok (.iload_n 2, 1) := by decide +kernel
theorem dX4_two_137 : decode cX4_two 137 = .ok (.goto 14, 3) := by decide +kernel
theorem dX4_two_140 : decode cX4_two 140 = .ok (.iload_n 1, 1) := by decide +kernel
theorem dX4_two_141 : decode cX4_two 141 = .ok (.iconst 1, 1) := by decide +kernel
theorem dX4_two_142 : decode cX4_two 142 = .ok (.if_icmp .ne 7, 3) := by decide +kernel
theorem dX4_two_145 : decode cX4_two 145 = .ok (.iload_n 3, 1) := by decide +kernel
theorem dX4_two_146 : decode cX4_two 146 = .ok (.goto 5, 3) := by decide +kernel
theorem dX4_two_149 : decode cX4_two 149 = .ok (.iload 4, 2) := by decide +kernel
theorem dX4_two_151 : decode cX4_two 151 = .ok (.ireturn, 1) := by decide +kernel
theorem dX4_stay_0 : decode cX4_stay 0 = .ok (.iload_n 1, 1) := by decide +kernel
theorem dX4_stay_1 : decode cX4_stay 1 = .ok (.i2l, 1) := by decide +kernel
theorem dX4_stay_2 : decode cX4_stay 2 = .ok (.lconst 0, 1) := by decide +kernel
theorem dX4_stay_3 : decode cX4_stay 3 = .ok (.ldc2_w 149, 3) := by decide +kernel
theorem dX4_stay_6 : decode cX4_stay 6 = .ok (.invokestatic 59, 3) := by decide +kernel
theorem dX4_stay_9 : decode cX4_stay 9 = .ok (.ifCond .ne 6, 3) := by decide +kernel
theorem dX4_stay_12 : decode cX4_stay 12 = .ok (.bipush (-2), 2) := by decide +kernel
theorem dX4_stay_14 : decode cX4_stay 14 = .ok (.ireturn, 1) := by decide +kernel
theorem dX4_stay_15 : decode cX4_stay 15 = .ok (.aload_n 0, 1) := by decide +kernel
theorem dX4_stay_16 : decode cX4_stay 16 = .ok (.invokevirtual 124, 3) := by decide +kernel
theorem dX4_stay_19 : decode cX4_stay 19 = .ok (.bipush (-6), 2) := by decide +kernel
theorem dX4_stay_21 : decode cX4_stay 21 = .ok (.istore_n 2, 1) := by decide +kernel
theorem dX4_stay_22 : decode cX4_stay 22 = .ok (.iconst 0, 1) := by decide +kernel
theorem dX4_stay_23 : decode cX4_stay 23 = .ok (.istore_n 3, 1) := by decide +kernel
theorem dX4_stay_24 : decode cX4_stay 24 = .ok (.iload_n 3, 1) := by decide +kernel
theorem dX4_stay_25 : decode cX4_stay 25 = .ok (.sipush 256, 3) := by decide +kernel
theorem dX4_stay_28 : decode cX4_stay 28 = .ok (.if_icmp .ge 71, 3) := by decide +kernel
theorem dX4_stay_31 : decode cX4_stay 31 = .ok (.iload_n 3, 1) := by decide +kernel
theorem dX4_stay_32 : decode cX4_stay 32 = .ok (.aload_n 0, 1) := by decide +kernel
theorem dX4_stay_33 : decode cX4_stay 33 = .ok (.getfield 67, 3) := by decide +kernel
theorem dX4_stay_36 : decode cX4_stay 36 = .ok (.iconst (-1), 1) := by decide +kernel
theorem dX4_stay_37 : decode cX4_stay 37 = .ok (.ixor, 1) := by decide +kernel
theorem dX4_stay_38 : decode cX4_stay 38 = .ok (.iand, 1) := by decide +kernel
theorem dX4_stay_39 : decode cX4_stay 39 = .ok (.ifCond .ne 54, 3) := by decide +kernel
theorem dX4_stay_42 : decode cX4_stay 42 = .ok (.iload_n 2, 1) := by decide +kernel
theorem dX4_stay_43 : decode cX4_stay 43 = .ok (.ifCond .lt 14, 3) := by decide +kernel
theorem dX4_stay_46 : decode cX4_stay 46 = .ok (.iload_n 3, 1) := by decide +kernel
theorem dX4_stay_47 : decode cX4_stay 47 = .ok (.invokestatic 76, 3) := by decide +kernel
theorem dX4_stay_50 : decode cX4_stay 50 = .ok (.iload_n 2, 1) := by decide +kernel
theorem dX4_stay_51 : decode cX4_stay 51 = .ok (.invokestatic 76, 3) := by decide +kernel
theorem dX4_stay_54 : decode cX4_stay 54 = .ok (.if_icmp .ge 39, 3) := by decide +kernel
theorem dX4_stay_57 : decode cX4_stay 57 = .ok (.aload_n 0, 1) := by decide +kernel
theorem dX4_stay_58 : decode cX4_stay 58 = .ok (.aload_n 0, 1) := by decide +kernel
theorem dX4_stay_59 : decode cX4_stay 59 = .ok (.getfield 67, 3) := by decide +kernel
theorem dX4_stay_62 : decode cX4_stay 62 = .ok (.iload_n 3, 1) := by decide +kernel
theorem dX4_stay_63 : decode cX4_stay 63 = .ok (.iconst (-1), 1) := by decide +kernel
theorem dX4_stay_64 : decode cX4_stay 64 = .ok (.ixor, 1) := by decide +kernel
theorem dX4_stay_65 : decode cX4_stay 65 = .ok (.iand, 1) := by decide +kernel
theorem dX4_stay_66 : decode cX4_stay 66 = .ok (.bipush 99, 2) := by decide +kernel
theorem dX4_stay_68 : decode cX4_stay 68 = .ok (.invokevirtual 127, 3) := by decide +kernel
theorem dX4_stay_71 : decode cX4_stay 71 = .ok (.aload_n 0, 1) := by decide +kernel
theorem dX4_stay_72 : decode cX4_stay 72 = .ok (.aload_n 0, 1) := by decide +kernel
theorem dX4_stay_73 : decode cX4_stay 73 = .ok (.getfield 67, 3) := by decide +kernel
theorem dX4_stay_76 : decode cX4_stay 76 = .ok (.iload_n 3, 1) := by decide +kernel
theorem dX4_stay_77 : decode cX4_stay 77 = .ok (.iconst (-1), 1) := by decide +kernel
theorem dX4_stay_78 : decode cX4_stay 78 = .ok (.ixor, 1) := by decide +kernel
theorem dX4_stay_79 : decode cX4_stay 79 = .ok (.iand, 1) := by decide +kernel
theorem dX4_stay_80 : decode cX4_stay 80 = .ok (.invokevirtual 134, 3) := by decide +kernel
theorem dX4_stay_83 : decode cX4_stay 83 = .ok (.iload_n 1, 1) := by decide +kernel
theorem dX4_stay_84 : decode cX4_stay 84 = .ok (.if_icmp .gt 7, 3) := by decide +kernel
theorem dX4_stay_87 : decode cX4_stay 87 = .ok (.iload_n 3, 1) := by decide +kernel
theorem dX4_stay_88 : decode cX4_stay 88 = .ok (.goto 4, 3) := by decide +kernel
theorem dX4_stay_91 : decode cX4_stay 91 = .ok (.iload_n 2, 1) := by decide +kernel
theorem dX4_stay_92 : decode cX4_stay 92 = .ok (.istore_n 2, 1) := by decide +kernel
theorem dX4_stay_93 : decode cX4_stay 93 = .ok (.iinc 3 1, 3) := by decide +kernel
theorem dX4_stay_96 : decode cX4_stay 96 = .ok (.goto (-72), 3) := by decide +kernel
theorem dX4_stay_99 : decode cX4_stay 99 = .ok (.iload_n 2, 1) := by decide +kernel
theorem dX4_stay_100 : decode cX4_stay 100 = .ok (.ireturn, 1) := by decide +kernel
theorem dX4_day_0 : decode cX4_day 0 = .ok (.iload_n 1, 1) := by decide +kernel
theorem dX4_day_1 : decode cX4_day 1 = .ok (.i2l, 1) := by decide +kernel
theorem dX4_day_2 : decode cX4_day 2 = .ok (.lconst 0, 1) := by decide +kernel
theorem dX4_day_3 : decode cX4_day 3 = .ok (.ldc2_w 149, 3) := by decide +kernel
theorem dX4_day_6 : decode cX4_day 6 = .ok (.invokestatic 59, 3) := by decide +kernel
theorem dX4_day_9 : decode cX4_day 9 = .ok (.ifCond .eq 13, 3) := by decide +kernel
theorem dX4_day_12 : decode cX4_day 12 = .ok (.iload_n 2, 1) := by decide +kernel
theorem dX4_day_13 : decode cX4_day 13 = .ok (.i2l, 1) := by decide +kernel
theorem dX4_day_14 : decode cX4_day 14 = .ok (.lconst 0, 1) := by decide +kernel
theorem dX4_day_15 : decode cX4_day 15 = .ok (.lconst 1, 1) := by decide +kernel
theorem dX4_day_16 : decode cX4_day 16 = .ok (.invokestatic 59, 3) := by decide +kernel
theorem dX4_day_19 : decode cX4_day 19 = .ok (.ifCond .ne 6, 3) := by decide +kernel
theorem dX4_day_22 : decode cX4_day 22 = .ok (.bipush (-2), 2) := by decide +kernel
theorem dX4_day_24 : decode cX4_day 24 = .ok (.ireturn, 1) := by decide +kernel
theorem dX4_day_25 : decode cX4_day 25 = .ok (.aload_n 0, 1) := by decide +kernel
theorem dX4_day_26 : decode cX4_day 26 = .ok (.invokevirtual 124, 3) := by decide +kernel
theorem dX4_day_29 : decode cX4_day 29 = .ok (.iload_n 1, 1) := by decide +kernel
theorem dX4_day_30 : decode cX4_day 30 = .ok (.istore_n 3, 1) := by decide +kernel
theorem dX4_day_31 : decode cX4_day 31 = .ok (.iconst 0, 1) := by decide +kernel
theorem dX4_day_32 : decode cX4_day 32 = .ok (.istore 4, 2) := by decide +kernel
theorem dX4_day_34 : decode cX4_day 34 = .ok (.iload 4, 2) := by decide +kernel
theorem dX4_day_36 : decode cX4_day 36 = .ok (.bipush 8, 2) := by decide +kernel
theorem dX4_day_38 : decode cX4_day 38 = .ok (.if_icmp .ge 46, 3) := by decide +kernel
theorem dX4_day_41 : decode cX4_day 41 = .ok (.aload_n 0, 1) := by decide +kernel
theorem dX4_day_42 : decode cX4_day 42 = .ok (.iload 4, 2) := by decide +kernel
theorem dX4_day_44 : decode cX4_day 44 = .ok (.invokevirtual 80, 3) := by decide +kernel
theorem dX4_day_47 : decode cX4_day 47 = .ok (.ifCond .eq 31, 3) := by decide +kernel
theorem dX4_day_50 : decode cX4_day 50 = .ok (.ldc2_w 164, 3) := by decide +kernel
theorem dX4_day_53 : decode cX4_day 53 = .ok (.iload_n 3, 1) := by decide +kernel
theorem dX4_day_54 : decode cX4_day 54 = .ok (.i2l, 1) := by decide +kernel
theorem dX4_day_55 : decode cX4_day 55 = .ok (.lmul, 1) := by decide +kernel
theorem dX4_day_56 : decode cX4_day 56 = .ok (.ldc2_w 166, 3) := by decide +kernel
theorem dX4_day_59 : decode cX4_day 59 = .ok (.ladd, 1) := by decide +kernel
theorem dX4_day_60 : decode cX4_day 60 = .ok (.ldc2_w 168, 3) := by decide +kernel
theorem dX4_day_63 : decode cX4_day 63 = .ok (.lrem, 1) := by decide +kernel
theorem dX4_day_64 : decode cX4_day 64 = .ok (.l2i, 1) := by decide +kernel
theorem dX4_day_65 : decode cX4_day 65 = .ok (.istore_n 3, 1) := by decide +kernel
theorem dX4_day_66 : decode cX4_day 66 = .ok (.aload_n 0, 1) := by decide +kernel
theorem dX4_day_67 : decode cX4_day 67 = .ok (.getfield 28, 3) := by decide +kernel
theorem dX4_day_70 : decode cX4_day 70 = .ok (.iload 4, 2) := by decide +kernel
theorem dX4_day_72 : decode cX4_day 72 = .ok (.iload_n 3, 1) := by decide +kernel
theorem dX4_day_73 : decode cX4_day 73 = .ok (.sipush 600, 3) := by decide +kernel
theorem dX4_day_76 : decode cX4_day 76 = .ok (.irem, 1) := by decide +kernel
theorem dX4_day_77 : decode cX4_day 77 = .ok (.iastore, 1) := by decide +kernel
theorem dX4_day_78 : decode cX4_day 78 = .ok (.iinc 4 1, 3) := by decide +kernel
theorem dX4_day_81 : decode cX4_day 81 = .ok (.goto (-47), 3) := by decide +kernel
theorem dX4_day_84 : decode cX4_day 84 = .ok (.aload_n 0, 1) := by decide +kernel
theorem dX4_day_85 : decode cX4_day 85 = .ok (.aload_n 0, 1) := by decide +kernel
theorem dX4_day_86 : decode cX4_day 86 = .ok (.getfield 67, 3) := by decide +kernel
theorem dX4_day_89 : decode cX4_day 89 = .ok (.bipush 99, 2) := by decide +kernel
theorem dX4_day_91 : decode cX4_day 91 = .ok (.invokevirtual 127, 3) := by decide +kernel
theorem dX4_day_94 : decode cX4_day 94 = .ok (.iload_n 2, 1) := by decide +kernel
theorem dX4_day_95 : decode cX4_day 95 = .ok (.ifCond .ne 14, 3) := by decide +kernel
theorem dX4_day_98 : decode cX4_day 98 = .ok (.aload_n 0, 1) := by decide +kernel
theorem dX4_day_99 : decode cX4_day 99 = .ok (.aload_n 0, 1) := by decide +kernel
theorem dX4_day_100 : decode cX4_day 100 = .ok (.getfield 67, 3) := by decide +kernel
theorem dX4_day_103 : decode cX4_day 103 = .ok (.invokevirtual 134, 3) := by decide +kernel
theorem dX4_day_106 : decode cX4_day 106 = .ok (.goto 11, 3) := by decide +kernel
theorem dX4_day_109 : decode cX4_day 109 = .ok (.aload_n 0, 1) := by decide +kernel
theorem dX4_day_110 : decode cX4_day 110 = .ok (.aload_n 0, 1) := by decide +kernel
theorem dX4_day_111 : decode cX4_day 111 = .ok (.getfield 67, 3) := by decide +kernel
theorem dX4_day_114 : decode cX4_day 114 = .ok (.invokevirtual 141, 3) := by decide +kernel
theorem dX4_day_117 : decode cX4_day 117 = .ok (.ireturn, 1) := by decide +kernel
theorem dX4_pass_0 : decode cX4_pass 0 = .ok (.aload_n 0, 1) := by decide +kernel
theorem dX4_pass_1 : decode cX4_pass 1 = .ok (.getfield 170, 3) := by decide +kernel
theorem dX4_pass_4 : decode cX4_pass 4 = .ok (.ifCond .eq 7, 3) := by decide +kernel
theorem dX4_pass_7 : decode cX4_pass 7 = .ok (.iload_n 1, 1) := by decide +kernel
theorem dX4_pass_8 : decode cX4_pass 8 = .ok (.goto 12, 3) := by decide +kernel
theorem dX4_pass_11 : decode cX4_pass 11 = .ok (.aload_n 0, 1) := by decide +kernel
theorem dX4_pass_12 : decode cX4_pass 12 = .ok (.getfield 43, 3) := by decide +kernel
theorem dX4_pass_15 : decode cX4_pass 15 = .ok (.aload_n 0, 1) := by decide +kernel
theorem dX4_pass_16 : decode cX4_pass 16 = .ok (.getfield 174, 3) := by decide +kernel
theorem dX4_pass_19 : decode cX4_pass 19 = .ok (.iaload, 1) := by decide +kernel
theorem dX4_pass_20 : decode cX4_pass 20 = .ok (.istore_n 2, 1) := by decide +kernel
theorem dX4_pass_21 : decode cX4_pass 21 = .ok (.aload_n 0, 1) := by decide +kernel
theorem dX4_pass_22 : decode cX4_pass 22 = .ok (.getfield 43, 3) := by decide +kernel
theorem dX4_pass_25 : decode cX4_pass 25 = .ok (.aload_n 0, 1) := by decide +kernel
theorem dX4_pass_26 : decode cX4_pass 26 = .ok (.getfield 174, 3) := by decide +kernel
theorem dX4_pass_29 : decode cX4_pass 29 = .ok (.iload_n 2, 1) := by decide +kernel
theorem dX4_pass_30 : decode cX4_pass 30 = .ok (.iastore, 1) := by decide +kernel
theorem dX4_pass_31 : decode cX4_pass 31 = .ok (.aload_n 0, 1) := by decide +kernel
theorem dX4_pass_32 : decode cX4_pass 32 = .ok (.dup, 1) := by decide +kernel
theorem dX4_pass_33 : decode cX4_pass 33 = .ok (.getfield 174, 3) := by decide +kernel
theorem dX4_pass_36 : decode cX4_pass 36 = .ok (.iconst 1, 1) := by decide +kernel
theorem dX4_pass_37 : decode cX4_pass 37 = .ok (.iadd, 1) := by decide +kernel
theorem dX4_pass_38 : decode cX4_pass 38 = .ok (.putfield 174, 3) := by decide +kernel
theorem dX4_pass_41 : decode cX4_pass 41 = .ok (.iload_n 2, 1) := by decide +kernel
theorem dX4_pass_42 : decode cX4_pass 42 = .ok (.ireturn, 1) := by decide +kernel
theorem dX4_passAll_0 : decode cX4_passAll 0 = .ok (.aload_n 0, 1) := by decide +kernel
theorem dX4_passAll_1 : decode cX4_passAll 1 = .ok (.aload_n 0, 1) := by decide +kernel
theorem dX4_passAll_2 : decode cX4_passAll 2 = .ok (.aload_n 0, 1) := by decide +kernel
theorem dX4_passAll_3 : decode cX4_passAll 3 = .ok (.getfield 67, 3) := by decide +kernel
theorem dX4_passAll_6 : decode cX4_passAll 6 = .ok (.invokevirtual 177, 3) := by decide +kernel
theorem dX4_passAll_9 : decode cX4_passAll 9 = .ok (.putfield 67, 3) := by decide +kernel
theorem dX4_passAll_12 : decode cX4_passAll 12 = .ok (.aload_n 0, 1) := by decide +kernel
theorem dX4_passAll_13 : decode cX4_passAll 13 = .ok (.aload_n 0, 1) := by decide +kernel
theorem dX4_passAll_14 : decode cX4_passAll 14 = .ok (.aload_n 0, 1) := by decide +kernel
theorem dX4_passAll_15 : decode cX4_passAll 15 = .ok (.getfield 50, 3) := by decide +kernel
theorem dX4_passAll_18 : decode cX4_passAll 18 = .ok (.invokevirtual 177, 3) := by decide +kernel
theorem dX4_passAll_21 : decode cX4_passAll 21 = .ok (.putfield 50, 3) := by decide +kernel
theorem dX4_passAll_24 : decode cX4_passAll 24 = .ok (.aload_n 0, 1) := by decide +kernel
theorem dX4_passAll_25 : decode cX4_passAll 25 = .ok (.aload_n 0, 1) := by decide +kernel
theorem dX4_passAll_26 : decode cX4_passAll 26 = .ok (.aload_n 0, 1) := by decide +kernel
theorem dX4_passAll_27 : decode cX4_passAll 27 = .ok (.getfield 54, 3) := by decide +kernel
theorem dX4_passAll_30 : decode cX4_passAll 30 = .ok (.invokevirtual 177, 3) := by decide +kernel
theorem dX4_passAll_33 : decode cX4_passAll 33 = .ok (.putfield 54, 3) := by decide +kernel
theorem dX4_passAll_36 : decode cX4_passAll 36 = .ok (.aload_n 0, 1) := by decide +kernel
theorem dX4_passAll_37 : decode cX4_passAll 37 = .ok (.aload_n 0, 1) := by decide +kernel
theorem dX4_passAll_38 : decode cX4_passAll 38 = .ok (.aload_n 0, 1) := by decide +kernel
theorem dX4_passAll_39 : decode cX4_passAll 39 = .ok (.getfield 87, 3) := by decide +kernel
theorem dX4_passAll_42 : decode cX4_passAll 42 = .ok (.invokevirtual 177, 3) := by decide +kernel
theorem dX4_passAll_45 : decode cX4_passAll 45 = .ok (.putfield 87, 3) := by decide +kernel
theorem dX4_passAll_48 : decode cX4_passAll 48 = .ok (.aload_n 0, 1) := by decide +kernel
theorem dX4_passAll_49 : decode cX4_passAll 49 = .ok (.aload_n 0, 1) := by decide +kernel
theorem dX4_passAll_50 : decode cX4_passAll 50 = .ok (.aload_n 0, 1) := by decide +kernel
theorem dX4_passAll_51 : decode cX4_passAll 51 = .ok (.getfield 90, 3) := by decide +kernel
theorem dX4_passAll_54 : decode cX4_passAll 54 = .ok (.invokevirtual 177, 3) := by decide +kernel
theorem dX4_passAll_57 : decode cX4_passAll 57 = .ok (.putfield 90, 3) := by decide +kernel
theorem dX4_passAll_60 : decode cX4_passAll 60 = .ok (.iconst 0, 1) := by decide +kernel
theorem dX4_passAll_61 : decode cX4_passAll 61 = .ok (.istore_n 1, 1) := by decide +kernel
theorem dX4_passAll_62 : decode cX4_passAll 62 = .ok (.iload_n 1, 1) := by decide +kernel
theorem dX4_passAll_63 : decode cX4_passAll 63 = .ok (.bipush 8, 2) := by decide +kernel
theorem dX4_passAll_65 : decode cX4_passAll 65 = .ok (.if_icmp .ge 73, 3) := by decide +kernel
theorem dX4_passAll_68 : decode cX4_passAll 68 = .ok (.aload_n 0, 1) := by decide +kernel
theorem dX4_passAll_69 : decode cX4_passAll 69 = .ok (.getfield 7, 3) := by decide +kernel
theorem dX4_passAll_72 : decode cX4_passAll 72 = .ok (.iload_n 1, 1) := by decide +kernel
theorem dX4_passAll_73 : decode cX4_passAll 73 = .ok (.aload_n 0, 1) := by decide +kernel
theorem dX4_passAll_74 : decode cX4_passAll 74 = .ok (.aload_n 0, 1) := by decide +kernel
theorem dX4_passAll_75 : decode cX4_passAll 75 = .ok (.getfield 7, 3) := by decide +kernel
theorem dX4_passAll_78 : decode cX4_passAll 78 = .ok (.iload_n 1, 1) := by decide +kernel
theorem dX4_passAll_79 : decode cX4_passAll 79 = .ok (.iaload, 1) := by decide +kernel
theorem dX4_passAll_80 : decode cX4_passAll 80 = .ok (.invokevirtual 177, 3) := by decide +kernel
theorem dX4_passAll_83 : decode cX4_passAll 83 = .ok (.iastore, 1) := by decide +kernel
theorem dX4_passAll_84 : decode cX4_passAll 84 = .ok (.aload_n 0, 1) := by decide +kernel
theorem dX4_passAll_85 : decode cX4_passAll 85 = .ok (.getfield 13, 3) := by decide +kernel
theorem dX4_passAll_88 : decode cX4_passAll 88 = .ok (.iload_n 1, 1) := by decide +kernel
theorem dX4_passAll_89 : decode cX4_passAll 89 = .ok (.aload_n 0, 1) := by decide +kernel
theorem dX4_passAll_90 : decode cX4_passAll 90 = .ok (.aload_n 0, 1) := by decide +kernel
theorem dX4_passAll_91 : decode cX4_passAll 91 = .ok (.getfield 13, 3) := by decide +kernel
theorem dX4_passAll_94 : decode cX4_passAll 94 = .ok (.iload_n 1, 1) := by decide +kernel
theorem dX4_passAll_95 : decode cX4_passAll 95 = .ok (.iaload, 1) := by decide +kernel
theorem dX4_passAll_96 : decode cX4_passAll 96 = .ok (.invokevirtual 177, 3) := by decide +kernel
theorem dX4_passAll_99 : decode cX4_passAll 99 = .ok (.iastore, 1) := by decide +kernel
theorem dX4_passAll_100 : decode cX4_passAll 100 = .ok (.aload_n 0, 1) := by decide +kernel
theorem dX4_passAll_101 : decode cX4_passAll 101 = .ok (.getfield 16, 3) := by decide +kernel
theorem dX4_passAll_104 : decode cX4_passAll 104 = .ok (.iload_n 1, 1) := by decide +kernel
theorem dX4_passAll_105 : decode cX4_passAll 105 = .ok (.aload_n 0, 1) := by decide +kernel
theorem dX4_passAll_106 : decode cX4_passAll 106 = .ok (.aload_n 0, 1) := by decide +kernel
theorem dX4_passAll_107 : decode cX4_passAll 107 = .ok (.getfield 16, 3) := by decide +kernel
theorem dX4_passAll_110 : decode cX4_passAll 110 = .ok (.iload_n 1, 1) := by decide +kernel
theorem dX4_passAll_111 : decode cX4_passAll 111 = .ok (.iaload, 1) := by decide +kernel
theorem dX4_passAll_112 : decode cX4_passAll 112 = .ok (.invokevirtual 177, 3) := by decide +kernel
theorem dX4_passAll_115 : decode cX4_passAll 115 = .ok (.iastore, 1) := by decide +kernel
theorem dX4_passAll_116 : decode cX4_passAll 116 = .ok (.aload_n 0, 1) := by decide +kernel
theorem dX4_passAll_117 : decode cX4_passAll 117 = .ok (.getfield 19, 3) := by decide +kernel
theorem dX4_passAll_120 : decode cX4_passAll 120 = .ok (.iload_n 1, 1) := by decide +kernel
theorem dX4_passAll_121 : decode cX4_passAll 121 = .ok (.aload_n 0, 1) := by decide +kernel
theorem dX4_passAll_122 : decode cX4_passAll 122 = .ok (.aload_n 0, 1) := by decide +kernel
theorem dX4_passAll_123 : decode cX4_passAll 123 = .ok (.getfield 19, 3) := by decide +kernel
theorem dX4_passAll_126 : decode cX4_passAll 126 = .ok (.iload_n 1, 1) := by decide +kernel
theorem dX4_passAll_127 : decode cX4_passAll 127 = .ok (.iaload, 1) := by decide +kernel
theorem dX4_passAll_128 : decode cX4_passAll 128 = .ok (.invokevirtual 177, 3) := by decide +kernel
theorem dX4_passAll_131 : decode cX4_passAll 131 = .ok (.iastore, 1) := by decide +kernel
theorem dX4_passAll_132 : decode cX4_passAll 132 = .ok (.iinc 1 1, 3) := by decide +kernel
theorem dX4_passAll_135 : decode cX4_passAll 135 = .ok (.goto (-73), 3) := by decide +kernel
theorem dX4_passAll_138 : decode cX4_passAll 138 = .ok (.return_, 1) := by decide +kernel
theorem dX4_image_0 : decode cX4_image 0 = .ok (.iload_n 1, 1) := by decide +kernel
theorem dX4_image_1 : decode cX4_image 1 = .ok (.i2l, 1) := by decide +kernel
theorem dX4_image_2 : decode cX4_image 2 = .ok (.lconst 0, 1) := by decide +kernel
theorem dX4_image_3 : decode cX4_image 3 = .ok (.lconst 1, 1) := by decide +kernel
theorem dX4_image_4 : decode cX4_image 4 = .ok (.invokestatic 59, 3) := by decide +kernel
theorem dX4_image_7 : decode cX4_image 7 = .ok (.ifCond .ne 6, 3) := by decide +kernel
theorem dX4_image_10 : decode cX4_image 10 = .ok (.bipush (-2), 2) := by decide +kernel
theorem dX4_image_12 : decode cX4_image 12 = .ok (.ireturn, 1) := by decide +kernel
theorem dX4_image_13 : decode cX4_image 13 = .ok (.aload_n 0, 1) := by decide +kernel
theorem dX4_image_14 : decode cX4_image 14 = .ok (.bipush 50, 2) := by decide +kernel
theorem dX4_image_16 : decode cX4_image 16 = .ok (.iload_n 1, 1) := by decide +kernel
theorem dX4_image_17 : decode cX4_image 17 = .ok (.imul, 1) := by decide +kernel
theorem dX4_image_18 : decode cX4_image 18 = .ok (.putfield 174, 3) := by decide +kernel
theorem dX4_image_21 : decode cX4_image 21 = .ok (.aload_n 0, 1) := by decide +kernel
theorem dX4_image_22 : decode cX4_image 22 = .ok (.iconst 1, 1) := by decide +kernel
theorem dX4_image_23 : decode cX4_image 23 = .ok (.putfield 170, 3) := by decide +kernel
theorem dX4_image_26 : decode cX4_image 26 = .ok (.aload_n 0, 1) := by decide +kernel
theorem dX4_image_27 : decode cX4_image 27 = .ok (.invokevirtual 180, 3) := by decide +kernel
theorem dX4_image_30 : decode cX4_image 30 = .ok (.aload_n 0, 1) := by decide +kernel
theorem dX4_image_31 : decode cX4_image 31 = .ok (.getfield 46, 3) := by decide +kernel
end
section
theorem dX4_image_34 : decode cX4_image 34 = .ok (.iload_n 1, 1) := by decide +kernel
theorem dX4_image_35 : decode cX4_image 35 = .ok (.iconst 1, 1) := by decide +kernel
theorem dX4_image_36 : decode cX4_image 36 = .ok (.bastore, 1) := by decide +kernel
theorem dX4_image_37 : decode cX4_image 37 = .ok (.iconst 1, 1) := by decide +kernel
theorem dX4_image_38 : decode cX4_image 38 = .ok (.ireturn, 1) := by decide +kernel
theorem dX4_restore_0 : decode cX4_restore 0 = .ok (.iload_n 1, 1) := by decide +kernel
theorem dX4_restore_1 : decode cX4_restore 1 = .ok (.i2l, 1) := by decide +kernel
theorem dX4_restore_2 : decode cX4_restore 2 = .ok (.lconst 0, 1) := by decide +kernel
theorem dX4_restore_3 : decode cX4_restore 3 = .ok (.lconst 1, 1) := by decide +kernel
theorem dX4_restore_4 : decode cX4_restore 4 = .ok (.invokestatic 59, 3) := by decide +kernel
theorem dX4_restore_7 : decode cX4_restore 7 = .ok (.ifCond .ne 6, 3) := by decide +kernel
theorem dX4_restore_10 : decode cX4_restore 10 = .ok (.bipush (-2), 2) := by decide +kernel
theorem dX4_restore_12 : decode cX4_restore 12 = .ok (.ireturn, 1) := by decide +kernel
theorem dX4_restore_13 : decode cX4_restore 13 = .ok (.aload_n 0, 1) := by decide +kernel
theorem dX4_restore_14 : decode cX4_restore 14 = .ok (.getfield 46, 3) := by decide +kernel
theorem dX4_restore_17 : decode cX4_restore 17 = .ok (.iload_n 1, 1) := by decide +kernel
theorem dX4_restore_18 : decode cX4_restore 18 = .ok (.baload, 1) := by decide +kernel
theorem dX4_restore_19 : decode cX4_restore 19 = .ok (.ifCond .ne 6, 3) := by decide +kernel
theorem dX4_restore_22 : decode cX4_restore 22 = .ok (.bipush (-3), 2) := by decide +kernel
theorem dX4_restore_24 : decode cX4_restore 24 = .ok (.ireturn, 1) := by decide +kernel
theorem dX4_restore_25 : decode cX4_restore 25 = .ok (.aload_n 0, 1) := by decide +kernel
theorem dX4_restore_26 : decode cX4_restore 26 = .ok (.bipush 50, 2) := by decide +kernel
theorem dX4_restore_28 : decode cX4_restore 28 = .ok (.iload_n 1, 1) := by decide +kernel
theorem dX4_restore_29 : decode cX4_restore 29 = .ok (.imul, 1) := by decide +kernel
theorem dX4_restore_30 : decode cX4_restore 30 = .ok (.putfield 174, 3) := by decide +kernel
theorem dX4_restore_33 : decode cX4_restore 33 = .ok (.aload_n 0, 1) := by decide +kernel
theorem dX4_restore_34 : decode cX4_restore 34 = .ok (.iconst 0, 1) := by decide +kernel
theorem dX4_restore_35 : decode cX4_restore 35 = .ok (.putfield 170, 3) := by decide +kernel
theorem dX4_restore_38 : decode cX4_restore 38 = .ok (.aload_n 0, 1) := by decide +kernel
theorem dX4_restore_39 : decode cX4_restore 39 = .ok (.invokevirtual 180, 3) := by decide +kernel
theorem dX4_restore_42 : decode cX4_restore 42 = .ok (.iconst 1, 1) := by decide +kernel
theorem dX4_restore_43 : decode cX4_restore 43 = .ok (.ireturn, 1) := by decide +kernel
theorem dX4_told_0 : decode cX4_told 0 = .ok (.iload_n 1, 1) := by decide +kernel
theorem dX4_told_1 : decode cX4_told 1 = .ok (.ifCond .ne 10, 3) := by decide +kernel
theorem dX4_told_4 : decode cX4_told 4 = .ok (.aload_n 0, 1) := by decide +kernel
theorem dX4_told_5 : decode cX4_told 5 = .ok (.getfield 97, 3) := by decide +kernel
theorem dX4_told_8 : decode cX4_told 8 = .ok (.goto 65, 3) := by decide +kernel
theorem dX4_told_11 : decode cX4_told 11 = .ok (.iload_n 1, 1) := by decide +kernel
theorem dX4_told_12 : decode cX4_told 12 = .ok (.iconst 1, 1) := by decide +kernel
theorem dX4_told_13 : decode cX4_told 13 = .ok (.if_icmp .ne 10, 3) := by decide +kernel
theorem dX4_told_16 : decode cX4_told 16 = .ok (.aload_n 0, 1) := by decide +kernel
theorem dX4_told_17 : decode cX4_told 17 = .ok (.getfield 50, 3) := by decide +kernel
theorem dX4_told_20 : decode cX4_told 20 = .ok (.goto 53, 3) := by decide +kernel
theorem dX4_told_23 : decode cX4_told 23 = .ok (.iload_n 1, 1) := by decide +kernel
theorem dX4_told_24 : decode cX4_told 24 = .ok (.iconst 2, 1) := by decide +kernel
theorem dX4_told_25 : decode cX4_told 25 = .ok (.if_icmp .ne 10, 3) := by decide +kernel
theorem dX4_told_28 : decode cX4_told 28 = .ok (.aload_n 0, 1) := by decide +kernel
theorem dX4_told_29 : decode cX4_told 29 = .ok (.getfield 54, 3) := by decide +kernel
theorem dX4_told_32 : decode cX4_told 32 = .ok (.goto 41, 3) := by decide +kernel
theorem dX4_told_35 : decode cX4_told 35 = .ok (.iload_n 1, 1) := by decide +kernel
theorem dX4_told_36 : decode cX4_told 36 = .ok (.iconst 3, 1) := by decide +kernel
theorem dX4_told_37 : decode cX4_told 37 = .ok (.if_icmp .ne 10, 3) := by decide +kernel
theorem dX4_told_40 : decode cX4_told 40 = .ok (.aload_n 0, 1) := by decide +kernel
theorem dX4_told_41 : decode cX4_told 41 = .ok (.getfield 87, 3) := by decide +kernel
theorem dX4_told_44 : decode cX4_told 44 = .ok (.goto 29, 3) := by decide +kernel
theorem dX4_told_47 : decode cX4_told 47 = .ok (.iload_n 1, 1) := by decide +kernel
theorem dX4_told_48 : decode cX4_told 48 = .ok (.iconst 4, 1) := by decide +kernel
theorem dX4_told_49 : decode cX4_told 49 = .ok (.if_icmp .ne 10, 3) := by decide +kernel
theorem dX4_told_52 : decode cX4_told 52 = .ok (.aload_n 0, 1) := by decide +kernel
theorem dX4_told_53 : decode cX4_told 53 = .ok (.getfield 90, 3) := by decide +kernel
theorem dX4_told_56 : decode cX4_told 56 = .ok (.goto 17, 3) := by decide +kernel
theorem dX4_told_59 : decode cX4_told 59 = .ok (.iload_n 1, 1) := by decide +kernel
theorem dX4_told_60 : decode cX4_told 60 = .ok (.iconst 5, 1) := by decide +kernel
theorem dX4_told_61 : decode cX4_told 61 = .ok (.if_icmp .ne 10, 3) := by decide +kernel
theorem dX4_told_64 : decode cX4_told 64 = .ok (.aload_n 0, 1) := by decide +kernel
theorem dX4_told_65 : decode cX4_told 65 = .ok (.getfield 67, 3) := by decide +kernel
theorem dX4_told_68 : decode cX4_told 68 = .ok (.goto 5, 3) := by decide +kernel
theorem dX4_told_71 : decode cX4_told 71 = .ok (.bipush (-2), 2) := by decide +kernel
theorem dX4_told_73 : decode cX4_told 73 = .ok (.ireturn, 1) := by decide +kernel
theorem dJ6_bitCount_0f7a4_0 : decode cJ6_bitCount_0f7a4 0 = .ok (.iload_n 0, 1) := by decide +kernel
theorem dJ6_bitCount_0f7a4_1 : decode cJ6_bitCount_0f7a4 1 = .ok (.iload_n 0, 1) := by decide +kernel
theorem dJ6_bitCount_0f7a4_2 : decode cJ6_bitCount_0f7a4 2 = .ok (.iconst 1, 1) := by decide +kernel
theorem dJ6_bitCount_0f7a4_3 : decode cJ6_bitCount_0f7a4 3 = .ok (.iushr, 1) := by decide +kernel
theorem dJ6_bitCount_0f7a4_4 : decode cJ6_bitCount_0f7a4 4 = .ok (.ldc_w 265, 3) := by decide +kernel
theorem dJ6_bitCount_0f7a4_7 : decode cJ6_bitCount_0f7a4 7 = .ok (.iand, 1) := by decide +kernel
theorem dJ6_bitCount_0f7a4_8 : decode cJ6_bitCount_0f7a4 8 = .ok (.isub, 1) := by decide +kernel
theorem dJ6_bitCount_0f7a4_9 : decode cJ6_bitCount_0f7a4 9 = .ok (.istore_n 0, 1) := by decide +kernel
theorem dJ6_bitCount_0f7a4_10 : decode cJ6_bitCount_0f7a4 10 = .ok (.iload_n 0, 1) := by decide +kernel
theorem dJ6_bitCount_0f7a4_11 : decode cJ6_bitCount_0f7a4 11 = .ok (.ldc_w 266, 3) := by decide +kernel
theorem dJ6_bitCount_0f7a4_14 : decode cJ6_bitCount_0f7a4 14 = .ok (.iand, 1) := by decide +kernel
theorem dJ6_bitCount_0f7a4_15 : decode cJ6_bitCount_0f7a4 15 = .ok (.iload_n 0, 1) := by decide +kernel
theorem dJ6_bitCount_0f7a4_16 : decode cJ6_bitCount_0f7a4 16 = .ok (.iconst 2, 1) := by decide +kernel
theorem dJ6_bitCount_0f7a4_17 : decode cJ6_bitCount_0f7a4 17 = .ok (.iushr, 1) := by decide +kernel
theorem dJ6_bitCount_0f7a4_18 : decode cJ6_bitCount_0f7a4 18 = .ok (.ldc_w 266, 3) := by decide +kernel
theorem dJ6_bitCount_0f7a4_21 : decode cJ6_bitCount_0f7a4 21 = .ok (.iand, 1) := by decide +kernel
theorem dJ6_bitCount_0f7a4_22 : decode cJ6_bitCount_0f7a4 22 = .ok (.iadd, 1) := by decide +kernel
theorem dJ6_bitCount_0f7a4_23 : decode cJ6_bitCount_0f7a4 23 = .ok (.istore_n 0, 1) := by decide +kernel
theorem dJ6_bitCount_0f7a4_24 : decode cJ6_bitCount_0f7a4 24 = .ok (.iload_n 0, 1) := by decide +kernel
theorem dJ6_bitCount_0f7a4_25 : decode cJ6_bitCount_0f7a4 25 = .ok (.iload_n 0, 1) := by decide +kernel
theorem dJ6_bitCount_0f7a4_26 : decode cJ6_bitCount_0f7a4 26 = .ok (.iconst 4, 1) := by decide +kernel
theorem dJ6_bitCount_0f7a4_27 : decode cJ6_bitCount_0f7a4 27 = .ok (.iushr, 1) := by decide +kernel
theorem dJ6_bitCount_0f7a4_28 : decode cJ6_bitCount_0f7a4 28 = .ok (.iadd, 1) := by decide +kernel
theorem dJ6_bitCount_0f7a4_29 : decode cJ6_bitCount_0f7a4 29 = .ok (.ldc_w 267, 3) := by decide +kernel
theorem dJ6_bitCount_0f7a4_32 : decode cJ6_bitCount_0f7a4 32 = .ok (.iand, 1) := by decide +kernel
theorem dJ6_bitCount_0f7a4_33 : decode cJ6_bitCount_0f7a4 33 = .ok (.istore_n 0, 1) := by decide +kernel
theorem dJ6_bitCount_0f7a4_34 : decode cJ6_bitCount_0f7a4 34 = .ok (.iload_n 0, 1) := by decide +kernel
theorem dJ6_bitCount_0f7a4_35 : decode cJ6_bitCount_0f7a4 35 = .ok (.iload_n 0, 1) := by decide +kernel
theorem dJ6_bitCount_0f7a4_36 : decode cJ6_bitCount_0f7a4 36 = .ok (.bipush 8, 2) := by decide +kernel
theorem dJ6_bitCount_0f7a4_38 : decode cJ6_bitCount_0f7a4 38 = .ok (.iushr, 1) := by decide +kernel
theorem dJ6_bitCount_0f7a4_39 : decode cJ6_bitCount_0f7a4 39 = .ok (.iadd, 1) := by decide +kernel
theorem dJ6_bitCount_0f7a4_40 : decode cJ6_bitCount_0f7a4 40 = .ok (.istore_n 0, 1) := by decide +kernel
theorem dJ6_bitCount_0f7a4_41 : decode cJ6_bitCount_0f7a4 41 = .ok (.iload_n 0, 1) := by decide +kernel
theorem dJ6_bitCount_0f7a4_42 : decode cJ6_bitCount_0f7a4 42 = .ok (.iload_n 0, 1) := by decide +kernel
theorem dJ6_bitCount_0f7a4_43 : decode cJ6_bitCount_0f7a4 43 = .ok (.bipush 16, 2) := by decide +kernel
theorem dJ6_bitCount_0f7a4_45 : decode cJ6_bitCount_0f7a4 45 = .ok (.iushr, 1) := by decide +kernel
theorem dJ6_bitCount_0f7a4_46 : decode cJ6_bitCount_0f7a4 46 = .ok (.iadd, 1) := by decide +kernel
theorem dJ6_bitCount_0f7a4_47 : decode cJ6_bitCount_0f7a4 47 = .ok (.istore_n 0, 1) := by decide +kernel
theorem dJ6_bitCount_0f7a4_48 : decode cJ6_bitCount_0f7a4 48 = .ok (.iload_n 0, 1) := by decide +kernel
theorem dJ6_bitCount_0f7a4_49 : decode cJ6_bitCount_0f7a4 49 = .ok (.bipush 63, 2) := by decide +kernel
theorem dJ6_bitCount_0f7a4_51 : decode cJ6_bitCount_0f7a4 51 = .ok (.iand, 1) := by decide +kernel
theorem dJ6_bitCount_0f7a4_52 : decode cJ6_bitCount_0f7a4 52 = .ok (.ireturn, 1) := by decide +kernel
theorem dL_law_0 : decode cL_law 0 = .ok (.new 7, 3) := by decide +kernel
theorem dL_law_3 : decode cL_law 3 = .ok (.dup, 1) := by decide +kernel
theorem dL_law_4 : decode cL_law 4 = .ok (.invokespecial 9, 3) := by decide +kernel
theorem dL_law_7 : decode cL_law 7 = .ok (.astore_n 1, 1) := by decide +kernel
theorem dL_law_8 : decode cL_law 8 = .ok (.new 10, 3) := by decide +kernel
theorem dL_law_11 : decode cL_law 11 = .ok (.dup, 1) := by decide +kernel
theorem dL_law_12 : decode cL_law 12 = .ok (.invokespecial 12, 3) := by decide +kernel
theorem dL_law_15 : decode cL_law 15 = .ok (.astore_n 2, 1) := by decide +kernel
theorem dL_law_16 : decode cL_law 16 = .ok (.iconst 0, 1) := by decide +kernel
theorem dL_law_17 : decode cL_law 17 = .ok (.istore_n 3, 1) := by decide +kernel
theorem dL_law_18 : decode cL_law 18 = .ok (.iload_n 3, 1) := by decide +kernel
theorem dL_law_19 : decode cL_law 19 = .ok (.aload_n 0, 1) := by decide +kernel
theorem dL_law_20 : decode cL_law 20 = .ok (.arraylength, 1) := by decide +kernel
theorem dL_law_21 : decode cL_law 21 = .ok (.bipush 6, 2) := by decide +kernel
theorem dL_law_23 : decode cL_law 23 = .ok (.isub, 1) := by decide +kernel
theorem dL_law_24 : decode cL_law 24 = .ok (.if_icmp .gt 871, 3) := by decide +kernel
theorem dL_law_27 : decode cL_law 27 = .ok (.aload_n 0, 1) := by decide +kernel
theorem dL_law_28 : decode cL_law 28 = .ok (.iload_n 3, 1) := by decide +kernel
theorem dL_law_29 : decode cL_law 29 = .ok (.iaload, 1) := by decide +kernel
theorem dL_law_30 : decode cL_law 30 = .ok (.bipush 31, 2) := by decide +kernel
theorem dL_law_32 : decode cL_law 32 = .ok (.iand, 1) := by decide +kernel
theorem dL_law_33 : decode cL_law 33 = .ok (.tableswitch 856 0 24 #[115, 194, 217, 250, 283, 306, 319, 332, 355, 388, 411, 434, 467, 520, 563, 596, 609, 642, 665, 708, 731, 754, 787, 810, 833], 115) := by decide +kernel
theorem dL_law_148 : decode cL_law 148 = .ok (.aload_n 1, 1) := by decide +kernel
theorem dL_law_149 : decode cL_law 149 = .ok (.aload_n 0, 1) := by decide +kernel
theorem dL_law_150 : decode cL_law 150 = .ok (.iload_n 3, 1) := by decide +kernel
theorem dL_law_151 : decode cL_law 151 = .ok (.iconst 1, 1) := by decide +kernel
theorem dL_law_152 : decode cL_law 152 = .ok (.iadd, 1) := by decide +kernel
theorem dL_law_153 : decode cL_law 153 = .ok (.iaload, 1) := by decide +kernel
theorem dL_law_154 : decode cL_law 154 = .ok (.aload_n 0, 1) := by decide +kernel
theorem dL_law_155 : decode cL_law 155 = .ok (.iload_n 3, 1) := by decide +kernel
theorem dL_law_156 : decode cL_law 156 = .ok (.iconst 2, 1) := by decide +kernel
theorem dL_law_157 : decode cL_law 157 = .ok (.iadd, 1) := by decide +kernel
theorem dL_law_158 : decode cL_law 158 = .ok (.iaload, 1) := by decide +kernel
theorem dL_law_159 : decode cL_law 159 = .ok (.aload_n 0, 1) := by decide +kernel
theorem dL_law_160 : decode cL_law 160 = .ok (.iload_n 3, 1) := by decide +kernel
theorem dL_law_161 : decode cL_law 161 = .ok (.iconst 3, 1) := by decide +kernel
theorem dL_law_162 : decode cL_law 162 = .ok (.iadd, 1) := by decide +kernel
theorem dL_law_163 : decode cL_law 163 = .ok (.iaload, 1) := by decide +kernel
theorem dL_law_164 : decode cL_law 164 = .ok (.aload_n 0, 1) := by decide +kernel
theorem dL_law_165 : decode cL_law 165 = .ok (.iload_n 3, 1) := by decide +kernel
theorem dL_law_166 : decode cL_law 166 = .ok (.iconst 4, 1) := by decide +kernel
theorem dL_law_167 : decode cL_law 167 = .ok (.iadd, 1) := by decide +kernel
theorem dL_law_168 : decode cL_law 168 = .ok (.iaload, 1) := by decide +kernel
theorem dL_law_169 : decode cL_law 169 = .ok (.aload_n 0, 1) := by decide +kernel
theorem dL_law_170 : decode cL_law 170 = .ok (.iload_n 3, 1) := by decide +kernel
theorem dL_law_171 : decode cL_law 171 = .ok (.iconst 5, 1) := by decide +kernel
theorem dL_law_172 : decode cL_law 172 = .ok (.iadd, 1) := by decide +kernel
theorem dL_law_173 : decode cL_law 173 = .ok (.iaload, 1) := by decide +kernel
theorem dL_law_174 : decode cL_law 174 = .ok (.ifCond .eq 7, 3) := by decide +kernel
theorem dL_law_177 : decode cL_law 177 = .ok (.iconst 1, 1) := by decide +kernel
theorem dL_law_178 : decode cL_law 178 = .ok (.goto 4, 3) := by decide +kernel
theorem dL_law_181 : decode cL_law 181 = .ok (.iconst 0, 1) := by decide +kernel
theorem dL_law_182 : decode cL_law 182 = .ok (.invokevirtual 13, 3) := by decide +kernel
theorem dL_law_185 : decode cL_law 185 = .ok (.aload_n 2, 1) := by decide +kernel
theorem dL_law_186 : decode cL_law 186 = .ok (.aload_n 0, 1) := by decide +kernel
theorem dL_law_187 : decode cL_law 187 = .ok (.iload_n 3, 1) := by decide +kernel
theorem dL_law_188 : decode cL_law 188 = .ok (.iconst 1, 1) := by decide +kernel
theorem dL_law_189 : decode cL_law 189 = .ok (.iadd, 1) := by decide +kernel
theorem dL_law_190 : decode cL_law 190 = .ok (.iaload, 1) := by decide +kernel
theorem dL_law_191 : decode cL_law 191 = .ok (.aload_n 0, 1) := by decide +kernel
theorem dL_law_192 : decode cL_law 192 = .ok (.iload_n 3, 1) := by decide +kernel
theorem dL_law_193 : decode cL_law 193 = .ok (.iconst 2, 1) := by decide +kernel
theorem dL_law_194 : decode cL_law 194 = .ok (.iadd, 1) := by decide +kernel
theorem dL_law_195 : decode cL_law 195 = .ok (.iaload, 1) := by decide +kernel
theorem dL_law_196 : decode cL_law 196 = .ok (.aload_n 0, 1) := by decide +kernel
theorem dL_law_197 : decode cL_law 197 = .ok (.iload_n 3, 1) := by decide +kernel
theorem dL_law_198 : decode cL_law 198 = .ok (.iconst 3, 1) := by decide +kernel
theorem dL_law_199 : decode cL_law 199 = .ok (.iadd, 1) := by decide +kernel
theorem dL_law_200 : decode cL_law 200 = .ok (.iaload, 1) := by decide +kernel
theorem dL_law_201 : decode cL_law 201 = .ok (.aload_n 0, 1) := by decide +kernel
theorem dL_law_202 : decode cL_law 202 = .ok (.iload_n 3, 1) := by decide +kernel
theorem dL_law_203 : decode cL_law 203 = .ok (.iconst 4, 1) := by decide +kernel
theorem dL_law_204 : decode cL_law 204 = .ok (.iadd, 1) := by decide +kernel
theorem dL_law_205 : decode cL_law 205 = .ok (.iaload, 1) := by decide +kernel
theorem dL_law_206 : decode cL_law 206 = .ok (.aload_n 0, 1) := by decide +kernel
theorem dL_law_207 : decode cL_law 207 = .ok (.iload_n 3, 1) := by decide +kernel
theorem dL_law_208 : decode cL_law 208 = .ok (.iconst 5, 1) := by decide +kernel
theorem dL_law_209 : decode cL_law 209 = .ok (.iadd, 1) := by decide +kernel
theorem dL_law_210 : decode cL_law 210 = .ok (.iaload, 1) := by decide +kernel
theorem dL_law_211 : decode cL_law 211 = .ok (.ifCond .eq 7, 3) := by decide +kernel
theorem dL_law_214 : decode cL_law 214 = .ok (.iconst 1, 1) := by decide +kernel
theorem dL_law_215 : decode cL_law 215 = .ok (.goto 4, 3) := by decide +kernel
theorem dL_law_218 : decode cL_law 218 = .ok (.iconst 0, 1) := by decide +kernel
theorem dL_law_219 : decode cL_law 219 = .ok (.invokevirtual 17, 3) := by decide +kernel
theorem dL_law_222 : decode cL_law 222 = .ok (.if_icmp .eq 667, 3) := by decide +kernel
theorem dL_law_225 : decode cL_law 225 = .ok (.iconst 0, 1) := by decide +kernel
theorem dL_law_226 : decode cL_law 226 = .ok (.ireturn, 1) := by decide +kernel
theorem dL_law_227 : decode cL_law 227 = .ok (.aload_n 1, 1) := by decide +kernel
theorem dL_law_228 : decode cL_law 228 = .ok (.aload_n 0, 1) := by decide +kernel
theorem dL_law_229 : decode cL_law 229 = .ok (.iload_n 3, 1) := by decide +kernel
theorem dL_law_230 : decode cL_law 230 = .ok (.iconst 1, 1) := by decide +kernel
theorem dL_law_231 : decode cL_law 231 = .ok (.iadd, 1) := by decide +kernel
theorem dL_law_232 : decode cL_law 232 = .ok (.iaload, 1) := by decide +kernel
theorem dL_law_233 : decode cL_law 233 = .ok (.invokevirtual 18, 3) := by decide +kernel
theorem dL_law_236 : decode cL_law 236 = .ok (.aload_n 2, 1) := by decide +kernel
theorem dL_law_237 : decode cL_law 237 = .ok (.aload_n 0, 1) := by decide +kernel
theorem dL_law_238 : decode cL_law 238 = .ok (.iload_n 3, 1) := by decide +kernel
theorem dL_law_239 : decode cL_law 239 = .ok (.iconst 1, 1) := by decide +kernel
theorem dL_law_240 : decode cL_law 240 = .ok (.iadd, 1) := by decide +kernel
theorem dL_law_241 : decode cL_law 241 = .ok (.iaload, 1) := by decide +kernel
theorem dL_law_242 : decode cL_law 242 = .ok (.invokevirtual 22, 3) := by decide +kernel
theorem dL_law_245 : decode cL_law 245 = .ok (.if_icmp .eq 644, 3) := by decide +kernel
theorem dL_law_248 : decode cL_law 248 = .ok (.iconst 0, 1) := by decide +kernel
theorem dL_law_249 : decode cL_law 249 = .ok (.ireturn, 1) := by decide +kernel
theorem dL_law_250 : decode cL_law 250 = .ok (.aload_n 1, 1) := by decide +kernel
theorem dL_law_251 : decode cL_law 251 = .ok (.aload_n 0, 1) := by decide +kernel
theorem dL_law_252 : decode cL_law 252 = .ok (.iload_n 3, 1) := by decide +kernel
theorem dL_law_253 : decode cL_law 253 = .ok (.iconst 1, 1) := by decide +kernel
theorem dL_law_254 : decode cL_law 254 = .ok (.iadd, 1) := by decide +kernel
theorem dL_law_255 : decode cL_law 255 = .ok (.iaload, 1) := by decide +kernel
theorem dL_law_256 : decode cL_law 256 = .ok (.aload_n 0, 1) := by decide +kernel
theorem dL_law_257 : decode cL_law 257 = .ok (.iload_n 3, 1) := by decide +kernel
theorem dL_law_258 : decode cL_law 258 = .ok (.iconst 2, 1) := by decide +kernel
theorem dL_law_259 : decode cL_law 259 = .ok (.iadd, 1) := by decide +kernel
theorem dL_law_260 : decode cL_law 260 = .ok (.iaload, 1) := by decide +kernel
theorem dL_law_261 : decode cL_law 261 = .ok (.invokevirtual 23, 3) := by decide +kernel
theorem dL_law_264 : decode cL_law 264 = .ok (.aload_n 2, 1) := by decide +kernel
theorem dL_law_265 : decode cL_law 265 = .ok (.aload_n 0, 1) := by decide +kernel
theorem dL_law_266 : decode cL_law 266 = .ok (.iload_n 3, 1) := by decide +kernel
theorem dL_law_267 : decode cL_law 267 = .ok (.iconst 1, 1) := by decide +kernel
theorem dL_law_268 : decode cL_law 268 = .ok (.iadd, 1) := by decide +kernel
theorem dL_law_269 : decode cL_law 269 = .ok (.iaload, 1) := by decide +kernel
theorem dL_law_270 : decode cL_law 270 = .ok (.aload_n 0, 1) := by decide +kernel
theorem dL_law_271 : decode cL_law 271 = .ok (.iload_n 3, 1) := by decide +kernel
theorem dL_law_272 : decode cL_law 272 = .ok (.iconst 2, 1) := by decide +kernel
theorem dL_law_273 : decode cL_law 273 = .ok (.iadd, 1) := by decide +kernel
theorem dL_law_274 : decode cL_law 274 = .ok (.iaload, 1) := by decide +kernel
theorem dL_law_275 : decode cL_law 275 = .ok (.invokevirtual 27, 3) := by decide +kernel
theorem dL_law_278 : decode cL_law 278 = .ok (.if_icmp .eq 611, 3) := by decide +kernel
theorem dL_law_281 : decode cL_law 281 = .ok (.iconst 0, 1) := by decide +kernel
theorem dL_law_282 : decode cL_law 282 = .ok (.ireturn, 1) := by decide +kernel
theorem dL_law_283 : decode cL_law 283 = .ok (.aload_n 1, 1) := by decide +kernel
theorem dL_law_284 : decode cL_law 284 = .ok (.aload_n 0, 1) := by decide +kernel
theorem dL_law_285 : decode cL_law 285 = .ok (.iload_n 3, 1) := by decide +kernel
theorem dL_law_286 : decode cL_law 286 = .ok (.iconst 1, 1) := by decide +kernel
theorem dL_law_287 : decode cL_law 287 = .ok (.iadd, 1) := by decide +kernel
theorem dL_law_288 : decode cL_law 288 = .ok (.iaload, 1) := by decide +kernel
theorem dL_law_289 : decode cL_law 289 = .ok (.aload_n 0, 1) := by decide +kernel
theorem dL_law_290 : decode cL_law 290 = .ok (.iload_n 3, 1) := by decide +kernel
theorem dL_law_291 : decode cL_law 291 = .ok (.iconst 2, 1) := by decide +kernel
theorem dL_law_292 : decode cL_law 292 = .ok (.iadd, 1) := by decide +kernel
theorem dL_law_293 : decode cL_law 293 = .ok (.iaload, 1) := by decide +kernel
theorem dL_law_294 : decode cL_law 294 = .ok (.invokevirtual 28, 3) := by decide +kernel
theorem dL_law_297 : decode cL_law 297 = .ok (.aload_n 2, 1) := by decide +kernel
theorem dL_law_298 : decode cL_law 298 = .ok (.aload_n 0, 1) := by decide +kernel
theorem dL_law_299 : decode cL_law 299 = .ok (.iload_n 3, 1) := by decide +kernel
theorem dL_law_300 : decode cL_law 300 = .ok (.iconst 1, 1) := by decide +kernel
theorem dL_law_301 : decode cL_law 301 = .ok (.iadd, 1) := by decide +kernel
theorem dL_law_302 : decode cL_law 302 = .ok (.iaload, 1) := by decide +kernel
theorem dL_law_303 : decode cL_law 303 = .ok (.aload_n 0, 1) := by decide +kernel
theorem dL_law_304 : decode cL_law 304 = .ok (.iload_n 3, 1) := by decide +kernel
theorem dL_law_305 : decode cL_law 305 = .ok (.iconst 2, 1) := by decide +kernel
theorem dL_law_306 : decode cL_law 306 = .ok (.iadd, 1) := by decide +kernel
theorem dL_law_307 : decode cL_law 307 = .ok (.iaload, 1) := by decide +kernel
theorem dL_law_308 : decode cL_law 308 = .ok (.invokevirtual 31, 3) := by decide +kernel
theorem dL_law_311 : decode cL_law 311 = .ok (.if_icmp .eq 578, 3) := by decide +kernel
theorem dL_law_314 : decode cL_law 314 = .ok (.iconst 0, 1) := by decide +kernel
theorem dL_law_315 : decode cL_law 315 = .ok (.ireturn, 1) := by decide +kernel
theorem dL_law_316 : decode cL_law 316 = .ok (.aload_n 1, 1) := by decide +kernel
theorem dL_law_317 : decode cL_law 317 = .ok (.aload_n 0, 1) := by decide +kernel
theorem dL_law_318 : decode cL_law 318 = .ok (.iload_n 3, 1) := by decide +kernel
theorem dL_law_319 : decode cL_law 319 = .ok (.iconst 1, 1) := by decide +kernel
theorem dL_law_320 : decode cL_law 320 = .ok (.iadd, 1) := by decide +kernel
theorem dL_law_321 : decode cL_law 321 = .ok (.iaload, 1) := by decide +kernel
theorem dL_law_322 : decode cL_law 322 = .ok (.invokevirtual 32, 3) := by decide +kernel
theorem dL_law_325 : decode cL_law 325 = .ok (.aload_n 2, 1) := by decide +kernel
theorem dL_law_326 : decode cL_law 326 = .ok (.aload_n 0, 1) := by decide +kernel
theorem dL_law_327 : decode cL_law 327 = .ok (.iload_n 3, 1) := by decide +kernel
theorem dL_law_328 : decode cL_law 328 = .ok (.iconst 1, 1) := by decide +kernel
theorem dL_law_329 : decode cL_law 329 = .ok (.iadd, 1) := by decide +kernel
theorem dL_law_330 : decode cL_law 330 = .ok (.iaload, 1) := by decide +kernel
theorem dL_law_331 : decode cL_law 331 = .ok (.invokevirtual 35, 3) := by decide +kernel
theorem dL_law_334 : decode cL_law 334 = .ok (.if_icmp .eq 555, 3) := by decide +kernel
theorem dL_law_337 : decode cL_law 337 = .ok (.iconst 0, 1) := by decide +kernel
theorem dL_law_338 : decode cL_law 338 = .ok (.ireturn, 1) := by decide +kernel
theorem dL_law_339 : decode cL_law 339 = .ok (.aload_n 1, 1) := by decide +kernel
theorem dL_law_340 : decode cL_law 340 = .ok (.invokevirtual 36, 3) := by decide +kernel
theorem dL_law_343 : decode cL_law 343 = .ok (.aload_n 2, 1) := by decide +kernel
theorem dL_law_344 : decode cL_law 344 = .ok (.invokevirtual 40, 3) := by decide +kernel
theorem dL_law_347 : decode cL_law 347 = .ok (.if_icmp .eq 542, 3) := by decide +kernel
theorem dL_law_350 : decode cL_law 350 = .ok (.iconst 0, 1) := by decide +kernel
theorem dL_law_351 : decode cL_law 351 = .ok (.ireturn, 1) := by decide +kernel
theorem dL_law_352 : decode cL_law 352 = .ok (.aload_n 1, 1) := by decide +kernel
theorem dL_law_353 : decode cL_law 353 = .ok (.invokevirtual 41, 3) := by decide +kernel
theorem dL_law_356 : decode cL_law 356 = .ok (.aload_n 2, 1) := by decide +kernel
theorem dL_law_357 : decode cL_law 357 = .ok (.invokevirtual 44, 3) := by decide +kernel
theorem dL_law_360 : decode cL_law 360 = .ok (.if_icmp .eq 529, 3) := by decide +kernel
theorem dL_law_363 : decode cL_law 363 = .ok (.iconst 0, 1) := by decide +kernel
theorem dL_law_364 : decode cL_law 364 = .ok (.ireturn, 1) := by decide +kernel
theorem dL_law_365 : decode cL_law 365 = .ok (.aload_n 1, 1) := by decide +kernel
theorem dL_law_366 : decode cL_law 366 = .ok (.aload_n 0, 1) := by decide +kernel
theorem dL_law_367 : decode cL_law 367 = .ok (.iload_n 3, 1) := by decide +kernel
theorem dL_law_368 : decode cL_law 368 = .ok (.iconst 1, 1) := by decide +kernel
theorem dL_law_369 : decode cL_law 369 = .ok (.iadd, 1) := by decide +kernel
theorem dL_law_370 : decode cL_law 370 = .ok (.iaload, 1) := by decide +kernel
theorem dL_law_371 : decode cL_law 371 = .ok (.invokevirtual 45, 3) := by decide +kernel
theorem dL_law_374 : decode cL_law 374 = .ok (.aload_n 2, 1) := by decide +kernel
theorem dL_law_375 : decode cL_law 375 = .ok (.aload_n 0, 1) := by decide +kernel
theorem dL_law_376 : decode cL_law 376 = .ok (.iload_n 3, 1) := by decide +kernel
theorem dL_law_377 : decode cL_law 377 = .ok (.iconst 1, 1) := by decide +kernel
theorem dL_law_378 : decode cL_law 378 = .ok (.iadd, 1) := by decide +kernel
theorem dL_law_379 : decode cL_law 379 = .ok (.iaload, 1) := by decide +kernel
theorem dL_law_380 : decode cL_law 380 = .ok (.invokevirtual 48, 3) := by decide +kernel
theorem dL_law_383 : decode cL_law 383 = .ok (.if_icmp .eq 506, 3) := by decide +kernel
theorem dL_law_386 : decode cL_law 386 = .ok (.iconst 0, 1) := by decide +kernel
theorem dL_law_387 : decode cL_law 387 = .ok (.ireturn, 1) := by decide +kernel
theorem dL_law_388 : decode cL_law 388 = .ok (.aload_n 1, 1) := by decide +kernel
theorem dL_law_389 : decode cL_law 389 = .ok (.aload_n 0, 1) := by decide +kernel
theorem dL_law_390 : decode cL_law 390 = .ok (.iload_n 3, 1) := by decide +kernel
theorem dL_law_391 : decode cL_law 391 = .ok (.iconst 1, 1) := by decide +kernel
theorem dL_law_392 : decode cL_law 392 = .ok (.iadd, 1) := by decide +kernel
theorem dL_law_393 : decode cL_law 393 = .ok (.iaload, 1) := by decide +kernel
theorem dL_law_394 : decode cL_law 394 = .ok (.aload_n 0, 1) := by decide +kernel
theorem dL_law_395 : decode cL_law 395 = .ok (.iload_n 3, 1) := by decide +kernel
theorem dL_law_396 : decode cL_law 396 = .ok (.iconst 2, 1) := by decide +kernel
theorem dL_law_397 : decode cL_law 397 = .ok (.iadd, 1) := by decide +kernel
theorem dL_law_398 : decode cL_law 398 = .ok (.iaload, 1) := by decide +kernel
theorem dL_law_399 : decode cL_law 399 = .ok (.invokevirtual 49, 3) := by decide +kernel
theorem dL_law_402 : decode cL_law 402 = .ok (.aload_n 2, 1) := by decide +kernel
theorem dL_law_403 : decode cL_law 403 = .ok (.aload_n 0, 1) := by decide +kernel
theorem dL_law_404 : decode cL_law 404 = .ok (.iload_n 3, 1) := by decide +kernel
theorem dL_law_405 : decode cL_law 405 = .ok (.iconst 1, 1) := by decide +kernel
theorem dL_law_406 : decode cL_law 406 = .ok (.iadd, 1) := by decide +kernel
theorem dL_law_407 : decode cL_law 407 = .ok (.iaload, 1) := by decide +kernel
theorem dL_law_408 : decode cL_law 408 = .ok (.aload_n 0, 1) := by decide +kernel
theorem dL_law_409 : decode cL_law 409 = .ok (.iload_n 3, 1) := by decide +kernel
theorem dL_law_410 : decode cL_law 410 = .ok (.iconst 2, 1) := by decide +kernel
theorem dL_law_411 : decode cL_law 411 = .ok (.iadd, 1) := by decide +kernel
theorem dL_law_412 : decode cL_law 412 = .ok (.iaload, 1) := by decide +kernel
theorem dL_law_413 : decode cL_law 413 = .ok (.invokevirtual 52, 3) := by decide +kernel
theorem dL_law_416 : decode cL_law 416 = .ok (.if_icmp .eq 473, 3) := by decide +kernel
theorem dL_law_419 : decode cL_law 419 = .ok (.iconst 0, 1) := by decide +kernel
theorem dL_law_420 : decode cL_law 420 = .ok (.ireturn, 1) := by decide +kernel
theorem dL_law_421 : decode cL_law 421 = .ok (.aload_n 1, 1) := by decide +kernel
theorem dL_law_422 : decode cL_law 422 = .ok (.aload_n 0, 1) := by decide +kernel
theorem dL_law_423 : decode cL_law 423 = .ok (.iload_n 3, 1) := by decide +kernel
theorem dL_law_424 : decode cL_law 424 = .ok (.iconst 1, 1) := by decide +kernel
theorem dL_law_425 : decode cL_law 425 = .ok (.iadd, 1) := by decide +kernel
theorem dL_law_426 : decode cL_law 426 = .ok (.iaload, 1) := by decide +kernel
theorem dL_law_427 : decode cL_law 427 = .ok (.invokevirtual 53, 3) := by decide +kernel
theorem dL_law_430 : decode cL_law 430 = .ok (.aload_n 2, 1) := by decide +kernel
theorem dL_law_431 : decode cL_law 431 = .ok (.aload_n 0, 1) := by decide +kernel
theorem dL_law_432 : decode cL_law 432 = .ok (.iload_n 3, 1) := by decide +kernel
theorem dL_law_433 : decode cL_law 433 = .ok (.iconst 1, 1) := by decide +kernel
theorem dL_law_434 : decode cL_law 434 = .ok (.iadd, 1) := by decide +kernel
theorem dL_law_435 : decode cL_law 435 = .ok (.iaload, 1) := by decide +kernel
theorem dL_law_436 : decode cL_law 436 = .ok (.invokevirtual 56, 3) := by decide +kernel
theorem dL_law_439 : decode cL_law 439 = .ok (.if_icmp .eq 450, 3) := by decide +kernel
theorem dL_law_442 : decode cL_law 442 = .ok (.iconst 0, 1) := by decide +kernel
theorem dL_law_443 : decode cL_law 443 = .ok (.ireturn, 1) := by decide +kernel
theorem dL_law_444 : decode cL_law 444 = .ok (.aload_n 1, 1) := by decide +kernel
theorem dL_law_445 : decode cL_law 445 = .ok (.aload_n 0, 1) := by decide +kernel
theorem dL_law_446 : decode cL_law 446 = .ok (.iload_n 3, 1) := by decide +kernel
theorem dL_law_447 : decode cL_law 447 = .ok (.iconst 1, 1) := by decide +kernel
theorem dL_law_448 : decode cL_law 448 = .ok (.iadd, 1) := by decide +kernel
theorem dL_law_449 : decode cL_law 449 = .ok (.iaload, 1) := by decide +kernel
theorem dL_law_450 : decode cL_law 450 = .ok (.invokevirtual 57, 3) := by decide +kernel
theorem dL_law_453 : decode cL_law 453 = .ok (.aload_n 2, 1) := by decide +kernel
theorem dL_law_454 : decode cL_law 454 = .ok (.aload_n 0, 1) := by decide +kernel
theorem dL_law_455 : decode cL_law 455 = .ok (.iload_n 3, 1) := by decide +kernel
theorem dL_law_456 : decode cL_law 456 = .ok (.iconst 1, 1) := by decide +kernel
theorem dL_law_457 : decode cL_law 457 = .ok (.iadd, 1) := by decide +kernel
theorem dL_law_458 : decode cL_law 458 = .ok (.iaload, 1) := by decide +kernel
theorem dL_law_459 : decode cL_law 459 = .ok (.invokevirtual 60, 3) := by decide +kernel
theorem dL_law_462 : decode cL_law 462 = .ok (.if_icmp .eq 427, 3) := by decide +kernel
theorem dL_law_465 : decode cL_law 465 = .ok (.iconst 0, 1) := by decide +kernel
theorem dL_law_466 : decode cL_law 466 = .ok (.ireturn, 1) := by decide +kernel
theorem dL_law_467 : decode cL_law 467 = .ok (.aload_n 1, 1) := by decide +kernel
theorem dL_law_468 : decode cL_law 468 = .ok (.aload_n 0, 1) := by decide +kernel
theorem dL_law_469 : decode cL_law 469 = .ok (.iload_n 3, 1) := by decide +kernel
theorem dL_law_470 : decode cL_law 470 = .ok (.iconst 1, 1) := by decide +kernel
theorem dL_law_471 : decode cL_law 471 = .ok (.iadd, 1) := by decide +kernel
theorem dL_law_472 : decode cL_law 472 = .ok (.iaload, 1) := by decide +kernel
theorem dL_law_473 : decode cL_law 473 = .ok (.aload_n 0, 1) := by decide +kernel
theorem dL_law_474 : decode cL_law 474 = .ok (.iload_n 3, 1) := by decide +kernel
theorem dL_law_475 : decode cL_law 475 = .ok (.iconst 2, 1) := by decide +kernel
theorem dL_law_476 : decode cL_law 476 = .ok (.iadd, 1) := by decide +kernel
theorem dL_law_477 : decode cL_law 477 = .ok (.iaload, 1) := by decide +kernel
theorem dL_law_478 : decode cL_law 478 = .ok (.invokevirtual 61, 3) := by decide +kernel
theorem dL_law_481 : decode cL_law 481 = .ok (.aload_n 2, 1) := by decide +kernel
theorem dL_law_482 : decode cL_law 482 = .ok (.aload_n 0, 1) := by decide +kernel
theorem dL_law_483 : decode cL_law 483 = .ok (.iload_n 3, 1) := by decide +kernel
theorem dL_law_484 : decode cL_law 484 = .ok (.iconst 1, 1) := by decide +kernel
theorem dL_law_485 : decode cL_law 485 = .ok (.iadd, 1) := by decide +kernel
theorem dL_law_486 : decode cL_law 486 = .ok (.iaload, 1) := by decide +kernel
theorem dL_law_487 : decode cL_law 487 = .ok (.aload_n 0, 1) := by decide +kernel
theorem dL_law_488 : decode cL_law 488 = .ok (.iload_n 3, 1) := by decide +kernel
theorem dL_law_489 : decode cL_law 489 = .ok (.iconst 2, 1) := by decide +kernel
theorem dL_law_490 : decode cL_law 490 = .ok (.iadd, 1) := by decide +kernel
theorem dL_law_491 : decode cL_law 491 = .ok (.iaload, 1) := by decide +kernel
theorem dL_law_492 : decode cL_law 492 = .ok (.invokevirtual 64, 3) := by decide +kernel
theorem dL_law_495 : decode cL_law 495 = .ok (.if_icmp .eq 394, 3) := by decide +kernel
theorem dL_law_498 : decode cL_law 498 = .ok (.iconst 0, 1) := by decide +kernel
theorem dL_law_499 : decode cL_law 499 = .ok (.ireturn, 1) := by decide +kernel
theorem dL_law_500 : decode cL_law 500 = .ok (.aload_n 1, 1) := by decide +kernel
theorem dL_law_501 : decode cL_law 501 = .ok (.aload_n 0, 1) := by decide +kernel
theorem dL_law_502 : decode cL_law 502 = .ok (.iload_n 3, 1) := by decide +kernel
theorem dL_law_503 : decode cL_law 503 = .ok (.iconst 1, 1) := by decide +kernel
theorem dL_law_504 : decode cL_law 504 = .ok (.iadd, 1) := by decide +kernel
theorem dL_law_505 : decode cL_law 505 = .ok (.iaload, 1) := by decide +kernel
theorem dL_law_506 : decode cL_law 506 = .ok (.aload_n 0, 1) := by decide +kernel
theorem dL_law_507 : decode cL_law 507 = .ok (.iload_n 3, 1) := by decide +kernel
theorem dL_law_508 : decode cL_law 508 = .ok (.iconst 2, 1) := by decide +kernel
theorem dL_law_509 : decode cL_law 509 = .ok (.iadd, 1) := by decide +kernel
theorem dL_law_510 : decode cL_law 510 = .ok (.iaload, 1) := by decide +kernel
theorem dL_law_511 : decode cL_law 511 = .ok (.aload_n 0, 1) := by decide +kernel
theorem dL_law_512 : decode cL_law 512 = .ok (.iload_n 3, 1) := by decide +kernel
theorem dL_law_513 : decode cL_law 513 = .ok (.iconst 3, 1) := by decide +kernel
theorem dL_law_514 : decode cL_law 514 = .ok (.iadd, 1) := by decide +kernel
theorem dL_law_515 : decode cL_law 515 = .ok (.iaload, 1) := by decide +kernel
theorem dL_law_516 : decode cL_law 516 = .ok (.aload_n 0, 1) := by decide +kernel
theorem dL_law_517 : decode cL_law 517 = .ok (.iload_n 3, 1) := by decide +kernel
theorem dL_law_518 : decode cL_law 518 = .ok (.iconst 4, 1) := by decide +kernel
theorem dL_law_519 : decode cL_law 519 = .ok (.iadd, 1) := by decide +kernel
theorem dL_law_520 : decode cL_law 520 = .ok (.iaload, 1) := by decide +kernel
theorem dL_law_521 : decode cL_law 521 = .ok (.invokevirtual 65, 3) := by decide +kernel
theorem dL_law_524 : decode cL_law 524 = .ok (.aload_n 2, 1) := by decide +kernel
theorem dL_law_525 : decode cL_law 525 = .ok (.aload_n 0, 1) := by decide +kernel
theorem dL_law_526 : decode cL_law 526 = .ok (.iload_n 3, 1) := by decide +kernel
theorem dL_law_527 : decode cL_law 527 = .ok (.iconst 1, 1) := by decide +kernel
theorem dL_law_528 : decode cL_law 528 = .ok (.iadd, 1) := by decide +kernel
theorem dL_law_529 : decode cL_law 529 = .ok (.iaload, 1) := by decide +kernel
theorem dL_law_530 : decode cL_law 530 = .ok (.aload_n 0, 1) := by decide +kernel
theorem dL_law_531 : decode cL_law 531 = .ok (.iload_n 3, 1) := by decide +kernel
theorem dL_law_532 : decode cL_law 532 = .ok (.iconst 2, 1) := by decide +kernel
theorem dL_law_533 : decode cL_law 533 = .ok (.iadd, 1) := by decide +kernel
theorem dL_law_534 : decode cL_law 534 = .ok (.iaload, 1) := by decide +kernel
theorem dL_law_535 : decode cL_law 535 = .ok (.aload_n 0, 1) := by decide +kernel
theorem dL_law_536 : decode cL_law 536 = .ok (.iload_n 3, 1) := by decide +kernel
theorem dL_law_537 : decode cL_law 537 = .ok (.iconst 3, 1) := by decide +kernel
theorem dL_law_538 : decode cL_law 538 = .ok (.iadd, 1) := by decide +kernel
theorem dL_law_539 : decode cL_law 539 = .ok (.iaload, 1) := by decide +kernel
theorem dL_law_540 : decode cL_law 540 = .ok (.aload_n 0, 1) := by decide +kernel
theorem dL_law_541 : decode cL_law 541 = .ok (.iload_n 3, 1) := by decide +kernel
theorem dL_law_542 : decode cL_law 542 = .ok (.iconst 4, 1) := by decide +kernel
theorem dL_law_543 : decode cL_law 543 = .ok (.iadd, 1) := by decide +kernel
theorem dL_law_544 : decode cL_law 544 = .ok (.iaload, 1) := by decide +kernel
theorem dL_law_545 : decode cL_law 545 = .ok (.invokevirtual 69, 3) := by decide +kernel
theorem dL_law_548 : decode cL_law 548 = .ok (.if_icmp .eq 341, 3) := by decide +kernel
theorem dL_law_551 : decode cL_law 551 = .ok (.iconst 0, 1) := by decide +kernel
theorem dL_law_552 : decode cL_law 552 = .ok (.ireturn, 1) := by decide +kernel
theorem dL_law_553 : decode cL_law 553 = .ok (.aload_n 1, 1) := by decide +kernel
theorem dL_law_554 : decode cL_law 554 = .ok (.aload_n 0, 1) := by decide +kernel
theorem dL_law_555 : decode cL_law 555 = .ok (.iload_n 3, 1) := by decide +kernel
theorem dL_law_556 : decode cL_law 556 = .ok (.iconst 1, 1) := by decide +kernel
theorem dL_law_557 : decode cL_law 557 = .ok (.iadd, 1) := by decide +kernel
theorem dL_law_558 : decode cL_law 558 = .ok (.iaload, 1) := by decide +kernel
theorem dL_law_559 : decode cL_law 559 = .ok (.aload_n 0, 1) := by decide +kernel
theorem dL_law_560 : decode cL_law 560 = .ok (.iload_n 3, 1) := by decide +kernel
theorem dL_law_561 : decode cL_law 561 = .ok (.iconst 2, 1) := by decide +kernel
theorem dL_law_562 : decode cL_law 562 = .ok (.iadd, 1) := by decide +kernel
theorem dL_law_563 : decode cL_law 563 = .ok (.iaload, 1) := by decide +kernel
theorem dL_law_564 : decode cL_law 564 = .ok (.aload_n 0, 1) := by decide +kernel
theorem dL_law_565 : decode cL_law 565 = .ok (.iload_n 3, 1) := by decide +kernel
theorem dL_law_566 : decode cL_law 566 = .ok (.iconst 3, 1) := by decide +kernel
theorem dL_law_567 : decode cL_law 567 = .ok (.iadd, 1) := by decide +kernel
theorem dL_law_568 : decode cL_law 568 = .ok (.iaload, 1) := by decide +kernel
theorem dL_law_569 : decode cL_law 569 = .ok (.invokevirtual 70, 3) := by decide +kernel
theorem dL_law_572 : decode cL_law 572 = .ok (.aload_n 2, 1) := by decide +kernel
theorem dL_law_573 : decode cL_law 573 = .ok (.aload_n 0, 1) := by decide +kernel
theorem dL_law_574 : decode cL_law 574 = .ok (.iload_n 3, 1) := by decide +kernel
theorem dL_law_575 : decode cL_law 575 = .ok (.iconst 1, 1) := by decide +kernel
theorem dL_law_576 : decode cL_law 576 = .ok (.iadd, 1) := by decide +kernel
theorem dL_law_577 : decode cL_law 577 = .ok (.iaload, 1) := by decide +kernel
theorem dL_law_578 : decode cL_law 578 = .ok (.aload_n 0, 1) := by decide +kernel
theorem dL_law_579 : decode cL_law 579 = .ok (.iload_n 3, 1) := by decide +kernel
theorem dL_law_580 : decode cL_law 580 = .ok (.iconst 2, 1) := by decide +kernel
theorem dL_law_581 : decode cL_law 581 = .ok (.iadd, 1) := by decide +kernel
theorem dL_law_582 : decode cL_law 582 = .ok (.iaload, 1) := by decide +kernel
theorem dL_law_583 : decode cL_law 583 = .ok (.aload_n 0, 1) := by decide +kernel
theorem dL_law_584 : decode cL_law 584 = .ok (.iload_n 3, 1) := by decide +kernel
theorem dL_law_585 : decode cL_law 585 = .ok (.iconst 3, 1) := by decide +kernel
theorem dL_law_586 : decode cL_law 586 = .ok (.iadd, 1) := by decide +kernel
theorem dL_law_587 : decode cL_law 587 = .ok (.iaload, 1) := by decide +kernel
theorem dL_law_588 : decode cL_law 588 = .ok (.invokevirtual 74, 3) := by decide +kernel
theorem dL_law_591 : decode cL_law 591 = .ok (.if_icmp .eq 298, 3) := by decide +kernel
theorem dL_law_594 : decode cL_law 594 = .ok (.iconst 0, 1) := by decide +kernel
theorem dL_law_595 : decode cL_law 595 = .ok (.ireturn, 1) := by decide +kernel
theorem dL_law_596 : decode cL_law 596 = .ok (.aload_n 1, 1) := by decide +kernel
theorem dL_law_597 : decode cL_law 597 = .ok (.aload_n 0, 1) := by decide +kernel
theorem dL_law_598 : decode cL_law 598 = .ok (.iload_n 3, 1) := by decide +kernel
theorem dL_law_599 : decode cL_law 599 = .ok (.iconst 1, 1) := by decide +kernel
theorem dL_law_600 : decode cL_law 600 = .ok (.iadd, 1) := by decide +kernel
theorem dL_law_601 : decode cL_law 601 = .ok (.iaload, 1) := by decide +kernel
theorem dL_law_602 : decode cL_law 602 = .ok (.aload_n 0, 1) := by decide +kernel
theorem dL_law_603 : decode cL_law 603 = .ok (.iload_n 3, 1) := by decide +kernel
theorem dL_law_604 : decode cL_law 604 = .ok (.iconst 2, 1) := by decide +kernel
theorem dL_law_605 : decode cL_law 605 = .ok (.iadd, 1) := by decide +kernel
theorem dL_law_606 : decode cL_law 606 = .ok (.iaload, 1) := by decide +kernel
theorem dL_law_607 : decode cL_law 607 = .ok (.invokevirtual 75, 3) := by decide +kernel
theorem dL_law_610 : decode cL_law 610 = .ok (.aload_n 2, 1) := by decide +kernel
theorem dL_law_611 : decode cL_law 611 = .ok (.aload_n 0, 1) := by decide +kernel
theorem dL_law_612 : decode cL_law 612 = .ok (.iload_n 3, 1) := by decide +kernel
theorem dL_law_613 : decode cL_law 613 = .ok (.iconst 1, 1) := by decide +kernel
theorem dL_law_614 : decode cL_law 614 = .ok (.iadd, 1) := by decide +kernel
theorem dL_law_615 : decode cL_law 615 = .ok (.iaload, 1) := by decide +kernel
theorem dL_law_616 : decode cL_law 616 = .ok (.aload_n 0, 1) := by decide +kernel
theorem dL_law_617 : decode cL_law 617 = .ok (.iload_n 3, 1) := by decide +kernel
theorem dL_law_618 : decode cL_law 618 = .ok (.iconst 2, 1) := by decide +kernel
theorem dL_law_619 : decode cL_law 619 = .ok (.iadd, 1) := by decide +kernel
theorem dL_law_620 : decode cL_law 620 = .ok (.iaload, 1) := by decide +kernel
theorem dL_law_621 : decode cL_law 621 = .ok (.invokevirtual 78, 3) := by decide +kernel
theorem dL_law_624 : decode cL_law 624 = .ok (.if_icmp .eq 265, 3) := by decide +kernel
theorem dL_law_627 : decode cL_law 627 = .ok (.iconst 0, 1) := by decide +kernel
theorem dL_law_628 : decode cL_law 628 = .ok (.ireturn, 1) := by decide +kernel
theorem dL_law_629 : decode cL_law 629 = .ok (.aload_n 1, 1) := by decide +kernel
theorem dL_law_630 : decode cL_law 630 = .ok (.invokevirtual 79, 3) := by decide +kernel
theorem dL_law_633 : decode cL_law 633 = .ok (.aload_n 2, 1) := by decide +kernel
theorem dL_law_634 : decode cL_law 634 = .ok (.invokevirtual 82, 3) := by decide +kernel
theorem dL_law_637 : decode cL_law 637 = .ok (.if_icmp .eq 252, 3) := by decide +kernel
theorem dL_law_640 : decode cL_law 640 = .ok (.iconst 0, 1) := by decide +kernel
theorem dL_law_641 : decode cL_law 641 = .ok (.ireturn, 1) := by decide +kernel
theorem dL_law_642 : decode cL_law 642 = .ok (.aload_n 1, 1) := by decide +kernel
theorem dL_law_643 : decode cL_law 643 = .ok (.aload_n 0, 1) := by decide +kernel
theorem dL_law_644 : decode cL_law 644 = .ok (.iload_n 3, 1) := by decide +kernel
theorem dL_law_645 : decode cL_law 645 = .ok (.iconst 1, 1) := by decide +kernel
theorem dL_law_646 : decode cL_law 646 = .ok (.iadd, 1) := by decide +kernel
theorem dL_law_647 : decode cL_law 647 = .ok (.iaload, 1) := by decide +kernel
theorem dL_law_648 : decode cL_law 648 = .ok (.aload_n 0, 1) := by decide +kernel
theorem dL_law_649 : decode cL_law 649 = .ok (.iload_n 3, 1) := by decide +kernel
theorem dL_law_650 : decode cL_law 650 = .ok (.iconst 2, 1) := by decide +kernel
theorem dL_law_651 : decode cL_law 651 = .ok (.iadd, 1) := by decide +kernel
theorem dL_law_652 : decode cL_law 652 = .ok (.iaload, 1) := by decide +kernel
theorem dL_law_653 : decode cL_law 653 = .ok (.invokevirtual 83, 3) := by decide +kernel
theorem dL_law_656 : decode cL_law 656 = .ok (.aload_n 2, 1) := by decide +kernel
theorem dL_law_657 : decode cL_law 657 = .ok (.aload_n 0, 1) := by decide +kernel
theorem dL_law_658 : decode cL_law 658 = .ok (.iload_n 3, 1) := by decide +kernel
theorem dL_law_659 : decode cL_law 659 = .ok (.iconst 1, 1) := by decide +kernel
theorem dL_law_660 : decode cL_law 660 = .ok (.iadd, 1) := by decide +kernel
theorem dL_law_661 : decode cL_law 661 = .ok (.iaload, 1) := by decide +kernel
theorem dL_law_662 : decode cL_law 662 = .ok (.aload_n 0, 1) := by decide +kernel
theorem dL_law_663 : decode cL_law 663 = .ok (.iload_n 3, 1) := by decide +kernel
theorem dL_law_664 : decode cL_law 664 = .ok (.iconst 2, 1) := by decide +kernel
theorem dL_law_665 : decode cL_law 665 = .ok (.iadd, 1) := by decide +kernel
theorem dL_law_666 : decode cL_law 666 = .ok (.iaload, 1) := by decide +kernel
theorem dL_law_667 : decode cL_law 667 = .ok (.invokevirtual 86, 3) := by decide +kernel
theorem dL_law_670 : decode cL_law 670 = .ok (.if_icmp .eq 219, 3) := by decide +kernel
theorem dL_law_673 : decode cL_law 673 = .ok (.iconst 0, 1) := by decide +kernel
theorem dL_law_674 : decode cL_law 674 = .ok (.ireturn, 1) := by decide +kernel
theorem dL_law_675 : decode cL_law 675 = .ok (.aload_n 1, 1) := by decide +kernel
theorem dL_law_676 : decode cL_law 676 = .ok (.aload_n 0, 1) := by decide +kernel
theorem dL_law_677 : decode cL_law 677 = .ok (.iload_n 3, 1) := by decide +kernel
theorem dL_law_678 : decode cL_law 678 = .ok (.iconst 1, 1) := by decide +kernel
theorem dL_law_679 : decode cL_law 679 = .ok (.iadd, 1) := by decide +kernel
theorem dL_law_680 : decode cL_law 680 = .ok (.iaload, 1) := by decide +kernel
theorem dL_law_681 : decode cL_law 681 = .ok (.invokevirtual 87, 3) := by decide +kernel
theorem dL_law_684 : decode cL_law 684 = .ok (.aload_n 2, 1) := by decide +kernel
theorem dL_law_685 : decode cL_law 685 = .ok (.aload_n 0, 1) := by decide +kernel
theorem dL_law_686 : decode cL_law 686 = .ok (.iload_n 3, 1) := by decide +kernel
theorem dL_law_687 : decode cL_law 687 = .ok (.iconst 1, 1) := by decide +kernel
theorem dL_law_688 : decode cL_law 688 = .ok (.iadd, 1) := by decide +kernel
theorem dL_law_689 : decode cL_law 689 = .ok (.iaload, 1) := by decide +kernel
theorem dL_law_690 : decode cL_law 690 = .ok (.invokevirtual 90, 3) := by decide +kernel
theorem dL_law_693 : decode cL_law 693 = .ok (.if_icmp .eq 196, 3) := by decide +kernel
theorem dL_law_696 : decode cL_law 696 = .ok (.iconst 0, 1) := by decide +kernel
theorem dL_law_697 : decode cL_law 697 = .ok (.ireturn, 1) := by decide +kernel
theorem dL_law_698 : decode cL_law 698 = .ok (.aload_n 1, 1) := by decide +kernel
theorem dL_law_699 : decode cL_law 699 = .ok (.aload_n 0, 1) := by decide +kernel
theorem dL_law_700 : decode cL_law 700 = .ok (.iload_n 3, 1) := by decide +kernel
theorem dL_law_701 : decode cL_law 701 = .ok (.iconst 1, 1) := by decide +kernel
theorem dL_law_702 : decode cL_law 702 = .ok (.iadd, 1) := by decide +kernel
theorem dL_law_703 : decode cL_law 703 = .ok (.iaload, 1) := by decide +kernel
theorem dL_law_704 : decode cL_law 704 = .ok (.aload_n 0, 1) := by decide +kernel
theorem dL_law_705 : decode cL_law 705 = .ok (.iload_n 3, 1) := by decide +kernel
theorem dL_law_706 : decode cL_law 706 = .ok (.iconst 2, 1) := by decide +kernel
theorem dL_law_707 : decode cL_law 707 = .ok (.iadd, 1) := by decide +kernel
theorem dL_law_708 : decode cL_law 708 = .ok (.iaload, 1) := by decide +kernel
theorem dL_law_709 : decode cL_law 709 = .ok (.aload_n 0, 1) := by decide +kernel
theorem dL_law_710 : decode cL_law 710 = .ok (.iload_n 3, 1) := by decide +kernel
theorem dL_law_711 : decode cL_law 711 = .ok (.iconst 3, 1) := by decide +kernel
theorem dL_law_712 : decode cL_law 712 = .ok (.iadd, 1) := by decide +kernel
theorem dL_law_713 : decode cL_law 713 = .ok (.iaload, 1) := by decide +kernel
theorem dL_law_714 : decode cL_law 714 = .ok (.invokevirtual 91, 3) := by decide +kernel
theorem dL_law_717 : decode cL_law 717 = .ok (.aload_n 2, 1) := by decide +kernel
theorem dL_law_718 : decode cL_law 718 = .ok (.aload_n 0, 1) := by decide +kernel
theorem dL_law_719 : decode cL_law 719 = .ok (.iload_n 3, 1) := by decide +kernel
theorem dL_law_720 : decode cL_law 720 = .ok (.iconst 1, 1) := by decide +kernel
theorem dL_law_721 : decode cL_law 721 = .ok (.iadd, 1) := by decide +kernel
theorem dL_law_722 : decode cL_law 722 = .ok (.iaload, 1) := by decide +kernel
theorem dL_law_723 : decode cL_law 723 = .ok (.aload_n 0, 1) := by decide +kernel
theorem dL_law_724 : decode cL_law 724 = .ok (.iload_n 3, 1) := by decide +kernel
theorem dL_law_725 : decode cL_law 725 = .ok (.iconst 2, 1) := by decide +kernel
theorem dL_law_726 : decode cL_law 726 = .ok (.iadd, 1) := by decide +kernel
theorem dL_law_727 : decode cL_law 727 = .ok (.iaload, 1) := by decide +kernel
theorem dL_law_728 : decode cL_law 728 = .ok (.aload_n 0, 1) := by decide +kernel
theorem dL_law_729 : decode cL_law 729 = .ok (.iload_n 3, 1) := by decide +kernel
theorem dL_law_730 : decode cL_law 730 = .ok (.iconst 3, 1) := by decide +kernel
theorem dL_law_731 : decode cL_law 731 = .ok (.iadd, 1) := by decide +kernel
theorem dL_law_732 : decode cL_law 732 = .ok (.iaload, 1) := by decide +kernel
theorem dL_law_733 : decode cL_law 733 = .ok (.invokevirtual 94, 3) := by decide +kernel
theorem dL_law_736 : decode cL_law 736 = .ok (.if_icmp .eq 153, 3) := by decide +kernel
theorem dL_law_739 : decode cL_law 739 = .ok (.iconst 0, 1) := by decide +kernel
theorem dL_law_740 : decode cL_law 740 = .ok (.ireturn, 1) := by decide +kernel
theorem dL_law_741 : decode cL_law 741 = .ok (.aload_n 1, 1) := by decide +kernel
theorem dL_law_742 : decode cL_law 742 = .ok (.aload_n 0, 1) := by decide +kernel
theorem dL_law_743 : decode cL_law 743 = .ok (.iload_n 3, 1) := by decide +kernel
theorem dL_law_744 : decode cL_law 744 = .ok (.iconst 1, 1) := by decide +kernel
theorem dL_law_745 : decode cL_law 745 = .ok (.iadd, 1) := by decide +kernel
theorem dL_law_746 : decode cL_law 746 = .ok (.iaload, 1) := by decide +kernel
theorem dL_law_747 : decode cL_law 747 = .ok (.invokevirtual 95, 3) := by decide +kernel
theorem dL_law_750 : decode cL_law 750 = .ok (.aload_n 2, 1) := by decide +kernel
theorem dL_law_751 : decode cL_law 751 = .ok (.aload_n 0, 1) := by decide +kernel
theorem dL_law_752 : decode cL_law 752 = .ok (.iload_n 3, 1) := by decide +kernel
theorem dL_law_753 : decode cL_law 753 = .ok (.iconst 1, 1) := by decide +kernel
theorem dL_law_754 : decode cL_law 754 = .ok (.iadd, 1) := by decide +kernel
theorem dL_law_755 : decode cL_law 755 = .ok (.iaload, 1) := by decide +kernel
theorem dL_law_756 : decode cL_law 756 = .ok (.invokevirtual 98, 3) := by decide +kernel
theorem dL_law_759 : decode cL_law 759 = .ok (.if_icmp .eq 130, 3) := by decide +kernel
theorem dL_law_762 : decode cL_law 762 = .ok (.iconst 0, 1) := by decide +kernel
theorem dL_law_763 : decode cL_law 763 = .ok (.ireturn, 1) := by decide +kernel
theorem dL_law_764 : decode cL_law 764 = .ok (.aload_n 1, 1) := by decide +kernel
theorem dL_law_765 : decode cL_law 765 = .ok (.aload_n 0, 1) := by decide +kernel
theorem dL_law_766 : decode cL_law 766 = .ok (.iload_n 3, 1) := by decide +kernel
theorem dL_law_767 : decode cL_law 767 = .ok (.iconst 1, 1) := by decide +kernel
theorem dL_law_768 : decode cL_law 768 = .ok (.iadd, 1) := by decide +kernel
theorem dL_law_769 : decode cL_law 769 = .ok (.iaload, 1) := by decide +kernel
theorem dL_law_770 : decode cL_law 770 = .ok (.invokevirtual 99, 3) := by decide +kernel
theorem dL_law_773 : decode cL_law 773 = .ok (.aload_n 2, 1) := by decide +kernel
theorem dL_law_774 : decode cL_law 774 = .ok (.aload_n 0, 1) := by decide +kernel
theorem dL_law_775 : decode cL_law 775 = .ok (.iload_n 3, 1) := by decide +kernel
theorem dL_law_776 : decode cL_law 776 = .ok (.iconst 1, 1) := by decide +kernel
theorem dL_law_777 : decode cL_law 777 = .ok (.iadd, 1) := by decide +kernel
theorem dL_law_778 : decode cL_law 778 = .ok (.iaload, 1) := by decide +kernel
theorem dL_law_779 : decode cL_law 779 = .ok (.invokevirtual 102, 3) := by decide +kernel
theorem dL_law_782 : decode cL_law 782 = .ok (.if_icmp .eq 107, 3) := by decide +kernel
theorem dL_law_785 : decode cL_law 785 = .ok (.iconst 0, 1) := by decide +kernel
theorem dL_law_786 : decode cL_law 786 = .ok (.ireturn, 1) := by decide +kernel
theorem dL_law_787 : decode cL_law 787 = .ok (.aload_n 1, 1) := by decide +kernel
theorem dL_law_788 : decode cL_law 788 = .ok (.aload_n 0, 1) := by decide +kernel
theorem dL_law_789 : decode cL_law 789 = .ok (.iload_n 3, 1) := by decide +kernel
theorem dL_law_790 : decode cL_law 790 = .ok (.iconst 1, 1) := by decide +kernel
theorem dL_law_791 : decode cL_law 791 = .ok (.iadd, 1) := by decide +kernel
theorem dL_law_792 : decode cL_law 792 = .ok (.iaload, 1) := by decide +kernel
theorem dL_law_793 : decode cL_law 793 = .ok (.aload_n 0, 1) := by decide +kernel
theorem dL_law_794 : decode cL_law 794 = .ok (.iload_n 3, 1) := by decide +kernel
theorem dL_law_795 : decode cL_law 795 = .ok (.iconst 2, 1) := by decide +kernel
theorem dL_law_796 : decode cL_law 796 = .ok (.iadd, 1) := by decide +kernel
theorem dL_law_797 : decode cL_law 797 = .ok (.iaload, 1) := by decide +kernel
theorem dL_law_798 : decode cL_law 798 = .ok (.invokevirtual 103, 3) := by decide +kernel
theorem dL_law_801 : decode cL_law 801 = .ok (.aload_n 2, 1) := by decide +kernel
theorem dL_law_802 : decode cL_law 802 = .ok (.aload_n 0, 1) := by decide +kernel
theorem dL_law_803 : decode cL_law 803 = .ok (.iload_n 3, 1) := by decide +kernel
theorem dL_law_804 : decode cL_law 804 = .ok (.iconst 1, 1) := by decide +kernel
theorem dL_law_805 : decode cL_law 805 = .ok (.iadd, 1) := by decide +kernel
theorem dL_law_806 : decode cL_law 806 = .ok (.iaload, 1) := by decide +kernel
theorem dL_law_807 : decode cL_law 807 = .ok (.aload_n 0, 1) := by decide +kernel
theorem dL_law_808 : decode cL_law 808 = .ok (.iload_n 3, 1) := by decide +kernel
theorem dL_law_809 : decode cL_law 809 = .ok (.iconst 2, 1) := by decide +kernel
theorem dL_law_810 : decode cL_law 810 = .ok (.iadd, 1) := by decide +kernel
theorem dL_law_811 : decode cL_law 811 = .ok (.iaload, 1) := by decide +kernel
theorem dL_law_812 : decode cL_law 812 = .ok (.invokevirtual 106, 3) := by decide +kernel
theorem dL_law_815 : decode cL_law 815 = .ok (.if_icmp .eq 74, 3) := by decide +kernel
theorem dL_law_818 : decode cL_law 818 = .ok (.iconst 0, 1) := by decide +kernel
theorem dL_law_819 : decode cL_law 819 = .ok (.ireturn, 1) := by decide +kernel
theorem dL_law_820 : decode cL_law 820 = .ok (.aload_n 1, 1) := by decide +kernel
theorem dL_law_821 : decode cL_law 821 = .ok (.aload_n 0, 1) := by decide +kernel
theorem dL_law_822 : decode cL_law 822 = .ok (.iload_n 3, 1) := by decide +kernel
theorem dL_law_823 : decode cL_law 823 = .ok (.iconst 1, 1) := by decide +kernel
theorem dL_law_824 : decode cL_law 824 = .ok (.iadd, 1) := by decide +kernel
theorem dL_law_825 : decode cL_law 825 = .ok (.iaload, 1) := by decide +kernel
theorem dL_law_826 : decode cL_law 826 = .ok (.invokevirtual 107, 3) := by decide +kernel
theorem dL_law_829 : decode cL_law 829 = .ok (.aload_n 2, 1) := by decide +kernel
theorem dL_law_830 : decode cL_law 830 = .ok (.aload_n 0, 1) := by decide +kernel
theorem dL_law_831 : decode cL_law 831 = .ok (.iload_n 3, 1) := by decide +kernel
theorem dL_law_832 : decode cL_law 832 = .ok (.iconst 1, 1) := by decide +kernel
theorem dL_law_833 : decode cL_law 833 = .ok (.iadd, 1) := by decide +kernel
theorem dL_law_834 : decode cL_law 834 = .ok (.iaload, 1) := by decide +kernel
theorem dL_law_835 : decode cL_law 835 = .ok (.invokevirtual 110, 3) := by decide +kernel
theorem dL_law_838 : decode cL_law 838 = .ok (.if_icmp .eq 51, 3) := by decide +kernel
theorem dL_law_841 : decode cL_law 841 = .ok (.iconst 0, 1) := by decide +kernel
theorem dL_law_842 : decode cL_law 842 = .ok (.ireturn, 1) := by decide +kernel
theorem dL_law_843 : decode cL_law 843 = .ok (.aload_n 1, 1) := by decide +kernel
theorem dL_law_844 : decode cL_law 844 = .ok (.aload_n 0, 1) := by decide +kernel
theorem dL_law_845 : decode cL_law 845 = .ok (.iload_n 3, 1) := by decide +kernel
theorem dL_law_846 : decode cL_law 846 = .ok (.iconst 1, 1) := by decide +kernel
theorem dL_law_847 : decode cL_law 847 = .ok (.iadd, 1) := by decide +kernel
theorem dL_law_848 : decode cL_law 848 = .ok (.iaload, 1) := by decide +kernel
theorem dL_law_849 : decode cL_law 849 = .ok (.invokevirtual 111, 3) := by decide +kernel
theorem dL_law_852 : decode cL_law 852 = .ok (.aload_n 2, 1) := by decide +kernel
theorem dL_law_853 : decode cL_law 853 = .ok (.aload_n 0, 1) := by decide +kernel
theorem dL_law_854 : decode cL_law 854 = .ok (.iload_n 3, 1) := by decide +kernel
theorem dL_law_855 : decode cL_law 855 = .ok (.iconst 1, 1) := by decide +kernel
theorem dL_law_856 : decode cL_law 856 = .ok (.iadd, 1) := by decide +kernel
theorem dL_law_857 : decode cL_law 857 = .ok (.iaload, 1) := by decide +kernel
theorem dL_law_858 : decode cL_law 858 = .ok (.invokevirtual 114, 3) := by decide +kernel
theorem dL_law_861 : decode cL_law 861 = .ok (.if_icmp .eq 28, 3) := by decide +kernel
theorem dL_law_864 : decode cL_law 864 = .ok (.iconst 0, 1) := by decide +kernel
theorem dL_law_865 : decode cL_law 865 = .ok (.ireturn, 1) := by decide +kernel
theorem dL_law_866 : decode cL_law 866 = .ok (.aload_n 1, 1) := by decide +kernel
theorem dL_law_867 : decode cL_law 867 = .ok (.aload_n 0, 1) := by decide +kernel
theorem dL_law_868 : decode cL_law 868 = .ok (.iload_n 3, 1) := by decide +kernel
theorem dL_law_869 : decode cL_law 869 = .ok (.iconst 1, 1) := by decide +kernel
theorem dL_law_870 : decode cL_law 870 = .ok (.iadd, 1) := by decide +kernel
theorem dL_law_871 : decode cL_law 871 = .ok (.iaload, 1) := by decide +kernel
theorem dL_law_872 : decode cL_law 872 = .ok (.invokevirtual 115, 3) := by decide +kernel
theorem dL_law_875 : decode cL_law 875 = .ok (.aload_n 2, 1) := by decide +kernel
theorem dL_law_876 : decode cL_law 876 = .ok (.aload_n 0, 1) := by decide +kernel
theorem dL_law_877 : decode cL_law 877 = .ok (.iload_n 3, 1) := by decide +kernel
theorem dL_law_878 : decode cL_law 878 = .ok (.iconst 1, 1) := by decide +kernel
theorem dL_law_879 : decode cL_law 879 = .ok (.iadd, 1) := by decide +kernel
theorem dL_law_880 : decode cL_law 880 = .ok (.iaload, 1) := by decide +kernel
theorem dL_law_881 : decode cL_law 881 = .ok (.invokevirtual 118, 3) := by decide +kernel
theorem dL_law_884 : decode cL_law 884 = .ok (.if_icmp .eq 5, 3) := by decide +kernel
theorem dL_law_887 : decode cL_law 887 = .ok (.iconst 0, 1) := by decide +kernel
theorem dL_law_888 : decode cL_law 888 = .ok (.ireturn, 1) := by decide +kernel
theorem dL_law_889 : decode cL_law 889 = .ok (.iinc 3 6, 3) := by decide +kernel
theorem dL_law_892 : decode cL_law 892 = .ok (.goto (-874), 3) := by decide +kernel
theorem dL_law_895 : decode cL_law 895 = .ok (.iconst 1, 1) := by decide +kernel
theorem dL_law_896 : decode cL_law 896 = .ok (.ireturn, 1) := by decide +kernel
end
section
def lw_g : List Cond := lw_tbl.filter goodWord
theorem lw_g_of {w : Cond} (h : w ∈ lw_tbl) (hg : goodWord w = true) : w ∈ lw_g := List.mem_filter.mpr ⟨h, hg⟩
theorem wsl_X2_start : Cond.selects RX2 yX2_start yX2_start ∈ lw_g := lw_g_of (List.mem_of_getElem? (i := 0) (by decide +kernel)) rfl
theorem wsl_X2_serveNext : Cond.selects RX2 yX2_serveNext yX2_serveNext ∈ lw_g := lw_g_of (List.mem_of_getElem? (i := 1) (by decide +kernel)) rfl
theorem wsl_X1_claimAt : Cond.selects RX1 yX1_claimAt yX1_claimAt ∈ lw_g := lw_g_of (List.mem_of_getElem? (i := 2) (by decide +kernel)) rfl
theorem wsl_X3_leaveOut : Cond.selects RX3 yX3_leaveOut yX3_leaveOut ∈ lw_g := lw_g_of (List.mem_of_getElem? (i := 3) (by decide +kernel)) rfl
theorem wsl_X3_waitIf : Cond.selects RX3 yX3_waitIf yX3_waitIf ∈ lw_g := lw_g_of (List.mem_of_getElem? (i := 4) (by decide +kernel)) rfl
theorem wsl_X3_beginIf : Cond.selects RX3 yX3_beginIf yX3_beginIf ∈ lw_g := lw_g_of (List.mem_of_getElem? (i := 5) (by decide +kernel)) rfl
theorem wsl_X3_endIfWalked : Cond.selects RX3 yX3_endIfWalked yX3_endIfWalked ∈ lw_g := lw_g_of (List.mem_of_getElem? (i := 6) (by decide +kernel)) rfl
theorem wsl_X3_allTold : Cond.selects RX3 yX3_allTold yX3_allTold ∈ lw_g := lw_g_of (List.mem_of_getElem? (i := 7) (by decide +kernel)) rfl
theorem wsl_X3_milesThatBring : Cond.selects RX3 yX3_milesThatBring yX3_milesThatBring ∈ lw_g := lw_g_of (List.mem_of_getElem? (i := 8) (by decide +kernel)) rfl
theorem wsl_X3_runUnder : Cond.selects RX3 yX3_runUnder yX3_runUnder ∈ lw_g := lw_g_of (List.mem_of_getElem? (i := 9) (by decide +kernel)) rfl
theorem wsl_X3_costOfLiving : Cond.selects RX3 yX3_costOfLiving yX3_costOfLiving ∈ lw_g := lw_g_of (List.mem_of_getElem? (i := 10) (by decide +kernel)) rfl
theorem wsl_X4_comes : Cond.selects RX4 yX4_comes yX4_comes ∈ lw_g := lw_g_of (List.mem_of_getElem? (i := 11) (by decide +kernel)) rfl
theorem wsl_X4_goNow : Cond.selects RX4 yX4_goNow yX4_goNow ∈ lw_g := lw_g_of (List.mem_of_getElem? (i := 12) (by decide +kernel)) rfl
theorem wsl_X4_layNow : Cond.selects RX4 yX4_layNow yX4_layNow ∈ lw_g := lw_g_of (List.mem_of_getElem? (i := 13) (by decide +kernel)) rfl
theorem wsl_X4_go : Cond.selects RX4 yX4_go yX4_go ∈ lw_g := lw_g_of (List.mem_of_getElem? (i := 14) (by decide +kernel)) rfl
theorem wsl_X4_nextOf : Cond.selects RX4 yX4_nextOf yX4_nextOf ∈ lw_g := lw_g_of (List.mem_of_getElem? (i := 15) (by decide +kernel)) rfl
theorem wsl_X4_isAhead : Cond.selects RX4 yX4_isAhead yX4_isAhead ∈ lw_g := lw_g_of (List.mem_of_getElem? (i := 16) (by decide +kernel)) rfl
theorem wsl_X4_claimOf : Cond.selects RX4 yX4_claimOf yX4_claimOf ∈ lw_g := lw_g_of (List.mem_of_getElem? (i := 17) (by decide +kernel)) rfl
theorem wsl_X4_soonest : Cond.selects RX4 yX4_soonest yX4_soonest ∈ lw_g := lw_g_of (List.mem_of_getElem? (i := 18) (by decide +kernel)) rfl
theorem wsl_X4_worstOf : Cond.selects RX4 yX4_worstOf yX4_worstOf ∈ lw_g := lw_g_of (List.mem_of_getElem? (i := 19) (by decide +kernel)) rfl
theorem wsl_X4_whose : Cond.selects RX4 yX4_whose yX4_whose ∈ lw_g := lw_g_of (List.mem_of_getElem? (i := 20) (by decide +kernel)) rfl
theorem wsl_X4_sumOf : Cond.selects RX4 yX4_sumOf yX4_sumOf ∈ lw_g := lw_g_of (List.mem_of_getElem? (i := 21) (by decide +kernel)) rfl
theorem wsl_X4_areAllTold : Cond.selects RX4 yX4_areAllTold yX4_areAllTold ∈ lw_g := lw_g_of (List.mem_of_getElem? (i := 22) (by decide +kernel)) rfl
theorem wsl_X4_isRowBy : Cond.selects RX4 yX4_isRowBy yX4_isRowBy ∈ lw_g := lw_g_of (List.mem_of_getElem? (i := 23) (by decide +kernel)) rfl
theorem wsl_X4_isRow : Cond.selects RX4 yX4_isRow yX4_isRow ∈ lw_g := lw_g_of (List.mem_of_getElem? (i := 24) (by decide +kernel)) rfl
theorem wsl_X4_passAll : Cond.selects RX4 yX4_passAll yX4_passAll ∈ lw_g := lw_g_of (List.mem_of_getElem? (i := 25) (by decide +kernel)) rfl
theorem wsl_X4_pass : Cond.selects RX4 yX4_pass yX4_pass ∈ lw_g := lw_g_of (List.mem_of_getElem? (i := 26) (by decide +kernel)) rfl
theorem win_L : Cond.initialized RL ∈ lw_g := lw_g_of (List.mem_of_getElem? (i := 27) (by decide +kernel)) rfl
theorem win_X3 : Cond.initialized RX3 ∈ lw_g := lw_g_of (List.mem_of_getElem? (i := 28) (by decide +kernel)) rfl
theorem win_X1 : Cond.initialized RX1 ∈ lw_g := lw_g_of (List.mem_of_getElem? (i := 29) (by decide +kernel)) rfl
theorem win_X2 : Cond.initialized RX2 ∈ lw_g := lw_g_of (List.mem_of_getElem? (i := 30) (by decide +kernel)) rfl
theorem win_X0 : Cond.initialized RX0 ∈ lw_g := lw_g_of (List.mem_of_getElem? (i := 31) (by decide +kernel)) rfl
theorem win_X4 : Cond.initialized RX4 ∈ lw_g := lw_g_of (List.mem_of_getElem? (i := 32) (by decide +kernel)) rfl
theorem win_J6 : Cond.initialized RJ6 ∈ lw_g := lw_g_of (List.mem_of_getElem? (i := 33) (by decide +kernel)) rfl
theorem win_J9 : Cond.initialized "java/lang/Math" ∈ lw_g := lw_g_of (List.mem_of_getElem? (i := 34) (by decide +kernel)) rfl
theorem wcl_L_7 : Cond.classLink RL 7 RX3 ∈ lw_g := lw_g_of (List.mem_of_getElem? (i := 35) (by decide +kernel)) rfl
theorem wit_X3 : Cond.instantiable RX3 6 ∈ lw_g := lw_g_of (List.mem_of_getElem? (i := 36) (by decide +kernel)) rfl
theorem wml_L_9 : Cond.methodLink RL 9 yX3_init ∈ lw_g := lw_g_of (List.mem_of_getElem? (i := 37) (by decide +kernel)) rfl
theorem wim_X3_init : Cond.instanceMethod yX3_init ∈ lw_g := lw_g_of (List.mem_of_getElem? (i := 38) (by decide +kernel)) rfl
theorem wcd_X3_init : Cond.code yX3_init cX3_init 2 none ∈ lw_g := lw_g_of (List.mem_of_getElem? (i := 39) (by decide +kernel)) rfl
theorem wml_X3_1 : Cond.methodLink RX3 1 objectInit ∈ lw_g := lw_g_of (List.mem_of_getElem? (i := 40) (by decide +kernel)) rfl
theorem wim_obj : Cond.instanceMethod objectInit ∈ lw_g := lw_g_of (List.mem_of_getElem? (i := 41) (by decide +kernel)) rfl
theorem wcd_obj : Cond.code objectInit ⟨#[0xb1]⟩ 1 none ∈ lw_g := lw_g_of (List.mem_of_getElem? (i := 42) (by decide +kernel)) rfl
theorem wcl_X3_7 : Cond.classLink RX3 7 RX1 ∈ lw_g := lw_g_of (List.mem_of_getElem? (i := 43) (by decide +kernel)) rfl
theorem wit_X1 : Cond.instantiable RX1 6 ∈ lw_g := lw_g_of (List.mem_of_getElem? (i := 44) (by decide +kernel)) rfl
theorem wml_X3_9 : Cond.methodLink RX3 9 yX1_init ∈ lw_g := lw_g_of (List.mem_of_getElem? (i := 45) (by decide +kernel)) rfl
theorem wim_X1_init : Cond.instanceMethod yX1_init ∈ lw_g := lw_g_of (List.mem_of_getElem? (i := 46) (by decide +kernel)) rfl
theorem wcd_X1_init : Cond.code yX1_init cX1_init 1 none ∈ lw_g := lw_g_of (List.mem_of_getElem? (i := 47) (by decide +kernel)) rfl
theorem wml_X1_3 : Cond.methodLink RX1 3 objectInit ∈ lw_g := lw_g_of (List.mem_of_getElem? (i := 48) (by decide +kernel)) rfl
theorem wfl_X1_9 : Cond.fieldLink RX1 9 "FarthestFirst$Village" "miles" "[I" ∈ lw_g := lw_g_of (List.mem_of_getElem? (i := 49) (by decide +kernel)) rfl
theorem wfl_X3_45 : Cond.fieldLink RX3 45 "FarthestFirst$Village" "miles" "[I" ∈ lw_g := lw_g_of (List.mem_of_getElem? (i := 50) (by decide +kernel)) rfl
theorem wfl_X1_15 : Cond.fieldLink RX1 15 "FarthestFirst$Village" "minute" "[I" ∈ lw_g := lw_g_of (List.mem_of_getElem? (i := 51) (by decide +kernel)) rfl
theorem wfl_X3_49 : Cond.fieldLink RX3 49 "FarthestFirst$Village" "minute" "[I" ∈ lw_g := lw_g_of (List.mem_of_getElem? (i := 52) (by decide +kernel)) rfl
theorem wfl_X2_47 : Cond.fieldLink RX2 47 "FarthestFirst$Village" "minute" "[I" ∈ lw_g := lw_g_of (List.mem_of_getElem? (i := 53) (by decide +kernel)) rfl
theorem wfl_X1_18 : Cond.fieldLink RX1 18 "FarthestFirst$Village" "pails" "[I" ∈ lw_g := lw_g_of (List.mem_of_getElem? (i := 54) (by decide +kernel)) rfl
theorem wfl_X3_52 : Cond.fieldLink RX3 52 "FarthestFirst$Village" "pails" "[I" ∈ lw_g := lw_g_of (List.mem_of_getElem? (i := 55) (by decide +kernel)) rfl
theorem wfl_X1_21 : Cond.fieldLink RX1 21 "FarthestFirst$Village" "cart" "[Z" ∈ lw_g := lw_g_of (List.mem_of_getElem? (i := 56) (by decide +kernel)) rfl
theorem wfl_X3_55 : Cond.fieldLink RX3 55 "FarthestFirst$Village" "cart" "[Z" ∈ lw_g := lw_g_of (List.mem_of_getElem? (i := 57) (by decide +kernel)) rfl
theorem wfl_X1_28 : Cond.fieldLink RX1 28 "FarthestFirst$Village" "comers" "I" ∈ lw_g := lw_g_of (List.mem_of_getElem? (i := 58) (by decide +kernel)) rfl
theorem wfl_X3_58 : Cond.fieldLink RX3 58 "FarthestFirst$Village" "comers" "I" ∈ lw_g := lw_g_of (List.mem_of_getElem? (i := 59) (by decide +kernel)) rfl
theorem wfl_X2_32 : Cond.fieldLink RX2 32 "FarthestFirst$Village" "comers" "I" ∈ lw_g := lw_g_of (List.mem_of_getElem? (i := 60) (by decide +kernel)) rfl
theorem wfl_X1_25 : Cond.fieldLink RX1 25 "FarthestFirst$Village" "settings" "[I" ∈ lw_g := lw_g_of (List.mem_of_getElem? (i := 61) (by decide +kernel)) rfl
theorem wly_X1_miles : Cond.laysFinal "FarthestFirst$Village" "FarthestFirst$Village" "miles" "[I" ∈ lw_g := lw_g_of (List.mem_of_getElem? (i := 62) (by decide +kernel)) rfl
theorem wly_X1_minute : Cond.laysFinal "FarthestFirst$Village" "FarthestFirst$Village" "minute" "[I" ∈ lw_g := lw_g_of (List.mem_of_getElem? (i := 64) (by decide +kernel)) rfl
theorem wly_X1_pails : Cond.laysFinal "FarthestFirst$Village" "FarthestFirst$Village" "pails" "[I" ∈ lw_g := lw_g_of (List.mem_of_getElem? (i := 66) (by decide +kernel)) rfl
theorem wly_X1_cart : Cond.laysFinal "FarthestFirst$Village" "FarthestFirst$Village" "cart" "[Z" ∈ lw_g := lw_g_of (List.mem_of_getElem? (i := 68) (by decide +kernel)) rfl
theorem wly_X1_comers : Cond.lays "FarthestFirst$Village" "FarthestFirst$Village" "comers" "I" ∈ lw_g := lw_g_of (List.mem_of_getElem? (i := 70) (by decide +kernel)) rfl
theorem wly_X1_settings : Cond.laysFinal "FarthestFirst$Village" "FarthestFirst$Village" "settings" "[I" ∈ lw_g := lw_g_of (List.mem_of_getElem? (i := 72) (by decide +kernel)) rfl
theorem wac_int : Cond.arrayClass .int ∈ lw_g := lw_g_of (List.mem_of_getElem? (i := 75) (by decide +kernel)) rfl
theorem wac_boolean : Cond.arrayClass .boolean ∈ lw_g := lw_g_of (List.mem_of_getElem? (i := 76) (by decide +kernel)) rfl
theorem wcl_X3_27 : Cond.classLink RX3 27 RX2 ∈ lw_g := lw_g_of (List.mem_of_getElem? (i := 78) (by decide +kernel)) rfl
theorem wit_X2 : Cond.instantiable RX2 10 ∈ lw_g := lw_g_of (List.mem_of_getElem? (i := 79) (by decide +kernel)) rfl
theorem wim_X2_init : Cond.instanceMethod yX2_init ∈ lw_g := lw_g_of (List.mem_of_getElem? (i := 81) (by decide +kernel)) rfl
theorem wcd_X2_init : Cond.code yX2_init cX2_init 1 none ∈ lw_g := lw_g_of (List.mem_of_getElem? (i := 82) (by decide +kernel)) rfl
theorem wml_X2_3 : Cond.methodLink RX2 3 objectInit ∈ lw_g := lw_g_of (List.mem_of_getElem? (i := 83) (by decide +kernel)) rfl
theorem wfl_X2_9 : Cond.fieldLink RX2 9 "FarthestFirst$Well" "order" "[I" ∈ lw_g := lw_g_of (List.mem_of_getElem? (i := 84) (by decide +kernel)) rfl
theorem wfl_X3_101 : Cond.fieldLink RX3 101 "FarthestFirst$Well" "order" "[I" ∈ lw_g := lw_g_of (List.mem_of_getElem? (i := 85) (by decide +kernel)) rfl
theorem wfl_X2_15 : Cond.fieldLink RX2 15 "FarthestFirst$Well" "begin" "[I" ∈ lw_g := lw_g_of (List.mem_of_getElem? (i := 86) (by decide +kernel)) rfl
theorem wfl_X2_18 : Cond.fieldLink RX2 18 "FarthestFirst$Well" "end" "[I" ∈ lw_g := lw_g_of (List.mem_of_getElem? (i := 87) (by decide +kernel)) rfl
theorem wfl_X3_107 : Cond.fieldLink RX3 107 "FarthestFirst$Well" "end" "[I" ∈ lw_g := lw_g_of (List.mem_of_getElem? (i := 88) (by decide +kernel)) rfl
theorem wfl_X2_21 : Cond.fieldLink RX2 21 "FarthestFirst$Well" "wait" "[I" ∈ lw_g := lw_g_of (List.mem_of_getElem? (i := 89) (by decide +kernel)) rfl
theorem wfl_X3_104 : Cond.fieldLink RX3 104 "FarthestFirst$Well" "wait" "[I" ∈ lw_g := lw_g_of (List.mem_of_getElem? (i := 90) (by decide +kernel)) rfl
theorem wfl_X2_50 : Cond.fieldLink RX2 50 "FarthestFirst$Well" "turns" "I" ∈ lw_g := lw_g_of (List.mem_of_getElem? (i := 91) (by decide +kernel)) rfl
theorem wfl_X3_98 : Cond.fieldLink RX3 98 "FarthestFirst$Well" "turns" "I" ∈ lw_g := lw_g_of (List.mem_of_getElem? (i := 92) (by decide +kernel)) rfl
theorem wfl_X2_64 : Cond.fieldLink RX2 64 "FarthestFirst$Well" "worst" "I" ∈ lw_g := lw_g_of (List.mem_of_getElem? (i := 93) (by decide +kernel)) rfl
theorem wfl_X3_110 : Cond.fieldLink RX3 110 "FarthestFirst$Well" "worst" "I" ∈ lw_g := lw_g_of (List.mem_of_getElem? (i := 94) (by decide +kernel)) rfl
theorem wfl_X2_70 : Cond.fieldLink RX2 70 "FarthestFirst$Well" "sum" "I" ∈ lw_g := lw_g_of (List.mem_of_getElem? (i := 95) (by decide +kernel)) rfl
theorem wfl_X3_117 : Cond.fieldLink RX3 117 "FarthestFirst$Well" "sum" "I" ∈ lw_g := lw_g_of (List.mem_of_getElem? (i := 96) (by decide +kernel)) rfl
theorem wfl_X2_73 : Cond.fieldLink RX2 73 "FarthestFirst$Well" "time" "I" ∈ lw_g := lw_g_of (List.mem_of_getElem? (i := 97) (by decide +kernel)) rfl
theorem wfl_X3_120 : Cond.fieldLink RX3 120 "FarthestFirst$Well" "time" "I" ∈ lw_g := lw_g_of (List.mem_of_getElem? (i := 98) (by decide +kernel)) rfl
theorem wfl_X2_63 : Cond.fieldLink RX2 63 "FarthestFirst$Well" "comers" "I" ∈ lw_g := lw_g_of (List.mem_of_getElem? (i := 99) (by decide +kernel)) rfl
theorem wfl_X2_67 : Cond.fieldLink RX2 67 "FarthestFirst$Well" "rest" "I" ∈ lw_g := lw_g_of (List.mem_of_getElem? (i := 100) (by decide +kernel)) rfl
theorem wly_X2_order : Cond.laysFinal "FarthestFirst$Well" "FarthestFirst$Well" "order" "[I" ∈ lw_g := lw_g_of (List.mem_of_getElem? (i := 101) (by decide +kernel)) rfl
theorem wly_X2_begin : Cond.laysFinal "FarthestFirst$Well" "FarthestFirst$Well" "begin" "[I" ∈ lw_g := lw_g_of (List.mem_of_getElem? (i := 103) (by decide +kernel)) rfl
theorem wly_X2_end : Cond.laysFinal "FarthestFirst$Well" "FarthestFirst$Well" "end" "[I" ∈ lw_g := lw_g_of (List.mem_of_getElem? (i := 105) (by decide +kernel)) rfl
theorem wly_X2_wait : Cond.laysFinal "FarthestFirst$Well" "FarthestFirst$Well" "wait" "[I" ∈ lw_g := lw_g_of (List.mem_of_getElem? (i := 107) (by decide +kernel)) rfl
theorem wly_X2_turns : Cond.lays "FarthestFirst$Well" "FarthestFirst$Well" "turns" "I" ∈ lw_g := lw_g_of (List.mem_of_getElem? (i := 109) (by decide +kernel)) rfl
theorem wly_X2_worst : Cond.lays "FarthestFirst$Well" "FarthestFirst$Well" "worst" "I" ∈ lw_g := lw_g_of (List.mem_of_getElem? (i := 111) (by decide +kernel)) rfl
theorem wly_X2_sum : Cond.lays "FarthestFirst$Well" "FarthestFirst$Well" "sum" "I" ∈ lw_g := lw_g_of (List.mem_of_getElem? (i := 113) (by decide +kernel)) rfl
theorem wly_X2_time : Cond.lays "FarthestFirst$Well" "FarthestFirst$Well" "time" "I" ∈ lw_g := lw_g_of (List.mem_of_getElem? (i := 115) (by decide +kernel)) rfl
theorem wly_X2_comers : Cond.lays "FarthestFirst$Well" "FarthestFirst$Well" "comers" "I" ∈ lw_g := lw_g_of (List.mem_of_getElem? (i := 117) (by decide +kernel)) rfl
theorem wly_X2_rest : Cond.lays "FarthestFirst$Well" "FarthestFirst$Well" "rest" "I" ∈ lw_g := lw_g_of (List.mem_of_getElem? (i := 119) (by decide +kernel)) rfl
theorem wcl_X3_34 : Cond.classLink RX3 34 RX0 ∈ lw_g := lw_g_of (List.mem_of_getElem? (i := 122) (by decide +kernel)) rfl
theorem wit_X0 : Cond.instantiable RX0 2 ∈ lw_g := lw_g_of (List.mem_of_getElem? (i := 123) (by decide +kernel)) rfl
theorem wim_X0_init : Cond.instanceMethod yX0_init ∈ lw_g := lw_g_of (List.mem_of_getElem? (i := 125) (by decide +kernel)) rfl
theorem wcd_X0_init : Cond.code yX0_init cX0_init 1 none ∈ lw_g := lw_g_of (List.mem_of_getElem? (i := 126) (by decide +kernel)) rfl
theorem wml_X0_3 : Cond.methodLink RX0 3 objectInit ∈ lw_g := lw_g_of (List.mem_of_getElem? (i := 127) (by decide +kernel)) rfl
theorem wfl_X0_15 : Cond.fieldLink RX0 15 "FarthestFirst$Pad" "count" "I" ∈ lw_g := lw_g_of (List.mem_of_getElem? (i := 128) (by decide +kernel)) rfl
theorem wfl_X2_38 : Cond.fieldLink RX2 38 "FarthestFirst$Pad" "count" "I" ∈ lw_g := lw_g_of (List.mem_of_getElem? (i := 129) (by decide +kernel)) rfl
theorem wfl_X3_88 : Cond.fieldLink RX3 88 "FarthestFirst$Pad" "count" "I" ∈ lw_g := lw_g_of (List.mem_of_getElem? (i := 130) (by decide +kernel)) rfl
theorem wfl_X0_11 : Cond.fieldLink RX0 11 "FarthestFirst$Pad" "signs" "[I" ∈ lw_g := lw_g_of (List.mem_of_getElem? (i := 131) (by decide +kernel)) rfl
theorem wly_X0_count : Cond.lays "FarthestFirst$Pad" "FarthestFirst$Pad" "count" "I" ∈ lw_g := lw_g_of (List.mem_of_getElem? (i := 132) (by decide +kernel)) rfl
theorem wly_X0_signs : Cond.laysFinal "FarthestFirst$Pad" "FarthestFirst$Pad" "signs" "[I" ∈ lw_g := lw_g_of (List.mem_of_getElem? (i := 134) (by decide +kernel)) rfl
theorem wfl_X3_10 : Cond.fieldLink RX3 10 "FarthestFirst" "now" "LFarthestFirst$Village;" ∈ lw_g := lw_g_of (List.mem_of_getElem? (i := 137) (by decide +kernel)) rfl
theorem wfl_X3_16 : Cond.fieldLink RX3 16 "FarthestFirst" "trial" "LFarthestFirst$Village;" ∈ lw_g := lw_g_of (List.mem_of_getElem? (i := 138) (by decide +kernel)) rfl
theorem wfl_X3_19 : Cond.fieldLink RX3 19 "FarthestFirst" "images" "[LFarthestFirst$Village;" ∈ lw_g := lw_g_of (List.mem_of_getElem? (i := 139) (by decide +kernel)) rfl
theorem wfl_X3_23 : Cond.fieldLink RX3 23 "FarthestFirst" "kept" "[Z" ∈ lw_g := lw_g_of (List.mem_of_getElem? (i := 140) (by decide +kernel)) rfl
theorem wfl_X3_30 : Cond.fieldLink RX3 30 "FarthestFirst" "well" "LFarthestFirst$Well;" ∈ lw_g := lw_g_of (List.mem_of_getElem? (i := 141) (by decide +kernel)) rfl
theorem wfl_X3_37 : Cond.fieldLink RX3 37 "FarthestFirst" "pad" "LFarthestFirst$Pad;" ∈ lw_g := lw_g_of (List.mem_of_getElem? (i := 142) (by decide +kernel)) rfl
theorem wly_X3_now : Cond.laysFinal "FarthestFirst" "FarthestFirst" "now" "LFarthestFirst$Village;" ∈ lw_g := lw_g_of (List.mem_of_getElem? (i := 143) (by decide +kernel)) rfl
theorem wly_X3_trial : Cond.laysFinal "FarthestFirst" "FarthestFirst" "trial" "LFarthestFirst$Village;" ∈ lw_g := lw_g_of (List.mem_of_getElem? (i := 145) (by decide +kernel)) rfl
theorem wly_X3_images : Cond.laysFinal "FarthestFirst" "FarthestFirst" "images" "[LFarthestFirst$Village;" ∈ lw_g := lw_g_of (List.mem_of_getElem? (i := 147) (by decide +kernel)) rfl
theorem wly_X3_kept : Cond.laysFinal "FarthestFirst" "FarthestFirst" "kept" "[Z" ∈ lw_g := lw_g_of (List.mem_of_getElem? (i := 149) (by decide +kernel)) rfl
theorem wly_X3_well : Cond.laysFinal "FarthestFirst" "FarthestFirst" "well" "LFarthestFirst$Well;" ∈ lw_g := lw_g_of (List.mem_of_getElem? (i := 151) (by decide +kernel)) rfl
theorem wly_X3_pad : Cond.laysFinal "FarthestFirst" "FarthestFirst" "pad" "LFarthestFirst$Pad;" ∈ lw_g := lw_g_of (List.mem_of_getElem? (i := 153) (by decide +kernel)) rfl
theorem wml_L_13 : Cond.methodLink RL 13 yX3_come ∈ lw_g := lw_g_of (List.mem_of_getElem? (i := 156) (by decide +kernel)) rfl
theorem wim_X3_come : Cond.instanceMethod yX3_come ∈ lw_g := lw_g_of (List.mem_of_getElem? (i := 157) (by decide +kernel)) rfl
theorem wsl_X3_come : Cond.selects RX3 yX3_come yX3_come ∈ lw_g := lw_g_of (List.mem_of_getElem? (i := 158) (by decide +kernel)) rfl
theorem wcd_X3_come : Cond.code yX3_come cX3_come 6 (some .int) ∈ lw_g := lw_g_of (List.mem_of_getElem? (i := 159) (by decide +kernel)) rfl
theorem wml_X3_41 : Cond.methodLink RX3 41 yX3_within ∈ lw_g := lw_g_of (List.mem_of_getElem? (i := 160) (by decide +kernel)) rfl
theorem wst_X3_within : Cond.static yX3_within ∈ lw_g := lw_g_of (List.mem_of_getElem? (i := 161) (by decide +kernel)) rfl
theorem wcd_X3_within : Cond.code yX3_within cX3_within 3 (some .boolean) ∈ lw_g := lw_g_of (List.mem_of_getElem? (i := 162) (by decide +kernel)) rfl
theorem wml_X3_62 : Cond.methodLink RX3 62 yJ6_bitCount_0f7a4 ∈ lw_g := lw_g_of (List.mem_of_getElem? (i := 163) (by decide +kernel)) rfl
theorem wst_J6_bitCount_0f7a4 : Cond.static yJ6_bitCount_0f7a4 ∈ lw_g := lw_g_of (List.mem_of_getElem? (i := 164) (by decide +kernel)) rfl
theorem wcd_J6_bitCount_0f7a4 : Cond.code yJ6_bitCount_0f7a4 cJ6_bitCount_0f7a4 1 (some .int) ∈ lw_g := lw_g_of (List.mem_of_getElem? (i := 165) (by decide +kernel)) rfl
theorem wct_J6_265 : Cond.constant RJ6 265 (1431655765) ∈ lw_g := lw_g_of (List.mem_of_getElem? (i := 166) (by decide +kernel)) rfl
theorem wct_J6_266 : Cond.constant RJ6 266 (858993459) ∈ lw_g := lw_g_of (List.mem_of_getElem? (i := 167) (by decide +kernel)) rfl
theorem wct_J6_267 : Cond.constant RJ6 267 (252645135) ∈ lw_g := lw_g_of (List.mem_of_getElem? (i := 168) (by decide +kernel)) rfl
theorem wml_L_18 : Cond.methodLink RL 18 yX3_stays ∈ lw_g := lw_g_of (List.mem_of_getElem? (i := 169) (by decide +kernel)) rfl
theorem wim_X3_stays : Cond.instanceMethod yX3_stays ∈ lw_g := lw_g_of (List.mem_of_getElem? (i := 170) (by decide +kernel)) rfl
theorem wsl_X3_stays : Cond.selects RX3 yX3_stays yX3_stays ∈ lw_g := lw_g_of (List.mem_of_getElem? (i := 171) (by decide +kernel)) rfl
theorem wcd_X3_stays : Cond.code yX3_stays cX3_stays 2 (some .int) ∈ lw_g := lw_g_of (List.mem_of_getElem? (i := 172) (by decide +kernel)) rfl
theorem wml_X3_68 : Cond.methodLink RX3 68 yX1_comes ∈ lw_g := lw_g_of (List.mem_of_getElem? (i := 173) (by decide +kernel)) rfl
theorem wim_X1_comes : Cond.instanceMethod yX1_comes ∈ lw_g := lw_g_of (List.mem_of_getElem? (i := 174) (by decide +kernel)) rfl
theorem wsl_X1_comes : Cond.selects RX1 yX1_comes yX1_comes ∈ lw_g := lw_g_of (List.mem_of_getElem? (i := 175) (by decide +kernel)) rfl
theorem wcd_X1_comes : Cond.code yX1_comes cX1_comes 2 (some .boolean) ∈ lw_g := lw_g_of (List.mem_of_getElem? (i := 176) (by decide +kernel)) rfl
theorem wml_L_23 : Cond.methodLink RL 23 yX3_person ∈ lw_g := lw_g_of (List.mem_of_getElem? (i := 177) (by decide +kernel)) rfl
theorem wim_X3_person : Cond.instanceMethod yX3_person ∈ lw_g := lw_g_of (List.mem_of_getElem? (i := 178) (by decide +kernel)) rfl
theorem wsl_X3_person : Cond.selects RX3 yX3_person yX3_person ∈ lw_g := lw_g_of (List.mem_of_getElem? (i := 179) (by decide +kernel)) rfl
theorem wcd_X3_person : Cond.code yX3_person cX3_person 3 (some .int) ∈ lw_g := lw_g_of (List.mem_of_getElem? (i := 180) (by decide +kernel)) rfl
theorem wml_L_28 : Cond.methodLink RL 28 yX3_set ∈ lw_g := lw_g_of (List.mem_of_getElem? (i := 181) (by decide +kernel)) rfl
theorem wim_X3_set : Cond.instanceMethod yX3_set ∈ lw_g := lw_g_of (List.mem_of_getElem? (i := 182) (by decide +kernel)) rfl
theorem wsl_X3_set : Cond.selects RX3 yX3_set yX3_set ∈ lw_g := lw_g_of (List.mem_of_getElem? (i := 183) (by decide +kernel)) rfl
theorem wcd_X3_set : Cond.code yX3_set cX3_set 4 (some .int) ∈ lw_g := lw_g_of (List.mem_of_getElem? (i := 184) (by decide +kernel)) rfl
theorem wml_X3_72 : Cond.methodLink RX3 72 yX3_leastOf ∈ lw_g := lw_g_of (List.mem_of_getElem? (i := 185) (by decide +kernel)) rfl
theorem wst_X3_leastOf : Cond.static yX3_leastOf ∈ lw_g := lw_g_of (List.mem_of_getElem? (i := 186) (by decide +kernel)) rfl
theorem wcd_X3_leastOf : Cond.code yX3_leastOf cX3_leastOf 1 (some .int) ∈ lw_g := lw_g_of (List.mem_of_getElem? (i := 187) (by decide +kernel)) rfl
theorem wml_X3_75 : Cond.methodLink RX3 75 yX3_mostOf ∈ lw_g := lw_g_of (List.mem_of_getElem? (i := 188) (by decide +kernel)) rfl
theorem wst_X3_mostOf : Cond.static yX3_mostOf ∈ lw_g := lw_g_of (List.mem_of_getElem? (i := 189) (by decide +kernel)) rfl
theorem wcd_X3_mostOf : Cond.code yX3_mostOf cX3_mostOf 1 (some .int) ∈ lw_g := lw_g_of (List.mem_of_getElem? (i := 190) (by decide +kernel)) rfl
theorem wml_X3_78 : Cond.methodLink RX3 78 yX1_setting ∈ lw_g := lw_g_of (List.mem_of_getElem? (i := 191) (by decide +kernel)) rfl
theorem wim_X1_setting : Cond.instanceMethod yX1_setting ∈ lw_g := lw_g_of (List.mem_of_getElem? (i := 192) (by decide +kernel)) rfl
theorem wsl_X1_setting : Cond.selects RX1 yX1_setting yX1_setting ∈ lw_g := lw_g_of (List.mem_of_getElem? (i := 193) (by decide +kernel)) rfl
theorem wcd_X1_setting : Cond.code yX1_setting cX1_setting 2 (some .int) ∈ lw_g := lw_g_of (List.mem_of_getElem? (i := 194) (by decide +kernel)) rfl
theorem wml_X3_81 : Cond.methodLink RX3 81 yX1_change ∈ lw_g := lw_g_of (List.mem_of_getElem? (i := 195) (by decide +kernel)) rfl
theorem wim_X1_change : Cond.instanceMethod yX1_change ∈ lw_g := lw_g_of (List.mem_of_getElem? (i := 196) (by decide +kernel)) rfl
theorem wsl_X1_change : Cond.selects RX1 yX1_change yX1_change ∈ lw_g := lw_g_of (List.mem_of_getElem? (i := 197) (by decide +kernel)) rfl
theorem wcd_X1_change : Cond.code yX1_change cX1_change 3 none ∈ lw_g := lw_g_of (List.mem_of_getElem? (i := 198) (by decide +kernel)) rfl
theorem wml_L_32 : Cond.methodLink RL 32 yX3_say ∈ lw_g := lw_g_of (List.mem_of_getElem? (i := 199) (by decide +kernel)) rfl
theorem wim_X3_say : Cond.instanceMethod yX3_say ∈ lw_g := lw_g_of (List.mem_of_getElem? (i := 200) (by decide +kernel)) rfl
theorem wsl_X3_say : Cond.selects RX3 yX3_say yX3_say ∈ lw_g := lw_g_of (List.mem_of_getElem? (i := 201) (by decide +kernel)) rfl
theorem wcd_X3_say : Cond.code yX3_say cX3_say 2 (some .int) ∈ lw_g := lw_g_of (List.mem_of_getElem? (i := 202) (by decide +kernel)) rfl
theorem wml_X3_85 : Cond.methodLink RX3 85 yX0_add ∈ lw_g := lw_g_of (List.mem_of_getElem? (i := 203) (by decide +kernel)) rfl
theorem wim_X0_add : Cond.instanceMethod yX0_add ∈ lw_g := lw_g_of (List.mem_of_getElem? (i := 204) (by decide +kernel)) rfl
theorem wsl_X0_add : Cond.selects RX0 yX0_add yX0_add ∈ lw_g := lw_g_of (List.mem_of_getElem? (i := 205) (by decide +kernel)) rfl
theorem wcd_X0_add : Cond.code yX0_add cX0_add 2 (some .boolean) ∈ lw_g := lw_g_of (List.mem_of_getElem? (i := 206) (by decide +kernel)) rfl
theorem wml_L_36 : Cond.methodLink RL 36 yX3_wipe ∈ lw_g := lw_g_of (List.mem_of_getElem? (i := 207) (by decide +kernel)) rfl
theorem wim_X3_wipe : Cond.instanceMethod yX3_wipe ∈ lw_g := lw_g_of (List.mem_of_getElem? (i := 208) (by decide +kernel)) rfl
theorem wsl_X3_wipe : Cond.selects RX3 yX3_wipe yX3_wipe ∈ lw_g := lw_g_of (List.mem_of_getElem? (i := 209) (by decide +kernel)) rfl
theorem wcd_X3_wipe : Cond.code yX3_wipe cX3_wipe 2 (some .int) ∈ lw_g := lw_g_of (List.mem_of_getElem? (i := 210) (by decide +kernel)) rfl
theorem wml_L_41 : Cond.methodLink RL 41 yX3_fault ∈ lw_g := lw_g_of (List.mem_of_getElem? (i := 211) (by decide +kernel)) rfl
theorem wim_X3_fault : Cond.instanceMethod yX3_fault ∈ lw_g := lw_g_of (List.mem_of_getElem? (i := 212) (by decide +kernel)) rfl
theorem wsl_X3_fault : Cond.selects RX3 yX3_fault yX3_fault ∈ lw_g := lw_g_of (List.mem_of_getElem? (i := 213) (by decide +kernel)) rfl
theorem wcd_X3_fault : Cond.code yX3_fault cX3_fault 1 (some .int) ∈ lw_g := lw_g_of (List.mem_of_getElem? (i := 214) (by decide +kernel)) rfl
theorem wml_X3_91 : Cond.methodLink RX3 91 yX0_faultAmong ∈ lw_g := lw_g_of (List.mem_of_getElem? (i := 215) (by decide +kernel)) rfl
theorem wim_X0_faultAmong : Cond.instanceMethod yX0_faultAmong ∈ lw_g := lw_g_of (List.mem_of_getElem? (i := 216) (by decide +kernel)) rfl
theorem wsl_X0_faultAmong : Cond.selects RX0 yX0_faultAmong yX0_faultAmong ∈ lw_g := lw_g_of (List.mem_of_getElem? (i := 217) (by decide +kernel)) rfl
theorem wcd_X0_faultAmong : Cond.code yX0_faultAmong cX0_faultAmong 5 (some .int) ∈ lw_g := lw_g_of (List.mem_of_getElem? (i := 218) (by decide +kernel)) rfl
theorem wml_X0_19 : Cond.methodLink RX0 19 yX0_personAt ∈ lw_g := lw_g_of (List.mem_of_getElem? (i := 219) (by decide +kernel)) rfl
theorem wim_X0_personAt : Cond.instanceMethod yX0_personAt ∈ lw_g := lw_g_of (List.mem_of_getElem? (i := 220) (by decide +kernel)) rfl
theorem wsl_X0_personAt : Cond.selects RX0 yX0_personAt yX0_personAt ∈ lw_g := lw_g_of (List.mem_of_getElem? (i := 221) (by decide +kernel)) rfl
theorem wcd_X0_personAt : Cond.code yX0_personAt cX0_personAt 3 (some .int) ∈ lw_g := lw_g_of (List.mem_of_getElem? (i := 222) (by decide +kernel)) rfl
theorem wml_L_45 : Cond.methodLink RL 45 yX3_served ∈ lw_g := lw_g_of (List.mem_of_getElem? (i := 223) (by decide +kernel)) rfl
theorem wim_X3_served : Cond.instanceMethod yX3_served ∈ lw_g := lw_g_of (List.mem_of_getElem? (i := 224) (by decide +kernel)) rfl
theorem wsl_X3_served : Cond.selects RX3 yX3_served yX3_served ∈ lw_g := lw_g_of (List.mem_of_getElem? (i := 225) (by decide +kernel)) rfl
theorem wcd_X3_served : Cond.code yX3_served cX3_served 2 (some .int) ∈ lw_g := lw_g_of (List.mem_of_getElem? (i := 226) (by decide +kernel)) rfl
theorem wml_X3_94 : Cond.methodLink RX3 94 yX2_run ∈ lw_g := lw_g_of (List.mem_of_getElem? (i := 227) (by decide +kernel)) rfl
theorem wim_X2_run : Cond.instanceMethod yX2_run ∈ lw_g := lw_g_of (List.mem_of_getElem? (i := 228) (by decide +kernel)) rfl
theorem wsl_X2_run : Cond.selects RX2 yX2_run yX2_run ∈ lw_g := lw_g_of (List.mem_of_getElem? (i := 229) (by decide +kernel)) rfl
theorem wcd_X2_run : Cond.code yX2_run cX2_run 4 none ∈ lw_g := lw_g_of (List.mem_of_getElem? (i := 230) (by decide +kernel)) rfl
theorem wml_X2_24 : Cond.methodLink RX2 24 yX2_start ∈ lw_g := lw_g_of (List.mem_of_getElem? (i := 231) (by decide +kernel)) rfl
theorem wim_X2_start : Cond.instanceMethod yX2_start ∈ lw_g := lw_g_of (List.mem_of_getElem? (i := 233) (by decide +kernel)) rfl
theorem wcd_X2_start : Cond.code yX2_start cX2_start 2 none ∈ lw_g := lw_g_of (List.mem_of_getElem? (i := 234) (by decide +kernel)) rfl
theorem wml_X2_28 : Cond.methodLink RX2 28 yX2_serveNext ∈ lw_g := lw_g_of (List.mem_of_getElem? (i := 235) (by decide +kernel)) rfl
theorem wim_X2_serveNext : Cond.instanceMethod yX2_serveNext ∈ lw_g := lw_g_of (List.mem_of_getElem? (i := 237) (by decide +kernel)) rfl
theorem wcd_X2_serveNext : Cond.code yX2_serveNext cX2_serveNext 3 (some .int) ∈ lw_g := lw_g_of (List.mem_of_getElem? (i := 238) (by decide +kernel)) rfl
theorem wml_X2_76 : Cond.methodLink RX2 76 yX1_firstComing ∈ lw_g := lw_g_of (List.mem_of_getElem? (i := 239) (by decide +kernel)) rfl
theorem wim_X1_firstComing : Cond.instanceMethod yX1_firstComing ∈ lw_g := lw_g_of (List.mem_of_getElem? (i := 240) (by decide +kernel)) rfl
theorem wsl_X1_firstComing : Cond.selects RX1 yX1_firstComing yX1_firstComing ∈ lw_g := lw_g_of (List.mem_of_getElem? (i := 241) (by decide +kernel)) rfl
theorem wcd_X1_firstComing : Cond.code yX1_firstComing cX1_firstComing 4 (some .int) ∈ lw_g := lw_g_of (List.mem_of_getElem? (i := 242) (by decide +kernel)) rfl
theorem wct_X1_34 : Cond.constant RX1 34 (2147483647) ∈ lw_g := lw_g_of (List.mem_of_getElem? (i := 243) (by decide +kernel)) rfl
theorem wml_X1_35 : Cond.methodLink RX1 35 Lib.Math.min.name ∈ lw_g := lw_g_of (List.mem_of_getElem? (i := 244) (by decide +kernel)) rfl
theorem wst_min : Cond.static Lib.Math.min.name ∈ lw_g := lw_g_of (List.mem_of_getElem? (i := 245) (by decide +kernel)) rfl
theorem wcd_min : Cond.code Lib.Math.min.name Lib.Math.min.code 2 (some .int) ∈ lw_g := lw_g_of (List.mem_of_getElem? (i := 246) (by decide +kernel)) rfl
theorem wml_X2_53 : Cond.methodLink RX2 53 Lib.Math.max.name ∈ lw_g := lw_g_of (List.mem_of_getElem? (i := 247) (by decide +kernel)) rfl
theorem wst_max : Cond.static Lib.Math.max.name ∈ lw_g := lw_g_of (List.mem_of_getElem? (i := 248) (by decide +kernel)) rfl
theorem wcd_max : Cond.code Lib.Math.max.name Lib.Math.max.code 2 (some .int) ∈ lw_g := lw_g_of (List.mem_of_getElem? (i := 249) (by decide +kernel)) rfl
theorem wml_X2_79 : Cond.methodLink RX2 79 yX1_nextAt ∈ lw_g := lw_g_of (List.mem_of_getElem? (i := 250) (by decide +kernel)) rfl
theorem wim_X1_nextAt : Cond.instanceMethod yX1_nextAt ∈ lw_g := lw_g_of (List.mem_of_getElem? (i := 251) (by decide +kernel)) rfl
theorem wsl_X1_nextAt : Cond.selects RX1 yX1_nextAt yX1_nextAt ∈ lw_g := lw_g_of (List.mem_of_getElem? (i := 252) (by decide +kernel)) rfl
theorem wcd_X1_nextAt : Cond.code yX1_nextAt cX1_nextAt 6 (some .int) ∈ lw_g := lw_g_of (List.mem_of_getElem? (i := 253) (by decide +kernel)) rfl
theorem wml_X1_41 : Cond.methodLink RX1 41 yX1_goesBefore ∈ lw_g := lw_g_of (List.mem_of_getElem? (i := 254) (by decide +kernel)) rfl
theorem wim_X1_goesBefore : Cond.instanceMethod yX1_goesBefore ∈ lw_g := lw_g_of (List.mem_of_getElem? (i := 255) (by decide +kernel)) rfl
theorem wsl_X1_goesBefore : Cond.selects RX1 yX1_goesBefore yX1_goesBefore ∈ lw_g := lw_g_of (List.mem_of_getElem? (i := 256) (by decide +kernel)) rfl
theorem wcd_X1_goesBefore : Cond.code yX1_goesBefore cX1_goesBefore 6 (some .boolean) ∈ lw_g := lw_g_of (List.mem_of_getElem? (i := 257) (by decide +kernel)) rfl
theorem wml_X1_45 : Cond.methodLink RX1 45 yX1_claimAt ∈ lw_g := lw_g_of (List.mem_of_getElem? (i := 258) (by decide +kernel)) rfl
theorem wim_X1_claimAt : Cond.instanceMethod yX1_claimAt ∈ lw_g := lw_g_of (List.mem_of_getElem? (i := 260) (by decide +kernel)) rfl
theorem wcd_X1_claimAt : Cond.code yX1_claimAt cX1_claimAt 5 (some .int) ∈ lw_g := lw_g_of (List.mem_of_getElem? (i := 261) (by decide +kernel)) rfl
theorem wml_X2_82 : Cond.methodLink RX2 82 yX1_timeToDraw ∈ lw_g := lw_g_of (List.mem_of_getElem? (i := 262) (by decide +kernel)) rfl
theorem wim_X1_timeToDraw : Cond.instanceMethod yX1_timeToDraw ∈ lw_g := lw_g_of (List.mem_of_getElem? (i := 263) (by decide +kernel)) rfl
theorem wsl_X1_timeToDraw : Cond.selects RX1 yX1_timeToDraw yX1_timeToDraw ∈ lw_g := lw_g_of (List.mem_of_getElem? (i := 264) (by decide +kernel)) rfl
theorem wcd_X1_timeToDraw : Cond.code yX1_timeToDraw cX1_timeToDraw 2 (some .int) ∈ lw_g := lw_g_of (List.mem_of_getElem? (i := 265) (by decide +kernel)) rfl
theorem wml_L_49 : Cond.methodLink RL 49 yX3_waits ∈ lw_g := lw_g_of (List.mem_of_getElem? (i := 266) (by decide +kernel)) rfl
theorem wim_X3_waits : Cond.instanceMethod yX3_waits ∈ lw_g := lw_g_of (List.mem_of_getElem? (i := 267) (by decide +kernel)) rfl
theorem wsl_X3_waits : Cond.selects RX3 yX3_waits yX3_waits ∈ lw_g := lw_g_of (List.mem_of_getElem? (i := 268) (by decide +kernel)) rfl
theorem wcd_X3_waits : Cond.code yX3_waits cX3_waits 3 (some .int) ∈ lw_g := lw_g_of (List.mem_of_getElem? (i := 269) (by decide +kernel)) rfl
theorem wml_L_53 : Cond.methodLink RL 53 yX3_all ∈ lw_g := lw_g_of (List.mem_of_getElem? (i := 270) (by decide +kernel)) rfl
theorem wim_X3_all : Cond.instanceMethod yX3_all ∈ lw_g := lw_g_of (List.mem_of_getElem? (i := 271) (by decide +kernel)) rfl
theorem wsl_X3_all : Cond.selects RX3 yX3_all yX3_all ∈ lw_g := lw_g_of (List.mem_of_getElem? (i := 272) (by decide +kernel)) rfl
theorem wcd_X3_all : Cond.code yX3_all cX3_all 2 (some .int) ∈ lw_g := lw_g_of (List.mem_of_getElem? (i := 273) (by decide +kernel)) rfl
theorem wml_X3_113 : Cond.methodLink RX3 113 yX2_worstOff ∈ lw_g := lw_g_of (List.mem_of_getElem? (i := 274) (by decide +kernel)) rfl
theorem wim_X2_worstOff : Cond.instanceMethod yX2_worstOff ∈ lw_g := lw_g_of (List.mem_of_getElem? (i := 275) (by decide +kernel)) rfl
theorem wsl_X2_worstOff : Cond.selects RX2 yX2_worstOff yX2_worstOff ∈ lw_g := lw_g_of (List.mem_of_getElem? (i := 276) (by decide +kernel)) rfl
theorem wcd_X2_worstOff : Cond.code yX2_worstOff cX2_worstOff 2 (some .int) ∈ lw_g := lw_g_of (List.mem_of_getElem? (i := 277) (by decide +kernel)) rfl
theorem wml_L_57 : Cond.methodLink RL 57 yX3_judge ∈ lw_g := lw_g_of (List.mem_of_getElem? (i := 278) (by decide +kernel)) rfl
theorem wim_X3_judge : Cond.instanceMethod yX3_judge ∈ lw_g := lw_g_of (List.mem_of_getElem? (i := 279) (by decide +kernel)) rfl
theorem wsl_X3_judge : Cond.selects RX3 yX3_judge yX3_judge ∈ lw_g := lw_g_of (List.mem_of_getElem? (i := 280) (by decide +kernel)) rfl
theorem wcd_X3_judge : Cond.code yX3_judge cX3_judge 3 (some .int) ∈ lw_g := lw_g_of (List.mem_of_getElem? (i := 281) (by decide +kernel)) rfl
theorem wml_X3_123 : Cond.methodLink RX3 123 yX0_personAt ∈ lw_g := lw_g_of (List.mem_of_getElem? (i := 282) (by decide +kernel)) rfl
theorem wml_L_61 : Cond.methodLink RL 61 yX3_left ∈ lw_g := lw_g_of (List.mem_of_getElem? (i := 283) (by decide +kernel)) rfl
theorem wim_X3_left : Cond.instanceMethod yX3_left ∈ lw_g := lw_g_of (List.mem_of_getElem? (i := 284) (by decide +kernel)) rfl
theorem wsl_X3_left : Cond.selects RX3 yX3_left yX3_left ∈ lw_g := lw_g_of (List.mem_of_getElem? (i := 285) (by decide +kernel)) rfl
theorem wcd_X3_left : Cond.code yX3_left cX3_left 6 (some .int) ∈ lw_g := lw_g_of (List.mem_of_getElem? (i := 286) (by decide +kernel)) rfl
theorem wml_X3_126 : Cond.methodLink RX3 126 Lib.Math.min.name ∈ lw_g := lw_g_of (List.mem_of_getElem? (i := 287) (by decide +kernel)) rfl
theorem wml_L_65 : Cond.methodLink RL 65 yX3_best ∈ lw_g := lw_g_of (List.mem_of_getElem? (i := 288) (by decide +kernel)) rfl
theorem wim_X3_best : Cond.instanceMethod yX3_best ∈ lw_g := lw_g_of (List.mem_of_getElem? (i := 289) (by decide +kernel)) rfl
theorem wsl_X3_best : Cond.selects RX3 yX3_best yX3_best ∈ lw_g := lw_g_of (List.mem_of_getElem? (i := 290) (by decide +kernel)) rfl
theorem wcd_X3_best : Cond.code yX3_best cX3_best 9 (some .int) ∈ lw_g := lw_g_of (List.mem_of_getElem? (i := 291) (by decide +kernel)) rfl
theorem wml_X3_132 : Cond.methodLink RX3 132 yX3_leaveOut ∈ lw_g := lw_g_of (List.mem_of_getElem? (i := 292) (by decide +kernel)) rfl
theorem wim_X3_leaveOut : Cond.instanceMethod yX3_leaveOut ∈ lw_g := lw_g_of (List.mem_of_getElem? (i := 294) (by decide +kernel)) rfl
theorem wcd_X3_leaveOut : Cond.code yX3_leaveOut cX3_leaveOut 2 none ∈ lw_g := lw_g_of (List.mem_of_getElem? (i := 295) (by decide +kernel)) rfl
theorem wml_X3_151 : Cond.methodLink RX3 151 yX1_copy ∈ lw_g := lw_g_of (List.mem_of_getElem? (i := 296) (by decide +kernel)) rfl
theorem wim_X1_copy : Cond.instanceMethod yX1_copy ∈ lw_g := lw_g_of (List.mem_of_getElem? (i := 297) (by decide +kernel)) rfl
theorem wsl_X1_copy : Cond.selects RX1 yX1_copy yX1_copy ∈ lw_g := lw_g_of (List.mem_of_getElem? (i := 298) (by decide +kernel)) rfl
theorem wcd_X1_copy : Cond.code yX1_copy cX1_copy 3 none ∈ lw_g := lw_g_of (List.mem_of_getElem? (i := 299) (by decide +kernel)) rfl
theorem wml_X3_136 : Cond.methodLink RX3 136 yX3_waitIf ∈ lw_g := lw_g_of (List.mem_of_getElem? (i := 300) (by decide +kernel)) rfl
theorem wim_X3_waitIf : Cond.instanceMethod yX3_waitIf ∈ lw_g := lw_g_of (List.mem_of_getElem? (i := 302) (by decide +kernel)) rfl
theorem wcd_X3_waitIf : Cond.code yX3_waitIf cX3_waitIf 4 (some .int) ∈ lw_g := lw_g_of (List.mem_of_getElem? (i := 303) (by decide +kernel)) rfl
theorem wml_X3_169 : Cond.methodLink RX3 169 yX3_beginIf ∈ lw_g := lw_g_of (List.mem_of_getElem? (i := 304) (by decide +kernel)) rfl
theorem wim_X3_beginIf : Cond.instanceMethod yX3_beginIf ∈ lw_g := lw_g_of (List.mem_of_getElem? (i := 306) (by decide +kernel)) rfl
theorem wcd_X3_beginIf : Cond.code yX3_beginIf cX3_beginIf 4 (some .int) ∈ lw_g := lw_g_of (List.mem_of_getElem? (i := 307) (by decide +kernel)) rfl
theorem wml_X3_165 : Cond.methodLink RX3 165 yX2_beginOfOneMore ∈ lw_g := lw_g_of (List.mem_of_getElem? (i := 308) (by decide +kernel)) rfl
theorem wim_X2_beginOfOneMore : Cond.instanceMethod yX2_beginOfOneMore ∈ lw_g := lw_g_of (List.mem_of_getElem? (i := 309) (by decide +kernel)) rfl
theorem wsl_X2_beginOfOneMore : Cond.selects RX2 yX2_beginOfOneMore yX2_beginOfOneMore ∈ lw_g := lw_g_of (List.mem_of_getElem? (i := 310) (by decide +kernel)) rfl
theorem wcd_X2_beginOfOneMore : Cond.code yX2_beginOfOneMore cX2_beginOfOneMore 10 (some .int) ∈ lw_g := lw_g_of (List.mem_of_getElem? (i := 311) (by decide +kernel)) rfl
theorem wml_X2_59 : Cond.methodLink RX2 59 yX1_goesBefore ∈ lw_g := lw_g_of (List.mem_of_getElem? (i := 312) (by decide +kernel)) rfl
theorem wml_L_70 : Cond.methodLink RL 70 yX3_walk ∈ lw_g := lw_g_of (List.mem_of_getElem? (i := 313) (by decide +kernel)) rfl
theorem wim_X3_walk : Cond.instanceMethod yX3_walk ∈ lw_g := lw_g_of (List.mem_of_getElem? (i := 314) (by decide +kernel)) rfl
theorem wsl_X3_walk : Cond.selects RX3 yX3_walk yX3_walk ∈ lw_g := lw_g_of (List.mem_of_getElem? (i := 315) (by decide +kernel)) rfl
theorem wcd_X3_walk : Cond.code yX3_walk cX3_walk 8 (some .int) ∈ lw_g := lw_g_of (List.mem_of_getElem? (i := 316) (by decide +kernel)) rfl
theorem wml_X3_140 : Cond.methodLink RX3 140 yX3_endIfWalked ∈ lw_g := lw_g_of (List.mem_of_getElem? (i := 317) (by decide +kernel)) rfl
theorem wim_X3_endIfWalked : Cond.instanceMethod yX3_endIfWalked ∈ lw_g := lw_g_of (List.mem_of_getElem? (i := 319) (by decide +kernel)) rfl
theorem wcd_X3_endIfWalked : Cond.code yX3_endIfWalked cX3_endIfWalked 5 (some .int) ∈ lw_g := lw_g_of (List.mem_of_getElem? (i := 320) (by decide +kernel)) rfl
theorem wml_X3_172 : Cond.methodLink RX3 172 yX1_timeToDraw ∈ lw_g := lw_g_of (List.mem_of_getElem? (i := 321) (by decide +kernel)) rfl
theorem wml_L_75 : Cond.methodLink RL 75 yX3_claim ∈ lw_g := lw_g_of (List.mem_of_getElem? (i := 322) (by decide +kernel)) rfl
theorem wim_X3_claim : Cond.instanceMethod yX3_claim ∈ lw_g := lw_g_of (List.mem_of_getElem? (i := 323) (by decide +kernel)) rfl
theorem wsl_X3_claim : Cond.selects RX3 yX3_claim yX3_claim ∈ lw_g := lw_g_of (List.mem_of_getElem? (i := 324) (by decide +kernel)) rfl
theorem wcd_X3_claim : Cond.code yX3_claim cX3_claim 4 (some .int) ∈ lw_g := lw_g_of (List.mem_of_getElem? (i := 325) (by decide +kernel)) rfl
theorem wml_L_79 : Cond.methodLink RL 79 yX3_lied ∈ lw_g := lw_g_of (List.mem_of_getElem? (i := 326) (by decide +kernel)) rfl
theorem wim_X3_lied : Cond.instanceMethod yX3_lied ∈ lw_g := lw_g_of (List.mem_of_getElem? (i := 327) (by decide +kernel)) rfl
theorem wsl_X3_lied : Cond.selects RX3 yX3_lied yX3_lied ∈ lw_g := lw_g_of (List.mem_of_getElem? (i := 328) (by decide +kernel)) rfl
theorem wcd_X3_lied : Cond.code yX3_lied cX3_lied 3 (some .int) ∈ lw_g := lw_g_of (List.mem_of_getElem? (i := 329) (by decide +kernel)) rfl
theorem wml_X3_143 : Cond.methodLink RX3 143 yX3_allTold ∈ lw_g := lw_g_of (List.mem_of_getElem? (i := 330) (by decide +kernel)) rfl
theorem wim_X3_allTold : Cond.instanceMethod yX3_allTold ∈ lw_g := lw_g_of (List.mem_of_getElem? (i := 332) (by decide +kernel)) rfl
theorem wcd_X3_allTold : Cond.code yX3_allTold cX3_allTold 1 (some .boolean) ∈ lw_g := lw_g_of (List.mem_of_getElem? (i := 333) (by decide +kernel)) rfl
theorem wml_X3_147 : Cond.methodLink RX3 147 yX3_milesThatBring ∈ lw_g := lw_g_of (List.mem_of_getElem? (i := 334) (by decide +kernel)) rfl
theorem wim_X3_milesThatBring : Cond.instanceMethod yX3_milesThatBring ∈ lw_g := lw_g_of (List.mem_of_getElem? (i := 336) (by decide +kernel)) rfl
theorem wcd_X3_milesThatBring : Cond.code yX3_milesThatBring cX3_milesThatBring 5 (some .int) ∈ lw_g := lw_g_of (List.mem_of_getElem? (i := 337) (by decide +kernel)) rfl
theorem wml_X3_175 : Cond.methodLink RX3 175 yX2_keepsTo ∈ lw_g := lw_g_of (List.mem_of_getElem? (i := 338) (by decide +kernel)) rfl
theorem wim_X2_keepsTo : Cond.instanceMethod yX2_keepsTo ∈ lw_g := lw_g_of (List.mem_of_getElem? (i := 339) (by decide +kernel)) rfl
theorem wsl_X2_keepsTo : Cond.selects RX2 yX2_keepsTo yX2_keepsTo ∈ lw_g := lw_g_of (List.mem_of_getElem? (i := 340) (by decide +kernel)) rfl
theorem wcd_X2_keepsTo : Cond.code yX2_keepsTo cX2_keepsTo 4 (some .boolean) ∈ lw_g := lw_g_of (List.mem_of_getElem? (i := 341) (by decide +kernel)) rfl
theorem wml_X2_43 : Cond.methodLink RX2 43 yX0_personAt ∈ lw_g := lw_g_of (List.mem_of_getElem? (i := 342) (by decide +kernel)) rfl
theorem wml_L_83 : Cond.methodLink RL 83 yX3_could ∈ lw_g := lw_g_of (List.mem_of_getElem? (i := 343) (by decide +kernel)) rfl
theorem wim_X3_could : Cond.instanceMethod yX3_could ∈ lw_g := lw_g_of (List.mem_of_getElem? (i := 344) (by decide +kernel)) rfl
theorem wsl_X3_could : Cond.selects RX3 yX3_could yX3_could ∈ lw_g := lw_g_of (List.mem_of_getElem? (i := 345) (by decide +kernel)) rfl
theorem wcd_X3_could : Cond.code yX3_could cX3_could 3 (some .int) ∈ lw_g := lw_g_of (List.mem_of_getElem? (i := 346) (by decide +kernel)) rfl
theorem wml_L_87 : Cond.methodLink RL 87 yX3_law ∈ lw_g := lw_g_of (List.mem_of_getElem? (i := 347) (by decide +kernel)) rfl
theorem wim_X3_law : Cond.instanceMethod yX3_law ∈ lw_g := lw_g_of (List.mem_of_getElem? (i := 348) (by decide +kernel)) rfl
theorem wsl_X3_law : Cond.selects RX3 yX3_law yX3_law ∈ lw_g := lw_g_of (List.mem_of_getElem? (i := 349) (by decide +kernel)) rfl
theorem wcd_X3_law : Cond.code yX3_law cX3_law 6 (some .int) ∈ lw_g := lw_g_of (List.mem_of_getElem? (i := 350) (by decide +kernel)) rfl
theorem wml_X3_155 : Cond.methodLink RX3 155 yX3_runUnder ∈ lw_g := lw_g_of (List.mem_of_getElem? (i := 351) (by decide +kernel)) rfl
theorem wim_X3_runUnder : Cond.instanceMethod yX3_runUnder ∈ lw_g := lw_g_of (List.mem_of_getElem? (i := 353) (by decide +kernel)) rfl
theorem wcd_X3_runUnder : Cond.code yX3_runUnder cX3_runUnder 2 none ∈ lw_g := lw_g_of (List.mem_of_getElem? (i := 354) (by decide +kernel)) rfl
theorem wml_L_91 : Cond.methodLink RL 91 yX3_home ∈ lw_g := lw_g_of (List.mem_of_getElem? (i := 355) (by decide +kernel)) rfl
theorem wim_X3_home : Cond.instanceMethod yX3_home ∈ lw_g := lw_g_of (List.mem_of_getElem? (i := 356) (by decide +kernel)) rfl
theorem wsl_X3_home : Cond.selects RX3 yX3_home yX3_home ∈ lw_g := lw_g_of (List.mem_of_getElem? (i := 357) (by decide +kernel)) rfl
theorem wcd_X3_home : Cond.code yX3_home cX3_home 8 (some .int) ∈ lw_g := lw_g_of (List.mem_of_getElem? (i := 358) (by decide +kernel)) rfl
theorem wml_X3_158 : Cond.methodLink RX3 158 yX3_costOfLiving ∈ lw_g := lw_g_of (List.mem_of_getElem? (i := 359) (by decide +kernel)) rfl
theorem wim_X3_costOfLiving : Cond.instanceMethod yX3_costOfLiving ∈ lw_g := lw_g_of (List.mem_of_getElem? (i := 361) (by decide +kernel)) rfl
theorem wcd_X3_costOfLiving : Cond.code yX3_costOfLiving cX3_costOfLiving 4 (some .int) ∈ lw_g := lw_g_of (List.mem_of_getElem? (i := 362) (by decide +kernel)) rfl
theorem wml_L_95 : Cond.methodLink RL 95 yX3_two ∈ lw_g := lw_g_of (List.mem_of_getElem? (i := 363) (by decide +kernel)) rfl
theorem wim_X3_two : Cond.instanceMethod yX3_two ∈ lw_g := lw_g_of (List.mem_of_getElem? (i := 364) (by decide +kernel)) rfl
theorem wsl_X3_two : Cond.selects RX3 yX3_two yX3_two ∈ lw_g := lw_g_of (List.mem_of_getElem? (i := 365) (by decide +kernel)) rfl
theorem wcd_X3_two : Cond.code yX3_two cX3_two 11 (some .int) ∈ lw_g := lw_g_of (List.mem_of_getElem? (i := 366) (by decide +kernel)) rfl
theorem wml_X3_161 : Cond.methodLink RX3 161 Lib.Math.max.name ∈ lw_g := lw_g_of (List.mem_of_getElem? (i := 367) (by decide +kernel)) rfl
theorem wml_L_99 : Cond.methodLink RL 99 yX3_stay ∈ lw_g := lw_g_of (List.mem_of_getElem? (i := 368) (by decide +kernel)) rfl
theorem wim_X3_stay : Cond.instanceMethod yX3_stay ∈ lw_g := lw_g_of (List.mem_of_getElem? (i := 369) (by decide +kernel)) rfl
theorem wsl_X3_stay : Cond.selects RX3 yX3_stay yX3_stay ∈ lw_g := lw_g_of (List.mem_of_getElem? (i := 370) (by decide +kernel)) rfl
theorem wcd_X3_stay : Cond.code yX3_stay cX3_stay 4 (some .int) ∈ lw_g := lw_g_of (List.mem_of_getElem? (i := 371) (by decide +kernel)) rfl
theorem wml_L_103 : Cond.methodLink RL 103 yX3_day ∈ lw_g := lw_g_of (List.mem_of_getElem? (i := 372) (by decide +kernel)) rfl
theorem wim_X3_day : Cond.instanceMethod yX3_day ∈ lw_g := lw_g_of (List.mem_of_getElem? (i := 373) (by decide +kernel)) rfl
theorem wsl_X3_day : Cond.selects RX3 yX3_day yX3_day ∈ lw_g := lw_g_of (List.mem_of_getElem? (i := 374) (by decide +kernel)) rfl
theorem wcd_X3_day : Cond.code yX3_day cX3_day 5 (some .int) ∈ lw_g := lw_g_of (List.mem_of_getElem? (i := 375) (by decide +kernel)) rfl
theorem wct_X3_164 : Cond.constant RX3 164 (65537) ∈ lw_g := lw_g_of (List.mem_of_getElem? (i := 376) (by decide +kernel)) rfl
theorem wml_L_107 : Cond.methodLink RL 107 yX3_image ∈ lw_g := lw_g_of (List.mem_of_getElem? (i := 377) (by decide +kernel)) rfl
theorem wim_X3_image : Cond.instanceMethod yX3_image ∈ lw_g := lw_g_of (List.mem_of_getElem? (i := 378) (by decide +kernel)) rfl
theorem wsl_X3_image : Cond.selects RX3 yX3_image yX3_image ∈ lw_g := lw_g_of (List.mem_of_getElem? (i := 379) (by decide +kernel)) rfl
theorem wcd_X3_image : Cond.code yX3_image cX3_image 2 (some .int) ∈ lw_g := lw_g_of (List.mem_of_getElem? (i := 380) (by decide +kernel)) rfl
theorem wml_L_111 : Cond.methodLink RL 111 yX3_restore ∈ lw_g := lw_g_of (List.mem_of_getElem? (i := 381) (by decide +kernel)) rfl
theorem wim_X3_restore : Cond.instanceMethod yX3_restore ∈ lw_g := lw_g_of (List.mem_of_getElem? (i := 382) (by decide +kernel)) rfl
theorem wsl_X3_restore : Cond.selects RX3 yX3_restore yX3_restore ∈ lw_g := lw_g_of (List.mem_of_getElem? (i := 383) (by decide +kernel)) rfl
theorem wcd_X3_restore : Cond.code yX3_restore cX3_restore 2 (some .int) ∈ lw_g := lw_g_of (List.mem_of_getElem? (i := 384) (by decide +kernel)) rfl
theorem wml_L_115 : Cond.methodLink RL 115 yX3_told ∈ lw_g := lw_g_of (List.mem_of_getElem? (i := 385) (by decide +kernel)) rfl
theorem wim_X3_told : Cond.instanceMethod yX3_told ∈ lw_g := lw_g_of (List.mem_of_getElem? (i := 386) (by decide +kernel)) rfl
theorem wsl_X3_told : Cond.selects RX3 yX3_told yX3_told ∈ lw_g := lw_g_of (List.mem_of_getElem? (i := 387) (by decide +kernel)) rfl
theorem wcd_X3_told : Cond.code yX3_told cX3_told 2 (some .int) ∈ lw_g := lw_g_of (List.mem_of_getElem? (i := 388) (by decide +kernel)) rfl
theorem wcl_L_10 : Cond.classLink RL 10 RX4 ∈ lw_g := lw_g_of (List.mem_of_getElem? (i := 389) (by decide +kernel)) rfl
theorem wit_X4 : Cond.instantiable RX4 24 ∈ lw_g := lw_g_of (List.mem_of_getElem? (i := 390) (by decide +kernel)) rfl
theorem wml_L_12 : Cond.methodLink RL 12 yX4_init ∈ lw_g := lw_g_of (List.mem_of_getElem? (i := 391) (by decide +kernel)) rfl
theorem wim_X4_init : Cond.instanceMethod yX4_init ∈ lw_g := lw_g_of (List.mem_of_getElem? (i := 392) (by decide +kernel)) rfl
theorem wcd_X4_init : Cond.code yX4_init cX4_init 1 none ∈ lw_g := lw_g_of (List.mem_of_getElem? (i := 393) (by decide +kernel)) rfl
theorem wml_X4_1 : Cond.methodLink RX4 1 objectInit ∈ lw_g := lw_g_of (List.mem_of_getElem? (i := 394) (by decide +kernel)) rfl
theorem wfl_X4_67 : Cond.fieldLink RX4 67 "FarthestFirstModel" "coming" "I" ∈ lw_g := lw_g_of (List.mem_of_getElem? (i := 395) (by decide +kernel)) rfl
theorem wfl_X4_7 : Cond.fieldLink RX4 7 "FarthestFirstModel" "miles" "[I" ∈ lw_g := lw_g_of (List.mem_of_getElem? (i := 396) (by decide +kernel)) rfl
theorem wfl_X4_13 : Cond.fieldLink RX4 13 "FarthestFirstModel" "minute" "[I" ∈ lw_g := lw_g_of (List.mem_of_getElem? (i := 397) (by decide +kernel)) rfl
theorem wfl_X4_16 : Cond.fieldLink RX4 16 "FarthestFirstModel" "pails" "[I" ∈ lw_g := lw_g_of (List.mem_of_getElem? (i := 398) (by decide +kernel)) rfl
theorem wfl_X4_19 : Cond.fieldLink RX4 19 "FarthestFirstModel" "cart" "[I" ∈ lw_g := lw_g_of (List.mem_of_getElem? (i := 399) (by decide +kernel)) rfl
theorem wfl_X4_50 : Cond.fieldLink RX4 50 "FarthestFirstModel" "draw" "I" ∈ lw_g := lw_g_of (List.mem_of_getElem? (i := 400) (by decide +kernel)) rfl
theorem wfl_X4_54 : Cond.fieldLink RX4 54 "FarthestFirstModel" "far" "I" ∈ lw_g := lw_g_of (List.mem_of_getElem? (i := 401) (by decide +kernel)) rfl
theorem wfl_X4_87 : Cond.fieldLink RX4 87 "FarthestFirstModel" "stood" "I" ∈ lw_g := lw_g_of (List.mem_of_getElem? (i := 402) (by decide +kernel)) rfl
theorem wfl_X4_90 : Cond.fieldLink RX4 90 "FarthestFirstModel" "halved" "I" ∈ lw_g := lw_g_of (List.mem_of_getElem? (i := 403) (by decide +kernel)) rfl
theorem wfl_X4_22 : Cond.fieldLink RX4 22 "FarthestFirstModel" "pad" "[I" ∈ lw_g := lw_g_of (List.mem_of_getElem? (i := 404) (by decide +kernel)) rfl
theorem wfl_X4_97 : Cond.fieldLink RX4 97 "FarthestFirstModel" "padMany" "I" ∈ lw_g := lw_g_of (List.mem_of_getElem? (i := 405) (by decide +kernel)) rfl
theorem wfl_X4_25 : Cond.fieldLink RX4 25 "FarthestFirstModel" "from" "[I" ∈ lw_g := lw_g_of (List.mem_of_getElem? (i := 406) (by decide +kernel)) rfl
theorem wfl_X4_28 : Cond.fieldLink RX4 28 "FarthestFirstModel" "at" "[I" ∈ lw_g := lw_g_of (List.mem_of_getElem? (i := 407) (by decide +kernel)) rfl
theorem wfl_X4_31 : Cond.fieldLink RX4 31 "FarthestFirstModel" "waited" "[I" ∈ lw_g := lw_g_of (List.mem_of_getElem? (i := 408) (by decide +kernel)) rfl
theorem wfl_X4_34 : Cond.fieldLink RX4 34 "FarthestFirstModel" "ended" "[I" ∈ lw_g := lw_g_of (List.mem_of_getElem? (i := 409) (by decide +kernel)) rfl
theorem wfl_X4_37 : Cond.fieldLink RX4 37 "FarthestFirstModel" "took" "[I" ∈ lw_g := lw_g_of (List.mem_of_getElem? (i := 410) (by decide +kernel)) rfl
theorem wfl_X4_40 : Cond.fieldLink RX4 40 "FarthestFirstModel" "order" "[I" ∈ lw_g := lw_g_of (List.mem_of_getElem? (i := 411) (by decide +kernel)) rfl
theorem wfl_X4_115 : Cond.fieldLink RX4 115 "FarthestFirstModel" "many" "I" ∈ lw_g := lw_g_of (List.mem_of_getElem? (i := 412) (by decide +kernel)) rfl
theorem wfl_X4_100 : Cond.fieldLink RX4 100 "FarthestFirstModel" "byFar" "I" ∈ lw_g := lw_g_of (List.mem_of_getElem? (i := 413) (by decide +kernel)) rfl
theorem wfl_X4_103 : Cond.fieldLink RX4 103 "FarthestFirstModel" "byStood" "I" ∈ lw_g := lw_g_of (List.mem_of_getElem? (i := 414) (by decide +kernel)) rfl
theorem wfl_X4_43 : Cond.fieldLink RX4 43 "FarthestFirstModel" "kept" "[I" ∈ lw_g := lw_g_of (List.mem_of_getElem? (i := 415) (by decide +kernel)) rfl
theorem wfl_X4_46 : Cond.fieldLink RX4 46 "FarthestFirstModel" "isKept" "[Z" ∈ lw_g := lw_g_of (List.mem_of_getElem? (i := 416) (by decide +kernel)) rfl
theorem wfl_X4_174 : Cond.fieldLink RX4 174 "FarthestFirstModel" "keptAt" "I" ∈ lw_g := lw_g_of (List.mem_of_getElem? (i := 417) (by decide +kernel)) rfl
theorem wfl_X4_170 : Cond.fieldLink RX4 170 "FarthestFirstModel" "isWriting" "Z" ∈ lw_g := lw_g_of (List.mem_of_getElem? (i := 418) (by decide +kernel)) rfl
theorem wly_X4_coming : Cond.lays "FarthestFirstModel" "FarthestFirstModel" "coming" "I" ∈ lw_g := lw_g_of (List.mem_of_getElem? (i := 419) (by decide +kernel)) rfl
theorem wly_X4_miles : Cond.laysFinal "FarthestFirstModel" "FarthestFirstModel" "miles" "[I" ∈ lw_g := lw_g_of (List.mem_of_getElem? (i := 421) (by decide +kernel)) rfl
theorem wly_X4_minute : Cond.laysFinal "FarthestFirstModel" "FarthestFirstModel" "minute" "[I" ∈ lw_g := lw_g_of (List.mem_of_getElem? (i := 423) (by decide +kernel)) rfl
theorem wly_X4_pails : Cond.laysFinal "FarthestFirstModel" "FarthestFirstModel" "pails" "[I" ∈ lw_g := lw_g_of (List.mem_of_getElem? (i := 425) (by decide +kernel)) rfl
theorem wly_X4_cart : Cond.laysFinal "FarthestFirstModel" "FarthestFirstModel" "cart" "[I" ∈ lw_g := lw_g_of (List.mem_of_getElem? (i := 427) (by decide +kernel)) rfl
theorem wly_X4_draw : Cond.lays "FarthestFirstModel" "FarthestFirstModel" "draw" "I" ∈ lw_g := lw_g_of (List.mem_of_getElem? (i := 429) (by decide +kernel)) rfl
theorem wly_X4_far : Cond.lays "FarthestFirstModel" "FarthestFirstModel" "far" "I" ∈ lw_g := lw_g_of (List.mem_of_getElem? (i := 431) (by decide +kernel)) rfl
theorem wly_X4_stood : Cond.lays "FarthestFirstModel" "FarthestFirstModel" "stood" "I" ∈ lw_g := lw_g_of (List.mem_of_getElem? (i := 433) (by decide +kernel)) rfl
theorem wly_X4_halved : Cond.lays "FarthestFirstModel" "FarthestFirstModel" "halved" "I" ∈ lw_g := lw_g_of (List.mem_of_getElem? (i := 435) (by decide +kernel)) rfl
theorem wly_X4_pad : Cond.laysFinal "FarthestFirstModel" "FarthestFirstModel" "pad" "[I" ∈ lw_g := lw_g_of (List.mem_of_getElem? (i := 437) (by decide +kernel)) rfl
theorem wly_X4_padMany : Cond.lays "FarthestFirstModel" "FarthestFirstModel" "padMany" "I" ∈ lw_g := lw_g_of (List.mem_of_getElem? (i := 439) (by decide +kernel)) rfl
theorem wly_X4_from : Cond.laysFinal "FarthestFirstModel" "FarthestFirstModel" "from" "[I" ∈ lw_g := lw_g_of (List.mem_of_getElem? (i := 441) (by decide +kernel)) rfl
theorem wly_X4_at : Cond.laysFinal "FarthestFirstModel" "FarthestFirstModel" "at" "[I" ∈ lw_g := lw_g_of (List.mem_of_getElem? (i := 443) (by decide +kernel)) rfl
theorem wly_X4_waited : Cond.laysFinal "FarthestFirstModel" "FarthestFirstModel" "waited" "[I" ∈ lw_g := lw_g_of (List.mem_of_getElem? (i := 445) (by decide +kernel)) rfl
theorem wly_X4_ended : Cond.laysFinal "FarthestFirstModel" "FarthestFirstModel" "ended" "[I" ∈ lw_g := lw_g_of (List.mem_of_getElem? (i := 447) (by decide +kernel)) rfl
theorem wly_X4_took : Cond.laysFinal "FarthestFirstModel" "FarthestFirstModel" "took" "[I" ∈ lw_g := lw_g_of (List.mem_of_getElem? (i := 449) (by decide +kernel)) rfl
theorem wly_X4_order : Cond.laysFinal "FarthestFirstModel" "FarthestFirstModel" "order" "[I" ∈ lw_g := lw_g_of (List.mem_of_getElem? (i := 451) (by decide +kernel)) rfl
theorem wly_X4_many : Cond.lays "FarthestFirstModel" "FarthestFirstModel" "many" "I" ∈ lw_g := lw_g_of (List.mem_of_getElem? (i := 453) (by decide +kernel)) rfl
theorem wly_X4_byFar : Cond.lays "FarthestFirstModel" "FarthestFirstModel" "byFar" "I" ∈ lw_g := lw_g_of (List.mem_of_getElem? (i := 455) (by decide +kernel)) rfl
theorem wly_X4_byStood : Cond.lays "FarthestFirstModel" "FarthestFirstModel" "byStood" "I" ∈ lw_g := lw_g_of (List.mem_of_getElem? (i := 457) (by decide +kernel)) rfl
theorem wly_X4_kept : Cond.laysFinal "FarthestFirstModel" "FarthestFirstModel" "kept" "[I" ∈ lw_g := lw_g_of (List.mem_of_getElem? (i := 459) (by decide +kernel)) rfl
theorem wly_X4_isKept : Cond.laysFinal "FarthestFirstModel" "FarthestFirstModel" "isKept" "[Z" ∈ lw_g := lw_g_of (List.mem_of_getElem? (i := 461) (by decide +kernel)) rfl
theorem wly_X4_keptAt : Cond.lays "FarthestFirstModel" "FarthestFirstModel" "keptAt" "I" ∈ lw_g := lw_g_of (List.mem_of_getElem? (i := 463) (by decide +kernel)) rfl
theorem wly_X4_isWriting : Cond.lays "FarthestFirstModel" "FarthestFirstModel" "isWriting" "Z" ∈ lw_g := lw_g_of (List.mem_of_getElem? (i := 465) (by decide +kernel)) rfl
theorem wml_L_17 : Cond.methodLink RL 17 yX4_come ∈ lw_g := lw_g_of (List.mem_of_getElem? (i := 468) (by decide +kernel)) rfl
theorem wim_X4_come : Cond.instanceMethod yX4_come ∈ lw_g := lw_g_of (List.mem_of_getElem? (i := 469) (by decide +kernel)) rfl
theorem wsl_X4_come : Cond.selects RX4 yX4_come yX4_come ∈ lw_g := lw_g_of (List.mem_of_getElem? (i := 470) (by decide +kernel)) rfl
theorem wcd_X4_come : Cond.code yX4_come cX4_come 6 (some .int) ∈ lw_g := lw_g_of (List.mem_of_getElem? (i := 471) (by decide +kernel)) rfl
theorem wml_X4_63 : Cond.methodLink RX4 63 yX4_isPerson ∈ lw_g := lw_g_of (List.mem_of_getElem? (i := 472) (by decide +kernel)) rfl
theorem wst_X4_isPerson : Cond.static yX4_isPerson ∈ lw_g := lw_g_of (List.mem_of_getElem? (i := 473) (by decide +kernel)) rfl
theorem wcd_X4_isPerson : Cond.code yX4_isPerson cX4_isPerson 1 (some .boolean) ∈ lw_g := lw_g_of (List.mem_of_getElem? (i := 474) (by decide +kernel)) rfl
theorem wct_X4_57 : Cond.constantLong RX4 57 (7) ∈ lw_g := lw_g_of (List.mem_of_getElem? (i := 475) (by decide +kernel)) rfl
theorem wml_X4_59 : Cond.methodLink RX4 59 yX4_in ∈ lw_g := lw_g_of (List.mem_of_getElem? (i := 476) (by decide +kernel)) rfl
theorem wst_X4_in : Cond.static yX4_in ∈ lw_g := lw_g_of (List.mem_of_getElem? (i := 477) (by decide +kernel)) rfl
theorem wcd_X4_in : Cond.code yX4_in cX4_in 6 (some .boolean) ∈ lw_g := lw_g_of (List.mem_of_getElem? (i := 478) (by decide +kernel)) rfl
theorem wct_X4_70 : Cond.constantLong RX4 70 (99) ∈ lw_g := lw_g_of (List.mem_of_getElem? (i := 479) (by decide +kernel)) rfl
theorem wct_X4_72 : Cond.constantLong RX4 72 (999) ∈ lw_g := lw_g_of (List.mem_of_getElem? (i := 480) (by decide +kernel)) rfl
theorem wct_X4_74 : Cond.constantLong RX4 74 (9) ∈ lw_g := lw_g_of (List.mem_of_getElem? (i := 481) (by decide +kernel)) rfl
theorem wml_X4_76 : Cond.methodLink RX4 76 yX4_ones ∈ lw_g := lw_g_of (List.mem_of_getElem? (i := 482) (by decide +kernel)) rfl
theorem wst_X4_ones : Cond.static yX4_ones ∈ lw_g := lw_g_of (List.mem_of_getElem? (i := 483) (by decide +kernel)) rfl
theorem wcd_X4_ones : Cond.code yX4_ones cX4_ones 3 (some .int) ∈ lw_g := lw_g_of (List.mem_of_getElem? (i := 484) (by decide +kernel)) rfl
theorem wml_L_22 : Cond.methodLink RL 22 yX4_stays ∈ lw_g := lw_g_of (List.mem_of_getElem? (i := 485) (by decide +kernel)) rfl
theorem wim_X4_stays : Cond.instanceMethod yX4_stays ∈ lw_g := lw_g_of (List.mem_of_getElem? (i := 486) (by decide +kernel)) rfl
theorem wsl_X4_stays : Cond.selects RX4 yX4_stays yX4_stays ∈ lw_g := lw_g_of (List.mem_of_getElem? (i := 487) (by decide +kernel)) rfl
theorem wcd_X4_stays : Cond.code yX4_stays cX4_stays 2 (some .int) ∈ lw_g := lw_g_of (List.mem_of_getElem? (i := 488) (by decide +kernel)) rfl
theorem wml_X4_80 : Cond.methodLink RX4 80 yX4_comes ∈ lw_g := lw_g_of (List.mem_of_getElem? (i := 489) (by decide +kernel)) rfl
theorem wim_X4_comes : Cond.instanceMethod yX4_comes ∈ lw_g := lw_g_of (List.mem_of_getElem? (i := 491) (by decide +kernel)) rfl
theorem wcd_X4_comes : Cond.code yX4_comes cX4_comes 2 (some .boolean) ∈ lw_g := lw_g_of (List.mem_of_getElem? (i := 492) (by decide +kernel)) rfl
theorem wml_L_27 : Cond.methodLink RL 27 yX4_person ∈ lw_g := lw_g_of (List.mem_of_getElem? (i := 493) (by decide +kernel)) rfl
theorem wim_X4_person : Cond.instanceMethod yX4_person ∈ lw_g := lw_g_of (List.mem_of_getElem? (i := 494) (by decide +kernel)) rfl
theorem wsl_X4_person : Cond.selects RX4 yX4_person yX4_person ∈ lw_g := lw_g_of (List.mem_of_getElem? (i := 495) (by decide +kernel)) rfl
theorem wcd_X4_person : Cond.code yX4_person cX4_person 3 (some .int) ∈ lw_g := lw_g_of (List.mem_of_getElem? (i := 496) (by decide +kernel)) rfl
theorem wml_L_31 : Cond.methodLink RL 31 yX4_set ∈ lw_g := lw_g_of (List.mem_of_getElem? (i := 497) (by decide +kernel)) rfl
theorem wim_X4_set : Cond.instanceMethod yX4_set ∈ lw_g := lw_g_of (List.mem_of_getElem? (i := 498) (by decide +kernel)) rfl
theorem wsl_X4_set : Cond.selects RX4 yX4_set yX4_set ∈ lw_g := lw_g_of (List.mem_of_getElem? (i := 499) (by decide +kernel)) rfl
theorem wcd_X4_set : Cond.code yX4_set cX4_set 4 (some .int) ∈ lw_g := lw_g_of (List.mem_of_getElem? (i := 500) (by decide +kernel)) rfl
theorem wct_X4_83 : Cond.constantLong RX4 83 (3) ∈ lw_g := lw_g_of (List.mem_of_getElem? (i := 501) (by decide +kernel)) rfl
theorem wct_X4_85 : Cond.constantLong RX4 85 (20) ∈ lw_g := lw_g_of (List.mem_of_getElem? (i := 502) (by decide +kernel)) rfl
theorem wml_L_35 : Cond.methodLink RL 35 yX4_say ∈ lw_g := lw_g_of (List.mem_of_getElem? (i := 503) (by decide +kernel)) rfl
theorem wim_X4_say : Cond.instanceMethod yX4_say ∈ lw_g := lw_g_of (List.mem_of_getElem? (i := 504) (by decide +kernel)) rfl
theorem wsl_X4_say : Cond.selects RX4 yX4_say yX4_say ∈ lw_g := lw_g_of (List.mem_of_getElem? (i := 505) (by decide +kernel)) rfl
theorem wcd_X4_say : Cond.code yX4_say cX4_say 2 (some .int) ∈ lw_g := lw_g_of (List.mem_of_getElem? (i := 506) (by decide +kernel)) rfl
theorem wct_X4_93 : Cond.constantLong RX4 93 (33) ∈ lw_g := lw_g_of (List.mem_of_getElem? (i := 507) (by decide +kernel)) rfl
theorem wct_X4_95 : Cond.constantLong RX4 95 (126) ∈ lw_g := lw_g_of (List.mem_of_getElem? (i := 508) (by decide +kernel)) rfl
theorem wml_L_40 : Cond.methodLink RL 40 yX4_wipe ∈ lw_g := lw_g_of (List.mem_of_getElem? (i := 509) (by decide +kernel)) rfl
theorem wim_X4_wipe : Cond.instanceMethod yX4_wipe ∈ lw_g := lw_g_of (List.mem_of_getElem? (i := 510) (by decide +kernel)) rfl
theorem wsl_X4_wipe : Cond.selects RX4 yX4_wipe yX4_wipe ∈ lw_g := lw_g_of (List.mem_of_getElem? (i := 511) (by decide +kernel)) rfl
theorem wcd_X4_wipe : Cond.code yX4_wipe cX4_wipe 2 (some .int) ∈ lw_g := lw_g_of (List.mem_of_getElem? (i := 512) (by decide +kernel)) rfl
theorem wml_L_44 : Cond.methodLink RL 44 yX4_fault ∈ lw_g := lw_g_of (List.mem_of_getElem? (i := 513) (by decide +kernel)) rfl
theorem wim_X4_fault : Cond.instanceMethod yX4_fault ∈ lw_g := lw_g_of (List.mem_of_getElem? (i := 514) (by decide +kernel)) rfl
theorem wsl_X4_fault : Cond.selects RX4 yX4_fault yX4_fault ∈ lw_g := lw_g_of (List.mem_of_getElem? (i := 515) (by decide +kernel)) rfl
theorem wcd_X4_fault : Cond.code yX4_fault cX4_fault 4 (some .int) ∈ lw_g := lw_g_of (List.mem_of_getElem? (i := 516) (by decide +kernel)) rfl
theorem wml_L_48 : Cond.methodLink RL 48 yX4_served ∈ lw_g := lw_g_of (List.mem_of_getElem? (i := 517) (by decide +kernel)) rfl
theorem wim_X4_served : Cond.instanceMethod yX4_served ∈ lw_g := lw_g_of (List.mem_of_getElem? (i := 518) (by decide +kernel)) rfl
theorem wsl_X4_served : Cond.selects RX4 yX4_served yX4_served ∈ lw_g := lw_g_of (List.mem_of_getElem? (i := 519) (by decide +kernel)) rfl
theorem wcd_X4_served : Cond.code yX4_served cX4_served 2 (some .int) ∈ lw_g := lw_g_of (List.mem_of_getElem? (i := 520) (by decide +kernel)) rfl
theorem wml_X4_131 : Cond.methodLink RX4 131 yX4_goNow ∈ lw_g := lw_g_of (List.mem_of_getElem? (i := 521) (by decide +kernel)) rfl
theorem wim_X4_goNow : Cond.instanceMethod yX4_goNow ∈ lw_g := lw_g_of (List.mem_of_getElem? (i := 523) (by decide +kernel)) rfl
theorem wcd_X4_goNow : Cond.code yX4_goNow cX4_goNow 1 none ∈ lw_g := lw_g_of (List.mem_of_getElem? (i := 524) (by decide +kernel)) rfl
theorem wml_X4_124 : Cond.methodLink RX4 124 yX4_layNow ∈ lw_g := lw_g_of (List.mem_of_getElem? (i := 525) (by decide +kernel)) rfl
theorem wim_X4_layNow : Cond.instanceMethod yX4_layNow ∈ lw_g := lw_g_of (List.mem_of_getElem? (i := 527) (by decide +kernel)) rfl
theorem wcd_X4_layNow : Cond.code yX4_layNow cX4_layNow 2 none ∈ lw_g := lw_g_of (List.mem_of_getElem? (i := 528) (by decide +kernel)) rfl
theorem wml_X4_127 : Cond.methodLink RX4 127 yX4_go ∈ lw_g := lw_g_of (List.mem_of_getElem? (i := 529) (by decide +kernel)) rfl
theorem wim_X4_go : Cond.instanceMethod yX4_go ∈ lw_g := lw_g_of (List.mem_of_getElem? (i := 531) (by decide +kernel)) rfl
theorem wcd_X4_go : Cond.code yX4_go cX4_go 7 none ∈ lw_g := lw_g_of (List.mem_of_getElem? (i := 532) (by decide +kernel)) rfl
theorem wml_X4_118 : Cond.methodLink RX4 118 yX4_nextOf ∈ lw_g := lw_g_of (List.mem_of_getElem? (i := 533) (by decide +kernel)) rfl
theorem wim_X4_nextOf : Cond.instanceMethod yX4_nextOf ∈ lw_g := lw_g_of (List.mem_of_getElem? (i := 535) (by decide +kernel)) rfl
theorem wcd_X4_nextOf : Cond.code yX4_nextOf cX4_nextOf 6 (some .int) ∈ lw_g := lw_g_of (List.mem_of_getElem? (i := 536) (by decide +kernel)) rfl
theorem wml_X4_110 : Cond.methodLink RX4 110 yX4_isAhead ∈ lw_g := lw_g_of (List.mem_of_getElem? (i := 537) (by decide +kernel)) rfl
theorem wim_X4_isAhead : Cond.instanceMethod yX4_isAhead ∈ lw_g := lw_g_of (List.mem_of_getElem? (i := 539) (by decide +kernel)) rfl
theorem wcd_X4_isAhead : Cond.code yX4_isAhead cX4_isAhead 6 (some .boolean) ∈ lw_g := lw_g_of (List.mem_of_getElem? (i := 540) (by decide +kernel)) rfl
theorem wml_X4_106 : Cond.methodLink RX4 106 yX4_claimOf ∈ lw_g := lw_g_of (List.mem_of_getElem? (i := 541) (by decide +kernel)) rfl
theorem wim_X4_claimOf : Cond.instanceMethod yX4_claimOf ∈ lw_g := lw_g_of (List.mem_of_getElem? (i := 543) (by decide +kernel)) rfl
theorem wcd_X4_claimOf : Cond.code yX4_claimOf cX4_claimOf 4 (some .int) ∈ lw_g := lw_g_of (List.mem_of_getElem? (i := 544) (by decide +kernel)) rfl
theorem wml_X4_121 : Cond.methodLink RX4 121 yX4_soonest ∈ lw_g := lw_g_of (List.mem_of_getElem? (i := 545) (by decide +kernel)) rfl
theorem wim_X4_soonest : Cond.instanceMethod yX4_soonest ∈ lw_g := lw_g_of (List.mem_of_getElem? (i := 547) (by decide +kernel)) rfl
theorem wcd_X4_soonest : Cond.code yX4_soonest cX4_soonest 4 (some .int) ∈ lw_g := lw_g_of (List.mem_of_getElem? (i := 548) (by decide +kernel)) rfl
theorem wct_X4_114 : Cond.constant RX4 114 (1000000000) ∈ lw_g := lw_g_of (List.mem_of_getElem? (i := 549) (by decide +kernel)) rfl
theorem wml_L_52 : Cond.methodLink RL 52 yX4_waits ∈ lw_g := lw_g_of (List.mem_of_getElem? (i := 550) (by decide +kernel)) rfl
theorem wim_X4_waits : Cond.instanceMethod yX4_waits ∈ lw_g := lw_g_of (List.mem_of_getElem? (i := 551) (by decide +kernel)) rfl
theorem wsl_X4_waits : Cond.selects RX4 yX4_waits yX4_waits ∈ lw_g := lw_g_of (List.mem_of_getElem? (i := 552) (by decide +kernel)) rfl
theorem wcd_X4_waits : Cond.code yX4_waits cX4_waits 3 (some .int) ∈ lw_g := lw_g_of (List.mem_of_getElem? (i := 553) (by decide +kernel)) rfl
theorem wml_L_56 : Cond.methodLink RL 56 yX4_all ∈ lw_g := lw_g_of (List.mem_of_getElem? (i := 554) (by decide +kernel)) rfl
theorem wim_X4_all : Cond.instanceMethod yX4_all ∈ lw_g := lw_g_of (List.mem_of_getElem? (i := 555) (by decide +kernel)) rfl
theorem wsl_X4_all : Cond.selects RX4 yX4_all yX4_all ∈ lw_g := lw_g_of (List.mem_of_getElem? (i := 556) (by decide +kernel)) rfl
theorem wcd_X4_all : Cond.code yX4_all cX4_all 2 (some .int) ∈ lw_g := lw_g_of (List.mem_of_getElem? (i := 557) (by decide +kernel)) rfl
theorem wml_X4_134 : Cond.methodLink RX4 134 yX4_worstOf ∈ lw_g := lw_g_of (List.mem_of_getElem? (i := 558) (by decide +kernel)) rfl
theorem wim_X4_worstOf : Cond.instanceMethod yX4_worstOf ∈ lw_g := lw_g_of (List.mem_of_getElem? (i := 560) (by decide +kernel)) rfl
theorem wcd_X4_worstOf : Cond.code yX4_worstOf cX4_worstOf 4 (some .int) ∈ lw_g := lw_g_of (List.mem_of_getElem? (i := 561) (by decide +kernel)) rfl
theorem wml_X4_137 : Cond.methodLink RX4 137 yX4_whose ∈ lw_g := lw_g_of (List.mem_of_getElem? (i := 562) (by decide +kernel)) rfl
theorem wim_X4_whose : Cond.instanceMethod yX4_whose ∈ lw_g := lw_g_of (List.mem_of_getElem? (i := 564) (by decide +kernel)) rfl
theorem wcd_X4_whose : Cond.code yX4_whose cX4_whose 3 (some .int) ∈ lw_g := lw_g_of (List.mem_of_getElem? (i := 565) (by decide +kernel)) rfl
theorem wml_X4_141 : Cond.methodLink RX4 141 yX4_sumOf ∈ lw_g := lw_g_of (List.mem_of_getElem? (i := 566) (by decide +kernel)) rfl
theorem wim_X4_sumOf : Cond.instanceMethod yX4_sumOf ∈ lw_g := lw_g_of (List.mem_of_getElem? (i := 568) (by decide +kernel)) rfl
theorem wcd_X4_sumOf : Cond.code yX4_sumOf cX4_sumOf 4 (some .int) ∈ lw_g := lw_g_of (List.mem_of_getElem? (i := 569) (by decide +kernel)) rfl
theorem wml_L_60 : Cond.methodLink RL 60 yX4_judge ∈ lw_g := lw_g_of (List.mem_of_getElem? (i := 570) (by decide +kernel)) rfl
theorem wim_X4_judge : Cond.instanceMethod yX4_judge ∈ lw_g := lw_g_of (List.mem_of_getElem? (i := 571) (by decide +kernel)) rfl
theorem wsl_X4_judge : Cond.selects RX4 yX4_judge yX4_judge ∈ lw_g := lw_g_of (List.mem_of_getElem? (i := 572) (by decide +kernel)) rfl
theorem wcd_X4_judge : Cond.code yX4_judge cX4_judge 3 (some .int) ∈ lw_g := lw_g_of (List.mem_of_getElem? (i := 573) (by decide +kernel)) rfl
theorem wml_X4_144 : Cond.methodLink RX4 144 yX4_fault ∈ lw_g := lw_g_of (List.mem_of_getElem? (i := 574) (by decide +kernel)) rfl
theorem wml_L_64 : Cond.methodLink RL 64 yX4_left ∈ lw_g := lw_g_of (List.mem_of_getElem? (i := 575) (by decide +kernel)) rfl
theorem wim_X4_left : Cond.instanceMethod yX4_left ∈ lw_g := lw_g_of (List.mem_of_getElem? (i := 576) (by decide +kernel)) rfl
theorem wsl_X4_left : Cond.selects RX4 yX4_left yX4_left ∈ lw_g := lw_g_of (List.mem_of_getElem? (i := 577) (by decide +kernel)) rfl
theorem wcd_X4_left : Cond.code yX4_left cX4_left 3 (some .int) ∈ lw_g := lw_g_of (List.mem_of_getElem? (i := 578) (by decide +kernel)) rfl
theorem wml_L_69 : Cond.methodLink RL 69 yX4_best ∈ lw_g := lw_g_of (List.mem_of_getElem? (i := 579) (by decide +kernel)) rfl
theorem wim_X4_best : Cond.instanceMethod yX4_best ∈ lw_g := lw_g_of (List.mem_of_getElem? (i := 580) (by decide +kernel)) rfl
theorem wsl_X4_best : Cond.selects RX4 yX4_best yX4_best ∈ lw_g := lw_g_of (List.mem_of_getElem? (i := 581) (by decide +kernel)) rfl
theorem wcd_X4_best : Cond.code yX4_best cX4_best 8 (some .int) ∈ lw_g := lw_g_of (List.mem_of_getElem? (i := 582) (by decide +kernel)) rfl
theorem wml_L_74 : Cond.methodLink RL 74 yX4_walk ∈ lw_g := lw_g_of (List.mem_of_getElem? (i := 583) (by decide +kernel)) rfl
theorem wim_X4_walk : Cond.instanceMethod yX4_walk ∈ lw_g := lw_g_of (List.mem_of_getElem? (i := 584) (by decide +kernel)) rfl
theorem wsl_X4_walk : Cond.selects RX4 yX4_walk yX4_walk ∈ lw_g := lw_g_of (List.mem_of_getElem? (i := 585) (by decide +kernel)) rfl
theorem wcd_X4_walk : Cond.code yX4_walk cX4_walk 7 (some .int) ∈ lw_g := lw_g_of (List.mem_of_getElem? (i := 586) (by decide +kernel)) rfl
theorem wct_X4_147 : Cond.constantLong RX4 147 (60) ∈ lw_g := lw_g_of (List.mem_of_getElem? (i := 587) (by decide +kernel)) rfl
theorem wml_L_78 : Cond.methodLink RL 78 yX4_claim ∈ lw_g := lw_g_of (List.mem_of_getElem? (i := 588) (by decide +kernel)) rfl
theorem wim_X4_claim : Cond.instanceMethod yX4_claim ∈ lw_g := lw_g_of (List.mem_of_getElem? (i := 589) (by decide +kernel)) rfl
theorem wsl_X4_claim : Cond.selects RX4 yX4_claim yX4_claim ∈ lw_g := lw_g_of (List.mem_of_getElem? (i := 590) (by decide +kernel)) rfl
theorem wcd_X4_claim : Cond.code yX4_claim cX4_claim 4 (some .int) ∈ lw_g := lw_g_of (List.mem_of_getElem? (i := 591) (by decide +kernel)) rfl
theorem wct_X4_149 : Cond.constantLong RX4 149 (9999) ∈ lw_g := lw_g_of (List.mem_of_getElem? (i := 592) (by decide +kernel)) rfl
theorem wml_L_82 : Cond.methodLink RL 82 yX4_lied ∈ lw_g := lw_g_of (List.mem_of_getElem? (i := 593) (by decide +kernel)) rfl
theorem wim_X4_lied : Cond.instanceMethod yX4_lied ∈ lw_g := lw_g_of (List.mem_of_getElem? (i := 594) (by decide +kernel)) rfl
theorem wsl_X4_lied : Cond.selects RX4 yX4_lied yX4_lied ∈ lw_g := lw_g_of (List.mem_of_getElem? (i := 595) (by decide +kernel)) rfl
theorem wcd_X4_lied : Cond.code yX4_lied cX4_lied 4 (some .int) ∈ lw_g := lw_g_of (List.mem_of_getElem? (i := 596) (by decide +kernel)) rfl
theorem wml_X4_155 : Cond.methodLink RX4 155 yX4_areAllTold ∈ lw_g := lw_g_of (List.mem_of_getElem? (i := 597) (by decide +kernel)) rfl
theorem wim_X4_areAllTold : Cond.instanceMethod yX4_areAllTold ∈ lw_g := lw_g_of (List.mem_of_getElem? (i := 599) (by decide +kernel)) rfl
theorem wcd_X4_areAllTold : Cond.code yX4_areAllTold cX4_areAllTold 1 (some .boolean) ∈ lw_g := lw_g_of (List.mem_of_getElem? (i := 600) (by decide +kernel)) rfl
theorem wml_X4_158 : Cond.methodLink RX4 158 yX4_isRowBy ∈ lw_g := lw_g_of (List.mem_of_getElem? (i := 601) (by decide +kernel)) rfl
theorem wim_X4_isRowBy : Cond.instanceMethod yX4_isRowBy ∈ lw_g := lw_g_of (List.mem_of_getElem? (i := 603) (by decide +kernel)) rfl
theorem wcd_X4_isRowBy : Cond.code yX4_isRowBy cX4_isRowBy 3 (some .boolean) ∈ lw_g := lw_g_of (List.mem_of_getElem? (i := 604) (by decide +kernel)) rfl
theorem wml_X4_151 : Cond.methodLink RX4 151 yX4_isRow ∈ lw_g := lw_g_of (List.mem_of_getElem? (i := 605) (by decide +kernel)) rfl
theorem wim_X4_isRow : Cond.instanceMethod yX4_isRow ∈ lw_g := lw_g_of (List.mem_of_getElem? (i := 607) (by decide +kernel)) rfl
theorem wcd_X4_isRow : Cond.code yX4_isRow cX4_isRow 3 (some .boolean) ∈ lw_g := lw_g_of (List.mem_of_getElem? (i := 608) (by decide +kernel)) rfl
theorem wml_L_86 : Cond.methodLink RL 86 yX4_could ∈ lw_g := lw_g_of (List.mem_of_getElem? (i := 609) (by decide +kernel)) rfl
theorem wim_X4_could : Cond.instanceMethod yX4_could ∈ lw_g := lw_g_of (List.mem_of_getElem? (i := 610) (by decide +kernel)) rfl
theorem wsl_X4_could : Cond.selects RX4 yX4_could yX4_could ∈ lw_g := lw_g_of (List.mem_of_getElem? (i := 611) (by decide +kernel)) rfl
theorem wcd_X4_could : Cond.code yX4_could cX4_could 6 (some .int) ∈ lw_g := lw_g_of (List.mem_of_getElem? (i := 612) (by decide +kernel)) rfl
theorem wml_L_90 : Cond.methodLink RL 90 yX4_law ∈ lw_g := lw_g_of (List.mem_of_getElem? (i := 613) (by decide +kernel)) rfl
theorem wim_X4_law : Cond.instanceMethod yX4_law ∈ lw_g := lw_g_of (List.mem_of_getElem? (i := 614) (by decide +kernel)) rfl
theorem wsl_X4_law : Cond.selects RX4 yX4_law yX4_law ∈ lw_g := lw_g_of (List.mem_of_getElem? (i := 615) (by decide +kernel)) rfl
theorem wcd_X4_law : Cond.code yX4_law cX4_law 8 (some .int) ∈ lw_g := lw_g_of (List.mem_of_getElem? (i := 616) (by decide +kernel)) rfl
theorem wct_X4_162 : Cond.constantLong RX4 162 (2) ∈ lw_g := lw_g_of (List.mem_of_getElem? (i := 617) (by decide +kernel)) rfl
theorem wml_L_94 : Cond.methodLink RL 94 yX4_home ∈ lw_g := lw_g_of (List.mem_of_getElem? (i := 618) (by decide +kernel)) rfl
theorem wim_X4_home : Cond.instanceMethod yX4_home ∈ lw_g := lw_g_of (List.mem_of_getElem? (i := 619) (by decide +kernel)) rfl
theorem wsl_X4_home : Cond.selects RX4 yX4_home yX4_home ∈ lw_g := lw_g_of (List.mem_of_getElem? (i := 620) (by decide +kernel)) rfl
theorem wcd_X4_home : Cond.code yX4_home cX4_home 8 (some .int) ∈ lw_g := lw_g_of (List.mem_of_getElem? (i := 621) (by decide +kernel)) rfl
theorem wml_L_98 : Cond.methodLink RL 98 yX4_two ∈ lw_g := lw_g_of (List.mem_of_getElem? (i := 622) (by decide +kernel)) rfl
theorem wim_X4_two : Cond.instanceMethod yX4_two ∈ lw_g := lw_g_of (List.mem_of_getElem? (i := 623) (by decide +kernel)) rfl
theorem wsl_X4_two : Cond.selects RX4 yX4_two yX4_two ∈ lw_g := lw_g_of (List.mem_of_getElem? (i := 624) (by decide +kernel)) rfl
theorem wcd_X4_two : Cond.code yX4_two cX4_two 8 (some .int) ∈ lw_g := lw_g_of (List.mem_of_getElem? (i := 625) (by decide +kernel)) rfl
theorem wml_L_102 : Cond.methodLink RL 102 yX4_stay ∈ lw_g := lw_g_of (List.mem_of_getElem? (i := 626) (by decide +kernel)) rfl
theorem wim_X4_stay : Cond.instanceMethod yX4_stay ∈ lw_g := lw_g_of (List.mem_of_getElem? (i := 627) (by decide +kernel)) rfl
theorem wsl_X4_stay : Cond.selects RX4 yX4_stay yX4_stay ∈ lw_g := lw_g_of (List.mem_of_getElem? (i := 628) (by decide +kernel)) rfl
theorem wcd_X4_stay : Cond.code yX4_stay cX4_stay 4 (some .int) ∈ lw_g := lw_g_of (List.mem_of_getElem? (i := 629) (by decide +kernel)) rfl
theorem wml_L_106 : Cond.methodLink RL 106 yX4_day ∈ lw_g := lw_g_of (List.mem_of_getElem? (i := 630) (by decide +kernel)) rfl
theorem wim_X4_day : Cond.instanceMethod yX4_day ∈ lw_g := lw_g_of (List.mem_of_getElem? (i := 631) (by decide +kernel)) rfl
theorem wsl_X4_day : Cond.selects RX4 yX4_day yX4_day ∈ lw_g := lw_g_of (List.mem_of_getElem? (i := 632) (by decide +kernel)) rfl
theorem wcd_X4_day : Cond.code yX4_day cX4_day 5 (some .int) ∈ lw_g := lw_g_of (List.mem_of_getElem? (i := 633) (by decide +kernel)) rfl
theorem wct_X4_164 : Cond.constantLong RX4 164 (75) ∈ lw_g := lw_g_of (List.mem_of_getElem? (i := 634) (by decide +kernel)) rfl
theorem wct_X4_166 : Cond.constantLong RX4 166 (74) ∈ lw_g := lw_g_of (List.mem_of_getElem? (i := 635) (by decide +kernel)) rfl
theorem wct_X4_168 : Cond.constantLong RX4 168 (65537) ∈ lw_g := lw_g_of (List.mem_of_getElem? (i := 636) (by decide +kernel)) rfl
theorem wml_L_110 : Cond.methodLink RL 110 yX4_image ∈ lw_g := lw_g_of (List.mem_of_getElem? (i := 637) (by decide +kernel)) rfl
theorem wim_X4_image : Cond.instanceMethod yX4_image ∈ lw_g := lw_g_of (List.mem_of_getElem? (i := 638) (by decide +kernel)) rfl
theorem wsl_X4_image : Cond.selects RX4 yX4_image yX4_image ∈ lw_g := lw_g_of (List.mem_of_getElem? (i := 639) (by decide +kernel)) rfl
theorem wcd_X4_image : Cond.code yX4_image cX4_image 2 (some .int) ∈ lw_g := lw_g_of (List.mem_of_getElem? (i := 640) (by decide +kernel)) rfl
theorem wml_X4_180 : Cond.methodLink RX4 180 yX4_passAll ∈ lw_g := lw_g_of (List.mem_of_getElem? (i := 641) (by decide +kernel)) rfl
theorem wim_X4_passAll : Cond.instanceMethod yX4_passAll ∈ lw_g := lw_g_of (List.mem_of_getElem? (i := 643) (by decide +kernel)) rfl
theorem wcd_X4_passAll : Cond.code yX4_passAll cX4_passAll 2 none ∈ lw_g := lw_g_of (List.mem_of_getElem? (i := 644) (by decide +kernel)) rfl
theorem wml_X4_177 : Cond.methodLink RX4 177 yX4_pass ∈ lw_g := lw_g_of (List.mem_of_getElem? (i := 645) (by decide +kernel)) rfl
theorem wim_X4_pass : Cond.instanceMethod yX4_pass ∈ lw_g := lw_g_of (List.mem_of_getElem? (i := 647) (by decide +kernel)) rfl
theorem wcd_X4_pass : Cond.code yX4_pass cX4_pass 3 (some .int) ∈ lw_g := lw_g_of (List.mem_of_getElem? (i := 648) (by decide +kernel)) rfl
theorem wml_L_114 : Cond.methodLink RL 114 yX4_restore ∈ lw_g := lw_g_of (List.mem_of_getElem? (i := 649) (by decide +kernel)) rfl
theorem wim_X4_restore : Cond.instanceMethod yX4_restore ∈ lw_g := lw_g_of (List.mem_of_getElem? (i := 650) (by decide +kernel)) rfl
theorem wsl_X4_restore : Cond.selects RX4 yX4_restore yX4_restore ∈ lw_g := lw_g_of (List.mem_of_getElem? (i := 651) (by decide +kernel)) rfl
theorem wcd_X4_restore : Cond.code yX4_restore cX4_restore 2 (some .int) ∈ lw_g := lw_g_of (List.mem_of_getElem? (i := 652) (by decide +kernel)) rfl
theorem wml_L_118 : Cond.methodLink RL 118 yX4_told ∈ lw_g := lw_g_of (List.mem_of_getElem? (i := 653) (by decide +kernel)) rfl
theorem wim_X4_told : Cond.instanceMethod yX4_told ∈ lw_g := lw_g_of (List.mem_of_getElem? (i := 654) (by decide +kernel)) rfl
theorem wsl_X4_told : Cond.selects RX4 yX4_told yX4_told ∈ lw_g := lw_g_of (List.mem_of_getElem? (i := 655) (by decide +kernel)) rfl
theorem wcd_X4_told : Cond.code yX4_told cX4_told 2 (some .int) ∈ lw_g := lw_g_of (List.mem_of_getElem? (i := 656) (by decide +kernel)) rfl
theorem inX0 : ∀ w ∈ u_ws RX0 TX0 2, w ∈ lw_g := by
  have e : u_ws RX0 TX0 2 = [Cond.lays "FarthestFirst$Pad" "FarthestFirst$Pad" "count" "I", Cond.laysFinal "FarthestFirst$Pad" "FarthestFirst$Pad" "signs" "[I"] := by decide +kernel
  rw [e]
  exact List.forall_mem_cons.mpr ⟨wly_X0_count, List.forall_mem_cons.mpr ⟨wly_X0_signs, fun _ h => absurd h List.not_mem_nil⟩⟩
theorem inX1 : ∀ w ∈ u_ws RX1 TX1 6, w ∈ lw_g := by
  have e : u_ws RX1 TX1 6 = [Cond.laysFinal "FarthestFirst$Village" "FarthestFirst$Village" "miles" "[I", Cond.laysFinal "FarthestFirst$Village" "FarthestFirst$Village" "minute" "[I", Cond.laysFinal "FarthestFirst$Village" "FarthestFirst$Village" "pails" "[I", Cond.laysFinal "FarthestFirst$Village" "FarthestFirst$Village" "cart" "[Z", Cond.lays "FarthestFirst$Village" "FarthestFirst$Village" "comers" "I", Cond.laysFinal "FarthestFirst$Village" "FarthestFirst$Village" "settings" "[I"] := by decide +kernel
  rw [e]
  exact List.forall_mem_cons.mpr ⟨wly_X1_miles, List.forall_mem_cons.mpr ⟨wly_X1_minute, List.forall_mem_cons.mpr ⟨wly_X1_pails, List.forall_mem_cons.mpr ⟨wly_X1_cart, List.forall_mem_cons.mpr ⟨wly_X1_comers, List.forall_mem_cons.mpr ⟨wly_X1_settings, fun _ h => absurd h List.not_mem_nil⟩⟩⟩⟩⟩⟩
theorem inX2 : ∀ w ∈ u_ws RX2 TX2 10, w ∈ lw_g := by
  have e : u_ws RX2 TX2 10 = [Cond.laysFinal "FarthestFirst$Well" "FarthestFirst$Well" "order" "[I", Cond.laysFinal "FarthestFirst$Well" "FarthestFirst$Well" "begin" "[I", Cond.laysFinal "FarthestFirst$Well" "FarthestFirst$Well" "end" "[I", Cond.laysFinal "FarthestFirst$Well" "FarthestFirst$Well" "wait" "[I", Cond.lays "FarthestFirst$Well" "FarthestFirst$Well" "turns" "I", Cond.lays "FarthestFirst$Well" "FarthestFirst$Well" "worst" "I", Cond.lays "FarthestFirst$Well" "FarthestFirst$Well" "sum" "I", Cond.lays "FarthestFirst$Well" "FarthestFirst$Well" "time" "I", Cond.lays "FarthestFirst$Well" "FarthestFirst$Well" "comers" "I", Cond.lays "FarthestFirst$Well" "FarthestFirst$Well" "rest" "I"] := by decide +kernel
  rw [e]
  exact List.forall_mem_cons.mpr ⟨wly_X2_order, List.forall_mem_cons.mpr ⟨wly_X2_begin, List.forall_mem_cons.mpr ⟨wly_X2_end, List.forall_mem_cons.mpr ⟨wly_X2_wait, List.forall_mem_cons.mpr ⟨wly_X2_turns, List.forall_mem_cons.mpr ⟨wly_X2_worst, List.forall_mem_cons.mpr ⟨wly_X2_sum, List.forall_mem_cons.mpr ⟨wly_X2_time, List.forall_mem_cons.mpr ⟨wly_X2_comers, List.forall_mem_cons.mpr ⟨wly_X2_rest, fun _ h => absurd h List.not_mem_nil⟩⟩⟩⟩⟩⟩⟩⟩⟩⟩
theorem inX3 : ∀ w ∈ u_ws RX3 TX3 6, w ∈ lw_g := by
  have e : u_ws RX3 TX3 6 = [Cond.laysFinal "FarthestFirst" "FarthestFirst" "now" "LFarthestFirst$Village;", Cond.laysFinal "FarthestFirst" "FarthestFirst" "trial" "LFarthestFirst$Village;", Cond.laysFinal "FarthestFirst" "FarthestFirst" "images" "[LFarthestFirst$Village;", Cond.laysFinal "FarthestFirst" "FarthestFirst" "kept" "[Z", Cond.laysFinal "FarthestFirst" "FarthestFirst" "well" "LFarthestFirst$Well;", Cond.laysFinal "FarthestFirst" "FarthestFirst" "pad" "LFarthestFirst$Pad;"] := by decide +kernel
  rw [e]
  exact List.forall_mem_cons.mpr ⟨wly_X3_now, List.forall_mem_cons.mpr ⟨wly_X3_trial, List.forall_mem_cons.mpr ⟨wly_X3_images, List.forall_mem_cons.mpr ⟨wly_X3_kept, List.forall_mem_cons.mpr ⟨wly_X3_well, List.forall_mem_cons.mpr ⟨wly_X3_pad, fun _ h => absurd h List.not_mem_nil⟩⟩⟩⟩⟩⟩
theorem inX4 : ∀ w ∈ u_ws RX4 TX4 24, w ∈ lw_g := by
  have e : u_ws RX4 TX4 24 = [Cond.lays "FarthestFirstModel" "FarthestFirstModel" "coming" "I", Cond.laysFinal "FarthestFirstModel" "FarthestFirstModel" "miles" "[I", Cond.laysFinal "FarthestFirstModel" "FarthestFirstModel" "minute" "[I", Cond.laysFinal "FarthestFirstModel" "FarthestFirstModel" "pails" "[I", Cond.laysFinal "FarthestFirstModel" "FarthestFirstModel" "cart" "[I", Cond.lays "FarthestFirstModel" "FarthestFirstModel" "draw" "I", Cond.lays "FarthestFirstModel" "FarthestFirstModel" "far" "I", Cond.lays "FarthestFirstModel" "FarthestFirstModel" "stood" "I", Cond.lays "FarthestFirstModel" "FarthestFirstModel" "halved" "I", Cond.laysFinal "FarthestFirstModel" "FarthestFirstModel" "pad" "[I", Cond.lays "FarthestFirstModel" "FarthestFirstModel" "padMany" "I", Cond.laysFinal "FarthestFirstModel" "FarthestFirstModel" "from" "[I", Cond.laysFinal "FarthestFirstModel" "FarthestFirstModel" "at" "[I", Cond.laysFinal "FarthestFirstModel" "FarthestFirstModel" "waited" "[I", Cond.laysFinal "FarthestFirstModel" "FarthestFirstModel" "ended" "[I", Cond.laysFinal "FarthestFirstModel" "FarthestFirstModel" "took" "[I", Cond.laysFinal "FarthestFirstModel" "FarthestFirstModel" "order" "[I", Cond.lays "FarthestFirstModel" "FarthestFirstModel" "many" "I", Cond.lays "FarthestFirstModel" "FarthestFirstModel" "byFar" "I", Cond.lays "FarthestFirstModel" "FarthestFirstModel" "byStood" "I", Cond.laysFinal "FarthestFirstModel" "FarthestFirstModel" "kept" "[I", Cond.laysFinal "FarthestFirstModel" "FarthestFirstModel" "isKept" "[Z", Cond.lays "FarthestFirstModel" "FarthestFirstModel" "keptAt" "I", Cond.lays "FarthestFirstModel" "FarthestFirstModel" "isWriting" "Z"] := by decide +kernel
  rw [e]
  exact List.forall_mem_cons.mpr ⟨wly_X4_coming, List.forall_mem_cons.mpr ⟨wly_X4_miles, List.forall_mem_cons.mpr ⟨wly_X4_minute, List.forall_mem_cons.mpr ⟨wly_X4_pails, List.forall_mem_cons.mpr ⟨wly_X4_cart, List.forall_mem_cons.mpr ⟨wly_X4_draw, List.forall_mem_cons.mpr ⟨wly_X4_far, List.forall_mem_cons.mpr ⟨wly_X4_stood, List.forall_mem_cons.mpr ⟨wly_X4_halved, List.forall_mem_cons.mpr ⟨wly_X4_pad, List.forall_mem_cons.mpr ⟨wly_X4_padMany, List.forall_mem_cons.mpr ⟨wly_X4_from, List.forall_mem_cons.mpr ⟨wly_X4_at, List.forall_mem_cons.mpr ⟨wly_X4_waited, List.forall_mem_cons.mpr ⟨wly_X4_ended, List.forall_mem_cons.mpr ⟨wly_X4_took, List.forall_mem_cons.mpr ⟨wly_X4_order, List.forall_mem_cons.mpr ⟨wly_X4_many, List.forall_mem_cons.mpr ⟨wly_X4_byFar, List.forall_mem_cons.mpr ⟨wly_X4_byStood, List.forall_mem_cons.mpr ⟨wly_X4_kept, List.forall_mem_cons.mpr ⟨wly_X4_isKept, List.forall_mem_cons.mpr ⟨wly_X4_keptAt, List.forall_mem_cons.mpr ⟨wly_X4_isWriting, fun _ h => absurd h List.not_mem_nil⟩⟩⟩⟩⟩⟩⟩⟩⟩⟩⟩⟩⟩⟩⟩⟩⟩⟩⟩⟩⟩⟩⟩⟩
end
section
/-! the form of a contract: a method that makes no cell; its world before, its answer and its world behind it, both as functions -/
abbrev ctW (y : MethodName) (cc : ByteArray) (n : Nat) (ret : Option FieldType) : List Cond := Cond.code y cc n ret :: lw_g
theorem ctW_good {y : MethodName} {cc : ByteArray} {n : Nat} {ret : Option FieldType} (h : Cond.code y cc n ret ∈ lw_g) : GoodIn lw_g (ctW y cc n ret) := by
  intro w hw
  rcases List.mem_cons.mp hw with e | hw
  · rw [e]
    exact ⟨h, good_of_word (List.mem_filter.mp h).2⟩
  · exact ⟨hw, good_of_word (List.mem_filter.mp hw).2⟩
def ctT (cy : Nat → ClassId) : List (ClassId × FieldType) := [(cy 0, .int), (cy 1, .boolean), (cy 2, .object "FarthestFirst$Village")]
def ctA (w : va_W) : Nat → Prop := fun q => ∃ (k : Nat) (e : va_E), w[k]? = some (q, e)
def ctQ (D : va_G) (v1 : Option Value) (w1 : va_W) (A : Nat → Prop) : Array Value → State → Outcome → State → Prop := fun _ st oc t => oc = .returned v1 ∧ va_P D classes w1 t.heap ∧ va_F A st t
def ctB (D : va_G) (cy : Nat → ClassId) (w : va_W) (U : State) : Prop := va_P D classes w U.heap ∧ va_K D classes (ctT cy) U ∧ va_D (fun _ => True) w
def CT (l : Launch) (D : va_G) (cy : Nat → ClassId) (y : MethodName) (cc : ByteArray) (nL : Nat) (ret : Option FieldType) (rm : Room) (av : List Value) (w : va_W) (v1 : Option Value) (w1 : va_W) : Prop :=
  Met l y (ctW y cc nL ret) rm (va_Pc av (ctB D cy w)) (ctQ D v1 w1 (ctA w)) 0 0 (ctA w)
/-- what a method's body stands on -/
def MC (p : Program) (s : State) (m : MethodId) (args : Array Value) (meth : Method) (c : Code) (own : String) (cc : ByteArray) (nL : Nat) (ret : Option FieldType) : Prop :=
  p.tables.exec = Jvm.exec ∧ c.code = cc ∧ meth.sig.returnType = ret ∧ c.maxLocals = nL ∧ s.vm.findClass own = some m.cls ∧ (∀ w ∈ lw_g, w.before args s = true) ∧ meth.locks = false
theorem ctA_D {w : va_W} {A : Nat → Prop} (h : va_D A w) : va_D (ctA w) w := ⟨h.1, fun k q hk => ⟨k, q.2, hk⟩⟩
theorem ct_of {l : Launch} {D : va_G} {cy : Nat → ClassId} {y : MethodName} {cc : ByteArray} {nL : Nat} {ret : Option FieldType} {rm : Room} {av : List Value} {w : va_W} {v1 : Option Value} {w1 : va_W} (hy : plainName y.cls = true) (hn : (lg_sl av).length ≤ nL)
    (body : ∀ (p : Program) (e : Env) (s : State) (m : MethodId) (args : Array Value) (below : List Frame) (meth : Method) (c : Code) (A : Nat → Prop) (ls : Array Slot), MC p s m args meth c y.cls cc nL ret → va_K D classes (ctT cy) s → va_P D classes w s.heap → va_D A w → va_S A s.heap s.heap [] → lv_has ls nL (lv_args 0 av) →
      W p l e rm s m args below meth c s.heap [] 0 0 (MQ below (ctQ D v1 w1 A) args s 0 0 A) (F0 m 0 ls [])) : CT l D cy y cc nL ret rm av w v1 w1 := by
  refine Met.ofW (cc := cc) (maxL := nL) (ret := ret) hy rfl ?_
  intro p e s m args below meth c s₁ B hml hv
  obtain ⟨rfl, hP, hK, hD⟩ := hv
  have hts := atoms_spec (ws := ctW y cc nL ret) B.pre
  have hl := lv_entry av (n := nL) hn
  rw [lg_entry_eq]
  generalize (lg_sl av ++ List.replicate (nL - (lg_sl av).length) Slot.unset).toArray = ls at hl ⊢
  exact body p e s m _ below meth c (ctA w) ls ⟨B.exec, B.bytes, B.returns, hml, findClass_of_methodNamed B.named, fun w hw => hts w (List.mem_cons_of_mem _ hw), B.notSynchronized⟩ hK hP (ctA_D hD) va_S.rf hl
/-- named values in the functions -/
def lt_ {α β : Type} (e : α) (k : α → β) : β := k e
def lo_ {α : Type} (e : α) (k : α → Prop) : Prop := k e
theorem lt_n {α β : Type} {e t : α} {k : α → β} {r : β} (h : e = t) (hF : lt_ e k = r) : k t = r := by rw [← h]; exact hF
theorem lo_n {α : Type} {e t : α} {k : α → Prop} (h : e = t) (hF : lo_ e k) : k t := by rw [← h]; exact hF
theorem lt_t {α : Type} {c : Prop} [Decidable c] {x y r : α} (h : c) (e : (if c then x else y) = r) : x = r := by rw [if_pos h] at e; exact e
theorem lt_f {α : Type} {c : Prop} [Decidable c] {x y r : α} (h : ¬ c) (e : (if c then x else y) = r) : y = r := by rw [if_neg h] at e; exact e
theorem lo_t {c : Prop} [Decidable c] {x y : Prop} (h : c) (e : if c then x else y) : x := by rw [if_pos h] at e; exact e
theorem lo_f {c : Prop} [Decidable c] {x y : Prop} (h : ¬ c) (e : if c then x else y) : y := by rw [if_neg h] at e; exact e
/-- worlds with cells put at places -/
def ct_puts : List Nat → va_W → va_W → va_W
  | [], _, ws => ws
  | i :: is, w, ws => match w with
    | [] => ws
    | q :: w => ct_puts is w (ws.set i q)
def ct_put (ws : va_W) (is : List Nat) (w : va_W) : va_W := ct_puts is w ws
theorem ct_put_test (q : Nat × va_E) (x y z : Nat × va_E) : ct_put [x, y, z] [2, 0] [q, z] = [z, y, q] := rfl
theorem ct_put_at : ∀ (is : List Nat) (w ws : va_W) (k : Nat) (q : Nat × va_E), (ct_put ws is w)[k]? = some q → (∃ j : Nat, is[j]? = some k ∧ w[j]? = some q) ∨ (ws[k]? = some q ∧ ∀ j : Nat, is[j]? = some k → w.length ≤ j)
  | [], w, ws, k, q, h => Or.inr ⟨h, fun j hj => by simp at hj⟩
  | i :: is, [], ws, k, q, h => Or.inr ⟨h, fun j _ => Nat.zero_le j⟩
  | i :: is, q0 :: w, ws, k, q, h => by
    rcases ct_put_at is w (ws.set i q0) k q h with ⟨j, h1, h2⟩ | ⟨h1, h2⟩
    · exact Or.inl ⟨j + 1, by simpa using h1, by simpa using h2⟩
    · by_cases hik : i = k
      · subst hik
        rw [List.getElem?_set] at h1
        simp only [if_true] at h1
        split at h1
        · exact Or.inl ⟨0, rfl, h1⟩
        · cases h1
      · rw [List.getElem?_set_ne hik] at h1
        refine Or.inr ⟨h1, fun j hj => ?_⟩
        cases j with
        | zero => exact absurd (Option.some.inj hj) hik
        | succ j => exact Nat.succ_le_succ (h2 j (by simpa using hj))
theorem va_D_fst {A : Nat → Prop} {w w' : va_W} (h : w'.map Prod.fst = w.map Prod.fst) (hD : va_D A w) : va_D A w' := by
  have key : ∀ (k : Nat) (q : Nat × va_E), w'[k]? = some q → ∃ q0, w[k]? = some q0 ∧ q0.1 = q.1 := by
    intro k q hk
    have h1 : (w'.map Prod.fst)[k]? = some q.1 := by rw [List.getElem?_map, hk]; rfl
    rw [h, List.getElem?_map] at h1
    cases hq : w[k]? with
    | none => rw [hq] at h1; cases h1
    | some q0 => rw [hq] at h1; exact ⟨q0, rfl, Option.some.inj h1⟩
  refine ⟨fun i j x y hi hj hxy => ?_, fun k q hk => ?_⟩
  · obtain ⟨x0, h1, h2⟩ := key i x hi
    obtain ⟨y0, h3, h4⟩ := key j y hj
    exact hD.1 i j x0 y0 h1 h3 (h2.trans (hxy.trans h4.symm))
  · obtain ⟨q0, h1, h2⟩ := key k q hk
    rw [← h2]
    exact hD.2 k q0 h1
section CtRows
variable {p : Program} {l : Launch} {e : Env} {R : Room} {s : State} {m : MethodId} {args : Array Value} {below : List Frame} {meth : Method} {c : Code} {H : Heap} {locs : List Loc} {cells slots : Nat} {Q : State → Prop}
variable {cc : ByteArray} {pc : Nat} {ls : Array Slot} {rest st0 : List Value} {A : Nat → Prop} {H0 : Heap} {D : va_G} {cy : Nat → ClassId} {own : String} {nL : Nat} {ret : Option FieldType}
theorem ct_iret {w1 : va_W} {r : Int32} (hM : MC p s m args meth c own cc nL (some .int)) (hP : va_P D classes w1 H) (hS : va_S A s.heap H locs) (hdg : decode cc pc = .ok (.ireturn, 1)) :
    W p l e R s m args below meth c H locs cells slots (MQ below (ctQ D (some (.int r)) w1 A) args s cells slots A) (F0 m pc ls [.int r]) := by
  obtain ⟨hx, hb, hr, -, -, -, hlk⟩ := hM
  exact W.iret hx hb hr (fun t ht _ => ⟨rfl, by rw [ht]; exact hP, hS.F ht⟩) hS.2.2 hdg hlk
theorem ct_zret {w1 : va_W} {r : Int32} (hM : MC p s m args meth c own cc nL (some .boolean)) (hP : va_P D classes w1 H) (hS : va_S A s.heap H locs) (hn : narrow .boolean (.int r) = .int r) (hdg : decode cc pc = .ok (.ireturn, 1)) :
    W p l e R s m args below meth c H locs cells slots (MQ below (ctQ D (some (.int r)) w1 A) args s cells slots A) (F0 m pc ls [.int r]) := by
  obtain ⟨hx, hb, hr, -, -, -, hlk⟩ := hM
  exact W.zret hx hb hr hn (fun t ht _ => ⟨rfl, by rw [ht]; exact hP, hS.F ht⟩) hS.2.2 hdg hlk
theorem ct_vret {w1 : va_W} (hM : MC p s m args meth c own cc nL none) (hP : va_P D classes w1 H) (hS : va_S A s.heap H locs) (hdg : decode cc pc = .ok (.return_, 1)) :
    W p l e R s m args below meth c H locs cells slots (MQ below (ctQ D none w1 A) args s cells slots A) (F0 m pc ls []) := by
  obtain ⟨hx, hb, hr, -, -, -, hlk⟩ := hM
  exact W.vret hx hb hr (fun t ht _ => ⟨rfl, by rw [ht]; exact hP, hS.F ht⟩) hS.2.2 hdg hlk
theorem ct_blind {av : List Value} {w : va_W} : FrameBlind (va_Pc av (ctB D cy w)) := fun a U g mk q => by
  obtain ⟨q0, qP, qK, qD⟩ := q
  exact ⟨q0, qP, va_K.moved (u := U) (U := U.calling g mk a) (Vm.Alike.refl U.vm) qK, qD⟩
/-- behind a call, the callee's cells at their places -/
theorem ct_go {ws wc w1 ws' : va_W} {v1 : Option Value} {a : Array Value} (hr : va_Run p l e R s m args below meth c H locs cells slots 0 0 (F0 m pc ls st0) rest (ctQ D v1 w1 (ctA wc) a) (ctA wc)) (hP : va_P D classes ws H) (hD : va_D A ws) (hS : va_S A H0 H locs)
    (isC : List Nat) (hC : isC.map (fun i => ws[i]?) = wc.map some) (hlen : w1.length = isC.length) (hs : ct_put ws isC w1 = ws') (hf : ws'.map Prod.fst = ws.map Prod.fst)
    (kk : ∀ (H1 : Heap) (locs1 : List Loc), va_P D classes ws' H1 → va_D A ws' → va_S A H0 H1 locs1 → W p l e R s m args below meth c H1 locs1 cells slots Q (F0 m (pc + 3) ls (v1.toList ++ rest))) : W p l e R s m args below meth c H locs cells slots Q (F0 m pc ls st0) := by
  have at' : ∀ (k : Nat) (q : Nat × va_E), wc[k]? = some q → ∃ i, isC[k]? = some i ∧ ws[i]? = some q := by
    intro k q hq
    have h1 : (isC.map (fun i => ws[i]?))[k]? = some (some q) := by rw [hC, List.getElem?_map, hq]; rfl
    rw [List.getElem?_map] at h1
    cases hi : isC[k]? with
    | none => rw [hi] at h1; cases h1
    | some i => rw [hi] at h1; exact ⟨i, rfl, Option.some.inj h1⟩
  have hAc : ∀ q, ctA wc q → A q := by
    rintro q ⟨k, e, h⟩
    obtain ⟨i, -, h2⟩ := at' k (q, e) h
    exact hD.2 i (q, e) h2
  intro T hT X
  obtain ⟨v, st₀, t, T', L, h0, X', hL, e1, e2, ⟨hv, hp1, hz, hk⟩, st⟩ := hr T hT X
  cases hv
  rw [h0] at hz hk
  have hP' : va_P D classes ws' T'.heap := by
    intro k q hq
    rw [← hs] at hq
    rcases ct_put_at isC w1 ws k q hq with ⟨j, h1, h2⟩ | ⟨h1, h2⟩
    · rw [e1]
      exact hp1 j q h2
    · have hkC : k ∉ isC := by
        intro hm
        obtain ⟨j, hj⟩ := List.getElem?_of_mem hm
        have h3 := h2 j hj
        have h4 := (List.getElem?_eq_some_iff.mp hj).1
        omega
      refine (hP k q h1).kept ?_
      rw [e1]
      refine hk q.1 (hP k q h1).lt ?_
      rintro ⟨k2, e3, h3⟩
      obtain ⟨i, h4, h5⟩ := at' k2 (q.1, e3) h3
      have hki := hD.1 k i q (q.1, e3) h1 h5 rfl
      subst hki
      exact hkC (List.mem_of_getElem? h4)
  obtain ⟨t2, a1, b1⟩ := kk T'.heap (locs ++ L) hP' (va_D_fst hf hD)
    ⟨Nat.le_trans hS.1 (by rw [e1]; exact hz), fun q h1 h2 => by rw [e1, hk q (Nat.lt_of_lt_of_le h1 hS.1) (fun z => h2 (hAc q z))]; exact hS.2.1 q h1 h2, fun q hq => by
      rcases List.mem_append.mp hq with h | h
      · exact hS.2.2 q h
      · exact hAc _ (hL q h)⟩ T' rfl X'
  exact ⟨t2, st t2 a1, b1⟩
/-- behind a call whose world is the caller's -/
theorem ct_goF {ws w1 : va_W} {v1 : Option Value} {a : Array Value} (hr : va_Run p l e R s m args below meth c H locs cells slots 0 0 (F0 m pc ls st0) rest (ctQ D v1 w1 (ctA ws) a) (ctA ws)) (hD : va_D A ws) (hS : va_S A H0 H locs) (hf : w1.map Prod.fst = ws.map Prod.fst)
    (kk : ∀ (H1 : Heap) (locs1 : List Loc), va_P D classes w1 H1 → va_D A w1 → va_S A H0 H1 locs1 → W p l e R s m args below meth c H1 locs1 cells slots Q (F0 m (pc + 3) ls (v1.toList ++ rest))) : W p l e R s m args below meth c H locs cells slots Q (F0 m pc ls st0) := by
  have hAc : ∀ q, ctA ws q → A q := by
    rintro q ⟨k, e, h⟩
    exact hD.2 k (q, e) h
  intro T hT X
  obtain ⟨v, st₀, t, T', L, h0, X', hL, e1, e2, ⟨hv, hp1, hz, hk⟩, st⟩ := hr T hT X
  cases hv
  rw [h0] at hz hk
  obtain ⟨t2, a1, b1⟩ := kk T'.heap (locs ++ L) (by rw [e1]; exact hp1) (va_D_fst hf hD)
    ⟨Nat.le_trans hS.1 (by rw [e1]; exact hz), fun q h1 h2 => by rw [e1, hk q (Nat.lt_of_lt_of_le h1 hS.1) (fun z => h2 (hAc q z))]; exact hS.2.1 q h1 h2, fun q hq => by
      rcases List.mem_append.mp hq with h | h
      · exact hS.2.2 q h
      · exact hAc _ (hL q h)⟩ T' rfl X'
  exact ⟨t2, st t2 a1, b1⟩
/-- what the tables say of a callee -/
def KV (y : MethodName) (bytes : ByteArray) (maxL : Nat) (ret : Option FieldType) (n : Nat) : Prop :=
  Cond.code y bytes maxL ret ∈ lw_g ∧ Cond.instanceMethod y ∈ lw_g ∧ Cond.selects y.cls y y ∈ lw_g ∧ Cond.initialized y.cls ∈ lw_g ∧ y.cls ≠ "java/lang/invoke/MethodHandle" ∧ y.cls ≠ "java/lang/invoke/VarHandle" ∧ (parseMethodDescriptor y.desc).map (fun d => d.parameters.length) = some n
def KS (y : MethodName) (bytes : ByteArray) (maxL : Nat) (ret : Option FieldType) (n : Nat) : Prop :=
  Cond.code y bytes maxL ret ∈ lw_g ∧ Cond.static y ∈ lw_g ∧ Cond.initialized y.cls ∈ lw_g ∧ y.cls ≠ "java/lang/invoke/MethodHandle" ∧ y.cls ≠ "java/lang/invoke/VarHandle" ∧ (parseMethodDescriptor y.desc).map (fun d => d.parameters.length) = some n
variable {y : MethodName} {bytes : ByteArray} {maxL n index : Nat} {retY : Option FieldType} {rm : Room} {b : Addr} {As : List Value} {v1 : Option Value}
theorem ct_runV {ws wc w1 : va_W} (hM : MC p s m args meth c own cc nL ret) (hK : va_K D classes (ctT cy) s) (hP : va_P D classes ws H) (hc : CT l D cy y bytes maxL retY rm (.ref b :: As) wc v1 w1) (k : KV y bytes maxL retY n) (hlink : Cond.methodLink own index y ∈ lw_g) (hPc : va_P D classes wc H) (hDc : va_D (fun _ => True) wc)
    (q0 : Nat) {ci : Nat} {q : vw_C} {fs : List Value} (he : ws[q0]? = some (b, .inr (ci, fs))) (hq : classes[ci]? = some q) (hcls : q.1 = y.cls) (hn : As.length = n) (hsz : ls.size = nL) (hst : st0 = As.reverse ++ .ref b :: rest) (hrm : rm.cells = 0 ∧ rm.slots = 0 ∧ rm.frames + 1 ≤ R.frames ∧ 8 + (maxL + 11) + rm.locals ≤ R.locals)
    (hW : (rest.map fun v => v.category).sum ≤ 8) (hf : cells ≤ R.cells ∧ slots ≤ R.slots) (hdg : decode cc pc = .ok (.invokevirtual index, 3)) :
    va_Run p l e R s m args below meth c H locs cells slots 0 0 (F0 m pc ls st0) rest (ctQ D v1 w1 (ctA wc) (Value.ref b :: As).toArray) (ctA wc) := by
  obtain ⟨hx, hb, -, hml, hown, hts, -⟩ := hM
  obtain ⟨k1, k2, k3, k4, k5, k6, k7⟩ := k
  obtain ⟨r1, r2, r3, r4⟩ := hrm
  refine va_runV (C := y.cls) (As := As) (rest := rest) (Ts := lw_g) (n := n) ⟨hx, hb, hml, hown, hts⟩ hc ⟨callB_of n hts (ctW_good k1) rfl r1 r2 (hts _ k4) (hts _ hlink) ⟨k5, k6, k7⟩ ⟨r3, r4⟩, hts _ k2, hts _ k3⟩ ⟨ct_blind, ?_, fun U hU hW => ⟨rfl, by rw [hU]; exact hPc, va_K.moved hW.alike hK, hDc⟩⟩ rfl hn hsz hst (lv_room hW) hdg hf
  have h := va_recv hK hP hq he
  rw [hcls] at h
  exact h
theorem ct_runS {wc w1 : va_W} (hM : MC p s m args meth c own cc nL ret) (hK : va_K D classes (ctT cy) s) (hc : CT l D cy y bytes maxL retY rm As wc v1 w1) (k : KS y bytes maxL retY n) (hlink : Cond.methodLink own index y ∈ lw_g) (hPc : va_P D classes wc H) (hDc : va_D (fun _ => True) wc)
    (hn : As.length = n) (hsz : ls.size = nL) (hst : st0 = As.reverse ++ rest) (hrm : rm.cells = 0 ∧ rm.slots = 0 ∧ rm.frames + 1 ≤ R.frames ∧ 8 + (maxL + 11) + rm.locals ≤ R.locals)
    (hW : (rest.map fun v => v.category).sum ≤ 8) (hf : cells ≤ R.cells ∧ slots ≤ R.slots) (hdg : decode cc pc = .ok (.invokestatic index, 3)) :
    va_Run p l e R s m args below meth c H locs cells slots 0 0 (F0 m pc ls st0) rest (ctQ D v1 w1 (ctA wc) As.toArray) (ctA wc) := by
  obtain ⟨hx, hb, -, hml, hown, hts, -⟩ := hM
  obtain ⟨k1, k2, k4, k5, k6, k7⟩ := k
  obtain ⟨r1, r2, r3, r4⟩ := hrm
  exact va_runS (As := As) (rest := rest) (Ts := lw_g) (n := n) ⟨hx, hb, hml, hown, hts⟩ hc ⟨callB_of n hts (ctW_good k1) rfl r1 r2 (hts _ k4) (hts _ hlink) ⟨k5, k6, k7⟩ ⟨r3, r4⟩, hts _ k2⟩ ⟨ct_blind, fun U hU hW => ⟨rfl, by rw [hU]; exact hPc, va_K.moved hW.alike hK, hDc⟩⟩ rfl hn hsz hst (lv_room hW) hdg hf
/-- a call of a method of an object: its world is a part of the caller's -/
theorem ct_callV {ws wc w1 ws' : va_W} (hM : MC p s m args meth c own cc nL ret) (hK : va_K D classes (ctT cy) s) (hP : va_P D classes ws H) (hD : va_D A ws) (hS : va_S A H0 H locs) (hc : CT l D cy y bytes maxL retY rm (.ref b :: As) wc v1 w1) (k : KV y bytes maxL retY n) (hlink : Cond.methodLink own index y ∈ lw_g)
    (isC : List Nat) (hC : isC.map (fun i => ws[i]?) = wc.map some) (hnd : va_nd isC = true) (hlen : w1.length = isC.length) (hs : ct_put ws isC w1 = ws') (hff : ws'.map Prod.fst = ws.map Prod.fst)
    (q0 : Nat) {ci : Nat} {q : vw_C} {fs : List Value} (he : ws[q0]? = some (b, .inr (ci, fs))) (hq : classes[ci]? = some q) (hcls : q.1 = y.cls) (hn : As.length = n) (hl : ls.size = nL) (hst : st0 = As.reverse ++ .ref b :: rest) (hrm : rm.cells = 0 ∧ rm.slots = 0 ∧ rm.frames + 1 ≤ R.frames ∧ 8 + (maxL + 11) + rm.locals ≤ R.locals)
    (hW : (rest.map fun v => v.category).sum ≤ 8) (hf : cells ≤ R.cells ∧ slots ≤ R.slots) (hdg : decode cc pc = .ok (.invokevirtual index, 3))
    (kk : ∀ (H1 : Heap) (locs1 : List Loc), va_P D classes ws' H1 → va_D A ws' → va_S A H0 H1 locs1 → W p l e R s m args below meth c H1 locs1 cells slots Q (F0 m (pc + 3) ls (v1.toList ++ rest))) : W p l e R s m args below meth c H locs cells slots Q (F0 m pc ls st0) := by
  have hPc : va_P D classes wc H := by
    intro j q' hj
    have h1 : (isC.map (fun i => ws[i]?))[j]? = some (some q') := by rw [hC, List.getElem?_map, hj]; rfl
    rw [List.getElem?_map] at h1
    cases hi : isC[j]? with
    | none => rw [hi] at h1; cases h1
    | some i => rw [hi] at h1; exact hP i q' (Option.some.inj h1)
  exact ct_go (ct_runV hM hK hP hc k hlink hPc ((hD.sub isC hnd hC).weaken (fun _ _ _ _ => trivial)) q0 he hq hcls hn hl hst hrm hW hf hdg) hP hD hS isC hC hlen hs hff kk
/-- a call of a method of an object, whose world is the caller's -/
theorem ct_callF {ws w1 : va_W} (hM : MC p s m args meth c own cc nL ret) (hK : va_K D classes (ctT cy) s) (hP : va_P D classes ws H) (hD : va_D A ws) (hS : va_S A H0 H locs) (hc : CT l D cy y bytes maxL retY rm (.ref b :: As) ws v1 w1) (k : KV y bytes maxL retY n) (hlink : Cond.methodLink own index y ∈ lw_g)
    (hff : w1.map Prod.fst = ws.map Prod.fst)
    (q0 : Nat) {ci : Nat} {q : vw_C} {fs : List Value} (he : ws[q0]? = some (b, .inr (ci, fs))) (hq : classes[ci]? = some q) (hcls : q.1 = y.cls) (hn : As.length = n) (hl : ls.size = nL) (hst : st0 = As.reverse ++ .ref b :: rest) (hrm : rm.cells = 0 ∧ rm.slots = 0 ∧ rm.frames + 1 ≤ R.frames ∧ 8 + (maxL + 11) + rm.locals ≤ R.locals)
    (hW : (rest.map fun v => v.category).sum ≤ 8) (hf : cells ≤ R.cells ∧ slots ≤ R.slots) (hdg : decode cc pc = .ok (.invokevirtual index, 3))
    (kk : ∀ (H1 : Heap) (locs1 : List Loc), va_P D classes w1 H1 → va_D A w1 → va_S A H0 H1 locs1 → W p l e R s m args below meth c H1 locs1 cells slots Q (F0 m (pc + 3) ls (v1.toList ++ rest))) : W p l e R s m args below meth c H locs cells slots Q (F0 m pc ls st0) :=
  ct_goF (ct_runV hM hK hP hc k hlink hP (hD.weaken (fun _ _ _ _ => trivial)) q0 he hq hcls hn hl hst hrm hW hf hdg) hD hS hff kk
/-- a call of a static method without a world -/
theorem ct_callS {ws : va_W} (hM : MC p s m args meth c own cc nL ret) (hK : va_K D classes (ctT cy) s) (hP : va_P D classes ws H) (hD : va_D A ws) (hS : va_S A H0 H locs) (hc : CT l D cy y bytes maxL retY rm As [] v1 []) (k : KS y bytes maxL retY n) (hlink : Cond.methodLink own index y ∈ lw_g)
    (hn : As.length = n) (hl : ls.size = nL) (hst : st0 = As.reverse ++ rest) (hrm : rm.cells = 0 ∧ rm.slots = 0 ∧ rm.frames + 1 ≤ R.frames ∧ 8 + (maxL + 11) + rm.locals ≤ R.locals)
    (hW : (rest.map fun v => v.category).sum ≤ 8) (hf : cells ≤ R.cells ∧ slots ≤ R.slots) (hdg : decode cc pc = .ok (.invokestatic index, 3))
    (kk : ∀ (H1 : Heap) (locs1 : List Loc), va_P D classes ws H1 → va_D A ws → va_S A H0 H1 locs1 → W p l e R s m args below meth c H1 locs1 cells slots Q (F0 m (pc + 3) ls (v1.toList ++ rest))) : W p l e R s m args below meth c H locs cells slots Q (F0 m pc ls st0) :=
  ct_go (ct_runS hM hK hc k hlink (fun _ _ h => by simp at h) ⟨fun _ _ _ _ h => by simp at h, fun _ _ h => by simp at h⟩ hn hl hst hrm hW hf hdg) hP hD hS [] rfl rfl rfl rfl kk
theorem ct_max {x z : Int32} (hM : MC p s m args meth c own cc nL ret) (hl : ls.size = nL) (hlink : Cond.methodLink own index Lib.Math.max.name ∈ lw_g) (hR : 1 ≤ R.frames ∧ (rest.map fun v => v.category).sum + 13 ≤ R.locals) (hf : cells ≤ R.cells ∧ slots ≤ R.slots) (hdg : decode cc pc = .ok (.invokestatic index, 3))
    (kk : W p l e R s m args below meth c H locs cells slots Q (F0 m (pc + 3) ls (.int (if x < z then z else x) :: rest))) : W p l e R s m args below meth c H locs cells slots Q (F0 m pc ls (.int z :: .int x :: rest)) := by
  obtain ⟨hx, hb, -, hml, hown, hts, -⟩ := hM
  exact va_mmax hx hb (hml.trans hl.symm) hown (hts _ hlink) (hts _ wst_max) (hts _ win_J9) (hts _ wcd_max) hR.1 hR.2 hf.1 hf.2 hdg kk
theorem ct_min {x z : Int32} (hM : MC p s m args meth c own cc nL ret) (hl : ls.size = nL) (hlink : Cond.methodLink own index Lib.Math.min.name ∈ lw_g) (hR : 1 ≤ R.frames ∧ (rest.map fun v => v.category).sum + 13 ≤ R.locals) (hf : cells ≤ R.cells ∧ slots ≤ R.slots) (hdg : decode cc pc = .ok (.invokestatic index, 3))
    (kk : W p l e R s m args below meth c H locs cells slots Q (F0 m (pc + 3) ls (.int (if z < x then z else x) :: rest))) : W p l e R s m args below meth c H locs cells slots Q (F0 m pc ls (.int z :: .int x :: rest)) := by
  obtain ⟨hx, hb, -, hml, hown, hts, -⟩ := hM
  exact va_mmin hx hb (hml.trans hl.symm) hown (hts _ hlink) (hts _ wst_min) (hts _ win_J9) (hts _ wcd_min) hR.1 hR.2 hf.1 hf.2 hdg kk
/-- a field read, written -/
theorem ct_get {ws : va_W} {C : String} {T : u_T} {N ci : Nat} {a : Nat} (hM : MC p s m args meth c own cc nL ret) (hK : va_K D classes (ctT cy) s) (hP : va_P D classes ws H) (hin : ∀ w ∈ u_ws C T N, w ∈ lw_g) (q0 : Nat) {fs : List Value} (he : ws[q0]? = some (a, .inr (ci, fs))) (hc : classes[ci]? = some (C, T, N)) (k : Nat) (hk : k < N) (hlink : Cond.fieldLink own index (T k).1 (T k).2.1 (T k).2.2.1 ∈ lw_g) {v : Value} (hv : fs[k]? = some v) (hdg : decode cc pc = .ok (.getfield index, 3))
    (kk : W p l e R s m args below meth c H locs cells slots Q (F0 m (pc + 3) ls (v :: rest))) : W p l e R s m args below meth c H locs cells slots Q (F0 m pc ls (.ref a :: rest)) := by
  obtain ⟨hx, hb, -, hml, hown, hts, -⟩ := hM
  exact va_get hx hb hts hin hown hK hP q0 he hc k hk (hts _ hlink) (fun _ h => h) hv hdg kk
theorem ct_put1 {ws : va_W} {C : String} {T : u_T} {N ci : Nat} {a : Nat} (hM : MC p s m args meth c own cc nL ret) (hK : va_K D classes (ctT cy) s) (hP : va_P D classes ws H) (hD : va_D A ws) (hS : va_S A H0 H locs) (hin : ∀ w ∈ u_ws C T N, w ∈ lw_g) (ty0 : Nat → FieldType) (hty : ∀ k, k < N → parseFieldDescriptor (T k).2.2.1 = some (ty0 k)) (hnm : ∀ a, a < N → ∀ b, b < N → a ≠ b → (T a).2.1 ≠ (T b).2.1) (q0 : Nat) {fs : List Value} (he : ws[q0]? = some (a, .inr (ci, fs))) (hc : classes[ci]? = some (C, T, N)) (k : Nat) (hk : k < N) (hlink : Cond.fieldLink own index (T k).1 (T k).2.1 (T k).2.2.1 ∈ lw_g) (hfin : (T k).2.2.2 = false) {v : Value} (hn : narrow (ty0 k) v = v) (hfit : fits (ty0 k) v = true) (hl : k < fs.length) (hdg : decode cc pc = .ok (.putfield index, 3))
    (kk : ∀ (H1 : Heap) (locs1 : List Loc), va_P D classes (ws.set q0 (a, .inr (ci, fs.set k v))) H1 → va_D A (ws.set q0 (a, .inr (ci, fs.set k v))) → va_S A H0 H1 locs1 → W p l e R s m args below meth c H1 locs1 cells slots Q (F0 m (pc + 3) ls rest)) : W p l e R s m args below meth c H locs cells slots Q (F0 m pc ls (v :: .ref a :: rest)) := by
  obtain ⟨hx, hb, -, hml, hown, hts, -⟩ := hM
  exact va_put (ty := ty0 k) hx hb hts hin ty0 hty hnm hown hK hP hD hS q0 he hc k hk (hts _ hlink) (fun _ h => h) hfin (hty k hk) hn hfit hl hdg kk
end CtRows
end
section
abbrev tAr : Type := Nat → Int32
abbrev tPd : Type := Int32 × tAr
abbrev p_ct (x : tPd) : Int32 := x.1
abbrev p_sg (x : tPd) : tAr := x.2
def gwP (cy : Nat → ClassId) (a : Nat → Nat) (x : tPd) : va_W := [(a 0, .inr (0, [.int (p_ct x), .ref (a 1)])), (a 1, .inl (cy 0, 40, .inl (p_sg x)))]
abbrev tVl : Type := tAr × tAr × tAr × tAr × tAr × Int32
abbrev v_mi (x : tVl) : tAr := x.1
abbrev v_mn (x : tVl) : tAr := x.2.1
abbrev v_pa (x : tVl) : tAr := x.2.2.1
abbrev v_ca (x : tVl) : tAr := x.2.2.2.1
abbrev v_se (x : tVl) : tAr := x.2.2.2.2.1
abbrev v_cm (x : tVl) : Int32 := x.2.2.2.2.2
def gwV (cy : Nat → ClassId) (a : Nat → Nat) (x : tVl) : va_W := [(a 0, .inr (1, [.ref (a 1), .ref (a 2), .ref (a 3), .ref (a 4), .int (v_cm x), .ref (a 5)])), (a 1, .inl (cy 0, 8, .inl (v_mi x))), (a 2, .inl (cy 0, 8, .inl (v_mn x))), (a 3, .inl (cy 0, 8, .inl (v_pa x))), (a 4, .inl (cy 1, 8, .inl (v_ca x))), (a 5, .inl (cy 0, 4, .inl (v_se x)))]
abbrev tWl : Type := tAr × tAr × tAr × tAr × Int32 × Int32 × Int32 × Int32 × Int32 × Int32
abbrev w_or (x : tWl) : tAr := x.1
abbrev w_be (x : tWl) : tAr := x.2.1
abbrev w_en (x : tWl) : tAr := x.2.2.1
abbrev w_wa (x : tWl) : tAr := x.2.2.2.1
abbrev w_tu (x : tWl) : Int32 := x.2.2.2.2.1
abbrev w_wo (x : tWl) : Int32 := x.2.2.2.2.2.1
abbrev w_su (x : tWl) : Int32 := x.2.2.2.2.2.2.1
abbrev w_ti (x : tWl) : Int32 := x.2.2.2.2.2.2.2.1
abbrev w_co (x : tWl) : Int32 := x.2.2.2.2.2.2.2.2.1
abbrev w_re (x : tWl) : Int32 := x.2.2.2.2.2.2.2.2.2
def gwW (cy : Nat → ClassId) (a : Nat → Nat) (x : tWl) : va_W := [(a 0, .inr (2, [.ref (a 1), .ref (a 2), .ref (a 3), .ref (a 4), .int (w_tu x), .int (w_wo x), .int (w_su x), .int (w_ti x), .int (w_co x), .int (w_re x)])), (a 1, .inl (cy 0, 8, .inl (w_or x))), (a 2, .inl (cy 0, 8, .inl (w_be x))), (a 3, .inl (cy 0, 8, .inl (w_en x))), (a 4, .inl (cy 0, 8, .inl (w_wa x)))]
abbrev tMs : Type := Int32 × tAr × tAr × tAr × tAr × Int32 × Int32 × Int32 × Int32 × tAr × Int32 × tAr × tAr × tAr × tAr × tAr × tAr × Int32 × Int32 × Int32 × tAr × tAr × Int32 × Int32
abbrev m_co (x : tMs) : Int32 := x.1
abbrev m_mi (x : tMs) : tAr := x.2.1
abbrev m_mn (x : tMs) : tAr := x.2.2.1
abbrev m_pa (x : tMs) : tAr := x.2.2.2.1
abbrev m_ca (x : tMs) : tAr := x.2.2.2.2.1
abbrev m_dr (x : tMs) : Int32 := x.2.2.2.2.2.1
abbrev m_fa (x : tMs) : Int32 := x.2.2.2.2.2.2.1
abbrev m_st (x : tMs) : Int32 := x.2.2.2.2.2.2.2.1
abbrev m_ha (x : tMs) : Int32 := x.2.2.2.2.2.2.2.2.1
abbrev m_pd (x : tMs) : tAr := x.2.2.2.2.2.2.2.2.2.1
abbrev m_pn (x : tMs) : Int32 := x.2.2.2.2.2.2.2.2.2.2.1
abbrev m_fr (x : tMs) : tAr := x.2.2.2.2.2.2.2.2.2.2.2.1
abbrev m_at (x : tMs) : tAr := x.2.2.2.2.2.2.2.2.2.2.2.2.1
abbrev m_wa (x : tMs) : tAr := x.2.2.2.2.2.2.2.2.2.2.2.2.2.1
abbrev m_en (x : tMs) : tAr := x.2.2.2.2.2.2.2.2.2.2.2.2.2.2.1
abbrev m_to (x : tMs) : tAr := x.2.2.2.2.2.2.2.2.2.2.2.2.2.2.2.1
abbrev m_or (x : tMs) : tAr := x.2.2.2.2.2.2.2.2.2.2.2.2.2.2.2.2.1
abbrev m_my (x : tMs) : Int32 := x.2.2.2.2.2.2.2.2.2.2.2.2.2.2.2.2.2.1
abbrev m_bf (x : tMs) : Int32 := x.2.2.2.2.2.2.2.2.2.2.2.2.2.2.2.2.2.2.1
abbrev m_bs (x : tMs) : Int32 := x.2.2.2.2.2.2.2.2.2.2.2.2.2.2.2.2.2.2.2.1
abbrev m_kp (x : tMs) : tAr := x.2.2.2.2.2.2.2.2.2.2.2.2.2.2.2.2.2.2.2.2.1
abbrev m_ik (x : tMs) : tAr := x.2.2.2.2.2.2.2.2.2.2.2.2.2.2.2.2.2.2.2.2.2.1
abbrev m_ka (x : tMs) : Int32 := x.2.2.2.2.2.2.2.2.2.2.2.2.2.2.2.2.2.2.2.2.2.2.1
abbrev m_iw (x : tMs) : Int32 := x.2.2.2.2.2.2.2.2.2.2.2.2.2.2.2.2.2.2.2.2.2.2.2
def gwM (cy : Nat → ClassId) (a : Nat → Nat) (x : tMs) : va_W := [(a 0, .inr (4, [.int (m_co x), .ref (a 1), .ref (a 2), .ref (a 3), .ref (a 4), .int (m_dr x), .int (m_fa x), .int (m_st x), .int (m_ha x), .ref (a 5), .int (m_pn x), .ref (a 6), .ref (a 7), .ref (a 8), .ref (a 9), .ref (a 10), .ref (a 11), .int (m_my x), .int (m_bf x), .int (m_bs x), .ref (a 12), .ref (a 13), .int (m_ka x), .int (m_iw x)])), (a 1, .inl (cy 0, 8, .inl (m_mi x))), (a 2, .inl (cy 0, 8, .inl (m_mn x))), (a 3, .inl (cy 0, 8, .inl (m_pa x))), (a 4, .inl (cy 0, 8, .inl (m_ca x))), (a 5, .inl (cy 0, 40, .inl (m_pd x))), (a 6, .inl (cy 0, 8, .inl (m_fr x))), (a 7, .inl (cy 0, 8, .inl (m_at x))), (a 8, .inl (cy 0, 8, .inl (m_wa x))), (a 9, .inl (cy 0, 8, .inl (m_en x))), (a 10, .inl (cy 0, 8, .inl (m_to x))), (a 11, .inl (cy 0, 8, .inl (m_or x))), (a 12, .inl (cy 0, 100, .inl (m_kp x))), (a 13, .inl (cy 1, 2, .inl (m_ik x)))]
def gImg (a : Nat → Nat → Nat) : Nat → Option Nat := va_up (va_up (fun _ => none) 0 (some (a 3 0))) 1 (some (a 4 0))
def gwF (cy : Nat → ClassId) (a : Nat → Nat → Nat) (kp : tAr) : va_W := [(a 0 0, .inr (3, [.ref (a 1 0), .ref (a 2 0), .ref (a 0 1), .ref (a 0 2), .ref (a 5 0), .ref (a 6 0)])), (a 0 1, .inl (cy 2, 2, .inr (.inr (.inr (.inr (gImg a)))))), (a 0 2, .inl (cy 1, 2, .inl kp))]
def gwFF (cy : Nat → ClassId) (a : Nat → Nat → Nat) (kp : tAr) (vN vT vI vJ : tVl) (w : tWl) (pd : tPd) : va_W := gwF cy a kp ++ (gwV cy (a 1) vN ++ (gwV cy (a 2) vT ++ (gwV cy (a 3) vI ++ (gwV cy (a 4) vJ ++ (gwW cy (a 5) w ++ gwP cy (a 6) pd)))))
theorem vp_two {n : Int32} (h : vp_in n 2) (h0 : ¬ n = 0) : n = 1 := by
  obtain ⟨j, hj, rfl⟩ := vp_in_of h (by decide)
  rcases (show j = 0 ∨ j = 1 by omega) with rfl | rfl
  · exact absurd rfl h0
  · rfl
end
section
abbrev rX3_within : Room := { frames := 0, cells := 0, slots := 0, locals := 0 }
def fX3_within (s0 : Int32) (s1 : Int32) (s2 : Int32) : Int32 := if s0 < s1 then 0 else (if s2 < s0 then 0 else 1)
def oX3_within (s0 : Int32) (s1 : Int32) (s2 : Int32) : Prop := True
theorem kvX3_within : KS yX3_within cX3_within 3 (some .boolean) 3 := ⟨wcd_X3_within, wst_X3_within, win_X3, by decide +kernel, by decide +kernel, by decide +kernel⟩
set_option maxHeartbeats 4000000 in
set_option maxRecDepth 100000 in
theorem kX3_within (l : Launch) (D : va_G) (cy : Nat → ClassId) (s0 : Int32) (s1 : Int32) (s2 : Int32) {R : Int32} (hO : oX3_within s0 s1 s2) (hF : fX3_within s0 s1 s2 = R) : CT l D cy yX3_within cX3_within 3 (some .boolean) rX3_within [.int s0, .int s1, .int s2] ([]) (some (.int R)) ([]) := by
  refine ct_of (by decide) (Nat.le_of_ble_eq_true rfl) ?_
  intro p e s m args below meth c A ls hM hK hP hD hS hl
  obtain ⟨hx, hb, -, hml, hown, hts, -⟩ := id hM
  have hl : lv_has ls 3 [(0, .int s0), (1, .int s1), (2, .int s2)] := hl
  obtain ⟨H, hH⟩ : ∃ H : Heap, H = s.heap := ⟨_, rfl⟩
  obtain ⟨locs, hlocs⟩ : ∃ q : List Loc, q = [] := ⟨_, rfl⟩
  have hP : va_P D classes ([]) H := by rw [hH]; exact hP
  have hS : va_S A s.heap H locs := by rw [hH, hlocs]; exact hS
  suffices hg : W p l e rX3_within s m args below meth c H locs 0 0 (MQ below (ctQ D (some (.int R)) ([]) A) args s 0 0 A) (F0 m 0 ls []) by rw [hH, hlocs] at hg; exact hg
  clear hH hlocs
  unfold fX3_within at hF
  unfold oX3_within at hO
  refine lv_iload_n hx hb dX3_within_0 rfl (lv_at hl 0 rfl) ?_
  refine lv_iload_n hx hb dX3_within_1 rfl (lv_at hl 1 rfl) ?_
  refine lv_icmp_lt (tgt := 14) hx hb dX3_within_2 (by decide) (fun c1 => ?_) (fun c1 => ?_)
  · have hF := lt_t c1 hF
    refine lv_iconst (v := 0) hx hb dX3_within_14 (by decide) ?_
    subst hF
    exact ct_zret (r := 0) hM hP hS rfl dX3_within_15
  · have hF := lt_f c1 hF
    refine lv_iload_n hx hb dX3_within_5 rfl (lv_at hl 0 rfl) ?_
    refine lv_iload_n hx hb dX3_within_6 rfl (lv_at hl 2 rfl) ?_
    refine lv_icmp_gt (tgt := 14) hx hb dX3_within_7 (by decide) (fun c2 => ?_) (fun c2 => ?_)
    · have hF := lt_t c2 hF
      refine lv_iconst (v := 0) hx hb dX3_within_14 (by decide) ?_
      subst hF
      exact ct_zret (r := 0) hM hP hS rfl dX3_within_15
    · have hF := lt_f c2 hF
      refine lv_iconst (v := 1) hx hb dX3_within_10 (by decide) ?_
      refine lv_goto (tgt := 15) hx hb dX3_within_11 (by decide) ?_
      subst hF
      exact ct_zret (r := 1) hM hP hS rfl dX3_within_15

abbrev rX3_leastOf : Room := { frames := 0, cells := 0, slots := 0, locals := 0 }
def fX3_leastOf (s0 : Int32) : Int32 := if s0 = 0 then 1 else 0
def oX3_leastOf (s0 : Int32) : Prop := True
theorem kvX3_leastOf : KS yX3_leastOf cX3_leastOf 1 (some .int) 1 := ⟨wcd_X3_leastOf, wst_X3_leastOf, win_X3, by decide +kernel, by decide +kernel, by decide +kernel⟩
set_option maxHeartbeats 4000000 in
set_option maxRecDepth 100000 in
theorem kX3_leastOf (l : Launch) (D : va_G) (cy : Nat → ClassId) (s0 : Int32) {R : Int32} (hO : oX3_leastOf s0) (hF : fX3_leastOf s0 = R) : CT l D cy yX3_leastOf cX3_leastOf 1 (some .int) rX3_leastOf [.int s0] ([]) (some (.int R)) ([]) := by
  refine ct_of (by decide) (Nat.le_of_ble_eq_true rfl) ?_
  intro p e s m args below meth c A ls hM hK hP hD hS hl
  obtain ⟨hx, hb, -, hml, hown, hts, -⟩ := id hM
  have hl : lv_has ls 1 [(0, .int s0)] := hl
  obtain ⟨H, hH⟩ : ∃ H : Heap, H = s.heap := ⟨_, rfl⟩
  obtain ⟨locs, hlocs⟩ : ∃ q : List Loc, q = [] := ⟨_, rfl⟩
  have hP : va_P D classes ([]) H := by rw [hH]; exact hP
  have hS : va_S A s.heap H locs := by rw [hH, hlocs]; exact hS
  suffices hg : W p l e rX3_leastOf s m args below meth c H locs 0 0 (MQ below (ctQ D (some (.int R)) ([]) A) args s 0 0 A) (F0 m 0 ls []) by rw [hH, hlocs] at hg; exact hg
  clear hH hlocs
  unfold fX3_leastOf at hF
  unfold oX3_leastOf at hO
  refine lv_iload_n hx hb dX3_leastOf_0 rfl (lv_at hl 0 rfl) ?_
  refine lv_if_ne (tgt := 8) hx hb dX3_leastOf_1 (by decide) (fun c1 => ?_) (fun c1 => ?_)
  · have hF := lt_f c1 hF
    refine lv_iconst (v := 0) hx hb dX3_leastOf_8 (by decide) ?_
    subst hF
    exact ct_iret hM hP hS dX3_leastOf_9
  · have hF := lt_t c1 hF
    refine lv_iconst (v := 1) hx hb dX3_leastOf_4 (by decide) ?_
    refine lv_goto (tgt := 9) hx hb dX3_leastOf_5 (by decide) ?_
    subst hF
    exact ct_iret hM hP hS dX3_leastOf_9

abbrev rX3_mostOf : Room := { frames := 0, cells := 0, slots := 0, locals := 0 }
def fX3_mostOf (s0 : Int32) : Int32 := if s0 = 0 then 20 else (if s0 = 3 then 1 else 9)
def oX3_mostOf (s0 : Int32) : Prop := True
theorem kvX3_mostOf : KS yX3_mostOf cX3_mostOf 1 (some .int) 1 := ⟨wcd_X3_mostOf, wst_X3_mostOf, win_X3, by decide +kernel, by decide +kernel, by decide +kernel⟩
set_option maxHeartbeats 4000000 in
set_option maxRecDepth 100000 in
theorem kX3_mostOf (l : Launch) (D : va_G) (cy : Nat → ClassId) (s0 : Int32) {R : Int32} (hO : oX3_mostOf s0) (hF : fX3_mostOf s0 = R) : CT l D cy yX3_mostOf cX3_mostOf 1 (some .int) rX3_mostOf [.int s0] ([]) (some (.int R)) ([]) := by
  refine ct_of (by decide) (Nat.le_of_ble_eq_true rfl) ?_
  intro p e s m args below meth c A ls hM hK hP hD hS hl
  obtain ⟨hx, hb, -, hml, hown, hts, -⟩ := id hM
  have hl : lv_has ls 1 [(0, .int s0)] := hl
  obtain ⟨H, hH⟩ : ∃ H : Heap, H = s.heap := ⟨_, rfl⟩
  obtain ⟨locs, hlocs⟩ : ∃ q : List Loc, q = [] := ⟨_, rfl⟩
  have hP : va_P D classes ([]) H := by rw [hH]; exact hP
  have hS : va_S A s.heap H locs := by rw [hH, hlocs]; exact hS
  suffices hg : W p l e rX3_mostOf s m args below meth c H locs 0 0 (MQ below (ctQ D (some (.int R)) ([]) A) args s 0 0 A) (F0 m 0 ls []) by rw [hH, hlocs] at hg; exact hg
  clear hH hlocs
  unfold fX3_mostOf at hF
  unfold oX3_mostOf at hO
  refine lv_iload_n hx hb dX3_mostOf_0 rfl (lv_at hl 0 rfl) ?_
  by_cases c1 : s0 = 0
  · have hF := lt_t c1 hF
    refine lv_lookup (off := 27) (tgt := 28) hx hb dX3_mostOf_1 (by decide) (by rw [c1]; rfl) (by decide) ?_
    refine lv_bipush (v := 20) hx hb dX3_mostOf_28 (by decide) ?_
    subst hF
    exact ct_iret hM hP hS dX3_mostOf_30
  · have hF := lt_f c1 hF
    by_cases c2 : s0 = 3
    · have hF := lt_t c2 hF
      refine lv_lookup (off := 30) (tgt := 31) hx hb dX3_mostOf_1 (by decide) (by rw [c2]; rfl) (by decide) ?_
      refine lv_iconst (v := 1) hx hb dX3_mostOf_31 (by decide) ?_
      subst hF
      exact ct_iret hM hP hS dX3_mostOf_32
    · have hF := lt_f c2 hF
      refine lv_lookup (off := 32) (tgt := 33) hx hb dX3_mostOf_1 (by decide) ((lv_osw c1 rfl).trans ((lv_osw c2 rfl).trans rfl)) (by decide) ?_
      refine lv_bipush (v := 9) hx hb dX3_mostOf_33 (by decide) ?_
      subst hF
      exact ct_iret hM hP hS dX3_mostOf_35

abbrev rJ6_bitCount_0f7a4 : Room := { frames := 0, cells := 0, slots := 0, locals := 0 }
def fJ6_bitCount_0f7a4 (s0 : Int32) : Int32 := lt_ (s0 - ((Int32.toUInt32 s0 >>> (Int32.toUInt32 1 &&& Int32.toUInt32 31)).toInt32 &&& 1431655765)) fun x1 => lt_ ((x1 &&& 858993459) + ((Int32.toUInt32 x1 >>> (Int32.toUInt32 2 &&& Int32.toUInt32 31)).toInt32 &&& 858993459)) fun x3 => lt_ ((x3 + (Int32.toUInt32 x3 >>> (Int32.toUInt32 4 &&& Int32.toUInt32 31)).toInt32) &&& 252645135) fun x5 => lt_ (x5 + (Int32.toUInt32 x5 >>> (Int32.toUInt32 8 &&& Int32.toUInt32 31)).toInt32) fun x7 => lt_ (x7 + (Int32.toUInt32 x7 >>> (Int32.toUInt32 16 &&& Int32.toUInt32 31)).toInt32) fun x9 => (x9 &&& 63)
def oJ6_bitCount_0f7a4 (s0 : Int32) : Prop := True
theorem kvJ6_bitCount_0f7a4 : KS yJ6_bitCount_0f7a4 cJ6_bitCount_0f7a4 1 (some .int) 1 := ⟨wcd_J6_bitCount_0f7a4, wst_J6_bitCount_0f7a4, win_J6, by decide +kernel, by decide +kernel, by decide +kernel⟩
set_option maxHeartbeats 4000000 in
set_option maxRecDepth 100000 in
theorem kJ6_bitCount_0f7a4 (l : Launch) (D : va_G) (cy : Nat → ClassId) (s0 : Int32) {R : Int32} (hO : oJ6_bitCount_0f7a4 s0) (hF : fJ6_bitCount_0f7a4 s0 = R) : CT l D cy yJ6_bitCount_0f7a4 cJ6_bitCount_0f7a4 1 (some .int) rJ6_bitCount_0f7a4 [.int s0] ([]) (some (.int R)) ([]) := by
  refine ct_of (by decide) (Nat.le_of_ble_eq_true rfl) ?_
  intro p e s m args below meth c A ls hM hK hP hD hS hl
  obtain ⟨hx, hb, -, hml, hown, hts, -⟩ := id hM
  have hl : lv_has ls 1 [(0, .int s0)] := hl
  obtain ⟨H, hH⟩ : ∃ H : Heap, H = s.heap := ⟨_, rfl⟩
  obtain ⟨locs, hlocs⟩ : ∃ q : List Loc, q = [] := ⟨_, rfl⟩
  have hP : va_P D classes ([]) H := by rw [hH]; exact hP
  have hS : va_S A s.heap H locs := by rw [hH, hlocs]; exact hS
  suffices hg : W p l e rJ6_bitCount_0f7a4 s m args below meth c H locs 0 0 (MQ below (ctQ D (some (.int R)) ([]) A) args s 0 0 A) (F0 m 0 ls []) by rw [hH, hlocs] at hg; exact hg
  clear hH hlocs
  unfold fJ6_bitCount_0f7a4 at hF
  unfold oJ6_bitCount_0f7a4 at hO
  refine lv_iload_n hx hb dJ6_bitCount_0f7a4_0 rfl (lv_at hl 0 rfl) ?_
  refine lv_iload_n hx hb dJ6_bitCount_0f7a4_1 rfl (lv_at hl 0 rfl) ?_
  refine lv_iconst (v := 1) hx hb dJ6_bitCount_0f7a4_2 (by decide) ?_
  refine lv_iushr (v := (Int32.toUInt32 s0 >>> (Int32.toUInt32 1 &&& Int32.toUInt32 31)).toInt32) hx hb dJ6_bitCount_0f7a4_3 rfl ?_
  refine lv_ldcw (v := 1431655765) hx hb hown (hts _ wct_J6_265) dJ6_bitCount_0f7a4_4 ?_
  refine lv_iand hx hb dJ6_bitCount_0f7a4_7 ?_
  refine lv_isub hx hb dJ6_bitCount_0f7a4_8 ?_
  refine lv_topi (fun x1 e2 => ?_)
  have hF := lt_n e2.symm hF
  try have hO := lo_n e2.symm hO
  refine lv_istore_n (lv' := [(0, .int x1)]) hx hb dJ6_bitCount_0f7a4_9 rfl hl (by decide) rfl (fun ls hl => ?_)
  refine lv_iload_n hx hb dJ6_bitCount_0f7a4_10 rfl (lv_at hl 0 rfl) ?_
  refine lv_ldcw (v := 858993459) hx hb hown (hts _ wct_J6_266) dJ6_bitCount_0f7a4_11 ?_
  refine lv_iand hx hb dJ6_bitCount_0f7a4_14 ?_
  refine lv_iload_n hx hb dJ6_bitCount_0f7a4_15 rfl (lv_at hl 0 rfl) ?_
  refine lv_iconst (v := 2) hx hb dJ6_bitCount_0f7a4_16 (by decide) ?_
  refine lv_iushr (v := (Int32.toUInt32 x1 >>> (Int32.toUInt32 2 &&& Int32.toUInt32 31)).toInt32) hx hb dJ6_bitCount_0f7a4_17 rfl ?_
  refine lv_ldcw (v := 858993459) hx hb hown (hts _ wct_J6_266) dJ6_bitCount_0f7a4_18 ?_
  refine lv_iand hx hb dJ6_bitCount_0f7a4_21 ?_
  refine lv_iadd hx hb dJ6_bitCount_0f7a4_22 ?_
  refine lv_topi (fun x3 e4 => ?_)
  have hF := lt_n e4.symm hF
  try have hO := lo_n e4.symm hO
  refine lv_istore_n (lv' := [(0, .int x3)]) hx hb dJ6_bitCount_0f7a4_23 rfl hl (by decide) rfl (fun ls hl => ?_)
  refine lv_iload_n hx hb dJ6_bitCount_0f7a4_24 rfl (lv_at hl 0 rfl) ?_
  refine lv_iload_n hx hb dJ6_bitCount_0f7a4_25 rfl (lv_at hl 0 rfl) ?_
  refine lv_iconst (v := 4) hx hb dJ6_bitCount_0f7a4_26 (by decide) ?_
  refine lv_iushr (v := (Int32.toUInt32 x3 >>> (Int32.toUInt32 4 &&& Int32.toUInt32 31)).toInt32) hx hb dJ6_bitCount_0f7a4_27 rfl ?_
  refine lv_iadd hx hb dJ6_bitCount_0f7a4_28 ?_
  refine lv_ldcw (v := 252645135) hx hb hown (hts _ wct_J6_267) dJ6_bitCount_0f7a4_29 ?_
  refine lv_iand hx hb dJ6_bitCount_0f7a4_32 ?_
  refine lv_topi (fun x5 e6 => ?_)
  have hF := lt_n e6.symm hF
  try have hO := lo_n e6.symm hO
  refine lv_istore_n (lv' := [(0, .int x5)]) hx hb dJ6_bitCount_0f7a4_33 rfl hl (by decide) rfl (fun ls hl => ?_)
  refine lv_iload_n hx hb dJ6_bitCount_0f7a4_34 rfl (lv_at hl 0 rfl) ?_
  refine lv_iload_n hx hb dJ6_bitCount_0f7a4_35 rfl (lv_at hl 0 rfl) ?_
  refine lv_bipush (v := 8) hx hb dJ6_bitCount_0f7a4_36 (by decide) ?_
  refine lv_iushr (v := (Int32.toUInt32 x5 >>> (Int32.toUInt32 8 &&& Int32.toUInt32 31)).toInt32) hx hb dJ6_bitCount_0f7a4_38 rfl ?_
  refine lv_iadd hx hb dJ6_bitCount_0f7a4_39 ?_
  refine lv_topi (fun x7 e8 => ?_)
  have hF := lt_n e8.symm hF
  try have hO := lo_n e8.symm hO
  refine lv_istore_n (lv' := [(0, .int x7)]) hx hb dJ6_bitCount_0f7a4_40 rfl hl (by decide) rfl (fun ls hl => ?_)
  refine lv_iload_n hx hb dJ6_bitCount_0f7a4_41 rfl (lv_at hl 0 rfl) ?_
  refine lv_iload_n hx hb dJ6_bitCount_0f7a4_42 rfl (lv_at hl 0 rfl) ?_
  refine lv_bipush (v := 16) hx hb dJ6_bitCount_0f7a4_43 (by decide) ?_
  refine lv_iushr (v := (Int32.toUInt32 x7 >>> (Int32.toUInt32 16 &&& Int32.toUInt32 31)).toInt32) hx hb dJ6_bitCount_0f7a4_45 rfl ?_
  refine lv_iadd hx hb dJ6_bitCount_0f7a4_46 ?_
  refine lv_topi (fun x9 e10 => ?_)
  have hF := lt_n e10.symm hF
  try have hO := lo_n e10.symm hO
  refine lv_istore_n (lv' := [(0, .int x9)]) hx hb dJ6_bitCount_0f7a4_47 rfl hl (by decide) rfl (fun ls hl => ?_)
  refine lv_iload_n hx hb dJ6_bitCount_0f7a4_48 rfl (lv_at hl 0 rfl) ?_
  refine lv_bipush (v := 63) hx hb dJ6_bitCount_0f7a4_49 (by decide) ?_
  refine lv_iand hx hb dJ6_bitCount_0f7a4_51 ?_
  subst hF
  exact ct_iret hM hP hS dJ6_bitCount_0f7a4_52

abbrev rX4_in : Room := { frames := 0, cells := 0, slots := 0, locals := 0 }
def fX4_in (s0 : Int64) (s2 : Int64) (s4 : Int64) : Int32 := if lg_cmp s0 s2 < 0 then 0 else (if 0 < lg_cmp s0 s4 then 0 else 1)
def oX4_in (s0 : Int64) (s2 : Int64) (s4 : Int64) : Prop := True
theorem kvX4_in : KS yX4_in cX4_in 6 (some .boolean) 3 := ⟨wcd_X4_in, wst_X4_in, win_X4, by decide +kernel, by decide +kernel, by decide +kernel⟩
set_option maxHeartbeats 4000000 in
set_option maxRecDepth 100000 in
theorem kX4_in (l : Launch) (D : va_G) (cy : Nat → ClassId) (s0 : Int64) (s2 : Int64) (s4 : Int64) {R : Int32} (hO : oX4_in s0 s2 s4) (hF : fX4_in s0 s2 s4 = R) : CT l D cy yX4_in cX4_in 6 (some .boolean) rX4_in [.long s0, .long s2, .long s4] ([]) (some (.int R)) ([]) := by
  refine ct_of (by decide) (Nat.le_of_ble_eq_true rfl) ?_
  intro p e s m args below meth c A ls hM hK hP hD hS hl
  obtain ⟨hx, hb, -, hml, hown, hts, -⟩ := id hM
  have hl : lv_has ls 6 [(0, .long s0), (2, .long s2), (4, .long s4)] := hl
  obtain ⟨H, hH⟩ : ∃ H : Heap, H = s.heap := ⟨_, rfl⟩
  obtain ⟨locs, hlocs⟩ : ∃ q : List Loc, q = [] := ⟨_, rfl⟩
  have hP : va_P D classes ([]) H := by rw [hH]; exact hP
  have hS : va_S A s.heap H locs := by rw [hH, hlocs]; exact hS
  suffices hg : W p l e rX4_in s m args below meth c H locs 0 0 (MQ below (ctQ D (some (.int R)) ([]) A) args s 0 0 A) (F0 m 0 ls []) by rw [hH, hlocs] at hg; exact hg
  clear hH hlocs
  unfold fX4_in at hF
  unfold oX4_in at hO
  refine lv_lload_n hx hb dX4_in_0 rfl (lv_at hl 0 rfl) ?_
  refine lv_lload_n hx hb dX4_in_1 rfl (lv_at hl 1 rfl) ?_
  refine W.lcmp hx hb dX4_in_2 ?_
  refine lv_if_lt (tgt := 17) hx hb dX4_in_3 (by decide) (fun c1 => ?_) (fun c1 => ?_)
  · have hF := lt_t c1 hF
    refine lv_iconst (v := 0) hx hb dX4_in_17 (by decide) ?_
    subst hF
    exact ct_zret (r := 0) hM hP hS rfl dX4_in_18
  · have hF := lt_f c1 hF
    refine lv_lload_n hx hb dX4_in_6 rfl (lv_at hl 0 rfl) ?_
    refine lv_lload hx hb dX4_in_7 (lv_at hl 2 rfl) ?_
    refine W.lcmp hx hb dX4_in_9 ?_
    refine lv_if_gt (tgt := 17) hx hb dX4_in_10 (by decide) (fun c2 => ?_) (fun c2 => ?_)
    · have hF := lt_t c2 hF
      refine lv_iconst (v := 0) hx hb dX4_in_17 (by decide) ?_
      subst hF
      exact ct_zret (r := 0) hM hP hS rfl dX4_in_18
    · have hF := lt_f c2 hF
      refine lv_iconst (v := 1) hx hb dX4_in_13 (by decide) ?_
      refine lv_goto (tgt := 18) hx hb dX4_in_14 (by decide) ?_
      subst hF
      exact ct_zret (r := 1) hM hP hS rfl dX4_in_18

abbrev rX4_ones : Room := { frames := 0, cells := 0, slots := 0, locals := 0 }
def fX4_ones_4 : Nat → Int32 → Int32 → Int32
  | 0, s1, s2 => 0
  | n + 1, s1, s2 => if s2 = 0 then s1 else (lt_ (s1 + 1) fun x2 => lt_ (s2 &&& (s2 - 1)) fun x4 => fX4_ones_4 n x2 x4)
def oX4_ones_4 : Nat → Int32 → Int32 → Prop
  | 0, _, _ => False
  | n + 1, s1, s2 => if s2 = 0 then True else (lo_ (s1 + 1) fun x2 => lo_ (s2 &&& (s2 - 1)) fun x4 => oX4_ones_4 n x2 x4)
set_option maxHeartbeats 4000000 in
set_option maxRecDepth 100000 in
theorem tX4_ones_4 {p : Program} {l : Launch} {e : Env} {s : State} {m : MethodId} {args : Array Value} {below : List Frame} {meth : Method} {c : Code} {A : Nat → Prop} {D : va_G} {cy : Nat → ClassId} {s0 : Int32} {R : Int32} (hM : MC p s m args meth c RX4 cX4_ones 3 (some .int)) (hK : va_K D classes (ctT cy) s) :
    ∀ (n : Nat) (s1 : Int32) (s2 : Int32) (H : Heap) (locs : List Loc) (ls : Array Slot), va_P D classes ([]) H → va_D A ([]) → va_S A s.heap H locs → lv_has ls 3 [(0, .int s0), (1, .int s1), (2, .int s2)] → oX4_ones_4 n s1 s2 → fX4_ones_4 n s1 s2 = R → W p l e rX4_ones s m args below meth c H locs 0 0 (MQ below (ctQ D (some (.int R)) ([]) A) args s 0 0 A) (F0 m 4 ls []) := by
  obtain ⟨hx, hb, -, hml, hown, hts, -⟩ := id hM
  intro n
  induction n with
  | zero =>
    intro s1 s2 H locs ls hP hD hS hl hO hF
    exact False.elim hO
  | succ n ih =>
    intro s1 s2 H locs ls hP hD hS hl hO hF
    rw [fX4_ones_4] at hF
    rw [oX4_ones_4] at hO
    refine lv_iload_n hx hb dX4_ones_4 rfl (lv_at hl 2 rfl) ?_
    refine lv_if_eq (tgt := 20) hx hb dX4_ones_5 (by decide) (fun c1 => ?_) (fun c1 => ?_)
    · have hF := lt_t c1 hF
      have hO := lo_t c1 hO
      refine lv_iload_n hx hb dX4_ones_20 rfl (lv_at hl 1 rfl) ?_
      subst hF
      exact ct_iret hM hP hS dX4_ones_21
    · have hF := lt_f c1 hF
      have hO := lo_f c1 hO
      obtain ⟨x2, e3⟩ : ∃ y : Int32, s1 + 1 = y := ⟨_, rfl⟩
      have hF := lt_n e3 hF
      try have hO := lo_n e3 hO
      refine lv_iinc (v := x2) (lv' := [(1, .int x2), (0, .int s0), (2, .int s2)]) hx hb dX4_ones_8 hl (k := 1) rfl (by rw [← e3]; rfl) (by decide) rfl (fun ls hl => ?_)
      refine lv_iload_n hx hb dX4_ones_11 rfl (lv_at hl 2 rfl) ?_
      refine lv_iload_n hx hb dX4_ones_12 rfl (lv_at hl 2 rfl) ?_
      refine lv_iconst (v := 1) hx hb dX4_ones_13 (by decide) ?_
      refine lv_isub hx hb dX4_ones_14 ?_
      refine lv_iand hx hb dX4_ones_15 ?_
      refine lv_topi (fun x4 e5 => ?_)
      have hF := lt_n e5.symm hF
      try have hO := lo_n e5.symm hO
      refine lv_istore_n (lv' := [(2, .int x4), (1, .int x2), (0, .int s0)]) hx hb dX4_ones_16 rfl hl (by decide) rfl (fun ls hl => ?_)
      refine lv_goto (tgt := 4) hx hb dX4_ones_17 (by decide) ?_
      exact ih x2 x4 H locs ls hP hD hS (lv_sub hl [2, 1, 0] rfl) hO hF

def fX4_ones (s0 : Int32) : Int32 := fX4_ones_4 9 0 s0
def oX4_ones (s0 : Int32) : Prop := oX4_ones_4 9 0 s0
theorem kvX4_ones : KS yX4_ones cX4_ones 3 (some .int) 1 := ⟨wcd_X4_ones, wst_X4_ones, win_X4, by decide +kernel, by decide +kernel, by decide +kernel⟩
set_option maxHeartbeats 4000000 in
set_option maxRecDepth 100000 in
theorem kX4_ones (l : Launch) (D : va_G) (cy : Nat → ClassId) (s0 : Int32) {R : Int32} (hO : oX4_ones s0) (hF : fX4_ones s0 = R) : CT l D cy yX4_ones cX4_ones 3 (some .int) rX4_ones [.int s0] ([]) (some (.int R)) ([]) := by
  refine ct_of (by decide) (Nat.le_of_ble_eq_true rfl) ?_
  intro p e s m args below meth c A ls hM hK hP hD hS hl
  obtain ⟨hx, hb, -, hml, hown, hts, -⟩ := id hM
  have hl : lv_has ls 3 [(0, .int s0)] := hl
  obtain ⟨H, hH⟩ : ∃ H : Heap, H = s.heap := ⟨_, rfl⟩
  obtain ⟨locs, hlocs⟩ : ∃ q : List Loc, q = [] := ⟨_, rfl⟩
  have hP : va_P D classes ([]) H := by rw [hH]; exact hP
  have hS : va_S A s.heap H locs := by rw [hH, hlocs]; exact hS
  suffices hg : W p l e rX4_ones s m args below meth c H locs 0 0 (MQ below (ctQ D (some (.int R)) ([]) A) args s 0 0 A) (F0 m 0 ls []) by rw [hH, hlocs] at hg; exact hg
  clear hH hlocs
  unfold fX4_ones at hF
  unfold oX4_ones at hO
  refine lv_iconst (v := 0) hx hb dX4_ones_0 (by decide) ?_
  refine lv_istore_n (lv' := [(1, .int 0), (0, .int s0)]) hx hb dX4_ones_1 rfl hl (by decide) rfl (fun ls hl => ?_)
  refine lv_iload_n hx hb dX4_ones_2 rfl (lv_at hl 1 rfl) ?_
  refine lv_istore_n (lv' := [(2, .int s0), (1, .int 0), (0, .int s0)]) hx hb dX4_ones_3 rfl hl (by decide) rfl (fun ls hl => ?_)
  exact tX4_ones_4 hM hK 9 0 s0 H locs ls hP hD hS (lv_sub hl [2, 1, 0] rfl) hO hF

abbrev rX4_isPerson : Room := { frames := 1, cells := 0, slots := 0, locals := 25 }
def fX4_isPerson (s0 : Int32) : Int32 := lt_ (fX4_in (Int32.toInt64 s0) 0 7) fun q2 => q2
def oX4_isPerson (s0 : Int32) : Prop := lo_ (fX4_in (Int32.toInt64 s0) 0 7) fun q2 => narrow .boolean (.int q2) = .int q2 ∧ True
theorem kvX4_isPerson : KS yX4_isPerson cX4_isPerson 1 (some .boolean) 1 := ⟨wcd_X4_isPerson, wst_X4_isPerson, win_X4, by decide +kernel, by decide +kernel, by decide +kernel⟩
set_option maxHeartbeats 4000000 in
set_option maxRecDepth 100000 in
theorem kX4_isPerson (l : Launch) (D : va_G) (cy : Nat → ClassId) (s0 : Int32) {R : Int32} (hO : oX4_isPerson s0) (hF : fX4_isPerson s0 = R) : CT l D cy yX4_isPerson cX4_isPerson 1 (some .boolean) rX4_isPerson [.int s0] ([]) (some (.int R)) ([]) := by
  refine ct_of (by decide) (Nat.le_of_ble_eq_true rfl) ?_
  intro p e s m args below meth c A ls hM hK hP hD hS hl
  obtain ⟨hx, hb, -, hml, hown, hts, -⟩ := id hM
  have hl : lv_has ls 1 [(0, .int s0)] := hl
  obtain ⟨H, hH⟩ : ∃ H : Heap, H = s.heap := ⟨_, rfl⟩
  obtain ⟨locs, hlocs⟩ : ∃ q : List Loc, q = [] := ⟨_, rfl⟩
  have hP : va_P D classes ([]) H := by rw [hH]; exact hP
  have hS : va_S A s.heap H locs := by rw [hH, hlocs]; exact hS
  suffices hg : W p l e rX4_isPerson s m args below meth c H locs 0 0 (MQ below (ctQ D (some (.int R)) ([]) A) args s 0 0 A) (F0 m 0 ls []) by rw [hH, hlocs] at hg; exact hg
  clear hH hlocs
  unfold fX4_isPerson at hF
  unfold oX4_isPerson at hO
  refine lv_iload_n hx hb dX4_isPerson_0 rfl (lv_at hl 0 rfl) ?_
  refine lv_i2l (v := Int32.toInt64 s0) hx hb dX4_isPerson_1 rfl ?_
  refine lv_lconst (v := 0) hx hb dX4_isPerson_2 rfl ?_
  refine lv_ldc2 (v := 7) hx hb hown (hts _ wct_X4_57) dX4_isPerson_3 ?_
  obtain ⟨q2, e3⟩ : ∃ q, fX4_in (Int32.toInt64 s0) 0 7 = q := ⟨_, rfl⟩
  have hF := lt_n e3 hF
  try have hO := lo_n e3 hO
  refine ct_callS hM hK hP hD hS (kX4_in l D cy (Int32.toInt64 s0) 0 7 trivial e3) kvX4_in wml_X4_59 rfl hl.1 rfl ⟨rfl, rfl, Nat.le_of_ble_eq_true rfl, Nat.le_of_ble_eq_true rfl⟩ (Nat.le_of_ble_eq_true rfl) ⟨Nat.zero_le _, Nat.zero_le _⟩ dX4_isPerson_6 (fun H locs hP hD hS => ?_)
  refine W.eq (g2 := F0 m 9 ls [.int q2]) rfl ?_
  have hP : va_P D classes ([]) H := hP
  have hD : va_D A ([]) := hD
  obtain ⟨h4, hO⟩ := hO
  subst hF
  exact ct_zret (r := q2) hM hP hS h4 dX4_isPerson_9
end
section
abbrev rX0_add : Room := { frames := 0, cells := 0, slots := 0, locals := 0 }
def fX0_add (pd : tPd) (s1 : Int32) : Int32 × tPd := if p_ct pd < 40 then (lt_ (p_ct pd + 1) fun x3 => (1, (x3, upd (p_sg pd) (Int32.toNatClampNeg (p_ct pd)) s1))) else (0, pd)
def oX0_add (pd : tPd) (s1 : Int32) : Prop := if p_ct pd < 40 then (vp_in (p_ct pd) 40 ∧ True) else True
theorem kvX0_add : KV yX0_add cX0_add 2 (some .boolean) 1 := ⟨wcd_X0_add, wim_X0_add, wsl_X0_add, win_X0, by decide +kernel, by decide +kernel, by decide +kernel⟩
set_option maxHeartbeats 4000000 in
set_option maxRecDepth 100000 in
theorem kX0_add (l : Launch) (D : va_G) (cy : Nat → ClassId) (a : Nat → Nat) (pd : tPd) (s1 : Int32) {R : Int32 × tPd} (hO : oX0_add pd s1) (hF : fX0_add pd s1 = R) : CT l D cy yX0_add cX0_add 2 (some .boolean) rX0_add [.ref (a 0), .int s1] (gwP cy a pd) (some (.int R.1)) (gwP cy a R.2) := by
  refine ct_of (by decide) (Nat.le_of_ble_eq_true rfl) ?_
  intro p e s m args below meth c A ls hM hK hP hD hS hl
  obtain ⟨hx, hb, -, hml, hown, hts, -⟩ := id hM
  have hl : lv_has ls 2 [(0, .ref (a 0)), (1, .int s1)] := hl
  obtain ⟨H, hH⟩ : ∃ H : Heap, H = s.heap := ⟨_, rfl⟩
  obtain ⟨locs, hlocs⟩ : ∃ q : List Loc, q = [] := ⟨_, rfl⟩
  have hP : va_P D classes (gwP cy a pd) H := by rw [hH]; exact hP
  have hS : va_S A s.heap H locs := by rw [hH, hlocs]; exact hS
  suffices hg : W p l e rX0_add s m args below meth c H locs 0 0 (MQ below (ctQ D (some (.int R.1)) (gwP cy a R.2) A) args s 0 0 A) (F0 m 0 ls []) by rw [hH, hlocs] at hg; exact hg
  clear hH hlocs
  unfold fX0_add at hF
  unfold oX0_add at hO
  refine lv_aload_n hx hb dX0_add_0 rfl (lv_at hl 0 rfl) ?_
  refine ct_get (C := RX0) (T := TX0) (N := 2) (ci := 0) (v := .int (p_ct pd)) hM hK hP inX0 0 rfl rfl 0 (by decide) wfl_X0_15 rfl dX0_add_1 ?_
  refine lv_bipush (v := 40) hx hb dX0_add_4 (by decide) ?_
  refine lv_icmp_lt (tgt := 11) hx hb dX0_add_6 (by decide) (fun c1 => ?_) (fun c1 => ?_)
  · have hF := lt_t c1 hF
    have hO := lo_t c1 hO
    refine lv_aload_n hx hb dX0_add_11 rfl (lv_at hl 0 rfl) ?_
    refine ct_get (C := RX0) (T := TX0) (N := 2) (ci := 0) (v := .ref (a 1)) hM hK hP inX0 0 rfl rfl 1 (by decide) wfl_X0_11 rfl dX0_add_12 ?_
    refine lv_aload_n hx hb dX0_add_15 rfl (lv_at hl 0 rfl) ?_
    refine ct_get (C := RX0) (T := TX0) (N := 2) (ci := 0) (v := .int (p_ct pd)) hM hK hP inX0 0 rfl rfl 0 (by decide) wfl_X0_15 rfl dX0_add_16 ?_
    refine lv_iload_n hx hb dX0_add_19 rfl (lv_at hl 1 rfl) ?_
    obtain ⟨h2, hO⟩ := hO
    refine va_iast hx hb hK hP hD hS 1 0 (f := p_sg pd) (n := 40) (cA := cy 0) rfl rfl h2 dX0_add_20 (fun H locs hP hD hS => ?_)
    have hP : va_P D classes (gwP cy a (p_ct pd, upd (p_sg pd) (Int32.toNatClampNeg (p_ct pd)) s1)) H := hP
    have hD : va_D A (gwP cy a (p_ct pd, upd (p_sg pd) (Int32.toNatClampNeg (p_ct pd)) s1)) := hD
    refine lv_aload_n hx hb dX0_add_21 rfl (lv_at hl 0 rfl) ?_
    refine lv_dup hx hb dX0_add_22 rfl ?_
    refine ct_get (C := RX0) (T := TX0) (N := 2) (ci := 0) (v := .int (p_ct pd)) hM hK hP inX0 0 rfl rfl 0 (by decide) wfl_X0_15 rfl dX0_add_23 ?_
    refine lv_iconst (v := 1) hx hb dX0_add_26 (by decide) ?_
    refine lv_iadd hx hb dX0_add_27 ?_
    refine lv_topi (fun x3 e4 => ?_)
    have hF := lt_n e4.symm hF
    try have hO := lo_n e4.symm hO
    refine ct_put1 (C := RX0) (T := TX0) (N := 2) (ci := 0) (v := .int x3) hM hK hP hD hS inX0 tyX0 tyX0_ok nmX0 0 rfl rfl 0 (by decide) wfl_X0_15 rfl (by first | rfl | decide) (by first | rfl | decide) (Nat.le_of_ble_eq_true rfl) dX0_add_28 (fun H locs hP hD hS => ?_)
    have hP : va_P D classes (gwP cy a (x3, upd (p_sg pd) (Int32.toNatClampNeg (p_ct pd)) s1)) H := hP
    have hD : va_D A (gwP cy a (x3, upd (p_sg pd) (Int32.toNatClampNeg (p_ct pd)) s1)) := hD
    refine lv_iconst (v := 1) hx hb dX0_add_31 (by decide) ?_
    subst hF
    exact ct_zret (r := 1) hM hP hS rfl dX0_add_32
  · have hF := lt_f c1 hF
    have hO := lo_f c1 hO
    refine lv_iconst (v := 0) hx hb dX0_add_9 (by decide) ?_
    subst hF
    exact ct_zret (r := 0) hM hP hS rfl dX0_add_10

abbrev rX0_personAt : Room := { frames := 0, cells := 0, slots := 0, locals := 0 }
def fX0_personAt (pd : tPd) (s1 : Int32) : Int32 := if s1 < 0 then (-6) else (if s1 < p_ct pd then (lt_ ((p_sg pd) (Int32.toNatClampNeg s1) - 65) fun x4 => if x4 < 0 then (-6) else (if 8 ≤ x4 then (-6) else x4)) else (-6))
def oX0_personAt (pd : tPd) (s1 : Int32) : Prop := if s1 < 0 then True else (if s1 < p_ct pd then (vp_in s1 40 ∧ True) else True)
theorem kvX0_personAt : KV yX0_personAt cX0_personAt 3 (some .int) 1 := ⟨wcd_X0_personAt, wim_X0_personAt, wsl_X0_personAt, win_X0, by decide +kernel, by decide +kernel, by decide +kernel⟩
set_option maxHeartbeats 4000000 in
set_option maxRecDepth 100000 in
theorem kX0_personAt (l : Launch) (D : va_G) (cy : Nat → ClassId) (a : Nat → Nat) (pd : tPd) (s1 : Int32) {R : Int32} (hO : oX0_personAt pd s1) (hF : fX0_personAt pd s1 = R) : CT l D cy yX0_personAt cX0_personAt 3 (some .int) rX0_personAt [.ref (a 0), .int s1] (gwP cy a pd) (some (.int R)) (gwP cy a pd) := by
  refine ct_of (by decide) (Nat.le_of_ble_eq_true rfl) ?_
  intro p e s m args below meth c A ls hM hK hP hD hS hl
  obtain ⟨hx, hb, -, hml, hown, hts, -⟩ := id hM
  have hl : lv_has ls 3 [(0, .ref (a 0)), (1, .int s1)] := hl
  obtain ⟨H, hH⟩ : ∃ H : Heap, H = s.heap := ⟨_, rfl⟩
  obtain ⟨locs, hlocs⟩ : ∃ q : List Loc, q = [] := ⟨_, rfl⟩
  have hP : va_P D classes (gwP cy a pd) H := by rw [hH]; exact hP
  have hS : va_S A s.heap H locs := by rw [hH, hlocs]; exact hS
  suffices hg : W p l e rX0_personAt s m args below meth c H locs 0 0 (MQ below (ctQ D (some (.int R)) (gwP cy a pd) A) args s 0 0 A) (F0 m 0 ls []) by rw [hH, hlocs] at hg; exact hg
  clear hH hlocs
  unfold fX0_personAt at hF
  unfold oX0_personAt at hO
  refine lv_iload_n hx hb dX0_personAt_0 rfl (lv_at hl 1 rfl) ?_
  refine lv_if_lt (tgt := 12) hx hb dX0_personAt_1 (by decide) (fun c1 => ?_) (fun c1 => ?_)
  · have hF := lt_t c1 hF
    have hO := lo_t c1 hO
    refine lv_bipush (v := (-6)) hx hb dX0_personAt_12 (by decide) ?_
    subst hF
    exact ct_iret hM hP hS dX0_personAt_14
  · have hF := lt_f c1 hF
    have hO := lo_f c1 hO
    refine lv_iload_n hx hb dX0_personAt_4 rfl (lv_at hl 1 rfl) ?_
    refine lv_aload_n hx hb dX0_personAt_5 rfl (lv_at hl 0 rfl) ?_
    refine ct_get (C := RX0) (T := TX0) (N := 2) (ci := 0) (v := .int (p_ct pd)) hM hK hP inX0 0 rfl rfl 0 (by decide) wfl_X0_15 rfl dX0_personAt_6 ?_
    refine lv_icmp_lt (tgt := 15) hx hb dX0_personAt_9 (by decide) (fun c2 => ?_) (fun c2 => ?_)
    · have hF := lt_t c2 hF
      have hO := lo_t c2 hO
      refine lv_aload_n hx hb dX0_personAt_15 rfl (lv_at hl 0 rfl) ?_
      refine ct_get (C := RX0) (T := TX0) (N := 2) (ci := 0) (v := .ref (a 1)) hM hK hP inX0 0 rfl rfl 1 (by decide) wfl_X0_11 rfl dX0_personAt_16 ?_
      refine lv_iload_n hx hb dX0_personAt_19 rfl (lv_at hl 1 rfl) ?_
      obtain ⟨h3, hO⟩ := hO
      refine va_iald hx hb hK hP 1 0 (f := p_sg pd) (n := 40) (cA := cy 0) rfl rfl h3 dX0_personAt_20 ?_
      refine lv_bipush (v := 65) hx hb dX0_personAt_21 (by decide) ?_
      refine lv_isub hx hb dX0_personAt_23 ?_
      refine lv_topi (fun x4 e5 => ?_)
      have hF := lt_n e5.symm hF
      try have hO := lo_n e5.symm hO
      refine lv_istore_n (lv' := [(2, .int x4), (0, .ref (a 0)), (1, .int s1)]) hx hb dX0_personAt_24 rfl hl (by decide) rfl (fun ls hl => ?_)
      refine lv_iload_n hx hb dX0_personAt_25 rfl (lv_at hl 0 rfl) ?_
      refine lv_if_lt (tgt := 39) hx hb dX0_personAt_26 (by decide) (fun c6 => ?_) (fun c6 => ?_)
      · have hF := lt_t c6 hF
        refine lv_bipush (v := (-6)) hx hb dX0_personAt_39 (by decide) ?_
        subst hF
        exact ct_iret hM hP hS dX0_personAt_41
      · have hF := lt_f c6 hF
        refine lv_iload_n hx hb dX0_personAt_29 rfl (lv_at hl 0 rfl) ?_
        refine lv_bipush (v := 8) hx hb dX0_personAt_30 (by decide) ?_
        refine lv_icmp_ge (tgt := 39) hx hb dX0_personAt_32 (by decide) (fun c7 => ?_) (fun c7 => ?_)
        · have hF := lt_t c7 hF
          refine lv_bipush (v := (-6)) hx hb dX0_personAt_39 (by decide) ?_
          subst hF
          exact ct_iret hM hP hS dX0_personAt_41
        · have hF := lt_f c7 hF
          refine lv_iload_n hx hb dX0_personAt_35 rfl (lv_at hl 0 rfl) ?_
          refine lv_goto (tgt := 41) hx hb dX0_personAt_36 (by decide) ?_
          subst hF
          exact ct_iret hM hP hS dX0_personAt_41
    · have hF := lt_f c2 hF
      have hO := lo_f c2 hO
      refine lv_bipush (v := (-6)) hx hb dX0_personAt_12 (by decide) ?_
      subst hF
      exact ct_iret hM hP hS dX0_personAt_14

abbrev rX0_faultAmong : Room := { frames := 1, cells := 0, slots := 0, locals := 22 }
def fX0_faultAmong_4 (pd : tPd) : Nat → Int32 → Int32 → Int32
  | 0, s2, s3 => 0
  | n + 1, s2, s3 => if p_ct pd ≤ s3 then (-6) else (lt_ (fX0_personAt pd s3) fun q3 => if q3 = (-6) then s3 else (if ((s2 >>> (q3 &&& 31)) &&& 1) = 0 then s3 else (lt_ (s2 &&& ((1 <<< (q3 &&& 31)) ^^^ (-1))) fun x7 => lt_ (s3 + 1) fun x9 => fX0_faultAmong_4 pd n x7 x9)))
def oX0_faultAmong_4 (pd : tPd) : Nat → Int32 → Int32 → Prop
  | 0, _, _ => False
  | n + 1, s2, s3 => if p_ct pd ≤ s3 then True else (oX0_personAt pd s3 ∧ (lo_ (fX0_personAt pd s3) fun q3 => if q3 = (-6) then True else (if ((s2 >>> (q3 &&& 31)) &&& 1) = 0 then True else (lo_ (s2 &&& ((1 <<< (q3 &&& 31)) ^^^ (-1))) fun x7 => lo_ (s3 + 1) fun x9 => oX0_faultAmong_4 pd n x7 x9))))
set_option maxHeartbeats 4000000 in
set_option maxRecDepth 100000 in
theorem tX0_faultAmong_4 {p : Program} {l : Launch} {e : Env} {s : State} {m : MethodId} {args : Array Value} {below : List Frame} {meth : Method} {c : Code} {A : Nat → Prop} {D : va_G} {cy : Nat → ClassId} {a : Nat → Nat} {pd : tPd} {s1 : Int32} {R : Int32} (hM : MC p s m args meth c RX0 cX0_faultAmong 5 (some .int)) (hK : va_K D classes (ctT cy) s) :
    ∀ (n : Nat) (s2 : Int32) (s3 : Int32) (H : Heap) (locs : List Loc) (ls : Array Slot), va_P D classes (gwP cy a pd) H → va_D A (gwP cy a pd) → va_S A s.heap H locs → lv_has ls 5 [(0, .ref (a 0)), (1, .int s1), (2, .int s2), (3, .int s3)] → oX0_faultAmong_4 pd n s2 s3 → fX0_faultAmong_4 pd n s2 s3 = R → W p l e rX0_faultAmong s m args below meth c H locs 0 0 (MQ below (ctQ D (some (.int R)) (gwP cy a pd) A) args s 0 0 A) (F0 m 4 ls []) := by
  obtain ⟨hx, hb, -, hml, hown, hts, -⟩ := id hM
  intro n
  induction n with
  | zero =>
    intro s2 s3 H locs ls hP hD hS hl hO hF
    exact False.elim hO
  | succ n ih =>
    intro s2 s3 H locs ls hP hD hS hl hO hF
    rw [fX0_faultAmong_4] at hF
    rw [oX0_faultAmong_4] at hO
    refine lv_iload_n hx hb dX0_faultAmong_4 rfl (lv_at hl 3 rfl) ?_
    refine lv_aload_n hx hb dX0_faultAmong_5 rfl (lv_at hl 0 rfl) ?_
    refine ct_get (C := RX0) (T := TX0) (N := 2) (ci := 0) (v := .int (p_ct pd)) hM hK hP inX0 0 rfl rfl 0 (by decide) wfl_X0_15 rfl dX0_faultAmong_6 ?_
    refine lv_icmp_ge (tgt := 52) hx hb dX0_faultAmong_9 (by decide) (fun c1 => ?_) (fun c1 => ?_)
    · have hF := lt_t c1 hF
      have hO := lo_t c1 hO
      refine lv_bipush (v := (-6)) hx hb dX0_faultAmong_52 (by decide) ?_
      subst hF
      exact ct_iret hM hP hS dX0_faultAmong_54
    · have hF := lt_f c1 hF
      have hO := lo_f c1 hO
      refine lv_aload_n hx hb dX0_faultAmong_12 rfl (lv_at hl 0 rfl) ?_
      refine lv_iload_n hx hb dX0_faultAmong_13 rfl (lv_at hl 3 rfl) ?_
      obtain ⟨h2, hO⟩ := hO
      obtain ⟨q3, e4⟩ : ∃ q, fX0_personAt pd s3 = q := ⟨_, rfl⟩
      have hF := lt_n e4 hF
      try have hO := lo_n e4 hO
      refine ct_callV (ws' := gwP cy a pd) hM hK hP hD hS (kX0_personAt l D cy a pd s3 h2 e4) kvX0_personAt wml_X0_19 [0, 1] rfl (by decide) rfl rfl rfl 0 rfl rfl rfl rfl hl.1 rfl ⟨rfl, rfl, Nat.le_of_ble_eq_true rfl, Nat.le_of_ble_eq_true rfl⟩ (Nat.le_of_ble_eq_true rfl) ⟨Nat.zero_le _, Nat.zero_le _⟩ dX0_faultAmong_14 (fun H locs hP hD hS => ?_)
      refine W.eq (g2 := F0 m 17 ls [.int q3]) rfl ?_
      refine lv_istore (lv' := [(4, .int q3), (0, .ref (a 0)), (1, .int s1), (2, .int s2), (3, .int s3)]) hx hb dX0_faultAmong_17 hl (by decide) rfl (fun ls hl => ?_)
      refine lv_iload hx hb dX0_faultAmong_19 (lv_at hl 0 rfl) ?_
      refine lv_bipush (v := (-6)) hx hb dX0_faultAmong_21 (by decide) ?_
      refine lv_icmp_eq (tgt := 35) hx hb dX0_faultAmong_23 (by decide) (fun c5 => ?_) (fun c5 => ?_)
      · have hF := lt_t c5 hF
        have hO := lo_t c5 hO
        refine lv_iload_n hx hb dX0_faultAmong_35 rfl (lv_at hl 4 rfl) ?_
        subst hF
        exact ct_iret hM hP hS dX0_faultAmong_36
      · have hF := lt_f c5 hF
        have hO := lo_f c5 hO
        refine lv_iload_n hx hb dX0_faultAmong_26 rfl (lv_at hl 3 rfl) ?_
        refine lv_iload hx hb dX0_faultAmong_27 (lv_at hl 0 rfl) ?_
        refine lv_ishr hx hb dX0_faultAmong_29 ?_
        refine lv_iconst (v := 1) hx hb dX0_faultAmong_30 (by decide) ?_
        refine lv_iand hx hb dX0_faultAmong_31 ?_
        refine lv_if_ne (tgt := 37) hx hb dX0_faultAmong_32 (by decide) (fun c6 => ?_) (fun c6 => ?_)
        · have hF := lt_f c6 hF
          have hO := lo_f c6 hO
          refine lv_iload_n hx hb dX0_faultAmong_37 rfl (lv_at hl 3 rfl) ?_
          refine lv_iconst (v := 1) hx hb dX0_faultAmong_38 (by decide) ?_
          refine lv_iload hx hb dX0_faultAmong_39 (lv_at hl 0 rfl) ?_
          refine lv_ishl hx hb dX0_faultAmong_41 ?_
          refine lv_iconst (v := (-1)) hx hb dX0_faultAmong_42 (by decide) ?_
          refine lv_ixor hx hb dX0_faultAmong_43 ?_
          refine lv_iand hx hb dX0_faultAmong_44 ?_
          refine lv_topi (fun x7 e8 => ?_)
          have hF := lt_n e8.symm hF
          try have hO := lo_n e8.symm hO
          refine lv_istore_n (lv' := [(2, .int x7), (4, .int q3), (0, .ref (a 0)), (1, .int s1), (3, .int s3)]) hx hb dX0_faultAmong_45 rfl hl (by decide) rfl (fun ls hl => ?_)
          obtain ⟨x9, e10⟩ : ∃ y : Int32, s3 + 1 = y := ⟨_, rfl⟩
          have hF := lt_n e10 hF
          try have hO := lo_n e10 hO
          refine lv_iinc (v := x9) (lv' := [(3, .int x9), (2, .int x7), (4, .int q3), (0, .ref (a 0)), (1, .int s1)]) hx hb dX0_faultAmong_46 hl (k := 4) rfl (by rw [← e10]; rfl) (by decide) rfl (fun ls hl => ?_)
          refine lv_goto (tgt := 4) hx hb dX0_faultAmong_49 (by decide) ?_
          exact ih x7 x9 H locs ls hP hD hS (lv_sub hl [3, 4, 1, 0] rfl) hO hF
        · have hF := lt_t c6 hF
          have hO := lo_t c6 hO
          refine lv_iload_n hx hb dX0_faultAmong_35 rfl (lv_at hl 4 rfl) ?_
          subst hF
          exact ct_iret hM hP hS dX0_faultAmong_36

def fX0_faultAmong (pd : tPd) (s1 : Int32) : Int32 := fX0_faultAmong_4 pd 41 s1 0
def oX0_faultAmong (pd : tPd) (s1 : Int32) : Prop := oX0_faultAmong_4 pd 41 s1 0
theorem kvX0_faultAmong : KV yX0_faultAmong cX0_faultAmong 5 (some .int) 1 := ⟨wcd_X0_faultAmong, wim_X0_faultAmong, wsl_X0_faultAmong, win_X0, by decide +kernel, by decide +kernel, by decide +kernel⟩
set_option maxHeartbeats 4000000 in
set_option maxRecDepth 100000 in
theorem kX0_faultAmong (l : Launch) (D : va_G) (cy : Nat → ClassId) (a : Nat → Nat) (pd : tPd) (s1 : Int32) {R : Int32} (hO : oX0_faultAmong pd s1) (hF : fX0_faultAmong pd s1 = R) : CT l D cy yX0_faultAmong cX0_faultAmong 5 (some .int) rX0_faultAmong [.ref (a 0), .int s1] (gwP cy a pd) (some (.int R)) (gwP cy a pd) := by
  refine ct_of (by decide) (Nat.le_of_ble_eq_true rfl) ?_
  intro p e s m args below meth c A ls hM hK hP hD hS hl
  obtain ⟨hx, hb, -, hml, hown, hts, -⟩ := id hM
  have hl : lv_has ls 5 [(0, .ref (a 0)), (1, .int s1)] := hl
  obtain ⟨H, hH⟩ : ∃ H : Heap, H = s.heap := ⟨_, rfl⟩
  obtain ⟨locs, hlocs⟩ : ∃ q : List Loc, q = [] := ⟨_, rfl⟩
  have hP : va_P D classes (gwP cy a pd) H := by rw [hH]; exact hP
  have hS : va_S A s.heap H locs := by rw [hH, hlocs]; exact hS
  suffices hg : W p l e rX0_faultAmong s m args below meth c H locs 0 0 (MQ below (ctQ D (some (.int R)) (gwP cy a pd) A) args s 0 0 A) (F0 m 0 ls []) by rw [hH, hlocs] at hg; exact hg
  clear hH hlocs
  unfold fX0_faultAmong at hF
  unfold oX0_faultAmong at hO
  refine lv_iload_n hx hb dX0_faultAmong_0 rfl (lv_at hl 1 rfl) ?_
  refine lv_istore_n (lv' := [(2, .int s1), (0, .ref (a 0)), (1, .int s1)]) hx hb dX0_faultAmong_1 rfl hl (by decide) rfl (fun ls hl => ?_)
  refine lv_iconst (v := 0) hx hb dX0_faultAmong_2 (by decide) ?_
  refine lv_istore_n (lv' := [(3, .int 0), (2, .int s1), (0, .ref (a 0)), (1, .int s1)]) hx hb dX0_faultAmong_3 rfl hl (by decide) rfl (fun ls hl => ?_)
  exact tX0_faultAmong_4 hM hK 41 s1 0 H locs ls hP hD hS (lv_sub hl [2, 3, 1, 0] rfl) hO hF
end
section
abbrev rX1_setting : Room := { frames := 0, cells := 0, slots := 0, locals := 0 }
def fX1_setting (v : tVl) (s1 : Int32) : Int32 := if s1 < 0 then (-2) else (if 4 ≤ s1 then (-2) else ((v_se v) (Int32.toNatClampNeg s1)))
def oX1_setting (v : tVl) (s1 : Int32) : Prop := if s1 < 0 then True else (if 4 ≤ s1 then True else (vp_in s1 4 ∧ True))
theorem kvX1_setting : KV yX1_setting cX1_setting 2 (some .int) 1 := ⟨wcd_X1_setting, wim_X1_setting, wsl_X1_setting, win_X1, by decide +kernel, by decide +kernel, by decide +kernel⟩
set_option maxHeartbeats 4000000 in
set_option maxRecDepth 100000 in
theorem kX1_setting (l : Launch) (D : va_G) (cy : Nat → ClassId) (a : Nat → Nat) (v : tVl) (s1 : Int32) {R : Int32} (hO : oX1_setting v s1) (hF : fX1_setting v s1 = R) : CT l D cy yX1_setting cX1_setting 2 (some .int) rX1_setting [.ref (a 0), .int s1] (gwV cy a v) (some (.int R)) (gwV cy a v) := by
  refine ct_of (by decide) (Nat.le_of_ble_eq_true rfl) ?_
  intro p e s m args below meth c A ls hM hK hP hD hS hl
  obtain ⟨hx, hb, -, hml, hown, hts, -⟩ := id hM
  have hl : lv_has ls 2 [(0, .ref (a 0)), (1, .int s1)] := hl
  obtain ⟨H, hH⟩ : ∃ H : Heap, H = s.heap := ⟨_, rfl⟩
  obtain ⟨locs, hlocs⟩ : ∃ q : List Loc, q = [] := ⟨_, rfl⟩
  have hP : va_P D classes (gwV cy a v) H := by rw [hH]; exact hP
  have hS : va_S A s.heap H locs := by rw [hH, hlocs]; exact hS
  suffices hg : W p l e rX1_setting s m args below meth c H locs 0 0 (MQ below (ctQ D (some (.int R)) (gwV cy a v) A) args s 0 0 A) (F0 m 0 ls []) by rw [hH, hlocs] at hg; exact hg
  clear hH hlocs
  unfold fX1_setting at hF
  unfold oX1_setting at hO
  refine lv_iload_n hx hb dX1_setting_0 rfl (lv_at hl 1 rfl) ?_
  refine lv_if_lt (tgt := 18) hx hb dX1_setting_1 (by decide) (fun c1 => ?_) (fun c1 => ?_)
  · have hF := lt_t c1 hF
    have hO := lo_t c1 hO
    refine lv_bipush (v := (-2)) hx hb dX1_setting_18 (by decide) ?_
    subst hF
    exact ct_iret hM hP hS dX1_setting_20
  · have hF := lt_f c1 hF
    have hO := lo_f c1 hO
    refine lv_iload_n hx hb dX1_setting_4 rfl (lv_at hl 1 rfl) ?_
    refine lv_iconst (v := 4) hx hb dX1_setting_5 (by decide) ?_
    refine lv_icmp_ge (tgt := 18) hx hb dX1_setting_6 (by decide) (fun c2 => ?_) (fun c2 => ?_)
    · have hF := lt_t c2 hF
      have hO := lo_t c2 hO
      refine lv_bipush (v := (-2)) hx hb dX1_setting_18 (by decide) ?_
      subst hF
      exact ct_iret hM hP hS dX1_setting_20
    · have hF := lt_f c2 hF
      have hO := lo_f c2 hO
      refine lv_aload_n hx hb dX1_setting_9 rfl (lv_at hl 0 rfl) ?_
      refine ct_get (C := RX1) (T := TX1) (N := 6) (ci := 1) (v := .ref (a 5)) hM hK hP inX1 0 rfl rfl 5 (by decide) wfl_X1_25 rfl dX1_setting_10 ?_
      refine lv_iload_n hx hb dX1_setting_13 rfl (lv_at hl 1 rfl) ?_
      obtain ⟨h3, hO⟩ := hO
      refine va_iald hx hb hK hP 5 0 (f := v_se v) (n := 4) (cA := cy 0) rfl rfl h3 dX1_setting_14 ?_
      refine lv_goto (tgt := 20) hx hb dX1_setting_15 (by decide) ?_
      subst hF
      exact ct_iret hM hP hS dX1_setting_20

abbrev rX1_change : Room := { frames := 0, cells := 0, slots := 0, locals := 0 }
def fX1_change (v : tVl) (s1 : Int32) (s2 : Int32) : tVl := if s1 < 0 then v else (if 4 ≤ s1 then v else (v_mi v, v_mn v, v_pa v, v_ca v, upd (v_se v) (Int32.toNatClampNeg s1) s2, v_cm v))
def oX1_change (v : tVl) (s1 : Int32) (s2 : Int32) : Prop := if s1 < 0 then True else (if 4 ≤ s1 then True else (vp_in s1 4 ∧ True))
theorem kvX1_change : KV yX1_change cX1_change 3 none 2 := ⟨wcd_X1_change, wim_X1_change, wsl_X1_change, win_X1, by decide +kernel, by decide +kernel, by decide +kernel⟩
set_option maxHeartbeats 4000000 in
set_option maxRecDepth 100000 in
theorem kX1_change (l : Launch) (D : va_G) (cy : Nat → ClassId) (a : Nat → Nat) (v : tVl) (s1 : Int32) (s2 : Int32) {R : tVl} (hO : oX1_change v s1 s2) (hF : fX1_change v s1 s2 = R) : CT l D cy yX1_change cX1_change 3 none rX1_change [.ref (a 0), .int s1, .int s2] (gwV cy a v) none (gwV cy a R) := by
  refine ct_of (by decide) (Nat.le_of_ble_eq_true rfl) ?_
  intro p e s m args below meth c A ls hM hK hP hD hS hl
  obtain ⟨hx, hb, -, hml, hown, hts, -⟩ := id hM
  have hl : lv_has ls 3 [(0, .ref (a 0)), (1, .int s1), (2, .int s2)] := hl
  obtain ⟨H, hH⟩ : ∃ H : Heap, H = s.heap := ⟨_, rfl⟩
  obtain ⟨locs, hlocs⟩ : ∃ q : List Loc, q = [] := ⟨_, rfl⟩
  have hP : va_P D classes (gwV cy a v) H := by rw [hH]; exact hP
  have hS : va_S A s.heap H locs := by rw [hH, hlocs]; exact hS
  suffices hg : W p l e rX1_change s m args below meth c H locs 0 0 (MQ below (ctQ D none (gwV cy a R) A) args s 0 0 A) (F0 m 0 ls []) by rw [hH, hlocs] at hg; exact hg
  clear hH hlocs
  unfold fX1_change at hF
  unfold oX1_change at hO
  refine lv_iload_n hx hb dX1_change_0 rfl (lv_at hl 1 rfl) ?_
  refine lv_if_lt (tgt := 16) hx hb dX1_change_1 (by decide) (fun c1 => ?_) (fun c1 => ?_)
  · have hF := lt_t c1 hF
    have hO := lo_t c1 hO
    subst hF
    exact ct_vret hM hP hS dX1_change_16
  · have hF := lt_f c1 hF
    have hO := lo_f c1 hO
    refine lv_iload_n hx hb dX1_change_4 rfl (lv_at hl 1 rfl) ?_
    refine lv_iconst (v := 4) hx hb dX1_change_5 (by decide) ?_
    refine lv_icmp_ge (tgt := 16) hx hb dX1_change_6 (by decide) (fun c2 => ?_) (fun c2 => ?_)
    · have hF := lt_t c2 hF
      have hO := lo_t c2 hO
      subst hF
      exact ct_vret hM hP hS dX1_change_16
    · have hF := lt_f c2 hF
      have hO := lo_f c2 hO
      refine lv_aload_n hx hb dX1_change_9 rfl (lv_at hl 0 rfl) ?_
      refine ct_get (C := RX1) (T := TX1) (N := 6) (ci := 1) (v := .ref (a 5)) hM hK hP inX1 0 rfl rfl 5 (by decide) wfl_X1_25 rfl dX1_change_10 ?_
      refine lv_iload_n hx hb dX1_change_13 rfl (lv_at hl 1 rfl) ?_
      refine lv_iload_n hx hb dX1_change_14 rfl (lv_at hl 2 rfl) ?_
      obtain ⟨h3, hO⟩ := hO
      refine va_iast hx hb hK hP hD hS 5 0 (f := v_se v) (n := 4) (cA := cy 0) rfl rfl h3 dX1_change_15 (fun H locs hP hD hS => ?_)
      have hP : va_P D classes (gwV cy a (v_mi v, v_mn v, v_pa v, v_ca v, upd (v_se v) (Int32.toNatClampNeg s1) s2, v_cm v)) H := hP
      have hD : va_D A (gwV cy a (v_mi v, v_mn v, v_pa v, v_ca v, upd (v_se v) (Int32.toNatClampNeg s1) s2, v_cm v)) := hD
      subst hF
      exact ct_vret hM hP hS dX1_change_16

abbrev rX1_comes : Room := { frames := 0, cells := 0, slots := 0, locals := 0 }
def fX1_comes (v : tVl) (s1 : Int32) : Int32 := if s1 < 0 then 0 else (if 8 ≤ s1 then 0 else (if ((v_cm v >>> (s1 &&& 31)) &&& 1) = 0 then 0 else 1))
def oX1_comes (v : tVl) (s1 : Int32) : Prop := True
theorem kvX1_comes : KV yX1_comes cX1_comes 2 (some .boolean) 1 := ⟨wcd_X1_comes, wim_X1_comes, wsl_X1_comes, win_X1, by decide +kernel, by decide +kernel, by decide +kernel⟩
set_option maxHeartbeats 4000000 in
set_option maxRecDepth 100000 in
theorem kX1_comes (l : Launch) (D : va_G) (cy : Nat → ClassId) (a : Nat → Nat) (v : tVl) (s1 : Int32) {R : Int32} (hO : oX1_comes v s1) (hF : fX1_comes v s1 = R) : CT l D cy yX1_comes cX1_comes 2 (some .boolean) rX1_comes [.ref (a 0), .int s1] (gwV cy a v) (some (.int R)) (gwV cy a v) := by
  refine ct_of (by decide) (Nat.le_of_ble_eq_true rfl) ?_
  intro p e s m args below meth c A ls hM hK hP hD hS hl
  obtain ⟨hx, hb, -, hml, hown, hts, -⟩ := id hM
  have hl : lv_has ls 2 [(0, .ref (a 0)), (1, .int s1)] := hl
  obtain ⟨H, hH⟩ : ∃ H : Heap, H = s.heap := ⟨_, rfl⟩
  obtain ⟨locs, hlocs⟩ : ∃ q : List Loc, q = [] := ⟨_, rfl⟩
  have hP : va_P D classes (gwV cy a v) H := by rw [hH]; exact hP
  have hS : va_S A s.heap H locs := by rw [hH, hlocs]; exact hS
  suffices hg : W p l e rX1_comes s m args below meth c H locs 0 0 (MQ below (ctQ D (some (.int R)) (gwV cy a v) A) args s 0 0 A) (F0 m 0 ls []) by rw [hH, hlocs] at hg; exact hg
  clear hH hlocs
  unfold fX1_comes at hF
  unfold oX1_comes at hO
  refine lv_iload_n hx hb dX1_comes_0 rfl (lv_at hl 1 rfl) ?_
  refine lv_if_lt (tgt := 25) hx hb dX1_comes_1 (by decide) (fun c1 => ?_) (fun c1 => ?_)
  · have hF := lt_t c1 hF
    refine lv_iconst (v := 0) hx hb dX1_comes_25 (by decide) ?_
    subst hF
    exact ct_zret (r := 0) hM hP hS rfl dX1_comes_26
  · have hF := lt_f c1 hF
    refine lv_iload_n hx hb dX1_comes_4 rfl (lv_at hl 1 rfl) ?_
    refine lv_bipush (v := 8) hx hb dX1_comes_5 (by decide) ?_
    refine lv_icmp_ge (tgt := 25) hx hb dX1_comes_7 (by decide) (fun c2 => ?_) (fun c2 => ?_)
    · have hF := lt_t c2 hF
      refine lv_iconst (v := 0) hx hb dX1_comes_25 (by decide) ?_
      subst hF
      exact ct_zret (r := 0) hM hP hS rfl dX1_comes_26
    · have hF := lt_f c2 hF
      refine lv_aload_n hx hb dX1_comes_10 rfl (lv_at hl 0 rfl) ?_
      refine ct_get (C := RX1) (T := TX1) (N := 6) (ci := 1) (v := .int (v_cm v)) hM hK hP inX1 0 rfl rfl 4 (by decide) wfl_X1_28 rfl dX1_comes_11 ?_
      refine lv_iload_n hx hb dX1_comes_14 rfl (lv_at hl 1 rfl) ?_
      refine lv_ishr hx hb dX1_comes_15 ?_
      refine lv_iconst (v := 1) hx hb dX1_comes_16 (by decide) ?_
      refine lv_iand hx hb dX1_comes_17 ?_
      refine lv_if_eq (tgt := 25) hx hb dX1_comes_18 (by decide) (fun c3 => ?_) (fun c3 => ?_)
      · have hF := lt_t c3 hF
        refine lv_iconst (v := 0) hx hb dX1_comes_25 (by decide) ?_
        subst hF
        exact ct_zret (r := 0) hM hP hS rfl dX1_comes_26
      · have hF := lt_f c3 hF
        refine lv_iconst (v := 1) hx hb dX1_comes_21 (by decide) ?_
        refine lv_goto (tgt := 26) hx hb dX1_comes_22 (by decide) ?_
        subst hF
        exact ct_zret (r := 1) hM hP hS rfl dX1_comes_26

abbrev rX1_timeToDraw : Room := { frames := 0, cells := 0, slots := 0, locals := 0 }
def fX1_timeToDraw (v : tVl) (s1 : Int32) : Int32 := ((v_se v) (Int32.toNatClampNeg 0) * (v_pa v) (Int32.toNatClampNeg s1))
def oX1_timeToDraw (v : tVl) (s1 : Int32) : Prop := vp_in s1 8 ∧ True
theorem kvX1_timeToDraw : KV yX1_timeToDraw cX1_timeToDraw 2 (some .int) 1 := ⟨wcd_X1_timeToDraw, wim_X1_timeToDraw, wsl_X1_timeToDraw, win_X1, by decide +kernel, by decide +kernel, by decide +kernel⟩
set_option maxHeartbeats 4000000 in
set_option maxRecDepth 100000 in
theorem kX1_timeToDraw (l : Launch) (D : va_G) (cy : Nat → ClassId) (a : Nat → Nat) (v : tVl) (s1 : Int32) {R : Int32} (hO : oX1_timeToDraw v s1) (hF : fX1_timeToDraw v s1 = R) : CT l D cy yX1_timeToDraw cX1_timeToDraw 2 (some .int) rX1_timeToDraw [.ref (a 0), .int s1] (gwV cy a v) (some (.int R)) (gwV cy a v) := by
  refine ct_of (by decide) (Nat.le_of_ble_eq_true rfl) ?_
  intro p e s m args below meth c A ls hM hK hP hD hS hl
  obtain ⟨hx, hb, -, hml, hown, hts, -⟩ := id hM
  have hl : lv_has ls 2 [(0, .ref (a 0)), (1, .int s1)] := hl
  obtain ⟨H, hH⟩ : ∃ H : Heap, H = s.heap := ⟨_, rfl⟩
  obtain ⟨locs, hlocs⟩ : ∃ q : List Loc, q = [] := ⟨_, rfl⟩
  have hP : va_P D classes (gwV cy a v) H := by rw [hH]; exact hP
  have hS : va_S A s.heap H locs := by rw [hH, hlocs]; exact hS
  suffices hg : W p l e rX1_timeToDraw s m args below meth c H locs 0 0 (MQ below (ctQ D (some (.int R)) (gwV cy a v) A) args s 0 0 A) (F0 m 0 ls []) by rw [hH, hlocs] at hg; exact hg
  clear hH hlocs
  unfold fX1_timeToDraw at hF
  unfold oX1_timeToDraw at hO
  refine lv_aload_n hx hb dX1_timeToDraw_0 rfl (lv_at hl 0 rfl) ?_
  refine ct_get (C := RX1) (T := TX1) (N := 6) (ci := 1) (v := .ref (a 5)) hM hK hP inX1 0 rfl rfl 5 (by decide) wfl_X1_25 rfl dX1_timeToDraw_1 ?_
  refine lv_iconst (v := 0) hx hb dX1_timeToDraw_4 (by decide) ?_
  refine va_iald hx hb hK hP 5 0 (f := v_se v) (n := 4) (cA := cy 0) rfl rfl (show ¬ (_ ∨ _) by decide) dX1_timeToDraw_5 ?_
  refine lv_aload_n hx hb dX1_timeToDraw_6 rfl (lv_at hl 0 rfl) ?_
  refine ct_get (C := RX1) (T := TX1) (N := 6) (ci := 1) (v := .ref (a 3)) hM hK hP inX1 0 rfl rfl 2 (by decide) wfl_X1_18 rfl dX1_timeToDraw_7 ?_
  refine lv_iload_n hx hb dX1_timeToDraw_10 rfl (lv_at hl 1 rfl) ?_
  obtain ⟨h1, hO⟩ := hO
  refine va_iald hx hb hK hP 3 0 (f := v_pa v) (n := 8) (cA := cy 0) rfl rfl h1 dX1_timeToDraw_11 ?_
  refine lv_imul hx hb dX1_timeToDraw_12 ?_
  subst hF
  exact ct_iret hM hP hS dX1_timeToDraw_13

abbrev rX1_firstComing : Room := { frames := 1, cells := 0, slots := 0, locals := 21 }
def fX1_firstComing_5 (v : tVl) (s1 : Int32) : Nat → Int32 → Int32 → Int32
  | 0, s2, s3 => 0
  | n + 1, s2, s3 => if 8 ≤ s3 then s2 else (if ((s1 >>> (s3 &&& 31)) &&& 1) = 0 then (lt_ (s3 + 1) fun x3 => fX1_firstComing_5 v s1 n s2 x3) else (lt_ (if (v_mn v) (Int32.toNatClampNeg s3) < s2 then (v_mn v) (Int32.toNatClampNeg s3) else s2) fun x6 => lt_ (s3 + 1) fun x8 => fX1_firstComing_5 v s1 n x6 x8))
def oX1_firstComing_5 (v : tVl) (s1 : Int32) : Nat → Int32 → Int32 → Prop
  | 0, _, _ => False
  | n + 1, s2, s3 => if 8 ≤ s3 then True else (if ((s1 >>> (s3 &&& 31)) &&& 1) = 0 then (lo_ (s3 + 1) fun x3 => oX1_firstComing_5 v s1 n s2 x3) else (vp_in s3 8 ∧ (lo_ (if (v_mn v) (Int32.toNatClampNeg s3) < s2 then (v_mn v) (Int32.toNatClampNeg s3) else s2) fun x6 => lo_ (s3 + 1) fun x8 => oX1_firstComing_5 v s1 n x6 x8)))
set_option maxHeartbeats 4000000 in
set_option maxRecDepth 100000 in
theorem tX1_firstComing_5 {p : Program} {l : Launch} {e : Env} {s : State} {m : MethodId} {args : Array Value} {below : List Frame} {meth : Method} {c : Code} {A : Nat → Prop} {D : va_G} {cy : Nat → ClassId} {a : Nat → Nat} {v : tVl} {s1 : Int32} {R : Int32} (hM : MC p s m args meth c RX1 cX1_firstComing 4 (some .int)) (hK : va_K D classes (ctT cy) s) :
    ∀ (n : Nat) (s2 : Int32) (s3 : Int32) (H : Heap) (locs : List Loc) (ls : Array Slot), va_P D classes (gwV cy a v) H → va_D A (gwV cy a v) → va_S A s.heap H locs → lv_has ls 4 [(0, .ref (a 0)), (1, .int s1), (2, .int s2), (3, .int s3)] → oX1_firstComing_5 v s1 n s2 s3 → fX1_firstComing_5 v s1 n s2 s3 = R → W p l e rX1_firstComing s m args below meth c H locs 0 0 (MQ below (ctQ D (some (.int R)) (gwV cy a v) A) args s 0 0 A) (F0 m 5 ls []) := by
  obtain ⟨hx, hb, -, hml, hown, hts, -⟩ := id hM
  intro n
  induction n with
  | zero =>
    intro s2 s3 H locs ls hP hD hS hl hO hF
    exact False.elim hO
  | succ n ih =>
    intro s2 s3 H locs ls hP hD hS hl hO hF
    rw [fX1_firstComing_5] at hF
    rw [oX1_firstComing_5] at hO
    refine lv_iload_n hx hb dX1_firstComing_5 rfl (lv_at hl 3 rfl) ?_
    refine lv_bipush (v := 8) hx hb dX1_firstComing_6 (by decide) ?_
    refine lv_icmp_ge (tgt := 36) hx hb dX1_firstComing_8 (by decide) (fun c1 => ?_) (fun c1 => ?_)
    · have hF := lt_t c1 hF
      have hO := lo_t c1 hO
      refine lv_iload_n hx hb dX1_firstComing_36 rfl (lv_at hl 2 rfl) ?_
      subst hF
      exact ct_iret hM hP hS dX1_firstComing_37
    · have hF := lt_f c1 hF
      have hO := lo_f c1 hO
      refine lv_iload_n hx hb dX1_firstComing_11 rfl (lv_at hl 1 rfl) ?_
      refine lv_iload_n hx hb dX1_firstComing_12 rfl (lv_at hl 3 rfl) ?_
      refine lv_ishr hx hb dX1_firstComing_13 ?_
      refine lv_iconst (v := 1) hx hb dX1_firstComing_14 (by decide) ?_
      refine lv_iand hx hb dX1_firstComing_15 ?_
      refine lv_if_eq (tgt := 30) hx hb dX1_firstComing_16 (by decide) (fun c2 => ?_) (fun c2 => ?_)
      · have hF := lt_t c2 hF
        have hO := lo_t c2 hO
        obtain ⟨x3, e4⟩ : ∃ y : Int32, s3 + 1 = y := ⟨_, rfl⟩
        have hF := lt_n e4 hF
        try have hO := lo_n e4 hO
        refine lv_iinc (v := x3) (lv' := [(3, .int x3), (0, .ref (a 0)), (1, .int s1), (2, .int s2)]) hx hb dX1_firstComing_30 hl (k := 3) rfl (by rw [← e4]; rfl) (by decide) rfl (fun ls hl => ?_)
        refine lv_goto (tgt := 5) hx hb dX1_firstComing_33 (by decide) ?_
        exact ih s2 x3 H locs ls hP hD hS (lv_sub hl [1, 2, 3, 0] rfl) hO hF
      · have hF := lt_f c2 hF
        have hO := lo_f c2 hO
        refine lv_iload_n hx hb dX1_firstComing_19 rfl (lv_at hl 2 rfl) ?_
        refine lv_aload_n hx hb dX1_firstComing_20 rfl (lv_at hl 0 rfl) ?_
        refine ct_get (C := RX1) (T := TX1) (N := 6) (ci := 1) (v := .ref (a 2)) hM hK hP inX1 0 rfl rfl 1 (by decide) wfl_X1_15 rfl dX1_firstComing_21 ?_
        refine lv_iload_n hx hb dX1_firstComing_24 rfl (lv_at hl 3 rfl) ?_
        obtain ⟨h5, hO⟩ := hO
        refine va_iald hx hb hK hP 2 0 (f := v_mn v) (n := 8) (cA := cy 0) rfl rfl h5 dX1_firstComing_25 ?_
        refine ct_min hM hl.1 wml_X1_35 ⟨Nat.le_of_ble_eq_true rfl, Nat.le_of_ble_eq_true rfl⟩ ⟨Nat.zero_le _, Nat.zero_le _⟩ dX1_firstComing_26 ?_
        refine lv_topi (fun x6 e7 => ?_)
        have hF := lt_n e7.symm hF
        try have hO := lo_n e7.symm hO
        refine lv_istore_n (lv' := [(2, .int x6), (0, .ref (a 0)), (1, .int s1), (3, .int s3)]) hx hb dX1_firstComing_29 rfl hl (by decide) rfl (fun ls hl => ?_)
        obtain ⟨x8, e9⟩ : ∃ y : Int32, s3 + 1 = y := ⟨_, rfl⟩
        have hF := lt_n e9 hF
        try have hO := lo_n e9 hO
        refine lv_iinc (v := x8) (lv' := [(3, .int x8), (2, .int x6), (0, .ref (a 0)), (1, .int s1)]) hx hb dX1_firstComing_30 hl (k := 3) rfl (by rw [← e9]; rfl) (by decide) rfl (fun ls hl => ?_)
        refine lv_goto (tgt := 5) hx hb dX1_firstComing_33 (by decide) ?_
        exact ih x6 x8 H locs ls hP hD hS (lv_sub hl [2, 3, 1, 0] rfl) hO hF

def fX1_firstComing (v : tVl) (s1 : Int32) : Int32 := fX1_firstComing_5 v s1 9 2147483647 0
def oX1_firstComing (v : tVl) (s1 : Int32) : Prop := oX1_firstComing_5 v s1 9 2147483647 0
theorem kvX1_firstComing : KV yX1_firstComing cX1_firstComing 4 (some .int) 1 := ⟨wcd_X1_firstComing, wim_X1_firstComing, wsl_X1_firstComing, win_X1, by decide +kernel, by decide +kernel, by decide +kernel⟩
set_option maxHeartbeats 4000000 in
set_option maxRecDepth 100000 in
theorem kX1_firstComing (l : Launch) (D : va_G) (cy : Nat → ClassId) (a : Nat → Nat) (v : tVl) (s1 : Int32) {R : Int32} (hO : oX1_firstComing v s1) (hF : fX1_firstComing v s1 = R) : CT l D cy yX1_firstComing cX1_firstComing 4 (some .int) rX1_firstComing [.ref (a 0), .int s1] (gwV cy a v) (some (.int R)) (gwV cy a v) := by
  refine ct_of (by decide) (Nat.le_of_ble_eq_true rfl) ?_
  intro p e s m args below meth c A ls hM hK hP hD hS hl
  obtain ⟨hx, hb, -, hml, hown, hts, -⟩ := id hM
  have hl : lv_has ls 4 [(0, .ref (a 0)), (1, .int s1)] := hl
  obtain ⟨H, hH⟩ : ∃ H : Heap, H = s.heap := ⟨_, rfl⟩
  obtain ⟨locs, hlocs⟩ : ∃ q : List Loc, q = [] := ⟨_, rfl⟩
  have hP : va_P D classes (gwV cy a v) H := by rw [hH]; exact hP
  have hS : va_S A s.heap H locs := by rw [hH, hlocs]; exact hS
  suffices hg : W p l e rX1_firstComing s m args below meth c H locs 0 0 (MQ below (ctQ D (some (.int R)) (gwV cy a v) A) args s 0 0 A) (F0 m 0 ls []) by rw [hH, hlocs] at hg; exact hg
  clear hH hlocs
  unfold fX1_firstComing at hF
  unfold oX1_firstComing at hO
  refine lv_ldc (v := 2147483647) hx hb hown (hts _ wct_X1_34) dX1_firstComing_0 ?_
  refine lv_istore_n (lv' := [(2, .int 2147483647), (0, .ref (a 0)), (1, .int s1)]) hx hb dX1_firstComing_2 rfl hl (by decide) rfl (fun ls hl => ?_)
  refine lv_iconst (v := 0) hx hb dX1_firstComing_3 (by decide) ?_
  refine lv_istore_n (lv' := [(3, .int 0), (2, .int 2147483647), (0, .ref (a 0)), (1, .int s1)]) hx hb dX1_firstComing_4 rfl hl (by decide) rfl (fun ls hl => ?_)
  exact tX1_firstComing_5 hM hK 9 2147483647 0 H locs ls hP hD hS (lv_sub hl [2, 3, 1, 0] rfl) hO hF

abbrev rX1_claimAt : Room := { frames := 0, cells := 0, slots := 0, locals := 0 }
def fX1_claimAt (v : tVl) (s1 : Int32) (s2 : Int32) : Int32 := if (v_se v) (Int32.toNatClampNeg 3) = 1 then (if (v_ca v) (Int32.toNatClampNeg s2) = 0 then (lt_ ((v_mi v) (Int32.toNatClampNeg s2)) fun x7 => (((v_se v) (Int32.toNatClampNeg 1) * x7) + ((v_se v) (Int32.toNatClampNeg 2) * (s1 - (v_mn v) (Int32.toNatClampNeg s2))))) else (lt_ ((v_mi v) (Int32.toNatClampNeg s2) / 2) fun x9 => (((v_se v) (Int32.toNatClampNeg 1) * x9) + ((v_se v) (Int32.toNatClampNeg 2) * (s1 - (v_mn v) (Int32.toNatClampNeg s2)))))) else (lt_ ((v_mi v) (Int32.toNatClampNeg s2)) fun x3 => (((v_se v) (Int32.toNatClampNeg 1) * x3) + ((v_se v) (Int32.toNatClampNeg 2) * (s1 - (v_mn v) (Int32.toNatClampNeg s2)))))
def oX1_claimAt (v : tVl) (s1 : Int32) (s2 : Int32) : Prop := if (v_se v) (Int32.toNatClampNeg 3) = 1 then (vp_in s2 8 ∧ True) else (vp_in s2 8 ∧ True)
theorem kvX1_claimAt : KV yX1_claimAt cX1_claimAt 5 (some .int) 2 := ⟨wcd_X1_claimAt, wim_X1_claimAt, wsl_X1_claimAt, win_X1, by decide +kernel, by decide +kernel, by decide +kernel⟩
set_option maxHeartbeats 4000000 in
set_option maxRecDepth 100000 in
theorem kX1_claimAt (l : Launch) (D : va_G) (cy : Nat → ClassId) (a : Nat → Nat) (v : tVl) (s1 : Int32) (s2 : Int32) {R : Int32} (hO : oX1_claimAt v s1 s2) (hF : fX1_claimAt v s1 s2 = R) : CT l D cy yX1_claimAt cX1_claimAt 5 (some .int) rX1_claimAt [.ref (a 0), .int s1, .int s2] (gwV cy a v) (some (.int R)) (gwV cy a v) := by
  refine ct_of (by decide) (Nat.le_of_ble_eq_true rfl) ?_
  intro p e s m args below meth c A ls hM hK hP hD hS hl
  obtain ⟨hx, hb, -, hml, hown, hts, -⟩ := id hM
  have hl : lv_has ls 5 [(0, .ref (a 0)), (1, .int s1), (2, .int s2)] := hl
  obtain ⟨H, hH⟩ : ∃ H : Heap, H = s.heap := ⟨_, rfl⟩
  obtain ⟨locs, hlocs⟩ : ∃ q : List Loc, q = [] := ⟨_, rfl⟩
  have hP : va_P D classes (gwV cy a v) H := by rw [hH]; exact hP
  have hS : va_S A s.heap H locs := by rw [hH, hlocs]; exact hS
  suffices hg : W p l e rX1_claimAt s m args below meth c H locs 0 0 (MQ below (ctQ D (some (.int R)) (gwV cy a v) A) args s 0 0 A) (F0 m 0 ls []) by rw [hH, hlocs] at hg; exact hg
  clear hH hlocs
  unfold fX1_claimAt at hF
  unfold oX1_claimAt at hO
  refine lv_aload_n hx hb dX1_claimAt_0 rfl (lv_at hl 0 rfl) ?_
  refine ct_get (C := RX1) (T := TX1) (N := 6) (ci := 1) (v := .ref (a 5)) hM hK hP inX1 0 rfl rfl 5 (by decide) wfl_X1_25 rfl dX1_claimAt_1 ?_
  refine lv_iconst (v := 3) hx hb dX1_claimAt_4 (by decide) ?_
  refine va_iald hx hb hK hP 5 0 (f := v_se v) (n := 4) (cA := cy 0) rfl rfl (show ¬ (_ ∨ _) by decide) dX1_claimAt_5 ?_
  refine lv_iconst (v := 1) hx hb dX1_claimAt_6 (by decide) ?_
  refine lv_icmp_ne (tgt := 23) hx hb dX1_claimAt_7 (by decide) (fun c1 => ?_) (fun c1 => ?_)
  · have hF := lt_f c1 hF
    have hO := lo_f c1 hO
    refine lv_iconst (v := 0) hx hb dX1_claimAt_23 (by decide) ?_
    refine lv_istore_n (lv' := [(3, .int 0), (0, .ref (a 0)), (1, .int s1), (2, .int s2)]) hx hb dX1_claimAt_24 rfl hl (by decide) rfl (fun ls hl => ?_)
    refine lv_iload_n hx hb dX1_claimAt_25 rfl (lv_at hl 0 rfl) ?_
    refine lv_if_eq (tgt := 40) hx hb dX1_claimAt_26 (by decide) (fun _ => ?_) (fun z => absurd (by decide) z)
    refine lv_aload_n hx hb dX1_claimAt_40 rfl (lv_at hl 1 rfl) ?_
    refine ct_get (C := RX1) (T := TX1) (N := 6) (ci := 1) (v := .ref (a 1)) hM hK hP inX1 0 rfl rfl 0 (by decide) wfl_X1_9 rfl dX1_claimAt_41 ?_
    refine lv_iload_n hx hb dX1_claimAt_44 rfl (lv_at hl 3 rfl) ?_
    obtain ⟨h2, hO⟩ := hO
    refine va_iald hx hb hK hP 1 0 (f := v_mi v) (n := 8) (cA := cy 0) rfl rfl h2 dX1_claimAt_45 ?_
    refine lv_topi (fun x3 e4 => ?_)
    have hF := lt_n e4.symm hF
    try have hO := lo_n e4.symm hO
    refine lv_istore (lv' := [(4, .int x3), (3, .int 0), (0, .ref (a 0)), (1, .int s1), (2, .int s2)]) hx hb dX1_claimAt_46 hl (by decide) rfl (fun ls hl => ?_)
    refine lv_aload_n hx hb dX1_claimAt_48 rfl (lv_at hl 2 rfl) ?_
    refine ct_get (C := RX1) (T := TX1) (N := 6) (ci := 1) (v := .ref (a 5)) hM hK hP inX1 0 rfl rfl 5 (by decide) wfl_X1_25 rfl dX1_claimAt_49 ?_
    refine lv_iconst (v := 1) hx hb dX1_claimAt_52 (by decide) ?_
    refine va_iald hx hb hK hP 5 0 (f := v_se v) (n := 4) (cA := cy 0) rfl rfl (show ¬ (_ ∨ _) by decide) dX1_claimAt_53 ?_
    refine lv_iload hx hb dX1_claimAt_54 (lv_at hl 0 rfl) ?_
    refine lv_imul hx hb dX1_claimAt_56 ?_
    refine lv_aload_n hx hb dX1_claimAt_57 rfl (lv_at hl 2 rfl) ?_
    refine ct_get (C := RX1) (T := TX1) (N := 6) (ci := 1) (v := .ref (a 5)) hM hK hP inX1 0 rfl rfl 5 (by decide) wfl_X1_25 rfl dX1_claimAt_58 ?_
    refine lv_iconst (v := 2) hx hb dX1_claimAt_61 (by decide) ?_
    refine va_iald hx hb hK hP 5 0 (f := v_se v) (n := 4) (cA := cy 0) rfl rfl (show ¬ (_ ∨ _) by decide) dX1_claimAt_62 ?_
    refine lv_iload_n hx hb dX1_claimAt_63 rfl (lv_at hl 3 rfl) ?_
    refine lv_aload_n hx hb dX1_claimAt_64 rfl (lv_at hl 2 rfl) ?_
    refine ct_get (C := RX1) (T := TX1) (N := 6) (ci := 1) (v := .ref (a 2)) hM hK hP inX1 0 rfl rfl 1 (by decide) wfl_X1_15 rfl dX1_claimAt_65 ?_
    refine lv_iload_n hx hb dX1_claimAt_68 rfl (lv_at hl 4 rfl) ?_
    refine va_iald hx hb hK hP 2 0 (f := v_mn v) (n := 8) (cA := cy 0) rfl rfl h2 dX1_claimAt_69 ?_
    refine lv_isub hx hb dX1_claimAt_70 ?_
    refine lv_imul hx hb dX1_claimAt_71 ?_
    refine lv_iadd hx hb dX1_claimAt_72 ?_
    subst hF
    exact ct_iret hM hP hS dX1_claimAt_73
  · have hF := lt_t c1 hF
    have hO := lo_t c1 hO
    refine lv_aload_n hx hb dX1_claimAt_10 rfl (lv_at hl 0 rfl) ?_
    refine ct_get (C := RX1) (T := TX1) (N := 6) (ci := 1) (v := .ref (a 4)) hM hK hP inX1 0 rfl rfl 3 (by decide) wfl_X1_21 rfl dX1_claimAt_11 ?_
    refine lv_iload_n hx hb dX1_claimAt_14 rfl (lv_at hl 2 rfl) ?_
    obtain ⟨h5, hO⟩ := hO
    refine va_zald hx hb hK hP 4 1 (f := v_ca v) (n := 8) (cA := cy 1) rfl rfl h5 dX1_claimAt_15 ?_
    refine lv_if_eq (tgt := 23) hx hb dX1_claimAt_16 (by decide) (fun c6 => ?_) (fun c6 => ?_)
    · have hF := lt_t c6 hF
      refine lv_iconst (v := 0) hx hb dX1_claimAt_23 (by decide) ?_
      refine lv_istore_n (lv' := [(3, .int 0), (0, .ref (a 0)), (1, .int s1), (2, .int s2)]) hx hb dX1_claimAt_24 rfl hl (by decide) rfl (fun ls hl => ?_)
      refine lv_iload_n hx hb dX1_claimAt_25 rfl (lv_at hl 0 rfl) ?_
      refine lv_if_eq (tgt := 40) hx hb dX1_claimAt_26 (by decide) (fun _ => ?_) (fun z => absurd (by decide) z)
      refine lv_aload_n hx hb dX1_claimAt_40 rfl (lv_at hl 1 rfl) ?_
      refine ct_get (C := RX1) (T := TX1) (N := 6) (ci := 1) (v := .ref (a 1)) hM hK hP inX1 0 rfl rfl 0 (by decide) wfl_X1_9 rfl dX1_claimAt_41 ?_
      refine lv_iload_n hx hb dX1_claimAt_44 rfl (lv_at hl 3 rfl) ?_
      refine va_iald hx hb hK hP 1 0 (f := v_mi v) (n := 8) (cA := cy 0) rfl rfl h5 dX1_claimAt_45 ?_
      refine lv_topi (fun x7 e8 => ?_)
      have hF := lt_n e8.symm hF
      try have hO := lo_n e8.symm hO
      refine lv_istore (lv' := [(4, .int x7), (3, .int 0), (0, .ref (a 0)), (1, .int s1), (2, .int s2)]) hx hb dX1_claimAt_46 hl (by decide) rfl (fun ls hl => ?_)
      refine lv_aload_n hx hb dX1_claimAt_48 rfl (lv_at hl 2 rfl) ?_
      refine ct_get (C := RX1) (T := TX1) (N := 6) (ci := 1) (v := .ref (a 5)) hM hK hP inX1 0 rfl rfl 5 (by decide) wfl_X1_25 rfl dX1_claimAt_49 ?_
      refine lv_iconst (v := 1) hx hb dX1_claimAt_52 (by decide) ?_
      refine va_iald hx hb hK hP 5 0 (f := v_se v) (n := 4) (cA := cy 0) rfl rfl (show ¬ (_ ∨ _) by decide) dX1_claimAt_53 ?_
      refine lv_iload hx hb dX1_claimAt_54 (lv_at hl 0 rfl) ?_
      refine lv_imul hx hb dX1_claimAt_56 ?_
      refine lv_aload_n hx hb dX1_claimAt_57 rfl (lv_at hl 2 rfl) ?_
      refine ct_get (C := RX1) (T := TX1) (N := 6) (ci := 1) (v := .ref (a 5)) hM hK hP inX1 0 rfl rfl 5 (by decide) wfl_X1_25 rfl dX1_claimAt_58 ?_
      refine lv_iconst (v := 2) hx hb dX1_claimAt_61 (by decide) ?_
      refine va_iald hx hb hK hP 5 0 (f := v_se v) (n := 4) (cA := cy 0) rfl rfl (show ¬ (_ ∨ _) by decide) dX1_claimAt_62 ?_
      refine lv_iload_n hx hb dX1_claimAt_63 rfl (lv_at hl 3 rfl) ?_
      refine lv_aload_n hx hb dX1_claimAt_64 rfl (lv_at hl 2 rfl) ?_
      refine ct_get (C := RX1) (T := TX1) (N := 6) (ci := 1) (v := .ref (a 2)) hM hK hP inX1 0 rfl rfl 1 (by decide) wfl_X1_15 rfl dX1_claimAt_65 ?_
      refine lv_iload_n hx hb dX1_claimAt_68 rfl (lv_at hl 4 rfl) ?_
      refine va_iald hx hb hK hP 2 0 (f := v_mn v) (n := 8) (cA := cy 0) rfl rfl h5 dX1_claimAt_69 ?_
      refine lv_isub hx hb dX1_claimAt_70 ?_
      refine lv_imul hx hb dX1_claimAt_71 ?_
      refine lv_iadd hx hb dX1_claimAt_72 ?_
      subst hF
      exact ct_iret hM hP hS dX1_claimAt_73
    · have hF := lt_f c6 hF
      refine lv_iconst (v := 1) hx hb dX1_claimAt_19 (by decide) ?_
      refine lv_goto (tgt := 24) hx hb dX1_claimAt_20 (by decide) ?_
      refine lv_istore_n (lv' := [(3, .int 1), (0, .ref (a 0)), (1, .int s1), (2, .int s2)]) hx hb dX1_claimAt_24 rfl hl (by decide) rfl (fun ls hl => ?_)
      refine lv_iload_n hx hb dX1_claimAt_25 rfl (lv_at hl 0 rfl) ?_
      refine lv_if_eq (tgt := 40) hx hb dX1_claimAt_26 (by decide) (fun z => absurd z (by decide)) (fun _ => ?_)
      refine lv_aload_n hx hb dX1_claimAt_29 rfl (lv_at hl 1 rfl) ?_
      refine ct_get (C := RX1) (T := TX1) (N := 6) (ci := 1) (v := .ref (a 1)) hM hK hP inX1 0 rfl rfl 0 (by decide) wfl_X1_9 rfl dX1_claimAt_30 ?_
      refine lv_iload_n hx hb dX1_claimAt_33 rfl (lv_at hl 3 rfl) ?_
      refine va_iald hx hb hK hP 1 0 (f := v_mi v) (n := 8) (cA := cy 0) rfl rfl h5 dX1_claimAt_34 ?_
      refine lv_iconst (v := 2) hx hb dX1_claimAt_35 (by decide) ?_
      refine lv_idiv hx hb dX1_claimAt_36 (by decide) ?_
      refine lv_goto (tgt := 46) hx hb dX1_claimAt_37 (by decide) ?_
      refine lv_topi (fun x9 e10 => ?_)
      have hF := lt_n e10.symm hF
      try have hO := lo_n e10.symm hO
      refine lv_istore (lv' := [(4, .int x9), (3, .int 1), (0, .ref (a 0)), (1, .int s1), (2, .int s2)]) hx hb dX1_claimAt_46 hl (by decide) rfl (fun ls hl => ?_)
      refine lv_aload_n hx hb dX1_claimAt_48 rfl (lv_at hl 2 rfl) ?_
      refine ct_get (C := RX1) (T := TX1) (N := 6) (ci := 1) (v := .ref (a 5)) hM hK hP inX1 0 rfl rfl 5 (by decide) wfl_X1_25 rfl dX1_claimAt_49 ?_
      refine lv_iconst (v := 1) hx hb dX1_claimAt_52 (by decide) ?_
      refine va_iald hx hb hK hP 5 0 (f := v_se v) (n := 4) (cA := cy 0) rfl rfl (show ¬ (_ ∨ _) by decide) dX1_claimAt_53 ?_
      refine lv_iload hx hb dX1_claimAt_54 (lv_at hl 0 rfl) ?_
      refine lv_imul hx hb dX1_claimAt_56 ?_
      refine lv_aload_n hx hb dX1_claimAt_57 rfl (lv_at hl 2 rfl) ?_
      refine ct_get (C := RX1) (T := TX1) (N := 6) (ci := 1) (v := .ref (a 5)) hM hK hP inX1 0 rfl rfl 5 (by decide) wfl_X1_25 rfl dX1_claimAt_58 ?_
      refine lv_iconst (v := 2) hx hb dX1_claimAt_61 (by decide) ?_
      refine va_iald hx hb hK hP 5 0 (f := v_se v) (n := 4) (cA := cy 0) rfl rfl (show ¬ (_ ∨ _) by decide) dX1_claimAt_62 ?_
      refine lv_iload_n hx hb dX1_claimAt_63 rfl (lv_at hl 3 rfl) ?_
      refine lv_aload_n hx hb dX1_claimAt_64 rfl (lv_at hl 2 rfl) ?_
      refine ct_get (C := RX1) (T := TX1) (N := 6) (ci := 1) (v := .ref (a 2)) hM hK hP inX1 0 rfl rfl 1 (by decide) wfl_X1_15 rfl dX1_claimAt_65 ?_
      refine lv_iload_n hx hb dX1_claimAt_68 rfl (lv_at hl 4 rfl) ?_
      refine va_iald hx hb hK hP 2 0 (f := v_mn v) (n := 8) (cA := cy 0) rfl rfl h5 dX1_claimAt_69 ?_
      refine lv_isub hx hb dX1_claimAt_70 ?_
      refine lv_imul hx hb dX1_claimAt_71 ?_
      refine lv_iadd hx hb dX1_claimAt_72 ?_
      subst hF
      exact ct_iret hM hP hS dX1_claimAt_73

abbrev rX1_goesBefore : Room := { frames := 1, cells := 0, slots := 0, locals := 24 }
def fX1_goesBefore (v : tVl) (s1 : Int32) (s2 : Int32) (s3 : Int32) : Int32 := lt_ (fX1_claimAt v s3 s1) fun q2 => lt_ (fX1_claimAt v s3 s2) fun q5 => if q2 = q5 then (if (v_mn v) (Int32.toNatClampNeg s1) = (v_mn v) (Int32.toNatClampNeg s2) then (if s2 ≤ s1 then 0 else 1) else (if (v_mn v) (Int32.toNatClampNeg s2) ≤ (v_mn v) (Int32.toNatClampNeg s1) then 0 else 1)) else (if q2 ≤ q5 then 0 else 1)
def oX1_goesBefore (v : tVl) (s1 : Int32) (s2 : Int32) (s3 : Int32) : Prop := oX1_claimAt v s3 s1 ∧ (lo_ (fX1_claimAt v s3 s1) fun q2 => oX1_claimAt v s3 s2 ∧ (lo_ (fX1_claimAt v s3 s2) fun q5 => if q2 = q5 then (vp_in s1 8 ∧ vp_in s2 8 ∧ True) else True))
theorem kvX1_goesBefore : KV yX1_goesBefore cX1_goesBefore 6 (some .boolean) 3 := ⟨wcd_X1_goesBefore, wim_X1_goesBefore, wsl_X1_goesBefore, win_X1, by decide +kernel, by decide +kernel, by decide +kernel⟩
set_option maxHeartbeats 4000000 in
set_option maxRecDepth 100000 in
theorem kX1_goesBefore (l : Launch) (D : va_G) (cy : Nat → ClassId) (a : Nat → Nat) (v : tVl) (s1 : Int32) (s2 : Int32) (s3 : Int32) {R : Int32} (hO : oX1_goesBefore v s1 s2 s3) (hF : fX1_goesBefore v s1 s2 s3 = R) : CT l D cy yX1_goesBefore cX1_goesBefore 6 (some .boolean) rX1_goesBefore [.ref (a 0), .int s1, .int s2, .int s3] (gwV cy a v) (some (.int R)) (gwV cy a v) := by
  refine ct_of (by decide) (Nat.le_of_ble_eq_true rfl) ?_
  intro p e s m args below meth c A ls hM hK hP hD hS hl
  obtain ⟨hx, hb, -, hml, hown, hts, -⟩ := id hM
  have hl : lv_has ls 6 [(0, .ref (a 0)), (1, .int s1), (2, .int s2), (3, .int s3)] := hl
  obtain ⟨H, hH⟩ : ∃ H : Heap, H = s.heap := ⟨_, rfl⟩
  obtain ⟨locs, hlocs⟩ : ∃ q : List Loc, q = [] := ⟨_, rfl⟩
  have hP : va_P D classes (gwV cy a v) H := by rw [hH]; exact hP
  have hS : va_S A s.heap H locs := by rw [hH, hlocs]; exact hS
  suffices hg : W p l e rX1_goesBefore s m args below meth c H locs 0 0 (MQ below (ctQ D (some (.int R)) (gwV cy a v) A) args s 0 0 A) (F0 m 0 ls []) by rw [hH, hlocs] at hg; exact hg
  clear hH hlocs
  unfold fX1_goesBefore at hF
  unfold oX1_goesBefore at hO
  refine lv_aload_n hx hb dX1_goesBefore_0 rfl (lv_at hl 0 rfl) ?_
  refine lv_iload_n hx hb dX1_goesBefore_1 rfl (lv_at hl 3 rfl) ?_
  refine lv_iload_n hx hb dX1_goesBefore_2 rfl (lv_at hl 1 rfl) ?_
  obtain ⟨h1, hO⟩ := hO
  obtain ⟨q2, e3⟩ : ∃ q, fX1_claimAt v s3 s1 = q := ⟨_, rfl⟩
  have hF := lt_n e3 hF
  try have hO := lo_n e3 hO
  refine ct_callV (ws' := gwV cy a v) hM hK hP hD hS (kX1_claimAt l D cy a v s3 s1 h1 e3) kvX1_claimAt wml_X1_45 [0, 1, 2, 3, 4, 5] rfl (by decide) rfl rfl rfl 0 rfl rfl rfl rfl hl.1 rfl ⟨rfl, rfl, Nat.le_of_ble_eq_true rfl, Nat.le_of_ble_eq_true rfl⟩ (Nat.le_of_ble_eq_true rfl) ⟨Nat.zero_le _, Nat.zero_le _⟩ dX1_goesBefore_3 (fun H locs hP hD hS => ?_)
  refine W.eq (g2 := F0 m 6 ls [.int q2]) rfl ?_
  refine lv_istore (lv' := [(4, .int q2), (0, .ref (a 0)), (1, .int s1), (2, .int s2), (3, .int s3)]) hx hb dX1_goesBefore_6 hl (by decide) rfl (fun ls hl => ?_)
  refine lv_aload_n hx hb dX1_goesBefore_8 rfl (lv_at hl 1 rfl) ?_
  refine lv_iload_n hx hb dX1_goesBefore_9 rfl (lv_at hl 4 rfl) ?_
  refine lv_iload_n hx hb dX1_goesBefore_10 rfl (lv_at hl 3 rfl) ?_
  obtain ⟨h4, hO⟩ := hO
  obtain ⟨q5, e6⟩ : ∃ q, fX1_claimAt v s3 s2 = q := ⟨_, rfl⟩
  have hF := lt_n e6 hF
  try have hO := lo_n e6 hO
  refine ct_callV (ws' := gwV cy a v) hM hK hP hD hS (kX1_claimAt l D cy a v s3 s2 h4 e6) kvX1_claimAt wml_X1_45 [0, 1, 2, 3, 4, 5] rfl (by decide) rfl rfl rfl 0 rfl rfl rfl rfl hl.1 rfl ⟨rfl, rfl, Nat.le_of_ble_eq_true rfl, Nat.le_of_ble_eq_true rfl⟩ (Nat.le_of_ble_eq_true rfl) ⟨Nat.zero_le _, Nat.zero_le _⟩ dX1_goesBefore_11 (fun H locs hP hD hS => ?_)
  refine W.eq (g2 := F0 m 14 ls [.int q5]) rfl ?_
  refine lv_istore (lv' := [(5, .int q5), (4, .int q2), (0, .ref (a 0)), (1, .int s1), (2, .int s2), (3, .int s3)]) hx hb dX1_goesBefore_14 hl (by decide) rfl (fun ls hl => ?_)
  refine lv_iload hx hb dX1_goesBefore_16 (lv_at hl 1 rfl) ?_
  refine lv_iload hx hb dX1_goesBefore_18 (lv_at hl 0 rfl) ?_
  refine lv_icmp_eq (tgt := 36) hx hb dX1_goesBefore_20 (by decide) (fun c7 => ?_) (fun c7 => ?_)
  · have hF := lt_t c7 hF
    have hO := lo_t c7 hO
    refine lv_aload_n hx hb dX1_goesBefore_36 rfl (lv_at hl 2 rfl) ?_
    refine ct_get (C := RX1) (T := TX1) (N := 6) (ci := 1) (v := .ref (a 2)) hM hK hP inX1 0 rfl rfl 1 (by decide) wfl_X1_15 rfl dX1_goesBefore_37 ?_
    refine lv_iload_n hx hb dX1_goesBefore_40 rfl (lv_at hl 3 rfl) ?_
    obtain ⟨h8, hO⟩ := hO
    refine va_iald hx hb hK hP 2 0 (f := v_mn v) (n := 8) (cA := cy 0) rfl rfl h8 dX1_goesBefore_41 ?_
    refine lv_aload_n hx hb dX1_goesBefore_42 rfl (lv_at hl 2 rfl) ?_
    refine ct_get (C := RX1) (T := TX1) (N := 6) (ci := 1) (v := .ref (a 2)) hM hK hP inX1 0 rfl rfl 1 (by decide) wfl_X1_15 rfl dX1_goesBefore_43 ?_
    refine lv_iload_n hx hb dX1_goesBefore_46 rfl (lv_at hl 4 rfl) ?_
    obtain ⟨h9, hO⟩ := hO
    refine va_iald hx hb hK hP 2 0 (f := v_mn v) (n := 8) (cA := cy 0) rfl rfl h9 dX1_goesBefore_47 ?_
    refine lv_icmp_eq (tgt := 72) hx hb dX1_goesBefore_48 (by decide) (fun c10 => ?_) (fun c10 => ?_)
    · have hF := lt_t c10 hF
      refine lv_iload_n hx hb dX1_goesBefore_72 rfl (lv_at hl 3 rfl) ?_
      refine lv_iload_n hx hb dX1_goesBefore_73 rfl (lv_at hl 4 rfl) ?_
      refine lv_icmp_ge (tgt := 81) hx hb dX1_goesBefore_74 (by decide) (fun c11 => ?_) (fun c11 => ?_)
      · have hF := lt_t c11 hF
        refine lv_iconst (v := 0) hx hb dX1_goesBefore_81 (by decide) ?_
        subst hF
        exact ct_zret (r := 0) hM hP hS rfl dX1_goesBefore_82
      · have hF := lt_f c11 hF
        refine lv_iconst (v := 1) hx hb dX1_goesBefore_77 (by decide) ?_
        refine lv_goto (tgt := 82) hx hb dX1_goesBefore_78 (by decide) ?_
        subst hF
        exact ct_zret (r := 1) hM hP hS rfl dX1_goesBefore_82
    · have hF := lt_f c10 hF
      refine lv_aload_n hx hb dX1_goesBefore_51 rfl (lv_at hl 2 rfl) ?_
      refine ct_get (C := RX1) (T := TX1) (N := 6) (ci := 1) (v := .ref (a 2)) hM hK hP inX1 0 rfl rfl 1 (by decide) wfl_X1_15 rfl dX1_goesBefore_52 ?_
      refine lv_iload_n hx hb dX1_goesBefore_55 rfl (lv_at hl 3 rfl) ?_
      refine va_iald hx hb hK hP 2 0 (f := v_mn v) (n := 8) (cA := cy 0) rfl rfl h8 dX1_goesBefore_56 ?_
      refine lv_aload_n hx hb dX1_goesBefore_57 rfl (lv_at hl 2 rfl) ?_
      refine ct_get (C := RX1) (T := TX1) (N := 6) (ci := 1) (v := .ref (a 2)) hM hK hP inX1 0 rfl rfl 1 (by decide) wfl_X1_15 rfl dX1_goesBefore_58 ?_
      refine lv_iload_n hx hb dX1_goesBefore_61 rfl (lv_at hl 4 rfl) ?_
      refine va_iald hx hb hK hP 2 0 (f := v_mn v) (n := 8) (cA := cy 0) rfl rfl h9 dX1_goesBefore_62 ?_
      refine lv_icmp_ge (tgt := 70) hx hb dX1_goesBefore_63 (by decide) (fun c12 => ?_) (fun c12 => ?_)
      · have hF := lt_t c12 hF
        refine lv_iconst (v := 0) hx hb dX1_goesBefore_70 (by decide) ?_
        subst hF
        exact ct_zret (r := 0) hM hP hS rfl dX1_goesBefore_71
      · have hF := lt_f c12 hF
        refine lv_iconst (v := 1) hx hb dX1_goesBefore_66 (by decide) ?_
        refine lv_goto (tgt := 71) hx hb dX1_goesBefore_67 (by decide) ?_
        subst hF
        exact ct_zret (r := 1) hM hP hS rfl dX1_goesBefore_71
  · have hF := lt_f c7 hF
    have hO := lo_f c7 hO
    refine lv_iload hx hb dX1_goesBefore_23 (lv_at hl 1 rfl) ?_
    refine lv_iload hx hb dX1_goesBefore_25 (lv_at hl 0 rfl) ?_
    refine lv_icmp_le (tgt := 34) hx hb dX1_goesBefore_27 (by decide) (fun c13 => ?_) (fun c13 => ?_)
    · have hF := lt_t c13 hF
      refine lv_iconst (v := 0) hx hb dX1_goesBefore_34 (by decide) ?_
      subst hF
      exact ct_zret (r := 0) hM hP hS rfl dX1_goesBefore_35
    · have hF := lt_f c13 hF
      refine lv_iconst (v := 1) hx hb dX1_goesBefore_30 (by decide) ?_
      refine lv_goto (tgt := 35) hx hb dX1_goesBefore_31 (by decide) ?_
      subst hF
      exact ct_zret (r := 1) hM hP hS rfl dX1_goesBefore_35
end
section
abbrev rX1_nextAt : Room := { frames := 2, cells := 0, slots := 0, locals := 49 }
def fX1_nextAt_6 (v : tVl) (s1 : Int32) (s2 : Int32) : Nat → Int32 → Int32 → Int32
  | 0, s3, s4 => 0
  | n + 1, s3, s4 => if 8 ≤ s4 then s3 else (if ((s2 >>> (s4 &&& 31)) &&& 1) = 0 then (lt_ (s4 + 1) fun x3 => fX1_nextAt_6 v s1 s2 n s3 x3) else (if s1 < (v_mn v) (Int32.toNatClampNeg s4) then (lt_ (s4 + 1) fun x7 => fX1_nextAt_6 v s1 s2 n s3 x7) else (if s3 = (-6) then (lt_ (s4 + 1) fun x10 => fX1_nextAt_6 v s1 s2 n s4 x10) else (lt_ (fX1_goesBefore v s4 s3 s1) fun q13 => if q13 = 0 then (lt_ (s4 + 1) fun x16 => fX1_nextAt_6 v s1 s2 n s3 x16) else (lt_ (s4 + 1) fun x18 => fX1_nextAt_6 v s1 s2 n s4 x18)))))
def oX1_nextAt_6 (v : tVl) (s1 : Int32) (s2 : Int32) : Nat → Int32 → Int32 → Prop
  | 0, _, _ => False
  | n + 1, s3, s4 => if 8 ≤ s4 then True else (if ((s2 >>> (s4 &&& 31)) &&& 1) = 0 then (lo_ (s4 + 1) fun x3 => oX1_nextAt_6 v s1 s2 n s3 x3) else (vp_in s4 8 ∧ (if s1 < (v_mn v) (Int32.toNatClampNeg s4) then (lo_ (s4 + 1) fun x7 => oX1_nextAt_6 v s1 s2 n s3 x7) else (if s3 = (-6) then (lo_ (s4 + 1) fun x10 => oX1_nextAt_6 v s1 s2 n s4 x10) else (oX1_goesBefore v s4 s3 s1 ∧ (lo_ (fX1_goesBefore v s4 s3 s1) fun q13 => if q13 = 0 then (lo_ (s4 + 1) fun x16 => oX1_nextAt_6 v s1 s2 n s3 x16) else (lo_ (s4 + 1) fun x18 => oX1_nextAt_6 v s1 s2 n s4 x18)))))))
set_option maxHeartbeats 4000000 in
set_option maxRecDepth 100000 in
theorem tX1_nextAt_6 {p : Program} {l : Launch} {e : Env} {s : State} {m : MethodId} {args : Array Value} {below : List Frame} {meth : Method} {c : Code} {A : Nat → Prop} {D : va_G} {cy : Nat → ClassId} {a : Nat → Nat} {v : tVl} {s1 : Int32} {s2 : Int32} {R : Int32} (hM : MC p s m args meth c RX1 cX1_nextAt 6 (some .int)) (hK : va_K D classes (ctT cy) s) :
    ∀ (n : Nat) (s3 : Int32) (s4 : Int32) (H : Heap) (locs : List Loc) (ls : Array Slot), va_P D classes (gwV cy a v) H → va_D A (gwV cy a v) → va_S A s.heap H locs → lv_has ls 6 [(0, .ref (a 0)), (1, .int s1), (2, .int s2), (3, .int s3), (4, .int s4)] → oX1_nextAt_6 v s1 s2 n s3 s4 → fX1_nextAt_6 v s1 s2 n s3 s4 = R → W p l e rX1_nextAt s m args below meth c H locs 0 0 (MQ below (ctQ D (some (.int R)) (gwV cy a v) A) args s 0 0 A) (F0 m 6 ls []) := by
  obtain ⟨hx, hb, -, hml, hown, hts, -⟩ := id hM
  intro n
  induction n with
  | zero =>
    intro s3 s4 H locs ls hP hD hS hl hO hF
    exact False.elim hO
  | succ n ih =>
    intro s3 s4 H locs ls hP hD hS hl hO hF
    rw [fX1_nextAt_6] at hF
    rw [oX1_nextAt_6] at hO
    refine lv_iload hx hb dX1_nextAt_6 (lv_at hl 4 rfl) ?_
    refine lv_bipush (v := 8) hx hb dX1_nextAt_8 (by decide) ?_
    refine lv_icmp_ge (tgt := 71) hx hb dX1_nextAt_10 (by decide) (fun c1 => ?_) (fun c1 => ?_)
    · have hF := lt_t c1 hF
      have hO := lo_t c1 hO
      refine lv_iload_n hx hb dX1_nextAt_71 rfl (lv_at hl 3 rfl) ?_
      subst hF
      exact ct_iret hM hP hS dX1_nextAt_72
    · have hF := lt_f c1 hF
      have hO := lo_f c1 hO
      refine lv_iload_n hx hb dX1_nextAt_13 rfl (lv_at hl 2 rfl) ?_
      refine lv_iload hx hb dX1_nextAt_14 (lv_at hl 4 rfl) ?_
      refine lv_ishr hx hb dX1_nextAt_16 ?_
      refine lv_iconst (v := 1) hx hb dX1_nextAt_17 (by decide) ?_
      refine lv_iand hx hb dX1_nextAt_18 ?_
      refine lv_if_eq (tgt := 37) hx hb dX1_nextAt_19 (by decide) (fun c2 => ?_) (fun c2 => ?_)
      · have hF := lt_t c2 hF
        have hO := lo_t c2 hO
        refine lv_iconst (v := 0) hx hb dX1_nextAt_37 (by decide) ?_
        refine lv_istore (lv' := [(5, .int 0), (0, .ref (a 0)), (1, .int s1), (2, .int s2), (3, .int s3), (4, .int s4)]) hx hb dX1_nextAt_38 hl (by decide) rfl (fun ls hl => ?_)
        refine lv_iload hx hb dX1_nextAt_40 (lv_at hl 0 rfl) ?_
        refine lv_if_eq (tgt := 65) hx hb dX1_nextAt_42 (by decide) (fun _ => ?_) (fun z => absurd (by decide) z)
        obtain ⟨x3, e4⟩ : ∃ y : Int32, s4 + 1 = y := ⟨_, rfl⟩
        have hF := lt_n e4 hF
        try have hO := lo_n e4 hO
        refine lv_iinc (v := x3) (lv' := [(4, .int x3), (5, .int 0), (0, .ref (a 0)), (1, .int s1), (2, .int s2), (3, .int s3)]) hx hb dX1_nextAt_65 hl (k := 5) rfl (by rw [← e4]; rfl) (by decide) rfl (fun ls hl => ?_)
        refine lv_goto (tgt := 6) hx hb dX1_nextAt_68 (by decide) ?_
        exact ih s3 x3 H locs ls hP hD hS (lv_sub hl [2, 3, 4, 5, 0] rfl) hO hF
      · have hF := lt_f c2 hF
        have hO := lo_f c2 hO
        refine lv_aload_n hx hb dX1_nextAt_22 rfl (lv_at hl 0 rfl) ?_
        refine ct_get (C := RX1) (T := TX1) (N := 6) (ci := 1) (v := .ref (a 2)) hM hK hP inX1 0 rfl rfl 1 (by decide) wfl_X1_15 rfl dX1_nextAt_23 ?_
        refine lv_iload hx hb dX1_nextAt_26 (lv_at hl 4 rfl) ?_
        obtain ⟨h5, hO⟩ := hO
        refine va_iald hx hb hK hP 2 0 (f := v_mn v) (n := 8) (cA := cy 0) rfl rfl h5 dX1_nextAt_28 ?_
        refine lv_iload_n hx hb dX1_nextAt_29 rfl (lv_at hl 1 rfl) ?_
        refine lv_icmp_gt (tgt := 37) hx hb dX1_nextAt_30 (by decide) (fun c6 => ?_) (fun c6 => ?_)
        · have hF := lt_t c6 hF
          have hO := lo_t c6 hO
          refine lv_iconst (v := 0) hx hb dX1_nextAt_37 (by decide) ?_
          refine lv_istore (lv' := [(5, .int 0), (0, .ref (a 0)), (1, .int s1), (2, .int s2), (3, .int s3), (4, .int s4)]) hx hb dX1_nextAt_38 hl (by decide) rfl (fun ls hl => ?_)
          refine lv_iload hx hb dX1_nextAt_40 (lv_at hl 0 rfl) ?_
          refine lv_if_eq (tgt := 65) hx hb dX1_nextAt_42 (by decide) (fun _ => ?_) (fun z => absurd (by decide) z)
          obtain ⟨x7, e8⟩ : ∃ y : Int32, s4 + 1 = y := ⟨_, rfl⟩
          have hF := lt_n e8 hF
          try have hO := lo_n e8 hO
          refine lv_iinc (v := x7) (lv' := [(4, .int x7), (5, .int 0), (0, .ref (a 0)), (1, .int s1), (2, .int s2), (3, .int s3)]) hx hb dX1_nextAt_65 hl (k := 5) rfl (by rw [← e8]; rfl) (by decide) rfl (fun ls hl => ?_)
          refine lv_goto (tgt := 6) hx hb dX1_nextAt_68 (by decide) ?_
          exact ih s3 x7 H locs ls hP hD hS (lv_sub hl [2, 3, 4, 5, 0] rfl) hO hF
        · have hF := lt_f c6 hF
          have hO := lo_f c6 hO
          refine lv_iconst (v := 1) hx hb dX1_nextAt_33 (by decide) ?_
          refine lv_goto (tgt := 38) hx hb dX1_nextAt_34 (by decide) ?_
          refine lv_istore (lv' := [(5, .int 1), (0, .ref (a 0)), (1, .int s1), (2, .int s2), (3, .int s3), (4, .int s4)]) hx hb dX1_nextAt_38 hl (by decide) rfl (fun ls hl => ?_)
          refine lv_iload hx hb dX1_nextAt_40 (lv_at hl 0 rfl) ?_
          refine lv_if_eq (tgt := 65) hx hb dX1_nextAt_42 (by decide) (fun z => absurd z (by decide)) (fun _ => ?_)
          refine lv_iload_n hx hb dX1_nextAt_45 rfl (lv_at hl 4 rfl) ?_
          refine lv_bipush (v := (-6)) hx hb dX1_nextAt_46 (by decide) ?_
          refine lv_icmp_eq (tgt := 62) hx hb dX1_nextAt_48 (by decide) (fun c9 => ?_) (fun c9 => ?_)
          · have hF := lt_t c9 hF
            have hO := lo_t c9 hO
            refine lv_iload hx hb dX1_nextAt_62 (lv_at hl 5 rfl) ?_
            refine lv_istore_n (lv' := [(3, .int s4), (5, .int 1), (0, .ref (a 0)), (1, .int s1), (2, .int s2), (4, .int s4)]) hx hb dX1_nextAt_64 rfl hl (by decide) rfl (fun ls hl => ?_)
            obtain ⟨x10, e11⟩ : ∃ y : Int32, s4 + 1 = y := ⟨_, rfl⟩
            have hF := lt_n e11 hF
            try have hO := lo_n e11 hO
            refine lv_iinc (v := x10) (lv' := [(4, .int x10), (3, .int s4), (5, .int 1), (0, .ref (a 0)), (1, .int s1), (2, .int s2)]) hx hb dX1_nextAt_65 hl (k := 5) rfl (by rw [← e11]; rfl) (by decide) rfl (fun ls hl => ?_)
            refine lv_goto (tgt := 6) hx hb dX1_nextAt_68 (by decide) ?_
            exact ih s4 x10 H locs ls hP hD hS (lv_sub hl [3, 4, 5, 1, 0] rfl) hO hF
          · have hF := lt_f c9 hF
            have hO := lo_f c9 hO
            refine lv_aload_n hx hb dX1_nextAt_51 rfl (lv_at hl 1 rfl) ?_
            refine lv_iload hx hb dX1_nextAt_52 (lv_at hl 5 rfl) ?_
            refine lv_iload_n hx hb dX1_nextAt_54 rfl (lv_at hl 4 rfl) ?_
            refine lv_iload_n hx hb dX1_nextAt_55 rfl (lv_at hl 2 rfl) ?_
            obtain ⟨h12, hO⟩ := hO
            obtain ⟨q13, e14⟩ : ∃ q, fX1_goesBefore v s4 s3 s1 = q := ⟨_, rfl⟩
            have hF := lt_n e14 hF
            try have hO := lo_n e14 hO
            refine ct_callV (ws' := gwV cy a v) hM hK hP hD hS (kX1_goesBefore l D cy a v s4 s3 s1 h12 e14) kvX1_goesBefore wml_X1_41 [0, 1, 2, 3, 4, 5] rfl (by decide) rfl rfl rfl 0 rfl rfl rfl rfl hl.1 rfl ⟨rfl, rfl, Nat.le_of_ble_eq_true rfl, Nat.le_of_ble_eq_true rfl⟩ (Nat.le_of_ble_eq_true rfl) ⟨Nat.zero_le _, Nat.zero_le _⟩ dX1_nextAt_56 (fun H locs hP hD hS => ?_)
            refine W.eq (g2 := F0 m 59 ls [.int q13]) rfl ?_
            refine lv_if_eq (tgt := 65) hx hb dX1_nextAt_59 (by decide) (fun c15 => ?_) (fun c15 => ?_)
            · have hF := lt_t c15 hF
              have hO := lo_t c15 hO
              obtain ⟨x16, e17⟩ : ∃ y : Int32, s4 + 1 = y := ⟨_, rfl⟩
              have hF := lt_n e17 hF
              try have hO := lo_n e17 hO
              refine lv_iinc (v := x16) (lv' := [(4, .int x16), (5, .int 1), (0, .ref (a 0)), (1, .int s1), (2, .int s2), (3, .int s3)]) hx hb dX1_nextAt_65 hl (k := 5) rfl (by rw [← e17]; rfl) (by decide) rfl (fun ls hl => ?_)
              refine lv_goto (tgt := 6) hx hb dX1_nextAt_68 (by decide) ?_
              exact ih s3 x16 H locs ls hP hD hS (lv_sub hl [2, 3, 4, 5, 0] rfl) hO hF
            · have hF := lt_f c15 hF
              have hO := lo_f c15 hO
              refine lv_iload hx hb dX1_nextAt_62 (lv_at hl 5 rfl) ?_
              refine lv_istore_n (lv' := [(3, .int s4), (5, .int 1), (0, .ref (a 0)), (1, .int s1), (2, .int s2), (4, .int s4)]) hx hb dX1_nextAt_64 rfl hl (by decide) rfl (fun ls hl => ?_)
              obtain ⟨x18, e19⟩ : ∃ y : Int32, s4 + 1 = y := ⟨_, rfl⟩
              have hF := lt_n e19 hF
              try have hO := lo_n e19 hO
              refine lv_iinc (v := x18) (lv' := [(4, .int x18), (3, .int s4), (5, .int 1), (0, .ref (a 0)), (1, .int s1), (2, .int s2)]) hx hb dX1_nextAt_65 hl (k := 5) rfl (by rw [← e19]; rfl) (by decide) rfl (fun ls hl => ?_)
              refine lv_goto (tgt := 6) hx hb dX1_nextAt_68 (by decide) ?_
              exact ih s4 x18 H locs ls hP hD hS (lv_sub hl [3, 4, 5, 1, 0] rfl) hO hF

def fX1_nextAt (v : tVl) (s1 : Int32) (s2 : Int32) : Int32 := fX1_nextAt_6 v s1 s2 9 (-6) 0
def oX1_nextAt (v : tVl) (s1 : Int32) (s2 : Int32) : Prop := oX1_nextAt_6 v s1 s2 9 (-6) 0
theorem kvX1_nextAt : KV yX1_nextAt cX1_nextAt 6 (some .int) 2 := ⟨wcd_X1_nextAt, wim_X1_nextAt, wsl_X1_nextAt, win_X1, by decide +kernel, by decide +kernel, by decide +kernel⟩
set_option maxHeartbeats 4000000 in
set_option maxRecDepth 100000 in
theorem kX1_nextAt (l : Launch) (D : va_G) (cy : Nat → ClassId) (a : Nat → Nat) (v : tVl) (s1 : Int32) (s2 : Int32) {R : Int32} (hO : oX1_nextAt v s1 s2) (hF : fX1_nextAt v s1 s2 = R) : CT l D cy yX1_nextAt cX1_nextAt 6 (some .int) rX1_nextAt [.ref (a 0), .int s1, .int s2] (gwV cy a v) (some (.int R)) (gwV cy a v) := by
  refine ct_of (by decide) (Nat.le_of_ble_eq_true rfl) ?_
  intro p e s m args below meth c A ls hM hK hP hD hS hl
  obtain ⟨hx, hb, -, hml, hown, hts, -⟩ := id hM
  have hl : lv_has ls 6 [(0, .ref (a 0)), (1, .int s1), (2, .int s2)] := hl
  obtain ⟨H, hH⟩ : ∃ H : Heap, H = s.heap := ⟨_, rfl⟩
  obtain ⟨locs, hlocs⟩ : ∃ q : List Loc, q = [] := ⟨_, rfl⟩
  have hP : va_P D classes (gwV cy a v) H := by rw [hH]; exact hP
  have hS : va_S A s.heap H locs := by rw [hH, hlocs]; exact hS
  suffices hg : W p l e rX1_nextAt s m args below meth c H locs 0 0 (MQ below (ctQ D (some (.int R)) (gwV cy a v) A) args s 0 0 A) (F0 m 0 ls []) by rw [hH, hlocs] at hg; exact hg
  clear hH hlocs
  unfold fX1_nextAt at hF
  unfold oX1_nextAt at hO
  refine lv_bipush (v := (-6)) hx hb dX1_nextAt_0 (by decide) ?_
  refine lv_istore_n (lv' := [(3, .int (-6)), (0, .ref (a 0)), (1, .int s1), (2, .int s2)]) hx hb dX1_nextAt_2 rfl hl (by decide) rfl (fun ls hl => ?_)
  refine lv_iconst (v := 0) hx hb dX1_nextAt_3 (by decide) ?_
  refine lv_istore (lv' := [(4, .int 0), (3, .int (-6)), (0, .ref (a 0)), (1, .int s1), (2, .int s2)]) hx hb dX1_nextAt_4 hl (by decide) rfl (fun ls hl => ?_)
  exact tX1_nextAt_6 hM hK 9 (-6) 0 H locs ls hP hD hS (lv_sub hl [2, 3, 4, 1, 0] rfl) hO hF

abbrev rX1_copy : Room := { frames := 0, cells := 0, slots := 0, locals := 0 }
def fX1_copy_64 (u : tVl) : Nat → tVl → Int32 → tVl
  | 0, v, s2 => v
  | n + 1, v, s2 => if 4 ≤ s2 then (lt_ (v_cm u) fun x3 => (v_mi v, v_mn v, v_pa v, v_ca v, v_se v, x3)) else (lt_ ((v_se u) (Int32.toNatClampNeg s2)) fun x6 => lt_ (s2 + 1) fun x8 => fX1_copy_64 u n (v_mi v, v_mn v, v_pa v, v_ca v, upd (v_se v) (Int32.toNatClampNeg s2) x6, v_cm v) x8)
def oX1_copy_64 (u : tVl) : Nat → tVl → Int32 → Prop
  | 0, _, _ => False
  | n + 1, v, s2 => if 4 ≤ s2 then True else (vp_in s2 4 ∧ (lo_ ((v_se u) (Int32.toNatClampNeg s2)) fun x6 => lo_ (s2 + 1) fun x8 => oX1_copy_64 u n (v_mi v, v_mn v, v_pa v, v_ca v, upd (v_se v) (Int32.toNatClampNeg s2) x6, v_cm v) x8))
set_option maxHeartbeats 4000000 in
set_option maxRecDepth 100000 in
theorem tX1_copy_64 {p : Program} {l : Launch} {e : Env} {s : State} {m : MethodId} {args : Array Value} {below : List Frame} {meth : Method} {c : Code} {A : Nat → Prop} {D : va_G} {cy : Nat → ClassId} {a : Nat → Nat} {b : Nat → Nat} {u : tVl} {R : tVl} (hM : MC p s m args meth c RX1 cX1_copy 3 none) (hK : va_K D classes (ctT cy) s) :
    ∀ (n : Nat) (v : tVl) (s2 : Int32) (H : Heap) (locs : List Loc) (ls : Array Slot), va_P D classes (gwV cy a v ++ gwV cy b u) H → va_D A (gwV cy a v ++ gwV cy b u) → va_S A s.heap H locs → lv_has ls 3 [(0, .ref (a 0)), (1, .ref (b 0)), (2, .int s2)] → oX1_copy_64 u n v s2 → fX1_copy_64 u n v s2 = R → W p l e rX1_copy s m args below meth c H locs 0 0 (MQ below (ctQ D none (gwV cy a R ++ gwV cy b u) A) args s 0 0 A) (F0 m 64 ls []) := by
  obtain ⟨hx, hb, -, hml, hown, hts, -⟩ := id hM
  intro n
  induction n with
  | zero =>
    intro v s2 H locs ls hP hD hS hl hO hF
    exact False.elim hO
  | succ n ih =>
    intro v s2 H locs ls hP hD hS hl hO hF
    rw [fX1_copy_64] at hF
    rw [oX1_copy_64] at hO
    refine lv_iload_n hx hb dX1_copy_64 rfl (lv_at hl 2 rfl) ?_
    refine lv_iconst (v := 4) hx hb dX1_copy_65 (by decide) ?_
    refine lv_icmp_ge (tgt := 87) hx hb dX1_copy_66 (by decide) (fun c2 => ?_) (fun c2 => ?_)
    · have hF := lt_t c2 hF
      have hO := lo_t c2 hO
      refine lv_aload_n hx hb dX1_copy_87 rfl (lv_at hl 0 rfl) ?_
      refine lv_aload_n hx hb dX1_copy_88 rfl (lv_at hl 1 rfl) ?_
      refine ct_get (C := RX1) (T := TX1) (N := 6) (ci := 1) (v := .int (v_cm u)) hM hK hP inX1 6 rfl rfl 4 (by decide) wfl_X1_28 rfl dX1_copy_89 ?_
      refine lv_topi (fun x3 e4 => ?_)
      have hF := lt_n e4.symm hF
      try have hO := lo_n e4.symm hO
      refine ct_put1 (C := RX1) (T := TX1) (N := 6) (ci := 1) (v := .int x3) hM hK hP hD hS inX1 tyX1 tyX1_ok nmX1 0 rfl rfl 4 (by decide) wfl_X1_28 rfl (by first | rfl | decide) (by first | rfl | decide) (Nat.le_of_ble_eq_true rfl) dX1_copy_92 (fun H locs hP hD hS => ?_)
      have hP : va_P D classes (gwV cy a (v_mi v, v_mn v, v_pa v, v_ca v, v_se v, x3) ++ gwV cy b u) H := hP
      have hD : va_D A (gwV cy a (v_mi v, v_mn v, v_pa v, v_ca v, v_se v, x3) ++ gwV cy b u) := hD
      subst hF
      exact ct_vret hM hP hS dX1_copy_95
    · have hF := lt_f c2 hF
      have hO := lo_f c2 hO
      refine lv_aload_n hx hb dX1_copy_69 rfl (lv_at hl 0 rfl) ?_
      refine ct_get (C := RX1) (T := TX1) (N := 6) (ci := 1) (v := .ref (a 5)) hM hK hP inX1 0 rfl rfl 5 (by decide) wfl_X1_25 rfl dX1_copy_70 ?_
      refine lv_iload_n hx hb dX1_copy_73 rfl (lv_at hl 2 rfl) ?_
      refine lv_aload_n hx hb dX1_copy_74 rfl (lv_at hl 1 rfl) ?_
      refine ct_get (C := RX1) (T := TX1) (N := 6) (ci := 1) (v := .ref (b 5)) hM hK hP inX1 6 rfl rfl 5 (by decide) wfl_X1_25 rfl dX1_copy_75 ?_
      refine lv_iload_n hx hb dX1_copy_78 rfl (lv_at hl 2 rfl) ?_
      obtain ⟨h5, hO⟩ := hO
      refine va_iald hx hb hK hP 11 0 (f := v_se u) (n := 4) (cA := cy 0) rfl rfl h5 dX1_copy_79 ?_
      refine lv_topi (fun x6 e7 => ?_)
      have hF := lt_n e7.symm hF
      try have hO := lo_n e7.symm hO
      refine va_iast hx hb hK hP hD hS 5 0 (f := v_se v) (n := 4) (cA := cy 0) rfl rfl h5 dX1_copy_80 (fun H locs hP hD hS => ?_)
      have hP : va_P D classes (gwV cy a (v_mi v, v_mn v, v_pa v, v_ca v, upd (v_se v) (Int32.toNatClampNeg s2) x6, v_cm v) ++ gwV cy b u) H := hP
      have hD : va_D A (gwV cy a (v_mi v, v_mn v, v_pa v, v_ca v, upd (v_se v) (Int32.toNatClampNeg s2) x6, v_cm v) ++ gwV cy b u) := hD
      obtain ⟨x8, e9⟩ : ∃ y : Int32, s2 + 1 = y := ⟨_, rfl⟩
      have hF := lt_n e9 hF
      try have hO := lo_n e9 hO
      refine lv_iinc (v := x8) (lv' := [(2, .int x8), (0, .ref (a 0)), (1, .ref (b 0))]) hx hb dX1_copy_81 hl (k := 2) rfl (by rw [← e9]; rfl) (by decide) rfl (fun ls hl => ?_)
      refine lv_goto (tgt := 64) hx hb dX1_copy_84 (by decide) ?_
      exact ih (v_mi v, v_mn v, v_pa v, v_ca v, upd (v_se v) (Int32.toNatClampNeg s2) x6, v_cm v) x8 H locs ls hP hD hS (lv_sub hl [1, 2, 0] rfl) hO hF

def fX1_copy_2 (u : tVl) : Nat → tVl → Int32 → tVl
  | 0, v, s2 => v
  | n + 1, v, s2 => if 8 ≤ s2 then (fX1_copy_64 u 5 v 0) else (lt_ ((v_mi u) (Int32.toNatClampNeg s2)) fun x11 => lt_ ((v_mn u) (Int32.toNatClampNeg s2)) fun x13 => lt_ ((v_pa u) (Int32.toNatClampNeg s2)) fun x15 => lt_ ((v_ca u) (Int32.toNatClampNeg s2)) fun x17 => lt_ (s2 + 1) fun x19 => fX1_copy_2 u n (upd (v_mi v) (Int32.toNatClampNeg s2) x11, upd (v_mn v) (Int32.toNatClampNeg s2) x13, upd (v_pa v) (Int32.toNatClampNeg s2) x15, upd (v_ca v) (Int32.toNatClampNeg s2) (vp_nar .boolean x17), v_se v, v_cm v) x19)
def oX1_copy_2 (u : tVl) : Nat → tVl → Int32 → Prop
  | 0, _, _ => False
  | n + 1, v, s2 => if 8 ≤ s2 then (oX1_copy_64 u 5 v 0) else (vp_in s2 8 ∧ (lo_ ((v_mi u) (Int32.toNatClampNeg s2)) fun x11 => lo_ ((v_mn u) (Int32.toNatClampNeg s2)) fun x13 => lo_ ((v_pa u) (Int32.toNatClampNeg s2)) fun x15 => lo_ ((v_ca u) (Int32.toNatClampNeg s2)) fun x17 => lo_ (s2 + 1) fun x19 => oX1_copy_2 u n (upd (v_mi v) (Int32.toNatClampNeg s2) x11, upd (v_mn v) (Int32.toNatClampNeg s2) x13, upd (v_pa v) (Int32.toNatClampNeg s2) x15, upd (v_ca v) (Int32.toNatClampNeg s2) (vp_nar .boolean x17), v_se v, v_cm v) x19))
set_option maxHeartbeats 4000000 in
set_option maxRecDepth 100000 in
theorem tX1_copy_2 {p : Program} {l : Launch} {e : Env} {s : State} {m : MethodId} {args : Array Value} {below : List Frame} {meth : Method} {c : Code} {A : Nat → Prop} {D : va_G} {cy : Nat → ClassId} {a : Nat → Nat} {b : Nat → Nat} {u : tVl} {R : tVl} (hM : MC p s m args meth c RX1 cX1_copy 3 none) (hK : va_K D classes (ctT cy) s) :
    ∀ (n : Nat) (v : tVl) (s2 : Int32) (H : Heap) (locs : List Loc) (ls : Array Slot), va_P D classes (gwV cy a v ++ gwV cy b u) H → va_D A (gwV cy a v ++ gwV cy b u) → va_S A s.heap H locs → lv_has ls 3 [(0, .ref (a 0)), (1, .ref (b 0)), (2, .int s2)] → oX1_copy_2 u n v s2 → fX1_copy_2 u n v s2 = R → W p l e rX1_copy s m args below meth c H locs 0 0 (MQ below (ctQ D none (gwV cy a R ++ gwV cy b u) A) args s 0 0 A) (F0 m 2 ls []) := by
  obtain ⟨hx, hb, -, hml, hown, hts, -⟩ := id hM
  intro n
  induction n with
  | zero =>
    intro v s2 H locs ls hP hD hS hl hO hF
    exact False.elim hO
  | succ n ih =>
    intro v s2 H locs ls hP hD hS hl hO hF
    rw [fX1_copy_2] at hF
    rw [oX1_copy_2] at hO
    refine lv_iload_n hx hb dX1_copy_2 rfl (lv_at hl 2 rfl) ?_
    refine lv_bipush (v := 8) hx hb dX1_copy_3 (by decide) ?_
    refine lv_icmp_ge (tgt := 62) hx hb dX1_copy_5 (by decide) (fun c1 => ?_) (fun c1 => ?_)
    · have hF := lt_t c1 hF
      have hO := lo_t c1 hO
      refine lv_iconst (v := 0) hx hb dX1_copy_62 (by decide) ?_
      refine lv_istore_n (lv' := [(2, .int 0), (0, .ref (a 0)), (1, .ref (b 0))]) hx hb dX1_copy_63 rfl hl (by decide) rfl (fun ls hl => ?_)
      exact tX1_copy_64 hM hK 5 v 0 H locs ls hP hD hS (lv_sub hl [1, 2, 0] rfl) hO hF
    · have hF := lt_f c1 hF
      have hO := lo_f c1 hO
      refine lv_aload_n hx hb dX1_copy_8 rfl (lv_at hl 0 rfl) ?_
      refine ct_get (C := RX1) (T := TX1) (N := 6) (ci := 1) (v := .ref (a 1)) hM hK hP inX1 0 rfl rfl 0 (by decide) wfl_X1_9 rfl dX1_copy_9 ?_
      refine lv_iload_n hx hb dX1_copy_12 rfl (lv_at hl 2 rfl) ?_
      refine lv_aload_n hx hb dX1_copy_13 rfl (lv_at hl 1 rfl) ?_
      refine ct_get (C := RX1) (T := TX1) (N := 6) (ci := 1) (v := .ref (b 1)) hM hK hP inX1 6 rfl rfl 0 (by decide) wfl_X1_9 rfl dX1_copy_14 ?_
      refine lv_iload_n hx hb dX1_copy_17 rfl (lv_at hl 2 rfl) ?_
      obtain ⟨h10, hO⟩ := hO
      refine va_iald hx hb hK hP 7 0 (f := v_mi u) (n := 8) (cA := cy 0) rfl rfl h10 dX1_copy_18 ?_
      refine lv_topi (fun x11 e12 => ?_)
      have hF := lt_n e12.symm hF
      try have hO := lo_n e12.symm hO
      refine va_iast hx hb hK hP hD hS 1 0 (f := v_mi v) (n := 8) (cA := cy 0) rfl rfl h10 dX1_copy_19 (fun H locs hP hD hS => ?_)
      have hP : va_P D classes (gwV cy a (upd (v_mi v) (Int32.toNatClampNeg s2) x11, v_mn v, v_pa v, v_ca v, v_se v, v_cm v) ++ gwV cy b u) H := hP
      have hD : va_D A (gwV cy a (upd (v_mi v) (Int32.toNatClampNeg s2) x11, v_mn v, v_pa v, v_ca v, v_se v, v_cm v) ++ gwV cy b u) := hD
      refine lv_aload_n hx hb dX1_copy_20 rfl (lv_at hl 0 rfl) ?_
      refine ct_get (C := RX1) (T := TX1) (N := 6) (ci := 1) (v := .ref (a 2)) hM hK hP inX1 0 rfl rfl 1 (by decide) wfl_X1_15 rfl dX1_copy_21 ?_
      refine lv_iload_n hx hb dX1_copy_24 rfl (lv_at hl 2 rfl) ?_
      refine lv_aload_n hx hb dX1_copy_25 rfl (lv_at hl 1 rfl) ?_
      refine ct_get (C := RX1) (T := TX1) (N := 6) (ci := 1) (v := .ref (b 2)) hM hK hP inX1 6 rfl rfl 1 (by decide) wfl_X1_15 rfl dX1_copy_26 ?_
      refine lv_iload_n hx hb dX1_copy_29 rfl (lv_at hl 2 rfl) ?_
      refine va_iald hx hb hK hP 8 0 (f := v_mn u) (n := 8) (cA := cy 0) rfl rfl h10 dX1_copy_30 ?_
      refine lv_topi (fun x13 e14 => ?_)
      have hF := lt_n e14.symm hF
      try have hO := lo_n e14.symm hO
      refine va_iast hx hb hK hP hD hS 2 0 (f := v_mn v) (n := 8) (cA := cy 0) rfl rfl h10 dX1_copy_31 (fun H locs hP hD hS => ?_)
      have hP : va_P D classes (gwV cy a (upd (v_mi v) (Int32.toNatClampNeg s2) x11, upd (v_mn v) (Int32.toNatClampNeg s2) x13, v_pa v, v_ca v, v_se v, v_cm v) ++ gwV cy b u) H := hP
      have hD : va_D A (gwV cy a (upd (v_mi v) (Int32.toNatClampNeg s2) x11, upd (v_mn v) (Int32.toNatClampNeg s2) x13, v_pa v, v_ca v, v_se v, v_cm v) ++ gwV cy b u) := hD
      refine lv_aload_n hx hb dX1_copy_32 rfl (lv_at hl 0 rfl) ?_
      refine ct_get (C := RX1) (T := TX1) (N := 6) (ci := 1) (v := .ref (a 3)) hM hK hP inX1 0 rfl rfl 2 (by decide) wfl_X1_18 rfl dX1_copy_33 ?_
      refine lv_iload_n hx hb dX1_copy_36 rfl (lv_at hl 2 rfl) ?_
      refine lv_aload_n hx hb dX1_copy_37 rfl (lv_at hl 1 rfl) ?_
      refine ct_get (C := RX1) (T := TX1) (N := 6) (ci := 1) (v := .ref (b 3)) hM hK hP inX1 6 rfl rfl 2 (by decide) wfl_X1_18 rfl dX1_copy_38 ?_
      refine lv_iload_n hx hb dX1_copy_41 rfl (lv_at hl 2 rfl) ?_
      refine va_iald hx hb hK hP 9 0 (f := v_pa u) (n := 8) (cA := cy 0) rfl rfl h10 dX1_copy_42 ?_
      refine lv_topi (fun x15 e16 => ?_)
      have hF := lt_n e16.symm hF
      try have hO := lo_n e16.symm hO
      refine va_iast hx hb hK hP hD hS 3 0 (f := v_pa v) (n := 8) (cA := cy 0) rfl rfl h10 dX1_copy_43 (fun H locs hP hD hS => ?_)
      have hP : va_P D classes (gwV cy a (upd (v_mi v) (Int32.toNatClampNeg s2) x11, upd (v_mn v) (Int32.toNatClampNeg s2) x13, upd (v_pa v) (Int32.toNatClampNeg s2) x15, v_ca v, v_se v, v_cm v) ++ gwV cy b u) H := hP
      have hD : va_D A (gwV cy a (upd (v_mi v) (Int32.toNatClampNeg s2) x11, upd (v_mn v) (Int32.toNatClampNeg s2) x13, upd (v_pa v) (Int32.toNatClampNeg s2) x15, v_ca v, v_se v, v_cm v) ++ gwV cy b u) := hD
      refine lv_aload_n hx hb dX1_copy_44 rfl (lv_at hl 0 rfl) ?_
      refine ct_get (C := RX1) (T := TX1) (N := 6) (ci := 1) (v := .ref (a 4)) hM hK hP inX1 0 rfl rfl 3 (by decide) wfl_X1_21 rfl dX1_copy_45 ?_
      refine lv_iload_n hx hb dX1_copy_48 rfl (lv_at hl 2 rfl) ?_
      refine lv_aload_n hx hb dX1_copy_49 rfl (lv_at hl 1 rfl) ?_
      refine ct_get (C := RX1) (T := TX1) (N := 6) (ci := 1) (v := .ref (b 4)) hM hK hP inX1 6 rfl rfl 3 (by decide) wfl_X1_21 rfl dX1_copy_50 ?_
      refine lv_iload_n hx hb dX1_copy_53 rfl (lv_at hl 2 rfl) ?_
      refine va_zald hx hb hK hP 10 1 (f := v_ca u) (n := 8) (cA := cy 1) rfl rfl h10 dX1_copy_54 ?_
      refine lv_topi (fun x17 e18 => ?_)
      have hF := lt_n e18.symm hF
      try have hO := lo_n e18.symm hO
      refine va_zast hx hb hK hP hD hS 4 1 (f := v_ca v) (n := 8) (cA := cy 1) rfl rfl h10 dX1_copy_55 (fun H locs hP hD hS => ?_)
      have hP : va_P D classes (gwV cy a (upd (v_mi v) (Int32.toNatClampNeg s2) x11, upd (v_mn v) (Int32.toNatClampNeg s2) x13, upd (v_pa v) (Int32.toNatClampNeg s2) x15, upd (v_ca v) (Int32.toNatClampNeg s2) (vp_nar .boolean x17), v_se v, v_cm v) ++ gwV cy b u) H := hP
      have hD : va_D A (gwV cy a (upd (v_mi v) (Int32.toNatClampNeg s2) x11, upd (v_mn v) (Int32.toNatClampNeg s2) x13, upd (v_pa v) (Int32.toNatClampNeg s2) x15, upd (v_ca v) (Int32.toNatClampNeg s2) (vp_nar .boolean x17), v_se v, v_cm v) ++ gwV cy b u) := hD
      obtain ⟨x19, e20⟩ : ∃ y : Int32, s2 + 1 = y := ⟨_, rfl⟩
      have hF := lt_n e20 hF
      try have hO := lo_n e20 hO
      refine lv_iinc (v := x19) (lv' := [(2, .int x19), (0, .ref (a 0)), (1, .ref (b 0))]) hx hb dX1_copy_56 hl (k := 2) rfl (by rw [← e20]; rfl) (by decide) rfl (fun ls hl => ?_)
      refine lv_goto (tgt := 2) hx hb dX1_copy_59 (by decide) ?_
      exact ih (upd (v_mi v) (Int32.toNatClampNeg s2) x11, upd (v_mn v) (Int32.toNatClampNeg s2) x13, upd (v_pa v) (Int32.toNatClampNeg s2) x15, upd (v_ca v) (Int32.toNatClampNeg s2) (vp_nar .boolean x17), v_se v, v_cm v) x19 H locs ls hP hD hS (lv_sub hl [1, 2, 0] rfl) hO hF

def fX1_copy (v : tVl) (u : tVl) : tVl := fX1_copy_2 u 9 v 0
def oX1_copy (v : tVl) (u : tVl) : Prop := oX1_copy_2 u 9 v 0
theorem kvX1_copy : KV yX1_copy cX1_copy 3 none 1 := ⟨wcd_X1_copy, wim_X1_copy, wsl_X1_copy, win_X1, by decide +kernel, by decide +kernel, by decide +kernel⟩
set_option maxHeartbeats 4000000 in
set_option maxRecDepth 100000 in
theorem kX1_copy (l : Launch) (D : va_G) (cy : Nat → ClassId) (a : Nat → Nat) (b : Nat → Nat) (v : tVl) (u : tVl) {R : tVl} (hO : oX1_copy v u) (hF : fX1_copy v u = R) : CT l D cy yX1_copy cX1_copy 3 none rX1_copy [.ref (a 0), .ref (b 0)] (gwV cy a v ++ gwV cy b u) none (gwV cy a R ++ gwV cy b u) := by
  refine ct_of (by decide) (Nat.le_of_ble_eq_true rfl) ?_
  intro p e s m args below meth c A ls hM hK hP hD hS hl
  obtain ⟨hx, hb, -, hml, hown, hts, -⟩ := id hM
  have hl : lv_has ls 3 [(0, .ref (a 0)), (1, .ref (b 0))] := hl
  obtain ⟨H, hH⟩ : ∃ H : Heap, H = s.heap := ⟨_, rfl⟩
  obtain ⟨locs, hlocs⟩ : ∃ q : List Loc, q = [] := ⟨_, rfl⟩
  have hP : va_P D classes (gwV cy a v ++ gwV cy b u) H := by rw [hH]; exact hP
  have hS : va_S A s.heap H locs := by rw [hH, hlocs]; exact hS
  suffices hg : W p l e rX1_copy s m args below meth c H locs 0 0 (MQ below (ctQ D none (gwV cy a R ++ gwV cy b u) A) args s 0 0 A) (F0 m 0 ls []) by rw [hH, hlocs] at hg; exact hg
  clear hH hlocs
  unfold fX1_copy at hF
  unfold oX1_copy at hO
  refine lv_iconst (v := 0) hx hb dX1_copy_0 (by decide) ?_
  refine lv_istore_n (lv' := [(2, .int 0), (0, .ref (a 0)), (1, .ref (b 0))]) hx hb dX1_copy_1 rfl hl (by decide) rfl (fun ls hl => ?_)
  exact tX1_copy_2 hM hK 9 v 0 H locs ls hP hD hS (lv_sub hl [1, 2, 0] rfl) hO hF
end
section
abbrev rX2_start : Room := { frames := 0, cells := 0, slots := 0, locals := 0 }
def fX2_start (w : tWl) (s1 : Int32) : tWl := (w_or w, w_be w, w_en w, w_wa w, 0, 0, 0, 0, s1, s1)
def oX2_start (w : tWl) (s1 : Int32) : Prop := True
theorem kvX2_start : KV yX2_start cX2_start 2 none 1 := ⟨wcd_X2_start, wim_X2_start, wsl_X2_start, win_X2, by decide +kernel, by decide +kernel, by decide +kernel⟩
set_option maxHeartbeats 4000000 in
set_option maxRecDepth 100000 in
theorem kX2_start (l : Launch) (D : va_G) (cy : Nat → ClassId) (a : Nat → Nat) (w : tWl) (s1 : Int32) {R : tWl} (hO : oX2_start w s1) (hF : fX2_start w s1 = R) : CT l D cy yX2_start cX2_start 2 none rX2_start [.ref (a 0), .int s1] (gwW cy a w) none (gwW cy a R) := by
  refine ct_of (by decide) (Nat.le_of_ble_eq_true rfl) ?_
  intro p e s m args below meth c A ls hM hK hP hD hS hl
  obtain ⟨hx, hb, -, hml, hown, hts, -⟩ := id hM
  have hl : lv_has ls 2 [(0, .ref (a 0)), (1, .int s1)] := hl
  obtain ⟨H, hH⟩ : ∃ H : Heap, H = s.heap := ⟨_, rfl⟩
  obtain ⟨locs, hlocs⟩ : ∃ q : List Loc, q = [] := ⟨_, rfl⟩
  have hP : va_P D classes (gwW cy a w) H := by rw [hH]; exact hP
  have hS : va_S A s.heap H locs := by rw [hH, hlocs]; exact hS
  suffices hg : W p l e rX2_start s m args below meth c H locs 0 0 (MQ below (ctQ D none (gwW cy a R) A) args s 0 0 A) (F0 m 0 ls []) by rw [hH, hlocs] at hg; exact hg
  clear hH hlocs
  unfold fX2_start at hF
  unfold oX2_start at hO
  refine lv_aload_n hx hb dX2_start_0 rfl (lv_at hl 0 rfl) ?_
  refine lv_iload_n hx hb dX2_start_1 rfl (lv_at hl 1 rfl) ?_
  refine ct_put1 (C := RX2) (T := TX2) (N := 10) (ci := 2) (v := .int s1) hM hK hP hD hS inX2 tyX2 tyX2_ok nmX2 0 rfl rfl 8 (by decide) wfl_X2_63 rfl (by first | rfl | decide) (by first | rfl | decide) (Nat.le_of_ble_eq_true rfl) dX2_start_2 (fun H locs hP hD hS => ?_)
  have hP : va_P D classes (gwW cy a (w_or w, w_be w, w_en w, w_wa w, w_tu w, w_wo w, w_su w, w_ti w, s1, w_re w)) H := hP
  have hD : va_D A (gwW cy a (w_or w, w_be w, w_en w, w_wa w, w_tu w, w_wo w, w_su w, w_ti w, s1, w_re w)) := hD
  refine lv_aload_n hx hb dX2_start_5 rfl (lv_at hl 0 rfl) ?_
  refine lv_iload_n hx hb dX2_start_6 rfl (lv_at hl 1 rfl) ?_
  refine ct_put1 (C := RX2) (T := TX2) (N := 10) (ci := 2) (v := .int s1) hM hK hP hD hS inX2 tyX2 tyX2_ok nmX2 0 rfl rfl 9 (by decide) wfl_X2_67 rfl (by first | rfl | decide) (by first | rfl | decide) (Nat.le_of_ble_eq_true rfl) dX2_start_7 (fun H locs hP hD hS => ?_)
  have hP : va_P D classes (gwW cy a (w_or w, w_be w, w_en w, w_wa w, w_tu w, w_wo w, w_su w, w_ti w, s1, s1)) H := hP
  have hD : va_D A (gwW cy a (w_or w, w_be w, w_en w, w_wa w, w_tu w, w_wo w, w_su w, w_ti w, s1, s1)) := hD
  refine lv_aload_n hx hb dX2_start_10 rfl (lv_at hl 0 rfl) ?_
  refine lv_iconst (v := 0) hx hb dX2_start_11 (by decide) ?_
  refine ct_put1 (C := RX2) (T := TX2) (N := 10) (ci := 2) (v := .int 0) hM hK hP hD hS inX2 tyX2 tyX2_ok nmX2 0 rfl rfl 4 (by decide) wfl_X2_50 rfl (by first | rfl | decide) (by first | rfl | decide) (Nat.le_of_ble_eq_true rfl) dX2_start_12 (fun H locs hP hD hS => ?_)
  have hP : va_P D classes (gwW cy a (w_or w, w_be w, w_en w, w_wa w, 0, w_wo w, w_su w, w_ti w, s1, s1)) H := hP
  have hD : va_D A (gwW cy a (w_or w, w_be w, w_en w, w_wa w, 0, w_wo w, w_su w, w_ti w, s1, s1)) := hD
  refine lv_aload_n hx hb dX2_start_15 rfl (lv_at hl 0 rfl) ?_
  refine lv_iconst (v := 0) hx hb dX2_start_16 (by decide) ?_
  refine ct_put1 (C := RX2) (T := TX2) (N := 10) (ci := 2) (v := .int 0) hM hK hP hD hS inX2 tyX2 tyX2_ok nmX2 0 rfl rfl 5 (by decide) wfl_X2_64 rfl (by first | rfl | decide) (by first | rfl | decide) (Nat.le_of_ble_eq_true rfl) dX2_start_17 (fun H locs hP hD hS => ?_)
  have hP : va_P D classes (gwW cy a (w_or w, w_be w, w_en w, w_wa w, 0, 0, w_su w, w_ti w, s1, s1)) H := hP
  have hD : va_D A (gwW cy a (w_or w, w_be w, w_en w, w_wa w, 0, 0, w_su w, w_ti w, s1, s1)) := hD
  refine lv_aload_n hx hb dX2_start_20 rfl (lv_at hl 0 rfl) ?_
  refine lv_iconst (v := 0) hx hb dX2_start_21 (by decide) ?_
  refine ct_put1 (C := RX2) (T := TX2) (N := 10) (ci := 2) (v := .int 0) hM hK hP hD hS inX2 tyX2 tyX2_ok nmX2 0 rfl rfl 6 (by decide) wfl_X2_70 rfl (by first | rfl | decide) (by first | rfl | decide) (Nat.le_of_ble_eq_true rfl) dX2_start_22 (fun H locs hP hD hS => ?_)
  have hP : va_P D classes (gwW cy a (w_or w, w_be w, w_en w, w_wa w, 0, 0, 0, w_ti w, s1, s1)) H := hP
  have hD : va_D A (gwW cy a (w_or w, w_be w, w_en w, w_wa w, 0, 0, 0, w_ti w, s1, s1)) := hD
  refine lv_aload_n hx hb dX2_start_25 rfl (lv_at hl 0 rfl) ?_
  refine lv_iconst (v := 0) hx hb dX2_start_26 (by decide) ?_
  refine ct_put1 (C := RX2) (T := TX2) (N := 10) (ci := 2) (v := .int 0) hM hK hP hD hS inX2 tyX2 tyX2_ok nmX2 0 rfl rfl 7 (by decide) wfl_X2_73 rfl (by first | rfl | decide) (by first | rfl | decide) (Nat.le_of_ble_eq_true rfl) dX2_start_27 (fun H locs hP hD hS => ?_)
  have hP : va_P D classes (gwW cy a (w_or w, w_be w, w_en w, w_wa w, 0, 0, 0, 0, s1, s1)) H := hP
  have hD : va_D A (gwW cy a (w_or w, w_be w, w_en w, w_wa w, 0, 0, 0, 0, s1, s1)) := hD
  subst hF
  exact ct_vret hM hP hS dX2_start_30

abbrev rX2_serveNext : Room := { frames := 3, cells := 0, slots := 0, locals := 74 }
def fX2_serveNext (v : tVl) (w : tWl) : Int32 × tWl := if w_re w = 0 then ((-6), w) else (if w_tu w < 8 then (lt_ (fX1_firstComing v (w_re w)) fun q4 => lt_ (if w_ti w < q4 then q4 else w_ti w) fun x6 => lt_ (fX1_nextAt v x6 (w_re w)) fun q9 => if q9 = (-6) then ((-6), (w_or w, w_be w, w_en w, w_wa w, w_tu w, w_wo w, w_su w, x6, w_co w, w_re w)) else (lt_ (x6 - (v_mn v) (Int32.toNatClampNeg q9)) fun x13 => lt_ (fX1_timeToDraw v q9) fun q16 => lt_ (x6 + q16) fun x18 => lt_ (if w_wo w < (upd (w_wa w) (Int32.toNatClampNeg q9) x13) (Int32.toNatClampNeg q9) then (upd (w_wa w) (Int32.toNatClampNeg q9) x13) (Int32.toNatClampNeg q9) else w_wo w) fun x20 => lt_ (w_su w + (upd (w_wa w) (Int32.toNatClampNeg q9) x13) (Int32.toNatClampNeg q9)) fun x22 => lt_ (w_tu w + 1) fun x25 => lt_ (w_re w &&& ((1 <<< (q9 &&& 31)) ^^^ (-1))) fun x27 => (q9, (upd (w_or w) (Int32.toNatClampNeg (w_tu w)) q9, upd (w_be w) (Int32.toNatClampNeg q9) x6, upd (w_en w) (Int32.toNatClampNeg q9) x18, upd (w_wa w) (Int32.toNatClampNeg q9) x13, x25, x20, x22, x18, w_co w, x27)))) else ((-6), w))
def oX2_serveNext (v : tVl) (w : tWl) : Prop := if w_re w = 0 then True else (if w_tu w < 8 then (oX1_firstComing v (w_re w) ∧ (lo_ (fX1_firstComing v (w_re w)) fun q4 => lo_ (if w_ti w < q4 then q4 else w_ti w) fun x6 => oX1_nextAt v x6 (w_re w) ∧ (lo_ (fX1_nextAt v x6 (w_re w)) fun q9 => if q9 = (-6) then True else (vp_in q9 8 ∧ (lo_ (x6 - (v_mn v) (Int32.toNatClampNeg q9)) fun x13 => oX1_timeToDraw v q9 ∧ (lo_ (fX1_timeToDraw v q9) fun q16 => lo_ (x6 + q16) fun x18 => lo_ (if w_wo w < (upd (w_wa w) (Int32.toNatClampNeg q9) x13) (Int32.toNatClampNeg q9) then (upd (w_wa w) (Int32.toNatClampNeg q9) x13) (Int32.toNatClampNeg q9) else w_wo w) fun x20 => lo_ (w_su w + (upd (w_wa w) (Int32.toNatClampNeg q9) x13) (Int32.toNatClampNeg q9)) fun x22 => vp_in (w_tu w) 8 ∧ True)))))) else True)
theorem kvX2_serveNext : KV yX2_serveNext cX2_serveNext 3 (some .int) 1 := ⟨wcd_X2_serveNext, wim_X2_serveNext, wsl_X2_serveNext, win_X2, by decide +kernel, by decide +kernel, by decide +kernel⟩
set_option maxHeartbeats 4000000 in
set_option maxRecDepth 100000 in
theorem kX2_serveNext (l : Launch) (D : va_G) (cy : Nat → ClassId) (b : Nat → Nat) (a : Nat → Nat) (v : tVl) (w : tWl) {R : Int32 × tWl} (hO : oX2_serveNext v w) (hF : fX2_serveNext v w = R) : CT l D cy yX2_serveNext cX2_serveNext 3 (some .int) rX2_serveNext [.ref (a 0), .ref (b 0)] (gwV cy b v ++ gwW cy a w) (some (.int R.1)) (gwV cy b v ++ gwW cy a R.2) := by
  refine ct_of (by decide) (Nat.le_of_ble_eq_true rfl) ?_
  intro p e s m args below meth c A ls hM hK hP hD hS hl
  obtain ⟨hx, hb, -, hml, hown, hts, -⟩ := id hM
  have hl : lv_has ls 3 [(0, .ref (a 0)), (1, .ref (b 0))] := hl
  obtain ⟨H, hH⟩ : ∃ H : Heap, H = s.heap := ⟨_, rfl⟩
  obtain ⟨locs, hlocs⟩ : ∃ q : List Loc, q = [] := ⟨_, rfl⟩
  have hP : va_P D classes (gwV cy b v ++ gwW cy a w) H := by rw [hH]; exact hP
  have hS : va_S A s.heap H locs := by rw [hH, hlocs]; exact hS
  suffices hg : W p l e rX2_serveNext s m args below meth c H locs 0 0 (MQ below (ctQ D (some (.int R.1)) (gwV cy b v ++ gwW cy a R.2) A) args s 0 0 A) (F0 m 0 ls []) by rw [hH, hlocs] at hg; exact hg
  clear hH hlocs
  unfold fX2_serveNext at hF
  unfold oX2_serveNext at hO
  refine lv_aload_n hx hb dX2_serveNext_0 rfl (lv_at hl 0 rfl) ?_
  refine ct_get (C := RX2) (T := TX2) (N := 10) (ci := 2) (v := .int (w_re w)) hM hK hP inX2 6 rfl rfl 9 (by decide) wfl_X2_67 rfl dX2_serveNext_1 ?_
  refine lv_if_eq (tgt := 16) hx hb dX2_serveNext_4 (by decide) (fun c1 => ?_) (fun c1 => ?_)
  · have hF := lt_t c1 hF
    have hO := lo_t c1 hO
    refine lv_bipush (v := (-6)) hx hb dX2_serveNext_16 (by decide) ?_
    subst hF
    exact ct_iret hM hP hS dX2_serveNext_18
  · have hF := lt_f c1 hF
    have hO := lo_f c1 hO
    refine lv_aload_n hx hb dX2_serveNext_7 rfl (lv_at hl 0 rfl) ?_
    refine ct_get (C := RX2) (T := TX2) (N := 10) (ci := 2) (v := .int (w_tu w)) hM hK hP inX2 6 rfl rfl 4 (by decide) wfl_X2_50 rfl dX2_serveNext_8 ?_
    refine lv_bipush (v := 8) hx hb dX2_serveNext_11 (by decide) ?_
    refine lv_icmp_lt (tgt := 19) hx hb dX2_serveNext_13 (by decide) (fun c2 => ?_) (fun c2 => ?_)
    · have hF := lt_t c2 hF
      have hO := lo_t c2 hO
      refine lv_aload_n hx hb dX2_serveNext_19 rfl (lv_at hl 0 rfl) ?_
      refine lv_aload_n hx hb dX2_serveNext_20 rfl (lv_at hl 0 rfl) ?_
      refine ct_get (C := RX2) (T := TX2) (N := 10) (ci := 2) (v := .int (w_ti w)) hM hK hP inX2 6 rfl rfl 7 (by decide) wfl_X2_73 rfl dX2_serveNext_21 ?_
      refine lv_aload_n hx hb dX2_serveNext_24 rfl (lv_at hl 1 rfl) ?_
      refine lv_aload_n hx hb dX2_serveNext_25 rfl (lv_at hl 0 rfl) ?_
      refine ct_get (C := RX2) (T := TX2) (N := 10) (ci := 2) (v := .int (w_re w)) hM hK hP inX2 6 rfl rfl 9 (by decide) wfl_X2_67 rfl dX2_serveNext_26 ?_
      obtain ⟨h3, hO⟩ := hO
      obtain ⟨q4, e5⟩ : ∃ q, fX1_firstComing v (w_re w) = q := ⟨_, rfl⟩
      have hF := lt_n e5 hF
      try have hO := lo_n e5 hO
      refine ct_callV (ws' := gwV cy b v ++ gwW cy a w) hM hK hP hD hS (kX1_firstComing l D cy b v (w_re w) h3 e5) kvX1_firstComing wml_X2_76 [0, 1, 2, 3, 4, 5] rfl (by decide) rfl rfl rfl 0 rfl rfl rfl rfl hl.1 rfl ⟨rfl, rfl, Nat.le_of_ble_eq_true rfl, Nat.le_of_ble_eq_true rfl⟩ (Nat.le_of_ble_eq_true rfl) ⟨Nat.zero_le _, Nat.zero_le _⟩ dX2_serveNext_29 (fun H locs hP hD hS => ?_)
      refine W.eq (g2 := F0 m 32 ls [.int q4, .int (w_ti w), .ref (a 0)]) rfl ?_
      refine ct_max hM hl.1 wml_X2_53 ⟨Nat.le_of_ble_eq_true rfl, Nat.le_of_ble_eq_true rfl⟩ ⟨Nat.zero_le _, Nat.zero_le _⟩ dX2_serveNext_32 ?_
      refine lv_topi (fun x6 e7 => ?_)
      have hF := lt_n e7.symm hF
      try have hO := lo_n e7.symm hO
      refine ct_put1 (C := RX2) (T := TX2) (N := 10) (ci := 2) (v := .int x6) hM hK hP hD hS inX2 tyX2 tyX2_ok nmX2 6 rfl rfl 7 (by decide) wfl_X2_73 rfl (by first | rfl | decide) (by first | rfl | decide) (Nat.le_of_ble_eq_true rfl) dX2_serveNext_35 (fun H locs hP hD hS => ?_)
      have hP : va_P D classes (gwV cy b v ++ gwW cy a (w_or w, w_be w, w_en w, w_wa w, w_tu w, w_wo w, w_su w, x6, w_co w, w_re w)) H := hP
      have hD : va_D A (gwV cy b v ++ gwW cy a (w_or w, w_be w, w_en w, w_wa w, w_tu w, w_wo w, w_su w, x6, w_co w, w_re w)) := hD
      refine lv_aload_n hx hb dX2_serveNext_38 rfl (lv_at hl 1 rfl) ?_
      refine lv_aload_n hx hb dX2_serveNext_39 rfl (lv_at hl 0 rfl) ?_
      refine ct_get (C := RX2) (T := TX2) (N := 10) (ci := 2) (v := .int x6) hM hK hP inX2 6 rfl rfl 7 (by decide) wfl_X2_73 rfl dX2_serveNext_40 ?_
      refine lv_aload_n hx hb dX2_serveNext_43 rfl (lv_at hl 0 rfl) ?_
      refine ct_get (C := RX2) (T := TX2) (N := 10) (ci := 2) (v := .int (w_re w)) hM hK hP inX2 6 rfl rfl 9 (by decide) wfl_X2_67 rfl dX2_serveNext_44 ?_
      obtain ⟨h8, hO⟩ := hO
      obtain ⟨q9, e10⟩ : ∃ q, fX1_nextAt v x6 (w_re w) = q := ⟨_, rfl⟩
      have hF := lt_n e10 hF
      try have hO := lo_n e10 hO
      refine ct_callV (ws' := gwV cy b v ++ gwW cy a (w_or w, w_be w, w_en w, w_wa w, w_tu w, w_wo w, w_su w, x6, w_co w, w_re w)) hM hK hP hD hS (kX1_nextAt l D cy b v x6 (w_re w) h8 e10) kvX1_nextAt wml_X2_79 [0, 1, 2, 3, 4, 5] rfl (by decide) rfl rfl rfl 0 rfl rfl rfl rfl hl.1 rfl ⟨rfl, rfl, Nat.le_of_ble_eq_true rfl, Nat.le_of_ble_eq_true rfl⟩ (Nat.le_of_ble_eq_true rfl) ⟨Nat.zero_le _, Nat.zero_le _⟩ dX2_serveNext_47 (fun H locs hP hD hS => ?_)
      refine W.eq (g2 := F0 m 50 ls [.int q9]) rfl ?_
      refine lv_istore_n (lv' := [(2, .int q9), (0, .ref (a 0)), (1, .ref (b 0))]) hx hb dX2_serveNext_50 rfl hl (by decide) rfl (fun ls hl => ?_)
      refine lv_iload_n hx hb dX2_serveNext_51 rfl (lv_at hl 0 rfl) ?_
      refine lv_bipush (v := (-6)) hx hb dX2_serveNext_52 (by decide) ?_
      refine lv_icmp_ne (tgt := 60) hx hb dX2_serveNext_54 (by decide) (fun c11 => ?_) (fun c11 => ?_)
      · have hF := lt_f c11 hF
        have hO := lo_f c11 hO
        refine lv_aload_n hx hb dX2_serveNext_60 rfl (lv_at hl 1 rfl) ?_
        refine ct_get (C := RX2) (T := TX2) (N := 10) (ci := 2) (v := .ref (a 2)) hM hK hP inX2 6 rfl rfl 1 (by decide) wfl_X2_15 rfl dX2_serveNext_61 ?_
        refine lv_iload_n hx hb dX2_serveNext_64 rfl (lv_at hl 0 rfl) ?_
        refine lv_aload_n hx hb dX2_serveNext_65 rfl (lv_at hl 1 rfl) ?_
        refine ct_get (C := RX2) (T := TX2) (N := 10) (ci := 2) (v := .int x6) hM hK hP inX2 6 rfl rfl 7 (by decide) wfl_X2_73 rfl dX2_serveNext_66 ?_
        obtain ⟨h12, hO⟩ := hO
        refine va_iast hx hb hK hP hD hS 8 0 (f := w_be w) (n := 8) (cA := cy 0) rfl rfl h12 dX2_serveNext_69 (fun H locs hP hD hS => ?_)
        have hP : va_P D classes (gwV cy b v ++ gwW cy a (w_or w, upd (w_be w) (Int32.toNatClampNeg q9) x6, w_en w, w_wa w, w_tu w, w_wo w, w_su w, x6, w_co w, w_re w)) H := hP
        have hD : va_D A (gwV cy b v ++ gwW cy a (w_or w, upd (w_be w) (Int32.toNatClampNeg q9) x6, w_en w, w_wa w, w_tu w, w_wo w, w_su w, x6, w_co w, w_re w)) := hD
        refine lv_aload_n hx hb dX2_serveNext_70 rfl (lv_at hl 1 rfl) ?_
        refine ct_get (C := RX2) (T := TX2) (N := 10) (ci := 2) (v := .ref (a 4)) hM hK hP inX2 6 rfl rfl 3 (by decide) wfl_X2_21 rfl dX2_serveNext_71 ?_
        refine lv_iload_n hx hb dX2_serveNext_74 rfl (lv_at hl 0 rfl) ?_
        refine lv_aload_n hx hb dX2_serveNext_75 rfl (lv_at hl 1 rfl) ?_
        refine ct_get (C := RX2) (T := TX2) (N := 10) (ci := 2) (v := .int x6) hM hK hP inX2 6 rfl rfl 7 (by decide) wfl_X2_73 rfl dX2_serveNext_76 ?_
        refine lv_aload_n hx hb dX2_serveNext_79 rfl (lv_at hl 2 rfl) ?_
        refine ct_get (C := RX1) (T := TX1) (N := 6) (ci := 1) (v := .ref (b 2)) hM hK hP inX1 0 rfl rfl 1 (by decide) wfl_X2_47 rfl dX2_serveNext_80 ?_
        refine lv_iload_n hx hb dX2_serveNext_83 rfl (lv_at hl 0 rfl) ?_
        refine va_iald hx hb hK hP 2 0 (f := v_mn v) (n := 8) (cA := cy 0) rfl rfl h12 dX2_serveNext_84 ?_
        refine lv_isub hx hb dX2_serveNext_85 ?_
        refine lv_topi (fun x13 e14 => ?_)
        have hF := lt_n e14.symm hF
        try have hO := lo_n e14.symm hO
        refine va_iast hx hb hK hP hD hS 10 0 (f := w_wa w) (n := 8) (cA := cy 0) rfl rfl h12 dX2_serveNext_86 (fun H locs hP hD hS => ?_)
        have hP : va_P D classes (gwV cy b v ++ gwW cy a (w_or w, upd (w_be w) (Int32.toNatClampNeg q9) x6, w_en w, upd (w_wa w) (Int32.toNatClampNeg q9) x13, w_tu w, w_wo w, w_su w, x6, w_co w, w_re w)) H := hP
        have hD : va_D A (gwV cy b v ++ gwW cy a (w_or w, upd (w_be w) (Int32.toNatClampNeg q9) x6, w_en w, upd (w_wa w) (Int32.toNatClampNeg q9) x13, w_tu w, w_wo w, w_su w, x6, w_co w, w_re w)) := hD
        refine lv_aload_n hx hb dX2_serveNext_87 rfl (lv_at hl 1 rfl) ?_
        refine lv_dup hx hb dX2_serveNext_88 rfl ?_
        refine ct_get (C := RX2) (T := TX2) (N := 10) (ci := 2) (v := .int x6) hM hK hP inX2 6 rfl rfl 7 (by decide) wfl_X2_73 rfl dX2_serveNext_89 ?_
        refine lv_aload_n hx hb dX2_serveNext_92 rfl (lv_at hl 2 rfl) ?_
        refine lv_iload_n hx hb dX2_serveNext_93 rfl (lv_at hl 0 rfl) ?_
        obtain ⟨h15, hO⟩ := hO
        obtain ⟨q16, e17⟩ : ∃ q, fX1_timeToDraw v q9 = q := ⟨_, rfl⟩
        have hF := lt_n e17 hF
        try have hO := lo_n e17 hO
        refine ct_callV (ws' := gwV cy b v ++ gwW cy a (w_or w, upd (w_be w) (Int32.toNatClampNeg q9) x6, w_en w, upd (w_wa w) (Int32.toNatClampNeg q9) x13, w_tu w, w_wo w, w_su w, x6, w_co w, w_re w)) hM hK hP hD hS (kX1_timeToDraw l D cy b v q9 h15 e17) kvX1_timeToDraw wml_X2_82 [0, 1, 2, 3, 4, 5] rfl (by decide) rfl rfl rfl 0 rfl rfl rfl rfl hl.1 rfl ⟨rfl, rfl, Nat.le_of_ble_eq_true rfl, Nat.le_of_ble_eq_true rfl⟩ (Nat.le_of_ble_eq_true rfl) ⟨Nat.zero_le _, Nat.zero_le _⟩ dX2_serveNext_94 (fun H locs hP hD hS => ?_)
        refine W.eq (g2 := F0 m 97 ls [.int q16, .int x6, .ref (a 0)]) rfl ?_
        refine lv_iadd hx hb dX2_serveNext_97 ?_
        refine lv_topi (fun x18 e19 => ?_)
        have hF := lt_n e19.symm hF
        try have hO := lo_n e19.symm hO
        refine ct_put1 (C := RX2) (T := TX2) (N := 10) (ci := 2) (v := .int x18) hM hK hP hD hS inX2 tyX2 tyX2_ok nmX2 6 rfl rfl 7 (by decide) wfl_X2_73 rfl (by first | rfl | decide) (by first | rfl | decide) (Nat.le_of_ble_eq_true rfl) dX2_serveNext_98 (fun H locs hP hD hS => ?_)
        have hP : va_P D classes (gwV cy b v ++ gwW cy a (w_or w, upd (w_be w) (Int32.toNatClampNeg q9) x6, w_en w, upd (w_wa w) (Int32.toNatClampNeg q9) x13, w_tu w, w_wo w, w_su w, x18, w_co w, w_re w)) H := hP
        have hD : va_D A (gwV cy b v ++ gwW cy a (w_or w, upd (w_be w) (Int32.toNatClampNeg q9) x6, w_en w, upd (w_wa w) (Int32.toNatClampNeg q9) x13, w_tu w, w_wo w, w_su w, x18, w_co w, w_re w)) := hD
        refine lv_aload_n hx hb dX2_serveNext_101 rfl (lv_at hl 1 rfl) ?_
        refine ct_get (C := RX2) (T := TX2) (N := 10) (ci := 2) (v := .ref (a 3)) hM hK hP inX2 6 rfl rfl 2 (by decide) wfl_X2_18 rfl dX2_serveNext_102 ?_
        refine lv_iload_n hx hb dX2_serveNext_105 rfl (lv_at hl 0 rfl) ?_
        refine lv_aload_n hx hb dX2_serveNext_106 rfl (lv_at hl 1 rfl) ?_
        refine ct_get (C := RX2) (T := TX2) (N := 10) (ci := 2) (v := .int x18) hM hK hP inX2 6 rfl rfl 7 (by decide) wfl_X2_73 rfl dX2_serveNext_107 ?_
        refine va_iast hx hb hK hP hD hS 9 0 (f := w_en w) (n := 8) (cA := cy 0) rfl rfl h12 dX2_serveNext_110 (fun H locs hP hD hS => ?_)
        have hP : va_P D classes (gwV cy b v ++ gwW cy a (w_or w, upd (w_be w) (Int32.toNatClampNeg q9) x6, upd (w_en w) (Int32.toNatClampNeg q9) x18, upd (w_wa w) (Int32.toNatClampNeg q9) x13, w_tu w, w_wo w, w_su w, x18, w_co w, w_re w)) H := hP
        have hD : va_D A (gwV cy b v ++ gwW cy a (w_or w, upd (w_be w) (Int32.toNatClampNeg q9) x6, upd (w_en w) (Int32.toNatClampNeg q9) x18, upd (w_wa w) (Int32.toNatClampNeg q9) x13, w_tu w, w_wo w, w_su w, x18, w_co w, w_re w)) := hD
        refine lv_aload_n hx hb dX2_serveNext_111 rfl (lv_at hl 1 rfl) ?_
        refine lv_aload_n hx hb dX2_serveNext_112 rfl (lv_at hl 1 rfl) ?_
        refine ct_get (C := RX2) (T := TX2) (N := 10) (ci := 2) (v := .int (w_wo w)) hM hK hP inX2 6 rfl rfl 5 (by decide) wfl_X2_64 rfl dX2_serveNext_113 ?_
        refine lv_aload_n hx hb dX2_serveNext_116 rfl (lv_at hl 1 rfl) ?_
        refine ct_get (C := RX2) (T := TX2) (N := 10) (ci := 2) (v := .ref (a 4)) hM hK hP inX2 6 rfl rfl 3 (by decide) wfl_X2_21 rfl dX2_serveNext_117 ?_
        refine lv_iload_n hx hb dX2_serveNext_120 rfl (lv_at hl 0 rfl) ?_
        refine va_iald hx hb hK hP 10 0 (f := upd (w_wa w) (Int32.toNatClampNeg q9) x13) (n := 8) (cA := cy 0) rfl rfl h12 dX2_serveNext_121 ?_
        refine ct_max hM hl.1 wml_X2_53 ⟨Nat.le_of_ble_eq_true rfl, Nat.le_of_ble_eq_true rfl⟩ ⟨Nat.zero_le _, Nat.zero_le _⟩ dX2_serveNext_122 ?_
        refine lv_topi (fun x20 e21 => ?_)
        have hF := lt_n e21.symm hF
        try have hO := lo_n e21.symm hO
        refine ct_put1 (C := RX2) (T := TX2) (N := 10) (ci := 2) (v := .int x20) hM hK hP hD hS inX2 tyX2 tyX2_ok nmX2 6 rfl rfl 5 (by decide) wfl_X2_64 rfl (by first | rfl | decide) (by first | rfl | decide) (Nat.le_of_ble_eq_true rfl) dX2_serveNext_125 (fun H locs hP hD hS => ?_)
        have hP : va_P D classes (gwV cy b v ++ gwW cy a (w_or w, upd (w_be w) (Int32.toNatClampNeg q9) x6, upd (w_en w) (Int32.toNatClampNeg q9) x18, upd (w_wa w) (Int32.toNatClampNeg q9) x13, w_tu w, x20, w_su w, x18, w_co w, w_re w)) H := hP
        have hD : va_D A (gwV cy b v ++ gwW cy a (w_or w, upd (w_be w) (Int32.toNatClampNeg q9) x6, upd (w_en w) (Int32.toNatClampNeg q9) x18, upd (w_wa w) (Int32.toNatClampNeg q9) x13, w_tu w, x20, w_su w, x18, w_co w, w_re w)) := hD
        refine lv_aload_n hx hb dX2_serveNext_128 rfl (lv_at hl 1 rfl) ?_
        refine lv_dup hx hb dX2_serveNext_129 rfl ?_
        refine ct_get (C := RX2) (T := TX2) (N := 10) (ci := 2) (v := .int (w_su w)) hM hK hP inX2 6 rfl rfl 6 (by decide) wfl_X2_70 rfl dX2_serveNext_130 ?_
        refine lv_aload_n hx hb dX2_serveNext_133 rfl (lv_at hl 1 rfl) ?_
        refine ct_get (C := RX2) (T := TX2) (N := 10) (ci := 2) (v := .ref (a 4)) hM hK hP inX2 6 rfl rfl 3 (by decide) wfl_X2_21 rfl dX2_serveNext_134 ?_
        refine lv_iload_n hx hb dX2_serveNext_137 rfl (lv_at hl 0 rfl) ?_
        refine va_iald hx hb hK hP 10 0 (f := upd (w_wa w) (Int32.toNatClampNeg q9) x13) (n := 8) (cA := cy 0) rfl rfl h12 dX2_serveNext_138 ?_
        refine lv_iadd hx hb dX2_serveNext_139 ?_
        refine lv_topi (fun x22 e23 => ?_)
        have hF := lt_n e23.symm hF
        try have hO := lo_n e23.symm hO
        refine ct_put1 (C := RX2) (T := TX2) (N := 10) (ci := 2) (v := .int x22) hM hK hP hD hS inX2 tyX2 tyX2_ok nmX2 6 rfl rfl 6 (by decide) wfl_X2_70 rfl (by first | rfl | decide) (by first | rfl | decide) (Nat.le_of_ble_eq_true rfl) dX2_serveNext_140 (fun H locs hP hD hS => ?_)
        have hP : va_P D classes (gwV cy b v ++ gwW cy a (w_or w, upd (w_be w) (Int32.toNatClampNeg q9) x6, upd (w_en w) (Int32.toNatClampNeg q9) x18, upd (w_wa w) (Int32.toNatClampNeg q9) x13, w_tu w, x20, x22, x18, w_co w, w_re w)) H := hP
        have hD : va_D A (gwV cy b v ++ gwW cy a (w_or w, upd (w_be w) (Int32.toNatClampNeg q9) x6, upd (w_en w) (Int32.toNatClampNeg q9) x18, upd (w_wa w) (Int32.toNatClampNeg q9) x13, w_tu w, x20, x22, x18, w_co w, w_re w)) := hD
        refine lv_aload_n hx hb dX2_serveNext_143 rfl (lv_at hl 1 rfl) ?_
        refine ct_get (C := RX2) (T := TX2) (N := 10) (ci := 2) (v := .ref (a 1)) hM hK hP inX2 6 rfl rfl 0 (by decide) wfl_X2_9 rfl dX2_serveNext_144 ?_
        refine lv_aload_n hx hb dX2_serveNext_147 rfl (lv_at hl 1 rfl) ?_
        refine ct_get (C := RX2) (T := TX2) (N := 10) (ci := 2) (v := .int (w_tu w)) hM hK hP inX2 6 rfl rfl 4 (by decide) wfl_X2_50 rfl dX2_serveNext_148 ?_
        refine lv_iload_n hx hb dX2_serveNext_151 rfl (lv_at hl 0 rfl) ?_
        obtain ⟨h24, hO⟩ := hO
        refine va_iast hx hb hK hP hD hS 7 0 (f := w_or w) (n := 8) (cA := cy 0) rfl rfl h24 dX2_serveNext_152 (fun H locs hP hD hS => ?_)
        have hP : va_P D classes (gwV cy b v ++ gwW cy a (upd (w_or w) (Int32.toNatClampNeg (w_tu w)) q9, upd (w_be w) (Int32.toNatClampNeg q9) x6, upd (w_en w) (Int32.toNatClampNeg q9) x18, upd (w_wa w) (Int32.toNatClampNeg q9) x13, w_tu w, x20, x22, x18, w_co w, w_re w)) H := hP
        have hD : va_D A (gwV cy b v ++ gwW cy a (upd (w_or w) (Int32.toNatClampNeg (w_tu w)) q9, upd (w_be w) (Int32.toNatClampNeg q9) x6, upd (w_en w) (Int32.toNatClampNeg q9) x18, upd (w_wa w) (Int32.toNatClampNeg q9) x13, w_tu w, x20, x22, x18, w_co w, w_re w)) := hD
        refine lv_aload_n hx hb dX2_serveNext_153 rfl (lv_at hl 1 rfl) ?_
        refine lv_dup hx hb dX2_serveNext_154 rfl ?_
        refine ct_get (C := RX2) (T := TX2) (N := 10) (ci := 2) (v := .int (w_tu w)) hM hK hP inX2 6 rfl rfl 4 (by decide) wfl_X2_50 rfl dX2_serveNext_155 ?_
        refine lv_iconst (v := 1) hx hb dX2_serveNext_158 (by decide) ?_
        refine lv_iadd hx hb dX2_serveNext_159 ?_
        refine lv_topi (fun x25 e26 => ?_)
        have hF := lt_n e26.symm hF
        try have hO := lo_n e26.symm hO
        refine ct_put1 (C := RX2) (T := TX2) (N := 10) (ci := 2) (v := .int x25) hM hK hP hD hS inX2 tyX2 tyX2_ok nmX2 6 rfl rfl 4 (by decide) wfl_X2_50 rfl (by first | rfl | decide) (by first | rfl | decide) (Nat.le_of_ble_eq_true rfl) dX2_serveNext_160 (fun H locs hP hD hS => ?_)
        have hP : va_P D classes (gwV cy b v ++ gwW cy a (upd (w_or w) (Int32.toNatClampNeg (w_tu w)) q9, upd (w_be w) (Int32.toNatClampNeg q9) x6, upd (w_en w) (Int32.toNatClampNeg q9) x18, upd (w_wa w) (Int32.toNatClampNeg q9) x13, x25, x20, x22, x18, w_co w, w_re w)) H := hP
        have hD : va_D A (gwV cy b v ++ gwW cy a (upd (w_or w) (Int32.toNatClampNeg (w_tu w)) q9, upd (w_be w) (Int32.toNatClampNeg q9) x6, upd (w_en w) (Int32.toNatClampNeg q9) x18, upd (w_wa w) (Int32.toNatClampNeg q9) x13, x25, x20, x22, x18, w_co w, w_re w)) := hD
        refine lv_aload_n hx hb dX2_serveNext_163 rfl (lv_at hl 1 rfl) ?_
        refine lv_dup hx hb dX2_serveNext_164 rfl ?_
        refine ct_get (C := RX2) (T := TX2) (N := 10) (ci := 2) (v := .int (w_re w)) hM hK hP inX2 6 rfl rfl 9 (by decide) wfl_X2_67 rfl dX2_serveNext_165 ?_
        refine lv_iconst (v := 1) hx hb dX2_serveNext_168 (by decide) ?_
        refine lv_iload_n hx hb dX2_serveNext_169 rfl (lv_at hl 0 rfl) ?_
        refine lv_ishl hx hb dX2_serveNext_170 ?_
        refine lv_iconst (v := (-1)) hx hb dX2_serveNext_171 (by decide) ?_
        refine lv_ixor hx hb dX2_serveNext_172 ?_
        refine lv_iand hx hb dX2_serveNext_173 ?_
        refine lv_topi (fun x27 e28 => ?_)
        have hF := lt_n e28.symm hF
        try have hO := lo_n e28.symm hO
        refine ct_put1 (C := RX2) (T := TX2) (N := 10) (ci := 2) (v := .int x27) hM hK hP hD hS inX2 tyX2 tyX2_ok nmX2 6 rfl rfl 9 (by decide) wfl_X2_67 rfl (by first | rfl | decide) (by first | rfl | decide) (Nat.le_of_ble_eq_true rfl) dX2_serveNext_174 (fun H locs hP hD hS => ?_)
        have hP : va_P D classes (gwV cy b v ++ gwW cy a (upd (w_or w) (Int32.toNatClampNeg (w_tu w)) q9, upd (w_be w) (Int32.toNatClampNeg q9) x6, upd (w_en w) (Int32.toNatClampNeg q9) x18, upd (w_wa w) (Int32.toNatClampNeg q9) x13, x25, x20, x22, x18, w_co w, x27)) H := hP
        have hD : va_D A (gwV cy b v ++ gwW cy a (upd (w_or w) (Int32.toNatClampNeg (w_tu w)) q9, upd (w_be w) (Int32.toNatClampNeg q9) x6, upd (w_en w) (Int32.toNatClampNeg q9) x18, upd (w_wa w) (Int32.toNatClampNeg q9) x13, x25, x20, x22, x18, w_co w, x27)) := hD
        refine lv_iload_n hx hb dX2_serveNext_177 rfl (lv_at hl 0 rfl) ?_
        subst hF
        exact ct_iret hM hP hS dX2_serveNext_178
      · have hF := lt_t c11 hF
        have hO := lo_t c11 hO
        refine lv_bipush (v := (-6)) hx hb dX2_serveNext_57 (by decide) ?_
        subst hF
        exact ct_iret hM hP hS dX2_serveNext_59
    · have hF := lt_f c2 hF
      have hO := lo_f c2 hO
      refine lv_bipush (v := (-6)) hx hb dX2_serveNext_16 (by decide) ?_
      subst hF
      exact ct_iret hM hP hS dX2_serveNext_18

abbrev rX2_run : Room := { frames := 4, cells := 0, slots := 0, locals := 96 }
def fX2_run_7 (v : tVl) : Nat → tWl → Int32 → tWl
  | 0, w, s3 => w
  | n + 1, w, s3 => if 8 ≤ s3 then w else (lt_ (fX2_serveNext v w) fun q6 => if q6.1 = (-6) then q6.2 else (lt_ (s3 + 1) fun x9 => fX2_run_7 v n q6.2 x9))
def oX2_run_7 (v : tVl) : Nat → tWl → Int32 → Prop
  | 0, _, _ => False
  | n + 1, w, s3 => if 8 ≤ s3 then True else (oX2_serveNext v w ∧ (lo_ (fX2_serveNext v w) fun q6 => if q6.1 = (-6) then True else (lo_ (s3 + 1) fun x9 => oX2_run_7 v n q6.2 x9)))
set_option maxHeartbeats 4000000 in
set_option maxRecDepth 100000 in
theorem tX2_run_7 {p : Program} {l : Launch} {e : Env} {s : State} {m : MethodId} {args : Array Value} {below : List Frame} {meth : Method} {c : Code} {A : Nat → Prop} {D : va_G} {cy : Nat → ClassId} {b : Nat → Nat} {a : Nat → Nat} {v : tVl} {s2 : Int32} {R : tWl} (hM : MC p s m args meth c RX2 cX2_run 4 none) (hK : va_K D classes (ctT cy) s) :
    ∀ (n : Nat) (w : tWl) (s3 : Int32) (H : Heap) (locs : List Loc) (ls : Array Slot), va_P D classes (gwV cy b v ++ gwW cy a w) H → va_D A (gwV cy b v ++ gwW cy a w) → va_S A s.heap H locs → lv_has ls 4 [(0, .ref (a 0)), (1, .ref (b 0)), (2, .int s2), (3, .int s3)] → oX2_run_7 v n w s3 → fX2_run_7 v n w s3 = R → W p l e rX2_run s m args below meth c H locs 0 0 (MQ below (ctQ D none (gwV cy b v ++ gwW cy a R) A) args s 0 0 A) (F0 m 7 ls []) := by
  obtain ⟨hx, hb, -, hml, hown, hts, -⟩ := id hM
  intro n
  induction n with
  | zero =>
    intro w s3 H locs ls hP hD hS hl hO hF
    exact False.elim hO
  | succ n ih =>
    intro w s3 H locs ls hP hD hS hl hO hF
    rw [fX2_run_7] at hF
    rw [oX2_run_7] at hO
    refine lv_iload_n hx hb dX2_run_7 rfl (lv_at hl 3 rfl) ?_
    refine lv_bipush (v := 8) hx hb dX2_run_8 (by decide) ?_
    refine lv_icmp_ge (tgt := 32) hx hb dX2_run_10 (by decide) (fun c4 => ?_) (fun c4 => ?_)
    · have hF := lt_t c4 hF
      have hO := lo_t c4 hO
      subst hF
      exact ct_vret hM hP hS dX2_run_32
    · have hF := lt_f c4 hF
      have hO := lo_f c4 hO
      refine lv_aload_n hx hb dX2_run_13 rfl (lv_at hl 0 rfl) ?_
      refine lv_aload_n hx hb dX2_run_14 rfl (lv_at hl 1 rfl) ?_
      obtain ⟨h5, hO⟩ := hO
      obtain ⟨q6, e7⟩ : ∃ q, fX2_serveNext v w = q := ⟨_, rfl⟩
      have hF := lt_n e7 hF
      try have hO := lo_n e7 hO
      refine ct_callV (ws' := gwV cy b v ++ gwW cy a q6.2) hM hK hP hD hS (kX2_serveNext l D cy b a v w h5 e7) kvX2_serveNext wml_X2_28 [0, 1, 2, 3, 4, 5, 6, 7, 8, 9, 10] rfl (by decide) rfl rfl rfl 6 rfl rfl rfl rfl hl.1 rfl ⟨rfl, rfl, Nat.le_of_ble_eq_true rfl, Nat.le_of_ble_eq_true rfl⟩ (Nat.le_of_ble_eq_true rfl) ⟨Nat.zero_le _, Nat.zero_le _⟩ dX2_run_15 (fun H locs hP hD hS => ?_)
      refine W.eq (g2 := F0 m 18 ls [.int q6.1]) rfl ?_
      refine lv_bipush (v := (-6)) hx hb dX2_run_18 (by decide) ?_
      refine lv_icmp_ne (tgt := 26) hx hb dX2_run_20 (by decide) (fun c8 => ?_) (fun c8 => ?_)
      · have hF := lt_f c8 hF
        have hO := lo_f c8 hO
        obtain ⟨x9, e10⟩ : ∃ y : Int32, s3 + 1 = y := ⟨_, rfl⟩
        have hF := lt_n e10 hF
        try have hO := lo_n e10 hO
        refine lv_iinc (v := x9) (lv' := [(3, .int x9), (0, .ref (a 0)), (1, .ref (b 0)), (2, .int s2)]) hx hb dX2_run_26 hl (k := 3) rfl (by rw [← e10]; rfl) (by decide) rfl (fun ls hl => ?_)
        refine lv_goto (tgt := 7) hx hb dX2_run_29 (by decide) ?_
        exact ih q6.2 x9 H locs ls hP hD hS (lv_sub hl [1, 2, 3, 0] rfl) hO hF
      · have hF := lt_t c8 hF
        have hO := lo_t c8 hO
        refine lv_goto (tgt := 32) hx hb dX2_run_23 (by decide) ?_
        subst hF
        exact ct_vret hM hP hS dX2_run_32

def fX2_run (v : tVl) (w : tWl) (s2 : Int32) : tWl := lt_ (fX2_start w s2) fun q2 => fX2_run_7 v 9 q2 0
def oX2_run (v : tVl) (w : tWl) (s2 : Int32) : Prop := lo_ (fX2_start w s2) fun q2 => oX2_run_7 v 9 q2 0
theorem kvX2_run : KV yX2_run cX2_run 4 none 2 := ⟨wcd_X2_run, wim_X2_run, wsl_X2_run, win_X2, by decide +kernel, by decide +kernel, by decide +kernel⟩
set_option maxHeartbeats 4000000 in
set_option maxRecDepth 100000 in
theorem kX2_run (l : Launch) (D : va_G) (cy : Nat → ClassId) (b : Nat → Nat) (a : Nat → Nat) (v : tVl) (w : tWl) (s2 : Int32) {R : tWl} (hO : oX2_run v w s2) (hF : fX2_run v w s2 = R) : CT l D cy yX2_run cX2_run 4 none rX2_run [.ref (a 0), .ref (b 0), .int s2] (gwV cy b v ++ gwW cy a w) none (gwV cy b v ++ gwW cy a R) := by
  refine ct_of (by decide) (Nat.le_of_ble_eq_true rfl) ?_
  intro p e s m args below meth c A ls hM hK hP hD hS hl
  obtain ⟨hx, hb, -, hml, hown, hts, -⟩ := id hM
  have hl : lv_has ls 4 [(0, .ref (a 0)), (1, .ref (b 0)), (2, .int s2)] := hl
  obtain ⟨H, hH⟩ : ∃ H : Heap, H = s.heap := ⟨_, rfl⟩
  obtain ⟨locs, hlocs⟩ : ∃ q : List Loc, q = [] := ⟨_, rfl⟩
  have hP : va_P D classes (gwV cy b v ++ gwW cy a w) H := by rw [hH]; exact hP
  have hS : va_S A s.heap H locs := by rw [hH, hlocs]; exact hS
  suffices hg : W p l e rX2_run s m args below meth c H locs 0 0 (MQ below (ctQ D none (gwV cy b v ++ gwW cy a R) A) args s 0 0 A) (F0 m 0 ls []) by rw [hH, hlocs] at hg; exact hg
  clear hH hlocs
  unfold fX2_run at hF
  unfold oX2_run at hO
  refine lv_aload_n hx hb dX2_run_0 rfl (lv_at hl 0 rfl) ?_
  refine lv_iload_n hx hb dX2_run_1 rfl (lv_at hl 2 rfl) ?_
  obtain ⟨q2, e3⟩ : ∃ q, fX2_start w s2 = q := ⟨_, rfl⟩
  have hF := lt_n e3 hF
  try have hO := lo_n e3 hO
  refine ct_callV (ws' := gwV cy b v ++ gwW cy a q2) hM hK hP hD hS (kX2_start l D cy a w s2 trivial e3) kvX2_start wml_X2_24 [6, 7, 8, 9, 10] rfl (by decide) rfl rfl rfl 6 rfl rfl rfl rfl hl.1 rfl ⟨rfl, rfl, Nat.le_of_ble_eq_true rfl, Nat.le_of_ble_eq_true rfl⟩ (Nat.le_of_ble_eq_true rfl) ⟨Nat.zero_le _, Nat.zero_le _⟩ dX2_run_2 (fun H locs hP hD hS => ?_)
  refine W.eq (g2 := F0 m 5 ls []) rfl ?_
  refine lv_iconst (v := 0) hx hb dX2_run_5 (by decide) ?_
  refine lv_istore_n (lv' := [(3, .int 0), (0, .ref (a 0)), (1, .ref (b 0)), (2, .int s2)]) hx hb dX2_run_6 rfl hl (by decide) rfl (fun ls hl => ?_)
  exact tX2_run_7 hM hK 9 q2 0 H locs ls hP hD hS (lv_sub hl [1, 2, 3, 0] rfl) hO hF

abbrev rX2_keepsTo : Room := { frames := 4, cells := 0, slots := 0, locals := 96 }
def fX2_keepsTo_10 (v : tVl) (pd : tPd) : Nat → tWl → Int32 → Int32 × tWl
  | 0, w, s3 => (0, w)
  | n + 1, w, s3 => if p_ct pd ≤ s3 then (1, w) else (if 8 ≤ s3 then (1, w) else (lt_ (fX2_serveNext v w) fun q7 => lt_ (fX0_personAt pd s3) fun q10 => if q7.1 = q10 then (lt_ (s3 + 1) fun x13 => fX2_keepsTo_10 v pd n q7.2 x13) else (0, q7.2)))
def oX2_keepsTo_10 (v : tVl) (pd : tPd) : Nat → tWl → Int32 → Prop
  | 0, _, _ => False
  | n + 1, w, s3 => if p_ct pd ≤ s3 then True else (if 8 ≤ s3 then True else (oX2_serveNext v w ∧ (lo_ (fX2_serveNext v w) fun q7 => oX0_personAt pd s3 ∧ (lo_ (fX0_personAt pd s3) fun q10 => if q7.1 = q10 then (lo_ (s3 + 1) fun x13 => oX2_keepsTo_10 v pd n q7.2 x13) else True))))
set_option maxHeartbeats 4000000 in
set_option maxRecDepth 100000 in
theorem tX2_keepsTo_10 {p : Program} {l : Launch} {e : Env} {s : State} {m : MethodId} {args : Array Value} {below : List Frame} {meth : Method} {c : Code} {A : Nat → Prop} {D : va_G} {cy : Nat → ClassId} {b : Nat → Nat} {a : Nat → Nat} {d : Nat → Nat} {v : tVl} {pd : tPd} {R : Int32 × tWl} (hM : MC p s m args meth c RX2 cX2_keepsTo 4 (some .boolean)) (hK : va_K D classes (ctT cy) s) :
    ∀ (n : Nat) (w : tWl) (s3 : Int32) (H : Heap) (locs : List Loc) (ls : Array Slot), va_P D classes (gwV cy b v ++ (gwW cy a w ++ gwP cy d pd)) H → va_D A (gwV cy b v ++ (gwW cy a w ++ gwP cy d pd)) → va_S A s.heap H locs → lv_has ls 4 [(0, .ref (a 0)), (1, .ref (b 0)), (2, .ref (d 0)), (3, .int s3)] → oX2_keepsTo_10 v pd n w s3 → fX2_keepsTo_10 v pd n w s3 = R → W p l e rX2_keepsTo s m args below meth c H locs 0 0 (MQ below (ctQ D (some (.int R.1)) (gwV cy b v ++ (gwW cy a R.2 ++ gwP cy d pd)) A) args s 0 0 A) (F0 m 10 ls []) := by
  obtain ⟨hx, hb, -, hml, hown, hts, -⟩ := id hM
  intro n
  induction n with
  | zero =>
    intro w s3 H locs ls hP hD hS hl hO hF
    exact False.elim hO
  | succ n ih =>
    intro w s3 H locs ls hP hD hS hl hO hF
    rw [fX2_keepsTo_10] at hF
    rw [oX2_keepsTo_10] at hO
    refine lv_iload_n hx hb dX2_keepsTo_10 rfl (lv_at hl 3 rfl) ?_
    refine lv_aload_n hx hb dX2_keepsTo_11 rfl (lv_at hl 2 rfl) ?_
    refine ct_get (C := RX0) (T := TX0) (N := 2) (ci := 0) (v := .int (p_ct pd)) hM hK hP inX0 11 rfl rfl 0 (by decide) wfl_X2_38 rfl dX2_keepsTo_12 ?_
    refine lv_icmp_ge (tgt := 45) hx hb dX2_keepsTo_15 (by decide) (fun c4 => ?_) (fun c4 => ?_)
    · have hF := lt_t c4 hF
      have hO := lo_t c4 hO
      refine lv_iconst (v := 1) hx hb dX2_keepsTo_45 (by decide) ?_
      subst hF
      exact ct_zret (r := 1) hM hP hS rfl dX2_keepsTo_46
    · have hF := lt_f c4 hF
      have hO := lo_f c4 hO
      refine lv_iload_n hx hb dX2_keepsTo_18 rfl (lv_at hl 3 rfl) ?_
      refine lv_bipush (v := 8) hx hb dX2_keepsTo_19 (by decide) ?_
      refine lv_icmp_ge (tgt := 45) hx hb dX2_keepsTo_21 (by decide) (fun c5 => ?_) (fun c5 => ?_)
      · have hF := lt_t c5 hF
        have hO := lo_t c5 hO
        refine lv_iconst (v := 1) hx hb dX2_keepsTo_45 (by decide) ?_
        subst hF
        exact ct_zret (r := 1) hM hP hS rfl dX2_keepsTo_46
      · have hF := lt_f c5 hF
        have hO := lo_f c5 hO
        refine lv_aload_n hx hb dX2_keepsTo_24 rfl (lv_at hl 0 rfl) ?_
        refine lv_aload_n hx hb dX2_keepsTo_25 rfl (lv_at hl 1 rfl) ?_
        obtain ⟨h6, hO⟩ := hO
        obtain ⟨q7, e8⟩ : ∃ q, fX2_serveNext v w = q := ⟨_, rfl⟩
        have hF := lt_n e8 hF
        try have hO := lo_n e8 hO
        refine ct_callV (ws' := gwV cy b v ++ (gwW cy a q7.2 ++ gwP cy d pd)) hM hK hP hD hS (kX2_serveNext l D cy b a v w h6 e8) kvX2_serveNext wml_X2_28 [0, 1, 2, 3, 4, 5, 6, 7, 8, 9, 10] rfl (by decide) rfl rfl rfl 6 rfl rfl rfl rfl hl.1 rfl ⟨rfl, rfl, Nat.le_of_ble_eq_true rfl, Nat.le_of_ble_eq_true rfl⟩ (Nat.le_of_ble_eq_true rfl) ⟨Nat.zero_le _, Nat.zero_le _⟩ dX2_keepsTo_26 (fun H locs hP hD hS => ?_)
        refine W.eq (g2 := F0 m 29 ls [.int q7.1]) rfl ?_
        refine lv_aload_n hx hb dX2_keepsTo_29 rfl (lv_at hl 2 rfl) ?_
        refine lv_iload_n hx hb dX2_keepsTo_30 rfl (lv_at hl 3 rfl) ?_
        obtain ⟨h9, hO⟩ := hO
        obtain ⟨q10, e11⟩ : ∃ q, fX0_personAt pd s3 = q := ⟨_, rfl⟩
        have hF := lt_n e11 hF
        try have hO := lo_n e11 hO
        refine ct_callV (ws' := gwV cy b v ++ (gwW cy a q7.2 ++ gwP cy d pd)) hM hK hP hD hS (kX0_personAt l D cy d pd s3 h9 e11) kvX0_personAt wml_X2_43 [11, 12] rfl (by decide) rfl rfl rfl 11 rfl rfl rfl rfl hl.1 rfl ⟨rfl, rfl, Nat.le_of_ble_eq_true rfl, Nat.le_of_ble_eq_true rfl⟩ (Nat.le_of_ble_eq_true rfl) ⟨Nat.zero_le _, Nat.zero_le _⟩ dX2_keepsTo_31 (fun H locs hP hD hS => ?_)
        refine W.eq (g2 := F0 m 34 ls [.int q10, .int q7.1]) rfl ?_
        refine lv_icmp_eq (tgt := 39) hx hb dX2_keepsTo_34 (by decide) (fun c12 => ?_) (fun c12 => ?_)
        · have hF := lt_t c12 hF
          have hO := lo_t c12 hO
          obtain ⟨x13, e14⟩ : ∃ y : Int32, s3 + 1 = y := ⟨_, rfl⟩
          have hF := lt_n e14 hF
          try have hO := lo_n e14 hO
          refine lv_iinc (v := x13) (lv' := [(3, .int x13), (0, .ref (a 0)), (1, .ref (b 0)), (2, .ref (d 0))]) hx hb dX2_keepsTo_39 hl (k := 3) rfl (by rw [← e14]; rfl) (by decide) rfl (fun ls hl => ?_)
          refine lv_goto (tgt := 10) hx hb dX2_keepsTo_42 (by decide) ?_
          exact ih q7.2 x13 H locs ls hP hD hS (lv_sub hl [1, 2, 3, 0] rfl) hO hF
        · have hF := lt_f c12 hF
          have hO := lo_f c12 hO
          refine lv_iconst (v := 0) hx hb dX2_keepsTo_37 (by decide) ?_
          subst hF
          exact ct_zret (r := 0) hM hP hS rfl dX2_keepsTo_38

def fX2_keepsTo (v : tVl) (w : tWl) (pd : tPd) : Int32 × tWl := lt_ (fX2_start w (v_cm v)) fun q2 => fX2_keepsTo_10 v pd 9 q2 0
def oX2_keepsTo (v : tVl) (w : tWl) (pd : tPd) : Prop := lo_ (fX2_start w (v_cm v)) fun q2 => oX2_keepsTo_10 v pd 9 q2 0
theorem kvX2_keepsTo : KV yX2_keepsTo cX2_keepsTo 4 (some .boolean) 2 := ⟨wcd_X2_keepsTo, wim_X2_keepsTo, wsl_X2_keepsTo, win_X2, by decide +kernel, by decide +kernel, by decide +kernel⟩
set_option maxHeartbeats 4000000 in
set_option maxRecDepth 100000 in
theorem kX2_keepsTo (l : Launch) (D : va_G) (cy : Nat → ClassId) (b : Nat → Nat) (a : Nat → Nat) (d : Nat → Nat) (v : tVl) (w : tWl) (pd : tPd) {R : Int32 × tWl} (hO : oX2_keepsTo v w pd) (hF : fX2_keepsTo v w pd = R) : CT l D cy yX2_keepsTo cX2_keepsTo 4 (some .boolean) rX2_keepsTo [.ref (a 0), .ref (b 0), .ref (d 0)] (gwV cy b v ++ (gwW cy a w ++ gwP cy d pd)) (some (.int R.1)) (gwV cy b v ++ (gwW cy a R.2 ++ gwP cy d pd)) := by
  refine ct_of (by decide) (Nat.le_of_ble_eq_true rfl) ?_
  intro p e s m args below meth c A ls hM hK hP hD hS hl
  obtain ⟨hx, hb, -, hml, hown, hts, -⟩ := id hM
  have hl : lv_has ls 4 [(0, .ref (a 0)), (1, .ref (b 0)), (2, .ref (d 0))] := hl
  obtain ⟨H, hH⟩ : ∃ H : Heap, H = s.heap := ⟨_, rfl⟩
  obtain ⟨locs, hlocs⟩ : ∃ q : List Loc, q = [] := ⟨_, rfl⟩
  have hP : va_P D classes (gwV cy b v ++ (gwW cy a w ++ gwP cy d pd)) H := by rw [hH]; exact hP
  have hS : va_S A s.heap H locs := by rw [hH, hlocs]; exact hS
  suffices hg : W p l e rX2_keepsTo s m args below meth c H locs 0 0 (MQ below (ctQ D (some (.int R.1)) (gwV cy b v ++ (gwW cy a R.2 ++ gwP cy d pd)) A) args s 0 0 A) (F0 m 0 ls []) by rw [hH, hlocs] at hg; exact hg
  clear hH hlocs
  unfold fX2_keepsTo at hF
  unfold oX2_keepsTo at hO
  refine lv_aload_n hx hb dX2_keepsTo_0 rfl (lv_at hl 0 rfl) ?_
  refine lv_aload_n hx hb dX2_keepsTo_1 rfl (lv_at hl 1 rfl) ?_
  refine ct_get (C := RX1) (T := TX1) (N := 6) (ci := 1) (v := .int (v_cm v)) hM hK hP inX1 0 rfl rfl 4 (by decide) wfl_X2_32 rfl dX2_keepsTo_2 ?_
  obtain ⟨q2, e3⟩ : ∃ q, fX2_start w (v_cm v) = q := ⟨_, rfl⟩
  have hF := lt_n e3 hF
  try have hO := lo_n e3 hO
  refine ct_callV (ws' := gwV cy b v ++ (gwW cy a q2 ++ gwP cy d pd)) hM hK hP hD hS (kX2_start l D cy a w (v_cm v) trivial e3) kvX2_start wml_X2_24 [6, 7, 8, 9, 10] rfl (by decide) rfl rfl rfl 6 rfl rfl rfl rfl hl.1 rfl ⟨rfl, rfl, Nat.le_of_ble_eq_true rfl, Nat.le_of_ble_eq_true rfl⟩ (Nat.le_of_ble_eq_true rfl) ⟨Nat.zero_le _, Nat.zero_le _⟩ dX2_keepsTo_5 (fun H locs hP hD hS => ?_)
  refine W.eq (g2 := F0 m 8 ls []) rfl ?_
  refine lv_iconst (v := 0) hx hb dX2_keepsTo_8 (by decide) ?_
  refine lv_istore_n (lv' := [(3, .int 0), (0, .ref (a 0)), (1, .ref (b 0)), (2, .ref (d 0))]) hx hb dX2_keepsTo_9 rfl hl (by decide) rfl (fun ls hl => ?_)
  exact tX2_keepsTo_10 hM hK 9 q2 0 H locs ls hP hD hS (lv_sub hl [1, 2, 3, 0] rfl) hO hF

abbrev rX2_beginOfOneMore : Room := { frames := 2, cells := 0, slots := 0, locals := 49 }
def fX2_beginOfOneMore_13 (v : tVl) (w : tWl) (s2 : Int32) (s3 : Int32) : Nat → Int32 → Int32 → Int32
  | 0, s4, s5 => 0
  | n + 1, s4, s5 => if w_tu w ≤ s5 then (if s3 < s4 then s4 else s3) else (lt_ ((w_or w) (Int32.toNatClampNeg s5)) fun x6 => lt_ (if s3 < s4 then s4 else s3) fun x8 => if (w_be w) (Int32.toNatClampNeg x6) ≤ x8 then (if x8 = (w_be w) (Int32.toNatClampNeg x6) then (lt_ (fX1_goesBefore v s2 x6 x8) fun q18 => if q18 = 0 then (lt_ ((w_en w) (Int32.toNatClampNeg x6)) fun x21 => lt_ (s5 + 1) fun x23 => fX2_beginOfOneMore_13 v w s2 s3 n x21 x23) else x8) else (lt_ ((w_en w) (Int32.toNatClampNeg x6)) fun x13 => lt_ (s5 + 1) fun x15 => fX2_beginOfOneMore_13 v w s2 s3 n x13 x15)) else (if x8 = (w_be w) (Int32.toNatClampNeg x6) then (lt_ (fX1_goesBefore v s2 x6 x8) fun q27 => if q27 = 0 then x8 else x8) else x8))
def oX2_beginOfOneMore_13 (v : tVl) (w : tWl) (s2 : Int32) (s3 : Int32) : Nat → Int32 → Int32 → Prop
  | 0, _, _ => False
  | n + 1, s4, s5 => if w_tu w ≤ s5 then True else (vp_in s5 8 ∧ (lo_ ((w_or w) (Int32.toNatClampNeg s5)) fun x6 => lo_ (if s3 < s4 then s4 else s3) fun x8 => vp_in x6 8 ∧ (if (w_be w) (Int32.toNatClampNeg x6) ≤ x8 then (if x8 = (w_be w) (Int32.toNatClampNeg x6) then (oX1_goesBefore v s2 x6 x8 ∧ (lo_ (fX1_goesBefore v s2 x6 x8) fun q18 => if q18 = 0 then (lo_ ((w_en w) (Int32.toNatClampNeg x6)) fun x21 => lo_ (s5 + 1) fun x23 => oX2_beginOfOneMore_13 v w s2 s3 n x21 x23) else True)) else (lo_ ((w_en w) (Int32.toNatClampNeg x6)) fun x13 => lo_ (s5 + 1) fun x15 => oX2_beginOfOneMore_13 v w s2 s3 n x13 x15)) else (if x8 = (w_be w) (Int32.toNatClampNeg x6) then (oX1_goesBefore v s2 x6 x8 ∧ True) else True))))
set_option maxHeartbeats 4000000 in
set_option maxRecDepth 100000 in
theorem tX2_beginOfOneMore_13 {p : Program} {l : Launch} {e : Env} {s : State} {m : MethodId} {args : Array Value} {below : List Frame} {meth : Method} {c : Code} {A : Nat → Prop} {D : va_G} {cy : Nat → ClassId} {b : Nat → Nat} {a : Nat → Nat} {v : tVl} {w : tWl} {s2 : Int32} {s3 : Int32} {R : Int32} (hM : MC p s m args meth c RX2 cX2_beginOfOneMore 10 (some .int)) (hK : va_K D classes (ctT cy) s) :
    ∀ (n : Nat) (s4 : Int32) (s5 : Int32) (H : Heap) (locs : List Loc) (ls : Array Slot), va_P D classes (gwV cy b v ++ gwW cy a w) H → va_D A (gwV cy b v ++ gwW cy a w) → va_S A s.heap H locs → lv_has ls 10 [(0, .ref (a 0)), (1, .ref (b 0)), (2, .int s2), (3, .int s3), (4, .int s4), (5, .int s5)] → oX2_beginOfOneMore_13 v w s2 s3 n s4 s5 → fX2_beginOfOneMore_13 v w s2 s3 n s4 s5 = R → W p l e rX2_beginOfOneMore s m args below meth c H locs 0 0 (MQ below (ctQ D (some (.int R)) (gwV cy b v ++ gwW cy a w) A) args s 0 0 A) (F0 m 13 ls []) := by
  obtain ⟨hx, hb, -, hml, hown, hts, -⟩ := id hM
  intro n
  induction n with
  | zero =>
    intro s4 s5 H locs ls hP hD hS hl hO hF
    exact False.elim hO
  | succ n ih =>
    intro s4 s5 H locs ls hP hD hS hl hO hF
    rw [fX2_beginOfOneMore_13] at hF
    rw [oX2_beginOfOneMore_13] at hO
    refine lv_iload hx hb dX2_beginOfOneMore_13 (lv_at hl 5 rfl) ?_
    refine lv_aload_n hx hb dX2_beginOfOneMore_15 rfl (lv_at hl 0 rfl) ?_
    refine ct_get (C := RX2) (T := TX2) (N := 10) (ci := 2) (v := .int (w_tu w)) hM hK hP inX2 6 rfl rfl 4 (by decide) wfl_X2_50 rfl dX2_beginOfOneMore_16 ?_
    refine lv_icmp_ge (tgt := 117) hx hb dX2_beginOfOneMore_19 (by decide) (fun c4 => ?_) (fun c4 => ?_)
    · have hF := lt_t c4 hF
      have hO := lo_t c4 hO
      refine lv_iload_n hx hb dX2_beginOfOneMore_117 rfl (lv_at hl 3 rfl) ?_
      refine lv_iload hx hb dX2_beginOfOneMore_118 (lv_at hl 4 rfl) ?_
      refine ct_max hM hl.1 wml_X2_53 ⟨Nat.le_of_ble_eq_true rfl, Nat.le_of_ble_eq_true rfl⟩ ⟨Nat.zero_le _, Nat.zero_le _⟩ dX2_beginOfOneMore_120 ?_
      subst hF
      exact ct_iret hM hP hS dX2_beginOfOneMore_123
    · have hF := lt_f c4 hF
      have hO := lo_f c4 hO
      refine lv_aload_n hx hb dX2_beginOfOneMore_22 rfl (lv_at hl 0 rfl) ?_
      refine ct_get (C := RX2) (T := TX2) (N := 10) (ci := 2) (v := .ref (a 1)) hM hK hP inX2 6 rfl rfl 0 (by decide) wfl_X2_9 rfl dX2_beginOfOneMore_23 ?_
      refine lv_iload hx hb dX2_beginOfOneMore_26 (lv_at hl 5 rfl) ?_
      obtain ⟨h5, hO⟩ := hO
      refine va_iald hx hb hK hP 7 0 (f := w_or w) (n := 8) (cA := cy 0) rfl rfl h5 dX2_beginOfOneMore_28 ?_
      refine lv_topi (fun x6 e7 => ?_)
      have hF := lt_n e7.symm hF
      try have hO := lo_n e7.symm hO
      refine lv_istore (lv' := [(6, .int x6), (0, .ref (a 0)), (1, .ref (b 0)), (2, .int s2), (3, .int s3), (4, .int s4), (5, .int s5)]) hx hb dX2_beginOfOneMore_29 hl (by decide) rfl (fun ls hl => ?_)
      refine lv_iload_n hx hb dX2_beginOfOneMore_31 rfl (lv_at hl 4 rfl) ?_
      refine lv_iload hx hb dX2_beginOfOneMore_32 (lv_at hl 5 rfl) ?_
      refine ct_max hM hl.1 wml_X2_53 ⟨Nat.le_of_ble_eq_true rfl, Nat.le_of_ble_eq_true rfl⟩ ⟨Nat.zero_le _, Nat.zero_le _⟩ dX2_beginOfOneMore_34 ?_
      refine lv_topi (fun x8 e9 => ?_)
      have hF := lt_n e9.symm hF
      try have hO := lo_n e9.symm hO
      refine lv_istore (lv' := [(7, .int x8), (6, .int x6), (0, .ref (a 0)), (1, .ref (b 0)), (2, .int s2), (3, .int s3), (4, .int s4), (5, .int s5)]) hx hb dX2_beginOfOneMore_37 hl (by decide) rfl (fun ls hl => ?_)
      refine lv_iload hx hb dX2_beginOfOneMore_39 (lv_at hl 0 rfl) ?_
      refine lv_aload_n hx hb dX2_beginOfOneMore_41 rfl (lv_at hl 2 rfl) ?_
      refine ct_get (C := RX2) (T := TX2) (N := 10) (ci := 2) (v := .ref (a 2)) hM hK hP inX2 6 rfl rfl 1 (by decide) wfl_X2_15 rfl dX2_beginOfOneMore_42 ?_
      refine lv_iload hx hb dX2_beginOfOneMore_45 (lv_at hl 1 rfl) ?_
      obtain ⟨h10, hO⟩ := hO
      refine va_iald hx hb hK hP 8 0 (f := w_be w) (n := 8) (cA := cy 0) rfl rfl h10 dX2_beginOfOneMore_47 ?_
      refine lv_icmp_ge (tgt := 55) hx hb dX2_beginOfOneMore_48 (by decide) (fun c11 => ?_) (fun c11 => ?_)
      · have hF := lt_t c11 hF
        have hO := lo_t c11 hO
        refine lv_iconst (v := 0) hx hb dX2_beginOfOneMore_55 (by decide) ?_
        refine lv_istore (lv' := [(8, .int 0), (7, .int x8), (6, .int x6), (0, .ref (a 0)), (1, .ref (b 0)), (2, .int s2), (3, .int s3), (4, .int s4), (5, .int s5)]) hx hb dX2_beginOfOneMore_56 hl (by decide) rfl (fun ls hl => ?_)
        refine lv_iload hx hb dX2_beginOfOneMore_58 (lv_at hl 1 rfl) ?_
        refine lv_aload_n hx hb dX2_beginOfOneMore_60 rfl (lv_at hl 3 rfl) ?_
        refine ct_get (C := RX2) (T := TX2) (N := 10) (ci := 2) (v := .ref (a 2)) hM hK hP inX2 6 rfl rfl 1 (by decide) wfl_X2_15 rfl dX2_beginOfOneMore_61 ?_
        refine lv_iload hx hb dX2_beginOfOneMore_64 (lv_at hl 2 rfl) ?_
        refine va_iald hx hb hK hP 8 0 (f := w_be w) (n := 8) (cA := cy 0) rfl rfl h10 dX2_beginOfOneMore_66 ?_
        refine lv_icmp_ne (tgt := 86) hx hb dX2_beginOfOneMore_67 (by decide) (fun c12 => ?_) (fun c12 => ?_)
        · have hF := lt_f c12 hF
          have hO := lo_f c12 hO
          refine lv_iconst (v := 0) hx hb dX2_beginOfOneMore_86 (by decide) ?_
          refine lv_istore (lv' := [(9, .int 0), (8, .int 0), (7, .int x8), (6, .int x6), (0, .ref (a 0)), (1, .ref (b 0)), (2, .int s2), (3, .int s3), (4, .int s4), (5, .int s5)]) hx hb dX2_beginOfOneMore_87 hl (by decide) rfl (fun ls hl => ?_)
          refine lv_iload hx hb dX2_beginOfOneMore_89 (lv_at hl 1 rfl) ?_
          refine lv_if_ne (tgt := 99) hx hb dX2_beginOfOneMore_91 (by decide) (fun z => absurd (by decide) z) (fun _ => ?_)
          refine lv_iload hx hb dX2_beginOfOneMore_94 (lv_at hl 0 rfl) ?_
          refine lv_if_eq (tgt := 102) hx hb dX2_beginOfOneMore_96 (by decide) (fun _ => ?_) (fun z => absurd (by decide) z)
          refine lv_aload_n hx hb dX2_beginOfOneMore_102 rfl (lv_at hl 4 rfl) ?_
          refine ct_get (C := RX2) (T := TX2) (N := 10) (ci := 2) (v := .ref (a 3)) hM hK hP inX2 6 rfl rfl 2 (by decide) wfl_X2_18 rfl dX2_beginOfOneMore_103 ?_
          refine lv_iload hx hb dX2_beginOfOneMore_106 (lv_at hl 3 rfl) ?_
          refine va_iald hx hb hK hP 9 0 (f := w_en w) (n := 8) (cA := cy 0) rfl rfl h10 dX2_beginOfOneMore_108 ?_
          refine lv_topi (fun x13 e14 => ?_)
          have hF := lt_n e14.symm hF
          try have hO := lo_n e14.symm hO
          refine lv_istore (lv' := [(4, .int x13), (9, .int 0), (8, .int 0), (7, .int x8), (6, .int x6), (0, .ref (a 0)), (1, .ref (b 0)), (2, .int s2), (3, .int s3), (5, .int s5)]) hx hb dX2_beginOfOneMore_109 hl (by decide) rfl (fun ls hl => ?_)
          obtain ⟨x15, e16⟩ : ∃ y : Int32, s5 + 1 = y := ⟨_, rfl⟩
          have hF := lt_n e16 hF
          try have hO := lo_n e16 hO
          refine lv_iinc (v := x15) (lv' := [(5, .int x15), (4, .int x13), (9, .int 0), (8, .int 0), (7, .int x8), (6, .int x6), (0, .ref (a 0)), (1, .ref (b 0)), (2, .int s2), (3, .int s3)]) hx hb dX2_beginOfOneMore_111 hl (k := 9) rfl (by rw [← e16]; rfl) (by decide) rfl (fun ls hl => ?_)
          refine lv_goto (tgt := 13) hx hb dX2_beginOfOneMore_114 (by decide) ?_
          exact ih x13 x15 H locs ls hP hD hS (lv_sub hl [6, 7, 8, 9, 1, 0] rfl) hO hF
        · have hF := lt_t c12 hF
          have hO := lo_t c12 hO
          refine lv_aload_n hx hb dX2_beginOfOneMore_70 rfl (lv_at hl 4 rfl) ?_
          refine lv_iload_n hx hb dX2_beginOfOneMore_71 rfl (lv_at hl 5 rfl) ?_
          refine lv_iload hx hb dX2_beginOfOneMore_72 (lv_at hl 2 rfl) ?_
          refine lv_iload hx hb dX2_beginOfOneMore_74 (lv_at hl 1 rfl) ?_
          obtain ⟨h17, hO⟩ := hO
          obtain ⟨q18, e19⟩ : ∃ q, fX1_goesBefore v s2 x6 x8 = q := ⟨_, rfl⟩
          have hF := lt_n e19 hF
          try have hO := lo_n e19 hO
          refine ct_callV (ws' := gwV cy b v ++ gwW cy a w) hM hK hP hD hS (kX1_goesBefore l D cy b v s2 x6 x8 h17 e19) kvX1_goesBefore wml_X2_59 [0, 1, 2, 3, 4, 5] rfl (by decide) rfl rfl rfl 0 rfl rfl rfl rfl hl.1 rfl ⟨rfl, rfl, Nat.le_of_ble_eq_true rfl, Nat.le_of_ble_eq_true rfl⟩ (Nat.le_of_ble_eq_true rfl) ⟨Nat.zero_le _, Nat.zero_le _⟩ dX2_beginOfOneMore_76 (fun H locs hP hD hS => ?_)
          refine W.eq (g2 := F0 m 79 ls [.int q18]) rfl ?_
          refine lv_if_eq (tgt := 86) hx hb dX2_beginOfOneMore_79 (by decide) (fun c20 => ?_) (fun c20 => ?_)
          · have hF := lt_t c20 hF
            have hO := lo_t c20 hO
            refine lv_iconst (v := 0) hx hb dX2_beginOfOneMore_86 (by decide) ?_
            refine lv_istore (lv' := [(9, .int 0), (8, .int 0), (7, .int x8), (6, .int x6), (0, .ref (a 0)), (1, .ref (b 0)), (2, .int s2), (3, .int s3), (4, .int s4), (5, .int s5)]) hx hb dX2_beginOfOneMore_87 hl (by decide) rfl (fun ls hl => ?_)
            refine lv_iload hx hb dX2_beginOfOneMore_89 (lv_at hl 1 rfl) ?_
            refine lv_if_ne (tgt := 99) hx hb dX2_beginOfOneMore_91 (by decide) (fun z => absurd (by decide) z) (fun _ => ?_)
            refine lv_iload hx hb dX2_beginOfOneMore_94 (lv_at hl 0 rfl) ?_
            refine lv_if_eq (tgt := 102) hx hb dX2_beginOfOneMore_96 (by decide) (fun _ => ?_) (fun z => absurd (by decide) z)
            refine lv_aload_n hx hb dX2_beginOfOneMore_102 rfl (lv_at hl 4 rfl) ?_
            refine ct_get (C := RX2) (T := TX2) (N := 10) (ci := 2) (v := .ref (a 3)) hM hK hP inX2 6 rfl rfl 2 (by decide) wfl_X2_18 rfl dX2_beginOfOneMore_103 ?_
            refine lv_iload hx hb dX2_beginOfOneMore_106 (lv_at hl 3 rfl) ?_
            refine va_iald hx hb hK hP 9 0 (f := w_en w) (n := 8) (cA := cy 0) rfl rfl h10 dX2_beginOfOneMore_108 ?_
            refine lv_topi (fun x21 e22 => ?_)
            have hF := lt_n e22.symm hF
            try have hO := lo_n e22.symm hO
            refine lv_istore (lv' := [(4, .int x21), (9, .int 0), (8, .int 0), (7, .int x8), (6, .int x6), (0, .ref (a 0)), (1, .ref (b 0)), (2, .int s2), (3, .int s3), (5, .int s5)]) hx hb dX2_beginOfOneMore_109 hl (by decide) rfl (fun ls hl => ?_)
            obtain ⟨x23, e24⟩ : ∃ y : Int32, s5 + 1 = y := ⟨_, rfl⟩
            have hF := lt_n e24 hF
            try have hO := lo_n e24 hO
            refine lv_iinc (v := x23) (lv' := [(5, .int x23), (4, .int x21), (9, .int 0), (8, .int 0), (7, .int x8), (6, .int x6), (0, .ref (a 0)), (1, .ref (b 0)), (2, .int s2), (3, .int s3)]) hx hb dX2_beginOfOneMore_111 hl (k := 9) rfl (by rw [← e24]; rfl) (by decide) rfl (fun ls hl => ?_)
            refine lv_goto (tgt := 13) hx hb dX2_beginOfOneMore_114 (by decide) ?_
            exact ih x21 x23 H locs ls hP hD hS (lv_sub hl [6, 7, 8, 9, 1, 0] rfl) hO hF
          · have hF := lt_f c20 hF
            have hO := lo_f c20 hO
            refine lv_iconst (v := 1) hx hb dX2_beginOfOneMore_82 (by decide) ?_
            refine lv_goto (tgt := 87) hx hb dX2_beginOfOneMore_83 (by decide) ?_
            refine lv_istore (lv' := [(9, .int 1), (8, .int 0), (7, .int x8), (6, .int x6), (0, .ref (a 0)), (1, .ref (b 0)), (2, .int s2), (3, .int s3), (4, .int s4), (5, .int s5)]) hx hb dX2_beginOfOneMore_87 hl (by decide) rfl (fun ls hl => ?_)
            refine lv_iload hx hb dX2_beginOfOneMore_89 (lv_at hl 1 rfl) ?_
            refine lv_if_ne (tgt := 99) hx hb dX2_beginOfOneMore_91 (by decide) (fun z => absurd (by decide) z) (fun _ => ?_)
            refine lv_iload hx hb dX2_beginOfOneMore_94 (lv_at hl 0 rfl) ?_
            refine lv_if_eq (tgt := 102) hx hb dX2_beginOfOneMore_96 (by decide) (fun z => absurd z (by decide)) (fun _ => ?_)
            refine lv_iload hx hb dX2_beginOfOneMore_99 (lv_at hl 2 rfl) ?_
            subst hF
            exact ct_iret hM hP hS dX2_beginOfOneMore_101
      · have hF := lt_f c11 hF
        have hO := lo_f c11 hO
        refine lv_iconst (v := 1) hx hb dX2_beginOfOneMore_51 (by decide) ?_
        refine lv_goto (tgt := 56) hx hb dX2_beginOfOneMore_52 (by decide) ?_
        refine lv_istore (lv' := [(8, .int 1), (7, .int x8), (6, .int x6), (0, .ref (a 0)), (1, .ref (b 0)), (2, .int s2), (3, .int s3), (4, .int s4), (5, .int s5)]) hx hb dX2_beginOfOneMore_56 hl (by decide) rfl (fun ls hl => ?_)
        refine lv_iload hx hb dX2_beginOfOneMore_58 (lv_at hl 1 rfl) ?_
        refine lv_aload_n hx hb dX2_beginOfOneMore_60 rfl (lv_at hl 3 rfl) ?_
        refine ct_get (C := RX2) (T := TX2) (N := 10) (ci := 2) (v := .ref (a 2)) hM hK hP inX2 6 rfl rfl 1 (by decide) wfl_X2_15 rfl dX2_beginOfOneMore_61 ?_
        refine lv_iload hx hb dX2_beginOfOneMore_64 (lv_at hl 2 rfl) ?_
        refine va_iald hx hb hK hP 8 0 (f := w_be w) (n := 8) (cA := cy 0) rfl rfl h10 dX2_beginOfOneMore_66 ?_
        refine lv_icmp_ne (tgt := 86) hx hb dX2_beginOfOneMore_67 (by decide) (fun c25 => ?_) (fun c25 => ?_)
        · have hF := lt_f c25 hF
          have hO := lo_f c25 hO
          refine lv_iconst (v := 0) hx hb dX2_beginOfOneMore_86 (by decide) ?_
          refine lv_istore (lv' := [(9, .int 0), (8, .int 1), (7, .int x8), (6, .int x6), (0, .ref (a 0)), (1, .ref (b 0)), (2, .int s2), (3, .int s3), (4, .int s4), (5, .int s5)]) hx hb dX2_beginOfOneMore_87 hl (by decide) rfl (fun ls hl => ?_)
          refine lv_iload hx hb dX2_beginOfOneMore_89 (lv_at hl 1 rfl) ?_
          refine lv_if_ne (tgt := 99) hx hb dX2_beginOfOneMore_91 (by decide) (fun _ => ?_) (fun z => absurd z (by decide))
          refine lv_iload hx hb dX2_beginOfOneMore_99 (lv_at hl 2 rfl) ?_
          subst hF
          exact ct_iret hM hP hS dX2_beginOfOneMore_101
        · have hF := lt_t c25 hF
          have hO := lo_t c25 hO
          refine lv_aload_n hx hb dX2_beginOfOneMore_70 rfl (lv_at hl 4 rfl) ?_
          refine lv_iload_n hx hb dX2_beginOfOneMore_71 rfl (lv_at hl 5 rfl) ?_
          refine lv_iload hx hb dX2_beginOfOneMore_72 (lv_at hl 2 rfl) ?_
          refine lv_iload hx hb dX2_beginOfOneMore_74 (lv_at hl 1 rfl) ?_
          obtain ⟨h26, hO⟩ := hO
          obtain ⟨q27, e28⟩ : ∃ q, fX1_goesBefore v s2 x6 x8 = q := ⟨_, rfl⟩
          have hF := lt_n e28 hF
          try have hO := lo_n e28 hO
          refine ct_callV (ws' := gwV cy b v ++ gwW cy a w) hM hK hP hD hS (kX1_goesBefore l D cy b v s2 x6 x8 h26 e28) kvX1_goesBefore wml_X2_59 [0, 1, 2, 3, 4, 5] rfl (by decide) rfl rfl rfl 0 rfl rfl rfl rfl hl.1 rfl ⟨rfl, rfl, Nat.le_of_ble_eq_true rfl, Nat.le_of_ble_eq_true rfl⟩ (Nat.le_of_ble_eq_true rfl) ⟨Nat.zero_le _, Nat.zero_le _⟩ dX2_beginOfOneMore_76 (fun H locs hP hD hS => ?_)
          refine W.eq (g2 := F0 m 79 ls [.int q27]) rfl ?_
          refine lv_if_eq (tgt := 86) hx hb dX2_beginOfOneMore_79 (by decide) (fun c29 => ?_) (fun c29 => ?_)
          · have hF := lt_t c29 hF
            refine lv_iconst (v := 0) hx hb dX2_beginOfOneMore_86 (by decide) ?_
            refine lv_istore (lv' := [(9, .int 0), (8, .int 1), (7, .int x8), (6, .int x6), (0, .ref (a 0)), (1, .ref (b 0)), (2, .int s2), (3, .int s3), (4, .int s4), (5, .int s5)]) hx hb dX2_beginOfOneMore_87 hl (by decide) rfl (fun ls hl => ?_)
            refine lv_iload hx hb dX2_beginOfOneMore_89 (lv_at hl 1 rfl) ?_
            refine lv_if_ne (tgt := 99) hx hb dX2_beginOfOneMore_91 (by decide) (fun _ => ?_) (fun z => absurd z (by decide))
            refine lv_iload hx hb dX2_beginOfOneMore_99 (lv_at hl 2 rfl) ?_
            subst hF
            exact ct_iret hM hP hS dX2_beginOfOneMore_101
          · have hF := lt_f c29 hF
            refine lv_iconst (v := 1) hx hb dX2_beginOfOneMore_82 (by decide) ?_
            refine lv_goto (tgt := 87) hx hb dX2_beginOfOneMore_83 (by decide) ?_
            refine lv_istore (lv' := [(9, .int 1), (8, .int 1), (7, .int x8), (6, .int x6), (0, .ref (a 0)), (1, .ref (b 0)), (2, .int s2), (3, .int s3), (4, .int s4), (5, .int s5)]) hx hb dX2_beginOfOneMore_87 hl (by decide) rfl (fun ls hl => ?_)
            refine lv_iload hx hb dX2_beginOfOneMore_89 (lv_at hl 1 rfl) ?_
            refine lv_if_ne (tgt := 99) hx hb dX2_beginOfOneMore_91 (by decide) (fun _ => ?_) (fun z => absurd z (by decide))
            refine lv_iload hx hb dX2_beginOfOneMore_99 (lv_at hl 2 rfl) ?_
            subst hF
            exact ct_iret hM hP hS dX2_beginOfOneMore_101

def fX2_beginOfOneMore (v : tVl) (w : tWl) (s2 : Int32) : Int32 := lt_ ((v_mn v) (Int32.toNatClampNeg s2)) fun x2 => fX2_beginOfOneMore_13 v w s2 x2 9 0 0
def oX2_beginOfOneMore (v : tVl) (w : tWl) (s2 : Int32) : Prop := vp_in s2 8 ∧ (lo_ ((v_mn v) (Int32.toNatClampNeg s2)) fun x2 => oX2_beginOfOneMore_13 v w s2 x2 9 0 0)
theorem kvX2_beginOfOneMore : KV yX2_beginOfOneMore cX2_beginOfOneMore 10 (some .int) 2 := ⟨wcd_X2_beginOfOneMore, wim_X2_beginOfOneMore, wsl_X2_beginOfOneMore, win_X2, by decide +kernel, by decide +kernel, by decide +kernel⟩
set_option maxHeartbeats 4000000 in
set_option maxRecDepth 100000 in
theorem kX2_beginOfOneMore (l : Launch) (D : va_G) (cy : Nat → ClassId) (b : Nat → Nat) (a : Nat → Nat) (v : tVl) (w : tWl) (s2 : Int32) {R : Int32} (hO : oX2_beginOfOneMore v w s2) (hF : fX2_beginOfOneMore v w s2 = R) : CT l D cy yX2_beginOfOneMore cX2_beginOfOneMore 10 (some .int) rX2_beginOfOneMore [.ref (a 0), .ref (b 0), .int s2] (gwV cy b v ++ gwW cy a w) (some (.int R)) (gwV cy b v ++ gwW cy a w) := by
  refine ct_of (by decide) (Nat.le_of_ble_eq_true rfl) ?_
  intro p e s m args below meth c A ls hM hK hP hD hS hl
  obtain ⟨hx, hb, -, hml, hown, hts, -⟩ := id hM
  have hl : lv_has ls 10 [(0, .ref (a 0)), (1, .ref (b 0)), (2, .int s2)] := hl
  obtain ⟨H, hH⟩ : ∃ H : Heap, H = s.heap := ⟨_, rfl⟩
  obtain ⟨locs, hlocs⟩ : ∃ q : List Loc, q = [] := ⟨_, rfl⟩
  have hP : va_P D classes (gwV cy b v ++ gwW cy a w) H := by rw [hH]; exact hP
  have hS : va_S A s.heap H locs := by rw [hH, hlocs]; exact hS
  suffices hg : W p l e rX2_beginOfOneMore s m args below meth c H locs 0 0 (MQ below (ctQ D (some (.int R)) (gwV cy b v ++ gwW cy a w) A) args s 0 0 A) (F0 m 0 ls []) by rw [hH, hlocs] at hg; exact hg
  clear hH hlocs
  unfold fX2_beginOfOneMore at hF
  unfold oX2_beginOfOneMore at hO
  refine lv_aload_n hx hb dX2_beginOfOneMore_0 rfl (lv_at hl 1 rfl) ?_
  refine ct_get (C := RX1) (T := TX1) (N := 6) (ci := 1) (v := .ref (b 2)) hM hK hP inX1 0 rfl rfl 1 (by decide) wfl_X2_47 rfl dX2_beginOfOneMore_1 ?_
  refine lv_iload_n hx hb dX2_beginOfOneMore_4 rfl (lv_at hl 2 rfl) ?_
  obtain ⟨h1, hO⟩ := hO
  refine va_iald hx hb hK hP 2 0 (f := v_mn v) (n := 8) (cA := cy 0) rfl rfl h1 dX2_beginOfOneMore_5 ?_
  refine lv_topi (fun x2 e3 => ?_)
  have hF := lt_n e3.symm hF
  try have hO := lo_n e3.symm hO
  refine lv_istore_n (lv' := [(3, .int x2), (0, .ref (a 0)), (1, .ref (b 0)), (2, .int s2)]) hx hb dX2_beginOfOneMore_6 rfl hl (by decide) rfl (fun ls hl => ?_)
  refine lv_iconst (v := 0) hx hb dX2_beginOfOneMore_7 (by decide) ?_
  refine lv_istore (lv' := [(4, .int 0), (3, .int x2), (0, .ref (a 0)), (1, .ref (b 0)), (2, .int s2)]) hx hb dX2_beginOfOneMore_8 hl (by decide) rfl (fun ls hl => ?_)
  refine lv_iconst (v := 0) hx hb dX2_beginOfOneMore_10 (by decide) ?_
  refine lv_istore (lv' := [(5, .int 0), (4, .int 0), (3, .int x2), (0, .ref (a 0)), (1, .ref (b 0)), (2, .int s2)]) hx hb dX2_beginOfOneMore_11 hl (by decide) rfl (fun ls hl => ?_)
  exact tX2_beginOfOneMore_13 hM hK 9 0 0 H locs ls hP hD hS (lv_sub hl [3, 4, 5, 2, 1, 0] rfl) hO hF

abbrev rX2_worstOff : Room := { frames := 0, cells := 0, slots := 0, locals := 0 }
def fX2_worstOff_2 (w : tWl) : Nat → Int32 → Int32
  | 0, s1 => 0
  | n + 1, s1 => if 8 ≤ s1 then (-6) else (if ((w_co w >>> (s1 &&& 31)) &&& 1) = 0 then (lt_ (s1 + 1) fun x3 => fX2_worstOff_2 w n x3) else (if (w_wa w) (Int32.toNatClampNeg s1) = w_wo w then s1 else (lt_ (s1 + 1) fun x7 => fX2_worstOff_2 w n x7)))
def oX2_worstOff_2 (w : tWl) : Nat → Int32 → Prop
  | 0, _ => False
  | n + 1, s1 => if 8 ≤ s1 then True else (if ((w_co w >>> (s1 &&& 31)) &&& 1) = 0 then (lo_ (s1 + 1) fun x3 => oX2_worstOff_2 w n x3) else (vp_in s1 8 ∧ (if (w_wa w) (Int32.toNatClampNeg s1) = w_wo w then True else (lo_ (s1 + 1) fun x7 => oX2_worstOff_2 w n x7))))
set_option maxHeartbeats 4000000 in
set_option maxRecDepth 100000 in
theorem tX2_worstOff_2 {p : Program} {l : Launch} {e : Env} {s : State} {m : MethodId} {args : Array Value} {below : List Frame} {meth : Method} {c : Code} {A : Nat → Prop} {D : va_G} {cy : Nat → ClassId} {a : Nat → Nat} {w : tWl} {R : Int32} (hM : MC p s m args meth c RX2 cX2_worstOff 2 (some .int)) (hK : va_K D classes (ctT cy) s) :
    ∀ (n : Nat) (s1 : Int32) (H : Heap) (locs : List Loc) (ls : Array Slot), va_P D classes (gwW cy a w) H → va_D A (gwW cy a w) → va_S A s.heap H locs → lv_has ls 2 [(0, .ref (a 0)), (1, .int s1)] → oX2_worstOff_2 w n s1 → fX2_worstOff_2 w n s1 = R → W p l e rX2_worstOff s m args below meth c H locs 0 0 (MQ below (ctQ D (some (.int R)) (gwW cy a w) A) args s 0 0 A) (F0 m 2 ls []) := by
  obtain ⟨hx, hb, -, hml, hown, hts, -⟩ := id hM
  intro n
  induction n with
  | zero =>
    intro s1 H locs ls hP hD hS hl hO hF
    exact False.elim hO
  | succ n ih =>
    intro s1 H locs ls hP hD hS hl hO hF
    rw [fX2_worstOff_2] at hF
    rw [oX2_worstOff_2] at hO
    refine lv_iload_n hx hb dX2_worstOff_2 rfl (lv_at hl 1 rfl) ?_
    refine lv_bipush (v := 8) hx hb dX2_worstOff_3 (by decide) ?_
    refine lv_icmp_ge (tgt := 40) hx hb dX2_worstOff_5 (by decide) (fun c1 => ?_) (fun c1 => ?_)
    · have hF := lt_t c1 hF
      have hO := lo_t c1 hO
      refine lv_bipush (v := (-6)) hx hb dX2_worstOff_40 (by decide) ?_
      subst hF
      exact ct_iret hM hP hS dX2_worstOff_42
    · have hF := lt_f c1 hF
      have hO := lo_f c1 hO
      refine lv_aload_n hx hb dX2_worstOff_8 rfl (lv_at hl 0 rfl) ?_
      refine ct_get (C := RX2) (T := TX2) (N := 10) (ci := 2) (v := .int (w_co w)) hM hK hP inX2 0 rfl rfl 8 (by decide) wfl_X2_63 rfl dX2_worstOff_9 ?_
      refine lv_iload_n hx hb dX2_worstOff_12 rfl (lv_at hl 1 rfl) ?_
      refine lv_ishr hx hb dX2_worstOff_13 ?_
      refine lv_iconst (v := 1) hx hb dX2_worstOff_14 (by decide) ?_
      refine lv_iand hx hb dX2_worstOff_15 ?_
      refine lv_if_eq (tgt := 34) hx hb dX2_worstOff_16 (by decide) (fun c2 => ?_) (fun c2 => ?_)
      · have hF := lt_t c2 hF
        have hO := lo_t c2 hO
        obtain ⟨x3, e4⟩ : ∃ y : Int32, s1 + 1 = y := ⟨_, rfl⟩
        have hF := lt_n e4 hF
        try have hO := lo_n e4 hO
        refine lv_iinc (v := x3) (lv' := [(1, .int x3), (0, .ref (a 0))]) hx hb dX2_worstOff_34 hl (k := 1) rfl (by rw [← e4]; rfl) (by decide) rfl (fun ls hl => ?_)
        refine lv_goto (tgt := 2) hx hb dX2_worstOff_37 (by decide) ?_
        exact ih x3 H locs ls hP hD hS (lv_sub hl [1, 0] rfl) hO hF
      · have hF := lt_f c2 hF
        have hO := lo_f c2 hO
        refine lv_aload_n hx hb dX2_worstOff_19 rfl (lv_at hl 0 rfl) ?_
        refine ct_get (C := RX2) (T := TX2) (N := 10) (ci := 2) (v := .ref (a 4)) hM hK hP inX2 0 rfl rfl 3 (by decide) wfl_X2_21 rfl dX2_worstOff_20 ?_
        refine lv_iload_n hx hb dX2_worstOff_23 rfl (lv_at hl 1 rfl) ?_
        obtain ⟨h5, hO⟩ := hO
        refine va_iald hx hb hK hP 4 0 (f := w_wa w) (n := 8) (cA := cy 0) rfl rfl h5 dX2_worstOff_24 ?_
        refine lv_aload_n hx hb dX2_worstOff_25 rfl (lv_at hl 0 rfl) ?_
        refine ct_get (C := RX2) (T := TX2) (N := 10) (ci := 2) (v := .int (w_wo w)) hM hK hP inX2 0 rfl rfl 5 (by decide) wfl_X2_64 rfl dX2_worstOff_26 ?_
        refine lv_icmp_ne (tgt := 34) hx hb dX2_worstOff_29 (by decide) (fun c6 => ?_) (fun c6 => ?_)
        · have hF := lt_f c6 hF
          have hO := lo_f c6 hO
          obtain ⟨x7, e8⟩ : ∃ y : Int32, s1 + 1 = y := ⟨_, rfl⟩
          have hF := lt_n e8 hF
          try have hO := lo_n e8 hO
          refine lv_iinc (v := x7) (lv' := [(1, .int x7), (0, .ref (a 0))]) hx hb dX2_worstOff_34 hl (k := 1) rfl (by rw [← e8]; rfl) (by decide) rfl (fun ls hl => ?_)
          refine lv_goto (tgt := 2) hx hb dX2_worstOff_37 (by decide) ?_
          exact ih x7 H locs ls hP hD hS (lv_sub hl [1, 0] rfl) hO hF
        · have hF := lt_t c6 hF
          have hO := lo_t c6 hO
          refine lv_iload_n hx hb dX2_worstOff_32 rfl (lv_at hl 1 rfl) ?_
          subst hF
          exact ct_iret hM hP hS dX2_worstOff_33

def fX2_worstOff (w : tWl) : Int32 := fX2_worstOff_2 w 9 0
def oX2_worstOff (w : tWl) : Prop := oX2_worstOff_2 w 9 0
theorem kvX2_worstOff : KV yX2_worstOff cX2_worstOff 2 (some .int) 0 := ⟨wcd_X2_worstOff, wim_X2_worstOff, wsl_X2_worstOff, win_X2, by decide +kernel, by decide +kernel, by decide +kernel⟩
set_option maxHeartbeats 4000000 in
set_option maxRecDepth 100000 in
theorem kX2_worstOff (l : Launch) (D : va_G) (cy : Nat → ClassId) (a : Nat → Nat) (w : tWl) {R : Int32} (hO : oX2_worstOff w) (hF : fX2_worstOff w = R) : CT l D cy yX2_worstOff cX2_worstOff 2 (some .int) rX2_worstOff [.ref (a 0)] (gwW cy a w) (some (.int R)) (gwW cy a w) := by
  refine ct_of (by decide) (Nat.le_of_ble_eq_true rfl) ?_
  intro p e s m args below meth c A ls hM hK hP hD hS hl
  obtain ⟨hx, hb, -, hml, hown, hts, -⟩ := id hM
  have hl : lv_has ls 2 [(0, .ref (a 0))] := hl
  obtain ⟨H, hH⟩ : ∃ H : Heap, H = s.heap := ⟨_, rfl⟩
  obtain ⟨locs, hlocs⟩ : ∃ q : List Loc, q = [] := ⟨_, rfl⟩
  have hP : va_P D classes (gwW cy a w) H := by rw [hH]; exact hP
  have hS : va_S A s.heap H locs := by rw [hH, hlocs]; exact hS
  suffices hg : W p l e rX2_worstOff s m args below meth c H locs 0 0 (MQ below (ctQ D (some (.int R)) (gwW cy a w) A) args s 0 0 A) (F0 m 0 ls []) by rw [hH, hlocs] at hg; exact hg
  clear hH hlocs
  unfold fX2_worstOff at hF
  unfold oX2_worstOff at hO
  refine lv_iconst (v := 0) hx hb dX2_worstOff_0 (by decide) ?_
  refine lv_istore_n (lv' := [(1, .int 0), (0, .ref (a 0))]) hx hb dX2_worstOff_1 rfl hl (by decide) rfl (fun ls hl => ?_)
  exact tX2_worstOff_2 hM hK 9 0 H locs ls hP hD hS (lv_sub hl [1, 0] rfl) hO hF
end

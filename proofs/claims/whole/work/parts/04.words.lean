def lw_g : List Cond := lw_tbl.filter goodWord
theorem lw_g_of {w : Cond} (h : w ∈ lw_tbl) (hg : goodWord w = true) : w ∈ lw_g := List.mem_filter.mpr ⟨h, hg⟩
theorem wsl_X2_start : Cond.selects RX2 yX2_start yX2_start ∈ lw_g := lw_g_of (List.mem_of_getElem? (i := 0) (by decide +kernel)) rfl
theorem wsl_X2_serveNext : Cond.selects RX2 yX2_serveNext yX2_serveNext ∈ lw_g := lw_g_of (List.mem_of_getElem? (i := 1) (by decide +kernel)) rfl
theorem wsl_X1_claimAt : Cond.selects RX1 yX1_claimAt yX1_claimAt ∈ lw_g := lw_g_of (List.mem_of_getElem? (i := 2) (by decide +kernel)) rfl
theorem wsl_X3_leaveOut : Cond.selects RX3 yX3_leaveOut yX3_leaveOut ∈ lw_g := lw_g_of (List.mem_of_getElem? (i := 3) (by decide +kernel)) rfl
theorem wsl_X3_waitIf : Cond.selects RX3 yX3_waitIf yX3_waitIf ∈ lw_g := lw_g_of (List.mem_of_getElem? (i := 4) (by decide +kernel)) rfl
theorem wsl_X3_beginIf : Cond.selects RX3 yX3_beginIf yX3_beginIf ∈ lw_g := lw_g_of (List.mem_of_getElem? (i := 5) (by decide +kernel)) rfl
theorem wsl_X3_endIfWalked : Cond.selects RX3 yX3_endIfWalked yX3_endIfWalked ∈ lw_g := lw_g_of (List.mem_of_getElem? (i := 6) (by decide +kernel)) rfl
theorem wsl_X3_allTold : Cond.selects RX3 yX3_allTold yX3_allTold ∈ lw_g := lw_g_of (List.mem_of_getElem? (i := 7) (by decide +kernel)) rfl
theorem wsl_X3_milesThatBring : Cond.selects RX3 yX3_milesThatBring yX3_milesThatBring ∈ lw_g := lw_g_of (List.mem_of_getElem? (i := 8) (by decide +kernel)) rfl
theorem wsl_X3_runUnder : Cond.selects RX3 yX3_runUnder yX3_runUnder ∈ lw_g := lw_g_of (List.mem_of_getElem? (i := 9) (by decide +kernel)) rfl
theorem wsl_X3_costOfLiving : Cond.selects RX3 yX3_costOfLiving yX3_costOfLiving ∈ lw_g := lw_g_of (List.mem_of_getElem? (i := 10) (by decide +kernel)) rfl
theorem wsl_X4_comes : Cond.selects RX4 yX4_comes yX4_comes ∈ lw_g := lw_g_of (List.mem_of_getElem? (i := 11) (by decide +kernel)) rfl
theorem wsl_X4_goNow : Cond.selects RX4 yX4_goNow yX4_goNow ∈ lw_g := lw_g_of (List.mem_of_getElem? (i := 12) (by decide +kernel)) rfl
theorem wsl_X4_layNow : Cond.selects RX4 yX4_layNow yX4_layNow ∈ lw_g := lw_g_of (List.mem_of_getElem? (i := 13) (by decide +kernel)) rfl
theorem wsl_X4_go : Cond.selects RX4 yX4_go yX4_go ∈ lw_g := lw_g_of (List.mem_of_getElem? (i := 14) (by decide +kernel)) rfl
theorem wsl_X4_nextOf : Cond.selects RX4 yX4_nextOf yX4_nextOf ∈ lw_g := lw_g_of (List.mem_of_getElem? (i := 15) (by decide +kernel)) rfl
theorem wsl_X4_isAhead : Cond.selects RX4 yX4_isAhead yX4_isAhead ∈ lw_g := lw_g_of (List.mem_of_getElem? (i := 16) (by decide +kernel)) rfl
theorem wsl_X4_claimOf : Cond.selects RX4 yX4_claimOf yX4_claimOf ∈ lw_g := lw_g_of (List.mem_of_getElem? (i := 17) (by decide +kernel)) rfl
theorem wsl_X4_soonest : Cond.selects RX4 yX4_soonest yX4_soonest ∈ lw_g := lw_g_of (List.mem_of_getElem? (i := 18) (by decide +kernel)) rfl
theorem wsl_X4_worstOf : Cond.selects RX4 yX4_worstOf yX4_worstOf ∈ lw_g := lw_g_of (List.mem_of_getElem? (i := 19) (by decide +kernel)) rfl
theorem wsl_X4_whose : Cond.selects RX4 yX4_whose yX4_whose ∈ lw_g := lw_g_of (List.mem_of_getElem? (i := 20) (by decide +kernel)) rfl
theorem wsl_X4_sumOf : Cond.selects RX4 yX4_sumOf yX4_sumOf ∈ lw_g := lw_g_of (List.mem_of_getElem? (i := 21) (by decide +kernel)) rfl
theorem wsl_X4_areAllTold : Cond.selects RX4 yX4_areAllTold yX4_areAllTold ∈ lw_g := lw_g_of (List.mem_of_getElem? (i := 22) (by decide +kernel)) rfl
theorem wsl_X4_isRowBy : Cond.selects RX4 yX4_isRowBy yX4_isRowBy ∈ lw_g := lw_g_of (List.mem_of_getElem? (i := 23) (by decide +kernel)) rfl
theorem wsl_X4_isRow : Cond.selects RX4 yX4_isRow yX4_isRow ∈ lw_g := lw_g_of (List.mem_of_getElem? (i := 24) (by decide +kernel)) rfl
theorem wsl_X4_passAll : Cond.selects RX4 yX4_passAll yX4_passAll ∈ lw_g := lw_g_of (List.mem_of_getElem? (i := 25) (by decide +kernel)) rfl
theorem wsl_X4_pass : Cond.selects RX4 yX4_pass yX4_pass ∈ lw_g := lw_g_of (List.mem_of_getElem? (i := 26) (by decide +kernel)) rfl
theorem win_L : Cond.initialized RL ∈ lw_g := lw_g_of (List.mem_of_getElem? (i := 27) (by decide +kernel)) rfl
theorem win_X3 : Cond.initialized RX3 ∈ lw_g := lw_g_of (List.mem_of_getElem? (i := 28) (by decide +kernel)) rfl
theorem win_X1 : Cond.initialized RX1 ∈ lw_g := lw_g_of (List.mem_of_getElem? (i := 29) (by decide +kernel)) rfl
theorem win_X2 : Cond.initialized RX2 ∈ lw_g := lw_g_of (List.mem_of_getElem? (i := 30) (by decide +kernel)) rfl
theorem win_X0 : Cond.initialized RX0 ∈ lw_g := lw_g_of (List.mem_of_getElem? (i := 31) (by decide +kernel)) rfl
theorem win_X4 : Cond.initialized RX4 ∈ lw_g := lw_g_of (List.mem_of_getElem? (i := 32) (by decide +kernel)) rfl
theorem win_J6 : Cond.initialized RJ6 ∈ lw_g := lw_g_of (List.mem_of_getElem? (i := 33) (by decide +kernel)) rfl
theorem win_J9 : Cond.initialized "java/lang/Math" ∈ lw_g := lw_g_of (List.mem_of_getElem? (i := 34) (by decide +kernel)) rfl
theorem wcl_L_7 : Cond.classLink RL 7 RX3 ∈ lw_g := lw_g_of (List.mem_of_getElem? (i := 35) (by decide +kernel)) rfl
theorem wit_X3 : Cond.instantiable RX3 6 ∈ lw_g := lw_g_of (List.mem_of_getElem? (i := 36) (by decide +kernel)) rfl
theorem wml_L_9 : Cond.methodLink RL 9 yX3_init ∈ lw_g := lw_g_of (List.mem_of_getElem? (i := 37) (by decide +kernel)) rfl
theorem wim_X3_init : Cond.instanceMethod yX3_init ∈ lw_g := lw_g_of (List.mem_of_getElem? (i := 38) (by decide +kernel)) rfl
theorem wcd_X3_init : Cond.code yX3_init cX3_init 2 none ∈ lw_g := lw_g_of (List.mem_of_getElem? (i := 39) (by decide +kernel)) rfl
theorem wml_X3_1 : Cond.methodLink RX3 1 objectInit ∈ lw_g := lw_g_of (List.mem_of_getElem? (i := 40) (by decide +kernel)) rfl
theorem wim_obj : Cond.instanceMethod objectInit ∈ lw_g := lw_g_of (List.mem_of_getElem? (i := 41) (by decide +kernel)) rfl
theorem wcd_obj : Cond.code objectInit ⟨#[0xb1]⟩ 1 none ∈ lw_g := lw_g_of (List.mem_of_getElem? (i := 42) (by decide +kernel)) rfl
theorem wcl_X3_7 : Cond.classLink RX3 7 RX1 ∈ lw_g := lw_g_of (List.mem_of_getElem? (i := 43) (by decide +kernel)) rfl
theorem wit_X1 : Cond.instantiable RX1 6 ∈ lw_g := lw_g_of (List.mem_of_getElem? (i := 44) (by decide +kernel)) rfl
theorem wml_X3_9 : Cond.methodLink RX3 9 yX1_init ∈ lw_g := lw_g_of (List.mem_of_getElem? (i := 45) (by decide +kernel)) rfl
theorem wim_X1_init : Cond.instanceMethod yX1_init ∈ lw_g := lw_g_of (List.mem_of_getElem? (i := 46) (by decide +kernel)) rfl
theorem wcd_X1_init : Cond.code yX1_init cX1_init 1 none ∈ lw_g := lw_g_of (List.mem_of_getElem? (i := 47) (by decide +kernel)) rfl
theorem wml_X1_3 : Cond.methodLink RX1 3 objectInit ∈ lw_g := lw_g_of (List.mem_of_getElem? (i := 48) (by decide +kernel)) rfl
theorem wfl_X1_9 : Cond.fieldLink RX1 9 "FarthestFirst$Village" "miles" "[I" ∈ lw_g := lw_g_of (List.mem_of_getElem? (i := 49) (by decide +kernel)) rfl
theorem wfl_X3_45 : Cond.fieldLink RX3 45 "FarthestFirst$Village" "miles" "[I" ∈ lw_g := lw_g_of (List.mem_of_getElem? (i := 50) (by decide +kernel)) rfl
theorem wfl_X1_15 : Cond.fieldLink RX1 15 "FarthestFirst$Village" "minute" "[I" ∈ lw_g := lw_g_of (List.mem_of_getElem? (i := 51) (by decide +kernel)) rfl
theorem wfl_X3_49 : Cond.fieldLink RX3 49 "FarthestFirst$Village" "minute" "[I" ∈ lw_g := lw_g_of (List.mem_of_getElem? (i := 52) (by decide +kernel)) rfl
theorem wfl_X2_47 : Cond.fieldLink RX2 47 "FarthestFirst$Village" "minute" "[I" ∈ lw_g := lw_g_of (List.mem_of_getElem? (i := 53) (by decide +kernel)) rfl
theorem wfl_X1_18 : Cond.fieldLink RX1 18 "FarthestFirst$Village" "pails" "[I" ∈ lw_g := lw_g_of (List.mem_of_getElem? (i := 54) (by decide +kernel)) rfl
theorem wfl_X3_52 : Cond.fieldLink RX3 52 "FarthestFirst$Village" "pails" "[I" ∈ lw_g := lw_g_of (List.mem_of_getElem? (i := 55) (by decide +kernel)) rfl
theorem wfl_X1_21 : Cond.fieldLink RX1 21 "FarthestFirst$Village" "cart" "[Z" ∈ lw_g := lw_g_of (List.mem_of_getElem? (i := 56) (by decide +kernel)) rfl
theorem wfl_X3_55 : Cond.fieldLink RX3 55 "FarthestFirst$Village" "cart" "[Z" ∈ lw_g := lw_g_of (List.mem_of_getElem? (i := 57) (by decide +kernel)) rfl
theorem wfl_X1_28 : Cond.fieldLink RX1 28 "FarthestFirst$Village" "comers" "I" ∈ lw_g := lw_g_of (List.mem_of_getElem? (i := 58) (by decide +kernel)) rfl
theorem wfl_X3_58 : Cond.fieldLink RX3 58 "FarthestFirst$Village" "comers" "I" ∈ lw_g := lw_g_of (List.mem_of_getElem? (i := 59) (by decide +kernel)) rfl
theorem wfl_X2_32 : Cond.fieldLink RX2 32 "FarthestFirst$Village" "comers" "I" ∈ lw_g := lw_g_of (List.mem_of_getElem? (i := 60) (by decide +kernel)) rfl
theorem wfl_X1_25 : Cond.fieldLink RX1 25 "FarthestFirst$Village" "settings" "[I" ∈ lw_g := lw_g_of (List.mem_of_getElem? (i := 61) (by decide +kernel)) rfl
theorem wly_X1_miles : Cond.laysFinal "FarthestFirst$Village" "FarthestFirst$Village" "miles" "[I" ∈ lw_g := lw_g_of (List.mem_of_getElem? (i := 62) (by decide +kernel)) rfl
theorem wly_X1_minute : Cond.laysFinal "FarthestFirst$Village" "FarthestFirst$Village" "minute" "[I" ∈ lw_g := lw_g_of (List.mem_of_getElem? (i := 64) (by decide +kernel)) rfl
theorem wly_X1_pails : Cond.laysFinal "FarthestFirst$Village" "FarthestFirst$Village" "pails" "[I" ∈ lw_g := lw_g_of (List.mem_of_getElem? (i := 66) (by decide +kernel)) rfl
theorem wly_X1_cart : Cond.laysFinal "FarthestFirst$Village" "FarthestFirst$Village" "cart" "[Z" ∈ lw_g := lw_g_of (List.mem_of_getElem? (i := 68) (by decide +kernel)) rfl
theorem wly_X1_comers : Cond.lays "FarthestFirst$Village" "FarthestFirst$Village" "comers" "I" ∈ lw_g := lw_g_of (List.mem_of_getElem? (i := 70) (by decide +kernel)) rfl
theorem wly_X1_settings : Cond.laysFinal "FarthestFirst$Village" "FarthestFirst$Village" "settings" "[I" ∈ lw_g := lw_g_of (List.mem_of_getElem? (i := 72) (by decide +kernel)) rfl
theorem wac_int : Cond.arrayClass .int ∈ lw_g := lw_g_of (List.mem_of_getElem? (i := 75) (by decide +kernel)) rfl
theorem wac_boolean : Cond.arrayClass .boolean ∈ lw_g := lw_g_of (List.mem_of_getElem? (i := 76) (by decide +kernel)) rfl
theorem wcl_X3_27 : Cond.classLink RX3 27 RX2 ∈ lw_g := lw_g_of (List.mem_of_getElem? (i := 78) (by decide +kernel)) rfl
theorem wit_X2 : Cond.instantiable RX2 10 ∈ lw_g := lw_g_of (List.mem_of_getElem? (i := 79) (by decide +kernel)) rfl
theorem wim_X2_init : Cond.instanceMethod yX2_init ∈ lw_g := lw_g_of (List.mem_of_getElem? (i := 81) (by decide +kernel)) rfl
theorem wcd_X2_init : Cond.code yX2_init cX2_init 1 none ∈ lw_g := lw_g_of (List.mem_of_getElem? (i := 82) (by decide +kernel)) rfl
theorem wml_X2_3 : Cond.methodLink RX2 3 objectInit ∈ lw_g := lw_g_of (List.mem_of_getElem? (i := 83) (by decide +kernel)) rfl
theorem wfl_X2_9 : Cond.fieldLink RX2 9 "FarthestFirst$Well" "order" "[I" ∈ lw_g := lw_g_of (List.mem_of_getElem? (i := 84) (by decide +kernel)) rfl
theorem wfl_X3_101 : Cond.fieldLink RX3 101 "FarthestFirst$Well" "order" "[I" ∈ lw_g := lw_g_of (List.mem_of_getElem? (i := 85) (by decide +kernel)) rfl
theorem wfl_X2_15 : Cond.fieldLink RX2 15 "FarthestFirst$Well" "begin" "[I" ∈ lw_g := lw_g_of (List.mem_of_getElem? (i := 86) (by decide +kernel)) rfl
theorem wfl_X2_18 : Cond.fieldLink RX2 18 "FarthestFirst$Well" "end" "[I" ∈ lw_g := lw_g_of (List.mem_of_getElem? (i := 87) (by decide +kernel)) rfl
theorem wfl_X3_107 : Cond.fieldLink RX3 107 "FarthestFirst$Well" "end" "[I" ∈ lw_g := lw_g_of (List.mem_of_getElem? (i := 88) (by decide +kernel)) rfl
theorem wfl_X2_21 : Cond.fieldLink RX2 21 "FarthestFirst$Well" "wait" "[I" ∈ lw_g := lw_g_of (List.mem_of_getElem? (i := 89) (by decide +kernel)) rfl
theorem wfl_X3_104 : Cond.fieldLink RX3 104 "FarthestFirst$Well" "wait" "[I" ∈ lw_g := lw_g_of (List.mem_of_getElem? (i := 90) (by decide +kernel)) rfl
theorem wfl_X2_50 : Cond.fieldLink RX2 50 "FarthestFirst$Well" "turns" "I" ∈ lw_g := lw_g_of (List.mem_of_getElem? (i := 91) (by decide +kernel)) rfl
theorem wfl_X3_98 : Cond.fieldLink RX3 98 "FarthestFirst$Well" "turns" "I" ∈ lw_g := lw_g_of (List.mem_of_getElem? (i := 92) (by decide +kernel)) rfl
theorem wfl_X2_64 : Cond.fieldLink RX2 64 "FarthestFirst$Well" "worst" "I" ∈ lw_g := lw_g_of (List.mem_of_getElem? (i := 93) (by decide +kernel)) rfl
theorem wfl_X3_110 : Cond.fieldLink RX3 110 "FarthestFirst$Well" "worst" "I" ∈ lw_g := lw_g_of (List.mem_of_getElem? (i := 94) (by decide +kernel)) rfl
theorem wfl_X2_70 : Cond.fieldLink RX2 70 "FarthestFirst$Well" "sum" "I" ∈ lw_g := lw_g_of (List.mem_of_getElem? (i := 95) (by decide +kernel)) rfl
theorem wfl_X3_117 : Cond.fieldLink RX3 117 "FarthestFirst$Well" "sum" "I" ∈ lw_g := lw_g_of (List.mem_of_getElem? (i := 96) (by decide +kernel)) rfl
theorem wfl_X2_73 : Cond.fieldLink RX2 73 "FarthestFirst$Well" "time" "I" ∈ lw_g := lw_g_of (List.mem_of_getElem? (i := 97) (by decide +kernel)) rfl
theorem wfl_X3_120 : Cond.fieldLink RX3 120 "FarthestFirst$Well" "time" "I" ∈ lw_g := lw_g_of (List.mem_of_getElem? (i := 98) (by decide +kernel)) rfl
theorem wfl_X2_63 : Cond.fieldLink RX2 63 "FarthestFirst$Well" "comers" "I" ∈ lw_g := lw_g_of (List.mem_of_getElem? (i := 99) (by decide +kernel)) rfl
theorem wfl_X2_67 : Cond.fieldLink RX2 67 "FarthestFirst$Well" "rest" "I" ∈ lw_g := lw_g_of (List.mem_of_getElem? (i := 100) (by decide +kernel)) rfl
theorem wly_X2_order : Cond.laysFinal "FarthestFirst$Well" "FarthestFirst$Well" "order" "[I" ∈ lw_g := lw_g_of (List.mem_of_getElem? (i := 101) (by decide +kernel)) rfl
theorem wly_X2_begin : Cond.laysFinal "FarthestFirst$Well" "FarthestFirst$Well" "begin" "[I" ∈ lw_g := lw_g_of (List.mem_of_getElem? (i := 103) (by decide +kernel)) rfl
theorem wly_X2_end : Cond.laysFinal "FarthestFirst$Well" "FarthestFirst$Well" "end" "[I" ∈ lw_g := lw_g_of (List.mem_of_getElem? (i := 105) (by decide +kernel)) rfl
theorem wly_X2_wait : Cond.laysFinal "FarthestFirst$Well" "FarthestFirst$Well" "wait" "[I" ∈ lw_g := lw_g_of (List.mem_of_getElem? (i := 107) (by decide +kernel)) rfl
theorem wly_X2_turns : Cond.lays "FarthestFirst$Well" "FarthestFirst$Well" "turns" "I" ∈ lw_g := lw_g_of (List.mem_of_getElem? (i := 109) (by decide +kernel)) rfl
theorem wly_X2_worst : Cond.lays "FarthestFirst$Well" "FarthestFirst$Well" "worst" "I" ∈ lw_g := lw_g_of (List.mem_of_getElem? (i := 111) (by decide +kernel)) rfl
theorem wly_X2_sum : Cond.lays "FarthestFirst$Well" "FarthestFirst$Well" "sum" "I" ∈ lw_g := lw_g_of (List.mem_of_getElem? (i := 113) (by decide +kernel)) rfl
theorem wly_X2_time : Cond.lays "FarthestFirst$Well" "FarthestFirst$Well" "time" "I" ∈ lw_g := lw_g_of (List.mem_of_getElem? (i := 115) (by decide +kernel)) rfl
theorem wly_X2_comers : Cond.lays "FarthestFirst$Well" "FarthestFirst$Well" "comers" "I" ∈ lw_g := lw_g_of (List.mem_of_getElem? (i := 117) (by decide +kernel)) rfl
theorem wly_X2_rest : Cond.lays "FarthestFirst$Well" "FarthestFirst$Well" "rest" "I" ∈ lw_g := lw_g_of (List.mem_of_getElem? (i := 119) (by decide +kernel)) rfl
theorem wcl_X3_34 : Cond.classLink RX3 34 RX0 ∈ lw_g := lw_g_of (List.mem_of_getElem? (i := 122) (by decide +kernel)) rfl
theorem wit_X0 : Cond.instantiable RX0 2 ∈ lw_g := lw_g_of (List.mem_of_getElem? (i := 123) (by decide +kernel)) rfl
theorem wim_X0_init : Cond.instanceMethod yX0_init ∈ lw_g := lw_g_of (List.mem_of_getElem? (i := 125) (by decide +kernel)) rfl
theorem wcd_X0_init : Cond.code yX0_init cX0_init 1 none ∈ lw_g := lw_g_of (List.mem_of_getElem? (i := 126) (by decide +kernel)) rfl
theorem wml_X0_3 : Cond.methodLink RX0 3 objectInit ∈ lw_g := lw_g_of (List.mem_of_getElem? (i := 127) (by decide +kernel)) rfl
theorem wfl_X0_15 : Cond.fieldLink RX0 15 "FarthestFirst$Pad" "count" "I" ∈ lw_g := lw_g_of (List.mem_of_getElem? (i := 128) (by decide +kernel)) rfl
theorem wfl_X2_38 : Cond.fieldLink RX2 38 "FarthestFirst$Pad" "count" "I" ∈ lw_g := lw_g_of (List.mem_of_getElem? (i := 129) (by decide +kernel)) rfl
theorem wfl_X3_88 : Cond.fieldLink RX3 88 "FarthestFirst$Pad" "count" "I" ∈ lw_g := lw_g_of (List.mem_of_getElem? (i := 130) (by decide +kernel)) rfl
theorem wfl_X0_11 : Cond.fieldLink RX0 11 "FarthestFirst$Pad" "signs" "[I" ∈ lw_g := lw_g_of (List.mem_of_getElem? (i := 131) (by decide +kernel)) rfl
theorem wly_X0_count : Cond.lays "FarthestFirst$Pad" "FarthestFirst$Pad" "count" "I" ∈ lw_g := lw_g_of (List.mem_of_getElem? (i := 132) (by decide +kernel)) rfl
theorem wly_X0_signs : Cond.laysFinal "FarthestFirst$Pad" "FarthestFirst$Pad" "signs" "[I" ∈ lw_g := lw_g_of (List.mem_of_getElem? (i := 134) (by decide +kernel)) rfl
theorem wfl_X3_10 : Cond.fieldLink RX3 10 "FarthestFirst" "now" "LFarthestFirst$Village;" ∈ lw_g := lw_g_of (List.mem_of_getElem? (i := 137) (by decide +kernel)) rfl
theorem wfl_X3_16 : Cond.fieldLink RX3 16 "FarthestFirst" "trial" "LFarthestFirst$Village;" ∈ lw_g := lw_g_of (List.mem_of_getElem? (i := 138) (by decide +kernel)) rfl
theorem wfl_X3_19 : Cond.fieldLink RX3 19 "FarthestFirst" "images" "[LFarthestFirst$Village;" ∈ lw_g := lw_g_of (List.mem_of_getElem? (i := 139) (by decide +kernel)) rfl
theorem wfl_X3_23 : Cond.fieldLink RX3 23 "FarthestFirst" "kept" "[Z" ∈ lw_g := lw_g_of (List.mem_of_getElem? (i := 140) (by decide +kernel)) rfl
theorem wfl_X3_30 : Cond.fieldLink RX3 30 "FarthestFirst" "well" "LFarthestFirst$Well;" ∈ lw_g := lw_g_of (List.mem_of_getElem? (i := 141) (by decide +kernel)) rfl
theorem wfl_X3_37 : Cond.fieldLink RX3 37 "FarthestFirst" "pad" "LFarthestFirst$Pad;" ∈ lw_g := lw_g_of (List.mem_of_getElem? (i := 142) (by decide +kernel)) rfl
theorem wly_X3_now : Cond.laysFinal "FarthestFirst" "FarthestFirst" "now" "LFarthestFirst$Village;" ∈ lw_g := lw_g_of (List.mem_of_getElem? (i := 143) (by decide +kernel)) rfl
theorem wly_X3_trial : Cond.laysFinal "FarthestFirst" "FarthestFirst" "trial" "LFarthestFirst$Village;" ∈ lw_g := lw_g_of (List.mem_of_getElem? (i := 145) (by decide +kernel)) rfl
theorem wly_X3_images : Cond.laysFinal "FarthestFirst" "FarthestFirst" "images" "[LFarthestFirst$Village;" ∈ lw_g := lw_g_of (List.mem_of_getElem? (i := 147) (by decide +kernel)) rfl
theorem wly_X3_kept : Cond.laysFinal "FarthestFirst" "FarthestFirst" "kept" "[Z" ∈ lw_g := lw_g_of (List.mem_of_getElem? (i := 149) (by decide +kernel)) rfl
theorem wly_X3_well : Cond.laysFinal "FarthestFirst" "FarthestFirst" "well" "LFarthestFirst$Well;" ∈ lw_g := lw_g_of (List.mem_of_getElem? (i := 151) (by decide +kernel)) rfl
theorem wly_X3_pad : Cond.laysFinal "FarthestFirst" "FarthestFirst" "pad" "LFarthestFirst$Pad;" ∈ lw_g := lw_g_of (List.mem_of_getElem? (i := 153) (by decide +kernel)) rfl
theorem wml_L_13 : Cond.methodLink RL 13 yX3_come ∈ lw_g := lw_g_of (List.mem_of_getElem? (i := 156) (by decide +kernel)) rfl
theorem wim_X3_come : Cond.instanceMethod yX3_come ∈ lw_g := lw_g_of (List.mem_of_getElem? (i := 157) (by decide +kernel)) rfl
theorem wsl_X3_come : Cond.selects RX3 yX3_come yX3_come ∈ lw_g := lw_g_of (List.mem_of_getElem? (i := 158) (by decide +kernel)) rfl
theorem wcd_X3_come : Cond.code yX3_come cX3_come 6 (some .int) ∈ lw_g := lw_g_of (List.mem_of_getElem? (i := 159) (by decide +kernel)) rfl
theorem wml_X3_41 : Cond.methodLink RX3 41 yX3_within ∈ lw_g := lw_g_of (List.mem_of_getElem? (i := 160) (by decide +kernel)) rfl
theorem wst_X3_within : Cond.static yX3_within ∈ lw_g := lw_g_of (List.mem_of_getElem? (i := 161) (by decide +kernel)) rfl
theorem wcd_X3_within : Cond.code yX3_within cX3_within 3 (some .boolean) ∈ lw_g := lw_g_of (List.mem_of_getElem? (i := 162) (by decide +kernel)) rfl
theorem wml_X3_62 : Cond.methodLink RX3 62 yJ6_bitCount_0f7a4 ∈ lw_g := lw_g_of (List.mem_of_getElem? (i := 163) (by decide +kernel)) rfl
theorem wst_J6_bitCount_0f7a4 : Cond.static yJ6_bitCount_0f7a4 ∈ lw_g := lw_g_of (List.mem_of_getElem? (i := 164) (by decide +kernel)) rfl
theorem wcd_J6_bitCount_0f7a4 : Cond.code yJ6_bitCount_0f7a4 cJ6_bitCount_0f7a4 1 (some .int) ∈ lw_g := lw_g_of (List.mem_of_getElem? (i := 165) (by decide +kernel)) rfl
theorem wct_J6_265 : Cond.constant RJ6 265 (1431655765) ∈ lw_g := lw_g_of (List.mem_of_getElem? (i := 166) (by decide +kernel)) rfl
theorem wct_J6_266 : Cond.constant RJ6 266 (858993459) ∈ lw_g := lw_g_of (List.mem_of_getElem? (i := 167) (by decide +kernel)) rfl
theorem wct_J6_267 : Cond.constant RJ6 267 (252645135) ∈ lw_g := lw_g_of (List.mem_of_getElem? (i := 168) (by decide +kernel)) rfl
theorem wml_L_18 : Cond.methodLink RL 18 yX3_stays ∈ lw_g := lw_g_of (List.mem_of_getElem? (i := 169) (by decide +kernel)) rfl
theorem wim_X3_stays : Cond.instanceMethod yX3_stays ∈ lw_g := lw_g_of (List.mem_of_getElem? (i := 170) (by decide +kernel)) rfl
theorem wsl_X3_stays : Cond.selects RX3 yX3_stays yX3_stays ∈ lw_g := lw_g_of (List.mem_of_getElem? (i := 171) (by decide +kernel)) rfl
theorem wcd_X3_stays : Cond.code yX3_stays cX3_stays 2 (some .int) ∈ lw_g := lw_g_of (List.mem_of_getElem? (i := 172) (by decide +kernel)) rfl
theorem wml_X3_68 : Cond.methodLink RX3 68 yX1_comes ∈ lw_g := lw_g_of (List.mem_of_getElem? (i := 173) (by decide +kernel)) rfl
theorem wim_X1_comes : Cond.instanceMethod yX1_comes ∈ lw_g := lw_g_of (List.mem_of_getElem? (i := 174) (by decide +kernel)) rfl
theorem wsl_X1_comes : Cond.selects RX1 yX1_comes yX1_comes ∈ lw_g := lw_g_of (List.mem_of_getElem? (i := 175) (by decide +kernel)) rfl
theorem wcd_X1_comes : Cond.code yX1_comes cX1_comes 2 (some .boolean) ∈ lw_g := lw_g_of (List.mem_of_getElem? (i := 176) (by decide +kernel)) rfl
theorem wml_L_23 : Cond.methodLink RL 23 yX3_person ∈ lw_g := lw_g_of (List.mem_of_getElem? (i := 177) (by decide +kernel)) rfl
theorem wim_X3_person : Cond.instanceMethod yX3_person ∈ lw_g := lw_g_of (List.mem_of_getElem? (i := 178) (by decide +kernel)) rfl
theorem wsl_X3_person : Cond.selects RX3 yX3_person yX3_person ∈ lw_g := lw_g_of (List.mem_of_getElem? (i := 179) (by decide +kernel)) rfl
theorem wcd_X3_person : Cond.code yX3_person cX3_person 3 (some .int) ∈ lw_g := lw_g_of (List.mem_of_getElem? (i := 180) (by decide +kernel)) rfl
theorem wml_L_28 : Cond.methodLink RL 28 yX3_set ∈ lw_g := lw_g_of (List.mem_of_getElem? (i := 181) (by decide +kernel)) rfl
theorem wim_X3_set : Cond.instanceMethod yX3_set ∈ lw_g := lw_g_of (List.mem_of_getElem? (i := 182) (by decide +kernel)) rfl
theorem wsl_X3_set : Cond.selects RX3 yX3_set yX3_set ∈ lw_g := lw_g_of (List.mem_of_getElem? (i := 183) (by decide +kernel)) rfl
theorem wcd_X3_set : Cond.code yX3_set cX3_set 4 (some .int) ∈ lw_g := lw_g_of (List.mem_of_getElem? (i := 184) (by decide +kernel)) rfl
theorem wml_X3_72 : Cond.methodLink RX3 72 yX3_leastOf ∈ lw_g := lw_g_of (List.mem_of_getElem? (i := 185) (by decide +kernel)) rfl
theorem wst_X3_leastOf : Cond.static yX3_leastOf ∈ lw_g := lw_g_of (List.mem_of_getElem? (i := 186) (by decide +kernel)) rfl
theorem wcd_X3_leastOf : Cond.code yX3_leastOf cX3_leastOf 1 (some .int) ∈ lw_g := lw_g_of (List.mem_of_getElem? (i := 187) (by decide +kernel)) rfl
theorem wml_X3_75 : Cond.methodLink RX3 75 yX3_mostOf ∈ lw_g := lw_g_of (List.mem_of_getElem? (i := 188) (by decide +kernel)) rfl
theorem wst_X3_mostOf : Cond.static yX3_mostOf ∈ lw_g := lw_g_of (List.mem_of_getElem? (i := 189) (by decide +kernel)) rfl
theorem wcd_X3_mostOf : Cond.code yX3_mostOf cX3_mostOf 1 (some .int) ∈ lw_g := lw_g_of (List.mem_of_getElem? (i := 190) (by decide +kernel)) rfl
theorem wml_X3_78 : Cond.methodLink RX3 78 yX1_setting ∈ lw_g := lw_g_of (List.mem_of_getElem? (i := 191) (by decide +kernel)) rfl
theorem wim_X1_setting : Cond.instanceMethod yX1_setting ∈ lw_g := lw_g_of (List.mem_of_getElem? (i := 192) (by decide +kernel)) rfl
theorem wsl_X1_setting : Cond.selects RX1 yX1_setting yX1_setting ∈ lw_g := lw_g_of (List.mem_of_getElem? (i := 193) (by decide +kernel)) rfl
theorem wcd_X1_setting : Cond.code yX1_setting cX1_setting 2 (some .int) ∈ lw_g := lw_g_of (List.mem_of_getElem? (i := 194) (by decide +kernel)) rfl
theorem wml_X3_81 : Cond.methodLink RX3 81 yX1_change ∈ lw_g := lw_g_of (List.mem_of_getElem? (i := 195) (by decide +kernel)) rfl
theorem wim_X1_change : Cond.instanceMethod yX1_change ∈ lw_g := lw_g_of (List.mem_of_getElem? (i := 196) (by decide +kernel)) rfl
theorem wsl_X1_change : Cond.selects RX1 yX1_change yX1_change ∈ lw_g := lw_g_of (List.mem_of_getElem? (i := 197) (by decide +kernel)) rfl
theorem wcd_X1_change : Cond.code yX1_change cX1_change 3 none ∈ lw_g := lw_g_of (List.mem_of_getElem? (i := 198) (by decide +kernel)) rfl
theorem wml_L_32 : Cond.methodLink RL 32 yX3_say ∈ lw_g := lw_g_of (List.mem_of_getElem? (i := 199) (by decide +kernel)) rfl
theorem wim_X3_say : Cond.instanceMethod yX3_say ∈ lw_g := lw_g_of (List.mem_of_getElem? (i := 200) (by decide +kernel)) rfl
theorem wsl_X3_say : Cond.selects RX3 yX3_say yX3_say ∈ lw_g := lw_g_of (List.mem_of_getElem? (i := 201) (by decide +kernel)) rfl
theorem wcd_X3_say : Cond.code yX3_say cX3_say 2 (some .int) ∈ lw_g := lw_g_of (List.mem_of_getElem? (i := 202) (by decide +kernel)) rfl
theorem wml_X3_85 : Cond.methodLink RX3 85 yX0_add ∈ lw_g := lw_g_of (List.mem_of_getElem? (i := 203) (by decide +kernel)) rfl
theorem wim_X0_add : Cond.instanceMethod yX0_add ∈ lw_g := lw_g_of (List.mem_of_getElem? (i := 204) (by decide +kernel)) rfl
theorem wsl_X0_add : Cond.selects RX0 yX0_add yX0_add ∈ lw_g := lw_g_of (List.mem_of_getElem? (i := 205) (by decide +kernel)) rfl
theorem wcd_X0_add : Cond.code yX0_add cX0_add 2 (some .boolean) ∈ lw_g := lw_g_of (List.mem_of_getElem? (i := 206) (by decide +kernel)) rfl
theorem wml_L_36 : Cond.methodLink RL 36 yX3_wipe ∈ lw_g := lw_g_of (List.mem_of_getElem? (i := 207) (by decide +kernel)) rfl
theorem wim_X3_wipe : Cond.instanceMethod yX3_wipe ∈ lw_g := lw_g_of (List.mem_of_getElem? (i := 208) (by decide +kernel)) rfl
theorem wsl_X3_wipe : Cond.selects RX3 yX3_wipe yX3_wipe ∈ lw_g := lw_g_of (List.mem_of_getElem? (i := 209) (by decide +kernel)) rfl
theorem wcd_X3_wipe : Cond.code yX3_wipe cX3_wipe 2 (some .int) ∈ lw_g := lw_g_of (List.mem_of_getElem? (i := 210) (by decide +kernel)) rfl
theorem wml_L_41 : Cond.methodLink RL 41 yX3_fault ∈ lw_g := lw_g_of (List.mem_of_getElem? (i := 211) (by decide +kernel)) rfl
theorem wim_X3_fault : Cond.instanceMethod yX3_fault ∈ lw_g := lw_g_of (List.mem_of_getElem? (i := 212) (by decide +kernel)) rfl
theorem wsl_X3_fault : Cond.selects RX3 yX3_fault yX3_fault ∈ lw_g := lw_g_of (List.mem_of_getElem? (i := 213) (by decide +kernel)) rfl
theorem wcd_X3_fault : Cond.code yX3_fault cX3_fault 1 (some .int) ∈ lw_g := lw_g_of (List.mem_of_getElem? (i := 214) (by decide +kernel)) rfl
theorem wml_X3_91 : Cond.methodLink RX3 91 yX0_faultAmong ∈ lw_g := lw_g_of (List.mem_of_getElem? (i := 215) (by decide +kernel)) rfl
theorem wim_X0_faultAmong : Cond.instanceMethod yX0_faultAmong ∈ lw_g := lw_g_of (List.mem_of_getElem? (i := 216) (by decide +kernel)) rfl
theorem wsl_X0_faultAmong : Cond.selects RX0 yX0_faultAmong yX0_faultAmong ∈ lw_g := lw_g_of (List.mem_of_getElem? (i := 217) (by decide +kernel)) rfl
theorem wcd_X0_faultAmong : Cond.code yX0_faultAmong cX0_faultAmong 5 (some .int) ∈ lw_g := lw_g_of (List.mem_of_getElem? (i := 218) (by decide +kernel)) rfl
theorem wml_X0_19 : Cond.methodLink RX0 19 yX0_personAt ∈ lw_g := lw_g_of (List.mem_of_getElem? (i := 219) (by decide +kernel)) rfl
theorem wim_X0_personAt : Cond.instanceMethod yX0_personAt ∈ lw_g := lw_g_of (List.mem_of_getElem? (i := 220) (by decide +kernel)) rfl
theorem wsl_X0_personAt : Cond.selects RX0 yX0_personAt yX0_personAt ∈ lw_g := lw_g_of (List.mem_of_getElem? (i := 221) (by decide +kernel)) rfl
theorem wcd_X0_personAt : Cond.code yX0_personAt cX0_personAt 3 (some .int) ∈ lw_g := lw_g_of (List.mem_of_getElem? (i := 222) (by decide +kernel)) rfl
theorem wml_L_45 : Cond.methodLink RL 45 yX3_served ∈ lw_g := lw_g_of (List.mem_of_getElem? (i := 223) (by decide +kernel)) rfl
theorem wim_X3_served : Cond.instanceMethod yX3_served ∈ lw_g := lw_g_of (List.mem_of_getElem? (i := 224) (by decide +kernel)) rfl
theorem wsl_X3_served : Cond.selects RX3 yX3_served yX3_served ∈ lw_g := lw_g_of (List.mem_of_getElem? (i := 225) (by decide +kernel)) rfl
theorem wcd_X3_served : Cond.code yX3_served cX3_served 2 (some .int) ∈ lw_g := lw_g_of (List.mem_of_getElem? (i := 226) (by decide +kernel)) rfl
theorem wml_X3_94 : Cond.methodLink RX3 94 yX2_run ∈ lw_g := lw_g_of (List.mem_of_getElem? (i := 227) (by decide +kernel)) rfl
theorem wim_X2_run : Cond.instanceMethod yX2_run ∈ lw_g := lw_g_of (List.mem_of_getElem? (i := 228) (by decide +kernel)) rfl
theorem wsl_X2_run : Cond.selects RX2 yX2_run yX2_run ∈ lw_g := lw_g_of (List.mem_of_getElem? (i := 229) (by decide +kernel)) rfl
theorem wcd_X2_run : Cond.code yX2_run cX2_run 4 none ∈ lw_g := lw_g_of (List.mem_of_getElem? (i := 230) (by decide +kernel)) rfl
theorem wml_X2_24 : Cond.methodLink RX2 24 yX2_start ∈ lw_g := lw_g_of (List.mem_of_getElem? (i := 231) (by decide +kernel)) rfl
theorem wim_X2_start : Cond.instanceMethod yX2_start ∈ lw_g := lw_g_of (List.mem_of_getElem? (i := 233) (by decide +kernel)) rfl
theorem wcd_X2_start : Cond.code yX2_start cX2_start 2 none ∈ lw_g := lw_g_of (List.mem_of_getElem? (i := 234) (by decide +kernel)) rfl
theorem wml_X2_28 : Cond.methodLink RX2 28 yX2_serveNext ∈ lw_g := lw_g_of (List.mem_of_getElem? (i := 235) (by decide +kernel)) rfl
theorem wim_X2_serveNext : Cond.instanceMethod yX2_serveNext ∈ lw_g := lw_g_of (List.mem_of_getElem? (i := 237) (by decide +kernel)) rfl
theorem wcd_X2_serveNext : Cond.code yX2_serveNext cX2_serveNext 3 (some .int) ∈ lw_g := lw_g_of (List.mem_of_getElem? (i := 238) (by decide +kernel)) rfl
theorem wml_X2_76 : Cond.methodLink RX2 76 yX1_firstComing ∈ lw_g := lw_g_of (List.mem_of_getElem? (i := 239) (by decide +kernel)) rfl
theorem wim_X1_firstComing : Cond.instanceMethod yX1_firstComing ∈ lw_g := lw_g_of (List.mem_of_getElem? (i := 240) (by decide +kernel)) rfl
theorem wsl_X1_firstComing : Cond.selects RX1 yX1_firstComing yX1_firstComing ∈ lw_g := lw_g_of (List.mem_of_getElem? (i := 241) (by decide +kernel)) rfl
theorem wcd_X1_firstComing : Cond.code yX1_firstComing cX1_firstComing 5 (some .int) ∈ lw_g := lw_g_of (List.mem_of_getElem? (i := 242) (by decide +kernel)) rfl
theorem wml_X2_53 : Cond.methodLink RX2 53 Lib.Math.max.name ∈ lw_g := lw_g_of (List.mem_of_getElem? (i := 243) (by decide +kernel)) rfl
theorem wst_max : Cond.static Lib.Math.max.name ∈ lw_g := lw_g_of (List.mem_of_getElem? (i := 244) (by decide +kernel)) rfl
theorem wcd_max : Cond.code Lib.Math.max.name Lib.Math.max.code 2 (some .int) ∈ lw_g := lw_g_of (List.mem_of_getElem? (i := 245) (by decide +kernel)) rfl
theorem wml_X2_79 : Cond.methodLink RX2 79 yX1_nextAt ∈ lw_g := lw_g_of (List.mem_of_getElem? (i := 246) (by decide +kernel)) rfl
theorem wim_X1_nextAt : Cond.instanceMethod yX1_nextAt ∈ lw_g := lw_g_of (List.mem_of_getElem? (i := 247) (by decide +kernel)) rfl
theorem wsl_X1_nextAt : Cond.selects RX1 yX1_nextAt yX1_nextAt ∈ lw_g := lw_g_of (List.mem_of_getElem? (i := 248) (by decide +kernel)) rfl
theorem wcd_X1_nextAt : Cond.code yX1_nextAt cX1_nextAt 6 (some .int) ∈ lw_g := lw_g_of (List.mem_of_getElem? (i := 249) (by decide +kernel)) rfl
theorem wml_X1_32 : Cond.methodLink RX1 32 yX1_goesBefore ∈ lw_g := lw_g_of (List.mem_of_getElem? (i := 250) (by decide +kernel)) rfl
theorem wim_X1_goesBefore : Cond.instanceMethod yX1_goesBefore ∈ lw_g := lw_g_of (List.mem_of_getElem? (i := 251) (by decide +kernel)) rfl
theorem wsl_X1_goesBefore : Cond.selects RX1 yX1_goesBefore yX1_goesBefore ∈ lw_g := lw_g_of (List.mem_of_getElem? (i := 252) (by decide +kernel)) rfl
theorem wcd_X1_goesBefore : Cond.code yX1_goesBefore cX1_goesBefore 6 (some .boolean) ∈ lw_g := lw_g_of (List.mem_of_getElem? (i := 253) (by decide +kernel)) rfl
theorem wml_X1_36 : Cond.methodLink RX1 36 yX1_claimAt ∈ lw_g := lw_g_of (List.mem_of_getElem? (i := 254) (by decide +kernel)) rfl
theorem wim_X1_claimAt : Cond.instanceMethod yX1_claimAt ∈ lw_g := lw_g_of (List.mem_of_getElem? (i := 256) (by decide +kernel)) rfl
theorem wcd_X1_claimAt : Cond.code yX1_claimAt cX1_claimAt 5 (some .int) ∈ lw_g := lw_g_of (List.mem_of_getElem? (i := 257) (by decide +kernel)) rfl
theorem wml_X2_82 : Cond.methodLink RX2 82 yX1_timeToDraw ∈ lw_g := lw_g_of (List.mem_of_getElem? (i := 258) (by decide +kernel)) rfl
theorem wim_X1_timeToDraw : Cond.instanceMethod yX1_timeToDraw ∈ lw_g := lw_g_of (List.mem_of_getElem? (i := 259) (by decide +kernel)) rfl
theorem wsl_X1_timeToDraw : Cond.selects RX1 yX1_timeToDraw yX1_timeToDraw ∈ lw_g := lw_g_of (List.mem_of_getElem? (i := 260) (by decide +kernel)) rfl
theorem wcd_X1_timeToDraw : Cond.code yX1_timeToDraw cX1_timeToDraw 2 (some .int) ∈ lw_g := lw_g_of (List.mem_of_getElem? (i := 261) (by decide +kernel)) rfl
theorem wml_L_49 : Cond.methodLink RL 49 yX3_waits ∈ lw_g := lw_g_of (List.mem_of_getElem? (i := 262) (by decide +kernel)) rfl
theorem wim_X3_waits : Cond.instanceMethod yX3_waits ∈ lw_g := lw_g_of (List.mem_of_getElem? (i := 263) (by decide +kernel)) rfl
theorem wsl_X3_waits : Cond.selects RX3 yX3_waits yX3_waits ∈ lw_g := lw_g_of (List.mem_of_getElem? (i := 264) (by decide +kernel)) rfl
theorem wcd_X3_waits : Cond.code yX3_waits cX3_waits 3 (some .int) ∈ lw_g := lw_g_of (List.mem_of_getElem? (i := 265) (by decide +kernel)) rfl
theorem wml_L_53 : Cond.methodLink RL 53 yX3_all ∈ lw_g := lw_g_of (List.mem_of_getElem? (i := 266) (by decide +kernel)) rfl
theorem wim_X3_all : Cond.instanceMethod yX3_all ∈ lw_g := lw_g_of (List.mem_of_getElem? (i := 267) (by decide +kernel)) rfl
theorem wsl_X3_all : Cond.selects RX3 yX3_all yX3_all ∈ lw_g := lw_g_of (List.mem_of_getElem? (i := 268) (by decide +kernel)) rfl
theorem wcd_X3_all : Cond.code yX3_all cX3_all 2 (some .int) ∈ lw_g := lw_g_of (List.mem_of_getElem? (i := 269) (by decide +kernel)) rfl
theorem wml_X3_113 : Cond.methodLink RX3 113 yX2_worstOff ∈ lw_g := lw_g_of (List.mem_of_getElem? (i := 270) (by decide +kernel)) rfl
theorem wim_X2_worstOff : Cond.instanceMethod yX2_worstOff ∈ lw_g := lw_g_of (List.mem_of_getElem? (i := 271) (by decide +kernel)) rfl
theorem wsl_X2_worstOff : Cond.selects RX2 yX2_worstOff yX2_worstOff ∈ lw_g := lw_g_of (List.mem_of_getElem? (i := 272) (by decide +kernel)) rfl
theorem wcd_X2_worstOff : Cond.code yX2_worstOff cX2_worstOff 2 (some .int) ∈ lw_g := lw_g_of (List.mem_of_getElem? (i := 273) (by decide +kernel)) rfl
theorem wml_L_57 : Cond.methodLink RL 57 yX3_judge ∈ lw_g := lw_g_of (List.mem_of_getElem? (i := 274) (by decide +kernel)) rfl
theorem wim_X3_judge : Cond.instanceMethod yX3_judge ∈ lw_g := lw_g_of (List.mem_of_getElem? (i := 275) (by decide +kernel)) rfl
theorem wsl_X3_judge : Cond.selects RX3 yX3_judge yX3_judge ∈ lw_g := lw_g_of (List.mem_of_getElem? (i := 276) (by decide +kernel)) rfl
theorem wcd_X3_judge : Cond.code yX3_judge cX3_judge 3 (some .int) ∈ lw_g := lw_g_of (List.mem_of_getElem? (i := 277) (by decide +kernel)) rfl
theorem wml_X3_123 : Cond.methodLink RX3 123 yX0_personAt ∈ lw_g := lw_g_of (List.mem_of_getElem? (i := 278) (by decide +kernel)) rfl
theorem wml_L_61 : Cond.methodLink RL 61 yX3_left ∈ lw_g := lw_g_of (List.mem_of_getElem? (i := 279) (by decide +kernel)) rfl
theorem wim_X3_left : Cond.instanceMethod yX3_left ∈ lw_g := lw_g_of (List.mem_of_getElem? (i := 280) (by decide +kernel)) rfl
theorem wsl_X3_left : Cond.selects RX3 yX3_left yX3_left ∈ lw_g := lw_g_of (List.mem_of_getElem? (i := 281) (by decide +kernel)) rfl
theorem wcd_X3_left : Cond.code yX3_left cX3_left 6 (some .int) ∈ lw_g := lw_g_of (List.mem_of_getElem? (i := 282) (by decide +kernel)) rfl
theorem wml_X3_126 : Cond.methodLink RX3 126 Lib.Math.min.name ∈ lw_g := lw_g_of (List.mem_of_getElem? (i := 283) (by decide +kernel)) rfl
theorem wst_min : Cond.static Lib.Math.min.name ∈ lw_g := lw_g_of (List.mem_of_getElem? (i := 284) (by decide +kernel)) rfl
theorem wcd_min : Cond.code Lib.Math.min.name Lib.Math.min.code 2 (some .int) ∈ lw_g := lw_g_of (List.mem_of_getElem? (i := 285) (by decide +kernel)) rfl
theorem wml_L_65 : Cond.methodLink RL 65 yX3_best ∈ lw_g := lw_g_of (List.mem_of_getElem? (i := 286) (by decide +kernel)) rfl
theorem wim_X3_best : Cond.instanceMethod yX3_best ∈ lw_g := lw_g_of (List.mem_of_getElem? (i := 287) (by decide +kernel)) rfl
theorem wsl_X3_best : Cond.selects RX3 yX3_best yX3_best ∈ lw_g := lw_g_of (List.mem_of_getElem? (i := 288) (by decide +kernel)) rfl
theorem wcd_X3_best : Cond.code yX3_best cX3_best 9 (some .int) ∈ lw_g := lw_g_of (List.mem_of_getElem? (i := 289) (by decide +kernel)) rfl
theorem wml_X3_132 : Cond.methodLink RX3 132 yX3_leaveOut ∈ lw_g := lw_g_of (List.mem_of_getElem? (i := 290) (by decide +kernel)) rfl
theorem wim_X3_leaveOut : Cond.instanceMethod yX3_leaveOut ∈ lw_g := lw_g_of (List.mem_of_getElem? (i := 292) (by decide +kernel)) rfl
theorem wcd_X3_leaveOut : Cond.code yX3_leaveOut cX3_leaveOut 2 none ∈ lw_g := lw_g_of (List.mem_of_getElem? (i := 293) (by decide +kernel)) rfl
theorem wml_X3_151 : Cond.methodLink RX3 151 yX1_copy ∈ lw_g := lw_g_of (List.mem_of_getElem? (i := 294) (by decide +kernel)) rfl
theorem wim_X1_copy : Cond.instanceMethod yX1_copy ∈ lw_g := lw_g_of (List.mem_of_getElem? (i := 295) (by decide +kernel)) rfl
theorem wsl_X1_copy : Cond.selects RX1 yX1_copy yX1_copy ∈ lw_g := lw_g_of (List.mem_of_getElem? (i := 296) (by decide +kernel)) rfl
theorem wcd_X1_copy : Cond.code yX1_copy cX1_copy 3 none ∈ lw_g := lw_g_of (List.mem_of_getElem? (i := 297) (by decide +kernel)) rfl
theorem wml_X3_136 : Cond.methodLink RX3 136 yX3_waitIf ∈ lw_g := lw_g_of (List.mem_of_getElem? (i := 298) (by decide +kernel)) rfl
theorem wim_X3_waitIf : Cond.instanceMethod yX3_waitIf ∈ lw_g := lw_g_of (List.mem_of_getElem? (i := 300) (by decide +kernel)) rfl
theorem wcd_X3_waitIf : Cond.code yX3_waitIf cX3_waitIf 4 (some .int) ∈ lw_g := lw_g_of (List.mem_of_getElem? (i := 301) (by decide +kernel)) rfl
theorem wml_X3_173 : Cond.methodLink RX3 173 yX3_beginIf ∈ lw_g := lw_g_of (List.mem_of_getElem? (i := 302) (by decide +kernel)) rfl
theorem wim_X3_beginIf : Cond.instanceMethod yX3_beginIf ∈ lw_g := lw_g_of (List.mem_of_getElem? (i := 304) (by decide +kernel)) rfl
theorem wcd_X3_beginIf : Cond.code yX3_beginIf cX3_beginIf 4 (some .int) ∈ lw_g := lw_g_of (List.mem_of_getElem? (i := 305) (by decide +kernel)) rfl
theorem wml_X3_169 : Cond.methodLink RX3 169 yX2_beginOfOneMore ∈ lw_g := lw_g_of (List.mem_of_getElem? (i := 306) (by decide +kernel)) rfl
theorem wim_X2_beginOfOneMore : Cond.instanceMethod yX2_beginOfOneMore ∈ lw_g := lw_g_of (List.mem_of_getElem? (i := 307) (by decide +kernel)) rfl
theorem wsl_X2_beginOfOneMore : Cond.selects RX2 yX2_beginOfOneMore yX2_beginOfOneMore ∈ lw_g := lw_g_of (List.mem_of_getElem? (i := 308) (by decide +kernel)) rfl
theorem wcd_X2_beginOfOneMore : Cond.code yX2_beginOfOneMore cX2_beginOfOneMore 10 (some .int) ∈ lw_g := lw_g_of (List.mem_of_getElem? (i := 309) (by decide +kernel)) rfl
theorem wml_X2_59 : Cond.methodLink RX2 59 yX1_goesBefore ∈ lw_g := lw_g_of (List.mem_of_getElem? (i := 310) (by decide +kernel)) rfl
theorem wml_L_70 : Cond.methodLink RL 70 yX3_walk ∈ lw_g := lw_g_of (List.mem_of_getElem? (i := 311) (by decide +kernel)) rfl
theorem wim_X3_walk : Cond.instanceMethod yX3_walk ∈ lw_g := lw_g_of (List.mem_of_getElem? (i := 312) (by decide +kernel)) rfl
theorem wsl_X3_walk : Cond.selects RX3 yX3_walk yX3_walk ∈ lw_g := lw_g_of (List.mem_of_getElem? (i := 313) (by decide +kernel)) rfl
theorem wcd_X3_walk : Cond.code yX3_walk cX3_walk 8 (some .int) ∈ lw_g := lw_g_of (List.mem_of_getElem? (i := 314) (by decide +kernel)) rfl
theorem wml_X3_140 : Cond.methodLink RX3 140 yX3_endIfWalked ∈ lw_g := lw_g_of (List.mem_of_getElem? (i := 315) (by decide +kernel)) rfl
theorem wim_X3_endIfWalked : Cond.instanceMethod yX3_endIfWalked ∈ lw_g := lw_g_of (List.mem_of_getElem? (i := 317) (by decide +kernel)) rfl
theorem wcd_X3_endIfWalked : Cond.code yX3_endIfWalked cX3_endIfWalked 5 (some .int) ∈ lw_g := lw_g_of (List.mem_of_getElem? (i := 318) (by decide +kernel)) rfl
theorem wml_X3_176 : Cond.methodLink RX3 176 yX1_timeToDraw ∈ lw_g := lw_g_of (List.mem_of_getElem? (i := 319) (by decide +kernel)) rfl
theorem wml_L_75 : Cond.methodLink RL 75 yX3_claim ∈ lw_g := lw_g_of (List.mem_of_getElem? (i := 320) (by decide +kernel)) rfl
theorem wim_X3_claim : Cond.instanceMethod yX3_claim ∈ lw_g := lw_g_of (List.mem_of_getElem? (i := 321) (by decide +kernel)) rfl
theorem wsl_X3_claim : Cond.selects RX3 yX3_claim yX3_claim ∈ lw_g := lw_g_of (List.mem_of_getElem? (i := 322) (by decide +kernel)) rfl
theorem wcd_X3_claim : Cond.code yX3_claim cX3_claim 4 (some .int) ∈ lw_g := lw_g_of (List.mem_of_getElem? (i := 323) (by decide +kernel)) rfl
theorem wml_L_79 : Cond.methodLink RL 79 yX3_lied ∈ lw_g := lw_g_of (List.mem_of_getElem? (i := 324) (by decide +kernel)) rfl
theorem wim_X3_lied : Cond.instanceMethod yX3_lied ∈ lw_g := lw_g_of (List.mem_of_getElem? (i := 325) (by decide +kernel)) rfl
theorem wsl_X3_lied : Cond.selects RX3 yX3_lied yX3_lied ∈ lw_g := lw_g_of (List.mem_of_getElem? (i := 326) (by decide +kernel)) rfl
theorem wcd_X3_lied : Cond.code yX3_lied cX3_lied 3 (some .int) ∈ lw_g := lw_g_of (List.mem_of_getElem? (i := 327) (by decide +kernel)) rfl
theorem wml_X3_143 : Cond.methodLink RX3 143 yX3_allTold ∈ lw_g := lw_g_of (List.mem_of_getElem? (i := 328) (by decide +kernel)) rfl
theorem wim_X3_allTold : Cond.instanceMethod yX3_allTold ∈ lw_g := lw_g_of (List.mem_of_getElem? (i := 330) (by decide +kernel)) rfl
theorem wcd_X3_allTold : Cond.code yX3_allTold cX3_allTold 1 (some .boolean) ∈ lw_g := lw_g_of (List.mem_of_getElem? (i := 331) (by decide +kernel)) rfl
theorem wml_X3_147 : Cond.methodLink RX3 147 yX3_milesThatBring ∈ lw_g := lw_g_of (List.mem_of_getElem? (i := 332) (by decide +kernel)) rfl
theorem wim_X3_milesThatBring : Cond.instanceMethod yX3_milesThatBring ∈ lw_g := lw_g_of (List.mem_of_getElem? (i := 334) (by decide +kernel)) rfl
theorem wcd_X3_milesThatBring : Cond.code yX3_milesThatBring cX3_milesThatBring 5 (some .int) ∈ lw_g := lw_g_of (List.mem_of_getElem? (i := 335) (by decide +kernel)) rfl
theorem wml_X3_179 : Cond.methodLink RX3 179 yX2_keepsTo ∈ lw_g := lw_g_of (List.mem_of_getElem? (i := 336) (by decide +kernel)) rfl
theorem wim_X2_keepsTo : Cond.instanceMethod yX2_keepsTo ∈ lw_g := lw_g_of (List.mem_of_getElem? (i := 337) (by decide +kernel)) rfl
theorem wsl_X2_keepsTo : Cond.selects RX2 yX2_keepsTo yX2_keepsTo ∈ lw_g := lw_g_of (List.mem_of_getElem? (i := 338) (by decide +kernel)) rfl
theorem wcd_X2_keepsTo : Cond.code yX2_keepsTo cX2_keepsTo 4 (some .boolean) ∈ lw_g := lw_g_of (List.mem_of_getElem? (i := 339) (by decide +kernel)) rfl
theorem wml_X2_43 : Cond.methodLink RX2 43 yX0_personAt ∈ lw_g := lw_g_of (List.mem_of_getElem? (i := 340) (by decide +kernel)) rfl
theorem wml_L_83 : Cond.methodLink RL 83 yX3_could ∈ lw_g := lw_g_of (List.mem_of_getElem? (i := 341) (by decide +kernel)) rfl
theorem wim_X3_could : Cond.instanceMethod yX3_could ∈ lw_g := lw_g_of (List.mem_of_getElem? (i := 342) (by decide +kernel)) rfl
theorem wsl_X3_could : Cond.selects RX3 yX3_could yX3_could ∈ lw_g := lw_g_of (List.mem_of_getElem? (i := 343) (by decide +kernel)) rfl
theorem wcd_X3_could : Cond.code yX3_could cX3_could 3 (some .int) ∈ lw_g := lw_g_of (List.mem_of_getElem? (i := 344) (by decide +kernel)) rfl
theorem wml_L_87 : Cond.methodLink RL 87 yX3_law ∈ lw_g := lw_g_of (List.mem_of_getElem? (i := 345) (by decide +kernel)) rfl
theorem wim_X3_law : Cond.instanceMethod yX3_law ∈ lw_g := lw_g_of (List.mem_of_getElem? (i := 346) (by decide +kernel)) rfl
theorem wsl_X3_law : Cond.selects RX3 yX3_law yX3_law ∈ lw_g := lw_g_of (List.mem_of_getElem? (i := 347) (by decide +kernel)) rfl
theorem wcd_X3_law : Cond.code yX3_law cX3_law 6 (some .int) ∈ lw_g := lw_g_of (List.mem_of_getElem? (i := 348) (by decide +kernel)) rfl
theorem wml_X3_155 : Cond.methodLink RX3 155 yX3_runUnder ∈ lw_g := lw_g_of (List.mem_of_getElem? (i := 349) (by decide +kernel)) rfl
theorem wim_X3_runUnder : Cond.instanceMethod yX3_runUnder ∈ lw_g := lw_g_of (List.mem_of_getElem? (i := 351) (by decide +kernel)) rfl
theorem wcd_X3_runUnder : Cond.code yX3_runUnder cX3_runUnder 2 none ∈ lw_g := lw_g_of (List.mem_of_getElem? (i := 352) (by decide +kernel)) rfl
theorem wml_X3_158 : Cond.methodLink RX3 158 yX3_better ∈ lw_g := lw_g_of (List.mem_of_getElem? (i := 353) (by decide +kernel)) rfl
theorem wst_X3_better : Cond.static yX3_better ∈ lw_g := lw_g_of (List.mem_of_getElem? (i := 354) (by decide +kernel)) rfl
theorem wcd_X3_better : Cond.code yX3_better cX3_better 4 (some .boolean) ∈ lw_g := lw_g_of (List.mem_of_getElem? (i := 355) (by decide +kernel)) rfl
theorem wml_L_91 : Cond.methodLink RL 91 yX3_home ∈ lw_g := lw_g_of (List.mem_of_getElem? (i := 356) (by decide +kernel)) rfl
theorem wim_X3_home : Cond.instanceMethod yX3_home ∈ lw_g := lw_g_of (List.mem_of_getElem? (i := 357) (by decide +kernel)) rfl
theorem wsl_X3_home : Cond.selects RX3 yX3_home yX3_home ∈ lw_g := lw_g_of (List.mem_of_getElem? (i := 358) (by decide +kernel)) rfl
theorem wcd_X3_home : Cond.code yX3_home cX3_home 8 (some .int) ∈ lw_g := lw_g_of (List.mem_of_getElem? (i := 359) (by decide +kernel)) rfl
theorem wml_X3_162 : Cond.methodLink RX3 162 yX3_costOfLiving ∈ lw_g := lw_g_of (List.mem_of_getElem? (i := 360) (by decide +kernel)) rfl
theorem wim_X3_costOfLiving : Cond.instanceMethod yX3_costOfLiving ∈ lw_g := lw_g_of (List.mem_of_getElem? (i := 362) (by decide +kernel)) rfl
theorem wcd_X3_costOfLiving : Cond.code yX3_costOfLiving cX3_costOfLiving 4 (some .int) ∈ lw_g := lw_g_of (List.mem_of_getElem? (i := 363) (by decide +kernel)) rfl
theorem wml_L_95 : Cond.methodLink RL 95 yX3_two ∈ lw_g := lw_g_of (List.mem_of_getElem? (i := 364) (by decide +kernel)) rfl
theorem wim_X3_two : Cond.instanceMethod yX3_two ∈ lw_g := lw_g_of (List.mem_of_getElem? (i := 365) (by decide +kernel)) rfl
theorem wsl_X3_two : Cond.selects RX3 yX3_two yX3_two ∈ lw_g := lw_g_of (List.mem_of_getElem? (i := 366) (by decide +kernel)) rfl
theorem wcd_X3_two : Cond.code yX3_two cX3_two 11 (some .int) ∈ lw_g := lw_g_of (List.mem_of_getElem? (i := 367) (by decide +kernel)) rfl
theorem wml_X3_165 : Cond.methodLink RX3 165 Lib.Math.max.name ∈ lw_g := lw_g_of (List.mem_of_getElem? (i := 368) (by decide +kernel)) rfl
theorem wml_L_99 : Cond.methodLink RL 99 yX3_stay ∈ lw_g := lw_g_of (List.mem_of_getElem? (i := 369) (by decide +kernel)) rfl
theorem wim_X3_stay : Cond.instanceMethod yX3_stay ∈ lw_g := lw_g_of (List.mem_of_getElem? (i := 370) (by decide +kernel)) rfl
theorem wsl_X3_stay : Cond.selects RX3 yX3_stay yX3_stay ∈ lw_g := lw_g_of (List.mem_of_getElem? (i := 371) (by decide +kernel)) rfl
theorem wcd_X3_stay : Cond.code yX3_stay cX3_stay 4 (some .int) ∈ lw_g := lw_g_of (List.mem_of_getElem? (i := 372) (by decide +kernel)) rfl
theorem wml_L_103 : Cond.methodLink RL 103 yX3_day ∈ lw_g := lw_g_of (List.mem_of_getElem? (i := 373) (by decide +kernel)) rfl
theorem wim_X3_day : Cond.instanceMethod yX3_day ∈ lw_g := lw_g_of (List.mem_of_getElem? (i := 374) (by decide +kernel)) rfl
theorem wsl_X3_day : Cond.selects RX3 yX3_day yX3_day ∈ lw_g := lw_g_of (List.mem_of_getElem? (i := 375) (by decide +kernel)) rfl
theorem wcd_X3_day : Cond.code yX3_day cX3_day 5 (some .int) ∈ lw_g := lw_g_of (List.mem_of_getElem? (i := 376) (by decide +kernel)) rfl
theorem wct_X3_168 : Cond.constant RX3 168 (65537) ∈ lw_g := lw_g_of (List.mem_of_getElem? (i := 377) (by decide +kernel)) rfl
theorem wml_L_107 : Cond.methodLink RL 107 yX3_image ∈ lw_g := lw_g_of (List.mem_of_getElem? (i := 378) (by decide +kernel)) rfl
theorem wim_X3_image : Cond.instanceMethod yX3_image ∈ lw_g := lw_g_of (List.mem_of_getElem? (i := 379) (by decide +kernel)) rfl
theorem wsl_X3_image : Cond.selects RX3 yX3_image yX3_image ∈ lw_g := lw_g_of (List.mem_of_getElem? (i := 380) (by decide +kernel)) rfl
theorem wcd_X3_image : Cond.code yX3_image cX3_image 2 (some .int) ∈ lw_g := lw_g_of (List.mem_of_getElem? (i := 381) (by decide +kernel)) rfl
theorem wml_L_111 : Cond.methodLink RL 111 yX3_restore ∈ lw_g := lw_g_of (List.mem_of_getElem? (i := 382) (by decide +kernel)) rfl
theorem wim_X3_restore : Cond.instanceMethod yX3_restore ∈ lw_g := lw_g_of (List.mem_of_getElem? (i := 383) (by decide +kernel)) rfl
theorem wsl_X3_restore : Cond.selects RX3 yX3_restore yX3_restore ∈ lw_g := lw_g_of (List.mem_of_getElem? (i := 384) (by decide +kernel)) rfl
theorem wcd_X3_restore : Cond.code yX3_restore cX3_restore 2 (some .int) ∈ lw_g := lw_g_of (List.mem_of_getElem? (i := 385) (by decide +kernel)) rfl
theorem wml_L_115 : Cond.methodLink RL 115 yX3_told ∈ lw_g := lw_g_of (List.mem_of_getElem? (i := 386) (by decide +kernel)) rfl
theorem wim_X3_told : Cond.instanceMethod yX3_told ∈ lw_g := lw_g_of (List.mem_of_getElem? (i := 387) (by decide +kernel)) rfl
theorem wsl_X3_told : Cond.selects RX3 yX3_told yX3_told ∈ lw_g := lw_g_of (List.mem_of_getElem? (i := 388) (by decide +kernel)) rfl
theorem wcd_X3_told : Cond.code yX3_told cX3_told 2 (some .int) ∈ lw_g := lw_g_of (List.mem_of_getElem? (i := 389) (by decide +kernel)) rfl
theorem wcl_L_10 : Cond.classLink RL 10 RX4 ∈ lw_g := lw_g_of (List.mem_of_getElem? (i := 390) (by decide +kernel)) rfl
theorem wit_X4 : Cond.instantiable RX4 24 ∈ lw_g := lw_g_of (List.mem_of_getElem? (i := 391) (by decide +kernel)) rfl
theorem wml_L_12 : Cond.methodLink RL 12 yX4_init ∈ lw_g := lw_g_of (List.mem_of_getElem? (i := 392) (by decide +kernel)) rfl
theorem wim_X4_init : Cond.instanceMethod yX4_init ∈ lw_g := lw_g_of (List.mem_of_getElem? (i := 393) (by decide +kernel)) rfl
theorem wcd_X4_init : Cond.code yX4_init cX4_init 1 none ∈ lw_g := lw_g_of (List.mem_of_getElem? (i := 394) (by decide +kernel)) rfl
theorem wml_X4_1 : Cond.methodLink RX4 1 objectInit ∈ lw_g := lw_g_of (List.mem_of_getElem? (i := 395) (by decide +kernel)) rfl
theorem wfl_X4_67 : Cond.fieldLink RX4 67 "FarthestFirstModel" "coming" "I" ∈ lw_g := lw_g_of (List.mem_of_getElem? (i := 396) (by decide +kernel)) rfl
theorem wfl_X4_7 : Cond.fieldLink RX4 7 "FarthestFirstModel" "miles" "[I" ∈ lw_g := lw_g_of (List.mem_of_getElem? (i := 397) (by decide +kernel)) rfl
theorem wfl_X4_13 : Cond.fieldLink RX4 13 "FarthestFirstModel" "minute" "[I" ∈ lw_g := lw_g_of (List.mem_of_getElem? (i := 398) (by decide +kernel)) rfl
theorem wfl_X4_16 : Cond.fieldLink RX4 16 "FarthestFirstModel" "pails" "[I" ∈ lw_g := lw_g_of (List.mem_of_getElem? (i := 399) (by decide +kernel)) rfl
theorem wfl_X4_19 : Cond.fieldLink RX4 19 "FarthestFirstModel" "cart" "[I" ∈ lw_g := lw_g_of (List.mem_of_getElem? (i := 400) (by decide +kernel)) rfl
theorem wfl_X4_50 : Cond.fieldLink RX4 50 "FarthestFirstModel" "draw" "I" ∈ lw_g := lw_g_of (List.mem_of_getElem? (i := 401) (by decide +kernel)) rfl
theorem wfl_X4_54 : Cond.fieldLink RX4 54 "FarthestFirstModel" "far" "I" ∈ lw_g := lw_g_of (List.mem_of_getElem? (i := 402) (by decide +kernel)) rfl
theorem wfl_X4_87 : Cond.fieldLink RX4 87 "FarthestFirstModel" "stood" "I" ∈ lw_g := lw_g_of (List.mem_of_getElem? (i := 403) (by decide +kernel)) rfl
theorem wfl_X4_90 : Cond.fieldLink RX4 90 "FarthestFirstModel" "halved" "I" ∈ lw_g := lw_g_of (List.mem_of_getElem? (i := 404) (by decide +kernel)) rfl
theorem wfl_X4_22 : Cond.fieldLink RX4 22 "FarthestFirstModel" "pad" "[I" ∈ lw_g := lw_g_of (List.mem_of_getElem? (i := 405) (by decide +kernel)) rfl
theorem wfl_X4_97 : Cond.fieldLink RX4 97 "FarthestFirstModel" "padMany" "I" ∈ lw_g := lw_g_of (List.mem_of_getElem? (i := 406) (by decide +kernel)) rfl
theorem wfl_X4_25 : Cond.fieldLink RX4 25 "FarthestFirstModel" "from" "[I" ∈ lw_g := lw_g_of (List.mem_of_getElem? (i := 407) (by decide +kernel)) rfl
theorem wfl_X4_28 : Cond.fieldLink RX4 28 "FarthestFirstModel" "at" "[I" ∈ lw_g := lw_g_of (List.mem_of_getElem? (i := 408) (by decide +kernel)) rfl
theorem wfl_X4_31 : Cond.fieldLink RX4 31 "FarthestFirstModel" "waited" "[I" ∈ lw_g := lw_g_of (List.mem_of_getElem? (i := 409) (by decide +kernel)) rfl
theorem wfl_X4_34 : Cond.fieldLink RX4 34 "FarthestFirstModel" "ended" "[I" ∈ lw_g := lw_g_of (List.mem_of_getElem? (i := 410) (by decide +kernel)) rfl
theorem wfl_X4_37 : Cond.fieldLink RX4 37 "FarthestFirstModel" "took" "[I" ∈ lw_g := lw_g_of (List.mem_of_getElem? (i := 411) (by decide +kernel)) rfl
theorem wfl_X4_40 : Cond.fieldLink RX4 40 "FarthestFirstModel" "order" "[I" ∈ lw_g := lw_g_of (List.mem_of_getElem? (i := 412) (by decide +kernel)) rfl
theorem wfl_X4_115 : Cond.fieldLink RX4 115 "FarthestFirstModel" "many" "I" ∈ lw_g := lw_g_of (List.mem_of_getElem? (i := 413) (by decide +kernel)) rfl
theorem wfl_X4_100 : Cond.fieldLink RX4 100 "FarthestFirstModel" "byFar" "I" ∈ lw_g := lw_g_of (List.mem_of_getElem? (i := 414) (by decide +kernel)) rfl
theorem wfl_X4_103 : Cond.fieldLink RX4 103 "FarthestFirstModel" "byStood" "I" ∈ lw_g := lw_g_of (List.mem_of_getElem? (i := 415) (by decide +kernel)) rfl
theorem wfl_X4_43 : Cond.fieldLink RX4 43 "FarthestFirstModel" "kept" "[I" ∈ lw_g := lw_g_of (List.mem_of_getElem? (i := 416) (by decide +kernel)) rfl
theorem wfl_X4_46 : Cond.fieldLink RX4 46 "FarthestFirstModel" "isKept" "[Z" ∈ lw_g := lw_g_of (List.mem_of_getElem? (i := 417) (by decide +kernel)) rfl
theorem wfl_X4_174 : Cond.fieldLink RX4 174 "FarthestFirstModel" "keptAt" "I" ∈ lw_g := lw_g_of (List.mem_of_getElem? (i := 418) (by decide +kernel)) rfl
theorem wfl_X4_170 : Cond.fieldLink RX4 170 "FarthestFirstModel" "isWriting" "Z" ∈ lw_g := lw_g_of (List.mem_of_getElem? (i := 419) (by decide +kernel)) rfl
theorem wly_X4_coming : Cond.lays "FarthestFirstModel" "FarthestFirstModel" "coming" "I" ∈ lw_g := lw_g_of (List.mem_of_getElem? (i := 420) (by decide +kernel)) rfl
theorem wly_X4_miles : Cond.laysFinal "FarthestFirstModel" "FarthestFirstModel" "miles" "[I" ∈ lw_g := lw_g_of (List.mem_of_getElem? (i := 422) (by decide +kernel)) rfl
theorem wly_X4_minute : Cond.laysFinal "FarthestFirstModel" "FarthestFirstModel" "minute" "[I" ∈ lw_g := lw_g_of (List.mem_of_getElem? (i := 424) (by decide +kernel)) rfl
theorem wly_X4_pails : Cond.laysFinal "FarthestFirstModel" "FarthestFirstModel" "pails" "[I" ∈ lw_g := lw_g_of (List.mem_of_getElem? (i := 426) (by decide +kernel)) rfl
theorem wly_X4_cart : Cond.laysFinal "FarthestFirstModel" "FarthestFirstModel" "cart" "[I" ∈ lw_g := lw_g_of (List.mem_of_getElem? (i := 428) (by decide +kernel)) rfl
theorem wly_X4_draw : Cond.lays "FarthestFirstModel" "FarthestFirstModel" "draw" "I" ∈ lw_g := lw_g_of (List.mem_of_getElem? (i := 430) (by decide +kernel)) rfl
theorem wly_X4_far : Cond.lays "FarthestFirstModel" "FarthestFirstModel" "far" "I" ∈ lw_g := lw_g_of (List.mem_of_getElem? (i := 432) (by decide +kernel)) rfl
theorem wly_X4_stood : Cond.lays "FarthestFirstModel" "FarthestFirstModel" "stood" "I" ∈ lw_g := lw_g_of (List.mem_of_getElem? (i := 434) (by decide +kernel)) rfl
theorem wly_X4_halved : Cond.lays "FarthestFirstModel" "FarthestFirstModel" "halved" "I" ∈ lw_g := lw_g_of (List.mem_of_getElem? (i := 436) (by decide +kernel)) rfl
theorem wly_X4_pad : Cond.laysFinal "FarthestFirstModel" "FarthestFirstModel" "pad" "[I" ∈ lw_g := lw_g_of (List.mem_of_getElem? (i := 438) (by decide +kernel)) rfl
theorem wly_X4_padMany : Cond.lays "FarthestFirstModel" "FarthestFirstModel" "padMany" "I" ∈ lw_g := lw_g_of (List.mem_of_getElem? (i := 440) (by decide +kernel)) rfl
theorem wly_X4_from : Cond.laysFinal "FarthestFirstModel" "FarthestFirstModel" "from" "[I" ∈ lw_g := lw_g_of (List.mem_of_getElem? (i := 442) (by decide +kernel)) rfl
theorem wly_X4_at : Cond.laysFinal "FarthestFirstModel" "FarthestFirstModel" "at" "[I" ∈ lw_g := lw_g_of (List.mem_of_getElem? (i := 444) (by decide +kernel)) rfl
theorem wly_X4_waited : Cond.laysFinal "FarthestFirstModel" "FarthestFirstModel" "waited" "[I" ∈ lw_g := lw_g_of (List.mem_of_getElem? (i := 446) (by decide +kernel)) rfl
theorem wly_X4_ended : Cond.laysFinal "FarthestFirstModel" "FarthestFirstModel" "ended" "[I" ∈ lw_g := lw_g_of (List.mem_of_getElem? (i := 448) (by decide +kernel)) rfl
theorem wly_X4_took : Cond.laysFinal "FarthestFirstModel" "FarthestFirstModel" "took" "[I" ∈ lw_g := lw_g_of (List.mem_of_getElem? (i := 450) (by decide +kernel)) rfl
theorem wly_X4_order : Cond.laysFinal "FarthestFirstModel" "FarthestFirstModel" "order" "[I" ∈ lw_g := lw_g_of (List.mem_of_getElem? (i := 452) (by decide +kernel)) rfl
theorem wly_X4_many : Cond.lays "FarthestFirstModel" "FarthestFirstModel" "many" "I" ∈ lw_g := lw_g_of (List.mem_of_getElem? (i := 454) (by decide +kernel)) rfl
theorem wly_X4_byFar : Cond.lays "FarthestFirstModel" "FarthestFirstModel" "byFar" "I" ∈ lw_g := lw_g_of (List.mem_of_getElem? (i := 456) (by decide +kernel)) rfl
theorem wly_X4_byStood : Cond.lays "FarthestFirstModel" "FarthestFirstModel" "byStood" "I" ∈ lw_g := lw_g_of (List.mem_of_getElem? (i := 458) (by decide +kernel)) rfl
theorem wly_X4_kept : Cond.laysFinal "FarthestFirstModel" "FarthestFirstModel" "kept" "[I" ∈ lw_g := lw_g_of (List.mem_of_getElem? (i := 460) (by decide +kernel)) rfl
theorem wly_X4_isKept : Cond.laysFinal "FarthestFirstModel" "FarthestFirstModel" "isKept" "[Z" ∈ lw_g := lw_g_of (List.mem_of_getElem? (i := 462) (by decide +kernel)) rfl
theorem wly_X4_keptAt : Cond.lays "FarthestFirstModel" "FarthestFirstModel" "keptAt" "I" ∈ lw_g := lw_g_of (List.mem_of_getElem? (i := 464) (by decide +kernel)) rfl
theorem wly_X4_isWriting : Cond.lays "FarthestFirstModel" "FarthestFirstModel" "isWriting" "Z" ∈ lw_g := lw_g_of (List.mem_of_getElem? (i := 466) (by decide +kernel)) rfl
theorem wml_L_17 : Cond.methodLink RL 17 yX4_come ∈ lw_g := lw_g_of (List.mem_of_getElem? (i := 469) (by decide +kernel)) rfl
theorem wim_X4_come : Cond.instanceMethod yX4_come ∈ lw_g := lw_g_of (List.mem_of_getElem? (i := 470) (by decide +kernel)) rfl
theorem wsl_X4_come : Cond.selects RX4 yX4_come yX4_come ∈ lw_g := lw_g_of (List.mem_of_getElem? (i := 471) (by decide +kernel)) rfl
theorem wcd_X4_come : Cond.code yX4_come cX4_come 6 (some .int) ∈ lw_g := lw_g_of (List.mem_of_getElem? (i := 472) (by decide +kernel)) rfl
theorem wml_X4_63 : Cond.methodLink RX4 63 yX4_isPerson ∈ lw_g := lw_g_of (List.mem_of_getElem? (i := 473) (by decide +kernel)) rfl
theorem wst_X4_isPerson : Cond.static yX4_isPerson ∈ lw_g := lw_g_of (List.mem_of_getElem? (i := 474) (by decide +kernel)) rfl
theorem wcd_X4_isPerson : Cond.code yX4_isPerson cX4_isPerson 1 (some .boolean) ∈ lw_g := lw_g_of (List.mem_of_getElem? (i := 475) (by decide +kernel)) rfl
theorem wct_X4_57 : Cond.constantLong RX4 57 (7) ∈ lw_g := lw_g_of (List.mem_of_getElem? (i := 476) (by decide +kernel)) rfl
theorem wml_X4_59 : Cond.methodLink RX4 59 yX4_in ∈ lw_g := lw_g_of (List.mem_of_getElem? (i := 477) (by decide +kernel)) rfl
theorem wst_X4_in : Cond.static yX4_in ∈ lw_g := lw_g_of (List.mem_of_getElem? (i := 478) (by decide +kernel)) rfl
theorem wcd_X4_in : Cond.code yX4_in cX4_in 6 (some .boolean) ∈ lw_g := lw_g_of (List.mem_of_getElem? (i := 479) (by decide +kernel)) rfl
theorem wct_X4_70 : Cond.constantLong RX4 70 (99) ∈ lw_g := lw_g_of (List.mem_of_getElem? (i := 480) (by decide +kernel)) rfl
theorem wct_X4_72 : Cond.constantLong RX4 72 (999) ∈ lw_g := lw_g_of (List.mem_of_getElem? (i := 481) (by decide +kernel)) rfl
theorem wct_X4_74 : Cond.constantLong RX4 74 (9) ∈ lw_g := lw_g_of (List.mem_of_getElem? (i := 482) (by decide +kernel)) rfl
theorem wml_X4_76 : Cond.methodLink RX4 76 yX4_ones ∈ lw_g := lw_g_of (List.mem_of_getElem? (i := 483) (by decide +kernel)) rfl
theorem wst_X4_ones : Cond.static yX4_ones ∈ lw_g := lw_g_of (List.mem_of_getElem? (i := 484) (by decide +kernel)) rfl
theorem wcd_X4_ones : Cond.code yX4_ones cX4_ones 3 (some .int) ∈ lw_g := lw_g_of (List.mem_of_getElem? (i := 485) (by decide +kernel)) rfl
theorem wml_L_22 : Cond.methodLink RL 22 yX4_stays ∈ lw_g := lw_g_of (List.mem_of_getElem? (i := 486) (by decide +kernel)) rfl
theorem wim_X4_stays : Cond.instanceMethod yX4_stays ∈ lw_g := lw_g_of (List.mem_of_getElem? (i := 487) (by decide +kernel)) rfl
theorem wsl_X4_stays : Cond.selects RX4 yX4_stays yX4_stays ∈ lw_g := lw_g_of (List.mem_of_getElem? (i := 488) (by decide +kernel)) rfl
theorem wcd_X4_stays : Cond.code yX4_stays cX4_stays 2 (some .int) ∈ lw_g := lw_g_of (List.mem_of_getElem? (i := 489) (by decide +kernel)) rfl
theorem wml_X4_80 : Cond.methodLink RX4 80 yX4_comes ∈ lw_g := lw_g_of (List.mem_of_getElem? (i := 490) (by decide +kernel)) rfl
theorem wim_X4_comes : Cond.instanceMethod yX4_comes ∈ lw_g := lw_g_of (List.mem_of_getElem? (i := 492) (by decide +kernel)) rfl
theorem wcd_X4_comes : Cond.code yX4_comes cX4_comes 2 (some .boolean) ∈ lw_g := lw_g_of (List.mem_of_getElem? (i := 493) (by decide +kernel)) rfl
theorem wml_L_27 : Cond.methodLink RL 27 yX4_person ∈ lw_g := lw_g_of (List.mem_of_getElem? (i := 494) (by decide +kernel)) rfl
theorem wim_X4_person : Cond.instanceMethod yX4_person ∈ lw_g := lw_g_of (List.mem_of_getElem? (i := 495) (by decide +kernel)) rfl
theorem wsl_X4_person : Cond.selects RX4 yX4_person yX4_person ∈ lw_g := lw_g_of (List.mem_of_getElem? (i := 496) (by decide +kernel)) rfl
theorem wcd_X4_person : Cond.code yX4_person cX4_person 3 (some .int) ∈ lw_g := lw_g_of (List.mem_of_getElem? (i := 497) (by decide +kernel)) rfl
theorem wml_L_31 : Cond.methodLink RL 31 yX4_set ∈ lw_g := lw_g_of (List.mem_of_getElem? (i := 498) (by decide +kernel)) rfl
theorem wim_X4_set : Cond.instanceMethod yX4_set ∈ lw_g := lw_g_of (List.mem_of_getElem? (i := 499) (by decide +kernel)) rfl
theorem wsl_X4_set : Cond.selects RX4 yX4_set yX4_set ∈ lw_g := lw_g_of (List.mem_of_getElem? (i := 500) (by decide +kernel)) rfl
theorem wcd_X4_set : Cond.code yX4_set cX4_set 4 (some .int) ∈ lw_g := lw_g_of (List.mem_of_getElem? (i := 501) (by decide +kernel)) rfl
theorem wct_X4_83 : Cond.constantLong RX4 83 (3) ∈ lw_g := lw_g_of (List.mem_of_getElem? (i := 502) (by decide +kernel)) rfl
theorem wct_X4_85 : Cond.constantLong RX4 85 (20) ∈ lw_g := lw_g_of (List.mem_of_getElem? (i := 503) (by decide +kernel)) rfl
theorem wml_L_35 : Cond.methodLink RL 35 yX4_say ∈ lw_g := lw_g_of (List.mem_of_getElem? (i := 504) (by decide +kernel)) rfl
theorem wim_X4_say : Cond.instanceMethod yX4_say ∈ lw_g := lw_g_of (List.mem_of_getElem? (i := 505) (by decide +kernel)) rfl
theorem wsl_X4_say : Cond.selects RX4 yX4_say yX4_say ∈ lw_g := lw_g_of (List.mem_of_getElem? (i := 506) (by decide +kernel)) rfl
theorem wcd_X4_say : Cond.code yX4_say cX4_say 2 (some .int) ∈ lw_g := lw_g_of (List.mem_of_getElem? (i := 507) (by decide +kernel)) rfl
theorem wct_X4_93 : Cond.constantLong RX4 93 (33) ∈ lw_g := lw_g_of (List.mem_of_getElem? (i := 508) (by decide +kernel)) rfl
theorem wct_X4_95 : Cond.constantLong RX4 95 (126) ∈ lw_g := lw_g_of (List.mem_of_getElem? (i := 509) (by decide +kernel)) rfl
theorem wml_L_40 : Cond.methodLink RL 40 yX4_wipe ∈ lw_g := lw_g_of (List.mem_of_getElem? (i := 510) (by decide +kernel)) rfl
theorem wim_X4_wipe : Cond.instanceMethod yX4_wipe ∈ lw_g := lw_g_of (List.mem_of_getElem? (i := 511) (by decide +kernel)) rfl
theorem wsl_X4_wipe : Cond.selects RX4 yX4_wipe yX4_wipe ∈ lw_g := lw_g_of (List.mem_of_getElem? (i := 512) (by decide +kernel)) rfl
theorem wcd_X4_wipe : Cond.code yX4_wipe cX4_wipe 2 (some .int) ∈ lw_g := lw_g_of (List.mem_of_getElem? (i := 513) (by decide +kernel)) rfl
theorem wml_L_44 : Cond.methodLink RL 44 yX4_fault ∈ lw_g := lw_g_of (List.mem_of_getElem? (i := 514) (by decide +kernel)) rfl
theorem wim_X4_fault : Cond.instanceMethod yX4_fault ∈ lw_g := lw_g_of (List.mem_of_getElem? (i := 515) (by decide +kernel)) rfl
theorem wsl_X4_fault : Cond.selects RX4 yX4_fault yX4_fault ∈ lw_g := lw_g_of (List.mem_of_getElem? (i := 516) (by decide +kernel)) rfl
theorem wcd_X4_fault : Cond.code yX4_fault cX4_fault 4 (some .int) ∈ lw_g := lw_g_of (List.mem_of_getElem? (i := 517) (by decide +kernel)) rfl
theorem wml_L_48 : Cond.methodLink RL 48 yX4_served ∈ lw_g := lw_g_of (List.mem_of_getElem? (i := 518) (by decide +kernel)) rfl
theorem wim_X4_served : Cond.instanceMethod yX4_served ∈ lw_g := lw_g_of (List.mem_of_getElem? (i := 519) (by decide +kernel)) rfl
theorem wsl_X4_served : Cond.selects RX4 yX4_served yX4_served ∈ lw_g := lw_g_of (List.mem_of_getElem? (i := 520) (by decide +kernel)) rfl
theorem wcd_X4_served : Cond.code yX4_served cX4_served 2 (some .int) ∈ lw_g := lw_g_of (List.mem_of_getElem? (i := 521) (by decide +kernel)) rfl
theorem wml_X4_131 : Cond.methodLink RX4 131 yX4_goNow ∈ lw_g := lw_g_of (List.mem_of_getElem? (i := 522) (by decide +kernel)) rfl
theorem wim_X4_goNow : Cond.instanceMethod yX4_goNow ∈ lw_g := lw_g_of (List.mem_of_getElem? (i := 524) (by decide +kernel)) rfl
theorem wcd_X4_goNow : Cond.code yX4_goNow cX4_goNow 1 none ∈ lw_g := lw_g_of (List.mem_of_getElem? (i := 525) (by decide +kernel)) rfl
theorem wml_X4_124 : Cond.methodLink RX4 124 yX4_layNow ∈ lw_g := lw_g_of (List.mem_of_getElem? (i := 526) (by decide +kernel)) rfl
theorem wim_X4_layNow : Cond.instanceMethod yX4_layNow ∈ lw_g := lw_g_of (List.mem_of_getElem? (i := 528) (by decide +kernel)) rfl
theorem wcd_X4_layNow : Cond.code yX4_layNow cX4_layNow 2 none ∈ lw_g := lw_g_of (List.mem_of_getElem? (i := 529) (by decide +kernel)) rfl
theorem wml_X4_127 : Cond.methodLink RX4 127 yX4_go ∈ lw_g := lw_g_of (List.mem_of_getElem? (i := 530) (by decide +kernel)) rfl
theorem wim_X4_go : Cond.instanceMethod yX4_go ∈ lw_g := lw_g_of (List.mem_of_getElem? (i := 532) (by decide +kernel)) rfl
theorem wcd_X4_go : Cond.code yX4_go cX4_go 7 none ∈ lw_g := lw_g_of (List.mem_of_getElem? (i := 533) (by decide +kernel)) rfl
theorem wml_X4_118 : Cond.methodLink RX4 118 yX4_nextOf ∈ lw_g := lw_g_of (List.mem_of_getElem? (i := 534) (by decide +kernel)) rfl
theorem wim_X4_nextOf : Cond.instanceMethod yX4_nextOf ∈ lw_g := lw_g_of (List.mem_of_getElem? (i := 536) (by decide +kernel)) rfl
theorem wcd_X4_nextOf : Cond.code yX4_nextOf cX4_nextOf 6 (some .int) ∈ lw_g := lw_g_of (List.mem_of_getElem? (i := 537) (by decide +kernel)) rfl
theorem wml_X4_110 : Cond.methodLink RX4 110 yX4_isAhead ∈ lw_g := lw_g_of (List.mem_of_getElem? (i := 538) (by decide +kernel)) rfl
theorem wim_X4_isAhead : Cond.instanceMethod yX4_isAhead ∈ lw_g := lw_g_of (List.mem_of_getElem? (i := 540) (by decide +kernel)) rfl
theorem wcd_X4_isAhead : Cond.code yX4_isAhead cX4_isAhead 6 (some .boolean) ∈ lw_g := lw_g_of (List.mem_of_getElem? (i := 541) (by decide +kernel)) rfl
theorem wml_X4_106 : Cond.methodLink RX4 106 yX4_claimOf ∈ lw_g := lw_g_of (List.mem_of_getElem? (i := 542) (by decide +kernel)) rfl
theorem wim_X4_claimOf : Cond.instanceMethod yX4_claimOf ∈ lw_g := lw_g_of (List.mem_of_getElem? (i := 544) (by decide +kernel)) rfl
theorem wcd_X4_claimOf : Cond.code yX4_claimOf cX4_claimOf 4 (some .int) ∈ lw_g := lw_g_of (List.mem_of_getElem? (i := 545) (by decide +kernel)) rfl
theorem wml_X4_121 : Cond.methodLink RX4 121 yX4_soonest ∈ lw_g := lw_g_of (List.mem_of_getElem? (i := 546) (by decide +kernel)) rfl
theorem wim_X4_soonest : Cond.instanceMethod yX4_soonest ∈ lw_g := lw_g_of (List.mem_of_getElem? (i := 548) (by decide +kernel)) rfl
theorem wcd_X4_soonest : Cond.code yX4_soonest cX4_soonest 4 (some .int) ∈ lw_g := lw_g_of (List.mem_of_getElem? (i := 549) (by decide +kernel)) rfl
theorem wct_X4_114 : Cond.constant RX4 114 (1000000000) ∈ lw_g := lw_g_of (List.mem_of_getElem? (i := 550) (by decide +kernel)) rfl
theorem wml_L_52 : Cond.methodLink RL 52 yX4_waits ∈ lw_g := lw_g_of (List.mem_of_getElem? (i := 551) (by decide +kernel)) rfl
theorem wim_X4_waits : Cond.instanceMethod yX4_waits ∈ lw_g := lw_g_of (List.mem_of_getElem? (i := 552) (by decide +kernel)) rfl
theorem wsl_X4_waits : Cond.selects RX4 yX4_waits yX4_waits ∈ lw_g := lw_g_of (List.mem_of_getElem? (i := 553) (by decide +kernel)) rfl
theorem wcd_X4_waits : Cond.code yX4_waits cX4_waits 3 (some .int) ∈ lw_g := lw_g_of (List.mem_of_getElem? (i := 554) (by decide +kernel)) rfl
theorem wml_L_56 : Cond.methodLink RL 56 yX4_all ∈ lw_g := lw_g_of (List.mem_of_getElem? (i := 555) (by decide +kernel)) rfl
theorem wim_X4_all : Cond.instanceMethod yX4_all ∈ lw_g := lw_g_of (List.mem_of_getElem? (i := 556) (by decide +kernel)) rfl
theorem wsl_X4_all : Cond.selects RX4 yX4_all yX4_all ∈ lw_g := lw_g_of (List.mem_of_getElem? (i := 557) (by decide +kernel)) rfl
theorem wcd_X4_all : Cond.code yX4_all cX4_all 2 (some .int) ∈ lw_g := lw_g_of (List.mem_of_getElem? (i := 558) (by decide +kernel)) rfl
theorem wml_X4_134 : Cond.methodLink RX4 134 yX4_worstOf ∈ lw_g := lw_g_of (List.mem_of_getElem? (i := 559) (by decide +kernel)) rfl
theorem wim_X4_worstOf : Cond.instanceMethod yX4_worstOf ∈ lw_g := lw_g_of (List.mem_of_getElem? (i := 561) (by decide +kernel)) rfl
theorem wcd_X4_worstOf : Cond.code yX4_worstOf cX4_worstOf 4 (some .int) ∈ lw_g := lw_g_of (List.mem_of_getElem? (i := 562) (by decide +kernel)) rfl
theorem wml_X4_137 : Cond.methodLink RX4 137 yX4_whose ∈ lw_g := lw_g_of (List.mem_of_getElem? (i := 563) (by decide +kernel)) rfl
theorem wim_X4_whose : Cond.instanceMethod yX4_whose ∈ lw_g := lw_g_of (List.mem_of_getElem? (i := 565) (by decide +kernel)) rfl
theorem wcd_X4_whose : Cond.code yX4_whose cX4_whose 3 (some .int) ∈ lw_g := lw_g_of (List.mem_of_getElem? (i := 566) (by decide +kernel)) rfl
theorem wml_X4_141 : Cond.methodLink RX4 141 yX4_sumOf ∈ lw_g := lw_g_of (List.mem_of_getElem? (i := 567) (by decide +kernel)) rfl
theorem wim_X4_sumOf : Cond.instanceMethod yX4_sumOf ∈ lw_g := lw_g_of (List.mem_of_getElem? (i := 569) (by decide +kernel)) rfl
theorem wcd_X4_sumOf : Cond.code yX4_sumOf cX4_sumOf 4 (some .int) ∈ lw_g := lw_g_of (List.mem_of_getElem? (i := 570) (by decide +kernel)) rfl
theorem wml_L_60 : Cond.methodLink RL 60 yX4_judge ∈ lw_g := lw_g_of (List.mem_of_getElem? (i := 571) (by decide +kernel)) rfl
theorem wim_X4_judge : Cond.instanceMethod yX4_judge ∈ lw_g := lw_g_of (List.mem_of_getElem? (i := 572) (by decide +kernel)) rfl
theorem wsl_X4_judge : Cond.selects RX4 yX4_judge yX4_judge ∈ lw_g := lw_g_of (List.mem_of_getElem? (i := 573) (by decide +kernel)) rfl
theorem wcd_X4_judge : Cond.code yX4_judge cX4_judge 3 (some .int) ∈ lw_g := lw_g_of (List.mem_of_getElem? (i := 574) (by decide +kernel)) rfl
theorem wml_X4_144 : Cond.methodLink RX4 144 yX4_fault ∈ lw_g := lw_g_of (List.mem_of_getElem? (i := 575) (by decide +kernel)) rfl
theorem wml_L_64 : Cond.methodLink RL 64 yX4_left ∈ lw_g := lw_g_of (List.mem_of_getElem? (i := 576) (by decide +kernel)) rfl
theorem wim_X4_left : Cond.instanceMethod yX4_left ∈ lw_g := lw_g_of (List.mem_of_getElem? (i := 577) (by decide +kernel)) rfl
theorem wsl_X4_left : Cond.selects RX4 yX4_left yX4_left ∈ lw_g := lw_g_of (List.mem_of_getElem? (i := 578) (by decide +kernel)) rfl
theorem wcd_X4_left : Cond.code yX4_left cX4_left 3 (some .int) ∈ lw_g := lw_g_of (List.mem_of_getElem? (i := 579) (by decide +kernel)) rfl
theorem wml_L_69 : Cond.methodLink RL 69 yX4_best ∈ lw_g := lw_g_of (List.mem_of_getElem? (i := 580) (by decide +kernel)) rfl
theorem wim_X4_best : Cond.instanceMethod yX4_best ∈ lw_g := lw_g_of (List.mem_of_getElem? (i := 581) (by decide +kernel)) rfl
theorem wsl_X4_best : Cond.selects RX4 yX4_best yX4_best ∈ lw_g := lw_g_of (List.mem_of_getElem? (i := 582) (by decide +kernel)) rfl
theorem wcd_X4_best : Cond.code yX4_best cX4_best 8 (some .int) ∈ lw_g := lw_g_of (List.mem_of_getElem? (i := 583) (by decide +kernel)) rfl
theorem wml_L_74 : Cond.methodLink RL 74 yX4_walk ∈ lw_g := lw_g_of (List.mem_of_getElem? (i := 584) (by decide +kernel)) rfl
theorem wim_X4_walk : Cond.instanceMethod yX4_walk ∈ lw_g := lw_g_of (List.mem_of_getElem? (i := 585) (by decide +kernel)) rfl
theorem wsl_X4_walk : Cond.selects RX4 yX4_walk yX4_walk ∈ lw_g := lw_g_of (List.mem_of_getElem? (i := 586) (by decide +kernel)) rfl
theorem wcd_X4_walk : Cond.code yX4_walk cX4_walk 7 (some .int) ∈ lw_g := lw_g_of (List.mem_of_getElem? (i := 587) (by decide +kernel)) rfl
theorem wct_X4_147 : Cond.constantLong RX4 147 (60) ∈ lw_g := lw_g_of (List.mem_of_getElem? (i := 588) (by decide +kernel)) rfl
theorem wml_L_78 : Cond.methodLink RL 78 yX4_claim ∈ lw_g := lw_g_of (List.mem_of_getElem? (i := 589) (by decide +kernel)) rfl
theorem wim_X4_claim : Cond.instanceMethod yX4_claim ∈ lw_g := lw_g_of (List.mem_of_getElem? (i := 590) (by decide +kernel)) rfl
theorem wsl_X4_claim : Cond.selects RX4 yX4_claim yX4_claim ∈ lw_g := lw_g_of (List.mem_of_getElem? (i := 591) (by decide +kernel)) rfl
theorem wcd_X4_claim : Cond.code yX4_claim cX4_claim 4 (some .int) ∈ lw_g := lw_g_of (List.mem_of_getElem? (i := 592) (by decide +kernel)) rfl
theorem wct_X4_149 : Cond.constantLong RX4 149 (9999) ∈ lw_g := lw_g_of (List.mem_of_getElem? (i := 593) (by decide +kernel)) rfl
theorem wml_L_82 : Cond.methodLink RL 82 yX4_lied ∈ lw_g := lw_g_of (List.mem_of_getElem? (i := 594) (by decide +kernel)) rfl
theorem wim_X4_lied : Cond.instanceMethod yX4_lied ∈ lw_g := lw_g_of (List.mem_of_getElem? (i := 595) (by decide +kernel)) rfl
theorem wsl_X4_lied : Cond.selects RX4 yX4_lied yX4_lied ∈ lw_g := lw_g_of (List.mem_of_getElem? (i := 596) (by decide +kernel)) rfl
theorem wcd_X4_lied : Cond.code yX4_lied cX4_lied 4 (some .int) ∈ lw_g := lw_g_of (List.mem_of_getElem? (i := 597) (by decide +kernel)) rfl
theorem wml_X4_155 : Cond.methodLink RX4 155 yX4_areAllTold ∈ lw_g := lw_g_of (List.mem_of_getElem? (i := 598) (by decide +kernel)) rfl
theorem wim_X4_areAllTold : Cond.instanceMethod yX4_areAllTold ∈ lw_g := lw_g_of (List.mem_of_getElem? (i := 600) (by decide +kernel)) rfl
theorem wcd_X4_areAllTold : Cond.code yX4_areAllTold cX4_areAllTold 1 (some .boolean) ∈ lw_g := lw_g_of (List.mem_of_getElem? (i := 601) (by decide +kernel)) rfl
theorem wml_X4_158 : Cond.methodLink RX4 158 yX4_isRowBy ∈ lw_g := lw_g_of (List.mem_of_getElem? (i := 602) (by decide +kernel)) rfl
theorem wim_X4_isRowBy : Cond.instanceMethod yX4_isRowBy ∈ lw_g := lw_g_of (List.mem_of_getElem? (i := 604) (by decide +kernel)) rfl
theorem wcd_X4_isRowBy : Cond.code yX4_isRowBy cX4_isRowBy 3 (some .boolean) ∈ lw_g := lw_g_of (List.mem_of_getElem? (i := 605) (by decide +kernel)) rfl
theorem wml_X4_151 : Cond.methodLink RX4 151 yX4_isRow ∈ lw_g := lw_g_of (List.mem_of_getElem? (i := 606) (by decide +kernel)) rfl
theorem wim_X4_isRow : Cond.instanceMethod yX4_isRow ∈ lw_g := lw_g_of (List.mem_of_getElem? (i := 608) (by decide +kernel)) rfl
theorem wcd_X4_isRow : Cond.code yX4_isRow cX4_isRow 3 (some .boolean) ∈ lw_g := lw_g_of (List.mem_of_getElem? (i := 609) (by decide +kernel)) rfl
theorem wml_L_86 : Cond.methodLink RL 86 yX4_could ∈ lw_g := lw_g_of (List.mem_of_getElem? (i := 610) (by decide +kernel)) rfl
theorem wim_X4_could : Cond.instanceMethod yX4_could ∈ lw_g := lw_g_of (List.mem_of_getElem? (i := 611) (by decide +kernel)) rfl
theorem wsl_X4_could : Cond.selects RX4 yX4_could yX4_could ∈ lw_g := lw_g_of (List.mem_of_getElem? (i := 612) (by decide +kernel)) rfl
theorem wcd_X4_could : Cond.code yX4_could cX4_could 6 (some .int) ∈ lw_g := lw_g_of (List.mem_of_getElem? (i := 613) (by decide +kernel)) rfl
theorem wml_L_90 : Cond.methodLink RL 90 yX4_law ∈ lw_g := lw_g_of (List.mem_of_getElem? (i := 614) (by decide +kernel)) rfl
theorem wim_X4_law : Cond.instanceMethod yX4_law ∈ lw_g := lw_g_of (List.mem_of_getElem? (i := 615) (by decide +kernel)) rfl
theorem wsl_X4_law : Cond.selects RX4 yX4_law yX4_law ∈ lw_g := lw_g_of (List.mem_of_getElem? (i := 616) (by decide +kernel)) rfl
theorem wcd_X4_law : Cond.code yX4_law cX4_law 8 (some .int) ∈ lw_g := lw_g_of (List.mem_of_getElem? (i := 617) (by decide +kernel)) rfl
theorem wct_X4_162 : Cond.constantLong RX4 162 (2) ∈ lw_g := lw_g_of (List.mem_of_getElem? (i := 618) (by decide +kernel)) rfl
theorem wml_L_94 : Cond.methodLink RL 94 yX4_home ∈ lw_g := lw_g_of (List.mem_of_getElem? (i := 619) (by decide +kernel)) rfl
theorem wim_X4_home : Cond.instanceMethod yX4_home ∈ lw_g := lw_g_of (List.mem_of_getElem? (i := 620) (by decide +kernel)) rfl
theorem wsl_X4_home : Cond.selects RX4 yX4_home yX4_home ∈ lw_g := lw_g_of (List.mem_of_getElem? (i := 621) (by decide +kernel)) rfl
theorem wcd_X4_home : Cond.code yX4_home cX4_home 8 (some .int) ∈ lw_g := lw_g_of (List.mem_of_getElem? (i := 622) (by decide +kernel)) rfl
theorem wml_L_98 : Cond.methodLink RL 98 yX4_two ∈ lw_g := lw_g_of (List.mem_of_getElem? (i := 623) (by decide +kernel)) rfl
theorem wim_X4_two : Cond.instanceMethod yX4_two ∈ lw_g := lw_g_of (List.mem_of_getElem? (i := 624) (by decide +kernel)) rfl
theorem wsl_X4_two : Cond.selects RX4 yX4_two yX4_two ∈ lw_g := lw_g_of (List.mem_of_getElem? (i := 625) (by decide +kernel)) rfl
theorem wcd_X4_two : Cond.code yX4_two cX4_two 8 (some .int) ∈ lw_g := lw_g_of (List.mem_of_getElem? (i := 626) (by decide +kernel)) rfl
theorem wml_L_102 : Cond.methodLink RL 102 yX4_stay ∈ lw_g := lw_g_of (List.mem_of_getElem? (i := 627) (by decide +kernel)) rfl
theorem wim_X4_stay : Cond.instanceMethod yX4_stay ∈ lw_g := lw_g_of (List.mem_of_getElem? (i := 628) (by decide +kernel)) rfl
theorem wsl_X4_stay : Cond.selects RX4 yX4_stay yX4_stay ∈ lw_g := lw_g_of (List.mem_of_getElem? (i := 629) (by decide +kernel)) rfl
theorem wcd_X4_stay : Cond.code yX4_stay cX4_stay 4 (some .int) ∈ lw_g := lw_g_of (List.mem_of_getElem? (i := 630) (by decide +kernel)) rfl
theorem wml_L_106 : Cond.methodLink RL 106 yX4_day ∈ lw_g := lw_g_of (List.mem_of_getElem? (i := 631) (by decide +kernel)) rfl
theorem wim_X4_day : Cond.instanceMethod yX4_day ∈ lw_g := lw_g_of (List.mem_of_getElem? (i := 632) (by decide +kernel)) rfl
theorem wsl_X4_day : Cond.selects RX4 yX4_day yX4_day ∈ lw_g := lw_g_of (List.mem_of_getElem? (i := 633) (by decide +kernel)) rfl
theorem wcd_X4_day : Cond.code yX4_day cX4_day 5 (some .int) ∈ lw_g := lw_g_of (List.mem_of_getElem? (i := 634) (by decide +kernel)) rfl
theorem wct_X4_164 : Cond.constantLong RX4 164 (75) ∈ lw_g := lw_g_of (List.mem_of_getElem? (i := 635) (by decide +kernel)) rfl
theorem wct_X4_166 : Cond.constantLong RX4 166 (74) ∈ lw_g := lw_g_of (List.mem_of_getElem? (i := 636) (by decide +kernel)) rfl
theorem wct_X4_168 : Cond.constantLong RX4 168 (65537) ∈ lw_g := lw_g_of (List.mem_of_getElem? (i := 637) (by decide +kernel)) rfl
theorem wml_L_110 : Cond.methodLink RL 110 yX4_image ∈ lw_g := lw_g_of (List.mem_of_getElem? (i := 638) (by decide +kernel)) rfl
theorem wim_X4_image : Cond.instanceMethod yX4_image ∈ lw_g := lw_g_of (List.mem_of_getElem? (i := 639) (by decide +kernel)) rfl
theorem wsl_X4_image : Cond.selects RX4 yX4_image yX4_image ∈ lw_g := lw_g_of (List.mem_of_getElem? (i := 640) (by decide +kernel)) rfl
theorem wcd_X4_image : Cond.code yX4_image cX4_image 2 (some .int) ∈ lw_g := lw_g_of (List.mem_of_getElem? (i := 641) (by decide +kernel)) rfl
theorem wml_X4_180 : Cond.methodLink RX4 180 yX4_passAll ∈ lw_g := lw_g_of (List.mem_of_getElem? (i := 642) (by decide +kernel)) rfl
theorem wim_X4_passAll : Cond.instanceMethod yX4_passAll ∈ lw_g := lw_g_of (List.mem_of_getElem? (i := 644) (by decide +kernel)) rfl
theorem wcd_X4_passAll : Cond.code yX4_passAll cX4_passAll 2 none ∈ lw_g := lw_g_of (List.mem_of_getElem? (i := 645) (by decide +kernel)) rfl
theorem wml_X4_177 : Cond.methodLink RX4 177 yX4_pass ∈ lw_g := lw_g_of (List.mem_of_getElem? (i := 646) (by decide +kernel)) rfl
theorem wim_X4_pass : Cond.instanceMethod yX4_pass ∈ lw_g := lw_g_of (List.mem_of_getElem? (i := 648) (by decide +kernel)) rfl
theorem wcd_X4_pass : Cond.code yX4_pass cX4_pass 3 (some .int) ∈ lw_g := lw_g_of (List.mem_of_getElem? (i := 649) (by decide +kernel)) rfl
theorem wml_L_114 : Cond.methodLink RL 114 yX4_restore ∈ lw_g := lw_g_of (List.mem_of_getElem? (i := 650) (by decide +kernel)) rfl
theorem wim_X4_restore : Cond.instanceMethod yX4_restore ∈ lw_g := lw_g_of (List.mem_of_getElem? (i := 651) (by decide +kernel)) rfl
theorem wsl_X4_restore : Cond.selects RX4 yX4_restore yX4_restore ∈ lw_g := lw_g_of (List.mem_of_getElem? (i := 652) (by decide +kernel)) rfl
theorem wcd_X4_restore : Cond.code yX4_restore cX4_restore 2 (some .int) ∈ lw_g := lw_g_of (List.mem_of_getElem? (i := 653) (by decide +kernel)) rfl
theorem wml_L_118 : Cond.methodLink RL 118 yX4_told ∈ lw_g := lw_g_of (List.mem_of_getElem? (i := 654) (by decide +kernel)) rfl
theorem wim_X4_told : Cond.instanceMethod yX4_told ∈ lw_g := lw_g_of (List.mem_of_getElem? (i := 655) (by decide +kernel)) rfl
theorem wsl_X4_told : Cond.selects RX4 yX4_told yX4_told ∈ lw_g := lw_g_of (List.mem_of_getElem? (i := 656) (by decide +kernel)) rfl
theorem wcd_X4_told : Cond.code yX4_told cX4_told 2 (some .int) ∈ lw_g := lw_g_of (List.mem_of_getElem? (i := 657) (by decide +kernel)) rfl
theorem inX0 : ∀ w ∈ u_ws RX0 TX0 2, w ∈ lw_g := by
  have e : u_ws RX0 TX0 2 = [Cond.lays "FarthestFirst$Pad" "FarthestFirst$Pad" "count" "I", Cond.laysFinal "FarthestFirst$Pad" "FarthestFirst$Pad" "signs" "[I"] := by decide +kernel
  rw [e]
  exact List.forall_mem_cons.mpr ⟨wly_X0_count, List.forall_mem_cons.mpr ⟨wly_X0_signs, fun _ h => absurd h List.not_mem_nil⟩⟩
theorem inX1 : ∀ w ∈ u_ws RX1 TX1 6, w ∈ lw_g := by
  have e : u_ws RX1 TX1 6 = [Cond.laysFinal "FarthestFirst$Village" "FarthestFirst$Village" "miles" "[I", Cond.laysFinal "FarthestFirst$Village" "FarthestFirst$Village" "minute" "[I", Cond.laysFinal "FarthestFirst$Village" "FarthestFirst$Village" "pails" "[I", Cond.laysFinal "FarthestFirst$Village" "FarthestFirst$Village" "cart" "[Z", Cond.lays "FarthestFirst$Village" "FarthestFirst$Village" "comers" "I", Cond.laysFinal "FarthestFirst$Village" "FarthestFirst$Village" "settings" "[I"] := by decide +kernel
  rw [e]
  exact List.forall_mem_cons.mpr ⟨wly_X1_miles, List.forall_mem_cons.mpr ⟨wly_X1_minute, List.forall_mem_cons.mpr ⟨wly_X1_pails, List.forall_mem_cons.mpr ⟨wly_X1_cart, List.forall_mem_cons.mpr ⟨wly_X1_comers, List.forall_mem_cons.mpr ⟨wly_X1_settings, fun _ h => absurd h List.not_mem_nil⟩⟩⟩⟩⟩⟩
theorem inX2 : ∀ w ∈ u_ws RX2 TX2 10, w ∈ lw_g := by
  have e : u_ws RX2 TX2 10 = [Cond.laysFinal "FarthestFirst$Well" "FarthestFirst$Well" "order" "[I", Cond.laysFinal "FarthestFirst$Well" "FarthestFirst$Well" "begin" "[I", Cond.laysFinal "FarthestFirst$Well" "FarthestFirst$Well" "end" "[I", Cond.laysFinal "FarthestFirst$Well" "FarthestFirst$Well" "wait" "[I", Cond.lays "FarthestFirst$Well" "FarthestFirst$Well" "turns" "I", Cond.lays "FarthestFirst$Well" "FarthestFirst$Well" "worst" "I", Cond.lays "FarthestFirst$Well" "FarthestFirst$Well" "sum" "I", Cond.lays "FarthestFirst$Well" "FarthestFirst$Well" "time" "I", Cond.lays "FarthestFirst$Well" "FarthestFirst$Well" "comers" "I", Cond.lays "FarthestFirst$Well" "FarthestFirst$Well" "rest" "I"] := by decide +kernel
  rw [e]
  exact List.forall_mem_cons.mpr ⟨wly_X2_order, List.forall_mem_cons.mpr ⟨wly_X2_begin, List.forall_mem_cons.mpr ⟨wly_X2_end, List.forall_mem_cons.mpr ⟨wly_X2_wait, List.forall_mem_cons.mpr ⟨wly_X2_turns, List.forall_mem_cons.mpr ⟨wly_X2_worst, List.forall_mem_cons.mpr ⟨wly_X2_sum, List.forall_mem_cons.mpr ⟨wly_X2_time, List.forall_mem_cons.mpr ⟨wly_X2_comers, List.forall_mem_cons.mpr ⟨wly_X2_rest, fun _ h => absurd h List.not_mem_nil⟩⟩⟩⟩⟩⟩⟩⟩⟩⟩
theorem inX3 : ∀ w ∈ u_ws RX3 TX3 6, w ∈ lw_g := by
  have e : u_ws RX3 TX3 6 = [Cond.laysFinal "FarthestFirst" "FarthestFirst" "now" "LFarthestFirst$Village;", Cond.laysFinal "FarthestFirst" "FarthestFirst" "trial" "LFarthestFirst$Village;", Cond.laysFinal "FarthestFirst" "FarthestFirst" "images" "[LFarthestFirst$Village;", Cond.laysFinal "FarthestFirst" "FarthestFirst" "kept" "[Z", Cond.laysFinal "FarthestFirst" "FarthestFirst" "well" "LFarthestFirst$Well;", Cond.laysFinal "FarthestFirst" "FarthestFirst" "pad" "LFarthestFirst$Pad;"] := by decide +kernel
  rw [e]
  exact List.forall_mem_cons.mpr ⟨wly_X3_now, List.forall_mem_cons.mpr ⟨wly_X3_trial, List.forall_mem_cons.mpr ⟨wly_X3_images, List.forall_mem_cons.mpr ⟨wly_X3_kept, List.forall_mem_cons.mpr ⟨wly_X3_well, List.forall_mem_cons.mpr ⟨wly_X3_pad, fun _ h => absurd h List.not_mem_nil⟩⟩⟩⟩⟩⟩
theorem inX4 : ∀ w ∈ u_ws RX4 TX4 24, w ∈ lw_g := by
  have e : u_ws RX4 TX4 24 = [Cond.lays "FarthestFirstModel" "FarthestFirstModel" "coming" "I", Cond.laysFinal "FarthestFirstModel" "FarthestFirstModel" "miles" "[I", Cond.laysFinal "FarthestFirstModel" "FarthestFirstModel" "minute" "[I", Cond.laysFinal "FarthestFirstModel" "FarthestFirstModel" "pails" "[I", Cond.laysFinal "FarthestFirstModel" "FarthestFirstModel" "cart" "[I", Cond.lays "FarthestFirstModel" "FarthestFirstModel" "draw" "I", Cond.lays "FarthestFirstModel" "FarthestFirstModel" "far" "I", Cond.lays "FarthestFirstModel" "FarthestFirstModel" "stood" "I", Cond.lays "FarthestFirstModel" "FarthestFirstModel" "halved" "I", Cond.laysFinal "FarthestFirstModel" "FarthestFirstModel" "pad" "[I", Cond.lays "FarthestFirstModel" "FarthestFirstModel" "padMany" "I", Cond.laysFinal "FarthestFirstModel" "FarthestFirstModel" "from" "[I", Cond.laysFinal "FarthestFirstModel" "FarthestFirstModel" "at" "[I", Cond.laysFinal "FarthestFirstModel" "FarthestFirstModel" "waited" "[I", Cond.laysFinal "FarthestFirstModel" "FarthestFirstModel" "ended" "[I", Cond.laysFinal "FarthestFirstModel" "FarthestFirstModel" "took" "[I", Cond.laysFinal "FarthestFirstModel" "FarthestFirstModel" "order" "[I", Cond.lays "FarthestFirstModel" "FarthestFirstModel" "many" "I", Cond.lays "FarthestFirstModel" "FarthestFirstModel" "byFar" "I", Cond.lays "FarthestFirstModel" "FarthestFirstModel" "byStood" "I", Cond.laysFinal "FarthestFirstModel" "FarthestFirstModel" "kept" "[I", Cond.laysFinal "FarthestFirstModel" "FarthestFirstModel" "isKept" "[Z", Cond.lays "FarthestFirstModel" "FarthestFirstModel" "keptAt" "I", Cond.lays "FarthestFirstModel" "FarthestFirstModel" "isWriting" "Z"] := by decide +kernel
  rw [e]
  exact List.forall_mem_cons.mpr ⟨wly_X4_coming, List.forall_mem_cons.mpr ⟨wly_X4_miles, List.forall_mem_cons.mpr ⟨wly_X4_minute, List.forall_mem_cons.mpr ⟨wly_X4_pails, List.forall_mem_cons.mpr ⟨wly_X4_cart, List.forall_mem_cons.mpr ⟨wly_X4_draw, List.forall_mem_cons.mpr ⟨wly_X4_far, List.forall_mem_cons.mpr ⟨wly_X4_stood, List.forall_mem_cons.mpr ⟨wly_X4_halved, List.forall_mem_cons.mpr ⟨wly_X4_pad, List.forall_mem_cons.mpr ⟨wly_X4_padMany, List.forall_mem_cons.mpr ⟨wly_X4_from, List.forall_mem_cons.mpr ⟨wly_X4_at, List.forall_mem_cons.mpr ⟨wly_X4_waited, List.forall_mem_cons.mpr ⟨wly_X4_ended, List.forall_mem_cons.mpr ⟨wly_X4_took, List.forall_mem_cons.mpr ⟨wly_X4_order, List.forall_mem_cons.mpr ⟨wly_X4_many, List.forall_mem_cons.mpr ⟨wly_X4_byFar, List.forall_mem_cons.mpr ⟨wly_X4_byStood, List.forall_mem_cons.mpr ⟨wly_X4_kept, List.forall_mem_cons.mpr ⟨wly_X4_isKept, List.forall_mem_cons.mpr ⟨wly_X4_keptAt, List.forall_mem_cons.mpr ⟨wly_X4_isWriting, fun _ h => absurd h List.not_mem_nil⟩⟩⟩⟩⟩⟩⟩⟩⟩⟩⟩⟩⟩⟩⟩⟩⟩⟩⟩⟩⟩⟩⟩⟩

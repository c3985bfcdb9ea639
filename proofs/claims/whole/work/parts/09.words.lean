theorem tbl_good : lw_tbl.all goodWord = true := by decide +kernel
theorem gIn {y : MethodName} {cb : ByteArray} {n : Nat} {ret : Option FieldType} (h : Cond.code y cb n ret ∈ lw_tbl) : GoodIn lw_tbl (Cond.code y cb n ret :: lw_tbl) := fun w hw => by
  have hm : w ∈ lw_tbl := by
    rcases List.mem_cons.mp hw with h1 | h1
    · rw [h1]; exact h
    · exact h1
  exact ⟨hm, good_of_word (List.all_eq_true.mp tbl_good w hm)⟩
/-- what a call of an instance method by a link stands on -/
def xLinkV (own : String) (idx : Nat) (y : MethodName) (cb : ByteArray) (n : Nat) (ret : Option FieldType) (k : Nat) : Prop := Cond.methodLink own idx y ∈ lw_tbl ∧ Cond.instanceMethod y ∈ lw_tbl ∧ Cond.selects y.cls y y ∈ lw_tbl ∧ Cond.initialized y.cls ∈ lw_tbl ∧ Cond.code y cb n ret ∈ lw_tbl ∧ (y.cls ≠ "java/lang/invoke/MethodHandle" ∧ y.cls ≠ "java/lang/invoke/VarHandle" ∧ (parseMethodDescriptor y.desc).map (fun d => d.parameters.length) = some k)
/-- and of a static one -/
def xLinkS (own : String) (idx : Nat) (y : MethodName) (cb : ByteArray) (n : Nat) (ret : Option FieldType) (k : Nat) : Prop := Cond.methodLink own idx y ∈ lw_tbl ∧ Cond.static y ∈ lw_tbl ∧ Cond.initialized y.cls ∈ lw_tbl ∧ Cond.code y cb n ret ∈ lw_tbl ∧ (y.cls ≠ "java/lang/invoke/MethodHandle" ∧ y.cls ≠ "java/lang/invoke/VarHandle" ∧ (parseMethodDescriptor y.desc).map (fun d => d.parameters.length) = some k)
theorem ws_X4_goForward : Cond.selects RX4 yX4_goForward yX4_goForward ∈ lw_tbl := List.mem_of_getElem? (i := 0) (by decide +kernel)
theorem ws_X0_putAll : Cond.selects RX0 yX0_putAll yX0_putAll ∈ lw_tbl := List.mem_of_getElem? (i := 1) (by decide +kernel)
theorem ws_X3_thirdsAt : Cond.selects RX3 yX3_thirdsAt yX3_thirdsAt ∈ lw_tbl := List.mem_of_getElem? (i := 2) (by decide +kernel)
theorem ws_X3_bitOf : Cond.selects RX3 yX3_bitOf yX3_bitOf ∈ lw_tbl := List.mem_of_getElem? (i := 3) (by decide +kernel)
theorem ws_X3_hangingWith : Cond.selects RX3 yX3_hangingWith yX3_hangingWith ∈ lw_tbl := List.mem_of_getElem? (i := 4) (by decide +kernel)
theorem ws_X3_widened : Cond.selects RX3 yX3_widened yX3_widened ∈ lw_tbl := List.mem_of_getElem? (i := 5) (by decide +kernel)
theorem ws_X4_sumOrNone : Cond.selects RX4 yX4_sumOrNone yX4_sumOrNone ∈ lw_tbl := List.mem_of_getElem? (i := 6) (by decide +kernel)
theorem ws_X2_begin : Cond.selects RX2 yX2_begin yX2_begin ∈ lw_tbl := List.mem_of_getElem? (i := 7) (by decide +kernel)
theorem ws_X2_weigh : Cond.selects RX2 yX2_weigh yX2_weigh ∈ lw_tbl := List.mem_of_getElem? (i := 8) (by decide +kernel)
theorem ws_X2_level : Cond.selects RX2 yX2_level yX2_level ∈ lw_tbl := List.mem_of_getElem? (i := 9) (by decide +kernel)
theorem ws_X2_push : Cond.selects RX2 yX2_push yX2_push ∈ lw_tbl := List.mem_of_getElem? (i := 10) (by decide +kernel)
theorem ws_X2_reaches : Cond.selects RX2 yX2_reaches yX2_reaches ∈ lw_tbl := List.mem_of_getElem? (i := 11) (by decide +kernel)
theorem ws_X2_seeFromThird : Cond.selects RX2 yX2_seeFromThird yX2_seeFromThird ∈ lw_tbl := List.mem_of_getElem? (i := 12) (by decide +kernel)
theorem ws_X2_seeFromPost : Cond.selects RX2 yX2_seeFromPost yX2_seeFromPost ∈ lw_tbl := List.mem_of_getElem? (i := 13) (by decide +kernel)
theorem ws_X2_nodeBefore : Cond.selects RX2 yX2_nodeBefore yX2_nodeBefore ∈ lw_tbl := List.mem_of_getElem? (i := 14) (by decide +kernel)
theorem ws_X2_sink : Cond.selects RX2 yX2_sink yX2_sink ∈ lw_tbl := List.mem_of_getElem? (i := 15) (by decide +kernel)
theorem ws_X1_lookAtPosts : Cond.selects RX1 yX1_lookAtPosts yX1_lookAtPosts ∈ lw_tbl := List.mem_of_getElem? (i := 16) (by decide +kernel)
theorem ws_X1_lookAtThirds : Cond.selects RX1 yX1_lookAtThirds yX1_lookAtThirds ∈ lw_tbl := List.mem_of_getElem? (i := 17) (by decide +kernel)
theorem ws_X1_thirdsAtToldPosts : Cond.selects RX1 yX1_thirdsAtToldPosts yX1_thirdsAtToldPosts ∈ lw_tbl := List.mem_of_getElem? (i := 18) (by decide +kernel)
theorem ws_X1_isBar : Cond.selects RX1 yX1_isBar yX1_isBar ∈ lw_tbl := List.mem_of_getElem? (i := 19) (by decide +kernel)
theorem ws_X1_roomFor : Cond.selects RX1 yX1_roomFor yX1_roomFor ∈ lw_tbl := List.mem_of_getElem? (i := 20) (by decide +kernel)
theorem ws_X1_mostOf : Cond.selects RX1 yX1_mostOf yX1_mostOf ∈ lw_tbl := List.mem_of_getElem? (i := 21) (by decide +kernel)
theorem ws_X1_leastOf : Cond.selects RX1 yX1_leastOf yX1_leastOf ∈ lw_tbl := List.mem_of_getElem? (i := 22) (by decide +kernel)
theorem ws_X4_givenOpposite : Cond.selects RX4 yX4_givenOpposite yX4_givenOpposite ∈ lw_tbl := List.mem_of_getElem? (i := 23) (by decide +kernel)
theorem ws_X5_begin : Cond.selects RX5 yX5_begin yX5_begin ∈ lw_tbl := List.mem_of_getElem? (i := 24) (by decide +kernel)
theorem ws_X5_arePair : Cond.selects RX5 yX5_arePair yX5_arePair ∈ lw_tbl := List.mem_of_getElem? (i := 25) (by decide +kernel)
theorem ws_X5_isPost : Cond.selects RX5 yX5_isPost yX5_isPost ∈ lw_tbl := List.mem_of_getElem? (i := 26) (by decide +kernel)
theorem ws_X5_arrowOf : Cond.selects RX5 yX5_arrowOf yX5_arrowOf ∈ lw_tbl := List.mem_of_getElem? (i := 27) (by decide +kernel)
theorem ws_X5_put : Cond.selects RX5 yX5_put yX5_put ∈ lw_tbl := List.mem_of_getElem? (i := 28) (by decide +kernel)
theorem ws_X5_write : Cond.selects RX5 yX5_write yX5_write ∈ lw_tbl := List.mem_of_getElem? (i := 29) (by decide +kernel)
theorem ws_X5_keepThirds : Cond.selects RX5 yX5_keepThirds yX5_keepThirds ∈ lw_tbl := List.mem_of_getElem? (i := 30) (by decide +kernel)
theorem ws_X5_sideOf : Cond.selects RX5 yX5_sideOf yX5_sideOf ∈ lw_tbl := List.mem_of_getElem? (i := 31) (by decide +kernel)
theorem ws_X5_oppositeCorner : Cond.selects RX5 yX5_oppositeCorner yX5_oppositeCorner ∈ lw_tbl := List.mem_of_getElem? (i := 32) (by decide +kernel)
theorem ws_X5_takeThirds : Cond.selects RX5 yX5_takeThirds yX5_takeThirds ∈ lw_tbl := List.mem_of_getElem? (i := 33) (by decide +kernel)
theorem ws_X5_cornersAt : Cond.selects RX5 yX5_cornersAt yX5_cornersAt ∈ lw_tbl := List.mem_of_getElem? (i := 34) (by decide +kernel)
theorem ws_X5_sidesAt : Cond.selects RX5 yX5_sidesAt yX5_sidesAt ∈ lw_tbl := List.mem_of_getElem? (i := 35) (by decide +kernel)
theorem ws_X5_pieces : Cond.selects RX5 yX5_pieces yX5_pieces ∈ lw_tbl := List.mem_of_getElem? (i := 36) (by decide +kernel)
theorem ws_X5_hasPost : Cond.selects RX5 yX5_hasPost yX5_hasPost ∈ lw_tbl := List.mem_of_getElem? (i := 37) (by decide +kernel)
theorem ws_X5_hang : Cond.selects RX5 yX5_hang yX5_hang ∈ lw_tbl := List.mem_of_getElem? (i := 38) (by decide +kernel)
theorem ws_X5_sumOfRow : Cond.selects RX5 yX5_sumOfRow yX5_sumOfRow ∈ lw_tbl := List.mem_of_getElem? (i := 39) (by decide +kernel)
theorem ws_X5_hasRow : Cond.selects RX5 yX5_hasRow yX5_hasRow ∈ lw_tbl := List.mem_of_getElem? (i := 40) (by decide +kernel)
theorem ws_X5_canWith : Cond.selects RX5 yX5_canWith yX5_canWith ∈ lw_tbl := List.mem_of_getElem? (i := 41) (by decide +kernel)
theorem ws_X5_fill : Cond.selects RX5 yX5_fill yX5_fill ∈ lw_tbl := List.mem_of_getElem? (i := 42) (by decide +kernel)
theorem ws_X5_clearWays : Cond.selects RX5 yX5_clearWays yX5_clearWays ∈ lw_tbl := List.mem_of_getElem? (i := 43) (by decide +kernel)
theorem ws_X5_come : Cond.selects RX5 yX5_come yX5_come ∈ lw_tbl := List.mem_of_getElem? (i := 44) (by decide +kernel)
theorem ws_X5_spread : Cond.selects RX5 yX5_spread yX5_spread ∈ lw_tbl := List.mem_of_getElem? (i := 45) (by decide +kernel)
theorem ws_X5_wanting : Cond.selects RX5 yX5_wanting yX5_wanting ∈ lw_tbl := List.mem_of_getElem? (i := 46) (by decide +kernel)
theorem ws_X5_wayRoom : Cond.selects RX5 yX5_wayRoom yX5_wayRoom ∈ lw_tbl := List.mem_of_getElem? (i := 47) (by decide +kernel)
theorem ws_X5_goWay : Cond.selects RX5 yX5_goWay yX5_goWay ∈ lw_tbl := List.mem_of_getElem? (i := 48) (by decide +kernel)
theorem ws_X5_lower : Cond.selects RX5 yX5_lower yX5_lower ∈ lw_tbl := List.mem_of_getElem? (i := 49) (by decide +kernel)
theorem ws_X5_sides : Cond.selects RX5 yX5_sides yX5_sides ∈ lw_tbl := List.mem_of_getElem? (i := 50) (by decide +kernel)
theorem ws_X5_thirdsBar : Cond.selects RX5 yX5_thirdsBar yX5_thirdsBar ∈ lw_tbl := List.mem_of_getElem? (i := 51) (by decide +kernel)
theorem ws_X5_postsBar : Cond.selects RX5 yX5_postsBar yX5_postsBar ∈ lw_tbl := List.mem_of_getElem? (i := 52) (by decide +kernel)
theorem ws_X5_oppositeOf : Cond.selects RX5 yX5_oppositeOf yX5_oppositeOf ∈ lw_tbl := List.mem_of_getElem? (i := 53) (by decide +kernel)
theorem wi_L : Cond.initialized RL ∈ lw_tbl := List.mem_of_getElem? (i := 54) (by decide +kernel)
theorem wi_X4 : Cond.initialized RX4 ∈ lw_tbl := List.mem_of_getElem? (i := 55) (by decide +kernel)
theorem wi_X3 : Cond.initialized RX3 ∈ lw_tbl := List.mem_of_getElem? (i := 56) (by decide +kernel)
theorem wi_J7 : Cond.initialized RJ7 ∈ lw_tbl := List.mem_of_getElem? (i := 57) (by decide +kernel)
theorem wi_X0 : Cond.initialized RX0 ∈ lw_tbl := List.mem_of_getElem? (i := 58) (by decide +kernel)
theorem wi_X2 : Cond.initialized RX2 ∈ lw_tbl := List.mem_of_getElem? (i := 59) (by decide +kernel)
theorem wi_X1 : Cond.initialized RX1 ∈ lw_tbl := List.mem_of_getElem? (i := 60) (by decide +kernel)
theorem wi_X5 : Cond.initialized RX5 ∈ lw_tbl := List.mem_of_getElem? (i := 61) (by decide +kernel)
theorem wi_J10 : Cond.initialized RJ10 ∈ lw_tbl := List.mem_of_getElem? (i := 62) (by decide +kernel)
theorem wi_J9 : Cond.initialized RJ9 ∈ lw_tbl := List.mem_of_getElem? (i := 63) (by decide +kernel)
theorem wi_J6 : Cond.initialized RJ6 ∈ lw_tbl := List.mem_of_getElem? (i := 64) (by decide +kernel)
theorem wq_L_7 : Cond.classLink RL 7 RX4 ∈ lw_tbl := List.mem_of_getElem? (i := 65) (by decide +kernel)
theorem wx_X4 : Cond.instantiable RX4 6 ∈ lw_tbl := List.mem_of_getElem? (i := 66) (by decide +kernel)
theorem wl_L_9 : Cond.methodLink RL 9 yX4_init ∈ lw_tbl := List.mem_of_getElem? (i := 67) (by decide +kernel)
theorem wm_X4_init : Cond.instanceMethod yX4_init ∈ lw_tbl := List.mem_of_getElem? (i := 68) (by decide +kernel)
theorem wc_X4_init : Cond.code yX4_init cX4_init 1 none ∈ lw_tbl := List.mem_of_getElem? (i := 69) (by decide +kernel)
theorem wl_X4_3 : Cond.methodLink RX4 3 objectInit ∈ lw_tbl := List.mem_of_getElem? (i := 70) (by decide +kernel)
theorem wm_objinit : Cond.instanceMethod objectInit ∈ lw_tbl := List.mem_of_getElem? (i := 71) (by decide +kernel)
theorem wc_objinit : Cond.code objectInit ⟨#[0xb1]⟩ 1 none ∈ lw_tbl := List.mem_of_getElem? (i := 72) (by decide +kernel)
theorem wq_X4_9 : Cond.classLink RX4 9 RX3 ∈ lw_tbl := List.mem_of_getElem? (i := 73) (by decide +kernel)
theorem wx_X3 : Cond.instantiable RX3 5 ∈ lw_tbl := List.mem_of_getElem? (i := 74) (by decide +kernel)
theorem wl_X4_11 : Cond.methodLink RX4 11 yX3_init ∈ lw_tbl := List.mem_of_getElem? (i := 75) (by decide +kernel)
theorem wm_X3_init : Cond.instanceMethod yX3_init ∈ lw_tbl := List.mem_of_getElem? (i := 76) (by decide +kernel)
theorem wc_X3_init : Cond.code yX3_init cX3_init 1 none ∈ lw_tbl := List.mem_of_getElem? (i := 77) (by decide +kernel)
theorem wl_X3_5 : Cond.methodLink RX3 5 objectInit ∈ lw_tbl := List.mem_of_getElem? (i := 78) (by decide +kernel)
theorem wl_X3_28 : Cond.methodLink RX3 28 yJ7_fill_53178 ∈ lw_tbl := List.mem_of_getElem? (i := 79) (by decide +kernel)
theorem wt_J7_fill_53178 : Cond.static yJ7_fill_53178 ∈ lw_tbl := List.mem_of_getElem? (i := 80) (by decide +kernel)
theorem wc_J7_fill_53178 : Cond.code yJ7_fill_53178 cJ7_fill_53178 4 none ∈ lw_tbl := List.mem_of_getElem? (i := 81) (by decide +kernel)
theorem wf_X3_11 : Cond.fieldLink RX3 11 "AngleNet$Net" "corners" "[I" ∈ lw_tbl := List.mem_of_getElem? (i := 82) (by decide +kernel)
theorem wf_X3_15 : Cond.fieldLink RX3 15 "AngleNet$Net" "sums" "[I" ∈ lw_tbl := List.mem_of_getElem? (i := 83) (by decide +kernel)
theorem wf_X3_18 : Cond.fieldLink RX3 18 "AngleNet$Net" "arrows" "[I" ∈ lw_tbl := List.mem_of_getElem? (i := 84) (by decide +kernel)
theorem wf_X3_21 : Cond.fieldLink RX3 21 "AngleNet$Net" "posts" "I" ∈ lw_tbl := List.mem_of_getElem? (i := 85) (by decide +kernel)
theorem wf_X3_25 : Cond.fieldLink RX3 25 "AngleNet$Net" "thirds" "I" ∈ lw_tbl := List.mem_of_getElem? (i := 86) (by decide +kernel)
theorem wa_int : Cond.arrayClass .int ∈ lw_tbl := List.mem_of_getElem? (i := 98) (by decide +kernel)
theorem wq_X4_16 : Cond.classLink RX4 16 RX0 ∈ lw_tbl := List.mem_of_getElem? (i := 99) (by decide +kernel)
theorem wx_X0 : Cond.instantiable RX0 5 ∈ lw_tbl := List.mem_of_getElem? (i := 100) (by decide +kernel)
theorem wl_X4_18 : Cond.methodLink RX4 18 yX0_init ∈ lw_tbl := List.mem_of_getElem? (i := 101) (by decide +kernel)
theorem wm_X0_init : Cond.instanceMethod yX0_init ∈ lw_tbl := List.mem_of_getElem? (i := 102) (by decide +kernel)
theorem wc_X0_init : Cond.code yX0_init cX0_init 1 none ∈ lw_tbl := List.mem_of_getElem? (i := 103) (by decide +kernel)
theorem wl_X0_3 : Cond.methodLink RX0 3 objectInit ∈ lw_tbl := List.mem_of_getElem? (i := 104) (by decide +kernel)
theorem wf_X0_11 : Cond.fieldLink RX0 11 "AngleNet$Acts" "cells" "[I" ∈ lw_tbl := List.mem_of_getElem? (i := 105) (by decide +kernel)
theorem wf_X0_15 : Cond.fieldLink RX0 15 "AngleNet$Acts" "before" "[I" ∈ lw_tbl := List.mem_of_getElem? (i := 106) (by decide +kernel)
theorem wf_X0_18 : Cond.fieldLink RX0 18 "AngleNet$Acts" "after" "[I" ∈ lw_tbl := List.mem_of_getElem? (i := 107) (by decide +kernel)
theorem wf_X0_21 : Cond.fieldLink RX0 21 "AngleNet$Acts" "behind" "I" ∈ lw_tbl := List.mem_of_getElem? (i := 108) (by decide +kernel)
theorem wf_X0_25 : Cond.fieldLink RX0 25 "AngleNet$Acts" "ahead" "I" ∈ lw_tbl := List.mem_of_getElem? (i := 109) (by decide +kernel)
theorem wq_X4_23 : Cond.classLink RX4 23 RX2 ∈ lw_tbl := List.mem_of_getElem? (i := 121) (by decide +kernel)
theorem wx_X2 : Cond.instantiable RX2 11 ∈ lw_tbl := List.mem_of_getElem? (i := 122) (by decide +kernel)
theorem wl_X4_25 : Cond.methodLink RX4 25 yX2_init ∈ lw_tbl := List.mem_of_getElem? (i := 123) (by decide +kernel)
theorem wm_X2_init : Cond.instanceMethod yX2_init ∈ lw_tbl := List.mem_of_getElem? (i := 124) (by decide +kernel)
theorem wc_X2_init : Cond.code yX2_init cX2_init 2 none ∈ lw_tbl := List.mem_of_getElem? (i := 125) (by decide +kernel)
theorem wl_X2_5 : Cond.methodLink RX2 5 objectInit ∈ lw_tbl := List.mem_of_getElem? (i := 126) (by decide +kernel)
theorem wf_X2_11 : Cond.fieldLink RX2 11 "AngleNet$Giver" "net" "LAngleNet$Net;" ∈ lw_tbl := List.mem_of_getElem? (i := 127) (by decide +kernel)
theorem wf_X2_15 : Cond.fieldLink RX2 15 "AngleNet$Giver" "row" "[I" ∈ lw_tbl := List.mem_of_getElem? (i := 128) (by decide +kernel)
theorem wf_X2_19 : Cond.fieldLink RX2 19 "AngleNet$Giver" "places" "[I" ∈ lw_tbl := List.mem_of_getElem? (i := 129) (by decide +kernel)
theorem wf_X2_22 : Cond.fieldLink RX2 22 "AngleNet$Giver" "over" "[I" ∈ lw_tbl := List.mem_of_getElem? (i := 130) (by decide +kernel)
theorem wf_X2_25 : Cond.fieldLink RX2 25 "AngleNet$Giver" "via" "[I" ∈ lw_tbl := List.mem_of_getElem? (i := 131) (by decide +kernel)
theorem wf_X2_28 : Cond.fieldLink RX2 28 "AngleNet$Giver" "queue" "[I" ∈ lw_tbl := List.mem_of_getElem? (i := 132) (by decide +kernel)
theorem wf_X2_35 : Cond.fieldLink RX2 35 "AngleNet$Giver" "corners" "I" ∈ lw_tbl := List.mem_of_getElem? (i := 133) (by decide +kernel)
theorem wf_X2_70 : Cond.fieldLink RX2 70 "AngleNet$Giver" "lowest" "I" ∈ lw_tbl := List.mem_of_getElem? (i := 134) (by decide +kernel)
theorem wf_X2_73 : Cond.fieldLink RX2 73 "AngleNet$Giver" "firstOpen" "I" ∈ lw_tbl := List.mem_of_getElem? (i := 135) (by decide +kernel)
theorem wf_X2_31 : Cond.fieldLink RX2 31 "AngleNet$Giver" "rowIsFresh" "Z" ∈ lw_tbl := List.mem_of_getElem? (i := 136) (by decide +kernel)
theorem wf_X2_49 : Cond.fieldLink RX2 49 "AngleNet$Giver" "rowIsThere" "Z" ∈ lw_tbl := List.mem_of_getElem? (i := 137) (by decide +kernel)
theorem wq_X4_32 : Cond.classLink RX4 32 RX1 ∈ lw_tbl := List.mem_of_getElem? (i := 161) (by decide +kernel)
theorem wx_X1 : Cond.instantiable RX1 7 ∈ lw_tbl := List.mem_of_getElem? (i := 162) (by decide +kernel)
theorem wl_X4_34 : Cond.methodLink RX4 34 yX1_init ∈ lw_tbl := List.mem_of_getElem? (i := 163) (by decide +kernel)
theorem wm_X1_init : Cond.instanceMethod yX1_init ∈ lw_tbl := List.mem_of_getElem? (i := 164) (by decide +kernel)
theorem wc_X1_init : Cond.code yX1_init cX1_init 2 none ∈ lw_tbl := List.mem_of_getElem? (i := 165) (by decide +kernel)
theorem wl_X1_5 : Cond.methodLink RX1 5 objectInit ∈ lw_tbl := List.mem_of_getElem? (i := 166) (by decide +kernel)
theorem wf_X1_11 : Cond.fieldLink RX1 11 "AngleNet$Bars" "net" "LAngleNet$Net;" ∈ lw_tbl := List.mem_of_getElem? (i := 167) (by decide +kernel)
theorem wf_X1_15 : Cond.fieldLink RX1 15 "AngleNet$Bars" "postsOf" "[I" ∈ lw_tbl := List.mem_of_getElem? (i := 168) (by decide +kernel)
theorem wf_X1_19 : Cond.fieldLink RX1 19 "AngleNet$Bars" "postsOfSets" "[I" ∈ lw_tbl := List.mem_of_getElem? (i := 169) (by decide +kernel)
theorem wf_X1_22 : Cond.fieldLink RX1 22 "AngleNet$Bars" "totals" "[I" ∈ lw_tbl := List.mem_of_getElem? (i := 170) (by decide +kernel)
theorem wf_X1_43 : Cond.fieldLink RX1 43 "AngleNet$Bars" "toldPosts" "I" ∈ lw_tbl := List.mem_of_getElem? (i := 171) (by decide +kernel)
theorem wf_X1_25 : Cond.fieldLink RX1 25 "AngleNet$Bars" "straight" "I" ∈ lw_tbl := List.mem_of_getElem? (i := 172) (by decide +kernel)
theorem wf_X1_29 : Cond.fieldLink RX1 29 "AngleNet$Bars" "least" "I" ∈ lw_tbl := List.mem_of_getElem? (i := 173) (by decide +kernel)
theorem wf_X4_12 : Cond.fieldLink RX4 12 "AngleNet" "net" "LAngleNet$Net;" ∈ lw_tbl := List.mem_of_getElem? (i := 189) (by decide +kernel)
theorem wf_X4_19 : Cond.fieldLink RX4 19 "AngleNet" "acts" "LAngleNet$Acts;" ∈ lw_tbl := List.mem_of_getElem? (i := 190) (by decide +kernel)
theorem wf_X4_28 : Cond.fieldLink RX4 28 "AngleNet" "giver" "LAngleNet$Giver;" ∈ lw_tbl := List.mem_of_getElem? (i := 191) (by decide +kernel)
theorem wf_X4_35 : Cond.fieldLink RX4 35 "AngleNet" "bars" "LAngleNet$Bars;" ∈ lw_tbl := List.mem_of_getElem? (i := 192) (by decide +kernel)
theorem wf_X4_39 : Cond.fieldLink RX4 39 "AngleNet" "straightIs" "I" ∈ lw_tbl := List.mem_of_getElem? (i := 193) (by decide +kernel)
theorem wf_X4_43 : Cond.fieldLink RX4 43 "AngleNet" "leastIs" "I" ∈ lw_tbl := List.mem_of_getElem? (i := 194) (by decide +kernel)
theorem wl_L_13 : Cond.methodLink RL 13 yX4_posts ∈ lw_tbl := List.mem_of_getElem? (i := 208) (by decide +kernel)
theorem wm_X4_posts : Cond.instanceMethod yX4_posts ∈ lw_tbl := List.mem_of_getElem? (i := 209) (by decide +kernel)
theorem ws_X4_posts : Cond.selects RX4 yX4_posts yX4_posts ∈ lw_tbl := List.mem_of_getElem? (i := 210) (by decide +kernel)
theorem wc_X4_posts : Cond.code yX4_posts cX4_posts 3 (some .int) ∈ lw_tbl := List.mem_of_getElem? (i := 211) (by decide +kernel)
theorem wl_X4_46 : Cond.methodLink RX4 46 yX3_postCount ∈ lw_tbl := List.mem_of_getElem? (i := 212) (by decide +kernel)
theorem wm_X3_postCount : Cond.instanceMethod yX3_postCount ∈ lw_tbl := List.mem_of_getElem? (i := 213) (by decide +kernel)
theorem ws_X3_postCount : Cond.selects RX3 yX3_postCount yX3_postCount ∈ lw_tbl := List.mem_of_getElem? (i := 214) (by decide +kernel)
theorem wc_X3_postCount : Cond.code yX3_postCount cX3_postCount 1 (some .int) ∈ lw_tbl := List.mem_of_getElem? (i := 215) (by decide +kernel)
theorem wl_X4_50 : Cond.methodLink RX4 50 yX3_beginAnew ∈ lw_tbl := List.mem_of_getElem? (i := 216) (by decide +kernel)
theorem wm_X3_beginAnew : Cond.instanceMethod yX3_beginAnew ∈ lw_tbl := List.mem_of_getElem? (i := 217) (by decide +kernel)
theorem ws_X3_beginAnew : Cond.selects RX3 yX3_beginAnew yX3_beginAnew ∈ lw_tbl := List.mem_of_getElem? (i := 218) (by decide +kernel)
theorem wc_X3_beginAnew : Cond.code yX3_beginAnew cX3_beginAnew 2 none ∈ lw_tbl := List.mem_of_getElem? (i := 219) (by decide +kernel)
theorem wl_X3_34 : Cond.methodLink RX3 34 yX3_drawArrows ∈ lw_tbl := List.mem_of_getElem? (i := 220) (by decide +kernel)
theorem wm_X3_drawArrows : Cond.instanceMethod yX3_drawArrows ∈ lw_tbl := List.mem_of_getElem? (i := 221) (by decide +kernel)
theorem ws_X3_drawArrows : Cond.selects RX3 yX3_drawArrows yX3_drawArrows ∈ lw_tbl := List.mem_of_getElem? (i := 222) (by decide +kernel)
theorem wc_X3_drawArrows : Cond.code yX3_drawArrows cX3_drawArrows 5 none ∈ lw_tbl := List.mem_of_getElem? (i := 223) (by decide +kernel)
theorem wl_X4_54 : Cond.methodLink RX4 54 yX0_forgetAll ∈ lw_tbl := List.mem_of_getElem? (i := 224) (by decide +kernel)
theorem wm_X0_forgetAll : Cond.instanceMethod yX0_forgetAll ∈ lw_tbl := List.mem_of_getElem? (i := 225) (by decide +kernel)
theorem ws_X0_forgetAll : Cond.selects RX0 yX0_forgetAll yX0_forgetAll ∈ lw_tbl := List.mem_of_getElem? (i := 226) (by decide +kernel)
theorem wc_X0_forgetAll : Cond.code yX0_forgetAll cX0_forgetAll 1 none ∈ lw_tbl := List.mem_of_getElem? (i := 227) (by decide +kernel)
theorem wl_X4_57 : Cond.methodLink RX4 57 yX2_forgetRow ∈ lw_tbl := List.mem_of_getElem? (i := 228) (by decide +kernel)
theorem wm_X2_forgetRow : Cond.instanceMethod yX2_forgetRow ∈ lw_tbl := List.mem_of_getElem? (i := 229) (by decide +kernel)
theorem ws_X2_forgetRow : Cond.selects RX2 yX2_forgetRow yX2_forgetRow ∈ lw_tbl := List.mem_of_getElem? (i := 230) (by decide +kernel)
theorem wc_X2_forgetRow : Cond.code yX2_forgetRow cX2_forgetRow 1 none ∈ lw_tbl := List.mem_of_getElem? (i := 231) (by decide +kernel)
theorem wl_L_18 : Cond.methodLink RL 18 yX4_third ∈ lw_tbl := List.mem_of_getElem? (i := 232) (by decide +kernel)
theorem wm_X4_third : Cond.instanceMethod yX4_third ∈ lw_tbl := List.mem_of_getElem? (i := 233) (by decide +kernel)
theorem ws_X4_third : Cond.selects RX4 yX4_third yX4_third ∈ lw_tbl := List.mem_of_getElem? (i := 234) (by decide +kernel)
theorem wc_X4_third : Cond.code yX4_third cX4_third 5 (some .int) ∈ lw_tbl := List.mem_of_getElem? (i := 235) (by decide +kernel)
theorem wl_X4_60 : Cond.methodLink RX4 60 yX3_areUnlike ∈ lw_tbl := List.mem_of_getElem? (i := 236) (by decide +kernel)
theorem wm_X3_areUnlike : Cond.instanceMethod yX3_areUnlike ∈ lw_tbl := List.mem_of_getElem? (i := 237) (by decide +kernel)
theorem ws_X3_areUnlike : Cond.selects RX3 yX3_areUnlike yX3_areUnlike ∈ lw_tbl := List.mem_of_getElem? (i := 238) (by decide +kernel)
theorem wc_X3_areUnlike : Cond.code yX3_areUnlike cX3_areUnlike 3 (some .boolean) ∈ lw_tbl := List.mem_of_getElem? (i := 239) (by decide +kernel)
theorem wl_X3_51 : Cond.methodLink RX3 51 yX3_hasPost ∈ lw_tbl := List.mem_of_getElem? (i := 240) (by decide +kernel)
theorem wm_X3_hasPost : Cond.instanceMethod yX3_hasPost ∈ lw_tbl := List.mem_of_getElem? (i := 241) (by decide +kernel)
theorem ws_X3_hasPost : Cond.selects RX3 yX3_hasPost yX3_hasPost ∈ lw_tbl := List.mem_of_getElem? (i := 242) (by decide +kernel)
theorem wc_X3_hasPost : Cond.code yX3_hasPost cX3_hasPost 2 (some .boolean) ∈ lw_tbl := List.mem_of_getElem? (i := 243) (by decide +kernel)
theorem wl_X4_64 : Cond.methodLink RX4 64 yX3_thirdCount ∈ lw_tbl := List.mem_of_getElem? (i := 244) (by decide +kernel)
theorem wm_X3_thirdCount : Cond.instanceMethod yX3_thirdCount ∈ lw_tbl := List.mem_of_getElem? (i := 245) (by decide +kernel)
theorem ws_X3_thirdCount : Cond.selects RX3 yX3_thirdCount yX3_thirdCount ∈ lw_tbl := List.mem_of_getElem? (i := 246) (by decide +kernel)
theorem wc_X3_thirdCount : Cond.code yX3_thirdCount cX3_thirdCount 1 (some .int) ∈ lw_tbl := List.mem_of_getElem? (i := 247) (by decide +kernel)
theorem wl_X4_67 : Cond.methodLink RX4 67 yX3_hasArrow ∈ lw_tbl := List.mem_of_getElem? (i := 248) (by decide +kernel)
theorem wm_X3_hasArrow : Cond.instanceMethod yX3_hasArrow ∈ lw_tbl := List.mem_of_getElem? (i := 249) (by decide +kernel)
theorem ws_X3_hasArrow : Cond.selects RX3 yX3_hasArrow yX3_hasArrow ∈ lw_tbl := List.mem_of_getElem? (i := 250) (by decide +kernel)
theorem wc_X3_hasArrow : Cond.code yX3_hasArrow cX3_hasArrow 3 (some .boolean) ∈ lw_tbl := List.mem_of_getElem? (i := 251) (by decide +kernel)
theorem wl_X3_55 : Cond.methodLink RX3 55 yX3_thirdWith ∈ lw_tbl := List.mem_of_getElem? (i := 252) (by decide +kernel)
theorem wm_X3_thirdWith : Cond.instanceMethod yX3_thirdWith ∈ lw_tbl := List.mem_of_getElem? (i := 253) (by decide +kernel)
theorem ws_X3_thirdWith : Cond.selects RX3 yX3_thirdWith yX3_thirdWith ∈ lw_tbl := List.mem_of_getElem? (i := 254) (by decide +kernel)
theorem wc_X3_thirdWith : Cond.code yX3_thirdWith cX3_thirdWith 3 (some .int) ∈ lw_tbl := List.mem_of_getElem? (i := 255) (by decide +kernel)
theorem wl_X4_70 : Cond.methodLink RX4 70 yX0_begin ∈ lw_tbl := List.mem_of_getElem? (i := 256) (by decide +kernel)
theorem wm_X0_begin : Cond.instanceMethod yX0_begin ∈ lw_tbl := List.mem_of_getElem? (i := 257) (by decide +kernel)
theorem ws_X0_begin : Cond.selects RX0 yX0_begin yX0_begin ∈ lw_tbl := List.mem_of_getElem? (i := 258) (by decide +kernel)
theorem wc_X0_begin : Cond.code yX0_begin cX0_begin 2 none ∈ lw_tbl := List.mem_of_getElem? (i := 259) (by decide +kernel)
theorem wl_X0_28 : Cond.methodLink RX0 28 yX0_dropOldest ∈ lw_tbl := List.mem_of_getElem? (i := 260) (by decide +kernel)
theorem wt_X0_dropOldest : Cond.static yX0_dropOldest ∈ lw_tbl := List.mem_of_getElem? (i := 261) (by decide +kernel)
theorem wc_X0_dropOldest : Cond.code yX0_dropOldest cX0_dropOldest 1 none ∈ lw_tbl := List.mem_of_getElem? (i := 262) (by decide +kernel)
theorem wl_X0_49 : Cond.methodLink RX0 49 arraycopyName ∈ lw_tbl := List.mem_of_getElem? (i := 263) (by decide +kernel)
theorem wt_J10_arraycopy : Cond.static arraycopyName ∈ lw_tbl := List.mem_of_getElem? (i := 264) (by decide +kernel)
theorem wn_arraycopy : Cond.native arraycopyName ∈ lw_tbl := List.mem_of_getElem? (i := 265) (by decide +kernel)
theorem wl_X0_32 : Cond.methodLink RX0 32 yX0_note ∈ lw_tbl := List.mem_of_getElem? (i := 266) (by decide +kernel)
theorem wm_X0_note : Cond.instanceMethod yX0_note ∈ lw_tbl := List.mem_of_getElem? (i := 267) (by decide +kernel)
theorem ws_X0_note : Cond.selects RX0 yX0_note yX0_note ∈ lw_tbl := List.mem_of_getElem? (i := 268) (by decide +kernel)
theorem wc_X0_note : Cond.code yX0_note cX0_note 6 none ∈ lw_tbl := List.mem_of_getElem? (i := 269) (by decide +kernel)
theorem wl_X4_73 : Cond.methodLink RX4 73 yX3_pack ∈ lw_tbl := List.mem_of_getElem? (i := 270) (by decide +kernel)
theorem wt_X3_pack : Cond.static yX3_pack ∈ lw_tbl := List.mem_of_getElem? (i := 271) (by decide +kernel)
theorem wc_X3_pack : Cond.code yX3_pack cX3_pack 3 (some .int) ∈ lw_tbl := List.mem_of_getElem? (i := 272) (by decide +kernel)
theorem wl_X4_77 : Cond.methodLink RX4 77 yX0_note ∈ lw_tbl := List.mem_of_getElem? (i := 273) (by decide +kernel)
theorem wl_X4_81 : Cond.methodLink RX4 81 yX4_goForward ∈ lw_tbl := List.mem_of_getElem? (i := 274) (by decide +kernel)
theorem wm_X4_goForward : Cond.instanceMethod yX4_goForward ∈ lw_tbl := List.mem_of_getElem? (i := 276) (by decide +kernel)
theorem wc_X4_goForward : Cond.code yX4_goForward cX4_goForward 1 none ∈ lw_tbl := List.mem_of_getElem? (i := 277) (by decide +kernel)
theorem wl_X4_173 : Cond.methodLink RX4 173 yX0_forward ∈ lw_tbl := List.mem_of_getElem? (i := 278) (by decide +kernel)
theorem wm_X0_forward : Cond.instanceMethod yX0_forward ∈ lw_tbl := List.mem_of_getElem? (i := 279) (by decide +kernel)
theorem ws_X0_forward : Cond.selects RX0 yX0_forward yX0_forward ∈ lw_tbl := List.mem_of_getElem? (i := 280) (by decide +kernel)
theorem wc_X0_forward : Cond.code yX0_forward cX0_forward 2 none ∈ lw_tbl := List.mem_of_getElem? (i := 281) (by decide +kernel)
theorem wl_X0_36 : Cond.methodLink RX0 36 yX0_putAll ∈ lw_tbl := List.mem_of_getElem? (i := 282) (by decide +kernel)
theorem wm_X0_putAll : Cond.instanceMethod yX0_putAll ∈ lw_tbl := List.mem_of_getElem? (i := 284) (by decide +kernel)
theorem wc_X0_putAll : Cond.code yX0_putAll cX0_putAll 5 none ∈ lw_tbl := List.mem_of_getElem? (i := 285) (by decide +kernel)
theorem wl_X0_40 : Cond.methodLink RX0 40 yX3_put ∈ lw_tbl := List.mem_of_getElem? (i := 286) (by decide +kernel)
theorem wm_X3_put : Cond.instanceMethod yX3_put ∈ lw_tbl := List.mem_of_getElem? (i := 287) (by decide +kernel)
theorem ws_X3_put : Cond.selects RX3 yX3_put yX3_put ∈ lw_tbl := List.mem_of_getElem? (i := 288) (by decide +kernel)
theorem wc_X3_put : Cond.code yX3_put cX3_put 3 none ∈ lw_tbl := List.mem_of_getElem? (i := 289) (by decide +kernel)
theorem wl_X3_41 : Cond.methodLink RX3 41 Lib.Math.max.name ∈ lw_tbl := List.mem_of_getElem? (i := 290) (by decide +kernel)
theorem wt_J9_max_7cf53 : Cond.static Lib.Math.max.name ∈ lw_tbl := List.mem_of_getElem? (i := 291) (by decide +kernel)
theorem wc_J9_max_7cf53 : Cond.code Lib.Math.max.name Lib.Math.max.code 2 (some .int) ∈ lw_tbl := List.mem_of_getElem? (i := 292) (by decide +kernel)
theorem wl_X0_46 : Cond.methodLink RX0 46 yX3_drawArrows ∈ lw_tbl := List.mem_of_getElem? (i := 293) (by decide +kernel)
theorem wl_L_23 : Cond.methodLink RL 23 yX4_at ∈ lw_tbl := List.mem_of_getElem? (i := 294) (by decide +kernel)
theorem wm_X4_at : Cond.instanceMethod yX4_at ∈ lw_tbl := List.mem_of_getElem? (i := 295) (by decide +kernel)
theorem ws_X4_at : Cond.selects RX4 yX4_at yX4_at ∈ lw_tbl := List.mem_of_getElem? (i := 296) (by decide +kernel)
theorem wc_X4_at : Cond.code yX4_at cX4_at 2 (some .int) ∈ lw_tbl := List.mem_of_getElem? (i := 297) (by decide +kernel)
theorem wl_X4_84 : Cond.methodLink RX4 84 yX3_hasCorner ∈ lw_tbl := List.mem_of_getElem? (i := 298) (by decide +kernel)
theorem wm_X3_hasCorner : Cond.instanceMethod yX3_hasCorner ∈ lw_tbl := List.mem_of_getElem? (i := 299) (by decide +kernel)
theorem ws_X3_hasCorner : Cond.selects RX3 yX3_hasCorner yX3_hasCorner ∈ lw_tbl := List.mem_of_getElem? (i := 300) (by decide +kernel)
theorem wc_X3_hasCorner : Cond.code yX3_hasCorner cX3_hasCorner 2 (some .boolean) ∈ lw_tbl := List.mem_of_getElem? (i := 301) (by decide +kernel)
theorem wl_X3_47 : Cond.methodLink RX3 47 yX3_cornerCount ∈ lw_tbl := List.mem_of_getElem? (i := 302) (by decide +kernel)
theorem wm_X3_cornerCount : Cond.instanceMethod yX3_cornerCount ∈ lw_tbl := List.mem_of_getElem? (i := 303) (by decide +kernel)
theorem ws_X3_cornerCount : Cond.selects RX3 yX3_cornerCount yX3_cornerCount ∈ lw_tbl := List.mem_of_getElem? (i := 304) (by decide +kernel)
theorem wc_X3_cornerCount : Cond.code yX3_cornerCount cX3_cornerCount 1 (some .int) ∈ lw_tbl := List.mem_of_getElem? (i := 305) (by decide +kernel)
theorem wl_X4_88 : Cond.methodLink RX4 88 yX3_postOf ∈ lw_tbl := List.mem_of_getElem? (i := 306) (by decide +kernel)
theorem wm_X3_postOf : Cond.instanceMethod yX3_postOf ∈ lw_tbl := List.mem_of_getElem? (i := 307) (by decide +kernel)
theorem ws_X3_postOf : Cond.selects RX3 yX3_postOf yX3_postOf ∈ lw_tbl := List.mem_of_getElem? (i := 308) (by decide +kernel)
theorem wc_X3_postOf : Cond.code yX3_postOf cX3_postOf 2 (some .int) ∈ lw_tbl := List.mem_of_getElem? (i := 309) (by decide +kernel)
theorem wl_L_27 : Cond.methodLink RL 27 yX4_side ∈ lw_tbl := List.mem_of_getElem? (i := 310) (by decide +kernel)
theorem wm_X4_side : Cond.instanceMethod yX4_side ∈ lw_tbl := List.mem_of_getElem? (i := 311) (by decide +kernel)
theorem ws_X4_side : Cond.selects RX4 yX4_side yX4_side ∈ lw_tbl := List.mem_of_getElem? (i := 312) (by decide +kernel)
theorem wc_X4_side : Cond.code yX4_side cX4_side 3 (some .int) ∈ lw_tbl := List.mem_of_getElem? (i := 313) (by decide +kernel)
theorem wl_X4_92 : Cond.methodLink RX4 92 yX3_thirdsAtSide ∈ lw_tbl := List.mem_of_getElem? (i := 314) (by decide +kernel)
theorem wm_X3_thirdsAtSide : Cond.instanceMethod yX3_thirdsAtSide ∈ lw_tbl := List.mem_of_getElem? (i := 315) (by decide +kernel)
theorem ws_X3_thirdsAtSide : Cond.selects RX3 yX3_thirdsAtSide yX3_thirdsAtSide ∈ lw_tbl := List.mem_of_getElem? (i := 316) (by decide +kernel)
theorem wc_X3_thirdsAtSide : Cond.code yX3_thirdsAtSide cX3_thirdsAtSide 3 (some .int) ∈ lw_tbl := List.mem_of_getElem? (i := 317) (by decide +kernel)
theorem wl_X3_58 : Cond.methodLink RX3 58 yX3_hasArrow ∈ lw_tbl := List.mem_of_getElem? (i := 318) (by decide +kernel)
theorem wl_L_32 : Cond.methodLink RL 32 yX4_arrow ∈ lw_tbl := List.mem_of_getElem? (i := 319) (by decide +kernel)
theorem wm_X4_arrow : Cond.instanceMethod yX4_arrow ∈ lw_tbl := List.mem_of_getElem? (i := 320) (by decide +kernel)
theorem ws_X4_arrow : Cond.selects RX4 yX4_arrow yX4_arrow ∈ lw_tbl := List.mem_of_getElem? (i := 321) (by decide +kernel)
theorem wc_X4_arrow : Cond.code yX4_arrow cX4_arrow 3 (some .int) ∈ lw_tbl := List.mem_of_getElem? (i := 322) (by decide +kernel)
theorem wl_X4_96 : Cond.methodLink RX4 96 yX3_thirdWith ∈ lw_tbl := List.mem_of_getElem? (i := 323) (by decide +kernel)
theorem wl_L_36 : Cond.methodLink RL 36 yX4_turn ∈ lw_tbl := List.mem_of_getElem? (i := 324) (by decide +kernel)
theorem wm_X4_turn : Cond.instanceMethod yX4_turn ∈ lw_tbl := List.mem_of_getElem? (i := 325) (by decide +kernel)
theorem ws_X4_turn : Cond.selects RX4 yX4_turn yX4_turn ∈ lw_tbl := List.mem_of_getElem? (i := 326) (by decide +kernel)
theorem wc_X4_turn : Cond.code yX4_turn cX4_turn 7 (some .int) ∈ lw_tbl := List.mem_of_getElem? (i := 327) (by decide +kernel)
theorem wl_X4_99 : Cond.methodLink RX4 99 yX3_isSide ∈ lw_tbl := List.mem_of_getElem? (i := 328) (by decide +kernel)
theorem wm_X3_isSide : Cond.instanceMethod yX3_isSide ∈ lw_tbl := List.mem_of_getElem? (i := 329) (by decide +kernel)
theorem ws_X3_isSide : Cond.selects RX3 yX3_isSide yX3_isSide ∈ lw_tbl := List.mem_of_getElem? (i := 330) (by decide +kernel)
theorem wc_X3_isSide : Cond.code yX3_isSide cX3_isSide 3 (some .boolean) ∈ lw_tbl := List.mem_of_getElem? (i := 331) (by decide +kernel)
theorem wl_X3_62 : Cond.methodLink RX3 62 yX3_areUnlike ∈ lw_tbl := List.mem_of_getElem? (i := 332) (by decide +kernel)
theorem wl_X3_65 : Cond.methodLink RX3 65 yX3_thirdsAtSide ∈ lw_tbl := List.mem_of_getElem? (i := 333) (by decide +kernel)
theorem wl_X4_102 : Cond.methodLink RX4 102 yX3_cornerOpposite ∈ lw_tbl := List.mem_of_getElem? (i := 334) (by decide +kernel)
theorem wm_X3_cornerOpposite : Cond.instanceMethod yX3_cornerOpposite ∈ lw_tbl := List.mem_of_getElem? (i := 335) (by decide +kernel)
theorem ws_X3_cornerOpposite : Cond.selects RX3 yX3_cornerOpposite yX3_cornerOpposite ∈ lw_tbl := List.mem_of_getElem? (i := 336) (by decide +kernel)
theorem wc_X3_cornerOpposite : Cond.code yX3_cornerOpposite cX3_cornerOpposite 6 (some .int) ∈ lw_tbl := List.mem_of_getElem? (i := 337) (by decide +kernel)
theorem wl_X4_105 : Cond.methodLink RX4 105 yX3_packed ∈ lw_tbl := List.mem_of_getElem? (i := 338) (by decide +kernel)
theorem wm_X3_packed : Cond.instanceMethod yX3_packed ∈ lw_tbl := List.mem_of_getElem? (i := 339) (by decide +kernel)
theorem ws_X3_packed : Cond.selects RX3 yX3_packed yX3_packed ∈ lw_tbl := List.mem_of_getElem? (i := 340) (by decide +kernel)
theorem wc_X3_packed : Cond.code yX3_packed cX3_packed 2 (some .int) ∈ lw_tbl := List.mem_of_getElem? (i := 341) (by decide +kernel)
theorem wl_X3_37 : Cond.methodLink RX3 37 yX3_pack ∈ lw_tbl := List.mem_of_getElem? (i := 342) (by decide +kernel)
theorem wl_L_40 : Cond.methodLink RL 40 yX4_about ∈ lw_tbl := List.mem_of_getElem? (i := 343) (by decide +kernel)
theorem wm_X4_about : Cond.instanceMethod yX4_about ∈ lw_tbl := List.mem_of_getElem? (i := 344) (by decide +kernel)
theorem ws_X4_about : Cond.selects RX4 yX4_about yX4_about ∈ lw_tbl := List.mem_of_getElem? (i := 345) (by decide +kernel)
theorem wc_X4_about : Cond.code yX4_about cX4_about 3 (some .int) ∈ lw_tbl := List.mem_of_getElem? (i := 346) (by decide +kernel)
theorem wl_X4_108 : Cond.methodLink RX4 108 yX3_hasPost ∈ lw_tbl := List.mem_of_getElem? (i := 347) (by decide +kernel)
theorem wl_X4_111 : Cond.methodLink RX4 111 yX3_cornersAt ∈ lw_tbl := List.mem_of_getElem? (i := 348) (by decide +kernel)
theorem wm_X3_cornersAt : Cond.instanceMethod yX3_cornersAt ∈ lw_tbl := List.mem_of_getElem? (i := 349) (by decide +kernel)
theorem ws_X3_cornersAt : Cond.selects RX3 yX3_cornersAt yX3_cornersAt ∈ lw_tbl := List.mem_of_getElem? (i := 350) (by decide +kernel)
theorem wc_X3_cornersAt : Cond.code yX3_cornersAt cX3_cornersAt 4 (some .int) ∈ lw_tbl := List.mem_of_getElem? (i := 351) (by decide +kernel)
theorem wl_X4_114 : Cond.methodLink RX4 114 yX3_sidesAt ∈ lw_tbl := List.mem_of_getElem? (i := 352) (by decide +kernel)
theorem wm_X3_sidesAt : Cond.instanceMethod yX3_sidesAt ∈ lw_tbl := List.mem_of_getElem? (i := 353) (by decide +kernel)
theorem ws_X3_sidesAt : Cond.selects RX3 yX3_sidesAt yX3_sidesAt ∈ lw_tbl := List.mem_of_getElem? (i := 354) (by decide +kernel)
theorem wc_X3_sidesAt : Cond.code yX3_sidesAt cX3_sidesAt 5 (some .int) ∈ lw_tbl := List.mem_of_getElem? (i := 355) (by decide +kernel)
theorem wl_X4_117 : Cond.methodLink RX4 117 yX3_isFreeOfRim ∈ lw_tbl := List.mem_of_getElem? (i := 356) (by decide +kernel)
theorem wm_X3_isFreeOfRim : Cond.instanceMethod yX3_isFreeOfRim ∈ lw_tbl := List.mem_of_getElem? (i := 357) (by decide +kernel)
theorem ws_X3_isFreeOfRim : Cond.selects RX3 yX3_isFreeOfRim yX3_isFreeOfRim ∈ lw_tbl := List.mem_of_getElem? (i := 358) (by decide +kernel)
theorem wc_X3_isFreeOfRim : Cond.code yX3_isFreeOfRim cX3_isFreeOfRim 2 (some .boolean) ∈ lw_tbl := List.mem_of_getElem? (i := 359) (by decide +kernel)
theorem wl_X3_71 : Cond.methodLink RX3 71 yX3_cornersAt ∈ lw_tbl := List.mem_of_getElem? (i := 360) (by decide +kernel)
theorem wl_X3_68 : Cond.methodLink RX3 68 yX3_sidesAt ∈ lw_tbl := List.mem_of_getElem? (i := 361) (by decide +kernel)
theorem wl_X4_120 : Cond.methodLink RX4 120 yX3_isRound ∈ lw_tbl := List.mem_of_getElem? (i := 362) (by decide +kernel)
theorem wm_X3_isRound : Cond.instanceMethod yX3_isRound ∈ lw_tbl := List.mem_of_getElem? (i := 363) (by decide +kernel)
theorem ws_X3_isRound : Cond.selects RX3 yX3_isRound yX3_isRound ∈ lw_tbl := List.mem_of_getElem? (i := 364) (by decide +kernel)
theorem wc_X3_isRound : Cond.code yX3_isRound cX3_isRound 3 (some .boolean) ∈ lw_tbl := List.mem_of_getElem? (i := 365) (by decide +kernel)
theorem wl_X3_75 : Cond.methodLink RX3 75 yX3_thirdsAt ∈ lw_tbl := List.mem_of_getElem? (i := 366) (by decide +kernel)
theorem wm_X3_thirdsAt : Cond.instanceMethod yX3_thirdsAt ∈ lw_tbl := List.mem_of_getElem? (i := 368) (by decide +kernel)
theorem wc_X3_thirdsAt : Cond.code yX3_thirdsAt cX3_thirdsAt 4 (some .int) ∈ lw_tbl := List.mem_of_getElem? (i := 369) (by decide +kernel)
theorem wl_X3_87 : Cond.methodLink RX3 87 yX3_bitOf ∈ lw_tbl := List.mem_of_getElem? (i := 370) (by decide +kernel)
theorem wm_X3_bitOf : Cond.instanceMethod yX3_bitOf ∈ lw_tbl := List.mem_of_getElem? (i := 372) (by decide +kernel)
theorem wc_X3_bitOf : Cond.code yX3_bitOf cX3_bitOf 3 (some .int) ∈ lw_tbl := List.mem_of_getElem? (i := 373) (by decide +kernel)
theorem wl_X3_78 : Cond.methodLink RX3 78 yX3_hangingWith ∈ lw_tbl := List.mem_of_getElem? (i := 374) (by decide +kernel)
theorem wm_X3_hangingWith : Cond.instanceMethod yX3_hangingWith ∈ lw_tbl := List.mem_of_getElem? (i := 376) (by decide +kernel)
theorem wc_X3_hangingWith : Cond.code yX3_hangingWith cX3_hangingWith 7 (some .int) ∈ lw_tbl := List.mem_of_getElem? (i := 377) (by decide +kernel)
theorem wl_X3_90 : Cond.methodLink RX3 90 yX3_widened ∈ lw_tbl := List.mem_of_getElem? (i := 378) (by decide +kernel)
theorem wm_X3_widened : Cond.instanceMethod yX3_widened ∈ lw_tbl := List.mem_of_getElem? (i := 380) (by decide +kernel)
theorem wc_X3_widened : Cond.code yX3_widened cX3_widened 6 (some .int) ∈ lw_tbl := List.mem_of_getElem? (i := 381) (by decide +kernel)
theorem wl_X4_123 : Cond.methodLink RX4 123 yX4_sumOrNone ∈ lw_tbl := List.mem_of_getElem? (i := 382) (by decide +kernel)
theorem wm_X4_sumOrNone : Cond.instanceMethod yX4_sumOrNone ∈ lw_tbl := List.mem_of_getElem? (i := 384) (by decide +kernel)
theorem wc_X4_sumOrNone : Cond.code yX4_sumOrNone cX4_sumOrNone 3 (some .int) ∈ lw_tbl := List.mem_of_getElem? (i := 385) (by decide +kernel)
theorem wl_X4_144 : Cond.methodLink RX4 144 yX3_sumOf ∈ lw_tbl := List.mem_of_getElem? (i := 386) (by decide +kernel)
theorem wm_X3_sumOf : Cond.instanceMethod yX3_sumOf ∈ lw_tbl := List.mem_of_getElem? (i := 387) (by decide +kernel)
theorem ws_X3_sumOf : Cond.selects RX3 yX3_sumOf yX3_sumOf ∈ lw_tbl := List.mem_of_getElem? (i := 388) (by decide +kernel)
theorem wc_X3_sumOf : Cond.code yX3_sumOf cX3_sumOf 2 (some .int) ∈ lw_tbl := List.mem_of_getElem? (i := 389) (by decide +kernel)
theorem wl_X4_126 : Cond.methodLink RX4 126 yX2_findRow ∈ lw_tbl := List.mem_of_getElem? (i := 390) (by decide +kernel)
theorem wm_X2_findRow : Cond.instanceMethod yX2_findRow ∈ lw_tbl := List.mem_of_getElem? (i := 391) (by decide +kernel)
theorem ws_X2_findRow : Cond.selects RX2 yX2_findRow yX2_findRow ∈ lw_tbl := List.mem_of_getElem? (i := 392) (by decide +kernel)
theorem wc_X2_findRow : Cond.code yX2_findRow cX2_findRow 4 (some .boolean) ∈ lw_tbl := List.mem_of_getElem? (i := 393) (by decide +kernel)
theorem wl_X2_45 : Cond.methodLink RX2 45 yX2_findAny ∈ lw_tbl := List.mem_of_getElem? (i := 394) (by decide +kernel)
theorem wm_X2_findAny : Cond.instanceMethod yX2_findAny ∈ lw_tbl := List.mem_of_getElem? (i := 395) (by decide +kernel)
theorem ws_X2_findAny : Cond.selects RX2 yX2_findAny yX2_findAny ∈ lw_tbl := List.mem_of_getElem? (i := 396) (by decide +kernel)
theorem wc_X2_findAny : Cond.code yX2_findAny cX2_findAny 5 (some .boolean) ∈ lw_tbl := List.mem_of_getElem? (i := 397) (by decide +kernel)
theorem wl_X2_56 : Cond.methodLink RX2 56 yX2_begin ∈ lw_tbl := List.mem_of_getElem? (i := 398) (by decide +kernel)
theorem wm_X2_begin : Cond.instanceMethod yX2_begin ∈ lw_tbl := List.mem_of_getElem? (i := 400) (by decide +kernel)
theorem wc_X2_begin : Cond.code yX2_begin cX2_begin 5 none ∈ lw_tbl := List.mem_of_getElem? (i := 401) (by decide +kernel)
theorem wl_X2_66 : Cond.methodLink RX2 66 yX3_cornerCount ∈ lw_tbl := List.mem_of_getElem? (i := 402) (by decide +kernel)
theorem wl_X2_39 : Cond.methodLink RX2 39 yX3_postOf ∈ lw_tbl := List.mem_of_getElem? (i := 403) (by decide +kernel)
theorem wl_X2_76 : Cond.methodLink RX2 76 yX3_isTold ∈ lw_tbl := List.mem_of_getElem? (i := 404) (by decide +kernel)
theorem wm_X3_isTold : Cond.instanceMethod yX3_isTold ∈ lw_tbl := List.mem_of_getElem? (i := 405) (by decide +kernel)
theorem ws_X3_isTold : Cond.selects RX3 yX3_isTold yX3_isTold ∈ lw_tbl := List.mem_of_getElem? (i := 406) (by decide +kernel)
theorem wc_X3_isTold : Cond.code yX3_isTold cX3_isTold 2 (some .boolean) ∈ lw_tbl := List.mem_of_getElem? (i := 407) (by decide +kernel)
theorem wl_X2_60 : Cond.methodLink RX2 60 yX2_weigh ∈ lw_tbl := List.mem_of_getElem? (i := 408) (by decide +kernel)
theorem wm_X2_weigh : Cond.instanceMethod yX2_weigh ∈ lw_tbl := List.mem_of_getElem? (i := 410) (by decide +kernel)
theorem wc_X2_weigh : Cond.code yX2_weigh cX2_weigh 3 none ∈ lw_tbl := List.mem_of_getElem? (i := 411) (by decide +kernel)
theorem wl_X2_80 : Cond.methodLink RX2 80 yJ7_fill_53178 ∈ lw_tbl := List.mem_of_getElem? (i := 412) (by decide +kernel)
theorem wl_X2_86 : Cond.methodLink RX2 86 yX3_postCount ∈ lw_tbl := List.mem_of_getElem? (i := 413) (by decide +kernel)
theorem wl_X2_89 : Cond.methodLink RX2 89 yX3_sumOf ∈ lw_tbl := List.mem_of_getElem? (i := 414) (by decide +kernel)
theorem wl_X2_92 : Cond.methodLink RX2 92 yX3_allSums ∈ lw_tbl := List.mem_of_getElem? (i := 415) (by decide +kernel)
theorem wm_X3_allSums : Cond.instanceMethod yX3_allSums ∈ lw_tbl := List.mem_of_getElem? (i := 416) (by decide +kernel)
theorem ws_X3_allSums : Cond.selects RX3 yX3_allSums yX3_allSums ∈ lw_tbl := List.mem_of_getElem? (i := 417) (by decide +kernel)
theorem wc_X3_allSums : Cond.code yX3_allSums cX3_allSums 3 (some .int) ∈ lw_tbl := List.mem_of_getElem? (i := 418) (by decide +kernel)
theorem wl_X3_84 : Cond.methodLink RX3 84 yX3_isTold ∈ lw_tbl := List.mem_of_getElem? (i := 419) (by decide +kernel)
theorem wl_X2_95 : Cond.methodLink RX2 95 yX3_thirdCount ∈ lw_tbl := List.mem_of_getElem? (i := 420) (by decide +kernel)
theorem wl_X2_63 : Cond.methodLink RX2 63 yX2_level ∈ lw_tbl := List.mem_of_getElem? (i := 421) (by decide +kernel)
theorem wm_X2_level : Cond.instanceMethod yX2_level ∈ lw_tbl := List.mem_of_getElem? (i := 423) (by decide +kernel)
theorem wc_X2_level : Cond.code yX2_level cX2_level 5 none ∈ lw_tbl := List.mem_of_getElem? (i := 424) (by decide +kernel)
theorem wk_X2_98 : Cond.constant RX2 98 (1000000) ∈ lw_tbl := List.mem_of_getElem? (i := 425) (by decide +kernel)
theorem wl_X2_99 : Cond.methodLink RX2 99 Lib.Math.min.name ∈ lw_tbl := List.mem_of_getElem? (i := 426) (by decide +kernel)
theorem wt_J9_min_7cf53 : Cond.static Lib.Math.min.name ∈ lw_tbl := List.mem_of_getElem? (i := 427) (by decide +kernel)
theorem wc_J9_min_7cf53 : Cond.code Lib.Math.min.name Lib.Math.min.code 2 (some .int) ∈ lw_tbl := List.mem_of_getElem? (i := 428) (by decide +kernel)
theorem wl_X2_105 : Cond.methodLink RX2 105 yX2_push ∈ lw_tbl := List.mem_of_getElem? (i := 429) (by decide +kernel)
theorem wm_X2_push : Cond.instanceMethod yX2_push ∈ lw_tbl := List.mem_of_getElem? (i := 431) (by decide +kernel)
theorem wc_X2_push : Cond.code yX2_push cX2_push 7 (some .int) ∈ lw_tbl := List.mem_of_getElem? (i := 432) (by decide +kernel)
theorem wl_X2_109 : Cond.methodLink RX2 109 yX2_reaches ∈ lw_tbl := List.mem_of_getElem? (i := 433) (by decide +kernel)
theorem wm_X2_reaches : Cond.instanceMethod yX2_reaches ∈ lw_tbl := List.mem_of_getElem? (i := 435) (by decide +kernel)
theorem wc_X2_reaches : Cond.code yX2_reaches cX2_reaches 6 (some .boolean) ∈ lw_tbl := List.mem_of_getElem? (i := 436) (by decide +kernel)
theorem wl_X2_115 : Cond.methodLink RX2 115 yX2_seeFromThird ∈ lw_tbl := List.mem_of_getElem? (i := 437) (by decide +kernel)
theorem wm_X2_seeFromThird : Cond.instanceMethod yX2_seeFromThird ∈ lw_tbl := List.mem_of_getElem? (i := 439) (by decide +kernel)
theorem wc_X2_seeFromThird : Cond.code yX2_seeFromThird cX2_seeFromThird 7 (some .int) ∈ lw_tbl := List.mem_of_getElem? (i := 440) (by decide +kernel)
theorem wl_X2_121 : Cond.methodLink RX2 121 Lib.Math.max.name ∈ lw_tbl := List.mem_of_getElem? (i := 441) (by decide +kernel)
theorem wl_X2_118 : Cond.methodLink RX2 118 yX2_seeFromPost ∈ lw_tbl := List.mem_of_getElem? (i := 442) (by decide +kernel)
theorem wm_X2_seeFromPost : Cond.instanceMethod yX2_seeFromPost ∈ lw_tbl := List.mem_of_getElem? (i := 444) (by decide +kernel)
theorem wc_X2_seeFromPost : Cond.code yX2_seeFromPost cX2_seeFromPost 6 (some .int) ∈ lw_tbl := List.mem_of_getElem? (i := 445) (by decide +kernel)
theorem wl_X2_112 : Cond.methodLink RX2 112 yX2_nodeBefore ∈ lw_tbl := List.mem_of_getElem? (i := 446) (by decide +kernel)
theorem wm_X2_nodeBefore : Cond.instanceMethod yX2_nodeBefore ∈ lw_tbl := List.mem_of_getElem? (i := 448) (by decide +kernel)
theorem wc_X2_nodeBefore : Cond.code yX2_nodeBefore cX2_nodeBefore 3 (some .int) ∈ lw_tbl := List.mem_of_getElem? (i := 449) (by decide +kernel)
theorem wl_X2_52 : Cond.methodLink RX2 52 yX2_sink ∈ lw_tbl := List.mem_of_getElem? (i := 450) (by decide +kernel)
theorem wm_X2_sink : Cond.instanceMethod yX2_sink ∈ lw_tbl := List.mem_of_getElem? (i := 452) (by decide +kernel)
theorem wc_X2_sink : Cond.code yX2_sink cX2_sink 4 none ∈ lw_tbl := List.mem_of_getElem? (i := 453) (by decide +kernel)
theorem wl_X4_129 : Cond.methodLink RX4 129 yX2_givenAt ∈ lw_tbl := List.mem_of_getElem? (i := 454) (by decide +kernel)
theorem wm_X2_givenAt : Cond.instanceMethod yX2_givenAt ∈ lw_tbl := List.mem_of_getElem? (i := 455) (by decide +kernel)
theorem ws_X2_givenAt : Cond.selects RX2 yX2_givenAt yX2_givenAt ∈ lw_tbl := List.mem_of_getElem? (i := 456) (by decide +kernel)
theorem wc_X2_givenAt : Cond.code yX2_givenAt cX2_givenAt 4 (some .int) ∈ lw_tbl := List.mem_of_getElem? (i := 457) (by decide +kernel)
theorem wl_L_44 : Cond.methodLink RL 44 yX4_told ∈ lw_tbl := List.mem_of_getElem? (i := 458) (by decide +kernel)
theorem wm_X4_told : Cond.instanceMethod yX4_told ∈ lw_tbl := List.mem_of_getElem? (i := 459) (by decide +kernel)
theorem ws_X4_told : Cond.selects RX4 yX4_told yX4_told ∈ lw_tbl := List.mem_of_getElem? (i := 460) (by decide +kernel)
theorem wc_X4_told : Cond.code yX4_told cX4_told 2 (some .int) ∈ lw_tbl := List.mem_of_getElem? (i := 461) (by decide +kernel)
theorem wl_X4_132 : Cond.methodLink RX4 132 yX3_sidesWith ∈ lw_tbl := List.mem_of_getElem? (i := 462) (by decide +kernel)
theorem wm_X3_sidesWith : Cond.instanceMethod yX3_sidesWith ∈ lw_tbl := List.mem_of_getElem? (i := 463) (by decide +kernel)
theorem ws_X3_sidesWith : Cond.selects RX3 yX3_sidesWith yX3_sidesWith ∈ lw_tbl := List.mem_of_getElem? (i := 464) (by decide +kernel)
theorem wc_X3_sidesWith : Cond.code yX3_sidesWith cX3_sidesWith 4 (some .int) ∈ lw_tbl := List.mem_of_getElem? (i := 465) (by decide +kernel)
theorem wl_X4_135 : Cond.methodLink RX4 135 yX3_character ∈ lw_tbl := List.mem_of_getElem? (i := 466) (by decide +kernel)
theorem wm_X3_character : Cond.instanceMethod yX3_character ∈ lw_tbl := List.mem_of_getElem? (i := 467) (by decide +kernel)
theorem ws_X3_character : Cond.selects RX3 yX3_character yX3_character ∈ lw_tbl := List.mem_of_getElem? (i := 468) (by decide +kernel)
theorem wc_X3_character : Cond.code yX3_character cX3_character 3 (some .int) ∈ lw_tbl := List.mem_of_getElem? (i := 469) (by decide +kernel)
theorem wl_X3_81 : Cond.methodLink RX3 81 yX3_sidesWith ∈ lw_tbl := List.mem_of_getElem? (i := 470) (by decide +kernel)
theorem wl_X4_138 : Cond.methodLink RX4 138 yX3_pieces ∈ lw_tbl := List.mem_of_getElem? (i := 471) (by decide +kernel)
theorem wm_X3_pieces : Cond.instanceMethod yX3_pieces ∈ lw_tbl := List.mem_of_getElem? (i := 472) (by decide +kernel)
theorem ws_X3_pieces : Cond.selects RX3 yX3_pieces yX3_pieces ∈ lw_tbl := List.mem_of_getElem? (i := 473) (by decide +kernel)
theorem wc_X3_pieces : Cond.code yX3_pieces cX3_pieces 4 (some .int) ∈ lw_tbl := List.mem_of_getElem? (i := 474) (by decide +kernel)
theorem wl_X4_141 : Cond.methodLink RX4 141 yX3_allSums ∈ lw_tbl := List.mem_of_getElem? (i := 475) (by decide +kernel)
theorem wl_L_48 : Cond.methodLink RL 48 yX4_straight ∈ lw_tbl := List.mem_of_getElem? (i := 476) (by decide +kernel)
theorem wm_X4_straight : Cond.instanceMethod yX4_straight ∈ lw_tbl := List.mem_of_getElem? (i := 477) (by decide +kernel)
theorem ws_X4_straight : Cond.selects RX4 yX4_straight yX4_straight ∈ lw_tbl := List.mem_of_getElem? (i := 478) (by decide +kernel)
theorem wc_X4_straight : Cond.code yX4_straight cX4_straight 3 (some .int) ∈ lw_tbl := List.mem_of_getElem? (i := 479) (by decide +kernel)
theorem wl_L_52 : Cond.methodLink RL 52 yX4_least ∈ lw_tbl := List.mem_of_getElem? (i := 480) (by decide +kernel)
theorem wm_X4_least : Cond.instanceMethod yX4_least ∈ lw_tbl := List.mem_of_getElem? (i := 481) (by decide +kernel)
theorem ws_X4_least : Cond.selects RX4 yX4_least yX4_least ∈ lw_tbl := List.mem_of_getElem? (i := 482) (by decide +kernel)
theorem wc_X4_least : Cond.code yX4_least cX4_least 3 (some .int) ∈ lw_tbl := List.mem_of_getElem? (i := 483) (by decide +kernel)
theorem wl_L_56 : Cond.methodLink RL 56 yX4_tell ∈ lw_tbl := List.mem_of_getElem? (i := 484) (by decide +kernel)
theorem wm_X4_tell : Cond.instanceMethod yX4_tell ∈ lw_tbl := List.mem_of_getElem? (i := 485) (by decide +kernel)
theorem ws_X4_tell : Cond.selects RX4 yX4_tell yX4_tell ∈ lw_tbl := List.mem_of_getElem? (i := 486) (by decide +kernel)
theorem wc_X4_tell : Cond.code yX4_tell cX4_tell 4 (some .int) ∈ lw_tbl := List.mem_of_getElem? (i := 487) (by decide +kernel)
theorem wl_L_60 : Cond.methodLink RL 60 yX4_can ∈ lw_tbl := List.mem_of_getElem? (i := 488) (by decide +kernel)
theorem wm_X4_can : Cond.instanceMethod yX4_can ∈ lw_tbl := List.mem_of_getElem? (i := 489) (by decide +kernel)
theorem ws_X4_can : Cond.selects RX4 yX4_can yX4_can ∈ lw_tbl := List.mem_of_getElem? (i := 490) (by decide +kernel)
theorem wc_X4_can : Cond.code yX4_can cX4_can 1 (some .int) ∈ lw_tbl := List.mem_of_getElem? (i := 491) (by decide +kernel)
theorem wl_L_65 : Cond.methodLink RL 65 yX4_angle ∈ lw_tbl := List.mem_of_getElem? (i := 492) (by decide +kernel)
theorem wm_X4_angle : Cond.instanceMethod yX4_angle ∈ lw_tbl := List.mem_of_getElem? (i := 493) (by decide +kernel)
theorem ws_X4_angle : Cond.selects RX4 yX4_angle yX4_angle ∈ lw_tbl := List.mem_of_getElem? (i := 494) (by decide +kernel)
theorem wc_X4_angle : Cond.code yX4_angle cX4_angle 2 (some .int) ∈ lw_tbl := List.mem_of_getElem? (i := 495) (by decide +kernel)
theorem wl_X4_147 : Cond.methodLink RX4 147 yX2_given ∈ lw_tbl := List.mem_of_getElem? (i := 496) (by decide +kernel)
theorem wm_X2_given : Cond.instanceMethod yX2_given ∈ lw_tbl := List.mem_of_getElem? (i := 497) (by decide +kernel)
theorem ws_X2_given : Cond.selects RX2 yX2_given yX2_given ∈ lw_tbl := List.mem_of_getElem? (i := 498) (by decide +kernel)
theorem wc_X2_given : Cond.code yX2_given cX2_given 2 (some .int) ∈ lw_tbl := List.mem_of_getElem? (i := 499) (by decide +kernel)
theorem wl_L_69 : Cond.methodLink RL 69 yX4_best ∈ lw_tbl := List.mem_of_getElem? (i := 500) (by decide +kernel)
theorem wm_X4_best : Cond.instanceMethod yX4_best ∈ lw_tbl := List.mem_of_getElem? (i := 501) (by decide +kernel)
theorem ws_X4_best : Cond.selects RX4 yX4_best yX4_best ∈ lw_tbl := List.mem_of_getElem? (i := 502) (by decide +kernel)
theorem wc_X4_best : Cond.code yX4_best cX4_best 5 (some .int) ∈ lw_tbl := List.mem_of_getElem? (i := 503) (by decide +kernel)
theorem wl_X4_150 : Cond.methodLink RX4 150 Lib.Math.min.name ∈ lw_tbl := List.mem_of_getElem? (i := 504) (by decide +kernel)
theorem wl_X4_155 : Cond.methodLink RX4 155 yX2_findAny ∈ lw_tbl := List.mem_of_getElem? (i := 505) (by decide +kernel)
theorem wl_L_73 : Cond.methodLink RL 73 yX4_bar ∈ lw_tbl := List.mem_of_getElem? (i := 506) (by decide +kernel)
theorem wm_X4_bar : Cond.instanceMethod yX4_bar ∈ lw_tbl := List.mem_of_getElem? (i := 507) (by decide +kernel)
theorem ws_X4_bar : Cond.selects RX4 yX4_bar yX4_bar ∈ lw_tbl := List.mem_of_getElem? (i := 508) (by decide +kernel)
theorem wc_X4_bar : Cond.code yX4_bar cX4_bar 2 (some .int) ∈ lw_tbl := List.mem_of_getElem? (i := 509) (by decide +kernel)
theorem wl_X4_158 : Cond.methodLink RX4 158 yX1_fewest ∈ lw_tbl := List.mem_of_getElem? (i := 510) (by decide +kernel)
theorem wm_X1_fewest : Cond.instanceMethod yX1_fewest ∈ lw_tbl := List.mem_of_getElem? (i := 511) (by decide +kernel)
theorem ws_X1_fewest : Cond.selects RX1 yX1_fewest yX1_fewest ∈ lw_tbl := List.mem_of_getElem? (i := 512) (by decide +kernel)
theorem wc_X1_fewest : Cond.code yX1_fewest cX1_fewest 8 (some .int) ∈ lw_tbl := List.mem_of_getElem? (i := 513) (by decide +kernel)
theorem wl_X1_32 : Cond.methodLink RX1 32 yX1_lookAtPosts ∈ lw_tbl := List.mem_of_getElem? (i := 514) (by decide +kernel)
theorem wm_X1_lookAtPosts : Cond.instanceMethod yX1_lookAtPosts ∈ lw_tbl := List.mem_of_getElem? (i := 516) (by decide +kernel)
theorem wc_X1_lookAtPosts : Cond.code yX1_lookAtPosts cX1_lookAtPosts 6 none ∈ lw_tbl := List.mem_of_getElem? (i := 517) (by decide +kernel)
theorem wl_X1_56 : Cond.methodLink RX1 56 yX3_postCount ∈ lw_tbl := List.mem_of_getElem? (i := 518) (by decide +kernel)
theorem wl_X1_61 : Cond.methodLink RX1 61 yX3_sumOf ∈ lw_tbl := List.mem_of_getElem? (i := 519) (by decide +kernel)
theorem wl_X1_64 : Cond.methodLink RX1 64 yX3_cornersAt ∈ lw_tbl := List.mem_of_getElem? (i := 520) (by decide +kernel)
theorem wl_X1_67 : Cond.methodLink RX1 67 yX3_isTold ∈ lw_tbl := List.mem_of_getElem? (i := 521) (by decide +kernel)
theorem wl_X1_36 : Cond.methodLink RX1 36 yX1_lookAtThirds ∈ lw_tbl := List.mem_of_getElem? (i := 522) (by decide +kernel)
theorem wm_X1_lookAtThirds : Cond.instanceMethod yX1_lookAtThirds ∈ lw_tbl := List.mem_of_getElem? (i := 524) (by decide +kernel)
theorem wc_X1_lookAtThirds : Cond.code yX1_lookAtThirds cX1_lookAtThirds 5 none ∈ lw_tbl := List.mem_of_getElem? (i := 525) (by decide +kernel)
theorem wl_X1_71 : Cond.methodLink RX1 71 yX3_thirdCount ∈ lw_tbl := List.mem_of_getElem? (i := 526) (by decide +kernel)
theorem wl_X1_74 : Cond.methodLink RX1 74 yX3_postOf ∈ lw_tbl := List.mem_of_getElem? (i := 527) (by decide +kernel)
theorem wl_X1_39 : Cond.methodLink RX1 39 yX1_thirdsAtToldPosts ∈ lw_tbl := List.mem_of_getElem? (i := 528) (by decide +kernel)
theorem wm_X1_thirdsAtToldPosts : Cond.instanceMethod yX1_thirdsAtToldPosts ∈ lw_tbl := List.mem_of_getElem? (i := 530) (by decide +kernel)
theorem wc_X1_thirdsAtToldPosts : Cond.code yX1_thirdsAtToldPosts cX1_thirdsAtToldPosts 3 (some .int) ∈ lw_tbl := List.mem_of_getElem? (i := 531) (by decide +kernel)
theorem wl_X1_46 : Cond.methodLink RX1 46 yJ6_bitCount_0f7a4 ∈ lw_tbl := List.mem_of_getElem? (i := 532) (by decide +kernel)
theorem wt_J6_bitCount_0f7a4 : Cond.static yJ6_bitCount_0f7a4 ∈ lw_tbl := List.mem_of_getElem? (i := 533) (by decide +kernel)
theorem wc_J6_bitCount_0f7a4 : Cond.code yJ6_bitCount_0f7a4 cJ6_bitCount_0f7a4 1 (some .int) ∈ lw_tbl := List.mem_of_getElem? (i := 534) (by decide +kernel)
theorem wk_J6_265 : Cond.constant RJ6 265 (1431655765) ∈ lw_tbl := List.mem_of_getElem? (i := 535) (by decide +kernel)
theorem wk_J6_266 : Cond.constant RJ6 266 (858993459) ∈ lw_tbl := List.mem_of_getElem? (i := 536) (by decide +kernel)
theorem wk_J6_267 : Cond.constant RJ6 267 (252645135) ∈ lw_tbl := List.mem_of_getElem? (i := 537) (by decide +kernel)
theorem wl_X1_52 : Cond.methodLink RX1 52 yX1_isBar ∈ lw_tbl := List.mem_of_getElem? (i := 538) (by decide +kernel)
theorem wm_X1_isBar : Cond.instanceMethod yX1_isBar ∈ lw_tbl := List.mem_of_getElem? (i := 540) (by decide +kernel)
theorem wc_X1_isBar : Cond.code yX1_isBar cX1_isBar 3 (some .boolean) ∈ lw_tbl := List.mem_of_getElem? (i := 541) (by decide +kernel)
theorem wl_X1_77 : Cond.methodLink RX1 77 yX1_roomFor ∈ lw_tbl := List.mem_of_getElem? (i := 542) (by decide +kernel)
theorem wm_X1_roomFor : Cond.instanceMethod yX1_roomFor ∈ lw_tbl := List.mem_of_getElem? (i := 544) (by decide +kernel)
theorem wc_X1_roomFor : Cond.code yX1_roomFor cX1_roomFor 3 (some .int) ∈ lw_tbl := List.mem_of_getElem? (i := 545) (by decide +kernel)
theorem wl_X1_80 : Cond.methodLink RX1 80 yX1_mostOf ∈ lw_tbl := List.mem_of_getElem? (i := 546) (by decide +kernel)
theorem wm_X1_mostOf : Cond.instanceMethod yX1_mostOf ∈ lw_tbl := List.mem_of_getElem? (i := 548) (by decide +kernel)
theorem wc_X1_mostOf : Cond.code yX1_mostOf cX1_mostOf 5 (some .int) ∈ lw_tbl := List.mem_of_getElem? (i := 549) (by decide +kernel)
theorem wl_X1_83 : Cond.methodLink RX1 83 yX1_leastOf ∈ lw_tbl := List.mem_of_getElem? (i := 550) (by decide +kernel)
theorem wm_X1_leastOf : Cond.instanceMethod yX1_leastOf ∈ lw_tbl := List.mem_of_getElem? (i := 552) (by decide +kernel)
theorem wc_X1_leastOf : Cond.code yX1_leastOf cX1_leastOf 5 (some .int) ∈ lw_tbl := List.mem_of_getElem? (i := 553) (by decide +kernel)
theorem wl_L_77 : Cond.methodLink RL 77 yX4_opposite ∈ lw_tbl := List.mem_of_getElem? (i := 554) (by decide +kernel)
theorem wm_X4_opposite : Cond.instanceMethod yX4_opposite ∈ lw_tbl := List.mem_of_getElem? (i := 555) (by decide +kernel)
theorem ws_X4_opposite : Cond.selects RX4 yX4_opposite yX4_opposite ∈ lw_tbl := List.mem_of_getElem? (i := 556) (by decide +kernel)
theorem wc_X4_opposite : Cond.code yX4_opposite cX4_opposite 3 (some .int) ∈ lw_tbl := List.mem_of_getElem? (i := 557) (by decide +kernel)
theorem wl_X4_161 : Cond.methodLink RX4 161 yX4_givenOpposite ∈ lw_tbl := List.mem_of_getElem? (i := 558) (by decide +kernel)
theorem wm_X4_givenOpposite : Cond.instanceMethod yX4_givenOpposite ∈ lw_tbl := List.mem_of_getElem? (i := 560) (by decide +kernel)
theorem wc_X4_givenOpposite : Cond.code yX4_givenOpposite cX4_givenOpposite 4 (some .int) ∈ lw_tbl := List.mem_of_getElem? (i := 561) (by decide +kernel)
theorem wl_L_81 : Cond.methodLink RL 81 yX4_fit ∈ lw_tbl := List.mem_of_getElem? (i := 562) (by decide +kernel)
theorem wm_X4_fit : Cond.instanceMethod yX4_fit ∈ lw_tbl := List.mem_of_getElem? (i := 563) (by decide +kernel)
theorem ws_X4_fit : Cond.selects RX4 yX4_fit yX4_fit ∈ lw_tbl := List.mem_of_getElem? (i := 564) (by decide +kernel)
theorem wc_X4_fit : Cond.code yX4_fit cX4_fit 4 (some .int) ∈ lw_tbl := List.mem_of_getElem? (i := 565) (by decide +kernel)
theorem wl_L_85 : Cond.methodLink RL 85 yX4_undo ∈ lw_tbl := List.mem_of_getElem? (i := 566) (by decide +kernel)
theorem wm_X4_undo : Cond.instanceMethod yX4_undo ∈ lw_tbl := List.mem_of_getElem? (i := 567) (by decide +kernel)
theorem ws_X4_undo : Cond.selects RX4 yX4_undo yX4_undo ∈ lw_tbl := List.mem_of_getElem? (i := 568) (by decide +kernel)
theorem wc_X4_undo : Cond.code yX4_undo cX4_undo 1 (some .int) ∈ lw_tbl := List.mem_of_getElem? (i := 569) (by decide +kernel)
theorem wl_X4_164 : Cond.methodLink RX4 164 yX0_behind ∈ lw_tbl := List.mem_of_getElem? (i := 570) (by decide +kernel)
theorem wm_X0_behind : Cond.instanceMethod yX0_behind ∈ lw_tbl := List.mem_of_getElem? (i := 571) (by decide +kernel)
theorem ws_X0_behind : Cond.selects RX0 yX0_behind yX0_behind ∈ lw_tbl := List.mem_of_getElem? (i := 572) (by decide +kernel)
theorem wc_X0_behind : Cond.code yX0_behind cX0_behind 1 (some .int) ∈ lw_tbl := List.mem_of_getElem? (i := 573) (by decide +kernel)
theorem wl_X4_167 : Cond.methodLink RX4 167 yX0_backward ∈ lw_tbl := List.mem_of_getElem? (i := 574) (by decide +kernel)
theorem wm_X0_backward : Cond.instanceMethod yX0_backward ∈ lw_tbl := List.mem_of_getElem? (i := 575) (by decide +kernel)
theorem ws_X0_backward : Cond.selects RX0 yX0_backward yX0_backward ∈ lw_tbl := List.mem_of_getElem? (i := 576) (by decide +kernel)
theorem wc_X0_backward : Cond.code yX0_backward cX0_backward 2 none ∈ lw_tbl := List.mem_of_getElem? (i := 577) (by decide +kernel)
theorem wl_L_89 : Cond.methodLink RL 89 yX4_redo ∈ lw_tbl := List.mem_of_getElem? (i := 578) (by decide +kernel)
theorem wm_X4_redo : Cond.instanceMethod yX4_redo ∈ lw_tbl := List.mem_of_getElem? (i := 579) (by decide +kernel)
theorem ws_X4_redo : Cond.selects RX4 yX4_redo yX4_redo ∈ lw_tbl := List.mem_of_getElem? (i := 580) (by decide +kernel)
theorem wc_X4_redo : Cond.code yX4_redo cX4_redo 1 (some .int) ∈ lw_tbl := List.mem_of_getElem? (i := 581) (by decide +kernel)
theorem wl_X4_170 : Cond.methodLink RX4 170 yX0_ahead ∈ lw_tbl := List.mem_of_getElem? (i := 582) (by decide +kernel)
theorem wm_X0_ahead : Cond.instanceMethod yX0_ahead ∈ lw_tbl := List.mem_of_getElem? (i := 583) (by decide +kernel)
theorem ws_X0_ahead : Cond.selects RX0 yX0_ahead yX0_ahead ∈ lw_tbl := List.mem_of_getElem? (i := 584) (by decide +kernel)
theorem wc_X0_ahead : Cond.code yX0_ahead cX0_ahead 1 (some .int) ∈ lw_tbl := List.mem_of_getElem? (i := 585) (by decide +kernel)
theorem wq_L_10 : Cond.classLink RL 10 RX5 ∈ lw_tbl := List.mem_of_getElem? (i := 586) (by decide +kernel)
theorem wx_X5 : Cond.instantiable RX5 19 ∈ lw_tbl := List.mem_of_getElem? (i := 587) (by decide +kernel)
theorem wl_L_12 : Cond.methodLink RL 12 yX5_init ∈ lw_tbl := List.mem_of_getElem? (i := 588) (by decide +kernel)
theorem wm_X5_init : Cond.instanceMethod yX5_init ∈ lw_tbl := List.mem_of_getElem? (i := 589) (by decide +kernel)
theorem wc_X5_init : Cond.code yX5_init cX5_init 1 none ∈ lw_tbl := List.mem_of_getElem? (i := 590) (by decide +kernel)
theorem wl_X5_1 : Cond.methodLink RX5 1 objectInit ∈ lw_tbl := List.mem_of_getElem? (i := 591) (by decide +kernel)
theorem wl_X5_50 : Cond.methodLink RX5 50 yX5_begin ∈ lw_tbl := List.mem_of_getElem? (i := 592) (by decide +kernel)
theorem wm_X5_begin : Cond.instanceMethod yX5_begin ∈ lw_tbl := List.mem_of_getElem? (i := 594) (by decide +kernel)
theorem wc_X5_begin : Cond.code yX5_begin cX5_begin 2 none ∈ lw_tbl := List.mem_of_getElem? (i := 595) (by decide +kernel)
theorem wf_X5_7 : Cond.fieldLink RX5 7 "AngleNetModel" "posts" "I" ∈ lw_tbl := List.mem_of_getElem? (i := 596) (by decide +kernel)
theorem wf_X5_53 : Cond.fieldLink RX5 53 "AngleNetModel" "thirds" "I" ∈ lw_tbl := List.mem_of_getElem? (i := 597) (by decide +kernel)
theorem wf_X5_13 : Cond.fieldLink RX5 13 "AngleNetModel" "corner" "[I" ∈ lw_tbl := List.mem_of_getElem? (i := 598) (by decide +kernel)
theorem wf_X5_17 : Cond.fieldLink RX5 17 "AngleNetModel" "straight" "I" ∈ lw_tbl := List.mem_of_getElem? (i := 599) (by decide +kernel)
theorem wf_X5_20 : Cond.fieldLink RX5 20 "AngleNetModel" "least" "I" ∈ lw_tbl := List.mem_of_getElem? (i := 600) (by decide +kernel)
theorem wf_X5_23 : Cond.fieldLink RX5 23 "AngleNetModel" "sum" "[I" ∈ lw_tbl := List.mem_of_getElem? (i := 601) (by decide +kernel)
theorem wf_X5_62 : Cond.fieldLink RX5 62 "AngleNetModel" "isLaid" "Z" ∈ lw_tbl := List.mem_of_getElem? (i := 602) (by decide +kernel)
theorem wf_X5_159 : Cond.fieldLink RX5 159 "AngleNetModel" "isGiven" "Z" ∈ lw_tbl := List.mem_of_getElem? (i := 603) (by decide +kernel)
theorem wf_X5_26 : Cond.fieldLink RX5 26 "AngleNetModel" "beyond" "[I" ∈ lw_tbl := List.mem_of_getElem? (i := 604) (by decide +kernel)
theorem wf_X5_56 : Cond.fieldLink RX5 56 "AngleNetModel" "acts" "I" ∈ lw_tbl := List.mem_of_getElem? (i := 605) (by decide +kernel)
theorem wf_X5_59 : Cond.fieldLink RX5 59 "AngleNetModel" "done" "I" ∈ lw_tbl := List.mem_of_getElem? (i := 606) (by decide +kernel)
theorem wf_X5_29 : Cond.fieldLink RX5 29 "AngleNetModel" "act" "[I" ∈ lw_tbl := List.mem_of_getElem? (i := 607) (by decide +kernel)
theorem wf_X5_32 : Cond.fieldLink RX5 32 "AngleNetModel" "mark" "[I" ∈ lw_tbl := List.mem_of_getElem? (i := 608) (by decide +kernel)
theorem wf_X5_35 : Cond.fieldLink RX5 35 "AngleNetModel" "spare" "[I" ∈ lw_tbl := List.mem_of_getElem? (i := 609) (by decide +kernel)
theorem wf_X5_38 : Cond.fieldLink RX5 38 "AngleNetModel" "lack" "[I" ∈ lw_tbl := List.mem_of_getElem? (i := 610) (by decide +kernel)
theorem wf_X5_41 : Cond.fieldLink RX5 41 "AngleNetModel" "before" "[I" ∈ lw_tbl := List.mem_of_getElem? (i := 611) (by decide +kernel)
theorem wf_X5_44 : Cond.fieldLink RX5 44 "AngleNetModel" "via" "[I" ∈ lw_tbl := List.mem_of_getElem? (i := 612) (by decide +kernel)
theorem wf_X5_47 : Cond.fieldLink RX5 47 "AngleNetModel" "queue" "[I" ∈ lw_tbl := List.mem_of_getElem? (i := 613) (by decide +kernel)
theorem wf_X5_129 : Cond.fieldLink RX5 129 "AngleNetModel" "queued" "I" ∈ lw_tbl := List.mem_of_getElem? (i := 614) (by decide +kernel)
theorem wl_L_17 : Cond.methodLink RL 17 yX5_posts ∈ lw_tbl := List.mem_of_getElem? (i := 654) (by decide +kernel)
theorem wm_X5_posts : Cond.instanceMethod yX5_posts ∈ lw_tbl := List.mem_of_getElem? (i := 655) (by decide +kernel)
theorem ws_X5_posts : Cond.selects RX5 yX5_posts yX5_posts ∈ lw_tbl := List.mem_of_getElem? (i := 656) (by decide +kernel)
theorem wc_X5_posts : Cond.code yX5_posts cX5_posts 3 (some .int) ∈ lw_tbl := List.mem_of_getElem? (i := 657) (by decide +kernel)
theorem wl_X5_66 : Cond.methodLink RX5 66 yX5_in ∈ lw_tbl := List.mem_of_getElem? (i := 658) (by decide +kernel)
theorem wt_X5_in : Cond.static yX5_in ∈ lw_tbl := List.mem_of_getElem? (i := 659) (by decide +kernel)
theorem wc_X5_in : Cond.code yX5_in cX5_in 3 (some .boolean) ∈ lw_tbl := List.mem_of_getElem? (i := 660) (by decide +kernel)
theorem wl_L_22 : Cond.methodLink RL 22 yX5_third ∈ lw_tbl := List.mem_of_getElem? (i := 661) (by decide +kernel)
theorem wm_X5_third : Cond.instanceMethod yX5_third ∈ lw_tbl := List.mem_of_getElem? (i := 662) (by decide +kernel)
theorem ws_X5_third : Cond.selects RX5 yX5_third yX5_third ∈ lw_tbl := List.mem_of_getElem? (i := 663) (by decide +kernel)
theorem wc_X5_third : Cond.code yX5_third cX5_third 4 (some .int) ∈ lw_tbl := List.mem_of_getElem? (i := 664) (by decide +kernel)
theorem wl_X5_78 : Cond.methodLink RX5 78 yX5_arePair ∈ lw_tbl := List.mem_of_getElem? (i := 665) (by decide +kernel)
theorem wm_X5_arePair : Cond.instanceMethod yX5_arePair ∈ lw_tbl := List.mem_of_getElem? (i := 667) (by decide +kernel)
theorem wc_X5_arePair : Cond.code yX5_arePair cX5_arePair 3 (some .boolean) ∈ lw_tbl := List.mem_of_getElem? (i := 668) (by decide +kernel)
theorem wl_X5_70 : Cond.methodLink RX5 70 yX5_isPost ∈ lw_tbl := List.mem_of_getElem? (i := 669) (by decide +kernel)
theorem wm_X5_isPost : Cond.instanceMethod yX5_isPost ∈ lw_tbl := List.mem_of_getElem? (i := 671) (by decide +kernel)
theorem wc_X5_isPost : Cond.code yX5_isPost cX5_isPost 2 (some .boolean) ∈ lw_tbl := List.mem_of_getElem? (i := 672) (by decide +kernel)
theorem wl_X5_74 : Cond.methodLink RX5 74 yX5_arrowOf ∈ lw_tbl := List.mem_of_getElem? (i := 673) (by decide +kernel)
theorem wm_X5_arrowOf : Cond.instanceMethod yX5_arrowOf ∈ lw_tbl := List.mem_of_getElem? (i := 675) (by decide +kernel)
theorem wc_X5_arrowOf : Cond.code yX5_arrowOf cX5_arrowOf 4 (some .int) ∈ lw_tbl := List.mem_of_getElem? (i := 676) (by decide +kernel)
theorem wl_X5_82 : Cond.methodLink RX5 82 yX5_put ∈ lw_tbl := List.mem_of_getElem? (i := 677) (by decide +kernel)
theorem wm_X5_put : Cond.instanceMethod yX5_put ∈ lw_tbl := List.mem_of_getElem? (i := 679) (by decide +kernel)
theorem wc_X5_put : Cond.code yX5_put cX5_put 5 none ∈ lw_tbl := List.mem_of_getElem? (i := 680) (by decide +kernel)
theorem wl_X5_86 : Cond.methodLink RX5 86 yX5_write ∈ lw_tbl := List.mem_of_getElem? (i := 681) (by decide +kernel)
theorem wm_X5_write : Cond.instanceMethod yX5_write ∈ lw_tbl := List.mem_of_getElem? (i := 683) (by decide +kernel)
theorem wc_X5_write : Cond.code yX5_write cX5_write 5 none ∈ lw_tbl := List.mem_of_getElem? (i := 684) (by decide +kernel)
theorem wl_X5_90 : Cond.methodLink RX5 90 yX5_keepThirds ∈ lw_tbl := List.mem_of_getElem? (i := 685) (by decide +kernel)
theorem wm_X5_keepThirds : Cond.instanceMethod yX5_keepThirds ∈ lw_tbl := List.mem_of_getElem? (i := 687) (by decide +kernel)
theorem wc_X5_keepThirds : Cond.code yX5_keepThirds cX5_keepThirds 5 none ∈ lw_tbl := List.mem_of_getElem? (i := 688) (by decide +kernel)
theorem wl_L_26 : Cond.methodLink RL 26 yX5_at ∈ lw_tbl := List.mem_of_getElem? (i := 689) (by decide +kernel)
theorem wm_X5_at : Cond.instanceMethod yX5_at ∈ lw_tbl := List.mem_of_getElem? (i := 690) (by decide +kernel)
theorem ws_X5_at : Cond.selects RX5 yX5_at yX5_at ∈ lw_tbl := List.mem_of_getElem? (i := 691) (by decide +kernel)
theorem wc_X5_at : Cond.code yX5_at cX5_at 2 (some .int) ∈ lw_tbl := List.mem_of_getElem? (i := 692) (by decide +kernel)
theorem wl_L_31 : Cond.methodLink RL 31 yX5_side ∈ lw_tbl := List.mem_of_getElem? (i := 693) (by decide +kernel)
theorem wm_X5_side : Cond.instanceMethod yX5_side ∈ lw_tbl := List.mem_of_getElem? (i := 694) (by decide +kernel)
theorem ws_X5_side : Cond.selects RX5 yX5_side yX5_side ∈ lw_tbl := List.mem_of_getElem? (i := 695) (by decide +kernel)
theorem wc_X5_side : Cond.code yX5_side cX5_side 3 (some .int) ∈ lw_tbl := List.mem_of_getElem? (i := 696) (by decide +kernel)
theorem wl_X5_93 : Cond.methodLink RX5 93 yX5_sideOf ∈ lw_tbl := List.mem_of_getElem? (i := 697) (by decide +kernel)
theorem wm_X5_sideOf : Cond.instanceMethod yX5_sideOf ∈ lw_tbl := List.mem_of_getElem? (i := 699) (by decide +kernel)
theorem wc_X5_sideOf : Cond.code yX5_sideOf cX5_sideOf 3 (some .int) ∈ lw_tbl := List.mem_of_getElem? (i := 700) (by decide +kernel)
theorem wl_L_35 : Cond.methodLink RL 35 yX5_arrow ∈ lw_tbl := List.mem_of_getElem? (i := 701) (by decide +kernel)
theorem wm_X5_arrow : Cond.instanceMethod yX5_arrow ∈ lw_tbl := List.mem_of_getElem? (i := 702) (by decide +kernel)
theorem ws_X5_arrow : Cond.selects RX5 yX5_arrow yX5_arrow ∈ lw_tbl := List.mem_of_getElem? (i := 703) (by decide +kernel)
theorem wc_X5_arrow : Cond.code yX5_arrow cX5_arrow 3 (some .int) ∈ lw_tbl := List.mem_of_getElem? (i := 704) (by decide +kernel)
theorem wl_L_39 : Cond.methodLink RL 39 yX5_turn ∈ lw_tbl := List.mem_of_getElem? (i := 705) (by decide +kernel)
theorem wm_X5_turn : Cond.instanceMethod yX5_turn ∈ lw_tbl := List.mem_of_getElem? (i := 706) (by decide +kernel)
theorem ws_X5_turn : Cond.selects RX5 yX5_turn yX5_turn ∈ lw_tbl := List.mem_of_getElem? (i := 707) (by decide +kernel)
theorem wc_X5_turn : Cond.code yX5_turn cX5_turn 7 (some .int) ∈ lw_tbl := List.mem_of_getElem? (i := 708) (by decide +kernel)
theorem wl_X5_96 : Cond.methodLink RX5 96 yX5_oppositeCorner ∈ lw_tbl := List.mem_of_getElem? (i := 709) (by decide +kernel)
theorem wm_X5_oppositeCorner : Cond.instanceMethod yX5_oppositeCorner ∈ lw_tbl := List.mem_of_getElem? (i := 711) (by decide +kernel)
theorem wc_X5_oppositeCorner : Cond.code yX5_oppositeCorner cX5_oppositeCorner 5 (some .int) ∈ lw_tbl := List.mem_of_getElem? (i := 712) (by decide +kernel)
theorem wl_L_59 : Cond.methodLink RL 59 yX5_tell ∈ lw_tbl := List.mem_of_getElem? (i := 713) (by decide +kernel)
theorem wm_X5_tell : Cond.instanceMethod yX5_tell ∈ lw_tbl := List.mem_of_getElem? (i := 714) (by decide +kernel)
theorem ws_X5_tell : Cond.selects RX5 yX5_tell yX5_tell ∈ lw_tbl := List.mem_of_getElem? (i := 715) (by decide +kernel)
theorem wc_X5_tell : Cond.code yX5_tell cX5_tell 4 (some .int) ∈ lw_tbl := List.mem_of_getElem? (i := 716) (by decide +kernel)
theorem wl_L_88 : Cond.methodLink RL 88 yX5_undo ∈ lw_tbl := List.mem_of_getElem? (i := 717) (by decide +kernel)
theorem wm_X5_undo : Cond.instanceMethod yX5_undo ∈ lw_tbl := List.mem_of_getElem? (i := 718) (by decide +kernel)
theorem ws_X5_undo : Cond.selects RX5 yX5_undo yX5_undo ∈ lw_tbl := List.mem_of_getElem? (i := 719) (by decide +kernel)
theorem wc_X5_undo : Cond.code yX5_undo cX5_undo 2 (some .int) ∈ lw_tbl := List.mem_of_getElem? (i := 720) (by decide +kernel)
theorem wl_X5_100 : Cond.methodLink RX5 100 yX5_takeThirds ∈ lw_tbl := List.mem_of_getElem? (i := 721) (by decide +kernel)
theorem wm_X5_takeThirds : Cond.instanceMethod yX5_takeThirds ∈ lw_tbl := List.mem_of_getElem? (i := 723) (by decide +kernel)
theorem wc_X5_takeThirds : Cond.code yX5_takeThirds cX5_takeThirds 5 none ∈ lw_tbl := List.mem_of_getElem? (i := 724) (by decide +kernel)
theorem wl_L_92 : Cond.methodLink RL 92 yX5_redo ∈ lw_tbl := List.mem_of_getElem? (i := 725) (by decide +kernel)
theorem wm_X5_redo : Cond.instanceMethod yX5_redo ∈ lw_tbl := List.mem_of_getElem? (i := 726) (by decide +kernel)
theorem ws_X5_redo : Cond.selects RX5 yX5_redo yX5_redo ∈ lw_tbl := List.mem_of_getElem? (i := 727) (by decide +kernel)
theorem wc_X5_redo : Cond.code yX5_redo cX5_redo 2 (some .int) ∈ lw_tbl := List.mem_of_getElem? (i := 728) (by decide +kernel)
theorem wl_L_43 : Cond.methodLink RL 43 yX5_about ∈ lw_tbl := List.mem_of_getElem? (i := 729) (by decide +kernel)
theorem wm_X5_about : Cond.instanceMethod yX5_about ∈ lw_tbl := List.mem_of_getElem? (i := 730) (by decide +kernel)
theorem ws_X5_about : Cond.selects RX5 yX5_about yX5_about ∈ lw_tbl := List.mem_of_getElem? (i := 731) (by decide +kernel)
theorem wc_X5_about : Cond.code yX5_about cX5_about 3 (some .int) ∈ lw_tbl := List.mem_of_getElem? (i := 732) (by decide +kernel)
theorem wl_X5_113 : Cond.methodLink RX5 113 yX5_cornersAt ∈ lw_tbl := List.mem_of_getElem? (i := 733) (by decide +kernel)
theorem wm_X5_cornersAt : Cond.instanceMethod yX5_cornersAt ∈ lw_tbl := List.mem_of_getElem? (i := 735) (by decide +kernel)
theorem wc_X5_cornersAt : Cond.code yX5_cornersAt cX5_cornersAt 4 (some .int) ∈ lw_tbl := List.mem_of_getElem? (i := 736) (by decide +kernel)
theorem wl_X5_117 : Cond.methodLink RX5 117 yX5_sidesAt ∈ lw_tbl := List.mem_of_getElem? (i := 737) (by decide +kernel)
theorem wm_X5_sidesAt : Cond.instanceMethod yX5_sidesAt ∈ lw_tbl := List.mem_of_getElem? (i := 739) (by decide +kernel)
theorem wc_X5_sidesAt : Cond.code yX5_sidesAt cX5_sidesAt 6 (some .int) ∈ lw_tbl := List.mem_of_getElem? (i := 740) (by decide +kernel)
theorem wl_X5_120 : Cond.methodLink RX5 120 yX5_pieces ∈ lw_tbl := List.mem_of_getElem? (i := 741) (by decide +kernel)
theorem wm_X5_pieces : Cond.instanceMethod yX5_pieces ∈ lw_tbl := List.mem_of_getElem? (i := 743) (by decide +kernel)
theorem wc_X5_pieces : Cond.code yX5_pieces cX5_pieces 7 (some .int) ∈ lw_tbl := List.mem_of_getElem? (i := 744) (by decide +kernel)
theorem wl_X5_103 : Cond.methodLink RX5 103 yX5_hasPost ∈ lw_tbl := List.mem_of_getElem? (i := 745) (by decide +kernel)
theorem wm_X5_hasPost : Cond.instanceMethod yX5_hasPost ∈ lw_tbl := List.mem_of_getElem? (i := 747) (by decide +kernel)
theorem wc_X5_hasPost : Cond.code yX5_hasPost cX5_hasPost 3 (some .boolean) ∈ lw_tbl := List.mem_of_getElem? (i := 748) (by decide +kernel)
theorem wl_X5_106 : Cond.methodLink RX5 106 yX5_hang ∈ lw_tbl := List.mem_of_getElem? (i := 749) (by decide +kernel)
theorem wm_X5_hang : Cond.instanceMethod yX5_hang ∈ lw_tbl := List.mem_of_getElem? (i := 751) (by decide +kernel)
theorem wc_X5_hang : Cond.code yX5_hang cX5_hang 8 (some .boolean) ∈ lw_tbl := List.mem_of_getElem? (i := 752) (by decide +kernel)
theorem wl_X5_123 : Cond.methodLink RX5 123 yX5_sumOfRow ∈ lw_tbl := List.mem_of_getElem? (i := 753) (by decide +kernel)
theorem wm_X5_sumOfRow : Cond.instanceMethod yX5_sumOfRow ∈ lw_tbl := List.mem_of_getElem? (i := 755) (by decide +kernel)
theorem wc_X5_sumOfRow : Cond.code yX5_sumOfRow cX5_sumOfRow 4 (some .int) ∈ lw_tbl := List.mem_of_getElem? (i := 756) (by decide +kernel)
theorem wl_X5_109 : Cond.methodLink RX5 109 yX5_hasRow ∈ lw_tbl := List.mem_of_getElem? (i := 757) (by decide +kernel)
theorem wm_X5_hasRow : Cond.instanceMethod yX5_hasRow ∈ lw_tbl := List.mem_of_getElem? (i := 759) (by decide +kernel)
theorem wc_X5_hasRow : Cond.code yX5_hasRow cX5_hasRow 2 (some .boolean) ∈ lw_tbl := List.mem_of_getElem? (i := 760) (by decide +kernel)
theorem wl_X5_156 : Cond.methodLink RX5 156 yX5_canWith ∈ lw_tbl := List.mem_of_getElem? (i := 761) (by decide +kernel)
theorem wm_X5_canWith : Cond.instanceMethod yX5_canWith ∈ lw_tbl := List.mem_of_getElem? (i := 763) (by decide +kernel)
theorem wc_X5_canWith : Cond.code yX5_canWith cX5_canWith 4 (some .boolean) ∈ lw_tbl := List.mem_of_getElem? (i := 764) (by decide +kernel)
theorem wl_X5_152 : Cond.methodLink RX5 152 yX5_fill ∈ lw_tbl := List.mem_of_getElem? (i := 765) (by decide +kernel)
theorem wm_X5_fill : Cond.instanceMethod yX5_fill ∈ lw_tbl := List.mem_of_getElem? (i := 767) (by decide +kernel)
theorem wc_X5_fill : Cond.code yX5_fill cX5_fill 6 none ∈ lw_tbl := List.mem_of_getElem? (i := 768) (by decide +kernel)
theorem wl_X5_135 : Cond.methodLink RX5 135 yX5_clearWays ∈ lw_tbl := List.mem_of_getElem? (i := 769) (by decide +kernel)
theorem wm_X5_clearWays : Cond.instanceMethod yX5_clearWays ∈ lw_tbl := List.mem_of_getElem? (i := 771) (by decide +kernel)
theorem wc_X5_clearWays : Cond.code yX5_clearWays cX5_clearWays 2 none ∈ lw_tbl := List.mem_of_getElem? (i := 772) (by decide +kernel)
theorem wl_X5_132 : Cond.methodLink RX5 132 yX5_come ∈ lw_tbl := List.mem_of_getElem? (i := 773) (by decide +kernel)
theorem wm_X5_come : Cond.instanceMethod yX5_come ∈ lw_tbl := List.mem_of_getElem? (i := 775) (by decide +kernel)
theorem wc_X5_come : Cond.code yX5_come cX5_come 4 none ∈ lw_tbl := List.mem_of_getElem? (i := 776) (by decide +kernel)
theorem wl_X5_138 : Cond.methodLink RX5 138 yX5_spread ∈ lw_tbl := List.mem_of_getElem? (i := 777) (by decide +kernel)
theorem wm_X5_spread : Cond.instanceMethod yX5_spread ∈ lw_tbl := List.mem_of_getElem? (i := 779) (by decide +kernel)
theorem wc_X5_spread : Cond.code yX5_spread cX5_spread 6 none ∈ lw_tbl := List.mem_of_getElem? (i := 780) (by decide +kernel)
theorem wl_X5_142 : Cond.methodLink RX5 142 yX5_wanting ∈ lw_tbl := List.mem_of_getElem? (i := 781) (by decide +kernel)
theorem wm_X5_wanting : Cond.instanceMethod yX5_wanting ∈ lw_tbl := List.mem_of_getElem? (i := 783) (by decide +kernel)
theorem wc_X5_wanting : Cond.code yX5_wanting cX5_wanting 4 (some .int) ∈ lw_tbl := List.mem_of_getElem? (i := 784) (by decide +kernel)
theorem wl_X5_146 : Cond.methodLink RX5 146 yX5_wayRoom ∈ lw_tbl := List.mem_of_getElem? (i := 785) (by decide +kernel)
theorem wm_X5_wayRoom : Cond.instanceMethod yX5_wayRoom ∈ lw_tbl := List.mem_of_getElem? (i := 787) (by decide +kernel)
theorem wc_X5_wayRoom : Cond.code yX5_wayRoom cX5_wayRoom 5 (some .int) ∈ lw_tbl := List.mem_of_getElem? (i := 788) (by decide +kernel)
theorem wl_X5_149 : Cond.methodLink RX5 149 yX5_goWay ∈ lw_tbl := List.mem_of_getElem? (i := 789) (by decide +kernel)
theorem wm_X5_goWay : Cond.instanceMethod yX5_goWay ∈ lw_tbl := List.mem_of_getElem? (i := 791) (by decide +kernel)
theorem wc_X5_goWay : Cond.code yX5_goWay cX5_goWay 4 (some .int) ∈ lw_tbl := List.mem_of_getElem? (i := 792) (by decide +kernel)
theorem wl_X5_162 : Cond.methodLink RX5 162 yX5_lower ∈ lw_tbl := List.mem_of_getElem? (i := 793) (by decide +kernel)
theorem wm_X5_lower : Cond.instanceMethod yX5_lower ∈ lw_tbl := List.mem_of_getElem? (i := 795) (by decide +kernel)
theorem wc_X5_lower : Cond.code yX5_lower cX5_lower 6 none ∈ lw_tbl := List.mem_of_getElem? (i := 796) (by decide +kernel)
theorem wl_L_47 : Cond.methodLink RL 47 yX5_told ∈ lw_tbl := List.mem_of_getElem? (i := 797) (by decide +kernel)
theorem wm_X5_told : Cond.instanceMethod yX5_told ∈ lw_tbl := List.mem_of_getElem? (i := 798) (by decide +kernel)
theorem ws_X5_told : Cond.selects RX5 yX5_told yX5_told ∈ lw_tbl := List.mem_of_getElem? (i := 799) (by decide +kernel)
theorem wc_X5_told : Cond.code yX5_told cX5_told 5 (some .int) ∈ lw_tbl := List.mem_of_getElem? (i := 800) (by decide +kernel)
theorem wl_X5_126 : Cond.methodLink RX5 126 yX5_sides ∈ lw_tbl := List.mem_of_getElem? (i := 801) (by decide +kernel)
theorem wm_X5_sides : Cond.instanceMethod yX5_sides ∈ lw_tbl := List.mem_of_getElem? (i := 803) (by decide +kernel)
theorem wc_X5_sides : Cond.code yX5_sides cX5_sides 5 (some .int) ∈ lw_tbl := List.mem_of_getElem? (i := 804) (by decide +kernel)
theorem wl_L_51 : Cond.methodLink RL 51 yX5_straight ∈ lw_tbl := List.mem_of_getElem? (i := 805) (by decide +kernel)
theorem wm_X5_straight : Cond.instanceMethod yX5_straight ∈ lw_tbl := List.mem_of_getElem? (i := 806) (by decide +kernel)
theorem ws_X5_straight : Cond.selects RX5 yX5_straight yX5_straight ∈ lw_tbl := List.mem_of_getElem? (i := 807) (by decide +kernel)
theorem wc_X5_straight : Cond.code yX5_straight cX5_straight 3 (some .int) ∈ lw_tbl := List.mem_of_getElem? (i := 808) (by decide +kernel)
theorem wl_L_55 : Cond.methodLink RL 55 yX5_least ∈ lw_tbl := List.mem_of_getElem? (i := 809) (by decide +kernel)
theorem wm_X5_least : Cond.instanceMethod yX5_least ∈ lw_tbl := List.mem_of_getElem? (i := 810) (by decide +kernel)
theorem ws_X5_least : Cond.selects RX5 yX5_least yX5_least ∈ lw_tbl := List.mem_of_getElem? (i := 811) (by decide +kernel)
theorem wc_X5_least : Cond.code yX5_least cX5_least 3 (some .int) ∈ lw_tbl := List.mem_of_getElem? (i := 812) (by decide +kernel)
theorem wl_L_64 : Cond.methodLink RL 64 yX5_can ∈ lw_tbl := List.mem_of_getElem? (i := 813) (by decide +kernel)
theorem wm_X5_can : Cond.instanceMethod yX5_can ∈ lw_tbl := List.mem_of_getElem? (i := 814) (by decide +kernel)
theorem ws_X5_can : Cond.selects RX5 yX5_can yX5_can ∈ lw_tbl := List.mem_of_getElem? (i := 815) (by decide +kernel)
theorem wc_X5_can : Cond.code yX5_can cX5_can 1 (some .int) ∈ lw_tbl := List.mem_of_getElem? (i := 816) (by decide +kernel)
theorem wl_L_68 : Cond.methodLink RL 68 yX5_angle ∈ lw_tbl := List.mem_of_getElem? (i := 817) (by decide +kernel)
theorem wm_X5_angle : Cond.instanceMethod yX5_angle ∈ lw_tbl := List.mem_of_getElem? (i := 818) (by decide +kernel)
theorem ws_X5_angle : Cond.selects RX5 yX5_angle yX5_angle ∈ lw_tbl := List.mem_of_getElem? (i := 819) (by decide +kernel)
theorem wc_X5_angle : Cond.code yX5_angle cX5_angle 2 (some .int) ∈ lw_tbl := List.mem_of_getElem? (i := 820) (by decide +kernel)
theorem wl_L_72 : Cond.methodLink RL 72 yX5_best ∈ lw_tbl := List.mem_of_getElem? (i := 821) (by decide +kernel)
theorem wm_X5_best : Cond.instanceMethod yX5_best ∈ lw_tbl := List.mem_of_getElem? (i := 822) (by decide +kernel)
theorem ws_X5_best : Cond.selects RX5 yX5_best yX5_best ∈ lw_tbl := List.mem_of_getElem? (i := 823) (by decide +kernel)
theorem wc_X5_best : Cond.code yX5_best cX5_best 2 (some .int) ∈ lw_tbl := List.mem_of_getElem? (i := 824) (by decide +kernel)
theorem wl_L_76 : Cond.methodLink RL 76 yX5_bar ∈ lw_tbl := List.mem_of_getElem? (i := 825) (by decide +kernel)
theorem wm_X5_bar : Cond.instanceMethod yX5_bar ∈ lw_tbl := List.mem_of_getElem? (i := 826) (by decide +kernel)
theorem ws_X5_bar : Cond.selects RX5 yX5_bar yX5_bar ∈ lw_tbl := List.mem_of_getElem? (i := 827) (by decide +kernel)
theorem wc_X5_bar : Cond.code yX5_bar cX5_bar 6 (some .int) ∈ lw_tbl := List.mem_of_getElem? (i := 828) (by decide +kernel)
theorem wl_X5_166 : Cond.methodLink RX5 166 yX5_bits ∈ lw_tbl := List.mem_of_getElem? (i := 829) (by decide +kernel)
theorem wt_X5_bits : Cond.static yX5_bits ∈ lw_tbl := List.mem_of_getElem? (i := 830) (by decide +kernel)
theorem wc_X5_bits : Cond.code yX5_bits cX5_bits 3 (some .int) ∈ lw_tbl := List.mem_of_getElem? (i := 831) (by decide +kernel)
theorem wl_X5_169 : Cond.methodLink RX5 169 yX5_thirdsBar ∈ lw_tbl := List.mem_of_getElem? (i := 832) (by decide +kernel)
theorem wm_X5_thirdsBar : Cond.instanceMethod yX5_thirdsBar ∈ lw_tbl := List.mem_of_getElem? (i := 834) (by decide +kernel)
theorem wc_X5_thirdsBar : Cond.code yX5_thirdsBar cX5_thirdsBar 5 (some .boolean) ∈ lw_tbl := List.mem_of_getElem? (i := 835) (by decide +kernel)
theorem wl_X5_172 : Cond.methodLink RX5 172 yX5_postsBar ∈ lw_tbl := List.mem_of_getElem? (i := 836) (by decide +kernel)
theorem wm_X5_postsBar : Cond.instanceMethod yX5_postsBar ∈ lw_tbl := List.mem_of_getElem? (i := 838) (by decide +kernel)
theorem wc_X5_postsBar : Cond.code yX5_postsBar cX5_postsBar 9 (some .boolean) ∈ lw_tbl := List.mem_of_getElem? (i := 839) (by decide +kernel)
theorem wl_L_80 : Cond.methodLink RL 80 yX5_opposite ∈ lw_tbl := List.mem_of_getElem? (i := 840) (by decide +kernel)
theorem wm_X5_opposite : Cond.instanceMethod yX5_opposite ∈ lw_tbl := List.mem_of_getElem? (i := 841) (by decide +kernel)
theorem ws_X5_opposite : Cond.selects RX5 yX5_opposite yX5_opposite ∈ lw_tbl := List.mem_of_getElem? (i := 842) (by decide +kernel)
theorem wc_X5_opposite : Cond.code yX5_opposite cX5_opposite 3 (some .int) ∈ lw_tbl := List.mem_of_getElem? (i := 843) (by decide +kernel)
theorem wl_X5_175 : Cond.methodLink RX5 175 yX5_oppositeOf ∈ lw_tbl := List.mem_of_getElem? (i := 844) (by decide +kernel)
theorem wm_X5_oppositeOf : Cond.instanceMethod yX5_oppositeOf ∈ lw_tbl := List.mem_of_getElem? (i := 846) (by decide +kernel)
theorem wc_X5_oppositeOf : Cond.code yX5_oppositeOf cX5_oppositeOf 6 (some .int) ∈ lw_tbl := List.mem_of_getElem? (i := 847) (by decide +kernel)
theorem wl_L_84 : Cond.methodLink RL 84 yX5_fit ∈ lw_tbl := List.mem_of_getElem? (i := 848) (by decide +kernel)
theorem wm_X5_fit : Cond.instanceMethod yX5_fit ∈ lw_tbl := List.mem_of_getElem? (i := 849) (by decide +kernel)
theorem ws_X5_fit : Cond.selects RX5 yX5_fit yX5_fit ∈ lw_tbl := List.mem_of_getElem? (i := 850) (by decide +kernel)
theorem wc_X5_fit : Cond.code yX5_fit cX5_fit 4 (some .int) ∈ lw_tbl := List.mem_of_getElem? (i := 851) (by decide +kernel)
theorem xl_X3_28 : xLinkS RX3 28 yJ7_fill_53178 cJ7_fill_53178 4 none 2 := ⟨wl_X3_28, wt_J7_fill_53178, wi_J7, wc_J7_fill_53178, ⟨by decide +kernel, by decide +kernel, by decide +kernel⟩⟩
theorem xl_L_13 : xLinkV RL 13 yX4_posts cX4_posts 3 (some .int) 1 := ⟨wl_L_13, wm_X4_posts, ws_X4_posts, wi_X4, wc_X4_posts, ⟨by decide +kernel, by decide +kernel, by decide +kernel⟩⟩
theorem xl_X4_46 : xLinkV RX4 46 yX3_postCount cX3_postCount 1 (some .int) 0 := ⟨wl_X4_46, wm_X3_postCount, ws_X3_postCount, wi_X3, wc_X3_postCount, ⟨by decide +kernel, by decide +kernel, by decide +kernel⟩⟩
theorem xl_X4_50 : xLinkV RX4 50 yX3_beginAnew cX3_beginAnew 2 none 1 := ⟨wl_X4_50, wm_X3_beginAnew, ws_X3_beginAnew, wi_X3, wc_X3_beginAnew, ⟨by decide +kernel, by decide +kernel, by decide +kernel⟩⟩
theorem xl_X3_34 : xLinkV RX3 34 yX3_drawArrows cX3_drawArrows 5 none 0 := ⟨wl_X3_34, wm_X3_drawArrows, ws_X3_drawArrows, wi_X3, wc_X3_drawArrows, ⟨by decide +kernel, by decide +kernel, by decide +kernel⟩⟩
theorem xl_X4_54 : xLinkV RX4 54 yX0_forgetAll cX0_forgetAll 1 none 0 := ⟨wl_X4_54, wm_X0_forgetAll, ws_X0_forgetAll, wi_X0, wc_X0_forgetAll, ⟨by decide +kernel, by decide +kernel, by decide +kernel⟩⟩
theorem xl_X4_57 : xLinkV RX4 57 yX2_forgetRow cX2_forgetRow 1 none 0 := ⟨wl_X4_57, wm_X2_forgetRow, ws_X2_forgetRow, wi_X2, wc_X2_forgetRow, ⟨by decide +kernel, by decide +kernel, by decide +kernel⟩⟩
theorem xl_L_18 : xLinkV RL 18 yX4_third cX4_third 5 (some .int) 3 := ⟨wl_L_18, wm_X4_third, ws_X4_third, wi_X4, wc_X4_third, ⟨by decide +kernel, by decide +kernel, by decide +kernel⟩⟩
theorem xl_X4_60 : xLinkV RX4 60 yX3_areUnlike cX3_areUnlike 3 (some .boolean) 2 := ⟨wl_X4_60, wm_X3_areUnlike, ws_X3_areUnlike, wi_X3, wc_X3_areUnlike, ⟨by decide +kernel, by decide +kernel, by decide +kernel⟩⟩
theorem xl_X3_51 : xLinkV RX3 51 yX3_hasPost cX3_hasPost 2 (some .boolean) 1 := ⟨wl_X3_51, wm_X3_hasPost, ws_X3_hasPost, wi_X3, wc_X3_hasPost, ⟨by decide +kernel, by decide +kernel, by decide +kernel⟩⟩
theorem xl_X4_64 : xLinkV RX4 64 yX3_thirdCount cX3_thirdCount 1 (some .int) 0 := ⟨wl_X4_64, wm_X3_thirdCount, ws_X3_thirdCount, wi_X3, wc_X3_thirdCount, ⟨by decide +kernel, by decide +kernel, by decide +kernel⟩⟩
theorem xl_X4_67 : xLinkV RX4 67 yX3_hasArrow cX3_hasArrow 3 (some .boolean) 2 := ⟨wl_X4_67, wm_X3_hasArrow, ws_X3_hasArrow, wi_X3, wc_X3_hasArrow, ⟨by decide +kernel, by decide +kernel, by decide +kernel⟩⟩
theorem xl_X3_55 : xLinkV RX3 55 yX3_thirdWith cX3_thirdWith 3 (some .int) 2 := ⟨wl_X3_55, wm_X3_thirdWith, ws_X3_thirdWith, wi_X3, wc_X3_thirdWith, ⟨by decide +kernel, by decide +kernel, by decide +kernel⟩⟩
theorem xl_X4_70 : xLinkV RX4 70 yX0_begin cX0_begin 2 none 0 := ⟨wl_X4_70, wm_X0_begin, ws_X0_begin, wi_X0, wc_X0_begin, ⟨by decide +kernel, by decide +kernel, by decide +kernel⟩⟩
theorem xl_X0_28 : xLinkS RX0 28 yX0_dropOldest cX0_dropOldest 1 none 1 := ⟨wl_X0_28, wt_X0_dropOldest, wi_X0, wc_X0_dropOldest, ⟨by decide +kernel, by decide +kernel, by decide +kernel⟩⟩
theorem xl_X0_32 : xLinkV RX0 32 yX0_note cX0_note 6 none 4 := ⟨wl_X0_32, wm_X0_note, ws_X0_note, wi_X0, wc_X0_note, ⟨by decide +kernel, by decide +kernel, by decide +kernel⟩⟩
theorem xl_X4_73 : xLinkS RX4 73 yX3_pack cX3_pack 3 (some .int) 3 := ⟨wl_X4_73, wt_X3_pack, wi_X3, wc_X3_pack, ⟨by decide +kernel, by decide +kernel, by decide +kernel⟩⟩
theorem xl_X4_77 : xLinkV RX4 77 yX0_note cX0_note 6 none 4 := ⟨wl_X4_77, wm_X0_note, ws_X0_note, wi_X0, wc_X0_note, ⟨by decide +kernel, by decide +kernel, by decide +kernel⟩⟩
theorem xl_X4_81 : xLinkV RX4 81 yX4_goForward cX4_goForward 1 none 0 := ⟨wl_X4_81, wm_X4_goForward, ws_X4_goForward, wi_X4, wc_X4_goForward, ⟨by decide +kernel, by decide +kernel, by decide +kernel⟩⟩
theorem xl_X4_173 : xLinkV RX4 173 yX0_forward cX0_forward 2 none 1 := ⟨wl_X4_173, wm_X0_forward, ws_X0_forward, wi_X0, wc_X0_forward, ⟨by decide +kernel, by decide +kernel, by decide +kernel⟩⟩
theorem xl_X0_36 : xLinkV RX0 36 yX0_putAll cX0_putAll 5 none 2 := ⟨wl_X0_36, wm_X0_putAll, ws_X0_putAll, wi_X0, wc_X0_putAll, ⟨by decide +kernel, by decide +kernel, by decide +kernel⟩⟩
theorem xl_X0_40 : xLinkV RX0 40 yX3_put cX3_put 3 none 2 := ⟨wl_X0_40, wm_X3_put, ws_X3_put, wi_X3, wc_X3_put, ⟨by decide +kernel, by decide +kernel, by decide +kernel⟩⟩
theorem xl_X0_46 : xLinkV RX0 46 yX3_drawArrows cX3_drawArrows 5 none 0 := ⟨wl_X0_46, wm_X3_drawArrows, ws_X3_drawArrows, wi_X3, wc_X3_drawArrows, ⟨by decide +kernel, by decide +kernel, by decide +kernel⟩⟩
theorem xl_L_23 : xLinkV RL 23 yX4_at cX4_at 2 (some .int) 1 := ⟨wl_L_23, wm_X4_at, ws_X4_at, wi_X4, wc_X4_at, ⟨by decide +kernel, by decide +kernel, by decide +kernel⟩⟩
theorem xl_X4_84 : xLinkV RX4 84 yX3_hasCorner cX3_hasCorner 2 (some .boolean) 1 := ⟨wl_X4_84, wm_X3_hasCorner, ws_X3_hasCorner, wi_X3, wc_X3_hasCorner, ⟨by decide +kernel, by decide +kernel, by decide +kernel⟩⟩
theorem xl_X3_47 : xLinkV RX3 47 yX3_cornerCount cX3_cornerCount 1 (some .int) 0 := ⟨wl_X3_47, wm_X3_cornerCount, ws_X3_cornerCount, wi_X3, wc_X3_cornerCount, ⟨by decide +kernel, by decide +kernel, by decide +kernel⟩⟩
theorem xl_X4_88 : xLinkV RX4 88 yX3_postOf cX3_postOf 2 (some .int) 1 := ⟨wl_X4_88, wm_X3_postOf, ws_X3_postOf, wi_X3, wc_X3_postOf, ⟨by decide +kernel, by decide +kernel, by decide +kernel⟩⟩
theorem xl_L_27 : xLinkV RL 27 yX4_side cX4_side 3 (some .int) 2 := ⟨wl_L_27, wm_X4_side, ws_X4_side, wi_X4, wc_X4_side, ⟨by decide +kernel, by decide +kernel, by decide +kernel⟩⟩
theorem xl_X4_92 : xLinkV RX4 92 yX3_thirdsAtSide cX3_thirdsAtSide 3 (some .int) 2 := ⟨wl_X4_92, wm_X3_thirdsAtSide, ws_X3_thirdsAtSide, wi_X3, wc_X3_thirdsAtSide, ⟨by decide +kernel, by decide +kernel, by decide +kernel⟩⟩
theorem xl_X3_58 : xLinkV RX3 58 yX3_hasArrow cX3_hasArrow 3 (some .boolean) 2 := ⟨wl_X3_58, wm_X3_hasArrow, ws_X3_hasArrow, wi_X3, wc_X3_hasArrow, ⟨by decide +kernel, by decide +kernel, by decide +kernel⟩⟩
theorem xl_L_32 : xLinkV RL 32 yX4_arrow cX4_arrow 3 (some .int) 2 := ⟨wl_L_32, wm_X4_arrow, ws_X4_arrow, wi_X4, wc_X4_arrow, ⟨by decide +kernel, by decide +kernel, by decide +kernel⟩⟩
theorem xl_X4_96 : xLinkV RX4 96 yX3_thirdWith cX3_thirdWith 3 (some .int) 2 := ⟨wl_X4_96, wm_X3_thirdWith, ws_X3_thirdWith, wi_X3, wc_X3_thirdWith, ⟨by decide +kernel, by decide +kernel, by decide +kernel⟩⟩
theorem xl_L_36 : xLinkV RL 36 yX4_turn cX4_turn 7 (some .int) 2 := ⟨wl_L_36, wm_X4_turn, ws_X4_turn, wi_X4, wc_X4_turn, ⟨by decide +kernel, by decide +kernel, by decide +kernel⟩⟩
theorem xl_X4_99 : xLinkV RX4 99 yX3_isSide cX3_isSide 3 (some .boolean) 2 := ⟨wl_X4_99, wm_X3_isSide, ws_X3_isSide, wi_X3, wc_X3_isSide, ⟨by decide +kernel, by decide +kernel, by decide +kernel⟩⟩
theorem xl_X3_62 : xLinkV RX3 62 yX3_areUnlike cX3_areUnlike 3 (some .boolean) 2 := ⟨wl_X3_62, wm_X3_areUnlike, ws_X3_areUnlike, wi_X3, wc_X3_areUnlike, ⟨by decide +kernel, by decide +kernel, by decide +kernel⟩⟩
theorem xl_X3_65 : xLinkV RX3 65 yX3_thirdsAtSide cX3_thirdsAtSide 3 (some .int) 2 := ⟨wl_X3_65, wm_X3_thirdsAtSide, ws_X3_thirdsAtSide, wi_X3, wc_X3_thirdsAtSide, ⟨by decide +kernel, by decide +kernel, by decide +kernel⟩⟩
theorem xl_X4_102 : xLinkV RX4 102 yX3_cornerOpposite cX3_cornerOpposite 6 (some .int) 3 := ⟨wl_X4_102, wm_X3_cornerOpposite, ws_X3_cornerOpposite, wi_X3, wc_X3_cornerOpposite, ⟨by decide +kernel, by decide +kernel, by decide +kernel⟩⟩
theorem xl_X4_105 : xLinkV RX4 105 yX3_packed cX3_packed 2 (some .int) 1 := ⟨wl_X4_105, wm_X3_packed, ws_X3_packed, wi_X3, wc_X3_packed, ⟨by decide +kernel, by decide +kernel, by decide +kernel⟩⟩
theorem xl_X3_37 : xLinkS RX3 37 yX3_pack cX3_pack 3 (some .int) 3 := ⟨wl_X3_37, wt_X3_pack, wi_X3, wc_X3_pack, ⟨by decide +kernel, by decide +kernel, by decide +kernel⟩⟩
theorem xl_L_40 : xLinkV RL 40 yX4_about cX4_about 3 (some .int) 2 := ⟨wl_L_40, wm_X4_about, ws_X4_about, wi_X4, wc_X4_about, ⟨by decide +kernel, by decide +kernel, by decide +kernel⟩⟩
theorem xl_X4_108 : xLinkV RX4 108 yX3_hasPost cX3_hasPost 2 (some .boolean) 1 := ⟨wl_X4_108, wm_X3_hasPost, ws_X3_hasPost, wi_X3, wc_X3_hasPost, ⟨by decide +kernel, by decide +kernel, by decide +kernel⟩⟩
theorem xl_X4_111 : xLinkV RX4 111 yX3_cornersAt cX3_cornersAt 4 (some .int) 1 := ⟨wl_X4_111, wm_X3_cornersAt, ws_X3_cornersAt, wi_X3, wc_X3_cornersAt, ⟨by decide +kernel, by decide +kernel, by decide +kernel⟩⟩
theorem xl_X4_114 : xLinkV RX4 114 yX3_sidesAt cX3_sidesAt 5 (some .int) 2 := ⟨wl_X4_114, wm_X3_sidesAt, ws_X3_sidesAt, wi_X3, wc_X3_sidesAt, ⟨by decide +kernel, by decide +kernel, by decide +kernel⟩⟩
theorem xl_X4_117 : xLinkV RX4 117 yX3_isFreeOfRim cX3_isFreeOfRim 2 (some .boolean) 1 := ⟨wl_X4_117, wm_X3_isFreeOfRim, ws_X3_isFreeOfRim, wi_X3, wc_X3_isFreeOfRim, ⟨by decide +kernel, by decide +kernel, by decide +kernel⟩⟩
theorem xl_X3_71 : xLinkV RX3 71 yX3_cornersAt cX3_cornersAt 4 (some .int) 1 := ⟨wl_X3_71, wm_X3_cornersAt, ws_X3_cornersAt, wi_X3, wc_X3_cornersAt, ⟨by decide +kernel, by decide +kernel, by decide +kernel⟩⟩
theorem xl_X3_68 : xLinkV RX3 68 yX3_sidesAt cX3_sidesAt 5 (some .int) 2 := ⟨wl_X3_68, wm_X3_sidesAt, ws_X3_sidesAt, wi_X3, wc_X3_sidesAt, ⟨by decide +kernel, by decide +kernel, by decide +kernel⟩⟩
theorem xl_X4_120 : xLinkV RX4 120 yX3_isRound cX3_isRound 3 (some .boolean) 1 := ⟨wl_X4_120, wm_X3_isRound, ws_X3_isRound, wi_X3, wc_X3_isRound, ⟨by decide +kernel, by decide +kernel, by decide +kernel⟩⟩
theorem xl_X3_75 : xLinkV RX3 75 yX3_thirdsAt cX3_thirdsAt 4 (some .int) 1 := ⟨wl_X3_75, wm_X3_thirdsAt, ws_X3_thirdsAt, wi_X3, wc_X3_thirdsAt, ⟨by decide +kernel, by decide +kernel, by decide +kernel⟩⟩
theorem xl_X3_87 : xLinkV RX3 87 yX3_bitOf cX3_bitOf 3 (some .int) 2 := ⟨wl_X3_87, wm_X3_bitOf, ws_X3_bitOf, wi_X3, wc_X3_bitOf, ⟨by decide +kernel, by decide +kernel, by decide +kernel⟩⟩
theorem xl_X3_78 : xLinkV RX3 78 yX3_hangingWith cX3_hangingWith 7 (some .int) 2 := ⟨wl_X3_78, wm_X3_hangingWith, ws_X3_hangingWith, wi_X3, wc_X3_hangingWith, ⟨by decide +kernel, by decide +kernel, by decide +kernel⟩⟩
theorem xl_X3_90 : xLinkV RX3 90 yX3_widened cX3_widened 6 (some .int) 2 := ⟨wl_X3_90, wm_X3_widened, ws_X3_widened, wi_X3, wc_X3_widened, ⟨by decide +kernel, by decide +kernel, by decide +kernel⟩⟩
theorem xl_X4_123 : xLinkV RX4 123 yX4_sumOrNone cX4_sumOrNone 3 (some .int) 1 := ⟨wl_X4_123, wm_X4_sumOrNone, ws_X4_sumOrNone, wi_X4, wc_X4_sumOrNone, ⟨by decide +kernel, by decide +kernel, by decide +kernel⟩⟩
theorem xl_X4_144 : xLinkV RX4 144 yX3_sumOf cX3_sumOf 2 (some .int) 1 := ⟨wl_X4_144, wm_X3_sumOf, ws_X3_sumOf, wi_X3, wc_X3_sumOf, ⟨by decide +kernel, by decide +kernel, by decide +kernel⟩⟩
theorem xl_X4_126 : xLinkV RX4 126 yX2_findRow cX2_findRow 4 (some .boolean) 2 := ⟨wl_X4_126, wm_X2_findRow, ws_X2_findRow, wi_X2, wc_X2_findRow, ⟨by decide +kernel, by decide +kernel, by decide +kernel⟩⟩
theorem xl_X2_45 : xLinkV RX2 45 yX2_findAny cX2_findAny 5 (some .boolean) 2 := ⟨wl_X2_45, wm_X2_findAny, ws_X2_findAny, wi_X2, wc_X2_findAny, ⟨by decide +kernel, by decide +kernel, by decide +kernel⟩⟩
theorem xl_X2_56 : xLinkV RX2 56 yX2_begin cX2_begin 5 none 2 := ⟨wl_X2_56, wm_X2_begin, ws_X2_begin, wi_X2, wc_X2_begin, ⟨by decide +kernel, by decide +kernel, by decide +kernel⟩⟩
theorem xl_X2_66 : xLinkV RX2 66 yX3_cornerCount cX3_cornerCount 1 (some .int) 0 := ⟨wl_X2_66, wm_X3_cornerCount, ws_X3_cornerCount, wi_X3, wc_X3_cornerCount, ⟨by decide +kernel, by decide +kernel, by decide +kernel⟩⟩
theorem xl_X2_39 : xLinkV RX2 39 yX3_postOf cX3_postOf 2 (some .int) 1 := ⟨wl_X2_39, wm_X3_postOf, ws_X3_postOf, wi_X3, wc_X3_postOf, ⟨by decide +kernel, by decide +kernel, by decide +kernel⟩⟩
theorem xl_X2_76 : xLinkV RX2 76 yX3_isTold cX3_isTold 2 (some .boolean) 1 := ⟨wl_X2_76, wm_X3_isTold, ws_X3_isTold, wi_X3, wc_X3_isTold, ⟨by decide +kernel, by decide +kernel, by decide +kernel⟩⟩
theorem xl_X2_60 : xLinkV RX2 60 yX2_weigh cX2_weigh 3 none 1 := ⟨wl_X2_60, wm_X2_weigh, ws_X2_weigh, wi_X2, wc_X2_weigh, ⟨by decide +kernel, by decide +kernel, by decide +kernel⟩⟩
theorem xl_X2_80 : xLinkS RX2 80 yJ7_fill_53178 cJ7_fill_53178 4 none 2 := ⟨wl_X2_80, wt_J7_fill_53178, wi_J7, wc_J7_fill_53178, ⟨by decide +kernel, by decide +kernel, by decide +kernel⟩⟩
theorem xl_X2_86 : xLinkV RX2 86 yX3_postCount cX3_postCount 1 (some .int) 0 := ⟨wl_X2_86, wm_X3_postCount, ws_X3_postCount, wi_X3, wc_X3_postCount, ⟨by decide +kernel, by decide +kernel, by decide +kernel⟩⟩
theorem xl_X2_89 : xLinkV RX2 89 yX3_sumOf cX3_sumOf 2 (some .int) 1 := ⟨wl_X2_89, wm_X3_sumOf, ws_X3_sumOf, wi_X3, wc_X3_sumOf, ⟨by decide +kernel, by decide +kernel, by decide +kernel⟩⟩
theorem xl_X2_92 : xLinkV RX2 92 yX3_allSums cX3_allSums 3 (some .int) 0 := ⟨wl_X2_92, wm_X3_allSums, ws_X3_allSums, wi_X3, wc_X3_allSums, ⟨by decide +kernel, by decide +kernel, by decide +kernel⟩⟩
theorem xl_X3_84 : xLinkV RX3 84 yX3_isTold cX3_isTold 2 (some .boolean) 1 := ⟨wl_X3_84, wm_X3_isTold, ws_X3_isTold, wi_X3, wc_X3_isTold, ⟨by decide +kernel, by decide +kernel, by decide +kernel⟩⟩
theorem xl_X2_95 : xLinkV RX2 95 yX3_thirdCount cX3_thirdCount 1 (some .int) 0 := ⟨wl_X2_95, wm_X3_thirdCount, ws_X3_thirdCount, wi_X3, wc_X3_thirdCount, ⟨by decide +kernel, by decide +kernel, by decide +kernel⟩⟩
theorem xl_X2_63 : xLinkV RX2 63 yX2_level cX2_level 5 none 2 := ⟨wl_X2_63, wm_X2_level, ws_X2_level, wi_X2, wc_X2_level, ⟨by decide +kernel, by decide +kernel, by decide +kernel⟩⟩
theorem xl_X2_105 : xLinkV RX2 105 yX2_push cX2_push 7 (some .int) 3 := ⟨wl_X2_105, wm_X2_push, ws_X2_push, wi_X2, wc_X2_push, ⟨by decide +kernel, by decide +kernel, by decide +kernel⟩⟩
theorem xl_X2_109 : xLinkV RX2 109 yX2_reaches cX2_reaches 6 (some .boolean) 2 := ⟨wl_X2_109, wm_X2_reaches, ws_X2_reaches, wi_X2, wc_X2_reaches, ⟨by decide +kernel, by decide +kernel, by decide +kernel⟩⟩
theorem xl_X2_115 : xLinkV RX2 115 yX2_seeFromThird cX2_seeFromThird 7 (some .int) 2 := ⟨wl_X2_115, wm_X2_seeFromThird, ws_X2_seeFromThird, wi_X2, wc_X2_seeFromThird, ⟨by decide +kernel, by decide +kernel, by decide +kernel⟩⟩
theorem xl_X2_118 : xLinkV RX2 118 yX2_seeFromPost cX2_seeFromPost 6 (some .int) 2 := ⟨wl_X2_118, wm_X2_seeFromPost, ws_X2_seeFromPost, wi_X2, wc_X2_seeFromPost, ⟨by decide +kernel, by decide +kernel, by decide +kernel⟩⟩
theorem xl_X2_112 : xLinkV RX2 112 yX2_nodeBefore cX2_nodeBefore 3 (some .int) 1 := ⟨wl_X2_112, wm_X2_nodeBefore, ws_X2_nodeBefore, wi_X2, wc_X2_nodeBefore, ⟨by decide +kernel, by decide +kernel, by decide +kernel⟩⟩
theorem xl_X2_52 : xLinkV RX2 52 yX2_sink cX2_sink 4 none 1 := ⟨wl_X2_52, wm_X2_sink, ws_X2_sink, wi_X2, wc_X2_sink, ⟨by decide +kernel, by decide +kernel, by decide +kernel⟩⟩
theorem xl_X4_129 : xLinkV RX4 129 yX2_givenAt cX2_givenAt 4 (some .int) 1 := ⟨wl_X4_129, wm_X2_givenAt, ws_X2_givenAt, wi_X2, wc_X2_givenAt, ⟨by decide +kernel, by decide +kernel, by decide +kernel⟩⟩
theorem xl_L_44 : xLinkV RL 44 yX4_told cX4_told 2 (some .int) 1 := ⟨wl_L_44, wm_X4_told, ws_X4_told, wi_X4, wc_X4_told, ⟨by decide +kernel, by decide +kernel, by decide +kernel⟩⟩
theorem xl_X4_132 : xLinkV RX4 132 yX3_sidesWith cX3_sidesWith 4 (some .int) 1 := ⟨wl_X4_132, wm_X3_sidesWith, ws_X3_sidesWith, wi_X3, wc_X3_sidesWith, ⟨by decide +kernel, by decide +kernel, by decide +kernel⟩⟩
theorem xl_X4_135 : xLinkV RX4 135 yX3_character cX3_character 3 (some .int) 0 := ⟨wl_X4_135, wm_X3_character, ws_X3_character, wi_X3, wc_X3_character, ⟨by decide +kernel, by decide +kernel, by decide +kernel⟩⟩
theorem xl_X3_81 : xLinkV RX3 81 yX3_sidesWith cX3_sidesWith 4 (some .int) 1 := ⟨wl_X3_81, wm_X3_sidesWith, ws_X3_sidesWith, wi_X3, wc_X3_sidesWith, ⟨by decide +kernel, by decide +kernel, by decide +kernel⟩⟩
theorem xl_X4_138 : xLinkV RX4 138 yX3_pieces cX3_pieces 4 (some .int) 0 := ⟨wl_X4_138, wm_X3_pieces, ws_X3_pieces, wi_X3, wc_X3_pieces, ⟨by decide +kernel, by decide +kernel, by decide +kernel⟩⟩
theorem xl_X4_141 : xLinkV RX4 141 yX3_allSums cX3_allSums 3 (some .int) 0 := ⟨wl_X4_141, wm_X3_allSums, ws_X3_allSums, wi_X3, wc_X3_allSums, ⟨by decide +kernel, by decide +kernel, by decide +kernel⟩⟩
theorem xl_L_48 : xLinkV RL 48 yX4_straight cX4_straight 3 (some .int) 1 := ⟨wl_L_48, wm_X4_straight, ws_X4_straight, wi_X4, wc_X4_straight, ⟨by decide +kernel, by decide +kernel, by decide +kernel⟩⟩
theorem xl_L_52 : xLinkV RL 52 yX4_least cX4_least 3 (some .int) 1 := ⟨wl_L_52, wm_X4_least, ws_X4_least, wi_X4, wc_X4_least, ⟨by decide +kernel, by decide +kernel, by decide +kernel⟩⟩
theorem xl_L_56 : xLinkV RL 56 yX4_tell cX4_tell 4 (some .int) 2 := ⟨wl_L_56, wm_X4_tell, ws_X4_tell, wi_X4, wc_X4_tell, ⟨by decide +kernel, by decide +kernel, by decide +kernel⟩⟩
theorem xl_L_60 : xLinkV RL 60 yX4_can cX4_can 1 (some .int) 0 := ⟨wl_L_60, wm_X4_can, ws_X4_can, wi_X4, wc_X4_can, ⟨by decide +kernel, by decide +kernel, by decide +kernel⟩⟩
theorem xl_L_65 : xLinkV RL 65 yX4_angle cX4_angle 2 (some .int) 1 := ⟨wl_L_65, wm_X4_angle, ws_X4_angle, wi_X4, wc_X4_angle, ⟨by decide +kernel, by decide +kernel, by decide +kernel⟩⟩
theorem xl_X4_147 : xLinkV RX4 147 yX2_given cX2_given 2 (some .int) 1 := ⟨wl_X4_147, wm_X2_given, ws_X2_given, wi_X2, wc_X2_given, ⟨by decide +kernel, by decide +kernel, by decide +kernel⟩⟩
theorem xl_L_69 : xLinkV RL 69 yX4_best cX4_best 5 (some .int) 0 := ⟨wl_L_69, wm_X4_best, ws_X4_best, wi_X4, wc_X4_best, ⟨by decide +kernel, by decide +kernel, by decide +kernel⟩⟩
theorem xl_X4_155 : xLinkV RX4 155 yX2_findAny cX2_findAny 5 (some .boolean) 2 := ⟨wl_X4_155, wm_X2_findAny, ws_X2_findAny, wi_X2, wc_X2_findAny, ⟨by decide +kernel, by decide +kernel, by decide +kernel⟩⟩
theorem xl_L_73 : xLinkV RL 73 yX4_bar cX4_bar 2 (some .int) 1 := ⟨wl_L_73, wm_X4_bar, ws_X4_bar, wi_X4, wc_X4_bar, ⟨by decide +kernel, by decide +kernel, by decide +kernel⟩⟩
theorem xl_X4_158 : xLinkV RX4 158 yX1_fewest cX1_fewest 8 (some .int) 3 := ⟨wl_X4_158, wm_X1_fewest, ws_X1_fewest, wi_X1, wc_X1_fewest, ⟨by decide +kernel, by decide +kernel, by decide +kernel⟩⟩
theorem xl_X1_32 : xLinkV RX1 32 yX1_lookAtPosts cX1_lookAtPosts 6 none 1 := ⟨wl_X1_32, wm_X1_lookAtPosts, ws_X1_lookAtPosts, wi_X1, wc_X1_lookAtPosts, ⟨by decide +kernel, by decide +kernel, by decide +kernel⟩⟩
theorem xl_X1_56 : xLinkV RX1 56 yX3_postCount cX3_postCount 1 (some .int) 0 := ⟨wl_X1_56, wm_X3_postCount, ws_X3_postCount, wi_X3, wc_X3_postCount, ⟨by decide +kernel, by decide +kernel, by decide +kernel⟩⟩
theorem xl_X1_61 : xLinkV RX1 61 yX3_sumOf cX3_sumOf 2 (some .int) 1 := ⟨wl_X1_61, wm_X3_sumOf, ws_X3_sumOf, wi_X3, wc_X3_sumOf, ⟨by decide +kernel, by decide +kernel, by decide +kernel⟩⟩
theorem xl_X1_64 : xLinkV RX1 64 yX3_cornersAt cX3_cornersAt 4 (some .int) 1 := ⟨wl_X1_64, wm_X3_cornersAt, ws_X3_cornersAt, wi_X3, wc_X3_cornersAt, ⟨by decide +kernel, by decide +kernel, by decide +kernel⟩⟩
theorem xl_X1_67 : xLinkV RX1 67 yX3_isTold cX3_isTold 2 (some .boolean) 1 := ⟨wl_X1_67, wm_X3_isTold, ws_X3_isTold, wi_X3, wc_X3_isTold, ⟨by decide +kernel, by decide +kernel, by decide +kernel⟩⟩
theorem xl_X1_36 : xLinkV RX1 36 yX1_lookAtThirds cX1_lookAtThirds 5 none 0 := ⟨wl_X1_36, wm_X1_lookAtThirds, ws_X1_lookAtThirds, wi_X1, wc_X1_lookAtThirds, ⟨by decide +kernel, by decide +kernel, by decide +kernel⟩⟩
theorem xl_X1_71 : xLinkV RX1 71 yX3_thirdCount cX3_thirdCount 1 (some .int) 0 := ⟨wl_X1_71, wm_X3_thirdCount, ws_X3_thirdCount, wi_X3, wc_X3_thirdCount, ⟨by decide +kernel, by decide +kernel, by decide +kernel⟩⟩
theorem xl_X1_74 : xLinkV RX1 74 yX3_postOf cX3_postOf 2 (some .int) 1 := ⟨wl_X1_74, wm_X3_postOf, ws_X3_postOf, wi_X3, wc_X3_postOf, ⟨by decide +kernel, by decide +kernel, by decide +kernel⟩⟩
theorem xl_X1_39 : xLinkV RX1 39 yX1_thirdsAtToldPosts cX1_thirdsAtToldPosts 3 (some .int) 0 := ⟨wl_X1_39, wm_X1_thirdsAtToldPosts, ws_X1_thirdsAtToldPosts, wi_X1, wc_X1_thirdsAtToldPosts, ⟨by decide +kernel, by decide +kernel, by decide +kernel⟩⟩
theorem xl_X1_46 : xLinkS RX1 46 yJ6_bitCount_0f7a4 cJ6_bitCount_0f7a4 1 (some .int) 1 := ⟨wl_X1_46, wt_J6_bitCount_0f7a4, wi_J6, wc_J6_bitCount_0f7a4, ⟨by decide +kernel, by decide +kernel, by decide +kernel⟩⟩
theorem xl_X1_52 : xLinkV RX1 52 yX1_isBar cX1_isBar 3 (some .boolean) 2 := ⟨wl_X1_52, wm_X1_isBar, ws_X1_isBar, wi_X1, wc_X1_isBar, ⟨by decide +kernel, by decide +kernel, by decide +kernel⟩⟩
theorem xl_X1_77 : xLinkV RX1 77 yX1_roomFor cX1_roomFor 3 (some .int) 1 := ⟨wl_X1_77, wm_X1_roomFor, ws_X1_roomFor, wi_X1, wc_X1_roomFor, ⟨by decide +kernel, by decide +kernel, by decide +kernel⟩⟩
theorem xl_X1_80 : xLinkV RX1 80 yX1_mostOf cX1_mostOf 5 (some .int) 1 := ⟨wl_X1_80, wm_X1_mostOf, ws_X1_mostOf, wi_X1, wc_X1_mostOf, ⟨by decide +kernel, by decide +kernel, by decide +kernel⟩⟩
theorem xl_X1_83 : xLinkV RX1 83 yX1_leastOf cX1_leastOf 5 (some .int) 1 := ⟨wl_X1_83, wm_X1_leastOf, ws_X1_leastOf, wi_X1, wc_X1_leastOf, ⟨by decide +kernel, by decide +kernel, by decide +kernel⟩⟩
theorem xl_L_77 : xLinkV RL 77 yX4_opposite cX4_opposite 3 (some .int) 2 := ⟨wl_L_77, wm_X4_opposite, ws_X4_opposite, wi_X4, wc_X4_opposite, ⟨by decide +kernel, by decide +kernel, by decide +kernel⟩⟩
theorem xl_X4_161 : xLinkV RX4 161 yX4_givenOpposite cX4_givenOpposite 4 (some .int) 2 := ⟨wl_X4_161, wm_X4_givenOpposite, ws_X4_givenOpposite, wi_X4, wc_X4_givenOpposite, ⟨by decide +kernel, by decide +kernel, by decide +kernel⟩⟩
theorem xl_L_81 : xLinkV RL 81 yX4_fit cX4_fit 4 (some .int) 0 := ⟨wl_L_81, wm_X4_fit, ws_X4_fit, wi_X4, wc_X4_fit, ⟨by decide +kernel, by decide +kernel, by decide +kernel⟩⟩
theorem xl_L_85 : xLinkV RL 85 yX4_undo cX4_undo 1 (some .int) 0 := ⟨wl_L_85, wm_X4_undo, ws_X4_undo, wi_X4, wc_X4_undo, ⟨by decide +kernel, by decide +kernel, by decide +kernel⟩⟩
theorem xl_X4_164 : xLinkV RX4 164 yX0_behind cX0_behind 1 (some .int) 0 := ⟨wl_X4_164, wm_X0_behind, ws_X0_behind, wi_X0, wc_X0_behind, ⟨by decide +kernel, by decide +kernel, by decide +kernel⟩⟩
theorem xl_X4_167 : xLinkV RX4 167 yX0_backward cX0_backward 2 none 1 := ⟨wl_X4_167, wm_X0_backward, ws_X0_backward, wi_X0, wc_X0_backward, ⟨by decide +kernel, by decide +kernel, by decide +kernel⟩⟩
theorem xl_L_89 : xLinkV RL 89 yX4_redo cX4_redo 1 (some .int) 0 := ⟨wl_L_89, wm_X4_redo, ws_X4_redo, wi_X4, wc_X4_redo, ⟨by decide +kernel, by decide +kernel, by decide +kernel⟩⟩
theorem xl_X4_170 : xLinkV RX4 170 yX0_ahead cX0_ahead 1 (some .int) 0 := ⟨wl_X4_170, wm_X0_ahead, ws_X0_ahead, wi_X0, wc_X0_ahead, ⟨by decide +kernel, by decide +kernel, by decide +kernel⟩⟩
theorem xl_X5_50 : xLinkV RX5 50 yX5_begin cX5_begin 2 none 0 := ⟨wl_X5_50, wm_X5_begin, ws_X5_begin, wi_X5, wc_X5_begin, ⟨by decide +kernel, by decide +kernel, by decide +kernel⟩⟩
theorem xl_L_17 : xLinkV RL 17 yX5_posts cX5_posts 3 (some .int) 1 := ⟨wl_L_17, wm_X5_posts, ws_X5_posts, wi_X5, wc_X5_posts, ⟨by decide +kernel, by decide +kernel, by decide +kernel⟩⟩
theorem xl_X5_66 : xLinkS RX5 66 yX5_in cX5_in 3 (some .boolean) 3 := ⟨wl_X5_66, wt_X5_in, wi_X5, wc_X5_in, ⟨by decide +kernel, by decide +kernel, by decide +kernel⟩⟩
theorem xl_L_22 : xLinkV RL 22 yX5_third cX5_third 4 (some .int) 3 := ⟨wl_L_22, wm_X5_third, ws_X5_third, wi_X5, wc_X5_third, ⟨by decide +kernel, by decide +kernel, by decide +kernel⟩⟩
theorem xl_X5_78 : xLinkV RX5 78 yX5_arePair cX5_arePair 3 (some .boolean) 2 := ⟨wl_X5_78, wm_X5_arePair, ws_X5_arePair, wi_X5, wc_X5_arePair, ⟨by decide +kernel, by decide +kernel, by decide +kernel⟩⟩
theorem xl_X5_70 : xLinkV RX5 70 yX5_isPost cX5_isPost 2 (some .boolean) 1 := ⟨wl_X5_70, wm_X5_isPost, ws_X5_isPost, wi_X5, wc_X5_isPost, ⟨by decide +kernel, by decide +kernel, by decide +kernel⟩⟩
theorem xl_X5_74 : xLinkV RX5 74 yX5_arrowOf cX5_arrowOf 4 (some .int) 2 := ⟨wl_X5_74, wm_X5_arrowOf, ws_X5_arrowOf, wi_X5, wc_X5_arrowOf, ⟨by decide +kernel, by decide +kernel, by decide +kernel⟩⟩
theorem xl_X5_82 : xLinkV RX5 82 yX5_put cX5_put 5 none 4 := ⟨wl_X5_82, wm_X5_put, ws_X5_put, wi_X5, wc_X5_put, ⟨by decide +kernel, by decide +kernel, by decide +kernel⟩⟩
theorem xl_X5_86 : xLinkV RX5 86 yX5_write cX5_write 5 none 3 := ⟨wl_X5_86, wm_X5_write, ws_X5_write, wi_X5, wc_X5_write, ⟨by decide +kernel, by decide +kernel, by decide +kernel⟩⟩
theorem xl_X5_90 : xLinkV RX5 90 yX5_keepThirds cX5_keepThirds 5 none 3 := ⟨wl_X5_90, wm_X5_keepThirds, ws_X5_keepThirds, wi_X5, wc_X5_keepThirds, ⟨by decide +kernel, by decide +kernel, by decide +kernel⟩⟩
theorem xl_L_26 : xLinkV RL 26 yX5_at cX5_at 2 (some .int) 1 := ⟨wl_L_26, wm_X5_at, ws_X5_at, wi_X5, wc_X5_at, ⟨by decide +kernel, by decide +kernel, by decide +kernel⟩⟩
theorem xl_L_31 : xLinkV RL 31 yX5_side cX5_side 3 (some .int) 2 := ⟨wl_L_31, wm_X5_side, ws_X5_side, wi_X5, wc_X5_side, ⟨by decide +kernel, by decide +kernel, by decide +kernel⟩⟩
theorem xl_X5_93 : xLinkV RX5 93 yX5_sideOf cX5_sideOf 3 (some .int) 2 := ⟨wl_X5_93, wm_X5_sideOf, ws_X5_sideOf, wi_X5, wc_X5_sideOf, ⟨by decide +kernel, by decide +kernel, by decide +kernel⟩⟩
theorem xl_L_35 : xLinkV RL 35 yX5_arrow cX5_arrow 3 (some .int) 2 := ⟨wl_L_35, wm_X5_arrow, ws_X5_arrow, wi_X5, wc_X5_arrow, ⟨by decide +kernel, by decide +kernel, by decide +kernel⟩⟩
theorem xl_L_39 : xLinkV RL 39 yX5_turn cX5_turn 7 (some .int) 2 := ⟨wl_L_39, wm_X5_turn, ws_X5_turn, wi_X5, wc_X5_turn, ⟨by decide +kernel, by decide +kernel, by decide +kernel⟩⟩
theorem xl_X5_96 : xLinkV RX5 96 yX5_oppositeCorner cX5_oppositeCorner 5 (some .int) 3 := ⟨wl_X5_96, wm_X5_oppositeCorner, ws_X5_oppositeCorner, wi_X5, wc_X5_oppositeCorner, ⟨by decide +kernel, by decide +kernel, by decide +kernel⟩⟩
theorem xl_L_59 : xLinkV RL 59 yX5_tell cX5_tell 4 (some .int) 2 := ⟨wl_L_59, wm_X5_tell, ws_X5_tell, wi_X5, wc_X5_tell, ⟨by decide +kernel, by decide +kernel, by decide +kernel⟩⟩
theorem xl_L_88 : xLinkV RL 88 yX5_undo cX5_undo 2 (some .int) 0 := ⟨wl_L_88, wm_X5_undo, ws_X5_undo, wi_X5, wc_X5_undo, ⟨by decide +kernel, by decide +kernel, by decide +kernel⟩⟩
theorem xl_X5_100 : xLinkV RX5 100 yX5_takeThirds cX5_takeThirds 5 none 3 := ⟨wl_X5_100, wm_X5_takeThirds, ws_X5_takeThirds, wi_X5, wc_X5_takeThirds, ⟨by decide +kernel, by decide +kernel, by decide +kernel⟩⟩
theorem xl_L_92 : xLinkV RL 92 yX5_redo cX5_redo 2 (some .int) 0 := ⟨wl_L_92, wm_X5_redo, ws_X5_redo, wi_X5, wc_X5_redo, ⟨by decide +kernel, by decide +kernel, by decide +kernel⟩⟩
theorem xl_L_43 : xLinkV RL 43 yX5_about cX5_about 3 (some .int) 2 := ⟨wl_L_43, wm_X5_about, ws_X5_about, wi_X5, wc_X5_about, ⟨by decide +kernel, by decide +kernel, by decide +kernel⟩⟩
theorem xl_X5_113 : xLinkV RX5 113 yX5_cornersAt cX5_cornersAt 4 (some .int) 1 := ⟨wl_X5_113, wm_X5_cornersAt, ws_X5_cornersAt, wi_X5, wc_X5_cornersAt, ⟨by decide +kernel, by decide +kernel, by decide +kernel⟩⟩
theorem xl_X5_117 : xLinkV RX5 117 yX5_sidesAt cX5_sidesAt 6 (some .int) 3 := ⟨wl_X5_117, wm_X5_sidesAt, ws_X5_sidesAt, wi_X5, wc_X5_sidesAt, ⟨by decide +kernel, by decide +kernel, by decide +kernel⟩⟩
theorem xl_X5_120 : xLinkV RX5 120 yX5_pieces cX5_pieces 7 (some .int) 1 := ⟨wl_X5_120, wm_X5_pieces, ws_X5_pieces, wi_X5, wc_X5_pieces, ⟨by decide +kernel, by decide +kernel, by decide +kernel⟩⟩
theorem xl_X5_103 : xLinkV RX5 103 yX5_hasPost cX5_hasPost 3 (some .boolean) 2 := ⟨wl_X5_103, wm_X5_hasPost, ws_X5_hasPost, wi_X5, wc_X5_hasPost, ⟨by decide +kernel, by decide +kernel, by decide +kernel⟩⟩
theorem xl_X5_106 : xLinkV RX5 106 yX5_hang cX5_hang 8 (some .boolean) 3 := ⟨wl_X5_106, wm_X5_hang, ws_X5_hang, wi_X5, wc_X5_hang, ⟨by decide +kernel, by decide +kernel, by decide +kernel⟩⟩
theorem xl_X5_123 : xLinkV RX5 123 yX5_sumOfRow cX5_sumOfRow 4 (some .int) 1 := ⟨wl_X5_123, wm_X5_sumOfRow, ws_X5_sumOfRow, wi_X5, wc_X5_sumOfRow, ⟨by decide +kernel, by decide +kernel, by decide +kernel⟩⟩
theorem xl_X5_109 : xLinkV RX5 109 yX5_hasRow cX5_hasRow 2 (some .boolean) 0 := ⟨wl_X5_109, wm_X5_hasRow, ws_X5_hasRow, wi_X5, wc_X5_hasRow, ⟨by decide +kernel, by decide +kernel, by decide +kernel⟩⟩
theorem xl_X5_156 : xLinkV RX5 156 yX5_canWith cX5_canWith 4 (some .boolean) 1 := ⟨wl_X5_156, wm_X5_canWith, ws_X5_canWith, wi_X5, wc_X5_canWith, ⟨by decide +kernel, by decide +kernel, by decide +kernel⟩⟩
theorem xl_X5_152 : xLinkV RX5 152 yX5_fill cX5_fill 6 none 1 := ⟨wl_X5_152, wm_X5_fill, ws_X5_fill, wi_X5, wc_X5_fill, ⟨by decide +kernel, by decide +kernel, by decide +kernel⟩⟩
theorem xl_X5_135 : xLinkV RX5 135 yX5_clearWays cX5_clearWays 2 none 0 := ⟨wl_X5_135, wm_X5_clearWays, ws_X5_clearWays, wi_X5, wc_X5_clearWays, ⟨by decide +kernel, by decide +kernel, by decide +kernel⟩⟩
theorem xl_X5_132 : xLinkV RX5 132 yX5_come cX5_come 4 none 3 := ⟨wl_X5_132, wm_X5_come, ws_X5_come, wi_X5, wc_X5_come, ⟨by decide +kernel, by decide +kernel, by decide +kernel⟩⟩
theorem xl_X5_138 : xLinkV RX5 138 yX5_spread cX5_spread 6 none 2 := ⟨wl_X5_138, wm_X5_spread, ws_X5_spread, wi_X5, wc_X5_spread, ⟨by decide +kernel, by decide +kernel, by decide +kernel⟩⟩
theorem xl_X5_142 : xLinkV RX5 142 yX5_wanting cX5_wanting 4 (some .int) 1 := ⟨wl_X5_142, wm_X5_wanting, ws_X5_wanting, wi_X5, wc_X5_wanting, ⟨by decide +kernel, by decide +kernel, by decide +kernel⟩⟩
theorem xl_X5_146 : xLinkV RX5 146 yX5_wayRoom cX5_wayRoom 5 (some .int) 2 := ⟨wl_X5_146, wm_X5_wayRoom, ws_X5_wayRoom, wi_X5, wc_X5_wayRoom, ⟨by decide +kernel, by decide +kernel, by decide +kernel⟩⟩
theorem xl_X5_149 : xLinkV RX5 149 yX5_goWay cX5_goWay 4 (some .int) 2 := ⟨wl_X5_149, wm_X5_goWay, ws_X5_goWay, wi_X5, wc_X5_goWay, ⟨by decide +kernel, by decide +kernel, by decide +kernel⟩⟩
theorem xl_X5_162 : xLinkV RX5 162 yX5_lower cX5_lower 6 none 1 := ⟨wl_X5_162, wm_X5_lower, ws_X5_lower, wi_X5, wc_X5_lower, ⟨by decide +kernel, by decide +kernel, by decide +kernel⟩⟩
theorem xl_L_47 : xLinkV RL 47 yX5_told cX5_told 5 (some .int) 1 := ⟨wl_L_47, wm_X5_told, ws_X5_told, wi_X5, wc_X5_told, ⟨by decide +kernel, by decide +kernel, by decide +kernel⟩⟩
theorem xl_X5_126 : xLinkV RX5 126 yX5_sides cX5_sides 5 (some .int) 1 := ⟨wl_X5_126, wm_X5_sides, ws_X5_sides, wi_X5, wc_X5_sides, ⟨by decide +kernel, by decide +kernel, by decide +kernel⟩⟩
theorem xl_L_51 : xLinkV RL 51 yX5_straight cX5_straight 3 (some .int) 1 := ⟨wl_L_51, wm_X5_straight, ws_X5_straight, wi_X5, wc_X5_straight, ⟨by decide +kernel, by decide +kernel, by decide +kernel⟩⟩
theorem xl_L_55 : xLinkV RL 55 yX5_least cX5_least 3 (some .int) 1 := ⟨wl_L_55, wm_X5_least, ws_X5_least, wi_X5, wc_X5_least, ⟨by decide +kernel, by decide +kernel, by decide +kernel⟩⟩
theorem xl_L_64 : xLinkV RL 64 yX5_can cX5_can 1 (some .int) 0 := ⟨wl_L_64, wm_X5_can, ws_X5_can, wi_X5, wc_X5_can, ⟨by decide +kernel, by decide +kernel, by decide +kernel⟩⟩
theorem xl_L_68 : xLinkV RL 68 yX5_angle cX5_angle 2 (some .int) 1 := ⟨wl_L_68, wm_X5_angle, ws_X5_angle, wi_X5, wc_X5_angle, ⟨by decide +kernel, by decide +kernel, by decide +kernel⟩⟩
theorem xl_L_72 : xLinkV RL 72 yX5_best cX5_best 2 (some .int) 0 := ⟨wl_L_72, wm_X5_best, ws_X5_best, wi_X5, wc_X5_best, ⟨by decide +kernel, by decide +kernel, by decide +kernel⟩⟩
theorem xl_L_76 : xLinkV RL 76 yX5_bar cX5_bar 6 (some .int) 1 := ⟨wl_L_76, wm_X5_bar, ws_X5_bar, wi_X5, wc_X5_bar, ⟨by decide +kernel, by decide +kernel, by decide +kernel⟩⟩
theorem xl_X5_166 : xLinkS RX5 166 yX5_bits cX5_bits 3 (some .int) 1 := ⟨wl_X5_166, wt_X5_bits, wi_X5, wc_X5_bits, ⟨by decide +kernel, by decide +kernel, by decide +kernel⟩⟩
theorem xl_X5_169 : xLinkV RX5 169 yX5_thirdsBar cX5_thirdsBar 5 (some .boolean) 1 := ⟨wl_X5_169, wm_X5_thirdsBar, ws_X5_thirdsBar, wi_X5, wc_X5_thirdsBar, ⟨by decide +kernel, by decide +kernel, by decide +kernel⟩⟩
theorem xl_X5_172 : xLinkV RX5 172 yX5_postsBar cX5_postsBar 9 (some .boolean) 2 := ⟨wl_X5_172, wm_X5_postsBar, ws_X5_postsBar, wi_X5, wc_X5_postsBar, ⟨by decide +kernel, by decide +kernel, by decide +kernel⟩⟩
theorem xl_L_80 : xLinkV RL 80 yX5_opposite cX5_opposite 3 (some .int) 2 := ⟨wl_L_80, wm_X5_opposite, ws_X5_opposite, wi_X5, wc_X5_opposite, ⟨by decide +kernel, by decide +kernel, by decide +kernel⟩⟩
theorem xl_X5_175 : xLinkV RX5 175 yX5_oppositeOf cX5_oppositeOf 6 (some .int) 2 := ⟨wl_X5_175, wm_X5_oppositeOf, ws_X5_oppositeOf, wi_X5, wc_X5_oppositeOf, ⟨by decide +kernel, by decide +kernel, by decide +kernel⟩⟩
theorem xl_L_84 : xLinkV RL 84 yX5_fit cX5_fit 4 (some .int) 0 := ⟨wl_L_84, wm_X5_fit, ws_X5_fit, wi_X5, wc_X5_fit, ⟨by decide +kernel, by decide +kernel, by decide +kernel⟩⟩

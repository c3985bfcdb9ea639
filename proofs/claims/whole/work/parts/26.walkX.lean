abbrev po_X_told (cA : ClassId) (a : Nat → Nat) (xStraight xLeast nPosts nThirds : Int) (nCorners nSums nArrows : Nat → Int) (aBehind aAhead : Int) (aCells aBefore aAfter : Nat → Int) (gCorners gLowest gFirst gFresh gThere : Int) (gRow gPlaces gOver gVia gQueue : Nat → Int) (bTold bStraight bLeast : Int) (bPostsOf bSets bTotals : Nat → Int) (Q : Int → Prop) : Int32 → va_W → Prop := fun r w => ∃ z, r = J z ∧ w = wX cA a xStraight xLeast nPosts nThirds nCorners nSums nArrows aBehind aAhead aCells aBefore aAfter gCorners gLowest gFirst gFresh gThere gRow gPlaces gOver gVia gQueue bTold bStraight bLeast bPostsOf bSets bTotals ∧ Q z
set_option maxRecDepth 4000 in
theorem c_X_told {l : Launch} {D : va_G} {cA : ClassId} {a : Nat → Nat} {sz : Nat} {xStraight xLeast nPosts nThirds : Int} {nCorners nSums nArrows : Nat → Int} {aBehind aAhead : Int} {aCells aBefore aAfter : Nat → Int} {gCorners gLowest gFirst gFresh gThere : Int} {gRow gPlaces gOver gVia gQueue : Nat → Int} {bTold bStraight bLeast : Int} {bPostsOf bSets bTotals : Nat → Int} {x1 : Int} {Q : Int → Prop} (h : wp_X_told x1 xStraight xLeast nPosts nThirds nCorners nSums nArrows Q) : Met l yX4_told (.code yX4_told cX4_told 2 (some .int) :: lw_ok) rm_X_told (xPre D cA sz [.ref (a 0), .int (J x1)] (wX cA a xStraight xLeast nPosts nThirds nCorners nSums nArrows aBehind aAhead aCells aBefore aAfter gCorners gLowest gFirst gFresh gThere gRow gPlaces gOver gVia gQueue bTold bStraight bLeast bPostsOf bSets bTotals)) (va_Qi (po_X_told cA a xStraight xLeast nPosts nThirds nCorners nSums nArrows aBehind aAhead aCells aBefore aAfter gCorners gLowest gFirst gFresh gThere gRow gPlaces gOver gVia gQueue bTold bStraight bLeast bPostsOf bSets bTotals Q) (xB D cA (va_A (wX cA a xStraight xLeast nPosts nThirds nCorners nSums nArrows aBehind aAhead aCells aBefore aAfter gCorners gLowest gFirst gFresh gThere gRow gPlaces gOver gVia gQueue bTold bStraight bLeast bPostsOf bSets bTotals) sz)) (va_A (wX cA a xStraight xLeast nPosts nThirds nCorners nSums nArrows aBehind aAhead aCells aBefore aAfter gCorners gLowest gFirst gFresh gThere gRow gPlaces gOver gVia gQueue bTold bStraight bLeast bPostsOf bSets bTotals) sz)) 0 0 (va_A (wX cA a xStraight xLeast nPosts nThirds nCorners nSums nArrows aBehind aAhead aCells aBefore aAfter gCorners gLowest gFirst gFresh gThere gRow gPlaces gOver gVia gQueue bTold bStraight bLeast bPostsOf bSets bTotals) sz) := by
  refine xmet_i (by decide) (Nat.le_of_ble_eq_true rfl) ?_
  intro p e s m args below meth c A ls C hH hl
  have C : XC p s m args meth c cX4_told 2 RX4 (some .int) D cA A := C
  have hl : lv_has ls 2 [(0, .ref (a 0)), (1, .int (J x1))] := hl
  unfold wp_X_told at h
  refine j_iload_n C dX4_told_0 (lv_at hl 1 rfl) ?_
  obtain ⟨g_1, h⟩ := h
  by_cases c_20 : x1 = 0
  · have h := h.1 c_20
    refine j_tableIn C 52 g_1 dX4_told_1 (by rw [c_20]; decide) (by rw [c_20]; decide) (by rw [c_20]; rfl) (by decide) ?_
    refine j_aload_n C dX4_told_52 (lv_at hl 0 rfl) ?_
    refine xg_X4_net C hH dX4_told_53 ?_
    refine xcallV_i (As := []) (rest := []) (q0 := 1) C hH (fun sz => c_N_postCount h) xl_X4_46 rfl rfl ⟨rfl, rfl⟩ ⟨Nat.le_of_ble_eq_true rfl, Nat.le_of_ble_eq_true rfl⟩ hl.1 rfl rfl (Nat.le_of_ble_eq_true rfl) dX4_told_56 (fun r_ w_ H locs hw hH => ?_)
    obtain ⟨z_3, rfl, rfl, h⟩ := hw
    exact j_iret C hH ⟨_, rfl, rfl, h⟩ dX4_told_59
  have h := h.2
  by_cases c_21 : x1 = 1
  · have h := h.1 c_21
    refine j_tableIn C 60 g_1 dX4_told_1 (by rw [c_21]; decide) (by rw [c_21]; decide) (by rw [c_21]; rfl) (by decide) ?_
    refine j_aload_n C dX4_told_60 (lv_at hl 0 rfl) ?_
    refine xg_X4_net C hH dX4_told_61 ?_
    refine xcallV_i (As := []) (rest := []) (q0 := 1) C hH (fun sz => c_N_thirdCount h) xl_X4_64 rfl rfl ⟨rfl, rfl⟩ ⟨Nat.le_of_ble_eq_true rfl, Nat.le_of_ble_eq_true rfl⟩ hl.1 rfl rfl (Nat.le_of_ble_eq_true rfl) dX4_told_64 (fun r_ w_ H locs hw hH => ?_)
    obtain ⟨z_4, rfl, rfl, h⟩ := hw
    exact j_iret C hH ⟨_, rfl, rfl, h⟩ dX4_told_67
  have h := h.2
  by_cases c_22 : x1 = 2
  · have h := h.1 c_22
    refine j_tableIn C 68 g_1 dX4_told_1 (by rw [c_22]; decide) (by rw [c_22]; decide) (by rw [c_22]; rfl) (by decide) ?_
    refine j_aload_n C dX4_told_68 (lv_at hl 0 rfl) ?_
    refine xg_X4_net C hH dX4_told_69 ?_
    refine j_iconst C dX4_told_72 ?_
    refine xcallV_i (As := [.int (J 1)]) (rest := []) (q0 := 1) C hH (fun sz => c_N_sidesWith h) xl_X4_132 rfl rfl ⟨rfl, rfl⟩ ⟨Nat.le_of_ble_eq_true rfl, Nat.le_of_ble_eq_true rfl⟩ hl.1 rfl rfl (Nat.le_of_ble_eq_true rfl) dX4_told_73 (fun r_ w_ H locs hw hH => ?_)
    obtain ⟨z_5, rfl, rfl, h⟩ := hw
    refine j_aload_n C dX4_told_76 (lv_at hl 0 rfl) ?_
    refine xg_X4_net C hH dX4_told_77 ?_
    refine j_iconst C dX4_told_80 ?_
    refine xcallV_i (As := [.int (J 2)]) (rest := [.int (J z_5)]) (q0 := 1) C hH (fun sz => c_N_sidesWith h) xl_X4_132 rfl rfl ⟨rfl, rfl⟩ ⟨Nat.le_of_ble_eq_true rfl, Nat.le_of_ble_eq_true rfl⟩ hl.1 rfl rfl (Nat.le_of_ble_eq_true rfl) dX4_told_81 (fun r_ w_ H locs hw hH => ?_)
    obtain ⟨z_6, rfl, rfl, h⟩ := hw
    refine j_iadd C dX4_told_84 ?_
    exact j_iret C hH ⟨_, rfl, rfl, h⟩ dX4_told_85
  have h := h.2
  by_cases c_23 : x1 = 3
  · have h := h.1 c_23
    refine j_tableIn C 86 g_1 dX4_told_1 (by rw [c_23]; decide) (by rw [c_23]; decide) (by rw [c_23]; rfl) (by decide) ?_
    refine j_aload_n C dX4_told_86 (lv_at hl 0 rfl) ?_
    refine xg_X4_net C hH dX4_told_87 ?_
    refine j_iconst C dX4_told_90 ?_
    refine xcallV_i (As := [.int (J 1)]) (rest := []) (q0 := 1) C hH (fun sz => c_N_sidesWith h) xl_X4_132 rfl rfl ⟨rfl, rfl⟩ ⟨Nat.le_of_ble_eq_true rfl, Nat.le_of_ble_eq_true rfl⟩ hl.1 rfl rfl (Nat.le_of_ble_eq_true rfl) dX4_told_91 (fun r_ w_ H locs hw hH => ?_)
    obtain ⟨z_7, rfl, rfl, h⟩ := hw
    exact j_iret C hH ⟨_, rfl, rfl, h⟩ dX4_told_94
  have h := h.2
  by_cases c_24 : x1 = 4
  · have h := h.1 c_24
    refine j_tableIn C 95 g_1 dX4_told_1 (by rw [c_24]; decide) (by rw [c_24]; decide) (by rw [c_24]; rfl) (by decide) ?_
    refine j_aload_n C dX4_told_95 (lv_at hl 0 rfl) ?_
    refine xg_X4_net C hH dX4_told_96 ?_
    refine xcallV_i (As := []) (rest := []) (q0 := 1) C hH (fun sz => c_N_character h) xl_X4_135 rfl rfl ⟨rfl, rfl⟩ ⟨Nat.le_of_ble_eq_true rfl, Nat.le_of_ble_eq_true rfl⟩ hl.1 rfl rfl (Nat.le_of_ble_eq_true rfl) dX4_told_99 (fun r_ w_ H locs hw hH => ?_)
    obtain ⟨z_8, rfl, rfl, h⟩ := hw
    exact j_iret C hH ⟨_, rfl, rfl, h⟩ dX4_told_102
  have h := h.2
  by_cases c_25 : x1 = 5
  · have h := h.1 c_25
    refine j_tableIn C 103 g_1 dX4_told_1 (by rw [c_25]; decide) (by rw [c_25]; decide) (by rw [c_25]; rfl) (by decide) ?_
    refine j_aload_n C dX4_told_103 (lv_at hl 0 rfl) ?_
    refine xg_X4_net C hH dX4_told_104 ?_
    refine xcallV_i (As := []) (rest := []) (q0 := 1) C hH (fun sz => c_N_pieces h) xl_X4_138 rfl rfl ⟨rfl, rfl⟩ ⟨Nat.le_of_ble_eq_true rfl, Nat.le_of_ble_eq_true rfl⟩ hl.1 rfl rfl (Nat.le_of_ble_eq_true rfl) dX4_told_107 (fun r_ w_ H locs hw hH => ?_)
    obtain ⟨z_9, rfl, rfl, h⟩ := hw
    exact j_iret C hH ⟨_, rfl, rfl, h⟩ dX4_told_110
  have h := h.2
  by_cases c_26 : x1 = 6
  · have h := h.1 c_26
    refine j_tableIn C 111 g_1 dX4_told_1 (by rw [c_26]; decide) (by rw [c_26]; decide) (by rw [c_26]; rfl) (by decide) ?_
    refine j_aload_n C dX4_told_111 (lv_at hl 0 rfl) ?_
    refine xg_X4_straightIs C hH dX4_told_112 ?_
    exact j_iret C hH ⟨_, rfl, rfl, h⟩ dX4_told_115
  have h := h.2
  by_cases c_27 : x1 = 7
  · have h := h.1 c_27
    refine j_tableIn C 116 g_1 dX4_told_1 (by rw [c_27]; decide) (by rw [c_27]; decide) (by rw [c_27]; rfl) (by decide) ?_
    refine j_aload_n C dX4_told_116 (lv_at hl 0 rfl) ?_
    refine xg_X4_leastIs C hH dX4_told_117 ?_
    exact j_iret C hH ⟨_, rfl, rfl, h⟩ dX4_told_120
  have h := h.2
  by_cases c_28 : x1 = 8
  · have h := h.1 c_28
    refine j_tableIn C 121 g_1 dX4_told_1 (by rw [c_28]; decide) (by rw [c_28]; decide) (by rw [c_28]; rfl) (by decide) ?_
    refine j_aload_n C dX4_told_121 (lv_at hl 0 rfl) ?_
    refine xg_X4_net C hH dX4_told_122 ?_
    refine xcallV_i (As := []) (rest := []) (q0 := 1) C hH (fun sz => c_N_allSums h) xl_X4_141 rfl rfl ⟨rfl, rfl⟩ ⟨Nat.le_of_ble_eq_true rfl, Nat.le_of_ble_eq_true rfl⟩ hl.1 rfl rfl (Nat.le_of_ble_eq_true rfl) dX4_told_125 (fun r_ w_ H locs hw hH => ?_)
    obtain ⟨z_10, rfl, rfl, h⟩ := hw
    exact j_iret C hH ⟨_, rfl, rfl, h⟩ dX4_told_128
  have h := h.2
  have h := h ⟨c_20, c_21, c_22, c_23, c_24, c_25, c_26, c_27, c_28⟩
  refine j_tableOut C 129 g_1 dX4_told_1 (jout_8 c_20 c_21 c_22 c_23 c_24 c_25 c_26 c_27 c_28) (by decide) ?_
  refine j_sipush C (by decide +kernel) dX4_told_129 ?_
  exact j_iret C hH ⟨_, rfl, rfl, h⟩ dX4_told_132
abbrev po_X_straight (cA : ClassId) (a : Nat → Nat) (xLeast nPosts nThirds : Int) (nCorners nSums nArrows : Nat → Int) (aBehind aAhead : Int) (aCells aBefore aAfter : Nat → Int) (gCorners gLowest gFirst gThere : Int) (gRow gPlaces gOver gVia gQueue : Nat → Int) (bTold bStraight bLeast : Int) (bPostsOf bSets bTotals : Nat → Int) (Q : Int → Int → Int → Prop) : Int32 → va_W → Prop := fun r w => ∃ z xStraight' gFresh', r = J z ∧ w = wX cA a xStraight' xLeast nPosts nThirds nCorners nSums nArrows aBehind aAhead aCells aBefore aAfter gCorners gLowest gFirst gFresh' gThere gRow gPlaces gOver gVia gQueue bTold bStraight bLeast bPostsOf bSets bTotals ∧ Q z xStraight' gFresh'
set_option maxRecDepth 4000 in
theorem c_X_straight {l : Launch} {D : va_G} {cA : ClassId} {a : Nat → Nat} {sz : Nat} {xStraight xLeast nPosts nThirds : Int} {nCorners nSums nArrows : Nat → Int} {aBehind aAhead : Int} {aCells aBefore aAfter : Nat → Int} {gCorners gLowest gFirst gFresh gThere : Int} {gRow gPlaces gOver gVia gQueue : Nat → Int} {bTold bStraight bLeast : Int} {bPostsOf bSets bTotals : Nat → Int} {x1 : Int} {Q : Int → Int → Int → Prop} (h : wp_X_straight x1 xStraight xLeast gFresh Q) : Met l yX4_straight (.code yX4_straight cX4_straight 3 (some .int) :: lw_ok) rm_X_straight (xPre D cA sz [.ref (a 0), .int (J x1)] (wX cA a xStraight xLeast nPosts nThirds nCorners nSums nArrows aBehind aAhead aCells aBefore aAfter gCorners gLowest gFirst gFresh gThere gRow gPlaces gOver gVia gQueue bTold bStraight bLeast bPostsOf bSets bTotals)) (va_Qi (po_X_straight cA a xLeast nPosts nThirds nCorners nSums nArrows aBehind aAhead aCells aBefore aAfter gCorners gLowest gFirst gThere gRow gPlaces gOver gVia gQueue bTold bStraight bLeast bPostsOf bSets bTotals Q) (xB D cA (va_A (wX cA a xStraight xLeast nPosts nThirds nCorners nSums nArrows aBehind aAhead aCells aBefore aAfter gCorners gLowest gFirst gFresh gThere gRow gPlaces gOver gVia gQueue bTold bStraight bLeast bPostsOf bSets bTotals) sz)) (va_A (wX cA a xStraight xLeast nPosts nThirds nCorners nSums nArrows aBehind aAhead aCells aBefore aAfter gCorners gLowest gFirst gFresh gThere gRow gPlaces gOver gVia gQueue bTold bStraight bLeast bPostsOf bSets bTotals) sz)) 0 0 (va_A (wX cA a xStraight xLeast nPosts nThirds nCorners nSums nArrows aBehind aAhead aCells aBefore aAfter gCorners gLowest gFirst gFresh gThere gRow gPlaces gOver gVia gQueue bTold bStraight bLeast bPostsOf bSets bTotals) sz) := by
  refine xmet_i (by decide) (Nat.le_of_ble_eq_true rfl) ?_
  intro p e s m args below meth c A ls C hH hl
  have C : XC p s m args meth c cX4_straight 3 RX4 (some .int) D cA A := C
  have hl : lv_has ls 3 [(0, .ref (a 0)), (1, .int (J x1))] := hl
  unfold wp_X_straight at h
  refine j_iload_n C dX4_straight_0 (lv_at hl 1 rfl) ?_
  refine j_bipush C (by decide +kernel) dX4_straight_1 ?_
  obtain ⟨g_1, h⟩ := h
  refine j_icmp_lt C 23 g_1 (by unfold jR; decide) dX4_straight_3 (by decide) (fun c_2 => ?_) (fun c_2 => ?_)
  · have h := h.1 c_2
    refine j_bipush C (by decide +kernel) dX4_straight_23 ?_
    exact j_iret C hH ⟨_, _, _, rfl, rfl, h⟩ dX4_straight_25
  · have h := h.2 c_2
    refine j_iload_n C dX4_straight_6 (lv_at hl 1 rfl) ?_
    refine j_sipush C (by decide +kernel) dX4_straight_7 ?_
    refine j_icmp_gt C 23 g_1 (by unfold jR; decide) dX4_straight_10 (by decide) (fun c_3 => ?_) (fun c_3 => ?_)
    · have h := h.1 c_3
      refine j_bipush C (by decide +kernel) dX4_straight_23 ?_
      exact j_iret C hH ⟨_, _, _, rfl, rfl, h⟩ dX4_straight_25
    · have h := h.2 c_3
      refine j_iconst C dX4_straight_13 ?_
      refine j_aload_n C dX4_straight_14 (lv_at hl 0 rfl) ?_
      refine xg_X4_leastIs C hH dX4_straight_15 ?_
      refine j_imul C dX4_straight_18 ?_
      refine j_iload_n C dX4_straight_19 (lv_at hl 1 rfl) ?_
      obtain ⟨g_4, h⟩ := h
      refine j_icmp_le C 26 g_4 g_1 dX4_straight_20 (by decide) (fun c_5 => ?_) (fun c_5 => ?_)
      · have h := h.1 c_5
        refine j_aload_n C dX4_straight_26 (lv_at hl 0 rfl) ?_
        refine xg_X4_straightIs C hH dX4_straight_27 ?_
        refine j_istore_n (lv' := [(2, .int (J xStraight)), (0, .ref (a 0)), (1, .int (J x1))]) C dX4_straight_30 hl (by decide) rfl (fun ls hl => ?_)
        refine j_aload_n C dX4_straight_31 (lv_at hl 1 rfl) ?_
        refine j_iload_n C dX4_straight_32 (lv_at hl 2 rfl) ?_
        refine xp_X4_straightIs C hH dX4_straight_33 (fun H locs hH => ?_)
        refine j_aload_n C dX4_straight_36 (lv_at hl 1 rfl) ?_
        refine xg_X4_giver C hH dX4_straight_37 ?_
        refine xcallV_v (As := []) (rest := []) (q0 := 9) C hH (fun sz => c_G_forgetRow h) xl_X4_57 rfl rfl ⟨rfl, rfl⟩ ⟨Nat.le_of_ble_eq_true rfl, Nat.le_of_ble_eq_true rfl⟩ hl.1 rfl rfl (Nat.le_of_ble_eq_true rfl) dX4_straight_40 (fun w_ H locs hw hH => ?_)
        obtain ⟨gFresh_6, rfl, h⟩ := hw
        refine j_iload_n C dX4_straight_43 (lv_at hl 0 rfl) ?_
        exact j_iret C hH ⟨_, _, _, rfl, rfl, h⟩ dX4_straight_44
      · have h := h.2 c_5
        refine j_bipush C (by decide +kernel) dX4_straight_23 ?_
        exact j_iret C hH ⟨_, _, _, rfl, rfl, h⟩ dX4_straight_25
abbrev po_X_least (cA : ClassId) (a : Nat → Nat) (xStraight nPosts nThirds : Int) (nCorners nSums nArrows : Nat → Int) (aBehind aAhead : Int) (aCells aBefore aAfter : Nat → Int) (gCorners gLowest gFirst gThere : Int) (gRow gPlaces gOver gVia gQueue : Nat → Int) (bTold bStraight bLeast : Int) (bPostsOf bSets bTotals : Nat → Int) (Q : Int → Int → Int → Prop) : Int32 → va_W → Prop := fun r w => ∃ z xLeast' gFresh', r = J z ∧ w = wX cA a xStraight xLeast' nPosts nThirds nCorners nSums nArrows aBehind aAhead aCells aBefore aAfter gCorners gLowest gFirst gFresh' gThere gRow gPlaces gOver gVia gQueue bTold bStraight bLeast bPostsOf bSets bTotals ∧ Q z xLeast' gFresh'
set_option maxRecDepth 4000 in
theorem c_X_least {l : Launch} {D : va_G} {cA : ClassId} {a : Nat → Nat} {sz : Nat} {xStraight xLeast nPosts nThirds : Int} {nCorners nSums nArrows : Nat → Int} {aBehind aAhead : Int} {aCells aBefore aAfter : Nat → Int} {gCorners gLowest gFirst gFresh gThere : Int} {gRow gPlaces gOver gVia gQueue : Nat → Int} {bTold bStraight bLeast : Int} {bPostsOf bSets bTotals : Nat → Int} {x1 : Int} {Q : Int → Int → Int → Prop} (h : wp_X_least x1 xStraight xLeast gFresh Q) : Met l yX4_least (.code yX4_least cX4_least 3 (some .int) :: lw_ok) rm_X_least (xPre D cA sz [.ref (a 0), .int (J x1)] (wX cA a xStraight xLeast nPosts nThirds nCorners nSums nArrows aBehind aAhead aCells aBefore aAfter gCorners gLowest gFirst gFresh gThere gRow gPlaces gOver gVia gQueue bTold bStraight bLeast bPostsOf bSets bTotals)) (va_Qi (po_X_least cA a xStraight nPosts nThirds nCorners nSums nArrows aBehind aAhead aCells aBefore aAfter gCorners gLowest gFirst gThere gRow gPlaces gOver gVia gQueue bTold bStraight bLeast bPostsOf bSets bTotals Q) (xB D cA (va_A (wX cA a xStraight xLeast nPosts nThirds nCorners nSums nArrows aBehind aAhead aCells aBefore aAfter gCorners gLowest gFirst gFresh gThere gRow gPlaces gOver gVia gQueue bTold bStraight bLeast bPostsOf bSets bTotals) sz)) (va_A (wX cA a xStraight xLeast nPosts nThirds nCorners nSums nArrows aBehind aAhead aCells aBefore aAfter gCorners gLowest gFirst gFresh gThere gRow gPlaces gOver gVia gQueue bTold bStraight bLeast bPostsOf bSets bTotals) sz)) 0 0 (va_A (wX cA a xStraight xLeast nPosts nThirds nCorners nSums nArrows aBehind aAhead aCells aBefore aAfter gCorners gLowest gFirst gFresh gThere gRow gPlaces gOver gVia gQueue bTold bStraight bLeast bPostsOf bSets bTotals) sz) := by
  refine xmet_i (by decide) (Nat.le_of_ble_eq_true rfl) ?_
  intro p e s m args below meth c A ls C hH hl
  have C : XC p s m args meth c cX4_least 3 RX4 (some .int) D cA A := C
  have hl : lv_has ls 3 [(0, .ref (a 0)), (1, .int (J x1))] := hl
  unfold wp_X_least at h
  refine j_iload_n C dX4_least_0 (lv_at hl 1 rfl) ?_
  refine j_iconst C dX4_least_1 ?_
  obtain ⟨g_1, h⟩ := h
  refine j_icmp_lt C 21 g_1 (by unfold jR; decide) dX4_least_2 (by decide) (fun c_2 => ?_) (fun c_2 => ?_)
  · have h := h.1 c_2
    refine j_bipush C (by decide +kernel) dX4_least_21 ?_
    exact j_iret C hH ⟨_, _, _, rfl, rfl, h⟩ dX4_least_23
  · have h := h.2 c_2
    refine j_iload_n C dX4_least_5 (lv_at hl 1 rfl) ?_
    refine j_bipush C (by decide +kernel) dX4_least_6 ?_
    refine j_icmp_gt C 21 g_1 (by unfold jR; decide) dX4_least_8 (by decide) (fun c_3 => ?_) (fun c_3 => ?_)
    · have h := h.1 c_3
      refine j_bipush C (by decide +kernel) dX4_least_21 ?_
      exact j_iret C hH ⟨_, _, _, rfl, rfl, h⟩ dX4_least_23
    · have h := h.2 c_3
      refine j_iconst C dX4_least_11 ?_
      refine j_iload_n C dX4_least_12 (lv_at hl 1 rfl) ?_
      refine j_imul C dX4_least_13 ?_
      refine j_aload_n C dX4_least_14 (lv_at hl 0 rfl) ?_
      refine xg_X4_straightIs C hH dX4_least_15 ?_
      obtain ⟨g_4, h⟩ := h
      obtain ⟨g_5, h⟩ := h
      refine j_icmp_le C 24 g_4 g_5 dX4_least_18 (by decide) (fun c_6 => ?_) (fun c_6 => ?_)
      · have h := h.1 c_6
        refine j_aload_n C dX4_least_24 (lv_at hl 0 rfl) ?_
        refine xg_X4_leastIs C hH dX4_least_25 ?_
        refine j_istore_n (lv' := [(2, .int (J xLeast)), (0, .ref (a 0)), (1, .int (J x1))]) C dX4_least_28 hl (by decide) rfl (fun ls hl => ?_)
        refine j_aload_n C dX4_least_29 (lv_at hl 1 rfl) ?_
        refine j_iload_n C dX4_least_30 (lv_at hl 2 rfl) ?_
        refine xp_X4_leastIs C hH dX4_least_31 (fun H locs hH => ?_)
        refine j_aload_n C dX4_least_34 (lv_at hl 1 rfl) ?_
        refine xg_X4_giver C hH dX4_least_35 ?_
        refine xcallV_v (As := []) (rest := []) (q0 := 9) C hH (fun sz => c_G_forgetRow h) xl_X4_57 rfl rfl ⟨rfl, rfl⟩ ⟨Nat.le_of_ble_eq_true rfl, Nat.le_of_ble_eq_true rfl⟩ hl.1 rfl rfl (Nat.le_of_ble_eq_true rfl) dX4_least_38 (fun w_ H locs hw hH => ?_)
        obtain ⟨gFresh_7, rfl, h⟩ := hw
        refine j_iload_n C dX4_least_41 (lv_at hl 0 rfl) ?_
        exact j_iret C hH ⟨_, _, _, rfl, rfl, h⟩ dX4_least_42
      · have h := h.2 c_6
        refine j_bipush C (by decide +kernel) dX4_least_21 ?_
        exact j_iret C hH ⟨_, _, _, rfl, rfl, h⟩ dX4_least_23
abbrev po_X_tell (cA : ClassId) (a : Nat → Nat) (xStraight xLeast nPosts gCorners gLowest gFirst gThere : Int) (gRow gPlaces gOver gVia gQueue : Nat → Int) (bTold bStraight bLeast : Int) (bPostsOf bSets bTotals : Nat → Int) (Q : Int → Int → (Nat → Int) → (Nat → Int) → (Nat → Int) → Int → Int → (Nat → Int) → (Nat → Int) → (Nat → Int) → Int → Prop) : Int32 → va_W → Prop := fun r w => ∃ z nThirds' nCorners' nSums' nArrows' aBehind' aAhead' aCells' aBefore' aAfter' gFresh', r = J z ∧ w = wX cA a xStraight xLeast nPosts nThirds' nCorners' nSums' nArrows' aBehind' aAhead' aCells' aBefore' aAfter' gCorners gLowest gFirst gFresh' gThere gRow gPlaces gOver gVia gQueue bTold bStraight bLeast bPostsOf bSets bTotals ∧ Q z nThirds' nCorners' nSums' nArrows' aBehind' aAhead' aCells' aBefore' aAfter' gFresh'
set_option maxRecDepth 4000 in
theorem c_X_tell {l : Launch} {D : va_G} {cA : ClassId} {a : Nat → Nat} {sz : Nat} {xStraight xLeast nPosts nThirds : Int} {nCorners nSums nArrows : Nat → Int} {aBehind aAhead : Int} {aCells aBefore aAfter : Nat → Int} {gCorners gLowest gFirst gFresh gThere : Int} {gRow gPlaces gOver gVia gQueue : Nat → Int} {bTold bStraight bLeast : Int} {bPostsOf bSets bTotals : Nat → Int} {x1 x2 : Int} {Q : Int → Int → (Nat → Int) → (Nat → Int) → (Nat → Int) → Int → Int → (Nat → Int) → (Nat → Int) → (Nat → Int) → Int → Prop} (h : wp_X_tell x1 x2 nPosts nThirds nCorners nSums nArrows aBehind aAhead aCells aBefore aAfter gFresh Q) : Met l yX4_tell (.code yX4_tell cX4_tell 4 (some .int) :: lw_ok) rm_X_tell (xPre D cA sz [.ref (a 0), .int (J x1), .int (J x2)] (wX cA a xStraight xLeast nPosts nThirds nCorners nSums nArrows aBehind aAhead aCells aBefore aAfter gCorners gLowest gFirst gFresh gThere gRow gPlaces gOver gVia gQueue bTold bStraight bLeast bPostsOf bSets bTotals)) (va_Qi (po_X_tell cA a xStraight xLeast nPosts gCorners gLowest gFirst gThere gRow gPlaces gOver gVia gQueue bTold bStraight bLeast bPostsOf bSets bTotals Q) (xB D cA (va_A (wX cA a xStraight xLeast nPosts nThirds nCorners nSums nArrows aBehind aAhead aCells aBefore aAfter gCorners gLowest gFirst gFresh gThere gRow gPlaces gOver gVia gQueue bTold bStraight bLeast bPostsOf bSets bTotals) sz)) (va_A (wX cA a xStraight xLeast nPosts nThirds nCorners nSums nArrows aBehind aAhead aCells aBefore aAfter gCorners gLowest gFirst gFresh gThere gRow gPlaces gOver gVia gQueue bTold bStraight bLeast bPostsOf bSets bTotals) sz)) 0 0 (va_A (wX cA a xStraight xLeast nPosts nThirds nCorners nSums nArrows aBehind aAhead aCells aBefore aAfter gCorners gLowest gFirst gFresh gThere gRow gPlaces gOver gVia gQueue bTold bStraight bLeast bPostsOf bSets bTotals) sz) := by
  refine xmet_i (by decide) (Nat.le_of_ble_eq_true rfl) ?_
  intro p e s m args below meth c A ls C hH hl
  have C : XC p s m args meth c cX4_tell 4 RX4 (some .int) D cA A := C
  have hl : lv_has ls 4 [(0, .ref (a 0)), (1, .int (J x1)), (2, .int (J x2))] := hl
  unfold wp_X_tell at h
  refine j_aload_n C dX4_tell_0 (lv_at hl 0 rfl) ?_
  refine xg_X4_net C hH dX4_tell_1 ?_
  refine j_iload_n C dX4_tell_4 (lv_at hl 1 rfl) ?_
  refine xcallV_i (As := [.int (J x1)]) (rest := []) (q0 := 1) C hH (fun sz => c_N_hasPost h) xl_X4_108 rfl rfl ⟨rfl, rfl⟩ ⟨Nat.le_of_ble_eq_true rfl, Nat.le_of_ble_eq_true rfl⟩ hl.1 rfl rfl (Nat.le_of_ble_eq_true rfl) dX4_tell_5 (fun r_ w_ H locs hw hH => ?_)
  obtain ⟨z_1, rfl, rfl, h⟩ := hw
  obtain ⟨g_2, h⟩ := h
  refine j_if_ne C 13 g_2 dX4_tell_8 (by decide) (fun c_3 => ?_) (fun c_3 => ?_)
  · have h := h.2 c_3
    refine j_iload_n C dX4_tell_13 (lv_at hl 2 rfl) ?_
    refine j_iconst C dX4_tell_14 ?_
    obtain ⟨g_4, h⟩ := h
    refine j_icmp_lt C 25 g_4 (by unfold jR; decide) dX4_tell_15 (by decide) (fun c_5 => ?_) (fun c_5 => ?_)
    · have h := h.1 c_5
      refine j_bipush C (by decide +kernel) dX4_tell_25 ?_
      exact j_iret C hH ⟨_, _, _, _, _, _, _, _, _, _, _, rfl, rfl, h⟩ dX4_tell_27
    · have h := h.2 c_5
      refine j_iload_n C dX4_tell_18 (lv_at hl 2 rfl) ?_
      refine j_sipush C (by decide +kernel) dX4_tell_19 ?_
      refine j_icmp_le C 28 g_4 (by unfold jR; decide) dX4_tell_22 (by decide) (fun c_6 => ?_) (fun c_6 => ?_)
      · have h := h.1 c_6
        refine j_aload_n C dX4_tell_28 (lv_at hl 0 rfl) ?_
        refine j_iload_n C dX4_tell_29 (lv_at hl 1 rfl) ?_
        refine xcallV_i (As := [.int (J x1)]) (rest := []) (q0 := 0) C hH (fun sz => c_X_sumOrNone h) xl_X4_123 rfl rfl ⟨rfl, rfl⟩ ⟨Nat.le_of_ble_eq_true rfl, Nat.le_of_ble_eq_true rfl⟩ hl.1 rfl rfl (Nat.le_of_ble_eq_true rfl) dX4_tell_30 (fun r_ w_ H locs hw hH => ?_)
        obtain ⟨z_7, rfl, rfl, h⟩ := hw
        refine j_istore_n (lv' := [(3, .int (J z_7)), (0, .ref (a 0)), (1, .int (J x1)), (2, .int (J x2))]) C dX4_tell_33 hl (by decide) rfl (fun ls hl => ?_)
        refine j_aload_n C dX4_tell_34 (lv_at hl 1 rfl) ?_
        refine xg_X4_acts C hH dX4_tell_35 ?_
        refine xcallV_v (As := []) (rest := []) (q0 := 5) C hH (fun sz => c_A_begin h) xl_X4_70 rfl rfl ⟨rfl, rfl⟩ ⟨Nat.le_of_ble_eq_true rfl, Nat.le_of_ble_eq_true rfl⟩ hl.1 rfl rfl (Nat.le_of_ble_eq_true rfl) dX4_tell_38 (fun w_ H locs hw hH => ?_)
        obtain ⟨aBehind_8, aAhead_9, aCells_10, aBefore_11, aAfter_12, rfl, h⟩ := hw
        refine j_aload_n C dX4_tell_41 (lv_at hl 1 rfl) ?_
        refine xg_X4_acts C hH dX4_tell_42 ?_
        refine j_iconst C dX4_tell_45 ?_
        refine j_bipush C (by decide +kernel) dX4_tell_46 ?_
        refine j_iload_n C dX4_tell_48 (lv_at hl 2 rfl) ?_
        refine j_iadd C dX4_tell_49 ?_
        refine j_aload_n C dX4_tell_50 (lv_at hl 1 rfl) ?_
        refine xg_X4_net C hH dX4_tell_51 ?_
        refine j_iload_n C dX4_tell_54 (lv_at hl 2 rfl) ?_
        refine xcallV_i (As := [.int (J x1)]) (rest := [.int (J (12 + x1)), .int (J 0), .ref (a 5)]) (q0 := 1) C hH (fun sz => c_N_sumOf h) xl_X4_144 rfl rfl ⟨rfl, rfl⟩ ⟨Nat.le_of_ble_eq_true rfl, Nat.le_of_ble_eq_true rfl⟩ hl.1 rfl rfl (Nat.le_of_ble_eq_true rfl) dX4_tell_55 (fun r_ w_ H locs hw hH => ?_)
        obtain ⟨z_13, rfl, rfl, h⟩ := hw
        refine j_iload_n C dX4_tell_58 (lv_at hl 3 rfl) ?_
        refine xcallV_v (As := [.int (J 0), .int (J (12 + x1)), .int (J z_13), .int (J x2)]) (rest := []) (q0 := 5) C hH (fun sz => c_A_note h) xl_X4_77 rfl rfl ⟨rfl, rfl⟩ ⟨Nat.le_of_ble_eq_true rfl, Nat.le_of_ble_eq_true rfl⟩ hl.1 rfl rfl (Nat.le_of_ble_eq_true rfl) dX4_tell_59 (fun w_ H locs hw hH => ?_)
        obtain ⟨aCells_14, aBefore_15, aAfter_16, rfl, h⟩ := hw
        refine j_aload_n C dX4_tell_62 (lv_at hl 1 rfl) ?_
        refine xcallV_v (As := []) (rest := []) (q0 := 0) C hH (fun sz => c_X_goForward h) xl_X4_81 rfl rfl ⟨rfl, rfl⟩ ⟨Nat.le_of_ble_eq_true rfl, Nat.le_of_ble_eq_true rfl⟩ hl.1 rfl rfl (Nat.le_of_ble_eq_true rfl) dX4_tell_63 (fun w_ H locs hw hH => ?_)
        obtain ⟨nThirds_17, nCorners_18, nSums_19, nArrows_20, aBehind_21, aAhead_22, gFresh_23, rfl, h⟩ := hw
        refine j_iload_n C dX4_tell_66 (lv_at hl 0 rfl) ?_
        exact j_iret C hH ⟨_, _, _, _, _, _, _, _, _, _, _, rfl, rfl, h⟩ dX4_tell_67
      · have h := h.2 c_6
        refine j_bipush C (by decide +kernel) dX4_tell_25 ?_
        exact j_iret C hH ⟨_, _, _, _, _, _, _, _, _, _, _, rfl, rfl, h⟩ dX4_tell_27
  · have h := h.1 c_3
    refine j_iconst C dX4_tell_11 ?_
    exact j_iret C hH ⟨_, _, _, _, _, _, _, _, _, _, _, rfl, rfl, h⟩ dX4_tell_12
abbrev po_X_can (cA : ClassId) (a : Nat → Nat) (xStraight xLeast nPosts nThirds : Int) (nCorners nSums nArrows : Nat → Int) (aBehind aAhead : Int) (aCells aBefore aAfter : Nat → Int) (bTold bStraight bLeast : Int) (bPostsOf bSets bTotals : Nat → Int) (Q : Int → Int → Int → Int → Int → Int → (Nat → Int) → (Nat → Int) → (Nat → Int) → (Nat → Int) → (Nat → Int) → Prop) : Int32 → va_W → Prop := fun r w => ∃ z gCorners' gLowest' gFirst' gFresh' gThere' gRow' gPlaces' gOver' gVia' gQueue', r = J z ∧ w = wX cA a xStraight xLeast nPosts nThirds nCorners nSums nArrows aBehind aAhead aCells aBefore aAfter gCorners' gLowest' gFirst' gFresh' gThere' gRow' gPlaces' gOver' gVia' gQueue' bTold bStraight bLeast bPostsOf bSets bTotals ∧ Q z gCorners' gLowest' gFirst' gFresh' gThere' gRow' gPlaces' gOver' gVia' gQueue'
set_option maxRecDepth 4000 in
theorem c_X_can {l : Launch} {D : va_G} {cA : ClassId} {a : Nat → Nat} {sz : Nat} {xStraight xLeast nPosts nThirds : Int} {nCorners nSums nArrows : Nat → Int} {aBehind aAhead : Int} {aCells aBefore aAfter : Nat → Int} {gCorners gLowest gFirst gFresh gThere : Int} {gRow gPlaces gOver gVia gQueue : Nat → Int} {bTold bStraight bLeast : Int} {bPostsOf bSets bTotals : Nat → Int} {Q : Int → Int → Int → Int → Int → Int → (Nat → Int) → (Nat → Int) → (Nat → Int) → (Nat → Int) → (Nat → Int) → Prop} (h : wp_X_can  xStraight xLeast nPosts nThirds nCorners nSums gCorners gLowest gFirst gFresh gThere gRow gPlaces gOver gVia gQueue Q) : Met l yX4_can (.code yX4_can cX4_can 1 (some .int) :: lw_ok) rm_X_can (xPre D cA sz [.ref (a 0)] (wX cA a xStraight xLeast nPosts nThirds nCorners nSums nArrows aBehind aAhead aCells aBefore aAfter gCorners gLowest gFirst gFresh gThere gRow gPlaces gOver gVia gQueue bTold bStraight bLeast bPostsOf bSets bTotals)) (va_Qi (po_X_can cA a xStraight xLeast nPosts nThirds nCorners nSums nArrows aBehind aAhead aCells aBefore aAfter bTold bStraight bLeast bPostsOf bSets bTotals Q) (xB D cA (va_A (wX cA a xStraight xLeast nPosts nThirds nCorners nSums nArrows aBehind aAhead aCells aBefore aAfter gCorners gLowest gFirst gFresh gThere gRow gPlaces gOver gVia gQueue bTold bStraight bLeast bPostsOf bSets bTotals) sz)) (va_A (wX cA a xStraight xLeast nPosts nThirds nCorners nSums nArrows aBehind aAhead aCells aBefore aAfter gCorners gLowest gFirst gFresh gThere gRow gPlaces gOver gVia gQueue bTold bStraight bLeast bPostsOf bSets bTotals) sz)) 0 0 (va_A (wX cA a xStraight xLeast nPosts nThirds nCorners nSums nArrows aBehind aAhead aCells aBefore aAfter gCorners gLowest gFirst gFresh gThere gRow gPlaces gOver gVia gQueue bTold bStraight bLeast bPostsOf bSets bTotals) sz) := by
  refine xmet_i (by decide) (Nat.le_of_ble_eq_true rfl) ?_
  intro p e s m args below meth c A ls C hH hl
  have C : XC p s m args meth c cX4_can 1 RX4 (some .int) D cA A := C
  have hl : lv_has ls 1 [(0, .ref (a 0))] := hl
  unfold wp_X_can at h
  refine j_aload_n C dX4_can_0 (lv_at hl 0 rfl) ?_
  refine xg_X4_giver C hH dX4_can_1 ?_
  refine j_aload_n C dX4_can_4 (lv_at hl 0 rfl) ?_
  refine xg_X4_straightIs C hH dX4_can_5 ?_
  refine j_aload_n C dX4_can_8 (lv_at hl 0 rfl) ?_
  refine xg_X4_leastIs C hH dX4_can_9 ?_
  refine xcallV_i (As := [.int (J xStraight), .int (J xLeast)]) (rest := []) (q0 := 9) C hH (fun sz => c_G_findRow h) xl_X4_126 rfl rfl ⟨rfl, rfl⟩ ⟨Nat.le_of_ble_eq_true rfl, Nat.le_of_ble_eq_true rfl⟩ hl.1 rfl rfl (Nat.le_of_ble_eq_true rfl) dX4_can_12 (fun r_ w_ H locs hw hH => ?_)
  obtain ⟨z_1, gCorners_2, gLowest_3, gFirst_4, gFresh_5, gThere_6, gRow_7, gPlaces_8, gOver_9, gVia_10, gQueue_11, rfl, rfl, h⟩ := hw
  obtain ⟨g_12, h⟩ := h
  refine j_if_eq C 22 g_12 dX4_can_15 (by decide) (fun c_13 => ?_) (fun c_13 => ?_)
  · have h := h.1 c_13
    refine j_iconst C dX4_can_22 ?_
    exact j_iret C hH ⟨_, _, _, _, _, _, _, _, _, _, _, rfl, rfl, h⟩ dX4_can_23
  · have h := h.2 c_13
    refine j_iconst C dX4_can_18 ?_
    refine j_goto C 23 dX4_can_19 (by decide) ?_
    exact j_iret C hH ⟨_, _, _, _, _, _, _, _, _, _, _, rfl, rfl, h⟩ dX4_can_23
abbrev po_X_angle (cA : ClassId) (a : Nat → Nat) (xStraight xLeast nPosts nThirds : Int) (nCorners nSums nArrows : Nat → Int) (aBehind aAhead : Int) (aCells aBefore aAfter : Nat → Int) (bTold bStraight bLeast : Int) (bPostsOf bSets bTotals : Nat → Int) (Q : Int → Int → Int → Int → Int → Int → (Nat → Int) → (Nat → Int) → (Nat → Int) → (Nat → Int) → (Nat → Int) → Prop) : Int32 → va_W → Prop := fun r w => ∃ z gCorners' gLowest' gFirst' gFresh' gThere' gRow' gPlaces' gOver' gVia' gQueue', r = J z ∧ w = wX cA a xStraight xLeast nPosts nThirds nCorners nSums nArrows aBehind aAhead aCells aBefore aAfter gCorners' gLowest' gFirst' gFresh' gThere' gRow' gPlaces' gOver' gVia' gQueue' bTold bStraight bLeast bPostsOf bSets bTotals ∧ Q z gCorners' gLowest' gFirst' gFresh' gThere' gRow' gPlaces' gOver' gVia' gQueue'
set_option maxRecDepth 4000 in
theorem c_X_angle {l : Launch} {D : va_G} {cA : ClassId} {a : Nat → Nat} {sz : Nat} {xStraight xLeast nPosts nThirds : Int} {nCorners nSums nArrows : Nat → Int} {aBehind aAhead : Int} {aCells aBefore aAfter : Nat → Int} {gCorners gLowest gFirst gFresh gThere : Int} {gRow gPlaces gOver gVia gQueue : Nat → Int} {bTold bStraight bLeast : Int} {bPostsOf bSets bTotals : Nat → Int} {x1 : Int} {Q : Int → Int → Int → Int → Int → Int → (Nat → Int) → (Nat → Int) → (Nat → Int) → (Nat → Int) → (Nat → Int) → Prop} (h : wp_X_angle x1 xStraight xLeast nPosts nThirds nCorners nSums gCorners gLowest gFirst gFresh gThere gRow gPlaces gOver gVia gQueue Q) : Met l yX4_angle (.code yX4_angle cX4_angle 2 (some .int) :: lw_ok) rm_X_angle (xPre D cA sz [.ref (a 0), .int (J x1)] (wX cA a xStraight xLeast nPosts nThirds nCorners nSums nArrows aBehind aAhead aCells aBefore aAfter gCorners gLowest gFirst gFresh gThere gRow gPlaces gOver gVia gQueue bTold bStraight bLeast bPostsOf bSets bTotals)) (va_Qi (po_X_angle cA a xStraight xLeast nPosts nThirds nCorners nSums nArrows aBehind aAhead aCells aBefore aAfter bTold bStraight bLeast bPostsOf bSets bTotals Q) (xB D cA (va_A (wX cA a xStraight xLeast nPosts nThirds nCorners nSums nArrows aBehind aAhead aCells aBefore aAfter gCorners gLowest gFirst gFresh gThere gRow gPlaces gOver gVia gQueue bTold bStraight bLeast bPostsOf bSets bTotals) sz)) (va_A (wX cA a xStraight xLeast nPosts nThirds nCorners nSums nArrows aBehind aAhead aCells aBefore aAfter gCorners gLowest gFirst gFresh gThere gRow gPlaces gOver gVia gQueue bTold bStraight bLeast bPostsOf bSets bTotals) sz)) 0 0 (va_A (wX cA a xStraight xLeast nPosts nThirds nCorners nSums nArrows aBehind aAhead aCells aBefore aAfter gCorners gLowest gFirst gFresh gThere gRow gPlaces gOver gVia gQueue bTold bStraight bLeast bPostsOf bSets bTotals) sz) := by
  refine xmet_i (by decide) (Nat.le_of_ble_eq_true rfl) ?_
  intro p e s m args below meth c A ls C hH hl
  have C : XC p s m args meth c cX4_angle 2 RX4 (some .int) D cA A := C
  have hl : lv_has ls 2 [(0, .ref (a 0)), (1, .int (J x1))] := hl
  unfold wp_X_angle at h
  refine j_aload_n C dX4_angle_0 (lv_at hl 0 rfl) ?_
  refine xg_X4_net C hH dX4_angle_1 ?_
  refine j_iload_n C dX4_angle_4 (lv_at hl 1 rfl) ?_
  refine xcallV_i (As := [.int (J x1)]) (rest := []) (q0 := 1) C hH (fun sz => c_N_hasCorner h) xl_X4_84 rfl rfl ⟨rfl, rfl⟩ ⟨Nat.le_of_ble_eq_true rfl, Nat.le_of_ble_eq_true rfl⟩ hl.1 rfl rfl (Nat.le_of_ble_eq_true rfl) dX4_angle_5 (fun r_ w_ H locs hw hH => ?_)
  obtain ⟨z_1, rfl, rfl, h⟩ := hw
  obtain ⟨g_2, h⟩ := h
  refine j_if_ne C 13 g_2 dX4_angle_8 (by decide) (fun c_3 => ?_) (fun c_3 => ?_)
  · have h := h.2 c_3
    refine j_aload_n C dX4_angle_13 (lv_at hl 0 rfl) ?_
    refine xg_X4_giver C hH dX4_angle_14 ?_
    refine j_aload_n C dX4_angle_17 (lv_at hl 0 rfl) ?_
    refine xg_X4_straightIs C hH dX4_angle_18 ?_
    refine j_aload_n C dX4_angle_21 (lv_at hl 0 rfl) ?_
    refine xg_X4_leastIs C hH dX4_angle_22 ?_
    refine xcallV_i (As := [.int (J xStraight), .int (J xLeast)]) (rest := []) (q0 := 9) C hH (fun sz => c_G_findRow h) xl_X4_126 rfl rfl ⟨rfl, rfl⟩ ⟨Nat.le_of_ble_eq_true rfl, Nat.le_of_ble_eq_true rfl⟩ hl.1 rfl rfl (Nat.le_of_ble_eq_true rfl) dX4_angle_25 (fun r_ w_ H locs hw hH => ?_)
    obtain ⟨z_4, gCorners_5, gLowest_6, gFirst_7, gFresh_8, gThere_9, gRow_10, gPlaces_11, gOver_12, gVia_13, gQueue_14, rfl, rfl, h⟩ := hw
    obtain ⟨g_15, h⟩ := h
    refine j_if_eq C 42 g_15 dX4_angle_28 (by decide) (fun c_16 => ?_) (fun c_16 => ?_)
    · have h := h.1 c_16
      refine j_bipush C (by decide +kernel) dX4_angle_42 ?_
      exact j_iret C hH ⟨_, _, _, _, _, _, _, _, _, _, _, rfl, rfl, h⟩ dX4_angle_44
    · have h := h.2 c_16
      refine j_aload_n C dX4_angle_31 (lv_at hl 0 rfl) ?_
      refine xg_X4_giver C hH dX4_angle_32 ?_
      refine j_iload_n C dX4_angle_35 (lv_at hl 1 rfl) ?_
      refine xcallV_i (As := [.int (J x1)]) (rest := []) (q0 := 9) C hH (fun sz => c_G_given h) xl_X4_147 rfl rfl ⟨rfl, rfl⟩ ⟨Nat.le_of_ble_eq_true rfl, Nat.le_of_ble_eq_true rfl⟩ hl.1 rfl rfl (Nat.le_of_ble_eq_true rfl) dX4_angle_36 (fun r_ w_ H locs hw hH => ?_)
      obtain ⟨z_17, rfl, rfl, h⟩ := hw
      refine j_goto C 44 dX4_angle_39 (by decide) ?_
      exact j_iret C hH ⟨_, _, _, _, _, _, _, _, _, _, _, rfl, rfl, h⟩ dX4_angle_44
  · have h := h.1 c_3
    refine j_iconst C dX4_angle_11 ?_
    exact j_iret C hH ⟨_, _, _, _, _, _, _, _, _, _, _, rfl, rfl, h⟩ dX4_angle_12
abbrev po_X_best (cA : ClassId) (a : Nat → Nat) (xStraight xLeast nPosts nThirds : Int) (nCorners nSums nArrows : Nat → Int) (aBehind aAhead : Int) (aCells aBefore aAfter : Nat → Int) (gThere bTold bStraight bLeast : Int) (bPostsOf bSets bTotals : Nat → Int) (Q : Int → Int → Int → Int → Int → (Nat → Int) → (Nat → Int) → (Nat → Int) → (Nat → Int) → (Nat → Int) → Prop) : Int32 → va_W → Prop := fun r w => ∃ z gCorners' gLowest' gFirst' gFresh' gRow' gPlaces' gOver' gVia' gQueue', r = J z ∧ w = wX cA a xStraight xLeast nPosts nThirds nCorners nSums nArrows aBehind aAhead aCells aBefore aAfter gCorners' gLowest' gFirst' gFresh' gThere gRow' gPlaces' gOver' gVia' gQueue' bTold bStraight bLeast bPostsOf bSets bTotals ∧ Q z gCorners' gLowest' gFirst' gFresh' gRow' gPlaces' gOver' gVia' gQueue'
set_option maxRecDepth 4000 in
theorem w_X_best_18 {p : Program} {l : Launch} {e : Env} {s : State} {m : MethodId} {args : Array Value} {below : List Frame} {meth : Method} {c : Code} {D : va_G} {cA : ClassId} {A : Nat → Prop} {a : Nat → Nat} {xStraight xLeast nPosts nThirds : Int} {nCorners nSums nArrows : Nat → Int} {aBehind aAhead : Int} {aCells aBefore aAfter : Nat → Int} {gThere bTold bStraight bLeast : Int} {bPostsOf bSets bTotals : Nat → Int} (C : XC p s m args meth c cX4_best 5 RX4 (some .int) D cA A) {Q : Int → Int → Int → Int → Int → (Nat → Int) → (Nat → Int) → (Nat → Int) → (Nat → Int) → (Nat → Int) → Prop}  : ∀ (n : Nat) (x1 : Int) (x2 : Int) (x3 : Int) (gCorners : Int) (gLowest : Int) (gFirst : Int) (gFresh : Int) (gRow : Nat → Int) (gPlaces : Nat → Int) (gOver : Nat → Int) (gVia : Nat → Int) (gQueue : Nat → Int), wp_X_best_18 Q xStraight nPosts nThirds nCorners nSums n x1 x2 x3 gCorners gLowest gFirst gFresh gRow gPlaces gOver gVia gQueue → ∀ (H : Heap) (locs : List Loc) (ls : Array Slot), XH D A s (wX cA a xStraight xLeast nPosts nThirds nCorners nSums nArrows aBehind aAhead aCells aBefore aAfter gCorners gLowest gFirst gFresh gThere gRow gPlaces gOver gVia gQueue bTold bStraight bLeast bPostsOf bSets bTotals) H locs → lv_has ls 5 [(0, .ref (a 0)), (1, .int (J x1)), (2, .int (J x2)), (3, .int (J x3))] → W p l e rm_X_best s m args below meth c H locs 0 0 (MQ below (va_Qi (po_X_best cA a xStraight xLeast nPosts nThirds nCorners nSums nArrows aBehind aAhead aCells aBefore aAfter gThere bTold bStraight bLeast bPostsOf bSets bTotals Q) (xB D cA A) A) args s 0 0 A) (F0 m 18 ls []) := by
  intro n
  induction n with
  | zero => intro x1 x2 x3 gCorners gLowest gFirst gFresh gRow gPlaces gOver gVia gQueue h; exact (show False from h).elim
  | succ n hK18 =>
    intro x1 x2 x3 gCorners gLowest gFirst gFresh gRow gPlaces gOver gVia gQueue h H locs ls hH hl
    have h : wp_X_best_18_b  (wp_X_best_18 Q xStraight nPosts nThirds nCorners nSums n) Q xStraight nPosts nThirds nCorners nSums  x1 x2 x3 gCorners gLowest gFirst gFresh gRow gPlaces gOver gVia gQueue := h
    unfold wp_X_best_18_b at h
    refine j_iload_n C dX4_best_18 (lv_at hl 3 rfl) ?_
    refine j_bipush C (by decide +kernel) dX4_best_19 ?_
    obtain ⟨g_1, h⟩ := h
    refine j_icmp_ge C 69 g_1 (by unfold jR; decide) dX4_best_21 (by decide) (fun c_2 => ?_) (fun c_2 => ?_)
    · have h := h.1 c_2
      refine j_iload_n C dX4_best_69 (lv_at hl 1 rfl) ?_
      obtain ⟨g_3, h⟩ := h
      refine j_if_ne C 78 g_3 dX4_best_70 (by decide) (fun c_4 => ?_) (fun c_4 => ?_)
      · have h := h.2 c_4
        refine j_iload_n C dX4_best_78 (lv_at hl 1 rfl) ?_
        exact j_iret C hH ⟨_, _, _, _, _, _, _, _, _, _, rfl, rfl, h⟩ dX4_best_79
      · have h := h.1 c_4
        refine j_bipush C (by decide +kernel) dX4_best_73 ?_
        refine j_goto C 79 dX4_best_75 (by decide) ?_
        exact j_iret C hH ⟨_, _, _, _, _, _, _, _, _, _, rfl, rfl, h⟩ dX4_best_79
    · have h := h.2 c_2
      refine j_iload_n C dX4_best_24 (lv_at hl 2 rfl) ?_
      refine j_iload_n C dX4_best_25 (lv_at hl 1 rfl) ?_
      refine j_isub C dX4_best_26 ?_
      refine j_iconst C dX4_best_27 ?_
      obtain ⟨g_5, h⟩ := h
      refine j_icmp_le C 69 g_5 (by unfold jR; decide) dX4_best_28 (by decide) (fun c_6 => ?_) (fun c_6 => ?_)
      · have h := h.1 c_6
        refine j_iload_n C dX4_best_69 (lv_at hl 1 rfl) ?_
        obtain ⟨g_7, h⟩ := h
        refine j_if_ne C 78 g_7 dX4_best_70 (by decide) (fun c_8 => ?_) (fun c_8 => ?_)
        · have h := h.2 c_8
          refine j_iload_n C dX4_best_78 (lv_at hl 1 rfl) ?_
          exact j_iret C hH ⟨_, _, _, _, _, _, _, _, _, _, rfl, rfl, h⟩ dX4_best_79
        · have h := h.1 c_8
          refine j_bipush C (by decide +kernel) dX4_best_73 ?_
          refine j_goto C 79 dX4_best_75 (by decide) ?_
          exact j_iret C hH ⟨_, _, _, _, _, _, _, _, _, _, rfl, rfl, h⟩ dX4_best_79
      · have h := h.2 c_6
        refine j_iload_n C dX4_best_31 (lv_at hl 1 rfl) ?_
        refine j_iload_n C dX4_best_32 (lv_at hl 2 rfl) ?_
        refine j_iadd C dX4_best_33 ?_
        refine j_iconst C dX4_best_34 ?_
        refine j_idiv C (by decide +kernel) dX4_best_35 ?_
        refine j_istore (lv' := [(4, .int (J (jdiv (x1 + x2) 2))), (0, .ref (a 0)), (1, .int (J x1)), (2, .int (J x2)), (3, .int (J x3))]) C dX4_best_36 hl (by decide) rfl (fun ls hl => ?_)
        refine j_aload_n C dX4_best_38 (lv_at hl 1 rfl) ?_
        refine xg_X4_giver C hH dX4_best_39 ?_
        refine j_aload_n C dX4_best_42 (lv_at hl 1 rfl) ?_
        refine xg_X4_straightIs C hH dX4_best_43 ?_
        refine j_iload C dX4_best_46 (lv_at hl 0 rfl) ?_
        refine xcallV_i (As := [.int (J xStraight), .int (J (jdiv (x1 + x2) 2))]) (rest := []) (q0 := 9) C hH (fun sz => c_G_findAny h) xl_X4_155 rfl rfl ⟨rfl, rfl⟩ ⟨Nat.le_of_ble_eq_true rfl, Nat.le_of_ble_eq_true rfl⟩ hl.1 rfl rfl (Nat.le_of_ble_eq_true rfl) dX4_best_48 (fun r_ w_ H locs hw hH => ?_)
        obtain ⟨z_9, gCorners_10, gLowest_11, gFirst_12, gFresh_13, gRow_14, gPlaces_15, gOver_16, gVia_17, gQueue_18, rfl, rfl, h⟩ := hw
        obtain ⟨g_19, h⟩ := h
        refine j_if_eq C 60 g_19 dX4_best_51 (by decide) (fun c_20 => ?_) (fun c_20 => ?_)
        · have h := h.1 c_20
          refine j_iload C dX4_best_60 (lv_at hl 0 rfl) ?_
          refine j_istore_n (lv' := [(2, .int (J (jdiv (x1 + x2) 2))), (4, .int (J (jdiv (x1 + x2) 2))), (0, .ref (a 0)), (1, .int (J x1)), (3, .int (J x3))]) C dX4_best_62 hl (by decide) rfl (fun ls hl => ?_)
          refine j_iinc (k := 4) (v := x3 + 1) (lv' := [(3, .int (J (x3 + 1))), (2, .int (J (jdiv (x1 + x2) 2))), (4, .int (J (jdiv (x1 + x2) 2))), (0, .ref (a 0)), (1, .int (J x1))]) C dX4_best_63 hl rfl rfl (by decide) rfl (fun ls hl => ?_)
          refine j_goto C 18 dX4_best_66 (by decide) ?_
          exact hK18 x1 (jdiv (x1 + x2) 2) (x3 + 1) gCorners_10 gLowest_11 gFirst_12 gFresh_13 gRow_14 gPlaces_15 gOver_16 gVia_17 gQueue_18 h _ _ _ hH (lv_sub hl [3, 4, 1, 0] rfl)
        · have h := h.2 c_20
          refine j_iload C dX4_best_54 (lv_at hl 0 rfl) ?_
          refine j_istore_n (lv' := [(1, .int (J (jdiv (x1 + x2) 2))), (4, .int (J (jdiv (x1 + x2) 2))), (0, .ref (a 0)), (2, .int (J x2)), (3, .int (J x3))]) C dX4_best_56 hl (by decide) rfl (fun ls hl => ?_)
          refine j_goto C 63 dX4_best_57 (by decide) ?_
          refine j_iinc (k := 4) (v := x3 + 1) (lv' := [(3, .int (J (x3 + 1))), (1, .int (J (jdiv (x1 + x2) 2))), (4, .int (J (jdiv (x1 + x2) 2))), (0, .ref (a 0)), (2, .int (J x2))]) C dX4_best_63 hl rfl rfl (by decide) rfl (fun ls hl => ?_)
          refine j_goto C 18 dX4_best_66 (by decide) ?_
          exact hK18 (jdiv (x1 + x2) 2) x2 (x3 + 1) gCorners_10 gLowest_11 gFirst_12 gFresh_13 gRow_14 gPlaces_15 gOver_16 gVia_17 gQueue_18 h _ _ _ hH (lv_sub hl [3, 1, 4, 0] rfl)
set_option maxRecDepth 4000 in
theorem c_X_best {l : Launch} {D : va_G} {cA : ClassId} {a : Nat → Nat} {sz : Nat} {xStraight xLeast nPosts nThirds : Int} {nCorners nSums nArrows : Nat → Int} {aBehind aAhead : Int} {aCells aBefore aAfter : Nat → Int} {gCorners gLowest gFirst gFresh gThere : Int} {gRow gPlaces gOver gVia gQueue : Nat → Int} {bTold bStraight bLeast : Int} {bPostsOf bSets bTotals : Nat → Int} {Q : Int → Int → Int → Int → Int → (Nat → Int) → (Nat → Int) → (Nat → Int) → (Nat → Int) → (Nat → Int) → Prop} (h : wp_X_best  xStraight nPosts nThirds nCorners nSums gCorners gLowest gFirst gFresh gRow gPlaces gOver gVia gQueue Q) : Met l yX4_best (.code yX4_best cX4_best 5 (some .int) :: lw_ok) rm_X_best (xPre D cA sz [.ref (a 0)] (wX cA a xStraight xLeast nPosts nThirds nCorners nSums nArrows aBehind aAhead aCells aBefore aAfter gCorners gLowest gFirst gFresh gThere gRow gPlaces gOver gVia gQueue bTold bStraight bLeast bPostsOf bSets bTotals)) (va_Qi (po_X_best cA a xStraight xLeast nPosts nThirds nCorners nSums nArrows aBehind aAhead aCells aBefore aAfter gThere bTold bStraight bLeast bPostsOf bSets bTotals Q) (xB D cA (va_A (wX cA a xStraight xLeast nPosts nThirds nCorners nSums nArrows aBehind aAhead aCells aBefore aAfter gCorners gLowest gFirst gFresh gThere gRow gPlaces gOver gVia gQueue bTold bStraight bLeast bPostsOf bSets bTotals) sz)) (va_A (wX cA a xStraight xLeast nPosts nThirds nCorners nSums nArrows aBehind aAhead aCells aBefore aAfter gCorners gLowest gFirst gFresh gThere gRow gPlaces gOver gVia gQueue bTold bStraight bLeast bPostsOf bSets bTotals) sz)) 0 0 (va_A (wX cA a xStraight xLeast nPosts nThirds nCorners nSums nArrows aBehind aAhead aCells aBefore aAfter gCorners gLowest gFirst gFresh gThere gRow gPlaces gOver gVia gQueue bTold bStraight bLeast bPostsOf bSets bTotals) sz) := by
  refine xmet_i (by decide) (Nat.le_of_ble_eq_true rfl) ?_
  intro p e s m args below meth c A ls C hH hl
  have C : XC p s m args meth c cX4_best 5 RX4 (some .int) D cA A := C
  have hl : lv_has ls 5 [(0, .ref (a 0))] := hl
  unfold wp_X_best at h
  refine j_iconst C dX4_best_0 ?_
  refine j_istore_n (lv' := [(1, .int (J 0)), (0, .ref (a 0))]) C dX4_best_1 hl (by decide) rfl (fun ls hl => ?_)
  refine j_bipush C (by decide +kernel) dX4_best_2 ?_
  refine j_aload_n C dX4_best_4 (lv_at hl 1 rfl) ?_
  refine xg_X4_straightIs C hH dX4_best_5 ?_
  refine j_iconst C dX4_best_8 ?_
  refine j_idiv C (by decide +kernel) dX4_best_9 ?_
  refine j_mmin C hl.1 wl_X4_150 ⟨Nat.le_of_ble_eq_true rfl, Nat.le_of_ble_eq_true rfl⟩ dX4_best_10 ?_
  refine j_iconst C dX4_best_13 ?_
  refine j_iadd C dX4_best_14 ?_
  refine j_istore_n (lv' := [(2, .int (J ((jmin 60 (jdiv xStraight 3)) + 1))), (1, .int (J 0)), (0, .ref (a 0))]) C dX4_best_15 hl (by decide) rfl (fun ls hl => ?_)
  refine j_iconst C dX4_best_16 ?_
  refine j_istore_n (lv' := [(3, .int (J 0)), (2, .int (J ((jmin 60 (jdiv xStraight 3)) + 1))), (1, .int (J 0)), (0, .ref (a 0))]) C dX4_best_17 hl (by decide) rfl (fun ls hl => ?_)
  obtain ⟨n_, h⟩ := h
  exact w_X_best_18 C  n_ 0 ((jmin 60 (jdiv xStraight 3)) + 1) 0 gCorners gLowest gFirst gFresh gRow gPlaces gOver gVia gQueue h _ _ _ hH (lv_sub hl [3, 2, 1, 0] rfl)
abbrev po_X_bar (cA : ClassId) (a : Nat → Nat) (xStraight xLeast nPosts nThirds : Int) (nCorners nSums nArrows : Nat → Int) (aBehind aAhead : Int) (aCells aBefore aAfter : Nat → Int) (Q : Int → Int → Int → Int → Int → Int → (Nat → Int) → (Nat → Int) → (Nat → Int) → (Nat → Int) → (Nat → Int) → Int → Int → Int → (Nat → Int) → (Nat → Int) → (Nat → Int) → Prop) : Int32 → va_W → Prop := fun r w => ∃ z gCorners' gLowest' gFirst' gFresh' gThere' gRow' gPlaces' gOver' gVia' gQueue' bTold' bStraight' bLeast' bPostsOf' bSets' bTotals', r = J z ∧ w = wX cA a xStraight xLeast nPosts nThirds nCorners nSums nArrows aBehind aAhead aCells aBefore aAfter gCorners' gLowest' gFirst' gFresh' gThere' gRow' gPlaces' gOver' gVia' gQueue' bTold' bStraight' bLeast' bPostsOf' bSets' bTotals' ∧ Q z gCorners' gLowest' gFirst' gFresh' gThere' gRow' gPlaces' gOver' gVia' gQueue' bTold' bStraight' bLeast' bPostsOf' bSets' bTotals'
set_option maxRecDepth 4000 in
theorem c_X_bar {l : Launch} {D : va_G} {cA : ClassId} {a : Nat → Nat} {sz : Nat} {xStraight xLeast nPosts nThirds : Int} {nCorners nSums nArrows : Nat → Int} {aBehind aAhead : Int} {aCells aBefore aAfter : Nat → Int} {gCorners gLowest gFirst gFresh gThere : Int} {gRow gPlaces gOver gVia gQueue : Nat → Int} {bTold bStraight bLeast : Int} {bPostsOf bSets bTotals : Nat → Int} {x1 : Int} {Q : Int → Int → Int → Int → Int → Int → (Nat → Int) → (Nat → Int) → (Nat → Int) → (Nat → Int) → (Nat → Int) → Int → Int → Int → (Nat → Int) → (Nat → Int) → (Nat → Int) → Prop} (h : wp_X_bar x1 xStraight xLeast nPosts nThirds nCorners nSums gCorners gLowest gFirst gFresh gThere gRow gPlaces gOver gVia gQueue bTold bStraight bLeast bPostsOf bSets bTotals Q) : Met l yX4_bar (.code yX4_bar cX4_bar 2 (some .int) :: lw_ok) rm_X_bar (xPre D cA sz [.ref (a 0), .int (J x1)] (wX cA a xStraight xLeast nPosts nThirds nCorners nSums nArrows aBehind aAhead aCells aBefore aAfter gCorners gLowest gFirst gFresh gThere gRow gPlaces gOver gVia gQueue bTold bStraight bLeast bPostsOf bSets bTotals)) (va_Qi (po_X_bar cA a xStraight xLeast nPosts nThirds nCorners nSums nArrows aBehind aAhead aCells aBefore aAfter Q) (xB D cA (va_A (wX cA a xStraight xLeast nPosts nThirds nCorners nSums nArrows aBehind aAhead aCells aBefore aAfter gCorners gLowest gFirst gFresh gThere gRow gPlaces gOver gVia gQueue bTold bStraight bLeast bPostsOf bSets bTotals) sz)) (va_A (wX cA a xStraight xLeast nPosts nThirds nCorners nSums nArrows aBehind aAhead aCells aBefore aAfter gCorners gLowest gFirst gFresh gThere gRow gPlaces gOver gVia gQueue bTold bStraight bLeast bPostsOf bSets bTotals) sz)) 0 0 (va_A (wX cA a xStraight xLeast nPosts nThirds nCorners nSums nArrows aBehind aAhead aCells aBefore aAfter gCorners gLowest gFirst gFresh gThere gRow gPlaces gOver gVia gQueue bTold bStraight bLeast bPostsOf bSets bTotals) sz) := by
  refine xmet_i (by decide) (Nat.le_of_ble_eq_true rfl) ?_
  intro p e s m args below meth c A ls C hH hl
  have C : XC p s m args meth c cX4_bar 2 RX4 (some .int) D cA A := C
  have hl : lv_has ls 2 [(0, .ref (a 0)), (1, .int (J x1))] := hl
  unfold wp_X_bar at h
  refine j_iload_n C dX4_bar_0 (lv_at hl 1 rfl) ?_
  obtain ⟨g_1, h⟩ := h
  refine j_if_lt C 9 g_1 dX4_bar_1 (by decide) (fun c_2 => ?_) (fun c_2 => ?_)
  · have h := h.1 c_2
    refine j_bipush C (by decide +kernel) dX4_bar_9 ?_
    exact j_iret C hH ⟨_, _, _, _, _, _, _, _, _, _, _, _, _, _, _, _, _, rfl, rfl, h⟩ dX4_bar_11
  · have h := h.2 c_2
    refine j_iload_n C dX4_bar_4 (lv_at hl 1 rfl) ?_
    refine j_iconst C dX4_bar_5 ?_
    refine j_icmp_le C 12 g_1 (by unfold jR; decide) dX4_bar_6 (by decide) (fun c_3 => ?_) (fun c_3 => ?_)
    · have h := h.1 c_3
      refine j_aload_n C dX4_bar_12 (lv_at hl 0 rfl) ?_
      refine xg_X4_giver C hH dX4_bar_13 ?_
      refine j_aload_n C dX4_bar_16 (lv_at hl 0 rfl) ?_
      refine xg_X4_straightIs C hH dX4_bar_17 ?_
      refine j_aload_n C dX4_bar_20 (lv_at hl 0 rfl) ?_
      refine xg_X4_leastIs C hH dX4_bar_21 ?_
      refine xcallV_i (As := [.int (J xStraight), .int (J xLeast)]) (rest := []) (q0 := 9) C hH (fun sz => c_G_findRow h) xl_X4_126 rfl rfl ⟨rfl, rfl⟩ ⟨Nat.le_of_ble_eq_true rfl, Nat.le_of_ble_eq_true rfl⟩ hl.1 rfl rfl (Nat.le_of_ble_eq_true rfl) dX4_bar_24 (fun r_ w_ H locs hw hH => ?_)
      obtain ⟨z_4, gCorners_5, gLowest_6, gFirst_7, gFresh_8, gThere_9, gRow_10, gPlaces_11, gOver_12, gVia_13, gQueue_14, rfl, rfl, h⟩ := hw
      obtain ⟨g_15, h⟩ := h
      refine j_if_eq C 34 g_15 dX4_bar_27 (by decide) (fun c_16 => ?_) (fun c_16 => ?_)
      · have h := h.1 c_16
        refine j_aload_n C dX4_bar_34 (lv_at hl 0 rfl) ?_
        refine xg_X4_bars C hH dX4_bar_35 ?_
        refine j_iload_n C dX4_bar_38 (lv_at hl 1 rfl) ?_
        refine j_aload_n C dX4_bar_39 (lv_at hl 0 rfl) ?_
        refine xg_X4_straightIs C hH dX4_bar_40 ?_
        refine j_aload_n C dX4_bar_43 (lv_at hl 0 rfl) ?_
        refine xg_X4_leastIs C hH dX4_bar_44 ?_
        refine xcallV_i (As := [.int (J x1), .int (J xStraight), .int (J xLeast)]) (rest := []) (q0 := 15) C hH (fun sz => c_B_fewest h) xl_X4_158 rfl rfl ⟨rfl, rfl⟩ ⟨Nat.le_of_ble_eq_true rfl, Nat.le_of_ble_eq_true rfl⟩ hl.1 rfl rfl (Nat.le_of_ble_eq_true rfl) dX4_bar_47 (fun r_ w_ H locs hw hH => ?_)
        obtain ⟨z_17, bTold_18, bStraight_19, bLeast_20, bPostsOf_21, bSets_22, bTotals_23, rfl, rfl, h⟩ := hw
        exact j_iret C hH ⟨_, _, _, _, _, _, _, _, _, _, _, _, _, _, _, _, _, rfl, rfl, h⟩ dX4_bar_50
      · have h := h.2 c_16
        refine j_iconst C dX4_bar_30 ?_
        refine j_goto C 50 dX4_bar_31 (by decide) ?_
        exact j_iret C hH ⟨_, _, _, _, _, _, _, _, _, _, _, _, _, _, _, _, _, rfl, rfl, h⟩ dX4_bar_50
    · have h := h.2 c_3
      refine j_bipush C (by decide +kernel) dX4_bar_9 ?_
      exact j_iret C hH ⟨_, _, _, _, _, _, _, _, _, _, _, _, _, _, _, _, _, rfl, rfl, h⟩ dX4_bar_11
abbrev po_X_givenOpposite (cA : ClassId) (a : Nat → Nat) (xStraight xLeast nPosts nThirds : Int) (nCorners nSums nArrows : Nat → Int) (aBehind aAhead : Int) (aCells aBefore aAfter : Nat → Int) (gCorners gLowest gFirst gFresh gThere : Int) (gRow gPlaces gOver gVia gQueue : Nat → Int) (bTold bStraight bLeast : Int) (bPostsOf bSets bTotals : Nat → Int) (Q : Int → Prop) : Int32 → va_W → Prop := fun r w => ∃ z, r = J z ∧ w = wX cA a xStraight xLeast nPosts nThirds nCorners nSums nArrows aBehind aAhead aCells aBefore aAfter gCorners gLowest gFirst gFresh gThere gRow gPlaces gOver gVia gQueue bTold bStraight bLeast bPostsOf bSets bTotals ∧ Q z
set_option maxRecDepth 4000 in
theorem w_X_givenOpposite_42 {p : Program} {l : Launch} {e : Env} {s : State} {m : MethodId} {args : Array Value} {below : List Frame} {meth : Method} {c : Code} {D : va_G} {cA : ClassId} {A : Nat → Prop} {a : Nat → Nat} {xStraight xLeast nPosts nThirds : Int} {nCorners nSums nArrows : Nat → Int} {aBehind aAhead : Int} {aCells aBefore aAfter : Nat → Int} {gCorners gLowest gFirst gFresh gThere : Int} {gRow gPlaces gOver gVia gQueue : Nat → Int} {bTold bStraight bLeast : Int} {bPostsOf bSets bTotals : Nat → Int} (C : XC p s m args meth c cX4_givenOpposite 4 RX4 (some .int) D cA A) {Q : Int → Prop}  : ∀ (x1 : Int) (x2 : Int) (x3 : Int), wp_X_givenOpposite_42 Q nCorners nArrows gRow x1 x2 x3 → ∀ (H : Heap) (locs : List Loc) (ls : Array Slot), XH D A s (wX cA a xStraight xLeast nPosts nThirds nCorners nSums nArrows aBehind aAhead aCells aBefore aAfter gCorners gLowest gFirst gFresh gThere gRow gPlaces gOver gVia gQueue bTold bStraight bLeast bPostsOf bSets bTotals) H locs → lv_has ls 4 [(0, .ref (a 0)), (1, .int (J x1)), (2, .int (J x2)), (3, .int (J x3))] → W p l e rm_X_givenOpposite s m args below meth c H locs 0 0 (MQ below (va_Qi (po_X_givenOpposite cA a xStraight xLeast nPosts nThirds nCorners nSums nArrows aBehind aAhead aCells aBefore aAfter gCorners gLowest gFirst gFresh gThere gRow gPlaces gOver gVia gQueue bTold bStraight bLeast bPostsOf bSets bTotals Q) (xB D cA A) A) args s 0 0 A) (F0 m 42 ls []) := by
  intro x1 x2 x3 h H locs ls hH hl
  unfold wp_X_givenOpposite_42 at h
  refine j_aload_n C dX4_givenOpposite_42 (lv_at hl 0 rfl) ?_
  refine xg_X4_net C hH dX4_givenOpposite_43 ?_
  refine j_iload_n C dX4_givenOpposite_46 (lv_at hl 2 rfl) ?_
  refine j_iload_n C dX4_givenOpposite_47 (lv_at hl 1 rfl) ?_
  refine xcallV_i (As := [.int (J x2), .int (J x1)]) (rest := []) (q0 := 1) C hH (fun sz => c_N_hasArrow h) xl_X4_67 rfl rfl ⟨rfl, rfl⟩ ⟨Nat.le_of_ble_eq_true rfl, Nat.le_of_ble_eq_true rfl⟩ hl.1 rfl rfl (Nat.le_of_ble_eq_true rfl) dX4_givenOpposite_48 (fun r_ w_ H locs hw hH => ?_)
  obtain ⟨z_1, rfl, rfl, h⟩ := hw
  obtain ⟨g_2, h⟩ := h
  refine j_if_eq C 82 g_2 dX4_givenOpposite_51 (by decide) (fun c_3 => ?_) (fun c_3 => ?_)
  · have h := h.1 c_3
    refine j_iload_n C dX4_givenOpposite_82 (lv_at hl 3 rfl) ?_
    exact j_iret C hH ⟨_, rfl, rfl, h⟩ dX4_givenOpposite_83
  · have h := h.2 c_3
    refine j_iload_n C dX4_givenOpposite_54 (lv_at hl 3 rfl) ?_
    refine j_aload_n C dX4_givenOpposite_55 (lv_at hl 0 rfl) ?_
    refine xg_X4_giver C hH dX4_givenOpposite_56 ?_
    refine j_aload_n C dX4_givenOpposite_59 (lv_at hl 0 rfl) ?_
    refine xg_X4_net C hH dX4_givenOpposite_60 ?_
    refine j_aload_n C dX4_givenOpposite_63 (lv_at hl 0 rfl) ?_
    refine xg_X4_net C hH dX4_givenOpposite_64 ?_
    refine j_iload_n C dX4_givenOpposite_67 (lv_at hl 2 rfl) ?_
    refine j_iload_n C dX4_givenOpposite_68 (lv_at hl 1 rfl) ?_
    refine xcallV_i (As := [.int (J x2), .int (J x1)]) (rest := [.ref (a 1), .ref (a 9), .int (J x3)]) (q0 := 1) C hH (fun sz => c_N_thirdWith h) xl_X4_96 rfl rfl ⟨rfl, rfl⟩ ⟨Nat.le_of_ble_eq_true rfl, Nat.le_of_ble_eq_true rfl⟩ hl.1 rfl rfl (Nat.le_of_ble_eq_true rfl) dX4_givenOpposite_69 (fun r_ w_ H locs hw hH => ?_)
    obtain ⟨z_4, rfl, rfl, h⟩ := hw
    refine j_iload_n C dX4_givenOpposite_72 (lv_at hl 1 rfl) ?_
    refine j_iload_n C dX4_givenOpposite_73 (lv_at hl 2 rfl) ?_
    refine xcallV_i (As := [.int (J z_4), .int (J x1), .int (J x2)]) (rest := [.ref (a 9), .int (J x3)]) (q0 := 1) C hH (fun sz => c_N_cornerOpposite h) xl_X4_102 rfl rfl ⟨rfl, rfl⟩ ⟨Nat.le_of_ble_eq_true rfl, Nat.le_of_ble_eq_true rfl⟩ hl.1 rfl rfl (Nat.le_of_ble_eq_true rfl) dX4_givenOpposite_74 (fun r_ w_ H locs hw hH => ?_)
    obtain ⟨z_5, rfl, rfl, h⟩ := hw
    refine xcallV_i (As := [.int (J z_5)]) (rest := [.int (J x3)]) (q0 := 9) C hH (fun sz => c_G_given h) xl_X4_147 rfl rfl ⟨rfl, rfl⟩ ⟨Nat.le_of_ble_eq_true rfl, Nat.le_of_ble_eq_true rfl⟩ hl.1 rfl rfl (Nat.le_of_ble_eq_true rfl) dX4_givenOpposite_77 (fun r_ w_ H locs hw hH => ?_)
    obtain ⟨z_6, rfl, rfl, h⟩ := hw
    refine j_iadd C dX4_givenOpposite_80 ?_
    refine j_istore_n (lv' := [(3, .int (J (x3 + z_6))), (0, .ref (a 0)), (1, .int (J x1)), (2, .int (J x2))]) C dX4_givenOpposite_81 hl (by decide) rfl (fun ls hl => ?_)
    refine j_iload_n C dX4_givenOpposite_82 (lv_at hl 0 rfl) ?_
    exact j_iret C hH ⟨_, rfl, rfl, h⟩ dX4_givenOpposite_83
set_option maxRecDepth 4000 in
theorem c_X_givenOpposite {l : Launch} {D : va_G} {cA : ClassId} {a : Nat → Nat} {sz : Nat} {xStraight xLeast nPosts nThirds : Int} {nCorners nSums nArrows : Nat → Int} {aBehind aAhead : Int} {aCells aBefore aAfter : Nat → Int} {gCorners gLowest gFirst gFresh gThere : Int} {gRow gPlaces gOver gVia gQueue : Nat → Int} {bTold bStraight bLeast : Int} {bPostsOf bSets bTotals : Nat → Int} {x1 x2 : Int} {Q : Int → Prop} (h : wp_X_givenOpposite x1 x2 nCorners nArrows gRow Q) : Met l yX4_givenOpposite (.code yX4_givenOpposite cX4_givenOpposite 4 (some .int) :: lw_ok) rm_X_givenOpposite (xPre D cA sz [.ref (a 0), .int (J x1), .int (J x2)] (wX cA a xStraight xLeast nPosts nThirds nCorners nSums nArrows aBehind aAhead aCells aBefore aAfter gCorners gLowest gFirst gFresh gThere gRow gPlaces gOver gVia gQueue bTold bStraight bLeast bPostsOf bSets bTotals)) (va_Qi (po_X_givenOpposite cA a xStraight xLeast nPosts nThirds nCorners nSums nArrows aBehind aAhead aCells aBefore aAfter gCorners gLowest gFirst gFresh gThere gRow gPlaces gOver gVia gQueue bTold bStraight bLeast bPostsOf bSets bTotals Q) (xB D cA (va_A (wX cA a xStraight xLeast nPosts nThirds nCorners nSums nArrows aBehind aAhead aCells aBefore aAfter gCorners gLowest gFirst gFresh gThere gRow gPlaces gOver gVia gQueue bTold bStraight bLeast bPostsOf bSets bTotals) sz)) (va_A (wX cA a xStraight xLeast nPosts nThirds nCorners nSums nArrows aBehind aAhead aCells aBefore aAfter gCorners gLowest gFirst gFresh gThere gRow gPlaces gOver gVia gQueue bTold bStraight bLeast bPostsOf bSets bTotals) sz)) 0 0 (va_A (wX cA a xStraight xLeast nPosts nThirds nCorners nSums nArrows aBehind aAhead aCells aBefore aAfter gCorners gLowest gFirst gFresh gThere gRow gPlaces gOver gVia gQueue bTold bStraight bLeast bPostsOf bSets bTotals) sz) := by
  refine xmet_i (by decide) (Nat.le_of_ble_eq_true rfl) ?_
  intro p e s m args below meth c A ls C hH hl
  have C : XC p s m args meth c cX4_givenOpposite 4 RX4 (some .int) D cA A := C
  have hl : lv_has ls 4 [(0, .ref (a 0)), (1, .int (J x1)), (2, .int (J x2))] := hl
  unfold wp_X_givenOpposite at h
  refine j_iconst C dX4_givenOpposite_0 ?_
  refine j_istore_n (lv' := [(3, .int (J 0)), (0, .ref (a 0)), (1, .int (J x1)), (2, .int (J x2))]) C dX4_givenOpposite_1 hl (by decide) rfl (fun ls hl => ?_)
  refine j_aload_n C dX4_givenOpposite_2 (lv_at hl 1 rfl) ?_
  refine xg_X4_net C hH dX4_givenOpposite_3 ?_
  refine j_iload_n C dX4_givenOpposite_6 (lv_at hl 2 rfl) ?_
  refine j_iload_n C dX4_givenOpposite_7 (lv_at hl 3 rfl) ?_
  refine xcallV_i (As := [.int (J x1), .int (J x2)]) (rest := []) (q0 := 1) C hH (fun sz => c_N_hasArrow h) xl_X4_67 rfl rfl ⟨rfl, rfl⟩ ⟨Nat.le_of_ble_eq_true rfl, Nat.le_of_ble_eq_true rfl⟩ hl.1 rfl rfl (Nat.le_of_ble_eq_true rfl) dX4_givenOpposite_8 (fun r_ w_ H locs hw hH => ?_)
  obtain ⟨z_7, rfl, rfl, h⟩ := hw
  obtain ⟨g_8, h⟩ := h
  refine j_if_eq C 42 g_8 dX4_givenOpposite_11 (by decide) (fun c_9 => ?_) (fun c_9 => ?_)
  · have h := h.1 c_9
    exact w_X_givenOpposite_42 C  x1 x2 0 h _ _ _ hH (lv_sub hl [1, 2, 3, 0] rfl)
  · have h := h.2 c_9
    refine j_iload_n C dX4_givenOpposite_14 (lv_at hl 0 rfl) ?_
    refine j_aload_n C dX4_givenOpposite_15 (lv_at hl 1 rfl) ?_
    refine xg_X4_giver C hH dX4_givenOpposite_16 ?_
    refine j_aload_n C dX4_givenOpposite_19 (lv_at hl 1 rfl) ?_
    refine xg_X4_net C hH dX4_givenOpposite_20 ?_
    refine j_aload_n C dX4_givenOpposite_23 (lv_at hl 1 rfl) ?_
    refine xg_X4_net C hH dX4_givenOpposite_24 ?_
    refine j_iload_n C dX4_givenOpposite_27 (lv_at hl 2 rfl) ?_
    refine j_iload_n C dX4_givenOpposite_28 (lv_at hl 3 rfl) ?_
    refine xcallV_i (As := [.int (J x1), .int (J x2)]) (rest := [.ref (a 1), .ref (a 9), .int (J 0)]) (q0 := 1) C hH (fun sz => c_N_thirdWith h) xl_X4_96 rfl rfl ⟨rfl, rfl⟩ ⟨Nat.le_of_ble_eq_true rfl, Nat.le_of_ble_eq_true rfl⟩ hl.1 rfl rfl (Nat.le_of_ble_eq_true rfl) dX4_givenOpposite_29 (fun r_ w_ H locs hw hH => ?_)
    obtain ⟨z_10, rfl, rfl, h⟩ := hw
    refine j_iload_n C dX4_givenOpposite_32 (lv_at hl 2 rfl) ?_
    refine j_iload_n C dX4_givenOpposite_33 (lv_at hl 3 rfl) ?_
    refine xcallV_i (As := [.int (J z_10), .int (J x1), .int (J x2)]) (rest := [.ref (a 9), .int (J 0)]) (q0 := 1) C hH (fun sz => c_N_cornerOpposite h) xl_X4_102 rfl rfl ⟨rfl, rfl⟩ ⟨Nat.le_of_ble_eq_true rfl, Nat.le_of_ble_eq_true rfl⟩ hl.1 rfl rfl (Nat.le_of_ble_eq_true rfl) dX4_givenOpposite_34 (fun r_ w_ H locs hw hH => ?_)
    obtain ⟨z_11, rfl, rfl, h⟩ := hw
    refine xcallV_i (As := [.int (J z_11)]) (rest := [.int (J 0)]) (q0 := 9) C hH (fun sz => c_G_given h) xl_X4_147 rfl rfl ⟨rfl, rfl⟩ ⟨Nat.le_of_ble_eq_true rfl, Nat.le_of_ble_eq_true rfl⟩ hl.1 rfl rfl (Nat.le_of_ble_eq_true rfl) dX4_givenOpposite_37 (fun r_ w_ H locs hw hH => ?_)
    obtain ⟨z_12, rfl, rfl, h⟩ := hw
    refine j_iadd C dX4_givenOpposite_40 ?_
    refine j_istore_n (lv' := [(3, .int (J (0 + z_12))), (0, .ref (a 0)), (1, .int (J x1)), (2, .int (J x2))]) C dX4_givenOpposite_41 hl (by decide) rfl (fun ls hl => ?_)
    exact w_X_givenOpposite_42 C  x1 x2 (0 + z_12) h _ _ _ hH (lv_sub hl [1, 2, 3, 0] rfl)
abbrev po_X_opposite (cA : ClassId) (a : Nat → Nat) (xStraight xLeast nPosts nThirds : Int) (nCorners nSums nArrows : Nat → Int) (aBehind aAhead : Int) (aCells aBefore aAfter : Nat → Int) (bTold bStraight bLeast : Int) (bPostsOf bSets bTotals : Nat → Int) (Q : Int → Int → Int → Int → Int → Int → (Nat → Int) → (Nat → Int) → (Nat → Int) → (Nat → Int) → (Nat → Int) → Prop) : Int32 → va_W → Prop := fun r w => ∃ z gCorners' gLowest' gFirst' gFresh' gThere' gRow' gPlaces' gOver' gVia' gQueue', r = J z ∧ w = wX cA a xStraight xLeast nPosts nThirds nCorners nSums nArrows aBehind aAhead aCells aBefore aAfter gCorners' gLowest' gFirst' gFresh' gThere' gRow' gPlaces' gOver' gVia' gQueue' bTold bStraight bLeast bPostsOf bSets bTotals ∧ Q z gCorners' gLowest' gFirst' gFresh' gThere' gRow' gPlaces' gOver' gVia' gQueue'
set_option maxRecDepth 4000 in
theorem c_X_opposite {l : Launch} {D : va_G} {cA : ClassId} {a : Nat → Nat} {sz : Nat} {xStraight xLeast nPosts nThirds : Int} {nCorners nSums nArrows : Nat → Int} {aBehind aAhead : Int} {aCells aBefore aAfter : Nat → Int} {gCorners gLowest gFirst gFresh gThere : Int} {gRow gPlaces gOver gVia gQueue : Nat → Int} {bTold bStraight bLeast : Int} {bPostsOf bSets bTotals : Nat → Int} {x1 x2 : Int} {Q : Int → Int → Int → Int → Int → Int → (Nat → Int) → (Nat → Int) → (Nat → Int) → (Nat → Int) → (Nat → Int) → Prop} (h : wp_X_opposite x1 x2 xStraight xLeast nPosts nThirds nCorners nSums nArrows gCorners gLowest gFirst gFresh gThere gRow gPlaces gOver gVia gQueue Q) : Met l yX4_opposite (.code yX4_opposite cX4_opposite 3 (some .int) :: lw_ok) rm_X_opposite (xPre D cA sz [.ref (a 0), .int (J x1), .int (J x2)] (wX cA a xStraight xLeast nPosts nThirds nCorners nSums nArrows aBehind aAhead aCells aBefore aAfter gCorners gLowest gFirst gFresh gThere gRow gPlaces gOver gVia gQueue bTold bStraight bLeast bPostsOf bSets bTotals)) (va_Qi (po_X_opposite cA a xStraight xLeast nPosts nThirds nCorners nSums nArrows aBehind aAhead aCells aBefore aAfter bTold bStraight bLeast bPostsOf bSets bTotals Q) (xB D cA (va_A (wX cA a xStraight xLeast nPosts nThirds nCorners nSums nArrows aBehind aAhead aCells aBefore aAfter gCorners gLowest gFirst gFresh gThere gRow gPlaces gOver gVia gQueue bTold bStraight bLeast bPostsOf bSets bTotals) sz)) (va_A (wX cA a xStraight xLeast nPosts nThirds nCorners nSums nArrows aBehind aAhead aCells aBefore aAfter gCorners gLowest gFirst gFresh gThere gRow gPlaces gOver gVia gQueue bTold bStraight bLeast bPostsOf bSets bTotals) sz)) 0 0 (va_A (wX cA a xStraight xLeast nPosts nThirds nCorners nSums nArrows aBehind aAhead aCells aBefore aAfter gCorners gLowest gFirst gFresh gThere gRow gPlaces gOver gVia gQueue bTold bStraight bLeast bPostsOf bSets bTotals) sz) := by
  refine xmet_i (by decide) (Nat.le_of_ble_eq_true rfl) ?_
  intro p e s m args below meth c A ls C hH hl
  have C : XC p s m args meth c cX4_opposite 3 RX4 (some .int) D cA A := C
  have hl : lv_has ls 3 [(0, .ref (a 0)), (1, .int (J x1)), (2, .int (J x2))] := hl
  unfold wp_X_opposite at h
  refine j_aload_n C dX4_opposite_0 (lv_at hl 0 rfl) ?_
  refine xg_X4_net C hH dX4_opposite_1 ?_
  refine j_iload_n C dX4_opposite_4 (lv_at hl 1 rfl) ?_
  refine j_iload_n C dX4_opposite_5 (lv_at hl 2 rfl) ?_
  refine xcallV_i (As := [.int (J x1), .int (J x2)]) (rest := []) (q0 := 1) C hH (fun sz => c_N_isSide h) xl_X4_99 rfl rfl ⟨rfl, rfl⟩ ⟨Nat.le_of_ble_eq_true rfl, Nat.le_of_ble_eq_true rfl⟩ hl.1 rfl rfl (Nat.le_of_ble_eq_true rfl) dX4_opposite_6 (fun r_ w_ H locs hw hH => ?_)
  obtain ⟨z_1, rfl, rfl, h⟩ := hw
  obtain ⟨g_2, h⟩ := h
  refine j_if_ne C 14 g_2 dX4_opposite_9 (by decide) (fun c_3 => ?_) (fun c_3 => ?_)
  · have h := h.2 c_3
    refine j_aload_n C dX4_opposite_14 (lv_at hl 0 rfl) ?_
    refine xg_X4_giver C hH dX4_opposite_15 ?_
    refine j_aload_n C dX4_opposite_18 (lv_at hl 0 rfl) ?_
    refine xg_X4_straightIs C hH dX4_opposite_19 ?_
    refine j_aload_n C dX4_opposite_22 (lv_at hl 0 rfl) ?_
    refine xg_X4_leastIs C hH dX4_opposite_23 ?_
    refine xcallV_i (As := [.int (J xStraight), .int (J xLeast)]) (rest := []) (q0 := 9) C hH (fun sz => c_G_findRow h) xl_X4_126 rfl rfl ⟨rfl, rfl⟩ ⟨Nat.le_of_ble_eq_true rfl, Nat.le_of_ble_eq_true rfl⟩ hl.1 rfl rfl (Nat.le_of_ble_eq_true rfl) dX4_opposite_26 (fun r_ w_ H locs hw hH => ?_)
    obtain ⟨z_4, gCorners_5, gLowest_6, gFirst_7, gFresh_8, gThere_9, gRow_10, gPlaces_11, gOver_12, gVia_13, gQueue_14, rfl, rfl, h⟩ := hw
    obtain ⟨g_15, h⟩ := h
    refine j_if_eq C 41 g_15 dX4_opposite_29 (by decide) (fun c_16 => ?_) (fun c_16 => ?_)
    · have h := h.1 c_16
      refine j_bipush C (by decide +kernel) dX4_opposite_41 ?_
      exact j_iret C hH ⟨_, _, _, _, _, _, _, _, _, _, _, rfl, rfl, h⟩ dX4_opposite_43
    · have h := h.2 c_16
      refine j_aload_n C dX4_opposite_32 (lv_at hl 0 rfl) ?_
      refine j_iload_n C dX4_opposite_33 (lv_at hl 1 rfl) ?_
      refine j_iload_n C dX4_opposite_34 (lv_at hl 2 rfl) ?_
      refine xcallV_i (As := [.int (J x1), .int (J x2)]) (rest := []) (q0 := 0) C hH (fun sz => c_X_givenOpposite h) xl_X4_161 rfl rfl ⟨rfl, rfl⟩ ⟨Nat.le_of_ble_eq_true rfl, Nat.le_of_ble_eq_true rfl⟩ hl.1 rfl rfl (Nat.le_of_ble_eq_true rfl) dX4_opposite_35 (fun r_ w_ H locs hw hH => ?_)
      obtain ⟨z_17, rfl, rfl, h⟩ := hw
      refine j_goto C 43 dX4_opposite_38 (by decide) ?_
      exact j_iret C hH ⟨_, _, _, _, _, _, _, _, _, _, _, rfl, rfl, h⟩ dX4_opposite_43
  · have h := h.1 c_3
    refine j_iconst C dX4_opposite_12 ?_
    exact j_iret C hH ⟨_, _, _, _, _, _, _, _, _, _, _, rfl, rfl, h⟩ dX4_opposite_13
abbrev po_X_fit (cA : ClassId) (a : Nat → Nat) (xStraight xLeast nPosts nThirds : Int) (nCorners nSums nArrows : Nat → Int) (aBehind aAhead : Int) (aCells aBefore aAfter : Nat → Int) (bTold bStraight bLeast : Int) (bPostsOf bSets bTotals : Nat → Int) (Q : Int → Int → Int → Int → Int → Int → (Nat → Int) → (Nat → Int) → (Nat → Int) → (Nat → Int) → (Nat → Int) → Prop) : Int32 → va_W → Prop := fun r w => ∃ z gCorners' gLowest' gFirst' gFresh' gThere' gRow' gPlaces' gOver' gVia' gQueue', r = J z ∧ w = wX cA a xStraight xLeast nPosts nThirds nCorners nSums nArrows aBehind aAhead aCells aBefore aAfter gCorners' gLowest' gFirst' gFresh' gThere' gRow' gPlaces' gOver' gVia' gQueue' bTold bStraight bLeast bPostsOf bSets bTotals ∧ Q z gCorners' gLowest' gFirst' gFresh' gThere' gRow' gPlaces' gOver' gVia' gQueue'
set_option maxRecDepth 4000 in
theorem w_X_fit_40 {p : Program} {l : Launch} {e : Env} {s : State} {m : MethodId} {args : Array Value} {below : List Frame} {meth : Method} {c : Code} {D : va_G} {cA : ClassId} {A : Nat → Prop} {a : Nat → Nat} {xStraight xLeast nPosts nThirds : Int} {nCorners nSums nArrows : Nat → Int} {aBehind aAhead : Int} {aCells aBefore aAfter : Nat → Int} {gCorners gLowest gFirst gFresh gThere : Int} {gRow gPlaces gOver gVia gQueue : Nat → Int} {bTold bStraight bLeast : Int} {bPostsOf bSets bTotals : Nat → Int} (C : XC p s m args meth c cX4_fit 4 RX4 (some .int) D cA A) {K25 : Int → Int → Prop} {Q : Int → Int → Int → Int → Int → Int → (Nat → Int) → (Nat → Int) → (Nat → Int) → (Nat → Int) → (Nat → Int) → Prop} {x2 : Int}  (hK25 : ∀ (x1 : Int) (x2 : Int), K25 x1 x2 → ∀ (H : Heap) (locs : List Loc) (ls : Array Slot), XH D A s (wX cA a xStraight xLeast nPosts nThirds nCorners nSums nArrows aBehind aAhead aCells aBefore aAfter gCorners gLowest gFirst gFresh gThere gRow gPlaces gOver gVia gQueue bTold bStraight bLeast bPostsOf bSets bTotals) H locs → lv_has ls 4 [(0, .ref (a 0)), (1, .int (J x1)), (2, .int (J x2))] → W p l e rm_X_fit s m args below meth c H locs 0 0 (MQ below (va_Qi (po_X_fit cA a xStraight xLeast nPosts nThirds nCorners nSums nArrows aBehind aAhead aCells aBefore aAfter bTold bStraight bLeast bPostsOf bSets bTotals Q) (xB D cA A) A) args s 0 0 A) (F0 m 25 ls [])) : ∀ (n : Nat) (x1 : Int) (x3 : Int), wp_X_fit_40 K25 Q xStraight nPosts nCorners nArrows x2 gCorners gLowest gFirst gFresh gThere gRow gPlaces gOver gVia gQueue n x1 x3 → ∀ (H : Heap) (locs : List Loc) (ls : Array Slot), XH D A s (wX cA a xStraight xLeast nPosts nThirds nCorners nSums nArrows aBehind aAhead aCells aBefore aAfter gCorners gLowest gFirst gFresh gThere gRow gPlaces gOver gVia gQueue bTold bStraight bLeast bPostsOf bSets bTotals) H locs → lv_has ls 4 [(0, .ref (a 0)), (1, .int (J x1)), (2, .int (J x2)), (3, .int (J x3))] → W p l e rm_X_fit s m args below meth c H locs 0 0 (MQ below (va_Qi (po_X_fit cA a xStraight xLeast nPosts nThirds nCorners nSums nArrows aBehind aAhead aCells aBefore aAfter bTold bStraight bLeast bPostsOf bSets bTotals Q) (xB D cA A) A) args s 0 0 A) (F0 m 40 ls []) := by
  intro n
  induction n with
  | zero => intro x1 x3 h; exact (show False from h).elim
  | succ n hK40 =>
    intro x1 x3 h H locs ls hH hl
    have h : wp_X_fit_40_b K25 (wp_X_fit_40 K25 Q xStraight nPosts nCorners nArrows x2 gCorners gLowest gFirst gFresh gThere gRow gPlaces gOver gVia gQueue n) Q xStraight nPosts nCorners nArrows x2 gCorners gLowest gFirst gFresh gThere gRow gPlaces gOver gVia gQueue x1 x3 := h
    unfold wp_X_fit_40_b at h
    refine j_iload_n C dX4_fit_40 (lv_at hl 3 rfl) ?_
    refine j_aload_n C dX4_fit_41 (lv_at hl 0 rfl) ?_
    refine xg_X4_net C hH dX4_fit_42 ?_
    refine xcallV_i (As := []) (rest := [.int (J x3)]) (q0 := 1) C hH (fun sz => c_N_postCount h) xl_X4_46 rfl rfl ⟨rfl, rfl⟩ ⟨Nat.le_of_ble_eq_true rfl, Nat.le_of_ble_eq_true rfl⟩ hl.1 rfl rfl (Nat.le_of_ble_eq_true rfl) dX4_fit_45 (fun r_ w_ H locs hw hH => ?_)
    obtain ⟨z_1, rfl, rfl, h⟩ := hw
    obtain ⟨g_2, h⟩ := h
    obtain ⟨g_3, h⟩ := h
    refine j_icmp_ge C 86 g_2 g_3 dX4_fit_48 (by decide) (fun c_4 => ?_) (fun c_4 => ?_)
    · have h := h.1 c_4
      refine j_iinc (k := 2) (v := x2 + 1) (lv' := [(2, .int (J (x2 + 1))), (0, .ref (a 0)), (1, .int (J x1)), (3, .int (J x3))]) C dX4_fit_86 hl rfl rfl (by decide) rfl (fun ls hl => ?_)
      refine j_goto C 25 dX4_fit_89 (by decide) ?_
      exact hK25 x1 (x2 + 1) h _ _ _ hH (lv_sub hl [1, 2, 0] rfl)
    · have h := h.2 c_4
      refine j_aload_n C dX4_fit_51 (lv_at hl 0 rfl) ?_
      refine xg_X4_net C hH dX4_fit_52 ?_
      refine j_iload_n C dX4_fit_55 (lv_at hl 2 rfl) ?_
      refine j_iload_n C dX4_fit_56 (lv_at hl 3 rfl) ?_
      refine xcallV_i (As := [.int (J x2), .int (J x3)]) (rest := []) (q0 := 1) C hH (fun sz => c_N_thirdsAtSide h) xl_X4_92 rfl rfl ⟨rfl, rfl⟩ ⟨Nat.le_of_ble_eq_true rfl, Nat.le_of_ble_eq_true rfl⟩ hl.1 rfl rfl (Nat.le_of_ble_eq_true rfl) dX4_fit_57 (fun r_ w_ H locs hw hH => ?_)
      obtain ⟨z_5, rfl, rfl, h⟩ := hw
      refine j_iconst C dX4_fit_60 ?_
      obtain ⟨g_6, h⟩ := h
      refine j_icmp_ne C 80 g_6 (by unfold jR; decide) dX4_fit_61 (by decide) (fun c_7 => ?_) (fun c_7 => ?_)
      · have h := h.2 c_7
        refine j_iinc (k := 3) (v := x3 + 1) (lv' := [(3, .int (J (x3 + 1))), (0, .ref (a 0)), (1, .int (J x1)), (2, .int (J x2))]) C dX4_fit_80 hl rfl rfl (by decide) rfl (fun ls hl => ?_)
        refine j_goto C 40 dX4_fit_83 (by decide) ?_
        exact hK40 x1 (x3 + 1) h _ _ _ hH (lv_sub hl [1, 2, 3, 0] rfl)
      · have h := h.1 c_7
        refine j_aload_n C dX4_fit_64 (lv_at hl 0 rfl) ?_
        refine j_iload_n C dX4_fit_65 (lv_at hl 2 rfl) ?_
        refine j_iload_n C dX4_fit_66 (lv_at hl 3 rfl) ?_
        refine xcallV_i (As := [.int (J x2), .int (J x3)]) (rest := []) (q0 := 0) C hH (fun sz => c_X_givenOpposite h) xl_X4_161 rfl rfl ⟨rfl, rfl⟩ ⟨Nat.le_of_ble_eq_true rfl, Nat.le_of_ble_eq_true rfl⟩ hl.1 rfl rfl (Nat.le_of_ble_eq_true rfl) dX4_fit_67 (fun r_ w_ H locs hw hH => ?_)
        obtain ⟨z_8, rfl, rfl, h⟩ := hw
        refine j_aload_n C dX4_fit_70 (lv_at hl 0 rfl) ?_
        refine xg_X4_straightIs C hH dX4_fit_71 ?_
        obtain ⟨g_9, h⟩ := h
        obtain ⟨g_10, h⟩ := h
        refine j_icmp_gt C 80 g_9 g_10 dX4_fit_74 (by decide) (fun c_11 => ?_) (fun c_11 => ?_)
        · have h := h.1 c_11
          refine j_iinc (k := 3) (v := x3 + 1) (lv' := [(3, .int (J (x3 + 1))), (0, .ref (a 0)), (1, .int (J x1)), (2, .int (J x2))]) C dX4_fit_80 hl rfl rfl (by decide) rfl (fun ls hl => ?_)
          refine j_goto C 40 dX4_fit_83 (by decide) ?_
          exact hK40 x1 (x3 + 1) h _ _ _ hH (lv_sub hl [1, 2, 3, 0] rfl)
        · have h := h.2 c_11
          refine j_iinc (k := 1) (v := x1 + 1) (lv' := [(1, .int (J (x1 + 1))), (0, .ref (a 0)), (2, .int (J x2)), (3, .int (J x3))]) C dX4_fit_77 hl rfl rfl (by decide) rfl (fun ls hl => ?_)
          refine j_iinc (k := 3) (v := x3 + 1) (lv' := [(3, .int (J (x3 + 1))), (1, .int (J (x1 + 1))), (0, .ref (a 0)), (2, .int (J x2))]) C dX4_fit_80 hl rfl rfl (by decide) rfl (fun ls hl => ?_)
          refine j_goto C 40 dX4_fit_83 (by decide) ?_
          exact hK40 (x1 + 1) (x3 + 1) h _ _ _ hH (lv_sub hl [2, 1, 3, 0] rfl)
set_option maxRecDepth 4000 in
theorem w_X_fit_25 {p : Program} {l : Launch} {e : Env} {s : State} {m : MethodId} {args : Array Value} {below : List Frame} {meth : Method} {c : Code} {D : va_G} {cA : ClassId} {A : Nat → Prop} {a : Nat → Nat} {xStraight xLeast nPosts nThirds : Int} {nCorners nSums nArrows : Nat → Int} {aBehind aAhead : Int} {aCells aBefore aAfter : Nat → Int} {gCorners gLowest gFirst gFresh gThere : Int} {gRow gPlaces gOver gVia gQueue : Nat → Int} {bTold bStraight bLeast : Int} {bPostsOf bSets bTotals : Nat → Int} (C : XC p s m args meth c cX4_fit 4 RX4 (some .int) D cA A) {Q : Int → Int → Int → Int → Int → Int → (Nat → Int) → (Nat → Int) → (Nat → Int) → (Nat → Int) → (Nat → Int) → Prop}  : ∀ (n : Nat) (x1 : Int) (x2 : Int), wp_X_fit_25 Q xStraight nPosts nCorners nArrows gCorners gLowest gFirst gFresh gThere gRow gPlaces gOver gVia gQueue n x1 x2 → ∀ (H : Heap) (locs : List Loc) (ls : Array Slot), XH D A s (wX cA a xStraight xLeast nPosts nThirds nCorners nSums nArrows aBehind aAhead aCells aBefore aAfter gCorners gLowest gFirst gFresh gThere gRow gPlaces gOver gVia gQueue bTold bStraight bLeast bPostsOf bSets bTotals) H locs → lv_has ls 4 [(0, .ref (a 0)), (1, .int (J x1)), (2, .int (J x2))] → W p l e rm_X_fit s m args below meth c H locs 0 0 (MQ below (va_Qi (po_X_fit cA a xStraight xLeast nPosts nThirds nCorners nSums nArrows aBehind aAhead aCells aBefore aAfter bTold bStraight bLeast bPostsOf bSets bTotals Q) (xB D cA A) A) args s 0 0 A) (F0 m 25 ls []) := by
  intro n
  induction n with
  | zero => intro x1 x2 h; exact (show False from h).elim
  | succ n hK25 =>
    intro x1 x2 h H locs ls hH hl
    have h : wp_X_fit_25_b  (wp_X_fit_25 Q xStraight nPosts nCorners nArrows gCorners gLowest gFirst gFresh gThere gRow gPlaces gOver gVia gQueue n) Q xStraight nPosts nCorners nArrows gCorners gLowest gFirst gFresh gThere gRow gPlaces gOver gVia gQueue x1 x2 := h
    unfold wp_X_fit_25_b at h
    refine j_iload_n C dX4_fit_25 (lv_at hl 2 rfl) ?_
    refine j_aload_n C dX4_fit_26 (lv_at hl 0 rfl) ?_
    refine xg_X4_net C hH dX4_fit_27 ?_
    refine xcallV_i (As := []) (rest := [.int (J x2)]) (q0 := 1) C hH (fun sz => c_N_postCount h) xl_X4_46 rfl rfl ⟨rfl, rfl⟩ ⟨Nat.le_of_ble_eq_true rfl, Nat.le_of_ble_eq_true rfl⟩ hl.1 rfl rfl (Nat.le_of_ble_eq_true rfl) dX4_fit_30 (fun r_ w_ H locs hw hH => ?_)
    obtain ⟨z_12, rfl, rfl, h⟩ := hw
    obtain ⟨g_13, h⟩ := h
    obtain ⟨g_14, h⟩ := h
    refine j_icmp_ge C 92 g_13 g_14 dX4_fit_33 (by decide) (fun c_15 => ?_) (fun c_15 => ?_)
    · have h := h.1 c_15
      refine j_iload_n C dX4_fit_92 (lv_at hl 1 rfl) ?_
      exact j_iret C hH ⟨_, _, _, _, _, _, _, _, _, _, _, rfl, rfl, h⟩ dX4_fit_93
    · have h := h.2 c_15
      refine j_iload_n C dX4_fit_36 (lv_at hl 2 rfl) ?_
      refine j_iconst C dX4_fit_37 ?_
      refine j_iadd C dX4_fit_38 ?_
      refine j_istore_n (lv' := [(3, .int (J (x2 + 1))), (0, .ref (a 0)), (1, .int (J x1)), (2, .int (J x2))]) C dX4_fit_39 hl (by decide) rfl (fun ls hl => ?_)
      obtain ⟨n_, h⟩ := h
      exact w_X_fit_40 C hK25 n_ x1 (x2 + 1) h _ _ _ hH (lv_sub hl [1, 2, 3, 0] rfl)
set_option maxRecDepth 4000 in
theorem c_X_fit {l : Launch} {D : va_G} {cA : ClassId} {a : Nat → Nat} {sz : Nat} {xStraight xLeast nPosts nThirds : Int} {nCorners nSums nArrows : Nat → Int} {aBehind aAhead : Int} {aCells aBefore aAfter : Nat → Int} {gCorners gLowest gFirst gFresh gThere : Int} {gRow gPlaces gOver gVia gQueue : Nat → Int} {bTold bStraight bLeast : Int} {bPostsOf bSets bTotals : Nat → Int} {Q : Int → Int → Int → Int → Int → Int → (Nat → Int) → (Nat → Int) → (Nat → Int) → (Nat → Int) → (Nat → Int) → Prop} (h : wp_X_fit  xStraight xLeast nPosts nThirds nCorners nSums nArrows gCorners gLowest gFirst gFresh gThere gRow gPlaces gOver gVia gQueue Q) : Met l yX4_fit (.code yX4_fit cX4_fit 4 (some .int) :: lw_ok) rm_X_fit (xPre D cA sz [.ref (a 0)] (wX cA a xStraight xLeast nPosts nThirds nCorners nSums nArrows aBehind aAhead aCells aBefore aAfter gCorners gLowest gFirst gFresh gThere gRow gPlaces gOver gVia gQueue bTold bStraight bLeast bPostsOf bSets bTotals)) (va_Qi (po_X_fit cA a xStraight xLeast nPosts nThirds nCorners nSums nArrows aBehind aAhead aCells aBefore aAfter bTold bStraight bLeast bPostsOf bSets bTotals Q) (xB D cA (va_A (wX cA a xStraight xLeast nPosts nThirds nCorners nSums nArrows aBehind aAhead aCells aBefore aAfter gCorners gLowest gFirst gFresh gThere gRow gPlaces gOver gVia gQueue bTold bStraight bLeast bPostsOf bSets bTotals) sz)) (va_A (wX cA a xStraight xLeast nPosts nThirds nCorners nSums nArrows aBehind aAhead aCells aBefore aAfter gCorners gLowest gFirst gFresh gThere gRow gPlaces gOver gVia gQueue bTold bStraight bLeast bPostsOf bSets bTotals) sz)) 0 0 (va_A (wX cA a xStraight xLeast nPosts nThirds nCorners nSums nArrows aBehind aAhead aCells aBefore aAfter gCorners gLowest gFirst gFresh gThere gRow gPlaces gOver gVia gQueue bTold bStraight bLeast bPostsOf bSets bTotals) sz) := by
  refine xmet_i (by decide) (Nat.le_of_ble_eq_true rfl) ?_
  intro p e s m args below meth c A ls C hH hl
  have C : XC p s m args meth c cX4_fit 4 RX4 (some .int) D cA A := C
  have hl : lv_has ls 4 [(0, .ref (a 0))] := hl
  unfold wp_X_fit at h
  refine j_aload_n C dX4_fit_0 (lv_at hl 0 rfl) ?_
  refine xg_X4_giver C hH dX4_fit_1 ?_
  refine j_aload_n C dX4_fit_4 (lv_at hl 0 rfl) ?_
  refine xg_X4_straightIs C hH dX4_fit_5 ?_
  refine j_aload_n C dX4_fit_8 (lv_at hl 0 rfl) ?_
  refine xg_X4_leastIs C hH dX4_fit_9 ?_
  refine xcallV_i (As := [.int (J xStraight), .int (J xLeast)]) (rest := []) (q0 := 9) C hH (fun sz => c_G_findRow h) xl_X4_126 rfl rfl ⟨rfl, rfl⟩ ⟨Nat.le_of_ble_eq_true rfl, Nat.le_of_ble_eq_true rfl⟩ hl.1 rfl rfl (Nat.le_of_ble_eq_true rfl) dX4_fit_12 (fun r_ w_ H locs hw hH => ?_)
  obtain ⟨z_16, gCorners_17, gLowest_18, gFirst_19, gFresh_20, gThere_21, gRow_22, gPlaces_23, gOver_24, gVia_25, gQueue_26, rfl, rfl, h⟩ := hw
  obtain ⟨g_27, h⟩ := h
  refine j_if_ne C 21 g_27 dX4_fit_15 (by decide) (fun c_28 => ?_) (fun c_28 => ?_)
  · have h := h.2 c_28
    refine j_iconst C dX4_fit_21 ?_
    refine j_istore_n (lv' := [(1, .int (J 0)), (0, .ref (a 0))]) C dX4_fit_22 hl (by decide) rfl (fun ls hl => ?_)
    refine j_iconst C dX4_fit_23 ?_
    refine j_istore_n (lv' := [(2, .int (J 0)), (1, .int (J 0)), (0, .ref (a 0))]) C dX4_fit_24 hl (by decide) rfl (fun ls hl => ?_)
    obtain ⟨n_, h⟩ := h
    exact w_X_fit_25 C  n_ 0 0 h _ _ _ hH (lv_sub hl [2, 1, 0] rfl)
  · have h := h.1 c_28
    refine j_bipush C (by decide +kernel) dX4_fit_18 ?_
    exact j_iret C hH ⟨_, _, _, _, _, _, _, _, _, _, _, rfl, rfl, h⟩ dX4_fit_20
abbrev po_X_undo (cA : ClassId) (a : Nat → Nat) (xStraight xLeast nPosts : Int) (aCells aBefore aAfter : Nat → Int) (gCorners gLowest gFirst gThere : Int) (gRow gPlaces gOver gVia gQueue : Nat → Int) (bTold bStraight bLeast : Int) (bPostsOf bSets bTotals : Nat → Int) (Q : Int → Int → (Nat → Int) → (Nat → Int) → (Nat → Int) → Int → Int → Int → Prop) : Int32 → va_W → Prop := fun r w => ∃ z nThirds' nCorners' nSums' nArrows' aBehind' aAhead' gFresh', r = J z ∧ w = wX cA a xStraight xLeast nPosts nThirds' nCorners' nSums' nArrows' aBehind' aAhead' aCells aBefore aAfter gCorners gLowest gFirst gFresh' gThere gRow gPlaces gOver gVia gQueue bTold bStraight bLeast bPostsOf bSets bTotals ∧ Q z nThirds' nCorners' nSums' nArrows' aBehind' aAhead' gFresh'
set_option maxRecDepth 4000 in
theorem c_X_undo {l : Launch} {D : va_G} {cA : ClassId} {a : Nat → Nat} {sz : Nat} {xStraight xLeast nPosts nThirds : Int} {nCorners nSums nArrows : Nat → Int} {aBehind aAhead : Int} {aCells aBefore aAfter : Nat → Int} {gCorners gLowest gFirst gFresh gThere : Int} {gRow gPlaces gOver gVia gQueue : Nat → Int} {bTold bStraight bLeast : Int} {bPostsOf bSets bTotals : Nat → Int} {Q : Int → Int → (Nat → Int) → (Nat → Int) → (Nat → Int) → Int → Int → Int → Prop} (h : wp_X_undo  nThirds nCorners nSums nArrows aBehind aAhead aCells aBefore gFresh Q) : Met l yX4_undo (.code yX4_undo cX4_undo 1 (some .int) :: lw_ok) rm_X_undo (xPre D cA sz [.ref (a 0)] (wX cA a xStraight xLeast nPosts nThirds nCorners nSums nArrows aBehind aAhead aCells aBefore aAfter gCorners gLowest gFirst gFresh gThere gRow gPlaces gOver gVia gQueue bTold bStraight bLeast bPostsOf bSets bTotals)) (va_Qi (po_X_undo cA a xStraight xLeast nPosts aCells aBefore aAfter gCorners gLowest gFirst gThere gRow gPlaces gOver gVia gQueue bTold bStraight bLeast bPostsOf bSets bTotals Q) (xB D cA (va_A (wX cA a xStraight xLeast nPosts nThirds nCorners nSums nArrows aBehind aAhead aCells aBefore aAfter gCorners gLowest gFirst gFresh gThere gRow gPlaces gOver gVia gQueue bTold bStraight bLeast bPostsOf bSets bTotals) sz)) (va_A (wX cA a xStraight xLeast nPosts nThirds nCorners nSums nArrows aBehind aAhead aCells aBefore aAfter gCorners gLowest gFirst gFresh gThere gRow gPlaces gOver gVia gQueue bTold bStraight bLeast bPostsOf bSets bTotals) sz)) 0 0 (va_A (wX cA a xStraight xLeast nPosts nThirds nCorners nSums nArrows aBehind aAhead aCells aBefore aAfter gCorners gLowest gFirst gFresh gThere gRow gPlaces gOver gVia gQueue bTold bStraight bLeast bPostsOf bSets bTotals) sz) := by
  refine xmet_i (by decide) (Nat.le_of_ble_eq_true rfl) ?_
  intro p e s m args below meth c A ls C hH hl
  have C : XC p s m args meth c cX4_undo 1 RX4 (some .int) D cA A := C
  have hl : lv_has ls 1 [(0, .ref (a 0))] := hl
  unfold wp_X_undo at h
  refine j_aload_n C dX4_undo_0 (lv_at hl 0 rfl) ?_
  refine xg_X4_acts C hH dX4_undo_1 ?_
  refine xcallV_i (As := []) (rest := []) (q0 := 5) C hH (fun sz => c_A_behind h) xl_X4_164 rfl rfl ⟨rfl, rfl⟩ ⟨Nat.le_of_ble_eq_true rfl, Nat.le_of_ble_eq_true rfl⟩ hl.1 rfl rfl (Nat.le_of_ble_eq_true rfl) dX4_undo_4 (fun r_ w_ H locs hw hH => ?_)
  obtain ⟨z_1, rfl, rfl, h⟩ := hw
  obtain ⟨g_2, h⟩ := h
  refine j_if_ne C 13 g_2 dX4_undo_7 (by decide) (fun c_3 => ?_) (fun c_3 => ?_)
  · have h := h.2 c_3
    refine j_aload_n C dX4_undo_13 (lv_at hl 0 rfl) ?_
    refine xg_X4_acts C hH dX4_undo_14 ?_
    refine j_aload_n C dX4_undo_17 (lv_at hl 0 rfl) ?_
    refine xg_X4_net C hH dX4_undo_18 ?_
    refine xcallV_v (As := [.ref (a 1)]) (rest := []) (q0 := 5) C hH (fun sz => c_A_backward h) xl_X4_167 rfl rfl ⟨rfl, rfl⟩ ⟨Nat.le_of_ble_eq_true rfl, Nat.le_of_ble_eq_true rfl⟩ hl.1 rfl rfl (Nat.le_of_ble_eq_true rfl) dX4_undo_21 (fun w_ H locs hw hH => ?_)
    obtain ⟨nThirds_4, nCorners_5, nSums_6, nArrows_7, aBehind_8, aAhead_9, rfl, h⟩ := hw
    refine j_aload_n C dX4_undo_24 (lv_at hl 0 rfl) ?_
    refine xg_X4_giver C hH dX4_undo_25 ?_
    refine xcallV_v (As := []) (rest := []) (q0 := 9) C hH (fun sz => c_G_forgetRow h) xl_X4_57 rfl rfl ⟨rfl, rfl⟩ ⟨Nat.le_of_ble_eq_true rfl, Nat.le_of_ble_eq_true rfl⟩ hl.1 rfl rfl (Nat.le_of_ble_eq_true rfl) dX4_undo_28 (fun w_ H locs hw hH => ?_)
    obtain ⟨gFresh_10, rfl, h⟩ := hw
    refine j_aload_n C dX4_undo_31 (lv_at hl 0 rfl) ?_
    refine xg_X4_acts C hH dX4_undo_32 ?_
    refine xcallV_i (As := []) (rest := []) (q0 := 5) C hH (fun sz => c_A_behind h) xl_X4_164 rfl rfl ⟨rfl, rfl⟩ ⟨Nat.le_of_ble_eq_true rfl, Nat.le_of_ble_eq_true rfl⟩ hl.1 rfl rfl (Nat.le_of_ble_eq_true rfl) dX4_undo_35 (fun r_ w_ H locs hw hH => ?_)
    obtain ⟨z_11, rfl, rfl, h⟩ := hw
    exact j_iret C hH ⟨_, _, _, _, _, _, _, _, rfl, rfl, h⟩ dX4_undo_38
  · have h := h.1 c_3
    refine j_bipush C (by decide +kernel) dX4_undo_10 ?_
    exact j_iret C hH ⟨_, _, _, _, _, _, _, _, rfl, rfl, h⟩ dX4_undo_12

abbrev po_N_hasPost (cA : ClassId) (a : Nat → Nat) (xStraight xLeast nPosts nThirds : Int) (nCorners nSums nArrows : Nat → Int) (aBehind aAhead : Int) (aCells aBefore aAfter : Nat → Int) (gCorners gLowest gFirst gFresh gThere : Int) (gRow gPlaces gOver gVia gQueue : Nat → Int) (bTold bStraight bLeast : Int) (bPostsOf bSets bTotals : Nat → Int) (Q : Int → Prop) : Int32 → va_W → Prop := fun r w => ∃ z, r = J z ∧ w = wX cA a xStraight xLeast nPosts nThirds nCorners nSums nArrows aBehind aAhead aCells aBefore aAfter gCorners gLowest gFirst gFresh gThere gRow gPlaces gOver gVia gQueue bTold bStraight bLeast bPostsOf bSets bTotals ∧ Q z
set_option maxRecDepth 4000 in
theorem c_N_hasPost {l : Launch} {D : va_G} {cA : ClassId} {a : Nat → Nat} {sz : Nat} {xStraight xLeast nPosts nThirds : Int} {nCorners nSums nArrows : Nat → Int} {aBehind aAhead : Int} {aCells aBefore aAfter : Nat → Int} {gCorners gLowest gFirst gFresh gThere : Int} {gRow gPlaces gOver gVia gQueue : Nat → Int} {bTold bStraight bLeast : Int} {bPostsOf bSets bTotals : Nat → Int} {x1 : Int} {Q : Int → Prop} (h : wp_N_hasPost x1 nPosts Q) : Met l yX3_hasPost (.code yX3_hasPost cX3_hasPost 2 (some .boolean) :: lw_ok) rm_N_hasPost (xPre D cA sz [.ref (a 1), .int (J x1)] (wX cA a xStraight xLeast nPosts nThirds nCorners nSums nArrows aBehind aAhead aCells aBefore aAfter gCorners gLowest gFirst gFresh gThere gRow gPlaces gOver gVia gQueue bTold bStraight bLeast bPostsOf bSets bTotals)) (va_Qi (po_N_hasPost cA a xStraight xLeast nPosts nThirds nCorners nSums nArrows aBehind aAhead aCells aBefore aAfter gCorners gLowest gFirst gFresh gThere gRow gPlaces gOver gVia gQueue bTold bStraight bLeast bPostsOf bSets bTotals Q) (xB D cA (va_A (wX cA a xStraight xLeast nPosts nThirds nCorners nSums nArrows aBehind aAhead aCells aBefore aAfter gCorners gLowest gFirst gFresh gThere gRow gPlaces gOver gVia gQueue bTold bStraight bLeast bPostsOf bSets bTotals) sz)) (va_A (wX cA a xStraight xLeast nPosts nThirds nCorners nSums nArrows aBehind aAhead aCells aBefore aAfter gCorners gLowest gFirst gFresh gThere gRow gPlaces gOver gVia gQueue bTold bStraight bLeast bPostsOf bSets bTotals) sz)) 0 0 (va_A (wX cA a xStraight xLeast nPosts nThirds nCorners nSums nArrows aBehind aAhead aCells aBefore aAfter gCorners gLowest gFirst gFresh gThere gRow gPlaces gOver gVia gQueue bTold bStraight bLeast bPostsOf bSets bTotals) sz) := by
  refine xmet_i (by decide) (Nat.le_of_ble_eq_true rfl) ?_
  intro p e s m args below meth c A ls C hH hl
  have C : XC p s m args meth c cX3_hasPost 2 RX3 (some .boolean) D cA A := C
  have hl : lv_has ls 2 [(0, .ref (a 1)), (1, .int (J x1))] := hl
  unfold wp_N_hasPost at h
  refine j_iload_n C dX3_hasPost_0 (lv_at hl 1 rfl) ?_
  obtain ⟨g_1, h⟩ := h
  refine j_if_lt C 16 g_1 dX3_hasPost_1 (by decide) (fun c_2 => ?_) (fun c_2 => ?_)
  · have h := h.1 c_2
    refine j_iconst C dX3_hasPost_16 ?_
    exact j_zret C hH (Or.inl rfl) ⟨_, rfl, rfl, h⟩ dX3_hasPost_17
  · have h := h.2 c_2
    refine j_iload_n C dX3_hasPost_4 (lv_at hl 1 rfl) ?_
    refine j_aload_n C dX3_hasPost_5 (lv_at hl 0 rfl) ?_
    refine xg_X3_posts C hH dX3_hasPost_6 ?_
    obtain ⟨g_3, h⟩ := h
    refine j_icmp_ge C 16 g_1 g_3 dX3_hasPost_9 (by decide) (fun c_4 => ?_) (fun c_4 => ?_)
    · have h := h.1 c_4
      refine j_iconst C dX3_hasPost_16 ?_
      exact j_zret C hH (Or.inl rfl) ⟨_, rfl, rfl, h⟩ dX3_hasPost_17
    · have h := h.2 c_4
      refine j_iconst C dX3_hasPost_12 ?_
      refine j_goto C 17 dX3_hasPost_13 (by decide) ?_
      exact j_zret C hH (Or.inr rfl) ⟨_, rfl, rfl, h⟩ dX3_hasPost_17
abbrev po_N_hasCorner (cA : ClassId) (a : Nat → Nat) (xStraight xLeast nPosts nThirds : Int) (nCorners nSums nArrows : Nat → Int) (aBehind aAhead : Int) (aCells aBefore aAfter : Nat → Int) (gCorners gLowest gFirst gFresh gThere : Int) (gRow gPlaces gOver gVia gQueue : Nat → Int) (bTold bStraight bLeast : Int) (bPostsOf bSets bTotals : Nat → Int) (Q : Int → Prop) : Int32 → va_W → Prop := fun r w => ∃ z, r = J z ∧ w = wX cA a xStraight xLeast nPosts nThirds nCorners nSums nArrows aBehind aAhead aCells aBefore aAfter gCorners gLowest gFirst gFresh gThere gRow gPlaces gOver gVia gQueue bTold bStraight bLeast bPostsOf bSets bTotals ∧ Q z
set_option maxRecDepth 4000 in
theorem c_N_hasCorner {l : Launch} {D : va_G} {cA : ClassId} {a : Nat → Nat} {sz : Nat} {xStraight xLeast nPosts nThirds : Int} {nCorners nSums nArrows : Nat → Int} {aBehind aAhead : Int} {aCells aBefore aAfter : Nat → Int} {gCorners gLowest gFirst gFresh gThere : Int} {gRow gPlaces gOver gVia gQueue : Nat → Int} {bTold bStraight bLeast : Int} {bPostsOf bSets bTotals : Nat → Int} {x1 : Int} {Q : Int → Prop} (h : wp_N_hasCorner x1 nThirds Q) : Met l yX3_hasCorner (.code yX3_hasCorner cX3_hasCorner 2 (some .boolean) :: lw_ok) rm_N_hasCorner (xPre D cA sz [.ref (a 1), .int (J x1)] (wX cA a xStraight xLeast nPosts nThirds nCorners nSums nArrows aBehind aAhead aCells aBefore aAfter gCorners gLowest gFirst gFresh gThere gRow gPlaces gOver gVia gQueue bTold bStraight bLeast bPostsOf bSets bTotals)) (va_Qi (po_N_hasCorner cA a xStraight xLeast nPosts nThirds nCorners nSums nArrows aBehind aAhead aCells aBefore aAfter gCorners gLowest gFirst gFresh gThere gRow gPlaces gOver gVia gQueue bTold bStraight bLeast bPostsOf bSets bTotals Q) (xB D cA (va_A (wX cA a xStraight xLeast nPosts nThirds nCorners nSums nArrows aBehind aAhead aCells aBefore aAfter gCorners gLowest gFirst gFresh gThere gRow gPlaces gOver gVia gQueue bTold bStraight bLeast bPostsOf bSets bTotals) sz)) (va_A (wX cA a xStraight xLeast nPosts nThirds nCorners nSums nArrows aBehind aAhead aCells aBefore aAfter gCorners gLowest gFirst gFresh gThere gRow gPlaces gOver gVia gQueue bTold bStraight bLeast bPostsOf bSets bTotals) sz)) 0 0 (va_A (wX cA a xStraight xLeast nPosts nThirds nCorners nSums nArrows aBehind aAhead aCells aBefore aAfter gCorners gLowest gFirst gFresh gThere gRow gPlaces gOver gVia gQueue bTold bStraight bLeast bPostsOf bSets bTotals) sz) := by
  refine xmet_i (by decide) (Nat.le_of_ble_eq_true rfl) ?_
  intro p e s m args below meth c A ls C hH hl
  have C : XC p s m args meth c cX3_hasCorner 2 RX3 (some .boolean) D cA A := C
  have hl : lv_has ls 2 [(0, .ref (a 1)), (1, .int (J x1))] := hl
  unfold wp_N_hasCorner at h
  refine j_iload_n C dX3_hasCorner_0 (lv_at hl 1 rfl) ?_
  obtain ⟨g_1, h⟩ := h
  refine j_if_lt C 16 g_1 dX3_hasCorner_1 (by decide) (fun c_2 => ?_) (fun c_2 => ?_)
  · have h := h.1 c_2
    refine j_iconst C dX3_hasCorner_16 ?_
    exact j_zret C hH (Or.inl rfl) ⟨_, rfl, rfl, h⟩ dX3_hasCorner_17
  · have h := h.2 c_2
    refine j_iload_n C dX3_hasCorner_4 (lv_at hl 1 rfl) ?_
    refine j_aload_n C dX3_hasCorner_5 (lv_at hl 0 rfl) ?_
    refine xcallV_i (As := []) (rest := [.int (J x1)]) (q0 := 1) C hH (fun sz => c_N_cornerCount h) xl_X3_47 rfl rfl ⟨rfl, rfl⟩ ⟨Nat.le_of_ble_eq_true rfl, Nat.le_of_ble_eq_true rfl⟩ hl.1 rfl rfl (Nat.le_of_ble_eq_true rfl) dX3_hasCorner_6 (fun r_ w_ H locs hw hH => ?_)
    obtain ⟨z_3, rfl, rfl, h⟩ := hw
    obtain ⟨g_4, h⟩ := h
    refine j_icmp_ge C 16 g_1 g_4 dX3_hasCorner_9 (by decide) (fun c_5 => ?_) (fun c_5 => ?_)
    · have h := h.1 c_5
      refine j_iconst C dX3_hasCorner_16 ?_
      exact j_zret C hH (Or.inl rfl) ⟨_, rfl, rfl, h⟩ dX3_hasCorner_17
    · have h := h.2 c_5
      refine j_iconst C dX3_hasCorner_12 ?_
      refine j_goto C 17 dX3_hasCorner_13 (by decide) ?_
      exact j_zret C hH (Or.inr rfl) ⟨_, rfl, rfl, h⟩ dX3_hasCorner_17
abbrev po_N_areUnlike (cA : ClassId) (a : Nat → Nat) (xStraight xLeast nPosts nThirds : Int) (nCorners nSums nArrows : Nat → Int) (aBehind aAhead : Int) (aCells aBefore aAfter : Nat → Int) (gCorners gLowest gFirst gFresh gThere : Int) (gRow gPlaces gOver gVia gQueue : Nat → Int) (bTold bStraight bLeast : Int) (bPostsOf bSets bTotals : Nat → Int) (Q : Int → Prop) : Int32 → va_W → Prop := fun r w => ∃ z, r = J z ∧ w = wX cA a xStraight xLeast nPosts nThirds nCorners nSums nArrows aBehind aAhead aCells aBefore aAfter gCorners gLowest gFirst gFresh gThere gRow gPlaces gOver gVia gQueue bTold bStraight bLeast bPostsOf bSets bTotals ∧ Q z
set_option maxRecDepth 4000 in
theorem c_N_areUnlike {l : Launch} {D : va_G} {cA : ClassId} {a : Nat → Nat} {sz : Nat} {xStraight xLeast nPosts nThirds : Int} {nCorners nSums nArrows : Nat → Int} {aBehind aAhead : Int} {aCells aBefore aAfter : Nat → Int} {gCorners gLowest gFirst gFresh gThere : Int} {gRow gPlaces gOver gVia gQueue : Nat → Int} {bTold bStraight bLeast : Int} {bPostsOf bSets bTotals : Nat → Int} {x1 x2 : Int} {Q : Int → Prop} (h : wp_N_areUnlike x1 x2 nPosts Q) : Met l yX3_areUnlike (.code yX3_areUnlike cX3_areUnlike 3 (some .boolean) :: lw_ok) rm_N_areUnlike (xPre D cA sz [.ref (a 1), .int (J x1), .int (J x2)] (wX cA a xStraight xLeast nPosts nThirds nCorners nSums nArrows aBehind aAhead aCells aBefore aAfter gCorners gLowest gFirst gFresh gThere gRow gPlaces gOver gVia gQueue bTold bStraight bLeast bPostsOf bSets bTotals)) (va_Qi (po_N_areUnlike cA a xStraight xLeast nPosts nThirds nCorners nSums nArrows aBehind aAhead aCells aBefore aAfter gCorners gLowest gFirst gFresh gThere gRow gPlaces gOver gVia gQueue bTold bStraight bLeast bPostsOf bSets bTotals Q) (xB D cA (va_A (wX cA a xStraight xLeast nPosts nThirds nCorners nSums nArrows aBehind aAhead aCells aBefore aAfter gCorners gLowest gFirst gFresh gThere gRow gPlaces gOver gVia gQueue bTold bStraight bLeast bPostsOf bSets bTotals) sz)) (va_A (wX cA a xStraight xLeast nPosts nThirds nCorners nSums nArrows aBehind aAhead aCells aBefore aAfter gCorners gLowest gFirst gFresh gThere gRow gPlaces gOver gVia gQueue bTold bStraight bLeast bPostsOf bSets bTotals) sz)) 0 0 (va_A (wX cA a xStraight xLeast nPosts nThirds nCorners nSums nArrows aBehind aAhead aCells aBefore aAfter gCorners gLowest gFirst gFresh gThere gRow gPlaces gOver gVia gQueue bTold bStraight bLeast bPostsOf bSets bTotals) sz) := by
  refine xmet_i (by decide) (Nat.le_of_ble_eq_true rfl) ?_
  intro p e s m args below meth c A ls C hH hl
  have C : XC p s m args meth c cX3_areUnlike 3 RX3 (some .boolean) D cA A := C
  have hl : lv_has ls 3 [(0, .ref (a 1)), (1, .int (J x1)), (2, .int (J x2))] := hl
  unfold wp_N_areUnlike at h
  refine j_aload_n C dX3_areUnlike_0 (lv_at hl 0 rfl) ?_
  refine j_iload_n C dX3_areUnlike_1 (lv_at hl 1 rfl) ?_
  refine xcallV_i (As := [.int (J x1)]) (rest := []) (q0 := 1) C hH (fun sz => c_N_hasPost h) xl_X3_51 rfl rfl ⟨rfl, rfl⟩ ⟨Nat.le_of_ble_eq_true rfl, Nat.le_of_ble_eq_true rfl⟩ hl.1 rfl rfl (Nat.le_of_ble_eq_true rfl) dX3_areUnlike_2 (fun r_ w_ H locs hw hH => ?_)
  obtain ⟨z_1, rfl, rfl, h⟩ := hw
  obtain ⟨g_2, h⟩ := h
  refine j_if_eq C 25 g_2 dX3_areUnlike_5 (by decide) (fun c_3 => ?_) (fun c_3 => ?_)
  · have h := h.1 c_3
    refine j_iconst C dX3_areUnlike_25 ?_
    exact j_zret C hH (Or.inl rfl) ⟨_, rfl, rfl, h⟩ dX3_areUnlike_26
  · have h := h.2 c_3
    refine j_aload_n C dX3_areUnlike_8 (lv_at hl 0 rfl) ?_
    refine j_iload_n C dX3_areUnlike_9 (lv_at hl 2 rfl) ?_
    refine xcallV_i (As := [.int (J x2)]) (rest := []) (q0 := 1) C hH (fun sz => c_N_hasPost h) xl_X3_51 rfl rfl ⟨rfl, rfl⟩ ⟨Nat.le_of_ble_eq_true rfl, Nat.le_of_ble_eq_true rfl⟩ hl.1 rfl rfl (Nat.le_of_ble_eq_true rfl) dX3_areUnlike_10 (fun r_ w_ H locs hw hH => ?_)
    obtain ⟨z_4, rfl, rfl, h⟩ := hw
    obtain ⟨g_5, h⟩ := h
    refine j_if_eq C 25 g_5 dX3_areUnlike_13 (by decide) (fun c_6 => ?_) (fun c_6 => ?_)
    · have h := h.1 c_6
      refine j_iconst C dX3_areUnlike_25 ?_
      exact j_zret C hH (Or.inl rfl) ⟨_, rfl, rfl, h⟩ dX3_areUnlike_26
    · have h := h.2 c_6
      refine j_iload_n C dX3_areUnlike_16 (lv_at hl 1 rfl) ?_
      refine j_iload_n C dX3_areUnlike_17 (lv_at hl 2 rfl) ?_
      obtain ⟨g_7, h⟩ := h
      obtain ⟨g_8, h⟩ := h
      refine j_icmp_eq C 25 g_7 g_8 dX3_areUnlike_18 (by decide) (fun c_9 => ?_) (fun c_9 => ?_)
      · have h := h.1 c_9
        refine j_iconst C dX3_areUnlike_25 ?_
        exact j_zret C hH (Or.inl rfl) ⟨_, rfl, rfl, h⟩ dX3_areUnlike_26
      · have h := h.2 c_9
        refine j_iconst C dX3_areUnlike_21 ?_
        refine j_goto C 26 dX3_areUnlike_22 (by decide) ?_
        exact j_zret C hH (Or.inr rfl) ⟨_, rfl, rfl, h⟩ dX3_areUnlike_26
abbrev po_N_thirdWith (cA : ClassId) (a : Nat → Nat) (xStraight xLeast nPosts nThirds : Int) (nCorners nSums nArrows : Nat → Int) (aBehind aAhead : Int) (aCells aBefore aAfter : Nat → Int) (gCorners gLowest gFirst gFresh gThere : Int) (gRow gPlaces gOver gVia gQueue : Nat → Int) (bTold bStraight bLeast : Int) (bPostsOf bSets bTotals : Nat → Int) (Q : Int → Prop) : Int32 → va_W → Prop := fun r w => ∃ z, r = J z ∧ w = wX cA a xStraight xLeast nPosts nThirds nCorners nSums nArrows aBehind aAhead aCells aBefore aAfter gCorners gLowest gFirst gFresh gThere gRow gPlaces gOver gVia gQueue bTold bStraight bLeast bPostsOf bSets bTotals ∧ Q z
set_option maxRecDepth 4000 in
theorem c_N_thirdWith {l : Launch} {D : va_G} {cA : ClassId} {a : Nat → Nat} {sz : Nat} {xStraight xLeast nPosts nThirds : Int} {nCorners nSums nArrows : Nat → Int} {aBehind aAhead : Int} {aCells aBefore aAfter : Nat → Int} {gCorners gLowest gFirst gFresh gThere : Int} {gRow gPlaces gOver gVia gQueue : Nat → Int} {bTold bStraight bLeast : Int} {bPostsOf bSets bTotals : Nat → Int} {x1 x2 : Int} {Q : Int → Prop} (h : wp_N_thirdWith x1 x2 nArrows Q) : Met l yX3_thirdWith (.code yX3_thirdWith cX3_thirdWith 3 (some .int) :: lw_ok) rm_N_thirdWith (xPre D cA sz [.ref (a 1), .int (J x1), .int (J x2)] (wX cA a xStraight xLeast nPosts nThirds nCorners nSums nArrows aBehind aAhead aCells aBefore aAfter gCorners gLowest gFirst gFresh gThere gRow gPlaces gOver gVia gQueue bTold bStraight bLeast bPostsOf bSets bTotals)) (va_Qi (po_N_thirdWith cA a xStraight xLeast nPosts nThirds nCorners nSums nArrows aBehind aAhead aCells aBefore aAfter gCorners gLowest gFirst gFresh gThere gRow gPlaces gOver gVia gQueue bTold bStraight bLeast bPostsOf bSets bTotals Q) (xB D cA (va_A (wX cA a xStraight xLeast nPosts nThirds nCorners nSums nArrows aBehind aAhead aCells aBefore aAfter gCorners gLowest gFirst gFresh gThere gRow gPlaces gOver gVia gQueue bTold bStraight bLeast bPostsOf bSets bTotals) sz)) (va_A (wX cA a xStraight xLeast nPosts nThirds nCorners nSums nArrows aBehind aAhead aCells aBefore aAfter gCorners gLowest gFirst gFresh gThere gRow gPlaces gOver gVia gQueue bTold bStraight bLeast bPostsOf bSets bTotals) sz)) 0 0 (va_A (wX cA a xStraight xLeast nPosts nThirds nCorners nSums nArrows aBehind aAhead aCells aBefore aAfter gCorners gLowest gFirst gFresh gThere gRow gPlaces gOver gVia gQueue bTold bStraight bLeast bPostsOf bSets bTotals) sz) := by
  refine xmet_i (by decide) (Nat.le_of_ble_eq_true rfl) ?_
  intro p e s m args below meth c A ls C hH hl
  have C : XC p s m args meth c cX3_thirdWith 3 RX3 (some .int) D cA A := C
  have hl : lv_has ls 3 [(0, .ref (a 1)), (1, .int (J x1)), (2, .int (J x2))] := hl
  unfold wp_N_thirdWith at h
  refine j_aload_n C dX3_thirdWith_0 (lv_at hl 0 rfl) ?_
  refine xg_X3_arrows C hH dX3_thirdWith_1 ?_
  refine j_iload_n C dX3_thirdWith_4 (lv_at hl 1 rfl) ?_
  refine j_bipush C (by decide +kernel) dX3_thirdWith_5 ?_
  refine j_imul C dX3_thirdWith_7 ?_
  refine j_iload_n C dX3_thirdWith_8 (lv_at hl 2 rfl) ?_
  refine j_iadd C dX3_thirdWith_9 ?_
  obtain ⟨b_1, h⟩ := h
  refine xa_nArrows C hH b_1 dX3_thirdWith_10 ?_
  exact j_iret C hH ⟨_, rfl, rfl, h⟩ dX3_thirdWith_11
abbrev po_N_hasArrow (cA : ClassId) (a : Nat → Nat) (xStraight xLeast nPosts nThirds : Int) (nCorners nSums nArrows : Nat → Int) (aBehind aAhead : Int) (aCells aBefore aAfter : Nat → Int) (gCorners gLowest gFirst gFresh gThere : Int) (gRow gPlaces gOver gVia gQueue : Nat → Int) (bTold bStraight bLeast : Int) (bPostsOf bSets bTotals : Nat → Int) (Q : Int → Prop) : Int32 → va_W → Prop := fun r w => ∃ z, r = J z ∧ w = wX cA a xStraight xLeast nPosts nThirds nCorners nSums nArrows aBehind aAhead aCells aBefore aAfter gCorners gLowest gFirst gFresh gThere gRow gPlaces gOver gVia gQueue bTold bStraight bLeast bPostsOf bSets bTotals ∧ Q z
set_option maxRecDepth 4000 in
theorem c_N_hasArrow {l : Launch} {D : va_G} {cA : ClassId} {a : Nat → Nat} {sz : Nat} {xStraight xLeast nPosts nThirds : Int} {nCorners nSums nArrows : Nat → Int} {aBehind aAhead : Int} {aCells aBefore aAfter : Nat → Int} {gCorners gLowest gFirst gFresh gThere : Int} {gRow gPlaces gOver gVia gQueue : Nat → Int} {bTold bStraight bLeast : Int} {bPostsOf bSets bTotals : Nat → Int} {x1 x2 : Int} {Q : Int → Prop} (h : wp_N_hasArrow x1 x2 nArrows Q) : Met l yX3_hasArrow (.code yX3_hasArrow cX3_hasArrow 3 (some .boolean) :: lw_ok) rm_N_hasArrow (xPre D cA sz [.ref (a 1), .int (J x1), .int (J x2)] (wX cA a xStraight xLeast nPosts nThirds nCorners nSums nArrows aBehind aAhead aCells aBefore aAfter gCorners gLowest gFirst gFresh gThere gRow gPlaces gOver gVia gQueue bTold bStraight bLeast bPostsOf bSets bTotals)) (va_Qi (po_N_hasArrow cA a xStraight xLeast nPosts nThirds nCorners nSums nArrows aBehind aAhead aCells aBefore aAfter gCorners gLowest gFirst gFresh gThere gRow gPlaces gOver gVia gQueue bTold bStraight bLeast bPostsOf bSets bTotals Q) (xB D cA (va_A (wX cA a xStraight xLeast nPosts nThirds nCorners nSums nArrows aBehind aAhead aCells aBefore aAfter gCorners gLowest gFirst gFresh gThere gRow gPlaces gOver gVia gQueue bTold bStraight bLeast bPostsOf bSets bTotals) sz)) (va_A (wX cA a xStraight xLeast nPosts nThirds nCorners nSums nArrows aBehind aAhead aCells aBefore aAfter gCorners gLowest gFirst gFresh gThere gRow gPlaces gOver gVia gQueue bTold bStraight bLeast bPostsOf bSets bTotals) sz)) 0 0 (va_A (wX cA a xStraight xLeast nPosts nThirds nCorners nSums nArrows aBehind aAhead aCells aBefore aAfter gCorners gLowest gFirst gFresh gThere gRow gPlaces gOver gVia gQueue bTold bStraight bLeast bPostsOf bSets bTotals) sz) := by
  refine xmet_i (by decide) (Nat.le_of_ble_eq_true rfl) ?_
  intro p e s m args below meth c A ls C hH hl
  have C : XC p s m args meth c cX3_hasArrow 3 RX3 (some .boolean) D cA A := C
  have hl : lv_has ls 3 [(0, .ref (a 1)), (1, .int (J x1)), (2, .int (J x2))] := hl
  unfold wp_N_hasArrow at h
  refine j_aload_n C dX3_hasArrow_0 (lv_at hl 0 rfl) ?_
  refine j_iload_n C dX3_hasArrow_1 (lv_at hl 1 rfl) ?_
  refine j_iload_n C dX3_hasArrow_2 (lv_at hl 2 rfl) ?_
  refine xcallV_i (As := [.int (J x1), .int (J x2)]) (rest := []) (q0 := 1) C hH (fun sz => c_N_thirdWith h) xl_X3_55 rfl rfl ⟨rfl, rfl⟩ ⟨Nat.le_of_ble_eq_true rfl, Nat.le_of_ble_eq_true rfl⟩ hl.1 rfl rfl (Nat.le_of_ble_eq_true rfl) dX3_hasArrow_3 (fun r_ w_ H locs hw hH => ?_)
  obtain ⟨z_1, rfl, rfl, h⟩ := hw
  refine j_iconst C dX3_hasArrow_6 ?_
  obtain ⟨g_2, h⟩ := h
  refine j_icmp_eq C 14 g_2 (by unfold jR; decide) dX3_hasArrow_7 (by decide) (fun c_3 => ?_) (fun c_3 => ?_)
  · have h := h.1 c_3
    refine j_iconst C dX3_hasArrow_14 ?_
    exact j_zret C hH (Or.inl rfl) ⟨_, rfl, rfl, h⟩ dX3_hasArrow_15
  · have h := h.2 c_3
    refine j_iconst C dX3_hasArrow_10 ?_
    refine j_goto C 15 dX3_hasArrow_11 (by decide) ?_
    exact j_zret C hH (Or.inr rfl) ⟨_, rfl, rfl, h⟩ dX3_hasArrow_15
abbrev po_N_thirdsAtSide (cA : ClassId) (a : Nat → Nat) (xStraight xLeast nPosts nThirds : Int) (nCorners nSums nArrows : Nat → Int) (aBehind aAhead : Int) (aCells aBefore aAfter : Nat → Int) (gCorners gLowest gFirst gFresh gThere : Int) (gRow gPlaces gOver gVia gQueue : Nat → Int) (bTold bStraight bLeast : Int) (bPostsOf bSets bTotals : Nat → Int) (Q : Int → Prop) : Int32 → va_W → Prop := fun r w => ∃ z, r = J z ∧ w = wX cA a xStraight xLeast nPosts nThirds nCorners nSums nArrows aBehind aAhead aCells aBefore aAfter gCorners gLowest gFirst gFresh gThere gRow gPlaces gOver gVia gQueue bTold bStraight bLeast bPostsOf bSets bTotals ∧ Q z
set_option maxRecDepth 4000 in
theorem c_N_thirdsAtSide {l : Launch} {D : va_G} {cA : ClassId} {a : Nat → Nat} {sz : Nat} {xStraight xLeast nPosts nThirds : Int} {nCorners nSums nArrows : Nat → Int} {aBehind aAhead : Int} {aCells aBefore aAfter : Nat → Int} {gCorners gLowest gFirst gFresh gThere : Int} {gRow gPlaces gOver gVia gQueue : Nat → Int} {bTold bStraight bLeast : Int} {bPostsOf bSets bTotals : Nat → Int} {x1 x2 : Int} {Q : Int → Prop} (h : wp_N_thirdsAtSide x1 x2 nArrows Q) : Met l yX3_thirdsAtSide (.code yX3_thirdsAtSide cX3_thirdsAtSide 3 (some .int) :: lw_ok) rm_N_thirdsAtSide (xPre D cA sz [.ref (a 1), .int (J x1), .int (J x2)] (wX cA a xStraight xLeast nPosts nThirds nCorners nSums nArrows aBehind aAhead aCells aBefore aAfter gCorners gLowest gFirst gFresh gThere gRow gPlaces gOver gVia gQueue bTold bStraight bLeast bPostsOf bSets bTotals)) (va_Qi (po_N_thirdsAtSide cA a xStraight xLeast nPosts nThirds nCorners nSums nArrows aBehind aAhead aCells aBefore aAfter gCorners gLowest gFirst gFresh gThere gRow gPlaces gOver gVia gQueue bTold bStraight bLeast bPostsOf bSets bTotals Q) (xB D cA (va_A (wX cA a xStraight xLeast nPosts nThirds nCorners nSums nArrows aBehind aAhead aCells aBefore aAfter gCorners gLowest gFirst gFresh gThere gRow gPlaces gOver gVia gQueue bTold bStraight bLeast bPostsOf bSets bTotals) sz)) (va_A (wX cA a xStraight xLeast nPosts nThirds nCorners nSums nArrows aBehind aAhead aCells aBefore aAfter gCorners gLowest gFirst gFresh gThere gRow gPlaces gOver gVia gQueue bTold bStraight bLeast bPostsOf bSets bTotals) sz)) 0 0 (va_A (wX cA a xStraight xLeast nPosts nThirds nCorners nSums nArrows aBehind aAhead aCells aBefore aAfter gCorners gLowest gFirst gFresh gThere gRow gPlaces gOver gVia gQueue bTold bStraight bLeast bPostsOf bSets bTotals) sz) := by
  refine xmet_i (by decide) (Nat.le_of_ble_eq_true rfl) ?_
  intro p e s m args below meth c A ls C hH hl
  have C : XC p s m args meth c cX3_thirdsAtSide 3 RX3 (some .int) D cA A := C
  have hl : lv_has ls 3 [(0, .ref (a 1)), (1, .int (J x1)), (2, .int (J x2))] := hl
  unfold wp_N_thirdsAtSide at h
  refine j_aload_n C dX3_thirdsAtSide_0 (lv_at hl 0 rfl) ?_
  refine j_iload_n C dX3_thirdsAtSide_1 (lv_at hl 1 rfl) ?_
  refine j_iload_n C dX3_thirdsAtSide_2 (lv_at hl 2 rfl) ?_
  refine xcallV_i (As := [.int (J x1), .int (J x2)]) (rest := []) (q0 := 1) C hH (fun sz => c_N_hasArrow h) xl_X3_58 rfl rfl ⟨rfl, rfl⟩ ⟨Nat.le_of_ble_eq_true rfl, Nat.le_of_ble_eq_true rfl⟩ hl.1 rfl rfl (Nat.le_of_ble_eq_true rfl) dX3_thirdsAtSide_3 (fun r_ w_ H locs hw hH => ?_)
  obtain ⟨z_1, rfl, rfl, h⟩ := hw
  obtain ⟨g_2, h⟩ := h
  refine j_if_eq C 13 g_2 dX3_thirdsAtSide_6 (by decide) (fun c_3 => ?_) (fun c_3 => ?_)
  · have h := h.1 c_3
    refine j_iconst C dX3_thirdsAtSide_13 ?_
    refine j_aload_n C dX3_thirdsAtSide_14 (lv_at hl 0 rfl) ?_
    refine j_iload_n C dX3_thirdsAtSide_15 (lv_at hl 2 rfl) ?_
    refine j_iload_n C dX3_thirdsAtSide_16 (lv_at hl 1 rfl) ?_
    refine xcallV_i (As := [.int (J x2), .int (J x1)]) (rest := [.int (J 0)]) (q0 := 1) C hH (fun sz => c_N_hasArrow h) xl_X3_58 rfl rfl ⟨rfl, rfl⟩ ⟨Nat.le_of_ble_eq_true rfl, Nat.le_of_ble_eq_true rfl⟩ hl.1 rfl rfl (Nat.le_of_ble_eq_true rfl) dX3_thirdsAtSide_17 (fun r_ w_ H locs hw hH => ?_)
    obtain ⟨z_4, rfl, rfl, h⟩ := hw
    obtain ⟨g_5, h⟩ := h
    refine j_if_eq C 27 g_5 dX3_thirdsAtSide_20 (by decide) (fun c_6 => ?_) (fun c_6 => ?_)
    · have h := h.1 c_6
      refine j_iconst C dX3_thirdsAtSide_27 ?_
      refine j_iadd C dX3_thirdsAtSide_28 ?_
      exact j_iret C hH ⟨_, rfl, rfl, h⟩ dX3_thirdsAtSide_29
    · have h := h.2 c_6
      refine j_iconst C dX3_thirdsAtSide_23 ?_
      refine j_goto C 28 dX3_thirdsAtSide_24 (by decide) ?_
      refine j_iadd C dX3_thirdsAtSide_28 ?_
      exact j_iret C hH ⟨_, rfl, rfl, h⟩ dX3_thirdsAtSide_29
  · have h := h.2 c_3
    refine j_iconst C dX3_thirdsAtSide_9 ?_
    refine j_goto C 14 dX3_thirdsAtSide_10 (by decide) ?_
    refine j_aload_n C dX3_thirdsAtSide_14 (lv_at hl 0 rfl) ?_
    refine j_iload_n C dX3_thirdsAtSide_15 (lv_at hl 2 rfl) ?_
    refine j_iload_n C dX3_thirdsAtSide_16 (lv_at hl 1 rfl) ?_
    refine xcallV_i (As := [.int (J x2), .int (J x1)]) (rest := [.int (J 1)]) (q0 := 1) C hH (fun sz => c_N_hasArrow h) xl_X3_58 rfl rfl ⟨rfl, rfl⟩ ⟨Nat.le_of_ble_eq_true rfl, Nat.le_of_ble_eq_true rfl⟩ hl.1 rfl rfl (Nat.le_of_ble_eq_true rfl) dX3_thirdsAtSide_17 (fun r_ w_ H locs hw hH => ?_)
    obtain ⟨z_7, rfl, rfl, h⟩ := hw
    obtain ⟨g_8, h⟩ := h
    refine j_if_eq C 27 g_8 dX3_thirdsAtSide_20 (by decide) (fun c_9 => ?_) (fun c_9 => ?_)
    · have h := h.1 c_9
      refine j_iconst C dX3_thirdsAtSide_27 ?_
      refine j_iadd C dX3_thirdsAtSide_28 ?_
      exact j_iret C hH ⟨_, rfl, rfl, h⟩ dX3_thirdsAtSide_29
    · have h := h.2 c_9
      refine j_iconst C dX3_thirdsAtSide_23 ?_
      refine j_goto C 28 dX3_thirdsAtSide_24 (by decide) ?_
      refine j_iadd C dX3_thirdsAtSide_28 ?_
      exact j_iret C hH ⟨_, rfl, rfl, h⟩ dX3_thirdsAtSide_29
abbrev po_N_isSide (cA : ClassId) (a : Nat → Nat) (xStraight xLeast nPosts nThirds : Int) (nCorners nSums nArrows : Nat → Int) (aBehind aAhead : Int) (aCells aBefore aAfter : Nat → Int) (gCorners gLowest gFirst gFresh gThere : Int) (gRow gPlaces gOver gVia gQueue : Nat → Int) (bTold bStraight bLeast : Int) (bPostsOf bSets bTotals : Nat → Int) (Q : Int → Prop) : Int32 → va_W → Prop := fun r w => ∃ z, r = J z ∧ w = wX cA a xStraight xLeast nPosts nThirds nCorners nSums nArrows aBehind aAhead aCells aBefore aAfter gCorners gLowest gFirst gFresh gThere gRow gPlaces gOver gVia gQueue bTold bStraight bLeast bPostsOf bSets bTotals ∧ Q z
set_option maxRecDepth 4000 in
theorem c_N_isSide {l : Launch} {D : va_G} {cA : ClassId} {a : Nat → Nat} {sz : Nat} {xStraight xLeast nPosts nThirds : Int} {nCorners nSums nArrows : Nat → Int} {aBehind aAhead : Int} {aCells aBefore aAfter : Nat → Int} {gCorners gLowest gFirst gFresh gThere : Int} {gRow gPlaces gOver gVia gQueue : Nat → Int} {bTold bStraight bLeast : Int} {bPostsOf bSets bTotals : Nat → Int} {x1 x2 : Int} {Q : Int → Prop} (h : wp_N_isSide x1 x2 nPosts nArrows Q) : Met l yX3_isSide (.code yX3_isSide cX3_isSide 3 (some .boolean) :: lw_ok) rm_N_isSide (xPre D cA sz [.ref (a 1), .int (J x1), .int (J x2)] (wX cA a xStraight xLeast nPosts nThirds nCorners nSums nArrows aBehind aAhead aCells aBefore aAfter gCorners gLowest gFirst gFresh gThere gRow gPlaces gOver gVia gQueue bTold bStraight bLeast bPostsOf bSets bTotals)) (va_Qi (po_N_isSide cA a xStraight xLeast nPosts nThirds nCorners nSums nArrows aBehind aAhead aCells aBefore aAfter gCorners gLowest gFirst gFresh gThere gRow gPlaces gOver gVia gQueue bTold bStraight bLeast bPostsOf bSets bTotals Q) (xB D cA (va_A (wX cA a xStraight xLeast nPosts nThirds nCorners nSums nArrows aBehind aAhead aCells aBefore aAfter gCorners gLowest gFirst gFresh gThere gRow gPlaces gOver gVia gQueue bTold bStraight bLeast bPostsOf bSets bTotals) sz)) (va_A (wX cA a xStraight xLeast nPosts nThirds nCorners nSums nArrows aBehind aAhead aCells aBefore aAfter gCorners gLowest gFirst gFresh gThere gRow gPlaces gOver gVia gQueue bTold bStraight bLeast bPostsOf bSets bTotals) sz)) 0 0 (va_A (wX cA a xStraight xLeast nPosts nThirds nCorners nSums nArrows aBehind aAhead aCells aBefore aAfter gCorners gLowest gFirst gFresh gThere gRow gPlaces gOver gVia gQueue bTold bStraight bLeast bPostsOf bSets bTotals) sz) := by
  refine xmet_i (by decide) (Nat.le_of_ble_eq_true rfl) ?_
  intro p e s m args below meth c A ls C hH hl
  have C : XC p s m args meth c cX3_isSide 3 RX3 (some .boolean) D cA A := C
  have hl : lv_has ls 3 [(0, .ref (a 1)), (1, .int (J x1)), (2, .int (J x2))] := hl
  unfold wp_N_isSide at h
  refine j_aload_n C dX3_isSide_0 (lv_at hl 0 rfl) ?_
  refine j_iload_n C dX3_isSide_1 (lv_at hl 1 rfl) ?_
  refine j_iload_n C dX3_isSide_2 (lv_at hl 2 rfl) ?_
  refine xcallV_i (As := [.int (J x1), .int (J x2)]) (rest := []) (q0 := 1) C hH (fun sz => c_N_areUnlike h) xl_X3_62 rfl rfl ⟨rfl, rfl⟩ ⟨Nat.le_of_ble_eq_true rfl, Nat.le_of_ble_eq_true rfl⟩ hl.1 rfl rfl (Nat.le_of_ble_eq_true rfl) dX3_isSide_3 (fun r_ w_ H locs hw hH => ?_)
  obtain ⟨z_1, rfl, rfl, h⟩ := hw
  obtain ⟨g_2, h⟩ := h
  refine j_if_eq C 22 g_2 dX3_isSide_6 (by decide) (fun c_3 => ?_) (fun c_3 => ?_)
  · have h := h.1 c_3
    refine j_iconst C dX3_isSide_22 ?_
    exact j_zret C hH (Or.inl rfl) ⟨_, rfl, rfl, h⟩ dX3_isSide_23
  · have h := h.2 c_3
    refine j_aload_n C dX3_isSide_9 (lv_at hl 0 rfl) ?_
    refine j_iload_n C dX3_isSide_10 (lv_at hl 1 rfl) ?_
    refine j_iload_n C dX3_isSide_11 (lv_at hl 2 rfl) ?_
    refine xcallV_i (As := [.int (J x1), .int (J x2)]) (rest := []) (q0 := 1) C hH (fun sz => c_N_thirdsAtSide h) xl_X3_65 rfl rfl ⟨rfl, rfl⟩ ⟨Nat.le_of_ble_eq_true rfl, Nat.le_of_ble_eq_true rfl⟩ hl.1 rfl rfl (Nat.le_of_ble_eq_true rfl) dX3_isSide_12 (fun r_ w_ H locs hw hH => ?_)
    obtain ⟨z_4, rfl, rfl, h⟩ := hw
    obtain ⟨g_5, h⟩ := h
    refine j_if_le C 22 g_5 dX3_isSide_15 (by decide) (fun c_6 => ?_) (fun c_6 => ?_)
    · have h := h.1 c_6
      refine j_iconst C dX3_isSide_22 ?_
      exact j_zret C hH (Or.inl rfl) ⟨_, rfl, rfl, h⟩ dX3_isSide_23
    · have h := h.2 c_6
      refine j_iconst C dX3_isSide_18 ?_
      refine j_goto C 23 dX3_isSide_19 (by decide) ?_
      exact j_zret C hH (Or.inr rfl) ⟨_, rfl, rfl, h⟩ dX3_isSide_23
abbrev po_N_cornerOpposite (cA : ClassId) (a : Nat → Nat) (xStraight xLeast nPosts nThirds : Int) (nCorners nSums nArrows : Nat → Int) (aBehind aAhead : Int) (aCells aBefore aAfter : Nat → Int) (gCorners gLowest gFirst gFresh gThere : Int) (gRow gPlaces gOver gVia gQueue : Nat → Int) (bTold bStraight bLeast : Int) (bPostsOf bSets bTotals : Nat → Int) (Q : Int → Prop) : Int32 → va_W → Prop := fun r w => ∃ z, r = J z ∧ w = wX cA a xStraight xLeast nPosts nThirds nCorners nSums nArrows aBehind aAhead aCells aBefore aAfter gCorners gLowest gFirst gFresh gThere gRow gPlaces gOver gVia gQueue bTold bStraight bLeast bPostsOf bSets bTotals ∧ Q z
set_option maxRecDepth 4000 in
theorem w_N_cornerOpposite_8 {p : Program} {l : Launch} {e : Env} {s : State} {m : MethodId} {args : Array Value} {below : List Frame} {meth : Method} {c : Code} {D : va_G} {cA : ClassId} {A : Nat → Prop} {a : Nat → Nat} {xStraight xLeast nPosts nThirds : Int} {nCorners nSums nArrows : Nat → Int} {aBehind aAhead : Int} {aCells aBefore aAfter : Nat → Int} {gCorners gLowest gFirst gFresh gThere : Int} {gRow gPlaces gOver gVia gQueue : Nat → Int} {bTold bStraight bLeast : Int} {bPostsOf bSets bTotals : Nat → Int} (C : XC p s m args meth c cX3_cornerOpposite 6 RX3 (some .int) D cA A) {Q : Int → Prop} {x2 : Int} {x3 : Int}  : ∀ (n : Nat) (x4 : Int) (x5 : Int), wp_N_cornerOpposite_8 Q nCorners x2 x3 n x4 x5 → ∀ (H : Heap) (locs : List Loc) (ls : Array Slot), XH D A s (wX cA a xStraight xLeast nPosts nThirds nCorners nSums nArrows aBehind aAhead aCells aBefore aAfter gCorners gLowest gFirst gFresh gThere gRow gPlaces gOver gVia gQueue bTold bStraight bLeast bPostsOf bSets bTotals) H locs → lv_has ls 6 [(0, .ref (a 1)), (2, .int (J x2)), (3, .int (J x3)), (4, .int (J x4)), (5, .int (J x5))] → W p l e rm_N_cornerOpposite s m args below meth c H locs 0 0 (MQ below (va_Qi (po_N_cornerOpposite cA a xStraight xLeast nPosts nThirds nCorners nSums nArrows aBehind aAhead aCells aBefore aAfter gCorners gLowest gFirst gFresh gThere gRow gPlaces gOver gVia gQueue bTold bStraight bLeast bPostsOf bSets bTotals Q) (xB D cA A) A) args s 0 0 A) (F0 m 8 ls []) := by
  intro n
  induction n with
  | zero => intro x4 x5 h; exact (show False from h).elim
  | succ n hK8 =>
    intro x4 x5 h H locs ls hH hl
    have h : wp_N_cornerOpposite_8_b  (wp_N_cornerOpposite_8 Q nCorners x2 x3 n) Q nCorners x2 x3 x4 x5 := h
    unfold wp_N_cornerOpposite_8_b at h
    refine j_iload C dX3_cornerOpposite_8 (lv_at hl 4 rfl) ?_
    refine j_iconst C dX3_cornerOpposite_10 ?_
    obtain ⟨g_1, h⟩ := h
    refine j_icmp_ge C 45 g_1 (by unfold jR; decide) dX3_cornerOpposite_11 (by decide) (fun c_2 => ?_) (fun c_2 => ?_)
    · have h := h.1 c_2
      refine j_iload C dX3_cornerOpposite_45 (lv_at hl 3 rfl) ?_
      exact j_iret C hH ⟨_, rfl, rfl, h⟩ dX3_cornerOpposite_47
    · have h := h.2 c_2
      refine j_aload_n C dX3_cornerOpposite_14 (lv_at hl 0 rfl) ?_
      refine xg_X3_corners C hH dX3_cornerOpposite_15 ?_
      refine j_iload C dX3_cornerOpposite_18 (lv_at hl 3 rfl) ?_
      obtain ⟨b_3, h⟩ := h
      refine xa_nCorners C hH b_3 dX3_cornerOpposite_20 ?_
      refine j_iload_n C dX3_cornerOpposite_21 (lv_at hl 1 rfl) ?_
      obtain ⟨g_4, h⟩ := h
      obtain ⟨g_5, h⟩ := h
      refine j_icmp_eq C 36 g_4 g_5 dX3_cornerOpposite_22 (by decide) (fun c_6 => ?_) (fun c_6 => ?_)
      · have h := h.1 c_6
        refine j_iinc (k := 3) (v := x4 + 1) (lv' := [(4, .int (J (x4 + 1))), (0, .ref (a 1)), (2, .int (J x2)), (3, .int (J x3)), (5, .int (J x5))]) C dX3_cornerOpposite_36 hl rfl rfl (by decide) rfl (fun ls hl => ?_)
        refine j_iinc (k := 4) (v := x5 + 1) (lv' := [(5, .int (J (x5 + 1))), (4, .int (J (x4 + 1))), (0, .ref (a 1)), (2, .int (J x2)), (3, .int (J x3))]) C dX3_cornerOpposite_39 hl rfl rfl (by decide) rfl (fun ls hl => ?_)
        refine j_goto C 8 dX3_cornerOpposite_42 (by decide) ?_
        exact hK8 (x4 + 1) (x5 + 1) h _ _ _ hH (lv_sub hl [2, 3, 4, 1, 0] rfl)
      · have h := h.2 c_6
        refine j_aload_n C dX3_cornerOpposite_25 (lv_at hl 0 rfl) ?_
        refine xg_X3_corners C hH dX3_cornerOpposite_26 ?_
        refine j_iload C dX3_cornerOpposite_29 (lv_at hl 3 rfl) ?_
        refine xa_nCorners C hH b_3 dX3_cornerOpposite_31 ?_
        refine j_iload_n C dX3_cornerOpposite_32 (lv_at hl 2 rfl) ?_
        obtain ⟨g_7, h⟩ := h
        refine j_icmp_ne C 45 g_4 g_7 dX3_cornerOpposite_33 (by decide) (fun c_8 => ?_) (fun c_8 => ?_)
        · have h := h.2 c_8
          refine j_iload C dX3_cornerOpposite_45 (lv_at hl 3 rfl) ?_
          exact j_iret C hH ⟨_, rfl, rfl, h⟩ dX3_cornerOpposite_47
        · have h := h.1 c_8
          refine j_iinc (k := 3) (v := x4 + 1) (lv' := [(4, .int (J (x4 + 1))), (0, .ref (a 1)), (2, .int (J x2)), (3, .int (J x3)), (5, .int (J x5))]) C dX3_cornerOpposite_36 hl rfl rfl (by decide) rfl (fun ls hl => ?_)
          refine j_iinc (k := 4) (v := x5 + 1) (lv' := [(5, .int (J (x5 + 1))), (4, .int (J (x4 + 1))), (0, .ref (a 1)), (2, .int (J x2)), (3, .int (J x3))]) C dX3_cornerOpposite_39 hl rfl rfl (by decide) rfl (fun ls hl => ?_)
          refine j_goto C 8 dX3_cornerOpposite_42 (by decide) ?_
          exact hK8 (x4 + 1) (x5 + 1) h _ _ _ hH (lv_sub hl [2, 3, 4, 1, 0] rfl)
set_option maxRecDepth 4000 in
theorem c_N_cornerOpposite {l : Launch} {D : va_G} {cA : ClassId} {a : Nat → Nat} {sz : Nat} {xStraight xLeast nPosts nThirds : Int} {nCorners nSums nArrows : Nat → Int} {aBehind aAhead : Int} {aCells aBefore aAfter : Nat → Int} {gCorners gLowest gFirst gFresh gThere : Int} {gRow gPlaces gOver gVia gQueue : Nat → Int} {bTold bStraight bLeast : Int} {bPostsOf bSets bTotals : Nat → Int} {x1 x2 x3 : Int} {Q : Int → Prop} (h : wp_N_cornerOpposite x1 x2 x3 nCorners Q) : Met l yX3_cornerOpposite (.code yX3_cornerOpposite cX3_cornerOpposite 6 (some .int) :: lw_ok) rm_N_cornerOpposite (xPre D cA sz [.ref (a 1), .int (J x1), .int (J x2), .int (J x3)] (wX cA a xStraight xLeast nPosts nThirds nCorners nSums nArrows aBehind aAhead aCells aBefore aAfter gCorners gLowest gFirst gFresh gThere gRow gPlaces gOver gVia gQueue bTold bStraight bLeast bPostsOf bSets bTotals)) (va_Qi (po_N_cornerOpposite cA a xStraight xLeast nPosts nThirds nCorners nSums nArrows aBehind aAhead aCells aBefore aAfter gCorners gLowest gFirst gFresh gThere gRow gPlaces gOver gVia gQueue bTold bStraight bLeast bPostsOf bSets bTotals Q) (xB D cA (va_A (wX cA a xStraight xLeast nPosts nThirds nCorners nSums nArrows aBehind aAhead aCells aBefore aAfter gCorners gLowest gFirst gFresh gThere gRow gPlaces gOver gVia gQueue bTold bStraight bLeast bPostsOf bSets bTotals) sz)) (va_A (wX cA a xStraight xLeast nPosts nThirds nCorners nSums nArrows aBehind aAhead aCells aBefore aAfter gCorners gLowest gFirst gFresh gThere gRow gPlaces gOver gVia gQueue bTold bStraight bLeast bPostsOf bSets bTotals) sz)) 0 0 (va_A (wX cA a xStraight xLeast nPosts nThirds nCorners nSums nArrows aBehind aAhead aCells aBefore aAfter gCorners gLowest gFirst gFresh gThere gRow gPlaces gOver gVia gQueue bTold bStraight bLeast bPostsOf bSets bTotals) sz) := by
  refine xmet_i (by decide) (Nat.le_of_ble_eq_true rfl) ?_
  intro p e s m args below meth c A ls C hH hl
  have C : XC p s m args meth c cX3_cornerOpposite 6 RX3 (some .int) D cA A := C
  have hl : lv_has ls 6 [(0, .ref (a 1)), (1, .int (J x1)), (2, .int (J x2)), (3, .int (J x3))] := hl
  unfold wp_N_cornerOpposite at h
  refine j_iconst C dX3_cornerOpposite_0 ?_
  refine j_iload_n C dX3_cornerOpposite_1 (lv_at hl 1 rfl) ?_
  refine j_imul C dX3_cornerOpposite_2 ?_
  refine j_istore (lv' := [(4, .int (J (3 * x1))), (0, .ref (a 1)), (1, .int (J x1)), (2, .int (J x2)), (3, .int (J x3))]) C dX3_cornerOpposite_3 hl (by decide) rfl (fun ls hl => ?_)
  refine j_iconst C dX3_cornerOpposite_5 ?_
  refine j_istore (lv' := [(5, .int (J 0)), (4, .int (J (3 * x1))), (0, .ref (a 1)), (1, .int (J x1)), (2, .int (J x2)), (3, .int (J x3))]) C dX3_cornerOpposite_6 hl (by decide) rfl (fun ls hl => ?_)
  obtain ⟨n_, h⟩ := h
  exact w_N_cornerOpposite_8 C  n_ (3 * x1) 0 h _ _ _ hH (lv_sub hl [2, 4, 5, 1, 0] rfl)
abbrev po_N_sidesAt (cA : ClassId) (a : Nat → Nat) (xStraight xLeast nPosts nThirds : Int) (nCorners nSums nArrows : Nat → Int) (aBehind aAhead : Int) (aCells aBefore aAfter : Nat → Int) (gCorners gLowest gFirst gFresh gThere : Int) (gRow gPlaces gOver gVia gQueue : Nat → Int) (bTold bStraight bLeast : Int) (bPostsOf bSets bTotals : Nat → Int) (Q : Int → Prop) : Int32 → va_W → Prop := fun r w => ∃ z, r = J z ∧ w = wX cA a xStraight xLeast nPosts nThirds nCorners nSums nArrows aBehind aAhead aCells aBefore aAfter gCorners gLowest gFirst gFresh gThere gRow gPlaces gOver gVia gQueue bTold bStraight bLeast bPostsOf bSets bTotals ∧ Q z
set_option maxRecDepth 4000 in
theorem w_N_sidesAt_5 {p : Program} {l : Launch} {e : Env} {s : State} {m : MethodId} {args : Array Value} {below : List Frame} {meth : Method} {c : Code} {D : va_G} {cA : ClassId} {A : Nat → Prop} {a : Nat → Nat} {xStraight xLeast nPosts nThirds : Int} {nCorners nSums nArrows : Nat → Int} {aBehind aAhead : Int} {aCells aBefore aAfter : Nat → Int} {gCorners gLowest gFirst gFresh gThere : Int} {gRow gPlaces gOver gVia gQueue : Nat → Int} {bTold bStraight bLeast : Int} {bPostsOf bSets bTotals : Nat → Int} (C : XC p s m args meth c cX3_sidesAt 5 RX3 (some .int) D cA A) {Q : Int → Prop} {x1 : Int} {x2 : Int}  : ∀ (n : Nat) (x3 : Int) (x4 : Int), wp_N_sidesAt_5 Q nPosts nArrows x1 x2 n x3 x4 → ∀ (H : Heap) (locs : List Loc) (ls : Array Slot), XH D A s (wX cA a xStraight xLeast nPosts nThirds nCorners nSums nArrows aBehind aAhead aCells aBefore aAfter gCorners gLowest gFirst gFresh gThere gRow gPlaces gOver gVia gQueue bTold bStraight bLeast bPostsOf bSets bTotals) H locs → lv_has ls 5 [(0, .ref (a 1)), (1, .int (J x1)), (2, .int (J x2)), (3, .int (J x3)), (4, .int (J x4))] → W p l e rm_N_sidesAt s m args below meth c H locs 0 0 (MQ below (va_Qi (po_N_sidesAt cA a xStraight xLeast nPosts nThirds nCorners nSums nArrows aBehind aAhead aCells aBefore aAfter gCorners gLowest gFirst gFresh gThere gRow gPlaces gOver gVia gQueue bTold bStraight bLeast bPostsOf bSets bTotals Q) (xB D cA A) A) args s 0 0 A) (F0 m 5 ls []) := by
  intro n
  induction n with
  | zero => intro x3 x4 h; exact (show False from h).elim
  | succ n hK5 =>
    intro x3 x4 h H locs ls hH hl
    have h : wp_N_sidesAt_5_b  (wp_N_sidesAt_5 Q nPosts nArrows x1 x2 n) Q nPosts nArrows x1 x2 x3 x4 := h
    unfold wp_N_sidesAt_5_b at h
    refine j_iload C dX3_sidesAt_5 (lv_at hl 4 rfl) ?_
    refine j_aload_n C dX3_sidesAt_7 (lv_at hl 0 rfl) ?_
    refine xg_X3_posts C hH dX3_sidesAt_8 ?_
    obtain ⟨g_1, h⟩ := h
    obtain ⟨g_2, h⟩ := h
    refine j_icmp_ge C 40 g_1 g_2 dX3_sidesAt_11 (by decide) (fun c_3 => ?_) (fun c_3 => ?_)
    · have h := h.1 c_3
      refine j_iload_n C dX3_sidesAt_40 (lv_at hl 3 rfl) ?_
      exact j_iret C hH ⟨_, rfl, rfl, h⟩ dX3_sidesAt_41
    · have h := h.2 c_3
      refine j_iload C dX3_sidesAt_14 (lv_at hl 4 rfl) ?_
      refine j_iload_n C dX3_sidesAt_16 (lv_at hl 1 rfl) ?_
      obtain ⟨g_4, h⟩ := h
      refine j_icmp_eq C 34 g_1 g_4 dX3_sidesAt_17 (by decide) (fun c_5 => ?_) (fun c_5 => ?_)
      · have h := h.1 c_5
        refine j_iinc (k := 4) (v := x4 + 1) (lv' := [(4, .int (J (x4 + 1))), (0, .ref (a 1)), (1, .int (J x1)), (2, .int (J x2)), (3, .int (J x3))]) C dX3_sidesAt_34 hl rfl rfl (by decide) rfl (fun ls hl => ?_)
        refine j_goto C 5 dX3_sidesAt_37 (by decide) ?_
        exact hK5 x3 (x4 + 1) h _ _ _ hH (lv_sub hl [1, 2, 3, 4, 0] rfl)
      · have h := h.2 c_5
        refine j_aload_n C dX3_sidesAt_20 (lv_at hl 0 rfl) ?_
        refine j_iload_n C dX3_sidesAt_21 (lv_at hl 1 rfl) ?_
        refine j_iload C dX3_sidesAt_22 (lv_at hl 4 rfl) ?_
        refine xcallV_i (As := [.int (J x1), .int (J x4)]) (rest := []) (q0 := 1) C hH (fun sz => c_N_thirdsAtSide h) xl_X3_65 rfl rfl ⟨rfl, rfl⟩ ⟨Nat.le_of_ble_eq_true rfl, Nat.le_of_ble_eq_true rfl⟩ hl.1 rfl rfl (Nat.le_of_ble_eq_true rfl) dX3_sidesAt_24 (fun r_ w_ H locs hw hH => ?_)
        obtain ⟨z_6, rfl, rfl, h⟩ := hw
        refine j_iload_n C dX3_sidesAt_27 (lv_at hl 2 rfl) ?_
        obtain ⟨g_7, h⟩ := h
        obtain ⟨g_8, h⟩ := h
        refine j_icmp_ne C 34 g_7 g_8 dX3_sidesAt_28 (by decide) (fun c_9 => ?_) (fun c_9 => ?_)
        · have h := h.2 c_9
          refine j_iinc (k := 4) (v := x4 + 1) (lv' := [(4, .int (J (x4 + 1))), (0, .ref (a 1)), (1, .int (J x1)), (2, .int (J x2)), (3, .int (J x3))]) C dX3_sidesAt_34 hl rfl rfl (by decide) rfl (fun ls hl => ?_)
          refine j_goto C 5 dX3_sidesAt_37 (by decide) ?_
          exact hK5 x3 (x4 + 1) h _ _ _ hH (lv_sub hl [1, 2, 3, 4, 0] rfl)
        · have h := h.1 c_9
          refine j_iinc (k := 3) (v := x3 + 1) (lv' := [(3, .int (J (x3 + 1))), (0, .ref (a 1)), (1, .int (J x1)), (2, .int (J x2)), (4, .int (J x4))]) C dX3_sidesAt_31 hl rfl rfl (by decide) rfl (fun ls hl => ?_)
          refine j_iinc (k := 4) (v := x4 + 1) (lv' := [(4, .int (J (x4 + 1))), (3, .int (J (x3 + 1))), (0, .ref (a 1)), (1, .int (J x1)), (2, .int (J x2))]) C dX3_sidesAt_34 hl rfl rfl (by decide) rfl (fun ls hl => ?_)
          refine j_goto C 5 dX3_sidesAt_37 (by decide) ?_
          exact hK5 (x3 + 1) (x4 + 1) h _ _ _ hH (lv_sub hl [2, 3, 4, 1, 0] rfl)
set_option maxRecDepth 4000 in
theorem c_N_sidesAt {l : Launch} {D : va_G} {cA : ClassId} {a : Nat → Nat} {sz : Nat} {xStraight xLeast nPosts nThirds : Int} {nCorners nSums nArrows : Nat → Int} {aBehind aAhead : Int} {aCells aBefore aAfter : Nat → Int} {gCorners gLowest gFirst gFresh gThere : Int} {gRow gPlaces gOver gVia gQueue : Nat → Int} {bTold bStraight bLeast : Int} {bPostsOf bSets bTotals : Nat → Int} {x1 x2 : Int} {Q : Int → Prop} (h : wp_N_sidesAt x1 x2 nPosts nArrows Q) : Met l yX3_sidesAt (.code yX3_sidesAt cX3_sidesAt 5 (some .int) :: lw_ok) rm_N_sidesAt (xPre D cA sz [.ref (a 1), .int (J x1), .int (J x2)] (wX cA a xStraight xLeast nPosts nThirds nCorners nSums nArrows aBehind aAhead aCells aBefore aAfter gCorners gLowest gFirst gFresh gThere gRow gPlaces gOver gVia gQueue bTold bStraight bLeast bPostsOf bSets bTotals)) (va_Qi (po_N_sidesAt cA a xStraight xLeast nPosts nThirds nCorners nSums nArrows aBehind aAhead aCells aBefore aAfter gCorners gLowest gFirst gFresh gThere gRow gPlaces gOver gVia gQueue bTold bStraight bLeast bPostsOf bSets bTotals Q) (xB D cA (va_A (wX cA a xStraight xLeast nPosts nThirds nCorners nSums nArrows aBehind aAhead aCells aBefore aAfter gCorners gLowest gFirst gFresh gThere gRow gPlaces gOver gVia gQueue bTold bStraight bLeast bPostsOf bSets bTotals) sz)) (va_A (wX cA a xStraight xLeast nPosts nThirds nCorners nSums nArrows aBehind aAhead aCells aBefore aAfter gCorners gLowest gFirst gFresh gThere gRow gPlaces gOver gVia gQueue bTold bStraight bLeast bPostsOf bSets bTotals) sz)) 0 0 (va_A (wX cA a xStraight xLeast nPosts nThirds nCorners nSums nArrows aBehind aAhead aCells aBefore aAfter gCorners gLowest gFirst gFresh gThere gRow gPlaces gOver gVia gQueue bTold bStraight bLeast bPostsOf bSets bTotals) sz) := by
  refine xmet_i (by decide) (Nat.le_of_ble_eq_true rfl) ?_
  intro p e s m args below meth c A ls C hH hl
  have C : XC p s m args meth c cX3_sidesAt 5 RX3 (some .int) D cA A := C
  have hl : lv_has ls 5 [(0, .ref (a 1)), (1, .int (J x1)), (2, .int (J x2))] := hl
  unfold wp_N_sidesAt at h
  refine j_iconst C dX3_sidesAt_0 ?_
  refine j_istore_n (lv' := [(3, .int (J 0)), (0, .ref (a 1)), (1, .int (J x1)), (2, .int (J x2))]) C dX3_sidesAt_1 hl (by decide) rfl (fun ls hl => ?_)
  refine j_iconst C dX3_sidesAt_2 ?_
  refine j_istore (lv' := [(4, .int (J 0)), (3, .int (J 0)), (0, .ref (a 1)), (1, .int (J x1)), (2, .int (J x2))]) C dX3_sidesAt_3 hl (by decide) rfl (fun ls hl => ?_)
  obtain ⟨n_, h⟩ := h
  exact w_N_sidesAt_5 C  n_ 0 0 h _ _ _ hH (lv_sub hl [2, 3, 4, 1, 0] rfl)
abbrev po_N_sidesWith (cA : ClassId) (a : Nat → Nat) (xStraight xLeast nPosts nThirds : Int) (nCorners nSums nArrows : Nat → Int) (aBehind aAhead : Int) (aCells aBefore aAfter : Nat → Int) (gCorners gLowest gFirst gFresh gThere : Int) (gRow gPlaces gOver gVia gQueue : Nat → Int) (bTold bStraight bLeast : Int) (bPostsOf bSets bTotals : Nat → Int) (Q : Int → Prop) : Int32 → va_W → Prop := fun r w => ∃ z, r = J z ∧ w = wX cA a xStraight xLeast nPosts nThirds nCorners nSums nArrows aBehind aAhead aCells aBefore aAfter gCorners gLowest gFirst gFresh gThere gRow gPlaces gOver gVia gQueue bTold bStraight bLeast bPostsOf bSets bTotals ∧ Q z
set_option maxRecDepth 4000 in
theorem w_N_sidesWith_4 {p : Program} {l : Launch} {e : Env} {s : State} {m : MethodId} {args : Array Value} {below : List Frame} {meth : Method} {c : Code} {D : va_G} {cA : ClassId} {A : Nat → Prop} {a : Nat → Nat} {xStraight xLeast nPosts nThirds : Int} {nCorners nSums nArrows : Nat → Int} {aBehind aAhead : Int} {aCells aBefore aAfter : Nat → Int} {gCorners gLowest gFirst gFresh gThere : Int} {gRow gPlaces gOver gVia gQueue : Nat → Int} {bTold bStraight bLeast : Int} {bPostsOf bSets bTotals : Nat → Int} (C : XC p s m args meth c cX3_sidesWith 4 RX3 (some .int) D cA A) {Q : Int → Prop} {x1 : Int}  : ∀ (n : Nat) (x2 : Int) (x3 : Int), wp_N_sidesWith_4 Q nPosts nArrows x1 n x2 x3 → ∀ (H : Heap) (locs : List Loc) (ls : Array Slot), XH D A s (wX cA a xStraight xLeast nPosts nThirds nCorners nSums nArrows aBehind aAhead aCells aBefore aAfter gCorners gLowest gFirst gFresh gThere gRow gPlaces gOver gVia gQueue bTold bStraight bLeast bPostsOf bSets bTotals) H locs → lv_has ls 4 [(0, .ref (a 1)), (1, .int (J x1)), (2, .int (J x2)), (3, .int (J x3))] → W p l e rm_N_sidesWith s m args below meth c H locs 0 0 (MQ below (va_Qi (po_N_sidesWith cA a xStraight xLeast nPosts nThirds nCorners nSums nArrows aBehind aAhead aCells aBefore aAfter gCorners gLowest gFirst gFresh gThere gRow gPlaces gOver gVia gQueue bTold bStraight bLeast bPostsOf bSets bTotals Q) (xB D cA A) A) args s 0 0 A) (F0 m 4 ls []) := by
  intro n
  induction n with
  | zero => intro x2 x3 h; exact (show False from h).elim
  | succ n hK4 =>
    intro x2 x3 h H locs ls hH hl
    have h : wp_N_sidesWith_4_b  (wp_N_sidesWith_4 Q nPosts nArrows x1 n) Q nPosts nArrows x1 x2 x3 := h
    unfold wp_N_sidesWith_4_b at h
    refine j_iload_n C dX3_sidesWith_4 (lv_at hl 3 rfl) ?_
    refine j_aload_n C dX3_sidesWith_5 (lv_at hl 0 rfl) ?_
    refine xg_X3_posts C hH dX3_sidesWith_6 ?_
    obtain ⟨g_1, h⟩ := h
    obtain ⟨g_2, h⟩ := h
    refine j_icmp_ge C 27 g_1 g_2 dX3_sidesWith_9 (by decide) (fun c_3 => ?_) (fun c_3 => ?_)
    · have h := h.1 c_3
      refine j_iload_n C dX3_sidesWith_27 (lv_at hl 2 rfl) ?_
      refine j_iconst C dX3_sidesWith_28 ?_
      refine j_idiv C (by decide +kernel) dX3_sidesWith_29 ?_
      exact j_iret C hH ⟨_, rfl, rfl, h⟩ dX3_sidesWith_30
    · have h := h.2 c_3
      refine j_iload_n C dX3_sidesWith_12 (lv_at hl 2 rfl) ?_
      refine j_aload_n C dX3_sidesWith_13 (lv_at hl 0 rfl) ?_
      refine j_iload_n C dX3_sidesWith_14 (lv_at hl 3 rfl) ?_
      refine j_iload_n C dX3_sidesWith_15 (lv_at hl 1 rfl) ?_
      refine xcallV_i (As := [.int (J x3), .int (J x1)]) (rest := [.int (J x2)]) (q0 := 1) C hH (fun sz => c_N_sidesAt h) xl_X3_68 rfl rfl ⟨rfl, rfl⟩ ⟨Nat.le_of_ble_eq_true rfl, Nat.le_of_ble_eq_true rfl⟩ hl.1 rfl rfl (Nat.le_of_ble_eq_true rfl) dX3_sidesWith_16 (fun r_ w_ H locs hw hH => ?_)
      obtain ⟨z_4, rfl, rfl, h⟩ := hw
      refine j_iadd C dX3_sidesWith_19 ?_
      refine j_istore_n (lv' := [(2, .int (J (x2 + z_4))), (0, .ref (a 1)), (1, .int (J x1)), (3, .int (J x3))]) C dX3_sidesWith_20 hl (by decide) rfl (fun ls hl => ?_)
      refine j_iinc (k := 3) (v := x3 + 1) (lv' := [(3, .int (J (x3 + 1))), (2, .int (J (x2 + z_4))), (0, .ref (a 1)), (1, .int (J x1))]) C dX3_sidesWith_21 hl rfl rfl (by decide) rfl (fun ls hl => ?_)
      refine j_goto C 4 dX3_sidesWith_24 (by decide) ?_
      exact hK4 (x2 + z_4) (x3 + 1) h _ _ _ hH (lv_sub hl [2, 3, 1, 0] rfl)
set_option maxRecDepth 4000 in
theorem c_N_sidesWith {l : Launch} {D : va_G} {cA : ClassId} {a : Nat → Nat} {sz : Nat} {xStraight xLeast nPosts nThirds : Int} {nCorners nSums nArrows : Nat → Int} {aBehind aAhead : Int} {aCells aBefore aAfter : Nat → Int} {gCorners gLowest gFirst gFresh gThere : Int} {gRow gPlaces gOver gVia gQueue : Nat → Int} {bTold bStraight bLeast : Int} {bPostsOf bSets bTotals : Nat → Int} {x1 : Int} {Q : Int → Prop} (h : wp_N_sidesWith x1 nPosts nArrows Q) : Met l yX3_sidesWith (.code yX3_sidesWith cX3_sidesWith 4 (some .int) :: lw_ok) rm_N_sidesWith (xPre D cA sz [.ref (a 1), .int (J x1)] (wX cA a xStraight xLeast nPosts nThirds nCorners nSums nArrows aBehind aAhead aCells aBefore aAfter gCorners gLowest gFirst gFresh gThere gRow gPlaces gOver gVia gQueue bTold bStraight bLeast bPostsOf bSets bTotals)) (va_Qi (po_N_sidesWith cA a xStraight xLeast nPosts nThirds nCorners nSums nArrows aBehind aAhead aCells aBefore aAfter gCorners gLowest gFirst gFresh gThere gRow gPlaces gOver gVia gQueue bTold bStraight bLeast bPostsOf bSets bTotals Q) (xB D cA (va_A (wX cA a xStraight xLeast nPosts nThirds nCorners nSums nArrows aBehind aAhead aCells aBefore aAfter gCorners gLowest gFirst gFresh gThere gRow gPlaces gOver gVia gQueue bTold bStraight bLeast bPostsOf bSets bTotals) sz)) (va_A (wX cA a xStraight xLeast nPosts nThirds nCorners nSums nArrows aBehind aAhead aCells aBefore aAfter gCorners gLowest gFirst gFresh gThere gRow gPlaces gOver gVia gQueue bTold bStraight bLeast bPostsOf bSets bTotals) sz)) 0 0 (va_A (wX cA a xStraight xLeast nPosts nThirds nCorners nSums nArrows aBehind aAhead aCells aBefore aAfter gCorners gLowest gFirst gFresh gThere gRow gPlaces gOver gVia gQueue bTold bStraight bLeast bPostsOf bSets bTotals) sz) := by
  refine xmet_i (by decide) (Nat.le_of_ble_eq_true rfl) ?_
  intro p e s m args below meth c A ls C hH hl
  have C : XC p s m args meth c cX3_sidesWith 4 RX3 (some .int) D cA A := C
  have hl : lv_has ls 4 [(0, .ref (a 1)), (1, .int (J x1))] := hl
  unfold wp_N_sidesWith at h
  refine j_iconst C dX3_sidesWith_0 ?_
  refine j_istore_n (lv' := [(2, .int (J 0)), (0, .ref (a 1)), (1, .int (J x1))]) C dX3_sidesWith_1 hl (by decide) rfl (fun ls hl => ?_)
  refine j_iconst C dX3_sidesWith_2 ?_
  refine j_istore_n (lv' := [(3, .int (J 0)), (2, .int (J 0)), (0, .ref (a 1)), (1, .int (J x1))]) C dX3_sidesWith_3 hl (by decide) rfl (fun ls hl => ?_)
  obtain ⟨n_, h⟩ := h
  exact w_N_sidesWith_4 C  n_ 0 0 h _ _ _ hH (lv_sub hl [2, 3, 1, 0] rfl)
abbrev po_N_isFreeOfRim (cA : ClassId) (a : Nat → Nat) (xStraight xLeast nPosts nThirds : Int) (nCorners nSums nArrows : Nat → Int) (aBehind aAhead : Int) (aCells aBefore aAfter : Nat → Int) (gCorners gLowest gFirst gFresh gThere : Int) (gRow gPlaces gOver gVia gQueue : Nat → Int) (bTold bStraight bLeast : Int) (bPostsOf bSets bTotals : Nat → Int) (Q : Int → Prop) : Int32 → va_W → Prop := fun r w => ∃ z, r = J z ∧ w = wX cA a xStraight xLeast nPosts nThirds nCorners nSums nArrows aBehind aAhead aCells aBefore aAfter gCorners gLowest gFirst gFresh gThere gRow gPlaces gOver gVia gQueue bTold bStraight bLeast bPostsOf bSets bTotals ∧ Q z
set_option maxRecDepth 4000 in
theorem c_N_isFreeOfRim {l : Launch} {D : va_G} {cA : ClassId} {a : Nat → Nat} {sz : Nat} {xStraight xLeast nPosts nThirds : Int} {nCorners nSums nArrows : Nat → Int} {aBehind aAhead : Int} {aCells aBefore aAfter : Nat → Int} {gCorners gLowest gFirst gFresh gThere : Int} {gRow gPlaces gOver gVia gQueue : Nat → Int} {bTold bStraight bLeast : Int} {bPostsOf bSets bTotals : Nat → Int} {x1 : Int} {Q : Int → Prop} (h : wp_N_isFreeOfRim x1 nPosts nThirds nCorners nArrows Q) : Met l yX3_isFreeOfRim (.code yX3_isFreeOfRim cX3_isFreeOfRim 2 (some .boolean) :: lw_ok) rm_N_isFreeOfRim (xPre D cA sz [.ref (a 1), .int (J x1)] (wX cA a xStraight xLeast nPosts nThirds nCorners nSums nArrows aBehind aAhead aCells aBefore aAfter gCorners gLowest gFirst gFresh gThere gRow gPlaces gOver gVia gQueue bTold bStraight bLeast bPostsOf bSets bTotals)) (va_Qi (po_N_isFreeOfRim cA a xStraight xLeast nPosts nThirds nCorners nSums nArrows aBehind aAhead aCells aBefore aAfter gCorners gLowest gFirst gFresh gThere gRow gPlaces gOver gVia gQueue bTold bStraight bLeast bPostsOf bSets bTotals Q) (xB D cA (va_A (wX cA a xStraight xLeast nPosts nThirds nCorners nSums nArrows aBehind aAhead aCells aBefore aAfter gCorners gLowest gFirst gFresh gThere gRow gPlaces gOver gVia gQueue bTold bStraight bLeast bPostsOf bSets bTotals) sz)) (va_A (wX cA a xStraight xLeast nPosts nThirds nCorners nSums nArrows aBehind aAhead aCells aBefore aAfter gCorners gLowest gFirst gFresh gThere gRow gPlaces gOver gVia gQueue bTold bStraight bLeast bPostsOf bSets bTotals) sz)) 0 0 (va_A (wX cA a xStraight xLeast nPosts nThirds nCorners nSums nArrows aBehind aAhead aCells aBefore aAfter gCorners gLowest gFirst gFresh gThere gRow gPlaces gOver gVia gQueue bTold bStraight bLeast bPostsOf bSets bTotals) sz) := by
  refine xmet_i (by decide) (Nat.le_of_ble_eq_true rfl) ?_
  intro p e s m args below meth c A ls C hH hl
  have C : XC p s m args meth c cX3_isFreeOfRim 2 RX3 (some .boolean) D cA A := C
  have hl : lv_has ls 2 [(0, .ref (a 1)), (1, .int (J x1))] := hl
  unfold wp_N_isFreeOfRim at h
  refine j_aload_n C dX3_isFreeOfRim_0 (lv_at hl 0 rfl) ?_
  refine j_iload_n C dX3_isFreeOfRim_1 (lv_at hl 1 rfl) ?_
  refine xcallV_i (As := [.int (J x1)]) (rest := []) (q0 := 1) C hH (fun sz => c_N_cornersAt h) xl_X3_71 rfl rfl ⟨rfl, rfl⟩ ⟨Nat.le_of_ble_eq_true rfl, Nat.le_of_ble_eq_true rfl⟩ hl.1 rfl rfl (Nat.le_of_ble_eq_true rfl) dX3_isFreeOfRim_2 (fun r_ w_ H locs hw hH => ?_)
  obtain ⟨z_1, rfl, rfl, h⟩ := hw
  obtain ⟨g_2, h⟩ := h
  refine j_if_le C 21 g_2 dX3_isFreeOfRim_5 (by decide) (fun c_3 => ?_) (fun c_3 => ?_)
  · have h := h.1 c_3
    refine j_iconst C dX3_isFreeOfRim_21 ?_
    exact j_zret C hH (Or.inl rfl) ⟨_, rfl, rfl, h⟩ dX3_isFreeOfRim_22
  · have h := h.2 c_3
    refine j_aload_n C dX3_isFreeOfRim_8 (lv_at hl 0 rfl) ?_
    refine j_iload_n C dX3_isFreeOfRim_9 (lv_at hl 1 rfl) ?_
    refine j_iconst C dX3_isFreeOfRim_10 ?_
    refine xcallV_i (As := [.int (J x1), .int (J 1)]) (rest := []) (q0 := 1) C hH (fun sz => c_N_sidesAt h) xl_X3_68 rfl rfl ⟨rfl, rfl⟩ ⟨Nat.le_of_ble_eq_true rfl, Nat.le_of_ble_eq_true rfl⟩ hl.1 rfl rfl (Nat.le_of_ble_eq_true rfl) dX3_isFreeOfRim_11 (fun r_ w_ H locs hw hH => ?_)
    obtain ⟨z_4, rfl, rfl, h⟩ := hw
    obtain ⟨g_5, h⟩ := h
    refine j_if_ne C 21 g_5 dX3_isFreeOfRim_14 (by decide) (fun c_6 => ?_) (fun c_6 => ?_)
    · have h := h.2 c_6
      refine j_iconst C dX3_isFreeOfRim_21 ?_
      exact j_zret C hH (Or.inl rfl) ⟨_, rfl, rfl, h⟩ dX3_isFreeOfRim_22
    · have h := h.1 c_6
      refine j_iconst C dX3_isFreeOfRim_17 ?_
      refine j_goto C 22 dX3_isFreeOfRim_18 (by decide) ?_
      exact j_zret C hH (Or.inr rfl) ⟨_, rfl, rfl, h⟩ dX3_isFreeOfRim_22
abbrev po_N_bitOf (cA : ClassId) (a : Nat → Nat) (xStraight xLeast nPosts nThirds : Int) (nCorners nSums nArrows : Nat → Int) (aBehind aAhead : Int) (aCells aBefore aAfter : Nat → Int) (gCorners gLowest gFirst gFresh gThere : Int) (gRow gPlaces gOver gVia gQueue : Nat → Int) (bTold bStraight bLeast : Int) (bPostsOf bSets bTotals : Nat → Int) (Q : Int → Prop) : Int32 → va_W → Prop := fun r w => ∃ z, r = J z ∧ w = wX cA a xStraight xLeast nPosts nThirds nCorners nSums nArrows aBehind aAhead aCells aBefore aAfter gCorners gLowest gFirst gFresh gThere gRow gPlaces gOver gVia gQueue bTold bStraight bLeast bPostsOf bSets bTotals ∧ Q z
set_option maxRecDepth 4000 in
theorem c_N_bitOf {l : Launch} {D : va_G} {cA : ClassId} {a : Nat → Nat} {sz : Nat} {xStraight xLeast nPosts nThirds : Int} {nCorners nSums nArrows : Nat → Int} {aBehind aAhead : Int} {aCells aBefore aAfter : Nat → Int} {gCorners gLowest gFirst gFresh gThere : Int} {gRow gPlaces gOver gVia gQueue : Nat → Int} {bTold bStraight bLeast : Int} {bPostsOf bSets bTotals : Nat → Int} {x1 x2 : Int} {Q : Int → Prop} (h : wp_N_bitOf x1 x2 nArrows Q) : Met l yX3_bitOf (.code yX3_bitOf cX3_bitOf 3 (some .int) :: lw_ok) rm_N_bitOf (xPre D cA sz [.ref (a 1), .int (J x1), .int (J x2)] (wX cA a xStraight xLeast nPosts nThirds nCorners nSums nArrows aBehind aAhead aCells aBefore aAfter gCorners gLowest gFirst gFresh gThere gRow gPlaces gOver gVia gQueue bTold bStraight bLeast bPostsOf bSets bTotals)) (va_Qi (po_N_bitOf cA a xStraight xLeast nPosts nThirds nCorners nSums nArrows aBehind aAhead aCells aBefore aAfter gCorners gLowest gFirst gFresh gThere gRow gPlaces gOver gVia gQueue bTold bStraight bLeast bPostsOf bSets bTotals Q) (xB D cA (va_A (wX cA a xStraight xLeast nPosts nThirds nCorners nSums nArrows aBehind aAhead aCells aBefore aAfter gCorners gLowest gFirst gFresh gThere gRow gPlaces gOver gVia gQueue bTold bStraight bLeast bPostsOf bSets bTotals) sz)) (va_A (wX cA a xStraight xLeast nPosts nThirds nCorners nSums nArrows aBehind aAhead aCells aBefore aAfter gCorners gLowest gFirst gFresh gThere gRow gPlaces gOver gVia gQueue bTold bStraight bLeast bPostsOf bSets bTotals) sz)) 0 0 (va_A (wX cA a xStraight xLeast nPosts nThirds nCorners nSums nArrows aBehind aAhead aCells aBefore aAfter gCorners gLowest gFirst gFresh gThere gRow gPlaces gOver gVia gQueue bTold bStraight bLeast bPostsOf bSets bTotals) sz) := by
  refine xmet_i (by decide) (Nat.le_of_ble_eq_true rfl) ?_
  intro p e s m args below meth c A ls C hH hl
  have C : XC p s m args meth c cX3_bitOf 3 RX3 (some .int) D cA A := C
  have hl : lv_has ls 3 [(0, .ref (a 1)), (1, .int (J x1)), (2, .int (J x2))] := hl
  unfold wp_N_bitOf at h
  refine j_aload_n C dX3_bitOf_0 (lv_at hl 0 rfl) ?_
  refine j_iload_n C dX3_bitOf_1 (lv_at hl 1 rfl) ?_
  refine j_iload_n C dX3_bitOf_2 (lv_at hl 2 rfl) ?_
  refine xcallV_i (As := [.int (J x1), .int (J x2)]) (rest := []) (q0 := 1) C hH (fun sz => c_N_hasArrow h) xl_X3_58 rfl rfl ⟨rfl, rfl⟩ ⟨Nat.le_of_ble_eq_true rfl, Nat.le_of_ble_eq_true rfl⟩ hl.1 rfl rfl (Nat.le_of_ble_eq_true rfl) dX3_bitOf_3 (fun r_ w_ H locs hw hH => ?_)
  obtain ⟨z_1, rfl, rfl, h⟩ := hw
  obtain ⟨g_2, h⟩ := h
  refine j_if_eq C 20 g_2 dX3_bitOf_6 (by decide) (fun c_3 => ?_) (fun c_3 => ?_)
  · have h := h.1 c_3
    refine j_iconst C dX3_bitOf_20 ?_
    exact j_iret C hH ⟨_, rfl, rfl, h⟩ dX3_bitOf_21
  · have h := h.2 c_3
    refine j_iconst C dX3_bitOf_9 ?_
    refine j_aload_n C dX3_bitOf_10 (lv_at hl 0 rfl) ?_
    refine j_iload_n C dX3_bitOf_11 (lv_at hl 1 rfl) ?_
    refine j_iload_n C dX3_bitOf_12 (lv_at hl 2 rfl) ?_
    refine xcallV_i (As := [.int (J x1), .int (J x2)]) (rest := [.int (J 1)]) (q0 := 1) C hH (fun sz => c_N_thirdWith h) xl_X3_55 rfl rfl ⟨rfl, rfl⟩ ⟨Nat.le_of_ble_eq_true rfl, Nat.le_of_ble_eq_true rfl⟩ hl.1 rfl rfl (Nat.le_of_ble_eq_true rfl) dX3_bitOf_13 (fun r_ w_ H locs hw hH => ?_)
    obtain ⟨z_4, rfl, rfl, h⟩ := hw
    refine j_ishl C dX3_bitOf_16 ?_
    refine j_goto C 21 dX3_bitOf_17 (by decide) ?_
    exact j_iret C hH ⟨_, rfl, rfl, h⟩ dX3_bitOf_21
abbrev po_N_widened (cA : ClassId) (a : Nat → Nat) (xStraight xLeast nPosts nThirds : Int) (nCorners nSums nArrows : Nat → Int) (aBehind aAhead : Int) (aCells aBefore aAfter : Nat → Int) (gCorners gLowest gFirst gFresh gThere : Int) (gRow gPlaces gOver gVia gQueue : Nat → Int) (bTold bStraight bLeast : Int) (bPostsOf bSets bTotals : Nat → Int) (Q : Int → Prop) : Int32 → va_W → Prop := fun r w => ∃ z, r = J z ∧ w = wX cA a xStraight xLeast nPosts nThirds nCorners nSums nArrows aBehind aAhead aCells aBefore aAfter gCorners gLowest gFirst gFresh gThere gRow gPlaces gOver gVia gQueue bTold bStraight bLeast bPostsOf bSets bTotals ∧ Q z
set_option maxRecDepth 4000 in
theorem w_N_widened_5 {p : Program} {l : Launch} {e : Env} {s : State} {m : MethodId} {args : Array Value} {below : List Frame} {meth : Method} {c : Code} {D : va_G} {cA : ClassId} {A : Nat → Prop} {a : Nat → Nat} {xStraight xLeast nPosts nThirds : Int} {nCorners nSums nArrows : Nat → Int} {aBehind aAhead : Int} {aCells aBefore aAfter : Nat → Int} {gCorners gLowest gFirst gFresh gThere : Int} {gRow gPlaces gOver gVia gQueue : Nat → Int} {bTold bStraight bLeast : Int} {bPostsOf bSets bTotals : Nat → Int} (C : XC p s m args meth c cX3_widened 6 RX3 (some .int) D cA A) {Q : Int → Prop} {x2 : Int}  : ∀ (n : Nat) (x3 : Int) (x4 : Int), wp_N_widened_5 Q nPosts nArrows x2 n x3 x4 → ∀ (H : Heap) (locs : List Loc) (ls : Array Slot), XH D A s (wX cA a xStraight xLeast nPosts nThirds nCorners nSums nArrows aBehind aAhead aCells aBefore aAfter gCorners gLowest gFirst gFresh gThere gRow gPlaces gOver gVia gQueue bTold bStraight bLeast bPostsOf bSets bTotals) H locs → lv_has ls 6 [(0, .ref (a 1)), (2, .int (J x2)), (3, .int (J x3)), (4, .int (J x4))] → W p l e rm_N_widened s m args below meth c H locs 0 0 (MQ below (va_Qi (po_N_widened cA a xStraight xLeast nPosts nThirds nCorners nSums nArrows aBehind aAhead aCells aBefore aAfter gCorners gLowest gFirst gFresh gThere gRow gPlaces gOver gVia gQueue bTold bStraight bLeast bPostsOf bSets bTotals Q) (xB D cA A) A) args s 0 0 A) (F0 m 5 ls []) := by
  intro n
  induction n with
  | zero => intro x3 x4 h; exact (show False from h).elim
  | succ n hK5 =>
    intro x3 x4 h H locs ls hH hl
    have h : wp_N_widened_5_b  (wp_N_widened_5 Q nPosts nArrows x2 n) Q nPosts nArrows x2 x3 x4 := h
    unfold wp_N_widened_5_b at h
    refine j_iload C dX3_widened_5 (lv_at hl 3 rfl) ?_
    refine j_aload_n C dX3_widened_7 (lv_at hl 0 rfl) ?_
    refine xg_X3_posts C hH dX3_widened_8 ?_
    obtain ⟨g_1, h⟩ := h
    obtain ⟨g_2, h⟩ := h
    refine j_icmp_ge C 49 g_1 g_2 dX3_widened_11 (by decide) (fun c_3 => ?_) (fun c_3 => ?_)
    · have h := h.1 c_3
      refine j_iload_n C dX3_widened_49 (lv_at hl 2 rfl) ?_
      exact j_iret C hH ⟨_, rfl, rfl, h⟩ dX3_widened_50
    · have h := h.2 c_3
      refine j_aload_n C dX3_widened_14 (lv_at hl 0 rfl) ?_
      refine j_iload_n C dX3_widened_15 (lv_at hl 1 rfl) ?_
      refine j_iload C dX3_widened_16 (lv_at hl 3 rfl) ?_
      refine xcallV_i (As := [.int (J x2), .int (J x4)]) (rest := []) (q0 := 1) C hH (fun sz => c_N_bitOf h) xl_X3_87 rfl rfl ⟨rfl, rfl⟩ ⟨Nat.le_of_ble_eq_true rfl, Nat.le_of_ble_eq_true rfl⟩ hl.1 rfl rfl (Nat.le_of_ble_eq_true rfl) dX3_widened_18 (fun r_ w_ H locs hw hH => ?_)
      obtain ⟨z_4, rfl, rfl, h⟩ := hw
      refine j_aload_n C dX3_widened_21 (lv_at hl 0 rfl) ?_
      refine j_iload C dX3_widened_22 (lv_at hl 3 rfl) ?_
      refine j_iload_n C dX3_widened_24 (lv_at hl 1 rfl) ?_
      refine xcallV_i (As := [.int (J x4), .int (J x2)]) (rest := [.int (J z_4)]) (q0 := 1) C hH (fun sz => c_N_bitOf h) xl_X3_87 rfl rfl ⟨rfl, rfl⟩ ⟨Nat.le_of_ble_eq_true rfl, Nat.le_of_ble_eq_true rfl⟩ hl.1 rfl rfl (Nat.le_of_ble_eq_true rfl) dX3_widened_25 (fun r_ w_ H locs hw hH => ?_)
      obtain ⟨z_5, rfl, rfl, h⟩ := hw
      refine j_ior C dX3_widened_28 ?_
      refine j_istore (lv' := [(5, .int (J (jor z_4 z_5))), (0, .ref (a 1)), (2, .int (J x2)), (3, .int (J x3)), (4, .int (J x4))]) C dX3_widened_29 hl (by decide) rfl (fun ls hl => ?_)
      refine j_iload_n C dX3_widened_31 (lv_at hl 3 rfl) ?_
      refine j_iload C dX3_widened_32 (lv_at hl 0 rfl) ?_
      refine j_iand C dX3_widened_34 ?_
      obtain ⟨g_6, h⟩ := h
      refine j_if_eq C 43 g_6 dX3_widened_35 (by decide) (fun c_7 => ?_) (fun c_7 => ?_)
      · have h := h.1 c_7
        refine j_iinc (k := 4) (v := x4 + 1) (lv' := [(4, .int (J (x4 + 1))), (5, .int (J (jor z_4 z_5))), (0, .ref (a 1)), (2, .int (J x2)), (3, .int (J x3))]) C dX3_widened_43 hl rfl rfl (by decide) rfl (fun ls hl => ?_)
        refine j_goto C 5 dX3_widened_46 (by decide) ?_
        exact hK5 x3 (x4 + 1) h _ _ _ hH (lv_sub hl [2, 3, 4, 0] rfl)
      · have h := h.2 c_7
        refine j_iload_n C dX3_widened_38 (lv_at hl 3 rfl) ?_
        refine j_iload C dX3_widened_39 (lv_at hl 0 rfl) ?_
        refine j_ior C dX3_widened_41 ?_
        refine j_istore_n (lv' := [(3, .int (J (jor x3 (jor z_4 z_5)))), (5, .int (J (jor z_4 z_5))), (0, .ref (a 1)), (2, .int (J x2)), (4, .int (J x4))]) C dX3_widened_42 hl (by decide) rfl (fun ls hl => ?_)
        refine j_iinc (k := 4) (v := x4 + 1) (lv' := [(4, .int (J (x4 + 1))), (3, .int (J (jor x3 (jor z_4 z_5)))), (5, .int (J (jor z_4 z_5))), (0, .ref (a 1)), (2, .int (J x2))]) C dX3_widened_43 hl rfl rfl (by decide) rfl (fun ls hl => ?_)
        refine j_goto C 5 dX3_widened_46 (by decide) ?_
        exact hK5 (jor x3 (jor z_4 z_5)) (x4 + 1) h _ _ _ hH (lv_sub hl [3, 4, 1, 0] rfl)
set_option maxRecDepth 4000 in
theorem c_N_widened {l : Launch} {D : va_G} {cA : ClassId} {a : Nat → Nat} {sz : Nat} {xStraight xLeast nPosts nThirds : Int} {nCorners nSums nArrows : Nat → Int} {aBehind aAhead : Int} {aCells aBefore aAfter : Nat → Int} {gCorners gLowest gFirst gFresh gThere : Int} {gRow gPlaces gOver gVia gQueue : Nat → Int} {bTold bStraight bLeast : Int} {bPostsOf bSets bTotals : Nat → Int} {x1 x2 : Int} {Q : Int → Prop} (h : wp_N_widened x1 x2 nPosts nArrows Q) : Met l yX3_widened (.code yX3_widened cX3_widened 6 (some .int) :: lw_ok) rm_N_widened (xPre D cA sz [.ref (a 1), .int (J x1), .int (J x2)] (wX cA a xStraight xLeast nPosts nThirds nCorners nSums nArrows aBehind aAhead aCells aBefore aAfter gCorners gLowest gFirst gFresh gThere gRow gPlaces gOver gVia gQueue bTold bStraight bLeast bPostsOf bSets bTotals)) (va_Qi (po_N_widened cA a xStraight xLeast nPosts nThirds nCorners nSums nArrows aBehind aAhead aCells aBefore aAfter gCorners gLowest gFirst gFresh gThere gRow gPlaces gOver gVia gQueue bTold bStraight bLeast bPostsOf bSets bTotals Q) (xB D cA (va_A (wX cA a xStraight xLeast nPosts nThirds nCorners nSums nArrows aBehind aAhead aCells aBefore aAfter gCorners gLowest gFirst gFresh gThere gRow gPlaces gOver gVia gQueue bTold bStraight bLeast bPostsOf bSets bTotals) sz)) (va_A (wX cA a xStraight xLeast nPosts nThirds nCorners nSums nArrows aBehind aAhead aCells aBefore aAfter gCorners gLowest gFirst gFresh gThere gRow gPlaces gOver gVia gQueue bTold bStraight bLeast bPostsOf bSets bTotals) sz)) 0 0 (va_A (wX cA a xStraight xLeast nPosts nThirds nCorners nSums nArrows aBehind aAhead aCells aBefore aAfter gCorners gLowest gFirst gFresh gThere gRow gPlaces gOver gVia gQueue bTold bStraight bLeast bPostsOf bSets bTotals) sz) := by
  refine xmet_i (by decide) (Nat.le_of_ble_eq_true rfl) ?_
  intro p e s m args below meth c A ls C hH hl
  have C : XC p s m args meth c cX3_widened 6 RX3 (some .int) D cA A := C
  have hl : lv_has ls 6 [(0, .ref (a 1)), (1, .int (J x1)), (2, .int (J x2))] := hl
  unfold wp_N_widened at h
  refine j_iload_n C dX3_widened_0 (lv_at hl 1 rfl) ?_
  refine j_istore_n (lv' := [(3, .int (J x1)), (0, .ref (a 1)), (1, .int (J x1)), (2, .int (J x2))]) C dX3_widened_1 hl (by decide) rfl (fun ls hl => ?_)
  refine j_iconst C dX3_widened_2 ?_
  refine j_istore (lv' := [(4, .int (J 0)), (3, .int (J x1)), (0, .ref (a 1)), (1, .int (J x1)), (2, .int (J x2))]) C dX3_widened_3 hl (by decide) rfl (fun ls hl => ?_)
  obtain ⟨n_, h⟩ := h
  exact w_N_widened_5 C  n_ x1 0 h _ _ _ hH (lv_sub hl [2, 4, 1, 0] rfl)
abbrev po_N_hangingWith (cA : ClassId) (a : Nat → Nat) (xStraight xLeast nPosts nThirds : Int) (nCorners nSums nArrows : Nat → Int) (aBehind aAhead : Int) (aCells aBefore aAfter : Nat → Int) (gCorners gLowest gFirst gFresh gThere : Int) (gRow gPlaces gOver gVia gQueue : Nat → Int) (bTold bStraight bLeast : Int) (bPostsOf bSets bTotals : Nat → Int) (Q : Int → Prop) : Int32 → va_W → Prop := fun r w => ∃ z, r = J z ∧ w = wX cA a xStraight xLeast nPosts nThirds nCorners nSums nArrows aBehind aAhead aCells aBefore aAfter gCorners gLowest gFirst gFresh gThere gRow gPlaces gOver gVia gQueue bTold bStraight bLeast bPostsOf bSets bTotals ∧ Q z
set_option maxRecDepth 4000 in
theorem w_N_hangingWith_27 {p : Program} {l : Launch} {e : Env} {s : State} {m : MethodId} {args : Array Value} {below : List Frame} {meth : Method} {c : Code} {D : va_G} {cA : ClassId} {A : Nat → Prop} {a : Nat → Nat} {xStraight xLeast nPosts nThirds : Int} {nCorners nSums nArrows : Nat → Int} {aBehind aAhead : Int} {aCells aBefore aAfter : Nat → Int} {gCorners gLowest gFirst gFresh gThere : Int} {gRow gPlaces gOver gVia gQueue : Nat → Int} {bTold bStraight bLeast : Int} {bPostsOf bSets bTotals : Nat → Int} (C : XC p s m args meth c cX3_hangingWith 7 RX3 (some .int) D cA A) {K8 : Int → Int → Int → Prop} {Q : Int → Prop} {x2 : Int} {x4 : Int} {x5 : Int}  (hK8 : ∀ (x3 : Int) (x4 : Int) (x5 : Int), K8 x3 x4 x5 → ∀ (H : Heap) (locs : List Loc) (ls : Array Slot), XH D A s (wX cA a xStraight xLeast nPosts nThirds nCorners nSums nArrows aBehind aAhead aCells aBefore aAfter gCorners gLowest gFirst gFresh gThere gRow gPlaces gOver gVia gQueue bTold bStraight bLeast bPostsOf bSets bTotals) H locs → lv_has ls 7 [(0, .ref (a 1)), (2, .int (J x2)), (3, .int (J x3)), (4, .int (J x4)), (5, .int (J x5))] → W p l e rm_N_hangingWith s m args below meth c H locs 0 0 (MQ below (va_Qi (po_N_hangingWith cA a xStraight xLeast nPosts nThirds nCorners nSums nArrows aBehind aAhead aCells aBefore aAfter gCorners gLowest gFirst gFresh gThere gRow gPlaces gOver gVia gQueue bTold bStraight bLeast bPostsOf bSets bTotals Q) (xB D cA A) A) args s 0 0 A) (F0 m 8 ls [])) : ∀ (n : Nat) (x3 : Int) (x6 : Int), wp_N_hangingWith_27 K8 Q nPosts nArrows x2 x4 x5 n x3 x6 → ∀ (H : Heap) (locs : List Loc) (ls : Array Slot), XH D A s (wX cA a xStraight xLeast nPosts nThirds nCorners nSums nArrows aBehind aAhead aCells aBefore aAfter gCorners gLowest gFirst gFresh gThere gRow gPlaces gOver gVia gQueue bTold bStraight bLeast bPostsOf bSets bTotals) H locs → lv_has ls 7 [(0, .ref (a 1)), (2, .int (J x2)), (3, .int (J x3)), (4, .int (J x4)), (5, .int (J x5)), (6, .int (J x6))] → W p l e rm_N_hangingWith s m args below meth c H locs 0 0 (MQ below (va_Qi (po_N_hangingWith cA a xStraight xLeast nPosts nThirds nCorners nSums nArrows aBehind aAhead aCells aBefore aAfter gCorners gLowest gFirst gFresh gThere gRow gPlaces gOver gVia gQueue bTold bStraight bLeast bPostsOf bSets bTotals Q) (xB D cA A) A) args s 0 0 A) (F0 m 27 ls []) := by
  intro n
  induction n with
  | zero => intro x3 x6 h; exact (show False from h).elim
  | succ n hK27 =>
    intro x3 x6 h H locs ls hH hl
    have h : wp_N_hangingWith_27_b K8 (wp_N_hangingWith_27 K8 Q nPosts nArrows x2 x4 x5 n) Q nPosts nArrows x2 x4 x5 x3 x6 := h
    unfold wp_N_hangingWith_27_b at h
    refine j_iload C dX3_hangingWith_27 (lv_at hl 5 rfl) ?_
    refine j_aload_n C dX3_hangingWith_29 (lv_at hl 0 rfl) ?_
    refine xg_X3_posts C hH dX3_hangingWith_30 ?_
    obtain ⟨g_1, h⟩ := h
    obtain ⟨g_2, h⟩ := h
    refine j_icmp_ge C 61 g_1 g_2 dX3_hangingWith_33 (by decide) (fun c_3 => ?_) (fun c_3 => ?_)
    · have h := h.1 c_3
      refine j_iinc (k := 4) (v := x5 + 1) (lv' := [(5, .int (J (x5 + 1))), (0, .ref (a 1)), (2, .int (J x2)), (3, .int (J x3)), (4, .int (J x4)), (6, .int (J x6))]) C dX3_hangingWith_61 hl rfl rfl (by decide) rfl (fun ls hl => ?_)
      refine j_goto C 8 dX3_hangingWith_64 (by decide) ?_
      exact hK8 x3 x4 (x5 + 1) h _ _ _ hH (lv_sub hl [1, 2, 3, 4, 0] rfl)
    · have h := h.2 c_3
      refine j_iload_n C dX3_hangingWith_36 (lv_at hl 1 rfl) ?_
      refine j_iconst C dX3_hangingWith_37 ?_
      obtain ⟨g_4, h⟩ := h
      refine j_icmp_eq C 47 g_4 (by unfold jR; decide) dX3_hangingWith_38 (by decide) (fun c_5 => ?_) (fun c_5 => ?_)
      · have h := h.1 c_5
        refine j_aload_n C dX3_hangingWith_47 (lv_at hl 0 rfl) ?_
        refine j_iload_n C dX3_hangingWith_48 (lv_at hl 2 rfl) ?_
        refine j_iload C dX3_hangingWith_49 (lv_at hl 5 rfl) ?_
        refine xcallV_i (As := [.int (J x3), .int (J x6)]) (rest := []) (q0 := 1) C hH (fun sz => c_N_widened h) xl_X3_90 rfl rfl ⟨rfl, rfl⟩ ⟨Nat.le_of_ble_eq_true rfl, Nat.le_of_ble_eq_true rfl⟩ hl.1 rfl rfl (Nat.le_of_ble_eq_true rfl) dX3_hangingWith_51 (fun r_ w_ H locs hw hH => ?_)
        obtain ⟨z_6, rfl, rfl, h⟩ := hw
        refine j_istore_n (lv' := [(3, .int (J z_6)), (0, .ref (a 1)), (2, .int (J x2)), (4, .int (J x4)), (5, .int (J x5)), (6, .int (J x6))]) C dX3_hangingWith_54 hl (by decide) rfl (fun ls hl => ?_)
        refine j_iinc (k := 5) (v := x6 + 1) (lv' := [(6, .int (J (x6 + 1))), (3, .int (J z_6)), (0, .ref (a 1)), (2, .int (J x2)), (4, .int (J x4)), (5, .int (J x5))]) C dX3_hangingWith_55 hl rfl rfl (by decide) rfl (fun ls hl => ?_)
        refine j_goto C 27 dX3_hangingWith_58 (by decide) ?_
        exact hK27 z_6 (x6 + 1) h _ _ _ hH (lv_sub hl [2, 3, 1, 4, 5, 0] rfl)
      · have h := h.2 c_5
        refine j_iload_n C dX3_hangingWith_41 (lv_at hl 1 rfl) ?_
        refine j_iload C dX3_hangingWith_42 (lv_at hl 5 rfl) ?_
        refine j_icmp_ne C 55 g_4 g_1 dX3_hangingWith_44 (by decide) (fun c_7 => ?_) (fun c_7 => ?_)
        · have h := h.2 c_7
          refine j_iinc (k := 5) (v := x6 + 1) (lv' := [(6, .int (J (x6 + 1))), (0, .ref (a 1)), (2, .int (J x2)), (3, .int (J x3)), (4, .int (J x4)), (5, .int (J x5))]) C dX3_hangingWith_55 hl rfl rfl (by decide) rfl (fun ls hl => ?_)
          refine j_goto C 27 dX3_hangingWith_58 (by decide) ?_
          exact hK27 x3 (x6 + 1) h _ _ _ hH (lv_sub hl [1, 2, 3, 4, 5, 0] rfl)
        · have h := h.1 c_7
          refine j_aload_n C dX3_hangingWith_47 (lv_at hl 0 rfl) ?_
          refine j_iload_n C dX3_hangingWith_48 (lv_at hl 2 rfl) ?_
          refine j_iload C dX3_hangingWith_49 (lv_at hl 5 rfl) ?_
          refine xcallV_i (As := [.int (J x3), .int (J x6)]) (rest := []) (q0 := 1) C hH (fun sz => c_N_widened h) xl_X3_90 rfl rfl ⟨rfl, rfl⟩ ⟨Nat.le_of_ble_eq_true rfl, Nat.le_of_ble_eq_true rfl⟩ hl.1 rfl rfl (Nat.le_of_ble_eq_true rfl) dX3_hangingWith_51 (fun r_ w_ H locs hw hH => ?_)
          obtain ⟨z_8, rfl, rfl, h⟩ := hw
          refine j_istore_n (lv' := [(3, .int (J z_8)), (0, .ref (a 1)), (2, .int (J x2)), (4, .int (J x4)), (5, .int (J x5)), (6, .int (J x6))]) C dX3_hangingWith_54 hl (by decide) rfl (fun ls hl => ?_)
          refine j_iinc (k := 5) (v := x6 + 1) (lv' := [(6, .int (J (x6 + 1))), (3, .int (J z_8)), (0, .ref (a 1)), (2, .int (J x2)), (4, .int (J x4)), (5, .int (J x5))]) C dX3_hangingWith_55 hl rfl rfl (by decide) rfl (fun ls hl => ?_)
          refine j_goto C 27 dX3_hangingWith_58 (by decide) ?_
          exact hK27 z_8 (x6 + 1) h _ _ _ hH (lv_sub hl [2, 3, 1, 4, 5, 0] rfl)
set_option maxRecDepth 4000 in
theorem w_N_hangingWith_8 {p : Program} {l : Launch} {e : Env} {s : State} {m : MethodId} {args : Array Value} {below : List Frame} {meth : Method} {c : Code} {D : va_G} {cA : ClassId} {A : Nat → Prop} {a : Nat → Nat} {xStraight xLeast nPosts nThirds : Int} {nCorners nSums nArrows : Nat → Int} {aBehind aAhead : Int} {aCells aBefore aAfter : Nat → Int} {gCorners gLowest gFirst gFresh gThere : Int} {gRow gPlaces gOver gVia gQueue : Nat → Int} {bTold bStraight bLeast : Int} {bPostsOf bSets bTotals : Nat → Int} (C : XC p s m args meth c cX3_hangingWith 7 RX3 (some .int) D cA A) {Q : Int → Prop} {x2 : Int}  : ∀ (n : Nat) (x3 : Int) (x4 : Int) (x5 : Int), wp_N_hangingWith_8 Q nPosts nArrows x2 n x3 x4 x5 → ∀ (H : Heap) (locs : List Loc) (ls : Array Slot), XH D A s (wX cA a xStraight xLeast nPosts nThirds nCorners nSums nArrows aBehind aAhead aCells aBefore aAfter gCorners gLowest gFirst gFresh gThere gRow gPlaces gOver gVia gQueue bTold bStraight bLeast bPostsOf bSets bTotals) H locs → lv_has ls 7 [(0, .ref (a 1)), (2, .int (J x2)), (3, .int (J x3)), (4, .int (J x4)), (5, .int (J x5))] → W p l e rm_N_hangingWith s m args below meth c H locs 0 0 (MQ below (va_Qi (po_N_hangingWith cA a xStraight xLeast nPosts nThirds nCorners nSums nArrows aBehind aAhead aCells aBefore aAfter gCorners gLowest gFirst gFresh gThere gRow gPlaces gOver gVia gQueue bTold bStraight bLeast bPostsOf bSets bTotals Q) (xB D cA A) A) args s 0 0 A) (F0 m 8 ls []) := by
  intro n
  induction n with
  | zero => intro x3 x4 x5 h; exact (show False from h).elim
  | succ n hK8 =>
    intro x3 x4 x5 h H locs ls hH hl
    have h : wp_N_hangingWith_8_b  (wp_N_hangingWith_8 Q nPosts nArrows x2 n) Q nPosts nArrows x2 x3 x4 x5 := h
    unfold wp_N_hangingWith_8_b at h
    refine j_iload C dX3_hangingWith_8 (lv_at hl 4 rfl) ?_
    refine j_bipush C (by decide +kernel) dX3_hangingWith_10 ?_
    obtain ⟨g_9, h⟩ := h
    refine j_icmp_gt C 67 g_9 (by unfold jR; decide) dX3_hangingWith_12 (by decide) (fun c_10 => ?_) (fun c_10 => ?_)
    · have h := h.1 c_10
      refine j_iload_n C dX3_hangingWith_67 (lv_at hl 2 rfl) ?_
      exact j_iret C hH ⟨_, rfl, rfl, h⟩ dX3_hangingWith_68
    · have h := h.2 c_10
      refine j_iload_n C dX3_hangingWith_15 (lv_at hl 2 rfl) ?_
      refine j_iload C dX3_hangingWith_16 (lv_at hl 3 rfl) ?_
      obtain ⟨g_11, h⟩ := h
      obtain ⟨g_12, h⟩ := h
      refine j_icmp_eq C 67 g_11 g_12 dX3_hangingWith_18 (by decide) (fun c_13 => ?_) (fun c_13 => ?_)
      · have h := h.1 c_13
        refine j_iload_n C dX3_hangingWith_67 (lv_at hl 2 rfl) ?_
        exact j_iret C hH ⟨_, rfl, rfl, h⟩ dX3_hangingWith_68
      · have h := h.2 c_13
        refine j_iload_n C dX3_hangingWith_21 (lv_at hl 2 rfl) ?_
        refine j_istore (lv' := [(4, .int (J x3)), (0, .ref (a 1)), (2, .int (J x2)), (3, .int (J x3)), (5, .int (J x5))]) C dX3_hangingWith_22 hl (by decide) rfl (fun ls hl => ?_)
        refine j_iconst C dX3_hangingWith_24 ?_
        refine j_istore (lv' := [(6, .int (J 0)), (4, .int (J x3)), (0, .ref (a 1)), (2, .int (J x2)), (3, .int (J x3)), (5, .int (J x5))]) C dX3_hangingWith_25 hl (by decide) rfl (fun ls hl => ?_)
        obtain ⟨n_, h⟩ := h
        exact w_N_hangingWith_27 C hK8 n_ x3 0 h _ _ _ hH (lv_sub hl [2, 3, 4, 1, 5, 0] rfl)
set_option maxRecDepth 4000 in
theorem c_N_hangingWith {l : Launch} {D : va_G} {cA : ClassId} {a : Nat → Nat} {sz : Nat} {xStraight xLeast nPosts nThirds : Int} {nCorners nSums nArrows : Nat → Int} {aBehind aAhead : Int} {aCells aBefore aAfter : Nat → Int} {gCorners gLowest gFirst gFresh gThere : Int} {gRow gPlaces gOver gVia gQueue : Nat → Int} {bTold bStraight bLeast : Int} {bPostsOf bSets bTotals : Nat → Int} {x1 x2 : Int} {Q : Int → Prop} (h : wp_N_hangingWith x1 x2 nPosts nArrows Q) : Met l yX3_hangingWith (.code yX3_hangingWith cX3_hangingWith 7 (some .int) :: lw_ok) rm_N_hangingWith (xPre D cA sz [.ref (a 1), .int (J x1), .int (J x2)] (wX cA a xStraight xLeast nPosts nThirds nCorners nSums nArrows aBehind aAhead aCells aBefore aAfter gCorners gLowest gFirst gFresh gThere gRow gPlaces gOver gVia gQueue bTold bStraight bLeast bPostsOf bSets bTotals)) (va_Qi (po_N_hangingWith cA a xStraight xLeast nPosts nThirds nCorners nSums nArrows aBehind aAhead aCells aBefore aAfter gCorners gLowest gFirst gFresh gThere gRow gPlaces gOver gVia gQueue bTold bStraight bLeast bPostsOf bSets bTotals Q) (xB D cA (va_A (wX cA a xStraight xLeast nPosts nThirds nCorners nSums nArrows aBehind aAhead aCells aBefore aAfter gCorners gLowest gFirst gFresh gThere gRow gPlaces gOver gVia gQueue bTold bStraight bLeast bPostsOf bSets bTotals) sz)) (va_A (wX cA a xStraight xLeast nPosts nThirds nCorners nSums nArrows aBehind aAhead aCells aBefore aAfter gCorners gLowest gFirst gFresh gThere gRow gPlaces gOver gVia gQueue bTold bStraight bLeast bPostsOf bSets bTotals) sz)) 0 0 (va_A (wX cA a xStraight xLeast nPosts nThirds nCorners nSums nArrows aBehind aAhead aCells aBefore aAfter gCorners gLowest gFirst gFresh gThere gRow gPlaces gOver gVia gQueue bTold bStraight bLeast bPostsOf bSets bTotals) sz) := by
  refine xmet_i (by decide) (Nat.le_of_ble_eq_true rfl) ?_
  intro p e s m args below meth c A ls C hH hl
  have C : XC p s m args meth c cX3_hangingWith 7 RX3 (some .int) D cA A := C
  have hl : lv_has ls 7 [(0, .ref (a 1)), (1, .int (J x1)), (2, .int (J x2))] := hl
  unfold wp_N_hangingWith at h
  refine j_iload_n C dX3_hangingWith_0 (lv_at hl 1 rfl) ?_
  refine j_istore_n (lv' := [(3, .int (J x1)), (0, .ref (a 1)), (1, .int (J x1)), (2, .int (J x2))]) C dX3_hangingWith_1 hl (by decide) rfl (fun ls hl => ?_)
  refine j_iconst C dX3_hangingWith_2 ?_
  refine j_istore (lv' := [(4, .int (J 0)), (3, .int (J x1)), (0, .ref (a 1)), (1, .int (J x1)), (2, .int (J x2))]) C dX3_hangingWith_3 hl (by decide) rfl (fun ls hl => ?_)
  refine j_iconst C dX3_hangingWith_5 ?_
  refine j_istore (lv' := [(5, .int (J 0)), (4, .int (J 0)), (3, .int (J x1)), (0, .ref (a 1)), (1, .int (J x1)), (2, .int (J x2))]) C dX3_hangingWith_6 hl (by decide) rfl (fun ls hl => ?_)
  obtain ⟨n_, h⟩ := h
  exact w_N_hangingWith_8 C  n_ x1 0 0 h _ _ _ hH (lv_sub hl [3, 5, 2, 1, 0] rfl)
abbrev po_N_thirdsAt (cA : ClassId) (a : Nat → Nat) (xStraight xLeast nPosts nThirds : Int) (nCorners nSums nArrows : Nat → Int) (aBehind aAhead : Int) (aCells aBefore aAfter : Nat → Int) (gCorners gLowest gFirst gFresh gThere : Int) (gRow gPlaces gOver gVia gQueue : Nat → Int) (bTold bStraight bLeast : Int) (bPostsOf bSets bTotals : Nat → Int) (Q : Int → Prop) : Int32 → va_W → Prop := fun r w => ∃ z, r = J z ∧ w = wX cA a xStraight xLeast nPosts nThirds nCorners nSums nArrows aBehind aAhead aCells aBefore aAfter gCorners gLowest gFirst gFresh gThere gRow gPlaces gOver gVia gQueue bTold bStraight bLeast bPostsOf bSets bTotals ∧ Q z
set_option maxRecDepth 4000 in
theorem w_N_thirdsAt_4 {p : Program} {l : Launch} {e : Env} {s : State} {m : MethodId} {args : Array Value} {below : List Frame} {meth : Method} {c : Code} {D : va_G} {cA : ClassId} {A : Nat → Prop} {a : Nat → Nat} {xStraight xLeast nPosts nThirds : Int} {nCorners nSums nArrows : Nat → Int} {aBehind aAhead : Int} {aCells aBefore aAfter : Nat → Int} {gCorners gLowest gFirst gFresh gThere : Int} {gRow gPlaces gOver gVia gQueue : Nat → Int} {bTold bStraight bLeast : Int} {bPostsOf bSets bTotals : Nat → Int} (C : XC p s m args meth c cX3_thirdsAt 4 RX3 (some .int) D cA A) {Q : Int → Prop} {x1 : Int}  : ∀ (n : Nat) (x2 : Int) (x3 : Int), wp_N_thirdsAt_4 Q nPosts nArrows x1 n x2 x3 → ∀ (H : Heap) (locs : List Loc) (ls : Array Slot), XH D A s (wX cA a xStraight xLeast nPosts nThirds nCorners nSums nArrows aBehind aAhead aCells aBefore aAfter gCorners gLowest gFirst gFresh gThere gRow gPlaces gOver gVia gQueue bTold bStraight bLeast bPostsOf bSets bTotals) H locs → lv_has ls 4 [(0, .ref (a 1)), (1, .int (J x1)), (2, .int (J x2)), (3, .int (J x3))] → W p l e rm_N_thirdsAt s m args below meth c H locs 0 0 (MQ below (va_Qi (po_N_thirdsAt cA a xStraight xLeast nPosts nThirds nCorners nSums nArrows aBehind aAhead aCells aBefore aAfter gCorners gLowest gFirst gFresh gThere gRow gPlaces gOver gVia gQueue bTold bStraight bLeast bPostsOf bSets bTotals Q) (xB D cA A) A) args s 0 0 A) (F0 m 4 ls []) := by
  intro n
  induction n with
  | zero => intro x2 x3 h; exact (show False from h).elim
  | succ n hK4 =>
    intro x2 x3 h H locs ls hH hl
    have h : wp_N_thirdsAt_4_b  (wp_N_thirdsAt_4 Q nPosts nArrows x1 n) Q nPosts nArrows x1 x2 x3 := h
    unfold wp_N_thirdsAt_4_b at h
    refine j_iload_n C dX3_thirdsAt_4 (lv_at hl 3 rfl) ?_
    refine j_aload_n C dX3_thirdsAt_5 (lv_at hl 0 rfl) ?_
    refine xg_X3_posts C hH dX3_thirdsAt_6 ?_
    obtain ⟨g_1, h⟩ := h
    obtain ⟨g_2, h⟩ := h
    refine j_icmp_ge C 27 g_1 g_2 dX3_thirdsAt_9 (by decide) (fun c_3 => ?_) (fun c_3 => ?_)
    · have h := h.1 c_3
      refine j_iload_n C dX3_thirdsAt_27 (lv_at hl 2 rfl) ?_
      exact j_iret C hH ⟨_, rfl, rfl, h⟩ dX3_thirdsAt_28
    · have h := h.2 c_3
      refine j_iload_n C dX3_thirdsAt_12 (lv_at hl 2 rfl) ?_
      refine j_aload_n C dX3_thirdsAt_13 (lv_at hl 0 rfl) ?_
      refine j_iload_n C dX3_thirdsAt_14 (lv_at hl 1 rfl) ?_
      refine j_iload_n C dX3_thirdsAt_15 (lv_at hl 3 rfl) ?_
      refine xcallV_i (As := [.int (J x1), .int (J x3)]) (rest := [.int (J x2)]) (q0 := 1) C hH (fun sz => c_N_bitOf h) xl_X3_87 rfl rfl ⟨rfl, rfl⟩ ⟨Nat.le_of_ble_eq_true rfl, Nat.le_of_ble_eq_true rfl⟩ hl.1 rfl rfl (Nat.le_of_ble_eq_true rfl) dX3_thirdsAt_16 (fun r_ w_ H locs hw hH => ?_)
      obtain ⟨z_4, rfl, rfl, h⟩ := hw
      refine j_ior C dX3_thirdsAt_19 ?_
      refine j_istore_n (lv' := [(2, .int (J (jor x2 z_4))), (0, .ref (a 1)), (1, .int (J x1)), (3, .int (J x3))]) C dX3_thirdsAt_20 hl (by decide) rfl (fun ls hl => ?_)
      refine j_iinc (k := 3) (v := x3 + 1) (lv' := [(3, .int (J (x3 + 1))), (2, .int (J (jor x2 z_4))), (0, .ref (a 1)), (1, .int (J x1))]) C dX3_thirdsAt_21 hl rfl rfl (by decide) rfl (fun ls hl => ?_)
      refine j_goto C 4 dX3_thirdsAt_24 (by decide) ?_
      exact hK4 (jor x2 z_4) (x3 + 1) h _ _ _ hH (lv_sub hl [2, 3, 1, 0] rfl)
set_option maxRecDepth 4000 in
theorem c_N_thirdsAt {l : Launch} {D : va_G} {cA : ClassId} {a : Nat → Nat} {sz : Nat} {xStraight xLeast nPosts nThirds : Int} {nCorners nSums nArrows : Nat → Int} {aBehind aAhead : Int} {aCells aBefore aAfter : Nat → Int} {gCorners gLowest gFirst gFresh gThere : Int} {gRow gPlaces gOver gVia gQueue : Nat → Int} {bTold bStraight bLeast : Int} {bPostsOf bSets bTotals : Nat → Int} {x1 : Int} {Q : Int → Prop} (h : wp_N_thirdsAt x1 nPosts nArrows Q) : Met l yX3_thirdsAt (.code yX3_thirdsAt cX3_thirdsAt 4 (some .int) :: lw_ok) rm_N_thirdsAt (xPre D cA sz [.ref (a 1), .int (J x1)] (wX cA a xStraight xLeast nPosts nThirds nCorners nSums nArrows aBehind aAhead aCells aBefore aAfter gCorners gLowest gFirst gFresh gThere gRow gPlaces gOver gVia gQueue bTold bStraight bLeast bPostsOf bSets bTotals)) (va_Qi (po_N_thirdsAt cA a xStraight xLeast nPosts nThirds nCorners nSums nArrows aBehind aAhead aCells aBefore aAfter gCorners gLowest gFirst gFresh gThere gRow gPlaces gOver gVia gQueue bTold bStraight bLeast bPostsOf bSets bTotals Q) (xB D cA (va_A (wX cA a xStraight xLeast nPosts nThirds nCorners nSums nArrows aBehind aAhead aCells aBefore aAfter gCorners gLowest gFirst gFresh gThere gRow gPlaces gOver gVia gQueue bTold bStraight bLeast bPostsOf bSets bTotals) sz)) (va_A (wX cA a xStraight xLeast nPosts nThirds nCorners nSums nArrows aBehind aAhead aCells aBefore aAfter gCorners gLowest gFirst gFresh gThere gRow gPlaces gOver gVia gQueue bTold bStraight bLeast bPostsOf bSets bTotals) sz)) 0 0 (va_A (wX cA a xStraight xLeast nPosts nThirds nCorners nSums nArrows aBehind aAhead aCells aBefore aAfter gCorners gLowest gFirst gFresh gThere gRow gPlaces gOver gVia gQueue bTold bStraight bLeast bPostsOf bSets bTotals) sz) := by
  refine xmet_i (by decide) (Nat.le_of_ble_eq_true rfl) ?_
  intro p e s m args below meth c A ls C hH hl
  have C : XC p s m args meth c cX3_thirdsAt 4 RX3 (some .int) D cA A := C
  have hl : lv_has ls 4 [(0, .ref (a 1)), (1, .int (J x1))] := hl
  unfold wp_N_thirdsAt at h
  refine j_iconst C dX3_thirdsAt_0 ?_
  refine j_istore_n (lv' := [(2, .int (J 0)), (0, .ref (a 1)), (1, .int (J x1))]) C dX3_thirdsAt_1 hl (by decide) rfl (fun ls hl => ?_)
  refine j_iconst C dX3_thirdsAt_2 ?_
  refine j_istore_n (lv' := [(3, .int (J 0)), (2, .int (J 0)), (0, .ref (a 1)), (1, .int (J x1))]) C dX3_thirdsAt_3 hl (by decide) rfl (fun ls hl => ?_)
  obtain ⟨n_, h⟩ := h
  exact w_N_thirdsAt_4 C  n_ 0 0 h _ _ _ hH (lv_sub hl [2, 3, 1, 0] rfl)

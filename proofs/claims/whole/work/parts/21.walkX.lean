abbrev po_B_roomFor (cA : ClassId) (a : Nat → Nat) (xStraight xLeast nPosts nThirds : Int) (nCorners nSums nArrows : Nat → Int) (aBehind aAhead : Int) (aCells aBefore aAfter : Nat → Int) (gCorners gLowest gFirst gFresh gThere : Int) (gRow gPlaces gOver gVia gQueue : Nat → Int) (bTold bStraight bLeast : Int) (bPostsOf bSets bTotals : Nat → Int) (Q : Int → Prop) : Int32 → va_W → Prop := fun r w => ∃ z, r = J z ∧ w = wX cA a xStraight xLeast nPosts nThirds nCorners nSums nArrows aBehind aAhead aCells aBefore aAfter gCorners gLowest gFirst gFresh gThere gRow gPlaces gOver gVia gQueue bTold bStraight bLeast bPostsOf bSets bTotals ∧ Q z
set_option maxRecDepth 4000 in
theorem c_B_roomFor {l : Launch} {D : va_G} {cA : ClassId} {a : Nat → Nat} {sz : Nat} {xStraight xLeast nPosts nThirds : Int} {nCorners nSums nArrows : Nat → Int} {aBehind aAhead : Int} {aCells aBefore aAfter : Nat → Int} {gCorners gLowest gFirst gFresh gThere : Int} {gRow gPlaces gOver gVia gQueue : Nat → Int} {bTold bStraight bLeast : Int} {bPostsOf bSets bTotals : Nat → Int} {x1 : Int} {Q : Int → Prop} (h : wp_B_roomFor x1 bLeast bSets bTotals Q) : Met l yX1_roomFor (.code yX1_roomFor cX1_roomFor 3 (some .int) :: lw_ok) rm_B_roomFor (xPre D cA sz [.ref (a 15), .int (J x1)] (wX cA a xStraight xLeast nPosts nThirds nCorners nSums nArrows aBehind aAhead aCells aBefore aAfter gCorners gLowest gFirst gFresh gThere gRow gPlaces gOver gVia gQueue bTold bStraight bLeast bPostsOf bSets bTotals)) (va_Qi (po_B_roomFor cA a xStraight xLeast nPosts nThirds nCorners nSums nArrows aBehind aAhead aCells aBefore aAfter gCorners gLowest gFirst gFresh gThere gRow gPlaces gOver gVia gQueue bTold bStraight bLeast bPostsOf bSets bTotals Q) (xB D cA (va_A (wX cA a xStraight xLeast nPosts nThirds nCorners nSums nArrows aBehind aAhead aCells aBefore aAfter gCorners gLowest gFirst gFresh gThere gRow gPlaces gOver gVia gQueue bTold bStraight bLeast bPostsOf bSets bTotals) sz)) (va_A (wX cA a xStraight xLeast nPosts nThirds nCorners nSums nArrows aBehind aAhead aCells aBefore aAfter gCorners gLowest gFirst gFresh gThere gRow gPlaces gOver gVia gQueue bTold bStraight bLeast bPostsOf bSets bTotals) sz)) 0 0 (va_A (wX cA a xStraight xLeast nPosts nThirds nCorners nSums nArrows aBehind aAhead aCells aBefore aAfter gCorners gLowest gFirst gFresh gThere gRow gPlaces gOver gVia gQueue bTold bStraight bLeast bPostsOf bSets bTotals) sz) := by
  refine xmet_i (by decide) (Nat.le_of_ble_eq_true rfl) ?_
  intro p e s m args below meth c A ls C hH hl
  have C : XC p s m args meth c cX1_roomFor 3 RX1 (some .int) D cA A := C
  have hl : lv_has ls 3 [(0, .ref (a 15)), (1, .int (J x1))] := hl
  unfold wp_B_roomFor at h
  refine j_aload_n C dX1_roomFor_0 (lv_at hl 0 rfl) ?_
  refine xg_X1_postsOfSets C hH dX1_roomFor_1 ?_
  refine j_iload_n C dX1_roomFor_4 (lv_at hl 1 rfl) ?_
  refine j_bipush C (by decide +kernel) dX1_roomFor_5 ?_
  refine j_irem C (by decide +kernel) dX1_roomFor_7 ?_
  obtain ⟨b_1, h⟩ := h
  refine xa_bSets C hH b_1 dX1_roomFor_8 ?_
  refine j_aload_n C dX1_roomFor_9 (lv_at hl 0 rfl) ?_
  refine xg_X1_postsOfSets C hH dX1_roomFor_10 ?_
  refine j_bipush C (by decide +kernel) dX1_roomFor_13 ?_
  refine j_iload_n C dX1_roomFor_15 (lv_at hl 1 rfl) ?_
  refine j_bipush C (by decide +kernel) dX1_roomFor_16 ?_
  refine j_idiv C (by decide +kernel) dX1_roomFor_18 ?_
  refine j_iadd C dX1_roomFor_19 ?_
  obtain ⟨b_2, h⟩ := h
  refine xa_bSets C hH b_2 dX1_roomFor_20 ?_
  refine j_ior C dX1_roomFor_21 ?_
  refine j_top (fun x2_3 e_x2_3 => ?_)
  have h := h x2_3 e_x2_3
  refine j_istore_n (lv' := [(2, .int (J x2_3)), (0, .ref (a 15)), (1, .int (J x1))]) C dX1_roomFor_22 hl (by decide) rfl (fun ls hl => ?_)
  refine j_aload_n C dX1_roomFor_23 (lv_at hl 1 rfl) ?_
  refine xg_X1_totals C hH dX1_roomFor_24 ?_
  refine j_iload_n C dX1_roomFor_27 (lv_at hl 0 rfl) ?_
  obtain ⟨b_4, h⟩ := h
  refine xa_bTotals C hH b_4 dX1_roomFor_28 ?_
  refine j_iconst C dX1_roomFor_29 ?_
  refine j_aload_n C dX1_roomFor_30 (lv_at hl 1 rfl) ?_
  refine xg_X1_least C hH dX1_roomFor_31 ?_
  refine j_imul C dX1_roomFor_34 ?_
  refine j_iload_n C dX1_roomFor_35 (lv_at hl 2 rfl) ?_
  refine xcallS_i (As := [.int (J x1)]) (rest := [.int (J (3 * bLeast)), .int (J (bTotals x2_3.toNat))]) C hH (fun sz => c_I_bitCount h) xl_X1_46 ⟨rfl, rfl⟩ ⟨Nat.le_of_ble_eq_true rfl, Nat.le_of_ble_eq_true rfl⟩ hl.1 rfl rfl (Nat.le_of_ble_eq_true rfl) dX1_roomFor_36 (fun r_ w_ H locs hw hH => ?_)
  obtain ⟨z_5, rfl, rfl, h⟩ := hw
  refine j_imul C dX1_roomFor_39 ?_
  refine j_iadd C dX1_roomFor_40 ?_
  exact j_iret C hH ⟨_, rfl, rfl, h⟩ dX1_roomFor_41
abbrev po_B_isBar (cA : ClassId) (a : Nat → Nat) (xStraight xLeast nPosts nThirds : Int) (nCorners nSums nArrows : Nat → Int) (aBehind aAhead : Int) (aCells aBefore aAfter : Nat → Int) (gCorners gLowest gFirst gFresh gThere : Int) (gRow gPlaces gOver gVia gQueue : Nat → Int) (bTold bStraight bLeast : Int) (bPostsOf bSets bTotals : Nat → Int) (Q : Int → Prop) : Int32 → va_W → Prop := fun r w => ∃ z, r = J z ∧ w = wX cA a xStraight xLeast nPosts nThirds nCorners nSums nArrows aBehind aAhead aCells aBefore aAfter gCorners gLowest gFirst gFresh gThere gRow gPlaces gOver gVia gQueue bTold bStraight bLeast bPostsOf bSets bTotals ∧ Q z
set_option maxRecDepth 4000 in
theorem c_B_isBar {l : Launch} {D : va_G} {cA : ClassId} {a : Nat → Nat} {sz : Nat} {xStraight xLeast nPosts nThirds : Int} {nCorners nSums nArrows : Nat → Int} {aBehind aAhead : Int} {aCells aBefore aAfter : Nat → Int} {gCorners gLowest gFirst gFresh gThere : Int} {gRow gPlaces gOver gVia gQueue : Nat → Int} {bTold bStraight bLeast : Int} {bPostsOf bSets bTotals : Nat → Int} {x1 x2 : Int} {Q : Int → Prop} (h : wp_B_isBar x1 x2 nThirds bStraight bLeast bPostsOf bSets bTotals Q) : Met l yX1_isBar (.code yX1_isBar cX1_isBar 3 (some .boolean) :: lw_ok) rm_B_isBar (xPre D cA sz [.ref (a 15), .int (J x1), .int (J x2)] (wX cA a xStraight xLeast nPosts nThirds nCorners nSums nArrows aBehind aAhead aCells aBefore aAfter gCorners gLowest gFirst gFresh gThere gRow gPlaces gOver gVia gQueue bTold bStraight bLeast bPostsOf bSets bTotals)) (va_Qi (po_B_isBar cA a xStraight xLeast nPosts nThirds nCorners nSums nArrows aBehind aAhead aCells aBefore aAfter gCorners gLowest gFirst gFresh gThere gRow gPlaces gOver gVia gQueue bTold bStraight bLeast bPostsOf bSets bTotals Q) (xB D cA (va_A (wX cA a xStraight xLeast nPosts nThirds nCorners nSums nArrows aBehind aAhead aCells aBefore aAfter gCorners gLowest gFirst gFresh gThere gRow gPlaces gOver gVia gQueue bTold bStraight bLeast bPostsOf bSets bTotals) sz)) (va_A (wX cA a xStraight xLeast nPosts nThirds nCorners nSums nArrows aBehind aAhead aCells aBefore aAfter gCorners gLowest gFirst gFresh gThere gRow gPlaces gOver gVia gQueue bTold bStraight bLeast bPostsOf bSets bTotals) sz)) 0 0 (va_A (wX cA a xStraight xLeast nPosts nThirds nCorners nSums nArrows aBehind aAhead aCells aBefore aAfter gCorners gLowest gFirst gFresh gThere gRow gPlaces gOver gVia gQueue bTold bStraight bLeast bPostsOf bSets bTotals) sz) := by
  refine xmet_i (by decide) (Nat.le_of_ble_eq_true rfl) ?_
  intro p e s m args below meth c A ls C hH hl
  have C : XC p s m args meth c cX1_isBar 3 RX1 (some .boolean) D cA A := C
  have hl : lv_has ls 3 [(0, .ref (a 15)), (1, .int (J x1)), (2, .int (J x2))] := hl
  unfold wp_B_isBar at h
  refine j_iload_n C dX1_isBar_0 (lv_at hl 1 rfl) ?_
  obtain ⟨g_1, h⟩ := h
  by_cases c_20 : x1 = 0
  · have h := h.1 c_20
    refine j_lookup (off := 27) C 28 g_1 dX1_isBar_1 rfl (by rw [c_20]; first | done | rfl) (by decide) ?_
    refine j_aload_n C dX1_isBar_28 (lv_at hl 0 rfl) ?_
    refine xg_X1_straight C hH dX1_isBar_29 ?_
    refine j_iload_n C dX1_isBar_32 (lv_at hl 2 rfl) ?_
    refine xcallS_i (As := [.int (J x2)]) (rest := [.int (J bStraight)]) C hH (fun sz => c_I_bitCount h) xl_X1_46 ⟨rfl, rfl⟩ ⟨Nat.le_of_ble_eq_true rfl, Nat.le_of_ble_eq_true rfl⟩ hl.1 rfl rfl (Nat.le_of_ble_eq_true rfl) dX1_isBar_33 (fun r_ w_ H locs hw hH => ?_)
    obtain ⟨z_3, rfl, rfl, h⟩ := hw
    refine j_imul C dX1_isBar_36 ?_
    refine j_aload_n C dX1_isBar_37 (lv_at hl 0 rfl) ?_
    refine j_iload_n C dX1_isBar_38 (lv_at hl 2 rfl) ?_
    refine xcallV_i (As := [.int (J x2)]) (rest := [.int (J (bStraight * z_3))]) (q0 := 15) C hH (fun sz => c_B_roomFor h) xl_X1_77 rfl rfl ⟨rfl, rfl⟩ ⟨Nat.le_of_ble_eq_true rfl, Nat.le_of_ble_eq_true rfl⟩ hl.1 rfl rfl (Nat.le_of_ble_eq_true rfl) dX1_isBar_39 (fun r_ w_ H locs hw hH => ?_)
    obtain ⟨z_4, rfl, rfl, h⟩ := hw
    obtain ⟨g_5, h⟩ := h
    obtain ⟨g_6, h⟩ := h
    refine j_icmp_le C 49 g_5 g_6 dX1_isBar_42 (by decide) (fun c_7 => ?_) (fun c_7 => ?_)
    · have h := h.1 c_7
      refine j_iconst C dX1_isBar_49 ?_
      exact j_zret C hH (Or.inl rfl) ⟨_, rfl, rfl, h⟩ dX1_isBar_50
    · have h := h.2 c_7
      refine j_iconst C dX1_isBar_45 ?_
      refine j_goto C 50 dX1_isBar_46 (by decide) ?_
      exact j_zret C hH (Or.inr rfl) ⟨_, rfl, rfl, h⟩ dX1_isBar_50
  have h := h.2
  by_cases c_21 : x1 = 1
  · have h := h.1 c_21
    refine j_lookup (off := 50) C 51 g_1 dX1_isBar_1 rfl (by rw [c_21]; first | done | rfl) (by decide) ?_
    refine j_aload_n C dX1_isBar_51 (lv_at hl 0 rfl) ?_
    refine xg_X1_totals C hH dX1_isBar_52 ?_
    refine j_iload_n C dX1_isBar_55 (lv_at hl 2 rfl) ?_
    obtain ⟨b_8, h⟩ := h
    refine xa_bTotals C hH b_8 dX1_isBar_56 ?_
    refine j_aload_n C dX1_isBar_57 (lv_at hl 0 rfl) ?_
    refine j_iload_n C dX1_isBar_58 (lv_at hl 2 rfl) ?_
    refine xcallV_i (As := [.int (J x2)]) (rest := [.int (J (bTotals x2.toNat))]) (q0 := 15) C hH (fun sz => c_B_mostOf h) xl_X1_80 rfl rfl ⟨rfl, rfl⟩ ⟨Nat.le_of_ble_eq_true rfl, Nat.le_of_ble_eq_true rfl⟩ hl.1 rfl rfl (Nat.le_of_ble_eq_true rfl) dX1_isBar_59 (fun r_ w_ H locs hw hH => ?_)
    obtain ⟨z_9, rfl, rfl, h⟩ := hw
    obtain ⟨g_10, h⟩ := h
    obtain ⟨g_11, h⟩ := h
    refine j_icmp_le C 69 g_10 g_11 dX1_isBar_62 (by decide) (fun c_12 => ?_) (fun c_12 => ?_)
    · have h := h.1 c_12
      refine j_iconst C dX1_isBar_69 ?_
      exact j_zret C hH (Or.inl rfl) ⟨_, rfl, rfl, h⟩ dX1_isBar_70
    · have h := h.2 c_12
      refine j_iconst C dX1_isBar_65 ?_
      refine j_goto C 70 dX1_isBar_66 (by decide) ?_
      exact j_zret C hH (Or.inr rfl) ⟨_, rfl, rfl, h⟩ dX1_isBar_70
  have h := h.2
  have h := h ⟨c_20, c_21⟩
  refine j_lookup (off := 70) C 71 g_1 dX1_isBar_1 rfl (by rw [Op.lookupswitch.offset_cons, if_neg (fun q => c_20 q.symm), Op.lookupswitch.offset_cons, if_neg (fun q => c_21 q.symm)]; first | done | rfl) (by decide) ?_
  refine j_aload_n C dX1_isBar_71 (lv_at hl 0 rfl) ?_
  refine xg_X1_totals C hH dX1_isBar_72 ?_
  refine j_iload_n C dX1_isBar_75 (lv_at hl 2 rfl) ?_
  obtain ⟨b_13, h⟩ := h
  refine xa_bTotals C hH b_13 dX1_isBar_76 ?_
  refine j_aload_n C dX1_isBar_77 (lv_at hl 0 rfl) ?_
  refine j_iload_n C dX1_isBar_78 (lv_at hl 2 rfl) ?_
  refine xcallV_i (As := [.int (J x2)]) (rest := [.int (J (bTotals x2.toNat))]) (q0 := 15) C hH (fun sz => c_B_leastOf h) xl_X1_83 rfl rfl ⟨rfl, rfl⟩ ⟨Nat.le_of_ble_eq_true rfl, Nat.le_of_ble_eq_true rfl⟩ hl.1 rfl rfl (Nat.le_of_ble_eq_true rfl) dX1_isBar_79 (fun r_ w_ H locs hw hH => ?_)
  obtain ⟨z_14, rfl, rfl, h⟩ := hw
  obtain ⟨g_15, h⟩ := h
  obtain ⟨g_16, h⟩ := h
  refine j_icmp_ge C 89 g_15 g_16 dX1_isBar_82 (by decide) (fun c_17 => ?_) (fun c_17 => ?_)
  · have h := h.1 c_17
    refine j_iconst C dX1_isBar_89 ?_
    exact j_zret C hH (Or.inl rfl) ⟨_, rfl, rfl, h⟩ dX1_isBar_90
  · have h := h.2 c_17
    refine j_iconst C dX1_isBar_85 ?_
    refine j_goto C 90 dX1_isBar_86 (by decide) ?_
    exact j_zret C hH (Or.inr rfl) ⟨_, rfl, rfl, h⟩ dX1_isBar_90
abbrev po_N_cornerCount (cA : ClassId) (a : Nat → Nat) (xStraight xLeast nPosts nThirds : Int) (nCorners nSums nArrows : Nat → Int) (aBehind aAhead : Int) (aCells aBefore aAfter : Nat → Int) (gCorners gLowest gFirst gFresh gThere : Int) (gRow gPlaces gOver gVia gQueue : Nat → Int) (bTold bStraight bLeast : Int) (bPostsOf bSets bTotals : Nat → Int) (Q : Int → Prop) : Int32 → va_W → Prop := fun r w => ∃ z, r = J z ∧ w = wX cA a xStraight xLeast nPosts nThirds nCorners nSums nArrows aBehind aAhead aCells aBefore aAfter gCorners gLowest gFirst gFresh gThere gRow gPlaces gOver gVia gQueue bTold bStraight bLeast bPostsOf bSets bTotals ∧ Q z
set_option maxRecDepth 4000 in
theorem c_N_cornerCount {l : Launch} {D : va_G} {cA : ClassId} {a : Nat → Nat} {sz : Nat} {xStraight xLeast nPosts nThirds : Int} {nCorners nSums nArrows : Nat → Int} {aBehind aAhead : Int} {aCells aBefore aAfter : Nat → Int} {gCorners gLowest gFirst gFresh gThere : Int} {gRow gPlaces gOver gVia gQueue : Nat → Int} {bTold bStraight bLeast : Int} {bPostsOf bSets bTotals : Nat → Int} {Q : Int → Prop} (h : wp_N_cornerCount  nThirds Q) : Met l yX3_cornerCount (.code yX3_cornerCount cX3_cornerCount 1 (some .int) :: lw_ok) rm_N_cornerCount (xPre D cA sz [.ref (a 1)] (wX cA a xStraight xLeast nPosts nThirds nCorners nSums nArrows aBehind aAhead aCells aBefore aAfter gCorners gLowest gFirst gFresh gThere gRow gPlaces gOver gVia gQueue bTold bStraight bLeast bPostsOf bSets bTotals)) (va_Qi (po_N_cornerCount cA a xStraight xLeast nPosts nThirds nCorners nSums nArrows aBehind aAhead aCells aBefore aAfter gCorners gLowest gFirst gFresh gThere gRow gPlaces gOver gVia gQueue bTold bStraight bLeast bPostsOf bSets bTotals Q) (xB D cA (va_A (wX cA a xStraight xLeast nPosts nThirds nCorners nSums nArrows aBehind aAhead aCells aBefore aAfter gCorners gLowest gFirst gFresh gThere gRow gPlaces gOver gVia gQueue bTold bStraight bLeast bPostsOf bSets bTotals) sz)) (va_A (wX cA a xStraight xLeast nPosts nThirds nCorners nSums nArrows aBehind aAhead aCells aBefore aAfter gCorners gLowest gFirst gFresh gThere gRow gPlaces gOver gVia gQueue bTold bStraight bLeast bPostsOf bSets bTotals) sz)) 0 0 (va_A (wX cA a xStraight xLeast nPosts nThirds nCorners nSums nArrows aBehind aAhead aCells aBefore aAfter gCorners gLowest gFirst gFresh gThere gRow gPlaces gOver gVia gQueue bTold bStraight bLeast bPostsOf bSets bTotals) sz) := by
  refine xmet_i (by decide) (Nat.le_of_ble_eq_true rfl) ?_
  intro p e s m args below meth c A ls C hH hl
  have C : XC p s m args meth c cX3_cornerCount 1 RX3 (some .int) D cA A := C
  have hl : lv_has ls 1 [(0, .ref (a 1))] := hl
  unfold wp_N_cornerCount at h
  refine j_iconst C dX3_cornerCount_0 ?_
  refine j_aload_n C dX3_cornerCount_1 (lv_at hl 0 rfl) ?_
  refine xg_X3_thirds C hH dX3_cornerCount_2 ?_
  refine j_imul C dX3_cornerCount_5 ?_
  exact j_iret C hH ⟨_, rfl, rfl, h⟩ dX3_cornerCount_6
abbrev po_N_cornersAt (cA : ClassId) (a : Nat → Nat) (xStraight xLeast nPosts nThirds : Int) (nCorners nSums nArrows : Nat → Int) (aBehind aAhead : Int) (aCells aBefore aAfter : Nat → Int) (gCorners gLowest gFirst gFresh gThere : Int) (gRow gPlaces gOver gVia gQueue : Nat → Int) (bTold bStraight bLeast : Int) (bPostsOf bSets bTotals : Nat → Int) (Q : Int → Prop) : Int32 → va_W → Prop := fun r w => ∃ z, r = J z ∧ w = wX cA a xStraight xLeast nPosts nThirds nCorners nSums nArrows aBehind aAhead aCells aBefore aAfter gCorners gLowest gFirst gFresh gThere gRow gPlaces gOver gVia gQueue bTold bStraight bLeast bPostsOf bSets bTotals ∧ Q z
set_option maxRecDepth 4000 in
theorem w_N_cornersAt_4 {p : Program} {l : Launch} {e : Env} {s : State} {m : MethodId} {args : Array Value} {below : List Frame} {meth : Method} {c : Code} {D : va_G} {cA : ClassId} {A : Nat → Prop} {a : Nat → Nat} {xStraight xLeast nPosts nThirds : Int} {nCorners nSums nArrows : Nat → Int} {aBehind aAhead : Int} {aCells aBefore aAfter : Nat → Int} {gCorners gLowest gFirst gFresh gThere : Int} {gRow gPlaces gOver gVia gQueue : Nat → Int} {bTold bStraight bLeast : Int} {bPostsOf bSets bTotals : Nat → Int} (C : XC p s m args meth c cX3_cornersAt 4 RX3 (some .int) D cA A) {Q : Int → Prop} {x1 : Int}  : ∀ (n : Nat) (x2 : Int) (x3 : Int), wp_N_cornersAt_4 Q nThirds nCorners x1 n x2 x3 → ∀ (H : Heap) (locs : List Loc) (ls : Array Slot), XH D A s (wX cA a xStraight xLeast nPosts nThirds nCorners nSums nArrows aBehind aAhead aCells aBefore aAfter gCorners gLowest gFirst gFresh gThere gRow gPlaces gOver gVia gQueue bTold bStraight bLeast bPostsOf bSets bTotals) H locs → lv_has ls 4 [(0, .ref (a 1)), (1, .int (J x1)), (2, .int (J x2)), (3, .int (J x3))] → W p l e rm_N_cornersAt s m args below meth c H locs 0 0 (MQ below (va_Qi (po_N_cornersAt cA a xStraight xLeast nPosts nThirds nCorners nSums nArrows aBehind aAhead aCells aBefore aAfter gCorners gLowest gFirst gFresh gThere gRow gPlaces gOver gVia gQueue bTold bStraight bLeast bPostsOf bSets bTotals Q) (xB D cA A) A) args s 0 0 A) (F0 m 4 ls []) := by
  intro n
  induction n with
  | zero => intro x2 x3 h; exact (show False from h).elim
  | succ n hK4 =>
    intro x2 x3 h H locs ls hH hl
    have h : wp_N_cornersAt_4_b  (wp_N_cornersAt_4 Q nThirds nCorners x1 n) Q nThirds nCorners x1 x2 x3 := h
    unfold wp_N_cornersAt_4_b at h
    refine j_iload_n C dX3_cornersAt_4 (lv_at hl 3 rfl) ?_
    refine j_aload_n C dX3_cornersAt_5 (lv_at hl 0 rfl) ?_
    refine xcallV_i (As := []) (rest := [.int (J x3)]) (q0 := 1) C hH (fun sz => c_N_cornerCount h) xl_X3_47 rfl rfl ⟨rfl, rfl⟩ ⟨Nat.le_of_ble_eq_true rfl, Nat.le_of_ble_eq_true rfl⟩ hl.1 rfl rfl (Nat.le_of_ble_eq_true rfl) dX3_cornersAt_6 (fun r_ w_ H locs hw hH => ?_)
    obtain ⟨z_1, rfl, rfl, h⟩ := hw
    obtain ⟨g_2, h⟩ := h
    obtain ⟨g_3, h⟩ := h
    refine j_icmp_ge C 31 g_2 g_3 dX3_cornersAt_9 (by decide) (fun c_4 => ?_) (fun c_4 => ?_)
    · have h := h.1 c_4
      refine j_iload_n C dX3_cornersAt_31 (lv_at hl 2 rfl) ?_
      exact j_iret C hH ⟨_, rfl, rfl, h⟩ dX3_cornersAt_32
    · have h := h.2 c_4
      refine j_aload_n C dX3_cornersAt_12 (lv_at hl 0 rfl) ?_
      refine xg_X3_corners C hH dX3_cornersAt_13 ?_
      refine j_iload_n C dX3_cornersAt_16 (lv_at hl 3 rfl) ?_
      obtain ⟨b_5, h⟩ := h
      refine xa_nCorners C hH b_5 dX3_cornersAt_17 ?_
      refine j_iload_n C dX3_cornersAt_18 (lv_at hl 1 rfl) ?_
      obtain ⟨g_6, h⟩ := h
      obtain ⟨g_7, h⟩ := h
      refine j_icmp_ne C 25 g_6 g_7 dX3_cornersAt_19 (by decide) (fun c_8 => ?_) (fun c_8 => ?_)
      · have h := h.2 c_8
        refine j_iinc (k := 3) (v := x3 + 1) (lv' := [(3, .int (J (x3 + 1))), (0, .ref (a 1)), (1, .int (J x1)), (2, .int (J x2))]) C dX3_cornersAt_25 hl rfl rfl (by decide) rfl (fun ls hl => ?_)
        refine j_goto C 4 dX3_cornersAt_28 (by decide) ?_
        exact hK4 x2 (x3 + 1) h _ _ _ hH (lv_sub hl [1, 2, 3, 0] rfl)
      · have h := h.1 c_8
        refine j_iinc (k := 2) (v := x2 + 1) (lv' := [(2, .int (J (x2 + 1))), (0, .ref (a 1)), (1, .int (J x1)), (3, .int (J x3))]) C dX3_cornersAt_22 hl rfl rfl (by decide) rfl (fun ls hl => ?_)
        refine j_iinc (k := 3) (v := x3 + 1) (lv' := [(3, .int (J (x3 + 1))), (2, .int (J (x2 + 1))), (0, .ref (a 1)), (1, .int (J x1))]) C dX3_cornersAt_25 hl rfl rfl (by decide) rfl (fun ls hl => ?_)
        refine j_goto C 4 dX3_cornersAt_28 (by decide) ?_
        exact hK4 (x2 + 1) (x3 + 1) h _ _ _ hH (lv_sub hl [2, 3, 1, 0] rfl)
set_option maxRecDepth 4000 in
theorem c_N_cornersAt {l : Launch} {D : va_G} {cA : ClassId} {a : Nat → Nat} {sz : Nat} {xStraight xLeast nPosts nThirds : Int} {nCorners nSums nArrows : Nat → Int} {aBehind aAhead : Int} {aCells aBefore aAfter : Nat → Int} {gCorners gLowest gFirst gFresh gThere : Int} {gRow gPlaces gOver gVia gQueue : Nat → Int} {bTold bStraight bLeast : Int} {bPostsOf bSets bTotals : Nat → Int} {x1 : Int} {Q : Int → Prop} (h : wp_N_cornersAt x1 nThirds nCorners Q) : Met l yX3_cornersAt (.code yX3_cornersAt cX3_cornersAt 4 (some .int) :: lw_ok) rm_N_cornersAt (xPre D cA sz [.ref (a 1), .int (J x1)] (wX cA a xStraight xLeast nPosts nThirds nCorners nSums nArrows aBehind aAhead aCells aBefore aAfter gCorners gLowest gFirst gFresh gThere gRow gPlaces gOver gVia gQueue bTold bStraight bLeast bPostsOf bSets bTotals)) (va_Qi (po_N_cornersAt cA a xStraight xLeast nPosts nThirds nCorners nSums nArrows aBehind aAhead aCells aBefore aAfter gCorners gLowest gFirst gFresh gThere gRow gPlaces gOver gVia gQueue bTold bStraight bLeast bPostsOf bSets bTotals Q) (xB D cA (va_A (wX cA a xStraight xLeast nPosts nThirds nCorners nSums nArrows aBehind aAhead aCells aBefore aAfter gCorners gLowest gFirst gFresh gThere gRow gPlaces gOver gVia gQueue bTold bStraight bLeast bPostsOf bSets bTotals) sz)) (va_A (wX cA a xStraight xLeast nPosts nThirds nCorners nSums nArrows aBehind aAhead aCells aBefore aAfter gCorners gLowest gFirst gFresh gThere gRow gPlaces gOver gVia gQueue bTold bStraight bLeast bPostsOf bSets bTotals) sz)) 0 0 (va_A (wX cA a xStraight xLeast nPosts nThirds nCorners nSums nArrows aBehind aAhead aCells aBefore aAfter gCorners gLowest gFirst gFresh gThere gRow gPlaces gOver gVia gQueue bTold bStraight bLeast bPostsOf bSets bTotals) sz) := by
  refine xmet_i (by decide) (Nat.le_of_ble_eq_true rfl) ?_
  intro p e s m args below meth c A ls C hH hl
  have C : XC p s m args meth c cX3_cornersAt 4 RX3 (some .int) D cA A := C
  have hl : lv_has ls 4 [(0, .ref (a 1)), (1, .int (J x1))] := hl
  unfold wp_N_cornersAt at h
  refine j_iconst C dX3_cornersAt_0 ?_
  refine j_istore_n (lv' := [(2, .int (J 0)), (0, .ref (a 1)), (1, .int (J x1))]) C dX3_cornersAt_1 hl (by decide) rfl (fun ls hl => ?_)
  refine j_iconst C dX3_cornersAt_2 ?_
  refine j_istore_n (lv' := [(3, .int (J 0)), (2, .int (J 0)), (0, .ref (a 1)), (1, .int (J x1))]) C dX3_cornersAt_3 hl (by decide) rfl (fun ls hl => ?_)
  obtain ⟨n_, h⟩ := h
  exact w_N_cornersAt_4 C  n_ 0 0 h _ _ _ hH (lv_sub hl [2, 3, 1, 0] rfl)
abbrev po_N_isTold (cA : ClassId) (a : Nat → Nat) (xStraight xLeast nPosts nThirds : Int) (nCorners nSums nArrows : Nat → Int) (aBehind aAhead : Int) (aCells aBefore aAfter : Nat → Int) (gCorners gLowest gFirst gFresh gThere : Int) (gRow gPlaces gOver gVia gQueue : Nat → Int) (bTold bStraight bLeast : Int) (bPostsOf bSets bTotals : Nat → Int) (Q : Int → Prop) : Int32 → va_W → Prop := fun r w => ∃ z, r = J z ∧ w = wX cA a xStraight xLeast nPosts nThirds nCorners nSums nArrows aBehind aAhead aCells aBefore aAfter gCorners gLowest gFirst gFresh gThere gRow gPlaces gOver gVia gQueue bTold bStraight bLeast bPostsOf bSets bTotals ∧ Q z
set_option maxRecDepth 4000 in
theorem c_N_isTold {l : Launch} {D : va_G} {cA : ClassId} {a : Nat → Nat} {sz : Nat} {xStraight xLeast nPosts nThirds : Int} {nCorners nSums nArrows : Nat → Int} {aBehind aAhead : Int} {aCells aBefore aAfter : Nat → Int} {gCorners gLowest gFirst gFresh gThere : Int} {gRow gPlaces gOver gVia gQueue : Nat → Int} {bTold bStraight bLeast : Int} {bPostsOf bSets bTotals : Nat → Int} {x1 : Int} {Q : Int → Prop} (h : wp_N_isTold x1 nSums Q) : Met l yX3_isTold (.code yX3_isTold cX3_isTold 2 (some .boolean) :: lw_ok) rm_N_isTold (xPre D cA sz [.ref (a 1), .int (J x1)] (wX cA a xStraight xLeast nPosts nThirds nCorners nSums nArrows aBehind aAhead aCells aBefore aAfter gCorners gLowest gFirst gFresh gThere gRow gPlaces gOver gVia gQueue bTold bStraight bLeast bPostsOf bSets bTotals)) (va_Qi (po_N_isTold cA a xStraight xLeast nPosts nThirds nCorners nSums nArrows aBehind aAhead aCells aBefore aAfter gCorners gLowest gFirst gFresh gThere gRow gPlaces gOver gVia gQueue bTold bStraight bLeast bPostsOf bSets bTotals Q) (xB D cA (va_A (wX cA a xStraight xLeast nPosts nThirds nCorners nSums nArrows aBehind aAhead aCells aBefore aAfter gCorners gLowest gFirst gFresh gThere gRow gPlaces gOver gVia gQueue bTold bStraight bLeast bPostsOf bSets bTotals) sz)) (va_A (wX cA a xStraight xLeast nPosts nThirds nCorners nSums nArrows aBehind aAhead aCells aBefore aAfter gCorners gLowest gFirst gFresh gThere gRow gPlaces gOver gVia gQueue bTold bStraight bLeast bPostsOf bSets bTotals) sz)) 0 0 (va_A (wX cA a xStraight xLeast nPosts nThirds nCorners nSums nArrows aBehind aAhead aCells aBefore aAfter gCorners gLowest gFirst gFresh gThere gRow gPlaces gOver gVia gQueue bTold bStraight bLeast bPostsOf bSets bTotals) sz) := by
  refine xmet_i (by decide) (Nat.le_of_ble_eq_true rfl) ?_
  intro p e s m args below meth c A ls C hH hl
  have C : XC p s m args meth c cX3_isTold 2 RX3 (some .boolean) D cA A := C
  have hl : lv_has ls 2 [(0, .ref (a 1)), (1, .int (J x1))] := hl
  unfold wp_N_isTold at h
  refine j_aload_n C dX3_isTold_0 (lv_at hl 0 rfl) ?_
  refine xg_X3_sums C hH dX3_isTold_1 ?_
  refine j_iload_n C dX3_isTold_4 (lv_at hl 1 rfl) ?_
  obtain ⟨b_1, h⟩ := h
  refine xa_nSums C hH b_1 dX3_isTold_5 ?_
  refine j_iconst C dX3_isTold_6 ?_
  obtain ⟨g_2, h⟩ := h
  refine j_icmp_eq C 14 g_2 (by unfold jR; decide) dX3_isTold_7 (by decide) (fun c_3 => ?_) (fun c_3 => ?_)
  · have h := h.1 c_3
    refine j_iconst C dX3_isTold_14 ?_
    exact j_zret C hH (Or.inl rfl) ⟨_, rfl, rfl, h⟩ dX3_isTold_15
  · have h := h.2 c_3
    refine j_iconst C dX3_isTold_10 ?_
    refine j_goto C 15 dX3_isTold_11 (by decide) ?_
    exact j_zret C hH (Or.inr rfl) ⟨_, rfl, rfl, h⟩ dX3_isTold_15
abbrev po_N_postCount (cA : ClassId) (a : Nat → Nat) (xStraight xLeast nPosts nThirds : Int) (nCorners nSums nArrows : Nat → Int) (aBehind aAhead : Int) (aCells aBefore aAfter : Nat → Int) (gCorners gLowest gFirst gFresh gThere : Int) (gRow gPlaces gOver gVia gQueue : Nat → Int) (bTold bStraight bLeast : Int) (bPostsOf bSets bTotals : Nat → Int) (Q : Int → Prop) : Int32 → va_W → Prop := fun r w => ∃ z, r = J z ∧ w = wX cA a xStraight xLeast nPosts nThirds nCorners nSums nArrows aBehind aAhead aCells aBefore aAfter gCorners gLowest gFirst gFresh gThere gRow gPlaces gOver gVia gQueue bTold bStraight bLeast bPostsOf bSets bTotals ∧ Q z
set_option maxRecDepth 4000 in
theorem c_N_postCount {l : Launch} {D : va_G} {cA : ClassId} {a : Nat → Nat} {sz : Nat} {xStraight xLeast nPosts nThirds : Int} {nCorners nSums nArrows : Nat → Int} {aBehind aAhead : Int} {aCells aBefore aAfter : Nat → Int} {gCorners gLowest gFirst gFresh gThere : Int} {gRow gPlaces gOver gVia gQueue : Nat → Int} {bTold bStraight bLeast : Int} {bPostsOf bSets bTotals : Nat → Int} {Q : Int → Prop} (h : wp_N_postCount  nPosts Q) : Met l yX3_postCount (.code yX3_postCount cX3_postCount 1 (some .int) :: lw_ok) rm_N_postCount (xPre D cA sz [.ref (a 1)] (wX cA a xStraight xLeast nPosts nThirds nCorners nSums nArrows aBehind aAhead aCells aBefore aAfter gCorners gLowest gFirst gFresh gThere gRow gPlaces gOver gVia gQueue bTold bStraight bLeast bPostsOf bSets bTotals)) (va_Qi (po_N_postCount cA a xStraight xLeast nPosts nThirds nCorners nSums nArrows aBehind aAhead aCells aBefore aAfter gCorners gLowest gFirst gFresh gThere gRow gPlaces gOver gVia gQueue bTold bStraight bLeast bPostsOf bSets bTotals Q) (xB D cA (va_A (wX cA a xStraight xLeast nPosts nThirds nCorners nSums nArrows aBehind aAhead aCells aBefore aAfter gCorners gLowest gFirst gFresh gThere gRow gPlaces gOver gVia gQueue bTold bStraight bLeast bPostsOf bSets bTotals) sz)) (va_A (wX cA a xStraight xLeast nPosts nThirds nCorners nSums nArrows aBehind aAhead aCells aBefore aAfter gCorners gLowest gFirst gFresh gThere gRow gPlaces gOver gVia gQueue bTold bStraight bLeast bPostsOf bSets bTotals) sz)) 0 0 (va_A (wX cA a xStraight xLeast nPosts nThirds nCorners nSums nArrows aBehind aAhead aCells aBefore aAfter gCorners gLowest gFirst gFresh gThere gRow gPlaces gOver gVia gQueue bTold bStraight bLeast bPostsOf bSets bTotals) sz) := by
  refine xmet_i (by decide) (Nat.le_of_ble_eq_true rfl) ?_
  intro p e s m args below meth c A ls C hH hl
  have C : XC p s m args meth c cX3_postCount 1 RX3 (some .int) D cA A := C
  have hl : lv_has ls 1 [(0, .ref (a 1))] := hl
  unfold wp_N_postCount at h
  refine j_aload_n C dX3_postCount_0 (lv_at hl 0 rfl) ?_
  refine xg_X3_posts C hH dX3_postCount_1 ?_
  exact j_iret C hH ⟨_, rfl, rfl, h⟩ dX3_postCount_4
abbrev po_N_sumOf (cA : ClassId) (a : Nat → Nat) (xStraight xLeast nPosts nThirds : Int) (nCorners nSums nArrows : Nat → Int) (aBehind aAhead : Int) (aCells aBefore aAfter : Nat → Int) (gCorners gLowest gFirst gFresh gThere : Int) (gRow gPlaces gOver gVia gQueue : Nat → Int) (bTold bStraight bLeast : Int) (bPostsOf bSets bTotals : Nat → Int) (Q : Int → Prop) : Int32 → va_W → Prop := fun r w => ∃ z, r = J z ∧ w = wX cA a xStraight xLeast nPosts nThirds nCorners nSums nArrows aBehind aAhead aCells aBefore aAfter gCorners gLowest gFirst gFresh gThere gRow gPlaces gOver gVia gQueue bTold bStraight bLeast bPostsOf bSets bTotals ∧ Q z
set_option maxRecDepth 4000 in
theorem c_N_sumOf {l : Launch} {D : va_G} {cA : ClassId} {a : Nat → Nat} {sz : Nat} {xStraight xLeast nPosts nThirds : Int} {nCorners nSums nArrows : Nat → Int} {aBehind aAhead : Int} {aCells aBefore aAfter : Nat → Int} {gCorners gLowest gFirst gFresh gThere : Int} {gRow gPlaces gOver gVia gQueue : Nat → Int} {bTold bStraight bLeast : Int} {bPostsOf bSets bTotals : Nat → Int} {x1 : Int} {Q : Int → Prop} (h : wp_N_sumOf x1 nSums Q) : Met l yX3_sumOf (.code yX3_sumOf cX3_sumOf 2 (some .int) :: lw_ok) rm_N_sumOf (xPre D cA sz [.ref (a 1), .int (J x1)] (wX cA a xStraight xLeast nPosts nThirds nCorners nSums nArrows aBehind aAhead aCells aBefore aAfter gCorners gLowest gFirst gFresh gThere gRow gPlaces gOver gVia gQueue bTold bStraight bLeast bPostsOf bSets bTotals)) (va_Qi (po_N_sumOf cA a xStraight xLeast nPosts nThirds nCorners nSums nArrows aBehind aAhead aCells aBefore aAfter gCorners gLowest gFirst gFresh gThere gRow gPlaces gOver gVia gQueue bTold bStraight bLeast bPostsOf bSets bTotals Q) (xB D cA (va_A (wX cA a xStraight xLeast nPosts nThirds nCorners nSums nArrows aBehind aAhead aCells aBefore aAfter gCorners gLowest gFirst gFresh gThere gRow gPlaces gOver gVia gQueue bTold bStraight bLeast bPostsOf bSets bTotals) sz)) (va_A (wX cA a xStraight xLeast nPosts nThirds nCorners nSums nArrows aBehind aAhead aCells aBefore aAfter gCorners gLowest gFirst gFresh gThere gRow gPlaces gOver gVia gQueue bTold bStraight bLeast bPostsOf bSets bTotals) sz)) 0 0 (va_A (wX cA a xStraight xLeast nPosts nThirds nCorners nSums nArrows aBehind aAhead aCells aBefore aAfter gCorners gLowest gFirst gFresh gThere gRow gPlaces gOver gVia gQueue bTold bStraight bLeast bPostsOf bSets bTotals) sz) := by
  refine xmet_i (by decide) (Nat.le_of_ble_eq_true rfl) ?_
  intro p e s m args below meth c A ls C hH hl
  have C : XC p s m args meth c cX3_sumOf 2 RX3 (some .int) D cA A := C
  have hl : lv_has ls 2 [(0, .ref (a 1)), (1, .int (J x1))] := hl
  unfold wp_N_sumOf at h
  refine j_aload_n C dX3_sumOf_0 (lv_at hl 0 rfl) ?_
  refine xg_X3_sums C hH dX3_sumOf_1 ?_
  refine j_iload_n C dX3_sumOf_4 (lv_at hl 1 rfl) ?_
  obtain ⟨b_1, h⟩ := h
  refine xa_nSums C hH b_1 dX3_sumOf_5 ?_
  exact j_iret C hH ⟨_, rfl, rfl, h⟩ dX3_sumOf_6
abbrev po_B_lookAtPosts (cA : ClassId) (a : Nat → Nat) (xStraight xLeast nPosts nThirds : Int) (nCorners nSums nArrows : Nat → Int) (aBehind aAhead : Int) (aCells aBefore aAfter : Nat → Int) (gCorners gLowest gFirst gFresh gThere : Int) (gRow gPlaces gOver gVia gQueue : Nat → Int) (bStraight bLeast : Int) (bPostsOf bSets : Nat → Int) (Q : Int → (Nat → Int) → Prop) : va_W → Prop := fun w => ∃ bTold' bTotals', w = wX cA a xStraight xLeast nPosts nThirds nCorners nSums nArrows aBehind aAhead aCells aBefore aAfter gCorners gLowest gFirst gFresh gThere gRow gPlaces gOver gVia gQueue bTold' bStraight bLeast bPostsOf bSets bTotals' ∧ Q bTold' bTotals'
set_option maxRecDepth 4000 in
theorem w_B_lookAtPosts_82 {p : Program} {l : Launch} {e : Env} {s : State} {m : MethodId} {args : Array Value} {below : List Frame} {meth : Method} {c : Code} {D : va_G} {cA : ClassId} {A : Nat → Prop} {a : Nat → Nat} {xStraight xLeast nPosts nThirds : Int} {nCorners nSums nArrows : Nat → Int} {aBehind aAhead : Int} {aCells aBefore aAfter : Nat → Int} {gCorners gLowest gFirst gFresh gThere : Int} {gRow gPlaces gOver gVia gQueue : Nat → Int} {bTold bStraight bLeast : Int} {bPostsOf bSets : Nat → Int} (C : XC p s m args meth c cX1_lookAtPosts 6 RX1 none D cA A) {K7 : Int → Int → (Nat → Int) → Prop} {Q : Int → (Nat → Int) → Prop} {x1 : Int} {x2 : Int} {x3 : Int} {x4 : Int}  (hK7 : ∀ (x2 : Int) (bTold : Int) (bTotals : Nat → Int), K7 x2 bTold bTotals → ∀ (H : Heap) (locs : List Loc) (ls : Array Slot), XH D A s (wX cA a xStraight xLeast nPosts nThirds nCorners nSums nArrows aBehind aAhead aCells aBefore aAfter gCorners gLowest gFirst gFresh gThere gRow gPlaces gOver gVia gQueue bTold bStraight bLeast bPostsOf bSets bTotals) H locs → lv_has ls 6 [(0, .ref (a 15)), (1, .int (J x1)), (2, .int (J x2))] → W p l e rm_B_lookAtPosts s m args below meth c H locs 0 0 (MQ below (va_Qv (po_B_lookAtPosts cA a xStraight xLeast nPosts nThirds nCorners nSums nArrows aBehind aAhead aCells aBefore aAfter gCorners gLowest gFirst gFresh gThere gRow gPlaces gOver gVia gQueue bStraight bLeast bPostsOf bSets Q) (xB D cA A) A) args s 0 0 A) (F0 m 7 ls [])) : ∀ (n : Nat) (x5 : Int) (bTotals : Nat → Int), wp_B_lookAtPosts_82 K7 Q nPosts nThirds nCorners nSums bLeast x1 x2 x3 x4 bTold n x5 bTotals → ∀ (H : Heap) (locs : List Loc) (ls : Array Slot), XH D A s (wX cA a xStraight xLeast nPosts nThirds nCorners nSums nArrows aBehind aAhead aCells aBefore aAfter gCorners gLowest gFirst gFresh gThere gRow gPlaces gOver gVia gQueue bTold bStraight bLeast bPostsOf bSets bTotals) H locs → lv_has ls 6 [(0, .ref (a 15)), (1, .int (J x1)), (2, .int (J x2)), (3, .int (J x3)), (4, .int (J x4)), (5, .int (J x5))] → W p l e rm_B_lookAtPosts s m args below meth c H locs 0 0 (MQ below (va_Qv (po_B_lookAtPosts cA a xStraight xLeast nPosts nThirds nCorners nSums nArrows aBehind aAhead aCells aBefore aAfter gCorners gLowest gFirst gFresh gThere gRow gPlaces gOver gVia gQueue bStraight bLeast bPostsOf bSets Q) (xB D cA A) A) args s 0 0 A) (F0 m 82 ls []) := by
  intro n
  induction n with
  | zero => intro x5 bTotals h; exact (show False from h).elim
  | succ n hK82 =>
    intro x5 bTotals h H locs ls hH hl
    have h : wp_B_lookAtPosts_82_b K7 (wp_B_lookAtPosts_82 K7 Q nPosts nThirds nCorners nSums bLeast x1 x2 x3 x4 bTold n) Q nPosts nThirds nCorners nSums bLeast x1 x2 x3 x4 bTold x5 bTotals := h
    unfold wp_B_lookAtPosts_82_b at h
    refine j_iload C dX1_lookAtPosts_82 (lv_at hl 5 rfl) ?_
    refine j_iload_n C dX1_lookAtPosts_84 (lv_at hl 3 rfl) ?_
    obtain ⟨g_1, h⟩ := h
    obtain ⟨g_2, h⟩ := h
    refine j_icmp_ge C 113 g_1 g_2 dX1_lookAtPosts_85 (by decide) (fun c_3 => ?_) (fun c_3 => ?_)
    · have h := h.1 c_3
      refine j_iinc (k := 2) (v := x2 + 1) (lv' := [(2, .int (J (x2 + 1))), (0, .ref (a 15)), (1, .int (J x1)), (3, .int (J x3)), (4, .int (J x4)), (5, .int (J x5))]) C dX1_lookAtPosts_113 hl rfl rfl (by decide) rfl (fun ls hl => ?_)
      refine j_goto C 7 dX1_lookAtPosts_116 (by decide) ?_
      exact hK7 (x2 + 1) bTold bTotals h _ _ _ hH (lv_sub hl [1, 2, 0] rfl)
    · have h := h.2 c_3
      refine j_aload_n C dX1_lookAtPosts_88 (lv_at hl 0 rfl) ?_
      refine xg_X1_totals C hH dX1_lookAtPosts_89 ?_
      refine j_iload_n C dX1_lookAtPosts_92 (lv_at hl 3 rfl) ?_
      refine j_iload C dX1_lookAtPosts_93 (lv_at hl 5 rfl) ?_
      refine j_iadd C dX1_lookAtPosts_95 ?_
      refine j_aload_n C dX1_lookAtPosts_96 (lv_at hl 0 rfl) ?_
      refine xg_X1_totals C hH dX1_lookAtPosts_97 ?_
      refine j_iload C dX1_lookAtPosts_100 (lv_at hl 5 rfl) ?_
      obtain ⟨b_4, h⟩ := h
      refine xa_bTotals C hH b_4 dX1_lookAtPosts_102 ?_
      refine j_iload C dX1_lookAtPosts_103 (lv_at hl 4 rfl) ?_
      refine j_iadd C dX1_lookAtPosts_105 ?_
      obtain ⟨b_5, h⟩ := h
      refine xs_bTotals C hH b_5 dX1_lookAtPosts_106 (fun bTotals_6 e_bTotals_6 H locs hH => ?_)
      have h := h bTotals_6 e_bTotals_6
      refine j_iinc (k := 5) (v := x5 + 1) (lv' := [(5, .int (J (x5 + 1))), (0, .ref (a 15)), (1, .int (J x1)), (2, .int (J x2)), (3, .int (J x3)), (4, .int (J x4))]) C dX1_lookAtPosts_107 hl rfl rfl (by decide) rfl (fun ls hl => ?_)
      refine j_goto C 82 dX1_lookAtPosts_110 (by decide) ?_
      exact hK82 (x5 + 1) bTotals_6 h _ _ _ hH (lv_sub hl [1, 2, 3, 4, 5, 0] rfl)
set_option maxRecDepth 4000 in
theorem w_B_lookAtPosts_51 {p : Program} {l : Launch} {e : Env} {s : State} {m : MethodId} {args : Array Value} {below : List Frame} {meth : Method} {c : Code} {D : va_G} {cA : ClassId} {A : Nat → Prop} {a : Nat → Nat} {xStraight xLeast nPosts nThirds : Int} {nCorners nSums nArrows : Nat → Int} {aBehind aAhead : Int} {aCells aBefore aAfter : Nat → Int} {gCorners gLowest gFirst gFresh gThere : Int} {gRow gPlaces gOver gVia gQueue : Nat → Int} {bStraight bLeast : Int} {bPostsOf bSets : Nat → Int} (C : XC p s m args meth c cX1_lookAtPosts 6 RX1 none D cA A) {K7 : Int → Int → (Nat → Int) → Prop} {Q : Int → (Nat → Int) → Prop} {x1 : Int}  (hK7 : ∀ (x2 : Int) (bTold : Int) (bTotals : Nat → Int), K7 x2 bTold bTotals → ∀ (H : Heap) (locs : List Loc) (ls : Array Slot), XH D A s (wX cA a xStraight xLeast nPosts nThirds nCorners nSums nArrows aBehind aAhead aCells aBefore aAfter gCorners gLowest gFirst gFresh gThere gRow gPlaces gOver gVia gQueue bTold bStraight bLeast bPostsOf bSets bTotals) H locs → lv_has ls 6 [(0, .ref (a 15)), (1, .int (J x1)), (2, .int (J x2))] → W p l e rm_B_lookAtPosts s m args below meth c H locs 0 0 (MQ below (va_Qv (po_B_lookAtPosts cA a xStraight xLeast nPosts nThirds nCorners nSums nArrows aBehind aAhead aCells aBefore aAfter gCorners gLowest gFirst gFresh gThere gRow gPlaces gOver gVia gQueue bStraight bLeast bPostsOf bSets Q) (xB D cA A) A) args s 0 0 A) (F0 m 7 ls [])) : ∀ (x2 : Int) (x3 : Int) (t0 : Int) (t1 : Int) (bTold : Int) (bTotals : Nat → Int), wp_B_lookAtPosts_51 K7 Q nPosts nThirds nCorners nSums bLeast x1 x2 x3 t0 t1 bTold bTotals → ∀ (H : Heap) (locs : List Loc) (ls : Array Slot), XH D A s (wX cA a xStraight xLeast nPosts nThirds nCorners nSums nArrows aBehind aAhead aCells aBefore aAfter gCorners gLowest gFirst gFresh gThere gRow gPlaces gOver gVia gQueue bTold bStraight bLeast bPostsOf bSets bTotals) H locs → lv_has ls 6 [(0, .ref (a 15)), (1, .int (J x1)), (2, .int (J x2)), (3, .int (J x3))] → W p l e rm_B_lookAtPosts s m args below meth c H locs 0 0 (MQ below (va_Qv (po_B_lookAtPosts cA a xStraight xLeast nPosts nThirds nCorners nSums nArrows aBehind aAhead aCells aBefore aAfter gCorners gLowest gFirst gFresh gThere gRow gPlaces gOver gVia gQueue bStraight bLeast bPostsOf bSets Q) (xB D cA A) A) args s 0 0 A) (F0 m 51 ls [.int (J t1), .int (J t0)]) := by
  intro x2 x3 t0 t1 bTold bTotals h H locs ls hH hl
  unfold wp_B_lookAtPosts_51 at h
  refine j_isub C dX1_lookAtPosts_51 ?_
  refine j_istore (lv' := [(4, .int (J (t0 - t1))), (0, .ref (a 15)), (1, .int (J x1)), (2, .int (J x2)), (3, .int (J x3))]) C dX1_lookAtPosts_52 hl (by decide) rfl (fun ls hl => ?_)
  refine j_aload_n C dX1_lookAtPosts_54 (lv_at hl 1 rfl) ?_
  refine j_dup C rfl dX1_lookAtPosts_55 ?_
  refine xg_X1_toldPosts C hH dX1_lookAtPosts_56 ?_
  refine j_aload_n C dX1_lookAtPosts_59 (lv_at hl 1 rfl) ?_
  refine xg_X1_net C hH dX1_lookAtPosts_60 ?_
  refine j_iload_n C dX1_lookAtPosts_63 (lv_at hl 3 rfl) ?_
  refine xcallV_i (As := [.int (J x2)]) (rest := [.int (J bTold), .ref (a 15)]) (q0 := 1) C hH (fun sz => c_N_isTold h) xl_X1_67 rfl rfl ⟨rfl, rfl⟩ ⟨Nat.le_of_ble_eq_true rfl, Nat.le_of_ble_eq_true rfl⟩ hl.1 rfl rfl (Nat.le_of_ble_eq_true rfl) dX1_lookAtPosts_64 (fun r_ w_ H locs hw hH => ?_)
  obtain ⟨z_7, rfl, rfl, h⟩ := hw
  obtain ⟨g_8, h⟩ := h
  refine j_if_eq C 74 g_8 dX1_lookAtPosts_67 (by decide) (fun c_9 => ?_) (fun c_9 => ?_)
  · have h := h.1 c_9
    refine j_iconst C dX1_lookAtPosts_74 ?_
    refine j_ior C dX1_lookAtPosts_75 ?_
    refine xp_X1_toldPosts C hH dX1_lookAtPosts_76 (fun H locs hH => ?_)
    refine j_iconst C dX1_lookAtPosts_79 ?_
    refine j_istore (lv' := [(5, .int (J 0)), (4, .int (J (t0 - t1))), (0, .ref (a 15)), (1, .int (J x1)), (2, .int (J x2)), (3, .int (J x3))]) C dX1_lookAtPosts_80 hl (by decide) rfl (fun ls hl => ?_)
    obtain ⟨n_, h⟩ := h
    exact w_B_lookAtPosts_82 C hK7 n_ 0 bTotals h _ _ _ hH (lv_sub hl [2, 3, 4, 5, 1, 0] rfl)
  · have h := h.2 c_9
    refine j_iload_n C dX1_lookAtPosts_70 (lv_at hl 4 rfl) ?_
    refine j_goto C 75 dX1_lookAtPosts_71 (by decide) ?_
    refine j_ior C dX1_lookAtPosts_75 ?_
    refine xp_X1_toldPosts C hH dX1_lookAtPosts_76 (fun H locs hH => ?_)
    refine j_iconst C dX1_lookAtPosts_79 ?_
    refine j_istore (lv' := [(5, .int (J 0)), (4, .int (J (t0 - t1))), (0, .ref (a 15)), (1, .int (J x1)), (2, .int (J x2)), (3, .int (J x3))]) C dX1_lookAtPosts_80 hl (by decide) rfl (fun ls hl => ?_)
    obtain ⟨n_, h⟩ := h
    exact w_B_lookAtPosts_82 C hK7 n_ 0 bTotals h _ _ _ hH (lv_sub hl [2, 3, 4, 5, 1, 0] rfl)
set_option maxRecDepth 4000 in
theorem w_B_lookAtPosts_7 {p : Program} {l : Launch} {e : Env} {s : State} {m : MethodId} {args : Array Value} {below : List Frame} {meth : Method} {c : Code} {D : va_G} {cA : ClassId} {A : Nat → Prop} {a : Nat → Nat} {xStraight xLeast nPosts nThirds : Int} {nCorners nSums nArrows : Nat → Int} {aBehind aAhead : Int} {aCells aBefore aAfter : Nat → Int} {gCorners gLowest gFirst gFresh gThere : Int} {gRow gPlaces gOver gVia gQueue : Nat → Int} {bStraight bLeast : Int} {bPostsOf bSets : Nat → Int} (C : XC p s m args meth c cX1_lookAtPosts 6 RX1 none D cA A) {Q : Int → (Nat → Int) → Prop} {x1 : Int}  : ∀ (n : Nat) (x2 : Int) (bTold : Int) (bTotals : Nat → Int), wp_B_lookAtPosts_7 Q nPosts nThirds nCorners nSums bLeast x1 n x2 bTold bTotals → ∀ (H : Heap) (locs : List Loc) (ls : Array Slot), XH D A s (wX cA a xStraight xLeast nPosts nThirds nCorners nSums nArrows aBehind aAhead aCells aBefore aAfter gCorners gLowest gFirst gFresh gThere gRow gPlaces gOver gVia gQueue bTold bStraight bLeast bPostsOf bSets bTotals) H locs → lv_has ls 6 [(0, .ref (a 15)), (1, .int (J x1)), (2, .int (J x2))] → W p l e rm_B_lookAtPosts s m args below meth c H locs 0 0 (MQ below (va_Qv (po_B_lookAtPosts cA a xStraight xLeast nPosts nThirds nCorners nSums nArrows aBehind aAhead aCells aBefore aAfter gCorners gLowest gFirst gFresh gThere gRow gPlaces gOver gVia gQueue bStraight bLeast bPostsOf bSets Q) (xB D cA A) A) args s 0 0 A) (F0 m 7 ls []) := by
  intro n
  induction n with
  | zero => intro x2 bTold bTotals h; exact (show False from h).elim
  | succ n hK7 =>
    intro x2 bTold bTotals h H locs ls hH hl
    have h : wp_B_lookAtPosts_7_b  (wp_B_lookAtPosts_7 Q nPosts nThirds nCorners nSums bLeast x1 n) Q nPosts nThirds nCorners nSums bLeast x1 x2 bTold bTotals := h
    unfold wp_B_lookAtPosts_7_b at h
    refine j_iload_n C dX1_lookAtPosts_7 (lv_at hl 2 rfl) ?_
    refine j_aload_n C dX1_lookAtPosts_8 (lv_at hl 0 rfl) ?_
    refine xg_X1_net C hH dX1_lookAtPosts_9 ?_
    refine xcallV_i (As := []) (rest := [.int (J x2)]) (q0 := 1) C hH (fun sz => c_N_postCount h) xl_X1_56 rfl rfl ⟨rfl, rfl⟩ ⟨Nat.le_of_ble_eq_true rfl, Nat.le_of_ble_eq_true rfl⟩ hl.1 rfl rfl (Nat.le_of_ble_eq_true rfl) dX1_lookAtPosts_12 (fun r_ w_ H locs hw hH => ?_)
    obtain ⟨z_10, rfl, rfl, h⟩ := hw
    obtain ⟨g_11, h⟩ := h
    obtain ⟨g_12, h⟩ := h
    refine j_icmp_ge C 119 g_11 g_12 dX1_lookAtPosts_15 (by decide) (fun c_13 => ?_) (fun c_13 => ?_)
    · have h := h.1 c_13
      exact j_vret C hH ⟨_, _, rfl, h⟩ dX1_lookAtPosts_119
    · have h := h.2 c_13
      refine j_iconst C dX1_lookAtPosts_18 ?_
      refine j_iload_n C dX1_lookAtPosts_19 (lv_at hl 2 rfl) ?_
      refine j_ishl C dX1_lookAtPosts_20 ?_
      refine j_istore_n (lv' := [(3, .int (J (jshl 1 x2))), (0, .ref (a 15)), (1, .int (J x1)), (2, .int (J x2))]) C dX1_lookAtPosts_21 hl (by decide) rfl (fun ls hl => ?_)
      refine j_aload_n C dX1_lookAtPosts_22 (lv_at hl 1 rfl) ?_
      refine xg_X1_net C hH dX1_lookAtPosts_23 ?_
      refine j_iload_n C dX1_lookAtPosts_26 (lv_at hl 3 rfl) ?_
      refine xcallV_i (As := [.int (J x2)]) (rest := []) (q0 := 1) C hH (fun sz => c_N_sumOf h) xl_X1_61 rfl rfl ⟨rfl, rfl⟩ ⟨Nat.le_of_ble_eq_true rfl, Nat.le_of_ble_eq_true rfl⟩ hl.1 rfl rfl (Nat.le_of_ble_eq_true rfl) dX1_lookAtPosts_27 (fun r_ w_ H locs hw hH => ?_)
      obtain ⟨z_14, rfl, rfl, h⟩ := hw
      refine j_iload_n C dX1_lookAtPosts_30 (lv_at hl 2 rfl) ?_
      obtain ⟨g_15, h⟩ := h
      refine j_if_ne C 50 g_15 dX1_lookAtPosts_31 (by decide) (fun c_16 => ?_) (fun c_16 => ?_)
      · have h := h.2 c_16
        refine j_iconst C dX1_lookAtPosts_50 ?_
        exact w_B_lookAtPosts_51 C hK7 x2 (jshl 1 x2) z_14 0 bTold bTotals h _ _ _ hH (lv_sub hl [1, 2, 3, 0] rfl)
      · have h := h.1 c_16
        refine j_aload_n C dX1_lookAtPosts_34 (lv_at hl 1 rfl) ?_
        refine xg_X1_least C hH dX1_lookAtPosts_35 ?_
        refine j_aload_n C dX1_lookAtPosts_38 (lv_at hl 1 rfl) ?_
        refine xg_X1_net C hH dX1_lookAtPosts_39 ?_
        refine j_iload_n C dX1_lookAtPosts_42 (lv_at hl 3 rfl) ?_
        refine xcallV_i (As := [.int (J x2)]) (rest := [.int (J bLeast), .int (J z_14)]) (q0 := 1) C hH (fun sz => c_N_cornersAt h) xl_X1_64 rfl rfl ⟨rfl, rfl⟩ ⟨Nat.le_of_ble_eq_true rfl, Nat.le_of_ble_eq_true rfl⟩ hl.1 rfl rfl (Nat.le_of_ble_eq_true rfl) dX1_lookAtPosts_43 (fun r_ w_ H locs hw hH => ?_)
        obtain ⟨z_17, rfl, rfl, h⟩ := hw
        refine j_imul C dX1_lookAtPosts_46 ?_
        refine j_goto C 51 dX1_lookAtPosts_47 (by decide) ?_
        exact w_B_lookAtPosts_51 C hK7 x2 (jshl 1 x2) z_14 (bLeast * z_17) bTold bTotals h _ _ _ hH (lv_sub hl [1, 2, 3, 0] rfl)
set_option maxRecDepth 4000 in
theorem c_B_lookAtPosts {l : Launch} {D : va_G} {cA : ClassId} {a : Nat → Nat} {sz : Nat} {xStraight xLeast nPosts nThirds : Int} {nCorners nSums nArrows : Nat → Int} {aBehind aAhead : Int} {aCells aBefore aAfter : Nat → Int} {gCorners gLowest gFirst gFresh gThere : Int} {gRow gPlaces gOver gVia gQueue : Nat → Int} {bTold bStraight bLeast : Int} {bPostsOf bSets bTotals : Nat → Int} {x1 : Int} {Q : Int → (Nat → Int) → Prop} (h : wp_B_lookAtPosts x1 nPosts nThirds nCorners nSums bTold bLeast bTotals Q) : Met l yX1_lookAtPosts (.code yX1_lookAtPosts cX1_lookAtPosts 6 none :: lw_ok) rm_B_lookAtPosts (xPre D cA sz [.ref (a 15), .int (J x1)] (wX cA a xStraight xLeast nPosts nThirds nCorners nSums nArrows aBehind aAhead aCells aBefore aAfter gCorners gLowest gFirst gFresh gThere gRow gPlaces gOver gVia gQueue bTold bStraight bLeast bPostsOf bSets bTotals)) (va_Qv (po_B_lookAtPosts cA a xStraight xLeast nPosts nThirds nCorners nSums nArrows aBehind aAhead aCells aBefore aAfter gCorners gLowest gFirst gFresh gThere gRow gPlaces gOver gVia gQueue bStraight bLeast bPostsOf bSets Q) (xB D cA (va_A (wX cA a xStraight xLeast nPosts nThirds nCorners nSums nArrows aBehind aAhead aCells aBefore aAfter gCorners gLowest gFirst gFresh gThere gRow gPlaces gOver gVia gQueue bTold bStraight bLeast bPostsOf bSets bTotals) sz)) (va_A (wX cA a xStraight xLeast nPosts nThirds nCorners nSums nArrows aBehind aAhead aCells aBefore aAfter gCorners gLowest gFirst gFresh gThere gRow gPlaces gOver gVia gQueue bTold bStraight bLeast bPostsOf bSets bTotals) sz)) 0 0 (va_A (wX cA a xStraight xLeast nPosts nThirds nCorners nSums nArrows aBehind aAhead aCells aBefore aAfter gCorners gLowest gFirst gFresh gThere gRow gPlaces gOver gVia gQueue bTold bStraight bLeast bPostsOf bSets bTotals) sz) := by
  refine xmet_v (by decide) (Nat.le_of_ble_eq_true rfl) ?_
  intro p e s m args below meth c A ls C hH hl
  have C : XC p s m args meth c cX1_lookAtPosts 6 RX1 none D cA A := C
  have hl : lv_has ls 6 [(0, .ref (a 15)), (1, .int (J x1))] := hl
  unfold wp_B_lookAtPosts at h
  refine j_aload_n C dX1_lookAtPosts_0 (lv_at hl 0 rfl) ?_
  refine j_iconst C dX1_lookAtPosts_1 ?_
  refine xp_X1_toldPosts C hH dX1_lookAtPosts_2 (fun H locs hH => ?_)
  refine j_iconst C dX1_lookAtPosts_5 ?_
  refine j_istore_n (lv' := [(2, .int (J 0)), (0, .ref (a 15)), (1, .int (J x1))]) C dX1_lookAtPosts_6 hl (by decide) rfl (fun ls hl => ?_)
  obtain ⟨n_, h⟩ := h
  exact w_B_lookAtPosts_7 C  n_ 0 0 bTotals h _ _ _ hH (lv_sub hl [1, 2, 0] rfl)
abbrev po_N_postOf (cA : ClassId) (a : Nat → Nat) (xStraight xLeast nPosts nThirds : Int) (nCorners nSums nArrows : Nat → Int) (aBehind aAhead : Int) (aCells aBefore aAfter : Nat → Int) (gCorners gLowest gFirst gFresh gThere : Int) (gRow gPlaces gOver gVia gQueue : Nat → Int) (bTold bStraight bLeast : Int) (bPostsOf bSets bTotals : Nat → Int) (Q : Int → Prop) : Int32 → va_W → Prop := fun r w => ∃ z, r = J z ∧ w = wX cA a xStraight xLeast nPosts nThirds nCorners nSums nArrows aBehind aAhead aCells aBefore aAfter gCorners gLowest gFirst gFresh gThere gRow gPlaces gOver gVia gQueue bTold bStraight bLeast bPostsOf bSets bTotals ∧ Q z
set_option maxRecDepth 4000 in
theorem c_N_postOf {l : Launch} {D : va_G} {cA : ClassId} {a : Nat → Nat} {sz : Nat} {xStraight xLeast nPosts nThirds : Int} {nCorners nSums nArrows : Nat → Int} {aBehind aAhead : Int} {aCells aBefore aAfter : Nat → Int} {gCorners gLowest gFirst gFresh gThere : Int} {gRow gPlaces gOver gVia gQueue : Nat → Int} {bTold bStraight bLeast : Int} {bPostsOf bSets bTotals : Nat → Int} {x1 : Int} {Q : Int → Prop} (h : wp_N_postOf x1 nCorners Q) : Met l yX3_postOf (.code yX3_postOf cX3_postOf 2 (some .int) :: lw_ok) rm_N_postOf (xPre D cA sz [.ref (a 1), .int (J x1)] (wX cA a xStraight xLeast nPosts nThirds nCorners nSums nArrows aBehind aAhead aCells aBefore aAfter gCorners gLowest gFirst gFresh gThere gRow gPlaces gOver gVia gQueue bTold bStraight bLeast bPostsOf bSets bTotals)) (va_Qi (po_N_postOf cA a xStraight xLeast nPosts nThirds nCorners nSums nArrows aBehind aAhead aCells aBefore aAfter gCorners gLowest gFirst gFresh gThere gRow gPlaces gOver gVia gQueue bTold bStraight bLeast bPostsOf bSets bTotals Q) (xB D cA (va_A (wX cA a xStraight xLeast nPosts nThirds nCorners nSums nArrows aBehind aAhead aCells aBefore aAfter gCorners gLowest gFirst gFresh gThere gRow gPlaces gOver gVia gQueue bTold bStraight bLeast bPostsOf bSets bTotals) sz)) (va_A (wX cA a xStraight xLeast nPosts nThirds nCorners nSums nArrows aBehind aAhead aCells aBefore aAfter gCorners gLowest gFirst gFresh gThere gRow gPlaces gOver gVia gQueue bTold bStraight bLeast bPostsOf bSets bTotals) sz)) 0 0 (va_A (wX cA a xStraight xLeast nPosts nThirds nCorners nSums nArrows aBehind aAhead aCells aBefore aAfter gCorners gLowest gFirst gFresh gThere gRow gPlaces gOver gVia gQueue bTold bStraight bLeast bPostsOf bSets bTotals) sz) := by
  refine xmet_i (by decide) (Nat.le_of_ble_eq_true rfl) ?_
  intro p e s m args below meth c A ls C hH hl
  have C : XC p s m args meth c cX3_postOf 2 RX3 (some .int) D cA A := C
  have hl : lv_has ls 2 [(0, .ref (a 1)), (1, .int (J x1))] := hl
  unfold wp_N_postOf at h
  refine j_aload_n C dX3_postOf_0 (lv_at hl 0 rfl) ?_
  refine xg_X3_corners C hH dX3_postOf_1 ?_
  refine j_iload_n C dX3_postOf_4 (lv_at hl 1 rfl) ?_
  obtain ⟨b_1, h⟩ := h
  refine xa_nCorners C hH b_1 dX3_postOf_5 ?_
  exact j_iret C hH ⟨_, rfl, rfl, h⟩ dX3_postOf_6
abbrev po_B_lookAtThirds (cA : ClassId) (a : Nat → Nat) (xStraight xLeast nPosts nThirds : Int) (nCorners nSums nArrows : Nat → Int) (aBehind aAhead : Int) (aCells aBefore aAfter : Nat → Int) (gCorners gLowest gFirst gFresh gThere : Int) (gRow gPlaces gOver gVia gQueue : Nat → Int) (bTold bStraight bLeast : Int) (bTotals : Nat → Int) (Q : (Nat → Int) → (Nat → Int) → Prop) : va_W → Prop := fun w => ∃ bPostsOf' bSets', w = wX cA a xStraight xLeast nPosts nThirds nCorners nSums nArrows aBehind aAhead aCells aBefore aAfter gCorners gLowest gFirst gFresh gThere gRow gPlaces gOver gVia gQueue bTold bStraight bLeast bPostsOf' bSets' bTotals ∧ Q bPostsOf' bSets'
set_option maxRecDepth 4000 in
theorem w_B_lookAtThirds_84 {p : Program} {l : Launch} {e : Env} {s : State} {m : MethodId} {args : Array Value} {below : List Frame} {meth : Method} {c : Code} {D : va_G} {cA : ClassId} {A : Nat → Prop} {a : Nat → Nat} {xStraight xLeast nPosts nThirds : Int} {nCorners nSums nArrows : Nat → Int} {aBehind aAhead : Int} {aCells aBefore aAfter : Nat → Int} {gCorners gLowest gFirst gFresh gThere : Int} {gRow gPlaces gOver gVia gQueue : Nat → Int} {bTold bStraight bLeast : Int} {bPostsOf bTotals : Nat → Int} (C : XC p s m args meth c cX1_lookAtThirds 5 RX1 none D cA A) {K2 : Int → (Nat → Int) → (Nat → Int) → Prop} {Q : (Nat → Int) → (Nat → Int) → Prop} {x1 : Int} {x2 : Int} {x3 : Int}  (hK2 : ∀ (x1 : Int) (bPostsOf : Nat → Int) (bSets : Nat → Int), K2 x1 bPostsOf bSets → ∀ (H : Heap) (locs : List Loc) (ls : Array Slot), XH D A s (wX cA a xStraight xLeast nPosts nThirds nCorners nSums nArrows aBehind aAhead aCells aBefore aAfter gCorners gLowest gFirst gFresh gThere gRow gPlaces gOver gVia gQueue bTold bStraight bLeast bPostsOf bSets bTotals) H locs → lv_has ls 5 [(0, .ref (a 15)), (1, .int (J x1))] → W p l e rm_B_lookAtThirds s m args below meth c H locs 0 0 (MQ below (va_Qv (po_B_lookAtThirds cA a xStraight xLeast nPosts nThirds nCorners nSums nArrows aBehind aAhead aCells aBefore aAfter gCorners gLowest gFirst gFresh gThere gRow gPlaces gOver gVia gQueue bTold bStraight bLeast bTotals Q) (xB D cA A) A) args s 0 0 A) (F0 m 2 ls [])) : ∀ (n : Nat) (x4 : Int) (bSets : Nat → Int), wp_B_lookAtThirds_84 K2 Q nThirds nCorners x1 x2 x3 bPostsOf n x4 bSets → ∀ (H : Heap) (locs : List Loc) (ls : Array Slot), XH D A s (wX cA a xStraight xLeast nPosts nThirds nCorners nSums nArrows aBehind aAhead aCells aBefore aAfter gCorners gLowest gFirst gFresh gThere gRow gPlaces gOver gVia gQueue bTold bStraight bLeast bPostsOf bSets bTotals) H locs → lv_has ls 5 [(0, .ref (a 15)), (1, .int (J x1)), (2, .int (J x2)), (3, .int (J x3)), (4, .int (J x4))] → W p l e rm_B_lookAtThirds s m args below meth c H locs 0 0 (MQ below (va_Qv (po_B_lookAtThirds cA a xStraight xLeast nPosts nThirds nCorners nSums nArrows aBehind aAhead aCells aBefore aAfter gCorners gLowest gFirst gFresh gThere gRow gPlaces gOver gVia gQueue bTold bStraight bLeast bTotals Q) (xB D cA A) A) args s 0 0 A) (F0 m 84 ls []) := by
  intro n
  induction n with
  | zero => intro x4 bSets h; exact (show False from h).elim
  | succ n hK84 =>
    intro x4 bSets h H locs ls hH hl
    have h : wp_B_lookAtThirds_84_b K2 (wp_B_lookAtThirds_84 K2 Q nThirds nCorners x1 x2 x3 bPostsOf n) Q nThirds nCorners x1 x2 x3 bPostsOf x4 bSets := h
    unfold wp_B_lookAtThirds_84_b at h
    refine j_iload C dX1_lookAtThirds_84 (lv_at hl 4 rfl) ?_
    refine j_iload_n C dX1_lookAtThirds_86 (lv_at hl 3 rfl) ?_
    obtain ⟨g_1, h⟩ := h
    obtain ⟨g_2, h⟩ := h
    refine j_icmp_ge C 123 g_1 g_2 dX1_lookAtThirds_87 (by decide) (fun c_3 => ?_) (fun c_3 => ?_)
    · have h := h.1 c_3
      refine j_iinc (k := 1) (v := x1 + 1) (lv' := [(1, .int (J (x1 + 1))), (0, .ref (a 15)), (2, .int (J x2)), (3, .int (J x3)), (4, .int (J x4))]) C dX1_lookAtThirds_123 hl rfl rfl (by decide) rfl (fun ls hl => ?_)
      refine j_goto C 2 dX1_lookAtThirds_126 (by decide) ?_
      exact hK2 (x1 + 1) bPostsOf bSets h _ _ _ hH (lv_sub hl [1, 0] rfl)
    · have h := h.2 c_3
      refine j_aload_n C dX1_lookAtThirds_90 (lv_at hl 0 rfl) ?_
      refine xg_X1_postsOfSets C hH dX1_lookAtThirds_91 ?_
      refine j_iload_n C dX1_lookAtThirds_94 (lv_at hl 2 rfl) ?_
      refine j_iload_n C dX1_lookAtThirds_95 (lv_at hl 3 rfl) ?_
      refine j_iadd C dX1_lookAtThirds_96 ?_
      refine j_iload C dX1_lookAtThirds_97 (lv_at hl 4 rfl) ?_
      refine j_iadd C dX1_lookAtThirds_99 ?_
      refine j_aload_n C dX1_lookAtThirds_100 (lv_at hl 0 rfl) ?_
      refine xg_X1_postsOfSets C hH dX1_lookAtThirds_101 ?_
      refine j_iload_n C dX1_lookAtThirds_104 (lv_at hl 2 rfl) ?_
      refine j_iload C dX1_lookAtThirds_105 (lv_at hl 4 rfl) ?_
      refine j_iadd C dX1_lookAtThirds_107 ?_
      obtain ⟨b_4, h⟩ := h
      refine xa_bSets C hH b_4 dX1_lookAtThirds_108 ?_
      refine j_aload_n C dX1_lookAtThirds_109 (lv_at hl 0 rfl) ?_
      refine xg_X1_postsOf C hH dX1_lookAtThirds_110 ?_
      refine j_iload_n C dX1_lookAtThirds_113 (lv_at hl 1 rfl) ?_
      obtain ⟨b_5, h⟩ := h
      refine xa_bPostsOf C hH b_5 dX1_lookAtThirds_114 ?_
      refine j_ior C dX1_lookAtThirds_115 ?_
      obtain ⟨b_6, h⟩ := h
      refine xs_bSets C hH b_6 dX1_lookAtThirds_116 (fun bSets_7 e_bSets_7 H locs hH => ?_)
      have h := h bSets_7 e_bSets_7
      refine j_iinc (k := 4) (v := x4 + 1) (lv' := [(4, .int (J (x4 + 1))), (0, .ref (a 15)), (1, .int (J x1)), (2, .int (J x2)), (3, .int (J x3))]) C dX1_lookAtThirds_117 hl rfl rfl (by decide) rfl (fun ls hl => ?_)
      refine j_goto C 84 dX1_lookAtThirds_120 (by decide) ?_
      exact hK84 (x4 + 1) bSets_7 h _ _ _ hH (lv_sub hl [1, 2, 3, 4, 0] rfl)
set_option maxRecDepth 4000 in
theorem w_B_lookAtThirds_2 {p : Program} {l : Launch} {e : Env} {s : State} {m : MethodId} {args : Array Value} {below : List Frame} {meth : Method} {c : Code} {D : va_G} {cA : ClassId} {A : Nat → Prop} {a : Nat → Nat} {xStraight xLeast nPosts nThirds : Int} {nCorners nSums nArrows : Nat → Int} {aBehind aAhead : Int} {aCells aBefore aAfter : Nat → Int} {gCorners gLowest gFirst gFresh gThere : Int} {gRow gPlaces gOver gVia gQueue : Nat → Int} {bTold bStraight bLeast : Int} {bTotals : Nat → Int} (C : XC p s m args meth c cX1_lookAtThirds 5 RX1 none D cA A) {Q : (Nat → Int) → (Nat → Int) → Prop}  : ∀ (n : Nat) (x1 : Int) (bPostsOf : Nat → Int) (bSets : Nat → Int), wp_B_lookAtThirds_2 Q nThirds nCorners n x1 bPostsOf bSets → ∀ (H : Heap) (locs : List Loc) (ls : Array Slot), XH D A s (wX cA a xStraight xLeast nPosts nThirds nCorners nSums nArrows aBehind aAhead aCells aBefore aAfter gCorners gLowest gFirst gFresh gThere gRow gPlaces gOver gVia gQueue bTold bStraight bLeast bPostsOf bSets bTotals) H locs → lv_has ls 5 [(0, .ref (a 15)), (1, .int (J x1))] → W p l e rm_B_lookAtThirds s m args below meth c H locs 0 0 (MQ below (va_Qv (po_B_lookAtThirds cA a xStraight xLeast nPosts nThirds nCorners nSums nArrows aBehind aAhead aCells aBefore aAfter gCorners gLowest gFirst gFresh gThere gRow gPlaces gOver gVia gQueue bTold bStraight bLeast bTotals Q) (xB D cA A) A) args s 0 0 A) (F0 m 2 ls []) := by
  intro n
  induction n with
  | zero => intro x1 bPostsOf bSets h; exact (show False from h).elim
  | succ n hK2 =>
    intro x1 bPostsOf bSets h H locs ls hH hl
    have h : wp_B_lookAtThirds_2_b  (wp_B_lookAtThirds_2 Q nThirds nCorners n) Q nThirds nCorners  x1 bPostsOf bSets := h
    unfold wp_B_lookAtThirds_2_b at h
    refine j_iload_n C dX1_lookAtThirds_2 (lv_at hl 1 rfl) ?_
    refine j_aload_n C dX1_lookAtThirds_3 (lv_at hl 0 rfl) ?_
    refine xg_X1_net C hH dX1_lookAtThirds_4 ?_
    refine xcallV_i (As := []) (rest := [.int (J x1)]) (q0 := 1) C hH (fun sz => c_N_thirdCount h) xl_X1_71 rfl rfl ⟨rfl, rfl⟩ ⟨Nat.le_of_ble_eq_true rfl, Nat.le_of_ble_eq_true rfl⟩ hl.1 rfl rfl (Nat.le_of_ble_eq_true rfl) dX1_lookAtThirds_7 (fun r_ w_ H locs hw hH => ?_)
    obtain ⟨z_8, rfl, rfl, h⟩ := hw
    obtain ⟨g_9, h⟩ := h
    obtain ⟨g_10, h⟩ := h
    refine j_icmp_ge C 129 g_9 g_10 dX1_lookAtThirds_10 (by decide) (fun c_11 => ?_) (fun c_11 => ?_)
    · have h := h.1 c_11
      exact j_vret C hH ⟨_, _, rfl, h⟩ dX1_lookAtThirds_129
    · have h := h.2 c_11
      refine j_aload_n C dX1_lookAtThirds_13 (lv_at hl 0 rfl) ?_
      refine xg_X1_postsOf C hH dX1_lookAtThirds_14 ?_
      refine j_iload_n C dX1_lookAtThirds_17 (lv_at hl 1 rfl) ?_
      refine j_iconst C dX1_lookAtThirds_18 ?_
      refine j_aload_n C dX1_lookAtThirds_19 (lv_at hl 0 rfl) ?_
      refine xg_X1_net C hH dX1_lookAtThirds_20 ?_
      refine j_iconst C dX1_lookAtThirds_23 ?_
      refine j_iload_n C dX1_lookAtThirds_24 (lv_at hl 1 rfl) ?_
      refine j_imul C dX1_lookAtThirds_25 ?_
      refine xcallV_i (As := [.int (J (3 * x1))]) (rest := [.int (J 1), .int (J x1), .ref (a 16)]) (q0 := 1) C hH (fun sz => c_N_postOf h) xl_X1_74 rfl rfl ⟨rfl, rfl⟩ ⟨Nat.le_of_ble_eq_true rfl, Nat.le_of_ble_eq_true rfl⟩ hl.1 rfl rfl (Nat.le_of_ble_eq_true rfl) dX1_lookAtThirds_26 (fun r_ w_ H locs hw hH => ?_)
      obtain ⟨z_12, rfl, rfl, h⟩ := hw
      refine j_ishl C dX1_lookAtThirds_29 ?_
      refine j_iconst C dX1_lookAtThirds_30 ?_
      refine j_aload_n C dX1_lookAtThirds_31 (lv_at hl 0 rfl) ?_
      refine xg_X1_net C hH dX1_lookAtThirds_32 ?_
      refine j_iconst C dX1_lookAtThirds_35 ?_
      refine j_iload_n C dX1_lookAtThirds_36 (lv_at hl 1 rfl) ?_
      refine j_imul C dX1_lookAtThirds_37 ?_
      refine j_iconst C dX1_lookAtThirds_38 ?_
      refine j_iadd C dX1_lookAtThirds_39 ?_
      refine xcallV_i (As := [.int (J ((3 * x1) + 1))]) (rest := [.int (J 1), .int (J (jshl 1 z_12)), .int (J x1), .ref (a 16)]) (q0 := 1) C hH (fun sz => c_N_postOf h) xl_X1_74 rfl rfl ⟨rfl, rfl⟩ ⟨Nat.le_of_ble_eq_true rfl, Nat.le_of_ble_eq_true rfl⟩ hl.1 rfl rfl (Nat.le_of_ble_eq_true rfl) dX1_lookAtThirds_40 (fun r_ w_ H locs hw hH => ?_)
      obtain ⟨z_13, rfl, rfl, h⟩ := hw
      refine j_ishl C dX1_lookAtThirds_43 ?_
      refine j_ior C dX1_lookAtThirds_44 ?_
      refine j_iconst C dX1_lookAtThirds_45 ?_
      refine j_aload_n C dX1_lookAtThirds_46 (lv_at hl 0 rfl) ?_
      refine xg_X1_net C hH dX1_lookAtThirds_47 ?_
      refine j_iconst C dX1_lookAtThirds_50 ?_
      refine j_iload_n C dX1_lookAtThirds_51 (lv_at hl 1 rfl) ?_
      refine j_imul C dX1_lookAtThirds_52 ?_
      refine j_iconst C dX1_lookAtThirds_53 ?_
      refine j_iadd C dX1_lookAtThirds_54 ?_
      refine xcallV_i (As := [.int (J ((3 * x1) + 2))]) (rest := [.int (J 1), .int (J (jor (jshl 1 z_12) (jshl 1 z_13))), .int (J x1), .ref (a 16)]) (q0 := 1) C hH (fun sz => c_N_postOf h) xl_X1_74 rfl rfl ⟨rfl, rfl⟩ ⟨Nat.le_of_ble_eq_true rfl, Nat.le_of_ble_eq_true rfl⟩ hl.1 rfl rfl (Nat.le_of_ble_eq_true rfl) dX1_lookAtThirds_55 (fun r_ w_ H locs hw hH => ?_)
      obtain ⟨z_14, rfl, rfl, h⟩ := hw
      refine j_ishl C dX1_lookAtThirds_58 ?_
      refine j_ior C dX1_lookAtThirds_59 ?_
      obtain ⟨b_15, h⟩ := h
      refine xs_bPostsOf C hH b_15 dX1_lookAtThirds_60 (fun bPostsOf_16 e_bPostsOf_16 H locs hH => ?_)
      have h := h bPostsOf_16 e_bPostsOf_16
      refine j_iload_n C dX1_lookAtThirds_61 (lv_at hl 1 rfl) ?_
      refine j_bipush C (by decide +kernel) dX1_lookAtThirds_62 ?_
      refine j_icmp_ge C 71 g_9 (by unfold jR; decide) dX1_lookAtThirds_64 (by decide) (fun c_17 => ?_) (fun c_17 => ?_)
      · have h := h.1 c_17
        refine j_bipush C (by decide +kernel) dX1_lookAtThirds_71 ?_
        refine j_istore_n (lv' := [(2, .int (J 64)), (0, .ref (a 15)), (1, .int (J x1))]) C dX1_lookAtThirds_73 hl (by decide) rfl (fun ls hl => ?_)
        refine j_iconst C dX1_lookAtThirds_74 ?_
        refine j_iload_n C dX1_lookAtThirds_75 (lv_at hl 2 rfl) ?_
        refine j_bipush C (by decide +kernel) dX1_lookAtThirds_76 ?_
        refine j_irem C (by decide +kernel) dX1_lookAtThirds_78 ?_
        refine j_ishl C dX1_lookAtThirds_79 ?_
        refine j_istore_n (lv' := [(3, .int (J (jshl 1 (jrem x1 6)))), (2, .int (J 64)), (0, .ref (a 15)), (1, .int (J x1))]) C dX1_lookAtThirds_80 hl (by decide) rfl (fun ls hl => ?_)
        refine j_iconst C dX1_lookAtThirds_81 ?_
        refine j_istore (lv' := [(4, .int (J 0)), (3, .int (J (jshl 1 (jrem x1 6)))), (2, .int (J 64)), (0, .ref (a 15)), (1, .int (J x1))]) C dX1_lookAtThirds_82 hl (by decide) rfl (fun ls hl => ?_)
        obtain ⟨n_, h⟩ := h
        exact w_B_lookAtThirds_84 C hK2 n_ 0 bSets h _ _ _ hH (lv_sub hl [3, 4, 2, 1, 0] rfl)
      · have h := h.2 c_17
        refine j_iconst C dX1_lookAtThirds_67 ?_
        refine j_goto C 73 dX1_lookAtThirds_68 (by decide) ?_
        refine j_istore_n (lv' := [(2, .int (J 0)), (0, .ref (a 15)), (1, .int (J x1))]) C dX1_lookAtThirds_73 hl (by decide) rfl (fun ls hl => ?_)
        refine j_iconst C dX1_lookAtThirds_74 ?_
        refine j_iload_n C dX1_lookAtThirds_75 (lv_at hl 2 rfl) ?_
        refine j_bipush C (by decide +kernel) dX1_lookAtThirds_76 ?_
        refine j_irem C (by decide +kernel) dX1_lookAtThirds_78 ?_
        refine j_ishl C dX1_lookAtThirds_79 ?_
        refine j_istore_n (lv' := [(3, .int (J (jshl 1 (jrem x1 6)))), (2, .int (J 0)), (0, .ref (a 15)), (1, .int (J x1))]) C dX1_lookAtThirds_80 hl (by decide) rfl (fun ls hl => ?_)
        refine j_iconst C dX1_lookAtThirds_81 ?_
        refine j_istore (lv' := [(4, .int (J 0)), (3, .int (J (jshl 1 (jrem x1 6)))), (2, .int (J 0)), (0, .ref (a 15)), (1, .int (J x1))]) C dX1_lookAtThirds_82 hl (by decide) rfl (fun ls hl => ?_)
        obtain ⟨n_, h⟩ := h
        exact w_B_lookAtThirds_84 C hK2 n_ 0 bSets h _ _ _ hH (lv_sub hl [3, 4, 2, 1, 0] rfl)
set_option maxRecDepth 4000 in
theorem c_B_lookAtThirds {l : Launch} {D : va_G} {cA : ClassId} {a : Nat → Nat} {sz : Nat} {xStraight xLeast nPosts nThirds : Int} {nCorners nSums nArrows : Nat → Int} {aBehind aAhead : Int} {aCells aBefore aAfter : Nat → Int} {gCorners gLowest gFirst gFresh gThere : Int} {gRow gPlaces gOver gVia gQueue : Nat → Int} {bTold bStraight bLeast : Int} {bPostsOf bSets bTotals : Nat → Int} {Q : (Nat → Int) → (Nat → Int) → Prop} (h : wp_B_lookAtThirds  nThirds nCorners bPostsOf bSets Q) : Met l yX1_lookAtThirds (.code yX1_lookAtThirds cX1_lookAtThirds 5 none :: lw_ok) rm_B_lookAtThirds (xPre D cA sz [.ref (a 15)] (wX cA a xStraight xLeast nPosts nThirds nCorners nSums nArrows aBehind aAhead aCells aBefore aAfter gCorners gLowest gFirst gFresh gThere gRow gPlaces gOver gVia gQueue bTold bStraight bLeast bPostsOf bSets bTotals)) (va_Qv (po_B_lookAtThirds cA a xStraight xLeast nPosts nThirds nCorners nSums nArrows aBehind aAhead aCells aBefore aAfter gCorners gLowest gFirst gFresh gThere gRow gPlaces gOver gVia gQueue bTold bStraight bLeast bTotals Q) (xB D cA (va_A (wX cA a xStraight xLeast nPosts nThirds nCorners nSums nArrows aBehind aAhead aCells aBefore aAfter gCorners gLowest gFirst gFresh gThere gRow gPlaces gOver gVia gQueue bTold bStraight bLeast bPostsOf bSets bTotals) sz)) (va_A (wX cA a xStraight xLeast nPosts nThirds nCorners nSums nArrows aBehind aAhead aCells aBefore aAfter gCorners gLowest gFirst gFresh gThere gRow gPlaces gOver gVia gQueue bTold bStraight bLeast bPostsOf bSets bTotals) sz)) 0 0 (va_A (wX cA a xStraight xLeast nPosts nThirds nCorners nSums nArrows aBehind aAhead aCells aBefore aAfter gCorners gLowest gFirst gFresh gThere gRow gPlaces gOver gVia gQueue bTold bStraight bLeast bPostsOf bSets bTotals) sz) := by
  refine xmet_v (by decide) (Nat.le_of_ble_eq_true rfl) ?_
  intro p e s m args below meth c A ls C hH hl
  have C : XC p s m args meth c cX1_lookAtThirds 5 RX1 none D cA A := C
  have hl : lv_has ls 5 [(0, .ref (a 15))] := hl
  unfold wp_B_lookAtThirds at h
  refine j_iconst C dX1_lookAtThirds_0 ?_
  refine j_istore_n (lv' := [(1, .int (J 0)), (0, .ref (a 15))]) C dX1_lookAtThirds_1 hl (by decide) rfl (fun ls hl => ?_)
  obtain ⟨n_, h⟩ := h
  exact w_B_lookAtThirds_2 C  n_ 0 bPostsOf bSets h _ _ _ hH (lv_sub hl [1, 0] rfl)
abbrev po_B_thirdsAtToldPosts (cA : ClassId) (a : Nat → Nat) (xStraight xLeast nPosts nThirds : Int) (nCorners nSums nArrows : Nat → Int) (aBehind aAhead : Int) (aCells aBefore aAfter : Nat → Int) (gCorners gLowest gFirst gFresh gThere : Int) (gRow gPlaces gOver gVia gQueue : Nat → Int) (bTold bStraight bLeast : Int) (bPostsOf bSets bTotals : Nat → Int) (Q : Int → Prop) : Int32 → va_W → Prop := fun r w => ∃ z, r = J z ∧ w = wX cA a xStraight xLeast nPosts nThirds nCorners nSums nArrows aBehind aAhead aCells aBefore aAfter gCorners gLowest gFirst gFresh gThere gRow gPlaces gOver gVia gQueue bTold bStraight bLeast bPostsOf bSets bTotals ∧ Q z
set_option maxRecDepth 4000 in
theorem w_B_thirdsAtToldPosts_4 {p : Program} {l : Launch} {e : Env} {s : State} {m : MethodId} {args : Array Value} {below : List Frame} {meth : Method} {c : Code} {D : va_G} {cA : ClassId} {A : Nat → Prop} {a : Nat → Nat} {xStraight xLeast nPosts nThirds : Int} {nCorners nSums nArrows : Nat → Int} {aBehind aAhead : Int} {aCells aBefore aAfter : Nat → Int} {gCorners gLowest gFirst gFresh gThere : Int} {gRow gPlaces gOver gVia gQueue : Nat → Int} {bTold bStraight bLeast : Int} {bPostsOf bSets bTotals : Nat → Int} (C : XC p s m args meth c cX1_thirdsAtToldPosts 3 RX1 (some .int) D cA A) {Q : Int → Prop}  : ∀ (n : Nat) (x1 : Int) (x2 : Int), wp_B_thirdsAtToldPosts_4 Q nThirds bTold bPostsOf n x1 x2 → ∀ (H : Heap) (locs : List Loc) (ls : Array Slot), XH D A s (wX cA a xStraight xLeast nPosts nThirds nCorners nSums nArrows aBehind aAhead aCells aBefore aAfter gCorners gLowest gFirst gFresh gThere gRow gPlaces gOver gVia gQueue bTold bStraight bLeast bPostsOf bSets bTotals) H locs → lv_has ls 3 [(0, .ref (a 15)), (1, .int (J x1)), (2, .int (J x2))] → W p l e rm_B_thirdsAtToldPosts s m args below meth c H locs 0 0 (MQ below (va_Qi (po_B_thirdsAtToldPosts cA a xStraight xLeast nPosts nThirds nCorners nSums nArrows aBehind aAhead aCells aBefore aAfter gCorners gLowest gFirst gFresh gThere gRow gPlaces gOver gVia gQueue bTold bStraight bLeast bPostsOf bSets bTotals Q) (xB D cA A) A) args s 0 0 A) (F0 m 4 ls []) := by
  intro n
  induction n with
  | zero => intro x1 x2 h; exact (show False from h).elim
  | succ n hK4 =>
    intro x1 x2 h H locs ls hH hl
    have h : wp_B_thirdsAtToldPosts_4_b  (wp_B_thirdsAtToldPosts_4 Q nThirds bTold bPostsOf n) Q nThirds bTold bPostsOf  x1 x2 := h
    unfold wp_B_thirdsAtToldPosts_4_b at h
    refine j_iload_n C dX1_thirdsAtToldPosts_4 (lv_at hl 2 rfl) ?_
    refine j_aload_n C dX1_thirdsAtToldPosts_5 (lv_at hl 0 rfl) ?_
    refine xg_X1_net C hH dX1_thirdsAtToldPosts_6 ?_
    refine xcallV_i (As := []) (rest := [.int (J x2)]) (q0 := 1) C hH (fun sz => c_N_thirdCount h) xl_X1_71 rfl rfl ⟨rfl, rfl⟩ ⟨Nat.le_of_ble_eq_true rfl, Nat.le_of_ble_eq_true rfl⟩ hl.1 rfl rfl (Nat.le_of_ble_eq_true rfl) dX1_thirdsAtToldPosts_9 (fun r_ w_ H locs hw hH => ?_)
    obtain ⟨z_1, rfl, rfl, h⟩ := hw
    obtain ⟨g_2, h⟩ := h
    obtain ⟨g_3, h⟩ := h
    refine j_icmp_ge C 47 g_2 g_3 dX1_thirdsAtToldPosts_12 (by decide) (fun c_4 => ?_) (fun c_4 => ?_)
    · have h := h.1 c_4
      refine j_iload_n C dX1_thirdsAtToldPosts_47 (lv_at hl 1 rfl) ?_
      exact j_iret C hH ⟨_, rfl, rfl, h⟩ dX1_thirdsAtToldPosts_48
    · have h := h.2 c_4
      refine j_iload_n C dX1_thirdsAtToldPosts_15 (lv_at hl 1 rfl) ?_
      refine j_aload_n C dX1_thirdsAtToldPosts_16 (lv_at hl 0 rfl) ?_
      refine xg_X1_postsOf C hH dX1_thirdsAtToldPosts_17 ?_
      refine j_iload_n C dX1_thirdsAtToldPosts_20 (lv_at hl 2 rfl) ?_
      obtain ⟨b_5, h⟩ := h
      refine xa_bPostsOf C hH b_5 dX1_thirdsAtToldPosts_21 ?_
      refine j_aload_n C dX1_thirdsAtToldPosts_22 (lv_at hl 0 rfl) ?_
      refine xg_X1_toldPosts C hH dX1_thirdsAtToldPosts_23 ?_
      refine j_iconst C dX1_thirdsAtToldPosts_26 ?_
      refine j_ixor C dX1_thirdsAtToldPosts_27 ?_
      refine j_iand C dX1_thirdsAtToldPosts_28 ?_
      obtain ⟨g_6, h⟩ := h
      refine j_if_ne C 38 g_6 dX1_thirdsAtToldPosts_29 (by decide) (fun c_7 => ?_) (fun c_7 => ?_)
      · have h := h.2 c_7
        refine j_iconst C dX1_thirdsAtToldPosts_38 ?_
        refine j_ior C dX1_thirdsAtToldPosts_39 ?_
        refine j_istore_n (lv' := [(1, .int (J (jor x1 0))), (0, .ref (a 15)), (2, .int (J x2))]) C dX1_thirdsAtToldPosts_40 hl (by decide) rfl (fun ls hl => ?_)
        refine j_iinc (k := 2) (v := x2 + 1) (lv' := [(2, .int (J (x2 + 1))), (1, .int (J (jor x1 0))), (0, .ref (a 15))]) C dX1_thirdsAtToldPosts_41 hl rfl rfl (by decide) rfl (fun ls hl => ?_)
        refine j_goto C 4 dX1_thirdsAtToldPosts_44 (by decide) ?_
        exact hK4 (jor x1 0) (x2 + 1) h _ _ _ hH (lv_sub hl [2, 1, 0] rfl)
      · have h := h.1 c_7
        refine j_iconst C dX1_thirdsAtToldPosts_32 ?_
        refine j_iload_n C dX1_thirdsAtToldPosts_33 (lv_at hl 2 rfl) ?_
        refine j_ishl C dX1_thirdsAtToldPosts_34 ?_
        refine j_goto C 39 dX1_thirdsAtToldPosts_35 (by decide) ?_
        refine j_ior C dX1_thirdsAtToldPosts_39 ?_
        refine j_istore_n (lv' := [(1, .int (J (jor x1 (jshl 1 x2)))), (0, .ref (a 15)), (2, .int (J x2))]) C dX1_thirdsAtToldPosts_40 hl (by decide) rfl (fun ls hl => ?_)
        refine j_iinc (k := 2) (v := x2 + 1) (lv' := [(2, .int (J (x2 + 1))), (1, .int (J (jor x1 (jshl 1 x2)))), (0, .ref (a 15))]) C dX1_thirdsAtToldPosts_41 hl rfl rfl (by decide) rfl (fun ls hl => ?_)
        refine j_goto C 4 dX1_thirdsAtToldPosts_44 (by decide) ?_
        exact hK4 (jor x1 (jshl 1 x2)) (x2 + 1) h _ _ _ hH (lv_sub hl [2, 1, 0] rfl)
set_option maxRecDepth 4000 in
theorem c_B_thirdsAtToldPosts {l : Launch} {D : va_G} {cA : ClassId} {a : Nat → Nat} {sz : Nat} {xStraight xLeast nPosts nThirds : Int} {nCorners nSums nArrows : Nat → Int} {aBehind aAhead : Int} {aCells aBefore aAfter : Nat → Int} {gCorners gLowest gFirst gFresh gThere : Int} {gRow gPlaces gOver gVia gQueue : Nat → Int} {bTold bStraight bLeast : Int} {bPostsOf bSets bTotals : Nat → Int} {Q : Int → Prop} (h : wp_B_thirdsAtToldPosts  nThirds bTold bPostsOf Q) : Met l yX1_thirdsAtToldPosts (.code yX1_thirdsAtToldPosts cX1_thirdsAtToldPosts 3 (some .int) :: lw_ok) rm_B_thirdsAtToldPosts (xPre D cA sz [.ref (a 15)] (wX cA a xStraight xLeast nPosts nThirds nCorners nSums nArrows aBehind aAhead aCells aBefore aAfter gCorners gLowest gFirst gFresh gThere gRow gPlaces gOver gVia gQueue bTold bStraight bLeast bPostsOf bSets bTotals)) (va_Qi (po_B_thirdsAtToldPosts cA a xStraight xLeast nPosts nThirds nCorners nSums nArrows aBehind aAhead aCells aBefore aAfter gCorners gLowest gFirst gFresh gThere gRow gPlaces gOver gVia gQueue bTold bStraight bLeast bPostsOf bSets bTotals Q) (xB D cA (va_A (wX cA a xStraight xLeast nPosts nThirds nCorners nSums nArrows aBehind aAhead aCells aBefore aAfter gCorners gLowest gFirst gFresh gThere gRow gPlaces gOver gVia gQueue bTold bStraight bLeast bPostsOf bSets bTotals) sz)) (va_A (wX cA a xStraight xLeast nPosts nThirds nCorners nSums nArrows aBehind aAhead aCells aBefore aAfter gCorners gLowest gFirst gFresh gThere gRow gPlaces gOver gVia gQueue bTold bStraight bLeast bPostsOf bSets bTotals) sz)) 0 0 (va_A (wX cA a xStraight xLeast nPosts nThirds nCorners nSums nArrows aBehind aAhead aCells aBefore aAfter gCorners gLowest gFirst gFresh gThere gRow gPlaces gOver gVia gQueue bTold bStraight bLeast bPostsOf bSets bTotals) sz) := by
  refine xmet_i (by decide) (Nat.le_of_ble_eq_true rfl) ?_
  intro p e s m args below meth c A ls C hH hl
  have C : XC p s m args meth c cX1_thirdsAtToldPosts 3 RX1 (some .int) D cA A := C
  have hl : lv_has ls 3 [(0, .ref (a 15))] := hl
  unfold wp_B_thirdsAtToldPosts at h
  refine j_iconst C dX1_thirdsAtToldPosts_0 ?_
  refine j_istore_n (lv' := [(1, .int (J 0)), (0, .ref (a 15))]) C dX1_thirdsAtToldPosts_1 hl (by decide) rfl (fun ls hl => ?_)
  refine j_iconst C dX1_thirdsAtToldPosts_2 ?_
  refine j_istore_n (lv' := [(2, .int (J 0)), (1, .int (J 0)), (0, .ref (a 15))]) C dX1_thirdsAtToldPosts_3 hl (by decide) rfl (fun ls hl => ?_)
  obtain ⟨n_, h⟩ := h
  exact w_B_thirdsAtToldPosts_4 C  n_ 0 0 h _ _ _ hH (lv_sub hl [2, 1, 0] rfl)

abbrev po_N_isRound (cA : ClassId) (a : Nat → Nat) (xStraight xLeast nPosts nThirds : Int) (nCorners nSums nArrows : Nat → Int) (aBehind aAhead : Int) (aCells aBefore aAfter : Nat → Int) (gCorners gLowest gFirst gFresh gThere : Int) (gRow gPlaces gOver gVia gQueue : Nat → Int) (bTold bStraight bLeast : Int) (bPostsOf bSets bTotals : Nat → Int) (Q : Int → Prop) : Int32 → va_W → Prop := fun r w => ∃ z, r = J z ∧ w = wX cA a xStraight xLeast nPosts nThirds nCorners nSums nArrows aBehind aAhead aCells aBefore aAfter gCorners gLowest gFirst gFresh gThere gRow gPlaces gOver gVia gQueue bTold bStraight bLeast bPostsOf bSets bTotals ∧ Q z
set_option maxRecDepth 4000 in
theorem c_N_isRound {l : Launch} {D : va_G} {cA : ClassId} {a : Nat → Nat} {sz : Nat} {xStraight xLeast nPosts nThirds : Int} {nCorners nSums nArrows : Nat → Int} {aBehind aAhead : Int} {aCells aBefore aAfter : Nat → Int} {gCorners gLowest gFirst gFresh gThere : Int} {gRow gPlaces gOver gVia gQueue : Nat → Int} {bTold bStraight bLeast : Int} {bPostsOf bSets bTotals : Nat → Int} {x1 : Int} {Q : Int → Prop} (h : wp_N_isRound x1 nPosts nArrows Q) : Met l yX3_isRound (.code yX3_isRound cX3_isRound 3 (some .boolean) :: lw_ok) rm_N_isRound (xPre D cA sz [.ref (a 1), .int (J x1)] (wX cA a xStraight xLeast nPosts nThirds nCorners nSums nArrows aBehind aAhead aCells aBefore aAfter gCorners gLowest gFirst gFresh gThere gRow gPlaces gOver gVia gQueue bTold bStraight bLeast bPostsOf bSets bTotals)) (va_Qi (po_N_isRound cA a xStraight xLeast nPosts nThirds nCorners nSums nArrows aBehind aAhead aCells aBefore aAfter gCorners gLowest gFirst gFresh gThere gRow gPlaces gOver gVia gQueue bTold bStraight bLeast bPostsOf bSets bTotals Q) (xB D cA (va_A (wX cA a xStraight xLeast nPosts nThirds nCorners nSums nArrows aBehind aAhead aCells aBefore aAfter gCorners gLowest gFirst gFresh gThere gRow gPlaces gOver gVia gQueue bTold bStraight bLeast bPostsOf bSets bTotals) sz)) (va_A (wX cA a xStraight xLeast nPosts nThirds nCorners nSums nArrows aBehind aAhead aCells aBefore aAfter gCorners gLowest gFirst gFresh gThere gRow gPlaces gOver gVia gQueue bTold bStraight bLeast bPostsOf bSets bTotals) sz)) 0 0 (va_A (wX cA a xStraight xLeast nPosts nThirds nCorners nSums nArrows aBehind aAhead aCells aBefore aAfter gCorners gLowest gFirst gFresh gThere gRow gPlaces gOver gVia gQueue bTold bStraight bLeast bPostsOf bSets bTotals) sz) := by
  refine xmet_i (by decide) (Nat.le_of_ble_eq_true rfl) ?_
  intro p e s m args below meth c A ls C hH hl
  have C : XC p s m args meth c cX3_isRound 3 RX3 (some .boolean) D cA A := C
  have hl : lv_has ls 3 [(0, .ref (a 1)), (1, .int (J x1))] := hl
  unfold wp_N_isRound at h
  refine j_aload_n C dX3_isRound_0 (lv_at hl 0 rfl) ?_
  refine j_iload_n C dX3_isRound_1 (lv_at hl 1 rfl) ?_
  refine xcallV_i (As := [.int (J x1)]) (rest := []) (q0 := 1) C hH (fun sz => c_N_thirdsAt h) xl_X3_75 rfl rfl ⟨rfl, rfl⟩ ⟨Nat.le_of_ble_eq_true rfl, Nat.le_of_ble_eq_true rfl⟩ hl.1 rfl rfl (Nat.le_of_ble_eq_true rfl) dX3_isRound_2 (fun r_ w_ H locs hw hH => ?_)
  obtain ⟨z_1, rfl, rfl, h⟩ := hw
  refine j_istore_n (lv' := [(2, .int (J z_1)), (0, .ref (a 1)), (1, .int (J x1))]) C dX3_isRound_5 hl (by decide) rfl (fun ls hl => ?_)
  refine j_iload_n C dX3_isRound_6 (lv_at hl 0 rfl) ?_
  obtain ⟨g_2, h⟩ := h
  refine j_if_eq C 27 g_2 dX3_isRound_7 (by decide) (fun c_3 => ?_) (fun c_3 => ?_)
  · have h := h.1 c_3
    refine j_iconst C dX3_isRound_27 ?_
    exact j_zret C hH (Or.inl rfl) ⟨_, rfl, rfl, h⟩ dX3_isRound_28
  · have h := h.2 c_3
    refine j_aload_n C dX3_isRound_10 (lv_at hl 1 rfl) ?_
    refine j_iload_n C dX3_isRound_11 (lv_at hl 0 rfl) ?_
    refine j_iload_n C dX3_isRound_12 (lv_at hl 0 rfl) ?_
    refine j_ineg C dX3_isRound_13 ?_
    refine j_iand C dX3_isRound_14 ?_
    refine j_iload_n C dX3_isRound_15 (lv_at hl 2 rfl) ?_
    refine xcallV_i (As := [.int (J (jand z_1 (-z_1))), .int (J x1)]) (rest := []) (q0 := 1) C hH (fun sz => c_N_hangingWith h) xl_X3_78 rfl rfl ⟨rfl, rfl⟩ ⟨Nat.le_of_ble_eq_true rfl, Nat.le_of_ble_eq_true rfl⟩ hl.1 rfl rfl (Nat.le_of_ble_eq_true rfl) dX3_isRound_16 (fun r_ w_ H locs hw hH => ?_)
    obtain ⟨z_4, rfl, rfl, h⟩ := hw
    refine j_iload_n C dX3_isRound_19 (lv_at hl 0 rfl) ?_
    obtain ⟨g_5, h⟩ := h
    refine j_icmp_ne C 27 g_5 g_2 dX3_isRound_20 (by decide) (fun c_6 => ?_) (fun c_6 => ?_)
    · have h := h.2 c_6
      refine j_iconst C dX3_isRound_27 ?_
      exact j_zret C hH (Or.inl rfl) ⟨_, rfl, rfl, h⟩ dX3_isRound_28
    · have h := h.1 c_6
      refine j_iconst C dX3_isRound_23 ?_
      refine j_goto C 28 dX3_isRound_24 (by decide) ?_
      exact j_zret C hH (Or.inr rfl) ⟨_, rfl, rfl, h⟩ dX3_isRound_28
abbrev po_N_character (cA : ClassId) (a : Nat → Nat) (xStraight xLeast nPosts nThirds : Int) (nCorners nSums nArrows : Nat → Int) (aBehind aAhead : Int) (aCells aBefore aAfter : Nat → Int) (gCorners gLowest gFirst gFresh gThere : Int) (gRow gPlaces gOver gVia gQueue : Nat → Int) (bTold bStraight bLeast : Int) (bPostsOf bSets bTotals : Nat → Int) (Q : Int → Prop) : Int32 → va_W → Prop := fun r w => ∃ z, r = J z ∧ w = wX cA a xStraight xLeast nPosts nThirds nCorners nSums nArrows aBehind aAhead aCells aBefore aAfter gCorners gLowest gFirst gFresh gThere gRow gPlaces gOver gVia gQueue bTold bStraight bLeast bPostsOf bSets bTotals ∧ Q z
set_option maxRecDepth 4000 in
theorem w_N_character_4 {p : Program} {l : Launch} {e : Env} {s : State} {m : MethodId} {args : Array Value} {below : List Frame} {meth : Method} {c : Code} {D : va_G} {cA : ClassId} {A : Nat → Prop} {a : Nat → Nat} {xStraight xLeast nPosts nThirds : Int} {nCorners nSums nArrows : Nat → Int} {aBehind aAhead : Int} {aCells aBefore aAfter : Nat → Int} {gCorners gLowest gFirst gFresh gThere : Int} {gRow gPlaces gOver gVia gQueue : Nat → Int} {bTold bStraight bLeast : Int} {bPostsOf bSets bTotals : Nat → Int} (C : XC p s m args meth c cX3_character 3 RX3 (some .int) D cA A) {Q : Int → Prop}  : ∀ (n : Nat) (x1 : Int) (x2 : Int), wp_N_character_4 Q nPosts nThirds nCorners nArrows n x1 x2 → ∀ (H : Heap) (locs : List Loc) (ls : Array Slot), XH D A s (wX cA a xStraight xLeast nPosts nThirds nCorners nSums nArrows aBehind aAhead aCells aBefore aAfter gCorners gLowest gFirst gFresh gThere gRow gPlaces gOver gVia gQueue bTold bStraight bLeast bPostsOf bSets bTotals) H locs → lv_has ls 3 [(0, .ref (a 1)), (1, .int (J x1)), (2, .int (J x2))] → W p l e rm_N_character s m args below meth c H locs 0 0 (MQ below (va_Qi (po_N_character cA a xStraight xLeast nPosts nThirds nCorners nSums nArrows aBehind aAhead aCells aBefore aAfter gCorners gLowest gFirst gFresh gThere gRow gPlaces gOver gVia gQueue bTold bStraight bLeast bPostsOf bSets bTotals Q) (xB D cA A) A) args s 0 0 A) (F0 m 4 ls []) := by
  intro n
  induction n with
  | zero => intro x1 x2 h; exact (show False from h).elim
  | succ n hK4 =>
    intro x1 x2 h H locs ls hH hl
    have h : wp_N_character_4_b  (wp_N_character_4 Q nPosts nThirds nCorners nArrows n) Q nPosts nThirds nCorners nArrows  x1 x2 := h
    unfold wp_N_character_4_b at h
    refine j_iload_n C dX3_character_4 (lv_at hl 2 rfl) ?_
    refine j_aload_n C dX3_character_5 (lv_at hl 0 rfl) ?_
    refine xg_X3_posts C hH dX3_character_6 ?_
    obtain ⟨g_1, h⟩ := h
    obtain ⟨g_2, h⟩ := h
    refine j_icmp_ge C 29 g_1 g_2 dX3_character_9 (by decide) (fun c_3 => ?_) (fun c_3 => ?_)
    · have h := h.1 c_3
      refine j_iload_n C dX3_character_29 (lv_at hl 1 rfl) ?_
      refine j_aload_n C dX3_character_30 (lv_at hl 0 rfl) ?_
      refine j_iconst C dX3_character_31 ?_
      refine xcallV_i (As := [.int (J 1)]) (rest := [.int (J x1)]) (q0 := 1) C hH (fun sz => c_N_sidesWith h) xl_X3_81 rfl rfl ⟨rfl, rfl⟩ ⟨Nat.le_of_ble_eq_true rfl, Nat.le_of_ble_eq_true rfl⟩ hl.1 rfl rfl (Nat.le_of_ble_eq_true rfl) dX3_character_32 (fun r_ w_ H locs hw hH => ?_)
      obtain ⟨z_4, rfl, rfl, h⟩ := hw
      refine j_isub C dX3_character_35 ?_
      refine j_aload_n C dX3_character_36 (lv_at hl 0 rfl) ?_
      refine j_iconst C dX3_character_37 ?_
      refine xcallV_i (As := [.int (J 2)]) (rest := [.int (J (x1 - z_4))]) (q0 := 1) C hH (fun sz => c_N_sidesWith h) xl_X3_81 rfl rfl ⟨rfl, rfl⟩ ⟨Nat.le_of_ble_eq_true rfl, Nat.le_of_ble_eq_true rfl⟩ hl.1 rfl rfl (Nat.le_of_ble_eq_true rfl) dX3_character_38 (fun r_ w_ H locs hw hH => ?_)
      obtain ⟨z_5, rfl, rfl, h⟩ := hw
      refine j_isub C dX3_character_41 ?_
      refine j_aload_n C dX3_character_42 (lv_at hl 0 rfl) ?_
      refine xg_X3_thirds C hH dX3_character_43 ?_
      refine j_iadd C dX3_character_46 ?_
      exact j_iret C hH ⟨_, rfl, rfl, h⟩ dX3_character_47
    · have h := h.2 c_3
      refine j_aload_n C dX3_character_12 (lv_at hl 0 rfl) ?_
      refine j_iload_n C dX3_character_13 (lv_at hl 2 rfl) ?_
      refine xcallV_i (As := [.int (J x2)]) (rest := []) (q0 := 1) C hH (fun sz => c_N_cornersAt h) xl_X3_71 rfl rfl ⟨rfl, rfl⟩ ⟨Nat.le_of_ble_eq_true rfl, Nat.le_of_ble_eq_true rfl⟩ hl.1 rfl rfl (Nat.le_of_ble_eq_true rfl) dX3_character_14 (fun r_ w_ H locs hw hH => ?_)
      obtain ⟨z_6, rfl, rfl, h⟩ := hw
      obtain ⟨g_7, h⟩ := h
      refine j_if_le C 23 g_7 dX3_character_17 (by decide) (fun c_8 => ?_) (fun c_8 => ?_)
      · have h := h.1 c_8
        refine j_iinc (k := 2) (v := x2 + 1) (lv' := [(2, .int (J (x2 + 1))), (0, .ref (a 1)), (1, .int (J x1))]) C dX3_character_23 hl rfl rfl (by decide) rfl (fun ls hl => ?_)
        refine j_goto C 4 dX3_character_26 (by decide) ?_
        exact hK4 x1 (x2 + 1) h _ _ _ hH (lv_sub hl [1, 2, 0] rfl)
      · have h := h.2 c_8
        refine j_iinc (k := 1) (v := x1 + 1) (lv' := [(1, .int (J (x1 + 1))), (0, .ref (a 1)), (2, .int (J x2))]) C dX3_character_20 hl rfl rfl (by decide) rfl (fun ls hl => ?_)
        refine j_iinc (k := 2) (v := x2 + 1) (lv' := [(2, .int (J (x2 + 1))), (1, .int (J (x1 + 1))), (0, .ref (a 1))]) C dX3_character_23 hl rfl rfl (by decide) rfl (fun ls hl => ?_)
        refine j_goto C 4 dX3_character_26 (by decide) ?_
        exact hK4 (x1 + 1) (x2 + 1) h _ _ _ hH (lv_sub hl [2, 1, 0] rfl)
set_option maxRecDepth 4000 in
theorem c_N_character {l : Launch} {D : va_G} {cA : ClassId} {a : Nat → Nat} {sz : Nat} {xStraight xLeast nPosts nThirds : Int} {nCorners nSums nArrows : Nat → Int} {aBehind aAhead : Int} {aCells aBefore aAfter : Nat → Int} {gCorners gLowest gFirst gFresh gThere : Int} {gRow gPlaces gOver gVia gQueue : Nat → Int} {bTold bStraight bLeast : Int} {bPostsOf bSets bTotals : Nat → Int} {Q : Int → Prop} (h : wp_N_character  nPosts nThirds nCorners nArrows Q) : Met l yX3_character (.code yX3_character cX3_character 3 (some .int) :: lw_ok) rm_N_character (xPre D cA sz [.ref (a 1)] (wX cA a xStraight xLeast nPosts nThirds nCorners nSums nArrows aBehind aAhead aCells aBefore aAfter gCorners gLowest gFirst gFresh gThere gRow gPlaces gOver gVia gQueue bTold bStraight bLeast bPostsOf bSets bTotals)) (va_Qi (po_N_character cA a xStraight xLeast nPosts nThirds nCorners nSums nArrows aBehind aAhead aCells aBefore aAfter gCorners gLowest gFirst gFresh gThere gRow gPlaces gOver gVia gQueue bTold bStraight bLeast bPostsOf bSets bTotals Q) (xB D cA (va_A (wX cA a xStraight xLeast nPosts nThirds nCorners nSums nArrows aBehind aAhead aCells aBefore aAfter gCorners gLowest gFirst gFresh gThere gRow gPlaces gOver gVia gQueue bTold bStraight bLeast bPostsOf bSets bTotals) sz)) (va_A (wX cA a xStraight xLeast nPosts nThirds nCorners nSums nArrows aBehind aAhead aCells aBefore aAfter gCorners gLowest gFirst gFresh gThere gRow gPlaces gOver gVia gQueue bTold bStraight bLeast bPostsOf bSets bTotals) sz)) 0 0 (va_A (wX cA a xStraight xLeast nPosts nThirds nCorners nSums nArrows aBehind aAhead aCells aBefore aAfter gCorners gLowest gFirst gFresh gThere gRow gPlaces gOver gVia gQueue bTold bStraight bLeast bPostsOf bSets bTotals) sz) := by
  refine xmet_i (by decide) (Nat.le_of_ble_eq_true rfl) ?_
  intro p e s m args below meth c A ls C hH hl
  have C : XC p s m args meth c cX3_character 3 RX3 (some .int) D cA A := C
  have hl : lv_has ls 3 [(0, .ref (a 1))] := hl
  unfold wp_N_character at h
  refine j_iconst C dX3_character_0 ?_
  refine j_istore_n (lv' := [(1, .int (J 0)), (0, .ref (a 1))]) C dX3_character_1 hl (by decide) rfl (fun ls hl => ?_)
  refine j_iconst C dX3_character_2 ?_
  refine j_istore_n (lv' := [(2, .int (J 0)), (1, .int (J 0)), (0, .ref (a 1))]) C dX3_character_3 hl (by decide) rfl (fun ls hl => ?_)
  obtain ⟨n_, h⟩ := h
  exact w_N_character_4 C  n_ 0 0 h _ _ _ hH (lv_sub hl [2, 1, 0] rfl)
abbrev po_N_pieces (cA : ClassId) (a : Nat → Nat) (xStraight xLeast nPosts nThirds : Int) (nCorners nSums nArrows : Nat → Int) (aBehind aAhead : Int) (aCells aBefore aAfter : Nat → Int) (gCorners gLowest gFirst gFresh gThere : Int) (gRow gPlaces gOver gVia gQueue : Nat → Int) (bTold bStraight bLeast : Int) (bPostsOf bSets bTotals : Nat → Int) (Q : Int → Prop) : Int32 → va_W → Prop := fun r w => ∃ z, r = J z ∧ w = wX cA a xStraight xLeast nPosts nThirds nCorners nSums nArrows aBehind aAhead aCells aBefore aAfter gCorners gLowest gFirst gFresh gThere gRow gPlaces gOver gVia gQueue bTold bStraight bLeast bPostsOf bSets bTotals ∧ Q z
set_option maxRecDepth 4000 in
theorem w_N_pieces_13 {p : Program} {l : Launch} {e : Env} {s : State} {m : MethodId} {args : Array Value} {below : List Frame} {meth : Method} {c : Code} {D : va_G} {cA : ClassId} {A : Nat → Prop} {a : Nat → Nat} {xStraight xLeast nPosts nThirds : Int} {nCorners nSums nArrows : Nat → Int} {aBehind aAhead : Int} {aCells aBefore aAfter : Nat → Int} {gCorners gLowest gFirst gFresh gThere : Int} {gRow gPlaces gOver gVia gQueue : Nat → Int} {bTold bStraight bLeast : Int} {bPostsOf bSets bTotals : Nat → Int} (C : XC p s m args meth c cX3_pieces 4 RX3 (some .int) D cA A) {Q : Int → Prop}  : ∀ (n : Nat) (x1 : Int) (x2 : Int) (x3 : Int), wp_N_pieces_13 Q nPosts nArrows n x1 x2 x3 → ∀ (H : Heap) (locs : List Loc) (ls : Array Slot), XH D A s (wX cA a xStraight xLeast nPosts nThirds nCorners nSums nArrows aBehind aAhead aCells aBefore aAfter gCorners gLowest gFirst gFresh gThere gRow gPlaces gOver gVia gQueue bTold bStraight bLeast bPostsOf bSets bTotals) H locs → lv_has ls 4 [(0, .ref (a 1)), (1, .int (J x1)), (2, .int (J x2)), (3, .int (J x3))] → W p l e rm_N_pieces s m args below meth c H locs 0 0 (MQ below (va_Qi (po_N_pieces cA a xStraight xLeast nPosts nThirds nCorners nSums nArrows aBehind aAhead aCells aBefore aAfter gCorners gLowest gFirst gFresh gThere gRow gPlaces gOver gVia gQueue bTold bStraight bLeast bPostsOf bSets bTotals Q) (xB D cA A) A) args s 0 0 A) (F0 m 13 ls []) := by
  intro n
  induction n with
  | zero => intro x1 x2 x3 h; exact (show False from h).elim
  | succ n hK13 =>
    intro x1 x2 x3 h H locs ls hH hl
    have h : wp_N_pieces_13_b  (wp_N_pieces_13 Q nPosts nArrows n) Q nPosts nArrows  x1 x2 x3 := h
    unfold wp_N_pieces_13_b at h
    refine j_iload_n C dX3_pieces_13 (lv_at hl 3 rfl) ?_
    refine j_bipush C (by decide +kernel) dX3_pieces_14 ?_
    obtain ⟨g_1, h⟩ := h
    refine j_icmp_ge C 46 g_1 (by unfold jR; decide) dX3_pieces_16 (by decide) (fun c_2 => ?_) (fun c_2 => ?_)
    · have h := h.1 c_2
      refine j_iload_n C dX3_pieces_46 (lv_at hl 1 rfl) ?_
      exact j_iret C hH ⟨_, rfl, rfl, h⟩ dX3_pieces_47
    · have h := h.2 c_2
      refine j_iload_n C dX3_pieces_19 (lv_at hl 2 rfl) ?_
      obtain ⟨g_3, h⟩ := h
      refine j_if_eq C 46 g_3 dX3_pieces_20 (by decide) (fun c_4 => ?_) (fun c_4 => ?_)
      · have h := h.1 c_4
        refine j_iload_n C dX3_pieces_46 (lv_at hl 1 rfl) ?_
        exact j_iret C hH ⟨_, rfl, rfl, h⟩ dX3_pieces_47
      · have h := h.2 c_4
        refine j_iload_n C dX3_pieces_23 (lv_at hl 2 rfl) ?_
        refine j_aload_n C dX3_pieces_24 (lv_at hl 0 rfl) ?_
        refine j_iload_n C dX3_pieces_25 (lv_at hl 2 rfl) ?_
        refine j_iload_n C dX3_pieces_26 (lv_at hl 2 rfl) ?_
        refine j_ineg C dX3_pieces_27 ?_
        refine j_iand C dX3_pieces_28 ?_
        refine j_iconst C dX3_pieces_29 ?_
        refine xcallV_i (As := [.int (J (jand x2 (-x2))), .int (J (-1))]) (rest := [.int (J x2)]) (q0 := 1) C hH (fun sz => c_N_hangingWith h) xl_X3_78 rfl rfl ⟨rfl, rfl⟩ ⟨Nat.le_of_ble_eq_true rfl, Nat.le_of_ble_eq_true rfl⟩ hl.1 rfl rfl (Nat.le_of_ble_eq_true rfl) dX3_pieces_30 (fun r_ w_ H locs hw hH => ?_)
        obtain ⟨z_5, rfl, rfl, h⟩ := hw
        refine j_iconst C dX3_pieces_33 ?_
        refine j_ixor C dX3_pieces_34 ?_
        refine j_iand C dX3_pieces_35 ?_
        refine j_istore_n (lv' := [(2, .int (J (jand x2 (jxor z_5 (-1))))), (0, .ref (a 1)), (1, .int (J x1)), (3, .int (J x3))]) C dX3_pieces_36 hl (by decide) rfl (fun ls hl => ?_)
        refine j_iinc (k := 2) (v := x1 + 1) (lv' := [(1, .int (J (x1 + 1))), (2, .int (J (jand x2 (jxor z_5 (-1))))), (0, .ref (a 1)), (3, .int (J x3))]) C dX3_pieces_37 hl rfl rfl (by decide) rfl (fun ls hl => ?_)
        refine j_iinc (k := 3) (v := x3 + 1) (lv' := [(3, .int (J (x3 + 1))), (1, .int (J (x1 + 1))), (2, .int (J (jand x2 (jxor z_5 (-1))))), (0, .ref (a 1))]) C dX3_pieces_40 hl rfl rfl (by decide) rfl (fun ls hl => ?_)
        refine j_goto C 13 dX3_pieces_43 (by decide) ?_
        exact hK13 (x1 + 1) (jand x2 (jxor z_5 (-1))) (x3 + 1) h _ _ _ hH (lv_sub hl [3, 1, 2, 0] rfl)
set_option maxRecDepth 4000 in
theorem c_N_pieces {l : Launch} {D : va_G} {cA : ClassId} {a : Nat → Nat} {sz : Nat} {xStraight xLeast nPosts nThirds : Int} {nCorners nSums nArrows : Nat → Int} {aBehind aAhead : Int} {aCells aBefore aAfter : Nat → Int} {gCorners gLowest gFirst gFresh gThere : Int} {gRow gPlaces gOver gVia gQueue : Nat → Int} {bTold bStraight bLeast : Int} {bPostsOf bSets bTotals : Nat → Int} {Q : Int → Prop} (h : wp_N_pieces  nPosts nThirds nArrows Q) : Met l yX3_pieces (.code yX3_pieces cX3_pieces 4 (some .int) :: lw_ok) rm_N_pieces (xPre D cA sz [.ref (a 1)] (wX cA a xStraight xLeast nPosts nThirds nCorners nSums nArrows aBehind aAhead aCells aBefore aAfter gCorners gLowest gFirst gFresh gThere gRow gPlaces gOver gVia gQueue bTold bStraight bLeast bPostsOf bSets bTotals)) (va_Qi (po_N_pieces cA a xStraight xLeast nPosts nThirds nCorners nSums nArrows aBehind aAhead aCells aBefore aAfter gCorners gLowest gFirst gFresh gThere gRow gPlaces gOver gVia gQueue bTold bStraight bLeast bPostsOf bSets bTotals Q) (xB D cA (va_A (wX cA a xStraight xLeast nPosts nThirds nCorners nSums nArrows aBehind aAhead aCells aBefore aAfter gCorners gLowest gFirst gFresh gThere gRow gPlaces gOver gVia gQueue bTold bStraight bLeast bPostsOf bSets bTotals) sz)) (va_A (wX cA a xStraight xLeast nPosts nThirds nCorners nSums nArrows aBehind aAhead aCells aBefore aAfter gCorners gLowest gFirst gFresh gThere gRow gPlaces gOver gVia gQueue bTold bStraight bLeast bPostsOf bSets bTotals) sz)) 0 0 (va_A (wX cA a xStraight xLeast nPosts nThirds nCorners nSums nArrows aBehind aAhead aCells aBefore aAfter gCorners gLowest gFirst gFresh gThere gRow gPlaces gOver gVia gQueue bTold bStraight bLeast bPostsOf bSets bTotals) sz) := by
  refine xmet_i (by decide) (Nat.le_of_ble_eq_true rfl) ?_
  intro p e s m args below meth c A ls C hH hl
  have C : XC p s m args meth c cX3_pieces 4 RX3 (some .int) D cA A := C
  have hl : lv_has ls 4 [(0, .ref (a 1))] := hl
  unfold wp_N_pieces at h
  refine j_iconst C dX3_pieces_0 ?_
  refine j_istore_n (lv' := [(1, .int (J 0)), (0, .ref (a 1))]) C dX3_pieces_1 hl (by decide) rfl (fun ls hl => ?_)
  refine j_iconst C dX3_pieces_2 ?_
  refine j_aload_n C dX3_pieces_3 (lv_at hl 1 rfl) ?_
  refine xg_X3_thirds C hH dX3_pieces_4 ?_
  refine j_ishl C dX3_pieces_7 ?_
  refine j_iconst C dX3_pieces_8 ?_
  refine j_isub C dX3_pieces_9 ?_
  refine j_istore_n (lv' := [(2, .int (J ((jshl 1 nThirds) - 1))), (1, .int (J 0)), (0, .ref (a 1))]) C dX3_pieces_10 hl (by decide) rfl (fun ls hl => ?_)
  refine j_iconst C dX3_pieces_11 ?_
  refine j_istore_n (lv' := [(3, .int (J 0)), (2, .int (J ((jshl 1 nThirds) - 1))), (1, .int (J 0)), (0, .ref (a 1))]) C dX3_pieces_12 hl (by decide) rfl (fun ls hl => ?_)
  obtain ⟨n_, h⟩ := h
  exact w_N_pieces_13 C  n_ 0 ((jshl 1 nThirds) - 1) 0 h _ _ _ hH (lv_sub hl [3, 2, 1, 0] rfl)
abbrev po_X_posts (cA : ClassId) (a : Nat → Nat) (xStraight xLeast : Int) (nCorners aCells aBefore aAfter : Nat → Int) (gCorners gLowest gFirst gThere : Int) (gRow gPlaces gOver gVia gQueue : Nat → Int) (bTold bStraight bLeast : Int) (bPostsOf bSets bTotals : Nat → Int) (Q : Int → Int → Int → (Nat → Int) → (Nat → Int) → Int → Int → Int → Prop) : Int32 → va_W → Prop := fun r w => ∃ z nPosts' nThirds' nSums' nArrows' aBehind' aAhead' gFresh', r = J z ∧ w = wX cA a xStraight xLeast nPosts' nThirds' nCorners nSums' nArrows' aBehind' aAhead' aCells aBefore aAfter gCorners gLowest gFirst gFresh' gThere gRow gPlaces gOver gVia gQueue bTold bStraight bLeast bPostsOf bSets bTotals ∧ Q z nPosts' nThirds' nSums' nArrows' aBehind' aAhead' gFresh'
set_option maxRecDepth 4000 in
theorem c_X_posts {l : Launch} {D : va_G} {cA : ClassId} {a : Nat → Nat} {sz : Nat} {xStraight xLeast nPosts nThirds : Int} {nCorners nSums nArrows : Nat → Int} {aBehind aAhead : Int} {aCells aBefore aAfter : Nat → Int} {gCorners gLowest gFirst gFresh gThere : Int} {gRow gPlaces gOver gVia gQueue : Nat → Int} {bTold bStraight bLeast : Int} {bPostsOf bSets bTotals : Nat → Int} {x1 : Int} {Q : Int → Int → Int → (Nat → Int) → (Nat → Int) → Int → Int → Int → Prop} (h : wp_X_posts x1 nPosts nThirds nCorners nSums nArrows aBehind aAhead gFresh Q) : Met l yX4_posts (.code yX4_posts cX4_posts 3 (some .int) :: lw_ok) rm_X_posts (xPre D cA sz [.ref (a 0), .int (J x1)] (wX cA a xStraight xLeast nPosts nThirds nCorners nSums nArrows aBehind aAhead aCells aBefore aAfter gCorners gLowest gFirst gFresh gThere gRow gPlaces gOver gVia gQueue bTold bStraight bLeast bPostsOf bSets bTotals)) (va_Qi (po_X_posts cA a xStraight xLeast nCorners aCells aBefore aAfter gCorners gLowest gFirst gThere gRow gPlaces gOver gVia gQueue bTold bStraight bLeast bPostsOf bSets bTotals Q) (xB D cA (va_A (wX cA a xStraight xLeast nPosts nThirds nCorners nSums nArrows aBehind aAhead aCells aBefore aAfter gCorners gLowest gFirst gFresh gThere gRow gPlaces gOver gVia gQueue bTold bStraight bLeast bPostsOf bSets bTotals) sz)) (va_A (wX cA a xStraight xLeast nPosts nThirds nCorners nSums nArrows aBehind aAhead aCells aBefore aAfter gCorners gLowest gFirst gFresh gThere gRow gPlaces gOver gVia gQueue bTold bStraight bLeast bPostsOf bSets bTotals) sz)) 0 0 (va_A (wX cA a xStraight xLeast nPosts nThirds nCorners nSums nArrows aBehind aAhead aCells aBefore aAfter gCorners gLowest gFirst gFresh gThere gRow gPlaces gOver gVia gQueue bTold bStraight bLeast bPostsOf bSets bTotals) sz) := by
  refine xmet_i (by decide) (Nat.le_of_ble_eq_true rfl) ?_
  intro p e s m args below meth c A ls C hH hl
  have C : XC p s m args meth c cX4_posts 3 RX4 (some .int) D cA A := C
  have hl : lv_has ls 3 [(0, .ref (a 0)), (1, .int (J x1))] := hl
  unfold wp_X_posts at h
  refine j_iload_n C dX4_posts_0 (lv_at hl 1 rfl) ?_
  refine j_iconst C dX4_posts_1 ?_
  obtain ⟨g_1, h⟩ := h
  refine j_icmp_lt C 11 g_1 (by unfold jR; decide) dX4_posts_2 (by decide) (fun c_2 => ?_) (fun c_2 => ?_)
  · have h := h.1 c_2
    refine j_bipush C (by decide +kernel) dX4_posts_11 ?_
    exact j_iret C hH ⟨_, _, _, _, _, _, _, _, rfl, rfl, h⟩ dX4_posts_13
  · have h := h.2 c_2
    refine j_iload_n C dX4_posts_5 (lv_at hl 1 rfl) ?_
    refine j_bipush C (by decide +kernel) dX4_posts_6 ?_
    refine j_icmp_le C 14 g_1 (by unfold jR; decide) dX4_posts_8 (by decide) (fun c_3 => ?_) (fun c_3 => ?_)
    · have h := h.1 c_3
      refine j_aload_n C dX4_posts_14 (lv_at hl 0 rfl) ?_
      refine xg_X4_net C hH dX4_posts_15 ?_
      refine xcallV_i (As := []) (rest := []) (q0 := 1) C hH (fun sz => c_N_postCount h) xl_X4_46 rfl rfl ⟨rfl, rfl⟩ ⟨Nat.le_of_ble_eq_true rfl, Nat.le_of_ble_eq_true rfl⟩ hl.1 rfl rfl (Nat.le_of_ble_eq_true rfl) dX4_posts_18 (fun r_ w_ H locs hw hH => ?_)
      obtain ⟨z_4, rfl, rfl, h⟩ := hw
      refine j_istore_n (lv' := [(2, .int (J z_4)), (0, .ref (a 0)), (1, .int (J x1))]) C dX4_posts_21 hl (by decide) rfl (fun ls hl => ?_)
      refine j_aload_n C dX4_posts_22 (lv_at hl 1 rfl) ?_
      refine xg_X4_net C hH dX4_posts_23 ?_
      refine j_iload_n C dX4_posts_26 (lv_at hl 2 rfl) ?_
      refine xcallV_v (As := [.int (J x1)]) (rest := []) (q0 := 1) C hH (fun sz => c_N_beginAnew h) xl_X4_50 rfl rfl ⟨rfl, rfl⟩ ⟨Nat.le_of_ble_eq_true rfl, Nat.le_of_ble_eq_true rfl⟩ hl.1 rfl rfl (Nat.le_of_ble_eq_true rfl) dX4_posts_27 (fun w_ H locs hw hH => ?_)
      obtain ⟨nPosts_5, nThirds_6, nSums_7, nArrows_8, rfl, h⟩ := hw
      refine j_aload_n C dX4_posts_30 (lv_at hl 1 rfl) ?_
      refine xg_X4_acts C hH dX4_posts_31 ?_
      refine xcallV_v (As := []) (rest := []) (q0 := 5) C hH (fun sz => c_A_forgetAll h) xl_X4_54 rfl rfl ⟨rfl, rfl⟩ ⟨Nat.le_of_ble_eq_true rfl, Nat.le_of_ble_eq_true rfl⟩ hl.1 rfl rfl (Nat.le_of_ble_eq_true rfl) dX4_posts_34 (fun w_ H locs hw hH => ?_)
      obtain ⟨aBehind_9, aAhead_10, rfl, h⟩ := hw
      refine j_aload_n C dX4_posts_37 (lv_at hl 1 rfl) ?_
      refine xg_X4_giver C hH dX4_posts_38 ?_
      refine xcallV_v (As := []) (rest := []) (q0 := 9) C hH (fun sz => c_G_forgetRow h) xl_X4_57 rfl rfl ⟨rfl, rfl⟩ ⟨Nat.le_of_ble_eq_true rfl, Nat.le_of_ble_eq_true rfl⟩ hl.1 rfl rfl (Nat.le_of_ble_eq_true rfl) dX4_posts_41 (fun w_ H locs hw hH => ?_)
      obtain ⟨gFresh_11, rfl, h⟩ := hw
      refine j_iload_n C dX4_posts_44 (lv_at hl 0 rfl) ?_
      exact j_iret C hH ⟨_, _, _, _, _, _, _, _, rfl, rfl, h⟩ dX4_posts_45
    · have h := h.2 c_3
      refine j_bipush C (by decide +kernel) dX4_posts_11 ?_
      exact j_iret C hH ⟨_, _, _, _, _, _, _, _, rfl, rfl, h⟩ dX4_posts_13
abbrev po_X_goForward (cA : ClassId) (a : Nat → Nat) (xStraight xLeast nPosts : Int) (aCells aBefore aAfter : Nat → Int) (gCorners gLowest gFirst gThere : Int) (gRow gPlaces gOver gVia gQueue : Nat → Int) (bTold bStraight bLeast : Int) (bPostsOf bSets bTotals : Nat → Int) (Q : Int → (Nat → Int) → (Nat → Int) → (Nat → Int) → Int → Int → Int → Prop) : va_W → Prop := fun w => ∃ nThirds' nCorners' nSums' nArrows' aBehind' aAhead' gFresh', w = wX cA a xStraight xLeast nPosts nThirds' nCorners' nSums' nArrows' aBehind' aAhead' aCells aBefore aAfter gCorners gLowest gFirst gFresh' gThere gRow gPlaces gOver gVia gQueue bTold bStraight bLeast bPostsOf bSets bTotals ∧ Q nThirds' nCorners' nSums' nArrows' aBehind' aAhead' gFresh'
set_option maxRecDepth 4000 in
theorem c_X_goForward {l : Launch} {D : va_G} {cA : ClassId} {a : Nat → Nat} {sz : Nat} {xStraight xLeast nPosts nThirds : Int} {nCorners nSums nArrows : Nat → Int} {aBehind aAhead : Int} {aCells aBefore aAfter : Nat → Int} {gCorners gLowest gFirst gFresh gThere : Int} {gRow gPlaces gOver gVia gQueue : Nat → Int} {bTold bStraight bLeast : Int} {bPostsOf bSets bTotals : Nat → Int} {Q : Int → (Nat → Int) → (Nat → Int) → (Nat → Int) → Int → Int → Int → Prop} (h : wp_X_goForward  nThirds nCorners nSums nArrows aBehind aAhead aCells aAfter gFresh Q) : Met l yX4_goForward (.code yX4_goForward cX4_goForward 1 none :: lw_ok) rm_X_goForward (xPre D cA sz [.ref (a 0)] (wX cA a xStraight xLeast nPosts nThirds nCorners nSums nArrows aBehind aAhead aCells aBefore aAfter gCorners gLowest gFirst gFresh gThere gRow gPlaces gOver gVia gQueue bTold bStraight bLeast bPostsOf bSets bTotals)) (va_Qv (po_X_goForward cA a xStraight xLeast nPosts aCells aBefore aAfter gCorners gLowest gFirst gThere gRow gPlaces gOver gVia gQueue bTold bStraight bLeast bPostsOf bSets bTotals Q) (xB D cA (va_A (wX cA a xStraight xLeast nPosts nThirds nCorners nSums nArrows aBehind aAhead aCells aBefore aAfter gCorners gLowest gFirst gFresh gThere gRow gPlaces gOver gVia gQueue bTold bStraight bLeast bPostsOf bSets bTotals) sz)) (va_A (wX cA a xStraight xLeast nPosts nThirds nCorners nSums nArrows aBehind aAhead aCells aBefore aAfter gCorners gLowest gFirst gFresh gThere gRow gPlaces gOver gVia gQueue bTold bStraight bLeast bPostsOf bSets bTotals) sz)) 0 0 (va_A (wX cA a xStraight xLeast nPosts nThirds nCorners nSums nArrows aBehind aAhead aCells aBefore aAfter gCorners gLowest gFirst gFresh gThere gRow gPlaces gOver gVia gQueue bTold bStraight bLeast bPostsOf bSets bTotals) sz) := by
  refine xmet_v (by decide) (Nat.le_of_ble_eq_true rfl) ?_
  intro p e s m args below meth c A ls C hH hl
  have C : XC p s m args meth c cX4_goForward 1 RX4 none D cA A := C
  have hl : lv_has ls 1 [(0, .ref (a 0))] := hl
  unfold wp_X_goForward at h
  refine j_aload_n C dX4_goForward_0 (lv_at hl 0 rfl) ?_
  refine xg_X4_acts C hH dX4_goForward_1 ?_
  refine j_aload_n C dX4_goForward_4 (lv_at hl 0 rfl) ?_
  refine xg_X4_net C hH dX4_goForward_5 ?_
  refine xcallV_v (As := [.ref (a 1)]) (rest := []) (q0 := 5) C hH (fun sz => c_A_forward h) xl_X4_173 rfl rfl ⟨rfl, rfl⟩ ⟨Nat.le_of_ble_eq_true rfl, Nat.le_of_ble_eq_true rfl⟩ hl.1 rfl rfl (Nat.le_of_ble_eq_true rfl) dX4_goForward_8 (fun w_ H locs hw hH => ?_)
  obtain ⟨nThirds_1, nCorners_2, nSums_3, nArrows_4, aBehind_5, aAhead_6, rfl, h⟩ := hw
  refine j_aload_n C dX4_goForward_11 (lv_at hl 0 rfl) ?_
  refine xg_X4_giver C hH dX4_goForward_12 ?_
  refine xcallV_v (As := []) (rest := []) (q0 := 9) C hH (fun sz => c_G_forgetRow h) xl_X4_57 rfl rfl ⟨rfl, rfl⟩ ⟨Nat.le_of_ble_eq_true rfl, Nat.le_of_ble_eq_true rfl⟩ hl.1 rfl rfl (Nat.le_of_ble_eq_true rfl) dX4_goForward_15 (fun w_ H locs hw hH => ?_)
  obtain ⟨gFresh_7, rfl, h⟩ := hw
  exact j_vret C hH ⟨_, _, _, _, _, _, _, rfl, h⟩ dX4_goForward_18
abbrev po_X_third (cA : ClassId) (a : Nat → Nat) (xStraight xLeast nPosts gCorners gLowest gFirst gThere : Int) (gRow gPlaces gOver gVia gQueue : Nat → Int) (bTold bStraight bLeast : Int) (bPostsOf bSets bTotals : Nat → Int) (Q : Int → Int → (Nat → Int) → (Nat → Int) → (Nat → Int) → Int → Int → (Nat → Int) → (Nat → Int) → (Nat → Int) → Int → Prop) : Int32 → va_W → Prop := fun r w => ∃ z nThirds' nCorners' nSums' nArrows' aBehind' aAhead' aCells' aBefore' aAfter' gFresh', r = J z ∧ w = wX cA a xStraight xLeast nPosts nThirds' nCorners' nSums' nArrows' aBehind' aAhead' aCells' aBefore' aAfter' gCorners gLowest gFirst gFresh' gThere gRow gPlaces gOver gVia gQueue bTold bStraight bLeast bPostsOf bSets bTotals ∧ Q z nThirds' nCorners' nSums' nArrows' aBehind' aAhead' aCells' aBefore' aAfter' gFresh'
set_option maxRecDepth 4000 in
theorem c_X_third {l : Launch} {D : va_G} {cA : ClassId} {a : Nat → Nat} {sz : Nat} {xStraight xLeast nPosts nThirds : Int} {nCorners nSums nArrows : Nat → Int} {aBehind aAhead : Int} {aCells aBefore aAfter : Nat → Int} {gCorners gLowest gFirst gFresh gThere : Int} {gRow gPlaces gOver gVia gQueue : Nat → Int} {bTold bStraight bLeast : Int} {bPostsOf bSets bTotals : Nat → Int} {x1 x2 x3 : Int} {Q : Int → Int → (Nat → Int) → (Nat → Int) → (Nat → Int) → Int → Int → (Nat → Int) → (Nat → Int) → (Nat → Int) → Int → Prop} (h : wp_X_third x1 x2 x3 nPosts nThirds nCorners nSums nArrows aBehind aAhead aCells aBefore aAfter gFresh Q) : Met l yX4_third (.code yX4_third cX4_third 5 (some .int) :: lw_ok) rm_X_third (xPre D cA sz [.ref (a 0), .int (J x1), .int (J x2), .int (J x3)] (wX cA a xStraight xLeast nPosts nThirds nCorners nSums nArrows aBehind aAhead aCells aBefore aAfter gCorners gLowest gFirst gFresh gThere gRow gPlaces gOver gVia gQueue bTold bStraight bLeast bPostsOf bSets bTotals)) (va_Qi (po_X_third cA a xStraight xLeast nPosts gCorners gLowest gFirst gThere gRow gPlaces gOver gVia gQueue bTold bStraight bLeast bPostsOf bSets bTotals Q) (xB D cA (va_A (wX cA a xStraight xLeast nPosts nThirds nCorners nSums nArrows aBehind aAhead aCells aBefore aAfter gCorners gLowest gFirst gFresh gThere gRow gPlaces gOver gVia gQueue bTold bStraight bLeast bPostsOf bSets bTotals) sz)) (va_A (wX cA a xStraight xLeast nPosts nThirds nCorners nSums nArrows aBehind aAhead aCells aBefore aAfter gCorners gLowest gFirst gFresh gThere gRow gPlaces gOver gVia gQueue bTold bStraight bLeast bPostsOf bSets bTotals) sz)) 0 0 (va_A (wX cA a xStraight xLeast nPosts nThirds nCorners nSums nArrows aBehind aAhead aCells aBefore aAfter gCorners gLowest gFirst gFresh gThere gRow gPlaces gOver gVia gQueue bTold bStraight bLeast bPostsOf bSets bTotals) sz) := by
  refine xmet_i (by decide) (Nat.le_of_ble_eq_true rfl) ?_
  intro p e s m args below meth c A ls C hH hl
  have C : XC p s m args meth c cX4_third 5 RX4 (some .int) D cA A := C
  have hl : lv_has ls 5 [(0, .ref (a 0)), (1, .int (J x1)), (2, .int (J x2)), (3, .int (J x3))] := hl
  unfold wp_X_third at h
  refine j_aload_n C dX4_third_0 (lv_at hl 0 rfl) ?_
  refine xg_X4_net C hH dX4_third_1 ?_
  refine j_iload_n C dX4_third_4 (lv_at hl 1 rfl) ?_
  refine j_iload_n C dX4_third_5 (lv_at hl 2 rfl) ?_
  refine xcallV_i (As := [.int (J x1), .int (J x2)]) (rest := []) (q0 := 1) C hH (fun sz => c_N_areUnlike h) xl_X4_60 rfl rfl ⟨rfl, rfl⟩ ⟨Nat.le_of_ble_eq_true rfl, Nat.le_of_ble_eq_true rfl⟩ hl.1 rfl rfl (Nat.le_of_ble_eq_true rfl) dX4_third_6 (fun r_ w_ H locs hw hH => ?_)
  obtain ⟨z_1, rfl, rfl, h⟩ := hw
  obtain ⟨g_2, h⟩ := h
  refine j_if_eq C 36 g_2 dX4_third_9 (by decide) (fun c_3 => ?_) (fun c_3 => ?_)
  · have h := h.1 c_3
    refine j_iconst C dX4_third_36 ?_
    exact j_iret C hH ⟨_, _, _, _, _, _, _, _, _, _, _, rfl, rfl, h⟩ dX4_third_37
  · have h := h.2 c_3
    refine j_aload_n C dX4_third_12 (lv_at hl 0 rfl) ?_
    refine xg_X4_net C hH dX4_third_13 ?_
    refine j_iload_n C dX4_third_16 (lv_at hl 2 rfl) ?_
    refine j_iload_n C dX4_third_17 (lv_at hl 3 rfl) ?_
    refine xcallV_i (As := [.int (J x2), .int (J x3)]) (rest := []) (q0 := 1) C hH (fun sz => c_N_areUnlike h) xl_X4_60 rfl rfl ⟨rfl, rfl⟩ ⟨Nat.le_of_ble_eq_true rfl, Nat.le_of_ble_eq_true rfl⟩ hl.1 rfl rfl (Nat.le_of_ble_eq_true rfl) dX4_third_18 (fun r_ w_ H locs hw hH => ?_)
    obtain ⟨z_4, rfl, rfl, h⟩ := hw
    obtain ⟨g_5, h⟩ := h
    refine j_if_eq C 36 g_5 dX4_third_21 (by decide) (fun c_6 => ?_) (fun c_6 => ?_)
    · have h := h.1 c_6
      refine j_iconst C dX4_third_36 ?_
      exact j_iret C hH ⟨_, _, _, _, _, _, _, _, _, _, _, rfl, rfl, h⟩ dX4_third_37
    · have h := h.2 c_6
      refine j_aload_n C dX4_third_24 (lv_at hl 0 rfl) ?_
      refine xg_X4_net C hH dX4_third_25 ?_
      refine j_iload_n C dX4_third_28 (lv_at hl 3 rfl) ?_
      refine j_iload_n C dX4_third_29 (lv_at hl 1 rfl) ?_
      refine xcallV_i (As := [.int (J x3), .int (J x1)]) (rest := []) (q0 := 1) C hH (fun sz => c_N_areUnlike h) xl_X4_60 rfl rfl ⟨rfl, rfl⟩ ⟨Nat.le_of_ble_eq_true rfl, Nat.le_of_ble_eq_true rfl⟩ hl.1 rfl rfl (Nat.le_of_ble_eq_true rfl) dX4_third_30 (fun r_ w_ H locs hw hH => ?_)
      obtain ⟨z_7, rfl, rfl, h⟩ := hw
      obtain ⟨g_8, h⟩ := h
      refine j_if_ne C 38 g_8 dX4_third_33 (by decide) (fun c_9 => ?_) (fun c_9 => ?_)
      · have h := h.2 c_9
        refine j_aload_n C dX4_third_38 (lv_at hl 0 rfl) ?_
        refine xg_X4_net C hH dX4_third_39 ?_
        refine xcallV_i (As := []) (rest := []) (q0 := 1) C hH (fun sz => c_N_thirdCount h) xl_X4_64 rfl rfl ⟨rfl, rfl⟩ ⟨Nat.le_of_ble_eq_true rfl, Nat.le_of_ble_eq_true rfl⟩ hl.1 rfl rfl (Nat.le_of_ble_eq_true rfl) dX4_third_42 (fun r_ w_ H locs hw hH => ?_)
        obtain ⟨z_10, rfl, rfl, h⟩ := hw
        refine j_istore (lv' := [(4, .int (J z_10)), (0, .ref (a 0)), (1, .int (J x1)), (2, .int (J x2)), (3, .int (J x3))]) C dX4_third_45 hl (by decide) rfl (fun ls hl => ?_)
        refine j_iload C dX4_third_47 (lv_at hl 0 rfl) ?_
        refine j_bipush C (by decide +kernel) dX4_third_49 ?_
        obtain ⟨g_11, h⟩ := h
        refine j_icmp_lt C 57 g_11 (by unfold jR; decide) dX4_third_51 (by decide) (fun c_12 => ?_) (fun c_12 => ?_)
        · have h := h.1 c_12
          refine j_aload_n C dX4_third_57 (lv_at hl 1 rfl) ?_
          refine xg_X4_net C hH dX4_third_58 ?_
          refine j_iload_n C dX4_third_61 (lv_at hl 2 rfl) ?_
          refine j_iload_n C dX4_third_62 (lv_at hl 3 rfl) ?_
          refine xcallV_i (As := [.int (J x1), .int (J x2)]) (rest := []) (q0 := 1) C hH (fun sz => c_N_hasArrow h) xl_X4_67 rfl rfl ⟨rfl, rfl⟩ ⟨Nat.le_of_ble_eq_true rfl, Nat.le_of_ble_eq_true rfl⟩ hl.1 rfl rfl (Nat.le_of_ble_eq_true rfl) dX4_third_63 (fun r_ w_ H locs hw hH => ?_)
          obtain ⟨z_13, rfl, rfl, h⟩ := hw
          obtain ⟨g_14, h⟩ := h
          refine j_if_ne C 93 g_14 dX4_third_66 (by decide) (fun c_15 => ?_) (fun c_15 => ?_)
          · have h := h.2 c_15
            refine j_bipush C (by decide +kernel) dX4_third_93 ?_
            exact j_iret C hH ⟨_, _, _, _, _, _, _, _, _, _, _, rfl, rfl, h⟩ dX4_third_95
          · have h := h.1 c_15
            refine j_aload_n C dX4_third_69 (lv_at hl 1 rfl) ?_
            refine xg_X4_net C hH dX4_third_70 ?_
            refine j_iload_n C dX4_third_73 (lv_at hl 3 rfl) ?_
            refine j_iload_n C dX4_third_74 (lv_at hl 4 rfl) ?_
            refine xcallV_i (As := [.int (J x2), .int (J x3)]) (rest := []) (q0 := 1) C hH (fun sz => c_N_hasArrow h) xl_X4_67 rfl rfl ⟨rfl, rfl⟩ ⟨Nat.le_of_ble_eq_true rfl, Nat.le_of_ble_eq_true rfl⟩ hl.1 rfl rfl (Nat.le_of_ble_eq_true rfl) dX4_third_75 (fun r_ w_ H locs hw hH => ?_)
            obtain ⟨z_16, rfl, rfl, h⟩ := hw
            obtain ⟨g_17, h⟩ := h
            refine j_if_ne C 93 g_17 dX4_third_78 (by decide) (fun c_18 => ?_) (fun c_18 => ?_)
            · have h := h.2 c_18
              refine j_bipush C (by decide +kernel) dX4_third_93 ?_
              exact j_iret C hH ⟨_, _, _, _, _, _, _, _, _, _, _, rfl, rfl, h⟩ dX4_third_95
            · have h := h.1 c_18
              refine j_aload_n C dX4_third_81 (lv_at hl 1 rfl) ?_
              refine xg_X4_net C hH dX4_third_82 ?_
              refine j_iload_n C dX4_third_85 (lv_at hl 4 rfl) ?_
              refine j_iload_n C dX4_third_86 (lv_at hl 2 rfl) ?_
              refine xcallV_i (As := [.int (J x3), .int (J x1)]) (rest := []) (q0 := 1) C hH (fun sz => c_N_hasArrow h) xl_X4_67 rfl rfl ⟨rfl, rfl⟩ ⟨Nat.le_of_ble_eq_true rfl, Nat.le_of_ble_eq_true rfl⟩ hl.1 rfl rfl (Nat.le_of_ble_eq_true rfl) dX4_third_87 (fun r_ w_ H locs hw hH => ?_)
              obtain ⟨z_19, rfl, rfl, h⟩ := hw
              obtain ⟨g_20, h⟩ := h
              refine j_if_eq C 96 g_20 dX4_third_90 (by decide) (fun c_21 => ?_) (fun c_21 => ?_)
              · have h := h.1 c_21
                refine j_aload_n C dX4_third_96 (lv_at hl 1 rfl) ?_
                refine xg_X4_acts C hH dX4_third_97 ?_
                refine xcallV_v (As := []) (rest := []) (q0 := 5) C hH (fun sz => c_A_begin h) xl_X4_70 rfl rfl ⟨rfl, rfl⟩ ⟨Nat.le_of_ble_eq_true rfl, Nat.le_of_ble_eq_true rfl⟩ hl.1 rfl rfl (Nat.le_of_ble_eq_true rfl) dX4_third_100 (fun w_ H locs hw hH => ?_)
                obtain ⟨aBehind_22, aAhead_23, aCells_24, aBefore_25, aAfter_26, rfl, h⟩ := hw
                refine j_aload_n C dX4_third_103 (lv_at hl 1 rfl) ?_
                refine xg_X4_acts C hH dX4_third_104 ?_
                refine j_iconst C dX4_third_107 ?_
                refine j_iload C dX4_third_108 (lv_at hl 0 rfl) ?_
                refine j_iconst C dX4_third_110 ?_
                refine j_iload_n C dX4_third_111 (lv_at hl 2 rfl) ?_
                refine j_iload_n C dX4_third_112 (lv_at hl 3 rfl) ?_
                refine j_iload_n C dX4_third_113 (lv_at hl 4 rfl) ?_
                refine xcallS_i (As := [.int (J x1), .int (J x2), .int (J x3)]) (rest := [.int (J (-1)), .int (J z_10), .int (J 0), .ref (a 5)]) C hH (fun sz => c_N_pack h) xl_X4_73 ⟨rfl, rfl⟩ ⟨Nat.le_of_ble_eq_true rfl, Nat.le_of_ble_eq_true rfl⟩ hl.1 rfl rfl (Nat.le_of_ble_eq_true rfl) dX4_third_114 (fun r_ w_ H locs hw hH => ?_)
                obtain ⟨z_27, rfl, rfl, h⟩ := hw
                refine xcallV_v (As := [.int (J 0), .int (J z_10), .int (J (-1)), .int (J z_27)]) (rest := []) (q0 := 5) C hH (fun sz => c_A_note h) xl_X4_77 rfl rfl ⟨rfl, rfl⟩ ⟨Nat.le_of_ble_eq_true rfl, Nat.le_of_ble_eq_true rfl⟩ hl.1 rfl rfl (Nat.le_of_ble_eq_true rfl) dX4_third_117 (fun w_ H locs hw hH => ?_)
                obtain ⟨aCells_28, aBefore_29, aAfter_30, rfl, h⟩ := hw
                refine j_aload_n C dX4_third_120 (lv_at hl 1 rfl) ?_
                refine xcallV_v (As := []) (rest := []) (q0 := 0) C hH (fun sz => c_X_goForward h) xl_X4_81 rfl rfl ⟨rfl, rfl⟩ ⟨Nat.le_of_ble_eq_true rfl, Nat.le_of_ble_eq_true rfl⟩ hl.1 rfl rfl (Nat.le_of_ble_eq_true rfl) dX4_third_121 (fun w_ H locs hw hH => ?_)
                obtain ⟨nThirds_31, nCorners_32, nSums_33, nArrows_34, aBehind_35, aAhead_36, gFresh_37, rfl, h⟩ := hw
                refine j_iload C dX4_third_124 (lv_at hl 0 rfl) ?_
                exact j_iret C hH ⟨_, _, _, _, _, _, _, _, _, _, _, rfl, rfl, h⟩ dX4_third_126
              · have h := h.2 c_21
                refine j_bipush C (by decide +kernel) dX4_third_93 ?_
                exact j_iret C hH ⟨_, _, _, _, _, _, _, _, _, _, _, rfl, rfl, h⟩ dX4_third_95
        · have h := h.2 c_12
          refine j_bipush C (by decide +kernel) dX4_third_54 ?_
          exact j_iret C hH ⟨_, _, _, _, _, _, _, _, _, _, _, rfl, rfl, h⟩ dX4_third_56
      · have h := h.1 c_9
        refine j_iconst C dX4_third_36 ?_
        exact j_iret C hH ⟨_, _, _, _, _, _, _, _, _, _, _, rfl, rfl, h⟩ dX4_third_37
abbrev po_X_at (cA : ClassId) (a : Nat → Nat) (xStraight xLeast nPosts nThirds : Int) (nCorners nSums nArrows : Nat → Int) (aBehind aAhead : Int) (aCells aBefore aAfter : Nat → Int) (gCorners gLowest gFirst gFresh gThere : Int) (gRow gPlaces gOver gVia gQueue : Nat → Int) (bTold bStraight bLeast : Int) (bPostsOf bSets bTotals : Nat → Int) (Q : Int → Prop) : Int32 → va_W → Prop := fun r w => ∃ z, r = J z ∧ w = wX cA a xStraight xLeast nPosts nThirds nCorners nSums nArrows aBehind aAhead aCells aBefore aAfter gCorners gLowest gFirst gFresh gThere gRow gPlaces gOver gVia gQueue bTold bStraight bLeast bPostsOf bSets bTotals ∧ Q z
set_option maxRecDepth 4000 in
theorem c_X_at {l : Launch} {D : va_G} {cA : ClassId} {a : Nat → Nat} {sz : Nat} {xStraight xLeast nPosts nThirds : Int} {nCorners nSums nArrows : Nat → Int} {aBehind aAhead : Int} {aCells aBefore aAfter : Nat → Int} {gCorners gLowest gFirst gFresh gThere : Int} {gRow gPlaces gOver gVia gQueue : Nat → Int} {bTold bStraight bLeast : Int} {bPostsOf bSets bTotals : Nat → Int} {x1 : Int} {Q : Int → Prop} (h : wp_X_at x1 nThirds nCorners Q) : Met l yX4_at (.code yX4_at cX4_at 2 (some .int) :: lw_ok) rm_X_at (xPre D cA sz [.ref (a 0), .int (J x1)] (wX cA a xStraight xLeast nPosts nThirds nCorners nSums nArrows aBehind aAhead aCells aBefore aAfter gCorners gLowest gFirst gFresh gThere gRow gPlaces gOver gVia gQueue bTold bStraight bLeast bPostsOf bSets bTotals)) (va_Qi (po_X_at cA a xStraight xLeast nPosts nThirds nCorners nSums nArrows aBehind aAhead aCells aBefore aAfter gCorners gLowest gFirst gFresh gThere gRow gPlaces gOver gVia gQueue bTold bStraight bLeast bPostsOf bSets bTotals Q) (xB D cA (va_A (wX cA a xStraight xLeast nPosts nThirds nCorners nSums nArrows aBehind aAhead aCells aBefore aAfter gCorners gLowest gFirst gFresh gThere gRow gPlaces gOver gVia gQueue bTold bStraight bLeast bPostsOf bSets bTotals) sz)) (va_A (wX cA a xStraight xLeast nPosts nThirds nCorners nSums nArrows aBehind aAhead aCells aBefore aAfter gCorners gLowest gFirst gFresh gThere gRow gPlaces gOver gVia gQueue bTold bStraight bLeast bPostsOf bSets bTotals) sz)) 0 0 (va_A (wX cA a xStraight xLeast nPosts nThirds nCorners nSums nArrows aBehind aAhead aCells aBefore aAfter gCorners gLowest gFirst gFresh gThere gRow gPlaces gOver gVia gQueue bTold bStraight bLeast bPostsOf bSets bTotals) sz) := by
  refine xmet_i (by decide) (Nat.le_of_ble_eq_true rfl) ?_
  intro p e s m args below meth c A ls C hH hl
  have C : XC p s m args meth c cX4_at 2 RX4 (some .int) D cA A := C
  have hl : lv_has ls 2 [(0, .ref (a 0)), (1, .int (J x1))] := hl
  unfold wp_X_at at h
  refine j_aload_n C dX4_at_0 (lv_at hl 0 rfl) ?_
  refine xg_X4_net C hH dX4_at_1 ?_
  refine j_iload_n C dX4_at_4 (lv_at hl 1 rfl) ?_
  refine xcallV_i (As := [.int (J x1)]) (rest := []) (q0 := 1) C hH (fun sz => c_N_hasCorner h) xl_X4_84 rfl rfl ⟨rfl, rfl⟩ ⟨Nat.le_of_ble_eq_true rfl, Nat.le_of_ble_eq_true rfl⟩ hl.1 rfl rfl (Nat.le_of_ble_eq_true rfl) dX4_at_5 (fun r_ w_ H locs hw hH => ?_)
  obtain ⟨z_1, rfl, rfl, h⟩ := hw
  obtain ⟨g_2, h⟩ := h
  refine j_if_eq C 22 g_2 dX4_at_8 (by decide) (fun c_3 => ?_) (fun c_3 => ?_)
  · have h := h.1 c_3
    refine j_iconst C dX4_at_22 ?_
    exact j_iret C hH ⟨_, rfl, rfl, h⟩ dX4_at_23
  · have h := h.2 c_3
    refine j_aload_n C dX4_at_11 (lv_at hl 0 rfl) ?_
    refine xg_X4_net C hH dX4_at_12 ?_
    refine j_iload_n C dX4_at_15 (lv_at hl 1 rfl) ?_
    refine xcallV_i (As := [.int (J x1)]) (rest := []) (q0 := 1) C hH (fun sz => c_N_postOf h) xl_X4_88 rfl rfl ⟨rfl, rfl⟩ ⟨Nat.le_of_ble_eq_true rfl, Nat.le_of_ble_eq_true rfl⟩ hl.1 rfl rfl (Nat.le_of_ble_eq_true rfl) dX4_at_16 (fun r_ w_ H locs hw hH => ?_)
    obtain ⟨z_4, rfl, rfl, h⟩ := hw
    refine j_goto C 23 dX4_at_19 (by decide) ?_
    exact j_iret C hH ⟨_, rfl, rfl, h⟩ dX4_at_23
abbrev po_X_side (cA : ClassId) (a : Nat → Nat) (xStraight xLeast nPosts nThirds : Int) (nCorners nSums nArrows : Nat → Int) (aBehind aAhead : Int) (aCells aBefore aAfter : Nat → Int) (gCorners gLowest gFirst gFresh gThere : Int) (gRow gPlaces gOver gVia gQueue : Nat → Int) (bTold bStraight bLeast : Int) (bPostsOf bSets bTotals : Nat → Int) (Q : Int → Prop) : Int32 → va_W → Prop := fun r w => ∃ z, r = J z ∧ w = wX cA a xStraight xLeast nPosts nThirds nCorners nSums nArrows aBehind aAhead aCells aBefore aAfter gCorners gLowest gFirst gFresh gThere gRow gPlaces gOver gVia gQueue bTold bStraight bLeast bPostsOf bSets bTotals ∧ Q z
set_option maxRecDepth 4000 in
theorem c_X_side {l : Launch} {D : va_G} {cA : ClassId} {a : Nat → Nat} {sz : Nat} {xStraight xLeast nPosts nThirds : Int} {nCorners nSums nArrows : Nat → Int} {aBehind aAhead : Int} {aCells aBefore aAfter : Nat → Int} {gCorners gLowest gFirst gFresh gThere : Int} {gRow gPlaces gOver gVia gQueue : Nat → Int} {bTold bStraight bLeast : Int} {bPostsOf bSets bTotals : Nat → Int} {x1 x2 : Int} {Q : Int → Prop} (h : wp_X_side x1 x2 nPosts nArrows Q) : Met l yX4_side (.code yX4_side cX4_side 3 (some .int) :: lw_ok) rm_X_side (xPre D cA sz [.ref (a 0), .int (J x1), .int (J x2)] (wX cA a xStraight xLeast nPosts nThirds nCorners nSums nArrows aBehind aAhead aCells aBefore aAfter gCorners gLowest gFirst gFresh gThere gRow gPlaces gOver gVia gQueue bTold bStraight bLeast bPostsOf bSets bTotals)) (va_Qi (po_X_side cA a xStraight xLeast nPosts nThirds nCorners nSums nArrows aBehind aAhead aCells aBefore aAfter gCorners gLowest gFirst gFresh gThere gRow gPlaces gOver gVia gQueue bTold bStraight bLeast bPostsOf bSets bTotals Q) (xB D cA (va_A (wX cA a xStraight xLeast nPosts nThirds nCorners nSums nArrows aBehind aAhead aCells aBefore aAfter gCorners gLowest gFirst gFresh gThere gRow gPlaces gOver gVia gQueue bTold bStraight bLeast bPostsOf bSets bTotals) sz)) (va_A (wX cA a xStraight xLeast nPosts nThirds nCorners nSums nArrows aBehind aAhead aCells aBefore aAfter gCorners gLowest gFirst gFresh gThere gRow gPlaces gOver gVia gQueue bTold bStraight bLeast bPostsOf bSets bTotals) sz)) 0 0 (va_A (wX cA a xStraight xLeast nPosts nThirds nCorners nSums nArrows aBehind aAhead aCells aBefore aAfter gCorners gLowest gFirst gFresh gThere gRow gPlaces gOver gVia gQueue bTold bStraight bLeast bPostsOf bSets bTotals) sz) := by
  refine xmet_i (by decide) (Nat.le_of_ble_eq_true rfl) ?_
  intro p e s m args below meth c A ls C hH hl
  have C : XC p s m args meth c cX4_side 3 RX4 (some .int) D cA A := C
  have hl : lv_has ls 3 [(0, .ref (a 0)), (1, .int (J x1)), (2, .int (J x2))] := hl
  unfold wp_X_side at h
  refine j_aload_n C dX4_side_0 (lv_at hl 0 rfl) ?_
  refine xg_X4_net C hH dX4_side_1 ?_
  refine j_iload_n C dX4_side_4 (lv_at hl 1 rfl) ?_
  refine j_iload_n C dX4_side_5 (lv_at hl 2 rfl) ?_
  refine xcallV_i (As := [.int (J x1), .int (J x2)]) (rest := []) (q0 := 1) C hH (fun sz => c_N_areUnlike h) xl_X4_60 rfl rfl ⟨rfl, rfl⟩ ⟨Nat.le_of_ble_eq_true rfl, Nat.le_of_ble_eq_true rfl⟩ hl.1 rfl rfl (Nat.le_of_ble_eq_true rfl) dX4_side_6 (fun r_ w_ H locs hw hH => ?_)
  obtain ⟨z_1, rfl, rfl, h⟩ := hw
  obtain ⟨g_2, h⟩ := h
  refine j_if_eq C 24 g_2 dX4_side_9 (by decide) (fun c_3 => ?_) (fun c_3 => ?_)
  · have h := h.1 c_3
    refine j_iconst C dX4_side_24 ?_
    exact j_iret C hH ⟨_, rfl, rfl, h⟩ dX4_side_25
  · have h := h.2 c_3
    refine j_aload_n C dX4_side_12 (lv_at hl 0 rfl) ?_
    refine xg_X4_net C hH dX4_side_13 ?_
    refine j_iload_n C dX4_side_16 (lv_at hl 1 rfl) ?_
    refine j_iload_n C dX4_side_17 (lv_at hl 2 rfl) ?_
    refine xcallV_i (As := [.int (J x1), .int (J x2)]) (rest := []) (q0 := 1) C hH (fun sz => c_N_thirdsAtSide h) xl_X4_92 rfl rfl ⟨rfl, rfl⟩ ⟨Nat.le_of_ble_eq_true rfl, Nat.le_of_ble_eq_true rfl⟩ hl.1 rfl rfl (Nat.le_of_ble_eq_true rfl) dX4_side_18 (fun r_ w_ H locs hw hH => ?_)
    obtain ⟨z_4, rfl, rfl, h⟩ := hw
    refine j_goto C 25 dX4_side_21 (by decide) ?_
    exact j_iret C hH ⟨_, rfl, rfl, h⟩ dX4_side_25
abbrev po_X_arrow (cA : ClassId) (a : Nat → Nat) (xStraight xLeast nPosts nThirds : Int) (nCorners nSums nArrows : Nat → Int) (aBehind aAhead : Int) (aCells aBefore aAfter : Nat → Int) (gCorners gLowest gFirst gFresh gThere : Int) (gRow gPlaces gOver gVia gQueue : Nat → Int) (bTold bStraight bLeast : Int) (bPostsOf bSets bTotals : Nat → Int) (Q : Int → Prop) : Int32 → va_W → Prop := fun r w => ∃ z, r = J z ∧ w = wX cA a xStraight xLeast nPosts nThirds nCorners nSums nArrows aBehind aAhead aCells aBefore aAfter gCorners gLowest gFirst gFresh gThere gRow gPlaces gOver gVia gQueue bTold bStraight bLeast bPostsOf bSets bTotals ∧ Q z
set_option maxRecDepth 4000 in
theorem c_X_arrow {l : Launch} {D : va_G} {cA : ClassId} {a : Nat → Nat} {sz : Nat} {xStraight xLeast nPosts nThirds : Int} {nCorners nSums nArrows : Nat → Int} {aBehind aAhead : Int} {aCells aBefore aAfter : Nat → Int} {gCorners gLowest gFirst gFresh gThere : Int} {gRow gPlaces gOver gVia gQueue : Nat → Int} {bTold bStraight bLeast : Int} {bPostsOf bSets bTotals : Nat → Int} {x1 x2 : Int} {Q : Int → Prop} (h : wp_X_arrow x1 x2 nPosts nArrows Q) : Met l yX4_arrow (.code yX4_arrow cX4_arrow 3 (some .int) :: lw_ok) rm_X_arrow (xPre D cA sz [.ref (a 0), .int (J x1), .int (J x2)] (wX cA a xStraight xLeast nPosts nThirds nCorners nSums nArrows aBehind aAhead aCells aBefore aAfter gCorners gLowest gFirst gFresh gThere gRow gPlaces gOver gVia gQueue bTold bStraight bLeast bPostsOf bSets bTotals)) (va_Qi (po_X_arrow cA a xStraight xLeast nPosts nThirds nCorners nSums nArrows aBehind aAhead aCells aBefore aAfter gCorners gLowest gFirst gFresh gThere gRow gPlaces gOver gVia gQueue bTold bStraight bLeast bPostsOf bSets bTotals Q) (xB D cA (va_A (wX cA a xStraight xLeast nPosts nThirds nCorners nSums nArrows aBehind aAhead aCells aBefore aAfter gCorners gLowest gFirst gFresh gThere gRow gPlaces gOver gVia gQueue bTold bStraight bLeast bPostsOf bSets bTotals) sz)) (va_A (wX cA a xStraight xLeast nPosts nThirds nCorners nSums nArrows aBehind aAhead aCells aBefore aAfter gCorners gLowest gFirst gFresh gThere gRow gPlaces gOver gVia gQueue bTold bStraight bLeast bPostsOf bSets bTotals) sz)) 0 0 (va_A (wX cA a xStraight xLeast nPosts nThirds nCorners nSums nArrows aBehind aAhead aCells aBefore aAfter gCorners gLowest gFirst gFresh gThere gRow gPlaces gOver gVia gQueue bTold bStraight bLeast bPostsOf bSets bTotals) sz) := by
  refine xmet_i (by decide) (Nat.le_of_ble_eq_true rfl) ?_
  intro p e s m args below meth c A ls C hH hl
  have C : XC p s m args meth c cX4_arrow 3 RX4 (some .int) D cA A := C
  have hl : lv_has ls 3 [(0, .ref (a 0)), (1, .int (J x1)), (2, .int (J x2))] := hl
  unfold wp_X_arrow at h
  refine j_aload_n C dX4_arrow_0 (lv_at hl 0 rfl) ?_
  refine xg_X4_net C hH dX4_arrow_1 ?_
  refine j_iload_n C dX4_arrow_4 (lv_at hl 1 rfl) ?_
  refine j_iload_n C dX4_arrow_5 (lv_at hl 2 rfl) ?_
  refine xcallV_i (As := [.int (J x1), .int (J x2)]) (rest := []) (q0 := 1) C hH (fun sz => c_N_areUnlike h) xl_X4_60 rfl rfl ⟨rfl, rfl⟩ ⟨Nat.le_of_ble_eq_true rfl, Nat.le_of_ble_eq_true rfl⟩ hl.1 rfl rfl (Nat.le_of_ble_eq_true rfl) dX4_arrow_6 (fun r_ w_ H locs hw hH => ?_)
  obtain ⟨z_1, rfl, rfl, h⟩ := hw
  obtain ⟨g_2, h⟩ := h
  refine j_if_ne C 14 g_2 dX4_arrow_9 (by decide) (fun c_3 => ?_) (fun c_3 => ?_)
  · have h := h.2 c_3
    refine j_aload_n C dX4_arrow_14 (lv_at hl 0 rfl) ?_
    refine xg_X4_net C hH dX4_arrow_15 ?_
    refine j_iload_n C dX4_arrow_18 (lv_at hl 1 rfl) ?_
    refine j_iload_n C dX4_arrow_19 (lv_at hl 2 rfl) ?_
    refine xcallV_i (As := [.int (J x1), .int (J x2)]) (rest := []) (q0 := 1) C hH (fun sz => c_N_hasArrow h) xl_X4_67 rfl rfl ⟨rfl, rfl⟩ ⟨Nat.le_of_ble_eq_true rfl, Nat.le_of_ble_eq_true rfl⟩ hl.1 rfl rfl (Nat.le_of_ble_eq_true rfl) dX4_arrow_20 (fun r_ w_ H locs hw hH => ?_)
    obtain ⟨z_4, rfl, rfl, h⟩ := hw
    obtain ⟨g_5, h⟩ := h
    refine j_if_eq C 38 g_5 dX4_arrow_23 (by decide) (fun c_6 => ?_) (fun c_6 => ?_)
    · have h := h.1 c_6
      refine j_bipush C (by decide +kernel) dX4_arrow_38 ?_
      exact j_iret C hH ⟨_, rfl, rfl, h⟩ dX4_arrow_40
    · have h := h.2 c_6
      refine j_aload_n C dX4_arrow_26 (lv_at hl 0 rfl) ?_
      refine xg_X4_net C hH dX4_arrow_27 ?_
      refine j_iload_n C dX4_arrow_30 (lv_at hl 1 rfl) ?_
      refine j_iload_n C dX4_arrow_31 (lv_at hl 2 rfl) ?_
      refine xcallV_i (As := [.int (J x1), .int (J x2)]) (rest := []) (q0 := 1) C hH (fun sz => c_N_thirdWith h) xl_X4_96 rfl rfl ⟨rfl, rfl⟩ ⟨Nat.le_of_ble_eq_true rfl, Nat.le_of_ble_eq_true rfl⟩ hl.1 rfl rfl (Nat.le_of_ble_eq_true rfl) dX4_arrow_32 (fun r_ w_ H locs hw hH => ?_)
      obtain ⟨z_7, rfl, rfl, h⟩ := hw
      refine j_goto C 40 dX4_arrow_35 (by decide) ?_
      exact j_iret C hH ⟨_, rfl, rfl, h⟩ dX4_arrow_40
  · have h := h.1 c_3
    refine j_iconst C dX4_arrow_12 ?_
    exact j_iret C hH ⟨_, rfl, rfl, h⟩ dX4_arrow_13
abbrev po_X_turn (cA : ClassId) (a : Nat → Nat) (xStraight xLeast nPosts gCorners gLowest gFirst gThere : Int) (gRow gPlaces gOver gVia gQueue : Nat → Int) (bTold bStraight bLeast : Int) (bPostsOf bSets bTotals : Nat → Int) (Q : Int → Int → (Nat → Int) → (Nat → Int) → (Nat → Int) → Int → Int → (Nat → Int) → (Nat → Int) → (Nat → Int) → Int → Prop) : Int32 → va_W → Prop := fun r w => ∃ z nThirds' nCorners' nSums' nArrows' aBehind' aAhead' aCells' aBefore' aAfter' gFresh', r = J z ∧ w = wX cA a xStraight xLeast nPosts nThirds' nCorners' nSums' nArrows' aBehind' aAhead' aCells' aBefore' aAfter' gCorners gLowest gFirst gFresh' gThere gRow gPlaces gOver gVia gQueue bTold bStraight bLeast bPostsOf bSets bTotals ∧ Q z nThirds' nCorners' nSums' nArrows' aBehind' aAhead' aCells' aBefore' aAfter' gFresh'
set_option maxRecDepth 4000 in
theorem c_X_turn {l : Launch} {D : va_G} {cA : ClassId} {a : Nat → Nat} {sz : Nat} {xStraight xLeast nPosts nThirds : Int} {nCorners nSums nArrows : Nat → Int} {aBehind aAhead : Int} {aCells aBefore aAfter : Nat → Int} {gCorners gLowest gFirst gFresh gThere : Int} {gRow gPlaces gOver gVia gQueue : Nat → Int} {bTold bStraight bLeast : Int} {bPostsOf bSets bTotals : Nat → Int} {x1 x2 : Int} {Q : Int → Int → (Nat → Int) → (Nat → Int) → (Nat → Int) → Int → Int → (Nat → Int) → (Nat → Int) → (Nat → Int) → Int → Prop} (h : wp_X_turn x1 x2 nPosts nThirds nCorners nSums nArrows aBehind aAhead aCells aBefore aAfter gFresh Q) : Met l yX4_turn (.code yX4_turn cX4_turn 7 (some .int) :: lw_ok) rm_X_turn (xPre D cA sz [.ref (a 0), .int (J x1), .int (J x2)] (wX cA a xStraight xLeast nPosts nThirds nCorners nSums nArrows aBehind aAhead aCells aBefore aAfter gCorners gLowest gFirst gFresh gThere gRow gPlaces gOver gVia gQueue bTold bStraight bLeast bPostsOf bSets bTotals)) (va_Qi (po_X_turn cA a xStraight xLeast nPosts gCorners gLowest gFirst gThere gRow gPlaces gOver gVia gQueue bTold bStraight bLeast bPostsOf bSets bTotals Q) (xB D cA (va_A (wX cA a xStraight xLeast nPosts nThirds nCorners nSums nArrows aBehind aAhead aCells aBefore aAfter gCorners gLowest gFirst gFresh gThere gRow gPlaces gOver gVia gQueue bTold bStraight bLeast bPostsOf bSets bTotals) sz)) (va_A (wX cA a xStraight xLeast nPosts nThirds nCorners nSums nArrows aBehind aAhead aCells aBefore aAfter gCorners gLowest gFirst gFresh gThere gRow gPlaces gOver gVia gQueue bTold bStraight bLeast bPostsOf bSets bTotals) sz)) 0 0 (va_A (wX cA a xStraight xLeast nPosts nThirds nCorners nSums nArrows aBehind aAhead aCells aBefore aAfter gCorners gLowest gFirst gFresh gThere gRow gPlaces gOver gVia gQueue bTold bStraight bLeast bPostsOf bSets bTotals) sz) := by
  refine xmet_i (by decide) (Nat.le_of_ble_eq_true rfl) ?_
  intro p e s m args below meth c A ls C hH hl
  have C : XC p s m args meth c cX4_turn 7 RX4 (some .int) D cA A := C
  have hl : lv_has ls 7 [(0, .ref (a 0)), (1, .int (J x1)), (2, .int (J x2))] := hl
  unfold wp_X_turn at h
  refine j_aload_n C dX4_turn_0 (lv_at hl 0 rfl) ?_
  refine xg_X4_net C hH dX4_turn_1 ?_
  refine j_iload_n C dX4_turn_4 (lv_at hl 1 rfl) ?_
  refine j_iload_n C dX4_turn_5 (lv_at hl 2 rfl) ?_
  refine xcallV_i (As := [.int (J x1), .int (J x2)]) (rest := []) (q0 := 1) C hH (fun sz => c_N_isSide h) xl_X4_99 rfl rfl ⟨rfl, rfl⟩ ⟨Nat.le_of_ble_eq_true rfl, Nat.le_of_ble_eq_true rfl⟩ hl.1 rfl rfl (Nat.le_of_ble_eq_true rfl) dX4_turn_6 (fun r_ w_ H locs hw hH => ?_)
  obtain ⟨z_1, rfl, rfl, h⟩ := hw
  obtain ⟨g_2, h⟩ := h
  refine j_if_ne C 14 g_2 dX4_turn_9 (by decide) (fun c_3 => ?_) (fun c_3 => ?_)
  · have h := h.2 c_3
    refine j_aload_n C dX4_turn_14 (lv_at hl 0 rfl) ?_
    refine xg_X4_net C hH dX4_turn_15 ?_
    refine j_iload_n C dX4_turn_18 (lv_at hl 1 rfl) ?_
    refine j_iload_n C dX4_turn_19 (lv_at hl 2 rfl) ?_
    refine xcallV_i (As := [.int (J x1), .int (J x2)]) (rest := []) (q0 := 1) C hH (fun sz => c_N_thirdsAtSide h) xl_X4_92 rfl rfl ⟨rfl, rfl⟩ ⟨Nat.le_of_ble_eq_true rfl, Nat.le_of_ble_eq_true rfl⟩ hl.1 rfl rfl (Nat.le_of_ble_eq_true rfl) dX4_turn_20 (fun r_ w_ H locs hw hH => ?_)
    obtain ⟨z_4, rfl, rfl, h⟩ := hw
    refine j_iconst C dX4_turn_23 ?_
    obtain ⟨g_5, h⟩ := h
    refine j_icmp_ne C 30 g_5 (by unfold jR; decide) dX4_turn_24 (by decide) (fun c_6 => ?_) (fun c_6 => ?_)
    · have h := h.2 c_6
      refine j_aload_n C dX4_turn_30 (lv_at hl 0 rfl) ?_
      refine xg_X4_net C hH dX4_turn_31 ?_
      refine j_iload_n C dX4_turn_34 (lv_at hl 1 rfl) ?_
      refine j_iload_n C dX4_turn_35 (lv_at hl 2 rfl) ?_
      refine xcallV_i (As := [.int (J x1), .int (J x2)]) (rest := []) (q0 := 1) C hH (fun sz => c_N_thirdWith h) xl_X4_96 rfl rfl ⟨rfl, rfl⟩ ⟨Nat.le_of_ble_eq_true rfl, Nat.le_of_ble_eq_true rfl⟩ hl.1 rfl rfl (Nat.le_of_ble_eq_true rfl) dX4_turn_36 (fun r_ w_ H locs hw hH => ?_)
      obtain ⟨z_7, rfl, rfl, h⟩ := hw
      refine j_istore_n (lv' := [(3, .int (J z_7)), (0, .ref (a 0)), (1, .int (J x1)), (2, .int (J x2))]) C dX4_turn_39 hl (by decide) rfl (fun ls hl => ?_)
      refine j_aload_n C dX4_turn_40 (lv_at hl 1 rfl) ?_
      refine xg_X4_net C hH dX4_turn_41 ?_
      refine j_iload_n C dX4_turn_44 (lv_at hl 3 rfl) ?_
      refine j_iload_n C dX4_turn_45 (lv_at hl 2 rfl) ?_
      refine xcallV_i (As := [.int (J x2), .int (J x1)]) (rest := []) (q0 := 1) C hH (fun sz => c_N_thirdWith h) xl_X4_96 rfl rfl ⟨rfl, rfl⟩ ⟨Nat.le_of_ble_eq_true rfl, Nat.le_of_ble_eq_true rfl⟩ hl.1 rfl rfl (Nat.le_of_ble_eq_true rfl) dX4_turn_46 (fun r_ w_ H locs hw hH => ?_)
      obtain ⟨z_8, rfl, rfl, h⟩ := hw
      refine j_istore (lv' := [(4, .int (J z_8)), (3, .int (J z_7)), (0, .ref (a 0)), (1, .int (J x1)), (2, .int (J x2))]) C dX4_turn_49 hl (by decide) rfl (fun ls hl => ?_)
      refine j_aload_n C dX4_turn_51 (lv_at hl 2 rfl) ?_
      refine xg_X4_net C hH dX4_turn_52 ?_
      refine j_aload_n C dX4_turn_55 (lv_at hl 2 rfl) ?_
      refine xg_X4_net C hH dX4_turn_56 ?_
      refine j_iload_n C dX4_turn_59 (lv_at hl 1 rfl) ?_
      refine j_iload_n C dX4_turn_60 (lv_at hl 3 rfl) ?_
      refine j_iload_n C dX4_turn_61 (lv_at hl 4 rfl) ?_
      refine xcallV_i (As := [.int (J z_7), .int (J x1), .int (J x2)]) (rest := [.ref (a 1)]) (q0 := 1) C hH (fun sz => c_N_cornerOpposite h) xl_X4_102 rfl rfl ⟨rfl, rfl⟩ ⟨Nat.le_of_ble_eq_true rfl, Nat.le_of_ble_eq_true rfl⟩ hl.1 rfl rfl (Nat.le_of_ble_eq_true rfl) dX4_turn_62 (fun r_ w_ H locs hw hH => ?_)
      obtain ⟨z_9, rfl, rfl, h⟩ := hw
      refine xcallV_i (As := [.int (J z_9)]) (rest := []) (q0 := 1) C hH (fun sz => c_N_postOf h) xl_X4_88 rfl rfl ⟨rfl, rfl⟩ ⟨Nat.le_of_ble_eq_true rfl, Nat.le_of_ble_eq_true rfl⟩ hl.1 rfl rfl (Nat.le_of_ble_eq_true rfl) dX4_turn_65 (fun r_ w_ H locs hw hH => ?_)
      obtain ⟨z_10, rfl, rfl, h⟩ := hw
      refine j_istore (lv' := [(5, .int (J z_10)), (4, .int (J z_8)), (3, .int (J z_7)), (0, .ref (a 0)), (1, .int (J x1)), (2, .int (J x2))]) C dX4_turn_68 hl (by decide) rfl (fun ls hl => ?_)
      refine j_aload_n C dX4_turn_70 (lv_at hl 3 rfl) ?_
      refine xg_X4_net C hH dX4_turn_71 ?_
      refine j_aload_n C dX4_turn_74 (lv_at hl 3 rfl) ?_
      refine xg_X4_net C hH dX4_turn_75 ?_
      refine j_iload C dX4_turn_78 (lv_at hl 1 rfl) ?_
      refine j_iload_n C dX4_turn_80 (lv_at hl 4 rfl) ?_
      refine j_iload_n C dX4_turn_81 (lv_at hl 5 rfl) ?_
      refine xcallV_i (As := [.int (J z_8), .int (J x1), .int (J x2)]) (rest := [.ref (a 1)]) (q0 := 1) C hH (fun sz => c_N_cornerOpposite h) xl_X4_102 rfl rfl ⟨rfl, rfl⟩ ⟨Nat.le_of_ble_eq_true rfl, Nat.le_of_ble_eq_true rfl⟩ hl.1 rfl rfl (Nat.le_of_ble_eq_true rfl) dX4_turn_82 (fun r_ w_ H locs hw hH => ?_)
      obtain ⟨z_11, rfl, rfl, h⟩ := hw
      refine xcallV_i (As := [.int (J z_11)]) (rest := []) (q0 := 1) C hH (fun sz => c_N_postOf h) xl_X4_88 rfl rfl ⟨rfl, rfl⟩ ⟨Nat.le_of_ble_eq_true rfl, Nat.le_of_ble_eq_true rfl⟩ hl.1 rfl rfl (Nat.le_of_ble_eq_true rfl) dX4_turn_85 (fun r_ w_ H locs hw hH => ?_)
      obtain ⟨z_12, rfl, rfl, h⟩ := hw
      refine j_istore (lv' := [(6, .int (J z_12)), (5, .int (J z_10)), (4, .int (J z_8)), (3, .int (J z_7)), (0, .ref (a 0)), (1, .int (J x1)), (2, .int (J x2))]) C dX4_turn_88 hl (by decide) rfl (fun ls hl => ?_)
      refine j_iload C dX4_turn_90 (lv_at hl 1 rfl) ?_
      refine j_iload C dX4_turn_92 (lv_at hl 0 rfl) ?_
      obtain ⟨g_13, h⟩ := h
      obtain ⟨g_14, h⟩ := h
      refine j_icmp_eq C 111 g_13 g_14 dX4_turn_94 (by decide) (fun c_15 => ?_) (fun c_15 => ?_)
      · have h := h.1 c_15
        refine j_bipush C (by decide +kernel) dX4_turn_111 ?_
        exact j_iret C hH ⟨_, _, _, _, _, _, _, _, _, _, _, rfl, rfl, h⟩ dX4_turn_113
      · have h := h.2 c_15
        refine j_aload_n C dX4_turn_97 (lv_at hl 4 rfl) ?_
        refine xg_X4_net C hH dX4_turn_98 ?_
        refine j_iload C dX4_turn_101 (lv_at hl 1 rfl) ?_
        refine j_iload C dX4_turn_103 (lv_at hl 0 rfl) ?_
        refine xcallV_i (As := [.int (J z_10), .int (J z_12)]) (rest := []) (q0 := 1) C hH (fun sz => c_N_isSide h) xl_X4_99 rfl rfl ⟨rfl, rfl⟩ ⟨Nat.le_of_ble_eq_true rfl, Nat.le_of_ble_eq_true rfl⟩ hl.1 rfl rfl (Nat.le_of_ble_eq_true rfl) dX4_turn_105 (fun r_ w_ H locs hw hH => ?_)
        obtain ⟨z_16, rfl, rfl, h⟩ := hw
        obtain ⟨g_17, h⟩ := h
        refine j_if_eq C 114 g_17 dX4_turn_108 (by decide) (fun c_18 => ?_) (fun c_18 => ?_)
        · have h := h.1 c_18
          refine j_aload_n C dX4_turn_114 (lv_at hl 4 rfl) ?_
          refine xg_X4_acts C hH dX4_turn_115 ?_
          refine xcallV_v (As := []) (rest := []) (q0 := 5) C hH (fun sz => c_A_begin h) xl_X4_70 rfl rfl ⟨rfl, rfl⟩ ⟨Nat.le_of_ble_eq_true rfl, Nat.le_of_ble_eq_true rfl⟩ hl.1 rfl rfl (Nat.le_of_ble_eq_true rfl) dX4_turn_118 (fun w_ H locs hw hH => ?_)
          obtain ⟨aBehind_19, aAhead_20, aCells_21, aBefore_22, aAfter_23, rfl, h⟩ := hw
          refine j_aload_n C dX4_turn_121 (lv_at hl 4 rfl) ?_
          refine xg_X4_acts C hH dX4_turn_122 ?_
          refine j_iconst C dX4_turn_125 ?_
          refine j_iload_n C dX4_turn_126 (lv_at hl 3 rfl) ?_
          refine j_aload_n C dX4_turn_127 (lv_at hl 4 rfl) ?_
          refine xg_X4_net C hH dX4_turn_128 ?_
          refine j_iload_n C dX4_turn_131 (lv_at hl 3 rfl) ?_
          refine xcallV_i (As := [.int (J z_7)]) (rest := [.int (J z_7), .int (J 0), .ref (a 5)]) (q0 := 1) C hH (fun sz => c_N_packed h) xl_X4_105 rfl rfl ⟨rfl, rfl⟩ ⟨Nat.le_of_ble_eq_true rfl, Nat.le_of_ble_eq_true rfl⟩ hl.1 rfl rfl (Nat.le_of_ble_eq_true rfl) dX4_turn_132 (fun r_ w_ H locs hw hH => ?_)
          obtain ⟨z_24, rfl, rfl, h⟩ := hw
          refine j_iload_n C dX4_turn_135 (lv_at hl 5 rfl) ?_
          refine j_iload C dX4_turn_136 (lv_at hl 0 rfl) ?_
          refine j_iload C dX4_turn_138 (lv_at hl 1 rfl) ?_
          refine xcallS_i (As := [.int (J x1), .int (J z_12), .int (J z_10)]) (rest := [.int (J z_24), .int (J z_7), .int (J 0), .ref (a 5)]) C hH (fun sz => c_N_pack h) xl_X4_73 ⟨rfl, rfl⟩ ⟨Nat.le_of_ble_eq_true rfl, Nat.le_of_ble_eq_true rfl⟩ hl.1 rfl rfl (Nat.le_of_ble_eq_true rfl) dX4_turn_140 (fun r_ w_ H locs hw hH => ?_)
          obtain ⟨z_25, rfl, rfl, h⟩ := hw
          refine xcallV_v (As := [.int (J 0), .int (J z_7), .int (J z_24), .int (J z_25)]) (rest := []) (q0 := 5) C hH (fun sz => c_A_note h) xl_X4_77 rfl rfl ⟨rfl, rfl⟩ ⟨Nat.le_of_ble_eq_true rfl, Nat.le_of_ble_eq_true rfl⟩ hl.1 rfl rfl (Nat.le_of_ble_eq_true rfl) dX4_turn_143 (fun w_ H locs hw hH => ?_)
          obtain ⟨aCells_26, aBefore_27, aAfter_28, rfl, h⟩ := hw
          refine j_aload_n C dX4_turn_146 (lv_at hl 4 rfl) ?_
          refine xg_X4_acts C hH dX4_turn_147 ?_
          refine j_iconst C dX4_turn_150 ?_
          refine j_iload C dX4_turn_151 (lv_at hl 2 rfl) ?_
          refine j_aload_n C dX4_turn_153 (lv_at hl 4 rfl) ?_
          refine xg_X4_net C hH dX4_turn_154 ?_
          refine j_iload C dX4_turn_157 (lv_at hl 2 rfl) ?_
          refine xcallV_i (As := [.int (J z_8)]) (rest := [.int (J z_8), .int (J 1), .ref (a 5)]) (q0 := 1) C hH (fun sz => c_N_packed h) xl_X4_105 rfl rfl ⟨rfl, rfl⟩ ⟨Nat.le_of_ble_eq_true rfl, Nat.le_of_ble_eq_true rfl⟩ hl.1 rfl rfl (Nat.le_of_ble_eq_true rfl) dX4_turn_159 (fun r_ w_ H locs hw hH => ?_)
          obtain ⟨z_29, rfl, rfl, h⟩ := hw
          refine j_iload C dX4_turn_162 (lv_at hl 0 rfl) ?_
          refine j_iload_n C dX4_turn_164 (lv_at hl 6 rfl) ?_
          refine j_iload C dX4_turn_165 (lv_at hl 1 rfl) ?_
          refine xcallS_i (As := [.int (J z_12), .int (J x2), .int (J z_10)]) (rest := [.int (J z_29), .int (J z_8), .int (J 1), .ref (a 5)]) C hH (fun sz => c_N_pack h) xl_X4_73 ⟨rfl, rfl⟩ ⟨Nat.le_of_ble_eq_true rfl, Nat.le_of_ble_eq_true rfl⟩ hl.1 rfl rfl (Nat.le_of_ble_eq_true rfl) dX4_turn_167 (fun r_ w_ H locs hw hH => ?_)
          obtain ⟨z_30, rfl, rfl, h⟩ := hw
          refine xcallV_v (As := [.int (J 1), .int (J z_8), .int (J z_29), .int (J z_30)]) (rest := []) (q0 := 5) C hH (fun sz => c_A_note h) xl_X4_77 rfl rfl ⟨rfl, rfl⟩ ⟨Nat.le_of_ble_eq_true rfl, Nat.le_of_ble_eq_true rfl⟩ hl.1 rfl rfl (Nat.le_of_ble_eq_true rfl) dX4_turn_170 (fun w_ H locs hw hH => ?_)
          obtain ⟨aCells_31, aBefore_32, aAfter_33, rfl, h⟩ := hw
          refine j_aload_n C dX4_turn_173 (lv_at hl 4 rfl) ?_
          refine xcallV_v (As := []) (rest := []) (q0 := 0) C hH (fun sz => c_X_goForward h) xl_X4_81 rfl rfl ⟨rfl, rfl⟩ ⟨Nat.le_of_ble_eq_true rfl, Nat.le_of_ble_eq_true rfl⟩ hl.1 rfl rfl (Nat.le_of_ble_eq_true rfl) dX4_turn_174 (fun w_ H locs hw hH => ?_)
          obtain ⟨nThirds_34, nCorners_35, nSums_36, nArrows_37, aBehind_38, aAhead_39, gFresh_40, rfl, h⟩ := hw
          refine j_iconst C dX4_turn_177 ?_
          exact j_iret C hH ⟨_, _, _, _, _, _, _, _, _, _, _, rfl, rfl, h⟩ dX4_turn_178
        · have h := h.2 c_18
          refine j_bipush C (by decide +kernel) dX4_turn_111 ?_
          exact j_iret C hH ⟨_, _, _, _, _, _, _, _, _, _, _, rfl, rfl, h⟩ dX4_turn_113
    · have h := h.1 c_6
      refine j_bipush C (by decide +kernel) dX4_turn_27 ?_
      exact j_iret C hH ⟨_, _, _, _, _, _, _, _, _, _, _, rfl, rfl, h⟩ dX4_turn_29
  · have h := h.1 c_3
    refine j_iconst C dX4_turn_12 ?_
    exact j_iret C hH ⟨_, _, _, _, _, _, _, _, _, _, _, rfl, rfl, h⟩ dX4_turn_13
abbrev po_X_sumOrNone (cA : ClassId) (a : Nat → Nat) (xStraight xLeast nPosts nThirds : Int) (nCorners nSums nArrows : Nat → Int) (aBehind aAhead : Int) (aCells aBefore aAfter : Nat → Int) (gCorners gLowest gFirst gFresh gThere : Int) (gRow gPlaces gOver gVia gQueue : Nat → Int) (bTold bStraight bLeast : Int) (bPostsOf bSets bTotals : Nat → Int) (Q : Int → Prop) : Int32 → va_W → Prop := fun r w => ∃ z, r = J z ∧ w = wX cA a xStraight xLeast nPosts nThirds nCorners nSums nArrows aBehind aAhead aCells aBefore aAfter gCorners gLowest gFirst gFresh gThere gRow gPlaces gOver gVia gQueue bTold bStraight bLeast bPostsOf bSets bTotals ∧ Q z
set_option maxRecDepth 4000 in
theorem c_X_sumOrNone {l : Launch} {D : va_G} {cA : ClassId} {a : Nat → Nat} {sz : Nat} {xStraight xLeast nPosts nThirds : Int} {nCorners nSums nArrows : Nat → Int} {aBehind aAhead : Int} {aCells aBefore aAfter : Nat → Int} {gCorners gLowest gFirst gFresh gThere : Int} {gRow gPlaces gOver gVia gQueue : Nat → Int} {bTold bStraight bLeast : Int} {bPostsOf bSets bTotals : Nat → Int} {x1 : Int} {Q : Int → Prop} (h : wp_X_sumOrNone x1 nSums Q) : Met l yX4_sumOrNone (.code yX4_sumOrNone cX4_sumOrNone 3 (some .int) :: lw_ok) rm_X_sumOrNone (xPre D cA sz [.ref (a 0), .int (J x1)] (wX cA a xStraight xLeast nPosts nThirds nCorners nSums nArrows aBehind aAhead aCells aBefore aAfter gCorners gLowest gFirst gFresh gThere gRow gPlaces gOver gVia gQueue bTold bStraight bLeast bPostsOf bSets bTotals)) (va_Qi (po_X_sumOrNone cA a xStraight xLeast nPosts nThirds nCorners nSums nArrows aBehind aAhead aCells aBefore aAfter gCorners gLowest gFirst gFresh gThere gRow gPlaces gOver gVia gQueue bTold bStraight bLeast bPostsOf bSets bTotals Q) (xB D cA (va_A (wX cA a xStraight xLeast nPosts nThirds nCorners nSums nArrows aBehind aAhead aCells aBefore aAfter gCorners gLowest gFirst gFresh gThere gRow gPlaces gOver gVia gQueue bTold bStraight bLeast bPostsOf bSets bTotals) sz)) (va_A (wX cA a xStraight xLeast nPosts nThirds nCorners nSums nArrows aBehind aAhead aCells aBefore aAfter gCorners gLowest gFirst gFresh gThere gRow gPlaces gOver gVia gQueue bTold bStraight bLeast bPostsOf bSets bTotals) sz)) 0 0 (va_A (wX cA a xStraight xLeast nPosts nThirds nCorners nSums nArrows aBehind aAhead aCells aBefore aAfter gCorners gLowest gFirst gFresh gThere gRow gPlaces gOver gVia gQueue bTold bStraight bLeast bPostsOf bSets bTotals) sz) := by
  refine xmet_i (by decide) (Nat.le_of_ble_eq_true rfl) ?_
  intro p e s m args below meth c A ls C hH hl
  have C : XC p s m args meth c cX4_sumOrNone 3 RX4 (some .int) D cA A := C
  have hl : lv_has ls 3 [(0, .ref (a 0)), (1, .int (J x1))] := hl
  unfold wp_X_sumOrNone at h
  refine j_aload_n C dX4_sumOrNone_0 (lv_at hl 0 rfl) ?_
  refine xg_X4_net C hH dX4_sumOrNone_1 ?_
  refine j_iload_n C dX4_sumOrNone_4 (lv_at hl 1 rfl) ?_
  refine xcallV_i (As := [.int (J x1)]) (rest := []) (q0 := 1) C hH (fun sz => c_N_sumOf h) xl_X4_144 rfl rfl ⟨rfl, rfl⟩ ⟨Nat.le_of_ble_eq_true rfl, Nat.le_of_ble_eq_true rfl⟩ hl.1 rfl rfl (Nat.le_of_ble_eq_true rfl) dX4_sumOrNone_5 (fun r_ w_ H locs hw hH => ?_)
  obtain ⟨z_1, rfl, rfl, h⟩ := hw
  refine j_istore_n (lv' := [(2, .int (J z_1)), (0, .ref (a 0)), (1, .int (J x1))]) C dX4_sumOrNone_8 hl (by decide) rfl (fun ls hl => ?_)
  refine j_iload_n C dX4_sumOrNone_9 (lv_at hl 0 rfl) ?_
  refine j_iconst C dX4_sumOrNone_10 ?_
  obtain ⟨g_2, h⟩ := h
  refine j_icmp_ne C 19 g_2 (by unfold jR; decide) dX4_sumOrNone_11 (by decide) (fun c_3 => ?_) (fun c_3 => ?_)
  · have h := h.2 c_3
    refine j_iload_n C dX4_sumOrNone_19 (lv_at hl 0 rfl) ?_
    exact j_iret C hH ⟨_, rfl, rfl, h⟩ dX4_sumOrNone_20
  · have h := h.1 c_3
    refine j_bipush C (by decide +kernel) dX4_sumOrNone_14 ?_
    refine j_goto C 20 dX4_sumOrNone_16 (by decide) ?_
    exact j_iret C hH ⟨_, rfl, rfl, h⟩ dX4_sumOrNone_20
abbrev po_X_about (cA : ClassId) (a : Nat → Nat) (xStraight xLeast nPosts nThirds : Int) (nCorners nSums nArrows : Nat → Int) (aBehind aAhead : Int) (aCells aBefore aAfter : Nat → Int) (bTold bStraight bLeast : Int) (bPostsOf bSets bTotals : Nat → Int) (Q : Int → Int → Int → Int → Int → Int → (Nat → Int) → (Nat → Int) → (Nat → Int) → (Nat → Int) → (Nat → Int) → Prop) : Int32 → va_W → Prop := fun r w => ∃ z gCorners' gLowest' gFirst' gFresh' gThere' gRow' gPlaces' gOver' gVia' gQueue', r = J z ∧ w = wX cA a xStraight xLeast nPosts nThirds nCorners nSums nArrows aBehind aAhead aCells aBefore aAfter gCorners' gLowest' gFirst' gFresh' gThere' gRow' gPlaces' gOver' gVia' gQueue' bTold bStraight bLeast bPostsOf bSets bTotals ∧ Q z gCorners' gLowest' gFirst' gFresh' gThere' gRow' gPlaces' gOver' gVia' gQueue'
set_option maxRecDepth 4000 in
theorem c_X_about {l : Launch} {D : va_G} {cA : ClassId} {a : Nat → Nat} {sz : Nat} {xStraight xLeast nPosts nThirds : Int} {nCorners nSums nArrows : Nat → Int} {aBehind aAhead : Int} {aCells aBefore aAfter : Nat → Int} {gCorners gLowest gFirst gFresh gThere : Int} {gRow gPlaces gOver gVia gQueue : Nat → Int} {bTold bStraight bLeast : Int} {bPostsOf bSets bTotals : Nat → Int} {x1 x2 : Int} {Q : Int → Int → Int → Int → Int → Int → (Nat → Int) → (Nat → Int) → (Nat → Int) → (Nat → Int) → (Nat → Int) → Prop} (h : wp_X_about x1 x2 xStraight xLeast nPosts nThirds nCorners nSums nArrows gCorners gLowest gFirst gFresh gThere gRow gPlaces gOver gVia gQueue Q) : Met l yX4_about (.code yX4_about cX4_about 3 (some .int) :: lw_ok) rm_X_about (xPre D cA sz [.ref (a 0), .int (J x1), .int (J x2)] (wX cA a xStraight xLeast nPosts nThirds nCorners nSums nArrows aBehind aAhead aCells aBefore aAfter gCorners gLowest gFirst gFresh gThere gRow gPlaces gOver gVia gQueue bTold bStraight bLeast bPostsOf bSets bTotals)) (va_Qi (po_X_about cA a xStraight xLeast nPosts nThirds nCorners nSums nArrows aBehind aAhead aCells aBefore aAfter bTold bStraight bLeast bPostsOf bSets bTotals Q) (xB D cA (va_A (wX cA a xStraight xLeast nPosts nThirds nCorners nSums nArrows aBehind aAhead aCells aBefore aAfter gCorners gLowest gFirst gFresh gThere gRow gPlaces gOver gVia gQueue bTold bStraight bLeast bPostsOf bSets bTotals) sz)) (va_A (wX cA a xStraight xLeast nPosts nThirds nCorners nSums nArrows aBehind aAhead aCells aBefore aAfter gCorners gLowest gFirst gFresh gThere gRow gPlaces gOver gVia gQueue bTold bStraight bLeast bPostsOf bSets bTotals) sz)) 0 0 (va_A (wX cA a xStraight xLeast nPosts nThirds nCorners nSums nArrows aBehind aAhead aCells aBefore aAfter gCorners gLowest gFirst gFresh gThere gRow gPlaces gOver gVia gQueue bTold bStraight bLeast bPostsOf bSets bTotals) sz) := by
  refine xmet_i (by decide) (Nat.le_of_ble_eq_true rfl) ?_
  intro p e s m args below meth c A ls C hH hl
  have C : XC p s m args meth c cX4_about 3 RX4 (some .int) D cA A := C
  have hl : lv_has ls 3 [(0, .ref (a 0)), (1, .int (J x1)), (2, .int (J x2))] := hl
  unfold wp_X_about at h
  refine j_aload_n C dX4_about_0 (lv_at hl 0 rfl) ?_
  refine xg_X4_net C hH dX4_about_1 ?_
  refine j_iload_n C dX4_about_4 (lv_at hl 1 rfl) ?_
  refine xcallV_i (As := [.int (J x1)]) (rest := []) (q0 := 1) C hH (fun sz => c_N_hasPost h) xl_X4_108 rfl rfl ⟨rfl, rfl⟩ ⟨Nat.le_of_ble_eq_true rfl, Nat.le_of_ble_eq_true rfl⟩ hl.1 rfl rfl (Nat.le_of_ble_eq_true rfl) dX4_about_5 (fun r_ w_ H locs hw hH => ?_)
  obtain ⟨z_1, rfl, rfl, h⟩ := hw
  obtain ⟨g_2, h⟩ := h
  refine j_if_ne C 13 g_2 dX4_about_8 (by decide) (fun c_3 => ?_) (fun c_3 => ?_)
  · have h := h.2 c_3
    refine j_iload_n C dX4_about_13 (lv_at hl 2 rfl) ?_
    obtain ⟨g_4, h⟩ := h
    by_cases c_50 : x2 = 0
    · have h := h.1 c_50
      refine j_tableIn C 52 g_4 dX4_about_14 (by rw [c_50]; decide) (by rw [c_50]; decide) (by rw [c_50]; rfl) (by decide) ?_
      refine j_aload_n C dX4_about_52 (lv_at hl 0 rfl) ?_
      refine xg_X4_net C hH dX4_about_53 ?_
      refine j_iload_n C dX4_about_56 (lv_at hl 1 rfl) ?_
      refine xcallV_i (As := [.int (J x1)]) (rest := []) (q0 := 1) C hH (fun sz => c_N_cornersAt h) xl_X4_111 rfl rfl ⟨rfl, rfl⟩ ⟨Nat.le_of_ble_eq_true rfl, Nat.le_of_ble_eq_true rfl⟩ hl.1 rfl rfl (Nat.le_of_ble_eq_true rfl) dX4_about_57 (fun r_ w_ H locs hw hH => ?_)
      obtain ⟨z_6, rfl, rfl, h⟩ := hw
      exact j_iret C hH ⟨_, _, _, _, _, _, _, _, _, _, _, rfl, rfl, h⟩ dX4_about_60
    have h := h.2
    by_cases c_51 : x2 = 1
    · have h := h.1 c_51
      refine j_tableIn C 61 g_4 dX4_about_14 (by rw [c_51]; decide) (by rw [c_51]; decide) (by rw [c_51]; rfl) (by decide) ?_
      refine j_aload_n C dX4_about_61 (lv_at hl 0 rfl) ?_
      refine xg_X4_net C hH dX4_about_62 ?_
      refine j_iload_n C dX4_about_65 (lv_at hl 1 rfl) ?_
      refine j_iconst C dX4_about_66 ?_
      refine xcallV_i (As := [.int (J x1), .int (J 1)]) (rest := []) (q0 := 1) C hH (fun sz => c_N_sidesAt h) xl_X4_114 rfl rfl ⟨rfl, rfl⟩ ⟨Nat.le_of_ble_eq_true rfl, Nat.le_of_ble_eq_true rfl⟩ hl.1 rfl rfl (Nat.le_of_ble_eq_true rfl) dX4_about_67 (fun r_ w_ H locs hw hH => ?_)
      obtain ⟨z_7, rfl, rfl, h⟩ := hw
      refine j_aload_n C dX4_about_70 (lv_at hl 0 rfl) ?_
      refine xg_X4_net C hH dX4_about_71 ?_
      refine j_iload_n C dX4_about_74 (lv_at hl 1 rfl) ?_
      refine j_iconst C dX4_about_75 ?_
      refine xcallV_i (As := [.int (J x1), .int (J 2)]) (rest := [.int (J z_7)]) (q0 := 1) C hH (fun sz => c_N_sidesAt h) xl_X4_114 rfl rfl ⟨rfl, rfl⟩ ⟨Nat.le_of_ble_eq_true rfl, Nat.le_of_ble_eq_true rfl⟩ hl.1 rfl rfl (Nat.le_of_ble_eq_true rfl) dX4_about_76 (fun r_ w_ H locs hw hH => ?_)
      obtain ⟨z_8, rfl, rfl, h⟩ := hw
      refine j_iadd C dX4_about_79 ?_
      exact j_iret C hH ⟨_, _, _, _, _, _, _, _, _, _, _, rfl, rfl, h⟩ dX4_about_80
    have h := h.2
    by_cases c_52 : x2 = 2
    · have h := h.1 c_52
      refine j_tableIn C 81 g_4 dX4_about_14 (by rw [c_52]; decide) (by rw [c_52]; decide) (by rw [c_52]; rfl) (by decide) ?_
      refine j_aload_n C dX4_about_81 (lv_at hl 0 rfl) ?_
      refine xg_X4_net C hH dX4_about_82 ?_
      refine j_iload_n C dX4_about_85 (lv_at hl 1 rfl) ?_
      refine xcallV_i (As := [.int (J x1)]) (rest := []) (q0 := 1) C hH (fun sz => c_N_isFreeOfRim h) xl_X4_117 rfl rfl ⟨rfl, rfl⟩ ⟨Nat.le_of_ble_eq_true rfl, Nat.le_of_ble_eq_true rfl⟩ hl.1 rfl rfl (Nat.le_of_ble_eq_true rfl) dX4_about_86 (fun r_ w_ H locs hw hH => ?_)
      obtain ⟨z_9, rfl, rfl, h⟩ := hw
      obtain ⟨g_10, h⟩ := h
      refine j_if_eq C 96 g_10 dX4_about_89 (by decide) (fun c_11 => ?_) (fun c_11 => ?_)
      · have h := h.1 c_11
        refine j_iconst C dX4_about_96 ?_
        exact j_iret C hH ⟨_, _, _, _, _, _, _, _, _, _, _, rfl, rfl, h⟩ dX4_about_97
      · have h := h.2 c_11
        refine j_iconst C dX4_about_92 ?_
        refine j_goto C 97 dX4_about_93 (by decide) ?_
        exact j_iret C hH ⟨_, _, _, _, _, _, _, _, _, _, _, rfl, rfl, h⟩ dX4_about_97
    have h := h.2
    by_cases c_53 : x2 = 3
    · have h := h.1 c_53
      refine j_tableIn C 98 g_4 dX4_about_14 (by rw [c_53]; decide) (by rw [c_53]; decide) (by rw [c_53]; rfl) (by decide) ?_
      refine j_aload_n C dX4_about_98 (lv_at hl 0 rfl) ?_
      refine xg_X4_net C hH dX4_about_99 ?_
      refine j_iload_n C dX4_about_102 (lv_at hl 1 rfl) ?_
      refine xcallV_i (As := [.int (J x1)]) (rest := []) (q0 := 1) C hH (fun sz => c_N_isRound h) xl_X4_120 rfl rfl ⟨rfl, rfl⟩ ⟨Nat.le_of_ble_eq_true rfl, Nat.le_of_ble_eq_true rfl⟩ hl.1 rfl rfl (Nat.le_of_ble_eq_true rfl) dX4_about_103 (fun r_ w_ H locs hw hH => ?_)
      obtain ⟨z_12, rfl, rfl, h⟩ := hw
      obtain ⟨g_13, h⟩ := h
      refine j_if_eq C 113 g_13 dX4_about_106 (by decide) (fun c_14 => ?_) (fun c_14 => ?_)
      · have h := h.1 c_14
        refine j_iconst C dX4_about_113 ?_
        exact j_iret C hH ⟨_, _, _, _, _, _, _, _, _, _, _, rfl, rfl, h⟩ dX4_about_114
      · have h := h.2 c_14
        refine j_iconst C dX4_about_109 ?_
        refine j_goto C 114 dX4_about_110 (by decide) ?_
        exact j_iret C hH ⟨_, _, _, _, _, _, _, _, _, _, _, rfl, rfl, h⟩ dX4_about_114
    have h := h.2
    by_cases c_54 : x2 = 4
    · have h := h.1 c_54
      refine j_tableIn C 115 g_4 dX4_about_14 (by rw [c_54]; decide) (by rw [c_54]; decide) (by rw [c_54]; rfl) (by decide) ?_
      refine j_aload_n C dX4_about_115 (lv_at hl 0 rfl) ?_
      refine j_iload_n C dX4_about_116 (lv_at hl 1 rfl) ?_
      refine xcallV_i (As := [.int (J x1)]) (rest := []) (q0 := 0) C hH (fun sz => c_X_sumOrNone h) xl_X4_123 rfl rfl ⟨rfl, rfl⟩ ⟨Nat.le_of_ble_eq_true rfl, Nat.le_of_ble_eq_true rfl⟩ hl.1 rfl rfl (Nat.le_of_ble_eq_true rfl) dX4_about_117 (fun r_ w_ H locs hw hH => ?_)
      obtain ⟨z_15, rfl, rfl, h⟩ := hw
      exact j_iret C hH ⟨_, _, _, _, _, _, _, _, _, _, _, rfl, rfl, h⟩ dX4_about_120
    have h := h.2
    by_cases c_55 : x2 = 5
    · have h := h.1 c_55
      refine j_tableIn C 121 g_4 dX4_about_14 (by rw [c_55]; decide) (by rw [c_55]; decide) (by rw [c_55]; rfl) (by decide) ?_
      refine j_aload_n C dX4_about_121 (lv_at hl 0 rfl) ?_
      refine xg_X4_giver C hH dX4_about_122 ?_
      refine j_aload_n C dX4_about_125 (lv_at hl 0 rfl) ?_
      refine xg_X4_straightIs C hH dX4_about_126 ?_
      refine j_aload_n C dX4_about_129 (lv_at hl 0 rfl) ?_
      refine xg_X4_leastIs C hH dX4_about_130 ?_
      refine xcallV_i (As := [.int (J xStraight), .int (J xLeast)]) (rest := []) (q0 := 9) C hH (fun sz => c_G_findRow h) xl_X4_126 rfl rfl ⟨rfl, rfl⟩ ⟨Nat.le_of_ble_eq_true rfl, Nat.le_of_ble_eq_true rfl⟩ hl.1 rfl rfl (Nat.le_of_ble_eq_true rfl) dX4_about_133 (fun r_ w_ H locs hw hH => ?_)
      obtain ⟨z_16, gCorners_17, gLowest_18, gFirst_19, gFresh_20, gThere_21, gRow_22, gPlaces_23, gOver_24, gVia_25, gQueue_26, rfl, rfl, h⟩ := hw
      obtain ⟨g_27, h⟩ := h
      refine j_if_eq C 150 g_27 dX4_about_136 (by decide) (fun c_28 => ?_) (fun c_28 => ?_)
      · have h := h.1 c_28
        refine j_bipush C (by decide +kernel) dX4_about_150 ?_
        exact j_iret C hH ⟨_, _, _, _, _, _, _, _, _, _, _, rfl, rfl, h⟩ dX4_about_152
      · have h := h.2 c_28
        refine j_aload_n C dX4_about_139 (lv_at hl 0 rfl) ?_
        refine xg_X4_giver C hH dX4_about_140 ?_
        refine j_iload_n C dX4_about_143 (lv_at hl 1 rfl) ?_
        refine xcallV_i (As := [.int (J x1)]) (rest := []) (q0 := 9) C hH (fun sz => c_G_givenAt h) xl_X4_129 rfl rfl ⟨rfl, rfl⟩ ⟨Nat.le_of_ble_eq_true rfl, Nat.le_of_ble_eq_true rfl⟩ hl.1 rfl rfl (Nat.le_of_ble_eq_true rfl) dX4_about_144 (fun r_ w_ H locs hw hH => ?_)
        obtain ⟨z_29, rfl, rfl, h⟩ := hw
        refine j_goto C 152 dX4_about_147 (by decide) ?_
        exact j_iret C hH ⟨_, _, _, _, _, _, _, _, _, _, _, rfl, rfl, h⟩ dX4_about_152
    have h := h.2
    have h := h ⟨c_50, c_51, c_52, c_53, c_54, c_55⟩
    refine j_tableOut C 153 g_4 dX4_about_14 (jout_5 c_50 c_51 c_52 c_53 c_54 c_55) (by decide) ?_
    refine j_bipush C (by decide +kernel) dX4_about_153 ?_
    exact j_iret C hH ⟨_, _, _, _, _, _, _, _, _, _, _, rfl, rfl, h⟩ dX4_about_155
  · have h := h.1 c_3
    refine j_iconst C dX4_about_11 ?_
    exact j_iret C hH ⟨_, _, _, _, _, _, _, _, _, _, _, rfl, rfl, h⟩ dX4_about_12

abbrev po_A_forgetAll (cA : ClassId) (a : Nat → Nat) (xStraight xLeast nPosts nThirds : Int) (nCorners nSums nArrows aCells aBefore aAfter : Nat → Int) (gCorners gLowest gFirst gFresh gThere : Int) (gRow gPlaces gOver gVia gQueue : Nat → Int) (bTold bStraight bLeast : Int) (bPostsOf bSets bTotals : Nat → Int) (Q : Int → Int → Prop) : va_W → Prop := fun w => ∃ aBehind' aAhead', w = wX cA a xStraight xLeast nPosts nThirds nCorners nSums nArrows aBehind' aAhead' aCells aBefore aAfter gCorners gLowest gFirst gFresh gThere gRow gPlaces gOver gVia gQueue bTold bStraight bLeast bPostsOf bSets bTotals ∧ Q aBehind' aAhead'
set_option maxRecDepth 4000 in
theorem c_A_forgetAll {l : Launch} {D : va_G} {cA : ClassId} {a : Nat → Nat} {sz : Nat} {xStraight xLeast nPosts nThirds : Int} {nCorners nSums nArrows : Nat → Int} {aBehind aAhead : Int} {aCells aBefore aAfter : Nat → Int} {gCorners gLowest gFirst gFresh gThere : Int} {gRow gPlaces gOver gVia gQueue : Nat → Int} {bTold bStraight bLeast : Int} {bPostsOf bSets bTotals : Nat → Int} {Q : Int → Int → Prop} (h : wp_A_forgetAll  aBehind aAhead Q) : Met l yX0_forgetAll (.code yX0_forgetAll cX0_forgetAll 1 none :: lw_ok) rm_A_forgetAll (xPre D cA sz [.ref (a 5)] (wX cA a xStraight xLeast nPosts nThirds nCorners nSums nArrows aBehind aAhead aCells aBefore aAfter gCorners gLowest gFirst gFresh gThere gRow gPlaces gOver gVia gQueue bTold bStraight bLeast bPostsOf bSets bTotals)) (va_Qv (po_A_forgetAll cA a xStraight xLeast nPosts nThirds nCorners nSums nArrows aCells aBefore aAfter gCorners gLowest gFirst gFresh gThere gRow gPlaces gOver gVia gQueue bTold bStraight bLeast bPostsOf bSets bTotals Q) (xB D cA (va_A (wX cA a xStraight xLeast nPosts nThirds nCorners nSums nArrows aBehind aAhead aCells aBefore aAfter gCorners gLowest gFirst gFresh gThere gRow gPlaces gOver gVia gQueue bTold bStraight bLeast bPostsOf bSets bTotals) sz)) (va_A (wX cA a xStraight xLeast nPosts nThirds nCorners nSums nArrows aBehind aAhead aCells aBefore aAfter gCorners gLowest gFirst gFresh gThere gRow gPlaces gOver gVia gQueue bTold bStraight bLeast bPostsOf bSets bTotals) sz)) 0 0 (va_A (wX cA a xStraight xLeast nPosts nThirds nCorners nSums nArrows aBehind aAhead aCells aBefore aAfter gCorners gLowest gFirst gFresh gThere gRow gPlaces gOver gVia gQueue bTold bStraight bLeast bPostsOf bSets bTotals) sz) := by
  refine xmet_v (by decide) (Nat.le_of_ble_eq_true rfl) ?_
  intro p e s m args below meth c A ls C hH hl
  have C : XC p s m args meth c cX0_forgetAll 1 RX0 none D cA A := C
  have hl : lv_has ls 1 [(0, .ref (a 5))] := hl
  unfold wp_A_forgetAll at h
  refine j_aload_n C dX0_forgetAll_0 (lv_at hl 0 rfl) ?_
  refine j_iconst C dX0_forgetAll_1 ?_
  refine xp_X0_behind C hH dX0_forgetAll_2 (fun H locs hH => ?_)
  refine j_aload_n C dX0_forgetAll_5 (lv_at hl 0 rfl) ?_
  refine j_iconst C dX0_forgetAll_6 ?_
  refine xp_X0_ahead C hH dX0_forgetAll_7 (fun H locs hH => ?_)
  exact j_vret C hH ⟨_, _, rfl, h⟩ dX0_forgetAll_10
abbrev po_A_behind (cA : ClassId) (a : Nat → Nat) (xStraight xLeast nPosts nThirds : Int) (nCorners nSums nArrows : Nat → Int) (aBehind aAhead : Int) (aCells aBefore aAfter : Nat → Int) (gCorners gLowest gFirst gFresh gThere : Int) (gRow gPlaces gOver gVia gQueue : Nat → Int) (bTold bStraight bLeast : Int) (bPostsOf bSets bTotals : Nat → Int) (Q : Int → Prop) : Int32 → va_W → Prop := fun r w => ∃ z, r = J z ∧ w = wX cA a xStraight xLeast nPosts nThirds nCorners nSums nArrows aBehind aAhead aCells aBefore aAfter gCorners gLowest gFirst gFresh gThere gRow gPlaces gOver gVia gQueue bTold bStraight bLeast bPostsOf bSets bTotals ∧ Q z
set_option maxRecDepth 4000 in
theorem c_A_behind {l : Launch} {D : va_G} {cA : ClassId} {a : Nat → Nat} {sz : Nat} {xStraight xLeast nPosts nThirds : Int} {nCorners nSums nArrows : Nat → Int} {aBehind aAhead : Int} {aCells aBefore aAfter : Nat → Int} {gCorners gLowest gFirst gFresh gThere : Int} {gRow gPlaces gOver gVia gQueue : Nat → Int} {bTold bStraight bLeast : Int} {bPostsOf bSets bTotals : Nat → Int} {Q : Int → Prop} (h : wp_A_behind  aBehind Q) : Met l yX0_behind (.code yX0_behind cX0_behind 1 (some .int) :: lw_ok) rm_A_behind (xPre D cA sz [.ref (a 5)] (wX cA a xStraight xLeast nPosts nThirds nCorners nSums nArrows aBehind aAhead aCells aBefore aAfter gCorners gLowest gFirst gFresh gThere gRow gPlaces gOver gVia gQueue bTold bStraight bLeast bPostsOf bSets bTotals)) (va_Qi (po_A_behind cA a xStraight xLeast nPosts nThirds nCorners nSums nArrows aBehind aAhead aCells aBefore aAfter gCorners gLowest gFirst gFresh gThere gRow gPlaces gOver gVia gQueue bTold bStraight bLeast bPostsOf bSets bTotals Q) (xB D cA (va_A (wX cA a xStraight xLeast nPosts nThirds nCorners nSums nArrows aBehind aAhead aCells aBefore aAfter gCorners gLowest gFirst gFresh gThere gRow gPlaces gOver gVia gQueue bTold bStraight bLeast bPostsOf bSets bTotals) sz)) (va_A (wX cA a xStraight xLeast nPosts nThirds nCorners nSums nArrows aBehind aAhead aCells aBefore aAfter gCorners gLowest gFirst gFresh gThere gRow gPlaces gOver gVia gQueue bTold bStraight bLeast bPostsOf bSets bTotals) sz)) 0 0 (va_A (wX cA a xStraight xLeast nPosts nThirds nCorners nSums nArrows aBehind aAhead aCells aBefore aAfter gCorners gLowest gFirst gFresh gThere gRow gPlaces gOver gVia gQueue bTold bStraight bLeast bPostsOf bSets bTotals) sz) := by
  refine xmet_i (by decide) (Nat.le_of_ble_eq_true rfl) ?_
  intro p e s m args below meth c A ls C hH hl
  have C : XC p s m args meth c cX0_behind 1 RX0 (some .int) D cA A := C
  have hl : lv_has ls 1 [(0, .ref (a 5))] := hl
  unfold wp_A_behind at h
  refine j_aload_n C dX0_behind_0 (lv_at hl 0 rfl) ?_
  refine xg_X0_behind C hH dX0_behind_1 ?_
  exact j_iret C hH ⟨_, rfl, rfl, h⟩ dX0_behind_4
abbrev po_A_ahead (cA : ClassId) (a : Nat → Nat) (xStraight xLeast nPosts nThirds : Int) (nCorners nSums nArrows : Nat → Int) (aBehind aAhead : Int) (aCells aBefore aAfter : Nat → Int) (gCorners gLowest gFirst gFresh gThere : Int) (gRow gPlaces gOver gVia gQueue : Nat → Int) (bTold bStraight bLeast : Int) (bPostsOf bSets bTotals : Nat → Int) (Q : Int → Prop) : Int32 → va_W → Prop := fun r w => ∃ z, r = J z ∧ w = wX cA a xStraight xLeast nPosts nThirds nCorners nSums nArrows aBehind aAhead aCells aBefore aAfter gCorners gLowest gFirst gFresh gThere gRow gPlaces gOver gVia gQueue bTold bStraight bLeast bPostsOf bSets bTotals ∧ Q z
set_option maxRecDepth 4000 in
theorem c_A_ahead {l : Launch} {D : va_G} {cA : ClassId} {a : Nat → Nat} {sz : Nat} {xStraight xLeast nPosts nThirds : Int} {nCorners nSums nArrows : Nat → Int} {aBehind aAhead : Int} {aCells aBefore aAfter : Nat → Int} {gCorners gLowest gFirst gFresh gThere : Int} {gRow gPlaces gOver gVia gQueue : Nat → Int} {bTold bStraight bLeast : Int} {bPostsOf bSets bTotals : Nat → Int} {Q : Int → Prop} (h : wp_A_ahead  aAhead Q) : Met l yX0_ahead (.code yX0_ahead cX0_ahead 1 (some .int) :: lw_ok) rm_A_ahead (xPre D cA sz [.ref (a 5)] (wX cA a xStraight xLeast nPosts nThirds nCorners nSums nArrows aBehind aAhead aCells aBefore aAfter gCorners gLowest gFirst gFresh gThere gRow gPlaces gOver gVia gQueue bTold bStraight bLeast bPostsOf bSets bTotals)) (va_Qi (po_A_ahead cA a xStraight xLeast nPosts nThirds nCorners nSums nArrows aBehind aAhead aCells aBefore aAfter gCorners gLowest gFirst gFresh gThere gRow gPlaces gOver gVia gQueue bTold bStraight bLeast bPostsOf bSets bTotals Q) (xB D cA (va_A (wX cA a xStraight xLeast nPosts nThirds nCorners nSums nArrows aBehind aAhead aCells aBefore aAfter gCorners gLowest gFirst gFresh gThere gRow gPlaces gOver gVia gQueue bTold bStraight bLeast bPostsOf bSets bTotals) sz)) (va_A (wX cA a xStraight xLeast nPosts nThirds nCorners nSums nArrows aBehind aAhead aCells aBefore aAfter gCorners gLowest gFirst gFresh gThere gRow gPlaces gOver gVia gQueue bTold bStraight bLeast bPostsOf bSets bTotals) sz)) 0 0 (va_A (wX cA a xStraight xLeast nPosts nThirds nCorners nSums nArrows aBehind aAhead aCells aBefore aAfter gCorners gLowest gFirst gFresh gThere gRow gPlaces gOver gVia gQueue bTold bStraight bLeast bPostsOf bSets bTotals) sz) := by
  refine xmet_i (by decide) (Nat.le_of_ble_eq_true rfl) ?_
  intro p e s m args below meth c A ls C hH hl
  have C : XC p s m args meth c cX0_ahead 1 RX0 (some .int) D cA A := C
  have hl : lv_has ls 1 [(0, .ref (a 5))] := hl
  unfold wp_A_ahead at h
  refine j_aload_n C dX0_ahead_0 (lv_at hl 0 rfl) ?_
  refine xg_X0_ahead C hH dX0_ahead_1 ?_
  exact j_iret C hH ⟨_, rfl, rfl, h⟩ dX0_ahead_4
abbrev po_A_note (cA : ClassId) (a : Nat → Nat) (xStraight xLeast nPosts nThirds : Int) (nCorners nSums nArrows : Nat → Int) (aBehind aAhead gCorners gLowest gFirst gFresh gThere : Int) (gRow gPlaces gOver gVia gQueue : Nat → Int) (bTold bStraight bLeast : Int) (bPostsOf bSets bTotals : Nat → Int) (Q : (Nat → Int) → (Nat → Int) → (Nat → Int) → Prop) : va_W → Prop := fun w => ∃ aCells' aBefore' aAfter', w = wX cA a xStraight xLeast nPosts nThirds nCorners nSums nArrows aBehind aAhead aCells' aBefore' aAfter' gCorners gLowest gFirst gFresh gThere gRow gPlaces gOver gVia gQueue bTold bStraight bLeast bPostsOf bSets bTotals ∧ Q aCells' aBefore' aAfter'
set_option maxRecDepth 4000 in
theorem c_A_note {l : Launch} {D : va_G} {cA : ClassId} {a : Nat → Nat} {sz : Nat} {xStraight xLeast nPosts nThirds : Int} {nCorners nSums nArrows : Nat → Int} {aBehind aAhead : Int} {aCells aBefore aAfter : Nat → Int} {gCorners gLowest gFirst gFresh gThere : Int} {gRow gPlaces gOver gVia gQueue : Nat → Int} {bTold bStraight bLeast : Int} {bPostsOf bSets bTotals : Nat → Int} {x1 x2 x3 x4 : Int} {Q : (Nat → Int) → (Nat → Int) → (Nat → Int) → Prop} (h : wp_A_note x1 x2 x3 x4 aBehind aCells aBefore aAfter Q) : Met l yX0_note (.code yX0_note cX0_note 6 none :: lw_ok) rm_A_note (xPre D cA sz [.ref (a 5), .int (J x1), .int (J x2), .int (J x3), .int (J x4)] (wX cA a xStraight xLeast nPosts nThirds nCorners nSums nArrows aBehind aAhead aCells aBefore aAfter gCorners gLowest gFirst gFresh gThere gRow gPlaces gOver gVia gQueue bTold bStraight bLeast bPostsOf bSets bTotals)) (va_Qv (po_A_note cA a xStraight xLeast nPosts nThirds nCorners nSums nArrows aBehind aAhead gCorners gLowest gFirst gFresh gThere gRow gPlaces gOver gVia gQueue bTold bStraight bLeast bPostsOf bSets bTotals Q) (xB D cA (va_A (wX cA a xStraight xLeast nPosts nThirds nCorners nSums nArrows aBehind aAhead aCells aBefore aAfter gCorners gLowest gFirst gFresh gThere gRow gPlaces gOver gVia gQueue bTold bStraight bLeast bPostsOf bSets bTotals) sz)) (va_A (wX cA a xStraight xLeast nPosts nThirds nCorners nSums nArrows aBehind aAhead aCells aBefore aAfter gCorners gLowest gFirst gFresh gThere gRow gPlaces gOver gVia gQueue bTold bStraight bLeast bPostsOf bSets bTotals) sz)) 0 0 (va_A (wX cA a xStraight xLeast nPosts nThirds nCorners nSums nArrows aBehind aAhead aCells aBefore aAfter gCorners gLowest gFirst gFresh gThere gRow gPlaces gOver gVia gQueue bTold bStraight bLeast bPostsOf bSets bTotals) sz) := by
  refine xmet_v (by decide) (Nat.le_of_ble_eq_true rfl) ?_
  intro p e s m args below meth c A ls C hH hl
  have C : XC p s m args meth c cX0_note 6 RX0 none D cA A := C
  have hl : lv_has ls 6 [(0, .ref (a 5)), (1, .int (J x1)), (2, .int (J x2)), (3, .int (J x3)), (4, .int (J x4))] := hl
  unfold wp_A_note at h
  refine j_iconst C dX0_note_0 ?_
  refine j_aload_n C dX0_note_1 (lv_at hl 0 rfl) ?_
  refine xg_X0_behind C hH dX0_note_2 ?_
  refine j_imul C dX0_note_5 ?_
  refine j_iload_n C dX0_note_6 (lv_at hl 1 rfl) ?_
  refine j_iadd C dX0_note_7 ?_
  refine j_istore (lv' := [(5, .int (J ((2 * aBehind) + x1))), (0, .ref (a 5)), (1, .int (J x1)), (2, .int (J x2)), (3, .int (J x3)), (4, .int (J x4))]) C dX0_note_8 hl (by decide) rfl (fun ls hl => ?_)
  refine j_aload_n C dX0_note_10 (lv_at hl 1 rfl) ?_
  refine xg_X0_cells C hH dX0_note_11 ?_
  refine j_iload C dX0_note_14 (lv_at hl 0 rfl) ?_
  refine j_iload_n C dX0_note_16 (lv_at hl 3 rfl) ?_
  obtain ⟨b_1, h⟩ := h
  refine xs_aCells C hH b_1 dX0_note_17 (fun aCells_2 e_aCells_2 H locs hH => ?_)
  have h := h aCells_2 e_aCells_2
  refine j_aload_n C dX0_note_18 (lv_at hl 1 rfl) ?_
  refine xg_X0_before C hH dX0_note_19 ?_
  refine j_iload C dX0_note_22 (lv_at hl 0 rfl) ?_
  refine j_iload_n C dX0_note_24 (lv_at hl 4 rfl) ?_
  refine xs_aBefore C hH b_1 dX0_note_25 (fun aBefore_3 e_aBefore_3 H locs hH => ?_)
  have h := h aBefore_3 e_aBefore_3
  refine j_aload_n C dX0_note_26 (lv_at hl 1 rfl) ?_
  refine xg_X0_after C hH dX0_note_27 ?_
  refine j_iload C dX0_note_30 (lv_at hl 0 rfl) ?_
  refine j_iload C dX0_note_32 (lv_at hl 5 rfl) ?_
  refine xs_aAfter C hH b_1 dX0_note_34 (fun aAfter_4 e_aAfter_4 H locs hH => ?_)
  have h := h aAfter_4 e_aAfter_4
  exact j_vret C hH ⟨_, _, _, rfl, h⟩ dX0_note_35
abbrev po_A_begin (cA : ClassId) (a : Nat → Nat) (xStraight xLeast nPosts nThirds : Int) (nCorners nSums nArrows : Nat → Int) (gCorners gLowest gFirst gFresh gThere : Int) (gRow gPlaces gOver gVia gQueue : Nat → Int) (bTold bStraight bLeast : Int) (bPostsOf bSets bTotals : Nat → Int) (Q : Int → Int → (Nat → Int) → (Nat → Int) → (Nat → Int) → Prop) : va_W → Prop := fun w => ∃ aBehind' aAhead' aCells' aBefore' aAfter', w = wX cA a xStraight xLeast nPosts nThirds nCorners nSums nArrows aBehind' aAhead' aCells' aBefore' aAfter' gCorners gLowest gFirst gFresh gThere gRow gPlaces gOver gVia gQueue bTold bStraight bLeast bPostsOf bSets bTotals ∧ Q aBehind' aAhead' aCells' aBefore' aAfter'
set_option maxRecDepth 4000 in
theorem w_A_begin_38 {p : Program} {l : Launch} {e : Env} {s : State} {m : MethodId} {args : Array Value} {below : List Frame} {meth : Method} {c : Code} {D : va_G} {cA : ClassId} {A : Nat → Prop} {a : Nat → Nat} {xStraight xLeast nPosts nThirds : Int} {nCorners nSums nArrows : Nat → Int} {aBehind aAhead gCorners gLowest gFirst gFresh gThere : Int} {gRow gPlaces gOver gVia gQueue : Nat → Int} {bTold bStraight bLeast : Int} {bPostsOf bSets bTotals : Nat → Int} (C : XC p s m args meth c cX0_begin 2 RX0 none D cA A) {Q : Int → Int → (Nat → Int) → (Nat → Int) → (Nat → Int) → Prop}  : ∀ (n : Nat) (x1 : Int) (aCells : Nat → Int) (aBefore : Nat → Int) (aAfter : Nat → Int), wp_A_begin_38 Q aBehind aAhead n x1 aCells aBefore aAfter → ∀ (H : Heap) (locs : List Loc) (ls : Array Slot), XH D A s (wX cA a xStraight xLeast nPosts nThirds nCorners nSums nArrows aBehind aAhead aCells aBefore aAfter gCorners gLowest gFirst gFresh gThere gRow gPlaces gOver gVia gQueue bTold bStraight bLeast bPostsOf bSets bTotals) H locs → lv_has ls 2 [(0, .ref (a 5)), (1, .int (J x1))] → W p l e rm_A_begin s m args below meth c H locs 0 0 (MQ below (va_Qv (po_A_begin cA a xStraight xLeast nPosts nThirds nCorners nSums nArrows gCorners gLowest gFirst gFresh gThere gRow gPlaces gOver gVia gQueue bTold bStraight bLeast bPostsOf bSets bTotals Q) (xB D cA A) A) args s 0 0 A) (F0 m 38 ls []) := by
  intro n
  induction n with
  | zero => intro x1 aCells aBefore aAfter h; exact (show False from h).elim
  | succ n hK38 =>
    intro x1 aCells aBefore aAfter h H locs ls hH hl
    have h : wp_A_begin_38_b  (wp_A_begin_38 Q aBehind aAhead n) Q  aBehind aAhead x1 aCells aBefore aAfter := h
    unfold wp_A_begin_38_b at h
    refine j_iload_n C dX0_begin_38 (lv_at hl 1 rfl) ?_
    refine j_iconst C dX0_begin_39 ?_
    obtain ⟨g_1, h⟩ := h
    refine j_icmp_ge C 57 g_1 (by unfold jR; decide) dX0_begin_40 (by decide) (fun c_2 => ?_) (fun c_2 => ?_)
    · have h := h.1 c_2
      refine j_aload_n C dX0_begin_57 (lv_at hl 0 rfl) ?_
      refine j_iconst C dX0_begin_58 ?_
      refine xp_X0_ahead C hH dX0_begin_59 (fun H locs hH => ?_)
      exact j_vret C hH ⟨_, _, _, _, _, rfl, h⟩ dX0_begin_62
    · have h := h.2 c_2
      refine j_aload_n C dX0_begin_43 (lv_at hl 0 rfl) ?_
      refine j_iload_n C dX0_begin_44 (lv_at hl 1 rfl) ?_
      refine j_iconst C dX0_begin_45 ?_
      refine j_iconst C dX0_begin_46 ?_
      refine j_iconst C dX0_begin_47 ?_
      refine xcallV_v (As := [.int (J x1), .int (J (-1)), .int (J 0), .int (J 0)]) (rest := []) (q0 := 5) C hH (fun sz => c_A_note h) xl_X0_32 rfl rfl ⟨rfl, rfl⟩ ⟨Nat.le_of_ble_eq_true rfl, Nat.le_of_ble_eq_true rfl⟩ hl.1 rfl rfl (Nat.le_of_ble_eq_true rfl) dX0_begin_48 (fun w_ H locs hw hH => ?_)
      obtain ⟨aCells_3, aBefore_4, aAfter_5, rfl, h⟩ := hw
      refine j_iinc (k := 1) (v := x1 + 1) (lv' := [(1, .int (J (x1 + 1))), (0, .ref (a 5))]) C dX0_begin_51 hl rfl rfl (by decide) rfl (fun ls hl => ?_)
      refine j_goto C 38 dX0_begin_54 (by decide) ?_
      exact hK38 (x1 + 1) aCells_3 aBefore_4 aAfter_5 h _ _ _ hH (lv_sub hl [1, 0] rfl)
set_option maxRecDepth 4000 in
theorem c_A_begin {l : Launch} {D : va_G} {cA : ClassId} {a : Nat → Nat} {sz : Nat} {xStraight xLeast nPosts nThirds : Int} {nCorners nSums nArrows : Nat → Int} {aBehind aAhead : Int} {aCells aBefore aAfter : Nat → Int} {gCorners gLowest gFirst gFresh gThere : Int} {gRow gPlaces gOver gVia gQueue : Nat → Int} {bTold bStraight bLeast : Int} {bPostsOf bSets bTotals : Nat → Int} {Q : Int → Int → (Nat → Int) → (Nat → Int) → (Nat → Int) → Prop} (h : wp_A_begin  aBehind aAhead aCells aBefore aAfter Q) : Met l yX0_begin (.code yX0_begin cX0_begin 2 none :: lw_ok) rm_A_begin (xPre D cA sz [.ref (a 5)] (wX cA a xStraight xLeast nPosts nThirds nCorners nSums nArrows aBehind aAhead aCells aBefore aAfter gCorners gLowest gFirst gFresh gThere gRow gPlaces gOver gVia gQueue bTold bStraight bLeast bPostsOf bSets bTotals)) (va_Qv (po_A_begin cA a xStraight xLeast nPosts nThirds nCorners nSums nArrows gCorners gLowest gFirst gFresh gThere gRow gPlaces gOver gVia gQueue bTold bStraight bLeast bPostsOf bSets bTotals Q) (xB D cA (va_A (wX cA a xStraight xLeast nPosts nThirds nCorners nSums nArrows aBehind aAhead aCells aBefore aAfter gCorners gLowest gFirst gFresh gThere gRow gPlaces gOver gVia gQueue bTold bStraight bLeast bPostsOf bSets bTotals) sz)) (va_A (wX cA a xStraight xLeast nPosts nThirds nCorners nSums nArrows aBehind aAhead aCells aBefore aAfter gCorners gLowest gFirst gFresh gThere gRow gPlaces gOver gVia gQueue bTold bStraight bLeast bPostsOf bSets bTotals) sz)) 0 0 (va_A (wX cA a xStraight xLeast nPosts nThirds nCorners nSums nArrows aBehind aAhead aCells aBefore aAfter gCorners gLowest gFirst gFresh gThere gRow gPlaces gOver gVia gQueue bTold bStraight bLeast bPostsOf bSets bTotals) sz) := by
  refine xmet_v (by decide) (Nat.le_of_ble_eq_true rfl) ?_
  intro p e s m args below meth c A ls C hH hl
  have C : XC p s m args meth c cX0_begin 2 RX0 none D cA A := C
  have hl : lv_has ls 2 [(0, .ref (a 5))] := hl
  unfold wp_A_begin at h
  refine j_aload_n C dX0_begin_0 (lv_at hl 0 rfl) ?_
  refine xg_X0_behind C hH dX0_begin_1 ?_
  refine j_bipush C (by decide +kernel) dX0_begin_4 ?_
  obtain ⟨g_6, h⟩ := h
  refine j_icmp_lt C 36 g_6 (by unfold jR; decide) dX0_begin_6 (by decide) (fun c_7 => ?_) (fun c_7 => ?_)
  · have h := h.1 c_7
    refine j_iconst C dX0_begin_36 ?_
    refine j_istore_n (lv' := [(1, .int (J 0)), (0, .ref (a 5))]) C dX0_begin_37 hl (by decide) rfl (fun ls hl => ?_)
    obtain ⟨n_, h⟩ := h
    exact w_A_begin_38 C  n_ 0 aCells aBefore aAfter h _ _ _ hH (lv_sub hl [1, 0] rfl)
  · have h := h.2 c_7
    refine j_aload_n C dX0_begin_9 (lv_at hl 0 rfl) ?_
    refine xg_X0_cells C hH dX0_begin_10 ?_
    refine xcallS_v (As := [.ref (a 6)]) (rest := []) C hH (fun sz => c_A_dropOldest 6 rfl (by decide)) xl_X0_28 ⟨rfl, rfl⟩ ⟨Nat.le_of_ble_eq_true rfl, Nat.le_of_ble_eq_true rfl⟩ hl.1 rfl rfl (Nat.le_of_ble_eq_true rfl) dX0_begin_13 (fun w_ H locs hw hH => ?_)
    obtain ⟨aCells_8, e_aCells_8⟩ : ∃ f, f = cpy aCells aCells 2 0 118 := ⟨_, rfl⟩
    have h := h aCells_8 e_aCells_8
    subst hw
    rw [← e_aCells_8] at hH
    have hH : XH D A s (wX cA a xStraight xLeast nPosts nThirds nCorners nSums nArrows aBehind aAhead aCells_8 aBefore aAfter gCorners gLowest gFirst gFresh gThere gRow gPlaces gOver gVia gQueue bTold bStraight bLeast bPostsOf bSets bTotals) H locs := hH
    refine j_aload_n C dX0_begin_16 (lv_at hl 0 rfl) ?_
    refine xg_X0_before C hH dX0_begin_17 ?_
    refine xcallS_v (As := [.ref (a 7)]) (rest := []) C hH (fun sz => c_A_dropOldest 7 rfl (by decide)) xl_X0_28 ⟨rfl, rfl⟩ ⟨Nat.le_of_ble_eq_true rfl, Nat.le_of_ble_eq_true rfl⟩ hl.1 rfl rfl (Nat.le_of_ble_eq_true rfl) dX0_begin_20 (fun w_ H locs hw hH => ?_)
    obtain ⟨aBefore_9, e_aBefore_9⟩ : ∃ f, f = cpy aBefore aBefore 2 0 118 := ⟨_, rfl⟩
    have h := h aBefore_9 e_aBefore_9
    subst hw
    rw [← e_aBefore_9] at hH
    have hH : XH D A s (wX cA a xStraight xLeast nPosts nThirds nCorners nSums nArrows aBehind aAhead aCells_8 aBefore_9 aAfter gCorners gLowest gFirst gFresh gThere gRow gPlaces gOver gVia gQueue bTold bStraight bLeast bPostsOf bSets bTotals) H locs := hH
    refine j_aload_n C dX0_begin_23 (lv_at hl 0 rfl) ?_
    refine xg_X0_after C hH dX0_begin_24 ?_
    refine xcallS_v (As := [.ref (a 8)]) (rest := []) C hH (fun sz => c_A_dropOldest 8 rfl (by decide)) xl_X0_28 ⟨rfl, rfl⟩ ⟨Nat.le_of_ble_eq_true rfl, Nat.le_of_ble_eq_true rfl⟩ hl.1 rfl rfl (Nat.le_of_ble_eq_true rfl) dX0_begin_27 (fun w_ H locs hw hH => ?_)
    obtain ⟨aAfter_10, e_aAfter_10⟩ : ∃ f, f = cpy aAfter aAfter 2 0 118 := ⟨_, rfl⟩
    have h := h aAfter_10 e_aAfter_10
    subst hw
    rw [← e_aAfter_10] at hH
    have hH : XH D A s (wX cA a xStraight xLeast nPosts nThirds nCorners nSums nArrows aBehind aAhead aCells_8 aBefore_9 aAfter_10 gCorners gLowest gFirst gFresh gThere gRow gPlaces gOver gVia gQueue bTold bStraight bLeast bPostsOf bSets bTotals) H locs := hH
    refine j_aload_n C dX0_begin_30 (lv_at hl 0 rfl) ?_
    refine j_bipush C (by decide +kernel) dX0_begin_31 ?_
    refine xp_X0_behind C hH dX0_begin_33 (fun H locs hH => ?_)
    refine j_iconst C dX0_begin_36 ?_
    refine j_istore_n (lv' := [(1, .int (J 0)), (0, .ref (a 5))]) C dX0_begin_37 hl (by decide) rfl (fun ls hl => ?_)
    obtain ⟨n_, h⟩ := h
    exact w_A_begin_38 C  n_ 0 aCells_8 aBefore_9 aAfter_10 h _ _ _ hH (lv_sub hl [1, 0] rfl)
abbrev po_N_drawArrows (cA : ClassId) (a : Nat → Nat) (xStraight xLeast nPosts nThirds : Int) (nCorners nSums : Nat → Int) (aBehind aAhead : Int) (aCells aBefore aAfter : Nat → Int) (gCorners gLowest gFirst gFresh gThere : Int) (gRow gPlaces gOver gVia gQueue : Nat → Int) (bTold bStraight bLeast : Int) (bPostsOf bSets bTotals : Nat → Int) (Q : (Nat → Int) → Prop) : va_W → Prop := fun w => ∃ nArrows', w = wX cA a xStraight xLeast nPosts nThirds nCorners nSums nArrows' aBehind aAhead aCells aBefore aAfter gCorners gLowest gFirst gFresh gThere gRow gPlaces gOver gVia gQueue bTold bStraight bLeast bPostsOf bSets bTotals ∧ Q nArrows'
set_option maxRecDepth 4000 in
theorem w_N_drawArrows_10 {p : Program} {l : Launch} {e : Env} {s : State} {m : MethodId} {args : Array Value} {below : List Frame} {meth : Method} {c : Code} {D : va_G} {cA : ClassId} {A : Nat → Prop} {a : Nat → Nat} {xStraight xLeast nPosts nThirds : Int} {nCorners nSums : Nat → Int} {aBehind aAhead : Int} {aCells aBefore aAfter : Nat → Int} {gCorners gLowest gFirst gFresh gThere : Int} {gRow gPlaces gOver gVia gQueue : Nat → Int} {bTold bStraight bLeast : Int} {bPostsOf bSets bTotals : Nat → Int} (C : XC p s m args meth c cX3_drawArrows 5 RX3 none D cA A) {Q : (Nat → Int) → Prop}  : ∀ (n : Nat) (x1 : Int) (nArrows : Nat → Int), wp_N_drawArrows_10 Q nThirds nCorners n x1 nArrows → ∀ (H : Heap) (locs : List Loc) (ls : Array Slot), XH D A s (wX cA a xStraight xLeast nPosts nThirds nCorners nSums nArrows aBehind aAhead aCells aBefore aAfter gCorners gLowest gFirst gFresh gThere gRow gPlaces gOver gVia gQueue bTold bStraight bLeast bPostsOf bSets bTotals) H locs → lv_has ls 5 [(0, .ref (a 1)), (1, .int (J x1))] → W p l e rm_N_drawArrows s m args below meth c H locs 0 0 (MQ below (va_Qv (po_N_drawArrows cA a xStraight xLeast nPosts nThirds nCorners nSums aBehind aAhead aCells aBefore aAfter gCorners gLowest gFirst gFresh gThere gRow gPlaces gOver gVia gQueue bTold bStraight bLeast bPostsOf bSets bTotals Q) (xB D cA A) A) args s 0 0 A) (F0 m 10 ls []) := by
  intro n
  induction n with
  | zero => intro x1 nArrows h; exact (show False from h).elim
  | succ n hK10 =>
    intro x1 nArrows h H locs ls hH hl
    have h : wp_N_drawArrows_10_b  (wp_N_drawArrows_10 Q nThirds nCorners n) Q nThirds nCorners  x1 nArrows := h
    unfold wp_N_drawArrows_10_b at h
    refine j_iload_n C dX3_drawArrows_10 (lv_at hl 1 rfl) ?_
    refine j_aload_n C dX3_drawArrows_11 (lv_at hl 0 rfl) ?_
    refine xg_X3_thirds C hH dX3_drawArrows_12 ?_
    obtain ⟨g_1, h⟩ := h
    obtain ⟨g_2, h⟩ := h
    refine j_icmp_ge C 94 g_1 g_2 dX3_drawArrows_15 (by decide) (fun c_3 => ?_) (fun c_3 => ?_)
    · have h := h.1 c_3
      exact j_vret C hH ⟨_, rfl, h⟩ dX3_drawArrows_94
    · have h := h.2 c_3
      refine j_aload_n C dX3_drawArrows_18 (lv_at hl 0 rfl) ?_
      refine xg_X3_corners C hH dX3_drawArrows_19 ?_
      refine j_iconst C dX3_drawArrows_22 ?_
      refine j_iload_n C dX3_drawArrows_23 (lv_at hl 1 rfl) ?_
      refine j_imul C dX3_drawArrows_24 ?_
      obtain ⟨b_4, h⟩ := h
      refine xa_nCorners C hH b_4 dX3_drawArrows_25 ?_
      refine j_istore_n (lv' := [(2, .int (J (nCorners (3 * x1).toNat))), (0, .ref (a 1)), (1, .int (J x1))]) C dX3_drawArrows_26 hl (by decide) rfl (fun ls hl => ?_)
      refine j_aload_n C dX3_drawArrows_27 (lv_at hl 1 rfl) ?_
      refine xg_X3_corners C hH dX3_drawArrows_28 ?_
      refine j_iconst C dX3_drawArrows_31 ?_
      refine j_iload_n C dX3_drawArrows_32 (lv_at hl 2 rfl) ?_
      refine j_imul C dX3_drawArrows_33 ?_
      refine j_iconst C dX3_drawArrows_34 ?_
      refine j_iadd C dX3_drawArrows_35 ?_
      obtain ⟨b_5, h⟩ := h
      refine xa_nCorners C hH b_5 dX3_drawArrows_36 ?_
      refine j_istore_n (lv' := [(3, .int (J (nCorners ((3 * x1) + 1).toNat))), (2, .int (J (nCorners (3 * x1).toNat))), (0, .ref (a 1)), (1, .int (J x1))]) C dX3_drawArrows_37 hl (by decide) rfl (fun ls hl => ?_)
      refine j_aload_n C dX3_drawArrows_38 (lv_at hl 2 rfl) ?_
      refine xg_X3_corners C hH dX3_drawArrows_39 ?_
      refine j_iconst C dX3_drawArrows_42 ?_
      refine j_iload_n C dX3_drawArrows_43 (lv_at hl 3 rfl) ?_
      refine j_imul C dX3_drawArrows_44 ?_
      refine j_iconst C dX3_drawArrows_45 ?_
      refine j_iadd C dX3_drawArrows_46 ?_
      obtain ⟨b_6, h⟩ := h
      refine xa_nCorners C hH b_6 dX3_drawArrows_47 ?_
      refine j_istore (lv' := [(4, .int (J (nCorners ((3 * x1) + 2).toNat))), (3, .int (J (nCorners ((3 * x1) + 1).toNat))), (2, .int (J (nCorners (3 * x1).toNat))), (0, .ref (a 1)), (1, .int (J x1))]) C dX3_drawArrows_48 hl (by decide) rfl (fun ls hl => ?_)
      refine j_aload_n C dX3_drawArrows_50 (lv_at hl 3 rfl) ?_
      refine xg_X3_arrows C hH dX3_drawArrows_51 ?_
      refine j_iload_n C dX3_drawArrows_54 (lv_at hl 2 rfl) ?_
      refine j_bipush C (by decide +kernel) dX3_drawArrows_55 ?_
      refine j_imul C dX3_drawArrows_57 ?_
      refine j_iload_n C dX3_drawArrows_58 (lv_at hl 1 rfl) ?_
      refine j_iadd C dX3_drawArrows_59 ?_
      refine j_iload_n C dX3_drawArrows_60 (lv_at hl 4 rfl) ?_
      obtain ⟨b_7, h⟩ := h
      refine xs_nArrows C hH b_7 dX3_drawArrows_61 (fun nArrows_8 e_nArrows_8 H locs hH => ?_)
      have h := h nArrows_8 e_nArrows_8
      refine j_aload_n C dX3_drawArrows_62 (lv_at hl 3 rfl) ?_
      refine xg_X3_arrows C hH dX3_drawArrows_63 ?_
      refine j_iload_n C dX3_drawArrows_66 (lv_at hl 1 rfl) ?_
      refine j_bipush C (by decide +kernel) dX3_drawArrows_67 ?_
      refine j_imul C dX3_drawArrows_69 ?_
      refine j_iload C dX3_drawArrows_70 (lv_at hl 0 rfl) ?_
      refine j_iadd C dX3_drawArrows_72 ?_
      refine j_iload_n C dX3_drawArrows_73 (lv_at hl 4 rfl) ?_
      obtain ⟨b_9, h⟩ := h
      refine xs_nArrows C hH b_9 dX3_drawArrows_74 (fun nArrows_10 e_nArrows_10 H locs hH => ?_)
      have h := h nArrows_10 e_nArrows_10
      refine j_aload_n C dX3_drawArrows_75 (lv_at hl 3 rfl) ?_
      refine xg_X3_arrows C hH dX3_drawArrows_76 ?_
      refine j_iload C dX3_drawArrows_79 (lv_at hl 0 rfl) ?_
      refine j_bipush C (by decide +kernel) dX3_drawArrows_81 ?_
      refine j_imul C dX3_drawArrows_83 ?_
      refine j_iload_n C dX3_drawArrows_84 (lv_at hl 2 rfl) ?_
      refine j_iadd C dX3_drawArrows_85 ?_
      refine j_iload_n C dX3_drawArrows_86 (lv_at hl 4 rfl) ?_
      obtain ⟨b_11, h⟩ := h
      refine xs_nArrows C hH b_11 dX3_drawArrows_87 (fun nArrows_12 e_nArrows_12 H locs hH => ?_)
      have h := h nArrows_12 e_nArrows_12
      refine j_iinc (k := 4) (v := x1 + 1) (lv' := [(1, .int (J (x1 + 1))), (4, .int (J (nCorners ((3 * x1) + 2).toNat))), (3, .int (J (nCorners ((3 * x1) + 1).toNat))), (2, .int (J (nCorners (3 * x1).toNat))), (0, .ref (a 1))]) C dX3_drawArrows_88 hl rfl rfl (by decide) rfl (fun ls hl => ?_)
      refine j_goto C 10 dX3_drawArrows_91 (by decide) ?_
      exact hK10 (x1 + 1) nArrows_12 h _ _ _ hH (lv_sub hl [4, 0] rfl)
set_option maxRecDepth 4000 in
theorem c_N_drawArrows {l : Launch} {D : va_G} {cA : ClassId} {a : Nat → Nat} {sz : Nat} {xStraight xLeast nPosts nThirds : Int} {nCorners nSums nArrows : Nat → Int} {aBehind aAhead : Int} {aCells aBefore aAfter : Nat → Int} {gCorners gLowest gFirst gFresh gThere : Int} {gRow gPlaces gOver gVia gQueue : Nat → Int} {bTold bStraight bLeast : Int} {bPostsOf bSets bTotals : Nat → Int} {Q : (Nat → Int) → Prop} (h : wp_N_drawArrows  nThirds nCorners nArrows Q) : Met l yX3_drawArrows (.code yX3_drawArrows cX3_drawArrows 5 none :: lw_ok) rm_N_drawArrows (xPre D cA sz [.ref (a 1)] (wX cA a xStraight xLeast nPosts nThirds nCorners nSums nArrows aBehind aAhead aCells aBefore aAfter gCorners gLowest gFirst gFresh gThere gRow gPlaces gOver gVia gQueue bTold bStraight bLeast bPostsOf bSets bTotals)) (va_Qv (po_N_drawArrows cA a xStraight xLeast nPosts nThirds nCorners nSums aBehind aAhead aCells aBefore aAfter gCorners gLowest gFirst gFresh gThere gRow gPlaces gOver gVia gQueue bTold bStraight bLeast bPostsOf bSets bTotals Q) (xB D cA (va_A (wX cA a xStraight xLeast nPosts nThirds nCorners nSums nArrows aBehind aAhead aCells aBefore aAfter gCorners gLowest gFirst gFresh gThere gRow gPlaces gOver gVia gQueue bTold bStraight bLeast bPostsOf bSets bTotals) sz)) (va_A (wX cA a xStraight xLeast nPosts nThirds nCorners nSums nArrows aBehind aAhead aCells aBefore aAfter gCorners gLowest gFirst gFresh gThere gRow gPlaces gOver gVia gQueue bTold bStraight bLeast bPostsOf bSets bTotals) sz)) 0 0 (va_A (wX cA a xStraight xLeast nPosts nThirds nCorners nSums nArrows aBehind aAhead aCells aBefore aAfter gCorners gLowest gFirst gFresh gThere gRow gPlaces gOver gVia gQueue bTold bStraight bLeast bPostsOf bSets bTotals) sz) := by
  refine xmet_v (by decide) (Nat.le_of_ble_eq_true rfl) ?_
  intro p e s m args below meth c A ls C hH hl
  have C : XC p s m args meth c cX3_drawArrows 5 RX3 none D cA A := C
  have hl : lv_has ls 5 [(0, .ref (a 1))] := hl
  unfold wp_N_drawArrows at h
  refine j_aload_n C dX3_drawArrows_0 (lv_at hl 0 rfl) ?_
  refine xg_X3_arrows C hH dX3_drawArrows_1 ?_
  refine j_iconst C dX3_drawArrows_4 ?_
  refine xcallS_v (As := [.ref (a 4), .int (J (-1))]) (rest := []) C hH (fun sz => c_I_fill 4 rfl (by decide)) xl_X3_28 ⟨rfl, rfl⟩ ⟨Nat.le_of_ble_eq_true rfl, Nat.le_of_ble_eq_true rfl⟩ hl.1 rfl rfl (Nat.le_of_ble_eq_true rfl) dX3_drawArrows_5 (fun w_ H locs hw hH => ?_)
  obtain ⟨nArrows_13, e_nArrows_13⟩ : ∃ f, f = fillf nArrows 81 (-1) := ⟨_, rfl⟩
  have h := h nArrows_13 e_nArrows_13
  subst hw
  rw [← e_nArrows_13] at hH
  have hH : XH D A s (wX cA a xStraight xLeast nPosts nThirds nCorners nSums nArrows_13 aBehind aAhead aCells aBefore aAfter gCorners gLowest gFirst gFresh gThere gRow gPlaces gOver gVia gQueue bTold bStraight bLeast bPostsOf bSets bTotals) H locs := hH
  refine j_iconst C dX3_drawArrows_8 ?_
  refine j_istore_n (lv' := [(1, .int (J 0)), (0, .ref (a 1))]) C dX3_drawArrows_9 hl (by decide) rfl (fun ls hl => ?_)
  obtain ⟨n_, h⟩ := h
  exact w_N_drawArrows_10 C  n_ 0 nArrows_13 h _ _ _ hH (lv_sub hl [1, 0] rfl)
abbrev po_N_put (cA : ClassId) (a : Nat → Nat) (xStraight xLeast nPosts : Int) (nArrows : Nat → Int) (aBehind aAhead : Int) (aCells aBefore aAfter : Nat → Int) (gCorners gLowest gFirst gFresh gThere : Int) (gRow gPlaces gOver gVia gQueue : Nat → Int) (bTold bStraight bLeast : Int) (bPostsOf bSets bTotals : Nat → Int) (Q : Int → (Nat → Int) → (Nat → Int) → Prop) : va_W → Prop := fun w => ∃ nThirds' nCorners' nSums', w = wX cA a xStraight xLeast nPosts nThirds' nCorners' nSums' nArrows aBehind aAhead aCells aBefore aAfter gCorners gLowest gFirst gFresh gThere gRow gPlaces gOver gVia gQueue bTold bStraight bLeast bPostsOf bSets bTotals ∧ Q nThirds' nCorners' nSums'
set_option maxRecDepth 4000 in
theorem c_N_put {l : Launch} {D : va_G} {cA : ClassId} {a : Nat → Nat} {sz : Nat} {xStraight xLeast nPosts nThirds : Int} {nCorners nSums nArrows : Nat → Int} {aBehind aAhead : Int} {aCells aBefore aAfter : Nat → Int} {gCorners gLowest gFirst gFresh gThere : Int} {gRow gPlaces gOver gVia gQueue : Nat → Int} {bTold bStraight bLeast : Int} {bPostsOf bSets bTotals : Nat → Int} {x1 x2 : Int} {Q : Int → (Nat → Int) → (Nat → Int) → Prop} (h : wp_N_put x1 x2 nThirds nCorners nSums Q) : Met l yX3_put (.code yX3_put cX3_put 3 none :: lw_ok) rm_N_put (xPre D cA sz [.ref (a 1), .int (J x1), .int (J x2)] (wX cA a xStraight xLeast nPosts nThirds nCorners nSums nArrows aBehind aAhead aCells aBefore aAfter gCorners gLowest gFirst gFresh gThere gRow gPlaces gOver gVia gQueue bTold bStraight bLeast bPostsOf bSets bTotals)) (va_Qv (po_N_put cA a xStraight xLeast nPosts nArrows aBehind aAhead aCells aBefore aAfter gCorners gLowest gFirst gFresh gThere gRow gPlaces gOver gVia gQueue bTold bStraight bLeast bPostsOf bSets bTotals Q) (xB D cA (va_A (wX cA a xStraight xLeast nPosts nThirds nCorners nSums nArrows aBehind aAhead aCells aBefore aAfter gCorners gLowest gFirst gFresh gThere gRow gPlaces gOver gVia gQueue bTold bStraight bLeast bPostsOf bSets bTotals) sz)) (va_A (wX cA a xStraight xLeast nPosts nThirds nCorners nSums nArrows aBehind aAhead aCells aBefore aAfter gCorners gLowest gFirst gFresh gThere gRow gPlaces gOver gVia gQueue bTold bStraight bLeast bPostsOf bSets bTotals) sz)) 0 0 (va_A (wX cA a xStraight xLeast nPosts nThirds nCorners nSums nArrows aBehind aAhead aCells aBefore aAfter gCorners gLowest gFirst gFresh gThere gRow gPlaces gOver gVia gQueue bTold bStraight bLeast bPostsOf bSets bTotals) sz) := by
  refine xmet_v (by decide) (Nat.le_of_ble_eq_true rfl) ?_
  intro p e s m args below meth c A ls C hH hl
  have C : XC p s m args meth c cX3_put 3 RX3 none D cA A := C
  have hl : lv_has ls 3 [(0, .ref (a 1)), (1, .int (J x1)), (2, .int (J x2))] := hl
  unfold wp_N_put at h
  refine j_iload_n C dX3_put_0 (lv_at hl 1 rfl) ?_
  obtain ⟨g_1, h⟩ := h
  refine j_if_lt C 10 g_1 dX3_put_1 (by decide) (fun c_2 => ?_) (fun c_2 => ?_)
  · have h := h.1 c_2
    exact j_vret C hH ⟨_, _, _, rfl, h⟩ dX3_put_10
  · have h := h.2 c_2
    refine j_iload_n C dX3_put_4 (lv_at hl 1 rfl) ?_
    refine j_bipush C (by decide +kernel) dX3_put_5 ?_
    refine j_icmp_lt C 11 g_1 (by unfold jR; decide) dX3_put_7 (by decide) (fun c_3 => ?_) (fun c_3 => ?_)
    · have h := h.1 c_3
      refine j_iload_n C dX3_put_11 (lv_at hl 1 rfl) ?_
      refine j_bipush C (by decide +kernel) dX3_put_12 ?_
      refine j_icmp_lt C 30 g_1 (by unfold jR; decide) dX3_put_14 (by decide) (fun c_4 => ?_) (fun c_4 => ?_)
      · have h := h.1 c_4
        refine j_iload_n C dX3_put_30 (lv_at hl 2 rfl) ?_
        refine j_iconst C dX3_put_31 ?_
        obtain ⟨g_5, h⟩ := h
        refine j_icmp_ne C 43 g_5 (by unfold jR; decide) dX3_put_32 (by decide) (fun c_6 => ?_) (fun c_6 => ?_)
        · have h := h.2 c_6
          refine j_aload_n C dX3_put_43 (lv_at hl 0 rfl) ?_
          refine xg_X3_corners C hH dX3_put_44 ?_
          refine j_iconst C dX3_put_47 ?_
          refine j_iload_n C dX3_put_48 (lv_at hl 1 rfl) ?_
          refine j_imul C dX3_put_49 ?_
          refine j_iload_n C dX3_put_50 (lv_at hl 2 rfl) ?_
          refine j_bipush C (by decide +kernel) dX3_put_51 ?_
          refine j_iand C dX3_put_53 ?_
          obtain ⟨b_7, h⟩ := h
          refine xs_nCorners C hH b_7 dX3_put_54 (fun nCorners_8 e_nCorners_8 H locs hH => ?_)
          have h := h nCorners_8 e_nCorners_8
          refine j_aload_n C dX3_put_55 (lv_at hl 0 rfl) ?_
          refine xg_X3_corners C hH dX3_put_56 ?_
          refine j_iconst C dX3_put_59 ?_
          refine j_iload_n C dX3_put_60 (lv_at hl 1 rfl) ?_
          refine j_imul C dX3_put_61 ?_
          refine j_iconst C dX3_put_62 ?_
          refine j_iadd C dX3_put_63 ?_
          refine j_iload_n C dX3_put_64 (lv_at hl 2 rfl) ?_
          refine j_iconst C dX3_put_65 ?_
          refine j_ishr C dX3_put_66 ?_
          refine j_bipush C (by decide +kernel) dX3_put_67 ?_
          refine j_iand C dX3_put_69 ?_
          obtain ⟨b_9, h⟩ := h
          refine xs_nCorners C hH b_9 dX3_put_70 (fun nCorners_10 e_nCorners_10 H locs hH => ?_)
          have h := h nCorners_10 e_nCorners_10
          refine j_aload_n C dX3_put_71 (lv_at hl 0 rfl) ?_
          refine xg_X3_corners C hH dX3_put_72 ?_
          refine j_iconst C dX3_put_75 ?_
          refine j_iload_n C dX3_put_76 (lv_at hl 1 rfl) ?_
          refine j_imul C dX3_put_77 ?_
          refine j_iconst C dX3_put_78 ?_
          refine j_iadd C dX3_put_79 ?_
          refine j_iload_n C dX3_put_80 (lv_at hl 2 rfl) ?_
          refine j_bipush C (by decide +kernel) dX3_put_81 ?_
          refine j_ishr C dX3_put_83 ?_
          refine j_bipush C (by decide +kernel) dX3_put_84 ?_
          refine j_iand C dX3_put_86 ?_
          obtain ⟨b_11, h⟩ := h
          refine xs_nCorners C hH b_11 dX3_put_87 (fun nCorners_12 e_nCorners_12 H locs hH => ?_)
          have h := h nCorners_12 e_nCorners_12
          refine j_aload_n C dX3_put_88 (lv_at hl 0 rfl) ?_
          refine j_aload_n C dX3_put_89 (lv_at hl 0 rfl) ?_
          refine xg_X3_thirds C hH dX3_put_90 ?_
          refine j_iload_n C dX3_put_93 (lv_at hl 1 rfl) ?_
          refine j_iconst C dX3_put_94 ?_
          refine j_iadd C dX3_put_95 ?_
          refine j_mmax C hl.1 wl_X3_41 ⟨Nat.le_of_ble_eq_true rfl, Nat.le_of_ble_eq_true rfl⟩ dX3_put_96 ?_
          refine xp_X3_thirds C hH dX3_put_99 (fun H locs hH => ?_)
          exact j_vret C hH ⟨_, _, _, rfl, h⟩ dX3_put_102
        · have h := h.1 c_6
          refine j_aload_n C dX3_put_35 (lv_at hl 0 rfl) ?_
          refine j_iload_n C dX3_put_36 (lv_at hl 1 rfl) ?_
          refine xp_X3_thirds C hH dX3_put_37 (fun H locs hH => ?_)
          refine j_goto C 102 dX3_put_40 (by decide) ?_
          exact j_vret C hH ⟨_, _, _, rfl, h⟩ dX3_put_102
      · have h := h.2 c_4
        refine j_aload_n C dX3_put_17 (lv_at hl 0 rfl) ?_
        refine xg_X3_sums C hH dX3_put_18 ?_
        refine j_iload_n C dX3_put_21 (lv_at hl 1 rfl) ?_
        refine j_bipush C (by decide +kernel) dX3_put_22 ?_
        refine j_isub C dX3_put_24 ?_
        refine j_iload_n C dX3_put_25 (lv_at hl 2 rfl) ?_
        obtain ⟨b_13, h⟩ := h
        refine xs_nSums C hH b_13 dX3_put_26 (fun nSums_14 e_nSums_14 H locs hH => ?_)
        have h := h nSums_14 e_nSums_14
        refine j_goto C 102 dX3_put_27 (by decide) ?_
        exact j_vret C hH ⟨_, _, _, rfl, h⟩ dX3_put_102
    · have h := h.2 c_3
      exact j_vret C hH ⟨_, _, _, rfl, h⟩ dX3_put_10
abbrev po_A_putAll_a (cA : ClassId) (a : Nat → Nat) (xStraight xLeast nPosts aBehind aAhead : Int) (aCells aBefore aAfter : Nat → Int) (gCorners gLowest gFirst gFresh gThere : Int) (gRow gPlaces gOver gVia gQueue : Nat → Int) (bTold bStraight bLeast : Int) (bPostsOf bSets bTotals : Nat → Int) (Q : Int → (Nat → Int) → (Nat → Int) → (Nat → Int) → Prop) : va_W → Prop := fun w => ∃ nThirds' nCorners' nSums' nArrows', w = wX cA a xStraight xLeast nPosts nThirds' nCorners' nSums' nArrows' aBehind aAhead aCells aBefore aAfter gCorners gLowest gFirst gFresh gThere gRow gPlaces gOver gVia gQueue bTold bStraight bLeast bPostsOf bSets bTotals ∧ Q nThirds' nCorners' nSums' nArrows'
set_option maxRecDepth 4000 in
theorem w_A_putAll_a_2 {p : Program} {l : Launch} {e : Env} {s : State} {m : MethodId} {args : Array Value} {below : List Frame} {meth : Method} {c : Code} {D : va_G} {cA : ClassId} {A : Nat → Prop} {a : Nat → Nat} {xStraight xLeast nPosts : Int} {nArrows : Nat → Int} {aBehind aAhead : Int} {aCells aBefore aAfter : Nat → Int} {gCorners gLowest gFirst gFresh gThere : Int} {gRow gPlaces gOver gVia gQueue : Nat → Int} {bTold bStraight bLeast : Int} {bPostsOf bSets bTotals : Nat → Int} (C : XC p s m args meth c cX0_putAll 5 RX0 none D cA A) {Q : Int → (Nat → Int) → (Nat → Int) → (Nat → Int) → Prop}  : ∀ (n : Nat) (x3 : Int) (nThirds : Int) (nCorners : Nat → Int) (nSums : Nat → Int), wp_A_putAll_a_2 Q aBehind aCells aAfter nArrows n x3 nThirds nCorners nSums → ∀ (H : Heap) (locs : List Loc) (ls : Array Slot), XH D A s (wX cA a xStraight xLeast nPosts nThirds nCorners nSums nArrows aBehind aAhead aCells aBefore aAfter gCorners gLowest gFirst gFresh gThere gRow gPlaces gOver gVia gQueue bTold bStraight bLeast bPostsOf bSets bTotals) H locs → lv_has ls 5 [(0, .ref (a 5)), (1, .ref (a 1)), (2, .ref (a 8)), (3, .int (J x3))] → W p l e rm_A_putAll_a s m args below meth c H locs 0 0 (MQ below (va_Qv (po_A_putAll_a cA a xStraight xLeast nPosts aBehind aAhead aCells aBefore aAfter gCorners gLowest gFirst gFresh gThere gRow gPlaces gOver gVia gQueue bTold bStraight bLeast bPostsOf bSets bTotals Q) (xB D cA A) A) args s 0 0 A) (F0 m 2 ls []) := by
  intro n
  induction n with
  | zero => intro x3 nThirds nCorners nSums h; exact (show False from h).elim
  | succ n hK2 =>
    intro x3 nThirds nCorners nSums h H locs ls hH hl
    have h : wp_A_putAll_a_2_b  (wp_A_putAll_a_2 Q aBehind aCells aAfter nArrows n) Q aBehind aCells aAfter nArrows x3 nThirds nCorners nSums := h
    unfold wp_A_putAll_a_2_b at h
    refine j_iload_n C dX0_putAll_2 (lv_at hl 3 rfl) ?_
    refine j_iconst C dX0_putAll_3 ?_
    obtain ⟨g_1, h⟩ := h
    refine j_icmp_ge C 38 g_1 (by unfold jR; decide) dX0_putAll_4 (by decide) (fun c_2 => ?_) (fun c_2 => ?_)
    · have h := h.1 c_2
      refine j_aload_n C dX0_putAll_38 (lv_at hl 1 rfl) ?_
      refine xcallV_v (As := []) (rest := []) (q0 := 1) C hH (fun sz => c_N_drawArrows h) xl_X0_46 rfl rfl ⟨rfl, rfl⟩ ⟨Nat.le_of_ble_eq_true rfl, Nat.le_of_ble_eq_true rfl⟩ hl.1 rfl rfl (Nat.le_of_ble_eq_true rfl) dX0_putAll_39 (fun w_ H locs hw hH => ?_)
      obtain ⟨nArrows_3, rfl, h⟩ := hw
      exact j_vret C hH ⟨_, _, _, _, rfl, h⟩ dX0_putAll_42
    · have h := h.2 c_2
      refine j_iconst C dX0_putAll_7 ?_
      refine j_aload_n C dX0_putAll_8 (lv_at hl 0 rfl) ?_
      refine xg_X0_behind C hH dX0_putAll_9 ?_
      refine j_imul C dX0_putAll_12 ?_
      refine j_iload_n C dX0_putAll_13 (lv_at hl 3 rfl) ?_
      refine j_iadd C dX0_putAll_14 ?_
      refine j_istore (lv' := [(4, .int (J ((2 * aBehind) + x3))), (0, .ref (a 5)), (1, .ref (a 1)), (2, .ref (a 8)), (3, .int (J x3))]) C dX0_putAll_15 hl (by decide) rfl (fun ls hl => ?_)
      refine j_aload_n C dX0_putAll_17 (lv_at hl 2 rfl) ?_
      refine j_aload_n C dX0_putAll_18 (lv_at hl 1 rfl) ?_
      refine xg_X0_cells C hH dX0_putAll_19 ?_
      refine j_iload C dX0_putAll_22 (lv_at hl 0 rfl) ?_
      obtain ⟨b_4, h⟩ := h
      refine xa_aCells C hH b_4 dX0_putAll_24 ?_
      refine j_aload_n C dX0_putAll_25 (lv_at hl 3 rfl) ?_
      refine j_iload C dX0_putAll_26 (lv_at hl 0 rfl) ?_
      refine xa_aAfter C hH b_4 dX0_putAll_28 ?_
      refine xcallV_v (As := [.int (J (aCells ((2 * aBehind) + x3).toNat)), .int (J (aAfter ((2 * aBehind) + x3).toNat))]) (rest := []) (q0 := 1) C hH (fun sz => c_N_put h) xl_X0_40 rfl rfl ⟨rfl, rfl⟩ ⟨Nat.le_of_ble_eq_true rfl, Nat.le_of_ble_eq_true rfl⟩ hl.1 rfl rfl (Nat.le_of_ble_eq_true rfl) dX0_putAll_29 (fun w_ H locs hw hH => ?_)
      obtain ⟨nThirds_5, nCorners_6, nSums_7, rfl, h⟩ := hw
      refine j_iinc (k := 4) (v := x3 + 1) (lv' := [(3, .int (J (x3 + 1))), (4, .int (J ((2 * aBehind) + x3))), (0, .ref (a 5)), (1, .ref (a 1)), (2, .ref (a 8))]) C dX0_putAll_32 hl rfl rfl (by decide) rfl (fun ls hl => ?_)
      refine j_goto C 2 dX0_putAll_35 (by decide) ?_
      exact hK2 (x3 + 1) nThirds_5 nCorners_6 nSums_7 h _ _ _ hH (lv_sub hl [2, 3, 4, 0] rfl)
set_option maxRecDepth 4000 in
theorem c_A_putAll_a {l : Launch} {D : va_G} {cA : ClassId} {a : Nat → Nat} {sz : Nat} {xStraight xLeast nPosts nThirds : Int} {nCorners nSums nArrows : Nat → Int} {aBehind aAhead : Int} {aCells aBefore aAfter : Nat → Int} {gCorners gLowest gFirst gFresh gThere : Int} {gRow gPlaces gOver gVia gQueue : Nat → Int} {bTold bStraight bLeast : Int} {bPostsOf bSets bTotals : Nat → Int} {Q : Int → (Nat → Int) → (Nat → Int) → (Nat → Int) → Prop} (h : wp_A_putAll_a  nThirds nCorners nSums nArrows aBehind aCells aAfter Q) : Met l yX0_putAll (.code yX0_putAll cX0_putAll 5 none :: lw_ok) rm_A_putAll_a (xPre D cA sz [.ref (a 5), .ref (a 1), .ref (a 8)] (wX cA a xStraight xLeast nPosts nThirds nCorners nSums nArrows aBehind aAhead aCells aBefore aAfter gCorners gLowest gFirst gFresh gThere gRow gPlaces gOver gVia gQueue bTold bStraight bLeast bPostsOf bSets bTotals)) (va_Qv (po_A_putAll_a cA a xStraight xLeast nPosts aBehind aAhead aCells aBefore aAfter gCorners gLowest gFirst gFresh gThere gRow gPlaces gOver gVia gQueue bTold bStraight bLeast bPostsOf bSets bTotals Q) (xB D cA (va_A (wX cA a xStraight xLeast nPosts nThirds nCorners nSums nArrows aBehind aAhead aCells aBefore aAfter gCorners gLowest gFirst gFresh gThere gRow gPlaces gOver gVia gQueue bTold bStraight bLeast bPostsOf bSets bTotals) sz)) (va_A (wX cA a xStraight xLeast nPosts nThirds nCorners nSums nArrows aBehind aAhead aCells aBefore aAfter gCorners gLowest gFirst gFresh gThere gRow gPlaces gOver gVia gQueue bTold bStraight bLeast bPostsOf bSets bTotals) sz)) 0 0 (va_A (wX cA a xStraight xLeast nPosts nThirds nCorners nSums nArrows aBehind aAhead aCells aBefore aAfter gCorners gLowest gFirst gFresh gThere gRow gPlaces gOver gVia gQueue bTold bStraight bLeast bPostsOf bSets bTotals) sz) := by
  refine xmet_v (by decide) (Nat.le_of_ble_eq_true rfl) ?_
  intro p e s m args below meth c A ls C hH hl
  have C : XC p s m args meth c cX0_putAll 5 RX0 none D cA A := C
  have hl : lv_has ls 5 [(0, .ref (a 5)), (1, .ref (a 1)), (2, .ref (a 8))] := hl
  unfold wp_A_putAll_a at h
  refine j_iconst C dX0_putAll_0 ?_
  refine j_istore_n (lv' := [(3, .int (J 0)), (0, .ref (a 5)), (1, .ref (a 1)), (2, .ref (a 8))]) C dX0_putAll_1 hl (by decide) rfl (fun ls hl => ?_)
  obtain ⟨n_, h⟩ := h
  exact w_A_putAll_a_2 C  n_ 0 nThirds nCorners nSums h _ _ _ hH (lv_sub hl [1, 2, 3, 0] rfl)
abbrev po_A_forward (cA : ClassId) (a : Nat → Nat) (xStraight xLeast nPosts : Int) (aCells aBefore aAfter : Nat → Int) (gCorners gLowest gFirst gFresh gThere : Int) (gRow gPlaces gOver gVia gQueue : Nat → Int) (bTold bStraight bLeast : Int) (bPostsOf bSets bTotals : Nat → Int) (Q : Int → (Nat → Int) → (Nat → Int) → (Nat → Int) → Int → Int → Prop) : va_W → Prop := fun w => ∃ nThirds' nCorners' nSums' nArrows' aBehind' aAhead', w = wX cA a xStraight xLeast nPosts nThirds' nCorners' nSums' nArrows' aBehind' aAhead' aCells aBefore aAfter gCorners gLowest gFirst gFresh gThere gRow gPlaces gOver gVia gQueue bTold bStraight bLeast bPostsOf bSets bTotals ∧ Q nThirds' nCorners' nSums' nArrows' aBehind' aAhead'
set_option maxRecDepth 4000 in
theorem c_A_forward {l : Launch} {D : va_G} {cA : ClassId} {a : Nat → Nat} {sz : Nat} {xStraight xLeast nPosts nThirds : Int} {nCorners nSums nArrows : Nat → Int} {aBehind aAhead : Int} {aCells aBefore aAfter : Nat → Int} {gCorners gLowest gFirst gFresh gThere : Int} {gRow gPlaces gOver gVia gQueue : Nat → Int} {bTold bStraight bLeast : Int} {bPostsOf bSets bTotals : Nat → Int} {Q : Int → (Nat → Int) → (Nat → Int) → (Nat → Int) → Int → Int → Prop} (h : wp_A_forward  nThirds nCorners nSums nArrows aBehind aAhead aCells aAfter Q) : Met l yX0_forward (.code yX0_forward cX0_forward 2 none :: lw_ok) rm_A_forward (xPre D cA sz [.ref (a 5), .ref (a 1)] (wX cA a xStraight xLeast nPosts nThirds nCorners nSums nArrows aBehind aAhead aCells aBefore aAfter gCorners gLowest gFirst gFresh gThere gRow gPlaces gOver gVia gQueue bTold bStraight bLeast bPostsOf bSets bTotals)) (va_Qv (po_A_forward cA a xStraight xLeast nPosts aCells aBefore aAfter gCorners gLowest gFirst gFresh gThere gRow gPlaces gOver gVia gQueue bTold bStraight bLeast bPostsOf bSets bTotals Q) (xB D cA (va_A (wX cA a xStraight xLeast nPosts nThirds nCorners nSums nArrows aBehind aAhead aCells aBefore aAfter gCorners gLowest gFirst gFresh gThere gRow gPlaces gOver gVia gQueue bTold bStraight bLeast bPostsOf bSets bTotals) sz)) (va_A (wX cA a xStraight xLeast nPosts nThirds nCorners nSums nArrows aBehind aAhead aCells aBefore aAfter gCorners gLowest gFirst gFresh gThere gRow gPlaces gOver gVia gQueue bTold bStraight bLeast bPostsOf bSets bTotals) sz)) 0 0 (va_A (wX cA a xStraight xLeast nPosts nThirds nCorners nSums nArrows aBehind aAhead aCells aBefore aAfter gCorners gLowest gFirst gFresh gThere gRow gPlaces gOver gVia gQueue bTold bStraight bLeast bPostsOf bSets bTotals) sz) := by
  refine xmet_v (by decide) (Nat.le_of_ble_eq_true rfl) ?_
  intro p e s m args below meth c A ls C hH hl
  have C : XC p s m args meth c cX0_forward 2 RX0 none D cA A := C
  have hl : lv_has ls 2 [(0, .ref (a 5)), (1, .ref (a 1))] := hl
  unfold wp_A_forward at h
  refine j_aload_n C dX0_forward_0 (lv_at hl 0 rfl) ?_
  refine xg_X0_ahead C hH dX0_forward_1 ?_
  obtain ⟨g_1, h⟩ := h
  refine j_if_le C 36 g_1 dX0_forward_4 (by decide) (fun c_2 => ?_) (fun c_2 => ?_)
  · have h := h.1 c_2
    exact j_vret C hH ⟨_, _, _, _, _, _, rfl, h⟩ dX0_forward_36
  · have h := h.2 c_2
    refine j_aload_n C dX0_forward_7 (lv_at hl 0 rfl) ?_
    refine j_aload_n C dX0_forward_8 (lv_at hl 1 rfl) ?_
    refine j_aload_n C dX0_forward_9 (lv_at hl 0 rfl) ?_
    refine xg_X0_after C hH dX0_forward_10 ?_
    refine xcallV_v (As := [.ref (a 1), .ref (a 8)]) (rest := []) (q0 := 5) C hH (fun sz => c_A_putAll_a h) xl_X0_36 rfl rfl ⟨rfl, rfl⟩ ⟨Nat.le_of_ble_eq_true rfl, Nat.le_of_ble_eq_true rfl⟩ hl.1 rfl rfl (Nat.le_of_ble_eq_true rfl) dX0_forward_13 (fun w_ H locs hw hH => ?_)
    obtain ⟨nThirds_3, nCorners_4, nSums_5, nArrows_6, rfl, h⟩ := hw
    refine j_aload_n C dX0_forward_16 (lv_at hl 0 rfl) ?_
    refine j_dup C rfl dX0_forward_17 ?_
    refine xg_X0_behind C hH dX0_forward_18 ?_
    refine j_iconst C dX0_forward_21 ?_
    refine j_iadd C dX0_forward_22 ?_
    refine xp_X0_behind C hH dX0_forward_23 (fun H locs hH => ?_)
    refine j_aload_n C dX0_forward_26 (lv_at hl 0 rfl) ?_
    refine j_dup C rfl dX0_forward_27 ?_
    refine xg_X0_ahead C hH dX0_forward_28 ?_
    refine j_iconst C dX0_forward_31 ?_
    refine j_isub C dX0_forward_32 ?_
    refine xp_X0_ahead C hH dX0_forward_33 (fun H locs hH => ?_)
    exact j_vret C hH ⟨_, _, _, _, _, _, rfl, h⟩ dX0_forward_36
abbrev po_A_putAll_b (cA : ClassId) (a : Nat → Nat) (xStraight xLeast nPosts aBehind aAhead : Int) (aCells aBefore aAfter : Nat → Int) (gCorners gLowest gFirst gFresh gThere : Int) (gRow gPlaces gOver gVia gQueue : Nat → Int) (bTold bStraight bLeast : Int) (bPostsOf bSets bTotals : Nat → Int) (Q : Int → (Nat → Int) → (Nat → Int) → (Nat → Int) → Prop) : va_W → Prop := fun w => ∃ nThirds' nCorners' nSums' nArrows', w = wX cA a xStraight xLeast nPosts nThirds' nCorners' nSums' nArrows' aBehind aAhead aCells aBefore aAfter gCorners gLowest gFirst gFresh gThere gRow gPlaces gOver gVia gQueue bTold bStraight bLeast bPostsOf bSets bTotals ∧ Q nThirds' nCorners' nSums' nArrows'
set_option maxRecDepth 4000 in
theorem w_A_putAll_b_2 {p : Program} {l : Launch} {e : Env} {s : State} {m : MethodId} {args : Array Value} {below : List Frame} {meth : Method} {c : Code} {D : va_G} {cA : ClassId} {A : Nat → Prop} {a : Nat → Nat} {xStraight xLeast nPosts : Int} {nArrows : Nat → Int} {aBehind aAhead : Int} {aCells aBefore aAfter : Nat → Int} {gCorners gLowest gFirst gFresh gThere : Int} {gRow gPlaces gOver gVia gQueue : Nat → Int} {bTold bStraight bLeast : Int} {bPostsOf bSets bTotals : Nat → Int} (C : XC p s m args meth c cX0_putAll 5 RX0 none D cA A) {Q : Int → (Nat → Int) → (Nat → Int) → (Nat → Int) → Prop}  : ∀ (n : Nat) (x3 : Int) (nThirds : Int) (nCorners : Nat → Int) (nSums : Nat → Int), wp_A_putAll_b_2 Q aBehind aCells aBefore nArrows n x3 nThirds nCorners nSums → ∀ (H : Heap) (locs : List Loc) (ls : Array Slot), XH D A s (wX cA a xStraight xLeast nPosts nThirds nCorners nSums nArrows aBehind aAhead aCells aBefore aAfter gCorners gLowest gFirst gFresh gThere gRow gPlaces gOver gVia gQueue bTold bStraight bLeast bPostsOf bSets bTotals) H locs → lv_has ls 5 [(0, .ref (a 5)), (1, .ref (a 1)), (2, .ref (a 7)), (3, .int (J x3))] → W p l e rm_A_putAll_b s m args below meth c H locs 0 0 (MQ below (va_Qv (po_A_putAll_b cA a xStraight xLeast nPosts aBehind aAhead aCells aBefore aAfter gCorners gLowest gFirst gFresh gThere gRow gPlaces gOver gVia gQueue bTold bStraight bLeast bPostsOf bSets bTotals Q) (xB D cA A) A) args s 0 0 A) (F0 m 2 ls []) := by
  intro n
  induction n with
  | zero => intro x3 nThirds nCorners nSums h; exact (show False from h).elim
  | succ n hK2 =>
    intro x3 nThirds nCorners nSums h H locs ls hH hl
    have h : wp_A_putAll_b_2_b  (wp_A_putAll_b_2 Q aBehind aCells aBefore nArrows n) Q aBehind aCells aBefore nArrows x3 nThirds nCorners nSums := h
    unfold wp_A_putAll_b_2_b at h
    refine j_iload_n C dX0_putAll_2 (lv_at hl 3 rfl) ?_
    refine j_iconst C dX0_putAll_3 ?_
    obtain ⟨g_1, h⟩ := h
    refine j_icmp_ge C 38 g_1 (by unfold jR; decide) dX0_putAll_4 (by decide) (fun c_2 => ?_) (fun c_2 => ?_)
    · have h := h.1 c_2
      refine j_aload_n C dX0_putAll_38 (lv_at hl 1 rfl) ?_
      refine xcallV_v (As := []) (rest := []) (q0 := 1) C hH (fun sz => c_N_drawArrows h) xl_X0_46 rfl rfl ⟨rfl, rfl⟩ ⟨Nat.le_of_ble_eq_true rfl, Nat.le_of_ble_eq_true rfl⟩ hl.1 rfl rfl (Nat.le_of_ble_eq_true rfl) dX0_putAll_39 (fun w_ H locs hw hH => ?_)
      obtain ⟨nArrows_3, rfl, h⟩ := hw
      exact j_vret C hH ⟨_, _, _, _, rfl, h⟩ dX0_putAll_42
    · have h := h.2 c_2
      refine j_iconst C dX0_putAll_7 ?_
      refine j_aload_n C dX0_putAll_8 (lv_at hl 0 rfl) ?_
      refine xg_X0_behind C hH dX0_putAll_9 ?_
      refine j_imul C dX0_putAll_12 ?_
      refine j_iload_n C dX0_putAll_13 (lv_at hl 3 rfl) ?_
      refine j_iadd C dX0_putAll_14 ?_
      refine j_istore (lv' := [(4, .int (J ((2 * aBehind) + x3))), (0, .ref (a 5)), (1, .ref (a 1)), (2, .ref (a 7)), (3, .int (J x3))]) C dX0_putAll_15 hl (by decide) rfl (fun ls hl => ?_)
      refine j_aload_n C dX0_putAll_17 (lv_at hl 2 rfl) ?_
      refine j_aload_n C dX0_putAll_18 (lv_at hl 1 rfl) ?_
      refine xg_X0_cells C hH dX0_putAll_19 ?_
      refine j_iload C dX0_putAll_22 (lv_at hl 0 rfl) ?_
      obtain ⟨b_4, h⟩ := h
      refine xa_aCells C hH b_4 dX0_putAll_24 ?_
      refine j_aload_n C dX0_putAll_25 (lv_at hl 3 rfl) ?_
      refine j_iload C dX0_putAll_26 (lv_at hl 0 rfl) ?_
      refine xa_aBefore C hH b_4 dX0_putAll_28 ?_
      refine xcallV_v (As := [.int (J (aCells ((2 * aBehind) + x3).toNat)), .int (J (aBefore ((2 * aBehind) + x3).toNat))]) (rest := []) (q0 := 1) C hH (fun sz => c_N_put h) xl_X0_40 rfl rfl ⟨rfl, rfl⟩ ⟨Nat.le_of_ble_eq_true rfl, Nat.le_of_ble_eq_true rfl⟩ hl.1 rfl rfl (Nat.le_of_ble_eq_true rfl) dX0_putAll_29 (fun w_ H locs hw hH => ?_)
      obtain ⟨nThirds_5, nCorners_6, nSums_7, rfl, h⟩ := hw
      refine j_iinc (k := 4) (v := x3 + 1) (lv' := [(3, .int (J (x3 + 1))), (4, .int (J ((2 * aBehind) + x3))), (0, .ref (a 5)), (1, .ref (a 1)), (2, .ref (a 7))]) C dX0_putAll_32 hl rfl rfl (by decide) rfl (fun ls hl => ?_)
      refine j_goto C 2 dX0_putAll_35 (by decide) ?_
      exact hK2 (x3 + 1) nThirds_5 nCorners_6 nSums_7 h _ _ _ hH (lv_sub hl [2, 3, 4, 0] rfl)
set_option maxRecDepth 4000 in
theorem c_A_putAll_b {l : Launch} {D : va_G} {cA : ClassId} {a : Nat → Nat} {sz : Nat} {xStraight xLeast nPosts nThirds : Int} {nCorners nSums nArrows : Nat → Int} {aBehind aAhead : Int} {aCells aBefore aAfter : Nat → Int} {gCorners gLowest gFirst gFresh gThere : Int} {gRow gPlaces gOver gVia gQueue : Nat → Int} {bTold bStraight bLeast : Int} {bPostsOf bSets bTotals : Nat → Int} {Q : Int → (Nat → Int) → (Nat → Int) → (Nat → Int) → Prop} (h : wp_A_putAll_b  nThirds nCorners nSums nArrows aBehind aCells aBefore Q) : Met l yX0_putAll (.code yX0_putAll cX0_putAll 5 none :: lw_ok) rm_A_putAll_b (xPre D cA sz [.ref (a 5), .ref (a 1), .ref (a 7)] (wX cA a xStraight xLeast nPosts nThirds nCorners nSums nArrows aBehind aAhead aCells aBefore aAfter gCorners gLowest gFirst gFresh gThere gRow gPlaces gOver gVia gQueue bTold bStraight bLeast bPostsOf bSets bTotals)) (va_Qv (po_A_putAll_b cA a xStraight xLeast nPosts aBehind aAhead aCells aBefore aAfter gCorners gLowest gFirst gFresh gThere gRow gPlaces gOver gVia gQueue bTold bStraight bLeast bPostsOf bSets bTotals Q) (xB D cA (va_A (wX cA a xStraight xLeast nPosts nThirds nCorners nSums nArrows aBehind aAhead aCells aBefore aAfter gCorners gLowest gFirst gFresh gThere gRow gPlaces gOver gVia gQueue bTold bStraight bLeast bPostsOf bSets bTotals) sz)) (va_A (wX cA a xStraight xLeast nPosts nThirds nCorners nSums nArrows aBehind aAhead aCells aBefore aAfter gCorners gLowest gFirst gFresh gThere gRow gPlaces gOver gVia gQueue bTold bStraight bLeast bPostsOf bSets bTotals) sz)) 0 0 (va_A (wX cA a xStraight xLeast nPosts nThirds nCorners nSums nArrows aBehind aAhead aCells aBefore aAfter gCorners gLowest gFirst gFresh gThere gRow gPlaces gOver gVia gQueue bTold bStraight bLeast bPostsOf bSets bTotals) sz) := by
  refine xmet_v (by decide) (Nat.le_of_ble_eq_true rfl) ?_
  intro p e s m args below meth c A ls C hH hl
  have C : XC p s m args meth c cX0_putAll 5 RX0 none D cA A := C
  have hl : lv_has ls 5 [(0, .ref (a 5)), (1, .ref (a 1)), (2, .ref (a 7))] := hl
  unfold wp_A_putAll_b at h
  refine j_iconst C dX0_putAll_0 ?_
  refine j_istore_n (lv' := [(3, .int (J 0)), (0, .ref (a 5)), (1, .ref (a 1)), (2, .ref (a 7))]) C dX0_putAll_1 hl (by decide) rfl (fun ls hl => ?_)
  obtain ⟨n_, h⟩ := h
  exact w_A_putAll_b_2 C  n_ 0 nThirds nCorners nSums h _ _ _ hH (lv_sub hl [1, 2, 3, 0] rfl)
abbrev po_A_backward (cA : ClassId) (a : Nat → Nat) (xStraight xLeast nPosts : Int) (aCells aBefore aAfter : Nat → Int) (gCorners gLowest gFirst gFresh gThere : Int) (gRow gPlaces gOver gVia gQueue : Nat → Int) (bTold bStraight bLeast : Int) (bPostsOf bSets bTotals : Nat → Int) (Q : Int → (Nat → Int) → (Nat → Int) → (Nat → Int) → Int → Int → Prop) : va_W → Prop := fun w => ∃ nThirds' nCorners' nSums' nArrows' aBehind' aAhead', w = wX cA a xStraight xLeast nPosts nThirds' nCorners' nSums' nArrows' aBehind' aAhead' aCells aBefore aAfter gCorners gLowest gFirst gFresh gThere gRow gPlaces gOver gVia gQueue bTold bStraight bLeast bPostsOf bSets bTotals ∧ Q nThirds' nCorners' nSums' nArrows' aBehind' aAhead'
set_option maxRecDepth 4000 in
theorem c_A_backward {l : Launch} {D : va_G} {cA : ClassId} {a : Nat → Nat} {sz : Nat} {xStraight xLeast nPosts nThirds : Int} {nCorners nSums nArrows : Nat → Int} {aBehind aAhead : Int} {aCells aBefore aAfter : Nat → Int} {gCorners gLowest gFirst gFresh gThere : Int} {gRow gPlaces gOver gVia gQueue : Nat → Int} {bTold bStraight bLeast : Int} {bPostsOf bSets bTotals : Nat → Int} {Q : Int → (Nat → Int) → (Nat → Int) → (Nat → Int) → Int → Int → Prop} (h : wp_A_backward  nThirds nCorners nSums nArrows aBehind aAhead aCells aBefore Q) : Met l yX0_backward (.code yX0_backward cX0_backward 2 none :: lw_ok) rm_A_backward (xPre D cA sz [.ref (a 5), .ref (a 1)] (wX cA a xStraight xLeast nPosts nThirds nCorners nSums nArrows aBehind aAhead aCells aBefore aAfter gCorners gLowest gFirst gFresh gThere gRow gPlaces gOver gVia gQueue bTold bStraight bLeast bPostsOf bSets bTotals)) (va_Qv (po_A_backward cA a xStraight xLeast nPosts aCells aBefore aAfter gCorners gLowest gFirst gFresh gThere gRow gPlaces gOver gVia gQueue bTold bStraight bLeast bPostsOf bSets bTotals Q) (xB D cA (va_A (wX cA a xStraight xLeast nPosts nThirds nCorners nSums nArrows aBehind aAhead aCells aBefore aAfter gCorners gLowest gFirst gFresh gThere gRow gPlaces gOver gVia gQueue bTold bStraight bLeast bPostsOf bSets bTotals) sz)) (va_A (wX cA a xStraight xLeast nPosts nThirds nCorners nSums nArrows aBehind aAhead aCells aBefore aAfter gCorners gLowest gFirst gFresh gThere gRow gPlaces gOver gVia gQueue bTold bStraight bLeast bPostsOf bSets bTotals) sz)) 0 0 (va_A (wX cA a xStraight xLeast nPosts nThirds nCorners nSums nArrows aBehind aAhead aCells aBefore aAfter gCorners gLowest gFirst gFresh gThere gRow gPlaces gOver gVia gQueue bTold bStraight bLeast bPostsOf bSets bTotals) sz) := by
  refine xmet_v (by decide) (Nat.le_of_ble_eq_true rfl) ?_
  intro p e s m args below meth c A ls C hH hl
  have C : XC p s m args meth c cX0_backward 2 RX0 none D cA A := C
  have hl : lv_has ls 2 [(0, .ref (a 5)), (1, .ref (a 1))] := hl
  unfold wp_A_backward at h
  refine j_aload_n C dX0_backward_0 (lv_at hl 0 rfl) ?_
  refine xg_X0_behind C hH dX0_backward_1 ?_
  obtain ⟨g_1, h⟩ := h
  refine j_if_le C 36 g_1 dX0_backward_4 (by decide) (fun c_2 => ?_) (fun c_2 => ?_)
  · have h := h.1 c_2
    exact j_vret C hH ⟨_, _, _, _, _, _, rfl, h⟩ dX0_backward_36
  · have h := h.2 c_2
    refine j_aload_n C dX0_backward_7 (lv_at hl 0 rfl) ?_
    refine j_dup C rfl dX0_backward_8 ?_
    refine xg_X0_behind C hH dX0_backward_9 ?_
    refine j_iconst C dX0_backward_12 ?_
    refine j_isub C dX0_backward_13 ?_
    refine xp_X0_behind C hH dX0_backward_14 (fun H locs hH => ?_)
    refine j_aload_n C dX0_backward_17 (lv_at hl 0 rfl) ?_
    refine j_dup C rfl dX0_backward_18 ?_
    refine xg_X0_ahead C hH dX0_backward_19 ?_
    refine j_iconst C dX0_backward_22 ?_
    refine j_iadd C dX0_backward_23 ?_
    refine xp_X0_ahead C hH dX0_backward_24 (fun H locs hH => ?_)
    refine j_aload_n C dX0_backward_27 (lv_at hl 0 rfl) ?_
    refine j_aload_n C dX0_backward_28 (lv_at hl 1 rfl) ?_
    refine j_aload_n C dX0_backward_29 (lv_at hl 0 rfl) ?_
    refine xg_X0_before C hH dX0_backward_30 ?_
    refine xcallV_v (As := [.ref (a 1), .ref (a 7)]) (rest := []) (q0 := 5) C hH (fun sz => c_A_putAll_b h) xl_X0_36 rfl rfl ⟨rfl, rfl⟩ ⟨Nat.le_of_ble_eq_true rfl, Nat.le_of_ble_eq_true rfl⟩ hl.1 rfl rfl (Nat.le_of_ble_eq_true rfl) dX0_backward_33 (fun w_ H locs hw hH => ?_)
    obtain ⟨nThirds_3, nCorners_4, nSums_5, nArrows_6, rfl, h⟩ := hw
    exact j_vret C hH ⟨_, _, _, _, _, _, rfl, h⟩ dX0_backward_36
abbrev po_I_bitCount (ws : va_W) (Q : Int → Prop) : Int32 → va_W → Prop := fun r w => ∃ z, r = J z ∧ w = ws ∧ Q z
set_option maxRecDepth 4000 in
theorem c_I_bitCount {l : Launch} {D : va_G} {cA : ClassId} {sz : Nat} {ws : va_W} {x0 : Int} {Q : Int → Prop} (h : wp_I_bitCount x0  Q) : Met l yJ6_bitCount_0f7a4 (.code yJ6_bitCount_0f7a4 cJ6_bitCount_0f7a4 1 (some .int) :: lw_ok) rm_I_bitCount (xPre D cA sz [.int (J x0)] (ws)) (va_Qi (po_I_bitCount ws Q) (xB D cA (va_A (ws) sz)) (va_A (ws) sz)) 0 0 (va_A (ws) sz) := by
  refine xmet_i (by decide) (Nat.le_of_ble_eq_true rfl) ?_
  intro p e s m args below meth c A ls C hH hl
  have C : XC p s m args meth c cJ6_bitCount_0f7a4 1 RJ6 (some .int) D cA A := C
  have hl : lv_has ls 1 [(0, .int (J x0))] := hl
  unfold wp_I_bitCount at h
  refine j_iload_n C dJ6_bitCount_0f7a4_0 (lv_at hl 0 rfl) ?_
  refine j_iload_n C dJ6_bitCount_0f7a4_1 (lv_at hl 0 rfl) ?_
  refine j_iconst C dJ6_bitCount_0f7a4_2 ?_
  refine j_iushr C dJ6_bitCount_0f7a4_3 ?_
  refine j_ldcw C (n := 1431655765) wk_J6_265 (by decide +kernel) dJ6_bitCount_0f7a4_4 ?_
  refine j_iand C dJ6_bitCount_0f7a4_7 ?_
  refine j_isub C dJ6_bitCount_0f7a4_8 ?_
  refine j_istore_n (lv' := [(0, .int (J (x0 - (jand (jushr x0 1) 1431655765))))]) C dJ6_bitCount_0f7a4_9 hl (by decide) rfl (fun ls hl => ?_)
  refine j_iload_n C dJ6_bitCount_0f7a4_10 (lv_at hl 0 rfl) ?_
  refine j_ldcw C (n := 858993459) wk_J6_266 (by decide +kernel) dJ6_bitCount_0f7a4_11 ?_
  refine j_iand C dJ6_bitCount_0f7a4_14 ?_
  refine j_iload_n C dJ6_bitCount_0f7a4_15 (lv_at hl 0 rfl) ?_
  refine j_iconst C dJ6_bitCount_0f7a4_16 ?_
  refine j_iushr C dJ6_bitCount_0f7a4_17 ?_
  refine j_ldcw C (n := 858993459) wk_J6_266 (by decide +kernel) dJ6_bitCount_0f7a4_18 ?_
  refine j_iand C dJ6_bitCount_0f7a4_21 ?_
  refine j_iadd C dJ6_bitCount_0f7a4_22 ?_
  refine j_top (fun x0_1 e_x0_1 => ?_)
  have h := h x0_1 e_x0_1
  refine j_istore_n (lv' := [(0, .int (J x0_1))]) C dJ6_bitCount_0f7a4_23 hl (by decide) rfl (fun ls hl => ?_)
  refine j_iload_n C dJ6_bitCount_0f7a4_24 (lv_at hl 0 rfl) ?_
  refine j_iload_n C dJ6_bitCount_0f7a4_25 (lv_at hl 0 rfl) ?_
  refine j_iconst C dJ6_bitCount_0f7a4_26 ?_
  refine j_iushr C dJ6_bitCount_0f7a4_27 ?_
  refine j_iadd C dJ6_bitCount_0f7a4_28 ?_
  refine j_ldcw C (n := 252645135) wk_J6_267 (by decide +kernel) dJ6_bitCount_0f7a4_29 ?_
  refine j_iand C dJ6_bitCount_0f7a4_32 ?_
  refine j_istore_n (lv' := [(0, .int (J (jand (x0_1 + (jushr x0_1 4)) 252645135)))]) C dJ6_bitCount_0f7a4_33 hl (by decide) rfl (fun ls hl => ?_)
  refine j_iload_n C dJ6_bitCount_0f7a4_34 (lv_at hl 0 rfl) ?_
  refine j_iload_n C dJ6_bitCount_0f7a4_35 (lv_at hl 0 rfl) ?_
  refine j_bipush C (by decide +kernel) dJ6_bitCount_0f7a4_36 ?_
  refine j_iushr C dJ6_bitCount_0f7a4_38 ?_
  refine j_iadd C dJ6_bitCount_0f7a4_39 ?_
  refine j_top (fun x0_2 e_x0_2 => ?_)
  have h := h x0_2 e_x0_2
  refine j_istore_n (lv' := [(0, .int (J x0_2))]) C dJ6_bitCount_0f7a4_40 hl (by decide) rfl (fun ls hl => ?_)
  refine j_iload_n C dJ6_bitCount_0f7a4_41 (lv_at hl 0 rfl) ?_
  refine j_iload_n C dJ6_bitCount_0f7a4_42 (lv_at hl 0 rfl) ?_
  refine j_bipush C (by decide +kernel) dJ6_bitCount_0f7a4_43 ?_
  refine j_iushr C dJ6_bitCount_0f7a4_45 ?_
  refine j_iadd C dJ6_bitCount_0f7a4_46 ?_
  refine j_istore_n (lv' := [(0, .int (J (x0_2 + (jushr x0_2 16))))]) C dJ6_bitCount_0f7a4_47 hl (by decide) rfl (fun ls hl => ?_)
  refine j_iload_n C dJ6_bitCount_0f7a4_48 (lv_at hl 0 rfl) ?_
  refine j_bipush C (by decide +kernel) dJ6_bitCount_0f7a4_49 ?_
  refine j_iand C dJ6_bitCount_0f7a4_51 ?_
  exact j_iret C hH ⟨_, rfl, rfl, h⟩ dJ6_bitCount_0f7a4_52
abbrev po_N_thirdCount (cA : ClassId) (a : Nat → Nat) (xStraight xLeast nPosts nThirds : Int) (nCorners nSums nArrows : Nat → Int) (aBehind aAhead : Int) (aCells aBefore aAfter : Nat → Int) (gCorners gLowest gFirst gFresh gThere : Int) (gRow gPlaces gOver gVia gQueue : Nat → Int) (bTold bStraight bLeast : Int) (bPostsOf bSets bTotals : Nat → Int) (Q : Int → Prop) : Int32 → va_W → Prop := fun r w => ∃ z, r = J z ∧ w = wX cA a xStraight xLeast nPosts nThirds nCorners nSums nArrows aBehind aAhead aCells aBefore aAfter gCorners gLowest gFirst gFresh gThere gRow gPlaces gOver gVia gQueue bTold bStraight bLeast bPostsOf bSets bTotals ∧ Q z
set_option maxRecDepth 4000 in
theorem c_N_thirdCount {l : Launch} {D : va_G} {cA : ClassId} {a : Nat → Nat} {sz : Nat} {xStraight xLeast nPosts nThirds : Int} {nCorners nSums nArrows : Nat → Int} {aBehind aAhead : Int} {aCells aBefore aAfter : Nat → Int} {gCorners gLowest gFirst gFresh gThere : Int} {gRow gPlaces gOver gVia gQueue : Nat → Int} {bTold bStraight bLeast : Int} {bPostsOf bSets bTotals : Nat → Int} {Q : Int → Prop} (h : wp_N_thirdCount  nThirds Q) : Met l yX3_thirdCount (.code yX3_thirdCount cX3_thirdCount 1 (some .int) :: lw_ok) rm_N_thirdCount (xPre D cA sz [.ref (a 1)] (wX cA a xStraight xLeast nPosts nThirds nCorners nSums nArrows aBehind aAhead aCells aBefore aAfter gCorners gLowest gFirst gFresh gThere gRow gPlaces gOver gVia gQueue bTold bStraight bLeast bPostsOf bSets bTotals)) (va_Qi (po_N_thirdCount cA a xStraight xLeast nPosts nThirds nCorners nSums nArrows aBehind aAhead aCells aBefore aAfter gCorners gLowest gFirst gFresh gThere gRow gPlaces gOver gVia gQueue bTold bStraight bLeast bPostsOf bSets bTotals Q) (xB D cA (va_A (wX cA a xStraight xLeast nPosts nThirds nCorners nSums nArrows aBehind aAhead aCells aBefore aAfter gCorners gLowest gFirst gFresh gThere gRow gPlaces gOver gVia gQueue bTold bStraight bLeast bPostsOf bSets bTotals) sz)) (va_A (wX cA a xStraight xLeast nPosts nThirds nCorners nSums nArrows aBehind aAhead aCells aBefore aAfter gCorners gLowest gFirst gFresh gThere gRow gPlaces gOver gVia gQueue bTold bStraight bLeast bPostsOf bSets bTotals) sz)) 0 0 (va_A (wX cA a xStraight xLeast nPosts nThirds nCorners nSums nArrows aBehind aAhead aCells aBefore aAfter gCorners gLowest gFirst gFresh gThere gRow gPlaces gOver gVia gQueue bTold bStraight bLeast bPostsOf bSets bTotals) sz) := by
  refine xmet_i (by decide) (Nat.le_of_ble_eq_true rfl) ?_
  intro p e s m args below meth c A ls C hH hl
  have C : XC p s m args meth c cX3_thirdCount 1 RX3 (some .int) D cA A := C
  have hl : lv_has ls 1 [(0, .ref (a 1))] := hl
  unfold wp_N_thirdCount at h
  refine j_aload_n C dX3_thirdCount_0 (lv_at hl 0 rfl) ?_
  refine xg_X3_thirds C hH dX3_thirdCount_1 ?_
  exact j_iret C hH ⟨_, rfl, rfl, h⟩ dX3_thirdCount_4
abbrev po_B_leastOf (cA : ClassId) (a : Nat → Nat) (xStraight xLeast nPosts nThirds : Int) (nCorners nSums nArrows : Nat → Int) (aBehind aAhead : Int) (aCells aBefore aAfter : Nat → Int) (gCorners gLowest gFirst gFresh gThere : Int) (gRow gPlaces gOver gVia gQueue : Nat → Int) (bTold bStraight bLeast : Int) (bPostsOf bSets bTotals : Nat → Int) (Q : Int → Prop) : Int32 → va_W → Prop := fun r w => ∃ z, r = J z ∧ w = wX cA a xStraight xLeast nPosts nThirds nCorners nSums nArrows aBehind aAhead aCells aBefore aAfter gCorners gLowest gFirst gFresh gThere gRow gPlaces gOver gVia gQueue bTold bStraight bLeast bPostsOf bSets bTotals ∧ Q z
set_option maxRecDepth 4000 in
theorem w_B_leastOf_4 {p : Program} {l : Launch} {e : Env} {s : State} {m : MethodId} {args : Array Value} {below : List Frame} {meth : Method} {c : Code} {D : va_G} {cA : ClassId} {A : Nat → Prop} {a : Nat → Nat} {xStraight xLeast nPosts nThirds : Int} {nCorners nSums nArrows : Nat → Int} {aBehind aAhead : Int} {aCells aBefore aAfter : Nat → Int} {gCorners gLowest gFirst gFresh gThere : Int} {gRow gPlaces gOver gVia gQueue : Nat → Int} {bTold bStraight bLeast : Int} {bPostsOf bSets bTotals : Nat → Int} (C : XC p s m args meth c cX1_leastOf 5 RX1 (some .int) D cA A) {Q : Int → Prop} {x1 : Int}  : ∀ (n : Nat) (x2 : Int) (x3 : Int), wp_B_leastOf_4 Q nThirds bStraight bLeast bPostsOf x1 n x2 x3 → ∀ (H : Heap) (locs : List Loc) (ls : Array Slot), XH D A s (wX cA a xStraight xLeast nPosts nThirds nCorners nSums nArrows aBehind aAhead aCells aBefore aAfter gCorners gLowest gFirst gFresh gThere gRow gPlaces gOver gVia gQueue bTold bStraight bLeast bPostsOf bSets bTotals) H locs → lv_has ls 5 [(0, .ref (a 15)), (1, .int (J x1)), (2, .int (J x2)), (3, .int (J x3))] → W p l e rm_B_leastOf s m args below meth c H locs 0 0 (MQ below (va_Qi (po_B_leastOf cA a xStraight xLeast nPosts nThirds nCorners nSums nArrows aBehind aAhead aCells aBefore aAfter gCorners gLowest gFirst gFresh gThere gRow gPlaces gOver gVia gQueue bTold bStraight bLeast bPostsOf bSets bTotals Q) (xB D cA A) A) args s 0 0 A) (F0 m 4 ls []) := by
  intro n
  induction n with
  | zero => intro x2 x3 h; exact (show False from h).elim
  | succ n hK4 =>
    intro x2 x3 h H locs ls hH hl
    have h : wp_B_leastOf_4_b  (wp_B_leastOf_4 Q nThirds bStraight bLeast bPostsOf x1 n) Q nThirds bStraight bLeast bPostsOf x1 x2 x3 := h
    unfold wp_B_leastOf_4_b at h
    refine j_iload_n C dX1_leastOf_4 (lv_at hl 3 rfl) ?_
    refine j_aload_n C dX1_leastOf_5 (lv_at hl 0 rfl) ?_
    refine xg_X1_net C hH dX1_leastOf_6 ?_
    refine xcallV_i (As := []) (rest := [.int (J x3)]) (q0 := 1) C hH (fun sz => c_N_thirdCount h) xl_X1_71 rfl rfl ⟨rfl, rfl⟩ ⟨Nat.le_of_ble_eq_true rfl, Nat.le_of_ble_eq_true rfl⟩ hl.1 rfl rfl (Nat.le_of_ble_eq_true rfl) dX1_leastOf_9 (fun r_ w_ H locs hw hH => ?_)
    obtain ⟨z_1, rfl, rfl, h⟩ := hw
    obtain ⟨g_2, h⟩ := h
    obtain ⟨g_3, h⟩ := h
    refine j_icmp_ge C 57 g_2 g_3 dX1_leastOf_12 (by decide) (fun c_4 => ?_) (fun c_4 => ?_)
    · have h := h.1 c_4
      refine j_iload_n C dX1_leastOf_57 (lv_at hl 2 rfl) ?_
      exact j_iret C hH ⟨_, rfl, rfl, h⟩ dX1_leastOf_58
    · have h := h.2 c_4
      refine j_aload_n C dX1_leastOf_15 (lv_at hl 0 rfl) ?_
      refine xg_X1_postsOf C hH dX1_leastOf_16 ?_
      refine j_iload_n C dX1_leastOf_19 (lv_at hl 3 rfl) ?_
      obtain ⟨b_5, h⟩ := h
      refine xa_bPostsOf C hH b_5 dX1_leastOf_20 ?_
      refine j_iload_n C dX1_leastOf_21 (lv_at hl 1 rfl) ?_
      refine j_iand C dX1_leastOf_22 ?_
      refine xcallS_i (As := [.int (J (jand (bPostsOf x3.toNat) x1))]) (rest := []) C hH (fun sz => c_I_bitCount h) xl_X1_46 ⟨rfl, rfl⟩ ⟨Nat.le_of_ble_eq_true rfl, Nat.le_of_ble_eq_true rfl⟩ hl.1 rfl rfl (Nat.le_of_ble_eq_true rfl) dX1_leastOf_23 (fun r_ w_ H locs hw hH => ?_)
      obtain ⟨z_6, rfl, rfl, h⟩ := hw
      refine j_istore (lv' := [(4, .int (J z_6)), (0, .ref (a 15)), (1, .int (J x1)), (2, .int (J x2)), (3, .int (J x3))]) C dX1_leastOf_26 hl (by decide) rfl (fun ls hl => ?_)
      refine j_iload_n C dX1_leastOf_28 (lv_at hl 3 rfl) ?_
      refine j_iload C dX1_leastOf_29 (lv_at hl 0 rfl) ?_
      refine j_iconst C dX1_leastOf_31 ?_
      obtain ⟨g_7, h⟩ := h
      refine j_icmp_ne C 42 g_7 (by unfold jR; decide) dX1_leastOf_32 (by decide) (fun c_8 => ?_) (fun c_8 => ?_)
      · have h := h.2 c_8
        refine j_aload_n C dX1_leastOf_42 (lv_at hl 1 rfl) ?_
        refine xg_X1_least C hH dX1_leastOf_43 ?_
        refine j_iload C dX1_leastOf_46 (lv_at hl 0 rfl) ?_
        refine j_imul C dX1_leastOf_48 ?_
        refine j_iadd C dX1_leastOf_49 ?_
        refine j_istore_n (lv' := [(2, .int (J (x2 + (bLeast * z_6)))), (4, .int (J z_6)), (0, .ref (a 15)), (1, .int (J x1)), (3, .int (J x3))]) C dX1_leastOf_50 hl (by decide) rfl (fun ls hl => ?_)
        refine j_iinc (k := 4) (v := x3 + 1) (lv' := [(3, .int (J (x3 + 1))), (2, .int (J (x2 + (bLeast * z_6)))), (4, .int (J z_6)), (0, .ref (a 15)), (1, .int (J x1))]) C dX1_leastOf_51 hl rfl rfl (by decide) rfl (fun ls hl => ?_)
        refine j_goto C 4 dX1_leastOf_54 (by decide) ?_
        exact hK4 (x2 + (bLeast * z_6)) (x3 + 1) h _ _ _ hH (lv_sub hl [3, 4, 1, 0] rfl)
      · have h := h.1 c_8
        refine j_aload_n C dX1_leastOf_35 (lv_at hl 1 rfl) ?_
        refine xg_X1_straight C hH dX1_leastOf_36 ?_
        refine j_goto C 49 dX1_leastOf_39 (by decide) ?_
        refine j_iadd C dX1_leastOf_49 ?_
        refine j_istore_n (lv' := [(2, .int (J (x2 + bStraight))), (4, .int (J z_6)), (0, .ref (a 15)), (1, .int (J x1)), (3, .int (J x3))]) C dX1_leastOf_50 hl (by decide) rfl (fun ls hl => ?_)
        refine j_iinc (k := 4) (v := x3 + 1) (lv' := [(3, .int (J (x3 + 1))), (2, .int (J (x2 + bStraight))), (4, .int (J z_6)), (0, .ref (a 15)), (1, .int (J x1))]) C dX1_leastOf_51 hl rfl rfl (by decide) rfl (fun ls hl => ?_)
        refine j_goto C 4 dX1_leastOf_54 (by decide) ?_
        exact hK4 (x2 + bStraight) (x3 + 1) h _ _ _ hH (lv_sub hl [3, 4, 1, 0] rfl)
set_option maxRecDepth 4000 in
theorem c_B_leastOf {l : Launch} {D : va_G} {cA : ClassId} {a : Nat → Nat} {sz : Nat} {xStraight xLeast nPosts nThirds : Int} {nCorners nSums nArrows : Nat → Int} {aBehind aAhead : Int} {aCells aBefore aAfter : Nat → Int} {gCorners gLowest gFirst gFresh gThere : Int} {gRow gPlaces gOver gVia gQueue : Nat → Int} {bTold bStraight bLeast : Int} {bPostsOf bSets bTotals : Nat → Int} {x1 : Int} {Q : Int → Prop} (h : wp_B_leastOf x1 nThirds bStraight bLeast bPostsOf Q) : Met l yX1_leastOf (.code yX1_leastOf cX1_leastOf 5 (some .int) :: lw_ok) rm_B_leastOf (xPre D cA sz [.ref (a 15), .int (J x1)] (wX cA a xStraight xLeast nPosts nThirds nCorners nSums nArrows aBehind aAhead aCells aBefore aAfter gCorners gLowest gFirst gFresh gThere gRow gPlaces gOver gVia gQueue bTold bStraight bLeast bPostsOf bSets bTotals)) (va_Qi (po_B_leastOf cA a xStraight xLeast nPosts nThirds nCorners nSums nArrows aBehind aAhead aCells aBefore aAfter gCorners gLowest gFirst gFresh gThere gRow gPlaces gOver gVia gQueue bTold bStraight bLeast bPostsOf bSets bTotals Q) (xB D cA (va_A (wX cA a xStraight xLeast nPosts nThirds nCorners nSums nArrows aBehind aAhead aCells aBefore aAfter gCorners gLowest gFirst gFresh gThere gRow gPlaces gOver gVia gQueue bTold bStraight bLeast bPostsOf bSets bTotals) sz)) (va_A (wX cA a xStraight xLeast nPosts nThirds nCorners nSums nArrows aBehind aAhead aCells aBefore aAfter gCorners gLowest gFirst gFresh gThere gRow gPlaces gOver gVia gQueue bTold bStraight bLeast bPostsOf bSets bTotals) sz)) 0 0 (va_A (wX cA a xStraight xLeast nPosts nThirds nCorners nSums nArrows aBehind aAhead aCells aBefore aAfter gCorners gLowest gFirst gFresh gThere gRow gPlaces gOver gVia gQueue bTold bStraight bLeast bPostsOf bSets bTotals) sz) := by
  refine xmet_i (by decide) (Nat.le_of_ble_eq_true rfl) ?_
  intro p e s m args below meth c A ls C hH hl
  have C : XC p s m args meth c cX1_leastOf 5 RX1 (some .int) D cA A := C
  have hl : lv_has ls 5 [(0, .ref (a 15)), (1, .int (J x1))] := hl
  unfold wp_B_leastOf at h
  refine j_iconst C dX1_leastOf_0 ?_
  refine j_istore_n (lv' := [(2, .int (J 0)), (0, .ref (a 15)), (1, .int (J x1))]) C dX1_leastOf_1 hl (by decide) rfl (fun ls hl => ?_)
  refine j_iconst C dX1_leastOf_2 ?_
  refine j_istore_n (lv' := [(3, .int (J 0)), (2, .int (J 0)), (0, .ref (a 15)), (1, .int (J x1))]) C dX1_leastOf_3 hl (by decide) rfl (fun ls hl => ?_)
  obtain ⟨n_, h⟩ := h
  exact w_B_leastOf_4 C  n_ 0 0 h _ _ _ hH (lv_sub hl [2, 3, 1, 0] rfl)
abbrev po_B_mostOf (cA : ClassId) (a : Nat → Nat) (xStraight xLeast nPosts nThirds : Int) (nCorners nSums nArrows : Nat → Int) (aBehind aAhead : Int) (aCells aBefore aAfter : Nat → Int) (gCorners gLowest gFirst gFresh gThere : Int) (gRow gPlaces gOver gVia gQueue : Nat → Int) (bTold bStraight bLeast : Int) (bPostsOf bSets bTotals : Nat → Int) (Q : Int → Prop) : Int32 → va_W → Prop := fun r w => ∃ z, r = J z ∧ w = wX cA a xStraight xLeast nPosts nThirds nCorners nSums nArrows aBehind aAhead aCells aBefore aAfter gCorners gLowest gFirst gFresh gThere gRow gPlaces gOver gVia gQueue bTold bStraight bLeast bPostsOf bSets bTotals ∧ Q z
set_option maxRecDepth 4000 in
theorem w_B_mostOf_4 {p : Program} {l : Launch} {e : Env} {s : State} {m : MethodId} {args : Array Value} {below : List Frame} {meth : Method} {c : Code} {D : va_G} {cA : ClassId} {A : Nat → Prop} {a : Nat → Nat} {xStraight xLeast nPosts nThirds : Int} {nCorners nSums nArrows : Nat → Int} {aBehind aAhead : Int} {aCells aBefore aAfter : Nat → Int} {gCorners gLowest gFirst gFresh gThere : Int} {gRow gPlaces gOver gVia gQueue : Nat → Int} {bTold bStraight bLeast : Int} {bPostsOf bSets bTotals : Nat → Int} (C : XC p s m args meth c cX1_mostOf 5 RX1 (some .int) D cA A) {Q : Int → Prop} {x1 : Int}  : ∀ (n : Nat) (x2 : Int) (x3 : Int), wp_B_mostOf_4 Q nThirds bStraight bLeast bPostsOf x1 n x2 x3 → ∀ (H : Heap) (locs : List Loc) (ls : Array Slot), XH D A s (wX cA a xStraight xLeast nPosts nThirds nCorners nSums nArrows aBehind aAhead aCells aBefore aAfter gCorners gLowest gFirst gFresh gThere gRow gPlaces gOver gVia gQueue bTold bStraight bLeast bPostsOf bSets bTotals) H locs → lv_has ls 5 [(0, .ref (a 15)), (1, .int (J x1)), (2, .int (J x2)), (3, .int (J x3))] → W p l e rm_B_mostOf s m args below meth c H locs 0 0 (MQ below (va_Qi (po_B_mostOf cA a xStraight xLeast nPosts nThirds nCorners nSums nArrows aBehind aAhead aCells aBefore aAfter gCorners gLowest gFirst gFresh gThere gRow gPlaces gOver gVia gQueue bTold bStraight bLeast bPostsOf bSets bTotals Q) (xB D cA A) A) args s 0 0 A) (F0 m 4 ls []) := by
  intro n
  induction n with
  | zero => intro x2 x3 h; exact (show False from h).elim
  | succ n hK4 =>
    intro x2 x3 h H locs ls hH hl
    have h : wp_B_mostOf_4_b  (wp_B_mostOf_4 Q nThirds bStraight bLeast bPostsOf x1 n) Q nThirds bStraight bLeast bPostsOf x1 x2 x3 := h
    unfold wp_B_mostOf_4_b at h
    refine j_iload_n C dX1_mostOf_4 (lv_at hl 3 rfl) ?_
    refine j_aload_n C dX1_mostOf_5 (lv_at hl 0 rfl) ?_
    refine xg_X1_net C hH dX1_mostOf_6 ?_
    refine xcallV_i (As := []) (rest := [.int (J x3)]) (q0 := 1) C hH (fun sz => c_N_thirdCount h) xl_X1_71 rfl rfl ⟨rfl, rfl⟩ ⟨Nat.le_of_ble_eq_true rfl, Nat.le_of_ble_eq_true rfl⟩ hl.1 rfl rfl (Nat.le_of_ble_eq_true rfl) dX1_mostOf_9 (fun r_ w_ H locs hw hH => ?_)
    obtain ⟨z_1, rfl, rfl, h⟩ := hw
    obtain ⟨g_2, h⟩ := h
    obtain ⟨g_3, h⟩ := h
    refine j_icmp_ge C 60 g_2 g_3 dX1_mostOf_12 (by decide) (fun c_4 => ?_) (fun c_4 => ?_)
    · have h := h.1 c_4
      refine j_iload_n C dX1_mostOf_60 (lv_at hl 2 rfl) ?_
      exact j_iret C hH ⟨_, rfl, rfl, h⟩ dX1_mostOf_61
    · have h := h.2 c_4
      refine j_aload_n C dX1_mostOf_15 (lv_at hl 0 rfl) ?_
      refine xg_X1_postsOf C hH dX1_mostOf_16 ?_
      refine j_iload_n C dX1_mostOf_19 (lv_at hl 3 rfl) ?_
      obtain ⟨b_5, h⟩ := h
      refine xa_bPostsOf C hH b_5 dX1_mostOf_20 ?_
      refine j_iload_n C dX1_mostOf_21 (lv_at hl 1 rfl) ?_
      refine j_iand C dX1_mostOf_22 ?_
      refine xcallS_i (As := [.int (J (jand (bPostsOf x3.toNat) x1))]) (rest := []) C hH (fun sz => c_I_bitCount h) xl_X1_46 ⟨rfl, rfl⟩ ⟨Nat.le_of_ble_eq_true rfl, Nat.le_of_ble_eq_true rfl⟩ hl.1 rfl rfl (Nat.le_of_ble_eq_true rfl) dX1_mostOf_23 (fun r_ w_ H locs hw hH => ?_)
      obtain ⟨z_6, rfl, rfl, h⟩ := hw
      refine j_istore (lv' := [(4, .int (J z_6)), (0, .ref (a 15)), (1, .int (J x1)), (2, .int (J x2)), (3, .int (J x3))]) C dX1_mostOf_26 hl (by decide) rfl (fun ls hl => ?_)
      refine j_iload_n C dX1_mostOf_28 (lv_at hl 3 rfl) ?_
      refine j_iload C dX1_mostOf_29 (lv_at hl 0 rfl) ?_
      obtain ⟨g_7, h⟩ := h
      refine j_if_ne C 38 g_7 dX1_mostOf_31 (by decide) (fun c_8 => ?_) (fun c_8 => ?_)
      · have h := h.2 c_8
        refine j_aload_n C dX1_mostOf_38 (lv_at hl 1 rfl) ?_
        refine xg_X1_straight C hH dX1_mostOf_39 ?_
        refine j_aload_n C dX1_mostOf_42 (lv_at hl 1 rfl) ?_
        refine xg_X1_least C hH dX1_mostOf_43 ?_
        refine j_iconst C dX1_mostOf_46 ?_
        refine j_iload C dX1_mostOf_47 (lv_at hl 0 rfl) ?_
        refine j_isub C dX1_mostOf_49 ?_
        refine j_imul C dX1_mostOf_50 ?_
        refine j_isub C dX1_mostOf_51 ?_
        refine j_iadd C dX1_mostOf_52 ?_
        refine j_istore_n (lv' := [(2, .int (J (x2 + (bStraight - (bLeast * (3 - z_6)))))), (4, .int (J z_6)), (0, .ref (a 15)), (1, .int (J x1)), (3, .int (J x3))]) C dX1_mostOf_53 hl (by decide) rfl (fun ls hl => ?_)
        refine j_iinc (k := 4) (v := x3 + 1) (lv' := [(3, .int (J (x3 + 1))), (2, .int (J (x2 + (bStraight - (bLeast * (3 - z_6)))))), (4, .int (J z_6)), (0, .ref (a 15)), (1, .int (J x1))]) C dX1_mostOf_54 hl rfl rfl (by decide) rfl (fun ls hl => ?_)
        refine j_goto C 4 dX1_mostOf_57 (by decide) ?_
        exact hK4 (x2 + (bStraight - (bLeast * (3 - z_6)))) (x3 + 1) h _ _ _ hH (lv_sub hl [3, 4, 1, 0] rfl)
      · have h := h.1 c_8
        refine j_iconst C dX1_mostOf_34 ?_
        refine j_goto C 52 dX1_mostOf_35 (by decide) ?_
        refine j_iadd C dX1_mostOf_52 ?_
        refine j_istore_n (lv' := [(2, .int (J (x2 + 0))), (4, .int (J z_6)), (0, .ref (a 15)), (1, .int (J x1)), (3, .int (J x3))]) C dX1_mostOf_53 hl (by decide) rfl (fun ls hl => ?_)
        refine j_iinc (k := 4) (v := x3 + 1) (lv' := [(3, .int (J (x3 + 1))), (2, .int (J (x2 + 0))), (4, .int (J z_6)), (0, .ref (a 15)), (1, .int (J x1))]) C dX1_mostOf_54 hl rfl rfl (by decide) rfl (fun ls hl => ?_)
        refine j_goto C 4 dX1_mostOf_57 (by decide) ?_
        exact hK4 (x2 + 0) (x3 + 1) h _ _ _ hH (lv_sub hl [3, 4, 1, 0] rfl)
set_option maxRecDepth 4000 in
theorem c_B_mostOf {l : Launch} {D : va_G} {cA : ClassId} {a : Nat → Nat} {sz : Nat} {xStraight xLeast nPosts nThirds : Int} {nCorners nSums nArrows : Nat → Int} {aBehind aAhead : Int} {aCells aBefore aAfter : Nat → Int} {gCorners gLowest gFirst gFresh gThere : Int} {gRow gPlaces gOver gVia gQueue : Nat → Int} {bTold bStraight bLeast : Int} {bPostsOf bSets bTotals : Nat → Int} {x1 : Int} {Q : Int → Prop} (h : wp_B_mostOf x1 nThirds bStraight bLeast bPostsOf Q) : Met l yX1_mostOf (.code yX1_mostOf cX1_mostOf 5 (some .int) :: lw_ok) rm_B_mostOf (xPre D cA sz [.ref (a 15), .int (J x1)] (wX cA a xStraight xLeast nPosts nThirds nCorners nSums nArrows aBehind aAhead aCells aBefore aAfter gCorners gLowest gFirst gFresh gThere gRow gPlaces gOver gVia gQueue bTold bStraight bLeast bPostsOf bSets bTotals)) (va_Qi (po_B_mostOf cA a xStraight xLeast nPosts nThirds nCorners nSums nArrows aBehind aAhead aCells aBefore aAfter gCorners gLowest gFirst gFresh gThere gRow gPlaces gOver gVia gQueue bTold bStraight bLeast bPostsOf bSets bTotals Q) (xB D cA (va_A (wX cA a xStraight xLeast nPosts nThirds nCorners nSums nArrows aBehind aAhead aCells aBefore aAfter gCorners gLowest gFirst gFresh gThere gRow gPlaces gOver gVia gQueue bTold bStraight bLeast bPostsOf bSets bTotals) sz)) (va_A (wX cA a xStraight xLeast nPosts nThirds nCorners nSums nArrows aBehind aAhead aCells aBefore aAfter gCorners gLowest gFirst gFresh gThere gRow gPlaces gOver gVia gQueue bTold bStraight bLeast bPostsOf bSets bTotals) sz)) 0 0 (va_A (wX cA a xStraight xLeast nPosts nThirds nCorners nSums nArrows aBehind aAhead aCells aBefore aAfter gCorners gLowest gFirst gFresh gThere gRow gPlaces gOver gVia gQueue bTold bStraight bLeast bPostsOf bSets bTotals) sz) := by
  refine xmet_i (by decide) (Nat.le_of_ble_eq_true rfl) ?_
  intro p e s m args below meth c A ls C hH hl
  have C : XC p s m args meth c cX1_mostOf 5 RX1 (some .int) D cA A := C
  have hl : lv_has ls 5 [(0, .ref (a 15)), (1, .int (J x1))] := hl
  unfold wp_B_mostOf at h
  refine j_iconst C dX1_mostOf_0 ?_
  refine j_istore_n (lv' := [(2, .int (J 0)), (0, .ref (a 15)), (1, .int (J x1))]) C dX1_mostOf_1 hl (by decide) rfl (fun ls hl => ?_)
  refine j_iconst C dX1_mostOf_2 ?_
  refine j_istore_n (lv' := [(3, .int (J 0)), (2, .int (J 0)), (0, .ref (a 15)), (1, .int (J x1))]) C dX1_mostOf_3 hl (by decide) rfl (fun ls hl => ?_)
  obtain ⟨n_, h⟩ := h
  exact w_B_mostOf_4 C  n_ 0 0 h _ _ _ hH (lv_sub hl [2, 3, 1, 0] rfl)

abbrev po_G_push (cA : ClassId) (a : Nat → Nat) (xStraight xLeast nPosts nThirds : Int) (nCorners nSums nArrows : Nat → Int) (aBehind aAhead : Int) (aCells aBefore aAfter : Nat → Int) (gCorners gLowest gFirst gFresh gThere : Int) (gPlaces gOver : Nat → Int) (bTold bStraight bLeast : Int) (bPostsOf bSets bTotals : Nat → Int) (Q : Int → (Nat → Int) → (Nat → Int) → (Nat → Int) → Prop) : Int32 → va_W → Prop := fun r w => ∃ z gRow' gVia' gQueue', r = J z ∧ w = wX cA a xStraight xLeast nPosts nThirds nCorners nSums nArrows aBehind aAhead aCells aBefore aAfter gCorners gLowest gFirst gFresh gThere gRow' gPlaces gOver gVia' gQueue' bTold bStraight bLeast bPostsOf bSets bTotals ∧ Q z gRow' gVia' gQueue'
set_option maxRecDepth 4000 in
theorem w_G_push_84 {p : Program} {l : Launch} {e : Env} {s : State} {m : MethodId} {args : Array Value} {below : List Frame} {meth : Method} {c : Code} {D : va_G} {cA : ClassId} {A : Nat → Prop} {a : Nat → Nat} {xStraight xLeast nPosts nThirds : Int} {nCorners nSums nArrows : Nat → Int} {aBehind aAhead : Int} {aCells aBefore aAfter : Nat → Int} {gCorners gLowest gFirst gFresh gThere : Int} {gPlaces gOver gVia gQueue : Nat → Int} {bTold bStraight bLeast : Int} {bPostsOf bSets bTotals : Nat → Int} (C : XC p s m args meth c cX2_push 7 RX2 (some .int) D cA A) {Q : Int → (Nat → Int) → (Nat → Int) → (Nat → Int) → Prop} {x1 : Int} {x4 : Int}  : ∀ (n : Nat) (x5 : Int) (x6 : Int) (gRow : Nat → Int), wp_G_push_84 Q gPlaces x1 x4 gVia gQueue n x5 x6 gRow → ∀ (H : Heap) (locs : List Loc) (ls : Array Slot), XH D A s (wX cA a xStraight xLeast nPosts nThirds nCorners nSums nArrows aBehind aAhead aCells aBefore aAfter gCorners gLowest gFirst gFresh gThere gRow gPlaces gOver gVia gQueue bTold bStraight bLeast bPostsOf bSets bTotals) H locs → lv_has ls 7 [(0, .ref (a 9)), (1, .int (J x1)), (4, .int (J x4)), (5, .int (J x5)), (6, .int (J x6))] → W p l e rm_G_push s m args below meth c H locs 0 0 (MQ below (va_Qi (po_G_push cA a xStraight xLeast nPosts nThirds nCorners nSums nArrows aBehind aAhead aCells aBefore aAfter gCorners gLowest gFirst gFresh gThere gPlaces gOver bTold bStraight bLeast bPostsOf bSets bTotals Q) (xB D cA A) A) args s 0 0 A) (F0 m 84 ls []) := by
  intro n
  induction n with
  | zero => intro x5 x6 gRow h; exact (show False from h).elim
  | succ n hK84 =>
    intro x5 x6 gRow h H locs ls hH hl
    have h : wp_G_push_84_b  (wp_G_push_84 Q gPlaces x1 x4 gVia gQueue n) Q gPlaces x1 x4 gVia gQueue x5 x6 gRow := h
    unfold wp_G_push_84_b at h
    refine j_iload C dX2_push_84 (lv_at hl 4 rfl) ?_
    refine j_bipush C (by decide +kernel) dX2_push_86 ?_
    obtain ⟨g_1, h⟩ := h
    refine j_icmp_ge C 141 g_1 (by unfold jR; decide) dX2_push_88 (by decide) (fun c_2 => ?_) (fun c_2 => ?_)
    · have h := h.1 c_2
      refine j_iload C dX2_push_141 (lv_at hl 2 rfl) ?_
      exact j_iret C hH ⟨_, _, _, _, rfl, rfl, h⟩ dX2_push_143
    · have h := h.2 c_2
      refine j_iload C dX2_push_91 (lv_at hl 3 rfl) ?_
      refine j_iload_n C dX2_push_93 (lv_at hl 1 rfl) ?_
      obtain ⟨g_3, h⟩ := h
      obtain ⟨g_4, h⟩ := h
      refine j_icmp_eq C 141 g_3 g_4 dX2_push_94 (by decide) (fun c_5 => ?_) (fun c_5 => ?_)
      · have h := h.1 c_5
        refine j_iload C dX2_push_141 (lv_at hl 2 rfl) ?_
        exact j_iret C hH ⟨_, _, _, _, rfl, rfl, h⟩ dX2_push_143
      · have h := h.2 c_5
        refine j_aload_n C dX2_push_97 (lv_at hl 0 rfl) ?_
        refine xg_X2_row C hH dX2_push_98 ?_
        refine j_aload_n C dX2_push_101 (lv_at hl 0 rfl) ?_
        refine xg_X2_via C hH dX2_push_102 ?_
        refine j_iload C dX2_push_105 (lv_at hl 3 rfl) ?_
        obtain ⟨b_6, h⟩ := h
        refine xa_gVia C hH b_6 dX2_push_107 ?_
        refine j_dup2 C rfl rfl dX2_push_108 ?_
        obtain ⟨b_7, h⟩ := h
        refine xa_gRow C hH b_7 dX2_push_109 ?_
        refine j_iload C dX2_push_110 (lv_at hl 3 rfl) ?_
        refine j_bipush C (by decide +kernel) dX2_push_112 ?_
        refine j_icmp_lt C 123 g_3 (by unfold jR; decide) dX2_push_114 (by decide) (fun c_8 => ?_) (fun c_8 => ?_)
        · have h := h.1 c_8
          refine j_iload C dX2_push_123 (lv_at hl 2 rfl) ?_
          refine j_iadd C dX2_push_125 ?_
          refine xs_gRow C hH b_7 dX2_push_126 (fun gRow_9 e_gRow_9 H locs hH => ?_)
          have h := h gRow_9 e_gRow_9
          refine j_aload_n C dX2_push_127 (lv_at hl 0 rfl) ?_
          refine j_iload C dX2_push_128 (lv_at hl 3 rfl) ?_
          refine xcallV_i (As := [.int (J x5)]) (rest := []) (q0 := 9) C hH (fun sz => c_G_nodeBefore h) xl_X2_112 rfl rfl ⟨rfl, rfl⟩ ⟨Nat.le_of_ble_eq_true rfl, Nat.le_of_ble_eq_true rfl⟩ hl.1 rfl rfl (Nat.le_of_ble_eq_true rfl) dX2_push_130 (fun r_ w_ H locs hw hH => ?_)
          obtain ⟨z_10, rfl, rfl, h⟩ := hw
          refine j_istore (lv' := [(5, .int (J z_10)), (0, .ref (a 9)), (1, .int (J x1)), (4, .int (J x4)), (6, .int (J x6))]) C dX2_push_133 hl (by decide) rfl (fun ls hl => ?_)
          refine j_iinc (k := 4) (v := x6 + 1) (lv' := [(6, .int (J (x6 + 1))), (5, .int (J z_10)), (0, .ref (a 9)), (1, .int (J x1)), (4, .int (J x4))]) C dX2_push_135 hl rfl rfl (by decide) rfl (fun ls hl => ?_)
          refine j_goto C 84 dX2_push_138 (by decide) ?_
          exact hK84 z_10 (x6 + 1) gRow_9 h _ _ _ hH (lv_sub hl [2, 3, 4, 1, 0] rfl)
        · have h := h.2 c_8
          refine j_iload C dX2_push_117 (lv_at hl 2 rfl) ?_
          refine j_ineg C dX2_push_119 ?_
          refine j_goto C 125 dX2_push_120 (by decide) ?_
          refine j_iadd C dX2_push_125 ?_
          refine xs_gRow C hH b_7 dX2_push_126 (fun gRow_11 e_gRow_11 H locs hH => ?_)
          have h := h gRow_11 e_gRow_11
          refine j_aload_n C dX2_push_127 (lv_at hl 0 rfl) ?_
          refine j_iload C dX2_push_128 (lv_at hl 3 rfl) ?_
          refine xcallV_i (As := [.int (J x5)]) (rest := []) (q0 := 9) C hH (fun sz => c_G_nodeBefore h) xl_X2_112 rfl rfl ⟨rfl, rfl⟩ ⟨Nat.le_of_ble_eq_true rfl, Nat.le_of_ble_eq_true rfl⟩ hl.1 rfl rfl (Nat.le_of_ble_eq_true rfl) dX2_push_130 (fun r_ w_ H locs hw hH => ?_)
          obtain ⟨z_12, rfl, rfl, h⟩ := hw
          refine j_istore (lv' := [(5, .int (J z_12)), (0, .ref (a 9)), (1, .int (J x1)), (4, .int (J x4)), (6, .int (J x6))]) C dX2_push_133 hl (by decide) rfl (fun ls hl => ?_)
          refine j_iinc (k := 4) (v := x6 + 1) (lv' := [(6, .int (J (x6 + 1))), (5, .int (J z_12)), (0, .ref (a 9)), (1, .int (J x1)), (4, .int (J x4))]) C dX2_push_135 hl rfl rfl (by decide) rfl (fun ls hl => ?_)
          refine j_goto C 84 dX2_push_138 (by decide) ?_
          exact hK84 z_12 (x6 + 1) gRow_11 h _ _ _ hH (lv_sub hl [2, 3, 4, 1, 0] rfl)
set_option maxRecDepth 4000 in
theorem w_G_push_20 {p : Program} {l : Launch} {e : Env} {s : State} {m : MethodId} {args : Array Value} {below : List Frame} {meth : Method} {c : Code} {D : va_G} {cA : ClassId} {A : Nat → Prop} {a : Nat → Nat} {xStraight xLeast nPosts nThirds : Int} {nCorners nSums nArrows : Nat → Int} {aBehind aAhead : Int} {aCells aBefore aAfter : Nat → Int} {gCorners gLowest gFirst gFresh gThere : Int} {gRow gPlaces gOver gVia gQueue : Nat → Int} {bTold bStraight bLeast : Int} {bPostsOf bSets bTotals : Nat → Int} (C : XC p s m args meth c cX2_push 7 RX2 (some .int) D cA A) {Q : Int → (Nat → Int) → (Nat → Int) → (Nat → Int) → Prop} {x1 : Int} {x2 : Int}  : ∀ (n : Nat) (x4 : Int) (x5 : Int) (x6 : Int), wp_G_push_20 Q gLowest gPlaces x1 x2 gRow gVia gQueue n x4 x5 x6 → ∀ (H : Heap) (locs : List Loc) (ls : Array Slot), XH D A s (wX cA a xStraight xLeast nPosts nThirds nCorners nSums nArrows aBehind aAhead aCells aBefore aAfter gCorners gLowest gFirst gFresh gThere gRow gPlaces gOver gVia gQueue bTold bStraight bLeast bPostsOf bSets bTotals) H locs → lv_has ls 7 [(0, .ref (a 9)), (1, .int (J x1)), (2, .int (J x2)), (4, .int (J x4)), (5, .int (J x5)), (6, .int (J x6))] → W p l e rm_G_push s m args below meth c H locs 0 0 (MQ below (va_Qi (po_G_push cA a xStraight xLeast nPosts nThirds nCorners nSums nArrows aBehind aAhead aCells aBefore aAfter gCorners gLowest gFirst gFresh gThere gPlaces gOver bTold bStraight bLeast bPostsOf bSets bTotals Q) (xB D cA A) A) args s 0 0 A) (F0 m 20 ls []) := by
  intro n
  induction n with
  | zero => intro x4 x5 x6 h; exact (show False from h).elim
  | succ n hK20 =>
    intro x4 x5 x6 h H locs ls hH hl
    have h : wp_G_push_20_b  (wp_G_push_20 Q gLowest gPlaces x1 x2 gRow gVia gQueue n) Q gLowest gPlaces x1 x2 gRow gVia gQueue x4 x5 x6 := h
    unfold wp_G_push_20_b at h
    refine j_iload C dX2_push_20 (lv_at hl 5 rfl) ?_
    refine j_bipush C (by decide +kernel) dX2_push_22 ?_
    obtain ⟨g_13, h⟩ := h
    refine j_icmp_ge C 78 g_13 (by unfold jR; decide) dX2_push_24 (by decide) (fun c_14 => ?_) (fun c_14 => ?_)
    · have h := h.1 c_14
      refine j_iload_n C dX2_push_78 (lv_at hl 2 rfl) ?_
      refine j_istore (lv' := [(5, .int (J x2)), (0, .ref (a 9)), (1, .int (J x1)), (2, .int (J x2)), (4, .int (J x4)), (6, .int (J x6))]) C dX2_push_79 hl (by decide) rfl (fun ls hl => ?_)
      refine j_iconst C dX2_push_81 ?_
      refine j_istore (lv' := [(6, .int (J 0)), (5, .int (J x2)), (0, .ref (a 9)), (1, .int (J x1)), (2, .int (J x2)), (4, .int (J x4))]) C dX2_push_82 hl (by decide) rfl (fun ls hl => ?_)
      obtain ⟨n_, h⟩ := h
      exact w_G_push_84 C  n_ x2 0 gRow h _ _ _ hH (lv_sub hl [2, 3, 5, 1, 0] rfl)
    · have h := h.2 c_14
      refine j_iload C dX2_push_27 (lv_at hl 4 rfl) ?_
      refine j_iload_n C dX2_push_29 (lv_at hl 1 rfl) ?_
      obtain ⟨g_15, h⟩ := h
      obtain ⟨g_16, h⟩ := h
      refine j_icmp_eq C 78 g_15 g_16 dX2_push_30 (by decide) (fun c_17 => ?_) (fun c_17 => ?_)
      · have h := h.1 c_17
        refine j_iload_n C dX2_push_78 (lv_at hl 2 rfl) ?_
        refine j_istore (lv' := [(5, .int (J x2)), (0, .ref (a 9)), (1, .int (J x1)), (2, .int (J x2)), (4, .int (J x4)), (6, .int (J x6))]) C dX2_push_79 hl (by decide) rfl (fun ls hl => ?_)
        refine j_iconst C dX2_push_81 ?_
        refine j_istore (lv' := [(6, .int (J 0)), (5, .int (J x2)), (0, .ref (a 9)), (1, .int (J x1)), (2, .int (J x2)), (4, .int (J x4))]) C dX2_push_82 hl (by decide) rfl (fun ls hl => ?_)
        obtain ⟨n_, h⟩ := h
        exact w_G_push_84 C  n_ x2 0 gRow h _ _ _ hH (lv_sub hl [2, 3, 5, 1, 0] rfl)
      · have h := h.2 c_17
        refine j_iload C dX2_push_33 (lv_at hl 4 rfl) ?_
        refine j_bipush C (by decide +kernel) dX2_push_35 ?_
        refine j_icmp_lt C 64 g_15 (by unfold jR; decide) dX2_push_37 (by decide) (fun c_18 => ?_) (fun c_18 => ?_)
        · have h := h.1 c_18
          refine j_aload_n C dX2_push_64 (lv_at hl 0 rfl) ?_
          refine j_iload C dX2_push_65 (lv_at hl 4 rfl) ?_
          refine xcallV_i (As := [.int (J x5)]) (rest := []) (q0 := 9) C hH (fun sz => c_G_nodeBefore h) xl_X2_112 rfl rfl ⟨rfl, rfl⟩ ⟨Nat.le_of_ble_eq_true rfl, Nat.le_of_ble_eq_true rfl⟩ hl.1 rfl rfl (Nat.le_of_ble_eq_true rfl) dX2_push_67 (fun r_ w_ H locs hw hH => ?_)
          obtain ⟨z_19, rfl, rfl, h⟩ := hw
          refine j_istore (lv' := [(5, .int (J z_19)), (0, .ref (a 9)), (1, .int (J x1)), (2, .int (J x2)), (4, .int (J x4)), (6, .int (J x6))]) C dX2_push_70 hl (by decide) rfl (fun ls hl => ?_)
          refine j_iinc (k := 5) (v := x6 + 1) (lv' := [(6, .int (J (x6 + 1))), (5, .int (J z_19)), (0, .ref (a 9)), (1, .int (J x1)), (2, .int (J x2)), (4, .int (J x4))]) C dX2_push_72 hl rfl rfl (by decide) rfl (fun ls hl => ?_)
          refine j_goto C 20 dX2_push_75 (by decide) ?_
          exact hK20 x4 z_19 (x6 + 1) h _ _ _ hH (lv_sub hl [2, 3, 4, 5, 1, 0] rfl)
        · have h := h.2 c_18
          refine j_iload C dX2_push_40 (lv_at hl 3 rfl) ?_
          refine j_aload_n C dX2_push_42 (lv_at hl 0 rfl) ?_
          refine xg_X2_row C hH dX2_push_43 ?_
          refine j_aload_n C dX2_push_46 (lv_at hl 0 rfl) ?_
          refine xg_X2_via C hH dX2_push_47 ?_
          refine j_iload C dX2_push_50 (lv_at hl 4 rfl) ?_
          obtain ⟨b_20, h⟩ := h
          refine xa_gVia C hH b_20 dX2_push_52 ?_
          obtain ⟨b_21, h⟩ := h
          refine xa_gRow C hH b_21 dX2_push_53 ?_
          refine j_aload_n C dX2_push_54 (lv_at hl 0 rfl) ?_
          refine xg_X2_lowest C hH dX2_push_55 ?_
          refine j_isub C dX2_push_58 ?_
          refine j_mmin C hl.1 wl_X2_99 ⟨Nat.le_of_ble_eq_true rfl, Nat.le_of_ble_eq_true rfl⟩ dX2_push_59 ?_
          refine j_istore (lv' := [(4, .int (J (jmin x4 ((gRow (gVia x5.toNat).toNat) - gLowest)))), (0, .ref (a 9)), (1, .int (J x1)), (2, .int (J x2)), (5, .int (J x5)), (6, .int (J x6))]) C dX2_push_62 hl (by decide) rfl (fun ls hl => ?_)
          refine j_aload_n C dX2_push_64 (lv_at hl 1 rfl) ?_
          refine j_iload C dX2_push_65 (lv_at hl 4 rfl) ?_
          refine xcallV_i (As := [.int (J x5)]) (rest := []) (q0 := 9) C hH (fun sz => c_G_nodeBefore h) xl_X2_112 rfl rfl ⟨rfl, rfl⟩ ⟨Nat.le_of_ble_eq_true rfl, Nat.le_of_ble_eq_true rfl⟩ hl.1 rfl rfl (Nat.le_of_ble_eq_true rfl) dX2_push_67 (fun r_ w_ H locs hw hH => ?_)
          obtain ⟨z_22, rfl, rfl, h⟩ := hw
          refine j_istore (lv' := [(5, .int (J z_22)), (4, .int (J (jmin x4 ((gRow (gVia x5.toNat).toNat) - gLowest)))), (0, .ref (a 9)), (1, .int (J x1)), (2, .int (J x2)), (6, .int (J x6))]) C dX2_push_70 hl (by decide) rfl (fun ls hl => ?_)
          refine j_iinc (k := 5) (v := x6 + 1) (lv' := [(6, .int (J (x6 + 1))), (5, .int (J z_22)), (4, .int (J (jmin x4 ((gRow (gVia x5.toNat).toNat) - gLowest)))), (0, .ref (a 9)), (1, .int (J x1)), (2, .int (J x2))]) C dX2_push_72 hl rfl rfl (by decide) rfl (fun ls hl => ?_)
          refine j_goto C 20 dX2_push_75 (by decide) ?_
          exact hK20 (jmin x4 ((gRow (gVia x5.toNat).toNat) - gLowest)) z_22 (x6 + 1) h _ _ _ hH (lv_sub hl [3, 4, 5, 2, 1, 0] rfl)
set_option maxRecDepth 4000 in
theorem c_G_push {l : Launch} {D : va_G} {cA : ClassId} {a : Nat → Nat} {sz : Nat} {xStraight xLeast nPosts nThirds : Int} {nCorners nSums nArrows : Nat → Int} {aBehind aAhead : Int} {aCells aBefore aAfter : Nat → Int} {gCorners gLowest gFirst gFresh gThere : Int} {gRow gPlaces gOver gVia gQueue : Nat → Int} {bTold bStraight bLeast : Int} {bPostsOf bSets bTotals : Nat → Int} {x1 x2 x3 : Int} {Q : Int → (Nat → Int) → (Nat → Int) → (Nat → Int) → Prop} (h : wp_G_push x1 x2 x3 gCorners gLowest gFirst gRow gPlaces gVia gQueue Q) : Met l yX2_push (.code yX2_push cX2_push 7 (some .int) :: lw_ok) rm_G_push (xPre D cA sz [.ref (a 9), .int (J x1), .int (J x2), .int (J x3)] (wX cA a xStraight xLeast nPosts nThirds nCorners nSums nArrows aBehind aAhead aCells aBefore aAfter gCorners gLowest gFirst gFresh gThere gRow gPlaces gOver gVia gQueue bTold bStraight bLeast bPostsOf bSets bTotals)) (va_Qi (po_G_push cA a xStraight xLeast nPosts nThirds nCorners nSums nArrows aBehind aAhead aCells aBefore aAfter gCorners gLowest gFirst gFresh gThere gPlaces gOver bTold bStraight bLeast bPostsOf bSets bTotals Q) (xB D cA (va_A (wX cA a xStraight xLeast nPosts nThirds nCorners nSums nArrows aBehind aAhead aCells aBefore aAfter gCorners gLowest gFirst gFresh gThere gRow gPlaces gOver gVia gQueue bTold bStraight bLeast bPostsOf bSets bTotals) sz)) (va_A (wX cA a xStraight xLeast nPosts nThirds nCorners nSums nArrows aBehind aAhead aCells aBefore aAfter gCorners gLowest gFirst gFresh gThere gRow gPlaces gOver gVia gQueue bTold bStraight bLeast bPostsOf bSets bTotals) sz)) 0 0 (va_A (wX cA a xStraight xLeast nPosts nThirds nCorners nSums nArrows aBehind aAhead aCells aBefore aAfter gCorners gLowest gFirst gFresh gThere gRow gPlaces gOver gVia gQueue bTold bStraight bLeast bPostsOf bSets bTotals) sz) := by
  refine xmet_i (by decide) (Nat.le_of_ble_eq_true rfl) ?_
  intro p e s m args below meth c A ls C hH hl
  have C : XC p s m args meth c cX2_push 7 RX2 (some .int) D cA A := C
  have hl : lv_has ls 7 [(0, .ref (a 9)), (1, .int (J x1)), (2, .int (J x2)), (3, .int (J x3))] := hl
  unfold wp_G_push at h
  refine j_aload_n C dX2_push_0 (lv_at hl 0 rfl) ?_
  refine j_iload_n C dX2_push_1 (lv_at hl 1 rfl) ?_
  refine j_iload_n C dX2_push_2 (lv_at hl 2 rfl) ?_
  refine xcallV_i (As := [.int (J x1), .int (J x2)]) (rest := []) (q0 := 9) C hH (fun sz => c_G_reaches h) xl_X2_109 rfl rfl ⟨rfl, rfl⟩ ⟨Nat.le_of_ble_eq_true rfl, Nat.le_of_ble_eq_true rfl⟩ hl.1 rfl rfl (Nat.le_of_ble_eq_true rfl) dX2_push_3 (fun r_ w_ H locs hw hH => ?_)
  obtain ⟨z_23, gVia_24, gQueue_25, rfl, rfl, h⟩ := hw
  obtain ⟨g_26, h⟩ := h
  refine j_if_ne C 11 g_26 dX2_push_6 (by decide) (fun c_27 => ?_) (fun c_27 => ?_)
  · have h := h.2 c_27
    refine j_iload_n C dX2_push_11 (lv_at hl 3 rfl) ?_
    refine j_istore (lv' := [(4, .int (J x3)), (0, .ref (a 9)), (1, .int (J x1)), (2, .int (J x2)), (3, .int (J x3))]) C dX2_push_12 hl (by decide) rfl (fun ls hl => ?_)
    refine j_iload_n C dX2_push_14 (lv_at hl 3 rfl) ?_
    refine j_istore (lv' := [(5, .int (J x2)), (4, .int (J x3)), (0, .ref (a 9)), (1, .int (J x1)), (2, .int (J x2)), (3, .int (J x3))]) C dX2_push_15 hl (by decide) rfl (fun ls hl => ?_)
    refine j_iconst C dX2_push_17 ?_
    refine j_istore (lv' := [(6, .int (J 0)), (5, .int (J x2)), (4, .int (J x3)), (0, .ref (a 9)), (1, .int (J x1)), (2, .int (J x2)), (3, .int (J x3))]) C dX2_push_18 hl (by decide) rfl (fun ls hl => ?_)
    obtain ⟨n_, h⟩ := h
    exact w_G_push_20 C  n_ x3 x2 0 h _ _ _ hH (lv_sub hl [3, 4, 5, 2, 1, 0] rfl)
  · have h := h.1 c_27
    refine j_iconst C dX2_push_9 ?_
    exact j_iret C hH ⟨_, _, _, _, rfl, rfl, h⟩ dX2_push_10
abbrev po_G_level (cA : ClassId) (a : Nat → Nat) (xStraight xLeast nPosts nThirds : Int) (nCorners nSums nArrows : Nat → Int) (aBehind aAhead : Int) (aCells aBefore aAfter : Nat → Int) (gCorners gLowest gFirst gFresh gThere : Int) (gPlaces : Nat → Int) (bTold bStraight bLeast : Int) (bPostsOf bSets bTotals : Nat → Int) (Q : (Nat → Int) → (Nat → Int) → (Nat → Int) → (Nat → Int) → Prop) : va_W → Prop := fun w => ∃ gRow' gOver' gVia' gQueue', w = wX cA a xStraight xLeast nPosts nThirds nCorners nSums nArrows aBehind aAhead aCells aBefore aAfter gCorners gLowest gFirst gFresh gThere gRow' gPlaces gOver' gVia' gQueue' bTold bStraight bLeast bPostsOf bSets bTotals ∧ Q gRow' gOver' gVia' gQueue'
set_option maxRecDepth 4000 in
theorem w_G_level_2 {p : Program} {l : Launch} {e : Env} {s : State} {m : MethodId} {args : Array Value} {below : List Frame} {meth : Method} {c : Code} {D : va_G} {cA : ClassId} {A : Nat → Prop} {a : Nat → Nat} {xStraight xLeast nPosts nThirds : Int} {nCorners nSums nArrows : Nat → Int} {aBehind aAhead : Int} {aCells aBefore aAfter : Nat → Int} {gCorners gLowest gFirst gFresh gThere : Int} {gPlaces : Nat → Int} {bTold bStraight bLeast : Int} {bPostsOf bSets bTotals : Nat → Int} (C : XC p s m args meth c cX2_level 5 RX2 none D cA A) {Q : (Nat → Int) → (Nat → Int) → (Nat → Int) → (Nat → Int) → Prop} {x1 : Int} {x2 : Int}  : ∀ (n : Nat) (x3 : Int) (gRow : Nat → Int) (gOver : Nat → Int) (gVia : Nat → Int) (gQueue : Nat → Int), wp_G_level_2 Q gCorners gLowest gFirst gPlaces x1 x2 n x3 gRow gOver gVia gQueue → ∀ (H : Heap) (locs : List Loc) (ls : Array Slot), XH D A s (wX cA a xStraight xLeast nPosts nThirds nCorners nSums nArrows aBehind aAhead aCells aBefore aAfter gCorners gLowest gFirst gFresh gThere gRow gPlaces gOver gVia gQueue bTold bStraight bLeast bPostsOf bSets bTotals) H locs → lv_has ls 5 [(0, .ref (a 9)), (1, .int (J x1)), (2, .int (J x2)), (3, .int (J x3))] → W p l e rm_G_level s m args below meth c H locs 0 0 (MQ below (va_Qv (po_G_level cA a xStraight xLeast nPosts nThirds nCorners nSums nArrows aBehind aAhead aCells aBefore aAfter gCorners gLowest gFirst gFresh gThere gPlaces bTold bStraight bLeast bPostsOf bSets bTotals Q) (xB D cA A) A) args s 0 0 A) (F0 m 2 ls []) := by
  intro n
  induction n with
  | zero => intro x3 gRow gOver gVia gQueue h; exact (show False from h).elim
  | succ n hK2 =>
    intro x3 gRow gOver gVia gQueue h H locs ls hH hl
    have h : wp_G_level_2_b  (wp_G_level_2 Q gCorners gLowest gFirst gPlaces x1 x2 n) Q gCorners gLowest gFirst gPlaces x1 x2 x3 gRow gOver gVia gQueue := h
    unfold wp_G_level_2_b at h
    refine j_iload_n C dX2_level_2 (lv_at hl 3 rfl) ?_
    refine j_ldc C (n := 1000000) wk_X2_98 (by decide +kernel) dX2_level_3 ?_
    obtain ⟨g_1, h⟩ := h
    refine j_icmp_ge C 84 g_1 (by unfold jR; decide) dX2_level_5 (by decide) (fun c_2 => ?_) (fun c_2 => ?_)
    · have h := h.1 c_2
      exact j_vret C hH ⟨_, _, _, _, rfl, h⟩ dX2_level_84
    · have h := h.2 c_2
      refine j_aload_n C dX2_level_8 (lv_at hl 0 rfl) ?_
      refine xg_X2_over C hH dX2_level_9 ?_
      refine j_iload_n C dX2_level_12 (lv_at hl 1 rfl) ?_
      obtain ⟨b_3, h⟩ := h
      refine xa_gOver C hH b_3 dX2_level_13 ?_
      obtain ⟨g_4, h⟩ := h
      refine j_if_le C 84 g_4 dX2_level_14 (by decide) (fun c_5 => ?_) (fun c_5 => ?_)
      · have h := h.1 c_5
        exact j_vret C hH ⟨_, _, _, _, rfl, h⟩ dX2_level_84
      · have h := h.2 c_5
        refine j_aload_n C dX2_level_17 (lv_at hl 0 rfl) ?_
        refine xg_X2_over C hH dX2_level_18 ?_
        refine j_iload_n C dX2_level_21 (lv_at hl 2 rfl) ?_
        obtain ⟨b_6, h⟩ := h
        refine xa_gOver C hH b_6 dX2_level_22 ?_
        obtain ⟨g_7, h⟩ := h
        refine j_if_ge C 84 g_7 dX2_level_23 (by decide) (fun c_8 => ?_) (fun c_8 => ?_)
        · have h := h.1 c_8
          exact j_vret C hH ⟨_, _, _, _, rfl, h⟩ dX2_level_84
        · have h := h.2 c_8
          refine j_aload_n C dX2_level_26 (lv_at hl 0 rfl) ?_
          refine j_iload_n C dX2_level_27 (lv_at hl 1 rfl) ?_
          refine j_iload_n C dX2_level_28 (lv_at hl 2 rfl) ?_
          refine j_aload_n C dX2_level_29 (lv_at hl 0 rfl) ?_
          refine xg_X2_over C hH dX2_level_30 ?_
          refine j_iload_n C dX2_level_33 (lv_at hl 1 rfl) ?_
          refine xa_gOver C hH b_3 dX2_level_34 ?_
          refine j_aload_n C dX2_level_35 (lv_at hl 0 rfl) ?_
          refine xg_X2_over C hH dX2_level_36 ?_
          refine j_iload_n C dX2_level_39 (lv_at hl 2 rfl) ?_
          refine xa_gOver C hH b_6 dX2_level_40 ?_
          refine j_ineg C dX2_level_41 ?_
          refine j_mmin C hl.1 wl_X2_99 ⟨Nat.le_of_ble_eq_true rfl, Nat.le_of_ble_eq_true rfl⟩ dX2_level_42 ?_
          refine xcallV_i (As := [.int (J x1), .int (J x2), .int (J (jmin (gOver x1.toNat) (-(gOver x2.toNat))))]) (rest := []) (q0 := 9) C hH (fun sz => c_G_push h) xl_X2_105 rfl rfl ⟨rfl, rfl⟩ ⟨Nat.le_of_ble_eq_true rfl, Nat.le_of_ble_eq_true rfl⟩ hl.1 rfl rfl (Nat.le_of_ble_eq_true rfl) dX2_level_45 (fun r_ w_ H locs hw hH => ?_)
          obtain ⟨z_9, gRow_10, gVia_11, gQueue_12, rfl, rfl, h⟩ := hw
          refine j_istore (lv' := [(4, .int (J z_9)), (0, .ref (a 9)), (1, .int (J x1)), (2, .int (J x2)), (3, .int (J x3))]) C dX2_level_48 hl (by decide) rfl (fun ls hl => ?_)
          refine j_iload C dX2_level_50 (lv_at hl 0 rfl) ?_
          obtain ⟨g_13, h⟩ := h
          refine j_if_ne C 56 g_13 dX2_level_52 (by decide) (fun c_14 => ?_) (fun c_14 => ?_)
          · have h := h.2 c_14
            refine j_aload_n C dX2_level_56 (lv_at hl 1 rfl) ?_
            refine xg_X2_over C hH dX2_level_57 ?_
            refine j_iload_n C dX2_level_60 (lv_at hl 2 rfl) ?_
            refine j_dup2 C rfl rfl dX2_level_61 ?_
            refine xa_gOver C hH b_3 dX2_level_62 ?_
            refine j_iload C dX2_level_63 (lv_at hl 0 rfl) ?_
            refine j_isub C dX2_level_65 ?_
            refine xs_gOver C hH b_3 dX2_level_66 (fun gOver_15 e_gOver_15 H locs hH => ?_)
            have h := h gOver_15 e_gOver_15
            refine j_aload_n C dX2_level_67 (lv_at hl 1 rfl) ?_
            refine xg_X2_over C hH dX2_level_68 ?_
            refine j_iload_n C dX2_level_71 (lv_at hl 3 rfl) ?_
            refine j_dup2 C rfl rfl dX2_level_72 ?_
            refine xa_gOver C hH b_6 dX2_level_73 ?_
            refine j_iload C dX2_level_74 (lv_at hl 0 rfl) ?_
            refine j_iadd C dX2_level_76 ?_
            refine xs_gOver C hH b_6 dX2_level_77 (fun gOver_16 e_gOver_16 H locs hH => ?_)
            have h := h gOver_16 e_gOver_16
            refine j_iinc (k := 4) (v := x3 + 1) (lv' := [(3, .int (J (x3 + 1))), (4, .int (J z_9)), (0, .ref (a 9)), (1, .int (J x1)), (2, .int (J x2))]) C dX2_level_78 hl rfl rfl (by decide) rfl (fun ls hl => ?_)
            refine j_goto C 2 dX2_level_81 (by decide) ?_
            exact hK2 (x3 + 1) gRow_10 gOver_16 gVia_11 gQueue_12 h _ _ _ hH (lv_sub hl [2, 3, 4, 0] rfl)
          · have h := h.1 c_14
            exact j_vret C hH ⟨_, _, _, _, rfl, h⟩ dX2_level_55
set_option maxRecDepth 4000 in
theorem c_G_level {l : Launch} {D : va_G} {cA : ClassId} {a : Nat → Nat} {sz : Nat} {xStraight xLeast nPosts nThirds : Int} {nCorners nSums nArrows : Nat → Int} {aBehind aAhead : Int} {aCells aBefore aAfter : Nat → Int} {gCorners gLowest gFirst gFresh gThere : Int} {gRow gPlaces gOver gVia gQueue : Nat → Int} {bTold bStraight bLeast : Int} {bPostsOf bSets bTotals : Nat → Int} {x1 x2 : Int} {Q : (Nat → Int) → (Nat → Int) → (Nat → Int) → (Nat → Int) → Prop} (h : wp_G_level x1 x2 gCorners gLowest gFirst gRow gPlaces gOver gVia gQueue Q) : Met l yX2_level (.code yX2_level cX2_level 5 none :: lw_ok) rm_G_level (xPre D cA sz [.ref (a 9), .int (J x1), .int (J x2)] (wX cA a xStraight xLeast nPosts nThirds nCorners nSums nArrows aBehind aAhead aCells aBefore aAfter gCorners gLowest gFirst gFresh gThere gRow gPlaces gOver gVia gQueue bTold bStraight bLeast bPostsOf bSets bTotals)) (va_Qv (po_G_level cA a xStraight xLeast nPosts nThirds nCorners nSums nArrows aBehind aAhead aCells aBefore aAfter gCorners gLowest gFirst gFresh gThere gPlaces bTold bStraight bLeast bPostsOf bSets bTotals Q) (xB D cA (va_A (wX cA a xStraight xLeast nPosts nThirds nCorners nSums nArrows aBehind aAhead aCells aBefore aAfter gCorners gLowest gFirst gFresh gThere gRow gPlaces gOver gVia gQueue bTold bStraight bLeast bPostsOf bSets bTotals) sz)) (va_A (wX cA a xStraight xLeast nPosts nThirds nCorners nSums nArrows aBehind aAhead aCells aBefore aAfter gCorners gLowest gFirst gFresh gThere gRow gPlaces gOver gVia gQueue bTold bStraight bLeast bPostsOf bSets bTotals) sz)) 0 0 (va_A (wX cA a xStraight xLeast nPosts nThirds nCorners nSums nArrows aBehind aAhead aCells aBefore aAfter gCorners gLowest gFirst gFresh gThere gRow gPlaces gOver gVia gQueue bTold bStraight bLeast bPostsOf bSets bTotals) sz) := by
  refine xmet_v (by decide) (Nat.le_of_ble_eq_true rfl) ?_
  intro p e s m args below meth c A ls C hH hl
  have C : XC p s m args meth c cX2_level 5 RX2 none D cA A := C
  have hl : lv_has ls 5 [(0, .ref (a 9)), (1, .int (J x1)), (2, .int (J x2))] := hl
  unfold wp_G_level at h
  refine j_iconst C dX2_level_0 ?_
  refine j_istore_n (lv' := [(3, .int (J 0)), (0, .ref (a 9)), (1, .int (J x1)), (2, .int (J x2))]) C dX2_level_1 hl (by decide) rfl (fun ls hl => ?_)
  obtain ⟨n_, h⟩ := h
  exact w_G_level_2 C  n_ 0 gRow gOver gVia gQueue h _ _ _ hH (lv_sub hl [1, 2, 3, 0] rfl)
abbrev po_N_allSums (cA : ClassId) (a : Nat → Nat) (xStraight xLeast nPosts nThirds : Int) (nCorners nSums nArrows : Nat → Int) (aBehind aAhead : Int) (aCells aBefore aAfter : Nat → Int) (gCorners gLowest gFirst gFresh gThere : Int) (gRow gPlaces gOver gVia gQueue : Nat → Int) (bTold bStraight bLeast : Int) (bPostsOf bSets bTotals : Nat → Int) (Q : Int → Prop) : Int32 → va_W → Prop := fun r w => ∃ z, r = J z ∧ w = wX cA a xStraight xLeast nPosts nThirds nCorners nSums nArrows aBehind aAhead aCells aBefore aAfter gCorners gLowest gFirst gFresh gThere gRow gPlaces gOver gVia gQueue bTold bStraight bLeast bPostsOf bSets bTotals ∧ Q z
set_option maxRecDepth 4000 in
theorem w_N_allSums_4 {p : Program} {l : Launch} {e : Env} {s : State} {m : MethodId} {args : Array Value} {below : List Frame} {meth : Method} {c : Code} {D : va_G} {cA : ClassId} {A : Nat → Prop} {a : Nat → Nat} {xStraight xLeast nPosts nThirds : Int} {nCorners nSums nArrows : Nat → Int} {aBehind aAhead : Int} {aCells aBefore aAfter : Nat → Int} {gCorners gLowest gFirst gFresh gThere : Int} {gRow gPlaces gOver gVia gQueue : Nat → Int} {bTold bStraight bLeast : Int} {bPostsOf bSets bTotals : Nat → Int} (C : XC p s m args meth c cX3_allSums 3 RX3 (some .int) D cA A) {Q : Int → Prop}  : ∀ (n : Nat) (x1 : Int) (x2 : Int), wp_N_allSums_4 Q nPosts nSums n x1 x2 → ∀ (H : Heap) (locs : List Loc) (ls : Array Slot), XH D A s (wX cA a xStraight xLeast nPosts nThirds nCorners nSums nArrows aBehind aAhead aCells aBefore aAfter gCorners gLowest gFirst gFresh gThere gRow gPlaces gOver gVia gQueue bTold bStraight bLeast bPostsOf bSets bTotals) H locs → lv_has ls 3 [(0, .ref (a 1)), (1, .int (J x1)), (2, .int (J x2))] → W p l e rm_N_allSums s m args below meth c H locs 0 0 (MQ below (va_Qi (po_N_allSums cA a xStraight xLeast nPosts nThirds nCorners nSums nArrows aBehind aAhead aCells aBefore aAfter gCorners gLowest gFirst gFresh gThere gRow gPlaces gOver gVia gQueue bTold bStraight bLeast bPostsOf bSets bTotals Q) (xB D cA A) A) args s 0 0 A) (F0 m 4 ls []) := by
  intro n
  induction n with
  | zero => intro x1 x2 h; exact (show False from h).elim
  | succ n hK4 =>
    intro x1 x2 h H locs ls hH hl
    have h : wp_N_allSums_4_b  (wp_N_allSums_4 Q nPosts nSums n) Q nPosts nSums  x1 x2 := h
    unfold wp_N_allSums_4_b at h
    refine j_iload_n C dX3_allSums_4 (lv_at hl 2 rfl) ?_
    refine j_aload_n C dX3_allSums_5 (lv_at hl 0 rfl) ?_
    refine xg_X3_posts C hH dX3_allSums_6 ?_
    obtain ⟨g_1, h⟩ := h
    obtain ⟨g_2, h⟩ := h
    refine j_icmp_ge C 35 g_1 g_2 dX3_allSums_9 (by decide) (fun c_3 => ?_) (fun c_3 => ?_)
    · have h := h.1 c_3
      refine j_iload_n C dX3_allSums_35 (lv_at hl 1 rfl) ?_
      exact j_iret C hH ⟨_, rfl, rfl, h⟩ dX3_allSums_36
    · have h := h.2 c_3
      refine j_aload_n C dX3_allSums_12 (lv_at hl 0 rfl) ?_
      refine j_iload_n C dX3_allSums_13 (lv_at hl 2 rfl) ?_
      refine xcallV_i (As := [.int (J x2)]) (rest := []) (q0 := 1) C hH (fun sz => c_N_isTold h) xl_X3_84 rfl rfl ⟨rfl, rfl⟩ ⟨Nat.le_of_ble_eq_true rfl, Nat.le_of_ble_eq_true rfl⟩ hl.1 rfl rfl (Nat.le_of_ble_eq_true rfl) dX3_allSums_14 (fun r_ w_ H locs hw hH => ?_)
      obtain ⟨z_4, rfl, rfl, h⟩ := hw
      obtain ⟨g_5, h⟩ := h
      refine j_if_eq C 29 g_5 dX3_allSums_17 (by decide) (fun c_6 => ?_) (fun c_6 => ?_)
      · have h := h.1 c_6
        refine j_iinc (k := 2) (v := x2 + 1) (lv' := [(2, .int (J (x2 + 1))), (0, .ref (a 1)), (1, .int (J x1))]) C dX3_allSums_29 hl rfl rfl (by decide) rfl (fun ls hl => ?_)
        refine j_goto C 4 dX3_allSums_32 (by decide) ?_
        exact hK4 x1 (x2 + 1) h _ _ _ hH (lv_sub hl [1, 2, 0] rfl)
      · have h := h.2 c_6
        refine j_iload_n C dX3_allSums_20 (lv_at hl 1 rfl) ?_
        refine j_aload_n C dX3_allSums_21 (lv_at hl 0 rfl) ?_
        refine xg_X3_sums C hH dX3_allSums_22 ?_
        refine j_iload_n C dX3_allSums_25 (lv_at hl 2 rfl) ?_
        obtain ⟨b_7, h⟩ := h
        refine xa_nSums C hH b_7 dX3_allSums_26 ?_
        refine j_iadd C dX3_allSums_27 ?_
        refine j_istore_n (lv' := [(1, .int (J (x1 + (nSums x2.toNat)))), (0, .ref (a 1)), (2, .int (J x2))]) C dX3_allSums_28 hl (by decide) rfl (fun ls hl => ?_)
        refine j_iinc (k := 2) (v := x2 + 1) (lv' := [(2, .int (J (x2 + 1))), (1, .int (J (x1 + (nSums x2.toNat)))), (0, .ref (a 1))]) C dX3_allSums_29 hl rfl rfl (by decide) rfl (fun ls hl => ?_)
        refine j_goto C 4 dX3_allSums_32 (by decide) ?_
        exact hK4 (x1 + (nSums x2.toNat)) (x2 + 1) h _ _ _ hH (lv_sub hl [2, 1, 0] rfl)
set_option maxRecDepth 4000 in
theorem c_N_allSums {l : Launch} {D : va_G} {cA : ClassId} {a : Nat → Nat} {sz : Nat} {xStraight xLeast nPosts nThirds : Int} {nCorners nSums nArrows : Nat → Int} {aBehind aAhead : Int} {aCells aBefore aAfter : Nat → Int} {gCorners gLowest gFirst gFresh gThere : Int} {gRow gPlaces gOver gVia gQueue : Nat → Int} {bTold bStraight bLeast : Int} {bPostsOf bSets bTotals : Nat → Int} {Q : Int → Prop} (h : wp_N_allSums  nPosts nSums Q) : Met l yX3_allSums (.code yX3_allSums cX3_allSums 3 (some .int) :: lw_ok) rm_N_allSums (xPre D cA sz [.ref (a 1)] (wX cA a xStraight xLeast nPosts nThirds nCorners nSums nArrows aBehind aAhead aCells aBefore aAfter gCorners gLowest gFirst gFresh gThere gRow gPlaces gOver gVia gQueue bTold bStraight bLeast bPostsOf bSets bTotals)) (va_Qi (po_N_allSums cA a xStraight xLeast nPosts nThirds nCorners nSums nArrows aBehind aAhead aCells aBefore aAfter gCorners gLowest gFirst gFresh gThere gRow gPlaces gOver gVia gQueue bTold bStraight bLeast bPostsOf bSets bTotals Q) (xB D cA (va_A (wX cA a xStraight xLeast nPosts nThirds nCorners nSums nArrows aBehind aAhead aCells aBefore aAfter gCorners gLowest gFirst gFresh gThere gRow gPlaces gOver gVia gQueue bTold bStraight bLeast bPostsOf bSets bTotals) sz)) (va_A (wX cA a xStraight xLeast nPosts nThirds nCorners nSums nArrows aBehind aAhead aCells aBefore aAfter gCorners gLowest gFirst gFresh gThere gRow gPlaces gOver gVia gQueue bTold bStraight bLeast bPostsOf bSets bTotals) sz)) 0 0 (va_A (wX cA a xStraight xLeast nPosts nThirds nCorners nSums nArrows aBehind aAhead aCells aBefore aAfter gCorners gLowest gFirst gFresh gThere gRow gPlaces gOver gVia gQueue bTold bStraight bLeast bPostsOf bSets bTotals) sz) := by
  refine xmet_i (by decide) (Nat.le_of_ble_eq_true rfl) ?_
  intro p e s m args below meth c A ls C hH hl
  have C : XC p s m args meth c cX3_allSums 3 RX3 (some .int) D cA A := C
  have hl : lv_has ls 3 [(0, .ref (a 1))] := hl
  unfold wp_N_allSums at h
  refine j_iconst C dX3_allSums_0 ?_
  refine j_istore_n (lv' := [(1, .int (J 0)), (0, .ref (a 1))]) C dX3_allSums_1 hl (by decide) rfl (fun ls hl => ?_)
  refine j_iconst C dX3_allSums_2 ?_
  refine j_istore_n (lv' := [(2, .int (J 0)), (1, .int (J 0)), (0, .ref (a 1))]) C dX3_allSums_3 hl (by decide) rfl (fun ls hl => ?_)
  obtain ⟨n_, h⟩ := h
  exact w_N_allSums_4 C  n_ 0 0 h _ _ _ hH (lv_sub hl [2, 1, 0] rfl)
abbrev po_G_weigh (cA : ClassId) (a : Nat → Nat) (xStraight xLeast nPosts nThirds : Int) (nCorners nSums nArrows : Nat → Int) (aBehind aAhead : Int) (aCells aBefore aAfter : Nat → Int) (gCorners gLowest gFirst gFresh gThere : Int) (gRow gPlaces gVia gQueue : Nat → Int) (bTold bStraight bLeast : Int) (bPostsOf bSets bTotals : Nat → Int) (Q : (Nat → Int) → Prop) : va_W → Prop := fun w => ∃ gOver', w = wX cA a xStraight xLeast nPosts nThirds nCorners nSums nArrows aBehind aAhead aCells aBefore aAfter gCorners gLowest gFirst gFresh gThere gRow gPlaces gOver' gVia gQueue bTold bStraight bLeast bPostsOf bSets bTotals ∧ Q gOver'
set_option maxRecDepth 4000 in
theorem w_G_weigh_83 {p : Program} {l : Launch} {e : Env} {s : State} {m : MethodId} {args : Array Value} {below : List Frame} {meth : Method} {c : Code} {D : va_G} {cA : ClassId} {A : Nat → Prop} {a : Nat → Nat} {xStraight xLeast nPosts nThirds : Int} {nCorners nSums nArrows : Nat → Int} {aBehind aAhead : Int} {aCells aBefore aAfter : Nat → Int} {gCorners gLowest gFirst gFresh gThere : Int} {gRow gPlaces gVia gQueue : Nat → Int} {bTold bStraight bLeast : Int} {bPostsOf bSets bTotals : Nat → Int} (C : XC p s m args meth c cX2_weigh 3 RX2 none D cA A) {Q : (Nat → Int) → Prop}  : ∀ (n : Nat) (x2 : Int) (gOver : Nat → Int), wp_G_weigh_83 Q gCorners gRow gPlaces n x2 gOver → ∀ (H : Heap) (locs : List Loc) (ls : Array Slot), XH D A s (wX cA a xStraight xLeast nPosts nThirds nCorners nSums nArrows aBehind aAhead aCells aBefore aAfter gCorners gLowest gFirst gFresh gThere gRow gPlaces gOver gVia gQueue bTold bStraight bLeast bPostsOf bSets bTotals) H locs → lv_has ls 3 [(0, .ref (a 9)), (2, .int (J x2))] → W p l e rm_G_weigh s m args below meth c H locs 0 0 (MQ below (va_Qv (po_G_weigh cA a xStraight xLeast nPosts nThirds nCorners nSums nArrows aBehind aAhead aCells aBefore aAfter gCorners gLowest gFirst gFresh gThere gRow gPlaces gVia gQueue bTold bStraight bLeast bPostsOf bSets bTotals Q) (xB D cA A) A) args s 0 0 A) (F0 m 83 ls []) := by
  intro n
  induction n with
  | zero => intro x2 gOver h; exact (show False from h).elim
  | succ n hK83 =>
    intro x2 gOver h H locs ls hH hl
    have h : wp_G_weigh_83_b  (wp_G_weigh_83 Q gCorners gRow gPlaces n) Q gCorners gRow gPlaces  x2 gOver := h
    unfold wp_G_weigh_83_b at h
    refine j_iload_n C dX2_weigh_83 (lv_at hl 1 rfl) ?_
    refine j_aload_n C dX2_weigh_84 (lv_at hl 0 rfl) ?_
    refine xg_X2_corners C hH dX2_weigh_85 ?_
    obtain ⟨g_1, h⟩ := h
    obtain ⟨g_2, h⟩ := h
    refine j_icmp_ge C 117 g_1 g_2 dX2_weigh_88 (by decide) (fun c_3 => ?_) (fun c_3 => ?_)
    · have h := h.1 c_3
      exact j_vret C hH ⟨_, rfl, h⟩ dX2_weigh_117
    · have h := h.2 c_3
      refine j_aload_n C dX2_weigh_91 (lv_at hl 0 rfl) ?_
      refine xg_X2_over C hH dX2_weigh_92 ?_
      refine j_aload_n C dX2_weigh_95 (lv_at hl 0 rfl) ?_
      refine xg_X2_places C hH dX2_weigh_96 ?_
      refine j_iload_n C dX2_weigh_99 (lv_at hl 1 rfl) ?_
      obtain ⟨b_4, h⟩ := h
      refine xa_gPlaces C hH b_4 dX2_weigh_100 ?_
      refine j_dup2 C rfl rfl dX2_weigh_101 ?_
      obtain ⟨b_5, h⟩ := h
      refine xa_gOver C hH b_5 dX2_weigh_102 ?_
      refine j_aload_n C dX2_weigh_103 (lv_at hl 0 rfl) ?_
      refine xg_X2_row C hH dX2_weigh_104 ?_
      refine j_iload_n C dX2_weigh_107 (lv_at hl 1 rfl) ?_
      refine xa_gRow C hH b_4 dX2_weigh_108 ?_
      refine j_iadd C dX2_weigh_109 ?_
      refine xs_gOver C hH b_5 dX2_weigh_110 (fun gOver_6 e_gOver_6 H locs hH => ?_)
      have h := h gOver_6 e_gOver_6
      refine j_iinc (k := 1) (v := x2 + 1) (lv' := [(2, .int (J (x2 + 1))), (0, .ref (a 9))]) C dX2_weigh_111 hl rfl rfl (by decide) rfl (fun ls hl => ?_)
      refine j_goto C 83 dX2_weigh_114 (by decide) ?_
      exact hK83 (x2 + 1) gOver_6 h _ _ _ hH (lv_sub hl [1, 0] rfl)
set_option maxRecDepth 4000 in
theorem w_G_weigh_10 {p : Program} {l : Launch} {e : Env} {s : State} {m : MethodId} {args : Array Value} {below : List Frame} {meth : Method} {c : Code} {D : va_G} {cA : ClassId} {A : Nat → Prop} {a : Nat → Nat} {xStraight xLeast nPosts nThirds : Int} {nCorners nSums nArrows : Nat → Int} {aBehind aAhead : Int} {aCells aBefore aAfter : Nat → Int} {gCorners gLowest gFirst gFresh gThere : Int} {gRow gPlaces gVia gQueue : Nat → Int} {bTold bStraight bLeast : Int} {bPostsOf bSets bTotals : Nat → Int} (C : XC p s m args meth c cX2_weigh 3 RX2 none D cA A) {Q : (Nat → Int) → Prop} {x1 : Int}  : ∀ (n : Nat) (x2 : Int) (gOver : Nat → Int), wp_G_weigh_10 Q nPosts nThirds nSums gCorners gRow gPlaces x1 n x2 gOver → ∀ (H : Heap) (locs : List Loc) (ls : Array Slot), XH D A s (wX cA a xStraight xLeast nPosts nThirds nCorners nSums nArrows aBehind aAhead aCells aBefore aAfter gCorners gLowest gFirst gFresh gThere gRow gPlaces gOver gVia gQueue bTold bStraight bLeast bPostsOf bSets bTotals) H locs → lv_has ls 3 [(0, .ref (a 9)), (1, .int (J x1)), (2, .int (J x2))] → W p l e rm_G_weigh s m args below meth c H locs 0 0 (MQ below (va_Qv (po_G_weigh cA a xStraight xLeast nPosts nThirds nCorners nSums nArrows aBehind aAhead aCells aBefore aAfter gCorners gLowest gFirst gFresh gThere gRow gPlaces gVia gQueue bTold bStraight bLeast bPostsOf bSets bTotals Q) (xB D cA A) A) args s 0 0 A) (F0 m 10 ls []) := by
  intro n
  induction n with
  | zero => intro x2 gOver h; exact (show False from h).elim
  | succ n hK10 =>
    intro x2 gOver h H locs ls hH hl
    have h : wp_G_weigh_10_b  (wp_G_weigh_10 Q nPosts nThirds nSums gCorners gRow gPlaces x1 n) Q nPosts nThirds nSums gCorners gRow gPlaces x1 x2 gOver := h
    unfold wp_G_weigh_10_b at h
    refine j_iload_n C dX2_weigh_10 (lv_at hl 2 rfl) ?_
    refine j_aload_n C dX2_weigh_11 (lv_at hl 0 rfl) ?_
    refine xg_X2_net C hH dX2_weigh_12 ?_
    refine xcallV_i (As := []) (rest := [.int (J x2)]) (q0 := 1) C hH (fun sz => c_N_postCount h) xl_X2_86 rfl rfl ⟨rfl, rfl⟩ ⟨Nat.le_of_ble_eq_true rfl, Nat.le_of_ble_eq_true rfl⟩ hl.1 rfl rfl (Nat.le_of_ble_eq_true rfl) dX2_weigh_15 (fun r_ w_ H locs hw hH => ?_)
    obtain ⟨z_7, rfl, rfl, h⟩ := hw
    obtain ⟨g_8, h⟩ := h
    obtain ⟨g_9, h⟩ := h
    refine j_icmp_ge C 57 g_8 g_9 dX2_weigh_18 (by decide) (fun c_10 => ?_) (fun c_10 => ?_)
    · have h := h.1 c_10
      refine j_aload_n C dX2_weigh_57 (lv_at hl 0 rfl) ?_
      refine xg_X2_over C hH dX2_weigh_58 ?_
      refine j_bipush C (by decide +kernel) dX2_weigh_61 ?_
      refine j_aload_n C dX2_weigh_63 (lv_at hl 0 rfl) ?_
      refine xg_X2_net C hH dX2_weigh_64 ?_
      refine xcallV_i (As := []) (rest := [.int (J 9), .ref (a 12)]) (q0 := 1) C hH (fun sz => c_N_allSums h) xl_X2_92 rfl rfl ⟨rfl, rfl⟩ ⟨Nat.le_of_ble_eq_true rfl, Nat.le_of_ble_eq_true rfl⟩ hl.1 rfl rfl (Nat.le_of_ble_eq_true rfl) dX2_weigh_67 (fun r_ w_ H locs hw hH => ?_)
      obtain ⟨z_11, rfl, rfl, h⟩ := hw
      refine j_iload_n C dX2_weigh_70 (lv_at hl 1 rfl) ?_
      refine j_aload_n C dX2_weigh_71 (lv_at hl 0 rfl) ?_
      refine xg_X2_net C hH dX2_weigh_72 ?_
      refine xcallV_i (As := []) (rest := [.int (J x1), .int (J z_11), .int (J 9), .ref (a 12)]) (q0 := 1) C hH (fun sz => c_N_thirdCount h) xl_X2_95 rfl rfl ⟨rfl, rfl⟩ ⟨Nat.le_of_ble_eq_true rfl, Nat.le_of_ble_eq_true rfl⟩ hl.1 rfl rfl (Nat.le_of_ble_eq_true rfl) dX2_weigh_75 (fun r_ w_ H locs hw hH => ?_)
      obtain ⟨z_12, rfl, rfl, h⟩ := hw
      refine j_imul C dX2_weigh_78 ?_
      refine j_isub C dX2_weigh_79 ?_
      refine xs_gOver C hH ⟨by decide, by decide⟩ dX2_weigh_80 (fun gOver_13 e_gOver_13 H locs hH => ?_)
      have h := h gOver_13 e_gOver_13
      refine j_iconst C dX2_weigh_81 ?_
      refine j_istore_n (lv' := [(2, .int (J 0)), (0, .ref (a 9)), (1, .int (J x1))]) C dX2_weigh_82 hl (by decide) rfl (fun ls hl => ?_)
      obtain ⟨n_, h⟩ := h
      exact w_G_weigh_83 C  n_ 0 gOver_13 h _ _ _ hH (lv_sub hl [1, 0] rfl)
    · have h := h.2 c_10
      refine j_aload_n C dX2_weigh_21 (lv_at hl 0 rfl) ?_
      refine xg_X2_over C hH dX2_weigh_22 ?_
      refine j_iload_n C dX2_weigh_25 (lv_at hl 2 rfl) ?_
      refine j_aload_n C dX2_weigh_26 (lv_at hl 0 rfl) ?_
      refine xg_X2_net C hH dX2_weigh_27 ?_
      refine j_iload_n C dX2_weigh_30 (lv_at hl 2 rfl) ?_
      refine xcallV_i (As := [.int (J x2)]) (rest := [.int (J x2), .ref (a 12)]) (q0 := 1) C hH (fun sz => c_N_isTold h) xl_X2_76 rfl rfl ⟨rfl, rfl⟩ ⟨Nat.le_of_ble_eq_true rfl, Nat.le_of_ble_eq_true rfl⟩ hl.1 rfl rfl (Nat.le_of_ble_eq_true rfl) dX2_weigh_31 (fun r_ w_ H locs hw hH => ?_)
      obtain ⟨z_14, rfl, rfl, h⟩ := hw
      obtain ⟨g_15, h⟩ := h
      refine j_if_eq C 49 g_15 dX2_weigh_34 (by decide) (fun c_16 => ?_) (fun c_16 => ?_)
      · have h := h.1 c_16
        refine j_iconst C dX2_weigh_49 ?_
        obtain ⟨b_17, h⟩ := h
        refine xs_gOver C hH b_17 dX2_weigh_50 (fun gOver_18 e_gOver_18 H locs hH => ?_)
        have h := h gOver_18 e_gOver_18
        refine j_iinc (k := 2) (v := x2 + 1) (lv' := [(2, .int (J (x2 + 1))), (0, .ref (a 9)), (1, .int (J x1))]) C dX2_weigh_51 hl rfl rfl (by decide) rfl (fun ls hl => ?_)
        refine j_goto C 10 dX2_weigh_54 (by decide) ?_
        exact hK10 (x2 + 1) gOver_18 h _ _ _ hH (lv_sub hl [1, 2, 0] rfl)
      · have h := h.2 c_16
        refine j_aload_n C dX2_weigh_37 (lv_at hl 0 rfl) ?_
        refine xg_X2_net C hH dX2_weigh_38 ?_
        refine j_iload_n C dX2_weigh_41 (lv_at hl 2 rfl) ?_
        refine xcallV_i (As := [.int (J x2)]) (rest := [.int (J x2), .ref (a 12)]) (q0 := 1) C hH (fun sz => c_N_sumOf h) xl_X2_89 rfl rfl ⟨rfl, rfl⟩ ⟨Nat.le_of_ble_eq_true rfl, Nat.le_of_ble_eq_true rfl⟩ hl.1 rfl rfl (Nat.le_of_ble_eq_true rfl) dX2_weigh_42 (fun r_ w_ H locs hw hH => ?_)
        obtain ⟨z_19, rfl, rfl, h⟩ := hw
        refine j_ineg C dX2_weigh_45 ?_
        refine j_goto C 50 dX2_weigh_46 (by decide) ?_
        obtain ⟨b_20, h⟩ := h
        refine xs_gOver C hH b_20 dX2_weigh_50 (fun gOver_21 e_gOver_21 H locs hH => ?_)
        have h := h gOver_21 e_gOver_21
        refine j_iinc (k := 2) (v := x2 + 1) (lv' := [(2, .int (J (x2 + 1))), (0, .ref (a 9)), (1, .int (J x1))]) C dX2_weigh_51 hl rfl rfl (by decide) rfl (fun ls hl => ?_)
        refine j_goto C 10 dX2_weigh_54 (by decide) ?_
        exact hK10 (x2 + 1) gOver_21 h _ _ _ hH (lv_sub hl [1, 2, 0] rfl)
set_option maxRecDepth 4000 in
theorem c_G_weigh {l : Launch} {D : va_G} {cA : ClassId} {a : Nat → Nat} {sz : Nat} {xStraight xLeast nPosts nThirds : Int} {nCorners nSums nArrows : Nat → Int} {aBehind aAhead : Int} {aCells aBefore aAfter : Nat → Int} {gCorners gLowest gFirst gFresh gThere : Int} {gRow gPlaces gOver gVia gQueue : Nat → Int} {bTold bStraight bLeast : Int} {bPostsOf bSets bTotals : Nat → Int} {x1 : Int} {Q : (Nat → Int) → Prop} (h : wp_G_weigh x1 nPosts nThirds nSums gCorners gRow gPlaces gOver Q) : Met l yX2_weigh (.code yX2_weigh cX2_weigh 3 none :: lw_ok) rm_G_weigh (xPre D cA sz [.ref (a 9), .int (J x1)] (wX cA a xStraight xLeast nPosts nThirds nCorners nSums nArrows aBehind aAhead aCells aBefore aAfter gCorners gLowest gFirst gFresh gThere gRow gPlaces gOver gVia gQueue bTold bStraight bLeast bPostsOf bSets bTotals)) (va_Qv (po_G_weigh cA a xStraight xLeast nPosts nThirds nCorners nSums nArrows aBehind aAhead aCells aBefore aAfter gCorners gLowest gFirst gFresh gThere gRow gPlaces gVia gQueue bTold bStraight bLeast bPostsOf bSets bTotals Q) (xB D cA (va_A (wX cA a xStraight xLeast nPosts nThirds nCorners nSums nArrows aBehind aAhead aCells aBefore aAfter gCorners gLowest gFirst gFresh gThere gRow gPlaces gOver gVia gQueue bTold bStraight bLeast bPostsOf bSets bTotals) sz)) (va_A (wX cA a xStraight xLeast nPosts nThirds nCorners nSums nArrows aBehind aAhead aCells aBefore aAfter gCorners gLowest gFirst gFresh gThere gRow gPlaces gOver gVia gQueue bTold bStraight bLeast bPostsOf bSets bTotals) sz)) 0 0 (va_A (wX cA a xStraight xLeast nPosts nThirds nCorners nSums nArrows aBehind aAhead aCells aBefore aAfter gCorners gLowest gFirst gFresh gThere gRow gPlaces gOver gVia gQueue bTold bStraight bLeast bPostsOf bSets bTotals) sz) := by
  refine xmet_v (by decide) (Nat.le_of_ble_eq_true rfl) ?_
  intro p e s m args below meth c A ls C hH hl
  have C : XC p s m args meth c cX2_weigh 3 RX2 none D cA A := C
  have hl : lv_has ls 3 [(0, .ref (a 9)), (1, .int (J x1))] := hl
  unfold wp_G_weigh at h
  refine j_aload_n C dX2_weigh_0 (lv_at hl 0 rfl) ?_
  refine xg_X2_over C hH dX2_weigh_1 ?_
  refine j_iconst C dX2_weigh_4 ?_
  refine xcallS_v (As := [.ref (a 12), .int (J 0)]) (rest := []) C hH (fun sz => c_I_fill 12 rfl (by decide)) xl_X2_80 ⟨rfl, rfl⟩ ⟨Nat.le_of_ble_eq_true rfl, Nat.le_of_ble_eq_true rfl⟩ hl.1 rfl rfl (Nat.le_of_ble_eq_true rfl) dX2_weigh_5 (fun w_ H locs hw hH => ?_)
  obtain ⟨gOver_22, e_gOver_22⟩ : ∃ f, f = fillf gOver 10 0 := ⟨_, rfl⟩
  have h := h gOver_22 e_gOver_22
  subst hw
  rw [← e_gOver_22] at hH
  have hH : XH D A s (wX cA a xStraight xLeast nPosts nThirds nCorners nSums nArrows aBehind aAhead aCells aBefore aAfter gCorners gLowest gFirst gFresh gThere gRow gPlaces gOver_22 gVia gQueue bTold bStraight bLeast bPostsOf bSets bTotals) H locs := hH
  refine j_iconst C dX2_weigh_8 ?_
  refine j_istore_n (lv' := [(2, .int (J 0)), (0, .ref (a 9)), (1, .int (J x1))]) C dX2_weigh_9 hl (by decide) rfl (fun ls hl => ?_)
  obtain ⟨n_, h⟩ := h
  exact w_G_weigh_10 C  n_ 0 gOver_22 h _ _ _ hH (lv_sub hl [1, 2, 0] rfl)
abbrev po_G_findAny (cA : ClassId) (a : Nat → Nat) (xStraight xLeast nPosts nThirds : Int) (nCorners nSums nArrows : Nat → Int) (aBehind aAhead : Int) (aCells aBefore aAfter : Nat → Int) (gThere bTold bStraight bLeast : Int) (bPostsOf bSets bTotals : Nat → Int) (Q : Int → Int → Int → Int → Int → (Nat → Int) → (Nat → Int) → (Nat → Int) → (Nat → Int) → (Nat → Int) → Prop) : Int32 → va_W → Prop := fun r w => ∃ z gCorners' gLowest' gFirst' gFresh' gRow' gPlaces' gOver' gVia' gQueue', r = J z ∧ w = wX cA a xStraight xLeast nPosts nThirds nCorners nSums nArrows aBehind aAhead aCells aBefore aAfter gCorners' gLowest' gFirst' gFresh' gThere gRow' gPlaces' gOver' gVia' gQueue' bTold bStraight bLeast bPostsOf bSets bTotals ∧ Q z gCorners' gLowest' gFirst' gFresh' gRow' gPlaces' gOver' gVia' gQueue'
set_option maxRecDepth 4000 in
theorem w_G_findAny_27 {p : Program} {l : Launch} {e : Env} {s : State} {m : MethodId} {args : Array Value} {below : List Frame} {meth : Method} {c : Code} {D : va_G} {cA : ClassId} {A : Nat → Prop} {a : Nat → Nat} {xStraight xLeast nPosts nThirds : Int} {nCorners nSums nArrows : Nat → Int} {aBehind aAhead : Int} {aCells aBefore aAfter : Nat → Int} {gCorners gLowest gFirst gFresh gThere : Int} {gPlaces : Nat → Int} {bTold bStraight bLeast : Int} {bPostsOf bSets bTotals : Nat → Int} (C : XC p s m args meth c cX2_findAny 5 RX2 (some .boolean) D cA A) {K18 : Int → (Nat → Int) → (Nat → Int) → (Nat → Int) → (Nat → Int) → Prop} {Q : Int → Int → Int → Int → Int → (Nat → Int) → (Nat → Int) → (Nat → Int) → (Nat → Int) → (Nat → Int) → Prop} {x3 : Int}  (hK18 : ∀ (x3 : Int) (gRow : Nat → Int) (gOver : Nat → Int) (gVia : Nat → Int) (gQueue : Nat → Int), K18 x3 gRow gOver gVia gQueue → ∀ (H : Heap) (locs : List Loc) (ls : Array Slot), XH D A s (wX cA a xStraight xLeast nPosts nThirds nCorners nSums nArrows aBehind aAhead aCells aBefore aAfter gCorners gLowest gFirst gFresh gThere gRow gPlaces gOver gVia gQueue bTold bStraight bLeast bPostsOf bSets bTotals) H locs → lv_has ls 5 [(0, .ref (a 9)), (3, .int (J x3))] → W p l e rm_G_findAny s m args below meth c H locs 0 0 (MQ below (va_Qi (po_G_findAny cA a xStraight xLeast nPosts nThirds nCorners nSums nArrows aBehind aAhead aCells aBefore aAfter gThere bTold bStraight bLeast bPostsOf bSets bTotals Q) (xB D cA A) A) args s 0 0 A) (F0 m 18 ls [])) : ∀ (n : Nat) (x4 : Int) (gRow : Nat → Int) (gOver : Nat → Int) (gVia : Nat → Int) (gQueue : Nat → Int), wp_G_findAny_27 K18 Q x3 gCorners gLowest gFirst gFresh gPlaces n x4 gRow gOver gVia gQueue → ∀ (H : Heap) (locs : List Loc) (ls : Array Slot), XH D A s (wX cA a xStraight xLeast nPosts nThirds nCorners nSums nArrows aBehind aAhead aCells aBefore aAfter gCorners gLowest gFirst gFresh gThere gRow gPlaces gOver gVia gQueue bTold bStraight bLeast bPostsOf bSets bTotals) H locs → lv_has ls 5 [(0, .ref (a 9)), (3, .int (J x3)), (4, .int (J x4))] → W p l e rm_G_findAny s m args below meth c H locs 0 0 (MQ below (va_Qi (po_G_findAny cA a xStraight xLeast nPosts nThirds nCorners nSums nArrows aBehind aAhead aCells aBefore aAfter gThere bTold bStraight bLeast bPostsOf bSets bTotals Q) (xB D cA A) A) args s 0 0 A) (F0 m 27 ls []) := by
  intro n
  induction n with
  | zero => intro x4 gRow gOver gVia gQueue h; exact (show False from h).elim
  | succ n hK27 =>
    intro x4 gRow gOver gVia gQueue h H locs ls hH hl
    have h : wp_G_findAny_27_b K18 (wp_G_findAny_27 K18 Q x3 gCorners gLowest gFirst gFresh gPlaces n) Q  x3 gCorners gLowest gFirst gFresh gPlaces x4 gRow gOver gVia gQueue := h
    unfold wp_G_findAny_27_b at h
    refine j_iload C dX2_findAny_27 (lv_at hl 2 rfl) ?_
    refine j_bipush C (by decide +kernel) dX2_findAny_29 ?_
    obtain ⟨g_1, h⟩ := h
    refine j_icmp_ge C 56 g_1 (by unfold jR; decide) dX2_findAny_31 (by decide) (fun c_2 => ?_) (fun c_2 => ?_)
    · have h := h.1 c_2
      refine j_aload_n C dX2_findAny_56 (lv_at hl 0 rfl) ?_
      refine xg_X2_over C hH dX2_findAny_57 ?_
      refine j_iload_n C dX2_findAny_60 (lv_at hl 1 rfl) ?_
      obtain ⟨b_3, h⟩ := h
      refine xa_gOver C hH b_3 dX2_findAny_61 ?_
      obtain ⟨g_4, h⟩ := h
      refine j_if_le C 67 g_4 dX2_findAny_62 (by decide) (fun c_5 => ?_) (fun c_5 => ?_)
      · have h := h.1 c_5
        refine j_iinc (k := 1) (v := x3 + 1) (lv' := [(3, .int (J (x3 + 1))), (0, .ref (a 9)), (4, .int (J x4))]) C dX2_findAny_67 hl rfl rfl (by decide) rfl (fun ls hl => ?_)
        refine j_goto C 18 dX2_findAny_70 (by decide) ?_
        exact hK18 (x3 + 1) gRow gOver gVia gQueue h _ _ _ hH (lv_sub hl [1, 0] rfl)
      · have h := h.2 c_5
        refine j_iconst C dX2_findAny_65 ?_
        exact j_zret C hH (Or.inl rfl) ⟨_, _, _, _, _, _, _, _, _, _, rfl, rfl, h⟩ dX2_findAny_66
    · have h := h.2 c_2
      refine j_aload_n C dX2_findAny_34 (lv_at hl 0 rfl) ?_
      refine xg_X2_over C hH dX2_findAny_35 ?_
      refine j_iload_n C dX2_findAny_38 (lv_at hl 1 rfl) ?_
      obtain ⟨b_6, h⟩ := h
      refine xa_gOver C hH b_6 dX2_findAny_39 ?_
      obtain ⟨g_7, h⟩ := h
      refine j_if_le C 56 g_7 dX2_findAny_40 (by decide) (fun c_8 => ?_) (fun c_8 => ?_)
      · have h := h.1 c_8
        refine j_aload_n C dX2_findAny_56 (lv_at hl 0 rfl) ?_
        refine xg_X2_over C hH dX2_findAny_57 ?_
        refine j_iload_n C dX2_findAny_60 (lv_at hl 1 rfl) ?_
        refine xa_gOver C hH b_6 dX2_findAny_61 ?_
        refine j_if_le C 67 g_7 dX2_findAny_62 (by decide) (fun c_9 => ?_) (fun c_9 => ?_)
        · have h := h.1 c_9
          refine j_iinc (k := 1) (v := x3 + 1) (lv' := [(3, .int (J (x3 + 1))), (0, .ref (a 9)), (4, .int (J x4))]) C dX2_findAny_67 hl rfl rfl (by decide) rfl (fun ls hl => ?_)
          refine j_goto C 18 dX2_findAny_70 (by decide) ?_
          exact hK18 (x3 + 1) gRow gOver gVia gQueue h _ _ _ hH (lv_sub hl [1, 0] rfl)
        · have h := h.2 c_9
          refine j_iconst C dX2_findAny_65 ?_
          exact j_zret C hH (Or.inl rfl) ⟨_, _, _, _, _, _, _, _, _, _, rfl, rfl, h⟩ dX2_findAny_66
      · have h := h.2 c_8
        refine j_aload_n C dX2_findAny_43 (lv_at hl 0 rfl) ?_
        refine j_iload_n C dX2_findAny_44 (lv_at hl 1 rfl) ?_
        refine j_iload C dX2_findAny_45 (lv_at hl 2 rfl) ?_
        refine xcallV_v (As := [.int (J x3), .int (J x4)]) (rest := []) (q0 := 9) C hH (fun sz => c_G_level h) xl_X2_63 rfl rfl ⟨rfl, rfl⟩ ⟨Nat.le_of_ble_eq_true rfl, Nat.le_of_ble_eq_true rfl⟩ hl.1 rfl rfl (Nat.le_of_ble_eq_true rfl) dX2_findAny_47 (fun w_ H locs hw hH => ?_)
        obtain ⟨gRow_10, gOver_11, gVia_12, gQueue_13, rfl, h⟩ := hw
        refine j_iinc (k := 2) (v := x4 + 1) (lv' := [(4, .int (J (x4 + 1))), (0, .ref (a 9)), (3, .int (J x3))]) C dX2_findAny_50 hl rfl rfl (by decide) rfl (fun ls hl => ?_)
        refine j_goto C 27 dX2_findAny_53 (by decide) ?_
        exact hK27 (x4 + 1) gRow_10 gOver_11 gVia_12 gQueue_13 h _ _ _ hH (lv_sub hl [1, 2, 0] rfl)
set_option maxRecDepth 4000 in
theorem w_G_findAny_18 {p : Program} {l : Launch} {e : Env} {s : State} {m : MethodId} {args : Array Value} {below : List Frame} {meth : Method} {c : Code} {D : va_G} {cA : ClassId} {A : Nat → Prop} {a : Nat → Nat} {xStraight xLeast nPosts nThirds : Int} {nCorners nSums nArrows : Nat → Int} {aBehind aAhead : Int} {aCells aBefore aAfter : Nat → Int} {gCorners gLowest gFirst gFresh gThere : Int} {gPlaces : Nat → Int} {bTold bStraight bLeast : Int} {bPostsOf bSets bTotals : Nat → Int} (C : XC p s m args meth c cX2_findAny 5 RX2 (some .boolean) D cA A) {Q : Int → Int → Int → Int → Int → (Nat → Int) → (Nat → Int) → (Nat → Int) → (Nat → Int) → (Nat → Int) → Prop}  : ∀ (n : Nat) (x3 : Int) (gRow : Nat → Int) (gOver : Nat → Int) (gVia : Nat → Int) (gQueue : Nat → Int), wp_G_findAny_18 Q gCorners gLowest gFirst gFresh gPlaces n x3 gRow gOver gVia gQueue → ∀ (H : Heap) (locs : List Loc) (ls : Array Slot), XH D A s (wX cA a xStraight xLeast nPosts nThirds nCorners nSums nArrows aBehind aAhead aCells aBefore aAfter gCorners gLowest gFirst gFresh gThere gRow gPlaces gOver gVia gQueue bTold bStraight bLeast bPostsOf bSets bTotals) H locs → lv_has ls 5 [(0, .ref (a 9)), (3, .int (J x3))] → W p l e rm_G_findAny s m args below meth c H locs 0 0 (MQ below (va_Qi (po_G_findAny cA a xStraight xLeast nPosts nThirds nCorners nSums nArrows aBehind aAhead aCells aBefore aAfter gThere bTold bStraight bLeast bPostsOf bSets bTotals Q) (xB D cA A) A) args s 0 0 A) (F0 m 18 ls []) := by
  intro n
  induction n with
  | zero => intro x3 gRow gOver gVia gQueue h; exact (show False from h).elim
  | succ n hK18 =>
    intro x3 gRow gOver gVia gQueue h H locs ls hH hl
    have h : wp_G_findAny_18_b  (wp_G_findAny_18 Q gCorners gLowest gFirst gFresh gPlaces n) Q  gCorners gLowest gFirst gFresh gPlaces x3 gRow gOver gVia gQueue := h
    unfold wp_G_findAny_18_b at h
    refine j_iload_n C dX2_findAny_18 (lv_at hl 1 rfl) ?_
    refine j_bipush C (by decide +kernel) dX2_findAny_19 ?_
    obtain ⟨g_14, h⟩ := h
    refine j_icmp_ge C 73 g_14 (by unfold jR; decide) dX2_findAny_21 (by decide) (fun c_15 => ?_) (fun c_15 => ?_)
    · have h := h.1 c_15
      refine j_iconst C dX2_findAny_73 ?_
      exact j_zret C hH (Or.inr rfl) ⟨_, _, _, _, _, _, _, _, _, _, rfl, rfl, h⟩ dX2_findAny_74
    · have h := h.2 c_15
      refine j_iconst C dX2_findAny_24 ?_
      refine j_istore (lv' := [(4, .int (J 0)), (0, .ref (a 9)), (3, .int (J x3))]) C dX2_findAny_25 hl (by decide) rfl (fun ls hl => ?_)
      obtain ⟨n_, h⟩ := h
      exact w_G_findAny_27 C hK18 n_ 0 gRow gOver gVia gQueue h _ _ _ hH (lv_sub hl [1, 2, 0] rfl)
set_option maxRecDepth 4000 in
theorem c_G_findAny {l : Launch} {D : va_G} {cA : ClassId} {a : Nat → Nat} {sz : Nat} {xStraight xLeast nPosts nThirds : Int} {nCorners nSums nArrows : Nat → Int} {aBehind aAhead : Int} {aCells aBefore aAfter : Nat → Int} {gCorners gLowest gFirst gFresh gThere : Int} {gRow gPlaces gOver gVia gQueue : Nat → Int} {bTold bStraight bLeast : Int} {bPostsOf bSets bTotals : Nat → Int} {x1 x2 : Int} {Q : Int → Int → Int → Int → Int → (Nat → Int) → (Nat → Int) → (Nat → Int) → (Nat → Int) → (Nat → Int) → Prop} (h : wp_G_findAny x1 x2 nPosts nThirds nCorners nSums gCorners gLowest gFirst gFresh gRow gPlaces gOver gVia gQueue Q) : Met l yX2_findAny (.code yX2_findAny cX2_findAny 5 (some .boolean) :: lw_ok) rm_G_findAny (xPre D cA sz [.ref (a 9), .int (J x1), .int (J x2)] (wX cA a xStraight xLeast nPosts nThirds nCorners nSums nArrows aBehind aAhead aCells aBefore aAfter gCorners gLowest gFirst gFresh gThere gRow gPlaces gOver gVia gQueue bTold bStraight bLeast bPostsOf bSets bTotals)) (va_Qi (po_G_findAny cA a xStraight xLeast nPosts nThirds nCorners nSums nArrows aBehind aAhead aCells aBefore aAfter gThere bTold bStraight bLeast bPostsOf bSets bTotals Q) (xB D cA (va_A (wX cA a xStraight xLeast nPosts nThirds nCorners nSums nArrows aBehind aAhead aCells aBefore aAfter gCorners gLowest gFirst gFresh gThere gRow gPlaces gOver gVia gQueue bTold bStraight bLeast bPostsOf bSets bTotals) sz)) (va_A (wX cA a xStraight xLeast nPosts nThirds nCorners nSums nArrows aBehind aAhead aCells aBefore aAfter gCorners gLowest gFirst gFresh gThere gRow gPlaces gOver gVia gQueue bTold bStraight bLeast bPostsOf bSets bTotals) sz)) 0 0 (va_A (wX cA a xStraight xLeast nPosts nThirds nCorners nSums nArrows aBehind aAhead aCells aBefore aAfter gCorners gLowest gFirst gFresh gThere gRow gPlaces gOver gVia gQueue bTold bStraight bLeast bPostsOf bSets bTotals) sz) := by
  refine xmet_i (by decide) (Nat.le_of_ble_eq_true rfl) ?_
  intro p e s m args below meth c A ls C hH hl
  have C : XC p s m args meth c cX2_findAny 5 RX2 (some .boolean) D cA A := C
  have hl : lv_has ls 5 [(0, .ref (a 9)), (1, .int (J x1)), (2, .int (J x2))] := hl
  unfold wp_G_findAny at h
  refine j_aload_n C dX2_findAny_0 (lv_at hl 0 rfl) ?_
  refine j_iconst C dX2_findAny_1 ?_
  refine xp_X2_rowIsFresh C hH (Or.inl rfl) dX2_findAny_2 (fun H locs hH => ?_)
  refine j_aload_n C dX2_findAny_5 (lv_at hl 0 rfl) ?_
  refine j_iload_n C dX2_findAny_6 (lv_at hl 1 rfl) ?_
  refine j_iload_n C dX2_findAny_7 (lv_at hl 2 rfl) ?_
  refine xcallV_v (As := [.int (J x1), .int (J x2)]) (rest := []) (q0 := 9) C hH (fun sz => c_G_begin h) xl_X2_56 rfl rfl ⟨rfl, rfl⟩ ⟨Nat.le_of_ble_eq_true rfl, Nat.le_of_ble_eq_true rfl⟩ hl.1 rfl rfl (Nat.le_of_ble_eq_true rfl) dX2_findAny_8 (fun w_ H locs hw hH => ?_)
  obtain ⟨gCorners_16, gLowest_17, gFirst_18, gRow_19, gPlaces_20, rfl, h⟩ := hw
  refine j_aload_n C dX2_findAny_11 (lv_at hl 0 rfl) ?_
  refine j_iload_n C dX2_findAny_12 (lv_at hl 1 rfl) ?_
  refine xcallV_v (As := [.int (J x1)]) (rest := []) (q0 := 9) C hH (fun sz => c_G_weigh h) xl_X2_60 rfl rfl ⟨rfl, rfl⟩ ⟨Nat.le_of_ble_eq_true rfl, Nat.le_of_ble_eq_true rfl⟩ hl.1 rfl rfl (Nat.le_of_ble_eq_true rfl) dX2_findAny_13 (fun w_ H locs hw hH => ?_)
  obtain ⟨gOver_21, rfl, h⟩ := hw
  refine j_iconst C dX2_findAny_16 ?_
  refine j_istore_n (lv' := [(3, .int (J 0)), (0, .ref (a 9)), (1, .int (J x1)), (2, .int (J x2))]) C dX2_findAny_17 hl (by decide) rfl (fun ls hl => ?_)
  obtain ⟨n_, h⟩ := h
  exact w_G_findAny_18 C  n_ 0 gRow_19 gOver_21 gVia gQueue h _ _ _ hH (lv_sub hl [1, 0] rfl)
abbrev po_G_sink (cA : ClassId) (a : Nat → Nat) (xStraight xLeast nPosts nThirds : Int) (nCorners nSums nArrows : Nat → Int) (aBehind aAhead : Int) (aCells aBefore aAfter : Nat → Int) (gCorners gLowest gFresh gThere : Int) (gPlaces gOver : Nat → Int) (bTold bStraight bLeast : Int) (bPostsOf bSets bTotals : Nat → Int) (Q : Int → (Nat → Int) → (Nat → Int) → (Nat → Int) → Prop) : va_W → Prop := fun w => ∃ gFirst' gRow' gVia' gQueue', w = wX cA a xStraight xLeast nPosts nThirds nCorners nSums nArrows aBehind aAhead aCells aBefore aAfter gCorners gLowest gFirst' gFresh gThere gRow' gPlaces gOver gVia' gQueue' bTold bStraight bLeast bPostsOf bSets bTotals ∧ Q gFirst' gRow' gVia' gQueue'
set_option maxRecDepth 4000 in
theorem w_G_sink_9 {p : Program} {l : Launch} {e : Env} {s : State} {m : MethodId} {args : Array Value} {below : List Frame} {meth : Method} {c : Code} {D : va_G} {cA : ClassId} {A : Nat → Prop} {a : Nat → Nat} {xStraight xLeast nPosts nThirds : Int} {nCorners nSums nArrows : Nat → Int} {aBehind aAhead : Int} {aCells aBefore aAfter : Nat → Int} {gCorners gLowest gFirst gFresh gThere : Int} {gPlaces gOver : Nat → Int} {bTold bStraight bLeast : Int} {bPostsOf bSets bTotals : Nat → Int} (C : XC p s m args meth c cX2_sink 4 RX2 none D cA A) {Q : Int → (Nat → Int) → (Nat → Int) → (Nat → Int) → Prop} {x1 : Int}  : ∀ (n : Nat) (x2 : Int) (gRow : Nat → Int) (gVia : Nat → Int) (gQueue : Nat → Int), wp_G_sink_9 Q gCorners gLowest gPlaces x1 gFirst n x2 gRow gVia gQueue → ∀ (H : Heap) (locs : List Loc) (ls : Array Slot), XH D A s (wX cA a xStraight xLeast nPosts nThirds nCorners nSums nArrows aBehind aAhead aCells aBefore aAfter gCorners gLowest gFirst gFresh gThere gRow gPlaces gOver gVia gQueue bTold bStraight bLeast bPostsOf bSets bTotals) H locs → lv_has ls 4 [(0, .ref (a 9)), (1, .int (J x1)), (2, .int (J x2))] → W p l e rm_G_sink s m args below meth c H locs 0 0 (MQ below (va_Qv (po_G_sink cA a xStraight xLeast nPosts nThirds nCorners nSums nArrows aBehind aAhead aCells aBefore aAfter gCorners gLowest gFresh gThere gPlaces gOver bTold bStraight bLeast bPostsOf bSets bTotals Q) (xB D cA A) A) args s 0 0 A) (F0 m 9 ls []) := by
  intro n
  induction n with
  | zero => intro x2 gRow gVia gQueue h; exact (show False from h).elim
  | succ n hK9 =>
    intro x2 gRow gVia gQueue h H locs ls hH hl
    have h : wp_G_sink_9_b  (wp_G_sink_9 Q gCorners gLowest gPlaces x1 gFirst n) Q gCorners gLowest gPlaces x1 gFirst x2 gRow gVia gQueue := h
    unfold wp_G_sink_9_b at h
    refine j_iload_n C dX2_sink_9 (lv_at hl 2 rfl) ?_
    refine j_ldc C (n := 1000000) wk_X2_98 (by decide +kernel) dX2_sink_10 ?_
    obtain ⟨g_1, h⟩ := h
    refine j_icmp_ge C 77 g_1 (by unfold jR; decide) dX2_sink_12 (by decide) (fun c_2 => ?_) (fun c_2 => ?_)
    · have h := h.1 c_2
      exact j_vret C hH ⟨_, _, _, _, rfl, h⟩ dX2_sink_77
    · have h := h.2 c_2
      refine j_aload_n C dX2_sink_15 (lv_at hl 0 rfl) ?_
      refine xg_X2_row C hH dX2_sink_16 ?_
      refine j_iload_n C dX2_sink_19 (lv_at hl 1 rfl) ?_
      obtain ⟨b_3, h⟩ := h
      refine xa_gRow C hH b_3 dX2_sink_20 ?_
      refine j_aload_n C dX2_sink_21 (lv_at hl 0 rfl) ?_
      refine xg_X2_lowest C hH dX2_sink_22 ?_
      obtain ⟨g_4, h⟩ := h
      obtain ⟨g_5, h⟩ := h
      refine j_icmp_le C 77 g_4 g_5 dX2_sink_25 (by decide) (fun c_6 => ?_) (fun c_6 => ?_)
      · have h := h.1 c_6
        exact j_vret C hH ⟨_, _, _, _, rfl, h⟩ dX2_sink_77
      · have h := h.2 c_6
        refine j_aload_n C dX2_sink_28 (lv_at hl 0 rfl) ?_
        refine j_bipush C (by decide +kernel) dX2_sink_29 ?_
        refine j_iload_n C dX2_sink_31 (lv_at hl 1 rfl) ?_
        refine j_iconst C dX2_sink_32 ?_
        refine j_idiv C (by decide +kernel) dX2_sink_33 ?_
        refine j_iadd C dX2_sink_34 ?_
        refine j_aload_n C dX2_sink_35 (lv_at hl 0 rfl) ?_
        refine xg_X2_places C hH dX2_sink_36 ?_
        refine j_iload_n C dX2_sink_39 (lv_at hl 1 rfl) ?_
        refine xa_gPlaces C hH b_3 dX2_sink_40 ?_
        refine j_aload_n C dX2_sink_41 (lv_at hl 0 rfl) ?_
        refine xg_X2_row C hH dX2_sink_42 ?_
        refine j_iload_n C dX2_sink_45 (lv_at hl 1 rfl) ?_
        refine xa_gRow C hH b_3 dX2_sink_46 ?_
        refine j_aload_n C dX2_sink_47 (lv_at hl 0 rfl) ?_
        refine xg_X2_lowest C hH dX2_sink_48 ?_
        refine j_isub C dX2_sink_51 ?_
        refine xcallV_i (As := [.int (J (10 + (jdiv x1 3))), .int (J (gPlaces x1.toNat)), .int (J ((gRow x1.toNat) - gLowest))]) (rest := []) (q0 := 9) C hH (fun sz => c_G_push h) xl_X2_105 rfl rfl ⟨rfl, rfl⟩ ⟨Nat.le_of_ble_eq_true rfl, Nat.le_of_ble_eq_true rfl⟩ hl.1 rfl rfl (Nat.le_of_ble_eq_true rfl) dX2_sink_52 (fun r_ w_ H locs hw hH => ?_)
        obtain ⟨z_7, gRow_8, gVia_9, gQueue_10, rfl, rfl, h⟩ := hw
        refine j_istore_n (lv' := [(3, .int (J z_7)), (0, .ref (a 9)), (1, .int (J x1)), (2, .int (J x2))]) C dX2_sink_55 hl (by decide) rfl (fun ls hl => ?_)
        refine j_iload_n C dX2_sink_56 (lv_at hl 0 rfl) ?_
        obtain ⟨g_11, h⟩ := h
        refine j_if_ne C 61 g_11 dX2_sink_57 (by decide) (fun c_12 => ?_) (fun c_12 => ?_)
        · have h := h.2 c_12
          refine j_aload_n C dX2_sink_61 (lv_at hl 1 rfl) ?_
          refine xg_X2_row C hH dX2_sink_62 ?_
          refine j_iload_n C dX2_sink_65 (lv_at hl 2 rfl) ?_
          refine j_dup2 C rfl rfl dX2_sink_66 ?_
          refine xa_gRow C hH b_3 dX2_sink_67 ?_
          refine j_iload_n C dX2_sink_68 (lv_at hl 0 rfl) ?_
          refine j_isub C dX2_sink_69 ?_
          refine xs_gRow C hH b_3 dX2_sink_70 (fun gRow_13 e_gRow_13 H locs hH => ?_)
          have h := h gRow_13 e_gRow_13
          refine j_iinc (k := 3) (v := x2 + 1) (lv' := [(2, .int (J (x2 + 1))), (3, .int (J z_7)), (0, .ref (a 9)), (1, .int (J x1))]) C dX2_sink_71 hl rfl rfl (by decide) rfl (fun ls hl => ?_)
          refine j_goto C 9 dX2_sink_74 (by decide) ?_
          exact hK9 (x2 + 1) gRow_13 gVia_9 gQueue_10 h _ _ _ hH (lv_sub hl [2, 3, 0] rfl)
        · have h := h.1 c_12
          exact j_vret C hH ⟨_, _, _, _, rfl, h⟩ dX2_sink_60
set_option maxRecDepth 4000 in
theorem c_G_sink {l : Launch} {D : va_G} {cA : ClassId} {a : Nat → Nat} {sz : Nat} {xStraight xLeast nPosts nThirds : Int} {nCorners nSums nArrows : Nat → Int} {aBehind aAhead : Int} {aCells aBefore aAfter : Nat → Int} {gCorners gLowest gFirst gFresh gThere : Int} {gRow gPlaces gOver gVia gQueue : Nat → Int} {bTold bStraight bLeast : Int} {bPostsOf bSets bTotals : Nat → Int} {x1 : Int} {Q : Int → (Nat → Int) → (Nat → Int) → (Nat → Int) → Prop} (h : wp_G_sink x1 gCorners gLowest gFirst gRow gPlaces gVia gQueue Q) : Met l yX2_sink (.code yX2_sink cX2_sink 4 none :: lw_ok) rm_G_sink (xPre D cA sz [.ref (a 9), .int (J x1)] (wX cA a xStraight xLeast nPosts nThirds nCorners nSums nArrows aBehind aAhead aCells aBefore aAfter gCorners gLowest gFirst gFresh gThere gRow gPlaces gOver gVia gQueue bTold bStraight bLeast bPostsOf bSets bTotals)) (va_Qv (po_G_sink cA a xStraight xLeast nPosts nThirds nCorners nSums nArrows aBehind aAhead aCells aBefore aAfter gCorners gLowest gFresh gThere gPlaces gOver bTold bStraight bLeast bPostsOf bSets bTotals Q) (xB D cA (va_A (wX cA a xStraight xLeast nPosts nThirds nCorners nSums nArrows aBehind aAhead aCells aBefore aAfter gCorners gLowest gFirst gFresh gThere gRow gPlaces gOver gVia gQueue bTold bStraight bLeast bPostsOf bSets bTotals) sz)) (va_A (wX cA a xStraight xLeast nPosts nThirds nCorners nSums nArrows aBehind aAhead aCells aBefore aAfter gCorners gLowest gFirst gFresh gThere gRow gPlaces gOver gVia gQueue bTold bStraight bLeast bPostsOf bSets bTotals) sz)) 0 0 (va_A (wX cA a xStraight xLeast nPosts nThirds nCorners nSums nArrows aBehind aAhead aCells aBefore aAfter gCorners gLowest gFirst gFresh gThere gRow gPlaces gOver gVia gQueue bTold bStraight bLeast bPostsOf bSets bTotals) sz) := by
  refine xmet_v (by decide) (Nat.le_of_ble_eq_true rfl) ?_
  intro p e s m args below meth c A ls C hH hl
  have C : XC p s m args meth c cX2_sink 4 RX2 none D cA A := C
  have hl : lv_has ls 4 [(0, .ref (a 9)), (1, .int (J x1))] := hl
  unfold wp_G_sink at h
  refine j_aload_n C dX2_sink_0 (lv_at hl 0 rfl) ?_
  refine j_iload_n C dX2_sink_1 (lv_at hl 1 rfl) ?_
  refine j_iconst C dX2_sink_2 ?_
  refine j_iadd C dX2_sink_3 ?_
  refine xp_X2_firstOpen C hH dX2_sink_4 (fun H locs hH => ?_)
  refine j_iconst C dX2_sink_7 ?_
  refine j_istore_n (lv' := [(2, .int (J 0)), (0, .ref (a 9)), (1, .int (J x1))]) C dX2_sink_8 hl (by decide) rfl (fun ls hl => ?_)
  obtain ⟨n_, h⟩ := h
  exact w_G_sink_9 C  n_ 0 gRow gVia gQueue h _ _ _ hH (lv_sub hl [1, 2, 0] rfl)
abbrev po_G_findRow (cA : ClassId) (a : Nat → Nat) (xStraight xLeast nPosts nThirds : Int) (nCorners nSums nArrows : Nat → Int) (aBehind aAhead : Int) (aCells aBefore aAfter : Nat → Int) (bTold bStraight bLeast : Int) (bPostsOf bSets bTotals : Nat → Int) (Q : Int → Int → Int → Int → Int → Int → (Nat → Int) → (Nat → Int) → (Nat → Int) → (Nat → Int) → (Nat → Int) → Prop) : Int32 → va_W → Prop := fun r w => ∃ z gCorners' gLowest' gFirst' gFresh' gThere' gRow' gPlaces' gOver' gVia' gQueue', r = J z ∧ w = wX cA a xStraight xLeast nPosts nThirds nCorners nSums nArrows aBehind aAhead aCells aBefore aAfter gCorners' gLowest' gFirst' gFresh' gThere' gRow' gPlaces' gOver' gVia' gQueue' bTold bStraight bLeast bPostsOf bSets bTotals ∧ Q z gCorners' gLowest' gFirst' gFresh' gThere' gRow' gPlaces' gOver' gVia' gQueue'
set_option maxRecDepth 4000 in
theorem w_G_findRow_19 {p : Program} {l : Launch} {e : Env} {s : State} {m : MethodId} {args : Array Value} {below : List Frame} {meth : Method} {c : Code} {D : va_G} {cA : ClassId} {A : Nat → Prop} {a : Nat → Nat} {xStraight xLeast nPosts nThirds : Int} {nCorners nSums nArrows : Nat → Int} {aBehind aAhead : Int} {aCells aBefore aAfter : Nat → Int} {gCorners gLowest gFresh gThere : Int} {gPlaces gOver : Nat → Int} {bTold bStraight bLeast : Int} {bPostsOf bSets bTotals : Nat → Int} (C : XC p s m args meth c cX2_findRow 4 RX2 (some .boolean) D cA A) {Q : Int → Int → Int → Int → Int → Int → (Nat → Int) → (Nat → Int) → (Nat → Int) → (Nat → Int) → (Nat → Int) → Prop}  : ∀ (n : Nat) (x3 : Int) (gFirst : Int) (gRow : Nat → Int) (gVia : Nat → Int) (gQueue : Nat → Int), wp_G_findRow_19 Q gCorners gLowest gFresh gThere gPlaces gOver n x3 gFirst gRow gVia gQueue → ∀ (H : Heap) (locs : List Loc) (ls : Array Slot), XH D A s (wX cA a xStraight xLeast nPosts nThirds nCorners nSums nArrows aBehind aAhead aCells aBefore aAfter gCorners gLowest gFirst gFresh gThere gRow gPlaces gOver gVia gQueue bTold bStraight bLeast bPostsOf bSets bTotals) H locs → lv_has ls 4 [(0, .ref (a 9)), (3, .int (J x3))] → W p l e rm_G_findRow s m args below meth c H locs 0 0 (MQ below (va_Qi (po_G_findRow cA a xStraight xLeast nPosts nThirds nCorners nSums nArrows aBehind aAhead aCells aBefore aAfter bTold bStraight bLeast bPostsOf bSets bTotals Q) (xB D cA A) A) args s 0 0 A) (F0 m 19 ls []) := by
  intro n
  induction n with
  | zero => intro x3 gFirst gRow gVia gQueue h; exact (show False from h).elim
  | succ n hK19 =>
    intro x3 gFirst gRow gVia gQueue h H locs ls hH hl
    have h : wp_G_findRow_19_b  (wp_G_findRow_19 Q gCorners gLowest gFresh gThere gPlaces gOver n) Q  gCorners gLowest gFresh gThere gPlaces gOver x3 gFirst gRow gVia gQueue := h
    unfold wp_G_findRow_19_b at h
    refine j_iload_n C dX2_findRow_19 (lv_at hl 1 rfl) ?_
    refine j_aload_n C dX2_findRow_20 (lv_at hl 0 rfl) ?_
    refine xg_X2_corners C hH dX2_findRow_21 ?_
    obtain ⟨g_1, h⟩ := h
    obtain ⟨g_2, h⟩ := h
    refine j_icmp_ge C 45 g_1 g_2 dX2_findRow_24 (by decide) (fun c_3 => ?_) (fun c_3 => ?_)
    · have h := h.1 c_3
      refine j_aload_n C dX2_findRow_45 (lv_at hl 0 rfl) ?_
      refine j_iconst C dX2_findRow_46 ?_
      refine xp_X2_rowIsFresh C hH (Or.inr rfl) dX2_findRow_47 (fun H locs hH => ?_)
      refine j_aload_n C dX2_findRow_50 (lv_at hl 0 rfl) ?_
      refine xg_X2_rowIsThere C hH dX2_findRow_51 ?_
      obtain ⟨hz, h⟩ := h
      exact j_zret C hH hz ⟨_, _, _, _, _, _, _, _, _, _, _, rfl, rfl, h⟩ dX2_findRow_54
    · have h := h.2 c_3
      refine j_aload_n C dX2_findRow_27 (lv_at hl 0 rfl) ?_
      refine xg_X2_rowIsThere C hH dX2_findRow_28 ?_
      obtain ⟨g_4, h⟩ := h
      refine j_if_eq C 45 g_4 dX2_findRow_31 (by decide) (fun c_5 => ?_) (fun c_5 => ?_)
      · have h := h.1 c_5
        refine j_aload_n C dX2_findRow_45 (lv_at hl 0 rfl) ?_
        refine j_iconst C dX2_findRow_46 ?_
        refine xp_X2_rowIsFresh C hH (Or.inr rfl) dX2_findRow_47 (fun H locs hH => ?_)
        refine j_aload_n C dX2_findRow_50 (lv_at hl 0 rfl) ?_
        refine xg_X2_rowIsThere C hH dX2_findRow_51 ?_
        obtain ⟨hz, h⟩ := h
        exact j_zret C hH hz ⟨_, _, _, _, _, _, _, _, _, _, _, rfl, rfl, h⟩ dX2_findRow_54
      · have h := h.2 c_5
        refine j_aload_n C dX2_findRow_34 (lv_at hl 0 rfl) ?_
        refine j_iload_n C dX2_findRow_35 (lv_at hl 1 rfl) ?_
        refine xcallV_v (As := [.int (J x3)]) (rest := []) (q0 := 9) C hH (fun sz => c_G_sink h) xl_X2_52 rfl rfl ⟨rfl, rfl⟩ ⟨Nat.le_of_ble_eq_true rfl, Nat.le_of_ble_eq_true rfl⟩ hl.1 rfl rfl (Nat.le_of_ble_eq_true rfl) dX2_findRow_36 (fun w_ H locs hw hH => ?_)
        obtain ⟨gFirst_6, gRow_7, gVia_8, gQueue_9, rfl, h⟩ := hw
        refine j_iinc (k := 1) (v := x3 + 1) (lv' := [(3, .int (J (x3 + 1))), (0, .ref (a 9))]) C dX2_findRow_39 hl rfl rfl (by decide) rfl (fun ls hl => ?_)
        refine j_goto C 19 dX2_findRow_42 (by decide) ?_
        exact hK19 (x3 + 1) gFirst_6 gRow_7 gVia_8 gQueue_9 h _ _ _ hH (lv_sub hl [1, 0] rfl)
set_option maxRecDepth 4000 in
theorem c_G_findRow {l : Launch} {D : va_G} {cA : ClassId} {a : Nat → Nat} {sz : Nat} {xStraight xLeast nPosts nThirds : Int} {nCorners nSums nArrows : Nat → Int} {aBehind aAhead : Int} {aCells aBefore aAfter : Nat → Int} {gCorners gLowest gFirst gFresh gThere : Int} {gRow gPlaces gOver gVia gQueue : Nat → Int} {bTold bStraight bLeast : Int} {bPostsOf bSets bTotals : Nat → Int} {x1 x2 : Int} {Q : Int → Int → Int → Int → Int → Int → (Nat → Int) → (Nat → Int) → (Nat → Int) → (Nat → Int) → (Nat → Int) → Prop} (h : wp_G_findRow x1 x2 nPosts nThirds nCorners nSums gCorners gLowest gFirst gFresh gThere gRow gPlaces gOver gVia gQueue Q) : Met l yX2_findRow (.code yX2_findRow cX2_findRow 4 (some .boolean) :: lw_ok) rm_G_findRow (xPre D cA sz [.ref (a 9), .int (J x1), .int (J x2)] (wX cA a xStraight xLeast nPosts nThirds nCorners nSums nArrows aBehind aAhead aCells aBefore aAfter gCorners gLowest gFirst gFresh gThere gRow gPlaces gOver gVia gQueue bTold bStraight bLeast bPostsOf bSets bTotals)) (va_Qi (po_G_findRow cA a xStraight xLeast nPosts nThirds nCorners nSums nArrows aBehind aAhead aCells aBefore aAfter bTold bStraight bLeast bPostsOf bSets bTotals Q) (xB D cA (va_A (wX cA a xStraight xLeast nPosts nThirds nCorners nSums nArrows aBehind aAhead aCells aBefore aAfter gCorners gLowest gFirst gFresh gThere gRow gPlaces gOver gVia gQueue bTold bStraight bLeast bPostsOf bSets bTotals) sz)) (va_A (wX cA a xStraight xLeast nPosts nThirds nCorners nSums nArrows aBehind aAhead aCells aBefore aAfter gCorners gLowest gFirst gFresh gThere gRow gPlaces gOver gVia gQueue bTold bStraight bLeast bPostsOf bSets bTotals) sz)) 0 0 (va_A (wX cA a xStraight xLeast nPosts nThirds nCorners nSums nArrows aBehind aAhead aCells aBefore aAfter gCorners gLowest gFirst gFresh gThere gRow gPlaces gOver gVia gQueue bTold bStraight bLeast bPostsOf bSets bTotals) sz) := by
  refine xmet_i (by decide) (Nat.le_of_ble_eq_true rfl) ?_
  intro p e s m args below meth c A ls C hH hl
  have C : XC p s m args meth c cX2_findRow 4 RX2 (some .boolean) D cA A := C
  have hl : lv_has ls 4 [(0, .ref (a 9)), (1, .int (J x1)), (2, .int (J x2))] := hl
  unfold wp_G_findRow at h
  refine j_aload_n C dX2_findRow_0 (lv_at hl 0 rfl) ?_
  refine xg_X2_rowIsFresh C hH dX2_findRow_1 ?_
  obtain ⟨g_10, h⟩ := h
  refine j_if_ne C 50 g_10 dX2_findRow_4 (by decide) (fun c_11 => ?_) (fun c_11 => ?_)
  · have h := h.2 c_11
    refine j_aload_n C dX2_findRow_50 (lv_at hl 0 rfl) ?_
    refine xg_X2_rowIsThere C hH dX2_findRow_51 ?_
    obtain ⟨hz, h⟩ := h
    exact j_zret C hH hz ⟨_, _, _, _, _, _, _, _, _, _, _, rfl, rfl, h⟩ dX2_findRow_54
  · have h := h.1 c_11
    refine j_aload_n C dX2_findRow_7 (lv_at hl 0 rfl) ?_
    refine j_aload_n C dX2_findRow_8 (lv_at hl 0 rfl) ?_
    refine j_iload_n C dX2_findRow_9 (lv_at hl 1 rfl) ?_
    refine j_iload_n C dX2_findRow_10 (lv_at hl 2 rfl) ?_
    refine xcallV_i (As := [.int (J x1), .int (J x2)]) (rest := [.ref (a 9)]) (q0 := 9) C hH (fun sz => c_G_findAny h) xl_X2_45 rfl rfl ⟨rfl, rfl⟩ ⟨Nat.le_of_ble_eq_true rfl, Nat.le_of_ble_eq_true rfl⟩ hl.1 rfl rfl (Nat.le_of_ble_eq_true rfl) dX2_findRow_11 (fun r_ w_ H locs hw hH => ?_)
    obtain ⟨z_12, gCorners_13, gLowest_14, gFirst_15, gFresh_16, gRow_17, gPlaces_18, gOver_19, gVia_20, gQueue_21, rfl, rfl, h⟩ := hw
    obtain ⟨hz_22, h⟩ := h
    refine xp_X2_rowIsThere C hH hz_22 dX2_findRow_14 (fun H locs hH => ?_)
    refine j_iconst C dX2_findRow_17 ?_
    refine j_istore_n (lv' := [(3, .int (J 0)), (0, .ref (a 9)), (1, .int (J x1)), (2, .int (J x2))]) C dX2_findRow_18 hl (by decide) rfl (fun ls hl => ?_)
    obtain ⟨n_, h⟩ := h
    exact w_G_findRow_19 C  n_ 0 gFirst_15 gRow_17 gVia_20 gQueue_21 h _ _ _ hH (lv_sub hl [1, 0] rfl)
abbrev po_N_beginAnew (cA : ClassId) (a : Nat → Nat) (xStraight xLeast : Int) (nCorners : Nat → Int) (aBehind aAhead : Int) (aCells aBefore aAfter : Nat → Int) (gCorners gLowest gFirst gFresh gThere : Int) (gRow gPlaces gOver gVia gQueue : Nat → Int) (bTold bStraight bLeast : Int) (bPostsOf bSets bTotals : Nat → Int) (Q : Int → Int → (Nat → Int) → (Nat → Int) → Prop) : va_W → Prop := fun w => ∃ nPosts' nThirds' nSums' nArrows', w = wX cA a xStraight xLeast nPosts' nThirds' nCorners nSums' nArrows' aBehind aAhead aCells aBefore aAfter gCorners gLowest gFirst gFresh gThere gRow gPlaces gOver gVia gQueue bTold bStraight bLeast bPostsOf bSets bTotals ∧ Q nPosts' nThirds' nSums' nArrows'
set_option maxRecDepth 4000 in
theorem c_N_beginAnew {l : Launch} {D : va_G} {cA : ClassId} {a : Nat → Nat} {sz : Nat} {xStraight xLeast nPosts nThirds : Int} {nCorners nSums nArrows : Nat → Int} {aBehind aAhead : Int} {aCells aBefore aAfter : Nat → Int} {gCorners gLowest gFirst gFresh gThere : Int} {gRow gPlaces gOver gVia gQueue : Nat → Int} {bTold bStraight bLeast : Int} {bPostsOf bSets bTotals : Nat → Int} {x1 : Int} {Q : Int → Int → (Nat → Int) → (Nat → Int) → Prop} (h : wp_N_beginAnew x1 nPosts nThirds nCorners nSums nArrows Q) : Met l yX3_beginAnew (.code yX3_beginAnew cX3_beginAnew 2 none :: lw_ok) rm_N_beginAnew (xPre D cA sz [.ref (a 1), .int (J x1)] (wX cA a xStraight xLeast nPosts nThirds nCorners nSums nArrows aBehind aAhead aCells aBefore aAfter gCorners gLowest gFirst gFresh gThere gRow gPlaces gOver gVia gQueue bTold bStraight bLeast bPostsOf bSets bTotals)) (va_Qv (po_N_beginAnew cA a xStraight xLeast nCorners aBehind aAhead aCells aBefore aAfter gCorners gLowest gFirst gFresh gThere gRow gPlaces gOver gVia gQueue bTold bStraight bLeast bPostsOf bSets bTotals Q) (xB D cA (va_A (wX cA a xStraight xLeast nPosts nThirds nCorners nSums nArrows aBehind aAhead aCells aBefore aAfter gCorners gLowest gFirst gFresh gThere gRow gPlaces gOver gVia gQueue bTold bStraight bLeast bPostsOf bSets bTotals) sz)) (va_A (wX cA a xStraight xLeast nPosts nThirds nCorners nSums nArrows aBehind aAhead aCells aBefore aAfter gCorners gLowest gFirst gFresh gThere gRow gPlaces gOver gVia gQueue bTold bStraight bLeast bPostsOf bSets bTotals) sz)) 0 0 (va_A (wX cA a xStraight xLeast nPosts nThirds nCorners nSums nArrows aBehind aAhead aCells aBefore aAfter gCorners gLowest gFirst gFresh gThere gRow gPlaces gOver gVia gQueue bTold bStraight bLeast bPostsOf bSets bTotals) sz) := by
  refine xmet_v (by decide) (Nat.le_of_ble_eq_true rfl) ?_
  intro p e s m args below meth c A ls C hH hl
  have C : XC p s m args meth c cX3_beginAnew 2 RX3 none D cA A := C
  have hl : lv_has ls 2 [(0, .ref (a 1)), (1, .int (J x1))] := hl
  unfold wp_N_beginAnew at h
  refine j_aload_n C dX3_beginAnew_0 (lv_at hl 0 rfl) ?_
  refine j_iload_n C dX3_beginAnew_1 (lv_at hl 1 rfl) ?_
  refine xp_X3_posts C hH dX3_beginAnew_2 (fun H locs hH => ?_)
  refine j_aload_n C dX3_beginAnew_5 (lv_at hl 0 rfl) ?_
  refine j_iconst C dX3_beginAnew_6 ?_
  refine xp_X3_thirds C hH dX3_beginAnew_7 (fun H locs hH => ?_)
  refine j_aload_n C dX3_beginAnew_10 (lv_at hl 0 rfl) ?_
  refine xg_X3_sums C hH dX3_beginAnew_11 ?_
  refine j_iconst C dX3_beginAnew_14 ?_
  refine xcallS_v (As := [.ref (a 3), .int (J (-1))]) (rest := []) C hH (fun sz => c_I_fill 3 rfl (by decide)) xl_X3_28 ⟨rfl, rfl⟩ ⟨Nat.le_of_ble_eq_true rfl, Nat.le_of_ble_eq_true rfl⟩ hl.1 rfl rfl (Nat.le_of_ble_eq_true rfl) dX3_beginAnew_15 (fun w_ H locs hw hH => ?_)
  obtain ⟨nSums_1, e_nSums_1⟩ : ∃ f, f = fillf nSums 9 (-1) := ⟨_, rfl⟩
  have h := h nSums_1 e_nSums_1
  subst hw
  rw [← e_nSums_1] at hH
  have hH : XH D A s (wX cA a xStraight xLeast x1 0 nCorners nSums_1 nArrows aBehind aAhead aCells aBefore aAfter gCorners gLowest gFirst gFresh gThere gRow gPlaces gOver gVia gQueue bTold bStraight bLeast bPostsOf bSets bTotals) H locs := hH
  refine j_aload_n C dX3_beginAnew_18 (lv_at hl 0 rfl) ?_
  refine xcallV_v (As := []) (rest := []) (q0 := 1) C hH (fun sz => c_N_drawArrows h) xl_X3_34 rfl rfl ⟨rfl, rfl⟩ ⟨Nat.le_of_ble_eq_true rfl, Nat.le_of_ble_eq_true rfl⟩ hl.1 rfl rfl (Nat.le_of_ble_eq_true rfl) dX3_beginAnew_19 (fun w_ H locs hw hH => ?_)
  obtain ⟨nArrows_2, rfl, h⟩ := hw
  exact j_vret C hH ⟨_, _, _, _, rfl, h⟩ dX3_beginAnew_22
abbrev po_N_pack (ws : va_W) (Q : Int → Prop) : Int32 → va_W → Prop := fun r w => ∃ z, r = J z ∧ w = ws ∧ Q z
set_option maxRecDepth 4000 in
theorem c_N_pack {l : Launch} {D : va_G} {cA : ClassId} {sz : Nat} {ws : va_W} {x0 x1 x2 : Int} {Q : Int → Prop} (h : wp_N_pack x0 x1 x2  Q) : Met l yX3_pack (.code yX3_pack cX3_pack 3 (some .int) :: lw_ok) rm_N_pack (xPre D cA sz [.int (J x0), .int (J x1), .int (J x2)] (ws)) (va_Qi (po_N_pack ws Q) (xB D cA (va_A (ws) sz)) (va_A (ws) sz)) 0 0 (va_A (ws) sz) := by
  refine xmet_i (by decide) (Nat.le_of_ble_eq_true rfl) ?_
  intro p e s m args below meth c A ls C hH hl
  have C : XC p s m args meth c cX3_pack 3 RX3 (some .int) D cA A := C
  have hl : lv_has ls 3 [(0, .int (J x0)), (1, .int (J x1)), (2, .int (J x2))] := hl
  unfold wp_N_pack at h
  refine j_iload_n C dX3_pack_0 (lv_at hl 0 rfl) ?_
  refine j_iload_n C dX3_pack_1 (lv_at hl 1 rfl) ?_
  refine j_iconst C dX3_pack_2 ?_
  refine j_ishl C dX3_pack_3 ?_
  refine j_ior C dX3_pack_4 ?_
  refine j_iload_n C dX3_pack_5 (lv_at hl 2 rfl) ?_
  refine j_bipush C (by decide +kernel) dX3_pack_6 ?_
  refine j_ishl C dX3_pack_8 ?_
  refine j_ior C dX3_pack_9 ?_
  exact j_iret C hH ⟨_, rfl, rfl, h⟩ dX3_pack_10
abbrev po_N_packed (cA : ClassId) (a : Nat → Nat) (xStraight xLeast nPosts nThirds : Int) (nCorners nSums nArrows : Nat → Int) (aBehind aAhead : Int) (aCells aBefore aAfter : Nat → Int) (gCorners gLowest gFirst gFresh gThere : Int) (gRow gPlaces gOver gVia gQueue : Nat → Int) (bTold bStraight bLeast : Int) (bPostsOf bSets bTotals : Nat → Int) (Q : Int → Prop) : Int32 → va_W → Prop := fun r w => ∃ z, r = J z ∧ w = wX cA a xStraight xLeast nPosts nThirds nCorners nSums nArrows aBehind aAhead aCells aBefore aAfter gCorners gLowest gFirst gFresh gThere gRow gPlaces gOver gVia gQueue bTold bStraight bLeast bPostsOf bSets bTotals ∧ Q z
set_option maxRecDepth 4000 in
theorem c_N_packed {l : Launch} {D : va_G} {cA : ClassId} {a : Nat → Nat} {sz : Nat} {xStraight xLeast nPosts nThirds : Int} {nCorners nSums nArrows : Nat → Int} {aBehind aAhead : Int} {aCells aBefore aAfter : Nat → Int} {gCorners gLowest gFirst gFresh gThere : Int} {gRow gPlaces gOver gVia gQueue : Nat → Int} {bTold bStraight bLeast : Int} {bPostsOf bSets bTotals : Nat → Int} {x1 : Int} {Q : Int → Prop} (h : wp_N_packed x1 nCorners Q) : Met l yX3_packed (.code yX3_packed cX3_packed 2 (some .int) :: lw_ok) rm_N_packed (xPre D cA sz [.ref (a 1), .int (J x1)] (wX cA a xStraight xLeast nPosts nThirds nCorners nSums nArrows aBehind aAhead aCells aBefore aAfter gCorners gLowest gFirst gFresh gThere gRow gPlaces gOver gVia gQueue bTold bStraight bLeast bPostsOf bSets bTotals)) (va_Qi (po_N_packed cA a xStraight xLeast nPosts nThirds nCorners nSums nArrows aBehind aAhead aCells aBefore aAfter gCorners gLowest gFirst gFresh gThere gRow gPlaces gOver gVia gQueue bTold bStraight bLeast bPostsOf bSets bTotals Q) (xB D cA (va_A (wX cA a xStraight xLeast nPosts nThirds nCorners nSums nArrows aBehind aAhead aCells aBefore aAfter gCorners gLowest gFirst gFresh gThere gRow gPlaces gOver gVia gQueue bTold bStraight bLeast bPostsOf bSets bTotals) sz)) (va_A (wX cA a xStraight xLeast nPosts nThirds nCorners nSums nArrows aBehind aAhead aCells aBefore aAfter gCorners gLowest gFirst gFresh gThere gRow gPlaces gOver gVia gQueue bTold bStraight bLeast bPostsOf bSets bTotals) sz)) 0 0 (va_A (wX cA a xStraight xLeast nPosts nThirds nCorners nSums nArrows aBehind aAhead aCells aBefore aAfter gCorners gLowest gFirst gFresh gThere gRow gPlaces gOver gVia gQueue bTold bStraight bLeast bPostsOf bSets bTotals) sz) := by
  refine xmet_i (by decide) (Nat.le_of_ble_eq_true rfl) ?_
  intro p e s m args below meth c A ls C hH hl
  have C : XC p s m args meth c cX3_packed 2 RX3 (some .int) D cA A := C
  have hl : lv_has ls 2 [(0, .ref (a 1)), (1, .int (J x1))] := hl
  unfold wp_N_packed at h
  refine j_aload_n C dX3_packed_0 (lv_at hl 0 rfl) ?_
  refine xg_X3_corners C hH dX3_packed_1 ?_
  refine j_iconst C dX3_packed_4 ?_
  refine j_iload_n C dX3_packed_5 (lv_at hl 1 rfl) ?_
  refine j_imul C dX3_packed_6 ?_
  obtain ⟨b_1, h⟩ := h
  refine xa_nCorners C hH b_1 dX3_packed_7 ?_
  refine j_aload_n C dX3_packed_8 (lv_at hl 0 rfl) ?_
  refine xg_X3_corners C hH dX3_packed_9 ?_
  refine j_iconst C dX3_packed_12 ?_
  refine j_iload_n C dX3_packed_13 (lv_at hl 1 rfl) ?_
  refine j_imul C dX3_packed_14 ?_
  refine j_iconst C dX3_packed_15 ?_
  refine j_iadd C dX3_packed_16 ?_
  obtain ⟨b_2, h⟩ := h
  refine xa_nCorners C hH b_2 dX3_packed_17 ?_
  refine j_aload_n C dX3_packed_18 (lv_at hl 0 rfl) ?_
  refine xg_X3_corners C hH dX3_packed_19 ?_
  refine j_iconst C dX3_packed_22 ?_
  refine j_iload_n C dX3_packed_23 (lv_at hl 1 rfl) ?_
  refine j_imul C dX3_packed_24 ?_
  refine j_iconst C dX3_packed_25 ?_
  refine j_iadd C dX3_packed_26 ?_
  obtain ⟨b_3, h⟩ := h
  refine xa_nCorners C hH b_3 dX3_packed_27 ?_
  refine xcallS_i (As := [.int (J (nCorners (3 * x1).toNat)), .int (J (nCorners ((3 * x1) + 1).toNat)), .int (J (nCorners ((3 * x1) + 2).toNat))]) (rest := []) C hH (fun sz => c_N_pack h) xl_X3_37 ⟨rfl, rfl⟩ ⟨Nat.le_of_ble_eq_true rfl, Nat.le_of_ble_eq_true rfl⟩ hl.1 rfl rfl (Nat.le_of_ble_eq_true rfl) dX3_packed_28 (fun r_ w_ H locs hw hH => ?_)
  obtain ⟨z_4, rfl, rfl, h⟩ := hw
  exact j_iret C hH ⟨_, rfl, rfl, h⟩ dX3_packed_31

abbrev po_B_fewest (cA : ClassId) (a : Nat → Nat) (xStraight xLeast nPosts nThirds : Int) (nCorners nSums nArrows : Nat → Int) (aBehind aAhead : Int) (aCells aBefore aAfter : Nat → Int) (gCorners gLowest gFirst gFresh gThere : Int) (gRow gPlaces gOver gVia gQueue : Nat → Int) (Q : Int → Int → Int → Int → (Nat → Int) → (Nat → Int) → (Nat → Int) → Prop) : Int32 → va_W → Prop := fun r w => ∃ z bTold' bStraight' bLeast' bPostsOf' bSets' bTotals', r = J z ∧ w = wX cA a xStraight xLeast nPosts nThirds nCorners nSums nArrows aBehind aAhead aCells aBefore aAfter gCorners gLowest gFirst gFresh gThere gRow gPlaces gOver gVia gQueue bTold' bStraight' bLeast' bPostsOf' bSets' bTotals' ∧ Q z bTold' bStraight' bLeast' bPostsOf' bSets' bTotals'
set_option maxRecDepth 4000 in
theorem w_B_fewest_72 {p : Program} {l : Launch} {e : Env} {s : State} {m : MethodId} {args : Array Value} {below : List Frame} {meth : Method} {c : Code} {D : va_G} {cA : ClassId} {A : Nat → Prop} {a : Nat → Nat} {xStraight xLeast nPosts nThirds : Int} {nCorners nSums nArrows : Nat → Int} {aBehind aAhead : Int} {aCells aBefore aAfter : Nat → Int} {gCorners gLowest gFirst gFresh gThere : Int} {gRow gPlaces gOver gVia gQueue : Nat → Int} {bTold bStraight bLeast : Int} {bPostsOf bSets bTotals : Nat → Int} (C : XC p s m args meth c cX1_fewest 8 RX1 (some .int) D cA A) {K42 : Int → Int → Prop} {Q : Int → Int → Int → Int → (Nat → Int) → (Nat → Int) → (Nat → Int) → Prop} {x1 : Int} {x4 : Int}  (hK42 : ∀ (x5 : Int) (x6 : Int), K42 x5 x6 → ∀ (H : Heap) (locs : List Loc) (ls : Array Slot), XH D A s (wX cA a xStraight xLeast nPosts nThirds nCorners nSums nArrows aBehind aAhead aCells aBefore aAfter gCorners gLowest gFirst gFresh gThere gRow gPlaces gOver gVia gQueue bTold bStraight bLeast bPostsOf bSets bTotals) H locs → lv_has ls 8 [(0, .ref (a 15)), (1, .int (J x1)), (4, .int (J x4)), (5, .int (J x5)), (6, .int (J x6))] → W p l e rm_B_fewest s m args below meth c H locs 0 0 (MQ below (va_Qi (po_B_fewest cA a xStraight xLeast nPosts nThirds nCorners nSums nArrows aBehind aAhead aCells aBefore aAfter gCorners gLowest gFirst gFresh gThere gRow gPlaces gOver gVia gQueue Q) (xB D cA A) A) args s 0 0 A) (F0 m 42 ls [])) : ∀ (x5 : Int) (x6 : Int) (t0 : Int), wp_B_fewest_72 K42 Q nThirds x1 x4 bTold bStraight bLeast bPostsOf bSets bTotals x5 x6 t0 → ∀ (H : Heap) (locs : List Loc) (ls : Array Slot), XH D A s (wX cA a xStraight xLeast nPosts nThirds nCorners nSums nArrows aBehind aAhead aCells aBefore aAfter gCorners gLowest gFirst gFresh gThere gRow gPlaces gOver gVia gQueue bTold bStraight bLeast bPostsOf bSets bTotals) H locs → lv_has ls 8 [(0, .ref (a 15)), (1, .int (J x1)), (4, .int (J x4)), (5, .int (J x5)), (6, .int (J x6))] → W p l e rm_B_fewest s m args below meth c H locs 0 0 (MQ below (va_Qi (po_B_fewest cA a xStraight xLeast nPosts nThirds nCorners nSums nArrows aBehind aAhead aCells aBefore aAfter gCorners gLowest gFirst gFresh gThere gRow gPlaces gOver gVia gQueue Q) (xB D cA A) A) args s 0 0 A) (F0 m 72 ls [.int (J t0)]) := by
  intro x5 x6 t0 h H locs ls hH hl
  unfold wp_B_fewest_72 at h
  refine j_istore (lv' := [(7, .int (J t0)), (0, .ref (a 15)), (1, .int (J x1)), (4, .int (J x4)), (5, .int (J x5)), (6, .int (J x6))]) C dX1_fewest_72 hl (by decide) rfl (fun ls hl => ?_)
  refine j_iload C dX1_fewest_74 (lv_at hl 0 rfl) ?_
  obtain ⟨g_1, h⟩ := h
  refine j_if_eq C 103 g_1 dX1_fewest_76 (by decide) (fun c_2 => ?_) (fun c_2 => ?_)
  · have h := h.1 c_2
    refine j_iinc (k := 5) (v := x6 + 1) (lv' := [(6, .int (J (x6 + 1))), (7, .int (J t0)), (0, .ref (a 15)), (1, .int (J x1)), (4, .int (J x4)), (5, .int (J x5))]) C dX1_fewest_103 hl rfl rfl (by decide) rfl (fun ls hl => ?_)
    refine j_goto C 42 dX1_fewest_106 (by decide) ?_
    exact hK42 x5 (x6 + 1) h _ _ _ hH (lv_sub hl [2, 3, 4, 5, 0] rfl)
  · have h := h.2 c_2
    refine j_iload C dX1_fewest_79 (lv_at hl 5 rfl) ?_
    refine j_iload C dX1_fewest_81 (lv_at hl 3 rfl) ?_
    refine j_iconst C dX1_fewest_83 ?_
    refine j_ixor C dX1_fewest_84 ?_
    refine j_iand C dX1_fewest_85 ?_
    obtain ⟨g_3, h⟩ := h
    refine j_if_ne C 103 g_3 dX1_fewest_86 (by decide) (fun c_4 => ?_) (fun c_4 => ?_)
    · have h := h.2 c_4
      refine j_iinc (k := 5) (v := x6 + 1) (lv' := [(6, .int (J (x6 + 1))), (7, .int (J t0)), (0, .ref (a 15)), (1, .int (J x1)), (4, .int (J x4)), (5, .int (J x5))]) C dX1_fewest_103 hl rfl rfl (by decide) rfl (fun ls hl => ?_)
      refine j_goto C 42 dX1_fewest_106 (by decide) ?_
      exact hK42 x5 (x6 + 1) h _ _ _ hH (lv_sub hl [2, 3, 4, 5, 0] rfl)
    · have h := h.1 c_4
      refine j_aload_n C dX1_fewest_89 (lv_at hl 1 rfl) ?_
      refine j_iload_n C dX1_fewest_90 (lv_at hl 2 rfl) ?_
      refine j_iload C dX1_fewest_91 (lv_at hl 5 rfl) ?_
      refine xcallV_i (As := [.int (J x1), .int (J x6)]) (rest := []) (q0 := 15) C hH (fun sz => c_B_isBar h) xl_X1_52 rfl rfl ⟨rfl, rfl⟩ ⟨Nat.le_of_ble_eq_true rfl, Nat.le_of_ble_eq_true rfl⟩ hl.1 rfl rfl (Nat.le_of_ble_eq_true rfl) dX1_fewest_93 (fun r_ w_ H locs hw hH => ?_)
      obtain ⟨z_5, rfl, rfl, h⟩ := hw
      obtain ⟨g_6, h⟩ := h
      refine j_if_eq C 103 g_6 dX1_fewest_96 (by decide) (fun c_7 => ?_) (fun c_7 => ?_)
      · have h := h.1 c_7
        refine j_iinc (k := 5) (v := x6 + 1) (lv' := [(6, .int (J (x6 + 1))), (7, .int (J t0)), (0, .ref (a 15)), (1, .int (J x1)), (4, .int (J x4)), (5, .int (J x5))]) C dX1_fewest_103 hl rfl rfl (by decide) rfl (fun ls hl => ?_)
        refine j_goto C 42 dX1_fewest_106 (by decide) ?_
        exact hK42 x5 (x6 + 1) h _ _ _ hH (lv_sub hl [2, 3, 4, 5, 0] rfl)
      · have h := h.2 c_7
        refine j_iload C dX1_fewest_99 (lv_at hl 5 rfl) ?_
        refine j_istore (lv' := [(5, .int (J x6)), (7, .int (J t0)), (0, .ref (a 15)), (1, .int (J x1)), (4, .int (J x4)), (6, .int (J x6))]) C dX1_fewest_101 hl (by decide) rfl (fun ls hl => ?_)
        refine j_iinc (k := 5) (v := x6 + 1) (lv' := [(6, .int (J (x6 + 1))), (5, .int (J x6)), (7, .int (J t0)), (0, .ref (a 15)), (1, .int (J x1)), (4, .int (J x4))]) C dX1_fewest_103 hl rfl rfl (by decide) rfl (fun ls hl => ?_)
        refine j_goto C 42 dX1_fewest_106 (by decide) ?_
        exact hK42 x6 (x6 + 1) h _ _ _ hH (lv_sub hl [3, 4, 5, 1, 0] rfl)
set_option maxRecDepth 4000 in
theorem w_B_fewest_42 {p : Program} {l : Launch} {e : Env} {s : State} {m : MethodId} {args : Array Value} {below : List Frame} {meth : Method} {c : Code} {D : va_G} {cA : ClassId} {A : Nat → Prop} {a : Nat → Nat} {xStraight xLeast nPosts nThirds : Int} {nCorners nSums nArrows : Nat → Int} {aBehind aAhead : Int} {aCells aBefore aAfter : Nat → Int} {gCorners gLowest gFirst gFresh gThere : Int} {gRow gPlaces gOver gVia gQueue : Nat → Int} {bTold bStraight bLeast : Int} {bPostsOf bSets bTotals : Nat → Int} (C : XC p s m args meth c cX1_fewest 8 RX1 (some .int) D cA A) {Q : Int → Int → Int → Int → (Nat → Int) → (Nat → Int) → (Nat → Int) → Prop} {x1 : Int} {x4 : Int}  : ∀ (n : Nat) (x5 : Int) (x6 : Int), wp_B_fewest_42 Q nThirds x1 x4 bTold bStraight bLeast bPostsOf bSets bTotals n x5 x6 → ∀ (H : Heap) (locs : List Loc) (ls : Array Slot), XH D A s (wX cA a xStraight xLeast nPosts nThirds nCorners nSums nArrows aBehind aAhead aCells aBefore aAfter gCorners gLowest gFirst gFresh gThere gRow gPlaces gOver gVia gQueue bTold bStraight bLeast bPostsOf bSets bTotals) H locs → lv_has ls 8 [(0, .ref (a 15)), (1, .int (J x1)), (4, .int (J x4)), (5, .int (J x5)), (6, .int (J x6))] → W p l e rm_B_fewest s m args below meth c H locs 0 0 (MQ below (va_Qi (po_B_fewest cA a xStraight xLeast nPosts nThirds nCorners nSums nArrows aBehind aAhead aCells aBefore aAfter gCorners gLowest gFirst gFresh gThere gRow gPlaces gOver gVia gQueue Q) (xB D cA A) A) args s 0 0 A) (F0 m 42 ls []) := by
  intro n
  induction n with
  | zero => intro x5 x6 h; exact (show False from h).elim
  | succ n hK42 =>
    intro x5 x6 h H locs ls hH hl
    have h : wp_B_fewest_42_b  (wp_B_fewest_42 Q nThirds x1 x4 bTold bStraight bLeast bPostsOf bSets bTotals n) Q nThirds x1 x4 bTold bStraight bLeast bPostsOf bSets bTotals x5 x6 := h
    unfold wp_B_fewest_42_b at h
    refine j_iload C dX1_fewest_42 (lv_at hl 4 rfl) ?_
    refine j_iload C dX1_fewest_44 (lv_at hl 2 rfl) ?_
    obtain ⟨g_8, h⟩ := h
    obtain ⟨g_9, h⟩ := h
    refine j_icmp_gt C 109 g_8 g_9 dX1_fewest_46 (by decide) (fun c_10 => ?_) (fun c_10 => ?_)
    · have h := h.1 c_10
      refine j_iload C dX1_fewest_109 (lv_at hl 3 rfl) ?_
      exact j_iret C hH ⟨_, _, _, _, _, _, _, rfl, rfl, h⟩ dX1_fewest_111
    · have h := h.2 c_10
      refine j_iload C dX1_fewest_49 (lv_at hl 3 rfl) ?_
      obtain ⟨g_11, h⟩ := h
      refine j_if_eq C 67 g_11 dX1_fewest_51 (by decide) (fun c_12 => ?_) (fun c_12 => ?_)
      · have h := h.1 c_12
        refine j_iconst C dX1_fewest_67 ?_
        refine j_goto C 72 dX1_fewest_68 (by decide) ?_
        exact w_B_fewest_72 C hK42 x5 x6 1 h _ _ _ hH (lv_sub hl [0, 1, 2, 3, 4] rfl)
      · have h := h.2 c_12
        refine j_iload C dX1_fewest_54 (lv_at hl 4 rfl) ?_
        refine xcallS_i (As := [.int (J x6)]) (rest := []) C hH (fun sz => c_I_bitCount h) xl_X1_46 ⟨rfl, rfl⟩ ⟨Nat.le_of_ble_eq_true rfl, Nat.le_of_ble_eq_true rfl⟩ hl.1 rfl rfl (Nat.le_of_ble_eq_true rfl) dX1_fewest_56 (fun r_ w_ H locs hw hH => ?_)
        obtain ⟨z_13, rfl, rfl, h⟩ := hw
        refine j_iload C dX1_fewest_59 (lv_at hl 3 rfl) ?_
        refine xcallS_i (As := [.int (J x5)]) (rest := [.int (J z_13)]) C hH (fun sz => c_I_bitCount h) xl_X1_46 ⟨rfl, rfl⟩ ⟨Nat.le_of_ble_eq_true rfl, Nat.le_of_ble_eq_true rfl⟩ hl.1 rfl rfl (Nat.le_of_ble_eq_true rfl) dX1_fewest_61 (fun r_ w_ H locs hw hH => ?_)
        obtain ⟨z_14, rfl, rfl, h⟩ := hw
        obtain ⟨g_15, h⟩ := h
        obtain ⟨g_16, h⟩ := h
        refine j_icmp_ge C 71 g_15 g_16 dX1_fewest_64 (by decide) (fun c_17 => ?_) (fun c_17 => ?_)
        · have h := h.1 c_17
          refine j_iconst C dX1_fewest_71 ?_
          exact w_B_fewest_72 C hK42 x5 x6 0 h _ _ _ hH (lv_sub hl [0, 1, 2, 3, 4] rfl)
        · have h := h.2 c_17
          refine j_iconst C dX1_fewest_67 ?_
          refine j_goto C 72 dX1_fewest_68 (by decide) ?_
          exact w_B_fewest_72 C hK42 x5 x6 1 h _ _ _ hH (lv_sub hl [0, 1, 2, 3, 4] rfl)
set_option maxRecDepth 4000 in
theorem c_B_fewest {l : Launch} {D : va_G} {cA : ClassId} {a : Nat → Nat} {sz : Nat} {xStraight xLeast nPosts nThirds : Int} {nCorners nSums nArrows : Nat → Int} {aBehind aAhead : Int} {aCells aBefore aAfter : Nat → Int} {gCorners gLowest gFirst gFresh gThere : Int} {gRow gPlaces gOver gVia gQueue : Nat → Int} {bTold bStraight bLeast : Int} {bPostsOf bSets bTotals : Nat → Int} {x1 x2 x3 : Int} {Q : Int → Int → Int → Int → (Nat → Int) → (Nat → Int) → (Nat → Int) → Prop} (h : wp_B_fewest x1 x2 x3 nPosts nThirds nCorners nSums bTold bStraight bLeast bPostsOf bSets bTotals Q) : Met l yX1_fewest (.code yX1_fewest cX1_fewest 8 (some .int) :: lw_ok) rm_B_fewest (xPre D cA sz [.ref (a 15), .int (J x1), .int (J x2), .int (J x3)] (wX cA a xStraight xLeast nPosts nThirds nCorners nSums nArrows aBehind aAhead aCells aBefore aAfter gCorners gLowest gFirst gFresh gThere gRow gPlaces gOver gVia gQueue bTold bStraight bLeast bPostsOf bSets bTotals)) (va_Qi (po_B_fewest cA a xStraight xLeast nPosts nThirds nCorners nSums nArrows aBehind aAhead aCells aBefore aAfter gCorners gLowest gFirst gFresh gThere gRow gPlaces gOver gVia gQueue Q) (xB D cA (va_A (wX cA a xStraight xLeast nPosts nThirds nCorners nSums nArrows aBehind aAhead aCells aBefore aAfter gCorners gLowest gFirst gFresh gThere gRow gPlaces gOver gVia gQueue bTold bStraight bLeast bPostsOf bSets bTotals) sz)) (va_A (wX cA a xStraight xLeast nPosts nThirds nCorners nSums nArrows aBehind aAhead aCells aBefore aAfter gCorners gLowest gFirst gFresh gThere gRow gPlaces gOver gVia gQueue bTold bStraight bLeast bPostsOf bSets bTotals) sz)) 0 0 (va_A (wX cA a xStraight xLeast nPosts nThirds nCorners nSums nArrows aBehind aAhead aCells aBefore aAfter gCorners gLowest gFirst gFresh gThere gRow gPlaces gOver gVia gQueue bTold bStraight bLeast bPostsOf bSets bTotals) sz) := by
  refine xmet_i (by decide) (Nat.le_of_ble_eq_true rfl) ?_
  intro p e s m args below meth c A ls C hH hl
  have C : XC p s m args meth c cX1_fewest 8 RX1 (some .int) D cA A := C
  have hl : lv_has ls 8 [(0, .ref (a 15)), (1, .int (J x1)), (2, .int (J x2)), (3, .int (J x3))] := hl
  unfold wp_B_fewest at h
  refine j_aload_n C dX1_fewest_0 (lv_at hl 0 rfl) ?_
  refine j_iload_n C dX1_fewest_1 (lv_at hl 2 rfl) ?_
  refine xp_X1_straight C hH dX1_fewest_2 (fun H locs hH => ?_)
  refine j_aload_n C dX1_fewest_5 (lv_at hl 0 rfl) ?_
  refine j_iload_n C dX1_fewest_6 (lv_at hl 3 rfl) ?_
  refine xp_X1_least C hH dX1_fewest_7 (fun H locs hH => ?_)
  refine j_aload_n C dX1_fewest_10 (lv_at hl 0 rfl) ?_
  refine j_iload_n C dX1_fewest_11 (lv_at hl 1 rfl) ?_
  refine xcallV_v (As := [.int (J x1)]) (rest := []) (q0 := 15) C hH (fun sz => c_B_lookAtPosts h) xl_X1_32 rfl rfl ⟨rfl, rfl⟩ ⟨Nat.le_of_ble_eq_true rfl, Nat.le_of_ble_eq_true rfl⟩ hl.1 rfl rfl (Nat.le_of_ble_eq_true rfl) dX1_fewest_12 (fun w_ H locs hw hH => ?_)
  obtain ⟨bTold_18, bTotals_19, rfl, h⟩ := hw
  refine j_aload_n C dX1_fewest_15 (lv_at hl 0 rfl) ?_
  refine xcallV_v (As := []) (rest := []) (q0 := 15) C hH (fun sz => c_B_lookAtThirds h) xl_X1_36 rfl rfl ⟨rfl, rfl⟩ ⟨Nat.le_of_ble_eq_true rfl, Nat.le_of_ble_eq_true rfl⟩ hl.1 rfl rfl (Nat.le_of_ble_eq_true rfl) dX1_fewest_16 (fun w_ H locs hw hH => ?_)
  obtain ⟨bPostsOf_20, bSets_21, rfl, h⟩ := hw
  refine j_iload_n C dX1_fewest_19 (lv_at hl 1 rfl) ?_
  obtain ⟨g_22, h⟩ := h
  refine j_if_ne C 30 g_22 dX1_fewest_20 (by decide) (fun c_23 => ?_) (fun c_23 => ?_)
  · have h := h.2 c_23
    refine j_aload_n C dX1_fewest_30 (lv_at hl 0 rfl) ?_
    refine xg_X1_toldPosts C hH dX1_fewest_31 ?_
    refine j_istore (lv' := [(4, .int (J bTold_18)), (0, .ref (a 15)), (1, .int (J x1)), (2, .int (J x2)), (3, .int (J x3))]) C dX1_fewest_34 hl (by decide) rfl (fun ls hl => ?_)
    refine j_iconst C dX1_fewest_36 ?_
    refine j_istore (lv' := [(5, .int (J 0)), (4, .int (J bTold_18)), (0, .ref (a 15)), (1, .int (J x1)), (2, .int (J x2)), (3, .int (J x3))]) C dX1_fewest_37 hl (by decide) rfl (fun ls hl => ?_)
    refine j_iconst C dX1_fewest_39 ?_
    refine j_istore (lv' := [(6, .int (J 1)), (5, .int (J 0)), (4, .int (J bTold_18)), (0, .ref (a 15)), (1, .int (J x1)), (2, .int (J x2)), (3, .int (J x3))]) C dX1_fewest_40 hl (by decide) rfl (fun ls hl => ?_)
    obtain ⟨n_, h⟩ := h
    exact w_B_fewest_42 C  n_ 0 1 h _ _ _ hH (lv_sub hl [3, 4, 2, 1, 0] rfl)
  · have h := h.1 c_23
    refine j_aload_n C dX1_fewest_23 (lv_at hl 0 rfl) ?_
    refine xcallV_i (As := []) (rest := []) (q0 := 15) C hH (fun sz => c_B_thirdsAtToldPosts h) xl_X1_39 rfl rfl ⟨rfl, rfl⟩ ⟨Nat.le_of_ble_eq_true rfl, Nat.le_of_ble_eq_true rfl⟩ hl.1 rfl rfl (Nat.le_of_ble_eq_true rfl) dX1_fewest_24 (fun r_ w_ H locs hw hH => ?_)
    obtain ⟨z_24, rfl, rfl, h⟩ := hw
    refine j_goto C 34 dX1_fewest_27 (by decide) ?_
    refine j_istore (lv' := [(4, .int (J z_24)), (0, .ref (a 15)), (1, .int (J x1)), (2, .int (J x2)), (3, .int (J x3))]) C dX1_fewest_34 hl (by decide) rfl (fun ls hl => ?_)
    refine j_iconst C dX1_fewest_36 ?_
    refine j_istore (lv' := [(5, .int (J 0)), (4, .int (J z_24)), (0, .ref (a 15)), (1, .int (J x1)), (2, .int (J x2)), (3, .int (J x3))]) C dX1_fewest_37 hl (by decide) rfl (fun ls hl => ?_)
    refine j_iconst C dX1_fewest_39 ?_
    refine j_istore (lv' := [(6, .int (J 1)), (5, .int (J 0)), (4, .int (J z_24)), (0, .ref (a 15)), (1, .int (J x1)), (2, .int (J x2)), (3, .int (J x3))]) C dX1_fewest_40 hl (by decide) rfl (fun ls hl => ?_)
    obtain ⟨n_, h⟩ := h
    exact w_B_fewest_42 C  n_ 0 1 h _ _ _ hH (lv_sub hl [3, 4, 2, 1, 0] rfl)
abbrev po_G_forgetRow (cA : ClassId) (a : Nat → Nat) (xStraight xLeast nPosts nThirds : Int) (nCorners nSums nArrows : Nat → Int) (aBehind aAhead : Int) (aCells aBefore aAfter : Nat → Int) (gCorners gLowest gFirst gThere : Int) (gRow gPlaces gOver gVia gQueue : Nat → Int) (bTold bStraight bLeast : Int) (bPostsOf bSets bTotals : Nat → Int) (Q : Int → Prop) : va_W → Prop := fun w => ∃ gFresh', w = wX cA a xStraight xLeast nPosts nThirds nCorners nSums nArrows aBehind aAhead aCells aBefore aAfter gCorners gLowest gFirst gFresh' gThere gRow gPlaces gOver gVia gQueue bTold bStraight bLeast bPostsOf bSets bTotals ∧ Q gFresh'
set_option maxRecDepth 4000 in
theorem c_G_forgetRow {l : Launch} {D : va_G} {cA : ClassId} {a : Nat → Nat} {sz : Nat} {xStraight xLeast nPosts nThirds : Int} {nCorners nSums nArrows : Nat → Int} {aBehind aAhead : Int} {aCells aBefore aAfter : Nat → Int} {gCorners gLowest gFirst gFresh gThere : Int} {gRow gPlaces gOver gVia gQueue : Nat → Int} {bTold bStraight bLeast : Int} {bPostsOf bSets bTotals : Nat → Int} {Q : Int → Prop} (h : wp_G_forgetRow  gFresh Q) : Met l yX2_forgetRow (.code yX2_forgetRow cX2_forgetRow 1 none :: lw_ok) rm_G_forgetRow (xPre D cA sz [.ref (a 9)] (wX cA a xStraight xLeast nPosts nThirds nCorners nSums nArrows aBehind aAhead aCells aBefore aAfter gCorners gLowest gFirst gFresh gThere gRow gPlaces gOver gVia gQueue bTold bStraight bLeast bPostsOf bSets bTotals)) (va_Qv (po_G_forgetRow cA a xStraight xLeast nPosts nThirds nCorners nSums nArrows aBehind aAhead aCells aBefore aAfter gCorners gLowest gFirst gThere gRow gPlaces gOver gVia gQueue bTold bStraight bLeast bPostsOf bSets bTotals Q) (xB D cA (va_A (wX cA a xStraight xLeast nPosts nThirds nCorners nSums nArrows aBehind aAhead aCells aBefore aAfter gCorners gLowest gFirst gFresh gThere gRow gPlaces gOver gVia gQueue bTold bStraight bLeast bPostsOf bSets bTotals) sz)) (va_A (wX cA a xStraight xLeast nPosts nThirds nCorners nSums nArrows aBehind aAhead aCells aBefore aAfter gCorners gLowest gFirst gFresh gThere gRow gPlaces gOver gVia gQueue bTold bStraight bLeast bPostsOf bSets bTotals) sz)) 0 0 (va_A (wX cA a xStraight xLeast nPosts nThirds nCorners nSums nArrows aBehind aAhead aCells aBefore aAfter gCorners gLowest gFirst gFresh gThere gRow gPlaces gOver gVia gQueue bTold bStraight bLeast bPostsOf bSets bTotals) sz) := by
  refine xmet_v (by decide) (Nat.le_of_ble_eq_true rfl) ?_
  intro p e s m args below meth c A ls C hH hl
  have C : XC p s m args meth c cX2_forgetRow 1 RX2 none D cA A := C
  have hl : lv_has ls 1 [(0, .ref (a 9))] := hl
  unfold wp_G_forgetRow at h
  refine j_aload_n C dX2_forgetRow_0 (lv_at hl 0 rfl) ?_
  refine j_iconst C dX2_forgetRow_1 ?_
  refine xp_X2_rowIsFresh C hH (Or.inl rfl) dX2_forgetRow_2 (fun H locs hH => ?_)
  exact j_vret C hH ⟨_, rfl, h⟩ dX2_forgetRow_5
abbrev po_G_given (cA : ClassId) (a : Nat → Nat) (xStraight xLeast nPosts nThirds : Int) (nCorners nSums nArrows : Nat → Int) (aBehind aAhead : Int) (aCells aBefore aAfter : Nat → Int) (gCorners gLowest gFirst gFresh gThere : Int) (gRow gPlaces gOver gVia gQueue : Nat → Int) (bTold bStraight bLeast : Int) (bPostsOf bSets bTotals : Nat → Int) (Q : Int → Prop) : Int32 → va_W → Prop := fun r w => ∃ z, r = J z ∧ w = wX cA a xStraight xLeast nPosts nThirds nCorners nSums nArrows aBehind aAhead aCells aBefore aAfter gCorners gLowest gFirst gFresh gThere gRow gPlaces gOver gVia gQueue bTold bStraight bLeast bPostsOf bSets bTotals ∧ Q z
set_option maxRecDepth 4000 in
theorem c_G_given {l : Launch} {D : va_G} {cA : ClassId} {a : Nat → Nat} {sz : Nat} {xStraight xLeast nPosts nThirds : Int} {nCorners nSums nArrows : Nat → Int} {aBehind aAhead : Int} {aCells aBefore aAfter : Nat → Int} {gCorners gLowest gFirst gFresh gThere : Int} {gRow gPlaces gOver gVia gQueue : Nat → Int} {bTold bStraight bLeast : Int} {bPostsOf bSets bTotals : Nat → Int} {x1 : Int} {Q : Int → Prop} (h : wp_G_given x1 gRow Q) : Met l yX2_given (.code yX2_given cX2_given 2 (some .int) :: lw_ok) rm_G_given (xPre D cA sz [.ref (a 9), .int (J x1)] (wX cA a xStraight xLeast nPosts nThirds nCorners nSums nArrows aBehind aAhead aCells aBefore aAfter gCorners gLowest gFirst gFresh gThere gRow gPlaces gOver gVia gQueue bTold bStraight bLeast bPostsOf bSets bTotals)) (va_Qi (po_G_given cA a xStraight xLeast nPosts nThirds nCorners nSums nArrows aBehind aAhead aCells aBefore aAfter gCorners gLowest gFirst gFresh gThere gRow gPlaces gOver gVia gQueue bTold bStraight bLeast bPostsOf bSets bTotals Q) (xB D cA (va_A (wX cA a xStraight xLeast nPosts nThirds nCorners nSums nArrows aBehind aAhead aCells aBefore aAfter gCorners gLowest gFirst gFresh gThere gRow gPlaces gOver gVia gQueue bTold bStraight bLeast bPostsOf bSets bTotals) sz)) (va_A (wX cA a xStraight xLeast nPosts nThirds nCorners nSums nArrows aBehind aAhead aCells aBefore aAfter gCorners gLowest gFirst gFresh gThere gRow gPlaces gOver gVia gQueue bTold bStraight bLeast bPostsOf bSets bTotals) sz)) 0 0 (va_A (wX cA a xStraight xLeast nPosts nThirds nCorners nSums nArrows aBehind aAhead aCells aBefore aAfter gCorners gLowest gFirst gFresh gThere gRow gPlaces gOver gVia gQueue bTold bStraight bLeast bPostsOf bSets bTotals) sz) := by
  refine xmet_i (by decide) (Nat.le_of_ble_eq_true rfl) ?_
  intro p e s m args below meth c A ls C hH hl
  have C : XC p s m args meth c cX2_given 2 RX2 (some .int) D cA A := C
  have hl : lv_has ls 2 [(0, .ref (a 9)), (1, .int (J x1))] := hl
  unfold wp_G_given at h
  refine j_aload_n C dX2_given_0 (lv_at hl 0 rfl) ?_
  refine xg_X2_row C hH dX2_given_1 ?_
  refine j_iload_n C dX2_given_4 (lv_at hl 1 rfl) ?_
  obtain ⟨b_1, h⟩ := h
  refine xa_gRow C hH b_1 dX2_given_5 ?_
  exact j_iret C hH ⟨_, rfl, rfl, h⟩ dX2_given_6
abbrev po_G_givenAt (cA : ClassId) (a : Nat → Nat) (xStraight xLeast nPosts nThirds : Int) (nCorners nSums nArrows : Nat → Int) (aBehind aAhead : Int) (aCells aBefore aAfter : Nat → Int) (gCorners gLowest gFirst gFresh gThere : Int) (gRow gPlaces gOver gVia gQueue : Nat → Int) (bTold bStraight bLeast : Int) (bPostsOf bSets bTotals : Nat → Int) (Q : Int → Prop) : Int32 → va_W → Prop := fun r w => ∃ z, r = J z ∧ w = wX cA a xStraight xLeast nPosts nThirds nCorners nSums nArrows aBehind aAhead aCells aBefore aAfter gCorners gLowest gFirst gFresh gThere gRow gPlaces gOver gVia gQueue bTold bStraight bLeast bPostsOf bSets bTotals ∧ Q z
set_option maxRecDepth 4000 in
theorem w_G_givenAt_4 {p : Program} {l : Launch} {e : Env} {s : State} {m : MethodId} {args : Array Value} {below : List Frame} {meth : Method} {c : Code} {D : va_G} {cA : ClassId} {A : Nat → Prop} {a : Nat → Nat} {xStraight xLeast nPosts nThirds : Int} {nCorners nSums nArrows : Nat → Int} {aBehind aAhead : Int} {aCells aBefore aAfter : Nat → Int} {gCorners gLowest gFirst gFresh gThere : Int} {gRow gPlaces gOver gVia gQueue : Nat → Int} {bTold bStraight bLeast : Int} {bPostsOf bSets bTotals : Nat → Int} (C : XC p s m args meth c cX2_givenAt 4 RX2 (some .int) D cA A) {Q : Int → Prop} {x1 : Int}  : ∀ (n : Nat) (x2 : Int) (x3 : Int), wp_G_givenAt_4 Q nCorners gCorners gRow x1 n x2 x3 → ∀ (H : Heap) (locs : List Loc) (ls : Array Slot), XH D A s (wX cA a xStraight xLeast nPosts nThirds nCorners nSums nArrows aBehind aAhead aCells aBefore aAfter gCorners gLowest gFirst gFresh gThere gRow gPlaces gOver gVia gQueue bTold bStraight bLeast bPostsOf bSets bTotals) H locs → lv_has ls 4 [(0, .ref (a 9)), (1, .int (J x1)), (2, .int (J x2)), (3, .int (J x3))] → W p l e rm_G_givenAt s m args below meth c H locs 0 0 (MQ below (va_Qi (po_G_givenAt cA a xStraight xLeast nPosts nThirds nCorners nSums nArrows aBehind aAhead aCells aBefore aAfter gCorners gLowest gFirst gFresh gThere gRow gPlaces gOver gVia gQueue bTold bStraight bLeast bPostsOf bSets bTotals Q) (xB D cA A) A) args s 0 0 A) (F0 m 4 ls []) := by
  intro n
  induction n with
  | zero => intro x2 x3 h; exact (show False from h).elim
  | succ n hK4 =>
    intro x2 x3 h H locs ls hH hl
    have h : wp_G_givenAt_4_b  (wp_G_givenAt_4 Q nCorners gCorners gRow x1 n) Q nCorners gCorners gRow x1 x2 x3 := h
    unfold wp_G_givenAt_4_b at h
    refine j_iload_n C dX2_givenAt_4 (lv_at hl 3 rfl) ?_
    refine j_aload_n C dX2_givenAt_5 (lv_at hl 0 rfl) ?_
    refine xg_X2_corners C hH dX2_givenAt_6 ?_
    obtain ⟨g_1, h⟩ := h
    obtain ⟨g_2, h⟩ := h
    refine j_icmp_ge C 39 g_1 g_2 dX2_givenAt_9 (by decide) (fun c_3 => ?_) (fun c_3 => ?_)
    · have h := h.1 c_3
      refine j_iload_n C dX2_givenAt_39 (lv_at hl 2 rfl) ?_
      exact j_iret C hH ⟨_, rfl, rfl, h⟩ dX2_givenAt_40
    · have h := h.2 c_3
      refine j_aload_n C dX2_givenAt_12 (lv_at hl 0 rfl) ?_
      refine xg_X2_net C hH dX2_givenAt_13 ?_
      refine j_iload_n C dX2_givenAt_16 (lv_at hl 3 rfl) ?_
      refine xcallV_i (As := [.int (J x3)]) (rest := []) (q0 := 1) C hH (fun sz => c_N_postOf h) xl_X2_39 rfl rfl ⟨rfl, rfl⟩ ⟨Nat.le_of_ble_eq_true rfl, Nat.le_of_ble_eq_true rfl⟩ hl.1 rfl rfl (Nat.le_of_ble_eq_true rfl) dX2_givenAt_17 (fun r_ w_ H locs hw hH => ?_)
      obtain ⟨z_4, rfl, rfl, h⟩ := hw
      refine j_iload_n C dX2_givenAt_20 (lv_at hl 1 rfl) ?_
      obtain ⟨g_5, h⟩ := h
      obtain ⟨g_6, h⟩ := h
      refine j_icmp_ne C 33 g_5 g_6 dX2_givenAt_21 (by decide) (fun c_7 => ?_) (fun c_7 => ?_)
      · have h := h.2 c_7
        refine j_iinc (k := 3) (v := x3 + 1) (lv' := [(3, .int (J (x3 + 1))), (0, .ref (a 9)), (1, .int (J x1)), (2, .int (J x2))]) C dX2_givenAt_33 hl rfl rfl (by decide) rfl (fun ls hl => ?_)
        refine j_goto C 4 dX2_givenAt_36 (by decide) ?_
        exact hK4 x2 (x3 + 1) h _ _ _ hH (lv_sub hl [1, 2, 3, 0] rfl)
      · have h := h.1 c_7
        refine j_iload_n C dX2_givenAt_24 (lv_at hl 2 rfl) ?_
        refine j_aload_n C dX2_givenAt_25 (lv_at hl 0 rfl) ?_
        refine xg_X2_row C hH dX2_givenAt_26 ?_
        refine j_iload_n C dX2_givenAt_29 (lv_at hl 3 rfl) ?_
        obtain ⟨b_8, h⟩ := h
        refine xa_gRow C hH b_8 dX2_givenAt_30 ?_
        refine j_iadd C dX2_givenAt_31 ?_
        refine j_istore_n (lv' := [(2, .int (J (x2 + (gRow x3.toNat)))), (0, .ref (a 9)), (1, .int (J x1)), (3, .int (J x3))]) C dX2_givenAt_32 hl (by decide) rfl (fun ls hl => ?_)
        refine j_iinc (k := 3) (v := x3 + 1) (lv' := [(3, .int (J (x3 + 1))), (2, .int (J (x2 + (gRow x3.toNat)))), (0, .ref (a 9)), (1, .int (J x1))]) C dX2_givenAt_33 hl rfl rfl (by decide) rfl (fun ls hl => ?_)
        refine j_goto C 4 dX2_givenAt_36 (by decide) ?_
        exact hK4 (x2 + (gRow x3.toNat)) (x3 + 1) h _ _ _ hH (lv_sub hl [2, 3, 1, 0] rfl)
set_option maxRecDepth 4000 in
theorem c_G_givenAt {l : Launch} {D : va_G} {cA : ClassId} {a : Nat → Nat} {sz : Nat} {xStraight xLeast nPosts nThirds : Int} {nCorners nSums nArrows : Nat → Int} {aBehind aAhead : Int} {aCells aBefore aAfter : Nat → Int} {gCorners gLowest gFirst gFresh gThere : Int} {gRow gPlaces gOver gVia gQueue : Nat → Int} {bTold bStraight bLeast : Int} {bPostsOf bSets bTotals : Nat → Int} {x1 : Int} {Q : Int → Prop} (h : wp_G_givenAt x1 nCorners gCorners gRow Q) : Met l yX2_givenAt (.code yX2_givenAt cX2_givenAt 4 (some .int) :: lw_ok) rm_G_givenAt (xPre D cA sz [.ref (a 9), .int (J x1)] (wX cA a xStraight xLeast nPosts nThirds nCorners nSums nArrows aBehind aAhead aCells aBefore aAfter gCorners gLowest gFirst gFresh gThere gRow gPlaces gOver gVia gQueue bTold bStraight bLeast bPostsOf bSets bTotals)) (va_Qi (po_G_givenAt cA a xStraight xLeast nPosts nThirds nCorners nSums nArrows aBehind aAhead aCells aBefore aAfter gCorners gLowest gFirst gFresh gThere gRow gPlaces gOver gVia gQueue bTold bStraight bLeast bPostsOf bSets bTotals Q) (xB D cA (va_A (wX cA a xStraight xLeast nPosts nThirds nCorners nSums nArrows aBehind aAhead aCells aBefore aAfter gCorners gLowest gFirst gFresh gThere gRow gPlaces gOver gVia gQueue bTold bStraight bLeast bPostsOf bSets bTotals) sz)) (va_A (wX cA a xStraight xLeast nPosts nThirds nCorners nSums nArrows aBehind aAhead aCells aBefore aAfter gCorners gLowest gFirst gFresh gThere gRow gPlaces gOver gVia gQueue bTold bStraight bLeast bPostsOf bSets bTotals) sz)) 0 0 (va_A (wX cA a xStraight xLeast nPosts nThirds nCorners nSums nArrows aBehind aAhead aCells aBefore aAfter gCorners gLowest gFirst gFresh gThere gRow gPlaces gOver gVia gQueue bTold bStraight bLeast bPostsOf bSets bTotals) sz) := by
  refine xmet_i (by decide) (Nat.le_of_ble_eq_true rfl) ?_
  intro p e s m args below meth c A ls C hH hl
  have C : XC p s m args meth c cX2_givenAt 4 RX2 (some .int) D cA A := C
  have hl : lv_has ls 4 [(0, .ref (a 9)), (1, .int (J x1))] := hl
  unfold wp_G_givenAt at h
  refine j_iconst C dX2_givenAt_0 ?_
  refine j_istore_n (lv' := [(2, .int (J 0)), (0, .ref (a 9)), (1, .int (J x1))]) C dX2_givenAt_1 hl (by decide) rfl (fun ls hl => ?_)
  refine j_iconst C dX2_givenAt_2 ?_
  refine j_istore_n (lv' := [(3, .int (J 0)), (2, .int (J 0)), (0, .ref (a 9)), (1, .int (J x1))]) C dX2_givenAt_3 hl (by decide) rfl (fun ls hl => ?_)
  obtain ⟨n_, h⟩ := h
  exact w_G_givenAt_4 C  n_ 0 0 h _ _ _ hH (lv_sub hl [2, 3, 1, 0] rfl)
abbrev po_G_begin (cA : ClassId) (a : Nat → Nat) (xStraight xLeast nPosts nThirds : Int) (nCorners nSums nArrows : Nat → Int) (aBehind aAhead : Int) (aCells aBefore aAfter : Nat → Int) (gFresh gThere : Int) (gOver gVia gQueue : Nat → Int) (bTold bStraight bLeast : Int) (bPostsOf bSets bTotals : Nat → Int) (Q : Int → Int → Int → (Nat → Int) → (Nat → Int) → Prop) : va_W → Prop := fun w => ∃ gCorners' gLowest' gFirst' gRow' gPlaces', w = wX cA a xStraight xLeast nPosts nThirds nCorners nSums nArrows aBehind aAhead aCells aBefore aAfter gCorners' gLowest' gFirst' gFresh gThere gRow' gPlaces' gOver gVia gQueue bTold bStraight bLeast bPostsOf bSets bTotals ∧ Q gCorners' gLowest' gFirst' gRow' gPlaces'
set_option maxRecDepth 4000 in
theorem w_G_begin_65 {p : Program} {l : Launch} {e : Env} {s : State} {m : MethodId} {args : Array Value} {below : List Frame} {meth : Method} {c : Code} {D : va_G} {cA : ClassId} {A : Nat → Prop} {a : Nat → Nat} {xStraight xLeast nPosts nThirds : Int} {nCorners nSums nArrows : Nat → Int} {aBehind aAhead : Int} {aCells aBefore aAfter : Nat → Int} {gCorners gLowest gFirst gFresh gThere : Int} {gOver gVia gQueue : Nat → Int} {bTold bStraight bLeast : Int} {bPostsOf bSets bTotals : Nat → Int} (C : XC p s m args meth c cX2_begin 5 RX2 none D cA A) {K23 : Int → (Nat → Int) → (Nat → Int) → Prop} {Q : Int → Int → Int → (Nat → Int) → (Nat → Int) → Prop} {x1 : Int} {x2 : Int}  (hK23 : ∀ (x3 : Int) (gRow : Nat → Int) (gPlaces : Nat → Int), K23 x3 gRow gPlaces → ∀ (H : Heap) (locs : List Loc) (ls : Array Slot), XH D A s (wX cA a xStraight xLeast nPosts nThirds nCorners nSums nArrows aBehind aAhead aCells aBefore aAfter gCorners gLowest gFirst gFresh gThere gRow gPlaces gOver gVia gQueue bTold bStraight bLeast bPostsOf bSets bTotals) H locs → lv_has ls 5 [(0, .ref (a 9)), (1, .int (J x1)), (2, .int (J x2)), (3, .int (J x3))] → W p l e rm_G_begin s m args below meth c H locs 0 0 (MQ below (va_Qv (po_G_begin cA a xStraight xLeast nPosts nThirds nCorners nSums nArrows aBehind aAhead aCells aBefore aAfter gFresh gThere gOver gVia gQueue bTold bStraight bLeast bPostsOf bSets bTotals Q) (xB D cA A) A) args s 0 0 A) (F0 m 23 ls [])) : ∀ (x3 : Int) (t1 : Int) (t2 : Int) (gRow : Nat → Int) (gPlaces : Nat → Int), wp_G_begin_65 K23 Q nCorners nSums x1 x2 gCorners gLowest gFirst x3 t1 t2 gRow gPlaces → ∀ (H : Heap) (locs : List Loc) (ls : Array Slot), XH D A s (wX cA a xStraight xLeast nPosts nThirds nCorners nSums nArrows aBehind aAhead aCells aBefore aAfter gCorners gLowest gFirst gFresh gThere gRow gPlaces gOver gVia gQueue bTold bStraight bLeast bPostsOf bSets bTotals) H locs → lv_has ls 5 [(0, .ref (a 9)), (1, .int (J x1)), (2, .int (J x2)), (3, .int (J x3))] → W p l e rm_G_begin s m args below meth c H locs 0 0 (MQ below (va_Qv (po_G_begin cA a xStraight xLeast nPosts nThirds nCorners nSums nArrows aBehind aAhead aCells aBefore aAfter gFresh gThere gOver gVia gQueue bTold bStraight bLeast bPostsOf bSets bTotals Q) (xB D cA A) A) args s 0 0 A) (F0 m 65 ls [.int (J t2), .int (J t1), .ref (a 11)]) := by
  intro x3 t1 t2 gRow gPlaces h H locs ls hH hl
  unfold wp_G_begin_65 at h
  obtain ⟨b_1, h⟩ := h
  refine xs_gPlaces C hH b_1 dX2_begin_65 (fun gPlaces_2 e_gPlaces_2 H locs hH => ?_)
  have h := h gPlaces_2 e_gPlaces_2
  refine j_aload_n C dX2_begin_66 (lv_at hl 0 rfl) ?_
  refine xg_X2_row C hH dX2_begin_67 ?_
  refine j_iload_n C dX2_begin_70 (lv_at hl 3 rfl) ?_
  refine j_iload_n C dX2_begin_71 (lv_at hl 3 rfl) ?_
  refine j_iconst C dX2_begin_72 ?_
  refine j_irem C (by decide +kernel) dX2_begin_73 ?_
  refine j_iconst C dX2_begin_74 ?_
  obtain ⟨g_3, h⟩ := h
  refine j_icmp_ne C 86 g_3 (by unfold jR; decide) dX2_begin_75 (by decide) (fun c_4 => ?_) (fun c_4 => ?_)
  · have h := h.2 c_4
    refine j_iload_n C dX2_begin_86 (lv_at hl 2 rfl) ?_
    obtain ⟨b_5, h⟩ := h
    refine xs_gRow C hH b_5 dX2_begin_87 (fun gRow_6 e_gRow_6 H locs hH => ?_)
    have h := h gRow_6 e_gRow_6
    refine j_iinc (k := 3) (v := x3 + 1) (lv' := [(3, .int (J (x3 + 1))), (0, .ref (a 9)), (1, .int (J x1)), (2, .int (J x2))]) C dX2_begin_88 hl rfl rfl (by decide) rfl (fun ls hl => ?_)
    refine j_goto C 23 dX2_begin_91 (by decide) ?_
    exact hK23 (x3 + 1) gRow_6 gPlaces_2 h _ _ _ hH (lv_sub hl [1, 2, 3, 0] rfl)
  · have h := h.1 c_4
    refine j_iload_n C dX2_begin_78 (lv_at hl 1 rfl) ?_
    refine j_iconst C dX2_begin_79 ?_
    refine j_iload_n C dX2_begin_80 (lv_at hl 2 rfl) ?_
    refine j_imul C dX2_begin_81 ?_
    refine j_isub C dX2_begin_82 ?_
    refine j_goto C 87 dX2_begin_83 (by decide) ?_
    obtain ⟨b_7, h⟩ := h
    refine xs_gRow C hH b_7 dX2_begin_87 (fun gRow_8 e_gRow_8 H locs hH => ?_)
    have h := h gRow_8 e_gRow_8
    refine j_iinc (k := 3) (v := x3 + 1) (lv' := [(3, .int (J (x3 + 1))), (0, .ref (a 9)), (1, .int (J x1)), (2, .int (J x2))]) C dX2_begin_88 hl rfl rfl (by decide) rfl (fun ls hl => ?_)
    refine j_goto C 23 dX2_begin_91 (by decide) ?_
    exact hK23 (x3 + 1) gRow_8 gPlaces_2 h _ _ _ hH (lv_sub hl [1, 2, 3, 0] rfl)
set_option maxRecDepth 4000 in
theorem w_G_begin_23 {p : Program} {l : Launch} {e : Env} {s : State} {m : MethodId} {args : Array Value} {below : List Frame} {meth : Method} {c : Code} {D : va_G} {cA : ClassId} {A : Nat → Prop} {a : Nat → Nat} {xStraight xLeast nPosts nThirds : Int} {nCorners nSums nArrows : Nat → Int} {aBehind aAhead : Int} {aCells aBefore aAfter : Nat → Int} {gCorners gLowest gFirst gFresh gThere : Int} {gOver gVia gQueue : Nat → Int} {bTold bStraight bLeast : Int} {bPostsOf bSets bTotals : Nat → Int} (C : XC p s m args meth c cX2_begin 5 RX2 none D cA A) {Q : Int → Int → Int → (Nat → Int) → (Nat → Int) → Prop} {x1 : Int} {x2 : Int}  : ∀ (n : Nat) (x3 : Int) (gRow : Nat → Int) (gPlaces : Nat → Int), wp_G_begin_23 Q nCorners nSums x1 x2 gCorners gLowest gFirst n x3 gRow gPlaces → ∀ (H : Heap) (locs : List Loc) (ls : Array Slot), XH D A s (wX cA a xStraight xLeast nPosts nThirds nCorners nSums nArrows aBehind aAhead aCells aBefore aAfter gCorners gLowest gFirst gFresh gThere gRow gPlaces gOver gVia gQueue bTold bStraight bLeast bPostsOf bSets bTotals) H locs → lv_has ls 5 [(0, .ref (a 9)), (1, .int (J x1)), (2, .int (J x2)), (3, .int (J x3))] → W p l e rm_G_begin s m args below meth c H locs 0 0 (MQ below (va_Qv (po_G_begin cA a xStraight xLeast nPosts nThirds nCorners nSums nArrows aBehind aAhead aCells aBefore aAfter gFresh gThere gOver gVia gQueue bTold bStraight bLeast bPostsOf bSets bTotals Q) (xB D cA A) A) args s 0 0 A) (F0 m 23 ls []) := by
  intro n
  induction n with
  | zero => intro x3 gRow gPlaces h; exact (show False from h).elim
  | succ n hK23 =>
    intro x3 gRow gPlaces h H locs ls hH hl
    have h : wp_G_begin_23_b  (wp_G_begin_23 Q nCorners nSums x1 x2 gCorners gLowest gFirst n) Q nCorners nSums x1 x2 gCorners gLowest gFirst x3 gRow gPlaces := h
    unfold wp_G_begin_23_b at h
    refine j_iload_n C dX2_begin_23 (lv_at hl 3 rfl) ?_
    refine j_aload_n C dX2_begin_24 (lv_at hl 0 rfl) ?_
    refine xg_X2_corners C hH dX2_begin_25 ?_
    obtain ⟨g_9, h⟩ := h
    obtain ⟨g_10, h⟩ := h
    refine j_icmp_ge C 94 g_9 g_10 dX2_begin_28 (by decide) (fun c_11 => ?_) (fun c_11 => ?_)
    · have h := h.1 c_11
      exact j_vret C hH ⟨_, _, _, _, _, rfl, h⟩ dX2_begin_94
    · have h := h.2 c_11
      refine j_aload_n C dX2_begin_31 (lv_at hl 0 rfl) ?_
      refine xg_X2_net C hH dX2_begin_32 ?_
      refine j_iload_n C dX2_begin_35 (lv_at hl 3 rfl) ?_
      refine xcallV_i (As := [.int (J x3)]) (rest := []) (q0 := 1) C hH (fun sz => c_N_postOf h) xl_X2_39 rfl rfl ⟨rfl, rfl⟩ ⟨Nat.le_of_ble_eq_true rfl, Nat.le_of_ble_eq_true rfl⟩ hl.1 rfl rfl (Nat.le_of_ble_eq_true rfl) dX2_begin_36 (fun r_ w_ H locs hw hH => ?_)
      obtain ⟨z_12, rfl, rfl, h⟩ := hw
      refine j_istore (lv' := [(4, .int (J z_12)), (0, .ref (a 9)), (1, .int (J x1)), (2, .int (J x2)), (3, .int (J x3))]) C dX2_begin_39 hl (by decide) rfl (fun ls hl => ?_)
      refine j_aload_n C dX2_begin_41 (lv_at hl 1 rfl) ?_
      refine xg_X2_places C hH dX2_begin_42 ?_
      refine j_iload_n C dX2_begin_45 (lv_at hl 4 rfl) ?_
      refine j_aload_n C dX2_begin_46 (lv_at hl 1 rfl) ?_
      refine xg_X2_net C hH dX2_begin_47 ?_
      refine j_iload C dX2_begin_50 (lv_at hl 0 rfl) ?_
      refine xcallV_i (As := [.int (J z_12)]) (rest := [.int (J x3), .ref (a 11)]) (q0 := 1) C hH (fun sz => c_N_isTold h) xl_X2_76 rfl rfl ⟨rfl, rfl⟩ ⟨Nat.le_of_ble_eq_true rfl, Nat.le_of_ble_eq_true rfl⟩ hl.1 rfl rfl (Nat.le_of_ble_eq_true rfl) dX2_begin_52 (fun r_ w_ H locs hw hH => ?_)
      obtain ⟨z_13, rfl, rfl, h⟩ := hw
      obtain ⟨g_14, h⟩ := h
      refine j_if_eq C 63 g_14 dX2_begin_55 (by decide) (fun c_15 => ?_) (fun c_15 => ?_)
      · have h := h.1 c_15
        refine j_bipush C (by decide +kernel) dX2_begin_63 ?_
        exact w_G_begin_65 C hK23 x3 x3 9 gRow gPlaces h _ _ _ hH (lv_sub hl [1, 2, 3, 4] rfl)
      · have h := h.2 c_15
        refine j_iload C dX2_begin_58 (lv_at hl 0 rfl) ?_
        refine j_goto C 65 dX2_begin_60 (by decide) ?_
        exact w_G_begin_65 C hK23 x3 x3 z_12 gRow gPlaces h _ _ _ hH (lv_sub hl [1, 2, 3, 4] rfl)
set_option maxRecDepth 4000 in
theorem c_G_begin {l : Launch} {D : va_G} {cA : ClassId} {a : Nat → Nat} {sz : Nat} {xStraight xLeast nPosts nThirds : Int} {nCorners nSums nArrows : Nat → Int} {aBehind aAhead : Int} {aCells aBefore aAfter : Nat → Int} {gCorners gLowest gFirst gFresh gThere : Int} {gRow gPlaces gOver gVia gQueue : Nat → Int} {bTold bStraight bLeast : Int} {bPostsOf bSets bTotals : Nat → Int} {x1 x2 : Int} {Q : Int → Int → Int → (Nat → Int) → (Nat → Int) → Prop} (h : wp_G_begin x1 x2 nThirds nCorners nSums gCorners gLowest gFirst gRow gPlaces Q) : Met l yX2_begin (.code yX2_begin cX2_begin 5 none :: lw_ok) rm_G_begin (xPre D cA sz [.ref (a 9), .int (J x1), .int (J x2)] (wX cA a xStraight xLeast nPosts nThirds nCorners nSums nArrows aBehind aAhead aCells aBefore aAfter gCorners gLowest gFirst gFresh gThere gRow gPlaces gOver gVia gQueue bTold bStraight bLeast bPostsOf bSets bTotals)) (va_Qv (po_G_begin cA a xStraight xLeast nPosts nThirds nCorners nSums nArrows aBehind aAhead aCells aBefore aAfter gFresh gThere gOver gVia gQueue bTold bStraight bLeast bPostsOf bSets bTotals Q) (xB D cA (va_A (wX cA a xStraight xLeast nPosts nThirds nCorners nSums nArrows aBehind aAhead aCells aBefore aAfter gCorners gLowest gFirst gFresh gThere gRow gPlaces gOver gVia gQueue bTold bStraight bLeast bPostsOf bSets bTotals) sz)) (va_A (wX cA a xStraight xLeast nPosts nThirds nCorners nSums nArrows aBehind aAhead aCells aBefore aAfter gCorners gLowest gFirst gFresh gThere gRow gPlaces gOver gVia gQueue bTold bStraight bLeast bPostsOf bSets bTotals) sz)) 0 0 (va_A (wX cA a xStraight xLeast nPosts nThirds nCorners nSums nArrows aBehind aAhead aCells aBefore aAfter gCorners gLowest gFirst gFresh gThere gRow gPlaces gOver gVia gQueue bTold bStraight bLeast bPostsOf bSets bTotals) sz) := by
  refine xmet_v (by decide) (Nat.le_of_ble_eq_true rfl) ?_
  intro p e s m args below meth c A ls C hH hl
  have C : XC p s m args meth c cX2_begin 5 RX2 none D cA A := C
  have hl : lv_has ls 5 [(0, .ref (a 9)), (1, .int (J x1)), (2, .int (J x2))] := hl
  unfold wp_G_begin at h
  refine j_aload_n C dX2_begin_0 (lv_at hl 0 rfl) ?_
  refine j_aload_n C dX2_begin_1 (lv_at hl 0 rfl) ?_
  refine xg_X2_net C hH dX2_begin_2 ?_
  refine xcallV_i (As := []) (rest := [.ref (a 9)]) (q0 := 1) C hH (fun sz => c_N_cornerCount h) xl_X2_66 rfl rfl ⟨rfl, rfl⟩ ⟨Nat.le_of_ble_eq_true rfl, Nat.le_of_ble_eq_true rfl⟩ hl.1 rfl rfl (Nat.le_of_ble_eq_true rfl) dX2_begin_5 (fun r_ w_ H locs hw hH => ?_)
  obtain ⟨z_16, rfl, rfl, h⟩ := hw
  refine xp_X2_corners C hH dX2_begin_8 (fun H locs hH => ?_)
  refine j_aload_n C dX2_begin_11 (lv_at hl 0 rfl) ?_
  refine j_iload_n C dX2_begin_12 (lv_at hl 2 rfl) ?_
  refine xp_X2_lowest C hH dX2_begin_13 (fun H locs hH => ?_)
  refine j_aload_n C dX2_begin_16 (lv_at hl 0 rfl) ?_
  refine j_iconst C dX2_begin_17 ?_
  refine xp_X2_firstOpen C hH dX2_begin_18 (fun H locs hH => ?_)
  refine j_iconst C dX2_begin_21 ?_
  refine j_istore_n (lv' := [(3, .int (J 0)), (0, .ref (a 9)), (1, .int (J x1)), (2, .int (J x2))]) C dX2_begin_22 hl (by decide) rfl (fun ls hl => ?_)
  obtain ⟨n_, h⟩ := h
  exact w_G_begin_23 C  n_ 0 gRow gPlaces h _ _ _ hH (lv_sub hl [1, 2, 3, 0] rfl)
abbrev po_G_nodeBefore (cA : ClassId) (a : Nat → Nat) (xStraight xLeast nPosts nThirds : Int) (nCorners nSums nArrows : Nat → Int) (aBehind aAhead : Int) (aCells aBefore aAfter : Nat → Int) (gCorners gLowest gFirst gFresh gThere : Int) (gRow gPlaces gOver gVia gQueue : Nat → Int) (bTold bStraight bLeast : Int) (bPostsOf bSets bTotals : Nat → Int) (Q : Int → Prop) : Int32 → va_W → Prop := fun r w => ∃ z, r = J z ∧ w = wX cA a xStraight xLeast nPosts nThirds nCorners nSums nArrows aBehind aAhead aCells aBefore aAfter gCorners gLowest gFirst gFresh gThere gRow gPlaces gOver gVia gQueue bTold bStraight bLeast bPostsOf bSets bTotals ∧ Q z
set_option maxRecDepth 4000 in
theorem c_G_nodeBefore {l : Launch} {D : va_G} {cA : ClassId} {a : Nat → Nat} {sz : Nat} {xStraight xLeast nPosts nThirds : Int} {nCorners nSums nArrows : Nat → Int} {aBehind aAhead : Int} {aCells aBefore aAfter : Nat → Int} {gCorners gLowest gFirst gFresh gThere : Int} {gRow gPlaces gOver gVia gQueue : Nat → Int} {bTold bStraight bLeast : Int} {bPostsOf bSets bTotals : Nat → Int} {x1 : Int} {Q : Int → Prop} (h : wp_G_nodeBefore x1 gPlaces gVia Q) : Met l yX2_nodeBefore (.code yX2_nodeBefore cX2_nodeBefore 3 (some .int) :: lw_ok) rm_G_nodeBefore (xPre D cA sz [.ref (a 9), .int (J x1)] (wX cA a xStraight xLeast nPosts nThirds nCorners nSums nArrows aBehind aAhead aCells aBefore aAfter gCorners gLowest gFirst gFresh gThere gRow gPlaces gOver gVia gQueue bTold bStraight bLeast bPostsOf bSets bTotals)) (va_Qi (po_G_nodeBefore cA a xStraight xLeast nPosts nThirds nCorners nSums nArrows aBehind aAhead aCells aBefore aAfter gCorners gLowest gFirst gFresh gThere gRow gPlaces gOver gVia gQueue bTold bStraight bLeast bPostsOf bSets bTotals Q) (xB D cA (va_A (wX cA a xStraight xLeast nPosts nThirds nCorners nSums nArrows aBehind aAhead aCells aBefore aAfter gCorners gLowest gFirst gFresh gThere gRow gPlaces gOver gVia gQueue bTold bStraight bLeast bPostsOf bSets bTotals) sz)) (va_A (wX cA a xStraight xLeast nPosts nThirds nCorners nSums nArrows aBehind aAhead aCells aBefore aAfter gCorners gLowest gFirst gFresh gThere gRow gPlaces gOver gVia gQueue bTold bStraight bLeast bPostsOf bSets bTotals) sz)) 0 0 (va_A (wX cA a xStraight xLeast nPosts nThirds nCorners nSums nArrows aBehind aAhead aCells aBefore aAfter gCorners gLowest gFirst gFresh gThere gRow gPlaces gOver gVia gQueue bTold bStraight bLeast bPostsOf bSets bTotals) sz) := by
  refine xmet_i (by decide) (Nat.le_of_ble_eq_true rfl) ?_
  intro p e s m args below meth c A ls C hH hl
  have C : XC p s m args meth c cX2_nodeBefore 3 RX2 (some .int) D cA A := C
  have hl : lv_has ls 3 [(0, .ref (a 9)), (1, .int (J x1))] := hl
  unfold wp_G_nodeBefore at h
  refine j_aload_n C dX2_nodeBefore_0 (lv_at hl 0 rfl) ?_
  refine xg_X2_via C hH dX2_nodeBefore_1 ?_
  refine j_iload_n C dX2_nodeBefore_4 (lv_at hl 1 rfl) ?_
  obtain ⟨b_1, h⟩ := h
  refine xa_gVia C hH b_1 dX2_nodeBefore_5 ?_
  refine j_istore_n (lv' := [(2, .int (J (gVia x1.toNat))), (0, .ref (a 9)), (1, .int (J x1))]) C dX2_nodeBefore_6 hl (by decide) rfl (fun ls hl => ?_)
  refine j_iload_n C dX2_nodeBefore_7 (lv_at hl 2 rfl) ?_
  refine j_bipush C (by decide +kernel) dX2_nodeBefore_8 ?_
  obtain ⟨g_2, h⟩ := h
  refine j_icmp_lt C 22 g_2 (by unfold jR; decide) dX2_nodeBefore_10 (by decide) (fun c_3 => ?_) (fun c_3 => ?_)
  · have h := h.1 c_3
    refine j_bipush C (by decide +kernel) dX2_nodeBefore_22 ?_
    refine j_iload_n C dX2_nodeBefore_24 (lv_at hl 0 rfl) ?_
    refine j_iconst C dX2_nodeBefore_25 ?_
    refine j_idiv C (by decide +kernel) dX2_nodeBefore_26 ?_
    refine j_iadd C dX2_nodeBefore_27 ?_
    exact j_iret C hH ⟨_, rfl, rfl, h⟩ dX2_nodeBefore_28
  · have h := h.2 c_3
    refine j_aload_n C dX2_nodeBefore_13 (lv_at hl 1 rfl) ?_
    refine xg_X2_places C hH dX2_nodeBefore_14 ?_
    refine j_iload_n C dX2_nodeBefore_17 (lv_at hl 0 rfl) ?_
    obtain ⟨b_4, h⟩ := h
    refine xa_gPlaces C hH b_4 dX2_nodeBefore_18 ?_
    refine j_goto C 28 dX2_nodeBefore_19 (by decide) ?_
    exact j_iret C hH ⟨_, rfl, rfl, h⟩ dX2_nodeBefore_28
abbrev po_G_seeFromPost (cA : ClassId) (a : Nat → Nat) (xStraight xLeast nPosts nThirds : Int) (nCorners nSums nArrows : Nat → Int) (aBehind aAhead : Int) (aCells aBefore aAfter : Nat → Int) (gCorners gLowest gFirst gFresh gThere : Int) (gRow gPlaces gOver : Nat → Int) (bTold bStraight bLeast : Int) (bPostsOf bSets bTotals : Nat → Int) (Q : Int → (Nat → Int) → (Nat → Int) → Prop) : Int32 → va_W → Prop := fun r w => ∃ z gVia' gQueue', r = J z ∧ w = wX cA a xStraight xLeast nPosts nThirds nCorners nSums nArrows aBehind aAhead aCells aBefore aAfter gCorners gLowest gFirst gFresh gThere gRow gPlaces gOver gVia' gQueue' bTold bStraight bLeast bPostsOf bSets bTotals ∧ Q z gVia' gQueue'
set_option maxRecDepth 4000 in
theorem w_G_seeFromPost_8 {p : Program} {l : Launch} {e : Env} {s : State} {m : MethodId} {args : Array Value} {below : List Frame} {meth : Method} {c : Code} {D : va_G} {cA : ClassId} {A : Nat → Prop} {a : Nat → Nat} {xStraight xLeast nPosts nThirds : Int} {nCorners nSums nArrows : Nat → Int} {aBehind aAhead : Int} {aCells aBefore aAfter : Nat → Int} {gCorners gLowest gFirst gFresh gThere : Int} {gRow gPlaces gOver : Nat → Int} {bTold bStraight bLeast : Int} {bPostsOf bSets bTotals : Nat → Int} (C : XC p s m args meth c cX2_seeFromPost 6 RX2 (some .int) D cA A) {Q : Int → (Nat → Int) → (Nat → Int) → Prop} {x1 : Int}  : ∀ (n : Nat) (x3 : Int) (x4 : Int) (gVia : Nat → Int) (gQueue : Nat → Int), wp_G_seeFromPost_8 Q gCorners gLowest gRow gPlaces x1 n x3 x4 gVia gQueue → ∀ (H : Heap) (locs : List Loc) (ls : Array Slot), XH D A s (wX cA a xStraight xLeast nPosts nThirds nCorners nSums nArrows aBehind aAhead aCells aBefore aAfter gCorners gLowest gFirst gFresh gThere gRow gPlaces gOver gVia gQueue bTold bStraight bLeast bPostsOf bSets bTotals) H locs → lv_has ls 6 [(0, .ref (a 9)), (1, .int (J x1)), (3, .int (J x3)), (4, .int (J x4))] → W p l e rm_G_seeFromPost s m args below meth c H locs 0 0 (MQ below (va_Qi (po_G_seeFromPost cA a xStraight xLeast nPosts nThirds nCorners nSums nArrows aBehind aAhead aCells aBefore aAfter gCorners gLowest gFirst gFresh gThere gRow gPlaces gOver bTold bStraight bLeast bPostsOf bSets bTotals Q) (xB D cA A) A) args s 0 0 A) (F0 m 8 ls []) := by
  intro n
  induction n with
  | zero => intro x3 x4 gVia gQueue h; exact (show False from h).elim
  | succ n hK8 =>
    intro x3 x4 gVia gQueue h H locs ls hH hl
    have h : wp_G_seeFromPost_8_b  (wp_G_seeFromPost_8 Q gCorners gLowest gRow gPlaces x1 n) Q gCorners gLowest gRow gPlaces x1 x3 x4 gVia gQueue := h
    unfold wp_G_seeFromPost_8_b at h
    refine j_iload C dX2_seeFromPost_8 (lv_at hl 3 rfl) ?_
    refine j_aload_n C dX2_seeFromPost_10 (lv_at hl 0 rfl) ?_
    refine xg_X2_corners C hH dX2_seeFromPost_11 ?_
    obtain ⟨g_1, h⟩ := h
    obtain ⟨g_2, h⟩ := h
    refine j_icmp_ge C 88 g_1 g_2 dX2_seeFromPost_14 (by decide) (fun c_3 => ?_) (fun c_3 => ?_)
    · have h := h.1 c_3
      refine j_iload_n C dX2_seeFromPost_88 (lv_at hl 2 rfl) ?_
      exact j_iret C hH ⟨_, _, _, rfl, rfl, h⟩ dX2_seeFromPost_89
    · have h := h.2 c_3
      refine j_bipush C (by decide +kernel) dX2_seeFromPost_17 ?_
      refine j_iload C dX2_seeFromPost_19 (lv_at hl 3 rfl) ?_
      refine j_iconst C dX2_seeFromPost_21 ?_
      refine j_idiv C (by decide +kernel) dX2_seeFromPost_22 ?_
      refine j_iadd C dX2_seeFromPost_23 ?_
      refine j_istore (lv' := [(5, .int (J (10 + (jdiv x4 3)))), (0, .ref (a 9)), (1, .int (J x1)), (3, .int (J x3)), (4, .int (J x4))]) C dX2_seeFromPost_24 hl (by decide) rfl (fun ls hl => ?_)
      refine j_aload_n C dX2_seeFromPost_26 (lv_at hl 1 rfl) ?_
      refine xg_X2_places C hH dX2_seeFromPost_27 ?_
      refine j_iload C dX2_seeFromPost_30 (lv_at hl 4 rfl) ?_
      obtain ⟨b_4, h⟩ := h
      refine xa_gPlaces C hH b_4 dX2_seeFromPost_32 ?_
      refine j_iload_n C dX2_seeFromPost_33 (lv_at hl 2 rfl) ?_
      obtain ⟨g_5, h⟩ := h
      obtain ⟨g_6, h⟩ := h
      refine j_icmp_ne C 82 g_5 g_6 dX2_seeFromPost_34 (by decide) (fun c_7 => ?_) (fun c_7 => ?_)
      · have h := h.2 c_7
        refine j_iinc (k := 4) (v := x4 + 1) (lv' := [(4, .int (J (x4 + 1))), (5, .int (J (10 + (jdiv x4 3)))), (0, .ref (a 9)), (1, .int (J x1)), (3, .int (J x3))]) C dX2_seeFromPost_82 hl rfl rfl (by decide) rfl (fun ls hl => ?_)
        refine j_goto C 8 dX2_seeFromPost_85 (by decide) ?_
        exact hK8 x3 (x4 + 1) gVia gQueue h _ _ _ hH (lv_sub hl [2, 3, 4, 0] rfl)
      · have h := h.1 c_7
        refine j_aload_n C dX2_seeFromPost_37 (lv_at hl 1 rfl) ?_
        refine xg_X2_row C hH dX2_seeFromPost_38 ?_
        refine j_iload C dX2_seeFromPost_41 (lv_at hl 4 rfl) ?_
        refine xa_gRow C hH b_4 dX2_seeFromPost_43 ?_
        refine j_aload_n C dX2_seeFromPost_44 (lv_at hl 1 rfl) ?_
        refine xg_X2_lowest C hH dX2_seeFromPost_45 ?_
        obtain ⟨g_8, h⟩ := h
        obtain ⟨g_9, h⟩ := h
        refine j_icmp_le C 82 g_8 g_9 dX2_seeFromPost_48 (by decide) (fun c_10 => ?_) (fun c_10 => ?_)
        · have h := h.1 c_10
          refine j_iinc (k := 4) (v := x4 + 1) (lv' := [(4, .int (J (x4 + 1))), (5, .int (J (10 + (jdiv x4 3)))), (0, .ref (a 9)), (1, .int (J x1)), (3, .int (J x3))]) C dX2_seeFromPost_82 hl rfl rfl (by decide) rfl (fun ls hl => ?_)
          refine j_goto C 8 dX2_seeFromPost_85 (by decide) ?_
          exact hK8 x3 (x4 + 1) gVia gQueue h _ _ _ hH (lv_sub hl [2, 3, 4, 0] rfl)
        · have h := h.2 c_10
          refine j_aload_n C dX2_seeFromPost_51 (lv_at hl 1 rfl) ?_
          refine xg_X2_via C hH dX2_seeFromPost_52 ?_
          refine j_iload C dX2_seeFromPost_55 (lv_at hl 0 rfl) ?_
          obtain ⟨b_11, h⟩ := h
          refine xa_gVia C hH b_11 dX2_seeFromPost_57 ?_
          refine j_iconst C dX2_seeFromPost_58 ?_
          obtain ⟨g_12, h⟩ := h
          refine j_icmp_ne C 82 g_12 (by unfold jR; decide) dX2_seeFromPost_59 (by decide) (fun c_13 => ?_) (fun c_13 => ?_)
          · have h := h.2 c_13
            refine j_iinc (k := 4) (v := x4 + 1) (lv' := [(4, .int (J (x4 + 1))), (5, .int (J (10 + (jdiv x4 3)))), (0, .ref (a 9)), (1, .int (J x1)), (3, .int (J x3))]) C dX2_seeFromPost_82 hl rfl rfl (by decide) rfl (fun ls hl => ?_)
            refine j_goto C 8 dX2_seeFromPost_85 (by decide) ?_
            exact hK8 x3 (x4 + 1) gVia gQueue h _ _ _ hH (lv_sub hl [2, 3, 4, 0] rfl)
          · have h := h.1 c_13
            refine j_aload_n C dX2_seeFromPost_62 (lv_at hl 1 rfl) ?_
            refine xg_X2_via C hH dX2_seeFromPost_63 ?_
            refine j_iload C dX2_seeFromPost_66 (lv_at hl 0 rfl) ?_
            refine j_iload C dX2_seeFromPost_68 (lv_at hl 4 rfl) ?_
            refine xs_gVia C hH b_11 dX2_seeFromPost_70 (fun gVia_14 e_gVia_14 H locs hH => ?_)
            have h := h gVia_14 e_gVia_14
            refine j_aload_n C dX2_seeFromPost_71 (lv_at hl 1 rfl) ?_
            refine xg_X2_queue C hH dX2_seeFromPost_72 ?_
            refine j_iload_n C dX2_seeFromPost_75 (lv_at hl 3 rfl) ?_
            refine j_iload C dX2_seeFromPost_76 (lv_at hl 0 rfl) ?_
            obtain ⟨b_15, h⟩ := h
            refine xs_gQueue C hH b_15 dX2_seeFromPost_78 (fun gQueue_16 e_gQueue_16 H locs hH => ?_)
            have h := h gQueue_16 e_gQueue_16
            refine j_iinc (k := 3) (v := x3 + 1) (lv' := [(3, .int (J (x3 + 1))), (5, .int (J (10 + (jdiv x4 3)))), (0, .ref (a 9)), (1, .int (J x1)), (4, .int (J x4))]) C dX2_seeFromPost_79 hl rfl rfl (by decide) rfl (fun ls hl => ?_)
            refine j_iinc (k := 4) (v := x4 + 1) (lv' := [(4, .int (J (x4 + 1))), (3, .int (J (x3 + 1))), (5, .int (J (10 + (jdiv x4 3)))), (0, .ref (a 9)), (1, .int (J x1))]) C dX2_seeFromPost_82 hl rfl rfl (by decide) rfl (fun ls hl => ?_)
            refine j_goto C 8 dX2_seeFromPost_85 (by decide) ?_
            exact hK8 (x3 + 1) (x4 + 1) gVia_14 gQueue_16 h _ _ _ hH (lv_sub hl [3, 4, 1, 0] rfl)
set_option maxRecDepth 4000 in
theorem c_G_seeFromPost {l : Launch} {D : va_G} {cA : ClassId} {a : Nat → Nat} {sz : Nat} {xStraight xLeast nPosts nThirds : Int} {nCorners nSums nArrows : Nat → Int} {aBehind aAhead : Int} {aCells aBefore aAfter : Nat → Int} {gCorners gLowest gFirst gFresh gThere : Int} {gRow gPlaces gOver gVia gQueue : Nat → Int} {bTold bStraight bLeast : Int} {bPostsOf bSets bTotals : Nat → Int} {x1 x2 : Int} {Q : Int → (Nat → Int) → (Nat → Int) → Prop} (h : wp_G_seeFromPost x1 x2 gCorners gLowest gFirst gRow gPlaces gVia gQueue Q) : Met l yX2_seeFromPost (.code yX2_seeFromPost cX2_seeFromPost 6 (some .int) :: lw_ok) rm_G_seeFromPost (xPre D cA sz [.ref (a 9), .int (J x1), .int (J x2)] (wX cA a xStraight xLeast nPosts nThirds nCorners nSums nArrows aBehind aAhead aCells aBefore aAfter gCorners gLowest gFirst gFresh gThere gRow gPlaces gOver gVia gQueue bTold bStraight bLeast bPostsOf bSets bTotals)) (va_Qi (po_G_seeFromPost cA a xStraight xLeast nPosts nThirds nCorners nSums nArrows aBehind aAhead aCells aBefore aAfter gCorners gLowest gFirst gFresh gThere gRow gPlaces gOver bTold bStraight bLeast bPostsOf bSets bTotals Q) (xB D cA (va_A (wX cA a xStraight xLeast nPosts nThirds nCorners nSums nArrows aBehind aAhead aCells aBefore aAfter gCorners gLowest gFirst gFresh gThere gRow gPlaces gOver gVia gQueue bTold bStraight bLeast bPostsOf bSets bTotals) sz)) (va_A (wX cA a xStraight xLeast nPosts nThirds nCorners nSums nArrows aBehind aAhead aCells aBefore aAfter gCorners gLowest gFirst gFresh gThere gRow gPlaces gOver gVia gQueue bTold bStraight bLeast bPostsOf bSets bTotals) sz)) 0 0 (va_A (wX cA a xStraight xLeast nPosts nThirds nCorners nSums nArrows aBehind aAhead aCells aBefore aAfter gCorners gLowest gFirst gFresh gThere gRow gPlaces gOver gVia gQueue bTold bStraight bLeast bPostsOf bSets bTotals) sz) := by
  refine xmet_i (by decide) (Nat.le_of_ble_eq_true rfl) ?_
  intro p e s m args below meth c A ls C hH hl
  have C : XC p s m args meth c cX2_seeFromPost 6 RX2 (some .int) D cA A := C
  have hl : lv_has ls 6 [(0, .ref (a 9)), (1, .int (J x1)), (2, .int (J x2))] := hl
  unfold wp_G_seeFromPost at h
  refine j_iload_n C dX2_seeFromPost_0 (lv_at hl 2 rfl) ?_
  refine j_istore_n (lv' := [(3, .int (J x2)), (0, .ref (a 9)), (1, .int (J x1)), (2, .int (J x2))]) C dX2_seeFromPost_1 hl (by decide) rfl (fun ls hl => ?_)
  refine j_aload_n C dX2_seeFromPost_2 (lv_at hl 1 rfl) ?_
  refine xg_X2_firstOpen C hH dX2_seeFromPost_3 ?_
  refine j_istore (lv' := [(4, .int (J gFirst)), (3, .int (J x2)), (0, .ref (a 9)), (1, .int (J x1)), (2, .int (J x2))]) C dX2_seeFromPost_6 hl (by decide) rfl (fun ls hl => ?_)
  obtain ⟨n_, h⟩ := h
  exact w_G_seeFromPost_8 C  n_ x2 gFirst gVia gQueue h _ _ _ hH (lv_sub hl [2, 3, 1, 0] rfl)
abbrev po_G_seeFromThird (cA : ClassId) (a : Nat → Nat) (xStraight xLeast nPosts nThirds : Int) (nCorners nSums nArrows : Nat → Int) (aBehind aAhead : Int) (aCells aBefore aAfter : Nat → Int) (gCorners gLowest gFirst gFresh gThere : Int) (gRow gPlaces gOver : Nat → Int) (bTold bStraight bLeast : Int) (bPostsOf bSets bTotals : Nat → Int) (Q : Int → (Nat → Int) → (Nat → Int) → Prop) : Int32 → va_W → Prop := fun r w => ∃ z gVia' gQueue', r = J z ∧ w = wX cA a xStraight xLeast nPosts nThirds nCorners nSums nArrows aBehind aAhead aCells aBefore aAfter gCorners gLowest gFirst gFresh gThere gRow gPlaces gOver gVia' gQueue' bTold bStraight bLeast bPostsOf bSets bTotals ∧ Q z gVia' gQueue'
set_option maxRecDepth 4000 in
theorem w_G_seeFromThird_21 {p : Program} {l : Launch} {e : Env} {s : State} {m : MethodId} {args : Array Value} {below : List Frame} {meth : Method} {c : Code} {D : va_G} {cA : ClassId} {A : Nat → Prop} {a : Nat → Nat} {xStraight xLeast nPosts nThirds : Int} {nCorners nSums nArrows : Nat → Int} {aBehind aAhead : Int} {aCells aBefore aAfter : Nat → Int} {gCorners gLowest gFirst gFresh gThere : Int} {gRow gPlaces gOver : Nat → Int} {bTold bStraight bLeast : Int} {bPostsOf bSets bTotals : Nat → Int} (C : XC p s m args meth c cX2_seeFromThird 7 RX2 (some .int) D cA A) {Q : Int → (Nat → Int) → (Nat → Int) → Prop} {x4 : Int}  : ∀ (n : Nat) (x3 : Int) (x5 : Int) (gVia : Nat → Int) (gQueue : Nat → Int), wp_G_seeFromThird_21 Q gPlaces x4 n x3 x5 gVia gQueue → ∀ (H : Heap) (locs : List Loc) (ls : Array Slot), XH D A s (wX cA a xStraight xLeast nPosts nThirds nCorners nSums nArrows aBehind aAhead aCells aBefore aAfter gCorners gLowest gFirst gFresh gThere gRow gPlaces gOver gVia gQueue bTold bStraight bLeast bPostsOf bSets bTotals) H locs → lv_has ls 7 [(0, .ref (a 9)), (3, .int (J x3)), (4, .int (J x4)), (5, .int (J x5))] → W p l e rm_G_seeFromThird s m args below meth c H locs 0 0 (MQ below (va_Qi (po_G_seeFromThird cA a xStraight xLeast nPosts nThirds nCorners nSums nArrows aBehind aAhead aCells aBefore aAfter gCorners gLowest gFirst gFresh gThere gRow gPlaces gOver bTold bStraight bLeast bPostsOf bSets bTotals Q) (xB D cA A) A) args s 0 0 A) (F0 m 21 ls []) := by
  intro n
  induction n with
  | zero => intro x3 x5 gVia gQueue h; exact (show False from h).elim
  | succ n hK21 =>
    intro x3 x5 gVia gQueue h H locs ls hH hl
    have h : wp_G_seeFromThird_21_b  (wp_G_seeFromThird_21 Q gPlaces x4 n) Q gPlaces x4 x3 x5 gVia gQueue := h
    unfold wp_G_seeFromThird_21_b at h
    refine j_iload C dX2_seeFromThird_21 (lv_at hl 3 rfl) ?_
    refine j_iload C dX2_seeFromThird_23 (lv_at hl 2 rfl) ?_
    refine j_iconst C dX2_seeFromThird_25 ?_
    refine j_iadd C dX2_seeFromThird_26 ?_
    obtain ⟨g_1, h⟩ := h
    obtain ⟨g_2, h⟩ := h
    refine j_icmp_ge C 76 g_1 g_2 dX2_seeFromThird_27 (by decide) (fun c_3 => ?_) (fun c_3 => ?_)
    · have h := h.1 c_3
      refine j_iload_n C dX2_seeFromThird_76 (lv_at hl 1 rfl) ?_
      exact j_iret C hH ⟨_, _, _, rfl, rfl, h⟩ dX2_seeFromThird_77
    · have h := h.2 c_3
      refine j_aload_n C dX2_seeFromThird_30 (lv_at hl 0 rfl) ?_
      refine xg_X2_places C hH dX2_seeFromThird_31 ?_
      refine j_iload C dX2_seeFromThird_34 (lv_at hl 3 rfl) ?_
      obtain ⟨b_4, h⟩ := h
      refine xa_gPlaces C hH b_4 dX2_seeFromThird_36 ?_
      refine j_istore (lv' := [(6, .int (J (gPlaces x5.toNat))), (0, .ref (a 9)), (3, .int (J x3)), (4, .int (J x4)), (5, .int (J x5))]) C dX2_seeFromThird_37 hl (by decide) rfl (fun ls hl => ?_)
      refine j_aload_n C dX2_seeFromThird_39 (lv_at hl 1 rfl) ?_
      refine xg_X2_via C hH dX2_seeFromThird_40 ?_
      refine j_iload C dX2_seeFromThird_43 (lv_at hl 0 rfl) ?_
      obtain ⟨b_5, h⟩ := h
      refine xa_gVia C hH b_5 dX2_seeFromThird_45 ?_
      refine j_iconst C dX2_seeFromThird_46 ?_
      obtain ⟨g_6, h⟩ := h
      refine j_icmp_ne C 70 g_6 (by unfold jR; decide) dX2_seeFromThird_47 (by decide) (fun c_7 => ?_) (fun c_7 => ?_)
      · have h := h.2 c_7
        refine j_iinc (k := 4) (v := x5 + 1) (lv' := [(5, .int (J (x5 + 1))), (6, .int (J (gPlaces x5.toNat))), (0, .ref (a 9)), (3, .int (J x3)), (4, .int (J x4))]) C dX2_seeFromThird_70 hl rfl rfl (by decide) rfl (fun ls hl => ?_)
        refine j_goto C 21 dX2_seeFromThird_73 (by decide) ?_
        exact hK21 x3 (x5 + 1) gVia gQueue h _ _ _ hH (lv_sub hl [2, 3, 4, 0] rfl)
      · have h := h.1 c_7
        refine j_aload_n C dX2_seeFromThird_50 (lv_at hl 1 rfl) ?_
        refine xg_X2_via C hH dX2_seeFromThird_51 ?_
        refine j_iload C dX2_seeFromThird_54 (lv_at hl 0 rfl) ?_
        refine j_iload C dX2_seeFromThird_56 (lv_at hl 4 rfl) ?_
        refine xs_gVia C hH b_5 dX2_seeFromThird_58 (fun gVia_8 e_gVia_8 H locs hH => ?_)
        have h := h gVia_8 e_gVia_8
        refine j_aload_n C dX2_seeFromThird_59 (lv_at hl 1 rfl) ?_
        refine xg_X2_queue C hH dX2_seeFromThird_60 ?_
        refine j_iload_n C dX2_seeFromThird_63 (lv_at hl 2 rfl) ?_
        refine j_iload C dX2_seeFromThird_64 (lv_at hl 0 rfl) ?_
        obtain ⟨b_9, h⟩ := h
        refine xs_gQueue C hH b_9 dX2_seeFromThird_66 (fun gQueue_10 e_gQueue_10 H locs hH => ?_)
        have h := h gQueue_10 e_gQueue_10
        refine j_iinc (k := 2) (v := x3 + 1) (lv' := [(3, .int (J (x3 + 1))), (6, .int (J (gPlaces x5.toNat))), (0, .ref (a 9)), (4, .int (J x4)), (5, .int (J x5))]) C dX2_seeFromThird_67 hl rfl rfl (by decide) rfl (fun ls hl => ?_)
        refine j_iinc (k := 4) (v := x5 + 1) (lv' := [(5, .int (J (x5 + 1))), (3, .int (J (x3 + 1))), (6, .int (J (gPlaces x5.toNat))), (0, .ref (a 9)), (4, .int (J x4))]) C dX2_seeFromThird_70 hl rfl rfl (by decide) rfl (fun ls hl => ?_)
        refine j_goto C 21 dX2_seeFromThird_73 (by decide) ?_
        exact hK21 (x3 + 1) (x5 + 1) gVia_8 gQueue_10 h _ _ _ hH (lv_sub hl [3, 1, 4, 0] rfl)
set_option maxRecDepth 4000 in
theorem c_G_seeFromThird {l : Launch} {D : va_G} {cA : ClassId} {a : Nat → Nat} {sz : Nat} {xStraight xLeast nPosts nThirds : Int} {nCorners nSums nArrows : Nat → Int} {aBehind aAhead : Int} {aCells aBefore aAfter : Nat → Int} {gCorners gLowest gFirst gFresh gThere : Int} {gRow gPlaces gOver gVia gQueue : Nat → Int} {bTold bStraight bLeast : Int} {bPostsOf bSets bTotals : Nat → Int} {x1 x2 : Int} {Q : Int → (Nat → Int) → (Nat → Int) → Prop} (h : wp_G_seeFromThird x1 x2 gFirst gPlaces gVia gQueue Q) : Met l yX2_seeFromThird (.code yX2_seeFromThird cX2_seeFromThird 7 (some .int) :: lw_ok) rm_G_seeFromThird (xPre D cA sz [.ref (a 9), .int (J x1), .int (J x2)] (wX cA a xStraight xLeast nPosts nThirds nCorners nSums nArrows aBehind aAhead aCells aBefore aAfter gCorners gLowest gFirst gFresh gThere gRow gPlaces gOver gVia gQueue bTold bStraight bLeast bPostsOf bSets bTotals)) (va_Qi (po_G_seeFromThird cA a xStraight xLeast nPosts nThirds nCorners nSums nArrows aBehind aAhead aCells aBefore aAfter gCorners gLowest gFirst gFresh gThere gRow gPlaces gOver bTold bStraight bLeast bPostsOf bSets bTotals Q) (xB D cA (va_A (wX cA a xStraight xLeast nPosts nThirds nCorners nSums nArrows aBehind aAhead aCells aBefore aAfter gCorners gLowest gFirst gFresh gThere gRow gPlaces gOver gVia gQueue bTold bStraight bLeast bPostsOf bSets bTotals) sz)) (va_A (wX cA a xStraight xLeast nPosts nThirds nCorners nSums nArrows aBehind aAhead aCells aBefore aAfter gCorners gLowest gFirst gFresh gThere gRow gPlaces gOver gVia gQueue bTold bStraight bLeast bPostsOf bSets bTotals) sz)) 0 0 (va_A (wX cA a xStraight xLeast nPosts nThirds nCorners nSums nArrows aBehind aAhead aCells aBefore aAfter gCorners gLowest gFirst gFresh gThere gRow gPlaces gOver gVia gQueue bTold bStraight bLeast bPostsOf bSets bTotals) sz) := by
  refine xmet_i (by decide) (Nat.le_of_ble_eq_true rfl) ?_
  intro p e s m args below meth c A ls C hH hl
  have C : XC p s m args meth c cX2_seeFromThird 7 RX2 (some .int) D cA A := C
  have hl : lv_has ls 7 [(0, .ref (a 9)), (1, .int (J x1)), (2, .int (J x2))] := hl
  unfold wp_G_seeFromThird at h
  refine j_iload_n C dX2_seeFromThird_0 (lv_at hl 2 rfl) ?_
  refine j_istore_n (lv' := [(3, .int (J x2)), (0, .ref (a 9)), (1, .int (J x1)), (2, .int (J x2))]) C dX2_seeFromThird_1 hl (by decide) rfl (fun ls hl => ?_)
  refine j_iconst C dX2_seeFromThird_2 ?_
  refine j_iload_n C dX2_seeFromThird_3 (lv_at hl 2 rfl) ?_
  refine j_bipush C (by decide +kernel) dX2_seeFromThird_4 ?_
  refine j_isub C dX2_seeFromThird_6 ?_
  refine j_imul C dX2_seeFromThird_7 ?_
  refine j_istore (lv' := [(4, .int (J (3 * (x1 - 10)))), (3, .int (J x2)), (0, .ref (a 9)), (1, .int (J x1)), (2, .int (J x2))]) C dX2_seeFromThird_8 hl (by decide) rfl (fun ls hl => ?_)
  refine j_iload C dX2_seeFromThird_10 (lv_at hl 0 rfl) ?_
  refine j_aload_n C dX2_seeFromThird_12 (lv_at hl 2 rfl) ?_
  refine xg_X2_firstOpen C hH dX2_seeFromThird_13 ?_
  refine j_mmax C hl.1 wl_X2_121 ⟨Nat.le_of_ble_eq_true rfl, Nat.le_of_ble_eq_true rfl⟩ dX2_seeFromThird_16 ?_
  refine j_istore (lv' := [(5, .int (J (jmax (3 * (x1 - 10)) gFirst))), (4, .int (J (3 * (x1 - 10)))), (3, .int (J x2)), (0, .ref (a 9)), (1, .int (J x1)), (2, .int (J x2))]) C dX2_seeFromThird_19 hl (by decide) rfl (fun ls hl => ?_)
  obtain ⟨n_, h⟩ := h
  exact w_G_seeFromThird_21 C  n_ x2 (jmax (3 * (x1 - 10)) gFirst) gVia gQueue h _ _ _ hH (lv_sub hl [3, 2, 1, 0] rfl)
abbrev po_G_reaches (cA : ClassId) (a : Nat → Nat) (xStraight xLeast nPosts nThirds : Int) (nCorners nSums nArrows : Nat → Int) (aBehind aAhead : Int) (aCells aBefore aAfter : Nat → Int) (gCorners gLowest gFirst gFresh gThere : Int) (gRow gPlaces gOver : Nat → Int) (bTold bStraight bLeast : Int) (bPostsOf bSets bTotals : Nat → Int) (Q : Int → (Nat → Int) → (Nat → Int) → Prop) : Int32 → va_W → Prop := fun r w => ∃ z gVia' gQueue', r = J z ∧ w = wX cA a xStraight xLeast nPosts nThirds nCorners nSums nArrows aBehind aAhead aCells aBefore aAfter gCorners gLowest gFirst gFresh gThere gRow gPlaces gOver gVia' gQueue' bTold bStraight bLeast bPostsOf bSets bTotals ∧ Q z gVia' gQueue'
set_option maxRecDepth 4000 in
theorem w_G_reaches_28 {p : Program} {l : Launch} {e : Env} {s : State} {m : MethodId} {args : Array Value} {below : List Frame} {meth : Method} {c : Code} {D : va_G} {cA : ClassId} {A : Nat → Prop} {a : Nat → Nat} {xStraight xLeast nPosts nThirds : Int} {nCorners nSums nArrows : Nat → Int} {aBehind aAhead : Int} {aCells aBefore aAfter : Nat → Int} {gCorners gLowest gFirst gFresh gThere : Int} {gRow gPlaces gOver : Nat → Int} {bTold bStraight bLeast : Int} {bPostsOf bSets bTotals : Nat → Int} (C : XC p s m args meth c cX2_reaches 6 RX2 (some .boolean) D cA A) {Q : Int → (Nat → Int) → (Nat → Int) → Prop} {x2 : Int}  : ∀ (n : Nat) (x3 : Int) (x4 : Int) (gVia : Nat → Int) (gQueue : Nat → Int), wp_G_reaches_28 Q gCorners gLowest gFirst gRow gPlaces x2 n x3 x4 gVia gQueue → ∀ (H : Heap) (locs : List Loc) (ls : Array Slot), XH D A s (wX cA a xStraight xLeast nPosts nThirds nCorners nSums nArrows aBehind aAhead aCells aBefore aAfter gCorners gLowest gFirst gFresh gThere gRow gPlaces gOver gVia gQueue bTold bStraight bLeast bPostsOf bSets bTotals) H locs → lv_has ls 6 [(0, .ref (a 9)), (2, .int (J x2)), (3, .int (J x3)), (4, .int (J x4))] → W p l e rm_G_reaches s m args below meth c H locs 0 0 (MQ below (va_Qi (po_G_reaches cA a xStraight xLeast nPosts nThirds nCorners nSums nArrows aBehind aAhead aCells aBefore aAfter gCorners gLowest gFirst gFresh gThere gRow gPlaces gOver bTold bStraight bLeast bPostsOf bSets bTotals Q) (xB D cA A) A) args s 0 0 A) (F0 m 28 ls []) := by
  intro n
  induction n with
  | zero => intro x3 x4 gVia gQueue h; exact (show False from h).elim
  | succ n hK28 =>
    intro x3 x4 gVia gQueue h H locs ls hH hl
    have h : wp_G_reaches_28_b  (wp_G_reaches_28 Q gCorners gLowest gFirst gRow gPlaces x2 n) Q gCorners gLowest gFirst gRow gPlaces x2 x3 x4 gVia gQueue := h
    unfold wp_G_reaches_28_b at h
    refine j_iload C dX2_reaches_28 (lv_at hl 3 rfl) ?_
    refine j_bipush C (by decide +kernel) dX2_reaches_30 ?_
    obtain ⟨g_1, h⟩ := h
    refine j_icmp_ge C 91 g_1 (by unfold jR; decide) dX2_reaches_32 (by decide) (fun c_2 => ?_) (fun c_2 => ?_)
    · have h := h.1 c_2
      refine j_aload_n C dX2_reaches_91 (lv_at hl 0 rfl) ?_
      refine xg_X2_via C hH dX2_reaches_92 ?_
      refine j_iload_n C dX2_reaches_95 (lv_at hl 1 rfl) ?_
      obtain ⟨b_3, h⟩ := h
      refine xa_gVia C hH b_3 dX2_reaches_96 ?_
      refine j_iconst C dX2_reaches_97 ?_
      obtain ⟨g_4, h⟩ := h
      refine j_icmp_eq C 105 g_4 (by unfold jR; decide) dX2_reaches_98 (by decide) (fun c_5 => ?_) (fun c_5 => ?_)
      · have h := h.1 c_5
        refine j_iconst C dX2_reaches_105 ?_
        exact j_zret C hH (Or.inl rfl) ⟨_, _, _, rfl, rfl, h⟩ dX2_reaches_106
      · have h := h.2 c_5
        refine j_iconst C dX2_reaches_101 ?_
        refine j_goto C 106 dX2_reaches_102 (by decide) ?_
        exact j_zret C hH (Or.inr rfl) ⟨_, _, _, rfl, rfl, h⟩ dX2_reaches_106
    · have h := h.2 c_2
      refine j_iload C dX2_reaches_35 (lv_at hl 3 rfl) ?_
      refine j_iload_n C dX2_reaches_37 (lv_at hl 2 rfl) ?_
      obtain ⟨g_6, h⟩ := h
      refine j_icmp_ge C 91 g_1 g_6 dX2_reaches_38 (by decide) (fun c_7 => ?_) (fun c_7 => ?_)
      · have h := h.1 c_7
        refine j_aload_n C dX2_reaches_91 (lv_at hl 0 rfl) ?_
        refine xg_X2_via C hH dX2_reaches_92 ?_
        refine j_iload_n C dX2_reaches_95 (lv_at hl 1 rfl) ?_
        obtain ⟨b_8, h⟩ := h
        refine xa_gVia C hH b_8 dX2_reaches_96 ?_
        refine j_iconst C dX2_reaches_97 ?_
        obtain ⟨g_9, h⟩ := h
        refine j_icmp_eq C 105 g_9 (by unfold jR; decide) dX2_reaches_98 (by decide) (fun c_10 => ?_) (fun c_10 => ?_)
        · have h := h.1 c_10
          refine j_iconst C dX2_reaches_105 ?_
          exact j_zret C hH (Or.inl rfl) ⟨_, _, _, rfl, rfl, h⟩ dX2_reaches_106
        · have h := h.2 c_10
          refine j_iconst C dX2_reaches_101 ?_
          refine j_goto C 106 dX2_reaches_102 (by decide) ?_
          exact j_zret C hH (Or.inr rfl) ⟨_, _, _, rfl, rfl, h⟩ dX2_reaches_106
      · have h := h.2 c_7
        refine j_aload_n C dX2_reaches_41 (lv_at hl 0 rfl) ?_
        refine xg_X2_via C hH dX2_reaches_42 ?_
        refine j_iload_n C dX2_reaches_45 (lv_at hl 1 rfl) ?_
        obtain ⟨b_11, h⟩ := h
        refine xa_gVia C hH b_11 dX2_reaches_46 ?_
        refine j_iconst C dX2_reaches_47 ?_
        obtain ⟨g_12, h⟩ := h
        refine j_icmp_ne C 91 g_12 (by unfold jR; decide) dX2_reaches_48 (by decide) (fun c_13 => ?_) (fun c_13 => ?_)
        · have h := h.2 c_13
          refine j_aload_n C dX2_reaches_91 (lv_at hl 0 rfl) ?_
          refine xg_X2_via C hH dX2_reaches_92 ?_
          refine j_iload_n C dX2_reaches_95 (lv_at hl 1 rfl) ?_
          refine xa_gVia C hH b_11 dX2_reaches_96 ?_
          refine j_iconst C dX2_reaches_97 ?_
          refine j_icmp_eq C 105 g_12 (by unfold jR; decide) dX2_reaches_98 (by decide) (fun c_14 => ?_) (fun c_14 => ?_)
          · have h := h.1 c_14
            refine j_iconst C dX2_reaches_105 ?_
            exact j_zret C hH (Or.inl rfl) ⟨_, _, _, rfl, rfl, h⟩ dX2_reaches_106
          · have h := h.2 c_14
            refine j_iconst C dX2_reaches_101 ?_
            refine j_goto C 106 dX2_reaches_102 (by decide) ?_
            exact j_zret C hH (Or.inr rfl) ⟨_, _, _, rfl, rfl, h⟩ dX2_reaches_106
        · have h := h.1 c_13
          refine j_aload_n C dX2_reaches_51 (lv_at hl 0 rfl) ?_
          refine xg_X2_queue C hH dX2_reaches_52 ?_
          refine j_iload C dX2_reaches_55 (lv_at hl 3 rfl) ?_
          obtain ⟨b_15, h⟩ := h
          refine xa_gQueue C hH b_15 dX2_reaches_57 ?_
          refine j_istore (lv' := [(5, .int (J (gQueue x4.toNat))), (0, .ref (a 9)), (2, .int (J x2)), (3, .int (J x3)), (4, .int (J x4))]) C dX2_reaches_58 hl (by decide) rfl (fun ls hl => ?_)
          refine j_iload C dX2_reaches_60 (lv_at hl 0 rfl) ?_
          refine j_bipush C (by decide +kernel) dX2_reaches_62 ?_
          obtain ⟨g_16, h⟩ := h
          refine j_icmp_lt C 77 g_16 (by unfold jR; decide) dX2_reaches_64 (by decide) (fun c_17 => ?_) (fun c_17 => ?_)
          · have h := h.1 c_17
            refine j_aload_n C dX2_reaches_77 (lv_at hl 1 rfl) ?_
            refine j_iload C dX2_reaches_78 (lv_at hl 0 rfl) ?_
            refine j_iload_n C dX2_reaches_80 (lv_at hl 3 rfl) ?_
            refine xcallV_i (As := [.int (J (gQueue x4.toNat)), .int (J x3)]) (rest := []) (q0 := 9) C hH (fun sz => c_G_seeFromPost h) xl_X2_118 rfl rfl ⟨rfl, rfl⟩ ⟨Nat.le_of_ble_eq_true rfl, Nat.le_of_ble_eq_true rfl⟩ hl.1 rfl rfl (Nat.le_of_ble_eq_true rfl) dX2_reaches_81 (fun r_ w_ H locs hw hH => ?_)
            obtain ⟨z_18, gVia_19, gQueue_20, rfl, rfl, h⟩ := hw
            refine j_istore_n (lv' := [(3, .int (J z_18)), (5, .int (J (gQueue x4.toNat))), (0, .ref (a 9)), (2, .int (J x2)), (4, .int (J x4))]) C dX2_reaches_84 hl (by decide) rfl (fun ls hl => ?_)
            refine j_iinc (k := 4) (v := x4 + 1) (lv' := [(4, .int (J (x4 + 1))), (3, .int (J z_18)), (5, .int (J (gQueue x4.toNat))), (0, .ref (a 9)), (2, .int (J x2))]) C dX2_reaches_85 hl rfl rfl (by decide) rfl (fun ls hl => ?_)
            refine j_goto C 28 dX2_reaches_88 (by decide) ?_
            exact hK28 z_18 (x4 + 1) gVia_19 gQueue_20 h _ _ _ hH (lv_sub hl [3, 4, 1, 0] rfl)
          · have h := h.2 c_17
            refine j_aload_n C dX2_reaches_67 (lv_at hl 1 rfl) ?_
            refine j_iload C dX2_reaches_68 (lv_at hl 0 rfl) ?_
            refine j_iload_n C dX2_reaches_70 (lv_at hl 3 rfl) ?_
            refine xcallV_i (As := [.int (J (gQueue x4.toNat)), .int (J x3)]) (rest := []) (q0 := 9) C hH (fun sz => c_G_seeFromThird h) xl_X2_115 rfl rfl ⟨rfl, rfl⟩ ⟨Nat.le_of_ble_eq_true rfl, Nat.le_of_ble_eq_true rfl⟩ hl.1 rfl rfl (Nat.le_of_ble_eq_true rfl) dX2_reaches_71 (fun r_ w_ H locs hw hH => ?_)
            obtain ⟨z_21, gVia_22, gQueue_23, rfl, rfl, h⟩ := hw
            refine j_goto C 84 dX2_reaches_74 (by decide) ?_
            refine j_istore_n (lv' := [(3, .int (J z_21)), (5, .int (J (gQueue x4.toNat))), (0, .ref (a 9)), (2, .int (J x2)), (4, .int (J x4))]) C dX2_reaches_84 hl (by decide) rfl (fun ls hl => ?_)
            refine j_iinc (k := 4) (v := x4 + 1) (lv' := [(4, .int (J (x4 + 1))), (3, .int (J z_21)), (5, .int (J (gQueue x4.toNat))), (0, .ref (a 9)), (2, .int (J x2))]) C dX2_reaches_85 hl rfl rfl (by decide) rfl (fun ls hl => ?_)
            refine j_goto C 28 dX2_reaches_88 (by decide) ?_
            exact hK28 z_21 (x4 + 1) gVia_22 gQueue_23 h _ _ _ hH (lv_sub hl [3, 4, 1, 0] rfl)
set_option maxRecDepth 4000 in
theorem c_G_reaches {l : Launch} {D : va_G} {cA : ClassId} {a : Nat → Nat} {sz : Nat} {xStraight xLeast nPosts nThirds : Int} {nCorners nSums nArrows : Nat → Int} {aBehind aAhead : Int} {aCells aBefore aAfter : Nat → Int} {gCorners gLowest gFirst gFresh gThere : Int} {gRow gPlaces gOver gVia gQueue : Nat → Int} {bTold bStraight bLeast : Int} {bPostsOf bSets bTotals : Nat → Int} {x1 x2 : Int} {Q : Int → (Nat → Int) → (Nat → Int) → Prop} (h : wp_G_reaches x1 x2 gCorners gLowest gFirst gRow gPlaces gVia gQueue Q) : Met l yX2_reaches (.code yX2_reaches cX2_reaches 6 (some .boolean) :: lw_ok) rm_G_reaches (xPre D cA sz [.ref (a 9), .int (J x1), .int (J x2)] (wX cA a xStraight xLeast nPosts nThirds nCorners nSums nArrows aBehind aAhead aCells aBefore aAfter gCorners gLowest gFirst gFresh gThere gRow gPlaces gOver gVia gQueue bTold bStraight bLeast bPostsOf bSets bTotals)) (va_Qi (po_G_reaches cA a xStraight xLeast nPosts nThirds nCorners nSums nArrows aBehind aAhead aCells aBefore aAfter gCorners gLowest gFirst gFresh gThere gRow gPlaces gOver bTold bStraight bLeast bPostsOf bSets bTotals Q) (xB D cA (va_A (wX cA a xStraight xLeast nPosts nThirds nCorners nSums nArrows aBehind aAhead aCells aBefore aAfter gCorners gLowest gFirst gFresh gThere gRow gPlaces gOver gVia gQueue bTold bStraight bLeast bPostsOf bSets bTotals) sz)) (va_A (wX cA a xStraight xLeast nPosts nThirds nCorners nSums nArrows aBehind aAhead aCells aBefore aAfter gCorners gLowest gFirst gFresh gThere gRow gPlaces gOver gVia gQueue bTold bStraight bLeast bPostsOf bSets bTotals) sz)) 0 0 (va_A (wX cA a xStraight xLeast nPosts nThirds nCorners nSums nArrows aBehind aAhead aCells aBefore aAfter gCorners gLowest gFirst gFresh gThere gRow gPlaces gOver gVia gQueue bTold bStraight bLeast bPostsOf bSets bTotals) sz) := by
  refine xmet_i (by decide) (Nat.le_of_ble_eq_true rfl) ?_
  intro p e s m args below meth c A ls C hH hl
  have C : XC p s m args meth c cX2_reaches 6 RX2 (some .boolean) D cA A := C
  have hl : lv_has ls 6 [(0, .ref (a 9)), (1, .int (J x1)), (2, .int (J x2))] := hl
  unfold wp_G_reaches at h
  refine j_aload_n C dX2_reaches_0 (lv_at hl 0 rfl) ?_
  refine xg_X2_via C hH dX2_reaches_1 ?_
  refine j_iconst C dX2_reaches_4 ?_
  refine xcallS_v (As := [.ref (a 13), .int (J (-1))]) (rest := []) C hH (fun sz => c_I_fill 13 rfl (by decide)) xl_X2_80 ⟨rfl, rfl⟩ ⟨Nat.le_of_ble_eq_true rfl, Nat.le_of_ble_eq_true rfl⟩ hl.1 rfl rfl (Nat.le_of_ble_eq_true rfl) dX2_reaches_5 (fun w_ H locs hw hH => ?_)
  obtain ⟨gVia_24, e_gVia_24⟩ : ∃ f, f = fillf gVia 22 (-1) := ⟨_, rfl⟩
  have h := h gVia_24 e_gVia_24
  subst hw
  rw [← e_gVia_24] at hH
  have hH : XH D A s (wX cA a xStraight xLeast nPosts nThirds nCorners nSums nArrows aBehind aAhead aCells aBefore aAfter gCorners gLowest gFirst gFresh gThere gRow gPlaces gOver gVia_24 gQueue bTold bStraight bLeast bPostsOf bSets bTotals) H locs := hH
  refine j_aload_n C dX2_reaches_8 (lv_at hl 0 rfl) ?_
  refine xg_X2_via C hH dX2_reaches_9 ?_
  refine j_iload_n C dX2_reaches_12 (lv_at hl 1 rfl) ?_
  refine j_bipush C (by decide +kernel) dX2_reaches_13 ?_
  obtain ⟨b_25, h⟩ := h
  refine xs_gVia C hH b_25 dX2_reaches_15 (fun gVia_26 e_gVia_26 H locs hH => ?_)
  have h := h gVia_26 e_gVia_26
  refine j_aload_n C dX2_reaches_16 (lv_at hl 0 rfl) ?_
  refine xg_X2_queue C hH dX2_reaches_17 ?_
  refine j_iconst C dX2_reaches_20 ?_
  refine j_iload_n C dX2_reaches_21 (lv_at hl 1 rfl) ?_
  refine xs_gQueue C hH ⟨by decide, by decide⟩ dX2_reaches_22 (fun gQueue_27 e_gQueue_27 H locs hH => ?_)
  have h := h gQueue_27 e_gQueue_27
  refine j_iconst C dX2_reaches_23 ?_
  refine j_istore_n (lv' := [(3, .int (J 1)), (0, .ref (a 9)), (1, .int (J x1)), (2, .int (J x2))]) C dX2_reaches_24 hl (by decide) rfl (fun ls hl => ?_)
  refine j_iconst C dX2_reaches_25 ?_
  refine j_istore (lv' := [(4, .int (J 0)), (3, .int (J 1)), (0, .ref (a 9)), (1, .int (J x1)), (2, .int (J x2))]) C dX2_reaches_26 hl (by decide) rfl (fun ls hl => ?_)
  obtain ⟨n_, h⟩ := h
  exact w_G_reaches_28 C  n_ 1 0 gVia_26 gQueue_27 h _ _ _ hH (lv_sub hl [2, 4, 1, 0] rfl)

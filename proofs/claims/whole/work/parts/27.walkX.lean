abbrev po_X_redo (cA : ClassId) (a : Nat → Nat) (xStraight xLeast nPosts : Int) (aCells aBefore aAfter : Nat → Int) (gCorners gLowest gFirst gThere : Int) (gRow gPlaces gOver gVia gQueue : Nat → Int) (bTold bStraight bLeast : Int) (bPostsOf bSets bTotals : Nat → Int) (Q : Int → Int → (Nat → Int) → (Nat → Int) → (Nat → Int) → Int → Int → Int → Prop) : Int32 → va_W → Prop := fun r w => ∃ z nThirds' nCorners' nSums' nArrows' aBehind' aAhead' gFresh', r = J z ∧ w = wX cA a xStraight xLeast nPosts nThirds' nCorners' nSums' nArrows' aBehind' aAhead' aCells aBefore aAfter gCorners gLowest gFirst gFresh' gThere gRow gPlaces gOver gVia gQueue bTold bStraight bLeast bPostsOf bSets bTotals ∧ Q z nThirds' nCorners' nSums' nArrows' aBehind' aAhead' gFresh'
set_option maxRecDepth 4000 in
theorem c_X_redo {l : Launch} {D : va_G} {cA : ClassId} {a : Nat → Nat} {sz : Nat} {xStraight xLeast nPosts nThirds : Int} {nCorners nSums nArrows : Nat → Int} {aBehind aAhead : Int} {aCells aBefore aAfter : Nat → Int} {gCorners gLowest gFirst gFresh gThere : Int} {gRow gPlaces gOver gVia gQueue : Nat → Int} {bTold bStraight bLeast : Int} {bPostsOf bSets bTotals : Nat → Int} {Q : Int → Int → (Nat → Int) → (Nat → Int) → (Nat → Int) → Int → Int → Int → Prop} (h : wp_X_redo  nThirds nCorners nSums nArrows aBehind aAhead aCells aAfter gFresh Q) : Met l yX4_redo (.code yX4_redo cX4_redo 1 (some .int) :: lw_ok) rm_X_redo (xPre D cA sz [.ref (a 0)] (wX cA a xStraight xLeast nPosts nThirds nCorners nSums nArrows aBehind aAhead aCells aBefore aAfter gCorners gLowest gFirst gFresh gThere gRow gPlaces gOver gVia gQueue bTold bStraight bLeast bPostsOf bSets bTotals)) (va_Qi (po_X_redo cA a xStraight xLeast nPosts aCells aBefore aAfter gCorners gLowest gFirst gThere gRow gPlaces gOver gVia gQueue bTold bStraight bLeast bPostsOf bSets bTotals Q) (xB D cA (va_A (wX cA a xStraight xLeast nPosts nThirds nCorners nSums nArrows aBehind aAhead aCells aBefore aAfter gCorners gLowest gFirst gFresh gThere gRow gPlaces gOver gVia gQueue bTold bStraight bLeast bPostsOf bSets bTotals) sz)) (va_A (wX cA a xStraight xLeast nPosts nThirds nCorners nSums nArrows aBehind aAhead aCells aBefore aAfter gCorners gLowest gFirst gFresh gThere gRow gPlaces gOver gVia gQueue bTold bStraight bLeast bPostsOf bSets bTotals) sz)) 0 0 (va_A (wX cA a xStraight xLeast nPosts nThirds nCorners nSums nArrows aBehind aAhead aCells aBefore aAfter gCorners gLowest gFirst gFresh gThere gRow gPlaces gOver gVia gQueue bTold bStraight bLeast bPostsOf bSets bTotals) sz) := by
  refine xmet_i (by decide) (Nat.le_of_ble_eq_true rfl) ?_
  intro p e s m args below meth c A ls C hH hl
  have C : XC p s m args meth c cX4_redo 1 RX4 (some .int) D cA A := C
  have hl : lv_has ls 1 [(0, .ref (a 0))] := hl
  unfold wp_X_redo at h
  refine j_aload_n C dX4_redo_0 (lv_at hl 0 rfl) ?_
  refine xg_X4_acts C hH dX4_redo_1 ?_
  refine xcallV_i (As := []) (rest := []) (q0 := 5) C hH (fun sz => c_A_ahead h) xl_X4_170 rfl rfl ⟨rfl, rfl⟩ ⟨Nat.le_of_ble_eq_true rfl, Nat.le_of_ble_eq_true rfl⟩ hl.1 rfl rfl (Nat.le_of_ble_eq_true rfl) dX4_redo_4 (fun r_ w_ H locs hw hH => ?_)
  obtain ⟨z_1, rfl, rfl, h⟩ := hw
  obtain ⟨g_2, h⟩ := h
  refine j_if_ne C 13 g_2 dX4_redo_7 (by decide) (fun c_3 => ?_) (fun c_3 => ?_)
  · have h := h.2 c_3
    refine j_aload_n C dX4_redo_13 (lv_at hl 0 rfl) ?_
    refine xcallV_v (As := []) (rest := []) (q0 := 0) C hH (fun sz => c_X_goForward h) xl_X4_81 rfl rfl ⟨rfl, rfl⟩ ⟨Nat.le_of_ble_eq_true rfl, Nat.le_of_ble_eq_true rfl⟩ hl.1 rfl rfl (Nat.le_of_ble_eq_true rfl) dX4_redo_14 (fun w_ H locs hw hH => ?_)
    obtain ⟨nThirds_4, nCorners_5, nSums_6, nArrows_7, aBehind_8, aAhead_9, gFresh_10, rfl, h⟩ := hw
    refine j_aload_n C dX4_redo_17 (lv_at hl 0 rfl) ?_
    refine xg_X4_acts C hH dX4_redo_18 ?_
    refine xcallV_i (As := []) (rest := []) (q0 := 5) C hH (fun sz => c_A_ahead h) xl_X4_170 rfl rfl ⟨rfl, rfl⟩ ⟨Nat.le_of_ble_eq_true rfl, Nat.le_of_ble_eq_true rfl⟩ hl.1 rfl rfl (Nat.le_of_ble_eq_true rfl) dX4_redo_21 (fun r_ w_ H locs hw hH => ?_)
    obtain ⟨z_11, rfl, rfl, h⟩ := hw
    exact j_iret C hH ⟨_, _, _, _, _, _, _, _, rfl, rfl, h⟩ dX4_redo_24
  · have h := h.1 c_3
    refine j_bipush C (by decide +kernel) dX4_redo_10 ?_
    exact j_iret C hH ⟨_, _, _, _, _, _, _, _, rfl, rfl, h⟩ dX4_redo_12
abbrev po_M_in (ws : va_W) (Q : Int → Prop) : Int32 → va_W → Prop := fun r w => ∃ z, r = J z ∧ w = ws ∧ Q z
set_option maxRecDepth 4000 in
theorem c_M_in {l : Launch} {D : va_G} {cA : ClassId} {sz : Nat} {ws : va_W} {x0 x1 x2 : Int} {Q : Int → Prop} (h : wp_M_in x0 x1 x2  Q) : Met l yX5_in (.code yX5_in cX5_in 3 (some .boolean) :: lw_ok) rm_M_in (xPre D cA sz [.int (J x0), .int (J x1), .int (J x2)] (ws)) (va_Qi (po_M_in ws Q) (xB D cA (va_A (ws) sz)) (va_A (ws) sz)) 0 0 (va_A (ws) sz) := by
  refine xmet_i (by decide) (Nat.le_of_ble_eq_true rfl) ?_
  intro p e s m args below meth c A ls C hH hl
  have C : XC p s m args meth c cX5_in 3 RX5 (some .boolean) D cA A := C
  have hl : lv_has ls 3 [(0, .int (J x0)), (1, .int (J x1)), (2, .int (J x2))] := hl
  unfold wp_M_in at h
  refine j_iload_n C dX5_in_0 (lv_at hl 0 rfl) ?_
  refine j_iload_n C dX5_in_1 (lv_at hl 1 rfl) ?_
  obtain ⟨g_1, h⟩ := h
  obtain ⟨g_2, h⟩ := h
  refine j_icmp_lt C 14 g_1 g_2 dX5_in_2 (by decide) (fun c_3 => ?_) (fun c_3 => ?_)
  · have h := h.1 c_3
    refine j_iconst C dX5_in_14 ?_
    exact j_zret C hH (Or.inl rfl) ⟨_, rfl, rfl, h⟩ dX5_in_15
  · have h := h.2 c_3
    refine j_iload_n C dX5_in_5 (lv_at hl 0 rfl) ?_
    refine j_iload_n C dX5_in_6 (lv_at hl 2 rfl) ?_
    obtain ⟨g_4, h⟩ := h
    refine j_icmp_gt C 14 g_1 g_4 dX5_in_7 (by decide) (fun c_5 => ?_) (fun c_5 => ?_)
    · have h := h.1 c_5
      refine j_iconst C dX5_in_14 ?_
      exact j_zret C hH (Or.inl rfl) ⟨_, rfl, rfl, h⟩ dX5_in_15
    · have h := h.2 c_5
      refine j_iconst C dX5_in_10 ?_
      refine j_goto C 15 dX5_in_11 (by decide) ?_
      exact j_zret C hH (Or.inr rfl) ⟨_, rfl, rfl, h⟩ dX5_in_15
abbrev po_M_bits (ws : va_W) (Q : Int → Prop) : Int32 → va_W → Prop := fun r w => ∃ z, r = J z ∧ w = ws ∧ Q z
set_option maxRecDepth 4000 in
theorem w_M_bits_4 {p : Program} {l : Launch} {e : Env} {s : State} {m : MethodId} {args : Array Value} {below : List Frame} {meth : Method} {c : Code} {D : va_G} {cA : ClassId} {A : Nat → Prop} {ws : va_W} (C : XC p s m args meth c cX5_bits 3 RX5 (some .int) D cA A) {Q : Int → Prop} {x0 : Int}  : ∀ (n : Nat) (x1 : Int) (x2 : Int), wp_M_bits_4 Q x0 n x1 x2 → ∀ (H : Heap) (locs : List Loc) (ls : Array Slot), XH D A s (ws) H locs → lv_has ls 3 [(0, .int (J x0)), (1, .int (J x1)), (2, .int (J x2))] → W p l e rm_M_bits s m args below meth c H locs 0 0 (MQ below (va_Qi (po_M_bits ws Q) (xB D cA A) A) args s 0 0 A) (F0 m 4 ls []) := by
  intro n
  induction n with
  | zero => intro x1 x2 h; exact (show False from h).elim
  | succ n hK4 =>
    intro x1 x2 h H locs ls hH hl
    have h : wp_M_bits_4_b  (wp_M_bits_4 Q x0 n) Q  x0 x1 x2 := h
    unfold wp_M_bits_4_b at h
    refine j_iload_n C dX5_bits_4 (lv_at hl 2 rfl) ?_
    refine j_bipush C (by decide +kernel) dX5_bits_5 ?_
    obtain ⟨g_1, h⟩ := h
    refine j_icmp_ge C 24 g_1 (by unfold jR; decide) dX5_bits_7 (by decide) (fun c_2 => ?_) (fun c_2 => ?_)
    · have h := h.1 c_2
      refine j_iload_n C dX5_bits_24 (lv_at hl 1 rfl) ?_
      exact j_iret C hH ⟨_, rfl, rfl, h⟩ dX5_bits_25
    · have h := h.2 c_2
      refine j_iload_n C dX5_bits_10 (lv_at hl 1 rfl) ?_
      refine j_iload_n C dX5_bits_11 (lv_at hl 0 rfl) ?_
      refine j_iload_n C dX5_bits_12 (lv_at hl 2 rfl) ?_
      refine j_ishr C dX5_bits_13 ?_
      refine j_iconst C dX5_bits_14 ?_
      refine j_iand C dX5_bits_15 ?_
      refine j_iadd C dX5_bits_16 ?_
      refine j_istore_n (lv' := [(1, .int (J (x1 + (jand (jshr x0 x2) 1)))), (0, .int (J x0)), (2, .int (J x2))]) C dX5_bits_17 hl (by decide) rfl (fun ls hl => ?_)
      refine j_iinc (k := 2) (v := x2 + 1) (lv' := [(2, .int (J (x2 + 1))), (1, .int (J (x1 + (jand (jshr x0 x2) 1)))), (0, .int (J x0))]) C dX5_bits_18 hl rfl rfl (by decide) rfl (fun ls hl => ?_)
      refine j_goto C 4 dX5_bits_21 (by decide) ?_
      exact hK4 (x1 + (jand (jshr x0 x2) 1)) (x2 + 1) h _ _ _ hH (lv_sub hl [2, 1, 0] rfl)
set_option maxRecDepth 4000 in
theorem c_M_bits {l : Launch} {D : va_G} {cA : ClassId} {sz : Nat} {ws : va_W} {x0 : Int} {Q : Int → Prop} (h : wp_M_bits x0  Q) : Met l yX5_bits (.code yX5_bits cX5_bits 3 (some .int) :: lw_ok) rm_M_bits (xPre D cA sz [.int (J x0)] (ws)) (va_Qi (po_M_bits ws Q) (xB D cA (va_A (ws) sz)) (va_A (ws) sz)) 0 0 (va_A (ws) sz) := by
  refine xmet_i (by decide) (Nat.le_of_ble_eq_true rfl) ?_
  intro p e s m args below meth c A ls C hH hl
  have C : XC p s m args meth c cX5_bits 3 RX5 (some .int) D cA A := C
  have hl : lv_has ls 3 [(0, .int (J x0))] := hl
  unfold wp_M_bits at h
  refine j_iconst C dX5_bits_0 ?_
  refine j_istore_n (lv' := [(1, .int (J 0)), (0, .int (J x0))]) C dX5_bits_1 hl (by decide) rfl (fun ls hl => ?_)
  refine j_iconst C dX5_bits_2 ?_
  refine j_istore_n (lv' := [(2, .int (J 0)), (1, .int (J 0)), (0, .int (J x0))]) C dX5_bits_3 hl (by decide) rfl (fun ls hl => ?_)
  obtain ⟨n_, h⟩ := h
  exact w_M_bits_4 C  n_ 0 0 h _ _ _ hH (lv_sub hl [2, 1, 0] rfl)

abbrev po_M_sides (cA : ClassId) (a : Nat → Nat) (mPosts mThirds mStraight mLeast mIsLaid mIsGiven mActs mDone mQueued : Int) (mCorner mSum mBeyond mAct mMark mSpare mLack mBefore mVia mQueue : Nat → Int) (Q : Int → Prop) : Int32 → va_W → Prop := fun r w => ∃ z, r = J z ∧ w = wM cA a mPosts mThirds mStraight mLeast mIsLaid mIsGiven mActs mDone mQueued mCorner mSum mBeyond mAct mMark mSpare mLack mBefore mVia mQueue ∧ Q z
set_option maxRecDepth 4000 in
theorem w_M_sides_15 {p : Program} {l : Launch} {e : Env} {s : State} {m : MethodId} {args : Array Value} {below : List Frame} {meth : Method} {c : Code} {D : va_G} {cA : ClassId} {A : Nat → Prop} {a : Nat → Nat} {mPosts mThirds mStraight mLeast mIsLaid mIsGiven mActs mDone mQueued : Int} {mCorner mSum mBeyond mAct mMark mSpare mLack mBefore mVia mQueue : Nat → Int} (C : XC p s m args meth c cX5_sides 5 RX5 (some .int) D cA A) {K4 : Int → Int → Prop} {Q : Int → Prop} {x1 : Int} {x3 : Int}  (hK4 : ∀ (x2 : Int) (x3 : Int), K4 x2 x3 → ∀ (H : Heap) (locs : List Loc) (ls : Array Slot), XH D A s (wM cA a mPosts mThirds mStraight mLeast mIsLaid mIsGiven mActs mDone mQueued mCorner mSum mBeyond mAct mMark mSpare mLack mBefore mVia mQueue) H locs → lv_has ls 5 [(0, .ref (a 0)), (1, .int (J x1)), (2, .int (J x2)), (3, .int (J x3))] → W p l e rm_M_sides s m args below meth c H locs 0 0 (MQ below (va_Qi (po_M_sides cA a mPosts mThirds mStraight mLeast mIsLaid mIsGiven mActs mDone mQueued mCorner mSum mBeyond mAct mMark mSpare mLack mBefore mVia mQueue Q) (xB D cA A) A) args s 0 0 A) (F0 m 4 ls [])) : ∀ (n : Nat) (x2 : Int) (x4 : Int), wp_M_sides_15 K4 Q mPosts mThirds mCorner x1 x3 n x2 x4 → ∀ (H : Heap) (locs : List Loc) (ls : Array Slot), XH D A s (wM cA a mPosts mThirds mStraight mLeast mIsLaid mIsGiven mActs mDone mQueued mCorner mSum mBeyond mAct mMark mSpare mLack mBefore mVia mQueue) H locs → lv_has ls 5 [(0, .ref (a 0)), (1, .int (J x1)), (2, .int (J x2)), (3, .int (J x3)), (4, .int (J x4))] → W p l e rm_M_sides s m args below meth c H locs 0 0 (MQ below (va_Qi (po_M_sides cA a mPosts mThirds mStraight mLeast mIsLaid mIsGiven mActs mDone mQueued mCorner mSum mBeyond mAct mMark mSpare mLack mBefore mVia mQueue Q) (xB D cA A) A) args s 0 0 A) (F0 m 15 ls []) := by
  intro n
  induction n with
  | zero => intro x2 x4 h; exact (show False from h).elim
  | succ n hK15 =>
    intro x2 x4 h H locs ls hH hl
    have h : wp_M_sides_15_b K4 (wp_M_sides_15 K4 Q mPosts mThirds mCorner x1 x3 n) Q mPosts mThirds mCorner x1 x3 x2 x4 := h
    unfold wp_M_sides_15_b at h
    refine j_iload C dX5_sides_15 (lv_at hl 4 rfl) ?_
    refine j_iload_n C dX5_sides_17 (lv_at hl 3 rfl) ?_
    obtain ⟨g_1, h⟩ := h
    obtain ⟨g_2, h⟩ := h
    refine j_icmp_ge C 46 g_1 g_2 dX5_sides_18 (by decide) (fun c_3 => ?_) (fun c_3 => ?_)
    · have h := h.1 c_3
      refine j_iinc (k := 3) (v := x3 + 1) (lv' := [(3, .int (J (x3 + 1))), (0, .ref (a 0)), (1, .int (J x1)), (2, .int (J x2)), (4, .int (J x4))]) C dX5_sides_46 hl rfl rfl (by decide) rfl (fun ls hl => ?_)
      refine j_goto C 4 dX5_sides_49 (by decide) ?_
      exact hK4 x2 (x3 + 1) h _ _ _ hH (lv_sub hl [1, 2, 3, 0] rfl)
    · have h := h.2 c_3
      refine j_iload_n C dX5_sides_21 (lv_at hl 2 rfl) ?_
      refine j_aload_n C dX5_sides_22 (lv_at hl 0 rfl) ?_
      refine j_iload_n C dX5_sides_23 (lv_at hl 3 rfl) ?_
      refine j_iload C dX5_sides_24 (lv_at hl 4 rfl) ?_
      refine xcallV_i (As := [.int (J x3), .int (J x4)]) (rest := [.int (J x2)]) (q0 := 0) C hH (fun sz => c_M_sideOf h) xl_X5_93 rfl rfl ⟨rfl, rfl⟩ ⟨Nat.le_of_ble_eq_true rfl, Nat.le_of_ble_eq_true rfl⟩ hl.1 rfl rfl (Nat.le_of_ble_eq_true rfl) dX5_sides_26 (fun r_ w_ H locs hw hH => ?_)
      obtain ⟨z_4, rfl, rfl, h⟩ := hw
      refine j_iload_n C dX5_sides_29 (lv_at hl 1 rfl) ?_
      obtain ⟨g_5, h⟩ := h
      obtain ⟨g_6, h⟩ := h
      refine j_icmp_lt C 37 g_5 g_6 dX5_sides_30 (by decide) (fun c_7 => ?_) (fun c_7 => ?_)
      · have h := h.1 c_7
        refine j_iconst C dX5_sides_37 ?_
        refine j_iadd C dX5_sides_38 ?_
        refine j_istore_n (lv' := [(2, .int (J (x2 + 0))), (0, .ref (a 0)), (1, .int (J x1)), (3, .int (J x3)), (4, .int (J x4))]) C dX5_sides_39 hl (by decide) rfl (fun ls hl => ?_)
        refine j_iinc (k := 4) (v := x4 + 1) (lv' := [(4, .int (J (x4 + 1))), (2, .int (J (x2 + 0))), (0, .ref (a 0)), (1, .int (J x1)), (3, .int (J x3))]) C dX5_sides_40 hl rfl rfl (by decide) rfl (fun ls hl => ?_)
        refine j_goto C 15 dX5_sides_43 (by decide) ?_
        exact hK15 (x2 + 0) (x4 + 1) h _ _ _ hH (lv_sub hl [2, 3, 1, 4, 0] rfl)
      · have h := h.2 c_7
        refine j_iconst C dX5_sides_33 ?_
        refine j_goto C 38 dX5_sides_34 (by decide) ?_
        refine j_iadd C dX5_sides_38 ?_
        refine j_istore_n (lv' := [(2, .int (J (x2 + 1))), (0, .ref (a 0)), (1, .int (J x1)), (3, .int (J x3)), (4, .int (J x4))]) C dX5_sides_39 hl (by decide) rfl (fun ls hl => ?_)
        refine j_iinc (k := 4) (v := x4 + 1) (lv' := [(4, .int (J (x4 + 1))), (2, .int (J (x2 + 1))), (0, .ref (a 0)), (1, .int (J x1)), (3, .int (J x3))]) C dX5_sides_40 hl rfl rfl (by decide) rfl (fun ls hl => ?_)
        refine j_goto C 15 dX5_sides_43 (by decide) ?_
        exact hK15 (x2 + 1) (x4 + 1) h _ _ _ hH (lv_sub hl [2, 3, 1, 4, 0] rfl)
set_option maxRecDepth 4000 in
theorem w_M_sides_4 {p : Program} {l : Launch} {e : Env} {s : State} {m : MethodId} {args : Array Value} {below : List Frame} {meth : Method} {c : Code} {D : va_G} {cA : ClassId} {A : Nat → Prop} {a : Nat → Nat} {mPosts mThirds mStraight mLeast mIsLaid mIsGiven mActs mDone mQueued : Int} {mCorner mSum mBeyond mAct mMark mSpare mLack mBefore mVia mQueue : Nat → Int} (C : XC p s m args meth c cX5_sides 5 RX5 (some .int) D cA A) {Q : Int → Prop} {x1 : Int}  : ∀ (n : Nat) (x2 : Int) (x3 : Int), wp_M_sides_4 Q mPosts mThirds mCorner x1 n x2 x3 → ∀ (H : Heap) (locs : List Loc) (ls : Array Slot), XH D A s (wM cA a mPosts mThirds mStraight mLeast mIsLaid mIsGiven mActs mDone mQueued mCorner mSum mBeyond mAct mMark mSpare mLack mBefore mVia mQueue) H locs → lv_has ls 5 [(0, .ref (a 0)), (1, .int (J x1)), (2, .int (J x2)), (3, .int (J x3))] → W p l e rm_M_sides s m args below meth c H locs 0 0 (MQ below (va_Qi (po_M_sides cA a mPosts mThirds mStraight mLeast mIsLaid mIsGiven mActs mDone mQueued mCorner mSum mBeyond mAct mMark mSpare mLack mBefore mVia mQueue Q) (xB D cA A) A) args s 0 0 A) (F0 m 4 ls []) := by
  intro n
  induction n with
  | zero => intro x2 x3 h; exact (show False from h).elim
  | succ n hK4 =>
    intro x2 x3 h H locs ls hH hl
    have h : wp_M_sides_4_b  (wp_M_sides_4 Q mPosts mThirds mCorner x1 n) Q mPosts mThirds mCorner x1 x2 x3 := h
    unfold wp_M_sides_4_b at h
    refine j_iload_n C dX5_sides_4 (lv_at hl 3 rfl) ?_
    refine j_aload_n C dX5_sides_5 (lv_at hl 0 rfl) ?_
    refine xg_X5_posts C hH dX5_sides_6 ?_
    obtain ⟨g_8, h⟩ := h
    obtain ⟨g_9, h⟩ := h
    refine j_icmp_ge C 52 g_8 g_9 dX5_sides_9 (by decide) (fun c_10 => ?_) (fun c_10 => ?_)
    · have h := h.1 c_10
      refine j_iload_n C dX5_sides_52 (lv_at hl 2 rfl) ?_
      exact j_iret C hH ⟨_, rfl, rfl, h⟩ dX5_sides_53
    · have h := h.2 c_10
      refine j_iconst C dX5_sides_12 ?_
      refine j_istore (lv' := [(4, .int (J 0)), (0, .ref (a 0)), (1, .int (J x1)), (2, .int (J x2)), (3, .int (J x3))]) C dX5_sides_13 hl (by decide) rfl (fun ls hl => ?_)
      obtain ⟨n_, h⟩ := h
      exact w_M_sides_15 C hK4 n_ x2 0 h _ _ _ hH (lv_sub hl [1, 2, 3, 4, 0] rfl)
set_option maxRecDepth 4000 in
theorem c_M_sides {l : Launch} {D : va_G} {cA : ClassId} {a : Nat → Nat} {sz : Nat} {mPosts mThirds mStraight mLeast mIsLaid mIsGiven mActs mDone mQueued : Int} {mCorner mSum mBeyond mAct mMark mSpare mLack mBefore mVia mQueue : Nat → Int} {x1 : Int} {Q : Int → Prop} (h : wp_M_sides x1 mPosts mThirds mCorner Q) : Met l yX5_sides (.code yX5_sides cX5_sides 5 (some .int) :: lw_ok) rm_M_sides (xPre D cA sz [.ref (a 0), .int (J x1)] (wM cA a mPosts mThirds mStraight mLeast mIsLaid mIsGiven mActs mDone mQueued mCorner mSum mBeyond mAct mMark mSpare mLack mBefore mVia mQueue)) (va_Qi (po_M_sides cA a mPosts mThirds mStraight mLeast mIsLaid mIsGiven mActs mDone mQueued mCorner mSum mBeyond mAct mMark mSpare mLack mBefore mVia mQueue Q) (xB D cA (va_A (wM cA a mPosts mThirds mStraight mLeast mIsLaid mIsGiven mActs mDone mQueued mCorner mSum mBeyond mAct mMark mSpare mLack mBefore mVia mQueue) sz)) (va_A (wM cA a mPosts mThirds mStraight mLeast mIsLaid mIsGiven mActs mDone mQueued mCorner mSum mBeyond mAct mMark mSpare mLack mBefore mVia mQueue) sz)) 0 0 (va_A (wM cA a mPosts mThirds mStraight mLeast mIsLaid mIsGiven mActs mDone mQueued mCorner mSum mBeyond mAct mMark mSpare mLack mBefore mVia mQueue) sz) := by
  refine xmet_i (by decide) (Nat.le_of_ble_eq_true rfl) ?_
  intro p e s m args below meth c A ls C hH hl
  have C : XC p s m args meth c cX5_sides 5 RX5 (some .int) D cA A := C
  have hl : lv_has ls 5 [(0, .ref (a 0)), (1, .int (J x1))] := hl
  unfold wp_M_sides at h
  refine j_iconst C dX5_sides_0 ?_
  refine j_istore_n (lv' := [(2, .int (J 0)), (0, .ref (a 0)), (1, .int (J x1))]) C dX5_sides_1 hl (by decide) rfl (fun ls hl => ?_)
  refine j_iconst C dX5_sides_2 ?_
  refine j_istore_n (lv' := [(3, .int (J 0)), (2, .int (J 0)), (0, .ref (a 0)), (1, .int (J x1))]) C dX5_sides_3 hl (by decide) rfl (fun ls hl => ?_)
  obtain ⟨n_, h⟩ := h
  exact w_M_sides_4 C  n_ 0 0 h _ _ _ hH (lv_sub hl [2, 3, 1, 0] rfl)
abbrev po_M_told (cA : ClassId) (a : Nat → Nat) (mPosts mThirds mStraight mLeast mIsLaid mIsGiven mActs mDone mQueued : Int) (mCorner mSum mBeyond mAct mSpare mLack mBefore mVia mQueue : Nat → Int) (Q : Int → (Nat → Int) → Prop) : Int32 → va_W → Prop := fun r w => ∃ z mMark', r = J z ∧ w = wM cA a mPosts mThirds mStraight mLeast mIsLaid mIsGiven mActs mDone mQueued mCorner mSum mBeyond mAct mMark' mSpare mLack mBefore mVia mQueue ∧ Q z mMark'
set_option maxRecDepth 4000 in
theorem w_M_told_31 {p : Program} {l : Launch} {e : Env} {s : State} {m : MethodId} {args : Array Value} {below : List Frame} {meth : Method} {c : Code} {D : va_G} {cA : ClassId} {A : Nat → Prop} {a : Nat → Nat} {mPosts mThirds mStraight mLeast mIsLaid mIsGiven mActs mDone mQueued : Int} {mCorner mSum mBeyond mAct mMark mSpare mLack mBefore mVia mQueue : Nat → Int} (C : XC p s m args meth c cX5_told 5 RX5 (some .int) D cA A) {K7 : Int → Int → Int → Prop} {Q : Int → (Nat → Int) → Prop} {x1 : Int}  (hK7 : ∀ (x2 : Int) (x3 : Int) (x4 : Int), K7 x2 x3 x4 → ∀ (H : Heap) (locs : List Loc) (ls : Array Slot), XH D A s (wM cA a mPosts mThirds mStraight mLeast mIsLaid mIsGiven mActs mDone mQueued mCorner mSum mBeyond mAct mMark mSpare mLack mBefore mVia mQueue) H locs → lv_has ls 5 [(0, .ref (a 0)), (1, .int (J x1)), (2, .int (J x2)), (3, .int (J x3)), (4, .int (J x4))] → W p l e rm_M_told s m args below meth c H locs 0 0 (MQ below (va_Qi (po_M_told cA a mPosts mThirds mStraight mLeast mIsLaid mIsGiven mActs mDone mQueued mCorner mSum mBeyond mAct mSpare mLack mBefore mVia mQueue Q) (xB D cA A) A) args s 0 0 A) (F0 m 7 ls [])) : ∀ (x3 : Int) (x4 : Int) (t0 : Int) (t1 : Int), wp_M_told_31 K7 Q mPosts mThirds mStraight mLeast mCorner mSum x1 mMark x3 x4 t0 t1 → ∀ (H : Heap) (locs : List Loc) (ls : Array Slot), XH D A s (wM cA a mPosts mThirds mStraight mLeast mIsLaid mIsGiven mActs mDone mQueued mCorner mSum mBeyond mAct mMark mSpare mLack mBefore mVia mQueue) H locs → lv_has ls 5 [(0, .ref (a 0)), (1, .int (J x1)), (3, .int (J x3)), (4, .int (J x4))] → W p l e rm_M_told s m args below meth c H locs 0 0 (MQ below (va_Qi (po_M_told cA a mPosts mThirds mStraight mLeast mIsLaid mIsGiven mActs mDone mQueued mCorner mSum mBeyond mAct mSpare mLack mBefore mVia mQueue Q) (xB D cA A) A) args s 0 0 A) (F0 m 31 ls [.int (J t1), .int (J t0)]) := by
  intro x3 x4 t0 t1 h H locs ls hH hl
  unfold wp_M_told_31 at h
  refine j_iadd C dX5_told_31 ?_
  refine j_istore_n (lv' := [(2, .int (J (t0 + t1))), (0, .ref (a 0)), (1, .int (J x1)), (3, .int (J x3)), (4, .int (J x4))]) C dX5_told_32 hl (by decide) rfl (fun ls hl => ?_)
  refine j_iload_n C dX5_told_33 (lv_at hl 3 rfl) ?_
  refine j_aload_n C dX5_told_34 (lv_at hl 1 rfl) ?_
  refine xg_X5_sum C hH dX5_told_35 ?_
  refine j_iload C dX5_told_38 (lv_at hl 4 rfl) ?_
  obtain ⟨b_1, h⟩ := h
  refine xa_mSum C hH b_1 dX5_told_40 ?_
  refine j_bipush C (by decide +kernel) dX5_told_41 ?_
  obtain ⟨g_2, h⟩ := h
  refine j_icmp_ne C 50 g_2 (by unfold jR; decide) dX5_told_43 (by decide) (fun c_3 => ?_) (fun c_3 => ?_)
  · have h := h.2 c_3
    refine j_aload_n C dX5_told_50 (lv_at hl 1 rfl) ?_
    refine xg_X5_sum C hH dX5_told_51 ?_
    refine j_iload C dX5_told_54 (lv_at hl 4 rfl) ?_
    refine xa_mSum C hH b_1 dX5_told_56 ?_
    refine j_iadd C dX5_told_57 ?_
    refine j_istore_n (lv' := [(3, .int (J (x3 + (mSum x4.toNat)))), (2, .int (J (t0 + t1))), (0, .ref (a 0)), (1, .int (J x1)), (4, .int (J x4))]) C dX5_told_58 hl (by decide) rfl (fun ls hl => ?_)
    refine j_iinc (k := 4) (v := x4 + 1) (lv' := [(4, .int (J (x4 + 1))), (3, .int (J (x3 + (mSum x4.toNat)))), (2, .int (J (t0 + t1))), (0, .ref (a 0)), (1, .int (J x1))]) C dX5_told_59 hl rfl rfl (by decide) rfl (fun ls hl => ?_)
    refine j_goto C 7 dX5_told_62 (by decide) ?_
    exact hK7 (t0 + t1) (x3 + (mSum x4.toNat)) (x4 + 1) h _ _ _ hH (lv_sub hl [3, 4, 2, 1, 0] rfl)
  · have h := h.1 c_3
    refine j_iconst C dX5_told_46 ?_
    refine j_goto C 57 dX5_told_47 (by decide) ?_
    refine j_iadd C dX5_told_57 ?_
    refine j_istore_n (lv' := [(3, .int (J (x3 + 0))), (2, .int (J (t0 + t1))), (0, .ref (a 0)), (1, .int (J x1)), (4, .int (J x4))]) C dX5_told_58 hl (by decide) rfl (fun ls hl => ?_)
    refine j_iinc (k := 4) (v := x4 + 1) (lv' := [(4, .int (J (x4 + 1))), (3, .int (J (x3 + 0))), (2, .int (J (t0 + t1))), (0, .ref (a 0)), (1, .int (J x1))]) C dX5_told_59 hl rfl rfl (by decide) rfl (fun ls hl => ?_)
    refine j_goto C 7 dX5_told_62 (by decide) ?_
    exact hK7 (t0 + t1) (x3 + 0) (x4 + 1) h _ _ _ hH (lv_sub hl [3, 4, 2, 1, 0] rfl)
set_option maxRecDepth 4000 in
theorem w_M_told_7 {p : Program} {l : Launch} {e : Env} {s : State} {m : MethodId} {args : Array Value} {below : List Frame} {meth : Method} {c : Code} {D : va_G} {cA : ClassId} {A : Nat → Prop} {a : Nat → Nat} {mPosts mThirds mStraight mLeast mIsLaid mIsGiven mActs mDone mQueued : Int} {mCorner mSum mBeyond mAct mMark mSpare mLack mBefore mVia mQueue : Nat → Int} (C : XC p s m args meth c cX5_told 5 RX5 (some .int) D cA A) {Q : Int → (Nat → Int) → Prop} {x1 : Int}  : ∀ (n : Nat) (x2 : Int) (x3 : Int) (x4 : Int), wp_M_told_7 Q mPosts mThirds mStraight mLeast mCorner mSum x1 mMark n x2 x3 x4 → ∀ (H : Heap) (locs : List Loc) (ls : Array Slot), XH D A s (wM cA a mPosts mThirds mStraight mLeast mIsLaid mIsGiven mActs mDone mQueued mCorner mSum mBeyond mAct mMark mSpare mLack mBefore mVia mQueue) H locs → lv_has ls 5 [(0, .ref (a 0)), (1, .int (J x1)), (2, .int (J x2)), (3, .int (J x3)), (4, .int (J x4))] → W p l e rm_M_told s m args below meth c H locs 0 0 (MQ below (va_Qi (po_M_told cA a mPosts mThirds mStraight mLeast mIsLaid mIsGiven mActs mDone mQueued mCorner mSum mBeyond mAct mSpare mLack mBefore mVia mQueue Q) (xB D cA A) A) args s 0 0 A) (F0 m 7 ls []) := by
  intro n
  induction n with
  | zero => intro x2 x3 x4 h; exact (show False from h).elim
  | succ n hK7 =>
    intro x2 x3 x4 h H locs ls hH hl
    have h : wp_M_told_7_b  (wp_M_told_7 Q mPosts mThirds mStraight mLeast mCorner mSum x1 mMark n) Q mPosts mThirds mStraight mLeast mCorner mSum x1 mMark x2 x3 x4 := h
    unfold wp_M_told_7_b at h
    refine j_iload C dX5_told_7 (lv_at hl 4 rfl) ?_
    refine j_aload_n C dX5_told_9 (lv_at hl 0 rfl) ?_
    refine xg_X5_posts C hH dX5_told_10 ?_
    obtain ⟨g_4, h⟩ := h
    obtain ⟨g_5, h⟩ := h
    refine j_icmp_ge C 65 g_4 g_5 dX5_told_13 (by decide) (fun c_6 => ?_) (fun c_6 => ?_)
    · have h := h.1 c_6
      refine j_iload_n C dX5_told_65 (lv_at hl 1 rfl) ?_
      obtain ⟨g_7, h⟩ := h
      by_cases c_80 : x1 = 0
      · have h := h.1 c_80
        refine j_tableIn C 116 g_7 dX5_told_66 (by rw [c_80]; decide) (by rw [c_80]; decide) (by rw [c_80]; rfl) (by decide) ?_
        refine j_aload_n C dX5_told_116 (lv_at hl 0 rfl) ?_
        refine xg_X5_posts C hH dX5_told_117 ?_
        exact j_iret C hH ⟨_, _, rfl, rfl, h⟩ dX5_told_120
      have h := h.2
      by_cases c_81 : x1 = 1
      · have h := h.1 c_81
        refine j_tableIn C 121 g_7 dX5_told_66 (by rw [c_81]; decide) (by rw [c_81]; decide) (by rw [c_81]; rfl) (by decide) ?_
        refine j_aload_n C dX5_told_121 (lv_at hl 0 rfl) ?_
        refine xg_X5_thirds C hH dX5_told_122 ?_
        exact j_iret C hH ⟨_, _, rfl, rfl, h⟩ dX5_told_125
      have h := h.2
      by_cases c_82 : x1 = 2
      · have h := h.1 c_82
        refine j_tableIn C 126 g_7 dX5_told_66 (by rw [c_82]; decide) (by rw [c_82]; decide) (by rw [c_82]; rfl) (by decide) ?_
        refine j_aload_n C dX5_told_126 (lv_at hl 0 rfl) ?_
        refine j_iconst C dX5_told_127 ?_
        refine xcallV_i (As := [.int (J 1)]) (rest := []) (q0 := 0) C hH (fun sz => c_M_sides h) xl_X5_126 rfl rfl ⟨rfl, rfl⟩ ⟨Nat.le_of_ble_eq_true rfl, Nat.le_of_ble_eq_true rfl⟩ hl.1 rfl rfl (Nat.le_of_ble_eq_true rfl) dX5_told_128 (fun r_ w_ H locs hw hH => ?_)
        obtain ⟨z_9, rfl, rfl, h⟩ := hw
        exact j_iret C hH ⟨_, _, rfl, rfl, h⟩ dX5_told_131
      have h := h.2
      by_cases c_83 : x1 = 3
      · have h := h.1 c_83
        refine j_tableIn C 132 g_7 dX5_told_66 (by rw [c_83]; decide) (by rw [c_83]; decide) (by rw [c_83]; rfl) (by decide) ?_
        refine j_aload_n C dX5_told_132 (lv_at hl 0 rfl) ?_
        refine j_iconst C dX5_told_133 ?_
        refine xcallV_i (As := [.int (J 1)]) (rest := []) (q0 := 0) C hH (fun sz => c_M_sides h) xl_X5_126 rfl rfl ⟨rfl, rfl⟩ ⟨Nat.le_of_ble_eq_true rfl, Nat.le_of_ble_eq_true rfl⟩ hl.1 rfl rfl (Nat.le_of_ble_eq_true rfl) dX5_told_134 (fun r_ w_ H locs hw hH => ?_)
        obtain ⟨z_10, rfl, rfl, h⟩ := hw
        refine j_aload_n C dX5_told_137 (lv_at hl 0 rfl) ?_
        refine j_iconst C dX5_told_138 ?_
        refine xcallV_i (As := [.int (J 2)]) (rest := [.int (J z_10)]) (q0 := 0) C hH (fun sz => c_M_sides h) xl_X5_126 rfl rfl ⟨rfl, rfl⟩ ⟨Nat.le_of_ble_eq_true rfl, Nat.le_of_ble_eq_true rfl⟩ hl.1 rfl rfl (Nat.le_of_ble_eq_true rfl) dX5_told_139 (fun r_ w_ H locs hw hH => ?_)
        obtain ⟨z_11, rfl, rfl, h⟩ := hw
        refine j_isub C dX5_told_142 ?_
        exact j_iret C hH ⟨_, _, rfl, rfl, h⟩ dX5_told_143
      have h := h.2
      by_cases c_84 : x1 = 4
      · have h := h.1 c_84
        refine j_tableIn C 144 g_7 dX5_told_66 (by rw [c_84]; decide) (by rw [c_84]; decide) (by rw [c_84]; rfl) (by decide) ?_
        refine j_iload_n C dX5_told_144 (lv_at hl 2 rfl) ?_
        refine j_aload_n C dX5_told_145 (lv_at hl 0 rfl) ?_
        refine j_iconst C dX5_told_146 ?_
        refine xcallV_i (As := [.int (J 1)]) (rest := [.int (J x2)]) (q0 := 0) C hH (fun sz => c_M_sides h) xl_X5_126 rfl rfl ⟨rfl, rfl⟩ ⟨Nat.le_of_ble_eq_true rfl, Nat.le_of_ble_eq_true rfl⟩ hl.1 rfl rfl (Nat.le_of_ble_eq_true rfl) dX5_told_147 (fun r_ w_ H locs hw hH => ?_)
        obtain ⟨z_12, rfl, rfl, h⟩ := hw
        refine j_isub C dX5_told_150 ?_
        refine j_aload_n C dX5_told_151 (lv_at hl 0 rfl) ?_
        refine xg_X5_thirds C hH dX5_told_152 ?_
        refine j_iadd C dX5_told_155 ?_
        exact j_iret C hH ⟨_, _, rfl, rfl, h⟩ dX5_told_156
      have h := h.2
      by_cases c_85 : x1 = 5
      · have h := h.1 c_85
        refine j_tableIn C 157 g_7 dX5_told_66 (by rw [c_85]; decide) (by rw [c_85]; decide) (by rw [c_85]; rfl) (by decide) ?_
        refine j_aload_n C dX5_told_157 (lv_at hl 0 rfl) ?_
        refine j_iconst C dX5_told_158 ?_
        refine xcallV_i (As := [.int (J (-1))]) (rest := []) (q0 := 0) C hH (fun sz => c_M_pieces h) xl_X5_120 rfl rfl ⟨rfl, rfl⟩ ⟨Nat.le_of_ble_eq_true rfl, Nat.le_of_ble_eq_true rfl⟩ hl.1 rfl rfl (Nat.le_of_ble_eq_true rfl) dX5_told_159 (fun r_ w_ H locs hw hH => ?_)
        obtain ⟨z_13, mMark_14, rfl, rfl, h⟩ := hw
        exact j_iret C hH ⟨_, _, rfl, rfl, h⟩ dX5_told_162
      have h := h.2
      by_cases c_86 : x1 = 6
      · have h := h.1 c_86
        refine j_tableIn C 163 g_7 dX5_told_66 (by rw [c_86]; decide) (by rw [c_86]; decide) (by rw [c_86]; rfl) (by decide) ?_
        refine j_aload_n C dX5_told_163 (lv_at hl 0 rfl) ?_
        refine xg_X5_straight C hH dX5_told_164 ?_
        exact j_iret C hH ⟨_, _, rfl, rfl, h⟩ dX5_told_167
      have h := h.2
      by_cases c_87 : x1 = 7
      · have h := h.1 c_87
        refine j_tableIn C 168 g_7 dX5_told_66 (by rw [c_87]; decide) (by rw [c_87]; decide) (by rw [c_87]; rfl) (by decide) ?_
        refine j_aload_n C dX5_told_168 (lv_at hl 0 rfl) ?_
        refine xg_X5_least C hH dX5_told_169 ?_
        exact j_iret C hH ⟨_, _, rfl, rfl, h⟩ dX5_told_172
      have h := h.2
      by_cases c_88 : x1 = 8
      · have h := h.1 c_88
        refine j_tableIn C 173 g_7 dX5_told_66 (by rw [c_88]; decide) (by rw [c_88]; decide) (by rw [c_88]; rfl) (by decide) ?_
        refine j_iload_n C dX5_told_173 (lv_at hl 3 rfl) ?_
        exact j_iret C hH ⟨_, _, rfl, rfl, h⟩ dX5_told_174
      have h := h.2
      have h := h ⟨c_80, c_81, c_82, c_83, c_84, c_85, c_86, c_87, c_88⟩
      refine j_tableOut C 175 g_7 dX5_told_66 (jout_8 c_80 c_81 c_82 c_83 c_84 c_85 c_86 c_87 c_88) (by decide) ?_
      refine j_sipush C (by decide +kernel) dX5_told_175 ?_
      exact j_iret C hH ⟨_, _, rfl, rfl, h⟩ dX5_told_178
    · have h := h.2 c_6
      refine j_iload_n C dX5_told_16 (lv_at hl 2 rfl) ?_
      refine j_aload_n C dX5_told_17 (lv_at hl 0 rfl) ?_
      refine j_iload C dX5_told_18 (lv_at hl 4 rfl) ?_
      refine xcallV_i (As := [.int (J x4)]) (rest := [.int (J x2)]) (q0 := 0) C hH (fun sz => c_M_cornersAt h) xl_X5_113 rfl rfl ⟨rfl, rfl⟩ ⟨Nat.le_of_ble_eq_true rfl, Nat.le_of_ble_eq_true rfl⟩ hl.1 rfl rfl (Nat.le_of_ble_eq_true rfl) dX5_told_20 (fun r_ w_ H locs hw hH => ?_)
      obtain ⟨z_15, rfl, rfl, h⟩ := hw
      obtain ⟨g_16, h⟩ := h
      refine j_if_le C 30 g_16 dX5_told_23 (by decide) (fun c_17 => ?_) (fun c_17 => ?_)
      · have h := h.1 c_17
        refine j_iconst C dX5_told_30 ?_
        exact w_M_told_31 C hK7 x3 x4 x2 0 h _ _ _ hH (lv_sub hl [0, 1, 3, 4] rfl)
      · have h := h.2 c_17
        refine j_iconst C dX5_told_26 ?_
        refine j_goto C 31 dX5_told_27 (by decide) ?_
        exact w_M_told_31 C hK7 x3 x4 x2 1 h _ _ _ hH (lv_sub hl [0, 1, 3, 4] rfl)
set_option maxRecDepth 4000 in
theorem c_M_told {l : Launch} {D : va_G} {cA : ClassId} {a : Nat → Nat} {sz : Nat} {mPosts mThirds mStraight mLeast mIsLaid mIsGiven mActs mDone mQueued : Int} {mCorner mSum mBeyond mAct mMark mSpare mLack mBefore mVia mQueue : Nat → Int} {x1 : Int} {Q : Int → (Nat → Int) → Prop} (h : wp_M_told x1 mPosts mThirds mStraight mLeast mCorner mSum mMark Q) : Met l yX5_told (.code yX5_told cX5_told 5 (some .int) :: lw_ok) rm_M_told (xPre D cA sz [.ref (a 0), .int (J x1)] (wM cA a mPosts mThirds mStraight mLeast mIsLaid mIsGiven mActs mDone mQueued mCorner mSum mBeyond mAct mMark mSpare mLack mBefore mVia mQueue)) (va_Qi (po_M_told cA a mPosts mThirds mStraight mLeast mIsLaid mIsGiven mActs mDone mQueued mCorner mSum mBeyond mAct mSpare mLack mBefore mVia mQueue Q) (xB D cA (va_A (wM cA a mPosts mThirds mStraight mLeast mIsLaid mIsGiven mActs mDone mQueued mCorner mSum mBeyond mAct mMark mSpare mLack mBefore mVia mQueue) sz)) (va_A (wM cA a mPosts mThirds mStraight mLeast mIsLaid mIsGiven mActs mDone mQueued mCorner mSum mBeyond mAct mMark mSpare mLack mBefore mVia mQueue) sz)) 0 0 (va_A (wM cA a mPosts mThirds mStraight mLeast mIsLaid mIsGiven mActs mDone mQueued mCorner mSum mBeyond mAct mMark mSpare mLack mBefore mVia mQueue) sz) := by
  refine xmet_i (by decide) (Nat.le_of_ble_eq_true rfl) ?_
  intro p e s m args below meth c A ls C hH hl
  have C : XC p s m args meth c cX5_told 5 RX5 (some .int) D cA A := C
  have hl : lv_has ls 5 [(0, .ref (a 0)), (1, .int (J x1))] := hl
  unfold wp_M_told at h
  refine j_iconst C dX5_told_0 ?_
  refine j_istore_n (lv' := [(2, .int (J 0)), (0, .ref (a 0)), (1, .int (J x1))]) C dX5_told_1 hl (by decide) rfl (fun ls hl => ?_)
  refine j_iconst C dX5_told_2 ?_
  refine j_istore_n (lv' := [(3, .int (J 0)), (2, .int (J 0)), (0, .ref (a 0)), (1, .int (J x1))]) C dX5_told_3 hl (by decide) rfl (fun ls hl => ?_)
  refine j_iconst C dX5_told_4 ?_
  refine j_istore (lv' := [(4, .int (J 0)), (3, .int (J 0)), (2, .int (J 0)), (0, .ref (a 0)), (1, .int (J x1))]) C dX5_told_5 hl (by decide) rfl (fun ls hl => ?_)
  obtain ⟨n_, h⟩ := h
  exact w_M_told_7 C  n_ 0 0 0 h _ _ _ hH (lv_sub hl [3, 4, 2, 1, 0] rfl)
abbrev po_M_straight (cA : ClassId) (a : Nat → Nat) (mPosts mThirds mLeast mIsGiven mActs mDone mQueued : Int) (mCorner mSum mBeyond mAct mMark mSpare mLack mBefore mVia mQueue : Nat → Int) (Q : Int → Int → Int → Prop) : Int32 → va_W → Prop := fun r w => ∃ z mStraight' mIsLaid', r = J z ∧ w = wM cA a mPosts mThirds mStraight' mLeast mIsLaid' mIsGiven mActs mDone mQueued mCorner mSum mBeyond mAct mMark mSpare mLack mBefore mVia mQueue ∧ Q z mStraight' mIsLaid'
set_option maxRecDepth 4000 in
theorem c_M_straight {l : Launch} {D : va_G} {cA : ClassId} {a : Nat → Nat} {sz : Nat} {mPosts mThirds mStraight mLeast mIsLaid mIsGiven mActs mDone mQueued : Int} {mCorner mSum mBeyond mAct mMark mSpare mLack mBefore mVia mQueue : Nat → Int} {x1 : Int} {Q : Int → Int → Int → Prop} (h : wp_M_straight x1 mStraight mLeast mIsLaid Q) : Met l yX5_straight (.code yX5_straight cX5_straight 3 (some .int) :: lw_ok) rm_M_straight (xPre D cA sz [.ref (a 0), .int (J x1)] (wM cA a mPosts mThirds mStraight mLeast mIsLaid mIsGiven mActs mDone mQueued mCorner mSum mBeyond mAct mMark mSpare mLack mBefore mVia mQueue)) (va_Qi (po_M_straight cA a mPosts mThirds mLeast mIsGiven mActs mDone mQueued mCorner mSum mBeyond mAct mMark mSpare mLack mBefore mVia mQueue Q) (xB D cA (va_A (wM cA a mPosts mThirds mStraight mLeast mIsLaid mIsGiven mActs mDone mQueued mCorner mSum mBeyond mAct mMark mSpare mLack mBefore mVia mQueue) sz)) (va_A (wM cA a mPosts mThirds mStraight mLeast mIsLaid mIsGiven mActs mDone mQueued mCorner mSum mBeyond mAct mMark mSpare mLack mBefore mVia mQueue) sz)) 0 0 (va_A (wM cA a mPosts mThirds mStraight mLeast mIsLaid mIsGiven mActs mDone mQueued mCorner mSum mBeyond mAct mMark mSpare mLack mBefore mVia mQueue) sz) := by
  refine xmet_i (by decide) (Nat.le_of_ble_eq_true rfl) ?_
  intro p e s m args below meth c A ls C hH hl
  have C : XC p s m args meth c cX5_straight 3 RX5 (some .int) D cA A := C
  have hl : lv_has ls 3 [(0, .ref (a 0)), (1, .int (J x1))] := hl
  unfold wp_M_straight at h
  refine j_iload_n C dX5_straight_0 (lv_at hl 1 rfl) ?_
  refine j_bipush C (by decide +kernel) dX5_straight_1 ?_
  refine j_sipush C (by decide +kernel) dX5_straight_3 ?_
  refine xcallS_i (As := [.int (J x1), .int (J 6), .int (J 360)]) (rest := []) C hH (fun sz => c_M_in h) xl_X5_66 ⟨rfl, rfl⟩ ⟨Nat.le_of_ble_eq_true rfl, Nat.le_of_ble_eq_true rfl⟩ hl.1 rfl rfl (Nat.le_of_ble_eq_true rfl) dX5_straight_6 (fun r_ w_ H locs hw hH => ?_)
  obtain ⟨z_1, rfl, rfl, h⟩ := hw
  obtain ⟨g_2, h⟩ := h
  refine j_if_eq C 22 g_2 dX5_straight_9 (by decide) (fun c_3 => ?_) (fun c_3 => ?_)
  · have h := h.1 c_3
    refine j_bipush C (by decide +kernel) dX5_straight_22 ?_
    exact j_iret C hH ⟨_, _, _, rfl, rfl, h⟩ dX5_straight_24
  · have h := h.2 c_3
    refine j_iconst C dX5_straight_12 ?_
    refine j_aload_n C dX5_straight_13 (lv_at hl 0 rfl) ?_
    refine xg_X5_least C hH dX5_straight_14 ?_
    refine j_imul C dX5_straight_17 ?_
    refine j_iload_n C dX5_straight_18 (lv_at hl 1 rfl) ?_
    obtain ⟨g_4, h⟩ := h
    obtain ⟨g_5, h⟩ := h
    refine j_icmp_le C 25 g_4 g_5 dX5_straight_19 (by decide) (fun c_6 => ?_) (fun c_6 => ?_)
    · have h := h.1 c_6
      refine j_aload_n C dX5_straight_25 (lv_at hl 0 rfl) ?_
      refine xg_X5_straight C hH dX5_straight_26 ?_
      refine j_istore_n (lv' := [(2, .int (J mStraight)), (0, .ref (a 0)), (1, .int (J x1))]) C dX5_straight_29 hl (by decide) rfl (fun ls hl => ?_)
      refine j_aload_n C dX5_straight_30 (lv_at hl 1 rfl) ?_
      refine j_iload_n C dX5_straight_31 (lv_at hl 2 rfl) ?_
      refine xp_X5_straight C hH dX5_straight_32 (fun H locs hH => ?_)
      refine j_aload_n C dX5_straight_35 (lv_at hl 1 rfl) ?_
      refine j_iconst C dX5_straight_36 ?_
      refine xp_X5_isLaid C hH (Or.inl rfl) dX5_straight_37 (fun H locs hH => ?_)
      refine j_iload_n C dX5_straight_40 (lv_at hl 0 rfl) ?_
      exact j_iret C hH ⟨_, _, _, rfl, rfl, h⟩ dX5_straight_41
    · have h := h.2 c_6
      refine j_bipush C (by decide +kernel) dX5_straight_22 ?_
      exact j_iret C hH ⟨_, _, _, rfl, rfl, h⟩ dX5_straight_24
abbrev po_M_least (cA : ClassId) (a : Nat → Nat) (mPosts mThirds mStraight mIsGiven mActs mDone mQueued : Int) (mCorner mSum mBeyond mAct mMark mSpare mLack mBefore mVia mQueue : Nat → Int) (Q : Int → Int → Int → Prop) : Int32 → va_W → Prop := fun r w => ∃ z mLeast' mIsLaid', r = J z ∧ w = wM cA a mPosts mThirds mStraight mLeast' mIsLaid' mIsGiven mActs mDone mQueued mCorner mSum mBeyond mAct mMark mSpare mLack mBefore mVia mQueue ∧ Q z mLeast' mIsLaid'
set_option maxRecDepth 4000 in
theorem c_M_least {l : Launch} {D : va_G} {cA : ClassId} {a : Nat → Nat} {sz : Nat} {mPosts mThirds mStraight mLeast mIsLaid mIsGiven mActs mDone mQueued : Int} {mCorner mSum mBeyond mAct mMark mSpare mLack mBefore mVia mQueue : Nat → Int} {x1 : Int} {Q : Int → Int → Int → Prop} (h : wp_M_least x1 mStraight mLeast mIsLaid Q) : Met l yX5_least (.code yX5_least cX5_least 3 (some .int) :: lw_ok) rm_M_least (xPre D cA sz [.ref (a 0), .int (J x1)] (wM cA a mPosts mThirds mStraight mLeast mIsLaid mIsGiven mActs mDone mQueued mCorner mSum mBeyond mAct mMark mSpare mLack mBefore mVia mQueue)) (va_Qi (po_M_least cA a mPosts mThirds mStraight mIsGiven mActs mDone mQueued mCorner mSum mBeyond mAct mMark mSpare mLack mBefore mVia mQueue Q) (xB D cA (va_A (wM cA a mPosts mThirds mStraight mLeast mIsLaid mIsGiven mActs mDone mQueued mCorner mSum mBeyond mAct mMark mSpare mLack mBefore mVia mQueue) sz)) (va_A (wM cA a mPosts mThirds mStraight mLeast mIsLaid mIsGiven mActs mDone mQueued mCorner mSum mBeyond mAct mMark mSpare mLack mBefore mVia mQueue) sz)) 0 0 (va_A (wM cA a mPosts mThirds mStraight mLeast mIsLaid mIsGiven mActs mDone mQueued mCorner mSum mBeyond mAct mMark mSpare mLack mBefore mVia mQueue) sz) := by
  refine xmet_i (by decide) (Nat.le_of_ble_eq_true rfl) ?_
  intro p e s m args below meth c A ls C hH hl
  have C : XC p s m args meth c cX5_least 3 RX5 (some .int) D cA A := C
  have hl : lv_has ls 3 [(0, .ref (a 0)), (1, .int (J x1))] := hl
  unfold wp_M_least at h
  refine j_iload_n C dX5_least_0 (lv_at hl 1 rfl) ?_
  refine j_iconst C dX5_least_1 ?_
  refine j_bipush C (by decide +kernel) dX5_least_2 ?_
  refine xcallS_i (As := [.int (J x1), .int (J 1), .int (J 60)]) (rest := []) C hH (fun sz => c_M_in h) xl_X5_66 ⟨rfl, rfl⟩ ⟨Nat.le_of_ble_eq_true rfl, Nat.le_of_ble_eq_true rfl⟩ hl.1 rfl rfl (Nat.le_of_ble_eq_true rfl) dX5_least_4 (fun r_ w_ H locs hw hH => ?_)
  obtain ⟨z_1, rfl, rfl, h⟩ := hw
  obtain ⟨g_2, h⟩ := h
  refine j_if_eq C 20 g_2 dX5_least_7 (by decide) (fun c_3 => ?_) (fun c_3 => ?_)
  · have h := h.1 c_3
    refine j_bipush C (by decide +kernel) dX5_least_20 ?_
    exact j_iret C hH ⟨_, _, _, rfl, rfl, h⟩ dX5_least_22
  · have h := h.2 c_3
    refine j_iconst C dX5_least_10 ?_
    refine j_iload_n C dX5_least_11 (lv_at hl 1 rfl) ?_
    refine j_imul C dX5_least_12 ?_
    refine j_aload_n C dX5_least_13 (lv_at hl 0 rfl) ?_
    refine xg_X5_straight C hH dX5_least_14 ?_
    obtain ⟨g_4, h⟩ := h
    obtain ⟨g_5, h⟩ := h
    refine j_icmp_le C 23 g_4 g_5 dX5_least_17 (by decide) (fun c_6 => ?_) (fun c_6 => ?_)
    · have h := h.1 c_6
      refine j_aload_n C dX5_least_23 (lv_at hl 0 rfl) ?_
      refine xg_X5_least C hH dX5_least_24 ?_
      refine j_istore_n (lv' := [(2, .int (J mLeast)), (0, .ref (a 0)), (1, .int (J x1))]) C dX5_least_27 hl (by decide) rfl (fun ls hl => ?_)
      refine j_aload_n C dX5_least_28 (lv_at hl 1 rfl) ?_
      refine j_iload_n C dX5_least_29 (lv_at hl 2 rfl) ?_
      refine xp_X5_least C hH dX5_least_30 (fun H locs hH => ?_)
      refine j_aload_n C dX5_least_33 (lv_at hl 1 rfl) ?_
      refine j_iconst C dX5_least_34 ?_
      refine xp_X5_isLaid C hH (Or.inl rfl) dX5_least_35 (fun H locs hH => ?_)
      refine j_iload_n C dX5_least_38 (lv_at hl 0 rfl) ?_
      exact j_iret C hH ⟨_, _, _, rfl, rfl, h⟩ dX5_least_39
    · have h := h.2 c_6
      refine j_bipush C (by decide +kernel) dX5_least_20 ?_
      exact j_iret C hH ⟨_, _, _, rfl, rfl, h⟩ dX5_least_22
abbrev po_M_can (cA : ClassId) (a : Nat → Nat) (mPosts mThirds mStraight mLeast mActs mDone : Int) (mCorner mSum mAct mMark : Nat → Int) (Q : Int → Int → Int → Int → (Nat → Int) → (Nat → Int) → (Nat → Int) → (Nat → Int) → (Nat → Int) → (Nat → Int) → Prop) : Int32 → va_W → Prop := fun r w => ∃ z mIsLaid' mIsGiven' mQueued' mBeyond' mSpare' mLack' mBefore' mVia' mQueue', r = J z ∧ w = wM cA a mPosts mThirds mStraight mLeast mIsLaid' mIsGiven' mActs mDone mQueued' mCorner mSum mBeyond' mAct mMark mSpare' mLack' mBefore' mVia' mQueue' ∧ Q z mIsLaid' mIsGiven' mQueued' mBeyond' mSpare' mLack' mBefore' mVia' mQueue'
set_option maxRecDepth 4000 in
theorem c_M_can {l : Launch} {D : va_G} {cA : ClassId} {a : Nat → Nat} {sz : Nat} {mPosts mThirds mStraight mLeast mIsLaid mIsGiven mActs mDone mQueued : Int} {mCorner mSum mBeyond mAct mMark mSpare mLack mBefore mVia mQueue : Nat → Int} {Q : Int → Int → Int → Int → (Nat → Int) → (Nat → Int) → (Nat → Int) → (Nat → Int) → (Nat → Int) → (Nat → Int) → Prop} (h : wp_M_can  mPosts mThirds mStraight mLeast mIsLaid mIsGiven mQueued mCorner mSum mBeyond mSpare mLack mBefore mVia mQueue Q) : Met l yX5_can (.code yX5_can cX5_can 1 (some .int) :: lw_ok) rm_M_can (xPre D cA sz [.ref (a 0)] (wM cA a mPosts mThirds mStraight mLeast mIsLaid mIsGiven mActs mDone mQueued mCorner mSum mBeyond mAct mMark mSpare mLack mBefore mVia mQueue)) (va_Qi (po_M_can cA a mPosts mThirds mStraight mLeast mActs mDone mCorner mSum mAct mMark Q) (xB D cA (va_A (wM cA a mPosts mThirds mStraight mLeast mIsLaid mIsGiven mActs mDone mQueued mCorner mSum mBeyond mAct mMark mSpare mLack mBefore mVia mQueue) sz)) (va_A (wM cA a mPosts mThirds mStraight mLeast mIsLaid mIsGiven mActs mDone mQueued mCorner mSum mBeyond mAct mMark mSpare mLack mBefore mVia mQueue) sz)) 0 0 (va_A (wM cA a mPosts mThirds mStraight mLeast mIsLaid mIsGiven mActs mDone mQueued mCorner mSum mBeyond mAct mMark mSpare mLack mBefore mVia mQueue) sz) := by
  refine xmet_i (by decide) (Nat.le_of_ble_eq_true rfl) ?_
  intro p e s m args below meth c A ls C hH hl
  have C : XC p s m args meth c cX5_can 1 RX5 (some .int) D cA A := C
  have hl : lv_has ls 1 [(0, .ref (a 0))] := hl
  unfold wp_M_can at h
  refine j_aload_n C dX5_can_0 (lv_at hl 0 rfl) ?_
  refine xcallV_i (As := []) (rest := []) (q0 := 0) C hH (fun sz => c_M_hasRow h) xl_X5_109 rfl rfl ⟨rfl, rfl⟩ ⟨Nat.le_of_ble_eq_true rfl, Nat.le_of_ble_eq_true rfl⟩ hl.1 rfl rfl (Nat.le_of_ble_eq_true rfl) dX5_can_1 (fun r_ w_ H locs hw hH => ?_)
  obtain ⟨z_1, mIsLaid_2, mIsGiven_3, mQueued_4, mBeyond_5, mSpare_6, mLack_7, mBefore_8, mVia_9, mQueue_10, rfl, rfl, h⟩ := hw
  obtain ⟨g_11, h⟩ := h
  refine j_if_eq C 11 g_11 dX5_can_4 (by decide) (fun c_12 => ?_) (fun c_12 => ?_)
  · have h := h.1 c_12
    refine j_iconst C dX5_can_11 ?_
    exact j_iret C hH ⟨_, _, _, _, _, _, _, _, _, _, rfl, rfl, h⟩ dX5_can_12
  · have h := h.2 c_12
    refine j_iconst C dX5_can_7 ?_
    refine j_goto C 12 dX5_can_8 (by decide) ?_
    exact j_iret C hH ⟨_, _, _, _, _, _, _, _, _, _, rfl, rfl, h⟩ dX5_can_12
abbrev po_M_angle (cA : ClassId) (a : Nat → Nat) (mPosts mThirds mStraight mLeast mActs mDone : Int) (mCorner mSum mAct mMark : Nat → Int) (Q : Int → Int → Int → Int → (Nat → Int) → (Nat → Int) → (Nat → Int) → (Nat → Int) → (Nat → Int) → (Nat → Int) → Prop) : Int32 → va_W → Prop := fun r w => ∃ z mIsLaid' mIsGiven' mQueued' mBeyond' mSpare' mLack' mBefore' mVia' mQueue', r = J z ∧ w = wM cA a mPosts mThirds mStraight mLeast mIsLaid' mIsGiven' mActs mDone mQueued' mCorner mSum mBeyond' mAct mMark mSpare' mLack' mBefore' mVia' mQueue' ∧ Q z mIsLaid' mIsGiven' mQueued' mBeyond' mSpare' mLack' mBefore' mVia' mQueue'
set_option maxRecDepth 4000 in
theorem c_M_angle {l : Launch} {D : va_G} {cA : ClassId} {a : Nat → Nat} {sz : Nat} {mPosts mThirds mStraight mLeast mIsLaid mIsGiven mActs mDone mQueued : Int} {mCorner mSum mBeyond mAct mMark mSpare mLack mBefore mVia mQueue : Nat → Int} {x1 : Int} {Q : Int → Int → Int → Int → (Nat → Int) → (Nat → Int) → (Nat → Int) → (Nat → Int) → (Nat → Int) → (Nat → Int) → Prop} (h : wp_M_angle x1 mPosts mThirds mStraight mLeast mIsLaid mIsGiven mQueued mCorner mSum mBeyond mSpare mLack mBefore mVia mQueue Q) : Met l yX5_angle (.code yX5_angle cX5_angle 2 (some .int) :: lw_ok) rm_M_angle (xPre D cA sz [.ref (a 0), .int (J x1)] (wM cA a mPosts mThirds mStraight mLeast mIsLaid mIsGiven mActs mDone mQueued mCorner mSum mBeyond mAct mMark mSpare mLack mBefore mVia mQueue)) (va_Qi (po_M_angle cA a mPosts mThirds mStraight mLeast mActs mDone mCorner mSum mAct mMark Q) (xB D cA (va_A (wM cA a mPosts mThirds mStraight mLeast mIsLaid mIsGiven mActs mDone mQueued mCorner mSum mBeyond mAct mMark mSpare mLack mBefore mVia mQueue) sz)) (va_A (wM cA a mPosts mThirds mStraight mLeast mIsLaid mIsGiven mActs mDone mQueued mCorner mSum mBeyond mAct mMark mSpare mLack mBefore mVia mQueue) sz)) 0 0 (va_A (wM cA a mPosts mThirds mStraight mLeast mIsLaid mIsGiven mActs mDone mQueued mCorner mSum mBeyond mAct mMark mSpare mLack mBefore mVia mQueue) sz) := by
  refine xmet_i (by decide) (Nat.le_of_ble_eq_true rfl) ?_
  intro p e s m args below meth c A ls C hH hl
  have C : XC p s m args meth c cX5_angle 2 RX5 (some .int) D cA A := C
  have hl : lv_has ls 2 [(0, .ref (a 0)), (1, .int (J x1))] := hl
  unfold wp_M_angle at h
  refine j_iload_n C dX5_angle_0 (lv_at hl 1 rfl) ?_
  refine j_iconst C dX5_angle_1 ?_
  refine j_iconst C dX5_angle_2 ?_
  refine j_aload_n C dX5_angle_3 (lv_at hl 0 rfl) ?_
  refine xg_X5_thirds C hH dX5_angle_4 ?_
  refine j_imul C dX5_angle_7 ?_
  refine j_iconst C dX5_angle_8 ?_
  refine j_isub C dX5_angle_9 ?_
  refine xcallS_i (As := [.int (J x1), .int (J 0), .int (J ((3 * mThirds) - 1))]) (rest := []) C hH (fun sz => c_M_in h) xl_X5_66 ⟨rfl, rfl⟩ ⟨Nat.le_of_ble_eq_true rfl, Nat.le_of_ble_eq_true rfl⟩ hl.1 rfl rfl (Nat.le_of_ble_eq_true rfl) dX5_angle_10 (fun r_ w_ H locs hw hH => ?_)
  obtain ⟨z_1, rfl, rfl, h⟩ := hw
  obtain ⟨g_2, h⟩ := h
  refine j_if_ne C 18 g_2 dX5_angle_13 (by decide) (fun c_3 => ?_) (fun c_3 => ?_)
  · have h := h.2 c_3
    refine j_aload_n C dX5_angle_18 (lv_at hl 0 rfl) ?_
    refine xcallV_i (As := []) (rest := []) (q0 := 0) C hH (fun sz => c_M_hasRow h) xl_X5_109 rfl rfl ⟨rfl, rfl⟩ ⟨Nat.le_of_ble_eq_true rfl, Nat.le_of_ble_eq_true rfl⟩ hl.1 rfl rfl (Nat.le_of_ble_eq_true rfl) dX5_angle_19 (fun r_ w_ H locs hw hH => ?_)
    obtain ⟨z_4, mIsLaid_5, mIsGiven_6, mQueued_7, mBeyond_8, mSpare_9, mLack_10, mBefore_11, mVia_12, mQueue_13, rfl, rfl, h⟩ := hw
    obtain ⟨g_14, h⟩ := h
    refine j_if_eq C 39 g_14 dX5_angle_22 (by decide) (fun c_15 => ?_) (fun c_15 => ?_)
    · have h := h.1 c_15
      refine j_bipush C (by decide +kernel) dX5_angle_39 ?_
      exact j_iret C hH ⟨_, _, _, _, _, _, _, _, _, _, rfl, rfl, h⟩ dX5_angle_41
    · have h := h.2 c_15
      refine j_aload_n C dX5_angle_25 (lv_at hl 0 rfl) ?_
      refine xg_X5_least C hH dX5_angle_26 ?_
      refine j_aload_n C dX5_angle_29 (lv_at hl 0 rfl) ?_
      refine xg_X5_beyond C hH dX5_angle_30 ?_
      refine j_iload_n C dX5_angle_33 (lv_at hl 1 rfl) ?_
      obtain ⟨b_16, h⟩ := h
      refine xa_mBeyond C hH b_16 dX5_angle_34 ?_
      refine j_iadd C dX5_angle_35 ?_
      refine j_goto C 41 dX5_angle_36 (by decide) ?_
      exact j_iret C hH ⟨_, _, _, _, _, _, _, _, _, _, rfl, rfl, h⟩ dX5_angle_41
  · have h := h.1 c_3
    refine j_iconst C dX5_angle_16 ?_
    exact j_iret C hH ⟨_, _, _, _, _, _, _, _, _, _, rfl, rfl, h⟩ dX5_angle_17
abbrev po_M_best (cA : ClassId) (a : Nat → Nat) (mPosts mThirds mStraight mLeast mIsGiven mActs mDone : Int) (mCorner mSum mAct mMark : Nat → Int) (Q : Int → Int → Int → (Nat → Int) → (Nat → Int) → (Nat → Int) → (Nat → Int) → (Nat → Int) → (Nat → Int) → Prop) : Int32 → va_W → Prop := fun r w => ∃ z mIsLaid' mQueued' mBeyond' mSpare' mLack' mBefore' mVia' mQueue', r = J z ∧ w = wM cA a mPosts mThirds mStraight mLeast mIsLaid' mIsGiven mActs mDone mQueued' mCorner mSum mBeyond' mAct mMark mSpare' mLack' mBefore' mVia' mQueue' ∧ Q z mIsLaid' mQueued' mBeyond' mSpare' mLack' mBefore' mVia' mQueue'
set_option maxRecDepth 4000 in
theorem w_M_best_8 {p : Program} {l : Launch} {e : Env} {s : State} {m : MethodId} {args : Array Value} {below : List Frame} {meth : Method} {c : Code} {D : va_G} {cA : ClassId} {A : Nat → Prop} {a : Nat → Nat} {mPosts mThirds mStraight mLeast mIsLaid mIsGiven mActs mDone : Int} {mCorner mSum mAct mMark : Nat → Int} (C : XC p s m args meth c cX5_best 2 RX5 (some .int) D cA A) {Q : Int → Int → Int → (Nat → Int) → (Nat → Int) → (Nat → Int) → (Nat → Int) → (Nat → Int) → (Nat → Int) → Prop}  : ∀ (n : Nat) (x1 : Int) (mQueued : Int) (mBeyond : Nat → Int) (mSpare : Nat → Int) (mLack : Nat → Int) (mBefore : Nat → Int) (mVia : Nat → Int) (mQueue : Nat → Int), wp_M_best_8 Q mPosts mThirds mStraight mCorner mSum mIsLaid n x1 mQueued mBeyond mSpare mLack mBefore mVia mQueue → ∀ (H : Heap) (locs : List Loc) (ls : Array Slot), XH D A s (wM cA a mPosts mThirds mStraight mLeast mIsLaid mIsGiven mActs mDone mQueued mCorner mSum mBeyond mAct mMark mSpare mLack mBefore mVia mQueue) H locs → lv_has ls 2 [(0, .ref (a 0)), (1, .int (J x1))] → W p l e rm_M_best s m args below meth c H locs 0 0 (MQ below (va_Qi (po_M_best cA a mPosts mThirds mStraight mLeast mIsGiven mActs mDone mCorner mSum mAct mMark Q) (xB D cA A) A) args s 0 0 A) (F0 m 8 ls []) := by
  intro n
  induction n with
  | zero => intro x1 mQueued mBeyond mSpare mLack mBefore mVia mQueue h; exact (show False from h).elim
  | succ n hK8 =>
    intro x1 mQueued mBeyond mSpare mLack mBefore mVia mQueue h H locs ls hH hl
    have h : wp_M_best_8_b  (wp_M_best_8 Q mPosts mThirds mStraight mCorner mSum mIsLaid n) Q mPosts mThirds mStraight mCorner mSum mIsLaid x1 mQueued mBeyond mSpare mLack mBefore mVia mQueue := h
    unfold wp_M_best_8_b at h
    refine j_iload_n C dX5_best_8 (lv_at hl 1 rfl) ?_
    refine j_iconst C dX5_best_9 ?_
    obtain ⟨g_1, h⟩ := h
    refine j_icmp_lt C 39 g_1 (by unfold jR; decide) dX5_best_10 (by decide) (fun c_2 => ?_) (fun c_2 => ?_)
    · have h := h.1 c_2
      refine j_bipush C (by decide +kernel) dX5_best_39 ?_
      exact j_iret C hH ⟨_, _, _, _, _, _, _, _, _, rfl, rfl, h⟩ dX5_best_41
    · have h := h.2 c_2
      refine j_iconst C dX5_best_13 ?_
      refine j_iload_n C dX5_best_14 (lv_at hl 1 rfl) ?_
      refine j_imul C dX5_best_15 ?_
      refine j_aload_n C dX5_best_16 (lv_at hl 0 rfl) ?_
      refine xg_X5_straight C hH dX5_best_17 ?_
      obtain ⟨g_3, h⟩ := h
      obtain ⟨g_4, h⟩ := h
      refine j_icmp_gt C 33 g_3 g_4 dX5_best_20 (by decide) (fun c_5 => ?_) (fun c_5 => ?_)
      · have h := h.1 c_5
        refine j_iinc (k := 1) (v := x1 + (-1)) (lv' := [(1, .int (J (x1 + (-1)))), (0, .ref (a 0))]) C dX5_best_33 hl rfl rfl (by decide) rfl (fun ls hl => ?_)
        refine j_goto C 8 dX5_best_36 (by decide) ?_
        exact hK8 (x1 + (-1)) mQueued mBeyond mSpare mLack mBefore mVia mQueue h _ _ _ hH (lv_sub hl [1, 0] rfl)
      · have h := h.2 c_5
        refine j_aload_n C dX5_best_23 (lv_at hl 0 rfl) ?_
        refine j_iload_n C dX5_best_24 (lv_at hl 1 rfl) ?_
        refine xcallV_i (As := [.int (J x1)]) (rest := []) (q0 := 0) C hH (fun sz => c_M_canWith h) xl_X5_156 rfl rfl ⟨rfl, rfl⟩ ⟨Nat.le_of_ble_eq_true rfl, Nat.le_of_ble_eq_true rfl⟩ hl.1 rfl rfl (Nat.le_of_ble_eq_true rfl) dX5_best_25 (fun r_ w_ H locs hw hH => ?_)
        obtain ⟨z_6, mQueued_7, mBeyond_8, mSpare_9, mLack_10, mBefore_11, mVia_12, mQueue_13, rfl, rfl, h⟩ := hw
        obtain ⟨g_14, h⟩ := h
        refine j_if_eq C 33 g_14 dX5_best_28 (by decide) (fun c_15 => ?_) (fun c_15 => ?_)
        · have h := h.1 c_15
          refine j_iinc (k := 1) (v := x1 + (-1)) (lv' := [(1, .int (J (x1 + (-1)))), (0, .ref (a 0))]) C dX5_best_33 hl rfl rfl (by decide) rfl (fun ls hl => ?_)
          refine j_goto C 8 dX5_best_36 (by decide) ?_
          exact hK8 (x1 + (-1)) mQueued_7 mBeyond_8 mSpare_9 mLack_10 mBefore_11 mVia_12 mQueue_13 h _ _ _ hH (lv_sub hl [1, 0] rfl)
        · have h := h.2 c_15
          refine j_iload_n C dX5_best_31 (lv_at hl 1 rfl) ?_
          exact j_iret C hH ⟨_, _, _, _, _, _, _, _, _, rfl, rfl, h⟩ dX5_best_32
set_option maxRecDepth 4000 in
theorem c_M_best {l : Launch} {D : va_G} {cA : ClassId} {a : Nat → Nat} {sz : Nat} {mPosts mThirds mStraight mLeast mIsLaid mIsGiven mActs mDone mQueued : Int} {mCorner mSum mBeyond mAct mMark mSpare mLack mBefore mVia mQueue : Nat → Int} {Q : Int → Int → Int → (Nat → Int) → (Nat → Int) → (Nat → Int) → (Nat → Int) → (Nat → Int) → (Nat → Int) → Prop} (h : wp_M_best  mPosts mThirds mStraight mIsLaid mQueued mCorner mSum mBeyond mSpare mLack mBefore mVia mQueue Q) : Met l yX5_best (.code yX5_best cX5_best 2 (some .int) :: lw_ok) rm_M_best (xPre D cA sz [.ref (a 0)] (wM cA a mPosts mThirds mStraight mLeast mIsLaid mIsGiven mActs mDone mQueued mCorner mSum mBeyond mAct mMark mSpare mLack mBefore mVia mQueue)) (va_Qi (po_M_best cA a mPosts mThirds mStraight mLeast mIsGiven mActs mDone mCorner mSum mAct mMark Q) (xB D cA (va_A (wM cA a mPosts mThirds mStraight mLeast mIsLaid mIsGiven mActs mDone mQueued mCorner mSum mBeyond mAct mMark mSpare mLack mBefore mVia mQueue) sz)) (va_A (wM cA a mPosts mThirds mStraight mLeast mIsLaid mIsGiven mActs mDone mQueued mCorner mSum mBeyond mAct mMark mSpare mLack mBefore mVia mQueue) sz)) 0 0 (va_A (wM cA a mPosts mThirds mStraight mLeast mIsLaid mIsGiven mActs mDone mQueued mCorner mSum mBeyond mAct mMark mSpare mLack mBefore mVia mQueue) sz) := by
  refine xmet_i (by decide) (Nat.le_of_ble_eq_true rfl) ?_
  intro p e s m args below meth c A ls C hH hl
  have C : XC p s m args meth c cX5_best 2 RX5 (some .int) D cA A := C
  have hl : lv_has ls 2 [(0, .ref (a 0))] := hl
  unfold wp_M_best at h
  refine j_aload_n C dX5_best_0 (lv_at hl 0 rfl) ?_
  refine j_iconst C dX5_best_1 ?_
  refine xp_X5_isLaid C hH (Or.inl rfl) dX5_best_2 (fun H locs hH => ?_)
  refine j_bipush C (by decide +kernel) dX5_best_5 ?_
  refine j_istore_n (lv' := [(1, .int (J 60)), (0, .ref (a 0))]) C dX5_best_7 hl (by decide) rfl (fun ls hl => ?_)
  obtain ⟨n_, h⟩ := h
  exact w_M_best_8 C  n_ 60 mQueued mBeyond mSpare mLack mBefore mVia mQueue h _ _ _ hH (lv_sub hl [1, 0] rfl)
abbrev po_M_thirdsBar (cA : ClassId) (a : Nat → Nat) (mPosts mThirds mStraight mLeast mIsLaid mIsGiven mActs mDone mQueued : Int) (mCorner mSum mBeyond mAct mMark mSpare mLack mBefore mVia mQueue : Nat → Int) (Q : Int → Prop) : Int32 → va_W → Prop := fun r w => ∃ z, r = J z ∧ w = wM cA a mPosts mThirds mStraight mLeast mIsLaid mIsGiven mActs mDone mQueued mCorner mSum mBeyond mAct mMark mSpare mLack mBefore mVia mQueue ∧ Q z
set_option maxRecDepth 4000 in
theorem w_M_thirdsBar_107 {p : Program} {l : Launch} {e : Env} {s : State} {m : MethodId} {args : Array Value} {below : List Frame} {meth : Method} {c : Code} {D : va_G} {cA : ClassId} {A : Nat → Prop} {a : Nat → Nat} {mPosts mThirds mStraight mLeast mIsLaid mIsGiven mActs mDone mQueued : Int} {mCorner mSum mBeyond mAct mMark mSpare mLack mBefore mVia mQueue : Nat → Int} (C : XC p s m args meth c cX5_thirdsBar 5 RX5 (some .boolean) D cA A) {Q : Int → Prop} {x1 : Int} {x2 : Int}  : ∀ (n : Nat) (x3 : Int) (x4 : Int), wp_M_thirdsBar_107 Q mThirds mStraight mLeast mCorner x1 x2 n x3 x4 → ∀ (H : Heap) (locs : List Loc) (ls : Array Slot), XH D A s (wM cA a mPosts mThirds mStraight mLeast mIsLaid mIsGiven mActs mDone mQueued mCorner mSum mBeyond mAct mMark mSpare mLack mBefore mVia mQueue) H locs → lv_has ls 5 [(0, .ref (a 0)), (1, .int (J x1)), (2, .int (J x2)), (3, .int (J x3)), (4, .int (J x4))] → W p l e rm_M_thirdsBar s m args below meth c H locs 0 0 (MQ below (va_Qi (po_M_thirdsBar cA a mPosts mThirds mStraight mLeast mIsLaid mIsGiven mActs mDone mQueued mCorner mSum mBeyond mAct mMark mSpare mLack mBefore mVia mQueue Q) (xB D cA A) A) args s 0 0 A) (F0 m 107 ls []) := by
  intro n
  induction n with
  | zero => intro x3 x4 h; exact (show False from h).elim
  | succ n hK107 =>
    intro x3 x4 h H locs ls hH hl
    have h : wp_M_thirdsBar_107_b  (wp_M_thirdsBar_107 Q mThirds mStraight mLeast mCorner x1 x2 n) Q mThirds mStraight mLeast mCorner x1 x2 x3 x4 := h
    unfold wp_M_thirdsBar_107_b at h
    refine j_iload C dX5_thirdsBar_107 (lv_at hl 4 rfl) ?_
    refine j_iconst C dX5_thirdsBar_109 ?_
    refine j_aload_n C dX5_thirdsBar_110 (lv_at hl 0 rfl) ?_
    refine xg_X5_thirds C hH dX5_thirdsBar_111 ?_
    refine j_imul C dX5_thirdsBar_114 ?_
    obtain ⟨g_1, h⟩ := h
    obtain ⟨g_2, h⟩ := h
    refine j_icmp_ge C 161 g_1 g_2 dX5_thirdsBar_115 (by decide) (fun c_3 => ?_) (fun c_3 => ?_)
    · have h := h.1 c_3
      refine j_aload_n C dX5_thirdsBar_161 (lv_at hl 0 rfl) ?_
      refine xg_X5_straight C hH dX5_thirdsBar_162 ?_
      refine j_iload_n C dX5_thirdsBar_165 (lv_at hl 1 rfl) ?_
      refine xcallS_i (As := [.int (J x1)]) (rest := [.int (J mStraight)]) C hH (fun sz => c_M_bits h) xl_X5_166 ⟨rfl, rfl⟩ ⟨Nat.le_of_ble_eq_true rfl, Nat.le_of_ble_eq_true rfl⟩ hl.1 rfl rfl (Nat.le_of_ble_eq_true rfl) dX5_thirdsBar_166 (fun r_ w_ H locs hw hH => ?_)
      obtain ⟨z_4, rfl, rfl, h⟩ := hw
      refine j_imul C dX5_thirdsBar_169 ?_
      refine j_iload_n C dX5_thirdsBar_170 (lv_at hl 3 rfl) ?_
      obtain ⟨g_5, h⟩ := h
      obtain ⟨g_6, h⟩ := h
      refine j_icmp_le C 178 g_5 g_6 dX5_thirdsBar_171 (by decide) (fun c_7 => ?_) (fun c_7 => ?_)
      · have h := h.1 c_7
        refine j_iconst C dX5_thirdsBar_178 ?_
        exact j_zret C hH (Or.inl rfl) ⟨_, rfl, rfl, h⟩ dX5_thirdsBar_179
      · have h := h.2 c_7
        refine j_iconst C dX5_thirdsBar_174 ?_
        refine j_goto C 179 dX5_thirdsBar_175 (by decide) ?_
        exact j_zret C hH (Or.inr rfl) ⟨_, rfl, rfl, h⟩ dX5_thirdsBar_179
    · have h := h.2 c_3
      refine j_iload_n C dX5_thirdsBar_118 (lv_at hl 3 rfl) ?_
      refine j_iload_n C dX5_thirdsBar_119 (lv_at hl 1 rfl) ?_
      refine j_iload C dX5_thirdsBar_120 (lv_at hl 4 rfl) ?_
      refine j_iconst C dX5_thirdsBar_122 ?_
      refine j_idiv C (by decide +kernel) dX5_thirdsBar_123 ?_
      refine j_ishr C dX5_thirdsBar_124 ?_
      refine j_iconst C dX5_thirdsBar_125 ?_
      refine j_iand C dX5_thirdsBar_126 ?_
      obtain ⟨g_8, h⟩ := h
      refine j_if_ne C 152 g_8 dX5_thirdsBar_127 (by decide) (fun c_9 => ?_) (fun c_9 => ?_)
      · have h := h.2 c_9
        refine j_iconst C dX5_thirdsBar_152 ?_
        refine j_isub C dX5_thirdsBar_153 ?_
        refine j_istore_n (lv' := [(3, .int (J (x3 - 0))), (0, .ref (a 0)), (1, .int (J x1)), (2, .int (J x2)), (4, .int (J x4))]) C dX5_thirdsBar_154 hl (by decide) rfl (fun ls hl => ?_)
        refine j_iinc (k := 4) (v := x4 + 1) (lv' := [(4, .int (J (x4 + 1))), (3, .int (J (x3 - 0))), (0, .ref (a 0)), (1, .int (J x1)), (2, .int (J x2))]) C dX5_thirdsBar_155 hl rfl rfl (by decide) rfl (fun ls hl => ?_)
        refine j_goto C 107 dX5_thirdsBar_158 (by decide) ?_
        exact hK107 (x3 - 0) (x4 + 1) h _ _ _ hH (lv_sub hl [2, 3, 4, 1, 0] rfl)
      · have h := h.1 c_9
        refine j_iload_n C dX5_thirdsBar_130 (lv_at hl 2 rfl) ?_
        refine j_aload_n C dX5_thirdsBar_131 (lv_at hl 0 rfl) ?_
        refine xg_X5_corner C hH dX5_thirdsBar_132 ?_
        refine j_iload C dX5_thirdsBar_135 (lv_at hl 4 rfl) ?_
        obtain ⟨b_10, h⟩ := h
        refine xa_mCorner C hH b_10 dX5_thirdsBar_137 ?_
        refine j_ishr C dX5_thirdsBar_138 ?_
        refine j_iconst C dX5_thirdsBar_139 ?_
        refine j_iand C dX5_thirdsBar_140 ?_
        refine j_iconst C dX5_thirdsBar_141 ?_
        obtain ⟨g_11, h⟩ := h
        refine j_icmp_ne C 152 g_11 (by unfold jR; decide) dX5_thirdsBar_142 (by decide) (fun c_12 => ?_) (fun c_12 => ?_)
        · have h := h.2 c_12
          refine j_iconst C dX5_thirdsBar_152 ?_
          refine j_isub C dX5_thirdsBar_153 ?_
          refine j_istore_n (lv' := [(3, .int (J (x3 - 0))), (0, .ref (a 0)), (1, .int (J x1)), (2, .int (J x2)), (4, .int (J x4))]) C dX5_thirdsBar_154 hl (by decide) rfl (fun ls hl => ?_)
          refine j_iinc (k := 4) (v := x4 + 1) (lv' := [(4, .int (J (x4 + 1))), (3, .int (J (x3 - 0))), (0, .ref (a 0)), (1, .int (J x1)), (2, .int (J x2))]) C dX5_thirdsBar_155 hl rfl rfl (by decide) rfl (fun ls hl => ?_)
          refine j_goto C 107 dX5_thirdsBar_158 (by decide) ?_
          exact hK107 (x3 - 0) (x4 + 1) h _ _ _ hH (lv_sub hl [2, 3, 4, 1, 0] rfl)
        · have h := h.1 c_12
          refine j_aload_n C dX5_thirdsBar_145 (lv_at hl 0 rfl) ?_
          refine xg_X5_least C hH dX5_thirdsBar_146 ?_
          refine j_goto C 153 dX5_thirdsBar_149 (by decide) ?_
          refine j_isub C dX5_thirdsBar_153 ?_
          refine j_istore_n (lv' := [(3, .int (J (x3 - mLeast))), (0, .ref (a 0)), (1, .int (J x1)), (2, .int (J x2)), (4, .int (J x4))]) C dX5_thirdsBar_154 hl (by decide) rfl (fun ls hl => ?_)
          refine j_iinc (k := 4) (v := x4 + 1) (lv' := [(4, .int (J (x4 + 1))), (3, .int (J (x3 - mLeast))), (0, .ref (a 0)), (1, .int (J x1)), (2, .int (J x2))]) C dX5_thirdsBar_155 hl rfl rfl (by decide) rfl (fun ls hl => ?_)
          refine j_goto C 107 dX5_thirdsBar_158 (by decide) ?_
          exact hK107 (x3 - mLeast) (x4 + 1) h _ _ _ hH (lv_sub hl [2, 3, 4, 1, 0] rfl)
set_option maxRecDepth 4000 in
theorem w_M_thirdsBar_65 {p : Program} {l : Launch} {e : Env} {s : State} {m : MethodId} {args : Array Value} {below : List Frame} {meth : Method} {c : Code} {D : va_G} {cA : ClassId} {A : Nat → Prop} {a : Nat → Nat} {mPosts mThirds mStraight mLeast mIsLaid mIsGiven mActs mDone mQueued : Int} {mCorner mSum mBeyond mAct mMark mSpare mLack mBefore mVia mQueue : Nat → Int} (C : XC p s m args meth c cX5_thirdsBar 5 RX5 (some .boolean) D cA A) {Q : Int → Prop} {x1 : Int} {x2 : Int}  : ∀ (n : Nat) (x3 : Int) (x4 : Int), wp_M_thirdsBar_65 Q mPosts mThirds mStraight mLeast mCorner mSum x1 x2 n x3 x4 → ∀ (H : Heap) (locs : List Loc) (ls : Array Slot), XH D A s (wM cA a mPosts mThirds mStraight mLeast mIsLaid mIsGiven mActs mDone mQueued mCorner mSum mBeyond mAct mMark mSpare mLack mBefore mVia mQueue) H locs → lv_has ls 5 [(0, .ref (a 0)), (1, .int (J x1)), (2, .int (J x2)), (3, .int (J x3)), (4, .int (J x4))] → W p l e rm_M_thirdsBar s m args below meth c H locs 0 0 (MQ below (va_Qi (po_M_thirdsBar cA a mPosts mThirds mStraight mLeast mIsLaid mIsGiven mActs mDone mQueued mCorner mSum mBeyond mAct mMark mSpare mLack mBefore mVia mQueue Q) (xB D cA A) A) args s 0 0 A) (F0 m 65 ls []) := by
  intro n
  induction n with
  | zero => intro x3 x4 h; exact (show False from h).elim
  | succ n hK65 =>
    intro x3 x4 h H locs ls hH hl
    have h : wp_M_thirdsBar_65_b  (wp_M_thirdsBar_65 Q mPosts mThirds mStraight mLeast mCorner mSum x1 x2 n) Q mPosts mThirds mStraight mLeast mCorner mSum x1 x2 x3 x4 := h
    unfold wp_M_thirdsBar_65_b at h
    refine j_iload C dX5_thirdsBar_65 (lv_at hl 4 rfl) ?_
    refine j_aload_n C dX5_thirdsBar_67 (lv_at hl 0 rfl) ?_
    refine xg_X5_posts C hH dX5_thirdsBar_68 ?_
    obtain ⟨g_13, h⟩ := h
    obtain ⟨g_14, h⟩ := h
    refine j_icmp_ge C 104 g_13 g_14 dX5_thirdsBar_71 (by decide) (fun c_15 => ?_) (fun c_15 => ?_)
    · have h := h.1 c_15
      refine j_iconst C dX5_thirdsBar_104 ?_
      refine j_istore (lv' := [(4, .int (J 0)), (0, .ref (a 0)), (1, .int (J x1)), (2, .int (J x2)), (3, .int (J x3))]) C dX5_thirdsBar_105 hl (by decide) rfl (fun ls hl => ?_)
      obtain ⟨n_, h⟩ := h
      exact w_M_thirdsBar_107 C  n_ x3 0 h _ _ _ hH (lv_sub hl [1, 2, 3, 4, 0] rfl)
    · have h := h.2 c_15
      refine j_iload_n C dX5_thirdsBar_74 (lv_at hl 3 rfl) ?_
      refine j_iload_n C dX5_thirdsBar_75 (lv_at hl 2 rfl) ?_
      refine j_iload C dX5_thirdsBar_76 (lv_at hl 4 rfl) ?_
      refine j_ishr C dX5_thirdsBar_78 ?_
      refine j_iconst C dX5_thirdsBar_79 ?_
      refine j_iand C dX5_thirdsBar_80 ?_
      refine j_iconst C dX5_thirdsBar_81 ?_
      obtain ⟨g_16, h⟩ := h
      refine j_icmp_ne C 95 g_16 (by unfold jR; decide) dX5_thirdsBar_82 (by decide) (fun c_17 => ?_) (fun c_17 => ?_)
      · have h := h.2 c_17
        refine j_iconst C dX5_thirdsBar_95 ?_
        refine j_iadd C dX5_thirdsBar_96 ?_
        refine j_istore_n (lv' := [(3, .int (J (x3 + 0))), (0, .ref (a 0)), (1, .int (J x1)), (2, .int (J x2)), (4, .int (J x4))]) C dX5_thirdsBar_97 hl (by decide) rfl (fun ls hl => ?_)
        refine j_iinc (k := 4) (v := x4 + 1) (lv' := [(4, .int (J (x4 + 1))), (3, .int (J (x3 + 0))), (0, .ref (a 0)), (1, .int (J x1)), (2, .int (J x2))]) C dX5_thirdsBar_98 hl rfl rfl (by decide) rfl (fun ls hl => ?_)
        refine j_goto C 65 dX5_thirdsBar_101 (by decide) ?_
        exact hK65 (x3 + 0) (x4 + 1) h _ _ _ hH (lv_sub hl [2, 3, 4, 1, 0] rfl)
      · have h := h.1 c_17
        refine j_aload_n C dX5_thirdsBar_85 (lv_at hl 0 rfl) ?_
        refine xg_X5_sum C hH dX5_thirdsBar_86 ?_
        refine j_iload C dX5_thirdsBar_89 (lv_at hl 4 rfl) ?_
        obtain ⟨b_18, h⟩ := h
        refine xa_mSum C hH b_18 dX5_thirdsBar_91 ?_
        refine j_goto C 96 dX5_thirdsBar_92 (by decide) ?_
        refine j_iadd C dX5_thirdsBar_96 ?_
        refine j_istore_n (lv' := [(3, .int (J (x3 + (mSum x4.toNat)))), (0, .ref (a 0)), (1, .int (J x1)), (2, .int (J x2)), (4, .int (J x4))]) C dX5_thirdsBar_97 hl (by decide) rfl (fun ls hl => ?_)
        refine j_iinc (k := 4) (v := x4 + 1) (lv' := [(4, .int (J (x4 + 1))), (3, .int (J (x3 + (mSum x4.toNat)))), (0, .ref (a 0)), (1, .int (J x1)), (2, .int (J x2))]) C dX5_thirdsBar_98 hl rfl rfl (by decide) rfl (fun ls hl => ?_)
        refine j_goto C 65 dX5_thirdsBar_101 (by decide) ?_
        exact hK65 (x3 + (mSum x4.toNat)) (x4 + 1) h _ _ _ hH (lv_sub hl [2, 3, 4, 1, 0] rfl)
set_option maxRecDepth 4000 in
theorem w_M_thirdsBar_4 {p : Program} {l : Launch} {e : Env} {s : State} {m : MethodId} {args : Array Value} {below : List Frame} {meth : Method} {c : Code} {D : va_G} {cA : ClassId} {A : Nat → Prop} {a : Nat → Nat} {mPosts mThirds mStraight mLeast mIsLaid mIsGiven mActs mDone mQueued : Int} {mCorner mSum mBeyond mAct mMark mSpare mLack mBefore mVia mQueue : Nat → Int} (C : XC p s m args meth c cX5_thirdsBar 5 RX5 (some .boolean) D cA A) {Q : Int → Prop} {x1 : Int}  : ∀ (n : Nat) (x2 : Int) (x3 : Int), wp_M_thirdsBar_4 Q mPosts mThirds mStraight mLeast mCorner mSum x1 n x2 x3 → ∀ (H : Heap) (locs : List Loc) (ls : Array Slot), XH D A s (wM cA a mPosts mThirds mStraight mLeast mIsLaid mIsGiven mActs mDone mQueued mCorner mSum mBeyond mAct mMark mSpare mLack mBefore mVia mQueue) H locs → lv_has ls 5 [(0, .ref (a 0)), (1, .int (J x1)), (2, .int (J x2)), (3, .int (J x3))] → W p l e rm_M_thirdsBar s m args below meth c H locs 0 0 (MQ below (va_Qi (po_M_thirdsBar cA a mPosts mThirds mStraight mLeast mIsLaid mIsGiven mActs mDone mQueued mCorner mSum mBeyond mAct mMark mSpare mLack mBefore mVia mQueue Q) (xB D cA A) A) args s 0 0 A) (F0 m 4 ls []) := by
  intro n
  induction n with
  | zero => intro x2 x3 h; exact (show False from h).elim
  | succ n hK4 =>
    intro x2 x3 h H locs ls hH hl
    have h : wp_M_thirdsBar_4_b  (wp_M_thirdsBar_4 Q mPosts mThirds mStraight mLeast mCorner mSum x1 n) Q mPosts mThirds mStraight mLeast mCorner mSum x1 x2 x3 := h
    unfold wp_M_thirdsBar_4_b at h
    refine j_iload_n C dX5_thirdsBar_4 (lv_at hl 3 rfl) ?_
    refine j_iconst C dX5_thirdsBar_5 ?_
    refine j_aload_n C dX5_thirdsBar_6 (lv_at hl 0 rfl) ?_
    refine xg_X5_thirds C hH dX5_thirdsBar_7 ?_
    refine j_imul C dX5_thirdsBar_10 ?_
    obtain ⟨g_19, h⟩ := h
    obtain ⟨g_20, h⟩ := h
    refine j_icmp_ge C 60 g_19 g_20 dX5_thirdsBar_11 (by decide) (fun c_21 => ?_) (fun c_21 => ?_)
    · have h := h.1 c_21
      refine j_iconst C dX5_thirdsBar_60 ?_
      refine j_istore_n (lv' := [(3, .int (J 0)), (0, .ref (a 0)), (1, .int (J x1)), (2, .int (J x2))]) C dX5_thirdsBar_61 hl (by decide) rfl (fun ls hl => ?_)
      refine j_iconst C dX5_thirdsBar_62 ?_
      refine j_istore (lv' := [(4, .int (J 0)), (3, .int (J 0)), (0, .ref (a 0)), (1, .int (J x1)), (2, .int (J x2))]) C dX5_thirdsBar_63 hl (by decide) rfl (fun ls hl => ?_)
      obtain ⟨n_, h⟩ := h
      exact w_M_thirdsBar_65 C  n_ 0 0 h _ _ _ hH (lv_sub hl [2, 3, 4, 1, 0] rfl)
    · have h := h.2 c_21
      refine j_iload_n C dX5_thirdsBar_14 (lv_at hl 1 rfl) ?_
      refine j_iload_n C dX5_thirdsBar_15 (lv_at hl 3 rfl) ?_
      refine j_iconst C dX5_thirdsBar_16 ?_
      refine j_idiv C (by decide +kernel) dX5_thirdsBar_17 ?_
      refine j_ishr C dX5_thirdsBar_18 ?_
      refine j_iconst C dX5_thirdsBar_19 ?_
      refine j_iand C dX5_thirdsBar_20 ?_
      refine j_iconst C dX5_thirdsBar_21 ?_
      obtain ⟨g_22, h⟩ := h
      refine j_icmp_ne C 54 g_22 (by unfold jR; decide) dX5_thirdsBar_22 (by decide) (fun c_23 => ?_) (fun c_23 => ?_)
      · have h := h.2 c_23
        refine j_iinc (k := 3) (v := x3 + 1) (lv' := [(3, .int (J (x3 + 1))), (0, .ref (a 0)), (1, .int (J x1)), (2, .int (J x2))]) C dX5_thirdsBar_54 hl rfl rfl (by decide) rfl (fun ls hl => ?_)
        refine j_goto C 4 dX5_thirdsBar_57 (by decide) ?_
        exact hK4 x2 (x3 + 1) h _ _ _ hH (lv_sub hl [1, 2, 3, 0] rfl)
      · have h := h.1 c_23
        refine j_aload_n C dX5_thirdsBar_25 (lv_at hl 0 rfl) ?_
        refine xg_X5_sum C hH dX5_thirdsBar_26 ?_
        refine j_aload_n C dX5_thirdsBar_29 (lv_at hl 0 rfl) ?_
        refine xg_X5_corner C hH dX5_thirdsBar_30 ?_
        refine j_iload_n C dX5_thirdsBar_33 (lv_at hl 3 rfl) ?_
        obtain ⟨b_24, h⟩ := h
        refine xa_mCorner C hH b_24 dX5_thirdsBar_34 ?_
        obtain ⟨b_25, h⟩ := h
        refine xa_mSum C hH b_25 dX5_thirdsBar_35 ?_
        refine j_bipush C (by decide +kernel) dX5_thirdsBar_36 ?_
        obtain ⟨g_26, h⟩ := h
        refine j_icmp_ne C 43 g_26 (by unfold jR; decide) dX5_thirdsBar_38 (by decide) (fun c_27 => ?_) (fun c_27 => ?_)
        · have h := h.2 c_27
          refine j_iload_n C dX5_thirdsBar_43 (lv_at hl 2 rfl) ?_
          refine j_iconst C dX5_thirdsBar_44 ?_
          refine j_aload_n C dX5_thirdsBar_45 (lv_at hl 0 rfl) ?_
          refine xg_X5_corner C hH dX5_thirdsBar_46 ?_
          refine j_iload_n C dX5_thirdsBar_49 (lv_at hl 3 rfl) ?_
          refine xa_mCorner C hH b_24 dX5_thirdsBar_50 ?_
          refine j_ishl C dX5_thirdsBar_51 ?_
          refine j_ior C dX5_thirdsBar_52 ?_
          refine j_istore_n (lv' := [(2, .int (J (jor x2 (jshl 1 (mCorner x3.toNat))))), (0, .ref (a 0)), (1, .int (J x1)), (3, .int (J x3))]) C dX5_thirdsBar_53 hl (by decide) rfl (fun ls hl => ?_)
          refine j_iinc (k := 3) (v := x3 + 1) (lv' := [(3, .int (J (x3 + 1))), (2, .int (J (jor x2 (jshl 1 (mCorner x3.toNat))))), (0, .ref (a 0)), (1, .int (J x1))]) C dX5_thirdsBar_54 hl rfl rfl (by decide) rfl (fun ls hl => ?_)
          refine j_goto C 4 dX5_thirdsBar_57 (by decide) ?_
          exact hK4 (jor x2 (jshl 1 (mCorner x3.toNat))) (x3 + 1) h _ _ _ hH (lv_sub hl [2, 3, 1, 0] rfl)
        · have h := h.1 c_27
          refine j_iconst C dX5_thirdsBar_41 ?_
          exact j_zret C hH (Or.inl rfl) ⟨_, rfl, rfl, h⟩ dX5_thirdsBar_42
set_option maxRecDepth 4000 in
theorem c_M_thirdsBar {l : Launch} {D : va_G} {cA : ClassId} {a : Nat → Nat} {sz : Nat} {mPosts mThirds mStraight mLeast mIsLaid mIsGiven mActs mDone mQueued : Int} {mCorner mSum mBeyond mAct mMark mSpare mLack mBefore mVia mQueue : Nat → Int} {x1 : Int} {Q : Int → Prop} (h : wp_M_thirdsBar x1 mPosts mThirds mStraight mLeast mCorner mSum Q) : Met l yX5_thirdsBar (.code yX5_thirdsBar cX5_thirdsBar 5 (some .boolean) :: lw_ok) rm_M_thirdsBar (xPre D cA sz [.ref (a 0), .int (J x1)] (wM cA a mPosts mThirds mStraight mLeast mIsLaid mIsGiven mActs mDone mQueued mCorner mSum mBeyond mAct mMark mSpare mLack mBefore mVia mQueue)) (va_Qi (po_M_thirdsBar cA a mPosts mThirds mStraight mLeast mIsLaid mIsGiven mActs mDone mQueued mCorner mSum mBeyond mAct mMark mSpare mLack mBefore mVia mQueue Q) (xB D cA (va_A (wM cA a mPosts mThirds mStraight mLeast mIsLaid mIsGiven mActs mDone mQueued mCorner mSum mBeyond mAct mMark mSpare mLack mBefore mVia mQueue) sz)) (va_A (wM cA a mPosts mThirds mStraight mLeast mIsLaid mIsGiven mActs mDone mQueued mCorner mSum mBeyond mAct mMark mSpare mLack mBefore mVia mQueue) sz)) 0 0 (va_A (wM cA a mPosts mThirds mStraight mLeast mIsLaid mIsGiven mActs mDone mQueued mCorner mSum mBeyond mAct mMark mSpare mLack mBefore mVia mQueue) sz) := by
  refine xmet_i (by decide) (Nat.le_of_ble_eq_true rfl) ?_
  intro p e s m args below meth c A ls C hH hl
  have C : XC p s m args meth c cX5_thirdsBar 5 RX5 (some .boolean) D cA A := C
  have hl : lv_has ls 5 [(0, .ref (a 0)), (1, .int (J x1))] := hl
  unfold wp_M_thirdsBar at h
  refine j_iconst C dX5_thirdsBar_0 ?_
  refine j_istore_n (lv' := [(2, .int (J 0)), (0, .ref (a 0)), (1, .int (J x1))]) C dX5_thirdsBar_1 hl (by decide) rfl (fun ls hl => ?_)
  refine j_iconst C dX5_thirdsBar_2 ?_
  refine j_istore_n (lv' := [(3, .int (J 0)), (2, .int (J 0)), (0, .ref (a 0)), (1, .int (J x1))]) C dX5_thirdsBar_3 hl (by decide) rfl (fun ls hl => ?_)
  obtain ⟨n_, h⟩ := h
  exact w_M_thirdsBar_4 C  n_ 0 0 h _ _ _ hH (lv_sub hl [2, 3, 1, 0] rfl)
abbrev po_M_postsBar (cA : ClassId) (a : Nat → Nat) (mPosts mThirds mStraight mLeast mIsLaid mIsGiven mActs mDone mQueued : Int) (mCorner mSum mBeyond mAct mMark mSpare mLack mBefore mVia mQueue : Nat → Int) (Q : Int → Prop) : Int32 → va_W → Prop := fun r w => ∃ z, r = J z ∧ w = wM cA a mPosts mThirds mStraight mLeast mIsLaid mIsGiven mActs mDone mQueued mCorner mSum mBeyond mAct mMark mSpare mLack mBefore mVia mQueue ∧ Q z
set_option maxRecDepth 4000 in
theorem w_M_postsBar_136 {p : Program} {l : Launch} {e : Env} {s : State} {m : MethodId} {args : Array Value} {below : List Frame} {meth : Method} {c : Code} {D : va_G} {cA : ClassId} {A : Nat → Prop} {a : Nat → Nat} {mPosts mThirds mStraight mLeast mIsLaid mIsGiven mActs mDone mQueued : Int} {mCorner mSum mBeyond mAct mMark mSpare mLack mBefore mVia mQueue : Nat → Int} (C : XC p s m args meth c cX5_postsBar 9 RX5 (some .boolean) D cA A) {K63 : Int → Int → Int → Prop} {Q : Int → Prop} {x1 : Int} {x2 : Int} {x3 : Int}  (hK63 : ∀ (x4 : Int) (x5 : Int) (x6 : Int), K63 x4 x5 x6 → ∀ (H : Heap) (locs : List Loc) (ls : Array Slot), XH D A s (wM cA a mPosts mThirds mStraight mLeast mIsLaid mIsGiven mActs mDone mQueued mCorner mSum mBeyond mAct mMark mSpare mLack mBefore mVia mQueue) H locs → lv_has ls 9 [(0, .ref (a 0)), (1, .int (J x1)), (2, .int (J x2)), (3, .int (J x3)), (4, .int (J x4)), (5, .int (J x5)), (6, .int (J x6))] → W p l e rm_M_postsBar s m args below meth c H locs 0 0 (MQ below (va_Qi (po_M_postsBar cA a mPosts mThirds mStraight mLeast mIsLaid mIsGiven mActs mDone mQueued mCorner mSum mBeyond mAct mMark mSpare mLack mBefore mVia mQueue Q) (xB D cA A) A) args s 0 0 A) (F0 m 63 ls [])) : ∀ (x5 : Int) (x6 : Int) (x7 : Int) (t0 : Int) (t1 : Int), wp_M_postsBar_136 K63 Q mThirds mStraight mLeast mCorner x1 x2 x3 x5 x6 x7 t0 t1 → ∀ (H : Heap) (locs : List Loc) (ls : Array Slot), XH D A s (wM cA a mPosts mThirds mStraight mLeast mIsLaid mIsGiven mActs mDone mQueued mCorner mSum mBeyond mAct mMark mSpare mLack mBefore mVia mQueue) H locs → lv_has ls 9 [(0, .ref (a 0)), (1, .int (J x1)), (2, .int (J x2)), (3, .int (J x3)), (5, .int (J x5)), (6, .int (J x6)), (7, .int (J x7))] → W p l e rm_M_postsBar s m args below meth c H locs 0 0 (MQ below (va_Qi (po_M_postsBar cA a mPosts mThirds mStraight mLeast mIsLaid mIsGiven mActs mDone mQueued mCorner mSum mBeyond mAct mMark mSpare mLack mBefore mVia mQueue Q) (xB D cA A) A) args s 0 0 A) (F0 m 136 ls [.int (J t1), .int (J t0)]) := by
  intro x5 x6 x7 t0 t1 h H locs ls hH hl
  unfold wp_M_postsBar_136 at h
  refine j_iadd C dX5_postsBar_136 ?_
  refine j_istore (lv' := [(4, .int (J (t0 + t1))), (0, .ref (a 0)), (1, .int (J x1)), (2, .int (J x2)), (3, .int (J x3)), (5, .int (J x5)), (6, .int (J x6)), (7, .int (J x7))]) C dX5_postsBar_137 hl (by decide) rfl (fun ls hl => ?_)
  refine j_iload C dX5_postsBar_139 (lv_at hl 5 rfl) ?_
  refine j_iload C dX5_postsBar_141 (lv_at hl 7 rfl) ?_
  refine j_iconst C dX5_postsBar_143 ?_
  obtain ⟨g_1, h⟩ := h
  refine j_icmp_ne C 154 g_1 (by unfold jR; decide) dX5_postsBar_144 (by decide) (fun c_2 => ?_) (fun c_2 => ?_)
  · have h := h.2 c_2
    refine j_aload_n C dX5_postsBar_154 (lv_at hl 1 rfl) ?_
    refine xg_X5_least C hH dX5_postsBar_155 ?_
    refine j_iload C dX5_postsBar_158 (lv_at hl 7 rfl) ?_
    refine j_imul C dX5_postsBar_160 ?_
    refine j_iadd C dX5_postsBar_161 ?_
    refine j_istore (lv' := [(5, .int (J (x5 + (mLeast * x7)))), (4, .int (J (t0 + t1))), (0, .ref (a 0)), (1, .int (J x1)), (2, .int (J x2)), (3, .int (J x3)), (6, .int (J x6)), (7, .int (J x7))]) C dX5_postsBar_162 hl (by decide) rfl (fun ls hl => ?_)
    refine j_iinc (k := 6) (v := x6 + 1) (lv' := [(6, .int (J (x6 + 1))), (5, .int (J (x5 + (mLeast * x7)))), (4, .int (J (t0 + t1))), (0, .ref (a 0)), (1, .int (J x1)), (2, .int (J x2)), (3, .int (J x3)), (7, .int (J x7))]) C dX5_postsBar_164 hl rfl rfl (by decide) rfl (fun ls hl => ?_)
    refine j_goto C 63 dX5_postsBar_167 (by decide) ?_
    exact hK63 (t0 + t1) (x5 + (mLeast * x7)) (x6 + 1) h _ _ _ hH (lv_sub hl [3, 4, 5, 6, 2, 1, 0] rfl)
  · have h := h.1 c_2
    refine j_aload_n C dX5_postsBar_147 (lv_at hl 1 rfl) ?_
    refine xg_X5_straight C hH dX5_postsBar_148 ?_
    refine j_goto C 161 dX5_postsBar_151 (by decide) ?_
    refine j_iadd C dX5_postsBar_161 ?_
    refine j_istore (lv' := [(5, .int (J (x5 + mStraight))), (4, .int (J (t0 + t1))), (0, .ref (a 0)), (1, .int (J x1)), (2, .int (J x2)), (3, .int (J x3)), (6, .int (J x6)), (7, .int (J x7))]) C dX5_postsBar_162 hl (by decide) rfl (fun ls hl => ?_)
    refine j_iinc (k := 6) (v := x6 + 1) (lv' := [(6, .int (J (x6 + 1))), (5, .int (J (x5 + mStraight))), (4, .int (J (t0 + t1))), (0, .ref (a 0)), (1, .int (J x1)), (2, .int (J x2)), (3, .int (J x3)), (7, .int (J x7))]) C dX5_postsBar_164 hl rfl rfl (by decide) rfl (fun ls hl => ?_)
    refine j_goto C 63 dX5_postsBar_167 (by decide) ?_
    exact hK63 (t0 + t1) (x5 + mStraight) (x6 + 1) h _ _ _ hH (lv_sub hl [3, 4, 5, 6, 2, 1, 0] rfl)
set_option maxRecDepth 4000 in
theorem w_M_postsBar_78 {p : Program} {l : Launch} {e : Env} {s : State} {m : MethodId} {args : Array Value} {below : List Frame} {meth : Method} {c : Code} {D : va_G} {cA : ClassId} {A : Nat → Prop} {a : Nat → Nat} {mPosts mThirds mStraight mLeast mIsLaid mIsGiven mActs mDone mQueued : Int} {mCorner mSum mBeyond mAct mMark mSpare mLack mBefore mVia mQueue : Nat → Int} (C : XC p s m args meth c cX5_postsBar 9 RX5 (some .boolean) D cA A) {K63 : Int → Int → Int → Prop} {Q : Int → Prop} {x1 : Int} {x2 : Int} {x3 : Int} {x4 : Int} {x5 : Int} {x6 : Int}  (hK63 : ∀ (x4 : Int) (x5 : Int) (x6 : Int), K63 x4 x5 x6 → ∀ (H : Heap) (locs : List Loc) (ls : Array Slot), XH D A s (wM cA a mPosts mThirds mStraight mLeast mIsLaid mIsGiven mActs mDone mQueued mCorner mSum mBeyond mAct mMark mSpare mLack mBefore mVia mQueue) H locs → lv_has ls 9 [(0, .ref (a 0)), (1, .int (J x1)), (2, .int (J x2)), (3, .int (J x3)), (4, .int (J x4)), (5, .int (J x5)), (6, .int (J x6))] → W p l e rm_M_postsBar s m args below meth c H locs 0 0 (MQ below (va_Qi (po_M_postsBar cA a mPosts mThirds mStraight mLeast mIsLaid mIsGiven mActs mDone mQueued mCorner mSum mBeyond mAct mMark mSpare mLack mBefore mVia mQueue Q) (xB D cA A) A) args s 0 0 A) (F0 m 63 ls [])) : ∀ (n : Nat) (x7 : Int) (x8 : Int), wp_M_postsBar_78 K63 Q mThirds mStraight mLeast mCorner x1 x2 x3 x4 x5 x6 n x7 x8 → ∀ (H : Heap) (locs : List Loc) (ls : Array Slot), XH D A s (wM cA a mPosts mThirds mStraight mLeast mIsLaid mIsGiven mActs mDone mQueued mCorner mSum mBeyond mAct mMark mSpare mLack mBefore mVia mQueue) H locs → lv_has ls 9 [(0, .ref (a 0)), (1, .int (J x1)), (2, .int (J x2)), (3, .int (J x3)), (4, .int (J x4)), (5, .int (J x5)), (6, .int (J x6)), (7, .int (J x7)), (8, .int (J x8))] → W p l e rm_M_postsBar s m args below meth c H locs 0 0 (MQ below (va_Qi (po_M_postsBar cA a mPosts mThirds mStraight mLeast mIsLaid mIsGiven mActs mDone mQueued mCorner mSum mBeyond mAct mMark mSpare mLack mBefore mVia mQueue Q) (xB D cA A) A) args s 0 0 A) (F0 m 78 ls []) := by
  intro n
  induction n with
  | zero => intro x7 x8 h; exact (show False from h).elim
  | succ n hK78 =>
    intro x7 x8 h H locs ls hH hl
    have h : wp_M_postsBar_78_b K63 (wp_M_postsBar_78 K63 Q mThirds mStraight mLeast mCorner x1 x2 x3 x4 x5 x6 n) Q mThirds mStraight mLeast mCorner x1 x2 x3 x4 x5 x6 x7 x8 := h
    unfold wp_M_postsBar_78_b at h
    refine j_iload C dX5_postsBar_78 (lv_at hl 8 rfl) ?_
    refine j_iconst C dX5_postsBar_80 ?_
    obtain ⟨g_3, h⟩ := h
    refine j_icmp_ge C 111 g_3 (by unfold jR; decide) dX5_postsBar_81 (by decide) (fun c_4 => ?_) (fun c_4 => ?_)
    · have h := h.1 c_4
      refine j_iload C dX5_postsBar_111 (lv_at hl 4 rfl) ?_
      refine j_iload C dX5_postsBar_113 (lv_at hl 7 rfl) ?_
      obtain ⟨g_5, h⟩ := h
      refine j_if_ne C 122 g_5 dX5_postsBar_115 (by decide) (fun c_6 => ?_) (fun c_6 => ?_)
      · have h := h.2 c_6
        refine j_aload_n C dX5_postsBar_122 (lv_at hl 0 rfl) ?_
        refine xg_X5_straight C hH dX5_postsBar_123 ?_
        refine j_aload_n C dX5_postsBar_126 (lv_at hl 0 rfl) ?_
        refine xg_X5_least C hH dX5_postsBar_127 ?_
        refine j_iconst C dX5_postsBar_130 ?_
        refine j_iload C dX5_postsBar_131 (lv_at hl 7 rfl) ?_
        refine j_isub C dX5_postsBar_133 ?_
        refine j_imul C dX5_postsBar_134 ?_
        refine j_isub C dX5_postsBar_135 ?_
        exact w_M_postsBar_136 C hK63 x5 x6 x7 x4 (mStraight - (mLeast * (3 - x7))) h _ _ _ hH (lv_sub hl [0, 1, 2, 3, 5, 6, 7] rfl)
      · have h := h.1 c_6
        refine j_iconst C dX5_postsBar_118 ?_
        refine j_goto C 136 dX5_postsBar_119 (by decide) ?_
        exact w_M_postsBar_136 C hK63 x5 x6 x7 x4 0 h _ _ _ hH (lv_sub hl [0, 1, 2, 3, 5, 6, 7] rfl)
    · have h := h.2 c_4
      refine j_iload C dX5_postsBar_84 (lv_at hl 7 rfl) ?_
      refine j_iload_n C dX5_postsBar_86 (lv_at hl 1 rfl) ?_
      refine j_aload_n C dX5_postsBar_87 (lv_at hl 0 rfl) ?_
      refine xg_X5_corner C hH dX5_postsBar_88 ?_
      refine j_iconst C dX5_postsBar_91 ?_
      refine j_iload C dX5_postsBar_92 (lv_at hl 6 rfl) ?_
      refine j_imul C dX5_postsBar_94 ?_
      refine j_iload C dX5_postsBar_95 (lv_at hl 8 rfl) ?_
      refine j_iadd C dX5_postsBar_97 ?_
      obtain ⟨b_7, h⟩ := h
      refine xa_mCorner C hH b_7 dX5_postsBar_98 ?_
      refine j_ishr C dX5_postsBar_99 ?_
      refine j_iconst C dX5_postsBar_100 ?_
      refine j_iand C dX5_postsBar_101 ?_
      refine j_iadd C dX5_postsBar_102 ?_
      refine j_istore (lv' := [(7, .int (J (x7 + (jand (jshr x1 (mCorner ((3 * x6) + x8).toNat)) 1)))), (0, .ref (a 0)), (1, .int (J x1)), (2, .int (J x2)), (3, .int (J x3)), (4, .int (J x4)), (5, .int (J x5)), (6, .int (J x6)), (8, .int (J x8))]) C dX5_postsBar_103 hl (by decide) rfl (fun ls hl => ?_)
      refine j_iinc (k := 8) (v := x8 + 1) (lv' := [(8, .int (J (x8 + 1))), (7, .int (J (x7 + (jand (jshr x1 (mCorner ((3 * x6) + x8).toNat)) 1)))), (0, .ref (a 0)), (1, .int (J x1)), (2, .int (J x2)), (3, .int (J x3)), (4, .int (J x4)), (5, .int (J x5)), (6, .int (J x6))]) C dX5_postsBar_105 hl rfl rfl (by decide) rfl (fun ls hl => ?_)
      refine j_goto C 78 dX5_postsBar_108 (by decide) ?_
      exact hK78 (x7 + (jand (jshr x1 (mCorner ((3 * x6) + x8).toNat)) 1)) (x8 + 1) h _ _ _ hH (lv_sub hl [2, 3, 4, 5, 6, 7, 8, 1, 0] rfl)
set_option maxRecDepth 4000 in
theorem w_M_postsBar_63 {p : Program} {l : Launch} {e : Env} {s : State} {m : MethodId} {args : Array Value} {below : List Frame} {meth : Method} {c : Code} {D : va_G} {cA : ClassId} {A : Nat → Prop} {a : Nat → Nat} {mPosts mThirds mStraight mLeast mIsLaid mIsGiven mActs mDone mQueued : Int} {mCorner mSum mBeyond mAct mMark mSpare mLack mBefore mVia mQueue : Nat → Int} (C : XC p s m args meth c cX5_postsBar 9 RX5 (some .boolean) D cA A) {Q : Int → Prop} {x1 : Int} {x2 : Int} {x3 : Int}  : ∀ (n : Nat) (x4 : Int) (x5 : Int) (x6 : Int), wp_M_postsBar_63 Q mThirds mStraight mLeast mCorner x1 x2 x3 n x4 x5 x6 → ∀ (H : Heap) (locs : List Loc) (ls : Array Slot), XH D A s (wM cA a mPosts mThirds mStraight mLeast mIsLaid mIsGiven mActs mDone mQueued mCorner mSum mBeyond mAct mMark mSpare mLack mBefore mVia mQueue) H locs → lv_has ls 9 [(0, .ref (a 0)), (1, .int (J x1)), (2, .int (J x2)), (3, .int (J x3)), (4, .int (J x4)), (5, .int (J x5)), (6, .int (J x6))] → W p l e rm_M_postsBar s m args below meth c H locs 0 0 (MQ below (va_Qi (po_M_postsBar cA a mPosts mThirds mStraight mLeast mIsLaid mIsGiven mActs mDone mQueued mCorner mSum mBeyond mAct mMark mSpare mLack mBefore mVia mQueue Q) (xB D cA A) A) args s 0 0 A) (F0 m 63 ls []) := by
  intro n
  induction n with
  | zero => intro x4 x5 x6 h; exact (show False from h).elim
  | succ n hK63 =>
    intro x4 x5 x6 h H locs ls hH hl
    have h : wp_M_postsBar_63_b  (wp_M_postsBar_63 Q mThirds mStraight mLeast mCorner x1 x2 x3 n) Q mThirds mStraight mLeast mCorner x1 x2 x3 x4 x5 x6 := h
    unfold wp_M_postsBar_63_b at h
    refine j_iload C dX5_postsBar_63 (lv_at hl 6 rfl) ?_
    refine j_aload_n C dX5_postsBar_65 (lv_at hl 0 rfl) ?_
    refine xg_X5_thirds C hH dX5_postsBar_66 ?_
    obtain ⟨g_8, h⟩ := h
    obtain ⟨g_9, h⟩ := h
    refine j_icmp_ge C 170 g_8 g_9 dX5_postsBar_69 (by decide) (fun c_10 => ?_) (fun c_10 => ?_)
    · have h := h.1 c_10
      refine j_iload_n C dX5_postsBar_170 (lv_at hl 2 rfl) ?_
      refine j_iconst C dX5_postsBar_171 ?_
      obtain ⟨g_11, h⟩ := h
      refine j_icmp_ne C 189 g_11 (by unfold jR; decide) dX5_postsBar_172 (by decide) (fun c_12 => ?_) (fun c_12 => ?_)
      · have h := h.2 c_12
        refine j_iload_n C dX5_postsBar_189 (lv_at hl 3 rfl) ?_
        refine j_iload C dX5_postsBar_190 (lv_at hl 5 rfl) ?_
        obtain ⟨g_13, h⟩ := h
        obtain ⟨g_14, h⟩ := h
        refine j_icmp_ge C 199 g_13 g_14 dX5_postsBar_192 (by decide) (fun c_15 => ?_) (fun c_15 => ?_)
        · have h := h.1 c_15
          refine j_iconst C dX5_postsBar_199 ?_
          exact j_zret C hH (Or.inl rfl) ⟨_, rfl, rfl, h⟩ dX5_postsBar_200
        · have h := h.2 c_15
          refine j_iconst C dX5_postsBar_195 ?_
          refine j_goto C 200 dX5_postsBar_196 (by decide) ?_
          exact j_zret C hH (Or.inr rfl) ⟨_, rfl, rfl, h⟩ dX5_postsBar_200
      · have h := h.1 c_12
        refine j_iload_n C dX5_postsBar_175 (lv_at hl 3 rfl) ?_
        refine j_iload C dX5_postsBar_176 (lv_at hl 4 rfl) ?_
        obtain ⟨g_16, h⟩ := h
        obtain ⟨g_17, h⟩ := h
        refine j_icmp_le C 185 g_16 g_17 dX5_postsBar_178 (by decide) (fun c_18 => ?_) (fun c_18 => ?_)
        · have h := h.1 c_18
          refine j_iconst C dX5_postsBar_185 ?_
          refine j_goto C 200 dX5_postsBar_186 (by decide) ?_
          exact j_zret C hH (Or.inl rfl) ⟨_, rfl, rfl, h⟩ dX5_postsBar_200
        · have h := h.2 c_18
          refine j_iconst C dX5_postsBar_181 ?_
          refine j_goto C 200 dX5_postsBar_182 (by decide) ?_
          exact j_zret C hH (Or.inr rfl) ⟨_, rfl, rfl, h⟩ dX5_postsBar_200
    · have h := h.2 c_10
      refine j_iconst C dX5_postsBar_72 ?_
      refine j_istore (lv' := [(7, .int (J 0)), (0, .ref (a 0)), (1, .int (J x1)), (2, .int (J x2)), (3, .int (J x3)), (4, .int (J x4)), (5, .int (J x5)), (6, .int (J x6))]) C dX5_postsBar_73 hl (by decide) rfl (fun ls hl => ?_)
      refine j_iconst C dX5_postsBar_75 ?_
      refine j_istore (lv' := [(8, .int (J 0)), (7, .int (J 0)), (0, .ref (a 0)), (1, .int (J x1)), (2, .int (J x2)), (3, .int (J x3)), (4, .int (J x4)), (5, .int (J x5)), (6, .int (J x6))]) C dX5_postsBar_76 hl (by decide) rfl (fun ls hl => ?_)
      obtain ⟨n_, h⟩ := h
      exact w_M_postsBar_78 C hK63 n_ 0 0 h _ _ _ hH (lv_sub hl [2, 3, 4, 5, 6, 7, 8, 1, 0] rfl)
set_option maxRecDepth 4000 in
theorem w_M_postsBar_5 {p : Program} {l : Launch} {e : Env} {s : State} {m : MethodId} {args : Array Value} {below : List Frame} {meth : Method} {c : Code} {D : va_G} {cA : ClassId} {A : Nat → Prop} {a : Nat → Nat} {mPosts mThirds mStraight mLeast mIsLaid mIsGiven mActs mDone mQueued : Int} {mCorner mSum mBeyond mAct mMark mSpare mLack mBefore mVia mQueue : Nat → Int} (C : XC p s m args meth c cX5_postsBar 9 RX5 (some .boolean) D cA A) {Q : Int → Prop} {x1 : Int} {x2 : Int}  : ∀ (n : Nat) (x3 : Int) (x4 : Int), wp_M_postsBar_5 Q mPosts mThirds mStraight mLeast mCorner mSum x1 x2 n x3 x4 → ∀ (H : Heap) (locs : List Loc) (ls : Array Slot), XH D A s (wM cA a mPosts mThirds mStraight mLeast mIsLaid mIsGiven mActs mDone mQueued mCorner mSum mBeyond mAct mMark mSpare mLack mBefore mVia mQueue) H locs → lv_has ls 9 [(0, .ref (a 0)), (1, .int (J x1)), (2, .int (J x2)), (3, .int (J x3)), (4, .int (J x4))] → W p l e rm_M_postsBar s m args below meth c H locs 0 0 (MQ below (va_Qi (po_M_postsBar cA a mPosts mThirds mStraight mLeast mIsLaid mIsGiven mActs mDone mQueued mCorner mSum mBeyond mAct mMark mSpare mLack mBefore mVia mQueue Q) (xB D cA A) A) args s 0 0 A) (F0 m 5 ls []) := by
  intro n
  induction n with
  | zero => intro x3 x4 h; exact (show False from h).elim
  | succ n hK5 =>
    intro x3 x4 h H locs ls hH hl
    have h : wp_M_postsBar_5_b  (wp_M_postsBar_5 Q mPosts mThirds mStraight mLeast mCorner mSum x1 x2 n) Q mPosts mThirds mStraight mLeast mCorner mSum x1 x2 x3 x4 := h
    unfold wp_M_postsBar_5_b at h
    refine j_iload C dX5_postsBar_5 (lv_at hl 4 rfl) ?_
    refine j_aload_n C dX5_postsBar_7 (lv_at hl 0 rfl) ?_
    refine xg_X5_posts C hH dX5_postsBar_8 ?_
    obtain ⟨g_19, h⟩ := h
    obtain ⟨g_20, h⟩ := h
    refine j_icmp_ge C 54 g_19 g_20 dX5_postsBar_11 (by decide) (fun c_21 => ?_) (fun c_21 => ?_)
    · have h := h.1 c_21
      refine j_iconst C dX5_postsBar_54 ?_
      refine j_istore (lv' := [(4, .int (J 0)), (0, .ref (a 0)), (1, .int (J x1)), (2, .int (J x2)), (3, .int (J x3))]) C dX5_postsBar_55 hl (by decide) rfl (fun ls hl => ?_)
      refine j_iconst C dX5_postsBar_57 ?_
      refine j_istore (lv' := [(5, .int (J 0)), (4, .int (J 0)), (0, .ref (a 0)), (1, .int (J x1)), (2, .int (J x2)), (3, .int (J x3))]) C dX5_postsBar_58 hl (by decide) rfl (fun ls hl => ?_)
      refine j_iconst C dX5_postsBar_60 ?_
      refine j_istore (lv' := [(6, .int (J 0)), (5, .int (J 0)), (4, .int (J 0)), (0, .ref (a 0)), (1, .int (J x1)), (2, .int (J x2)), (3, .int (J x3))]) C dX5_postsBar_61 hl (by decide) rfl (fun ls hl => ?_)
      obtain ⟨n_, h⟩ := h
      exact w_M_postsBar_63 C  n_ 0 0 0 h _ _ _ hH (lv_sub hl [3, 4, 5, 6, 2, 1, 0] rfl)
    · have h := h.2 c_21
      refine j_iload_n C dX5_postsBar_14 (lv_at hl 1 rfl) ?_
      refine j_iload C dX5_postsBar_15 (lv_at hl 4 rfl) ?_
      refine j_ishr C dX5_postsBar_17 ?_
      refine j_iconst C dX5_postsBar_18 ?_
      refine j_iand C dX5_postsBar_19 ?_
      refine j_iconst C dX5_postsBar_20 ?_
      obtain ⟨g_22, h⟩ := h
      refine j_icmp_ne C 48 g_22 (by unfold jR; decide) dX5_postsBar_21 (by decide) (fun c_23 => ?_) (fun c_23 => ?_)
      · have h := h.2 c_23
        refine j_iinc (k := 4) (v := x4 + 1) (lv' := [(4, .int (J (x4 + 1))), (0, .ref (a 0)), (1, .int (J x1)), (2, .int (J x2)), (3, .int (J x3))]) C dX5_postsBar_48 hl rfl rfl (by decide) rfl (fun ls hl => ?_)
        refine j_goto C 5 dX5_postsBar_51 (by decide) ?_
        exact hK5 x3 (x4 + 1) h _ _ _ hH (lv_sub hl [1, 2, 3, 4, 0] rfl)
      · have h := h.1 c_23
        refine j_aload_n C dX5_postsBar_24 (lv_at hl 0 rfl) ?_
        refine xg_X5_sum C hH dX5_postsBar_25 ?_
        refine j_iload C dX5_postsBar_28 (lv_at hl 4 rfl) ?_
        obtain ⟨b_24, h⟩ := h
        refine xa_mSum C hH b_24 dX5_postsBar_30 ?_
        refine j_bipush C (by decide +kernel) dX5_postsBar_31 ?_
        obtain ⟨g_25, h⟩ := h
        refine j_icmp_ne C 38 g_25 (by unfold jR; decide) dX5_postsBar_33 (by decide) (fun c_26 => ?_) (fun c_26 => ?_)
        · have h := h.2 c_26
          refine j_iload_n C dX5_postsBar_38 (lv_at hl 3 rfl) ?_
          refine j_aload_n C dX5_postsBar_39 (lv_at hl 0 rfl) ?_
          refine xg_X5_sum C hH dX5_postsBar_40 ?_
          refine j_iload C dX5_postsBar_43 (lv_at hl 4 rfl) ?_
          refine xa_mSum C hH b_24 dX5_postsBar_45 ?_
          refine j_iadd C dX5_postsBar_46 ?_
          refine j_istore_n (lv' := [(3, .int (J (x3 + (mSum x4.toNat)))), (0, .ref (a 0)), (1, .int (J x1)), (2, .int (J x2)), (4, .int (J x4))]) C dX5_postsBar_47 hl (by decide) rfl (fun ls hl => ?_)
          refine j_iinc (k := 4) (v := x4 + 1) (lv' := [(4, .int (J (x4 + 1))), (3, .int (J (x3 + (mSum x4.toNat)))), (0, .ref (a 0)), (1, .int (J x1)), (2, .int (J x2))]) C dX5_postsBar_48 hl rfl rfl (by decide) rfl (fun ls hl => ?_)
          refine j_goto C 5 dX5_postsBar_51 (by decide) ?_
          exact hK5 (x3 + (mSum x4.toNat)) (x4 + 1) h _ _ _ hH (lv_sub hl [2, 3, 4, 1, 0] rfl)
        · have h := h.1 c_26
          refine j_iconst C dX5_postsBar_36 ?_
          exact j_zret C hH (Or.inl rfl) ⟨_, rfl, rfl, h⟩ dX5_postsBar_37
set_option maxRecDepth 4000 in
theorem c_M_postsBar {l : Launch} {D : va_G} {cA : ClassId} {a : Nat → Nat} {sz : Nat} {mPosts mThirds mStraight mLeast mIsLaid mIsGiven mActs mDone mQueued : Int} {mCorner mSum mBeyond mAct mMark mSpare mLack mBefore mVia mQueue : Nat → Int} {x1 x2 : Int} {Q : Int → Prop} (h : wp_M_postsBar x1 x2 mPosts mThirds mStraight mLeast mCorner mSum Q) : Met l yX5_postsBar (.code yX5_postsBar cX5_postsBar 9 (some .boolean) :: lw_ok) rm_M_postsBar (xPre D cA sz [.ref (a 0), .int (J x1), .int (J x2)] (wM cA a mPosts mThirds mStraight mLeast mIsLaid mIsGiven mActs mDone mQueued mCorner mSum mBeyond mAct mMark mSpare mLack mBefore mVia mQueue)) (va_Qi (po_M_postsBar cA a mPosts mThirds mStraight mLeast mIsLaid mIsGiven mActs mDone mQueued mCorner mSum mBeyond mAct mMark mSpare mLack mBefore mVia mQueue Q) (xB D cA (va_A (wM cA a mPosts mThirds mStraight mLeast mIsLaid mIsGiven mActs mDone mQueued mCorner mSum mBeyond mAct mMark mSpare mLack mBefore mVia mQueue) sz)) (va_A (wM cA a mPosts mThirds mStraight mLeast mIsLaid mIsGiven mActs mDone mQueued mCorner mSum mBeyond mAct mMark mSpare mLack mBefore mVia mQueue) sz)) 0 0 (va_A (wM cA a mPosts mThirds mStraight mLeast mIsLaid mIsGiven mActs mDone mQueued mCorner mSum mBeyond mAct mMark mSpare mLack mBefore mVia mQueue) sz) := by
  refine xmet_i (by decide) (Nat.le_of_ble_eq_true rfl) ?_
  intro p e s m args below meth c A ls C hH hl
  have C : XC p s m args meth c cX5_postsBar 9 RX5 (some .boolean) D cA A := C
  have hl : lv_has ls 9 [(0, .ref (a 0)), (1, .int (J x1)), (2, .int (J x2))] := hl
  unfold wp_M_postsBar at h
  refine j_iconst C dX5_postsBar_0 ?_
  refine j_istore_n (lv' := [(3, .int (J 0)), (0, .ref (a 0)), (1, .int (J x1)), (2, .int (J x2))]) C dX5_postsBar_1 hl (by decide) rfl (fun ls hl => ?_)
  refine j_iconst C dX5_postsBar_2 ?_
  refine j_istore (lv' := [(4, .int (J 0)), (3, .int (J 0)), (0, .ref (a 0)), (1, .int (J x1)), (2, .int (J x2))]) C dX5_postsBar_3 hl (by decide) rfl (fun ls hl => ?_)
  obtain ⟨n_, h⟩ := h
  exact w_M_postsBar_5 C  n_ 0 0 h _ _ _ hH (lv_sub hl [2, 3, 4, 1, 0] rfl)

abbrev po_M_bar (cA : ClassId) (a : Nat → Nat) (mPosts mThirds mStraight mLeast mIsLaid mIsGiven mActs mDone mQueued : Int) (mCorner mSum mBeyond mAct mMark mSpare mLack mBefore mVia mQueue : Nat → Int) (Q : Int → Prop) : Int32 → va_W → Prop := fun r w => ∃ z, r = J z ∧ w = wM cA a mPosts mThirds mStraight mLeast mIsLaid mIsGiven mActs mDone mQueued mCorner mSum mBeyond mAct mMark mSpare mLack mBefore mVia mQueue ∧ Q z
set_option maxRecDepth 4000 in
theorem w_M_bar_62 {p : Program} {l : Launch} {e : Env} {s : State} {m : MethodId} {args : Array Value} {below : List Frame} {meth : Method} {c : Code} {D : va_G} {cA : ClassId} {A : Nat → Prop} {a : Nat → Nat} {mPosts mThirds mStraight mLeast mIsLaid mIsGiven mActs mDone mQueued : Int} {mCorner mSum mBeyond mAct mMark mSpare mLack mBefore mVia mQueue : Nat → Int} (C : XC p s m args meth c cX5_bar 6 RX5 (some .int) D cA A) {K35 : Int → Int → Prop} {Q : Int → Prop} {x1 : Int} {x3 : Int}  (hK35 : ∀ (x2 : Int) (x4 : Int), K35 x2 x4 → ∀ (H : Heap) (locs : List Loc) (ls : Array Slot), XH D A s (wM cA a mPosts mThirds mStraight mLeast mIsLaid mIsGiven mActs mDone mQueued mCorner mSum mBeyond mAct mMark mSpare mLack mBefore mVia mQueue) H locs → lv_has ls 6 [(0, .ref (a 0)), (1, .int (J x1)), (2, .int (J x2)), (3, .int (J x3)), (4, .int (J x4))] → W p l e rm_M_bar s m args below meth c H locs 0 0 (MQ below (va_Qi (po_M_bar cA a mPosts mThirds mStraight mLeast mIsLaid mIsGiven mActs mDone mQueued mCorner mSum mBeyond mAct mMark mSpare mLack mBefore mVia mQueue Q) (xB D cA A) A) args s 0 0 A) (F0 m 35 ls [])) : ∀ (x2 : Int) (x4 : Int) (t0 : Int), wp_M_bar_62 K35 Q mPosts mThirds mStraight mLeast mCorner mSum x1 x3 x2 x4 t0 → ∀ (H : Heap) (locs : List Loc) (ls : Array Slot), XH D A s (wM cA a mPosts mThirds mStraight mLeast mIsLaid mIsGiven mActs mDone mQueued mCorner mSum mBeyond mAct mMark mSpare mLack mBefore mVia mQueue) H locs → lv_has ls 6 [(0, .ref (a 0)), (1, .int (J x1)), (2, .int (J x2)), (3, .int (J x3)), (4, .int (J x4))] → W p l e rm_M_bar s m args below meth c H locs 0 0 (MQ below (va_Qi (po_M_bar cA a mPosts mThirds mStraight mLeast mIsLaid mIsGiven mActs mDone mQueued mCorner mSum mBeyond mAct mMark mSpare mLack mBefore mVia mQueue Q) (xB D cA A) A) args s 0 0 A) (F0 m 62 ls [.int (J t0)]) := by
  intro x2 x4 t0 h H locs ls hH hl
  unfold wp_M_bar_62 at h
  refine j_istore (lv' := [(5, .int (J t0)), (0, .ref (a 0)), (1, .int (J x1)), (2, .int (J x2)), (3, .int (J x3)), (4, .int (J x4))]) C dX5_bar_62 hl (by decide) rfl (fun ls hl => ?_)
  refine j_iload C dX5_bar_64 (lv_at hl 0 rfl) ?_
  obtain ⟨g_1, h⟩ := h
  refine j_if_eq C 98 g_1 dX5_bar_66 (by decide) (fun c_2 => ?_) (fun c_2 => ?_)
  · have h := h.1 c_2
    refine j_iinc (k := 5) (v := x4 + 1) (lv' := [(4, .int (J (x4 + 1))), (5, .int (J t0)), (0, .ref (a 0)), (1, .int (J x1)), (2, .int (J x2)), (3, .int (J x3))]) C dX5_bar_98 hl rfl rfl (by decide) rfl (fun ls hl => ?_)
    refine j_goto C 35 dX5_bar_101 (by decide) ?_
    exact hK35 x2 (x4 + 1) h _ _ _ hH (lv_sub hl [2, 3, 4, 5, 0] rfl)
  · have h := h.2 c_2
    refine j_iload_n C dX5_bar_69 (lv_at hl 2 rfl) ?_
    obtain ⟨g_3, h⟩ := h
    refine j_if_ne C 85 g_3 dX5_bar_70 (by decide) (fun c_4 => ?_) (fun c_4 => ?_)
    · have h := h.2 c_4
      refine j_aload_n C dX5_bar_85 (lv_at hl 1 rfl) ?_
      refine j_iload C dX5_bar_86 (lv_at hl 5 rfl) ?_
      refine j_iload_n C dX5_bar_88 (lv_at hl 2 rfl) ?_
      refine xcallV_i (As := [.int (J x4), .int (J x1)]) (rest := []) (q0 := 0) C hH (fun sz => c_M_postsBar h) xl_X5_172 rfl rfl ⟨rfl, rfl⟩ ⟨Nat.le_of_ble_eq_true rfl, Nat.le_of_ble_eq_true rfl⟩ hl.1 rfl rfl (Nat.le_of_ble_eq_true rfl) dX5_bar_89 (fun r_ w_ H locs hw hH => ?_)
      obtain ⟨z_5, rfl, rfl, h⟩ := hw
      obtain ⟨g_6, h⟩ := h
      refine j_if_eq C 98 g_6 dX5_bar_92 (by decide) (fun c_7 => ?_) (fun c_7 => ?_)
      · have h := h.1 c_7
        refine j_iinc (k := 5) (v := x4 + 1) (lv' := [(4, .int (J (x4 + 1))), (5, .int (J t0)), (0, .ref (a 0)), (1, .int (J x1)), (2, .int (J x2)), (3, .int (J x3))]) C dX5_bar_98 hl rfl rfl (by decide) rfl (fun ls hl => ?_)
        refine j_goto C 35 dX5_bar_101 (by decide) ?_
        exact hK35 x2 (x4 + 1) h _ _ _ hH (lv_sub hl [2, 3, 4, 5, 0] rfl)
      · have h := h.2 c_7
        refine j_iload C dX5_bar_95 (lv_at hl 5 rfl) ?_
        refine j_istore_n (lv' := [(2, .int (J x4)), (5, .int (J t0)), (0, .ref (a 0)), (1, .int (J x1)), (3, .int (J x3)), (4, .int (J x4))]) C dX5_bar_97 hl (by decide) rfl (fun ls hl => ?_)
        refine j_iinc (k := 5) (v := x4 + 1) (lv' := [(4, .int (J (x4 + 1))), (2, .int (J x4)), (5, .int (J t0)), (0, .ref (a 0)), (1, .int (J x1)), (3, .int (J x3))]) C dX5_bar_98 hl rfl rfl (by decide) rfl (fun ls hl => ?_)
        refine j_goto C 35 dX5_bar_101 (by decide) ?_
        exact hK35 x4 (x4 + 1) h _ _ _ hH (lv_sub hl [3, 4, 1, 5, 0] rfl)
    · have h := h.1 c_4
      refine j_aload_n C dX5_bar_73 (lv_at hl 1 rfl) ?_
      refine j_iload C dX5_bar_74 (lv_at hl 5 rfl) ?_
      refine xcallV_i (As := [.int (J x4)]) (rest := []) (q0 := 0) C hH (fun sz => c_M_thirdsBar h) xl_X5_169 rfl rfl ⟨rfl, rfl⟩ ⟨Nat.le_of_ble_eq_true rfl, Nat.le_of_ble_eq_true rfl⟩ hl.1 rfl rfl (Nat.le_of_ble_eq_true rfl) dX5_bar_76 (fun r_ w_ H locs hw hH => ?_)
      obtain ⟨z_8, rfl, rfl, h⟩ := hw
      obtain ⟨g_9, h⟩ := h
      refine j_if_eq C 98 g_9 dX5_bar_79 (by decide) (fun c_10 => ?_) (fun c_10 => ?_)
      · have h := h.1 c_10
        refine j_iinc (k := 5) (v := x4 + 1) (lv' := [(4, .int (J (x4 + 1))), (5, .int (J t0)), (0, .ref (a 0)), (1, .int (J x1)), (2, .int (J x2)), (3, .int (J x3))]) C dX5_bar_98 hl rfl rfl (by decide) rfl (fun ls hl => ?_)
        refine j_goto C 35 dX5_bar_101 (by decide) ?_
        exact hK35 x2 (x4 + 1) h _ _ _ hH (lv_sub hl [2, 3, 4, 5, 0] rfl)
      · have h := h.2 c_10
        refine j_goto C 95 dX5_bar_82 (by decide) ?_
        refine j_iload C dX5_bar_95 (lv_at hl 5 rfl) ?_
        refine j_istore_n (lv' := [(2, .int (J x4)), (5, .int (J t0)), (0, .ref (a 0)), (1, .int (J x1)), (3, .int (J x3)), (4, .int (J x4))]) C dX5_bar_97 hl (by decide) rfl (fun ls hl => ?_)
        refine j_iinc (k := 5) (v := x4 + 1) (lv' := [(4, .int (J (x4 + 1))), (2, .int (J x4)), (5, .int (J t0)), (0, .ref (a 0)), (1, .int (J x1)), (3, .int (J x3))]) C dX5_bar_98 hl rfl rfl (by decide) rfl (fun ls hl => ?_)
        refine j_goto C 35 dX5_bar_101 (by decide) ?_
        exact hK35 x4 (x4 + 1) h _ _ _ hH (lv_sub hl [3, 4, 1, 5, 0] rfl)
set_option maxRecDepth 4000 in
theorem w_M_bar_35 {p : Program} {l : Launch} {e : Env} {s : State} {m : MethodId} {args : Array Value} {below : List Frame} {meth : Method} {c : Code} {D : va_G} {cA : ClassId} {A : Nat → Prop} {a : Nat → Nat} {mPosts mThirds mStraight mLeast mIsLaid mIsGiven mActs mDone mQueued : Int} {mCorner mSum mBeyond mAct mMark mSpare mLack mBefore mVia mQueue : Nat → Int} (C : XC p s m args meth c cX5_bar 6 RX5 (some .int) D cA A) {Q : Int → Prop} {x1 : Int} {x3 : Int}  : ∀ (n : Nat) (x2 : Int) (x4 : Int), wp_M_bar_35 Q mPosts mThirds mStraight mLeast mCorner mSum x1 x3 n x2 x4 → ∀ (H : Heap) (locs : List Loc) (ls : Array Slot), XH D A s (wM cA a mPosts mThirds mStraight mLeast mIsLaid mIsGiven mActs mDone mQueued mCorner mSum mBeyond mAct mMark mSpare mLack mBefore mVia mQueue) H locs → lv_has ls 6 [(0, .ref (a 0)), (1, .int (J x1)), (2, .int (J x2)), (3, .int (J x3)), (4, .int (J x4))] → W p l e rm_M_bar s m args below meth c H locs 0 0 (MQ below (va_Qi (po_M_bar cA a mPosts mThirds mStraight mLeast mIsLaid mIsGiven mActs mDone mQueued mCorner mSum mBeyond mAct mMark mSpare mLack mBefore mVia mQueue Q) (xB D cA A) A) args s 0 0 A) (F0 m 35 ls []) := by
  intro n
  induction n with
  | zero => intro x2 x4 h; exact (show False from h).elim
  | succ n hK35 =>
    intro x2 x4 h H locs ls hH hl
    have h : wp_M_bar_35_b  (wp_M_bar_35 Q mPosts mThirds mStraight mLeast mCorner mSum x1 x3 n) Q mPosts mThirds mStraight mLeast mCorner mSum x1 x3 x2 x4 := h
    unfold wp_M_bar_35_b at h
    refine j_iload C dX5_bar_35 (lv_at hl 4 rfl) ?_
    refine j_iload_n C dX5_bar_37 (lv_at hl 3 rfl) ?_
    obtain ⟨g_11, h⟩ := h
    obtain ⟨g_12, h⟩ := h
    refine j_icmp_ge C 104 g_11 g_12 dX5_bar_38 (by decide) (fun c_13 => ?_) (fun c_13 => ?_)
    · have h := h.1 c_13
      refine j_iload_n C dX5_bar_104 (lv_at hl 2 rfl) ?_
      exact j_iret C hH ⟨_, rfl, rfl, h⟩ dX5_bar_105
    · have h := h.2 c_13
      refine j_iload_n C dX5_bar_41 (lv_at hl 2 rfl) ?_
      obtain ⟨g_14, h⟩ := h
      refine j_if_eq C 57 g_14 dX5_bar_42 (by decide) (fun c_15 => ?_) (fun c_15 => ?_)
      · have h := h.1 c_15
        refine j_iconst C dX5_bar_57 ?_
        refine j_goto C 62 dX5_bar_58 (by decide) ?_
        exact w_M_bar_62 C hK35 x2 x4 1 h _ _ _ hH (lv_sub hl [0, 1, 2, 3, 4] rfl)
      · have h := h.2 c_15
        refine j_iload C dX5_bar_45 (lv_at hl 4 rfl) ?_
        refine xcallS_i (As := [.int (J x4)]) (rest := []) C hH (fun sz => c_M_bits h) xl_X5_166 ⟨rfl, rfl⟩ ⟨Nat.le_of_ble_eq_true rfl, Nat.le_of_ble_eq_true rfl⟩ hl.1 rfl rfl (Nat.le_of_ble_eq_true rfl) dX5_bar_47 (fun r_ w_ H locs hw hH => ?_)
        obtain ⟨z_16, rfl, rfl, h⟩ := hw
        refine j_iload_n C dX5_bar_50 (lv_at hl 2 rfl) ?_
        refine xcallS_i (As := [.int (J x2)]) (rest := [.int (J z_16)]) C hH (fun sz => c_M_bits h) xl_X5_166 ⟨rfl, rfl⟩ ⟨Nat.le_of_ble_eq_true rfl, Nat.le_of_ble_eq_true rfl⟩ hl.1 rfl rfl (Nat.le_of_ble_eq_true rfl) dX5_bar_51 (fun r_ w_ H locs hw hH => ?_)
        obtain ⟨z_17, rfl, rfl, h⟩ := hw
        obtain ⟨g_18, h⟩ := h
        obtain ⟨g_19, h⟩ := h
        refine j_icmp_ge C 61 g_18 g_19 dX5_bar_54 (by decide) (fun c_20 => ?_) (fun c_20 => ?_)
        · have h := h.1 c_20
          refine j_iconst C dX5_bar_61 ?_
          exact w_M_bar_62 C hK35 x2 x4 0 h _ _ _ hH (lv_sub hl [0, 1, 2, 3, 4] rfl)
        · have h := h.2 c_20
          refine j_iconst C dX5_bar_57 ?_
          refine j_goto C 62 dX5_bar_58 (by decide) ?_
          exact w_M_bar_62 C hK35 x2 x4 1 h _ _ _ hH (lv_sub hl [0, 1, 2, 3, 4] rfl)
set_option maxRecDepth 4000 in
theorem c_M_bar {l : Launch} {D : va_G} {cA : ClassId} {a : Nat → Nat} {sz : Nat} {mPosts mThirds mStraight mLeast mIsLaid mIsGiven mActs mDone mQueued : Int} {mCorner mSum mBeyond mAct mMark mSpare mLack mBefore mVia mQueue : Nat → Int} {x1 : Int} {Q : Int → Prop} (h : wp_M_bar x1 mPosts mThirds mStraight mLeast mCorner mSum Q) : Met l yX5_bar (.code yX5_bar cX5_bar 6 (some .int) :: lw_ok) rm_M_bar (xPre D cA sz [.ref (a 0), .int (J x1)] (wM cA a mPosts mThirds mStraight mLeast mIsLaid mIsGiven mActs mDone mQueued mCorner mSum mBeyond mAct mMark mSpare mLack mBefore mVia mQueue)) (va_Qi (po_M_bar cA a mPosts mThirds mStraight mLeast mIsLaid mIsGiven mActs mDone mQueued mCorner mSum mBeyond mAct mMark mSpare mLack mBefore mVia mQueue Q) (xB D cA (va_A (wM cA a mPosts mThirds mStraight mLeast mIsLaid mIsGiven mActs mDone mQueued mCorner mSum mBeyond mAct mMark mSpare mLack mBefore mVia mQueue) sz)) (va_A (wM cA a mPosts mThirds mStraight mLeast mIsLaid mIsGiven mActs mDone mQueued mCorner mSum mBeyond mAct mMark mSpare mLack mBefore mVia mQueue) sz)) 0 0 (va_A (wM cA a mPosts mThirds mStraight mLeast mIsLaid mIsGiven mActs mDone mQueued mCorner mSum mBeyond mAct mMark mSpare mLack mBefore mVia mQueue) sz) := by
  refine xmet_i (by decide) (Nat.le_of_ble_eq_true rfl) ?_
  intro p e s m args below meth c A ls C hH hl
  have C : XC p s m args meth c cX5_bar 6 RX5 (some .int) D cA A := C
  have hl : lv_has ls 6 [(0, .ref (a 0)), (1, .int (J x1))] := hl
  unfold wp_M_bar at h
  refine j_iload_n C dX5_bar_0 (lv_at hl 1 rfl) ?_
  refine j_iconst C dX5_bar_1 ?_
  refine j_iconst C dX5_bar_2 ?_
  refine xcallS_i (As := [.int (J x1), .int (J 0), .int (J 2)]) (rest := []) C hH (fun sz => c_M_in h) xl_X5_66 ⟨rfl, rfl⟩ ⟨Nat.le_of_ble_eq_true rfl, Nat.le_of_ble_eq_true rfl⟩ hl.1 rfl rfl (Nat.le_of_ble_eq_true rfl) dX5_bar_3 (fun r_ w_ H locs hw hH => ?_)
  obtain ⟨z_21, rfl, rfl, h⟩ := hw
  obtain ⟨g_22, h⟩ := h
  refine j_if_ne C 12 g_22 dX5_bar_6 (by decide) (fun c_23 => ?_) (fun c_23 => ?_)
  · have h := h.2 c_23
    refine j_iconst C dX5_bar_12 ?_
    refine j_istore_n (lv' := [(2, .int (J 0)), (0, .ref (a 0)), (1, .int (J x1))]) C dX5_bar_13 hl (by decide) rfl (fun ls hl => ?_)
    refine j_iconst C dX5_bar_14 ?_
    refine j_iload_n C dX5_bar_15 (lv_at hl 2 rfl) ?_
    obtain ⟨g_24, h⟩ := h
    refine j_if_ne C 26 g_24 dX5_bar_16 (by decide) (fun c_25 => ?_) (fun c_25 => ?_)
    · have h := h.2 c_25
      refine j_aload_n C dX5_bar_26 (lv_at hl 1 rfl) ?_
      refine xg_X5_posts C hH dX5_bar_27 ?_
      refine j_ishl C dX5_bar_30 ?_
      refine j_istore_n (lv' := [(3, .int (J (jshl 1 mPosts))), (2, .int (J 0)), (0, .ref (a 0)), (1, .int (J x1))]) C dX5_bar_31 hl (by decide) rfl (fun ls hl => ?_)
      refine j_iconst C dX5_bar_32 ?_
      refine j_istore (lv' := [(4, .int (J 1)), (3, .int (J (jshl 1 mPosts))), (2, .int (J 0)), (0, .ref (a 0)), (1, .int (J x1))]) C dX5_bar_33 hl (by decide) rfl (fun ls hl => ?_)
      obtain ⟨n_, h⟩ := h
      exact w_M_bar_35 C  n_ 0 1 h _ _ _ hH (lv_sub hl [3, 4, 2, 1, 0] rfl)
    · have h := h.1 c_25
      refine j_aload_n C dX5_bar_19 (lv_at hl 1 rfl) ?_
      refine xg_X5_thirds C hH dX5_bar_20 ?_
      refine j_goto C 30 dX5_bar_23 (by decide) ?_
      refine j_ishl C dX5_bar_30 ?_
      refine j_istore_n (lv' := [(3, .int (J (jshl 1 mThirds))), (2, .int (J 0)), (0, .ref (a 0)), (1, .int (J x1))]) C dX5_bar_31 hl (by decide) rfl (fun ls hl => ?_)
      refine j_iconst C dX5_bar_32 ?_
      refine j_istore (lv' := [(4, .int (J 1)), (3, .int (J (jshl 1 mThirds))), (2, .int (J 0)), (0, .ref (a 0)), (1, .int (J x1))]) C dX5_bar_33 hl (by decide) rfl (fun ls hl => ?_)
      obtain ⟨n_, h⟩ := h
      exact w_M_bar_35 C  n_ 0 1 h _ _ _ hH (lv_sub hl [3, 4, 2, 1, 0] rfl)
  · have h := h.1 c_23
    refine j_bipush C (by decide +kernel) dX5_bar_9 ?_
    exact j_iret C hH ⟨_, rfl, rfl, h⟩ dX5_bar_11
abbrev po_M_oppositeOf (cA : ClassId) (a : Nat → Nat) (mPosts mThirds mStraight mLeast mIsLaid mIsGiven mActs mDone mQueued : Int) (mCorner mSum mBeyond mAct mMark mSpare mLack mBefore mVia mQueue : Nat → Int) (Q : Int → Prop) : Int32 → va_W → Prop := fun r w => ∃ z, r = J z ∧ w = wM cA a mPosts mThirds mStraight mLeast mIsLaid mIsGiven mActs mDone mQueued mCorner mSum mBeyond mAct mMark mSpare mLack mBefore mVia mQueue ∧ Q z
set_option maxRecDepth 4000 in
theorem w_M_oppositeOf_31 {p : Program} {l : Launch} {e : Env} {s : State} {m : MethodId} {args : Array Value} {below : List Frame} {meth : Method} {c : Code} {D : va_G} {cA : ClassId} {A : Nat → Prop} {a : Nat → Nat} {mPosts mThirds mStraight mLeast mIsLaid mIsGiven mActs mDone mQueued : Int} {mCorner mSum mBeyond mAct mMark mSpare mLack mBefore mVia mQueue : Nat → Int} (C : XC p s m args meth c cX5_oppositeOf 6 RX5 (some .int) D cA A) {K5 : Int → Int → Prop} {Q : Int → Prop} {x1 : Int} {x2 : Int}  (hK5 : ∀ (x3 : Int) (x4 : Int), K5 x3 x4 → ∀ (H : Heap) (locs : List Loc) (ls : Array Slot), XH D A s (wM cA a mPosts mThirds mStraight mLeast mIsLaid mIsGiven mActs mDone mQueued mCorner mSum mBeyond mAct mMark mSpare mLack mBefore mVia mQueue) H locs → lv_has ls 6 [(0, .ref (a 0)), (1, .int (J x1)), (2, .int (J x2)), (3, .int (J x3)), (4, .int (J x4))] → W p l e rm_M_oppositeOf s m args below meth c H locs 0 0 (MQ below (va_Qi (po_M_oppositeOf cA a mPosts mThirds mStraight mLeast mIsLaid mIsGiven mActs mDone mQueued mCorner mSum mBeyond mAct mMark mSpare mLack mBefore mVia mQueue Q) (xB D cA A) A) args s 0 0 A) (F0 m 5 ls [])) : ∀ (x3 : Int) (x4 : Int) (t0 : Int), wp_M_oppositeOf_31 K5 Q mThirds mLeast mCorner mBeyond x1 x2 x3 x4 t0 → ∀ (H : Heap) (locs : List Loc) (ls : Array Slot), XH D A s (wM cA a mPosts mThirds mStraight mLeast mIsLaid mIsGiven mActs mDone mQueued mCorner mSum mBeyond mAct mMark mSpare mLack mBefore mVia mQueue) H locs → lv_has ls 6 [(0, .ref (a 0)), (1, .int (J x1)), (2, .int (J x2)), (3, .int (J x3)), (4, .int (J x4))] → W p l e rm_M_oppositeOf s m args below meth c H locs 0 0 (MQ below (va_Qi (po_M_oppositeOf cA a mPosts mThirds mStraight mLeast mIsLaid mIsGiven mActs mDone mQueued mCorner mSum mBeyond mAct mMark mSpare mLack mBefore mVia mQueue Q) (xB D cA A) A) args s 0 0 A) (F0 m 31 ls [.int (J t0)]) := by
  intro x3 x4 t0 h H locs ls hH hl
  unfold wp_M_oppositeOf_31 at h
  refine j_istore (lv' := [(5, .int (J t0)), (0, .ref (a 0)), (1, .int (J x1)), (2, .int (J x2)), (3, .int (J x3)), (4, .int (J x4))]) C dX5_oppositeOf_31 hl (by decide) rfl (fun ls hl => ?_)
  refine j_iload_n C dX5_oppositeOf_33 (lv_at hl 4 rfl) ?_
  refine j_iload C dX5_oppositeOf_34 (lv_at hl 0 rfl) ?_
  obtain ⟨g_1, h⟩ := h
  refine j_if_ge C 43 g_1 dX5_oppositeOf_36 (by decide) (fun c_2 => ?_) (fun c_2 => ?_)
  · have h := h.1 c_2
    refine j_aload_n C dX5_oppositeOf_43 (lv_at hl 1 rfl) ?_
    refine xg_X5_least C hH dX5_oppositeOf_44 ?_
    refine j_aload_n C dX5_oppositeOf_47 (lv_at hl 1 rfl) ?_
    refine xg_X5_beyond C hH dX5_oppositeOf_48 ?_
    refine j_aload_n C dX5_oppositeOf_51 (lv_at hl 1 rfl) ?_
    refine j_iload C dX5_oppositeOf_52 (lv_at hl 0 rfl) ?_
    refine j_iload_n C dX5_oppositeOf_54 (lv_at hl 2 rfl) ?_
    refine j_iload_n C dX5_oppositeOf_55 (lv_at hl 3 rfl) ?_
    refine xcallV_i (As := [.int (J t0), .int (J x1), .int (J x2)]) (rest := [.ref (a 3), .int (J mLeast), .int (J x3)]) (q0 := 0) C hH (fun sz => c_M_oppositeCorner h) xl_X5_96 rfl rfl ⟨rfl, rfl⟩ ⟨Nat.le_of_ble_eq_true rfl, Nat.le_of_ble_eq_true rfl⟩ hl.1 rfl rfl (Nat.le_of_ble_eq_true rfl) dX5_oppositeOf_56 (fun r_ w_ H locs hw hH => ?_)
    obtain ⟨z_3, rfl, rfl, h⟩ := hw
    obtain ⟨b_4, h⟩ := h
    refine xa_mBeyond C hH b_4 dX5_oppositeOf_59 ?_
    refine j_iadd C dX5_oppositeOf_60 ?_
    refine j_iadd C dX5_oppositeOf_61 ?_
    refine j_istore_n (lv' := [(3, .int (J (x3 + (mLeast + (mBeyond z_3.toNat))))), (5, .int (J t0)), (0, .ref (a 0)), (1, .int (J x1)), (2, .int (J x2)), (4, .int (J x4))]) C dX5_oppositeOf_62 hl (by decide) rfl (fun ls hl => ?_)
    refine j_iinc (k := 5) (v := x4 + 1) (lv' := [(4, .int (J (x4 + 1))), (3, .int (J (x3 + (mLeast + (mBeyond z_3.toNat))))), (5, .int (J t0)), (0, .ref (a 0)), (1, .int (J x1)), (2, .int (J x2))]) C dX5_oppositeOf_63 hl rfl rfl (by decide) rfl (fun ls hl => ?_)
    refine j_goto C 5 dX5_oppositeOf_66 (by decide) ?_
    exact hK5 (x3 + (mLeast + (mBeyond z_3.toNat))) (x4 + 1) h _ _ _ hH (lv_sub hl [3, 4, 5, 1, 0] rfl)
  · have h := h.2 c_2
    refine j_iconst C dX5_oppositeOf_39 ?_
    refine j_goto C 61 dX5_oppositeOf_40 (by decide) ?_
    refine j_iadd C dX5_oppositeOf_61 ?_
    refine j_istore_n (lv' := [(3, .int (J (x3 + 0))), (5, .int (J t0)), (0, .ref (a 0)), (1, .int (J x1)), (2, .int (J x2)), (4, .int (J x4))]) C dX5_oppositeOf_62 hl (by decide) rfl (fun ls hl => ?_)
    refine j_iinc (k := 5) (v := x4 + 1) (lv' := [(4, .int (J (x4 + 1))), (3, .int (J (x3 + 0))), (5, .int (J t0)), (0, .ref (a 0)), (1, .int (J x1)), (2, .int (J x2))]) C dX5_oppositeOf_63 hl rfl rfl (by decide) rfl (fun ls hl => ?_)
    refine j_goto C 5 dX5_oppositeOf_66 (by decide) ?_
    exact hK5 (x3 + 0) (x4 + 1) h _ _ _ hH (lv_sub hl [3, 4, 5, 1, 0] rfl)
set_option maxRecDepth 4000 in
theorem w_M_oppositeOf_5 {p : Program} {l : Launch} {e : Env} {s : State} {m : MethodId} {args : Array Value} {below : List Frame} {meth : Method} {c : Code} {D : va_G} {cA : ClassId} {A : Nat → Prop} {a : Nat → Nat} {mPosts mThirds mStraight mLeast mIsLaid mIsGiven mActs mDone mQueued : Int} {mCorner mSum mBeyond mAct mMark mSpare mLack mBefore mVia mQueue : Nat → Int} (C : XC p s m args meth c cX5_oppositeOf 6 RX5 (some .int) D cA A) {Q : Int → Prop} {x1 : Int} {x2 : Int}  : ∀ (n : Nat) (x3 : Int) (x4 : Int), wp_M_oppositeOf_5 Q mThirds mLeast mCorner mBeyond x1 x2 n x3 x4 → ∀ (H : Heap) (locs : List Loc) (ls : Array Slot), XH D A s (wM cA a mPosts mThirds mStraight mLeast mIsLaid mIsGiven mActs mDone mQueued mCorner mSum mBeyond mAct mMark mSpare mLack mBefore mVia mQueue) H locs → lv_has ls 6 [(0, .ref (a 0)), (1, .int (J x1)), (2, .int (J x2)), (3, .int (J x3)), (4, .int (J x4))] → W p l e rm_M_oppositeOf s m args below meth c H locs 0 0 (MQ below (va_Qi (po_M_oppositeOf cA a mPosts mThirds mStraight mLeast mIsLaid mIsGiven mActs mDone mQueued mCorner mSum mBeyond mAct mMark mSpare mLack mBefore mVia mQueue Q) (xB D cA A) A) args s 0 0 A) (F0 m 5 ls []) := by
  intro n
  induction n with
  | zero => intro x3 x4 h; exact (show False from h).elim
  | succ n hK5 =>
    intro x3 x4 h H locs ls hH hl
    have h : wp_M_oppositeOf_5_b  (wp_M_oppositeOf_5 Q mThirds mLeast mCorner mBeyond x1 x2 n) Q mThirds mLeast mCorner mBeyond x1 x2 x3 x4 := h
    unfold wp_M_oppositeOf_5_b at h
    refine j_iload C dX5_oppositeOf_5 (lv_at hl 4 rfl) ?_
    refine j_iconst C dX5_oppositeOf_7 ?_
    obtain ⟨g_5, h⟩ := h
    refine j_icmp_ge C 69 g_5 (by unfold jR; decide) dX5_oppositeOf_8 (by decide) (fun c_6 => ?_) (fun c_6 => ?_)
    · have h := h.1 c_6
      refine j_iload_n C dX5_oppositeOf_69 (lv_at hl 3 rfl) ?_
      exact j_iret C hH ⟨_, rfl, rfl, h⟩ dX5_oppositeOf_70
    · have h := h.2 c_6
      refine j_iload C dX5_oppositeOf_11 (lv_at hl 4 rfl) ?_
      refine j_if_ne C 25 g_5 dX5_oppositeOf_13 (by decide) (fun c_7 => ?_) (fun c_7 => ?_)
      · have h := h.2 c_7
        refine j_aload_n C dX5_oppositeOf_25 (lv_at hl 0 rfl) ?_
        refine j_iload_n C dX5_oppositeOf_26 (lv_at hl 2 rfl) ?_
        refine j_iload_n C dX5_oppositeOf_27 (lv_at hl 1 rfl) ?_
        refine xcallV_i (As := [.int (J x2), .int (J x1)]) (rest := []) (q0 := 0) C hH (fun sz => c_M_arrowOf h) xl_X5_74 rfl rfl ⟨rfl, rfl⟩ ⟨Nat.le_of_ble_eq_true rfl, Nat.le_of_ble_eq_true rfl⟩ hl.1 rfl rfl (Nat.le_of_ble_eq_true rfl) dX5_oppositeOf_28 (fun r_ w_ H locs hw hH => ?_)
        obtain ⟨z_8, rfl, rfl, h⟩ := hw
        exact w_M_oppositeOf_31 C hK5 x3 x4 z_8 h _ _ _ hH (lv_sub hl [0, 1, 2, 3, 4] rfl)
      · have h := h.1 c_7
        refine j_aload_n C dX5_oppositeOf_16 (lv_at hl 0 rfl) ?_
        refine j_iload_n C dX5_oppositeOf_17 (lv_at hl 1 rfl) ?_
        refine j_iload_n C dX5_oppositeOf_18 (lv_at hl 2 rfl) ?_
        refine xcallV_i (As := [.int (J x1), .int (J x2)]) (rest := []) (q0 := 0) C hH (fun sz => c_M_arrowOf h) xl_X5_74 rfl rfl ⟨rfl, rfl⟩ ⟨Nat.le_of_ble_eq_true rfl, Nat.le_of_ble_eq_true rfl⟩ hl.1 rfl rfl (Nat.le_of_ble_eq_true rfl) dX5_oppositeOf_19 (fun r_ w_ H locs hw hH => ?_)
        obtain ⟨z_9, rfl, rfl, h⟩ := hw
        refine j_goto C 31 dX5_oppositeOf_22 (by decide) ?_
        exact w_M_oppositeOf_31 C hK5 x3 x4 z_9 h _ _ _ hH (lv_sub hl [0, 1, 2, 3, 4] rfl)
set_option maxRecDepth 4000 in
theorem c_M_oppositeOf {l : Launch} {D : va_G} {cA : ClassId} {a : Nat → Nat} {sz : Nat} {mPosts mThirds mStraight mLeast mIsLaid mIsGiven mActs mDone mQueued : Int} {mCorner mSum mBeyond mAct mMark mSpare mLack mBefore mVia mQueue : Nat → Int} {x1 x2 : Int} {Q : Int → Prop} (h : wp_M_oppositeOf x1 x2 mThirds mLeast mCorner mBeyond Q) : Met l yX5_oppositeOf (.code yX5_oppositeOf cX5_oppositeOf 6 (some .int) :: lw_ok) rm_M_oppositeOf (xPre D cA sz [.ref (a 0), .int (J x1), .int (J x2)] (wM cA a mPosts mThirds mStraight mLeast mIsLaid mIsGiven mActs mDone mQueued mCorner mSum mBeyond mAct mMark mSpare mLack mBefore mVia mQueue)) (va_Qi (po_M_oppositeOf cA a mPosts mThirds mStraight mLeast mIsLaid mIsGiven mActs mDone mQueued mCorner mSum mBeyond mAct mMark mSpare mLack mBefore mVia mQueue Q) (xB D cA (va_A (wM cA a mPosts mThirds mStraight mLeast mIsLaid mIsGiven mActs mDone mQueued mCorner mSum mBeyond mAct mMark mSpare mLack mBefore mVia mQueue) sz)) (va_A (wM cA a mPosts mThirds mStraight mLeast mIsLaid mIsGiven mActs mDone mQueued mCorner mSum mBeyond mAct mMark mSpare mLack mBefore mVia mQueue) sz)) 0 0 (va_A (wM cA a mPosts mThirds mStraight mLeast mIsLaid mIsGiven mActs mDone mQueued mCorner mSum mBeyond mAct mMark mSpare mLack mBefore mVia mQueue) sz) := by
  refine xmet_i (by decide) (Nat.le_of_ble_eq_true rfl) ?_
  intro p e s m args below meth c A ls C hH hl
  have C : XC p s m args meth c cX5_oppositeOf 6 RX5 (some .int) D cA A := C
  have hl : lv_has ls 6 [(0, .ref (a 0)), (1, .int (J x1)), (2, .int (J x2))] := hl
  unfold wp_M_oppositeOf at h
  refine j_iconst C dX5_oppositeOf_0 ?_
  refine j_istore_n (lv' := [(3, .int (J 0)), (0, .ref (a 0)), (1, .int (J x1)), (2, .int (J x2))]) C dX5_oppositeOf_1 hl (by decide) rfl (fun ls hl => ?_)
  refine j_iconst C dX5_oppositeOf_2 ?_
  refine j_istore (lv' := [(4, .int (J 0)), (3, .int (J 0)), (0, .ref (a 0)), (1, .int (J x1)), (2, .int (J x2))]) C dX5_oppositeOf_3 hl (by decide) rfl (fun ls hl => ?_)
  obtain ⟨n_, h⟩ := h
  exact w_M_oppositeOf_5 C  n_ 0 0 h _ _ _ hH (lv_sub hl [2, 3, 4, 1, 0] rfl)
abbrev po_M_opposite (cA : ClassId) (a : Nat → Nat) (mPosts mThirds mStraight mLeast mActs mDone : Int) (mCorner mSum mAct mMark : Nat → Int) (Q : Int → Int → Int → Int → (Nat → Int) → (Nat → Int) → (Nat → Int) → (Nat → Int) → (Nat → Int) → (Nat → Int) → Prop) : Int32 → va_W → Prop := fun r w => ∃ z mIsLaid' mIsGiven' mQueued' mBeyond' mSpare' mLack' mBefore' mVia' mQueue', r = J z ∧ w = wM cA a mPosts mThirds mStraight mLeast mIsLaid' mIsGiven' mActs mDone mQueued' mCorner mSum mBeyond' mAct mMark mSpare' mLack' mBefore' mVia' mQueue' ∧ Q z mIsLaid' mIsGiven' mQueued' mBeyond' mSpare' mLack' mBefore' mVia' mQueue'
set_option maxRecDepth 4000 in
theorem c_M_opposite {l : Launch} {D : va_G} {cA : ClassId} {a : Nat → Nat} {sz : Nat} {mPosts mThirds mStraight mLeast mIsLaid mIsGiven mActs mDone mQueued : Int} {mCorner mSum mBeyond mAct mMark mSpare mLack mBefore mVia mQueue : Nat → Int} {x1 x2 : Int} {Q : Int → Int → Int → Int → (Nat → Int) → (Nat → Int) → (Nat → Int) → (Nat → Int) → (Nat → Int) → (Nat → Int) → Prop} (h : wp_M_opposite x1 x2 mPosts mThirds mStraight mLeast mIsLaid mIsGiven mQueued mCorner mSum mBeyond mSpare mLack mBefore mVia mQueue Q) : Met l yX5_opposite (.code yX5_opposite cX5_opposite 3 (some .int) :: lw_ok) rm_M_opposite (xPre D cA sz [.ref (a 0), .int (J x1), .int (J x2)] (wM cA a mPosts mThirds mStraight mLeast mIsLaid mIsGiven mActs mDone mQueued mCorner mSum mBeyond mAct mMark mSpare mLack mBefore mVia mQueue)) (va_Qi (po_M_opposite cA a mPosts mThirds mStraight mLeast mActs mDone mCorner mSum mAct mMark Q) (xB D cA (va_A (wM cA a mPosts mThirds mStraight mLeast mIsLaid mIsGiven mActs mDone mQueued mCorner mSum mBeyond mAct mMark mSpare mLack mBefore mVia mQueue) sz)) (va_A (wM cA a mPosts mThirds mStraight mLeast mIsLaid mIsGiven mActs mDone mQueued mCorner mSum mBeyond mAct mMark mSpare mLack mBefore mVia mQueue) sz)) 0 0 (va_A (wM cA a mPosts mThirds mStraight mLeast mIsLaid mIsGiven mActs mDone mQueued mCorner mSum mBeyond mAct mMark mSpare mLack mBefore mVia mQueue) sz) := by
  refine xmet_i (by decide) (Nat.le_of_ble_eq_true rfl) ?_
  intro p e s m args below meth c A ls C hH hl
  have C : XC p s m args meth c cX5_opposite 3 RX5 (some .int) D cA A := C
  have hl : lv_has ls 3 [(0, .ref (a 0)), (1, .int (J x1)), (2, .int (J x2))] := hl
  unfold wp_M_opposite at h
  refine j_aload_n C dX5_opposite_0 (lv_at hl 0 rfl) ?_
  refine j_iload_n C dX5_opposite_1 (lv_at hl 1 rfl) ?_
  refine j_iload_n C dX5_opposite_2 (lv_at hl 2 rfl) ?_
  refine xcallV_i (As := [.int (J x1), .int (J x2)]) (rest := []) (q0 := 0) C hH (fun sz => c_M_arePair h) xl_X5_78 rfl rfl ⟨rfl, rfl⟩ ⟨Nat.le_of_ble_eq_true rfl, Nat.le_of_ble_eq_true rfl⟩ hl.1 rfl rfl (Nat.le_of_ble_eq_true rfl) dX5_opposite_3 (fun r_ w_ H locs hw hH => ?_)
  obtain ⟨z_1, rfl, rfl, h⟩ := hw
  obtain ⟨g_2, h⟩ := h
  refine j_if_eq C 18 g_2 dX5_opposite_6 (by decide) (fun c_3 => ?_) (fun c_3 => ?_)
  · have h := h.1 c_3
    refine j_iconst C dX5_opposite_18 ?_
    exact j_iret C hH ⟨_, _, _, _, _, _, _, _, _, _, rfl, rfl, h⟩ dX5_opposite_19
  · have h := h.2 c_3
    refine j_aload_n C dX5_opposite_9 (lv_at hl 0 rfl) ?_
    refine j_iload_n C dX5_opposite_10 (lv_at hl 1 rfl) ?_
    refine j_iload_n C dX5_opposite_11 (lv_at hl 2 rfl) ?_
    refine xcallV_i (As := [.int (J x1), .int (J x2)]) (rest := []) (q0 := 0) C hH (fun sz => c_M_sideOf h) xl_X5_93 rfl rfl ⟨rfl, rfl⟩ ⟨Nat.le_of_ble_eq_true rfl, Nat.le_of_ble_eq_true rfl⟩ hl.1 rfl rfl (Nat.le_of_ble_eq_true rfl) dX5_opposite_12 (fun r_ w_ H locs hw hH => ?_)
    obtain ⟨z_4, rfl, rfl, h⟩ := hw
    obtain ⟨g_5, h⟩ := h
    refine j_if_ne C 20 g_5 dX5_opposite_15 (by decide) (fun c_6 => ?_) (fun c_6 => ?_)
    · have h := h.2 c_6
      refine j_aload_n C dX5_opposite_20 (lv_at hl 0 rfl) ?_
      refine xcallV_i (As := []) (rest := []) (q0 := 0) C hH (fun sz => c_M_hasRow h) xl_X5_109 rfl rfl ⟨rfl, rfl⟩ ⟨Nat.le_of_ble_eq_true rfl, Nat.le_of_ble_eq_true rfl⟩ hl.1 rfl rfl (Nat.le_of_ble_eq_true rfl) dX5_opposite_21 (fun r_ w_ H locs hw hH => ?_)
      obtain ⟨z_7, mIsLaid_8, mIsGiven_9, mQueued_10, mBeyond_11, mSpare_12, mLack_13, mBefore_14, mVia_15, mQueue_16, rfl, rfl, h⟩ := hw
      obtain ⟨g_17, h⟩ := h
      refine j_if_eq C 36 g_17 dX5_opposite_24 (by decide) (fun c_18 => ?_) (fun c_18 => ?_)
      · have h := h.1 c_18
        refine j_bipush C (by decide +kernel) dX5_opposite_36 ?_
        exact j_iret C hH ⟨_, _, _, _, _, _, _, _, _, _, rfl, rfl, h⟩ dX5_opposite_38
      · have h := h.2 c_18
        refine j_aload_n C dX5_opposite_27 (lv_at hl 0 rfl) ?_
        refine j_iload_n C dX5_opposite_28 (lv_at hl 1 rfl) ?_
        refine j_iload_n C dX5_opposite_29 (lv_at hl 2 rfl) ?_
        refine xcallV_i (As := [.int (J x1), .int (J x2)]) (rest := []) (q0 := 0) C hH (fun sz => c_M_oppositeOf h) xl_X5_175 rfl rfl ⟨rfl, rfl⟩ ⟨Nat.le_of_ble_eq_true rfl, Nat.le_of_ble_eq_true rfl⟩ hl.1 rfl rfl (Nat.le_of_ble_eq_true rfl) dX5_opposite_30 (fun r_ w_ H locs hw hH => ?_)
        obtain ⟨z_19, rfl, rfl, h⟩ := hw
        refine j_goto C 38 dX5_opposite_33 (by decide) ?_
        exact j_iret C hH ⟨_, _, _, _, _, _, _, _, _, _, rfl, rfl, h⟩ dX5_opposite_38
    · have h := h.1 c_6
      refine j_iconst C dX5_opposite_18 ?_
      exact j_iret C hH ⟨_, _, _, _, _, _, _, _, _, _, rfl, rfl, h⟩ dX5_opposite_19
abbrev po_M_fit (cA : ClassId) (a : Nat → Nat) (mPosts mThirds mStraight mLeast mActs mDone : Int) (mCorner mSum mAct mMark : Nat → Int) (Q : Int → Int → Int → Int → (Nat → Int) → (Nat → Int) → (Nat → Int) → (Nat → Int) → (Nat → Int) → (Nat → Int) → Prop) : Int32 → va_W → Prop := fun r w => ∃ z mIsLaid' mIsGiven' mQueued' mBeyond' mSpare' mLack' mBefore' mVia' mQueue', r = J z ∧ w = wM cA a mPosts mThirds mStraight mLeast mIsLaid' mIsGiven' mActs mDone mQueued' mCorner mSum mBeyond' mAct mMark mSpare' mLack' mBefore' mVia' mQueue' ∧ Q z mIsLaid' mIsGiven' mQueued' mBeyond' mSpare' mLack' mBefore' mVia' mQueue'
set_option maxRecDepth 4000 in
theorem w_M_fit_24 {p : Program} {l : Launch} {e : Env} {s : State} {m : MethodId} {args : Array Value} {below : List Frame} {meth : Method} {c : Code} {D : va_G} {cA : ClassId} {A : Nat → Prop} {a : Nat → Nat} {mPosts mThirds mStraight mLeast mIsLaid mIsGiven mActs mDone mQueued : Int} {mCorner mSum mBeyond mAct mMark mSpare mLack mBefore mVia mQueue : Nat → Int} (C : XC p s m args meth c cX5_fit 4 RX5 (some .int) D cA A) {K14 : Int → Int → Prop} {Q : Int → Int → Int → Int → (Nat → Int) → (Nat → Int) → (Nat → Int) → (Nat → Int) → (Nat → Int) → (Nat → Int) → Prop} {x2 : Int}  (hK14 : ∀ (x1 : Int) (x2 : Int), K14 x1 x2 → ∀ (H : Heap) (locs : List Loc) (ls : Array Slot), XH D A s (wM cA a mPosts mThirds mStraight mLeast mIsLaid mIsGiven mActs mDone mQueued mCorner mSum mBeyond mAct mMark mSpare mLack mBefore mVia mQueue) H locs → lv_has ls 4 [(0, .ref (a 0)), (1, .int (J x1)), (2, .int (J x2))] → W p l e rm_M_fit s m args below meth c H locs 0 0 (MQ below (va_Qi (po_M_fit cA a mPosts mThirds mStraight mLeast mActs mDone mCorner mSum mAct mMark Q) (xB D cA A) A) args s 0 0 A) (F0 m 14 ls [])) : ∀ (n : Nat) (x1 : Int) (x3 : Int), wp_M_fit_24 K14 Q mPosts mThirds mStraight mLeast mCorner x2 mIsLaid mIsGiven mQueued mBeyond mSpare mLack mBefore mVia mQueue n x1 x3 → ∀ (H : Heap) (locs : List Loc) (ls : Array Slot), XH D A s (wM cA a mPosts mThirds mStraight mLeast mIsLaid mIsGiven mActs mDone mQueued mCorner mSum mBeyond mAct mMark mSpare mLack mBefore mVia mQueue) H locs → lv_has ls 4 [(0, .ref (a 0)), (1, .int (J x1)), (2, .int (J x2)), (3, .int (J x3))] → W p l e rm_M_fit s m args below meth c H locs 0 0 (MQ below (va_Qi (po_M_fit cA a mPosts mThirds mStraight mLeast mActs mDone mCorner mSum mAct mMark Q) (xB D cA A) A) args s 0 0 A) (F0 m 24 ls []) := by
  intro n
  induction n with
  | zero => intro x1 x3 h; exact (show False from h).elim
  | succ n hK24 =>
    intro x1 x3 h H locs ls hH hl
    have h : wp_M_fit_24_b K14 (wp_M_fit_24 K14 Q mPosts mThirds mStraight mLeast mCorner x2 mIsLaid mIsGiven mQueued mBeyond mSpare mLack mBefore mVia mQueue n) Q mPosts mThirds mStraight mLeast mCorner x2 mIsLaid mIsGiven mQueued mBeyond mSpare mLack mBefore mVia mQueue x1 x3 := h
    unfold wp_M_fit_24_b at h
    refine j_iload_n C dX5_fit_24 (lv_at hl 3 rfl) ?_
    refine j_iload_n C dX5_fit_25 (lv_at hl 2 rfl) ?_
    obtain ⟨g_1, h⟩ := h
    obtain ⟨g_2, h⟩ := h
    refine j_icmp_ge C 66 g_1 g_2 dX5_fit_26 (by decide) (fun c_3 => ?_) (fun c_3 => ?_)
    · have h := h.1 c_3
      refine j_iinc (k := 2) (v := x2 + 1) (lv' := [(2, .int (J (x2 + 1))), (0, .ref (a 0)), (1, .int (J x1)), (3, .int (J x3))]) C dX5_fit_66 hl rfl rfl (by decide) rfl (fun ls hl => ?_)
      refine j_goto C 14 dX5_fit_69 (by decide) ?_
      exact hK14 x1 (x2 + 1) h _ _ _ hH (lv_sub hl [1, 2, 0] rfl)
    · have h := h.2 c_3
      refine j_iload_n C dX5_fit_29 (lv_at hl 1 rfl) ?_
      refine j_aload_n C dX5_fit_30 (lv_at hl 0 rfl) ?_
      refine j_iload_n C dX5_fit_31 (lv_at hl 2 rfl) ?_
      refine j_iload_n C dX5_fit_32 (lv_at hl 3 rfl) ?_
      refine xcallV_i (As := [.int (J x2), .int (J x3)]) (rest := [.int (J x1)]) (q0 := 0) C hH (fun sz => c_M_sideOf h) xl_X5_93 rfl rfl ⟨rfl, rfl⟩ ⟨Nat.le_of_ble_eq_true rfl, Nat.le_of_ble_eq_true rfl⟩ hl.1 rfl rfl (Nat.le_of_ble_eq_true rfl) dX5_fit_33 (fun r_ w_ H locs hw hH => ?_)
      obtain ⟨z_4, rfl, rfl, h⟩ := hw
      refine j_iconst C dX5_fit_36 ?_
      obtain ⟨g_5, h⟩ := h
      refine j_icmp_ne C 57 g_5 (by unfold jR; decide) dX5_fit_37 (by decide) (fun c_6 => ?_) (fun c_6 => ?_)
      · have h := h.2 c_6
        refine j_iconst C dX5_fit_57 ?_
        refine j_iadd C dX5_fit_58 ?_
        refine j_istore_n (lv' := [(1, .int (J (x1 + 0))), (0, .ref (a 0)), (2, .int (J x2)), (3, .int (J x3))]) C dX5_fit_59 hl (by decide) rfl (fun ls hl => ?_)
        refine j_iinc (k := 3) (v := x3 + 1) (lv' := [(3, .int (J (x3 + 1))), (1, .int (J (x1 + 0))), (0, .ref (a 0)), (2, .int (J x2))]) C dX5_fit_60 hl rfl rfl (by decide) rfl (fun ls hl => ?_)
        refine j_goto C 24 dX5_fit_63 (by decide) ?_
        exact hK24 (x1 + 0) (x3 + 1) h _ _ _ hH (lv_sub hl [2, 1, 3, 0] rfl)
      · have h := h.1 c_6
        refine j_aload_n C dX5_fit_40 (lv_at hl 0 rfl) ?_
        refine j_iload_n C dX5_fit_41 (lv_at hl 2 rfl) ?_
        refine j_iload_n C dX5_fit_42 (lv_at hl 3 rfl) ?_
        refine xcallV_i (As := [.int (J x2), .int (J x3)]) (rest := [.int (J x1)]) (q0 := 0) C hH (fun sz => c_M_oppositeOf h) xl_X5_175 rfl rfl ⟨rfl, rfl⟩ ⟨Nat.le_of_ble_eq_true rfl, Nat.le_of_ble_eq_true rfl⟩ hl.1 rfl rfl (Nat.le_of_ble_eq_true rfl) dX5_fit_43 (fun r_ w_ H locs hw hH => ?_)
        obtain ⟨z_7, rfl, rfl, h⟩ := hw
        refine j_aload_n C dX5_fit_46 (lv_at hl 0 rfl) ?_
        refine xg_X5_straight C hH dX5_fit_47 ?_
        obtain ⟨g_8, h⟩ := h
        obtain ⟨g_9, h⟩ := h
        refine j_icmp_gt C 57 g_8 g_9 dX5_fit_50 (by decide) (fun c_10 => ?_) (fun c_10 => ?_)
        · have h := h.1 c_10
          refine j_iconst C dX5_fit_57 ?_
          refine j_iadd C dX5_fit_58 ?_
          refine j_istore_n (lv' := [(1, .int (J (x1 + 0))), (0, .ref (a 0)), (2, .int (J x2)), (3, .int (J x3))]) C dX5_fit_59 hl (by decide) rfl (fun ls hl => ?_)
          refine j_iinc (k := 3) (v := x3 + 1) (lv' := [(3, .int (J (x3 + 1))), (1, .int (J (x1 + 0))), (0, .ref (a 0)), (2, .int (J x2))]) C dX5_fit_60 hl rfl rfl (by decide) rfl (fun ls hl => ?_)
          refine j_goto C 24 dX5_fit_63 (by decide) ?_
          exact hK24 (x1 + 0) (x3 + 1) h _ _ _ hH (lv_sub hl [2, 1, 3, 0] rfl)
        · have h := h.2 c_10
          refine j_iconst C dX5_fit_53 ?_
          refine j_goto C 58 dX5_fit_54 (by decide) ?_
          refine j_iadd C dX5_fit_58 ?_
          refine j_istore_n (lv' := [(1, .int (J (x1 + 1))), (0, .ref (a 0)), (2, .int (J x2)), (3, .int (J x3))]) C dX5_fit_59 hl (by decide) rfl (fun ls hl => ?_)
          refine j_iinc (k := 3) (v := x3 + 1) (lv' := [(3, .int (J (x3 + 1))), (1, .int (J (x1 + 1))), (0, .ref (a 0)), (2, .int (J x2))]) C dX5_fit_60 hl rfl rfl (by decide) rfl (fun ls hl => ?_)
          refine j_goto C 24 dX5_fit_63 (by decide) ?_
          exact hK24 (x1 + 1) (x3 + 1) h _ _ _ hH (lv_sub hl [2, 1, 3, 0] rfl)
set_option maxRecDepth 4000 in
theorem w_M_fit_14 {p : Program} {l : Launch} {e : Env} {s : State} {m : MethodId} {args : Array Value} {below : List Frame} {meth : Method} {c : Code} {D : va_G} {cA : ClassId} {A : Nat → Prop} {a : Nat → Nat} {mPosts mThirds mStraight mLeast mIsLaid mIsGiven mActs mDone mQueued : Int} {mCorner mSum mBeyond mAct mMark mSpare mLack mBefore mVia mQueue : Nat → Int} (C : XC p s m args meth c cX5_fit 4 RX5 (some .int) D cA A) {Q : Int → Int → Int → Int → (Nat → Int) → (Nat → Int) → (Nat → Int) → (Nat → Int) → (Nat → Int) → (Nat → Int) → Prop}  : ∀ (n : Nat) (x1 : Int) (x2 : Int), wp_M_fit_14 Q mPosts mThirds mStraight mLeast mCorner mIsLaid mIsGiven mQueued mBeyond mSpare mLack mBefore mVia mQueue n x1 x2 → ∀ (H : Heap) (locs : List Loc) (ls : Array Slot), XH D A s (wM cA a mPosts mThirds mStraight mLeast mIsLaid mIsGiven mActs mDone mQueued mCorner mSum mBeyond mAct mMark mSpare mLack mBefore mVia mQueue) H locs → lv_has ls 4 [(0, .ref (a 0)), (1, .int (J x1)), (2, .int (J x2))] → W p l e rm_M_fit s m args below meth c H locs 0 0 (MQ below (va_Qi (po_M_fit cA a mPosts mThirds mStraight mLeast mActs mDone mCorner mSum mAct mMark Q) (xB D cA A) A) args s 0 0 A) (F0 m 14 ls []) := by
  intro n
  induction n with
  | zero => intro x1 x2 h; exact (show False from h).elim
  | succ n hK14 =>
    intro x1 x2 h H locs ls hH hl
    have h : wp_M_fit_14_b  (wp_M_fit_14 Q mPosts mThirds mStraight mLeast mCorner mIsLaid mIsGiven mQueued mBeyond mSpare mLack mBefore mVia mQueue n) Q mPosts mThirds mStraight mLeast mCorner mIsLaid mIsGiven mQueued mBeyond mSpare mLack mBefore mVia mQueue x1 x2 := h
    unfold wp_M_fit_14_b at h
    refine j_iload_n C dX5_fit_14 (lv_at hl 2 rfl) ?_
    refine j_aload_n C dX5_fit_15 (lv_at hl 0 rfl) ?_
    refine xg_X5_posts C hH dX5_fit_16 ?_
    obtain ⟨g_11, h⟩ := h
    obtain ⟨g_12, h⟩ := h
    refine j_icmp_ge C 72 g_11 g_12 dX5_fit_19 (by decide) (fun c_13 => ?_) (fun c_13 => ?_)
    · have h := h.1 c_13
      refine j_iload_n C dX5_fit_72 (lv_at hl 1 rfl) ?_
      exact j_iret C hH ⟨_, _, _, _, _, _, _, _, _, _, rfl, rfl, h⟩ dX5_fit_73
    · have h := h.2 c_13
      refine j_iconst C dX5_fit_22 ?_
      refine j_istore_n (lv' := [(3, .int (J 0)), (0, .ref (a 0)), (1, .int (J x1)), (2, .int (J x2))]) C dX5_fit_23 hl (by decide) rfl (fun ls hl => ?_)
      obtain ⟨n_, h⟩ := h
      exact w_M_fit_24 C hK14 n_ x1 0 h _ _ _ hH (lv_sub hl [1, 2, 3, 0] rfl)
set_option maxRecDepth 4000 in
theorem c_M_fit {l : Launch} {D : va_G} {cA : ClassId} {a : Nat → Nat} {sz : Nat} {mPosts mThirds mStraight mLeast mIsLaid mIsGiven mActs mDone mQueued : Int} {mCorner mSum mBeyond mAct mMark mSpare mLack mBefore mVia mQueue : Nat → Int} {Q : Int → Int → Int → Int → (Nat → Int) → (Nat → Int) → (Nat → Int) → (Nat → Int) → (Nat → Int) → (Nat → Int) → Prop} (h : wp_M_fit  mPosts mThirds mStraight mLeast mIsLaid mIsGiven mQueued mCorner mSum mBeyond mSpare mLack mBefore mVia mQueue Q) : Met l yX5_fit (.code yX5_fit cX5_fit 4 (some .int) :: lw_ok) rm_M_fit (xPre D cA sz [.ref (a 0)] (wM cA a mPosts mThirds mStraight mLeast mIsLaid mIsGiven mActs mDone mQueued mCorner mSum mBeyond mAct mMark mSpare mLack mBefore mVia mQueue)) (va_Qi (po_M_fit cA a mPosts mThirds mStraight mLeast mActs mDone mCorner mSum mAct mMark Q) (xB D cA (va_A (wM cA a mPosts mThirds mStraight mLeast mIsLaid mIsGiven mActs mDone mQueued mCorner mSum mBeyond mAct mMark mSpare mLack mBefore mVia mQueue) sz)) (va_A (wM cA a mPosts mThirds mStraight mLeast mIsLaid mIsGiven mActs mDone mQueued mCorner mSum mBeyond mAct mMark mSpare mLack mBefore mVia mQueue) sz)) 0 0 (va_A (wM cA a mPosts mThirds mStraight mLeast mIsLaid mIsGiven mActs mDone mQueued mCorner mSum mBeyond mAct mMark mSpare mLack mBefore mVia mQueue) sz) := by
  refine xmet_i (by decide) (Nat.le_of_ble_eq_true rfl) ?_
  intro p e s m args below meth c A ls C hH hl
  have C : XC p s m args meth c cX5_fit 4 RX5 (some .int) D cA A := C
  have hl : lv_has ls 4 [(0, .ref (a 0))] := hl
  unfold wp_M_fit at h
  refine j_aload_n C dX5_fit_0 (lv_at hl 0 rfl) ?_
  refine xcallV_i (As := []) (rest := []) (q0 := 0) C hH (fun sz => c_M_hasRow h) xl_X5_109 rfl rfl ⟨rfl, rfl⟩ ⟨Nat.le_of_ble_eq_true rfl, Nat.le_of_ble_eq_true rfl⟩ hl.1 rfl rfl (Nat.le_of_ble_eq_true rfl) dX5_fit_1 (fun r_ w_ H locs hw hH => ?_)
  obtain ⟨z_14, mIsLaid_15, mIsGiven_16, mQueued_17, mBeyond_18, mSpare_19, mLack_20, mBefore_21, mVia_22, mQueue_23, rfl, rfl, h⟩ := hw
  obtain ⟨g_24, h⟩ := h
  refine j_if_ne C 10 g_24 dX5_fit_4 (by decide) (fun c_25 => ?_) (fun c_25 => ?_)
  · have h := h.2 c_25
    refine j_iconst C dX5_fit_10 ?_
    refine j_istore_n (lv' := [(1, .int (J 0)), (0, .ref (a 0))]) C dX5_fit_11 hl (by decide) rfl (fun ls hl => ?_)
    refine j_iconst C dX5_fit_12 ?_
    refine j_istore_n (lv' := [(2, .int (J 0)), (1, .int (J 0)), (0, .ref (a 0))]) C dX5_fit_13 hl (by decide) rfl (fun ls hl => ?_)
    obtain ⟨n_, h⟩ := h
    exact w_M_fit_14 C  n_ 0 0 h _ _ _ hH (lv_sub hl [2, 1, 0] rfl)
  · have h := h.1 c_25
    refine j_bipush C (by decide +kernel) dX5_fit_7 ?_
    exact j_iret C hH ⟨_, _, _, _, _, _, _, _, _, _, rfl, rfl, h⟩ dX5_fit_9

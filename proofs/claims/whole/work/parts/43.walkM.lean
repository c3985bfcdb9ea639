abbrev po_M_fill (cA : ClassId) (a : Nat → Nat) (mPosts mThirds mStraight mLeast mIsLaid mIsGiven mActs mDone : Int) (mCorner mSum mAct mMark : Nat → Int) (Q : Int → (Nat → Int) → (Nat → Int) → (Nat → Int) → (Nat → Int) → (Nat → Int) → (Nat → Int) → Prop) : va_W → Prop := fun w => ∃ mQueued' mBeyond' mSpare' mLack' mBefore' mVia' mQueue', w = wM cA a mPosts mThirds mStraight mLeast mIsLaid mIsGiven mActs mDone mQueued' mCorner mSum mBeyond' mAct mMark mSpare' mLack' mBefore' mVia' mQueue' ∧ Q mQueued' mBeyond' mSpare' mLack' mBefore' mVia' mQueue'
set_option maxRecDepth 4000 in
theorem w_M_fill_89 {p : Program} {l : Launch} {e : Env} {s : State} {m : MethodId} {args : Array Value} {below : List Frame} {meth : Method} {c : Code} {D : va_G} {cA : ClassId} {A : Nat → Prop} {a : Nat → Nat} {mPosts mThirds mStraight mLeast mIsLaid mIsGiven mActs mDone : Int} {mCorner mSum mAct mMark : Nat → Int} (C : XC p s m args meth c cX5_fill 6 RX5 none D cA A) {K2 : Int → Int → (Nat → Int) → (Nat → Int) → (Nat → Int) → (Nat → Int) → (Nat → Int) → (Nat → Int) → Prop} {Q : Int → (Nat → Int) → (Nat → Int) → (Nat → Int) → (Nat → Int) → (Nat → Int) → (Nat → Int) → Prop} {x1 : Int}  (hK2 : ∀ (x2 : Int) (mQueued : Int) (mBeyond : Nat → Int) (mSpare : Nat → Int) (mLack : Nat → Int) (mBefore : Nat → Int) (mVia : Nat → Int) (mQueue : Nat → Int), K2 x2 mQueued mBeyond mSpare mLack mBefore mVia mQueue → ∀ (H : Heap) (locs : List Loc) (ls : Array Slot), XH D A s (wM cA a mPosts mThirds mStraight mLeast mIsLaid mIsGiven mActs mDone mQueued mCorner mSum mBeyond mAct mMark mSpare mLack mBefore mVia mQueue) H locs → lv_has ls 6 [(0, .ref (a 0)), (1, .int (J x1)), (2, .int (J x2))] → W p l e rm_M_fill s m args below meth c H locs 0 0 (MQ below (va_Qv (po_M_fill cA a mPosts mThirds mStraight mLeast mIsLaid mIsGiven mActs mDone mCorner mSum mAct mMark Q) (xB D cA A) A) args s 0 0 A) (F0 m 2 ls [])) : ∀ (x2 : Int) (x3 : Int) (t1 : Int) (t2 : Int) (mQueued : Int) (mBeyond : Nat → Int) (mSpare : Nat → Int) (mLack : Nat → Int) (mBefore : Nat → Int) (mVia : Nat → Int) (mQueue : Nat → Int), wp_M_fill_89 K2 Q mPosts mThirds mCorner mSum x1 x2 x3 t1 t2 mQueued mBeyond mSpare mLack mBefore mVia mQueue → ∀ (H : Heap) (locs : List Loc) (ls : Array Slot), XH D A s (wM cA a mPosts mThirds mStraight mLeast mIsLaid mIsGiven mActs mDone mQueued mCorner mSum mBeyond mAct mMark mSpare mLack mBefore mVia mQueue) H locs → lv_has ls 6 [(0, .ref (a 0)), (1, .int (J x1)), (2, .int (J x2)), (3, .int (J x3))] → W p l e rm_M_fill s m args below meth c H locs 0 0 (MQ below (va_Qv (po_M_fill cA a mPosts mThirds mStraight mLeast mIsLaid mIsGiven mActs mDone mCorner mSum mAct mMark Q) (xB D cA A) A) args s 0 0 A) (F0 m 89 ls [.int (J t2), .int (J t1), .ref (a 0)]) := by
  intro x2 x3 t1 t2 mQueued mBeyond mSpare mLack mBefore mVia mQueue h H locs ls hH hl
  unfold wp_M_fill_89 at h
  refine xcallV_i (As := [.int (J t1), .int (J t2)]) (rest := []) (q0 := 0) C hH (fun sz => c_M_wayRoom h) xl_X5_146 rfl rfl ⟨rfl, rfl⟩ ⟨Nat.le_of_ble_eq_true rfl, Nat.le_of_ble_eq_true rfl⟩ hl.1 rfl rfl (Nat.le_of_ble_eq_true rfl) dX5_fill_89 (fun r_ w_ H locs hw hH => ?_)
  obtain ⟨z_1, rfl, rfl, h⟩ := hw
  refine j_istore (lv' := [(4, .int (J z_1)), (0, .ref (a 0)), (1, .int (J x1)), (2, .int (J x2)), (3, .int (J x3))]) C dX5_fill_92 hl (by decide) rfl (fun ls hl => ?_)
  refine j_aload_n C dX5_fill_94 (lv_at hl 1 rfl) ?_
  refine j_bipush C (by decide +kernel) dX5_fill_95 ?_
  refine j_iload_n C dX5_fill_97 (lv_at hl 4 rfl) ?_
  refine j_iadd C dX5_fill_98 ?_
  refine j_iload C dX5_fill_99 (lv_at hl 0 rfl) ?_
  refine xcallV_i (As := [.int (J (12 + x3)), .int (J z_1)]) (rest := []) (q0 := 0) C hH (fun sz => c_M_goWay h) xl_X5_149 rfl rfl ⟨rfl, rfl⟩ ⟨Nat.le_of_ble_eq_true rfl, Nat.le_of_ble_eq_true rfl⟩ hl.1 rfl rfl (Nat.le_of_ble_eq_true rfl) dX5_fill_101 (fun r_ w_ H locs hw hH => ?_)
  obtain ⟨z_2, mBeyond_3, rfl, rfl, h⟩ := hw
  refine j_istore (lv' := [(5, .int (J z_2)), (4, .int (J z_1)), (0, .ref (a 0)), (1, .int (J x1)), (2, .int (J x2)), (3, .int (J x3))]) C dX5_fill_104 hl (by decide) rfl (fun ls hl => ?_)
  refine j_aload_n C dX5_fill_106 (lv_at hl 2 rfl) ?_
  refine xg_X5_spare C hH dX5_fill_107 ?_
  refine j_iload C dX5_fill_110 (lv_at hl 0 rfl) ?_
  refine j_dup2 C rfl rfl dX5_fill_112 ?_
  obtain ⟨b_4, h⟩ := h
  refine xa_mSpare C hH b_4 dX5_fill_113 ?_
  refine j_iload C dX5_fill_114 (lv_at hl 1 rfl) ?_
  refine j_isub C dX5_fill_116 ?_
  refine xs_mSpare C hH b_4 dX5_fill_117 (fun mSpare_5 e_mSpare_5 H locs hH => ?_)
  have h := h mSpare_5 e_mSpare_5
  refine j_aload_n C dX5_fill_118 (lv_at hl 2 rfl) ?_
  refine xg_X5_lack C hH dX5_fill_119 ?_
  refine j_iload_n C dX5_fill_122 (lv_at hl 5 rfl) ?_
  refine j_dup2 C rfl rfl dX5_fill_123 ?_
  obtain ⟨b_6, h⟩ := h
  refine xa_mLack C hH b_6 dX5_fill_124 ?_
  refine j_iload_n C dX5_fill_125 (lv_at hl 3 rfl) ?_
  obtain ⟨g_7, h⟩ := h
  refine j_if_eq C 134 g_7 dX5_fill_126 (by decide) (fun c_8 => ?_) (fun c_8 => ?_)
  · have h := h.1 c_8
    refine j_iconst C dX5_fill_134 ?_
    refine j_isub C dX5_fill_135 ?_
    refine xs_mLack C hH b_6 dX5_fill_136 (fun mLack_9 e_mLack_9 H locs hH => ?_)
    have h := h mLack_9 e_mLack_9
    refine j_goto C 2 dX5_fill_137 (by decide) ?_
    exact hK2 x2 mQueued mBeyond_3 mSpare_5 mLack_9 mBefore mVia mQueue h _ _ _ hH (lv_sub hl [2, 3, 4] rfl)
  · have h := h.2 c_8
    refine j_iload C dX5_fill_129 (lv_at hl 1 rfl) ?_
    refine j_goto C 135 dX5_fill_131 (by decide) ?_
    refine j_isub C dX5_fill_135 ?_
    refine xs_mLack C hH b_6 dX5_fill_136 (fun mLack_10 e_mLack_10 H locs hH => ?_)
    have h := h mLack_10 e_mLack_10
    refine j_goto C 2 dX5_fill_137 (by decide) ?_
    exact hK2 x2 mQueued mBeyond_3 mSpare_5 mLack_10 mBefore mVia mQueue h _ _ _ hH (lv_sub hl [2, 3, 4] rfl)
set_option maxRecDepth 4000 in
theorem w_M_fill_63 {p : Program} {l : Launch} {e : Env} {s : State} {m : MethodId} {args : Array Value} {below : List Frame} {meth : Method} {c : Code} {D : va_G} {cA : ClassId} {A : Nat → Prop} {a : Nat → Nat} {mPosts mThirds mStraight mLeast mIsLaid mIsGiven mActs mDone : Int} {mCorner mSum mAct mMark : Nat → Int} (C : XC p s m args meth c cX5_fill 6 RX5 none D cA A) {K2 : Int → Int → (Nat → Int) → (Nat → Int) → (Nat → Int) → (Nat → Int) → (Nat → Int) → (Nat → Int) → Prop} {Q : Int → (Nat → Int) → (Nat → Int) → (Nat → Int) → (Nat → Int) → (Nat → Int) → (Nat → Int) → Prop} {x1 : Int}  (hK2 : ∀ (x2 : Int) (mQueued : Int) (mBeyond : Nat → Int) (mSpare : Nat → Int) (mLack : Nat → Int) (mBefore : Nat → Int) (mVia : Nat → Int) (mQueue : Nat → Int), K2 x2 mQueued mBeyond mSpare mLack mBefore mVia mQueue → ∀ (H : Heap) (locs : List Loc) (ls : Array Slot), XH D A s (wM cA a mPosts mThirds mStraight mLeast mIsLaid mIsGiven mActs mDone mQueued mCorner mSum mBeyond mAct mMark mSpare mLack mBefore mVia mQueue) H locs → lv_has ls 6 [(0, .ref (a 0)), (1, .int (J x1)), (2, .int (J x2))] → W p l e rm_M_fill s m args below meth c H locs 0 0 (MQ below (va_Qv (po_M_fill cA a mPosts mThirds mStraight mLeast mIsLaid mIsGiven mActs mDone mCorner mSum mAct mMark Q) (xB D cA A) A) args s 0 0 A) (F0 m 2 ls [])) : ∀ (x3 : Int) (t0 : Int) (mQueued : Int) (mBeyond : Nat → Int) (mSpare : Nat → Int) (mLack : Nat → Int) (mBefore : Nat → Int) (mVia : Nat → Int) (mQueue : Nat → Int), wp_M_fill_63 K2 Q mPosts mThirds mCorner mSum x1 x3 t0 mQueued mBeyond mSpare mLack mBefore mVia mQueue → ∀ (H : Heap) (locs : List Loc) (ls : Array Slot), XH D A s (wM cA a mPosts mThirds mStraight mLeast mIsLaid mIsGiven mActs mDone mQueued mCorner mSum mBeyond mAct mMark mSpare mLack mBefore mVia mQueue) H locs → lv_has ls 6 [(0, .ref (a 0)), (1, .int (J x1)), (3, .int (J x3))] → W p l e rm_M_fill s m args below meth c H locs 0 0 (MQ below (va_Qv (po_M_fill cA a mPosts mThirds mStraight mLeast mIsLaid mIsGiven mActs mDone mCorner mSum mAct mMark Q) (xB D cA A) A) args s 0 0 A) (F0 m 63 ls [.int (J t0)]) := by
  intro x3 t0 mQueued mBeyond mSpare mLack mBefore mVia mQueue h H locs ls hH hl
  unfold wp_M_fill_63 at h
  refine j_istore_n (lv' := [(2, .int (J t0)), (0, .ref (a 0)), (1, .int (J x1)), (3, .int (J x3))]) C dX5_fill_63 hl (by decide) rfl (fun ls hl => ?_)
  refine j_iload_n C dX5_fill_64 (lv_at hl 0 rfl) ?_
  obtain ⟨g_11, h⟩ := h
  refine j_if_eq C 137 g_11 dX5_fill_65 (by decide) (fun c_12 => ?_) (fun c_12 => ?_)
  · have h := h.1 c_12
    refine j_goto C 2 dX5_fill_137 (by decide) ?_
    exact hK2 t0 mQueued mBeyond mSpare mLack mBefore mVia mQueue h _ _ _ hH (lv_sub hl [1, 2, 0] rfl)
  · have h := h.2 c_12
    refine j_aload_n C dX5_fill_68 (lv_at hl 1 rfl) ?_
    refine j_bipush C (by decide +kernel) dX5_fill_69 ?_
    refine j_iload_n C dX5_fill_71 (lv_at hl 3 rfl) ?_
    refine j_iadd C dX5_fill_72 ?_
    refine j_iload_n C dX5_fill_73 (lv_at hl 2 rfl) ?_
    obtain ⟨g_13, h⟩ := h
    refine j_if_eq C 86 g_13 dX5_fill_74 (by decide) (fun c_14 => ?_) (fun c_14 => ?_)
    · have h := h.1 c_14
      refine j_sipush C (by decide +kernel) dX5_fill_86 ?_
      exact w_M_fill_89 C hK2 t0 x3 (12 + x3) 4000 mQueued mBeyond mSpare mLack mBefore mVia mQueue h _ _ _ hH (lv_sub hl [1, 2, 0, 3] rfl)
    · have h := h.2 c_14
      refine j_aload_n C dX5_fill_77 (lv_at hl 1 rfl) ?_
      refine xg_X5_lack C hH dX5_fill_78 ?_
      refine j_iload_n C dX5_fill_81 (lv_at hl 3 rfl) ?_
      obtain ⟨b_15, h⟩ := h
      refine xa_mLack C hH b_15 dX5_fill_82 ?_
      refine j_goto C 89 dX5_fill_83 (by decide) ?_
      exact w_M_fill_89 C hK2 t0 x3 (12 + x3) (mLack x3.toNat) mQueued mBeyond mSpare mLack mBefore mVia mQueue h _ _ _ hH (lv_sub hl [1, 2, 0, 3] rfl)
set_option maxRecDepth 4000 in
theorem w_M_fill_12 {p : Program} {l : Launch} {e : Env} {s : State} {m : MethodId} {args : Array Value} {below : List Frame} {meth : Method} {c : Code} {D : va_G} {cA : ClassId} {A : Nat → Prop} {a : Nat → Nat} {mPosts mThirds mStraight mLeast mIsLaid mIsGiven mActs mDone : Int} {mCorner mSum mBeyond mAct mMark mSpare mLack : Nat → Int} (C : XC p s m args meth c cX5_fill 6 RX5 none D cA A) {K2 : Int → Int → (Nat → Int) → (Nat → Int) → (Nat → Int) → (Nat → Int) → (Nat → Int) → (Nat → Int) → Prop} {Q : Int → (Nat → Int) → (Nat → Int) → (Nat → Int) → (Nat → Int) → (Nat → Int) → (Nat → Int) → Prop} {x1 : Int}  (hK2 : ∀ (x2 : Int) (mQueued : Int) (mBeyond : Nat → Int) (mSpare : Nat → Int) (mLack : Nat → Int) (mBefore : Nat → Int) (mVia : Nat → Int) (mQueue : Nat → Int), K2 x2 mQueued mBeyond mSpare mLack mBefore mVia mQueue → ∀ (H : Heap) (locs : List Loc) (ls : Array Slot), XH D A s (wM cA a mPosts mThirds mStraight mLeast mIsLaid mIsGiven mActs mDone mQueued mCorner mSum mBeyond mAct mMark mSpare mLack mBefore mVia mQueue) H locs → lv_has ls 6 [(0, .ref (a 0)), (1, .int (J x1)), (2, .int (J x2))] → W p l e rm_M_fill s m args below meth c H locs 0 0 (MQ below (va_Qv (po_M_fill cA a mPosts mThirds mStraight mLeast mIsLaid mIsGiven mActs mDone mCorner mSum mAct mMark Q) (xB D cA A) A) args s 0 0 A) (F0 m 2 ls [])) : ∀ (n : Nat) (x3 : Int) (mQueued : Int) (mBefore : Nat → Int) (mVia : Nat → Int) (mQueue : Nat → Int), wp_M_fill_12 K2 Q mPosts mThirds mCorner mSum x1 mBeyond mSpare mLack n x3 mQueued mBefore mVia mQueue → ∀ (H : Heap) (locs : List Loc) (ls : Array Slot), XH D A s (wM cA a mPosts mThirds mStraight mLeast mIsLaid mIsGiven mActs mDone mQueued mCorner mSum mBeyond mAct mMark mSpare mLack mBefore mVia mQueue) H locs → lv_has ls 6 [(0, .ref (a 0)), (1, .int (J x1)), (3, .int (J x3))] → W p l e rm_M_fill s m args below meth c H locs 0 0 (MQ below (va_Qv (po_M_fill cA a mPosts mThirds mStraight mLeast mIsLaid mIsGiven mActs mDone mCorner mSum mAct mMark Q) (xB D cA A) A) args s 0 0 A) (F0 m 12 ls []) := by
  intro n
  induction n with
  | zero => intro x3 mQueued mBefore mVia mQueue h; exact (show False from h).elim
  | succ n hK12 =>
    intro x3 mQueued mBefore mVia mQueue h H locs ls hH hl
    have h : wp_M_fill_12_b K2 (wp_M_fill_12 K2 Q mPosts mThirds mCorner mSum x1 mBeyond mSpare mLack n) Q mPosts mThirds mCorner mSum x1 mBeyond mSpare mLack x3 mQueued mBefore mVia mQueue := h
    unfold wp_M_fill_12_b at h
    refine j_iload_n C dX5_fill_12 (lv_at hl 2 rfl) ?_
    refine j_aload_n C dX5_fill_13 (lv_at hl 0 rfl) ?_
    refine xg_X5_thirds C hH dX5_fill_14 ?_
    obtain ⟨g_16, h⟩ := h
    obtain ⟨g_17, h⟩ := h
    refine j_icmp_ge C 42 g_16 g_17 dX5_fill_17 (by decide) (fun c_18 => ?_) (fun c_18 => ?_)
    · have h := h.1 c_18
      refine j_aload_n C dX5_fill_42 (lv_at hl 0 rfl) ?_
      refine j_iconst C dX5_fill_43 ?_
      refine j_iconst C dX5_fill_44 ?_
      refine xcallV_v (As := [.int (J 0), .int (J 0)]) (rest := []) (q0 := 0) C hH (fun sz => c_M_spread h) xl_X5_138 rfl rfl ⟨rfl, rfl⟩ ⟨Nat.le_of_ble_eq_true rfl, Nat.le_of_ble_eq_true rfl⟩ hl.1 rfl rfl (Nat.le_of_ble_eq_true rfl) dX5_fill_45 (fun w_ H locs hw hH => ?_)
      obtain ⟨mQueued_19, mBefore_20, mVia_21, mQueue_22, rfl, h⟩ := hw
      refine j_aload_n C dX5_fill_48 (lv_at hl 0 rfl) ?_
      refine j_iload_n C dX5_fill_49 (lv_at hl 1 rfl) ?_
      refine xcallV_i (As := [.int (J x1)]) (rest := []) (q0 := 0) C hH (fun sz => c_M_wanting h) xl_X5_142 rfl rfl ⟨rfl, rfl⟩ ⟨Nat.le_of_ble_eq_true rfl, Nat.le_of_ble_eq_true rfl⟩ hl.1 rfl rfl (Nat.le_of_ble_eq_true rfl) dX5_fill_50 (fun r_ w_ H locs hw hH => ?_)
      obtain ⟨z_23, rfl, rfl, h⟩ := hw
      refine j_istore_n (lv' := [(3, .int (J z_23)), (0, .ref (a 0)), (1, .int (J x1))]) C dX5_fill_53 hl (by decide) rfl (fun ls hl => ?_)
      refine j_iload_n C dX5_fill_54 (lv_at hl 0 rfl) ?_
      obtain ⟨g_24, h⟩ := h
      refine j_if_lt C 62 g_24 dX5_fill_55 (by decide) (fun c_25 => ?_) (fun c_25 => ?_)
      · have h := h.1 c_25
        refine j_iconst C dX5_fill_62 ?_
        exact w_M_fill_63 C hK2 z_23 0 mQueued_19 mBeyond mSpare mLack mBefore_20 mVia_21 mQueue_22 h _ _ _ hH (lv_sub hl [1, 2, 0] rfl)
      · have h := h.2 c_25
        refine j_iconst C dX5_fill_58 ?_
        refine j_goto C 63 dX5_fill_59 (by decide) ?_
        exact w_M_fill_63 C hK2 z_23 1 mQueued_19 mBeyond mSpare mLack mBefore_20 mVia_21 mQueue_22 h _ _ _ hH (lv_sub hl [1, 2, 0] rfl)
    · have h := h.2 c_18
      refine j_aload_n C dX5_fill_20 (lv_at hl 0 rfl) ?_
      refine xg_X5_spare C hH dX5_fill_21 ?_
      refine j_iload_n C dX5_fill_24 (lv_at hl 2 rfl) ?_
      obtain ⟨b_26, h⟩ := h
      refine xa_mSpare C hH b_26 dX5_fill_25 ?_
      obtain ⟨g_27, h⟩ := h
      refine j_if_le C 36 g_27 dX5_fill_26 (by decide) (fun c_28 => ?_) (fun c_28 => ?_)
      · have h := h.1 c_28
        refine j_iinc (k := 2) (v := x3 + 1) (lv' := [(3, .int (J (x3 + 1))), (0, .ref (a 0)), (1, .int (J x1))]) C dX5_fill_36 hl rfl rfl (by decide) rfl (fun ls hl => ?_)
        refine j_goto C 12 dX5_fill_39 (by decide) ?_
        exact hK12 (x3 + 1) mQueued mBefore mVia mQueue h _ _ _ hH (lv_sub hl [1, 2, 0] rfl)
      · have h := h.2 c_28
        refine j_aload_n C dX5_fill_29 (lv_at hl 0 rfl) ?_
        refine j_iload_n C dX5_fill_30 (lv_at hl 2 rfl) ?_
        refine j_iconst C dX5_fill_31 ?_
        refine j_iconst C dX5_fill_32 ?_
        refine xcallV_v (As := [.int (J x3), .int (J (-1)), .int (J (-1))]) (rest := []) (q0 := 0) C hH (fun sz => c_M_come h) xl_X5_132 rfl rfl ⟨rfl, rfl⟩ ⟨Nat.le_of_ble_eq_true rfl, Nat.le_of_ble_eq_true rfl⟩ hl.1 rfl rfl (Nat.le_of_ble_eq_true rfl) dX5_fill_33 (fun w_ H locs hw hH => ?_)
        obtain ⟨mQueued_29, mBefore_30, mVia_31, mQueue_32, rfl, h⟩ := hw
        refine j_iinc (k := 2) (v := x3 + 1) (lv' := [(3, .int (J (x3 + 1))), (0, .ref (a 0)), (1, .int (J x1))]) C dX5_fill_36 hl rfl rfl (by decide) rfl (fun ls hl => ?_)
        refine j_goto C 12 dX5_fill_39 (by decide) ?_
        exact hK12 (x3 + 1) mQueued_29 mBefore_30 mVia_31 mQueue_32 h _ _ _ hH (lv_sub hl [1, 2, 0] rfl)
set_option maxRecDepth 4000 in
theorem w_M_fill_2 {p : Program} {l : Launch} {e : Env} {s : State} {m : MethodId} {args : Array Value} {below : List Frame} {meth : Method} {c : Code} {D : va_G} {cA : ClassId} {A : Nat → Prop} {a : Nat → Nat} {mPosts mThirds mStraight mLeast mIsLaid mIsGiven mActs mDone : Int} {mCorner mSum mAct mMark : Nat → Int} (C : XC p s m args meth c cX5_fill 6 RX5 none D cA A) {Q : Int → (Nat → Int) → (Nat → Int) → (Nat → Int) → (Nat → Int) → (Nat → Int) → (Nat → Int) → Prop} {x1 : Int}  : ∀ (n : Nat) (x2 : Int) (mQueued : Int) (mBeyond : Nat → Int) (mSpare : Nat → Int) (mLack : Nat → Int) (mBefore : Nat → Int) (mVia : Nat → Int) (mQueue : Nat → Int), wp_M_fill_2 Q mPosts mThirds mCorner mSum x1 n x2 mQueued mBeyond mSpare mLack mBefore mVia mQueue → ∀ (H : Heap) (locs : List Loc) (ls : Array Slot), XH D A s (wM cA a mPosts mThirds mStraight mLeast mIsLaid mIsGiven mActs mDone mQueued mCorner mSum mBeyond mAct mMark mSpare mLack mBefore mVia mQueue) H locs → lv_has ls 6 [(0, .ref (a 0)), (1, .int (J x1)), (2, .int (J x2))] → W p l e rm_M_fill s m args below meth c H locs 0 0 (MQ below (va_Qv (po_M_fill cA a mPosts mThirds mStraight mLeast mIsLaid mIsGiven mActs mDone mCorner mSum mAct mMark Q) (xB D cA A) A) args s 0 0 A) (F0 m 2 ls []) := by
  intro n
  induction n with
  | zero => intro x2 mQueued mBeyond mSpare mLack mBefore mVia mQueue h; exact (show False from h).elim
  | succ n hK2 =>
    intro x2 mQueued mBeyond mSpare mLack mBefore mVia mQueue h H locs ls hH hl
    have h : wp_M_fill_2_b  (wp_M_fill_2 Q mPosts mThirds mCorner mSum x1 n) Q mPosts mThirds mCorner mSum x1 x2 mQueued mBeyond mSpare mLack mBefore mVia mQueue := h
    unfold wp_M_fill_2_b at h
    refine j_iload_n C dX5_fill_2 (lv_at hl 2 rfl) ?_
    obtain ⟨g_33, h⟩ := h
    refine j_if_eq C 140 g_33 dX5_fill_3 (by decide) (fun c_34 => ?_) (fun c_34 => ?_)
    · have h := h.1 c_34
      exact j_vret C hH ⟨_, _, _, _, _, _, _, rfl, h⟩ dX5_fill_140
    · have h := h.2 c_34
      refine j_aload_n C dX5_fill_6 (lv_at hl 0 rfl) ?_
      refine xcallV_v (As := []) (rest := []) (q0 := 0) C hH (fun sz => c_M_clearWays h) xl_X5_135 rfl rfl ⟨rfl, rfl⟩ ⟨Nat.le_of_ble_eq_true rfl, Nat.le_of_ble_eq_true rfl⟩ hl.1 rfl rfl (Nat.le_of_ble_eq_true rfl) dX5_fill_7 (fun w_ H locs hw hH => ?_)
      obtain ⟨mQueued_35, mBefore_36, rfl, h⟩ := hw
      refine j_iconst C dX5_fill_10 ?_
      refine j_istore_n (lv' := [(3, .int (J 0)), (0, .ref (a 0)), (1, .int (J x1)), (2, .int (J x2))]) C dX5_fill_11 hl (by decide) rfl (fun ls hl => ?_)
      obtain ⟨n_, h⟩ := h
      exact w_M_fill_12 C hK2 n_ 0 mQueued_35 mBefore_36 mVia mQueue h _ _ _ hH (lv_sub hl [1, 2, 0] rfl)
set_option maxRecDepth 4000 in
theorem c_M_fill {l : Launch} {D : va_G} {cA : ClassId} {a : Nat → Nat} {sz : Nat} {mPosts mThirds mStraight mLeast mIsLaid mIsGiven mActs mDone mQueued : Int} {mCorner mSum mBeyond mAct mMark mSpare mLack mBefore mVia mQueue : Nat → Int} {x1 : Int} {Q : Int → (Nat → Int) → (Nat → Int) → (Nat → Int) → (Nat → Int) → (Nat → Int) → (Nat → Int) → Prop} (h : wp_M_fill x1 mPosts mThirds mQueued mCorner mSum mBeyond mSpare mLack mBefore mVia mQueue Q) : Met l yX5_fill (.code yX5_fill cX5_fill 6 none :: lw_ok) rm_M_fill (xPre D cA sz [.ref (a 0), .int (J x1)] (wM cA a mPosts mThirds mStraight mLeast mIsLaid mIsGiven mActs mDone mQueued mCorner mSum mBeyond mAct mMark mSpare mLack mBefore mVia mQueue)) (va_Qv (po_M_fill cA a mPosts mThirds mStraight mLeast mIsLaid mIsGiven mActs mDone mCorner mSum mAct mMark Q) (xB D cA (va_A (wM cA a mPosts mThirds mStraight mLeast mIsLaid mIsGiven mActs mDone mQueued mCorner mSum mBeyond mAct mMark mSpare mLack mBefore mVia mQueue) sz)) (va_A (wM cA a mPosts mThirds mStraight mLeast mIsLaid mIsGiven mActs mDone mQueued mCorner mSum mBeyond mAct mMark mSpare mLack mBefore mVia mQueue) sz)) 0 0 (va_A (wM cA a mPosts mThirds mStraight mLeast mIsLaid mIsGiven mActs mDone mQueued mCorner mSum mBeyond mAct mMark mSpare mLack mBefore mVia mQueue) sz) := by
  refine xmet_v (by decide) (Nat.le_of_ble_eq_true rfl) ?_
  intro p e s m args below meth c A ls C hH hl
  have C : XC p s m args meth c cX5_fill 6 RX5 none D cA A := C
  have hl : lv_has ls 6 [(0, .ref (a 0)), (1, .int (J x1))] := hl
  unfold wp_M_fill at h
  refine j_iconst C dX5_fill_0 ?_
  refine j_istore_n (lv' := [(2, .int (J 1)), (0, .ref (a 0)), (1, .int (J x1))]) C dX5_fill_1 hl (by decide) rfl (fun ls hl => ?_)
  obtain ⟨n_, h⟩ := h
  exact w_M_fill_2 C  n_ 1 mQueued mBeyond mSpare mLack mBefore mVia mQueue h _ _ _ hH (lv_sub hl [1, 2, 0] rfl)
abbrev po_M_canWith (cA : ClassId) (a : Nat → Nat) (mPosts mThirds mStraight mLeast mIsLaid mIsGiven mActs mDone : Int) (mCorner mSum mAct mMark : Nat → Int) (Q : Int → Int → (Nat → Int) → (Nat → Int) → (Nat → Int) → (Nat → Int) → (Nat → Int) → (Nat → Int) → Prop) : Int32 → va_W → Prop := fun r w => ∃ z mQueued' mBeyond' mSpare' mLack' mBefore' mVia' mQueue', r = J z ∧ w = wM cA a mPosts mThirds mStraight mLeast mIsLaid mIsGiven mActs mDone mQueued' mCorner mSum mBeyond' mAct mMark mSpare' mLack' mBefore' mVia' mQueue' ∧ Q z mQueued' mBeyond' mSpare' mLack' mBefore' mVia' mQueue'
set_option maxRecDepth 4000 in
theorem w_M_canWith_176 {p : Program} {l : Launch} {e : Env} {s : State} {m : MethodId} {args : Array Value} {below : List Frame} {meth : Method} {c : Code} {D : va_G} {cA : ClassId} {A : Nat → Prop} {a : Nat → Nat} {mPosts mThirds mStraight mLeast mIsLaid mIsGiven mActs mDone mQueued : Int} {mCorner mSum mBeyond mAct mMark mSpare mLack mBefore mVia mQueue : Nat → Int} (C : XC p s m args meth c cX5_canWith 4 RX5 (some .boolean) D cA A) {Q : Int → Int → (Nat → Int) → (Nat → Int) → (Nat → Int) → (Nat → Int) → (Nat → Int) → (Nat → Int) → Prop}  : ∀ (n : Nat) (x2 : Int) (x3 : Int), wp_M_canWith_176 Q mPosts mQueued mBeyond mSpare mLack mBefore mVia mQueue n x2 x3 → ∀ (H : Heap) (locs : List Loc) (ls : Array Slot), XH D A s (wM cA a mPosts mThirds mStraight mLeast mIsLaid mIsGiven mActs mDone mQueued mCorner mSum mBeyond mAct mMark mSpare mLack mBefore mVia mQueue) H locs → lv_has ls 4 [(0, .ref (a 0)), (2, .int (J x2)), (3, .int (J x3))] → W p l e rm_M_canWith s m args below meth c H locs 0 0 (MQ below (va_Qi (po_M_canWith cA a mPosts mThirds mStraight mLeast mIsLaid mIsGiven mActs mDone mCorner mSum mAct mMark Q) (xB D cA A) A) args s 0 0 A) (F0 m 176 ls []) := by
  intro n
  induction n with
  | zero => intro x2 x3 h; exact (show False from h).elim
  | succ n hK176 =>
    intro x2 x3 h H locs ls hH hl
    have h : wp_M_canWith_176_b  (wp_M_canWith_176 Q mPosts mQueued mBeyond mSpare mLack mBefore mVia mQueue n) Q mPosts mQueued mBeyond mSpare mLack mBefore mVia mQueue x2 x3 := h
    unfold wp_M_canWith_176_b at h
    refine j_iload_n C dX5_canWith_176 (lv_at hl 2 rfl) ?_
    refine j_aload_n C dX5_canWith_177 (lv_at hl 0 rfl) ?_
    refine xg_X5_posts C hH dX5_canWith_178 ?_
    obtain ⟨g_1, h⟩ := h
    obtain ⟨g_2, h⟩ := h
    refine j_icmp_ge C 209 g_1 g_2 dX5_canWith_181 (by decide) (fun c_3 => ?_) (fun c_3 => ?_)
    · have h := h.1 c_3
      refine j_iload_n C dX5_canWith_209 (lv_at hl 1 rfl) ?_
      obtain ⟨hz, h⟩ := h
      exact j_zret C hH hz ⟨_, _, _, _, _, _, _, _, rfl, rfl, h⟩ dX5_canWith_210
    · have h := h.2 c_3
      refine j_iload_n C dX5_canWith_184 (lv_at hl 1 rfl) ?_
      obtain ⟨g_4, h⟩ := h
      refine j_if_eq C 201 g_4 dX5_canWith_185 (by decide) (fun c_5 => ?_) (fun c_5 => ?_)
      · have h := h.1 c_5
        refine j_iconst C dX5_canWith_201 ?_
        refine j_istore_n (lv' := [(2, .int (J 0)), (0, .ref (a 0)), (3, .int (J x3))]) C dX5_canWith_202 hl (by decide) rfl (fun ls hl => ?_)
        refine j_iinc (k := 2) (v := x3 + 1) (lv' := [(3, .int (J (x3 + 1))), (2, .int (J 0)), (0, .ref (a 0))]) C dX5_canWith_203 hl rfl rfl (by decide) rfl (fun ls hl => ?_)
        refine j_goto C 176 dX5_canWith_206 (by decide) ?_
        exact hK176 0 (x3 + 1) h _ _ _ hH (lv_sub hl [2, 1, 0] rfl)
      · have h := h.2 c_5
        refine j_aload_n C dX5_canWith_188 (lv_at hl 0 rfl) ?_
        refine xg_X5_lack C hH dX5_canWith_189 ?_
        refine j_iload_n C dX5_canWith_192 (lv_at hl 2 rfl) ?_
        obtain ⟨b_6, h⟩ := h
        refine xa_mLack C hH b_6 dX5_canWith_193 ?_
        obtain ⟨g_7, h⟩ := h
        refine j_if_ne C 201 g_7 dX5_canWith_194 (by decide) (fun c_8 => ?_) (fun c_8 => ?_)
        · have h := h.2 c_8
          refine j_iconst C dX5_canWith_201 ?_
          refine j_istore_n (lv' := [(2, .int (J 0)), (0, .ref (a 0)), (3, .int (J x3))]) C dX5_canWith_202 hl (by decide) rfl (fun ls hl => ?_)
          refine j_iinc (k := 2) (v := x3 + 1) (lv' := [(3, .int (J (x3 + 1))), (2, .int (J 0)), (0, .ref (a 0))]) C dX5_canWith_203 hl rfl rfl (by decide) rfl (fun ls hl => ?_)
          refine j_goto C 176 dX5_canWith_206 (by decide) ?_
          exact hK176 0 (x3 + 1) h _ _ _ hH (lv_sub hl [2, 1, 0] rfl)
        · have h := h.1 c_8
          refine j_iconst C dX5_canWith_197 ?_
          refine j_goto C 202 dX5_canWith_198 (by decide) ?_
          refine j_istore_n (lv' := [(2, .int (J 1)), (0, .ref (a 0)), (3, .int (J x3))]) C dX5_canWith_202 hl (by decide) rfl (fun ls hl => ?_)
          refine j_iinc (k := 2) (v := x3 + 1) (lv' := [(3, .int (J (x3 + 1))), (2, .int (J 1)), (0, .ref (a 0))]) C dX5_canWith_203 hl rfl rfl (by decide) rfl (fun ls hl => ?_)
          refine j_goto C 176 dX5_canWith_206 (by decide) ?_
          exact hK176 1 (x3 + 1) h _ _ _ hH (lv_sub hl [2, 1, 0] rfl)
set_option maxRecDepth 4000 in
theorem w_M_canWith_141 {p : Program} {l : Launch} {e : Env} {s : State} {m : MethodId} {args : Array Value} {below : List Frame} {meth : Method} {c : Code} {D : va_G} {cA : ClassId} {A : Nat → Prop} {a : Nat → Nat} {mPosts mThirds mStraight mLeast mIsLaid mIsGiven mActs mDone mQueued : Int} {mCorner mSum mBeyond mAct mMark mSpare mLack mBefore mVia mQueue : Nat → Int} (C : XC p s m args meth c cX5_canWith 4 RX5 (some .boolean) D cA A) {Q : Int → Int → (Nat → Int) → (Nat → Int) → (Nat → Int) → (Nat → Int) → (Nat → Int) → (Nat → Int) → Prop}  : ∀ (n : Nat) (x2 : Int) (x3 : Int), wp_M_canWith_141 Q mPosts mThirds mQueued mBeyond mSpare mLack mBefore mVia mQueue n x2 x3 → ∀ (H : Heap) (locs : List Loc) (ls : Array Slot), XH D A s (wM cA a mPosts mThirds mStraight mLeast mIsLaid mIsGiven mActs mDone mQueued mCorner mSum mBeyond mAct mMark mSpare mLack mBefore mVia mQueue) H locs → lv_has ls 4 [(0, .ref (a 0)), (2, .int (J x2)), (3, .int (J x3))] → W p l e rm_M_canWith s m args below meth c H locs 0 0 (MQ below (va_Qi (po_M_canWith cA a mPosts mThirds mStraight mLeast mIsLaid mIsGiven mActs mDone mCorner mSum mAct mMark Q) (xB D cA A) A) args s 0 0 A) (F0 m 141 ls []) := by
  intro n
  induction n with
  | zero => intro x2 x3 h; exact (show False from h).elim
  | succ n hK141 =>
    intro x2 x3 h H locs ls hH hl
    have h : wp_M_canWith_141_b  (wp_M_canWith_141 Q mPosts mThirds mQueued mBeyond mSpare mLack mBefore mVia mQueue n) Q mPosts mThirds mQueued mBeyond mSpare mLack mBefore mVia mQueue x2 x3 := h
    unfold wp_M_canWith_141_b at h
    refine j_iload_n C dX5_canWith_141 (lv_at hl 2 rfl) ?_
    refine j_aload_n C dX5_canWith_142 (lv_at hl 0 rfl) ?_
    refine xg_X5_thirds C hH dX5_canWith_143 ?_
    obtain ⟨g_9, h⟩ := h
    obtain ⟨g_10, h⟩ := h
    refine j_icmp_ge C 174 g_9 g_10 dX5_canWith_146 (by decide) (fun c_11 => ?_) (fun c_11 => ?_)
    · have h := h.1 c_11
      refine j_iconst C dX5_canWith_174 ?_
      refine j_istore_n (lv' := [(3, .int (J 0)), (0, .ref (a 0)), (2, .int (J x2))]) C dX5_canWith_175 hl (by decide) rfl (fun ls hl => ?_)
      obtain ⟨n_, h⟩ := h
      exact w_M_canWith_176 C  n_ x2 0 h _ _ _ hH (lv_sub hl [1, 2, 0] rfl)
    · have h := h.2 c_11
      refine j_iload_n C dX5_canWith_149 (lv_at hl 1 rfl) ?_
      obtain ⟨g_12, h⟩ := h
      refine j_if_eq C 166 g_12 dX5_canWith_150 (by decide) (fun c_13 => ?_) (fun c_13 => ?_)
      · have h := h.1 c_13
        refine j_iconst C dX5_canWith_166 ?_
        refine j_istore_n (lv' := [(2, .int (J 0)), (0, .ref (a 0)), (3, .int (J x3))]) C dX5_canWith_167 hl (by decide) rfl (fun ls hl => ?_)
        refine j_iinc (k := 2) (v := x3 + 1) (lv' := [(3, .int (J (x3 + 1))), (2, .int (J 0)), (0, .ref (a 0))]) C dX5_canWith_168 hl rfl rfl (by decide) rfl (fun ls hl => ?_)
        refine j_goto C 141 dX5_canWith_171 (by decide) ?_
        exact hK141 0 (x3 + 1) h _ _ _ hH (lv_sub hl [2, 1, 0] rfl)
      · have h := h.2 c_13
        refine j_aload_n C dX5_canWith_153 (lv_at hl 0 rfl) ?_
        refine xg_X5_spare C hH dX5_canWith_154 ?_
        refine j_iload_n C dX5_canWith_157 (lv_at hl 2 rfl) ?_
        obtain ⟨b_14, h⟩ := h
        refine xa_mSpare C hH b_14 dX5_canWith_158 ?_
        obtain ⟨g_15, h⟩ := h
        refine j_if_ne C 166 g_15 dX5_canWith_159 (by decide) (fun c_16 => ?_) (fun c_16 => ?_)
        · have h := h.2 c_16
          refine j_iconst C dX5_canWith_166 ?_
          refine j_istore_n (lv' := [(2, .int (J 0)), (0, .ref (a 0)), (3, .int (J x3))]) C dX5_canWith_167 hl (by decide) rfl (fun ls hl => ?_)
          refine j_iinc (k := 2) (v := x3 + 1) (lv' := [(3, .int (J (x3 + 1))), (2, .int (J 0)), (0, .ref (a 0))]) C dX5_canWith_168 hl rfl rfl (by decide) rfl (fun ls hl => ?_)
          refine j_goto C 141 dX5_canWith_171 (by decide) ?_
          exact hK141 0 (x3 + 1) h _ _ _ hH (lv_sub hl [2, 1, 0] rfl)
        · have h := h.1 c_16
          refine j_iconst C dX5_canWith_162 ?_
          refine j_goto C 167 dX5_canWith_163 (by decide) ?_
          refine j_istore_n (lv' := [(2, .int (J 1)), (0, .ref (a 0)), (3, .int (J x3))]) C dX5_canWith_167 hl (by decide) rfl (fun ls hl => ?_)
          refine j_iinc (k := 2) (v := x3 + 1) (lv' := [(3, .int (J (x3 + 1))), (2, .int (J 1)), (0, .ref (a 0))]) C dX5_canWith_168 hl rfl rfl (by decide) rfl (fun ls hl => ?_)
          refine j_goto C 141 dX5_canWith_171 (by decide) ?_
          exact hK141 1 (x3 + 1) h _ _ _ hH (lv_sub hl [2, 1, 0] rfl)
set_option maxRecDepth 4000 in
theorem w_M_canWith_97 {p : Program} {l : Launch} {e : Env} {s : State} {m : MethodId} {args : Array Value} {below : List Frame} {meth : Method} {c : Code} {D : va_G} {cA : ClassId} {A : Nat → Prop} {a : Nat → Nat} {mPosts mThirds mStraight mLeast mIsLaid mIsGiven mActs mDone mQueued : Int} {mCorner mSum mBeyond mAct mMark mSpare mBefore mVia mQueue : Nat → Int} (C : XC p s m args meth c cX5_canWith 4 RX5 (some .boolean) D cA A) {K55 : Int → Int → (Nat → Int) → Prop} {Q : Int → Int → (Nat → Int) → (Nat → Int) → (Nat → Int) → (Nat → Int) → (Nat → Int) → (Nat → Int) → Prop} {x1 : Int}  (hK55 : ∀ (x2 : Int) (x3 : Int) (mLack : Nat → Int), K55 x2 x3 mLack → ∀ (H : Heap) (locs : List Loc) (ls : Array Slot), XH D A s (wM cA a mPosts mThirds mStraight mLeast mIsLaid mIsGiven mActs mDone mQueued mCorner mSum mBeyond mAct mMark mSpare mLack mBefore mVia mQueue) H locs → lv_has ls 4 [(0, .ref (a 0)), (1, .int (J x1)), (2, .int (J x2)), (3, .int (J x3))] → W p l e rm_M_canWith s m args below meth c H locs 0 0 (MQ below (va_Qi (po_M_canWith cA a mPosts mThirds mStraight mLeast mIsLaid mIsGiven mActs mDone mCorner mSum mAct mMark Q) (xB D cA A) A) args s 0 0 A) (F0 m 55 ls [])) : ∀ (x2 : Int) (x3 : Int) (t1 : Int) (t2 : Int) (mLack : Nat → Int), wp_M_canWith_97 K55 Q mPosts mThirds mCorner mSum x1 mQueued mBeyond mSpare mBefore mVia mQueue x2 x3 t1 t2 mLack → ∀ (H : Heap) (locs : List Loc) (ls : Array Slot), XH D A s (wM cA a mPosts mThirds mStraight mLeast mIsLaid mIsGiven mActs mDone mQueued mCorner mSum mBeyond mAct mMark mSpare mLack mBefore mVia mQueue) H locs → lv_has ls 4 [(0, .ref (a 0)), (1, .int (J x1)), (2, .int (J x2)), (3, .int (J x3))] → W p l e rm_M_canWith s m args below meth c H locs 0 0 (MQ below (va_Qi (po_M_canWith cA a mPosts mThirds mStraight mLeast mIsLaid mIsGiven mActs mDone mCorner mSum mAct mMark Q) (xB D cA A) A) args s 0 0 A) (F0 m 97 ls [.int (J t2), .int (J t1), .ref (a 7)]) := by
  intro x2 x3 t1 t2 mLack h H locs ls hH hl
  unfold wp_M_canWith_97 at h
  obtain ⟨b_17, h⟩ := h
  refine xs_mLack C hH b_17 dX5_canWith_97 (fun mLack_18 e_mLack_18 H locs hH => ?_)
  have h := h mLack_18 e_mLack_18
  refine j_iload_n C dX5_canWith_98 (lv_at hl 2 rfl) ?_
  obtain ⟨g_19, h⟩ := h
  refine j_if_eq C 115 g_19 dX5_canWith_99 (by decide) (fun c_20 => ?_) (fun c_20 => ?_)
  · have h := h.1 c_20
    refine j_iconst C dX5_canWith_115 ?_
    refine j_istore_n (lv' := [(2, .int (J 0)), (0, .ref (a 0)), (1, .int (J x1)), (3, .int (J x3))]) C dX5_canWith_116 hl (by decide) rfl (fun ls hl => ?_)
    refine j_iinc (k := 3) (v := x3 + 1) (lv' := [(3, .int (J (x3 + 1))), (2, .int (J 0)), (0, .ref (a 0)), (1, .int (J x1))]) C dX5_canWith_117 hl rfl rfl (by decide) rfl (fun ls hl => ?_)
    refine j_goto C 55 dX5_canWith_120 (by decide) ?_
    exact hK55 0 (x3 + 1) mLack_18 h _ _ _ hH (lv_sub hl [2, 3, 1, 0] rfl)
  · have h := h.2 c_20
    refine j_aload_n C dX5_canWith_102 (lv_at hl 0 rfl) ?_
    refine xg_X5_lack C hH dX5_canWith_103 ?_
    refine j_iload_n C dX5_canWith_106 (lv_at hl 3 rfl) ?_
    obtain ⟨b_21, h⟩ := h
    refine xa_mLack C hH b_21 dX5_canWith_107 ?_
    obtain ⟨g_22, h⟩ := h
    refine j_if_lt C 115 g_22 dX5_canWith_108 (by decide) (fun c_23 => ?_) (fun c_23 => ?_)
    · have h := h.1 c_23
      refine j_iconst C dX5_canWith_115 ?_
      refine j_istore_n (lv' := [(2, .int (J 0)), (0, .ref (a 0)), (1, .int (J x1)), (3, .int (J x3))]) C dX5_canWith_116 hl (by decide) rfl (fun ls hl => ?_)
      refine j_iinc (k := 3) (v := x3 + 1) (lv' := [(3, .int (J (x3 + 1))), (2, .int (J 0)), (0, .ref (a 0)), (1, .int (J x1))]) C dX5_canWith_117 hl rfl rfl (by decide) rfl (fun ls hl => ?_)
      refine j_goto C 55 dX5_canWith_120 (by decide) ?_
      exact hK55 0 (x3 + 1) mLack_18 h _ _ _ hH (lv_sub hl [2, 3, 1, 0] rfl)
    · have h := h.2 c_23
      refine j_iconst C dX5_canWith_111 ?_
      refine j_goto C 116 dX5_canWith_112 (by decide) ?_
      refine j_istore_n (lv' := [(2, .int (J 1)), (0, .ref (a 0)), (1, .int (J x1)), (3, .int (J x3))]) C dX5_canWith_116 hl (by decide) rfl (fun ls hl => ?_)
      refine j_iinc (k := 3) (v := x3 + 1) (lv' := [(3, .int (J (x3 + 1))), (2, .int (J 1)), (0, .ref (a 0)), (1, .int (J x1))]) C dX5_canWith_117 hl rfl rfl (by decide) rfl (fun ls hl => ?_)
      refine j_goto C 55 dX5_canWith_120 (by decide) ?_
      exact hK55 1 (x3 + 1) mLack_18 h _ _ _ hH (lv_sub hl [2, 3, 1, 0] rfl)
set_option maxRecDepth 4000 in
theorem w_M_canWith_55 {p : Program} {l : Launch} {e : Env} {s : State} {m : MethodId} {args : Array Value} {below : List Frame} {meth : Method} {c : Code} {D : va_G} {cA : ClassId} {A : Nat → Prop} {a : Nat → Nat} {mPosts mThirds mStraight mLeast mIsLaid mIsGiven mActs mDone mQueued : Int} {mCorner mSum mBeyond mAct mMark mSpare mBefore mVia mQueue : Nat → Int} (C : XC p s m args meth c cX5_canWith 4 RX5 (some .boolean) D cA A) {Q : Int → Int → (Nat → Int) → (Nat → Int) → (Nat → Int) → (Nat → Int) → (Nat → Int) → (Nat → Int) → Prop} {x1 : Int}  : ∀ (n : Nat) (x2 : Int) (x3 : Int) (mLack : Nat → Int), wp_M_canWith_55 Q mPosts mThirds mCorner mSum x1 mQueued mBeyond mSpare mBefore mVia mQueue n x2 x3 mLack → ∀ (H : Heap) (locs : List Loc) (ls : Array Slot), XH D A s (wM cA a mPosts mThirds mStraight mLeast mIsLaid mIsGiven mActs mDone mQueued mCorner mSum mBeyond mAct mMark mSpare mLack mBefore mVia mQueue) H locs → lv_has ls 4 [(0, .ref (a 0)), (1, .int (J x1)), (2, .int (J x2)), (3, .int (J x3))] → W p l e rm_M_canWith s m args below meth c H locs 0 0 (MQ below (va_Qi (po_M_canWith cA a mPosts mThirds mStraight mLeast mIsLaid mIsGiven mActs mDone mCorner mSum mAct mMark Q) (xB D cA A) A) args s 0 0 A) (F0 m 55 ls []) := by
  intro n
  induction n with
  | zero => intro x2 x3 mLack h; exact (show False from h).elim
  | succ n hK55 =>
    intro x2 x3 mLack h H locs ls hH hl
    have h : wp_M_canWith_55_b  (wp_M_canWith_55 Q mPosts mThirds mCorner mSum x1 mQueued mBeyond mSpare mBefore mVia mQueue n) Q mPosts mThirds mCorner mSum x1 mQueued mBeyond mSpare mBefore mVia mQueue x2 x3 mLack := h
    unfold wp_M_canWith_55_b at h
    refine j_iload_n C dX5_canWith_55 (lv_at hl 3 rfl) ?_
    refine j_aload_n C dX5_canWith_56 (lv_at hl 0 rfl) ?_
    refine xg_X5_posts C hH dX5_canWith_57 ?_
    obtain ⟨g_24, h⟩ := h
    obtain ⟨g_25, h⟩ := h
    refine j_icmp_ge C 123 g_24 g_25 dX5_canWith_60 (by decide) (fun c_26 => ?_) (fun c_26 => ?_)
    · have h := h.1 c_26
      refine j_iload_n C dX5_canWith_123 (lv_at hl 2 rfl) ?_
      obtain ⟨g_27, h⟩ := h
      refine j_if_ne C 129 g_27 dX5_canWith_124 (by decide) (fun c_28 => ?_) (fun c_28 => ?_)
      · have h := h.2 c_28
        refine j_aload_n C dX5_canWith_129 (lv_at hl 0 rfl) ?_
        refine j_iconst C dX5_canWith_130 ?_
        refine xcallV_v (As := [.int (J 1)]) (rest := []) (q0 := 0) C hH (fun sz => c_M_fill h) xl_X5_152 rfl rfl ⟨rfl, rfl⟩ ⟨Nat.le_of_ble_eq_true rfl, Nat.le_of_ble_eq_true rfl⟩ hl.1 rfl rfl (Nat.le_of_ble_eq_true rfl) dX5_canWith_131 (fun w_ H locs hw hH => ?_)
        obtain ⟨mQueued_29, mBeyond_30, mSpare_31, mLack_32, mBefore_33, mVia_34, mQueue_35, rfl, h⟩ := hw
        refine j_aload_n C dX5_canWith_134 (lv_at hl 0 rfl) ?_
        refine j_iconst C dX5_canWith_135 ?_
        refine xcallV_v (As := [.int (J 0)]) (rest := []) (q0 := 0) C hH (fun sz => c_M_fill h) xl_X5_152 rfl rfl ⟨rfl, rfl⟩ ⟨Nat.le_of_ble_eq_true rfl, Nat.le_of_ble_eq_true rfl⟩ hl.1 rfl rfl (Nat.le_of_ble_eq_true rfl) dX5_canWith_136 (fun w_ H locs hw hH => ?_)
        obtain ⟨mQueued_36, mBeyond_37, mSpare_38, mLack_39, mBefore_40, mVia_41, mQueue_42, rfl, h⟩ := hw
        refine j_iconst C dX5_canWith_139 ?_
        refine j_istore_n (lv' := [(3, .int (J 0)), (0, .ref (a 0)), (1, .int (J x1)), (2, .int (J x2))]) C dX5_canWith_140 hl (by decide) rfl (fun ls hl => ?_)
        obtain ⟨n_, h⟩ := h
        exact w_M_canWith_141 C  n_ x2 0 h _ _ _ hH (lv_sub hl [1, 3, 0] rfl)
      · have h := h.1 c_28
        refine j_iconst C dX5_canWith_127 ?_
        exact j_zret C hH (Or.inl rfl) ⟨_, _, _, _, _, _, _, _, rfl, rfl, h⟩ dX5_canWith_128
    · have h := h.2 c_26
      refine j_aload_n C dX5_canWith_63 (lv_at hl 0 rfl) ?_
      refine xg_X5_lack C hH dX5_canWith_64 ?_
      refine j_iload_n C dX5_canWith_67 (lv_at hl 3 rfl) ?_
      refine j_aload_n C dX5_canWith_68 (lv_at hl 0 rfl) ?_
      refine xg_X5_sum C hH dX5_canWith_69 ?_
      refine j_iload_n C dX5_canWith_72 (lv_at hl 3 rfl) ?_
      obtain ⟨b_43, h⟩ := h
      refine xa_mSum C hH b_43 dX5_canWith_73 ?_
      refine j_bipush C (by decide +kernel) dX5_canWith_74 ?_
      obtain ⟨g_44, h⟩ := h
      refine j_icmp_ne C 83 g_44 (by unfold jR; decide) dX5_canWith_76 (by decide) (fun c_45 => ?_) (fun c_45 => ?_)
      · have h := h.2 c_45
        refine j_aload_n C dX5_canWith_83 (lv_at hl 0 rfl) ?_
        refine xg_X5_sum C hH dX5_canWith_84 ?_
        refine j_iload_n C dX5_canWith_87 (lv_at hl 3 rfl) ?_
        refine xa_mSum C hH b_43 dX5_canWith_88 ?_
        refine j_iload_n C dX5_canWith_89 (lv_at hl 1 rfl) ?_
        refine j_aload_n C dX5_canWith_90 (lv_at hl 0 rfl) ?_
        refine j_iload_n C dX5_canWith_91 (lv_at hl 3 rfl) ?_
        refine xcallV_i (As := [.int (J x3)]) (rest := [.int (J x1), .int (J (mSum x3.toNat)), .int (J x3), .ref (a 7)]) (q0 := 0) C hH (fun sz => c_M_cornersAt h) xl_X5_113 rfl rfl ⟨rfl, rfl⟩ ⟨Nat.le_of_ble_eq_true rfl, Nat.le_of_ble_eq_true rfl⟩ hl.1 rfl rfl (Nat.le_of_ble_eq_true rfl) dX5_canWith_92 (fun r_ w_ H locs hw hH => ?_)
        obtain ⟨z_46, rfl, rfl, h⟩ := hw
        refine j_imul C dX5_canWith_95 ?_
        refine j_isub C dX5_canWith_96 ?_
        exact w_M_canWith_97 C hK55 x2 x3 x3 ((mSum x3.toNat) - (x1 * z_46)) mLack h _ _ _ hH (lv_sub hl [0, 1, 2, 3] rfl)
      · have h := h.1 c_45
        refine j_iconst C dX5_canWith_79 ?_
        refine j_goto C 97 dX5_canWith_80 (by decide) ?_
        exact w_M_canWith_97 C hK55 x2 x3 x3 0 mLack h _ _ _ hH (lv_sub hl [0, 1, 2, 3] rfl)
set_option maxRecDepth 4000 in
theorem w_M_canWith_25 {p : Program} {l : Launch} {e : Env} {s : State} {m : MethodId} {args : Array Value} {below : List Frame} {meth : Method} {c : Code} {D : va_G} {cA : ClassId} {A : Nat → Prop} {a : Nat → Nat} {mPosts mThirds mStraight mLeast mIsLaid mIsGiven mActs mDone mQueued : Int} {mCorner mSum mBeyond mAct mMark mLack mBefore mVia mQueue : Nat → Int} (C : XC p s m args meth c cX5_canWith 4 RX5 (some .boolean) D cA A) {Q : Int → Int → (Nat → Int) → (Nat → Int) → (Nat → Int) → (Nat → Int) → (Nat → Int) → (Nat → Int) → Prop} {x1 : Int} {x2 : Int}  : ∀ (n : Nat) (x3 : Int) (mSpare : Nat → Int), wp_M_canWith_25 Q mPosts mThirds mStraight mCorner mSum x1 x2 mQueued mBeyond mLack mBefore mVia mQueue n x3 mSpare → ∀ (H : Heap) (locs : List Loc) (ls : Array Slot), XH D A s (wM cA a mPosts mThirds mStraight mLeast mIsLaid mIsGiven mActs mDone mQueued mCorner mSum mBeyond mAct mMark mSpare mLack mBefore mVia mQueue) H locs → lv_has ls 4 [(0, .ref (a 0)), (1, .int (J x1)), (2, .int (J x2)), (3, .int (J x3))] → W p l e rm_M_canWith s m args below meth c H locs 0 0 (MQ below (va_Qi (po_M_canWith cA a mPosts mThirds mStraight mLeast mIsLaid mIsGiven mActs mDone mCorner mSum mAct mMark Q) (xB D cA A) A) args s 0 0 A) (F0 m 25 ls []) := by
  intro n
  induction n with
  | zero => intro x3 mSpare h; exact (show False from h).elim
  | succ n hK25 =>
    intro x3 mSpare h H locs ls hH hl
    have h : wp_M_canWith_25_b  (wp_M_canWith_25 Q mPosts mThirds mStraight mCorner mSum x1 x2 mQueued mBeyond mLack mBefore mVia mQueue n) Q mPosts mThirds mStraight mCorner mSum x1 x2 mQueued mBeyond mLack mBefore mVia mQueue x3 mSpare := h
    unfold wp_M_canWith_25_b at h
    refine j_iload_n C dX5_canWith_25 (lv_at hl 3 rfl) ?_
    refine j_aload_n C dX5_canWith_26 (lv_at hl 0 rfl) ?_
    refine xg_X5_thirds C hH dX5_canWith_27 ?_
    obtain ⟨g_47, h⟩ := h
    obtain ⟨g_48, h⟩ := h
    refine j_icmp_ge C 53 g_47 g_48 dX5_canWith_30 (by decide) (fun c_49 => ?_) (fun c_49 => ?_)
    · have h := h.1 c_49
      refine j_iconst C dX5_canWith_53 ?_
      refine j_istore_n (lv' := [(3, .int (J 0)), (0, .ref (a 0)), (1, .int (J x1)), (2, .int (J x2))]) C dX5_canWith_54 hl (by decide) rfl (fun ls hl => ?_)
      obtain ⟨n_, h⟩ := h
      exact w_M_canWith_55 C  n_ x2 0 mLack h _ _ _ hH (lv_sub hl [1, 2, 3, 0] rfl)
    · have h := h.2 c_49
      refine j_aload_n C dX5_canWith_33 (lv_at hl 0 rfl) ?_
      refine xg_X5_spare C hH dX5_canWith_34 ?_
      refine j_iload_n C dX5_canWith_37 (lv_at hl 3 rfl) ?_
      refine j_aload_n C dX5_canWith_38 (lv_at hl 0 rfl) ?_
      refine xg_X5_straight C hH dX5_canWith_39 ?_
      refine j_iconst C dX5_canWith_42 ?_
      refine j_iload_n C dX5_canWith_43 (lv_at hl 1 rfl) ?_
      refine j_imul C dX5_canWith_44 ?_
      refine j_isub C dX5_canWith_45 ?_
      obtain ⟨b_50, h⟩ := h
      refine xs_mSpare C hH b_50 dX5_canWith_46 (fun mSpare_51 e_mSpare_51 H locs hH => ?_)
      have h := h mSpare_51 e_mSpare_51
      refine j_iinc (k := 3) (v := x3 + 1) (lv' := [(3, .int (J (x3 + 1))), (0, .ref (a 0)), (1, .int (J x1)), (2, .int (J x2))]) C dX5_canWith_47 hl rfl rfl (by decide) rfl (fun ls hl => ?_)
      refine j_goto C 25 dX5_canWith_50 (by decide) ?_
      exact hK25 (x3 + 1) mSpare_51 h _ _ _ hH (lv_sub hl [1, 2, 3, 0] rfl)
set_option maxRecDepth 4000 in
theorem w_M_canWith_4 {p : Program} {l : Launch} {e : Env} {s : State} {m : MethodId} {args : Array Value} {below : List Frame} {meth : Method} {c : Code} {D : va_G} {cA : ClassId} {A : Nat → Prop} {a : Nat → Nat} {mPosts mThirds mStraight mLeast mIsLaid mIsGiven mActs mDone mQueued : Int} {mCorner mSum mAct mMark mSpare mLack mBefore mVia mQueue : Nat → Int} (C : XC p s m args meth c cX5_canWith 4 RX5 (some .boolean) D cA A) {Q : Int → Int → (Nat → Int) → (Nat → Int) → (Nat → Int) → (Nat → Int) → (Nat → Int) → (Nat → Int) → Prop} {x1 : Int} {x2 : Int}  : ∀ (n : Nat) (x3 : Int) (mBeyond : Nat → Int), wp_M_canWith_4 Q mPosts mThirds mStraight mCorner mSum x1 x2 mQueued mSpare mLack mBefore mVia mQueue n x3 mBeyond → ∀ (H : Heap) (locs : List Loc) (ls : Array Slot), XH D A s (wM cA a mPosts mThirds mStraight mLeast mIsLaid mIsGiven mActs mDone mQueued mCorner mSum mBeyond mAct mMark mSpare mLack mBefore mVia mQueue) H locs → lv_has ls 4 [(0, .ref (a 0)), (1, .int (J x1)), (2, .int (J x2)), (3, .int (J x3))] → W p l e rm_M_canWith s m args below meth c H locs 0 0 (MQ below (va_Qi (po_M_canWith cA a mPosts mThirds mStraight mLeast mIsLaid mIsGiven mActs mDone mCorner mSum mAct mMark Q) (xB D cA A) A) args s 0 0 A) (F0 m 4 ls []) := by
  intro n
  induction n with
  | zero => intro x3 mBeyond h; exact (show False from h).elim
  | succ n hK4 =>
    intro x3 mBeyond h H locs ls hH hl
    have h : wp_M_canWith_4_b  (wp_M_canWith_4 Q mPosts mThirds mStraight mCorner mSum x1 x2 mQueued mSpare mLack mBefore mVia mQueue n) Q mPosts mThirds mStraight mCorner mSum x1 x2 mQueued mSpare mLack mBefore mVia mQueue x3 mBeyond := h
    unfold wp_M_canWith_4_b at h
    refine j_iload_n C dX5_canWith_4 (lv_at hl 3 rfl) ?_
    refine j_bipush C (by decide +kernel) dX5_canWith_5 ?_
    obtain ⟨g_52, h⟩ := h
    refine j_icmp_ge C 23 g_52 (by unfold jR; decide) dX5_canWith_7 (by decide) (fun c_53 => ?_) (fun c_53 => ?_)
    · have h := h.1 c_53
      refine j_iconst C dX5_canWith_23 ?_
      refine j_istore_n (lv' := [(3, .int (J 0)), (0, .ref (a 0)), (1, .int (J x1)), (2, .int (J x2))]) C dX5_canWith_24 hl (by decide) rfl (fun ls hl => ?_)
      obtain ⟨n_, h⟩ := h
      exact w_M_canWith_25 C  n_ 0 mSpare h _ _ _ hH (lv_sub hl [1, 2, 3, 0] rfl)
    · have h := h.2 c_53
      refine j_aload_n C dX5_canWith_10 (lv_at hl 0 rfl) ?_
      refine xg_X5_beyond C hH dX5_canWith_11 ?_
      refine j_iload_n C dX5_canWith_14 (lv_at hl 3 rfl) ?_
      refine j_iconst C dX5_canWith_15 ?_
      obtain ⟨b_54, h⟩ := h
      refine xs_mBeyond C hH b_54 dX5_canWith_16 (fun mBeyond_55 e_mBeyond_55 H locs hH => ?_)
      have h := h mBeyond_55 e_mBeyond_55
      refine j_iinc (k := 3) (v := x3 + 1) (lv' := [(3, .int (J (x3 + 1))), (0, .ref (a 0)), (1, .int (J x1)), (2, .int (J x2))]) C dX5_canWith_17 hl rfl rfl (by decide) rfl (fun ls hl => ?_)
      refine j_goto C 4 dX5_canWith_20 (by decide) ?_
      exact hK4 (x3 + 1) mBeyond_55 h _ _ _ hH (lv_sub hl [1, 2, 3, 0] rfl)
set_option maxRecDepth 4000 in
theorem c_M_canWith {l : Launch} {D : va_G} {cA : ClassId} {a : Nat → Nat} {sz : Nat} {mPosts mThirds mStraight mLeast mIsLaid mIsGiven mActs mDone mQueued : Int} {mCorner mSum mBeyond mAct mMark mSpare mLack mBefore mVia mQueue : Nat → Int} {x1 : Int} {Q : Int → Int → (Nat → Int) → (Nat → Int) → (Nat → Int) → (Nat → Int) → (Nat → Int) → (Nat → Int) → Prop} (h : wp_M_canWith x1 mPosts mThirds mStraight mQueued mCorner mSum mBeyond mSpare mLack mBefore mVia mQueue Q) : Met l yX5_canWith (.code yX5_canWith cX5_canWith 4 (some .boolean) :: lw_ok) rm_M_canWith (xPre D cA sz [.ref (a 0), .int (J x1)] (wM cA a mPosts mThirds mStraight mLeast mIsLaid mIsGiven mActs mDone mQueued mCorner mSum mBeyond mAct mMark mSpare mLack mBefore mVia mQueue)) (va_Qi (po_M_canWith cA a mPosts mThirds mStraight mLeast mIsLaid mIsGiven mActs mDone mCorner mSum mAct mMark Q) (xB D cA (va_A (wM cA a mPosts mThirds mStraight mLeast mIsLaid mIsGiven mActs mDone mQueued mCorner mSum mBeyond mAct mMark mSpare mLack mBefore mVia mQueue) sz)) (va_A (wM cA a mPosts mThirds mStraight mLeast mIsLaid mIsGiven mActs mDone mQueued mCorner mSum mBeyond mAct mMark mSpare mLack mBefore mVia mQueue) sz)) 0 0 (va_A (wM cA a mPosts mThirds mStraight mLeast mIsLaid mIsGiven mActs mDone mQueued mCorner mSum mBeyond mAct mMark mSpare mLack mBefore mVia mQueue) sz) := by
  refine xmet_i (by decide) (Nat.le_of_ble_eq_true rfl) ?_
  intro p e s m args below meth c A ls C hH hl
  have C : XC p s m args meth c cX5_canWith 4 RX5 (some .boolean) D cA A := C
  have hl : lv_has ls 4 [(0, .ref (a 0)), (1, .int (J x1))] := hl
  unfold wp_M_canWith at h
  refine j_iconst C dX5_canWith_0 ?_
  refine j_istore_n (lv' := [(2, .int (J 1)), (0, .ref (a 0)), (1, .int (J x1))]) C dX5_canWith_1 hl (by decide) rfl (fun ls hl => ?_)
  refine j_iconst C dX5_canWith_2 ?_
  refine j_istore_n (lv' := [(3, .int (J 0)), (2, .int (J 1)), (0, .ref (a 0)), (1, .int (J x1))]) C dX5_canWith_3 hl (by decide) rfl (fun ls hl => ?_)
  obtain ⟨n_, h⟩ := h
  exact w_M_canWith_4 C  n_ 0 mBeyond h _ _ _ hH (lv_sub hl [2, 3, 1, 0] rfl)
abbrev po_M_lower (cA : ClassId) (a : Nat → Nat) (mPosts mThirds mStraight mLeast mIsLaid mIsGiven mActs mDone : Int) (mCorner mSum mAct mMark mSpare mLack : Nat → Int) (Q : Int → (Nat → Int) → (Nat → Int) → (Nat → Int) → (Nat → Int) → Prop) : va_W → Prop := fun w => ∃ mQueued' mBeyond' mBefore' mVia' mQueue', w = wM cA a mPosts mThirds mStraight mLeast mIsLaid mIsGiven mActs mDone mQueued' mCorner mSum mBeyond' mAct mMark mSpare mLack mBefore' mVia' mQueue' ∧ Q mQueued' mBeyond' mBefore' mVia' mQueue'
set_option maxRecDepth 4000 in
theorem w_M_lower_66 {p : Program} {l : Launch} {e : Env} {s : State} {m : MethodId} {args : Array Value} {below : List Frame} {meth : Method} {c : Code} {D : va_G} {cA : ClassId} {A : Nat → Prop} {a : Nat → Nat} {mPosts mThirds mStraight mLeast mIsLaid mIsGiven mActs mDone : Int} {mCorner mSum mAct mMark mSpare mLack : Nat → Int} (C : XC p s m args meth c cX5_lower 6 RX5 none D cA A) {K15 : Int → Int → (Nat → Int) → (Nat → Int) → (Nat → Int) → (Nat → Int) → Prop} {Q : Int → (Nat → Int) → (Nat → Int) → (Nat → Int) → (Nat → Int) → Prop} {x1 : Int}  (hK15 : ∀ (x2 : Int) (mQueued : Int) (mBeyond : Nat → Int) (mBefore : Nat → Int) (mVia : Nat → Int) (mQueue : Nat → Int), K15 x2 mQueued mBeyond mBefore mVia mQueue → ∀ (H : Heap) (locs : List Loc) (ls : Array Slot), XH D A s (wM cA a mPosts mThirds mStraight mLeast mIsLaid mIsGiven mActs mDone mQueued mCorner mSum mBeyond mAct mMark mSpare mLack mBefore mVia mQueue) H locs → lv_has ls 6 [(0, .ref (a 0)), (1, .int (J x1)), (2, .int (J x2))] → W p l e rm_M_lower s m args below meth c H locs 0 0 (MQ below (va_Qv (po_M_lower cA a mPosts mThirds mStraight mLeast mIsLaid mIsGiven mActs mDone mCorner mSum mAct mMark mSpare mLack Q) (xB D cA A) A) args s 0 0 A) (F0 m 15 ls [])) : ∀ (x3 : Int) (t0 : Int) (mQueued : Int) (mBeyond : Nat → Int) (mBefore : Nat → Int) (mVia : Nat → Int) (mQueue : Nat → Int), wp_M_lower_66 K15 Q mPosts mThirds mCorner mSum mSpare x1 x3 t0 mQueued mBeyond mBefore mVia mQueue → ∀ (H : Heap) (locs : List Loc) (ls : Array Slot), XH D A s (wM cA a mPosts mThirds mStraight mLeast mIsLaid mIsGiven mActs mDone mQueued mCorner mSum mBeyond mAct mMark mSpare mLack mBefore mVia mQueue) H locs → lv_has ls 6 [(0, .ref (a 0)), (1, .int (J x1)), (3, .int (J x3))] → W p l e rm_M_lower s m args below meth c H locs 0 0 (MQ below (va_Qv (po_M_lower cA a mPosts mThirds mStraight mLeast mIsLaid mIsGiven mActs mDone mCorner mSum mAct mMark mSpare mLack Q) (xB D cA A) A) args s 0 0 A) (F0 m 66 ls [.int (J t0)]) := by
  intro x3 t0 mQueued mBeyond mBefore mVia mQueue h H locs ls hH hl
  unfold wp_M_lower_66 at h
  refine j_istore_n (lv' := [(2, .int (J t0)), (0, .ref (a 0)), (1, .int (J x1)), (3, .int (J x3))]) C dX5_lower_66 hl (by decide) rfl (fun ls hl => ?_)
  refine j_iload_n C dX5_lower_67 (lv_at hl 0 rfl) ?_
  obtain ⟨g_1, h⟩ := h
  refine j_if_eq C 124 g_1 dX5_lower_68 (by decide) (fun c_2 => ?_) (fun c_2 => ?_)
  · have h := h.1 c_2
    refine j_goto C 15 dX5_lower_124 (by decide) ?_
    exact hK15 t0 mQueued mBeyond mBefore mVia mQueue h _ _ _ hH (lv_sub hl [1, 2, 0] rfl)
  · have h := h.2 c_2
    refine j_aload_n C dX5_lower_71 (lv_at hl 1 rfl) ?_
    refine j_iload_n C dX5_lower_72 (lv_at hl 3 rfl) ?_
    refine j_aload_n C dX5_lower_73 (lv_at hl 1 rfl) ?_
    refine xg_X5_beyond C hH dX5_lower_74 ?_
    refine j_iload_n C dX5_lower_77 (lv_at hl 2 rfl) ?_
    obtain ⟨b_3, h⟩ := h
    refine xa_mBeyond C hH b_3 dX5_lower_78 ?_
    refine xcallV_i (As := [.int (J x3), .int (J (mBeyond x1.toNat))]) (rest := []) (q0 := 0) C hH (fun sz => c_M_wayRoom h) xl_X5_146 rfl rfl ⟨rfl, rfl⟩ ⟨Nat.le_of_ble_eq_true rfl, Nat.le_of_ble_eq_true rfl⟩ hl.1 rfl rfl (Nat.le_of_ble_eq_true rfl) dX5_lower_79 (fun r_ w_ H locs hw hH => ?_)
    obtain ⟨z_4, rfl, rfl, h⟩ := hw
    refine j_istore (lv' := [(4, .int (J z_4)), (2, .int (J t0)), (0, .ref (a 0)), (1, .int (J x1)), (3, .int (J x3))]) C dX5_lower_82 hl (by decide) rfl (fun ls hl => ?_)
    refine j_aload_n C dX5_lower_84 (lv_at hl 2 rfl) ?_
    refine j_iload_n C dX5_lower_85 (lv_at hl 4 rfl) ?_
    refine j_iload C dX5_lower_86 (lv_at hl 0 rfl) ?_
    refine xcallV_i (As := [.int (J x3), .int (J z_4)]) (rest := []) (q0 := 0) C hH (fun sz => c_M_goWay h) xl_X5_149 rfl rfl ⟨rfl, rfl⟩ ⟨Nat.le_of_ble_eq_true rfl, Nat.le_of_ble_eq_true rfl⟩ hl.1 rfl rfl (Nat.le_of_ble_eq_true rfl) dX5_lower_88 (fun r_ w_ H locs hw hH => ?_)
    obtain ⟨z_5, mBeyond_6, rfl, rfl, h⟩ := hw
    refine j_istore (lv' := [(5, .int (J z_5)), (4, .int (J z_4)), (2, .int (J t0)), (0, .ref (a 0)), (1, .int (J x1)), (3, .int (J x3))]) C dX5_lower_91 hl (by decide) rfl (fun ls hl => ?_)
    refine j_aload_n C dX5_lower_93 (lv_at hl 3 rfl) ?_
    refine xg_X5_beyond C hH dX5_lower_94 ?_
    refine j_iload_n C dX5_lower_97 (lv_at hl 4 rfl) ?_
    refine j_dup2 C rfl rfl dX5_lower_98 ?_
    refine xa_mBeyond C hH b_3 dX5_lower_99 ?_
    refine j_iload C dX5_lower_100 (lv_at hl 1 rfl) ?_
    refine j_isub C dX5_lower_102 ?_
    refine xs_mBeyond C hH b_3 dX5_lower_103 (fun mBeyond_7 e_mBeyond_7 H locs hH => ?_)
    have h := h mBeyond_7 e_mBeyond_7
    refine j_aload_n C dX5_lower_104 (lv_at hl 3 rfl) ?_
    refine xg_X5_beyond C hH dX5_lower_105 ?_
    refine j_iload_n C dX5_lower_108 (lv_at hl 4 rfl) ?_
    refine xa_mBeyond C hH b_3 dX5_lower_109 ?_
    obtain ⟨g_8, h⟩ := h
    refine j_if_le C 122 g_8 dX5_lower_110 (by decide) (fun c_9 => ?_) (fun c_9 => ?_)
    · have h := h.1 c_9
      refine j_iconst C dX5_lower_122 ?_
      refine j_istore_n (lv' := [(2, .int (J 0)), (5, .int (J z_5)), (4, .int (J z_4)), (0, .ref (a 0)), (1, .int (J x1)), (3, .int (J x3))]) C dX5_lower_123 hl (by decide) rfl (fun ls hl => ?_)
      refine j_goto C 15 dX5_lower_124 (by decide) ?_
      exact hK15 0 mQueued mBeyond_7 mBefore mVia mQueue h _ _ _ hH (lv_sub hl [3, 4, 0] rfl)
    · have h := h.2 c_9
      refine j_iload C dX5_lower_113 (lv_at hl 0 rfl) ?_
      obtain ⟨g_10, h⟩ := h
      refine j_if_lt C 122 g_10 dX5_lower_115 (by decide) (fun c_11 => ?_) (fun c_11 => ?_)
      · have h := h.1 c_11
        refine j_iconst C dX5_lower_122 ?_
        refine j_istore_n (lv' := [(2, .int (J 0)), (5, .int (J z_5)), (4, .int (J z_4)), (0, .ref (a 0)), (1, .int (J x1)), (3, .int (J x3))]) C dX5_lower_123 hl (by decide) rfl (fun ls hl => ?_)
        refine j_goto C 15 dX5_lower_124 (by decide) ?_
        exact hK15 0 mQueued mBeyond_7 mBefore mVia mQueue h _ _ _ hH (lv_sub hl [3, 4, 0] rfl)
      · have h := h.2 c_11
        refine j_iconst C dX5_lower_118 ?_
        refine j_goto C 123 dX5_lower_119 (by decide) ?_
        refine j_istore_n (lv' := [(2, .int (J 1)), (5, .int (J z_5)), (4, .int (J z_4)), (0, .ref (a 0)), (1, .int (J x1)), (3, .int (J x3))]) C dX5_lower_123 hl (by decide) rfl (fun ls hl => ?_)
        refine j_goto C 15 dX5_lower_124 (by decide) ?_
        exact hK15 1 mQueued mBeyond_7 mBefore mVia mQueue h _ _ _ hH (lv_sub hl [3, 4, 0] rfl)
set_option maxRecDepth 4000 in
theorem w_M_lower_15 {p : Program} {l : Launch} {e : Env} {s : State} {m : MethodId} {args : Array Value} {below : List Frame} {meth : Method} {c : Code} {D : va_G} {cA : ClassId} {A : Nat → Prop} {a : Nat → Nat} {mPosts mThirds mStraight mLeast mIsLaid mIsGiven mActs mDone : Int} {mCorner mSum mAct mMark mSpare mLack : Nat → Int} (C : XC p s m args meth c cX5_lower 6 RX5 none D cA A) {Q : Int → (Nat → Int) → (Nat → Int) → (Nat → Int) → (Nat → Int) → Prop} {x1 : Int}  : ∀ (n : Nat) (x2 : Int) (mQueued : Int) (mBeyond : Nat → Int) (mBefore : Nat → Int) (mVia : Nat → Int) (mQueue : Nat → Int), wp_M_lower_15 Q mPosts mThirds mCorner mSum mSpare x1 n x2 mQueued mBeyond mBefore mVia mQueue → ∀ (H : Heap) (locs : List Loc) (ls : Array Slot), XH D A s (wM cA a mPosts mThirds mStraight mLeast mIsLaid mIsGiven mActs mDone mQueued mCorner mSum mBeyond mAct mMark mSpare mLack mBefore mVia mQueue) H locs → lv_has ls 6 [(0, .ref (a 0)), (1, .int (J x1)), (2, .int (J x2))] → W p l e rm_M_lower s m args below meth c H locs 0 0 (MQ below (va_Qv (po_M_lower cA a mPosts mThirds mStraight mLeast mIsLaid mIsGiven mActs mDone mCorner mSum mAct mMark mSpare mLack Q) (xB D cA A) A) args s 0 0 A) (F0 m 15 ls []) := by
  intro n
  induction n with
  | zero => intro x2 mQueued mBeyond mBefore mVia mQueue h; exact (show False from h).elim
  | succ n hK15 =>
    intro x2 mQueued mBeyond mBefore mVia mQueue h H locs ls hH hl
    have h : wp_M_lower_15_b  (wp_M_lower_15 Q mPosts mThirds mCorner mSum mSpare x1 n) Q mPosts mThirds mCorner mSum mSpare x1 x2 mQueued mBeyond mBefore mVia mQueue := h
    unfold wp_M_lower_15_b at h
    refine j_iload_n C dX5_lower_15 (lv_at hl 2 rfl) ?_
    obtain ⟨g_12, h⟩ := h
    refine j_if_eq C 127 g_12 dX5_lower_16 (by decide) (fun c_13 => ?_) (fun c_13 => ?_)
    · have h := h.1 c_13
      exact j_vret C hH ⟨_, _, _, _, _, rfl, h⟩ dX5_lower_127
    · have h := h.2 c_13
      refine j_aload_n C dX5_lower_19 (lv_at hl 0 rfl) ?_
      refine xcallV_v (As := []) (rest := []) (q0 := 0) C hH (fun sz => c_M_clearWays h) xl_X5_135 rfl rfl ⟨rfl, rfl⟩ ⟨Nat.le_of_ble_eq_true rfl, Nat.le_of_ble_eq_true rfl⟩ hl.1 rfl rfl (Nat.le_of_ble_eq_true rfl) dX5_lower_20 (fun w_ H locs hw hH => ?_)
      obtain ⟨mQueued_14, mBefore_15, rfl, h⟩ := hw
      refine j_aload_n C dX5_lower_23 (lv_at hl 0 rfl) ?_
      refine j_iload_n C dX5_lower_24 (lv_at hl 1 rfl) ?_
      refine j_iconst C dX5_lower_25 ?_
      refine j_idiv C (by decide +kernel) dX5_lower_26 ?_
      refine j_iconst C dX5_lower_27 ?_
      refine j_iconst C dX5_lower_28 ?_
      refine xcallV_v (As := [.int (J (jdiv x1 3)), .int (J (-1)), .int (J (-1))]) (rest := []) (q0 := 0) C hH (fun sz => c_M_come h) xl_X5_132 rfl rfl ⟨rfl, rfl⟩ ⟨Nat.le_of_ble_eq_true rfl, Nat.le_of_ble_eq_true rfl⟩ hl.1 rfl rfl (Nat.le_of_ble_eq_true rfl) dX5_lower_29 (fun w_ H locs hw hH => ?_)
      obtain ⟨mQueued_16, mBefore_17, mVia_18, mQueue_19, rfl, h⟩ := hw
      refine j_aload_n C dX5_lower_32 (lv_at hl 0 rfl) ?_
      refine j_iload_n C dX5_lower_33 (lv_at hl 1 rfl) ?_
      refine j_iconst C dX5_lower_34 ?_
      refine j_iadd C dX5_lower_35 ?_
      refine j_iconst C dX5_lower_36 ?_
      refine xcallV_v (As := [.int (J (x1 + 1)), .int (J 1)]) (rest := []) (q0 := 0) C hH (fun sz => c_M_spread h) xl_X5_138 rfl rfl ⟨rfl, rfl⟩ ⟨Nat.le_of_ble_eq_true rfl, Nat.le_of_ble_eq_true rfl⟩ hl.1 rfl rfl (Nat.le_of_ble_eq_true rfl) dX5_lower_37 (fun w_ H locs hw hH => ?_)
      obtain ⟨mQueued_20, mBefore_21, mVia_22, mQueue_23, rfl, h⟩ := hw
      refine j_bipush C (by decide +kernel) dX5_lower_40 ?_
      refine j_aload_n C dX5_lower_42 (lv_at hl 0 rfl) ?_
      refine xg_X5_corner C hH dX5_lower_43 ?_
      refine j_iload_n C dX5_lower_46 (lv_at hl 1 rfl) ?_
      obtain ⟨b_24, h⟩ := h
      refine xa_mCorner C hH b_24 dX5_lower_47 ?_
      refine j_iadd C dX5_lower_48 ?_
      refine j_istore_n (lv' := [(3, .int (J (12 + (mCorner x1.toNat)))), (0, .ref (a 0)), (1, .int (J x1)), (2, .int (J x2))]) C dX5_lower_49 hl (by decide) rfl (fun ls hl => ?_)
      refine j_aload_n C dX5_lower_50 (lv_at hl 1 rfl) ?_
      refine xg_X5_before C hH dX5_lower_51 ?_
      refine j_iload_n C dX5_lower_54 (lv_at hl 0 rfl) ?_
      obtain ⟨b_25, h⟩ := h
      refine xa_mBefore C hH b_25 dX5_lower_55 ?_
      refine j_bipush C (by decide +kernel) dX5_lower_56 ?_
      obtain ⟨g_26, h⟩ := h
      refine j_icmp_eq C 65 g_26 (by unfold jR; decide) dX5_lower_58 (by decide) (fun c_27 => ?_) (fun c_27 => ?_)
      · have h := h.1 c_27
        refine j_iconst C dX5_lower_65 ?_
        exact w_M_lower_66 C hK15 (12 + (mCorner x1.toNat)) 0 mQueued_20 mBeyond mBefore_21 mVia_22 mQueue_23 h _ _ _ hH (lv_sub hl [1, 2, 0] rfl)
      · have h := h.2 c_27
        refine j_iconst C dX5_lower_61 ?_
        refine j_goto C 66 dX5_lower_62 (by decide) ?_
        exact w_M_lower_66 C hK15 (12 + (mCorner x1.toNat)) 1 mQueued_20 mBeyond mBefore_21 mVia_22 mQueue_23 h _ _ _ hH (lv_sub hl [1, 2, 0] rfl)
set_option maxRecDepth 4000 in
theorem c_M_lower {l : Launch} {D : va_G} {cA : ClassId} {a : Nat → Nat} {sz : Nat} {mPosts mThirds mStraight mLeast mIsLaid mIsGiven mActs mDone mQueued : Int} {mCorner mSum mBeyond mAct mMark mSpare mLack mBefore mVia mQueue : Nat → Int} {x1 : Int} {Q : Int → (Nat → Int) → (Nat → Int) → (Nat → Int) → (Nat → Int) → Prop} (h : wp_M_lower x1 mPosts mThirds mQueued mCorner mSum mBeyond mSpare mBefore mVia mQueue Q) : Met l yX5_lower (.code yX5_lower cX5_lower 6 none :: lw_ok) rm_M_lower (xPre D cA sz [.ref (a 0), .int (J x1)] (wM cA a mPosts mThirds mStraight mLeast mIsLaid mIsGiven mActs mDone mQueued mCorner mSum mBeyond mAct mMark mSpare mLack mBefore mVia mQueue)) (va_Qv (po_M_lower cA a mPosts mThirds mStraight mLeast mIsLaid mIsGiven mActs mDone mCorner mSum mAct mMark mSpare mLack Q) (xB D cA (va_A (wM cA a mPosts mThirds mStraight mLeast mIsLaid mIsGiven mActs mDone mQueued mCorner mSum mBeyond mAct mMark mSpare mLack mBefore mVia mQueue) sz)) (va_A (wM cA a mPosts mThirds mStraight mLeast mIsLaid mIsGiven mActs mDone mQueued mCorner mSum mBeyond mAct mMark mSpare mLack mBefore mVia mQueue) sz)) 0 0 (va_A (wM cA a mPosts mThirds mStraight mLeast mIsLaid mIsGiven mActs mDone mQueued mCorner mSum mBeyond mAct mMark mSpare mLack mBefore mVia mQueue) sz) := by
  refine xmet_v (by decide) (Nat.le_of_ble_eq_true rfl) ?_
  intro p e s m args below meth c A ls C hH hl
  have C : XC p s m args meth c cX5_lower 6 RX5 none D cA A := C
  have hl : lv_has ls 6 [(0, .ref (a 0)), (1, .int (J x1))] := hl
  unfold wp_M_lower at h
  refine j_aload_n C dX5_lower_0 (lv_at hl 0 rfl) ?_
  refine xg_X5_beyond C hH dX5_lower_1 ?_
  refine j_iload_n C dX5_lower_4 (lv_at hl 1 rfl) ?_
  obtain ⟨b_28, h⟩ := h
  refine xa_mBeyond C hH b_28 dX5_lower_5 ?_
  obtain ⟨g_29, h⟩ := h
  refine j_if_le C 13 g_29 dX5_lower_6 (by decide) (fun c_30 => ?_) (fun c_30 => ?_)
  · have h := h.1 c_30
    refine j_iconst C dX5_lower_13 ?_
    refine j_istore_n (lv' := [(2, .int (J 0)), (0, .ref (a 0)), (1, .int (J x1))]) C dX5_lower_14 hl (by decide) rfl (fun ls hl => ?_)
    obtain ⟨n_, h⟩ := h
    exact w_M_lower_15 C  n_ 0 mQueued mBeyond mBefore mVia mQueue h _ _ _ hH (lv_sub hl [1, 2, 0] rfl)
  · have h := h.2 c_30
    refine j_iconst C dX5_lower_9 ?_
    refine j_goto C 14 dX5_lower_10 (by decide) ?_
    refine j_istore_n (lv' := [(2, .int (J 1)), (0, .ref (a 0)), (1, .int (J x1))]) C dX5_lower_14 hl (by decide) rfl (fun ls hl => ?_)
    obtain ⟨n_, h⟩ := h
    exact w_M_lower_15 C  n_ 1 mQueued mBeyond mBefore mVia mQueue h _ _ _ hH (lv_sub hl [1, 2, 0] rfl)
abbrev po_M_hasRow (cA : ClassId) (a : Nat → Nat) (mPosts mThirds mStraight mLeast mActs mDone : Int) (mCorner mSum mAct mMark : Nat → Int) (Q : Int → Int → Int → Int → (Nat → Int) → (Nat → Int) → (Nat → Int) → (Nat → Int) → (Nat → Int) → (Nat → Int) → Prop) : Int32 → va_W → Prop := fun r w => ∃ z mIsLaid' mIsGiven' mQueued' mBeyond' mSpare' mLack' mBefore' mVia' mQueue', r = J z ∧ w = wM cA a mPosts mThirds mStraight mLeast mIsLaid' mIsGiven' mActs mDone mQueued' mCorner mSum mBeyond' mAct mMark mSpare' mLack' mBefore' mVia' mQueue' ∧ Q z mIsLaid' mIsGiven' mQueued' mBeyond' mSpare' mLack' mBefore' mVia' mQueue'
set_option maxRecDepth 4000 in
theorem w_M_hasRow_21 {p : Program} {l : Launch} {e : Env} {s : State} {m : MethodId} {args : Array Value} {below : List Frame} {meth : Method} {c : Code} {D : va_G} {cA : ClassId} {A : Nat → Prop} {a : Nat → Nat} {mPosts mThirds mStraight mLeast mIsLaid mIsGiven mActs mDone : Int} {mCorner mSum mAct mMark mSpare mLack : Nat → Int} (C : XC p s m args meth c cX5_hasRow 2 RX5 (some .boolean) D cA A) {Q : Int → Int → Int → Int → (Nat → Int) → (Nat → Int) → (Nat → Int) → (Nat → Int) → (Nat → Int) → (Nat → Int) → Prop}  : ∀ (n : Nat) (x1 : Int) (mQueued : Int) (mBeyond : Nat → Int) (mBefore : Nat → Int) (mVia : Nat → Int) (mQueue : Nat → Int), wp_M_hasRow_21 Q mPosts mThirds mCorner mSum mIsLaid mIsGiven mSpare mLack n x1 mQueued mBeyond mBefore mVia mQueue → ∀ (H : Heap) (locs : List Loc) (ls : Array Slot), XH D A s (wM cA a mPosts mThirds mStraight mLeast mIsLaid mIsGiven mActs mDone mQueued mCorner mSum mBeyond mAct mMark mSpare mLack mBefore mVia mQueue) H locs → lv_has ls 2 [(0, .ref (a 0)), (1, .int (J x1))] → W p l e rm_M_hasRow s m args below meth c H locs 0 0 (MQ below (va_Qi (po_M_hasRow cA a mPosts mThirds mStraight mLeast mActs mDone mCorner mSum mAct mMark Q) (xB D cA A) A) args s 0 0 A) (F0 m 21 ls []) := by
  intro n
  induction n with
  | zero => intro x1 mQueued mBeyond mBefore mVia mQueue h; exact (show False from h).elim
  | succ n hK21 =>
    intro x1 mQueued mBeyond mBefore mVia mQueue h H locs ls hH hl
    have h : wp_M_hasRow_21_b  (wp_M_hasRow_21 Q mPosts mThirds mCorner mSum mIsLaid mIsGiven mSpare mLack n) Q mPosts mThirds mCorner mSum mIsLaid mIsGiven mSpare mLack x1 mQueued mBeyond mBefore mVia mQueue := h
    unfold wp_M_hasRow_21_b at h
    refine j_iload_n C dX5_hasRow_21 (lv_at hl 1 rfl) ?_
    refine j_iconst C dX5_hasRow_22 ?_
    refine j_aload_n C dX5_hasRow_23 (lv_at hl 0 rfl) ?_
    refine xg_X5_thirds C hH dX5_hasRow_24 ?_
    refine j_imul C dX5_hasRow_27 ?_
    obtain ⟨g_1, h⟩ := h
    obtain ⟨g_2, h⟩ := h
    refine j_icmp_ge C 49 g_1 g_2 dX5_hasRow_28 (by decide) (fun c_3 => ?_) (fun c_3 => ?_)
    · have h := h.1 c_3
      refine j_aload_n C dX5_hasRow_49 (lv_at hl 0 rfl) ?_
      refine j_iconst C dX5_hasRow_50 ?_
      refine xp_X5_isLaid C hH (Or.inr rfl) dX5_hasRow_51 (fun H locs hH => ?_)
      refine j_aload_n C dX5_hasRow_54 (lv_at hl 0 rfl) ?_
      refine xg_X5_isGiven C hH dX5_hasRow_55 ?_
      obtain ⟨hz, h⟩ := h
      exact j_zret C hH hz ⟨_, _, _, _, _, _, _, _, _, _, rfl, rfl, h⟩ dX5_hasRow_58
    · have h := h.2 c_3
      refine j_aload_n C dX5_hasRow_31 (lv_at hl 0 rfl) ?_
      refine xg_X5_isGiven C hH dX5_hasRow_32 ?_
      obtain ⟨g_4, h⟩ := h
      refine j_if_eq C 49 g_4 dX5_hasRow_35 (by decide) (fun c_5 => ?_) (fun c_5 => ?_)
      · have h := h.1 c_5
        refine j_aload_n C dX5_hasRow_49 (lv_at hl 0 rfl) ?_
        refine j_iconst C dX5_hasRow_50 ?_
        refine xp_X5_isLaid C hH (Or.inr rfl) dX5_hasRow_51 (fun H locs hH => ?_)
        refine j_aload_n C dX5_hasRow_54 (lv_at hl 0 rfl) ?_
        refine xg_X5_isGiven C hH dX5_hasRow_55 ?_
        obtain ⟨hz, h⟩ := h
        exact j_zret C hH hz ⟨_, _, _, _, _, _, _, _, _, _, rfl, rfl, h⟩ dX5_hasRow_58
      · have h := h.2 c_5
        refine j_aload_n C dX5_hasRow_38 (lv_at hl 0 rfl) ?_
        refine j_iload_n C dX5_hasRow_39 (lv_at hl 1 rfl) ?_
        refine xcallV_v (As := [.int (J x1)]) (rest := []) (q0 := 0) C hH (fun sz => c_M_lower h) xl_X5_162 rfl rfl ⟨rfl, rfl⟩ ⟨Nat.le_of_ble_eq_true rfl, Nat.le_of_ble_eq_true rfl⟩ hl.1 rfl rfl (Nat.le_of_ble_eq_true rfl) dX5_hasRow_40 (fun w_ H locs hw hH => ?_)
        obtain ⟨mQueued_6, mBeyond_7, mBefore_8, mVia_9, mQueue_10, rfl, h⟩ := hw
        refine j_iinc (k := 1) (v := x1 + 1) (lv' := [(1, .int (J (x1 + 1))), (0, .ref (a 0))]) C dX5_hasRow_43 hl rfl rfl (by decide) rfl (fun ls hl => ?_)
        refine j_goto C 21 dX5_hasRow_46 (by decide) ?_
        exact hK21 (x1 + 1) mQueued_6 mBeyond_7 mBefore_8 mVia_9 mQueue_10 h _ _ _ hH (lv_sub hl [1, 0] rfl)
set_option maxRecDepth 4000 in
theorem c_M_hasRow {l : Launch} {D : va_G} {cA : ClassId} {a : Nat → Nat} {sz : Nat} {mPosts mThirds mStraight mLeast mIsLaid mIsGiven mActs mDone mQueued : Int} {mCorner mSum mBeyond mAct mMark mSpare mLack mBefore mVia mQueue : Nat → Int} {Q : Int → Int → Int → Int → (Nat → Int) → (Nat → Int) → (Nat → Int) → (Nat → Int) → (Nat → Int) → (Nat → Int) → Prop} (h : wp_M_hasRow  mPosts mThirds mStraight mLeast mIsLaid mIsGiven mQueued mCorner mSum mBeyond mSpare mLack mBefore mVia mQueue Q) : Met l yX5_hasRow (.code yX5_hasRow cX5_hasRow 2 (some .boolean) :: lw_ok) rm_M_hasRow (xPre D cA sz [.ref (a 0)] (wM cA a mPosts mThirds mStraight mLeast mIsLaid mIsGiven mActs mDone mQueued mCorner mSum mBeyond mAct mMark mSpare mLack mBefore mVia mQueue)) (va_Qi (po_M_hasRow cA a mPosts mThirds mStraight mLeast mActs mDone mCorner mSum mAct mMark Q) (xB D cA (va_A (wM cA a mPosts mThirds mStraight mLeast mIsLaid mIsGiven mActs mDone mQueued mCorner mSum mBeyond mAct mMark mSpare mLack mBefore mVia mQueue) sz)) (va_A (wM cA a mPosts mThirds mStraight mLeast mIsLaid mIsGiven mActs mDone mQueued mCorner mSum mBeyond mAct mMark mSpare mLack mBefore mVia mQueue) sz)) 0 0 (va_A (wM cA a mPosts mThirds mStraight mLeast mIsLaid mIsGiven mActs mDone mQueued mCorner mSum mBeyond mAct mMark mSpare mLack mBefore mVia mQueue) sz) := by
  refine xmet_i (by decide) (Nat.le_of_ble_eq_true rfl) ?_
  intro p e s m args below meth c A ls C hH hl
  have C : XC p s m args meth c cX5_hasRow 2 RX5 (some .boolean) D cA A := C
  have hl : lv_has ls 2 [(0, .ref (a 0))] := hl
  unfold wp_M_hasRow at h
  refine j_aload_n C dX5_hasRow_0 (lv_at hl 0 rfl) ?_
  refine xg_X5_isLaid C hH dX5_hasRow_1 ?_
  obtain ⟨g_11, h⟩ := h
  refine j_if_ne C 54 g_11 dX5_hasRow_4 (by decide) (fun c_12 => ?_) (fun c_12 => ?_)
  · have h := h.2 c_12
    refine j_aload_n C dX5_hasRow_54 (lv_at hl 0 rfl) ?_
    refine xg_X5_isGiven C hH dX5_hasRow_55 ?_
    obtain ⟨hz, h⟩ := h
    exact j_zret C hH hz ⟨_, _, _, _, _, _, _, _, _, _, rfl, rfl, h⟩ dX5_hasRow_58
  · have h := h.1 c_12
    refine j_aload_n C dX5_hasRow_7 (lv_at hl 0 rfl) ?_
    refine j_aload_n C dX5_hasRow_8 (lv_at hl 0 rfl) ?_
    refine j_aload_n C dX5_hasRow_9 (lv_at hl 0 rfl) ?_
    refine xg_X5_least C hH dX5_hasRow_10 ?_
    refine xcallV_i (As := [.int (J mLeast)]) (rest := [.ref (a 0)]) (q0 := 0) C hH (fun sz => c_M_canWith h) xl_X5_156 rfl rfl ⟨rfl, rfl⟩ ⟨Nat.le_of_ble_eq_true rfl, Nat.le_of_ble_eq_true rfl⟩ hl.1 rfl rfl (Nat.le_of_ble_eq_true rfl) dX5_hasRow_13 (fun r_ w_ H locs hw hH => ?_)
    obtain ⟨z_13, mQueued_14, mBeyond_15, mSpare_16, mLack_17, mBefore_18, mVia_19, mQueue_20, rfl, rfl, h⟩ := hw
    obtain ⟨hz_21, h⟩ := h
    refine xp_X5_isGiven C hH hz_21 dX5_hasRow_16 (fun H locs hH => ?_)
    refine j_iconst C dX5_hasRow_19 ?_
    refine j_istore_n (lv' := [(1, .int (J 0)), (0, .ref (a 0))]) C dX5_hasRow_20 hl (by decide) rfl (fun ls hl => ?_)
    obtain ⟨n_, h⟩ := h
    exact w_M_hasRow_21 C  n_ 0 mQueued_14 mBeyond_15 mBefore_18 mVia_19 mQueue_20 h _ _ _ hH (lv_sub hl [1, 0] rfl)
abbrev po_M_sumOfRow (cA : ClassId) (a : Nat → Nat) (mPosts mThirds mStraight mLeast mActs mDone : Int) (mCorner mSum mAct mMark : Nat → Int) (Q : Int → Int → Int → Int → (Nat → Int) → (Nat → Int) → (Nat → Int) → (Nat → Int) → (Nat → Int) → (Nat → Int) → Prop) : Int32 → va_W → Prop := fun r w => ∃ z mIsLaid' mIsGiven' mQueued' mBeyond' mSpare' mLack' mBefore' mVia' mQueue', r = J z ∧ w = wM cA a mPosts mThirds mStraight mLeast mIsLaid' mIsGiven' mActs mDone mQueued' mCorner mSum mBeyond' mAct mMark mSpare' mLack' mBefore' mVia' mQueue' ∧ Q z mIsLaid' mIsGiven' mQueued' mBeyond' mSpare' mLack' mBefore' mVia' mQueue'
set_option maxRecDepth 4000 in
theorem w_M_sumOfRow_14 {p : Program} {l : Launch} {e : Env} {s : State} {m : MethodId} {args : Array Value} {below : List Frame} {meth : Method} {c : Code} {D : va_G} {cA : ClassId} {A : Nat → Prop} {a : Nat → Nat} {mPosts mThirds mStraight mLeast mIsLaid mIsGiven mActs mDone mQueued : Int} {mCorner mSum mBeyond mAct mMark mSpare mLack mBefore mVia mQueue : Nat → Int} (C : XC p s m args meth c cX5_sumOfRow 4 RX5 (some .int) D cA A) {Q : Int → Int → Int → Int → (Nat → Int) → (Nat → Int) → (Nat → Int) → (Nat → Int) → (Nat → Int) → (Nat → Int) → Prop} {x1 : Int}  : ∀ (n : Nat) (x2 : Int) (x3 : Int), wp_M_sumOfRow_14 Q mThirds mLeast mCorner x1 mIsLaid mIsGiven mQueued mBeyond mSpare mLack mBefore mVia mQueue n x2 x3 → ∀ (H : Heap) (locs : List Loc) (ls : Array Slot), XH D A s (wM cA a mPosts mThirds mStraight mLeast mIsLaid mIsGiven mActs mDone mQueued mCorner mSum mBeyond mAct mMark mSpare mLack mBefore mVia mQueue) H locs → lv_has ls 4 [(0, .ref (a 0)), (1, .int (J x1)), (2, .int (J x2)), (3, .int (J x3))] → W p l e rm_M_sumOfRow s m args below meth c H locs 0 0 (MQ below (va_Qi (po_M_sumOfRow cA a mPosts mThirds mStraight mLeast mActs mDone mCorner mSum mAct mMark Q) (xB D cA A) A) args s 0 0 A) (F0 m 14 ls []) := by
  intro n
  induction n with
  | zero => intro x2 x3 h; exact (show False from h).elim
  | succ n hK14 =>
    intro x2 x3 h H locs ls hH hl
    have h : wp_M_sumOfRow_14_b  (wp_M_sumOfRow_14 Q mThirds mLeast mCorner x1 mIsLaid mIsGiven mQueued mBeyond mSpare mLack mBefore mVia mQueue n) Q mThirds mLeast mCorner x1 mIsLaid mIsGiven mQueued mBeyond mSpare mLack mBefore mVia mQueue x2 x3 := h
    unfold wp_M_sumOfRow_14_b at h
    refine j_iload_n C dX5_sumOfRow_14 (lv_at hl 3 rfl) ?_
    refine j_iconst C dX5_sumOfRow_15 ?_
    refine j_aload_n C dX5_sumOfRow_16 (lv_at hl 0 rfl) ?_
    refine xg_X5_thirds C hH dX5_sumOfRow_17 ?_
    refine j_imul C dX5_sumOfRow_20 ?_
    obtain ⟨g_1, h⟩ := h
    obtain ⟨g_2, h⟩ := h
    refine j_icmp_ge C 58 g_1 g_2 dX5_sumOfRow_21 (by decide) (fun c_3 => ?_) (fun c_3 => ?_)
    · have h := h.1 c_3
      refine j_iload_n C dX5_sumOfRow_58 (lv_at hl 2 rfl) ?_
      exact j_iret C hH ⟨_, _, _, _, _, _, _, _, _, _, rfl, rfl, h⟩ dX5_sumOfRow_59
    · have h := h.2 c_3
      refine j_iload_n C dX5_sumOfRow_24 (lv_at hl 2 rfl) ?_
      refine j_aload_n C dX5_sumOfRow_25 (lv_at hl 0 rfl) ?_
      refine xg_X5_corner C hH dX5_sumOfRow_26 ?_
      refine j_iload_n C dX5_sumOfRow_29 (lv_at hl 3 rfl) ?_
      obtain ⟨b_4, h⟩ := h
      refine xa_mCorner C hH b_4 dX5_sumOfRow_30 ?_
      refine j_iload_n C dX5_sumOfRow_31 (lv_at hl 1 rfl) ?_
      obtain ⟨g_5, h⟩ := h
      obtain ⟨g_6, h⟩ := h
      refine j_icmp_ne C 49 g_5 g_6 dX5_sumOfRow_32 (by decide) (fun c_7 => ?_) (fun c_7 => ?_)
      · have h := h.2 c_7
        refine j_iconst C dX5_sumOfRow_49 ?_
        refine j_iadd C dX5_sumOfRow_50 ?_
        refine j_istore_n (lv' := [(2, .int (J (x2 + 0))), (0, .ref (a 0)), (1, .int (J x1)), (3, .int (J x3))]) C dX5_sumOfRow_51 hl (by decide) rfl (fun ls hl => ?_)
        refine j_iinc (k := 3) (v := x3 + 1) (lv' := [(3, .int (J (x3 + 1))), (2, .int (J (x2 + 0))), (0, .ref (a 0)), (1, .int (J x1))]) C dX5_sumOfRow_52 hl rfl rfl (by decide) rfl (fun ls hl => ?_)
        refine j_goto C 14 dX5_sumOfRow_55 (by decide) ?_
        exact hK14 (x2 + 0) (x3 + 1) h _ _ _ hH (lv_sub hl [2, 3, 1, 0] rfl)
      · have h := h.1 c_7
        refine j_aload_n C dX5_sumOfRow_35 (lv_at hl 0 rfl) ?_
        refine xg_X5_least C hH dX5_sumOfRow_36 ?_
        refine j_aload_n C dX5_sumOfRow_39 (lv_at hl 0 rfl) ?_
        refine xg_X5_beyond C hH dX5_sumOfRow_40 ?_
        refine j_iload_n C dX5_sumOfRow_43 (lv_at hl 3 rfl) ?_
        refine xa_mBeyond C hH b_4 dX5_sumOfRow_44 ?_
        refine j_iadd C dX5_sumOfRow_45 ?_
        refine j_goto C 50 dX5_sumOfRow_46 (by decide) ?_
        refine j_iadd C dX5_sumOfRow_50 ?_
        refine j_istore_n (lv' := [(2, .int (J (x2 + (mLeast + (mBeyond x3.toNat))))), (0, .ref (a 0)), (1, .int (J x1)), (3, .int (J x3))]) C dX5_sumOfRow_51 hl (by decide) rfl (fun ls hl => ?_)
        refine j_iinc (k := 3) (v := x3 + 1) (lv' := [(3, .int (J (x3 + 1))), (2, .int (J (x2 + (mLeast + (mBeyond x3.toNat))))), (0, .ref (a 0)), (1, .int (J x1))]) C dX5_sumOfRow_52 hl rfl rfl (by decide) rfl (fun ls hl => ?_)
        refine j_goto C 14 dX5_sumOfRow_55 (by decide) ?_
        exact hK14 (x2 + (mLeast + (mBeyond x3.toNat))) (x3 + 1) h _ _ _ hH (lv_sub hl [2, 3, 1, 0] rfl)
set_option maxRecDepth 4000 in
theorem c_M_sumOfRow {l : Launch} {D : va_G} {cA : ClassId} {a : Nat → Nat} {sz : Nat} {mPosts mThirds mStraight mLeast mIsLaid mIsGiven mActs mDone mQueued : Int} {mCorner mSum mBeyond mAct mMark mSpare mLack mBefore mVia mQueue : Nat → Int} {x1 : Int} {Q : Int → Int → Int → Int → (Nat → Int) → (Nat → Int) → (Nat → Int) → (Nat → Int) → (Nat → Int) → (Nat → Int) → Prop} (h : wp_M_sumOfRow x1 mPosts mThirds mStraight mLeast mIsLaid mIsGiven mQueued mCorner mSum mBeyond mSpare mLack mBefore mVia mQueue Q) : Met l yX5_sumOfRow (.code yX5_sumOfRow cX5_sumOfRow 4 (some .int) :: lw_ok) rm_M_sumOfRow (xPre D cA sz [.ref (a 0), .int (J x1)] (wM cA a mPosts mThirds mStraight mLeast mIsLaid mIsGiven mActs mDone mQueued mCorner mSum mBeyond mAct mMark mSpare mLack mBefore mVia mQueue)) (va_Qi (po_M_sumOfRow cA a mPosts mThirds mStraight mLeast mActs mDone mCorner mSum mAct mMark Q) (xB D cA (va_A (wM cA a mPosts mThirds mStraight mLeast mIsLaid mIsGiven mActs mDone mQueued mCorner mSum mBeyond mAct mMark mSpare mLack mBefore mVia mQueue) sz)) (va_A (wM cA a mPosts mThirds mStraight mLeast mIsLaid mIsGiven mActs mDone mQueued mCorner mSum mBeyond mAct mMark mSpare mLack mBefore mVia mQueue) sz)) 0 0 (va_A (wM cA a mPosts mThirds mStraight mLeast mIsLaid mIsGiven mActs mDone mQueued mCorner mSum mBeyond mAct mMark mSpare mLack mBefore mVia mQueue) sz) := by
  refine xmet_i (by decide) (Nat.le_of_ble_eq_true rfl) ?_
  intro p e s m args below meth c A ls C hH hl
  have C : XC p s m args meth c cX5_sumOfRow 4 RX5 (some .int) D cA A := C
  have hl : lv_has ls 4 [(0, .ref (a 0)), (1, .int (J x1))] := hl
  unfold wp_M_sumOfRow at h
  refine j_aload_n C dX5_sumOfRow_0 (lv_at hl 0 rfl) ?_
  refine xcallV_i (As := []) (rest := []) (q0 := 0) C hH (fun sz => c_M_hasRow h) xl_X5_109 rfl rfl ⟨rfl, rfl⟩ ⟨Nat.le_of_ble_eq_true rfl, Nat.le_of_ble_eq_true rfl⟩ hl.1 rfl rfl (Nat.le_of_ble_eq_true rfl) dX5_sumOfRow_1 (fun r_ w_ H locs hw hH => ?_)
  obtain ⟨z_8, mIsLaid_9, mIsGiven_10, mQueued_11, mBeyond_12, mSpare_13, mLack_14, mBefore_15, mVia_16, mQueue_17, rfl, rfl, h⟩ := hw
  obtain ⟨g_18, h⟩ := h
  refine j_if_ne C 10 g_18 dX5_sumOfRow_4 (by decide) (fun c_19 => ?_) (fun c_19 => ?_)
  · have h := h.2 c_19
    refine j_iconst C dX5_sumOfRow_10 ?_
    refine j_istore_n (lv' := [(2, .int (J 0)), (0, .ref (a 0)), (1, .int (J x1))]) C dX5_sumOfRow_11 hl (by decide) rfl (fun ls hl => ?_)
    refine j_iconst C dX5_sumOfRow_12 ?_
    refine j_istore_n (lv' := [(3, .int (J 0)), (2, .int (J 0)), (0, .ref (a 0)), (1, .int (J x1))]) C dX5_sumOfRow_13 hl (by decide) rfl (fun ls hl => ?_)
    obtain ⟨n_, h⟩ := h
    exact w_M_sumOfRow_14 C  n_ 0 0 h _ _ _ hH (lv_sub hl [2, 3, 1, 0] rfl)
  · have h := h.1 c_19
    refine j_bipush C (by decide +kernel) dX5_sumOfRow_7 ?_
    exact j_iret C hH ⟨_, _, _, _, _, _, _, _, _, _, rfl, rfl, h⟩ dX5_sumOfRow_9
abbrev po_M_about (cA : ClassId) (a : Nat → Nat) (mPosts mThirds mStraight mLeast mActs mDone : Int) (mCorner mSum mAct : Nat → Int) (Q : Int → Int → Int → Int → (Nat → Int) → (Nat → Int) → (Nat → Int) → (Nat → Int) → (Nat → Int) → (Nat → Int) → (Nat → Int) → Prop) : Int32 → va_W → Prop := fun r w => ∃ z mIsLaid' mIsGiven' mQueued' mBeyond' mMark' mSpare' mLack' mBefore' mVia' mQueue', r = J z ∧ w = wM cA a mPosts mThirds mStraight mLeast mIsLaid' mIsGiven' mActs mDone mQueued' mCorner mSum mBeyond' mAct mMark' mSpare' mLack' mBefore' mVia' mQueue' ∧ Q z mIsLaid' mIsGiven' mQueued' mBeyond' mMark' mSpare' mLack' mBefore' mVia' mQueue'
set_option maxRecDepth 4000 in
theorem c_M_about {l : Launch} {D : va_G} {cA : ClassId} {a : Nat → Nat} {sz : Nat} {mPosts mThirds mStraight mLeast mIsLaid mIsGiven mActs mDone mQueued : Int} {mCorner mSum mBeyond mAct mMark mSpare mLack mBefore mVia mQueue : Nat → Int} {x1 x2 : Int} {Q : Int → Int → Int → Int → (Nat → Int) → (Nat → Int) → (Nat → Int) → (Nat → Int) → (Nat → Int) → (Nat → Int) → (Nat → Int) → Prop} (h : wp_M_about x1 x2 mPosts mThirds mStraight mLeast mIsLaid mIsGiven mQueued mCorner mSum mBeyond mMark mSpare mLack mBefore mVia mQueue Q) : Met l yX5_about (.code yX5_about cX5_about 3 (some .int) :: lw_ok) rm_M_about (xPre D cA sz [.ref (a 0), .int (J x1), .int (J x2)] (wM cA a mPosts mThirds mStraight mLeast mIsLaid mIsGiven mActs mDone mQueued mCorner mSum mBeyond mAct mMark mSpare mLack mBefore mVia mQueue)) (va_Qi (po_M_about cA a mPosts mThirds mStraight mLeast mActs mDone mCorner mSum mAct Q) (xB D cA (va_A (wM cA a mPosts mThirds mStraight mLeast mIsLaid mIsGiven mActs mDone mQueued mCorner mSum mBeyond mAct mMark mSpare mLack mBefore mVia mQueue) sz)) (va_A (wM cA a mPosts mThirds mStraight mLeast mIsLaid mIsGiven mActs mDone mQueued mCorner mSum mBeyond mAct mMark mSpare mLack mBefore mVia mQueue) sz)) 0 0 (va_A (wM cA a mPosts mThirds mStraight mLeast mIsLaid mIsGiven mActs mDone mQueued mCorner mSum mBeyond mAct mMark mSpare mLack mBefore mVia mQueue) sz) := by
  refine xmet_i (by decide) (Nat.le_of_ble_eq_true rfl) ?_
  intro p e s m args below meth c A ls C hH hl
  have C : XC p s m args meth c cX5_about 3 RX5 (some .int) D cA A := C
  have hl : lv_has ls 3 [(0, .ref (a 0)), (1, .int (J x1)), (2, .int (J x2))] := hl
  unfold wp_M_about at h
  refine j_aload_n C dX5_about_0 (lv_at hl 0 rfl) ?_
  refine j_iload_n C dX5_about_1 (lv_at hl 1 rfl) ?_
  refine xcallV_i (As := [.int (J x1)]) (rest := []) (q0 := 0) C hH (fun sz => c_M_isPost h) xl_X5_70 rfl rfl ⟨rfl, rfl⟩ ⟨Nat.le_of_ble_eq_true rfl, Nat.le_of_ble_eq_true rfl⟩ hl.1 rfl rfl (Nat.le_of_ble_eq_true rfl) dX5_about_2 (fun r_ w_ H locs hw hH => ?_)
  obtain ⟨z_1, rfl, rfl, h⟩ := hw
  obtain ⟨g_2, h⟩ := h
  refine j_if_ne C 10 g_2 dX5_about_5 (by decide) (fun c_3 => ?_) (fun c_3 => ?_)
  · have h := h.2 c_3
    refine j_iload_n C dX5_about_10 (lv_at hl 2 rfl) ?_
    obtain ⟨g_4, h⟩ := h
    by_cases c_50 : x2 = 0
    · have h := h.1 c_50
      refine j_tableIn C 48 g_4 dX5_about_11 (by rw [c_50]; decide) (by rw [c_50]; decide) (by rw [c_50]; rfl) (by decide) ?_
      refine j_aload_n C dX5_about_48 (lv_at hl 0 rfl) ?_
      refine j_iload_n C dX5_about_49 (lv_at hl 1 rfl) ?_
      refine xcallV_i (As := [.int (J x1)]) (rest := []) (q0 := 0) C hH (fun sz => c_M_cornersAt h) xl_X5_113 rfl rfl ⟨rfl, rfl⟩ ⟨Nat.le_of_ble_eq_true rfl, Nat.le_of_ble_eq_true rfl⟩ hl.1 rfl rfl (Nat.le_of_ble_eq_true rfl) dX5_about_50 (fun r_ w_ H locs hw hH => ?_)
      obtain ⟨z_6, rfl, rfl, h⟩ := hw
      exact j_iret C hH ⟨_, _, _, _, _, _, _, _, _, _, _, rfl, rfl, h⟩ dX5_about_53
    have h := h.2
    by_cases c_51 : x2 = 1
    · have h := h.1 c_51
      refine j_tableIn C 54 g_4 dX5_about_11 (by rw [c_51]; decide) (by rw [c_51]; decide) (by rw [c_51]; rfl) (by decide) ?_
      refine j_aload_n C dX5_about_54 (lv_at hl 0 rfl) ?_
      refine j_iload_n C dX5_about_55 (lv_at hl 1 rfl) ?_
      refine j_iconst C dX5_about_56 ?_
      refine j_iconst C dX5_about_57 ?_
      refine xcallV_i (As := [.int (J x1), .int (J 1), .int (J 2)]) (rest := []) (q0 := 0) C hH (fun sz => c_M_sidesAt h) xl_X5_117 rfl rfl ⟨rfl, rfl⟩ ⟨Nat.le_of_ble_eq_true rfl, Nat.le_of_ble_eq_true rfl⟩ hl.1 rfl rfl (Nat.le_of_ble_eq_true rfl) dX5_about_58 (fun r_ w_ H locs hw hH => ?_)
      obtain ⟨z_7, rfl, rfl, h⟩ := hw
      exact j_iret C hH ⟨_, _, _, _, _, _, _, _, _, _, _, rfl, rfl, h⟩ dX5_about_61
    have h := h.2
    by_cases c_52 : x2 = 2
    · have h := h.1 c_52
      refine j_tableIn C 62 g_4 dX5_about_11 (by rw [c_52]; decide) (by rw [c_52]; decide) (by rw [c_52]; rfl) (by decide) ?_
      refine j_aload_n C dX5_about_62 (lv_at hl 0 rfl) ?_
      refine j_iload_n C dX5_about_63 (lv_at hl 1 rfl) ?_
      refine xcallV_i (As := [.int (J x1)]) (rest := []) (q0 := 0) C hH (fun sz => c_M_cornersAt h) xl_X5_113 rfl rfl ⟨rfl, rfl⟩ ⟨Nat.le_of_ble_eq_true rfl, Nat.le_of_ble_eq_true rfl⟩ hl.1 rfl rfl (Nat.le_of_ble_eq_true rfl) dX5_about_64 (fun r_ w_ H locs hw hH => ?_)
      obtain ⟨z_8, rfl, rfl, h⟩ := hw
      obtain ⟨g_9, h⟩ := h
      refine j_if_le C 84 g_9 dX5_about_67 (by decide) (fun c_10 => ?_) (fun c_10 => ?_)
      · have h := h.1 c_10
        refine j_iconst C dX5_about_84 ?_
        exact j_iret C hH ⟨_, _, _, _, _, _, _, _, _, _, _, rfl, rfl, h⟩ dX5_about_85
      · have h := h.2 c_10
        refine j_aload_n C dX5_about_70 (lv_at hl 0 rfl) ?_
        refine j_iload_n C dX5_about_71 (lv_at hl 1 rfl) ?_
        refine j_iconst C dX5_about_72 ?_
        refine j_iconst C dX5_about_73 ?_
        refine xcallV_i (As := [.int (J x1), .int (J 1), .int (J 1)]) (rest := []) (q0 := 0) C hH (fun sz => c_M_sidesAt h) xl_X5_117 rfl rfl ⟨rfl, rfl⟩ ⟨Nat.le_of_ble_eq_true rfl, Nat.le_of_ble_eq_true rfl⟩ hl.1 rfl rfl (Nat.le_of_ble_eq_true rfl) dX5_about_74 (fun r_ w_ H locs hw hH => ?_)
        obtain ⟨z_11, rfl, rfl, h⟩ := hw
        obtain ⟨g_12, h⟩ := h
        refine j_if_ne C 84 g_12 dX5_about_77 (by decide) (fun c_13 => ?_) (fun c_13 => ?_)
        · have h := h.2 c_13
          refine j_iconst C dX5_about_84 ?_
          exact j_iret C hH ⟨_, _, _, _, _, _, _, _, _, _, _, rfl, rfl, h⟩ dX5_about_85
        · have h := h.1 c_13
          refine j_iconst C dX5_about_80 ?_
          refine j_goto C 85 dX5_about_81 (by decide) ?_
          exact j_iret C hH ⟨_, _, _, _, _, _, _, _, _, _, _, rfl, rfl, h⟩ dX5_about_85
    have h := h.2
    by_cases c_53 : x2 = 3
    · have h := h.1 c_53
      refine j_tableIn C 86 g_4 dX5_about_11 (by rw [c_53]; decide) (by rw [c_53]; decide) (by rw [c_53]; rfl) (by decide) ?_
      refine j_aload_n C dX5_about_86 (lv_at hl 0 rfl) ?_
      refine j_iload_n C dX5_about_87 (lv_at hl 1 rfl) ?_
      refine xcallV_i (As := [.int (J x1)]) (rest := []) (q0 := 0) C hH (fun sz => c_M_pieces h) xl_X5_120 rfl rfl ⟨rfl, rfl⟩ ⟨Nat.le_of_ble_eq_true rfl, Nat.le_of_ble_eq_true rfl⟩ hl.1 rfl rfl (Nat.le_of_ble_eq_true rfl) dX5_about_88 (fun r_ w_ H locs hw hH => ?_)
      obtain ⟨z_14, mMark_15, rfl, rfl, h⟩ := hw
      refine j_iconst C dX5_about_91 ?_
      obtain ⟨g_16, h⟩ := h
      refine j_icmp_ne C 99 g_16 (by unfold jR; decide) dX5_about_92 (by decide) (fun c_17 => ?_) (fun c_17 => ?_)
      · have h := h.2 c_17
        refine j_iconst C dX5_about_99 ?_
        exact j_iret C hH ⟨_, _, _, _, _, _, _, _, _, _, _, rfl, rfl, h⟩ dX5_about_100
      · have h := h.1 c_17
        refine j_iconst C dX5_about_95 ?_
        refine j_goto C 100 dX5_about_96 (by decide) ?_
        exact j_iret C hH ⟨_, _, _, _, _, _, _, _, _, _, _, rfl, rfl, h⟩ dX5_about_100
    have h := h.2
    by_cases c_54 : x2 = 4
    · have h := h.1 c_54
      refine j_tableIn C 101 g_4 dX5_about_11 (by rw [c_54]; decide) (by rw [c_54]; decide) (by rw [c_54]; rfl) (by decide) ?_
      refine j_aload_n C dX5_about_101 (lv_at hl 0 rfl) ?_
      refine xg_X5_sum C hH dX5_about_102 ?_
      refine j_iload_n C dX5_about_105 (lv_at hl 1 rfl) ?_
      obtain ⟨b_18, h⟩ := h
      refine xa_mSum C hH b_18 dX5_about_106 ?_
      exact j_iret C hH ⟨_, _, _, _, _, _, _, _, _, _, _, rfl, rfl, h⟩ dX5_about_107
    have h := h.2
    by_cases c_55 : x2 = 5
    · have h := h.1 c_55
      refine j_tableIn C 108 g_4 dX5_about_11 (by rw [c_55]; decide) (by rw [c_55]; decide) (by rw [c_55]; rfl) (by decide) ?_
      refine j_aload_n C dX5_about_108 (lv_at hl 0 rfl) ?_
      refine j_iload_n C dX5_about_109 (lv_at hl 1 rfl) ?_
      refine xcallV_i (As := [.int (J x1)]) (rest := []) (q0 := 0) C hH (fun sz => c_M_sumOfRow h) xl_X5_123 rfl rfl ⟨rfl, rfl⟩ ⟨Nat.le_of_ble_eq_true rfl, Nat.le_of_ble_eq_true rfl⟩ hl.1 rfl rfl (Nat.le_of_ble_eq_true rfl) dX5_about_110 (fun r_ w_ H locs hw hH => ?_)
      obtain ⟨z_19, mIsLaid_20, mIsGiven_21, mQueued_22, mBeyond_23, mSpare_24, mLack_25, mBefore_26, mVia_27, mQueue_28, rfl, rfl, h⟩ := hw
      exact j_iret C hH ⟨_, _, _, _, _, _, _, _, _, _, _, rfl, rfl, h⟩ dX5_about_113
    have h := h.2
    have h := h ⟨c_50, c_51, c_52, c_53, c_54, c_55⟩
    refine j_tableOut C 114 g_4 dX5_about_11 (jout_5 c_50 c_51 c_52 c_53 c_54 c_55) (by decide) ?_
    refine j_bipush C (by decide +kernel) dX5_about_114 ?_
    exact j_iret C hH ⟨_, _, _, _, _, _, _, _, _, _, _, rfl, rfl, h⟩ dX5_about_116
  · have h := h.1 c_3
    refine j_iconst C dX5_about_8 ?_
    exact j_iret C hH ⟨_, _, _, _, _, _, _, _, _, _, _, rfl, rfl, h⟩ dX5_about_9

abbrev po_M_pieces (cA : ClassId) (a : Nat → Nat) (mPosts mThirds mStraight mLeast mIsLaid mIsGiven mActs mDone mQueued : Int) (mCorner mSum mBeyond mAct mSpare mLack mBefore mVia mQueue : Nat → Int) (Q : Int → (Nat → Int) → Prop) : Int32 → va_W → Prop := fun r w => ∃ z mMark', r = J z ∧ w = wM cA a mPosts mThirds mStraight mLeast mIsLaid mIsGiven mActs mDone mQueued mCorner mSum mBeyond mAct mMark' mSpare mLack mBefore mVia mQueue ∧ Q z mMark'
set_option maxRecDepth 4000 in
theorem w_M_pieces_97 {p : Program} {l : Launch} {e : Env} {s : State} {m : MethodId} {args : Array Value} {below : List Frame} {meth : Method} {c : Code} {D : va_G} {cA : ClassId} {A : Nat → Prop} {a : Nat → Nat} {mPosts mThirds mStraight mLeast mIsLaid mIsGiven mActs mDone mQueued : Int} {mCorner mSum mBeyond mAct mSpare mLack mBefore mVia mQueue : Nat → Int} (C : XC p s m args meth c cX5_pieces 7 RX5 (some .int) D cA A) {K44 : Int → Int → (Nat → Int) → Prop} {K74 : Int → (Nat → Int) → Prop} {K85 : Int → Int → (Nat → Int) → Prop} {Q : Int → (Nat → Int) → Prop} {x1 : Int} {x2 : Int} {x3 : Int} {x5 : Int}  (hK44 : ∀ (x2 : Int) (x3 : Int) (mMark : Nat → Int), K44 x2 x3 mMark → ∀ (H : Heap) (locs : List Loc) (ls : Array Slot), XH D A s (wM cA a mPosts mThirds mStraight mLeast mIsLaid mIsGiven mActs mDone mQueued mCorner mSum mBeyond mAct mMark mSpare mLack mBefore mVia mQueue) H locs → lv_has ls 7 [(0, .ref (a 0)), (1, .int (J x1)), (2, .int (J x2)), (3, .int (J x3))] → W p l e rm_M_pieces s m args below meth c H locs 0 0 (MQ below (va_Qi (po_M_pieces cA a mPosts mThirds mStraight mLeast mIsLaid mIsGiven mActs mDone mQueued mCorner mSum mBeyond mAct mSpare mLack mBefore mVia mQueue Q) (xB D cA A) A) args s 0 0 A) (F0 m 44 ls [])) (hK74 : ∀ (x4 : Int) (mMark : Nat → Int), K74 x4 mMark → ∀ (H : Heap) (locs : List Loc) (ls : Array Slot), XH D A s (wM cA a mPosts mThirds mStraight mLeast mIsLaid mIsGiven mActs mDone mQueued mCorner mSum mBeyond mAct mMark mSpare mLack mBefore mVia mQueue) H locs → lv_has ls 7 [(0, .ref (a 0)), (1, .int (J x1)), (2, .int (J x2)), (3, .int (J x3)), (4, .int (J x4))] → W p l e rm_M_pieces s m args below meth c H locs 0 0 (MQ below (va_Qi (po_M_pieces cA a mPosts mThirds mStraight mLeast mIsLaid mIsGiven mActs mDone mQueued mCorner mSum mBeyond mAct mSpare mLack mBefore mVia mQueue Q) (xB D cA A) A) args s 0 0 A) (F0 m 74 ls [])) (hK85 : ∀ (x4 : Int) (x5 : Int) (mMark : Nat → Int), K85 x4 x5 mMark → ∀ (H : Heap) (locs : List Loc) (ls : Array Slot), XH D A s (wM cA a mPosts mThirds mStraight mLeast mIsLaid mIsGiven mActs mDone mQueued mCorner mSum mBeyond mAct mMark mSpare mLack mBefore mVia mQueue) H locs → lv_has ls 7 [(0, .ref (a 0)), (1, .int (J x1)), (2, .int (J x2)), (3, .int (J x3)), (4, .int (J x4)), (5, .int (J x5))] → W p l e rm_M_pieces s m args below meth c H locs 0 0 (MQ below (va_Qi (po_M_pieces cA a mPosts mThirds mStraight mLeast mIsLaid mIsGiven mActs mDone mQueued mCorner mSum mBeyond mAct mSpare mLack mBefore mVia mQueue Q) (xB D cA A) A) args s 0 0 A) (F0 m 85 ls [])) : ∀ (n : Nat) (x4 : Int) (x6 : Int) (mMark : Nat → Int), wp_M_pieces_97 K44 K74 K85 Q mThirds mCorner x1 x2 x3 x5 n x4 x6 mMark → ∀ (H : Heap) (locs : List Loc) (ls : Array Slot), XH D A s (wM cA a mPosts mThirds mStraight mLeast mIsLaid mIsGiven mActs mDone mQueued mCorner mSum mBeyond mAct mMark mSpare mLack mBefore mVia mQueue) H locs → lv_has ls 7 [(0, .ref (a 0)), (1, .int (J x1)), (2, .int (J x2)), (3, .int (J x3)), (4, .int (J x4)), (5, .int (J x5)), (6, .int (J x6))] → W p l e rm_M_pieces s m args below meth c H locs 0 0 (MQ below (va_Qi (po_M_pieces cA a mPosts mThirds mStraight mLeast mIsLaid mIsGiven mActs mDone mQueued mCorner mSum mBeyond mAct mSpare mLack mBefore mVia mQueue Q) (xB D cA A) A) args s 0 0 A) (F0 m 97 ls []) := by
  intro n
  induction n with
  | zero => intro x4 x6 mMark h; exact (show False from h).elim
  | succ n hK97 =>
    intro x4 x6 mMark h H locs ls hH hl
    have h : wp_M_pieces_97_b K44 K74 K85 (wp_M_pieces_97 K44 K74 K85 Q mThirds mCorner x1 x2 x3 x5 n) Q mThirds mCorner x1 x2 x3 x5 x4 x6 mMark := h
    unfold wp_M_pieces_97_b at h
    refine j_iload C dX5_pieces_97 (lv_at hl 6 rfl) ?_
    refine j_aload_n C dX5_pieces_99 (lv_at hl 0 rfl) ?_
    refine xg_X5_thirds C hH dX5_pieces_100 ?_
    obtain ⟨g_1, h⟩ := h
    obtain ⟨g_2, h⟩ := h
    refine j_icmp_ge C 156 g_1 g_2 dX5_pieces_103 (by decide) (fun c_3 => ?_) (fun c_3 => ?_)
    · have h := h.1 c_3
      refine j_iinc (k := 5) (v := x5 + 1) (lv' := [(5, .int (J (x5 + 1))), (0, .ref (a 0)), (1, .int (J x1)), (2, .int (J x2)), (3, .int (J x3)), (4, .int (J x4)), (6, .int (J x6))]) C dX5_pieces_156 hl rfl rfl (by decide) rfl (fun ls hl => ?_)
      refine j_goto C 85 dX5_pieces_159 (by decide) ?_
      exact hK85 x4 (x5 + 1) mMark h _ _ _ hH (lv_sub hl [1, 2, 3, 4, 5, 0] rfl)
    · have h := h.2 c_3
      refine j_aload_n C dX5_pieces_106 (lv_at hl 0 rfl) ?_
      refine xg_X5_mark C hH dX5_pieces_107 ?_
      refine j_iload C dX5_pieces_110 (lv_at hl 5 rfl) ?_
      obtain ⟨b_4, h⟩ := h
      refine xa_mMark C hH b_4 dX5_pieces_112 ?_
      refine j_iload_n C dX5_pieces_113 (lv_at hl 2 rfl) ?_
      obtain ⟨g_5, h⟩ := h
      obtain ⟨g_6, h⟩ := h
      refine j_icmp_ne C 150 g_5 g_6 dX5_pieces_114 (by decide) (fun c_7 => ?_) (fun c_7 => ?_)
      · have h := h.2 c_7
        refine j_iinc (k := 6) (v := x6 + 1) (lv' := [(6, .int (J (x6 + 1))), (0, .ref (a 0)), (1, .int (J x1)), (2, .int (J x2)), (3, .int (J x3)), (4, .int (J x4)), (5, .int (J x5))]) C dX5_pieces_150 hl rfl rfl (by decide) rfl (fun ls hl => ?_)
        refine j_goto C 97 dX5_pieces_153 (by decide) ?_
        exact hK97 x4 (x6 + 1) mMark h _ _ _ hH (lv_sub hl [1, 2, 3, 4, 5, 6, 0] rfl)
      · have h := h.1 c_7
        refine j_aload_n C dX5_pieces_117 (lv_at hl 0 rfl) ?_
        refine xg_X5_mark C hH dX5_pieces_118 ?_
        refine j_iload C dX5_pieces_121 (lv_at hl 6 rfl) ?_
        obtain ⟨b_8, h⟩ := h
        refine xa_mMark C hH b_8 dX5_pieces_123 ?_
        obtain ⟨g_9, h⟩ := h
        refine j_if_ne C 150 g_9 dX5_pieces_124 (by decide) (fun c_10 => ?_) (fun c_10 => ?_)
        · have h := h.2 c_10
          refine j_iinc (k := 6) (v := x6 + 1) (lv' := [(6, .int (J (x6 + 1))), (0, .ref (a 0)), (1, .int (J x1)), (2, .int (J x2)), (3, .int (J x3)), (4, .int (J x4)), (5, .int (J x5))]) C dX5_pieces_150 hl rfl rfl (by decide) rfl (fun ls hl => ?_)
          refine j_goto C 97 dX5_pieces_153 (by decide) ?_
          exact hK97 x4 (x6 + 1) mMark h _ _ _ hH (lv_sub hl [1, 2, 3, 4, 5, 6, 0] rfl)
        · have h := h.1 c_10
          refine j_aload_n C dX5_pieces_127 (lv_at hl 0 rfl) ?_
          refine j_iload C dX5_pieces_128 (lv_at hl 5 rfl) ?_
          refine j_iload C dX5_pieces_130 (lv_at hl 6 rfl) ?_
          refine j_iload_n C dX5_pieces_132 (lv_at hl 1 rfl) ?_
          refine xcallV_i (As := [.int (J x5), .int (J x6), .int (J x1)]) (rest := []) (q0 := 0) C hH (fun sz => c_M_hang h) xl_X5_106 rfl rfl ⟨rfl, rfl⟩ ⟨Nat.le_of_ble_eq_true rfl, Nat.le_of_ble_eq_true rfl⟩ hl.1 rfl rfl (Nat.le_of_ble_eq_true rfl) dX5_pieces_133 (fun r_ w_ H locs hw hH => ?_)
          obtain ⟨z_11, rfl, rfl, h⟩ := hw
          obtain ⟨g_12, h⟩ := h
          refine j_if_eq C 150 g_12 dX5_pieces_136 (by decide) (fun c_13 => ?_) (fun c_13 => ?_)
          · have h := h.1 c_13
            refine j_iinc (k := 6) (v := x6 + 1) (lv' := [(6, .int (J (x6 + 1))), (0, .ref (a 0)), (1, .int (J x1)), (2, .int (J x2)), (3, .int (J x3)), (4, .int (J x4)), (5, .int (J x5))]) C dX5_pieces_150 hl rfl rfl (by decide) rfl (fun ls hl => ?_)
            refine j_goto C 97 dX5_pieces_153 (by decide) ?_
            exact hK97 x4 (x6 + 1) mMark h _ _ _ hH (lv_sub hl [1, 2, 3, 4, 5, 6, 0] rfl)
          · have h := h.2 c_13
            refine j_aload_n C dX5_pieces_139 (lv_at hl 0 rfl) ?_
            refine xg_X5_mark C hH dX5_pieces_140 ?_
            refine j_iload C dX5_pieces_143 (lv_at hl 6 rfl) ?_
            refine j_iload_n C dX5_pieces_145 (lv_at hl 2 rfl) ?_
            refine xs_mMark C hH b_8 dX5_pieces_146 (fun mMark_14 e_mMark_14 H locs hH => ?_)
            have h := h mMark_14 e_mMark_14
            refine j_iconst C dX5_pieces_147 ?_
            refine j_istore (lv' := [(4, .int (J 1)), (0, .ref (a 0)), (1, .int (J x1)), (2, .int (J x2)), (3, .int (J x3)), (5, .int (J x5)), (6, .int (J x6))]) C dX5_pieces_148 hl (by decide) rfl (fun ls hl => ?_)
            refine j_iinc (k := 6) (v := x6 + 1) (lv' := [(6, .int (J (x6 + 1))), (4, .int (J 1)), (0, .ref (a 0)), (1, .int (J x1)), (2, .int (J x2)), (3, .int (J x3)), (5, .int (J x5))]) C dX5_pieces_150 hl rfl rfl (by decide) rfl (fun ls hl => ?_)
            refine j_goto C 97 dX5_pieces_153 (by decide) ?_
            exact hK97 1 (x6 + 1) mMark_14 h _ _ _ hH (lv_sub hl [2, 3, 4, 5, 1, 6, 0] rfl)
set_option maxRecDepth 4000 in
theorem w_M_pieces_85 {p : Program} {l : Launch} {e : Env} {s : State} {m : MethodId} {args : Array Value} {below : List Frame} {meth : Method} {c : Code} {D : va_G} {cA : ClassId} {A : Nat → Prop} {a : Nat → Nat} {mPosts mThirds mStraight mLeast mIsLaid mIsGiven mActs mDone mQueued : Int} {mCorner mSum mBeyond mAct mSpare mLack mBefore mVia mQueue : Nat → Int} (C : XC p s m args meth c cX5_pieces 7 RX5 (some .int) D cA A) {K44 : Int → Int → (Nat → Int) → Prop} {K74 : Int → (Nat → Int) → Prop} {Q : Int → (Nat → Int) → Prop} {x1 : Int} {x2 : Int} {x3 : Int}  (hK44 : ∀ (x2 : Int) (x3 : Int) (mMark : Nat → Int), K44 x2 x3 mMark → ∀ (H : Heap) (locs : List Loc) (ls : Array Slot), XH D A s (wM cA a mPosts mThirds mStraight mLeast mIsLaid mIsGiven mActs mDone mQueued mCorner mSum mBeyond mAct mMark mSpare mLack mBefore mVia mQueue) H locs → lv_has ls 7 [(0, .ref (a 0)), (1, .int (J x1)), (2, .int (J x2)), (3, .int (J x3))] → W p l e rm_M_pieces s m args below meth c H locs 0 0 (MQ below (va_Qi (po_M_pieces cA a mPosts mThirds mStraight mLeast mIsLaid mIsGiven mActs mDone mQueued mCorner mSum mBeyond mAct mSpare mLack mBefore mVia mQueue Q) (xB D cA A) A) args s 0 0 A) (F0 m 44 ls [])) (hK74 : ∀ (x4 : Int) (mMark : Nat → Int), K74 x4 mMark → ∀ (H : Heap) (locs : List Loc) (ls : Array Slot), XH D A s (wM cA a mPosts mThirds mStraight mLeast mIsLaid mIsGiven mActs mDone mQueued mCorner mSum mBeyond mAct mMark mSpare mLack mBefore mVia mQueue) H locs → lv_has ls 7 [(0, .ref (a 0)), (1, .int (J x1)), (2, .int (J x2)), (3, .int (J x3)), (4, .int (J x4))] → W p l e rm_M_pieces s m args below meth c H locs 0 0 (MQ below (va_Qi (po_M_pieces cA a mPosts mThirds mStraight mLeast mIsLaid mIsGiven mActs mDone mQueued mCorner mSum mBeyond mAct mSpare mLack mBefore mVia mQueue Q) (xB D cA A) A) args s 0 0 A) (F0 m 74 ls [])) : ∀ (n : Nat) (x4 : Int) (x5 : Int) (mMark : Nat → Int), wp_M_pieces_85 K44 K74 Q mThirds mCorner x1 x2 x3 n x4 x5 mMark → ∀ (H : Heap) (locs : List Loc) (ls : Array Slot), XH D A s (wM cA a mPosts mThirds mStraight mLeast mIsLaid mIsGiven mActs mDone mQueued mCorner mSum mBeyond mAct mMark mSpare mLack mBefore mVia mQueue) H locs → lv_has ls 7 [(0, .ref (a 0)), (1, .int (J x1)), (2, .int (J x2)), (3, .int (J x3)), (4, .int (J x4)), (5, .int (J x5))] → W p l e rm_M_pieces s m args below meth c H locs 0 0 (MQ below (va_Qi (po_M_pieces cA a mPosts mThirds mStraight mLeast mIsLaid mIsGiven mActs mDone mQueued mCorner mSum mBeyond mAct mSpare mLack mBefore mVia mQueue Q) (xB D cA A) A) args s 0 0 A) (F0 m 85 ls []) := by
  intro n
  induction n with
  | zero => intro x4 x5 mMark h; exact (show False from h).elim
  | succ n hK85 =>
    intro x4 x5 mMark h H locs ls hH hl
    have h : wp_M_pieces_85_b K44 K74 (wp_M_pieces_85 K44 K74 Q mThirds mCorner x1 x2 x3 n) Q mThirds mCorner x1 x2 x3 x4 x5 mMark := h
    unfold wp_M_pieces_85_b at h
    refine j_iload C dX5_pieces_85 (lv_at hl 5 rfl) ?_
    refine j_aload_n C dX5_pieces_87 (lv_at hl 0 rfl) ?_
    refine xg_X5_thirds C hH dX5_pieces_88 ?_
    obtain ⟨g_15, h⟩ := h
    obtain ⟨g_16, h⟩ := h
    refine j_icmp_ge C 162 g_15 g_16 dX5_pieces_91 (by decide) (fun c_17 => ?_) (fun c_17 => ?_)
    · have h := h.1 c_17
      refine j_goto C 74 dX5_pieces_162 (by decide) ?_
      exact hK74 x4 mMark h _ _ _ hH (lv_sub hl [0, 1, 2, 3, 4] rfl)
    · have h := h.2 c_17
      refine j_iconst C dX5_pieces_94 ?_
      refine j_istore (lv' := [(6, .int (J 0)), (0, .ref (a 0)), (1, .int (J x1)), (2, .int (J x2)), (3, .int (J x3)), (4, .int (J x4)), (5, .int (J x5))]) C dX5_pieces_95 hl (by decide) rfl (fun ls hl => ?_)
      obtain ⟨n_, h⟩ := h
      exact w_M_pieces_97 C hK44 hK74 hK85 n_ x4 0 mMark h _ _ _ hH (lv_sub hl [1, 2, 3, 4, 5, 6, 0] rfl)
set_option maxRecDepth 4000 in
theorem w_M_pieces_74 {p : Program} {l : Launch} {e : Env} {s : State} {m : MethodId} {args : Array Value} {below : List Frame} {meth : Method} {c : Code} {D : va_G} {cA : ClassId} {A : Nat → Prop} {a : Nat → Nat} {mPosts mThirds mStraight mLeast mIsLaid mIsGiven mActs mDone mQueued : Int} {mCorner mSum mBeyond mAct mSpare mLack mBefore mVia mQueue : Nat → Int} (C : XC p s m args meth c cX5_pieces 7 RX5 (some .int) D cA A) {K44 : Int → Int → (Nat → Int) → Prop} {Q : Int → (Nat → Int) → Prop} {x1 : Int} {x2 : Int} {x3 : Int}  (hK44 : ∀ (x2 : Int) (x3 : Int) (mMark : Nat → Int), K44 x2 x3 mMark → ∀ (H : Heap) (locs : List Loc) (ls : Array Slot), XH D A s (wM cA a mPosts mThirds mStraight mLeast mIsLaid mIsGiven mActs mDone mQueued mCorner mSum mBeyond mAct mMark mSpare mLack mBefore mVia mQueue) H locs → lv_has ls 7 [(0, .ref (a 0)), (1, .int (J x1)), (2, .int (J x2)), (3, .int (J x3))] → W p l e rm_M_pieces s m args below meth c H locs 0 0 (MQ below (va_Qi (po_M_pieces cA a mPosts mThirds mStraight mLeast mIsLaid mIsGiven mActs mDone mQueued mCorner mSum mBeyond mAct mSpare mLack mBefore mVia mQueue Q) (xB D cA A) A) args s 0 0 A) (F0 m 44 ls [])) : ∀ (n : Nat) (x4 : Int) (mMark : Nat → Int), wp_M_pieces_74 K44 Q mThirds mCorner x1 x2 x3 n x4 mMark → ∀ (H : Heap) (locs : List Loc) (ls : Array Slot), XH D A s (wM cA a mPosts mThirds mStraight mLeast mIsLaid mIsGiven mActs mDone mQueued mCorner mSum mBeyond mAct mMark mSpare mLack mBefore mVia mQueue) H locs → lv_has ls 7 [(0, .ref (a 0)), (1, .int (J x1)), (2, .int (J x2)), (3, .int (J x3)), (4, .int (J x4))] → W p l e rm_M_pieces s m args below meth c H locs 0 0 (MQ below (va_Qi (po_M_pieces cA a mPosts mThirds mStraight mLeast mIsLaid mIsGiven mActs mDone mQueued mCorner mSum mBeyond mAct mSpare mLack mBefore mVia mQueue Q) (xB D cA A) A) args s 0 0 A) (F0 m 74 ls []) := by
  intro n
  induction n with
  | zero => intro x4 mMark h; exact (show False from h).elim
  | succ n hK74 =>
    intro x4 mMark h H locs ls hH hl
    have h : wp_M_pieces_74_b K44 (wp_M_pieces_74 K44 Q mThirds mCorner x1 x2 x3 n) Q mThirds mCorner x1 x2 x3 x4 mMark := h
    unfold wp_M_pieces_74_b at h
    refine j_iload C dX5_pieces_74 (lv_at hl 4 rfl) ?_
    obtain ⟨g_18, h⟩ := h
    refine j_if_eq C 165 g_18 dX5_pieces_76 (by decide) (fun c_19 => ?_) (fun c_19 => ?_)
    · have h := h.1 c_19
      refine j_iinc (k := 3) (v := x3 + 1) (lv' := [(3, .int (J (x3 + 1))), (0, .ref (a 0)), (1, .int (J x1)), (2, .int (J x2)), (4, .int (J x4))]) C dX5_pieces_165 hl rfl rfl (by decide) rfl (fun ls hl => ?_)
      refine j_goto C 44 dX5_pieces_168 (by decide) ?_
      exact hK44 x2 (x3 + 1) mMark h _ _ _ hH (lv_sub hl [1, 2, 3, 0] rfl)
    · have h := h.2 c_19
      refine j_iconst C dX5_pieces_79 ?_
      refine j_istore (lv' := [(4, .int (J 0)), (0, .ref (a 0)), (1, .int (J x1)), (2, .int (J x2)), (3, .int (J x3))]) C dX5_pieces_80 hl (by decide) rfl (fun ls hl => ?_)
      refine j_iconst C dX5_pieces_82 ?_
      refine j_istore (lv' := [(5, .int (J 0)), (4, .int (J 0)), (0, .ref (a 0)), (1, .int (J x1)), (2, .int (J x2)), (3, .int (J x3))]) C dX5_pieces_83 hl (by decide) rfl (fun ls hl => ?_)
      obtain ⟨n_, h⟩ := h
      exact w_M_pieces_85 C hK44 hK74 n_ 0 0 mMark h _ _ _ hH (lv_sub hl [2, 3, 4, 5, 1, 0] rfl)
set_option maxRecDepth 4000 in
theorem w_M_pieces_44 {p : Program} {l : Launch} {e : Env} {s : State} {m : MethodId} {args : Array Value} {below : List Frame} {meth : Method} {c : Code} {D : va_G} {cA : ClassId} {A : Nat → Prop} {a : Nat → Nat} {mPosts mThirds mStraight mLeast mIsLaid mIsGiven mActs mDone mQueued : Int} {mCorner mSum mBeyond mAct mSpare mLack mBefore mVia mQueue : Nat → Int} (C : XC p s m args meth c cX5_pieces 7 RX5 (some .int) D cA A) {Q : Int → (Nat → Int) → Prop} {x1 : Int}  : ∀ (n : Nat) (x2 : Int) (x3 : Int) (mMark : Nat → Int), wp_M_pieces_44 Q mThirds mCorner x1 n x2 x3 mMark → ∀ (H : Heap) (locs : List Loc) (ls : Array Slot), XH D A s (wM cA a mPosts mThirds mStraight mLeast mIsLaid mIsGiven mActs mDone mQueued mCorner mSum mBeyond mAct mMark mSpare mLack mBefore mVia mQueue) H locs → lv_has ls 7 [(0, .ref (a 0)), (1, .int (J x1)), (2, .int (J x2)), (3, .int (J x3))] → W p l e rm_M_pieces s m args below meth c H locs 0 0 (MQ below (va_Qi (po_M_pieces cA a mPosts mThirds mStraight mLeast mIsLaid mIsGiven mActs mDone mQueued mCorner mSum mBeyond mAct mSpare mLack mBefore mVia mQueue Q) (xB D cA A) A) args s 0 0 A) (F0 m 44 ls []) := by
  intro n
  induction n with
  | zero => intro x2 x3 mMark h; exact (show False from h).elim
  | succ n hK44 =>
    intro x2 x3 mMark h H locs ls hH hl
    have h : wp_M_pieces_44_b  (wp_M_pieces_44 Q mThirds mCorner x1 n) Q mThirds mCorner x1 x2 x3 mMark := h
    unfold wp_M_pieces_44_b at h
    refine j_iload_n C dX5_pieces_44 (lv_at hl 3 rfl) ?_
    refine j_aload_n C dX5_pieces_45 (lv_at hl 0 rfl) ?_
    refine xg_X5_thirds C hH dX5_pieces_46 ?_
    obtain ⟨g_20, h⟩ := h
    obtain ⟨g_21, h⟩ := h
    refine j_icmp_ge C 171 g_20 g_21 dX5_pieces_49 (by decide) (fun c_22 => ?_) (fun c_22 => ?_)
    · have h := h.1 c_22
      refine j_iload_n C dX5_pieces_171 (lv_at hl 2 rfl) ?_
      exact j_iret C hH ⟨_, _, rfl, rfl, h⟩ dX5_pieces_172
    · have h := h.2 c_22
      refine j_aload_n C dX5_pieces_52 (lv_at hl 0 rfl) ?_
      refine xg_X5_mark C hH dX5_pieces_53 ?_
      refine j_iload_n C dX5_pieces_56 (lv_at hl 3 rfl) ?_
      obtain ⟨b_23, h⟩ := h
      refine xa_mMark C hH b_23 dX5_pieces_57 ?_
      obtain ⟨g_24, h⟩ := h
      refine j_if_ne C 165 g_24 dX5_pieces_58 (by decide) (fun c_25 => ?_) (fun c_25 => ?_)
      · have h := h.2 c_25
        refine j_iinc (k := 3) (v := x3 + 1) (lv' := [(3, .int (J (x3 + 1))), (0, .ref (a 0)), (1, .int (J x1)), (2, .int (J x2))]) C dX5_pieces_165 hl rfl rfl (by decide) rfl (fun ls hl => ?_)
        refine j_goto C 44 dX5_pieces_168 (by decide) ?_
        exact hK44 x2 (x3 + 1) mMark h _ _ _ hH (lv_sub hl [1, 2, 3, 0] rfl)
      · have h := h.1 c_25
        refine j_iinc (k := 2) (v := x2 + 1) (lv' := [(2, .int (J (x2 + 1))), (0, .ref (a 0)), (1, .int (J x1)), (3, .int (J x3))]) C dX5_pieces_61 hl rfl rfl (by decide) rfl (fun ls hl => ?_)
        refine j_aload_n C dX5_pieces_64 (lv_at hl 1 rfl) ?_
        refine xg_X5_mark C hH dX5_pieces_65 ?_
        refine j_iload_n C dX5_pieces_68 (lv_at hl 3 rfl) ?_
        refine j_iload_n C dX5_pieces_69 (lv_at hl 0 rfl) ?_
        refine xs_mMark C hH b_23 dX5_pieces_70 (fun mMark_26 e_mMark_26 H locs hH => ?_)
        have h := h mMark_26 e_mMark_26
        refine j_iconst C dX5_pieces_71 ?_
        refine j_istore (lv' := [(4, .int (J 1)), (2, .int (J (x2 + 1))), (0, .ref (a 0)), (1, .int (J x1)), (3, .int (J x3))]) C dX5_pieces_72 hl (by decide) rfl (fun ls hl => ?_)
        obtain ⟨n_, h⟩ := h
        exact w_M_pieces_74 C hK44 n_ 1 mMark_26 h _ _ _ hH (lv_sub hl [2, 3, 1, 4, 0] rfl)
set_option maxRecDepth 4000 in
theorem w_M_pieces_4 {p : Program} {l : Launch} {e : Env} {s : State} {m : MethodId} {args : Array Value} {below : List Frame} {meth : Method} {c : Code} {D : va_G} {cA : ClassId} {A : Nat → Prop} {a : Nat → Nat} {mPosts mThirds mStraight mLeast mIsLaid mIsGiven mActs mDone mQueued : Int} {mCorner mSum mBeyond mAct mSpare mLack mBefore mVia mQueue : Nat → Int} (C : XC p s m args meth c cX5_pieces 7 RX5 (some .int) D cA A) {Q : Int → (Nat → Int) → Prop} {x1 : Int} {x2 : Int}  : ∀ (n : Nat) (x3 : Int) (mMark : Nat → Int), wp_M_pieces_4 Q mThirds mCorner x1 x2 n x3 mMark → ∀ (H : Heap) (locs : List Loc) (ls : Array Slot), XH D A s (wM cA a mPosts mThirds mStraight mLeast mIsLaid mIsGiven mActs mDone mQueued mCorner mSum mBeyond mAct mMark mSpare mLack mBefore mVia mQueue) H locs → lv_has ls 7 [(0, .ref (a 0)), (1, .int (J x1)), (2, .int (J x2)), (3, .int (J x3))] → W p l e rm_M_pieces s m args below meth c H locs 0 0 (MQ below (va_Qi (po_M_pieces cA a mPosts mThirds mStraight mLeast mIsLaid mIsGiven mActs mDone mQueued mCorner mSum mBeyond mAct mSpare mLack mBefore mVia mQueue Q) (xB D cA A) A) args s 0 0 A) (F0 m 4 ls []) := by
  intro n
  induction n with
  | zero => intro x3 mMark h; exact (show False from h).elim
  | succ n hK4 =>
    intro x3 mMark h H locs ls hH hl
    have h : wp_M_pieces_4_b  (wp_M_pieces_4 Q mThirds mCorner x1 x2 n) Q mThirds mCorner x1 x2 x3 mMark := h
    unfold wp_M_pieces_4_b at h
    refine j_iload_n C dX5_pieces_4 (lv_at hl 3 rfl) ?_
    refine j_aload_n C dX5_pieces_5 (lv_at hl 0 rfl) ?_
    refine xg_X5_thirds C hH dX5_pieces_6 ?_
    obtain ⟨g_27, h⟩ := h
    obtain ⟨g_28, h⟩ := h
    refine j_icmp_ge C 42 g_27 g_28 dX5_pieces_9 (by decide) (fun c_29 => ?_) (fun c_29 => ?_)
    · have h := h.1 c_29
      refine j_iconst C dX5_pieces_42 ?_
      refine j_istore_n (lv' := [(3, .int (J 0)), (0, .ref (a 0)), (1, .int (J x1)), (2, .int (J x2))]) C dX5_pieces_43 hl (by decide) rfl (fun ls hl => ?_)
      obtain ⟨n_, h⟩ := h
      exact w_M_pieces_44 C  n_ x2 0 mMark h _ _ _ hH (lv_sub hl [1, 2, 3, 0] rfl)
    · have h := h.2 c_29
      refine j_aload_n C dX5_pieces_12 (lv_at hl 0 rfl) ?_
      refine xg_X5_mark C hH dX5_pieces_13 ?_
      refine j_iload_n C dX5_pieces_16 (lv_at hl 3 rfl) ?_
      refine j_iload_n C dX5_pieces_17 (lv_at hl 1 rfl) ?_
      obtain ⟨g_30, h⟩ := h
      refine j_if_lt C 30 g_30 dX5_pieces_18 (by decide) (fun c_31 => ?_) (fun c_31 => ?_)
      · have h := h.1 c_31
        refine j_iconst C dX5_pieces_30 ?_
        refine j_goto C 35 dX5_pieces_31 (by decide) ?_
        obtain ⟨b_32, h⟩ := h
        refine xs_mMark C hH b_32 dX5_pieces_35 (fun mMark_33 e_mMark_33 H locs hH => ?_)
        have h := h mMark_33 e_mMark_33
        refine j_iinc (k := 3) (v := x3 + 1) (lv' := [(3, .int (J (x3 + 1))), (0, .ref (a 0)), (1, .int (J x1)), (2, .int (J x2))]) C dX5_pieces_36 hl rfl rfl (by decide) rfl (fun ls hl => ?_)
        refine j_goto C 4 dX5_pieces_39 (by decide) ?_
        exact hK4 (x3 + 1) mMark_33 h _ _ _ hH (lv_sub hl [1, 2, 3, 0] rfl)
      · have h := h.2 c_31
        refine j_aload_n C dX5_pieces_21 (lv_at hl 0 rfl) ?_
        refine j_iload_n C dX5_pieces_22 (lv_at hl 3 rfl) ?_
        refine j_iload_n C dX5_pieces_23 (lv_at hl 1 rfl) ?_
        refine xcallV_i (As := [.int (J x3), .int (J x1)]) (rest := [.int (J x3), .ref (a 5)]) (q0 := 0) C hH (fun sz => c_M_hasPost h) xl_X5_103 rfl rfl ⟨rfl, rfl⟩ ⟨Nat.le_of_ble_eq_true rfl, Nat.le_of_ble_eq_true rfl⟩ hl.1 rfl rfl (Nat.le_of_ble_eq_true rfl) dX5_pieces_24 (fun r_ w_ H locs hw hH => ?_)
        obtain ⟨z_34, rfl, rfl, h⟩ := hw
        obtain ⟨g_35, h⟩ := h
        refine j_if_eq C 34 g_35 dX5_pieces_27 (by decide) (fun c_36 => ?_) (fun c_36 => ?_)
        · have h := h.1 c_36
          refine j_iconst C dX5_pieces_34 ?_
          obtain ⟨b_37, h⟩ := h
          refine xs_mMark C hH b_37 dX5_pieces_35 (fun mMark_38 e_mMark_38 H locs hH => ?_)
          have h := h mMark_38 e_mMark_38
          refine j_iinc (k := 3) (v := x3 + 1) (lv' := [(3, .int (J (x3 + 1))), (0, .ref (a 0)), (1, .int (J x1)), (2, .int (J x2))]) C dX5_pieces_36 hl rfl rfl (by decide) rfl (fun ls hl => ?_)
          refine j_goto C 4 dX5_pieces_39 (by decide) ?_
          exact hK4 (x3 + 1) mMark_38 h _ _ _ hH (lv_sub hl [1, 2, 3, 0] rfl)
        · have h := h.2 c_36
          refine j_iconst C dX5_pieces_30 ?_
          refine j_goto C 35 dX5_pieces_31 (by decide) ?_
          obtain ⟨b_39, h⟩ := h
          refine xs_mMark C hH b_39 dX5_pieces_35 (fun mMark_40 e_mMark_40 H locs hH => ?_)
          have h := h mMark_40 e_mMark_40
          refine j_iinc (k := 3) (v := x3 + 1) (lv' := [(3, .int (J (x3 + 1))), (0, .ref (a 0)), (1, .int (J x1)), (2, .int (J x2))]) C dX5_pieces_36 hl rfl rfl (by decide) rfl (fun ls hl => ?_)
          refine j_goto C 4 dX5_pieces_39 (by decide) ?_
          exact hK4 (x3 + 1) mMark_40 h _ _ _ hH (lv_sub hl [1, 2, 3, 0] rfl)
set_option maxRecDepth 4000 in
theorem c_M_pieces {l : Launch} {D : va_G} {cA : ClassId} {a : Nat → Nat} {sz : Nat} {mPosts mThirds mStraight mLeast mIsLaid mIsGiven mActs mDone mQueued : Int} {mCorner mSum mBeyond mAct mMark mSpare mLack mBefore mVia mQueue : Nat → Int} {x1 : Int} {Q : Int → (Nat → Int) → Prop} (h : wp_M_pieces x1 mThirds mCorner mMark Q) : Met l yX5_pieces (.code yX5_pieces cX5_pieces 7 (some .int) :: lw_ok) rm_M_pieces (xPre D cA sz [.ref (a 0), .int (J x1)] (wM cA a mPosts mThirds mStraight mLeast mIsLaid mIsGiven mActs mDone mQueued mCorner mSum mBeyond mAct mMark mSpare mLack mBefore mVia mQueue)) (va_Qi (po_M_pieces cA a mPosts mThirds mStraight mLeast mIsLaid mIsGiven mActs mDone mQueued mCorner mSum mBeyond mAct mSpare mLack mBefore mVia mQueue Q) (xB D cA (va_A (wM cA a mPosts mThirds mStraight mLeast mIsLaid mIsGiven mActs mDone mQueued mCorner mSum mBeyond mAct mMark mSpare mLack mBefore mVia mQueue) sz)) (va_A (wM cA a mPosts mThirds mStraight mLeast mIsLaid mIsGiven mActs mDone mQueued mCorner mSum mBeyond mAct mMark mSpare mLack mBefore mVia mQueue) sz)) 0 0 (va_A (wM cA a mPosts mThirds mStraight mLeast mIsLaid mIsGiven mActs mDone mQueued mCorner mSum mBeyond mAct mMark mSpare mLack mBefore mVia mQueue) sz) := by
  refine xmet_i (by decide) (Nat.le_of_ble_eq_true rfl) ?_
  intro p e s m args below meth c A ls C hH hl
  have C : XC p s m args meth c cX5_pieces 7 RX5 (some .int) D cA A := C
  have hl : lv_has ls 7 [(0, .ref (a 0)), (1, .int (J x1))] := hl
  unfold wp_M_pieces at h
  refine j_iconst C dX5_pieces_0 ?_
  refine j_istore_n (lv' := [(2, .int (J 0)), (0, .ref (a 0)), (1, .int (J x1))]) C dX5_pieces_1 hl (by decide) rfl (fun ls hl => ?_)
  refine j_iconst C dX5_pieces_2 ?_
  refine j_istore_n (lv' := [(3, .int (J 0)), (2, .int (J 0)), (0, .ref (a 0)), (1, .int (J x1))]) C dX5_pieces_3 hl (by decide) rfl (fun ls hl => ?_)
  obtain ⟨n_, h⟩ := h
  exact w_M_pieces_4 C  n_ 0 mMark h _ _ _ hH (lv_sub hl [2, 3, 1, 0] rfl)
abbrev po_M_clearWays (cA : ClassId) (a : Nat → Nat) (mPosts mThirds mStraight mLeast mIsLaid mIsGiven mActs mDone : Int) (mCorner mSum mBeyond mAct mMark mSpare mLack mVia mQueue : Nat → Int) (Q : Int → (Nat → Int) → Prop) : va_W → Prop := fun w => ∃ mQueued' mBefore', w = wM cA a mPosts mThirds mStraight mLeast mIsLaid mIsGiven mActs mDone mQueued' mCorner mSum mBeyond mAct mMark mSpare mLack mBefore' mVia mQueue ∧ Q mQueued' mBefore'
set_option maxRecDepth 4000 in
theorem w_M_clearWays_7 {p : Program} {l : Launch} {e : Env} {s : State} {m : MethodId} {args : Array Value} {below : List Frame} {meth : Method} {c : Code} {D : va_G} {cA : ClassId} {A : Nat → Prop} {a : Nat → Nat} {mPosts mThirds mStraight mLeast mIsLaid mIsGiven mActs mDone mQueued : Int} {mCorner mSum mBeyond mAct mMark mSpare mLack mVia mQueue : Nat → Int} (C : XC p s m args meth c cX5_clearWays 2 RX5 none D cA A) {Q : Int → (Nat → Int) → Prop}  : ∀ (n : Nat) (x1 : Int) (mBefore : Nat → Int), wp_M_clearWays_7 Q mQueued n x1 mBefore → ∀ (H : Heap) (locs : List Loc) (ls : Array Slot), XH D A s (wM cA a mPosts mThirds mStraight mLeast mIsLaid mIsGiven mActs mDone mQueued mCorner mSum mBeyond mAct mMark mSpare mLack mBefore mVia mQueue) H locs → lv_has ls 2 [(0, .ref (a 0)), (1, .int (J x1))] → W p l e rm_M_clearWays s m args below meth c H locs 0 0 (MQ below (va_Qv (po_M_clearWays cA a mPosts mThirds mStraight mLeast mIsLaid mIsGiven mActs mDone mCorner mSum mBeyond mAct mMark mSpare mLack mVia mQueue Q) (xB D cA A) A) args s 0 0 A) (F0 m 7 ls []) := by
  intro n
  induction n with
  | zero => intro x1 mBefore h; exact (show False from h).elim
  | succ n hK7 =>
    intro x1 mBefore h H locs ls hH hl
    have h : wp_M_clearWays_7_b  (wp_M_clearWays_7 Q mQueued n) Q  mQueued x1 mBefore := h
    unfold wp_M_clearWays_7_b at h
    refine j_iload_n C dX5_clearWays_7 (lv_at hl 1 rfl) ?_
    refine j_bipush C (by decide +kernel) dX5_clearWays_8 ?_
    obtain ⟨g_1, h⟩ := h
    refine j_icmp_ge C 27 g_1 (by unfold jR; decide) dX5_clearWays_10 (by decide) (fun c_2 => ?_) (fun c_2 => ?_)
    · have h := h.1 c_2
      exact j_vret C hH ⟨_, _, rfl, h⟩ dX5_clearWays_27
    · have h := h.2 c_2
      refine j_aload_n C dX5_clearWays_13 (lv_at hl 0 rfl) ?_
      refine xg_X5_before C hH dX5_clearWays_14 ?_
      refine j_iload_n C dX5_clearWays_17 (lv_at hl 1 rfl) ?_
      refine j_bipush C (by decide +kernel) dX5_clearWays_18 ?_
      obtain ⟨b_3, h⟩ := h
      refine xs_mBefore C hH b_3 dX5_clearWays_20 (fun mBefore_4 e_mBefore_4 H locs hH => ?_)
      have h := h mBefore_4 e_mBefore_4
      refine j_iinc (k := 1) (v := x1 + 1) (lv' := [(1, .int (J (x1 + 1))), (0, .ref (a 0))]) C dX5_clearWays_21 hl rfl rfl (by decide) rfl (fun ls hl => ?_)
      refine j_goto C 7 dX5_clearWays_24 (by decide) ?_
      exact hK7 (x1 + 1) mBefore_4 h _ _ _ hH (lv_sub hl [1, 0] rfl)
set_option maxRecDepth 4000 in
theorem c_M_clearWays {l : Launch} {D : va_G} {cA : ClassId} {a : Nat → Nat} {sz : Nat} {mPosts mThirds mStraight mLeast mIsLaid mIsGiven mActs mDone mQueued : Int} {mCorner mSum mBeyond mAct mMark mSpare mLack mBefore mVia mQueue : Nat → Int} {Q : Int → (Nat → Int) → Prop} (h : wp_M_clearWays  mQueued mBefore Q) : Met l yX5_clearWays (.code yX5_clearWays cX5_clearWays 2 none :: lw_ok) rm_M_clearWays (xPre D cA sz [.ref (a 0)] (wM cA a mPosts mThirds mStraight mLeast mIsLaid mIsGiven mActs mDone mQueued mCorner mSum mBeyond mAct mMark mSpare mLack mBefore mVia mQueue)) (va_Qv (po_M_clearWays cA a mPosts mThirds mStraight mLeast mIsLaid mIsGiven mActs mDone mCorner mSum mBeyond mAct mMark mSpare mLack mVia mQueue Q) (xB D cA (va_A (wM cA a mPosts mThirds mStraight mLeast mIsLaid mIsGiven mActs mDone mQueued mCorner mSum mBeyond mAct mMark mSpare mLack mBefore mVia mQueue) sz)) (va_A (wM cA a mPosts mThirds mStraight mLeast mIsLaid mIsGiven mActs mDone mQueued mCorner mSum mBeyond mAct mMark mSpare mLack mBefore mVia mQueue) sz)) 0 0 (va_A (wM cA a mPosts mThirds mStraight mLeast mIsLaid mIsGiven mActs mDone mQueued mCorner mSum mBeyond mAct mMark mSpare mLack mBefore mVia mQueue) sz) := by
  refine xmet_v (by decide) (Nat.le_of_ble_eq_true rfl) ?_
  intro p e s m args below meth c A ls C hH hl
  have C : XC p s m args meth c cX5_clearWays 2 RX5 none D cA A := C
  have hl : lv_has ls 2 [(0, .ref (a 0))] := hl
  unfold wp_M_clearWays at h
  refine j_aload_n C dX5_clearWays_0 (lv_at hl 0 rfl) ?_
  refine j_iconst C dX5_clearWays_1 ?_
  refine xp_X5_queued C hH dX5_clearWays_2 (fun H locs hH => ?_)
  refine j_iconst C dX5_clearWays_5 ?_
  refine j_istore_n (lv' := [(1, .int (J 0)), (0, .ref (a 0))]) C dX5_clearWays_6 hl (by decide) rfl (fun ls hl => ?_)
  obtain ⟨n_, h⟩ := h
  exact w_M_clearWays_7 C  n_ 0 mBefore h _ _ _ hH (lv_sub hl [1, 0] rfl)
abbrev po_M_come (cA : ClassId) (a : Nat → Nat) (mPosts mThirds mStraight mLeast mIsLaid mIsGiven mActs mDone : Int) (mCorner mSum mBeyond mAct mMark mSpare mLack : Nat → Int) (Q : Int → (Nat → Int) → (Nat → Int) → (Nat → Int) → Prop) : va_W → Prop := fun w => ∃ mQueued' mBefore' mVia' mQueue', w = wM cA a mPosts mThirds mStraight mLeast mIsLaid mIsGiven mActs mDone mQueued' mCorner mSum mBeyond mAct mMark mSpare mLack mBefore' mVia' mQueue' ∧ Q mQueued' mBefore' mVia' mQueue'
set_option maxRecDepth 4000 in
theorem c_M_come {l : Launch} {D : va_G} {cA : ClassId} {a : Nat → Nat} {sz : Nat} {mPosts mThirds mStraight mLeast mIsLaid mIsGiven mActs mDone mQueued : Int} {mCorner mSum mBeyond mAct mMark mSpare mLack mBefore mVia mQueue : Nat → Int} {x1 x2 x3 : Int} {Q : Int → (Nat → Int) → (Nat → Int) → (Nat → Int) → Prop} (h : wp_M_come x1 x2 x3 mQueued mBefore mVia mQueue Q) : Met l yX5_come (.code yX5_come cX5_come 4 none :: lw_ok) rm_M_come (xPre D cA sz [.ref (a 0), .int (J x1), .int (J x2), .int (J x3)] (wM cA a mPosts mThirds mStraight mLeast mIsLaid mIsGiven mActs mDone mQueued mCorner mSum mBeyond mAct mMark mSpare mLack mBefore mVia mQueue)) (va_Qv (po_M_come cA a mPosts mThirds mStraight mLeast mIsLaid mIsGiven mActs mDone mCorner mSum mBeyond mAct mMark mSpare mLack Q) (xB D cA (va_A (wM cA a mPosts mThirds mStraight mLeast mIsLaid mIsGiven mActs mDone mQueued mCorner mSum mBeyond mAct mMark mSpare mLack mBefore mVia mQueue) sz)) (va_A (wM cA a mPosts mThirds mStraight mLeast mIsLaid mIsGiven mActs mDone mQueued mCorner mSum mBeyond mAct mMark mSpare mLack mBefore mVia mQueue) sz)) 0 0 (va_A (wM cA a mPosts mThirds mStraight mLeast mIsLaid mIsGiven mActs mDone mQueued mCorner mSum mBeyond mAct mMark mSpare mLack mBefore mVia mQueue) sz) := by
  refine xmet_v (by decide) (Nat.le_of_ble_eq_true rfl) ?_
  intro p e s m args below meth c A ls C hH hl
  have C : XC p s m args meth c cX5_come 4 RX5 none D cA A := C
  have hl : lv_has ls 4 [(0, .ref (a 0)), (1, .int (J x1)), (2, .int (J x2)), (3, .int (J x3))] := hl
  unfold wp_M_come at h
  refine j_aload_n C dX5_come_0 (lv_at hl 0 rfl) ?_
  refine xg_X5_before C hH dX5_come_1 ?_
  refine j_iload_n C dX5_come_4 (lv_at hl 1 rfl) ?_
  obtain ⟨b_1, h⟩ := h
  refine xa_mBefore C hH b_1 dX5_come_5 ?_
  refine j_bipush C (by decide +kernel) dX5_come_6 ?_
  obtain ⟨g_2, h⟩ := h
  refine j_icmp_ne C 45 g_2 (by unfold jR; decide) dX5_come_8 (by decide) (fun c_3 => ?_) (fun c_3 => ?_)
  · have h := h.2 c_3
    exact j_vret C hH ⟨_, _, _, _, rfl, h⟩ dX5_come_45
  · have h := h.1 c_3
    refine j_aload_n C dX5_come_11 (lv_at hl 0 rfl) ?_
    refine xg_X5_before C hH dX5_come_12 ?_
    refine j_iload_n C dX5_come_15 (lv_at hl 1 rfl) ?_
    refine j_iload_n C dX5_come_16 (lv_at hl 2 rfl) ?_
    refine xs_mBefore C hH b_1 dX5_come_17 (fun mBefore_4 e_mBefore_4 H locs hH => ?_)
    have h := h mBefore_4 e_mBefore_4
    refine j_aload_n C dX5_come_18 (lv_at hl 0 rfl) ?_
    refine xg_X5_via C hH dX5_come_19 ?_
    refine j_iload_n C dX5_come_22 (lv_at hl 1 rfl) ?_
    refine j_iload_n C dX5_come_23 (lv_at hl 3 rfl) ?_
    refine xs_mVia C hH b_1 dX5_come_24 (fun mVia_5 e_mVia_5 H locs hH => ?_)
    have h := h mVia_5 e_mVia_5
    refine j_aload_n C dX5_come_25 (lv_at hl 0 rfl) ?_
    refine xg_X5_queue C hH dX5_come_26 ?_
    refine j_aload_n C dX5_come_29 (lv_at hl 0 rfl) ?_
    refine xg_X5_queued C hH dX5_come_30 ?_
    refine j_iload_n C dX5_come_33 (lv_at hl 1 rfl) ?_
    obtain ⟨b_6, h⟩ := h
    refine xs_mQueue C hH b_6 dX5_come_34 (fun mQueue_7 e_mQueue_7 H locs hH => ?_)
    have h := h mQueue_7 e_mQueue_7
    refine j_aload_n C dX5_come_35 (lv_at hl 0 rfl) ?_
    refine j_dup C rfl dX5_come_36 ?_
    refine xg_X5_queued C hH dX5_come_37 ?_
    refine j_iconst C dX5_come_40 ?_
    refine j_iadd C dX5_come_41 ?_
    refine xp_X5_queued C hH dX5_come_42 (fun H locs hH => ?_)
    exact j_vret C hH ⟨_, _, _, _, rfl, h⟩ dX5_come_45
abbrev po_M_goWay (cA : ClassId) (a : Nat → Nat) (mPosts mThirds mStraight mLeast mIsLaid mIsGiven mActs mDone mQueued : Int) (mCorner mSum mAct mMark mSpare mLack mBefore mVia mQueue : Nat → Int) (Q : Int → (Nat → Int) → Prop) : Int32 → va_W → Prop := fun r w => ∃ z mBeyond', r = J z ∧ w = wM cA a mPosts mThirds mStraight mLeast mIsLaid mIsGiven mActs mDone mQueued mCorner mSum mBeyond' mAct mMark mSpare mLack mBefore mVia mQueue ∧ Q z mBeyond'
set_option maxRecDepth 4000 in
theorem w_M_goWay_2 {p : Program} {l : Launch} {e : Env} {s : State} {m : MethodId} {args : Array Value} {below : List Frame} {meth : Method} {c : Code} {D : va_G} {cA : ClassId} {A : Nat → Prop} {a : Nat → Nat} {mPosts mThirds mStraight mLeast mIsLaid mIsGiven mActs mDone mQueued : Int} {mCorner mSum mAct mMark mSpare mLack mBefore mVia mQueue : Nat → Int} (C : XC p s m args meth c cX5_goWay 4 RX5 (some .int) D cA A) {Q : Int → (Nat → Int) → Prop} {x2 : Int}  : ∀ (n : Nat) (x3 : Int) (mBeyond : Nat → Int), wp_M_goWay_2 Q mBefore mVia x2 n x3 mBeyond → ∀ (H : Heap) (locs : List Loc) (ls : Array Slot), XH D A s (wM cA a mPosts mThirds mStraight mLeast mIsLaid mIsGiven mActs mDone mQueued mCorner mSum mBeyond mAct mMark mSpare mLack mBefore mVia mQueue) H locs → lv_has ls 4 [(0, .ref (a 0)), (2, .int (J x2)), (3, .int (J x3))] → W p l e rm_M_goWay s m args below meth c H locs 0 0 (MQ below (va_Qi (po_M_goWay cA a mPosts mThirds mStraight mLeast mIsLaid mIsGiven mActs mDone mQueued mCorner mSum mAct mMark mSpare mLack mBefore mVia mQueue Q) (xB D cA A) A) args s 0 0 A) (F0 m 2 ls []) := by
  intro n
  induction n with
  | zero => intro x3 mBeyond h; exact (show False from h).elim
  | succ n hK2 =>
    intro x3 mBeyond h H locs ls hH hl
    have h : wp_M_goWay_2_b  (wp_M_goWay_2 Q mBefore mVia x2 n) Q mBefore mVia x2 x3 mBeyond := h
    unfold wp_M_goWay_2_b at h
    refine j_aload_n C dX5_goWay_2 (lv_at hl 0 rfl) ?_
    refine xg_X5_before C hH dX5_goWay_3 ?_
    refine j_iload_n C dX5_goWay_6 (lv_at hl 2 rfl) ?_
    obtain ⟨b_1, h⟩ := h
    refine xa_mBefore C hH b_1 dX5_goWay_7 ?_
    obtain ⟨g_2, h⟩ := h
    refine j_if_lt C 56 g_2 dX5_goWay_8 (by decide) (fun c_3 => ?_) (fun c_3 => ?_)
    · have h := h.1 c_3
      refine j_iload_n C dX5_goWay_56 (lv_at hl 2 rfl) ?_
      exact j_iret C hH ⟨_, _, rfl, rfl, h⟩ dX5_goWay_57
    · have h := h.2 c_3
      refine j_aload_n C dX5_goWay_11 (lv_at hl 0 rfl) ?_
      refine xg_X5_via C hH dX5_goWay_12 ?_
      refine j_iload_n C dX5_goWay_15 (lv_at hl 2 rfl) ?_
      refine xa_mVia C hH b_1 dX5_goWay_16 ?_
      obtain ⟨g_4, h⟩ := h
      refine j_if_lt C 46 g_4 dX5_goWay_17 (by decide) (fun c_5 => ?_) (fun c_5 => ?_)
      · have h := h.1 c_5
        refine j_aload_n C dX5_goWay_46 (lv_at hl 0 rfl) ?_
        refine xg_X5_before C hH dX5_goWay_47 ?_
        refine j_iload_n C dX5_goWay_50 (lv_at hl 2 rfl) ?_
        refine xa_mBefore C hH b_1 dX5_goWay_51 ?_
        refine j_istore_n (lv' := [(3, .int (J (mBefore x3.toNat))), (0, .ref (a 0)), (2, .int (J x2))]) C dX5_goWay_52 hl (by decide) rfl (fun ls hl => ?_)
        refine j_goto C 2 dX5_goWay_53 (by decide) ?_
        exact hK2 (mBefore x3.toNat) mBeyond h _ _ _ hH (lv_sub hl [1, 2, 0] rfl)
      · have h := h.2 c_5
        refine j_aload_n C dX5_goWay_20 (lv_at hl 0 rfl) ?_
        refine xg_X5_beyond C hH dX5_goWay_21 ?_
        refine j_aload_n C dX5_goWay_24 (lv_at hl 0 rfl) ?_
        refine xg_X5_via C hH dX5_goWay_25 ?_
        refine j_iload_n C dX5_goWay_28 (lv_at hl 2 rfl) ?_
        refine xa_mVia C hH b_1 dX5_goWay_29 ?_
        refine j_dup2 C rfl rfl dX5_goWay_30 ?_
        obtain ⟨b_6, h⟩ := h
        refine xa_mBeyond C hH b_6 dX5_goWay_31 ?_
        refine j_iload_n C dX5_goWay_32 (lv_at hl 2 rfl) ?_
        refine j_bipush C (by decide +kernel) dX5_goWay_33 ?_
        obtain ⟨g_7, h⟩ := h
        refine j_icmp_ge C 43 g_7 (by unfold jR; decide) dX5_goWay_35 (by decide) (fun c_8 => ?_) (fun c_8 => ?_)
        · have h := h.1 c_8
          refine j_iload_n C dX5_goWay_43 (lv_at hl 1 rfl) ?_
          refine j_iadd C dX5_goWay_44 ?_
          refine xs_mBeyond C hH b_6 dX5_goWay_45 (fun mBeyond_9 e_mBeyond_9 H locs hH => ?_)
          have h := h mBeyond_9 e_mBeyond_9
          refine j_aload_n C dX5_goWay_46 (lv_at hl 0 rfl) ?_
          refine xg_X5_before C hH dX5_goWay_47 ?_
          refine j_iload_n C dX5_goWay_50 (lv_at hl 2 rfl) ?_
          refine xa_mBefore C hH b_1 dX5_goWay_51 ?_
          refine j_istore_n (lv' := [(3, .int (J (mBefore x3.toNat))), (0, .ref (a 0)), (2, .int (J x2))]) C dX5_goWay_52 hl (by decide) rfl (fun ls hl => ?_)
          refine j_goto C 2 dX5_goWay_53 (by decide) ?_
          exact hK2 (mBefore x3.toNat) mBeyond_9 h _ _ _ hH (lv_sub hl [1, 2, 0] rfl)
        · have h := h.2 c_8
          refine j_iload_n C dX5_goWay_38 (lv_at hl 1 rfl) ?_
          refine j_ineg C dX5_goWay_39 ?_
          refine j_goto C 44 dX5_goWay_40 (by decide) ?_
          refine j_iadd C dX5_goWay_44 ?_
          refine xs_mBeyond C hH b_6 dX5_goWay_45 (fun mBeyond_10 e_mBeyond_10 H locs hH => ?_)
          have h := h mBeyond_10 e_mBeyond_10
          refine j_aload_n C dX5_goWay_46 (lv_at hl 0 rfl) ?_
          refine xg_X5_before C hH dX5_goWay_47 ?_
          refine j_iload_n C dX5_goWay_50 (lv_at hl 2 rfl) ?_
          refine xa_mBefore C hH b_1 dX5_goWay_51 ?_
          refine j_istore_n (lv' := [(3, .int (J (mBefore x3.toNat))), (0, .ref (a 0)), (2, .int (J x2))]) C dX5_goWay_52 hl (by decide) rfl (fun ls hl => ?_)
          refine j_goto C 2 dX5_goWay_53 (by decide) ?_
          exact hK2 (mBefore x3.toNat) mBeyond_10 h _ _ _ hH (lv_sub hl [1, 2, 0] rfl)
set_option maxRecDepth 4000 in
theorem c_M_goWay {l : Launch} {D : va_G} {cA : ClassId} {a : Nat → Nat} {sz : Nat} {mPosts mThirds mStraight mLeast mIsLaid mIsGiven mActs mDone mQueued : Int} {mCorner mSum mBeyond mAct mMark mSpare mLack mBefore mVia mQueue : Nat → Int} {x1 x2 : Int} {Q : Int → (Nat → Int) → Prop} (h : wp_M_goWay x1 x2 mBeyond mBefore mVia Q) : Met l yX5_goWay (.code yX5_goWay cX5_goWay 4 (some .int) :: lw_ok) rm_M_goWay (xPre D cA sz [.ref (a 0), .int (J x1), .int (J x2)] (wM cA a mPosts mThirds mStraight mLeast mIsLaid mIsGiven mActs mDone mQueued mCorner mSum mBeyond mAct mMark mSpare mLack mBefore mVia mQueue)) (va_Qi (po_M_goWay cA a mPosts mThirds mStraight mLeast mIsLaid mIsGiven mActs mDone mQueued mCorner mSum mAct mMark mSpare mLack mBefore mVia mQueue Q) (xB D cA (va_A (wM cA a mPosts mThirds mStraight mLeast mIsLaid mIsGiven mActs mDone mQueued mCorner mSum mBeyond mAct mMark mSpare mLack mBefore mVia mQueue) sz)) (va_A (wM cA a mPosts mThirds mStraight mLeast mIsLaid mIsGiven mActs mDone mQueued mCorner mSum mBeyond mAct mMark mSpare mLack mBefore mVia mQueue) sz)) 0 0 (va_A (wM cA a mPosts mThirds mStraight mLeast mIsLaid mIsGiven mActs mDone mQueued mCorner mSum mBeyond mAct mMark mSpare mLack mBefore mVia mQueue) sz) := by
  refine xmet_i (by decide) (Nat.le_of_ble_eq_true rfl) ?_
  intro p e s m args below meth c A ls C hH hl
  have C : XC p s m args meth c cX5_goWay 4 RX5 (some .int) D cA A := C
  have hl : lv_has ls 4 [(0, .ref (a 0)), (1, .int (J x1)), (2, .int (J x2))] := hl
  unfold wp_M_goWay at h
  refine j_iload_n C dX5_goWay_0 (lv_at hl 1 rfl) ?_
  refine j_istore_n (lv' := [(3, .int (J x1)), (0, .ref (a 0)), (1, .int (J x1)), (2, .int (J x2))]) C dX5_goWay_1 hl (by decide) rfl (fun ls hl => ?_)
  obtain ⟨n_, h⟩ := h
  exact w_M_goWay_2 C  n_ x1 mBeyond h _ _ _ hH (lv_sub hl [1, 3, 0] rfl)
abbrev po_M_spread (cA : ClassId) (a : Nat → Nat) (mPosts mThirds mStraight mLeast mIsLaid mIsGiven mActs mDone : Int) (mCorner mSum mBeyond mAct mMark mSpare mLack : Nat → Int) (Q : Int → (Nat → Int) → (Nat → Int) → (Nat → Int) → Prop) : va_W → Prop := fun w => ∃ mQueued' mBefore' mVia' mQueue', w = wM cA a mPosts mThirds mStraight mLeast mIsLaid mIsGiven mActs mDone mQueued' mCorner mSum mBeyond mAct mMark mSpare mLack mBefore' mVia' mQueue' ∧ Q mQueued' mBefore' mVia' mQueue'
set_option maxRecDepth 4000 in
theorem w_M_spread_119 {p : Program} {l : Launch} {e : Env} {s : State} {m : MethodId} {args : Array Value} {below : List Frame} {meth : Method} {c : Code} {D : va_G} {cA : ClassId} {A : Nat → Prop} {a : Nat → Nat} {mPosts mThirds mStraight mLeast mIsLaid mIsGiven mActs mDone : Int} {mCorner mSum mBeyond mAct mMark mSpare mLack : Nat → Int} (C : XC p s m args meth c cX5_spread 6 RX5 none D cA A) {K2 : Int → Int → (Nat → Int) → (Nat → Int) → (Nat → Int) → Prop} {Q : Int → (Nat → Int) → (Nat → Int) → (Nat → Int) → Prop} {x1 : Int} {x2 : Int} {x3 : Int} {x4 : Int}  (hK2 : ∀ (x3 : Int) (mQueued : Int) (mBefore : Nat → Int) (mVia : Nat → Int) (mQueue : Nat → Int), K2 x3 mQueued mBefore mVia mQueue → ∀ (H : Heap) (locs : List Loc) (ls : Array Slot), XH D A s (wM cA a mPosts mThirds mStraight mLeast mIsLaid mIsGiven mActs mDone mQueued mCorner mSum mBeyond mAct mMark mSpare mLack mBefore mVia mQueue) H locs → lv_has ls 6 [(0, .ref (a 0)), (1, .int (J x1)), (2, .int (J x2)), (3, .int (J x3))] → W p l e rm_M_spread s m args below meth c H locs 0 0 (MQ below (va_Qv (po_M_spread cA a mPosts mThirds mStraight mLeast mIsLaid mIsGiven mActs mDone mCorner mSum mBeyond mAct mMark mSpare mLack Q) (xB D cA A) A) args s 0 0 A) (F0 m 2 ls [])) : ∀ (n : Nat) (x5 : Int) (mQueued : Int) (mBefore : Nat → Int) (mVia : Nat → Int) (mQueue : Nat → Int), wp_M_spread_119 K2 Q mPosts mThirds mCorner mSum mBeyond x1 x2 x3 x4 n x5 mQueued mBefore mVia mQueue → ∀ (H : Heap) (locs : List Loc) (ls : Array Slot), XH D A s (wM cA a mPosts mThirds mStraight mLeast mIsLaid mIsGiven mActs mDone mQueued mCorner mSum mBeyond mAct mMark mSpare mLack mBefore mVia mQueue) H locs → lv_has ls 6 [(0, .ref (a 0)), (1, .int (J x1)), (2, .int (J x2)), (3, .int (J x3)), (4, .int (J x4)), (5, .int (J x5))] → W p l e rm_M_spread s m args below meth c H locs 0 0 (MQ below (va_Qv (po_M_spread cA a mPosts mThirds mStraight mLeast mIsLaid mIsGiven mActs mDone mCorner mSum mBeyond mAct mMark mSpare mLack Q) (xB D cA A) A) args s 0 0 A) (F0 m 119 ls []) := by
  intro n
  induction n with
  | zero => intro x5 mQueued mBefore mVia mQueue h; exact (show False from h).elim
  | succ n hK119 =>
    intro x5 mQueued mBefore mVia mQueue h H locs ls hH hl
    have h : wp_M_spread_119_b K2 (wp_M_spread_119 K2 Q mPosts mThirds mCorner mSum mBeyond x1 x2 x3 x4 n) Q mPosts mThirds mCorner mSum mBeyond x1 x2 x3 x4 x5 mQueued mBefore mVia mQueue := h
    unfold wp_M_spread_119_b at h
    refine j_iload C dX5_spread_119 (lv_at hl 5 rfl) ?_
    refine j_aload_n C dX5_spread_121 (lv_at hl 0 rfl) ?_
    refine xg_X5_posts C hH dX5_spread_122 ?_
    obtain ⟨g_1, h⟩ := h
    obtain ⟨g_2, h⟩ := h
    refine j_icmp_ge C 184 g_1 g_2 dX5_spread_125 (by decide) (fun c_3 => ?_) (fun c_3 => ?_)
    · have h := h.1 c_3
      refine j_iinc (k := 3) (v := x3 + 1) (lv' := [(3, .int (J (x3 + 1))), (0, .ref (a 0)), (1, .int (J x1)), (2, .int (J x2)), (4, .int (J x4)), (5, .int (J x5))]) C dX5_spread_184 hl rfl rfl (by decide) rfl (fun ls hl => ?_)
      refine j_goto C 2 dX5_spread_187 (by decide) ?_
      exact hK2 (x3 + 1) mQueued mBefore mVia mQueue h _ _ _ hH (lv_sub hl [1, 2, 3, 0] rfl)
    · have h := h.2 c_3
      refine j_iload_n C dX5_spread_128 (lv_at hl 2 rfl) ?_
      obtain ⟨g_4, h⟩ := h
      refine j_if_eq C 184 g_4 dX5_spread_129 (by decide) (fun c_5 => ?_) (fun c_5 => ?_)
      · have h := h.1 c_5
        refine j_iinc (k := 3) (v := x3 + 1) (lv' := [(3, .int (J (x3 + 1))), (0, .ref (a 0)), (1, .int (J x1)), (2, .int (J x2)), (4, .int (J x4)), (5, .int (J x5))]) C dX5_spread_184 hl rfl rfl (by decide) rfl (fun ls hl => ?_)
        refine j_goto C 2 dX5_spread_187 (by decide) ?_
        exact hK2 (x3 + 1) mQueued mBefore mVia mQueue h _ _ _ hH (lv_sub hl [1, 2, 3, 0] rfl)
      · have h := h.2 c_5
        refine j_iload C dX5_spread_132 (lv_at hl 4 rfl) ?_
        refine j_bipush C (by decide +kernel) dX5_spread_134 ?_
        obtain ⟨g_6, h⟩ := h
        refine j_icmp_lt C 184 g_6 (by unfold jR; decide) dX5_spread_136 (by decide) (fun c_7 => ?_) (fun c_7 => ?_)
        · have h := h.1 c_7
          refine j_iinc (k := 3) (v := x3 + 1) (lv' := [(3, .int (J (x3 + 1))), (0, .ref (a 0)), (1, .int (J x1)), (2, .int (J x2)), (4, .int (J x4)), (5, .int (J x5))]) C dX5_spread_184 hl rfl rfl (by decide) rfl (fun ls hl => ?_)
          refine j_goto C 2 dX5_spread_187 (by decide) ?_
          exact hK2 (x3 + 1) mQueued mBefore mVia mQueue h _ _ _ hH (lv_sub hl [1, 2, 3, 0] rfl)
        · have h := h.2 c_7
          refine j_aload_n C dX5_spread_139 (lv_at hl 0 rfl) ?_
          refine xg_X5_sum C hH dX5_spread_140 ?_
          refine j_iload C dX5_spread_143 (lv_at hl 4 rfl) ?_
          refine j_bipush C (by decide +kernel) dX5_spread_145 ?_
          refine j_isub C dX5_spread_147 ?_
          obtain ⟨b_8, h⟩ := h
          refine xa_mSum C hH b_8 dX5_spread_148 ?_
          refine j_bipush C (by decide +kernel) dX5_spread_149 ?_
          obtain ⟨g_9, h⟩ := h
          refine j_icmp_ne C 178 g_9 (by unfold jR; decide) dX5_spread_151 (by decide) (fun c_10 => ?_) (fun c_10 => ?_)
          · have h := h.2 c_10
            refine j_iinc (k := 5) (v := x5 + 1) (lv' := [(5, .int (J (x5 + 1))), (0, .ref (a 0)), (1, .int (J x1)), (2, .int (J x2)), (3, .int (J x3)), (4, .int (J x4))]) C dX5_spread_178 hl rfl rfl (by decide) rfl (fun ls hl => ?_)
            refine j_goto C 119 dX5_spread_181 (by decide) ?_
            exact hK119 (x5 + 1) mQueued mBefore mVia mQueue h _ _ _ hH (lv_sub hl [1, 2, 3, 4, 5, 0] rfl)
          · have h := h.1 c_10
            refine j_aload_n C dX5_spread_154 (lv_at hl 0 rfl) ?_
            refine xg_X5_sum C hH dX5_spread_155 ?_
            refine j_iload C dX5_spread_158 (lv_at hl 5 rfl) ?_
            obtain ⟨b_11, h⟩ := h
            refine xa_mSum C hH b_11 dX5_spread_160 ?_
            refine j_bipush C (by decide +kernel) dX5_spread_161 ?_
            obtain ⟨g_12, h⟩ := h
            refine j_icmp_ne C 178 g_12 (by unfold jR; decide) dX5_spread_163 (by decide) (fun c_13 => ?_) (fun c_13 => ?_)
            · have h := h.2 c_13
              refine j_iinc (k := 5) (v := x5 + 1) (lv' := [(5, .int (J (x5 + 1))), (0, .ref (a 0)), (1, .int (J x1)), (2, .int (J x2)), (3, .int (J x3)), (4, .int (J x4))]) C dX5_spread_178 hl rfl rfl (by decide) rfl (fun ls hl => ?_)
              refine j_goto C 119 dX5_spread_181 (by decide) ?_
              exact hK119 (x5 + 1) mQueued mBefore mVia mQueue h _ _ _ hH (lv_sub hl [1, 2, 3, 4, 5, 0] rfl)
            · have h := h.1 c_13
              refine j_aload_n C dX5_spread_166 (lv_at hl 0 rfl) ?_
              refine j_bipush C (by decide +kernel) dX5_spread_167 ?_
              refine j_iload C dX5_spread_169 (lv_at hl 5 rfl) ?_
              refine j_iadd C dX5_spread_171 ?_
              refine j_iload C dX5_spread_172 (lv_at hl 4 rfl) ?_
              refine j_iconst C dX5_spread_174 ?_
              refine xcallV_v (As := [.int (J (12 + x5)), .int (J x4), .int (J (-1))]) (rest := []) (q0 := 0) C hH (fun sz => c_M_come h) xl_X5_132 rfl rfl ⟨rfl, rfl⟩ ⟨Nat.le_of_ble_eq_true rfl, Nat.le_of_ble_eq_true rfl⟩ hl.1 rfl rfl (Nat.le_of_ble_eq_true rfl) dX5_spread_175 (fun w_ H locs hw hH => ?_)
              obtain ⟨mQueued_14, mBefore_15, mVia_16, mQueue_17, rfl, h⟩ := hw
              refine j_iinc (k := 5) (v := x5 + 1) (lv' := [(5, .int (J (x5 + 1))), (0, .ref (a 0)), (1, .int (J x1)), (2, .int (J x2)), (3, .int (J x3)), (4, .int (J x4))]) C dX5_spread_178 hl rfl rfl (by decide) rfl (fun ls hl => ?_)
              refine j_goto C 119 dX5_spread_181 (by decide) ?_
              exact hK119 (x5 + 1) mQueued_14 mBefore_15 mVia_16 mQueue_17 h _ _ _ hH (lv_sub hl [1, 2, 3, 4, 5, 0] rfl)
set_option maxRecDepth 4000 in
theorem w_M_spread_66 {p : Program} {l : Launch} {e : Env} {s : State} {m : MethodId} {args : Array Value} {below : List Frame} {meth : Method} {c : Code} {D : va_G} {cA : ClassId} {A : Nat → Prop} {a : Nat → Nat} {mPosts mThirds mStraight mLeast mIsLaid mIsGiven mActs mDone : Int} {mCorner mSum mBeyond mAct mMark mSpare mLack : Nat → Int} (C : XC p s m args meth c cX5_spread 6 RX5 none D cA A) {K2 : Int → Int → (Nat → Int) → (Nat → Int) → (Nat → Int) → Prop} {K21 : Int → Int → (Nat → Int) → (Nat → Int) → (Nat → Int) → Prop} {Q : Int → (Nat → Int) → (Nat → Int) → (Nat → Int) → Prop} {x1 : Int} {x2 : Int} {x3 : Int} {x4 : Int}  (hK2 : ∀ (x3 : Int) (mQueued : Int) (mBefore : Nat → Int) (mVia : Nat → Int) (mQueue : Nat → Int), K2 x3 mQueued mBefore mVia mQueue → ∀ (H : Heap) (locs : List Loc) (ls : Array Slot), XH D A s (wM cA a mPosts mThirds mStraight mLeast mIsLaid mIsGiven mActs mDone mQueued mCorner mSum mBeyond mAct mMark mSpare mLack mBefore mVia mQueue) H locs → lv_has ls 6 [(0, .ref (a 0)), (1, .int (J x1)), (2, .int (J x2)), (3, .int (J x3))] → W p l e rm_M_spread s m args below meth c H locs 0 0 (MQ below (va_Qv (po_M_spread cA a mPosts mThirds mStraight mLeast mIsLaid mIsGiven mActs mDone mCorner mSum mBeyond mAct mMark mSpare mLack Q) (xB D cA A) A) args s 0 0 A) (F0 m 2 ls [])) (hK21 : ∀ (x5 : Int) (mQueued : Int) (mBefore : Nat → Int) (mVia : Nat → Int) (mQueue : Nat → Int), K21 x5 mQueued mBefore mVia mQueue → ∀ (H : Heap) (locs : List Loc) (ls : Array Slot), XH D A s (wM cA a mPosts mThirds mStraight mLeast mIsLaid mIsGiven mActs mDone mQueued mCorner mSum mBeyond mAct mMark mSpare mLack mBefore mVia mQueue) H locs → lv_has ls 6 [(0, .ref (a 0)), (1, .int (J x1)), (2, .int (J x2)), (3, .int (J x3)), (4, .int (J x4)), (5, .int (J x5))] → W p l e rm_M_spread s m args below meth c H locs 0 0 (MQ below (va_Qv (po_M_spread cA a mPosts mThirds mStraight mLeast mIsLaid mIsGiven mActs mDone mCorner mSum mBeyond mAct mMark mSpare mLack Q) (xB D cA A) A) args s 0 0 A) (F0 m 21 ls [])) : ∀ (x5 : Int) (mQueued : Int) (mBefore : Nat → Int) (mVia : Nat → Int) (mQueue : Nat → Int), wp_M_spread_66 K2 K21 Q mPosts mThirds mCorner mSum mBeyond x1 x2 x3 x4 x5 mQueued mBefore mVia mQueue → ∀ (H : Heap) (locs : List Loc) (ls : Array Slot), XH D A s (wM cA a mPosts mThirds mStraight mLeast mIsLaid mIsGiven mActs mDone mQueued mCorner mSum mBeyond mAct mMark mSpare mLack mBefore mVia mQueue) H locs → lv_has ls 6 [(0, .ref (a 0)), (1, .int (J x1)), (2, .int (J x2)), (3, .int (J x3)), (4, .int (J x4)), (5, .int (J x5))] → W p l e rm_M_spread s m args below meth c H locs 0 0 (MQ below (va_Qv (po_M_spread cA a mPosts mThirds mStraight mLeast mIsLaid mIsGiven mActs mDone mCorner mSum mBeyond mAct mMark mSpare mLack Q) (xB D cA A) A) args s 0 0 A) (F0 m 66 ls []) := by
  intro x5 mQueued mBefore mVia mQueue h H locs ls hH hl
  unfold wp_M_spread_66 at h
  refine j_iload C dX5_spread_66 (lv_at hl 4 rfl) ?_
  refine j_bipush C (by decide +kernel) dX5_spread_68 ?_
  obtain ⟨g_18, h⟩ := h
  refine j_icmp_lt C 110 g_18 (by unfold jR; decide) dX5_spread_70 (by decide) (fun c_19 => ?_) (fun c_19 => ?_)
  · have h := h.1 c_19
    refine j_iinc (k := 5) (v := x5 + 1) (lv' := [(5, .int (J (x5 + 1))), (0, .ref (a 0)), (1, .int (J x1)), (2, .int (J x2)), (3, .int (J x3)), (4, .int (J x4))]) C dX5_spread_110 hl rfl rfl (by decide) rfl (fun ls hl => ?_)
    refine j_goto C 21 dX5_spread_113 (by decide) ?_
    exact hK21 (x5 + 1) mQueued mBefore mVia mQueue h _ _ _ hH (lv_sub hl [1, 2, 3, 4, 5, 0] rfl)
  · have h := h.2 c_19
    refine j_aload_n C dX5_spread_73 (lv_at hl 0 rfl) ?_
    refine xg_X5_corner C hH dX5_spread_74 ?_
    refine j_iload C dX5_spread_77 (lv_at hl 5 rfl) ?_
    obtain ⟨b_20, h⟩ := h
    refine xa_mCorner C hH b_20 dX5_spread_79 ?_
    refine j_iload C dX5_spread_80 (lv_at hl 4 rfl) ?_
    refine j_bipush C (by decide +kernel) dX5_spread_82 ?_
    refine j_isub C dX5_spread_84 ?_
    obtain ⟨g_21, h⟩ := h
    obtain ⟨g_22, h⟩ := h
    refine j_icmp_ne C 110 g_21 g_22 dX5_spread_85 (by decide) (fun c_23 => ?_) (fun c_23 => ?_)
    · have h := h.2 c_23
      refine j_iinc (k := 5) (v := x5 + 1) (lv' := [(5, .int (J (x5 + 1))), (0, .ref (a 0)), (1, .int (J x1)), (2, .int (J x2)), (3, .int (J x3)), (4, .int (J x4))]) C dX5_spread_110 hl rfl rfl (by decide) rfl (fun ls hl => ?_)
      refine j_goto C 21 dX5_spread_113 (by decide) ?_
      exact hK21 (x5 + 1) mQueued mBefore mVia mQueue h _ _ _ hH (lv_sub hl [1, 2, 3, 4, 5, 0] rfl)
    · have h := h.1 c_23
      refine j_aload_n C dX5_spread_88 (lv_at hl 0 rfl) ?_
      refine xg_X5_beyond C hH dX5_spread_89 ?_
      refine j_iload C dX5_spread_92 (lv_at hl 5 rfl) ?_
      refine xa_mBeyond C hH b_20 dX5_spread_94 ?_
      obtain ⟨g_24, h⟩ := h
      refine j_if_le C 110 g_24 dX5_spread_95 (by decide) (fun c_25 => ?_) (fun c_25 => ?_)
      · have h := h.1 c_25
        refine j_iinc (k := 5) (v := x5 + 1) (lv' := [(5, .int (J (x5 + 1))), (0, .ref (a 0)), (1, .int (J x1)), (2, .int (J x2)), (3, .int (J x3)), (4, .int (J x4))]) C dX5_spread_110 hl rfl rfl (by decide) rfl (fun ls hl => ?_)
        refine j_goto C 21 dX5_spread_113 (by decide) ?_
        exact hK21 (x5 + 1) mQueued mBefore mVia mQueue h _ _ _ hH (lv_sub hl [1, 2, 3, 4, 5, 0] rfl)
      · have h := h.2 c_25
        refine j_aload_n C dX5_spread_98 (lv_at hl 0 rfl) ?_
        refine j_iload C dX5_spread_99 (lv_at hl 5 rfl) ?_
        refine j_iconst C dX5_spread_101 ?_
        refine j_idiv C (by decide +kernel) dX5_spread_102 ?_
        refine j_iload C dX5_spread_103 (lv_at hl 4 rfl) ?_
        refine j_iload C dX5_spread_105 (lv_at hl 5 rfl) ?_
        refine xcallV_v (As := [.int (J (jdiv x5 3)), .int (J x4), .int (J x5)]) (rest := []) (q0 := 0) C hH (fun sz => c_M_come h) xl_X5_132 rfl rfl ⟨rfl, rfl⟩ ⟨Nat.le_of_ble_eq_true rfl, Nat.le_of_ble_eq_true rfl⟩ hl.1 rfl rfl (Nat.le_of_ble_eq_true rfl) dX5_spread_107 (fun w_ H locs hw hH => ?_)
        obtain ⟨mQueued_26, mBefore_27, mVia_28, mQueue_29, rfl, h⟩ := hw
        refine j_iinc (k := 5) (v := x5 + 1) (lv' := [(5, .int (J (x5 + 1))), (0, .ref (a 0)), (1, .int (J x1)), (2, .int (J x2)), (3, .int (J x3)), (4, .int (J x4))]) C dX5_spread_110 hl rfl rfl (by decide) rfl (fun ls hl => ?_)
        refine j_goto C 21 dX5_spread_113 (by decide) ?_
        exact hK21 (x5 + 1) mQueued_26 mBefore_27 mVia_28 mQueue_29 h _ _ _ hH (lv_sub hl [1, 2, 3, 4, 5, 0] rfl)
set_option maxRecDepth 4000 in
theorem w_M_spread_21 {p : Program} {l : Launch} {e : Env} {s : State} {m : MethodId} {args : Array Value} {below : List Frame} {meth : Method} {c : Code} {D : va_G} {cA : ClassId} {A : Nat → Prop} {a : Nat → Nat} {mPosts mThirds mStraight mLeast mIsLaid mIsGiven mActs mDone : Int} {mCorner mSum mBeyond mAct mMark mSpare mLack : Nat → Int} (C : XC p s m args meth c cX5_spread 6 RX5 none D cA A) {K2 : Int → Int → (Nat → Int) → (Nat → Int) → (Nat → Int) → Prop} {Q : Int → (Nat → Int) → (Nat → Int) → (Nat → Int) → Prop} {x1 : Int} {x2 : Int} {x3 : Int} {x4 : Int}  (hK2 : ∀ (x3 : Int) (mQueued : Int) (mBefore : Nat → Int) (mVia : Nat → Int) (mQueue : Nat → Int), K2 x3 mQueued mBefore mVia mQueue → ∀ (H : Heap) (locs : List Loc) (ls : Array Slot), XH D A s (wM cA a mPosts mThirds mStraight mLeast mIsLaid mIsGiven mActs mDone mQueued mCorner mSum mBeyond mAct mMark mSpare mLack mBefore mVia mQueue) H locs → lv_has ls 6 [(0, .ref (a 0)), (1, .int (J x1)), (2, .int (J x2)), (3, .int (J x3))] → W p l e rm_M_spread s m args below meth c H locs 0 0 (MQ below (va_Qv (po_M_spread cA a mPosts mThirds mStraight mLeast mIsLaid mIsGiven mActs mDone mCorner mSum mBeyond mAct mMark mSpare mLack Q) (xB D cA A) A) args s 0 0 A) (F0 m 2 ls [])) : ∀ (n : Nat) (x5 : Int) (mQueued : Int) (mBefore : Nat → Int) (mVia : Nat → Int) (mQueue : Nat → Int), wp_M_spread_21 K2 Q mPosts mThirds mCorner mSum mBeyond x1 x2 x3 x4 n x5 mQueued mBefore mVia mQueue → ∀ (H : Heap) (locs : List Loc) (ls : Array Slot), XH D A s (wM cA a mPosts mThirds mStraight mLeast mIsLaid mIsGiven mActs mDone mQueued mCorner mSum mBeyond mAct mMark mSpare mLack mBefore mVia mQueue) H locs → lv_has ls 6 [(0, .ref (a 0)), (1, .int (J x1)), (2, .int (J x2)), (3, .int (J x3)), (4, .int (J x4)), (5, .int (J x5))] → W p l e rm_M_spread s m args below meth c H locs 0 0 (MQ below (va_Qv (po_M_spread cA a mPosts mThirds mStraight mLeast mIsLaid mIsGiven mActs mDone mCorner mSum mBeyond mAct mMark mSpare mLack Q) (xB D cA A) A) args s 0 0 A) (F0 m 21 ls []) := by
  intro n
  induction n with
  | zero => intro x5 mQueued mBefore mVia mQueue h; exact (show False from h).elim
  | succ n hK21 =>
    intro x5 mQueued mBefore mVia mQueue h H locs ls hH hl
    have h : wp_M_spread_21_b K2 (wp_M_spread_21 K2 Q mPosts mThirds mCorner mSum mBeyond x1 x2 x3 x4 n) Q mPosts mThirds mCorner mSum mBeyond x1 x2 x3 x4 x5 mQueued mBefore mVia mQueue := h
    unfold wp_M_spread_21_b at h
    refine j_iload C dX5_spread_21 (lv_at hl 5 rfl) ?_
    refine j_iconst C dX5_spread_23 ?_
    refine j_aload_n C dX5_spread_24 (lv_at hl 0 rfl) ?_
    refine xg_X5_thirds C hH dX5_spread_25 ?_
    refine j_imul C dX5_spread_28 ?_
    obtain ⟨g_30, h⟩ := h
    obtain ⟨g_31, h⟩ := h
    refine j_icmp_ge C 116 g_30 g_31 dX5_spread_29 (by decide) (fun c_32 => ?_) (fun c_32 => ?_)
    · have h := h.1 c_32
      refine j_iconst C dX5_spread_116 ?_
      refine j_istore (lv' := [(5, .int (J 0)), (0, .ref (a 0)), (1, .int (J x1)), (2, .int (J x2)), (3, .int (J x3)), (4, .int (J x4))]) C dX5_spread_117 hl (by decide) rfl (fun ls hl => ?_)
      obtain ⟨n_, h⟩ := h
      exact w_M_spread_119 C hK2 n_ 0 mQueued mBefore mVia mQueue h _ _ _ hH (lv_sub hl [1, 2, 3, 4, 5, 0] rfl)
    · have h := h.2 c_32
      refine j_iload C dX5_spread_32 (lv_at hl 4 rfl) ?_
      refine j_bipush C (by decide +kernel) dX5_spread_34 ?_
      obtain ⟨g_33, h⟩ := h
      refine j_icmp_ge C 66 g_33 (by unfold jR; decide) dX5_spread_36 (by decide) (fun c_34 => ?_) (fun c_34 => ?_)
      · have h := h.1 c_34
        exact w_M_spread_66 C hK2 hK21 x5 mQueued mBefore mVia mQueue h _ _ _ hH (lv_sub hl [0, 1, 2, 3, 4, 5] rfl)
      · have h := h.2 c_34
        refine j_iload C dX5_spread_39 (lv_at hl 5 rfl) ?_
        refine j_iconst C dX5_spread_41 ?_
        refine j_idiv C (by decide +kernel) dX5_spread_42 ?_
        refine j_iload C dX5_spread_43 (lv_at hl 4 rfl) ?_
        obtain ⟨g_35, h⟩ := h
        refine j_icmp_ne C 66 g_35 g_33 dX5_spread_45 (by decide) (fun c_36 => ?_) (fun c_36 => ?_)
        · have h := h.2 c_36
          exact w_M_spread_66 C hK2 hK21 x5 mQueued mBefore mVia mQueue h _ _ _ hH (lv_sub hl [0, 1, 2, 3, 4, 5] rfl)
        · have h := h.1 c_36
          refine j_aload_n C dX5_spread_48 (lv_at hl 0 rfl) ?_
          refine j_bipush C (by decide +kernel) dX5_spread_49 ?_
          refine j_aload_n C dX5_spread_51 (lv_at hl 0 rfl) ?_
          refine xg_X5_corner C hH dX5_spread_52 ?_
          refine j_iload C dX5_spread_55 (lv_at hl 5 rfl) ?_
          obtain ⟨b_37, h⟩ := h
          refine xa_mCorner C hH b_37 dX5_spread_57 ?_
          refine j_iadd C dX5_spread_58 ?_
          refine j_iload C dX5_spread_59 (lv_at hl 4 rfl) ?_
          refine j_iload C dX5_spread_61 (lv_at hl 5 rfl) ?_
          refine xcallV_v (As := [.int (J (12 + (mCorner x5.toNat))), .int (J x4), .int (J x5)]) (rest := []) (q0 := 0) C hH (fun sz => c_M_come h) xl_X5_132 rfl rfl ⟨rfl, rfl⟩ ⟨Nat.le_of_ble_eq_true rfl, Nat.le_of_ble_eq_true rfl⟩ hl.1 rfl rfl (Nat.le_of_ble_eq_true rfl) dX5_spread_63 (fun w_ H locs hw hH => ?_)
          obtain ⟨mQueued_38, mBefore_39, mVia_40, mQueue_41, rfl, h⟩ := hw
          exact w_M_spread_66 C hK2 hK21 x5 mQueued_38 mBefore_39 mVia_40 mQueue_41 h _ _ _ hH (lv_sub hl [0, 1, 2, 3, 4, 5] rfl)
set_option maxRecDepth 4000 in
theorem w_M_spread_2 {p : Program} {l : Launch} {e : Env} {s : State} {m : MethodId} {args : Array Value} {below : List Frame} {meth : Method} {c : Code} {D : va_G} {cA : ClassId} {A : Nat → Prop} {a : Nat → Nat} {mPosts mThirds mStraight mLeast mIsLaid mIsGiven mActs mDone : Int} {mCorner mSum mBeyond mAct mMark mSpare mLack : Nat → Int} (C : XC p s m args meth c cX5_spread 6 RX5 none D cA A) {Q : Int → (Nat → Int) → (Nat → Int) → (Nat → Int) → Prop} {x1 : Int} {x2 : Int}  : ∀ (n : Nat) (x3 : Int) (mQueued : Int) (mBefore : Nat → Int) (mVia : Nat → Int) (mQueue : Nat → Int), wp_M_spread_2 Q mPosts mThirds mCorner mSum mBeyond x1 x2 n x3 mQueued mBefore mVia mQueue → ∀ (H : Heap) (locs : List Loc) (ls : Array Slot), XH D A s (wM cA a mPosts mThirds mStraight mLeast mIsLaid mIsGiven mActs mDone mQueued mCorner mSum mBeyond mAct mMark mSpare mLack mBefore mVia mQueue) H locs → lv_has ls 6 [(0, .ref (a 0)), (1, .int (J x1)), (2, .int (J x2)), (3, .int (J x3))] → W p l e rm_M_spread s m args below meth c H locs 0 0 (MQ below (va_Qv (po_M_spread cA a mPosts mThirds mStraight mLeast mIsLaid mIsGiven mActs mDone mCorner mSum mBeyond mAct mMark mSpare mLack Q) (xB D cA A) A) args s 0 0 A) (F0 m 2 ls []) := by
  intro n
  induction n with
  | zero => intro x3 mQueued mBefore mVia mQueue h; exact (show False from h).elim
  | succ n hK2 =>
    intro x3 mQueued mBefore mVia mQueue h H locs ls hH hl
    have h : wp_M_spread_2_b  (wp_M_spread_2 Q mPosts mThirds mCorner mSum mBeyond x1 x2 n) Q mPosts mThirds mCorner mSum mBeyond x1 x2 x3 mQueued mBefore mVia mQueue := h
    unfold wp_M_spread_2_b at h
    refine j_iload_n C dX5_spread_2 (lv_at hl 3 rfl) ?_
    refine j_aload_n C dX5_spread_3 (lv_at hl 0 rfl) ?_
    refine xg_X5_queued C hH dX5_spread_4 ?_
    obtain ⟨g_42, h⟩ := h
    obtain ⟨g_43, h⟩ := h
    refine j_icmp_ge C 190 g_42 g_43 dX5_spread_7 (by decide) (fun c_44 => ?_) (fun c_44 => ?_)
    · have h := h.1 c_44
      exact j_vret C hH ⟨_, _, _, _, rfl, h⟩ dX5_spread_190
    · have h := h.2 c_44
      refine j_aload_n C dX5_spread_10 (lv_at hl 0 rfl) ?_
      refine xg_X5_queue C hH dX5_spread_11 ?_
      refine j_iload_n C dX5_spread_14 (lv_at hl 3 rfl) ?_
      obtain ⟨b_45, h⟩ := h
      refine xa_mQueue C hH b_45 dX5_spread_15 ?_
      refine j_istore (lv' := [(4, .int (J (mQueue x3.toNat))), (0, .ref (a 0)), (1, .int (J x1)), (2, .int (J x2)), (3, .int (J x3))]) C dX5_spread_16 hl (by decide) rfl (fun ls hl => ?_)
      refine j_iload_n C dX5_spread_18 (lv_at hl 2 rfl) ?_
      refine j_istore (lv' := [(5, .int (J x1)), (4, .int (J (mQueue x3.toNat))), (0, .ref (a 0)), (1, .int (J x1)), (2, .int (J x2)), (3, .int (J x3))]) C dX5_spread_19 hl (by decide) rfl (fun ls hl => ?_)
      obtain ⟨n_, h⟩ := h
      exact w_M_spread_21 C hK2 n_ x1 mQueued mBefore mVia mQueue h _ _ _ hH (lv_sub hl [2, 3, 4, 5, 1, 0] rfl)
set_option maxRecDepth 4000 in
theorem c_M_spread {l : Launch} {D : va_G} {cA : ClassId} {a : Nat → Nat} {sz : Nat} {mPosts mThirds mStraight mLeast mIsLaid mIsGiven mActs mDone mQueued : Int} {mCorner mSum mBeyond mAct mMark mSpare mLack mBefore mVia mQueue : Nat → Int} {x1 x2 : Int} {Q : Int → (Nat → Int) → (Nat → Int) → (Nat → Int) → Prop} (h : wp_M_spread x1 x2 mPosts mThirds mQueued mCorner mSum mBeyond mBefore mVia mQueue Q) : Met l yX5_spread (.code yX5_spread cX5_spread 6 none :: lw_ok) rm_M_spread (xPre D cA sz [.ref (a 0), .int (J x1), .int (J x2)] (wM cA a mPosts mThirds mStraight mLeast mIsLaid mIsGiven mActs mDone mQueued mCorner mSum mBeyond mAct mMark mSpare mLack mBefore mVia mQueue)) (va_Qv (po_M_spread cA a mPosts mThirds mStraight mLeast mIsLaid mIsGiven mActs mDone mCorner mSum mBeyond mAct mMark mSpare mLack Q) (xB D cA (va_A (wM cA a mPosts mThirds mStraight mLeast mIsLaid mIsGiven mActs mDone mQueued mCorner mSum mBeyond mAct mMark mSpare mLack mBefore mVia mQueue) sz)) (va_A (wM cA a mPosts mThirds mStraight mLeast mIsLaid mIsGiven mActs mDone mQueued mCorner mSum mBeyond mAct mMark mSpare mLack mBefore mVia mQueue) sz)) 0 0 (va_A (wM cA a mPosts mThirds mStraight mLeast mIsLaid mIsGiven mActs mDone mQueued mCorner mSum mBeyond mAct mMark mSpare mLack mBefore mVia mQueue) sz) := by
  refine xmet_v (by decide) (Nat.le_of_ble_eq_true rfl) ?_
  intro p e s m args below meth c A ls C hH hl
  have C : XC p s m args meth c cX5_spread 6 RX5 none D cA A := C
  have hl : lv_has ls 6 [(0, .ref (a 0)), (1, .int (J x1)), (2, .int (J x2))] := hl
  unfold wp_M_spread at h
  refine j_iconst C dX5_spread_0 ?_
  refine j_istore_n (lv' := [(3, .int (J 0)), (0, .ref (a 0)), (1, .int (J x1)), (2, .int (J x2))]) C dX5_spread_1 hl (by decide) rfl (fun ls hl => ?_)
  obtain ⟨n_, h⟩ := h
  exact w_M_spread_2 C  n_ 0 mQueued mBefore mVia mQueue h _ _ _ hH (lv_sub hl [1, 2, 3, 0] rfl)
abbrev po_M_wanting (cA : ClassId) (a : Nat → Nat) (mPosts mThirds mStraight mLeast mIsLaid mIsGiven mActs mDone mQueued : Int) (mCorner mSum mBeyond mAct mMark mSpare mLack mBefore mVia mQueue : Nat → Int) (Q : Int → Prop) : Int32 → va_W → Prop := fun r w => ∃ z, r = J z ∧ w = wM cA a mPosts mThirds mStraight mLeast mIsLaid mIsGiven mActs mDone mQueued mCorner mSum mBeyond mAct mMark mSpare mLack mBefore mVia mQueue ∧ Q z
set_option maxRecDepth 4000 in
theorem w_M_wanting_58 {p : Program} {l : Launch} {e : Env} {s : State} {m : MethodId} {args : Array Value} {below : List Frame} {meth : Method} {c : Code} {D : va_G} {cA : ClassId} {A : Nat → Prop} {a : Nat → Nat} {mPosts mThirds mStraight mLeast mIsLaid mIsGiven mActs mDone mQueued : Int} {mCorner mSum mBeyond mAct mMark mSpare mLack mBefore mVia mQueue : Nat → Int} (C : XC p s m args meth c cX5_wanting 4 RX5 (some .int) D cA A) {K2 : Int → Prop} {Q : Int → Prop} {x1 : Int}  (hK2 : ∀ (x2 : Int), K2 x2 → ∀ (H : Heap) (locs : List Loc) (ls : Array Slot), XH D A s (wM cA a mPosts mThirds mStraight mLeast mIsLaid mIsGiven mActs mDone mQueued mCorner mSum mBeyond mAct mMark mSpare mLack mBefore mVia mQueue) H locs → lv_has ls 4 [(0, .ref (a 0)), (1, .int (J x1)), (2, .int (J x2))] → W p l e rm_M_wanting s m args below meth c H locs 0 0 (MQ below (va_Qi (po_M_wanting cA a mPosts mThirds mStraight mLeast mIsLaid mIsGiven mActs mDone mQueued mCorner mSum mBeyond mAct mMark mSpare mLack mBefore mVia mQueue Q) (xB D cA A) A) args s 0 0 A) (F0 m 2 ls [])) : ∀ (x2 : Int) (t0 : Int), wp_M_wanting_58 K2 Q mPosts mSum mLack mBefore x1 x2 t0 → ∀ (H : Heap) (locs : List Loc) (ls : Array Slot), XH D A s (wM cA a mPosts mThirds mStraight mLeast mIsLaid mIsGiven mActs mDone mQueued mCorner mSum mBeyond mAct mMark mSpare mLack mBefore mVia mQueue) H locs → lv_has ls 4 [(0, .ref (a 0)), (1, .int (J x1)), (2, .int (J x2))] → W p l e rm_M_wanting s m args below meth c H locs 0 0 (MQ below (va_Qi (po_M_wanting cA a mPosts mThirds mStraight mLeast mIsLaid mIsGiven mActs mDone mQueued mCorner mSum mBeyond mAct mMark mSpare mLack mBefore mVia mQueue Q) (xB D cA A) A) args s 0 0 A) (F0 m 58 ls [.int (J t0)]) := by
  intro x2 t0 h H locs ls hH hl
  unfold wp_M_wanting_58 at h
  refine j_istore_n (lv' := [(3, .int (J t0)), (0, .ref (a 0)), (1, .int (J x1)), (2, .int (J x2))]) C dX5_wanting_58 hl (by decide) rfl (fun ls hl => ?_)
  refine j_iload_n C dX5_wanting_59 (lv_at hl 0 rfl) ?_
  obtain ⟨g_1, h⟩ := h
  refine j_if_eq C 79 g_1 dX5_wanting_60 (by decide) (fun c_2 => ?_) (fun c_2 => ?_)
  · have h := h.1 c_2
    refine j_iinc (k := 3) (v := x2 + 1) (lv' := [(2, .int (J (x2 + 1))), (3, .int (J t0)), (0, .ref (a 0)), (1, .int (J x1))]) C dX5_wanting_79 hl rfl rfl (by decide) rfl (fun ls hl => ?_)
    refine j_goto C 2 dX5_wanting_82 (by decide) ?_
    exact hK2 (x2 + 1) h _ _ _ hH (lv_sub hl [2, 3, 0] rfl)
  · have h := h.2 c_2
    refine j_aload_n C dX5_wanting_63 (lv_at hl 1 rfl) ?_
    refine xg_X5_before C hH dX5_wanting_64 ?_
    refine j_bipush C (by decide +kernel) dX5_wanting_67 ?_
    refine j_iload_n C dX5_wanting_69 (lv_at hl 3 rfl) ?_
    refine j_iadd C dX5_wanting_70 ?_
    obtain ⟨b_3, h⟩ := h
    refine xa_mBefore C hH b_3 dX5_wanting_71 ?_
    refine j_bipush C (by decide +kernel) dX5_wanting_72 ?_
    obtain ⟨g_4, h⟩ := h
    refine j_icmp_eq C 79 g_4 (by unfold jR; decide) dX5_wanting_74 (by decide) (fun c_5 => ?_) (fun c_5 => ?_)
    · have h := h.1 c_5
      refine j_iinc (k := 3) (v := x2 + 1) (lv' := [(2, .int (J (x2 + 1))), (3, .int (J t0)), (0, .ref (a 0)), (1, .int (J x1))]) C dX5_wanting_79 hl rfl rfl (by decide) rfl (fun ls hl => ?_)
      refine j_goto C 2 dX5_wanting_82 (by decide) ?_
      exact hK2 (x2 + 1) h _ _ _ hH (lv_sub hl [2, 3, 0] rfl)
    · have h := h.2 c_5
      refine j_iload_n C dX5_wanting_77 (lv_at hl 3 rfl) ?_
      exact j_iret C hH ⟨_, rfl, rfl, h⟩ dX5_wanting_78
set_option maxRecDepth 4000 in
theorem w_M_wanting_2 {p : Program} {l : Launch} {e : Env} {s : State} {m : MethodId} {args : Array Value} {below : List Frame} {meth : Method} {c : Code} {D : va_G} {cA : ClassId} {A : Nat → Prop} {a : Nat → Nat} {mPosts mThirds mStraight mLeast mIsLaid mIsGiven mActs mDone mQueued : Int} {mCorner mSum mBeyond mAct mMark mSpare mLack mBefore mVia mQueue : Nat → Int} (C : XC p s m args meth c cX5_wanting 4 RX5 (some .int) D cA A) {Q : Int → Prop} {x1 : Int}  : ∀ (n : Nat) (x2 : Int), wp_M_wanting_2 Q mPosts mSum mLack mBefore x1 n x2 → ∀ (H : Heap) (locs : List Loc) (ls : Array Slot), XH D A s (wM cA a mPosts mThirds mStraight mLeast mIsLaid mIsGiven mActs mDone mQueued mCorner mSum mBeyond mAct mMark mSpare mLack mBefore mVia mQueue) H locs → lv_has ls 4 [(0, .ref (a 0)), (1, .int (J x1)), (2, .int (J x2))] → W p l e rm_M_wanting s m args below meth c H locs 0 0 (MQ below (va_Qi (po_M_wanting cA a mPosts mThirds mStraight mLeast mIsLaid mIsGiven mActs mDone mQueued mCorner mSum mBeyond mAct mMark mSpare mLack mBefore mVia mQueue Q) (xB D cA A) A) args s 0 0 A) (F0 m 2 ls []) := by
  intro n
  induction n with
  | zero => intro x2 h; exact (show False from h).elim
  | succ n hK2 =>
    intro x2 h H locs ls hH hl
    have h : wp_M_wanting_2_b  (wp_M_wanting_2 Q mPosts mSum mLack mBefore x1 n) Q mPosts mSum mLack mBefore x1 x2 := h
    unfold wp_M_wanting_2_b at h
    refine j_iload_n C dX5_wanting_2 (lv_at hl 2 rfl) ?_
    refine j_aload_n C dX5_wanting_3 (lv_at hl 0 rfl) ?_
    refine xg_X5_posts C hH dX5_wanting_4 ?_
    obtain ⟨g_6, h⟩ := h
    obtain ⟨g_7, h⟩ := h
    refine j_icmp_ge C 85 g_6 g_7 dX5_wanting_7 (by decide) (fun c_8 => ?_) (fun c_8 => ?_)
    · have h := h.1 c_8
      refine j_bipush C (by decide +kernel) dX5_wanting_85 ?_
      exact j_iret C hH ⟨_, rfl, rfl, h⟩ dX5_wanting_87
    · have h := h.2 c_8
      refine j_iload_n C dX5_wanting_10 (lv_at hl 1 rfl) ?_
      obtain ⟨g_9, h⟩ := h
      refine j_if_eq C 42 g_9 dX5_wanting_11 (by decide) (fun c_10 => ?_) (fun c_10 => ?_)
      · have h := h.1 c_10
        refine j_aload_n C dX5_wanting_42 (lv_at hl 0 rfl) ?_
        refine xg_X5_sum C hH dX5_wanting_43 ?_
        refine j_iload_n C dX5_wanting_46 (lv_at hl 2 rfl) ?_
        obtain ⟨b_11, h⟩ := h
        refine xa_mSum C hH b_11 dX5_wanting_47 ?_
        refine j_bipush C (by decide +kernel) dX5_wanting_48 ?_
        obtain ⟨g_12, h⟩ := h
        refine j_icmp_ne C 57 g_12 (by unfold jR; decide) dX5_wanting_50 (by decide) (fun c_13 => ?_) (fun c_13 => ?_)
        · have h := h.2 c_13
          refine j_iconst C dX5_wanting_57 ?_
          exact w_M_wanting_58 C hK2 x2 0 h _ _ _ hH (lv_sub hl [0, 1, 2] rfl)
        · have h := h.1 c_13
          refine j_iconst C dX5_wanting_53 ?_
          refine j_goto C 58 dX5_wanting_54 (by decide) ?_
          exact w_M_wanting_58 C hK2 x2 1 h _ _ _ hH (lv_sub hl [0, 1, 2] rfl)
      · have h := h.2 c_10
        refine j_aload_n C dX5_wanting_14 (lv_at hl 0 rfl) ?_
        refine xg_X5_sum C hH dX5_wanting_15 ?_
        refine j_iload_n C dX5_wanting_18 (lv_at hl 2 rfl) ?_
        obtain ⟨b_14, h⟩ := h
        refine xa_mSum C hH b_14 dX5_wanting_19 ?_
        refine j_bipush C (by decide +kernel) dX5_wanting_20 ?_
        obtain ⟨g_15, h⟩ := h
        refine j_icmp_eq C 38 g_15 (by unfold jR; decide) dX5_wanting_22 (by decide) (fun c_16 => ?_) (fun c_16 => ?_)
        · have h := h.1 c_16
          refine j_iconst C dX5_wanting_38 ?_
          refine j_goto C 58 dX5_wanting_39 (by decide) ?_
          exact w_M_wanting_58 C hK2 x2 0 h _ _ _ hH (lv_sub hl [0, 1, 2] rfl)
        · have h := h.2 c_16
          refine j_aload_n C dX5_wanting_25 (lv_at hl 0 rfl) ?_
          refine xg_X5_lack C hH dX5_wanting_26 ?_
          refine j_iload_n C dX5_wanting_29 (lv_at hl 2 rfl) ?_
          refine xa_mLack C hH b_14 dX5_wanting_30 ?_
          obtain ⟨g_17, h⟩ := h
          refine j_if_le C 38 g_17 dX5_wanting_31 (by decide) (fun c_18 => ?_) (fun c_18 => ?_)
          · have h := h.1 c_18
            refine j_iconst C dX5_wanting_38 ?_
            refine j_goto C 58 dX5_wanting_39 (by decide) ?_
            exact w_M_wanting_58 C hK2 x2 0 h _ _ _ hH (lv_sub hl [0, 1, 2] rfl)
          · have h := h.2 c_18
            refine j_iconst C dX5_wanting_34 ?_
            refine j_goto C 58 dX5_wanting_35 (by decide) ?_
            exact w_M_wanting_58 C hK2 x2 1 h _ _ _ hH (lv_sub hl [0, 1, 2] rfl)
set_option maxRecDepth 4000 in
theorem c_M_wanting {l : Launch} {D : va_G} {cA : ClassId} {a : Nat → Nat} {sz : Nat} {mPosts mThirds mStraight mLeast mIsLaid mIsGiven mActs mDone mQueued : Int} {mCorner mSum mBeyond mAct mMark mSpare mLack mBefore mVia mQueue : Nat → Int} {x1 : Int} {Q : Int → Prop} (h : wp_M_wanting x1 mPosts mSum mLack mBefore Q) : Met l yX5_wanting (.code yX5_wanting cX5_wanting 4 (some .int) :: lw_ok) rm_M_wanting (xPre D cA sz [.ref (a 0), .int (J x1)] (wM cA a mPosts mThirds mStraight mLeast mIsLaid mIsGiven mActs mDone mQueued mCorner mSum mBeyond mAct mMark mSpare mLack mBefore mVia mQueue)) (va_Qi (po_M_wanting cA a mPosts mThirds mStraight mLeast mIsLaid mIsGiven mActs mDone mQueued mCorner mSum mBeyond mAct mMark mSpare mLack mBefore mVia mQueue Q) (xB D cA (va_A (wM cA a mPosts mThirds mStraight mLeast mIsLaid mIsGiven mActs mDone mQueued mCorner mSum mBeyond mAct mMark mSpare mLack mBefore mVia mQueue) sz)) (va_A (wM cA a mPosts mThirds mStraight mLeast mIsLaid mIsGiven mActs mDone mQueued mCorner mSum mBeyond mAct mMark mSpare mLack mBefore mVia mQueue) sz)) 0 0 (va_A (wM cA a mPosts mThirds mStraight mLeast mIsLaid mIsGiven mActs mDone mQueued mCorner mSum mBeyond mAct mMark mSpare mLack mBefore mVia mQueue) sz) := by
  refine xmet_i (by decide) (Nat.le_of_ble_eq_true rfl) ?_
  intro p e s m args below meth c A ls C hH hl
  have C : XC p s m args meth c cX5_wanting 4 RX5 (some .int) D cA A := C
  have hl : lv_has ls 4 [(0, .ref (a 0)), (1, .int (J x1))] := hl
  unfold wp_M_wanting at h
  refine j_iconst C dX5_wanting_0 ?_
  refine j_istore_n (lv' := [(2, .int (J 0)), (0, .ref (a 0)), (1, .int (J x1))]) C dX5_wanting_1 hl (by decide) rfl (fun ls hl => ?_)
  obtain ⟨n_, h⟩ := h
  exact w_M_wanting_2 C  n_ 0 h _ _ _ hH (lv_sub hl [1, 2, 0] rfl)
abbrev po_M_wayRoom (cA : ClassId) (a : Nat → Nat) (mPosts mThirds mStraight mLeast mIsLaid mIsGiven mActs mDone mQueued : Int) (mCorner mSum mBeyond mAct mMark mSpare mLack mBefore mVia mQueue : Nat → Int) (Q : Int → Prop) : Int32 → va_W → Prop := fun r w => ∃ z, r = J z ∧ w = wM cA a mPosts mThirds mStraight mLeast mIsLaid mIsGiven mActs mDone mQueued mCorner mSum mBeyond mAct mMark mSpare mLack mBefore mVia mQueue ∧ Q z
set_option maxRecDepth 4000 in
theorem w_M_wayRoom_5 {p : Program} {l : Launch} {e : Env} {s : State} {m : MethodId} {args : Array Value} {below : List Frame} {meth : Method} {c : Code} {D : va_G} {cA : ClassId} {A : Nat → Prop} {a : Nat → Nat} {mPosts mThirds mStraight mLeast mIsLaid mIsGiven mActs mDone mQueued : Int} {mCorner mSum mBeyond mAct mMark mSpare mLack mBefore mVia mQueue : Nat → Int} (C : XC p s m args meth c cX5_wayRoom 5 RX5 (some .int) D cA A) {Q : Int → Prop}  : ∀ (n : Nat) (x3 : Int) (x4 : Int), wp_M_wayRoom_5 Q mBeyond mSpare mBefore mVia n x3 x4 → ∀ (H : Heap) (locs : List Loc) (ls : Array Slot), XH D A s (wM cA a mPosts mThirds mStraight mLeast mIsLaid mIsGiven mActs mDone mQueued mCorner mSum mBeyond mAct mMark mSpare mLack mBefore mVia mQueue) H locs → lv_has ls 5 [(0, .ref (a 0)), (3, .int (J x3)), (4, .int (J x4))] → W p l e rm_M_wayRoom s m args below meth c H locs 0 0 (MQ below (va_Qi (po_M_wayRoom cA a mPosts mThirds mStraight mLeast mIsLaid mIsGiven mActs mDone mQueued mCorner mSum mBeyond mAct mMark mSpare mLack mBefore mVia mQueue Q) (xB D cA A) A) args s 0 0 A) (F0 m 5 ls []) := by
  intro n
  induction n with
  | zero => intro x3 x4 h; exact (show False from h).elim
  | succ n hK5 =>
    intro x3 x4 h H locs ls hH hl
    have h : wp_M_wayRoom_5_b  (wp_M_wayRoom_5 Q mBeyond mSpare mBefore mVia n) Q mBeyond mSpare mBefore mVia  x3 x4 := h
    unfold wp_M_wayRoom_5_b at h
    refine j_aload_n C dX5_wayRoom_5 (lv_at hl 0 rfl) ?_
    refine xg_X5_before C hH dX5_wayRoom_6 ?_
    refine j_iload C dX5_wayRoom_9 (lv_at hl 2 rfl) ?_
    obtain ⟨b_1, h⟩ := h
    refine xa_mBefore C hH b_1 dX5_wayRoom_11 ?_
    obtain ⟨g_2, h⟩ := h
    refine j_if_lt C 63 g_2 dX5_wayRoom_12 (by decide) (fun c_3 => ?_) (fun c_3 => ?_)
    · have h := h.1 c_3
      refine j_iload C dX5_wayRoom_63 (lv_at hl 2 rfl) ?_
      refine j_bipush C (by decide +kernel) dX5_wayRoom_65 ?_
      obtain ⟨g_4, h⟩ := h
      refine j_icmp_ge C 101 g_4 (by unfold jR; decide) dX5_wayRoom_67 (by decide) (fun c_5 => ?_) (fun c_5 => ?_)
      · have h := h.1 c_5
        refine j_iload_n C dX5_wayRoom_101 (lv_at hl 1 rfl) ?_
        exact j_iret C hH ⟨_, rfl, rfl, h⟩ dX5_wayRoom_102
      · have h := h.2 c_5
        refine j_iload_n C dX5_wayRoom_70 (lv_at hl 1 rfl) ?_
        refine j_aload_n C dX5_wayRoom_71 (lv_at hl 0 rfl) ?_
        refine xg_X5_spare C hH dX5_wayRoom_72 ?_
        refine j_iload C dX5_wayRoom_75 (lv_at hl 2 rfl) ?_
        obtain ⟨b_6, h⟩ := h
        refine xa_mSpare C hH b_6 dX5_wayRoom_77 ?_
        obtain ⟨g_7, h⟩ := h
        obtain ⟨g_8, h⟩ := h
        refine j_icmp_le C 101 g_7 g_8 dX5_wayRoom_78 (by decide) (fun c_9 => ?_) (fun c_9 => ?_)
        · have h := h.1 c_9
          refine j_iload_n C dX5_wayRoom_101 (lv_at hl 1 rfl) ?_
          exact j_iret C hH ⟨_, rfl, rfl, h⟩ dX5_wayRoom_102
        · have h := h.2 c_9
          refine j_aload_n C dX5_wayRoom_81 (lv_at hl 0 rfl) ?_
          refine xg_X5_spare C hH dX5_wayRoom_82 ?_
          refine j_iload C dX5_wayRoom_85 (lv_at hl 2 rfl) ?_
          refine xa_mSpare C hH b_6 dX5_wayRoom_87 ?_
          refine j_if_le C 101 g_8 dX5_wayRoom_88 (by decide) (fun c_10 => ?_) (fun c_10 => ?_)
          · have h := h.1 c_10
            refine j_iload_n C dX5_wayRoom_101 (lv_at hl 1 rfl) ?_
            exact j_iret C hH ⟨_, rfl, rfl, h⟩ dX5_wayRoom_102
          · have h := h.2 c_10
            refine j_aload_n C dX5_wayRoom_91 (lv_at hl 0 rfl) ?_
            refine xg_X5_spare C hH dX5_wayRoom_92 ?_
            refine j_iload C dX5_wayRoom_95 (lv_at hl 2 rfl) ?_
            refine xa_mSpare C hH b_6 dX5_wayRoom_97 ?_
            refine j_goto C 102 dX5_wayRoom_98 (by decide) ?_
            exact j_iret C hH ⟨_, rfl, rfl, h⟩ dX5_wayRoom_102
    · have h := h.2 c_3
      refine j_iload C dX5_wayRoom_15 (lv_at hl 2 rfl) ?_
      refine j_bipush C (by decide +kernel) dX5_wayRoom_17 ?_
      obtain ⟨g_11, h⟩ := h
      refine j_icmp_ge C 51 g_11 (by unfold jR; decide) dX5_wayRoom_19 (by decide) (fun c_12 => ?_) (fun c_12 => ?_)
      · have h := h.1 c_12
        refine j_aload_n C dX5_wayRoom_51 (lv_at hl 0 rfl) ?_
        refine xg_X5_before C hH dX5_wayRoom_52 ?_
        refine j_iload C dX5_wayRoom_55 (lv_at hl 2 rfl) ?_
        refine xa_mBefore C hH b_1 dX5_wayRoom_57 ?_
        refine j_istore (lv' := [(4, .int (J (mBefore x4.toNat))), (0, .ref (a 0)), (3, .int (J x3))]) C dX5_wayRoom_58 hl (by decide) rfl (fun ls hl => ?_)
        refine j_goto C 5 dX5_wayRoom_60 (by decide) ?_
        exact hK5 x3 (mBefore x4.toNat) h _ _ _ hH (lv_sub hl [1, 2, 0] rfl)
      · have h := h.2 c_12
        refine j_aload_n C dX5_wayRoom_22 (lv_at hl 0 rfl) ?_
        refine xg_X5_beyond C hH dX5_wayRoom_23 ?_
        refine j_aload_n C dX5_wayRoom_26 (lv_at hl 0 rfl) ?_
        refine xg_X5_via C hH dX5_wayRoom_27 ?_
        refine j_iload C dX5_wayRoom_30 (lv_at hl 2 rfl) ?_
        refine xa_mVia C hH b_1 dX5_wayRoom_32 ?_
        obtain ⟨b_13, h⟩ := h
        refine xa_mBeyond C hH b_13 dX5_wayRoom_33 ?_
        refine j_iload_n C dX5_wayRoom_34 (lv_at hl 1 rfl) ?_
        obtain ⟨g_14, h⟩ := h
        obtain ⟨g_15, h⟩ := h
        refine j_icmp_ge C 51 g_14 g_15 dX5_wayRoom_35 (by decide) (fun c_16 => ?_) (fun c_16 => ?_)
        · have h := h.1 c_16
          refine j_aload_n C dX5_wayRoom_51 (lv_at hl 0 rfl) ?_
          refine xg_X5_before C hH dX5_wayRoom_52 ?_
          refine j_iload C dX5_wayRoom_55 (lv_at hl 2 rfl) ?_
          refine xa_mBefore C hH b_1 dX5_wayRoom_57 ?_
          refine j_istore (lv' := [(4, .int (J (mBefore x4.toNat))), (0, .ref (a 0)), (3, .int (J x3))]) C dX5_wayRoom_58 hl (by decide) rfl (fun ls hl => ?_)
          refine j_goto C 5 dX5_wayRoom_60 (by decide) ?_
          exact hK5 x3 (mBefore x4.toNat) h _ _ _ hH (lv_sub hl [1, 2, 0] rfl)
        · have h := h.2 c_16
          refine j_aload_n C dX5_wayRoom_38 (lv_at hl 0 rfl) ?_
          refine xg_X5_beyond C hH dX5_wayRoom_39 ?_
          refine j_aload_n C dX5_wayRoom_42 (lv_at hl 0 rfl) ?_
          refine xg_X5_via C hH dX5_wayRoom_43 ?_
          refine j_iload C dX5_wayRoom_46 (lv_at hl 2 rfl) ?_
          refine xa_mVia C hH b_1 dX5_wayRoom_48 ?_
          refine xa_mBeyond C hH b_13 dX5_wayRoom_49 ?_
          refine j_istore_n (lv' := [(3, .int (J (mBeyond (mVia x4.toNat).toNat))), (0, .ref (a 0)), (4, .int (J x4))]) C dX5_wayRoom_50 hl (by decide) rfl (fun ls hl => ?_)
          refine j_aload_n C dX5_wayRoom_51 (lv_at hl 1 rfl) ?_
          refine xg_X5_before C hH dX5_wayRoom_52 ?_
          refine j_iload C dX5_wayRoom_55 (lv_at hl 2 rfl) ?_
          refine xa_mBefore C hH b_1 dX5_wayRoom_57 ?_
          refine j_istore (lv' := [(4, .int (J (mBefore x4.toNat))), (3, .int (J (mBeyond (mVia x4.toNat).toNat))), (0, .ref (a 0))]) C dX5_wayRoom_58 hl (by decide) rfl (fun ls hl => ?_)
          refine j_goto C 5 dX5_wayRoom_60 (by decide) ?_
          exact hK5 (mBeyond (mVia x4.toNat).toNat) (mBefore x4.toNat) h _ _ _ hH (lv_sub hl [2, 1, 0] rfl)
set_option maxRecDepth 4000 in
theorem c_M_wayRoom {l : Launch} {D : va_G} {cA : ClassId} {a : Nat → Nat} {sz : Nat} {mPosts mThirds mStraight mLeast mIsLaid mIsGiven mActs mDone mQueued : Int} {mCorner mSum mBeyond mAct mMark mSpare mLack mBefore mVia mQueue : Nat → Int} {x1 x2 : Int} {Q : Int → Prop} (h : wp_M_wayRoom x1 x2 mBeyond mSpare mBefore mVia Q) : Met l yX5_wayRoom (.code yX5_wayRoom cX5_wayRoom 5 (some .int) :: lw_ok) rm_M_wayRoom (xPre D cA sz [.ref (a 0), .int (J x1), .int (J x2)] (wM cA a mPosts mThirds mStraight mLeast mIsLaid mIsGiven mActs mDone mQueued mCorner mSum mBeyond mAct mMark mSpare mLack mBefore mVia mQueue)) (va_Qi (po_M_wayRoom cA a mPosts mThirds mStraight mLeast mIsLaid mIsGiven mActs mDone mQueued mCorner mSum mBeyond mAct mMark mSpare mLack mBefore mVia mQueue Q) (xB D cA (va_A (wM cA a mPosts mThirds mStraight mLeast mIsLaid mIsGiven mActs mDone mQueued mCorner mSum mBeyond mAct mMark mSpare mLack mBefore mVia mQueue) sz)) (va_A (wM cA a mPosts mThirds mStraight mLeast mIsLaid mIsGiven mActs mDone mQueued mCorner mSum mBeyond mAct mMark mSpare mLack mBefore mVia mQueue) sz)) 0 0 (va_A (wM cA a mPosts mThirds mStraight mLeast mIsLaid mIsGiven mActs mDone mQueued mCorner mSum mBeyond mAct mMark mSpare mLack mBefore mVia mQueue) sz) := by
  refine xmet_i (by decide) (Nat.le_of_ble_eq_true rfl) ?_
  intro p e s m args below meth c A ls C hH hl
  have C : XC p s m args meth c cX5_wayRoom 5 RX5 (some .int) D cA A := C
  have hl : lv_has ls 5 [(0, .ref (a 0)), (1, .int (J x1)), (2, .int (J x2))] := hl
  unfold wp_M_wayRoom at h
  refine j_iload_n C dX5_wayRoom_0 (lv_at hl 2 rfl) ?_
  refine j_istore_n (lv' := [(3, .int (J x2)), (0, .ref (a 0)), (1, .int (J x1)), (2, .int (J x2))]) C dX5_wayRoom_1 hl (by decide) rfl (fun ls hl => ?_)
  refine j_iload_n C dX5_wayRoom_2 (lv_at hl 2 rfl) ?_
  refine j_istore (lv' := [(4, .int (J x1)), (3, .int (J x2)), (0, .ref (a 0)), (1, .int (J x1)), (2, .int (J x2))]) C dX5_wayRoom_3 hl (by decide) rfl (fun ls hl => ?_)
  obtain ⟨n_, h⟩ := h
  exact w_M_wayRoom_5 C  n_ x2 x1 h _ _ _ hH (lv_sub hl [2, 1, 0] rfl)

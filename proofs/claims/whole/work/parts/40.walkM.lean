abbrev po_M_begin (cA : ClassId) (a : Nat → Nat) (mPosts mStraight mLeast mIsGiven mQueued : Int) (mCorner mBeyond mAct mMark mSpare mLack mBefore mVia mQueue : Nat → Int) (Q : Int → Int → Int → Int → (Nat → Int) → Prop) : va_W → Prop := fun w => ∃ mThirds' mIsLaid' mActs' mDone' mSum', w = wM cA a mPosts mThirds' mStraight mLeast mIsLaid' mIsGiven mActs' mDone' mQueued mCorner mSum' mBeyond mAct mMark mSpare mLack mBefore mVia mQueue ∧ Q mThirds' mIsLaid' mActs' mDone' mSum'
set_option maxRecDepth 4000 in
theorem w_M_begin_7 {p : Program} {l : Launch} {e : Env} {s : State} {m : MethodId} {args : Array Value} {below : List Frame} {meth : Method} {c : Code} {D : va_G} {cA : ClassId} {A : Nat → Prop} {a : Nat → Nat} {mPosts mThirds mStraight mLeast mIsLaid mIsGiven mActs mDone mQueued : Int} {mCorner mBeyond mAct mMark mSpare mLack mBefore mVia mQueue : Nat → Int} (C : XC p s m args meth c cX5_begin 2 RX5 none D cA A) {Q : Int → Int → Int → Int → (Nat → Int) → Prop}  : ∀ (n : Nat) (x1 : Int) (mSum : Nat → Int), wp_M_begin_7 Q mThirds mIsLaid mActs mDone n x1 mSum → ∀ (H : Heap) (locs : List Loc) (ls : Array Slot), XH D A s (wM cA a mPosts mThirds mStraight mLeast mIsLaid mIsGiven mActs mDone mQueued mCorner mSum mBeyond mAct mMark mSpare mLack mBefore mVia mQueue) H locs → lv_has ls 2 [(0, .ref (a 0)), (1, .int (J x1))] → W p l e rm_M_begin s m args below meth c H locs 0 0 (MQ below (va_Qv (po_M_begin cA a mPosts mStraight mLeast mIsGiven mQueued mCorner mBeyond mAct mMark mSpare mLack mBefore mVia mQueue Q) (xB D cA A) A) args s 0 0 A) (F0 m 7 ls []) := by
  intro n
  induction n with
  | zero => intro x1 mSum h; exact (show False from h).elim
  | succ n hK7 =>
    intro x1 mSum h H locs ls hH hl
    have h : wp_M_begin_7_b  (wp_M_begin_7 Q mThirds mIsLaid mActs mDone n) Q  mThirds mIsLaid mActs mDone x1 mSum := h
    unfold wp_M_begin_7_b at h
    refine j_iload_n C dX5_begin_7 (lv_at hl 1 rfl) ?_
    refine j_bipush C (by decide +kernel) dX5_begin_8 ?_
    obtain ⟨g_1, h⟩ := h
    refine j_icmp_ge C 27 g_1 (by unfold jR; decide) dX5_begin_10 (by decide) (fun c_2 => ?_) (fun c_2 => ?_)
    · have h := h.1 c_2
      refine j_aload_n C dX5_begin_27 (lv_at hl 0 rfl) ?_
      refine j_iconst C dX5_begin_28 ?_
      refine xp_X5_acts C hH dX5_begin_29 (fun H locs hH => ?_)
      refine j_aload_n C dX5_begin_32 (lv_at hl 0 rfl) ?_
      refine j_iconst C dX5_begin_33 ?_
      refine xp_X5_done C hH dX5_begin_34 (fun H locs hH => ?_)
      refine j_aload_n C dX5_begin_37 (lv_at hl 0 rfl) ?_
      refine j_iconst C dX5_begin_38 ?_
      refine xp_X5_isLaid C hH (Or.inl rfl) dX5_begin_39 (fun H locs hH => ?_)
      exact j_vret C hH ⟨_, _, _, _, _, rfl, h⟩ dX5_begin_42
    · have h := h.2 c_2
      refine j_aload_n C dX5_begin_13 (lv_at hl 0 rfl) ?_
      refine xg_X5_sum C hH dX5_begin_14 ?_
      refine j_iload_n C dX5_begin_17 (lv_at hl 1 rfl) ?_
      refine j_bipush C (by decide +kernel) dX5_begin_18 ?_
      obtain ⟨b_3, h⟩ := h
      refine xs_mSum C hH b_3 dX5_begin_20 (fun mSum_4 e_mSum_4 H locs hH => ?_)
      have h := h mSum_4 e_mSum_4
      refine j_iinc (k := 1) (v := x1 + 1) (lv' := [(1, .int (J (x1 + 1))), (0, .ref (a 0))]) C dX5_begin_21 hl rfl rfl (by decide) rfl (fun ls hl => ?_)
      refine j_goto C 7 dX5_begin_24 (by decide) ?_
      exact hK7 (x1 + 1) mSum_4 h _ _ _ hH (lv_sub hl [1, 0] rfl)
set_option maxRecDepth 4000 in
theorem c_M_begin {l : Launch} {D : va_G} {cA : ClassId} {a : Nat → Nat} {sz : Nat} {mPosts mThirds mStraight mLeast mIsLaid mIsGiven mActs mDone mQueued : Int} {mCorner mSum mBeyond mAct mMark mSpare mLack mBefore mVia mQueue : Nat → Int} {Q : Int → Int → Int → Int → (Nat → Int) → Prop} (h : wp_M_begin  mThirds mIsLaid mActs mDone mSum Q) : Met l yX5_begin (.code yX5_begin cX5_begin 2 none :: lw_ok) rm_M_begin (xPre D cA sz [.ref (a 0)] (wM cA a mPosts mThirds mStraight mLeast mIsLaid mIsGiven mActs mDone mQueued mCorner mSum mBeyond mAct mMark mSpare mLack mBefore mVia mQueue)) (va_Qv (po_M_begin cA a mPosts mStraight mLeast mIsGiven mQueued mCorner mBeyond mAct mMark mSpare mLack mBefore mVia mQueue Q) (xB D cA (va_A (wM cA a mPosts mThirds mStraight mLeast mIsLaid mIsGiven mActs mDone mQueued mCorner mSum mBeyond mAct mMark mSpare mLack mBefore mVia mQueue) sz)) (va_A (wM cA a mPosts mThirds mStraight mLeast mIsLaid mIsGiven mActs mDone mQueued mCorner mSum mBeyond mAct mMark mSpare mLack mBefore mVia mQueue) sz)) 0 0 (va_A (wM cA a mPosts mThirds mStraight mLeast mIsLaid mIsGiven mActs mDone mQueued mCorner mSum mBeyond mAct mMark mSpare mLack mBefore mVia mQueue) sz) := by
  refine xmet_v (by decide) (Nat.le_of_ble_eq_true rfl) ?_
  intro p e s m args below meth c A ls C hH hl
  have C : XC p s m args meth c cX5_begin 2 RX5 none D cA A := C
  have hl : lv_has ls 2 [(0, .ref (a 0))] := hl
  unfold wp_M_begin at h
  refine j_aload_n C dX5_begin_0 (lv_at hl 0 rfl) ?_
  refine j_iconst C dX5_begin_1 ?_
  refine xp_X5_thirds C hH dX5_begin_2 (fun H locs hH => ?_)
  refine j_iconst C dX5_begin_5 ?_
  refine j_istore_n (lv' := [(1, .int (J 0)), (0, .ref (a 0))]) C dX5_begin_6 hl (by decide) rfl (fun ls hl => ?_)
  obtain ⟨n_, h⟩ := h
  exact w_M_begin_7 C  n_ 0 mSum h _ _ _ hH (lv_sub hl [1, 0] rfl)
abbrev po_M_isPost (cA : ClassId) (a : Nat → Nat) (mPosts mThirds mStraight mLeast mIsLaid mIsGiven mActs mDone mQueued : Int) (mCorner mSum mBeyond mAct mMark mSpare mLack mBefore mVia mQueue : Nat → Int) (Q : Int → Prop) : Int32 → va_W → Prop := fun r w => ∃ z, r = J z ∧ w = wM cA a mPosts mThirds mStraight mLeast mIsLaid mIsGiven mActs mDone mQueued mCorner mSum mBeyond mAct mMark mSpare mLack mBefore mVia mQueue ∧ Q z
set_option maxRecDepth 4000 in
theorem c_M_isPost {l : Launch} {D : va_G} {cA : ClassId} {a : Nat → Nat} {sz : Nat} {mPosts mThirds mStraight mLeast mIsLaid mIsGiven mActs mDone mQueued : Int} {mCorner mSum mBeyond mAct mMark mSpare mLack mBefore mVia mQueue : Nat → Int} {x1 : Int} {Q : Int → Prop} (h : wp_M_isPost x1 mPosts Q) : Met l yX5_isPost (.code yX5_isPost cX5_isPost 2 (some .boolean) :: lw_ok) rm_M_isPost (xPre D cA sz [.ref (a 0), .int (J x1)] (wM cA a mPosts mThirds mStraight mLeast mIsLaid mIsGiven mActs mDone mQueued mCorner mSum mBeyond mAct mMark mSpare mLack mBefore mVia mQueue)) (va_Qi (po_M_isPost cA a mPosts mThirds mStraight mLeast mIsLaid mIsGiven mActs mDone mQueued mCorner mSum mBeyond mAct mMark mSpare mLack mBefore mVia mQueue Q) (xB D cA (va_A (wM cA a mPosts mThirds mStraight mLeast mIsLaid mIsGiven mActs mDone mQueued mCorner mSum mBeyond mAct mMark mSpare mLack mBefore mVia mQueue) sz)) (va_A (wM cA a mPosts mThirds mStraight mLeast mIsLaid mIsGiven mActs mDone mQueued mCorner mSum mBeyond mAct mMark mSpare mLack mBefore mVia mQueue) sz)) 0 0 (va_A (wM cA a mPosts mThirds mStraight mLeast mIsLaid mIsGiven mActs mDone mQueued mCorner mSum mBeyond mAct mMark mSpare mLack mBefore mVia mQueue) sz) := by
  refine xmet_i (by decide) (Nat.le_of_ble_eq_true rfl) ?_
  intro p e s m args below meth c A ls C hH hl
  have C : XC p s m args meth c cX5_isPost 2 RX5 (some .boolean) D cA A := C
  have hl : lv_has ls 2 [(0, .ref (a 0)), (1, .int (J x1))] := hl
  unfold wp_M_isPost at h
  refine j_iload_n C dX5_isPost_0 (lv_at hl 1 rfl) ?_
  refine j_iconst C dX5_isPost_1 ?_
  refine j_aload_n C dX5_isPost_2 (lv_at hl 0 rfl) ?_
  refine xg_X5_posts C hH dX5_isPost_3 ?_
  refine j_iconst C dX5_isPost_6 ?_
  refine j_isub C dX5_isPost_7 ?_
  refine xcallS_i (As := [.int (J x1), .int (J 0), .int (J (mPosts - 1))]) (rest := []) C hH (fun sz => c_M_in h) xl_X5_66 ⟨rfl, rfl⟩ ⟨Nat.le_of_ble_eq_true rfl, Nat.le_of_ble_eq_true rfl⟩ hl.1 rfl rfl (Nat.le_of_ble_eq_true rfl) dX5_isPost_8 (fun r_ w_ H locs hw hH => ?_)
  obtain ⟨z_1, rfl, rfl, h⟩ := hw
  obtain ⟨hz, h⟩ := h
  exact j_zret C hH hz ⟨_, rfl, rfl, h⟩ dX5_isPost_11
abbrev po_M_arePair (cA : ClassId) (a : Nat → Nat) (mPosts mThirds mStraight mLeast mIsLaid mIsGiven mActs mDone mQueued : Int) (mCorner mSum mBeyond mAct mMark mSpare mLack mBefore mVia mQueue : Nat → Int) (Q : Int → Prop) : Int32 → va_W → Prop := fun r w => ∃ z, r = J z ∧ w = wM cA a mPosts mThirds mStraight mLeast mIsLaid mIsGiven mActs mDone mQueued mCorner mSum mBeyond mAct mMark mSpare mLack mBefore mVia mQueue ∧ Q z
set_option maxRecDepth 4000 in
theorem c_M_arePair {l : Launch} {D : va_G} {cA : ClassId} {a : Nat → Nat} {sz : Nat} {mPosts mThirds mStraight mLeast mIsLaid mIsGiven mActs mDone mQueued : Int} {mCorner mSum mBeyond mAct mMark mSpare mLack mBefore mVia mQueue : Nat → Int} {x1 x2 : Int} {Q : Int → Prop} (h : wp_M_arePair x1 x2 mPosts Q) : Met l yX5_arePair (.code yX5_arePair cX5_arePair 3 (some .boolean) :: lw_ok) rm_M_arePair (xPre D cA sz [.ref (a 0), .int (J x1), .int (J x2)] (wM cA a mPosts mThirds mStraight mLeast mIsLaid mIsGiven mActs mDone mQueued mCorner mSum mBeyond mAct mMark mSpare mLack mBefore mVia mQueue)) (va_Qi (po_M_arePair cA a mPosts mThirds mStraight mLeast mIsLaid mIsGiven mActs mDone mQueued mCorner mSum mBeyond mAct mMark mSpare mLack mBefore mVia mQueue Q) (xB D cA (va_A (wM cA a mPosts mThirds mStraight mLeast mIsLaid mIsGiven mActs mDone mQueued mCorner mSum mBeyond mAct mMark mSpare mLack mBefore mVia mQueue) sz)) (va_A (wM cA a mPosts mThirds mStraight mLeast mIsLaid mIsGiven mActs mDone mQueued mCorner mSum mBeyond mAct mMark mSpare mLack mBefore mVia mQueue) sz)) 0 0 (va_A (wM cA a mPosts mThirds mStraight mLeast mIsLaid mIsGiven mActs mDone mQueued mCorner mSum mBeyond mAct mMark mSpare mLack mBefore mVia mQueue) sz) := by
  refine xmet_i (by decide) (Nat.le_of_ble_eq_true rfl) ?_
  intro p e s m args below meth c A ls C hH hl
  have C : XC p s m args meth c cX5_arePair 3 RX5 (some .boolean) D cA A := C
  have hl : lv_has ls 3 [(0, .ref (a 0)), (1, .int (J x1)), (2, .int (J x2))] := hl
  unfold wp_M_arePair at h
  refine j_aload_n C dX5_arePair_0 (lv_at hl 0 rfl) ?_
  refine j_iload_n C dX5_arePair_1 (lv_at hl 1 rfl) ?_
  refine xcallV_i (As := [.int (J x1)]) (rest := []) (q0 := 0) C hH (fun sz => c_M_isPost h) xl_X5_70 rfl rfl ⟨rfl, rfl⟩ ⟨Nat.le_of_ble_eq_true rfl, Nat.le_of_ble_eq_true rfl⟩ hl.1 rfl rfl (Nat.le_of_ble_eq_true rfl) dX5_arePair_2 (fun r_ w_ H locs hw hH => ?_)
  obtain ⟨z_1, rfl, rfl, h⟩ := hw
  obtain ⟨g_2, h⟩ := h
  refine j_if_eq C 25 g_2 dX5_arePair_5 (by decide) (fun c_3 => ?_) (fun c_3 => ?_)
  · have h := h.1 c_3
    refine j_iconst C dX5_arePair_25 ?_
    exact j_zret C hH (Or.inl rfl) ⟨_, rfl, rfl, h⟩ dX5_arePair_26
  · have h := h.2 c_3
    refine j_aload_n C dX5_arePair_8 (lv_at hl 0 rfl) ?_
    refine j_iload_n C dX5_arePair_9 (lv_at hl 2 rfl) ?_
    refine xcallV_i (As := [.int (J x2)]) (rest := []) (q0 := 0) C hH (fun sz => c_M_isPost h) xl_X5_70 rfl rfl ⟨rfl, rfl⟩ ⟨Nat.le_of_ble_eq_true rfl, Nat.le_of_ble_eq_true rfl⟩ hl.1 rfl rfl (Nat.le_of_ble_eq_true rfl) dX5_arePair_10 (fun r_ w_ H locs hw hH => ?_)
    obtain ⟨z_4, rfl, rfl, h⟩ := hw
    obtain ⟨g_5, h⟩ := h
    refine j_if_eq C 25 g_5 dX5_arePair_13 (by decide) (fun c_6 => ?_) (fun c_6 => ?_)
    · have h := h.1 c_6
      refine j_iconst C dX5_arePair_25 ?_
      exact j_zret C hH (Or.inl rfl) ⟨_, rfl, rfl, h⟩ dX5_arePair_26
    · have h := h.2 c_6
      refine j_iload_n C dX5_arePair_16 (lv_at hl 1 rfl) ?_
      refine j_iload_n C dX5_arePair_17 (lv_at hl 2 rfl) ?_
      obtain ⟨g_7, h⟩ := h
      obtain ⟨g_8, h⟩ := h
      refine j_icmp_eq C 25 g_7 g_8 dX5_arePair_18 (by decide) (fun c_9 => ?_) (fun c_9 => ?_)
      · have h := h.1 c_9
        refine j_iconst C dX5_arePair_25 ?_
        exact j_zret C hH (Or.inl rfl) ⟨_, rfl, rfl, h⟩ dX5_arePair_26
      · have h := h.2 c_9
        refine j_iconst C dX5_arePair_21 ?_
        refine j_goto C 26 dX5_arePair_22 (by decide) ?_
        exact j_zret C hH (Or.inr rfl) ⟨_, rfl, rfl, h⟩ dX5_arePair_26
abbrev po_M_posts (cA : ClassId) (a : Nat → Nat) (mStraight mLeast mIsGiven mQueued : Int) (mCorner mBeyond mAct mMark mSpare mLack mBefore mVia mQueue : Nat → Int) (Q : Int → Int → Int → Int → Int → Int → (Nat → Int) → Prop) : Int32 → va_W → Prop := fun r w => ∃ z mPosts' mThirds' mIsLaid' mActs' mDone' mSum', r = J z ∧ w = wM cA a mPosts' mThirds' mStraight mLeast mIsLaid' mIsGiven mActs' mDone' mQueued mCorner mSum' mBeyond mAct mMark mSpare mLack mBefore mVia mQueue ∧ Q z mPosts' mThirds' mIsLaid' mActs' mDone' mSum'
set_option maxRecDepth 4000 in
theorem c_M_posts {l : Launch} {D : va_G} {cA : ClassId} {a : Nat → Nat} {sz : Nat} {mPosts mThirds mStraight mLeast mIsLaid mIsGiven mActs mDone mQueued : Int} {mCorner mSum mBeyond mAct mMark mSpare mLack mBefore mVia mQueue : Nat → Int} {x1 : Int} {Q : Int → Int → Int → Int → Int → Int → (Nat → Int) → Prop} (h : wp_M_posts x1 mPosts mThirds mIsLaid mActs mDone mSum Q) : Met l yX5_posts (.code yX5_posts cX5_posts 3 (some .int) :: lw_ok) rm_M_posts (xPre D cA sz [.ref (a 0), .int (J x1)] (wM cA a mPosts mThirds mStraight mLeast mIsLaid mIsGiven mActs mDone mQueued mCorner mSum mBeyond mAct mMark mSpare mLack mBefore mVia mQueue)) (va_Qi (po_M_posts cA a mStraight mLeast mIsGiven mQueued mCorner mBeyond mAct mMark mSpare mLack mBefore mVia mQueue Q) (xB D cA (va_A (wM cA a mPosts mThirds mStraight mLeast mIsLaid mIsGiven mActs mDone mQueued mCorner mSum mBeyond mAct mMark mSpare mLack mBefore mVia mQueue) sz)) (va_A (wM cA a mPosts mThirds mStraight mLeast mIsLaid mIsGiven mActs mDone mQueued mCorner mSum mBeyond mAct mMark mSpare mLack mBefore mVia mQueue) sz)) 0 0 (va_A (wM cA a mPosts mThirds mStraight mLeast mIsLaid mIsGiven mActs mDone mQueued mCorner mSum mBeyond mAct mMark mSpare mLack mBefore mVia mQueue) sz) := by
  refine xmet_i (by decide) (Nat.le_of_ble_eq_true rfl) ?_
  intro p e s m args below meth c A ls C hH hl
  have C : XC p s m args meth c cX5_posts 3 RX5 (some .int) D cA A := C
  have hl : lv_has ls 3 [(0, .ref (a 0)), (1, .int (J x1))] := hl
  unfold wp_M_posts at h
  refine j_iload_n C dX5_posts_0 (lv_at hl 1 rfl) ?_
  refine j_iconst C dX5_posts_1 ?_
  refine j_bipush C (by decide +kernel) dX5_posts_2 ?_
  refine xcallS_i (As := [.int (J x1), .int (J 3), .int (J 9)]) (rest := []) C hH (fun sz => c_M_in h) xl_X5_66 ⟨rfl, rfl⟩ ⟨Nat.le_of_ble_eq_true rfl, Nat.le_of_ble_eq_true rfl⟩ hl.1 rfl rfl (Nat.le_of_ble_eq_true rfl) dX5_posts_4 (fun r_ w_ H locs hw hH => ?_)
  obtain ⟨z_1, rfl, rfl, h⟩ := hw
  obtain ⟨g_2, h⟩ := h
  refine j_if_ne C 13 g_2 dX5_posts_7 (by decide) (fun c_3 => ?_) (fun c_3 => ?_)
  · have h := h.2 c_3
    refine j_aload_n C dX5_posts_13 (lv_at hl 0 rfl) ?_
    refine xg_X5_posts C hH dX5_posts_14 ?_
    refine j_istore_n (lv' := [(2, .int (J mPosts)), (0, .ref (a 0)), (1, .int (J x1))]) C dX5_posts_17 hl (by decide) rfl (fun ls hl => ?_)
    refine j_aload_n C dX5_posts_18 (lv_at hl 1 rfl) ?_
    refine j_iload_n C dX5_posts_19 (lv_at hl 2 rfl) ?_
    refine xp_X5_posts C hH dX5_posts_20 (fun H locs hH => ?_)
    refine j_aload_n C dX5_posts_23 (lv_at hl 1 rfl) ?_
    refine xcallV_v (As := []) (rest := []) (q0 := 0) C hH (fun sz => c_M_begin h) xl_X5_50 rfl rfl ⟨rfl, rfl⟩ ⟨Nat.le_of_ble_eq_true rfl, Nat.le_of_ble_eq_true rfl⟩ hl.1 rfl rfl (Nat.le_of_ble_eq_true rfl) dX5_posts_24 (fun w_ H locs hw hH => ?_)
    obtain ⟨mThirds_4, mIsLaid_5, mActs_6, mDone_7, mSum_8, rfl, h⟩ := hw
    refine j_iload_n C dX5_posts_27 (lv_at hl 0 rfl) ?_
    exact j_iret C hH ⟨_, _, _, _, _, _, _, rfl, rfl, h⟩ dX5_posts_28
  · have h := h.1 c_3
    refine j_bipush C (by decide +kernel) dX5_posts_10 ?_
    exact j_iret C hH ⟨_, _, _, _, _, _, _, rfl, rfl, h⟩ dX5_posts_12
abbrev po_M_arrowOf (cA : ClassId) (a : Nat → Nat) (mPosts mThirds mStraight mLeast mIsLaid mIsGiven mActs mDone mQueued : Int) (mCorner mSum mBeyond mAct mMark mSpare mLack mBefore mVia mQueue : Nat → Int) (Q : Int → Prop) : Int32 → va_W → Prop := fun r w => ∃ z, r = J z ∧ w = wM cA a mPosts mThirds mStraight mLeast mIsLaid mIsGiven mActs mDone mQueued mCorner mSum mBeyond mAct mMark mSpare mLack mBefore mVia mQueue ∧ Q z
set_option maxRecDepth 4000 in
theorem w_M_arrowOf_2 {p : Program} {l : Launch} {e : Env} {s : State} {m : MethodId} {args : Array Value} {below : List Frame} {meth : Method} {c : Code} {D : va_G} {cA : ClassId} {A : Nat → Prop} {a : Nat → Nat} {mPosts mThirds mStraight mLeast mIsLaid mIsGiven mActs mDone mQueued : Int} {mCorner mSum mBeyond mAct mMark mSpare mLack mBefore mVia mQueue : Nat → Int} (C : XC p s m args meth c cX5_arrowOf 4 RX5 (some .int) D cA A) {Q : Int → Prop} {x1 : Int} {x2 : Int}  : ∀ (n : Nat) (x3 : Int), wp_M_arrowOf_2 Q mThirds mCorner x1 x2 n x3 → ∀ (H : Heap) (locs : List Loc) (ls : Array Slot), XH D A s (wM cA a mPosts mThirds mStraight mLeast mIsLaid mIsGiven mActs mDone mQueued mCorner mSum mBeyond mAct mMark mSpare mLack mBefore mVia mQueue) H locs → lv_has ls 4 [(0, .ref (a 0)), (1, .int (J x1)), (2, .int (J x2)), (3, .int (J x3))] → W p l e rm_M_arrowOf s m args below meth c H locs 0 0 (MQ below (va_Qi (po_M_arrowOf cA a mPosts mThirds mStraight mLeast mIsLaid mIsGiven mActs mDone mQueued mCorner mSum mBeyond mAct mMark mSpare mLack mBefore mVia mQueue Q) (xB D cA A) A) args s 0 0 A) (F0 m 2 ls []) := by
  intro n
  induction n with
  | zero => intro x3 h; exact (show False from h).elim
  | succ n hK2 =>
    intro x3 h H locs ls hH hl
    have h : wp_M_arrowOf_2_b  (wp_M_arrowOf_2 Q mThirds mCorner x1 x2 n) Q mThirds mCorner x1 x2 x3 := h
    unfold wp_M_arrowOf_2_b at h
    refine j_iload_n C dX5_arrowOf_2 (lv_at hl 3 rfl) ?_
    refine j_iconst C dX5_arrowOf_3 ?_
    refine j_aload_n C dX5_arrowOf_4 (lv_at hl 0 rfl) ?_
    refine xg_X5_thirds C hH dX5_arrowOf_5 ?_
    refine j_imul C dX5_arrowOf_8 ?_
    obtain ⟨g_1, h⟩ := h
    obtain ⟨g_2, h⟩ := h
    refine j_icmp_ge C 52 g_1 g_2 dX5_arrowOf_9 (by decide) (fun c_3 => ?_) (fun c_3 => ?_)
    · have h := h.1 c_3
      refine j_bipush C (by decide +kernel) dX5_arrowOf_52 ?_
      exact j_iret C hH ⟨_, rfl, rfl, h⟩ dX5_arrowOf_54
    · have h := h.2 c_3
      refine j_aload_n C dX5_arrowOf_12 (lv_at hl 0 rfl) ?_
      refine xg_X5_corner C hH dX5_arrowOf_13 ?_
      refine j_iload_n C dX5_arrowOf_16 (lv_at hl 3 rfl) ?_
      obtain ⟨b_4, h⟩ := h
      refine xa_mCorner C hH b_4 dX5_arrowOf_17 ?_
      refine j_iload_n C dX5_arrowOf_18 (lv_at hl 1 rfl) ?_
      obtain ⟨g_5, h⟩ := h
      obtain ⟨g_6, h⟩ := h
      refine j_icmp_ne C 46 g_5 g_6 dX5_arrowOf_19 (by decide) (fun c_7 => ?_) (fun c_7 => ?_)
      · have h := h.2 c_7
        refine j_iinc (k := 3) (v := x3 + 1) (lv' := [(3, .int (J (x3 + 1))), (0, .ref (a 0)), (1, .int (J x1)), (2, .int (J x2))]) C dX5_arrowOf_46 hl rfl rfl (by decide) rfl (fun ls hl => ?_)
        refine j_goto C 2 dX5_arrowOf_49 (by decide) ?_
        exact hK2 (x3 + 1) h _ _ _ hH (lv_sub hl [1, 2, 3, 0] rfl)
      · have h := h.1 c_7
        refine j_aload_n C dX5_arrowOf_22 (lv_at hl 0 rfl) ?_
        refine xg_X5_corner C hH dX5_arrowOf_23 ?_
        refine j_iload_n C dX5_arrowOf_26 (lv_at hl 3 rfl) ?_
        refine j_iconst C dX5_arrowOf_27 ?_
        refine j_idiv C (by decide +kernel) dX5_arrowOf_28 ?_
        refine j_iconst C dX5_arrowOf_29 ?_
        refine j_imul C dX5_arrowOf_30 ?_
        refine j_iload_n C dX5_arrowOf_31 (lv_at hl 3 rfl) ?_
        refine j_iconst C dX5_arrowOf_32 ?_
        refine j_iadd C dX5_arrowOf_33 ?_
        refine j_iconst C dX5_arrowOf_34 ?_
        refine j_irem C (by decide +kernel) dX5_arrowOf_35 ?_
        refine j_iadd C dX5_arrowOf_36 ?_
        obtain ⟨b_8, h⟩ := h
        refine xa_mCorner C hH b_8 dX5_arrowOf_37 ?_
        refine j_iload_n C dX5_arrowOf_38 (lv_at hl 2 rfl) ?_
        obtain ⟨g_9, h⟩ := h
        obtain ⟨g_10, h⟩ := h
        refine j_icmp_ne C 46 g_9 g_10 dX5_arrowOf_39 (by decide) (fun c_11 => ?_) (fun c_11 => ?_)
        · have h := h.2 c_11
          refine j_iinc (k := 3) (v := x3 + 1) (lv' := [(3, .int (J (x3 + 1))), (0, .ref (a 0)), (1, .int (J x1)), (2, .int (J x2))]) C dX5_arrowOf_46 hl rfl rfl (by decide) rfl (fun ls hl => ?_)
          refine j_goto C 2 dX5_arrowOf_49 (by decide) ?_
          exact hK2 (x3 + 1) h _ _ _ hH (lv_sub hl [1, 2, 3, 0] rfl)
        · have h := h.1 c_11
          refine j_iload_n C dX5_arrowOf_42 (lv_at hl 3 rfl) ?_
          refine j_iconst C dX5_arrowOf_43 ?_
          refine j_idiv C (by decide +kernel) dX5_arrowOf_44 ?_
          exact j_iret C hH ⟨_, rfl, rfl, h⟩ dX5_arrowOf_45
set_option maxRecDepth 4000 in
theorem c_M_arrowOf {l : Launch} {D : va_G} {cA : ClassId} {a : Nat → Nat} {sz : Nat} {mPosts mThirds mStraight mLeast mIsLaid mIsGiven mActs mDone mQueued : Int} {mCorner mSum mBeyond mAct mMark mSpare mLack mBefore mVia mQueue : Nat → Int} {x1 x2 : Int} {Q : Int → Prop} (h : wp_M_arrowOf x1 x2 mThirds mCorner Q) : Met l yX5_arrowOf (.code yX5_arrowOf cX5_arrowOf 4 (some .int) :: lw_ok) rm_M_arrowOf (xPre D cA sz [.ref (a 0), .int (J x1), .int (J x2)] (wM cA a mPosts mThirds mStraight mLeast mIsLaid mIsGiven mActs mDone mQueued mCorner mSum mBeyond mAct mMark mSpare mLack mBefore mVia mQueue)) (va_Qi (po_M_arrowOf cA a mPosts mThirds mStraight mLeast mIsLaid mIsGiven mActs mDone mQueued mCorner mSum mBeyond mAct mMark mSpare mLack mBefore mVia mQueue Q) (xB D cA (va_A (wM cA a mPosts mThirds mStraight mLeast mIsLaid mIsGiven mActs mDone mQueued mCorner mSum mBeyond mAct mMark mSpare mLack mBefore mVia mQueue) sz)) (va_A (wM cA a mPosts mThirds mStraight mLeast mIsLaid mIsGiven mActs mDone mQueued mCorner mSum mBeyond mAct mMark mSpare mLack mBefore mVia mQueue) sz)) 0 0 (va_A (wM cA a mPosts mThirds mStraight mLeast mIsLaid mIsGiven mActs mDone mQueued mCorner mSum mBeyond mAct mMark mSpare mLack mBefore mVia mQueue) sz) := by
  refine xmet_i (by decide) (Nat.le_of_ble_eq_true rfl) ?_
  intro p e s m args below meth c A ls C hH hl
  have C : XC p s m args meth c cX5_arrowOf 4 RX5 (some .int) D cA A := C
  have hl : lv_has ls 4 [(0, .ref (a 0)), (1, .int (J x1)), (2, .int (J x2))] := hl
  unfold wp_M_arrowOf at h
  refine j_iconst C dX5_arrowOf_0 ?_
  refine j_istore_n (lv' := [(3, .int (J 0)), (0, .ref (a 0)), (1, .int (J x1)), (2, .int (J x2))]) C dX5_arrowOf_1 hl (by decide) rfl (fun ls hl => ?_)
  obtain ⟨n_, h⟩ := h
  exact w_M_arrowOf_2 C  n_ 0 h _ _ _ hH (lv_sub hl [1, 2, 3, 0] rfl)
abbrev po_M_sideOf (cA : ClassId) (a : Nat → Nat) (mPosts mThirds mStraight mLeast mIsLaid mIsGiven mActs mDone mQueued : Int) (mCorner mSum mBeyond mAct mMark mSpare mLack mBefore mVia mQueue : Nat → Int) (Q : Int → Prop) : Int32 → va_W → Prop := fun r w => ∃ z, r = J z ∧ w = wM cA a mPosts mThirds mStraight mLeast mIsLaid mIsGiven mActs mDone mQueued mCorner mSum mBeyond mAct mMark mSpare mLack mBefore mVia mQueue ∧ Q z
set_option maxRecDepth 4000 in
theorem c_M_sideOf {l : Launch} {D : va_G} {cA : ClassId} {a : Nat → Nat} {sz : Nat} {mPosts mThirds mStraight mLeast mIsLaid mIsGiven mActs mDone mQueued : Int} {mCorner mSum mBeyond mAct mMark mSpare mLack mBefore mVia mQueue : Nat → Int} {x1 x2 : Int} {Q : Int → Prop} (h : wp_M_sideOf x1 x2 mThirds mCorner Q) : Met l yX5_sideOf (.code yX5_sideOf cX5_sideOf 3 (some .int) :: lw_ok) rm_M_sideOf (xPre D cA sz [.ref (a 0), .int (J x1), .int (J x2)] (wM cA a mPosts mThirds mStraight mLeast mIsLaid mIsGiven mActs mDone mQueued mCorner mSum mBeyond mAct mMark mSpare mLack mBefore mVia mQueue)) (va_Qi (po_M_sideOf cA a mPosts mThirds mStraight mLeast mIsLaid mIsGiven mActs mDone mQueued mCorner mSum mBeyond mAct mMark mSpare mLack mBefore mVia mQueue Q) (xB D cA (va_A (wM cA a mPosts mThirds mStraight mLeast mIsLaid mIsGiven mActs mDone mQueued mCorner mSum mBeyond mAct mMark mSpare mLack mBefore mVia mQueue) sz)) (va_A (wM cA a mPosts mThirds mStraight mLeast mIsLaid mIsGiven mActs mDone mQueued mCorner mSum mBeyond mAct mMark mSpare mLack mBefore mVia mQueue) sz)) 0 0 (va_A (wM cA a mPosts mThirds mStraight mLeast mIsLaid mIsGiven mActs mDone mQueued mCorner mSum mBeyond mAct mMark mSpare mLack mBefore mVia mQueue) sz) := by
  refine xmet_i (by decide) (Nat.le_of_ble_eq_true rfl) ?_
  intro p e s m args below meth c A ls C hH hl
  have C : XC p s m args meth c cX5_sideOf 3 RX5 (some .int) D cA A := C
  have hl : lv_has ls 3 [(0, .ref (a 0)), (1, .int (J x1)), (2, .int (J x2))] := hl
  unfold wp_M_sideOf at h
  refine j_aload_n C dX5_sideOf_0 (lv_at hl 0 rfl) ?_
  refine j_iload_n C dX5_sideOf_1 (lv_at hl 1 rfl) ?_
  refine j_iload_n C dX5_sideOf_2 (lv_at hl 2 rfl) ?_
  refine xcallV_i (As := [.int (J x1), .int (J x2)]) (rest := []) (q0 := 0) C hH (fun sz => c_M_arrowOf h) xl_X5_74 rfl rfl ⟨rfl, rfl⟩ ⟨Nat.le_of_ble_eq_true rfl, Nat.le_of_ble_eq_true rfl⟩ hl.1 rfl rfl (Nat.le_of_ble_eq_true rfl) dX5_sideOf_3 (fun r_ w_ H locs hw hH => ?_)
  obtain ⟨z_1, rfl, rfl, h⟩ := hw
  obtain ⟨g_2, h⟩ := h
  refine j_if_lt C 13 g_2 dX5_sideOf_6 (by decide) (fun c_3 => ?_) (fun c_3 => ?_)
  · have h := h.1 c_3
    refine j_iconst C dX5_sideOf_13 ?_
    refine j_aload_n C dX5_sideOf_14 (lv_at hl 0 rfl) ?_
    refine j_iload_n C dX5_sideOf_15 (lv_at hl 2 rfl) ?_
    refine j_iload_n C dX5_sideOf_16 (lv_at hl 1 rfl) ?_
    refine xcallV_i (As := [.int (J x2), .int (J x1)]) (rest := [.int (J 0)]) (q0 := 0) C hH (fun sz => c_M_arrowOf h) xl_X5_74 rfl rfl ⟨rfl, rfl⟩ ⟨Nat.le_of_ble_eq_true rfl, Nat.le_of_ble_eq_true rfl⟩ hl.1 rfl rfl (Nat.le_of_ble_eq_true rfl) dX5_sideOf_17 (fun r_ w_ H locs hw hH => ?_)
    obtain ⟨z_4, rfl, rfl, h⟩ := hw
    obtain ⟨g_5, h⟩ := h
    refine j_if_lt C 27 g_5 dX5_sideOf_20 (by decide) (fun c_6 => ?_) (fun c_6 => ?_)
    · have h := h.1 c_6
      refine j_iconst C dX5_sideOf_27 ?_
      refine j_iadd C dX5_sideOf_28 ?_
      exact j_iret C hH ⟨_, rfl, rfl, h⟩ dX5_sideOf_29
    · have h := h.2 c_6
      refine j_iconst C dX5_sideOf_23 ?_
      refine j_goto C 28 dX5_sideOf_24 (by decide) ?_
      refine j_iadd C dX5_sideOf_28 ?_
      exact j_iret C hH ⟨_, rfl, rfl, h⟩ dX5_sideOf_29
  · have h := h.2 c_3
    refine j_iconst C dX5_sideOf_9 ?_
    refine j_goto C 14 dX5_sideOf_10 (by decide) ?_
    refine j_aload_n C dX5_sideOf_14 (lv_at hl 0 rfl) ?_
    refine j_iload_n C dX5_sideOf_15 (lv_at hl 2 rfl) ?_
    refine j_iload_n C dX5_sideOf_16 (lv_at hl 1 rfl) ?_
    refine xcallV_i (As := [.int (J x2), .int (J x1)]) (rest := [.int (J 1)]) (q0 := 0) C hH (fun sz => c_M_arrowOf h) xl_X5_74 rfl rfl ⟨rfl, rfl⟩ ⟨Nat.le_of_ble_eq_true rfl, Nat.le_of_ble_eq_true rfl⟩ hl.1 rfl rfl (Nat.le_of_ble_eq_true rfl) dX5_sideOf_17 (fun r_ w_ H locs hw hH => ?_)
    obtain ⟨z_7, rfl, rfl, h⟩ := hw
    obtain ⟨g_8, h⟩ := h
    refine j_if_lt C 27 g_8 dX5_sideOf_20 (by decide) (fun c_9 => ?_) (fun c_9 => ?_)
    · have h := h.1 c_9
      refine j_iconst C dX5_sideOf_27 ?_
      refine j_iadd C dX5_sideOf_28 ?_
      exact j_iret C hH ⟨_, rfl, rfl, h⟩ dX5_sideOf_29
    · have h := h.2 c_9
      refine j_iconst C dX5_sideOf_23 ?_
      refine j_goto C 28 dX5_sideOf_24 (by decide) ?_
      refine j_iadd C dX5_sideOf_28 ?_
      exact j_iret C hH ⟨_, rfl, rfl, h⟩ dX5_sideOf_29
abbrev po_M_put (cA : ClassId) (a : Nat → Nat) (mPosts mThirds mStraight mLeast mIsLaid mIsGiven mActs mDone mQueued : Int) (mSum mBeyond mAct mMark mSpare mLack mBefore mVia mQueue : Nat → Int) (Q : (Nat → Int) → Prop) : va_W → Prop := fun w => ∃ mCorner', w = wM cA a mPosts mThirds mStraight mLeast mIsLaid mIsGiven mActs mDone mQueued mCorner' mSum mBeyond mAct mMark mSpare mLack mBefore mVia mQueue ∧ Q mCorner'
set_option maxRecDepth 4000 in
theorem c_M_put {l : Launch} {D : va_G} {cA : ClassId} {a : Nat → Nat} {sz : Nat} {mPosts mThirds mStraight mLeast mIsLaid mIsGiven mActs mDone mQueued : Int} {mCorner mSum mBeyond mAct mMark mSpare mLack mBefore mVia mQueue : Nat → Int} {x1 x2 x3 x4 : Int} {Q : (Nat → Int) → Prop} (h : wp_M_put x1 x2 x3 x4 mCorner Q) : Met l yX5_put (.code yX5_put cX5_put 5 none :: lw_ok) rm_M_put (xPre D cA sz [.ref (a 0), .int (J x1), .int (J x2), .int (J x3), .int (J x4)] (wM cA a mPosts mThirds mStraight mLeast mIsLaid mIsGiven mActs mDone mQueued mCorner mSum mBeyond mAct mMark mSpare mLack mBefore mVia mQueue)) (va_Qv (po_M_put cA a mPosts mThirds mStraight mLeast mIsLaid mIsGiven mActs mDone mQueued mSum mBeyond mAct mMark mSpare mLack mBefore mVia mQueue Q) (xB D cA (va_A (wM cA a mPosts mThirds mStraight mLeast mIsLaid mIsGiven mActs mDone mQueued mCorner mSum mBeyond mAct mMark mSpare mLack mBefore mVia mQueue) sz)) (va_A (wM cA a mPosts mThirds mStraight mLeast mIsLaid mIsGiven mActs mDone mQueued mCorner mSum mBeyond mAct mMark mSpare mLack mBefore mVia mQueue) sz)) 0 0 (va_A (wM cA a mPosts mThirds mStraight mLeast mIsLaid mIsGiven mActs mDone mQueued mCorner mSum mBeyond mAct mMark mSpare mLack mBefore mVia mQueue) sz) := by
  refine xmet_v (by decide) (Nat.le_of_ble_eq_true rfl) ?_
  intro p e s m args below meth c A ls C hH hl
  have C : XC p s m args meth c cX5_put 5 RX5 none D cA A := C
  have hl : lv_has ls 5 [(0, .ref (a 0)), (1, .int (J x1)), (2, .int (J x2)), (3, .int (J x3)), (4, .int (J x4))] := hl
  unfold wp_M_put at h
  refine j_aload_n C dX5_put_0 (lv_at hl 0 rfl) ?_
  refine xg_X5_corner C hH dX5_put_1 ?_
  refine j_iconst C dX5_put_4 ?_
  refine j_iload_n C dX5_put_5 (lv_at hl 1 rfl) ?_
  refine j_imul C dX5_put_6 ?_
  refine j_iload_n C dX5_put_7 (lv_at hl 2 rfl) ?_
  obtain ⟨b_1, h⟩ := h
  refine xs_mCorner C hH b_1 dX5_put_8 (fun mCorner_2 e_mCorner_2 H locs hH => ?_)
  have h := h mCorner_2 e_mCorner_2
  refine j_aload_n C dX5_put_9 (lv_at hl 0 rfl) ?_
  refine xg_X5_corner C hH dX5_put_10 ?_
  refine j_iconst C dX5_put_13 ?_
  refine j_iload_n C dX5_put_14 (lv_at hl 1 rfl) ?_
  refine j_imul C dX5_put_15 ?_
  refine j_iconst C dX5_put_16 ?_
  refine j_iadd C dX5_put_17 ?_
  refine j_iload_n C dX5_put_18 (lv_at hl 3 rfl) ?_
  obtain ⟨b_3, h⟩ := h
  refine xs_mCorner C hH b_3 dX5_put_19 (fun mCorner_4 e_mCorner_4 H locs hH => ?_)
  have h := h mCorner_4 e_mCorner_4
  refine j_aload_n C dX5_put_20 (lv_at hl 0 rfl) ?_
  refine xg_X5_corner C hH dX5_put_21 ?_
  refine j_iconst C dX5_put_24 ?_
  refine j_iload_n C dX5_put_25 (lv_at hl 1 rfl) ?_
  refine j_imul C dX5_put_26 ?_
  refine j_iconst C dX5_put_27 ?_
  refine j_iadd C dX5_put_28 ?_
  refine j_iload C dX5_put_29 (lv_at hl 4 rfl) ?_
  obtain ⟨b_5, h⟩ := h
  refine xs_mCorner C hH b_5 dX5_put_31 (fun mCorner_6 e_mCorner_6 H locs hH => ?_)
  have h := h mCorner_6 e_mCorner_6
  exact j_vret C hH ⟨_, rfl, h⟩ dX5_put_32
abbrev po_M_write (cA : ClassId) (a : Nat → Nat) (mPosts mThirds mStraight mLeast mIsGiven mQueued : Int) (mCorner mSum mBeyond mMark mSpare mLack mBefore mVia mQueue : Nat → Int) (Q : Int → Int → Int → (Nat → Int) → Prop) : va_W → Prop := fun w => ∃ mIsLaid' mActs' mDone' mAct', w = wM cA a mPosts mThirds mStraight mLeast mIsLaid' mIsGiven mActs' mDone' mQueued mCorner mSum mBeyond mAct' mMark mSpare mLack mBefore mVia mQueue ∧ Q mIsLaid' mActs' mDone' mAct'
set_option maxRecDepth 4000 in
theorem w_M_write_53 {p : Program} {l : Launch} {e : Env} {s : State} {m : MethodId} {args : Array Value} {below : List Frame} {meth : Method} {c : Code} {D : va_G} {cA : ClassId} {A : Nat → Prop} {a : Nat → Nat} {mPosts mThirds mStraight mLeast mIsGiven mQueued : Int} {mCorner mSum mBeyond mMark mSpare mLack mBefore mVia mQueue : Nat → Int} (C : XC p s m args meth c cX5_write 5 RX5 none D cA A) {Q : Int → Int → Int → (Nat → Int) → Prop}  : ∀ (x1 : Int) (x2 : Int) (x3 : Int) (mIsLaid : Int) (mActs : Int) (mDone : Int) (mAct : Nat → Int), wp_M_write_53 Q x1 x2 x3 mIsLaid mActs mDone mAct → ∀ (H : Heap) (locs : List Loc) (ls : Array Slot), XH D A s (wM cA a mPosts mThirds mStraight mLeast mIsLaid mIsGiven mActs mDone mQueued mCorner mSum mBeyond mAct mMark mSpare mLack mBefore mVia mQueue) H locs → lv_has ls 5 [(0, .ref (a 0)), (1, .int (J x1)), (2, .int (J x2)), (3, .int (J x3))] → W p l e rm_M_write s m args below meth c H locs 0 0 (MQ below (va_Qv (po_M_write cA a mPosts mThirds mStraight mLeast mIsGiven mQueued mCorner mSum mBeyond mMark mSpare mLack mBefore mVia mQueue Q) (xB D cA A) A) args s 0 0 A) (F0 m 53 ls []) := by
  intro x1 x2 x3 mIsLaid mActs mDone mAct h H locs ls hH hl
  unfold wp_M_write_53 at h
  refine j_aload_n C dX5_write_53 (lv_at hl 0 rfl) ?_
  refine xg_X5_act C hH dX5_write_54 ?_
  refine j_bipush C (by decide +kernel) dX5_write_57 ?_
  refine j_aload_n C dX5_write_59 (lv_at hl 0 rfl) ?_
  refine xg_X5_done C hH dX5_write_60 ?_
  refine j_imul C dX5_write_63 ?_
  refine j_iload_n C dX5_write_64 (lv_at hl 1 rfl) ?_
  obtain ⟨b_1, h⟩ := h
  refine xs_mAct C hH b_1 dX5_write_65 (fun mAct_2 e_mAct_2 H locs hH => ?_)
  have h := h mAct_2 e_mAct_2
  refine j_aload_n C dX5_write_66 (lv_at hl 0 rfl) ?_
  refine xg_X5_act C hH dX5_write_67 ?_
  refine j_bipush C (by decide +kernel) dX5_write_70 ?_
  refine j_aload_n C dX5_write_72 (lv_at hl 0 rfl) ?_
  refine xg_X5_done C hH dX5_write_73 ?_
  refine j_imul C dX5_write_76 ?_
  refine j_iconst C dX5_write_77 ?_
  refine j_iadd C dX5_write_78 ?_
  refine j_iload_n C dX5_write_79 (lv_at hl 2 rfl) ?_
  obtain ⟨b_3, h⟩ := h
  refine xs_mAct C hH b_3 dX5_write_80 (fun mAct_4 e_mAct_4 H locs hH => ?_)
  have h := h mAct_4 e_mAct_4
  refine j_aload_n C dX5_write_81 (lv_at hl 0 rfl) ?_
  refine xg_X5_act C hH dX5_write_82 ?_
  refine j_bipush C (by decide +kernel) dX5_write_85 ?_
  refine j_aload_n C dX5_write_87 (lv_at hl 0 rfl) ?_
  refine xg_X5_done C hH dX5_write_88 ?_
  refine j_imul C dX5_write_91 ?_
  refine j_iconst C dX5_write_92 ?_
  refine j_iadd C dX5_write_93 ?_
  refine j_iload_n C dX5_write_94 (lv_at hl 3 rfl) ?_
  obtain ⟨b_5, h⟩ := h
  refine xs_mAct C hH b_5 dX5_write_95 (fun mAct_6 e_mAct_6 H locs hH => ?_)
  have h := h mAct_6 e_mAct_6
  refine j_aload_n C dX5_write_96 (lv_at hl 0 rfl) ?_
  refine j_dup C rfl dX5_write_97 ?_
  refine xg_X5_done C hH dX5_write_98 ?_
  refine j_iconst C dX5_write_101 ?_
  refine j_iadd C dX5_write_102 ?_
  refine xp_X5_done C hH dX5_write_103 (fun H locs hH => ?_)
  refine j_aload_n C dX5_write_106 (lv_at hl 0 rfl) ?_
  refine j_aload_n C dX5_write_107 (lv_at hl 0 rfl) ?_
  refine xg_X5_done C hH dX5_write_108 ?_
  refine xp_X5_acts C hH dX5_write_111 (fun H locs hH => ?_)
  refine j_aload_n C dX5_write_114 (lv_at hl 0 rfl) ?_
  refine j_iconst C dX5_write_115 ?_
  refine xp_X5_isLaid C hH (Or.inl rfl) dX5_write_116 (fun H locs hH => ?_)
  exact j_vret C hH ⟨_, _, _, _, rfl, h⟩ dX5_write_119
set_option maxRecDepth 4000 in
theorem w_M_write_12 {p : Program} {l : Launch} {e : Env} {s : State} {m : MethodId} {args : Array Value} {below : List Frame} {meth : Method} {c : Code} {D : va_G} {cA : ClassId} {A : Nat → Prop} {a : Nat → Nat} {mPosts mThirds mStraight mLeast mIsLaid mIsGiven mActs mDone mQueued : Int} {mCorner mSum mBeyond mMark mSpare mLack mBefore mVia mQueue : Nat → Int} (C : XC p s m args meth c cX5_write 5 RX5 none D cA A) {Q : Int → Int → Int → (Nat → Int) → Prop} {x1 : Int} {x2 : Int} {x3 : Int}  : ∀ (n : Nat) (x4 : Int) (mAct : Nat → Int), wp_M_write_12 Q x1 x2 x3 mIsLaid mActs mDone n x4 mAct → ∀ (H : Heap) (locs : List Loc) (ls : Array Slot), XH D A s (wM cA a mPosts mThirds mStraight mLeast mIsLaid mIsGiven mActs mDone mQueued mCorner mSum mBeyond mAct mMark mSpare mLack mBefore mVia mQueue) H locs → lv_has ls 5 [(0, .ref (a 0)), (1, .int (J x1)), (2, .int (J x2)), (3, .int (J x3)), (4, .int (J x4))] → W p l e rm_M_write s m args below meth c H locs 0 0 (MQ below (va_Qv (po_M_write cA a mPosts mThirds mStraight mLeast mIsGiven mQueued mCorner mSum mBeyond mMark mSpare mLack mBefore mVia mQueue Q) (xB D cA A) A) args s 0 0 A) (F0 m 12 ls []) := by
  intro n
  induction n with
  | zero => intro x4 mAct h; exact (show False from h).elim
  | succ n hK12 =>
    intro x4 mAct h H locs ls hH hl
    have h : wp_M_write_12_b  (wp_M_write_12 Q x1 x2 x3 mIsLaid mActs mDone n) Q  x1 x2 x3 mIsLaid mActs mDone x4 mAct := h
    unfold wp_M_write_12_b at h
    refine j_iload C dX5_write_12 (lv_at hl 4 rfl) ?_
    refine j_sipush C (by decide +kernel) dX5_write_14 ?_
    obtain ⟨g_7, h⟩ := h
    refine j_icmp_ge C 43 g_7 (by unfold jR; decide) dX5_write_17 (by decide) (fun c_8 => ?_) (fun c_8 => ?_)
    · have h := h.1 c_8
      refine j_aload_n C dX5_write_43 (lv_at hl 0 rfl) ?_
      refine j_dup C rfl dX5_write_44 ?_
      refine xg_X5_done C hH dX5_write_45 ?_
      refine j_iconst C dX5_write_48 ?_
      refine j_isub C dX5_write_49 ?_
      refine xp_X5_done C hH dX5_write_50 (fun H locs hH => ?_)
      exact w_M_write_53 C  x1 x2 x3 mIsLaid mActs (mDone - 1) mAct h _ _ _ hH (lv_sub hl [0, 1, 2, 3] rfl)
    · have h := h.2 c_8
      refine j_aload_n C dX5_write_20 (lv_at hl 0 rfl) ?_
      refine xg_X5_act C hH dX5_write_21 ?_
      refine j_iload C dX5_write_24 (lv_at hl 4 rfl) ?_
      refine j_aload_n C dX5_write_26 (lv_at hl 0 rfl) ?_
      refine xg_X5_act C hH dX5_write_27 ?_
      refine j_iload C dX5_write_30 (lv_at hl 4 rfl) ?_
      refine j_bipush C (by decide +kernel) dX5_write_32 ?_
      refine j_iadd C dX5_write_34 ?_
      obtain ⟨b_9, h⟩ := h
      refine xa_mAct C hH b_9 dX5_write_35 ?_
      obtain ⟨b_10, h⟩ := h
      refine xs_mAct C hH b_10 dX5_write_36 (fun mAct_11 e_mAct_11 H locs hH => ?_)
      have h := h mAct_11 e_mAct_11
      refine j_iinc (k := 4) (v := x4 + 1) (lv' := [(4, .int (J (x4 + 1))), (0, .ref (a 0)), (1, .int (J x1)), (2, .int (J x2)), (3, .int (J x3))]) C dX5_write_37 hl rfl rfl (by decide) rfl (fun ls hl => ?_)
      refine j_goto C 12 dX5_write_40 (by decide) ?_
      exact hK12 (x4 + 1) mAct_11 h _ _ _ hH (lv_sub hl [1, 2, 3, 4, 0] rfl)
set_option maxRecDepth 4000 in
theorem c_M_write {l : Launch} {D : va_G} {cA : ClassId} {a : Nat → Nat} {sz : Nat} {mPosts mThirds mStraight mLeast mIsLaid mIsGiven mActs mDone mQueued : Int} {mCorner mSum mBeyond mAct mMark mSpare mLack mBefore mVia mQueue : Nat → Int} {x1 x2 x3 : Int} {Q : Int → Int → Int → (Nat → Int) → Prop} (h : wp_M_write x1 x2 x3 mIsLaid mActs mDone mAct Q) : Met l yX5_write (.code yX5_write cX5_write 5 none :: lw_ok) rm_M_write (xPre D cA sz [.ref (a 0), .int (J x1), .int (J x2), .int (J x3)] (wM cA a mPosts mThirds mStraight mLeast mIsLaid mIsGiven mActs mDone mQueued mCorner mSum mBeyond mAct mMark mSpare mLack mBefore mVia mQueue)) (va_Qv (po_M_write cA a mPosts mThirds mStraight mLeast mIsGiven mQueued mCorner mSum mBeyond mMark mSpare mLack mBefore mVia mQueue Q) (xB D cA (va_A (wM cA a mPosts mThirds mStraight mLeast mIsLaid mIsGiven mActs mDone mQueued mCorner mSum mBeyond mAct mMark mSpare mLack mBefore mVia mQueue) sz)) (va_A (wM cA a mPosts mThirds mStraight mLeast mIsLaid mIsGiven mActs mDone mQueued mCorner mSum mBeyond mAct mMark mSpare mLack mBefore mVia mQueue) sz)) 0 0 (va_A (wM cA a mPosts mThirds mStraight mLeast mIsLaid mIsGiven mActs mDone mQueued mCorner mSum mBeyond mAct mMark mSpare mLack mBefore mVia mQueue) sz) := by
  refine xmet_v (by decide) (Nat.le_of_ble_eq_true rfl) ?_
  intro p e s m args below meth c A ls C hH hl
  have C : XC p s m args meth c cX5_write 5 RX5 none D cA A := C
  have hl : lv_has ls 5 [(0, .ref (a 0)), (1, .int (J x1)), (2, .int (J x2)), (3, .int (J x3))] := hl
  unfold wp_M_write at h
  refine j_aload_n C dX5_write_0 (lv_at hl 0 rfl) ?_
  refine xg_X5_done C hH dX5_write_1 ?_
  refine j_bipush C (by decide +kernel) dX5_write_4 ?_
  obtain ⟨g_12, h⟩ := h
  refine j_icmp_ne C 53 g_12 (by unfold jR; decide) dX5_write_6 (by decide) (fun c_13 => ?_) (fun c_13 => ?_)
  · have h := h.2 c_13
    exact w_M_write_53 C  x1 x2 x3 mIsLaid mActs mDone mAct h _ _ _ hH (lv_sub hl [0, 1, 2, 3] rfl)
  · have h := h.1 c_13
    refine j_iconst C dX5_write_9 ?_
    refine j_istore (lv' := [(4, .int (J 0)), (0, .ref (a 0)), (1, .int (J x1)), (2, .int (J x2)), (3, .int (J x3))]) C dX5_write_10 hl (by decide) rfl (fun ls hl => ?_)
    obtain ⟨n_, h⟩ := h
    exact w_M_write_12 C  n_ 0 mAct h _ _ _ hH (lv_sub hl [1, 2, 3, 4, 0] rfl)
abbrev po_M_keepThirds (cA : ClassId) (a : Nat → Nat) (mPosts mThirds mStraight mLeast mIsLaid mIsGiven mActs mDone mQueued : Int) (mCorner mSum mBeyond mMark mSpare mLack mBefore mVia mQueue : Nat → Int) (Q : (Nat → Int) → Prop) : va_W → Prop := fun w => ∃ mAct', w = wM cA a mPosts mThirds mStraight mLeast mIsLaid mIsGiven mActs mDone mQueued mCorner mSum mBeyond mAct' mMark mSpare mLack mBefore mVia mQueue ∧ Q mAct'
set_option maxRecDepth 4000 in
theorem w_M_keepThirds_3 {p : Program} {l : Launch} {e : Env} {s : State} {m : MethodId} {args : Array Value} {below : List Frame} {meth : Method} {c : Code} {D : va_G} {cA : ClassId} {A : Nat → Prop} {a : Nat → Nat} {mPosts mThirds mStraight mLeast mIsLaid mIsGiven mActs mDone mQueued : Int} {mCorner mSum mBeyond mMark mSpare mLack mBefore mVia mQueue : Nat → Int} (C : XC p s m args meth c cX5_keepThirds 5 RX5 none D cA A) {Q : (Nat → Int) → Prop} {x1 : Int} {x2 : Int} {x3 : Int}  : ∀ (n : Nat) (x4 : Int) (mAct : Nat → Int), wp_M_keepThirds_3 Q mCorner x1 x2 x3 n x4 mAct → ∀ (H : Heap) (locs : List Loc) (ls : Array Slot), XH D A s (wM cA a mPosts mThirds mStraight mLeast mIsLaid mIsGiven mActs mDone mQueued mCorner mSum mBeyond mAct mMark mSpare mLack mBefore mVia mQueue) H locs → lv_has ls 5 [(0, .ref (a 0)), (1, .int (J x1)), (2, .int (J x2)), (3, .int (J x3)), (4, .int (J x4))] → W p l e rm_M_keepThirds s m args below meth c H locs 0 0 (MQ below (va_Qv (po_M_keepThirds cA a mPosts mThirds mStraight mLeast mIsLaid mIsGiven mActs mDone mQueued mCorner mSum mBeyond mMark mSpare mLack mBefore mVia mQueue Q) (xB D cA A) A) args s 0 0 A) (F0 m 3 ls []) := by
  intro n
  induction n with
  | zero => intro x4 mAct h; exact (show False from h).elim
  | succ n hK3 =>
    intro x4 mAct h H locs ls hH hl
    have h : wp_M_keepThirds_3_b  (wp_M_keepThirds_3 Q mCorner x1 x2 x3 n) Q mCorner x1 x2 x3 x4 mAct := h
    unfold wp_M_keepThirds_3_b at h
    refine j_iload C dX5_keepThirds_3 (lv_at hl 4 rfl) ?_
    refine j_iconst C dX5_keepThirds_5 ?_
    obtain ⟨g_1, h⟩ := h
    refine j_icmp_ge C 57 g_1 (by unfold jR; decide) dX5_keepThirds_6 (by decide) (fun c_2 => ?_) (fun c_2 => ?_)
    · have h := h.1 c_2
      exact j_vret C hH ⟨_, rfl, h⟩ dX5_keepThirds_57
    · have h := h.2 c_2
      refine j_aload_n C dX5_keepThirds_9 (lv_at hl 0 rfl) ?_
      refine xg_X5_act C hH dX5_keepThirds_10 ?_
      refine j_iload_n C dX5_keepThirds_13 (lv_at hl 1 rfl) ?_
      refine j_iload C dX5_keepThirds_14 (lv_at hl 4 rfl) ?_
      refine j_iadd C dX5_keepThirds_16 ?_
      refine j_aload_n C dX5_keepThirds_17 (lv_at hl 0 rfl) ?_
      refine xg_X5_corner C hH dX5_keepThirds_18 ?_
      refine j_iconst C dX5_keepThirds_21 ?_
      refine j_iload_n C dX5_keepThirds_22 (lv_at hl 2 rfl) ?_
      refine j_imul C dX5_keepThirds_23 ?_
      refine j_iload C dX5_keepThirds_24 (lv_at hl 4 rfl) ?_
      refine j_iadd C dX5_keepThirds_26 ?_
      obtain ⟨b_3, h⟩ := h
      refine xa_mCorner C hH b_3 dX5_keepThirds_27 ?_
      obtain ⟨b_4, h⟩ := h
      refine xs_mAct C hH b_4 dX5_keepThirds_28 (fun mAct_5 e_mAct_5 H locs hH => ?_)
      have h := h mAct_5 e_mAct_5
      refine j_aload_n C dX5_keepThirds_29 (lv_at hl 0 rfl) ?_
      refine xg_X5_act C hH dX5_keepThirds_30 ?_
      refine j_iload_n C dX5_keepThirds_33 (lv_at hl 1 rfl) ?_
      refine j_iconst C dX5_keepThirds_34 ?_
      refine j_iadd C dX5_keepThirds_35 ?_
      refine j_iload C dX5_keepThirds_36 (lv_at hl 4 rfl) ?_
      refine j_iadd C dX5_keepThirds_38 ?_
      refine j_aload_n C dX5_keepThirds_39 (lv_at hl 0 rfl) ?_
      refine xg_X5_corner C hH dX5_keepThirds_40 ?_
      refine j_iconst C dX5_keepThirds_43 ?_
      refine j_iload_n C dX5_keepThirds_44 (lv_at hl 3 rfl) ?_
      refine j_imul C dX5_keepThirds_45 ?_
      refine j_iload C dX5_keepThirds_46 (lv_at hl 4 rfl) ?_
      refine j_iadd C dX5_keepThirds_48 ?_
      obtain ⟨b_6, h⟩ := h
      refine xa_mCorner C hH b_6 dX5_keepThirds_49 ?_
      obtain ⟨b_7, h⟩ := h
      refine xs_mAct C hH b_7 dX5_keepThirds_50 (fun mAct_8 e_mAct_8 H locs hH => ?_)
      have h := h mAct_8 e_mAct_8
      refine j_iinc (k := 4) (v := x4 + 1) (lv' := [(4, .int (J (x4 + 1))), (0, .ref (a 0)), (1, .int (J x1)), (2, .int (J x2)), (3, .int (J x3))]) C dX5_keepThirds_51 hl rfl rfl (by decide) rfl (fun ls hl => ?_)
      refine j_goto C 3 dX5_keepThirds_54 (by decide) ?_
      exact hK3 (x4 + 1) mAct_8 h _ _ _ hH (lv_sub hl [1, 2, 3, 4, 0] rfl)
set_option maxRecDepth 4000 in
theorem c_M_keepThirds {l : Launch} {D : va_G} {cA : ClassId} {a : Nat → Nat} {sz : Nat} {mPosts mThirds mStraight mLeast mIsLaid mIsGiven mActs mDone mQueued : Int} {mCorner mSum mBeyond mAct mMark mSpare mLack mBefore mVia mQueue : Nat → Int} {x1 x2 x3 : Int} {Q : (Nat → Int) → Prop} (h : wp_M_keepThirds x1 x2 x3 mCorner mAct Q) : Met l yX5_keepThirds (.code yX5_keepThirds cX5_keepThirds 5 none :: lw_ok) rm_M_keepThirds (xPre D cA sz [.ref (a 0), .int (J x1), .int (J x2), .int (J x3)] (wM cA a mPosts mThirds mStraight mLeast mIsLaid mIsGiven mActs mDone mQueued mCorner mSum mBeyond mAct mMark mSpare mLack mBefore mVia mQueue)) (va_Qv (po_M_keepThirds cA a mPosts mThirds mStraight mLeast mIsLaid mIsGiven mActs mDone mQueued mCorner mSum mBeyond mMark mSpare mLack mBefore mVia mQueue Q) (xB D cA (va_A (wM cA a mPosts mThirds mStraight mLeast mIsLaid mIsGiven mActs mDone mQueued mCorner mSum mBeyond mAct mMark mSpare mLack mBefore mVia mQueue) sz)) (va_A (wM cA a mPosts mThirds mStraight mLeast mIsLaid mIsGiven mActs mDone mQueued mCorner mSum mBeyond mAct mMark mSpare mLack mBefore mVia mQueue) sz)) 0 0 (va_A (wM cA a mPosts mThirds mStraight mLeast mIsLaid mIsGiven mActs mDone mQueued mCorner mSum mBeyond mAct mMark mSpare mLack mBefore mVia mQueue) sz) := by
  refine xmet_v (by decide) (Nat.le_of_ble_eq_true rfl) ?_
  intro p e s m args below meth c A ls C hH hl
  have C : XC p s m args meth c cX5_keepThirds 5 RX5 none D cA A := C
  have hl : lv_has ls 5 [(0, .ref (a 0)), (1, .int (J x1)), (2, .int (J x2)), (3, .int (J x3))] := hl
  unfold wp_M_keepThirds at h
  refine j_iconst C dX5_keepThirds_0 ?_
  refine j_istore (lv' := [(4, .int (J 0)), (0, .ref (a 0)), (1, .int (J x1)), (2, .int (J x2)), (3, .int (J x3))]) C dX5_keepThirds_1 hl (by decide) rfl (fun ls hl => ?_)
  obtain ⟨n_, h⟩ := h
  exact w_M_keepThirds_3 C  n_ 0 mAct h _ _ _ hH (lv_sub hl [1, 2, 3, 4, 0] rfl)
abbrev po_M_takeThirds (cA : ClassId) (a : Nat → Nat) (mPosts mThirds mStraight mLeast mIsLaid mIsGiven mActs mDone mQueued : Int) (mSum mBeyond mAct mMark mSpare mLack mBefore mVia mQueue : Nat → Int) (Q : (Nat → Int) → Prop) : va_W → Prop := fun w => ∃ mCorner', w = wM cA a mPosts mThirds mStraight mLeast mIsLaid mIsGiven mActs mDone mQueued mCorner' mSum mBeyond mAct mMark mSpare mLack mBefore mVia mQueue ∧ Q mCorner'
set_option maxRecDepth 4000 in
theorem w_M_takeThirds_3 {p : Program} {l : Launch} {e : Env} {s : State} {m : MethodId} {args : Array Value} {below : List Frame} {meth : Method} {c : Code} {D : va_G} {cA : ClassId} {A : Nat → Prop} {a : Nat → Nat} {mPosts mThirds mStraight mLeast mIsLaid mIsGiven mActs mDone mQueued : Int} {mSum mBeyond mAct mMark mSpare mLack mBefore mVia mQueue : Nat → Int} (C : XC p s m args meth c cX5_takeThirds 5 RX5 none D cA A) {Q : (Nat → Int) → Prop} {x1 : Int} {x2 : Int} {x3 : Int}  : ∀ (n : Nat) (x4 : Int) (mCorner : Nat → Int), wp_M_takeThirds_3 Q mAct x1 x2 x3 n x4 mCorner → ∀ (H : Heap) (locs : List Loc) (ls : Array Slot), XH D A s (wM cA a mPosts mThirds mStraight mLeast mIsLaid mIsGiven mActs mDone mQueued mCorner mSum mBeyond mAct mMark mSpare mLack mBefore mVia mQueue) H locs → lv_has ls 5 [(0, .ref (a 0)), (1, .int (J x1)), (2, .int (J x2)), (3, .int (J x3)), (4, .int (J x4))] → W p l e rm_M_takeThirds s m args below meth c H locs 0 0 (MQ below (va_Qv (po_M_takeThirds cA a mPosts mThirds mStraight mLeast mIsLaid mIsGiven mActs mDone mQueued mSum mBeyond mAct mMark mSpare mLack mBefore mVia mQueue Q) (xB D cA A) A) args s 0 0 A) (F0 m 3 ls []) := by
  intro n
  induction n with
  | zero => intro x4 mCorner h; exact (show False from h).elim
  | succ n hK3 =>
    intro x4 mCorner h H locs ls hH hl
    have h : wp_M_takeThirds_3_b  (wp_M_takeThirds_3 Q mAct x1 x2 x3 n) Q mAct x1 x2 x3 x4 mCorner := h
    unfold wp_M_takeThirds_3_b at h
    refine j_iload C dX5_takeThirds_3 (lv_at hl 4 rfl) ?_
    refine j_iconst C dX5_takeThirds_5 ?_
    obtain ⟨g_1, h⟩ := h
    refine j_icmp_ge C 57 g_1 (by unfold jR; decide) dX5_takeThirds_6 (by decide) (fun c_2 => ?_) (fun c_2 => ?_)
    · have h := h.1 c_2
      exact j_vret C hH ⟨_, rfl, h⟩ dX5_takeThirds_57
    · have h := h.2 c_2
      refine j_aload_n C dX5_takeThirds_9 (lv_at hl 0 rfl) ?_
      refine xg_X5_corner C hH dX5_takeThirds_10 ?_
      refine j_iconst C dX5_takeThirds_13 ?_
      refine j_iload_n C dX5_takeThirds_14 (lv_at hl 2 rfl) ?_
      refine j_imul C dX5_takeThirds_15 ?_
      refine j_iload C dX5_takeThirds_16 (lv_at hl 4 rfl) ?_
      refine j_iadd C dX5_takeThirds_18 ?_
      refine j_aload_n C dX5_takeThirds_19 (lv_at hl 0 rfl) ?_
      refine xg_X5_act C hH dX5_takeThirds_20 ?_
      refine j_iload_n C dX5_takeThirds_23 (lv_at hl 1 rfl) ?_
      refine j_iload C dX5_takeThirds_24 (lv_at hl 4 rfl) ?_
      refine j_iadd C dX5_takeThirds_26 ?_
      obtain ⟨b_3, h⟩ := h
      refine xa_mAct C hH b_3 dX5_takeThirds_27 ?_
      obtain ⟨b_4, h⟩ := h
      refine xs_mCorner C hH b_4 dX5_takeThirds_28 (fun mCorner_5 e_mCorner_5 H locs hH => ?_)
      have h := h mCorner_5 e_mCorner_5
      refine j_aload_n C dX5_takeThirds_29 (lv_at hl 0 rfl) ?_
      refine xg_X5_corner C hH dX5_takeThirds_30 ?_
      refine j_iconst C dX5_takeThirds_33 ?_
      refine j_iload_n C dX5_takeThirds_34 (lv_at hl 3 rfl) ?_
      refine j_imul C dX5_takeThirds_35 ?_
      refine j_iload C dX5_takeThirds_36 (lv_at hl 4 rfl) ?_
      refine j_iadd C dX5_takeThirds_38 ?_
      refine j_aload_n C dX5_takeThirds_39 (lv_at hl 0 rfl) ?_
      refine xg_X5_act C hH dX5_takeThirds_40 ?_
      refine j_iload_n C dX5_takeThirds_43 (lv_at hl 1 rfl) ?_
      refine j_iconst C dX5_takeThirds_44 ?_
      refine j_iadd C dX5_takeThirds_45 ?_
      refine j_iload C dX5_takeThirds_46 (lv_at hl 4 rfl) ?_
      refine j_iadd C dX5_takeThirds_48 ?_
      obtain ⟨b_6, h⟩ := h
      refine xa_mAct C hH b_6 dX5_takeThirds_49 ?_
      obtain ⟨b_7, h⟩ := h
      refine xs_mCorner C hH b_7 dX5_takeThirds_50 (fun mCorner_8 e_mCorner_8 H locs hH => ?_)
      have h := h mCorner_8 e_mCorner_8
      refine j_iinc (k := 4) (v := x4 + 1) (lv' := [(4, .int (J (x4 + 1))), (0, .ref (a 0)), (1, .int (J x1)), (2, .int (J x2)), (3, .int (J x3))]) C dX5_takeThirds_51 hl rfl rfl (by decide) rfl (fun ls hl => ?_)
      refine j_goto C 3 dX5_takeThirds_54 (by decide) ?_
      exact hK3 (x4 + 1) mCorner_8 h _ _ _ hH (lv_sub hl [1, 2, 3, 4, 0] rfl)
set_option maxRecDepth 4000 in
theorem c_M_takeThirds {l : Launch} {D : va_G} {cA : ClassId} {a : Nat → Nat} {sz : Nat} {mPosts mThirds mStraight mLeast mIsLaid mIsGiven mActs mDone mQueued : Int} {mCorner mSum mBeyond mAct mMark mSpare mLack mBefore mVia mQueue : Nat → Int} {x1 x2 x3 : Int} {Q : (Nat → Int) → Prop} (h : wp_M_takeThirds x1 x2 x3 mCorner mAct Q) : Met l yX5_takeThirds (.code yX5_takeThirds cX5_takeThirds 5 none :: lw_ok) rm_M_takeThirds (xPre D cA sz [.ref (a 0), .int (J x1), .int (J x2), .int (J x3)] (wM cA a mPosts mThirds mStraight mLeast mIsLaid mIsGiven mActs mDone mQueued mCorner mSum mBeyond mAct mMark mSpare mLack mBefore mVia mQueue)) (va_Qv (po_M_takeThirds cA a mPosts mThirds mStraight mLeast mIsLaid mIsGiven mActs mDone mQueued mSum mBeyond mAct mMark mSpare mLack mBefore mVia mQueue Q) (xB D cA (va_A (wM cA a mPosts mThirds mStraight mLeast mIsLaid mIsGiven mActs mDone mQueued mCorner mSum mBeyond mAct mMark mSpare mLack mBefore mVia mQueue) sz)) (va_A (wM cA a mPosts mThirds mStraight mLeast mIsLaid mIsGiven mActs mDone mQueued mCorner mSum mBeyond mAct mMark mSpare mLack mBefore mVia mQueue) sz)) 0 0 (va_A (wM cA a mPosts mThirds mStraight mLeast mIsLaid mIsGiven mActs mDone mQueued mCorner mSum mBeyond mAct mMark mSpare mLack mBefore mVia mQueue) sz) := by
  refine xmet_v (by decide) (Nat.le_of_ble_eq_true rfl) ?_
  intro p e s m args below meth c A ls C hH hl
  have C : XC p s m args meth c cX5_takeThirds 5 RX5 none D cA A := C
  have hl : lv_has ls 5 [(0, .ref (a 0)), (1, .int (J x1)), (2, .int (J x2)), (3, .int (J x3))] := hl
  unfold wp_M_takeThirds at h
  refine j_iconst C dX5_takeThirds_0 ?_
  refine j_istore (lv' := [(4, .int (J 0)), (0, .ref (a 0)), (1, .int (J x1)), (2, .int (J x2)), (3, .int (J x3))]) C dX5_takeThirds_1 hl (by decide) rfl (fun ls hl => ?_)
  obtain ⟨n_, h⟩ := h
  exact w_M_takeThirds_3 C  n_ 0 mCorner h _ _ _ hH (lv_sub hl [1, 2, 3, 4, 0] rfl)
abbrev po_M_third (cA : ClassId) (a : Nat → Nat) (mPosts mStraight mLeast mIsGiven mQueued : Int) (mSum mBeyond mMark mSpare mLack mBefore mVia mQueue : Nat → Int) (Q : Int → Int → Int → Int → Int → (Nat → Int) → (Nat → Int) → Prop) : Int32 → va_W → Prop := fun r w => ∃ z mThirds' mIsLaid' mActs' mDone' mCorner' mAct', r = J z ∧ w = wM cA a mPosts mThirds' mStraight mLeast mIsLaid' mIsGiven mActs' mDone' mQueued mCorner' mSum mBeyond mAct' mMark mSpare mLack mBefore mVia mQueue ∧ Q z mThirds' mIsLaid' mActs' mDone' mCorner' mAct'
set_option maxRecDepth 4000 in
theorem c_M_third {l : Launch} {D : va_G} {cA : ClassId} {a : Nat → Nat} {sz : Nat} {mPosts mThirds mStraight mLeast mIsLaid mIsGiven mActs mDone mQueued : Int} {mCorner mSum mBeyond mAct mMark mSpare mLack mBefore mVia mQueue : Nat → Int} {x1 x2 x3 : Int} {Q : Int → Int → Int → Int → Int → (Nat → Int) → (Nat → Int) → Prop} (h : wp_M_third x1 x2 x3 mPosts mThirds mIsLaid mActs mDone mCorner mAct Q) : Met l yX5_third (.code yX5_third cX5_third 4 (some .int) :: lw_ok) rm_M_third (xPre D cA sz [.ref (a 0), .int (J x1), .int (J x2), .int (J x3)] (wM cA a mPosts mThirds mStraight mLeast mIsLaid mIsGiven mActs mDone mQueued mCorner mSum mBeyond mAct mMark mSpare mLack mBefore mVia mQueue)) (va_Qi (po_M_third cA a mPosts mStraight mLeast mIsGiven mQueued mSum mBeyond mMark mSpare mLack mBefore mVia mQueue Q) (xB D cA (va_A (wM cA a mPosts mThirds mStraight mLeast mIsLaid mIsGiven mActs mDone mQueued mCorner mSum mBeyond mAct mMark mSpare mLack mBefore mVia mQueue) sz)) (va_A (wM cA a mPosts mThirds mStraight mLeast mIsLaid mIsGiven mActs mDone mQueued mCorner mSum mBeyond mAct mMark mSpare mLack mBefore mVia mQueue) sz)) 0 0 (va_A (wM cA a mPosts mThirds mStraight mLeast mIsLaid mIsGiven mActs mDone mQueued mCorner mSum mBeyond mAct mMark mSpare mLack mBefore mVia mQueue) sz) := by
  refine xmet_i (by decide) (Nat.le_of_ble_eq_true rfl) ?_
  intro p e s m args below meth c A ls C hH hl
  have C : XC p s m args meth c cX5_third 4 RX5 (some .int) D cA A := C
  have hl : lv_has ls 4 [(0, .ref (a 0)), (1, .int (J x1)), (2, .int (J x2)), (3, .int (J x3))] := hl
  unfold wp_M_third at h
  refine j_aload_n C dX5_third_0 (lv_at hl 0 rfl) ?_
  refine j_iload_n C dX5_third_1 (lv_at hl 1 rfl) ?_
  refine j_iload_n C dX5_third_2 (lv_at hl 2 rfl) ?_
  refine xcallV_i (As := [.int (J x1), .int (J x2)]) (rest := []) (q0 := 0) C hH (fun sz => c_M_arePair h) xl_X5_78 rfl rfl ⟨rfl, rfl⟩ ⟨Nat.le_of_ble_eq_true rfl, Nat.le_of_ble_eq_true rfl⟩ hl.1 rfl rfl (Nat.le_of_ble_eq_true rfl) dX5_third_3 (fun r_ w_ H locs hw hH => ?_)
  obtain ⟨z_1, rfl, rfl, h⟩ := hw
  obtain ⟨g_2, h⟩ := h
  refine j_if_eq C 23 g_2 dX5_third_6 (by decide) (fun c_3 => ?_) (fun c_3 => ?_)
  · have h := h.1 c_3
    refine j_iconst C dX5_third_23 ?_
    exact j_iret C hH ⟨_, _, _, _, _, _, _, rfl, rfl, h⟩ dX5_third_24
  · have h := h.2 c_3
    refine j_aload_n C dX5_third_9 (lv_at hl 0 rfl) ?_
    refine j_iload_n C dX5_third_10 (lv_at hl 2 rfl) ?_
    refine j_iload_n C dX5_third_11 (lv_at hl 3 rfl) ?_
    refine xcallV_i (As := [.int (J x2), .int (J x3)]) (rest := []) (q0 := 0) C hH (fun sz => c_M_arePair h) xl_X5_78 rfl rfl ⟨rfl, rfl⟩ ⟨Nat.le_of_ble_eq_true rfl, Nat.le_of_ble_eq_true rfl⟩ hl.1 rfl rfl (Nat.le_of_ble_eq_true rfl) dX5_third_12 (fun r_ w_ H locs hw hH => ?_)
    obtain ⟨z_4, rfl, rfl, h⟩ := hw
    obtain ⟨g_5, h⟩ := h
    refine j_if_eq C 23 g_5 dX5_third_15 (by decide) (fun c_6 => ?_) (fun c_6 => ?_)
    · have h := h.1 c_6
      refine j_iconst C dX5_third_23 ?_
      exact j_iret C hH ⟨_, _, _, _, _, _, _, rfl, rfl, h⟩ dX5_third_24
    · have h := h.2 c_6
      refine j_iload_n C dX5_third_18 (lv_at hl 1 rfl) ?_
      refine j_iload_n C dX5_third_19 (lv_at hl 3 rfl) ?_
      obtain ⟨g_7, h⟩ := h
      obtain ⟨g_8, h⟩ := h
      refine j_icmp_ne C 25 g_7 g_8 dX5_third_20 (by decide) (fun c_9 => ?_) (fun c_9 => ?_)
      · have h := h.2 c_9
        refine j_aload_n C dX5_third_25 (lv_at hl 0 rfl) ?_
        refine xg_X5_thirds C hH dX5_third_26 ?_
        refine j_bipush C (by decide +kernel) dX5_third_29 ?_
        obtain ⟨g_10, h⟩ := h
        refine j_icmp_ne C 37 g_10 (by unfold jR; decide) dX5_third_31 (by decide) (fun c_11 => ?_) (fun c_11 => ?_)
        · have h := h.2 c_11
          refine j_aload_n C dX5_third_37 (lv_at hl 0 rfl) ?_
          refine j_iload_n C dX5_third_38 (lv_at hl 1 rfl) ?_
          refine j_iload_n C dX5_third_39 (lv_at hl 2 rfl) ?_
          refine xcallV_i (As := [.int (J x1), .int (J x2)]) (rest := []) (q0 := 0) C hH (fun sz => c_M_arrowOf h) xl_X5_74 rfl rfl ⟨rfl, rfl⟩ ⟨Nat.le_of_ble_eq_true rfl, Nat.le_of_ble_eq_true rfl⟩ hl.1 rfl rfl (Nat.le_of_ble_eq_true rfl) dX5_third_40 (fun r_ w_ H locs hw hH => ?_)
          obtain ⟨z_12, rfl, rfl, h⟩ := hw
          obtain ⟨g_13, h⟩ := h
          refine j_if_ge C 64 g_13 dX5_third_43 (by decide) (fun c_14 => ?_) (fun c_14 => ?_)
          · have h := h.1 c_14
            refine j_bipush C (by decide +kernel) dX5_third_64 ?_
            exact j_iret C hH ⟨_, _, _, _, _, _, _, rfl, rfl, h⟩ dX5_third_66
          · have h := h.2 c_14
            refine j_aload_n C dX5_third_46 (lv_at hl 0 rfl) ?_
            refine j_iload_n C dX5_third_47 (lv_at hl 2 rfl) ?_
            refine j_iload_n C dX5_third_48 (lv_at hl 3 rfl) ?_
            refine xcallV_i (As := [.int (J x2), .int (J x3)]) (rest := []) (q0 := 0) C hH (fun sz => c_M_arrowOf h) xl_X5_74 rfl rfl ⟨rfl, rfl⟩ ⟨Nat.le_of_ble_eq_true rfl, Nat.le_of_ble_eq_true rfl⟩ hl.1 rfl rfl (Nat.le_of_ble_eq_true rfl) dX5_third_49 (fun r_ w_ H locs hw hH => ?_)
            obtain ⟨z_15, rfl, rfl, h⟩ := hw
            obtain ⟨g_16, h⟩ := h
            refine j_if_ge C 64 g_16 dX5_third_52 (by decide) (fun c_17 => ?_) (fun c_17 => ?_)
            · have h := h.1 c_17
              refine j_bipush C (by decide +kernel) dX5_third_64 ?_
              exact j_iret C hH ⟨_, _, _, _, _, _, _, rfl, rfl, h⟩ dX5_third_66
            · have h := h.2 c_17
              refine j_aload_n C dX5_third_55 (lv_at hl 0 rfl) ?_
              refine j_iload_n C dX5_third_56 (lv_at hl 3 rfl) ?_
              refine j_iload_n C dX5_third_57 (lv_at hl 1 rfl) ?_
              refine xcallV_i (As := [.int (J x3), .int (J x1)]) (rest := []) (q0 := 0) C hH (fun sz => c_M_arrowOf h) xl_X5_74 rfl rfl ⟨rfl, rfl⟩ ⟨Nat.le_of_ble_eq_true rfl, Nat.le_of_ble_eq_true rfl⟩ hl.1 rfl rfl (Nat.le_of_ble_eq_true rfl) dX5_third_58 (fun r_ w_ H locs hw hH => ?_)
              obtain ⟨z_18, rfl, rfl, h⟩ := hw
              obtain ⟨g_19, h⟩ := h
              refine j_if_lt C 67 g_19 dX5_third_61 (by decide) (fun c_20 => ?_) (fun c_20 => ?_)
              · have h := h.1 c_20
                refine j_aload_n C dX5_third_67 (lv_at hl 0 rfl) ?_
                refine j_aload_n C dX5_third_68 (lv_at hl 0 rfl) ?_
                refine xg_X5_thirds C hH dX5_third_69 ?_
                refine j_iload_n C dX5_third_72 (lv_at hl 1 rfl) ?_
                refine j_iload_n C dX5_third_73 (lv_at hl 2 rfl) ?_
                refine j_iload_n C dX5_third_74 (lv_at hl 3 rfl) ?_
                refine xcallV_v (As := [.int (J mThirds), .int (J x1), .int (J x2), .int (J x3)]) (rest := []) (q0 := 0) C hH (fun sz => c_M_put h) xl_X5_82 rfl rfl ⟨rfl, rfl⟩ ⟨Nat.le_of_ble_eq_true rfl, Nat.le_of_ble_eq_true rfl⟩ hl.1 rfl rfl (Nat.le_of_ble_eq_true rfl) dX5_third_75 (fun w_ H locs hw hH => ?_)
                obtain ⟨mCorner_21, rfl, h⟩ := hw
                refine j_aload_n C dX5_third_78 (lv_at hl 0 rfl) ?_
                refine j_iconst C dX5_third_79 ?_
                refine j_aload_n C dX5_third_80 (lv_at hl 0 rfl) ?_
                refine xg_X5_thirds C hH dX5_third_81 ?_
                refine j_aload_n C dX5_third_84 (lv_at hl 0 rfl) ?_
                refine xg_X5_thirds C hH dX5_third_85 ?_
                refine xcallV_v (As := [.int (J 0), .int (J mThirds), .int (J mThirds)]) (rest := []) (q0 := 0) C hH (fun sz => c_M_write h) xl_X5_86 rfl rfl ⟨rfl, rfl⟩ ⟨Nat.le_of_ble_eq_true rfl, Nat.le_of_ble_eq_true rfl⟩ hl.1 rfl rfl (Nat.le_of_ble_eq_true rfl) dX5_third_88 (fun w_ H locs hw hH => ?_)
                obtain ⟨mIsLaid_22, mActs_23, mDone_24, mAct_25, rfl, h⟩ := hw
                refine j_aload_n C dX5_third_91 (lv_at hl 0 rfl) ?_
                refine j_bipush C (by decide +kernel) dX5_third_92 ?_
                refine j_aload_n C dX5_third_94 (lv_at hl 0 rfl) ?_
                refine xg_X5_done C hH dX5_third_95 ?_
                refine j_iconst C dX5_third_98 ?_
                refine j_isub C dX5_third_99 ?_
                refine j_imul C dX5_third_100 ?_
                refine j_bipush C (by decide +kernel) dX5_third_101 ?_
                refine j_iadd C dX5_third_103 ?_
                refine j_aload_n C dX5_third_104 (lv_at hl 0 rfl) ?_
                refine xg_X5_thirds C hH dX5_third_105 ?_
                refine j_aload_n C dX5_third_108 (lv_at hl 0 rfl) ?_
                refine xg_X5_thirds C hH dX5_third_109 ?_
                refine xcallV_v (As := [.int (J ((15 * (mDone_24 - 1)) + 9)), .int (J mThirds), .int (J mThirds)]) (rest := []) (q0 := 0) C hH (fun sz => c_M_keepThirds h) xl_X5_90 rfl rfl ⟨rfl, rfl⟩ ⟨Nat.le_of_ble_eq_true rfl, Nat.le_of_ble_eq_true rfl⟩ hl.1 rfl rfl (Nat.le_of_ble_eq_true rfl) dX5_third_112 (fun w_ H locs hw hH => ?_)
                obtain ⟨mAct_26, rfl, h⟩ := hw
                refine j_aload_n C dX5_third_115 (lv_at hl 0 rfl) ?_
                refine j_dup C rfl dX5_third_116 ?_
                refine xg_X5_thirds C hH dX5_third_117 ?_
                refine j_iconst C dX5_third_120 ?_
                refine j_iadd C dX5_third_121 ?_
                refine xp_X5_thirds C hH dX5_third_122 (fun H locs hH => ?_)
                refine j_aload_n C dX5_third_125 (lv_at hl 0 rfl) ?_
                refine xg_X5_thirds C hH dX5_third_126 ?_
                refine j_iconst C dX5_third_129 ?_
                refine j_isub C dX5_third_130 ?_
                exact j_iret C hH ⟨_, _, _, _, _, _, _, rfl, rfl, h⟩ dX5_third_131
              · have h := h.2 c_20
                refine j_bipush C (by decide +kernel) dX5_third_64 ?_
                exact j_iret C hH ⟨_, _, _, _, _, _, _, rfl, rfl, h⟩ dX5_third_66
        · have h := h.1 c_11
          refine j_bipush C (by decide +kernel) dX5_third_34 ?_
          exact j_iret C hH ⟨_, _, _, _, _, _, _, rfl, rfl, h⟩ dX5_third_36
      · have h := h.1 c_9
        refine j_iconst C dX5_third_23 ?_
        exact j_iret C hH ⟨_, _, _, _, _, _, _, rfl, rfl, h⟩ dX5_third_24
abbrev po_M_at (cA : ClassId) (a : Nat → Nat) (mPosts mThirds mStraight mLeast mIsLaid mIsGiven mActs mDone mQueued : Int) (mCorner mSum mBeyond mAct mMark mSpare mLack mBefore mVia mQueue : Nat → Int) (Q : Int → Prop) : Int32 → va_W → Prop := fun r w => ∃ z, r = J z ∧ w = wM cA a mPosts mThirds mStraight mLeast mIsLaid mIsGiven mActs mDone mQueued mCorner mSum mBeyond mAct mMark mSpare mLack mBefore mVia mQueue ∧ Q z
set_option maxRecDepth 4000 in
theorem c_M_at {l : Launch} {D : va_G} {cA : ClassId} {a : Nat → Nat} {sz : Nat} {mPosts mThirds mStraight mLeast mIsLaid mIsGiven mActs mDone mQueued : Int} {mCorner mSum mBeyond mAct mMark mSpare mLack mBefore mVia mQueue : Nat → Int} {x1 : Int} {Q : Int → Prop} (h : wp_M_at x1 mThirds mCorner Q) : Met l yX5_at (.code yX5_at cX5_at 2 (some .int) :: lw_ok) rm_M_at (xPre D cA sz [.ref (a 0), .int (J x1)] (wM cA a mPosts mThirds mStraight mLeast mIsLaid mIsGiven mActs mDone mQueued mCorner mSum mBeyond mAct mMark mSpare mLack mBefore mVia mQueue)) (va_Qi (po_M_at cA a mPosts mThirds mStraight mLeast mIsLaid mIsGiven mActs mDone mQueued mCorner mSum mBeyond mAct mMark mSpare mLack mBefore mVia mQueue Q) (xB D cA (va_A (wM cA a mPosts mThirds mStraight mLeast mIsLaid mIsGiven mActs mDone mQueued mCorner mSum mBeyond mAct mMark mSpare mLack mBefore mVia mQueue) sz)) (va_A (wM cA a mPosts mThirds mStraight mLeast mIsLaid mIsGiven mActs mDone mQueued mCorner mSum mBeyond mAct mMark mSpare mLack mBefore mVia mQueue) sz)) 0 0 (va_A (wM cA a mPosts mThirds mStraight mLeast mIsLaid mIsGiven mActs mDone mQueued mCorner mSum mBeyond mAct mMark mSpare mLack mBefore mVia mQueue) sz) := by
  refine xmet_i (by decide) (Nat.le_of_ble_eq_true rfl) ?_
  intro p e s m args below meth c A ls C hH hl
  have C : XC p s m args meth c cX5_at 2 RX5 (some .int) D cA A := C
  have hl : lv_has ls 2 [(0, .ref (a 0)), (1, .int (J x1))] := hl
  unfold wp_M_at at h
  refine j_iload_n C dX5_at_0 (lv_at hl 1 rfl) ?_
  refine j_iconst C dX5_at_1 ?_
  refine j_iconst C dX5_at_2 ?_
  refine j_aload_n C dX5_at_3 (lv_at hl 0 rfl) ?_
  refine xg_X5_thirds C hH dX5_at_4 ?_
  refine j_imul C dX5_at_7 ?_
  refine j_iconst C dX5_at_8 ?_
  refine j_isub C dX5_at_9 ?_
  refine xcallS_i (As := [.int (J x1), .int (J 0), .int (J ((3 * mThirds) - 1))]) (rest := []) C hH (fun sz => c_M_in h) xl_X5_66 ⟨rfl, rfl⟩ ⟨Nat.le_of_ble_eq_true rfl, Nat.le_of_ble_eq_true rfl⟩ hl.1 rfl rfl (Nat.le_of_ble_eq_true rfl) dX5_at_10 (fun r_ w_ H locs hw hH => ?_)
  obtain ⟨z_1, rfl, rfl, h⟩ := hw
  obtain ⟨g_2, h⟩ := h
  refine j_if_eq C 25 g_2 dX5_at_13 (by decide) (fun c_3 => ?_) (fun c_3 => ?_)
  · have h := h.1 c_3
    refine j_iconst C dX5_at_25 ?_
    exact j_iret C hH ⟨_, rfl, rfl, h⟩ dX5_at_26
  · have h := h.2 c_3
    refine j_aload_n C dX5_at_16 (lv_at hl 0 rfl) ?_
    refine xg_X5_corner C hH dX5_at_17 ?_
    refine j_iload_n C dX5_at_20 (lv_at hl 1 rfl) ?_
    obtain ⟨b_4, h⟩ := h
    refine xa_mCorner C hH b_4 dX5_at_21 ?_
    refine j_goto C 26 dX5_at_22 (by decide) ?_
    exact j_iret C hH ⟨_, rfl, rfl, h⟩ dX5_at_26
abbrev po_M_side (cA : ClassId) (a : Nat → Nat) (mPosts mThirds mStraight mLeast mIsLaid mIsGiven mActs mDone mQueued : Int) (mCorner mSum mBeyond mAct mMark mSpare mLack mBefore mVia mQueue : Nat → Int) (Q : Int → Prop) : Int32 → va_W → Prop := fun r w => ∃ z, r = J z ∧ w = wM cA a mPosts mThirds mStraight mLeast mIsLaid mIsGiven mActs mDone mQueued mCorner mSum mBeyond mAct mMark mSpare mLack mBefore mVia mQueue ∧ Q z
set_option maxRecDepth 4000 in
theorem c_M_side {l : Launch} {D : va_G} {cA : ClassId} {a : Nat → Nat} {sz : Nat} {mPosts mThirds mStraight mLeast mIsLaid mIsGiven mActs mDone mQueued : Int} {mCorner mSum mBeyond mAct mMark mSpare mLack mBefore mVia mQueue : Nat → Int} {x1 x2 : Int} {Q : Int → Prop} (h : wp_M_side x1 x2 mPosts mThirds mCorner Q) : Met l yX5_side (.code yX5_side cX5_side 3 (some .int) :: lw_ok) rm_M_side (xPre D cA sz [.ref (a 0), .int (J x1), .int (J x2)] (wM cA a mPosts mThirds mStraight mLeast mIsLaid mIsGiven mActs mDone mQueued mCorner mSum mBeyond mAct mMark mSpare mLack mBefore mVia mQueue)) (va_Qi (po_M_side cA a mPosts mThirds mStraight mLeast mIsLaid mIsGiven mActs mDone mQueued mCorner mSum mBeyond mAct mMark mSpare mLack mBefore mVia mQueue Q) (xB D cA (va_A (wM cA a mPosts mThirds mStraight mLeast mIsLaid mIsGiven mActs mDone mQueued mCorner mSum mBeyond mAct mMark mSpare mLack mBefore mVia mQueue) sz)) (va_A (wM cA a mPosts mThirds mStraight mLeast mIsLaid mIsGiven mActs mDone mQueued mCorner mSum mBeyond mAct mMark mSpare mLack mBefore mVia mQueue) sz)) 0 0 (va_A (wM cA a mPosts mThirds mStraight mLeast mIsLaid mIsGiven mActs mDone mQueued mCorner mSum mBeyond mAct mMark mSpare mLack mBefore mVia mQueue) sz) := by
  refine xmet_i (by decide) (Nat.le_of_ble_eq_true rfl) ?_
  intro p e s m args below meth c A ls C hH hl
  have C : XC p s m args meth c cX5_side 3 RX5 (some .int) D cA A := C
  have hl : lv_has ls 3 [(0, .ref (a 0)), (1, .int (J x1)), (2, .int (J x2))] := hl
  unfold wp_M_side at h
  refine j_aload_n C dX5_side_0 (lv_at hl 0 rfl) ?_
  refine j_iload_n C dX5_side_1 (lv_at hl 1 rfl) ?_
  refine j_iload_n C dX5_side_2 (lv_at hl 2 rfl) ?_
  refine xcallV_i (As := [.int (J x1), .int (J x2)]) (rest := []) (q0 := 0) C hH (fun sz => c_M_arePair h) xl_X5_78 rfl rfl ⟨rfl, rfl⟩ ⟨Nat.le_of_ble_eq_true rfl, Nat.le_of_ble_eq_true rfl⟩ hl.1 rfl rfl (Nat.le_of_ble_eq_true rfl) dX5_side_3 (fun r_ w_ H locs hw hH => ?_)
  obtain ⟨z_1, rfl, rfl, h⟩ := hw
  obtain ⟨g_2, h⟩ := h
  refine j_if_eq C 18 g_2 dX5_side_6 (by decide) (fun c_3 => ?_) (fun c_3 => ?_)
  · have h := h.1 c_3
    refine j_iconst C dX5_side_18 ?_
    exact j_iret C hH ⟨_, rfl, rfl, h⟩ dX5_side_19
  · have h := h.2 c_3
    refine j_aload_n C dX5_side_9 (lv_at hl 0 rfl) ?_
    refine j_iload_n C dX5_side_10 (lv_at hl 1 rfl) ?_
    refine j_iload_n C dX5_side_11 (lv_at hl 2 rfl) ?_
    refine xcallV_i (As := [.int (J x1), .int (J x2)]) (rest := []) (q0 := 0) C hH (fun sz => c_M_sideOf h) xl_X5_93 rfl rfl ⟨rfl, rfl⟩ ⟨Nat.le_of_ble_eq_true rfl, Nat.le_of_ble_eq_true rfl⟩ hl.1 rfl rfl (Nat.le_of_ble_eq_true rfl) dX5_side_12 (fun r_ w_ H locs hw hH => ?_)
    obtain ⟨z_4, rfl, rfl, h⟩ := hw
    refine j_goto C 19 dX5_side_15 (by decide) ?_
    exact j_iret C hH ⟨_, rfl, rfl, h⟩ dX5_side_19
abbrev po_M_arrow (cA : ClassId) (a : Nat → Nat) (mPosts mThirds mStraight mLeast mIsLaid mIsGiven mActs mDone mQueued : Int) (mCorner mSum mBeyond mAct mMark mSpare mLack mBefore mVia mQueue : Nat → Int) (Q : Int → Prop) : Int32 → va_W → Prop := fun r w => ∃ z, r = J z ∧ w = wM cA a mPosts mThirds mStraight mLeast mIsLaid mIsGiven mActs mDone mQueued mCorner mSum mBeyond mAct mMark mSpare mLack mBefore mVia mQueue ∧ Q z
set_option maxRecDepth 4000 in
theorem c_M_arrow {l : Launch} {D : va_G} {cA : ClassId} {a : Nat → Nat} {sz : Nat} {mPosts mThirds mStraight mLeast mIsLaid mIsGiven mActs mDone mQueued : Int} {mCorner mSum mBeyond mAct mMark mSpare mLack mBefore mVia mQueue : Nat → Int} {x1 x2 : Int} {Q : Int → Prop} (h : wp_M_arrow x1 x2 mPosts mThirds mCorner Q) : Met l yX5_arrow (.code yX5_arrow cX5_arrow 3 (some .int) :: lw_ok) rm_M_arrow (xPre D cA sz [.ref (a 0), .int (J x1), .int (J x2)] (wM cA a mPosts mThirds mStraight mLeast mIsLaid mIsGiven mActs mDone mQueued mCorner mSum mBeyond mAct mMark mSpare mLack mBefore mVia mQueue)) (va_Qi (po_M_arrow cA a mPosts mThirds mStraight mLeast mIsLaid mIsGiven mActs mDone mQueued mCorner mSum mBeyond mAct mMark mSpare mLack mBefore mVia mQueue Q) (xB D cA (va_A (wM cA a mPosts mThirds mStraight mLeast mIsLaid mIsGiven mActs mDone mQueued mCorner mSum mBeyond mAct mMark mSpare mLack mBefore mVia mQueue) sz)) (va_A (wM cA a mPosts mThirds mStraight mLeast mIsLaid mIsGiven mActs mDone mQueued mCorner mSum mBeyond mAct mMark mSpare mLack mBefore mVia mQueue) sz)) 0 0 (va_A (wM cA a mPosts mThirds mStraight mLeast mIsLaid mIsGiven mActs mDone mQueued mCorner mSum mBeyond mAct mMark mSpare mLack mBefore mVia mQueue) sz) := by
  refine xmet_i (by decide) (Nat.le_of_ble_eq_true rfl) ?_
  intro p e s m args below meth c A ls C hH hl
  have C : XC p s m args meth c cX5_arrow 3 RX5 (some .int) D cA A := C
  have hl : lv_has ls 3 [(0, .ref (a 0)), (1, .int (J x1)), (2, .int (J x2))] := hl
  unfold wp_M_arrow at h
  refine j_aload_n C dX5_arrow_0 (lv_at hl 0 rfl) ?_
  refine j_iload_n C dX5_arrow_1 (lv_at hl 1 rfl) ?_
  refine j_iload_n C dX5_arrow_2 (lv_at hl 2 rfl) ?_
  refine xcallV_i (As := [.int (J x1), .int (J x2)]) (rest := []) (q0 := 0) C hH (fun sz => c_M_arePair h) xl_X5_78 rfl rfl ⟨rfl, rfl⟩ ⟨Nat.le_of_ble_eq_true rfl, Nat.le_of_ble_eq_true rfl⟩ hl.1 rfl rfl (Nat.le_of_ble_eq_true rfl) dX5_arrow_3 (fun r_ w_ H locs hw hH => ?_)
  obtain ⟨z_1, rfl, rfl, h⟩ := hw
  obtain ⟨g_2, h⟩ := h
  refine j_if_eq C 18 g_2 dX5_arrow_6 (by decide) (fun c_3 => ?_) (fun c_3 => ?_)
  · have h := h.1 c_3
    refine j_iconst C dX5_arrow_18 ?_
    exact j_iret C hH ⟨_, rfl, rfl, h⟩ dX5_arrow_19
  · have h := h.2 c_3
    refine j_aload_n C dX5_arrow_9 (lv_at hl 0 rfl) ?_
    refine j_iload_n C dX5_arrow_10 (lv_at hl 1 rfl) ?_
    refine j_iload_n C dX5_arrow_11 (lv_at hl 2 rfl) ?_
    refine xcallV_i (As := [.int (J x1), .int (J x2)]) (rest := []) (q0 := 0) C hH (fun sz => c_M_arrowOf h) xl_X5_74 rfl rfl ⟨rfl, rfl⟩ ⟨Nat.le_of_ble_eq_true rfl, Nat.le_of_ble_eq_true rfl⟩ hl.1 rfl rfl (Nat.le_of_ble_eq_true rfl) dX5_arrow_12 (fun r_ w_ H locs hw hH => ?_)
    obtain ⟨z_4, rfl, rfl, h⟩ := hw
    refine j_goto C 19 dX5_arrow_15 (by decide) ?_
    exact j_iret C hH ⟨_, rfl, rfl, h⟩ dX5_arrow_19
abbrev po_M_oppositeCorner (cA : ClassId) (a : Nat → Nat) (mPosts mThirds mStraight mLeast mIsLaid mIsGiven mActs mDone mQueued : Int) (mCorner mSum mBeyond mAct mMark mSpare mLack mBefore mVia mQueue : Nat → Int) (Q : Int → Prop) : Int32 → va_W → Prop := fun r w => ∃ z, r = J z ∧ w = wM cA a mPosts mThirds mStraight mLeast mIsLaid mIsGiven mActs mDone mQueued mCorner mSum mBeyond mAct mMark mSpare mLack mBefore mVia mQueue ∧ Q z
set_option maxRecDepth 4000 in
theorem w_M_oppositeCorner_5 {p : Program} {l : Launch} {e : Env} {s : State} {m : MethodId} {args : Array Value} {below : List Frame} {meth : Method} {c : Code} {D : va_G} {cA : ClassId} {A : Nat → Prop} {a : Nat → Nat} {mPosts mThirds mStraight mLeast mIsLaid mIsGiven mActs mDone mQueued : Int} {mCorner mSum mBeyond mAct mMark mSpare mLack mBefore mVia mQueue : Nat → Int} (C : XC p s m args meth c cX5_oppositeCorner 5 RX5 (some .int) D cA A) {Q : Int → Prop} {x2 : Int} {x3 : Int}  : ∀ (n : Nat) (x4 : Int), wp_M_oppositeCorner_5 Q mCorner x2 x3 n x4 → ∀ (H : Heap) (locs : List Loc) (ls : Array Slot), XH D A s (wM cA a mPosts mThirds mStraight mLeast mIsLaid mIsGiven mActs mDone mQueued mCorner mSum mBeyond mAct mMark mSpare mLack mBefore mVia mQueue) H locs → lv_has ls 5 [(0, .ref (a 0)), (2, .int (J x2)), (3, .int (J x3)), (4, .int (J x4))] → W p l e rm_M_oppositeCorner s m args below meth c H locs 0 0 (MQ below (va_Qi (po_M_oppositeCorner cA a mPosts mThirds mStraight mLeast mIsLaid mIsGiven mActs mDone mQueued mCorner mSum mBeyond mAct mMark mSpare mLack mBefore mVia mQueue Q) (xB D cA A) A) args s 0 0 A) (F0 m 5 ls []) := by
  intro n
  induction n with
  | zero => intro x4 h; exact (show False from h).elim
  | succ n hK5 =>
    intro x4 h H locs ls hH hl
    have h : wp_M_oppositeCorner_5_b  (wp_M_oppositeCorner_5 Q mCorner x2 x3 n) Q mCorner x2 x3 x4 := h
    unfold wp_M_oppositeCorner_5_b at h
    refine j_aload_n C dX5_oppositeCorner_5 (lv_at hl 0 rfl) ?_
    refine xg_X5_corner C hH dX5_oppositeCorner_6 ?_
    refine j_iload C dX5_oppositeCorner_9 (lv_at hl 3 rfl) ?_
    obtain ⟨b_1, h⟩ := h
    refine xa_mCorner C hH b_1 dX5_oppositeCorner_11 ?_
    refine j_iload_n C dX5_oppositeCorner_12 (lv_at hl 1 rfl) ?_
    obtain ⟨g_2, h⟩ := h
    obtain ⟨g_3, h⟩ := h
    refine j_icmp_eq C 27 g_2 g_3 dX5_oppositeCorner_13 (by decide) (fun c_4 => ?_) (fun c_4 => ?_)
    · have h := h.1 c_4
      refine j_iinc (k := 3) (v := x4 + 1) (lv' := [(4, .int (J (x4 + 1))), (0, .ref (a 0)), (2, .int (J x2)), (3, .int (J x3))]) C dX5_oppositeCorner_27 hl rfl rfl (by decide) rfl (fun ls hl => ?_)
      refine j_goto C 5 dX5_oppositeCorner_30 (by decide) ?_
      exact hK5 (x4 + 1) h _ _ _ hH (lv_sub hl [1, 2, 3, 0] rfl)
    · have h := h.2 c_4
      refine j_aload_n C dX5_oppositeCorner_16 (lv_at hl 0 rfl) ?_
      refine xg_X5_corner C hH dX5_oppositeCorner_17 ?_
      refine j_iload C dX5_oppositeCorner_20 (lv_at hl 3 rfl) ?_
      refine xa_mCorner C hH b_1 dX5_oppositeCorner_22 ?_
      refine j_iload_n C dX5_oppositeCorner_23 (lv_at hl 2 rfl) ?_
      obtain ⟨g_5, h⟩ := h
      refine j_icmp_ne C 33 g_2 g_5 dX5_oppositeCorner_24 (by decide) (fun c_6 => ?_) (fun c_6 => ?_)
      · have h := h.2 c_6
        refine j_iload C dX5_oppositeCorner_33 (lv_at hl 3 rfl) ?_
        exact j_iret C hH ⟨_, rfl, rfl, h⟩ dX5_oppositeCorner_35
      · have h := h.1 c_6
        refine j_iinc (k := 3) (v := x4 + 1) (lv' := [(4, .int (J (x4 + 1))), (0, .ref (a 0)), (2, .int (J x2)), (3, .int (J x3))]) C dX5_oppositeCorner_27 hl rfl rfl (by decide) rfl (fun ls hl => ?_)
        refine j_goto C 5 dX5_oppositeCorner_30 (by decide) ?_
        exact hK5 (x4 + 1) h _ _ _ hH (lv_sub hl [1, 2, 3, 0] rfl)
set_option maxRecDepth 4000 in
theorem c_M_oppositeCorner {l : Launch} {D : va_G} {cA : ClassId} {a : Nat → Nat} {sz : Nat} {mPosts mThirds mStraight mLeast mIsLaid mIsGiven mActs mDone mQueued : Int} {mCorner mSum mBeyond mAct mMark mSpare mLack mBefore mVia mQueue : Nat → Int} {x1 x2 x3 : Int} {Q : Int → Prop} (h : wp_M_oppositeCorner x1 x2 x3 mCorner Q) : Met l yX5_oppositeCorner (.code yX5_oppositeCorner cX5_oppositeCorner 5 (some .int) :: lw_ok) rm_M_oppositeCorner (xPre D cA sz [.ref (a 0), .int (J x1), .int (J x2), .int (J x3)] (wM cA a mPosts mThirds mStraight mLeast mIsLaid mIsGiven mActs mDone mQueued mCorner mSum mBeyond mAct mMark mSpare mLack mBefore mVia mQueue)) (va_Qi (po_M_oppositeCorner cA a mPosts mThirds mStraight mLeast mIsLaid mIsGiven mActs mDone mQueued mCorner mSum mBeyond mAct mMark mSpare mLack mBefore mVia mQueue Q) (xB D cA (va_A (wM cA a mPosts mThirds mStraight mLeast mIsLaid mIsGiven mActs mDone mQueued mCorner mSum mBeyond mAct mMark mSpare mLack mBefore mVia mQueue) sz)) (va_A (wM cA a mPosts mThirds mStraight mLeast mIsLaid mIsGiven mActs mDone mQueued mCorner mSum mBeyond mAct mMark mSpare mLack mBefore mVia mQueue) sz)) 0 0 (va_A (wM cA a mPosts mThirds mStraight mLeast mIsLaid mIsGiven mActs mDone mQueued mCorner mSum mBeyond mAct mMark mSpare mLack mBefore mVia mQueue) sz) := by
  refine xmet_i (by decide) (Nat.le_of_ble_eq_true rfl) ?_
  intro p e s m args below meth c A ls C hH hl
  have C : XC p s m args meth c cX5_oppositeCorner 5 RX5 (some .int) D cA A := C
  have hl : lv_has ls 5 [(0, .ref (a 0)), (1, .int (J x1)), (2, .int (J x2)), (3, .int (J x3))] := hl
  unfold wp_M_oppositeCorner at h
  refine j_iconst C dX5_oppositeCorner_0 ?_
  refine j_iload_n C dX5_oppositeCorner_1 (lv_at hl 1 rfl) ?_
  refine j_imul C dX5_oppositeCorner_2 ?_
  refine j_istore (lv' := [(4, .int (J (3 * x1))), (0, .ref (a 0)), (1, .int (J x1)), (2, .int (J x2)), (3, .int (J x3))]) C dX5_oppositeCorner_3 hl (by decide) rfl (fun ls hl => ?_)
  obtain ⟨n_, h⟩ := h
  exact w_M_oppositeCorner_5 C  n_ (3 * x1) h _ _ _ hH (lv_sub hl [1, 3, 4, 0] rfl)

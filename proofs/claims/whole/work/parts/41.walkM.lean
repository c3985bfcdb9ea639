abbrev po_M_turn (cA : ClassId) (a : Nat → Nat) (mPosts mThirds mStraight mLeast mIsGiven mQueued : Int) (mSum mBeyond mMark mSpare mLack mBefore mVia mQueue : Nat → Int) (Q : Int → Int → Int → Int → (Nat → Int) → (Nat → Int) → Prop) : Int32 → va_W → Prop := fun r w => ∃ z mIsLaid' mActs' mDone' mCorner' mAct', r = J z ∧ w = wM cA a mPosts mThirds mStraight mLeast mIsLaid' mIsGiven mActs' mDone' mQueued mCorner' mSum mBeyond mAct' mMark mSpare mLack mBefore mVia mQueue ∧ Q z mIsLaid' mActs' mDone' mCorner' mAct'
set_option maxRecDepth 4000 in
theorem c_M_turn {l : Launch} {D : va_G} {cA : ClassId} {a : Nat → Nat} {sz : Nat} {mPosts mThirds mStraight mLeast mIsLaid mIsGiven mActs mDone mQueued : Int} {mCorner mSum mBeyond mAct mMark mSpare mLack mBefore mVia mQueue : Nat → Int} {x1 x2 : Int} {Q : Int → Int → Int → Int → (Nat → Int) → (Nat → Int) → Prop} (h : wp_M_turn x1 x2 mPosts mThirds mIsLaid mActs mDone mCorner mAct Q) : Met l yX5_turn (.code yX5_turn cX5_turn 7 (some .int) :: lw_ok) rm_M_turn (xPre D cA sz [.ref (a 0), .int (J x1), .int (J x2)] (wM cA a mPosts mThirds mStraight mLeast mIsLaid mIsGiven mActs mDone mQueued mCorner mSum mBeyond mAct mMark mSpare mLack mBefore mVia mQueue)) (va_Qi (po_M_turn cA a mPosts mThirds mStraight mLeast mIsGiven mQueued mSum mBeyond mMark mSpare mLack mBefore mVia mQueue Q) (xB D cA (va_A (wM cA a mPosts mThirds mStraight mLeast mIsLaid mIsGiven mActs mDone mQueued mCorner mSum mBeyond mAct mMark mSpare mLack mBefore mVia mQueue) sz)) (va_A (wM cA a mPosts mThirds mStraight mLeast mIsLaid mIsGiven mActs mDone mQueued mCorner mSum mBeyond mAct mMark mSpare mLack mBefore mVia mQueue) sz)) 0 0 (va_A (wM cA a mPosts mThirds mStraight mLeast mIsLaid mIsGiven mActs mDone mQueued mCorner mSum mBeyond mAct mMark mSpare mLack mBefore mVia mQueue) sz) := by
  refine xmet_i (by decide) (Nat.le_of_ble_eq_true rfl) ?_
  intro p e s m args below meth c A ls C hH hl
  have C : XC p s m args meth c cX5_turn 7 RX5 (some .int) D cA A := C
  have hl : lv_has ls 7 [(0, .ref (a 0)), (1, .int (J x1)), (2, .int (J x2))] := hl
  unfold wp_M_turn at h
  refine j_aload_n C dX5_turn_0 (lv_at hl 0 rfl) ?_
  refine j_iload_n C dX5_turn_1 (lv_at hl 1 rfl) ?_
  refine j_iload_n C dX5_turn_2 (lv_at hl 2 rfl) ?_
  refine xcallV_i (As := [.int (J x1), .int (J x2)]) (rest := []) (q0 := 0) C hH (fun sz => c_M_arePair h) xl_X5_78 rfl rfl ⟨rfl, rfl⟩ ⟨Nat.le_of_ble_eq_true rfl, Nat.le_of_ble_eq_true rfl⟩ hl.1 rfl rfl (Nat.le_of_ble_eq_true rfl) dX5_turn_3 (fun r_ w_ H locs hw hH => ?_)
  obtain ⟨z_1, rfl, rfl, h⟩ := hw
  obtain ⟨g_2, h⟩ := h
  refine j_if_eq C 18 g_2 dX5_turn_6 (by decide) (fun c_3 => ?_) (fun c_3 => ?_)
  · have h := h.1 c_3
    refine j_iconst C dX5_turn_18 ?_
    exact j_iret C hH ⟨_, _, _, _, _, _, rfl, rfl, h⟩ dX5_turn_19
  · have h := h.2 c_3
    refine j_aload_n C dX5_turn_9 (lv_at hl 0 rfl) ?_
    refine j_iload_n C dX5_turn_10 (lv_at hl 1 rfl) ?_
    refine j_iload_n C dX5_turn_11 (lv_at hl 2 rfl) ?_
    refine xcallV_i (As := [.int (J x1), .int (J x2)]) (rest := []) (q0 := 0) C hH (fun sz => c_M_sideOf h) xl_X5_93 rfl rfl ⟨rfl, rfl⟩ ⟨Nat.le_of_ble_eq_true rfl, Nat.le_of_ble_eq_true rfl⟩ hl.1 rfl rfl (Nat.le_of_ble_eq_true rfl) dX5_turn_12 (fun r_ w_ H locs hw hH => ?_)
    obtain ⟨z_4, rfl, rfl, h⟩ := hw
    obtain ⟨g_5, h⟩ := h
    refine j_if_ne C 20 g_5 dX5_turn_15 (by decide) (fun c_6 => ?_) (fun c_6 => ?_)
    · have h := h.2 c_6
      refine j_aload_n C dX5_turn_20 (lv_at hl 0 rfl) ?_
      refine j_iload_n C dX5_turn_21 (lv_at hl 1 rfl) ?_
      refine j_iload_n C dX5_turn_22 (lv_at hl 2 rfl) ?_
      refine xcallV_i (As := [.int (J x1), .int (J x2)]) (rest := []) (q0 := 0) C hH (fun sz => c_M_sideOf h) xl_X5_93 rfl rfl ⟨rfl, rfl⟩ ⟨Nat.le_of_ble_eq_true rfl, Nat.le_of_ble_eq_true rfl⟩ hl.1 rfl rfl (Nat.le_of_ble_eq_true rfl) dX5_turn_23 (fun r_ w_ H locs hw hH => ?_)
      obtain ⟨z_7, rfl, rfl, h⟩ := hw
      refine j_iconst C dX5_turn_26 ?_
      obtain ⟨g_8, h⟩ := h
      refine j_icmp_ne C 33 g_8 (by unfold jR; decide) dX5_turn_27 (by decide) (fun c_9 => ?_) (fun c_9 => ?_)
      · have h := h.2 c_9
        refine j_aload_n C dX5_turn_33 (lv_at hl 0 rfl) ?_
        refine j_iload_n C dX5_turn_34 (lv_at hl 1 rfl) ?_
        refine j_iload_n C dX5_turn_35 (lv_at hl 2 rfl) ?_
        refine xcallV_i (As := [.int (J x1), .int (J x2)]) (rest := []) (q0 := 0) C hH (fun sz => c_M_arrowOf h) xl_X5_74 rfl rfl ⟨rfl, rfl⟩ ⟨Nat.le_of_ble_eq_true rfl, Nat.le_of_ble_eq_true rfl⟩ hl.1 rfl rfl (Nat.le_of_ble_eq_true rfl) dX5_turn_36 (fun r_ w_ H locs hw hH => ?_)
        obtain ⟨z_10, rfl, rfl, h⟩ := hw
        refine j_istore_n (lv' := [(3, .int (J z_10)), (0, .ref (a 0)), (1, .int (J x1)), (2, .int (J x2))]) C dX5_turn_39 hl (by decide) rfl (fun ls hl => ?_)
        refine j_aload_n C dX5_turn_40 (lv_at hl 1 rfl) ?_
        refine j_iload_n C dX5_turn_41 (lv_at hl 3 rfl) ?_
        refine j_iload_n C dX5_turn_42 (lv_at hl 2 rfl) ?_
        refine xcallV_i (As := [.int (J x2), .int (J x1)]) (rest := []) (q0 := 0) C hH (fun sz => c_M_arrowOf h) xl_X5_74 rfl rfl ⟨rfl, rfl⟩ ⟨Nat.le_of_ble_eq_true rfl, Nat.le_of_ble_eq_true rfl⟩ hl.1 rfl rfl (Nat.le_of_ble_eq_true rfl) dX5_turn_43 (fun r_ w_ H locs hw hH => ?_)
        obtain ⟨z_11, rfl, rfl, h⟩ := hw
        refine j_istore (lv' := [(4, .int (J z_11)), (3, .int (J z_10)), (0, .ref (a 0)), (1, .int (J x1)), (2, .int (J x2))]) C dX5_turn_46 hl (by decide) rfl (fun ls hl => ?_)
        refine j_aload_n C dX5_turn_48 (lv_at hl 2 rfl) ?_
        refine xg_X5_corner C hH dX5_turn_49 ?_
        refine j_aload_n C dX5_turn_52 (lv_at hl 2 rfl) ?_
        refine j_iload_n C dX5_turn_53 (lv_at hl 1 rfl) ?_
        refine j_iload_n C dX5_turn_54 (lv_at hl 3 rfl) ?_
        refine j_iload_n C dX5_turn_55 (lv_at hl 4 rfl) ?_
        refine xcallV_i (As := [.int (J z_10), .int (J x1), .int (J x2)]) (rest := [.ref (a 1)]) (q0 := 0) C hH (fun sz => c_M_oppositeCorner h) xl_X5_96 rfl rfl ⟨rfl, rfl⟩ ⟨Nat.le_of_ble_eq_true rfl, Nat.le_of_ble_eq_true rfl⟩ hl.1 rfl rfl (Nat.le_of_ble_eq_true rfl) dX5_turn_56 (fun r_ w_ H locs hw hH => ?_)
        obtain ⟨z_12, rfl, rfl, h⟩ := hw
        obtain ⟨b_13, h⟩ := h
        refine xa_mCorner C hH b_13 dX5_turn_59 ?_
        refine j_istore (lv' := [(5, .int (J (mCorner z_12.toNat))), (4, .int (J z_11)), (3, .int (J z_10)), (0, .ref (a 0)), (1, .int (J x1)), (2, .int (J x2))]) C dX5_turn_60 hl (by decide) rfl (fun ls hl => ?_)
        refine j_aload_n C dX5_turn_62 (lv_at hl 3 rfl) ?_
        refine xg_X5_corner C hH dX5_turn_63 ?_
        refine j_aload_n C dX5_turn_66 (lv_at hl 3 rfl) ?_
        refine j_iload C dX5_turn_67 (lv_at hl 1 rfl) ?_
        refine j_iload_n C dX5_turn_69 (lv_at hl 4 rfl) ?_
        refine j_iload_n C dX5_turn_70 (lv_at hl 5 rfl) ?_
        refine xcallV_i (As := [.int (J z_11), .int (J x1), .int (J x2)]) (rest := [.ref (a 1)]) (q0 := 0) C hH (fun sz => c_M_oppositeCorner h) xl_X5_96 rfl rfl ⟨rfl, rfl⟩ ⟨Nat.le_of_ble_eq_true rfl, Nat.le_of_ble_eq_true rfl⟩ hl.1 rfl rfl (Nat.le_of_ble_eq_true rfl) dX5_turn_71 (fun r_ w_ H locs hw hH => ?_)
        obtain ⟨z_14, rfl, rfl, h⟩ := hw
        obtain ⟨b_15, h⟩ := h
        refine xa_mCorner C hH b_15 dX5_turn_74 ?_
        refine j_istore (lv' := [(6, .int (J (mCorner z_14.toNat))), (5, .int (J (mCorner z_12.toNat))), (4, .int (J z_11)), (3, .int (J z_10)), (0, .ref (a 0)), (1, .int (J x1)), (2, .int (J x2))]) C dX5_turn_75 hl (by decide) rfl (fun ls hl => ?_)
        refine j_iload C dX5_turn_77 (lv_at hl 1 rfl) ?_
        refine j_iload C dX5_turn_79 (lv_at hl 0 rfl) ?_
        obtain ⟨g_16, h⟩ := h
        obtain ⟨g_17, h⟩ := h
        refine j_icmp_eq C 95 g_16 g_17 dX5_turn_81 (by decide) (fun c_18 => ?_) (fun c_18 => ?_)
        · have h := h.1 c_18
          refine j_bipush C (by decide +kernel) dX5_turn_95 ?_
          exact j_iret C hH ⟨_, _, _, _, _, _, rfl, rfl, h⟩ dX5_turn_97
        · have h := h.2 c_18
          refine j_aload_n C dX5_turn_84 (lv_at hl 4 rfl) ?_
          refine j_iload C dX5_turn_85 (lv_at hl 1 rfl) ?_
          refine j_iload C dX5_turn_87 (lv_at hl 0 rfl) ?_
          refine xcallV_i (As := [.int (J (mCorner z_12.toNat)), .int (J (mCorner z_14.toNat))]) (rest := []) (q0 := 0) C hH (fun sz => c_M_sideOf h) xl_X5_93 rfl rfl ⟨rfl, rfl⟩ ⟨Nat.le_of_ble_eq_true rfl, Nat.le_of_ble_eq_true rfl⟩ hl.1 rfl rfl (Nat.le_of_ble_eq_true rfl) dX5_turn_89 (fun r_ w_ H locs hw hH => ?_)
          obtain ⟨z_19, rfl, rfl, h⟩ := hw
          obtain ⟨g_20, h⟩ := h
          refine j_if_le C 98 g_20 dX5_turn_92 (by decide) (fun c_21 => ?_) (fun c_21 => ?_)
          · have h := h.1 c_21
            refine j_aload_n C dX5_turn_98 (lv_at hl 4 rfl) ?_
            refine j_iconst C dX5_turn_99 ?_
            refine j_iload_n C dX5_turn_100 (lv_at hl 3 rfl) ?_
            refine j_iload C dX5_turn_101 (lv_at hl 2 rfl) ?_
            refine xcallV_v (As := [.int (J 1), .int (J z_10), .int (J z_11)]) (rest := []) (q0 := 0) C hH (fun sz => c_M_write h) xl_X5_86 rfl rfl ⟨rfl, rfl⟩ ⟨Nat.le_of_ble_eq_true rfl, Nat.le_of_ble_eq_true rfl⟩ hl.1 rfl rfl (Nat.le_of_ble_eq_true rfl) dX5_turn_103 (fun w_ H locs hw hH => ?_)
            obtain ⟨mIsLaid_22, mActs_23, mDone_24, mAct_25, rfl, h⟩ := hw
            refine j_aload_n C dX5_turn_106 (lv_at hl 4 rfl) ?_
            refine j_bipush C (by decide +kernel) dX5_turn_107 ?_
            refine j_aload_n C dX5_turn_109 (lv_at hl 4 rfl) ?_
            refine xg_X5_done C hH dX5_turn_110 ?_
            refine j_iconst C dX5_turn_113 ?_
            refine j_isub C dX5_turn_114 ?_
            refine j_imul C dX5_turn_115 ?_
            refine j_iconst C dX5_turn_116 ?_
            refine j_iadd C dX5_turn_117 ?_
            refine j_iload_n C dX5_turn_118 (lv_at hl 3 rfl) ?_
            refine j_iload C dX5_turn_119 (lv_at hl 2 rfl) ?_
            refine xcallV_v (As := [.int (J ((15 * (mDone_24 - 1)) + 3)), .int (J z_10), .int (J z_11)]) (rest := []) (q0 := 0) C hH (fun sz => c_M_keepThirds h) xl_X5_90 rfl rfl ⟨rfl, rfl⟩ ⟨Nat.le_of_ble_eq_true rfl, Nat.le_of_ble_eq_true rfl⟩ hl.1 rfl rfl (Nat.le_of_ble_eq_true rfl) dX5_turn_121 (fun w_ H locs hw hH => ?_)
            obtain ⟨mAct_26, rfl, h⟩ := hw
            refine j_aload_n C dX5_turn_124 (lv_at hl 4 rfl) ?_
            refine j_iload_n C dX5_turn_125 (lv_at hl 3 rfl) ?_
            refine j_iload_n C dX5_turn_126 (lv_at hl 5 rfl) ?_
            refine j_iload C dX5_turn_127 (lv_at hl 0 rfl) ?_
            refine j_iload C dX5_turn_129 (lv_at hl 1 rfl) ?_
            refine xcallV_v (As := [.int (J z_10), .int (J x1), .int (J (mCorner z_14.toNat)), .int (J (mCorner z_12.toNat))]) (rest := []) (q0 := 0) C hH (fun sz => c_M_put h) xl_X5_82 rfl rfl ⟨rfl, rfl⟩ ⟨Nat.le_of_ble_eq_true rfl, Nat.le_of_ble_eq_true rfl⟩ hl.1 rfl rfl (Nat.le_of_ble_eq_true rfl) dX5_turn_131 (fun w_ H locs hw hH => ?_)
            obtain ⟨mCorner_27, rfl, h⟩ := hw
            refine j_aload_n C dX5_turn_134 (lv_at hl 4 rfl) ?_
            refine j_iload C dX5_turn_135 (lv_at hl 2 rfl) ?_
            refine j_iload C dX5_turn_137 (lv_at hl 0 rfl) ?_
            refine j_iload_n C dX5_turn_139 (lv_at hl 6 rfl) ?_
            refine j_iload C dX5_turn_140 (lv_at hl 1 rfl) ?_
            refine xcallV_v (As := [.int (J z_11), .int (J (mCorner z_14.toNat)), .int (J x2), .int (J (mCorner z_12.toNat))]) (rest := []) (q0 := 0) C hH (fun sz => c_M_put h) xl_X5_82 rfl rfl ⟨rfl, rfl⟩ ⟨Nat.le_of_ble_eq_true rfl, Nat.le_of_ble_eq_true rfl⟩ hl.1 rfl rfl (Nat.le_of_ble_eq_true rfl) dX5_turn_142 (fun w_ H locs hw hH => ?_)
            obtain ⟨mCorner_28, rfl, h⟩ := hw
            refine j_aload_n C dX5_turn_145 (lv_at hl 4 rfl) ?_
            refine j_bipush C (by decide +kernel) dX5_turn_146 ?_
            refine j_aload_n C dX5_turn_148 (lv_at hl 4 rfl) ?_
            refine xg_X5_done C hH dX5_turn_149 ?_
            refine j_iconst C dX5_turn_152 ?_
            refine j_isub C dX5_turn_153 ?_
            refine j_imul C dX5_turn_154 ?_
            refine j_bipush C (by decide +kernel) dX5_turn_155 ?_
            refine j_iadd C dX5_turn_157 ?_
            refine j_iload_n C dX5_turn_158 (lv_at hl 3 rfl) ?_
            refine j_iload C dX5_turn_159 (lv_at hl 2 rfl) ?_
            refine xcallV_v (As := [.int (J ((15 * (mDone_24 - 1)) + 9)), .int (J z_10), .int (J z_11)]) (rest := []) (q0 := 0) C hH (fun sz => c_M_keepThirds h) xl_X5_90 rfl rfl ⟨rfl, rfl⟩ ⟨Nat.le_of_ble_eq_true rfl, Nat.le_of_ble_eq_true rfl⟩ hl.1 rfl rfl (Nat.le_of_ble_eq_true rfl) dX5_turn_161 (fun w_ H locs hw hH => ?_)
            obtain ⟨mAct_29, rfl, h⟩ := hw
            refine j_iconst C dX5_turn_164 ?_
            exact j_iret C hH ⟨_, _, _, _, _, _, rfl, rfl, h⟩ dX5_turn_165
          · have h := h.2 c_21
            refine j_bipush C (by decide +kernel) dX5_turn_95 ?_
            exact j_iret C hH ⟨_, _, _, _, _, _, rfl, rfl, h⟩ dX5_turn_97
      · have h := h.1 c_9
        refine j_bipush C (by decide +kernel) dX5_turn_30 ?_
        exact j_iret C hH ⟨_, _, _, _, _, _, rfl, rfl, h⟩ dX5_turn_32
    · have h := h.1 c_6
      refine j_iconst C dX5_turn_18 ?_
      exact j_iret C hH ⟨_, _, _, _, _, _, rfl, rfl, h⟩ dX5_turn_19
abbrev po_M_tell (cA : ClassId) (a : Nat → Nat) (mPosts mThirds mStraight mLeast mIsGiven mQueued : Int) (mCorner mBeyond mMark mSpare mLack mBefore mVia mQueue : Nat → Int) (Q : Int → Int → Int → Int → (Nat → Int) → (Nat → Int) → Prop) : Int32 → va_W → Prop := fun r w => ∃ z mIsLaid' mActs' mDone' mSum' mAct', r = J z ∧ w = wM cA a mPosts mThirds mStraight mLeast mIsLaid' mIsGiven mActs' mDone' mQueued mCorner mSum' mBeyond mAct' mMark mSpare mLack mBefore mVia mQueue ∧ Q z mIsLaid' mActs' mDone' mSum' mAct'
set_option maxRecDepth 4000 in
theorem w_M_tell_71 {p : Program} {l : Launch} {e : Env} {s : State} {m : MethodId} {args : Array Value} {below : List Frame} {meth : Method} {c : Code} {D : va_G} {cA : ClassId} {A : Nat → Prop} {a : Nat → Nat} {mPosts mThirds mStraight mLeast mIsGiven mQueued : Int} {mCorner mBeyond mMark mSpare mLack mBefore mVia mQueue : Nat → Int} (C : XC p s m args meth c cX5_tell 4 RX5 (some .int) D cA A) {Q : Int → Int → Int → Int → (Nat → Int) → (Nat → Int) → Prop}  : ∀ (x1 : Int) (x3 : Int) (t1 : Int) (t2 : Int) (mIsLaid : Int) (mActs : Int) (mDone : Int) (mSum : Nat → Int) (mAct : Nat → Int), wp_M_tell_71 Q x1 x3 t1 t2 mIsLaid mActs mDone mSum mAct → ∀ (H : Heap) (locs : List Loc) (ls : Array Slot), XH D A s (wM cA a mPosts mThirds mStraight mLeast mIsLaid mIsGiven mActs mDone mQueued mCorner mSum mBeyond mAct mMark mSpare mLack mBefore mVia mQueue) H locs → lv_has ls 4 [(0, .ref (a 0)), (1, .int (J x1)), (3, .int (J x3))] → W p l e rm_M_tell s m args below meth c H locs 0 0 (MQ below (va_Qi (po_M_tell cA a mPosts mThirds mStraight mLeast mIsGiven mQueued mCorner mBeyond mMark mSpare mLack mBefore mVia mQueue Q) (xB D cA A) A) args s 0 0 A) (F0 m 71 ls [.int (J t2), .int (J t1), .ref (a 2)]) := by
  intro x1 x3 t1 t2 mIsLaid mActs mDone mSum mAct h H locs ls hH hl
  unfold wp_M_tell_71 at h
  obtain ⟨b_1, h⟩ := h
  refine xs_mSum C hH b_1 dX5_tell_71 (fun mSum_2 e_mSum_2 H locs hH => ?_)
  have h := h mSum_2 e_mSum_2
  refine j_aload_n C dX5_tell_72 (lv_at hl 0 rfl) ?_
  refine xg_X5_act C hH dX5_tell_73 ?_
  refine j_bipush C (by decide +kernel) dX5_tell_76 ?_
  refine j_aload_n C dX5_tell_78 (lv_at hl 0 rfl) ?_
  refine xg_X5_done C hH dX5_tell_79 ?_
  refine j_iconst C dX5_tell_82 ?_
  refine j_isub C dX5_tell_83 ?_
  refine j_imul C dX5_tell_84 ?_
  refine j_bipush C (by decide +kernel) dX5_tell_85 ?_
  refine j_iadd C dX5_tell_87 ?_
  refine j_aload_n C dX5_tell_88 (lv_at hl 0 rfl) ?_
  refine xg_X5_sum C hH dX5_tell_89 ?_
  refine j_iload_n C dX5_tell_92 (lv_at hl 1 rfl) ?_
  obtain ⟨b_3, h⟩ := h
  refine xa_mSum C hH b_3 dX5_tell_93 ?_
  obtain ⟨b_4, h⟩ := h
  refine xs_mAct C hH b_4 dX5_tell_94 (fun mAct_5 e_mAct_5 H locs hH => ?_)
  have h := h mAct_5 e_mAct_5
  refine j_iload_n C dX5_tell_95 (lv_at hl 2 rfl) ?_
  exact j_iret C hH ⟨_, _, _, _, _, _, rfl, rfl, h⟩ dX5_tell_96
set_option maxRecDepth 4000 in
theorem c_M_tell {l : Launch} {D : va_G} {cA : ClassId} {a : Nat → Nat} {sz : Nat} {mPosts mThirds mStraight mLeast mIsLaid mIsGiven mActs mDone mQueued : Int} {mCorner mSum mBeyond mAct mMark mSpare mLack mBefore mVia mQueue : Nat → Int} {x1 x2 : Int} {Q : Int → Int → Int → Int → (Nat → Int) → (Nat → Int) → Prop} (h : wp_M_tell x1 x2 mPosts mIsLaid mActs mDone mSum mAct Q) : Met l yX5_tell (.code yX5_tell cX5_tell 4 (some .int) :: lw_ok) rm_M_tell (xPre D cA sz [.ref (a 0), .int (J x1), .int (J x2)] (wM cA a mPosts mThirds mStraight mLeast mIsLaid mIsGiven mActs mDone mQueued mCorner mSum mBeyond mAct mMark mSpare mLack mBefore mVia mQueue)) (va_Qi (po_M_tell cA a mPosts mThirds mStraight mLeast mIsGiven mQueued mCorner mBeyond mMark mSpare mLack mBefore mVia mQueue Q) (xB D cA (va_A (wM cA a mPosts mThirds mStraight mLeast mIsLaid mIsGiven mActs mDone mQueued mCorner mSum mBeyond mAct mMark mSpare mLack mBefore mVia mQueue) sz)) (va_A (wM cA a mPosts mThirds mStraight mLeast mIsLaid mIsGiven mActs mDone mQueued mCorner mSum mBeyond mAct mMark mSpare mLack mBefore mVia mQueue) sz)) 0 0 (va_A (wM cA a mPosts mThirds mStraight mLeast mIsLaid mIsGiven mActs mDone mQueued mCorner mSum mBeyond mAct mMark mSpare mLack mBefore mVia mQueue) sz) := by
  refine xmet_i (by decide) (Nat.le_of_ble_eq_true rfl) ?_
  intro p e s m args below meth c A ls C hH hl
  have C : XC p s m args meth c cX5_tell 4 RX5 (some .int) D cA A := C
  have hl : lv_has ls 4 [(0, .ref (a 0)), (1, .int (J x1)), (2, .int (J x2))] := hl
  unfold wp_M_tell at h
  refine j_aload_n C dX5_tell_0 (lv_at hl 0 rfl) ?_
  refine j_iload_n C dX5_tell_1 (lv_at hl 1 rfl) ?_
  refine xcallV_i (As := [.int (J x1)]) (rest := []) (q0 := 0) C hH (fun sz => c_M_isPost h) xl_X5_70 rfl rfl ⟨rfl, rfl⟩ ⟨Nat.le_of_ble_eq_true rfl, Nat.le_of_ble_eq_true rfl⟩ hl.1 rfl rfl (Nat.le_of_ble_eq_true rfl) dX5_tell_2 (fun r_ w_ H locs hw hH => ?_)
  obtain ⟨z_6, rfl, rfl, h⟩ := hw
  obtain ⟨g_7, h⟩ := h
  refine j_if_ne C 10 g_7 dX5_tell_5 (by decide) (fun c_8 => ?_) (fun c_8 => ?_)
  · have h := h.2 c_8
    refine j_iload_n C dX5_tell_10 (lv_at hl 2 rfl) ?_
    refine j_iconst C dX5_tell_11 ?_
    refine j_sipush C (by decide +kernel) dX5_tell_12 ?_
    refine xcallS_i (As := [.int (J x2), .int (J (-1)), .int (J 4000)]) (rest := []) C hH (fun sz => c_M_in h) xl_X5_66 ⟨rfl, rfl⟩ ⟨Nat.le_of_ble_eq_true rfl, Nat.le_of_ble_eq_true rfl⟩ hl.1 rfl rfl (Nat.le_of_ble_eq_true rfl) dX5_tell_15 (fun r_ w_ H locs hw hH => ?_)
    obtain ⟨z_9, rfl, rfl, h⟩ := hw
    obtain ⟨g_10, h⟩ := h
    refine j_if_ne C 24 g_10 dX5_tell_18 (by decide) (fun c_11 => ?_) (fun c_11 => ?_)
    · have h := h.2 c_11
      refine j_aload_n C dX5_tell_24 (lv_at hl 0 rfl) ?_
      refine xg_X5_sum C hH dX5_tell_25 ?_
      refine j_iload_n C dX5_tell_28 (lv_at hl 1 rfl) ?_
      obtain ⟨b_12, h⟩ := h
      refine xa_mSum C hH b_12 dX5_tell_29 ?_
      refine j_istore_n (lv' := [(3, .int (J (mSum x1.toNat))), (0, .ref (a 0)), (1, .int (J x1)), (2, .int (J x2))]) C dX5_tell_30 hl (by decide) rfl (fun ls hl => ?_)
      refine j_aload_n C dX5_tell_31 (lv_at hl 1 rfl) ?_
      refine j_iconst C dX5_tell_32 ?_
      refine j_iload_n C dX5_tell_33 (lv_at hl 2 rfl) ?_
      refine j_iload_n C dX5_tell_34 (lv_at hl 2 rfl) ?_
      refine xcallV_v (As := [.int (J 2), .int (J x1), .int (J x1)]) (rest := []) (q0 := 0) C hH (fun sz => c_M_write h) xl_X5_86 rfl rfl ⟨rfl, rfl⟩ ⟨Nat.le_of_ble_eq_true rfl, Nat.le_of_ble_eq_true rfl⟩ hl.1 rfl rfl (Nat.le_of_ble_eq_true rfl) dX5_tell_35 (fun w_ H locs hw hH => ?_)
      obtain ⟨mIsLaid_13, mActs_14, mDone_15, mAct_16, rfl, h⟩ := hw
      refine j_aload_n C dX5_tell_38 (lv_at hl 1 rfl) ?_
      refine xg_X5_act C hH dX5_tell_39 ?_
      refine j_bipush C (by decide +kernel) dX5_tell_42 ?_
      refine j_aload_n C dX5_tell_44 (lv_at hl 1 rfl) ?_
      refine xg_X5_done C hH dX5_tell_45 ?_
      refine j_iconst C dX5_tell_48 ?_
      refine j_isub C dX5_tell_49 ?_
      refine j_imul C dX5_tell_50 ?_
      refine j_iconst C dX5_tell_51 ?_
      refine j_iadd C dX5_tell_52 ?_
      refine j_iload_n C dX5_tell_53 (lv_at hl 0 rfl) ?_
      obtain ⟨b_17, h⟩ := h
      refine xs_mAct C hH b_17 dX5_tell_54 (fun mAct_18 e_mAct_18 H locs hH => ?_)
      have h := h mAct_18 e_mAct_18
      refine j_aload_n C dX5_tell_55 (lv_at hl 1 rfl) ?_
      refine xg_X5_sum C hH dX5_tell_56 ?_
      refine j_iload_n C dX5_tell_59 (lv_at hl 2 rfl) ?_
      refine j_iload_n C dX5_tell_60 (lv_at hl 3 rfl) ?_
      refine j_iconst C dX5_tell_61 ?_
      obtain ⟨g_19, h⟩ := h
      refine j_icmp_ne C 70 g_19 (by unfold jR; decide) dX5_tell_62 (by decide) (fun c_20 => ?_) (fun c_20 => ?_)
      · have h := h.2 c_20
        refine j_iload_n C dX5_tell_70 (lv_at hl 3 rfl) ?_
        exact w_M_tell_71 C  x1 (mSum x1.toNat) x1 x2 mIsLaid_13 mActs_14 mDone_15 mSum mAct_18 h _ _ _ hH (lv_sub hl [1, 2, 0] rfl)
      · have h := h.1 c_20
        refine j_bipush C (by decide +kernel) dX5_tell_65 ?_
        refine j_goto C 71 dX5_tell_67 (by decide) ?_
        exact w_M_tell_71 C  x1 (mSum x1.toNat) x1 (-6) mIsLaid_13 mActs_14 mDone_15 mSum mAct_18 h _ _ _ hH (lv_sub hl [1, 2, 0] rfl)
    · have h := h.1 c_11
      refine j_bipush C (by decide +kernel) dX5_tell_21 ?_
      exact j_iret C hH ⟨_, _, _, _, _, _, rfl, rfl, h⟩ dX5_tell_23
  · have h := h.1 c_8
    refine j_iconst C dX5_tell_8 ?_
    exact j_iret C hH ⟨_, _, _, _, _, _, rfl, rfl, h⟩ dX5_tell_9
abbrev po_M_undo (cA : ClassId) (a : Nat → Nat) (mPosts mStraight mLeast mIsGiven mActs mQueued : Int) (mBeyond mAct mMark mSpare mLack mBefore mVia mQueue : Nat → Int) (Q : Int → Int → Int → Int → (Nat → Int) → (Nat → Int) → Prop) : Int32 → va_W → Prop := fun r w => ∃ z mThirds' mIsLaid' mDone' mCorner' mSum', r = J z ∧ w = wM cA a mPosts mThirds' mStraight mLeast mIsLaid' mIsGiven mActs mDone' mQueued mCorner' mSum' mBeyond mAct mMark mSpare mLack mBefore mVia mQueue ∧ Q z mThirds' mIsLaid' mDone' mCorner' mSum'
set_option maxRecDepth 4000 in
theorem c_M_undo {l : Launch} {D : va_G} {cA : ClassId} {a : Nat → Nat} {sz : Nat} {mPosts mThirds mStraight mLeast mIsLaid mIsGiven mActs mDone mQueued : Int} {mCorner mSum mBeyond mAct mMark mSpare mLack mBefore mVia mQueue : Nat → Int} {Q : Int → Int → Int → Int → (Nat → Int) → (Nat → Int) → Prop} (h : wp_M_undo  mThirds mIsLaid mDone mCorner mSum mAct Q) : Met l yX5_undo (.code yX5_undo cX5_undo 2 (some .int) :: lw_ok) rm_M_undo (xPre D cA sz [.ref (a 0)] (wM cA a mPosts mThirds mStraight mLeast mIsLaid mIsGiven mActs mDone mQueued mCorner mSum mBeyond mAct mMark mSpare mLack mBefore mVia mQueue)) (va_Qi (po_M_undo cA a mPosts mStraight mLeast mIsGiven mActs mQueued mBeyond mAct mMark mSpare mLack mBefore mVia mQueue Q) (xB D cA (va_A (wM cA a mPosts mThirds mStraight mLeast mIsLaid mIsGiven mActs mDone mQueued mCorner mSum mBeyond mAct mMark mSpare mLack mBefore mVia mQueue) sz)) (va_A (wM cA a mPosts mThirds mStraight mLeast mIsLaid mIsGiven mActs mDone mQueued mCorner mSum mBeyond mAct mMark mSpare mLack mBefore mVia mQueue) sz)) 0 0 (va_A (wM cA a mPosts mThirds mStraight mLeast mIsLaid mIsGiven mActs mDone mQueued mCorner mSum mBeyond mAct mMark mSpare mLack mBefore mVia mQueue) sz) := by
  refine xmet_i (by decide) (Nat.le_of_ble_eq_true rfl) ?_
  intro p e s m args below meth c A ls C hH hl
  have C : XC p s m args meth c cX5_undo 2 RX5 (some .int) D cA A := C
  have hl : lv_has ls 2 [(0, .ref (a 0))] := hl
  unfold wp_M_undo at h
  refine j_aload_n C dX5_undo_0 (lv_at hl 0 rfl) ?_
  refine xg_X5_done C hH dX5_undo_1 ?_
  obtain ⟨g_1, h⟩ := h
  refine j_if_ne C 10 g_1 dX5_undo_4 (by decide) (fun c_2 => ?_) (fun c_2 => ?_)
  · have h := h.2 c_2
    refine j_aload_n C dX5_undo_10 (lv_at hl 0 rfl) ?_
    refine j_dup C rfl dX5_undo_11 ?_
    refine xg_X5_done C hH dX5_undo_12 ?_
    refine j_iconst C dX5_undo_15 ?_
    refine j_isub C dX5_undo_16 ?_
    refine xp_X5_done C hH dX5_undo_17 (fun H locs hH => ?_)
    refine j_bipush C (by decide +kernel) dX5_undo_20 ?_
    refine j_aload_n C dX5_undo_22 (lv_at hl 0 rfl) ?_
    refine xg_X5_done C hH dX5_undo_23 ?_
    refine j_imul C dX5_undo_26 ?_
    refine j_istore_n (lv' := [(1, .int (J (15 * (mDone - 1)))), (0, .ref (a 0))]) C dX5_undo_27 hl (by decide) rfl (fun ls hl => ?_)
    refine j_aload_n C dX5_undo_28 (lv_at hl 1 rfl) ?_
    refine xg_X5_act C hH dX5_undo_29 ?_
    refine j_iload_n C dX5_undo_32 (lv_at hl 0 rfl) ?_
    obtain ⟨b_3, h⟩ := h
    refine xa_mAct C hH b_3 dX5_undo_33 ?_
    obtain ⟨g_4, h⟩ := h
    refine j_if_ne C 50 g_4 dX5_undo_34 (by decide) (fun c_5 => ?_) (fun c_5 => ?_)
    · have h := h.2 c_5
      refine j_aload_n C dX5_undo_50 (lv_at hl 1 rfl) ?_
      refine xg_X5_act C hH dX5_undo_51 ?_
      refine j_iload_n C dX5_undo_54 (lv_at hl 0 rfl) ?_
      refine xa_mAct C hH b_3 dX5_undo_55 ?_
      refine j_iconst C dX5_undo_56 ?_
      refine j_icmp_ne C 86 g_4 (by unfold jR; decide) dX5_undo_57 (by decide) (fun c_6 => ?_) (fun c_6 => ?_)
      · have h := h.2 c_6
        refine j_aload_n C dX5_undo_86 (lv_at hl 1 rfl) ?_
        refine xg_X5_sum C hH dX5_undo_87 ?_
        refine j_aload_n C dX5_undo_90 (lv_at hl 1 rfl) ?_
        refine xg_X5_act C hH dX5_undo_91 ?_
        refine j_iload_n C dX5_undo_94 (lv_at hl 0 rfl) ?_
        refine j_iconst C dX5_undo_95 ?_
        refine j_iadd C dX5_undo_96 ?_
        obtain ⟨b_7, h⟩ := h
        refine xa_mAct C hH b_7 dX5_undo_97 ?_
        refine j_aload_n C dX5_undo_98 (lv_at hl 1 rfl) ?_
        refine xg_X5_act C hH dX5_undo_99 ?_
        refine j_iload_n C dX5_undo_102 (lv_at hl 0 rfl) ?_
        refine j_iconst C dX5_undo_103 ?_
        refine j_iadd C dX5_undo_104 ?_
        obtain ⟨b_8, h⟩ := h
        refine xa_mAct C hH b_8 dX5_undo_105 ?_
        obtain ⟨b_9, h⟩ := h
        refine xs_mSum C hH b_9 dX5_undo_106 (fun mSum_10 e_mSum_10 H locs hH => ?_)
        have h := h mSum_10 e_mSum_10
        refine j_aload_n C dX5_undo_107 (lv_at hl 1 rfl) ?_
        refine j_iconst C dX5_undo_108 ?_
        refine xp_X5_isLaid C hH (Or.inl rfl) dX5_undo_109 (fun H locs hH => ?_)
        refine j_aload_n C dX5_undo_112 (lv_at hl 1 rfl) ?_
        refine xg_X5_done C hH dX5_undo_113 ?_
        exact j_iret C hH ⟨_, _, _, _, _, _, rfl, rfl, h⟩ dX5_undo_116
      · have h := h.1 c_6
        refine j_aload_n C dX5_undo_60 (lv_at hl 1 rfl) ?_
        refine j_iload_n C dX5_undo_61 (lv_at hl 0 rfl) ?_
        refine j_iconst C dX5_undo_62 ?_
        refine j_iadd C dX5_undo_63 ?_
        refine j_aload_n C dX5_undo_64 (lv_at hl 1 rfl) ?_
        refine xg_X5_act C hH dX5_undo_65 ?_
        refine j_iload_n C dX5_undo_68 (lv_at hl 0 rfl) ?_
        refine j_iconst C dX5_undo_69 ?_
        refine j_iadd C dX5_undo_70 ?_
        obtain ⟨b_11, h⟩ := h
        refine xa_mAct C hH b_11 dX5_undo_71 ?_
        refine j_aload_n C dX5_undo_72 (lv_at hl 1 rfl) ?_
        refine xg_X5_act C hH dX5_undo_73 ?_
        refine j_iload_n C dX5_undo_76 (lv_at hl 0 rfl) ?_
        refine j_iconst C dX5_undo_77 ?_
        refine j_iadd C dX5_undo_78 ?_
        obtain ⟨b_12, h⟩ := h
        refine xa_mAct C hH b_12 dX5_undo_79 ?_
        refine xcallV_v (As := [.int (J ((15 * (mDone - 1)) + 3)), .int (J (mAct ((15 * (mDone - 1)) + 1).toNat)), .int (J (mAct ((15 * (mDone - 1)) + 2).toNat))]) (rest := []) (q0 := 0) C hH (fun sz => c_M_takeThirds h) xl_X5_100 rfl rfl ⟨rfl, rfl⟩ ⟨Nat.le_of_ble_eq_true rfl, Nat.le_of_ble_eq_true rfl⟩ hl.1 rfl rfl (Nat.le_of_ble_eq_true rfl) dX5_undo_80 (fun w_ H locs hw hH => ?_)
        obtain ⟨mCorner_13, rfl, h⟩ := hw
        refine j_goto C 107 dX5_undo_83 (by decide) ?_
        refine j_aload_n C dX5_undo_107 (lv_at hl 1 rfl) ?_
        refine j_iconst C dX5_undo_108 ?_
        refine xp_X5_isLaid C hH (Or.inl rfl) dX5_undo_109 (fun H locs hH => ?_)
        refine j_aload_n C dX5_undo_112 (lv_at hl 1 rfl) ?_
        refine xg_X5_done C hH dX5_undo_113 ?_
        exact j_iret C hH ⟨_, _, _, _, _, _, rfl, rfl, h⟩ dX5_undo_116
    · have h := h.1 c_5
      refine j_aload_n C dX5_undo_37 (lv_at hl 1 rfl) ?_
      refine j_dup C rfl dX5_undo_38 ?_
      refine xg_X5_thirds C hH dX5_undo_39 ?_
      refine j_iconst C dX5_undo_42 ?_
      refine j_isub C dX5_undo_43 ?_
      refine xp_X5_thirds C hH dX5_undo_44 (fun H locs hH => ?_)
      refine j_goto C 107 dX5_undo_47 (by decide) ?_
      refine j_aload_n C dX5_undo_107 (lv_at hl 1 rfl) ?_
      refine j_iconst C dX5_undo_108 ?_
      refine xp_X5_isLaid C hH (Or.inl rfl) dX5_undo_109 (fun H locs hH => ?_)
      refine j_aload_n C dX5_undo_112 (lv_at hl 1 rfl) ?_
      refine xg_X5_done C hH dX5_undo_113 ?_
      exact j_iret C hH ⟨_, _, _, _, _, _, rfl, rfl, h⟩ dX5_undo_116
  · have h := h.1 c_2
    refine j_bipush C (by decide +kernel) dX5_undo_7 ?_
    exact j_iret C hH ⟨_, _, _, _, _, _, rfl, rfl, h⟩ dX5_undo_9
abbrev po_M_redo (cA : ClassId) (a : Nat → Nat) (mPosts mStraight mLeast mIsGiven mActs mQueued : Int) (mBeyond mAct mMark mSpare mLack mBefore mVia mQueue : Nat → Int) (Q : Int → Int → Int → Int → (Nat → Int) → (Nat → Int) → Prop) : Int32 → va_W → Prop := fun r w => ∃ z mThirds' mIsLaid' mDone' mCorner' mSum', r = J z ∧ w = wM cA a mPosts mThirds' mStraight mLeast mIsLaid' mIsGiven mActs mDone' mQueued mCorner' mSum' mBeyond mAct mMark mSpare mLack mBefore mVia mQueue ∧ Q z mThirds' mIsLaid' mDone' mCorner' mSum'
set_option maxRecDepth 4000 in
theorem w_M_redo_100 {p : Program} {l : Launch} {e : Env} {s : State} {m : MethodId} {args : Array Value} {below : List Frame} {meth : Method} {c : Code} {D : va_G} {cA : ClassId} {A : Nat → Prop} {a : Nat → Nat} {mPosts mStraight mLeast mIsGiven mActs mQueued : Int} {mBeyond mAct mMark mSpare mLack mBefore mVia mQueue : Nat → Int} (C : XC p s m args meth c cX5_redo 2 RX5 (some .int) D cA A) {Q : Int → Int → Int → Int → (Nat → Int) → (Nat → Int) → Prop}  : ∀ (t1 : Int) (t2 : Int) (mThirds : Int) (mIsLaid : Int) (mDone : Int) (mCorner : Nat → Int) (mSum : Nat → Int), wp_M_redo_100 Q mActs t1 t2 mThirds mIsLaid mDone mCorner mSum → ∀ (H : Heap) (locs : List Loc) (ls : Array Slot), XH D A s (wM cA a mPosts mThirds mStraight mLeast mIsLaid mIsGiven mActs mDone mQueued mCorner mSum mBeyond mAct mMark mSpare mLack mBefore mVia mQueue) H locs → lv_has ls 2 [(0, .ref (a 0))] → W p l e rm_M_redo s m args below meth c H locs 0 0 (MQ below (va_Qi (po_M_redo cA a mPosts mStraight mLeast mIsGiven mActs mQueued mBeyond mAct mMark mSpare mLack mBefore mVia mQueue Q) (xB D cA A) A) args s 0 0 A) (F0 m 100 ls [.int (J t2), .int (J t1), .ref (a 0)]) := by
  intro t1 t2 mThirds mIsLaid mDone mCorner mSum h H locs ls hH hl
  unfold wp_M_redo_100 at h
  refine j_iadd C dX5_redo_100 ?_
  refine xp_X5_thirds C hH dX5_redo_101 (fun H locs hH => ?_)
  refine j_aload_n C dX5_redo_104 (lv_at hl 0 rfl) ?_
  refine j_dup C rfl dX5_redo_105 ?_
  refine xg_X5_done C hH dX5_redo_106 ?_
  refine j_iconst C dX5_redo_109 ?_
  refine j_iadd C dX5_redo_110 ?_
  refine xp_X5_done C hH dX5_redo_111 (fun H locs hH => ?_)
  refine j_aload_n C dX5_redo_114 (lv_at hl 0 rfl) ?_
  refine j_iconst C dX5_redo_115 ?_
  refine xp_X5_isLaid C hH (Or.inl rfl) dX5_redo_116 (fun H locs hH => ?_)
  refine j_aload_n C dX5_redo_119 (lv_at hl 0 rfl) ?_
  refine xg_X5_acts C hH dX5_redo_120 ?_
  refine j_aload_n C dX5_redo_123 (lv_at hl 0 rfl) ?_
  refine xg_X5_done C hH dX5_redo_124 ?_
  refine j_isub C dX5_redo_127 ?_
  exact j_iret C hH ⟨_, _, _, _, _, _, rfl, rfl, h⟩ dX5_redo_128
set_option maxRecDepth 4000 in
theorem c_M_redo {l : Launch} {D : va_G} {cA : ClassId} {a : Nat → Nat} {sz : Nat} {mPosts mThirds mStraight mLeast mIsLaid mIsGiven mActs mDone mQueued : Int} {mCorner mSum mBeyond mAct mMark mSpare mLack mBefore mVia mQueue : Nat → Int} {Q : Int → Int → Int → Int → (Nat → Int) → (Nat → Int) → Prop} (h : wp_M_redo  mThirds mIsLaid mActs mDone mCorner mSum mAct Q) : Met l yX5_redo (.code yX5_redo cX5_redo 2 (some .int) :: lw_ok) rm_M_redo (xPre D cA sz [.ref (a 0)] (wM cA a mPosts mThirds mStraight mLeast mIsLaid mIsGiven mActs mDone mQueued mCorner mSum mBeyond mAct mMark mSpare mLack mBefore mVia mQueue)) (va_Qi (po_M_redo cA a mPosts mStraight mLeast mIsGiven mActs mQueued mBeyond mAct mMark mSpare mLack mBefore mVia mQueue Q) (xB D cA (va_A (wM cA a mPosts mThirds mStraight mLeast mIsLaid mIsGiven mActs mDone mQueued mCorner mSum mBeyond mAct mMark mSpare mLack mBefore mVia mQueue) sz)) (va_A (wM cA a mPosts mThirds mStraight mLeast mIsLaid mIsGiven mActs mDone mQueued mCorner mSum mBeyond mAct mMark mSpare mLack mBefore mVia mQueue) sz)) 0 0 (va_A (wM cA a mPosts mThirds mStraight mLeast mIsLaid mIsGiven mActs mDone mQueued mCorner mSum mBeyond mAct mMark mSpare mLack mBefore mVia mQueue) sz) := by
  refine xmet_i (by decide) (Nat.le_of_ble_eq_true rfl) ?_
  intro p e s m args below meth c A ls C hH hl
  have C : XC p s m args meth c cX5_redo 2 RX5 (some .int) D cA A := C
  have hl : lv_has ls 2 [(0, .ref (a 0))] := hl
  unfold wp_M_redo at h
  refine j_aload_n C dX5_redo_0 (lv_at hl 0 rfl) ?_
  refine xg_X5_done C hH dX5_redo_1 ?_
  refine j_aload_n C dX5_redo_4 (lv_at hl 0 rfl) ?_
  refine xg_X5_acts C hH dX5_redo_5 ?_
  obtain ⟨g_1, h⟩ := h
  obtain ⟨g_2, h⟩ := h
  refine j_icmp_ne C 14 g_1 g_2 dX5_redo_8 (by decide) (fun c_3 => ?_) (fun c_3 => ?_)
  · have h := h.2 c_3
    refine j_bipush C (by decide +kernel) dX5_redo_14 ?_
    refine j_aload_n C dX5_redo_16 (lv_at hl 0 rfl) ?_
    refine xg_X5_done C hH dX5_redo_17 ?_
    refine j_imul C dX5_redo_20 ?_
    refine j_istore_n (lv' := [(1, .int (J (15 * mDone))), (0, .ref (a 0))]) C dX5_redo_21 hl (by decide) rfl (fun ls hl => ?_)
    refine j_aload_n C dX5_redo_22 (lv_at hl 1 rfl) ?_
    refine xg_X5_act C hH dX5_redo_23 ?_
    refine j_iload_n C dX5_redo_26 (lv_at hl 0 rfl) ?_
    obtain ⟨b_4, h⟩ := h
    refine xa_mAct C hH b_4 dX5_redo_27 ?_
    refine j_iconst C dX5_redo_28 ?_
    obtain ⟨g_5, h⟩ := h
    refine j_icmp_ne C 57 g_5 (by unfold jR; decide) dX5_redo_29 (by decide) (fun c_6 => ?_) (fun c_6 => ?_)
    · have h := h.2 c_6
      refine j_aload_n C dX5_redo_57 (lv_at hl 1 rfl) ?_
      refine j_iload_n C dX5_redo_58 (lv_at hl 0 rfl) ?_
      refine j_bipush C (by decide +kernel) dX5_redo_59 ?_
      refine j_iadd C dX5_redo_61 ?_
      refine j_aload_n C dX5_redo_62 (lv_at hl 1 rfl) ?_
      refine xg_X5_act C hH dX5_redo_63 ?_
      refine j_iload_n C dX5_redo_66 (lv_at hl 0 rfl) ?_
      refine j_iconst C dX5_redo_67 ?_
      refine j_iadd C dX5_redo_68 ?_
      obtain ⟨b_7, h⟩ := h
      refine xa_mAct C hH b_7 dX5_redo_69 ?_
      refine j_aload_n C dX5_redo_70 (lv_at hl 1 rfl) ?_
      refine xg_X5_act C hH dX5_redo_71 ?_
      refine j_iload_n C dX5_redo_74 (lv_at hl 0 rfl) ?_
      refine j_iconst C dX5_redo_75 ?_
      refine j_iadd C dX5_redo_76 ?_
      obtain ⟨b_8, h⟩ := h
      refine xa_mAct C hH b_8 dX5_redo_77 ?_
      refine xcallV_v (As := [.int (J ((15 * mDone) + 9)), .int (J (mAct ((15 * mDone) + 1).toNat)), .int (J (mAct ((15 * mDone) + 2).toNat))]) (rest := []) (q0 := 0) C hH (fun sz => c_M_takeThirds h) xl_X5_100 rfl rfl ⟨rfl, rfl⟩ ⟨Nat.le_of_ble_eq_true rfl, Nat.le_of_ble_eq_true rfl⟩ hl.1 rfl rfl (Nat.le_of_ble_eq_true rfl) dX5_redo_78 (fun w_ H locs hw hH => ?_)
      obtain ⟨mCorner_9, rfl, h⟩ := hw
      refine j_aload_n C dX5_redo_81 (lv_at hl 1 rfl) ?_
      refine j_dup C rfl dX5_redo_82 ?_
      refine xg_X5_thirds C hH dX5_redo_83 ?_
      refine j_aload_n C dX5_redo_86 (lv_at hl 1 rfl) ?_
      refine xg_X5_act C hH dX5_redo_87 ?_
      refine j_iload_n C dX5_redo_90 (lv_at hl 0 rfl) ?_
      refine xa_mAct C hH b_4 dX5_redo_91 ?_
      refine j_if_ne C 99 g_5 dX5_redo_92 (by decide) (fun c_10 => ?_) (fun c_10 => ?_)
      · have h := h.2 c_10
        refine j_iconst C dX5_redo_99 ?_
        exact w_M_redo_100 C  mThirds 0 mThirds mIsLaid mDone mCorner_9 mSum h _ _ _ hH (lv_sub hl [1] rfl)
      · have h := h.1 c_10
        refine j_iconst C dX5_redo_95 ?_
        refine j_goto C 100 dX5_redo_96 (by decide) ?_
        exact w_M_redo_100 C  mThirds 1 mThirds mIsLaid mDone mCorner_9 mSum h _ _ _ hH (lv_sub hl [1] rfl)
    · have h := h.1 c_6
      refine j_aload_n C dX5_redo_32 (lv_at hl 1 rfl) ?_
      refine xg_X5_sum C hH dX5_redo_33 ?_
      refine j_aload_n C dX5_redo_36 (lv_at hl 1 rfl) ?_
      refine xg_X5_act C hH dX5_redo_37 ?_
      refine j_iload_n C dX5_redo_40 (lv_at hl 0 rfl) ?_
      refine j_iconst C dX5_redo_41 ?_
      refine j_iadd C dX5_redo_42 ?_
      obtain ⟨b_11, h⟩ := h
      refine xa_mAct C hH b_11 dX5_redo_43 ?_
      refine j_aload_n C dX5_redo_44 (lv_at hl 1 rfl) ?_
      refine xg_X5_act C hH dX5_redo_45 ?_
      refine j_iload_n C dX5_redo_48 (lv_at hl 0 rfl) ?_
      refine j_bipush C (by decide +kernel) dX5_redo_49 ?_
      refine j_iadd C dX5_redo_51 ?_
      obtain ⟨b_12, h⟩ := h
      refine xa_mAct C hH b_12 dX5_redo_52 ?_
      obtain ⟨b_13, h⟩ := h
      refine xs_mSum C hH b_13 dX5_redo_53 (fun mSum_14 e_mSum_14 H locs hH => ?_)
      have h := h mSum_14 e_mSum_14
      refine j_goto C 104 dX5_redo_54 (by decide) ?_
      refine j_aload_n C dX5_redo_104 (lv_at hl 1 rfl) ?_
      refine j_dup C rfl dX5_redo_105 ?_
      refine xg_X5_done C hH dX5_redo_106 ?_
      refine j_iconst C dX5_redo_109 ?_
      refine j_iadd C dX5_redo_110 ?_
      refine xp_X5_done C hH dX5_redo_111 (fun H locs hH => ?_)
      refine j_aload_n C dX5_redo_114 (lv_at hl 1 rfl) ?_
      refine j_iconst C dX5_redo_115 ?_
      refine xp_X5_isLaid C hH (Or.inl rfl) dX5_redo_116 (fun H locs hH => ?_)
      refine j_aload_n C dX5_redo_119 (lv_at hl 1 rfl) ?_
      refine xg_X5_acts C hH dX5_redo_120 ?_
      refine j_aload_n C dX5_redo_123 (lv_at hl 1 rfl) ?_
      refine xg_X5_done C hH dX5_redo_124 ?_
      refine j_isub C dX5_redo_127 ?_
      exact j_iret C hH ⟨_, _, _, _, _, _, rfl, rfl, h⟩ dX5_redo_128
  · have h := h.1 c_3
    refine j_bipush C (by decide +kernel) dX5_redo_11 ?_
    exact j_iret C hH ⟨_, _, _, _, _, _, rfl, rfl, h⟩ dX5_redo_13
abbrev po_M_cornersAt (cA : ClassId) (a : Nat → Nat) (mPosts mThirds mStraight mLeast mIsLaid mIsGiven mActs mDone mQueued : Int) (mCorner mSum mBeyond mAct mMark mSpare mLack mBefore mVia mQueue : Nat → Int) (Q : Int → Prop) : Int32 → va_W → Prop := fun r w => ∃ z, r = J z ∧ w = wM cA a mPosts mThirds mStraight mLeast mIsLaid mIsGiven mActs mDone mQueued mCorner mSum mBeyond mAct mMark mSpare mLack mBefore mVia mQueue ∧ Q z
set_option maxRecDepth 4000 in
theorem w_M_cornersAt_4 {p : Program} {l : Launch} {e : Env} {s : State} {m : MethodId} {args : Array Value} {below : List Frame} {meth : Method} {c : Code} {D : va_G} {cA : ClassId} {A : Nat → Prop} {a : Nat → Nat} {mPosts mThirds mStraight mLeast mIsLaid mIsGiven mActs mDone mQueued : Int} {mCorner mSum mBeyond mAct mMark mSpare mLack mBefore mVia mQueue : Nat → Int} (C : XC p s m args meth c cX5_cornersAt 4 RX5 (some .int) D cA A) {Q : Int → Prop} {x1 : Int}  : ∀ (n : Nat) (x2 : Int) (x3 : Int), wp_M_cornersAt_4 Q mThirds mCorner x1 n x2 x3 → ∀ (H : Heap) (locs : List Loc) (ls : Array Slot), XH D A s (wM cA a mPosts mThirds mStraight mLeast mIsLaid mIsGiven mActs mDone mQueued mCorner mSum mBeyond mAct mMark mSpare mLack mBefore mVia mQueue) H locs → lv_has ls 4 [(0, .ref (a 0)), (1, .int (J x1)), (2, .int (J x2)), (3, .int (J x3))] → W p l e rm_M_cornersAt s m args below meth c H locs 0 0 (MQ below (va_Qi (po_M_cornersAt cA a mPosts mThirds mStraight mLeast mIsLaid mIsGiven mActs mDone mQueued mCorner mSum mBeyond mAct mMark mSpare mLack mBefore mVia mQueue Q) (xB D cA A) A) args s 0 0 A) (F0 m 4 ls []) := by
  intro n
  induction n with
  | zero => intro x2 x3 h; exact (show False from h).elim
  | succ n hK4 =>
    intro x2 x3 h H locs ls hH hl
    have h : wp_M_cornersAt_4_b  (wp_M_cornersAt_4 Q mThirds mCorner x1 n) Q mThirds mCorner x1 x2 x3 := h
    unfold wp_M_cornersAt_4_b at h
    refine j_iload_n C dX5_cornersAt_4 (lv_at hl 3 rfl) ?_
    refine j_iconst C dX5_cornersAt_5 ?_
    refine j_aload_n C dX5_cornersAt_6 (lv_at hl 0 rfl) ?_
    refine xg_X5_thirds C hH dX5_cornersAt_7 ?_
    refine j_imul C dX5_cornersAt_10 ?_
    obtain ⟨g_1, h⟩ := h
    obtain ⟨g_2, h⟩ := h
    refine j_icmp_ge C 38 g_1 g_2 dX5_cornersAt_11 (by decide) (fun c_3 => ?_) (fun c_3 => ?_)
    · have h := h.1 c_3
      refine j_iload_n C dX5_cornersAt_38 (lv_at hl 2 rfl) ?_
      exact j_iret C hH ⟨_, rfl, rfl, h⟩ dX5_cornersAt_39
    · have h := h.2 c_3
      refine j_iload_n C dX5_cornersAt_14 (lv_at hl 2 rfl) ?_
      refine j_aload_n C dX5_cornersAt_15 (lv_at hl 0 rfl) ?_
      refine xg_X5_corner C hH dX5_cornersAt_16 ?_
      refine j_iload_n C dX5_cornersAt_19 (lv_at hl 3 rfl) ?_
      obtain ⟨b_4, h⟩ := h
      refine xa_mCorner C hH b_4 dX5_cornersAt_20 ?_
      refine j_iload_n C dX5_cornersAt_21 (lv_at hl 1 rfl) ?_
      obtain ⟨g_5, h⟩ := h
      obtain ⟨g_6, h⟩ := h
      refine j_icmp_ne C 29 g_5 g_6 dX5_cornersAt_22 (by decide) (fun c_7 => ?_) (fun c_7 => ?_)
      · have h := h.2 c_7
        refine j_iconst C dX5_cornersAt_29 ?_
        refine j_iadd C dX5_cornersAt_30 ?_
        refine j_istore_n (lv' := [(2, .int (J (x2 + 0))), (0, .ref (a 0)), (1, .int (J x1)), (3, .int (J x3))]) C dX5_cornersAt_31 hl (by decide) rfl (fun ls hl => ?_)
        refine j_iinc (k := 3) (v := x3 + 1) (lv' := [(3, .int (J (x3 + 1))), (2, .int (J (x2 + 0))), (0, .ref (a 0)), (1, .int (J x1))]) C dX5_cornersAt_32 hl rfl rfl (by decide) rfl (fun ls hl => ?_)
        refine j_goto C 4 dX5_cornersAt_35 (by decide) ?_
        exact hK4 (x2 + 0) (x3 + 1) h _ _ _ hH (lv_sub hl [2, 3, 1, 0] rfl)
      · have h := h.1 c_7
        refine j_iconst C dX5_cornersAt_25 ?_
        refine j_goto C 30 dX5_cornersAt_26 (by decide) ?_
        refine j_iadd C dX5_cornersAt_30 ?_
        refine j_istore_n (lv' := [(2, .int (J (x2 + 1))), (0, .ref (a 0)), (1, .int (J x1)), (3, .int (J x3))]) C dX5_cornersAt_31 hl (by decide) rfl (fun ls hl => ?_)
        refine j_iinc (k := 3) (v := x3 + 1) (lv' := [(3, .int (J (x3 + 1))), (2, .int (J (x2 + 1))), (0, .ref (a 0)), (1, .int (J x1))]) C dX5_cornersAt_32 hl rfl rfl (by decide) rfl (fun ls hl => ?_)
        refine j_goto C 4 dX5_cornersAt_35 (by decide) ?_
        exact hK4 (x2 + 1) (x3 + 1) h _ _ _ hH (lv_sub hl [2, 3, 1, 0] rfl)
set_option maxRecDepth 4000 in
theorem c_M_cornersAt {l : Launch} {D : va_G} {cA : ClassId} {a : Nat → Nat} {sz : Nat} {mPosts mThirds mStraight mLeast mIsLaid mIsGiven mActs mDone mQueued : Int} {mCorner mSum mBeyond mAct mMark mSpare mLack mBefore mVia mQueue : Nat → Int} {x1 : Int} {Q : Int → Prop} (h : wp_M_cornersAt x1 mThirds mCorner Q) : Met l yX5_cornersAt (.code yX5_cornersAt cX5_cornersAt 4 (some .int) :: lw_ok) rm_M_cornersAt (xPre D cA sz [.ref (a 0), .int (J x1)] (wM cA a mPosts mThirds mStraight mLeast mIsLaid mIsGiven mActs mDone mQueued mCorner mSum mBeyond mAct mMark mSpare mLack mBefore mVia mQueue)) (va_Qi (po_M_cornersAt cA a mPosts mThirds mStraight mLeast mIsLaid mIsGiven mActs mDone mQueued mCorner mSum mBeyond mAct mMark mSpare mLack mBefore mVia mQueue Q) (xB D cA (va_A (wM cA a mPosts mThirds mStraight mLeast mIsLaid mIsGiven mActs mDone mQueued mCorner mSum mBeyond mAct mMark mSpare mLack mBefore mVia mQueue) sz)) (va_A (wM cA a mPosts mThirds mStraight mLeast mIsLaid mIsGiven mActs mDone mQueued mCorner mSum mBeyond mAct mMark mSpare mLack mBefore mVia mQueue) sz)) 0 0 (va_A (wM cA a mPosts mThirds mStraight mLeast mIsLaid mIsGiven mActs mDone mQueued mCorner mSum mBeyond mAct mMark mSpare mLack mBefore mVia mQueue) sz) := by
  refine xmet_i (by decide) (Nat.le_of_ble_eq_true rfl) ?_
  intro p e s m args below meth c A ls C hH hl
  have C : XC p s m args meth c cX5_cornersAt 4 RX5 (some .int) D cA A := C
  have hl : lv_has ls 4 [(0, .ref (a 0)), (1, .int (J x1))] := hl
  unfold wp_M_cornersAt at h
  refine j_iconst C dX5_cornersAt_0 ?_
  refine j_istore_n (lv' := [(2, .int (J 0)), (0, .ref (a 0)), (1, .int (J x1))]) C dX5_cornersAt_1 hl (by decide) rfl (fun ls hl => ?_)
  refine j_iconst C dX5_cornersAt_2 ?_
  refine j_istore_n (lv' := [(3, .int (J 0)), (2, .int (J 0)), (0, .ref (a 0)), (1, .int (J x1))]) C dX5_cornersAt_3 hl (by decide) rfl (fun ls hl => ?_)
  obtain ⟨n_, h⟩ := h
  exact w_M_cornersAt_4 C  n_ 0 0 h _ _ _ hH (lv_sub hl [2, 3, 1, 0] rfl)
abbrev po_M_sidesAt (cA : ClassId) (a : Nat → Nat) (mPosts mThirds mStraight mLeast mIsLaid mIsGiven mActs mDone mQueued : Int) (mCorner mSum mBeyond mAct mMark mSpare mLack mBefore mVia mQueue : Nat → Int) (Q : Int → Prop) : Int32 → va_W → Prop := fun r w => ∃ z, r = J z ∧ w = wM cA a mPosts mThirds mStraight mLeast mIsLaid mIsGiven mActs mDone mQueued mCorner mSum mBeyond mAct mMark mSpare mLack mBefore mVia mQueue ∧ Q z
set_option maxRecDepth 4000 in
theorem w_M_sidesAt_6 {p : Program} {l : Launch} {e : Env} {s : State} {m : MethodId} {args : Array Value} {below : List Frame} {meth : Method} {c : Code} {D : va_G} {cA : ClassId} {A : Nat → Prop} {a : Nat → Nat} {mPosts mThirds mStraight mLeast mIsLaid mIsGiven mActs mDone mQueued : Int} {mCorner mSum mBeyond mAct mMark mSpare mLack mBefore mVia mQueue : Nat → Int} (C : XC p s m args meth c cX5_sidesAt 6 RX5 (some .int) D cA A) {Q : Int → Prop} {x1 : Int} {x2 : Int} {x3 : Int}  : ∀ (n : Nat) (x4 : Int) (x5 : Int), wp_M_sidesAt_6 Q mPosts mThirds mCorner x1 x2 x3 n x4 x5 → ∀ (H : Heap) (locs : List Loc) (ls : Array Slot), XH D A s (wM cA a mPosts mThirds mStraight mLeast mIsLaid mIsGiven mActs mDone mQueued mCorner mSum mBeyond mAct mMark mSpare mLack mBefore mVia mQueue) H locs → lv_has ls 6 [(0, .ref (a 0)), (1, .int (J x1)), (2, .int (J x2)), (3, .int (J x3)), (4, .int (J x4)), (5, .int (J x5))] → W p l e rm_M_sidesAt s m args below meth c H locs 0 0 (MQ below (va_Qi (po_M_sidesAt cA a mPosts mThirds mStraight mLeast mIsLaid mIsGiven mActs mDone mQueued mCorner mSum mBeyond mAct mMark mSpare mLack mBefore mVia mQueue Q) (xB D cA A) A) args s 0 0 A) (F0 m 6 ls []) := by
  intro n
  induction n with
  | zero => intro x4 x5 h; exact (show False from h).elim
  | succ n hK6 =>
    intro x4 x5 h H locs ls hH hl
    have h : wp_M_sidesAt_6_b  (wp_M_sidesAt_6 Q mPosts mThirds mCorner x1 x2 x3 n) Q mPosts mThirds mCorner x1 x2 x3 x4 x5 := h
    unfold wp_M_sidesAt_6_b at h
    refine j_iload C dX5_sidesAt_6 (lv_at hl 5 rfl) ?_
    refine j_aload_n C dX5_sidesAt_8 (lv_at hl 0 rfl) ?_
    refine xg_X5_posts C hH dX5_sidesAt_9 ?_
    obtain ⟨g_1, h⟩ := h
    obtain ⟨g_2, h⟩ := h
    refine j_icmp_ge C 52 g_1 g_2 dX5_sidesAt_12 (by decide) (fun c_3 => ?_) (fun c_3 => ?_)
    · have h := h.1 c_3
      refine j_iload C dX5_sidesAt_52 (lv_at hl 4 rfl) ?_
      exact j_iret C hH ⟨_, rfl, rfl, h⟩ dX5_sidesAt_54
    · have h := h.2 c_3
      refine j_iload C dX5_sidesAt_15 (lv_at hl 4 rfl) ?_
      refine j_iload C dX5_sidesAt_17 (lv_at hl 5 rfl) ?_
      refine j_iload_n C dX5_sidesAt_19 (lv_at hl 1 rfl) ?_
      obtain ⟨g_4, h⟩ := h
      refine j_icmp_eq C 42 g_1 g_4 dX5_sidesAt_20 (by decide) (fun c_5 => ?_) (fun c_5 => ?_)
      · have h := h.1 c_5
        refine j_iconst C dX5_sidesAt_42 ?_
        refine j_iadd C dX5_sidesAt_43 ?_
        refine j_istore (lv' := [(4, .int (J (x4 + 0))), (0, .ref (a 0)), (1, .int (J x1)), (2, .int (J x2)), (3, .int (J x3)), (5, .int (J x5))]) C dX5_sidesAt_44 hl (by decide) rfl (fun ls hl => ?_)
        refine j_iinc (k := 5) (v := x5 + 1) (lv' := [(5, .int (J (x5 + 1))), (4, .int (J (x4 + 0))), (0, .ref (a 0)), (1, .int (J x1)), (2, .int (J x2)), (3, .int (J x3))]) C dX5_sidesAt_46 hl rfl rfl (by decide) rfl (fun ls hl => ?_)
        refine j_goto C 6 dX5_sidesAt_49 (by decide) ?_
        exact hK6 (x4 + 0) (x5 + 1) h _ _ _ hH (lv_sub hl [2, 3, 4, 5, 1, 0] rfl)
      · have h := h.2 c_5
        refine j_aload_n C dX5_sidesAt_23 (lv_at hl 0 rfl) ?_
        refine j_iload_n C dX5_sidesAt_24 (lv_at hl 1 rfl) ?_
        refine j_iload C dX5_sidesAt_25 (lv_at hl 5 rfl) ?_
        refine xcallV_i (As := [.int (J x1), .int (J x5)]) (rest := [.int (J x4)]) (q0 := 0) C hH (fun sz => c_M_sideOf h) xl_X5_93 rfl rfl ⟨rfl, rfl⟩ ⟨Nat.le_of_ble_eq_true rfl, Nat.le_of_ble_eq_true rfl⟩ hl.1 rfl rfl (Nat.le_of_ble_eq_true rfl) dX5_sidesAt_27 (fun r_ w_ H locs hw hH => ?_)
        obtain ⟨z_6, rfl, rfl, h⟩ := hw
        refine j_iload_n C dX5_sidesAt_30 (lv_at hl 2 rfl) ?_
        refine j_iload_n C dX5_sidesAt_31 (lv_at hl 3 rfl) ?_
        refine xcallS_i (As := [.int (J z_6), .int (J x2), .int (J x3)]) (rest := [.int (J x4)]) C hH (fun sz => c_M_in h) xl_X5_66 ⟨rfl, rfl⟩ ⟨Nat.le_of_ble_eq_true rfl, Nat.le_of_ble_eq_true rfl⟩ hl.1 rfl rfl (Nat.le_of_ble_eq_true rfl) dX5_sidesAt_32 (fun r_ w_ H locs hw hH => ?_)
        obtain ⟨z_7, rfl, rfl, h⟩ := hw
        obtain ⟨g_8, h⟩ := h
        refine j_if_eq C 42 g_8 dX5_sidesAt_35 (by decide) (fun c_9 => ?_) (fun c_9 => ?_)
        · have h := h.1 c_9
          refine j_iconst C dX5_sidesAt_42 ?_
          refine j_iadd C dX5_sidesAt_43 ?_
          refine j_istore (lv' := [(4, .int (J (x4 + 0))), (0, .ref (a 0)), (1, .int (J x1)), (2, .int (J x2)), (3, .int (J x3)), (5, .int (J x5))]) C dX5_sidesAt_44 hl (by decide) rfl (fun ls hl => ?_)
          refine j_iinc (k := 5) (v := x5 + 1) (lv' := [(5, .int (J (x5 + 1))), (4, .int (J (x4 + 0))), (0, .ref (a 0)), (1, .int (J x1)), (2, .int (J x2)), (3, .int (J x3))]) C dX5_sidesAt_46 hl rfl rfl (by decide) rfl (fun ls hl => ?_)
          refine j_goto C 6 dX5_sidesAt_49 (by decide) ?_
          exact hK6 (x4 + 0) (x5 + 1) h _ _ _ hH (lv_sub hl [2, 3, 4, 5, 1, 0] rfl)
        · have h := h.2 c_9
          refine j_iconst C dX5_sidesAt_38 ?_
          refine j_goto C 43 dX5_sidesAt_39 (by decide) ?_
          refine j_iadd C dX5_sidesAt_43 ?_
          refine j_istore (lv' := [(4, .int (J (x4 + 1))), (0, .ref (a 0)), (1, .int (J x1)), (2, .int (J x2)), (3, .int (J x3)), (5, .int (J x5))]) C dX5_sidesAt_44 hl (by decide) rfl (fun ls hl => ?_)
          refine j_iinc (k := 5) (v := x5 + 1) (lv' := [(5, .int (J (x5 + 1))), (4, .int (J (x4 + 1))), (0, .ref (a 0)), (1, .int (J x1)), (2, .int (J x2)), (3, .int (J x3))]) C dX5_sidesAt_46 hl rfl rfl (by decide) rfl (fun ls hl => ?_)
          refine j_goto C 6 dX5_sidesAt_49 (by decide) ?_
          exact hK6 (x4 + 1) (x5 + 1) h _ _ _ hH (lv_sub hl [2, 3, 4, 5, 1, 0] rfl)
set_option maxRecDepth 4000 in
theorem c_M_sidesAt {l : Launch} {D : va_G} {cA : ClassId} {a : Nat → Nat} {sz : Nat} {mPosts mThirds mStraight mLeast mIsLaid mIsGiven mActs mDone mQueued : Int} {mCorner mSum mBeyond mAct mMark mSpare mLack mBefore mVia mQueue : Nat → Int} {x1 x2 x3 : Int} {Q : Int → Prop} (h : wp_M_sidesAt x1 x2 x3 mPosts mThirds mCorner Q) : Met l yX5_sidesAt (.code yX5_sidesAt cX5_sidesAt 6 (some .int) :: lw_ok) rm_M_sidesAt (xPre D cA sz [.ref (a 0), .int (J x1), .int (J x2), .int (J x3)] (wM cA a mPosts mThirds mStraight mLeast mIsLaid mIsGiven mActs mDone mQueued mCorner mSum mBeyond mAct mMark mSpare mLack mBefore mVia mQueue)) (va_Qi (po_M_sidesAt cA a mPosts mThirds mStraight mLeast mIsLaid mIsGiven mActs mDone mQueued mCorner mSum mBeyond mAct mMark mSpare mLack mBefore mVia mQueue Q) (xB D cA (va_A (wM cA a mPosts mThirds mStraight mLeast mIsLaid mIsGiven mActs mDone mQueued mCorner mSum mBeyond mAct mMark mSpare mLack mBefore mVia mQueue) sz)) (va_A (wM cA a mPosts mThirds mStraight mLeast mIsLaid mIsGiven mActs mDone mQueued mCorner mSum mBeyond mAct mMark mSpare mLack mBefore mVia mQueue) sz)) 0 0 (va_A (wM cA a mPosts mThirds mStraight mLeast mIsLaid mIsGiven mActs mDone mQueued mCorner mSum mBeyond mAct mMark mSpare mLack mBefore mVia mQueue) sz) := by
  refine xmet_i (by decide) (Nat.le_of_ble_eq_true rfl) ?_
  intro p e s m args below meth c A ls C hH hl
  have C : XC p s m args meth c cX5_sidesAt 6 RX5 (some .int) D cA A := C
  have hl : lv_has ls 6 [(0, .ref (a 0)), (1, .int (J x1)), (2, .int (J x2)), (3, .int (J x3))] := hl
  unfold wp_M_sidesAt at h
  refine j_iconst C dX5_sidesAt_0 ?_
  refine j_istore (lv' := [(4, .int (J 0)), (0, .ref (a 0)), (1, .int (J x1)), (2, .int (J x2)), (3, .int (J x3))]) C dX5_sidesAt_1 hl (by decide) rfl (fun ls hl => ?_)
  refine j_iconst C dX5_sidesAt_3 ?_
  refine j_istore (lv' := [(5, .int (J 0)), (4, .int (J 0)), (0, .ref (a 0)), (1, .int (J x1)), (2, .int (J x2)), (3, .int (J x3))]) C dX5_sidesAt_4 hl (by decide) rfl (fun ls hl => ?_)
  obtain ⟨n_, h⟩ := h
  exact w_M_sidesAt_6 C  n_ 0 0 h _ _ _ hH (lv_sub hl [2, 3, 4, 5, 1, 0] rfl)
abbrev po_M_hasPost (cA : ClassId) (a : Nat → Nat) (mPosts mThirds mStraight mLeast mIsLaid mIsGiven mActs mDone mQueued : Int) (mCorner mSum mBeyond mAct mMark mSpare mLack mBefore mVia mQueue : Nat → Int) (Q : Int → Prop) : Int32 → va_W → Prop := fun r w => ∃ z, r = J z ∧ w = wM cA a mPosts mThirds mStraight mLeast mIsLaid mIsGiven mActs mDone mQueued mCorner mSum mBeyond mAct mMark mSpare mLack mBefore mVia mQueue ∧ Q z
set_option maxRecDepth 4000 in
theorem c_M_hasPost {l : Launch} {D : va_G} {cA : ClassId} {a : Nat → Nat} {sz : Nat} {mPosts mThirds mStraight mLeast mIsLaid mIsGiven mActs mDone mQueued : Int} {mCorner mSum mBeyond mAct mMark mSpare mLack mBefore mVia mQueue : Nat → Int} {x1 x2 : Int} {Q : Int → Prop} (h : wp_M_hasPost x1 x2 mCorner Q) : Met l yX5_hasPost (.code yX5_hasPost cX5_hasPost 3 (some .boolean) :: lw_ok) rm_M_hasPost (xPre D cA sz [.ref (a 0), .int (J x1), .int (J x2)] (wM cA a mPosts mThirds mStraight mLeast mIsLaid mIsGiven mActs mDone mQueued mCorner mSum mBeyond mAct mMark mSpare mLack mBefore mVia mQueue)) (va_Qi (po_M_hasPost cA a mPosts mThirds mStraight mLeast mIsLaid mIsGiven mActs mDone mQueued mCorner mSum mBeyond mAct mMark mSpare mLack mBefore mVia mQueue Q) (xB D cA (va_A (wM cA a mPosts mThirds mStraight mLeast mIsLaid mIsGiven mActs mDone mQueued mCorner mSum mBeyond mAct mMark mSpare mLack mBefore mVia mQueue) sz)) (va_A (wM cA a mPosts mThirds mStraight mLeast mIsLaid mIsGiven mActs mDone mQueued mCorner mSum mBeyond mAct mMark mSpare mLack mBefore mVia mQueue) sz)) 0 0 (va_A (wM cA a mPosts mThirds mStraight mLeast mIsLaid mIsGiven mActs mDone mQueued mCorner mSum mBeyond mAct mMark mSpare mLack mBefore mVia mQueue) sz) := by
  refine xmet_i (by decide) (Nat.le_of_ble_eq_true rfl) ?_
  intro p e s m args below meth c A ls C hH hl
  have C : XC p s m args meth c cX5_hasPost 3 RX5 (some .boolean) D cA A := C
  have hl : lv_has ls 3 [(0, .ref (a 0)), (1, .int (J x1)), (2, .int (J x2))] := hl
  unfold wp_M_hasPost at h
  refine j_aload_n C dX5_hasPost_0 (lv_at hl 0 rfl) ?_
  refine xg_X5_corner C hH dX5_hasPost_1 ?_
  refine j_iconst C dX5_hasPost_4 ?_
  refine j_iload_n C dX5_hasPost_5 (lv_at hl 1 rfl) ?_
  refine j_imul C dX5_hasPost_6 ?_
  obtain ⟨b_1, h⟩ := h
  refine xa_mCorner C hH b_1 dX5_hasPost_7 ?_
  refine j_iload_n C dX5_hasPost_8 (lv_at hl 2 rfl) ?_
  obtain ⟨g_2, h⟩ := h
  obtain ⟨g_3, h⟩ := h
  refine j_icmp_eq C 40 g_2 g_3 dX5_hasPost_9 (by decide) (fun c_4 => ?_) (fun c_4 => ?_)
  · have h := h.1 c_4
    refine j_iconst C dX5_hasPost_40 ?_
    refine j_goto C 45 dX5_hasPost_41 (by decide) ?_
    exact j_zret C hH (Or.inr rfl) ⟨_, rfl, rfl, h⟩ dX5_hasPost_45
  · have h := h.2 c_4
    refine j_aload_n C dX5_hasPost_12 (lv_at hl 0 rfl) ?_
    refine xg_X5_corner C hH dX5_hasPost_13 ?_
    refine j_iconst C dX5_hasPost_16 ?_
    refine j_iload_n C dX5_hasPost_17 (lv_at hl 1 rfl) ?_
    refine j_imul C dX5_hasPost_18 ?_
    refine j_iconst C dX5_hasPost_19 ?_
    refine j_iadd C dX5_hasPost_20 ?_
    obtain ⟨b_5, h⟩ := h
    refine xa_mCorner C hH b_5 dX5_hasPost_21 ?_
    refine j_iload_n C dX5_hasPost_22 (lv_at hl 2 rfl) ?_
    obtain ⟨g_6, h⟩ := h
    refine j_icmp_eq C 40 g_6 g_3 dX5_hasPost_23 (by decide) (fun c_7 => ?_) (fun c_7 => ?_)
    · have h := h.1 c_7
      refine j_iconst C dX5_hasPost_40 ?_
      refine j_goto C 45 dX5_hasPost_41 (by decide) ?_
      exact j_zret C hH (Or.inr rfl) ⟨_, rfl, rfl, h⟩ dX5_hasPost_45
    · have h := h.2 c_7
      refine j_aload_n C dX5_hasPost_26 (lv_at hl 0 rfl) ?_
      refine xg_X5_corner C hH dX5_hasPost_27 ?_
      refine j_iconst C dX5_hasPost_30 ?_
      refine j_iload_n C dX5_hasPost_31 (lv_at hl 1 rfl) ?_
      refine j_imul C dX5_hasPost_32 ?_
      refine j_iconst C dX5_hasPost_33 ?_
      refine j_iadd C dX5_hasPost_34 ?_
      obtain ⟨b_8, h⟩ := h
      refine xa_mCorner C hH b_8 dX5_hasPost_35 ?_
      refine j_iload_n C dX5_hasPost_36 (lv_at hl 2 rfl) ?_
      obtain ⟨g_9, h⟩ := h
      refine j_icmp_ne C 44 g_9 g_3 dX5_hasPost_37 (by decide) (fun c_10 => ?_) (fun c_10 => ?_)
      · have h := h.2 c_10
        refine j_iconst C dX5_hasPost_44 ?_
        exact j_zret C hH (Or.inl rfl) ⟨_, rfl, rfl, h⟩ dX5_hasPost_45
      · have h := h.1 c_10
        refine j_iconst C dX5_hasPost_40 ?_
        refine j_goto C 45 dX5_hasPost_41 (by decide) ?_
        exact j_zret C hH (Or.inr rfl) ⟨_, rfl, rfl, h⟩ dX5_hasPost_45
abbrev po_M_hang (cA : ClassId) (a : Nat → Nat) (mPosts mThirds mStraight mLeast mIsLaid mIsGiven mActs mDone mQueued : Int) (mCorner mSum mBeyond mAct mMark mSpare mLack mBefore mVia mQueue : Nat → Int) (Q : Int → Prop) : Int32 → va_W → Prop := fun r w => ∃ z, r = J z ∧ w = wM cA a mPosts mThirds mStraight mLeast mIsLaid mIsGiven mActs mDone mQueued mCorner mSum mBeyond mAct mMark mSpare mLack mBefore mVia mQueue ∧ Q z
set_option maxRecDepth 4000 in
theorem w_M_hang_63 {p : Program} {l : Launch} {e : Env} {s : State} {m : MethodId} {args : Array Value} {below : List Frame} {meth : Method} {c : Code} {D : va_G} {cA : ClassId} {A : Nat → Prop} {a : Nat → Nat} {mPosts mThirds mStraight mLeast mIsLaid mIsGiven mActs mDone mQueued : Int} {mCorner mSum mBeyond mAct mMark mSpare mLack mBefore mVia mQueue : Nat → Int} (C : XC p s m args meth c cX5_hang 8 RX5 (some .boolean) D cA A) {K6 : Int → Int → Prop} {Q : Int → Prop} {x1 : Int} {x2 : Int} {x3 : Int}  (hK6 : ∀ (x4 : Int) (x5 : Int), K6 x4 x5 → ∀ (H : Heap) (locs : List Loc) (ls : Array Slot), XH D A s (wM cA a mPosts mThirds mStraight mLeast mIsLaid mIsGiven mActs mDone mQueued mCorner mSum mBeyond mAct mMark mSpare mLack mBefore mVia mQueue) H locs → lv_has ls 8 [(0, .ref (a 0)), (1, .int (J x1)), (2, .int (J x2)), (3, .int (J x3)), (4, .int (J x4)), (5, .int (J x5))] → W p l e rm_M_hang s m args below meth c H locs 0 0 (MQ below (va_Qi (po_M_hang cA a mPosts mThirds mStraight mLeast mIsLaid mIsGiven mActs mDone mQueued mCorner mSum mBeyond mAct mMark mSpare mLack mBefore mVia mQueue Q) (xB D cA A) A) args s 0 0 A) (F0 m 6 ls [])) : ∀ (x5 : Int) (x6 : Int) (x7 : Int), wp_M_hang_63 K6 Q mThirds mCorner x1 x2 x3 x5 x6 x7 → ∀ (H : Heap) (locs : List Loc) (ls : Array Slot), XH D A s (wM cA a mPosts mThirds mStraight mLeast mIsLaid mIsGiven mActs mDone mQueued mCorner mSum mBeyond mAct mMark mSpare mLack mBefore mVia mQueue) H locs → lv_has ls 8 [(0, .ref (a 0)), (1, .int (J x1)), (2, .int (J x2)), (3, .int (J x3)), (5, .int (J x5)), (6, .int (J x6)), (7, .int (J x7))] → W p l e rm_M_hang s m args below meth c H locs 0 0 (MQ below (va_Qi (po_M_hang cA a mPosts mThirds mStraight mLeast mIsLaid mIsGiven mActs mDone mQueued mCorner mSum mBeyond mAct mMark mSpare mLack mBefore mVia mQueue Q) (xB D cA A) A) args s 0 0 A) (F0 m 63 ls []) := by
  intro x5 x6 x7 h H locs ls hH hl
  unfold wp_M_hang_63 at h
  refine j_aload_n C dX5_hang_63 (lv_at hl 0 rfl) ?_
  refine j_iload C dX5_hang_64 (lv_at hl 6 rfl) ?_
  refine j_iload C dX5_hang_66 (lv_at hl 5 rfl) ?_
  refine xcallV_i (As := [.int (J x7), .int (J x6)]) (rest := []) (q0 := 0) C hH (fun sz => c_M_arrowOf h) xl_X5_74 rfl rfl ⟨rfl, rfl⟩ ⟨Nat.le_of_ble_eq_true rfl, Nat.le_of_ble_eq_true rfl⟩ hl.1 rfl rfl (Nat.le_of_ble_eq_true rfl) dX5_hang_68 (fun r_ w_ H locs hw hH => ?_)
  obtain ⟨z_1, rfl, rfl, h⟩ := hw
  refine j_iload_n C dX5_hang_71 (lv_at hl 2 rfl) ?_
  obtain ⟨g_2, h⟩ := h
  obtain ⟨g_3, h⟩ := h
  refine j_icmp_ne C 79 g_2 g_3 dX5_hang_72 (by decide) (fun c_4 => ?_) (fun c_4 => ?_)
  · have h := h.2 c_4
    refine j_iconst C dX5_hang_79 ?_
    refine j_istore (lv' := [(4, .int (J 0)), (0, .ref (a 0)), (1, .int (J x1)), (2, .int (J x2)), (3, .int (J x3)), (5, .int (J x5)), (6, .int (J x6)), (7, .int (J x7))]) C dX5_hang_80 hl (by decide) rfl (fun ls hl => ?_)
    refine j_iinc (k := 5) (v := x5 + 1) (lv' := [(5, .int (J (x5 + 1))), (4, .int (J 0)), (0, .ref (a 0)), (1, .int (J x1)), (2, .int (J x2)), (3, .int (J x3)), (6, .int (J x6)), (7, .int (J x7))]) C dX5_hang_82 hl rfl rfl (by decide) rfl (fun ls hl => ?_)
    refine j_goto C 6 dX5_hang_85 (by decide) ?_
    exact hK6 0 (x5 + 1) h _ _ _ hH (lv_sub hl [2, 3, 4, 5, 1, 0] rfl)
  · have h := h.1 c_4
    refine j_iconst C dX5_hang_75 ?_
    refine j_goto C 80 dX5_hang_76 (by decide) ?_
    refine j_istore (lv' := [(4, .int (J 1)), (0, .ref (a 0)), (1, .int (J x1)), (2, .int (J x2)), (3, .int (J x3)), (5, .int (J x5)), (6, .int (J x6)), (7, .int (J x7))]) C dX5_hang_80 hl (by decide) rfl (fun ls hl => ?_)
    refine j_iinc (k := 5) (v := x5 + 1) (lv' := [(5, .int (J (x5 + 1))), (4, .int (J 1)), (0, .ref (a 0)), (1, .int (J x1)), (2, .int (J x2)), (3, .int (J x3)), (6, .int (J x6)), (7, .int (J x7))]) C dX5_hang_82 hl rfl rfl (by decide) rfl (fun ls hl => ?_)
    refine j_goto C 6 dX5_hang_85 (by decide) ?_
    exact hK6 1 (x5 + 1) h _ _ _ hH (lv_sub hl [2, 3, 4, 5, 1, 0] rfl)
set_option maxRecDepth 4000 in
theorem w_M_hang_6 {p : Program} {l : Launch} {e : Env} {s : State} {m : MethodId} {args : Array Value} {below : List Frame} {meth : Method} {c : Code} {D : va_G} {cA : ClassId} {A : Nat → Prop} {a : Nat → Nat} {mPosts mThirds mStraight mLeast mIsLaid mIsGiven mActs mDone mQueued : Int} {mCorner mSum mBeyond mAct mMark mSpare mLack mBefore mVia mQueue : Nat → Int} (C : XC p s m args meth c cX5_hang 8 RX5 (some .boolean) D cA A) {Q : Int → Prop} {x1 : Int} {x2 : Int} {x3 : Int}  : ∀ (n : Nat) (x4 : Int) (x5 : Int), wp_M_hang_6 Q mThirds mCorner x1 x2 x3 n x4 x5 → ∀ (H : Heap) (locs : List Loc) (ls : Array Slot), XH D A s (wM cA a mPosts mThirds mStraight mLeast mIsLaid mIsGiven mActs mDone mQueued mCorner mSum mBeyond mAct mMark mSpare mLack mBefore mVia mQueue) H locs → lv_has ls 8 [(0, .ref (a 0)), (1, .int (J x1)), (2, .int (J x2)), (3, .int (J x3)), (4, .int (J x4)), (5, .int (J x5))] → W p l e rm_M_hang s m args below meth c H locs 0 0 (MQ below (va_Qi (po_M_hang cA a mPosts mThirds mStraight mLeast mIsLaid mIsGiven mActs mDone mQueued mCorner mSum mBeyond mAct mMark mSpare mLack mBefore mVia mQueue Q) (xB D cA A) A) args s 0 0 A) (F0 m 6 ls []) := by
  intro n
  induction n with
  | zero => intro x4 x5 h; exact (show False from h).elim
  | succ n hK6 =>
    intro x4 x5 h H locs ls hH hl
    have h : wp_M_hang_6_b  (wp_M_hang_6 Q mThirds mCorner x1 x2 x3 n) Q mThirds mCorner x1 x2 x3 x4 x5 := h
    unfold wp_M_hang_6_b at h
    refine j_iload C dX5_hang_6 (lv_at hl 5 rfl) ?_
    refine j_iconst C dX5_hang_8 ?_
    obtain ⟨g_5, h⟩ := h
    refine j_icmp_ge C 88 g_5 (by unfold jR; decide) dX5_hang_9 (by decide) (fun c_6 => ?_) (fun c_6 => ?_)
    · have h := h.1 c_6
      refine j_iload C dX5_hang_88 (lv_at hl 4 rfl) ?_
      obtain ⟨hz, h⟩ := h
      exact j_zret C hH hz ⟨_, rfl, rfl, h⟩ dX5_hang_90
    · have h := h.2 c_6
      refine j_aload_n C dX5_hang_12 (lv_at hl 0 rfl) ?_
      refine xg_X5_corner C hH dX5_hang_13 ?_
      refine j_iconst C dX5_hang_16 ?_
      refine j_iload_n C dX5_hang_17 (lv_at hl 1 rfl) ?_
      refine j_imul C dX5_hang_18 ?_
      refine j_iload C dX5_hang_19 (lv_at hl 5 rfl) ?_
      refine j_iadd C dX5_hang_21 ?_
      obtain ⟨b_7, h⟩ := h
      refine xa_mCorner C hH b_7 dX5_hang_22 ?_
      refine j_istore (lv' := [(6, .int (J (mCorner ((3 * x1) + x5).toNat))), (0, .ref (a 0)), (1, .int (J x1)), (2, .int (J x2)), (3, .int (J x3)), (4, .int (J x4)), (5, .int (J x5))]) C dX5_hang_23 hl (by decide) rfl (fun ls hl => ?_)
      refine j_aload_n C dX5_hang_25 (lv_at hl 1 rfl) ?_
      refine xg_X5_corner C hH dX5_hang_26 ?_
      refine j_iconst C dX5_hang_29 ?_
      refine j_iload_n C dX5_hang_30 (lv_at hl 2 rfl) ?_
      refine j_imul C dX5_hang_31 ?_
      refine j_iload C dX5_hang_32 (lv_at hl 6 rfl) ?_
      refine j_iconst C dX5_hang_34 ?_
      refine j_iadd C dX5_hang_35 ?_
      refine j_iconst C dX5_hang_36 ?_
      refine j_irem C (by decide +kernel) dX5_hang_37 ?_
      refine j_iadd C dX5_hang_38 ?_
      obtain ⟨b_8, h⟩ := h
      refine xa_mCorner C hH b_8 dX5_hang_39 ?_
      refine j_istore (lv' := [(7, .int (J (mCorner ((3 * x1) + (jrem (x5 + 1) 3)).toNat))), (6, .int (J (mCorner ((3 * x1) + x5).toNat))), (0, .ref (a 0)), (1, .int (J x1)), (2, .int (J x2)), (3, .int (J x3)), (4, .int (J x4)), (5, .int (J x5))]) C dX5_hang_40 hl (by decide) rfl (fun ls hl => ?_)
      refine j_iload C dX5_hang_42 (lv_at hl 6 rfl) ?_
      obtain ⟨g_9, h⟩ := h
      refine j_if_ne C 75 g_9 dX5_hang_44 (by decide) (fun c_10 => ?_) (fun c_10 => ?_)
      · have h := h.2 c_10
        refine j_iconst C dX5_hang_75 ?_
        refine j_goto C 80 dX5_hang_76 (by decide) ?_
        refine j_istore (lv' := [(4, .int (J 1)), (7, .int (J (mCorner ((3 * x1) + (jrem (x5 + 1) 3)).toNat))), (6, .int (J (mCorner ((3 * x1) + x5).toNat))), (0, .ref (a 0)), (1, .int (J x1)), (2, .int (J x2)), (3, .int (J x3)), (5, .int (J x5))]) C dX5_hang_80 hl (by decide) rfl (fun ls hl => ?_)
        refine j_iinc (k := 7) (v := x5 + 1) (lv' := [(5, .int (J (x5 + 1))), (4, .int (J 1)), (7, .int (J (mCorner ((3 * x1) + (jrem (x5 + 1) 3)).toNat))), (6, .int (J (mCorner ((3 * x1) + x5).toNat))), (0, .ref (a 0)), (1, .int (J x1)), (2, .int (J x2)), (3, .int (J x3))]) C dX5_hang_82 hl rfl rfl (by decide) rfl (fun ls hl => ?_)
        refine j_goto C 6 dX5_hang_85 (by decide) ?_
        exact hK6 1 (x5 + 1) h _ _ _ hH (lv_sub hl [4, 5, 6, 7, 1, 0] rfl)
      · have h := h.1 c_10
        refine j_iload_n C dX5_hang_47 (lv_at hl 5 rfl) ?_
        obtain ⟨g_11, h⟩ := h
        refine j_if_lt C 63 g_11 dX5_hang_48 (by decide) (fun c_12 => ?_) (fun c_12 => ?_)
        · have h := h.1 c_12
          exact w_M_hang_63 C hK6 x5 (mCorner ((3 * x1) + x5).toNat) (mCorner ((3 * x1) + (jrem (x5 + 1) 3)).toNat) h _ _ _ hH (lv_sub hl [2, 3, 4, 5, 7, 1, 0] rfl)
        · have h := h.2 c_12
          refine j_iload C dX5_hang_51 (lv_at hl 1 rfl) ?_
          refine j_iload_n C dX5_hang_53 (lv_at hl 5 rfl) ?_
          obtain ⟨g_13, h⟩ := h
          refine j_icmp_eq C 63 g_13 g_11 dX5_hang_54 (by decide) (fun c_14 => ?_) (fun c_14 => ?_)
          · have h := h.1 c_14
            exact w_M_hang_63 C hK6 x5 (mCorner ((3 * x1) + x5).toNat) (mCorner ((3 * x1) + (jrem (x5 + 1) 3)).toNat) h _ _ _ hH (lv_sub hl [2, 3, 4, 5, 7, 1, 0] rfl)
          · have h := h.2 c_14
            refine j_iload C dX5_hang_57 (lv_at hl 0 rfl) ?_
            refine j_iload_n C dX5_hang_59 (lv_at hl 5 rfl) ?_
            obtain ⟨g_15, h⟩ := h
            refine j_icmp_ne C 79 g_15 g_11 dX5_hang_60 (by decide) (fun c_16 => ?_) (fun c_16 => ?_)
            · have h := h.2 c_16
              refine j_iconst C dX5_hang_79 ?_
              refine j_istore (lv' := [(4, .int (J 0)), (7, .int (J (mCorner ((3 * x1) + (jrem (x5 + 1) 3)).toNat))), (6, .int (J (mCorner ((3 * x1) + x5).toNat))), (0, .ref (a 0)), (1, .int (J x1)), (2, .int (J x2)), (3, .int (J x3)), (5, .int (J x5))]) C dX5_hang_80 hl (by decide) rfl (fun ls hl => ?_)
              refine j_iinc (k := 7) (v := x5 + 1) (lv' := [(5, .int (J (x5 + 1))), (4, .int (J 0)), (7, .int (J (mCorner ((3 * x1) + (jrem (x5 + 1) 3)).toNat))), (6, .int (J (mCorner ((3 * x1) + x5).toNat))), (0, .ref (a 0)), (1, .int (J x1)), (2, .int (J x2)), (3, .int (J x3))]) C dX5_hang_82 hl rfl rfl (by decide) rfl (fun ls hl => ?_)
              refine j_goto C 6 dX5_hang_85 (by decide) ?_
              exact hK6 0 (x5 + 1) h _ _ _ hH (lv_sub hl [4, 5, 6, 7, 1, 0] rfl)
            · have h := h.1 c_16
              exact w_M_hang_63 C hK6 x5 (mCorner ((3 * x1) + x5).toNat) (mCorner ((3 * x1) + (jrem (x5 + 1) 3)).toNat) h _ _ _ hH (lv_sub hl [2, 3, 4, 5, 7, 1, 0] rfl)
set_option maxRecDepth 4000 in
theorem c_M_hang {l : Launch} {D : va_G} {cA : ClassId} {a : Nat → Nat} {sz : Nat} {mPosts mThirds mStraight mLeast mIsLaid mIsGiven mActs mDone mQueued : Int} {mCorner mSum mBeyond mAct mMark mSpare mLack mBefore mVia mQueue : Nat → Int} {x1 x2 x3 : Int} {Q : Int → Prop} (h : wp_M_hang x1 x2 x3 mThirds mCorner Q) : Met l yX5_hang (.code yX5_hang cX5_hang 8 (some .boolean) :: lw_ok) rm_M_hang (xPre D cA sz [.ref (a 0), .int (J x1), .int (J x2), .int (J x3)] (wM cA a mPosts mThirds mStraight mLeast mIsLaid mIsGiven mActs mDone mQueued mCorner mSum mBeyond mAct mMark mSpare mLack mBefore mVia mQueue)) (va_Qi (po_M_hang cA a mPosts mThirds mStraight mLeast mIsLaid mIsGiven mActs mDone mQueued mCorner mSum mBeyond mAct mMark mSpare mLack mBefore mVia mQueue Q) (xB D cA (va_A (wM cA a mPosts mThirds mStraight mLeast mIsLaid mIsGiven mActs mDone mQueued mCorner mSum mBeyond mAct mMark mSpare mLack mBefore mVia mQueue) sz)) (va_A (wM cA a mPosts mThirds mStraight mLeast mIsLaid mIsGiven mActs mDone mQueued mCorner mSum mBeyond mAct mMark mSpare mLack mBefore mVia mQueue) sz)) 0 0 (va_A (wM cA a mPosts mThirds mStraight mLeast mIsLaid mIsGiven mActs mDone mQueued mCorner mSum mBeyond mAct mMark mSpare mLack mBefore mVia mQueue) sz) := by
  refine xmet_i (by decide) (Nat.le_of_ble_eq_true rfl) ?_
  intro p e s m args below meth c A ls C hH hl
  have C : XC p s m args meth c cX5_hang 8 RX5 (some .boolean) D cA A := C
  have hl : lv_has ls 8 [(0, .ref (a 0)), (1, .int (J x1)), (2, .int (J x2)), (3, .int (J x3))] := hl
  unfold wp_M_hang at h
  refine j_iconst C dX5_hang_0 ?_
  refine j_istore (lv' := [(4, .int (J 0)), (0, .ref (a 0)), (1, .int (J x1)), (2, .int (J x2)), (3, .int (J x3))]) C dX5_hang_1 hl (by decide) rfl (fun ls hl => ?_)
  refine j_iconst C dX5_hang_3 ?_
  refine j_istore (lv' := [(5, .int (J 0)), (4, .int (J 0)), (0, .ref (a 0)), (1, .int (J x1)), (2, .int (J x2)), (3, .int (J x3))]) C dX5_hang_4 hl (by decide) rfl (fun ls hl => ?_)
  obtain ⟨n_, h⟩ := h
  exact w_M_hang_6 C  n_ 0 0 h _ _ _ hH (lv_sub hl [2, 3, 4, 5, 1, 0] rfl)

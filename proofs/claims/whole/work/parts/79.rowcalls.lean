/-! the calls that look at the row -/
section
variable {x1 x2 x3 xStraight xLeast nPosts nThirds : Int} {nCorners nSums nArrows : Nat → Int} {aBehind aAhead : Int} {aCells aBefore aAfter : Nat → Int} {gCorners gLowest gFirst gFresh gThere : Int} {gRow gPlaces gOver gVia gQueue : Nat → Int} {bTold bStraight bLeast : Int} {bPostsOf bSets bTotals : Nat → Int} {mPosts mThirds mStraight mLeast mIsLaid mIsGiven mActs mDone mQueued : Int} {mCorner mSum mBeyond mAct mMark mSpare mLack mBefore mVia mQueue : Nat → Int}
theorem t_can (h : Inv xStraight xLeast nPosts nThirds nCorners nSums nArrows aBehind aAhead aCells aBefore aAfter gCorners gFresh gThere gRow bSets bTotals mPosts mThirds mStraight mLeast mIsLaid mIsGiven mActs mDone mCorner mSum mBeyond mAct) : wp_X_can xStraight xLeast nPosts nThirds nCorners nSums gCorners gLowest gFirst gFresh gThere gRow gPlaces gOver gVia gQueue (fun z gCorners gLowest gFirst gFresh gThere gRow gPlaces gOver gVia gQueue => wp_M_can mPosts mThirds mStraight mLeast mIsLaid mIsGiven mQueued mCorner mSum mBeyond mSpare mLack mBefore mVia mQueue (fun z2 mIsLaid mIsGiven mQueued mBeyond mSpare mLack mBefore mVia mQueue => z = z2 ∧ Inv xStraight xLeast nPosts nThirds nCorners nSums nArrows aBehind aAhead aCells aBefore aAfter gCorners gFresh gThere gRow bSets bTotals mPosts mThirds mStraight mLeast mIsLaid mIsGiven mActs mDone mCorner mSum mBeyond mAct)) := by
  have h' := h
  obtain ⟨n, a, d, T, co, su, N, L, ⟨hN, hS, hr, e1, e2, e3, e4, hc, hs, hA, hX, hb⟩, ⟨f1, f2, f3, f4, mc, msu, hM⟩, hH⟩ := h
  have hle := hN.le
  subst e1; subst f3; subst e2
  have f4' : mLeast = xLeast := f4
  subst f4'
  have inv1 : ∀ row be : Nat → Int, IsRow n T co su mStraight mLeast row → IsRow n T co su mStraight mLeast (fun d => mLeast + be d) → Inv mStraight mLeast nPosts nThirds nCorners nSums nArrows aBehind aAhead aCells aBefore aAfter (3 * (T : Int)) 1 1 row bSets bTotals mPosts mThirds mStraight mLeast 1 1 mActs mDone mCorner mSum be mAct := fun row be q w => ⟨n, a, d, T, co, su, _, _, ⟨hN, hS, hr, rfl, rfl, e3, e4, hc, hs, hA, Or.inr ⟨rfl, Or.inl ⟨rfl, rfl, q⟩⟩, hb⟩, ⟨f1, f2, rfl, rfl, mc, msu, Or.inr ⟨rfl, Or.inl ⟨rfl, w⟩⟩⟩, hH⟩
  have inv0 : ∀ (gC : Int) (row be : Nat → Int), (∀ g, ¬ IsGiv n T co su mStraight mLeast g) → Inv mStraight mLeast nPosts nThirds nCorners nSums nArrows aBehind aAhead aCells aBefore aAfter gC 1 0 row bSets bTotals mPosts mThirds mStraight mLeast 1 0 mActs mDone mCorner mSum be mAct := fun gC row be q => ⟨n, a, d, T, co, su, _, _, ⟨hN, hS, hr, rfl, rfl, e3, e4, hc, hs, hA, Or.inr ⟨rfl, Or.inr ⟨rfl, q⟩⟩, hb⟩, ⟨f1, f2, rfl, rfl, mc, msu, Or.inr ⟨rfl, Or.inr ⟨rfl, q⟩⟩⟩, hH⟩
  unfold wp_X_can
  refine s_G_findRow e3 e4 hN hc hs hS ⟨by omega, by omega⟩ hr.2.2.2.2 hr.2.1 hX (fun gL gF row pl ov via qu hrow => ⟨jR01_1, fun g => absurd g (by decide), fun _ => ?_⟩) (fun gC gL gF row pl ov via qu hno => ⟨jR01_0, fun _ => ?_, fun g => absurd rfl g⟩)
  · unfold wp_M_can
    exact s_M_hasRow hN f1 f2 mc msu hS (by omega) (by omega) hr.2.2.2.2 hr.2.1 hM (fun qd be sp la bef via queue hrow2 => ⟨jR01_1, fun g => absurd g (by decide), fun _ => ⟨rfl, inv1 _ _ hrow hrow2⟩⟩) (fun qd be sp la bef via queue hno => absurd hrow.1 (hno _))
  · unfold wp_M_can
    exact s_M_hasRow hN f1 f2 mc msu hS (by omega) (by omega) hr.2.2.2.2 hr.2.1 hM (fun qd be sp la bef via queue hrow2 => absurd hrow2.1 (hno _)) (fun qd be sp la bef via queue _ => ⟨jR01_0, fun _ => ⟨rfl, inv0 _ _ _ hno⟩, fun g => absurd rfl g⟩)
theorem t_angle (h : Inv xStraight xLeast nPosts nThirds nCorners nSums nArrows aBehind aAhead aCells aBefore aAfter gCorners gFresh gThere gRow bSets bTotals mPosts mThirds mStraight mLeast mIsLaid mIsGiven mActs mDone mCorner mSum mBeyond mAct) (hx1 : jR x1) : wp_X_angle x1 xStraight xLeast nPosts nThirds nCorners nSums gCorners gLowest gFirst gFresh gThere gRow gPlaces gOver gVia gQueue (fun z gCorners gLowest gFirst gFresh gThere gRow gPlaces gOver gVia gQueue => wp_M_angle x1 mPosts mThirds mStraight mLeast mIsLaid mIsGiven mQueued mCorner mSum mBeyond mSpare mLack mBefore mVia mQueue (fun z2 mIsLaid mIsGiven mQueued mBeyond mSpare mLack mBefore mVia mQueue => z = z2 ∧ Inv xStraight xLeast nPosts nThirds nCorners nSums nArrows aBehind aAhead aCells aBefore aAfter gCorners gFresh gThere gRow bSets bTotals mPosts mThirds mStraight mLeast mIsLaid mIsGiven mActs mDone mCorner mSum mBeyond mAct)) := by
  have h' := h
  obtain ⟨n, a, d, T, co, su, N, L, ⟨hN, hS, hr, e1, e2, e3, e4, hc, hs, hA, hX, hb⟩, ⟨f1, f2, f3, f4, mc, msu, hM⟩, hH⟩ := h
  have hle := hN.le
  subst e1; subst f3; subst e2
  have f4' : mLeast = xLeast := f4
  subst f4'
  have inv1 : ∀ row be : Nat → Int, IsRow n T co su mStraight mLeast row → IsRow n T co su mStraight mLeast (fun d => mLeast + be d) → Inv mStraight mLeast nPosts nThirds nCorners nSums nArrows aBehind aAhead aCells aBefore aAfter (3 * (T : Int)) 1 1 row bSets bTotals mPosts mThirds mStraight mLeast 1 1 mActs mDone mCorner mSum be mAct := fun row be q w => ⟨n, a, d, T, co, su, _, _, ⟨hN, hS, hr, rfl, rfl, e3, e4, hc, hs, hA, Or.inr ⟨rfl, Or.inl ⟨rfl, rfl, q⟩⟩, hb⟩, ⟨f1, f2, rfl, rfl, mc, msu, Or.inr ⟨rfl, Or.inl ⟨rfl, w⟩⟩⟩, hH⟩
  have inv0 : ∀ (gC : Int) (row be : Nat → Int), (∀ g, ¬ IsGiv n T co su mStraight mLeast g) → Inv mStraight mLeast nPosts nThirds nCorners nSums nArrows aBehind aAhead aCells aBefore aAfter gC 1 0 row bSets bTotals mPosts mThirds mStraight mLeast 1 0 mActs mDone mCorner mSum be mAct := fun gC row be q => ⟨n, a, d, T, co, su, _, _, ⟨hN, hS, hr, rfl, rfl, e3, e4, hc, hs, hA, Or.inr ⟨rfl, Or.inr ⟨rfl, q⟩⟩, hb⟩, ⟨f1, f2, rfl, rfl, mc, msu, Or.inr ⟨rfl, Or.inr ⟨rfl, q⟩⟩⟩, hH⟩
  unfold wp_X_angle
  refine s_N_hasCorner e4 hle.2.2 hx1 (fun b1 b2 => ⟨jR01_1, fun g => absurd g (by decide), fun _ => ?_⟩) (fun g => ⟨jR01_0, fun _ => ?_, fun g => absurd rfl g⟩)
  · refine s_G_findRow e3 e4 hN hc hs hS ⟨by omega, by omega⟩ hr.2.2.2.2 hr.2.1 hX (fun gL gF row pl ov via qu hrow => ⟨jR01_1, fun g => absurd g (by decide), fun _ => ?_⟩) (fun gC gL gF row pl ov via qu hno => ⟨jR01_0, fun _ => ?_, fun g => absurd rfl g⟩)
    · unfold wp_G_given
      refine ⟨⟨by omega, by omega⟩, ?_⟩
      unfold wp_M_angle
      refine s_M_in hx1 jR01_0 ⟨by omega, by omega⟩ (fun _ _ => ⟨jR01_1, fun g => absurd g (by decide), fun _ => ?_⟩) (fun g => by omega)
      refine s_M_hasRow hN f1 f2 mc msu hS (by omega) (by omega) hr.2.2.2.2 hr.2.1 hM (fun qd be sp la bef via queue hrow2 => ⟨jR01_1, fun g => absurd g (by decide), fun _ => ⟨⟨by omega, by omega⟩, ?_, inv1 _ _ hrow hrow2⟩⟩) (fun qd be sp la bef via queue hno => absurd hrow.1 (hno _))
      exact row_unique hrow hrow2 _ (by omega)
    · unfold wp_M_angle
      refine s_M_in hx1 jR01_0 ⟨by omega, by omega⟩ (fun _ _ => ⟨jR01_1, fun g => absurd g (by decide), fun _ => ?_⟩) (fun g => by omega)
      exact s_M_hasRow hN f1 f2 mc msu hS (by omega) (by omega) hr.2.2.2.2 hr.2.1 hM (fun qd be sp la bef via queue hrow2 => absurd hrow2.1 (hno _)) (fun qd be sp la bef via queue _ => ⟨jR01_0, fun _ => ⟨rfl, inv0 _ _ _ hno⟩, fun g => absurd rfl g⟩)
  · unfold wp_M_angle
    exact s_M_in hx1 jR01_0 ⟨by omega, by omega⟩ (fun _ _ => by omega) (fun _ => ⟨jR01_0, fun _ => ⟨rfl, h'⟩, fun g => absurd rfl g⟩)
theorem t_opposite (h : Inv xStraight xLeast nPosts nThirds nCorners nSums nArrows aBehind aAhead aCells aBefore aAfter gCorners gFresh gThere gRow bSets bTotals mPosts mThirds mStraight mLeast mIsLaid mIsGiven mActs mDone mCorner mSum mBeyond mAct) (hx1 : jR x1) (hx2 : jR x2) : wp_X_opposite x1 x2 xStraight xLeast nPosts nThirds nCorners nSums nArrows gCorners gLowest gFirst gFresh gThere gRow gPlaces gOver gVia gQueue (fun z gCorners gLowest gFirst gFresh gThere gRow gPlaces gOver gVia gQueue => wp_M_opposite x1 x2 mPosts mThirds mStraight mLeast mIsLaid mIsGiven mQueued mCorner mSum mBeyond mSpare mLack mBefore mVia mQueue (fun z2 mIsLaid mIsGiven mQueued mBeyond mSpare mLack mBefore mVia mQueue => z = z2 ∧ Inv xStraight xLeast nPosts nThirds nCorners nSums nArrows aBehind aAhead aCells aBefore aAfter gCorners gFresh gThere gRow bSets bTotals mPosts mThirds mStraight mLeast mIsLaid mIsGiven mActs mDone mCorner mSum mBeyond mAct)) := by
  have h' := h
  obtain ⟨n, a, d, T, co, su, N, L, ⟨hN, hS, hr, e1, e2, e3, e4, hc, hs, hA, hX, hb⟩, ⟨f1, f2, f3, f4, mc, msu, hM⟩, hH⟩ := h
  have hle := hN.le
  subst e1; subst f3; subst e2
  have f4' : mLeast = xLeast := f4
  subst f4'
  have inv1 : ∀ row be : Nat → Int, IsRow n T co su mStraight mLeast row → IsRow n T co su mStraight mLeast (fun d => mLeast + be d) → Inv mStraight mLeast nPosts nThirds nCorners nSums nArrows aBehind aAhead aCells aBefore aAfter (3 * (T : Int)) 1 1 row bSets bTotals mPosts mThirds mStraight mLeast 1 1 mActs mDone mCorner mSum be mAct := fun row be q w => ⟨n, a, d, T, co, su, _, _, ⟨hN, hS, hr, rfl, rfl, e3, e4, hc, hs, hA, Or.inr ⟨rfl, Or.inl ⟨rfl, rfl, q⟩⟩, hb⟩, ⟨f1, f2, rfl, rfl, mc, msu, Or.inr ⟨rfl, Or.inl ⟨rfl, w⟩⟩⟩, hH⟩
  have inv0 : ∀ (gC : Int) (row be : Nat → Int), (∀ g, ¬ IsGiv n T co su mStraight mLeast g) → Inv mStraight mLeast nPosts nThirds nCorners nSums nArrows aBehind aAhead aCells aBefore aAfter gC 1 0 row bSets bTotals mPosts mThirds mStraight mLeast 1 0 mActs mDone mCorner mSum be mAct := fun gC row be q => ⟨n, a, d, T, co, su, _, _, ⟨hN, hS, hr, rfl, rfl, e3, e4, hc, hs, hA, Or.inr ⟨rfl, Or.inr ⟨rfl, q⟩⟩, hb⟩, ⟨f1, f2, rfl, rfl, mc, msu, Or.inr ⟨rfl, Or.inr ⟨rfl, q⟩⟩⟩, hH⟩
  have rs := sd_r co (3 * T) x1 x2
  unfold wp_X_opposite
  refine s_N_isSide e3 hle.2.1 hA hle.2.2 hx1 hx2 (fun p1 p2 q1 q2 ne hsd => ⟨jR01_1, fun g => absurd g (by decide), fun _ => ?_⟩) (fun g => ⟨jR01_0, fun _ => ?_, fun g => absurd rfl g⟩)
  · refine s_G_findRow e3 e4 hN hc hs hS ⟨by omega, by omega⟩ hr.2.2.2.2 hr.2.1 hX (fun gL gF row pl ov via qu hrow => ⟨jR01_1, fun g => absurd g (by decide), fun _ => s_X_givenOpposite hN hc hA (by omega) (by omega) (by omega) (by omega) ?_⟩) (fun gC gL gF row pl ov via qu hno => ⟨jR01_0, fun _ => ?_, fun g => absurd rfl g⟩)
    · unfold wp_M_opposite
      refine s_M_arePair f1 hle.2.1 hx1 hx2 (fun _ _ _ _ _ => ⟨jR01_1, fun g => absurd g (by decide), fun _ => s_M_sideOf hN f2 mc hx1 hx2 ⟨⟨by omega, by omega⟩, fun g => by omega, fun _ => ?_⟩⟩) (fun g => absurd ⟨p1, p2, q1, q2, ne⟩ g)
      refine s_M_hasRow hN f1 f2 mc msu hS (by omega) (by omega) hr.2.2.2.2 hr.2.1 hM (fun qd be sp la bef via queue hrow2 => ⟨jR01_1, fun g => absurd g (by decide), fun _ => s_M_oppositeOf hN f2 mc hx1 hx2 ⟨?_, inv1 _ _ hrow hrow2⟩⟩) (fun qd be sp la bef via queue hno => absurd hrow.1 (hno _))
      exact oppS_congr hN (row_unique hrow hrow2) _ _
    · unfold wp_M_opposite
      refine s_M_arePair f1 hle.2.1 hx1 hx2 (fun _ _ _ _ _ => ⟨jR01_1, fun g => absurd g (by decide), fun _ => s_M_sideOf hN f2 mc hx1 hx2 ⟨⟨by omega, by omega⟩, fun g => by omega, fun _ => ?_⟩⟩) (fun g => absurd ⟨p1, p2, q1, q2, ne⟩ g)
      exact s_M_hasRow hN f1 f2 mc msu hS (by omega) (by omega) hr.2.2.2.2 hr.2.1 hM (fun qd be sp la bef via queue hrow2 => absurd hrow2.1 (hno _)) (fun qd be sp la bef via queue _ => ⟨jR01_0, fun _ => ⟨rfl, inv0 _ _ _ hno⟩, fun g => absurd rfl g⟩)
  · unfold wp_M_opposite
    refine s_M_arePair f1 hle.2.1 hx1 hx2 (fun p1 p2 q1 q2 ne => ⟨jR01_1, fun g => absurd g (by decide), fun _ => s_M_sideOf hN f2 mc hx1 hx2 ⟨⟨by omega, by omega⟩, fun _ => ⟨rfl, h'⟩, fun w => absurd ⟨p1, p2, q1, q2, ne, by omega⟩ g⟩⟩) (fun _ => ⟨jR01_0, fun _ => ⟨rfl, h'⟩, fun g => absurd rfl g⟩)
theorem t_fit (h : Inv xStraight xLeast nPosts nThirds nCorners nSums nArrows aBehind aAhead aCells aBefore aAfter gCorners gFresh gThere gRow bSets bTotals mPosts mThirds mStraight mLeast mIsLaid mIsGiven mActs mDone mCorner mSum mBeyond mAct) : wp_X_fit xStraight xLeast nPosts nThirds nCorners nSums nArrows gCorners gLowest gFirst gFresh gThere gRow gPlaces gOver gVia gQueue (fun z gCorners gLowest gFirst gFresh gThere gRow gPlaces gOver gVia gQueue => wp_M_fit mPosts mThirds mStraight mLeast mIsLaid mIsGiven mQueued mCorner mSum mBeyond mSpare mLack mBefore mVia mQueue (fun z2 mIsLaid mIsGiven mQueued mBeyond mSpare mLack mBefore mVia mQueue => z = z2 ∧ Inv xStraight xLeast nPosts nThirds nCorners nSums nArrows aBehind aAhead aCells aBefore aAfter gCorners gFresh gThere gRow bSets bTotals mPosts mThirds mStraight mLeast mIsLaid mIsGiven mActs mDone mCorner mSum mBeyond mAct)) := by
  have h' := h
  obtain ⟨n, a, d, T, co, su, N, L, ⟨hN, hS, hr, e1, e2, e3, e4, hc, hs, hA, hX, hb⟩, ⟨f1, f2, f3, f4, mc, msu, hM⟩, hH⟩ := h
  have hle := hN.le
  subst e1; subst f3; subst e2
  have f4' : mLeast = xLeast := f4
  subst f4'
  have inv1 : ∀ row be : Nat → Int, IsRow n T co su mStraight mLeast row → IsRow n T co su mStraight mLeast (fun d => mLeast + be d) → Inv mStraight mLeast nPosts nThirds nCorners nSums nArrows aBehind aAhead aCells aBefore aAfter (3 * (T : Int)) 1 1 row bSets bTotals mPosts mThirds mStraight mLeast 1 1 mActs mDone mCorner mSum be mAct := fun row be q w => ⟨n, a, d, T, co, su, _, _, ⟨hN, hS, hr, rfl, rfl, e3, e4, hc, hs, hA, Or.inr ⟨rfl, Or.inl ⟨rfl, rfl, q⟩⟩, hb⟩, ⟨f1, f2, rfl, rfl, mc, msu, Or.inr ⟨rfl, Or.inl ⟨rfl, w⟩⟩⟩, hH⟩
  have inv0 : ∀ (gC : Int) (row be : Nat → Int), (∀ g, ¬ IsGiv n T co su mStraight mLeast g) → Inv mStraight mLeast nPosts nThirds nCorners nSums nArrows aBehind aAhead aCells aBefore aAfter gC 1 0 row bSets bTotals mPosts mThirds mStraight mLeast 1 0 mActs mDone mCorner mSum be mAct := fun gC row be q => ⟨n, a, d, T, co, su, _, _, ⟨hN, hS, hr, rfl, rfl, e3, e4, hc, hs, hA, Or.inr ⟨rfl, Or.inr ⟨rfl, q⟩⟩, hb⟩, ⟨f1, f2, rfl, rfl, mc, msu, Or.inr ⟨rfl, Or.inr ⟨rfl, q⟩⟩⟩, hH⟩
  unfold wp_X_fit
  refine s_G_findRow e3 e4 hN hc hs hS ⟨by omega, by omega⟩ hr.2.2.2.2 hr.2.1 hX (fun gL gF row pl ov via qu hrow => ⟨jR01_1, fun g => absurd g (by decide), fun _ => s_X_fitLoop hN e3 hc hA (by omega) hr.2.2.2.2 hr.2.1 hrow.1 ?_⟩) (fun gC gL gF row pl ov via qu hno => ⟨jR01_0, fun _ => ?_, fun g => absurd rfl g⟩)
  · unfold wp_M_fit
    refine s_M_hasRow hN f1 f2 mc msu hS (by omega) (by omega) hr.2.2.2.2 hr.2.1 hM (fun qd be sp la bef via queue hrow2 => ⟨jR01_1, fun g => absurd g (by decide), fun _ => s_M_fitLoop hN f1 f2 mc (by omega) hr.2.2.2.2 hr.2.1 hrow2.1 ⟨?_, inv1 _ _ hrow hrow2⟩⟩) (fun qd be sp la bef via queue hno => absurd hrow.1 (hno _))
    exact fitN_congr hN (row_unique hrow hrow2)
  · unfold wp_M_fit
    exact s_M_hasRow hN f1 f2 mc msu hS (by omega) (by omega) hr.2.2.2.2 hr.2.1 hM (fun qd be sp la bef via queue hrow2 => absurd hrow2.1 (hno _)) (fun qd be sp la bef via queue _ => ⟨jR01_0, fun _ => ⟨rfl, inv0 _ _ _ hno⟩, fun g => absurd rfl g⟩)
theorem t_bar (h : Inv xStraight xLeast nPosts nThirds nCorners nSums nArrows aBehind aAhead aCells aBefore aAfter gCorners gFresh gThere gRow bSets bTotals mPosts mThirds mStraight mLeast mIsLaid mIsGiven mActs mDone mCorner mSum mBeyond mAct) (hx1 : jR x1) : wp_X_bar x1 xStraight xLeast nPosts nThirds nCorners nSums gCorners gLowest gFirst gFresh gThere gRow gPlaces gOver gVia gQueue bTold bStraight bLeast bPostsOf bSets bTotals (fun z gCorners gLowest gFirst gFresh gThere gRow gPlaces gOver gVia gQueue bTold bStraight bLeast bPostsOf bSets bTotals => wp_M_bar x1 mPosts mThirds mStraight mLeast mCorner mSum (fun z2 => z = z2 ∧ Inv xStraight xLeast nPosts nThirds nCorners nSums nArrows aBehind aAhead aCells aBefore aAfter gCorners gFresh gThere gRow bSets bTotals mPosts mThirds mStraight mLeast mIsLaid mIsGiven mActs mDone mCorner mSum mBeyond mAct)) := by
  have h' := h
  obtain ⟨n, a, d, T, co, su, N, L, ⟨hN, hS, hr, e1, e2, e3, e4, hc, hs, hA, hX, hb⟩, ⟨f1, f2, f3, f4, mc, msu, hM⟩, hH⟩ := h
  have hle := hN.le
  subst e1; subst f3; subst e2
  have f4' : mLeast = xLeast := f4
  subst f4'
  unfold wp_X_bar
  have bad : ¬ (0 ≤ x1 ∧ x1 ≤ 2) → wp_M_bar x1 mPosts mThirds mStraight mLeast mCorner mSum (fun z2 => -2 = z2 ∧ Inv mStraight mLeast nPosts nThirds nCorners nSums nArrows aBehind aAhead aCells aBefore aAfter gCorners gFresh gThere gRow bSets bTotals mPosts mThirds mStraight mLeast mIsLaid mIsGiven mActs mDone mCorner mSum mBeyond mAct) := fun g => s_M_bar hN f1 f2 mc msu hS (by omega) hr.2.2.2.2 hr.2.1 hx1 (fun _ => ⟨rfl, h'⟩) (fun a b => absurd ⟨a, b⟩ g)
  refine ⟨hx1, fun g => bad (by omega), fun g => ⟨fun g2 => ?_, fun g2 => bad (by omega)⟩⟩
  refine s_G_findRow e3 e4 hN hc hs hS ⟨by omega, by omega⟩ hr.2.2.2.2 hr.2.1 hX (fun gL gF row pl ov via qu hrow => ⟨jR01_1, fun g => absurd g (by decide), fun _ => ?_⟩) (fun gC gL gF row pl ov via qu hno => ⟨jR01_0, fun _ => s_B_fewest hN e3 e4 hc hs hS (by omega) hr.2.2.2.2 hr.2.1 ⟨by omega, by omega⟩ hb.1 hb.2.1 hb.2.2 (fun bt po se tot t0 s0 s64 => ?_), fun g => absurd rfl g⟩)
  · refine s_M_bar hN f1 f2 mc msu hS (by omega) hr.2.2.2.2 hr.2.1 hx1 (fun g => by omega) (fun _ _ => ⟨?_, n, a, d, T, co, su, _, _, ⟨hN, hS, hr, rfl, rfl, e3, e4, hc, hs, hA, Or.inr ⟨rfl, Or.inl ⟨rfl, rfl, hrow⟩⟩, hb⟩, ⟨f1, f2, rfl, rfl, mc, msu, hM⟩, hH⟩)
    rw [fw_none (fun k hk => no_PB hN (by omega) hrow.1 (fun q => by rw [if_pos q] at hk; exact hk))]; rfl
  · exact s_M_bar hN f1 f2 mc msu hS (by omega) hr.2.2.2.2 hr.2.1 hx1 (fun g => by omega) (fun _ _ => ⟨rfl, n, a, d, T, co, su, _, _, ⟨hN, hS, hr, rfl, rfl, e3, e4, hc, hs, hA, Or.inr ⟨rfl, Or.inr ⟨rfl, hno⟩⟩, t0, s0, s64⟩, ⟨f1, f2, rfl, rfl, mc, msu, hM⟩, hH⟩)
theorem t_about (h : Inv xStraight xLeast nPosts nThirds nCorners nSums nArrows aBehind aAhead aCells aBefore aAfter gCorners gFresh gThere gRow bSets bTotals mPosts mThirds mStraight mLeast mIsLaid mIsGiven mActs mDone mCorner mSum mBeyond mAct) (hx1 : jR x1) (hx2 : jR x2) : wp_X_about x1 x2 xStraight xLeast nPosts nThirds nCorners nSums nArrows gCorners gLowest gFirst gFresh gThere gRow gPlaces gOver gVia gQueue (fun z gCorners gLowest gFirst gFresh gThere gRow gPlaces gOver gVia gQueue => wp_M_about x1 x2 mPosts mThirds mStraight mLeast mIsLaid mIsGiven mQueued mCorner mSum mBeyond mMark mSpare mLack mBefore mVia mQueue (fun z2 mIsLaid mIsGiven mQueued mBeyond mMark mSpare mLack mBefore mVia mQueue => z = z2 ∧ Inv xStraight xLeast nPosts nThirds nCorners nSums nArrows aBehind aAhead aCells aBefore aAfter gCorners gFresh gThere gRow bSets bTotals mPosts mThirds mStraight mLeast mIsLaid mIsGiven mActs mDone mCorner mSum mBeyond mAct)) := by
  have h' := h
  obtain ⟨n, a, d, T, co, su, N, L, ⟨hN, hS, hr, e1, e2, e3, e4, hc, hs, hA, hX, hb⟩, ⟨f1, f2, f3, f4, mc, msu, hM⟩, hH⟩ := h
  have hle := hN.le
  subst e1; subst f3; subst e2
  have f4' : mLeast = xLeast := f4
  subst f4'
  have inv1 : ∀ row be : Nat → Int, IsRow n T co su mStraight mLeast row → IsRow n T co su mStraight mLeast (fun d => mLeast + be d) → Inv mStraight mLeast nPosts nThirds nCorners nSums nArrows aBehind aAhead aCells aBefore aAfter (3 * (T : Int)) 1 1 row bSets bTotals mPosts mThirds mStraight mLeast 1 1 mActs mDone mCorner mSum be mAct := fun row be q w => ⟨n, a, d, T, co, su, _, _, ⟨hN, hS, hr, rfl, rfl, e3, e4, hc, hs, hA, Or.inr ⟨rfl, Or.inl ⟨rfl, rfl, q⟩⟩, hb⟩, ⟨f1, f2, rfl, rfl, mc, msu, Or.inr ⟨rfl, Or.inl ⟨rfl, w⟩⟩⟩, hH⟩
  have inv0 : ∀ (gC : Int) (row be : Nat → Int), (∀ g, ¬ IsGiv n T co su mStraight mLeast g) → Inv mStraight mLeast nPosts nThirds nCorners nSums nArrows aBehind aAhead aCells aBefore aAfter gC 1 0 row bSets bTotals mPosts mThirds mStraight mLeast 1 0 mActs mDone mCorner mSum be mAct := fun gC row be q => ⟨n, a, d, T, co, su, _, _, ⟨hN, hS, hr, rfl, rfl, e3, e4, hc, hs, hA, Or.inr ⟨rfl, Or.inr ⟨rfl, q⟩⟩, hb⟩, ⟨f1, f2, rfl, rfl, mc, msu, Or.inr ⟨rfl, Or.inr ⟨rfl, q⟩⟩⟩, hH⟩
  unfold wp_X_about
  refine s_N_hasPost e3 hle.2.1 hx1 (fun b1 b2 => ⟨jR01_1, fun g => absurd g (by decide), fun _ => ?_⟩) (fun g => ⟨jR01_0, fun _ => ?_, fun g => absurd rfl g⟩)
  · have go : ∀ Q, (x2 = 0 → wp_M_cornersAt x1 mThirds mCorner (fun z_6 => Q z_6 mIsLaid mIsGiven mQueued mBeyond mMark mSpare mLack mBefore mVia mQueue)) → (x2 = 1 → wp_M_sidesAt x1 1 2 mPosts mThirds mCorner (fun z_7 => Q z_7 mIsLaid mIsGiven mQueued mBeyond mMark mSpare mLack mBefore mVia mQueue)) → (x2 = 2 → wp_M_cornersAt x1 mThirds mCorner (fun z_8 => jR z_8 ∧ ((z_8 ≤ 0 → Q 0 mIsLaid mIsGiven mQueued mBeyond mMark mSpare mLack mBefore mVia mQueue) ∧ (¬ z_8 ≤ 0 → wp_M_sidesAt x1 1 1 mPosts mThirds mCorner (fun z_11 => jR z_11 ∧ ((z_11 = 0 → Q 1 mIsLaid mIsGiven mQueued mBeyond mMark mSpare mLack mBefore mVia mQueue) ∧ (¬ z_11 = 0 → Q 0 mIsLaid mIsGiven mQueued mBeyond mMark mSpare mLack mBefore mVia mQueue))))))) → (x2 = 3 → wp_M_pieces x1 mThirds mCorner mMark (fun z_14 mMark => jR z_14 ∧ ((z_14 = 1 → Q 1 mIsLaid mIsGiven mQueued mBeyond mMark mSpare mLack mBefore mVia mQueue) ∧ (¬ z_14 = 1 → Q 0 mIsLaid mIsGiven mQueued mBeyond mMark mSpare mLack mBefore mVia mQueue)))) → (x2 = 4 → (0 ≤ x1 ∧ x1 < 9) ∧ Q (mSum x1.toNat) mIsLaid mIsGiven mQueued mBeyond mMark mSpare mLack mBefore mVia mQueue) → (x2 = 5 → wp_M_sumOfRow x1 mPosts mThirds mStraight mLeast mIsLaid mIsGiven mQueued mCorner mSum mBeyond mSpare mLack mBefore mVia mQueue (fun z_19 mIsLaid mIsGiven mQueued mBeyond mSpare mLack mBefore mVia mQueue => Q z_19 mIsLaid mIsGiven mQueued mBeyond mMark mSpare mLack mBefore mVia mQueue)) → (¬ x2 = 0 ∧ ¬ x2 = 1 ∧ ¬ x2 = 2 ∧ ¬ x2 = 3 ∧ ¬ x2 = 4 ∧ ¬ x2 = 5 → Q (-2) mIsLaid mIsGiven mQueued mBeyond mMark mSpare mLack mBefore mVia mQueue) → wp_M_about x1 x2 mPosts mThirds mStraight mLeast mIsLaid mIsGiven mQueued mCorner mSum mBeyond mMark mSpare mLack mBefore mVia mQueue Q := by
      intro Q q0 q1 q2 q3 q4 q5 q6
      unfold wp_M_about
      exact s_M_isPost f1 hle.2.1 hx1 (fun _ _ => ⟨jR01_1, fun g => absurd g (by decide), fun _ => ⟨hx2, q0, q1, q2, q3, q4, q5, q6⟩⟩) (fun g => absurd ⟨b1, b2⟩ g)
    have J1 : jR 1 := jR01_1
    have J2 : jR 2 := by unfold jR; decide
    have rc := cAt_r co (3 * T) x1
    have ra := sAt_r co (3 * T) n x1 1
    have rp := pcs_r T co (fun x y => x = x1 ∨ y = x1) (fun k => ∃ c, c < 3 * T ∧ c / 3 = k ∧ co c = x1) T
    refine ⟨hx2, fun g => ?_, fun g => ?_, fun g => ?_, fun g => ?_, fun g => ?_, fun g => ?_, fun g => ?_⟩
    · refine s_N_cornersAt e4 hle.2.2 hc (fun c h => hN.co9 h) hx1 (go _ (fun w => s_M_cornersAt f2 hle.2.2 mc (fun c h => hN.co9 h) hx1 ⟨rfl, h'⟩) (fun w => by omega) (fun w => by omega) (fun w => by omega) (fun w => by omega) (fun w => by omega) (fun w => by omega))
    · refine s_N_sidesAt e3 hle.2.1 hA hle.2.2 b1 (by omega) J1 (s_N_sidesAt e3 hle.2.1 hA hle.2.2 b1 (by omega) J2 (go _ (fun w => by omega) (fun w => s_M_sidesAt hN f1 f2 mc hx1 J1 J2 ⟨(sides12 co (3 * T) n x1).symm, h'⟩) (fun w => by omega) (fun w => by omega) (fun w => by omega) (fun w => by omega) (fun w => by omega)))
    · refine s_N_isFreeOfRim e3 e4 hN hc hA b1 b2 (fun q => ⟨jR01_1, fun g => absurd g (by decide), fun _ => go _ (fun w => by omega) (fun w => by omega) (fun w => ?_) (fun w => by omega) (fun w => by omega) (fun w => by omega) (fun w => by omega)⟩) (fun q => ⟨jR01_0, fun _ => go _ (fun w => by omega) (fun w => by omega) (fun w => ?_) (fun w => by omega) (fun w => by omega) (fun w => by omega) (fun w => by omega), fun g => absurd rfl g⟩)
      · refine s_M_cornersAt f2 hle.2.2 mc (fun c h => hN.co9 h) hx1 ⟨⟨by omega, by omega⟩, fun w => by omega, fun _ => s_M_sidesAt hN f1 f2 mc hx1 J1 J1 ?_⟩
        rw [sides11]
        exact ⟨⟨by omega, by omega⟩, fun _ => ⟨rfl, h'⟩, fun w => absurd q.2 w⟩
      · refine s_M_cornersAt f2 hle.2.2 mc (fun c h => hN.co9 h) hx1 ⟨⟨by omega, by omega⟩, fun w => ⟨rfl, h'⟩, fun w => s_M_sidesAt hN f1 f2 mc hx1 J1 J1 ?_⟩
        rw [sides11]
        exact ⟨⟨by omega, by omega⟩, fun v => absurd ⟨by omega, v⟩ q, fun _ => ⟨rfl, h'⟩⟩
    · have mp := fun Q => s_M_pieces (Q := Q) (mMark := mMark) (F := fun x y => x = x1 ∨ y = x1) (V := fun k => ∃ c, c < 3 * T ∧ c / 3 = k ∧ co c = x1) hN f2 mc hx1 (fun x y _ _ => ⟨fun w => Or.inr w, fun w => by rcases w with w | w; omega; exact w⟩) (fun x y w => w.symm) (fun k _ => ⟨fun w => Or.inr w, fun w => by rcases w with w | w; omega; exact w⟩)
      refine s_N_isRound (F := fun x y => x = x1 ∨ y = x1) (V := fun k => ∃ c, c < 3 * T ∧ c / 3 = k ∧ co c = x1) hN e3 hA b1 (by omega) (fun x y => Iff.rfl) (fun k _ => Iff.rfl) (fun q => ⟨jR01_1, fun g => absurd g (by decide), fun _ => go _ (fun w => by omega) (fun w => by omega) (fun w => by omega) (fun w => mp _ (fun mk => ⟨⟨by omega, by omega⟩, fun _ => ⟨rfl, h'⟩, fun v => absurd q v⟩)) (fun w => by omega) (fun w => by omega) (fun w => by omega)⟩) (fun q => ⟨jR01_0, fun _ => go _ (fun w => by omega) (fun w => by omega) (fun w => by omega) (fun w => mp _ (fun mk => ⟨⟨by omega, by omega⟩, fun v => absurd v q, fun _ => ⟨rfl, h'⟩⟩)) (fun w => by omega) (fun w => by omega) (fun w => by omega), fun g => absurd rfl g⟩)
    · unfold wp_X_sumOrNone wp_N_sumOf
      have hs9 := hS x1.toNat (by omega)
      rw [hs _ (by omega)]
      refine ⟨⟨by omega, by omega⟩, ⟨by omega, by omega⟩, fun w => go _ (fun w => by omega) (fun w => by omega) (fun w => by omega) (fun w => by omega) (fun _ => ⟨⟨by omega, by omega⟩, ?_, h'⟩) (fun w => by omega) (fun w => by omega), fun w => go _ (fun w => by omega) (fun w => by omega) (fun w => by omega) (fun w => by omega) (fun _ => ⟨⟨by omega, by omega⟩, ?_, h'⟩) (fun w => by omega) (fun w => by omega)⟩
      · rw [msu _ (by omega)]; unfold ms; rw [if_pos w]
      · rw [msu _ (by omega)]; unfold ms; rw [if_neg w]
    · refine s_G_findRow e3 e4 hN hc hs hS ⟨by omega, by omega⟩ hr.2.2.2.2 hr.2.1 hX (fun gL gF row pl ov via qu hrow => ⟨jR01_1, fun g => absurd g (by decide), fun _ => s_G_givenAt hN hc rfl hx1 (go _ (fun w => by omega) (fun w => by omega) (fun w => by omega) (fun w => by omega) (fun w => by omega) (fun _ => ?_) (fun w => by omega))⟩) (fun gC gL gF row pl ov via qu hno => ⟨jR01_0, fun _ => go _ (fun w => by omega) (fun w => by omega) (fun w => by omega) (fun w => by omega) (fun w => by omega) (fun _ => ?_) (fun w => by omega), fun g => absurd rfl g⟩)
      · unfold wp_M_sumOfRow
        refine s_M_hasRow hN f1 f2 mc msu hS (by omega) (by omega) hr.2.2.2.2 hr.2.1 hM (fun qd be sp la bef via queue hrow2 => ⟨jR01_1, fun g => absurd g (by decide), fun _ => s_M_sumLoop hN f2 mc hx1 ⟨?_, inv1 _ _ hrow hrow2⟩⟩) (fun qd be sp la bef via queue hno => absurd hrow.1 (hno _))
        exact gAt_congr (row_unique hrow hrow2)
      · unfold wp_M_sumOfRow
        exact s_M_hasRow hN f1 f2 mc msu hS (by omega) (by omega) hr.2.2.2.2 hr.2.1 hM (fun qd be sp la bef via queue hrow2 => absurd hrow2.1 (hno _)) (fun qd be sp la bef via queue _ => ⟨jR01_0, fun _ => ⟨rfl, inv0 _ _ _ hno⟩, fun g => absurd rfl g⟩)
    · exact go _ (fun w => by omega) (fun w => by omega) (fun w => by omega) (fun w => by omega) (fun w => by omega) (fun w => by omega) (fun _ => ⟨rfl, h'⟩)
  · unfold wp_M_about
    exact s_M_isPost f1 hle.2.1 hx1 (fun b1 b2 => absurd ⟨b1, b2⟩ g) (fun _ => ⟨jR01_0, fun _ => ⟨rfl, h'⟩, fun g => absurd rfl g⟩)
end

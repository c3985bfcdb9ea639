/-! what holds between class and reference -/
def XN (n T : Nat) (co su : Nat → Int) (N L : Int) (xStraight xLeast nPosts nThirds : Int) (nCorners nSums nArrows : Nat → Int) (gCorners gFresh gThere : Int) (gRow bSets bTotals : Nat → Int) : Prop :=
  NetOK n T co ∧ SuOK su ∧ (6 ≤ N ∧ N ≤ 360 ∧ 1 ≤ L ∧ L ≤ 60 ∧ 3 * L ≤ N) ∧ xStraight = N ∧ xLeast = L ∧ nPosts = n ∧ nThirds = T ∧ (∀ c, c < 3 * T → nCorners c = co c) ∧ (∀ p, p < 9 → nSums p = su p) ∧ ArOK T co nArrows ∧ RowX n T co su N L gCorners gFresh gThere gRow ∧ bTotals 0 = 0 ∧ bSets 0 = 0 ∧ bSets 64 = 0
def MN (n T : Nat) (co su : Nat → Int) (N L : Int) (mPosts mThirds mStraight mLeast mIsLaid mIsGiven : Int) (mCorner mSum mBeyond : Nat → Int) : Prop :=
  mPosts = n ∧ mThirds = T ∧ mStraight = N ∧ mLeast = L ∧ (∀ c, c < 3 * T → mCorner c = co c) ∧ (∀ p, p < 9 → mSum p = ms su p) ∧ RowM n T co su N L mIsLaid mIsGiven mBeyond
def Inv (xStraight xLeast nPosts nThirds : Int) (nCorners nSums nArrows : Nat → Int) (aBehind aAhead : Int) (aCells aBefore aAfter : Nat → Int) (gCorners gFresh gThere : Int) (gRow bSets bTotals : Nat → Int) (mPosts mThirds mStraight mLeast mIsLaid mIsGiven mActs mDone : Int) (mCorner mSum mBeyond mAct : Nat → Int) : Prop :=
  ∃ n a d T co su N L, XN n T co su N L xStraight xLeast nPosts nThirds nCorners nSums nArrows gCorners gFresh gThere gRow bSets bTotals ∧ MN n T co su N L mPosts mThirds mStraight mLeast mIsLaid mIsGiven mCorner mSum mBeyond ∧ HI n a d T co su aBehind aAhead aCells aBefore aAfter mActs mDone mAct
section
variable {x1 x2 x3 xStraight xLeast nPosts nThirds : Int} {nCorners nSums nArrows : Nat → Int} {aBehind aAhead : Int} {aCells aBefore aAfter : Nat → Int} {gCorners gLowest gFirst gFresh gThere : Int} {gRow gPlaces gOver gVia gQueue : Nat → Int} {bTold bStraight bLeast : Int} {bPostsOf bSets bTotals : Nat → Int} {mPosts mThirds mStraight mLeast mIsLaid mIsGiven mActs mDone mQueued : Int} {mCorner mSum mBeyond mAct mMark mSpare mLack mBefore mVia mQueue : Nat → Int}
theorem t_at (h : Inv xStraight xLeast nPosts nThirds nCorners nSums nArrows aBehind aAhead aCells aBefore aAfter gCorners gFresh gThere gRow bSets bTotals mPosts mThirds mStraight mLeast mIsLaid mIsGiven mActs mDone mCorner mSum mBeyond mAct) (hx1 : jR x1) : wp_X_at x1 nThirds nCorners (fun z => wp_M_at x1 mThirds mCorner (fun z2 => z = z2)) := by
  obtain ⟨n, a, d, T, co, su, N, L, ⟨hN, hS, hr, e1, e2, e3, e4, hc, hs, hA, hX, hb⟩, ⟨f1, f2, f3, f4, mc, msu, hM⟩, hH⟩ := h
  have hle := hN.le
  unfold wp_X_at
  refine s_N_hasCorner e4 hle.2.2 hx1 (fun a b => ⟨jR01_1, fun g => absurd g (by decide), fun _ => ?_⟩) (fun g => ⟨jR01_0, fun _ => ?_, fun g => absurd rfl g⟩)
  · unfold wp_N_postOf
    refine ⟨⟨by omega, by omega⟩, ?_⟩
    unfold wp_M_at
    refine s_M_in hx1 jR01_0 ⟨by omega, by omega⟩ (fun _ _ => ⟨jR01_1, fun g => absurd g (by decide), fun _ => ⟨⟨by omega, by omega⟩, ?_⟩⟩) (fun g => by omega)
    rw [hc _ (by omega), mc _ (by omega)]
  · unfold wp_M_at
    exact s_M_in hx1 jR01_0 ⟨by omega, by omega⟩ (fun _ _ => by omega) (fun _ => ⟨jR01_0, fun _ => rfl, fun g => absurd rfl g⟩)
theorem t_side (h : Inv xStraight xLeast nPosts nThirds nCorners nSums nArrows aBehind aAhead aCells aBefore aAfter gCorners gFresh gThere gRow bSets bTotals mPosts mThirds mStraight mLeast mIsLaid mIsGiven mActs mDone mCorner mSum mBeyond mAct) (hx1 : jR x1) (hx2 : jR x2) : wp_X_side x1 x2 nPosts nArrows (fun z => wp_M_side x1 x2 mPosts mThirds mCorner (fun z2 => z = z2)) := by
  obtain ⟨n, a, d, T, co, su, N, L, ⟨hN, hS, hr, e1, e2, e3, e4, hc, hs, hA, hX, hb⟩, ⟨f1, f2, f3, f4, mc, msu, hM⟩, hH⟩ := h
  have hle := hN.le
  unfold wp_X_side
  refine s_N_areUnlike e3 hle.2.1 hx1 hx2 (fun p1 p2 q1 q2 ne => ⟨jR01_1, fun g => absurd g (by decide), fun _ => s_N_thirdsAtSide hA hle.2.2 (by omega) (by omega) (by omega) (by omega) ?_⟩) (fun g => ⟨jR01_0, fun _ => ?_, fun g => absurd rfl g⟩)
  · unfold wp_M_side
    exact s_M_arePair f1 hle.2.1 hx1 hx2 (fun _ _ _ _ _ => ⟨jR01_1, fun g => absurd g (by decide), fun _ => s_M_sideOf hN f2 mc hx1 hx2 rfl⟩) (fun g => absurd ⟨p1, p2, q1, q2, ne⟩ g)
  · unfold wp_M_side
    exact s_M_arePair f1 hle.2.1 hx1 hx2 (fun p1 p2 q1 q2 ne => absurd ⟨p1, p2, q1, q2, ne⟩ g) (fun _ => ⟨jR01_0, fun _ => rfl, fun g => absurd rfl g⟩)
theorem t_arrow (h : Inv xStraight xLeast nPosts nThirds nCorners nSums nArrows aBehind aAhead aCells aBefore aAfter gCorners gFresh gThere gRow bSets bTotals mPosts mThirds mStraight mLeast mIsLaid mIsGiven mActs mDone mCorner mSum mBeyond mAct) (hx1 : jR x1) (hx2 : jR x2) : wp_X_arrow x1 x2 nPosts nArrows (fun z => wp_M_arrow x1 x2 mPosts mThirds mCorner (fun z2 => z = z2)) := by
  obtain ⟨n, a, d, T, co, su, N, L, ⟨hN, hS, hr, e1, e2, e3, e4, hc, hs, hA, hX, hb⟩, ⟨f1, f2, f3, f4, mc, msu, hM⟩, hH⟩ := h
  have hle := hN.le
  unfold wp_X_arrow
  refine s_N_areUnlike e3 hle.2.1 hx1 hx2 (fun p1 p2 q1 q2 ne => ⟨jR01_1, fun g => absurd g (by decide), fun _ => s_N_hasArrow hA hle.2.2 (by omega) (by omega) (by omega) (by omega) (fun g => ⟨jR01_0, fun _ => ?_, fun g => absurd rfl g⟩) (fun g => ⟨jR01_1, fun g => absurd g (by decide), fun _ => s_N_thirdWith hA (by omega) (by omega) (by omega) (by omega) ?_⟩)⟩) (fun g => ⟨jR01_0, fun _ => ?_, fun g => absurd rfl g⟩)
  · unfold wp_M_arrow
    exact s_M_arePair f1 hle.2.1 hx1 hx2 (fun _ _ _ _ _ => ⟨jR01_1, fun g => absurd g (by decide), fun _ => s_M_arrowOf hN f2 mc hx1 hx2 (fun _ => rfl) (fun w => absurd g w)⟩) (fun g => absurd ⟨p1, p2, q1, q2, ne⟩ g)
  · unfold wp_M_arrow
    exact s_M_arePair f1 hle.2.1 hx1 hx2 (fun _ _ _ _ _ => ⟨jR01_1, fun g => absurd g (by decide), fun _ => s_M_arrowOf hN f2 mc hx1 hx2 (fun w => absurd w g) (fun _ => rfl)⟩) (fun g => absurd ⟨p1, p2, q1, q2, ne⟩ g)
  · unfold wp_M_arrow
    exact s_M_arePair f1 hle.2.1 hx1 hx2 (fun p1 p2 q1 q2 ne => absurd ⟨p1, p2, q1, q2, ne⟩ g) (fun _ => ⟨jR01_0, fun _ => rfl, fun g => absurd rfl g⟩)
theorem t_told (h : Inv xStraight xLeast nPosts nThirds nCorners nSums nArrows aBehind aAhead aCells aBefore aAfter gCorners gFresh gThere gRow bSets bTotals mPosts mThirds mStraight mLeast mIsLaid mIsGiven mActs mDone mCorner mSum mBeyond mAct) (hx1 : jR x1) : wp_X_told x1 xStraight xLeast nPosts nThirds nCorners nSums nArrows (fun z => wp_M_told x1 mPosts mThirds mStraight mLeast mCorner mSum mMark (fun z2 _ => z = z2)) := by
  obtain ⟨n, a, d, T, co, su, N, L, ⟨hN, hS, hr, e1, e2, e3, e4, hc, hs, hA, hX, hb⟩, ⟨f1, f2, f3, f4, mc, msu, hM⟩, hH⟩ := h
  have hle := hN.le
  have J1 : jR 1 := jR01_1
  have J2 : jR 2 := by unfold jR; decide
  have m := fun (Q : Int → (Nat → Int) → Prop) => s_M_told (Q := Q) (mMark := mMark) (F := fun _ _ => True) (V := fun _ => True) (N := mStraight) (L := mLeast) hN f1 f2 mc msu hS hx1 (fun _ _ => trivial) (fun _ => trivial)
  unfold wp_X_told
  refine ⟨hx1, fun g => ?_, fun g => ?_, fun g => s_N_sidesWith e3 hle.2.1 hA hle.2.2 J1 (s_N_sidesWith e3 hle.2.1 hA hle.2.2 J2 ?_), fun g => s_N_sidesWith e3 hle.2.1 hA hle.2.2 J1 ?_, fun g => s_N_character e3 e4 hN hc hA ?_, fun g => s_N_pieces (F := fun _ _ => True) (V := fun _ => True) hN e3 e4 hA (fun _ _ => trivial) (fun _ => trivial) ?_, fun g => ?_, fun g => ?_, fun g => s_N_allSums e3 hle.2.1 hs hS ?_, fun g => ?_⟩ <;> refine m _ (fun mk => ⟨fun w => ?_, fun w => ?_, fun w => ?_, fun w => ?_, fun w => ?_, fun w => ?_, fun w => ?_, fun w => ?_, fun w => ?_, fun w => ?_⟩)
  all_goals first
    | (exfalso; omega)
    | rfl
    | exact e3
    | exact e4
    | (rw [e1, f3])
    | (rw [e2, f4])
theorem t_straight (h : Inv xStraight xLeast nPosts nThirds nCorners nSums nArrows aBehind aAhead aCells aBefore aAfter gCorners gFresh gThere gRow bSets bTotals mPosts mThirds mStraight mLeast mIsLaid mIsGiven mActs mDone mCorner mSum mBeyond mAct) (hx1 : jR x1) : wp_X_straight x1 xStraight xLeast gFresh (fun z xStraight gFresh => wp_M_straight x1 mStraight mLeast mIsLaid (fun z2 mStraight mIsLaid => z = z2 ∧ Inv xStraight xLeast nPosts nThirds nCorners nSums nArrows aBehind aAhead aCells aBefore aAfter gCorners gFresh gThere gRow bSets bTotals mPosts mThirds mStraight mLeast mIsLaid mIsGiven mActs mDone mCorner mSum mBeyond mAct)) := by
  have h' := h
  obtain ⟨n, a, d, T, co, su, N, L, ⟨hN, hS, hr, e1, e2, e3, e4, hc, hs, hA, hX, hb⟩, ⟨f1, f2, f3, f4, mc, msu, hM⟩, hH⟩ := h
  have bad : ¬ (6 ≤ x1 ∧ x1 ≤ 360 ∧ 3 * L ≤ x1) → wp_M_straight x1 mStraight mLeast mIsLaid (fun z2 mStraight mIsLaid => -2 = z2 ∧ Inv xStraight xLeast nPosts nThirds nCorners nSums nArrows aBehind aAhead aCells aBefore aAfter gCorners gFresh gThere gRow bSets bTotals mPosts mThirds mStraight mLeast mIsLaid mIsGiven mActs mDone mCorner mSum mBeyond mAct) := by
    intro hn
    unfold wp_M_straight
    refine s_M_in hx1 (by unfold jR; decide) (by unfold jR; decide) (fun a b => ⟨jR01_1, fun g => absurd g (by decide), fun _ => ⟨⟨by omega, by omega⟩, hx1, fun g => by omega, fun _ => ⟨rfl, h'⟩⟩⟩) (fun _ => ⟨jR01_0, fun _ => ⟨rfl, h'⟩, fun g => absurd rfl g⟩)
  unfold wp_X_straight
  refine ⟨hx1, fun g => bad (by omega), fun g => ⟨fun g2 => bad (by omega), fun g2 => ⟨⟨by omega, by omega⟩, fun g3 => ?_, fun g3 => bad (by omega)⟩⟩⟩
  unfold wp_G_forgetRow wp_M_straight
  refine s_M_in hx1 (by unfold jR; decide) (by unfold jR; decide) (fun a' b' => ⟨jR01_1, fun g => absurd g (by decide), fun _ => ⟨⟨by omega, by omega⟩, hx1, fun _ => ⟨by omega, ?_⟩, fun g => by omega⟩⟩) (fun g => by omega)
  exact ⟨n, a, d, T, co, su, x1, L, ⟨hN, hS, by omega, rfl, e2, e3, e4, hc, hs, hA, Or.inl rfl, hb⟩, ⟨f1, f2, rfl, f4, mc, msu, Or.inl rfl⟩, hH⟩
theorem t_least (h : Inv xStraight xLeast nPosts nThirds nCorners nSums nArrows aBehind aAhead aCells aBefore aAfter gCorners gFresh gThere gRow bSets bTotals mPosts mThirds mStraight mLeast mIsLaid mIsGiven mActs mDone mCorner mSum mBeyond mAct) (hx1 : jR x1) : wp_X_least x1 xStraight xLeast gFresh (fun z xLeast gFresh => wp_M_least x1 mStraight mLeast mIsLaid (fun z2 mLeast mIsLaid => z = z2 ∧ Inv xStraight xLeast nPosts nThirds nCorners nSums nArrows aBehind aAhead aCells aBefore aAfter gCorners gFresh gThere gRow bSets bTotals mPosts mThirds mStraight mLeast mIsLaid mIsGiven mActs mDone mCorner mSum mBeyond mAct)) := by
  have h' := h
  obtain ⟨n, a, d, T, co, su, N, L, ⟨hN, hS, hr, e1, e2, e3, e4, hc, hs, hA, hX, hb⟩, ⟨f1, f2, f3, f4, mc, msu, hM⟩, hH⟩ := h
  have bad : ¬ (1 ≤ x1 ∧ x1 ≤ 60 ∧ 3 * x1 ≤ N) → wp_M_least x1 mStraight mLeast mIsLaid (fun z2 mLeast mIsLaid => -2 = z2 ∧ Inv xStraight xLeast nPosts nThirds nCorners nSums nArrows aBehind aAhead aCells aBefore aAfter gCorners gFresh gThere gRow bSets bTotals mPosts mThirds mStraight mLeast mIsLaid mIsGiven mActs mDone mCorner mSum mBeyond mAct) := by
    intro hn
    unfold wp_M_least
    refine s_M_in hx1 (by unfold jR; decide) (by unfold jR; decide) (fun a b => ⟨jR01_1, fun g => absurd g (by decide), fun _ => ⟨⟨by omega, by omega⟩, ⟨by omega, by omega⟩, fun g => by omega, fun _ => ⟨rfl, h'⟩⟩⟩) (fun _ => ⟨jR01_0, fun _ => ⟨rfl, h'⟩, fun g => absurd rfl g⟩)
  unfold wp_X_least
  refine ⟨hx1, fun g => bad (by omega), fun g => ⟨fun g2 => bad (by omega), fun g2 => ⟨⟨by omega, by omega⟩, ⟨by omega, by omega⟩, fun g3 => ?_, fun g3 => bad (by omega)⟩⟩⟩
  unfold wp_G_forgetRow wp_M_least
  refine s_M_in hx1 (by unfold jR; decide) (by unfold jR; decide) (fun a' b' => ⟨jR01_1, fun g => absurd g (by decide), fun _ => ⟨⟨by omega, by omega⟩, ⟨by omega, by omega⟩, fun _ => ⟨by omega, ?_⟩, fun g => by omega⟩⟩) (fun g => by omega)
  exact ⟨n, a, d, T, co, su, N, x1, ⟨hN, hS, by omega, e1, rfl, e3, e4, hc, hs, hA, Or.inl rfl, hb⟩, ⟨f1, f2, f3, rfl, mc, msu, Or.inl rfl⟩, hH⟩
theorem t_best (h : Inv xStraight xLeast nPosts nThirds nCorners nSums nArrows aBehind aAhead aCells aBefore aAfter gCorners gFresh gThere gRow bSets bTotals mPosts mThirds mStraight mLeast mIsLaid mIsGiven mActs mDone mCorner mSum mBeyond mAct) : wp_X_best xStraight nPosts nThirds nCorners nSums gCorners gLowest gFirst gFresh gRow gPlaces gOver gVia gQueue (fun z gCorners gLowest gFirst gFresh gRow gPlaces gOver gVia gQueue => wp_M_best mPosts mThirds mStraight mIsLaid mQueued mCorner mSum mBeyond mSpare mLack mBefore mVia mQueue (fun z2 mIsLaid mQueued mBeyond mSpare mLack mBefore mVia mQueue => z = z2 ∧ Inv xStraight xLeast nPosts nThirds nCorners nSums nArrows aBehind aAhead aCells aBefore aAfter gCorners gFresh gThere gRow bSets bTotals mPosts mThirds mStraight mLeast mIsLaid mIsGiven mActs mDone mCorner mSum mBeyond mAct)) := by
  obtain ⟨n, a, d, T, co, su, N, L, ⟨hN, hS, hr, e1, e2, e3, e4, hc, hs, hA, hX, hb⟩, ⟨f1, f2, f3, f4, mc, msu, hM⟩, hH⟩ := h
  subst e1; subst f3
  refine s_X_best hN e3 e4 hc hs hS hr.1 hr.2.1 (fun z gC gL gF r p o v q hz => s_M_best hN f1 f2 mc msu hS hr.1 hr.2.1 (fun z2 qd be sp la bef via queue hz2 => ⟨best_unique hz hz2, ?_⟩))
  exact ⟨n, a, d, T, co, su, _, L, ⟨hN, hS, hr, rfl, e2, e3, e4, hc, hs, hA, Or.inl rfl, hb⟩, ⟨f1, f2, rfl, f4, mc, msu, Or.inl rfl⟩, hH⟩
end

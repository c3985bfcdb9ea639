/-! back and forth -/
section
variable {x1 x2 x3 xStraight xLeast nPosts nThirds : Int} {nCorners nSums nArrows : Nat → Int} {aBehind aAhead : Int} {aCells aBefore aAfter : Nat → Int} {gCorners gLowest gFirst gFresh gThere : Int} {gRow gPlaces gOver gVia gQueue : Nat → Int} {bTold bStraight bLeast : Int} {bPostsOf bSets bTotals : Nat → Int} {mPosts mThirds mStraight mLeast mIsLaid mIsGiven mActs mDone mQueued : Int} {mCorner mSum mBeyond mAct mMark mSpare mLack mBefore mVia mQueue : Nat → Int}
theorem t_undo (h : Inv xStraight xLeast nPosts nThirds nCorners nSums nArrows aBehind aAhead aCells aBefore aAfter gCorners gFresh gThere gRow bSets bTotals mPosts mThirds mStraight mLeast mIsLaid mIsGiven mActs mDone mCorner mSum mBeyond mAct) : wp_X_undo nThirds nCorners nSums nArrows aBehind aAhead aCells aBefore gFresh (fun z nThirds nCorners nSums nArrows aBehind aAhead gFresh => wp_M_undo mThirds mIsLaid mDone mCorner mSum mAct (fun z2 mThirds mIsLaid mDone mCorner mSum => z = z2 ∧ Inv xStraight xLeast nPosts nThirds nCorners nSums nArrows aBehind aAhead aCells aBefore aAfter gCorners gFresh gThere gRow bSets bTotals mPosts mThirds mStraight mLeast mIsLaid mIsGiven mActs mDone mCorner mSum mBeyond mAct)) := by
  have h' := h
  obtain ⟨n, a, d, T, co, su, N, L, ⟨hN, hS, hr, e1, e2, e3, e4, hc, hs, hA, hX, hb⟩, ⟨f1, f2, f3, f4, mc, msu, hM⟩, hH⟩ := h
  have hle := hN.le
  obtain ⟨hT, hC, hSs, t1, t2, t3, u1, u2, u3, u4, u5, u6, H1, H2⟩ := hH
  unfold wp_X_undo wp_A_behind
  refine ⟨⟨by omega, by omega⟩, fun g => ?_, fun g => ?_⟩
  · unfold wp_M_undo
    exact ⟨⟨by omega, by omega⟩, fun _ => ⟨rfl, h'⟩, fun w => by omega⟩
  · obtain ⟨i, rfl⟩ : ∃ i, d = i + 1 := ⟨d - 1, by omega⟩
    obtain ⟨k, x, y, hst, hx, hm⟩ := H2 i (by omega)
    have hNi := (H1 i (by omega)).1
    have hSi := (H1 i (by omega)).2
    have hlei := hNi.le
    rw [t1, t2, t3] at hst
    rw [t2, t3] at hx hm
    refine s_A_backward (d := i) e4 hNi hN hst hx hc hs (by omega) (by omega) (fun nc2 ns2 ar2 q1 q2 q3 => ?_)
    unfold wp_G_forgetRow
    dsimp only
    have o0 : ((15 : Int) * (mDone - 1)).toNat = 15 * i := by omega
    have o1 : ((15 : Int) * (mDone - 1) + 1).toNat = 15 * i + 1 := by omega
    have o2 : ((15 : Int) * (mDone - 1) + 2).toNat = 15 * i + 2 := by omega
    have o3 : ((15 : Int) * (mDone - 1) + 3).toNat = 15 * i + 3 := by omega
    obtain ⟨v0, v1, v2, v3, v4, v5⟩ := hm
    have hk : k ≤ 2 := by rcases hst with q | q | q <;> omega
    have fin : ∀ (mt : Int) (mcor msum : Nat → Int), mt = ((hT i : Nat) : Int) → (∀ c, c < 3 * hT i → mcor c = hC i c) → (∀ p, p < 9 → msum p = ms (hSs i) p) → Inv xStraight xLeast nPosts ((hT i : Nat) : Int) nc2 ns2 ar2 (i : Int) (aAhead + 1) aCells aBefore aAfter gCorners 0 gThere gRow bSets bTotals mPosts mt mStraight mLeast 0 mIsGiven mActs (mDone - 1) mcor msum mBeyond mAct := by
      intro mt mcor msum w1 w2 w3
      exact ⟨n, a, i, hT i, hC i, hSs i, N, L, ⟨hNi, hSi, hr, e1, e2, e3, rfl, q1, q2, q3, Or.inl rfl, hb⟩, ⟨f1, w1, f3, f4, w2, w3, Or.inl rfl⟩, hT, hC, hSs, rfl, rfl, rfl, by omega, by omega, rfl, by omega, u5, by omega, H1, H2⟩
    unfold wp_M_undo
    refine ⟨⟨by omega, by omega⟩, fun w => by omega, fun _ => ⟨⟨by omega, by omega⟩, ?_⟩⟩
    rw [o0, v0]
    refine ⟨⟨by omega, by omega⟩, fun w => ⟨by omega, ?_⟩, fun w => ⟨fun w2 => ?_, fun w2 => ?_⟩⟩
    · rcases hst with q | q | q
      · exact fin _ _ _ (by omega) (fun c hcc => by rw [mc c (by omega), q.2.2.2.2.1 c hcc]) (fun p hp => by rw [msu p hp]; unfold ms; rw [q.2.2.2.2.2 p hp])
      · omega
      · omega
    · rcases hst with q | q | q
      · omega
      · refine ⟨⟨by omega, by omega⟩, ⟨by omega, by omega⟩, ?_⟩
        rw [o1, o2, v1, v2]
        refine s_M_takeThirds (o := 15 * i + 3) (a := x) (b := y) (by omega) (by omega) rfl (by omega) rfl (by omega) (fun mc2 m1 m2 m3 => ⟨by omega, fin _ _ _ (by omega) (fun c hcc => ?_) (fun p hp => by rw [msu p hp]; unfold ms; rw [q.2.2.2.2.2.2 p hp])⟩)
        have hv := v3 q.1 (c % 3) (by omega)
        by_cases g1 : c / 3 = y
        · have := m1 (c % 3) (by omega)
          rw [show 3 * y + c % 3 = c by omega] at this hv
          rw [this, show 15 * i + 3 + 3 + c % 3 = 15 * i + 6 + c % 3 by omega]; exact hv.2
        · by_cases g2 : c / 3 = x
          · have := m2 q.2.2.2.1 (c % 3) (by omega)
            rw [show 3 * x + c % 3 = c by omega] at this hv
            rw [this]; exact hv.1
          · rw [m3 c g2 g1, mc c (by omega), q.2.2.2.2.2.1 c (by omega) g2 g1]
      · omega
    · rcases hst with q | q | q
      · omega
      · omega
      · have hv := v5 q.1
        refine ⟨⟨by omega, by omega⟩, ⟨by omega, by omega⟩, ?_⟩
        rw [o1, o3, v1, hv.1]
        refine ⟨⟨by omega, by omega⟩, fun ms2 e => ⟨by omega, fin _ _ _ (by omega) (fun c hcc => by rw [mc c (by omega), q.2.2.2.2.1 c hcc]) (fun p hp => ?_)⟩⟩
        rw [e, Int.toNat_natCast, up_at]
        by_cases g1 : p = x
        · rw [if_pos g1, g1]
        · rw [if_neg g1, msu p hp]; unfold ms; rw [q.2.2.2.2.2 p hp g1]
theorem t_redo (h : Inv xStraight xLeast nPosts nThirds nCorners nSums nArrows aBehind aAhead aCells aBefore aAfter gCorners gFresh gThere gRow bSets bTotals mPosts mThirds mStraight mLeast mIsLaid mIsGiven mActs mDone mCorner mSum mBeyond mAct) : wp_X_redo nThirds nCorners nSums nArrows aBehind aAhead aCells aAfter gFresh (fun z nThirds nCorners nSums nArrows aBehind aAhead gFresh => wp_M_redo mThirds mIsLaid mActs mDone mCorner mSum mAct (fun z2 mThirds mIsLaid mDone mCorner mSum => z = z2 ∧ Inv xStraight xLeast nPosts nThirds nCorners nSums nArrows aBehind aAhead aCells aBefore aAfter gCorners gFresh gThere gRow bSets bTotals mPosts mThirds mStraight mLeast mIsLaid mIsGiven mActs mDone mCorner mSum mBeyond mAct)) := by
  have h' := h
  obtain ⟨n, a, d, T, co, su, N, L, ⟨hN, hS, hr, e1, e2, e3, e4, hc, hs, hA, hX, hb⟩, ⟨f1, f2, f3, f4, mc, msu, hM⟩, hH⟩ := h
  have hle := hN.le
  obtain ⟨hT, hC, hSs, t1, t2, t3, u1, u2, u3, u4, u5, u6, H1, H2⟩ := hH
  unfold wp_X_redo wp_A_ahead
  refine ⟨⟨by omega, by omega⟩, fun g => ?_, fun g => ?_⟩
  · unfold wp_M_redo
    exact ⟨⟨by omega, by omega⟩, ⟨by omega, by omega⟩, fun _ => ⟨rfl, h'⟩, fun w => by omega⟩
  · obtain ⟨k, x, y, hst, hx, hm⟩ := H2 d (by omega)
    have hNi := (H1 (d + 1) (by omega)).1
    have hSi := (H1 (d + 1) (by omega)).2
    have hlei := hNi.le
    rw [t1, t2, t3] at hst
    rw [t2, t3] at hx hm
    refine s_X_goForward (d := d) (ah := aAhead) e4 hN hNi hst hx hc hs u3 (by omega) rfl (by omega) (by omega) (fun nc2 ns2 ar2 q1 q2 q3 => ?_)
    have o0 : ((15 : Int) * mDone).toNat = 15 * d := by omega
    have o1 : ((15 : Int) * mDone + 1).toNat = 15 * d + 1 := by omega
    have o2 : ((15 : Int) * mDone + 2).toNat = 15 * d + 2 := by omega
    have o9 : ((15 : Int) * mDone + 9).toNat = 15 * d + 9 := by omega
    obtain ⟨v0, v1, v2, v3, v4, v5⟩ := hm
    have hk : k ≤ 2 := by rcases hst with q | q | q <;> omega
    have fin : ∀ (mt : Int) (mcor msum : Nat → Int), mt = ((hT (d + 1) : Nat) : Int) → (∀ c, c < 3 * hT (d + 1) → mcor c = hC (d + 1) c) → (∀ p, p < 9 → msum p = ms (hSs (d + 1)) p) → Inv xStraight xLeast nPosts ((hT (d + 1) : Nat) : Int) nc2 ns2 ar2 ((d : Int) + 1) (aAhead - 1) aCells aBefore aAfter gCorners 0 gThere gRow bSets bTotals mPosts mt mStraight mLeast 0 mIsGiven mActs (mDone + 1) mcor msum mBeyond mAct := by
      intro mt mcor msum w1 w2 w3
      exact ⟨n, a, d + 1, hT (d + 1), hC (d + 1), hSs (d + 1), N, L, ⟨hNi, hSi, hr, e1, e2, e3, rfl, q1, q2, q3, Or.inl rfl, hb⟩, ⟨f1, w1, f3, f4, w2, w3, Or.inl rfl⟩, hT, hC, hSs, rfl, rfl, rfl, by omega, by omega, by omega, by omega, u5, by omega, H1, H2⟩
    unfold wp_M_redo
    refine ⟨⟨by omega, by omega⟩, ⟨by omega, by omega⟩, fun w => by omega, fun _ => ⟨⟨by omega, by omega⟩, ?_⟩⟩
    rw [o0, v0]
    refine ⟨⟨by omega, by omega⟩, fun w => ?_, fun w => ?_⟩
    · rcases hst with q | q | q
      · omega
      · omega
      · have hv := v5 q.1
        refine ⟨⟨by omega, by omega⟩, ⟨by omega, by omega⟩, ?_⟩
        rw [o1, o9, v1, hv.2]
        refine ⟨⟨by omega, by omega⟩, fun ms2 e => ⟨by omega, fin _ _ _ (by omega) (fun c hcc => by rw [mc c (by omega), q.2.2.2.2.1 c (by omega)]) (fun p hp => ?_)⟩⟩
        rw [e, Int.toNat_natCast, up_at]
        by_cases g1 : p = x
        · rw [if_pos g1, g1]
        · rw [if_neg g1, msu p hp]; unfold ms; rw [q.2.2.2.2.2 p hp g1]
    · refine ⟨⟨by omega, by omega⟩, ⟨by omega, by omega⟩, ?_⟩
      rw [o1, o2, v1, v2]
      have hxy : x < 12 ∧ y < 12 := by rcases hst with q | q | q <;> omega
      refine s_M_takeThirds (o := 15 * d + 9) (a := x) (b := y) (by omega) (by omega) rfl (by omega) rfl (by omega) (fun mc2 m1 m2 m3 => ?_)
      have hcor : ∀ c, c < 3 * hT (d + 1) → mc2 c = hC (d + 1) c := by
        intro c hcc
        have hv := v4 (by omega) (c % 3) (by omega)
        by_cases g1 : c / 3 = y
        · have := m1 (c % 3) (by omega)
          rw [show 3 * y + c % 3 = c by omega] at this hv
          rw [this, show 15 * d + 9 + 3 + c % 3 = 15 * d + 12 + c % 3 by omega]; exact hv.2
        · by_cases g2 : c / 3 = x
          · rcases hst with q | q | q
            · omega
            · have := m2 q.2.2.2.1 (c % 3) (by omega)
              rw [show 3 * x + c % 3 = c by omega] at this hv
              rw [this]; exact hv.1
            · omega
          · rw [m3 c g2 g1]
            rcases hst with q | q | q
            · rw [mc c (by omega), q.2.2.2.2.1 c (by omega)]
            · rw [mc c (by omega), q.2.2.2.2.2.1 c (by omega) g2 g1]
            · omega
      have hsu : ∀ p, p < 9 → mSum p = ms (hSs (d + 1)) p := by
        intro p hp
        rw [msu p hp]; unfold ms
        rcases hst with q | q | q
        · rw [q.2.2.2.2.2 p hp]
        · rw [q.2.2.2.2.2.2 p hp]
        · omega
      refine ⟨fun w2 => ?_, fun w2 => ?_⟩
      · unfold wp_M_redo_100
        exact ⟨by omega, fin _ _ _ (by rcases hst with q | q | q <;> omega) hcor hsu⟩
      · unfold wp_M_redo_100
        exact ⟨by omega, fin _ _ _ (by rcases hst with q | q | q <;> omega) hcor hsu⟩
theorem s_M_begin {Q : Int → Int → Int → Int → (Nat → Int) → Prop} (hQ : ∀ msum, (∀ p, p < 9 → msum p = -6) → Q 0 0 0 0 msum) : wp_M_begin mThirds mIsLaid mActs mDone mSum Q := by
  unfold wp_M_begin
  refine lp2 (wp_M_begin_7 Q 0 mIsLaid mActs mDone) (fun x1 msum => ∃ k : Nat, k ≤ 9 ∧ x1 = k ∧ ∀ p, p < k → msum p = -6) (fun x1 _ => (9 - x1).toNat) ?_ _ _ ⟨0, by omega, rfl, fun p h => by omega⟩
  rintro f x1 msum ⟨k, hk, rfl, hm⟩ ih
  show wp_M_begin_7_b _ _ _ _ _ _ _ _
  unfold wp_M_begin_7_b
  refine ⟨jR_n (by omega), fun g => hQ msum (fun p hp => hm p (by omega)), fun g => ⟨⟨by omega, by omega⟩, fun m2 e => ih _ _ ⟨k + 1, by omega, by omega, fun p hp => ?_⟩ (by omega)⟩⟩
  rw [e, Int.toNat_natCast, up_at]
  by_cases w : p = k
  · rw [if_pos w]
  · rw [if_neg w]; exact hm p (by omega)
theorem t_posts (h : Inv xStraight xLeast nPosts nThirds nCorners nSums nArrows aBehind aAhead aCells aBefore aAfter gCorners gFresh gThere gRow bSets bTotals mPosts mThirds mStraight mLeast mIsLaid mIsGiven mActs mDone mCorner mSum mBeyond mAct) (hx1 : jR x1) : wp_X_posts x1 nPosts nThirds nCorners nSums nArrows aBehind aAhead gFresh (fun z nPosts nThirds nSums nArrows aBehind aAhead gFresh => wp_M_posts x1 mPosts mThirds mIsLaid mActs mDone mSum (fun z2 mPosts mThirds mIsLaid mActs mDone mSum => z = z2 ∧ Inv xStraight xLeast nPosts nThirds nCorners nSums nArrows aBehind aAhead aCells aBefore aAfter gCorners gFresh gThere gRow bSets bTotals mPosts mThirds mStraight mLeast mIsLaid mIsGiven mActs mDone mCorner mSum mBeyond mAct)) := by
  have h' := h
  obtain ⟨n, a, d, T, co, su, N, L, ⟨hN, hS, hr, e1, e2, e3, e4, hc, hs, hA, hX, hb⟩, ⟨f1, f2, f3, f4, mc, msu, hM⟩, hH⟩ := h
  have hle := hN.le
  have J3 : jR 3 := by unfold jR; decide
  have J9 : jR 9 := by unfold jR; decide
  have bad : ¬ (3 ≤ x1 ∧ x1 ≤ 9) → wp_M_posts x1 mPosts mThirds mIsLaid mActs mDone mSum (fun z2 mPosts mThirds mIsLaid mActs mDone mSum => -2 = z2 ∧ Inv xStraight xLeast nPosts nThirds nCorners nSums nArrows aBehind aAhead aCells aBefore aAfter gCorners gFresh gThere gRow bSets bTotals mPosts mThirds mStraight mLeast mIsLaid mIsGiven mActs mDone mCorner mSum mBeyond mAct) := by
    intro hn
    unfold wp_M_posts
    exact s_M_in hx1 J3 J9 (fun a b => absurd ⟨a, b⟩ hn) (fun _ => ⟨jR01_0, fun _ => ⟨rfl, h'⟩, fun g => absurd rfl g⟩)
  unfold wp_X_posts
  refine ⟨hx1, fun g => bad (by omega), fun g => ⟨fun g2 => ?_, fun g2 => bad (by omega)⟩⟩
  unfold wp_N_postCount wp_N_beginAnew
  intro ns2 en
  have hN0 : NetOK x1.toNat 0 co := ⟨⟨by omega, by omega, by omega⟩, fun c hcc => by omega, fun c hcc => by omega, fun c d' hcc => by omega⟩
  refine s_N_drawArrows (T := 0) rfl (by omega) (co := co) (fun c hcc => by omega) (fun c hcc => by omega) (fun ar2 hA2 => ?_)
  unfold wp_A_forgetAll wp_G_forgetRow wp_M_posts
  refine s_M_in hx1 J3 J9 (fun _ _ => ⟨jR01_1, fun g => absurd g (by decide), fun _ => s_M_begin (fun msum hm => ⟨by omega, ?_⟩)⟩) (fun w => by omega)
  have hS0 : SuOK (fun _ => -1) := fun p _ => ⟨Int.le_refl _, by show (-1 : Int) ≤ 4000; decide⟩
  refine ⟨x1.toNat, 0, 0, 0, co, fun _ => -1, N, L, ⟨hN0, hS0, hr, e1, e2, by omega, rfl, fun c hcc => by omega, fun p hp => ?_, hA2, Or.inl rfl, hb⟩, ⟨by omega, rfl, f3, f4, fun c hcc => by omega, fun p hp => ?_, Or.inl rfl⟩, fun _ => 0, fun _ => co, fun _ _ => -1, rfl, rfl, rfl, by omega, by omega, rfl, rfl, rfl, rfl, fun i _ => ⟨hN0, hS0⟩, fun i hi => by omega⟩
  · rw [en]; unfold fillf; rw [if_pos hp]
  · rw [hm p hp]; rfl
end

/-! going forward and backward -/
theorem s_X_goForward {n k a b T T' d : Nat} {C S C' S' cl bf af nc ns ar : Nat → Int} {nThirds aBehind aAhead gFresh ah : Int} {Q : Int → (Nat → Int) → (Nat → Int) → (Nat → Int) → Int → Int → Int → Prop} (eT : nThirds = T) (hN : NetOK n T C) (hN' : NetOK n T' C') (hst : StA k a b T C S T' C' S') (hx : RX k a b C S C' S' cl bf af (2 * d)) (hc : ∀ c, c < 3 * T → nc c = C c) (hs : ∀ p, p < 9 → ns p = S p) (e : aBehind = d) (hd : d < 60) (e2 : aAhead = ah) (h1 : 1 ≤ ah) (h60 : ah ≤ 60) (hQ : ∀ nc2 ns2 ar2, (∀ c, c < 3 * T' → nc2 c = C' c) → (∀ p, p < 9 → ns2 p = S' p) → ArOK T' C' ar2 → Q T' nc2 ns2 ar2 ((d : Int) + 1) (ah - 1) 0) : wp_X_goForward nThirds nc ns ar aBehind aAhead cl af gFresh Q := by
  subst e; subst e2; subst eT
  unfold wp_X_goForward wp_A_forward
  refine ⟨⟨by omega, by omega⟩, fun g => by omega, fun _ => s_A_putAll_a hN' rfl hd (fun R hR => eff_f hN hN' hst hx hc hs hR) (fun nc2 ns2 ar2 q1 q2 q3 => ?_)⟩
  unfold wp_G_forgetRow
  exact hQ nc2 ns2 ar2 q1 q2 q3
theorem s_A_backward {n k a b T T' d : Nat} {C S C' S' cl bf af nc ns ar : Nat → Int} {nThirds aBehind aAhead : Int} {Q : Int → (Nat → Int) → (Nat → Int) → (Nat → Int) → Int → Int → Prop} (eT : nThirds = T') (hN : NetOK n T C) (hN' : NetOK n T' C') (hst : StA k a b T C S T' C' S') (hx : RX k a b C S C' S' cl bf af (2 * d)) (hc : ∀ c, c < 3 * T' → nc c = C' c) (hs : ∀ p, p < 9 → ns p = S' p) (e : aBehind = (d : Int) + 1) (hd : d < 60) (hQ : ∀ nc2 ns2 ar2, (∀ c, c < 3 * T → nc2 c = C c) → (∀ p, p < 9 → ns2 p = S p) → ArOK T C ar2 → Q T nc2 ns2 ar2 d (aAhead + 1)) : wp_A_backward nThirds nc ns ar aBehind aAhead cl bf Q := by
  subst eT
  unfold wp_A_backward
  have e' : aBehind - 1 = d := by omega
  rw [e']
  exact ⟨⟨by omega, by omega⟩, fun g => by omega, fun _ => s_A_putAll_b hN rfl hd (fun R hR => eff_b hN hN' hst hx hc hs hR) (fun nc2 ns2 ar2 q1 q2 q3 => hQ nc2 ns2 ar2 q1 q2 q3)⟩
/-! a new third -/
def c3 (co : Nat → Int) (T : Nat) (p q r : Int) (c : Nat) : Int := if c = 3 * T then p else if c = 3 * T + 1 then q else if c = 3 * T + 2 then r else co c
theorem c3_0 (co : Nat → Int) (T : Nat) (p q r : Int) : c3 co T p q r (3 * T) = p := if_pos rfl
theorem c3_1 (co : Nat → Int) (T : Nat) (p q r : Int) : c3 co T p q r (3 * T + 1) = q := by unfold c3; rw [if_neg (by omega), if_pos rfl]
theorem c3_2 (co : Nat → Int) (T : Nat) (p q r : Int) : c3 co T p q r (3 * T + 2) = r := by unfold c3; rw [if_neg (by omega), if_neg (by omega), if_pos rfl]
theorem c3_o (co : Nat → Int) (T : Nat) (p q r : Int) {c : Nat} (h : c < 3 * T) : c3 co T p q r c = co c := by unfold c3; rw [if_neg (by omega), if_neg (by omega), if_neg (by omega)]
theorem net_third {n T : Nat} {co : Nat → Int} {p q r : Int} (hN : NetOK n T co) (hT : T < 12) (p0 : 0 ≤ p) (p1 : p < n) (q0 : 0 ≤ q) (q1 : q < n) (r0 : 0 ≤ r) (r1 : r < n) (npq : p ≠ q) (nqr : q ≠ r) (nrp : r ≠ p) (a1 : av co p q (3 * T) = -1) (a2 : av co q r (3 * T) = -1) (a3 : av co r p (3 * T) = -1) : NetOK n (T + 1) (c3 co T p q r) := by
  have hle := hN.le
  have nn : ∀ c, c < 3 * T → ¬ (co c = p ∧ co (nx c) = q) ∧ ¬ (co c = q ∧ co (nx c) = r) ∧ ¬ (co c = r ∧ co (nx c) = p) := by
    intro c hc
    refine ⟨fun w => ?_, fun w => ?_, fun w => ?_⟩
    · have := av_some hN hc w.1 w.2; omega
    · have := av_some hN hc w.1 w.2; omega
    · have := av_some hN hc w.1 w.2; omega
  have cs : ∀ c, c < 3 * (T + 1) → (c < 3 * T ∧ c3 co T p q r c = co c ∧ c3 co T p q r (nx c) = co (nx c)) ∨ (c = 3 * T ∧ c3 co T p q r c = p ∧ c3 co T p q r (nx c) = q) ∨ (c = 3 * T + 1 ∧ c3 co T p q r c = q ∧ c3 co T p q r (nx c) = r) ∨ (c = 3 * T + 2 ∧ c3 co T p q r c = r ∧ c3 co T p q r (nx c) = p) := by
    intro c hc
    rcases Nat.lt_or_ge c (3 * T) with w | w
    · exact Or.inl ⟨w, c3_o co T p q r w, c3_o co T p q r (nx_lt w)⟩
    · have : c = 3 * T ∨ c = 3 * T + 1 ∨ c = 3 * T + 2 := by omega
      rcases this with v | v | v
      · subst v; rw [nx_0]; exact Or.inr (Or.inl ⟨rfl, c3_0 .., c3_1 ..⟩)
      · subst v; rw [nx_1]; exact Or.inr (Or.inr (Or.inl ⟨rfl, c3_1 .., c3_2 ..⟩))
      · subst v; rw [nx_2]; exact Or.inr (Or.inr (Or.inr ⟨rfl, c3_2 .., c3_0 ..⟩))
  refine ⟨⟨hle.1, hle.2.1, by omega⟩, fun c hc => ?_, fun c hc => ?_, fun c d hc hd h1 h2 => ?_⟩
  · rcases cs c hc with w | w | w | w
    · rw [w.2.1]; exact hN.2.1 c w.1
    · rw [w.2.1]; omega
    · rw [w.2.1]; omega
    · rw [w.2.1]; omega
  · rcases cs c hc with w | w | w | w
    · rw [w.2.1, w.2.2]; exact hN.2.2.1 c w.1
    · rw [w.2.1, w.2.2]; omega
    · rw [w.2.1, w.2.2]; omega
    · rw [w.2.1, w.2.2]; omega
  · rcases cs c hc with w | w | w | w <;> rcases cs d hd with v | v | v | v <;> rw [w.2.1, v.2.1] at h1 <;> rw [w.2.2, v.2.2] at h2
    · exact hN.2.2.2 c d w.1 v.1 h1 h2
    · exact absurd ⟨h1, h2⟩ (nn c w.1).1
    · exact absurd ⟨h1, h2⟩ (nn c w.1).2.1
    · exact absurd ⟨h1, h2⟩ (nn c w.1).2.2
    · exact absurd ⟨h1.symm, h2.symm⟩ (nn d v.1).1
    · omega
    · omega
    · omega
    · exact absurd ⟨h1.symm, h2.symm⟩ (nn d v.1).2.1
    · omega
    · omega
    · omega
    · exact absurd ⟨h1.symm, h2.symm⟩ (nn d v.1).2.2
    · omega
    · omega
    · omega
section
variable {x1 x2 x3 xStraight xLeast nPosts nThirds : Int} {nCorners nSums nArrows : Nat → Int} {aBehind aAhead : Int} {aCells aBefore aAfter : Nat → Int} {gCorners gLowest gFirst gFresh gThere : Int} {gRow gPlaces gOver gVia gQueue : Nat → Int} {bTold bStraight bLeast : Int} {bPostsOf bSets bTotals : Nat → Int} {mPosts mThirds mStraight mLeast mIsLaid mIsGiven mActs mDone mQueued : Int} {mCorner mSum mBeyond mAct mMark mSpare mLack mBefore mVia mQueue : Nat → Int}
theorem t_third (h : Inv xStraight xLeast nPosts nThirds nCorners nSums nArrows aBehind aAhead aCells aBefore aAfter gCorners gFresh gThere gRow bSets bTotals mPosts mThirds mStraight mLeast mIsLaid mIsGiven mActs mDone mCorner mSum mBeyond mAct) (hx1 : jR x1) (hx2 : jR x2) (hx3 : jR x3) : wp_X_third x1 x2 x3 nPosts nThirds nCorners nSums nArrows aBehind aAhead aCells aBefore aAfter gFresh (fun z nThirds nCorners nSums nArrows aBehind aAhead aCells aBefore aAfter gFresh => wp_M_third x1 x2 x3 mPosts mThirds mIsLaid mActs mDone mCorner mAct (fun z2 mThirds mIsLaid mActs mDone mCorner mAct => z = z2 ∧ Inv xStraight xLeast nPosts nThirds nCorners nSums nArrows aBehind aAhead aCells aBefore aAfter gCorners gFresh gThere gRow bSets bTotals mPosts mThirds mStraight mLeast mIsLaid mIsGiven mActs mDone mCorner mSum mBeyond mAct)) := by
  have h' := h
  obtain ⟨n, a, d, T, co, su, N, L, ⟨hN, hS, hr, e1, e2, e3, e4, hc, hs, hA, hX, hb⟩, ⟨f1, f2, f3, f4, mc, msu, hM⟩, hH⟩ := h
  have hle := hN.le
  have Hd : d ≤ 60 ∧ aBehind = d ∧ mDone = d := by
    obtain ⟨hT, hC, hS, t1, t2, t3, u1, u2, u3, u4, u5, u6, -⟩ := hH
    exact ⟨by omega, u3, u6⟩
  have keep : ∀ z : Int, ((¬ (0 ≤ x1 ∧ x1 < n ∧ 0 ≤ x2 ∧ x2 < n ∧ x1 ≠ x2 ∧ 0 ≤ x3 ∧ x3 < n ∧ x2 ≠ x3 ∧ x3 ≠ x1) ∧ z = -1) ∨ ((0 ≤ x1 ∧ x1 < n ∧ 0 ≤ x2 ∧ x2 < n ∧ x1 ≠ x2 ∧ 0 ≤ x3 ∧ x3 < n ∧ x2 ≠ x3 ∧ x3 ≠ x1) ∧ T = 12 ∧ z = -4) ∨ ((0 ≤ x1 ∧ x1 < n ∧ 0 ≤ x2 ∧ x2 < n ∧ x1 ≠ x2 ∧ 0 ≤ x3 ∧ x3 < n ∧ x2 ≠ x3 ∧ x3 ≠ x1) ∧ T ≠ 12 ∧ ¬ (av co x1 x2 (3 * T) = -1 ∧ av co x2 x3 (3 * T) = -1 ∧ av co x3 x1 (3 * T) = -1) ∧ z = -5)) → wp_M_third x1 x2 x3 mPosts mThirds mIsLaid mActs mDone mCorner mAct (fun z2 mThirds mIsLaid mActs mDone mCorner mAct => z = z2 ∧ Inv xStraight xLeast nPosts nThirds nCorners nSums nArrows aBehind aAhead aCells aBefore aAfter gCorners gFresh gThere gRow bSets bTotals mPosts mThirds mStraight mLeast mIsLaid mIsGiven mActs mDone mCorner mSum mBeyond mAct) := by
    intro z hz
    unfold wp_M_third
    have r1 := av_lt (T := T) (co := co) (p := x1) (q := x2)
    have r2 := av_lt (T := T) (co := co) (p := x2) (q := x3)
    have r3 := av_lt (T := T) (co := co) (p := x3) (q := x1)
    have J6 : jR (-6) := by unfold jR; decide
    refine s_M_arePair f1 hle.2.1 hx1 hx2 (fun p1 p2 q1 q2 ne => ⟨jR01_1, fun g => absurd g (by decide), fun _ => s_M_arePair f1 hle.2.1 hx2 hx3 (fun _ _ w1 w2 ne2 => ⟨jR01_1, fun g => absurd g (by decide), fun _ => ⟨hx1, hx3, fun g => ⟨by omega, h'⟩, fun g => ⟨⟨by omega, by omega⟩, fun g2 => ⟨by omega, h'⟩, fun g2 => ?_⟩⟩⟩) (fun g => ⟨jR01_0, fun _ => ⟨by omega, h'⟩, fun g => absurd rfl g⟩)⟩) (fun g => ⟨jR01_0, fun _ => ⟨by omega, h'⟩, fun g => absurd rfl g⟩)
    refine s_M_arrowOf hN f2 mc hx1 hx2 (fun w => ⟨J6, fun g => absurd g (by decide), fun _ => ?_⟩) (fun w => ⟨⟨by omega, by omega⟩, fun _ => ⟨by omega, h'⟩, fun g => by omega⟩)
    refine s_M_arrowOf hN f2 mc hx2 hx3 (fun w2 => ⟨J6, fun g => absurd g (by decide), fun _ => ?_⟩) (fun w => ⟨⟨by omega, by omega⟩, fun _ => ⟨by omega, h'⟩, fun g => by omega⟩)
    exact s_M_arrowOf hN f2 mc hx3 hx1 (fun w3 => by omega) (fun w => ⟨⟨by omega, by omega⟩, fun g => by omega, fun _ => ⟨by omega, h'⟩⟩)
  unfold wp_X_third
  refine s_N_areUnlike e3 hle.2.1 hx1 hx2 (fun p0 p1 q0 q1 npq => ⟨jR01_1, fun g => absurd g (by decide), fun _ => s_N_areUnlike e3 hle.2.1 hx2 hx3 (fun _ _ r0 r1 nqr => ⟨jR01_1, fun g => absurd g (by decide), fun _ => s_N_areUnlike e3 hle.2.1 hx3 hx1 (fun _ _ _ _ nrp => ⟨jR01_1, fun g => absurd g (by decide), fun _ => ?_⟩) (fun g => ⟨jR01_0, fun _ => keep (-1) (by omega), fun g => absurd rfl g⟩)⟩) (fun g => ⟨jR01_0, fun _ => keep (-1) (by omega), fun g => absurd rfl g⟩)⟩) (fun g => ⟨jR01_0, fun _ => keep (-1) (by omega), fun g => absurd rfl g⟩)
  unfold wp_N_thirdCount
  refine ⟨⟨by omega, by omega⟩, fun hT12 => ?_, fun g => keep (-4) (by omega)⟩
  refine s_N_hasArrow hA hle.2.2 (by omega) (by omega) (by omega) (by omega) (fun a1 => ⟨jR01_0, fun _ => ?_, fun g => absurd rfl g⟩) (fun a1 => ⟨jR01_1, fun g => absurd g (by decide), fun _ => keep (-5) (by omega)⟩)
  refine s_N_hasArrow hA hle.2.2 (by omega) (by omega) (by omega) (by omega) (fun a2 => ⟨jR01_0, fun _ => ?_, fun g => absurd rfl g⟩) (fun a2 => ⟨jR01_1, fun g => absurd g (by decide), fun _ => keep (-5) (by omega)⟩)
  refine s_N_hasArrow hA hle.2.2 (by omega) (by omega) (by omega) (by omega) (fun a3 => ⟨jR01_0, fun _ => ?_, fun g => absurd rfl g⟩) (fun a3 => ⟨jR01_1, fun g => absurd g (by decide), fun _ => keep (-5) (by omega)⟩)
  have hN' := net_third hN (by omega) p0 p1 q0 q1 r0 r1 npq nqr nrp a1 a2 a3
  have hdn : dn d < 60 := by unfold dn; split <;> omega
  have hst : StA 0 T T T co su (T + 1) (c3 co T x1 x2 x3) su := Or.inl ⟨rfl, rfl, rfl, rfl, fun c hc => c3_o co T x1 x2 x3 hc, fun _ _ => rfl⟩
  refine s_A_begin Hd.2.1 Hd.1 (fun cl2 bf2 af2 s1 s2 s3 hm1 => ?_)
  unfold wp_N_pack
  rw [(pck_spec (by omega) (by omega) (by omega) (by omega) (by omega) (by omega)).1]
  refine s_A_note (d := dn d) (j := 0) rfl hdn rfl (by omega) ?_
  rw [Nat.add_zero]
  have rx : RX 0 T T co su (c3 co T x1 x2 x3) su (up cl2 (2 * dn d) nThirds) (up bf2 (2 * dn d) (-1)) (up af2 (2 * dn d) (pck x1 x2 x3)) (2 * dn d) := by
    refine ⟨fun _ => ⟨by rw [up_s, e4], by rw [up_n _ _ (by omega)]; exact hm1, up_s _ _ _, ?_⟩, fun g => absurd g (by decide), fun g => absurd g (by decide)⟩
    rw [up_s]; unfold pk3; rw [c3_0, c3_1, c3_2]
  refine s_X_goForward e4 hN hN' hst rx hc hs rfl hdn rfl (by omega) (by omega) (fun nc2 ns2 ar2 q1' q2' q3' => ?_)
  -- the reference
  unfold wp_M_third
  refine s_M_arePair f1 hle.2.1 hx1 hx2 (fun _ _ _ _ _ => ⟨jR01_1, fun g => absurd g (by decide), fun _ => s_M_arePair f1 hle.2.1 hx2 hx3 (fun _ _ _ _ _ => ⟨jR01_1, fun g => absurd g (by decide), fun _ => ⟨hx1, hx3, fun g => by omega, fun _ => ⟨⟨by omega, by omega⟩, fun g => by omega, fun _ => ?_⟩⟩⟩) (fun g => absurd ⟨q0, q1, r0, r1, nqr⟩ g)⟩) (fun g => absurd ⟨p0, p1, q0, q1, npq⟩ g)
  have J6 : jR (-6) := by unfold jR; decide
  refine s_M_arrowOf hN f2 mc hx1 hx2 (fun _ => ⟨J6, fun g => absurd g (by decide), fun _ => ?_⟩) (fun w => absurd a1 w)
  refine s_M_arrowOf hN f2 mc hx2 hx3 (fun _ => ⟨J6, fun g => absurd g (by decide), fun _ => ?_⟩) (fun w => absurd a2 w)
  refine s_M_arrowOf hN f2 mc hx3 hx1 (fun _ => ⟨J6, fun _ => ?_, fun g => absurd (by decide) g⟩) (fun w => absurd a3 w)
  refine s_M_put (a := T) f2 (by omega) (fun mc2 m0 m1 m2 mo => s_M_write Hd.2.2 Hd.1 (fun ma s4 w0 w1 w2 => s_M_keepThirds (o := 15 * dn d + 9) (a := T) (b := T) (by omega) (by omega) f2 (by omega) f2 (by omega) (fun ma2 k1 k2 => ⟨by omega, ?_⟩)))
  have hc3 : ∀ c, c < 3 * (T + 1) → mc2 c = c3 co T x1 x2 x3 c := by
    intro c hcc
    rcases Nat.lt_or_ge c (3 * T) with w | w
    · rw [c3_o co T x1 x2 x3 w, mo c (by omega), mc c w]
    · have : c = 3 * T ∨ c = 3 * T + 1 ∨ c = 3 * T + 2 := by omega
      rcases this with v | v | v
      · subst v; rw [c3_0]; exact m0
      · subst v; rw [c3_1]; exact m1
      · subst v; rw [c3_2]; exact m2
  refine ⟨n, dn d + 1, dn d + 1, T + 1, c3 co T x1 x2 x3, su, N, L, ⟨hN', hS, hr, e1, e2, e3, rfl, q1', q2', q3', Or.inl rfl, hb⟩, ⟨f1, by omega, f3, f4, hc3, msu, Or.inl rfl⟩, hist_new hH hN' hS ?_ ?_ ?_ ?_ ⟨0, T, T, hst, rx, ?_⟩ rfl rfl rfl rfl⟩
  · intro i hi; rw [up_n _ _ (by omega)]; exact s1 i hi
  · intro i hi; rw [up_n _ _ (by omega)]; exact s2 i hi
  · intro i hi; rw [up_n _ _ (by omega)]; exact s3 i hi
  · intro i hi; rw [k2 i (by omega)]; exact s4 i hi
  · refine ⟨by rw [k2 _ (by omega)]; exact w0, by rw [k2 _ (by omega), w1]; exact f2, by rw [k2 _ (by omega), w2]; exact f2, fun g => absurd g (by decide), fun _ j hj => ?_, fun g => absurd g (by decide)⟩
    have := k1 j hj
    rw [show 15 * dn d + 9 + 3 + j = 15 * dn d + 12 + j by omega] at this
    rw [this.1, this.2, hc3 _ (by omega)]
    exact ⟨rfl, rfl⟩
theorem t_tell (h : Inv xStraight xLeast nPosts nThirds nCorners nSums nArrows aBehind aAhead aCells aBefore aAfter gCorners gFresh gThere gRow bSets bTotals mPosts mThirds mStraight mLeast mIsLaid mIsGiven mActs mDone mCorner mSum mBeyond mAct) (hx1 : jR x1) (hx2 : jR x2) : wp_X_tell x1 x2 nPosts nThirds nCorners nSums nArrows aBehind aAhead aCells aBefore aAfter gFresh (fun z nThirds nCorners nSums nArrows aBehind aAhead aCells aBefore aAfter gFresh => wp_M_tell x1 x2 mPosts mIsLaid mActs mDone mSum mAct (fun z2 mIsLaid mActs mDone mSum mAct => z = z2 ∧ Inv xStraight xLeast nPosts nThirds nCorners nSums nArrows aBehind aAhead aCells aBefore aAfter gCorners gFresh gThere gRow bSets bTotals mPosts mThirds mStraight mLeast mIsLaid mIsGiven mActs mDone mCorner mSum mBeyond mAct)) := by
  have h' := h
  obtain ⟨n, a, d, T, co, su, N, L, ⟨hN, hS, hr, e1, e2, e3, e4, hc, hs, hA, hX, hb⟩, ⟨f1, f2, f3, f4, mc, msu, hM⟩, hH⟩ := h
  have hle := hN.le
  have Hd : d ≤ 60 ∧ aBehind = d ∧ mDone = d := by
    obtain ⟨hT, hC, hS, t1, t2, t3, u1, u2, u3, u4, u5, u6, -⟩ := hH
    exact ⟨by omega, u3, u6⟩
  have J1 : jR (-1) := by unfold jR; decide
  have J4 : jR 4000 := by unfold jR; decide
  have bad : 0 ≤ x1 → x1 < n → ¬ (-1 ≤ x2 ∧ x2 ≤ 4000) → wp_M_tell x1 x2 mPosts mIsLaid mActs mDone mSum mAct (fun z2 mIsLaid mActs mDone mSum mAct => -2 = z2 ∧ Inv xStraight xLeast nPosts nThirds nCorners nSums nArrows aBehind aAhead aCells aBefore aAfter gCorners gFresh gThere gRow bSets bTotals mPosts mThirds mStraight mLeast mIsLaid mIsGiven mActs mDone mCorner mSum mBeyond mAct) := by
    intro p0 p1 hno
    unfold wp_M_tell
    exact s_M_isPost f1 hle.2.1 hx1 (fun _ _ => ⟨jR01_1, fun g => absurd g (by decide), fun _ => s_M_in hx2 J1 J4 (fun a b => absurd ⟨a, b⟩ hno) (fun _ => ⟨jR01_0, fun _ => ⟨rfl, h'⟩, fun g => absurd rfl g⟩)⟩) (fun g => absurd ⟨p0, p1⟩ g)
  unfold wp_X_tell
  refine s_N_hasPost e3 hle.2.1 hx1 (fun p0 p1 => ⟨jR01_1, fun g => absurd g (by decide), fun _ => ⟨hx2, fun g => bad p0 p1 (by omega), fun g => ⟨fun g2 => ?_, fun g2 => bad p0 p1 (by omega)⟩⟩⟩) (fun g => ⟨jR01_0, fun _ => ?_, fun g => absurd rfl g⟩)
  · have hs9 := hS x1.toNat (by omega)
    have ep : x1 = ((x1.toNat : Nat) : Int) := by omega
    have hdn : dn d < 60 := by unfold dn; split <;> omega
    have hst : StA 2 x1.toNat x1.toNat T co su T co (up su x1.toNat x2) := Or.inr (Or.inr ⟨rfl, by omega, rfl, rfl, fun _ _ => rfl, fun p _ hp => up_n _ _ hp⟩)
    have hS' : SuOK (up su x1.toNat x2) := by
      intro p hp
      rw [up_at]; split
      · omega
      · exact hS p hp
    unfold wp_X_sumOrNone wp_N_sumOf
    rw [hs _ (by omega)]
    have rest : ∀ z : Int, z = ms su x1.toNat → wp_A_begin aBehind aAhead aCells aBefore aAfter (fun aBehind_8 aAhead_9 aCells_10 aBefore_11 aAfter_12 => (0 ≤ x1 ∧ x1 < 9) ∧ wp_A_note 0 (12 + x1) (su x1.toNat) x2 aBehind_8 aCells_10 aBefore_11 aAfter_12 (fun aCells aBefore aAfter => wp_X_goForward nThirds nCorners nSums nArrows aBehind_8 aAhead_9 aCells aAfter gFresh (fun nThirds nCorners nSums nArrows aBehind aAhead gFresh => wp_M_tell x1 x2 mPosts mIsLaid mActs mDone mSum mAct (fun z2 mIsLaid mActs mDone mSum mAct => z = z2 ∧ Inv xStraight xLeast nPosts nThirds nCorners nSums nArrows aBehind aAhead aCells aBefore aAfter gCorners gFresh gThere gRow bSets bTotals mPosts mThirds mStraight mLeast mIsLaid mIsGiven mActs mDone mCorner mSum mBeyond mAct)))) := by
      intro z hz
      refine s_A_begin Hd.2.1 Hd.1 (fun cl2 bf2 af2 s1 s2 s3 hm1 => ⟨⟨by omega, by omega⟩, s_A_note (d := dn d) (j := 0) rfl hdn rfl (by omega) ?_⟩)
      rw [Nat.add_zero]
      have rx : RX 2 x1.toNat x1.toNat co su co (up su x1.toNat x2) (up cl2 (2 * dn d) (12 + x1)) (up bf2 (2 * dn d) (su x1.toNat)) (up af2 (2 * dn d) x2) (2 * dn d) := by
        refine ⟨fun g => absurd g (by decide), fun g => absurd g (by decide), fun _ => ⟨by rw [up_s]; omega, by rw [up_n _ _ (by omega)]; exact hm1, up_s _ _ _, by rw [up_s, up_s]⟩⟩
      refine s_X_goForward e4 hN hN hst rx hc hs rfl hdn rfl (by omega) (by omega) (fun nc2 ns2 ar2 q1' q2' q3' => ?_)
      unfold wp_M_tell
      refine s_M_isPost f1 hle.2.1 hx1 (fun _ _ => ⟨jR01_1, fun g => absurd g (by decide), fun _ => s_M_in hx2 J1 J4 (fun _ _ => ⟨jR01_1, fun g => absurd g (by decide), fun _ => ⟨⟨by omega, by omega⟩, s_M_write Hd.2.2 Hd.1 (fun ma s4 w0 w1 w2 => ⟨⟨by omega, by omega⟩, fun ma2 k2 => ?_⟩)⟩⟩) (fun g => by omega)⟩) (fun g => absurd ⟨p0, p1⟩ g)
      have fin : ∀ t2 : Int, t2 = ms (up su x1.toNat x2) x1.toNat → wp_M_tell_71 (fun z2 mIsLaid mActs mDone mSum mAct => z = z2 ∧ Inv xStraight xLeast nPosts (T : Int) nc2 ns2 ar2 (((dn d : Nat) : Int) + 1) (1 - 1) (up cl2 (2 * dn d) (12 + x1)) (up bf2 (2 * dn d) (su x1.toNat)) (up af2 (2 * dn d) x2) gCorners 0 gThere gRow bSets bTotals mPosts mThirds mStraight mLeast mIsLaid mIsGiven mActs mDone mCorner mSum mBeyond mAct) x1 (mSum x1.toNat) x1 t2 0 (((dn d : Nat) : Int) + 1) (((dn d : Nat) : Int) + 1) mSum ma2 := by
        intro t2 ht2
        unfold wp_M_tell_71
        refine ⟨⟨by omega, by omega⟩, fun msum2 em => ⟨⟨by omega, by omega⟩, ⟨by omega, by omega⟩, fun ma3 k3 => ⟨by rw [hz, msu _ (by omega)], ?_⟩⟩⟩
        have o3 : ((15 : Int) * ((((dn d : Nat) : Int) + 1) - 1) + 3).toNat = 15 * dn d + 3 := by omega
        have o9 : ((15 : Int) * ((((dn d : Nat) : Int) + 1) - 1) + 9).toNat = 15 * dn d + 9 := by omega
        rw [o3] at k2
        rw [o9] at k3
        have hsum2 : ∀ p, p < 9 → msum2 p = ms (up su x1.toNat x2) p := by
          intro p hp
          rw [em, up_at]
          by_cases w : p = x1.toNat
          · rw [if_pos w, w]; exact ht2
          · rw [if_neg w, msu p hp]; unfold ms; rw [up_n _ _ w]
        refine ⟨n, dn d + 1, dn d + 1, T, co, up su x1.toNat x2, N, L, ⟨hN, hS', hr, e1, e2, e3, rfl, q1', q2', q3', Or.inl rfl, hb⟩, ⟨f1, f2, f3, f4, mc, hsum2, Or.inl rfl⟩, hist_new hH hN hS' ?_ ?_ ?_ ?_ ⟨2, x1.toNat, x1.toNat, hst, rx, ?_⟩ rfl rfl rfl rfl⟩
        · intro i hi; rw [up_n _ _ (by omega)]; exact s1 i hi
        · intro i hi; rw [up_n _ _ (by omega)]; exact s2 i hi
        · intro i hi; rw [up_n _ _ (by omega)]; exact s3 i hi
        · intro i hi; rw [k3, up_n _ _ (by omega), k2, up_n _ _ (by omega)]; exact s4 i hi
        · refine ⟨?_, ?_, ?_, fun g => absurd g (by decide), fun g => absurd g (by decide), fun _ => ⟨?_, ?_⟩⟩
          · rw [k3, up_n _ _ (by omega), k2, up_n _ _ (by omega)]; exact w0
          · rw [k3, up_n _ _ (by omega), k2, up_n _ _ (by omega), w1]; exact ep
          · rw [k3, up_n _ _ (by omega), k2, up_n _ _ (by omega), w2]; exact ep
          · rw [k3, up_n _ _ (by omega), k2, up_s, msu _ (by omega)]
          · rw [k3, up_s, hsum2 _ (by omega)]
      refine ⟨hx2, fun g => fin (-6) ?_, fun g => fin x2 ?_⟩
      · unfold ms; rw [up_s, if_pos g]
      · unfold ms; rw [up_s, if_neg g]
    refine ⟨⟨by omega, by omega⟩, ⟨by omega, by omega⟩, fun w => rest (-6) ?_, fun w => rest _ ?_⟩
    · unfold ms; rw [if_pos w]
    · unfold ms; rw [if_neg w]
  · unfold wp_M_tell
    exact s_M_isPost f1 hle.2.1 hx1 (fun p0 p1 => absurd ⟨p0, p1⟩ g) (fun _ => ⟨jR01_0, fun _ => ⟨rfl, h'⟩, fun g => absurd rfl g⟩)
end

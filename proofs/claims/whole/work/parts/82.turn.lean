/-! a turn -/
theorem in_third {c o : Nat} (h : o / 3 = c / 3) : o = c ∨ o = nx c ∨ o = nx (nx c) := by unfold nx; omega
def ct (co : Nat → Int) (a b : Nat) (p q r s : Int) (c : Nat) : Int := if c / 3 = a then (if c % 3 = 0 then p else if c % 3 = 1 then s else r) else if c / 3 = b then (if c % 3 = 0 then s else if c % 3 = 1 then q else r) else co c
theorem ct_a0 (co : Nat → Int) (a b : Nat) (p q r s : Int) : ct co a b p q r s (3 * a) = p := by unfold ct; rw [if_pos (by omega), if_pos (by omega)]
theorem ct_a1 (co : Nat → Int) (a b : Nat) (p q r s : Int) : ct co a b p q r s (3 * a + 1) = s := by unfold ct; rw [if_pos (by omega), if_neg (by omega), if_pos (by omega)]
theorem ct_a2 (co : Nat → Int) (a b : Nat) (p q r s : Int) : ct co a b p q r s (3 * a + 2) = r := by unfold ct; rw [if_pos (by omega), if_neg (by omega), if_neg (by omega)]
theorem ct_b0 (co : Nat → Int) {a b : Nat} (h : a ≠ b) (p q r s : Int) : ct co a b p q r s (3 * b) = s := by unfold ct; rw [if_neg (by omega), if_pos (by omega), if_pos (by omega)]
theorem ct_b1 (co : Nat → Int) {a b : Nat} (h : a ≠ b) (p q r s : Int) : ct co a b p q r s (3 * b + 1) = q := by unfold ct; rw [if_neg (by omega), if_pos (by omega), if_neg (by omega), if_pos (by omega)]
theorem ct_b2 (co : Nat → Int) {a b : Nat} (h : a ≠ b) (p q r s : Int) : ct co a b p q r s (3 * b + 2) = r := by unfold ct; rw [if_neg (by omega), if_pos (by omega), if_neg (by omega), if_neg (by omega)]
theorem ct_o (co : Nat → Int) {a b c : Nat} (p q r s : Int) (h1 : c / 3 ≠ a) (h2 : c / 3 ≠ b) : ct co a b p q r s c = co c := by unfold ct; rw [if_neg h1, if_neg h2]
theorem turn_facts {n T a b : Nat} {co : Nat → Int} {p q : Int} (hN : NetOK n T co) (ha : av co p q (3 * T) = (a : Int)) (hb : av co q p (3 * T) = (b : Int)) : ∃ ca cb, ca < 3 * T ∧ cb < 3 * T ∧ ca / 3 = a ∧ cb / 3 = b ∧ a ≠ b ∧ co ca = p ∧ co (nx ca) = q ∧ co (nx (nx ca)) = co (opp co a p q) ∧ co cb = q ∧ co (nx cb) = p ∧ co (nx (nx cb)) = co (opp co b p q) := by
  obtain ⟨ca, a1, a2, a3, a4⟩ := av_of (C := 3 * T) (co := co) (p := p) (q := q) (by omega)
  obtain ⟨cb, b1, b2, b3, b4⟩ := av_of (C := 3 * T) (co := co) (p := q) (q := p) (by omega)
  have ea : ca / 3 = a := by omega
  have eb : cb / 3 = b := by omega
  have n1 := hN.2.2.1 ca a1
  have n2 := hN.2.2.1 (nx ca) (nx_lt a1)
  have n3 := hN.2.2.1 (nx (nx ca)) (nx_lt (nx_lt a1))
  rw [nx3] at n3
  have m1 := hN.2.2.1 cb b1
  have m2 := hN.2.2.1 (nx cb) (nx_lt b1)
  have m3 := hN.2.2.1 (nx (nx cb)) (nx_lt (nx_lt b1))
  rw [nx3] at m3
  refine ⟨ca, cb, a1, b1, ea, eb, ?_, a2, a3, ?_, b2, b3, ?_⟩
  · intro hab
    rcases in_third (c := ca) (o := cb) (by omega) with w | w | w
    · rw [w] at b2; omega
    · rw [w] at b3; omega
    · rw [w] at b2; omega
  · have ho := opp_spec hN (k := a) (by omega) p q
    rcases in_third (c := ca) (o := opp co a p q) (by omega) with w | w | w
    · have := ho.2.2.1; rw [w] at this; exact absurd a2 this
    · have := ho.2.2.2; rw [w] at this; exact absurd a3 this
    · rw [w]
  · have ho := opp_spec hN (k := b) (by omega) p q
    rcases in_third (c := cb) (o := opp co b p q) (by omega) with w | w | w
    · have := ho.2.2.2; rw [w] at this; exact absurd b2 this
    · have := ho.2.2.1; rw [w] at this; exact absurd b3 this
    · rw [w]
theorem net_turn {n T a b : Nat} {co : Nat → Int} {p q r s : Int} (hN : NetOK n T co) (ha : av co p q (3 * T) = (a : Int)) (hb : av co q p (3 * T) = (b : Int)) (er : r = co (opp co a p q)) (es : s = co (opp co b p q)) (hrs : r ≠ s) (h1 : av co r s (3 * T) = -1) (h2 : av co s r (3 * T) = -1) : NetOK n T (ct co a b p q r s) := by
  have hle := hN.le
  obtain ⟨ca, cb, a1, b1, ea, eb, hab, a2, a3, a4, b2, b3, b4⟩ := turn_facts hN ha hb
  rw [← er] at a4
  rw [← es] at b4
  have n1 := hN.2.2.1 ca a1
  have n2 := hN.2.2.1 (nx ca) (nx_lt a1)
  have n3 := hN.2.2.1 (nx (nx ca)) (nx_lt (nx_lt a1))
  rw [nx3] at n3
  have m1 := hN.2.2.1 cb b1
  have m2 := hN.2.2.1 (nx cb) (nx_lt b1)
  have m3 := hN.2.2.1 (nx (nx cb)) (nx_lt (nx_lt b1))
  rw [nx3] at m3
  have rp := hN.co a1
  have rq := hN.co b1
  have rr := hN.co (nx_lt (nx_lt a1))
  have rs := hN.co (nx_lt (nx_lt b1))
  have no : ∀ c, c < 3 * T → ¬ (co c = s ∧ co (nx c) = r) ∧ ¬ (co c = r ∧ co (nx c) = s) := by
    intro c hc
    refine ⟨fun w => ?_, fun w => ?_⟩
    · have := av_some hN hc w.1 w.2; omega
    · have := av_some hN hc w.1 w.2; omega
  have dv1 : nx ca / 3 = a := by rw [nx_div]; exact ea
  have dv2 : nx (nx ca) / 3 = a := by rw [nx_div, nx_div]; exact ea
  have dv3 : nx cb / 3 = b := by rw [nx_div]; exact eb
  have dv4 : nx (nx cb) / 3 = b := by rw [nx_div, nx_div]; exact eb
  have dne1 : nx ca ≠ nx (nx ca) := by unfold nx; omega
  have dne2 : nx cb ≠ nx (nx cb) := by unfold nx; omega
  -- where an arrow comes from
  have origin : ∀ c, c < 3 * T → (c = 3 * a + 1 ∧ ct co a b p q r s c = s ∧ ct co a b p q r s (nx c) = r) ∨ (c = 3 * b + 2 ∧ ct co a b p q r s c = r ∧ ct co a b p q r s (nx c) = s) ∨ ∃ o, o < 3 * T ∧ co o = ct co a b p q r s c ∧ co (nx o) = ct co a b p q r s (nx c) ∧ c = (if o = nx cb then 3 * a else if o = nx (nx ca) then 3 * a + 2 else if o = nx (nx cb) then 3 * b else if o = nx ca then 3 * b + 1 else o) := by
    intro c hc
    by_cases g1 : c / 3 = a
    · have : c = 3 * a ∨ c = 3 * a + 1 ∨ c = 3 * a + 2 := by omega
      rcases this with w | w | w
      · subst w
        refine Or.inr (Or.inr ⟨nx cb, nx_lt b1, ?_, ?_, (if_pos rfl).symm⟩)
        · rw [ct_a0]; exact b3
        · rw [nx_0, ct_a1]; exact b4
      · subst w
        exact Or.inl ⟨rfl, ct_a1 .., by rw [nx_1, ct_a2]⟩
      · subst w
        refine Or.inr (Or.inr ⟨nx (nx ca), nx_lt (nx_lt a1), ?_, ?_, ?_⟩)
        · rw [ct_a2]; exact a4
        · rw [nx3, nx_2, ct_a0]; exact a2
        · rw [if_neg (by omega), if_pos rfl]
    · by_cases g2 : c / 3 = b
      · have : c = 3 * b ∨ c = 3 * b + 1 ∨ c = 3 * b + 2 := by omega
        rcases this with w | w | w
        · subst w
          refine Or.inr (Or.inr ⟨nx (nx cb), nx_lt (nx_lt b1), ?_, ?_, ?_⟩)
          · rw [ct_b0 co hab]; exact b4
          · rw [nx3, nx_0, ct_b1 co hab]; exact b2
          · rw [if_neg (fun w => dne2 w.symm), if_neg (by omega), if_pos rfl]
        · subst w
          refine Or.inr (Or.inr ⟨nx ca, nx_lt a1, ?_, ?_, ?_⟩)
          · rw [ct_b1 co hab]; exact a3
          · rw [nx_1, ct_b2 co hab]; exact a4
          · rw [if_neg (by omega), if_neg dne1, if_neg (by omega), if_pos rfl]
        · subst w
          exact Or.inr (Or.inl ⟨rfl, ct_b2 co hab .., by rw [nx_2, ct_b0 co hab]⟩)
      · refine Or.inr (Or.inr ⟨c, hc, ?_, ?_, ?_⟩)
        · rw [ct_o co p q r s g1 g2]
        · rw [ct_o co p q r s (by rw [nx_div]; exact g1) (by rw [nx_div]; exact g2)]
        · rw [if_neg (by omega), if_neg (by omega), if_neg (by omega), if_neg (by omega)]
  refine ⟨hle, fun c hc => ?_, fun c hc => ?_, fun c d hc hd e1 e2 => ?_⟩
  · rcases origin c hc with w | w | ⟨o, w1, w2, -, -⟩
    · rw [w.2.1]; omega
    · rw [w.2.1]; omega
    · rw [← w2]; exact hN.2.1 o w1
  · rcases origin c hc with w | w | ⟨o, w1, w2, w3, -⟩
    · rw [w.2.1, w.2.2]; exact fun z => hrs z.symm
    · rw [w.2.1, w.2.2]; exact hrs
    · rw [← w2, ← w3]; exact hN.2.2.1 o w1
  · rcases origin c hc with w | w | ⟨o, w1, w2, w3, w4⟩ <;> rcases origin d hd with v | v | ⟨o', v1, v2, v3, v4⟩
    · omega
    · rw [w.2.1, v.2.1] at e1; omega
    · rw [w.2.1, ← v2] at e1; rw [w.2.2, ← v3] at e2
      exact absurd ⟨e1.symm, e2.symm⟩ (no o' v1).1
    · rw [w.2.1, v.2.1] at e1; omega
    · omega
    · rw [w.2.1, ← v2] at e1; rw [w.2.2, ← v3] at e2
      exact absurd ⟨e1.symm, e2.symm⟩ (no o' v1).2
    · rw [v.2.1, ← w2] at e1; rw [v.2.2, ← w3] at e2
      exact absurd ⟨e1, e2⟩ (no o w1).1
    · rw [v.2.1, ← w2] at e1; rw [v.2.2, ← w3] at e2
      exact absurd ⟨e1, e2⟩ (no o w1).2
    · rw [← w2, ← v2] at e1; rw [← w3, ← v3] at e2
      have := hN.2.2.2 o o' w1 v1 e1 e2
      rw [w4, v4, this]
section
variable {x1 x2 x3 xStraight xLeast nPosts nThirds : Int} {nCorners nSums nArrows : Nat → Int} {aBehind aAhead : Int} {aCells aBefore aAfter : Nat → Int} {gCorners gLowest gFirst gFresh gThere : Int} {gRow gPlaces gOver gVia gQueue : Nat → Int} {bTold bStraight bLeast : Int} {bPostsOf bSets bTotals : Nat → Int} {mPosts mThirds mStraight mLeast mIsLaid mIsGiven mActs mDone mQueued : Int} {mCorner mSum mBeyond mAct mMark mSpare mLack mBefore mVia mQueue : Nat → Int}
theorem t_turn (h : Inv xStraight xLeast nPosts nThirds nCorners nSums nArrows aBehind aAhead aCells aBefore aAfter gCorners gFresh gThere gRow bSets bTotals mPosts mThirds mStraight mLeast mIsLaid mIsGiven mActs mDone mCorner mSum mBeyond mAct) (hx1 : jR x1) (hx2 : jR x2) : wp_X_turn x1 x2 nPosts nThirds nCorners nSums nArrows aBehind aAhead aCells aBefore aAfter gFresh (fun z nThirds nCorners nSums nArrows aBehind aAhead aCells aBefore aAfter gFresh => wp_M_turn x1 x2 mPosts mThirds mIsLaid mActs mDone mCorner mAct (fun z2 mIsLaid mActs mDone mCorner mAct => z = z2 ∧ Inv xStraight xLeast nPosts nThirds nCorners nSums nArrows aBehind aAhead aCells aBefore aAfter gCorners gFresh gThere gRow bSets bTotals mPosts mThirds mStraight mLeast mIsLaid mIsGiven mActs mDone mCorner mSum mBeyond mAct)) := by
  have h' := h
  obtain ⟨n, a, d, T, co, su, N, L, ⟨hN, hS, hr, e1, e2, e3, e4, hc, hs, hA, hX, hb⟩, ⟨f1, f2, f3, f4, mc, msu, hM⟩, hH⟩ := h
  have hle := hN.le
  have Hd : d ≤ 60 ∧ aBehind = d ∧ mDone = d := by
    obtain ⟨hT, hC, hS, t1, t2, t3, u1, u2, u3, u4, u5, u6, -⟩ := hH
    exact ⟨by omega, u3, u6⟩
  have rsd := sd_r co (3 * T) x1 x2
  unfold wp_X_turn
  refine s_N_isSide e3 hle.2.1 hA hle.2.2 hx1 hx2 (fun p0 p1 q0 q1 ne hsd => ⟨jR01_1, fun g => absurd g (by decide), fun _ => s_N_thirdsAtSide hA hle.2.2 (by omega) (by omega) (by omega) (by omega) ⟨⟨by omega, by omega⟩, fun g => ?_, fun g => ?_⟩⟩) (fun g => ⟨jR01_0, fun _ => ?_, fun g => absurd rfl g⟩)
  · unfold wp_M_turn
    exact s_M_arePair f1 hle.2.1 hx1 hx2 (fun _ _ _ _ _ => ⟨jR01_1, fun g => absurd g (by decide), fun _ => s_M_sideOf hN f2 mc hx1 hx2 ⟨⟨by omega, by omega⟩, fun w => by omega, fun _ => s_M_sideOf hN f2 mc hx1 hx2 ⟨⟨by omega, by omega⟩, fun _ => ⟨rfl, h'⟩, fun w => absurd g w⟩⟩⟩) (fun w => absurd ⟨p0, p1, q0, q1, ne⟩ w)
  · have hab : av co x1 x2 (3 * T) ≠ -1 ∧ av co x2 x1 (3 * T) ≠ -1 := by
      have e : sd co (3 * T) x1 x2 = 2 := by omega
      unfold sd at e
      by_cases w1 : av co x1 x2 (3 * T) = -1
      · rw [if_pos w1] at e; split at e <;> omega
      · by_cases w2 : av co x2 x1 (3 * T) = -1
        · rw [if_neg w1, if_pos w2] at e; omega
        · exact ⟨w1, w2⟩
    have r1 := av_lt (T := T) (co := co) (p := x1) (q := x2)
    have r2 := av_lt (T := T) (co := co) (p := x2) (q := x1)
    obtain ⟨A, eA⟩ : ∃ A : Nat, av co x1 x2 (3 * T) = A := ⟨(av co x1 x2 (3 * T)).toNat, by omega⟩
    obtain ⟨B, eB⟩ : ∃ B : Nat, av co x2 x1 (3 * T) = B := ⟨(av co x2 x1 (3 * T)).toNat, by omega⟩
    have hAT : A < T := by omega
    have hBT : B < T := by omega
    have oA := opp_spec hN hAT x1 x2
    have oB := opp_spec hN hBT x1 x2
    have cA := hN.co oA.2.1
    have cB := hN.co oB.2.1
    obtain ⟨ca, cb, -, -, -, -, hne, -⟩ := turn_facts hN eA eB
    have mrun : ∀ Q, (co (opp co A x1 x2) = co (opp co B x1 x2) → Q (-5) mIsLaid mActs mDone mCorner mAct) → (co (opp co A x1 x2) ≠ co (opp co B x1 x2) → 0 < sd co (3 * T) (co (opp co A x1 x2)) (co (opp co B x1 x2)) → Q (-5) mIsLaid mActs mDone mCorner mAct) → (co (opp co A x1 x2) ≠ co (opp co B x1 x2) → ¬ 0 < sd co (3 * T) (co (opp co A x1 x2)) (co (opp co B x1 x2)) → wp_M_write 1 A B mIsLaid mActs mDone mAct (fun mIsLaid_22 mActs_23 mDone_24 mAct_25 => wp_M_keepThirds ((15 * (mDone_24 - 1)) + 3) A B mCorner mAct_25 (fun mAct_26 => wp_M_put A x1 (co (opp co B x1 x2)) (co (opp co A x1 x2)) mCorner (fun mCorner_27 => wp_M_put B (co (opp co B x1 x2)) x2 (co (opp co A x1 x2)) mCorner_27 (fun mCorner_28 => wp_M_keepThirds ((15 * (mDone_24 - 1)) + 9) A B mCorner_28 mAct_26 (fun mAct_29 => Q 1 mIsLaid_22 mActs_23 mDone_24 mCorner_28 mAct_29)))))) → wp_M_turn x1 x2 mPosts mThirds mIsLaid mActs mDone mCorner mAct Q := by
      intro Q k1 k2 k3
      have rs2 := sd_r co (3 * T) (co (opp co A x1 x2)) (co (opp co B x1 x2))
      unfold wp_M_turn
      refine s_M_arePair f1 hle.2.1 hx1 hx2 (fun _ _ _ _ _ => ⟨jR01_1, fun g => absurd g (by decide), fun _ => s_M_sideOf hN f2 mc hx1 hx2 ⟨⟨by omega, by omega⟩, fun w => by omega, fun _ => s_M_sideOf hN f2 mc hx1 hx2 ⟨⟨by omega, by omega⟩, fun w => absurd w g, fun _ => ?_⟩⟩⟩) (fun w => absurd ⟨p0, p1, q0, q1, ne⟩ w)
      refine s_M_arrowOf hN f2 mc hx1 hx2 (fun w => absurd w hab.1) (fun _ => s_M_arrowOf hN f2 mc hx2 hx1 (fun w => absurd w hab.2) (fun _ => ?_))
      rw [eA, eB]
      refine s_M_oppositeCorner hN mc hAT rfl hx1 hx2 ⟨⟨by omega, by omega⟩, s_M_oppositeCorner hN mc hBT rfl hx1 hx2 ⟨⟨by omega, by omega⟩, ?_⟩⟩
      rw [Int.toNat_natCast, Int.toNat_natCast, mc _ oA.2.1, mc _ oB.2.1]
      refine ⟨⟨by omega, by omega⟩, ⟨by omega, by omega⟩, k1, fun w => s_M_sideOf hN f2 mc ⟨by omega, by omega⟩ ⟨by omega, by omega⟩ ⟨⟨by omega, by omega⟩, fun v => k3 w (by omega), fun v => k2 w (by omega)⟩⟩
    refine s_N_thirdWith hA (by omega) (by omega) (by omega) (by omega) (s_N_thirdWith hA (by omega) (by omega) (by omega) (by omega) ?_)
    rw [eA, eB]
    refine s_N_cornerOpposite hN hc hAT rfl hx1 hx2 ?_
    unfold wp_N_postOf
    rw [Int.toNat_natCast, hc _ oA.2.1]
    refine ⟨⟨by omega, by omega⟩, s_N_cornerOpposite hN hc hBT rfl hx1 hx2 ?_⟩
    rw [Int.toNat_natCast, hc _ oB.2.1]
    refine ⟨⟨by omega, by omega⟩, ⟨by omega, by omega⟩, ⟨by omega, by omega⟩, fun w => mrun _ (fun _ => ⟨rfl, h'⟩) (fun z => absurd w z) (fun z => absurd w z), fun w => ?_⟩
    refine s_N_isSide e3 hle.2.1 hA hle.2.2 ⟨by omega, by omega⟩ ⟨by omega, by omega⟩ (fun _ _ _ _ _ hs2 => ⟨jR01_1, fun g => absurd g (by decide), fun _ => mrun _ (fun z => absurd z w) (fun _ _ => ⟨rfl, h'⟩) (fun _ z => absurd hs2 z)⟩) (fun hns => ⟨jR01_0, fun _ => ?_, fun g => absurd rfl g⟩)
    have hns2 : ¬ 0 < sd co (3 * T) (co (opp co A x1 x2)) (co (opp co B x1 x2)) := fun z => hns ⟨by omega, by omega, by omega, by omega, w, z⟩
    have hav : av co (co (opp co A x1 x2)) (co (opp co B x1 x2)) (3 * T) = -1 ∧ av co (co (opp co B x1 x2)) (co (opp co A x1 x2)) (3 * T) = -1 := by
      unfold sd at hns2
      by_cases w1 : av co (co (opp co A x1 x2)) (co (opp co B x1 x2)) (3 * T) = -1
      · by_cases w2 : av co (co (opp co B x1 x2)) (co (opp co A x1 x2)) (3 * T) = -1
        · exact ⟨w1, w2⟩
        · rw [if_pos w1, if_neg w2] at hns2; omega
      · rw [if_neg w1] at hns2; split at hns2 <;> omega
    have hN' := net_turn hN eA eB rfl rfl w hav.1 hav.2
    have hdn : dn d < 60 := by unfold dn; split <;> omega
    have hst : StA 1 A B T co su T (ct co A B x1 x2 (co (opp co A x1 x2)) (co (opp co B x1 x2))) su := Or.inr (Or.inl ⟨rfl, hAT, hBT, hne, rfl, fun c _ g1 g2 => ct_o co x1 x2 _ _ g1 g2, fun _ _ => rfl⟩)
    refine s_A_begin Hd.2.1 Hd.1 (fun cl2 bf2 af2 s1 s2 s3 hm1 => ?_)
    refine s_N_packed hN hc rfl hAT ?_
    unfold wp_N_pack
    rw [(pck_spec (p := x1) (q := co (opp co B x1 x2)) (r := co (opp co A x1 x2)) (by omega) (by omega) (by omega) (by omega) (by omega) (by omega)).1]
    refine s_A_note (d := dn d) (j := 0) rfl hdn rfl (by omega) ?_
    refine s_N_packed hN hc rfl hBT ?_
    rw [(pck_spec (p := co (opp co B x1 x2)) (q := x2) (r := co (opp co A x1 x2)) (by omega) (by omega) (by omega) (by omega) (by omega) (by omega)).1]
    refine s_A_note (d := dn d) (j := 1) rfl hdn rfl (by omega) ?_
    rw [Nat.add_zero]
    have rx : RX 1 A B co su (ct co A B x1 x2 (co (opp co A x1 x2)) (co (opp co B x1 x2))) su (up (up cl2 (2 * dn d) (A : Int)) (2 * dn d + 1) (B : Int)) (up (up bf2 (2 * dn d) (pk3 co A)) (2 * dn d + 1) (pk3 co B)) (up (up af2 (2 * dn d) (pck x1 (co (opp co B x1 x2)) (co (opp co A x1 x2)))) (2 * dn d + 1) (pck (co (opp co B x1 x2)) x2 (co (opp co A x1 x2)))) (2 * dn d) := by
      refine ⟨fun g => absurd g (by decide), fun _ => ⟨?_, up_s _ _ _, ?_, up_s _ _ _, ?_, ?_⟩, fun g => absurd g (by decide)⟩
      · rw [up_n _ _ (by omega), up_s]
      · rw [up_n _ _ (by omega), up_s]
      · rw [up_n _ _ (by omega), up_s]; unfold pk3; rw [ct_a0, ct_a1, ct_a2]
      · rw [up_s]; unfold pk3; rw [ct_b0 co hne, ct_b1 co hne, ct_b2 co hne]
    refine s_X_goForward e4 hN hN' hst rx hc hs rfl hdn rfl (by omega) (by omega) (fun nc2 ns2 ar2 q1' q2' q3' => ?_)
    refine mrun _ (fun z => absurd z w) (fun _ z => absurd z hns2) (fun _ _ => ?_)
    refine s_M_write Hd.2.2 Hd.1 (fun ma s4 w0 w1 w2 => s_M_keepThirds (o := 15 * dn d + 3) (a := A) (b := B) (by omega) (by omega) rfl (by omega) rfl (by omega) (fun ma2 k1 k2 => s_M_put (a := A) rfl (by omega) (fun mc2 m0 m1 m2 mo => s_M_put (a := B) rfl (by omega) (fun mc3 l0 l1 l2 lo' => s_M_keepThirds (o := 15 * dn d + 9) (a := A) (b := B) (by omega) (by omega) rfl (by omega) rfl (by omega) (fun ma3 i1 i2 => ⟨rfl, ?_⟩)))))
    have hct : ∀ c, c < 3 * T → mc3 c = ct co A B x1 x2 (co (opp co A x1 x2)) (co (opp co B x1 x2)) c := by
      intro c hcc
      by_cases g2 : c / 3 = B
      · have : c = 3 * B ∨ c = 3 * B + 1 ∨ c = 3 * B + 2 := by omega
        rcases this with v | v | v
        · subst v; rw [ct_b0 co hne]; exact l0
        · subst v; rw [ct_b1 co hne]; exact l1
        · subst v; rw [ct_b2 co hne]; exact l2
      · rw [lo' c g2]
        by_cases g1 : c / 3 = A
        · have : c = 3 * A ∨ c = 3 * A + 1 ∨ c = 3 * A + 2 := by omega
          rcases this with v | v | v
          · subst v; rw [ct_a0]; exact m0
          · subst v; rw [ct_a1]; exact m1
          · subst v; rw [ct_a2]; exact m2
        · rw [mo c g1, mc c hcc, ct_o co x1 x2 _ _ g1 g2]
    refine ⟨n, dn d + 1, dn d + 1, T, ct co A B x1 x2 (co (opp co A x1 x2)) (co (opp co B x1 x2)), su, N, L, ⟨hN', hS, hr, e1, e2, e3, rfl, q1', q2', q3', Or.inl rfl, hb⟩, ⟨f1, f2, f3, f4, hct, msu, Or.inl rfl⟩, hist_new hH hN' hS ?_ ?_ ?_ ?_ ⟨1, A, B, hst, rx, ?_⟩ rfl rfl rfl rfl⟩
    · intro i hi; rw [up_n _ _ (by omega), up_n _ _ (by omega)]; exact s1 i hi
    · intro i hi; rw [up_n _ _ (by omega), up_n _ _ (by omega)]; exact s2 i hi
    · intro i hi; rw [up_n _ _ (by omega), up_n _ _ (by omega)]; exact s3 i hi
    · intro i hi; rw [i2 i (by omega), k2 i (by omega)]; exact s4 i hi
    · refine ⟨?_, ?_, ?_, fun _ j hj => ?_, fun _ j hj => ?_, fun g => absurd g (by decide)⟩
      · rw [i2 _ (by omega), k2 _ (by omega)]; exact w0
      · rw [i2 _ (by omega), k2 _ (by omega)]; exact w1
      · rw [i2 _ (by omega), k2 _ (by omega)]; exact w2
      · have := k1 j hj
        rw [show 15 * dn d + 3 + 3 + j = 15 * dn d + 6 + j by omega] at this
        rw [i2 _ (by omega), i2 _ (by omega), this.1, this.2, mc _ (by omega), mc _ (by omega)]
        exact ⟨rfl, rfl⟩
      · have := i1 j hj
        rw [show 15 * dn d + 9 + 3 + j = 15 * dn d + 12 + j by omega] at this
        rw [this.1, this.2, hct _ (by omega), hct _ (by omega)]
        exact ⟨rfl, rfl⟩
  · unfold wp_M_turn
    exact s_M_arePair f1 hle.2.1 hx1 hx2 (fun p1 p2 q1 q2 ne => ⟨jR01_1, fun g => absurd g (by decide), fun _ => s_M_sideOf hN f2 mc hx1 hx2 ⟨⟨by omega, by omega⟩, fun _ => ⟨rfl, h'⟩, fun w => absurd ⟨p1, p2, q1, q2, ne, by omega⟩ g⟩⟩) (fun _ => ⟨jR01_0, fun _ => ⟨rfl, h'⟩, fun g => absurd rfl g⟩)
end

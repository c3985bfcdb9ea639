/-! the reference: filling -/
theorem s_M_clearWays {mQueued : Int} {mBefore : Nat → Int} {Q : Int → (Nat → Int) → Prop} (hQ : ∀ b : Nat → Int, (∀ v, v < 21 → b v = -2) → Q 0 b) : wp_M_clearWays mQueued mBefore Q := by
  unfold wp_M_clearWays
  refine lp2 (wp_M_clearWays_7 Q 0) (fun x1 b => ∃ k : Nat, k ≤ 21 ∧ x1 = k ∧ ∀ v, v < k → b v = -2) (fun x1 _ => (21 - x1).toNat) ?_ _ _ ⟨0, by omega, rfl, fun v h => by omega⟩
  rintro f x1 b ⟨k, hk, rfl, h1⟩ ih
  show wp_M_clearWays_7_b _ _ _ _ _
  unfold wp_M_clearWays_7_b
  refine ⟨jR_n (by omega), fun h => ?_, fun h => ⟨⟨by omega, by omega⟩, fun b2 e2 => ih _ _ ⟨k + 1, by omega, by omega, fun v hv => ?_⟩ (by omega)⟩⟩
  · have e : k = 21 := by omega
    subst e; exact hQ b h1
  · rw [e2, Int.toNat_natCast, up_at]
    split
    · rfl
    · exact h1 v (by omega)
theorem BM_0 {fo T n : Nat} {jn : Prop} {co su be bef via queue : Nat → Int} {src : Int → Prop} (h : ∀ v, v < 21 → bef v = -2) : BM fo T n jn co su be src bef via queue 0 := by
  refine ⟨?_, fun i hi => by omega, fun v hv hne => absurd (h v hv) hne, fun i j hi => by omega, fun i hi => by omega, fun v hv => by rw [h v hv]; omega⟩
  unfold cm
  rw [sm_zero]
  · rfl
  · intro i hi; rw [if_pos (h i hi)]
/-- what filling keeps: what corners have beyond m, what thirds have left, what told posts lack -/
def FI (n T : Nat) (co su : Nat → Int) (N m : Int) (be sp la : Nat → Int) : Prop := (∀ c, c < 3 * T → 0 ≤ be c) ∧ (∀ k, k < T → S3 be k + sp k = N - 3 * m ∧ 0 ≤ sp k) ∧ ∀ p : Nat, p < n → (su p ≠ -1 → PS T (plf co su) be p + la p = su p - m * cAt co (3 * T) p ∧ 0 ≤ la p) ∧ (su p = -1 → la p = 0)
theorem FI_hi {n T : Nat} {co su : Nat → Int} {N m : Int} {be sp la : Nat → Int} (h : FI n T co su N m be sp la) : ∀ c, c < 3 * T → be c ≤ N - 3 * m := by
  intro c hc
  have a := h.2.1 (c / 3) (by omega)
  have a1 := a.1
  unfold S3 at a1
  have b0 := h.1 (3 * (c / 3)) (by omega)
  have b1 := h.1 (3 * (c / 3) + 1) (by omega)
  have b2 := h.1 (3 * (c / 3) + 2) (by omega)
  have h : c = 3 * (c / 3) ∨ c = 3 * (c / 3) + 1 ∨ c = 3 * (c / 3) + 2 := by omega
  rcases h with h | h | h <;> rw [h] <;> omega
/-- does a post want (told: it lacks; else: it is not told) -/
def Wants (su la : Nat → Int) (tl : Prop) (p : Nat) : Prop := (tl ∧ su p ≠ -1 ∧ 0 < la p) ∨ (¬ tl ∧ su p = -1)
theorem s_M_wanting {x1 mPosts : Int} {mSum mLack bef : Nat → Int} {Q : Int → Prop} {n : Nat} {su : Nat → Int} {tl : Prop} (hn : mPosts = n) (h9 : n ≤ 9) (hs : ∀ p, p < 9 → mSum p = ms su p) (hS : SuOK su) (hx : (x1 = 0 ∧ ¬ tl) ∨ (x1 = 1 ∧ tl)) (hl : ∀ p, p < n → jR (mLack p)) (hb : ∀ v, v < 21 → jR (bef v))
    (h1 : ∀ p : Nat, p < n → Wants su mLack tl p → bef (12 + p) ≠ -2 → Q p) (h0 : (∀ p : Nat, p < n → Wants su mLack tl p → bef (12 + p) = -2) → Q (-6)) : wp_M_wanting x1 mPosts mSum mLack bef Q := by
  subst hn
  unfold wp_M_wanting
  have hx1 : jR x1 := by rcases hx with ⟨h, -⟩ | ⟨h, -⟩ <;> rw [h] <;> (unfold jR; decide)
  refine lp1 (wp_M_wanting_2 Q n mSum mLack bef x1) (fun x2 => ∃ k : Nat, k ≤ n ∧ x2 = k ∧ ∀ p, p < k → Wants su mLack tl p → bef (12 + p) = -2) (fun x2 => (n - x2).toNat) ?_ _ ⟨0, by omega, rfl, fun p h => by omega⟩
  rintro f x2 ⟨k, hk, rfl, hp⟩ ih
  show wp_M_wanting_2_b _ _ _ _ _ _ _ _
  unfold wp_M_wanting_2_b
  refine ⟨jR_n (by omega), jR_n (by omega), fun h => ?_, fun h => ?_⟩
  · have e : k = n := by omega
    subst e; exact h0 hp
  · have hms : jR (ms su k) := by have := hS k (by omega); unfold ms jR; split <;> omega
    have m1 : ms su k = -6 ↔ su k = -1 := by have := hS k (by omega); unfold ms; split <;> omega
    have yes : Wants su mLack tl k → wp_M_wanting_58 (wp_M_wanting_2 Q n mSum mLack bef x1 f) Q n mSum mLack bef x1 k 1 := by
      intro hw
      unfold wp_M_wanting_58
      rw [show ((12 : Int) + (k : Int)).toNat = 12 + k by omega]
      refine ⟨jR01_1, fun h => absurd h (by decide), fun _ => ⟨⟨by omega, by omega⟩, hb _ (by omega), fun g => ih _ ⟨k + 1, by omega, by omega, fun p hp2 hw2 => ?_⟩ (by omega), fun g => h1 k (by omega) hw g⟩⟩
      by_cases hpk : p = k
      · subst hpk; exact g
      · exact hp p (by omega) hw2
    have no : ¬ Wants su mLack tl k → wp_M_wanting_58 (wp_M_wanting_2 Q n mSum mLack bef x1 f) Q n mSum mLack bef x1 k 0 := by
      intro hw
      unfold wp_M_wanting_58
      refine ⟨jR01_0, fun _ => ih _ ⟨k + 1, by omega, by omega, fun p hp2 hw2 => ?_⟩ (by omega), fun h => absurd rfl h⟩
      by_cases hpk : p = k
      · subst hpk; exact absurd hw2 hw
      · exact hp p (by omega) hw2
    rw [Int.toNat_natCast, hs k (by omega)]
    refine ⟨hx1, fun g => ?_, fun g => ?_⟩
    · have htl : ¬ tl := by rcases hx with ⟨-, h⟩ | ⟨h, -⟩; exact h; omega
      exact ⟨⟨by omega, by omega⟩, hms, fun g2 => yes (Or.inr ⟨htl, m1.mp g2⟩), fun g2 => no (fun q => by rcases q with q | q; exact htl q.1; exact g2 (m1.mpr q.2))⟩
    · have htl : tl := by rcases hx with ⟨h, -⟩ | ⟨-, h⟩; exact absurd h g; exact h
      exact ⟨⟨by omega, by omega⟩, hms, fun g2 => no (fun q => by rcases q with q | q; exact q.2.1 (m1.mp g2); exact q.1 htl), fun g2 => ⟨hl k (by omega), fun g3 => no (fun q => by rcases q with q | q; omega; exact q.1 htl), fun g3 => yes (Or.inl ⟨htl, fun q => g2 (m1.mpr q), by omega⟩)⟩⟩
theorem s_M_fill {n T : Nat} {co su : Nat → Int} {N m x1 mPosts mThirds mQueued : Int} {mCorner mSum be0 sp0 la0 bef0 via0 queue0 : Nat → Int} {tl : Prop} {Q : Int → (Nat → Int) → (Nat → Int) → (Nat → Int) → (Nat → Int) → (Nat → Int) → (Nat → Int) → Prop} (hN : NetOK n T co) (hn : mPosts = n) (hT : mThirds = T) (hc : ∀ c, c < 3 * T → mCorner c = co c) (hs : ∀ p, p < 9 → mSum p = ms su p) (hS : SuOK su) (hm : 0 ≤ m) (hmN : 3 * m ≤ N) (h360 : N ≤ 360) (hx : (x1 = 0 ∧ ¬ tl) ∨ (x1 = 1 ∧ tl)) (hla : ∀ p, p < n → la0 p ≤ 4000) (hF : FI n T co su N m be0 sp0 la0)
    (hQ : ∀ (qd : Int) (be sp la bef via queue : Nat → Int), FI n T co su N m be sp la → (tl → PS T (plf co su) be 9 = PS T (plf co su) be0 9) → (¬ tl → ∀ p, p < n → la p = la0 p) → (∀ p, p < n → la p ≤ 4000) → (∃ R : Int → Prop, CloM 0 (3 * T) n False co su be R ∧ (∀ k : Nat, k < T → 0 < sp k → R k) ∧ ∀ p : Nat, p < n → Wants su la tl p → ¬ R (12 + p)) → Q qd be sp la bef via queue) : wp_M_fill x1 mPosts mThirds mQueued mCorner mSum be0 sp0 la0 bef0 via0 queue0 Q := by
  have hle := hN.le
  subst hn; subst hT
  unfold wp_M_fill
  have hx1 : jR x1 := by rcases hx with ⟨h, -⟩ | ⟨h, -⟩ <;> rw [h] <;> (unfold jR; decide)
  refine lp8 (wp_M_fill_2 Q n T mCorner mSum x1) (fun x2 _ be sp la _ _ _ => (x2 = 0 ∨ x2 = 1) ∧ FI n T co su N m be sp la ∧ (tl → PS T (plf co su) be 9 = PS T (plf co su) be0 9) ∧ (¬ tl → ∀ p, p < n → la p = la0 p) ∧ (∀ p, p < n → la p ≤ 4000) ∧ (x2 = 0 → ∃ R : Int → Prop, CloM 0 (3 * T) n False co su be R ∧ (∀ k : Nat, k < T → 0 < sp k → R k) ∧ ∀ p : Nat, p < n → Wants su la tl p → ¬ R (12 + p))) (fun x2 _ _ sp _ _ _ _ => (2 * sm T sp + x2).toNat) ?_ _ _ _ _ _ _ _ _ ⟨Or.inr rfl, hF, fun _ => rfl, fun _ _ _ => rfl, hla, fun h => absurd h (by decide)⟩
  rintro f x2 qd be sp la bef via queue ⟨b1, b2, b3, b4, b5, b7⟩ ih
  show wp_M_fill_2_b _ _ _ _ _ _ _ _ _ _ _ _ _ _ _
  unfold wp_M_fill_2_b
  have hbh := FI_hi b2
  have b6 : ∀ k, k < T → jR (sp k) := by
    intro k hk
    have a := b2.2.1 k hk
    have c0 := b2.1 (3 * k) (by omega)
    have c1 := b2.1 (3 * k + 1) (by omega)
    have c2 := b2.1 (3 * k + 2) (by omega)
    unfold S3 at a
    exact ⟨by omega, by omega⟩
  have hspn : 0 ≤ sm T sp := sm_nonneg (fun k hk => (b2.2.1 k hk).2)
  refine ⟨by rcases b1 with h | h <;> rw [h] <;> (unfold jR; decide), fun h => hQ _ _ _ _ _ _ _ b2 b3 b4 b5 (b7 h), fun h => ?_⟩
  have hx2 : x2 = 1 := by omega
  subst hx2
  refine s_M_clearWays (fun bc hbc => ?_)
  -- the starts
  refine lp5 (wp_M_fill_12 (wp_M_fill_2 Q n T mCorner mSum x1 f) Q n T mCorner mSum x1 be sp la) (fun x3 mq b v q => ∃ k qn : Nat, x3 = k ∧ mq = qn ∧ k ≤ T ∧ BM 0 T n False co su be (fun v => ∃ k : Nat, v = k ∧ k < T ∧ 0 < sp k) b v q qn ∧ ∀ k' : Nat, k' < k → 0 < sp k' → b k' ≠ -2) (fun x3 _ _ _ _ => (T - x3).toNat) ?_ _ _ _ _ _ ⟨0, 0, rfl, rfl, by omega, BM_0 hbc, fun k' h => by omega⟩
  rintro f2 x3 mq b v q ⟨k, qn, rfl, rfl, hk, hB, hst⟩ ih2
  show wp_M_fill_12_b _ _ _ _ _ _ _ _ _ _ _ _ _ _ _ _
  unfold wp_M_fill_12_b
  have hsrc : ∀ v : Int, (∃ k : Nat, v = k ∧ k < T ∧ 0 < sp k) → v < 12 := by rintro v ⟨k, rfl, h, -⟩; omega
  have hsrcT : ∀ v : Int, (∃ k : Nat, v = k ∧ k < T ∧ 0 < sp k) → v < T := by rintro v ⟨k, rfl, h, -⟩; omega
  refine ⟨jR_n (by omega), jR_n (by omega), fun g => ?_, fun g => ⟨⟨by omega, by omega⟩, ?_⟩⟩
  · have ek : k = T := by omega
    subst ek
    refine s_M_spread hN rfl rfl hc hs hS (fun c hcc => ⟨by have := b2.1 c hcc; omega, by have := hbh c hcc; omega⟩) (Nat.zero_le _) rfl (Or.inl ⟨rfl, fun h => h⟩) hsrc hB rfl (fun b2' v2 q2 qn2 hB2 hX2 hclo => ?_)
    refine s_M_wanting rfl hle.2.1 hs hS hx (fun p hp => ?_) (fun w hw => ?_) (fun p hp hw hb2 => ?_) (fun hno => ?_)
    · have h1 := b2.2.2 p hp
      have h2 := b5 p hp
      by_cases hsp : su p = -1
      · rw [h1.2 hsp]; unfold jR; decide
      · have := (h1.1 hsp).2; exact ⟨by omega, by omega⟩
    · have := hB2.2.2.2.2.2 w hw; exact ⟨by omega, by omega⟩
    · -- a way to p
      refine ⟨jR_n (by omega), fun h => by omega, fun _ => ?_⟩
      obtain ⟨ig, hig, hgo⟩ := hB2.2.2.1 (12 + p) (by omega) hb2
      have hgo : q2 ig = 12 + (p : Int) := by rw [hgo]; omega
      have lp : 0 ≤ la p ∧ la p ≤ 4000 := by
        have h1 := b2.2.2 p hp
        refine ⟨?_, b5 p hp⟩
        by_cases hsp : su p = -1
        · rw [h1.2 hsp]; decide
        · exact (h1.1 hsp).2
      have go : ∀ t2 : Int, 1 ≤ t2 → t2 ≤ 4000 → (tl → t2 ≤ la p) → wp_M_fill_89 (wp_M_fill_2 Q n k mCorner mSum x1 f) Q n k mCorner mSum x1 1 p (12 + (p : Int)) t2 qn2 be sp la b2' v2 q2 := by
        intro t2 t21 t22 t23
        unfold wp_M_fill_89
        refine s_M_wayRoom hN hB2 hsrcT (fun c hcc => ⟨b2.1 c hcc, by have := hbh c hcc; omega⟩) b6 hig hgo t21 (by omega) (fun a V a1 a2 hVg hW hsa => ?_)
        refine s_M_goWay hN hB2 hsrc b2.1 hig hgo (by omega) hVg a1 hW (fun j be2 hj hVj hbj hsrcj hP => ?_)
        obtain ⟨k0, hk0, hk1, hk2⟩ := hsrcj
        have hsa2 := hsa j hVj hbj (by rw [hk0, Int.toNat_natCast]; exact hk2)
        rw [hk0, Int.toNat_natCast] at hsa2
        rw [hk0, Int.toNat_natCast]
        rw [hk0] at hP
        obtain ⟨P1, P2, P3, P4⟩ := hP
        refine ⟨⟨by omega, by omega⟩, fun sp2 es => ⟨⟨by omega, by omega⟩, hx1, fun g3 la2 el => ?_, fun g3 la2 el => ?_⟩⟩
        · -- not told
          have htl : ¬ tl := by rcases hx with ⟨-, h⟩ | ⟨h, -⟩; exact h; omega
          have hsu : su p = -1 := by rcases hw with q | q; exact absurd q.1 htl; exact q.2
          have hphi : phi su (12 + (p : Int)) = 9 := by unfold phi; rw [if_neg (by omega), show ((12 : Int) + (p : Int) - 12).toNat = p by omega, if_pos hsu]
          have hla2 : ∀ x, la2 x = la x := by
            intro x; rw [el, Int.toNat_natCast, up_at]; split
            · rename_i hx; rw [hx]; omega
            · rfl
          refine ih _ _ _ _ _ _ _ _ ⟨Or.inr rfl, ⟨P1, fun j hj => ?_, fun x hx => ?_⟩, fun h => absurd h htl, fun _ x hx => (hla2 x).trans (b4 htl x hx), fun x hx => by rw [hla2]; exact b5 x hx, fun h => absurd h (by decide)⟩ ?_
          · rw [P2 j hj, es, up_at]
            have := b2.2.1 j hj
            by_cases hjk : j = k0
            · subst hjk; rw [if_pos rfl, if_pos rfl]; omega
            · rw [if_neg (by omega), if_neg hjk]; omega
          · rw [hla2]
            refine ⟨fun hsx => ?_, fun hsx => (b2.2.2 x hx).2 hsx⟩
            rw [P3 x (by omega) (by omega), hphi, if_neg (by omega)]
            have := (b2.2.2 x hx).1 hsx; omega
          · rw [es, sm_up _ _ hk1]; omega
        · -- told
          have htl : tl := by rcases hx with ⟨h, -⟩ | ⟨-, h⟩; exact absurd h g3; exact h
          have hsu : su p ≠ -1 := by rcases hw with q | q; exact q.2.1; exact absurd htl q.1
          have hphi : phi su (12 + (p : Int)) = p := by unfold phi; rw [if_neg (by omega), show ((12 : Int) + (p : Int) - 12).toNat = p by omega, if_neg hsu]; omega
          have ht := t23 htl
          have hla2 : ∀ x, la2 x = if x = p then la p - a else la x := by
            intro x; rw [el, Int.toNat_natCast, up_at]
          refine ih _ _ _ _ _ _ _ _ ⟨Or.inr rfl, ⟨P1, fun j hj => ?_, fun x hx => ?_⟩, fun h => ?_, fun h => absurd htl h, fun x hx => ?_, fun h => absurd h (by decide)⟩ ?_
          · rw [P2 j hj, es, up_at]
            have := b2.2.1 j hj
            by_cases hjk : j = k0
            · subst hjk; rw [if_pos rfl, if_pos rfl]; omega
            · rw [if_neg (by omega), if_neg hjk]; omega
          · rw [hla2]
            refine ⟨fun hsx => ?_, fun hsx => ?_⟩
            · rw [P3 x (by omega) (by omega), hphi]
              have := (b2.2.2 x hx).1 hsx
              by_cases hxp : x = p
              · subst hxp; rw [if_pos rfl, if_pos rfl]; omega
              · rw [if_neg (by omega), if_neg hxp]; omega
            · have hxp : x ≠ p := fun e => by subst e; exact hsu hsx
              rw [if_neg hxp]; exact (b2.2.2 x hx).2 hsx
          · rw [P3 9 (by omega) (by omega), hphi, if_neg (by omega), ← b3 h]; omega
          · rw [hla2]; have := b5 x hx; split <;> omega
          · rw [es, sm_up _ _ hk1]; omega
      unfold wp_M_fill_63
      rw [Int.toNat_natCast]
      refine ⟨jR01_1, fun h => absurd h (by decide), fun _ => ⟨hx1, fun g3 => go 4000 (by omega) (by omega) (fun h => by rcases hx with ⟨-, q⟩ | ⟨q, -⟩; exact absurd h q; omega), fun g3 => ⟨⟨by omega, by omega⟩, go (la p) ?_ lp.2 (fun _ => Int.le_refl _)⟩⟩⟩
      have htl : tl := by rcases hx with ⟨h, -⟩ | ⟨-, h⟩; exact absurd h g3; exact h
      rcases hw with q | q
      · omega
      · exact absurd htl q.1
    · refine ⟨by unfold jR; decide, fun _ => ?_, fun h => absurd (by decide) h⟩
      unfold wp_M_fill_63
      refine ⟨jR01_0, fun _ => ih _ _ _ _ _ _ _ _ ⟨Or.inl rfl, b2, b3, b4, b5, fun _ => ⟨_, hclo, fun j hj hpos => ?_, fun p hp hw hR => ?_⟩⟩ (by omega), fun h => absurd rfl h⟩
      · exact ⟨by omega, by rw [Int.toNat_natCast]; exact hX2.2.2 j (hst j (by omega) hpos)⟩
      · have := hR.2
        rw [show ((12 : Int) + (p : Int)).toNat = 12 + p by omega] at this
        exact this (hno p hp hw)
  · rw [Int.toNat_natCast]
    refine ⟨b6 k (by omega), fun g2 => ih2 _ _ _ _ _ ⟨k + 1, qn, by omega, rfl, by omega, hB, fun k' hk' hpos => ?_⟩ (by omega), fun g2 => ?_⟩
    · by_cases hkk : k' = k
      · subst hkk; omega
      · exact hst k' (by omega) hpos
    · refine s_M_come hB rfl (by omega) (by omega) (Or.inl ⟨rfl, k, rfl, by omega, by omega⟩) (fun b4' v4 q4 qn4 hB4 hX4 hb4 => ih2 _ _ _ _ _ ⟨k + 1, qn4, by omega, rfl, by omega, hB4, fun k' hk' hpos => ?_⟩ (by omega))
      by_cases hkk : k' = k
      · subst hkk; rw [Int.toNat_natCast] at hb4; exact hb4
      · exact hX4.2.2 k' (hst k' (by omega) hpos)

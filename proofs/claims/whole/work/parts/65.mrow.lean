/-! the reference: lowering corner by corner; the row -/
theorem PS_addc (T : Nat) (pl f : Nat → Int) (m p : Int) : PS T pl (fun d => m + f d) p = PS T pl (fun _ => m) p + PS T pl f p := by
  unfold PS
  rw [← sm_add]
  exact sm_congr (fun c _ => by dsimp only; split <;> omega)
theorem S3_addc (f : Nat → Int) (m : Int) (k : Nat) : S3 (fun d => m + f d) k = 3 * m + S3 f k := by
  unfold S3; dsimp only; omega
theorem s_M_lower {n T c : Nat} {co su : Nat → Int} {x1 mPosts mThirds N m mQueued : Int} {mCorner mSum be0 sp bef0 via0 queue0 : Nat → Int} {Q : Int → (Nat → Int) → (Nat → Int) → (Nat → Int) → (Nat → Int) → Prop} (hN : NetOK n T co) (hn : mPosts = n) (hT : mThirds = T) (hc : ∀ c, c < 3 * T → mCorner c = co c) (hs : ∀ p, p < 9 → mSum p = ms su p) (hS : SuOK su) (hm : 0 ≤ m) (h360 : N ≤ 360) (hcT : c < 3 * T) (e1 : x1 = c) (hsp : ∀ k, k < T → sp k = 0) (hG : IsGiv n T co su N m (fun d => m + be0 d))
    (hQ : ∀ (qd : Int) (be bef via queue : Nat → Int), IsGiv n T co su N m (fun d => m + be d) → (∀ d, d < c → be d = be0 d) → (∀ g, IsGiv n T co su N m g → (∀ d, d < c → g d = m + be d) → m + be c ≤ g c) → Q qd be bef via queue) : wp_M_lower x1 mPosts mThirds mQueued mCorner mSum be0 sp bef0 via0 queue0 Q := by
  have hle := hN.le
  subst hn; subst hT; subst e1
  unfold wp_M_lower
  have hb0 : ∀ (be : Nat → Int), IsGiv n T co su N m (fun d => m + be d) → ∀ d, d < 3 * T → 0 ≤ be d ∧ be d ≤ 360 := by
    intro be hg d hd
    have a : m ≤ m + be d := hg.1 d hd
    have b := S3_hi hg.1 hg.2.1 hm d hd
    have b : m + be d ≤ N := b
    omega
  have hcc := hN.co9 hcT
  have hcn := hN.co hcT
  have hloop : ∀ x2 : Int, ((x2 = 0 ∧ be0 c ≤ 0) ∨ (x2 = 1 ∧ 0 < be0 c)) → ∃ k : Nat, wp_M_lower_15 Q n T mCorner mSum sp c k x2 mQueued be0 bef0 via0 queue0 := by
    intro x2 hx2
    refine lp6 (wp_M_lower_15 Q n T mCorner mSum sp c) (fun x2 _ be _ _ _ => (x2 = 0 ∨ x2 = 1) ∧ IsGiv n T co su N m (fun d => m + be d) ∧ (∀ d, d < c → be d = be0 d) ∧ (x2 = 1 → 0 < be c) ∧ (x2 = 0 → ∀ g, IsGiv n T co su N m g → (∀ d, d < c → g d = m + be d) → m + be c ≤ g c)) (fun x2 _ be _ _ _ => (2 * be c + x2).toNat) ?_ _ _ _ _ _ _ ⟨by omega, hG, fun _ _ => rfl, fun _ => by omega, fun h g hg _ => by have := hg.1 c hcT; omega⟩
    rintro f x2 qd be bef via queue ⟨b1, b2, b3, b4, b5⟩ ih
    show wp_M_lower_15_b _ _ _ _ _ _ _ _ _ _ _ _ _ _
    unfold wp_M_lower_15_b
    have hbr := hb0 be b2
    refine ⟨by rcases b1 with h | h <;> rw [h] <;> (unfold jR; decide), fun h => hQ _ _ _ _ _ b2 b3 (b5 h), fun h => ?_⟩
    have hx2 : x2 = 1 := by omega
    subst hx2
    have hpos := b4 rfl
    have ej : (jdiv (c : Int) 3) = ((c / 3 : Nat) : Int) := by rw [jdiv_n (by omega) (by omega) (by omega) (by omega)]; omega
    rw [ej, Int.toNat_natCast, hc c hcT]
    refine s_M_clearWays (fun bc hbc => ?_)
    have hB0 : BM (c + 1) T n True co su be (fun v => v = ((c / 3 : Nat) : Int)) bc via queue 0 := BM_0 hbc
    refine s_M_come hB0 rfl (by omega) (by omega) (Or.inl ⟨rfl, rfl⟩) (fun b1' v1 q1 qn1 hB1 hX1 hs1 => ?_)
    refine s_M_spread hN rfl rfl hc hs hS (fun d hd => ⟨by have := hbr d hd; omega, by have := hbr d hd; omega⟩) (by omega) (by omega) (Or.inr ⟨rfl, trivial⟩) (fun v hv => by omega) hB1 rfl (fun b2' v2 q2 qn2 hB2 hX2 hclo => ?_)
    have hbr2 := hB2.2.2.2.2.2 (12 + co c).toNat (by omega)
    refine ⟨⟨by omega, by omega⟩, ⟨by omega, by omega⟩, ⟨by omega, by omega⟩, fun g => ?_, fun g => ?_⟩
    · unfold wp_M_lower_66
      refine ⟨jR01_0, fun _ => ih _ _ _ _ _ _ ⟨Or.inl rfl, b2, b3, fun h => absurd h (by decide), fun _ => ?_⟩ (by omega), fun h => absurd rfl h⟩
      have hstart : b2' (c / 3) ≠ -2 := by rw [Int.toNat_natCast] at hs1; exact hX2.2.2 _ hs1
      refine least_of hN b2 hcT (R := fun x => (10 ≤ x ∧ b2' (x - 10).toNat ≠ -2) ∨ (0 ≤ x ∧ x < 9 ∧ b2' (12 + x).toNat ≠ -2) ∨ (x = 9 ∧ ∃ p : Nat, p < n ∧ su p = -1 ∧ b2' (12 + p) ≠ -2)) ?_ (Or.inl ⟨by omega, by rw [show ((10 : Int) + ((c / 3 : Nat) : Int) - 10).toNat = c / 3 by omega]; exact hstart⟩) ?_
      · intro d u v hE hu
        obtain ⟨d1, d2, d3⟩ := hE
        have hdc := hN.co9 d2
        have hdn := hN.co d2
        -- a place that is reached: its post is
        have toPost : ((10 ≤ plf co su d ∧ b2' (plf co su d - 10).toNat ≠ -2) ∨ (0 ≤ plf co su d ∧ plf co su d < 9 ∧ b2' (12 + plf co su d).toNat ≠ -2) ∨ (plf co su d = 9 ∧ ∃ p : Nat, p < n ∧ su p = -1 ∧ b2' (12 + p) ≠ -2)) → (0 ≤ (12 + co d) ∧ b2' (12 + co d).toNat ≠ -2) := by
          intro hh
          unfold plf at hh
          by_cases hsd : su (co d).toNat = -1
          · rw [if_pos hsd] at hh
            rcases hh with hh | hh | ⟨-, p, p1, p2, p3⟩
            · omega
            · omega
            · exact hclo (-1) (12 + (p : Int)) (12 + co d) (Or.inr ⟨trivial, rfl, p, (co d).toNat, p1, by omega, p2, hsd, rfl, by omega⟩) ⟨by omega, by rw [show ((12 : Int) + (p : Int)).toNat = 12 + p by omega]; exact p3⟩
          · rw [if_neg hsd] at hh
            rcases hh with hh | hh | hh
            · omega
            · exact ⟨by omega, hh.2.2⟩
            · omega
        rcases d3 with ⟨e1, e2, e3⟩ | ⟨e1, e2⟩
        · rw [e1] at hu
          have hp := toPost hu
          have h3 := hclo (d : Int) (12 + co d) ((d / 3 : Nat) : Int) (Or.inl ⟨d, rfl, d1, d2, Or.inr ⟨rfl, rfl, by have e3 : m < m + be d := e3; omega⟩⟩) hp
          rw [e2]
          exact Or.inl ⟨by omega, by rw [show ((10 : Int) + ((d / 3 : Nat) : Int) - 10) = ((d / 3 : Nat) : Int) by omega]; exact h3.2⟩
        · rw [e1] at hu
          have h0 : b2' ((d / 3 : Nat) : Int).toNat ≠ -2 := by
            rcases hu with hu | hu | hu
            · have := hu.2; rw [show ((10 : Int) + ((d / 3 : Nat) : Int) - 10) = ((d / 3 : Nat) : Int) by omega] at this; exact this
            · omega
            · omega
          have h3 := hclo (d : Int) ((d / 3 : Nat) : Int) (12 + co d) (Or.inl ⟨d, rfl, d1, d2, Or.inl ⟨rfl, rfl⟩⟩) ⟨by omega, h0⟩
          rw [e2]
          unfold plf
          by_cases hsd : su (co d).toNat = -1
          · rw [if_pos hsd]
            exact Or.inr (Or.inr ⟨rfl, (co d).toNat, by omega, hsd, by have := h3.2; rw [show ((12 : Int) + co d).toNat = 12 + (co d).toNat by omega] at this; exact this⟩)
          · rw [if_neg hsd]
            exact Or.inr (Or.inl ⟨by omega, by omega, h3.2⟩)
      · intro hh
        unfold plf at hh
        by_cases hsd : su (co c).toNat = -1
        · rw [if_pos hsd] at hh
          rcases hh with hh | hh | ⟨-, p, p1, p2, p3⟩
          · omega
          · omega
          · have := hclo (-1) (12 + (p : Int)) (12 + co c) (Or.inr ⟨trivial, rfl, p, (co c).toNat, p1, by omega, p2, hsd, rfl, by omega⟩) ⟨by omega, by rw [show ((12 : Int) + (p : Int)).toNat = 12 + p by omega]; exact p3⟩
            exact this.2 g
        · rw [if_neg hsd] at hh
          rcases hh with hh | hh | hh
          · omega
          · exact hh.2.2 g
          · omega
    · unfold wp_M_lower_66
      rw [Int.toNat_natCast]
      refine ⟨jR01_1, fun h => absurd h (by decide), fun _ => ⟨⟨by omega, by omega⟩, ?_⟩⟩
      obtain ⟨ig, hig, hgo⟩ := hB2.2.2.1 (12 + co c).toNat (by omega) g
      have hgo : q2 ig = 12 + co c := by rw [hgo]; omega
      have hbc := hbr c hcT
      refine s_M_wayRoom hN hB2 (fun v hv => by omega) (fun d hd => ⟨(hbr d hd).1, by have := hbr d hd; omega⟩) (fun k hk => by rw [hsp k hk]; unfold jR; decide) hig hgo (by omega) (by omega) (fun a V a1 a2 hVg hW _ => ?_)
      refine s_M_goWay hN hB2 (fun v hv => by omega) (fun d hd => (hbr d hd).1) hig hgo (by omega) hVg a1 hW (fun j be2 hj hVj hbj hsrcj hP => ?_)
      have hsrcj : q2 j = ((c / 3 : Nat) : Int) := hsrcj
      obtain ⟨P1, P2, P3, P4⟩ := hP
      have hb2c : be2 c = be c := P4 c (by omega)
      have hphi : phi su (12 + co c) = plf co su c := by
        unfold phi plf
        rw [if_neg (by omega), show ((12 : Int) + co c - 12) = co c by omega]
      intro be3 e3
      have hb3c : be3 c = be c - a := by rw [e3, up_s, hb2c]
      have hg3 : IsGiv n T co su N m (fun d => m + be3 d) := by
        refine giv_of hN (fun d hd => ?_) (fun k hk => ?_) (fun x hx => ?_)
        · show m ≤ m + be3 d
          rw [e3, up_at]; split
          · omega
          · have := P1 d hd; omega
        · have a0 := b2.2.1 k hk
          rw [S3_addc] at a0
          rw [S3_addc, e3, S3_up, P2 k hk, hsrcj]
          by_cases hkc : c / 3 = k
          · rw [if_pos hkc, if_pos (by omega)]; omega
          · rw [if_neg hkc, if_neg (by omega)]; omega
        · have a0 := PS_giv hN b2 x hx
          rw [PS_addc] at a0
          rw [PS_addc, e3, PS_up (plf co su) be2 hcT, P3 x (by omega) (by omega), hphi]
          by_cases hxc : plf co su c = x
          · rw [if_pos hxc, if_pos hxc.symm]; omega
          · rw [if_neg hxc, if_neg (show ¬ (x : Int) = plf co su c from fun q => hxc q.symm)]; omega
      have hb3d : ∀ d, d < c → be3 d = be0 d := by
        intro d hd
        rw [e3, up_n _ _ (by omega), P4 d (by omega)]; exact b3 d hd
      have hz5 := hB2.2.1 j hj
      refine ⟨⟨by omega, by omega⟩, fun g2 => ih _ _ _ _ _ _ ⟨Or.inl rfl, hg3, hb3d, fun h => absurd h (by decide), fun _ g' hg' _ => by have := hg'.1 c hcT; omega⟩ (by omega), fun g2 => ⟨⟨by omega, by omega⟩, fun g3 => by omega, fun _ => ih _ _ _ _ _ _ ⟨Or.inr rfl, hg3, hb3d, fun _ => by omega, fun h => absurd h (by decide)⟩ (by omega)⟩⟩
  have hbc := hb0 be0 hG c hcT
  rw [Int.toNat_natCast]
  exact ⟨⟨by omega, by omega⟩, ⟨by omega, by omega⟩, fun g => hloop 0 (Or.inl ⟨rfl, g⟩), fun g => hloop 1 (Or.inr ⟨rfl, by omega⟩)⟩
/-- what the reference keeps of the row -/
def RowM (n T : Nat) (co su : Nat → Int) (N m isLaid isGiven : Int) (be : Nat → Int) : Prop := isLaid = 0 ∨ isLaid = 1 ∧ ((isGiven = 1 ∧ IsRow n T co su N m (fun d => m + be d)) ∨ (isGiven = 0 ∧ ∀ g, ¬ IsGiv n T co su N m g))
theorem s_M_hasRow {n T : Nat} {co su : Nat → Int} {mPosts mThirds N m mIsLaid mIsGiven mQueued : Int} {mCorner mSum be0 sp0 la0 bef0 via0 queue0 : Nat → Int} {Q : Int → Int → Int → Int → (Nat → Int) → (Nat → Int) → (Nat → Int) → (Nat → Int) → (Nat → Int) → (Nat → Int) → Prop} (hN : NetOK n T co) (hn : mPosts = n) (hT : mThirds = T) (hc : ∀ c, c < 3 * T → mCorner c = co c) (hs : ∀ p, p < 9 → mSum p = ms su p) (hS : SuOK su) (hm : 0 ≤ m) (hm60 : m ≤ 1000) (hmN : 3 * m ≤ N) (h360 : N ≤ 360) (hX : RowM n T co su N m mIsLaid mIsGiven be0)
    (h1 : ∀ (qd : Int) (be sp la bef via queue : Nat → Int), IsRow n T co su N m (fun d => m + be d) → Q 1 1 1 qd be sp la bef via queue)
    (h0 : ∀ (qd : Int) (be sp la bef via queue : Nat → Int), (∀ g, ¬ IsGiv n T co su N m g) → Q 0 1 0 qd be sp la bef via queue) : wp_M_hasRow mPosts mThirds N m mIsLaid mIsGiven mQueued mCorner mSum be0 sp0 la0 bef0 via0 queue0 Q := by
  have hle := hN.le
  unfold wp_M_hasRow
  rcases hX with hX | ⟨hX, hX2⟩
  · subst hX
    refine ⟨jR01_0, fun _ => ?_, fun h => absurd rfl h⟩
    refine s_M_canWith hN hn hT hc hs hS hm hm60 hmN h360 (fun qd be sp la bef via queue hsp hbe hG => ⟨Or.inr rfl, ?_⟩) (fun qd be sp la bef via queue hno => ⟨Or.inl rfl, ?_⟩)
    · refine lp6 (wp_M_hasRow_21 Q mPosts mThirds mCorner mSum 0 1 sp la) (fun x1 _ be _ _ _ => ∃ c : Nat, c ≤ 3 * T ∧ x1 = c ∧ IsGiv n T co su N m (fun d => m + be d) ∧ ∀ d, d < c → ∀ g, IsGiv n T co su N m g → (∀ d', d' < d → g d' = m + be d') → m + be d ≤ g d) (fun x1 _ _ _ _ _ => (3 * T - x1).toNat) ?_ _ _ _ _ _ _ ⟨0, by omega, rfl, hG, fun d h => by omega⟩
      rintro f x1 qd2 be2 bef2 via2 qu2 ⟨c, hcc, rfl, b1, b2⟩ ih
      show wp_M_hasRow_21_b _ _ _ _ _ _ _ _ _ _ _ _ _ _ _ _
      unfold wp_M_hasRow_21_b
      refine ⟨jR_n (by omega), ⟨by omega, by omega⟩, fun h => ⟨Or.inr rfl, ?_⟩, fun h => ⟨jR01_1, fun h => absurd h (by decide), fun _ => ?_⟩⟩
      · have e : c = 3 * T := by omega
        subst e
        exact h1 _ _ _ _ _ _ _ ⟨b1, b2⟩
      · refine s_M_lower hN hn hT hc hs hS hm h360 (c := c) (by omega) rfl hsp b1 (fun qd3 be3 bef3 via3 qu3 d1 d2 d3 => ?_)
        refine ih _ _ _ _ _ _ ⟨c + 1, by omega, by omega, d1, fun d hd g hg hpre => ?_⟩ (by omega)
        by_cases hdc : d = c
        · subst hdc; exact d3 g hg hpre
        · rw [d2 d (by omega)]
          exact b2 d (by omega) g hg (fun d' hd' => by rw [hpre d' hd', d2 d' (by omega)])
    · refine ⟨1, ?_⟩
      show wp_M_hasRow_21_b _ _ _ _ _ _ _ _ _ _ _ _ _ _ _ _
      unfold wp_M_hasRow_21_b
      exact ⟨jR01_0, ⟨by omega, by omega⟩, fun h => ⟨Or.inl rfl, h0 _ _ _ _ _ _ _ hno⟩, fun h => ⟨jR01_0, fun _ => ⟨Or.inl rfl, h0 _ _ _ _ _ _ _ hno⟩, fun h => absurd rfl h⟩⟩
  · subst hX
    refine ⟨jR01_1, fun h => absurd h (by decide), fun _ => ?_⟩
    rcases hX2 with ⟨a, c⟩ | ⟨a, b⟩
    · subst a; exact ⟨Or.inr rfl, h1 _ _ _ _ _ _ _ c⟩
    · subst a; exact ⟨Or.inl rfl, h0 _ _ _ _ _ _ _ b⟩

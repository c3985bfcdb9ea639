theorem s_M_cornersAt {x1 mThirds : Int} {mCorner : Nat → Int} {Q : Int → Prop} {T : Nat} {co : Nat → Int} (hT : mThirds = T) (h12 : T ≤ 12) (hc : ∀ c, c < 3 * T → mCorner c = co c) (hr : ∀ c, c < 3 * T → 0 ≤ co c ∧ co c < 9) (hx : jR x1) (hQ : Q (cAt co (3 * T) x1)) : wp_M_cornersAt x1 mThirds mCorner Q := by
  subst hT
  unfold wp_M_cornersAt
  refine lp2 (wp_M_cornersAt_4 Q T mCorner x1) (fun x2 x3 => ∃ k : Nat, k ≤ 3 * T ∧ x3 = k ∧ x2 = cAt co k x1) (fun _ x3 => (3 * T - x3).toNat) ?_ 0 0 ⟨0, by omega, rfl, rfl⟩
  rintro n x2 x3 ⟨k, hk, rfl, rfl⟩ ih
  show wp_M_cornersAt_4_b _ _ _ _ _ _ _
  unfold wp_M_cornersAt_4_b
  refine ⟨jR_n (by omega), ⟨by omega, by omega⟩, fun h => ?_, fun h => ⟨⟨by omega, by omega⟩, ?_⟩⟩
  · rw [show k = 3 * T by omega]; exact hQ
  · rw [Int.toNat_natCast, hc k (by omega)]
    have h2 := hr k (by omega)
    refine ⟨⟨by omega, by omega⟩, hx, fun e => ih _ _ ⟨k + 1, by omega, by omega, ?_⟩ (by omega), fun e => ih _ _ ⟨k + 1, by omega, by omega, ?_⟩ (by omega)⟩
    · unfold cAt; rw [sm_s, if_pos e]
    · unfold cAt; rw [sm_s, if_neg e]
theorem s_M_canWith {n T : Nat} {co su : Nat → Int} {x1 mPosts mThirds N mQueued : Int} {mCorner mSum be0 sp0 la0 bef0 via0 queue0 : Nat → Int} {Q : Int → Int → (Nat → Int) → (Nat → Int) → (Nat → Int) → (Nat → Int) → (Nat → Int) → (Nat → Int) → Prop} (hN : NetOK n T co) (hn : mPosts = n) (hT : mThirds = T) (hc : ∀ c, c < 3 * T → mCorner c = co c) (hs : ∀ p, p < 9 → mSum p = ms su p) (hS : SuOK su) (hm : 0 ≤ x1) (hm60 : x1 ≤ 1000) (hmN : 3 * x1 ≤ N) (h360 : N ≤ 360)
    (h1 : ∀ (qd : Int) (be sp la bef via queue : Nat → Int), (∀ k, k < T → sp k = 0) → (∀ c, c < 3 * T → 0 ≤ be c) → IsGiv n T co su N x1 (fun c => x1 + be c) → Q 1 qd be sp la bef via queue)
    (h0 : ∀ (qd : Int) (be sp la bef via queue : Nat → Int), (∀ g, ¬ IsGiv n T co su N x1 g) → Q 0 qd be sp la bef via queue) : wp_M_canWith x1 mPosts mThirds N mQueued mCorner mSum be0 sp0 la0 bef0 via0 queue0 Q := by
  have hle := hN.le
  subst hn; subst hT
  unfold wp_M_canWith
  refine lp2 (wp_M_canWith_4 Q n T N mCorner mSum x1 1 mQueued sp0 la0 bef0 via0 queue0) (fun x3 be => ∃ k : Nat, k ≤ 36 ∧ x3 = k ∧ ∀ c, c < k → be c = 0) (fun x3 _ => (36 - x3).toNat) ?_ _ _ ⟨0, by omega, rfl, fun c h => by omega⟩
  rintro f x3 be ⟨k, hk, rfl, hbe⟩ ih
  show wp_M_canWith_4_b _ _ _ _ _ _ _ _ _ _ _ _ _ _ _ _ _
  unfold wp_M_canWith_4_b
  refine ⟨jR_n (by omega), fun h => ?_, fun h => ⟨⟨by omega, by omega⟩, fun be2 e2 => ih _ _ ⟨k + 1, by omega, by omega, fun c hcc => ?_⟩ (by omega)⟩⟩
  · -- spare
    refine lp2 (wp_M_canWith_25 Q n T N mCorner mSum x1 1 mQueued be la0 bef0 via0 queue0) (fun x3 sp => ∃ k : Nat, k ≤ T ∧ x3 = k ∧ ∀ j, j < k → sp j = N - 3 * x1) (fun x3 _ => (T - x3).toNat) ?_ _ _ ⟨0, by omega, rfl, fun c h => by omega⟩
    rintro f2 x3 sp ⟨k2, hk2, rfl, hsp⟩ ih2
    show wp_M_canWith_25_b _ _ _ _ _ _ _ _ _ _ _ _ _ _ _ _ _
    unfold wp_M_canWith_25_b
    refine ⟨jR_n (by omega), jR_n (by omega), fun g => ?_, fun g => ⟨⟨by omega, by omega⟩, fun sp2 e2 => ih2 _ _ ⟨k2 + 1, by omega, by omega, fun j hj => ?_⟩ (by omega)⟩⟩
    · have ek2 : k2 = T := by omega
      subst ek2
      -- lack
      refine lp3 (wp_M_canWith_55 Q n k2 mCorner mSum x1 mQueued be sp bef0 via0 queue0) (fun x2 x3 la => ∃ p : Nat, p ≤ n ∧ x3 = p ∧ (∀ j, j < p → la j = if su j = -1 then 0 else su j - x1 * cAt co (3 * k2) j) ∧ ((x2 = 1 ∧ ∀ j, j < p → 0 ≤ la j) ∨ (x2 = 0 ∧ ∃ j, j < p ∧ la j < 0))) (fun _ x3 _ => (n - x3).toNat) ?_ _ _ _ ⟨0, by omega, rfl, fun j h => by omega, Or.inl ⟨rfl, fun j h => by omega⟩⟩
      rintro f3 x2 x3 la ⟨p, hp, rfl, hla, hx2⟩ ih3
      show wp_M_canWith_55_b _ _ _ _ _ _ _ _ _ _ _ _ _ _ _ _
      unfold wp_M_canWith_55_b
      have hx2r : jR x2 := by rcases hx2 with ⟨e, -⟩ | ⟨e, -⟩ <;> rw [e] <;> (unfold jR; decide)
      have cr : ∀ j : Int, -40000 ≤ x1 * cAt co (3 * k2) j ∧ x1 * cAt co (3 * k2) j ≤ 40000 := by
        intro j
        have c1 := cAt_r co (3 * k2) j
        have u : x1 * cAt co (3 * k2) j ≤ 1000 * 36 := Int.mul_le_mul hm60 (by omega) c1.1 (by omega)
        have l : 0 ≤ x1 * cAt co (3 * k2) j := Int.mul_nonneg hm c1.1
        omega
      refine ⟨jR_n (by omega), jR_n (by omega), fun g2 => ⟨hx2r, fun g3 => ?_, fun g3 => ?_⟩, fun g2 => ?_⟩
      · -- some post lacks below 0
        obtain ⟨j, hj, hlj⟩ : ∃ j, j < p ∧ la j < 0 := by rcases hx2 with ⟨e, -⟩ | ⟨-, e⟩; omega; exact e
        refine h0 _ _ _ _ _ _ _ (fun g hg => ?_)
        rw [hla j hj] at hlj
        by_cases hsj : su j = -1
        · rw [if_pos hsj] at hlj; omega
        · rw [if_neg hsj] at hlj
          obtain ⟨g1, g2', g3'⟩ := giv_be hN hg
          have := g3' j (by omega) hsj
          have nn : 0 ≤ PS k2 (plf co su) (fun c => g c - x1) j := by
            unfold PS
            exact sm_nonneg (fun c hcc => by have := g1 c hcc; split; exact this; omega)
          omega
      · have hall : ∀ j, j < n → 0 ≤ la j := by
          rcases hx2 with ⟨-, e⟩ | ⟨e, -⟩
          · intro j hj; exact e j (by omega)
          · exact absurd e g3
        have e1 : x2 = 1 := by rcases hx2 with ⟨e, -⟩ | ⟨e, -⟩; exact e; exact absurd e g3
        have PS0 : ∀ x : Int, PS k2 (plf co su) be x = 0 := by
          intro x; unfold PS; exact sm_zero (fun c hcc => by rw [hbe c (by omega)]; split <;> rfl)
        have hF0 : FI n k2 co su N x1 be sp la := by
          refine ⟨fun c hcc => by rw [hbe c (by omega)]; omega, fun j hj => ?_, fun j hj => ⟨fun hsj => ?_, fun hsj => ?_⟩⟩
          · unfold S3
            rw [hbe _ (by omega), hbe _ (by omega), hbe _ (by omega), hsp j hj]; omega
          · rw [PS0, hla j (by omega), if_neg hsj]
            have := hall j hj
            rw [hla j (by omega), if_neg hsj] at this
            omega
          · rw [hla j (by omega), if_pos hsj]
        have hl4 : ∀ j, j < n → la j ≤ 4000 := by
          intro j hj
          rw [hla j (by omega)]
          have := hS j (by omega)
          have c1 := cAt_r co (3 * k2) j
          have l : 0 ≤ x1 * cAt co (3 * k2) j := Int.mul_nonneg hm c1.1
          split <;> omega
        refine s_M_fill (tl := True) hN rfl rfl hc hs hS hm hmN h360 (Or.inr ⟨rfl, trivial⟩) hl4 hF0 (fun qd1 be1 sp1 la1 bef1 via1 qu1 F1 P1 _ L1 C1 => ?_)
        refine s_M_fill (tl := False) hN rfl rfl hc hs hS hm hmN h360 (Or.inl ⟨rfl, fun h => h⟩) L1 F1 (fun qd2 be2 sp2 la2 bef2 via2 qu2 F2 _ E2 L2 C2 => ?_)
        have hgl : ∀ g, IsGiv n k2 co su N x1 g → (∀ p, p < n → la2 p = 0) ∧ ∀ k, k < k2 → sp2 k = 0 := by
          intro g hg
          obtain ⟨R1, r1, r2, r3⟩ := C1
          have z1 := cut1 hN F1 (by rw [P1 trivial]; exact PS0 9) r1 r2 r3 hg
          have z2 : ∀ p, p < n → la2 p = 0 := fun p hp => by rw [E2 (fun h => h) p hp]; exact z1 p hp
          obtain ⟨R2, t1, t2, t3⟩ := C2
          exact ⟨z2, cut2 hN F2 z2 t1 t2 t3 hg⟩
        subst e1
        -- the last two loops
        refine lp2 (wp_M_canWith_141 Q n k2 qd2 be2 sp2 la2 bef2 via2 qu2) (fun x2 x3 => ∃ j : Nat, j ≤ k2 ∧ x3 = j ∧ ((x2 = 1 ∧ ∀ i, i < j → sp2 i = 0) ∨ (x2 = 0 ∧ ∃ i, i < k2 ∧ sp2 i ≠ 0))) (fun _ x3 => (k2 - x3).toNat) ?_ _ _ ⟨0, by omega, rfl, Or.inl ⟨rfl, fun i h => by omega⟩⟩
        rintro f4 x2 x3 ⟨j, hj, rfl, hx⟩ ih4
        show wp_M_canWith_141_b _ _ _ _ _ _ _ _ _ _ _ _ _
        unfold wp_M_canWith_141_b
        have hx2r : jR x2 := by rcases hx with ⟨e, -⟩ | ⟨e, -⟩ <;> rw [e] <;> (unfold jR; decide)
        have spr : ∀ i, i < k2 → jR (sp2 i) := by
          intro i hi
          have a := F2.2.1 i hi
          have c0 := F2.1 (3 * i) (by omega)
          have c1 := F2.1 (3 * i + 1) (by omega)
          have c2 := F2.1 (3 * i + 2) (by omega)
          unfold S3 at a
          exact ⟨by omega, by omega⟩
        refine ⟨jR_n (by omega), jR_n (by omega), fun g4 => ?_, fun g4 => ⟨hx2r, fun g5 => ih4 _ _ ⟨j + 1, by omega, by omega, ?_⟩ (by omega), fun g5 => ⟨⟨by omega, by omega⟩, ?_⟩⟩⟩
        · refine lp2 (wp_M_canWith_176 Q n qd2 be2 sp2 la2 bef2 via2 qu2) (fun y2 y3 => ∃ i : Nat, i ≤ n ∧ y3 = i ∧ ((y2 = 1 ∧ (∀ k, k < k2 → sp2 k = 0) ∧ ∀ q, q < i → la2 q = 0) ∨ (y2 = 0 ∧ ((∃ k, k < k2 ∧ sp2 k ≠ 0) ∨ ∃ q, q < n ∧ la2 q ≠ 0)))) (fun _ y3 => (n - y3).toNat) ?_ _ _ ⟨0, by omega, rfl, ?_⟩
          · rintro f5 y2 y3 ⟨i, hi, rfl, hy⟩ ih5
            show wp_M_canWith_176_b _ _ _ _ _ _ _ _ _ _ _ _
            unfold wp_M_canWith_176_b
            have hy2r : jR y2 := by rcases hy with ⟨e, -⟩ | ⟨e, -⟩ <;> rw [e] <;> (unfold jR; decide)
            refine ⟨jR_n (by omega), jR_n (by omega), fun g6 => ?_, fun g6 => ⟨hy2r, fun g7 => ih5 _ _ ⟨i + 1, by omega, by omega, ?_⟩ (by omega), fun g7 => ⟨⟨by omega, by omega⟩, ?_⟩⟩⟩
            · rcases hy with ⟨e, y1, y2'⟩ | ⟨e, y1⟩
              · subst e
                exact ⟨Or.inr rfl, h1 _ _ _ _ _ _ _ y1 F2.1 (giv_of_FI hN F2 y1 (fun q hq => y2' q (by omega)))⟩
              · subst e
                refine ⟨Or.inl rfl, h0 _ _ _ _ _ _ _ (fun g hg => ?_)⟩
                obtain ⟨z1, z2⟩ := hgl g hg
                rcases y1 with ⟨k, hk, hne⟩ | ⟨q, hq, hne⟩
                · exact hne (z2 k hk)
                · exact hne (z1 q hq)
            · rcases hy with ⟨e, -⟩ | ⟨-, y1⟩
              · omega
              · exact Or.inr ⟨rfl, y1⟩
            · have lr : jR (la2 i) := by
                have h1 := F2.2.2 i (by omega)
                have h2 := L2 i (by omega)
                by_cases hsp : su i = -1
                · rw [h1.2 hsp]; unfold jR; decide
                · have := (h1.1 hsp).2; exact ⟨by omega, by omega⟩
              rw [Int.toNat_natCast]
              refine ⟨lr, fun g8 => ih5 _ _ ⟨i + 1, by omega, by omega, ?_⟩ (by omega), fun g8 => ih5 _ _ ⟨i + 1, by omega, by omega, Or.inr ⟨rfl, Or.inr ⟨i, by omega, g8⟩⟩⟩ (by omega)⟩
              rcases hy with ⟨-, y1, y2'⟩ | ⟨e, -⟩
              · refine Or.inl ⟨rfl, y1, fun q hq => ?_⟩
                by_cases hqi : q = i
                · subst hqi; exact g8
                · exact y2' q (by omega)
              · exact absurd e g7
          · rcases hx with ⟨e, x1'⟩ | ⟨e, x1'⟩
            · exact Or.inl ⟨e, fun k hk => x1' k (by omega), fun q h => by omega⟩
            · exact Or.inr ⟨e, Or.inl x1'⟩
        · rcases hx with ⟨e, -⟩ | ⟨-, x1'⟩
          · omega
          · exact Or.inr ⟨rfl, x1'⟩
        · rw [Int.toNat_natCast]
          refine ⟨spr j (by omega), fun g8 => ih4 _ _ ⟨j + 1, by omega, by omega, ?_⟩ (by omega), fun g8 => ih4 _ _ ⟨j + 1, by omega, by omega, Or.inr ⟨rfl, j, by omega, g8⟩⟩ (by omega)⟩
          rcases hx with ⟨-, x1'⟩ | ⟨e, -⟩
          · refine Or.inl ⟨rfl, fun i hi => ?_⟩
            by_cases hij : i = j
            · subst hij; exact g8
            · exact x1' i (by omega)
          · exact absurd e g5
      · -- one post more
        have hsp2 := hS p (by omega)
        have m1 : ms su p = -6 ↔ su p = -1 := by unfold ms; split <;> omega
        have r1 : jR (ms su p) := by unfold ms jR; split <;> omega
        have step : ∀ t2 : Int, t2 = (if su p = -1 then 0 else su p - x1 * cAt co (3 * k2) p) → wp_M_canWith_97 (wp_M_canWith_55 Q n k2 mCorner mSum x1 mQueued be sp bef0 via0 queue0 f3) Q n k2 mCorner mSum x1 mQueued be sp bef0 via0 queue0 x2 p p t2 la := by
          intro t2 et
          unfold wp_M_canWith_97
          have tr : -50000 ≤ t2 ∧ t2 ≤ 50000 := by rw [et]; have := cr p; split <;> omega
          refine ⟨⟨by omega, by omega⟩, fun la2 e2 => ⟨hx2r, fun g3 => ih3 _ _ _ ⟨p + 1, by omega, by omega, ?_, Or.inr ⟨rfl, ?_⟩⟩ (by omega), fun g3 => ⟨⟨by omega, by omega⟩, ?_⟩⟩⟩
          · intro j hj
            rw [e2, Int.toNat_natCast, up_at]
            by_cases hjp : j = p
            · subst hjp; rw [if_pos rfl]; exact et
            · rw [if_neg hjp]; exact hla j (by omega)
          · rcases hx2 with ⟨e, -⟩ | ⟨-, j, hj, hlt⟩
            · omega
            · exact ⟨j, by omega, by rw [e2, Int.toNat_natCast, up_n _ _ (by omega)]; exact hlt⟩
          · rw [e2, Int.toNat_natCast, up_s]
            have hla3 : ∀ j, j < p + 1 → up la p t2 j = if su j = -1 then 0 else su j - x1 * cAt co (3 * k2) j := by
              intro j hj
              rw [up_at]
              by_cases hjp : j = p
              · subst hjp; rw [if_pos rfl]; exact et
              · rw [if_neg hjp]; exact hla j (by omega)
            refine ⟨⟨by omega, by omega⟩, fun g4 => ih3 _ _ _ ⟨p + 1, by omega, by omega, hla3, Or.inr ⟨rfl, p, by omega, by rw [up_s]; exact g4⟩⟩ (by omega), fun g4 => ih3 _ _ _ ⟨p + 1, by omega, by omega, hla3, Or.inl ⟨rfl, fun j hj => ?_⟩⟩ (by omega)⟩
            rw [up_at]
            by_cases hjp : j = p
            · rw [if_pos hjp]; omega
            · rw [if_neg hjp]
              rcases hx2 with ⟨-, e⟩ | ⟨e, -⟩
              · exact e j (by omega)
              · exact absurd e g3
        rw [Int.toNat_natCast, hs p (by omega)]
        refine ⟨⟨by omega, by omega⟩, r1, fun g3 => step 0 (by rw [if_pos (m1.mp g3)]), fun g3 => ?_⟩
        refine s_M_cornersAt rfl hle.2.2 hc (fun c hcc => hN.co9 hcc) ⟨by omega, by omega⟩ (step _ ?_)
        have : su p ≠ -1 := fun q => g3 (m1.mpr q)
        unfold ms
        rw [if_neg this, if_neg this]
    · rw [e2, Int.toNat_natCast, up_at]; split
      · rfl
      · exact hsp j (by omega)
  · rw [e2, Int.toNat_natCast, up_at]; split
    · rfl
    · exact hbe c (by omega)

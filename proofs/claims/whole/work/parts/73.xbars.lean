/-! the class's bars -/
def ow (kind : Int) (co su : Nat → Int) (T : Nat) (L : Int) (p : Nat) : Int := su p - (if kind = 0 then L * cAt co (3 * T) p else 0)
theorem bit_add {j s : Nat} (h : s < 2 ^ j) (i : Nat) : (2 ^ j + s).testBit i = true ↔ (i = j ∨ s.testBit i = true) := by
  have e := Nat.two_pow_add_eq_or_of_lt h 1
  rw [Nat.mul_one] at e
  rw [e, Nat.testBit_or, Bool.or_eq_true, bit_pow]
  constructor
  · rintro (q | q)
    · exact Or.inl (of_decide_eq_true q).symm
    · exact Or.inr q
  · rintro (q | q)
    · exact Or.inl (decide_eq_true q.symm)
    · exact Or.inr q
theorem sTot_add {n j s : Nat} (f : Nat → Int) (hj : j < n) (h : s < 2 ^ j) : sTot n f (2 ^ j + s) = sTot n f s + f j := by
  unfold sTot
  have e : sm n (fun p => if (2 ^ j + s).testBit p = true then f p else 0) = sm n (up (fun p => if s.testBit p = true then f p else 0) j (f j)) := by
    refine sm_congr (fun p _ => ?_)
    rw [up_at]
    by_cases q : p = j
    · rw [if_pos q, if_pos ((bit_add h p).mpr (Or.inl q)), q]
    · rw [if_neg q]
      by_cases w : s.testBit p = true
      · rw [if_pos w, if_pos ((bit_add h p).mpr (Or.inr w))]
      · rw [if_neg w, if_neg (fun z => by rcases (bit_add h p).mp z with v | v; exact q v; exact w v)]
  rw [e, sm_up _ _ hj, if_neg (fun q => by have := bit_lt h q; omega)]
  omega
theorem s_B_lookAtPosts {x1 nPosts nThirds bTold L : Int} {nCorners nSums bTotals : Nat → Int} {Q : Int → (Nat → Int) → Prop} {n T : Nat} {co su : Nat → Int} (hN : NetOK n T co) (hn : nPosts = n) (hT : nThirds = T) (hc : ∀ c, c < 3 * T → nCorners c = co c) (hs : ∀ p, p < 9 → nSums p = su p) (hS : SuOK su) (hx1 : jR x1) (h00 : bTotals 0 = 0)
    (hQ : ∀ (tp : Nat) (tot : Nat → Int), tp < 2 ^ n → (∀ p, tp.testBit p = true ↔ (p < n ∧ su p ≠ -1)) → (∀ s, s < 2 ^ n → tot s = sTot n (ow x1 co su T L) s) → Q tp tot) : wp_B_lookAtPosts x1 nPosts nThirds nCorners nSums bTold L bTotals Q := by
  have hle := hN.le
  have hp9 : 2 ^ n ≤ 512 := by have := Nat.pow_le_pow_right (n := 2) (by omega) hle.2.1; omega
  subst hn
  unfold wp_B_lookAtPosts
  refine lp3 (wp_B_lookAtPosts_7 Q n nThirds nCorners nSums L x1) (fun x2 bt tot => ∃ p t : Nat, p ≤ n ∧ x2 = p ∧ bt = t ∧ t < 2 ^ p ∧ (∀ j, t.testBit j = true ↔ (j < p ∧ su j ≠ -1)) ∧ ∀ s, s < 2 ^ p → tot s = sTot n (ow x1 co su T L) s) (fun x2 _ _ => (n - x2).toNat) ?_ _ _ _ ⟨0, 0, by omega, rfl, rfl, by decide, fun j => ?_, fun s hs => ?_⟩
  · rintro f x2 bt tot ⟨p, t, hp, rfl, rfl, ht, htb, htot⟩ ih
    show wp_B_lookAtPosts_7_b _ _ _ _ _ _ _ _ _ _ _
    unfold wp_B_lookAtPosts_7_b
    refine ⟨jR_n (by omega), jR_n (by omega), fun h => ?_, fun h => ?_⟩
    · have e : p = n := by omega
      subst e; exact hQ t tot ht htb htot
    · have hpn : p < n := by omega
      have hpp : 2 ^ p + 2 ^ p ≤ 2 ^ n := by
        have := Nat.pow_le_pow_right (n := 2) (by omega) (show p + 1 ≤ n by omega)
        rw [Nat.pow_succ] at this; omega
      have hpos := Nat.two_pow_pos p
      -- the new sets
      have inner : ∀ (t2 : Nat), t2 < 2 ^ (p + 1) → (∀ j, t2.testBit j = true ↔ (j < p + 1 ∧ su j ≠ -1)) → ∀ o : Int, o = ow x1 co su T L p → ∃ f2, wp_B_lookAtPosts_82 (wp_B_lookAtPosts_7 Q n nThirds nCorners nSums L x1 f) Q n nThirds nCorners nSums L x1 p ((2 ^ p : Nat) : Int) o t2 f2 0 tot := by
        intro t2 ht2 htb2 o ho
        refine lp2 (wp_B_lookAtPosts_82 (wp_B_lookAtPosts_7 Q n nThirds nCorners nSums L x1 f) Q n nThirds nCorners nSums L x1 p ((2 ^ p : Nat) : Int) o t2) (fun x5 tot => ∃ k : Nat, k ≤ 2 ^ p ∧ x5 = k ∧ ∀ s, s < 2 ^ p + k → tot s = sTot n (ow x1 co su T L) s) (fun x5 _ => (((2 ^ p : Nat) : Int) - x5).toNat) ?_ _ _ ⟨0, by omega, rfl, fun s hs => htot s (by omega)⟩
        rintro f2 x5 tot2 ⟨k, hk, rfl, hk2⟩ ih2
        show wp_B_lookAtPosts_82_b _ _ _ _ _ _ _ _ _ _ _ _ _ _ _
        unfold wp_B_lookAtPosts_82_b
        refine ⟨jR_n (by omega), jR_n (by omega), fun g => ih _ _ _ ⟨p + 1, t2, by omega, by omega, rfl, ht2, htb2, fun s hs => ?_⟩ (by omega), fun g => ⟨⟨by omega, by omega⟩, ⟨by omega, by omega⟩, fun tot3 e3 => ih2 _ _ ⟨k + 1, by omega, by omega, fun s hs => ?_⟩ (by omega)⟩⟩
        · rw [Nat.pow_succ] at hs
          exact hk2 s (by omega)
        · rw [e3, show (((2 ^ p : Nat) : Int) + (k : Int)).toNat = 2 ^ p + k by omega, Int.toNat_natCast, up_at]
          split
          · rename_i e; rw [e, hk2 k (by omega), sTot_add _ hpn (by omega), ho]
          · exact hk2 s (by omega)
      have rest : ∀ o : Int, o = (if x1 = 0 then L * cAt co (3 * T) p else 0) → wp_B_lookAtPosts_51 (wp_B_lookAtPosts_7 Q n nThirds nCorners nSums L x1 f) Q n nThirds nCorners nSums L x1 p ((2 ^ p : Nat) : Int) (su p) o t tot := by
        intro o ho
        unfold wp_B_lookAtPosts_51
        refine s_N_isTold hs hS (by omega) (by omega) (fun q => ⟨jR01_0, fun _ => ?_, fun w => absurd rfl w⟩) (fun q => ⟨jR01_1, fun w => absurd w (by decide), fun _ => ?_⟩)
        · rw [Int.toNat_natCast] at q
          have := jor_n (a := t) (b := 0) (by omega) (by omega)
          rw [show ((0 : Nat) : Int) = 0 from rfl, Nat.or_zero] at this
          rw [this]
          refine inner t (by rw [Nat.pow_succ]; omega) (fun j => ?_) _ (by unfold ow; rw [ho])
          rw [htb]
          constructor
          · rintro ⟨a, b⟩; exact ⟨by omega, b⟩
          · rintro ⟨a, b⟩
            refine ⟨?_, b⟩
            by_cases e : j = p
            · subst e; exact absurd q b
            · omega
        · rw [Int.toNat_natCast] at q
          rw [jor_n (by omega) (by omega)]
          refine inner (t ||| 2 ^ p) (Nat.or_lt_two_pow (by rw [Nat.pow_succ]; omega) (by rw [Nat.pow_succ]; omega)) (fun j => ?_) _ (by unfold ow; rw [ho])
          rw [Nat.testBit_or, Bool.or_eq_true, htb, bit_pow]
          constructor
          · rintro (⟨a, b⟩ | a)
            · exact ⟨by omega, b⟩
            · have := of_decide_eq_true a
              subst this; exact ⟨by omega, q⟩
          · rintro ⟨a, b⟩
            by_cases e : j = p
            · exact Or.inr (decide_eq_true e.symm)
            · exact Or.inl ⟨by omega, b⟩
      unfold wp_N_sumOf
      rw [Int.toNat_natCast, hs p (by omega), jshl_1 (by omega)]
      refine ⟨⟨by omega, by omega⟩, hx1, fun g => ?_, fun g => rest 0 (by rw [if_neg g])⟩
      exact s_N_cornersAt hT hle.2.2 hc (fun c h => hN.co9 h) (jR_n (by omega)) (rest _ (by rw [if_pos g]))
  · rw [Nat.zero_testBit]
    exact ⟨fun q => absurd q (by decide), fun q => by omega⟩
  · rw [show s = 0 by simpa using hs, h00]
    unfold sTot
    symm
    exact sm_zero (fun i _ => by rw [Nat.zero_testBit]; rfl)
def pk (co : Nat → Int) (k : Nat) : Nat := (2 ^ (co (3 * k)).toNat ||| 2 ^ (co (3 * k + 1)).toNat) ||| 2 ^ (co (3 * k + 2)).toNat
theorem pk_bit (co : Nat → Int) (k p : Nat) : (pk co k).testBit p = true ↔ ((co (3 * k)).toNat = p ∨ (co (3 * k + 1)).toNat = p ∨ (co (3 * k + 2)).toNat = p) := by
  unfold pk
  rw [Nat.testBit_or, Nat.testBit_or, Bool.or_eq_true, Bool.or_eq_true, bit_pow, bit_pow, bit_pow, decide_eq_true_iff, decide_eq_true_iff, decide_eq_true_iff]
  exact ⟨fun h => by rcases h with (h | h) | h; exact Or.inl h; exact Or.inr (Or.inl h); exact Or.inr (Or.inr h), fun h => by rcases h with h | h | h; exact Or.inl (Or.inl h); exact Or.inl (Or.inr h); exact Or.inr h⟩
theorem pk_lt9 {n T : Nat} {co : Nat → Int} (hN : NetOK n T co) {k : Nat} (hk : k < T) : pk co k < 2 ^ n := by
  have h0 := hN.co (c := 3 * k) (by omega)
  have h1 := hN.co (c := 3 * k + 1) (by omega)
  have h2 := hN.co (c := 3 * k + 2) (by omega)
  unfold pk
  exact Nat.or_lt_two_pow (Nat.or_lt_two_pow (Nat.pow_lt_pow_right (by omega) (by omega)) (Nat.pow_lt_pow_right (by omega) (by omega))) (Nat.pow_lt_pow_right (by omega) (by omega))
theorem tcn_add {T j s : Nat} (co : Nat → Int) (hj : j < T) (h : s < 2 ^ j) : tcn co (2 ^ j + s) (3 * T) = tcn co s (3 * T) ||| pk co j := by
  apply Nat.eq_of_testBit_eq
  intro p
  rw [Bool.eq_iff_iff, Nat.testBit_or, Bool.or_eq_true, tcn_bit, tcn_bit, pk_bit]
  constructor
  · rintro ⟨c, c1, c2, c3⟩
    rcases (bit_add h _).mp c2 with q | q
    · right
      have : c = 3 * j ∨ c = 3 * j + 1 ∨ c = 3 * j + 2 := by omega
      rcases this with w | w | w <;> subst w
      · exact Or.inl c3
      · exact Or.inr (Or.inl c3)
      · exact Or.inr (Or.inr c3)
    · exact Or.inl ⟨c, c1, q, c3⟩
  · rintro (⟨c, c1, c2, c3⟩ | q | q | q)
    · exact ⟨c, c1, (bit_add h _).mpr (Or.inr c2), c3⟩
    · exact ⟨3 * j, by omega, (bit_add h _).mpr (Or.inl (by omega)), q⟩
    · exact ⟨3 * j + 1, by omega, (bit_add h _).mpr (Or.inl (by omega)), q⟩
    · exact ⟨3 * j + 2, by omega, (bit_add h _).mpr (Or.inl (by omega)), q⟩
theorem tcn_0 (co : Nat → Int) : ∀ C, tcn co 0 C = 0
  | 0 => rfl
  | C + 1 => by
    show (if (0 : Nat).testBit (C / 3) = true then tcn co 0 C ||| 2 ^ (co C).toNat else tcn co 0 C) = 0
    rw [Nat.zero_testBit, if_neg (by decide), tcn_0 co C]
theorem s_look84 {K2 : Int → (Nat → Int) → (Nat → Int) → Prop} {Q : (Nat → Int) → (Nat → Int) → Prop} {nThirds : Int} {nCorners bPostsOf bSets : Nat → Int} {k z e : Nat} (hk : k < 12) (hz : z + 2 * e ≤ 128) (he : e ≤ 64)
    (hK : ∀ b2 : Nat → Int, (∀ i, i < z + e ∨ z + e + e ≤ i → b2 i = bSets i) → (∀ s, s < e → b2 (z + e + s) = jor (bSets (z + s)) (bPostsOf k)) → K2 (k + 1) bPostsOf b2) : ∃ f, wp_B_lookAtThirds_84 K2 Q nThirds nCorners k z e bPostsOf f 0 bSets := by
  refine lp2 (wp_B_lookAtThirds_84 K2 Q nThirds nCorners k z e bPostsOf) (fun x4 b2 => ∃ s : Nat, s ≤ e ∧ x4 = s ∧ (∀ i, i < z + e ∨ z + e + e ≤ i → b2 i = bSets i) ∧ ∀ j, j < s → b2 (z + e + j) = jor (bSets (z + j)) (bPostsOf k)) (fun x4 _ => (e - x4).toNat) ?_ _ _ ⟨0, by omega, rfl, fun i _ => rfl, fun j h => by omega⟩
  rintro f x4 b2 ⟨s, hs, rfl, h1, h2⟩ ih
  show wp_B_lookAtThirds_84_b _ _ _ _ _ _ _ _ _ _ _
  unfold wp_B_lookAtThirds_84_b
  refine ⟨jR_n (by omega), jR_n (by omega), fun g => hK b2 h1 (fun j hj => h2 j (by omega)), fun g => ⟨⟨by omega, by omega⟩, ⟨by omega, by omega⟩, ⟨by omega, by omega⟩, fun b3 e3 => ih _ _ ⟨s + 1, by omega, by omega, fun i hi => ?_, fun j hj => ?_⟩ (by omega)⟩⟩
  · rw [e3, up_n _ _ (by omega)]; exact h1 i hi
  · rw [e3, up_at, show ((z : Int) + (e : Int) + (s : Int)).toNat = z + e + s by omega, show ((z : Int) + (s : Int)).toNat = z + s by omega, Int.toNat_natCast]
    by_cases q : j = s
    · subst q; rw [if_pos rfl, h1 _ (by omega)]
    · rw [if_neg (by omega)]; exact h2 j (by omega)
def SetsOK (co : Nat → Int) (T k : Nat) (b : Nat → Int) : Prop := (∀ s, s < 2 ^ (if k < 6 then k else 6) → b s = ((tcn co s (3 * T) : Nat) : Int)) ∧ ∀ s, s < 2 ^ (k - 6) → b (64 + s) = ((tcn co (64 * s) (3 * T) : Nat) : Int)
theorem s_B_lookAtThirds {nThirds : Int} {nCorners bPostsOf bSets : Nat → Int} {Q : (Nat → Int) → (Nat → Int) → Prop} {n T : Nat} {co : Nat → Int} (hN : NetOK n T co) (hT : nThirds = T) (hc : ∀ c, c < 3 * T → nCorners c = co c) (h0 : bSets 0 = 0) (h64 : bSets 64 = 0) (hQ : ∀ po se, (∀ k, k < T → po k = ((pk co k : Nat) : Int)) → SetsOK co T T se → Q po se) : wp_B_lookAtThirds nThirds nCorners bPostsOf bSets Q := by
  have hle := hN.le
  have hp9 : 2 ^ n ≤ 512 := by have := Nat.pow_le_pow_right (n := 2) (by omega) hle.2.1; omega
  subst hT
  unfold wp_B_lookAtThirds
  refine lp3 (wp_B_lookAtThirds_2 Q T nCorners) (fun x1 po se => ∃ k : Nat, k ≤ T ∧ x1 = k ∧ (∀ j, j < k → po j = ((pk co j : Nat) : Int)) ∧ SetsOK co T k se) (fun x1 _ _ => (T - x1).toNat) ?_ _ _ _ ⟨0, by omega, rfl, fun j h => by omega, fun s hs => ?_, fun s hs => ?_⟩
  · rintro f x1 po se ⟨k, hk, rfl, hpo, hse⟩ ih
    show wp_B_lookAtThirds_2_b _ _ _ _ _ _ _
    unfold wp_B_lookAtThirds_2_b
    refine ⟨jR_n (by omega), jR_n (by omega), fun g => ?_, fun g => ?_⟩
    · have e : k = T := by omega
      subst e; exact hQ po se hpo hse
    · have r0 := hN.co9 (c := 3 * k) (by omega)
      have r1 := hN.co9 (c := 3 * k + 1) (by omega)
      have r2 := hN.co9 (c := 3 * k + 2) (by omega)
      have p0 : 2 ^ (co (3 * k)).toNat ≤ 4096 := pow12 (by omega)
      have p1 : 2 ^ (co (3 * k + 1)).toNat ≤ 4096 := pow12 (by omega)
      have p2 : 2 ^ (co (3 * k + 2)).toNat ≤ 4096 := pow12 (by omega)
      have p01 : 2 ^ (co (3 * k)).toNat ||| 2 ^ (co (3 * k + 1)).toNat < 2 ^ 13 := Nat.or_lt_two_pow (by omega) (by omega)
      have epk : jor (jor (jshl 1 (co (3 * k))) (jshl 1 (co (3 * k + 1)))) (jshl 1 (co (3 * k + 2))) = ((pk co k : Nat) : Int) := by
        rw [show co (3 * k) = (((co (3 * k)).toNat : Nat) : Int) by omega, show co (3 * k + 1) = (((co (3 * k + 1)).toNat : Nat) : Int) by omega, show co (3 * k + 2) = (((co (3 * k + 2)).toNat : Nat) : Int) by omega, jshl_1 (by omega), jshl_1 (by omega), jshl_1 (by omega), jor_n (by omega) (by omega), jor_n (by omega) (by omega)]
        rfl
      unfold wp_N_postOf
      refine ⟨⟨by omega, by omega⟩, ⟨by omega, by omega⟩, ⟨by omega, by omega⟩, ⟨by omega, by omega⟩, fun po2 e2 => ?_⟩
      rw [show ((3 : Int) * (k : Int)).toNat = 3 * k by omega, show ((3 : Int) * (k : Int) + 1).toNat = 3 * k + 1 by omega, show ((3 : Int) * (k : Int) + 2).toNat = 3 * k + 2 by omega, hc _ (by omega), hc _ (by omega), hc _ (by omega), epk, Int.toNat_natCast] at e2
      have hpo2 : ∀ j, j < k + 1 → po2 j = ((pk co j : Nat) : Int) := by
        intro j hj
        rw [e2, up_at]
        by_cases q : j = k
        · rw [if_pos q, q]
        · rw [if_neg q]; exact hpo j (by omega)
      have hpl := pk_lt9 hN (k := k) (by omega)
      have er : jrem (k : Int) 6 = ((k % 6 : Nat) : Int) := by rw [jrem_n (by omega) (by omega) (by omega) (by omega)]; omega
      rw [er, jshl_1 (by omega)]
      have step : ∀ s : Nat, s < 2 ^ k → ∀ y : Int, y = ((tcn co s (3 * T) : Nat) : Int) → jor y (po2 k) = ((tcn co (2 ^ k + s) (3 * T) : Nat) : Int) := by
        intro s hs y hy
        have := tcn_lt hN s (3 * T) (Nat.le_refl _)
        rw [hy, hpo2 k (by omega), jor_n (by omega) (by omega), tcn_add co (by omega) hs]
      refine ⟨fun g2 => ?_, fun g2 => ?_⟩
      · have h6 : 6 ≤ k := by omega
        have e6 : k % 6 = k - 6 := by omega
        have h5 : 2 ^ (k - 6) ≤ 2 ^ 5 := Nat.pow_le_pow_right (by omega) (by omega)
        have hp := Nat.two_pow_pos (k - 6)
        have ek : 2 ^ k = 64 * 2 ^ (k - 6) := by
          have := Nat.pow_add 2 6 (k - 6)
          rw [show 6 + (k - 6) = k by omega] at this; omega
        rw [e6]
        refine s_look84 (z := 64) (by omega) (by omega) (by omega) (fun se2 a1 a2 => ih _ _ _ ⟨k + 1, by omega, by omega, hpo2, fun s hs => ?_, fun s hs => ?_⟩ (by omega))
        · rw [if_neg (by omega)] at hs
          rw [a1 s (by omega)]
          exact hse.1 s (by rw [if_neg (by omega)]; exact hs)
        · rw [show k + 1 - 6 = (k - 6) + 1 by omega, Nat.pow_succ] at hs
          rcases Nat.lt_or_ge s (2 ^ (k - 6)) with q | q
          · rw [a1 _ (by omega)]; exact hse.2 s q
          · have := a2 (s - 2 ^ (k - 6)) (by omega)
            rw [show 64 + 2 ^ (k - 6) + (s - 2 ^ (k - 6)) = 64 + s by omega] at this
            rw [this, step (64 * (s - 2 ^ (k - 6))) (by omega) _ (hse.2 _ (by omega)), ek, show 64 * 2 ^ (k - 6) + 64 * (s - 2 ^ (k - 6)) = 64 * s by omega]
      · have h6 : k < 6 := by omega
        have e6 : k % 6 = k := by omega
        have h5 : 2 ^ k ≤ 2 ^ 5 := Nat.pow_le_pow_right (by omega) (by omega)
        have hp := Nat.two_pow_pos k
        rw [e6]
        have := s_look84 (K2 := wp_B_lookAtThirds_2 Q T nCorners f) (Q := Q) (nThirds := T) (nCorners := nCorners) (bPostsOf := po2) (bSets := se) (z := 0) (e := 2 ^ k) (k := k) (by omega) (by omega) (by omega) (fun se2 a1 a2 => ih _ _ _ ⟨k + 1, by omega, by omega, hpo2, fun s hs => ?_, fun s hs => ?_⟩ (by omega))
        · exact this
        · have hs2 : s < 2 ^ (k + 1) := by
            by_cases q : k + 1 < 6
            · rw [if_pos q] at hs; exact hs
            · rw [if_neg q] at hs; rw [show k + 1 = 6 by omega]; exact hs
          rw [Nat.pow_succ] at hs2
          rcases Nat.lt_or_ge s (2 ^ k) with q | q
          · rw [a1 _ (by omega)]; exact hse.1 s (by rw [if_pos h6]; exact q)
          · have := a2 (s - 2 ^ k) (by omega)
            rw [show 0 + 2 ^ k + (s - 2 ^ k) = s by omega] at this
            rw [this, step (s - 2 ^ k) (by omega) _ (by rw [Nat.zero_add]; exact hse.1 _ (by rw [if_pos h6]; omega)), show 2 ^ k + (s - 2 ^ k) = s by omega]
        · rw [show k + 1 - 6 = 0 by omega] at hs
          rw [a1 _ (by omega)]
          exact hse.2 s (by rw [show k - 6 = 0 by omega]; exact hs)
  · rw [show s = 0 by simpa using hs, h0, tcn_0]; rfl
  · rw [show s = 0 by simpa using hs, Nat.add_zero, h64, Nat.mul_zero, tcn_0]; rfl

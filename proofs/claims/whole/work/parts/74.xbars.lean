theorem cb_pk {n T b k : Nat} {co : Nat → Int} (hN : NetOK n T co) (hk : k < T) : cb (pk co k &&& b) = th co b k := by
  have r0 := hN.co9 (c := 3 * k) (by omega)
  have r1 := hN.co9 (c := 3 * k + 1) (by omega)
  have r2 := hN.co9 (c := 3 * k + 2) (by omega)
  have n0 := hN.ne01 hk
  have n1 := hN.ne12 hk
  have n2 := hN.ne20 hk
  rw [cb_bi]
  have e : sm 12 (fun p => bi (pk co k &&& b) p) = sm 12 (fun p => ((if p = (co (3 * k)).toNat then bi b p else 0) + (if p = (co (3 * k + 1)).toNat then bi b p else 0)) + (if p = (co (3 * k + 2)).toNat then bi b p else 0)) := by
    refine sm_congr (fun p _ => ?_)
    have hb : (pk co k &&& b).testBit p = true ↔ ((pk co k).testBit p = true ∧ b.testBit p = true) := by rw [Nat.testBit_and, Bool.and_eq_true]
    by_cases q : b.testBit p = true
    · have hbi : bi b p = 1 := bi_1.mpr q
      rw [hbi]
      by_cases w : (pk co k).testBit p = true
      · rw [bi_1.mpr (hb.mpr ⟨w, q⟩)]
        rcases (pk_bit co k p).mp w with z | z | z
        · rw [if_pos z.symm, if_neg (by omega), if_neg (by omega)]; rfl
        · rw [if_neg (by omega), if_pos z.symm, if_neg (by omega)]; rfl
        · rw [if_neg (by omega), if_neg (by omega), if_pos z.symm]; rfl
      · rw [bi_0.mpr (fun z => w (hb.mp z).1), if_neg (fun z => w ((pk_bit co k p).mpr (Or.inl z.symm))), if_neg (fun z => w ((pk_bit co k p).mpr (Or.inr (Or.inl z.symm)))), if_neg (fun z => w ((pk_bit co k p).mpr (Or.inr (Or.inr z.symm))))]; rfl
    · have hbi : bi b p = 0 := bi_0.mpr q
      rw [hbi, bi_0.mpr (fun z => q (hb.mp z).2)]
      split <;> split <;> split <;> rfl
  rw [e, sm_add, sm_add, sm_pick _ (by omega), sm_pick _ (by omega), sm_pick _ (by omega)]
  rfl
theorem s_B_mostOf {x1 nThirds N L : Int} {po : Nat → Int} {Q : Int → Prop} {n T b : Nat} {co : Nat → Int} (hN : NetOK n T co) (hT : nThirds = T) (hpo : ∀ k, k < T → po k = ((pk co k : Nat) : Int)) (e1 : x1 = b) (hb : b < 4096) (hQ : Q (mostS co N L b T)) : wp_B_mostOf x1 nThirds N L po Q := by
  have hle := hN.le
  have hp9 : 2 ^ n ≤ 512 := by have := Nat.pow_le_pow_right (n := 2) (by omega) hle.2.1; omega
  subst e1; subst hT
  unfold wp_B_mostOf
  refine lp2 (wp_B_mostOf_4 Q T N L po b) (fun x2 x3 => ∃ k : Nat, k ≤ T ∧ x3 = k ∧ x2 = mostS co N L b k) (fun _ x3 => (T - x3).toNat) ?_ _ _ ⟨0, by omega, rfl, rfl⟩
  rintro f x2 x3 ⟨k, hk, rfl, rfl⟩ ih
  show wp_B_mostOf_4_b _ _ _ _ _ _ _ _ _
  unfold wp_B_mostOf_4_b
  refine ⟨jR_n (by omega), jR_n (by omega), fun h => ?_, fun h => ⟨⟨by omega, by omega⟩, ?_⟩⟩
  · have e : k = T := by omega
    subst e; exact hQ
  · have hpl := pk_lt9 hN (k := k) (by omega)
    rw [Int.toNat_natCast, hpo k (by omega), jand_n (by omega) (by omega)]
    refine s_I_bitCount rfl (Nat.lt_of_le_of_lt Nat.and_le_left (by omega)) ?_
    rw [cb_pk hN (by omega)]
    have rt := th_r co b k
    refine ⟨⟨by omega, by omega⟩, fun g => ih _ _ ⟨k + 1, by omega, by omega, ?_⟩ (by omega), fun g => ih _ _ ⟨k + 1, by omega, by omega, ?_⟩ (by omega)⟩
    · show _ = sm k _ + mo N L (th co b k)
      unfold mo; rw [if_pos g]; rfl
    · show _ = sm k _ + mo N L (th co b k)
      unfold mo; rw [if_neg g]; rfl
theorem s_B_leastOf {x1 nThirds N L : Int} {po : Nat → Int} {Q : Int → Prop} {n T b : Nat} {co : Nat → Int} (hN : NetOK n T co) (hT : nThirds = T) (hpo : ∀ k, k < T → po k = ((pk co k : Nat) : Int)) (e1 : x1 = b) (hb : b < 4096) (hQ : Q (leastS co N L b T)) : wp_B_leastOf x1 nThirds N L po Q := by
  have hle := hN.le
  have hp9 : 2 ^ n ≤ 512 := by have := Nat.pow_le_pow_right (n := 2) (by omega) hle.2.1; omega
  subst e1; subst hT
  unfold wp_B_leastOf
  refine lp2 (wp_B_leastOf_4 Q T N L po b) (fun x2 x3 => ∃ k : Nat, k ≤ T ∧ x3 = k ∧ x2 = leastS co N L b k) (fun _ x3 => (T - x3).toNat) ?_ _ _ ⟨0, by omega, rfl, rfl⟩
  rintro f x2 x3 ⟨k, hk, rfl, rfl⟩ ih
  show wp_B_leastOf_4_b _ _ _ _ _ _ _ _ _
  unfold wp_B_leastOf_4_b
  refine ⟨jR_n (by omega), jR_n (by omega), fun h => ?_, fun h => ⟨⟨by omega, by omega⟩, ?_⟩⟩
  · have e : k = T := by omega
    subst e; exact hQ
  · have hpl := pk_lt9 hN (k := k) (by omega)
    rw [Int.toNat_natCast, hpo k (by omega), jand_n (by omega) (by omega)]
    refine s_I_bitCount rfl (Nat.lt_of_le_of_lt Nat.and_le_left (by omega)) ?_
    rw [cb_pk hN (by omega)]
    have rt := th_r co b k
    refine ⟨⟨by omega, by omega⟩, fun g => ih _ _ ⟨k + 1, by omega, by omega, ?_⟩ (by omega), fun g => ih _ _ ⟨k + 1, by omega, by omega, ?_⟩ (by omega)⟩
    · show _ = sm k _ + du N L (th co b k)
      unfold du; rw [if_pos g]; rfl
    · show _ = sm k _ + du N L (th co b k)
      unfold du; rw [if_neg g]; rfl
theorem tcn_split {T : Nat} (co : Nat → Int) (b : Nat) : tcn co (b % 64) (3 * T) ||| tcn co (64 * (b / 64)) (3 * T) = tcn co b (3 * T) := by
  have hb : ∀ i, b.testBit i = true ↔ ((b % 64).testBit i = true ∨ (64 * (b / 64)).testBit i = true) := by
    intro i
    rw [show b % 64 = b % 2 ^ 6 from rfl, Nat.testBit_mod_two_pow, show 64 * (b / 64) = (b / 2 ^ 6) * 2 ^ 6 by rw [Nat.mul_comm], Nat.testBit_mul_two_pow, Nat.testBit_div_two_pow]
    rcases Nat.lt_or_ge i 6 with q | q
    · simp [q, Nat.not_le.mpr q]
    · simp [Nat.not_lt.mpr q, q]
  apply Nat.eq_of_testBit_eq
  intro p
  rw [Bool.eq_iff_iff, Nat.testBit_or, Bool.or_eq_true, tcn_bit, tcn_bit, tcn_bit]
  constructor
  · rintro (⟨c, c1, c2, c3⟩ | ⟨c, c1, c2, c3⟩)
    · exact ⟨c, c1, (hb _).mpr (Or.inl c2), c3⟩
    · exact ⟨c, c1, (hb _).mpr (Or.inr c2), c3⟩
  · rintro ⟨c, c1, c2, c3⟩
    rcases (hb _).mp c2 with q | q
    · exact Or.inl ⟨c, c1, q, c3⟩
    · exact Or.inr ⟨c, c1, q, c3⟩
theorem ow_r {n T : Nat} {co su : Nat → Int} {L kind : Int} (hN : NetOK n T co) (hS : SuOK su) (hL : 0 ≤ L) (hL2 : L ≤ 1000) (s : Nat) : -1000000 ≤ sTot n (ow kind co su T L) s ∧ sTot n (ow kind co su T L) s ≤ 36000 := by
  have hle := hN.le
  have each : ∀ p, p < n → -36001 ≤ ow kind co su T L p ∧ ow kind co su T L p ≤ 4000 := by
    intro p hp
    have h1 := hS p (by omega)
    have h2 := cAt_r co (3 * T) p
    have h3 := Int.mul_nonneg hL h2.1
    have h4 := Int.mul_le_mul hL2 (show cAt co (3 * T) p ≤ 36 by omega) h2.1 (by omega : (0 : Int) ≤ 1000)
    unfold ow
    split <;> omega
  unfold sTot
  have h1 := sm_le (n := n) (f := fun p => if s.testBit p = true then ow kind co su T L p else 0) (g := fun _ => 4000) (fun i hi => by have := each i hi; split <;> omega)
  have h2 := sm_le (n := n) (f := fun _ => -36001) (g := fun p => if s.testBit p = true then ow kind co su T L p else 0) (fun i hi => by have := each i hi; split <;> omega)
  rw [sm_const] at h1 h2
  omega
theorem s_B_isBar {kind x2 nThirds N L : Int} {po se tot : Nat → Int} {Q : Int → Prop} {n T b : Nat} {co su : Nat → Int} (hN : NetOK n T co) (hT : nThirds = T) (hS : SuOK su) (hL : 0 ≤ L) (h3L : 3 * L ≤ N) (hN360 : N ≤ 360) (hpo : ∀ k, k < T → po k = ((pk co k : Nat) : Int)) (hse : SetsOK co T T se) (htot : ∀ s, s < 2 ^ n → tot s = sTot n (ow kind co su T L) s) (hk : 0 ≤ kind ∧ kind ≤ 2) (e2 : x2 = b) (hb : b < 2 ^ (if kind = 0 then T else n)) (hall : (kind = 0 → ∀ c, c < 3 * T → b.testBit (c / 3) = true → su (co c).toNat ≠ -1) ∧ (kind ≠ 0 → ∀ p, p < n → b.testBit p = true → su p ≠ -1)) (h1 : PB kind n T co su N L b → Q 1) (h0 : ¬ PB kind n T co su N L b → Q 0) : wp_B_isBar kind x2 nThirds N L po se tot Q := by
  have hle := hN.le
  have hp9 : 2 ^ n ≤ 512 := by have := Nat.pow_le_pow_right (n := 2) (by omega) hle.2.1; omega
  have hp12 := pow12 hle.2.2
  subst e2
  have cbr := cb_r b
  have rm := mul_bd (N := N) (c := cb b) (by omega) hN360 cbr.1 cbr.2
  have rl := mul_bd (N := 3 * L) (c := cb b) (by omega) (by omega) cbr.1 cbr.2
  unfold wp_B_isBar
  refine ⟨⟨by omega, by omega⟩, fun g => ?_, fun g => ?_, fun g => ?_⟩
  · rw [if_pos g] at hb
    refine s_I_bitCount rfl (by omega) ?_
    unfold wp_B_roomFor
    rw [jrem_n (by omega) (by omega) (by omega) (by omega), jdiv_n (by omega) (by omega) (by omega) (by omega)]
    refine ⟨⟨by omega, by omega⟩, ⟨by omega, by omega⟩, fun y hy => ?_⟩
    have q1 : b % 64 < 2 ^ (if T < 6 then T else 6) := by
      by_cases q : T < 6
      · rw [if_pos q]
        have : 2 ^ T ≤ 2 ^ 6 := Nat.pow_le_pow_right (by omega) (by omega)
        omega
      · rw [if_neg q]; omega
    have q2 : b / 64 < 2 ^ (T - 6) := by
      by_cases q : T < 6
      · have : 2 ^ T ≤ 2 ^ 6 := Nat.pow_le_pow_right (by omega) (by omega)
        have := Nat.two_pow_pos (T - 6)
        omega
      · have := Nat.pow_add 2 6 (T - 6)
        rw [show 6 + (T - 6) = T by omega] at this
        omega
    have l1 := tcn_lt hN (b % 64) (3 * T) (Nat.le_refl _)
    have l2 := tcn_lt hN (64 * (b / 64)) (3 * T) (Nat.le_refl _)
    have l3 := tcn_lt hN b (3 * T) (Nat.le_refl _)
    rw [show ((b : Int) % 64).toNat = b % 64 by omega, show ((64 : Int) + (b : Int) / 64).toNat = 64 + b / 64 by omega, hse.1 _ q1, hse.2 _ q2, jor_n (by omega) (by omega), tcn_split] at hy
    subst hy
    refine ⟨⟨by omega, by omega⟩, s_I_bitCount rfl (by omega) ?_⟩
    rw [Int.toNat_natCast, htot _ (by omega)]
    have ro := ow_r (kind := kind) hN hS hL (by omega) (tcn co b (3 * T))
    have eo : sTot n (ow kind co su T L) (tcn co b (3 * T)) = sTot n (fun p => su p - L * cAt co (3 * T) p) (tcn co b (3 * T)) := by
      unfold sTot
      refine sm_congr (fun p _ => ?_)
      unfold ow; rw [if_pos g]
    have hiff := PT_iff (su := su) (N := N) (L := L) hN hb
    refine ⟨⟨by omega, by omega⟩, ⟨by omega, by omega⟩, fun z => h0 (fun w => ?_), fun z => h1 (Or.inl ⟨g, hiff.mpr ⟨hall.1 g, by omega⟩⟩)⟩
    rcases w with ⟨-, w⟩ | ⟨w, -⟩
    · have := (hiff.mp w).2; omega
    · exact w g
  · have hb' : b < 2 ^ n := by rw [if_neg (by omega)] at hb; exact hb
    refine ⟨⟨by omega, by omega⟩, s_B_mostOf hN hT hpo rfl (by omega) ?_⟩
    rw [Int.toNat_natCast, htot _ hb']
    have ro := ow_r (kind := kind) hN hS hL (by omega) b
    have rs := mostS_r (co := co) hL h3L hN360 b (T := T) (by omega)
    have eo : sTot n (ow kind co su T L) b = sTot n su b := by
      unfold sTot
      refine sm_congr (fun p _ => ?_)
      unfold ow; rw [if_neg (show ¬ kind = 0 by omega), Int.sub_zero]
    refine ⟨⟨by omega, by omega⟩, ⟨by omega, by omega⟩, fun z => h0 (fun w => ?_), fun z => h1 (Or.inr ⟨by omega, hall.2 (by omega), Or.inl ⟨g, by omega⟩⟩)⟩
    rcases w with ⟨w, -⟩ | ⟨-, -, w⟩
    · omega
    · rcases w with w | w
      · omega
      · exact w.1 g
  · have hb' : b < 2 ^ n := by rw [if_neg g.1] at hb; exact hb
    refine ⟨⟨by omega, by omega⟩, s_B_leastOf hN hT hpo rfl (by omega) ?_⟩
    rw [Int.toNat_natCast, htot _ hb']
    have ro := ow_r (kind := kind) hN hS hL (by omega) b
    have rs := leastS_r (co := co) hL h3L hN360 b (T := T) (by omega)
    have eo : sTot n (ow kind co su T L) b = sTot n su b := by
      unfold sTot
      refine sm_congr (fun p _ => ?_)
      unfold ow; rw [if_neg g.1, Int.sub_zero]
    refine ⟨⟨by omega, by omega⟩, ⟨by omega, by omega⟩, fun z => h0 (fun w => ?_), fun z => h1 (Or.inr ⟨g.1, hall.2 g.1, Or.inr ⟨g.2, by omega⟩⟩)⟩
    rcases w with ⟨w, -⟩ | ⟨-, -, w⟩
    · exact g.1 w
    · rcases w with w | w
      · exact g.2 w.1
      · omega
theorem s_B_thirdsAtToldPosts {nThirds bTold : Int} {po : Nat → Int} {Q : Int → Prop} {n T tp : Nat} {co su : Nat → Int} (hN : NetOK n T co) (hT : nThirds = T) (hpo : ∀ k, k < T → po k = ((pk co k : Nat) : Int)) (e : bTold = tp) (htp : tp < 2 ^ n) (htb : ∀ p, tp.testBit p = true ↔ (p < n ∧ su p ≠ -1)) (hQ : ∀ al : Nat, al < 2 ^ T → (∀ k, al.testBit k = true ↔ (k < T ∧ ∀ c, c < 3 * T → c / 3 = k → su (co c).toNat ≠ -1)) → Q al) : wp_B_thirdsAtToldPosts nThirds bTold po Q := by
  have hle := hN.le
  have hp9 : 2 ^ n ≤ 512 := by have := Nat.pow_le_pow_right (n := 2) (by omega) hle.2.1; omega
  have hp12 := pow12 hle.2.2
  subst e; subst hT
  unfold wp_B_thirdsAtToldPosts
  refine lp2 (wp_B_thirdsAtToldPosts_4 Q T tp po) (fun x1 x2 => ∃ k al : Nat, k ≤ T ∧ x2 = k ∧ x1 = al ∧ al < 2 ^ k ∧ ∀ j, al.testBit j = true ↔ (j < k ∧ ∀ c, c < 3 * T → c / 3 = j → su (co c).toNat ≠ -1)) (fun _ x2 => (T - x2).toNat) ?_ _ _ ⟨0, 0, by omega, rfl, rfl, by decide, fun j => by rw [Nat.zero_testBit]; exact ⟨fun q => absurd q (by decide), fun q => by omega⟩⟩
  rintro f x1 x2 ⟨k, al, hk, rfl, rfl, hal, hb⟩ ih
  show wp_B_thirdsAtToldPosts_4_b _ _ _ _ _ _ _
  unfold wp_B_thirdsAtToldPosts_4_b
  have hkp : 2 ^ k ≤ 4096 := pow12 (by omega)
  refine ⟨jR_n (by omega), jR_n (by omega), fun h => ?_, fun h => ⟨⟨by omega, by omega⟩, ?_⟩⟩
  · have e : k = T := by omega
    subst e; exact hQ al hal hb
  · have hpl := pk_lt9 hN (k := k) (by omega)
    rw [Int.toNat_natCast, hpo k (by omega), jnot_n (by omega) (by omega)]
    have wb : ∀ i, (wo (pk co k) tp).testBit i = true ↔ ((pk co k).testBit i = true ∧ ¬ tp.testBit i = true) := wo_bit (by omega)
    have hwl := wo_le (pk co k) tp
    have hz : wo (pk co k) tp = 0 ↔ ∀ c, c < 3 * T → c / 3 = k → su (co c).toNat ≠ -1 := by
      constructor
      · intro h0 c hc hck
        have r := hN.co hc
        have hp : (pk co k).testBit (co c).toNat = true := by
          rw [pk_bit]
          have : c = 3 * k ∨ c = 3 * k + 1 ∨ c = 3 * k + 2 := by omega
          rcases this with w | w | w <;> subst w
          · exact Or.inl rfl
          · exact Or.inr (Or.inl rfl)
          · exact Or.inr (Or.inr rfl)
        have ht : tp.testBit (co c).toNat = true := by
          apply Classical.byContradiction
          intro q
          have := (wb (co c).toNat).mpr ⟨hp, q⟩
          rw [h0, Nat.zero_testBit] at this; cases this
        exact ((htb _).mp ht).2
      · intro hall
        apply Nat.eq_of_testBit_eq
        intro i
        rw [Nat.zero_testBit]
        cases hi : (wo (pk co k) tp).testBit i
        · rfl
        · exfalso
          obtain ⟨a, b⟩ := (wb i).mp hi
          apply b
          rw [htb]
          rcases (pk_bit co k i).mp a with w | w | w
          · have r := hN.co (c := 3 * k) (by omega)
            exact ⟨by omega, by rw [← w]; exact hall _ (by omega) (by omega)⟩
          · have r := hN.co (c := 3 * k + 1) (by omega)
            exact ⟨by omega, by rw [← w]; exact hall _ (by omega) (by omega)⟩
          · have r := hN.co (c := 3 * k + 2) (by omega)
            exact ⟨by omega, by rw [← w]; exact hall _ (by omega) (by omega)⟩
    refine ⟨jR_n (by omega), fun g => ?_, fun g => ?_⟩
    · rw [jshl_1 (by omega), jor_n (by omega) (by omega)]
      refine ih _ _ ⟨k + 1, al ||| 2 ^ k, by omega, by omega, rfl, Nat.or_lt_two_pow (by rw [Nat.pow_succ]; omega) (by rw [Nat.pow_succ]; have := Nat.two_pow_pos k; omega), fun j => ?_⟩ (by omega)
      rw [Nat.testBit_or, Bool.or_eq_true, hb, bit_pow, decide_eq_true_iff]
      constructor
      · rintro (⟨a, b⟩ | a)
        · exact ⟨by omega, b⟩
        · subst a; exact ⟨by omega, hz.mp (by omega)⟩
      · rintro ⟨a, b⟩
        by_cases e : k = j
        · exact Or.inr e
        · exact Or.inl ⟨by omega, b⟩
    · have := jor_n (a := al) (b := 0) (by omega) (by omega)
      rw [show ((0 : Nat) : Int) = 0 from rfl, Nat.or_zero] at this
      rw [this]
      refine ih _ _ ⟨k + 1, al, by omega, by omega, rfl, by rw [Nat.pow_succ]; omega, fun j => ?_⟩ (by omega)
      rw [hb]
      constructor
      · rintro ⟨a, b⟩; exact ⟨by omega, b⟩
      · rintro ⟨a, b⟩
        refine ⟨?_, b⟩
        by_cases e : j = k
        · subst e; exact absurd (hz.mpr b) (by omega)
        · omega
theorem Sub_le {a b : Nat} (h : Sub a b) : a ≤ b := by
  have e : a &&& b = a := by
    apply Nat.eq_of_testBit_eq
    intro i
    rw [Nat.testBit_and]
    cases hi : a.testBit i
    · rfl
    · rw [h i hi]; rfl
  rw [← e]; exact Nat.and_le_right
theorem s_B_fewest {x1 N L nPosts nThirds bTold bStraight bLeast : Int} {nCorners nSums bPostsOf bSets bTotals : Nat → Int} {Q : Int → Int → Int → Int → (Nat → Int) → (Nat → Int) → (Nat → Int) → Prop} {n T : Nat} {co su : Nat → Int} (hN : NetOK n T co) (hn : nPosts = n) (hT : nThirds = T) (hc : ∀ c, c < 3 * T → nCorners c = co c) (hs : ∀ p, p < 9 → nSums p = su p) (hS : SuOK su) (hL : 0 ≤ L) (h3L : 3 * L ≤ N) (hN360 : N ≤ 360) (hk : 0 ≤ x1 ∧ x1 ≤ 2) (h00 : bTotals 0 = 0) (hs0 : bSets 0 = 0) (hs64 : bSets 64 = 0)
    (hQ : ∀ bt po se tot, tot 0 = 0 → se 0 = 0 → se 64 = 0 → Q ((fw (PB x1 n T co su N L) (2 ^ (if x1 = 0 then T else n)) : Nat) : Int) bt N L po se tot) : wp_B_fewest x1 N L nPosts nThirds nCorners nSums bTold bStraight bLeast bPostsOf bSets bTotals Q := by
  have hle := hN.le
  have hp9 : 2 ^ n ≤ 512 := by have := Nat.pow_le_pow_right (n := 2) (by omega) hle.2.1; omega
  have hp12 := pow12 hle.2.2
  have hx1 : jR x1 := ⟨by omega, by omega⟩
  unfold wp_B_fewest
  refine s_B_lookAtPosts hN hn hT hc hs hS hx1 h00 (fun tp tot htp htb htot => s_B_lookAtThirds hN hT hc hs0 hs64 (fun po se hpo hse => ?_))
  have main : ∀ al : Nat, al < 2 ^ (if x1 = 0 then T else n) → (∀ b : Nat, b < 2 ^ (if x1 = 0 then T else n) → (Sub b al ↔ ((x1 = 0 → ∀ c, c < 3 * T → b.testBit (c / 3) = true → su (co c).toNat ≠ -1) ∧ (x1 ≠ 0 → ∀ p, p < n → b.testBit p = true → su p ≠ -1)))) → ∃ f, wp_B_fewest_42 Q nThirds x1 al tp N L po se tot f 0 1 := by
    intro al hal hsub
    have hA : 2 ^ (if x1 = 0 then T else n) ≤ 4096 := by split <;> omega
    have notsub : ∀ b : Nat, b < 2 ^ (if x1 = 0 then T else n) → ¬ Sub b al → ¬ PB x1 n T co su N L b := by
      intro b hb hns hP
      apply hns
      rw [hsub b hb]
      rcases hP with ⟨q, w⟩ | ⟨q, w⟩
      · exact ⟨fun _ => w.1, fun z => absurd q z⟩
      · exact ⟨fun z => absurd z q, fun _ => w.1⟩
    refine lp2 (wp_B_fewest_42 Q nThirds x1 al tp N L po se tot) (fun x5 x6 => ∃ k : Nat, 1 ≤ k ∧ k ≤ al + 1 ∧ x6 = k ∧ x5 = ((fw (PB x1 n T co su N L) k : Nat) : Int)) (fun _ x6 => ((al : Int) + 1 - x6).toNat) ?_ _ _ ⟨1, by omega, by omega, rfl, by rw [fw_1]; rfl⟩
    rintro f x5 x6 ⟨k, hk1, hk2, rfl, rfl⟩ ih
    show wp_B_fewest_42_b _ _ _ _ _ _ _ _ _ _ _ _ _
    unfold wp_B_fewest_42_b
    have hf := fw_le (PB x1 n T co su N L) k
    have look : ∀ t0 : Int, (t0 = 0 ∨ t0 = 1) → (t0 = 1 ↔ (fw (PB x1 n T co su N L) k = 0 ∨ cb k < cb (fw (PB x1 n T co su N L) k))) → k ≤ al → wp_B_fewest_72 (wp_B_fewest_42 Q nThirds x1 al tp N L po se tot f) Q nThirds x1 al tp N L po se tot ((fw (PB x1 n T co su N L) k : Nat) : Int) k t0 := by
      intro t0 ht hti hkal
      unfold wp_B_fewest_72
      have stay : ¬ (t0 = 1 ∧ PB x1 n T co su N L k) → wp_B_fewest_42 Q nThirds x1 al tp N L po se tot f ((fw (PB x1 n T co su N L) k : Nat) : Int) (k + 1) := fun q => ih _ _ ⟨k + 1, by omega, by omega, by omega, by rw [fw_f (fun w => q ⟨hti.mpr w.2.1, w.2.2⟩)]⟩ (by omega)
      refine ⟨by rcases ht with q | q <;> subst q <;> (unfold jR; decide), fun g => stay (fun q => by omega), fun g => ?_⟩
      have ht1 : t0 = 1 := by omega
      have wb : ∀ i, (wo k al).testBit i = true ↔ (k.testBit i = true ∧ ¬ al.testBit i = true) := wo_bit (by omega)
      have hwl := wo_le k al
      have hz : wo k al = 0 ↔ Sub k al := by
        constructor
        · intro h0 i hi
          apply Classical.byContradiction
          intro q
          have := (wb i).mpr ⟨hi, q⟩
          rw [h0, Nat.zero_testBit] at this; cases this
        · intro h
          apply Nat.eq_of_testBit_eq
          intro i
          rw [Nat.zero_testBit]
          cases hi : (wo k al).testBit i
          · rfl
          · obtain ⟨a, b⟩ := (wb i).mp hi
            exact absurd (h i a) b
      rw [jnot_n (by omega) (by omega)]
      refine ⟨jR_n (by omega), fun g2 => ?_, fun g2 => stay (fun q => notsub k (by omega) (fun w => g2 (by rw [hz.mpr w]; rfl)) q.2)⟩
      refine s_B_isBar hN hT hS hL h3L hN360 hpo hse htot hk rfl (by omega) ((hsub k (by omega)).mp (hz.mp (by omega))) (fun q => ⟨jR01_1, fun w => absurd w (by decide), fun _ => ih _ _ ⟨k + 1, by omega, by omega, by omega, by rw [fw_t ⟨by omega, hti.mp ht1, q⟩]⟩ (by omega)⟩) (fun q => ⟨jR01_0, fun _ => stay (fun w => q w.2), fun w => absurd rfl w⟩)
    refine ⟨jR_n (by omega), jR_n (by omega), fun h => ?_, fun h => ⟨jR_n (by omega), fun g => ?_, fun g => ?_⟩⟩
    · have ek : k = al + 1 := by omega
      have e : fw (PB x1 n T co su N L) (2 ^ (if x1 = 0 then T else n)) = fw (PB x1 n T co su N L) k := fw_ext (by omega) (fun b h1 h2 => notsub b h2 (fun q => by have := Sub_le q; omega))
      rw [← e]
      refine hQ _ _ _ _ ?_ ?_ ?_
      · rw [htot 0 (Nat.two_pow_pos n)]
        unfold sTot
        exact sm_zero (fun i _ => by rw [Nat.zero_testBit]; rfl)
      · rw [hse.1 0 (Nat.two_pow_pos _), tcn_0]; rfl
      · have := hse.2 0 (Nat.two_pow_pos _)
        rw [this, Nat.mul_zero, tcn_0]; rfl
    · exact look 1 (Or.inr rfl) ⟨fun _ => Or.inl (by omega), fun _ => rfl⟩ (by omega)
    · refine s_I_bitCount rfl (by omega) (s_I_bitCount rfl (by omega) ?_)
      have r1 := cb_r k
      have r2 := cb_r (fw (PB x1 n T co su N L) k)
      refine ⟨⟨by omega, by omega⟩, ⟨by omega, by omega⟩, fun g2 => look 0 (Or.inl rfl) ⟨fun q => absurd q (by decide), fun q => by rcases q with q | q <;> omega⟩ (by omega), fun g2 => look 1 (Or.inr rfl) ⟨fun _ => Or.inr (by omega), fun _ => rfl⟩ (by omega)⟩
  refine ⟨hx1, fun g => ?_, fun g => ?_⟩
  · refine s_B_thirdsAtToldPosts hN hT hpo rfl htp htb (fun al hal hab => main al (by rw [if_pos g]; exact hal) (fun b hb => ?_))
    rw [if_pos g] at hb
    constructor
    · intro h
      refine ⟨fun _ c hc hbc => ((hab _).mp (h _ hbc)).2 c hc rfl, fun z => absurd g z⟩
    · rintro ⟨h, -⟩ j hj
      rw [hab]
      exact ⟨bit_lt hb hj, fun c hc hcj => h g c hc (by rw [hcj]; exact hj)⟩
  · refine main tp (by rw [if_neg g]; exact htp) (fun b hb => ?_)
    rw [if_neg g] at hb
    constructor
    · intro h
      exact ⟨fun z => absurd z g, fun _ p hp hbp => ((htb p).mp (h p hbp)).2⟩
    · rintro ⟨-, h⟩ j hj
      rw [htb]
      have := bit_lt hb hj
      exact ⟨this, h g j this hj⟩

/-! bars: what they are -/
def tcn (co : Nat → Int) (b : Nat) : Nat → Nat
  | 0 => 0
  | c + 1 => if b.testBit (c / 3) = true then tcn co b c ||| 2 ^ (co c).toNat else tcn co b c
theorem tcn_bit (co : Nat → Int) (b p : Nat) : ∀ C, (tcn co b C).testBit p = true ↔ ∃ c, c < C ∧ b.testBit (c / 3) = true ∧ (co c).toNat = p := by
  intro C
  induction C with
  | zero =>
    show (0 : Nat).testBit p = true ↔ _
    rw [Nat.zero_testBit]
    exact ⟨fun q => absurd q (by decide), fun ⟨c, h, _⟩ => by omega⟩
  | succ C ih =>
    show (if b.testBit (C / 3) = true then tcn co b C ||| 2 ^ (co C).toNat else tcn co b C).testBit p = true ↔ _
    by_cases h : b.testBit (C / 3) = true
    · rw [if_pos h, Nat.testBit_or, Bool.or_eq_true, ih, bit_pow]
      constructor
      · rintro (⟨c, h1, h2⟩ | q)
        · exact ⟨c, by omega, h2⟩
        · exact ⟨C, by omega, h, of_decide_eq_true q⟩
      · rintro ⟨c, h1, h2, h3⟩
        by_cases hc : c = C
        · subst hc; exact Or.inr (decide_eq_true h3)
        · exact Or.inl ⟨c, by omega, h2, h3⟩
    · rw [if_neg h, ih]
      constructor
      · rintro ⟨c, h1, h2⟩; exact ⟨c, by omega, h2⟩
      · rintro ⟨c, h1, h2, h3⟩
        by_cases hc : c = C
        · subst hc; exact absurd h2 h
        · exact ⟨c, by omega, h2, h3⟩
theorem tcn_lt {n T : Nat} {co : Nat → Int} (hN : NetOK n T co) (b : Nat) : ∀ C, C ≤ 3 * T → tcn co b C < 2 ^ n := by
  intro C
  induction C with
  | zero => intro _; exact Nat.two_pow_pos n
  | succ C ih =>
    intro hC
    show (if b.testBit (C / 3) = true then tcn co b C ||| 2 ^ (co C).toNat else tcn co b C) < 2 ^ n
    have h := ih (by omega)
    split
    · have r := hN.co (c := C) (by omega)
      exact Nat.or_lt_two_pow h (Nat.pow_lt_pow_right (by omega) (by omega))
    · exact h
def sTot (n : Nat) (f : Nat → Int) (s : Nat) : Int := sm n (fun p => if s.testBit p = true then f p else 0)
theorem sTot_r {su : Nat → Int} (hS : SuOK su) {n : Nat} (h9 : n ≤ 9) (s : Nat) : -9 ≤ sTot n su s ∧ sTot n su s ≤ 36000 := by
  unfold sTot
  have h1 := sm_le (n := n) (f := fun p => if s.testBit p = true then su p else 0) (g := fun _ => 4000) (fun i hi => by have := hS i (by omega); split <;> omega)
  have h2 := sm_le (n := n) (f := fun _ => -1) (g := fun p => if s.testBit p = true then su p else 0) (fun i hi => by have := hS i (by omega); split <;> omega)
  rw [sm_const] at h1 h2
  omega
def lossT (T : Nat) (co : Nat → Int) (L : Int) (b : Nat) (C : Nat) : Int := sm C (fun c => if ¬ b.testBit (c / 3) = true ∧ (tcn co b (3 * T)).testBit (co c).toNat = true then L else 0)
def PT (n T : Nat) (co su : Nat → Int) (N L : Int) (b : Nat) : Prop := (∀ c, c < 3 * T → b.testBit (c / 3) = true → su (co c).toNat ≠ -1) ∧ sTot n su (tcn co b (3 * T)) - lossT T co L b (3 * T) < N * cb b
theorem mul_bd {N c : Int} (h1 : 0 ≤ N) (h2 : N ≤ 360) (h3 : 0 ≤ c) (h4 : c ≤ 12) : 0 ≤ N * c ∧ N * c ≤ 4320 := by
  have a := Int.mul_nonneg h1 h3
  have b := Int.mul_le_mul h2 h4 h3 (by omega : (0 : Int) ≤ 360)
  omega
theorem lossT_r {T : Nat} {co : Nat → Int} {L : Int} (h0 : 0 ≤ L) (h60 : L ≤ 1000) (b C : Nat) (hC : C ≤ 36) : 0 ≤ lossT T co L b C ∧ lossT T co L b C ≤ 36000 := by
  unfold lossT
  have h1 := sm_le (n := C) (f := fun c => if ¬ b.testBit (c / 3) = true ∧ (tcn co b (3 * T)).testBit (co c).toNat = true then L else 0) (g := fun _ => 1000) (fun i hi => by split <;> omega)
  have h2 := sm_nonneg (n := C) (f := fun c => if ¬ b.testBit (c / 3) = true ∧ (tcn co b (3 * T)).testBit (co c).toNat = true then L else 0) (fun i hi => by split <;> omega)
  rw [sm_const] at h1
  omega
theorem s_M_thirdsBar {n T b : Nat} {co su : Nat → Int} {x1 mPosts mThirds N L : Int} {mCorner mSum : Nat → Int} {Q : Int → Prop} (hN : NetOK n T co) (hn : mPosts = n) (hT : mThirds = T) (hc : ∀ c, c < 3 * T → mCorner c = co c) (hs : ∀ p, p < 9 → mSum p = ms su p) (hS : SuOK su) (hL : 0 ≤ L) (hL60 : L ≤ 1000) (hN0 : 0 ≤ N) (hN360 : N ≤ 360) (e1 : x1 = b) (hb : b < 4096) (h1 : PT n T co su N L b → Q 1) (h0 : ¬ PT n T co su N L b → Q 0) : wp_M_thirdsBar x1 mPosts mThirds N L mCorner mSum Q := by
  have hle := hN.le
  subst e1; subst hn; subst hT
  unfold wp_M_thirdsBar
  have ed : ∀ j : Nat, j < 36 → jdiv (j : Int) 3 = ((j / 3 : Nat) : Int) := fun j hj => by rw [jdiv_n (by omega) (by omega) (by omega) (by omega)]; omega
  refine lp2 (wp_M_thirdsBar_4 Q n T N L mCorner mSum b) (fun x2 x3 => ∃ j : Nat, j ≤ 3 * T ∧ x3 = j ∧ x2 = ((tcn co b j : Nat) : Int) ∧ ∀ c, c < j → b.testBit (c / 3) = true → su (co c).toNat ≠ -1) (fun _ x3 => (3 * T - x3).toNat) ?_ _ _ ⟨0, by omega, rfl, rfl, fun c h => by omega⟩
  rintro f x2 x3 ⟨j, hj, rfl, rfl, htold⟩ ih
  show wp_M_thirdsBar_4_b _ _ _ _ _ _ _ _ _ _ _
  unfold wp_M_thirdsBar_4_b
  have htl := tcn_lt hN b j hj
  have hp9 : 2 ^ n ≤ 4096 := pow12 (by omega)
  refine ⟨jR_n (by omega), ⟨by omega, by omega⟩, fun h => ?_, fun h => ?_⟩
  · have ej : j = 3 * T := by omega
    subst ej
    have tt : ∀ p, (tcn co b (3 * T)).testBit p = true → su p ≠ -1 := by
      intro p hp
      obtain ⟨c, c1, c2, c3⟩ := (tcn_bit co b p (3 * T)).mp hp
      rw [← c3]; exact htold c c1 c2
    refine lp2 (wp_M_thirdsBar_65 Q n T N L mCorner mSum b (tcn co b (3 * T))) (fun x3 x4 => ∃ j : Nat, j ≤ n ∧ x4 = j ∧ x3 = sTot j su (tcn co b (3 * T))) (fun _ x4 => (n - x4).toNat) ?_ _ _ ⟨0, by omega, rfl, rfl⟩
    rintro f2 x3 x4 ⟨i, hi, rfl, rfl⟩ ih2
    show wp_M_thirdsBar_65_b _ _ _ _ _ _ _ _ _ _ _ _
    unfold wp_M_thirdsBar_65_b
    refine ⟨jR_n (by omega), jR_n (by omega), fun g => ?_, fun g => ?_⟩
    · have ei : i = n := by omega
      subst ei
      refine lp2 (wp_M_thirdsBar_107 Q T N L mCorner b (tcn co b (3 * T))) (fun x3 x4 => ∃ j : Nat, j ≤ 3 * T ∧ x4 = j ∧ x3 = sTot i su (tcn co b (3 * T)) - lossT T co L b j) (fun _ x4 => (3 * T - x4).toNat) ?_ _ _ ⟨0, by omega, rfl, by show _ = _ - sm 0 _; rw [sm_0]; omega⟩
      rintro f3 x3 x4 ⟨c, hcT, rfl, rfl⟩ ih3
      show wp_M_thirdsBar_107_b _ _ _ _ _ _ _ _ _ _
      unfold wp_M_thirdsBar_107_b
      have r1 := sTot_r hS (n := i) (by omega) (tcn co b (3 * T))
      have r2 := lossT_r (T := T) (co := co) hL hL60 b c (by omega)
      have r3 := cb_r b
      have r4 := mul_bd hN0 hN360 r3.1 r3.2
      refine ⟨jR_n (by omega), ⟨by omega, by omega⟩, fun g2 => ?_, fun g2 => ?_⟩
      · have ec : c = 3 * T := by omega
        subst ec
        refine s_M_bits rfl hb ⟨⟨by omega, by omega⟩, ⟨by omega, by omega⟩, fun g3 => h0 (fun q => ?_), fun g3 => h1 ⟨htold, ?_⟩⟩
        · have := q.2; omega
        · omega
      · have next : ∀ y : Int, y = (if ¬ b.testBit (c / 3) = true ∧ (tcn co b (3 * T)).testBit (co c).toNat = true then L else 0) → wp_M_thirdsBar_107 Q T N L mCorner b (tcn co b (3 * T)) f3 (sTot i su (tcn co b (3 * T)) - lossT T co L b c - y) (c + 1) := by
          intro y hy
          refine ih3 _ _ ⟨c + 1, by omega, by omega, ?_⟩ (by omega)
          show _ = _ - sm (c + 1) _
          rw [sm_s, ← hy]
          show _ - sm c _ - y = _
          omega
        have rc := hN.co9 (c := c) (by omega)
        have eco : co c = (((co c).toNat : Nat) : Int) := by omega
        rw [ed c (by omega), jbit (by omega) (by omega)]
        have q1 := bi_r b (c / 3)
        have q2 := bi_r (tcn co b (3 * T)) (co c).toNat
        refine ⟨⟨by omega, by omega⟩, fun g3 => ⟨⟨by omega, by omega⟩, ?_⟩, fun g3 => next 0 ?_⟩
        · rw [Int.toNat_natCast, hc c (by omega), eco, jbit (by omega) (by omega)]
          refine ⟨⟨by omega, by omega⟩, fun g4 => next L ?_, fun g4 => next 0 ?_⟩
          · exact (if_pos ⟨bi_0.mp g3, bi_1.mp g4⟩).symm
          · exact (if_neg (fun q => g4 (bi_1.mpr q.2))).symm
        · exact (if_neg (fun q => g3 (bi_0.mpr q.1))).symm
    · rw [jbit (by omega) (by omega)]
      have q1 := bi_r (tcn co b (3 * T)) i
      refine ⟨⟨by omega, by omega⟩, fun g2 => ⟨⟨by omega, by omega⟩, ih2 _ _ ⟨i + 1, by omega, by omega, ?_⟩ (by omega)⟩, fun g2 => ih2 _ _ ⟨i + 1, by omega, by omega, ?_⟩ (by omega)⟩
      · show _ = sm (i + 1) _
        rw [sm_s, if_pos (bi_1.mp g2), Int.toNat_natCast, hs i (by omega)]
        unfold ms
        rw [if_neg (tt i (bi_1.mp g2))]; rfl
      · show _ = sm (i + 1) _
        rw [sm_s, if_neg (fun q => g2 (bi_1.mpr q))]; rfl
  · have rc := hN.co9 (c := j) (by omega)
    have eco : co j = (((co j).toNat : Nat) : Int) := by omega
    rw [ed j (by omega), jbit (by omega) (by omega), Int.toNat_natCast, hc j (by omega)]
    have q1 := bi_r b (j / 3)
    have q3 := hS (co j).toNat (by omega)
    refine ⟨⟨by omega, by omega⟩, fun g => ⟨⟨by omega, by omega⟩, ⟨by omega, by omega⟩, ?_⟩, fun g => ih _ _ ⟨j + 1, by omega, by omega, ?_, fun c hcj hbc => ?_⟩ (by omega)⟩
    · rw [hs _ (by omega)]
      have em : ms su (co j).toNat = -6 ↔ su (co j).toNat = -1 := by unfold ms; split <;> omega
      refine ⟨by unfold ms; split <;> exact ⟨by omega, by omega⟩, fun g2 => h0 (fun q => q.1 j (by omega) (bi_1.mp g) (em.mp g2)), fun g2 => ?_⟩
      have hpw : 2 ^ (co j).toNat ≤ 4096 := pow12 (by omega)
      rw [eco, jshl_1 (by omega), jor_n (by omega) (by omega)]
      refine ih _ _ ⟨j + 1, by omega, by omega, ?_, fun c hcj hbc => ?_⟩ (by omega)
      · show _ = ((if b.testBit (j / 3) = true then tcn co b j ||| 2 ^ (co j).toNat else tcn co b j : Nat) : Int)
        rw [if_pos (bi_1.mp g)]
      · by_cases e : c = j
        · subst e; exact fun q => g2 (em.mpr q)
        · exact htold c (by omega) hbc
    · show _ = ((if b.testBit (j / 3) = true then tcn co b j ||| 2 ^ (co j).toNat else tcn co b j : Nat) : Int)
      rw [if_neg (fun q => g (bi_1.mpr q))]
    · by_cases e : c = j
      · subst e; exact absurd (bi_1.mpr hbc) g
      · exact htold c (by omega) hbc
/-! sets of posts -/
def th (co : Nat → Int) (b k : Nat) : Int := bi b (co (3 * k)).toNat + bi b (co (3 * k + 1)).toNat + bi b (co (3 * k + 2)).toNat
theorem th_r (co : Nat → Int) (b k : Nat) : 0 ≤ th co b k ∧ th co b k ≤ 3 := by
  unfold th
  have h1 := bi_r b (co (3 * k)).toNat
  have h2 := bi_r b (co (3 * k + 1)).toNat
  have h3 := bi_r b (co (3 * k + 2)).toNat
  omega
def mo (N L t : Int) : Int := if t = 0 then 0 else N - L * (3 - t)
def du (N L t : Int) : Int := if t = 3 then N else L * t
theorem mo_r {N L t : Int} (hL : 0 ≤ L) (h3 : 3 * L ≤ N) (hN : N ≤ 360) (t0 : 0 ≤ t) (t3 : t ≤ 3) : 0 ≤ mo N L t ∧ mo N L t ≤ 360 := by
  have : t = 0 ∨ t = 1 ∨ t = 2 ∨ t = 3 := by omega
  unfold mo
  rcases this with q | q | q | q <;> subst q <;> simp <;> omega
theorem du_r {N L t : Int} (hL : 0 ≤ L) (h3 : 3 * L ≤ N) (hN : N ≤ 360) (t0 : 0 ≤ t) (t3 : t ≤ 3) : 0 ≤ du N L t ∧ du N L t ≤ 360 := by
  have : t = 0 ∨ t = 1 ∨ t = 2 ∨ t = 3 := by omega
  unfold du
  rcases this with q | q | q | q <;> subst q <;> simp <;> omega
def mostS (co : Nat → Int) (N L : Int) (b T : Nat) : Int := sm T (fun k => mo N L (th co b k))
def leastS (co : Nat → Int) (N L : Int) (b T : Nat) : Int := sm T (fun k => du N L (th co b k))
theorem mostS_r {co : Nat → Int} {N L : Int} (hL : 0 ≤ L) (h3 : 3 * L ≤ N) (hN : N ≤ 360) (b : Nat) {T : Nat} (h12 : T ≤ 12) : 0 ≤ mostS co N L b T ∧ mostS co N L b T ≤ 4320 := by
  unfold mostS
  have h1 := sm_le (n := T) (f := fun k => mo N L (th co b k)) (g := fun _ => 360) (fun i _ => (mo_r hL h3 hN (th_r co b i).1 (th_r co b i).2).2)
  have h2 := sm_nonneg (n := T) (f := fun k => mo N L (th co b k)) (fun i _ => (mo_r hL h3 hN (th_r co b i).1 (th_r co b i).2).1)
  rw [sm_const] at h1
  omega
theorem leastS_r {co : Nat → Int} {N L : Int} (hL : 0 ≤ L) (h3 : 3 * L ≤ N) (hN : N ≤ 360) (b : Nat) {T : Nat} (h12 : T ≤ 12) : 0 ≤ leastS co N L b T ∧ leastS co N L b T ≤ 4320 := by
  unfold leastS
  have h1 := sm_le (n := T) (f := fun k => du N L (th co b k)) (g := fun _ => 360) (fun i _ => (du_r hL h3 hN (th_r co b i).1 (th_r co b i).2).2)
  have h2 := sm_nonneg (n := T) (f := fun k => du N L (th co b k)) (fun i _ => (du_r hL h3 hN (th_r co b i).1 (th_r co b i).2).1)
  rw [sm_const] at h1
  omega
def PP (way : Int) (n T : Nat) (co su : Nat → Int) (N L : Int) (b : Nat) : Prop := (∀ p, p < n → b.testBit p = true → su p ≠ -1) ∧ ((way = 1 ∧ mostS co N L b T < sTot n su b) ∨ (way ≠ 1 ∧ sTot n su b < leastS co N L b T))
theorem s_M_postsBar {n T b : Nat} {co su : Nat → Int} {x1 x2 mPosts mThirds N L : Int} {mCorner mSum : Nat → Int} {Q : Int → Prop} (hN : NetOK n T co) (hn : mPosts = n) (hT : mThirds = T) (hc : ∀ c, c < 3 * T → mCorner c = co c) (hs : ∀ p, p < 9 → mSum p = ms su p) (hS : SuOK su) (hL : 0 ≤ L) (h3L : 3 * L ≤ N) (hN360 : N ≤ 360) (e1 : x1 = b) (hb : b < 4096) (hx2 : jR x2) (h1 : PP x2 n T co su N L b → Q 1) (h0 : ¬ PP x2 n T co su N L b → Q 0) : wp_M_postsBar x1 x2 mPosts mThirds N L mCorner mSum Q := by
  have hle := hN.le
  subst e1; subst hn; subst hT
  unfold wp_M_postsBar
  refine lp2 (wp_M_postsBar_5 Q n T N L mCorner mSum b x2) (fun x3 x4 => ∃ j : Nat, j ≤ n ∧ x4 = j ∧ x3 = sTot j su b ∧ ∀ p, p < j → b.testBit p = true → su p ≠ -1) (fun _ x4 => (n - x4).toNat) ?_ _ _ ⟨0, by omega, rfl, rfl, fun p h => by omega⟩
  rintro f x3 x4 ⟨j, hj, rfl, rfl, htold⟩ ih
  show wp_M_postsBar_5_b _ _ _ _ _ _ _ _ _ _ _ _
  unfold wp_M_postsBar_5_b
  refine ⟨jR_n (by omega), jR_n (by omega), fun h => ?_, fun h => ?_⟩
  · have ej : j = n := by omega
    subst ej
    have r1 := sTot_r hS (n := j) (by omega) b
    refine lp3 (wp_M_postsBar_63 Q T N L mCorner b x2 (sTot j su b)) (fun x4 x5 x6 => ∃ k : Nat, k ≤ T ∧ x6 = k ∧ x4 = mostS co N L b k ∧ x5 = leastS co N L b k) (fun _ _ x6 => (T - x6).toNat) ?_ _ _ _ ⟨0, by omega, rfl, rfl, rfl⟩
    rintro f2 x4 x5 x6 ⟨k, hk, rfl, rfl, rfl⟩ ih2
    show wp_M_postsBar_63_b _ _ _ _ _ _ _ _ _ _ _ _
    unfold wp_M_postsBar_63_b
    have r2 := mostS_r (co := co) hL h3L hN360 b (T := k) (by omega)
    have r3 := leastS_r (co := co) hL h3L hN360 b (T := k) (by omega)
    refine ⟨jR_n (by omega), jR_n (by omega), fun g => ?_, fun g => ?_⟩
    · have ek : k = T := by omega
      subst ek
      refine ⟨hx2, fun w => ⟨⟨by omega, by omega⟩, ⟨by omega, by omega⟩, fun q => h0 (fun z => ?_), fun q => h1 ⟨htold, Or.inl ⟨w, by omega⟩⟩⟩, fun w => ⟨⟨by omega, by omega⟩, ⟨by omega, by omega⟩, fun q => h0 (fun z => ?_), fun q => h1 ⟨htold, Or.inr ⟨w, by omega⟩⟩⟩⟩
      · rcases z.2 with z | z
        · omega
        · exact z.1 w
      · rcases z.2 with z | z
        · exact w z.1
        · omega
    · refine lp2 (wp_M_postsBar_78 (wp_M_postsBar_63 Q T N L mCorner b x2 (sTot j su b) f2) Q T N L mCorner b x2 (sTot j su b) (mostS co N L b k) (leastS co N L b k) k) (fun x7 x8 => ∃ i : Nat, i ≤ 3 ∧ x8 = i ∧ x7 = sm i (fun i => bi b (co (3 * k + i)).toNat)) (fun _ x8 => (3 - x8).toNat) ?_ _ _ ⟨0, by omega, rfl, rfl⟩
      rintro f3 x7 x8 ⟨i, hi, rfl, rfl⟩ ih3
      show wp_M_postsBar_78_b _ _ _ _ _ _ _ _ _ _ _ _ _ _ _
      unfold wp_M_postsBar_78_b
      refine ⟨jR_n (by omega), fun g2 => ?_, fun g2 => ?_⟩
      · have ei : i = 3 := by omega
        subst ei
        have et : sm 3 (fun i => bi b (co (3 * k + i)).toNat) = th co b k := by
          show 0 + bi b (co (3 * k + 0)).toNat + bi b (co (3 * k + 1)).toNat + bi b (co (3 * k + 2)).toNat = _
          unfold th; rw [Nat.add_zero]; omega
        rw [et]
        have rt := th_r co b k
        have next : ∀ y : Int, y = mo N L (th co b k) → wp_M_postsBar_136 (wp_M_postsBar_63 Q T N L mCorner b x2 (sTot j su b) f2) Q T N L mCorner b x2 (sTot j su b) (leastS co N L b k) k (th co b k) (mostS co N L b k) y := by
          intro y hy
          unfold wp_M_postsBar_136
          refine ⟨⟨by omega, by omega⟩, fun w => ih2 _ _ _ ⟨k + 1, by omega, by omega, ?_, ?_⟩ (by omega), fun w => ih2 _ _ _ ⟨k + 1, by omega, by omega, ?_, ?_⟩ (by omega)⟩
          · rw [hy]; rfl
          · show _ = sm k _ + du N L (th co b k)
            unfold du; rw [if_pos w]; rfl
          · rw [hy]; rfl
          · show _ = sm k _ + du N L (th co b k)
            unfold du; rw [if_neg w]; rfl
        refine ⟨⟨by omega, by omega⟩, fun w => next 0 ?_, fun w => next _ ?_⟩
        · unfold mo; rw [if_pos w]
        · unfold mo; rw [if_neg w]
      · have ea : ((3 : Int) * (k : Int) + (i : Int)) = ((3 * k + i : Nat) : Int) := by omega
        have rc := hN.co9 (c := 3 * k + i) (by omega)
        have eco : co (3 * k + i) = (((co (3 * k + i)).toNat : Nat) : Int) := by omega
        rw [ea, Int.toNat_natCast, hc _ (by omega), eco, jbit (by omega) (by omega)]
        exact ⟨⟨by omega, by omega⟩, ih3 _ _ ⟨i + 1, by omega, by omega, by rw [sm_s]⟩ (by omega)⟩
  · rw [jbit (by omega) (by omega), Int.toNat_natCast, hs j (by omega)]
    have q1 := bi_r b j
    have q3 := hS j (by omega)
    have em : ms su j = -6 ↔ su j = -1 := by unfold ms; split <;> omega
    refine ⟨⟨by omega, by omega⟩, fun g => ⟨⟨by omega, by omega⟩, by unfold ms; split <;> exact ⟨by omega, by omega⟩, fun g2 => h0 (fun z => z.1 j (by omega) (bi_1.mp g) (em.mp g2)), fun g2 => ih _ _ ⟨j + 1, by omega, by omega, ?_, fun p hp hbp => ?_⟩ (by omega)⟩, fun g => ih _ _ ⟨j + 1, by omega, by omega, ?_, fun p hp hbp => ?_⟩ (by omega)⟩
    · show _ = sm (j + 1) _
      rw [sm_s, if_pos (bi_1.mp g)]
      unfold ms
      rw [if_neg (fun q => g2 (em.mpr q))]; rfl
    · by_cases e : p = j
      · subst e; exact fun q => g2 (em.mpr q)
      · exact htold p (by omega) hbp
    · show _ = sm (j + 1) _
      rw [sm_s, if_neg (fun q => g (bi_1.mpr q)), Int.add_zero]; rfl
    · by_cases e : p = j
      · subst e; exact absurd (bi_1.mpr hbp) g
      · exact htold p (by omega) hbp

/-! sets as bits -/
theorem bit_pow (k j : Nat) : (2 ^ k).testBit j = decide (k = j) := Nat.testBit_two_pow
theorem and_ne {a b : Nat} : (a &&& b) ≠ 0 ↔ ∃ k, a.testBit k = true ∧ b.testBit k = true := by
  constructor
  · intro h
    apply Classical.byContradiction
    intro hn
    apply h
    apply Nat.eq_of_testBit_eq
    intro i
    rw [Nat.testBit_and, Nat.zero_testBit]
    cases e1 : a.testBit i
    · rfl
    · cases e2 : b.testBit i
      · rfl
      · exact absurd ⟨i, e1, e2⟩ hn
  · rintro ⟨k, h1, h2⟩ h
    have := congrArg (fun x => x.testBit k) h
    simp [Nat.testBit_and, h1, h2] at this
theorem bit_lt {b k : Nat} {T : Nat} (hb : b < 2 ^ T) (h : b.testBit k = true) : k < T := by
  rcases Nat.lt_or_ge k T with q | q
  · exact q
  · have : b < 2 ^ k := Nat.lt_of_lt_of_le hb (Nat.pow_le_pow_right (by omega) q)
    rw [Nat.testBit_lt_two_pow this] at h; cases h
def bo (co : Nat → Int) (T : Nat) (p q : Int) : Nat := if av co p q (3 * T) = -1 then 0 else 2 ^ (av co p q (3 * T)).toNat
theorem bo_bit (co : Nat → Int) (T : Nat) (p q : Int) (k : Nat) : (bo co T p q).testBit k = true ↔ av co p q (3 * T) = k := by
  have r := av_lt (T := T) (co := co) (p := p) (q := q)
  unfold bo
  by_cases h : av co p q (3 * T) = -1
  · rw [if_pos h, Nat.zero_testBit]; constructor
    · intro q; cases q
    · intro q; omega
  · rw [if_neg h, bit_pow]
    constructor
    · intro q; have := of_decide_eq_true q; omega
    · intro q; exact decide_eq_true (by omega)
theorem bo_lt (co : Nat → Int) (T : Nat) (p q : Int) : bo co T p q < 2 ^ T := by
  have r := av_lt (T := T) (co := co) (p := p) (q := q)
  unfold bo
  split
  · exact Nat.two_pow_pos T
  · exact Nat.pow_lt_pow_right (by omega) (by omega)
theorem pow12 {T : Nat} (h : T ≤ 12) : 2 ^ T ≤ 4096 := by
  have := Nat.pow_le_pow_right (n := 2) (by omega) h
  omega
theorem s_N_bitOf {x1 x2 : Int} {nArrows : Nat → Int} {Q : Int → Prop} {T : Nat} {co : Nat → Int} (hA : ArOK T co nArrows) (h12 : T ≤ 12) (a1 : 0 ≤ x1) (a2 : x1 < 9) (a3 : 0 ≤ x2) (a4 : x2 < 9) (hQ : Q ((bo co T x1 x2 : Nat) : Int)) : wp_N_bitOf x1 x2 nArrows Q := by
  have r := av_lt (T := T) (co := co) (p := x1) (q := x2)
  unfold wp_N_bitOf
  unfold bo at hQ
  refine s_N_hasArrow hA h12 a1 a2 a3 a4 (fun h => ⟨jR01_0, fun _ => ?_, fun h => absurd rfl h⟩) (fun h => ⟨jR01_1, fun h => absurd h (by decide), fun _ => s_N_thirdWith hA a1 a2 a3 a4 ?_⟩)
  · rw [if_pos h] at hQ; exact hQ
  · rw [if_neg h] at hQ
    rw [show av co x1 x2 (3 * T) = (((av co x1 x2 (3 * T)).toNat : Nat) : Int) by omega, jshl_1 (by omega)]; exact hQ
theorem s_N_thirdsAt {x1 nPosts : Int} {nArrows : Nat → Int} {Q : Int → Prop} {n T : Nat} {co : Nat → Int} (hn : nPosts = n) (h9 : n ≤ 9) (hA : ArOK T co nArrows) (h12 : T ≤ 12) (a1 : 0 ≤ x1) (a2 : x1 < 9) (hQ : ∀ b : Nat, b < 2 ^ T → (∀ k, b.testBit k = true ↔ ∃ q : Nat, q < n ∧ av co x1 q (3 * T) = k) → Q b) : wp_N_thirdsAt x1 nPosts nArrows Q := by
  have hp := pow12 h12
  subst hn
  unfold wp_N_thirdsAt
  refine lp2 (wp_N_thirdsAt_4 Q n nArrows x1) (fun x2 x3 => ∃ j b : Nat, j ≤ n ∧ x3 = j ∧ x2 = b ∧ b < 2 ^ T ∧ ∀ k, b.testBit k = true ↔ ∃ q : Nat, q < j ∧ av co x1 q (3 * T) = k) (fun _ x3 => (n - x3).toNat) ?_ _ _ ⟨0, 0, by omega, rfl, rfl, Nat.two_pow_pos T, fun k => by rw [Nat.zero_testBit]; constructor; (intro q; cases q); (rintro ⟨q, h, -⟩; omega)⟩
  rintro f x2 x3 ⟨j, b, hj, rfl, rfl, hb, hbit⟩ ih
  show wp_N_thirdsAt_4_b _ _ _ _ _ _ _
  unfold wp_N_thirdsAt_4_b
  refine ⟨jR_n (by omega), jR_n (by omega), fun h => ?_, fun h => ?_⟩
  · have e : j = n := by omega
    subst e; exact hQ b hb hbit
  · refine s_N_bitOf hA h12 a1 a2 (by omega) (by omega) ?_
    have hbo := bo_lt co T x1 j
    rw [jor_n (by omega) (by omega)]
    refine ih _ _ ⟨j + 1, b ||| bo co T x1 j, by omega, by omega, rfl, Nat.or_lt_two_pow hb hbo, fun k => ?_⟩ (by omega)
    rw [Nat.testBit_or, Bool.or_eq_true, hbit k, bo_bit]
    constructor
    · rintro (⟨q, h1, h2⟩ | h1)
      · exact ⟨q, by omega, h2⟩
      · exact ⟨j, by omega, h1⟩
    · rintro ⟨q, h1, h2⟩
      by_cases hqj : q = j
      · subst hqj; exact Or.inr h2
      · exact Or.inl ⟨q, by omega, h2⟩
/-- the thirds at a side -/
def pr (co : Nat → Int) (T : Nat) (p q : Int) : Nat := bo co T p q ||| bo co T q p
theorem pr_bit (co : Nat → Int) (T : Nat) (p q : Int) (k : Nat) : (pr co T p q).testBit k = true ↔ (av co p q (3 * T) = k ∨ av co q p (3 * T) = k) := by
  unfold pr
  rw [Nat.testBit_or, Bool.or_eq_true, bo_bit, bo_bit]
theorem pr_adj {n T : Nat} {co : Nat → Int} {F : Int → Int → Prop} (hN : NetOK n T co) (hFs : ∀ x y, F x y → F y x) {p q : Int} (hF : F p q) {a k : Nat} (ha : (pr co T p q).testBit a = true) (hk : (pr co T p q).testBit k = true) : a = k ∨ adj T co F a k := by
  rw [pr_bit] at ha hk
  have get : ∀ {p q : Int} {a : Nat}, av co p q (3 * T) = a → ∃ c, c < 3 * T ∧ co c = p ∧ co (nx c) = q ∧ c / 3 = a := by
    intro p q a h
    obtain ⟨c, c1, c2, c3, c4⟩ := av_of (C := 3 * T) (co := co) (p := p) (q := q) (by omega)
    exact ⟨c, c1, c2, c3, by omega⟩
  rcases ha with ha | ha
  · rcases hk with hk | hk
    · left; omega
    · obtain ⟨c, c1, c2, c3, c4⟩ := get ha
      obtain ⟨d, d1, d2, d3, d4⟩ := get hk
      exact Or.inr ⟨c, d, c1, d1, c4, d4, by rw [c2, d3], by rw [c3, d2], by rw [c2, c3]; exact hF⟩
  · rcases hk with hk | hk
    · obtain ⟨c, c1, c2, c3, c4⟩ := get ha
      obtain ⟨d, d1, d2, d3, d4⟩ := get hk
      exact Or.inr ⟨c, d, c1, d1, c4, d4, by rw [c2, d3], by rw [c3, d2], by rw [c2, c3]; exact hFs _ _ hF⟩
    · left; omega
def Sub (a b : Nat) : Prop := ∀ k, a.testBit k = true → b.testBit k = true
theorem Sub_anti {a b : Nat} (h1 : Sub a b) (h2 : Sub b a) : a = b := by
  apply Nat.eq_of_testBit_eq
  intro k
  have x := h1 k; have y := h2 k
  cases ha : a.testBit k <;> cases hb : b.testBit k <;> simp_all
theorem s_N_widened {x1 x2 nPosts : Int} {nArrows : Nat → Int} {Q : Int → Prop} {n T b : Nat} {co : Nat → Int} {F : Int → Int → Prop} (hN : NetOK n T co) (hn : nPosts = n) (hA : ArOK T co nArrows) (hFs : ∀ x y, F x y → F y x) (a1 : 0 ≤ x2) (a2 : x2 < 9) (hF : ∀ y, F x2 y) (e1 : x1 = b) (hb : b < 2 ^ T)
    (hQ : ∀ b2 : Nat, b2 < 2 ^ T → Sub b b2 → (∀ k, b2.testBit k = true → ∃ a, b.testBit a = true ∧ conn T co F a k) → (b2 = b → ∀ q : Nat, q < n → ∀ a k, b.testBit a = true → (pr co T x2 q).testBit a = true → (pr co T x2 q).testBit k = true → b.testBit k = true) → Q b2) : wp_N_widened x1 x2 nPosts nArrows Q := by
  have hle := hN.le
  have hp := pow12 hle.2.2
  subst hn; subst e1
  unfold wp_N_widened
  refine lp2 (wp_N_widened_5 Q n nArrows x2) (fun x3 x4 => ∃ j b2 : Nat, j ≤ n ∧ x4 = j ∧ x3 = b2 ∧ b2 < 2 ^ T ∧ Sub b b2 ∧ (∀ k, b2.testBit k = true → ∃ a, b.testBit a = true ∧ conn T co F a k) ∧ (b2 = b → ∀ q : Nat, q < j → ∀ a k, b.testBit a = true → (pr co T x2 q).testBit a = true → (pr co T x2 q).testBit k = true → b.testBit k = true)) (fun _ x4 => (n - x4).toNat) ?_ _ _ ⟨0, b, by omega, rfl, rfl, hb, fun k h => h, fun k h => ⟨k, h, conn_rf k⟩, fun _ q h => by omega⟩
  rintro f x3 x4 ⟨j, b2, hj, rfl, rfl, c1, c2, c3, c4⟩ ih
  show wp_N_widened_5_b _ _ _ _ _ _ _
  unfold wp_N_widened_5_b
  refine ⟨jR_n (by omega), jR_n (by omega), fun h => ?_, fun h => ?_⟩
  · have e : j = n := by omega
    subst e; exact hQ b2 c1 c2 c3 c4
  · refine s_N_bitOf hA hle.2.2 a1 a2 (by omega) (by omega) (s_N_bitOf hA hle.2.2 (by omega) (by omega) a1 a2 ?_)
    have h1 := bo_lt co T x2 j
    have h2 := bo_lt co T j x2
    have h3 : pr co T x2 j < 2 ^ T := Nat.or_lt_two_pow h1 h2
    rw [jor_n (by omega) (by omega), show (bo co T x2 j ||| bo co T j x2) = pr co T x2 j from rfl, jand_n (by omega) (by omega), jor_n (by omega) (by omega)]
    have hand : b2 &&& pr co T x2 j < 4096 := Nat.lt_of_le_of_lt Nat.and_le_left (by omega)
    refine ⟨jR_n (by omega), fun g => ih _ _ ⟨j + 1, b2, by omega, by omega, rfl, c1, c2, c3, fun e q hq a k ha hpa hpk => ?_⟩ (by omega), fun g => ?_⟩
    · by_cases hqj : q = j
      · subst hqj
        exfalso
        have : (b2 &&& pr co T x2 q) ≠ 0 := and_ne.mpr ⟨a, by rw [e]; exact ha, hpa⟩
        omega
      · exact c4 e q (by omega) a k ha hpa hpk
    · obtain ⟨a, ha1, ha2⟩ := and_ne.mp (show (b2 &&& pr co T x2 j) ≠ 0 by omega)
      refine ih _ _ ⟨j + 1, b2 ||| pr co T x2 j, by omega, by omega, rfl, Nat.or_lt_two_pow c1 h3, fun k hk => ?_, fun k hk => ?_, fun e q hq a' k ha' hpa hpk => ?_⟩ (by omega)
      · rw [Nat.testBit_or, c2 k hk]; rfl
      · rw [Nat.testBit_or, Bool.or_eq_true] at hk
        rcases hk with hk | hk
        · exact c3 k hk
        · obtain ⟨a0, q1, q2⟩ := c3 a ha1
          rcases pr_adj hN hFs (hF j) ha2 hk with q | q
          · subst q; exact ⟨a0, q1, q2⟩
          · exact ⟨a0, q1, conn_step q2 q⟩
      · have hs : Sub b2 b := by
          intro x hx
          rw [← e, Nat.testBit_or, hx]; rfl
        have hb2 : b2 = b := Sub_anti hs c2
        by_cases hqj : q = j
        · subst hqj
          rw [← e, Nat.testBit_or, hpk, Bool.or_true]
        · exact c4 hb2 q (by omega) a' k ha' hpa hpk
def cb (b : Nat) : Int := sm 12 (fun k => if b.testBit k = true then 1 else 0)
theorem cb_r (b : Nat) : 0 ≤ cb b ∧ cb b ≤ 12 := by
  unfold cb
  refine ⟨sm_nonneg (fun k _ => by split <;> omega), ?_⟩
  have h := sm_le (n := 12) (f := fun k => if b.testBit k = true then (1 : Int) else 0) (g := fun _ => 1) (fun i _ => by split <;> omega)
  rw [sm_const] at h
  omega
theorem cb_lt {a b : Nat} (h : Sub a b) {k : Nat} (hk : k < 12) (h1 : b.testBit k = true) (h2 : ¬ a.testBit k = true) : cb a + 1 ≤ cb b := by
  unfold cb
  have e := sm_sub 12 (fun k => if b.testBit k = true then (1 : Int) else 0) (fun k => if a.testBit k = true then (1 : Int) else 0)
  have m := sm_member (n := 12) (f := fun k => (if b.testBit k = true then (1 : Int) else 0) - (if a.testBit k = true then (1 : Int) else 0)) (fun i _ => by
    by_cases q : a.testBit i = true
    · rw [if_pos q, if_pos (h i q)]; omega
    · rw [if_neg q]; split <;> omega) hk
  rw [if_pos h1, if_neg h2] at m
  omega
theorem cb_grow {a b : Nat} (h : Sub a b) (hne : a ≠ b) (hb : b < 2 ^ 12) : cb a + 1 ≤ cb b := by
  have : ∃ k, b.testBit k = true ∧ ¬ a.testBit k = true := by
    apply Classical.byContradiction
    intro hno
    apply hne
    refine Sub_anti h (fun k hk => ?_)
    apply Classical.byContradiction
    intro q
    exact hno ⟨k, hk, q⟩
  obtain ⟨k, h1, h2⟩ := this
  exact cb_lt h (bit_lt hb h1) h1 h2
theorem s_N_hangingWith {x1 x2 nPosts : Int} {nArrows : Nat → Int} {Q : Int → Prop} {n T b0 : Nat} {co : Nat → Int} {F : Int → Int → Prop} (hN : NetOK n T co) (hn : nPosts = n) (hA : ArOK T co nArrows) (hFs : ∀ x y, F x y → F y x) (hx2 : (x2 = -1 ∧ ∀ x y, F x y) ∨ (0 ≤ x2 ∧ x2 < 9 ∧ ∀ x y, F x y ↔ (x = x2 ∨ y = x2))) (e1 : x1 = b0) (hb0 : b0 < 2 ^ T) (hne : b0 ≠ 0)
    (hQ : ∀ b : Nat, b < 2 ^ T → (∀ k, b.testBit k = true ↔ ∃ a, b0.testBit a = true ∧ conn T co F a k) → Q b) : wp_N_hangingWith x1 x2 nPosts nArrows Q := by
  have hle := hN.le
  have hp := pow12 hle.2.2
  subst hn; subst e1
  have hx2r : jR x2 := by rcases hx2 with ⟨h, -⟩ | ⟨h, h', -⟩ <;> exact ⟨by omega, by omega⟩
  unfold wp_N_hangingWith
  -- a set that a whole turn leaves as it is
  have fin : ∀ b : Nat, b < 2 ^ T → Sub b0 b → (∀ k, b.testBit k = true → ∃ a, b0.testBit a = true ∧ conn T co F a k) → (∀ p q : Nat, p < n → q < n → (x2 = -1 ∨ x2 = p) → ∀ a k, b.testBit a = true → (pr co T p q).testBit a = true → (pr co T p q).testBit k = true → b.testBit k = true) → Q b := by
    intro b hb h1 h2 h3
    refine hQ b hb (fun k => ⟨h2 k, ?_⟩)
    rintro ⟨a, ha, hcon⟩
    refine conn_closed hcon (S := fun k => b.testBit k = true) (h1 a ha) (fun x y hx hxy => ?_)
    obtain ⟨c, d, d1, d2, d3, d4, d5, d6, d7⟩ := hxy
    have r1 := hN.co d1
    have r2 := hN.co (nx_lt d1)
    have ax := av_some hN d1 rfl rfl
    have ay := av_some hN d2 d6.symm d5.symm
    have hxb : (pr co T (co c) (co (nx c))).testBit x = true := by rw [pr_bit]; left; omega
    have hyb : (pr co T (co c) (co (nx c))).testBit y = true := by rw [pr_bit]; right; omega
    have hxb2 : (pr co T (co (nx c)) (co c)).testBit x = true := by rw [pr_bit]; right; omega
    have hyb2 : (pr co T (co (nx c)) (co c)).testBit y = true := by rw [pr_bit]; left; omega
    have ea : (((co c).toNat : Nat) : Int) = co c := by omega
    have eb : (((co (nx c)).toNat : Nat) : Int) = co (nx c) := by omega
    rcases hx2 with ⟨q, -⟩ | ⟨q1, q2, q3⟩
    · exact h3 (co c).toNat (co (nx c)).toNat (by omega) (by omega) (Or.inl q) x y hx (by rw [ea, eb]; exact hxb) (by rw [ea, eb]; exact hyb)
    · rcases (q3 _ _).mp d7 with q | q
      · exact h3 (co c).toNat (co (nx c)).toNat (by omega) (by omega) (Or.inr (by omega)) x y hx (by rw [ea, eb]; exact hxb) (by rw [ea, eb]; exact hyb)
      · exact h3 (co (nx c)).toNat (co c).toNat (by omega) (by omega) (Or.inr (by omega)) x y hx (by rw [ea, eb]; exact hxb2) (by rw [ea, eb]; exact hyb2)
  have c0 : 1 ≤ cb b0 := by
    have := cb_grow (a := 0) (b := b0) (fun k h => by rw [Nat.zero_testBit] at h; cases h) (fun h => hne h.symm) (by omega)
    have := (cb_r 0).1
    omega
  refine lp3 (wp_N_hangingWith_8 Q n nArrows x2) (fun x3 x4 x5 => ∃ b b' t : Nat, x3 = b ∧ x4 = b' ∧ x5 = t ∧ t ≤ 13 ∧ b < 2 ^ T ∧ b' < 2 ^ T ∧ Sub b0 b ∧ (∀ k, b.testBit k = true → ∃ a, b0.testBit a = true ∧ conn T co F a k) ∧ ((b ≠ b' ∧ (t : Int) + 1 ≤ cb b) ∨ (b = b' ∧ ∀ p q : Nat, p < n → q < n → (x2 = -1 ∨ x2 = p) → ∀ a k, b.testBit a = true → (pr co T p q).testBit a = true → (pr co T p q).testBit k = true → b.testBit k = true))) (fun _ _ x5 => (13 - x5).toNat) ?_ _ _ _ ⟨b0, 0, 0, rfl, rfl, rfl, by omega, hb0, Nat.two_pow_pos T, fun k h => h, fun k h => ⟨k, h, conn_rf k⟩, Or.inl ⟨hne, by omega⟩⟩
  rintro f x3 x4 x5 ⟨b, b', t, rfl, rfl, rfl, ht, hb, hb', d1, d2, d3⟩ ih
  show wp_N_hangingWith_8_b _ _ _ _ _ _ _ _
  unfold wp_N_hangingWith_8_b
  have hcb := cb_r b
  refine ⟨jR_n (by omega), fun h => ?_, fun h => ⟨jR_n (by omega), jR_n (by omega), fun g => ?_, fun g => ?_⟩⟩
  · rcases d3 with ⟨-, q⟩ | ⟨-, q⟩
    · omega
    · exact fin b hb d1 d2 q
  · rcases d3 with ⟨q, -⟩ | ⟨-, q⟩
    · omega
    · exact fin b hb d1 d2 q
  · have d3' : (t : Int) + 1 ≤ cb b := by rcases d3 with ⟨-, q⟩ | ⟨q, -⟩; exact q; omega
    refine lp2 (wp_N_hangingWith_27 (wp_N_hangingWith_8 Q n nArrows x2 f) Q n nArrows x2 b t) (fun x3 x6 => ∃ p b2 : Nat, p ≤ n ∧ x6 = p ∧ x3 = b2 ∧ b2 < 2 ^ T ∧ Sub b b2 ∧ (∀ k, b2.testBit k = true → ∃ a, b0.testBit a = true ∧ conn T co F a k) ∧ (b2 = b → ∀ p' q : Nat, p' < p → q < n → (x2 = -1 ∨ x2 = p') → ∀ a k, b.testBit a = true → (pr co T p' q).testBit a = true → (pr co T p' q).testBit k = true → b.testBit k = true)) (fun _ x6 => (n - x6).toNat) ?_ _ _ ⟨0, b, by omega, rfl, rfl, hb, fun k h => h, d2, fun _ p' q h => by omega⟩
    rintro f2 x3 x6 ⟨p, b2, hpn, rfl, rfl, k1, k2, k3, k4⟩ ih2
    show wp_N_hangingWith_27_b _ _ _ _ _ _ _ _ _ _
    unfold wp_N_hangingWith_27_b
    have widen : (x2 = -1 ∨ x2 = p) → p < n → wp_N_widened b2 p n nArrows (fun z => wp_N_hangingWith_27 (wp_N_hangingWith_8 Q n nArrows x2 f) Q n nArrows x2 b t f2 z (p + 1)) := by
      intro hx hlt
      have hFp : ∀ y, F p y := by
        intro y
        rcases hx2 with ⟨-, q⟩ | ⟨q1, q2, q3⟩
        · exact q _ _
        · rw [q3]; left
          rcases hx with h | h <;> omega
      refine s_N_widened hN rfl hA hFs (by omega) (by omega) hFp rfl k1 (fun b3 l1 l2 l3 l4 => ?_)
      refine ih2 _ _ ⟨p + 1, b3, by omega, by omega, rfl, l1, fun k hk => l2 k (k2 k hk), fun k hk => ?_, fun e p' q hp' hq hx' a k ha hpa hpk => ?_⟩ (by omega)
      · obtain ⟨a, q1, q2⟩ := l3 k hk
        obtain ⟨a0, q3, q4⟩ := k3 a q1
        exact ⟨a0, q3, conn_tr q4 q2⟩
      · have hb2 : b2 = b := Sub_anti (fun x hx => by rw [← e]; exact l2 x hx) k2
        by_cases hpp : p' = p
        · subst hpp
          have := l4 (by rw [e, hb2]) q hq a k (by rw [hb2]; exact ha) hpa hpk
          rw [hb2] at this; exact this
        · exact k4 hb2 p' q (by omega) hq hx' a k ha hpa hpk
    refine ⟨jR_n (by omega), jR_n (by omega), fun g2 => ?_, fun g2 => ⟨hx2r, fun g3 => widen (Or.inl g3) (by omega), fun g3 => ⟨fun g4 => widen (Or.inr g4) (by omega), fun g4 => ih2 _ _ ⟨p + 1, b2, by omega, by omega, rfl, k1, k2, k3, fun e p' q hp' hq hx' a k ha hpa hpk => ?_⟩ (by omega)⟩⟩⟩
    · refine ih _ _ _ ⟨b2, b, t + 1, rfl, rfl, by omega, by omega, k1, hb, fun k hk => k2 k (d1 k hk), k3, ?_⟩ (by omega)
      by_cases e : b2 = b
      · refine Or.inr ⟨e, fun p' q hp' hq hx' a k ha hpa hpk => ?_⟩
        rw [e] at ha ⊢
        exact k4 e p' q (by omega) hq hx' a k ha hpa hpk
      · have := cb_grow k2 (fun h => e h.symm) (by omega)
        exact Or.inl ⟨e, by omega⟩
    · have hpp : p' ≠ p := by
        intro q; subst q
        rcases hx' with q | q
        · exact g3 q
        · exact g4 q
      exact k4 e p' q (by omega) hq hx' a k ha hpa hpk

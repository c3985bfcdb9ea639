/-! the reference's net, method by method -/
theorem s_M_in {x0 x1 x2 : Int} {Q : Int → Prop} (a0 : jR x0) (a1 : jR x1) (a2 : jR x2) (h1 : x1 ≤ x0 → x0 ≤ x2 → Q 1) (h0 : ¬ (x1 ≤ x0 ∧ x0 ≤ x2) → Q 0) : wp_M_in x0 x1 x2 Q := by
  unfold wp_M_in
  exact ⟨a0, a1, fun h => h0 (by omega), fun h => ⟨a2, fun g => h0 (by omega), fun g => h1 (by omega) (by omega)⟩⟩
theorem s_M_isPost {x1 mPosts : Int} {Q : Int → Prop} {n : Nat} (hn : mPosts = n) (h9 : n ≤ 9) (hx : jR x1) (h1 : 0 ≤ x1 → x1 < n → Q 1) (h0 : ¬ (0 ≤ x1 ∧ x1 < n) → Q 0) : wp_M_isPost x1 mPosts Q := by
  subst hn
  unfold wp_M_isPost
  exact s_M_in hx jR01_0 ⟨by omega, by omega⟩ (fun a b => ⟨Or.inr rfl, h1 a (by omega)⟩) (fun a => ⟨Or.inl rfl, h0 (by omega)⟩)
theorem s_M_arePair {x1 x2 mPosts : Int} {Q : Int → Prop} {n : Nat} (hn : mPosts = n) (h9 : n ≤ 9) (hx1 : jR x1) (hx2 : jR x2) (h1 : 0 ≤ x1 → x1 < n → 0 ≤ x2 → x2 < n → x1 ≠ x2 → Q 1) (h0 : ¬ (0 ≤ x1 ∧ x1 < n ∧ 0 ≤ x2 ∧ x2 < n ∧ x1 ≠ x2) → Q 0) : wp_M_arePair x1 x2 mPosts Q := by
  unfold wp_M_arePair
  refine s_M_isPost hn h9 hx1 (fun a b => ⟨jR01_1, fun h => absurd h (by decide), fun _ => ?_⟩) (fun a => ⟨jR01_0, fun _ => h0 (by omega), fun h => absurd rfl h⟩)
  exact s_M_isPost hn h9 hx2 (fun c d => ⟨jR01_1, fun h => absurd h (by decide), fun _ => ⟨hx1, hx2, fun e => h0 (by omega), fun e => h1 a b c d e⟩⟩) (fun c => ⟨jR01_0, fun _ => h0 (by omega), fun h => absurd rfl h⟩)
theorem s_M_arrowOf {x1 x2 mThirds : Int} {mCorner : Nat → Int} {Q : Int → Prop} {n T : Nat} {co : Nat → Int} (hN : NetOK n T co) (hT : mThirds = T) (hc : ∀ c, c < 3 * T → mCorner c = co c) (hx1 : jR x1) (hx2 : jR x2) (h0 : av co x1 x2 (3 * T) = -1 → Q (-6)) (h1 : av co x1 x2 (3 * T) ≠ -1 → Q (av co x1 x2 (3 * T))) : wp_M_arrowOf x1 x2 mThirds mCorner Q := by
  have hle := hN.le
  subst hT
  unfold wp_M_arrowOf
  refine lp1 (wp_M_arrowOf_2 Q T mCorner x1 x2) (fun x3 => ∃ k : Nat, k ≤ 3 * T ∧ x3 = k ∧ ∀ c, c < k → ¬ (co c = x1 ∧ co (nx c) = x2)) (fun x3 => (3 * T - x3).toNat) ?_ _ ⟨0, by omega, rfl, fun c h => by omega⟩
  rintro f x3 ⟨k, hk, rfl, hno⟩ ih
  show wp_M_arrowOf_2_b _ _ _ _ _ _ _
  unfold wp_M_arrowOf_2_b
  have next : ¬ (co k = x1 ∧ co (nx k) = x2) → k < 3 * T → wp_M_arrowOf_2 Q T mCorner x1 x2 f (k + 1) := by
    intro hh hlt
    refine ih _ ⟨k + 1, by omega, by omega, fun c hcl => ?_⟩ (by omega)
    by_cases hck : c = k
    · subst hck; exact hh
    · exact hno c (by omega)
  refine ⟨jR_n (by omega), ⟨by omega, by omega⟩, fun h => h0 (av_none (fun c hcl => hno c (by omega))), fun h => ?_⟩
  have hlt : k < 3 * T := by omega
  have ek := hN.co9 hlt
  have en := hN.co9 (nx_lt hlt)
  have e1 : (jdiv (k : Int) 3) = ((k / 3 : Nat) : Int) := by rw [jdiv_n (by omega) (by omega) (by omega) (by omega)]; omega
  have e2 : (jrem ((k : Int) + 1) 3) = (((k + 1) % 3 : Nat) : Int) := by rw [jrem_n (by omega) (by omega) (by omega) (by omega)]; omega
  have e3 : ((jdiv (k : Int) 3 * 3) + (jrem ((k : Int) + 1) 3)) = ((nx k : Nat) : Int) := by rw [e1, e2]; unfold nx; omega
  have hnx := nx_lt hlt
  rw [e3, Int.toNat_natCast, Int.toNat_natCast, hc k hlt, hc (nx k) hnx, e1]
  refine ⟨⟨by omega, by omega⟩, ⟨by omega, by omega⟩, hx1, fun g => ⟨⟨by omega, by omega⟩, ⟨by omega, by omega⟩, hx2, fun g2 => ?_, fun g2 => next (fun q => g2 q.2) hlt⟩, fun g => next (fun q => g q.1) hlt⟩
  have ea := av_some hN hlt g g2
  rw [← ea]
  exact h1 (by rw [ea]; omega)
theorem s_M_sideOf {x1 x2 mThirds : Int} {mCorner : Nat → Int} {Q : Int → Prop} {n T : Nat} {co : Nat → Int} (hN : NetOK n T co) (hT : mThirds = T) (hc : ∀ c, c < 3 * T → mCorner c = co c) (hx1 : jR x1) (hx2 : jR x2) (hQ : Q (sd co (3 * T) x1 x2)) : wp_M_sideOf x1 x2 mThirds mCorner Q := by
  have hle := hN.le
  have r1 := av_lt (T := T) (co := co) (p := x1) (q := x2)
  have r2 := av_lt (T := T) (co := co) (p := x2) (q := x1)
  unfold wp_M_sideOf
  unfold sd at hQ
  refine s_M_arrowOf hN hT hc hx1 hx2 (fun h => ⟨by unfold jR; decide, fun _ => ?_, fun h => absurd (by decide) h⟩) (fun h => ⟨⟨by omega, by omega⟩, fun g => by omega, fun _ => ?_⟩)
  · rw [if_pos h] at hQ
    refine s_M_arrowOf hN hT hc hx2 hx1 (fun g => ⟨by unfold jR; decide, fun _ => ?_, fun h => absurd (by decide) h⟩) (fun g => ⟨⟨by omega, by omega⟩, fun g => by omega, fun _ => ?_⟩)
    · rw [if_pos g] at hQ; exact hQ
    · rw [if_neg g] at hQ; exact hQ
  · rw [if_neg h] at hQ
    refine s_M_arrowOf hN hT hc hx2 hx1 (fun g => ⟨by unfold jR; decide, fun _ => ?_, fun h => absurd (by decide) h⟩) (fun g => ⟨⟨by omega, by omega⟩, fun g => by omega, fun _ => ?_⟩)
    · rw [if_pos g] at hQ; exact hQ
    · rw [if_neg g] at hQ; exact hQ
theorem s_M_sidesAt {x1 x2 x3 mPosts mThirds : Int} {mCorner : Nat → Int} {Q : Int → Prop} {n T : Nat} {co : Nat → Int} (hN : NetOK n T co) (hn : mPosts = n) (hT : mThirds = T) (hc : ∀ c, c < 3 * T → mCorner c = co c) (hx1 : jR x1) (hx2 : jR x2) (hx3 : jR x3) (hQ : Q (sm n (fun q => if (q : Int) ≠ x1 ∧ x2 ≤ sd co (3 * T) x1 q ∧ sd co (3 * T) x1 q ≤ x3 then 1 else 0))) : wp_M_sidesAt x1 x2 x3 mPosts mThirds mCorner Q := by
  have hle := hN.le
  subst hn
  unfold wp_M_sidesAt
  refine lp2 (wp_M_sidesAt_6 Q n mThirds mCorner x1 x2 x3) (fun x4 x5 => ∃ k : Nat, k ≤ n ∧ x5 = k ∧ x4 = sm k (fun q => if (q : Int) ≠ x1 ∧ x2 ≤ sd co (3 * T) x1 q ∧ sd co (3 * T) x1 q ≤ x3 then 1 else 0)) (fun _ x5 => (n - x5).toNat) ?_ _ _ ⟨0, by omega, rfl, rfl⟩
  rintro f x4 x5 ⟨k, hk, rfl, rfl⟩ ih
  show wp_M_sidesAt_6_b _ _ _ _ _ _ _ _ _ _
  unfold wp_M_sidesAt_6_b
  have hs := sd_r co (3 * T) x1 k
  refine ⟨jR_n (by omega), jR_n (by omega), fun h => ?_, fun h => ⟨hx1, fun e => ih _ _ ⟨k + 1, by omega, by omega, ?_⟩ (by omega), fun e => ?_⟩⟩
  · rw [show k = n by omega]; exact hQ
  · rw [sm_s, if_neg (fun q => q.1 e)]
  · refine s_M_sideOf hN hT hc hx1 (jR_n (by omega)) ?_
    refine s_M_in ⟨by omega, by omega⟩ hx2 hx3 (fun a b => ⟨jR01_1, fun h => absurd h (by decide), fun _ => ih _ _ ⟨k + 1, by omega, by omega, ?_⟩ (by omega)⟩) (fun a => ⟨jR01_0, fun _ => ih _ _ ⟨k + 1, by omega, by omega, ?_⟩ (by omega), fun h => absurd rfl h⟩)
    · rw [sm_s, if_pos ⟨e, a, b⟩]
    · rw [sm_s, if_neg (fun q => a q.2)]
theorem sides12 (co : Nat → Int) (C n : Nat) (p : Int) : sm n (fun q => if (q : Int) ≠ p ∧ 1 ≤ sd co C p q ∧ sd co C p q ≤ 2 then 1 else 0) = sAt co C n p 1 + sAt co C n p 2 := by
  unfold sAt
  rw [← sm_add]
  refine sm_congr (fun q _ => ?_)
  have := sd_r co C p q
  by_cases h : (q : Int) ≠ p
  · by_cases h1 : sd co C p q = 1
    · rw [if_pos ⟨h, by omega, by omega⟩, if_pos ⟨h, h1⟩, if_neg (fun z => by omega)]; rfl
    · by_cases h2 : sd co C p q = 2
      · rw [if_pos ⟨h, by omega, by omega⟩, if_neg (fun z => h1 z.2), if_pos ⟨h, h2⟩]; rfl
      · rw [if_neg (fun z => by omega), if_neg (fun z => h1 z.2), if_neg (fun z => h2 z.2)]; rfl
  · rw [if_neg (fun z => h z.1), if_neg (fun z => h z.1), if_neg (fun z => h z.1)]; rfl
theorem sides11 (co : Nat → Int) (C n : Nat) (p : Int) : sm n (fun q => if (q : Int) ≠ p ∧ 1 ≤ sd co C p q ∧ sd co C p q ≤ 1 then 1 else 0) = sAt co C n p 1 := by
  unfold sAt
  refine sm_congr (fun q _ => ?_)
  by_cases h : (q : Int) ≠ p ∧ sd co C p q = 1
  · rw [if_pos h, if_pos ⟨h.1, by omega, by omega⟩]
  · rw [if_neg h, if_neg (fun z => h ⟨z.1, by omega⟩)]
theorem s_M_sides {x1 mPosts mThirds : Int} {mCorner : Nat → Int} {Q : Int → Prop} {n T : Nat} {co : Nat → Int} (hN : NetOK n T co) (hn : mPosts = n) (hT : mThirds = T) (hc : ∀ c, c < 3 * T → mCorner c = co c) (hx1 : jR x1) (hQ : Q (sm n (fun p => sm p (fun q => if x1 ≤ sd co (3 * T) p q then 1 else 0)))) : wp_M_sides x1 mPosts mThirds mCorner Q := by
  have hle := hN.le
  subst hn
  unfold wp_M_sides
  refine lp2 (wp_M_sides_4 Q n mThirds mCorner x1) (fun x2 x3 => ∃ k : Nat, k ≤ n ∧ x3 = k ∧ x2 = sm k (fun p => sm p (fun q => if x1 ≤ sd co (3 * T) p q then 1 else 0))) (fun _ x3 => (n - x3).toNat) ?_ _ _ ⟨0, by omega, rfl, rfl⟩
  rintro f x2 x3 ⟨k, hk, rfl, rfl⟩ ih
  show wp_M_sides_4_b _ _ _ _ _ _ _ _
  unfold wp_M_sides_4_b
  refine ⟨jR_n (by omega), jR_n (by omega), fun h => ?_, fun h => ?_⟩
  · rw [show k = n by omega]; exact hQ
  · refine lp2 (wp_M_sides_15 (wp_M_sides_4 Q n mThirds mCorner x1 f) Q n mThirds mCorner x1 k) (fun x2 x4 => ∃ j : Nat, j ≤ k ∧ x4 = j ∧ x2 = sm k (fun p => sm p (fun q => if x1 ≤ sd co (3 * T) p q then 1 else 0)) + sm j (fun q => if x1 ≤ sd co (3 * T) k q then 1 else 0)) (fun _ x4 => (k - x4).toNat) ?_ _ _ ⟨0, by omega, rfl, by rw [sm_0]; omega⟩
    rintro f2 x2 x4 ⟨j, hj, rfl, rfl⟩ ih2
    show wp_M_sides_15_b _ _ _ _ _ _ _ _ _ _
    unfold wp_M_sides_15_b
    have hs := sd_r co (3 * T) k j
    refine ⟨jR_n (by omega), jR_n (by omega), fun g => ih _ _ ⟨k + 1, by omega, by omega, ?_⟩ (by omega), fun g => ?_⟩
    · rw [sm_s, show j = k by omega]
    · refine s_M_sideOf hN hT hc (jR_n (by omega)) (jR_n (by omega)) ⟨⟨by omega, by omega⟩, hx1, fun g2 => ih2 _ _ ⟨j + 1, by omega, by omega, ?_⟩ (by omega), fun g2 => ih2 _ _ ⟨j + 1, by omega, by omega, ?_⟩ (by omega)⟩
      · rw [sm_s, if_neg (by omega)]; omega
      · rw [sm_s, if_pos (by omega)]; omega
theorem sides_1 (co : Nat → Int) (C n : Nat) : sm n (fun p => sm p (fun q => if 1 ≤ sd co C p q then 1 else 0)) = sN co C n 1 + sN co C n 2 := by
  unfold sN
  rw [← sm_add]
  refine sm_congr (fun p _ => ?_)
  rw [← sm_add]
  refine sm_congr (fun q _ => ?_)
  have := sd_r co C p q
  split <;> split <;> split <;> omega
theorem sides_2 (co : Nat → Int) (C n : Nat) : sm n (fun p => sm p (fun q => if 2 ≤ sd co C p q then 1 else 0)) = sN co C n 2 := by
  unfold sN
  refine sm_congr (fun p _ => sm_congr (fun q _ => ?_))
  have := sd_r co C p q
  split <;> split <;> omega
theorem s_M_oppositeCorner {x1 x2 x3 : Int} {mCorner : Nat → Int} {Q : Int → Prop} {n T k : Nat} {co : Nat → Int} (hN : NetOK n T co) (hc : ∀ c, c < 3 * T → mCorner c = co c) (hk : k < T) (hx1 : x1 = k) (hx2 : jR x2) (hx3 : jR x3) (hQ : Q ((opp co k x2 x3 : Nat) : Int)) : wp_M_oppositeCorner x1 x2 x3 mCorner Q := by
  have hle := hN.le
  subst hx1
  unfold wp_M_oppositeCorner
  have r0 := hN.co9 (c := 3 * k) (by omega)
  have r1 := hN.co9 (c := 3 * k + 1) (by omega)
  have r2 := hN.co9 (c := 3 * k + 2) (by omega)
  have e0 := hc (3 * k) (by omega)
  have e1 := hc (3 * k + 1) (by omega)
  have e2 := hc (3 * k + 2) (by omega)
  have n1 := hN.ne01 hk
  have n2 := hN.ne12 hk
  have n3 := hN.ne20 hk
  have t0 : ((3 : Int) * (k : Int)).toNat = 3 * k := by omega
  have t1 : ((3 : Int) * (k : Int) + 1).toNat = 3 * k + 1 := by omega
  have t2 : ((3 : Int) * (k : Int) + 1 + 1).toNat = 3 * k + 2 := by omega
  refine ⟨3, ?_⟩
  show wp_M_oppositeCorner_5_b _ _ _ _ _ _
  unfold wp_M_oppositeCorner_5_b
  have step2 : (co (3 * k) = x2 ∨ co (3 * k) = x3) → wp_M_oppositeCorner_5 Q mCorner x2 x3 2 (3 * (k : Int) + 1) := by
    intro hh
    show wp_M_oppositeCorner_5_b _ _ _ _ _ _
    unfold wp_M_oppositeCorner_5_b
    have step3 : (co (3 * k + 1) = x2 ∨ co (3 * k + 1) = x3) → wp_M_oppositeCorner_5 Q mCorner x2 x3 1 (3 * (k : Int) + 1 + 1) := by
      intro hh2
      show wp_M_oppositeCorner_5_b _ _ _ _ _ _
      unfold wp_M_oppositeCorner_5_b
      rw [t2, e2]
      refine ⟨⟨by omega, by omega⟩, ⟨by omega, by omega⟩, hx2, fun g => by omega, fun g => ⟨hx3, fun g2 => by omega, fun g2 => ?_⟩⟩
      unfold opp at hQ
      rw [if_neg (by omega), if_neg (by omega)] at hQ
      rw [show (3 * (k : Int) + 1 + 1) = ((3 * k + 2 : Nat) : Int) by omega]; exact hQ
    rw [t1, e1]
    refine ⟨⟨by omega, by omega⟩, ⟨by omega, by omega⟩, hx2, fun g => step3 (Or.inl g), fun g => ⟨hx3, fun g2 => step3 (Or.inr g2), fun g2 => ?_⟩⟩
    unfold opp at hQ
    rw [if_neg (by omega), if_pos ⟨g, g2⟩] at hQ
    rw [show (3 * (k : Int) + 1) = ((3 * k + 1 : Nat) : Int) by omega]; exact hQ
  rw [t0, e0]
  refine ⟨⟨by omega, by omega⟩, ⟨by omega, by omega⟩, hx2, fun g => step2 (Or.inl g), fun g => ⟨hx3, fun g2 => step2 (Or.inr g2), fun g2 => ?_⟩⟩
  unfold opp at hQ
  rw [if_pos ⟨g, g2⟩] at hQ
  rw [show (3 * (k : Int)) = ((3 * k : Nat) : Int) by omega]; exact hQ
/-- what stands opposite a side -/
def oppS (co : Nat → Int) (T : Nat) (row : Nat → Int) (p q : Int) : Int := (if av co p q (3 * T) = -1 then 0 else row (opp co (av co p q (3 * T)).toNat p q)) + (if av co q p (3 * T) = -1 then 0 else row (opp co (av co q p (3 * T)).toNat p q))
theorem opp_sym (co : Nat → Int) (k : Nat) (p q : Int) : opp co k p q = opp co k q p := by
  unfold opp
  have e1 : (co (3 * k) ≠ p ∧ co (3 * k) ≠ q) ↔ (co (3 * k) ≠ q ∧ co (3 * k) ≠ p) := ⟨fun h => ⟨h.2, h.1⟩, fun h => ⟨h.2, h.1⟩⟩
  have e2 : (co (3 * k + 1) ≠ p ∧ co (3 * k + 1) ≠ q) ↔ (co (3 * k + 1) ≠ q ∧ co (3 * k + 1) ≠ p) := ⟨fun h => ⟨h.2, h.1⟩, fun h => ⟨h.2, h.1⟩⟩
  by_cases a : co (3 * k) ≠ p ∧ co (3 * k) ≠ q
  · rw [if_pos a, if_pos (e1.mp a)]
  · rw [if_neg a, if_neg (fun z => a (e1.mpr z))]
    by_cases b : co (3 * k + 1) ≠ p ∧ co (3 * k + 1) ≠ q
    · rw [if_pos b, if_pos (e2.mp b)]
    · rw [if_neg b, if_neg (fun z => b (e2.mpr z))]
theorem oppS_sym (co : Nat → Int) (T : Nat) (row : Nat → Int) (p q : Int) : oppS co T row p q = oppS co T row q p := by
  unfold oppS
  rw [opp_sym co _ q p, opp_sym co _ q p]; omega
theorem s_M_oppositeOf {x1 x2 mThirds m : Int} {mCorner be : Nat → Int} {Q : Int → Prop} {n T : Nat} {co : Nat → Int} (hN : NetOK n T co) (hT : mThirds = T) (hc : ∀ c, c < 3 * T → mCorner c = co c) (hx1 : jR x1) (hx2 : jR x2) (hQ : Q (oppS co T (fun c => m + be c) x1 x2)) : wp_M_oppositeOf x1 x2 mThirds m mCorner be Q := by
  have hle := hN.le
  have r1 := av_lt (T := T) (co := co) (p := x1) (q := x2)
  have r2 := av_lt (T := T) (co := co) (p := x2) (q := x1)
  unfold wp_M_oppositeOf
  refine ⟨3, ?_⟩
  show wp_M_oppositeOf_5_b _ _ _ _ _ _ _ _ _ _
  unfold wp_M_oppositeOf_5_b
  -- one way
  have way : ∀ (f : Nat) (p q x3 x4 : Int), ((p = x1 ∧ q = x2) ∨ (p = x2 ∧ q = x1)) → wp_M_oppositeOf_5 Q mThirds m mCorner be x1 x2 f (x3 + (if av co p q (3 * T) = -1 then 0 else (fun c => m + be c) (opp co (av co p q (3 * T)).toNat x1 x2))) (x4 + 1) → wp_M_arrowOf p q mThirds mCorner (fun z => wp_M_oppositeOf_31 (wp_M_oppositeOf_5 Q mThirds m mCorner be x1 x2 f) Q mThirds m mCorner be x1 x2 x3 x4 z) := by
    intro f p q x3 x4 hpq hK
    have hp : jR p ∧ jR q := by rcases hpq with ⟨h, h'⟩ | ⟨h, h'⟩ <;> rw [h, h'] <;> (constructor <;> assumption)
    have r := av_lt (T := T) (co := co) (p := p) (q := q)
    refine s_M_arrowOf hN hT hc hp.1 hp.2 (fun h => ?_) (fun h => ?_)
    · unfold wp_M_oppositeOf_31
      rw [if_pos h] at hK
      exact ⟨by unfold jR; decide, fun h => absurd h (by decide), fun _ => hK⟩
    · unfold wp_M_oppositeOf_31
      rw [if_neg h] at hK
      refine ⟨⟨by omega, by omega⟩, fun _ => ?_, fun h => by omega⟩
      refine s_M_oppositeCorner hN hc (k := (av co p q (3 * T)).toNat) (by omega) (by omega) hx1 hx2 ?_
      have o := opp_spec hN (k := (av co p q (3 * T)).toNat) (by omega) x1 x2
      refine ⟨⟨by omega, by omega⟩, ?_⟩
      rw [Int.toNat_natCast]; exact hK
  refine ⟨jR01_0, fun h => absurd h (by decide), fun _ => ⟨fun _ => way 2 x1 x2 0 0 (Or.inl ⟨rfl, rfl⟩) ?_, fun h => absurd rfl h⟩⟩
  show wp_M_oppositeOf_5_b _ _ _ _ _ _ _ _ _ _
  unfold wp_M_oppositeOf_5_b
  refine ⟨by unfold jR; decide, fun h => absurd h (by decide), fun _ => ⟨fun h => absurd h (by decide), fun _ => way 1 x2 x1 _ _ (Or.inr ⟨rfl, rfl⟩) ?_⟩⟩
  show wp_M_oppositeOf_5_b _ _ _ _ _ _ _ _ _ _
  unfold wp_M_oppositeOf_5_b
  refine ⟨by unfold jR; decide, fun _ => ?_, fun h => absurd (by decide) h⟩
  unfold oppS at hQ
  rw [Int.zero_add]; exact hQ

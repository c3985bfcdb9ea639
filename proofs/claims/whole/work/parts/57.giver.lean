/-! the class's givings: finding one, the row -/
theorem s_G_findAny {x1 x2 nPosts nThirds gCorners gLowest gFirst gFresh : Int} {nCorners nSums gRow gPlaces gOver gVia gQueue : Nat → Int} {Q : Int → Int → Int → Int → Int → (Nat → Int) → (Nat → Int) → (Nat → Int) → (Nat → Int) → (Nat → Int) → Prop} {n T : Nat} {co su : Nat → Int} (hn : nPosts = n) (hT : nThirds = T) (hN : NetOK n T co) (hc : ∀ c, c < 3 * T → nCorners c = co c) (hs : ∀ p, p < 9 → nSums p = su p) (hS : SuOK su) (hm : 0 ≤ x2 ∧ x2 ≤ 1000) (hmN : 3 * x2 ≤ x1) (h360 : x1 ≤ 360)
    (h1 : ∀ row pl ov via qu : Nat → Int, (∀ c, c < 3 * T → pl c = plf co su c) → IsGiv n T co su x1 x2 row → Q 1 (3 * T) x2 0 0 row pl ov via qu)
    (h0 : ∀ row pl ov via qu : Nat → Int, (∀ g, ¬ IsGiv n T co su x1 x2 g) → Q 0 (3 * T) x2 0 0 row pl ov via qu) : wp_G_findAny x1 x2 nPosts nThirds nCorners nSums gCorners gLowest gFirst gFresh gRow gPlaces gOver gVia gQueue Q := by
  have hle := hN.le
  have hplr := plf_r (su := su) hN
  have hN0 : 0 ≤ x1 := by omega
  unfold wp_G_findAny
  refine s_G_begin hT hN hc hs hS (fun row pl hpl hrow => ?_)
  refine s_G_weigh hn hT rfl hN hs hS hpl (fun ov hov => ?_)
  have hG0 : GI n T co su x1 x2 row ov := by
    refine ⟨fun c hcc => ?_, fun k hk => ?_, hov⟩
    · rw [hrow c hcc]; split <;> omega
    · unfold S3
      rw [hrow _ (by omega), hrow _ (by omega), hrow _ (by omega), if_neg (by omega), if_neg (by omega), if_pos (by omega)]; omega
  refine lp5 (wp_G_findAny_18 Q (3 * (T : Int)) x2 0 0 pl) (fun x3 r o _ _ => ∃ p : Nat, p ≤ 10 ∧ x3 = p ∧ GI n T co su x1 x2 r o ∧ ∀ p', p' < p → o p' ≤ 0) (fun x3 _ _ _ _ => (10 - x3).toNat) ?_ _ _ _ _ _ ⟨0, by omega, rfl, hG0, fun p' h => by omega⟩
  rintro f x3 r o vi qu ⟨p, hp, rfl, hG, hneg⟩ ih
  show wp_G_findAny_18_b _ _ _ _ _ _ _ _ _ _ _ _
  unfold wp_G_findAny_18_b
  refine ⟨jR_n (by omega), fun h => ?_, fun h => ?_⟩
  · have e : p = 10 := by omega
    subst e
    refine h1 _ _ _ _ _ hpl (giv_of hN hG.1 hG.2.1 (fun p' hp' => ?_))
    have tot : sm 10 o = 0 := by
      have t1 := PS_total hplr (fun _ => true) r
      have e1 : sm 10 (fun p => if (fun _ : Int => true) p = true then PS T (plf co su) r p else 0) = sm 10 (fun p => PS T (plf co su) r p) := sm_congr (fun p _ => if_pos rfl)
      have e2 : sm (3 * T) (fun c => if (fun _ : Int => true) (plf co su c) = true then r c else 0) = sm (3 * T) r := sm_congr (fun c _ => if_pos rfl)
      rw [e1, e2, S3_total, sm_congr (g := fun _ => x1) (fun k hk => hG.2.1 k hk), sm_const] at t1
      rw [sm_congr (g := fun p => PS T (plf co su) r p - dm n T su x1 p) (fun p hp => hG.2.2 p hp), sm_sub, t1, dm_total hle.2.1, Int.mul_comm]; omega
    have t2 : sm 10 (fun p => - o p) = 0 := by
      have := sm_sub 10 (fun _ => 0) o
      rw [sm_zero (f := fun _ => (0 : Int)) (fun _ _ => rfl), tot] at this
      refine Eq.trans (sm_congr (fun p _ => ?_)) this
      omega
    have t3 := sm_each (n := 10) (f := fun p => - o p) (fun p hp => by have := hneg p hp; omega) (by omega) p' hp'
    have t4 := hG.2.2 p' hp'
    have t3 : - o p' = 0 := t3
    omega
  · refine lp5 (wp_G_findAny_27 (wp_G_findAny_18 Q (3 * (T : Int)) x2 0 0 pl f) Q p (3 * (T : Int)) x2 0 0 pl) (fun x4 r o _ _ => ∃ q : Nat, q ≤ 10 ∧ x4 = q ∧ GI n T co su x1 x2 r o ∧ (∀ p', p' < p → o p' ≤ 0) ∧ (0 < o p → ∀ q', q' < q → o q' < 0 → ∃ R : Int → Prop, Clo 0 (3 * T) x2 r (plf co su) R ∧ R p ∧ ¬ R q')) (fun x4 _ _ _ _ => (10 - x4).toNat) ?_ _ _ _ _ _ ⟨0, by omega, rfl, hG, hneg, fun _ q' h => by omega⟩
    rintro f2 x4 r2 o2 vi2 qu2 ⟨q, hq, rfl, hG2, hneg2, hR2⟩ ih2
    show wp_G_findAny_27_b _ _ _ _ _ _ _ _ _ _ _ _ _ _
    unfold wp_G_findAny_27_b
    have hb := GI_ov hN hS hm.1 hN0 h360 hG2 (p := p) (by omega)
    rw [Int.toNat_natCast]
    have nextp : o2 p ≤ 0 → wp_G_findAny_18 Q (3 * (T : Int)) x2 0 0 pl f (p + 1) r2 o2 vi2 qu2 := by
      intro hle0
      refine ih _ _ _ _ _ ⟨p + 1, by omega, by omega, hG2, fun p' hp' => ?_⟩ (by omega)
      by_cases hpp : p' = p
      · subst hpp; exact hle0
      · exact hneg2 p' (by omega)
    refine ⟨jR_n (by omega), fun h2 => ⟨⟨by omega, by omega⟩, ⟨by omega, by omega⟩, nextp, fun g => ?_⟩, fun h2 => ⟨⟨by omega, by omega⟩, ⟨by omega, by omega⟩, fun g => ⟨nextp, fun g2 => absurd g g2⟩, fun g => ?_⟩⟩
    · have e : q = 10 := by omega
      subst e
      refine h0 _ _ _ _ _ (no_giv hN hG2.2.1 hG2.2.2 (R := fun v => ∀ S : Int → Prop, Clo 0 (3 * T) x2 r2 (plf co su) S → S p → S v) ?_ (p0 := p) (by omega) (fun S _ h => h) (by omega) ?_)
      · intro c u v hE hu S hS2 hSp
        exact hS2 c u v hE (hu S hS2 hSp)
      · intro q' hq' hlt hall
        obtain ⟨R, hR, hRp, hRq⟩ := hR2 (by omega) q' hq' hlt
        exact hRq (hall R hR hRp)
    · refine s_G_level hN hS rfl rfl rfl hm hN0 h360 hpl (p := p) (q := q) (by omega) (by omega) rfl rfl hG2 (by omega) ?_
      intro r3 o3 vi3 qu3 c1 c2 c3 c4 c5 c6
      refine ih2 _ _ _ _ _ ⟨q + 1, by omega, by omega, c1, fun p' hp' => ?_, fun hpos q' hq' hlt => ?_⟩ (by omega)
      · have := hneg2 p' hp'
        by_cases hpq : p' = q
        · subst hpq
          have := c4 (by omega)
          omega
        · rw [c3 p' (by omega) (by omega) hpq]; exact this
      · have hqp : q' ≠ p := fun e => by subst e; omega
        by_cases hqq : q' = q
        · subst hqq
          rcases c6 with c6 | c6 | c6
          · omega
          · omega
          · exact c6
        · rw [c3 q' (by omega) hqp hqq] at hlt
          obtain ⟨R, hR, hRp, hRq⟩ := hR2 (by omega) q' (by omega) hlt
          exact ⟨R, c5 R hR hRp, hRp, hRq⟩
theorem s_G_sink {n T c : Nat} {co su : Nat → Int} {N x1 gCorners gLowest gFirst : Int} {row pl via queue : Nat → Int} {Q : Int → (Nat → Int) → (Nat → Int) → (Nat → Int) → Prop} (hN : NetOK n T co) (hC : gCorners = 3 * T) (hm : 0 ≤ gLowest ∧ gLowest ≤ 1000) (h360 : N ≤ 360) (hpl : ∀ c, c < 3 * T → pl c = plf co su c) (hc : c < 3 * T) (e1 : x1 = c) (hG : IsGiv n T co su N gLowest row)
    (hQ : ∀ row2 via2 queue2 : Nat → Int, IsGiv n T co su N gLowest row2 → (∀ d, d < c → row2 d = row d) → (∀ g, IsGiv n T co su N gLowest g → (∀ d, d < c → g d = row2 d) → row2 c ≤ g c) → Q (c + 1) row2 via2 queue2) : wp_G_sink x1 gCorners gLowest gFirst row pl via queue Q := by
  have hle := hN.le
  have hplr := plf_r (su := su) hN
  subst e1
  unfold wp_G_sink
  have hh := S3_hi hG.1 hG.2.1 hm.1 c hc
  refine lp4 (wp_G_sink_9 Q gCorners gLowest pl c (c + 1)) (fun x2 r _ _ => 0 ≤ x2 ∧ x2 + r c ≤ 1000 ∧ IsGiv n T co su N gLowest r ∧ ∀ d, d < c → r d = row d) (fun x2 _ _ _ => (2000 - x2).toNat) ?_ _ _ _ _ ⟨Int.le_refl _, by omega, hG, fun _ _ => rfl⟩
  rintro f x2 r vi qu ⟨b1, b2, b3, b4⟩ ih
  show wp_G_sink_9_b _ _ _ _ _ _ _ _ _ _ _
  unfold wp_G_sink_9_b
  have hrl := b3.1 c hc
  have hrh := S3_hi b3.1 b3.2.1 hm.1
  have hrc := hrh c hc
  have hplc := hplr c hc
  have ej : (jdiv (c : Int) 3) = ((c / 3 : Nat) : Int) := by rw [jdiv_n (by omega) (by omega) (by omega) (by omega)]; omega
  rw [Int.toNat_natCast, ej, hpl c hc]
  refine ⟨⟨by omega, by omega⟩, fun h => by omega, fun _ => ⟨⟨by omega, by omega⟩, ⟨by omega, by omega⟩, ⟨by omega, by omega⟩, fun g => hQ _ _ _ b3 b4 (fun g2 hg2 _ => by have := hg2.1 c hc; omega), fun g => ?_⟩⟩
  refine s_G_push (fo := c + 1) (T := T) hle.2.2 (by omega) (by omega) hC rfl hm (fun d hd => ⟨b3.1 d hd, by have := hrh d hd; omega⟩) (fun d hd => by rw [hpl d hd]; exact hplr d hd) (by omega) (by omega) (by omega) (by omega) (by omega) (by omega) ?_ ?_
  · intro vi2 qu2 R hR hR1 hR0
    exact ⟨jR01_0, fun _ => hQ _ _ _ b3 b4 (least_of hN b3 hc (Clo_congr hpl hR) hR1 hR0), fun h => absurd rfl h⟩
  · intro a r2 vi2 qu2 ha hP
    obtain ⟨p1, p2, p3, p4, p5, p6⟩ := hP
    refine ⟨⟨by omega, by omega⟩, fun h => by omega, fun _ r3 e3 => ?_⟩
    have hr2c : r2 c = r c := p5 c (by omega)
    refine ih _ _ _ _ ⟨by omega, ?_, giv_of hN (fun d hd => ?_) (fun k hk => ?_) (fun x hx => ?_), fun d hd => ?_⟩ (by omega)
    · rw [e3, up_s]; omega
    · rw [e3, up_at]; split
      · omega
      · exact p2 d hd
    · rw [e3, S3_up, p3 k hk, b3.2.1 k hk]
      by_cases hk2 : c / 3 = k
      · rw [if_pos hk2, if_pos (by omega)]; omega
      · rw [if_neg hk2, if_neg (by omega)]; omega
    · have h5 := p4 x (by omega) (by omega)
      rw [PS_congr hpl, PS_congr hpl] at h5
      rw [e3, PS_up (plf co su) r2 hc, h5, PS_giv hN b3 x hx, if_neg (show ¬ (x : Int) = 10 + ((c / 3 : Nat) : Int) by omega)]
      by_cases hx2 : plf co su c = x
      · rw [if_pos hx2, if_pos hx2.symm]; omega
      · rw [if_neg hx2, if_neg (fun q => hx2 q.symm)]; omega
    · rw [e3, up_n _ _ (by omega), p5 d (by omega)]; exact b4 d hd
/-- what the class keeps of the row -/
def RowX (n T : Nat) (co su : Nat → Int) (N m gCorners gFresh gThere : Int) (gRow : Nat → Int) : Prop := gFresh = 0 ∨ gFresh = 1 ∧ ((gThere = 1 ∧ gCorners = 3 * T ∧ IsRow n T co su N m gRow) ∨ (gThere = 0 ∧ ∀ g, ¬ IsGiv n T co su N m g))
theorem s_G_findRow {x1 x2 nPosts nThirds gCorners gLowest gFirst gFresh gThere : Int} {nCorners nSums gRow gPlaces gOver gVia gQueue : Nat → Int} {Q : Int → Int → Int → Int → Int → Int → (Nat → Int) → (Nat → Int) → (Nat → Int) → (Nat → Int) → (Nat → Int) → Prop} {n T : Nat} {co su : Nat → Int} (hn : nPosts = n) (hT : nThirds = T) (hN : NetOK n T co) (hc : ∀ c, c < 3 * T → nCorners c = co c) (hs : ∀ p, p < 9 → nSums p = su p) (hS : SuOK su) (hm : 0 ≤ x2 ∧ x2 ≤ 1000) (hmN : 3 * x2 ≤ x1) (h360 : x1 ≤ 360) (hX : RowX n T co su x1 x2 gCorners gFresh gThere gRow)
    (h1 : ∀ (gL gF : Int) (row pl ov via qu : Nat → Int), IsRow n T co su x1 x2 row → Q 1 (3 * T) gL gF 1 1 row pl ov via qu)
    (h0 : ∀ (gC gL gF : Int) (row pl ov via qu : Nat → Int), (∀ g, ¬ IsGiv n T co su x1 x2 g) → Q 0 gC gL gF 1 0 row pl ov via qu) : wp_G_findRow x1 x2 nPosts nThirds nCorners nSums gCorners gLowest gFirst gFresh gThere gRow gPlaces gOver gVia gQueue Q := by
  have hle := hN.le
  unfold wp_G_findRow
  rcases hX with hX | ⟨hX, hX2⟩
  · subst hX
    refine ⟨jR01_0, fun _ => ?_, fun h => absurd rfl h⟩
    refine s_G_findAny hn hT hN hc hs hS hm hmN h360 (fun row pl ov via qu hpl hG => ⟨Or.inr rfl, ?_⟩) (fun row pl ov via qu hno => ⟨Or.inl rfl, ?_⟩)
    · refine lp5 (wp_G_findRow_19 Q (3 * (T : Int)) x2 0 1 pl ov) (fun x3 _ r _ _ => ∃ c : Nat, c ≤ 3 * T ∧ x3 = c ∧ IsGiv n T co su x1 x2 r ∧ ∀ d, d < c → ∀ g, IsGiv n T co su x1 x2 g → (∀ d', d' < d → g d' = r d') → r d ≤ g d) (fun x3 _ _ _ _ => (3 * T - x3).toNat) ?_ _ _ _ _ _ ⟨0, by omega, rfl, hG, fun d h => by omega⟩
      rintro f x3 gF r vi qu2 ⟨c, hcc, rfl, b1, b2⟩ ih
      show wp_G_findRow_19_b _ _ _ _ _ _ _ _ _ _ _ _ _
      unfold wp_G_findRow_19_b
      refine ⟨jR_n (by omega), ⟨by omega, by omega⟩, fun h => ⟨Or.inr rfl, ?_⟩, fun h => ⟨jR01_1, fun h => absurd h (by decide), fun _ => ?_⟩⟩
      · have e : c = 3 * T := by omega
        subst e
        exact h1 _ _ _ _ _ _ _ ⟨b1, b2⟩
      · refine s_G_sink hN rfl hm h360 hpl (c := c) (by omega) rfl b1 (fun r2 vi2 qu3 d1 d2 d3 => ?_)
        refine ih _ _ _ _ _ ⟨c + 1, by omega, by omega, d1, fun d hd g hg hpre => ?_⟩ (by omega)
        by_cases hdc : d = c
        · subst hdc; exact d3 g hg hpre
        · rw [d2 d (by omega)]
          exact b2 d (by omega) g hg (fun d' hd' => (hpre d' hd').trans (d2 d' (by omega)))
    · refine ⟨1, ?_⟩
      show wp_G_findRow_19_b _ _ _ _ _ _ _ _ _ _ _ _ _
      unfold wp_G_findRow_19_b
      exact ⟨jR01_0, ⟨by omega, by omega⟩, fun h => ⟨Or.inl rfl, h0 _ _ _ _ _ _ _ _ hno⟩, fun h => ⟨jR01_0, fun _ => ⟨Or.inl rfl, h0 _ _ _ _ _ _ _ _ hno⟩, fun h => absurd rfl h⟩⟩
  · subst hX
    refine ⟨jR01_1, fun h => absurd h (by decide), fun _ => ?_⟩
    rcases hX2 with ⟨a, b, c⟩ | ⟨a, b⟩
    · subst a; subst b; exact ⟨Or.inr rfl, h1 _ _ _ _ _ _ _ c⟩
    · subst a; exact ⟨Or.inl rfl, h0 _ _ _ _ _ _ _ _ b⟩

/-! what the row tells -/
theorem giv_r {n T : Nat} {co su : Nat → Int} {N m : Int} {g : Nat → Int} (hm : 0 ≤ m) (h : IsGiv n T co su N m g) {c : Nat} (hc : c < 3 * T) : 0 ≤ g c ∧ g c ≤ N := by
  have h0 := h.1 (3 * (c / 3)) (by omega)
  have h1 := h.1 (3 * (c / 3) + 1) (by omega)
  have h2 := h.1 (3 * (c / 3) + 2) (by omega)
  have h3 := h.2.1 (c / 3) (by omega)
  unfold S3 at h3
  have : c = 3 * (c / 3) ∨ c = 3 * (c / 3) + 1 ∨ c = 3 * (c / 3) + 2 := by omega
  rcases this with w | w | w <;> rw [w] <;> omega
def gAt (T : Nat) (co g : Nat → Int) (p : Int) (C : Nat) : Int := sm C (fun c => if co c = p then g c else 0)
theorem s_G_givenAt {x1 gCorners : Int} {nCorners gRow : Nat → Int} {Q : Int → Prop} {n T : Nat} {co : Nat → Int} (hN : NetOK n T co) (hc : ∀ c, c < 3 * T → nCorners c = co c) (hg : gCorners = 3 * T) (hx1 : jR x1) (hQ : Q (gAt T co gRow x1 (3 * T))) : wp_G_givenAt x1 nCorners gCorners gRow Q := by
  have hle := hN.le
  subst hg
  unfold wp_G_givenAt
  refine lp2 (wp_G_givenAt_4 Q nCorners (3 * (T : Int)) gRow x1) (fun x2 x3 => ∃ k : Nat, k ≤ 3 * T ∧ x3 = k ∧ x2 = gAt T co gRow x1 k) (fun _ x3 => (3 * T - x3).toNat) ?_ _ _ ⟨0, by omega, rfl, rfl⟩
  rintro f x2 x3 ⟨k, hk, rfl, rfl⟩ ih
  show wp_G_givenAt_4_b _ _ _ _ _ _ _ _
  unfold wp_G_givenAt_4_b
  refine ⟨jR_n (by omega), ⟨by omega, by omega⟩, fun h => ?_, fun h => ?_⟩
  · have e : k = 3 * T := by omega
    rw [e]; exact hQ
  · have r := hN.co9 (c := k) (by omega)
    unfold wp_N_postOf
    rw [Int.toNat_natCast, hc k (by omega)]
    refine ⟨⟨by omega, by omega⟩, ⟨by omega, by omega⟩, hx1, fun g => ⟨⟨by omega, by omega⟩, ih _ _ ⟨k + 1, by omega, by omega, ?_⟩ (by omega)⟩, fun g => ih _ _ ⟨k + 1, by omega, by omega, ?_⟩ (by omega)⟩
    · show _ = sm (k + 1) _
      rw [sm_s, if_pos g]; rfl
    · show _ = sm (k + 1) _
      rw [sm_s, if_neg g, Int.add_zero]; rfl
theorem s_M_sumLoop {Q : Int → Int → Int → Int → (Nat → Int) → (Nat → Int) → (Nat → Int) → (Nat → Int) → (Nat → Int) → (Nat → Int) → Prop} {x1 mThirds m a1 a2 a3 : Int} {mCorner be a4 a5 a6 a7 a8 : Nat → Int} {n T : Nat} {co : Nat → Int} (hN : NetOK n T co) (hT : mThirds = T) (hc : ∀ c, c < 3 * T → mCorner c = co c) (hx1 : jR x1) (hQ : Q (gAt T co (fun c => m + be c) x1 (3 * T)) a1 a2 a3 be a4 a5 a6 a7 a8) : ∃ f, wp_M_sumOfRow_14 Q mThirds m mCorner x1 a1 a2 a3 be a4 a5 a6 a7 a8 f 0 0 := by
  have hle := hN.le
  subst hT
  refine lp2 (wp_M_sumOfRow_14 Q T m mCorner x1 a1 a2 a3 be a4 a5 a6 a7 a8) (fun x2 x3 => ∃ k : Nat, k ≤ 3 * T ∧ x3 = k ∧ x2 = gAt T co (fun c => m + be c) x1 k) (fun _ x3 => (3 * T - x3).toNat) ?_ _ _ ⟨0, by omega, rfl, rfl⟩
  rintro f x2 x3 ⟨k, hk, rfl, rfl⟩ ih
  show wp_M_sumOfRow_14_b _ _ _ _ _ _ _ _ _ _ _ _ _ _ _ _ _
  unfold wp_M_sumOfRow_14_b
  refine ⟨jR_n (by omega), ⟨by omega, by omega⟩, fun h => ?_, fun h => ?_⟩
  · have e : k = 3 * T := by omega
    rw [e]; exact hQ
  · have r := hN.co9 (c := k) (by omega)
    rw [Int.toNat_natCast, hc k (by omega)]
    refine ⟨⟨by omega, by omega⟩, ⟨by omega, by omega⟩, hx1, fun g => ih _ _ ⟨k + 1, by omega, by omega, ?_⟩ (by omega), fun g => ih _ _ ⟨k + 1, by omega, by omega, ?_⟩ (by omega)⟩
    · show _ = sm (k + 1) _
      rw [sm_s, if_pos g]; rfl
    · show _ = sm (k + 1) _
      rw [sm_s, if_neg g]; rfl
theorem gAt_congr {T : Nat} {co g g2 : Nat → Int} {p : Int} (h : ∀ c, c < 3 * T → g c = g2 c) : gAt T co g p (3 * T) = gAt T co g2 p (3 * T) := by
  unfold gAt
  exact sm_congr (fun c hc => by rw [h c hc])
/-! opposite -/
theorem s_X_givenOpposite {x1 x2 : Int} {nCorners nArrows gRow : Nat → Int} {Q : Int → Prop} {n T : Nat} {co : Nat → Int} (hN : NetOK n T co) (hc : ∀ c, c < 3 * T → nCorners c = co c) (hA : ArOK T co nArrows) (a1 : 0 ≤ x1) (a2 : x1 < 9) (a3 : 0 ≤ x2) (a4 : x2 < 9) (hQ : Q (oppS co T gRow x1 x2)) : wp_X_givenOpposite x1 x2 nCorners nArrows gRow Q := by
  have hle := hN.le
  have second : ∀ y : Int, Q (y + (if av co x2 x1 (3 * T) = -1 then 0 else gRow (opp co (av co x2 x1 (3 * T)).toNat x1 x2))) → wp_X_givenOpposite_42 Q nCorners nArrows gRow x1 x2 y := by
    intro y hy
    unfold wp_X_givenOpposite_42
    refine s_N_hasArrow hA hle.2.2 a3 a4 a1 a2 (fun h => ⟨jR01_0, fun _ => ?_, fun g => absurd rfl g⟩) (fun h => ⟨jR01_1, fun g => absurd g (by decide), fun _ => s_N_thirdWith hA a3 a4 a1 a2 ?_⟩)
    · rw [if_pos h, Int.add_zero] at hy; exact hy
    · have r := av_lt (T := T) (co := co) (p := x2) (q := x1)
      rw [if_neg h] at hy
      refine s_N_cornerOpposite (k := (av co x2 x1 (3 * T)).toNat) hN hc (by omega) (by omega) ⟨by omega, by omega⟩ ⟨by omega, by omega⟩ ?_
      have ho := opp_spec hN (k := (av co x2 x1 (3 * T)).toNat) (by omega) x1 x2
      unfold wp_G_given
      rw [Int.toNat_natCast]
      exact ⟨⟨by omega, by omega⟩, hy⟩
  unfold wp_X_givenOpposite
  unfold oppS at hQ
  refine s_N_hasArrow hA hle.2.2 a1 a2 a3 a4 (fun h => ⟨jR01_0, fun _ => second _ ?_, fun g => absurd rfl g⟩) (fun h => ⟨jR01_1, fun g => absurd g (by decide), fun _ => s_N_thirdWith hA a1 a2 a3 a4 ?_⟩)
  · rw [if_pos h] at hQ; exact hQ
  · have r := av_lt (T := T) (co := co) (p := x1) (q := x2)
    rw [if_neg h] at hQ
    refine s_N_cornerOpposite (k := (av co x1 x2 (3 * T)).toNat) hN hc (by omega) (by omega) ⟨by omega, by omega⟩ ⟨by omega, by omega⟩ ?_
    have ho := opp_spec hN (k := (av co x1 x2 (3 * T)).toNat) (by omega) x1 x2
    unfold wp_G_given
    rw [Int.toNat_natCast]
    refine ⟨⟨by omega, by omega⟩, second _ ?_⟩
    rw [Int.zero_add]; exact hQ
theorem oppS_congr {n T : Nat} {co g g2 : Nat → Int} (hN : NetOK n T co) (h : ∀ c, c < 3 * T → g c = g2 c) (p q : Int) : oppS co T g p q = oppS co T g2 p q := by
  have t : ∀ p q : Int, ∀ p2 q2 : Int, (if av co p q (3 * T) = -1 then 0 else g (opp co (av co p q (3 * T)).toNat p2 q2)) = (if av co p q (3 * T) = -1 then 0 else g2 (opp co (av co p q (3 * T)).toNat p2 q2)) := by
    intro p q p2 q2
    split
    · rfl
    · have r := av_lt (T := T) (co := co) (p := p) (q := q)
      exact h _ (opp_spec hN (k := (av co p q (3 * T)).toNat) (by omega) p2 q2).2.1
  unfold oppS
  rw [t, t]
theorem oppS_r {n T : Nat} {co su : Nat → Int} {N m : Int} {g : Nat → Int} (hN : NetOK n T co) (hm : 0 ≤ m) (hmN : 3 * m ≤ N) (h : IsGiv n T co su N m g) (p q : Int) : 0 ≤ oppS co T g p q ∧ oppS co T g p q ≤ 2 * N := by
  have t : ∀ p q : Int, ∀ p2 q2 : Int, 0 ≤ (if av co p q (3 * T) = -1 then 0 else g (opp co (av co p q (3 * T)).toNat p2 q2)) ∧ (if av co p q (3 * T) = -1 then 0 else g (opp co (av co p q (3 * T)).toNat p2 q2)) ≤ N := by
    intro p q p2 q2
    split
    · omega
    · have r := av_lt (T := T) (co := co) (p := p) (q := q)
      exact giv_r hm h (opp_spec hN (k := (av co p q (3 * T)).toNat) (by omega) p2 q2).2.1
  unfold oppS
  have a := t p q p q
  have b := t q p p q
  omega
/-! fit -/
def fits (co : Nat → Int) (T : Nat) (g : Nat → Int) (N : Int) (p q : Nat) : Int := if sd co (3 * T) p q = 2 ∧ oppS co T g p q ≤ N then 1 else 0
theorem fits_sym (co : Nat → Int) (T : Nat) (g : Nat → Int) (N : Int) (p q : Nat) : fits co T g N p q = fits co T g N q p := by
  unfold fits; rw [sd_symm, oppS_sym]
def fitN (co : Nat → Int) (T : Nat) (g : Nat → Int) (N : Int) (n : Nat) : Int := sm n (fun p => sm p (fun q => fits co T g N p q))
theorem fit_x (co : Nat → Int) (T : Nat) (g : Nat → Int) (N : Int) (n : Nat) : sm n (fun p => sm n (fun q => if p < q then fits co T g N p q else 0)) = fitN co T g N n := by
  rw [sm_swap]
  unfold fitN
  refine sm_congr (fun q hq => ?_)
  have e : sm n (fun p => if p < q then fits co T g N p q else 0) = sm q (fun p => if p < q then fits co T g N p q else 0) := sm_ext (by omega) (fun k h1 _ => if_neg (by omega))
  rw [e]
  refine sm_congr (fun p hp => ?_)
  rw [if_pos hp, fits_sym]
theorem s_X_fitLoop {Q : Int → Int → Int → Int → Int → Int → (Nat → Int) → (Nat → Int) → (Nat → Int) → (Nat → Int) → (Nat → Int) → Prop} {N nPosts a1 a2 a3 a4 a5 m : Int} {nCorners nArrows gRow b1 b2 b3 b4 : Nat → Int} {n T : Nat} {co su : Nat → Int} (hN : NetOK n T co) (hn : nPosts = n) (hc : ∀ c, c < 3 * T → nCorners c = co c) (hA : ArOK T co nArrows) (hm : 0 ≤ m) (hmN : 3 * m ≤ N) (h360 : N ≤ 360) (hg : IsGiv n T co su N m gRow) (hQ : Q (fitN co T gRow N n) a1 a2 a3 a4 a5 gRow b1 b2 b3 b4) : ∃ f, wp_X_fit_25 Q N nPosts nCorners nArrows a1 a2 a3 a4 a5 gRow b1 b2 b3 b4 f 0 0 := by
  have hle := hN.le
  subst hn
  refine lp2 (wp_X_fit_25 Q N n nCorners nArrows a1 a2 a3 a4 a5 gRow b1 b2 b3 b4) (fun x1 x2 => ∃ p : Nat, p ≤ n ∧ x2 = p ∧ x1 = sm p (fun p => sm n (fun q => if p < q then fits co T gRow N p q else 0))) (fun _ x2 => (n - x2).toNat) ?_ _ _ ⟨0, by omega, rfl, rfl⟩
  rintro f x1 x2 ⟨p, hp, rfl, rfl⟩ ih
  show wp_X_fit_25_b _ _ _ _ _ _ _ _ _ _ _ _ _ _ _ _ _ _
  unfold wp_X_fit_25_b
  refine ⟨jR_n (by omega), jR_n (by omega), fun h => ?_, fun h => ?_⟩
  · have e : p = n := by omega
    subst e
    rw [fit_x]; exact hQ
  · refine lp2 (wp_X_fit_40 (wp_X_fit_25 Q N n nCorners nArrows a1 a2 a3 a4 a5 gRow b1 b2 b3 b4 f) Q N n nCorners nArrows p a1 a2 a3 a4 a5 gRow b1 b2 b3 b4) (fun x1 x3 => ∃ q : Nat, p < q ∧ q ≤ n ∧ x3 = q ∧ x1 = sm p (fun p => sm n (fun q => if p < q then fits co T gRow N p q else 0)) + sm q (fun q => if p < q then fits co T gRow N p q else 0)) (fun _ x3 => (n - x3).toNat) ?_ _ _ ⟨p + 1, by omega, by omega, by omega, ?_⟩
    · rintro f2 x1 x3 ⟨q, hpq, hq, rfl, rfl⟩ ih2
      show wp_X_fit_40_b _ _ _ _ _ _ _ _ _ _ _ _ _ _ _ _ _ _ _ _
      unfold wp_X_fit_40_b
      refine ⟨jR_n (by omega), jR_n (by omega), fun g => ?_, fun g => ?_⟩
      · have e : q = n := by omega
        subst e
        exact ih _ _ ⟨p + 1, by omega, by omega, by rw [sm_s]⟩ (by omega)
      · refine s_N_thirdsAtSide hA hle.2.2 (by omega) (by omega) (by omega) (by omega) ?_
        have rs := sd_r co (3 * T) p q
        have ro := oppS_r hN hm hmN hg p q
        refine ⟨⟨by omega, by omega⟩, fun g2 => s_X_givenOpposite hN hc hA (by omega) (by omega) (by omega) (by omega) ⟨⟨by omega, by omega⟩, ⟨by omega, by omega⟩, fun g3 => ih2 _ _ ⟨q + 1, by omega, by omega, by omega, ?_⟩ (by omega), fun g3 => ih2 _ _ ⟨q + 1, by omega, by omega, by omega, ?_⟩ (by omega)⟩, fun g2 => ih2 _ _ ⟨q + 1, by omega, by omega, by omega, ?_⟩ (by omega)⟩
        · rw [sm_s, if_pos hpq]; unfold fits; rw [if_neg (fun z => by omega)]; omega
        · rw [sm_s, if_pos hpq]; unfold fits; rw [if_pos ⟨g2, by omega⟩]; omega
        · rw [sm_s, if_pos hpq]; unfold fits; rw [if_neg (fun z => g2 z.1)]; omega
    · rw [sm_zero (n := p + 1) (fun i hi => if_neg (by omega)), Int.add_zero]
theorem s_M_fitLoop {Q : Int → Int → Int → Int → (Nat → Int) → (Nat → Int) → (Nat → Int) → (Nat → Int) → (Nat → Int) → (Nat → Int) → Prop} {N mPosts mThirds a1 a2 a3 m : Int} {mCorner be b1 b2 b3 b4 b5 : Nat → Int} {n T : Nat} {co su : Nat → Int} (hN : NetOK n T co) (hn : mPosts = n) (hT : mThirds = T) (hc : ∀ c, c < 3 * T → mCorner c = co c) (hm : 0 ≤ m) (hmN : 3 * m ≤ N) (h360 : N ≤ 360) (hg : IsGiv n T co su N m (fun c => m + be c)) (hQ : Q (fitN co T (fun c => m + be c) N n) a1 a2 a3 be b1 b2 b3 b4 b5) : ∃ f, wp_M_fit_14 Q mPosts mThirds N m mCorner a1 a2 a3 be b1 b2 b3 b4 b5 f 0 0 := by
  have hle := hN.le
  subst hn
  refine lp2 (wp_M_fit_14 Q n mThirds N m mCorner a1 a2 a3 be b1 b2 b3 b4 b5) (fun x1 x2 => ∃ p : Nat, p ≤ n ∧ x2 = p ∧ x1 = fitN co T (fun c => m + be c) N p) (fun _ x2 => (n - x2).toNat) ?_ _ _ ⟨0, by omega, rfl, rfl⟩
  rintro f x1 x2 ⟨p, hp, rfl, rfl⟩ ih
  show wp_M_fit_14_b _ _ _ _ _ _ _ _ _ _ _ _ _ _ _ _ _ _
  unfold wp_M_fit_14_b
  refine ⟨jR_n (by omega), jR_n (by omega), fun h => ?_, fun h => ?_⟩
  · have e : p = n := by omega
    subst e; exact hQ
  · refine lp2 (wp_M_fit_24 (wp_M_fit_14 Q n mThirds N m mCorner a1 a2 a3 be b1 b2 b3 b4 b5 f) Q n mThirds N m mCorner p a1 a2 a3 be b1 b2 b3 b4 b5) (fun x1 x3 => ∃ q : Nat, q ≤ p ∧ x3 = q ∧ x1 = fitN co T (fun c => m + be c) N p + sm q (fun q => fits co T (fun c => m + be c) N p q)) (fun _ x3 => (p - x3).toNat) ?_ _ _ ⟨0, by omega, rfl, by rw [sm_0]; omega⟩
    rintro f2 x1 x3 ⟨q, hq, rfl, rfl⟩ ih2
    show wp_M_fit_24_b _ _ _ _ _ _ _ _ _ _ _ _ _ _ _ _ _ _ _ _
    unfold wp_M_fit_24_b
    refine ⟨jR_n (by omega), jR_n (by omega), fun g => ?_, fun g => ?_⟩
    · have e : q = p := by omega
      subst e
      exact ih _ _ ⟨q + 1, by omega, by omega, by unfold fitN; rw [sm_s]⟩ (by omega)
    · refine s_M_sideOf hN hT hc (jR_n (by omega)) (jR_n (by omega)) ?_
      have rs := sd_r co (3 * T) p q
      have ro := oppS_r hN hm hmN hg p q
      refine ⟨⟨by omega, by omega⟩, fun g2 => s_M_oppositeOf hN hT hc (jR_n (by omega)) (jR_n (by omega)) ⟨⟨by omega, by omega⟩, ⟨by omega, by omega⟩, fun g3 => ih2 _ _ ⟨q + 1, by omega, by omega, ?_⟩ (by omega), fun g3 => ih2 _ _ ⟨q + 1, by omega, by omega, ?_⟩ (by omega)⟩, fun g2 => ih2 _ _ ⟨q + 1, by omega, by omega, ?_⟩ (by omega)⟩
      · rw [sm_s]; unfold fits; rw [if_neg (fun z => by omega)]; omega
      · rw [sm_s]; unfold fits; rw [if_pos ⟨g2, by omega⟩]; omega
      · rw [sm_s]; unfold fits; rw [if_neg (fun z => g2 z.1)]; omega
theorem fitN_congr {n T : Nat} {co g g2 : Nat → Int} {N : Int} (hN : NetOK n T co) (h : ∀ c, c < 3 * T → g c = g2 c) : fitN co T g N n = fitN co T g2 N n := by
  unfold fitN
  refine sm_congr (fun p _ => sm_congr (fun q _ => ?_))
  unfold fits
  rw [oppS_congr hN h]
/-! best -/
def BestIs (n T : Nat) (co su : Nat → Int) (N z : Int) : Prop := (z = -6 ∧ ∀ m, 1 ≤ m → m ≤ 60 → 3 * m ≤ N → ∀ g, ¬ IsGiv n T co su N m g) ∨ (1 ≤ z ∧ z ≤ 60 ∧ 3 * z ≤ N ∧ (∃ g, IsGiv n T co su N z g) ∧ ∀ m, z < m → m ≤ 60 → 3 * m ≤ N → ∀ g, ¬ IsGiv n T co su N m g)
theorem best_unique {n T : Nat} {co su : Nat → Int} {N z z2 : Int} (h : BestIs n T co su N z) (h2 : BestIs n T co su N z2) : z = z2 := by
  rcases h with ⟨a, b⟩ | ⟨a1, a2, a3, ⟨g, a4⟩, a5⟩
  · rcases h2 with ⟨c, d⟩ | ⟨c1, c2, c3, ⟨g, c4⟩, c5⟩
    · omega
    · exact absurd c4 (b z2 c1 c2 c3 g)
  · rcases h2 with ⟨c, d⟩ | ⟨c1, c2, c3, ⟨g2, c4⟩, c5⟩
    · exact absurd a4 (d z a1 a2 a3 g)
    · by_cases q : z < z2
      · exact absurd c4 (a5 z2 q c2 c3 g2)
      · by_cases w : z2 < z
        · exact absurd a4 (c5 z w a2 a3 g)
        · omega
theorem s_M_best {Q : Int → Int → Int → (Nat → Int) → (Nat → Int) → (Nat → Int) → (Nat → Int) → (Nat → Int) → (Nat → Int) → Prop} {mPosts mThirds N mIsLaid mQueued : Int} {mCorner mSum be0 sp0 la0 bef0 via0 queue0 : Nat → Int} {n T : Nat} {co su : Nat → Int} (hN : NetOK n T co) (hn : mPosts = n) (hT : mThirds = T) (hc : ∀ c, c < 3 * T → mCorner c = co c) (hs : ∀ p, p < 9 → mSum p = ms su p) (hS : SuOK su) (h6 : 6 ≤ N) (h360 : N ≤ 360) (hQ : ∀ z qd be sp la bef via queue, BestIs n T co su N z → Q z 0 qd be sp la bef via queue) : wp_M_best mPosts mThirds N mIsLaid mQueued mCorner mSum be0 sp0 la0 bef0 via0 queue0 Q := by
  unfold wp_M_best
  refine lp8 (wp_M_best_8 Q mPosts mThirds N mCorner mSum 0) (fun x1 _ _ _ _ _ _ _ => 0 ≤ x1 ∧ x1 ≤ 60 ∧ ∀ m, x1 < m → m ≤ 60 → 3 * m ≤ N → ∀ g, ¬ IsGiv n T co su N m g) (fun x1 _ _ _ _ _ _ _ => x1.toNat) ?_ _ _ _ _ _ _ _ _ ⟨by omega, by omega, fun m h1 h2 => by omega⟩
  rintro f x1 qd be sp la bef via queue ⟨h1, h2, h3⟩ ih
  show wp_M_best_8_b _ _ _ _ _ _ _ _ _ _ _ _ _ _ _ _
  unfold wp_M_best_8_b
  have down : (3 * x1 ≤ N → ∀ g, ¬ IsGiv n T co su N x1 g) → ∀ m, x1 + -1 < m → m ≤ 60 → 3 * m ≤ N → ∀ g, ¬ IsGiv n T co su N m g := by
    intro hx m hm hm60 hmN
    by_cases e : m = x1
    · rw [e] at hmN ⊢; exact hx hmN
    · exact h3 m (by omega) hm60 hmN
  refine ⟨⟨by omega, by omega⟩, fun g => hQ _ _ _ _ _ _ _ _ (Or.inl ⟨rfl, fun m a b => h3 m (by omega) b⟩), fun g => ⟨⟨by omega, by omega⟩, ⟨by omega, by omega⟩, fun g2 => ih _ _ _ _ _ _ _ _ ⟨by omega, by omega, down (fun q => by omega)⟩ (by omega), fun g2 => ?_⟩⟩
  refine s_M_canWith hN hn hT hc hs hS (by omega) (by omega) (by omega) h360 (fun qd be sp la bef via queue _ _ hg => ⟨jR01_1, fun w => absurd w (by decide), fun _ => hQ _ _ _ _ _ _ _ _ (Or.inr ⟨by omega, by omega, by omega, ⟨_, hg⟩, h3⟩)⟩) (fun qd be sp la bef via queue hg => ⟨jR01_0, fun _ => ih _ _ _ _ _ _ _ _ ⟨by omega, by omega, down (fun _ => hg)⟩ (by omega), fun w => absurd rfl w⟩)
theorem giv_mono {n T : Nat} {co su : Nat → Int} {N m m2 : Int} {g : Nat → Int} (h : IsGiv n T co su N m g) (hm : m2 ≤ m) : IsGiv n T co su N m2 g := ⟨fun c hc => by have := h.1 c hc; omega, h.2⟩
theorem s_X_best {Q : Int → Int → Int → Int → Int → (Nat → Int) → (Nat → Int) → (Nat → Int) → (Nat → Int) → (Nat → Int) → Prop} {N nPosts nThirds gCorners gLowest gFirst gFresh : Int} {nCorners nSums gRow gPlaces gOver gVia gQueue : Nat → Int} {n T : Nat} {co su : Nat → Int} (hN : NetOK n T co) (hn : nPosts = n) (hT : nThirds = T) (hc : ∀ c, c < 3 * T → nCorners c = co c) (hs : ∀ p, p < 9 → nSums p = su p) (hS : SuOK su) (h6 : 6 ≤ N) (h360 : N ≤ 360) (hQ : ∀ z gC gL gF r p o v q, BestIs n T co su N z → Q z gC gL gF 0 r p o v q) : wp_X_best N nPosts nThirds nCorners nSums gCorners gLowest gFirst gFresh gRow gPlaces gOver gVia gQueue Q := by
  unfold wp_X_best
  have e0 : jdiv N 3 = N / 3 := jdiv_n (by omega) (by omega) (by omega) (by omega)
  have e1 : jmin 60 (jdiv N 3) = if N / 3 < 60 then N / 3 else 60 := by rw [e0, jmin_n (by unfold jR; decide) ⟨by omega, by omega⟩]
  have hb : ∃ B : Int, jmin 60 (jdiv N 3) + 1 = B ∧ 2 < B ∧ B ≤ 61 ∧ ∀ m : Int, m < B ↔ (m ≤ 60 ∧ 3 * m ≤ N) := by
    refine ⟨_, rfl, ?_, ?_, fun m => ?_⟩ <;> rw [e1] <;> split <;> omega
  obtain ⟨B, eB, b1, b2, b3⟩ := hb
  rw [eB]
  refine lp12 (wp_X_best_18 Q N nPosts nThirds nCorners nSums) (fun x1 x2 x3 _ _ _ fr _ _ _ _ _ => 0 ≤ x1 ∧ x1 < x2 ∧ x2 ≤ B ∧ 0 ≤ x3 ∧ x2 - x1 + x3 ≤ 61 ∧ x3 ≤ 60 ∧ (x1 = 0 ∨ ∃ g, IsGiv n T co su N x1 g) ∧ (∀ m, x2 ≤ m → m < B → ∀ g, ¬ IsGiv n T co su N m g) ∧ (x2 - x1 ≤ 1 → fr = 0)) (fun x1 x2 _ _ _ _ _ _ _ _ _ _ => (x2 - x1).toNat) ?_ _ _ _ _ _ _ _ _ _ _ _ _ ⟨by omega, by omega, by omega, by omega, by omega, by omega, Or.inl rfl, fun m h1 h2 => by omega, fun h => by omega⟩
  rintro f x1 x2 x3 gC gL gF fr r p o v q ⟨h1, h2, h3, h4, h5, h5', h6', h7, h8⟩ ih
  show wp_X_best_18_b _ _ _ _ _ _ _ _ _ _ _ _ _ _ _ _ _ _ _
  unfold wp_X_best_18_b
  have fin : x2 - x1 ≤ 1 → jR x1 ∧ ((x1 = 0 → Q (-6) gC gL gF fr r p o v q) ∧ (¬ x1 = 0 → Q x1 gC gL gF fr r p o v q)) := by
    intro hd
    rw [h8 hd]
    refine ⟨⟨by omega, by omega⟩, fun g => hQ _ _ _ _ _ _ _ _ _ (Or.inl ⟨rfl, fun m a b c => h7 m (by omega) ((b3 m).mpr ⟨b, c⟩)⟩), fun g => hQ _ _ _ _ _ _ _ _ _ (Or.inr ?_)⟩
    have := (b3 x1).mp (by omega)
    refine ⟨by omega, this.1, this.2, ?_, fun m a b c => h7 m (by omega) ((b3 m).mpr ⟨b, c⟩)⟩
    rcases h6' with w | w
    · exact absurd w g
    · exact w
  have em : jdiv (x1 + x2) 2 = (x1 + x2) / 2 := jdiv_n (by omega) (by omega) (by omega) (by omega)
  refine ⟨⟨by omega, by omega⟩, fun g => fin (by omega), fun g => ⟨⟨by omega, by omega⟩, fun g2 => fin g2, fun g2 => ?_⟩⟩
  rw [em]
  have hmid := (b3 ((x1 + x2) / 2)).mp (by omega)
  refine s_G_findAny hn hT hN hc hs hS ⟨by omega, by omega⟩ hmid.2 h360 (fun r p o v q _ hg => ⟨jR01_1, fun w => absurd w (by decide), fun _ => ih _ _ _ _ _ _ _ _ _ _ _ _ ⟨by omega, by omega, by omega, by omega, by omega, by omega, Or.inr ⟨_, hg⟩, h7, fun _ => rfl⟩ (by omega)⟩) (fun r p o v q hg => ⟨jR01_0, fun _ => ih _ _ _ _ _ _ _ _ _ _ _ _ ⟨by omega, by omega, by omega, by omega, by omega, by omega, h6', fun m a b gg hgg => ?_, fun _ => rfl⟩ (by omega), fun w => absurd rfl w⟩)
  exact hg gg (giv_mono hgg (by omega))
/-! told -/
theorem s_M_told {Q : Int → (Nat → Int) → Prop} {x1 mPosts mThirds N L : Int} {mCorner mSum mMark : Nat → Int} {n T : Nat} {co su : Nat → Int} {F : Int → Int → Prop} {V : Nat → Prop} (hN : NetOK n T co) (hn : mPosts = n) (hT : mThirds = T) (hc : ∀ c, c < 3 * T → mCorner c = co c) (hs : ∀ p, p < 9 → mSum p = ms su p) (hS : SuOK su) (hx1 : jR x1) (hF : ∀ x y, F x y) (hV : ∀ k, V k)
    (hQ : ∀ mk, (x1 = 0 → Q n mk) ∧ (x1 = 1 → Q T mk) ∧ (x1 = 2 → Q (sN co (3 * T) n 1 + sN co (3 * T) n 2) mk) ∧ (x1 = 3 → Q (sN co (3 * T) n 1) mk) ∧ (x1 = 4 → Q (used co (3 * T) n - sN co (3 * T) n 1 - sN co (3 * T) n 2 + T) mk) ∧ (x1 = 5 → Q (pcs T co F V T) mk) ∧ (x1 = 6 → Q N mk) ∧ (x1 = 7 → Q L mk) ∧ (x1 = 8 → Q (sm n (fun p => if su p = -1 then 0 else su p)) mk) ∧ (¬ x1 = 0 ∧ ¬ x1 = 1 ∧ ¬ x1 = 2 ∧ ¬ x1 = 3 ∧ ¬ x1 = 4 ∧ ¬ x1 = 5 ∧ ¬ x1 = 6 ∧ ¬ x1 = 7 ∧ ¬ x1 = 8 → Q (-1002) mk)) : wp_M_told x1 mPosts mThirds N L mCorner mSum mMark Q := by
  have hle := hN.le
  subst hn
  unfold wp_M_told
  refine lp3 (wp_M_told_7 Q n mThirds N L mCorner mSum x1 mMark) (fun x2 x3 x4 => ∃ k : Nat, k ≤ n ∧ x4 = k ∧ x2 = used co (3 * T) k ∧ x3 = sm k (fun p => if su p = -1 then 0 else su p)) (fun _ _ x4 => (n - x4).toNat) ?_ _ _ _ ⟨0, by omega, rfl, rfl, rfl⟩
  rintro f x2 x3 x4 ⟨k, hk, rfl, rfl, rfl⟩ ih
  show wp_M_told_7_b _ _ _ _ _ _ _ _ _ _ _ _ _
  unfold wp_M_told_7_b
  refine ⟨jR_n (by omega), jR_n (by omega), fun h => ?_, fun h => ?_⟩
  · have e : k = n := by omega
    subst e
    obtain ⟨q0, q1, q2, q3, q4, q5, q6, q7, q8, q9⟩ := hQ mMark
    have J1 : jR 1 := jR01_1
    have J2 : jR 2 := by unfold jR; decide
    refine ⟨hx1, q0, fun g => by rw [hT]; exact q1 g, fun g => s_M_sides hN rfl hT hc J1 (by rw [sides_1]; exact q2 g), fun g => s_M_sides hN rfl hT hc J1 (s_M_sides hN rfl hT hc J2 (by rw [sides_1, sides_2]; have := q3 g; rw [show sN co (3 * T) k 1 + sN co (3 * T) k 2 - sN co (3 * T) k 2 = sN co (3 * T) k 1 by omega]; exact this)), fun g => s_M_sides hN rfl hT hc J1 (by rw [sides_1, hT]; have := q4 g; rw [show used co (3 * T) k - (sN co (3 * T) k 1 + sN co (3 * T) k 2) + (T : Int) = used co (3 * T) k - sN co (3 * T) k 1 - sN co (3 * T) k 2 + T by omega]; exact this), fun g => s_M_pieces hN hT hc (by unfold jR; decide) (fun x y _ _ => ⟨fun _ => Or.inl (by decide), fun _ => hF x y⟩) (fun x y _ => hF y x) (fun k _ => ⟨fun _ => Or.inl (by decide), fun _ => hV k⟩) (fun mk => (hQ mk).2.2.2.2.2.1 g), q6, q7, fun g => q8 g, q9⟩
  · refine s_M_cornersAt hT hle.2.2 hc (fun c h => hN.co9 h) (jR_n (by omega)) ?_
    have rc := cAt_r co (3 * T) k
    have rest : ∀ t1 : Int, t1 = (if 0 < cAt co (3 * T) k then 1 else 0) → wp_M_told_31 (wp_M_told_7 Q n mThirds N L mCorner mSum x1 mMark f) Q n mThirds N L mCorner mSum x1 mMark (sm k (fun p => if su p = -1 then 0 else su p)) k (used co (3 * T) k) t1 := by
      intro t1 ht
      unfold wp_M_told_31
      have q3 := hS k (by omega)
      rw [Int.toNat_natCast, hs k (by omega)]
      have em : ms su k = -6 ↔ su k = -1 := by unfold ms; split <;> omega
      refine ⟨⟨by omega, by omega⟩, by unfold ms; split <;> exact ⟨by omega, by omega⟩, fun g => ih _ _ _ ⟨k + 1, by omega, by omega, ?_, ?_⟩ (by omega), fun g => ih _ _ _ ⟨k + 1, by omega, by omega, ?_, ?_⟩ (by omega)⟩
      · unfold used; rw [sm_s, ht]
      · rw [sm_s, if_pos (em.mp g)]
      · unfold used; rw [sm_s, ht]
      · rw [sm_s, if_neg (fun q => g (em.mpr q))]
        unfold ms; rw [if_neg (fun q => g (em.mpr q))]
    refine ⟨⟨by omega, by omega⟩, fun g => rest 0 (if_neg (by omega)).symm, fun g => rest 1 (if_pos (by omega)).symm⟩

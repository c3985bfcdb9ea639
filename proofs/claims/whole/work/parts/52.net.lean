/-- how many sides have j thirds -/
def sN (co : Nat → Int) (C n : Nat) (j : Int) : Int := sm n (fun p => sm p (fun q => if sd co C p q = j then 1 else 0))
theorem sm_sym (f : Nat → Nat → Int) (hs : ∀ i j, f i j = f j i) : ∀ n : Nat, sm n (fun p => sm n (fun q => if q ≠ p then f p q else 0)) = 2 * sm n (fun p => sm p (fun q => f p q)) := by
  intro n
  induction n with
  | zero => rfl
  | succ n ih =>
    rw [sm_s n (fun p => sm (n + 1) (fun q => if q ≠ p then f p q else 0)), sm_s n (fun p => sm p (fun q => f p q)), Int.mul_add, ← ih]
    have e1 : sm n (fun p => sm (n + 1) (fun q => if q ≠ p then f p q else 0)) = sm n (fun p => sm n (fun q => if q ≠ p then f p q else 0)) + sm n (fun p => f p n) := by
      rw [← sm_add]
      refine sm_congr (fun p hp => ?_)
      rw [sm_s, if_pos (by omega)]
    have e2 : sm (n + 1) (fun q => if q ≠ n then f n q else 0) = sm n (fun q => f n q) := by
      rw [sm_s, if_neg (by omega), Int.add_zero]
      exact sm_congr (fun q hq => if_pos (by omega))
    have e3 : sm n (fun p => f p n) = sm n (fun q => f n q) := sm_congr (fun p _ => hs p n)
    rw [e1, e2, e3]; omega
theorem sAt_sum (co : Nat → Int) (C n : Nat) (j : Int) : sm n (fun p => sAt co C n p j) = 2 * sN co C n j := by
  unfold sAt sN
  rw [← sm_sym (fun p q => if sd co C p q = j then 1 else 0) (fun p q => by rw [sd_symm]) n]
  refine sm_congr (fun p _ => sm_congr (fun q _ => ?_))
  by_cases h : q = p
  · subst h; rw [if_neg (by omega), if_neg (by omega)]
  · rw [if_pos h]
    by_cases g : sd co C p q = j
    · rw [if_pos ⟨by omega, g⟩, if_pos g]
    · rw [if_neg (fun z => g z.2), if_neg g]
theorem sN_r (co : Nat → Int) (C n : Nat) (j : Int) (h9 : n ≤ 9) : 0 ≤ sN co C n j ∧ sN co C n j ≤ 81 := by
  have h1 := sAt_sum co C n j
  have h2 : 0 ≤ sm n (fun p => sAt co C n p j) := sm_nonneg (fun p _ => (sAt_r co C n p j).1)
  have h3 := sm_le (n := n) (f := fun p => sAt co C n p j) (g := fun _ => 9) (fun p _ => by have := (sAt_r co C n p j).2; omega)
  rw [sm_const] at h3
  omega
theorem s_N_sidesWith {x1 nPosts : Int} {nArrows : Nat → Int} {Q : Int → Prop} {n T : Nat} {co : Nat → Int} (hn : nPosts = n) (h9 : n ≤ 9) (hA : ArOK T co nArrows) (h12 : T ≤ 12) (hx1 : jR x1) (hQ : Q (sN co (3 * T) n x1)) : wp_N_sidesWith x1 nPosts nArrows Q := by
  have hr := sN_r co (3 * T) n x1 h9
  have hsum := sAt_sum co (3 * T) n x1
  subst hn
  unfold wp_N_sidesWith
  refine lp2 (wp_N_sidesWith_4 Q n nArrows x1) (fun x2 x3 => ∃ k : Nat, k ≤ n ∧ x3 = k ∧ x2 = sm k (fun p => sAt co (3 * T) n p x1)) (fun _ x3 => (n - x3).toNat) ?_ 0 0 ⟨0, by omega, rfl, rfl⟩
  rintro f x2 x3 ⟨k, hk, rfl, rfl⟩ ih
  show wp_N_sidesWith_4_b _ _ _ _ _ _ _
  unfold wp_N_sidesWith_4_b
  refine ⟨jR_n (by omega), jR_n (by omega), fun h => ?_, fun h => ?_⟩
  · rw [show k = n by omega, hsum, jdiv_n (by omega) (by omega) (by omega) (by omega), show 2 * sN co (3 * T) n x1 / 2 = sN co (3 * T) n x1 by omega]; exact hQ
  · exact s_N_sidesAt rfl h9 hA h12 (by omega) (by omega) hx1 (ih _ _ ⟨k + 1, by omega, by omega, rfl⟩ (by omega))
theorem s_N_isFreeOfRim {x1 nPosts nThirds : Int} {nCorners nArrows : Nat → Int} {Q : Int → Prop} {n T : Nat} {co : Nat → Int} (hn : nPosts = n) (hT : nThirds = T) (hN : NetOK n T co) (hc : ∀ c, c < 3 * T → nCorners c = co c) (hA : ArOK T co nArrows) (a1 : 0 ≤ x1) (a2 : x1 < n) (h1 : 0 < cAt co (3 * T) x1 ∧ sAt co (3 * T) n x1 1 = 0 → Q 1) (h0 : ¬ (0 < cAt co (3 * T) x1 ∧ sAt co (3 * T) n x1 1 = 0) → Q 0) : wp_N_isFreeOfRim x1 nPosts nThirds nCorners nArrows Q := by
  have hle := hN.le
  have r1 := cAt_r co (3 * T) x1
  have r2 := sAt_r co (3 * T) n x1 1
  unfold wp_N_isFreeOfRim
  refine s_N_cornersAt hT hle.2.2 hc (fun c h => hN.co9 h) ⟨by omega, by omega⟩ ⟨⟨by omega, by omega⟩, fun h => h0 (by omega), fun h => ?_⟩
  exact s_N_sidesAt hn hle.2.1 hA hle.2.2 a1 (by omega) jR01_1 ⟨⟨by omega, by omega⟩, fun g => h1 (by omega), fun g => h0 (by omega)⟩
def used (co : Nat → Int) (C n : Nat) : Int := sm n (fun p => if 0 < cAt co C p then 1 else 0)
theorem used_r (co : Nat → Int) (C n : Nat) : 0 ≤ used co C n ∧ used co C n ≤ n := by
  unfold used
  refine ⟨sm_nonneg (fun i _ => by split <;> omega), ?_⟩
  have h := sm_le (n := n) (f := fun p => if 0 < cAt co C p then (1 : Int) else 0) (g := fun _ => 1) (fun i _ => by split <;> omega)
  rw [sm_const] at h
  omega
theorem s_N_character {nPosts nThirds : Int} {nCorners nArrows : Nat → Int} {Q : Int → Prop} {n T : Nat} {co : Nat → Int} (hn : nPosts = n) (hT : nThirds = T) (hN : NetOK n T co) (hc : ∀ c, c < 3 * T → nCorners c = co c) (hA : ArOK T co nArrows) (hQ : Q (used co (3 * T) n - sN co (3 * T) n 1 - sN co (3 * T) n 2 + T)) : wp_N_character nPosts nThirds nCorners nArrows Q := by
  have hle := hN.le
  subst hn; subst hT
  unfold wp_N_character
  refine lp2 (wp_N_character_4 Q n T nCorners nArrows) (fun x1 x2 => ∃ k : Nat, k ≤ n ∧ x2 = k ∧ x1 = used co (3 * T) k) (fun _ x2 => (n - x2).toNat) ?_ 0 0 ⟨0, by omega, rfl, rfl⟩
  rintro f x1 x2 ⟨k, hk, rfl, rfl⟩ ih
  show wp_N_character_4_b _ _ _ _ _ _ _ _
  unfold wp_N_character_4_b
  refine ⟨jR_n (by omega), jR_n (by omega), fun h => ?_, fun h => ?_⟩
  · have e : k = n := by omega
    subst e
    exact s_N_sidesWith rfl hle.2.1 hA hle.2.2 jR01_1 (s_N_sidesWith rfl hle.2.1 hA hle.2.2 (by unfold jR; decide) hQ)
  · have r1 := cAt_r co (3 * T) k
    refine s_N_cornersAt rfl hle.2.2 hc (fun c h => hN.co9 h) ⟨by omega, by omega⟩ ⟨⟨by omega, by omega⟩, fun g => ih _ _ ⟨k + 1, by omega, by omega, ?_⟩ (by omega), fun g => ih _ _ ⟨k + 1, by omega, by omega, ?_⟩ (by omega)⟩
    · unfold used; rw [sm_s, if_neg (by omega)]; omega
    · unfold used; rw [sm_s, if_pos (by omega)]
/-- the sums: -1 stands for none -/
def SuOK (su : Nat → Int) : Prop := ∀ p, p < 9 → -1 ≤ su p ∧ su p ≤ 4000
def told (su : Nat → Int) (p : Nat) : Int := if su p = -1 then 0 else su p
theorem told_r {su : Nat → Int} (h : SuOK su) {p : Nat} (hp : p < 9) : 0 ≤ told su p ∧ told su p ≤ 4000 := by
  have := h p hp
  unfold told; split <;> omega
theorem s_N_isTold {x1 : Int} {nSums : Nat → Int} {Q : Int → Prop} {su : Nat → Int} (hs : ∀ p, p < 9 → nSums p = su p) (hS : SuOK su) (a1 : 0 ≤ x1) (a2 : x1 < 9) (h0 : su x1.toNat = -1 → Q 0) (h1 : su x1.toNat ≠ -1 → Q 1) : wp_N_isTold x1 nSums Q := by
  unfold wp_N_isTold
  have h := hS x1.toNat (by omega)
  rw [hs _ (by omega)]
  exact ⟨⟨by omega, by omega⟩, ⟨by omega, by omega⟩, fun h => h0 h, fun h => h1 h⟩
theorem s_N_allSums {nPosts : Int} {nSums : Nat → Int} {Q : Int → Prop} {n : Nat} {su : Nat → Int} (hn : nPosts = n) (h9 : n ≤ 9) (hs : ∀ p, p < 9 → nSums p = su p) (hS : SuOK su) (hQ : Q (sm n (told su))) : wp_N_allSums nPosts nSums Q := by
  subst hn
  unfold wp_N_allSums
  refine lp2 (wp_N_allSums_4 Q n nSums) (fun x1 x2 => ∃ k : Nat, k ≤ n ∧ x2 = k ∧ x1 = sm k (told su)) (fun _ x2 => (n - x2).toNat) ?_ 0 0 ⟨0, by omega, rfl, rfl⟩
  rintro f x1 x2 ⟨k, hk, rfl, rfl⟩ ih
  show wp_N_allSums_4_b _ _ _ _ _ _
  unfold wp_N_allSums_4_b
  refine ⟨jR_n (by omega), jR_n (by omega), fun h => ?_, fun h => ?_⟩
  · rw [show k = n by omega]; exact hQ
  · refine s_N_isTold hs hS (by omega) (by omega) (fun g => ?_) (fun g => ?_)
    · rw [Int.toNat_natCast] at g
      refine ⟨jR01_0, fun _ => ih _ _ ⟨k + 1, by omega, by omega, ?_⟩ (by omega), fun h => absurd rfl h⟩
      rw [sm_s]; unfold told; rw [if_pos g]; omega
    · rw [Int.toNat_natCast] at g
      refine ⟨jR01_1, fun h => absurd h (by decide), fun _ => ⟨⟨by omega, by omega⟩, ih _ _ ⟨k + 1, by omega, by omega, ?_⟩ (by omega)⟩⟩
      rw [sm_s, Int.toNat_natCast, hs k (by omega)]; unfold told; rw [if_neg g]
theorem s_N_cornerOpposite {x1 x2 x3 : Int} {nCorners : Nat → Int} {Q : Int → Prop} {n T k : Nat} {co : Nat → Int} (hN : NetOK n T co) (hc : ∀ c, c < 3 * T → nCorners c = co c) (hk : k < T) (hx1 : x1 = k) (hx2 : jR x2) (hx3 : jR x3) (hQ : Q ((opp co k x2 x3 : Nat) : Int)) : wp_N_cornerOpposite x1 x2 x3 nCorners Q := by
  have hle := hN.le
  subst hx1
  unfold wp_N_cornerOpposite
  have r0 := hN.co9 (c := 3 * k) (by omega)
  have r1 := hN.co9 (c := 3 * k + 1) (by omega)
  have e0 := hc (3 * k) (by omega)
  have e1 := hc (3 * k + 1) (by omega)
  refine ⟨3, ?_⟩
  show wp_N_cornerOpposite_8_b _ _ _ _ _ _ _
  unfold wp_N_cornerOpposite_8_b
  have t0 : ((3 : Int) * (k : Int)).toNat = 3 * k := by omega
  have t1 : ((3 : Int) * (k : Int) + 1).toNat = 3 * k + 1 := by omega
  have step2 : (co (3 * k) = x2 ∨ co (3 * k) = x3) → wp_N_cornerOpposite_8 Q nCorners x2 x3 2 (3 * (k : Int) + 1) (0 + 1) := by
    intro hh
    show wp_N_cornerOpposite_8_b _ _ _ _ _ _ _
    unfold wp_N_cornerOpposite_8_b
    have step3 : (co (3 * k + 1) = x2 ∨ co (3 * k + 1) = x3) → wp_N_cornerOpposite_8 Q nCorners x2 x3 1 (3 * (k : Int) + 1 + 1) (0 + 1 + 1) := by
      intro hh2
      show wp_N_cornerOpposite_8_b _ _ _ _ _ _ _
      unfold wp_N_cornerOpposite_8_b
      refine ⟨by unfold jR; decide, fun _ => ?_, fun h => absurd (by decide) h⟩
      unfold opp at hQ
      rw [if_neg (by omega), if_neg (by omega)] at hQ
      rw [show (3 * (k : Int) + 1 + 1) = ((3 * k + 2 : Nat) : Int) by omega]; exact hQ
    rw [t1, e1]
    refine ⟨by unfold jR; decide, fun h => absurd h (by decide), fun _ => ⟨⟨by omega, by omega⟩, ⟨by omega, by omega⟩, hx2, fun g => step3 (Or.inl g), fun g => ⟨hx3, fun g2 => step3 (Or.inr g2), fun g2 => ?_⟩⟩⟩
    unfold opp at hQ
    rw [if_neg (by omega), if_pos ⟨g, g2⟩] at hQ
    rw [show (3 * (k : Int) + 1) = ((3 * k + 1 : Nat) : Int) by omega]; exact hQ
  rw [t0, e0]
  refine ⟨by unfold jR; decide, fun h => absurd h (by decide), fun _ => ⟨⟨by omega, by omega⟩, ⟨by omega, by omega⟩, hx2, fun g => step2 (Or.inl g), fun g => ⟨hx3, fun g2 => step2 (Or.inr g2), fun g2 => ?_⟩⟩⟩
  unfold opp at hQ
  rw [if_pos ⟨g, g2⟩] at hQ
  rw [show (3 * (k : Int)) = ((3 * k : Nat) : Int) by omega]; exact hQ
/-- one arrow drawn -/
theorem ar_step {co ar ar2 : Nat → Int} {C : Nat} (hr : 0 ≤ co C ∧ co C < 9 ∧ 0 ≤ co (nx C) ∧ co (nx C) < 9) (h : ∀ p q : Int, 0 ≤ p → p < 9 → 0 ≤ q → q < 9 → ar ((p * 9) + q).toNat = av co p q C) (e : ar2 = up ar (co C * 9 + co (nx C)).toNat ((C / 3 : Nat) : Int)) : ∀ p q : Int, 0 ≤ p → p < 9 → 0 ≤ q → q < 9 → ar2 ((p * 9) + q).toNat = av co p q (C + 1) := by
  intro p q p1 p2 q1 q2
  subst e
  show up ar _ _ _ = (if co C = p ∧ co (nx C) = q then ((C / 3 : Nat) : Int) else av co p q C)
  rw [up_at]
  by_cases g : co C = p ∧ co (nx C) = q
  · rw [if_pos g, if_pos (by rw [g.1, g.2])]
  · rw [if_neg g, if_neg (by omega), h p q p1 p2 q1 q2]
theorem s_N_drawArrows {nThirds : Int} {nCorners nArrows : Nat → Int} {Q : (Nat → Int) → Prop} {T : Nat} {co : Nat → Int} (hT : nThirds = T) (h12 : T ≤ 12) (hc : ∀ c, c < 3 * T → nCorners c = co c) (hr : ∀ c, c < 3 * T → 0 ≤ co c ∧ co c < 9) (hQ : ∀ ar, ArOK T co ar → Q ar) : wp_N_drawArrows nThirds nCorners nArrows Q := by
  subst hT
  unfold wp_N_drawArrows
  intro ar1 e1
  refine lp2 (wp_N_drawArrows_10 Q T nCorners) (fun x1 ar => ∃ k : Nat, k ≤ T ∧ x1 = k ∧ ∀ p q : Int, 0 ≤ p → p < 9 → 0 ≤ q → q < 9 → ar ((p * 9) + q).toNat = av co p q (3 * k)) (fun x1 _ => (T - x1).toNat) ?_ 0 ar1 ⟨0, by omega, rfl, fun p q p1 p2 q1 q2 => ?_⟩
  · rintro f x1 ar ⟨k, hk, rfl, har⟩ ih
    show wp_N_drawArrows_10_b _ _ _ _ _ _
    unfold wp_N_drawArrows_10_b
    refine ⟨jR_n (by omega), jR_n (by omega), fun h => ?_, fun h => ?_⟩
    · have e : k = T := by omega
      subst e; exact hQ ar har
    · have t0 : ((3 : Int) * (k : Int)).toNat = 3 * k := by omega
      have t1 : ((3 : Int) * (k : Int) + 1).toNat = 3 * k + 1 := by omega
      have t2 : ((3 : Int) * (k : Int) + 2).toNat = 3 * k + 2 := by omega
      have r0 := hr (3 * k) (by omega)
      have r1 := hr (3 * k + 1) (by omega)
      have r2 := hr (3 * k + 2) (by omega)
      rw [t0, t1, t2, hc (3 * k) (by omega), hc (3 * k + 1) (by omega), hc (3 * k + 2) (by omega)]
      refine ⟨⟨by omega, by omega⟩, ⟨by omega, by omega⟩, ⟨by omega, by omega⟩, ⟨by omega, by omega⟩, fun a1 f1 => ⟨⟨by omega, by omega⟩, fun a2 f2 => ⟨⟨by omega, by omega⟩, fun a3 f3 => ih _ _ ⟨k + 1, by omega, by omega, ?_⟩ (by omega)⟩⟩⟩
      have s1 := ar_step (co := co) (ar := ar) (ar2 := a1) (C := 3 * k) (by rw [nx_0]; omega) har (by rw [f1, nx_0, show 3 * k / 3 = k by omega])
      have s2 := ar_step (co := co) (ar := a1) (ar2 := a2) (C := 3 * k + 1) (by rw [nx_1]; omega) s1 (by rw [f2, nx_1, show (3 * k + 1) / 3 = k by omega])
      have s3 := ar_step (co := co) (ar := a2) (ar2 := a3) (C := 3 * k + 2) (by rw [nx_2]; omega) s2 (by rw [f3, nx_2, show (3 * k + 2) / 3 = k by omega])
      exact s3
  · show ar1 _ = -1
    subst e1
    unfold fillf
    rw [if_pos (by omega)]

/-! givings, and what bars them -/
def IsGiv (n T : Nat) (co su : Nat → Int) (N m : Int) (g : Nat → Int) : Prop := (∀ c, c < 3 * T → m ≤ g c) ∧ (∀ k, k < T → S3 g k = N) ∧ ∀ p : Nat, p < n → su p ≠ -1 → sm (3 * T) (fun c => if co c = p then g c else 0) = su p
def IsRow (n T : Nat) (co su : Nat → Int) (N m : Int) (g : Nat → Int) : Prop := IsGiv n T co su N m g ∧ ∀ c, c < 3 * T → ∀ g2, IsGiv n T co su N m g2 → (∀ d, d < c → g2 d = g d) → g c ≤ g2 c
theorem row_unique {n T : Nat} {co su : Nat → Int} {N m : Int} {g g2 : Nat → Int} (h : IsRow n T co su N m g) (h2 : IsRow n T co su N m g2) : ∀ c, c < 3 * T → g c = g2 c := by
  intro c
  induction c using Nat.strongRecOn with
  | ind c ih =>
    intro hc
    have a := h.2 c hc g2 h2.1 (fun d hd => (ih d hd (by omega)).symm)
    have b := h2.2 c hc g h.1 (fun d hd => ih d hd (by omega))
    omega
def plf (co su : Nat → Int) (c : Nat) : Int := if su (co c).toNat = -1 then 9 else co c
def dm (n T : Nat) (su : Nat → Int) (N : Int) (p : Nat) : Int := if p = 9 then N * T - sm n (told su) else if p < n ∧ su p ≠ -1 then su p else 0
theorem plf_r {n T : Nat} {co su : Nat → Int} (h : NetOK n T co) : ∀ c, c < 3 * T → 0 ≤ plf co su c ∧ plf co su c < 10 := by
  intro c hc
  have := h.co9 hc
  unfold plf; split <;> omega
theorem S3_total (T : Nat) (f : Nat → Int) : sm (3 * T) f = sm T (fun k => S3 f k) := sm_three T f
theorem PS_total {T : Nat} {pl : Nat → Int} (hpl : ∀ c, c < 3 * T → 0 ≤ pl c ∧ pl c < 10) (P : Int → Bool) (f : Nat → Int) : sm 10 (fun p => if P p = true then PS T pl f p else 0) = sm (3 * T) (fun c => if P (pl c) = true then f c else 0) := by
  unfold PS
  have e : sm 10 (fun p => if P p = true then sm (3 * T) (fun c => if pl c = (p : Int) then f c else 0) else 0) = sm 10 (fun p => sm (3 * T) (fun c => if p = (pl c).toNat then (if P (pl c) = true then f c else 0) else 0)) := by
    refine sm_congr (fun p hp => ?_)
    by_cases hP : P p = true
    · rw [if_pos hP]
      refine sm_congr (fun c hc => ?_)
      have := hpl c hc
      by_cases h : pl c = (p : Int)
      · rw [if_pos h, if_pos (by omega), h, if_pos hP]
      · rw [if_neg h, if_neg (by omega)]
    · rw [if_neg hP, sm_zero]
      intro c hc
      have := hpl c hc
      by_cases h : p = (pl c).toNat
      · rw [if_pos h, if_neg]
        rw [show pl c = (p : Int) by omega]; exact hP
      · rw [if_neg h]
  rw [e, sm_swap]
  refine sm_congr (fun c hc => ?_)
  have := hpl c hc
  exact sm_pick (fun _ => if P (pl c) = true then f c else 0) (by omega)
theorem S3_group (T : Nat) (P : Int → Bool) (f : Nat → Int) : sm (3 * T) (fun c => if P (10 + ((c / 3 : Nat) : Int)) = true then f c else 0) = sm T (fun k => if P (10 + (k : Int)) = true then S3 f k else 0) := by
  rw [sm_three]
  refine sm_congr (fun k _ => ?_)
  unfold S3
  rw [show 3 * k / 3 = k by omega, show (3 * k + 1) / 3 = k by omega, show (3 * k + 2) / 3 = k by omega]
  split <;> omega
theorem told_sum {n : Nat} (h9 : n ≤ 9) (T : Nat) (su : Nat → Int) (N : Int) : sm 9 (dm n T su N) = sm n (told su) := by
  have gen : ∀ k, k ≤ 9 → n ≤ k → sm k (dm n T su N) = sm n (told su) := by
    intro k
    induction k with
    | zero => intro _ h; rw [show n = 0 by omega]; rfl
    | succ k ih =>
      intro h1 h2
      by_cases h : n = k + 1
      · rw [h]
        refine sm_congr (fun p hp => ?_)
        unfold dm told
        rw [if_neg (by omega)]
        by_cases hs : su p = -1
        · rw [if_neg (fun q => q.2 hs), if_pos hs]
        · rw [if_pos ⟨hp, hs⟩, if_neg hs]
      · rw [sm_s, ih (by omega) (by omega)]
        unfold dm
        rw [if_neg (by omega), if_neg (by omega)]; omega
  exact gen 9 (Nat.le_refl _) h9
theorem dm_total {n : Nat} (h9 : n ≤ 9) (T : Nat) (su : Nat → Int) (N : Int) : sm 10 (dm n T su N) = N * T := by
  rw [sm_s, told_sum h9]
  unfold dm
  rw [if_pos rfl]; omega
/-- places' sums of a giving -/
theorem PS_giv {n T : Nat} {co su : Nat → Int} {N m : Int} {g : Nat → Int} (hN : NetOK n T co) (hg : IsGiv n T co su N m g) : ∀ p : Nat, p < 10 → PS T (plf co su) g p = dm n T su N p := by
  have h9 : ∀ p : Nat, p < 9 → PS T (plf co su) g p = dm n T su N p := by
    intro p hp
    unfold dm
    rw [if_neg (by omega)]
    by_cases h : p < n ∧ su p ≠ -1
    · rw [if_pos h, ← hg.2.2 p h.1 h.2]
      unfold PS
      refine sm_congr (fun c hc => ?_)
      have := hN.co9 hc
      unfold plf
      by_cases hs : su (co c).toNat = -1
      · rw [if_pos hs, if_neg (by omega), if_neg]
        intro q; rw [q, Int.toNat_natCast] at hs; exact h.2 hs
      · rw [if_neg hs]
    · rw [if_neg h]
      unfold PS
      refine sm_zero (fun c hc => ?_)
      have := hN.co hc
      rw [if_neg]
      intro q
      unfold plf at q
      by_cases hs : su (co c).toNat = -1
      · rw [if_pos hs] at q; omega
      · rw [if_neg hs] at q
        rw [q, Int.toNat_natCast] at hs
        exact h ⟨by omega, hs⟩
  have hle := hN.le
  have htot := PS_total (plf_r (su := su) hN) (fun _ => true) g
  have e1 : sm 10 (fun p => if (fun _ : Int => true) p = true then PS T (plf co su) g p else 0) = sm 10 (fun p => PS T (plf co su) g p) := sm_congr (fun p _ => if_pos rfl)
  have e2 : sm (3 * T) (fun c => if (fun _ : Int => true) (plf co su c) = true then g c else 0) = sm (3 * T) g := sm_congr (fun c _ => if_pos rfl)
  rw [e1, e2, S3_total, sm_congr (g := fun _ => N) (fun k hk => hg.2.1 k hk), sm_const, sm_s, sm_congr (g := dm n T su N) (fun p hp => h9 p hp), told_sum hle.2.1] at htot
  intro p hp
  by_cases hp9 : p = 9
  · subst hp9
    unfold dm
    rw [if_pos rfl, Int.mul_comm N]; exact (by omega)
  · exact h9 p (by omega)
theorem giv_of {n T : Nat} {co su : Nat → Int} {N m : Int} {g : Nat → Int} (hN : NetOK n T co) (h1 : ∀ c, c < 3 * T → m ≤ g c) (h2 : ∀ k, k < T → S3 g k = N) (h3 : ∀ p : Nat, p < 10 → PS T (plf co su) g p = dm n T su N p) : IsGiv n T co su N m g := by
  refine ⟨h1, h2, fun p hp hs => ?_⟩
  have hle := hN.le
  have h := h3 p (by omega)
  unfold dm at h
  rw [if_neg (by omega), if_pos ⟨hp, hs⟩] at h
  rw [← h]
  unfold PS
  refine sm_congr (fun c hc => ?_)
  have := hN.co9 hc
  unfold plf
  by_cases hs2 : su (co c).toNat = -1
  · rw [if_pos hs2, if_neg, if_neg (by omega)]
    intro q; rw [q, Int.toNat_natCast] at hs2; exact hs hs2
  · rw [if_neg hs2]
/-- a closed set of places and thirds with more than it is due: there is no giving -/
theorem no_giv {n T : Nat} {co su : Nat → Int} {N m : Int} {row ov : Nat → Int} (hN : NetOK n T co) (h2 : ∀ k, k < T → S3 row k = N) (h3 : ∀ p : Nat, p < 10 → ov p = PS T (plf co su) row p - dm n T su N p) {R : Int → Prop} (hR : Clo 0 (3 * T) m row (plf co su) R) {p0 : Nat} (hp0 : p0 < 10) (hRp : R p0) (hpos : 0 < ov p0) (hneg : ∀ q : Nat, q < 10 → ov q < 0 → ¬ R q) : ∀ g, ¬ IsGiv n T co su N m g := by
  intro g hg
  classical
  have hPS := PS_giv hN hg
  have hpl := plf_r (su := su) hN
  have s1 := PS_total hpl (fun v => decide (R v)) (fun c => row c - g c)
  have s2 := S3_group T (fun v => decide (R v)) (fun c => row c - g c)
  have e1 : sm 10 (fun p => if (fun v => decide (R v)) (p : Int) = true then PS T (plf co su) (fun c => row c - g c) p else 0) = sm 10 (fun p => if decide (R p) = true then ov p else 0) := by
    refine sm_congr (fun p hp => ?_)
    have : PS T (plf co su) (fun c => row c - g c) p = PS T (plf co su) row p - PS T (plf co su) g p := by
      unfold PS
      rw [← sm_sub]
      exact sm_congr (fun c _ => by dsimp only; split <;> omega)
    rw [this, hPS p hp, h3 p hp]
  have e2 : sm T (fun k => if (fun v => decide (R v)) (10 + (k : Int)) = true then S3 (fun c => row c - g c) k else 0) = 0 := by
    refine sm_zero (fun k hk => ?_)
    have a := h2 k hk
    have b := hg.2.1 k hk
    unfold S3 at a b ⊢
    dsimp only
    split <;> omega
  have hle : sm (3 * T) (fun c => if (fun v => decide (R v)) (plf co su c) = true then (fun c => row c - g c) c else 0) ≤ sm (3 * T) (fun c => if (fun v => decide (R v)) (10 + ((c / 3 : Nat) : Int)) = true then (fun c => row c - g c) c else 0) := by
    refine sm_le (fun c hc => ?_)
    show (if decide (R (plf co su c)) = true then row c - g c else 0) ≤ (if decide (R (10 + ((c / 3 : Nat) : Int))) = true then row c - g c else 0)
    by_cases a : R (plf co su c)
    · rw [if_pos (decide_eq_true a)]
      by_cases b : R (10 + ((c / 3 : Nat) : Int))
      · rw [if_pos (decide_eq_true b)]; exact Int.le_refl _
      · rw [if_neg (by simpa using b)]
        have hlo := hg.1 c hc
        have : ¬ m < row c := fun q => b (hR c _ _ ⟨Nat.zero_le _, hc, Or.inl ⟨rfl, rfl, q⟩⟩ a)
        omega
    · rw [if_neg (by simpa using a)]
      by_cases b : R (10 + ((c / 3 : Nat) : Int))
      · exact absurd (hR c _ _ ⟨Nat.zero_le _, hc, Or.inr ⟨rfl, rfl⟩⟩ b) a
      · rw [if_neg (by simpa using b)]; exact Int.le_refl _
  rw [← s1, s2, e1, e2] at hle
  have hnn : ∀ p, p < 10 → 0 ≤ (fun p : Nat => if decide (R (p : Int)) = true then ov p else 0) p := by
    intro p hp
    show 0 ≤ (if decide (R (p : Int)) = true then ov p else 0)
    by_cases a : R (p : Int)
    · rw [if_pos (decide_eq_true a)]
      rcases Int.lt_or_le (ov p) 0 with q | q
      · exact absurd a (hneg p hp q)
      · exact q
    · rw [if_neg (by simpa using a)]; exact Int.le_refl _
  have hmem := sm_member hnn hp0
  have : (if decide (R (p0 : Int)) = true then ov p0 else 0) = ov p0 := if_pos (decide_eq_true hRp)
  rw [this] at hmem
  omega
/-- a closed set with a corner's third and without its place: the corner is as low as it can be -/
theorem least_of {n T : Nat} {co su : Nat → Int} {N m : Int} {row : Nat → Int} (hN : NetOK n T co) (hrow : IsGiv n T co su N m row) {c : Nat} (hc : c < 3 * T) {R : Int → Prop} (hR : Clo (c + 1) (3 * T) m row (plf co su) R) (h1 : R (10 + ((c / 3 : Nat) : Int))) (h0 : ¬ R (plf co su c)) : ∀ g, IsGiv n T co su N m g → (∀ d, d < c → g d = row d) → row c ≤ g c := by
  intro g hg hpre
  classical
  have hPS := PS_giv hN hg
  have hPS2 := PS_giv hN hrow
  have hpl := plf_r (su := su) hN
  have s1 := PS_total hpl (fun v => decide (R v)) (fun c => g c - row c)
  have s2 := S3_group T (fun v => decide (R v)) (fun c => g c - row c)
  have e1 : sm 10 (fun p => if (fun v => decide (R v)) (p : Int) = true then PS T (plf co su) (fun c => g c - row c) p else 0) = 0 := by
    refine sm_zero (fun p hp => ?_)
    have : PS T (plf co su) (fun c => g c - row c) p = PS T (plf co su) g p - PS T (plf co su) row p := by
      unfold PS
      rw [← sm_sub]
      exact sm_congr (fun c _ => by dsimp only; split <;> omega)
    rw [this, hPS p hp, hPS2 p hp]
    split <;> omega
  have e2 : sm T (fun k => if (fun v => decide (R v)) (10 + (k : Int)) = true then S3 (fun c => g c - row c) k else 0) = 0 := by
    refine sm_zero (fun k hk => ?_)
    have a := hrow.2.1 k hk
    have b := hg.2.1 k hk
    unfold S3 at a b ⊢
    dsimp only
    split <;> omega
  have hle : sm (3 * T) (fun c => if (fun v => decide (R v)) (10 + ((c / 3 : Nat) : Int)) = true then (fun c => g c - row c) c else 0) ≤ sm (3 * T) (fun d => (if (fun v => decide (R v)) (plf co su d) = true then (fun c => g c - row c) d else 0) + (if d = c then (fun _ => g c - row c) d else 0)) := by
    refine sm_le (fun d hd => ?_)
    show (if decide (R (10 + ((d / 3 : Nat) : Int))) = true then g d - row d else 0) ≤ (if decide (R (plf co su d)) = true then g d - row d else 0) + (if d = c then g c - row c else 0)
    by_cases hdc : d = c
    · subst hdc
      rw [if_pos (decide_eq_true h1), if_neg (by simpa using h0), if_pos rfl]; omega
    · rw [if_neg hdc]
      by_cases hlt : d < c
      · rw [hpre d hlt]; split <;> split <;> omega
      · by_cases a : R (plf co su d)
        · rw [if_pos (decide_eq_true a)]
          by_cases b : R (10 + ((d / 3 : Nat) : Int))
          · rw [if_pos (decide_eq_true b)]; omega
          · rw [if_neg (by simpa using b)]
            have hlo := hg.1 d hd
            have : ¬ m < row d := fun q => b (hR d _ _ ⟨by omega, hd, Or.inl ⟨rfl, rfl, q⟩⟩ a)
            omega
        · by_cases b : R (10 + ((d / 3 : Nat) : Int))
          · exact absurd (hR d _ _ ⟨by omega, hd, Or.inr ⟨rfl, rfl⟩⟩ b) a
          · rw [if_neg (show ¬ decide (R (10 + ((d / 3 : Nat) : Int))) = true by simpa using b), if_neg (show ¬ decide (R (plf co su d)) = true by simpa using a)]; omega
  rw [sm_add, ← s1, s2, e1, e2, sm_pick (fun _ => g c - row c) hc] at hle
  omega

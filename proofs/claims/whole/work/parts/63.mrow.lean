/-! the reference: whether it can be, and the row -/
theorem PS_sub (T : Nat) (pl f g : Nat → Int) (p : Int) : PS T pl (fun c => f c - g c) p = PS T pl f p - PS T pl g p := by
  unfold PS
  rw [← sm_sub]
  exact sm_congr (fun c _ => by dsimp only; split <;> omega)
theorem PS_const {n T : Nat} {co su : Nat → Int} (hN : NetOK n T co) (m : Int) {p : Nat} (hp : p < n) (hs : su p ≠ -1) : PS T (plf co su) (fun _ => m) p = m * cAt co (3 * T) p := by
  unfold PS cAt
  rw [← sm_mul]
  refine sm_congr (fun c hc => ?_)
  have := hN.co9 hc
  have hle := hN.le
  unfold plf
  by_cases h : su (co c).toNat = -1
  · rw [if_pos h, if_neg (by omega), if_neg]
    · omega
    · intro q; rw [q, Int.toNat_natCast] at h; exact hs h
  · rw [if_neg h]; dsimp only; split <;> omega
/-- a giving, less m everywhere -/
theorem giv_be {n T : Nat} {co su : Nat → Int} {N m : Int} {g : Nat → Int} (hN : NetOK n T co) (hg : IsGiv n T co su N m g) : (∀ c, c < 3 * T → 0 ≤ (fun c => g c - m) c) ∧ (∀ k, k < T → S3 (fun c => g c - m) k = N - 3 * m) ∧ ∀ p : Nat, p < n → su p ≠ -1 → PS T (plf co su) (fun c => g c - m) p = su p - m * cAt co (3 * T) p := by
  have hle := hN.le
  refine ⟨fun c hc => by have := hg.1 c hc; show 0 ≤ g c - m; omega, fun k hk => by have := hg.2.1 k hk; unfold S3 at this ⊢; dsimp only; omega, fun p hp hs => ?_⟩
  rw [PS_sub T (plf co su) g (fun _ => m) p, PS_const hN m hp hs, PS_giv hN hg p (by omega)]
  unfold dm
  rw [if_neg (by omega), if_pos ⟨hp, hs⟩]
/-- places without corners -/
theorem PS_empty {n T : Nat} {co su : Nat → Int} (hN : NetOK n T co) (f : Nat → Int) {p : Nat} (hp : p < 9) (h : ¬ (p < n ∧ su p ≠ -1)) : PS T (plf co su) f p = 0 := by
  unfold PS
  refine sm_zero (fun c hc => ?_)
  have := hN.co hc
  rw [if_neg]
  intro q
  unfold plf at q
  by_cases hs : su (co c).toNat = -1
  · rw [if_pos hs] at q; omega
  · rw [if_neg hs] at q
    rw [q, Int.toNat_natCast] at hs
    exact h ⟨by omega, hs⟩
/-- the first cut: with a giving, nothing lacks -/
theorem cut1 {n T : Nat} {co su : Nat → Int} {N m : Int} {be sp la g : Nat → Int} (hN : NetOK n T co) (hF : FI n T co su N m be sp la) (h9 : PS T (plf co su) be 9 = 0) {R : Int → Prop} (hR : CloM 0 (3 * T) n False co su be R) (hsp : ∀ k : Nat, k < T → 0 < sp k → R k) (hw : ∀ p : Nat, p < n → Wants su la True p → ¬ R (12 + p)) (hg : IsGiv n T co su N m g) : ∀ p, p < n → la p = 0 := by
  classical
  have hle := hN.le
  have hpl := plf_r (su := su) hN
  obtain ⟨g1, g2, g3⟩ := giv_be hN hg
  have hbe0 : ∀ c, c < 3 * T → su (co c).toNat = -1 → be c = 0 := by
    intro c hc hs
    have h := sm_each (n := 3 * T) (f := fun c => if plf co su c = 9 then be c else 0) (fun d hd => by have := hF.1 d hd; split <;> omega) (by unfold PS at h9; omega) c hc
    have e : plf co su c = 9 := by unfold plf; rw [if_pos hs]
    have h : (if plf co su c = 9 then be c else 0) = 0 := h
    rw [if_pos e] at h; exact h
  have s1 := PS_total hpl (fun v => decide (v ≠ 9 ∧ ¬ R (12 + v))) (fun c => (fun c => g c - m) c - be c)
  have s2 := S3_group T (fun v => decide (¬ R (v - 10))) be
  have s3 := S3_group T (fun v => decide (¬ R (v - 10))) (fun c => g c - m)
  have eA : sm T (fun k => if (fun v : Int => decide (¬ R (v - 10))) (10 + (k : Int)) = true then S3 be k else 0) = sm T (fun k => if (fun v : Int => decide (¬ R (v - 10))) (10 + (k : Int)) = true then S3 (fun c => g c - m) k else 0) := by
    refine sm_congr (fun k hk => ?_)
    show (if decide (¬ R (10 + (k : Int) - 10)) = true then S3 be k else 0) = (if decide (¬ R (10 + (k : Int) - 10)) = true then S3 (fun c => g c - m) k else 0)
    rw [show (10 : Int) + (k : Int) - 10 = (k : Int) by omega]
    by_cases h : R (k : Int)
    · rw [if_neg (by simpa using h), if_neg (by simpa using h)]
    · have a := hF.2.1 k hk
      have : sp k = 0 := by
        rcases Int.lt_or_le 0 (sp k) with q | q
        · exact absurd (hsp k hk q) h
        · omega
      rw [g2 k hk]; split <;> omega
  -- what corners at told posts outside have
  have eB : sm (3 * T) (fun c => if (fun v : Int => decide (¬ R (v - 10))) (10 + ((c / 3 : Nat) : Int)) = true then be c else 0) = sm (3 * T) (fun c => if (fun v : Int => decide (v ≠ 9 ∧ ¬ R (12 + v))) (plf co su c) = true then be c else 0) := by
    refine sm_congr (fun c hc => ?_)
    show (if decide (¬ R (10 + ((c / 3 : Nat) : Int) - 10)) = true then be c else 0) = (if decide (plf co su c ≠ 9 ∧ ¬ R (12 + plf co su c)) = true then be c else 0)
    rw [show (10 : Int) + ((c / 3 : Nat) : Int) - 10 = ((c / 3 : Nat) : Int) by omega]
    have hco := hN.co9 hc
    have hb := hF.1 c hc
    by_cases h0 : be c = 0
    · rw [h0]; split <;> split <;> rfl
    · have hpl2 : plf co su c = co c := by
        unfold plf; rw [if_neg (fun q => h0 (hbe0 c hc q))]
      rw [hpl2]
      by_cases h : R ((c / 3 : Nat) : Int)
      · have h2 : R (12 + co c) := hR c _ _ (Or.inl ⟨c, rfl, Nat.zero_le _, hc, Or.inl ⟨rfl, rfl⟩⟩) h
        rw [if_neg (by simpa using h), if_neg (by simp [h2])]
      · have h2 : ¬ R (12 + co c) := fun q => h (hR c _ _ (Or.inl ⟨c, rfl, Nat.zero_le _, hc, Or.inr ⟨rfl, rfl, by omega⟩⟩) q)
        rw [if_pos (by simpa using h), if_pos (decide_eq_true ⟨by omega, h2⟩)]
  have eC : sm (3 * T) (fun c => if (fun v : Int => decide (v ≠ 9 ∧ ¬ R (12 + v))) (plf co su c) = true then (fun c => g c - m) c else 0) ≤ sm (3 * T) (fun c => if (fun v : Int => decide (¬ R (v - 10))) (10 + ((c / 3 : Nat) : Int)) = true then (fun c => g c - m) c else 0) := by
    refine sm_le (fun c hc => ?_)
    have hnn := g1 c hc
    show (if decide (plf co su c ≠ 9 ∧ ¬ R (12 + plf co su c)) = true then g c - m else 0) ≤ (if decide (¬ R (10 + ((c / 3 : Nat) : Int) - 10)) = true then g c - m else 0)
    rw [show (10 : Int) + ((c / 3 : Nat) : Int) - 10 = ((c / 3 : Nat) : Int) by omega]
    have hnn : 0 ≤ g c - m := hnn
    by_cases h : R ((c / 3 : Nat) : Int)
    · rw [if_neg (show ¬ decide (¬ R ((c / 3 : Nat) : Int)) = true by simpa using h), if_neg]
      · exact Int.le_refl _
      · intro q
        have q := of_decide_eq_true q
        have h2 : R (12 + co c) := hR c _ _ (Or.inl ⟨c, rfl, Nat.zero_le _, hc, Or.inl ⟨rfl, rfl⟩⟩) h
        unfold plf at q
        by_cases hs : su (co c).toNat = -1
        · rw [if_pos hs] at q; exact q.1 rfl
        · rw [if_neg hs] at q; exact q.2 h2
    · rw [if_pos (show decide (¬ R ((c / 3 : Nat) : Int)) = true by simpa using h)]
      split <;> omega
  have eD : sm (3 * T) (fun c => if (fun v : Int => decide (v ≠ 9 ∧ ¬ R (12 + v))) (plf co su c) = true then (fun c => (fun c => g c - m) c - be c) c else 0) = sm (3 * T) (fun c => if (fun v : Int => decide (v ≠ 9 ∧ ¬ R (12 + v))) (plf co su c) = true then (fun c => g c - m) c else 0) - sm (3 * T) (fun c => if (fun v : Int => decide (v ≠ 9 ∧ ¬ R (12 + v))) (plf co su c) = true then be c else 0) := by
    rw [← sm_sub]
    exact sm_congr (fun c _ => by dsimp only; split <;> omega)
  have key : sm 10 (fun p => if (fun v : Int => decide (v ≠ 9 ∧ ¬ R (12 + v))) (p : Int) = true then PS T (plf co su) (fun c => (fun c => g c - m) c - be c) p else 0) ≤ 0 := by
    rw [s1, eD]; rw [s3, ← eA, ← s2, eB] at eC; omega
  have each : ∀ p : Nat, p < 10 → 0 ≤ (if (fun v : Int => decide (v ≠ 9 ∧ ¬ R (12 + v))) (p : Int) = true then PS T (plf co su) (fun c => (fun c => g c - m) c - be c) p else 0) := by
    intro p hp
    show 0 ≤ (if decide ((p : Int) ≠ 9 ∧ ¬ R (12 + (p : Int))) = true then PS T (plf co su) (fun c => (fun c => g c - m) c - be c) p else 0)
    split
    · rename_i q
      have q := of_decide_eq_true q
      by_cases h : p < n ∧ su p ≠ -1
      · rw [PS_sub T (plf co su) (fun c => g c - m) be p, g3 p h.1 h.2]
        have := (hF.2.2 p h.1).1 h.2; omega
      · rw [PS_empty hN _ (by omega) h]; omega
    · omega
  have zero := sm_each each key
  intro p hp
  by_cases hs : su p = -1
  · exact (hF.2.2 p hp).2 hs
  · have a := (hF.2.2 p hp).1 hs
    by_cases hRp : R (12 + (p : Int))
    · rcases Int.lt_or_le 0 (la p) with q | q
      · exact absurd hRp (hw p hp (Or.inl ⟨trivial, hs, q⟩))
      · omega
    · have z := zero p (by omega)
      have z : (if decide ((p : Int) ≠ 9 ∧ ¬ R (12 + (p : Int))) = true then PS T (plf co su) (fun c => (fun c => g c - m) c - be c) p else 0) = 0 := z
      rw [if_pos (decide_eq_true ⟨by omega, hRp⟩), PS_sub T (plf co su) (fun c => g c - m) be p, g3 p hp hs] at z
      omega
/-- the second cut: with a giving, nothing is left -/
theorem cut2 {n T : Nat} {co su : Nat → Int} {N m : Int} {be sp la g : Nat → Int} (hN : NetOK n T co) (hF : FI n T co su N m be sp la) (hla : ∀ p, p < n → la p = 0) {R : Int → Prop} (hR : CloM 0 (3 * T) n False co su be R) (hsp : ∀ k : Nat, k < T → 0 < sp k → R k) (hw : ∀ p : Nat, p < n → Wants su la False p → ¬ R (12 + p)) (hg : IsGiv n T co su N m g) : ∀ k, k < T → sp k = 0 := by
  classical
  have hle := hN.le
  have hpl := plf_r (su := su) hN
  obtain ⟨g1, g2, g3⟩ := giv_be hN hg
  have hRt : ∀ c, c < 3 * T → R (12 + co c) → plf co su c = co c := by
    intro c hc h
    have hco := hN.co hc
    unfold plf
    rw [if_neg]
    intro q
    have e : (12 : Int) + ((co c).toNat : Int) = 12 + co c := by omega
    exact hw (co c).toNat (by omega) (Or.inr ⟨fun x => x, q⟩) (by rw [e]; exact h)
  have s1 := PS_total hpl (fun v => decide (v ≠ 9 ∧ R (12 + v))) (fun c => (fun c => g c - m) c - be c)
  have s2 := S3_group T (fun v => decide (R (v - 10))) be
  have s3 := S3_group T (fun v => decide (R (v - 10))) (fun c => g c - m)
  have ind : ∀ c, c < 3 * T → (decide (plf co su c ≠ 9 ∧ R (12 + plf co su c)) = true ↔ R (12 + co c)) := by
    intro c hc
    have hco := hN.co9 hc
    constructor
    · intro q
      have q := of_decide_eq_true q
      unfold plf at q
      by_cases hs : su (co c).toNat = -1
      · rw [if_pos hs] at q; exact absurd rfl q.1
      · rw [if_neg hs] at q; exact q.2
    · intro h
      apply decide_eq_true
      rw [hRt c hc h]; exact ⟨by omega, h⟩
  have eB : sm (3 * T) (fun c => if (fun v : Int => decide (R (v - 10))) (10 + ((c / 3 : Nat) : Int)) = true then be c else 0) = sm (3 * T) (fun c => if (fun v : Int => decide (v ≠ 9 ∧ R (12 + v))) (plf co su c) = true then be c else 0) := by
    refine sm_congr (fun c hc => ?_)
    show (if decide (R (10 + ((c / 3 : Nat) : Int) - 10)) = true then be c else 0) = (if decide (plf co su c ≠ 9 ∧ R (12 + plf co su c)) = true then be c else 0)
    rw [show (10 : Int) + ((c / 3 : Nat) : Int) - 10 = ((c / 3 : Nat) : Int) by omega]
    have hb := hF.1 c hc
    by_cases h : R ((c / 3 : Nat) : Int)
    · have h2 : R (12 + co c) := hR c _ _ (Or.inl ⟨c, rfl, Nat.zero_le _, hc, Or.inl ⟨rfl, rfl⟩⟩) h
      rw [if_pos (decide_eq_true h), if_pos ((ind c hc).mpr h2)]
    · rw [if_neg (show ¬ decide (R ((c / 3 : Nat) : Int)) = true by simpa using h)]
      by_cases h2 : R (12 + co c)
      · rw [if_pos ((ind c hc).mpr h2)]
        rcases Int.lt_or_le 0 (be c) with q | q
        · exact absurd (hR c _ _ (Or.inl ⟨c, rfl, Nat.zero_le _, hc, Or.inr ⟨rfl, rfl, q⟩⟩) h2) h
        · omega
      · rw [if_neg (fun q => h2 ((ind c hc).mp q))]
  have eC : sm (3 * T) (fun c => if (fun v : Int => decide (R (v - 10))) (10 + ((c / 3 : Nat) : Int)) = true then (fun c => g c - m) c else 0) ≤ sm (3 * T) (fun c => if (fun v : Int => decide (v ≠ 9 ∧ R (12 + v))) (plf co su c) = true then (fun c => g c - m) c else 0) := by
    refine sm_le (fun c hc => ?_)
    have hnn := g1 c hc
    show (if decide (R (10 + ((c / 3 : Nat) : Int) - 10)) = true then g c - m else 0) ≤ (if decide (plf co su c ≠ 9 ∧ R (12 + plf co su c)) = true then g c - m else 0)
    rw [show (10 : Int) + ((c / 3 : Nat) : Int) - 10 = ((c / 3 : Nat) : Int) by omega]
    have hnn : 0 ≤ g c - m := hnn
    by_cases h : R ((c / 3 : Nat) : Int)
    · have h2 : R (12 + co c) := hR c _ _ (Or.inl ⟨c, rfl, Nat.zero_le _, hc, Or.inl ⟨rfl, rfl⟩⟩) h
      rw [if_pos (decide_eq_true h), if_pos ((ind c hc).mpr h2)]; exact Int.le_refl _
    · rw [if_neg (show ¬ decide (R ((c / 3 : Nat) : Int)) = true by simpa using h)]; split <;> omega
  have eD : sm (3 * T) (fun c => if (fun v : Int => decide (v ≠ 9 ∧ R (12 + v))) (plf co su c) = true then (fun c => (fun c => g c - m) c - be c) c else 0) = sm (3 * T) (fun c => if (fun v : Int => decide (v ≠ 9 ∧ R (12 + v))) (plf co su c) = true then (fun c => g c - m) c else 0) - sm (3 * T) (fun c => if (fun v : Int => decide (v ≠ 9 ∧ R (12 + v))) (plf co su c) = true then be c else 0) := by
    rw [← sm_sub]
    exact sm_congr (fun c _ => by dsimp only; split <;> omega)
  have key : sm 10 (fun p => if (fun v : Int => decide (v ≠ 9 ∧ R (12 + v))) (p : Int) = true then PS T (plf co su) (fun c => (fun c => g c - m) c - be c) p else 0) = 0 := by
    refine sm_zero (fun p hp => ?_)
    show (if decide ((p : Int) ≠ 9 ∧ R (12 + (p : Int))) = true then PS T (plf co su) (fun c => (fun c => g c - m) c - be c) p else 0) = 0
    split
    · rename_i q
      have q := of_decide_eq_true q
      by_cases h : p < n ∧ su p ≠ -1
      · rw [PS_sub T (plf co su) (fun c => g c - m) be p, g3 p h.1 h.2]
        have := (hF.2.2 p h.1).1 h.2
        have := hla p h.1; omega
      · rw [PS_empty hN _ (by omega) h]
    · rfl
  rw [s1, eD] at key
  rw [s3] at eC
  rw [s2] at eB
  have diff : sm T (fun k => (if (fun v : Int => decide (R (v - 10))) (10 + (k : Int)) = true then S3 (fun c => g c - m) k else 0) - (if (fun v : Int => decide (R (v - 10))) (10 + (k : Int)) = true then S3 be k else 0)) ≤ 0 := by
    rw [sm_sub]
    dsimp only at key eC eB ⊢
    omega
  have each : ∀ k : Nat, k < T → 0 ≤ ((if (fun v : Int => decide (R (v - 10))) (10 + (k : Int)) = true then S3 (fun c => g c - m) k else 0) - (if (fun v : Int => decide (R (v - 10))) (10 + (k : Int)) = true then S3 be k else 0)) := by
    intro k hk
    have a := hF.2.1 k hk
    have b := g2 k hk
    split <;> omega
  have zero := sm_each each diff
  intro k hk
  have a := hF.2.1 k hk
  have b := g2 k hk
  by_cases h : R (k : Int)
  · have z := zero k hk
    have z : (if decide (R (10 + (k : Int) - 10)) = true then S3 (fun c => g c - m) k else 0) - (if decide (R (10 + (k : Int) - 10)) = true then S3 be k else 0) = 0 := z
    rw [show (10 : Int) + (k : Int) - 10 = (k : Int) by omega, if_pos (decide_eq_true h), if_pos (decide_eq_true h)] at z
    omega
  · rcases Int.lt_or_le 0 (sp k) with q | q
    · exact absurd (hsp k hk q) h
    · omega
/-- nothing left, nothing lacking: a giving -/
theorem giv_of_FI {n T : Nat} {co su : Nat → Int} {N m : Int} {be sp la : Nat → Int} (hN : NetOK n T co) (hF : FI n T co su N m be sp la) (hsp : ∀ k, k < T → sp k = 0) (hla : ∀ p, p < n → la p = 0) : IsGiv n T co su N m (fun c => m + be c) := by
  have hle := hN.le
  refine ⟨fun c hc => by have := hF.1 c hc; show m ≤ m + be c; omega, fun k hk => ?_, fun p hp hs => ?_⟩
  · have a := hF.2.1 k hk
    have b := hsp k hk
    unfold S3 at a ⊢
    dsimp only; omega
  · have a := (hF.2.2 p hp).1 hs
    have b := hla p hp
    have c := PS_const hN m hp hs
    have e : sm (3 * T) (fun c => if co c = (p : Int) then (fun c => m + be c) c else 0) = PS T (plf co su) (fun _ => m) p + PS T (plf co su) be p := by
      unfold PS
      rw [← sm_add]
      refine sm_congr (fun d hd => ?_)
      have := hN.co9 hd
      dsimp only
      unfold plf
      by_cases h : su (co d).toNat = -1
      · rw [if_pos h, if_neg, if_neg (by omega), if_neg (by omega)]
        · rfl
        · intro q; rw [q, Int.toNat_natCast] at h; exact hs h
      · rw [if_neg h]; split <;> omega
    rw [e, c]; omega

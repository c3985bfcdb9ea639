/-! passing along a way -/
def S3 (row : Nat → Int) (k : Nat) : Int := row (3 * k) + row (3 * k + 1) + row (3 * k + 2)
def PS (T : Nat) (pl row : Nat → Int) (p : Int) : Int := sm (3 * T) (fun c => if pl c = p then row c else 0)
theorem S3_up (row : Nat → Int) (c : Nat) (v : Int) (k : Nat) : S3 (up row c v) k = S3 row k + (if c / 3 = k then v - row c else 0) := by
  unfold S3
  rw [up_at, up_at, up_at]
  by_cases h : c / 3 = k
  · rw [if_pos h]
    have h2 : c = 3 * k ∨ c = 3 * k + 1 ∨ c = 3 * k + 2 := by omega
    rcases h2 with h2 | h2 | h2
    · rw [if_pos h2.symm, if_neg (by omega), if_neg (by omega), h2]; omega
    · rw [if_neg (by omega), if_pos h2.symm, if_neg (by omega), h2]; omega
    · rw [if_neg (by omega), if_neg (by omega), if_pos h2.symm, h2]; omega
  · rw [if_neg h, if_neg (by omega), if_neg (by omega), if_neg (by omega)]; omega
theorem PS_up {T : Nat} (pl row : Nat → Int) {c : Nat} (hc : c < 3 * T) (v p : Int) : PS T pl (up row c v) p = PS T pl row p + (if pl c = p then v - row c else 0) := by
  unfold PS
  have e : sm (3 * T) (fun d => if pl d = p then up row c v d else 0) = sm (3 * T) (up (fun d => if pl d = p then row d else 0) c (if pl c = p then v else 0)) := by
    refine sm_congr (fun d _ => ?_)
    rw [up_at, up_at]
    by_cases h : d = c
    · subst h; rw [if_pos rfl, if_pos rfl]
    · rw [if_neg h, if_neg h]
  rw [e, sm_up _ _ hc]
  by_cases h : pl c = p
  · rw [if_pos h, if_pos h, if_pos h]; omega
  · rw [if_neg h, if_neg h, if_neg h]; omega
def Pushed (fo T : Nat) (m : Int) (pl row row2 : Nat → Int) (st goal a : Int) : Prop :=
  1 ≤ a ∧ (∀ c, c < 3 * T → m ≤ row2 c) ∧ (∀ k, k < T → S3 row2 k = S3 row k + (if st = 10 + (k : Int) then a else 0)) ∧
  (∀ p : Int, 0 ≤ p → p < 10 → PS T pl row2 p = PS T pl row p + (if p = goal then a else 0) - (if p = st then a else 0)) ∧
  (∀ c, c < fo → row2 c = row c) ∧ ∀ R : Int → Prop, Clo fo (3 * T) m row pl R → R st → Clo fo (3 * T) m row2 pl R
theorem Bq_parent {fo T sn : Nat} {m st : Int} {row pl via queue : Nat → Int} (hpl : ∀ c, c < 3 * T → 0 ≤ pl c ∧ pl c < 10) (hB : Bq fo T m row pl st via queue sn) {i : Nat} (h0 : 0 < i) (hi : i < sn) : ∃ c j : Nat, j < i ∧ via (queue i).toNat = (c : Int) ∧ fo ≤ c ∧ c < 3 * T ∧ ((10 ≤ queue i ∧ queue i = 10 + ((c / 3 : Nat) : Int) ∧ queue j = pl c ∧ m < row c) ∨ (queue i < 10 ∧ queue i = pl c ∧ queue j = 10 + ((c / 3 : Nat) : Int))) := by
  obtain ⟨c, j, h1, h2, h3, h4, h5⟩ := hB.2.2.2.2.1 i h0 hi
  refine ⟨c, j, h1, h2, h3, h4, ?_⟩
  have := hpl c h4
  rcases h5 with ⟨a, b, d⟩ | ⟨a, b⟩
  · exact Or.inl ⟨by omega, b, a, d⟩
  · exact Or.inr ⟨by omega, b, a⟩
theorem Bq_start {fo T sn : Nat} {m st : Int} {row pl via queue : Nat → Int} (hB : Bq fo T m row pl st via queue sn) {i : Nat} (hi : i < sn) (h : queue i = st) : i = 0 := hB.2.2.2.1 i 0 hi (by have := hB.1.1; omega) (h.trans hB.1.2.2.1.symm)
theorem s_G_nodeBefore {x1 : Int} {pl via : Nat → Int} {Q : Int → Prop} {c : Nat} {u : Int} (a1 : 0 ≤ x1) (a2 : x1 < 22) (hv : via x1.toNat = c) (hc : c < 36) (h : (10 ≤ x1 ∧ u = pl c) ∨ (x1 < 10 ∧ u = 10 + ((c / 3 : Nat) : Int))) (hQ : Q u) : wp_G_nodeBefore x1 pl via Q := by
  unfold wp_G_nodeBefore
  rw [hv]
  refine ⟨⟨a1, a2⟩, ⟨by omega, by omega⟩, fun g => ?_, fun g => ⟨⟨by omega, by omega⟩, ?_⟩⟩
  · rw [jdiv_n (by omega) (by omega) (by omega) (by omega), show (10 : Int) + (c : Int) / 3 = u by omega]; exact hQ
  · rw [Int.toNat_natCast, show pl c = u by omega]; exact hQ
/-- the indices of a way back, closed under 'before' -/
def Way (T sn : Nat) (m : Int) (row pl via queue : Nat → Int) (a : Int) (V : Nat → Prop) : Prop := ∀ j, V j → 0 < j → j < sn ∧ (∀ j2 c : Nat, j2 < sn → via (queue j).toNat = (c : Int) → (queue j2 = if 10 ≤ queue j then pl c else 10 + ((c / 3 : Nat) : Int)) → V j2) ∧ ∀ c : Nat, 10 ≤ queue j → via (queue j).toNat = (c : Int) → a ≤ row c - m
theorem s_push84 {fo T sn ig : Nat} {m x1 x2 a : Int} {row pl via queue : Nat → Int} {V : Nat → Prop} {Q : Int → (Nat → Int) → (Nat → Int) → (Nat → Int) → Prop} (h12 : T ≤ 12) (hpl : ∀ c, c < 3 * T → 0 ≤ pl c ∧ pl c < 10) (hlow : ∀ c, c < 3 * T → m ≤ row c) (hB : Bq fo T m row pl x1 via queue sn) (hx2 : x2 < 10) (hig : ig < sn) (hgo : queue ig = x2) (hVg : V ig) (ha : 1 ≤ a) (hV : Way T sn m row pl via queue a V)
    (h1 : ∀ row2, Pushed fo T m pl row row2 x1 x2 a → Q a row2 via queue) : ∃ n : Nat, wp_G_push_84 Q pl x1 a via queue n x2 0 row := by
  have hs := Bq_le hB
  have hst := hB.2.1 0 (by have := hB.1.1; omega)
  rw [hB.1.2.2.1] at hst
  refine lp3 (wp_G_push_84 Q pl x1 a via queue) (fun x5 x6 r => ∃ i : Nat, i < sn ∧ V i ∧ queue i = x5 ∧ 0 ≤ x6 ∧ (i : Int) + x6 ≤ 21 ∧ (∀ c, c < 3 * T → m ≤ r c) ∧ (∀ j c : Nat, V j → 0 < j → j ≤ i → j < sn → 10 ≤ queue j → via (queue j).toNat = (c : Int) → row c ≤ r c) ∧ (∀ k, k < T → S3 r k = S3 row k + (if x5 = 10 + (k : Int) then a else 0)) ∧ (∀ p : Int, 0 ≤ p → p < 10 → PS T pl r p = PS T pl row p + (if p = x2 then a else 0) - (if p = x5 then a else 0)) ∧ (∀ c, c < fo → r c = row c) ∧ ∀ c, c < 3 * T → r c ≠ row c → (∃ i, i < sn ∧ queue i = 10 + ((c / 3 : Nat) : Int)) ∧ ∃ i, i < sn ∧ queue i = pl c) (fun x5 x6 _ => (22 - x6).toNat) ?_ _ _ _ ⟨ig, hig, hVg, hgo, by omega, by omega, hlow, fun j c _ _ _ _ _ _ => Int.le_refl _, fun k hk => by rw [if_neg (by omega)]; omega, fun p p1 p2 => by omega, fun c _ => rfl, fun c _ h => absurd rfl h⟩
  rintro f x5 x6 r ⟨i, hi, hVi, rfl, b0, b1, hL, hU, hS, hP, hF, hG⟩ ih
  show wp_G_push_84_b _ _ _ _ _ _ _ _ _ _
  unfold wp_G_push_84_b
  have hqi := hB.2.1 i hi
  have done : i = 0 → Q a r via queue := by
    intro hi0
    subst hi0
    rw [hB.1.2.2.1] at hS hP
    refine h1 r ⟨ha, hL, hS, hP, hF, fun R hR hRs => ?_⟩
    have seen : ∀ i, i < sn → R (queue i) := by
      intro i
      induction i using Nat.strongRecOn with
      | ind i ihi =>
        intro hi
        by_cases h0 : i = 0
        · subst h0; rw [hB.1.2.2.1]; exact hRs
        · obtain ⟨c, j, h1, h2, h3⟩ := hB.2.2.2.2.1 i (by omega) hi
          exact hR c _ _ h3 (ihi j h1 (by omega))
    intro c u v hE hu
    obtain ⟨e1, e2, e3⟩ := hE
    by_cases hch : r c = row c
    · refine hR c u v ⟨e1, e2, ?_⟩ hu
      rw [hch] at e3; exact e3
    · obtain ⟨⟨i1, q1, q2⟩, i2, q3, q4⟩ := hG c e2 hch
      rcases e3 with ⟨-, e4, -⟩ | ⟨-, e4⟩
      · rw [e4, ← q2]; exact seen i1 q1
      · rw [e4, ← q4]; exact seen i2 q3
  refine ⟨⟨by omega, by omega⟩, fun h => by omega, fun _ => ⟨⟨by omega, by omega⟩, ⟨by omega, by omega⟩, fun g => done (Bq_start hB hi g), fun g => ?_⟩⟩
  have hi0 : 0 < i := by
    rcases Nat.eq_zero_or_pos i with h | h
    · subst h; exact absurd hB.1.2.2.1 g
    · exact h
  obtain ⟨c, j, hj, hvia, hc1, hc2, hcase⟩ := Bq_parent hpl hB hi0 hi
  obtain ⟨hw1, hw2, hw3⟩ := hV i hVi hi0
  have hplc := hpl c hc2
  have hqj := hB.2.1 j (by omega)
  rw [hvia, Int.toNat_natCast]
  have hseen : (∃ i, i < sn ∧ queue i = 10 + ((c / 3 : Nat) : Int)) ∧ ∃ i, i < sn ∧ queue i = pl c := by
    rcases hcase with ⟨-, q1, q2, -⟩ | ⟨-, q1, q2⟩
    · exact ⟨⟨i, hi, q1⟩, j, by omega, q2⟩
    · exact ⟨⟨j, by omega, q2⟩, i, hi, q1⟩
  have hG2 : ∀ v : Int, ∀ d, d < 3 * T → up r c v d ≠ row d → (∃ i, i < sn ∧ queue i = 10 + ((d / 3 : Nat) : Int)) ∧ ∃ i, i < sn ∧ queue i = pl d := by
    intro v d hd hne
    by_cases hdc : d = c
    · subst hdc; exact hseen
    · rw [up_n _ _ hdc] at hne; exact hG d hd hne
  refine ⟨⟨by omega, by omega⟩, ⟨by omega, by omega⟩, fun g5 r2 e2 => ?_, fun g5 r2 e2 => ?_⟩
  · -- a post: its corner is raised
    have hc5 : queue i = pl c ∧ queue j = 10 + ((c / 3 : Nat) : Int) := by rcases hcase with ⟨q, -⟩ | ⟨-, q1, q2⟩; omega; exact ⟨q1, q2⟩
    refine s_G_nodeBefore (c := c) (u := queue j) (by omega) (by omega) hvia (by omega) (Or.inr ⟨g5, hc5.2⟩) ?_
    refine ih _ _ _ ⟨j, by omega, hw2 j c (by omega) hvia (by rw [if_neg (by omega)]; exact hc5.2), rfl, by omega, by omega, ?_, ?_, ?_, ?_, ?_, ?_⟩ (by omega)
    · intro d hd
      rw [e2, up_at]; split
      · have := hL c hc2; omega
      · exact hL d hd
    · intro j2 d v1 v2 v3 v4 v5 v6
      have := hU j2 d v1 v2 (by omega) v4 v5 v6
      rw [e2, up_at]; split
      · rename_i hdc; subst hdc; omega
      · exact this
    · intro k hk
      rw [e2, S3_up, hS k hk, hc5.2, if_neg (show ¬ queue i = 10 + (k : Int) by omega)]
      by_cases hkc : c / 3 = k
      · rw [if_pos hkc, if_pos (show (10 : Int) + ((c / 3 : Nat) : Int) = 10 + (k : Int) by omega)]; omega
      · rw [if_neg hkc, if_neg (show ¬ (10 : Int) + ((c / 3 : Nat) : Int) = 10 + (k : Int) by omega)]; omega
    · intro p p1 p2
      rw [e2, PS_up pl r hc2, hP p p1 p2]
      by_cases hpc : pl c = p
      · rw [if_pos hpc, if_pos (show p = queue i by omega), if_neg (show ¬ p = queue j by omega)]; omega
      · rw [if_neg hpc, if_neg (show ¬ p = queue i by omega), if_neg (show ¬ p = queue j by omega)]; omega
    · intro d hd
      rw [e2, up_n _ _ (by omega)]; exact hF d hd
    · rw [e2]; exact hG2 _
  · -- a third: its corner is lowered
    have hc5 : queue i = 10 + ((c / 3 : Nat) : Int) ∧ queue j = pl c := by rcases hcase with ⟨-, q1, q2, -⟩ | ⟨q, -⟩; exact ⟨q1, q2⟩; omega
    have hroom := hw3 c (by omega) hvia
    have hUi := hU i c hVi hi0 (Nat.le_refl _) hi (by omega) hvia
    refine s_G_nodeBefore (c := c) (u := queue j) (by omega) (by omega) hvia (by omega) (Or.inl ⟨by omega, hc5.2⟩) ?_
    refine ih _ _ _ ⟨j, by omega, hw2 j c (by omega) hvia (by rw [if_pos (by omega)]; exact hc5.2), rfl, by omega, by omega, ?_, ?_, ?_, ?_, ?_, ?_⟩ (by omega)
    · intro d hd
      rw [e2, up_at]; split
      · omega
      · exact hL d hd
    · intro j2 d v1 v2 v3 v4 v5 v6
      have h7 := hU j2 d v1 v2 (by omega) v4 v5 v6
      have hdc : d ≠ c := by
        intro q
        subst q
        obtain ⟨c', j', -, w2, -, -, w5⟩ := Bq_parent hpl hB v2 v4
        rw [v6] at w2
        have hcc : c' = d := by omega
        subst hcc
        have : queue j2 = queue i := by rcases w5 with ⟨-, w5, -⟩ | ⟨w5, -⟩ <;> omega
        have := hB.2.2.2.1 j2 i v4 hi this
        omega
      rw [e2, up_n _ _ hdc]; exact h7
    · intro k hk
      rw [e2, S3_up, hS k hk, if_neg (show ¬ queue j = 10 + (k : Int) by omega)]
      by_cases hkc : c / 3 = k
      · rw [if_pos hkc, if_pos (show queue i = 10 + (k : Int) by omega)]; omega
      · rw [if_neg hkc, if_neg (show ¬ queue i = 10 + (k : Int) by omega)]; omega
    · intro p p1 p2
      rw [e2, PS_up pl r hc2, hP p p1 p2]
      by_cases hpc : pl c = p
      · rw [if_pos hpc, if_neg (show ¬ p = queue i by omega), if_pos (show p = queue j by omega)]; omega
      · rw [if_neg hpc, if_neg (show ¬ p = queue i by omega), if_neg (show ¬ p = queue j by omega)]; omega
    · intro d hd
      rw [e2, up_n _ _ (by omega)]; exact hF d hd
    · rw [e2]; exact hG2 _
theorem s_G_push {fo T : Nat} {m x1 x2 x3 gFirst gCorners gLowest : Int} {row pl gVia gQueue : Nat → Int} {Q : Int → (Nat → Int) → (Nat → Int) → (Nat → Int) → Prop} (h12 : T ≤ 12) (hfo : fo ≤ 3 * T) (hF : gFirst = fo) (hC : gCorners = 3 * T) (hL : gLowest = m) (hm : 0 ≤ m ∧ m ≤ 1000) (hrow : ∀ c, c < 3 * T → m ≤ row c ∧ row c ≤ 100000) (hpl : ∀ c, c < 3 * T → 0 ≤ pl c ∧ pl c < 10) (a1 : 0 ≤ x1) (a2 : x1 < 10 + T) (a3 : 0 ≤ x2) (a4 : x2 < 10) (a5 : 1 ≤ x3) (a6 : x3 ≤ 1000000)
    (h0 : ∀ (via queue : Nat → Int) (R : Int → Prop), Clo fo (3 * T) m row pl R → R x1 → ¬ R x2 → Q 0 row via queue)
    (h1 : ∀ (a : Int) (row2 via queue : Nat → Int), a ≤ x3 → Pushed fo T m pl row row2 x1 x2 a → Q a row2 via queue) : wp_G_push x1 x2 x3 gCorners gLowest gFirst row pl gVia gQueue Q := by
  unfold wp_G_push
  refine s_G_reaches h12 hfo hF hC hL ⟨by omega, by omega⟩ (fun c hc => ⟨by have := hrow c hc; omega, by have := hrow c hc; omega⟩) hpl a1 a2 a3 (by omega) (fun via queue hclo hs hg => ⟨jR01_0, fun _ => h0 via queue _ hclo ⟨a1, hs⟩ (fun q => q.2 hg), fun h => absurd rfl h⟩) (fun via queue sn hB hg => ⟨jR01_1, fun h => absurd h (by decide), fun _ => ?_⟩)
  have hs := Bq_le hB
  obtain ⟨ig, hig, hgo⟩ := hB.2.2.1 x2.toNat (by omega) hg
  have hgo : queue ig = x2 := by rw [hgo]; omega
  subst hL
  refine lp3 (wp_G_push_20 Q gLowest pl x1 x2 row via queue) (fun x4 x5 x6 => ∃ (i : Nat) (V : Nat → Prop), i < sn ∧ queue i = x5 ∧ 0 ≤ x6 ∧ (i : Int) + x6 ≤ 21 ∧ V i ∧ V ig ∧ 1 ≤ x4 ∧ x4 ≤ x3 ∧ ∀ j, V j → j ≠ i → 0 < j → j < sn ∧ (∀ j2 c : Nat, j2 < sn → via (queue j).toNat = (c : Int) → (queue j2 = if 10 ≤ queue j then pl c else 10 + ((c / 3 : Nat) : Int)) → V j2) ∧ ∀ c : Nat, 10 ≤ queue j → via (queue j).toNat = (c : Int) → x4 ≤ row c - gLowest) (fun _ _ x6 => (22 - x6).toNat) ?_ _ _ _ ⟨ig, fun j => j = ig, hig, hgo, by omega, by omega, rfl, rfl, a5, Int.le_refl _, fun j h1 h2 => absurd h1 h2⟩
  rintro f x4 x5 x6 ⟨i, V, hi, rfl, b0, b1, hVi, hVg, b2, b3, hV⟩ ih
  show wp_G_push_20_b _ _ _ _ _ _ _ _ _ _ _ _
  unfold wp_G_push_20_b
  have hqi := hB.2.1 i hi
  refine ⟨⟨by omega, by omega⟩, fun h => by omega, fun _ => ⟨⟨by omega, by omega⟩, ⟨by omega, by omega⟩, fun g => ?_, fun g => ?_⟩⟩
  · have hi0 := Bq_start hB hi g
    subst hi0
    refine s_push84 h12 hpl (fun c hc => (hrow c hc).1) hB a4 hig hgo hVg b2 (fun j h1 h2 => hV j h1 (by omega) h2) (fun row2 hp => h1 _ _ _ _ b3 hp)
  · have hi0 : 0 < i := by
      rcases Nat.eq_zero_or_pos i with h | h
      · subst h; exact absurd hB.1.2.2.1 g
      · exact h
    obtain ⟨c, j, hj, hvia, hc1, hc2, hcase⟩ := Bq_parent hpl hB hi0 hi
    have hplc := hpl c hc2
    have hqj := hB.2.1 j (by omega)
    -- the parent joins the way
    have join : ∀ x4', 1 ≤ x4' → x4' ≤ x4 → (10 ≤ queue i → x4' ≤ row c - gLowest) → wp_G_push_20 Q gLowest pl x1 x2 row via queue f x4' (queue j) (x6 + 1) := by
      intro x4' c1 c2 c3
      refine ih _ _ _ ⟨j, fun k => V k ∨ k = j, by omega, rfl, by omega, by omega, Or.inr rfl, Or.inl hVg, c1, by omega, ?_⟩ (by omega)
      intro k hk hkj k0
      rcases hk with hk | hk
      · by_cases hki : k = i
        · subst hki
          refine ⟨hi, fun j2 d d1 d2 d3 => Or.inr ?_, fun d d1 d2 => ?_⟩
          · rw [hvia] at d2
            have hdc : d = c := by omega
            subst hdc
            refine hB.2.2.2.1 j2 j d1 (by omega) ?_
            rw [d3]
            rcases hcase with ⟨q0, -, q2, -⟩ | ⟨q0, -, q2⟩
            · rw [if_pos q0, q2]
            · rw [if_neg (by omega), q2]
          · rw [hvia] at d2
            have hdc : d = c := by omega
            subst hdc
            exact c3 d1
        · obtain ⟨q1, q2, q3⟩ := hV k hk hki k0
          exact ⟨q1, fun j2 d d1 d2 d3 => Or.inl (q2 j2 d d1 d2 d3), fun d d1 d2 => by have := q3 d d1 d2; omega⟩
      · exact absurd hk hkj
    refine ⟨fun g5 => ?_, fun g5 => ?_⟩
    · have hc5 : queue j = 10 + ((c / 3 : Nat) : Int) := by rcases hcase with ⟨q, -⟩ | ⟨-, -, q2⟩; omega; exact q2
      exact s_G_nodeBefore (c := c) (u := queue j) (by omega) (by omega) hvia (by omega) (Or.inr ⟨g5, hc5⟩) (join x4 b2 (Int.le_refl _) (fun q => by omega))
    · have hc5 : queue j = pl c ∧ gLowest < row c := by rcases hcase with ⟨-, -, q2, q3⟩ | ⟨q, -⟩; exact ⟨q2, q3⟩; omega
      have hrc := hrow c hc2
      rw [hvia, Int.toNat_natCast]
      refine ⟨⟨by omega, by omega⟩, ⟨by omega, by omega⟩, ?_⟩
      refine s_G_nodeBefore (c := c) (u := queue j) (by omega) (by omega) hvia (by omega) (Or.inl ⟨by omega, hc5.1⟩) ?_
      rw [jmin_n ⟨by omega, by omega⟩ ⟨by omega, by omega⟩]
      refine join _ ?_ ?_ ?_
      · split <;> omega
      · split <;> omega
      · intro _; split <;> omega

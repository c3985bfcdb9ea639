/-! the class's givings, method by method -/
theorem s_G_begin {x1 x2 nThirds gCorners gLowest gFirst : Int} {nCorners nSums gRow gPlaces : Nat → Int} {Q : Int → Int → Int → (Nat → Int) → (Nat → Int) → Prop} {n T : Nat} {co su : Nat → Int} (hT : nThirds = T) (hN : NetOK n T co) (hc : ∀ c, c < 3 * T → nCorners c = co c) (hs : ∀ p, p < 9 → nSums p = su p) (hS : SuOK su)
    (hQ : ∀ row pl : Nat → Int, (∀ c, c < 3 * T → pl c = plf co su c) → (∀ c, c < 3 * T → row c = if c % 3 = 2 then x1 - 2 * x2 else x2) → Q (3 * T) x2 0 row pl) : wp_G_begin x1 x2 nThirds nCorners nSums gCorners gLowest gFirst gRow gPlaces Q := by
  have hle := hN.le
  subst hT
  unfold wp_G_begin wp_N_cornerCount
  refine lp3 (wp_G_begin_23 Q nCorners nSums x1 x2 (3 * (T : Int)) x2 0) (fun x3 row pl => ∃ k : Nat, k ≤ 3 * T ∧ x3 = k ∧ (∀ c, c < k → pl c = plf co su c) ∧ ∀ c, c < k → row c = if c % 3 = 2 then x1 - 2 * x2 else x2) (fun x3 _ _ => (3 * T - x3).toNat) ?_ _ _ _ ⟨0, by omega, rfl, fun c h => by omega, fun c h => by omega⟩
  rintro f x3 row pl ⟨k, hk, rfl, h1, h2⟩ ih
  show wp_G_begin_23_b _ _ _ _ _ _ _ _ _ _ _ _
  unfold wp_G_begin_23_b
  refine ⟨jR_n (by omega), ⟨by omega, by omega⟩, fun h => ?_, fun h => ?_⟩
  · have e : k = 3 * T := by omega
    subst e
    exact hQ row pl h1 h2
  · have hck := hN.co9 (c := k) (by omega)
    have last : ∀ t2 : Int, t2 = plf co su k → wp_G_begin_65 (wp_G_begin_23 Q nCorners nSums x1 x2 (3 * (T : Int)) x2 0 f) Q nCorners nSums x1 x2 (3 * (T : Int)) x2 0 k k t2 row pl := by
      intro t2 et
      unfold wp_G_begin_65
      refine ⟨⟨by omega, by omega⟩, fun pl2 e1 => ?_⟩
      have ej : jrem (k : Int) 3 = ((k % 3 : Nat) : Int) := by rw [jrem_n (by omega) (by omega) (by omega) (by omega)]; omega
      rw [ej]
      have hpl2 : ∀ c, c < k + 1 → pl2 c = plf co su c := by
        intro c hck2
        rw [e1, Int.toNat_natCast, up_at]
        by_cases hcc : c = k
        · rw [if_pos hcc, et, hcc]
        · rw [if_neg hcc]; exact h1 c (by omega)
      refine ⟨⟨by omega, by omega⟩, fun g => ⟨⟨by omega, by omega⟩, fun row2 e2 => ih _ _ _ ⟨k + 1, by omega, by omega, hpl2, ?_⟩ (by omega)⟩, fun g => ⟨⟨by omega, by omega⟩, fun row2 e2 => ih _ _ _ ⟨k + 1, by omega, by omega, hpl2, ?_⟩ (by omega)⟩⟩
      · intro c hck2
        rw [e2, Int.toNat_natCast, up_at]
        by_cases hcc : c = k
        · rw [if_pos hcc, if_pos (by omega)]
        · rw [if_neg hcc]; exact h2 c (by omega)
      · intro c hck2
        rw [e2, Int.toNat_natCast, up_at]
        by_cases hcc : c = k
        · rw [if_pos hcc, if_neg (by omega)]
        · rw [if_neg hcc]; exact h2 c (by omega)
    unfold wp_N_postOf
    refine ⟨⟨by omega, by omega⟩, ?_⟩
    rw [Int.toNat_natCast, hc k (by omega)]
    refine s_N_isTold hs hS hck.1 hck.2 (fun g => ⟨jR01_0, fun _ => last 9 ?_, fun h => absurd rfl h⟩) (fun g => ⟨jR01_1, fun h => absurd h (by decide), fun _ => last _ ?_⟩)
    · unfold plf; rw [if_pos g]
    · unfold plf; rw [if_neg g]
theorem s_G_weigh {x1 nPosts nThirds gCorners : Int} {nSums row pl gOver : Nat → Int} {Q : (Nat → Int) → Prop} {n T : Nat} {co su : Nat → Int} (hn : nPosts = n) (hT : nThirds = T) (hC : gCorners = 3 * T) (hN : NetOK n T co) (hs : ∀ p, p < 9 → nSums p = su p) (hS : SuOK su) (hpl : ∀ c, c < 3 * T → pl c = plf co su c)
    (hQ : ∀ ov : Nat → Int, (∀ p : Nat, p < 10 → ov p = PS T (plf co su) row p - dm n T su x1 p) → Q ov) : wp_G_weigh x1 nPosts nThirds nSums gCorners row pl gOver Q := by
  have hle := hN.le
  have hplr := plf_r (su := su) hN
  subst hn; subst hT; subst hC
  unfold wp_G_weigh
  intro ov0 e0
  refine lp2 (wp_G_weigh_10 Q n T nSums (3 * (T : Int)) row pl x1) (fun x2 ov => ∃ k : Nat, k ≤ n ∧ x2 = k ∧ ∀ p : Nat, p < 10 → ov p = if p < k ∧ su p ≠ -1 then - su p else 0) (fun x2 _ => (n - x2).toNat) ?_ _ _ ⟨0, by omega, rfl, fun p hp => ?_⟩
  · rintro f x2 ov ⟨k, hk, rfl, h1⟩ ih
    show wp_G_weigh_10_b _ _ _ _ _ _ _ _ _ _ _
    unfold wp_G_weigh_10_b wp_N_postCount
    refine ⟨jR_n (by omega), jR_n (by omega), fun h => ?_, fun h => ?_⟩
    · have e : k = n := by omega
      subst e
      refine s_N_allSums rfl hle.2.1 hs hS ?_
      unfold wp_N_thirdCount
      intro ov1 e1
      refine lp2 (wp_G_weigh_83 Q (3 * (T : Int)) row pl) (fun x2 ov => ∃ c : Nat, c ≤ 3 * T ∧ x2 = c ∧ ∀ p : Nat, p < 10 → ov p = sm c (fun d => if plf co su d = p then row d else 0) - dm k T su x1 p) (fun x2 _ => (3 * T - x2).toNat) ?_ _ _ ⟨0, by omega, rfl, fun p hp => ?_⟩
      · rintro f2 x2 ov2 ⟨c, hc, rfl, h2⟩ ih2
        show wp_G_weigh_83_b _ _ _ _ _ _ _
        unfold wp_G_weigh_83_b
        refine ⟨jR_n (by omega), ⟨by omega, by omega⟩, fun g => ?_, fun g => ?_⟩
        · have e : c = 3 * T := by omega
          subst e
          exact hQ ov2 h2
        · have hp := hplr c (by omega)
          rw [Int.toNat_natCast, hpl c (by omega)]
          refine ⟨⟨by omega, by omega⟩, ⟨by omega, by omega⟩, fun ov3 e3 => ih2 _ _ ⟨c + 1, by omega, by omega, fun p hp2 => ?_⟩ (by omega)⟩
          rw [e3, up_at, sm_s]
          by_cases hpc : p = (plf co su c).toNat
          · rw [if_pos hpc, if_pos (by omega), ← hpc, h2 p hp2]; omega
          · rw [if_neg hpc, if_neg (by omega), h2 p hp2]; omega
      · rw [sm_0, e1, show ((9 : Int).toNat) = 9 from rfl, up_at]
        unfold dm
        by_cases hp9 : p = 9
        · rw [if_pos hp9, if_pos hp9]; omega
        · rw [if_neg hp9, if_neg hp9, h1 p hp]
          split <;> omega
    · refine s_N_isTold hs hS (by omega) (by omega) (fun g => ⟨jR01_0, fun _ => ⟨⟨by omega, by omega⟩, fun ov2 e2 => ih _ _ ⟨k + 1, by omega, by omega, fun p hp => ?_⟩ (by omega)⟩, fun h => absurd rfl h⟩) (fun g => ⟨jR01_1, fun h => absurd h (by decide), fun _ => ?_⟩)
      · rw [Int.toNat_natCast] at g e2
        rw [e2, up_at]
        by_cases hpk : p = k
        · rw [if_pos hpk, if_neg (by rw [hpk]; exact fun q => q.2 g)]
        · rw [if_neg hpk, h1 p hp]
          by_cases hh : p < k ∧ su p ≠ -1
          · rw [if_pos hh, if_pos ⟨by omega, hh.2⟩]
          · rw [if_neg hh, if_neg (fun q => hh ⟨by omega, q.2⟩)]
      · unfold wp_N_sumOf
        refine ⟨⟨by omega, by omega⟩, ⟨by omega, by omega⟩, fun ov2 e2 => ih _ _ ⟨k + 1, by omega, by omega, fun p hp => ?_⟩ (by omega)⟩
        rw [Int.toNat_natCast] at g
        rw [Int.toNat_natCast, hs k (by omega)] at e2
        rw [e2, up_at]
        by_cases hpk : p = k
        · subst hpk; rw [if_pos rfl, if_pos ⟨by omega, g⟩]
        · rw [if_neg hpk, h1 p hp]
          by_cases hh : p < k ∧ su p ≠ -1
          · rw [if_pos hh, if_pos ⟨by omega, hh.2⟩]
          · rw [if_neg hh, if_neg (fun q => hh ⟨by omega, q.2⟩)]
  · rw [e0]
    unfold fillf
    rw [if_pos hp, if_neg (by omega)]
def GI (n T : Nat) (co su : Nat → Int) (N m : Int) (row ov : Nat → Int) : Prop := (∀ c, c < 3 * T → m ≤ row c) ∧ (∀ k, k < T → S3 row k = N) ∧ ∀ p : Nat, p < 10 → ov p = PS T (plf co su) row p - dm n T su N p
theorem S3_hi {T : Nat} {N m : Int} {row : Nat → Int} (h1 : ∀ c, c < 3 * T → m ≤ row c) (h2 : ∀ k, k < T → S3 row k = N) (hm : 0 ≤ m) : ∀ c, c < 3 * T → row c ≤ N := by
  intro c hc
  have a := h2 (c / 3) (by omega)
  unfold S3 at a
  have b0 := h1 (3 * (c / 3)) (by omega)
  have b1 := h1 (3 * (c / 3) + 1) (by omega)
  have b2 := h1 (3 * (c / 3) + 2) (by omega)
  have h : c = 3 * (c / 3) ∨ c = 3 * (c / 3) + 1 ∨ c = 3 * (c / 3) + 2 := by omega
  rcases h with h | h | h <;> rw [h] <;> omega
theorem told_tot {n : Nat} (h9 : n ≤ 9) {su : Nat → Int} (hS : SuOK su) : 0 ≤ sm n (told su) ∧ sm n (told su) ≤ 36000 := by
  refine ⟨sm_nonneg (fun p hp => (told_r hS (by omega)).1), ?_⟩
  have h := sm_le (n := n) (f := told su) (g := fun _ => 4000) (fun p hp => (told_r hS (by omega)).2)
  rw [sm_const] at h
  omega
theorem NT_r {N : Int} {T : Nat} (h0 : 0 ≤ N) (h1 : N ≤ 360) (h12 : T ≤ 12) : 0 ≤ N * T ∧ N * T ≤ 4320 := by
  refine ⟨Int.mul_nonneg h0 (by omega), ?_⟩
  have h : N * (T : Int) ≤ 360 * 12 := Int.mul_le_mul h1 (by omega) (by omega) (by omega)
  omega
theorem dm_r {n T : Nat} {su : Nat → Int} {N : Int} (h9 : n ≤ 9) (h12 : T ≤ 12) (hS : SuOK su) (h0 : 0 ≤ N) (h1 : N ≤ 360) {p : Nat} (hp : p < 10) : -36000 ≤ dm n T su N p ∧ dm n T su N p ≤ 4320 := by
  have a := told_tot h9 hS
  have b := NT_r h0 h1 h12
  unfold dm
  split
  · omega
  · split
    · have := hS p (by omega); omega
    · omega
theorem PS_r {T : Nat} {pl row : Nat → Int} {N m : Int} (h12 : T ≤ 12) (h1 : ∀ c, c < 3 * T → m ≤ row c) (h2 : ∀ k, k < T → S3 row k = N) (hm : 0 ≤ m) (h0 : 0 ≤ N) (hN : N ≤ 360) (p : Int) : 0 ≤ PS T pl row p ∧ PS T pl row p ≤ 4320 := by
  have b := NT_r h0 hN h12
  unfold PS
  refine ⟨sm_nonneg (fun c hc => by have := h1 c hc; split <;> omega), ?_⟩
  have h := sm_le (n := 3 * T) (f := fun c => if pl c = p then row c else 0) (g := row) (fun c hc => by have := h1 c hc; split <;> omega)
  have e : sm (3 * T) row = N * T := by rw [S3_total, sm_congr (g := fun _ => N) h2, sm_const, Int.mul_comm]
  omega
theorem GI_ov {n T : Nat} {co su : Nat → Int} {N m : Int} {row ov : Nat → Int} (hN : NetOK n T co) (hS : SuOK su) (hm : 0 ≤ m) (h0 : 0 ≤ N) (h360 : N ≤ 360) (h : GI n T co su N m row ov) {p : Nat} (hp : p < 10) : -50000 ≤ ov p ∧ ov p ≤ 50000 := by
  have hle := hN.le
  have a := dm_r (p := p) hle.2.1 hle.2.2 hS h0 h360 hp
  have b := PS_r (pl := plf co su) hle.2.2 h.1 h.2.1 hm h0 h360 p
  have c := h.2.2 p hp
  omega
theorem Clo_congr {fo C : Nat} {m : Int} {row pl pl2 : Nat → Int} (h : ∀ c, c < C → pl c = pl2 c) {R : Int → Prop} (hR : Clo fo C m row pl R) : Clo fo C m row pl2 R := by
  intro c u v hE hu
  refine hR c u v ⟨hE.1, hE.2.1, ?_⟩ hu
  rw [h c hE.2.1]; exact hE.2.2
theorem PS_congr {T : Nat} {pl pl2 row : Nat → Int} (h : ∀ c, c < 3 * T → pl c = pl2 c) (p : Int) : PS T pl row p = PS T pl2 row p := by
  unfold PS
  exact sm_congr (fun c hc => by rw [h c hc])
theorem s_G_level {n T p q : Nat} {co su : Nat → Int} {N m x1 x2 gCorners gLowest gFirst : Int} {row pl ov via queue : Nat → Int} {Q : (Nat → Int) → (Nat → Int) → (Nat → Int) → (Nat → Int) → Prop} (hN : NetOK n T co) (hS : SuOK su) (hC : gCorners = 3 * T) (hL : gLowest = m) (hF : gFirst = 0) (hm : 0 ≤ m ∧ m ≤ 1000) (h0 : 0 ≤ N) (h360 : N ≤ 360) (hpl : ∀ c, c < 3 * T → pl c = plf co su c) (hp : p < 10) (hq : q < 10) (e1 : x1 = p) (e2 : x2 = q) (hG : GI n T co su N m row ov) (hpos : 0 < ov p)
    (hQ : ∀ row2 ov2 via2 queue2 : Nat → Int, GI n T co su N m row2 ov2 → (0 ≤ ov2 p ∧ ov2 p ≤ ov p) → (∀ x, x < 10 → x ≠ p → x ≠ q → ov2 x = ov x) → (p ≠ q → ov2 q = ov q ∨ (ov q ≤ ov2 q ∧ ov2 q ≤ 0)) → (∀ R : Int → Prop, Clo 0 (3 * T) m row (plf co su) R → R p → Clo 0 (3 * T) m row2 (plf co su) R) → (ov2 p ≤ 0 ∨ 0 ≤ ov2 q ∨ ∃ R : Int → Prop, Clo 0 (3 * T) m row2 (plf co su) R ∧ R p ∧ ¬ R q) → Q row2 ov2 via2 queue2) : wp_G_level x1 x2 gCorners gLowest gFirst row pl ov via queue Q := by
  have hle := hN.le
  have hplr := plf_r (su := su) hN
  subst e1; subst e2
  unfold wp_G_level
  have hbo := GI_ov hN hS hm.1 h0 h360 hG hp
  refine lp5 (wp_G_level_2 Q gCorners gLowest gFirst pl p q) (fun x3 r o _ _ => 0 ≤ x3 ∧ x3 + o p ≤ 50000 ∧ GI n T co su N m r o ∧ (0 ≤ o p ∧ o p ≤ ov p) ∧ (∀ x, x < 10 → x ≠ p → x ≠ q → o x = ov x) ∧ (p ≠ q → o q = ov q ∨ (ov q ≤ o q ∧ o q ≤ 0)) ∧ (p = q → o p = ov p) ∧ ∀ R : Int → Prop, Clo 0 (3 * T) m row (plf co su) R → R p → Clo 0 (3 * T) m r (plf co su) R) (fun x3 _ _ _ _ => (60000 - x3).toNat) ?_ _ _ _ _ _ ⟨Int.le_refl _, by omega, hG, ⟨by omega, Int.le_refl _⟩, fun _ _ _ _ => rfl, fun _ => Or.inl rfl, fun _ => rfl, fun R h _ => h⟩
  rintro f x3 r o vi qu ⟨b1, b2, b3, b4, b5, b6, b7, b8⟩ ih
  show wp_G_level_2_b _ _ _ _ _ _ _ _ _ _ _ _ _
  unfold wp_G_level_2_b
  have hop := GI_ov hN hS hm.1 h0 h360 b3 hp
  have hoq := GI_ov hN hS hm.1 h0 h360 b3 hq
  have hrl := b3.1
  have hrh := S3_hi b3.1 b3.2.1 hm.1
  rw [Int.toNat_natCast, Int.toNat_natCast]
  refine ⟨⟨by omega, by omega⟩, fun h => by omega, fun _ => ⟨⟨by omega, by omega⟩, ⟨by omega, by omega⟩, fun g => hQ _ _ _ _ b3 b4 b5 b6 b8 (Or.inl g), fun g => ⟨⟨by omega, by omega⟩, ⟨by omega, by omega⟩, fun g2 => hQ _ _ _ _ b3 b4 b5 b6 b8 (Or.inr (Or.inl g2)), fun g2 => ?_⟩⟩⟩
  have hpq : p ≠ q := fun e => by subst e; omega
  rw [jmin_n ⟨by omega, by omega⟩ ⟨by omega, by omega⟩]
  refine s_G_push (fo := 0) hle.2.2 (Nat.zero_le _) hF hC hL hm (fun c hc => ⟨hrl c hc, by have := hrh c hc; omega⟩) (fun c hc => by rw [hpl c hc]; exact hplr c hc) (by omega) (by omega) (by omega) (by omega) (by split <;> omega) (by split <;> omega) ?_ ?_
  · intro vi2 qu2 R hR hRp hRq
    exact ⟨jR01_0, fun _ => hQ _ _ _ _ b3 b4 b5 b6 b8 (Or.inr (Or.inr ⟨R, Clo_congr hpl hR, hRp, hRq⟩)), fun h => absurd rfl h⟩
  · intro a r2 vi2 qu2 ha hP
    obtain ⟨p1, p2, p3, p4, p5, p6⟩ := hP
    have ha1 : a ≤ o p := by split at ha <;> omega
    have ha2 : a ≤ - o q := by split at ha <;> omega
    refine ⟨⟨by omega, by omega⟩, fun h => by omega, fun _ o1 e1 o2 e2 => ?_⟩
    have ho2 : ∀ x, o2 x = if x = q then o q + a else if x = p then o p - a else o x := by
      intro x
      rw [e2, up_at, e1, up_at, up_at, if_neg (show ¬ q = p from fun e => hpq e.symm)]
    have o2p : o2 p = o p - a := by rw [ho2, if_neg hpq, if_pos rfl]
    have o2q : o2 q = o q + a := by rw [ho2, if_pos rfl]
    refine ih _ _ _ _ _ ⟨by omega, by omega, ⟨p2, fun k hk => ?_, fun x hx => ?_⟩, ⟨by omega, by omega⟩, fun x hx x1 x2 => ?_, fun _ => ?_, fun e => absurd e hpq, fun R hR hRp => ?_⟩ (by omega)
    · rw [p3 k hk, if_neg (by omega), b3.2.1 k hk]; omega
    · have h5 := p4 x (by omega) (by omega)
      rw [PS_congr hpl, PS_congr hpl] at h5
      have h6 := b3.2.2 x hx
      rw [ho2 x, h5]
      by_cases hxq : x = q
      · rw [if_pos hxq, if_pos (by omega), if_neg (by omega)]
        subst hxq; omega
      · rw [if_neg hxq, if_neg (show ¬ (x : Int) = (q : Int) by omega)]
        by_cases hxp : x = p
        · rw [if_pos hxp, if_pos (show (x : Int) = (p : Int) by omega)]
          subst hxp; omega
        · rw [if_neg hxp, if_neg (show ¬ (x : Int) = (p : Int) by omega)]; omega
    · rw [ho2, if_neg x2, if_neg x1]; exact b5 x hx x1 x2
    · have := b6 hpq; omega
    · exact Clo_congr hpl (p6 R (Clo_congr (fun c hc => (hpl c hc).symm) (b8 R hR hRp)) hRp)

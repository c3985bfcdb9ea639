/-! the net: words for what both sides hold -/
def nx (c : Nat) : Nat := c / 3 * 3 + (c + 1) % 3
def av (co : Nat → Int) (p q : Int) : Nat → Int
  | 0 => -1
  | c + 1 => if co c = p ∧ co (nx c) = q then ((c / 3 : Nat) : Int) else av co p q c
def NetOK (n T : Nat) (co : Nat → Int) : Prop := (3 ≤ n ∧ n ≤ 9 ∧ T ≤ 12) ∧ (∀ c, c < 3 * T → 0 ≤ co c ∧ co c < n) ∧ (∀ c, c < 3 * T → co c ≠ co (nx c)) ∧ ∀ c d, c < 3 * T → d < 3 * T → co c = co d → co (nx c) = co (nx d) → c = d
def ArOK (T : Nat) (co ar : Nat → Int) : Prop := ∀ p q : Int, 0 ≤ p → p < 9 → 0 ≤ q → q < 9 → ar ((p * 9) + q).toNat = av co p q (3 * T)
def sd (co : Nat → Int) (C : Nat) (p q : Int) : Int := (if av co p q C = -1 then 0 else 1) + (if av co q p C = -1 then 0 else 1)
def cAt (co : Nat → Int) (C : Nat) (p : Int) : Int := sm C (fun c => if co c = p then 1 else 0)
def sAt (co : Nat → Int) (C n : Nat) (p j : Int) : Int := sm n (fun q => if (q : Int) ≠ p ∧ sd co C p q = j then 1 else 0)
def opp (co : Nat → Int) (k : Nat) (p q : Int) : Nat := if co (3 * k) ≠ p ∧ co (3 * k) ≠ q then 3 * k else if co (3 * k + 1) ≠ p ∧ co (3 * k + 1) ≠ q then 3 * k + 1 else 3 * k + 2
theorem nx_0 (k : Nat) : nx (3 * k) = 3 * k + 1 := by unfold nx; omega
theorem nx_1 (k : Nat) : nx (3 * k + 1) = 3 * k + 2 := by unfold nx; omega
theorem nx_2 (k : Nat) : nx (3 * k + 2) = 3 * k := by unfold nx; omega
theorem nx_lt {c T : Nat} (h : c < 3 * T) : nx c < 3 * T := by unfold nx; omega
theorem nx_div (c : Nat) : nx c / 3 = c / 3 := by unfold nx; omega
theorem nx3 (c : Nat) : nx (nx (nx c)) = c := by
  have h : c = 3 * (c / 3) ∨ c = 3 * (c / 3) + 1 ∨ c = 3 * (c / 3) + 2 := by omega
  rcases h with h | h | h <;> rw [h]
  · rw [nx_0, nx_1, nx_2]
  · rw [nx_1, nx_2, nx_0]
  · rw [nx_2, nx_0, nx_1]
theorem NetOK.ne01 {n T : Nat} {co : Nat → Int} (h : NetOK n T co) {k : Nat} (hk : k < T) : co (3 * k) ≠ co (3 * k + 1) := by have := h.2.2.1 (3 * k) (by omega); rw [nx_0] at this; exact this
theorem NetOK.ne12 {n T : Nat} {co : Nat → Int} (h : NetOK n T co) {k : Nat} (hk : k < T) : co (3 * k + 1) ≠ co (3 * k + 2) := by have := h.2.2.1 (3 * k + 1) (by omega); rw [nx_1] at this; exact this
theorem NetOK.ne20 {n T : Nat} {co : Nat → Int} (h : NetOK n T co) {k : Nat} (hk : k < T) : co (3 * k + 2) ≠ co (3 * k) := by have := h.2.2.1 (3 * k + 2) (by omega); rw [nx_2] at this; exact this
theorem NetOK.co {n T : Nat} {co : Nat → Int} (h : NetOK n T co) {c : Nat} (hc : c < 3 * T) : 0 ≤ co c ∧ co c < n := h.2.1 c hc
theorem NetOK.co9 {n T : Nat} {co : Nat → Int} (h : NetOK n T co) {c : Nat} (hc : c < 3 * T) : 0 ≤ co c ∧ co c < 9 := by have h1 := h.2.1 c hc; have h2 := h.1.2.1; omega
theorem NetOK.le {n T : Nat} {co : Nat → Int} (h : NetOK n T co) : 3 ≤ n ∧ n ≤ 9 ∧ T ≤ 12 := h.1
theorem av_cases (co : Nat → Int) (p q : Int) : ∀ C : Nat, (av co p q C = -1 ∧ ∀ c, c < C → ¬ (co c = p ∧ co (nx c) = q)) ∨ ∃ c, c < C ∧ co c = p ∧ co (nx c) = q ∧ av co p q C = ((c / 3 : Nat) : Int) := by
  intro C
  induction C with
  | zero => exact Or.inl ⟨rfl, fun c h => by omega⟩
  | succ C ih =>
    by_cases h : co C = p ∧ co (nx C) = q
    · refine Or.inr ⟨C, by omega, h.1, h.2, ?_⟩
      show (if co C = p ∧ co (nx C) = q then ((C / 3 : Nat) : Int) else av co p q C) = _
      rw [if_pos h]
    · have e : av co p q (C + 1) = av co p q C := by
        show (if co C = p ∧ co (nx C) = q then ((C / 3 : Nat) : Int) else av co p q C) = _
        rw [if_neg h]
      rw [e]
      rcases ih with ⟨h1, h2⟩ | ⟨c, h1, h2, h3, h4⟩
      · refine Or.inl ⟨h1, fun c hc => ?_⟩
        by_cases hcC : c = C
        · subst hcC; exact h
        · exact h2 c (by omega)
      · exact Or.inr ⟨c, by omega, h2, h3, h4⟩
theorem av_some {n T : Nat} {co : Nat → Int} (h : NetOK n T co) {p q : Int} {c : Nat} (hc : c < 3 * T) (h1 : co c = p) (h2 : co (nx c) = q) : av co p q (3 * T) = ((c / 3 : Nat) : Int) := by
  rcases av_cases co p q (3 * T) with ⟨-, h3⟩ | ⟨d, hd, h3, h4, h5⟩
  · exact absurd ⟨h1, h2⟩ (h3 c hc)
  · rw [h5, h.2.2.2 c d hc hd (h1.trans h3.symm) (h2.trans h4.symm)]
theorem av_none {C : Nat} {co : Nat → Int} {p q : Int} (h : ∀ c, c < C → ¬ (co c = p ∧ co (nx c) = q)) : av co p q C = -1 := by
  rcases av_cases co p q C with ⟨h1, -⟩ | ⟨d, hd, h3, h4, -⟩
  · exact h1
  · exact absurd ⟨h3, h4⟩ (h d hd)
theorem av_of {C : Nat} {co : Nat → Int} {p q : Int} (h : av co p q C ≠ -1) : ∃ c, c < C ∧ co c = p ∧ co (nx c) = q ∧ av co p q C = ((c / 3 : Nat) : Int) := by
  rcases av_cases co p q C with ⟨h1, -⟩ | h1
  · exact absurd h1 h
  · exact h1
theorem av_lt {T : Nat} {co : Nat → Int} {p q : Int} : -1 ≤ av co p q (3 * T) ∧ av co p q (3 * T) < T := by
  rcases av_cases co p q (3 * T) with ⟨h1, -⟩ | ⟨d, hd, -, -, h5⟩
  · omega
  · omega
theorem av_congr {co c2 : Nat → Int} {p q : Int} {T : Nat} (h : ∀ c, c < 3 * T → co c = c2 c) : av co p q (3 * T) = av c2 p q (3 * T) := by
  have : ∀ C, C ≤ 3 * T → av co p q C = av c2 p q C := by
    intro C
    induction C with
    | zero => intro _; rfl
    | succ C ih =>
      intro hC
      show (if co C = p ∧ co (nx C) = q then ((C / 3 : Nat) : Int) else av co p q C) = (if c2 C = p ∧ c2 (nx C) = q then ((C / 3 : Nat) : Int) else av c2 p q C)
      rw [ih (by omega), h C (by omega), h (nx C) (nx_lt (by omega))]
  exact this _ (Nat.le_refl _)
theorem sd_r (co : Nat → Int) (C : Nat) (p q : Int) : 0 ≤ sd co C p q ∧ sd co C p q ≤ 2 := by
  unfold sd; split <;> split <;> omega
theorem sd_symm (co : Nat → Int) (C : Nat) (p q : Int) : sd co C p q = sd co C q p := by
  unfold sd; omega
theorem opp_spec {n T : Nat} {co : Nat → Int} (h : NetOK n T co) {k : Nat} (hk : k < T) (p q : Int) : opp co k p q / 3 = k ∧ opp co k p q < 3 * T ∧ co (opp co k p q) ≠ p ∧ co (opp co k p q) ≠ q := by
  have h1 := h.ne01 hk
  have h2 := h.ne12 hk
  have h3 := h.ne20 hk
  unfold opp
  by_cases a : co (3 * k) ≠ p ∧ co (3 * k) ≠ q
  · rw [if_pos a]; exact ⟨by omega, by omega, a.1, a.2⟩
  · rw [if_neg a]
    by_cases b : co (3 * k + 1) ≠ p ∧ co (3 * k + 1) ≠ q
    · rw [if_pos b]; exact ⟨by omega, by omega, b.1, b.2⟩
    · rw [if_neg b]
      refine ⟨by omega, by omega, ?_, ?_⟩ <;> omega
/-! the class's net, method by method -/
theorem s_N_hasPost {x1 nPosts : Int} {Q : Int → Prop} {n : Nat} (hn : nPosts = n) (h9 : n ≤ 9) (hx : jR x1) (h1 : 0 ≤ x1 → x1 < n → Q 1) (h0 : ¬ (0 ≤ x1 ∧ x1 < n) → Q 0) : wp_N_hasPost x1 nPosts Q := by
  subst hn
  unfold wp_N_hasPost
  exact ⟨hx, fun h => h0 (by omega), fun h => ⟨jR_n (by omega), fun g => h0 (by omega), fun g => h1 (by omega) (by omega)⟩⟩
theorem s_N_hasCorner {x1 nThirds : Int} {Q : Int → Prop} {T : Nat} (hT : nThirds = T) (h12 : T ≤ 12) (hx : jR x1) (h1 : 0 ≤ x1 → x1 < 3 * T → Q 1) (h0 : ¬ (0 ≤ x1 ∧ x1 < 3 * T) → Q 0) : wp_N_hasCorner x1 nThirds Q := by
  subst hT
  unfold wp_N_hasCorner wp_N_cornerCount
  exact ⟨hx, fun h => h0 (by omega), fun h => ⟨⟨by omega, by omega⟩, fun g => h0 (by omega), fun g => h1 (by omega) (by omega)⟩⟩
theorem s_N_areUnlike {x1 x2 nPosts : Int} {Q : Int → Prop} {n : Nat} (hn : nPosts = n) (h9 : n ≤ 9) (hx1 : jR x1) (hx2 : jR x2) (h1 : 0 ≤ x1 → x1 < n → 0 ≤ x2 → x2 < n → x1 ≠ x2 → Q 1) (h0 : ¬ (0 ≤ x1 ∧ x1 < n ∧ 0 ≤ x2 ∧ x2 < n ∧ x1 ≠ x2) → Q 0) : wp_N_areUnlike x1 x2 nPosts Q := by
  unfold wp_N_areUnlike
  refine s_N_hasPost hn h9 hx1 (fun a b => ⟨by unfold jR; decide, fun h => absurd h (by decide), fun _ => ?_⟩) (fun a => ⟨by unfold jR; decide, fun _ => h0 (by omega), fun h => absurd rfl h⟩)
  refine s_N_hasPost hn h9 hx2 (fun c d => ⟨by unfold jR; decide, fun h => absurd h (by decide), fun _ => ⟨hx1, hx2, fun e => h0 (by omega), fun e => h1 a b c d e⟩⟩) (fun c => ⟨by unfold jR; decide, fun _ => h0 (by omega), fun h => absurd rfl h⟩)
theorem s_N_thirdWith {x1 x2 : Int} {nArrows : Nat → Int} {Q : Int → Prop} {T : Nat} {co : Nat → Int} (hA : ArOK T co nArrows) (a1 : 0 ≤ x1) (a2 : x1 < 9) (a3 : 0 ≤ x2) (a4 : x2 < 9) (hQ : Q (av co x1 x2 (3 * T))) : wp_N_thirdWith x1 x2 nArrows Q := by
  unfold wp_N_thirdWith
  refine ⟨⟨by omega, by omega⟩, ?_⟩
  rw [hA x1 x2 a1 a2 a3 a4]; exact hQ
theorem s_N_hasArrow {x1 x2 : Int} {nArrows : Nat → Int} {Q : Int → Prop} {T : Nat} {co : Nat → Int} (hA : ArOK T co nArrows) (h12 : T ≤ 12) (a1 : 0 ≤ x1) (a2 : x1 < 9) (a3 : 0 ≤ x2) (a4 : x2 < 9) (h0 : av co x1 x2 (3 * T) = -1 → Q 0) (h1 : av co x1 x2 (3 * T) ≠ -1 → Q 1) : wp_N_hasArrow x1 x2 nArrows Q := by
  unfold wp_N_hasArrow
  refine s_N_thirdWith hA a1 a2 a3 a4 ?_
  have h := av_lt (T := T) (co := co) (p := x1) (q := x2)
  exact ⟨⟨by omega, by omega⟩, fun h => h0 h, fun h => h1 h⟩
theorem jR01_0 : jR 0 := by unfold jR; decide
theorem jR01_1 : jR 1 := by unfold jR; decide
theorem s_N_thirdsAtSide {x1 x2 : Int} {nArrows : Nat → Int} {Q : Int → Prop} {T : Nat} {co : Nat → Int} (hA : ArOK T co nArrows) (h12 : T ≤ 12) (a1 : 0 ≤ x1) (a2 : x1 < 9) (a3 : 0 ≤ x2) (a4 : x2 < 9) (hQ : Q (sd co (3 * T) x1 x2)) : wp_N_thirdsAtSide x1 x2 nArrows Q := by
  unfold wp_N_thirdsAtSide
  unfold sd at hQ
  refine s_N_hasArrow hA h12 a1 a2 a3 a4 (fun h => ⟨jR01_0, fun _ => ?_, fun h => absurd rfl h⟩) (fun h => ⟨jR01_1, fun h => absurd h (by decide), fun _ => ?_⟩)
  · rw [if_pos h] at hQ
    refine s_N_hasArrow hA h12 a3 a4 a1 a2 (fun g => ⟨jR01_0, fun _ => ?_, fun h => absurd rfl h⟩) (fun g => ⟨jR01_1, fun h => absurd h (by decide), fun _ => ?_⟩)
    · rw [if_pos g] at hQ; exact hQ
    · rw [if_neg g] at hQ; exact hQ
  · rw [if_neg h] at hQ
    refine s_N_hasArrow hA h12 a3 a4 a1 a2 (fun g => ⟨jR01_0, fun _ => ?_, fun h => absurd rfl h⟩) (fun g => ⟨jR01_1, fun h => absurd h (by decide), fun _ => ?_⟩)
    · rw [if_pos g] at hQ; exact hQ
    · rw [if_neg g] at hQ; exact hQ
theorem s_N_isSide {x1 x2 nPosts : Int} {nArrows : Nat → Int} {Q : Int → Prop} {n T : Nat} {co : Nat → Int} (hn : nPosts = n) (h9 : n ≤ 9) (hA : ArOK T co nArrows) (h12 : T ≤ 12) (hx1 : jR x1) (hx2 : jR x2) (h1 : 0 ≤ x1 → x1 < n → 0 ≤ x2 → x2 < n → x1 ≠ x2 → 0 < sd co (3 * T) x1 x2 → Q 1) (h0 : ¬ (0 ≤ x1 ∧ x1 < n ∧ 0 ≤ x2 ∧ x2 < n ∧ x1 ≠ x2 ∧ 0 < sd co (3 * T) x1 x2) → Q 0) : wp_N_isSide x1 x2 nPosts nArrows Q := by
  unfold wp_N_isSide
  have hs := sd_r co (3 * T) x1 x2
  refine s_N_areUnlike hn h9 hx1 hx2 (fun a b c d e => ⟨jR01_1, fun h => absurd h (by decide), fun _ => ?_⟩) (fun a => ⟨jR01_0, fun _ => h0 (by omega), fun h => absurd rfl h⟩)
  exact s_N_thirdsAtSide hA h12 a (by omega) c (by omega) ⟨⟨by omega, by omega⟩, fun h => h0 (by omega), fun h => h1 a b c d e (by omega)⟩
theorem s_N_cornersAt {x1 nThirds : Int} {nCorners : Nat → Int} {Q : Int → Prop} {T : Nat} {co : Nat → Int} (hT : nThirds = T) (h12 : T ≤ 12) (hc : ∀ c, c < 3 * T → nCorners c = co c) (hr : ∀ c, c < 3 * T → 0 ≤ co c ∧ co c < 9) (hx : jR x1) (hQ : Q (cAt co (3 * T) x1)) : wp_N_cornersAt x1 nThirds nCorners Q := by
  subst hT
  unfold wp_N_cornersAt
  refine lp2 (wp_N_cornersAt_4 Q T nCorners x1) (fun x2 x3 => ∃ k : Nat, k ≤ 3 * T ∧ x3 = k ∧ x2 = cAt co k x1) (fun _ x3 => (3 * T - x3).toNat) ?_ 0 0 ⟨0, by omega, rfl, rfl⟩
  rintro n x2 x3 ⟨k, hk, rfl, rfl⟩ ih
  show wp_N_cornersAt_4_b _ _ _ _ _ _ _
  unfold wp_N_cornersAt_4_b wp_N_cornerCount
  refine ⟨jR_n (by omega), ⟨by omega, by omega⟩, fun h => ?_, fun h => ⟨⟨by omega, by omega⟩, ?_⟩⟩
  · rw [show k = 3 * T by omega]; exact hQ
  · rw [Int.toNat_natCast, hc k (by omega)]
    have h2 := hr k (by omega)
    refine ⟨⟨by omega, by omega⟩, hx, fun e => ih _ _ ⟨k + 1, by omega, by omega, ?_⟩ (by omega), fun e => ih _ _ ⟨k + 1, by omega, by omega, ?_⟩ (by omega)⟩
    · unfold cAt; rw [sm_s, if_pos e]
    · unfold cAt; rw [sm_s, if_neg e]; omega
theorem cAt_r (co : Nat → Int) (C : Nat) (p : Int) : 0 ≤ cAt co C p ∧ cAt co C p ≤ C := by
  unfold cAt
  refine ⟨sm_nonneg (fun i _ => by split <;> omega), ?_⟩
  have h := sm_le (n := C) (f := fun c => if co c = p then (1 : Int) else 0) (g := fun _ => 1) (fun i _ => by split <;> omega)
  rw [sm_const] at h
  omega
theorem sAt_r (co : Nat → Int) (C n : Nat) (p j : Int) : 0 ≤ sAt co C n p j ∧ sAt co C n p j ≤ n := by
  unfold sAt
  refine ⟨sm_nonneg (fun i _ => by split <;> omega), ?_⟩
  have h := sm_le (n := n) (f := fun q => if (q : Int) ≠ p ∧ sd co C p q = j then (1 : Int) else 0) (g := fun _ => 1) (fun i _ => by split <;> omega)
  rw [sm_const] at h
  omega
theorem s_N_sidesAt {x1 x2 nPosts : Int} {nArrows : Nat → Int} {Q : Int → Prop} {n T : Nat} {co : Nat → Int} (hn : nPosts = n) (h9 : n ≤ 9) (hA : ArOK T co nArrows) (h12 : T ≤ 12) (a1 : 0 ≤ x1) (a2 : x1 < 9) (hx2 : jR x2) (hQ : Q (sAt co (3 * T) n x1 x2)) : wp_N_sidesAt x1 x2 nPosts nArrows Q := by
  subst hn
  unfold wp_N_sidesAt
  refine lp2 (wp_N_sidesAt_5 Q n nArrows x1 x2) (fun x3 x4 => ∃ k : Nat, k ≤ n ∧ x4 = k ∧ x3 = sAt co (3 * T) k x1 x2) (fun _ x4 => (n - x4).toNat) ?_ 0 0 ⟨0, by omega, rfl, rfl⟩
  rintro f x3 x4 ⟨k, hk, rfl, rfl⟩ ih
  show wp_N_sidesAt_5_b _ _ _ _ _ _ _ _
  unfold wp_N_sidesAt_5_b
  have hs := sd_r co (3 * T) x1 k
  refine ⟨jR_n (by omega), jR_n (by omega), fun h => ?_, fun h => ⟨⟨by omega, by omega⟩, fun e => ih _ _ ⟨k + 1, by omega, by omega, ?_⟩ (by omega), fun e => ?_⟩⟩
  · rw [show k = n by omega]; exact hQ
  · unfold sAt; rw [sm_s, if_neg (fun q => q.1 e)]; omega
  · refine s_N_thirdsAtSide hA h12 a1 a2 (by omega) (by omega) ⟨⟨by omega, by omega⟩, hx2, fun g => ih _ _ ⟨k + 1, by omega, by omega, ?_⟩ (by omega), fun g => ih _ _ ⟨k + 1, by omega, by omega, ?_⟩ (by omega)⟩
    · unfold sAt; rw [sm_s, if_pos ⟨e, g⟩]
    · unfold sAt; rw [sm_s, if_neg (fun q => g q.2)]; omega

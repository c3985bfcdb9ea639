/-! the reference's bar -/
def PB (kind : Int) (n T : Nat) (co su : Nat → Int) (N L : Int) (b : Nat) : Prop := (kind = 0 ∧ PT n T co su N L b) ∨ (kind ≠ 0 ∧ PP kind n T co su N L b)
theorem s_M_bar_62 {K : Int → Int → Prop} {Q : Int → Prop} {n T b d : Nat} {co su : Nat → Int} {x1 x3 x2 x4 t0 mPosts mThirds N L : Int} {mCorner mSum : Nat → Int} (hN : NetOK n T co) (hn : mPosts = n) (hT : mThirds = T) (hc : ∀ c, c < 3 * T → mCorner c = co c) (hs : ∀ p, p < 9 → mSum p = ms su p) (hS : SuOK su) (hL : 0 ≤ L) (h3L : 3 * L ≤ N) (hN360 : N ≤ 360) (e4 : x4 = b) (hb : b < 4096) (hx1 : jR x1) (ht : t0 = 0 ∨ t0 = 1) (hd : x2 = d) (h1 : t0 = 1 ∧ PB x1 n T co su N L b → K b (b + 1)) (h0 : ¬ (t0 = 1 ∧ PB x1 n T co su N L b) → K d (b + 1)) : wp_M_bar_62 K Q mPosts mThirds N L mCorner mSum x1 x3 x2 x4 t0 := by
  subst e4; subst hd
  unfold wp_M_bar_62
  refine ⟨by rcases ht with q | q <;> subst q <;> (unfold jR; decide), fun g => h0 (fun q => by omega), fun g => ⟨hx1, fun g2 => ?_, fun g2 => ?_⟩⟩
  · refine s_M_thirdsBar hN hn hT hc hs hS hL (by omega) (by omega) hN360 rfl hb (fun q => ⟨jR01_1, fun w => absurd w (by decide), fun _ => h1 ⟨by omega, Or.inl ⟨g2, q⟩⟩⟩) (fun q => ⟨jR01_0, fun _ => h0 (fun w => ?_), fun w => absurd rfl w⟩)
    rcases w.2 with z | z
    · exact q z.2
    · exact z.1 g2
  · refine s_M_postsBar hN hn hT hc hs hS hL h3L hN360 rfl hb hx1 (fun q => ⟨jR01_1, fun w => absurd w (by decide), fun _ => h1 ⟨by omega, Or.inr ⟨g2, q⟩⟩⟩) (fun q => ⟨jR01_0, fun _ => h0 (fun w => ?_), fun w => absurd rfl w⟩)
    rcases w.2 with z | z
    · exact g2 z.1
    · exact q z.2
theorem s_M_bar {Q : Int → Prop} {n T : Nat} {co su : Nat → Int} {x1 mPosts mThirds N L : Int} {mCorner mSum : Nat → Int} (hN : NetOK n T co) (hn : mPosts = n) (hT : mThirds = T) (hc : ∀ c, c < 3 * T → mCorner c = co c) (hs : ∀ p, p < 9 → mSum p = ms su p) (hS : SuOK su) (hL : 0 ≤ L) (h3L : 3 * L ≤ N) (hN360 : N ≤ 360) (hx1 : jR x1) (hout : ¬ (0 ≤ x1 ∧ x1 ≤ 2) → Q (-2)) (hin : 0 ≤ x1 → x1 ≤ 2 → Q ((fw (PB x1 n T co su N L) (2 ^ (if x1 = 0 then T else n)) : Nat) : Int)) : wp_M_bar x1 mPosts mThirds N L mCorner mSum Q := by
  have hle := hN.le
  have main : ∀ A : Nat, A ≤ 12 → Q ((fw (PB x1 n T co su N L) (2 ^ A) : Nat) : Int) → ∃ f, wp_M_bar_35 Q mPosts mThirds N L mCorner mSum x1 (jshl 1 A) f 0 1 := by
    intro A hA hQ
    have hp := pow12 hA
    have hpos := Nat.two_pow_pos A
    rw [jshl_1 hA]
    refine lp2 (wp_M_bar_35 Q mPosts mThirds N L mCorner mSum x1 ((2 ^ A : Nat) : Int)) (fun x2 x4 => ∃ k : Nat, 1 ≤ k ∧ k ≤ 2 ^ A ∧ x4 = k ∧ x2 = ((fw (PB x1 n T co su N L) k : Nat) : Int)) (fun _ x4 => (((2 ^ A : Nat) : Int) - x4).toNat) ?_ _ _ ⟨1, by omega, by omega, rfl, by rw [fw_1]; rfl⟩
    rintro f x2 x4 ⟨k, hk1, hk, rfl, rfl⟩ ih
    show wp_M_bar_35_b _ _ _ _ _ _ _ _ _ _ _ _
    unfold wp_M_bar_35_b
    have hf := fw_le (PB x1 n T co su N L) k
    refine ⟨jR_n (by omega), jR_n (by omega), fun h => ?_, fun h => ⟨jR_n (by omega), fun g => ?_, fun g => ?_⟩⟩
    · have e : k = 2 ^ A := by omega
      rw [e]; exact hQ
    · refine s_M_bar_62 hN hn hT hc hs hS hL h3L hN360 rfl (by omega) hx1 (Or.inr rfl) rfl (fun q => ih _ _ ⟨k + 1, by omega, by omega, by omega, ?_⟩ (by omega)) (fun q => ih _ _ ⟨k + 1, by omega, by omega, by omega, ?_⟩ (by omega))
      · rw [fw_t ⟨by omega, Or.inl (by omega), q.2⟩]
      · rw [fw_f (fun w => q ⟨rfl, w.2.2⟩)]
    · refine s_M_bits rfl (by omega) (s_M_bits rfl (by omega) ?_)
      have r1 := cb_r k
      have r2 := cb_r (fw (PB x1 n T co su N L) k)
      refine ⟨⟨by omega, by omega⟩, ⟨by omega, by omega⟩, fun g2 => ?_, fun g2 => ?_⟩
      · refine s_M_bar_62 hN hn hT hc hs hS hL h3L hN360 rfl (by omega) hx1 (Or.inl rfl) rfl (fun q => absurd q.1 (by decide)) (fun q => ih _ _ ⟨k + 1, by omega, by omega, by omega, ?_⟩ (by omega))
        rw [fw_f]
        intro w
        rcases w.2.1 with z | z <;> omega
      · refine s_M_bar_62 hN hn hT hc hs hS hL h3L hN360 rfl (by omega) hx1 (Or.inr rfl) rfl (fun q => ih _ _ ⟨k + 1, by omega, by omega, by omega, ?_⟩ (by omega)) (fun q => ih _ _ ⟨k + 1, by omega, by omega, by omega, ?_⟩ (by omega))
        · rw [fw_t ⟨by omega, Or.inr (by omega), q.2⟩]
        · rw [fw_f (fun w => q ⟨rfl, w.2.2⟩)]
  unfold wp_M_bar
  refine s_M_in hx1 (by unfold jR; decide) (by unfold jR; decide) (fun a b => ⟨jR01_1, fun w => absurd w (by decide), fun _ => ⟨hx1, fun g => ?_, fun g => ?_⟩⟩) (fun h => ⟨jR01_0, fun _ => hout h, fun w => absurd rfl w⟩)
  · subst hT; refine main T (by omega) ?_
    have := hin a b
    rw [if_pos g] at this; exact this
  · subst hn; refine main n (by omega) ?_
    have := hin a b
    rw [if_neg g] at this; exact this
/-! where a giving is there is no bar -/
theorem sm_thirds (T : Nat) (b : Nat) (g : Nat → Int) : sm (3 * T) (fun c => if b.testBit (c / 3) = true then g c else 0) = sm T (fun k => if b.testBit k = true then S3 g k else 0) := by
  rw [sm_three]
  refine sm_congr (fun k hk => ?_)
  rw [show 3 * k / 3 = k by omega, show (3 * k + 1) / 3 = k by omega, show (3 * k + 2) / 3 = k by omega]
  unfold S3
  split <;> omega
theorem sm_ext {T M : Nat} {f : Nat → Int} (h : T ≤ M) (h0 : ∀ k, T ≤ k → k < M → f k = 0) : sm M f = sm T f := by
  induction M with
  | zero => rw [show T = 0 by omega]
  | succ m ih =>
    by_cases e : T = m + 1
    · rw [e]
    · rw [sm_s, ih (by omega) (fun k h1 h2 => h0 k h1 (by omega)), h0 m (by omega) (by omega)]; omega
theorem cb_T {T b : Nat} (h12 : T ≤ 12) (hb : b < 2 ^ T) : cb b = sm T (fun k => bi b k) := by
  rw [cb_bi]
  refine sm_ext h12 (fun k h1 _ => ?_)
  exact bi_0.mpr (fun q => by have := bit_lt hb q; omega)
/-- the sums of a set of posts, corner by corner -/
theorem sTot_corners {n T : Nat} {co : Nat → Int} (hN : NetOK n T co) (f g : Nat → Int) (s : Nat) (h : ∀ p, p < n → s.testBit p = true → sm (3 * T) (fun c => if co c = p then g c else 0) = f p) : sTot n f s = sm (3 * T) (fun c => if s.testBit (co c).toNat = true then g c else 0) := by
  unfold sTot
  have e : sm n (fun p => if s.testBit p = true then f p else 0) = sm n (fun p => sm (3 * T) (fun c => if s.testBit p = true ∧ co c = p then g c else 0)) := by
    refine sm_congr (fun p hp => ?_)
    by_cases q : s.testBit p = true
    · rw [if_pos q, ← h p hp q]
      refine sm_congr (fun c _ => ?_)
      by_cases w : co c = p
      · rw [if_pos w, if_pos ⟨q, w⟩]
      · rw [if_neg w, if_neg (fun z => w z.2)]
    · rw [if_neg q]
      symm
      exact sm_zero (fun c _ => if_neg (fun z => q z.1))
  rw [e, sm_swap]
  refine sm_congr (fun c hc => ?_)
  have r := hN.co hc
  by_cases q : s.testBit (co c).toNat = true
  · rw [if_pos q]
    refine Eq.trans (sm_congr (fun p hp => ?_)) (sm_pick (n := n) (k := (co c).toNat) (fun _ => g c) (by omega))
    by_cases w : p = (co c).toNat
    · rw [if_pos w, if_pos ⟨by rw [w]; exact q, by omega⟩]
    · rw [if_neg w, if_neg (fun z => w (by omega))]
  · rw [if_neg q]
    refine sm_zero (fun p hp => if_neg (fun z => q ?_))
    rw [show (co c).toNat = p by omega]; exact z.1
theorem no_PT {n T b : Nat} {co su : Nat → Int} {N L : Int} {g : Nat → Int} (hN : NetOK n T co) (hg : IsGiv n T co su N L g) (hb : b < 2 ^ T) : ¬ PT n T co su N L b := by
  have hle := hN.le
  rintro ⟨h1, h2⟩
  have tt : ∀ p, (tcn co b (3 * T)).testBit p = true → su p ≠ -1 := by
    intro p hp
    obtain ⟨c, c1, c2, c3⟩ := (tcn_bit co b p (3 * T)).mp hp
    rw [← c3]; exact h1 c c1 c2
  have e1 := sTot_corners hN su g (tcn co b (3 * T)) (fun p hp q => hg.2.2 p hp (tt p q))
  have e2 : N * cb b = sm (3 * T) (fun c => if b.testBit (c / 3) = true then g c else 0) := by
    rw [sm_thirds, cb_T hle.2.2 hb, ← sm_mul]
    refine sm_congr (fun k hk => ?_)
    unfold bi
    split
    · rw [hg.2.1 k hk, Int.mul_one]
    · rw [Int.mul_zero]
  have e3 := sm_le (n := 3 * T) (f := fun c => (if b.testBit (c / 3) = true then g c else 0) + (if ¬ b.testBit (c / 3) = true ∧ (tcn co b (3 * T)).testBit (co c).toNat = true then L else 0)) (g := fun c => if (tcn co b (3 * T)).testBit (co c).toNat = true then g c else 0) (fun c hc => by
    have hgc := hg.1 c hc
    by_cases q : b.testBit (c / 3) = true
    · have : (tcn co b (3 * T)).testBit (co c).toNat = true := (tcn_bit co b _ (3 * T)).mpr ⟨c, hc, q, rfl⟩
      rw [if_pos q, if_neg (fun z => z.1 q), if_pos this]; omega
    · rw [if_neg q]
      by_cases w : (tcn co b (3 * T)).testBit (co c).toNat = true
      · rw [if_pos ⟨q, w⟩, if_pos w]; omega
      · rw [if_neg (fun z => w z.2), if_neg w]; omega)
  rw [sm_add] at e3
  unfold lossT at h2
  omega
theorem giv_most {N L a b c : Int} {x y z : Int} (hx : x = 0 ∨ x = 1) (hy : y = 0 ∨ y = 1) (hz : z = 0 ∨ z = 1) (h3 : a + b + c = N) (ha : L ≤ a) (hb : L ≤ b) (hc : L ≤ c) (hL : 0 ≤ L) : x * a + y * b + z * c ≤ mo N L (x + y + z) ∧ du N L (x + y + z) ≤ x * a + y * b + z * c := by
  unfold mo du
  rcases hx with q | q <;> rcases hy with w | w <;> rcases hz with v | v <;> subst q <;> subst w <;> subst v <;> simp <;> omega
theorem no_PP {n T b : Nat} {co su : Nat → Int} {N L way : Int} {g : Nat → Int} (hN : NetOK n T co) (hL : 0 ≤ L) (hg : IsGiv n T co su N L g) : ¬ PP way n T co su N L b := by
  rintro ⟨h1, h2⟩
  have e1 := sTot_corners hN su g b (fun p hp q => hg.2.2 p hp (h1 p hp q))
  rw [sm_three] at e1
  have key : ∀ k, k < T → (if b.testBit (co (3 * k)).toNat = true then g (3 * k) else 0) + (if b.testBit (co (3 * k + 1)).toNat = true then g (3 * k + 1) else 0) + (if b.testBit (co (3 * k + 2)).toNat = true then g (3 * k + 2) else 0) ≤ mo N L (th co b k) ∧ du N L (th co b k) ≤ (if b.testBit (co (3 * k)).toNat = true then g (3 * k) else 0) + (if b.testBit (co (3 * k + 1)).toNat = true then g (3 * k + 1) else 0) + (if b.testBit (co (3 * k + 2)).toNat = true then g (3 * k + 2) else 0) := by
    intro k hk
    have hh := hg.2.1 k hk
    unfold S3 at hh
    have b01 : ∀ j, bi b j = 0 ∨ bi b j = 1 := fun j => by have := bi_r b j; omega
    have m := giv_most (N := N) (L := L) (b01 (co (3 * k)).toNat) (b01 (co (3 * k + 1)).toNat) (b01 (co (3 * k + 2)).toNat) hh (hg.1 _ (by omega)) (hg.1 _ (by omega)) (hg.1 _ (by omega)) hL
    have e : ∀ j (x : Int), bi b j * x = if b.testBit j = true then x else 0 := by
      intro j x; unfold bi; split
      · rw [Int.one_mul]
      · rw [Int.zero_mul]
    rw [e, e, e] at m
    exact m
  rcases h2 with ⟨-, h2⟩ | ⟨-, h2⟩
  · have := sm_le (n := T) (fun k hk => (key k hk).1)
    unfold mostS at h2
    omega
  · have := sm_le (n := T) (fun k hk => (key k hk).2)
    unfold leastS at h2
    omega
theorem no_PB {n T b : Nat} {co su : Nat → Int} {N L kind : Int} {g : Nat → Int} (hN : NetOK n T co) (hL : 0 ≤ L) (hg : IsGiv n T co su N L g) (hb : kind = 0 → b < 2 ^ T) : ¬ PB kind n T co su N L b := by
  rintro (⟨q, h⟩ | ⟨q, h⟩)
  · exact no_PT hN hg (hb q) h
  · exact no_PP hN hL hg h
/-! the class's way to say it -/
theorem PT_iff {n T b : Nat} {co su : Nat → Int} {N L : Int} (hN : NetOK n T co) (hb : b < 2 ^ T) : PT n T co su N L b ↔ ((∀ c, c < 3 * T → b.testBit (c / 3) = true → su (co c).toNat ≠ -1) ∧ sTot n (fun p => su p - L * cAt co (3 * T) p) (tcn co b (3 * T)) + 3 * L * cb b < N * cb b) := by
  have hle := hN.le
  have e0 : sTot n (fun p => su p - L * cAt co (3 * T) p) (tcn co b (3 * T)) = sTot n su (tcn co b (3 * T)) - L * sTot n (fun p => cAt co (3 * T) p) (tcn co b (3 * T)) := by
    unfold sTot
    rw [← sm_mul, ← sm_sub]
    refine sm_congr (fun p _ => ?_)
    split
    · rfl
    · rw [Int.mul_zero]; rfl
  have e1 := sTot_corners hN (fun p => cAt co (3 * T) p) (fun _ => 1) (tcn co b (3 * T)) (fun p _ _ => rfl)
  have e2 : sm (3 * T) (fun c => if b.testBit (c / 3) = true then (1 : Int) else 0) = 3 * cb b := by
    have := sm_thirds T b (fun _ => 1)
    rw [this, cb_T hle.2.2 hb, ← sm_mul]
    refine sm_congr (fun k hk => ?_)
    unfold bi S3
    dsimp only
    split <;> omega
  have e3 : sm (3 * T) (fun c => if (tcn co b (3 * T)).testBit (co c).toNat = true then (1 : Int) else 0) = sm (3 * T) (fun c => if b.testBit (c / 3) = true then (1 : Int) else 0) + sm (3 * T) (fun c => if ¬ b.testBit (c / 3) = true ∧ (tcn co b (3 * T)).testBit (co c).toNat = true then (1 : Int) else 0) := by
    rw [← sm_add]
    refine sm_congr (fun c hc => ?_)
    by_cases q : b.testBit (c / 3) = true
    · have : (tcn co b (3 * T)).testBit (co c).toNat = true := (tcn_bit co b _ (3 * T)).mpr ⟨c, hc, q, rfl⟩
      rw [if_pos this, if_pos q, if_neg (fun z => z.1 q)]; omega
    · rw [if_neg q]
      by_cases w : (tcn co b (3 * T)).testBit (co c).toNat = true
      · rw [if_pos w, if_pos ⟨q, w⟩]; omega
      · rw [if_neg w, if_neg (fun z => w z.2)]; omega
  have e4 : lossT T co L b (3 * T) = L * sm (3 * T) (fun c => if ¬ b.testBit (c / 3) = true ∧ (tcn co b (3 * T)).testBit (co c).toNat = true then (1 : Int) else 0) := by
    unfold lossT
    rw [← sm_mul]
    refine sm_congr (fun c hc => ?_)
    split
    · rw [Int.mul_one]
    · rw [Int.mul_zero]
  have e5 : L * sTot n (fun p => cAt co (3 * T) p) (tcn co b (3 * T)) = 3 * L * cb b + lossT T co L b (3 * T) := by
    rw [e1, e3, e2, e4, Int.mul_add, ← Int.mul_assoc, Int.mul_comm L 3]
  unfold PT
  rw [e0, e5]
  constructor
  · rintro ⟨a, b⟩; exact ⟨a, by omega⟩
  · rintro ⟨a, b⟩; exact ⟨a, by omega⟩

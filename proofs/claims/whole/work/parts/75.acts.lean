/-! packed thirds -/
def pck (p q r : Int) : Int := p + 16 * q + 256 * r
def pckOk (x : Nat) : Bool := decide (jor (jor ((x % 16 : Nat) : Int) (jshl ((x / 16 % 16 : Nat) : Int) 4)) (jshl ((x / 256 : Nat) : Int) 8) = (x : Int)) && decide (jand (x : Int) 15 = ((x % 16 : Nat) : Int)) && decide (jand (jshr (x : Int) 4) 15 = ((x / 16 % 16 : Nat) : Int)) && decide (jand (jshr (x : Int) 8) 15 = ((x / 256 : Nat) : Int))
theorem pck_all : (List.range 4096).all pckOk = true := by decide +kernel
theorem pck_spec {p q r : Int} (p0 : 0 ≤ p) (p1 : p < 16) (q0 : 0 ≤ q) (q1 : q < 16) (r0 : 0 ≤ r) (r1 : r < 16) : jor (jor p (jshl q 4)) (jshl r 8) = pck p q r ∧ jand (pck p q r) 15 = p ∧ jand (jshr (pck p q r) 4) 15 = q ∧ jand (jshr (pck p q r) 8) 15 = r := by
  have e : ∃ x : Nat, x < 4096 ∧ pck p q r = x ∧ ((x % 16 : Nat) : Int) = p ∧ ((x / 16 % 16 : Nat) : Int) = q ∧ ((x / 256 : Nat) : Int) = r := by
    unfold pck
    exact ⟨(p + 16 * q + 256 * r).toNat, by omega, by omega, by omega, by omega, by omega⟩
  obtain ⟨x, h1, h2, h3, h4, h5⟩ := e
  have h := List.all_eq_true.mp pck_all x (List.mem_range.mpr h1)
  unfold pckOk at h
  rw [Bool.and_eq_true, Bool.and_eq_true, Bool.and_eq_true, decide_eq_true_iff, decide_eq_true_iff, decide_eq_true_iff, decide_eq_true_iff, h3, h4, h5] at h
  rw [h2]
  exact ⟨h.1.1.1, h.1.1.2, h.1.2, h.2⟩
theorem pck_r {p q r : Int} (p0 : 0 ≤ p) (p1 : p < 16) (q0 : 0 ≤ q) (q1 : q < 16) (r0 : 0 ≤ r) (r1 : r < 16) : 0 ≤ pck p q r ∧ pck p q r < 4096 := by unfold pck; omega
def pk3 (C : Nat → Int) (a : Nat) : Int := pck (C (3 * a)) (C (3 * a + 1)) (C (3 * a + 2))
/-! what put does -/
theorem s_N_put_none {v nThirds : Int} {nCorners nSums : Nat → Int} {Q : Int → (Nat → Int) → (Nat → Int) → Prop} (h : Q nThirds nCorners nSums) : wp_N_put (-1) v nThirds nCorners nSums Q := by
  unfold wp_N_put
  exact ⟨by unfold jR; decide, fun _ => h, fun g => absurd (by decide) g⟩
theorem s_N_put_empty {x nThirds : Int} {nCorners nSums : Nat → Int} {Q : Int → (Nat → Int) → (Nat → Int) → Prop} {a : Nat} (e : x = a) (ha : a < 12) (h : Q a nCorners nSums) : wp_N_put x (-1) nThirds nCorners nSums Q := by
  subst e
  unfold wp_N_put
  exact ⟨jR_n (by omega), fun g => by omega, fun _ => ⟨fun _ => ⟨fun _ => ⟨by unfold jR; decide, fun _ => h, fun g => absurd rfl g⟩, fun g => by omega⟩, fun g => by omega⟩⟩
theorem s_N_put_sum {x v nThirds : Int} {nCorners nSums : Nat → Int} {Q : Int → (Nat → Int) → (Nat → Int) → Prop} {a : Nat} (e : x = 12 + (a : Int)) (ha : a < 9) (h : Q nThirds nCorners (up nSums a v)) : wp_N_put x v nThirds nCorners nSums Q := by
  subst e
  unfold wp_N_put
  refine ⟨⟨by omega, by omega⟩, fun g => by omega, fun _ => ⟨fun _ => ⟨fun g => by omega, fun _ => ⟨⟨by omega, by omega⟩, fun ns ens => ?_⟩⟩, fun g => by omega⟩⟩
  rw [ens, show ((12 : Int) + (a : Int) - 12).toNat = a by omega]; exact h
theorem s_N_put3 {x v nThirds p q r : Int} {nCorners nSums : Nat → Int} {Q : Int → (Nat → Int) → (Nat → Int) → Prop} {a T : Nat} (e : x = a) (ha : a < 12) (ev : v = pck p q r) (eT : nThirds = T) (hT : T ≤ 12) (p0 : 0 ≤ p) (p1 : p < 16) (q0 : 0 ≤ q) (q1 : q < 16) (r0 : 0 ≤ r) (r1 : r < 16) (h : ∀ nc : Nat → Int, nc (3 * a) = p → nc (3 * a + 1) = q → nc (3 * a + 2) = r → (∀ c, c / 3 ≠ a → nc c = nCorners c) → Q (if T < a + 1 then ((a + 1 : Nat) : Int) else T) nc nSums) : wp_N_put x v nThirds nCorners nSums Q := by
  subst e; subst eT
  obtain ⟨-, u0, u1, u2⟩ := pck_spec p0 p1 q0 q1 r0 r1
  have hr := pck_r p0 p1 q0 q1 r0 r1
  rw [← ev] at u0 u1 u2 hr
  unfold wp_N_put
  refine ⟨jR_n (by omega), fun g => by omega, fun _ => ⟨fun _ => ⟨fun _ => ⟨⟨by omega, by omega⟩, fun g => by omega, fun _ => ⟨⟨by omega, by omega⟩, fun c1 e1 => ⟨⟨by omega, by omega⟩, fun c2 e2 => ⟨⟨by omega, by omega⟩, fun c3 e3 => ?_⟩⟩⟩⟩, fun g => by omega⟩, fun g => by omega⟩⟩
  rw [show ((3 : Int) * (a : Int)).toNat = 3 * a by omega, u0] at e1
  rw [show ((3 : Int) * (a : Int) + 1).toNat = 3 * a + 1 by omega, u1] at e2
  rw [show ((3 : Int) * (a : Int) + 2).toNat = 3 * a + 2 by omega, u2] at e3
  have em : jmax (T : Int) ((a : Int) + 1) = (if T < a + 1 then ((a + 1 : Nat) : Int) else T) := by
    rw [jmax_n (jR_n (by omega)) ⟨by omega, by omega⟩]
    by_cases g : T < a + 1
    · rw [if_pos g, if_pos (by omega)]; omega
    · rw [if_neg g, if_neg (by omega)]
  rw [em]
  refine h c3 ?_ ?_ ?_ (fun c hc => ?_)
  · rw [e3, up_n _ _ (by omega), e2, up_n _ _ (by omega), e1, up_s]
  · rw [e3, up_n _ _ (by omega), e2, up_s]
  · rw [e3, up_s]
  · rw [e3, up_n _ _ (by omega), e2, up_n _ _ (by omega), e1, up_n _ _ (by omega)]
theorem s_N_packed {x : Int} {nCorners : Nat → Int} {Q : Int → Prop} {n T a : Nat} {C : Nat → Int} (hN : NetOK n T C) (hc : ∀ c, c < 3 * T → nCorners c = C c) (e : x = a) (ha : a < T) (h : Q (pk3 C a)) : wp_N_packed x nCorners Q := by
  subst e
  have hle := hN.le
  have r0 := hN.co9 (c := 3 * a) (by omega)
  have r1 := hN.co9 (c := 3 * a + 1) (by omega)
  have r2 := hN.co9 (c := 3 * a + 2) (by omega)
  unfold wp_N_packed
  refine ⟨⟨by omega, by omega⟩, ⟨by omega, by omega⟩, ⟨by omega, by omega⟩, ?_⟩
  rw [show ((3 : Int) * (a : Int)).toNat = 3 * a by omega, show ((3 : Int) * (a : Int) + 1).toNat = 3 * a + 1 by omega, show ((3 : Int) * (a : Int) + 2).toNat = 3 * a + 2 by omega, hc _ (by omega), hc _ (by omega), hc _ (by omega)]
  unfold wp_N_pack
  rw [(pck_spec (by omega) (by omega) (by omega) (by omega) (by omega) (by omega)).1]
  exact h
/-! one act -/
def StA (k a b : Nat) (T : Nat) (C S : Nat → Int) (T' : Nat) (C' S' : Nat → Int) : Prop :=
  (k = 0 ∧ a = T ∧ b = T ∧ T' = T + 1 ∧ (∀ c, c < 3 * T → C' c = C c) ∧ ∀ p, p < 9 → S' p = S p) ∨
  (k = 1 ∧ a < T ∧ b < T ∧ a ≠ b ∧ T' = T ∧ (∀ c, c < 3 * T → c / 3 ≠ a → c / 3 ≠ b → C' c = C c) ∧ ∀ p, p < 9 → S' p = S p) ∨
  (k = 2 ∧ a < 9 ∧ b = a ∧ T' = T ∧ (∀ c, c < 3 * T → C' c = C c) ∧ ∀ p, p < 9 → p ≠ a → S' p = S p)
def RX (k a b : Nat) (C S C' S' : Nat → Int) (cl bf af : Nat → Int) (o : Nat) : Prop :=
  (k = 0 → cl o = a ∧ cl (o + 1) = -1 ∧ bf o = -1 ∧ af o = pk3 C' a) ∧
  (k = 1 → cl o = a ∧ cl (o + 1) = b ∧ bf o = pk3 C a ∧ bf (o + 1) = pk3 C b ∧ af o = pk3 C' a ∧ af (o + 1) = pk3 C' b) ∧
  (k = 2 → cl o = 12 + (a : Int) ∧ cl (o + 1) = -1 ∧ bf o = S a ∧ af o = S' a)
def RM (k a b : Nat) (C S C' S' : Nat → Int) (m : Nat → Int) (o : Nat) : Prop :=
  m o = k ∧ m (o + 1) = a ∧ m (o + 2) = b ∧ (k = 1 → ∀ j, j < 3 → m (o + 3 + j) = C (3 * a + j) ∧ m (o + 6 + j) = C (3 * b + j)) ∧ (k ≤ 1 → ∀ j, j < 3 → m (o + 9 + j) = C' (3 * a + j) ∧ m (o + 12 + j) = C' (3 * b + j)) ∧ (k = 2 → m (o + 3) = ms S a ∧ m (o + 9) = ms S' a)
theorem eff_f {n k a b T T' o : Nat} {C S C' S' cl bf af nc ns : Nat → Int} {R : Int → (Nat → Int) → (Nat → Int) → Prop} (hN : NetOK n T C) (hN' : NetOK n T' C') (hst : StA k a b T C S T' C' S') (hx : RX k a b C S C' S' cl bf af o) (hc : ∀ c, c < 3 * T → nc c = C c) (hs : ∀ p, p < 9 → ns p = S p) (hR : ∀ nc2 ns2, (∀ c, c < 3 * T' → nc2 c = C' c) → (∀ p, p < 9 → ns2 p = S' p) → R T' nc2 ns2) : wp_N_put (cl o) (af o) T nc ns (fun t1 n1 s1 => wp_N_put (cl (o + 1)) (af (o + 1)) t1 n1 s1 R) := by
  have hle := hN.le
  have hle' := hN'.le
  rcases hst with ⟨k0, e1, e2, e3, e4, e5⟩ | ⟨k1, e1, e2, e3, e4, e5, e6⟩ | ⟨k2, e1, e2, e3, e4, e5⟩
  · obtain ⟨x1, x2, -, x4⟩ := hx.1 k0
    have r0 := hN'.co9 (c := 3 * a) (by omega)
    have r1 := hN'.co9 (c := 3 * a + 1) (by omega)
    have r2 := hN'.co9 (c := 3 * a + 2) (by omega)
    refine s_N_put3 x1 (by omega) x4 rfl (by omega) (by omega) (by omega) (by omega) (by omega) (by omega) (by omega) (fun nc2 p0 p1 p2 p3 => ?_)
    rw [x2]
    refine s_N_put_none ?_
    rw [if_pos (by omega), show a + 1 = T' by omega]
    refine hR _ _ (fun c hc' => ?_) (fun p hp => by rw [hs p hp, e5 p hp])
    by_cases g : c / 3 = a
    · have : c = 3 * a ∨ c = 3 * a + 1 ∨ c = 3 * a + 2 := by omega
      rcases this with w | w | w
      · rw [w]; exact p0
      · rw [w]; exact p1
      · rw [w]; exact p2
    · rw [p3 c g, hc c (by omega), e4 c (by omega)]
  · obtain ⟨x1, x2, -, -, x5, x6⟩ := hx.2.1 k1
    have r0 := hN'.co9 (c := 3 * a) (by omega)
    have r1 := hN'.co9 (c := 3 * a + 1) (by omega)
    have r2 := hN'.co9 (c := 3 * a + 2) (by omega)
    have v0 := hN'.co9 (c := 3 * b) (by omega)
    have v1 := hN'.co9 (c := 3 * b + 1) (by omega)
    have v2 := hN'.co9 (c := 3 * b + 2) (by omega)
    refine s_N_put3 x1 (by omega) x5 rfl (by omega) (by omega) (by omega) (by omega) (by omega) (by omega) (by omega) (fun nc2 p0 p1 p2 p3 => ?_)
    rw [if_neg (by omega)]
    refine s_N_put3 x2 (by omega) x6 rfl (by omega) (by omega) (by omega) (by omega) (by omega) (by omega) (by omega) (fun nc3 q0 q1 q2 q3 => ?_)
    rw [if_neg (by omega), ← e4]
    refine hR _ _ (fun c hc' => ?_) (fun p hp => by rw [hs p hp, e6 p hp])
    by_cases g : c / 3 = b
    · have : c = 3 * b ∨ c = 3 * b + 1 ∨ c = 3 * b + 2 := by omega
      rcases this with w | w | w
      · rw [w]; exact q0
      · rw [w]; exact q1
      · rw [w]; exact q2
    · rw [q3 c g]
      by_cases g2 : c / 3 = a
      · have : c = 3 * a ∨ c = 3 * a + 1 ∨ c = 3 * a + 2 := by omega
        rcases this with w | w | w
        · rw [w]; exact p0
        · rw [w]; exact p1
        · rw [w]; exact p2
      · rw [p3 c g2, hc c (by omega), e5 c (by omega) g2 g]
  · obtain ⟨x1, x2, -, x4⟩ := hx.2.2 k2
    refine s_N_put_sum x1 e1 ?_
    rw [x2]
    refine s_N_put_none ?_
    rw [← e3]
    refine hR _ _ (fun c hc' => by rw [hc c (by omega), e4 c (by omega)]) (fun p hp => ?_)
    rw [up_at]
    by_cases g : p = a
    · rw [if_pos g, x4, g]
    · rw [if_neg g, hs p hp, e5 p hp g]
theorem eff_b {n k a b T T' o : Nat} {C S C' S' cl bf af nc ns : Nat → Int} {R : Int → (Nat → Int) → (Nat → Int) → Prop} (hN : NetOK n T C) (hN' : NetOK n T' C') (hst : StA k a b T C S T' C' S') (hx : RX k a b C S C' S' cl bf af o) (hc : ∀ c, c < 3 * T' → nc c = C' c) (hs : ∀ p, p < 9 → ns p = S' p) (hR : ∀ nc2 ns2, (∀ c, c < 3 * T → nc2 c = C c) → (∀ p, p < 9 → ns2 p = S p) → R T nc2 ns2) : wp_N_put (cl o) (bf o) T' nc ns (fun t1 n1 s1 => wp_N_put (cl (o + 1)) (bf (o + 1)) t1 n1 s1 R) := by
  have hle := hN.le
  have hle' := hN'.le
  rcases hst with ⟨k0, e1, e2, e3, e4, e5⟩ | ⟨k1, e1, e2, e3, e4, e5, e6⟩ | ⟨k2, e1, e2, e3, e4, e5⟩
  · obtain ⟨x1, x2, x3, -⟩ := hx.1 k0
    rw [x3]
    refine s_N_put_empty x1 (by omega) ?_
    rw [x2]
    refine s_N_put_none ?_
    rw [e1]
    exact hR _ _ (fun c hc' => by rw [hc c (by omega), e4 c hc']) (fun p hp => by rw [hs p hp, e5 p hp])
  · obtain ⟨x1, x2, x5, x6, -, -⟩ := hx.2.1 k1
    have r0 := hN.co9 (c := 3 * a) (by omega)
    have r1 := hN.co9 (c := 3 * a + 1) (by omega)
    have r2 := hN.co9 (c := 3 * a + 2) (by omega)
    have v0 := hN.co9 (c := 3 * b) (by omega)
    have v1 := hN.co9 (c := 3 * b + 1) (by omega)
    have v2 := hN.co9 (c := 3 * b + 2) (by omega)
    refine s_N_put3 x1 (by omega) x5 rfl (by omega) (by omega) (by omega) (by omega) (by omega) (by omega) (by omega) (fun nc2 p0 p1 p2 p3 => ?_)
    rw [if_neg (by omega)]
    refine s_N_put3 x2 (by omega) x6 rfl (by omega) (by omega) (by omega) (by omega) (by omega) (by omega) (by omega) (fun nc3 q0 q1 q2 q3 => ?_)
    rw [if_neg (by omega), e4]
    refine hR _ _ (fun c hc' => ?_) (fun p hp => by rw [hs p hp, e6 p hp])
    by_cases g : c / 3 = b
    · have : c = 3 * b ∨ c = 3 * b + 1 ∨ c = 3 * b + 2 := by omega
      rcases this with w | w | w
      · rw [w]; exact q0
      · rw [w]; exact q1
      · rw [w]; exact q2
    · rw [q3 c g]
      by_cases g2 : c / 3 = a
      · have : c = 3 * a ∨ c = 3 * a + 1 ∨ c = 3 * a + 2 := by omega
        rcases this with w | w | w
        · rw [w]; exact p0
        · rw [w]; exact p1
        · rw [w]; exact p2
      · rw [p3 c g2, hc c (by omega), e5 c (by omega) g2 g]
  · obtain ⟨x1, x2, x3, -⟩ := hx.2.2 k2
    refine s_N_put_sum x1 e1 ?_
    rw [x2]
    refine s_N_put_none ?_
    rw [e3]
    refine hR _ _ (fun c hc' => by rw [hc c (by omega), e4 c (by omega)]) (fun p hp => ?_)
    rw [up_at]
    by_cases g : p = a
    · rw [if_pos g, x3, g]
    · rw [if_neg g, hs p hp, e5 p hp g]
theorem s_A_putAll_a {T aBehind : Int} {nc ns ar cl af : Nat → Int} {Q : Int → (Nat → Int) → (Nat → Int) → (Nat → Int) → Prop} {n T' d : Nat} {C' S' : Nat → Int} (hN' : NetOK n T' C') (e : aBehind = d) (hd : d < 60) (H : ∀ R : Int → (Nat → Int) → (Nat → Int) → Prop, (∀ nc2 ns2, (∀ c, c < 3 * T' → nc2 c = C' c) → (∀ p, p < 9 → ns2 p = S' p) → R T' nc2 ns2) → wp_N_put (cl (2 * d)) (af (2 * d)) T nc ns (fun t1 n1 s1 => wp_N_put (cl (2 * d + 1)) (af (2 * d + 1)) t1 n1 s1 R)) (hQ : ∀ nc2 ns2 ar2, (∀ c, c < 3 * T' → nc2 c = C' c) → (∀ p, p < 9 → ns2 p = S' p) → ArOK T' C' ar2 → Q T' nc2 ns2 ar2) : wp_A_putAll_a T nc ns ar aBehind cl af Q := by
  subst e
  have hle' := hN'.le
  unfold wp_A_putAll_a
  refine ⟨3, ?_⟩
  show wp_A_putAll_a_2_b _ _ _ _ _ _ _ _ _ _
  unfold wp_A_putAll_a_2_b
  refine ⟨jR01_0, fun g => absurd g (by decide), fun _ => ⟨⟨by omega, by omega⟩, ?_⟩⟩
  rw [show ((2 : Int) * (d : Int) + 0).toNat = 2 * d by omega]
  have fin : ∀ nc2 ns2 : Nat → Int, (∀ c, c < 3 * T' → nc2 c = C' c) → (∀ p, p < 9 → ns2 p = S' p) → wp_A_putAll_a_2 Q d cl af ar 1 (0 + 1 + 1) T' nc2 ns2 := by
    intro nc2 ns2 h1 h2
    show wp_A_putAll_a_2_b _ _ _ _ _ _ _ _ _ _
    unfold wp_A_putAll_a_2_b
    refine ⟨by unfold jR; decide, fun _ => ?_, fun g => absurd (by decide) g⟩
    exact s_N_drawArrows rfl (by omega) h1 (fun c hc => hN'.co9 hc) (fun ar2 hA => hQ nc2 ns2 ar2 h1 h2 hA)
  have hh := H (fun t2 n2 s2 => wp_A_putAll_a_2 Q d cl af ar 1 (0 + 1 + 1) t2 n2 s2) fin
  refine Eq.mp ?_ hh
  congr 1
  funext t1 n1 s1
  show _ = wp_A_putAll_a_2_b (wp_A_putAll_a_2 Q (d : Int) cl af ar 1) Q (d : Int) cl af ar (0 + 1) t1 n1 s1
  unfold wp_A_putAll_a_2_b
  apply propext
  constructor
  · intro h
    exact ⟨by unfold jR; decide, fun g => absurd g (by decide), fun _ => ⟨⟨by omega, by omega⟩, by rw [show ((2 : Int) * (d : Int) + (0 + 1)).toNat = 2 * d + 1 by omega]; exact h⟩⟩
  · rintro ⟨-, -, h⟩
    have := (h (by decide)).2
    rw [show ((2 : Int) * (d : Int) + (0 + 1)).toNat = 2 * d + 1 by omega] at this
    exact this
theorem s_A_putAll_b {T aBehind : Int} {nc ns ar cl bf : Nat → Int} {Q : Int → (Nat → Int) → (Nat → Int) → (Nat → Int) → Prop} {n T' d : Nat} {C' S' : Nat → Int} (hN' : NetOK n T' C') (e : aBehind = d) (hd : d < 60) (H : ∀ R : Int → (Nat → Int) → (Nat → Int) → Prop, (∀ nc2 ns2, (∀ c, c < 3 * T' → nc2 c = C' c) → (∀ p, p < 9 → ns2 p = S' p) → R T' nc2 ns2) → wp_N_put (cl (2 * d)) (bf (2 * d)) T nc ns (fun t1 n1 s1 => wp_N_put (cl (2 * d + 1)) (bf (2 * d + 1)) t1 n1 s1 R)) (hQ : ∀ nc2 ns2 ar2, (∀ c, c < 3 * T' → nc2 c = C' c) → (∀ p, p < 9 → ns2 p = S' p) → ArOK T' C' ar2 → Q T' nc2 ns2 ar2) : wp_A_putAll_b T nc ns ar aBehind cl bf Q := by
  subst e
  have hle' := hN'.le
  unfold wp_A_putAll_b
  refine ⟨3, ?_⟩
  show wp_A_putAll_b_2_b _ _ _ _ _ _ _ _ _ _
  unfold wp_A_putAll_b_2_b
  refine ⟨jR01_0, fun g => absurd g (by decide), fun _ => ⟨⟨by omega, by omega⟩, ?_⟩⟩
  rw [show ((2 : Int) * (d : Int) + 0).toNat = 2 * d by omega]
  have fin : ∀ nc2 ns2 : Nat → Int, (∀ c, c < 3 * T' → nc2 c = C' c) → (∀ p, p < 9 → ns2 p = S' p) → wp_A_putAll_b_2 Q d cl bf ar 1 (0 + 1 + 1) T' nc2 ns2 := by
    intro nc2 ns2 h1 h2
    show wp_A_putAll_b_2_b _ _ _ _ _ _ _ _ _ _
    unfold wp_A_putAll_b_2_b
    refine ⟨by unfold jR; decide, fun _ => ?_, fun g => absurd (by decide) g⟩
    exact s_N_drawArrows rfl (by omega) h1 (fun c hc => hN'.co9 hc) (fun ar2 hA => hQ nc2 ns2 ar2 h1 h2 hA)
  have hh := H (fun t2 n2 s2 => wp_A_putAll_b_2 Q d cl bf ar 1 (0 + 1 + 1) t2 n2 s2) fin
  refine Eq.mp ?_ hh
  congr 1
  funext t1 n1 s1
  show _ = wp_A_putAll_b_2_b (wp_A_putAll_b_2 Q (d : Int) cl bf ar 1) Q (d : Int) cl bf ar (0 + 1) t1 n1 s1
  unfold wp_A_putAll_b_2_b
  apply propext
  constructor
  · intro h
    exact ⟨by unfold jR; decide, fun g => absurd g (by decide), fun _ => ⟨⟨by omega, by omega⟩, by rw [show ((2 : Int) * (d : Int) + (0 + 1)).toNat = 2 * d + 1 by omega]; exact h⟩⟩
  · rintro ⟨-, -, h⟩
    have := (h (by decide)).2
    rw [show ((2 : Int) * (d : Int) + (0 + 1)).toNat = 2 * d + 1 by omega] at this
    exact this

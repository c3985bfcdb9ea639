/-! room for a new act -/
def dn (d : Nat) : Nat := if d = 60 then 59 else d
def shf (d s : Nat) (f g : Nat → Int) (K : Nat) : Prop := ∀ i, i < K → g i = f (if d = 60 then i + s else i)
theorem s_A_note {x1 x2 x3 x4 aBehind : Int} {cl bf af : Nat → Int} {Q : (Nat → Int) → (Nat → Int) → (Nat → Int) → Prop} {d j : Nat} (e : aBehind = d) (hd : d < 60) (e1 : x1 = j) (hj : j < 2) (hQ : Q (up cl (2 * d + j) x2) (up bf (2 * d + j) x3) (up af (2 * d + j) x4)) : wp_A_note x1 x2 x3 x4 aBehind cl bf af Q := by
  subst e; subst e1
  unfold wp_A_note
  refine ⟨⟨by omega, by omega⟩, fun c1 e1 c2 e2 c3 e3 => ?_⟩
  rw [e1, e2, e3, show ((2 : Int) * (d : Int) + (j : Int)).toNat = 2 * d + j by omega]; exact hQ
theorem s_A_begin {aBehind aAhead : Int} {cl bf af : Nat → Int} {Q : Int → Int → (Nat → Int) → (Nat → Int) → (Nat → Int) → Prop} {d : Nat} (e : aBehind = d) (hd : d ≤ 60) (hQ : ∀ cl2 bf2 af2, shf d 2 cl cl2 (2 * dn d) → shf d 2 bf bf2 (2 * dn d) → shf d 2 af af2 (2 * dn d) → cl2 (2 * dn d + 1) = -1 → Q (dn d : Nat) 1 cl2 bf2 af2) : wp_A_begin aBehind aAhead cl bf af Q := by
  subst e
  have loop : ∀ (e : Nat) (a b c : Nat → Int), e < 60 → (Q (e : Int) 1 (up (up a (2 * e) (-1)) (2 * e + 1) (-1)) (up (up b (2 * e) 0) (2 * e + 1) 0) (up (up c (2 * e) 0) (2 * e + 1) 0)) → ∃ f, wp_A_begin_38 Q e aAhead f 0 a b c := by
    intro e a b c he h
    refine ⟨3, ?_⟩
    show wp_A_begin_38_b _ _ _ _ _ _ _ _
    unfold wp_A_begin_38_b
    refine ⟨jR01_0, fun g => absurd g (by decide), fun _ => s_A_note (j := 0) rfl he rfl (by omega) ?_⟩
    show wp_A_begin_38_b _ _ _ _ _ _ _ _
    unfold wp_A_begin_38_b
    refine ⟨by unfold jR; decide, fun g => absurd g (by decide), fun _ => s_A_note (j := 1) rfl he rfl (by omega) ?_⟩
    show wp_A_begin_38_b _ _ _ _ _ _ _ _
    unfold wp_A_begin_38_b
    refine ⟨by unfold jR; decide, fun _ => h, fun g => absurd (by decide) g⟩
  unfold wp_A_begin
  refine ⟨jR_n (by omega), fun g => ?_, fun g a ea b eb c ec => ?_⟩
  · have ed : dn d = d := if_neg (by omega)
    refine loop d cl bf af (by omega) ?_
    have hh := hQ (up (up cl (2 * d) (-1)) (2 * d + 1) (-1)) (up (up bf (2 * d) 0) (2 * d + 1) 0) (up (up af (2 * d) 0) (2 * d + 1) 0)
    rw [ed] at hh
    have t : ∀ (f : Nat → Int) (x y : Int), shf d 2 f (up (up f (2 * d) x) (2 * d + 1) y) (2 * d) := by
      intro f x y i hi
      rw [if_neg (by omega), up_n _ _ (by omega), up_n _ _ (by omega)]
    exact hh (t _ _ _) (t _ _ _) (t _ _ _) (up_s _ _ _)
  · have e60 : d = 60 := by omega
    subst e60
    refine loop 59 a b c (by omega) ?_
    have t : ∀ (f g : Nat → Int) (x y : Int), g = cpy f f 2 0 118 → shf 60 2 f (up (up g (2 * 59) x) (2 * 59 + 1) y) (2 * dn 60) := by
      intro f g x y eg i hi
      have hi2 : i < 118 := hi
      rw [if_pos rfl, up_n _ _ (by omega), up_n _ _ (by omega), eg]
      unfold cpy
      rw [if_pos ⟨by omega, by omega⟩]
      congr 1; omega
    exact hQ _ _ _ (t cl a _ _ ea) (t bf b _ _ eb) (t af c _ _ ec) (up_s _ _ _)
theorem s_M_write {x1 x2 x3 mIsLaid mActs mDone : Int} {m : Nat → Int} {Q : Int → Int → Int → (Nat → Int) → Prop} {d : Nat} (e : mDone = d) (hd : d ≤ 60) (hQ : ∀ m2, shf d 15 m m2 (15 * dn d) → m2 (15 * dn d) = x1 → m2 (15 * dn d + 1) = x2 → m2 (15 * dn d + 2) = x3 → Q 0 ((dn d : Nat) + 1) ((dn d : Nat) + 1) m2) : wp_M_write x1 x2 x3 mIsLaid mActs mDone m Q := by
  subst e
  have last : ∀ (e : Nat) (a : Nat → Int), e = dn d → e < 60 → shf d 15 m a (15 * e) → wp_M_write_53 Q x1 x2 x3 mIsLaid mActs e a := by
    intro e a ee he ha
    unfold wp_M_write_53
    refine ⟨⟨by omega, by omega⟩, fun a1 e1 => ⟨⟨by omega, by omega⟩, fun a2 e2 => ⟨⟨by omega, by omega⟩, fun a3 e3 => ?_⟩⟩⟩
    rw [show ((15 : Int) * (e : Int)).toNat = 15 * e by omega] at e1
    rw [show ((15 : Int) * (e : Int) + 1).toNat = 15 * e + 1 by omega] at e2
    rw [show ((15 : Int) * (e : Int) + 2).toNat = 15 * e + 2 by omega] at e3
    subst ee
    refine hQ a3 (fun i hi => ?_) ?_ ?_ ?_
    · rw [e3, up_n _ _ (by omega), e2, up_n _ _ (by omega), e1, up_n _ _ (by omega)]; exact ha i hi
    · rw [e3, up_n _ _ (by omega), e2, up_n _ _ (by omega), e1, up_s]
    · rw [e3, up_n _ _ (by omega), e2, up_s]
    · rw [e3, up_s]
  unfold wp_M_write
  refine ⟨jR_n (by omega), fun g => ?_, fun g => last d m (if_neg (by omega)).symm (by omega) (fun i _ => by rw [if_neg (by omega)])⟩
  have e60 : d = 60 := by omega
  subst e60
  refine lp2 (wp_M_write_12 Q x1 x2 x3 mIsLaid mActs ((60 : Nat) : Int)) (fun x4 a => ∃ k : Nat, k ≤ 885 ∧ x4 = k ∧ (∀ i, i < k → a i = m (i + 15)) ∧ ∀ i, k ≤ i → a i = m i) (fun x4 _ => (885 - x4).toNat) ?_ _ _ ⟨0, by omega, rfl, fun i h => by omega, fun i _ => rfl⟩
  rintro f x4 a ⟨k, hk, rfl, h1, h2⟩ ih
  show wp_M_write_12_b _ _ _ _ _ _ _ _ _ _
  unfold wp_M_write_12_b
  refine ⟨jR_n (by omega), fun g2 => ?_, fun g2 => ⟨⟨by omega, by omega⟩, ⟨by omega, by omega⟩, fun a2 e2 => ih _ _ ⟨k + 1, by omega, by omega, fun i hi => ?_, fun i hi => ?_⟩ (by omega)⟩⟩
  · refine last 59 a rfl (by omega) (fun i hi => ?_)
    rw [if_pos rfl]; exact h1 i (by omega)
  · rw [e2, up_at, Int.toNat_natCast, show ((k : Int) + 15).toNat = k + 15 by omega]
    by_cases q : i = k
    · rw [if_pos q, q]; exact h2 _ (by omega)
    · rw [if_neg q]; exact h1 i (by omega)
  · rw [e2, Int.toNat_natCast, up_n _ _ (by omega)]; exact h2 i (by omega)
theorem s_M_put {x1 p q r : Int} {mc : Nat → Int} {Q : (Nat → Int) → Prop} {a : Nat} (e : x1 = a) (ha : a < 12) (hQ : ∀ mc2 : Nat → Int, mc2 (3 * a) = p → mc2 (3 * a + 1) = q → mc2 (3 * a + 2) = r → (∀ c, c / 3 ≠ a → mc2 c = mc c) → Q mc2) : wp_M_put x1 p q r mc Q := by
  subst e
  unfold wp_M_put
  refine ⟨⟨by omega, by omega⟩, fun c1 e1 => ⟨⟨by omega, by omega⟩, fun c2 e2 => ⟨⟨by omega, by omega⟩, fun c3 e3 => ?_⟩⟩⟩
  rw [show ((3 : Int) * (a : Int)).toNat = 3 * a by omega] at e1
  rw [show ((3 : Int) * (a : Int) + 1).toNat = 3 * a + 1 by omega] at e2
  rw [show ((3 : Int) * (a : Int) + 2).toNat = 3 * a + 2 by omega] at e3
  refine hQ c3 ?_ ?_ ?_ (fun c hc => ?_)
  · rw [e3, up_n _ _ (by omega), e2, up_n _ _ (by omega), e1, up_s]
  · rw [e3, up_n _ _ (by omega), e2, up_s]
  · rw [e3, up_s]
  · rw [e3, up_n _ _ (by omega), e2, up_n _ _ (by omega), e1, up_n _ _ (by omega)]
theorem s_M_keepThirds {x1 x2 x3 : Int} {mc m : Nat → Int} {Q : (Nat → Int) → Prop} {o a b : Nat} (e1 : x1 = o) (ho : o + 6 ≤ 900) (e2 : x2 = a) (ha : a < 12) (e3 : x3 = b) (hb : b < 12) (hQ : ∀ m2 : Nat → Int, (∀ j, j < 3 → m2 (o + j) = mc (3 * a + j) ∧ m2 (o + 3 + j) = mc (3 * b + j)) → (∀ i, i < o ∨ o + 6 ≤ i → m2 i = m i) → Q m2) : wp_M_keepThirds x1 x2 x3 mc m Q := by
  subst e1; subst e2; subst e3
  unfold wp_M_keepThirds
  refine lp2 (wp_M_keepThirds_3 Q mc o a b) (fun x4 m2 => ∃ k : Nat, k ≤ 3 ∧ x4 = k ∧ (∀ j, j < k → m2 (o + j) = mc (3 * a + j) ∧ m2 (o + 3 + j) = mc (3 * b + j)) ∧ ∀ i, i < o ∨ o + 6 ≤ i → m2 i = m i) (fun x4 _ => (3 - x4).toNat) ?_ _ _ ⟨0, by omega, rfl, fun j h => by omega, fun i _ => rfl⟩
  rintro f x4 m2 ⟨k, hk, rfl, h1, h2⟩ ih
  show wp_M_keepThirds_3_b _ _ _ _ _ _ _ _
  unfold wp_M_keepThirds_3_b
  refine ⟨jR_n (by omega), fun g => ?_, fun g => ⟨⟨by omega, by omega⟩, ⟨by omega, by omega⟩, fun m3 q3 => ⟨⟨by omega, by omega⟩, ⟨by omega, by omega⟩, fun m4 q4 => ih _ _ ⟨k + 1, by omega, by omega, fun j hj => ?_, fun i hi => ?_⟩ (by omega)⟩⟩⟩
  · have : k = 3 := by omega
    subst this; exact hQ m2 h1 h2
  · rw [show ((o : Int) + (k : Int)).toNat = o + k by omega, show ((3 : Int) * (a : Int) + (k : Int)).toNat = 3 * a + k by omega] at q3
    rw [show ((o : Int) + 3 + (k : Int)).toNat = o + 3 + k by omega, show ((3 : Int) * (b : Int) + (k : Int)).toNat = 3 * b + k by omega] at q4
    by_cases q : j = k
    · subst q
      rw [q4]
      refine ⟨?_, up_s _ _ _⟩
      rw [up_n _ _ (by omega), q3, up_s]
    · have hh := h1 j (by omega)
      rw [q4, up_n _ _ (by omega), q3, up_n _ _ (by omega), up_n _ _ (by omega), up_n _ _ (by omega)]
      exact hh
  · rw [q4, up_n _ _ (by omega), q3, up_n _ _ (by omega)]; exact h2 i hi
theorem s_M_takeThirds {x1 x2 x3 : Int} {mc m : Nat → Int} {Q : (Nat → Int) → Prop} {o a b : Nat} (e1 : x1 = o) (ho : o + 6 ≤ 900) (e2 : x2 = a) (ha : a < 12) (e3 : x3 = b) (hb : b < 12) (hQ : ∀ mc2 : Nat → Int, (∀ j, j < 3 → mc2 (3 * b + j) = m (o + 3 + j)) → (a ≠ b → ∀ j, j < 3 → mc2 (3 * a + j) = m (o + j)) → (∀ c, c / 3 ≠ a → c / 3 ≠ b → mc2 c = mc c) → Q mc2) : wp_M_takeThirds x1 x2 x3 mc m Q := by
  subst e1; subst e2; subst e3
  unfold wp_M_takeThirds
  refine lp2 (wp_M_takeThirds_3 Q m o a b) (fun x4 mc2 => ∃ k : Nat, k ≤ 3 ∧ x4 = k ∧ (∀ j, j < k → mc2 (3 * b + j) = m (o + 3 + j)) ∧ (a ≠ b → ∀ j, j < k → mc2 (3 * a + j) = m (o + j)) ∧ ∀ c, c / 3 ≠ a → c / 3 ≠ b → mc2 c = mc c) (fun x4 _ => (3 - x4).toNat) ?_ _ _ ⟨0, by omega, rfl, fun j h => by omega, fun _ j h => by omega, fun i _ _ => rfl⟩
  rintro f x4 mc2 ⟨k, hk, rfl, h1, h2, h3⟩ ih
  show wp_M_takeThirds_3_b _ _ _ _ _ _ _ _
  unfold wp_M_takeThirds_3_b
  refine ⟨jR_n (by omega), fun g => ?_, fun g => ⟨⟨by omega, by omega⟩, ⟨by omega, by omega⟩, fun m3 q3 => ⟨⟨by omega, by omega⟩, ⟨by omega, by omega⟩, fun m4 q4 => ?_⟩⟩⟩
  · have : k = 3 := by omega
    subst this; exact hQ mc2 h1 h2 h3
  · rw [show ((o : Int) + (k : Int)).toNat = o + k by omega, show ((3 : Int) * (a : Int) + (k : Int)).toNat = 3 * a + k by omega] at q3
    rw [show ((o : Int) + 3 + (k : Int)).toNat = o + 3 + k by omega, show ((3 : Int) * (b : Int) + (k : Int)).toNat = 3 * b + k by omega] at q4
    refine ih _ _ ⟨k + 1, by omega, by omega, fun j hj => ?_, fun hab j hj => ?_, fun c g1 g2 => ?_⟩ (by omega)
    · rw [q4, up_at]
      by_cases q : j = k
      · subst q; rw [if_pos rfl]
      · rw [if_neg (by omega), q3, up_at]
        by_cases w : 3 * b + j = 3 * a + k
        · omega
        · rw [if_neg w]; exact h1 j (by omega)
    · rw [q4, up_at]
      by_cases w : 3 * a + j = 3 * b + k
      · omega
      · rw [if_neg w, q3, up_at]
        by_cases q : j = k
        · subst q; rw [if_pos rfl]
        · rw [if_neg (by omega)]; exact h2 hab j (by omega)
    · rw [q4, up_n _ _ (by omega), q3, up_n _ _ (by omega)]; exact h3 c g1 g2
/-! the acts that are kept -/
def OneAct (T : Nat) (C S : Nat → Int) (T' : Nat) (C' S' cl bf af : Nat → Int) (o : Nat) (m : Nat → Int) (o2 : Nat) : Prop := ∃ k a b, StA k a b T C S T' C' S' ∧ RX k a b C S C' S' cl bf af o ∧ RM k a b C S C' S' m o2
theorem OneAct_congr {T T' o o2 q q2 : Nat} {C S C' S' cl bf af m cl2 bf2 af2 m2 : Nat → Int} (h : OneAct T C S T' C' S' cl bf af o m o2) (h1 : ∀ j, j < 2 → cl2 (q + j) = cl (o + j)) (h2 : ∀ j, j < 2 → bf2 (q + j) = bf (o + j)) (h3 : ∀ j, j < 2 → af2 (q + j) = af (o + j)) (h4 : ∀ j, j < 15 → m2 (q2 + j) = m (o2 + j)) : OneAct T C S T' C' S' cl2 bf2 af2 q m2 q2 := by
  obtain ⟨k, a, b, s1, s2, s3⟩ := h
  refine ⟨k, a, b, s1, ?_, ?_⟩
  · unfold RX at s2 ⊢
    have c0 := h1 0 (by omega); have c1 := h1 1 (by omega)
    have b0 := h2 0 (by omega); have b1 := h2 1 (by omega)
    have a0 := h3 0 (by omega); have a1 := h3 1 (by omega)
    rw [Nat.add_zero, Nat.add_zero] at c0 b0 a0
    rw [c0, c1, b0, b1, a0, a1]; exact s2
  · unfold RM at s3 ⊢
    obtain ⟨u0, u1, u2, u3, u4, u5⟩ := s3
    have z := h4 0 (by omega)
    rw [Nat.add_zero, Nat.add_zero] at z
    refine ⟨by rw [z]; exact u0, by rw [h4 1 (by omega)]; exact u1, by rw [h4 2 (by omega)]; exact u2, fun hk j hj => ?_, fun hk j hj => ?_, fun hk => ?_⟩
    · have x := h4 (3 + j) (by omega); have y := h4 (6 + j) (by omega)
      rw [← Nat.add_assoc, ← Nat.add_assoc] at x y
      rw [x, y]; exact u3 hk j hj
    · have x := h4 (9 + j) (by omega); have y := h4 (12 + j) (by omega)
      rw [← Nat.add_assoc, ← Nat.add_assoc] at x y
      rw [x, y]; exact u4 hk j hj
    · rw [h4 3 (by omega), h4 9 (by omega)]; exact u5 hk
def Hist (n a : Nat) (hT : Nat → Nat) (hC hS : Nat → Nat → Int) (cl bf af m : Nat → Int) : Prop := (∀ i, i ≤ a → NetOK n (hT i) (hC i) ∧ SuOK (hS i)) ∧ ∀ i, i < a → OneAct (hT i) (hC i) (hS i) (hT (i + 1)) (hC (i + 1)) (hS (i + 1)) cl bf af (2 * i) m (15 * i)
def HI (n a d T : Nat) (co su : Nat → Int) (aBehind aAhead : Int) (cl bf af : Nat → Int) (mActs mDone : Int) (m : Nat → Int) : Prop := ∃ hT hC hS, hT d = T ∧ hC d = co ∧ hS d = su ∧ d ≤ a ∧ a ≤ 60 ∧ aBehind = d ∧ aAhead = (a : Int) - d ∧ mActs = a ∧ mDone = d ∧ Hist n a hT hC hS cl bf af m
theorem hist_new {n a d T : Nat} {co su : Nat → Int} {aBehind aAhead mActs mDone : Int} {cl bf af m cl2 bf2 af2 m2 : Nat → Int} {T' : Nat} {C' S' : Nat → Int} (h : HI n a d T co su aBehind aAhead cl bf af mActs mDone m) (hN' : NetOK n T' C') (hS' : SuOK S') (q1 : shf d 2 cl cl2 (2 * dn d)) (q2 : shf d 2 bf bf2 (2 * dn d)) (q3 : shf d 2 af af2 (2 * dn d)) (q4 : shf d 15 m m2 (15 * dn d)) (ho : OneAct T co su T' C' S' cl2 bf2 af2 (2 * dn d) m2 (15 * dn d)) {ab aa ma md : Int} (e1 : ab = (dn d : Nat) + 1) (e2 : aa = 0) (e3 : ma = (dn d : Nat) + 1) (e4 : md = (dn d : Nat) + 1) : HI n (dn d + 1) (dn d + 1) T' C' S' ab aa cl2 bf2 af2 ma md m2 := by
  obtain ⟨hT, hC, hS, t1, t2, t3, hda, ha, -, -, -, -, H1, H2⟩ := h
  have hdn : dn d + (if d = 60 then 1 else 0) = d ∧ dn d < 60 := by unfold dn; split <;> omega
  have look : ∀ {A : Type} (f : Nat → A) (v : A) (i : Nat), i ≤ dn d → (if i ≤ dn d then f (i + (if d = 60 then 1 else 0)) else v) = f (i + (if d = 60 then 1 else 0)) := fun f v i hi => if_pos hi
  have last : ∀ {A : Type} (f : Nat → A) (v : A), (if dn d + 1 ≤ dn d then f (dn d + 1 + (if d = 60 then 1 else 0)) else v) = v := fun f v => if_neg (by omega)
  refine ⟨fun i => if i ≤ dn d then hT (i + (if d = 60 then 1 else 0)) else T', fun i => if i ≤ dn d then hC (i + (if d = 60 then 1 else 0)) else C', fun i => if i ≤ dn d then hS (i + (if d = 60 then 1 else 0)) else S', last hT T', last hC C', last hS S', Nat.le_refl _, by omega, by omega, by omega, by omega, by omega, fun i hi => ?_, fun i hi => ?_⟩
  · dsimp only
    by_cases g : i ≤ dn d
    · rw [look hT T' i g, look hC C' i g, look hS S' i g]
      exact H1 _ (by split <;> split at hdn <;> omega)
    · have : i = dn d + 1 := by omega
      subst this
      rw [last hT T', last hC C', last hS S']; exact ⟨hN', hS'⟩
  · by_cases g : i < dn d
    · dsimp only
      rw [look hT T' i (by omega), look hC C' i (by omega), look hS S' i (by omega), look hT T' (i + 1) (by omega), look hC C' (i + 1) (by omega), look hS S' (i + 1) (by omega)]
      have e : i + 1 + (if d = 60 then 1 else 0) = (i + (if d = 60 then 1 else 0)) + 1 := by omega
      rw [e]
      have hlt : i + (if d = 60 then 1 else 0) < a := by split <;> split at hdn <;> omega
      have z := H2 _ hlt
      refine OneAct_congr z (fun j hj => ?_) (fun j hj => ?_) (fun j hj => ?_) (fun j hj => ?_)
      · rw [q1 _ (by omega)]; congr 1; split <;> omega
      · rw [q2 _ (by omega)]; congr 1; split <;> omega
      · rw [q3 _ (by omega)]; congr 1; split <;> omega
      · rw [q4 _ (by omega)]; congr 1; split <;> omega
    · have : i = dn d := by omega
      subst this
      dsimp only
      rw [look hT T' _ (Nat.le_refl _), look hC C' _ (Nat.le_refl _), look hS S' _ (Nat.le_refl _), last hT T', last hC C', last hS S', hdn.1, t1, t2, t3]
      exact ho

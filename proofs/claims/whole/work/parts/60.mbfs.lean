/-! the reference's ways: thirds 0.., posts 12.. -/
def ms (su : Nat → Int) (p : Nat) : Int := if su p = -1 then -6 else su p
def EdM (fo C n : Nat) (jn : Prop) (co su be : Nat → Int) (x u v : Int) : Prop :=
  (∃ c : Nat, x = c ∧ fo ≤ c ∧ c < C ∧ ((u = ((c / 3 : Nat) : Int) ∧ v = 12 + co c) ∨ (u = 12 + co c ∧ v = ((c / 3 : Nat) : Int) ∧ 0 < be c))) ∨ (jn ∧ x = -1 ∧ ∃ p p2 : Nat, p < n ∧ p2 < n ∧ su p = -1 ∧ su p2 = -1 ∧ u = 12 + p ∧ v = 12 + p2)
def CloM (fo C n : Nat) (jn : Prop) (co su be : Nat → Int) (R : Int → Prop) : Prop := ∀ x u v, EdM fo C n jn co su be x u v → R u → R v
def cm (bef : Nat → Int) : Int := sm 21 (fun v => if bef v = -2 then 0 else 1)
def BM (fo T n : Nat) (jn : Prop) (co su be : Nat → Int) (src : Int → Prop) (bef via queue : Nat → Int) (qn : Nat) : Prop :=
  (qn : Int) = cm bef ∧
  (∀ i, i < qn → 0 ≤ queue i ∧ queue i < 21 ∧ bef (queue i).toNat ≠ -2) ∧
  (∀ v : Nat, v < 21 → bef v ≠ -2 → ∃ i, i < qn ∧ queue i = v) ∧
  (∀ i j, i < qn → j < qn → queue i = queue j → i = j) ∧
  (∀ i, i < qn → (bef (queue i).toNat = -1 ∧ src (queue i)) ∨ ∃ j, j < i ∧ bef (queue i).toNat = queue j ∧ EdM fo (3 * T) n jn co su be (via (queue i).toNat) (queue j) (queue i)) ∧
  ∀ v : Nat, v < 21 → -2 ≤ bef v ∧ bef v < 21
theorem cm_le (bef : Nat → Int) : cm bef ≤ 21 := by
  unfold cm
  have h := sm_le (n := 21) (f := fun v => if bef v = -2 then (0 : Int) else 1) (g := fun _ => 1) (fun i _ => by split <;> omega)
  rw [sm_const] at h
  omega
theorem cm_up {bef : Nat → Int} {k : Nat} (hk : k < 21) (h : bef k = -2) {c : Int} (hc : c ≠ -2) : cm (up bef k c) = cm bef + 1 := by
  unfold cm
  have e : sm 21 (fun v => if up bef k c v = -2 then (0 : Int) else 1) = sm 21 (up (fun v => if bef v = -2 then (0 : Int) else 1) k 1) := by
    refine sm_congr (fun i _ => ?_)
    rw [up_at, up_at]
    by_cases hi : i = k
    · rw [if_pos hi, if_pos hi, if_neg hc]
    · rw [if_neg hi, if_neg hi]
  rw [e, sm_up _ _ hk, if_pos h]; omega
theorem BM_le {fo T n qn : Nat} {jn : Prop} {co su be bef via queue : Nat → Int} {src : Int → Prop} (hB : BM fo T n jn co su be src bef via queue qn) : qn ≤ 21 := by
  have h1 := hB.1
  have h2 := cm_le bef
  omega
theorem BM_add {fo T n qn : Nat} {jn : Prop} {co su be bef via queue : Nat → Int} {src : Int → Prop} (hB : BM fo T n jn co su be src bef via queue qn) {v fr by_ : Int} (v1 : 0 ≤ v) (v2 : v < 21) (hun : bef v.toNat = -2) (hE : (fr = -1 ∧ src v) ∨ ∃ j, j < qn ∧ fr = queue j ∧ EdM fo (3 * T) n jn co su be by_ (queue j) v) : qn < 21 ∧ BM fo T n jn co su be src (up bef v.toNat fr) (up via v.toNat by_) (up queue qn v) (qn + 1) := by
  obtain ⟨b1, b2, b3, b4, b5, b6⟩ := hB
  have hfr : -1 ≤ fr ∧ fr < 21 := by
    rcases hE with ⟨h, -⟩ | ⟨j, hj, h, -⟩
    · omega
    · have := b2 j hj; omega
  have hcu := cm_up (bef := bef) (k := v.toNat) (by omega) hun (c := fr) (by omega)
  have hle := cm_le (up bef v.toNat fr)
  have hne : ∀ i, i < qn → queue i ≠ v := fun i hi q => (b2 i hi).2.2 (by rw [q]; exact hun)
  have hvne : ∀ i, i < qn → (queue i).toNat ≠ v.toNat := fun i hi q => hne i hi (by have := (b2 i hi).1; omega)
  have qo : ∀ i, i < qn → up queue qn v i = queue i := fun i hi => up_n _ _ (by omega)
  refine ⟨by omega, by omega, ?_, ?_, ?_, ?_, ?_⟩
  · intro i hi
    by_cases hin : i = qn
    · subst hin
      rw [up_s, up_s]
      exact ⟨v1, v2, by omega⟩
    · rw [qo i (by omega), up_n _ _ (hvne i (by omega))]
      exact b2 i (by omega)
  · intro w hw hne2
    by_cases hwv : w = v.toNat
    · exact ⟨qn, by omega, by rw [up_s]; omega⟩
    · rw [up_n _ _ hwv] at hne2
      obtain ⟨i, hi, hq⟩ := b3 w hw hne2
      exact ⟨i, by omega, by rw [qo i hi]; exact hq⟩
  · intro i k hi hk hq
    by_cases h1 : i = qn
    · by_cases h2 : k = qn
      · omega
      · rw [h1, up_s, qo k (by omega)] at hq
        exact absurd hq.symm (hne k (by omega))
    · by_cases h2 : k = qn
      · rw [h2, up_s, qo i (by omega)] at hq
        exact absurd hq (hne i (by omega))
      · rw [qo i (by omega), qo k (by omega)] at hq
        exact b4 i k (by omega) (by omega) hq
  · intro i hi
    by_cases hin : i = qn
    · subst hin
      rw [up_s, up_s, up_s]
      rcases hE with ⟨h1, h2⟩ | ⟨j, h1, h2, h3⟩
      · exact Or.inl ⟨h1, h2⟩
      · exact Or.inr ⟨j, h1, by rw [qo j h1]; exact h2, by rw [qo j h1]; exact h3⟩
    · rw [qo i (by omega), up_n _ _ (hvne i (by omega)), up_n _ _ (hvne i (by omega))]
      rcases b5 i (by omega) with h | ⟨j, h1, h2, h3⟩
      · exact Or.inl h
      · exact Or.inr ⟨j, h1, by rw [qo j (by omega)]; exact h2, by rw [qo j (by omega)]; exact h3⟩
  · intro w hw
    rw [up_at]
    split
    · omega
    · exact b6 w hw
def ExtM (bef queue : Nat → Int) (qn : Nat) (bef2 queue2 : Nat → Int) (qn2 : Nat) : Prop := qn ≤ qn2 ∧ (∀ i, i < qn → queue2 i = queue i) ∧ ∀ v : Nat, bef v ≠ -2 → bef2 v ≠ -2
theorem ExtM.rf {bef queue : Nat → Int} {qn : Nat} : ExtM bef queue qn bef queue qn := ⟨Nat.le_refl _, fun _ _ => rfl, fun _ h => h⟩
theorem ExtM.tr {v1 q1 v2 q2 v3 q3 : Nat → Int} {s1 s2 s3 : Nat} (a : ExtM v1 q1 s1 v2 q2 s2) (b : ExtM v2 q2 s2 v3 q3 s3) : ExtM v1 q1 s1 v3 q3 s3 := ⟨Nat.le_trans a.1 b.1, fun i h => (b.2.1 i (Nat.lt_of_lt_of_le h a.1)).trans (a.2.1 i h), fun v h => b.2.2 v (a.2.2 v h)⟩
theorem s_M_come {fo T n qn : Nat} {jn : Prop} {co su be bef via queue : Nat → Int} {src : Int → Prop} {x1 x2 x3 mQueued : Int} {Q : Int → (Nat → Int) → (Nat → Int) → (Nat → Int) → Prop} (hB : BM fo T n jn co su be src bef via queue qn) (hq : mQueued = qn) (a1 : 0 ≤ x1) (a2 : x1 < 21) (hE : (x2 = -1 ∧ src x1) ∨ ∃ j, j < qn ∧ x2 = queue j ∧ EdM fo (3 * T) n jn co su be x3 (queue j) x1)
    (hQ : ∀ (bef2 via2 queue2 : Nat → Int) (qn2 : Nat), BM fo T n jn co su be src bef2 via2 queue2 qn2 → ExtM bef queue qn bef2 queue2 qn2 → bef2 x1.toNat ≠ -2 → Q qn2 bef2 via2 queue2) : wp_M_come x1 x2 x3 mQueued bef via queue Q := by
  subst hq
  unfold wp_M_come
  have hr := hB.2.2.2.2.2 x1.toNat (by omega)
  refine ⟨⟨a1, a2⟩, ⟨by omega, by omega⟩, fun g b2 e2 v2 e3 => ?_, fun g => hQ _ _ _ _ hB ExtM.rf g⟩
  obtain ⟨r1, r2⟩ := BM_add hB a1 a2 g hE
  have hx2 : x2 ≠ -2 := by
    rcases hE with ⟨h, -⟩ | ⟨j, hj, h, -⟩
    · omega
    · have := hB.2.1 j hj; omega
  refine ⟨⟨by omega, by omega⟩, fun q2 e4 => ?_⟩
  rw [Int.toNat_natCast] at e4
  subst e2; subst e3; subst e4
  refine hQ _ _ _ (qn + 1) r2 ⟨by omega, fun i h => up_n _ _ (by omega), fun w h => ?_⟩ ?_
  · rw [up_at]; split
    · exact hx2
    · exact h
  · rw [up_s]; exact hx2
theorem s_M_spread {fo T n qn0 : Nat} {jn : Prop} {co su be bef0 via0 queue0 mCorner mSum : Nat → Int} {src : Int → Prop} {x1 x2 mPosts mThirds mQueued : Int} {Q : Int → (Nat → Int) → (Nat → Int) → (Nat → Int) → Prop} (hN : NetOK n T co) (hn : mPosts = n) (hT : mThirds = T) (hc : ∀ c, c < 3 * T → mCorner c = co c) (hs : ∀ p, p < 9 → mSum p = ms su p) (hS : SuOK su) (hbe : ∀ c, c < 3 * T → jR (be c)) (hfo : fo ≤ 3 * T) (e1 : x1 = fo) (e2 : (x2 = 0 ∧ ¬ jn) ∨ (x2 = 1 ∧ jn)) (hsrc : ∀ v, src v → v < 12) (hB0 : BM fo T n jn co su be src bef0 via0 queue0 qn0) (hq : mQueued = qn0)
    (hQ : ∀ (bef via queue : Nat → Int) (qn : Nat), BM fo T n jn co su be src bef via queue qn → ExtM bef0 queue0 qn0 bef queue qn → CloM fo (3 * T) n jn co su be (fun v => 0 ≤ v ∧ bef v.toNat ≠ -2) → Q qn bef via queue) : wp_M_spread x1 x2 mPosts mThirds mQueued mCorner mSum be bef0 via0 queue0 Q := by
  have hle := hN.le
  subst hn; subst hT; subst e1; subst hq
  unfold wp_M_spread
  have hx2 : jR x2 := by rcases e2 with ⟨h, -⟩ | ⟨h, -⟩ <;> rw [h] <;> (unfold jR; decide)
  refine lp5 (wp_M_spread_2 Q n T mCorner mSum be fo x2) (fun x3 mq b v q => ∃ at_ qn : Nat, x3 = at_ ∧ mq = qn ∧ at_ ≤ 21 ∧ BM fo T n jn co su be src b v q qn ∧ ExtM bef0 queue0 qn0 b q qn ∧ ∀ i, i < at_ → i < qn → ∀ x w, EdM fo (3 * T) n jn co su be x (q i) w → b w.toNat ≠ -2) (fun x3 _ _ _ _ => (22 - x3).toNat) ?_ _ _ _ _ _ ⟨0, qn0, rfl, rfl, by omega, hB0, ExtM.rf, fun i h => by omega⟩
  rintro f x3 mq b v q ⟨at_, qn, rfl, rfl, hat, hB, hX, hexp⟩ ih
  show wp_M_spread_2_b _ _ _ _ _ _ _ _ _ _ _ _ _ _
  unfold wp_M_spread_2_b
  have hqn := BM_le hB
  refine ⟨jR_n (by omega), jR_n (by omega), fun h => ?_, fun h => ⟨⟨by omega, by omega⟩, ?_⟩⟩
  · refine hQ b v q qn hB hX (fun x u w hE hu => ?_)
    have hu21 : u < 21 ∧ 0 ≤ w := by
      rcases hE with ⟨c, -, -, hcl, h1 | h1⟩ | ⟨-, -, p, p2, hp, hp2, -, -, h1, h2⟩
      · have := hN.co9 hcl; omega
      · have := hN.co9 hcl; omega
      · omega
    obtain ⟨i, hi, hqi⟩ := hB.2.2.1 u.toNat (by omega) hu.2
    have hqi2 : q i = u := by rw [hqi]; omega
    exact ⟨hu21.2, hexp i (by omega) hi x w (by rw [hqi2]; exact hE)⟩
  · have hnode := hB.2.1 at_ (by omega)
    rw [Int.toNat_natCast]
    -- after a node: the next one
    have next : ∀ (b2 v2 q2 : Nat → Int) (qn2 : Nat), BM fo T n jn co su be src b2 v2 q2 qn2 → ExtM b q qn b2 q2 qn2 → (∀ x w, EdM fo (3 * T) n jn co su be x (q at_) w → b2 w.toNat ≠ -2) → wp_M_spread_2 Q n T mCorner mSum be fo x2 f (at_ + 1) qn2 b2 v2 q2 := by
      intro b2 v2 q2 qn2 hB2 hX2 hx
      refine ih _ _ _ _ _ ⟨at_ + 1, qn2, rfl, rfl, by omega, hB2, hX.tr hX2, ?_⟩ (by omega)
      intro i hi1 hi2 x w hE
      by_cases hia : i = at_
      · subst hia
        rw [hX2.2.1 i (by omega)] at hE
        exact hx x w hE
      · rw [hX2.2.1 i (by omega)] at hE
        exact hX2.2.2 _ (hexp i (by omega) (by omega) x w hE)
    -- the second loop: joined posts
    have second : ∀ (b2 v2 q2 : Nat → Int) (qn2 : Nat), BM fo T n jn co su be src b2 v2 q2 qn2 → ExtM b q qn b2 q2 qn2 → (∀ x w : Int, (∃ c : Nat, x = c ∧ fo ≤ c ∧ c < 3 * T ∧ ((q at_ = ((c / 3 : Nat) : Int) ∧ w = 12 + co c) ∨ (q at_ = 12 + co c ∧ w = ((c / 3 : Nat) : Int) ∧ 0 < be c))) → b2 w.toNat ≠ -2) → ∃ k : Nat, wp_M_spread_119 (wp_M_spread_2 Q n T mCorner mSum be fo x2 f) Q n T mCorner mSum be fo x2 at_ (q at_) k 0 qn2 b2 v2 q2 := by
      intro b2 v2 q2 qn2 hB2 hX2 hx
      refine lp5 (wp_M_spread_119 (wp_M_spread_2 Q n T mCorner mSum be fo x2 f) Q n T mCorner mSum be fo x2 at_ (q at_)) (fun x5 mq b3 v3 q3 => ∃ p qn3 : Nat, x5 = p ∧ mq = qn3 ∧ p ≤ n ∧ BM fo T n jn co su be src b3 v3 q3 qn3 ∧ ExtM b2 q2 qn2 b3 q3 qn3 ∧ ∀ p1 p2 : Nat, jn → p2 < p → p1 < n → su p1 = -1 → su p2 = -1 → q at_ = 12 + p1 → b3 (12 + p2) ≠ -2) (fun x5 _ _ _ _ => (n - x5).toNat) ?_ _ _ _ _ _ ⟨0, qn2, rfl, rfl, by omega, hB2, ExtM.rf, fun p1 p2 _ h => by omega⟩
      rintro f3 x5 mq b3 v3 q3 ⟨p, qn3, rfl, rfl, hp, hB3, hX3, hj⟩ ih3
      show wp_M_spread_119_b _ _ _ _ _ _ _ _ _ _ _ _ _ _ _ _ _
      unfold wp_M_spread_119_b
      have fin : (jn → ∀ p1 p2 : Nat, p2 < n → p1 < n → su p1 = -1 → su p2 = -1 → q at_ = 12 + p1 → b3 (12 + p2) ≠ -2) → wp_M_spread_2 Q n T mCorner mSum be fo x2 f (at_ + 1) qn3 b3 v3 q3 := by
        intro hall
        refine next b3 v3 q3 qn3 hB3 (hX2.tr hX3) (fun x w hE => ?_)
        rcases hE with hE | ⟨hjn, -, p1, p2, h1, h2, h3, h4, h5, h6⟩
        · exact hX3.2.2 _ (hx x w hE)
        · rw [h6, show ((12 : Int) + (p2 : Int)).toNat = 12 + p2 by omega]
          exact hall hjn p1 p2 h2 h1 h3 h4 h5
      refine ⟨jR_n (by omega), jR_n (by omega), fun g => fin (fun hjn p1 p2 h2 h1 h3 h4 h5 => hj p1 p2 hjn (by omega) h1 h3 h4 h5), fun g => ⟨hx2, fun g2 => fin (fun hjn => ?_), fun g2 => ⟨⟨by omega, by omega⟩, fun g3 => fin (fun hjn p1 p2 h2 h1 h3 h4 h5 => by omega), fun g3 => ?_⟩⟩⟩
      · rcases e2 with ⟨-, h⟩ | ⟨h, -⟩
        · exact absurd hjn h
        · omega
      · have hjn : jn := by
          rcases e2 with ⟨h, -⟩ | ⟨-, h⟩
          · exact absurd h g2
          · exact h
        have hms := hS (q at_ - 12).toNat (by omega)
        have hmp := hS p (by omega)
        rw [hs _ (by omega), Int.toNat_natCast, hs p (by omega)]
        have skip : (su (q at_ - 12).toNat ≠ -1 ∨ su p ≠ -1) → wp_M_spread_119 (wp_M_spread_2 Q n T mCorner mSum be fo x2 f) Q n T mCorner mSum be fo x2 at_ (q at_) f3 (p + 1) qn3 b3 v3 q3 := by
          intro hh
          refine ih3 _ _ _ _ _ ⟨p + 1, qn3, by omega, rfl, by omega, hB3, hX3, ?_⟩ (by omega)
          intro p1 p2 j1 j2 j3 j4 j5 j6
          by_cases hpp : p2 = p
          · subst hpp
            rcases hh with hh | hh
            · exact absurd (by rw [show (q at_ - 12).toNat = p1 by omega]; exact j4) hh
            · exact absurd j5 hh
          · exact hj p1 p2 j1 (by omega) j3 j4 j5 j6
        have m1 : ms su (q at_ - 12).toNat = -6 ↔ su (q at_ - 12).toNat = -1 := by unfold ms; split <;> omega
        have m2 : ms su p = -6 ↔ su p = -1 := by unfold ms; split <;> omega
        have r1 : jR (ms su (q at_ - 12).toNat) := by unfold ms jR; split <;> omega
        have r2 : jR (ms su p) := by unfold ms jR; split <;> omega
        refine ⟨⟨by omega, by omega⟩, r1, fun g4 => ⟨⟨by omega, by omega⟩, r2, fun g5 => ?_, fun g5 => skip (Or.inr (fun q => g5 (m2.mpr q)))⟩, fun g4 => skip (Or.inl (fun q => g4 (m1.mpr q)))⟩
        have hpn : (q at_ - 12).toNat < n := by
          rcases hB.2.2.2.2.1 at_ (by omega) with h | ⟨j, -, -, h⟩
          · have := hsrc _ h.2; omega
          · rcases h with ⟨c, -, -, hcl, h | h⟩ | ⟨-, -, p1, p2, -, h2, -, -, -, h6⟩
            · have := hN.co hcl; omega
            · omega
            · omega
        refine s_M_come hB3 rfl (by omega) (by omega) (Or.inr ⟨at_, by have := hX2.1; have := hX3.1; omega, ?_, ?_⟩) (fun b4 v4 q4 qn4 hB4 hX4 hb4 => ?_)
        · rw [hX3.2.1 at_ (by have := hX2.1; omega), hX2.2.1 at_ (by omega)]
        · rw [hX3.2.1 at_ (by have := hX2.1; omega), hX2.2.1 at_ (by omega)]
          exact Or.inr ⟨hjn, rfl, (q at_ - 12).toNat, p, hpn, by omega, m1.mp g4, m2.mp g5, by omega, by omega⟩
        · refine ih3 _ _ _ _ _ ⟨p + 1, qn4, by omega, rfl, by omega, hB4, hX3.tr hX4, ?_⟩ (by omega)
          intro p1 p2 j1 j2 j3 j4 j5 j6
          by_cases hpp : p2 = p
          · subst hpp; rw [show ((12 : Int) + (p2 : Int)).toNat = 12 + p2 by omega] at hb4; exact hb4
          · exact hX4.2.2 _ (hj p1 p2 j1 (by omega) j3 j4 j5 j6)
    -- the first loop: corners
    refine lp5 (wp_M_spread_21 (wp_M_spread_2 Q n T mCorner mSum be fo x2 f) Q n T mCorner mSum be fo x2 at_ (q at_)) (fun x5 mq b2 v2 q2 => ∃ c qn2 : Nat, x5 = c ∧ mq = qn2 ∧ fo ≤ c ∧ c ≤ 3 * T ∧ BM fo T n jn co su be src b2 v2 q2 qn2 ∧ ExtM b q qn b2 q2 qn2 ∧ ∀ d : Nat, fo ≤ d → d < c → (q at_ = ((d / 3 : Nat) : Int) → b2 (12 + co d).toNat ≠ -2) ∧ (q at_ = 12 + co d → 0 < be d → b2 (d / 3) ≠ -2)) (fun x5 _ _ _ _ => (3 * T - x5).toNat) ?_ _ _ _ _ _ ⟨fo, qn, rfl, rfl, Nat.le_refl _, hfo, hB, ExtM.rf, fun d h1 h2 => by omega⟩
    rintro f2 x5 mq b2 v2 q2 ⟨c, qn2, rfl, rfl, c1, c2, hB2, hX2, hd⟩ ih2
    show wp_M_spread_21_b _ _ _ _ _ _ _ _ _ _ _ _ _ _ _ _ _
    unfold wp_M_spread_21_b
    refine ⟨jR_n (by omega), ⟨by omega, by omega⟩, fun g => ?_, fun g => ?_⟩
    · refine second b2 v2 q2 qn2 hB2 hX2 (fun x w hE => ?_)
      obtain ⟨d, -, h1, h2, h3 | h3⟩ := hE
      · rw [h3.2]; exact (hd d h1 (by omega)).1 h3.1
      · rw [h3.2.1, Int.toNat_natCast]; exact (hd d h1 (by omega)).2 h3.1 h3.2.2
    · have hcl : c < 3 * T := by omega
      have hco := hN.co9 hcl
      have ej : (jdiv (c : Int) 3) = ((c / 3 : Nat) : Int) := by rw [jdiv_n (by omega) (by omega) (by omega) (by omega)]; omega
      rw [ej]
      -- the end of a corner's turn
      have tail : ∀ (b3 v3 q3 : Nat → Int) (qn3 : Nat), BM fo T n jn co su be src b3 v3 q3 qn3 → ExtM b2 q2 qn2 b3 q3 qn3 → (q at_ = ((c / 3 : Nat) : Int) → b3 (12 + co c).toNat ≠ -2) → (q at_ = 12 + co c → 0 < be c → b3 (c / 3) ≠ -2) → wp_M_spread_21 (wp_M_spread_2 Q n T mCorner mSum be fo x2 f) Q n T mCorner mSum be fo x2 at_ (q at_) f2 (c + 1) qn3 b3 v3 q3 := by
        intro b3 v3 q3 qn3 hB3 hX3 k1 k2
        refine ih2 _ _ _ _ _ ⟨c + 1, qn3, by omega, rfl, by omega, by omega, hB3, hX2.tr hX3, ?_⟩ (by omega)
        intro d h1 h2
        by_cases hdc : d = c
        · subst hdc; exact ⟨k1, k2⟩
        · exact ⟨fun h => hX3.2.2 _ ((hd d h1 (by omega)).1 h), fun h h' => hX3.2.2 _ ((hd d h1 (by omega)).2 h h')⟩
      have half : ∀ (b3 v3 q3 : Nat → Int) (qn3 : Nat), BM fo T n jn co su be src b3 v3 q3 qn3 → ExtM b2 q2 qn2 b3 q3 qn3 → (q at_ = ((c / 3 : Nat) : Int) → b3 (12 + co c).toNat ≠ -2) → wp_M_spread_66 (wp_M_spread_2 Q n T mCorner mSum be fo x2 f) (wp_M_spread_21 (wp_M_spread_2 Q n T mCorner mSum be fo x2 f) Q n T mCorner mSum be fo x2 at_ (q at_) f2) Q n T mCorner mSum be fo x2 at_ (q at_) c qn3 b3 v3 q3 := by
        intro b3 v3 q3 qn3 hB3 hX3 k1
        unfold wp_M_spread_66
        rw [Int.toNat_natCast, hc c hcl, ej]
        refine ⟨⟨by omega, by omega⟩, fun g1 => tail b3 v3 q3 qn3 hB3 hX3 k1 (fun h => by omega), fun g1 => ⟨⟨by omega, by omega⟩, ⟨by omega, by omega⟩, ⟨by omega, by omega⟩, fun g2 => ⟨hbe c hcl, fun g3 => tail b3 v3 q3 qn3 hB3 hX3 k1 (fun _ h => by omega), fun g3 => ?_⟩, fun g2 => tail b3 v3 q3 qn3 hB3 hX3 k1 (fun h => by omega)⟩⟩
        refine s_M_come hB3 rfl (by omega) (by omega) (Or.inr ⟨at_, by have := hX2.1; have := hX3.1; omega, ?_, ?_⟩) (fun b4 v4 q4 qn4 hB4 hX4 hb4 => ?_)
        · rw [hX3.2.1 at_ (by have := hX2.1; omega), hX2.2.1 at_ (by omega)]
        · rw [hX3.2.1 at_ (by have := hX2.1; omega), hX2.2.1 at_ (by omega)]
          exact Or.inl ⟨c, rfl, c1, hcl, Or.inr ⟨by omega, rfl, by omega⟩⟩
        · rw [Int.toNat_natCast] at hb4
          exact tail b4 v4 q4 qn4 hB4 (hX3.tr hX4) (fun h => hX4.2.2 _ (k1 h)) (fun _ _ => hb4)
      refine ⟨⟨by omega, by omega⟩, fun g1 => half b2 v2 q2 qn2 hB2 ExtM.rf (fun h => by omega), fun g1 => ⟨⟨by omega, by omega⟩, fun g2 => ⟨⟨by omega, by omega⟩, ?_⟩, fun g2 => half b2 v2 q2 qn2 hB2 ExtM.rf (fun h => absurd h.symm g2)⟩⟩
      rw [Int.toNat_natCast, hc c hcl]
      refine s_M_come hB2 rfl (by omega) (by omega) (Or.inr ⟨at_, by have := hX2.1; omega, ?_, ?_⟩) (fun b4 v4 q4 qn4 hB4 hX4 hb4 => half b4 v4 q4 qn4 hB4 hX4 (fun _ => hb4))
      · rw [hX2.2.1 at_ (by omega)]
      · rw [hX2.2.1 at_ (by omega)]
        exact Or.inl ⟨c, rfl, c1, hcl, Or.inl ⟨g2.symm, rfl⟩⟩

/-! ways through the net: posts 0..8, all untold posts 9, thirds 10.. -/
def Eg (fo C : Nat) (m : Int) (row pl : Nat → Int) (c : Nat) (u v : Int) : Prop := fo ≤ c ∧ c < C ∧ ((u = pl c ∧ v = 10 + ((c / 3 : Nat) : Int) ∧ m < row c) ∨ (u = 10 + ((c / 3 : Nat) : Int) ∧ v = pl c))
def Clo (fo C : Nat) (m : Int) (row pl : Nat → Int) (R : Int → Prop) : Prop := ∀ c u v, Eg fo C m row pl c u v → R u → R v
def cv (via : Nat → Int) : Int := sm 22 (fun v => if via v = -1 then 0 else 1)
def Bq (fo T : Nat) (m : Int) (row pl : Nat → Int) (st : Int) (via queue : Nat → Int) (sn : Nat) : Prop :=
  (1 ≤ sn ∧ (sn : Int) = cv via ∧ queue 0 = st ∧ via st.toNat = -2) ∧
  (∀ i, i < sn → 0 ≤ queue i ∧ queue i < 10 + T ∧ via (queue i).toNat ≠ -1) ∧
  (∀ v : Nat, v < 22 → via v ≠ -1 → ∃ i, i < sn ∧ queue i = v) ∧
  (∀ i j, i < sn → j < sn → queue i = queue j → i = j) ∧
  (∀ i, 0 < i → i < sn → ∃ c j : Nat, j < i ∧ via (queue i).toNat = (c : Int) ∧ Eg fo (3 * T) m row pl c (queue j) (queue i)) ∧
  ∀ v : Nat, v < 22 → -2 ≤ via v ∧ via v < 36
theorem cv_le (via : Nat → Int) : cv via ≤ 22 := by
  unfold cv
  have h := sm_le (n := 22) (f := fun v => if via v = -1 then (0 : Int) else 1) (g := fun _ => 1) (fun i _ => by split <;> omega)
  rw [sm_const] at h
  omega
theorem cv_up {via : Nat → Int} {k : Nat} (hk : k < 22) (h : via k = -1) {c : Int} (hc : c ≠ -1) : cv (up via k c) = cv via + 1 := by
  unfold cv
  have e : sm 22 (fun v => if up via k c v = -1 then (0 : Int) else 1) = sm 22 (up (fun v => if via v = -1 then (0 : Int) else 1) k 1) := by
    refine sm_congr (fun i _ => ?_)
    rw [up_at, up_at]
    by_cases hi : i = k
    · rw [if_pos hi, if_pos hi, if_neg hc]
    · rw [if_neg hi, if_neg hi]
  rw [e, sm_up _ _ hk, if_pos h]; omega
theorem Bq_add {fo T : Nat} {m : Int} {row pl via queue : Nat → Int} {st : Int} {sn : Nat} (h12 : T ≤ 12) (hB : Bq fo T m row pl st via queue sn) {v : Int} (v1 : 0 ≤ v) (v2 : v < 10 + T) (hun : via v.toNat = -1) {j c : Nat} (hj : j < sn) (hE : Eg fo (3 * T) m row pl c (queue j) v) : sn < 22 ∧ Bq fo T m row pl st (up via v.toNat c) (up queue sn v) (sn + 1) := by
  obtain ⟨⟨b1, b2, b3, b4⟩, b5, b6, b7, b8, b9⟩ := hB
  have hcu := cv_up (via := via) (k := v.toNat) (by omega) hun (c := (c : Int)) (by omega)
  have hle := cv_le (up via v.toNat c)
  have hst := (b5 0 (by omega)).1
  rw [b3] at hst
  have hne : ∀ i, i < sn → queue i ≠ v := fun i hi q => (b5 i hi).2.2 (by rw [q]; exact hun)
  have hvne : ∀ i, i < sn → (queue i).toNat ≠ v.toNat := fun i hi q => hne i hi (by have := (b5 i hi).1; omega)
  have qo : ∀ i, i < sn → up queue sn v i = queue i := fun i hi => up_n _ _ (by omega)
  refine ⟨by omega, ⟨by omega, by omega, by rw [qo 0 (by omega)]; exact b3, ?_⟩, ?_, ?_, ?_, ?_, ?_⟩
  · rw [up_n]
    · exact b4
    · intro q; rw [q, hun] at b4; exact absurd b4 (by decide)
  · intro i hi
    by_cases hin : i = sn
    · subst hin
      rw [up_s, up_s]
      exact ⟨v1, v2, by omega⟩
    · rw [qo i (by omega), up_n _ _ (hvne i (by omega))]
      exact b5 i (by omega)
  · intro w hw hne2
    by_cases hwv : w = v.toNat
    · exact ⟨sn, by omega, by rw [up_s]; omega⟩
    · rw [up_n _ _ hwv] at hne2
      obtain ⟨i, hi, hq⟩ := b6 w hw hne2
      exact ⟨i, by omega, by rw [qo i hi]; exact hq⟩
  · intro i k hi hk hq
    by_cases h1 : i = sn
    · by_cases h2 : k = sn
      · omega
      · rw [h1, up_s, qo k (by omega)] at hq
        exact absurd hq.symm (hne k (by omega))
    · by_cases h2 : k = sn
      · rw [h2, up_s, qo i (by omega)] at hq
        exact absurd hq (hne i (by omega))
      · rw [qo i (by omega), qo k (by omega)] at hq
        exact b7 i k (by omega) (by omega) hq
  · intro i h0 hi
    by_cases hin : i = sn
    · subst hin
      refine ⟨c, j, hj, ?_, ?_⟩
      · rw [up_s, up_s]
      · rw [up_s, qo j hj]; exact hE
    · obtain ⟨d, k, h1, h2, h3⟩ := b8 i h0 (by omega)
      refine ⟨d, k, h1, ?_, ?_⟩
      · rw [qo i (by omega), up_n _ _ (hvne i (by omega))]; exact h2
      · rw [qo i (by omega), qo k (by omega)]; exact h3
  · intro w hw
    rw [up_at]
    have := hE.2.1
    split
    · omega
    · exact b9 w hw
/-- what was seen stays seen -/
def Ext (via queue : Nat → Int) (sn : Nat) (via2 queue2 : Nat → Int) (sn2 : Nat) : Prop := sn ≤ sn2 ∧ (∀ i, i < sn → queue2 i = queue i) ∧ ∀ v : Nat, via v ≠ -1 → via2 v ≠ -1
theorem Ext.rf {via queue : Nat → Int} {sn : Nat} : Ext via queue sn via queue sn := ⟨Nat.le_refl _, fun _ _ => rfl, fun _ h => h⟩
theorem Ext.tr {v1 q1 v2 q2 v3 q3 : Nat → Int} {s1 s2 s3 : Nat} (a : Ext v1 q1 s1 v2 q2 s2) (b : Ext v2 q2 s2 v3 q3 s3) : Ext v1 q1 s1 v3 q3 s3 := ⟨Nat.le_trans a.1 b.1, fun i h => (b.2.1 i (Nat.lt_of_lt_of_le h a.1)).trans (a.2.1 i h), fun v h => b.2.2 v (a.2.2 v h)⟩
theorem Ext.add {via queue : Nat → Int} {sn k : Nat} {v c : Int} (hc : c ≠ -1) : Ext via queue sn (up via k c) (up queue sn v) (sn + 1) := ⟨by omega, fun i h => up_n _ _ (by omega), fun w h => by
  rw [up_at]; split
  · exact hc
  · exact h⟩
theorem s_G_seeFromThird {fo T sn j : Nat} {m st x1 x2 gFirst : Int} {row pl via queue : Nat → Int} {Q : Int → (Nat → Int) → (Nat → Int) → Prop} (h12 : T ≤ 12) (hfo : fo ≤ 3 * T) (hF : gFirst = fo) (hpl : ∀ c, c < 3 * T → 0 ≤ pl c ∧ pl c < 10) (hB : Bq fo T m row pl st via queue sn) (hj : j < sn) (hq : queue j = x1) (h10 : 10 ≤ x1) (hx2 : x2 = sn)
    (hQ : ∀ (via2 queue2 : Nat → Int) (sn2 : Nat), Bq fo T m row pl st via2 queue2 sn2 → Ext via queue sn via2 queue2 sn2 → (∀ c v, Eg fo (3 * T) m row pl c x1 v → via2 v.toNat ≠ -1) → Q sn2 via2 queue2) : wp_G_seeFromThird x1 x2 gFirst pl via queue Q := by
  subst hF; subst hx2
  have hx1 := hB.2.1 j hj
  rw [hq] at hx1
  obtain ⟨k, hk⟩ : ∃ k : Nat, x1 = 10 + (k : Int) := ⟨(x1 - 10).toNat, by omega⟩
  subst hk
  unfold wp_G_seeFromThird
  rw [show (3 : Int) * (10 + (k : Int) - 10) = ((3 * k : Nat) : Int) by omega, jmax_n (jR_n (by omega)) (jR_n (by omega))]
  refine lp4 (wp_G_seeFromThird_21 Q pl ((3 * k : Nat) : Int)) (fun x3 x5 vi qu => ∃ s c : Nat, x3 = s ∧ x5 = c ∧ (3 * k ≤ c ∧ c ≤ 36) ∧ fo ≤ c ∧ Bq fo T m row pl st vi qu s ∧ Ext via queue sn vi qu s ∧ ∀ d, fo ≤ d → 3 * k ≤ d → d < c → d < 3 * T → vi (pl d).toNat ≠ -1) (fun _ x5 _ _ => (3 * k + 3 - x5).toNat) ?_ _ _ _ _ ⟨sn, if ((3 * k : Nat) : Int) < (fo : Int) then fo else 3 * k, rfl, ?_, ?_, ?_, hB, Ext.rf, ?_⟩
  · rintro f x3 x5 vi qu ⟨s, c, rfl, rfl, c1, c2, hB2, hE2, hd⟩ ih
    show wp_G_seeFromThird_21_b _ _ _ _ _ _ _ _
    unfold wp_G_seeFromThird_21_b
    refine ⟨?_, ⟨by omega, by omega⟩, fun h => ?_, fun h => ?_⟩
    · exact jR_n (by omega)
    · refine hQ vi qu s hB2 hE2 (fun d v hE => ?_)
      obtain ⟨e1, e2, e3⟩ := hE
      rcases e3 with ⟨e3, -, -⟩ | ⟨e3, e4⟩
      · have := hpl d e2; omega
      · rw [e4]; exact hd d e1 (by omega) (by omega) e2
    · have hp := hpl c (by omega)
      have hv := hB2.2.2.2.2.2 (pl c).toNat (by omega)
      rw [Int.toNat_natCast]
      refine ⟨⟨by omega, by omega⟩, ⟨by omega, by omega⟩, ⟨by omega, by omega⟩, fun g => ?_, fun g => ?_⟩
      · obtain ⟨r1, r2⟩ := Bq_add h12 hB2 hp.1 (by omega) g (j := j) (c := c) (by have := hE2.1; omega) ⟨c2, by omega, Or.inr ⟨by rw [hE2.2.1 j hj, hq]; omega, rfl⟩⟩
        intro vi2 e2
        refine ⟨⟨by omega, by omega⟩, fun qu2 e3 => ih _ _ _ _ ⟨s + 1, c + 1, by omega, by omega, ⟨by omega, by omega⟩, by omega, ?_, ?_, ?_⟩ (by omega)⟩
        · rw [e2, e3, Int.toNat_natCast]; exact r2
        · rw [e2, e3, Int.toNat_natCast]; exact hE2.tr (Ext.add (by omega))
        · intro d d1 d2 d3 d4
          rw [e2, up_at]
          split
          · omega
          · rename_i hne
            by_cases hdc : d = c
            · subst hdc; exact absurd rfl hne
            · exact hd d d1 d2 (by omega) d4
      · refine ih _ _ _ _ ⟨s, c + 1, rfl, by omega, ⟨by omega, by omega⟩, by omega, hB2, hE2, ?_⟩ (by omega)
        intro d d1 d2 d3 d4
        by_cases hdc : d = c
        · subst hdc; exact g
        · exact hd d d1 d2 (by omega) d4
  · split <;> rfl
  · split <;> omega
  · split <;> omega
  · intro d d1 d2 d3 d4
    split at d3 <;> omega
theorem s_G_seeFromPost {fo T sn j : Nat} {m st x1 x2 gFirst gCorners gLowest : Int} {row pl via queue : Nat → Int} {Q : Int → (Nat → Int) → (Nat → Int) → Prop} (h12 : T ≤ 12) (hfo : fo ≤ 3 * T) (hF : gFirst = fo) (hC : gCorners = 3 * T) (hL : gLowest = m) (hm : jR m) (hrow : ∀ c, c < 3 * T → jR (row c)) (hpl : ∀ c, c < 3 * T → 0 ≤ pl c ∧ pl c < 10) (hB : Bq fo T m row pl st via queue sn) (hj : j < sn) (hq : queue j = x1) (h10 : x1 < 10) (hx2 : x2 = sn)
    (hQ : ∀ (via2 queue2 : Nat → Int) (sn2 : Nat), Bq fo T m row pl st via2 queue2 sn2 → Ext via queue sn via2 queue2 sn2 → (∀ c v, Eg fo (3 * T) m row pl c x1 v → via2 v.toNat ≠ -1) → Q sn2 via2 queue2) : wp_G_seeFromPost x1 x2 gCorners gLowest gFirst row pl via queue Q := by
  subst hF; subst hx2; subst hC; subst hL
  have hx1 := hB.2.1 j hj
  rw [hq] at hx1
  unfold wp_G_seeFromPost
  refine lp4 (wp_G_seeFromPost_8 Q (3 * T) gLowest row pl x1) (fun x3 x4 vi qu => ∃ s c : Nat, x3 = s ∧ x4 = c ∧ c ≤ 3 * T ∧ fo ≤ c ∧ Bq fo T gLowest row pl st vi qu s ∧ Ext via queue sn vi qu s ∧ ∀ d, fo ≤ d → d < c → pl d = x1 → gLowest < row d → vi (10 + ((d / 3 : Nat) : Int)).toNat ≠ -1) (fun _ x4 _ _ => (3 * T - x4).toNat) ?_ _ _ _ _ ⟨sn, fo, rfl, rfl, hfo, Nat.le_refl _, hB, Ext.rf, fun d d1 d2 => by omega⟩
  rintro f x3 x4 vi qu ⟨s, c, rfl, rfl, c1, c2, hB2, hE2, hd⟩ ih
  show wp_G_seeFromPost_8_b _ _ _ _ _ _ _ _ _ _ _
  unfold wp_G_seeFromPost_8_b
  have skip : (pl c = x1 → gLowest < row c → vi (10 + ((c / 3 : Nat) : Int)).toNat ≠ -1) → c < 3 * T → wp_G_seeFromPost_8 Q (3 * T) gLowest row pl x1 f s (c + 1) vi qu := by
    intro hh hlt
    refine ih _ _ _ _ ⟨s, c + 1, rfl, by omega, by omega, by omega, hB2, hE2, ?_⟩ (by omega)
    intro d d1 d2 d3 d4
    by_cases hdc : d = c
    · subst hdc; exact hh d3 d4
    · exact hd d d1 (by omega) d3 d4
  refine ⟨jR_n (by omega), ⟨by omega, by omega⟩, fun h => ?_, fun h => ?_⟩
  · refine hQ vi qu s hB2 hE2 (fun d v hE => ?_)
    obtain ⟨e1, e2, e3⟩ := hE
    rcases e3 with ⟨e3, e4, e5⟩ | ⟨e3, e4⟩
    · rw [e4]; exact hd d e1 (by omega) e3.symm e5
    · omega
  · have hp := hpl c (by omega)
    have hlt : c < 3 * T := by omega
    have ej : (jdiv (c : Int) 3) = ((c / 3 : Nat) : Int) := by rw [jdiv_n (by omega) (by omega) (by omega) (by omega)]; omega
    rw [Int.toNat_natCast, ej]
    have hv := hB2.2.2.2.2.2 (10 + ((c / 3 : Nat) : Int)).toNat (by omega)
    refine ⟨⟨by omega, by omega⟩, ⟨by omega, by omega⟩, ⟨by omega, by omega⟩, fun g => ⟨hrow c hlt, hm, fun g2 => skip (fun _ q => by omega) hlt, fun g2 => ⟨⟨by omega, by omega⟩, ⟨by omega, by omega⟩, fun g3 => ?_, fun g3 => skip (fun _ _ => g3) hlt⟩⟩, fun g => skip (fun q => absurd q g) hlt⟩
    obtain ⟨r1, r2⟩ := Bq_add h12 hB2 (v := 10 + ((c / 3 : Nat) : Int)) (by omega) (by omega) g3 (j := j) (c := c) (by have := hE2.1; omega) ⟨c2, hlt, Or.inl ⟨by rw [hE2.2.1 j hj, hq, g], rfl, by omega⟩⟩
    intro vi2 e2
    refine ⟨⟨by omega, by omega⟩, fun qu2 e3 => ih _ _ _ _ ⟨s + 1, c + 1, by omega, by omega, by omega, by omega, ?_, ?_, ?_⟩ (by omega)⟩
    · rw [e2, e3, Int.toNat_natCast]; exact r2
    · rw [e2, e3, Int.toNat_natCast]; exact hE2.tr (Ext.add (by omega))
    · intro d d1 d2 d3 d4
      rw [e2, up_at]
      split
      · omega
      · rename_i hne
        by_cases hdc : d = c
        · subst hdc; exact absurd rfl hne
        · exact hd d d1 (by omega) d3 d4
theorem Bq_le {fo T sn : Nat} {m st : Int} {row pl via queue : Nat → Int} (hB : Bq fo T m row pl st via queue sn) : sn ≤ 22 := by
  have h1 := hB.1.2.1
  have h2 := cv_le via
  omega
theorem s_G_reaches {fo T : Nat} {m x1 x2 gFirst gCorners gLowest : Int} {row pl gVia gQueue : Nat → Int} {Q : Int → (Nat → Int) → (Nat → Int) → Prop} (h12 : T ≤ 12) (hfo : fo ≤ 3 * T) (hF : gFirst = fo) (hC : gCorners = 3 * T) (hL : gLowest = m) (hm : jR m) (hrow : ∀ c, c < 3 * T → jR (row c)) (hpl : ∀ c, c < 3 * T → 0 ≤ pl c ∧ pl c < 10) (a1 : 0 ≤ x1) (a2 : x1 < 10 + T) (a3 : 0 ≤ x2) (a4 : x2 < 22)
    (h0 : ∀ (via queue : Nat → Int), Clo fo (3 * T) m row pl (fun v => 0 ≤ v ∧ via v.toNat ≠ -1) → via x1.toNat ≠ -1 → via x2.toNat = -1 → Q 0 via queue)
    (h1 : ∀ (via queue : Nat → Int) (sn : Nat), Bq fo T m row pl x1 via queue sn → via x2.toNat ≠ -1 → Q 1 via queue) : wp_G_reaches x1 x2 gCorners gLowest gFirst row pl gVia gQueue Q := by
  unfold wp_G_reaches
  intro via0 e0
  refine ⟨⟨by omega, by omega⟩, fun via1 e1 queue1 e2 => ?_⟩
  have hv1 : ∀ v : Nat, v < 22 → via1 v = if v = x1.toNat then -2 else -1 := by
    intro v hv
    rw [e1, up_at, e0]
    unfold fillf
    rw [if_pos hv]
  have hB0 : Bq fo T m row pl x1 via1 queue1 1 := by
    refine ⟨⟨Nat.le_refl _, ?_, ?_, ?_⟩, ?_, ?_, ?_, ?_, ?_⟩
    · unfold cv
      have e : sm 22 (fun v => if via1 v = -1 then (0 : Int) else 1) = sm 22 (fun i => if i = x1.toNat then (fun _ => (1 : Int)) i else 0) := by
        refine sm_congr (fun i hi => ?_)
        rw [hv1 i hi]
        by_cases hi2 : i = x1.toNat
        · rw [if_pos hi2, if_pos hi2]; rfl
        · rw [if_neg hi2, if_neg hi2]; rfl
      rw [e, sm_pick (fun _ => (1 : Int)) (by omega)]
      rfl
    · rw [e2]; exact up_s _ _ _
    · rw [hv1 _ (by omega), if_pos rfl]
    · intro i hi
      have : i = 0 := by omega
      subst this
      rw [e2, show ((0 : Int).toNat) = 0 from rfl, up_s, hv1 _ (by omega), if_pos rfl]
      exact ⟨a1, a2, by decide⟩
    · intro v hv hne
      rw [hv1 v hv] at hne
      by_cases h : v = x1.toNat
      · exact ⟨0, by omega, by rw [e2, show ((0 : Int).toNat) = 0 from rfl, up_s]; omega⟩
      · rw [if_neg h] at hne; exact absurd rfl hne
    · intro i j hi hj _; omega
    · intro i h0 hi; omega
    · intro v hv
      rw [hv1 v hv]; split <;> omega
  refine lp4 (wp_G_reaches_28 Q gCorners gLowest gFirst row pl x2) (fun x3 x4 vi qu => ∃ s k : Nat, x3 = s ∧ x4 = k ∧ k ≤ 22 ∧ Bq fo T m row pl x1 vi qu s ∧ ∀ i, i < k → i < s → ∀ c v, Eg fo (3 * T) m row pl c (qu i) v → vi v.toNat ≠ -1) (fun _ x4 _ _ => (22 - x4).toNat) ?_ _ _ _ _ ⟨1, 0, rfl, rfl, by omega, hB0, fun i hi => by omega⟩
  rintro f x3 x4 vi qu ⟨s, k, rfl, rfl, hk, hB, hx⟩ ih
  show wp_G_reaches_28_b _ _ _ _ _ _ _ _ _ _ _ _
  unfold wp_G_reaches_28_b
  have hs := Bq_le hB
  have hv2 := hB.2.2.2.2.2 x2.toNat (by omega)
  have fin : s ≤ k → vi x2.toNat = -1 → Q 0 vi qu := by
    intro hsk hun
    refine h0 vi qu (fun c u v hE hu => ?_) ?_ hun
    · obtain ⟨i, hi, hq⟩ := hB.2.2.1 u.toNat (by
        have e := hE.2.2
        have hcl := hE.2.1
        have := hpl c hcl
        rcases e with ⟨e, -⟩ | ⟨e, -⟩ <;> omega) hu.2
      have hq2 : qu i = u := by rw [hq]; omega
      refine ⟨?_, hx i (by omega) hi c v (by rw [hq2]; exact hE)⟩
      have e := hE.2.2
      have := hpl c hE.2.1
      rcases e with ⟨-, e, -⟩ | ⟨-, e⟩ <;> omega
    · rw [hB.1.2.2.2]; decide
  have ret : s ≤ k ∨ vi x2.toNat ≠ -1 → ((vi x2.toNat = -1 → Q 0 vi qu) ∧ (¬ vi x2.toNat = -1 → Q 1 vi qu)) := fun hh => ⟨fun g => fin (by omega) g, fun g => h1 vi qu s hB g⟩
  refine ⟨jR_n (by omega), fun h => ⟨⟨by omega, by omega⟩, ⟨by omega, by omega⟩, ret (by omega)⟩, fun h => ⟨jR_n (by omega), fun g => ⟨⟨by omega, by omega⟩, ⟨by omega, by omega⟩, ret (by omega)⟩, fun g => ⟨⟨by omega, by omega⟩, ⟨by omega, by omega⟩, fun g2 => ?_, fun g2 => ret (Or.inr g2)⟩⟩⟩
  have hqk := hB.2.1 k (by omega)
  rw [Int.toNat_natCast]
  have next : ∀ (via2 queue2 : Nat → Int) (sn2 : Nat), Bq fo T m row pl x1 via2 queue2 sn2 → Ext vi qu s via2 queue2 sn2 → (∀ c v, Eg fo (3 * T) m row pl c (qu k) v → via2 v.toNat ≠ -1) → wp_G_reaches_28 Q gCorners gLowest gFirst row pl x2 f sn2 (k + 1) via2 queue2 := by
    intro via2 queue2 sn2 hB2 hE2 hn
    refine ih _ _ _ _ ⟨sn2, k + 1, rfl, by omega, by omega, hB2, ?_⟩ (by omega)
    intro i hi1 hi2 c v hE
    by_cases hik : i = k
    · subst hik
      rw [hE2.2.1 i (by omega)] at hE
      exact hn c v hE
    · rw [hE2.2.1 i (by omega)] at hE
      exact hE2.2.2 _ (hx i (by omega) (by omega) c v hE)
  refine ⟨⟨by omega, by omega⟩, ⟨by omega, by omega⟩, fun g3 => ?_, fun g3 => ?_⟩
  · exact s_G_seeFromPost h12 hfo hF hC hL hm hrow hpl hB (j := k) (by omega) rfl g3 rfl next
  · exact s_G_seeFromThird h12 hfo hF hpl hB (j := k) (by omega) rfl (by omega) rfl next

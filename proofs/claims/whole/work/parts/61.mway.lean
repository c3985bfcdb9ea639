/-! the reference's ways: how much passes, and passing it -/
def posOf (queue : Nat → Int) : Nat → Int → Nat
  | 0, _ => 0
  | k + 1, v => if queue k = v then k else posOf queue k v
theorem posOf_at {queue : Nat → Int} : ∀ {qn i : Nat}, (∀ i j, i < qn → j < qn → queue i = queue j → i = j) → i < qn → posOf queue qn (queue i) = i := by
  intro qn
  induction qn with
  | zero => intro i _ h; omega
  | succ k ih =>
    intro i hinj hi
    show (if queue k = queue i then k else posOf queue k (queue i)) = i
    by_cases h : queue k = queue i
    · rw [if_pos h]; exact hinj k i (by omega) hi h
    · rw [if_neg h]
      have : i ≠ k := fun e => h (by rw [e])
      exact ih (fun a b ha hb => hinj a b (by omega) (by omega)) (by omega)
def WayM (qn : Nat) (be bef via queue : Nat → Int) (a : Int) (V : Nat → Prop) : Prop := ∀ j, V j → j < qn ∧ (∀ j2, j2 < qn → bef (queue j).toNat = queue j2 → V j2) ∧ ∀ c : Nat, queue j < 12 → bef (queue j).toNat ≠ -1 → via (queue j).toNat = (c : Int) → a ≤ be c
/-- what stands before a node that is no start -/
theorem BM_parent {fo T n qn i : Nat} {jn : Prop} {co su be bef via queue : Nat → Int} {src : Int → Prop} (hN : NetOK n T co) (hB : BM fo T n jn co su be src bef via queue qn) (hi : i < qn) (h : bef (queue i).toNat ≠ -1) : ∃ j, j < i ∧ bef (queue i).toNat = queue j ∧ ((∃ c : Nat, via (queue i).toNat = c ∧ fo ≤ c ∧ c < 3 * T ∧ ((12 ≤ queue i ∧ queue i = 12 + co c ∧ queue j = ((c / 3 : Nat) : Int)) ∨ (queue i < 12 ∧ queue i = ((c / 3 : Nat) : Int) ∧ queue j = 12 + co c ∧ 0 < be c))) ∨ (12 ≤ queue i ∧ via (queue i).toNat = -1 ∧ su (queue i - 12).toNat = -1 ∧ su (queue j - 12).toNat = -1 ∧ 12 ≤ queue j)) := by
  rcases hB.2.2.2.2.1 i hi with h1 | ⟨j, h1, h2, h3⟩
  · exact absurd h1.1 h
  · refine ⟨j, h1, h2, ?_⟩
    have hle := hN.le
    rcases h3 with ⟨c, c1, c2, c3, c4 | c4⟩ | ⟨-, c1, p, p2, p3, p4, p5, p6, p7, p8⟩
    · have := hN.co9 c3
      exact Or.inl ⟨c, c1, c2, c3, Or.inl ⟨by omega, c4.2, c4.1⟩⟩
    · exact Or.inl ⟨c, c1, c2, c3, Or.inr ⟨by omega, c4.2.1, c4.1, c4.2.2⟩⟩
    · refine Or.inr ⟨by omega, c1, ?_, ?_, by omega⟩
      · rw [show (queue i - 12).toNat = p2 by omega]; exact p6
      · rw [show (queue j - 12).toNat = p by omega]; exact p5
theorem s_M_wayRoom {fo T n qn ig : Nat} {jn : Prop} {co su be bef via queue mSpare : Nat → Int} {src : Int → Prop} {x1 x2 : Int} {Q : Int → Prop} (hN : NetOK n T co) (hB : BM fo T n jn co su be src bef via queue qn) (hsrc : ∀ v, src v → v < T) (hbe : ∀ c, c < 3 * T → 0 ≤ be c ∧ be c ≤ 100000) (hsp : ∀ k, k < T → jR (mSpare k)) (hig : ig < qn) (hx1 : queue ig = x1) (h1 : 1 ≤ x2) (h2 : x2 ≤ 100000)
    (hQ : ∀ (a : Int) (V : Nat → Prop), 1 ≤ a → a ≤ x2 → V ig → WayM qn be bef via queue a V → (∀ j, V j → bef (queue j).toNat = -1 → 0 < mSpare (queue j).toNat → a ≤ mSpare (queue j).toNat) → Q a) : wp_M_wayRoom x1 x2 be mSpare bef via Q := by
  have hle := hN.le
  unfold wp_M_wayRoom
  refine lp2 (wp_M_wayRoom_5 Q be mSpare bef via) (fun x3 x4 => ∃ (i : Nat) (V : Nat → Prop), i < qn ∧ queue i = x4 ∧ V i ∧ V ig ∧ 1 ≤ x3 ∧ x3 ≤ x2 ∧ ∀ j, V j → j ≠ i → j < qn ∧ bef (queue j).toNat ≠ -1 ∧ (∀ j2, j2 < qn → bef (queue j).toNat = queue j2 → V j2) ∧ ∀ c : Nat, queue j < 12 → via (queue j).toNat = (c : Int) → x3 ≤ be c) (fun _ x4 => posOf queue qn x4) ?_ _ _ ⟨ig, fun j => j = ig, hig, hx1, rfl, rfl, h1, Int.le_refl _, fun j a b => absurd a b⟩
  rintro f x3 x4 ⟨i, V, hi, rfl, hVi, hVg, b1, b2, hV⟩ ih
  show wp_M_wayRoom_5_b _ _ _ _ _ _ _ _
  unfold wp_M_wayRoom_5_b
  have hqi := hB.2.1 i hi
  have hbr := hB.2.2.2.2.2 (queue i).toNat (by omega)
  refine ⟨⟨by omega, by omega⟩, ⟨by omega, by omega⟩, fun g => ?_, fun g => ?_⟩
  · have hb1 : bef (queue i).toNat = -1 := by have := hqi.2.2; omega
    have hsT : queue i < T := by
      rcases hB.2.2.2.2.1 i hi with h | ⟨j, hj, h, -⟩
      · exact hsrc _ h.2
      · have := hB.2.1 j (by omega); omega
    have hs12 : queue i < 12 := by omega
    have way : ∀ a, 1 ≤ a → a ≤ x3 → (0 < mSpare (queue i).toNat → a ≤ mSpare (queue i).toNat) → Q a := by
      intro a a1 a2 a3
      refine hQ a V a1 (by omega) hVg (fun j hj => ?_) (fun j hj hjb => ?_)
      · by_cases hji : j = i
        · subst hji
          exact ⟨hi, fun j2 h1 h2 => by have := hB.2.1 j2 h1; omega, fun c _ h => absurd hb1 h⟩
        · obtain ⟨q1, q2, q3, q4⟩ := hV j hj hji
          exact ⟨q1, q3, fun c e1 _ e2 => by have := q4 c e1 e2; omega⟩
      · by_cases hji : j = i
        · subst hji; exact a3
        · exact absurd hjb (hV j hj hji).2.1
    refine ⟨⟨by omega, by omega⟩, fun h => by omega, fun _ => ⟨⟨by omega, by omega⟩, ⟨by omega, by omega⟩, hsp _ (by omega), fun g2 => way x3 b1 (Int.le_refl _) (fun _ => g2), fun g2 => ⟨fun g3 => way x3 b1 (Int.le_refl _) (fun h => by omega), fun g3 => way _ (by omega) (by omega) (fun _ => Int.le_refl _)⟩⟩⟩
  · obtain ⟨j, hj, hbj, hcase⟩ := BM_parent hN hB hi (by omega)
    have hqj := hB.2.1 j (by omega)
    have hpos : posOf queue qn (queue j) < posOf queue qn (queue i) := by
      rw [posOf_at hB.2.2.2.1 (by omega), posOf_at hB.2.2.2.1 hi]; exact hj
    rw [hbj]
    have join : ∀ x3', 1 ≤ x3' → x3' ≤ x3 → (∀ c : Nat, queue i < 12 → via (queue i).toNat = (c : Int) → x3' ≤ be c) → wp_M_wayRoom_5 Q be mSpare bef via f x3' (queue j) := by
      intro x3' a1 a2 a3
      refine ih _ _ ⟨j, fun k => V k ∨ k = j, by omega, rfl, Or.inr rfl, Or.inl hVg, a1, by omega, ?_⟩ hpos
      intro k hk hkj
      rcases hk with hk | hk
      · by_cases hki : k = i
        · subst hki
          refine ⟨hi, by omega, fun j2 d1 d2 => Or.inr ?_, fun c d1 d2 => a3 c d1 d2⟩
          exact hB.2.2.2.1 j2 j d1 (by omega) (by rw [← d2, hbj])
        · obtain ⟨q1, q2, q3, q4⟩ := hV k hk hki
          exact ⟨q1, q2, fun j2 d1 d2 => Or.inl (q3 j2 d1 d2), fun c d1 d2 => by have := q4 c d1 d2; omega⟩
      · exact absurd hk hkj
    refine ⟨⟨by omega, by omega⟩, fun g2 => join x3 b1 (Int.le_refl _) (fun c h => by omega), fun g2 => ?_⟩
    obtain ⟨c, hvc, c1, c2, hc3⟩ : ∃ c : Nat, via (queue i).toNat = c ∧ fo ≤ c ∧ c < 3 * T ∧ 0 < be c := by
      rcases hcase with ⟨c, e1, e2, e3, e4 | e4⟩ | e
      · omega
      · exact ⟨c, e1, e2, e3, e4.2.2.2⟩
      · omega
    have hbc := hbe c c2
    rw [hvc, Int.toNat_natCast]
    refine ⟨⟨by omega, by omega⟩, ⟨by omega, by omega⟩, ⟨by omega, by omega⟩, fun g3 => join x3 b1 (Int.le_refl _) (fun d _ e => ?_), fun g3 => join _ (by omega) (by omega) (fun d _ e => ?_)⟩
    · rw [hvc] at e; rw [show d = c by omega]; exact g3
    · rw [hvc] at e; rw [show d = c by omega]; exact Int.le_refl _
def phi (su : Nat → Int) (v : Int) : Int := if v < 12 then -1 else if su (v - 12).toNat = -1 then 9 else v - 12
def PushedM (fo T : Nat) (co su be be2 : Nat → Int) (goal k0 a : Int) : Prop :=
  (∀ c, c < 3 * T → 0 ≤ be2 c) ∧ (∀ k, k < T → S3 be2 k = S3 be k + (if k0 = (k : Int) then a else 0)) ∧
  (∀ p : Int, 0 ≤ p → p < 10 → PS T (plf co su) be2 p = PS T (plf co su) be p + (if p = phi su goal then a else 0)) ∧ ∀ c, c < fo → be2 c = be c
theorem s_M_goWay {fo T n qn ig : Nat} {jn : Prop} {co su be bef via queue : Nat → Int} {src : Int → Prop} {x1 x2 : Int} {V : Nat → Prop} {Q : Int → (Nat → Int) → Prop} (hN : NetOK n T co) (hB : BM fo T n jn co su be src bef via queue qn) (hsrc : ∀ v, src v → v < 12) (hbe : ∀ c, c < 3 * T → 0 ≤ be c) (hig : ig < qn) (hx1 : queue ig = x1) (hg12 : 12 ≤ x1) (hVg : V ig) (h1 : 1 ≤ x2) (hW : WayM qn be bef via queue x2 V)
    (hQ : ∀ (j : Nat) (be2 : Nat → Int), j < qn → V j → bef (queue j).toNat = -1 → src (queue j) → PushedM fo T co su be be2 x1 (queue j) x2 → Q (queue j) be2) : wp_M_goWay x1 x2 be bef via Q := by
  have hle := hN.le
  unfold wp_M_goWay
  refine lp2 (wp_M_goWay_2 Q bef via x2) (fun x3 r => ∃ i : Nat, i < qn ∧ queue i = x3 ∧ V i ∧ (∀ c, c < 3 * T → 0 ≤ r c) ∧ (∀ j c : Nat, V j → j ≤ i → queue j < 12 → bef (queue j).toNat ≠ -1 → via (queue j).toNat = (c : Int) → be c ≤ r c) ∧ (∀ k, k < T → S3 r k = S3 be k + (if x3 = (k : Int) then x2 else 0)) ∧ (∀ p : Int, 0 ≤ p → p < 10 → PS T (plf co su) r p = PS T (plf co su) be p + (if p = phi su x1 then x2 else 0) - (if p = phi su x3 then x2 else 0)) ∧ ∀ c, c < fo → r c = be c) (fun x3 _ => posOf queue qn x3) ?_ _ _ ⟨ig, hig, hx1, hVg, hbe, fun _ _ _ _ _ _ _ => Int.le_refl _, fun k hk => by rw [if_neg (by omega)]; omega, fun p _ _ => by omega, fun _ _ => rfl⟩
  rintro f x3 r ⟨i, hi, rfl, hVi, hL, hU, hS, hP, hF⟩ ih
  show wp_M_goWay_2_b _ _ _ _ _ _ _
  unfold wp_M_goWay_2_b
  have hqi := hB.2.1 i hi
  have hbr := hB.2.2.2.2.2 (queue i).toNat (by omega)
  refine ⟨⟨by omega, by omega⟩, ⟨by omega, by omega⟩, fun g => ?_, fun g => ?_⟩
  · have hb1 : bef (queue i).toNat = -1 := by have := hqi.2.2; omega
    have hsr : src (queue i) := by
      rcases hB.2.2.2.2.1 i hi with h | ⟨j, hj, h, -⟩
      · exact h.2
      · have := hB.2.1 j (by omega); omega
    have hs12 := hsrc _ hsr
    refine hQ i r hi hVi hb1 hsr ⟨hL, hS, fun p p1 p2 => ?_, hF⟩
    rw [hP p p1 p2, if_neg (show ¬ p = phi su (queue i) by unfold phi; rw [if_pos hs12]; omega)]; omega
  · obtain ⟨j, hj, hbj, hcase⟩ := BM_parent hN hB hi (by omega)
    obtain ⟨w1, w2, w3⟩ := hW i hVi
    have hqj := hB.2.1 j (by omega)
    have hVj := w2 j (by omega) hbj
    have hpos : posOf queue qn (queue j) < posOf queue qn (queue i) := by
      rw [posOf_at hB.2.2.2.1 (by omega), posOf_at hB.2.2.2.1 hi]; exact hj
    rw [hbj]
    rcases hcase with ⟨c, hvc, c1, c2, hc3⟩ | ⟨j1, j2, j3, j4, j5⟩
    · have hco := hN.co9 c2
      rw [hvc, Int.toNat_natCast]
      refine ⟨⟨by omega, by omega⟩, fun h => by omega, fun _ => ⟨⟨by omega, by omega⟩, ⟨by omega, by omega⟩, fun g2 r2 e2 => ?_, fun g2 r2 e2 => ?_⟩⟩
      · have h3 : queue i = 12 + co c ∧ queue j = ((c / 3 : Nat) : Int) := by rcases hc3 with h | h; exact ⟨h.2.1, h.2.2⟩; omega
        have hphi : phi su (queue i) = plf co su c := by
          unfold phi plf
          rw [if_neg (by omega), h3.1, show ((12 : Int) + co c - 12) = co c by omega]
        have hphj : phi su (queue j) = -1 := by unfold phi; rw [if_pos (by omega)]
        refine ih _ _ ⟨j, by omega, rfl, hVj, ?_, ?_, ?_, ?_, ?_⟩ hpos
        · intro d hd; rw [e2, up_at]; split
          · have := hL c c2; omega
          · exact hL d hd
        · intro k d v1 v2 v3 v4 v5
          have := hU k d v1 (by omega) v3 v4 v5
          rw [e2, up_at]; split
          · rename_i hdc; subst hdc; omega
          · exact this
        · intro k hk
          rw [e2, S3_up, hS k hk, h3.2, if_neg (show ¬ queue i = (k : Int) by omega)]
          by_cases hkc : c / 3 = k
          · rw [if_pos hkc, if_pos (show ((c / 3 : Nat) : Int) = (k : Int) by omega)]; omega
          · rw [if_neg hkc, if_neg (show ¬ ((c / 3 : Nat) : Int) = (k : Int) by omega)]; omega
        · intro p p1 p2
          rw [e2, PS_up (plf co su) r c2, hP p p1 p2, hphi, hphj, if_neg (show ¬ p = -1 by omega)]
          by_cases hpc : plf co su c = p
          · rw [if_pos hpc, if_pos hpc.symm]; omega
          · rw [if_neg hpc, if_neg (show ¬ p = plf co su c from fun q => hpc q.symm)]; omega
        · intro d hd; rw [e2, up_n _ _ (by omega)]; exact hF d hd
      · have h3 : queue i = ((c / 3 : Nat) : Int) ∧ queue j = 12 + co c := by rcases hc3 with h | h; omega; exact ⟨h.2.1, h.2.2.1⟩
        have hphj : phi su (queue j) = plf co su c := by
          unfold phi plf
          rw [if_neg (by omega), h3.2, show ((12 : Int) + co c - 12) = co c by omega]
        have hphi : phi su (queue i) = -1 := by unfold phi; rw [if_pos (by omega)]
        have hroom := w3 c (by omega) (by omega) hvc
        have hUi := hU i c hVi (Nat.le_refl _) (by omega) (by omega) hvc
        refine ih _ _ ⟨j, by omega, rfl, hVj, ?_, ?_, ?_, ?_, ?_⟩ hpos
        · intro d hd; rw [e2, up_at]; split
          · omega
          · exact hL d hd
        · intro k d v1 v2 v3 v4 v5
          have h7 := hU k d v1 (by omega) v3 v4 v5
          have hdc : d ≠ c := by
            intro q
            subst q
            have hkq := (hW k v1).1
            obtain ⟨k2, -, -, hc4⟩ := BM_parent hN hB hkq v4
            have : queue k = queue i := by
              rcases hc4 with ⟨d2, e1, -, -, e4 | e4⟩ | e4
              · omega
              · rw [v5] at e1; rw [e4.2.1, h3.1, show d2 = d by omega]
              · omega
            have := hB.2.2.2.1 k i hkq hi this
            omega
          rw [e2, up_n _ _ hdc]; exact h7
        · intro k hk
          rw [e2, S3_up, hS k hk, if_neg (show ¬ queue j = (k : Int) by omega)]
          by_cases hkc : c / 3 = k
          · rw [if_pos hkc, if_pos (show queue i = (k : Int) by omega)]; omega
          · rw [if_neg hkc, if_neg (show ¬ queue i = (k : Int) by omega)]; omega
        · intro p p1 p2
          rw [e2, PS_up (plf co su) r c2, hP p p1 p2, hphi, hphj, if_neg (show ¬ p = -1 by omega)]
          by_cases hpc : plf co su c = p
          · rw [if_pos hpc, if_pos hpc.symm]; omega
          · rw [if_neg hpc, if_neg (show ¬ p = plf co su c from fun q => hpc q.symm)]; omega
        · intro d hd; rw [e2, up_n _ _ (by omega)]; exact hF d hd
    · rw [j2]
      have hphi : phi su (queue i) = 9 := by unfold phi; rw [if_neg (by omega), if_pos j3]
      have hphj : phi su (queue j) = 9 := by unfold phi; rw [if_neg (by omega), if_pos j4]
      refine ⟨by unfold jR; decide, fun _ => ?_, fun h => absurd (by decide) h⟩
      refine ih _ _ ⟨j, by omega, rfl, hVj, hL, fun k d v1 v2 => hU k d v1 (by omega), fun k hk => ?_, fun p p1 p2 => ?_, hF⟩ hpos
      · rw [hS k hk, if_neg (show ¬ queue i = (k : Int) by omega), if_neg (show ¬ queue j = (k : Int) by omega)]
      · rw [hP p p1 p2, hphi, hphj]

abbrev rm_A_forgetAll : Room := { frames := 0, cells := 0, slots := 0, locals := 0 }
def wp_A_forgetAll (aBehind aAhead : Int) (Q : Int → Int → Prop) : Prop :=
  Q 0 0
abbrev rm_A_behind : Room := { frames := 0, cells := 0, slots := 0, locals := 0 }
def wp_A_behind (aBehind : Int) (Q : Int → Prop) : Prop :=
  Q aBehind
abbrev rm_A_ahead : Room := { frames := 0, cells := 0, slots := 0, locals := 0 }
def wp_A_ahead (aAhead : Int) (Q : Int → Prop) : Prop :=
  Q aAhead
abbrev rm_A_note : Room := { frames := 0, cells := 0, slots := 0, locals := 0 }
def wp_A_note (x1 x2 x3 x4 : Int) (aBehind : Int) (aCells aBefore aAfter : Nat → Int) (Q : (Nat → Int) → (Nat → Int) → (Nat → Int) → Prop) : Prop :=
  (0 ≤ ((2 * aBehind) + x1) ∧ ((2 * aBehind) + x1) < 120) ∧
  ∀ aCells_2 : Nat → Int, aCells_2 = up aCells ((2 * aBehind) + x1).toNat x2 →
  ∀ aBefore_3 : Nat → Int, aBefore_3 = up aBefore ((2 * aBehind) + x1).toNat x3 →
  ∀ aAfter_4 : Nat → Int, aAfter_4 = up aAfter ((2 * aBehind) + x1).toNat x4 →
  Q aCells_2 aBefore_3 aAfter_4
abbrev rm_A_begin : Room := { frames := 2, cells := 0, slots := 0, locals := 60 }
def wp_A_begin_38_b (K38 : Int → (Nat → Int) → (Nat → Int) → (Nat → Int) → Prop) (Q : Int → Int → (Nat → Int) → (Nat → Int) → (Nat → Int) → Prop) (aBehind : Int) (aAhead : Int) (x1 : Int) (aCells : Nat → Int) (aBefore : Nat → Int) (aAfter : Nat → Int) : Prop :=
  jR x1 ∧
  ((2 ≤ x1 →
    Q aBehind 1 aCells aBefore aAfter
  ) ∧ (¬ 2 ≤ x1 →
    wp_A_note x1 (-1) 0 0 aBehind aCells aBefore aAfter (fun aCells_3 aBefore_4 aAfter_5 =>
      K38 (x1 + 1) aCells_3 aBefore_4 aAfter_5
    )
  ))
def wp_A_begin_38 (Q : Int → Int → (Nat → Int) → (Nat → Int) → (Nat → Int) → Prop) (aBehind : Int) (aAhead : Int) : Nat → Int → (Nat → Int) → (Nat → Int) → (Nat → Int) → Prop
  | 0, _, _, _, _ => False
  | n + 1, x1, aCells, aBefore, aAfter => wp_A_begin_38_b  (wp_A_begin_38 Q aBehind aAhead n) Q  aBehind aAhead x1 aCells aBefore aAfter
def wp_A_begin (aBehind aAhead : Int) (aCells aBefore aAfter : Nat → Int) (Q : Int → Int → (Nat → Int) → (Nat → Int) → (Nat → Int) → Prop) : Prop :=
  jR aBehind ∧
  ((aBehind < 60 →
    ∃ n : Nat, wp_A_begin_38 Q aBehind aAhead n 0 aCells aBefore aAfter
  ) ∧ (¬ aBehind < 60 →
    ∀ aCells_8 : Nat → Int, aCells_8 = cpy aCells aCells 2 0 118 →
    ∀ aBefore_9 : Nat → Int, aBefore_9 = cpy aBefore aBefore 2 0 118 →
    ∀ aAfter_10 : Nat → Int, aAfter_10 = cpy aAfter aAfter 2 0 118 →
    ∃ n : Nat, wp_A_begin_38 Q 59 aAhead n 0 aCells_8 aBefore_9 aAfter_10
  ))
abbrev rm_N_drawArrows : Room := { frames := 1, cells := 0, slots := 0, locals := 23 }
def wp_N_drawArrows_10_b (K10 : Int → (Nat → Int) → Prop) (Q : (Nat → Int) → Prop) (nThirds : Int) (nCorners : Nat → Int) (x1 : Int) (nArrows : Nat → Int) : Prop :=
  jR x1 ∧
  jR nThirds ∧
  ((nThirds ≤ x1 →
    Q nArrows
  ) ∧ (¬ nThirds ≤ x1 →
    (0 ≤ (3 * x1) ∧ (3 * x1) < 36) ∧
    (0 ≤ ((3 * x1) + 1) ∧ ((3 * x1) + 1) < 36) ∧
    (0 ≤ ((3 * x1) + 2) ∧ ((3 * x1) + 2) < 36) ∧
    (0 ≤ (((nCorners (3 * x1).toNat) * 9) + (nCorners ((3 * x1) + 1).toNat)) ∧ (((nCorners (3 * x1).toNat) * 9) + (nCorners ((3 * x1) + 1).toNat)) < 81) ∧
    ∀ nArrows_8 : Nat → Int, nArrows_8 = up nArrows (((nCorners (3 * x1).toNat) * 9) + (nCorners ((3 * x1) + 1).toNat)).toNat x1 →
    (0 ≤ (((nCorners ((3 * x1) + 1).toNat) * 9) + (nCorners ((3 * x1) + 2).toNat)) ∧ (((nCorners ((3 * x1) + 1).toNat) * 9) + (nCorners ((3 * x1) + 2).toNat)) < 81) ∧
    ∀ nArrows_10 : Nat → Int, nArrows_10 = up nArrows_8 (((nCorners ((3 * x1) + 1).toNat) * 9) + (nCorners ((3 * x1) + 2).toNat)).toNat x1 →
    (0 ≤ (((nCorners ((3 * x1) + 2).toNat) * 9) + (nCorners (3 * x1).toNat)) ∧ (((nCorners ((3 * x1) + 2).toNat) * 9) + (nCorners (3 * x1).toNat)) < 81) ∧
    ∀ nArrows_12 : Nat → Int, nArrows_12 = up nArrows_10 (((nCorners ((3 * x1) + 2).toNat) * 9) + (nCorners (3 * x1).toNat)).toNat x1 →
    K10 (x1 + 1) nArrows_12
  ))
def wp_N_drawArrows_10 (Q : (Nat → Int) → Prop) (nThirds : Int) (nCorners : Nat → Int) : Nat → Int → (Nat → Int) → Prop
  | 0, _, _ => False
  | n + 1, x1, nArrows => wp_N_drawArrows_10_b  (wp_N_drawArrows_10 Q nThirds nCorners n) Q nThirds nCorners  x1 nArrows
def wp_N_drawArrows (nThirds : Int) (nCorners nArrows : Nat → Int) (Q : (Nat → Int) → Prop) : Prop :=
  ∀ nArrows_13 : Nat → Int, nArrows_13 = fillf nArrows 81 (-1) →
  ∃ n : Nat, wp_N_drawArrows_10 Q nThirds nCorners n 0 nArrows_13
abbrev rm_N_put : Room := { frames := 1, cells := 0, slots := 0, locals := 21 }
def wp_N_put (x1 x2 : Int) (nThirds : Int) (nCorners nSums : Nat → Int) (Q : Int → (Nat → Int) → (Nat → Int) → Prop) : Prop :=
  jR x1 ∧
  ((x1 < 0 →
    Q nThirds nCorners nSums
  ) ∧ (¬ x1 < 0 →
    ((x1 < 21 →
      ((x1 < 12 →
        jR x2 ∧
        ((x2 = (-1) →
          Q x1 nCorners nSums
        ) ∧ (¬ x2 = (-1) →
          (0 ≤ (3 * x1) ∧ (3 * x1) < 36) ∧
          ∀ nCorners_8 : Nat → Int, nCorners_8 = up nCorners (3 * x1).toNat (jand x2 15) →
          (0 ≤ ((3 * x1) + 1) ∧ ((3 * x1) + 1) < 36) ∧
          ∀ nCorners_10 : Nat → Int, nCorners_10 = up nCorners_8 ((3 * x1) + 1).toNat (jand (jshr x2 4) 15) →
          (0 ≤ ((3 * x1) + 2) ∧ ((3 * x1) + 2) < 36) ∧
          ∀ nCorners_12 : Nat → Int, nCorners_12 = up nCorners_10 ((3 * x1) + 2).toNat (jand (jshr x2 8) 15) →
          Q (jmax nThirds (x1 + 1)) nCorners_12 nSums
        ))
      ) ∧ (¬ x1 < 12 →
        (0 ≤ (x1 - 12) ∧ (x1 - 12) < 9) ∧
        ∀ nSums_14 : Nat → Int, nSums_14 = up nSums (x1 - 12).toNat x2 →
        Q nThirds nCorners nSums_14
      ))
    ) ∧ (¬ x1 < 21 →
      Q nThirds nCorners nSums
    ))
  ))
abbrev rm_A_putAll_a : Room := { frames := 2, cells := 0, slots := 0, locals := 47 }
def wp_A_putAll_a_2_b (K2 : Int → Int → (Nat → Int) → (Nat → Int) → Prop) (Q : Int → (Nat → Int) → (Nat → Int) → (Nat → Int) → Prop) (aBehind : Int) (aCells aAfter : Nat → Int) (nArrows : Nat → Int) (x3 : Int) (nThirds : Int) (nCorners : Nat → Int) (nSums : Nat → Int) : Prop :=
  jR x3 ∧
  ((2 ≤ x3 →
    wp_N_drawArrows nThirds nCorners nArrows (fun nArrows_3 =>
      Q nThirds nCorners nSums nArrows_3
    )
  ) ∧ (¬ 2 ≤ x3 →
    (0 ≤ ((2 * aBehind) + x3) ∧ ((2 * aBehind) + x3) < 120) ∧
    wp_N_put (aCells ((2 * aBehind) + x3).toNat) (aAfter ((2 * aBehind) + x3).toNat) nThirds nCorners nSums (fun nThirds_5 nCorners_6 nSums_7 =>
      K2 (x3 + 1) nThirds_5 nCorners_6 nSums_7
    )
  ))
def wp_A_putAll_a_2 (Q : Int → (Nat → Int) → (Nat → Int) → (Nat → Int) → Prop) (aBehind : Int) (aCells aAfter : Nat → Int) (nArrows : Nat → Int) : Nat → Int → Int → (Nat → Int) → (Nat → Int) → Prop
  | 0, _, _, _, _ => False
  | n + 1, x3, nThirds, nCorners, nSums => wp_A_putAll_a_2_b  (wp_A_putAll_a_2 Q aBehind aCells aAfter nArrows n) Q aBehind aCells aAfter nArrows x3 nThirds nCorners nSums
def wp_A_putAll_a (nThirds : Int) (nCorners nSums nArrows : Nat → Int) (aBehind : Int) (aCells aAfter : Nat → Int) (Q : Int → (Nat → Int) → (Nat → Int) → (Nat → Int) → Prop) : Prop :=
  ∃ n : Nat, wp_A_putAll_a_2 Q aBehind aCells aAfter nArrows n 0 nThirds nCorners nSums
abbrev rm_A_forward : Room := { frames := 3, cells := 0, slots := 0, locals := 71 }
def wp_A_forward (nThirds : Int) (nCorners nSums nArrows : Nat → Int) (aBehind aAhead : Int) (aCells aAfter : Nat → Int) (Q : Int → (Nat → Int) → (Nat → Int) → (Nat → Int) → Int → Int → Prop) : Prop :=
  jR aAhead ∧
  ((aAhead ≤ 0 →
    Q nThirds nCorners nSums nArrows aBehind aAhead
  ) ∧ (¬ aAhead ≤ 0 →
    wp_A_putAll_a nThirds nCorners nSums nArrows aBehind aCells aAfter (fun nThirds_3 nCorners_4 nSums_5 nArrows_6 =>
      Q nThirds_3 nCorners_4 nSums_5 nArrows_6 (aBehind + 1) (aAhead - 1)
    )
  ))
abbrev rm_A_putAll_b : Room := { frames := 2, cells := 0, slots := 0, locals := 47 }
def wp_A_putAll_b_2_b (K2 : Int → Int → (Nat → Int) → (Nat → Int) → Prop) (Q : Int → (Nat → Int) → (Nat → Int) → (Nat → Int) → Prop) (aBehind : Int) (aCells aBefore : Nat → Int) (nArrows : Nat → Int) (x3 : Int) (nThirds : Int) (nCorners : Nat → Int) (nSums : Nat → Int) : Prop :=
  jR x3 ∧
  ((2 ≤ x3 →
    wp_N_drawArrows nThirds nCorners nArrows (fun nArrows_3 =>
      Q nThirds nCorners nSums nArrows_3
    )
  ) ∧ (¬ 2 ≤ x3 →
    (0 ≤ ((2 * aBehind) + x3) ∧ ((2 * aBehind) + x3) < 120) ∧
    wp_N_put (aCells ((2 * aBehind) + x3).toNat) (aBefore ((2 * aBehind) + x3).toNat) nThirds nCorners nSums (fun nThirds_5 nCorners_6 nSums_7 =>
      K2 (x3 + 1) nThirds_5 nCorners_6 nSums_7
    )
  ))
def wp_A_putAll_b_2 (Q : Int → (Nat → Int) → (Nat → Int) → (Nat → Int) → Prop) (aBehind : Int) (aCells aBefore : Nat → Int) (nArrows : Nat → Int) : Nat → Int → Int → (Nat → Int) → (Nat → Int) → Prop
  | 0, _, _, _, _ => False
  | n + 1, x3, nThirds, nCorners, nSums => wp_A_putAll_b_2_b  (wp_A_putAll_b_2 Q aBehind aCells aBefore nArrows n) Q aBehind aCells aBefore nArrows x3 nThirds nCorners nSums
def wp_A_putAll_b (nThirds : Int) (nCorners nSums nArrows : Nat → Int) (aBehind : Int) (aCells aBefore : Nat → Int) (Q : Int → (Nat → Int) → (Nat → Int) → (Nat → Int) → Prop) : Prop :=
  ∃ n : Nat, wp_A_putAll_b_2 Q aBehind aCells aBefore nArrows n 0 nThirds nCorners nSums
abbrev rm_A_backward : Room := { frames := 3, cells := 0, slots := 0, locals := 71 }
def wp_A_backward (nThirds : Int) (nCorners nSums nArrows : Nat → Int) (aBehind aAhead : Int) (aCells aBefore : Nat → Int) (Q : Int → (Nat → Int) → (Nat → Int) → (Nat → Int) → Int → Int → Prop) : Prop :=
  jR aBehind ∧
  ((aBehind ≤ 0 →
    Q nThirds nCorners nSums nArrows aBehind aAhead
  ) ∧ (¬ aBehind ≤ 0 →
    wp_A_putAll_b nThirds nCorners nSums nArrows (aBehind - 1) aCells aBefore (fun nThirds_3 nCorners_4 nSums_5 nArrows_6 =>
      Q nThirds_3 nCorners_4 nSums_5 nArrows_6 (aBehind - 1) (aAhead + 1)
    )
  ))
abbrev rm_I_bitCount : Room := { frames := 0, cells := 0, slots := 0, locals := 0 }
def wp_I_bitCount (x0 : Int) (Q : Int → Prop) : Prop :=
  ∀ x0_1 : Int, x0_1 = (jand (x0 - (jand (jushr x0 1) 1431655765)) 858993459) + (jand (jushr (x0 - (jand (jushr x0 1) 1431655765)) 2) 858993459) →
  ∀ x0_2 : Int, x0_2 = (jand (x0_1 + (jushr x0_1 4)) 252645135) + (jushr (jand (x0_1 + (jushr x0_1 4)) 252645135) 8) →
  Q (jand (x0_2 + (jushr x0_2 16)) 63)
abbrev rm_N_thirdCount : Room := { frames := 0, cells := 0, slots := 0, locals := 0 }
def wp_N_thirdCount (nThirds : Int) (Q : Int → Prop) : Prop :=
  Q nThirds
abbrev rm_B_leastOf : Room := { frames := 1, cells := 0, slots := 0, locals := 20 }
def wp_B_leastOf_4_b (K4 : Int → Int → Prop) (Q : Int → Prop) (nThirds bStraight bLeast : Int) (bPostsOf : Nat → Int) (x1 : Int) (x2 : Int) (x3 : Int) : Prop :=
  wp_N_thirdCount nThirds (fun z_1 =>
    jR x3 ∧
    jR z_1 ∧
    ((z_1 ≤ x3 →
      Q x2
    ) ∧ (¬ z_1 ≤ x3 →
      (0 ≤ x3 ∧ x3 < 12) ∧
      wp_I_bitCount (jand (bPostsOf x3.toNat) x1) (fun z_6 =>
        jR z_6 ∧
        ((z_6 = 3 →
          K4 (x2 + bStraight) (x3 + 1)
        ) ∧ (¬ z_6 = 3 →
          K4 (x2 + (bLeast * z_6)) (x3 + 1)
        ))
      )
    ))
  )
def wp_B_leastOf_4 (Q : Int → Prop) (nThirds bStraight bLeast : Int) (bPostsOf : Nat → Int) (x1 : Int) : Nat → Int → Int → Prop
  | 0, _, _ => False
  | n + 1, x2, x3 => wp_B_leastOf_4_b  (wp_B_leastOf_4 Q nThirds bStraight bLeast bPostsOf x1 n) Q nThirds bStraight bLeast bPostsOf x1 x2 x3
def wp_B_leastOf (x1 : Int) (nThirds bStraight bLeast : Int) (bPostsOf : Nat → Int) (Q : Int → Prop) : Prop :=
  ∃ n : Nat, wp_B_leastOf_4 Q nThirds bStraight bLeast bPostsOf x1 n 0 0
abbrev rm_B_mostOf : Room := { frames := 1, cells := 0, slots := 0, locals := 20 }
def wp_B_mostOf_4_b (K4 : Int → Int → Prop) (Q : Int → Prop) (nThirds bStraight bLeast : Int) (bPostsOf : Nat → Int) (x1 : Int) (x2 : Int) (x3 : Int) : Prop :=
  wp_N_thirdCount nThirds (fun z_1 =>
    jR x3 ∧
    jR z_1 ∧
    ((z_1 ≤ x3 →
      Q x2
    ) ∧ (¬ z_1 ≤ x3 →
      (0 ≤ x3 ∧ x3 < 12) ∧
      wp_I_bitCount (jand (bPostsOf x3.toNat) x1) (fun z_6 =>
        jR z_6 ∧
        ((z_6 = 0 →
          K4 (x2 + 0) (x3 + 1)
        ) ∧ (¬ z_6 = 0 →
          K4 (x2 + (bStraight - (bLeast * (3 - z_6)))) (x3 + 1)
        ))
      )
    ))
  )
def wp_B_mostOf_4 (Q : Int → Prop) (nThirds bStraight bLeast : Int) (bPostsOf : Nat → Int) (x1 : Int) : Nat → Int → Int → Prop
  | 0, _, _ => False
  | n + 1, x2, x3 => wp_B_mostOf_4_b  (wp_B_mostOf_4 Q nThirds bStraight bLeast bPostsOf x1 n) Q nThirds bStraight bLeast bPostsOf x1 x2 x3
def wp_B_mostOf (x1 : Int) (nThirds bStraight bLeast : Int) (bPostsOf : Nat → Int) (Q : Int → Prop) : Prop :=
  ∃ n : Nat, wp_B_mostOf_4 Q nThirds bStraight bLeast bPostsOf x1 n 0 0
abbrev rm_B_roomFor : Room := { frames := 1, cells := 0, slots := 0, locals := 20 }
def wp_B_roomFor (x1 : Int) (bLeast : Int) (bSets bTotals : Nat → Int) (Q : Int → Prop) : Prop :=
  (0 ≤ (jrem x1 64) ∧ (jrem x1 64) < 128) ∧
  (0 ≤ (64 + (jdiv x1 64)) ∧ (64 + (jdiv x1 64)) < 128) ∧
  ∀ x2_3 : Int, x2_3 = jor (bSets (jrem x1 64).toNat) (bSets (64 + (jdiv x1 64)).toNat) →
  (0 ≤ x2_3 ∧ x2_3 < 512) ∧
  wp_I_bitCount x1 (fun z_5 =>
    Q ((bTotals x2_3.toNat) + ((3 * bLeast) * z_5))
  )
abbrev rm_B_isBar : Room := { frames := 2, cells := 0, slots := 0, locals := 44 }
def wp_B_isBar (x1 x2 : Int) (nThirds bStraight bLeast : Int) (bPostsOf bSets bTotals : Nat → Int) (Q : Int → Prop) : Prop :=
  jR x1 ∧
  (x1 = 0 →
    wp_I_bitCount x2 (fun z_3 =>
      wp_B_roomFor x2 bLeast bSets bTotals (fun z_4 =>
        jR (bStraight * z_3) ∧
        jR z_4 ∧
        (((bStraight * z_3) ≤ z_4 →
          Q 0
        ) ∧ (¬ (bStraight * z_3) ≤ z_4 →
          Q 1
        ))
      )
    )
  ) ∧
  (x1 = 1 →
    (0 ≤ x2 ∧ x2 < 512) ∧
    wp_B_mostOf x2 nThirds bStraight bLeast bPostsOf (fun z_9 =>
      jR (bTotals x2.toNat) ∧
      jR z_9 ∧
      (((bTotals x2.toNat) ≤ z_9 →
        Q 0
      ) ∧ (¬ (bTotals x2.toNat) ≤ z_9 →
        Q 1
      ))
    )
  ) ∧
  (¬ x1 = 0 ∧ ¬ x1 = 1 →
    (0 ≤ x2 ∧ x2 < 512) ∧
    wp_B_leastOf x2 nThirds bStraight bLeast bPostsOf (fun z_14 =>
      jR (bTotals x2.toNat) ∧
      jR z_14 ∧
      ((z_14 ≤ (bTotals x2.toNat) →
        Q 0
      ) ∧ (¬ z_14 ≤ (bTotals x2.toNat) →
        Q 1
      ))
    )
  )
abbrev rm_N_cornerCount : Room := { frames := 0, cells := 0, slots := 0, locals := 0 }
def wp_N_cornerCount (nThirds : Int) (Q : Int → Prop) : Prop :=
  Q (3 * nThirds)
abbrev rm_N_cornersAt : Room := { frames := 1, cells := 0, slots := 0, locals := 20 }
def wp_N_cornersAt_4_b (K4 : Int → Int → Prop) (Q : Int → Prop) (nThirds : Int) (nCorners : Nat → Int) (x1 : Int) (x2 : Int) (x3 : Int) : Prop :=
  wp_N_cornerCount nThirds (fun z_1 =>
    jR x3 ∧
    jR z_1 ∧
    ((z_1 ≤ x3 →
      Q x2
    ) ∧ (¬ z_1 ≤ x3 →
      (0 ≤ x3 ∧ x3 < 36) ∧
      jR (nCorners x3.toNat) ∧
      jR x1 ∧
      (((nCorners x3.toNat) = x1 →
        K4 (x2 + 1) (x3 + 1)
      ) ∧ (¬ (nCorners x3.toNat) = x1 →
        K4 x2 (x3 + 1)
      ))
    ))
  )
def wp_N_cornersAt_4 (Q : Int → Prop) (nThirds : Int) (nCorners : Nat → Int) (x1 : Int) : Nat → Int → Int → Prop
  | 0, _, _ => False
  | n + 1, x2, x3 => wp_N_cornersAt_4_b  (wp_N_cornersAt_4 Q nThirds nCorners x1 n) Q nThirds nCorners x1 x2 x3
def wp_N_cornersAt (x1 : Int) (nThirds : Int) (nCorners : Nat → Int) (Q : Int → Prop) : Prop :=
  ∃ n : Nat, wp_N_cornersAt_4 Q nThirds nCorners x1 n 0 0
abbrev rm_N_isTold : Room := { frames := 0, cells := 0, slots := 0, locals := 0 }
def wp_N_isTold (x1 : Int) (nSums : Nat → Int) (Q : Int → Prop) : Prop :=
  (0 ≤ x1 ∧ x1 < 9) ∧
  jR (nSums x1.toNat) ∧
  (((nSums x1.toNat) = (-1) →
    Q 0
  ) ∧ (¬ (nSums x1.toNat) = (-1) →
    Q 1
  ))
abbrev rm_N_postCount : Room := { frames := 0, cells := 0, slots := 0, locals := 0 }
def wp_N_postCount (nPosts : Int) (Q : Int → Prop) : Prop :=
  Q nPosts
abbrev rm_N_sumOf : Room := { frames := 0, cells := 0, slots := 0, locals := 0 }
def wp_N_sumOf (x1 : Int) (nSums : Nat → Int) (Q : Int → Prop) : Prop :=
  (0 ≤ x1 ∧ x1 < 9) ∧
  Q (nSums x1.toNat)
abbrev rm_B_lookAtPosts : Room := { frames := 2, cells := 0, slots := 0, locals := 43 }
def wp_B_lookAtPosts_82_b (K7 : Int → Int → (Nat → Int) → Prop) (K82 : Int → (Nat → Int) → Prop) (Q : Int → (Nat → Int) → Prop) (nPosts nThirds : Int) (nCorners nSums : Nat → Int) (bLeast : Int) (x1 : Int) (x2 : Int) (x3 : Int) (x4 : Int) (bTold : Int) (x5 : Int) (bTotals : Nat → Int) : Prop :=
  jR x5 ∧
  jR x3 ∧
  ((x3 ≤ x5 →
    K7 (x2 + 1) bTold bTotals
  ) ∧ (¬ x3 ≤ x5 →
    (0 ≤ x5 ∧ x5 < 512) ∧
    (0 ≤ (x3 + x5) ∧ (x3 + x5) < 512) ∧
    ∀ bTotals_6 : Nat → Int, bTotals_6 = up bTotals (x3 + x5).toNat ((bTotals x5.toNat) + x4) →
    K82 (x5 + 1) bTotals_6
  ))
def wp_B_lookAtPosts_82 (K7 : Int → Int → (Nat → Int) → Prop) (Q : Int → (Nat → Int) → Prop) (nPosts nThirds : Int) (nCorners nSums : Nat → Int) (bLeast : Int) (x1 : Int) (x2 : Int) (x3 : Int) (x4 : Int) (bTold : Int) : Nat → Int → (Nat → Int) → Prop
  | 0, _, _ => False
  | n + 1, x5, bTotals => wp_B_lookAtPosts_82_b K7 (wp_B_lookAtPosts_82 K7 Q nPosts nThirds nCorners nSums bLeast x1 x2 x3 x4 bTold n) Q nPosts nThirds nCorners nSums bLeast x1 x2 x3 x4 bTold x5 bTotals
def wp_B_lookAtPosts_51 (K7 : Int → Int → (Nat → Int) → Prop) (Q : Int → (Nat → Int) → Prop) (nPosts nThirds : Int) (nCorners nSums : Nat → Int) (bLeast : Int) (x1 : Int) (x2 : Int) (x3 : Int) (t0 : Int) (t1 : Int) (bTold : Int) (bTotals : Nat → Int) : Prop :=
  wp_N_isTold x2 nSums (fun z_7 =>
    jR z_7 ∧
    ((z_7 = 0 →
      ∃ n : Nat, wp_B_lookAtPosts_82 K7 Q nPosts nThirds nCorners nSums bLeast x1 x2 x3 (t0 - t1) (jor bTold 0) n 0 bTotals
    ) ∧ (¬ z_7 = 0 →
      ∃ n : Nat, wp_B_lookAtPosts_82 K7 Q nPosts nThirds nCorners nSums bLeast x1 x2 x3 (t0 - t1) (jor bTold x3) n 0 bTotals
    ))
  )
def wp_B_lookAtPosts_7_b (K7 : Int → Int → (Nat → Int) → Prop) (Q : Int → (Nat → Int) → Prop) (nPosts nThirds : Int) (nCorners nSums : Nat → Int) (bLeast : Int) (x1 : Int) (x2 : Int) (bTold : Int) (bTotals : Nat → Int) : Prop :=
  wp_N_postCount nPosts (fun z_10 =>
    jR x2 ∧
    jR z_10 ∧
    ((z_10 ≤ x2 →
      Q bTold bTotals
    ) ∧ (¬ z_10 ≤ x2 →
      wp_N_sumOf x2 nSums (fun z_14 =>
        jR x1 ∧
        ((x1 = 0 →
          wp_N_cornersAt x2 nThirds nCorners (fun z_17 =>
            wp_B_lookAtPosts_51 K7 Q nPosts nThirds nCorners nSums bLeast x1 x2 (jshl 1 x2) z_14 (bLeast * z_17) bTold bTotals
          )
        ) ∧ (¬ x1 = 0 →
          wp_B_lookAtPosts_51 K7 Q nPosts nThirds nCorners nSums bLeast x1 x2 (jshl 1 x2) z_14 0 bTold bTotals
        ))
      )
    ))
  )
def wp_B_lookAtPosts_7 (Q : Int → (Nat → Int) → Prop) (nPosts nThirds : Int) (nCorners nSums : Nat → Int) (bLeast : Int) (x1 : Int) : Nat → Int → Int → (Nat → Int) → Prop
  | 0, _, _, _ => False
  | n + 1, x2, bTold, bTotals => wp_B_lookAtPosts_7_b  (wp_B_lookAtPosts_7 Q nPosts nThirds nCorners nSums bLeast x1 n) Q nPosts nThirds nCorners nSums bLeast x1 x2 bTold bTotals
def wp_B_lookAtPosts (x1 : Int) (nPosts nThirds : Int) (nCorners nSums : Nat → Int) (bTold bLeast : Int) (bTotals : Nat → Int) (Q : Int → (Nat → Int) → Prop) : Prop :=
  ∃ n : Nat, wp_B_lookAtPosts_7 Q nPosts nThirds nCorners nSums bLeast x1 n 0 0 bTotals
abbrev rm_N_postOf : Room := { frames := 0, cells := 0, slots := 0, locals := 0 }
def wp_N_postOf (x1 : Int) (nCorners : Nat → Int) (Q : Int → Prop) : Prop :=
  (0 ≤ x1 ∧ x1 < 36) ∧
  Q (nCorners x1.toNat)
abbrev rm_B_lookAtThirds : Room := { frames := 1, cells := 0, slots := 0, locals := 21 }
def wp_B_lookAtThirds_84_b (K2 : Int → (Nat → Int) → (Nat → Int) → Prop) (K84 : Int → (Nat → Int) → Prop) (Q : (Nat → Int) → (Nat → Int) → Prop) (nThirds : Int) (nCorners : Nat → Int) (x1 : Int) (x2 : Int) (x3 : Int) (bPostsOf : Nat → Int) (x4 : Int) (bSets : Nat → Int) : Prop :=
  jR x4 ∧
  jR x3 ∧
  ((x3 ≤ x4 →
    K2 (x1 + 1) bPostsOf bSets
  ) ∧ (¬ x3 ≤ x4 →
    (0 ≤ (x2 + x4) ∧ (x2 + x4) < 128) ∧
    (0 ≤ x1 ∧ x1 < 12) ∧
    (0 ≤ ((x2 + x3) + x4) ∧ ((x2 + x3) + x4) < 128) ∧
    ∀ bSets_7 : Nat → Int, bSets_7 = up bSets ((x2 + x3) + x4).toNat (jor (bSets (x2 + x4).toNat) (bPostsOf x1.toNat)) →
    K84 (x4 + 1) bSets_7
  ))
def wp_B_lookAtThirds_84 (K2 : Int → (Nat → Int) → (Nat → Int) → Prop) (Q : (Nat → Int) → (Nat → Int) → Prop) (nThirds : Int) (nCorners : Nat → Int) (x1 : Int) (x2 : Int) (x3 : Int) (bPostsOf : Nat → Int) : Nat → Int → (Nat → Int) → Prop
  | 0, _, _ => False
  | n + 1, x4, bSets => wp_B_lookAtThirds_84_b K2 (wp_B_lookAtThirds_84 K2 Q nThirds nCorners x1 x2 x3 bPostsOf n) Q nThirds nCorners x1 x2 x3 bPostsOf x4 bSets
def wp_B_lookAtThirds_2_b (K2 : Int → (Nat → Int) → (Nat → Int) → Prop) (Q : (Nat → Int) → (Nat → Int) → Prop) (nThirds : Int) (nCorners : Nat → Int) (x1 : Int) (bPostsOf : Nat → Int) (bSets : Nat → Int) : Prop :=
  wp_N_thirdCount nThirds (fun z_8 =>
    jR x1 ∧
    jR z_8 ∧
    ((z_8 ≤ x1 →
      Q bPostsOf bSets
    ) ∧ (¬ z_8 ≤ x1 →
      wp_N_postOf (3 * x1) nCorners (fun z_12 =>
        wp_N_postOf ((3 * x1) + 1) nCorners (fun z_13 =>
          wp_N_postOf ((3 * x1) + 2) nCorners (fun z_14 =>
            (0 ≤ x1 ∧ x1 < 12) ∧
            ∀ bPostsOf_16 : Nat → Int, bPostsOf_16 = up bPostsOf x1.toNat (jor (jor (jshl 1 z_12) (jshl 1 z_13)) (jshl 1 z_14)) →
            ((6 ≤ x1 →
              ∃ n : Nat, wp_B_lookAtThirds_84 K2 Q nThirds nCorners x1 64 (jshl 1 (jrem x1 6)) bPostsOf_16 n 0 bSets
            ) ∧ (¬ 6 ≤ x1 →
              ∃ n : Nat, wp_B_lookAtThirds_84 K2 Q nThirds nCorners x1 0 (jshl 1 (jrem x1 6)) bPostsOf_16 n 0 bSets
            ))
          )
        )
      )
    ))
  )
def wp_B_lookAtThirds_2 (Q : (Nat → Int) → (Nat → Int) → Prop) (nThirds : Int) (nCorners : Nat → Int) : Nat → Int → (Nat → Int) → (Nat → Int) → Prop
  | 0, _, _, _ => False
  | n + 1, x1, bPostsOf, bSets => wp_B_lookAtThirds_2_b  (wp_B_lookAtThirds_2 Q nThirds nCorners n) Q nThirds nCorners  x1 bPostsOf bSets
def wp_B_lookAtThirds (nThirds : Int) (nCorners bPostsOf bSets : Nat → Int) (Q : (Nat → Int) → (Nat → Int) → Prop) : Prop :=
  ∃ n : Nat, wp_B_lookAtThirds_2 Q nThirds nCorners n 0 bPostsOf bSets
abbrev rm_B_thirdsAtToldPosts : Room := { frames := 1, cells := 0, slots := 0, locals := 20 }
def wp_B_thirdsAtToldPosts_4_b (K4 : Int → Int → Prop) (Q : Int → Prop) (nThirds bTold : Int) (bPostsOf : Nat → Int) (x1 : Int) (x2 : Int) : Prop :=
  wp_N_thirdCount nThirds (fun z_1 =>
    jR x2 ∧
    jR z_1 ∧
    ((z_1 ≤ x2 →
      Q x1
    ) ∧ (¬ z_1 ≤ x2 →
      (0 ≤ x2 ∧ x2 < 12) ∧
      jR (jand (bPostsOf x2.toNat) (jxor bTold (-1))) ∧
      (((jand (bPostsOf x2.toNat) (jxor bTold (-1))) = 0 →
        K4 (jor x1 (jshl 1 x2)) (x2 + 1)
      ) ∧ (¬ (jand (bPostsOf x2.toNat) (jxor bTold (-1))) = 0 →
        K4 (jor x1 0) (x2 + 1)
      ))
    ))
  )
def wp_B_thirdsAtToldPosts_4 (Q : Int → Prop) (nThirds bTold : Int) (bPostsOf : Nat → Int) : Nat → Int → Int → Prop
  | 0, _, _ => False
  | n + 1, x1, x2 => wp_B_thirdsAtToldPosts_4_b  (wp_B_thirdsAtToldPosts_4 Q nThirds bTold bPostsOf n) Q nThirds bTold bPostsOf  x1 x2
def wp_B_thirdsAtToldPosts (nThirds bTold : Int) (bPostsOf : Nat → Int) (Q : Int → Prop) : Prop :=
  ∃ n : Nat, wp_B_thirdsAtToldPosts_4 Q nThirds bTold bPostsOf n 0 0
abbrev rm_B_fewest : Room := { frames := 3, cells := 0, slots := 0, locals := 68 }
def wp_B_fewest_72 (K42 : Int → Int → Prop) (Q : Int → Int → Int → Int → (Nat → Int) → (Nat → Int) → (Nat → Int) → Prop) (nThirds : Int) (x1 : Int) (x4 : Int) (bTold : Int) (bStraight : Int) (bLeast : Int) (bPostsOf : Nat → Int) (bSets : Nat → Int) (bTotals : Nat → Int) (x5 : Int) (x6 : Int) (t0 : Int) : Prop :=
  jR t0 ∧
  ((t0 = 0 →
    K42 x5 (x6 + 1)
  ) ∧ (¬ t0 = 0 →
    jR (jand x6 (jxor x4 (-1))) ∧
    (((jand x6 (jxor x4 (-1))) = 0 →
      wp_B_isBar x1 x6 nThirds bStraight bLeast bPostsOf bSets bTotals (fun z_5 =>
        jR z_5 ∧
        ((z_5 = 0 →
          K42 x5 (x6 + 1)
        ) ∧ (¬ z_5 = 0 →
          K42 x6 (x6 + 1)
        ))
      )
    ) ∧ (¬ (jand x6 (jxor x4 (-1))) = 0 →
      K42 x5 (x6 + 1)
    ))
  ))
def wp_B_fewest_42_b (K42 : Int → Int → Prop) (Q : Int → Int → Int → Int → (Nat → Int) → (Nat → Int) → (Nat → Int) → Prop) (nThirds : Int) (x1 : Int) (x4 : Int) (bTold : Int) (bStraight : Int) (bLeast : Int) (bPostsOf : Nat → Int) (bSets : Nat → Int) (bTotals : Nat → Int) (x5 : Int) (x6 : Int) : Prop :=
  jR x6 ∧
  jR x4 ∧
  ((x4 < x6 →
    Q x5 bTold bStraight bLeast bPostsOf bSets bTotals
  ) ∧ (¬ x4 < x6 →
    jR x5 ∧
    ((x5 = 0 →
      wp_B_fewest_72 K42 Q nThirds x1 x4 bTold bStraight bLeast bPostsOf bSets bTotals x5 x6 1
    ) ∧ (¬ x5 = 0 →
      wp_I_bitCount x6 (fun z_13 =>
        wp_I_bitCount x5 (fun z_14 =>
          jR z_13 ∧
          jR z_14 ∧
          ((z_14 ≤ z_13 →
            wp_B_fewest_72 K42 Q nThirds x1 x4 bTold bStraight bLeast bPostsOf bSets bTotals x5 x6 0
          ) ∧ (¬ z_14 ≤ z_13 →
            wp_B_fewest_72 K42 Q nThirds x1 x4 bTold bStraight bLeast bPostsOf bSets bTotals x5 x6 1
          ))
        )
      )
    ))
  ))
def wp_B_fewest_42 (Q : Int → Int → Int → Int → (Nat → Int) → (Nat → Int) → (Nat → Int) → Prop) (nThirds : Int) (x1 : Int) (x4 : Int) (bTold : Int) (bStraight : Int) (bLeast : Int) (bPostsOf : Nat → Int) (bSets : Nat → Int) (bTotals : Nat → Int) : Nat → Int → Int → Prop
  | 0, _, _ => False
  | n + 1, x5, x6 => wp_B_fewest_42_b  (wp_B_fewest_42 Q nThirds x1 x4 bTold bStraight bLeast bPostsOf bSets bTotals n) Q nThirds x1 x4 bTold bStraight bLeast bPostsOf bSets bTotals x5 x6
def wp_B_fewest (x1 x2 x3 : Int) (nPosts nThirds : Int) (nCorners nSums : Nat → Int) (bTold bStraight bLeast : Int) (bPostsOf bSets bTotals : Nat → Int) (Q : Int → Int → Int → Int → (Nat → Int) → (Nat → Int) → (Nat → Int) → Prop) : Prop :=
  wp_B_lookAtPosts x1 nPosts nThirds nCorners nSums bTold x3 bTotals (fun bTold_18 bTotals_19 =>
    wp_B_lookAtThirds nThirds nCorners bPostsOf bSets (fun bPostsOf_20 bSets_21 =>
      jR x1 ∧
      ((x1 = 0 →
        wp_B_thirdsAtToldPosts nThirds bTold_18 bPostsOf_20 (fun z_24 =>
          ∃ n : Nat, wp_B_fewest_42 Q nThirds x1 z_24 bTold_18 x2 x3 bPostsOf_20 bSets_21 bTotals_19 n 0 1
        )
      ) ∧ (¬ x1 = 0 →
        ∃ n : Nat, wp_B_fewest_42 Q nThirds x1 bTold_18 bTold_18 x2 x3 bPostsOf_20 bSets_21 bTotals_19 n 0 1
      ))
    )
  )
abbrev rm_G_forgetRow : Room := { frames := 0, cells := 0, slots := 0, locals := 0 }
def wp_G_forgetRow (gFresh : Int) (Q : Int → Prop) : Prop :=
  Q 0
abbrev rm_G_given : Room := { frames := 0, cells := 0, slots := 0, locals := 0 }
def wp_G_given (x1 : Int) (gRow : Nat → Int) (Q : Int → Prop) : Prop :=
  (0 ≤ x1 ∧ x1 < 36) ∧
  Q (gRow x1.toNat)
abbrev rm_G_givenAt : Room := { frames := 1, cells := 0, slots := 0, locals := 21 }
def wp_G_givenAt_4_b (K4 : Int → Int → Prop) (Q : Int → Prop) (nCorners : Nat → Int) (gCorners : Int) (gRow : Nat → Int) (x1 : Int) (x2 : Int) (x3 : Int) : Prop :=
  jR x3 ∧
  jR gCorners ∧
  ((gCorners ≤ x3 →
    Q x2
  ) ∧ (¬ gCorners ≤ x3 →
    wp_N_postOf x3 nCorners (fun z_4 =>
      jR z_4 ∧
      jR x1 ∧
      ((z_4 = x1 →
        (0 ≤ x3 ∧ x3 < 36) ∧
        K4 (x2 + (gRow x3.toNat)) (x3 + 1)
      ) ∧ (¬ z_4 = x1 →
        K4 x2 (x3 + 1)
      ))
    )
  ))
def wp_G_givenAt_4 (Q : Int → Prop) (nCorners : Nat → Int) (gCorners : Int) (gRow : Nat → Int) (x1 : Int) : Nat → Int → Int → Prop
  | 0, _, _ => False
  | n + 1, x2, x3 => wp_G_givenAt_4_b  (wp_G_givenAt_4 Q nCorners gCorners gRow x1 n) Q nCorners gCorners gRow x1 x2 x3
def wp_G_givenAt (x1 : Int) (nCorners : Nat → Int) (gCorners : Int) (gRow : Nat → Int) (Q : Int → Prop) : Prop :=
  ∃ n : Nat, wp_G_givenAt_4 Q nCorners gCorners gRow x1 n 0 0
abbrev rm_G_begin : Room := { frames := 1, cells := 0, slots := 0, locals := 21 }
def wp_G_begin_65 (K23 : Int → (Nat → Int) → (Nat → Int) → Prop) (Q : Int → Int → Int → (Nat → Int) → (Nat → Int) → Prop) (nCorners nSums : Nat → Int) (x1 : Int) (x2 : Int) (gCorners : Int) (gLowest : Int) (gFirst : Int) (x3 : Int) (t1 : Int) (t2 : Int) (gRow : Nat → Int) (gPlaces : Nat → Int) : Prop :=
  (0 ≤ t1 ∧ t1 < 36) ∧
  ∀ gPlaces_2 : Nat → Int, gPlaces_2 = up gPlaces t1.toNat t2 →
  jR (jrem x3 3) ∧
  (((jrem x3 3) = 2 →
    (0 ≤ x3 ∧ x3 < 36) ∧
    ∀ gRow_8 : Nat → Int, gRow_8 = up gRow x3.toNat (x1 - (2 * x2)) →
    K23 (x3 + 1) gRow_8 gPlaces_2
  ) ∧ (¬ (jrem x3 3) = 2 →
    (0 ≤ x3 ∧ x3 < 36) ∧
    ∀ gRow_6 : Nat → Int, gRow_6 = up gRow x3.toNat x2 →
    K23 (x3 + 1) gRow_6 gPlaces_2
  ))
def wp_G_begin_23_b (K23 : Int → (Nat → Int) → (Nat → Int) → Prop) (Q : Int → Int → Int → (Nat → Int) → (Nat → Int) → Prop) (nCorners nSums : Nat → Int) (x1 : Int) (x2 : Int) (gCorners : Int) (gLowest : Int) (gFirst : Int) (x3 : Int) (gRow : Nat → Int) (gPlaces : Nat → Int) : Prop :=
  jR x3 ∧
  jR gCorners ∧
  ((gCorners ≤ x3 →
    Q gCorners gLowest gFirst gRow gPlaces
  ) ∧ (¬ gCorners ≤ x3 →
    wp_N_postOf x3 nCorners (fun z_12 =>
      wp_N_isTold z_12 nSums (fun z_13 =>
        jR z_13 ∧
        ((z_13 = 0 →
          wp_G_begin_65 K23 Q nCorners nSums x1 x2 gCorners gLowest gFirst x3 x3 9 gRow gPlaces
        ) ∧ (¬ z_13 = 0 →
          wp_G_begin_65 K23 Q nCorners nSums x1 x2 gCorners gLowest gFirst x3 x3 z_12 gRow gPlaces
        ))
      )
    )
  ))
def wp_G_begin_23 (Q : Int → Int → Int → (Nat → Int) → (Nat → Int) → Prop) (nCorners nSums : Nat → Int) (x1 : Int) (x2 : Int) (gCorners : Int) (gLowest : Int) (gFirst : Int) : Nat → Int → (Nat → Int) → (Nat → Int) → Prop
  | 0, _, _, _ => False
  | n + 1, x3, gRow, gPlaces => wp_G_begin_23_b  (wp_G_begin_23 Q nCorners nSums x1 x2 gCorners gLowest gFirst n) Q nCorners nSums x1 x2 gCorners gLowest gFirst x3 gRow gPlaces
def wp_G_begin (x1 x2 : Int) (nThirds : Int) (nCorners nSums : Nat → Int) (gCorners gLowest gFirst : Int) (gRow gPlaces : Nat → Int) (Q : Int → Int → Int → (Nat → Int) → (Nat → Int) → Prop) : Prop :=
  wp_N_cornerCount nThirds (fun z_16 =>
    ∃ n : Nat, wp_G_begin_23 Q nCorners nSums x1 x2 z_16 x2 0 n 0 gRow gPlaces
  )
abbrev rm_G_nodeBefore : Room := { frames := 0, cells := 0, slots := 0, locals := 0 }
def wp_G_nodeBefore (x1 : Int) (gPlaces gVia : Nat → Int) (Q : Int → Prop) : Prop :=
  (0 ≤ x1 ∧ x1 < 22) ∧
  jR x1 ∧
  ((x1 < 10 →
    Q (10 + (jdiv (gVia x1.toNat) 3))
  ) ∧ (¬ x1 < 10 →
    (0 ≤ (gVia x1.toNat) ∧ (gVia x1.toNat) < 36) ∧
    Q (gPlaces (gVia x1.toNat).toNat)
  ))
abbrev rm_G_seeFromPost : Room := { frames := 0, cells := 0, slots := 0, locals := 0 }
def wp_G_seeFromPost_8_b (K8 : Int → Int → (Nat → Int) → (Nat → Int) → Prop) (Q : Int → (Nat → Int) → (Nat → Int) → Prop) (gCorners gLowest : Int) (gRow gPlaces : Nat → Int) (x1 : Int) (x3 : Int) (x4 : Int) (gVia : Nat → Int) (gQueue : Nat → Int) : Prop :=
  jR x4 ∧
  jR gCorners ∧
  ((gCorners ≤ x4 →
    Q x3 gVia gQueue
  ) ∧ (¬ gCorners ≤ x4 →
    (0 ≤ x4 ∧ x4 < 36) ∧
    jR (gPlaces x4.toNat) ∧
    jR x1 ∧
    (((gPlaces x4.toNat) = x1 →
      jR (gRow x4.toNat) ∧
      jR gLowest ∧
      (((gRow x4.toNat) ≤ gLowest →
        K8 x3 (x4 + 1) gVia gQueue
      ) ∧ (¬ (gRow x4.toNat) ≤ gLowest →
        (0 ≤ (10 + (jdiv x4 3)) ∧ (10 + (jdiv x4 3)) < 22) ∧
        jR (gVia (10 + (jdiv x4 3)).toNat) ∧
        (((gVia (10 + (jdiv x4 3)).toNat) = (-1) →
          ∀ gVia_14 : Nat → Int, gVia_14 = up gVia (10 + (jdiv x4 3)).toNat x4 →
          (0 ≤ x3 ∧ x3 < 22) ∧
          ∀ gQueue_16 : Nat → Int, gQueue_16 = up gQueue x3.toNat (10 + (jdiv x4 3)) →
          K8 (x3 + 1) (x4 + 1) gVia_14 gQueue_16
        ) ∧ (¬ (gVia (10 + (jdiv x4 3)).toNat) = (-1) →
          K8 x3 (x4 + 1) gVia gQueue
        ))
      ))
    ) ∧ (¬ (gPlaces x4.toNat) = x1 →
      K8 x3 (x4 + 1) gVia gQueue
    ))
  ))
def wp_G_seeFromPost_8 (Q : Int → (Nat → Int) → (Nat → Int) → Prop) (gCorners gLowest : Int) (gRow gPlaces : Nat → Int) (x1 : Int) : Nat → Int → Int → (Nat → Int) → (Nat → Int) → Prop
  | 0, _, _, _, _ => False
  | n + 1, x3, x4, gVia, gQueue => wp_G_seeFromPost_8_b  (wp_G_seeFromPost_8 Q gCorners gLowest gRow gPlaces x1 n) Q gCorners gLowest gRow gPlaces x1 x3 x4 gVia gQueue
def wp_G_seeFromPost (x1 x2 : Int) (gCorners gLowest gFirst : Int) (gRow gPlaces gVia gQueue : Nat → Int) (Q : Int → (Nat → Int) → (Nat → Int) → Prop) : Prop :=
  ∃ n : Nat, wp_G_seeFromPost_8 Q gCorners gLowest gRow gPlaces x1 n x2 gFirst gVia gQueue
abbrev rm_G_seeFromThird : Room := { frames := 1, cells := 0, slots := 0, locals := 21 }
def wp_G_seeFromThird_21_b (K21 : Int → Int → (Nat → Int) → (Nat → Int) → Prop) (Q : Int → (Nat → Int) → (Nat → Int) → Prop) (gPlaces : Nat → Int) (x4 : Int) (x3 : Int) (x5 : Int) (gVia : Nat → Int) (gQueue : Nat → Int) : Prop :=
  jR x5 ∧
  jR (x4 + 3) ∧
  (((x4 + 3) ≤ x5 →
    Q x3 gVia gQueue
  ) ∧ (¬ (x4 + 3) ≤ x5 →
    (0 ≤ x5 ∧ x5 < 36) ∧
    (0 ≤ (gPlaces x5.toNat) ∧ (gPlaces x5.toNat) < 22) ∧
    jR (gVia (gPlaces x5.toNat).toNat) ∧
    (((gVia (gPlaces x5.toNat).toNat) = (-1) →
      ∀ gVia_8 : Nat → Int, gVia_8 = up gVia (gPlaces x5.toNat).toNat x5 →
      (0 ≤ x3 ∧ x3 < 22) ∧
      ∀ gQueue_10 : Nat → Int, gQueue_10 = up gQueue x3.toNat (gPlaces x5.toNat) →
      K21 (x3 + 1) (x5 + 1) gVia_8 gQueue_10
    ) ∧ (¬ (gVia (gPlaces x5.toNat).toNat) = (-1) →
      K21 x3 (x5 + 1) gVia gQueue
    ))
  ))
def wp_G_seeFromThird_21 (Q : Int → (Nat → Int) → (Nat → Int) → Prop) (gPlaces : Nat → Int) (x4 : Int) : Nat → Int → Int → (Nat → Int) → (Nat → Int) → Prop
  | 0, _, _, _, _ => False
  | n + 1, x3, x5, gVia, gQueue => wp_G_seeFromThird_21_b  (wp_G_seeFromThird_21 Q gPlaces x4 n) Q gPlaces x4 x3 x5 gVia gQueue
def wp_G_seeFromThird (x1 x2 : Int) (gFirst : Int) (gPlaces gVia gQueue : Nat → Int) (Q : Int → (Nat → Int) → (Nat → Int) → Prop) : Prop :=
  ∃ n : Nat, wp_G_seeFromThird_21 Q gPlaces (3 * (x1 - 10)) n x2 (jmax (3 * (x1 - 10)) gFirst) gVia gQueue
abbrev rm_G_reaches : Room := { frames := 2, cells := 0, slots := 0, locals := 47 }
def wp_G_reaches_28_b (K28 : Int → Int → (Nat → Int) → (Nat → Int) → Prop) (Q : Int → (Nat → Int) → (Nat → Int) → Prop) (gCorners gLowest gFirst : Int) (gRow gPlaces : Nat → Int) (x2 : Int) (x3 : Int) (x4 : Int) (gVia : Nat → Int) (gQueue : Nat → Int) : Prop :=
  jR x4 ∧
  ((22 ≤ x4 →
    (0 ≤ x2 ∧ x2 < 22) ∧
    jR (gVia x2.toNat) ∧
    (((gVia x2.toNat) = (-1) →
      Q 0 gVia gQueue
    ) ∧ (¬ (gVia x2.toNat) = (-1) →
      Q 1 gVia gQueue
    ))
  ) ∧ (¬ 22 ≤ x4 →
    jR x3 ∧
    ((x3 ≤ x4 →
      (0 ≤ x2 ∧ x2 < 22) ∧
      jR (gVia x2.toNat) ∧
      (((gVia x2.toNat) = (-1) →
        Q 0 gVia gQueue
      ) ∧ (¬ (gVia x2.toNat) = (-1) →
        Q 1 gVia gQueue
      ))
    ) ∧ (¬ x3 ≤ x4 →
      (0 ≤ x2 ∧ x2 < 22) ∧
      jR (gVia x2.toNat) ∧
      (((gVia x2.toNat) = (-1) →
        (0 ≤ x4 ∧ x4 < 22) ∧
        jR (gQueue x4.toNat) ∧
        (((gQueue x4.toNat) < 10 →
          wp_G_seeFromPost (gQueue x4.toNat) x3 gCorners gLowest gFirst gRow gPlaces gVia gQueue (fun z_18 gVia_19 gQueue_20 =>
            K28 z_18 (x4 + 1) gVia_19 gQueue_20
          )
        ) ∧ (¬ (gQueue x4.toNat) < 10 →
          wp_G_seeFromThird (gQueue x4.toNat) x3 gFirst gPlaces gVia gQueue (fun z_21 gVia_22 gQueue_23 =>
            K28 z_21 (x4 + 1) gVia_22 gQueue_23
          )
        ))
      ) ∧ (¬ (gVia x2.toNat) = (-1) →
        (((gVia x2.toNat) = (-1) →
          Q 0 gVia gQueue
        ) ∧ (¬ (gVia x2.toNat) = (-1) →
          Q 1 gVia gQueue
        ))
      ))
    ))
  ))
def wp_G_reaches_28 (Q : Int → (Nat → Int) → (Nat → Int) → Prop) (gCorners gLowest gFirst : Int) (gRow gPlaces : Nat → Int) (x2 : Int) : Nat → Int → Int → (Nat → Int) → (Nat → Int) → Prop
  | 0, _, _, _, _ => False
  | n + 1, x3, x4, gVia, gQueue => wp_G_reaches_28_b  (wp_G_reaches_28 Q gCorners gLowest gFirst gRow gPlaces x2 n) Q gCorners gLowest gFirst gRow gPlaces x2 x3 x4 gVia gQueue
def wp_G_reaches (x1 x2 : Int) (gCorners gLowest gFirst : Int) (gRow gPlaces gVia gQueue : Nat → Int) (Q : Int → (Nat → Int) → (Nat → Int) → Prop) : Prop :=
  ∀ gVia_24 : Nat → Int, gVia_24 = fillf gVia 22 (-1) →
  (0 ≤ x1 ∧ x1 < 22) ∧
  ∀ gVia_26 : Nat → Int, gVia_26 = up gVia_24 x1.toNat (-2) →
  ∀ gQueue_27 : Nat → Int, gQueue_27 = up gQueue (0 : Int).toNat x1 →
  ∃ n : Nat, wp_G_reaches_28 Q gCorners gLowest gFirst gRow gPlaces x2 n 1 0 gVia_26 gQueue_27
abbrev rm_G_push : Room := { frames := 3, cells := 0, slots := 0, locals := 72 }
def wp_G_push_84_b (K84 : Int → Int → (Nat → Int) → Prop) (Q : Int → (Nat → Int) → (Nat → Int) → (Nat → Int) → Prop) (gPlaces : Nat → Int) (x1 : Int) (x4 : Int) (gVia : Nat → Int) (gQueue : Nat → Int) (x5 : Int) (x6 : Int) (gRow : Nat → Int) : Prop :=
  jR x6 ∧
  ((22 ≤ x6 →
    Q x4 gRow gVia gQueue
  ) ∧ (¬ 22 ≤ x6 →
    jR x5 ∧
    jR x1 ∧
    ((x5 = x1 →
      Q x4 gRow gVia gQueue
    ) ∧ (¬ x5 = x1 →
      (0 ≤ x5 ∧ x5 < 22) ∧
      (0 ≤ (gVia x5.toNat) ∧ (gVia x5.toNat) < 36) ∧
      ((x5 < 10 →
        ∀ gRow_9 : Nat → Int, gRow_9 = up gRow (gVia x5.toNat).toNat ((gRow (gVia x5.toNat).toNat) + x4) →
        wp_G_nodeBefore x5 gPlaces gVia (fun z_10 =>
          K84 z_10 (x6 + 1) gRow_9
        )
      ) ∧ (¬ x5 < 10 →
        ∀ gRow_11 : Nat → Int, gRow_11 = up gRow (gVia x5.toNat).toNat ((gRow (gVia x5.toNat).toNat) + (-x4)) →
        wp_G_nodeBefore x5 gPlaces gVia (fun z_12 =>
          K84 z_12 (x6 + 1) gRow_11
        )
      ))
    ))
  ))
def wp_G_push_84 (Q : Int → (Nat → Int) → (Nat → Int) → (Nat → Int) → Prop) (gPlaces : Nat → Int) (x1 : Int) (x4 : Int) (gVia : Nat → Int) (gQueue : Nat → Int) : Nat → Int → Int → (Nat → Int) → Prop
  | 0, _, _, _ => False
  | n + 1, x5, x6, gRow => wp_G_push_84_b  (wp_G_push_84 Q gPlaces x1 x4 gVia gQueue n) Q gPlaces x1 x4 gVia gQueue x5 x6 gRow
def wp_G_push_20_b (K20 : Int → Int → Int → Prop) (Q : Int → (Nat → Int) → (Nat → Int) → (Nat → Int) → Prop) (gLowest : Int) (gPlaces : Nat → Int) (x1 : Int) (x2 : Int) (gRow : Nat → Int) (gVia : Nat → Int) (gQueue : Nat → Int) (x4 : Int) (x5 : Int) (x6 : Int) : Prop :=
  jR x6 ∧
  ((22 ≤ x6 →
    ∃ n : Nat, wp_G_push_84 Q gPlaces x1 x4 gVia gQueue n x2 0 gRow
  ) ∧ (¬ 22 ≤ x6 →
    jR x5 ∧
    jR x1 ∧
    ((x5 = x1 →
      ∃ n : Nat, wp_G_push_84 Q gPlaces x1 x4 gVia gQueue n x2 0 gRow
    ) ∧ (¬ x5 = x1 →
      ((x5 < 10 →
        wp_G_nodeBefore x5 gPlaces gVia (fun z_19 =>
          K20 x4 z_19 (x6 + 1)
        )
      ) ∧ (¬ x5 < 10 →
        (0 ≤ x5 ∧ x5 < 22) ∧
        (0 ≤ (gVia x5.toNat) ∧ (gVia x5.toNat) < 36) ∧
        wp_G_nodeBefore x5 gPlaces gVia (fun z_22 =>
          K20 (jmin x4 ((gRow (gVia x5.toNat).toNat) - gLowest)) z_22 (x6 + 1)
        )
      ))
    ))
  ))
def wp_G_push_20 (Q : Int → (Nat → Int) → (Nat → Int) → (Nat → Int) → Prop) (gLowest : Int) (gPlaces : Nat → Int) (x1 : Int) (x2 : Int) (gRow : Nat → Int) (gVia : Nat → Int) (gQueue : Nat → Int) : Nat → Int → Int → Int → Prop
  | 0, _, _, _ => False
  | n + 1, x4, x5, x6 => wp_G_push_20_b  (wp_G_push_20 Q gLowest gPlaces x1 x2 gRow gVia gQueue n) Q gLowest gPlaces x1 x2 gRow gVia gQueue x4 x5 x6
def wp_G_push (x1 x2 x3 : Int) (gCorners gLowest gFirst : Int) (gRow gPlaces gVia gQueue : Nat → Int) (Q : Int → (Nat → Int) → (Nat → Int) → (Nat → Int) → Prop) : Prop :=
  wp_G_reaches x1 x2 gCorners gLowest gFirst gRow gPlaces gVia gQueue (fun z_23 gVia_24 gQueue_25 =>
    jR z_23 ∧
    ((z_23 = 0 →
      Q 0 gRow gVia_24 gQueue_25
    ) ∧ (¬ z_23 = 0 →
      ∃ n : Nat, wp_G_push_20 Q gLowest gPlaces x1 x2 gRow gVia_24 gQueue_25 n x3 x2 0
    ))
  )
abbrev rm_G_level : Room := { frames := 4, cells := 0, slots := 0, locals := 98 }
def wp_G_level_2_b (K2 : Int → (Nat → Int) → (Nat → Int) → (Nat → Int) → (Nat → Int) → Prop) (Q : (Nat → Int) → (Nat → Int) → (Nat → Int) → (Nat → Int) → Prop) (gCorners gLowest gFirst : Int) (gPlaces : Nat → Int) (x1 : Int) (x2 : Int) (x3 : Int) (gRow : Nat → Int) (gOver : Nat → Int) (gVia : Nat → Int) (gQueue : Nat → Int) : Prop :=
  jR x3 ∧
  ((1000000 ≤ x3 →
    Q gRow gOver gVia gQueue
  ) ∧ (¬ 1000000 ≤ x3 →
    (0 ≤ x1 ∧ x1 < 10) ∧
    jR (gOver x1.toNat) ∧
    (((gOver x1.toNat) ≤ 0 →
      Q gRow gOver gVia gQueue
    ) ∧ (¬ (gOver x1.toNat) ≤ 0 →
      (0 ≤ x2 ∧ x2 < 10) ∧
      jR (gOver x2.toNat) ∧
      ((0 ≤ (gOver x2.toNat) →
        Q gRow gOver gVia gQueue
      ) ∧ (¬ 0 ≤ (gOver x2.toNat) →
        wp_G_push x1 x2 (jmin (gOver x1.toNat) (-(gOver x2.toNat))) gCorners gLowest gFirst gRow gPlaces gVia gQueue (fun z_9 gRow_10 gVia_11 gQueue_12 =>
          jR z_9 ∧
          ((z_9 = 0 →
            Q gRow_10 gOver gVia_11 gQueue_12
          ) ∧ (¬ z_9 = 0 →
            ∀ gOver_15 : Nat → Int, gOver_15 = up gOver x1.toNat ((gOver x1.toNat) - z_9) →
            ∀ gOver_16 : Nat → Int, gOver_16 = up gOver_15 x2.toNat ((gOver_15 x2.toNat) + z_9) →
            K2 (x3 + 1) gRow_10 gOver_16 gVia_11 gQueue_12
          ))
        )
      ))
    ))
  ))
def wp_G_level_2 (Q : (Nat → Int) → (Nat → Int) → (Nat → Int) → (Nat → Int) → Prop) (gCorners gLowest gFirst : Int) (gPlaces : Nat → Int) (x1 : Int) (x2 : Int) : Nat → Int → (Nat → Int) → (Nat → Int) → (Nat → Int) → (Nat → Int) → Prop
  | 0, _, _, _, _, _ => False
  | n + 1, x3, gRow, gOver, gVia, gQueue => wp_G_level_2_b  (wp_G_level_2 Q gCorners gLowest gFirst gPlaces x1 x2 n) Q gCorners gLowest gFirst gPlaces x1 x2 x3 gRow gOver gVia gQueue
def wp_G_level (x1 x2 : Int) (gCorners gLowest gFirst : Int) (gRow gPlaces gOver gVia gQueue : Nat → Int) (Q : (Nat → Int) → (Nat → Int) → (Nat → Int) → (Nat → Int) → Prop) : Prop :=
  ∃ n : Nat, wp_G_level_2 Q gCorners gLowest gFirst gPlaces x1 x2 n 0 gRow gOver gVia gQueue
abbrev rm_N_allSums : Room := { frames := 1, cells := 0, slots := 0, locals := 21 }
def wp_N_allSums_4_b (K4 : Int → Int → Prop) (Q : Int → Prop) (nPosts : Int) (nSums : Nat → Int) (x1 : Int) (x2 : Int) : Prop :=
  jR x2 ∧
  jR nPosts ∧
  ((nPosts ≤ x2 →
    Q x1
  ) ∧ (¬ nPosts ≤ x2 →
    wp_N_isTold x2 nSums (fun z_4 =>
      jR z_4 ∧
      ((z_4 = 0 →
        K4 x1 (x2 + 1)
      ) ∧ (¬ z_4 = 0 →
        (0 ≤ x2 ∧ x2 < 9) ∧
        K4 (x1 + (nSums x2.toNat)) (x2 + 1)
      ))
    )
  ))
def wp_N_allSums_4 (Q : Int → Prop) (nPosts : Int) (nSums : Nat → Int) : Nat → Int → Int → Prop
  | 0, _, _ => False
  | n + 1, x1, x2 => wp_N_allSums_4_b  (wp_N_allSums_4 Q nPosts nSums n) Q nPosts nSums  x1 x2
def wp_N_allSums (nPosts : Int) (nSums : Nat → Int) (Q : Int → Prop) : Prop :=
  ∃ n : Nat, wp_N_allSums_4 Q nPosts nSums n 0 0
abbrev rm_G_weigh : Room := { frames := 2, cells := 0, slots := 0, locals := 43 }
def wp_G_weigh_83_b (K83 : Int → (Nat → Int) → Prop) (Q : (Nat → Int) → Prop) (gCorners : Int) (gRow gPlaces : Nat → Int) (x2 : Int) (gOver : Nat → Int) : Prop :=
  jR x2 ∧
  jR gCorners ∧
  ((gCorners ≤ x2 →
    Q gOver
  ) ∧ (¬ gCorners ≤ x2 →
    (0 ≤ x2 ∧ x2 < 36) ∧
    (0 ≤ (gPlaces x2.toNat) ∧ (gPlaces x2.toNat) < 10) ∧
    ∀ gOver_6 : Nat → Int, gOver_6 = up gOver (gPlaces x2.toNat).toNat ((gOver (gPlaces x2.toNat).toNat) + (gRow x2.toNat)) →
    K83 (x2 + 1) gOver_6
  ))
def wp_G_weigh_83 (Q : (Nat → Int) → Prop) (gCorners : Int) (gRow gPlaces : Nat → Int) : Nat → Int → (Nat → Int) → Prop
  | 0, _, _ => False
  | n + 1, x2, gOver => wp_G_weigh_83_b  (wp_G_weigh_83 Q gCorners gRow gPlaces n) Q gCorners gRow gPlaces  x2 gOver
def wp_G_weigh_10_b (K10 : Int → (Nat → Int) → Prop) (Q : (Nat → Int) → Prop) (nPosts nThirds : Int) (nSums : Nat → Int) (gCorners : Int) (gRow gPlaces : Nat → Int) (x1 : Int) (x2 : Int) (gOver : Nat → Int) : Prop :=
  wp_N_postCount nPosts (fun z_7 =>
    jR x2 ∧
    jR z_7 ∧
    ((z_7 ≤ x2 →
      wp_N_allSums nPosts nSums (fun z_11 =>
        wp_N_thirdCount nThirds (fun z_12 =>
          ∀ gOver_13 : Nat → Int, gOver_13 = up gOver (9 : Int).toNat (z_11 - (x1 * z_12)) →
          ∃ n : Nat, wp_G_weigh_83 Q gCorners gRow gPlaces n 0 gOver_13
        )
      )
    ) ∧ (¬ z_7 ≤ x2 →
      wp_N_isTold x2 nSums (fun z_14 =>
        jR z_14 ∧
        ((z_14 = 0 →
          (0 ≤ x2 ∧ x2 < 10) ∧
          ∀ gOver_18 : Nat → Int, gOver_18 = up gOver x2.toNat 0 →
          K10 (x2 + 1) gOver_18
        ) ∧ (¬ z_14 = 0 →
          wp_N_sumOf x2 nSums (fun z_19 =>
            (0 ≤ x2 ∧ x2 < 10) ∧
            ∀ gOver_21 : Nat → Int, gOver_21 = up gOver x2.toNat (-z_19) →
            K10 (x2 + 1) gOver_21
          )
        ))
      )
    ))
  )
def wp_G_weigh_10 (Q : (Nat → Int) → Prop) (nPosts nThirds : Int) (nSums : Nat → Int) (gCorners : Int) (gRow gPlaces : Nat → Int) (x1 : Int) : Nat → Int → (Nat → Int) → Prop
  | 0, _, _ => False
  | n + 1, x2, gOver => wp_G_weigh_10_b  (wp_G_weigh_10 Q nPosts nThirds nSums gCorners gRow gPlaces x1 n) Q nPosts nThirds nSums gCorners gRow gPlaces x1 x2 gOver
def wp_G_weigh (x1 : Int) (nPosts nThirds : Int) (nSums : Nat → Int) (gCorners : Int) (gRow gPlaces gOver : Nat → Int) (Q : (Nat → Int) → Prop) : Prop :=
  ∀ gOver_22 : Nat → Int, gOver_22 = fillf gOver 10 0 →
  ∃ n : Nat, wp_G_weigh_10 Q nPosts nThirds nSums gCorners gRow gPlaces x1 n 0 gOver_22
abbrev rm_G_findAny : Room := { frames := 5, cells := 0, slots := 0, locals := 122 }
def wp_G_findAny_27_b (K18 : Int → (Nat → Int) → (Nat → Int) → (Nat → Int) → (Nat → Int) → Prop) (K27 : Int → (Nat → Int) → (Nat → Int) → (Nat → Int) → (Nat → Int) → Prop) (Q : Int → Int → Int → Int → Int → (Nat → Int) → (Nat → Int) → (Nat → Int) → (Nat → Int) → (Nat → Int) → Prop) (x3 : Int) (gCorners : Int) (gLowest : Int) (gFirst : Int) (gFresh : Int) (gPlaces : Nat → Int) (x4 : Int) (gRow : Nat → Int) (gOver : Nat → Int) (gVia : Nat → Int) (gQueue : Nat → Int) : Prop :=
  jR x4 ∧
  ((10 ≤ x4 →
    (0 ≤ x3 ∧ x3 < 10) ∧
    jR (gOver x3.toNat) ∧
    (((gOver x3.toNat) ≤ 0 →
      K18 (x3 + 1) gRow gOver gVia gQueue
    ) ∧ (¬ (gOver x3.toNat) ≤ 0 →
      Q 0 gCorners gLowest gFirst gFresh gRow gPlaces gOver gVia gQueue
    ))
  ) ∧ (¬ 10 ≤ x4 →
    (0 ≤ x3 ∧ x3 < 10) ∧
    jR (gOver x3.toNat) ∧
    (((gOver x3.toNat) ≤ 0 →
      (((gOver x3.toNat) ≤ 0 →
        K18 (x3 + 1) gRow gOver gVia gQueue
      ) ∧ (¬ (gOver x3.toNat) ≤ 0 →
        Q 0 gCorners gLowest gFirst gFresh gRow gPlaces gOver gVia gQueue
      ))
    ) ∧ (¬ (gOver x3.toNat) ≤ 0 →
      wp_G_level x3 x4 gCorners gLowest gFirst gRow gPlaces gOver gVia gQueue (fun gRow_10 gOver_11 gVia_12 gQueue_13 =>
        K27 (x4 + 1) gRow_10 gOver_11 gVia_12 gQueue_13
      )
    ))
  ))
def wp_G_findAny_27 (K18 : Int → (Nat → Int) → (Nat → Int) → (Nat → Int) → (Nat → Int) → Prop) (Q : Int → Int → Int → Int → Int → (Nat → Int) → (Nat → Int) → (Nat → Int) → (Nat → Int) → (Nat → Int) → Prop) (x3 : Int) (gCorners : Int) (gLowest : Int) (gFirst : Int) (gFresh : Int) (gPlaces : Nat → Int) : Nat → Int → (Nat → Int) → (Nat → Int) → (Nat → Int) → (Nat → Int) → Prop
  | 0, _, _, _, _, _ => False
  | n + 1, x4, gRow, gOver, gVia, gQueue => wp_G_findAny_27_b K18 (wp_G_findAny_27 K18 Q x3 gCorners gLowest gFirst gFresh gPlaces n) Q  x3 gCorners gLowest gFirst gFresh gPlaces x4 gRow gOver gVia gQueue
def wp_G_findAny_18_b (K18 : Int → (Nat → Int) → (Nat → Int) → (Nat → Int) → (Nat → Int) → Prop) (Q : Int → Int → Int → Int → Int → (Nat → Int) → (Nat → Int) → (Nat → Int) → (Nat → Int) → (Nat → Int) → Prop) (gCorners : Int) (gLowest : Int) (gFirst : Int) (gFresh : Int) (gPlaces : Nat → Int) (x3 : Int) (gRow : Nat → Int) (gOver : Nat → Int) (gVia : Nat → Int) (gQueue : Nat → Int) : Prop :=
  jR x3 ∧
  ((10 ≤ x3 →
    Q 1 gCorners gLowest gFirst gFresh gRow gPlaces gOver gVia gQueue
  ) ∧ (¬ 10 ≤ x3 →
    ∃ n : Nat, wp_G_findAny_27 K18 Q x3 gCorners gLowest gFirst gFresh gPlaces n 0 gRow gOver gVia gQueue
  ))
def wp_G_findAny_18 (Q : Int → Int → Int → Int → Int → (Nat → Int) → (Nat → Int) → (Nat → Int) → (Nat → Int) → (Nat → Int) → Prop) (gCorners : Int) (gLowest : Int) (gFirst : Int) (gFresh : Int) (gPlaces : Nat → Int) : Nat → Int → (Nat → Int) → (Nat → Int) → (Nat → Int) → (Nat → Int) → Prop
  | 0, _, _, _, _, _ => False
  | n + 1, x3, gRow, gOver, gVia, gQueue => wp_G_findAny_18_b  (wp_G_findAny_18 Q gCorners gLowest gFirst gFresh gPlaces n) Q  gCorners gLowest gFirst gFresh gPlaces x3 gRow gOver gVia gQueue
def wp_G_findAny (x1 x2 : Int) (nPosts nThirds : Int) (nCorners nSums : Nat → Int) (gCorners gLowest gFirst gFresh : Int) (gRow gPlaces gOver gVia gQueue : Nat → Int) (Q : Int → Int → Int → Int → Int → (Nat → Int) → (Nat → Int) → (Nat → Int) → (Nat → Int) → (Nat → Int) → Prop) : Prop :=
  wp_G_begin x1 x2 nThirds nCorners nSums gCorners gLowest gFirst gRow gPlaces (fun gCorners_16 gLowest_17 gFirst_18 gRow_19 gPlaces_20 =>
    wp_G_weigh x1 nPosts nThirds nSums gCorners_16 gRow_19 gPlaces_20 gOver (fun gOver_21 =>
      ∃ n : Nat, wp_G_findAny_18 Q gCorners_16 gLowest_17 gFirst_18 0 gPlaces_20 n 0 gRow_19 gOver_21 gVia gQueue
    )
  )
abbrev rm_G_sink : Room := { frames := 4, cells := 0, slots := 0, locals := 98 }
def wp_G_sink_9_b (K9 : Int → (Nat → Int) → (Nat → Int) → (Nat → Int) → Prop) (Q : Int → (Nat → Int) → (Nat → Int) → (Nat → Int) → Prop) (gCorners gLowest : Int) (gPlaces : Nat → Int) (x1 : Int) (gFirst : Int) (x2 : Int) (gRow : Nat → Int) (gVia : Nat → Int) (gQueue : Nat → Int) : Prop :=
  jR x2 ∧
  ((1000000 ≤ x2 →
    Q gFirst gRow gVia gQueue
  ) ∧ (¬ 1000000 ≤ x2 →
    (0 ≤ x1 ∧ x1 < 36) ∧
    jR (gRow x1.toNat) ∧
    jR gLowest ∧
    (((gRow x1.toNat) ≤ gLowest →
      Q gFirst gRow gVia gQueue
    ) ∧ (¬ (gRow x1.toNat) ≤ gLowest →
      wp_G_push (10 + (jdiv x1 3)) (gPlaces x1.toNat) ((gRow x1.toNat) - gLowest) gCorners gLowest gFirst gRow gPlaces gVia gQueue (fun z_7 gRow_8 gVia_9 gQueue_10 =>
        jR z_7 ∧
        ((z_7 = 0 →
          Q gFirst gRow_8 gVia_9 gQueue_10
        ) ∧ (¬ z_7 = 0 →
          ∀ gRow_13 : Nat → Int, gRow_13 = up gRow_8 x1.toNat ((gRow_8 x1.toNat) - z_7) →
          K9 (x2 + 1) gRow_13 gVia_9 gQueue_10
        ))
      )
    ))
  ))
def wp_G_sink_9 (Q : Int → (Nat → Int) → (Nat → Int) → (Nat → Int) → Prop) (gCorners gLowest : Int) (gPlaces : Nat → Int) (x1 : Int) (gFirst : Int) : Nat → Int → (Nat → Int) → (Nat → Int) → (Nat → Int) → Prop
  | 0, _, _, _, _ => False
  | n + 1, x2, gRow, gVia, gQueue => wp_G_sink_9_b  (wp_G_sink_9 Q gCorners gLowest gPlaces x1 gFirst n) Q gCorners gLowest gPlaces x1 gFirst x2 gRow gVia gQueue
def wp_G_sink (x1 : Int) (gCorners gLowest gFirst : Int) (gRow gPlaces gVia gQueue : Nat → Int) (Q : Int → (Nat → Int) → (Nat → Int) → (Nat → Int) → Prop) : Prop :=
  ∃ n : Nat, wp_G_sink_9 Q gCorners gLowest gPlaces x1 (x1 + 1) n 0 gRow gVia gQueue
abbrev rm_G_findRow : Room := { frames := 6, cells := 0, slots := 0, locals := 146 }
def wp_G_findRow_19_b (K19 : Int → Int → (Nat → Int) → (Nat → Int) → (Nat → Int) → Prop) (Q : Int → Int → Int → Int → Int → Int → (Nat → Int) → (Nat → Int) → (Nat → Int) → (Nat → Int) → (Nat → Int) → Prop) (gCorners : Int) (gLowest : Int) (gFresh : Int) (gThere : Int) (gPlaces : Nat → Int) (gOver : Nat → Int) (x3 : Int) (gFirst : Int) (gRow : Nat → Int) (gVia : Nat → Int) (gQueue : Nat → Int) : Prop :=
  jR x3 ∧
  jR gCorners ∧
  ((gCorners ≤ x3 →
    (gThere = 0 ∨ gThere = 1) ∧
    Q gThere gCorners gLowest gFirst 1 gThere gRow gPlaces gOver gVia gQueue
  ) ∧ (¬ gCorners ≤ x3 →
    jR gThere ∧
    ((gThere = 0 →
      (gThere = 0 ∨ gThere = 1) ∧
      Q gThere gCorners gLowest gFirst 1 gThere gRow gPlaces gOver gVia gQueue
    ) ∧ (¬ gThere = 0 →
      wp_G_sink x3 gCorners gLowest gFirst gRow gPlaces gVia gQueue (fun gFirst_6 gRow_7 gVia_8 gQueue_9 =>
        K19 (x3 + 1) gFirst_6 gRow_7 gVia_8 gQueue_9
      )
    ))
  ))
def wp_G_findRow_19 (Q : Int → Int → Int → Int → Int → Int → (Nat → Int) → (Nat → Int) → (Nat → Int) → (Nat → Int) → (Nat → Int) → Prop) (gCorners : Int) (gLowest : Int) (gFresh : Int) (gThere : Int) (gPlaces : Nat → Int) (gOver : Nat → Int) : Nat → Int → Int → (Nat → Int) → (Nat → Int) → (Nat → Int) → Prop
  | 0, _, _, _, _, _ => False
  | n + 1, x3, gFirst, gRow, gVia, gQueue => wp_G_findRow_19_b  (wp_G_findRow_19 Q gCorners gLowest gFresh gThere gPlaces gOver n) Q  gCorners gLowest gFresh gThere gPlaces gOver x3 gFirst gRow gVia gQueue
def wp_G_findRow (x1 x2 : Int) (nPosts nThirds : Int) (nCorners nSums : Nat → Int) (gCorners gLowest gFirst gFresh gThere : Int) (gRow gPlaces gOver gVia gQueue : Nat → Int) (Q : Int → Int → Int → Int → Int → Int → (Nat → Int) → (Nat → Int) → (Nat → Int) → (Nat → Int) → (Nat → Int) → Prop) : Prop :=
  jR gFresh ∧
  ((gFresh = 0 →
    wp_G_findAny x1 x2 nPosts nThirds nCorners nSums gCorners gLowest gFirst gFresh gRow gPlaces gOver gVia gQueue (fun z_12 gCorners_13 gLowest_14 gFirst_15 gFresh_16 gRow_17 gPlaces_18 gOver_19 gVia_20 gQueue_21 =>
      (z_12 = 0 ∨ z_12 = 1) ∧
      ∃ n : Nat, wp_G_findRow_19 Q gCorners_13 gLowest_14 gFresh_16 z_12 gPlaces_18 gOver_19 n 0 gFirst_15 gRow_17 gVia_20 gQueue_21
    )
  ) ∧ (¬ gFresh = 0 →
    (gThere = 0 ∨ gThere = 1) ∧
    Q gThere gCorners gLowest gFirst gFresh gThere gRow gPlaces gOver gVia gQueue
  ))
abbrev rm_N_beginAnew : Room := { frames := 2, cells := 0, slots := 0, locals := 47 }
def wp_N_beginAnew (x1 : Int) (nPosts nThirds : Int) (nCorners nSums nArrows : Nat → Int) (Q : Int → Int → (Nat → Int) → (Nat → Int) → Prop) : Prop :=
  ∀ nSums_1 : Nat → Int, nSums_1 = fillf nSums 9 (-1) →
  wp_N_drawArrows 0 nCorners nArrows (fun nArrows_2 =>
    Q x1 0 nSums_1 nArrows_2
  )
abbrev rm_N_pack : Room := { frames := 0, cells := 0, slots := 0, locals := 0 }
def wp_N_pack (x0 x1 x2 : Int) (Q : Int → Prop) : Prop :=
  Q (jor (jor x0 (jshl x1 4)) (jshl x2 8))
abbrev rm_N_packed : Room := { frames := 1, cells := 0, slots := 0, locals := 22 }
def wp_N_packed (x1 : Int) (nCorners : Nat → Int) (Q : Int → Prop) : Prop :=
  (0 ≤ (3 * x1) ∧ (3 * x1) < 36) ∧
  (0 ≤ ((3 * x1) + 1) ∧ ((3 * x1) + 1) < 36) ∧
  (0 ≤ ((3 * x1) + 2) ∧ ((3 * x1) + 2) < 36) ∧
  wp_N_pack (nCorners (3 * x1).toNat) (nCorners ((3 * x1) + 1).toNat) (nCorners ((3 * x1) + 2).toNat) (fun z_4 =>
    Q z_4
  )
abbrev rm_N_hasPost : Room := { frames := 0, cells := 0, slots := 0, locals := 0 }
def wp_N_hasPost (x1 : Int) (nPosts : Int) (Q : Int → Prop) : Prop :=
  jR x1 ∧
  ((x1 < 0 →
    Q 0
  ) ∧ (¬ x1 < 0 →
    jR nPosts ∧
    ((nPosts ≤ x1 →
      Q 0
    ) ∧ (¬ nPosts ≤ x1 →
      Q 1
    ))
  ))
abbrev rm_N_hasCorner : Room := { frames := 1, cells := 0, slots := 0, locals := 20 }
def wp_N_hasCorner (x1 : Int) (nThirds : Int) (Q : Int → Prop) : Prop :=
  jR x1 ∧
  ((x1 < 0 →
    Q 0
  ) ∧ (¬ x1 < 0 →
    wp_N_cornerCount nThirds (fun z_3 =>
      jR z_3 ∧
      ((z_3 ≤ x1 →
        Q 0
      ) ∧ (¬ z_3 ≤ x1 →
        Q 1
      ))
    )
  ))
abbrev rm_N_areUnlike : Room := { frames := 1, cells := 0, slots := 0, locals := 21 }
def wp_N_areUnlike (x1 x2 : Int) (nPosts : Int) (Q : Int → Prop) : Prop :=
  wp_N_hasPost x1 nPosts (fun z_1 =>
    jR z_1 ∧
    ((z_1 = 0 →
      Q 0
    ) ∧ (¬ z_1 = 0 →
      wp_N_hasPost x2 nPosts (fun z_4 =>
        jR z_4 ∧
        ((z_4 = 0 →
          Q 0
        ) ∧ (¬ z_4 = 0 →
          jR x1 ∧
          jR x2 ∧
          ((x1 = x2 →
            Q 0
          ) ∧ (¬ x1 = x2 →
            Q 1
          ))
        ))
      )
    ))
  )
abbrev rm_N_thirdWith : Room := { frames := 0, cells := 0, slots := 0, locals := 0 }
def wp_N_thirdWith (x1 x2 : Int) (nArrows : Nat → Int) (Q : Int → Prop) : Prop :=
  (0 ≤ ((x1 * 9) + x2) ∧ ((x1 * 9) + x2) < 81) ∧
  Q (nArrows ((x1 * 9) + x2).toNat)
abbrev rm_N_hasArrow : Room := { frames := 1, cells := 0, slots := 0, locals := 22 }
def wp_N_hasArrow (x1 x2 : Int) (nArrows : Nat → Int) (Q : Int → Prop) : Prop :=
  wp_N_thirdWith x1 x2 nArrows (fun z_1 =>
    jR z_1 ∧
    ((z_1 = (-1) →
      Q 0
    ) ∧ (¬ z_1 = (-1) →
      Q 1
    ))
  )
abbrev rm_N_thirdsAtSide : Room := { frames := 2, cells := 0, slots := 0, locals := 44 }
def wp_N_thirdsAtSide (x1 x2 : Int) (nArrows : Nat → Int) (Q : Int → Prop) : Prop :=
  wp_N_hasArrow x1 x2 nArrows (fun z_1 =>
    jR z_1 ∧
    ((z_1 = 0 →
      wp_N_hasArrow x2 x1 nArrows (fun z_4 =>
        jR z_4 ∧
        ((z_4 = 0 →
          Q (0 + 0)
        ) ∧ (¬ z_4 = 0 →
          Q (0 + 1)
        ))
      )
    ) ∧ (¬ z_1 = 0 →
      wp_N_hasArrow x2 x1 nArrows (fun z_7 =>
        jR z_7 ∧
        ((z_7 = 0 →
          Q (1 + 0)
        ) ∧ (¬ z_7 = 0 →
          Q (1 + 1)
        ))
      )
    ))
  )
abbrev rm_N_isSide : Room := { frames := 3, cells := 0, slots := 0, locals := 66 }
def wp_N_isSide (x1 x2 : Int) (nPosts : Int) (nArrows : Nat → Int) (Q : Int → Prop) : Prop :=
  wp_N_areUnlike x1 x2 nPosts (fun z_1 =>
    jR z_1 ∧
    ((z_1 = 0 →
      Q 0
    ) ∧ (¬ z_1 = 0 →
      wp_N_thirdsAtSide x1 x2 nArrows (fun z_4 =>
        jR z_4 ∧
        ((z_4 ≤ 0 →
          Q 0
        ) ∧ (¬ z_4 ≤ 0 →
          Q 1
        ))
      )
    ))
  )
abbrev rm_N_cornerOpposite : Room := { frames := 0, cells := 0, slots := 0, locals := 0 }
def wp_N_cornerOpposite_8_b (K8 : Int → Int → Prop) (Q : Int → Prop) (nCorners : Nat → Int) (x2 : Int) (x3 : Int) (x4 : Int) (x5 : Int) : Prop :=
  jR x5 ∧
  ((2 ≤ x5 →
    Q x4
  ) ∧ (¬ 2 ≤ x5 →
    (0 ≤ x4 ∧ x4 < 36) ∧
    jR (nCorners x4.toNat) ∧
    jR x2 ∧
    (((nCorners x4.toNat) = x2 →
      K8 (x4 + 1) (x5 + 1)
    ) ∧ (¬ (nCorners x4.toNat) = x2 →
      jR x3 ∧
      (((nCorners x4.toNat) = x3 →
        K8 (x4 + 1) (x5 + 1)
      ) ∧ (¬ (nCorners x4.toNat) = x3 →
        Q x4
      ))
    ))
  ))
def wp_N_cornerOpposite_8 (Q : Int → Prop) (nCorners : Nat → Int) (x2 : Int) (x3 : Int) : Nat → Int → Int → Prop
  | 0, _, _ => False
  | n + 1, x4, x5 => wp_N_cornerOpposite_8_b  (wp_N_cornerOpposite_8 Q nCorners x2 x3 n) Q nCorners x2 x3 x4 x5
def wp_N_cornerOpposite (x1 x2 x3 : Int) (nCorners : Nat → Int) (Q : Int → Prop) : Prop :=
  ∃ n : Nat, wp_N_cornerOpposite_8 Q nCorners x2 x3 n (3 * x1) 0
abbrev rm_N_sidesAt : Room := { frames := 3, cells := 0, slots := 0, locals := 66 }
def wp_N_sidesAt_5_b (K5 : Int → Int → Prop) (Q : Int → Prop) (nPosts : Int) (nArrows : Nat → Int) (x1 : Int) (x2 : Int) (x3 : Int) (x4 : Int) : Prop :=
  jR x4 ∧
  jR nPosts ∧
  ((nPosts ≤ x4 →
    Q x3
  ) ∧ (¬ nPosts ≤ x4 →
    jR x1 ∧
    ((x4 = x1 →
      K5 x3 (x4 + 1)
    ) ∧ (¬ x4 = x1 →
      wp_N_thirdsAtSide x1 x4 nArrows (fun z_6 =>
        jR z_6 ∧
        jR x2 ∧
        ((z_6 = x2 →
          K5 (x3 + 1) (x4 + 1)
        ) ∧ (¬ z_6 = x2 →
          K5 x3 (x4 + 1)
        ))
      )
    ))
  ))
def wp_N_sidesAt_5 (Q : Int → Prop) (nPosts : Int) (nArrows : Nat → Int) (x1 : Int) (x2 : Int) : Nat → Int → Int → Prop
  | 0, _, _ => False
  | n + 1, x3, x4 => wp_N_sidesAt_5_b  (wp_N_sidesAt_5 Q nPosts nArrows x1 x2 n) Q nPosts nArrows x1 x2 x3 x4
def wp_N_sidesAt (x1 x2 : Int) (nPosts : Int) (nArrows : Nat → Int) (Q : Int → Prop) : Prop :=
  ∃ n : Nat, wp_N_sidesAt_5 Q nPosts nArrows x1 x2 n 0 0
abbrev rm_N_sidesWith : Room := { frames := 4, cells := 0, slots := 0, locals := 90 }
def wp_N_sidesWith_4_b (K4 : Int → Int → Prop) (Q : Int → Prop) (nPosts : Int) (nArrows : Nat → Int) (x1 : Int) (x2 : Int) (x3 : Int) : Prop :=
  jR x3 ∧
  jR nPosts ∧
  ((nPosts ≤ x3 →
    Q (jdiv x2 2)
  ) ∧ (¬ nPosts ≤ x3 →
    wp_N_sidesAt x3 x1 nPosts nArrows (fun z_4 =>
      K4 (x2 + z_4) (x3 + 1)
    )
  ))
def wp_N_sidesWith_4 (Q : Int → Prop) (nPosts : Int) (nArrows : Nat → Int) (x1 : Int) : Nat → Int → Int → Prop
  | 0, _, _ => False
  | n + 1, x2, x3 => wp_N_sidesWith_4_b  (wp_N_sidesWith_4 Q nPosts nArrows x1 n) Q nPosts nArrows x1 x2 x3
def wp_N_sidesWith (x1 : Int) (nPosts : Int) (nArrows : Nat → Int) (Q : Int → Prop) : Prop :=
  ∃ n : Nat, wp_N_sidesWith_4 Q nPosts nArrows x1 n 0 0
abbrev rm_N_isFreeOfRim : Room := { frames := 4, cells := 0, slots := 0, locals := 90 }
def wp_N_isFreeOfRim (x1 : Int) (nPosts nThirds : Int) (nCorners nArrows : Nat → Int) (Q : Int → Prop) : Prop :=
  wp_N_cornersAt x1 nThirds nCorners (fun z_1 =>
    jR z_1 ∧
    ((z_1 ≤ 0 →
      Q 0
    ) ∧ (¬ z_1 ≤ 0 →
      wp_N_sidesAt x1 1 nPosts nArrows (fun z_4 =>
        jR z_4 ∧
        ((z_4 = 0 →
          Q 1
        ) ∧ (¬ z_4 = 0 →
          Q 0
        ))
      )
    ))
  )
abbrev rm_N_bitOf : Room := { frames := 2, cells := 0, slots := 0, locals := 44 }
def wp_N_bitOf (x1 x2 : Int) (nArrows : Nat → Int) (Q : Int → Prop) : Prop :=
  wp_N_hasArrow x1 x2 nArrows (fun z_1 =>
    jR z_1 ∧
    ((z_1 = 0 →
      Q 0
    ) ∧ (¬ z_1 = 0 →
      wp_N_thirdWith x1 x2 nArrows (fun z_4 =>
        Q (jshl 1 z_4)
      )
    ))
  )
abbrev rm_N_widened : Room := { frames := 3, cells := 0, slots := 0, locals := 66 }
def wp_N_widened_5_b (K5 : Int → Int → Prop) (Q : Int → Prop) (nPosts : Int) (nArrows : Nat → Int) (x2 : Int) (x3 : Int) (x4 : Int) : Prop :=
  jR x4 ∧
  jR nPosts ∧
  ((nPosts ≤ x4 →
    Q x3
  ) ∧ (¬ nPosts ≤ x4 →
    wp_N_bitOf x2 x4 nArrows (fun z_4 =>
      wp_N_bitOf x4 x2 nArrows (fun z_5 =>
        jR (jand x3 (jor z_4 z_5)) ∧
        (((jand x3 (jor z_4 z_5)) = 0 →
          K5 x3 (x4 + 1)
        ) ∧ (¬ (jand x3 (jor z_4 z_5)) = 0 →
          K5 (jor x3 (jor z_4 z_5)) (x4 + 1)
        ))
      )
    )
  ))
def wp_N_widened_5 (Q : Int → Prop) (nPosts : Int) (nArrows : Nat → Int) (x2 : Int) : Nat → Int → Int → Prop
  | 0, _, _ => False
  | n + 1, x3, x4 => wp_N_widened_5_b  (wp_N_widened_5 Q nPosts nArrows x2 n) Q nPosts nArrows x2 x3 x4
def wp_N_widened (x1 x2 : Int) (nPosts : Int) (nArrows : Nat → Int) (Q : Int → Prop) : Prop :=
  ∃ n : Nat, wp_N_widened_5 Q nPosts nArrows x2 n x1 0
abbrev rm_N_hangingWith : Room := { frames := 4, cells := 0, slots := 0, locals := 91 }
def wp_N_hangingWith_27_b (K8 : Int → Int → Int → Prop) (K27 : Int → Int → Prop) (Q : Int → Prop) (nPosts : Int) (nArrows : Nat → Int) (x2 : Int) (x4 : Int) (x5 : Int) (x3 : Int) (x6 : Int) : Prop :=
  jR x6 ∧
  jR nPosts ∧
  ((nPosts ≤ x6 →
    K8 x3 x4 (x5 + 1)
  ) ∧ (¬ nPosts ≤ x6 →
    jR x2 ∧
    ((x2 = (-1) →
      wp_N_widened x3 x6 nPosts nArrows (fun z_6 =>
        K27 z_6 (x6 + 1)
      )
    ) ∧ (¬ x2 = (-1) →
      ((x2 = x6 →
        wp_N_widened x3 x6 nPosts nArrows (fun z_8 =>
          K27 z_8 (x6 + 1)
        )
      ) ∧ (¬ x2 = x6 →
        K27 x3 (x6 + 1)
      ))
    ))
  ))
def wp_N_hangingWith_27 (K8 : Int → Int → Int → Prop) (Q : Int → Prop) (nPosts : Int) (nArrows : Nat → Int) (x2 : Int) (x4 : Int) (x5 : Int) : Nat → Int → Int → Prop
  | 0, _, _ => False
  | n + 1, x3, x6 => wp_N_hangingWith_27_b K8 (wp_N_hangingWith_27 K8 Q nPosts nArrows x2 x4 x5 n) Q nPosts nArrows x2 x4 x5 x3 x6
def wp_N_hangingWith_8_b (K8 : Int → Int → Int → Prop) (Q : Int → Prop) (nPosts : Int) (nArrows : Nat → Int) (x2 : Int) (x3 : Int) (x4 : Int) (x5 : Int) : Prop :=
  jR x5 ∧
  ((12 < x5 →
    Q x3
  ) ∧ (¬ 12 < x5 →
    jR x3 ∧
    jR x4 ∧
    ((x3 = x4 →
      Q x3
    ) ∧ (¬ x3 = x4 →
      ∃ n : Nat, wp_N_hangingWith_27 K8 Q nPosts nArrows x2 x3 x5 n x3 0
    ))
  ))
def wp_N_hangingWith_8 (Q : Int → Prop) (nPosts : Int) (nArrows : Nat → Int) (x2 : Int) : Nat → Int → Int → Int → Prop
  | 0, _, _, _ => False
  | n + 1, x3, x4, x5 => wp_N_hangingWith_8_b  (wp_N_hangingWith_8 Q nPosts nArrows x2 n) Q nPosts nArrows x2 x3 x4 x5
def wp_N_hangingWith (x1 x2 : Int) (nPosts : Int) (nArrows : Nat → Int) (Q : Int → Prop) : Prop :=
  ∃ n : Nat, wp_N_hangingWith_8 Q nPosts nArrows x2 n x1 0 0
abbrev rm_N_thirdsAt : Room := { frames := 3, cells := 0, slots := 0, locals := 66 }
def wp_N_thirdsAt_4_b (K4 : Int → Int → Prop) (Q : Int → Prop) (nPosts : Int) (nArrows : Nat → Int) (x1 : Int) (x2 : Int) (x3 : Int) : Prop :=
  jR x3 ∧
  jR nPosts ∧
  ((nPosts ≤ x3 →
    Q x2
  ) ∧ (¬ nPosts ≤ x3 →
    wp_N_bitOf x1 x3 nArrows (fun z_4 =>
      K4 (jor x2 z_4) (x3 + 1)
    )
  ))
def wp_N_thirdsAt_4 (Q : Int → Prop) (nPosts : Int) (nArrows : Nat → Int) (x1 : Int) : Nat → Int → Int → Prop
  | 0, _, _ => False
  | n + 1, x2, x3 => wp_N_thirdsAt_4_b  (wp_N_thirdsAt_4 Q nPosts nArrows x1 n) Q nPosts nArrows x1 x2 x3
def wp_N_thirdsAt (x1 : Int) (nPosts : Int) (nArrows : Nat → Int) (Q : Int → Prop) : Prop :=
  ∃ n : Nat, wp_N_thirdsAt_4 Q nPosts nArrows x1 n 0 0
abbrev rm_N_isRound : Room := { frames := 5, cells := 0, slots := 0, locals := 117 }
def wp_N_isRound (x1 : Int) (nPosts : Int) (nArrows : Nat → Int) (Q : Int → Prop) : Prop :=
  wp_N_thirdsAt x1 nPosts nArrows (fun z_1 =>
    jR z_1 ∧
    ((z_1 = 0 →
      Q 0
    ) ∧ (¬ z_1 = 0 →
      wp_N_hangingWith (jand z_1 (-z_1)) x1 nPosts nArrows (fun z_4 =>
        jR z_4 ∧
        ((z_4 = z_1 →
          Q 1
        ) ∧ (¬ z_4 = z_1 →
          Q 0
        ))
      )
    ))
  )
abbrev rm_N_character : Room := { frames := 5, cells := 0, slots := 0, locals := 113 }
def wp_N_character_4_b (K4 : Int → Int → Prop) (Q : Int → Prop) (nPosts nThirds : Int) (nCorners nArrows : Nat → Int) (x1 : Int) (x2 : Int) : Prop :=
  jR x2 ∧
  jR nPosts ∧
  ((nPosts ≤ x2 →
    wp_N_sidesWith 1 nPosts nArrows (fun z_4 =>
      wp_N_sidesWith 2 nPosts nArrows (fun z_5 =>
        Q (((x1 - z_4) - z_5) + nThirds)
      )
    )
  ) ∧ (¬ nPosts ≤ x2 →
    wp_N_cornersAt x2 nThirds nCorners (fun z_6 =>
      jR z_6 ∧
      ((z_6 ≤ 0 →
        K4 x1 (x2 + 1)
      ) ∧ (¬ z_6 ≤ 0 →
        K4 (x1 + 1) (x2 + 1)
      ))
    )
  ))
def wp_N_character_4 (Q : Int → Prop) (nPosts nThirds : Int) (nCorners nArrows : Nat → Int) : Nat → Int → Int → Prop
  | 0, _, _ => False
  | n + 1, x1, x2 => wp_N_character_4_b  (wp_N_character_4 Q nPosts nThirds nCorners nArrows n) Q nPosts nThirds nCorners nArrows  x1 x2
def wp_N_character (nPosts nThirds : Int) (nCorners nArrows : Nat → Int) (Q : Int → Prop) : Prop :=
  ∃ n : Nat, wp_N_character_4 Q nPosts nThirds nCorners nArrows n 0 0
abbrev rm_N_pieces : Room := { frames := 5, cells := 0, slots := 0, locals := 117 }
def wp_N_pieces_13_b (K13 : Int → Int → Int → Prop) (Q : Int → Prop) (nPosts : Int) (nArrows : Nat → Int) (x1 : Int) (x2 : Int) (x3 : Int) : Prop :=
  jR x3 ∧
  ((12 ≤ x3 →
    Q x1
  ) ∧ (¬ 12 ≤ x3 →
    jR x2 ∧
    ((x2 = 0 →
      Q x1
    ) ∧ (¬ x2 = 0 →
      wp_N_hangingWith (jand x2 (-x2)) (-1) nPosts nArrows (fun z_5 =>
        K13 (x1 + 1) (jand x2 (jxor z_5 (-1))) (x3 + 1)
      )
    ))
  ))
def wp_N_pieces_13 (Q : Int → Prop) (nPosts : Int) (nArrows : Nat → Int) : Nat → Int → Int → Int → Prop
  | 0, _, _, _ => False
  | n + 1, x1, x2, x3 => wp_N_pieces_13_b  (wp_N_pieces_13 Q nPosts nArrows n) Q nPosts nArrows  x1 x2 x3
def wp_N_pieces (nPosts nThirds : Int) (nArrows : Nat → Int) (Q : Int → Prop) : Prop :=
  ∃ n : Nat, wp_N_pieces_13 Q nPosts nArrows n 0 ((jshl 1 nThirds) - 1) 0
abbrev rm_X_posts : Room := { frames := 3, cells := 0, slots := 0, locals := 68 }
def wp_X_posts (x1 : Int) (nPosts nThirds : Int) (nCorners nSums nArrows : Nat → Int) (aBehind aAhead gFresh : Int) (Q : Int → Int → Int → (Nat → Int) → (Nat → Int) → Int → Int → Int → Prop) : Prop :=
  jR x1 ∧
  ((x1 < 3 →
    Q (-2) nPosts nThirds nSums nArrows aBehind aAhead gFresh
  ) ∧ (¬ x1 < 3 →
    ((x1 ≤ 9 →
      wp_N_postCount nPosts (fun z_4 =>
        wp_N_beginAnew x1 nPosts nThirds nCorners nSums nArrows (fun nPosts_5 nThirds_6 nSums_7 nArrows_8 =>
          wp_A_forgetAll aBehind aAhead (fun aBehind_9 aAhead_10 =>
            wp_G_forgetRow gFresh (fun gFresh_11 =>
              Q z_4 nPosts_5 nThirds_6 nSums_7 nArrows_8 aBehind_9 aAhead_10 gFresh_11
            )
          )
        )
      )
    ) ∧ (¬ x1 ≤ 9 →
      Q (-2) nPosts nThirds nSums nArrows aBehind aAhead gFresh
    ))
  ))
abbrev rm_X_goForward : Room := { frames := 4, cells := 0, slots := 0, locals := 92 }
def wp_X_goForward (nThirds : Int) (nCorners nSums nArrows : Nat → Int) (aBehind aAhead : Int) (aCells aAfter : Nat → Int) (gFresh : Int) (Q : Int → (Nat → Int) → (Nat → Int) → (Nat → Int) → Int → Int → Int → Prop) : Prop :=
  wp_A_forward nThirds nCorners nSums nArrows aBehind aAhead aCells aAfter (fun nThirds_1 nCorners_2 nSums_3 nArrows_4 aBehind_5 aAhead_6 =>
    wp_G_forgetRow gFresh (fun gFresh_7 =>
      Q nThirds_1 nCorners_2 nSums_3 nArrows_4 aBehind_5 aAhead_6 gFresh_7
    )
  )
abbrev rm_X_third : Room := { frames := 5, cells := 0, slots := 0, locals := 112 }
def wp_X_third (x1 x2 x3 : Int) (nPosts nThirds : Int) (nCorners nSums nArrows : Nat → Int) (aBehind aAhead : Int) (aCells aBefore aAfter : Nat → Int) (gFresh : Int) (Q : Int → Int → (Nat → Int) → (Nat → Int) → (Nat → Int) → Int → Int → (Nat → Int) → (Nat → Int) → (Nat → Int) → Int → Prop) : Prop :=
  wp_N_areUnlike x1 x2 nPosts (fun z_1 =>
    jR z_1 ∧
    ((z_1 = 0 →
      Q (-1) nThirds nCorners nSums nArrows aBehind aAhead aCells aBefore aAfter gFresh
    ) ∧ (¬ z_1 = 0 →
      wp_N_areUnlike x2 x3 nPosts (fun z_4 =>
        jR z_4 ∧
        ((z_4 = 0 →
          Q (-1) nThirds nCorners nSums nArrows aBehind aAhead aCells aBefore aAfter gFresh
        ) ∧ (¬ z_4 = 0 →
          wp_N_areUnlike x3 x1 nPosts (fun z_7 =>
            jR z_7 ∧
            ((z_7 = 0 →
              Q (-1) nThirds nCorners nSums nArrows aBehind aAhead aCells aBefore aAfter gFresh
            ) ∧ (¬ z_7 = 0 →
              wp_N_thirdCount nThirds (fun z_10 =>
                jR z_10 ∧
                ((z_10 < 12 →
                  wp_N_hasArrow x1 x2 nArrows (fun z_13 =>
                    jR z_13 ∧
                    ((z_13 = 0 →
                      wp_N_hasArrow x2 x3 nArrows (fun z_16 =>
                        jR z_16 ∧
                        ((z_16 = 0 →
                          wp_N_hasArrow x3 x1 nArrows (fun z_19 =>
                            jR z_19 ∧
                            ((z_19 = 0 →
                              wp_A_begin aBehind aAhead aCells aBefore aAfter (fun aBehind_22 aAhead_23 aCells_24 aBefore_25 aAfter_26 =>
                                wp_N_pack x1 x2 x3 (fun z_27 =>
                                  wp_A_note 0 z_10 (-1) z_27 aBehind_22 aCells_24 aBefore_25 aAfter_26 (fun aCells_28 aBefore_29 aAfter_30 =>
                                    wp_X_goForward nThirds nCorners nSums nArrows aBehind_22 aAhead_23 aCells_28 aAfter_30 gFresh (fun nThirds_31 nCorners_32 nSums_33 nArrows_34 aBehind_35 aAhead_36 gFresh_37 =>
                                      Q z_10 nThirds_31 nCorners_32 nSums_33 nArrows_34 aBehind_35 aAhead_36 aCells_28 aBefore_29 aAfter_30 gFresh_37
                                    )
                                  )
                                )
                              )
                            ) ∧ (¬ z_19 = 0 →
                              Q (-5) nThirds nCorners nSums nArrows aBehind aAhead aCells aBefore aAfter gFresh
                            ))
                          )
                        ) ∧ (¬ z_16 = 0 →
                          Q (-5) nThirds nCorners nSums nArrows aBehind aAhead aCells aBefore aAfter gFresh
                        ))
                      )
                    ) ∧ (¬ z_13 = 0 →
                      Q (-5) nThirds nCorners nSums nArrows aBehind aAhead aCells aBefore aAfter gFresh
                    ))
                  )
                ) ∧ (¬ z_10 < 12 →
                  Q (-4) nThirds nCorners nSums nArrows aBehind aAhead aCells aBefore aAfter gFresh
                ))
              )
            ))
          )
        ))
      )
    ))
  )
abbrev rm_X_at : Room := { frames := 2, cells := 0, slots := 0, locals := 41 }
def wp_X_at (x1 : Int) (nThirds : Int) (nCorners : Nat → Int) (Q : Int → Prop) : Prop :=
  wp_N_hasCorner x1 nThirds (fun z_1 =>
    jR z_1 ∧
    ((z_1 = 0 →
      Q (-1)
    ) ∧ (¬ z_1 = 0 →
      wp_N_postOf x1 nCorners (fun z_4 =>
        Q z_4
      )
    ))
  )
abbrev rm_X_side : Room := { frames := 3, cells := 0, slots := 0, locals := 66 }
def wp_X_side (x1 x2 : Int) (nPosts : Int) (nArrows : Nat → Int) (Q : Int → Prop) : Prop :=
  wp_N_areUnlike x1 x2 nPosts (fun z_1 =>
    jR z_1 ∧
    ((z_1 = 0 →
      Q (-1)
    ) ∧ (¬ z_1 = 0 →
      wp_N_thirdsAtSide x1 x2 nArrows (fun z_4 =>
        Q z_4
      )
    ))
  )
abbrev rm_X_arrow : Room := { frames := 2, cells := 0, slots := 0, locals := 44 }
def wp_X_arrow (x1 x2 : Int) (nPosts : Int) (nArrows : Nat → Int) (Q : Int → Prop) : Prop :=
  wp_N_areUnlike x1 x2 nPosts (fun z_1 =>
    jR z_1 ∧
    ((z_1 = 0 →
      Q (-1)
    ) ∧ (¬ z_1 = 0 →
      wp_N_hasArrow x1 x2 nArrows (fun z_4 =>
        jR z_4 ∧
        ((z_4 = 0 →
          Q (-6)
        ) ∧ (¬ z_4 = 0 →
          wp_N_thirdWith x1 x2 nArrows (fun z_7 =>
            Q z_7
          )
        ))
      )
    ))
  )
abbrev rm_X_turn : Room := { frames := 5, cells := 0, slots := 0, locals := 112 }
def wp_X_turn (x1 x2 : Int) (nPosts nThirds : Int) (nCorners nSums nArrows : Nat → Int) (aBehind aAhead : Int) (aCells aBefore aAfter : Nat → Int) (gFresh : Int) (Q : Int → Int → (Nat → Int) → (Nat → Int) → (Nat → Int) → Int → Int → (Nat → Int) → (Nat → Int) → (Nat → Int) → Int → Prop) : Prop :=
  wp_N_isSide x1 x2 nPosts nArrows (fun z_1 =>
    jR z_1 ∧
    ((z_1 = 0 →
      Q (-1) nThirds nCorners nSums nArrows aBehind aAhead aCells aBefore aAfter gFresh
    ) ∧ (¬ z_1 = 0 →
      wp_N_thirdsAtSide x1 x2 nArrows (fun z_4 =>
        jR z_4 ∧
        ((z_4 = 1 →
          Q (-3) nThirds nCorners nSums nArrows aBehind aAhead aCells aBefore aAfter gFresh
        ) ∧ (¬ z_4 = 1 →
          wp_N_thirdWith x1 x2 nArrows (fun z_7 =>
            wp_N_thirdWith x2 x1 nArrows (fun z_8 =>
              wp_N_cornerOpposite z_7 x1 x2 nCorners (fun z_9 =>
                wp_N_postOf z_9 nCorners (fun z_10 =>
                  wp_N_cornerOpposite z_8 x1 x2 nCorners (fun z_11 =>
                    wp_N_postOf z_11 nCorners (fun z_12 =>
                      jR z_10 ∧
                      jR z_12 ∧
                      ((z_10 = z_12 →
                        Q (-5) nThirds nCorners nSums nArrows aBehind aAhead aCells aBefore aAfter gFresh
                      ) ∧ (¬ z_10 = z_12 →
                        wp_N_isSide z_10 z_12 nPosts nArrows (fun z_16 =>
                          jR z_16 ∧
                          ((z_16 = 0 →
                            wp_A_begin aBehind aAhead aCells aBefore aAfter (fun aBehind_19 aAhead_20 aCells_21 aBefore_22 aAfter_23 =>
                              wp_N_packed z_7 nCorners (fun z_24 =>
                                wp_N_pack x1 z_12 z_10 (fun z_25 =>
                                  wp_A_note 0 z_7 z_24 z_25 aBehind_19 aCells_21 aBefore_22 aAfter_23 (fun aCells_26 aBefore_27 aAfter_28 =>
                                    wp_N_packed z_8 nCorners (fun z_29 =>
                                      wp_N_pack z_12 x2 z_10 (fun z_30 =>
                                        wp_A_note 1 z_8 z_29 z_30 aBehind_19 aCells_26 aBefore_27 aAfter_28 (fun aCells_31 aBefore_32 aAfter_33 =>
                                          wp_X_goForward nThirds nCorners nSums nArrows aBehind_19 aAhead_20 aCells_31 aAfter_33 gFresh (fun nThirds_34 nCorners_35 nSums_36 nArrows_37 aBehind_38 aAhead_39 gFresh_40 =>
                                            Q 1 nThirds_34 nCorners_35 nSums_36 nArrows_37 aBehind_38 aAhead_39 aCells_31 aBefore_32 aAfter_33 gFresh_40
                                          )
                                        )
                                      )
                                    )
                                  )
                                )
                              )
                            )
                          ) ∧ (¬ z_16 = 0 →
                            Q (-5) nThirds nCorners nSums nArrows aBehind aAhead aCells aBefore aAfter gFresh
                          ))
                        )
                      ))
                    )
                  )
                )
              )
            )
          )
        ))
      )
    ))
  )
abbrev rm_X_sumOrNone : Room := { frames := 1, cells := 0, slots := 0, locals := 21 }
def wp_X_sumOrNone (x1 : Int) (nSums : Nat → Int) (Q : Int → Prop) : Prop :=
  wp_N_sumOf x1 nSums (fun z_1 =>
    jR z_1 ∧
    ((z_1 = (-1) →
      Q (-6)
    ) ∧ (¬ z_1 = (-1) →
      Q z_1
    ))
  )
abbrev rm_X_about : Room := { frames := 7, cells := 0, slots := 0, locals := 169 }
def wp_X_about (x1 x2 : Int) (xStraight xLeast nPosts nThirds : Int) (nCorners nSums nArrows : Nat → Int) (gCorners gLowest gFirst gFresh gThere : Int) (gRow gPlaces gOver gVia gQueue : Nat → Int) (Q : Int → Int → Int → Int → Int → Int → (Nat → Int) → (Nat → Int) → (Nat → Int) → (Nat → Int) → (Nat → Int) → Prop) : Prop :=
  wp_N_hasPost x1 nPosts (fun z_1 =>
    jR z_1 ∧
    ((z_1 = 0 →
      Q (-1) gCorners gLowest gFirst gFresh gThere gRow gPlaces gOver gVia gQueue
    ) ∧ (¬ z_1 = 0 →
      jR x2 ∧
      (x2 = 0 →
        wp_N_cornersAt x1 nThirds nCorners (fun z_6 =>
          Q z_6 gCorners gLowest gFirst gFresh gThere gRow gPlaces gOver gVia gQueue
        )
      ) ∧
      (x2 = 1 →
        wp_N_sidesAt x1 1 nPosts nArrows (fun z_7 =>
          wp_N_sidesAt x1 2 nPosts nArrows (fun z_8 =>
            Q (z_7 + z_8) gCorners gLowest gFirst gFresh gThere gRow gPlaces gOver gVia gQueue
          )
        )
      ) ∧
      (x2 = 2 →
        wp_N_isFreeOfRim x1 nPosts nThirds nCorners nArrows (fun z_9 =>
          jR z_9 ∧
          ((z_9 = 0 →
            Q 0 gCorners gLowest gFirst gFresh gThere gRow gPlaces gOver gVia gQueue
          ) ∧ (¬ z_9 = 0 →
            Q 1 gCorners gLowest gFirst gFresh gThere gRow gPlaces gOver gVia gQueue
          ))
        )
      ) ∧
      (x2 = 3 →
        wp_N_isRound x1 nPosts nArrows (fun z_12 =>
          jR z_12 ∧
          ((z_12 = 0 →
            Q 0 gCorners gLowest gFirst gFresh gThere gRow gPlaces gOver gVia gQueue
          ) ∧ (¬ z_12 = 0 →
            Q 1 gCorners gLowest gFirst gFresh gThere gRow gPlaces gOver gVia gQueue
          ))
        )
      ) ∧
      (x2 = 4 →
        wp_X_sumOrNone x1 nSums (fun z_15 =>
          Q z_15 gCorners gLowest gFirst gFresh gThere gRow gPlaces gOver gVia gQueue
        )
      ) ∧
      (x2 = 5 →
        wp_G_findRow xStraight xLeast nPosts nThirds nCorners nSums gCorners gLowest gFirst gFresh gThere gRow gPlaces gOver gVia gQueue (fun z_16 gCorners_17 gLowest_18 gFirst_19 gFresh_20 gThere_21 gRow_22 gPlaces_23 gOver_24 gVia_25 gQueue_26 =>
          jR z_16 ∧
          ((z_16 = 0 →
            Q (-6) gCorners_17 gLowest_18 gFirst_19 gFresh_20 gThere_21 gRow_22 gPlaces_23 gOver_24 gVia_25 gQueue_26
          ) ∧ (¬ z_16 = 0 →
            wp_G_givenAt x1 nCorners gCorners_17 gRow_22 (fun z_29 =>
              Q z_29 gCorners_17 gLowest_18 gFirst_19 gFresh_20 gThere_21 gRow_22 gPlaces_23 gOver_24 gVia_25 gQueue_26
            )
          ))
        )
      ) ∧
      (¬ x2 = 0 ∧ ¬ x2 = 1 ∧ ¬ x2 = 2 ∧ ¬ x2 = 3 ∧ ¬ x2 = 4 ∧ ¬ x2 = 5 →
        Q (-2) gCorners gLowest gFirst gFresh gThere gRow gPlaces gOver gVia gQueue
      )
    ))
  )
abbrev rm_X_told : Room := { frames := 6, cells := 0, slots := 0, locals := 140 }
def wp_X_told (x1 : Int) (xStraight xLeast nPosts nThirds : Int) (nCorners nSums nArrows : Nat → Int) (Q : Int → Prop) : Prop :=
  jR x1 ∧
  (x1 = 0 →
    wp_N_postCount nPosts (fun z_3 =>
      Q z_3
    )
  ) ∧
  (x1 = 1 →
    wp_N_thirdCount nThirds (fun z_4 =>
      Q z_4
    )
  ) ∧
  (x1 = 2 →
    wp_N_sidesWith 1 nPosts nArrows (fun z_5 =>
      wp_N_sidesWith 2 nPosts nArrows (fun z_6 =>
        Q (z_5 + z_6)
      )
    )
  ) ∧
  (x1 = 3 →
    wp_N_sidesWith 1 nPosts nArrows (fun z_7 =>
      Q z_7
    )
  ) ∧
  (x1 = 4 →
    wp_N_character nPosts nThirds nCorners nArrows (fun z_8 =>
      Q z_8
    )
  ) ∧
  (x1 = 5 →
    wp_N_pieces nPosts nThirds nArrows (fun z_9 =>
      Q z_9
    )
  ) ∧
  (x1 = 6 →
    Q xStraight
  ) ∧
  (x1 = 7 →
    Q xLeast
  ) ∧
  (x1 = 8 →
    wp_N_allSums nPosts nSums (fun z_10 =>
      Q z_10
    )
  ) ∧
  (¬ x1 = 0 ∧ ¬ x1 = 1 ∧ ¬ x1 = 2 ∧ ¬ x1 = 3 ∧ ¬ x1 = 4 ∧ ¬ x1 = 5 ∧ ¬ x1 = 6 ∧ ¬ x1 = 7 ∧ ¬ x1 = 8 →
    Q (-1002)
  )
abbrev rm_X_straight : Room := { frames := 1, cells := 0, slots := 0, locals := 20 }
def wp_X_straight (x1 : Int) (xStraight xLeast gFresh : Int) (Q : Int → Int → Int → Prop) : Prop :=
  jR x1 ∧
  ((x1 < 6 →
    Q (-2) xStraight gFresh
  ) ∧ (¬ x1 < 6 →
    ((360 < x1 →
      Q (-2) xStraight gFresh
    ) ∧ (¬ 360 < x1 →
      jR (3 * xLeast) ∧
      (((3 * xLeast) ≤ x1 →
        wp_G_forgetRow gFresh (fun gFresh_6 =>
          Q xStraight x1 gFresh_6
        )
      ) ∧ (¬ (3 * xLeast) ≤ x1 →
        Q (-2) xStraight gFresh
      ))
    ))
  ))
abbrev rm_X_least : Room := { frames := 1, cells := 0, slots := 0, locals := 20 }
def wp_X_least (x1 : Int) (xStraight xLeast gFresh : Int) (Q : Int → Int → Int → Prop) : Prop :=
  jR x1 ∧
  ((x1 < 1 →
    Q (-2) xLeast gFresh
  ) ∧ (¬ x1 < 1 →
    ((60 < x1 →
      Q (-2) xLeast gFresh
    ) ∧ (¬ 60 < x1 →
      jR (3 * x1) ∧
      jR xStraight ∧
      (((3 * x1) ≤ xStraight →
        wp_G_forgetRow gFresh (fun gFresh_7 =>
          Q xLeast x1 gFresh_7
        )
      ) ∧ (¬ (3 * x1) ≤ xStraight →
        Q (-2) xLeast gFresh
      ))
    ))
  ))
abbrev rm_X_tell : Room := { frames := 5, cells := 0, slots := 0, locals := 112 }
def wp_X_tell (x1 x2 : Int) (nPosts nThirds : Int) (nCorners nSums nArrows : Nat → Int) (aBehind aAhead : Int) (aCells aBefore aAfter : Nat → Int) (gFresh : Int) (Q : Int → Int → (Nat → Int) → (Nat → Int) → (Nat → Int) → Int → Int → (Nat → Int) → (Nat → Int) → (Nat → Int) → Int → Prop) : Prop :=
  wp_N_hasPost x1 nPosts (fun z_1 =>
    jR z_1 ∧
    ((z_1 = 0 →
      Q (-1) nThirds nCorners nSums nArrows aBehind aAhead aCells aBefore aAfter gFresh
    ) ∧ (¬ z_1 = 0 →
      jR x2 ∧
      ((x2 < (-1) →
        Q (-2) nThirds nCorners nSums nArrows aBehind aAhead aCells aBefore aAfter gFresh
      ) ∧ (¬ x2 < (-1) →
        ((x2 ≤ 4000 →
          wp_X_sumOrNone x1 nSums (fun z_7 =>
            wp_A_begin aBehind aAhead aCells aBefore aAfter (fun aBehind_8 aAhead_9 aCells_10 aBefore_11 aAfter_12 =>
              wp_N_sumOf x1 nSums (fun z_13 =>
                wp_A_note 0 (12 + x1) z_13 x2 aBehind_8 aCells_10 aBefore_11 aAfter_12 (fun aCells_14 aBefore_15 aAfter_16 =>
                  wp_X_goForward nThirds nCorners nSums nArrows aBehind_8 aAhead_9 aCells_14 aAfter_16 gFresh (fun nThirds_17 nCorners_18 nSums_19 nArrows_20 aBehind_21 aAhead_22 gFresh_23 =>
                    Q z_7 nThirds_17 nCorners_18 nSums_19 nArrows_20 aBehind_21 aAhead_22 aCells_14 aBefore_15 aAfter_16 gFresh_23
                  )
                )
              )
            )
          )
        ) ∧ (¬ x2 ≤ 4000 →
          Q (-2) nThirds nCorners nSums nArrows aBehind aAhead aCells aBefore aAfter gFresh
        ))
      ))
    ))
  )
abbrev rm_X_can : Room := { frames := 7, cells := 0, slots := 0, locals := 169 }
def wp_X_can (xStraight xLeast nPosts nThirds : Int) (nCorners nSums : Nat → Int) (gCorners gLowest gFirst gFresh gThere : Int) (gRow gPlaces gOver gVia gQueue : Nat → Int) (Q : Int → Int → Int → Int → Int → Int → (Nat → Int) → (Nat → Int) → (Nat → Int) → (Nat → Int) → (Nat → Int) → Prop) : Prop :=
  wp_G_findRow xStraight xLeast nPosts nThirds nCorners nSums gCorners gLowest gFirst gFresh gThere gRow gPlaces gOver gVia gQueue (fun z_1 gCorners_2 gLowest_3 gFirst_4 gFresh_5 gThere_6 gRow_7 gPlaces_8 gOver_9 gVia_10 gQueue_11 =>
    jR z_1 ∧
    ((z_1 = 0 →
      Q 0 gCorners_2 gLowest_3 gFirst_4 gFresh_5 gThere_6 gRow_7 gPlaces_8 gOver_9 gVia_10 gQueue_11
    ) ∧ (¬ z_1 = 0 →
      Q 1 gCorners_2 gLowest_3 gFirst_4 gFresh_5 gThere_6 gRow_7 gPlaces_8 gOver_9 gVia_10 gQueue_11
    ))
  )
abbrev rm_X_angle : Room := { frames := 7, cells := 0, slots := 0, locals := 169 }
def wp_X_angle (x1 : Int) (xStraight xLeast nPosts nThirds : Int) (nCorners nSums : Nat → Int) (gCorners gLowest gFirst gFresh gThere : Int) (gRow gPlaces gOver gVia gQueue : Nat → Int) (Q : Int → Int → Int → Int → Int → Int → (Nat → Int) → (Nat → Int) → (Nat → Int) → (Nat → Int) → (Nat → Int) → Prop) : Prop :=
  wp_N_hasCorner x1 nThirds (fun z_1 =>
    jR z_1 ∧
    ((z_1 = 0 →
      Q (-1) gCorners gLowest gFirst gFresh gThere gRow gPlaces gOver gVia gQueue
    ) ∧ (¬ z_1 = 0 →
      wp_G_findRow xStraight xLeast nPosts nThirds nCorners nSums gCorners gLowest gFirst gFresh gThere gRow gPlaces gOver gVia gQueue (fun z_4 gCorners_5 gLowest_6 gFirst_7 gFresh_8 gThere_9 gRow_10 gPlaces_11 gOver_12 gVia_13 gQueue_14 =>
        jR z_4 ∧
        ((z_4 = 0 →
          Q (-6) gCorners_5 gLowest_6 gFirst_7 gFresh_8 gThere_9 gRow_10 gPlaces_11 gOver_12 gVia_13 gQueue_14
        ) ∧ (¬ z_4 = 0 →
          wp_G_given x1 gRow_10 (fun z_17 =>
            Q z_17 gCorners_5 gLowest_6 gFirst_7 gFresh_8 gThere_9 gRow_10 gPlaces_11 gOver_12 gVia_13 gQueue_14
          )
        ))
      )
    ))
  )
abbrev rm_X_best : Room := { frames := 6, cells := 0, slots := 0, locals := 146 }
def wp_X_best_18_b (K18 : Int → Int → Int → Int → Int → Int → Int → (Nat → Int) → (Nat → Int) → (Nat → Int) → (Nat → Int) → (Nat → Int) → Prop) (Q : Int → Int → Int → Int → Int → (Nat → Int) → (Nat → Int) → (Nat → Int) → (Nat → Int) → (Nat → Int) → Prop) (xStraight nPosts nThirds : Int) (nCorners nSums : Nat → Int) (x1 : Int) (x2 : Int) (x3 : Int) (gCorners : Int) (gLowest : Int) (gFirst : Int) (gFresh : Int) (gRow : Nat → Int) (gPlaces : Nat → Int) (gOver : Nat → Int) (gVia : Nat → Int) (gQueue : Nat → Int) : Prop :=
  jR x3 ∧
  ((60 ≤ x3 →
    jR x1 ∧
    ((x1 = 0 →
      Q (-6) gCorners gLowest gFirst gFresh gRow gPlaces gOver gVia gQueue
    ) ∧ (¬ x1 = 0 →
      Q x1 gCorners gLowest gFirst gFresh gRow gPlaces gOver gVia gQueue
    ))
  ) ∧ (¬ 60 ≤ x3 →
    jR (x2 - x1) ∧
    (((x2 - x1) ≤ 1 →
      jR x1 ∧
      ((x1 = 0 →
        Q (-6) gCorners gLowest gFirst gFresh gRow gPlaces gOver gVia gQueue
      ) ∧ (¬ x1 = 0 →
        Q x1 gCorners gLowest gFirst gFresh gRow gPlaces gOver gVia gQueue
      ))
    ) ∧ (¬ (x2 - x1) ≤ 1 →
      wp_G_findAny xStraight (jdiv (x1 + x2) 2) nPosts nThirds nCorners nSums gCorners gLowest gFirst gFresh gRow gPlaces gOver gVia gQueue (fun z_9 gCorners_10 gLowest_11 gFirst_12 gFresh_13 gRow_14 gPlaces_15 gOver_16 gVia_17 gQueue_18 =>
        jR z_9 ∧
        ((z_9 = 0 →
          K18 x1 (jdiv (x1 + x2) 2) (x3 + 1) gCorners_10 gLowest_11 gFirst_12 gFresh_13 gRow_14 gPlaces_15 gOver_16 gVia_17 gQueue_18
        ) ∧ (¬ z_9 = 0 →
          K18 (jdiv (x1 + x2) 2) x2 (x3 + 1) gCorners_10 gLowest_11 gFirst_12 gFresh_13 gRow_14 gPlaces_15 gOver_16 gVia_17 gQueue_18
        ))
      )
    ))
  ))
def wp_X_best_18 (Q : Int → Int → Int → Int → Int → (Nat → Int) → (Nat → Int) → (Nat → Int) → (Nat → Int) → (Nat → Int) → Prop) (xStraight nPosts nThirds : Int) (nCorners nSums : Nat → Int) : Nat → Int → Int → Int → Int → Int → Int → Int → (Nat → Int) → (Nat → Int) → (Nat → Int) → (Nat → Int) → (Nat → Int) → Prop
  | 0, _, _, _, _, _, _, _, _, _, _, _, _ => False
  | n + 1, x1, x2, x3, gCorners, gLowest, gFirst, gFresh, gRow, gPlaces, gOver, gVia, gQueue => wp_X_best_18_b  (wp_X_best_18 Q xStraight nPosts nThirds nCorners nSums n) Q xStraight nPosts nThirds nCorners nSums  x1 x2 x3 gCorners gLowest gFirst gFresh gRow gPlaces gOver gVia gQueue
def wp_X_best (xStraight nPosts nThirds : Int) (nCorners nSums : Nat → Int) (gCorners gLowest gFirst gFresh : Int) (gRow gPlaces gOver gVia gQueue : Nat → Int) (Q : Int → Int → Int → Int → Int → (Nat → Int) → (Nat → Int) → (Nat → Int) → (Nat → Int) → (Nat → Int) → Prop) : Prop :=
  ∃ n : Nat, wp_X_best_18 Q xStraight nPosts nThirds nCorners nSums n 0 ((jmin 60 (jdiv xStraight 3)) + 1) 0 gCorners gLowest gFirst gFresh gRow gPlaces gOver gVia gQueue
abbrev rm_X_bar : Room := { frames := 7, cells := 0, slots := 0, locals := 169 }
def wp_X_bar (x1 : Int) (xStraight xLeast nPosts nThirds : Int) (nCorners nSums : Nat → Int) (gCorners gLowest gFirst gFresh gThere : Int) (gRow gPlaces gOver gVia gQueue : Nat → Int) (bTold bStraight bLeast : Int) (bPostsOf bSets bTotals : Nat → Int) (Q : Int → Int → Int → Int → Int → Int → (Nat → Int) → (Nat → Int) → (Nat → Int) → (Nat → Int) → (Nat → Int) → Int → Int → Int → (Nat → Int) → (Nat → Int) → (Nat → Int) → Prop) : Prop :=
  jR x1 ∧
  ((x1 < 0 →
    Q (-2) gCorners gLowest gFirst gFresh gThere gRow gPlaces gOver gVia gQueue bTold bStraight bLeast bPostsOf bSets bTotals
  ) ∧ (¬ x1 < 0 →
    ((x1 ≤ 2 →
      wp_G_findRow xStraight xLeast nPosts nThirds nCorners nSums gCorners gLowest gFirst gFresh gThere gRow gPlaces gOver gVia gQueue (fun z_4 gCorners_5 gLowest_6 gFirst_7 gFresh_8 gThere_9 gRow_10 gPlaces_11 gOver_12 gVia_13 gQueue_14 =>
        jR z_4 ∧
        ((z_4 = 0 →
          wp_B_fewest x1 xStraight xLeast nPosts nThirds nCorners nSums bTold bStraight bLeast bPostsOf bSets bTotals (fun z_17 bTold_18 bStraight_19 bLeast_20 bPostsOf_21 bSets_22 bTotals_23 =>
            Q z_17 gCorners_5 gLowest_6 gFirst_7 gFresh_8 gThere_9 gRow_10 gPlaces_11 gOver_12 gVia_13 gQueue_14 bTold_18 bStraight_19 bLeast_20 bPostsOf_21 bSets_22 bTotals_23
          )
        ) ∧ (¬ z_4 = 0 →
          Q 0 gCorners_5 gLowest_6 gFirst_7 gFresh_8 gThere_9 gRow_10 gPlaces_11 gOver_12 gVia_13 gQueue_14 bTold bStraight bLeast bPostsOf bSets bTotals
        ))
      )
    ) ∧ (¬ x1 ≤ 2 →
      Q (-2) gCorners gLowest gFirst gFresh gThere gRow gPlaces gOver gVia gQueue bTold bStraight bLeast bPostsOf bSets bTotals
    ))
  ))
abbrev rm_X_givenOpposite : Room := { frames := 2, cells := 0, slots := 0, locals := 44 }
def wp_X_givenOpposite_42 (Q : Int → Prop) (nCorners nArrows gRow : Nat → Int) (x1 : Int) (x2 : Int) (x3 : Int) : Prop :=
  wp_N_hasArrow x2 x1 nArrows (fun z_1 =>
    jR z_1 ∧
    ((z_1 = 0 →
      Q x3
    ) ∧ (¬ z_1 = 0 →
      wp_N_thirdWith x2 x1 nArrows (fun z_4 =>
        wp_N_cornerOpposite z_4 x1 x2 nCorners (fun z_5 =>
          wp_G_given z_5 gRow (fun z_6 =>
            Q (x3 + z_6)
          )
        )
      )
    ))
  )
def wp_X_givenOpposite (x1 x2 : Int) (nCorners nArrows gRow : Nat → Int) (Q : Int → Prop) : Prop :=
  wp_N_hasArrow x1 x2 nArrows (fun z_7 =>
    jR z_7 ∧
    ((z_7 = 0 →
      wp_X_givenOpposite_42 Q nCorners nArrows gRow x1 x2 0
    ) ∧ (¬ z_7 = 0 →
      wp_N_thirdWith x1 x2 nArrows (fun z_10 =>
        wp_N_cornerOpposite z_10 x1 x2 nCorners (fun z_11 =>
          wp_G_given z_11 gRow (fun z_12 =>
            wp_X_givenOpposite_42 Q nCorners nArrows gRow x1 x2 (0 + z_12)
          )
        )
      )
    ))
  )
abbrev rm_X_opposite : Room := { frames := 7, cells := 0, slots := 0, locals := 169 }
def wp_X_opposite (x1 x2 : Int) (xStraight xLeast nPosts nThirds : Int) (nCorners nSums nArrows : Nat → Int) (gCorners gLowest gFirst gFresh gThere : Int) (gRow gPlaces gOver gVia gQueue : Nat → Int) (Q : Int → Int → Int → Int → Int → Int → (Nat → Int) → (Nat → Int) → (Nat → Int) → (Nat → Int) → (Nat → Int) → Prop) : Prop :=
  wp_N_isSide x1 x2 nPosts nArrows (fun z_1 =>
    jR z_1 ∧
    ((z_1 = 0 →
      Q (-1) gCorners gLowest gFirst gFresh gThere gRow gPlaces gOver gVia gQueue
    ) ∧ (¬ z_1 = 0 →
      wp_G_findRow xStraight xLeast nPosts nThirds nCorners nSums gCorners gLowest gFirst gFresh gThere gRow gPlaces gOver gVia gQueue (fun z_4 gCorners_5 gLowest_6 gFirst_7 gFresh_8 gThere_9 gRow_10 gPlaces_11 gOver_12 gVia_13 gQueue_14 =>
        jR z_4 ∧
        ((z_4 = 0 →
          Q (-6) gCorners_5 gLowest_6 gFirst_7 gFresh_8 gThere_9 gRow_10 gPlaces_11 gOver_12 gVia_13 gQueue_14
        ) ∧ (¬ z_4 = 0 →
          wp_X_givenOpposite x1 x2 nCorners nArrows gRow_10 (fun z_17 =>
            Q z_17 gCorners_5 gLowest_6 gFirst_7 gFresh_8 gThere_9 gRow_10 gPlaces_11 gOver_12 gVia_13 gQueue_14
          )
        ))
      )
    ))
  )
abbrev rm_X_fit : Room := { frames := 7, cells := 0, slots := 0, locals := 169 }
def wp_X_fit_40_b (K25 : Int → Int → Prop) (K40 : Int → Int → Prop) (Q : Int → Int → Int → Int → Int → Int → (Nat → Int) → (Nat → Int) → (Nat → Int) → (Nat → Int) → (Nat → Int) → Prop) (xStraight nPosts : Int) (nCorners nArrows : Nat → Int) (x2 : Int) (gCorners : Int) (gLowest : Int) (gFirst : Int) (gFresh : Int) (gThere : Int) (gRow : Nat → Int) (gPlaces : Nat → Int) (gOver : Nat → Int) (gVia : Nat → Int) (gQueue : Nat → Int) (x1 : Int) (x3 : Int) : Prop :=
  wp_N_postCount nPosts (fun z_1 =>
    jR x3 ∧
    jR z_1 ∧
    ((z_1 ≤ x3 →
      K25 x1 (x2 + 1)
    ) ∧ (¬ z_1 ≤ x3 →
      wp_N_thirdsAtSide x2 x3 nArrows (fun z_5 =>
        jR z_5 ∧
        ((z_5 = 2 →
          wp_X_givenOpposite x2 x3 nCorners nArrows gRow (fun z_8 =>
            jR z_8 ∧
            jR xStraight ∧
            ((xStraight < z_8 →
              K40 x1 (x3 + 1)
            ) ∧ (¬ xStraight < z_8 →
              K40 (x1 + 1) (x3 + 1)
            ))
          )
        ) ∧ (¬ z_5 = 2 →
          K40 x1 (x3 + 1)
        ))
      )
    ))
  )
def wp_X_fit_40 (K25 : Int → Int → Prop) (Q : Int → Int → Int → Int → Int → Int → (Nat → Int) → (Nat → Int) → (Nat → Int) → (Nat → Int) → (Nat → Int) → Prop) (xStraight nPosts : Int) (nCorners nArrows : Nat → Int) (x2 : Int) (gCorners : Int) (gLowest : Int) (gFirst : Int) (gFresh : Int) (gThere : Int) (gRow : Nat → Int) (gPlaces : Nat → Int) (gOver : Nat → Int) (gVia : Nat → Int) (gQueue : Nat → Int) : Nat → Int → Int → Prop
  | 0, _, _ => False
  | n + 1, x1, x3 => wp_X_fit_40_b K25 (wp_X_fit_40 K25 Q xStraight nPosts nCorners nArrows x2 gCorners gLowest gFirst gFresh gThere gRow gPlaces gOver gVia gQueue n) Q xStraight nPosts nCorners nArrows x2 gCorners gLowest gFirst gFresh gThere gRow gPlaces gOver gVia gQueue x1 x3
def wp_X_fit_25_b (K25 : Int → Int → Prop) (Q : Int → Int → Int → Int → Int → Int → (Nat → Int) → (Nat → Int) → (Nat → Int) → (Nat → Int) → (Nat → Int) → Prop) (xStraight nPosts : Int) (nCorners nArrows : Nat → Int) (gCorners : Int) (gLowest : Int) (gFirst : Int) (gFresh : Int) (gThere : Int) (gRow : Nat → Int) (gPlaces : Nat → Int) (gOver : Nat → Int) (gVia : Nat → Int) (gQueue : Nat → Int) (x1 : Int) (x2 : Int) : Prop :=
  wp_N_postCount nPosts (fun z_12 =>
    jR x2 ∧
    jR z_12 ∧
    ((z_12 ≤ x2 →
      Q x1 gCorners gLowest gFirst gFresh gThere gRow gPlaces gOver gVia gQueue
    ) ∧ (¬ z_12 ≤ x2 →
      ∃ n : Nat, wp_X_fit_40 K25 Q xStraight nPosts nCorners nArrows x2 gCorners gLowest gFirst gFresh gThere gRow gPlaces gOver gVia gQueue n x1 (x2 + 1)
    ))
  )
def wp_X_fit_25 (Q : Int → Int → Int → Int → Int → Int → (Nat → Int) → (Nat → Int) → (Nat → Int) → (Nat → Int) → (Nat → Int) → Prop) (xStraight nPosts : Int) (nCorners nArrows : Nat → Int) (gCorners : Int) (gLowest : Int) (gFirst : Int) (gFresh : Int) (gThere : Int) (gRow : Nat → Int) (gPlaces : Nat → Int) (gOver : Nat → Int) (gVia : Nat → Int) (gQueue : Nat → Int) : Nat → Int → Int → Prop
  | 0, _, _ => False
  | n + 1, x1, x2 => wp_X_fit_25_b  (wp_X_fit_25 Q xStraight nPosts nCorners nArrows gCorners gLowest gFirst gFresh gThere gRow gPlaces gOver gVia gQueue n) Q xStraight nPosts nCorners nArrows gCorners gLowest gFirst gFresh gThere gRow gPlaces gOver gVia gQueue x1 x2
def wp_X_fit (xStraight xLeast nPosts nThirds : Int) (nCorners nSums nArrows : Nat → Int) (gCorners gLowest gFirst gFresh gThere : Int) (gRow gPlaces gOver gVia gQueue : Nat → Int) (Q : Int → Int → Int → Int → Int → Int → (Nat → Int) → (Nat → Int) → (Nat → Int) → (Nat → Int) → (Nat → Int) → Prop) : Prop :=
  wp_G_findRow xStraight xLeast nPosts nThirds nCorners nSums gCorners gLowest gFirst gFresh gThere gRow gPlaces gOver gVia gQueue (fun z_16 gCorners_17 gLowest_18 gFirst_19 gFresh_20 gThere_21 gRow_22 gPlaces_23 gOver_24 gVia_25 gQueue_26 =>
    jR z_16 ∧
    ((z_16 = 0 →
      Q (-6) gCorners_17 gLowest_18 gFirst_19 gFresh_20 gThere_21 gRow_22 gPlaces_23 gOver_24 gVia_25 gQueue_26
    ) ∧ (¬ z_16 = 0 →
      ∃ n : Nat, wp_X_fit_25 Q xStraight nPosts nCorners nArrows gCorners_17 gLowest_18 gFirst_19 gFresh_20 gThere_21 gRow_22 gPlaces_23 gOver_24 gVia_25 gQueue_26 n 0 0
    ))
  )
abbrev rm_X_undo : Room := { frames := 4, cells := 0, slots := 0, locals := 92 }
def wp_X_undo (nThirds : Int) (nCorners nSums nArrows : Nat → Int) (aBehind aAhead : Int) (aCells aBefore : Nat → Int) (gFresh : Int) (Q : Int → Int → (Nat → Int) → (Nat → Int) → (Nat → Int) → Int → Int → Int → Prop) : Prop :=
  wp_A_behind aBehind (fun z_1 =>
    jR z_1 ∧
    ((z_1 = 0 →
      Q (-3) nThirds nCorners nSums nArrows aBehind aAhead gFresh
    ) ∧ (¬ z_1 = 0 →
      wp_A_backward nThirds nCorners nSums nArrows aBehind aAhead aCells aBefore (fun nThirds_4 nCorners_5 nSums_6 nArrows_7 aBehind_8 aAhead_9 =>
        wp_G_forgetRow gFresh (fun gFresh_10 =>
          wp_A_behind aBehind_8 (fun z_11 =>
            Q z_11 nThirds_4 nCorners_5 nSums_6 nArrows_7 aBehind_8 aAhead_9 gFresh_10
          )
        )
      )
    ))
  )
abbrev rm_X_redo : Room := { frames := 5, cells := 0, slots := 0, locals := 112 }
def wp_X_redo (nThirds : Int) (nCorners nSums nArrows : Nat → Int) (aBehind aAhead : Int) (aCells aAfter : Nat → Int) (gFresh : Int) (Q : Int → Int → (Nat → Int) → (Nat → Int) → (Nat → Int) → Int → Int → Int → Prop) : Prop :=
  wp_A_ahead aAhead (fun z_1 =>
    jR z_1 ∧
    ((z_1 = 0 →
      Q (-3) nThirds nCorners nSums nArrows aBehind aAhead gFresh
    ) ∧ (¬ z_1 = 0 →
      wp_X_goForward nThirds nCorners nSums nArrows aBehind aAhead aCells aAfter gFresh (fun nThirds_4 nCorners_5 nSums_6 nArrows_7 aBehind_8 aAhead_9 gFresh_10 =>
        wp_A_ahead aAhead_9 (fun z_11 =>
          Q z_11 nThirds_4 nCorners_5 nSums_6 nArrows_7 aBehind_8 aAhead_9 gFresh_10
        )
      )
    ))
  )
abbrev rm_M_in : Room := { frames := 0, cells := 0, slots := 0, locals := 0 }
def wp_M_in (x0 x1 x2 : Int) (Q : Int → Prop) : Prop :=
  jR x0 ∧
  jR x1 ∧
  ((x0 < x1 →
    Q 0
  ) ∧ (¬ x0 < x1 →
    jR x2 ∧
    ((x2 < x0 →
      Q 0
    ) ∧ (¬ x2 < x0 →
      Q 1
    ))
  ))
abbrev rm_M_begin : Room := { frames := 0, cells := 0, slots := 0, locals := 0 }
def wp_M_begin_7_b (K7 : Int → (Nat → Int) → Prop) (Q : Int → Int → Int → Int → (Nat → Int) → Prop) (mThirds : Int) (mIsLaid : Int) (mActs : Int) (mDone : Int) (x1 : Int) (mSum : Nat → Int) : Prop :=
  jR x1 ∧
  ((9 ≤ x1 →
    Q mThirds 0 0 0 mSum
  ) ∧ (¬ 9 ≤ x1 →
    (0 ≤ x1 ∧ x1 < 9) ∧
    ∀ mSum_4 : Nat → Int, mSum_4 = up mSum x1.toNat (-6) →
    K7 (x1 + 1) mSum_4
  ))
def wp_M_begin_7 (Q : Int → Int → Int → Int → (Nat → Int) → Prop) (mThirds : Int) (mIsLaid : Int) (mActs : Int) (mDone : Int) : Nat → Int → (Nat → Int) → Prop
  | 0, _, _ => False
  | n + 1, x1, mSum => wp_M_begin_7_b  (wp_M_begin_7 Q mThirds mIsLaid mActs mDone n) Q  mThirds mIsLaid mActs mDone x1 mSum
def wp_M_begin (mThirds mIsLaid mActs mDone : Int) (mSum : Nat → Int) (Q : Int → Int → Int → Int → (Nat → Int) → Prop) : Prop :=
  ∃ n : Nat, wp_M_begin_7 Q 0 mIsLaid mActs mDone n 0 mSum
abbrev rm_M_isPost : Room := { frames := 1, cells := 0, slots := 0, locals := 22 }
def wp_M_isPost (x1 : Int) (mPosts : Int) (Q : Int → Prop) : Prop :=
  wp_M_in x1 0 (mPosts - 1) (fun z_1 =>
    (z_1 = 0 ∨ z_1 = 1) ∧
    Q z_1
  )
abbrev rm_M_arePair : Room := { frames := 2, cells := 0, slots := 0, locals := 43 }
def wp_M_arePair (x1 x2 : Int) (mPosts : Int) (Q : Int → Prop) : Prop :=
  wp_M_isPost x1 mPosts (fun z_1 =>
    jR z_1 ∧
    ((z_1 = 0 →
      Q 0
    ) ∧ (¬ z_1 = 0 →
      wp_M_isPost x2 mPosts (fun z_4 =>
        jR z_4 ∧
        ((z_4 = 0 →
          Q 0
        ) ∧ (¬ z_4 = 0 →
          jR x1 ∧
          jR x2 ∧
          ((x1 = x2 →
            Q 0
          ) ∧ (¬ x1 = x2 →
            Q 1
          ))
        ))
      )
    ))
  )
abbrev rm_M_posts : Room := { frames := 1, cells := 0, slots := 0, locals := 22 }
def wp_M_posts (x1 : Int) (mPosts mThirds mIsLaid mActs mDone : Int) (mSum : Nat → Int) (Q : Int → Int → Int → Int → Int → Int → (Nat → Int) → Prop) : Prop :=
  wp_M_in x1 3 9 (fun z_1 =>
    jR z_1 ∧
    ((z_1 = 0 →
      Q (-2) mPosts mThirds mIsLaid mActs mDone mSum
    ) ∧ (¬ z_1 = 0 →
      wp_M_begin mThirds mIsLaid mActs mDone mSum (fun mThirds_4 mIsLaid_5 mActs_6 mDone_7 mSum_8 =>
        Q mPosts x1 mThirds_4 mIsLaid_5 mActs_6 mDone_7 mSum_8
      )
    ))
  )
abbrev rm_M_arrowOf : Room := { frames := 0, cells := 0, slots := 0, locals := 0 }
def wp_M_arrowOf_2_b (K2 : Int → Prop) (Q : Int → Prop) (mThirds : Int) (mCorner : Nat → Int) (x1 : Int) (x2 : Int) (x3 : Int) : Prop :=
  jR x3 ∧
  jR (3 * mThirds) ∧
  (((3 * mThirds) ≤ x3 →
    Q (-6)
  ) ∧ (¬ (3 * mThirds) ≤ x3 →
    (0 ≤ x3 ∧ x3 < 36) ∧
    jR (mCorner x3.toNat) ∧
    jR x1 ∧
    (((mCorner x3.toNat) = x1 →
      (0 ≤ (((jdiv x3 3) * 3) + (jrem (x3 + 1) 3)) ∧ (((jdiv x3 3) * 3) + (jrem (x3 + 1) 3)) < 36) ∧
      jR (mCorner (((jdiv x3 3) * 3) + (jrem (x3 + 1) 3)).toNat) ∧
      jR x2 ∧
      (((mCorner (((jdiv x3 3) * 3) + (jrem (x3 + 1) 3)).toNat) = x2 →
        Q (jdiv x3 3)
      ) ∧ (¬ (mCorner (((jdiv x3 3) * 3) + (jrem (x3 + 1) 3)).toNat) = x2 →
        K2 (x3 + 1)
      ))
    ) ∧ (¬ (mCorner x3.toNat) = x1 →
      K2 (x3 + 1)
    ))
  ))
def wp_M_arrowOf_2 (Q : Int → Prop) (mThirds : Int) (mCorner : Nat → Int) (x1 : Int) (x2 : Int) : Nat → Int → Prop
  | 0, _ => False
  | n + 1, x3 => wp_M_arrowOf_2_b  (wp_M_arrowOf_2 Q mThirds mCorner x1 x2 n) Q mThirds mCorner x1 x2 x3
def wp_M_arrowOf (x1 x2 : Int) (mThirds : Int) (mCorner : Nat → Int) (Q : Int → Prop) : Prop :=
  ∃ n : Nat, wp_M_arrowOf_2 Q mThirds mCorner x1 x2 n 0
abbrev rm_M_sideOf : Room := { frames := 1, cells := 0, slots := 0, locals := 23 }
def wp_M_sideOf (x1 x2 : Int) (mThirds : Int) (mCorner : Nat → Int) (Q : Int → Prop) : Prop :=
  wp_M_arrowOf x1 x2 mThirds mCorner (fun z_1 =>
    jR z_1 ∧
    ((z_1 < 0 →
      wp_M_arrowOf x2 x1 mThirds mCorner (fun z_4 =>
        jR z_4 ∧
        ((z_4 < 0 →
          Q (0 + 0)
        ) ∧ (¬ z_4 < 0 →
          Q (0 + 1)
        ))
      )
    ) ∧ (¬ z_1 < 0 →
      wp_M_arrowOf x2 x1 mThirds mCorner (fun z_7 =>
        jR z_7 ∧
        ((z_7 < 0 →
          Q (1 + 0)
        ) ∧ (¬ z_7 < 0 →
          Q (1 + 1)
        ))
      )
    ))
  )
abbrev rm_M_put : Room := { frames := 0, cells := 0, slots := 0, locals := 0 }
def wp_M_put (x1 x2 x3 x4 : Int) (mCorner : Nat → Int) (Q : (Nat → Int) → Prop) : Prop :=
  (0 ≤ (3 * x1) ∧ (3 * x1) < 36) ∧
  ∀ mCorner_2 : Nat → Int, mCorner_2 = up mCorner (3 * x1).toNat x2 →
  (0 ≤ ((3 * x1) + 1) ∧ ((3 * x1) + 1) < 36) ∧
  ∀ mCorner_4 : Nat → Int, mCorner_4 = up mCorner_2 ((3 * x1) + 1).toNat x3 →
  (0 ≤ ((3 * x1) + 2) ∧ ((3 * x1) + 2) < 36) ∧
  ∀ mCorner_6 : Nat → Int, mCorner_6 = up mCorner_4 ((3 * x1) + 2).toNat x4 →
  Q mCorner_6
abbrev rm_M_write : Room := { frames := 0, cells := 0, slots := 0, locals := 0 }
def wp_M_write_53 (Q : Int → Int → Int → (Nat → Int) → Prop) (x1 : Int) (x2 : Int) (x3 : Int) (mIsLaid : Int) (mActs : Int) (mDone : Int) (mAct : Nat → Int) : Prop :=
  (0 ≤ (15 * mDone) ∧ (15 * mDone) < 900) ∧
  ∀ mAct_2 : Nat → Int, mAct_2 = up mAct (15 * mDone).toNat x1 →
  (0 ≤ ((15 * mDone) + 1) ∧ ((15 * mDone) + 1) < 900) ∧
  ∀ mAct_4 : Nat → Int, mAct_4 = up mAct_2 ((15 * mDone) + 1).toNat x2 →
  (0 ≤ ((15 * mDone) + 2) ∧ ((15 * mDone) + 2) < 900) ∧
  ∀ mAct_6 : Nat → Int, mAct_6 = up mAct_4 ((15 * mDone) + 2).toNat x3 →
  Q 0 (mDone + 1) (mDone + 1) mAct_6
def wp_M_write_12_b (K12 : Int → (Nat → Int) → Prop) (Q : Int → Int → Int → (Nat → Int) → Prop) (x1 : Int) (x2 : Int) (x3 : Int) (mIsLaid : Int) (mActs : Int) (mDone : Int) (x4 : Int) (mAct : Nat → Int) : Prop :=
  jR x4 ∧
  ((885 ≤ x4 →
    wp_M_write_53 Q x1 x2 x3 mIsLaid mActs (mDone - 1) mAct
  ) ∧ (¬ 885 ≤ x4 →
    (0 ≤ (x4 + 15) ∧ (x4 + 15) < 900) ∧
    (0 ≤ x4 ∧ x4 < 900) ∧
    ∀ mAct_11 : Nat → Int, mAct_11 = up mAct x4.toNat (mAct (x4 + 15).toNat) →
    K12 (x4 + 1) mAct_11
  ))
def wp_M_write_12 (Q : Int → Int → Int → (Nat → Int) → Prop) (x1 : Int) (x2 : Int) (x3 : Int) (mIsLaid : Int) (mActs : Int) (mDone : Int) : Nat → Int → (Nat → Int) → Prop
  | 0, _, _ => False
  | n + 1, x4, mAct => wp_M_write_12_b  (wp_M_write_12 Q x1 x2 x3 mIsLaid mActs mDone n) Q  x1 x2 x3 mIsLaid mActs mDone x4 mAct
def wp_M_write (x1 x2 x3 : Int) (mIsLaid mActs mDone : Int) (mAct : Nat → Int) (Q : Int → Int → Int → (Nat → Int) → Prop) : Prop :=
  jR mDone ∧
  ((mDone = 60 →
    ∃ n : Nat, wp_M_write_12 Q x1 x2 x3 mIsLaid mActs mDone n 0 mAct
  ) ∧ (¬ mDone = 60 →
    wp_M_write_53 Q x1 x2 x3 mIsLaid mActs mDone mAct
  ))
abbrev rm_M_keepThirds : Room := { frames := 0, cells := 0, slots := 0, locals := 0 }
def wp_M_keepThirds_3_b (K3 : Int → (Nat → Int) → Prop) (Q : (Nat → Int) → Prop) (mCorner : Nat → Int) (x1 : Int) (x2 : Int) (x3 : Int) (x4 : Int) (mAct : Nat → Int) : Prop :=
  jR x4 ∧
  ((3 ≤ x4 →
    Q mAct
  ) ∧ (¬ 3 ≤ x4 →
    (0 ≤ ((3 * x2) + x4) ∧ ((3 * x2) + x4) < 36) ∧
    (0 ≤ (x1 + x4) ∧ (x1 + x4) < 900) ∧
    ∀ mAct_5 : Nat → Int, mAct_5 = up mAct (x1 + x4).toNat (mCorner ((3 * x2) + x4).toNat) →
    (0 ≤ ((3 * x3) + x4) ∧ ((3 * x3) + x4) < 36) ∧
    (0 ≤ ((x1 + 3) + x4) ∧ ((x1 + 3) + x4) < 900) ∧
    ∀ mAct_8 : Nat → Int, mAct_8 = up mAct_5 ((x1 + 3) + x4).toNat (mCorner ((3 * x3) + x4).toNat) →
    K3 (x4 + 1) mAct_8
  ))
def wp_M_keepThirds_3 (Q : (Nat → Int) → Prop) (mCorner : Nat → Int) (x1 : Int) (x2 : Int) (x3 : Int) : Nat → Int → (Nat → Int) → Prop
  | 0, _, _ => False
  | n + 1, x4, mAct => wp_M_keepThirds_3_b  (wp_M_keepThirds_3 Q mCorner x1 x2 x3 n) Q mCorner x1 x2 x3 x4 mAct
def wp_M_keepThirds (x1 x2 x3 : Int) (mCorner mAct : Nat → Int) (Q : (Nat → Int) → Prop) : Prop :=
  ∃ n : Nat, wp_M_keepThirds_3 Q mCorner x1 x2 x3 n 0 mAct
abbrev rm_M_takeThirds : Room := { frames := 0, cells := 0, slots := 0, locals := 0 }
def wp_M_takeThirds_3_b (K3 : Int → (Nat → Int) → Prop) (Q : (Nat → Int) → Prop) (mAct : Nat → Int) (x1 : Int) (x2 : Int) (x3 : Int) (x4 : Int) (mCorner : Nat → Int) : Prop :=
  jR x4 ∧
  ((3 ≤ x4 →
    Q mCorner
  ) ∧ (¬ 3 ≤ x4 →
    (0 ≤ (x1 + x4) ∧ (x1 + x4) < 900) ∧
    (0 ≤ ((3 * x2) + x4) ∧ ((3 * x2) + x4) < 36) ∧
    ∀ mCorner_5 : Nat → Int, mCorner_5 = up mCorner ((3 * x2) + x4).toNat (mAct (x1 + x4).toNat) →
    (0 ≤ ((x1 + 3) + x4) ∧ ((x1 + 3) + x4) < 900) ∧
    (0 ≤ ((3 * x3) + x4) ∧ ((3 * x3) + x4) < 36) ∧
    ∀ mCorner_8 : Nat → Int, mCorner_8 = up mCorner_5 ((3 * x3) + x4).toNat (mAct ((x1 + 3) + x4).toNat) →
    K3 (x4 + 1) mCorner_8
  ))
def wp_M_takeThirds_3 (Q : (Nat → Int) → Prop) (mAct : Nat → Int) (x1 : Int) (x2 : Int) (x3 : Int) : Nat → Int → (Nat → Int) → Prop
  | 0, _, _ => False
  | n + 1, x4, mCorner => wp_M_takeThirds_3_b  (wp_M_takeThirds_3 Q mAct x1 x2 x3 n) Q mAct x1 x2 x3 x4 mCorner
def wp_M_takeThirds (x1 x2 x3 : Int) (mCorner mAct : Nat → Int) (Q : (Nat → Int) → Prop) : Prop :=
  ∃ n : Nat, wp_M_takeThirds_3 Q mAct x1 x2 x3 n 0 mCorner
abbrev rm_M_third : Room := { frames := 3, cells := 0, slots := 0, locals := 65 }
def wp_M_third (x1 x2 x3 : Int) (mPosts mThirds mIsLaid mActs mDone : Int) (mCorner mAct : Nat → Int) (Q : Int → Int → Int → Int → Int → (Nat → Int) → (Nat → Int) → Prop) : Prop :=
  wp_M_arePair x1 x2 mPosts (fun z_1 =>
    jR z_1 ∧
    ((z_1 = 0 →
      Q (-1) mThirds mIsLaid mActs mDone mCorner mAct
    ) ∧ (¬ z_1 = 0 →
      wp_M_arePair x2 x3 mPosts (fun z_4 =>
        jR z_4 ∧
        ((z_4 = 0 →
          Q (-1) mThirds mIsLaid mActs mDone mCorner mAct
        ) ∧ (¬ z_4 = 0 →
          jR x1 ∧
          jR x3 ∧
          ((x1 = x3 →
            Q (-1) mThirds mIsLaid mActs mDone mCorner mAct
          ) ∧ (¬ x1 = x3 →
            jR mThirds ∧
            ((mThirds = 12 →
              Q (-4) mThirds mIsLaid mActs mDone mCorner mAct
            ) ∧ (¬ mThirds = 12 →
              wp_M_arrowOf x1 x2 mThirds mCorner (fun z_12 =>
                jR z_12 ∧
                ((0 ≤ z_12 →
                  Q (-5) mThirds mIsLaid mActs mDone mCorner mAct
                ) ∧ (¬ 0 ≤ z_12 →
                  wp_M_arrowOf x2 x3 mThirds mCorner (fun z_15 =>
                    jR z_15 ∧
                    ((0 ≤ z_15 →
                      Q (-5) mThirds mIsLaid mActs mDone mCorner mAct
                    ) ∧ (¬ 0 ≤ z_15 →
                      wp_M_arrowOf x3 x1 mThirds mCorner (fun z_18 =>
                        jR z_18 ∧
                        ((z_18 < 0 →
                          wp_M_put mThirds x1 x2 x3 mCorner (fun mCorner_21 =>
                            wp_M_write 0 mThirds mThirds mIsLaid mActs mDone mAct (fun mIsLaid_22 mActs_23 mDone_24 mAct_25 =>
                              wp_M_keepThirds ((15 * (mDone_24 - 1)) + 9) mThirds mThirds mCorner_21 mAct_25 (fun mAct_26 =>
                                Q ((mThirds + 1) - 1) (mThirds + 1) mIsLaid_22 mActs_23 mDone_24 mCorner_21 mAct_26
                              )
                            )
                          )
                        ) ∧ (¬ z_18 < 0 →
                          Q (-5) mThirds mIsLaid mActs mDone mCorner mAct
                        ))
                      )
                    ))
                  )
                ))
              )
            ))
          ))
        ))
      )
    ))
  )
abbrev rm_M_at : Room := { frames := 1, cells := 0, slots := 0, locals := 22 }
def wp_M_at (x1 : Int) (mThirds : Int) (mCorner : Nat → Int) (Q : Int → Prop) : Prop :=
  wp_M_in x1 0 ((3 * mThirds) - 1) (fun z_1 =>
    jR z_1 ∧
    ((z_1 = 0 →
      Q (-1)
    ) ∧ (¬ z_1 = 0 →
      (0 ≤ x1 ∧ x1 < 36) ∧
      Q (mCorner x1.toNat)
    ))
  )
abbrev rm_M_side : Room := { frames := 3, cells := 0, slots := 0, locals := 65 }
def wp_M_side (x1 x2 : Int) (mPosts mThirds : Int) (mCorner : Nat → Int) (Q : Int → Prop) : Prop :=
  wp_M_arePair x1 x2 mPosts (fun z_1 =>
    jR z_1 ∧
    ((z_1 = 0 →
      Q (-1)
    ) ∧ (¬ z_1 = 0 →
      wp_M_sideOf x1 x2 mThirds mCorner (fun z_4 =>
        Q z_4
      )
    ))
  )
abbrev rm_M_arrow : Room := { frames := 3, cells := 0, slots := 0, locals := 65 }
def wp_M_arrow (x1 x2 : Int) (mPosts mThirds : Int) (mCorner : Nat → Int) (Q : Int → Prop) : Prop :=
  wp_M_arePair x1 x2 mPosts (fun z_1 =>
    jR z_1 ∧
    ((z_1 = 0 →
      Q (-1)
    ) ∧ (¬ z_1 = 0 →
      wp_M_arrowOf x1 x2 mThirds mCorner (fun z_4 =>
        Q z_4
      )
    ))
  )
abbrev rm_M_oppositeCorner : Room := { frames := 0, cells := 0, slots := 0, locals := 0 }
def wp_M_oppositeCorner_5_b (K5 : Int → Prop) (Q : Int → Prop) (mCorner : Nat → Int) (x2 : Int) (x3 : Int) (x4 : Int) : Prop :=
  (0 ≤ x4 ∧ x4 < 36) ∧
  jR (mCorner x4.toNat) ∧
  jR x2 ∧
  (((mCorner x4.toNat) = x2 →
    K5 (x4 + 1)
  ) ∧ (¬ (mCorner x4.toNat) = x2 →
    jR x3 ∧
    (((mCorner x4.toNat) = x3 →
      K5 (x4 + 1)
    ) ∧ (¬ (mCorner x4.toNat) = x3 →
      Q x4
    ))
  ))
def wp_M_oppositeCorner_5 (Q : Int → Prop) (mCorner : Nat → Int) (x2 : Int) (x3 : Int) : Nat → Int → Prop
  | 0, _ => False
  | n + 1, x4 => wp_M_oppositeCorner_5_b  (wp_M_oppositeCorner_5 Q mCorner x2 x3 n) Q mCorner x2 x3 x4
def wp_M_oppositeCorner (x1 x2 x3 : Int) (mCorner : Nat → Int) (Q : Int → Prop) : Prop :=
  ∃ n : Nat, wp_M_oppositeCorner_5 Q mCorner x2 x3 n (3 * x1)
abbrev rm_M_turn : Room := { frames := 3, cells := 0, slots := 0, locals := 65 }
def wp_M_turn (x1 x2 : Int) (mPosts mThirds mIsLaid mActs mDone : Int) (mCorner mAct : Nat → Int) (Q : Int → Int → Int → Int → (Nat → Int) → (Nat → Int) → Prop) : Prop :=
  wp_M_arePair x1 x2 mPosts (fun z_1 =>
    jR z_1 ∧
    ((z_1 = 0 →
      Q (-1) mIsLaid mActs mDone mCorner mAct
    ) ∧ (¬ z_1 = 0 →
      wp_M_sideOf x1 x2 mThirds mCorner (fun z_4 =>
        jR z_4 ∧
        ((z_4 = 0 →
          Q (-1) mIsLaid mActs mDone mCorner mAct
        ) ∧ (¬ z_4 = 0 →
          wp_M_sideOf x1 x2 mThirds mCorner (fun z_7 =>
            jR z_7 ∧
            ((z_7 = 1 →
              Q (-3) mIsLaid mActs mDone mCorner mAct
            ) ∧ (¬ z_7 = 1 →
              wp_M_arrowOf x1 x2 mThirds mCorner (fun z_10 =>
                wp_M_arrowOf x2 x1 mThirds mCorner (fun z_11 =>
                  wp_M_oppositeCorner z_10 x1 x2 mCorner (fun z_12 =>
                    (0 ≤ z_12 ∧ z_12 < 36) ∧
                    wp_M_oppositeCorner z_11 x1 x2 mCorner (fun z_14 =>
                      (0 ≤ z_14 ∧ z_14 < 36) ∧
                      jR (mCorner z_12.toNat) ∧
                      jR (mCorner z_14.toNat) ∧
                      (((mCorner z_12.toNat) = (mCorner z_14.toNat) →
                        Q (-5) mIsLaid mActs mDone mCorner mAct
                      ) ∧ (¬ (mCorner z_12.toNat) = (mCorner z_14.toNat) →
                        wp_M_sideOf (mCorner z_12.toNat) (mCorner z_14.toNat) mThirds mCorner (fun z_19 =>
                          jR z_19 ∧
                          ((z_19 ≤ 0 →
                            wp_M_write 1 z_10 z_11 mIsLaid mActs mDone mAct (fun mIsLaid_22 mActs_23 mDone_24 mAct_25 =>
                              wp_M_keepThirds ((15 * (mDone_24 - 1)) + 3) z_10 z_11 mCorner mAct_25 (fun mAct_26 =>
                                wp_M_put z_10 x1 (mCorner z_14.toNat) (mCorner z_12.toNat) mCorner (fun mCorner_27 =>
                                  wp_M_put z_11 (mCorner z_14.toNat) x2 (mCorner z_12.toNat) mCorner_27 (fun mCorner_28 =>
                                    wp_M_keepThirds ((15 * (mDone_24 - 1)) + 9) z_10 z_11 mCorner_28 mAct_26 (fun mAct_29 =>
                                      Q 1 mIsLaid_22 mActs_23 mDone_24 mCorner_28 mAct_29
                                    )
                                  )
                                )
                              )
                            )
                          ) ∧ (¬ z_19 ≤ 0 →
                            Q (-5) mIsLaid mActs mDone mCorner mAct
                          ))
                        )
                      ))
                    )
                  )
                )
              )
            ))
          )
        ))
      )
    ))
  )
abbrev rm_M_tell : Room := { frames := 2, cells := 0, slots := 0, locals := 43 }
def wp_M_tell_71 (Q : Int → Int → Int → Int → (Nat → Int) → (Nat → Int) → Prop) (x1 : Int) (x3 : Int) (t1 : Int) (t2 : Int) (mIsLaid : Int) (mActs : Int) (mDone : Int) (mSum : Nat → Int) (mAct : Nat → Int) : Prop :=
  (0 ≤ t1 ∧ t1 < 9) ∧
  ∀ mSum_2 : Nat → Int, mSum_2 = up mSum t1.toNat t2 →
  (0 ≤ x1 ∧ x1 < 9) ∧
  (0 ≤ ((15 * (mDone - 1)) + 9) ∧ ((15 * (mDone - 1)) + 9) < 900) ∧
  ∀ mAct_5 : Nat → Int, mAct_5 = up mAct ((15 * (mDone - 1)) + 9).toNat (mSum_2 x1.toNat) →
  Q x3 mIsLaid mActs mDone mSum_2 mAct_5
def wp_M_tell (x1 x2 : Int) (mPosts mIsLaid mActs mDone : Int) (mSum mAct : Nat → Int) (Q : Int → Int → Int → Int → (Nat → Int) → (Nat → Int) → Prop) : Prop :=
  wp_M_isPost x1 mPosts (fun z_6 =>
    jR z_6 ∧
    ((z_6 = 0 →
      Q (-1) mIsLaid mActs mDone mSum mAct
    ) ∧ (¬ z_6 = 0 →
      wp_M_in x2 (-1) 4000 (fun z_9 =>
        jR z_9 ∧
        ((z_9 = 0 →
          Q (-2) mIsLaid mActs mDone mSum mAct
        ) ∧ (¬ z_9 = 0 →
          (0 ≤ x1 ∧ x1 < 9) ∧
          wp_M_write 2 x1 x1 mIsLaid mActs mDone mAct (fun mIsLaid_13 mActs_14 mDone_15 mAct_16 =>
            (0 ≤ ((15 * (mDone_15 - 1)) + 3) ∧ ((15 * (mDone_15 - 1)) + 3) < 900) ∧
            ∀ mAct_18 : Nat → Int, mAct_18 = up mAct_16 ((15 * (mDone_15 - 1)) + 3).toNat (mSum x1.toNat) →
            jR x2 ∧
            ((x2 = (-1) →
              wp_M_tell_71 Q x1 (mSum x1.toNat) x1 (-6) mIsLaid_13 mActs_14 mDone_15 mSum mAct_18
            ) ∧ (¬ x2 = (-1) →
              wp_M_tell_71 Q x1 (mSum x1.toNat) x1 x2 mIsLaid_13 mActs_14 mDone_15 mSum mAct_18
            ))
          )
        ))
      )
    ))
  )
abbrev rm_M_undo : Room := { frames := 1, cells := 0, slots := 0, locals := 24 }
def wp_M_undo (mThirds mIsLaid mDone : Int) (mCorner mSum mAct : Nat → Int) (Q : Int → Int → Int → Int → (Nat → Int) → (Nat → Int) → Prop) : Prop :=
  jR mDone ∧
  ((mDone = 0 →
    Q (-3) mThirds mIsLaid mDone mCorner mSum
  ) ∧ (¬ mDone = 0 →
    (0 ≤ (15 * (mDone - 1)) ∧ (15 * (mDone - 1)) < 900) ∧
    jR (mAct (15 * (mDone - 1)).toNat) ∧
    (((mAct (15 * (mDone - 1)).toNat) = 0 →
      Q (mDone - 1) (mThirds - 1) 0 (mDone - 1) mCorner mSum
    ) ∧ (¬ (mAct (15 * (mDone - 1)).toNat) = 0 →
      (((mAct (15 * (mDone - 1)).toNat) = 1 →
        (0 ≤ ((15 * (mDone - 1)) + 1) ∧ ((15 * (mDone - 1)) + 1) < 900) ∧
        (0 ≤ ((15 * (mDone - 1)) + 2) ∧ ((15 * (mDone - 1)) + 2) < 900) ∧
        wp_M_takeThirds ((15 * (mDone - 1)) + 3) (mAct ((15 * (mDone - 1)) + 1).toNat) (mAct ((15 * (mDone - 1)) + 2).toNat) mCorner mAct (fun mCorner_13 =>
          Q (mDone - 1) mThirds 0 (mDone - 1) mCorner_13 mSum
        )
      ) ∧ (¬ (mAct (15 * (mDone - 1)).toNat) = 1 →
        (0 ≤ ((15 * (mDone - 1)) + 1) ∧ ((15 * (mDone - 1)) + 1) < 900) ∧
        (0 ≤ ((15 * (mDone - 1)) + 3) ∧ ((15 * (mDone - 1)) + 3) < 900) ∧
        (0 ≤ (mAct ((15 * (mDone - 1)) + 1).toNat) ∧ (mAct ((15 * (mDone - 1)) + 1).toNat) < 9) ∧
        ∀ mSum_10 : Nat → Int, mSum_10 = up mSum (mAct ((15 * (mDone - 1)) + 1).toNat).toNat (mAct ((15 * (mDone - 1)) + 3).toNat) →
        Q (mDone - 1) mThirds 0 (mDone - 1) mCorner mSum_10
      ))
    ))
  ))
abbrev rm_M_redo : Room := { frames := 1, cells := 0, slots := 0, locals := 24 }
def wp_M_redo_100 (Q : Int → Int → Int → Int → (Nat → Int) → (Nat → Int) → Prop) (mActs : Int) (t1 : Int) (t2 : Int) (mThirds : Int) (mIsLaid : Int) (mDone : Int) (mCorner : Nat → Int) (mSum : Nat → Int) : Prop :=
  Q (mActs - (mDone + 1)) (t1 + t2) 0 (mDone + 1) mCorner mSum
def wp_M_redo (mThirds mIsLaid mActs mDone : Int) (mCorner mSum mAct : Nat → Int) (Q : Int → Int → Int → Int → (Nat → Int) → (Nat → Int) → Prop) : Prop :=
  jR mDone ∧
  jR mActs ∧
  ((mDone = mActs →
    Q (-3) mThirds mIsLaid mDone mCorner mSum
  ) ∧ (¬ mDone = mActs →
    (0 ≤ (15 * mDone) ∧ (15 * mDone) < 900) ∧
    jR (mAct (15 * mDone).toNat) ∧
    (((mAct (15 * mDone).toNat) = 2 →
      (0 ≤ ((15 * mDone) + 1) ∧ ((15 * mDone) + 1) < 900) ∧
      (0 ≤ ((15 * mDone) + 9) ∧ ((15 * mDone) + 9) < 900) ∧
      (0 ≤ (mAct ((15 * mDone) + 1).toNat) ∧ (mAct ((15 * mDone) + 1).toNat) < 9) ∧
      ∀ mSum_14 : Nat → Int, mSum_14 = up mSum (mAct ((15 * mDone) + 1).toNat).toNat (mAct ((15 * mDone) + 9).toNat) →
      Q (mActs - (mDone + 1)) mThirds 0 (mDone + 1) mCorner mSum_14
    ) ∧ (¬ (mAct (15 * mDone).toNat) = 2 →
      (0 ≤ ((15 * mDone) + 1) ∧ ((15 * mDone) + 1) < 900) ∧
      (0 ≤ ((15 * mDone) + 2) ∧ ((15 * mDone) + 2) < 900) ∧
      wp_M_takeThirds ((15 * mDone) + 9) (mAct ((15 * mDone) + 1).toNat) (mAct ((15 * mDone) + 2).toNat) mCorner mAct (fun mCorner_9 =>
        (((mAct (15 * mDone).toNat) = 0 →
          wp_M_redo_100 Q mActs mThirds 1 mThirds mIsLaid mDone mCorner_9 mSum
        ) ∧ (¬ (mAct (15 * mDone).toNat) = 0 →
          wp_M_redo_100 Q mActs mThirds 0 mThirds mIsLaid mDone mCorner_9 mSum
        ))
      )
    ))
  ))
abbrev rm_M_cornersAt : Room := { frames := 0, cells := 0, slots := 0, locals := 0 }
def wp_M_cornersAt_4_b (K4 : Int → Int → Prop) (Q : Int → Prop) (mThirds : Int) (mCorner : Nat → Int) (x1 : Int) (x2 : Int) (x3 : Int) : Prop :=
  jR x3 ∧
  jR (3 * mThirds) ∧
  (((3 * mThirds) ≤ x3 →
    Q x2
  ) ∧ (¬ (3 * mThirds) ≤ x3 →
    (0 ≤ x3 ∧ x3 < 36) ∧
    jR (mCorner x3.toNat) ∧
    jR x1 ∧
    (((mCorner x3.toNat) = x1 →
      K4 (x2 + 1) (x3 + 1)
    ) ∧ (¬ (mCorner x3.toNat) = x1 →
      K4 (x2 + 0) (x3 + 1)
    ))
  ))
def wp_M_cornersAt_4 (Q : Int → Prop) (mThirds : Int) (mCorner : Nat → Int) (x1 : Int) : Nat → Int → Int → Prop
  | 0, _, _ => False
  | n + 1, x2, x3 => wp_M_cornersAt_4_b  (wp_M_cornersAt_4 Q mThirds mCorner x1 n) Q mThirds mCorner x1 x2 x3
def wp_M_cornersAt (x1 : Int) (mThirds : Int) (mCorner : Nat → Int) (Q : Int → Prop) : Prop :=
  ∃ n : Nat, wp_M_cornersAt_4 Q mThirds mCorner x1 n 0 0
abbrev rm_M_sidesAt : Room := { frames := 2, cells := 0, slots := 0, locals := 45 }
def wp_M_sidesAt_6_b (K6 : Int → Int → Prop) (Q : Int → Prop) (mPosts mThirds : Int) (mCorner : Nat → Int) (x1 : Int) (x2 : Int) (x3 : Int) (x4 : Int) (x5 : Int) : Prop :=
  jR x5 ∧
  jR mPosts ∧
  ((mPosts ≤ x5 →
    Q x4
  ) ∧ (¬ mPosts ≤ x5 →
    jR x1 ∧
    ((x5 = x1 →
      K6 (x4 + 0) (x5 + 1)
    ) ∧ (¬ x5 = x1 →
      wp_M_sideOf x1 x5 mThirds mCorner (fun z_6 =>
        wp_M_in z_6 x2 x3 (fun z_7 =>
          jR z_7 ∧
          ((z_7 = 0 →
            K6 (x4 + 0) (x5 + 1)
          ) ∧ (¬ z_7 = 0 →
            K6 (x4 + 1) (x5 + 1)
          ))
        )
      )
    ))
  ))
def wp_M_sidesAt_6 (Q : Int → Prop) (mPosts mThirds : Int) (mCorner : Nat → Int) (x1 : Int) (x2 : Int) (x3 : Int) : Nat → Int → Int → Prop
  | 0, _, _ => False
  | n + 1, x4, x5 => wp_M_sidesAt_6_b  (wp_M_sidesAt_6 Q mPosts mThirds mCorner x1 x2 x3 n) Q mPosts mThirds mCorner x1 x2 x3 x4 x5
def wp_M_sidesAt (x1 x2 x3 : Int) (mPosts mThirds : Int) (mCorner : Nat → Int) (Q : Int → Prop) : Prop :=
  ∃ n : Nat, wp_M_sidesAt_6 Q mPosts mThirds mCorner x1 x2 x3 n 0 0
abbrev rm_M_hasPost : Room := { frames := 0, cells := 0, slots := 0, locals := 0 }
def wp_M_hasPost (x1 x2 : Int) (mCorner : Nat → Int) (Q : Int → Prop) : Prop :=
  (0 ≤ (3 * x1) ∧ (3 * x1) < 36) ∧
  jR (mCorner (3 * x1).toNat) ∧
  jR x2 ∧
  (((mCorner (3 * x1).toNat) = x2 →
    Q 1
  ) ∧ (¬ (mCorner (3 * x1).toNat) = x2 →
    (0 ≤ ((3 * x1) + 1) ∧ ((3 * x1) + 1) < 36) ∧
    jR (mCorner ((3 * x1) + 1).toNat) ∧
    (((mCorner ((3 * x1) + 1).toNat) = x2 →
      Q 1
    ) ∧ (¬ (mCorner ((3 * x1) + 1).toNat) = x2 →
      (0 ≤ ((3 * x1) + 2) ∧ ((3 * x1) + 2) < 36) ∧
      jR (mCorner ((3 * x1) + 2).toNat) ∧
      (((mCorner ((3 * x1) + 2).toNat) = x2 →
        Q 1
      ) ∧ (¬ (mCorner ((3 * x1) + 2).toNat) = x2 →
        Q 0
      ))
    ))
  ))
abbrev rm_M_hang : Room := { frames := 1, cells := 0, slots := 0, locals := 23 }
def wp_M_hang_63 (K6 : Int → Int → Prop) (Q : Int → Prop) (mThirds : Int) (mCorner : Nat → Int) (x1 : Int) (x2 : Int) (x3 : Int) (x5 : Int) (x6 : Int) (x7 : Int) : Prop :=
  wp_M_arrowOf x7 x6 mThirds mCorner (fun z_1 =>
    jR z_1 ∧
    jR x2 ∧
    ((z_1 = x2 →
      K6 1 (x5 + 1)
    ) ∧ (¬ z_1 = x2 →
      K6 0 (x5 + 1)
    ))
  )
def wp_M_hang_6_b (K6 : Int → Int → Prop) (Q : Int → Prop) (mThirds : Int) (mCorner : Nat → Int) (x1 : Int) (x2 : Int) (x3 : Int) (x4 : Int) (x5 : Int) : Prop :=
  jR x5 ∧
  ((3 ≤ x5 →
    (x4 = 0 ∨ x4 = 1) ∧
    Q x4
  ) ∧ (¬ 3 ≤ x5 →
    (0 ≤ ((3 * x1) + x5) ∧ ((3 * x1) + x5) < 36) ∧
    (0 ≤ ((3 * x1) + (jrem (x5 + 1) 3)) ∧ ((3 * x1) + (jrem (x5 + 1) 3)) < 36) ∧
    jR x4 ∧
    ((x4 = 0 →
      jR x3 ∧
      ((x3 < 0 →
        wp_M_hang_63 K6 Q mThirds mCorner x1 x2 x3 x5 (mCorner ((3 * x1) + x5).toNat) (mCorner ((3 * x1) + (jrem (x5 + 1) 3)).toNat)
      ) ∧ (¬ x3 < 0 →
        jR (mCorner ((3 * x1) + x5).toNat) ∧
        (((mCorner ((3 * x1) + x5).toNat) = x3 →
          wp_M_hang_63 K6 Q mThirds mCorner x1 x2 x3 x5 (mCorner ((3 * x1) + x5).toNat) (mCorner ((3 * x1) + (jrem (x5 + 1) 3)).toNat)
        ) ∧ (¬ (mCorner ((3 * x1) + x5).toNat) = x3 →
          jR (mCorner ((3 * x1) + (jrem (x5 + 1) 3)).toNat) ∧
          (((mCorner ((3 * x1) + (jrem (x5 + 1) 3)).toNat) = x3 →
            wp_M_hang_63 K6 Q mThirds mCorner x1 x2 x3 x5 (mCorner ((3 * x1) + x5).toNat) (mCorner ((3 * x1) + (jrem (x5 + 1) 3)).toNat)
          ) ∧ (¬ (mCorner ((3 * x1) + (jrem (x5 + 1) 3)).toNat) = x3 →
            K6 0 (x5 + 1)
          ))
        ))
      ))
    ) ∧ (¬ x4 = 0 →
      K6 1 (x5 + 1)
    ))
  ))
def wp_M_hang_6 (Q : Int → Prop) (mThirds : Int) (mCorner : Nat → Int) (x1 : Int) (x2 : Int) (x3 : Int) : Nat → Int → Int → Prop
  | 0, _, _ => False
  | n + 1, x4, x5 => wp_M_hang_6_b  (wp_M_hang_6 Q mThirds mCorner x1 x2 x3 n) Q mThirds mCorner x1 x2 x3 x4 x5
def wp_M_hang (x1 x2 x3 : Int) (mThirds : Int) (mCorner : Nat → Int) (Q : Int → Prop) : Prop :=
  ∃ n : Nat, wp_M_hang_6 Q mThirds mCorner x1 x2 x3 n 0 0
abbrev rm_M_pieces : Room := { frames := 2, cells := 0, slots := 0, locals := 50 }
def wp_M_pieces_97_b (K44 : Int → Int → (Nat → Int) → Prop) (K74 : Int → (Nat → Int) → Prop) (K85 : Int → Int → (Nat → Int) → Prop) (K97 : Int → Int → (Nat → Int) → Prop) (Q : Int → (Nat → Int) → Prop) (mThirds : Int) (mCorner : Nat → Int) (x1 : Int) (x2 : Int) (x3 : Int) (x5 : Int) (x4 : Int) (x6 : Int) (mMark : Nat → Int) : Prop :=
  jR x6 ∧
  jR mThirds ∧
  ((mThirds ≤ x6 →
    K85 x4 (x5 + 1) mMark
  ) ∧ (¬ mThirds ≤ x6 →
    (0 ≤ x5 ∧ x5 < 12) ∧
    jR (mMark x5.toNat) ∧
    jR x2 ∧
    (((mMark x5.toNat) = x2 →
      (0 ≤ x6 ∧ x6 < 12) ∧
      jR (mMark x6.toNat) ∧
      (((mMark x6.toNat) = 0 →
        wp_M_hang x5 x6 x1 mThirds mCorner (fun z_11 =>
          jR z_11 ∧
          ((z_11 = 0 →
            K97 x4 (x6 + 1) mMark
          ) ∧ (¬ z_11 = 0 →
            ∀ mMark_14 : Nat → Int, mMark_14 = up mMark x6.toNat x2 →
            K97 1 (x6 + 1) mMark_14
          ))
        )
      ) ∧ (¬ (mMark x6.toNat) = 0 →
        K97 x4 (x6 + 1) mMark
      ))
    ) ∧ (¬ (mMark x5.toNat) = x2 →
      K97 x4 (x6 + 1) mMark
    ))
  ))
def wp_M_pieces_97 (K44 : Int → Int → (Nat → Int) → Prop) (K74 : Int → (Nat → Int) → Prop) (K85 : Int → Int → (Nat → Int) → Prop) (Q : Int → (Nat → Int) → Prop) (mThirds : Int) (mCorner : Nat → Int) (x1 : Int) (x2 : Int) (x3 : Int) (x5 : Int) : Nat → Int → Int → (Nat → Int) → Prop
  | 0, _, _, _ => False
  | n + 1, x4, x6, mMark => wp_M_pieces_97_b K44 K74 K85 (wp_M_pieces_97 K44 K74 K85 Q mThirds mCorner x1 x2 x3 x5 n) Q mThirds mCorner x1 x2 x3 x5 x4 x6 mMark
def wp_M_pieces_85_b (K44 : Int → Int → (Nat → Int) → Prop) (K74 : Int → (Nat → Int) → Prop) (K85 : Int → Int → (Nat → Int) → Prop) (Q : Int → (Nat → Int) → Prop) (mThirds : Int) (mCorner : Nat → Int) (x1 : Int) (x2 : Int) (x3 : Int) (x4 : Int) (x5 : Int) (mMark : Nat → Int) : Prop :=
  jR x5 ∧
  jR mThirds ∧
  ((mThirds ≤ x5 →
    K74 x4 mMark
  ) ∧ (¬ mThirds ≤ x5 →
    ∃ n : Nat, wp_M_pieces_97 K44 K74 K85 Q mThirds mCorner x1 x2 x3 x5 n x4 0 mMark
  ))
def wp_M_pieces_85 (K44 : Int → Int → (Nat → Int) → Prop) (K74 : Int → (Nat → Int) → Prop) (Q : Int → (Nat → Int) → Prop) (mThirds : Int) (mCorner : Nat → Int) (x1 : Int) (x2 : Int) (x3 : Int) : Nat → Int → Int → (Nat → Int) → Prop
  | 0, _, _, _ => False
  | n + 1, x4, x5, mMark => wp_M_pieces_85_b K44 K74 (wp_M_pieces_85 K44 K74 Q mThirds mCorner x1 x2 x3 n) Q mThirds mCorner x1 x2 x3 x4 x5 mMark
def wp_M_pieces_74_b (K44 : Int → Int → (Nat → Int) → Prop) (K74 : Int → (Nat → Int) → Prop) (Q : Int → (Nat → Int) → Prop) (mThirds : Int) (mCorner : Nat → Int) (x1 : Int) (x2 : Int) (x3 : Int) (x4 : Int) (mMark : Nat → Int) : Prop :=
  jR x4 ∧
  ((x4 = 0 →
    K44 x2 (x3 + 1) mMark
  ) ∧ (¬ x4 = 0 →
    ∃ n : Nat, wp_M_pieces_85 K44 K74 Q mThirds mCorner x1 x2 x3 n 0 0 mMark
  ))
def wp_M_pieces_74 (K44 : Int → Int → (Nat → Int) → Prop) (Q : Int → (Nat → Int) → Prop) (mThirds : Int) (mCorner : Nat → Int) (x1 : Int) (x2 : Int) (x3 : Int) : Nat → Int → (Nat → Int) → Prop
  | 0, _, _ => False
  | n + 1, x4, mMark => wp_M_pieces_74_b K44 (wp_M_pieces_74 K44 Q mThirds mCorner x1 x2 x3 n) Q mThirds mCorner x1 x2 x3 x4 mMark
def wp_M_pieces_44_b (K44 : Int → Int → (Nat → Int) → Prop) (Q : Int → (Nat → Int) → Prop) (mThirds : Int) (mCorner : Nat → Int) (x1 : Int) (x2 : Int) (x3 : Int) (mMark : Nat → Int) : Prop :=
  jR x3 ∧
  jR mThirds ∧
  ((mThirds ≤ x3 →
    Q x2 mMark
  ) ∧ (¬ mThirds ≤ x3 →
    (0 ≤ x3 ∧ x3 < 12) ∧
    jR (mMark x3.toNat) ∧
    (((mMark x3.toNat) = 0 →
      ∀ mMark_26 : Nat → Int, mMark_26 = up mMark x3.toNat (x2 + 1) →
      ∃ n : Nat, wp_M_pieces_74 K44 Q mThirds mCorner x1 (x2 + 1) x3 n 1 mMark_26
    ) ∧ (¬ (mMark x3.toNat) = 0 →
      K44 x2 (x3 + 1) mMark
    ))
  ))
def wp_M_pieces_44 (Q : Int → (Nat → Int) → Prop) (mThirds : Int) (mCorner : Nat → Int) (x1 : Int) : Nat → Int → Int → (Nat → Int) → Prop
  | 0, _, _, _ => False
  | n + 1, x2, x3, mMark => wp_M_pieces_44_b  (wp_M_pieces_44 Q mThirds mCorner x1 n) Q mThirds mCorner x1 x2 x3 mMark
def wp_M_pieces_4_b (K4 : Int → (Nat → Int) → Prop) (Q : Int → (Nat → Int) → Prop) (mThirds : Int) (mCorner : Nat → Int) (x1 : Int) (x2 : Int) (x3 : Int) (mMark : Nat → Int) : Prop :=
  jR x3 ∧
  jR mThirds ∧
  ((mThirds ≤ x3 →
    ∃ n : Nat, wp_M_pieces_44 Q mThirds mCorner x1 n x2 0 mMark
  ) ∧ (¬ mThirds ≤ x3 →
    jR x1 ∧
    ((x1 < 0 →
      (0 ≤ x3 ∧ x3 < 12) ∧
      ∀ mMark_33 : Nat → Int, mMark_33 = up mMark x3.toNat 0 →
      K4 (x3 + 1) mMark_33
    ) ∧ (¬ x1 < 0 →
      wp_M_hasPost x3 x1 mCorner (fun z_34 =>
        jR z_34 ∧
        ((z_34 = 0 →
          (0 ≤ x3 ∧ x3 < 12) ∧
          ∀ mMark_38 : Nat → Int, mMark_38 = up mMark x3.toNat (-1) →
          K4 (x3 + 1) mMark_38
        ) ∧ (¬ z_34 = 0 →
          (0 ≤ x3 ∧ x3 < 12) ∧
          ∀ mMark_40 : Nat → Int, mMark_40 = up mMark x3.toNat 0 →
          K4 (x3 + 1) mMark_40
        ))
      )
    ))
  ))
def wp_M_pieces_4 (Q : Int → (Nat → Int) → Prop) (mThirds : Int) (mCorner : Nat → Int) (x1 : Int) (x2 : Int) : Nat → Int → (Nat → Int) → Prop
  | 0, _, _ => False
  | n + 1, x3, mMark => wp_M_pieces_4_b  (wp_M_pieces_4 Q mThirds mCorner x1 x2 n) Q mThirds mCorner x1 x2 x3 mMark
def wp_M_pieces (x1 : Int) (mThirds : Int) (mCorner mMark : Nat → Int) (Q : Int → (Nat → Int) → Prop) : Prop :=
  ∃ n : Nat, wp_M_pieces_4 Q mThirds mCorner x1 0 n 0 mMark
abbrev rm_M_clearWays : Room := { frames := 0, cells := 0, slots := 0, locals := 0 }
def wp_M_clearWays_7_b (K7 : Int → (Nat → Int) → Prop) (Q : Int → (Nat → Int) → Prop) (mQueued : Int) (x1 : Int) (mBefore : Nat → Int) : Prop :=
  jR x1 ∧
  ((21 ≤ x1 →
    Q mQueued mBefore
  ) ∧ (¬ 21 ≤ x1 →
    (0 ≤ x1 ∧ x1 < 21) ∧
    ∀ mBefore_4 : Nat → Int, mBefore_4 = up mBefore x1.toNat (-2) →
    K7 (x1 + 1) mBefore_4
  ))
def wp_M_clearWays_7 (Q : Int → (Nat → Int) → Prop) (mQueued : Int) : Nat → Int → (Nat → Int) → Prop
  | 0, _, _ => False
  | n + 1, x1, mBefore => wp_M_clearWays_7_b  (wp_M_clearWays_7 Q mQueued n) Q  mQueued x1 mBefore
def wp_M_clearWays (mQueued : Int) (mBefore : Nat → Int) (Q : Int → (Nat → Int) → Prop) : Prop :=
  ∃ n : Nat, wp_M_clearWays_7 Q 0 n 0 mBefore
abbrev rm_M_come : Room := { frames := 0, cells := 0, slots := 0, locals := 0 }
def wp_M_come (x1 x2 x3 : Int) (mQueued : Int) (mBefore mVia mQueue : Nat → Int) (Q : Int → (Nat → Int) → (Nat → Int) → (Nat → Int) → Prop) : Prop :=
  (0 ≤ x1 ∧ x1 < 21) ∧
  jR (mBefore x1.toNat) ∧
  (((mBefore x1.toNat) = (-2) →
    ∀ mBefore_4 : Nat → Int, mBefore_4 = up mBefore x1.toNat x2 →
    ∀ mVia_5 : Nat → Int, mVia_5 = up mVia x1.toNat x3 →
    (0 ≤ mQueued ∧ mQueued < 21) ∧
    ∀ mQueue_7 : Nat → Int, mQueue_7 = up mQueue mQueued.toNat x1 →
    Q (mQueued + 1) mBefore_4 mVia_5 mQueue_7
  ) ∧ (¬ (mBefore x1.toNat) = (-2) →
    Q mQueued mBefore mVia mQueue
  ))
abbrev rm_M_goWay : Room := { frames := 0, cells := 0, slots := 0, locals := 0 }
def wp_M_goWay_2_b (K2 : Int → (Nat → Int) → Prop) (Q : Int → (Nat → Int) → Prop) (mBefore mVia : Nat → Int) (x2 : Int) (x3 : Int) (mBeyond : Nat → Int) : Prop :=
  (0 ≤ x3 ∧ x3 < 21) ∧
  jR (mBefore x3.toNat) ∧
  (((mBefore x3.toNat) < 0 →
    Q x3 mBeyond
  ) ∧ (¬ (mBefore x3.toNat) < 0 →
    jR (mVia x3.toNat) ∧
    (((mVia x3.toNat) < 0 →
      K2 (mBefore x3.toNat) mBeyond
    ) ∧ (¬ (mVia x3.toNat) < 0 →
      (0 ≤ (mVia x3.toNat) ∧ (mVia x3.toNat) < 36) ∧
      jR x3 ∧
      ((12 ≤ x3 →
        ∀ mBeyond_9 : Nat → Int, mBeyond_9 = up mBeyond (mVia x3.toNat).toNat ((mBeyond (mVia x3.toNat).toNat) + x2) →
        K2 (mBefore x3.toNat) mBeyond_9
      ) ∧ (¬ 12 ≤ x3 →
        ∀ mBeyond_10 : Nat → Int, mBeyond_10 = up mBeyond (mVia x3.toNat).toNat ((mBeyond (mVia x3.toNat).toNat) + (-x2)) →
        K2 (mBefore x3.toNat) mBeyond_10
      ))
    ))
  ))
def wp_M_goWay_2 (Q : Int → (Nat → Int) → Prop) (mBefore mVia : Nat → Int) (x2 : Int) : Nat → Int → (Nat → Int) → Prop
  | 0, _, _ => False
  | n + 1, x3, mBeyond => wp_M_goWay_2_b  (wp_M_goWay_2 Q mBefore mVia x2 n) Q mBefore mVia x2 x3 mBeyond
def wp_M_goWay (x1 x2 : Int) (mBeyond mBefore mVia : Nat → Int) (Q : Int → (Nat → Int) → Prop) : Prop :=
  ∃ n : Nat, wp_M_goWay_2 Q mBefore mVia x2 n x1 mBeyond
abbrev rm_M_spread : Room := { frames := 1, cells := 0, slots := 0, locals := 23 }
def wp_M_spread_119_b (K2 : Int → Int → (Nat → Int) → (Nat → Int) → (Nat → Int) → Prop) (K119 : Int → Int → (Nat → Int) → (Nat → Int) → (Nat → Int) → Prop) (Q : Int → (Nat → Int) → (Nat → Int) → (Nat → Int) → Prop) (mPosts mThirds : Int) (mCorner mSum mBeyond : Nat → Int) (x1 : Int) (x2 : Int) (x3 : Int) (x4 : Int) (x5 : Int) (mQueued : Int) (mBefore : Nat → Int) (mVia : Nat → Int) (mQueue : Nat → Int) : Prop :=
  jR x5 ∧
  jR mPosts ∧
  ((mPosts ≤ x5 →
    K2 (x3 + 1) mQueued mBefore mVia mQueue
  ) ∧ (¬ mPosts ≤ x5 →
    jR x2 ∧
    ((x2 = 0 →
      K2 (x3 + 1) mQueued mBefore mVia mQueue
    ) ∧ (¬ x2 = 0 →
      jR x4 ∧
      ((x4 < 12 →
        K2 (x3 + 1) mQueued mBefore mVia mQueue
      ) ∧ (¬ x4 < 12 →
        (0 ≤ (x4 - 12) ∧ (x4 - 12) < 9) ∧
        jR (mSum (x4 - 12).toNat) ∧
        (((mSum (x4 - 12).toNat) = (-6) →
          (0 ≤ x5 ∧ x5 < 9) ∧
          jR (mSum x5.toNat) ∧
          (((mSum x5.toNat) = (-6) →
            wp_M_come (12 + x5) x4 (-1) mQueued mBefore mVia mQueue (fun mQueued_14 mBefore_15 mVia_16 mQueue_17 =>
              K119 (x5 + 1) mQueued_14 mBefore_15 mVia_16 mQueue_17
            )
          ) ∧ (¬ (mSum x5.toNat) = (-6) →
            K119 (x5 + 1) mQueued mBefore mVia mQueue
          ))
        ) ∧ (¬ (mSum (x4 - 12).toNat) = (-6) →
          K119 (x5 + 1) mQueued mBefore mVia mQueue
        ))
      ))
    ))
  ))
def wp_M_spread_119 (K2 : Int → Int → (Nat → Int) → (Nat → Int) → (Nat → Int) → Prop) (Q : Int → (Nat → Int) → (Nat → Int) → (Nat → Int) → Prop) (mPosts mThirds : Int) (mCorner mSum mBeyond : Nat → Int) (x1 : Int) (x2 : Int) (x3 : Int) (x4 : Int) : Nat → Int → Int → (Nat → Int) → (Nat → Int) → (Nat → Int) → Prop
  | 0, _, _, _, _, _ => False
  | n + 1, x5, mQueued, mBefore, mVia, mQueue => wp_M_spread_119_b K2 (wp_M_spread_119 K2 Q mPosts mThirds mCorner mSum mBeyond x1 x2 x3 x4 n) Q mPosts mThirds mCorner mSum mBeyond x1 x2 x3 x4 x5 mQueued mBefore mVia mQueue
def wp_M_spread_66 (K2 : Int → Int → (Nat → Int) → (Nat → Int) → (Nat → Int) → Prop) (K21 : Int → Int → (Nat → Int) → (Nat → Int) → (Nat → Int) → Prop) (Q : Int → (Nat → Int) → (Nat → Int) → (Nat → Int) → Prop) (mPosts mThirds : Int) (mCorner mSum mBeyond : Nat → Int) (x1 : Int) (x2 : Int) (x3 : Int) (x4 : Int) (x5 : Int) (mQueued : Int) (mBefore : Nat → Int) (mVia : Nat → Int) (mQueue : Nat → Int) : Prop :=
  jR x4 ∧
  ((x4 < 12 →
    K21 (x5 + 1) mQueued mBefore mVia mQueue
  ) ∧ (¬ x4 < 12 →
    (0 ≤ x5 ∧ x5 < 36) ∧
    jR (mCorner x5.toNat) ∧
    jR (x4 - 12) ∧
    (((mCorner x5.toNat) = (x4 - 12) →
      jR (mBeyond x5.toNat) ∧
      (((mBeyond x5.toNat) ≤ 0 →
        K21 (x5 + 1) mQueued mBefore mVia mQueue
      ) ∧ (¬ (mBeyond x5.toNat) ≤ 0 →
        wp_M_come (jdiv x5 3) x4 x5 mQueued mBefore mVia mQueue (fun mQueued_26 mBefore_27 mVia_28 mQueue_29 =>
          K21 (x5 + 1) mQueued_26 mBefore_27 mVia_28 mQueue_29
        )
      ))
    ) ∧ (¬ (mCorner x5.toNat) = (x4 - 12) →
      K21 (x5 + 1) mQueued mBefore mVia mQueue
    ))
  ))
def wp_M_spread_21_b (K2 : Int → Int → (Nat → Int) → (Nat → Int) → (Nat → Int) → Prop) (K21 : Int → Int → (Nat → Int) → (Nat → Int) → (Nat → Int) → Prop) (Q : Int → (Nat → Int) → (Nat → Int) → (Nat → Int) → Prop) (mPosts mThirds : Int) (mCorner mSum mBeyond : Nat → Int) (x1 : Int) (x2 : Int) (x3 : Int) (x4 : Int) (x5 : Int) (mQueued : Int) (mBefore : Nat → Int) (mVia : Nat → Int) (mQueue : Nat → Int) : Prop :=
  jR x5 ∧
  jR (3 * mThirds) ∧
  (((3 * mThirds) ≤ x5 →
    ∃ n : Nat, wp_M_spread_119 K2 Q mPosts mThirds mCorner mSum mBeyond x1 x2 x3 x4 n 0 mQueued mBefore mVia mQueue
  ) ∧ (¬ (3 * mThirds) ≤ x5 →
    jR x4 ∧
    ((12 ≤ x4 →
      wp_M_spread_66 K2 K21 Q mPosts mThirds mCorner mSum mBeyond x1 x2 x3 x4 x5 mQueued mBefore mVia mQueue
    ) ∧ (¬ 12 ≤ x4 →
      jR (jdiv x5 3) ∧
      (((jdiv x5 3) = x4 →
        (0 ≤ x5 ∧ x5 < 36) ∧
        wp_M_come (12 + (mCorner x5.toNat)) x4 x5 mQueued mBefore mVia mQueue (fun mQueued_38 mBefore_39 mVia_40 mQueue_41 =>
          wp_M_spread_66 K2 K21 Q mPosts mThirds mCorner mSum mBeyond x1 x2 x3 x4 x5 mQueued_38 mBefore_39 mVia_40 mQueue_41
        )
      ) ∧ (¬ (jdiv x5 3) = x4 →
        wp_M_spread_66 K2 K21 Q mPosts mThirds mCorner mSum mBeyond x1 x2 x3 x4 x5 mQueued mBefore mVia mQueue
      ))
    ))
  ))
def wp_M_spread_21 (K2 : Int → Int → (Nat → Int) → (Nat → Int) → (Nat → Int) → Prop) (Q : Int → (Nat → Int) → (Nat → Int) → (Nat → Int) → Prop) (mPosts mThirds : Int) (mCorner mSum mBeyond : Nat → Int) (x1 : Int) (x2 : Int) (x3 : Int) (x4 : Int) : Nat → Int → Int → (Nat → Int) → (Nat → Int) → (Nat → Int) → Prop
  | 0, _, _, _, _, _ => False
  | n + 1, x5, mQueued, mBefore, mVia, mQueue => wp_M_spread_21_b K2 (wp_M_spread_21 K2 Q mPosts mThirds mCorner mSum mBeyond x1 x2 x3 x4 n) Q mPosts mThirds mCorner mSum mBeyond x1 x2 x3 x4 x5 mQueued mBefore mVia mQueue
def wp_M_spread_2_b (K2 : Int → Int → (Nat → Int) → (Nat → Int) → (Nat → Int) → Prop) (Q : Int → (Nat → Int) → (Nat → Int) → (Nat → Int) → Prop) (mPosts mThirds : Int) (mCorner mSum mBeyond : Nat → Int) (x1 : Int) (x2 : Int) (x3 : Int) (mQueued : Int) (mBefore : Nat → Int) (mVia : Nat → Int) (mQueue : Nat → Int) : Prop :=
  jR x3 ∧
  jR mQueued ∧
  ((mQueued ≤ x3 →
    Q mQueued mBefore mVia mQueue
  ) ∧ (¬ mQueued ≤ x3 →
    (0 ≤ x3 ∧ x3 < 21) ∧
    ∃ n : Nat, wp_M_spread_21 K2 Q mPosts mThirds mCorner mSum mBeyond x1 x2 x3 (mQueue x3.toNat) n x1 mQueued mBefore mVia mQueue
  ))
def wp_M_spread_2 (Q : Int → (Nat → Int) → (Nat → Int) → (Nat → Int) → Prop) (mPosts mThirds : Int) (mCorner mSum mBeyond : Nat → Int) (x1 : Int) (x2 : Int) : Nat → Int → Int → (Nat → Int) → (Nat → Int) → (Nat → Int) → Prop
  | 0, _, _, _, _, _ => False
  | n + 1, x3, mQueued, mBefore, mVia, mQueue => wp_M_spread_2_b  (wp_M_spread_2 Q mPosts mThirds mCorner mSum mBeyond x1 x2 n) Q mPosts mThirds mCorner mSum mBeyond x1 x2 x3 mQueued mBefore mVia mQueue
def wp_M_spread (x1 x2 : Int) (mPosts mThirds mQueued : Int) (mCorner mSum mBeyond mBefore mVia mQueue : Nat → Int) (Q : Int → (Nat → Int) → (Nat → Int) → (Nat → Int) → Prop) : Prop :=
  ∃ n : Nat, wp_M_spread_2 Q mPosts mThirds mCorner mSum mBeyond x1 x2 n 0 mQueued mBefore mVia mQueue
abbrev rm_M_wanting : Room := { frames := 0, cells := 0, slots := 0, locals := 0 }
def wp_M_wanting_58 (K2 : Int → Prop) (Q : Int → Prop) (mPosts : Int) (mSum mLack mBefore : Nat → Int) (x1 : Int) (x2 : Int) (t0 : Int) : Prop :=
  jR t0 ∧
  ((t0 = 0 →
    K2 (x2 + 1)
  ) ∧ (¬ t0 = 0 →
    (0 ≤ (12 + x2) ∧ (12 + x2) < 21) ∧
    jR (mBefore (12 + x2).toNat) ∧
    (((mBefore (12 + x2).toNat) = (-2) →
      K2 (x2 + 1)
    ) ∧ (¬ (mBefore (12 + x2).toNat) = (-2) →
      Q x2
    ))
  ))
def wp_M_wanting_2_b (K2 : Int → Prop) (Q : Int → Prop) (mPosts : Int) (mSum mLack mBefore : Nat → Int) (x1 : Int) (x2 : Int) : Prop :=
  jR x2 ∧
  jR mPosts ∧
  ((mPosts ≤ x2 →
    Q (-6)
  ) ∧ (¬ mPosts ≤ x2 →
    jR x1 ∧
    ((x1 = 0 →
      (0 ≤ x2 ∧ x2 < 9) ∧
      jR (mSum x2.toNat) ∧
      (((mSum x2.toNat) = (-6) →
        wp_M_wanting_58 K2 Q mPosts mSum mLack mBefore x1 x2 1
      ) ∧ (¬ (mSum x2.toNat) = (-6) →
        wp_M_wanting_58 K2 Q mPosts mSum mLack mBefore x1 x2 0
      ))
    ) ∧ (¬ x1 = 0 →
      (0 ≤ x2 ∧ x2 < 9) ∧
      jR (mSum x2.toNat) ∧
      (((mSum x2.toNat) = (-6) →
        wp_M_wanting_58 K2 Q mPosts mSum mLack mBefore x1 x2 0
      ) ∧ (¬ (mSum x2.toNat) = (-6) →
        jR (mLack x2.toNat) ∧
        (((mLack x2.toNat) ≤ 0 →
          wp_M_wanting_58 K2 Q mPosts mSum mLack mBefore x1 x2 0
        ) ∧ (¬ (mLack x2.toNat) ≤ 0 →
          wp_M_wanting_58 K2 Q mPosts mSum mLack mBefore x1 x2 1
        ))
      ))
    ))
  ))
def wp_M_wanting_2 (Q : Int → Prop) (mPosts : Int) (mSum mLack mBefore : Nat → Int) (x1 : Int) : Nat → Int → Prop
  | 0, _ => False
  | n + 1, x2 => wp_M_wanting_2_b  (wp_M_wanting_2 Q mPosts mSum mLack mBefore x1 n) Q mPosts mSum mLack mBefore x1 x2
def wp_M_wanting (x1 : Int) (mPosts : Int) (mSum mLack mBefore : Nat → Int) (Q : Int → Prop) : Prop :=
  ∃ n : Nat, wp_M_wanting_2 Q mPosts mSum mLack mBefore x1 n 0
abbrev rm_M_wayRoom : Room := { frames := 0, cells := 0, slots := 0, locals := 0 }
def wp_M_wayRoom_5_b (K5 : Int → Int → Prop) (Q : Int → Prop) (mBeyond mSpare mBefore mVia : Nat → Int) (x3 : Int) (x4 : Int) : Prop :=
  (0 ≤ x4 ∧ x4 < 21) ∧
  jR (mBefore x4.toNat) ∧
  (((mBefore x4.toNat) < 0 →
    jR x4 ∧
    ((12 ≤ x4 →
      Q x3
    ) ∧ (¬ 12 ≤ x4 →
      (0 ≤ x4 ∧ x4 < 12) ∧
      jR x3 ∧
      jR (mSpare x4.toNat) ∧
      ((x3 ≤ (mSpare x4.toNat) →
        Q x3
      ) ∧ (¬ x3 ≤ (mSpare x4.toNat) →
        (((mSpare x4.toNat) ≤ 0 →
          Q x3
        ) ∧ (¬ (mSpare x4.toNat) ≤ 0 →
          Q (mSpare x4.toNat)
        ))
      ))
    ))
  ) ∧ (¬ (mBefore x4.toNat) < 0 →
    jR x4 ∧
    ((12 ≤ x4 →
      K5 x3 (mBefore x4.toNat)
    ) ∧ (¬ 12 ≤ x4 →
      (0 ≤ (mVia x4.toNat) ∧ (mVia x4.toNat) < 36) ∧
      jR (mBeyond (mVia x4.toNat).toNat) ∧
      jR x3 ∧
      ((x3 ≤ (mBeyond (mVia x4.toNat).toNat) →
        K5 x3 (mBefore x4.toNat)
      ) ∧ (¬ x3 ≤ (mBeyond (mVia x4.toNat).toNat) →
        K5 (mBeyond (mVia x4.toNat).toNat) (mBefore x4.toNat)
      ))
    ))
  ))
def wp_M_wayRoom_5 (Q : Int → Prop) (mBeyond mSpare mBefore mVia : Nat → Int) : Nat → Int → Int → Prop
  | 0, _, _ => False
  | n + 1, x3, x4 => wp_M_wayRoom_5_b  (wp_M_wayRoom_5 Q mBeyond mSpare mBefore mVia n) Q mBeyond mSpare mBefore mVia  x3 x4
def wp_M_wayRoom (x1 x2 : Int) (mBeyond mSpare mBefore mVia : Nat → Int) (Q : Int → Prop) : Prop :=
  ∃ n : Nat, wp_M_wayRoom_5 Q mBeyond mSpare mBefore mVia n x2 x1
abbrev rm_M_fill : Room := { frames := 2, cells := 0, slots := 0, locals := 48 }
def wp_M_fill_89 (K2 : Int → Int → (Nat → Int) → (Nat → Int) → (Nat → Int) → (Nat → Int) → (Nat → Int) → (Nat → Int) → Prop) (Q : Int → (Nat → Int) → (Nat → Int) → (Nat → Int) → (Nat → Int) → (Nat → Int) → (Nat → Int) → Prop) (mPosts mThirds : Int) (mCorner mSum : Nat → Int) (x1 : Int) (x2 : Int) (x3 : Int) (t1 : Int) (t2 : Int) (mQueued : Int) (mBeyond : Nat → Int) (mSpare : Nat → Int) (mLack : Nat → Int) (mBefore : Nat → Int) (mVia : Nat → Int) (mQueue : Nat → Int) : Prop :=
  wp_M_wayRoom t1 t2 mBeyond mSpare mBefore mVia (fun z_1 =>
    wp_M_goWay (12 + x3) z_1 mBeyond mBefore mVia (fun z_2 mBeyond_3 =>
      (0 ≤ z_2 ∧ z_2 < 12) ∧
      ∀ mSpare_5 : Nat → Int, mSpare_5 = up mSpare z_2.toNat ((mSpare z_2.toNat) - z_1) →
      (0 ≤ x3 ∧ x3 < 9) ∧
      jR x1 ∧
      ((x1 = 0 →
        ∀ mLack_9 : Nat → Int, mLack_9 = up mLack x3.toNat ((mLack x3.toNat) - 0) →
        K2 x2 mQueued mBeyond_3 mSpare_5 mLack_9 mBefore mVia mQueue
      ) ∧ (¬ x1 = 0 →
        ∀ mLack_10 : Nat → Int, mLack_10 = up mLack x3.toNat ((mLack x3.toNat) - z_1) →
        K2 x2 mQueued mBeyond_3 mSpare_5 mLack_10 mBefore mVia mQueue
      ))
    )
  )
def wp_M_fill_63 (K2 : Int → Int → (Nat → Int) → (Nat → Int) → (Nat → Int) → (Nat → Int) → (Nat → Int) → (Nat → Int) → Prop) (Q : Int → (Nat → Int) → (Nat → Int) → (Nat → Int) → (Nat → Int) → (Nat → Int) → (Nat → Int) → Prop) (mPosts mThirds : Int) (mCorner mSum : Nat → Int) (x1 : Int) (x3 : Int) (t0 : Int) (mQueued : Int) (mBeyond : Nat → Int) (mSpare : Nat → Int) (mLack : Nat → Int) (mBefore : Nat → Int) (mVia : Nat → Int) (mQueue : Nat → Int) : Prop :=
  jR t0 ∧
  ((t0 = 0 →
    K2 t0 mQueued mBeyond mSpare mLack mBefore mVia mQueue
  ) ∧ (¬ t0 = 0 →
    jR x1 ∧
    ((x1 = 0 →
      wp_M_fill_89 K2 Q mPosts mThirds mCorner mSum x1 t0 x3 (12 + x3) 4000 mQueued mBeyond mSpare mLack mBefore mVia mQueue
    ) ∧ (¬ x1 = 0 →
      (0 ≤ x3 ∧ x3 < 9) ∧
      wp_M_fill_89 K2 Q mPosts mThirds mCorner mSum x1 t0 x3 (12 + x3) (mLack x3.toNat) mQueued mBeyond mSpare mLack mBefore mVia mQueue
    ))
  ))
def wp_M_fill_12_b (K2 : Int → Int → (Nat → Int) → (Nat → Int) → (Nat → Int) → (Nat → Int) → (Nat → Int) → (Nat → Int) → Prop) (K12 : Int → Int → (Nat → Int) → (Nat → Int) → (Nat → Int) → Prop) (Q : Int → (Nat → Int) → (Nat → Int) → (Nat → Int) → (Nat → Int) → (Nat → Int) → (Nat → Int) → Prop) (mPosts mThirds : Int) (mCorner mSum : Nat → Int) (x1 : Int) (mBeyond : Nat → Int) (mSpare : Nat → Int) (mLack : Nat → Int) (x3 : Int) (mQueued : Int) (mBefore : Nat → Int) (mVia : Nat → Int) (mQueue : Nat → Int) : Prop :=
  jR x3 ∧
  jR mThirds ∧
  ((mThirds ≤ x3 →
    wp_M_spread 0 0 mPosts mThirds mQueued mCorner mSum mBeyond mBefore mVia mQueue (fun mQueued_19 mBefore_20 mVia_21 mQueue_22 =>
      wp_M_wanting x1 mPosts mSum mLack mBefore_20 (fun z_23 =>
        jR z_23 ∧
        ((z_23 < 0 →
          wp_M_fill_63 K2 Q mPosts mThirds mCorner mSum x1 z_23 0 mQueued_19 mBeyond mSpare mLack mBefore_20 mVia_21 mQueue_22
        ) ∧ (¬ z_23 < 0 →
          wp_M_fill_63 K2 Q mPosts mThirds mCorner mSum x1 z_23 1 mQueued_19 mBeyond mSpare mLack mBefore_20 mVia_21 mQueue_22
        ))
      )
    )
  ) ∧ (¬ mThirds ≤ x3 →
    (0 ≤ x3 ∧ x3 < 12) ∧
    jR (mSpare x3.toNat) ∧
    (((mSpare x3.toNat) ≤ 0 →
      K12 (x3 + 1) mQueued mBefore mVia mQueue
    ) ∧ (¬ (mSpare x3.toNat) ≤ 0 →
      wp_M_come x3 (-1) (-1) mQueued mBefore mVia mQueue (fun mQueued_29 mBefore_30 mVia_31 mQueue_32 =>
        K12 (x3 + 1) mQueued_29 mBefore_30 mVia_31 mQueue_32
      )
    ))
  ))
def wp_M_fill_12 (K2 : Int → Int → (Nat → Int) → (Nat → Int) → (Nat → Int) → (Nat → Int) → (Nat → Int) → (Nat → Int) → Prop) (Q : Int → (Nat → Int) → (Nat → Int) → (Nat → Int) → (Nat → Int) → (Nat → Int) → (Nat → Int) → Prop) (mPosts mThirds : Int) (mCorner mSum : Nat → Int) (x1 : Int) (mBeyond : Nat → Int) (mSpare : Nat → Int) (mLack : Nat → Int) : Nat → Int → Int → (Nat → Int) → (Nat → Int) → (Nat → Int) → Prop
  | 0, _, _, _, _, _ => False
  | n + 1, x3, mQueued, mBefore, mVia, mQueue => wp_M_fill_12_b K2 (wp_M_fill_12 K2 Q mPosts mThirds mCorner mSum x1 mBeyond mSpare mLack n) Q mPosts mThirds mCorner mSum x1 mBeyond mSpare mLack x3 mQueued mBefore mVia mQueue
def wp_M_fill_2_b (K2 : Int → Int → (Nat → Int) → (Nat → Int) → (Nat → Int) → (Nat → Int) → (Nat → Int) → (Nat → Int) → Prop) (Q : Int → (Nat → Int) → (Nat → Int) → (Nat → Int) → (Nat → Int) → (Nat → Int) → (Nat → Int) → Prop) (mPosts mThirds : Int) (mCorner mSum : Nat → Int) (x1 : Int) (x2 : Int) (mQueued : Int) (mBeyond : Nat → Int) (mSpare : Nat → Int) (mLack : Nat → Int) (mBefore : Nat → Int) (mVia : Nat → Int) (mQueue : Nat → Int) : Prop :=
  jR x2 ∧
  ((x2 = 0 →
    Q mQueued mBeyond mSpare mLack mBefore mVia mQueue
  ) ∧ (¬ x2 = 0 →
    wp_M_clearWays mQueued mBefore (fun mQueued_35 mBefore_36 =>
      ∃ n : Nat, wp_M_fill_12 K2 Q mPosts mThirds mCorner mSum x1 mBeyond mSpare mLack n 0 mQueued_35 mBefore_36 mVia mQueue
    )
  ))
def wp_M_fill_2 (Q : Int → (Nat → Int) → (Nat → Int) → (Nat → Int) → (Nat → Int) → (Nat → Int) → (Nat → Int) → Prop) (mPosts mThirds : Int) (mCorner mSum : Nat → Int) (x1 : Int) : Nat → Int → Int → (Nat → Int) → (Nat → Int) → (Nat → Int) → (Nat → Int) → (Nat → Int) → (Nat → Int) → Prop
  | 0, _, _, _, _, _, _, _, _ => False
  | n + 1, x2, mQueued, mBeyond, mSpare, mLack, mBefore, mVia, mQueue => wp_M_fill_2_b  (wp_M_fill_2 Q mPosts mThirds mCorner mSum x1 n) Q mPosts mThirds mCorner mSum x1 x2 mQueued mBeyond mSpare mLack mBefore mVia mQueue
def wp_M_fill (x1 : Int) (mPosts mThirds mQueued : Int) (mCorner mSum mBeyond mSpare mLack mBefore mVia mQueue : Nat → Int) (Q : Int → (Nat → Int) → (Nat → Int) → (Nat → Int) → (Nat → Int) → (Nat → Int) → (Nat → Int) → Prop) : Prop :=
  ∃ n : Nat, wp_M_fill_2 Q mPosts mThirds mCorner mSum x1 n 1 mQueued mBeyond mSpare mLack mBefore mVia mQueue
abbrev rm_M_canWith : Room := { frames := 3, cells := 0, slots := 0, locals := 73 }
def wp_M_canWith_176_b (K176 : Int → Int → Prop) (Q : Int → Int → (Nat → Int) → (Nat → Int) → (Nat → Int) → (Nat → Int) → (Nat → Int) → (Nat → Int) → Prop) (mPosts : Int) (mQueued : Int) (mBeyond : Nat → Int) (mSpare : Nat → Int) (mLack : Nat → Int) (mBefore : Nat → Int) (mVia : Nat → Int) (mQueue : Nat → Int) (x2 : Int) (x3 : Int) : Prop :=
  jR x3 ∧
  jR mPosts ∧
  ((mPosts ≤ x3 →
    (x2 = 0 ∨ x2 = 1) ∧
    Q x2 mQueued mBeyond mSpare mLack mBefore mVia mQueue
  ) ∧ (¬ mPosts ≤ x3 →
    jR x2 ∧
    ((x2 = 0 →
      K176 0 (x3 + 1)
    ) ∧ (¬ x2 = 0 →
      (0 ≤ x3 ∧ x3 < 9) ∧
      jR (mLack x3.toNat) ∧
      (((mLack x3.toNat) = 0 →
        K176 1 (x3 + 1)
      ) ∧ (¬ (mLack x3.toNat) = 0 →
        K176 0 (x3 + 1)
      ))
    ))
  ))
def wp_M_canWith_176 (Q : Int → Int → (Nat → Int) → (Nat → Int) → (Nat → Int) → (Nat → Int) → (Nat → Int) → (Nat → Int) → Prop) (mPosts : Int) (mQueued : Int) (mBeyond : Nat → Int) (mSpare : Nat → Int) (mLack : Nat → Int) (mBefore : Nat → Int) (mVia : Nat → Int) (mQueue : Nat → Int) : Nat → Int → Int → Prop
  | 0, _, _ => False
  | n + 1, x2, x3 => wp_M_canWith_176_b  (wp_M_canWith_176 Q mPosts mQueued mBeyond mSpare mLack mBefore mVia mQueue n) Q mPosts mQueued mBeyond mSpare mLack mBefore mVia mQueue x2 x3
def wp_M_canWith_141_b (K141 : Int → Int → Prop) (Q : Int → Int → (Nat → Int) → (Nat → Int) → (Nat → Int) → (Nat → Int) → (Nat → Int) → (Nat → Int) → Prop) (mPosts mThirds : Int) (mQueued : Int) (mBeyond : Nat → Int) (mSpare : Nat → Int) (mLack : Nat → Int) (mBefore : Nat → Int) (mVia : Nat → Int) (mQueue : Nat → Int) (x2 : Int) (x3 : Int) : Prop :=
  jR x3 ∧
  jR mThirds ∧
  ((mThirds ≤ x3 →
    ∃ n : Nat, wp_M_canWith_176 Q mPosts mQueued mBeyond mSpare mLack mBefore mVia mQueue n x2 0
  ) ∧ (¬ mThirds ≤ x3 →
    jR x2 ∧
    ((x2 = 0 →
      K141 0 (x3 + 1)
    ) ∧ (¬ x2 = 0 →
      (0 ≤ x3 ∧ x3 < 12) ∧
      jR (mSpare x3.toNat) ∧
      (((mSpare x3.toNat) = 0 →
        K141 1 (x3 + 1)
      ) ∧ (¬ (mSpare x3.toNat) = 0 →
        K141 0 (x3 + 1)
      ))
    ))
  ))
def wp_M_canWith_141 (Q : Int → Int → (Nat → Int) → (Nat → Int) → (Nat → Int) → (Nat → Int) → (Nat → Int) → (Nat → Int) → Prop) (mPosts mThirds : Int) (mQueued : Int) (mBeyond : Nat → Int) (mSpare : Nat → Int) (mLack : Nat → Int) (mBefore : Nat → Int) (mVia : Nat → Int) (mQueue : Nat → Int) : Nat → Int → Int → Prop
  | 0, _, _ => False
  | n + 1, x2, x3 => wp_M_canWith_141_b  (wp_M_canWith_141 Q mPosts mThirds mQueued mBeyond mSpare mLack mBefore mVia mQueue n) Q mPosts mThirds mQueued mBeyond mSpare mLack mBefore mVia mQueue x2 x3
def wp_M_canWith_97 (K55 : Int → Int → (Nat → Int) → Prop) (Q : Int → Int → (Nat → Int) → (Nat → Int) → (Nat → Int) → (Nat → Int) → (Nat → Int) → (Nat → Int) → Prop) (mPosts mThirds : Int) (mCorner mSum : Nat → Int) (x1 : Int) (mQueued : Int) (mBeyond : Nat → Int) (mSpare : Nat → Int) (mBefore : Nat → Int) (mVia : Nat → Int) (mQueue : Nat → Int) (x2 : Int) (x3 : Int) (t1 : Int) (t2 : Int) (mLack : Nat → Int) : Prop :=
  (0 ≤ t1 ∧ t1 < 9) ∧
  ∀ mLack_18 : Nat → Int, mLack_18 = up mLack t1.toNat t2 →
  jR x2 ∧
  ((x2 = 0 →
    K55 0 (x3 + 1) mLack_18
  ) ∧ (¬ x2 = 0 →
    (0 ≤ x3 ∧ x3 < 9) ∧
    jR (mLack_18 x3.toNat) ∧
    (((mLack_18 x3.toNat) < 0 →
      K55 0 (x3 + 1) mLack_18
    ) ∧ (¬ (mLack_18 x3.toNat) < 0 →
      K55 1 (x3 + 1) mLack_18
    ))
  ))
def wp_M_canWith_55_b (K55 : Int → Int → (Nat → Int) → Prop) (Q : Int → Int → (Nat → Int) → (Nat → Int) → (Nat → Int) → (Nat → Int) → (Nat → Int) → (Nat → Int) → Prop) (mPosts mThirds : Int) (mCorner mSum : Nat → Int) (x1 : Int) (mQueued : Int) (mBeyond : Nat → Int) (mSpare : Nat → Int) (mBefore : Nat → Int) (mVia : Nat → Int) (mQueue : Nat → Int) (x2 : Int) (x3 : Int) (mLack : Nat → Int) : Prop :=
  jR x3 ∧
  jR mPosts ∧
  ((mPosts ≤ x3 →
    jR x2 ∧
    ((x2 = 0 →
      Q 0 mQueued mBeyond mSpare mLack mBefore mVia mQueue
    ) ∧ (¬ x2 = 0 →
      wp_M_fill 1 mPosts mThirds mQueued mCorner mSum mBeyond mSpare mLack mBefore mVia mQueue (fun mQueued_29 mBeyond_30 mSpare_31 mLack_32 mBefore_33 mVia_34 mQueue_35 =>
        wp_M_fill 0 mPosts mThirds mQueued_29 mCorner mSum mBeyond_30 mSpare_31 mLack_32 mBefore_33 mVia_34 mQueue_35 (fun mQueued_36 mBeyond_37 mSpare_38 mLack_39 mBefore_40 mVia_41 mQueue_42 =>
          ∃ n : Nat, wp_M_canWith_141 Q mPosts mThirds mQueued_36 mBeyond_37 mSpare_38 mLack_39 mBefore_40 mVia_41 mQueue_42 n x2 0
        )
      )
    ))
  ) ∧ (¬ mPosts ≤ x3 →
    (0 ≤ x3 ∧ x3 < 9) ∧
    jR (mSum x3.toNat) ∧
    (((mSum x3.toNat) = (-6) →
      wp_M_canWith_97 K55 Q mPosts mThirds mCorner mSum x1 mQueued mBeyond mSpare mBefore mVia mQueue x2 x3 x3 0 mLack
    ) ∧ (¬ (mSum x3.toNat) = (-6) →
      wp_M_cornersAt x3 mThirds mCorner (fun z_46 =>
        wp_M_canWith_97 K55 Q mPosts mThirds mCorner mSum x1 mQueued mBeyond mSpare mBefore mVia mQueue x2 x3 x3 ((mSum x3.toNat) - (x1 * z_46)) mLack
      )
    ))
  ))
def wp_M_canWith_55 (Q : Int → Int → (Nat → Int) → (Nat → Int) → (Nat → Int) → (Nat → Int) → (Nat → Int) → (Nat → Int) → Prop) (mPosts mThirds : Int) (mCorner mSum : Nat → Int) (x1 : Int) (mQueued : Int) (mBeyond : Nat → Int) (mSpare : Nat → Int) (mBefore : Nat → Int) (mVia : Nat → Int) (mQueue : Nat → Int) : Nat → Int → Int → (Nat → Int) → Prop
  | 0, _, _, _ => False
  | n + 1, x2, x3, mLack => wp_M_canWith_55_b  (wp_M_canWith_55 Q mPosts mThirds mCorner mSum x1 mQueued mBeyond mSpare mBefore mVia mQueue n) Q mPosts mThirds mCorner mSum x1 mQueued mBeyond mSpare mBefore mVia mQueue x2 x3 mLack
def wp_M_canWith_25_b (K25 : Int → (Nat → Int) → Prop) (Q : Int → Int → (Nat → Int) → (Nat → Int) → (Nat → Int) → (Nat → Int) → (Nat → Int) → (Nat → Int) → Prop) (mPosts mThirds mStraight : Int) (mCorner mSum : Nat → Int) (x1 : Int) (x2 : Int) (mQueued : Int) (mBeyond : Nat → Int) (mLack : Nat → Int) (mBefore : Nat → Int) (mVia : Nat → Int) (mQueue : Nat → Int) (x3 : Int) (mSpare : Nat → Int) : Prop :=
  jR x3 ∧
  jR mThirds ∧
  ((mThirds ≤ x3 →
    ∃ n : Nat, wp_M_canWith_55 Q mPosts mThirds mCorner mSum x1 mQueued mBeyond mSpare mBefore mVia mQueue n x2 0 mLack
  ) ∧ (¬ mThirds ≤ x3 →
    (0 ≤ x3 ∧ x3 < 12) ∧
    ∀ mSpare_51 : Nat → Int, mSpare_51 = up mSpare x3.toNat (mStraight - (3 * x1)) →
    K25 (x3 + 1) mSpare_51
  ))
def wp_M_canWith_25 (Q : Int → Int → (Nat → Int) → (Nat → Int) → (Nat → Int) → (Nat → Int) → (Nat → Int) → (Nat → Int) → Prop) (mPosts mThirds mStraight : Int) (mCorner mSum : Nat → Int) (x1 : Int) (x2 : Int) (mQueued : Int) (mBeyond : Nat → Int) (mLack : Nat → Int) (mBefore : Nat → Int) (mVia : Nat → Int) (mQueue : Nat → Int) : Nat → Int → (Nat → Int) → Prop
  | 0, _, _ => False
  | n + 1, x3, mSpare => wp_M_canWith_25_b  (wp_M_canWith_25 Q mPosts mThirds mStraight mCorner mSum x1 x2 mQueued mBeyond mLack mBefore mVia mQueue n) Q mPosts mThirds mStraight mCorner mSum x1 x2 mQueued mBeyond mLack mBefore mVia mQueue x3 mSpare
def wp_M_canWith_4_b (K4 : Int → (Nat → Int) → Prop) (Q : Int → Int → (Nat → Int) → (Nat → Int) → (Nat → Int) → (Nat → Int) → (Nat → Int) → (Nat → Int) → Prop) (mPosts mThirds mStraight : Int) (mCorner mSum : Nat → Int) (x1 : Int) (x2 : Int) (mQueued : Int) (mSpare : Nat → Int) (mLack : Nat → Int) (mBefore : Nat → Int) (mVia : Nat → Int) (mQueue : Nat → Int) (x3 : Int) (mBeyond : Nat → Int) : Prop :=
  jR x3 ∧
  ((36 ≤ x3 →
    ∃ n : Nat, wp_M_canWith_25 Q mPosts mThirds mStraight mCorner mSum x1 x2 mQueued mBeyond mLack mBefore mVia mQueue n 0 mSpare
  ) ∧ (¬ 36 ≤ x3 →
    (0 ≤ x3 ∧ x3 < 36) ∧
    ∀ mBeyond_55 : Nat → Int, mBeyond_55 = up mBeyond x3.toNat 0 →
    K4 (x3 + 1) mBeyond_55
  ))
def wp_M_canWith_4 (Q : Int → Int → (Nat → Int) → (Nat → Int) → (Nat → Int) → (Nat → Int) → (Nat → Int) → (Nat → Int) → Prop) (mPosts mThirds mStraight : Int) (mCorner mSum : Nat → Int) (x1 : Int) (x2 : Int) (mQueued : Int) (mSpare : Nat → Int) (mLack : Nat → Int) (mBefore : Nat → Int) (mVia : Nat → Int) (mQueue : Nat → Int) : Nat → Int → (Nat → Int) → Prop
  | 0, _, _ => False
  | n + 1, x3, mBeyond => wp_M_canWith_4_b  (wp_M_canWith_4 Q mPosts mThirds mStraight mCorner mSum x1 x2 mQueued mSpare mLack mBefore mVia mQueue n) Q mPosts mThirds mStraight mCorner mSum x1 x2 mQueued mSpare mLack mBefore mVia mQueue x3 mBeyond
def wp_M_canWith (x1 : Int) (mPosts mThirds mStraight mQueued : Int) (mCorner mSum mBeyond mSpare mLack mBefore mVia mQueue : Nat → Int) (Q : Int → Int → (Nat → Int) → (Nat → Int) → (Nat → Int) → (Nat → Int) → (Nat → Int) → (Nat → Int) → Prop) : Prop :=
  ∃ n : Nat, wp_M_canWith_4 Q mPosts mThirds mStraight mCorner mSum x1 1 mQueued mSpare mLack mBefore mVia mQueue n 0 mBeyond
abbrev rm_M_lower : Room := { frames := 2, cells := 0, slots := 0, locals := 48 }
def wp_M_lower_66 (K15 : Int → Int → (Nat → Int) → (Nat → Int) → (Nat → Int) → (Nat → Int) → Prop) (Q : Int → (Nat → Int) → (Nat → Int) → (Nat → Int) → (Nat → Int) → Prop) (mPosts mThirds : Int) (mCorner mSum mSpare : Nat → Int) (x1 : Int) (x3 : Int) (t0 : Int) (mQueued : Int) (mBeyond : Nat → Int) (mBefore : Nat → Int) (mVia : Nat → Int) (mQueue : Nat → Int) : Prop :=
  jR t0 ∧
  ((t0 = 0 →
    K15 t0 mQueued mBeyond mBefore mVia mQueue
  ) ∧ (¬ t0 = 0 →
    (0 ≤ x1 ∧ x1 < 36) ∧
    wp_M_wayRoom x3 (mBeyond x1.toNat) mBeyond mSpare mBefore mVia (fun z_4 =>
      wp_M_goWay x3 z_4 mBeyond mBefore mVia (fun z_5 mBeyond_6 =>
        ∀ mBeyond_7 : Nat → Int, mBeyond_7 = up mBeyond_6 x1.toNat ((mBeyond_6 x1.toNat) - z_4) →
        jR (mBeyond_7 x1.toNat) ∧
        (((mBeyond_7 x1.toNat) ≤ 0 →
          K15 0 mQueued mBeyond_7 mBefore mVia mQueue
        ) ∧ (¬ (mBeyond_7 x1.toNat) ≤ 0 →
          jR z_5 ∧
          ((z_5 < 0 →
            K15 0 mQueued mBeyond_7 mBefore mVia mQueue
          ) ∧ (¬ z_5 < 0 →
            K15 1 mQueued mBeyond_7 mBefore mVia mQueue
          ))
        ))
      )
    )
  ))
def wp_M_lower_15_b (K15 : Int → Int → (Nat → Int) → (Nat → Int) → (Nat → Int) → (Nat → Int) → Prop) (Q : Int → (Nat → Int) → (Nat → Int) → (Nat → Int) → (Nat → Int) → Prop) (mPosts mThirds : Int) (mCorner mSum mSpare : Nat → Int) (x1 : Int) (x2 : Int) (mQueued : Int) (mBeyond : Nat → Int) (mBefore : Nat → Int) (mVia : Nat → Int) (mQueue : Nat → Int) : Prop :=
  jR x2 ∧
  ((x2 = 0 →
    Q mQueued mBeyond mBefore mVia mQueue
  ) ∧ (¬ x2 = 0 →
    wp_M_clearWays mQueued mBefore (fun mQueued_14 mBefore_15 =>
      wp_M_come (jdiv x1 3) (-1) (-1) mQueued_14 mBefore_15 mVia mQueue (fun mQueued_16 mBefore_17 mVia_18 mQueue_19 =>
        wp_M_spread (x1 + 1) 1 mPosts mThirds mQueued_16 mCorner mSum mBeyond mBefore_17 mVia_18 mQueue_19 (fun mQueued_20 mBefore_21 mVia_22 mQueue_23 =>
          (0 ≤ x1 ∧ x1 < 36) ∧
          (0 ≤ (12 + (mCorner x1.toNat)) ∧ (12 + (mCorner x1.toNat)) < 21) ∧
          jR (mBefore_21 (12 + (mCorner x1.toNat)).toNat) ∧
          (((mBefore_21 (12 + (mCorner x1.toNat)).toNat) = (-2) →
            wp_M_lower_66 K15 Q mPosts mThirds mCorner mSum mSpare x1 (12 + (mCorner x1.toNat)) 0 mQueued_20 mBeyond mBefore_21 mVia_22 mQueue_23
          ) ∧ (¬ (mBefore_21 (12 + (mCorner x1.toNat)).toNat) = (-2) →
            wp_M_lower_66 K15 Q mPosts mThirds mCorner mSum mSpare x1 (12 + (mCorner x1.toNat)) 1 mQueued_20 mBeyond mBefore_21 mVia_22 mQueue_23
          ))
        )
      )
    )
  ))
def wp_M_lower_15 (Q : Int → (Nat → Int) → (Nat → Int) → (Nat → Int) → (Nat → Int) → Prop) (mPosts mThirds : Int) (mCorner mSum mSpare : Nat → Int) (x1 : Int) : Nat → Int → Int → (Nat → Int) → (Nat → Int) → (Nat → Int) → (Nat → Int) → Prop
  | 0, _, _, _, _, _, _ => False
  | n + 1, x2, mQueued, mBeyond, mBefore, mVia, mQueue => wp_M_lower_15_b  (wp_M_lower_15 Q mPosts mThirds mCorner mSum mSpare x1 n) Q mPosts mThirds mCorner mSum mSpare x1 x2 mQueued mBeyond mBefore mVia mQueue
def wp_M_lower (x1 : Int) (mPosts mThirds mQueued : Int) (mCorner mSum mBeyond mSpare mBefore mVia mQueue : Nat → Int) (Q : Int → (Nat → Int) → (Nat → Int) → (Nat → Int) → (Nat → Int) → Prop) : Prop :=
  (0 ≤ x1 ∧ x1 < 36) ∧
  jR (mBeyond x1.toNat) ∧
  (((mBeyond x1.toNat) ≤ 0 →
    ∃ n : Nat, wp_M_lower_15 Q mPosts mThirds mCorner mSum mSpare x1 n 0 mQueued mBeyond mBefore mVia mQueue
  ) ∧ (¬ (mBeyond x1.toNat) ≤ 0 →
    ∃ n : Nat, wp_M_lower_15 Q mPosts mThirds mCorner mSum mSpare x1 n 1 mQueued mBeyond mBefore mVia mQueue
  ))
abbrev rm_M_hasRow : Room := { frames := 4, cells := 0, slots := 0, locals := 96 }
def wp_M_hasRow_21_b (K21 : Int → Int → (Nat → Int) → (Nat → Int) → (Nat → Int) → (Nat → Int) → Prop) (Q : Int → Int → Int → Int → (Nat → Int) → (Nat → Int) → (Nat → Int) → (Nat → Int) → (Nat → Int) → (Nat → Int) → Prop) (mPosts mThirds : Int) (mCorner mSum : Nat → Int) (mIsLaid : Int) (mIsGiven : Int) (mSpare : Nat → Int) (mLack : Nat → Int) (x1 : Int) (mQueued : Int) (mBeyond : Nat → Int) (mBefore : Nat → Int) (mVia : Nat → Int) (mQueue : Nat → Int) : Prop :=
  jR x1 ∧
  jR (3 * mThirds) ∧
  (((3 * mThirds) ≤ x1 →
    (mIsGiven = 0 ∨ mIsGiven = 1) ∧
    Q mIsGiven 1 mIsGiven mQueued mBeyond mSpare mLack mBefore mVia mQueue
  ) ∧ (¬ (3 * mThirds) ≤ x1 →
    jR mIsGiven ∧
    ((mIsGiven = 0 →
      (mIsGiven = 0 ∨ mIsGiven = 1) ∧
      Q mIsGiven 1 mIsGiven mQueued mBeyond mSpare mLack mBefore mVia mQueue
    ) ∧ (¬ mIsGiven = 0 →
      wp_M_lower x1 mPosts mThirds mQueued mCorner mSum mBeyond mSpare mBefore mVia mQueue (fun mQueued_6 mBeyond_7 mBefore_8 mVia_9 mQueue_10 =>
        K21 (x1 + 1) mQueued_6 mBeyond_7 mBefore_8 mVia_9 mQueue_10
      )
    ))
  ))
def wp_M_hasRow_21 (Q : Int → Int → Int → Int → (Nat → Int) → (Nat → Int) → (Nat → Int) → (Nat → Int) → (Nat → Int) → (Nat → Int) → Prop) (mPosts mThirds : Int) (mCorner mSum : Nat → Int) (mIsLaid : Int) (mIsGiven : Int) (mSpare : Nat → Int) (mLack : Nat → Int) : Nat → Int → Int → (Nat → Int) → (Nat → Int) → (Nat → Int) → (Nat → Int) → Prop
  | 0, _, _, _, _, _, _ => False
  | n + 1, x1, mQueued, mBeyond, mBefore, mVia, mQueue => wp_M_hasRow_21_b  (wp_M_hasRow_21 Q mPosts mThirds mCorner mSum mIsLaid mIsGiven mSpare mLack n) Q mPosts mThirds mCorner mSum mIsLaid mIsGiven mSpare mLack x1 mQueued mBeyond mBefore mVia mQueue
def wp_M_hasRow (mPosts mThirds mStraight mLeast mIsLaid mIsGiven mQueued : Int) (mCorner mSum mBeyond mSpare mLack mBefore mVia mQueue : Nat → Int) (Q : Int → Int → Int → Int → (Nat → Int) → (Nat → Int) → (Nat → Int) → (Nat → Int) → (Nat → Int) → (Nat → Int) → Prop) : Prop :=
  jR mIsLaid ∧
  ((mIsLaid = 0 →
    wp_M_canWith mLeast mPosts mThirds mStraight mQueued mCorner mSum mBeyond mSpare mLack mBefore mVia mQueue (fun z_13 mQueued_14 mBeyond_15 mSpare_16 mLack_17 mBefore_18 mVia_19 mQueue_20 =>
      (z_13 = 0 ∨ z_13 = 1) ∧
      ∃ n : Nat, wp_M_hasRow_21 Q mPosts mThirds mCorner mSum mIsLaid z_13 mSpare_16 mLack_17 n 0 mQueued_14 mBeyond_15 mBefore_18 mVia_19 mQueue_20
    )
  ) ∧ (¬ mIsLaid = 0 →
    (mIsGiven = 0 ∨ mIsGiven = 1) ∧
    Q mIsGiven mIsLaid mIsGiven mQueued mBeyond mSpare mLack mBefore mVia mQueue
  ))
abbrev rm_M_sumOfRow : Room := { frames := 5, cells := 0, slots := 0, locals := 117 }
def wp_M_sumOfRow_14_b (K14 : Int → Int → Prop) (Q : Int → Int → Int → Int → (Nat → Int) → (Nat → Int) → (Nat → Int) → (Nat → Int) → (Nat → Int) → (Nat → Int) → Prop) (mThirds mLeast : Int) (mCorner : Nat → Int) (x1 : Int) (mIsLaid : Int) (mIsGiven : Int) (mQueued : Int) (mBeyond : Nat → Int) (mSpare : Nat → Int) (mLack : Nat → Int) (mBefore : Nat → Int) (mVia : Nat → Int) (mQueue : Nat → Int) (x2 : Int) (x3 : Int) : Prop :=
  jR x3 ∧
  jR (3 * mThirds) ∧
  (((3 * mThirds) ≤ x3 →
    Q x2 mIsLaid mIsGiven mQueued mBeyond mSpare mLack mBefore mVia mQueue
  ) ∧ (¬ (3 * mThirds) ≤ x3 →
    (0 ≤ x3 ∧ x3 < 36) ∧
    jR (mCorner x3.toNat) ∧
    jR x1 ∧
    (((mCorner x3.toNat) = x1 →
      K14 (x2 + (mLeast + (mBeyond x3.toNat))) (x3 + 1)
    ) ∧ (¬ (mCorner x3.toNat) = x1 →
      K14 (x2 + 0) (x3 + 1)
    ))
  ))
def wp_M_sumOfRow_14 (Q : Int → Int → Int → Int → (Nat → Int) → (Nat → Int) → (Nat → Int) → (Nat → Int) → (Nat → Int) → (Nat → Int) → Prop) (mThirds mLeast : Int) (mCorner : Nat → Int) (x1 : Int) (mIsLaid : Int) (mIsGiven : Int) (mQueued : Int) (mBeyond : Nat → Int) (mSpare : Nat → Int) (mLack : Nat → Int) (mBefore : Nat → Int) (mVia : Nat → Int) (mQueue : Nat → Int) : Nat → Int → Int → Prop
  | 0, _, _ => False
  | n + 1, x2, x3 => wp_M_sumOfRow_14_b  (wp_M_sumOfRow_14 Q mThirds mLeast mCorner x1 mIsLaid mIsGiven mQueued mBeyond mSpare mLack mBefore mVia mQueue n) Q mThirds mLeast mCorner x1 mIsLaid mIsGiven mQueued mBeyond mSpare mLack mBefore mVia mQueue x2 x3
def wp_M_sumOfRow (x1 : Int) (mPosts mThirds mStraight mLeast mIsLaid mIsGiven mQueued : Int) (mCorner mSum mBeyond mSpare mLack mBefore mVia mQueue : Nat → Int) (Q : Int → Int → Int → Int → (Nat → Int) → (Nat → Int) → (Nat → Int) → (Nat → Int) → (Nat → Int) → (Nat → Int) → Prop) : Prop :=
  wp_M_hasRow mPosts mThirds mStraight mLeast mIsLaid mIsGiven mQueued mCorner mSum mBeyond mSpare mLack mBefore mVia mQueue (fun z_8 mIsLaid_9 mIsGiven_10 mQueued_11 mBeyond_12 mSpare_13 mLack_14 mBefore_15 mVia_16 mQueue_17 =>
    jR z_8 ∧
    ((z_8 = 0 →
      Q (-6) mIsLaid_9 mIsGiven_10 mQueued_11 mBeyond_12 mSpare_13 mLack_14 mBefore_15 mVia_16 mQueue_17
    ) ∧ (¬ z_8 = 0 →
      ∃ n : Nat, wp_M_sumOfRow_14 Q mThirds mLeast mCorner x1 mIsLaid_9 mIsGiven_10 mQueued_11 mBeyond_12 mSpare_13 mLack_14 mBefore_15 mVia_16 mQueue_17 n 0 0
    ))
  )
abbrev rm_M_about : Room := { frames := 6, cells := 0, slots := 0, locals := 140 }
def wp_M_about (x1 x2 : Int) (mPosts mThirds mStraight mLeast mIsLaid mIsGiven mQueued : Int) (mCorner mSum mBeyond mMark mSpare mLack mBefore mVia mQueue : Nat → Int) (Q : Int → Int → Int → Int → (Nat → Int) → (Nat → Int) → (Nat → Int) → (Nat → Int) → (Nat → Int) → (Nat → Int) → (Nat → Int) → Prop) : Prop :=
  wp_M_isPost x1 mPosts (fun z_1 =>
    jR z_1 ∧
    ((z_1 = 0 →
      Q (-1) mIsLaid mIsGiven mQueued mBeyond mMark mSpare mLack mBefore mVia mQueue
    ) ∧ (¬ z_1 = 0 →
      jR x2 ∧
      (x2 = 0 →
        wp_M_cornersAt x1 mThirds mCorner (fun z_6 =>
          Q z_6 mIsLaid mIsGiven mQueued mBeyond mMark mSpare mLack mBefore mVia mQueue
        )
      ) ∧
      (x2 = 1 →
        wp_M_sidesAt x1 1 2 mPosts mThirds mCorner (fun z_7 =>
          Q z_7 mIsLaid mIsGiven mQueued mBeyond mMark mSpare mLack mBefore mVia mQueue
        )
      ) ∧
      (x2 = 2 →
        wp_M_cornersAt x1 mThirds mCorner (fun z_8 =>
          jR z_8 ∧
          ((z_8 ≤ 0 →
            Q 0 mIsLaid mIsGiven mQueued mBeyond mMark mSpare mLack mBefore mVia mQueue
          ) ∧ (¬ z_8 ≤ 0 →
            wp_M_sidesAt x1 1 1 mPosts mThirds mCorner (fun z_11 =>
              jR z_11 ∧
              ((z_11 = 0 →
                Q 1 mIsLaid mIsGiven mQueued mBeyond mMark mSpare mLack mBefore mVia mQueue
              ) ∧ (¬ z_11 = 0 →
                Q 0 mIsLaid mIsGiven mQueued mBeyond mMark mSpare mLack mBefore mVia mQueue
              ))
            )
          ))
        )
      ) ∧
      (x2 = 3 →
        wp_M_pieces x1 mThirds mCorner mMark (fun z_14 mMark_15 =>
          jR z_14 ∧
          ((z_14 = 1 →
            Q 1 mIsLaid mIsGiven mQueued mBeyond mMark_15 mSpare mLack mBefore mVia mQueue
          ) ∧ (¬ z_14 = 1 →
            Q 0 mIsLaid mIsGiven mQueued mBeyond mMark_15 mSpare mLack mBefore mVia mQueue
          ))
        )
      ) ∧
      (x2 = 4 →
        (0 ≤ x1 ∧ x1 < 9) ∧
        Q (mSum x1.toNat) mIsLaid mIsGiven mQueued mBeyond mMark mSpare mLack mBefore mVia mQueue
      ) ∧
      (x2 = 5 →
        wp_M_sumOfRow x1 mPosts mThirds mStraight mLeast mIsLaid mIsGiven mQueued mCorner mSum mBeyond mSpare mLack mBefore mVia mQueue (fun z_19 mIsLaid_20 mIsGiven_21 mQueued_22 mBeyond_23 mSpare_24 mLack_25 mBefore_26 mVia_27 mQueue_28 =>
          Q z_19 mIsLaid_20 mIsGiven_21 mQueued_22 mBeyond_23 mMark mSpare_24 mLack_25 mBefore_26 mVia_27 mQueue_28
        )
      ) ∧
      (¬ x2 = 0 ∧ ¬ x2 = 1 ∧ ¬ x2 = 2 ∧ ¬ x2 = 3 ∧ ¬ x2 = 4 ∧ ¬ x2 = 5 →
        Q (-2) mIsLaid mIsGiven mQueued mBeyond mMark mSpare mLack mBefore mVia mQueue
      )
    ))
  )
abbrev rm_M_sides : Room := { frames := 2, cells := 0, slots := 0, locals := 45 }
def wp_M_sides_15_b (K4 : Int → Int → Prop) (K15 : Int → Int → Prop) (Q : Int → Prop) (mPosts mThirds : Int) (mCorner : Nat → Int) (x1 : Int) (x3 : Int) (x2 : Int) (x4 : Int) : Prop :=
  jR x4 ∧
  jR x3 ∧
  ((x3 ≤ x4 →
    K4 x2 (x3 + 1)
  ) ∧ (¬ x3 ≤ x4 →
    wp_M_sideOf x3 x4 mThirds mCorner (fun z_4 =>
      jR z_4 ∧
      jR x1 ∧
      ((z_4 < x1 →
        K15 (x2 + 0) (x4 + 1)
      ) ∧ (¬ z_4 < x1 →
        K15 (x2 + 1) (x4 + 1)
      ))
    )
  ))
def wp_M_sides_15 (K4 : Int → Int → Prop) (Q : Int → Prop) (mPosts mThirds : Int) (mCorner : Nat → Int) (x1 : Int) (x3 : Int) : Nat → Int → Int → Prop
  | 0, _, _ => False
  | n + 1, x2, x4 => wp_M_sides_15_b K4 (wp_M_sides_15 K4 Q mPosts mThirds mCorner x1 x3 n) Q mPosts mThirds mCorner x1 x3 x2 x4
def wp_M_sides_4_b (K4 : Int → Int → Prop) (Q : Int → Prop) (mPosts mThirds : Int) (mCorner : Nat → Int) (x1 : Int) (x2 : Int) (x3 : Int) : Prop :=
  jR x3 ∧
  jR mPosts ∧
  ((mPosts ≤ x3 →
    Q x2
  ) ∧ (¬ mPosts ≤ x3 →
    ∃ n : Nat, wp_M_sides_15 K4 Q mPosts mThirds mCorner x1 x3 n x2 0
  ))
def wp_M_sides_4 (Q : Int → Prop) (mPosts mThirds : Int) (mCorner : Nat → Int) (x1 : Int) : Nat → Int → Int → Prop
  | 0, _, _ => False
  | n + 1, x2, x3 => wp_M_sides_4_b  (wp_M_sides_4 Q mPosts mThirds mCorner x1 n) Q mPosts mThirds mCorner x1 x2 x3
def wp_M_sides (x1 : Int) (mPosts mThirds : Int) (mCorner : Nat → Int) (Q : Int → Prop) : Prop :=
  ∃ n : Nat, wp_M_sides_4 Q mPosts mThirds mCorner x1 n 0 0
abbrev rm_M_told : Room := { frames := 3, cells := 0, slots := 0, locals := 76 }
def wp_M_told_31 (K7 : Int → Int → Int → Prop) (Q : Int → (Nat → Int) → Prop) (mPosts mThirds mStraight mLeast : Int) (mCorner mSum : Nat → Int) (x1 : Int) (mMark : Nat → Int) (x3 : Int) (x4 : Int) (t0 : Int) (t1 : Int) : Prop :=
  (0 ≤ x4 ∧ x4 < 9) ∧
  jR (mSum x4.toNat) ∧
  (((mSum x4.toNat) = (-6) →
    K7 (t0 + t1) (x3 + 0) (x4 + 1)
  ) ∧ (¬ (mSum x4.toNat) = (-6) →
    K7 (t0 + t1) (x3 + (mSum x4.toNat)) (x4 + 1)
  ))
def wp_M_told_7_b (K7 : Int → Int → Int → Prop) (Q : Int → (Nat → Int) → Prop) (mPosts mThirds mStraight mLeast : Int) (mCorner mSum : Nat → Int) (x1 : Int) (mMark : Nat → Int) (x2 : Int) (x3 : Int) (x4 : Int) : Prop :=
  jR x4 ∧
  jR mPosts ∧
  ((mPosts ≤ x4 →
    jR x1 ∧
    (x1 = 0 →
      Q mPosts mMark
    ) ∧
    (x1 = 1 →
      Q mThirds mMark
    ) ∧
    (x1 = 2 →
      wp_M_sides 1 mPosts mThirds mCorner (fun z_9 =>
        Q z_9 mMark
      )
    ) ∧
    (x1 = 3 →
      wp_M_sides 1 mPosts mThirds mCorner (fun z_10 =>
        wp_M_sides 2 mPosts mThirds mCorner (fun z_11 =>
          Q (z_10 - z_11) mMark
        )
      )
    ) ∧
    (x1 = 4 →
      wp_M_sides 1 mPosts mThirds mCorner (fun z_12 =>
        Q ((x2 - z_12) + mThirds) mMark
      )
    ) ∧
    (x1 = 5 →
      wp_M_pieces (-1) mThirds mCorner mMark (fun z_13 mMark_14 =>
        Q z_13 mMark_14
      )
    ) ∧
    (x1 = 6 →
      Q mStraight mMark
    ) ∧
    (x1 = 7 →
      Q mLeast mMark
    ) ∧
    (x1 = 8 →
      Q x3 mMark
    ) ∧
    (¬ x1 = 0 ∧ ¬ x1 = 1 ∧ ¬ x1 = 2 ∧ ¬ x1 = 3 ∧ ¬ x1 = 4 ∧ ¬ x1 = 5 ∧ ¬ x1 = 6 ∧ ¬ x1 = 7 ∧ ¬ x1 = 8 →
      Q (-1002) mMark
    )
  ) ∧ (¬ mPosts ≤ x4 →
    wp_M_cornersAt x4 mThirds mCorner (fun z_15 =>
      jR z_15 ∧
      ((z_15 ≤ 0 →
        wp_M_told_31 K7 Q mPosts mThirds mStraight mLeast mCorner mSum x1 mMark x3 x4 x2 0
      ) ∧ (¬ z_15 ≤ 0 →
        wp_M_told_31 K7 Q mPosts mThirds mStraight mLeast mCorner mSum x1 mMark x3 x4 x2 1
      ))
    )
  ))
def wp_M_told_7 (Q : Int → (Nat → Int) → Prop) (mPosts mThirds mStraight mLeast : Int) (mCorner mSum : Nat → Int) (x1 : Int) (mMark : Nat → Int) : Nat → Int → Int → Int → Prop
  | 0, _, _, _ => False
  | n + 1, x2, x3, x4 => wp_M_told_7_b  (wp_M_told_7 Q mPosts mThirds mStraight mLeast mCorner mSum x1 mMark n) Q mPosts mThirds mStraight mLeast mCorner mSum x1 mMark x2 x3 x4
def wp_M_told (x1 : Int) (mPosts mThirds mStraight mLeast : Int) (mCorner mSum mMark : Nat → Int) (Q : Int → (Nat → Int) → Prop) : Prop :=
  ∃ n : Nat, wp_M_told_7 Q mPosts mThirds mStraight mLeast mCorner mSum x1 mMark n 0 0 0
abbrev rm_M_straight : Room := { frames := 1, cells := 0, slots := 0, locals := 22 }
def wp_M_straight (x1 : Int) (mStraight mLeast mIsLaid : Int) (Q : Int → Int → Int → Prop) : Prop :=
  wp_M_in x1 6 360 (fun z_1 =>
    jR z_1 ∧
    ((z_1 = 0 →
      Q (-2) mStraight mIsLaid
    ) ∧ (¬ z_1 = 0 →
      jR (3 * mLeast) ∧
      jR x1 ∧
      (((3 * mLeast) ≤ x1 →
        Q mStraight x1 0
      ) ∧ (¬ (3 * mLeast) ≤ x1 →
        Q (-2) mStraight mIsLaid
      ))
    ))
  )
abbrev rm_M_least : Room := { frames := 1, cells := 0, slots := 0, locals := 22 }
def wp_M_least (x1 : Int) (mStraight mLeast mIsLaid : Int) (Q : Int → Int → Int → Prop) : Prop :=
  wp_M_in x1 1 60 (fun z_1 =>
    jR z_1 ∧
    ((z_1 = 0 →
      Q (-2) mLeast mIsLaid
    ) ∧ (¬ z_1 = 0 →
      jR (3 * x1) ∧
      jR mStraight ∧
      (((3 * x1) ≤ mStraight →
        Q mLeast x1 0
      ) ∧ (¬ (3 * x1) ≤ mStraight →
        Q (-2) mLeast mIsLaid
      ))
    ))
  )
abbrev rm_M_can : Room := { frames := 5, cells := 0, slots := 0, locals := 117 }
def wp_M_can (mPosts mThirds mStraight mLeast mIsLaid mIsGiven mQueued : Int) (mCorner mSum mBeyond mSpare mLack mBefore mVia mQueue : Nat → Int) (Q : Int → Int → Int → Int → (Nat → Int) → (Nat → Int) → (Nat → Int) → (Nat → Int) → (Nat → Int) → (Nat → Int) → Prop) : Prop :=
  wp_M_hasRow mPosts mThirds mStraight mLeast mIsLaid mIsGiven mQueued mCorner mSum mBeyond mSpare mLack mBefore mVia mQueue (fun z_1 mIsLaid_2 mIsGiven_3 mQueued_4 mBeyond_5 mSpare_6 mLack_7 mBefore_8 mVia_9 mQueue_10 =>
    jR z_1 ∧
    ((z_1 = 0 →
      Q 0 mIsLaid_2 mIsGiven_3 mQueued_4 mBeyond_5 mSpare_6 mLack_7 mBefore_8 mVia_9 mQueue_10
    ) ∧ (¬ z_1 = 0 →
      Q 1 mIsLaid_2 mIsGiven_3 mQueued_4 mBeyond_5 mSpare_6 mLack_7 mBefore_8 mVia_9 mQueue_10
    ))
  )
abbrev rm_M_angle : Room := { frames := 5, cells := 0, slots := 0, locals := 117 }
def wp_M_angle (x1 : Int) (mPosts mThirds mStraight mLeast mIsLaid mIsGiven mQueued : Int) (mCorner mSum mBeyond mSpare mLack mBefore mVia mQueue : Nat → Int) (Q : Int → Int → Int → Int → (Nat → Int) → (Nat → Int) → (Nat → Int) → (Nat → Int) → (Nat → Int) → (Nat → Int) → Prop) : Prop :=
  wp_M_in x1 0 ((3 * mThirds) - 1) (fun z_1 =>
    jR z_1 ∧
    ((z_1 = 0 →
      Q (-1) mIsLaid mIsGiven mQueued mBeyond mSpare mLack mBefore mVia mQueue
    ) ∧ (¬ z_1 = 0 →
      wp_M_hasRow mPosts mThirds mStraight mLeast mIsLaid mIsGiven mQueued mCorner mSum mBeyond mSpare mLack mBefore mVia mQueue (fun z_4 mIsLaid_5 mIsGiven_6 mQueued_7 mBeyond_8 mSpare_9 mLack_10 mBefore_11 mVia_12 mQueue_13 =>
        jR z_4 ∧
        ((z_4 = 0 →
          Q (-6) mIsLaid_5 mIsGiven_6 mQueued_7 mBeyond_8 mSpare_9 mLack_10 mBefore_11 mVia_12 mQueue_13
        ) ∧ (¬ z_4 = 0 →
          (0 ≤ x1 ∧ x1 < 36) ∧
          Q (mLeast + (mBeyond_8 x1.toNat)) mIsLaid_5 mIsGiven_6 mQueued_7 mBeyond_8 mSpare_9 mLack_10 mBefore_11 mVia_12 mQueue_13
        ))
      )
    ))
  )
abbrev rm_M_best : Room := { frames := 4, cells := 0, slots := 0, locals := 96 }
def wp_M_best_8_b (K8 : Int → Int → (Nat → Int) → (Nat → Int) → (Nat → Int) → (Nat → Int) → (Nat → Int) → (Nat → Int) → Prop) (Q : Int → Int → Int → (Nat → Int) → (Nat → Int) → (Nat → Int) → (Nat → Int) → (Nat → Int) → (Nat → Int) → Prop) (mPosts mThirds mStraight : Int) (mCorner mSum : Nat → Int) (mIsLaid : Int) (x1 : Int) (mQueued : Int) (mBeyond : Nat → Int) (mSpare : Nat → Int) (mLack : Nat → Int) (mBefore : Nat → Int) (mVia : Nat → Int) (mQueue : Nat → Int) : Prop :=
  jR x1 ∧
  ((x1 < 1 →
    Q (-6) mIsLaid mQueued mBeyond mSpare mLack mBefore mVia mQueue
  ) ∧ (¬ x1 < 1 →
    jR (3 * x1) ∧
    jR mStraight ∧
    ((mStraight < (3 * x1) →
      K8 (x1 + (-1)) mQueued mBeyond mSpare mLack mBefore mVia mQueue
    ) ∧ (¬ mStraight < (3 * x1) →
      wp_M_canWith x1 mPosts mThirds mStraight mQueued mCorner mSum mBeyond mSpare mLack mBefore mVia mQueue (fun z_6 mQueued_7 mBeyond_8 mSpare_9 mLack_10 mBefore_11 mVia_12 mQueue_13 =>
        jR z_6 ∧
        ((z_6 = 0 →
          K8 (x1 + (-1)) mQueued_7 mBeyond_8 mSpare_9 mLack_10 mBefore_11 mVia_12 mQueue_13
        ) ∧ (¬ z_6 = 0 →
          Q x1 mIsLaid mQueued_7 mBeyond_8 mSpare_9 mLack_10 mBefore_11 mVia_12 mQueue_13
        ))
      )
    ))
  ))
def wp_M_best_8 (Q : Int → Int → Int → (Nat → Int) → (Nat → Int) → (Nat → Int) → (Nat → Int) → (Nat → Int) → (Nat → Int) → Prop) (mPosts mThirds mStraight : Int) (mCorner mSum : Nat → Int) (mIsLaid : Int) : Nat → Int → Int → (Nat → Int) → (Nat → Int) → (Nat → Int) → (Nat → Int) → (Nat → Int) → (Nat → Int) → Prop
  | 0, _, _, _, _, _, _, _, _ => False
  | n + 1, x1, mQueued, mBeyond, mSpare, mLack, mBefore, mVia, mQueue => wp_M_best_8_b  (wp_M_best_8 Q mPosts mThirds mStraight mCorner mSum mIsLaid n) Q mPosts mThirds mStraight mCorner mSum mIsLaid x1 mQueued mBeyond mSpare mLack mBefore mVia mQueue
def wp_M_best (mPosts mThirds mStraight mIsLaid mQueued : Int) (mCorner mSum mBeyond mSpare mLack mBefore mVia mQueue : Nat → Int) (Q : Int → Int → Int → (Nat → Int) → (Nat → Int) → (Nat → Int) → (Nat → Int) → (Nat → Int) → (Nat → Int) → Prop) : Prop :=
  ∃ n : Nat, wp_M_best_8 Q mPosts mThirds mStraight mCorner mSum 0 n 60 mQueued mBeyond mSpare mLack mBefore mVia mQueue
abbrev rm_M_bits : Room := { frames := 0, cells := 0, slots := 0, locals := 0 }
def wp_M_bits_4_b (K4 : Int → Int → Prop) (Q : Int → Prop) (x0 : Int) (x1 : Int) (x2 : Int) : Prop :=
  jR x2 ∧
  ((12 ≤ x2 →
    Q x1
  ) ∧ (¬ 12 ≤ x2 →
    K4 (x1 + (jand (jshr x0 x2) 1)) (x2 + 1)
  ))
def wp_M_bits_4 (Q : Int → Prop) (x0 : Int) : Nat → Int → Int → Prop
  | 0, _, _ => False
  | n + 1, x1, x2 => wp_M_bits_4_b  (wp_M_bits_4 Q x0 n) Q  x0 x1 x2
def wp_M_bits (x0 : Int) (Q : Int → Prop) : Prop :=
  ∃ n : Nat, wp_M_bits_4 Q x0 n 0 0
abbrev rm_M_thirdsBar : Room := { frames := 1, cells := 0, slots := 0, locals := 22 }
def wp_M_thirdsBar_107_b (K107 : Int → Int → Prop) (Q : Int → Prop) (mThirds mStraight mLeast : Int) (mCorner : Nat → Int) (x1 : Int) (x2 : Int) (x3 : Int) (x4 : Int) : Prop :=
  jR x4 ∧
  jR (3 * mThirds) ∧
  (((3 * mThirds) ≤ x4 →
    wp_M_bits x1 (fun z_4 =>
      jR (mStraight * z_4) ∧
      jR x3 ∧
      (((mStraight * z_4) ≤ x3 →
        Q 0
      ) ∧ (¬ (mStraight * z_4) ≤ x3 →
        Q 1
      ))
    )
  ) ∧ (¬ (3 * mThirds) ≤ x4 →
    jR (jand (jshr x1 (jdiv x4 3)) 1) ∧
    (((jand (jshr x1 (jdiv x4 3)) 1) = 0 →
      (0 ≤ x4 ∧ x4 < 36) ∧
      jR (jand (jshr x2 (mCorner x4.toNat)) 1) ∧
      (((jand (jshr x2 (mCorner x4.toNat)) 1) = 1 →
        K107 (x3 - mLeast) (x4 + 1)
      ) ∧ (¬ (jand (jshr x2 (mCorner x4.toNat)) 1) = 1 →
        K107 (x3 - 0) (x4 + 1)
      ))
    ) ∧ (¬ (jand (jshr x1 (jdiv x4 3)) 1) = 0 →
      K107 (x3 - 0) (x4 + 1)
    ))
  ))
def wp_M_thirdsBar_107 (Q : Int → Prop) (mThirds mStraight mLeast : Int) (mCorner : Nat → Int) (x1 : Int) (x2 : Int) : Nat → Int → Int → Prop
  | 0, _, _ => False
  | n + 1, x3, x4 => wp_M_thirdsBar_107_b  (wp_M_thirdsBar_107 Q mThirds mStraight mLeast mCorner x1 x2 n) Q mThirds mStraight mLeast mCorner x1 x2 x3 x4
def wp_M_thirdsBar_65_b (K65 : Int → Int → Prop) (Q : Int → Prop) (mPosts mThirds mStraight mLeast : Int) (mCorner mSum : Nat → Int) (x1 : Int) (x2 : Int) (x3 : Int) (x4 : Int) : Prop :=
  jR x4 ∧
  jR mPosts ∧
  ((mPosts ≤ x4 →
    ∃ n : Nat, wp_M_thirdsBar_107 Q mThirds mStraight mLeast mCorner x1 x2 n x3 0
  ) ∧ (¬ mPosts ≤ x4 →
    jR (jand (jshr x2 x4) 1) ∧
    (((jand (jshr x2 x4) 1) = 1 →
      (0 ≤ x4 ∧ x4 < 9) ∧
      K65 (x3 + (mSum x4.toNat)) (x4 + 1)
    ) ∧ (¬ (jand (jshr x2 x4) 1) = 1 →
      K65 (x3 + 0) (x4 + 1)
    ))
  ))
def wp_M_thirdsBar_65 (Q : Int → Prop) (mPosts mThirds mStraight mLeast : Int) (mCorner mSum : Nat → Int) (x1 : Int) (x2 : Int) : Nat → Int → Int → Prop
  | 0, _, _ => False
  | n + 1, x3, x4 => wp_M_thirdsBar_65_b  (wp_M_thirdsBar_65 Q mPosts mThirds mStraight mLeast mCorner mSum x1 x2 n) Q mPosts mThirds mStraight mLeast mCorner mSum x1 x2 x3 x4
def wp_M_thirdsBar_4_b (K4 : Int → Int → Prop) (Q : Int → Prop) (mPosts mThirds mStraight mLeast : Int) (mCorner mSum : Nat → Int) (x1 : Int) (x2 : Int) (x3 : Int) : Prop :=
  jR x3 ∧
  jR (3 * mThirds) ∧
  (((3 * mThirds) ≤ x3 →
    ∃ n : Nat, wp_M_thirdsBar_65 Q mPosts mThirds mStraight mLeast mCorner mSum x1 x2 n 0 0
  ) ∧ (¬ (3 * mThirds) ≤ x3 →
    jR (jand (jshr x1 (jdiv x3 3)) 1) ∧
    (((jand (jshr x1 (jdiv x3 3)) 1) = 1 →
      (0 ≤ x3 ∧ x3 < 36) ∧
      (0 ≤ (mCorner x3.toNat) ∧ (mCorner x3.toNat) < 9) ∧
      jR (mSum (mCorner x3.toNat).toNat) ∧
      (((mSum (mCorner x3.toNat).toNat) = (-6) →
        Q 0
      ) ∧ (¬ (mSum (mCorner x3.toNat).toNat) = (-6) →
        K4 (jor x2 (jshl 1 (mCorner x3.toNat))) (x3 + 1)
      ))
    ) ∧ (¬ (jand (jshr x1 (jdiv x3 3)) 1) = 1 →
      K4 x2 (x3 + 1)
    ))
  ))
def wp_M_thirdsBar_4 (Q : Int → Prop) (mPosts mThirds mStraight mLeast : Int) (mCorner mSum : Nat → Int) (x1 : Int) : Nat → Int → Int → Prop
  | 0, _, _ => False
  | n + 1, x2, x3 => wp_M_thirdsBar_4_b  (wp_M_thirdsBar_4 Q mPosts mThirds mStraight mLeast mCorner mSum x1 n) Q mPosts mThirds mStraight mLeast mCorner mSum x1 x2 x3
def wp_M_thirdsBar (x1 : Int) (mPosts mThirds mStraight mLeast : Int) (mCorner mSum : Nat → Int) (Q : Int → Prop) : Prop :=
  ∃ n : Nat, wp_M_thirdsBar_4 Q mPosts mThirds mStraight mLeast mCorner mSum x1 n 0 0
abbrev rm_M_postsBar : Room := { frames := 0, cells := 0, slots := 0, locals := 0 }
def wp_M_postsBar_136 (K63 : Int → Int → Int → Prop) (Q : Int → Prop) (mThirds mStraight mLeast : Int) (mCorner : Nat → Int) (x1 : Int) (x2 : Int) (x3 : Int) (x5 : Int) (x6 : Int) (x7 : Int) (t0 : Int) (t1 : Int) : Prop :=
  jR x7 ∧
  ((x7 = 3 →
    K63 (t0 + t1) (x5 + mStraight) (x6 + 1)
  ) ∧ (¬ x7 = 3 →
    K63 (t0 + t1) (x5 + (mLeast * x7)) (x6 + 1)
  ))
def wp_M_postsBar_78_b (K63 : Int → Int → Int → Prop) (K78 : Int → Int → Prop) (Q : Int → Prop) (mThirds mStraight mLeast : Int) (mCorner : Nat → Int) (x1 : Int) (x2 : Int) (x3 : Int) (x4 : Int) (x5 : Int) (x6 : Int) (x7 : Int) (x8 : Int) : Prop :=
  jR x8 ∧
  ((3 ≤ x8 →
    jR x7 ∧
    ((x7 = 0 →
      wp_M_postsBar_136 K63 Q mThirds mStraight mLeast mCorner x1 x2 x3 x5 x6 x7 x4 0
    ) ∧ (¬ x7 = 0 →
      wp_M_postsBar_136 K63 Q mThirds mStraight mLeast mCorner x1 x2 x3 x5 x6 x7 x4 (mStraight - (mLeast * (3 - x7)))
    ))
  ) ∧ (¬ 3 ≤ x8 →
    (0 ≤ ((3 * x6) + x8) ∧ ((3 * x6) + x8) < 36) ∧
    K78 (x7 + (jand (jshr x1 (mCorner ((3 * x6) + x8).toNat)) 1)) (x8 + 1)
  ))
def wp_M_postsBar_78 (K63 : Int → Int → Int → Prop) (Q : Int → Prop) (mThirds mStraight mLeast : Int) (mCorner : Nat → Int) (x1 : Int) (x2 : Int) (x3 : Int) (x4 : Int) (x5 : Int) (x6 : Int) : Nat → Int → Int → Prop
  | 0, _, _ => False
  | n + 1, x7, x8 => wp_M_postsBar_78_b K63 (wp_M_postsBar_78 K63 Q mThirds mStraight mLeast mCorner x1 x2 x3 x4 x5 x6 n) Q mThirds mStraight mLeast mCorner x1 x2 x3 x4 x5 x6 x7 x8
def wp_M_postsBar_63_b (K63 : Int → Int → Int → Prop) (Q : Int → Prop) (mThirds mStraight mLeast : Int) (mCorner : Nat → Int) (x1 : Int) (x2 : Int) (x3 : Int) (x4 : Int) (x5 : Int) (x6 : Int) : Prop :=
  jR x6 ∧
  jR mThirds ∧
  ((mThirds ≤ x6 →
    jR x2 ∧
    ((x2 = 1 →
      jR x3 ∧
      jR x4 ∧
      ((x3 ≤ x4 →
        Q 0
      ) ∧ (¬ x3 ≤ x4 →
        Q 1
      ))
    ) ∧ (¬ x2 = 1 →
      jR x3 ∧
      jR x5 ∧
      ((x5 ≤ x3 →
        Q 0
      ) ∧ (¬ x5 ≤ x3 →
        Q 1
      ))
    ))
  ) ∧ (¬ mThirds ≤ x6 →
    ∃ n : Nat, wp_M_postsBar_78 K63 Q mThirds mStraight mLeast mCorner x1 x2 x3 x4 x5 x6 n 0 0
  ))
def wp_M_postsBar_63 (Q : Int → Prop) (mThirds mStraight mLeast : Int) (mCorner : Nat → Int) (x1 : Int) (x2 : Int) (x3 : Int) : Nat → Int → Int → Int → Prop
  | 0, _, _, _ => False
  | n + 1, x4, x5, x6 => wp_M_postsBar_63_b  (wp_M_postsBar_63 Q mThirds mStraight mLeast mCorner x1 x2 x3 n) Q mThirds mStraight mLeast mCorner x1 x2 x3 x4 x5 x6
def wp_M_postsBar_5_b (K5 : Int → Int → Prop) (Q : Int → Prop) (mPosts mThirds mStraight mLeast : Int) (mCorner mSum : Nat → Int) (x1 : Int) (x2 : Int) (x3 : Int) (x4 : Int) : Prop :=
  jR x4 ∧
  jR mPosts ∧
  ((mPosts ≤ x4 →
    ∃ n : Nat, wp_M_postsBar_63 Q mThirds mStraight mLeast mCorner x1 x2 x3 n 0 0 0
  ) ∧ (¬ mPosts ≤ x4 →
    jR (jand (jshr x1 x4) 1) ∧
    (((jand (jshr x1 x4) 1) = 1 →
      (0 ≤ x4 ∧ x4 < 9) ∧
      jR (mSum x4.toNat) ∧
      (((mSum x4.toNat) = (-6) →
        Q 0
      ) ∧ (¬ (mSum x4.toNat) = (-6) →
        K5 (x3 + (mSum x4.toNat)) (x4 + 1)
      ))
    ) ∧ (¬ (jand (jshr x1 x4) 1) = 1 →
      K5 x3 (x4 + 1)
    ))
  ))
def wp_M_postsBar_5 (Q : Int → Prop) (mPosts mThirds mStraight mLeast : Int) (mCorner mSum : Nat → Int) (x1 : Int) (x2 : Int) : Nat → Int → Int → Prop
  | 0, _, _ => False
  | n + 1, x3, x4 => wp_M_postsBar_5_b  (wp_M_postsBar_5 Q mPosts mThirds mStraight mLeast mCorner mSum x1 x2 n) Q mPosts mThirds mStraight mLeast mCorner mSum x1 x2 x3 x4
def wp_M_postsBar (x1 x2 : Int) (mPosts mThirds mStraight mLeast : Int) (mCorner mSum : Nat → Int) (Q : Int → Prop) : Prop :=
  ∃ n : Nat, wp_M_postsBar_5 Q mPosts mThirds mStraight mLeast mCorner mSum x1 x2 n 0 0
abbrev rm_M_bar : Room := { frames := 2, cells := 0, slots := 0, locals := 46 }
def wp_M_bar_62 (K35 : Int → Int → Prop) (Q : Int → Prop) (mPosts mThirds mStraight mLeast : Int) (mCorner mSum : Nat → Int) (x1 : Int) (x3 : Int) (x2 : Int) (x4 : Int) (t0 : Int) : Prop :=
  jR t0 ∧
  ((t0 = 0 →
    K35 x2 (x4 + 1)
  ) ∧ (¬ t0 = 0 →
    jR x1 ∧
    ((x1 = 0 →
      wp_M_thirdsBar x4 mPosts mThirds mStraight mLeast mCorner mSum (fun z_8 =>
        jR z_8 ∧
        ((z_8 = 0 →
          K35 x2 (x4 + 1)
        ) ∧ (¬ z_8 = 0 →
          K35 x4 (x4 + 1)
        ))
      )
    ) ∧ (¬ x1 = 0 →
      wp_M_postsBar x4 x1 mPosts mThirds mStraight mLeast mCorner mSum (fun z_5 =>
        jR z_5 ∧
        ((z_5 = 0 →
          K35 x2 (x4 + 1)
        ) ∧ (¬ z_5 = 0 →
          K35 x4 (x4 + 1)
        ))
      )
    ))
  ))
def wp_M_bar_35_b (K35 : Int → Int → Prop) (Q : Int → Prop) (mPosts mThirds mStraight mLeast : Int) (mCorner mSum : Nat → Int) (x1 : Int) (x3 : Int) (x2 : Int) (x4 : Int) : Prop :=
  jR x4 ∧
  jR x3 ∧
  ((x3 ≤ x4 →
    Q x2
  ) ∧ (¬ x3 ≤ x4 →
    jR x2 ∧
    ((x2 = 0 →
      wp_M_bar_62 K35 Q mPosts mThirds mStraight mLeast mCorner mSum x1 x3 x2 x4 1
    ) ∧ (¬ x2 = 0 →
      wp_M_bits x4 (fun z_16 =>
        wp_M_bits x2 (fun z_17 =>
          jR z_16 ∧
          jR z_17 ∧
          ((z_17 ≤ z_16 →
            wp_M_bar_62 K35 Q mPosts mThirds mStraight mLeast mCorner mSum x1 x3 x2 x4 0
          ) ∧ (¬ z_17 ≤ z_16 →
            wp_M_bar_62 K35 Q mPosts mThirds mStraight mLeast mCorner mSum x1 x3 x2 x4 1
          ))
        )
      )
    ))
  ))
def wp_M_bar_35 (Q : Int → Prop) (mPosts mThirds mStraight mLeast : Int) (mCorner mSum : Nat → Int) (x1 : Int) (x3 : Int) : Nat → Int → Int → Prop
  | 0, _, _ => False
  | n + 1, x2, x4 => wp_M_bar_35_b  (wp_M_bar_35 Q mPosts mThirds mStraight mLeast mCorner mSum x1 x3 n) Q mPosts mThirds mStraight mLeast mCorner mSum x1 x3 x2 x4
def wp_M_bar (x1 : Int) (mPosts mThirds mStraight mLeast : Int) (mCorner mSum : Nat → Int) (Q : Int → Prop) : Prop :=
  wp_M_in x1 0 2 (fun z_21 =>
    jR z_21 ∧
    ((z_21 = 0 →
      Q (-2)
    ) ∧ (¬ z_21 = 0 →
      jR x1 ∧
      ((x1 = 0 →
        ∃ n : Nat, wp_M_bar_35 Q mPosts mThirds mStraight mLeast mCorner mSum x1 (jshl 1 mThirds) n 0 1
      ) ∧ (¬ x1 = 0 →
        ∃ n : Nat, wp_M_bar_35 Q mPosts mThirds mStraight mLeast mCorner mSum x1 (jshl 1 mPosts) n 0 1
      ))
    ))
  )
abbrev rm_M_oppositeOf : Room := { frames := 1, cells := 0, slots := 0, locals := 24 }
def wp_M_oppositeOf_31 (K5 : Int → Int → Prop) (Q : Int → Prop) (mThirds mLeast : Int) (mCorner mBeyond : Nat → Int) (x1 : Int) (x2 : Int) (x3 : Int) (x4 : Int) (t0 : Int) : Prop :=
  jR t0 ∧
  ((0 ≤ t0 →
    wp_M_oppositeCorner t0 x1 x2 mCorner (fun z_3 =>
      (0 ≤ z_3 ∧ z_3 < 36) ∧
      K5 (x3 + (mLeast + (mBeyond z_3.toNat))) (x4 + 1)
    )
  ) ∧ (¬ 0 ≤ t0 →
    K5 (x3 + 0) (x4 + 1)
  ))
def wp_M_oppositeOf_5_b (K5 : Int → Int → Prop) (Q : Int → Prop) (mThirds mLeast : Int) (mCorner mBeyond : Nat → Int) (x1 : Int) (x2 : Int) (x3 : Int) (x4 : Int) : Prop :=
  jR x4 ∧
  ((2 ≤ x4 →
    Q x3
  ) ∧ (¬ 2 ≤ x4 →
    ((x4 = 0 →
      wp_M_arrowOf x1 x2 mThirds mCorner (fun z_9 =>
        wp_M_oppositeOf_31 K5 Q mThirds mLeast mCorner mBeyond x1 x2 x3 x4 z_9
      )
    ) ∧ (¬ x4 = 0 →
      wp_M_arrowOf x2 x1 mThirds mCorner (fun z_8 =>
        wp_M_oppositeOf_31 K5 Q mThirds mLeast mCorner mBeyond x1 x2 x3 x4 z_8
      )
    ))
  ))
def wp_M_oppositeOf_5 (Q : Int → Prop) (mThirds mLeast : Int) (mCorner mBeyond : Nat → Int) (x1 : Int) (x2 : Int) : Nat → Int → Int → Prop
  | 0, _, _ => False
  | n + 1, x3, x4 => wp_M_oppositeOf_5_b  (wp_M_oppositeOf_5 Q mThirds mLeast mCorner mBeyond x1 x2 n) Q mThirds mLeast mCorner mBeyond x1 x2 x3 x4
def wp_M_oppositeOf (x1 x2 : Int) (mThirds mLeast : Int) (mCorner mBeyond : Nat → Int) (Q : Int → Prop) : Prop :=
  ∃ n : Nat, wp_M_oppositeOf_5 Q mThirds mLeast mCorner mBeyond x1 x2 n 0 0
abbrev rm_M_opposite : Room := { frames := 5, cells := 0, slots := 0, locals := 117 }
def wp_M_opposite (x1 x2 : Int) (mPosts mThirds mStraight mLeast mIsLaid mIsGiven mQueued : Int) (mCorner mSum mBeyond mSpare mLack mBefore mVia mQueue : Nat → Int) (Q : Int → Int → Int → Int → (Nat → Int) → (Nat → Int) → (Nat → Int) → (Nat → Int) → (Nat → Int) → (Nat → Int) → Prop) : Prop :=
  wp_M_arePair x1 x2 mPosts (fun z_1 =>
    jR z_1 ∧
    ((z_1 = 0 →
      Q (-1) mIsLaid mIsGiven mQueued mBeyond mSpare mLack mBefore mVia mQueue
    ) ∧ (¬ z_1 = 0 →
      wp_M_sideOf x1 x2 mThirds mCorner (fun z_4 =>
        jR z_4 ∧
        ((z_4 = 0 →
          Q (-1) mIsLaid mIsGiven mQueued mBeyond mSpare mLack mBefore mVia mQueue
        ) ∧ (¬ z_4 = 0 →
          wp_M_hasRow mPosts mThirds mStraight mLeast mIsLaid mIsGiven mQueued mCorner mSum mBeyond mSpare mLack mBefore mVia mQueue (fun z_7 mIsLaid_8 mIsGiven_9 mQueued_10 mBeyond_11 mSpare_12 mLack_13 mBefore_14 mVia_15 mQueue_16 =>
            jR z_7 ∧
            ((z_7 = 0 →
              Q (-6) mIsLaid_8 mIsGiven_9 mQueued_10 mBeyond_11 mSpare_12 mLack_13 mBefore_14 mVia_15 mQueue_16
            ) ∧ (¬ z_7 = 0 →
              wp_M_oppositeOf x1 x2 mThirds mLeast mCorner mBeyond_11 (fun z_19 =>
                Q z_19 mIsLaid_8 mIsGiven_9 mQueued_10 mBeyond_11 mSpare_12 mLack_13 mBefore_14 mVia_15 mQueue_16
              )
            ))
          )
        ))
      )
    ))
  )
abbrev rm_M_fit : Room := { frames := 5, cells := 0, slots := 0, locals := 117 }
def wp_M_fit_24_b (K14 : Int → Int → Prop) (K24 : Int → Int → Prop) (Q : Int → Int → Int → Int → (Nat → Int) → (Nat → Int) → (Nat → Int) → (Nat → Int) → (Nat → Int) → (Nat → Int) → Prop) (mPosts mThirds mStraight mLeast : Int) (mCorner : Nat → Int) (x2 : Int) (mIsLaid : Int) (mIsGiven : Int) (mQueued : Int) (mBeyond : Nat → Int) (mSpare : Nat → Int) (mLack : Nat → Int) (mBefore : Nat → Int) (mVia : Nat → Int) (mQueue : Nat → Int) (x1 : Int) (x3 : Int) : Prop :=
  jR x3 ∧
  jR x2 ∧
  ((x2 ≤ x3 →
    K14 x1 (x2 + 1)
  ) ∧ (¬ x2 ≤ x3 →
    wp_M_sideOf x2 x3 mThirds mCorner (fun z_4 =>
      jR z_4 ∧
      ((z_4 = 2 →
        wp_M_oppositeOf x2 x3 mThirds mLeast mCorner mBeyond (fun z_7 =>
          jR z_7 ∧
          jR mStraight ∧
          ((mStraight < z_7 →
            K24 (x1 + 0) (x3 + 1)
          ) ∧ (¬ mStraight < z_7 →
            K24 (x1 + 1) (x3 + 1)
          ))
        )
      ) ∧ (¬ z_4 = 2 →
        K24 (x1 + 0) (x3 + 1)
      ))
    )
  ))
def wp_M_fit_24 (K14 : Int → Int → Prop) (Q : Int → Int → Int → Int → (Nat → Int) → (Nat → Int) → (Nat → Int) → (Nat → Int) → (Nat → Int) → (Nat → Int) → Prop) (mPosts mThirds mStraight mLeast : Int) (mCorner : Nat → Int) (x2 : Int) (mIsLaid : Int) (mIsGiven : Int) (mQueued : Int) (mBeyond : Nat → Int) (mSpare : Nat → Int) (mLack : Nat → Int) (mBefore : Nat → Int) (mVia : Nat → Int) (mQueue : Nat → Int) : Nat → Int → Int → Prop
  | 0, _, _ => False
  | n + 1, x1, x3 => wp_M_fit_24_b K14 (wp_M_fit_24 K14 Q mPosts mThirds mStraight mLeast mCorner x2 mIsLaid mIsGiven mQueued mBeyond mSpare mLack mBefore mVia mQueue n) Q mPosts mThirds mStraight mLeast mCorner x2 mIsLaid mIsGiven mQueued mBeyond mSpare mLack mBefore mVia mQueue x1 x3
def wp_M_fit_14_b (K14 : Int → Int → Prop) (Q : Int → Int → Int → Int → (Nat → Int) → (Nat → Int) → (Nat → Int) → (Nat → Int) → (Nat → Int) → (Nat → Int) → Prop) (mPosts mThirds mStraight mLeast : Int) (mCorner : Nat → Int) (mIsLaid : Int) (mIsGiven : Int) (mQueued : Int) (mBeyond : Nat → Int) (mSpare : Nat → Int) (mLack : Nat → Int) (mBefore : Nat → Int) (mVia : Nat → Int) (mQueue : Nat → Int) (x1 : Int) (x2 : Int) : Prop :=
  jR x2 ∧
  jR mPosts ∧
  ((mPosts ≤ x2 →
    Q x1 mIsLaid mIsGiven mQueued mBeyond mSpare mLack mBefore mVia mQueue
  ) ∧ (¬ mPosts ≤ x2 →
    ∃ n : Nat, wp_M_fit_24 K14 Q mPosts mThirds mStraight mLeast mCorner x2 mIsLaid mIsGiven mQueued mBeyond mSpare mLack mBefore mVia mQueue n x1 0
  ))
def wp_M_fit_14 (Q : Int → Int → Int → Int → (Nat → Int) → (Nat → Int) → (Nat → Int) → (Nat → Int) → (Nat → Int) → (Nat → Int) → Prop) (mPosts mThirds mStraight mLeast : Int) (mCorner : Nat → Int) (mIsLaid : Int) (mIsGiven : Int) (mQueued : Int) (mBeyond : Nat → Int) (mSpare : Nat → Int) (mLack : Nat → Int) (mBefore : Nat → Int) (mVia : Nat → Int) (mQueue : Nat → Int) : Nat → Int → Int → Prop
  | 0, _, _ => False
  | n + 1, x1, x2 => wp_M_fit_14_b  (wp_M_fit_14 Q mPosts mThirds mStraight mLeast mCorner mIsLaid mIsGiven mQueued mBeyond mSpare mLack mBefore mVia mQueue n) Q mPosts mThirds mStraight mLeast mCorner mIsLaid mIsGiven mQueued mBeyond mSpare mLack mBefore mVia mQueue x1 x2
def wp_M_fit (mPosts mThirds mStraight mLeast mIsLaid mIsGiven mQueued : Int) (mCorner mSum mBeyond mSpare mLack mBefore mVia mQueue : Nat → Int) (Q : Int → Int → Int → Int → (Nat → Int) → (Nat → Int) → (Nat → Int) → (Nat → Int) → (Nat → Int) → (Nat → Int) → Prop) : Prop :=
  wp_M_hasRow mPosts mThirds mStraight mLeast mIsLaid mIsGiven mQueued mCorner mSum mBeyond mSpare mLack mBefore mVia mQueue (fun z_14 mIsLaid_15 mIsGiven_16 mQueued_17 mBeyond_18 mSpare_19 mLack_20 mBefore_21 mVia_22 mQueue_23 =>
    jR z_14 ∧
    ((z_14 = 0 →
      Q (-6) mIsLaid_15 mIsGiven_16 mQueued_17 mBeyond_18 mSpare_19 mLack_20 mBefore_21 mVia_22 mQueue_23
    ) ∧ (¬ z_14 = 0 →
      ∃ n : Nat, wp_M_fit_14 Q mPosts mThirds mStraight mLeast mCorner mIsLaid_15 mIsGiven_16 mQueued_17 mBeyond_18 mSpare_19 mLack_20 mBefore_21 mVia_22 mQueue_23 n 0 0
    ))
  )

/-! the lowest bit, and what is left -/
def lo : Nat → Nat → Nat
  | 0, _ => 0
  | f + 1, b => if b % 2 = 1 then 0 else lo f (b / 2) + 1
def loOk (b : Nat) : Bool := b == 0 || (decide (jand (b : Int) (-(b : Int)) = ((2 ^ lo 12 b : Nat) : Int)) && b.testBit (lo 12 b) && (List.range (lo 12 b)).all (fun j => !b.testBit j))
theorem lo_all : (List.range 4096).all loOk = true := by decide +kernel
theorem lo_spec {b : Nat} (hb : b < 4096) (h0 : b ≠ 0) : ∃ k, jand (b : Int) (-(b : Int)) = ((2 ^ k : Nat) : Int) ∧ b.testBit k = true ∧ ∀ j, j < k → ¬ b.testBit j = true := by
  have h := List.all_eq_true.mp lo_all b (List.mem_range.mpr hb)
  unfold loOk at h
  rw [Bool.or_eq_true, Bool.and_eq_true, Bool.and_eq_true] at h
  rcases h with h | ⟨⟨h1, h2⟩, h3⟩
  · exact absurd (eq_of_beq h) h0
  · refine ⟨lo 12 b, of_decide_eq_true h1, h2, fun j hj hb => ?_⟩
    have := List.all_eq_true.mp h3 j (List.mem_range.mpr hj)
    rw [hb] at this; cases this
/-- without -/
def wo (a b : Nat) : Nat := a &&& (b ^^^ 4294967295)
theorem jnot_n {a b : Nat} (ha : a < 2147483648) (hb : b < 2147483648) : jand a (jxor b (-1)) = ((wo a b : Nat) : Int) := by
  unfold jand jxor wo
  refine of_bv ?_ (Nat.lt_of_le_of_lt Nat.and_le_left ha)
  rw [J_of, Int32.toBitVec_and, BitVec.toNat_and, J_bv ha, Int32.toBitVec_xor, BitVec.toNat_xor, J_bv hb]
  have e : (J (-1)).toBitVec.toNat = 4294967295 := by decide +kernel
  rw [e]
theorem wo_bit {a b : Nat} (ha : a < 4294967296) (k : Nat) : (wo a b).testBit k = true ↔ (a.testBit k = true ∧ ¬ b.testBit k = true) := by
  unfold wo
  rw [Nat.testBit_and, Nat.testBit_xor, show (4294967295 : Nat) = 2 ^ 32 - 1 from rfl, Nat.testBit_two_pow_sub_one, Bool.and_eq_true]
  constructor
  · rintro ⟨h1, h2⟩
    have := bit_lt (T := 32) (by omega) h1
    rw [decide_eq_true this] at h2
    refine ⟨h1, fun h => ?_⟩
    rw [h] at h2; cases h2
  · rintro ⟨h1, h2⟩
    have := bit_lt (T := 32) (by omega) h1
    rw [decide_eq_true this]
    refine ⟨h1, ?_⟩
    cases hb : b.testBit k
    · rfl
    · exact absurd hb h2
theorem wo_le (a b : Nat) : wo a b ≤ a := Nat.and_le_left
/-! one piece -/
theorem pcs_none {T : Nat} {co : Nat → Int} {F : Int → Int → Prop} {V : Nat → Prop} (h : ∀ k, k < T → ¬ V k) : pcs T co F V T = 0 := by
  unfold pcs
  exact sm_zero (fun i hi => if_neg (fun q => h i hi q.1))
theorem pcs_one {T : Nat} {co : Nat → Int} {F : Int → Int → Prop} {V : Nat → Prop} {k0 : Nat} (h0 : k0 < T) (hV : V k0) (hlow : ∀ j, j < k0 → ¬ V j) : pcs T co F V T = 1 ↔ ∀ k, k < T → V k → conn T co F k0 k := by
  have hM : Mn T co F V k0 := ⟨hV, fun j hj hVj => absurd hVj (hlow j hj)⟩
  constructor
  · intro h1
    apply Classical.byContradiction
    intro hn
    have hex : ∃ k, k < T ∧ V k ∧ ¬ conn T co F k0 k := by
      apply Classical.byContradiction
      intro hno
      apply hn
      intro k hk hVk
      apply Classical.byContradiction
      intro q
      exact hno ⟨k, hk, hVk, q⟩
    -- the lowest such
    have least : ∀ m : Nat, (∃ k, k < m ∧ k < T ∧ V k ∧ ¬ conn T co F k0 k) → ∃ k, k < T ∧ V k ∧ ¬ conn T co F k0 k ∧ ∀ i, i < k → V i → conn T co F k0 i := by
      intro m
      induction m with
      | zero => rintro ⟨k, h, -⟩; omega
      | succ m ih =>
        rintro ⟨k, a1, a2, a3, a4⟩
        by_cases hlo : ∃ k, k < m ∧ k < T ∧ V k ∧ ¬ conn T co F k0 k
        · exact ih hlo
        · refine ⟨k, a2, a3, a4, fun i hi hVi => ?_⟩
          apply Classical.byContradiction
          intro q
          exact hlo ⟨i, by omega, by omega, hVi, q⟩
    obtain ⟨k', c1, c2, c3⟩ := hex
    obtain ⟨k, b1, b2, b3, b4⟩ := least T ⟨k', c1, c1, c2, c3⟩
    have hMk : Mn T co F V k := ⟨b2, fun j hj hVj hc => b3 (conn_tr (b4 j hj hVj) hc)⟩
    have hne : k ≠ k0 := by rintro rfl; exact b3 (conn_rf _)
    have e : sm T (up (fun k => @ite Int (Mn T co F V k) (Classical.propDecidable _) 1 0) k0 0) = pcs T co F V T - 1 + 0 := by
      rw [sm_up _ _ h0, if_pos hM]; rfl
    have m := sm_member (n := T) (f := up (fun k => @ite Int (Mn T co F V k) (Classical.propDecidable _) 1 0) k0 0) (fun i _ => by
      rw [up_at]; split
      · omega
      · split <;> omega) b1
    rw [up_n _ _ hne, if_pos hMk] at m
    omega
  · intro h
    unfold pcs
    refine Eq.trans (sm_congr (fun i hi => ?_)) (sm_pick (n := T) (fun _ => (1 : Int)) h0)
    by_cases hik : i = k0
    · subst hik; rw [if_pos hM, if_pos rfl]
    · rw [if_neg hik, if_neg]
      rintro ⟨q1, q2⟩
      rcases Nat.lt_or_ge i k0 with g | g
      · exact hlow i g q1
      · exact q2 k0 (by omega) hV (h i hi q1)
theorem s_N_isRound {x1 nPosts : Int} {nArrows : Nat → Int} {Q : Int → Prop} {n T : Nat} {co : Nat → Int} {F : Int → Int → Prop} {V : Nat → Prop} (hN : NetOK n T co) (hn : nPosts = n) (hA : ArOK T co nArrows) (a1 : 0 ≤ x1) (a2 : x1 < 9) (hF : ∀ x y, F x y ↔ (x = x1 ∨ y = x1)) (hV : ∀ k, k < T → (V k ↔ ∃ c, c < 3 * T ∧ c / 3 = k ∧ co c = x1)) (h1 : pcs T co F V T = 1 → Q 1) (h0 : ¬ pcs T co F V T = 1 → Q 0) : wp_N_isRound x1 nPosts nArrows Q := by
  have hle := hN.le
  have hp := pow12 hle.2.2
  have hFs : ∀ x y, F x y → F y x := fun x y h => (hF y x).mpr ((hF x y).mp h).symm
  unfold wp_N_isRound
  refine s_N_thirdsAt hn (by omega) hA hle.2.2 a1 a2 (fun b hb hbit => ⟨jR_n (by omega), fun g => ?_, fun g => ?_⟩)
  · have hbV : ∀ k, k < T → ¬ V k := by
      intro k hk hVk
      obtain ⟨c, c1, c2, c3⟩ := (hV k hk).mp hVk
      have r := hN.co (nx_lt c1)
      have := (hbit k).mpr ⟨(co (nx c)).toNat, by omega, by rw [av_some hN c1 c3 (by omega)]; omega⟩
      rw [show b = 0 by omega, Nat.zero_testBit] at this; cases this
    exact h0 (by rw [pcs_none hbV]; omega)
  · have hb0 : b ≠ 0 := by omega
    have bV : ∀ k, b.testBit k = true ↔ (k < T ∧ V k) := by
      intro k
      rw [hbit]
      constructor
      · rintro ⟨q, hq, hav⟩
        obtain ⟨c, c1, c2, c3, c4⟩ := av_of (C := 3 * T) (co := co) (p := x1) (q := q) (by omega)
        refine ⟨by omega, (hV k (by omega)).mpr ⟨c, c1, by omega, c2⟩⟩
      · rintro ⟨hk, hVk⟩
        obtain ⟨c, c1, c2, c3⟩ := (hV k hk).mp hVk
        have r := hN.co (nx_lt c1)
        exact ⟨(co (nx c)).toNat, by omega, by rw [av_some hN c1 c3 (by omega)]; omega⟩
    obtain ⟨k0, e0, b1, b2⟩ := lo_spec (by omega) hb0
    rw [e0]
    obtain ⟨k0T, hVk0⟩ := (bV k0).mp b1
    have hlow : ∀ j, j < k0 → ¬ V j := fun j hj hVj => b2 j hj ((bV j).mpr ⟨by omega, hVj⟩)
    have hone := pcs_one (F := F) (co := co) k0T hVk0 hlow
    refine s_N_hangingWith hN hn hA hFs (Or.inr ⟨a1, a2, hF⟩) rfl (Nat.pow_lt_pow_right (by omega) k0T) (by have := Nat.two_pow_pos k0; omega) (fun b3 hb3 hbit3 => ⟨jR_n (by omega), fun g2 => h1 (hone.mpr (fun k hk hVk => ?_)), fun g2 => h0 (fun q => g2 ?_)⟩)
    · have e : b3 = b := by omega
      obtain ⟨a, ha, hc⟩ := (hbit3 k).mp (by rw [e]; exact (bV k).mpr ⟨hk, hVk⟩)
      rw [bit_pow] at ha
      have := of_decide_eq_true ha
      subst this; exact hc
    · have e : b3 = b := by
        refine Sub_anti (fun k hk => ?_) (fun k hk => ?_)
        · obtain ⟨a, ha, hc⟩ := (hbit3 k).mp hk
          rw [bit_pow] at ha
          have := of_decide_eq_true ha
          subst this
          rw [bV]
          refine conn_closed hc (S := fun k => k < T ∧ V k) ⟨k0T, hVk0⟩ (fun x y hx hxy => ?_)
          have hl := adj_lt hxy
          obtain ⟨c, d, d1, d2, d3, d4, d5, d6, d7⟩ := hxy
          refine ⟨hl.2, (hV y hl.2).mpr ?_⟩
          rcases (hF _ _).mp d7 with q | q
          · exact ⟨nx d, nx_lt d2, by rw [nx_div]; exact d4, by rw [← d5]; exact q⟩
          · exact ⟨d, d2, d4, by rw [← d6]; exact q⟩
        · obtain ⟨hk1, hk2⟩ := (bV k).mp hk
          exact (hbit3 k).mpr ⟨k0, by rw [bit_pow]; exact decide_eq_true rfl, hone.mp q k hk1 hk2⟩
      rw [e]
/-! all pieces -/
noncomputable def pcn (T : Nat) (co : Nat → Int) (F : Int → Int → Prop) (V : Nat → Prop) (b : Nat) : Int := sm T (fun k => @ite Int (Mn T co F V k ∧ ¬ b.testBit k = true) (Classical.propDecidable _) 1 0)
theorem conn_sym {T : Nat} {co : Nat → Int} {F : Int → Int → Prop} (hFs : ∀ x y, F x y → F y x) {a b : Nat} (h : conn T co F a b) : conn T co F b a :=
  conn_closed h (S := fun x => conn T co F x a) (conn_rf a) (fun x y hx hxy => conn_tr (conn_step (conn_rf y) (adj_sym hFs hxy)) hx)
theorem s_N_pieces {nPosts nThirds : Int} {nArrows : Nat → Int} {Q : Int → Prop} {n T : Nat} {co : Nat → Int} {F : Int → Int → Prop} {V : Nat → Prop} (hN : NetOK n T co) (hn : nPosts = n) (hT : nThirds = T) (hA : ArOK T co nArrows) (hF : ∀ x y, F x y) (hV : ∀ k, V k) (hQ : Q (pcs T co F V T)) : wp_N_pieces nPosts nThirds nArrows Q := by
  have hle := hN.le
  have hp := pow12 hle.2.2
  have hpos := Nat.two_pow_pos T
  have hFs : ∀ x y, F x y → F y x := fun x y _ => hF y x
  subst hT
  unfold wp_N_pieces
  rw [jshl_1 hle.2.2, show ((2 ^ T : Nat) : Int) - 1 = ((2 ^ T - 1 : Nat) : Int) by omega]
  refine lp3 (wp_N_pieces_13 Q nPosts nArrows) (fun x1 x2 x3 => ∃ b t : Nat, x2 = b ∧ x3 = t ∧ b < 2 ^ T ∧ (t : Int) + cb b ≤ 12 ∧ (∀ a k, b.testBit a = true → adj T co F a k → b.testBit k = true) ∧ x1 = pcn T co F V b) (fun _ _ x3 => (13 - x3).toNat) ?_ _ _ _ ⟨2 ^ T - 1, 0, rfl, rfl, by omega, by have := cb_r (2 ^ T - 1); omega, fun a k ha hak => ?_, ?_⟩
  · rintro f x1 x2 x3 ⟨b, t, rfl, rfl, hb, hcb, hcl, hx1⟩ ih
    show wp_N_pieces_13_b _ _ _ _ _ _ _
    unfold wp_N_pieces_13_b
    have hc := cb_r b
    have fin : b = 0 → Q x1 := by
      intro e
      rw [hx1, e]
      unfold pcn
      unfold pcs at hQ
      rw [sm_congr (g := fun k => @ite Int (Mn T co F V k) (Classical.propDecidable _) 1 0)]
      · exact hQ
      · intro i hi
        rw [Nat.zero_testBit]
        by_cases hm : Mn T co F V i
        · rw [if_pos hm, if_pos ⟨hm, by decide⟩]
        · rw [if_neg hm, if_neg (fun q => hm q.1)]
    refine ⟨⟨by omega, by omega⟩, fun g => fin ?_, fun g => ⟨jR_n (by omega), fun g2 => fin (by omega), fun g2 => ?_⟩⟩
    · apply Classical.byContradiction
      intro hne
      have := cb_grow (a := 0) (b := b) (fun k h => by rw [Nat.zero_testBit] at h; cases h) (fun h => hne h.symm) (by omega)
      have := (cb_r 0).1
      omega
    · have hb0 : b ≠ 0 := by omega
      obtain ⟨k0, e0, b1, b2⟩ := lo_spec (by omega) hb0
      have k0T := bit_lt hb b1
      rw [e0]
      refine s_N_hangingWith hN hn hA hFs (Or.inl ⟨rfl, hF⟩) rfl (Nat.pow_lt_pow_right (by omega) k0T) (by have := Nat.two_pow_pos k0; omega) (fun b3 hb3 hbit3 => ?_)
      have hbit3' : ∀ k, b3.testBit k = true ↔ conn T co F k0 k := by
        intro k
        rw [hbit3]
        constructor
        · rintro ⟨a, ha, hc⟩
          rw [bit_pow] at ha
          have := of_decide_eq_true ha
          subst this; exact hc
        · intro hc; exact ⟨k0, by rw [bit_pow]; exact decide_eq_true rfl, hc⟩
      rw [jnot_n (by omega) (by omega)]
      have hwl := wo_le b b3
      have wb : ∀ k, (wo b b3).testBit k = true ↔ (b.testBit k = true ∧ ¬ b3.testBit k = true) := wo_bit (by omega)
      have hsub : Sub (wo b b3) b := fun k hk => ((wb k).mp hk).1
      have hlt := cb_lt hsub (k := k0) (by omega) b1 (fun q => ((wb k0).mp q).2 ((hbit3' k0).mpr (conn_rf _)))
      refine ih _ _ _ ⟨wo b b3, t + 1, rfl, by omega, by omega, by omega, fun a k ha hak => ?_, ?_⟩ (by omega)
      · obtain ⟨q1, q2⟩ := (wb a).mp ha
        refine (wb k).mpr ⟨hcl a k q1 hak, fun q => q2 ?_⟩
        rw [hbit3'] at q ⊢
        exact conn_step q (adj_sym hFs hak)
      · rw [hx1]
        unfold pcn
        have hM : Mn T co F V k0 := ⟨hV k0, fun j hj _ hc => by
          have := conn_closed (conn_sym hFs hc) (S := fun k => b.testBit k = true) b1 (fun x y hx hxy => hcl x y hx hxy)
          exact b2 j hj this⟩
        have e : sm T (fun k => @ite Int (Mn T co F V k ∧ ¬ (wo b b3).testBit k = true) (Classical.propDecidable _) 1 0) = sm T (up (fun k => @ite Int (Mn T co F V k ∧ ¬ b.testBit k = true) (Classical.propDecidable _) 1 0) k0 1) := by
          refine sm_congr (fun i hi => ?_)
          rw [up_at]
          by_cases hik : i = k0
          · rw [if_pos hik]; subst hik
            exact if_pos ⟨hM, fun q => ((wb i).mp q).2 ((hbit3' i).mpr (conn_rf _))⟩
          · rw [if_neg hik]
            by_cases hm : Mn T co F V i
            · by_cases hbi : b.testBit i = true
              · have h1 : ¬ conn T co F k0 i := by
                  rcases Nat.lt_or_ge i k0 with g | g
                  · exact absurd hbi (b2 i g)
                  · exact hm.2 k0 (by omega) (hV k0)
                rw [if_neg (fun q => q.2 ((wb i).mpr ⟨hbi, fun q => h1 ((hbit3' i).mp q)⟩)), if_neg (fun q => q.2 hbi)]
              · rw [if_pos ⟨hm, fun q => hbi (hsub i q)⟩, if_pos ⟨hm, hbi⟩]
            · rw [if_neg (fun q => hm q.1), if_neg (fun q => hm q.1)]
        rw [e, sm_up _ _ k0T, if_neg (fun q => q.2 b1)]; omega
  · rw [Nat.testBit_two_pow_sub_one]
    exact decide_eq_true (adj_lt hak).2
  · unfold pcn
    symm
    refine sm_zero (fun i hi => if_neg (fun q => q.2 ?_))
    rw [Nat.testBit_two_pow_sub_one]
    exact decide_eq_true hi

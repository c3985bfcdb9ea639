/-! pieces: what hangs together -/
def adj (T : Nat) (co : Nat → Int) (F : Int → Int → Prop) (a b : Nat) : Prop := ∃ c d, c < 3 * T ∧ d < 3 * T ∧ c / 3 = a ∧ d / 3 = b ∧ co c = co (nx d) ∧ co (nx c) = co d ∧ F (co c) (co (nx c))
def conn (T : Nat) (co : Nat → Int) (F : Int → Int → Prop) (a b : Nat) : Prop := ∀ S : Nat → Prop, S a → (∀ x y, S x → adj T co F x y → S y) → S b
theorem adj_sym {T : Nat} {co : Nat → Int} {F : Int → Int → Prop} (hF : ∀ x y, F x y → F y x) {a b : Nat} (h : adj T co F a b) : adj T co F b a := by
  obtain ⟨c, d, h1, h2, h3, h4, h5, h6, h7⟩ := h
  refine ⟨d, c, h2, h1, h4, h3, h6.symm, h5.symm, ?_⟩
  rw [← h6, ← h5]; exact hF _ _ h7
theorem adj_lt {T : Nat} {co : Nat → Int} {F : Int → Int → Prop} {a b : Nat} (h : adj T co F a b) : a < T ∧ b < T := by
  obtain ⟨c, d, h1, h2, h3, h4, -⟩ := h; omega
theorem conn_rf {T : Nat} {co : Nat → Int} {F : Int → Int → Prop} (a : Nat) : conn T co F a a := fun _ h _ => h
theorem conn_step {T : Nat} {co : Nat → Int} {F : Int → Int → Prop} {a b c : Nat} (h : conn T co F a b) (h2 : adj T co F b c) : conn T co F a c := fun S hS hcl => hcl b c (h S hS hcl) h2
theorem conn_tr {T : Nat} {co : Nat → Int} {F : Int → Int → Prop} {a b c : Nat} (h : conn T co F a b) (h2 : conn T co F b c) : conn T co F a c := fun S hS hcl => h2 S (h S hS hcl) hcl
theorem conn_closed {T : Nat} {co : Nat → Int} {F : Int → Int → Prop} {a b : Nat} (h : conn T co F a b) {S : Nat → Prop} (hS : S a) (hcl : ∀ x y, S x → adj T co F x y → S y) : S b := h S hS hcl
/-- the first third of its piece -/
def Mn (T : Nat) (co : Nat → Int) (F : Int → Int → Prop) (V : Nat → Prop) (k : Nat) : Prop := V k ∧ ∀ j, j < k → V j → ¬ conn T co F j k
noncomputable def pcs (T : Nat) (co : Nat → Int) (F : Int → Int → Prop) (V : Nat → Prop) (K : Nat) : Int := sm K (fun k => @ite Int (Mn T co F V k) (Classical.propDecidable _) 1 0)
theorem pcs_s (T : Nat) (co : Nat → Int) (F : Int → Int → Prop) (V : Nat → Prop) (K : Nat) : (Mn T co F V K → pcs T co F V (K + 1) = pcs T co F V K + 1) ∧ (¬ Mn T co F V K → pcs T co F V (K + 1) = pcs T co F V K) := by
  unfold pcs
  rw [sm_s]
  constructor
  · intro h; rw [if_pos h]
  · intro h; rw [if_neg h]; omega
theorem pcs_r (T : Nat) (co : Nat → Int) (F : Int → Int → Prop) (V : Nat → Prop) (K : Nat) : 0 ≤ pcs T co F V K ∧ pcs T co F V K ≤ K := by
  induction K with
  | zero => exact ⟨Int.le_refl _, Int.le_refl _⟩
  | succ K ih =>
    have h := pcs_s T co F V K
    by_cases hm : Mn T co F V K
    · rw [h.1 hm]; omega
    · rw [h.2 hm]; omega
/-! the reference -/
theorem s_M_hang {x1 x2 x3 mThirds : Int} {mCorner : Nat → Int} {Q : Int → Prop} {n T a b : Nat} {co : Nat → Int} {F : Int → Int → Prop} (hN : NetOK n T co) (hT : mThirds = T) (hc : ∀ c, c < 3 * T → mCorner c = co c) (ha : a < T) (hb : b < T) (e1 : x1 = a) (e2 : x2 = b) (hx3 : jR x3) (hF : ∀ x y, 0 ≤ x → 0 ≤ y → (F x y ↔ (x3 < 0 ∨ x = x3 ∨ y = x3))) (h1 : adj T co F a b → Q 1) (h0 : ¬ adj T co F a b → Q 0) : wp_M_hang x1 x2 x3 mThirds mCorner Q := by
  have hle := hN.le
  subst e1; subst e2
  unfold wp_M_hang
  refine lp2 (wp_M_hang_6 Q mThirds mCorner a b x3) (fun x4 x5 => ∃ i : Nat, i ≤ 3 ∧ x5 = i ∧ ((x4 = 1 ∧ adj T co F a b) ∨ (x4 = 0 ∧ ∀ j, j < i → ¬ ∃ d, d < 3 * T ∧ d / 3 = b ∧ co (3 * a + j) = co (nx d) ∧ co (nx (3 * a + j)) = co d ∧ F (co (3 * a + j)) (co (nx (3 * a + j)))))) (fun _ x5 => (3 - x5).toNat) ?_ _ _ ⟨0, by omega, rfl, Or.inr ⟨rfl, fun j h => by omega⟩⟩
  rintro f x4 x5 ⟨i, hi, rfl, hx⟩ ih
  show wp_M_hang_6_b _ _ _ _ _ _ _ _ _
  unfold wp_M_hang_6_b
  have hx4 : jR x4 := by rcases hx with ⟨e, -⟩ | ⟨e, -⟩ <;> rw [e] <;> (unfold jR; decide)
  refine ⟨jR_n (by omega), fun h => ?_, fun h => ?_⟩
  · rcases hx with ⟨e, x⟩ | ⟨e, x⟩
    · subst e; exact ⟨Or.inr rfl, h1 x⟩
    · subst e
      refine ⟨Or.inl rfl, h0 ?_⟩
      rintro ⟨c, d, d1, d2, d3, d4, d5, d6, d7⟩
      refine x (c % 3) (by omega) ⟨d, d2, d4, ?_⟩
      rw [show 3 * a + c % 3 = c by omega]
      exact ⟨d5, d6, d7⟩
  · have e3 : (jrem ((i : Int) + 1) 3) = (((i + 1) % 3 : Nat) : Int) := by rw [jrem_n (by omega) (by omega) (by omega) (by omega)]; omega
    have e4 : ((3 : Int) * (a : Int) + (i : Int)) = ((3 * a + i : Nat) : Int) := by omega
    have e5 : ((3 : Int) * (a : Int) + (jrem ((i : Int) + 1) 3)) = ((nx (3 * a + i) : Nat) : Int) := by rw [e3]; unfold nx; omega
    have hnx : nx (3 * a + i) < 3 * T := nx_lt (by omega)
    have r1 := hN.co9 (c := 3 * a + i) (by omega)
    have r2 := hN.co9 hnx
    rw [e4, e5, Int.toNat_natCast, Int.toNat_natCast, hc _ (by omega), hc _ hnx]
    have keep1 : adj T co F a b → wp_M_hang_6 Q mThirds mCorner a b x3 f 1 (i + 1) := fun hadj => ih _ _ ⟨i + 1, by omega, by omega, Or.inl ⟨rfl, hadj⟩⟩ (by omega)
    refine ⟨⟨by omega, by omega⟩, ⟨by omega, by omega⟩, hx4, fun g => ?_, fun g => ?_⟩
    · have hno : ∀ j, j < i → ¬ ∃ d, d < 3 * T ∧ d / 3 = b ∧ co (3 * a + j) = co (nx d) ∧ co (nx (3 * a + j)) = co d ∧ F (co (3 * a + j)) (co (nx (3 * a + j))) := by
        rcases hx with ⟨e, -⟩ | ⟨-, e⟩
        · omega
        · exact e
      have keep0 : (¬ ∃ d, d < 3 * T ∧ d / 3 = b ∧ co (3 * a + i) = co (nx d) ∧ co (nx (3 * a + i)) = co d ∧ F (co (3 * a + i)) (co (nx (3 * a + i)))) → wp_M_hang_6 Q mThirds mCorner a b x3 f 0 (i + 1) := by
        intro hh
        refine ih _ _ ⟨i + 1, by omega, by omega, Or.inr ⟨rfl, fun j hj => ?_⟩⟩ (by omega)
        by_cases hji : j = i
        · subst hji; exact hh
        · exact hno j (by omega)
      have look : F (co (3 * a + i)) (co (nx (3 * a + i))) → wp_M_hang_63 (wp_M_hang_6 Q mThirds mCorner a b x3 f) Q mThirds mCorner a b x3 i (co (3 * a + i)) (co (nx (3 * a + i))) := by
        intro hFF
        unfold wp_M_hang_63
        have r := av_lt (T := T) (co := co) (p := co (nx (3 * a + i))) (q := co (3 * a + i))
        refine s_M_arrowOf hN hT hc ⟨by omega, by omega⟩ ⟨by omega, by omega⟩ (fun hav => ⟨by unfold jR; decide, jR_n (by omega), fun g2 => by omega, fun g2 => keep0 ?_⟩) (fun hav => ⟨⟨by omega, by omega⟩, jR_n (by omega), fun g2 => keep1 ?_, fun g2 => keep0 ?_⟩)
        · rintro ⟨d, d1, d2, d3, d4, -⟩
          have := av_some hN d1 d4.symm d3.symm
          omega
        · obtain ⟨d, d1, d2, d3, d4⟩ := av_of hav
          exact ⟨3 * a + i, d, by omega, d1, by omega, by omega, d3.symm, d2.symm, hFF⟩
        · rintro ⟨d, d1, d2, d3, d4, -⟩
          have := av_some hN d1 d4.symm d3.symm
          omega
      have hFi := hF (co (3 * a + i)) (co (nx (3 * a + i))) r1.1 r2.1
      refine ⟨hx3, fun g2 => look (hFi.mpr (Or.inl g2)), fun g2 => ⟨⟨by omega, by omega⟩, fun g3 => look (hFi.mpr (Or.inr (Or.inl g3))), fun g3 => ⟨⟨by omega, by omega⟩, fun g4 => look (hFi.mpr (Or.inr (Or.inr g4))), fun g4 => keep0 ?_⟩⟩⟩
      rintro ⟨d, -, -, -, -, q⟩
      rcases hFi.mp q with q | q | q
      · exact g2 q
      · exact g3 q
      · exact g4 q
    · rcases hx with ⟨-, x⟩ | ⟨e, -⟩
      · exact keep1 x
      · exact absurd e g
theorem s_M_hasPost {x1 x2 : Int} {mCorner : Nat → Int} {Q : Int → Prop} {n T k : Nat} {co : Nat → Int} (hN : NetOK n T co) (hc : ∀ c, c < 3 * T → mCorner c = co c) (hk : k < T) (e1 : x1 = k) (hx2 : jR x2) (h1 : (∃ c, c < 3 * T ∧ c / 3 = k ∧ co c = x2) → Q 1) (h0 : ¬ (∃ c, c < 3 * T ∧ c / 3 = k ∧ co c = x2) → Q 0) : wp_M_hasPost x1 x2 mCorner Q := by
  have hle := hN.le
  subst e1
  unfold wp_M_hasPost
  have r0 := hN.co9 (c := 3 * k) (by omega)
  have r1 := hN.co9 (c := 3 * k + 1) (by omega)
  have r2 := hN.co9 (c := 3 * k + 2) (by omega)
  rw [show ((3 : Int) * (k : Int)).toNat = 3 * k by omega, show ((3 : Int) * (k : Int) + 1).toNat = 3 * k + 1 by omega, show ((3 : Int) * (k : Int) + 2).toNat = 3 * k + 2 by omega, hc _ (by omega), hc _ (by omega), hc _ (by omega)]
  refine ⟨⟨by omega, by omega⟩, ⟨by omega, by omega⟩, hx2, fun g => h1 ⟨3 * k, by omega, by omega, g⟩, fun g => ⟨⟨by omega, by omega⟩, ⟨by omega, by omega⟩, fun g2 => h1 ⟨3 * k + 1, by omega, by omega, g2⟩, fun g2 => ⟨⟨by omega, by omega⟩, ⟨by omega, by omega⟩, fun g3 => h1 ⟨3 * k + 2, by omega, by omega, g3⟩, fun g3 => h0 ?_⟩⟩⟩
  rintro ⟨c, c1, c2, c3⟩
  have : c = 3 * k ∨ c = 3 * k + 1 ∨ c = 3 * k + 2 := by omega
  rcases this with e | e | e
  · subst e; exact g c3
  · subst e; exact g2 c3
  · subst e; exact g3 c3
/-- marks: 0 for none yet, -1 for those that don't count -/
def Mk (T : Nat) (V : Nat → Prop) (nn : Int) (mk : Nat → Int) : Prop := ∀ k, k < T → (mk k = -1 ∧ ¬ V k) ∨ (mk k = 0 ∧ V k) ∨ (1 ≤ mk k ∧ mk k ≤ nn ∧ V k)
def zc (T : Nat) (mk : Nat → Int) : Int := sm T (fun k => if mk k = 0 then 1 else 0)
theorem zc_r (T : Nat) (mk : Nat → Int) : 0 ≤ zc T mk := by
  unfold zc; exact sm_nonneg (fun k _ => by split <;> omega)
theorem zc_up {T : Nat} {mk : Nat → Int} {b : Nat} (hb : b < T) (h : mk b = 0) {x : Int} (hx : x ≠ 0) : zc T (up mk b x) = zc T mk - 1 := by
  unfold zc
  have e : sm T (fun k => if up mk b x k = 0 then (1 : Int) else 0) = sm T (up (fun k => if mk k = 0 then (1 : Int) else 0) b 0) := by
    refine sm_congr (fun i _ => ?_)
    rw [up_at, up_at]
    by_cases hi : i = b
    · rw [if_pos hi, if_pos hi, if_neg hx]
    · rw [if_neg hi, if_neg hi]
  rw [e, sm_up _ _ hb, if_pos h]; omega
theorem s_M_pieces {x1 mThirds : Int} {mCorner mMark : Nat → Int} {Q : Int → (Nat → Int) → Prop} {n T : Nat} {co : Nat → Int} {F : Int → Int → Prop} {V : Nat → Prop} (hN : NetOK n T co) (hT : mThirds = T) (hc : ∀ c, c < 3 * T → mCorner c = co c) (hx1 : jR x1) (hF : ∀ x y, 0 ≤ x → 0 ≤ y → (F x y ↔ (x1 < 0 ∨ x = x1 ∨ y = x1))) (hFs : ∀ x y, F x y → F y x) (hV : ∀ k, k < T → (V k ↔ (x1 < 0 ∨ ∃ c, c < 3 * T ∧ c / 3 = k ∧ co c = x1))) (hQ : ∀ mk, Q (pcs T co F V T) mk) : wp_M_pieces x1 mThirds mCorner mMark Q := by
  have hle := hN.le
  subst hT
  -- neighbours of those that count do count
  have hVadj : ∀ a b, adj T co F a b → V b := by
    intro a b h
    obtain ⟨c, d, h1, h2, h3, h4, h5, h6, h7⟩ := h
    have r1 := hN.co9 h1
    have r2 := hN.co9 (nx_lt h1)
    rw [hV b (by omega)]
    rcases (hF _ _ r1.1 r2.1).mp h7 with q | q | q
    · exact Or.inl q
    · exact Or.inr ⟨nx d, nx_lt h2, by rw [nx_div]; exact h4, by rw [← h5]; exact q⟩
    · exact Or.inr ⟨d, h2, h4, by rw [← h6]; exact q⟩
  unfold wp_M_pieces
  refine lp2 (wp_M_pieces_4 Q T mCorner x1 0) (fun x3 mk => ∃ k : Nat, k ≤ T ∧ x3 = k ∧ ∀ j, j < k → (mk j = 0 ∧ V j) ∨ (mk j = -1 ∧ ¬ V j)) (fun x3 _ => (T - x3).toNat) ?_ _ _ ⟨0, by omega, rfl, fun j h => by omega⟩
  rintro f x3 mk ⟨k, hk, rfl, hmk⟩ ih
  show wp_M_pieces_4_b _ _ _ _ _ _ _ _
  unfold wp_M_pieces_4_b
  have setTo : ∀ (x : Int) (mk2 : Nat → Int), k < T → mk2 = up mk (k : Int).toNat x → ((x = 0 ∧ V k) ∨ (x = -1 ∧ ¬ V k)) → wp_M_pieces_4 Q T mCorner x1 0 f (k + 1) mk2 := by
    intro x mk2 hlt e hx
    refine ih _ _ ⟨k + 1, by omega, by omega, fun j hj => ?_⟩ (by omega)
    rw [e, Int.toNat_natCast, up_at]
    by_cases hjk : j = k
    · subst hjk; rw [if_pos rfl]; exact hx
    · rw [if_neg hjk]; exact hmk j (by omega)
  refine ⟨jR_n (by omega), jR_n (by omega), fun h => ?_, fun h => ⟨hx1, fun g => ⟨⟨by omega, by omega⟩, fun mk2 e2 => setTo 0 mk2 (by omega) e2 (Or.inl ⟨rfl, (hV k (by omega)).mpr (Or.inl g)⟩)⟩, fun g => ?_⟩⟩
  · have ek : k = T := by omega
    subst ek
    -- the main loop
    refine lp3 (wp_M_pieces_44 Q k mCorner x1) (fun x2 x3 mk => ∃ j : Nat, j ≤ k ∧ x3 = j ∧ x2 = pcs k co F V j ∧ Mk k V x2 mk ∧ (∀ i, i < j → V i → 1 ≤ mk i) ∧ (∀ a b, adj k co F a b → 1 ≤ mk a → mk b = mk a) ∧ ∀ i, i < k → 1 ≤ mk i → ∃ i0, i0 < j ∧ V i0 ∧ conn k co F i0 i) (fun _ x3 _ => (k - x3).toNat) ?_ _ _ _ ⟨0, by omega, rfl, rfl, fun i hi => ?_, fun i h => by omega, fun a b hab h => ?_, fun i hi h => ?_⟩
    · rintro f2 x2 x3 mk2 ⟨j, hj, rfl, rfl, m1, m2, m3, m4⟩ ih2
      show wp_M_pieces_44_b _ _ _ _ _ _ _ _
      unfold wp_M_pieces_44_b
      have hpr := pcs_r k co F V j
      have hps := pcs_s k co F V j
      refine ⟨jR_n (by omega), jR_n (by omega), fun g => ?_, fun g => ⟨⟨by omega, by omega⟩, ?_⟩⟩
      · have e : j = k := by omega
        subst e; exact hQ _
      · rw [Int.toNat_natCast]
        have mr : jR (mk2 j) := by rcases m1 j (by omega) with q | q | q <;> exact ⟨by omega, by omega⟩
        refine ⟨mr, fun g2 mk3 e3 => ?_, fun g2 => ?_⟩
        · have hVj : V j := by rcases m1 j (by omega) with q | q | q; omega; exact q.2; omega
          have hMn : Mn k co F V j := by
            refine ⟨hVj, fun i hi hVi hcon => ?_⟩
            have := m2 i hi hVi
            have hcl := conn_closed hcon (S := fun x => mk2 x = mk2 i) rfl (fun x y hx hxy => by rw [m3 x y hxy (by omega)]; exact hx)
            omega
          have hnn := hps.1 hMn
          -- flooding
          refine lp2 (wp_M_pieces_74 (wp_M_pieces_44 Q k mCorner x1 f2) Q k mCorner x1 (pcs k co F V j + 1) j) (fun x4 mk => (x4 = 0 ∨ x4 = 1) ∧ Mk k V (pcs k co F V j + 1) mk ∧ mk j = pcs k co F V j + 1 ∧ (∀ i, i < k → 1 ≤ mk2 i → mk i = mk2 i) ∧ (∀ i, i < k → mk i = pcs k co F V j + 1 → conn k co F j i) ∧ (∀ i, i < k → mk i ≠ pcs k co F V j + 1 → mk i = mk2 i) ∧ (x4 = 0 → ∀ a b, adj k co F a b → mk a = pcs k co F V j + 1 → mk b ≠ 0)) (fun x4 mk => (2 * zc k mk + x4).toNat) ?_ _ _ ⟨Or.inr rfl, fun i hi => ?_, ?_, fun i hi hh => ?_, fun i hi hh => ?_, fun i hi hh => ?_, fun h => absurd h (by decide)⟩
          · rintro f3 x4 mk4 ⟨b1, b2, b3, b4, b5, b6, b7⟩ ih3
            show wp_M_pieces_74_b _ _ _ _ _ _ _ _ _ _
            unfold wp_M_pieces_74_b
            have hz := zc_r k mk4
            refine ⟨by rcases b1 with q | q <;> rw [q] <;> (unfold jR; decide), fun g3 => ?_, fun g3 => ?_⟩
            · -- the piece is marked
              refine ih2 _ _ _ ⟨j + 1, by omega, by omega, hnn.symm, ?_, fun i hi hVi => ?_, fun a b hab ha => ?_, fun i hi h1 => ?_⟩ (by omega)
              · exact b2
              · by_cases hij : i = j
                · subst hij; omega
                · have := m2 i (by omega) hVi
                  rw [b4 i (by omega) this]; exact this
              · have hl := adj_lt hab
                by_cases hma : mk4 a = pcs k co F V j + 1
                · rw [hma]
                  have hb0 := b7 g3 a b hab hma
                  by_cases hmb : mk4 b = pcs k co F V j + 1
                  · exact hmb
                  · exfalso
                    have e := b6 b hl.2 hmb
                    rcases m1 b hl.2 with q | q | q
                    · exact q.2 (hVadj a b hab)
                    · omega
                    · have := m3 b a (adj_sym hFs hab) q.1
                      have := b4 a hl.1 (by omega)
                      omega
                · have e := b6 a hl.1 hma
                  rw [e] at ha ⊢
                  have h2 := m3 a b hab ha
                  rw [b4 b hl.2 (by omega)]; exact h2
              · by_cases hmi : mk4 i = pcs k co F V j + 1
                · exact ⟨j, by omega, hVj, b5 i hi hmi⟩
                · have e := b6 i hi hmi
                  obtain ⟨i0, q1, q2, q3⟩ := m4 i hi (by omega)
                  exact ⟨i0, by omega, q2, q3⟩
            · have hx4 : x4 = 1 := by omega
              subst hx4
              -- one pass
              refine lp3 (wp_M_pieces_85 (wp_M_pieces_44 Q k mCorner x1 f2) (wp_M_pieces_74 (wp_M_pieces_44 Q k mCorner x1 f2) Q k mCorner x1 (pcs k co F V j + 1) j f3) Q k mCorner x1 (pcs k co F V j + 1) j) (fun y4 y5 mk => ∃ a : Nat, a ≤ k ∧ y5 = a ∧ (y4 = 0 ∨ y4 = 1) ∧ Mk k V (pcs k co F V j + 1) mk ∧ mk j = pcs k co F V j + 1 ∧ (∀ i, i < k → 1 ≤ mk2 i → mk i = mk2 i) ∧ (∀ i, i < k → mk i = pcs k co F V j + 1 → conn k co F j i) ∧ (∀ i, i < k → mk i ≠ pcs k co F V j + 1 → mk i = mk2 i) ∧ ((y4 = 0 ∧ mk = mk4 ∧ ∀ a' b, a' < a → adj k co F a' b → mk a' = pcs k co F V j + 1 → mk b ≠ 0) ∨ (y4 = 1 ∧ zc k mk < zc k mk4))) (fun _ y5 _ => (k - y5).toNat) ?_ _ _ _ ⟨0, by omega, rfl, Or.inl rfl, b2, b3, b4, b5, b6, Or.inl ⟨rfl, rfl, fun a' b h => by omega⟩⟩
              rintro f4 y4 y5 mk5 ⟨a, ha, rfl, c1, c2, c3, c4, c5, c6, c7⟩ ih4
              show wp_M_pieces_85_b _ _ _ _ _ _ _ _ _ _ _ _
              unfold wp_M_pieces_85_b
              refine ⟨jR_n (by omega), jR_n (by omega), fun g4 => ?_, fun g4 => ?_⟩
              · rcases c7 with ⟨y1, y2, y3⟩ | ⟨y1, y2⟩
                · refine ih3 _ _ ⟨c1, c2, c3, c4, c5, c6, fun _ a' b hab hma => y3 a' b ?_ hab hma⟩ ?_
                  · have := adj_lt hab; omega
                  · rw [y1, y2]; omega
                · exact ih3 _ _ ⟨c1, c2, c3, c4, c5, c6, fun h => by omega⟩ (by have := zc_r k mk5; omega)
              · -- one row of the pass
                refine lp3 (wp_M_pieces_97 (wp_M_pieces_44 Q k mCorner x1 f2) (wp_M_pieces_74 (wp_M_pieces_44 Q k mCorner x1 f2) Q k mCorner x1 (pcs k co F V j + 1) j f3) (wp_M_pieces_85 (wp_M_pieces_44 Q k mCorner x1 f2) (wp_M_pieces_74 (wp_M_pieces_44 Q k mCorner x1 f2) Q k mCorner x1 (pcs k co F V j + 1) j f3) Q k mCorner x1 (pcs k co F V j + 1) j f4) Q k mCorner x1 (pcs k co F V j + 1) j a) (fun y4 y6 mk => ∃ b : Nat, b ≤ k ∧ y6 = b ∧ (y4 = 0 ∨ y4 = 1) ∧ Mk k V (pcs k co F V j + 1) mk ∧ mk j = pcs k co F V j + 1 ∧ (∀ i, i < k → 1 ≤ mk2 i → mk i = mk2 i) ∧ (∀ i, i < k → mk i = pcs k co F V j + 1 → conn k co F j i) ∧ (∀ i, i < k → mk i ≠ pcs k co F V j + 1 → mk i = mk2 i) ∧ ((y4 = 0 ∧ mk = mk4 ∧ (∀ a' b', a' < a → adj k co F a' b' → mk a' = pcs k co F V j + 1 → mk b' ≠ 0) ∧ ∀ b', b' < b → adj k co F a b' → mk a = pcs k co F V j + 1 → mk b' ≠ 0) ∨ (y4 = 1 ∧ zc k mk < zc k mk4))) (fun _ y6 _ => (k - y6).toNat) ?_ _ _ _ ⟨0, by omega, rfl, c1, c2, c3, c4, c5, c6, ?_⟩
                · rintro f5 z4 z6 mk6 ⟨b, hb, rfl, d1, d2, d3, d4, d5, d6, d7⟩ ih5
                  show wp_M_pieces_97_b _ _ _ _ _ _ _ _ _ _ _ _ _ _
                  unfold wp_M_pieces_97_b
                  refine ⟨jR_n (by omega), jR_n (by omega), fun g5 => ih4 _ _ _ ⟨a + 1, by omega, by omega, d1, d2, d3, d4, d5, d6, ?_⟩ (by omega), fun g5 => ⟨⟨by omega, by omega⟩, ?_⟩⟩
                  · rcases d7 with ⟨y1, y2, y3, y4⟩ | y
                    · refine Or.inl ⟨y1, y2, fun a' b' h1 h2 h3 => ?_⟩
                      by_cases haa : a' = a
                      · subst haa
                        have := adj_lt h2
                        exact y4 b' (by omega) h2 h3
                      · exact y3 a' b' (by omega) h2 h3
                    · exact Or.inr y
                  · rw [Int.toNat_natCast, Int.toNat_natCast]
                    have ra : jR (mk6 a) := by rcases d2 a (by omega) with q | q | q <;> exact ⟨by omega, by omega⟩
                    have rb : jR (mk6 b) := by rcases d2 b (by omega) with q | q | q <;> exact ⟨by omega, by omega⟩
                    have skip : (adj k co F a b → mk6 a = pcs k co F V j + 1 → mk6 b ≠ 0) → wp_M_pieces_97 (wp_M_pieces_44 Q k mCorner x1 f2) (wp_M_pieces_74 (wp_M_pieces_44 Q k mCorner x1 f2) Q k mCorner x1 (pcs k co F V j + 1) j f3) (wp_M_pieces_85 (wp_M_pieces_44 Q k mCorner x1 f2) (wp_M_pieces_74 (wp_M_pieces_44 Q k mCorner x1 f2) Q k mCorner x1 (pcs k co F V j + 1) j f3) Q k mCorner x1 (pcs k co F V j + 1) j f4) Q k mCorner x1 (pcs k co F V j + 1) j a f5 z4 (b + 1) mk6 := by
                      intro hh
                      refine ih5 _ _ _ ⟨b + 1, by omega, by omega, d1, d2, d3, d4, d5, d6, ?_⟩ (by omega)
                      rcases d7 with ⟨y1, y2, y3, y4⟩ | y
                      · refine Or.inl ⟨y1, y2, y3, fun b' h1 h2 h3 => ?_⟩
                        by_cases hbb : b' = b
                        · subst hbb; exact hh h2 h3
                        · exact y4 b' (by omega) h2 h3
                      · exact Or.inr y
                    refine ⟨ra, ⟨by omega, by omega⟩, fun g6 => ⟨⟨by omega, by omega⟩, rb, fun g7 => ?_, fun g7 => skip (fun _ _ => g7)⟩, fun g6 => skip (fun _ q => absurd q g6)⟩
                    refine s_M_hang hN rfl hc (a := a) (b := b) (by omega) (by omega) rfl rfl hx1 hF (fun hadj => ⟨jR01_1, fun h => absurd h (by decide), fun _ mk7 e7 => ?_⟩) (fun hadj => ⟨jR01_0, fun _ => skip (fun q => absurd q hadj), fun h => absurd rfl h⟩)
                    have hVb : V b := hVadj a b hadj
                    have hbm2 : mk2 b = 0 := by
                      have := d6 b (by omega) (by omega)
                      omega
                    have hzc : zc k mk7 = zc k mk6 - 1 := by rw [e7]; exact zc_up (by omega) g7 (by omega)
                    refine ih5 _ _ _ ⟨b + 1, by omega, by omega, Or.inr rfl, fun i hi => ?_, ?_, fun i hi h1 => ?_, fun i hi h1 => ?_, fun i hi h1 => ?_, Or.inr ⟨rfl, ?_⟩⟩ (by omega)
                    · rw [e7, up_at]; split
                      · rename_i hib; subst hib; exact Or.inr (Or.inr ⟨by omega, by omega, hVb⟩)
                      · exact d2 i hi
                    · rw [e7, up_at]; split
                      · rfl
                      · exact d3
                    · rw [e7, up_at]; split
                      · rename_i hib; subst hib; omega
                      · exact d4 i hi h1
                    · rw [e7, up_at] at h1
                      by_cases hib : i = b
                      · subst hib; exact conn_step (d5 a (by omega) g6) hadj
                      · rw [if_neg hib] at h1; exact d5 i hi h1
                    · rw [e7, up_at] at h1 ⊢
                      by_cases hib : i = b
                      · rw [if_pos hib] at h1; omega
                      · rw [if_neg hib] at h1 ⊢; exact d6 i hi h1
                    · rcases d7 with ⟨-, y2, -⟩ | ⟨-, y2⟩
                      · rw [hzc, y2]; omega
                      · omega
                · rcases c7 with ⟨y1, y2, y3⟩ | y
                  · exact Or.inl ⟨y1, y2, y3, fun b' h => by omega⟩
                  · exact Or.inr y
          · rw [e3, up_at]; split
            · rename_i hij; subst hij; exact Or.inr (Or.inr ⟨by omega, by omega, hVj⟩)
            · rcases m1 i hi with q | q | q
              · exact Or.inl q
              · exact Or.inr (Or.inl q)
              · exact Or.inr (Or.inr ⟨q.1, by omega, q.2.2⟩)
          · rw [e3, up_s]
          · rw [e3, up_n]
            intro q; subst q; omega
          · rw [e3, up_at] at hh
            by_cases hij : i = j
            · subst hij; exact conn_rf _
            · rw [if_neg hij] at hh
              rcases m1 i hi with q | q | q <;> omega
          · rw [e3, up_at] at hh ⊢
            by_cases hij : i = j
            · rw [if_pos hij] at hh; exact absurd rfl hh
            · rw [if_neg hij]
        · have hnM : ¬ Mn k co F V j := by
            rintro ⟨q1, q2⟩
            rcases m1 j (by omega) with q | q | q
            · exact q.2 q1
            · exact g2 q.1
            · obtain ⟨i0, h1, h2, h3⟩ := m4 j (by omega) q.1
              exact q2 i0 h1 h2 h3
          refine ih2 _ _ _ ⟨j + 1, by omega, by omega, (hps.2 hnM).symm, m1, fun i hi hVi => ?_, m3, fun i hi h1 => ?_⟩ (by omega)
          · by_cases hij : i = j
            · subst hij
              rcases m1 i (by omega) with q | q | q
              · exact absurd hVi q.2
              · exact absurd q.1 g2
              · exact q.1
            · exact m2 i (by omega) hVi
          · obtain ⟨i0, q1, q2, q3⟩ := m4 i hi h1
            exact ⟨i0, by omega, q2, q3⟩
    · rcases hmk i hi with q | q
      · exact Or.inr (Or.inl q)
      · exact Or.inl q
    · have := hmk a (adj_lt hab).1; omega
    · have := hmk i hi; omega
  · refine s_M_hasPost hN hc (k := k) (by omega) rfl hx1 (fun hh => ⟨jR01_1, fun h => absurd h (by decide), fun _ => ⟨⟨by omega, by omega⟩, fun mk2 e2 => setTo 0 mk2 (by omega) e2 (Or.inl ⟨rfl, (hV k (by omega)).mpr (Or.inr hh)⟩)⟩⟩) (fun hh => ⟨jR01_0, fun _ => ⟨⟨by omega, by omega⟩, fun mk2 e2 => setTo (-1) mk2 (by omega) e2 (Or.inr ⟨rfl, fun q => ?_⟩)⟩, fun h => absurd rfl h⟩)
    rcases (hV k (by omega)).mp q with q | q
    · exact g q
    · exact hh q

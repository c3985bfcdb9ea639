/-! bits as numbers -/
def bi (b k : Nat) : Int := if b.testBit k = true then 1 else 0
theorem bi_r (b k : Nat) : 0 ≤ bi b k ∧ bi b k ≤ 1 := by unfold bi; split <;> omega
theorem bi_1 {b k : Nat} : bi b k = 1 ↔ b.testBit k = true := by
  unfold bi; split
  · rename_i h; exact ⟨fun _ => h, fun _ => rfl⟩
  · rename_i h; exact ⟨fun q => absurd q (by decide), fun q => absurd q h⟩
theorem bi_0 {b k : Nat} : bi b k = 0 ↔ ¬ b.testBit k = true := by
  unfold bi; split
  · rename_i h; exact ⟨fun q => absurd q (by decide), fun q => absurd h q⟩
  · rename_i h; exact ⟨fun _ => h, fun _ => rfl⟩
theorem cb_bi (b : Nat) : cb b = sm 12 (fun k => bi b k) := rfl
theorem jshr_n {x k : Nat} (hx : x < 2147483648) (hk : k ≤ 12) : jshr x k = ((x >>> k : Nat) : Int) := by
  unfold jshr
  have h : ∀ k : Nat, k < 13 → ((J (k : Int) &&& 31).toBitVec.smod 32).toNat = k := by decide +kernel
  rw [pk_shr _ _ k (h k (by omega)), J_toInt (jR_n hx)]
  rfl
theorem jbit {x k : Nat} (hx : x < 2147483648) (hk : k ≤ 12) : jand (jshr x k) 1 = bi x k := by
  rw [jshr_n hx hk]
  have h1 : x >>> k ≤ x := by rw [Nat.shiftRight_eq_div_pow]; exact Nat.div_le_self _ _
  have h2 := jand_n (a := x >>> k) (b := 1) (by omega) (by omega)
  rw [show ((1 : Nat) : Int) = 1 from rfl] at h2
  rw [h2, Nat.and_one_is_mod, Nat.shiftRight_eq_div_pow]
  unfold bi
  rw [Nat.testBit_eq_decide_div_mod_eq]
  by_cases h : x / 2 ^ k % 2 = 1
  · rw [if_pos (decide_eq_true h), h]; rfl
  · rw [if_neg (fun q => h (of_decide_eq_true q))]; omega
def bc (x0 : Int) : Int :=
  let a := (jand (x0 - (jand (jushr x0 1) 1431655765)) 858993459) + (jand (jushr (x0 - (jand (jushr x0 1) 1431655765)) 2) 858993459)
  let b := (jand (a + (jushr a 4)) 252645135) + (jushr (jand (a + (jushr a 4)) 252645135) 8)
  jand (b + (jushr b 16)) 63
def cbn : Nat → Nat → Nat
  | 0, _ => 0
  | f + 1, b => b % 2 + cbn f (b / 2)
def bcOk (b : Nat) : Bool := decide (bc (b : Int) = ((cbn 12 b : Nat) : Int))
theorem bc_all : (List.range 4096).all bcOk = true := by decide +kernel
theorem cbn_sm : ∀ f b, ((cbn f b : Nat) : Int) = sm f (fun k => bi b k) := by
  intro f
  induction f with
  | zero => intro b; rfl
  | succ f ih =>
    intro b
    have h1 : sm (f + 1) (fun k => bi b k) = bi b 0 + sm f (fun k => bi (b / 2) k) := by
      have e : ∀ m, sm (m + 1) (fun k => bi b k) = bi b 0 + sm m (fun k => bi (b / 2) k) := by
        intro m
        induction m with
        | zero => rw [sm_s, sm_0, sm_0]; omega
        | succ m ihm =>
          rw [sm_s, ihm, sm_s]
          have : bi b (m + 1) = bi (b / 2) m := by unfold bi; rw [Nat.testBit_succ]
          omega
      exact e f
    rw [h1, ← ih (b / 2)]
    have : bi b 0 = ((b % 2 : Nat) : Int) := by
      unfold bi; rw [Nat.testBit_zero]
      by_cases h : b % 2 = 1
      · rw [if_pos (decide_eq_true h), h]; rfl
      · rw [if_neg (fun q => h (of_decide_eq_true q))]; omega
    show ((b % 2 + cbn f (b / 2) : Nat) : Int) = _
    omega
theorem s_I_bitCount {x0 : Int} {Q : Int → Prop} {b : Nat} (e : x0 = b) (hb : b < 4096) (hQ : Q (cb b)) : wp_I_bitCount x0 Q := by
  have h := of_decide_eq_true (List.all_eq_true.mp bc_all b (List.mem_range.mpr hb))
  rw [cbn_sm] at h
  unfold wp_I_bitCount
  intro a ha c hc
  have e2 : jand (c + (jushr c 16)) 63 = bc x0 := by rw [hc, ha]; rfl
  rw [e2, e, h]; exact hQ
theorem s_M_bits {x0 : Int} {Q : Int → Prop} {b : Nat} (e : x0 = b) (hb : b < 4096) (hQ : Q (cb b)) : wp_M_bits x0 Q := by
  subst e
  unfold wp_M_bits
  refine lp2 (wp_M_bits_4 Q b) (fun x1 x2 => ∃ k : Nat, k ≤ 12 ∧ x2 = k ∧ x1 = sm k (fun j => bi b j)) (fun _ x2 => (12 - x2).toNat) ?_ _ _ ⟨0, by omega, rfl, rfl⟩
  rintro f x1 x2 ⟨k, hk, rfl, rfl⟩ ih
  show wp_M_bits_4_b _ _ _ _ _
  unfold wp_M_bits_4_b
  refine ⟨jR_n (by omega), fun h => ?_, fun h => ?_⟩
  · have : k = 12 := by omega
    subst this; exact hQ
  · rw [jbit (by omega) (by omega)]
    exact ih _ _ ⟨k + 1, by omega, by omega, by rw [sm_s]⟩ (by omega)
/-! the first of the fewest -/
noncomputable def fw (P : Nat → Prop) : Nat → Nat
  | 0 => 0
  | k + 1 => @ite Nat (k ≠ 0 ∧ (fw P k = 0 ∨ cb k < cb (fw P k)) ∧ P k) (Classical.propDecidable _) k (fw P k)
theorem fw_t {P : Nat → Prop} {k : Nat} (h : k ≠ 0 ∧ (fw P k = 0 ∨ cb k < cb (fw P k)) ∧ P k) : fw P (k + 1) = k := if_pos h
theorem fw_f {P : Nat → Prop} {k : Nat} (h : ¬ (k ≠ 0 ∧ (fw P k = 0 ∨ cb k < cb (fw P k)) ∧ P k)) : fw P (k + 1) = fw P k := if_neg h
theorem fw_le (P : Nat → Prop) (k : Nat) : fw P k ≤ k := by
  induction k with
  | zero => exact Nat.le_refl _
  | succ k ih =>
    by_cases h : k ≠ 0 ∧ (fw P k = 0 ∨ cb k < cb (fw P k)) ∧ P k
    · rw [fw_t h]; omega
    · rw [fw_f h]; omega
theorem fw_1 (P : Nat → Prop) : fw P 1 = 0 := fw_f (fun h => h.1 rfl)
theorem fw_congr {P P2 : Nat → Prop} {K : Nat} (h : ∀ k, k < K → (P k ↔ P2 k)) : fw P K = fw P2 K := by
  induction K with
  | zero => rfl
  | succ k ih =>
    have e := ih (fun j hj => h j (by omega))
    by_cases q : k ≠ 0 ∧ (fw P k = 0 ∨ cb k < cb (fw P k)) ∧ P k
    · rw [fw_t q, fw_t (P := P2)]
      rw [← e]; exact ⟨q.1, q.2.1, (h k (by omega)).mp q.2.2⟩
    · rw [fw_f q, fw_f (P := P2), e]
      rw [← e]; exact fun w => q ⟨w.1, w.2.1, (h k (by omega)).mpr w.2.2⟩
theorem fw_ext {P : Nat → Prop} {K : Nat} : ∀ {M : Nat}, K ≤ M → (∀ k, K ≤ k → k < M → ¬ P k) → fw P M = fw P K := by
  intro M
  induction M with
  | zero => intro h _; rw [show K = 0 by omega]
  | succ m ih =>
    intro h hn
    by_cases e : K = m + 1
    · rw [e]
    · rw [fw_f (fun q => hn m (by omega) (by omega) q.2.2), ih (by omega) (fun k h1 h2 => hn k h1 (by omega))]
theorem fw_none {P : Nat → Prop} {K : Nat} (h : ∀ k, k < K → ¬ P k) : fw P K = 0 := fw_ext (K := 0) (by omega) (fun k _ h2 => h k h2)

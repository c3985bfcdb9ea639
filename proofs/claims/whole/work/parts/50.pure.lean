/-! sums over a range -/
def sm : Nat → (Nat → Int) → Int
  | 0, _ => 0
  | n + 1, f => sm n f + f n
theorem sm_0 (f : Nat → Int) : sm 0 f = 0 := rfl
theorem sm_s (n : Nat) (f : Nat → Int) : sm (n + 1) f = sm n f + f n := rfl
theorem sm_congr {n : Nat} {f g : Nat → Int} (h : ∀ i, i < n → f i = g i) : sm n f = sm n g := by
  induction n with
  | zero => rfl
  | succ n ih => rw [sm_s, sm_s, ih (fun i hi => h i (by omega)), h n (by omega)]
theorem sm_add (n : Nat) (f g : Nat → Int) : sm n (fun i => f i + g i) = sm n f + sm n g := by
  induction n with
  | zero => rfl
  | succ n ih => rw [sm_s, sm_s, sm_s, ih]; omega
theorem sm_sub (n : Nat) (f g : Nat → Int) : sm n (fun i => f i - g i) = sm n f - sm n g := by
  induction n with
  | zero => rfl
  | succ n ih => rw [sm_s, sm_s, sm_s, ih]; omega
theorem sm_mul (n : Nat) (k : Int) (f : Nat → Int) : sm n (fun i => k * f i) = k * sm n f := by
  induction n with
  | zero => rw [sm_0, sm_0, Int.mul_zero]
  | succ n ih => rw [sm_s, sm_s, ih, Int.mul_add]
theorem sm_le {n : Nat} {f g : Nat → Int} (h : ∀ i, i < n → f i ≤ g i) : sm n f ≤ sm n g := by
  induction n with
  | zero => exact Int.le_refl _
  | succ n ih =>
    have h1 := ih (fun i hi => h i (by omega))
    have h2 := h n (by omega)
    rw [sm_s, sm_s]; omega
theorem sm_zero {n : Nat} {f : Nat → Int} (h : ∀ i, i < n → f i = 0) : sm n f = 0 := by
  induction n with
  | zero => rfl
  | succ n ih => rw [sm_s, ih (fun i hi => h i (by omega)), h n (by omega)]; rfl
theorem sm_nonneg {n : Nat} {f : Nat → Int} (h : ∀ i, i < n → 0 ≤ f i) : 0 ≤ sm n f := by
  have h1 := sm_le (n := n) (f := fun _ => 0) (g := f) h
  rw [sm_zero (fun _ _ => rfl)] at h1
  exact h1
theorem sm_const (n : Nat) (c : Int) : sm n (fun _ => c) = n * c := by
  induction n with
  | zero => rw [sm_0]; simp
  | succ n ih => rw [sm_s, ih, Int.natCast_succ, Int.add_mul, Int.one_mul]
theorem sm_each {n : Nat} {f : Nat → Int} (h : ∀ i, i < n → 0 ≤ f i) (hs : sm n f ≤ 0) : ∀ i, i < n → f i = 0 := by
  induction n with
  | zero => intro i hi; omega
  | succ n ih =>
    intro i hi
    rw [sm_s] at hs
    have h1 := sm_nonneg (n := n) (f := f) (fun i hi => h i (by omega))
    have h2 := h n (by omega)
    by_cases hin : i = n
    · subst hin; omega
    · exact ih (fun i hi => h i (by omega)) (by omega) i (by omega)
theorem sm_member {n : Nat} {f : Nat → Int} (h : ∀ i, i < n → 0 ≤ f i) {k : Nat} (hk : k < n) : f k ≤ sm n f := by
  induction n with
  | zero => omega
  | succ n ih =>
    rw [sm_s]
    have h1 := sm_nonneg (n := n) (f := f) (fun i hi => h i (by omega))
    have h2 := h n (by omega)
    by_cases hin : k = n
    · subst hin; omega
    · have := ih (fun i hi => h i (by omega)) (by omega); omega
theorem sm_swap (a b : Nat) (f : Nat → Nat → Int) : sm a (fun i => sm b (fun j => f i j)) = sm b (fun j => sm a (fun i => f i j)) := by
  induction a with
  | zero => rw [sm_0, sm_zero (f := fun j => sm 0 (fun i => f i j)) (fun _ _ => rfl)]
  | succ a ih => rw [sm_s, ih, ← sm_add]; rfl
theorem sm_up_ge {n k : Nat} (f : Nat → Int) (v : Int) (hk : n ≤ k) : sm n (up f k v) = sm n f := by
  refine sm_congr (fun i hi => ?_)
  unfold up
  rw [if_neg (by omega)]
theorem sm_up {n k : Nat} (f : Nat → Int) (v : Int) (hk : k < n) : sm n (up f k v) = sm n f - f k + v := by
  induction n with
  | zero => omega
  | succ n ih =>
    rw [sm_s, sm_s]
    by_cases h : k = n
    · subst h
      rw [sm_up_ge f v (Nat.le_refl _)]
      unfold up
      rw [if_pos rfl]; omega
    · rw [ih (by omega)]
      unfold up
      rw [if_neg (by omega)]; omega
theorem sm_pick {n k : Nat} (x : Nat → Int) (hk : k < n) : sm n (fun i => if i = k then x i else 0) = x k := by
  induction n with
  | zero => omega
  | succ n ih =>
    rw [sm_s]
    by_cases h : n = k
    · subst h
      rw [if_pos rfl, sm_zero (fun i hi => if_neg (by omega))]; omega
    · rw [if_neg h, ih (by omega)]; omega
theorem sm_none {n k : Nat} (x : Nat → Int) (hk : n ≤ k) : sm n (fun i => if i = k then x i else 0) = 0 := sm_zero (fun i hi => if_neg (by omega))
theorem sm_three (T : Nat) (f : Nat → Int) : sm (3 * T) f = sm T (fun k => f (3 * k) + f (3 * k + 1) + f (3 * k + 2)) := by
  induction T with
  | zero => rfl
  | succ T ih =>
    rw [show 3 * (T + 1) = 3 * T + 1 + 1 + 1 by omega, sm_s, sm_s, sm_s, ih, sm_s]; omega
/-! changed rows -/
theorem up_s (f : Nat → Int) (k : Nat) (v : Int) : up f k v k = v := if_pos rfl
theorem up_n (f : Nat → Int) {k j : Nat} (v : Int) (h : j ≠ k) : up f k v j = f j := if_neg h
theorem up_at (f : Nat → Int) (k j : Nat) (v : Int) : up f k v j = if j = k then v else f j := rfl
/-! ranges -/
theorem jR_i {x : Int} (h1 : -2147483648 ≤ x) (h2 : x < 2147483648) : jR x := ⟨h1, h2⟩
theorem jR_n {k : Nat} (h : k < 2147483648) : jR (k : Int) := ⟨by omega, by omega⟩
theorem J_nat (k : Nat) : J (k : Int) = nI k := by show Int32.ofInt (k : Int) = Int32.ofNat k; simp [Int32.ofInt, Int32.ofNat]
/-! the operations on numbers that are not below 0 -/
theorem jdiv_n {a b : Int} (ha : 0 ≤ a) (ha2 : a < 2147483648) (hb : 0 < b) (hb2 : b < 2147483648) : jdiv a b = a / b := by
  have e1 : a = ((a.toNat : Nat) : Int) := by omega
  have e2 : b = ((b.toNat : Nat) : Int) := by omega
  unfold jdiv
  have h1 : J a = nI a.toNat := (congrArg J e1).trans (J_nat _)
  have h2 : J b = nI b.toNat := (congrArg J e2).trans (J_nat _)
  have h3 : a.toNat / b.toNat ≤ a.toNat := Nat.div_le_self _ _
  rw [h1, h2, pk_div (by omega) (by omega) (by omega), nI_toInt (by omega)]
  conv => rhs; rw [e1, e2]
  exact Int.natCast_ediv _ _
theorem jrem_n {a b : Int} (ha : 0 ≤ a) (ha2 : a < 2147483648) (hb : 0 < b) (hb2 : b < 2147483648) : jrem a b = a % b := by
  have e1 : a = ((a.toNat : Nat) : Int) := by omega
  have e2 : b = ((b.toNat : Nat) : Int) := by omega
  unfold jrem
  have h1 : J a = nI a.toNat := (congrArg J e1).trans (J_nat _)
  have h2 : J b = nI b.toNat := (congrArg J e2).trans (J_nat _)
  have h3 : a.toNat % b.toNat < b.toNat := Nat.mod_lt _ (by omega)
  rw [h1, h2, pk_rem (by omega) (by omega) (by omega), nI_toInt (by omega)]
  conv => rhs; rw [e1, e2]
  exact Int.natCast_emod _ _
theorem jmax_n {a b : Int} (ha : jR a) (hb : jR b) : jmax a b = if a < b then b else a := by
  unfold jmax
  by_cases h : a < b
  · rw [if_pos ((J_lt ha hb).mpr h), if_pos h]
  · rw [if_neg (fun q => h ((J_lt ha hb).mp q)), if_neg h]
theorem jmin_n {a b : Int} (ha : jR a) (hb : jR b) : jmin a b = if b < a then b else a := by
  unfold jmin
  by_cases h : b < a
  · rw [if_pos ((J_lt hb ha).mpr h), if_pos h]
  · rw [if_neg (fun q => h ((J_lt hb ha).mp q)), if_neg h]
theorem J_bv {k : Nat} (h : k < 2147483648) : (J (k : Int)).toBitVec.toNat = k := by rw [J_nat]; exact pk_tn (by omega)
theorem of_bv {x : Int32} {k : Nat} (h : x.toBitVec.toNat = k) (hk : k < 2147483648) : x.toInt = (k : Int) := by
  have e : x = nI k := by
    apply Int32.toBitVec_inj.mp
    apply BitVec.eq_of_toNat_eq
    rw [h, pk_tn (by omega)]
  rw [e, nI_toInt (by omega)]
theorem jand_n {a b : Nat} (ha : a < 2147483648) (hb : b < 2147483648) : jand a b = ((a &&& b : Nat) : Int) := by
  unfold jand
  refine of_bv ?_ (Nat.lt_of_le_of_lt Nat.and_le_left ha)
  rw [Int32.toBitVec_and, BitVec.toNat_and, J_bv ha, J_bv hb]
theorem jor_n {a b : Nat} (ha : a < 2147483648) (hb : b < 2147483648) : jor a b = ((a ||| b : Nat) : Int) := by
  unfold jor
  refine of_bv ?_ (Nat.or_lt_two_pow (n := 31) ha hb)
  rw [Int32.toBitVec_or, BitVec.toNat_or, J_bv ha, J_bv hb]
theorem jshl_1 {k : Nat} (hk : k ≤ 12) : jshl 1 k = ((2 ^ k : Nat) : Int) := by
  have h : ∀ k : Nat, k < 13 → jshl 1 k = ((2 ^ k : Nat) : Int) := by decide +kernel
  exact h k (by omega)

/-- a row whose first n places are v -/
def fillf (f : Nat → Int) (n : Nat) (v : Int) : Nat → Int := fun i => if i < n then v else f i
theorem fillf_0 (f : Nat → Int) (v : Int) : fillf f 0 v = f := by
  funext i
  unfold fillf
  rw [if_neg (Nat.not_lt_zero i)]
theorem fillf_up (f : Nat → Int) (n : Nat) (v : Int) : up (fillf f n v) n v = fillf f (n + 1) v := by
  funext i
  unfold up fillf
  by_cases h : i = n
  · rw [if_pos h, if_pos (by omega)]
  · rw [if_neg h]
    by_cases h2 : i < n
    · rw [if_pos h2, if_pos (by omega)]
    · rw [if_neg h2, if_neg (by omega)]
theorem set_at {ws : va_W} {q0 : Nat} {x y : Nat × va_E} (h : ws[q0]? = some x) : (ws.set q0 y)[q0]? = some y := by
  have hl : q0 < ws.length := (List.getElem?_eq_some_iff.mp h).1
  rw [List.getElem?_set_self hl]
abbrev rm_fill : Room := { frames := 0, cells := 0, slots := 0, locals := 0 }
theorem w_fill {p : Program} {l : Launch} {e : Env} {s : State} {m : MethodId} {args : Array Value} {below : List Frame} {meth : Method} {c : Code} {D : va_G} {cA : ClassId} {A : Nat → Prop} {ws : va_W} {q0 b n : Nat} {f : Nat → Int} {v : Int} (C : XC p s m args meth c cJ7_fill_53178 4 RJ7 none D cA A) (hb : ws[q0]? = some (b, .inl (cA, n, .inl (jf f)))) (hn : n < 2147483648) :
    ∀ (k i : Nat), i + k = n → ∀ (H : Heap) (locs : List Loc) (ls : Array Slot), XH D A s (ws.set q0 (b, .inl (cA, n, .inl (jf (fillf f i v))))) H locs → lv_has ls 4 [(0, .ref b), (1, .int (J v)), (2, .int (J (i : Int))), (3, .int (J (n : Int)))] → W p l e rm_fill s m args below meth c H locs 0 0 (MQ below (va_Qv (fun w => w = ws.set q0 (b, .inl (cA, n, .inl (jf (fillf f n v))))) (xB D cA A) A) args s 0 0 A) (F0 m 5 ls []) := by
  intro k
  induction k with
  | zero =>
    intro i hi H locs ls hH hl
    have hi : i = n := by omega
    subst hi
    refine j_iload_n C dJ7_fill_53178_5 (lv_at hl 2 rfl) ?_
    refine j_iload_n C dJ7_fill_53178_6 (lv_at hl 3 rfl) ?_
    refine j_icmp_ge C 20 ⟨by omega, by omega⟩ ⟨by omega, by omega⟩ dJ7_fill_53178_7 (by decide) (fun c1 => ?_) (fun c1 => absurd (Int.le_refl _) c1)
    exact j_vret C hH rfl dJ7_fill_53178_20
  | succ k ih =>
    intro i hi H locs ls hH hl
    refine j_iload_n C dJ7_fill_53178_5 (lv_at hl 2 rfl) ?_
    refine j_iload_n C dJ7_fill_53178_6 (lv_at hl 3 rfl) ?_
    refine j_icmp_ge C 20 ⟨by omega, by omega⟩ ⟨by omega, by omega⟩ dJ7_fill_53178_7 (by decide) (fun c1 => absurd c1 (by omega)) (fun c1 => ?_)
    refine j_aload_n C dJ7_fill_53178_10 (lv_at hl 0 rfl) ?_
    refine j_iload_n C dJ7_fill_53178_11 (lv_at hl 2 rfl) ?_
    refine j_iload_n C dJ7_fill_53178_12 (lv_at hl 1 rfl) ?_
    refine j_iast C hH q0 (set_at hb) hn ⟨by omega, by omega⟩ dJ7_fill_53178_13 (fun H locs hH => ?_)
    rw [List.set_set, Int.toNat_natCast, fillf_up] at hH
    refine j_iinc (k := 2) (v := ((i + 1 : Nat) : Int)) (lv' := [(2, .int (J ((i + 1 : Nat) : Int))), (0, .ref b), (1, .int (J v)), (3, .int (J (n : Int)))]) C dJ7_fill_53178_14 hl rfl (by omega) (by decide) rfl (fun ls hl => ?_)
    refine j_goto C 5 dJ7_fill_53178_17 (by decide) ?_
    exact ih (i + 1) (by omega) _ _ _ hH (lv_sub hl [1, 2, 0, 3] rfl)
theorem c_I_fill (q0 : Nat) {l : Launch} {D : va_G} {cA : ClassId} {sz : Nat} {ws : va_W} {b n : Nat} {f : Nat → Int} {v : Int} (hb : ws[q0]? = some (b, .inl (cA, n, .inl (jf f)))) (hn : n < 2147483648) : Met l yJ7_fill_53178 (.code yJ7_fill_53178 cJ7_fill_53178 4 none :: lw_ok) rm_fill (xPre D cA sz [.ref b, .int (J v)] ws) (va_Qv (fun w => w = ws.set q0 (b, .inl (cA, n, .inl (jf (fillf f n v))))) (xB D cA (va_A ws sz)) (va_A ws sz)) 0 0 (va_A ws sz) := by
  refine xmet_v (by decide) (Nat.le_of_ble_eq_true rfl) ?_
  intro p e s m args below meth c A ls C hH hl
  have C : XC p s m args meth c cJ7_fill_53178 4 RJ7 none D cA A := C
  have hl : lv_has ls 4 [(0, .ref b), (1, .int (J v))] := hl
  refine j_iconst C dJ7_fill_53178_0 ?_
  refine j_istore_n (lv' := [(2, .int (J 0)), (0, .ref b), (1, .int (J v))]) C dJ7_fill_53178_1 hl (by decide) rfl (fun ls hl => ?_)
  refine j_aload_n C dJ7_fill_53178_2 (lv_at hl 1 rfl) ?_
  refine j_alen C hH q0 hb dJ7_fill_53178_3 ?_
  refine j_istore_n (lv' := [(3, .int (J (n : Int))), (2, .int (J 0)), (0, .ref b), (1, .int (J v))]) C dJ7_fill_53178_4 hl (by decide) rfl (fun ls hl => ?_)
  have hH2 : XH D A s (ws.set q0 (b, .inl (cA, n, .inl (jf (fillf f 0 v))))) s.heap [] := by
    have e : ws.set q0 (b, .inl (cA, n, .inl (jf (fillf f 0 v)))) = ws := by
      rw [fillf_0]
      apply List.ext_getElem?
      intro j
      by_cases hj : q0 = j
      · subst hj; rw [set_at hb, hb]
      · rw [List.getElem?_set_ne hj]
    rw [e]; exact hH
  exact w_fill C hb hn n 0 (by omega) _ _ _ hH2 (lv_sub hl [2, 3, 1, 0] rfl)
abbrev rm_A_dropOldest : Room := { frames := 1, cells := 0, slots := 0, locals := 18 }
theorem c_A_dropOldest (q0 : Nat) {l : Launch} {D : va_G} {cA : ClassId} {sz : Nat} {ws : va_W} {b : Nat} {f : Nat → Int} (hb : ws[q0]? = some (b, .inl (cA, 120, .inl (jf f)))) (_hn : 120 < 2147483648) : Met l yX0_dropOldest (.code yX0_dropOldest cX0_dropOldest 1 none :: lw_ok) rm_A_dropOldest (xPre D cA sz [.ref b] ws) (va_Qv (fun w => w = ws.set q0 (b, .inl (cA, 120, .inl (jf (cpy f f 2 0 118))))) (xB D cA (va_A ws sz)) (va_A ws sz)) 0 0 (va_A ws sz) := by
  refine xmet_v (by decide) (Nat.le_of_ble_eq_true rfl) ?_
  intro p e s m args below meth c A ls C hH hl
  have C : XC p s m args meth c cX0_dropOldest 1 RX0 none D cA A := C
  have hl : lv_has ls 1 [(0, .ref b)] := hl
  refine j_aload_n C dX0_dropOldest_0 (lv_at hl 0 rfl) ?_
  refine j_iconst C dX0_dropOldest_1 ?_
  refine j_aload_n C dX0_dropOldest_2 (lv_at hl 0 rfl) ?_
  refine j_iconst C dX0_dropOldest_3 ?_
  refine j_aload_n C dX0_dropOldest_4 (lv_at hl 0 rfl) ?_
  refine j_alen C hH q0 hb dX0_dropOldest_5 ?_
  refine j_iconst C dX0_dropOldest_6 ?_
  refine j_isub C dX0_dropOldest_7 ?_
  obtain ⟨hx, hb0, hml, hown, hts⟩ := id C.1
  refine va_copyi (sp := J 2) (dp := J 0) (n := J (((120 : Nat) : Int) - 2)) (ty := .int) hx hb0 (hml.trans hl.1.symm) hown (hts _ wl_X0_49) (hts _ wn_arraycopy) (hts _ wt_J10_arraycopy) (hts _ wi_J10) C.2.2.2.1 hH.1 hH.2.1 hH.2.2 q0 q0 0 0 hb hb rfl rfl rfl (by decide +kernel) (by decide +kernel) (by decide +kernel) (by decide +kernel) (by decide +kernel) (fun i _ => rfl) (Nat.le_of_ble_eq_true rfl) (Nat.le_of_ble_eq_true rfl) dX0_dropOldest_8 (fun H locs hP hD hS => ?_)
  rw [jf_cpy, show (J 2).toNatClampNeg = 2 by decide +kernel, show (J 0).toNatClampNeg = 0 by decide +kernel, show (J (((120 : Nat) : Int) - 2)).toNatClampNeg = 118 by decide +kernel] at hP hD
  exact j_vret C (ws := ws.set q0 (b, .inl (cA, 120, .inl (jf (cpy f f 2 0 118))))) ⟨hP, hD, hS⟩ rfl dX0_dropOldest_11
theorem jout_5 {x : Int} (h0 : ¬ x = 0) (h1 : ¬ x = 1) (h2 : ¬ x = 2) (h3 : ¬ x = 3) (h4 : ¬ x = 4) (h5 : ¬ x = 5) : x < 0 ∨ 5 < x := by omega
theorem jout_8 {x : Int} (h0 : ¬ x = 0) (h1 : ¬ x = 1) (h2 : ¬ x = 2) (h3 : ¬ x = 3) (h4 : ¬ x = 4) (h5 : ¬ x = 5) (h6 : ¬ x = 6) (h7 : ¬ x = 7) (h8 : ¬ x = 8) : x < 0 ∨ 8 < x := by omega
theorem jout_18 {x : Int} (h0 : ¬ x = 0) (h1 : ¬ x = 1) (h2 : ¬ x = 2) (h3 : ¬ x = 3) (h4 : ¬ x = 4) (h5 : ¬ x = 5) (h6 : ¬ x = 6) (h7 : ¬ x = 7) (h8 : ¬ x = 8) (h9 : ¬ x = 9) (h10 : ¬ x = 10) (h11 : ¬ x = 11) (h12 : ¬ x = 12) (h13 : ¬ x = 13) (h14 : ¬ x = 14) (h15 : ¬ x = 15) (h16 : ¬ x = 16) (h17 : ¬ x = 17) (h18 : ¬ x = 18) : x < 0 ∨ 18 < x := by omega

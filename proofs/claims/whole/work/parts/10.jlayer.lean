/-! numbers: whole numbers for ints -/
def J (x : Int) : Int32 := Int32.ofInt x
def jR (x : Int) : Prop := -2147483648 ≤ x ∧ x < 2147483648
theorem J_toInt {x : Int} (h : jR x) : (J x).toInt = x := Int32.toInt_ofInt_of_le (by have := h.1; omega) (by have := h.2; omega)
theorem J_of (x : Int32) : J x.toInt = x := Int32.ofInt_toInt x
theorem jR_of (x : Int32) : jR x.toInt := ⟨by have := Int32.le_toInt x; omega, by have := Int32.toInt_lt x; omega⟩
theorem J_add (a b : Int) : J a + J b = J (a + b) := (Int32.ofInt_add a b).symm
theorem J_sub (a b : Int) : J a - J b = J (a - b) := (Int32.ofInt_sub a b).symm
theorem J_mul (a b : Int) : J a * J b = J (a * b) := (Int32.ofInt_mul a b).symm
theorem J_neg (a : Int) : - J a = J (-a) := (Int32.ofInt_neg a).symm
theorem J_lt {a b : Int} (ha : jR a) (hb : jR b) : J a < J b ↔ a < b := by rw [Int32.lt_iff_toInt_lt, J_toInt ha, J_toInt hb]
theorem J_le {a b : Int} (ha : jR a) (hb : jR b) : J a ≤ J b ↔ a ≤ b := by rw [Int32.le_iff_toInt_le, J_toInt ha, J_toInt hb]
theorem J_eq {a b : Int} (ha : jR a) (hb : jR b) : J a = J b ↔ a = b := by rw [← Int32.toInt_inj, J_toInt ha, J_toInt hb]
theorem jR_0 : jR 0 := by unfold jR; omega
theorem J_0 : J 0 = 0 := by decide +kernel
theorem J_lt0 {a : Int} (ha : jR a) : J a < 0 ↔ a < 0 := by rw [← J_0]; exact J_lt ha jR_0
theorem J_le0 {a : Int} (ha : jR a) : J a ≤ 0 ↔ a ≤ 0 := by rw [← J_0]; exact J_le ha jR_0
theorem J_0lt {a : Int} (ha : jR a) : 0 < J a ↔ 0 < a := by rw [← J_0]; exact J_lt jR_0 ha
theorem J_0le {a : Int} (ha : jR a) : 0 ≤ J a ↔ 0 ≤ a := by rw [← J_0]; exact J_le jR_0 ha
theorem J_eq0 {a : Int} (ha : jR a) : J a = 0 ↔ a = 0 := by
  have h := J_eq ha jR_0
  rw [J_0] at h
  exact h
def jand (a b : Int) : Int := (J a &&& J b).toInt
def jor (a b : Int) : Int := (J a ||| J b).toInt
def jxor (a b : Int) : Int := (J a ^^^ J b).toInt
def jshl (a b : Int) : Int := (J a <<< (J b &&& 31)).toInt
def jshr (a b : Int) : Int := (J a >>> (J b &&& 31)).toInt
def jushr (a b : Int) : Int := ((J a).toUInt32 >>> ((J b).toUInt32 &&& Int32.toUInt32 31)).toInt32.toInt
def jdiv (a b : Int) : Int := (J a / J b).toInt
def jrem (a b : Int) : Int := (J a - J a / J b * J b).toInt
def jmax (a b : Int) : Int := if J a < J b then b else a
def jmin (a b : Int) : Int := if J b < J a then b else a
/-- a row of whole numbers, as ints -/
def jf (f : Nat → Int) : Nat → Int32 := fun i => J (f i)
def up (f : Nat → Int) (k : Nat) (x : Int) : Nat → Int := fun j => if j = k then x else f j
theorem jf_up (f : Nat → Int) (k : Nat) (x : Int) : upd (jf f) k (J x) = jf (up f k x) := by
  funext j
  show (if j = k then J x else J (f j)) = J (if j = k then x else f j)
  by_cases h : j = k
  · rw [if_pos h, if_pos h]
  · rw [if_neg h, if_neg h]
def cpy (f g : Nat → Int) (sp dp n : Nat) : Nat → Int := fun k => if dp ≤ k ∧ k < dp + n then f (sp + (k - dp)) else g k
theorem jf_cpy (f g : Nat → Int) (sp dp n : Nat) : va_cpy (jf f) (jf g) sp dp n = jf (cpy f g sp dp n) := by
  funext j
  show (if dp ≤ j ∧ j < dp + n then J (f (sp + (j - dp))) else J (g j)) = J (if dp ≤ j ∧ j < dp + n then f (sp + (j - dp)) else g j)
  by_cases h : dp ≤ j ∧ j < dp + n
  · rw [if_pos h, if_pos h]
  · rw [if_neg h, if_neg h]
theorem jin {i : Int} {n : Nat} (h : 0 ≤ i ∧ i < n) (hn : n < 2147483648) : vp_in (J i) n ∧ (J i).toNatClampNeg = i.toNat := by
  have hR : jR i := ⟨by omega, by omega⟩
  have h2 : (J i).toNatClampNeg = i.toNat := by
    show (J i).toInt.toNat = i.toNat
    rw [J_toInt hR]
  refine ⟨?_, h2⟩
  rw [vp_in_iff, J_toInt hR]
  exact h
/-! worlds: what a method of a class stands on, and what the heap holds -/
def XC (p : Program) (s : State) (m : MethodId) (args : Array Value) (meth : Method) (c : Code) (cc : ByteArray) (nL : Nat) (own : String) (ret : Option FieldType) (D : va_G) (cA : ClassId) (A : Nat → Prop) : Prop :=
  CallFix p m c cc nL s args lw_ok own ∧ meth.sig.returnType = ret ∧ meth.locks = false ∧ va_K D vwCl [(cA, .int)] s ∧ ∀ q : Nat, s.heap.size ≤ q → A q
def XH (D : va_G) (A : Nat → Prop) (s : State) (ws : va_W) (H : Heap) (locs : List Loc) : Prop := va_P D vwCl ws H ∧ va_D A ws ∧ va_S A s.heap H locs
def xPre (D : va_G) (cA : ClassId) (sz : Nat) (av : List Value) (ws : va_W) : Array Value → State → Prop := va_Pc av (fun U => U.heap.size = sz ∧ va_P D vwCl ws U.heap ∧ va_K D vwCl [(cA, .int)] U ∧ va_D (fun _ => True) ws)
def xB (D : va_G) (cA : ClassId) (A : Nat → Prop) (w : va_W) (t : State) : Prop := va_P D vwCl w t.heap ∧ va_K D vwCl [(cA, .int)] t ∧ va_D A w
theorem xPre_blind {D : va_G} {cA : ClassId} {sz : Nat} {av : List Value} {ws : va_W} : FrameBlind (xPre D cA sz av ws) := fun a U g mk q => by
  obtain ⟨q0, q1, qP, qK, qD⟩ := q
  exact ⟨q0, q1, qP, va_K.moved (u := U) (U := U.calling g mk a) (Vm.Alike.refl U.vm) qK, qD⟩
theorem xPre_at {D : va_G} {cA : ClassId} {av : List Value} {ws : va_W} {s : State} {A : Nat → Prop} {H : Heap} {locs : List Loc} (hK : va_K D vwCl [(cA, .int)] s) (h : XH D A s ws H locs) : ∀ U : State, U.heap = H → s.WarmedH U.vm → xPre D cA H.size av ws av.toArray U := fun U hU hW => ⟨rfl, by rw [hU], by rw [hU]; exact h.1, va_K.moved hW.alike hK, h.2.1.weaken (fun _ _ _ _ => trivial)⟩
theorem xA_in {D : va_G} {A : Nat → Prop} {s : State} {ws : va_W} {H : Heap} {locs : List Loc} (hA : ∀ q : Nat, s.heap.size ≤ q → A q) (h : XH D A s ws H locs) : ∀ q, va_A ws H.size q → A q := fun q hq => by
  rcases hq with ⟨k, e, hk⟩ | hq
  · exact h.2.1.2 k (q, e) hk
  · exact hA q (Nat.le_trans h.2.2.1 hq)
section JR
variable {p : Program} {l : Launch} {e : Env} {R : Room} {s : State} {m : MethodId} {args : Array Value} {below : List Frame} {meth : Method} {c : Code} {H : Heap} {locs : List Loc} {Q : State → Prop}
variable {cc : ByteArray} {pc nL : Nat} {ls : Array Slot} {rest : List Value} {D : va_G} {cA : ClassId} {A : Nat → Prop} {own : String} {ret : Option FieldType} {ws : va_W}
theorem j_top {x : Int} (k : ∀ y : Int, y = x → W p l e R s m args below meth c H locs 0 0 Q (F0 m pc ls (.int (J y) :: rest))) : W p l e R s m args below meth c H locs 0 0 Q (F0 m pc ls (.int (J x) :: rest)) := k x rfl
theorem j_iconst (C : XC p s m args meth c cc nL own ret D cA A) {n : Int} (hdg : decode cc pc = .ok (.iconst n, 1)) (k : W p l e R s m args below meth c H locs 0 0 Q (F0 m (pc + 1) ls (.int (J n) :: rest))) : W p l e R s m args below meth c H locs 0 0 Q (F0 m pc ls rest) := lv_iconst C.1.1 C.1.2.1 hdg rfl k
theorem j_bipush (C : XC p s m args meth c cc nL own ret D cA A) {n : Int} (hn : (Int8.ofInt n).toInt32 = J n) (hdg : decode cc pc = .ok (.bipush n, 2)) (k : W p l e R s m args below meth c H locs 0 0 Q (F0 m (pc + 2) ls (.int (J n) :: rest))) : W p l e R s m args below meth c H locs 0 0 Q (F0 m pc ls rest) := lv_bipush C.1.1 C.1.2.1 hdg hn k
theorem j_sipush (C : XC p s m args meth c cc nL own ret D cA A) {n : Int} (hn : (Int16.ofInt n).toInt32 = J n) (hdg : decode cc pc = .ok (.sipush n, 3)) (k : W p l e R s m args below meth c H locs 0 0 Q (F0 m (pc + 3) ls (.int (J n) :: rest))) : W p l e R s m args below meth c H locs 0 0 Q (F0 m pc ls rest) := lv_sipush C.1.1 C.1.2.1 hdg hn k
theorem j_ldc (C : XC p s m args meth c cc nL own ret D cA A) {n : Int} {v : Int32} {index : Nat} (hc : Cond.constant own index v ∈ lw_ok) (hn : v = J n) (hdg : decode cc pc = .ok (.ldc index, 2)) (k : W p l e R s m args below meth c H locs 0 0 Q (F0 m (pc + 2) ls (.int (J n) :: rest))) : W p l e R s m args below meth c H locs 0 0 Q (F0 m pc ls rest) := lv_ldc C.1.1 C.1.2.1 C.1.2.2.2.1 (C.1.2.2.2.2 _ hc) hdg (by rw [hn]; exact k)
theorem j_ldcw (C : XC p s m args meth c cc nL own ret D cA A) {n : Int} {v : Int32} {index : Nat} (hc : Cond.constant own index v ∈ lw_ok) (hn : v = J n) (hdg : decode cc pc = .ok (.ldc_w index, 3)) (k : W p l e R s m args below meth c H locs 0 0 Q (F0 m (pc + 3) ls (.int (J n) :: rest))) : W p l e R s m args below meth c H locs 0 0 Q (F0 m pc ls rest) := lv_ldcw C.1.1 C.1.2.1 C.1.2.2.2.1 (C.1.2.2.2.2 _ hc) hdg (by rw [hn]; exact k)
theorem j_iload_n (C : XC p s m args meth c cc nL own ret D cA A) {k : Fin 4} {x : Int} (hdg : decode cc pc = .ok (.iload_n k, 1)) (hl : ls[(k : Nat)]? = some (.val (.int (J x)))) (kk : W p l e R s m args below meth c H locs 0 0 Q (F0 m (pc + 1) ls (.int (J x) :: rest))) : W p l e R s m args below meth c H locs 0 0 Q (F0 m pc ls rest) := lv_iload_n C.1.1 C.1.2.1 hdg rfl hl kk
theorem j_iload (C : XC p s m args meth c cc nL own ret D cA A) {k : Nat} {x : Int} (hdg : decode cc pc = .ok (.iload k, 2)) (hl : ls[k]? = some (.val (.int (J x)))) (kk : W p l e R s m args below meth c H locs 0 0 Q (F0 m (pc + 2) ls (.int (J x) :: rest))) : W p l e R s m args below meth c H locs 0 0 Q (F0 m pc ls rest) := lv_iload C.1.1 C.1.2.1 hdg hl kk
theorem j_aload_n (C : XC p s m args meth c cc nL own ret D cA A) {k : Fin 4} {x : Nat} (hdg : decode cc pc = .ok (.aload_n k, 1)) (hl : ls[(k : Nat)]? = some (.val (.ref x))) (kk : W p l e R s m args below meth c H locs 0 0 Q (F0 m (pc + 1) ls (.ref x :: rest))) : W p l e R s m args below meth c H locs 0 0 Q (F0 m pc ls rest) := lv_aload_n C.1.1 C.1.2.1 hdg rfl hl kk
theorem j_istore_n (C : XC p s m args meth c cc nL own ret D cA A) {k : Fin 4} {x : Int} {lv lv' : List (Nat × Value)} (hdg : decode cc pc = .ok (.istore_n k, 1)) (h : lv_has ls nL lv) (hn : (k : Nat) < nL) (hl : ((k : Nat), Value.int (J x)) :: lv.filter (fun q => !(q.1 == (k : Nat)) && !(q.1 + 1 == (k : Nat) && q.2.category == 2)) = lv') (kk : ∀ ls' : Array Slot, lv_has ls' nL lv' → W p l e R s m args below meth c H locs 0 0 Q (F0 m (pc + 1) ls' rest)) : W p l e R s m args below meth c H locs 0 0 Q (F0 m pc ls (.int (J x) :: rest)) := lv_istore_n C.1.1 C.1.2.1 hdg rfl h hn hl kk
theorem j_istore (C : XC p s m args meth c cc nL own ret D cA A) {k : Nat} {x : Int} {lv lv' : List (Nat × Value)} (hdg : decode cc pc = .ok (.istore k, 2)) (h : lv_has ls nL lv) (hn : k < nL) (hl : (k, Value.int (J x)) :: lv.filter (fun q => !(q.1 == k) && !(q.1 + 1 == k && q.2.category == 2)) = lv') (kk : ∀ ls' : Array Slot, lv_has ls' nL lv' → W p l e R s m args below meth c H locs 0 0 Q (F0 m (pc + 2) ls' rest)) : W p l e R s m args below meth c H locs 0 0 Q (F0 m pc ls (.int (J x) :: rest)) := lv_istore C.1.1 C.1.2.1 hdg h hn hl kk
theorem j_iinc (C : XC p s m args meth c cc nL own ret D cA A) {i k : Nat} {n x v : Int} {lv lv' : List (Nat × Value)} (hdg : decode cc pc = .ok (.iinc i n, 3)) (h : lv_has ls nL lv) (hk : lv[k]? = some (i, .int (J x))) (hv : v = x + n) (hn : i < nL) (hl : (i, Value.int (J v)) :: lv.filter (fun q => !(q.1 == i) && !(q.1 + 1 == i && q.2.category == 2)) = lv') (kk : ∀ ls' : Array Slot, lv_has ls' nL lv' → W p l e R s m args below meth c H locs 0 0 Q (F0 m (pc + 3) ls' rest)) : W p l e R s m args below meth c H locs 0 0 Q (F0 m pc ls rest) := lv_iinc (v := J v) C.1.1 C.1.2.1 hdg h hk (by rw [hv]; exact J_add x n) hn hl kk
theorem j_iadd (C : XC p s m args meth c cc nL own ret D cA A) {a b : Int} (hdg : decode cc pc = .ok (.iadd, 1)) (k : W p l e R s m args below meth c H locs 0 0 Q (F0 m (pc + 1) ls (.int (J (a + b)) :: rest))) : W p l e R s m args below meth c H locs 0 0 Q (F0 m pc ls (.int (J b) :: .int (J a) :: rest)) := lv_iadd C.1.1 C.1.2.1 hdg (by rw [J_add]; exact k)
theorem j_isub (C : XC p s m args meth c cc nL own ret D cA A) {a b : Int} (hdg : decode cc pc = .ok (.isub, 1)) (k : W p l e R s m args below meth c H locs 0 0 Q (F0 m (pc + 1) ls (.int (J (a - b)) :: rest))) : W p l e R s m args below meth c H locs 0 0 Q (F0 m pc ls (.int (J b) :: .int (J a) :: rest)) := lv_isub C.1.1 C.1.2.1 hdg (by rw [J_sub]; exact k)
theorem j_imul (C : XC p s m args meth c cc nL own ret D cA A) {a b : Int} (hdg : decode cc pc = .ok (.imul, 1)) (k : W p l e R s m args below meth c H locs 0 0 Q (F0 m (pc + 1) ls (.int (J (a * b)) :: rest))) : W p l e R s m args below meth c H locs 0 0 Q (F0 m pc ls (.int (J b) :: .int (J a) :: rest)) := lv_imul C.1.1 C.1.2.1 hdg (by rw [J_mul]; exact k)
theorem j_ineg (C : XC p s m args meth c cc nL own ret D cA A) {a : Int} (hdg : decode cc pc = .ok (.ineg, 1)) (k : W p l e R s m args below meth c H locs 0 0 Q (F0 m (pc + 1) ls (.int (J (-a)) :: rest))) : W p l e R s m args below meth c H locs 0 0 Q (F0 m pc ls (.int (J a) :: rest)) := lv_ineg C.1.1 C.1.2.1 hdg (by rw [J_neg]; exact k)
theorem j_iand (C : XC p s m args meth c cc nL own ret D cA A) {a b : Int} (hdg : decode cc pc = .ok (.iand, 1)) (k : W p l e R s m args below meth c H locs 0 0 Q (F0 m (pc + 1) ls (.int (J (jand a b)) :: rest))) : W p l e R s m args below meth c H locs 0 0 Q (F0 m pc ls (.int (J b) :: .int (J a) :: rest)) := lv_iand C.1.1 C.1.2.1 hdg (by rw [jand, J_of] at k; exact k)
theorem j_ior (C : XC p s m args meth c cc nL own ret D cA A) {a b : Int} (hdg : decode cc pc = .ok (.ior, 1)) (k : W p l e R s m args below meth c H locs 0 0 Q (F0 m (pc + 1) ls (.int (J (jor a b)) :: rest))) : W p l e R s m args below meth c H locs 0 0 Q (F0 m pc ls (.int (J b) :: .int (J a) :: rest)) := lv_ior C.1.1 C.1.2.1 hdg (by rw [jor, J_of] at k; exact k)
theorem j_ixor (C : XC p s m args meth c cc nL own ret D cA A) {a b : Int} (hdg : decode cc pc = .ok (.ixor, 1)) (k : W p l e R s m args below meth c H locs 0 0 Q (F0 m (pc + 1) ls (.int (J (jxor a b)) :: rest))) : W p l e R s m args below meth c H locs 0 0 Q (F0 m pc ls (.int (J b) :: .int (J a) :: rest)) := lv_ixor C.1.1 C.1.2.1 hdg (by rw [jxor, J_of] at k; exact k)
theorem j_ishl (C : XC p s m args meth c cc nL own ret D cA A) {a b : Int} (hdg : decode cc pc = .ok (.ishl, 1)) (k : W p l e R s m args below meth c H locs 0 0 Q (F0 m (pc + 1) ls (.int (J (jshl a b)) :: rest))) : W p l e R s m args below meth c H locs 0 0 Q (F0 m pc ls (.int (J b) :: .int (J a) :: rest)) := lv_ishl C.1.1 C.1.2.1 hdg (by rw [jshl, J_of] at k; exact k)
theorem j_ishr (C : XC p s m args meth c cc nL own ret D cA A) {a b : Int} (hdg : decode cc pc = .ok (.ishr, 1)) (k : W p l e R s m args below meth c H locs 0 0 Q (F0 m (pc + 1) ls (.int (J (jshr a b)) :: rest))) : W p l e R s m args below meth c H locs 0 0 Q (F0 m pc ls (.int (J b) :: .int (J a) :: rest)) := lv_ishr C.1.1 C.1.2.1 hdg (by rw [jshr, J_of] at k; exact k)
theorem j_iushr (C : XC p s m args meth c cc nL own ret D cA A) {a b : Int} (hdg : decode cc pc = .ok (.iushr, 1)) (k : W p l e R s m args below meth c H locs 0 0 Q (F0 m (pc + 1) ls (.int (J (jushr a b)) :: rest))) : W p l e R s m args below meth c H locs 0 0 Q (F0 m pc ls (.int (J b) :: .int (J a) :: rest)) := lv_iushr C.1.1 C.1.2.1 hdg rfl (by rw [jushr, J_of] at k; exact k)
theorem j_idiv (C : XC p s m args meth c cc nL own ret D cA A) {a b : Int} (hne : ¬ J b = 0) (hdg : decode cc pc = .ok (.idiv, 1)) (k : W p l e R s m args below meth c H locs 0 0 Q (F0 m (pc + 1) ls (.int (J (jdiv a b)) :: rest))) : W p l e R s m args below meth c H locs 0 0 Q (F0 m pc ls (.int (J b) :: .int (J a) :: rest)) := lv_idiv C.1.1 C.1.2.1 hdg hne (by rw [jdiv, J_of] at k; exact k)
theorem j_irem (C : XC p s m args meth c cc nL own ret D cA A) {a b : Int} (hne : ¬ J b = 0) (hdg : decode cc pc = .ok (.irem, 1)) (k : W p l e R s m args below meth c H locs 0 0 Q (F0 m (pc + 1) ls (.int (J (jrem a b)) :: rest))) : W p l e R s m args below meth c H locs 0 0 Q (F0 m pc ls (.int (J b) :: .int (J a) :: rest)) := lv_irem C.1.1 C.1.2.1 hdg hne (by rw [jrem, J_of] at k; exact k)
theorem j_dup (C : XC p s m args meth c cc nL own ret D cA A) {va : Value} (hva : va.category = 1) (hdg : decode cc pc = .ok (.dup, 1)) (k : W p l e R s m args below meth c H locs 0 0 Q (F0 m (pc + 1) ls (va :: va :: rest))) : W p l e R s m args below meth c H locs 0 0 Q (F0 m pc ls (va :: rest)) := lv_dup C.1.1 C.1.2.1 hdg hva k
theorem j_dup2 (C : XC p s m args meth c cc nL own ret D cA A) {va vb : Value} (hva : va.category = 1) (hvb : vb.category = 1) (hdg : decode cc pc = .ok (.dup2, 1)) (k : W p l e R s m args below meth c H locs 0 0 Q (F0 m (pc + 1) ls (va :: vb :: va :: vb :: rest))) : W p l e R s m args below meth c H locs 0 0 Q (F0 m pc ls (va :: vb :: rest)) := lv_dup2_11 C.1.1 C.1.2.1 hdg hva hvb k
theorem j_goto (C : XC p s m args meth c cc nL own ret D cA A) {off : Int} (tgt : Nat) (hdg : decode cc pc = .ok (.goto off, 3)) (ht : (pc : Int) + off = (tgt : Int)) (k : W p l e R s m args below meth c H locs 0 0 Q (F0 m tgt ls rest)) : W p l e R s m args below meth c H locs 0 0 Q (F0 m pc ls rest) := lv_goto C.1.1 C.1.2.1 hdg ht k
theorem j_if_eq (C : XC p s m args meth c cc nL own ret D cA A) {a : Int} {off : Int} (tgt : Nat) (ha : jR a) (hdg : decode cc pc = .ok (.ifCond .eq off, 3)) (ht : (pc : Int) + off = (tgt : Int)) (kt : a = 0 → W p l e R s m args below meth c H locs 0 0 Q (F0 m tgt ls rest)) (kf : ¬ a = 0 → W p l e R s m args below meth c H locs 0 0 Q (F0 m (pc + 3) ls rest)) : W p l e R s m args below meth c H locs 0 0 Q (F0 m pc ls (.int (J a) :: rest)) := lv_if_eq C.1.1 C.1.2.1 hdg ht (fun h => kt ((J_eq0 ha).mp h)) (fun h => kf (fun q => h ((J_eq0 ha).mpr q)))
theorem j_if_ne (C : XC p s m args meth c cc nL own ret D cA A) {a : Int} {off : Int} (tgt : Nat) (ha : jR a) (hdg : decode cc pc = .ok (.ifCond .ne off, 3)) (ht : (pc : Int) + off = (tgt : Int)) (kt : ¬ a = 0 → W p l e R s m args below meth c H locs 0 0 Q (F0 m tgt ls rest)) (kf : a = 0 → W p l e R s m args below meth c H locs 0 0 Q (F0 m (pc + 3) ls rest)) : W p l e R s m args below meth c H locs 0 0 Q (F0 m pc ls (.int (J a) :: rest)) := lv_if_ne C.1.1 C.1.2.1 hdg ht (fun h => kt (fun q => h ((J_eq0 ha).mpr q))) (fun h => kf ((J_eq0 ha).mp h))
theorem j_if_lt (C : XC p s m args meth c cc nL own ret D cA A) {a : Int} {off : Int} (tgt : Nat) (ha : jR a) (hdg : decode cc pc = .ok (.ifCond .lt off, 3)) (ht : (pc : Int) + off = (tgt : Int)) (kt : a < 0 → W p l e R s m args below meth c H locs 0 0 Q (F0 m tgt ls rest)) (kf : ¬ a < 0 → W p l e R s m args below meth c H locs 0 0 Q (F0 m (pc + 3) ls rest)) : W p l e R s m args below meth c H locs 0 0 Q (F0 m pc ls (.int (J a) :: rest)) := lv_if_lt C.1.1 C.1.2.1 hdg ht (fun h => kt ((J_lt0 ha).mp h)) (fun h => kf (fun q => h ((J_lt0 ha).mpr q)))
theorem j_if_ge (C : XC p s m args meth c cc nL own ret D cA A) {a : Int} {off : Int} (tgt : Nat) (ha : jR a) (hdg : decode cc pc = .ok (.ifCond .ge off, 3)) (ht : (pc : Int) + off = (tgt : Int)) (kt : 0 ≤ a → W p l e R s m args below meth c H locs 0 0 Q (F0 m tgt ls rest)) (kf : ¬ 0 ≤ a → W p l e R s m args below meth c H locs 0 0 Q (F0 m (pc + 3) ls rest)) : W p l e R s m args below meth c H locs 0 0 Q (F0 m pc ls (.int (J a) :: rest)) := lv_if_ge C.1.1 C.1.2.1 hdg ht (fun h => kt ((J_0le ha).mp h)) (fun h => kf (fun q => h ((J_0le ha).mpr q)))
theorem j_if_gt (C : XC p s m args meth c cc nL own ret D cA A) {a : Int} {off : Int} (tgt : Nat) (ha : jR a) (hdg : decode cc pc = .ok (.ifCond .gt off, 3)) (ht : (pc : Int) + off = (tgt : Int)) (kt : 0 < a → W p l e R s m args below meth c H locs 0 0 Q (F0 m tgt ls rest)) (kf : ¬ 0 < a → W p l e R s m args below meth c H locs 0 0 Q (F0 m (pc + 3) ls rest)) : W p l e R s m args below meth c H locs 0 0 Q (F0 m pc ls (.int (J a) :: rest)) := lv_if_gt C.1.1 C.1.2.1 hdg ht (fun h => kt ((J_0lt ha).mp h)) (fun h => kf (fun q => h ((J_0lt ha).mpr q)))
theorem j_if_le (C : XC p s m args meth c cc nL own ret D cA A) {a : Int} {off : Int} (tgt : Nat) (ha : jR a) (hdg : decode cc pc = .ok (.ifCond .le off, 3)) (ht : (pc : Int) + off = (tgt : Int)) (kt : a ≤ 0 → W p l e R s m args below meth c H locs 0 0 Q (F0 m tgt ls rest)) (kf : ¬ a ≤ 0 → W p l e R s m args below meth c H locs 0 0 Q (F0 m (pc + 3) ls rest)) : W p l e R s m args below meth c H locs 0 0 Q (F0 m pc ls (.int (J a) :: rest)) := lv_if_le C.1.1 C.1.2.1 hdg ht (fun h => kt ((J_le0 ha).mp h)) (fun h => kf (fun q => h ((J_le0 ha).mpr q)))
theorem j_icmp_eq (C : XC p s m args meth c cc nL own ret D cA A) {a b : Int} {off : Int} (tgt : Nat) (ha : jR a) (hb : jR b) (hdg : decode cc pc = .ok (.if_icmp .eq off, 3)) (ht : (pc : Int) + off = (tgt : Int)) (kt : a = b → W p l e R s m args below meth c H locs 0 0 Q (F0 m tgt ls rest)) (kf : ¬ a = b → W p l e R s m args below meth c H locs 0 0 Q (F0 m (pc + 3) ls rest)) : W p l e R s m args below meth c H locs 0 0 Q (F0 m pc ls (.int (J b) :: .int (J a) :: rest)) := lv_icmp_eq C.1.1 C.1.2.1 hdg ht (fun h => kt ((J_eq ha hb).mp h)) (fun h => kf (fun q => h ((J_eq ha hb).mpr q)))
theorem j_icmp_ne (C : XC p s m args meth c cc nL own ret D cA A) {a b : Int} {off : Int} (tgt : Nat) (ha : jR a) (hb : jR b) (hdg : decode cc pc = .ok (.if_icmp .ne off, 3)) (ht : (pc : Int) + off = (tgt : Int)) (kt : ¬ a = b → W p l e R s m args below meth c H locs 0 0 Q (F0 m tgt ls rest)) (kf : a = b → W p l e R s m args below meth c H locs 0 0 Q (F0 m (pc + 3) ls rest)) : W p l e R s m args below meth c H locs 0 0 Q (F0 m pc ls (.int (J b) :: .int (J a) :: rest)) := lv_icmp_ne C.1.1 C.1.2.1 hdg ht (fun h => kt (fun q => h ((J_eq ha hb).mpr q))) (fun h => kf ((J_eq ha hb).mp h))
theorem j_icmp_lt (C : XC p s m args meth c cc nL own ret D cA A) {a b : Int} {off : Int} (tgt : Nat) (ha : jR a) (hb : jR b) (hdg : decode cc pc = .ok (.if_icmp .lt off, 3)) (ht : (pc : Int) + off = (tgt : Int)) (kt : a < b → W p l e R s m args below meth c H locs 0 0 Q (F0 m tgt ls rest)) (kf : ¬ a < b → W p l e R s m args below meth c H locs 0 0 Q (F0 m (pc + 3) ls rest)) : W p l e R s m args below meth c H locs 0 0 Q (F0 m pc ls (.int (J b) :: .int (J a) :: rest)) := lv_icmp_lt C.1.1 C.1.2.1 hdg ht (fun h => kt ((J_lt ha hb).mp h)) (fun h => kf (fun q => h ((J_lt ha hb).mpr q)))
theorem j_icmp_ge (C : XC p s m args meth c cc nL own ret D cA A) {a b : Int} {off : Int} (tgt : Nat) (ha : jR a) (hb : jR b) (hdg : decode cc pc = .ok (.if_icmp .ge off, 3)) (ht : (pc : Int) + off = (tgt : Int)) (kt : b ≤ a → W p l e R s m args below meth c H locs 0 0 Q (F0 m tgt ls rest)) (kf : ¬ b ≤ a → W p l e R s m args below meth c H locs 0 0 Q (F0 m (pc + 3) ls rest)) : W p l e R s m args below meth c H locs 0 0 Q (F0 m pc ls (.int (J b) :: .int (J a) :: rest)) := lv_icmp_ge C.1.1 C.1.2.1 hdg ht (fun h => kt ((J_le hb ha).mp h)) (fun h => kf (fun q => h ((J_le hb ha).mpr q)))
theorem j_icmp_gt (C : XC p s m args meth c cc nL own ret D cA A) {a b : Int} {off : Int} (tgt : Nat) (ha : jR a) (hb : jR b) (hdg : decode cc pc = .ok (.if_icmp .gt off, 3)) (ht : (pc : Int) + off = (tgt : Int)) (kt : b < a → W p l e R s m args below meth c H locs 0 0 Q (F0 m tgt ls rest)) (kf : ¬ b < a → W p l e R s m args below meth c H locs 0 0 Q (F0 m (pc + 3) ls rest)) : W p l e R s m args below meth c H locs 0 0 Q (F0 m pc ls (.int (J b) :: .int (J a) :: rest)) := lv_icmp_gt C.1.1 C.1.2.1 hdg ht (fun h => kt ((J_lt hb ha).mp h)) (fun h => kf (fun q => h ((J_lt hb ha).mpr q)))
theorem j_icmp_le (C : XC p s m args meth c cc nL own ret D cA A) {a b : Int} {off : Int} (tgt : Nat) (ha : jR a) (hb : jR b) (hdg : decode cc pc = .ok (.if_icmp .le off, 3)) (ht : (pc : Int) + off = (tgt : Int)) (kt : a ≤ b → W p l e R s m args below meth c H locs 0 0 Q (F0 m tgt ls rest)) (kf : ¬ a ≤ b → W p l e R s m args below meth c H locs 0 0 Q (F0 m (pc + 3) ls rest)) : W p l e R s m args below meth c H locs 0 0 Q (F0 m pc ls (.int (J b) :: .int (J a) :: rest)) := lv_icmp_le C.1.1 C.1.2.1 hdg ht (fun h => kt ((J_le ha hb).mp h)) (fun h => kf (fun q => h ((J_le ha hb).mpr q)))
theorem j_tableIn (C : XC p s m args meth c cc nL own ret D cA A) {dflt lo hi : Int} {offs : Array Int} {len : Nat} {x : Int} {off : Int} (tgt : Nat) (hR : jR x) (hdg : decode cc pc = .ok (.tableswitch dflt lo hi offs, len)) (h1 : ¬ x < lo) (h2 : ¬ hi < x) (ho : offs[(x - lo).toNat]? = some off) (ht : (pc : Int) + off = (tgt : Int)) (k : W p l e R s m args below meth c H locs 0 0 Q (F0 m tgt ls rest)) : W p l e R s m args below meth c H locs 0 0 Q (F0 m pc ls (.int (J x) :: rest)) := lv_tableIn C.1.1 C.1.2.1 hdg (by rw [J_toInt hR]; exact h1) (by rw [J_toInt hR]; exact h2) (by rw [J_toInt hR]; exact ho) ht k
theorem j_tableOut (C : XC p s m args meth c cc nL own ret D cA A) {dflt lo hi : Int} {offs : Array Int} {len : Nat} {x : Int} (tgt : Nat) (hR : jR x) (hdg : decode cc pc = .ok (.tableswitch dflt lo hi offs, len)) (h : x < lo ∨ hi < x) (ht : (pc : Int) + dflt = (tgt : Int)) (k : W p l e R s m args below meth c H locs 0 0 Q (F0 m tgt ls rest)) : W p l e R s m args below meth c H locs 0 0 Q (F0 m pc ls (.int (J x) :: rest)) := lv_tableOut C.1.1 C.1.2.1 hdg (by rw [J_toInt hR]; exact h) ht k
theorem j_lookup (C : XC p s m args meth c cc nL own ret D cA A) {dflt : Int} {ps : Array (Int × Int)} {len : Nat} {x : Int} {off : Int} (tgt : Nat) (hR : jR x) (hdg : decode cc pc = .ok (.lookupswitch dflt ps, len)) (hp : (ps.toList.zip (ps.toList.drop 1)).all (fun (a, next) => a.1 < next.1) = true) (ho : Op.lookupswitch.offset ps.toList dflt x = off) (ht : (pc : Int) + off = (tgt : Int)) (k : W p l e R s m args below meth c H locs 0 0 Q (F0 m tgt ls rest)) : W p l e R s m args below meth c H locs 0 0 Q (F0 m pc ls (.int (J x) :: rest)) := lv_lookup C.1.1 C.1.2.1 hdg hp (by rw [J_toInt hR]; exact ho) ht k
theorem j_mmax (C : XC p s m args meth c cc nL own ret D cA A) (hls : ls.size = nL) {index : Nat} (hl : Cond.methodLink own index Lib.Math.max.name ∈ lw_ok) (hR : 1 ≤ R.frames ∧ (rest.map fun v => v.category).sum + 13 ≤ R.locals) {a b : Int} (hdg : decode cc pc = .ok (.invokestatic index, 3)) (k : W p l e R s m args below meth c H locs 0 0 Q (F0 m (pc + 3) ls (.int (J (jmax a b)) :: rest))) : W p l e R s m args below meth c H locs 0 0 Q (F0 m pc ls (.int (J b) :: .int (J a) :: rest)) := by
  obtain ⟨hx, hb, hml, hown, hts⟩ := C.1
  refine va_mmax hx hb (hml.trans hls.symm) hown (hts _ hl) (hts _ wt_J9_max_7cf53) (hts _ wi_J9) (hts _ wc_J9_max_7cf53) hR.1 hR.2 (Nat.zero_le _) (Nat.zero_le _) hdg ?_
  have e : (if J a < J b then J b else J a) = J (jmax a b) := by
    unfold jmax
    by_cases h : J a < J b
    · rw [if_pos h, if_pos h]
    · rw [if_neg h, if_neg h]
  rw [e]
  exact k
theorem j_mmin (C : XC p s m args meth c cc nL own ret D cA A) (hls : ls.size = nL) {index : Nat} (hl : Cond.methodLink own index Lib.Math.min.name ∈ lw_ok) (hR : 1 ≤ R.frames ∧ (rest.map fun v => v.category).sum + 13 ≤ R.locals) {a b : Int} (hdg : decode cc pc = .ok (.invokestatic index, 3)) (k : W p l e R s m args below meth c H locs 0 0 Q (F0 m (pc + 3) ls (.int (J (jmin a b)) :: rest))) : W p l e R s m args below meth c H locs 0 0 Q (F0 m pc ls (.int (J b) :: .int (J a) :: rest)) := by
  obtain ⟨hx, hb, hml, hown, hts⟩ := C.1
  refine va_mmin hx hb (hml.trans hls.symm) hown (hts _ hl) (hts _ wt_J9_min_7cf53) (hts _ wi_J9) (hts _ wc_J9_min_7cf53) hR.1 hR.2 (Nat.zero_le _) (Nat.zero_le _) hdg ?_
  have e : (if J b < J a then J b else J a) = J (jmin a b) := by
    unfold jmin
    by_cases h : J b < J a
    · rw [if_pos h, if_pos h]
    · rw [if_neg h, if_neg h]
  rw [e]
  exact k
theorem j_iald (C : XC p s m args meth c cc nL own ret D cA A) (hH : XH D A s ws H locs) (q0 : Nat) {a n : Nat} {f : Nat → Int} (ha : ws[q0]? = some (a, .inl (cA, n, .inl (jf f)))) (hn : n < 2147483648) {i : Int} (hi : 0 ≤ i ∧ i < n) (hdg : decode cc pc = .ok (.iaload, 1)) (k : W p l e R s m args below meth c H locs 0 0 Q (F0 m (pc + 1) ls (.int (J (f i.toNat)) :: rest))) : W p l e R s m args below meth c H locs 0 0 Q (F0 m pc ls (.int (J i) :: .ref a :: rest)) := by
  obtain ⟨h1, h2⟩ := jin hi hn
  refine va_iald C.1.1 C.1.2.1 C.2.2.2.1 hH.1 q0 0 ha rfl h1 hdg ?_
  rw [h2]
  exact k
theorem j_iast (C : XC p s m args meth c cc nL own ret D cA A) (hH : XH D A s ws H locs) (q0 : Nat) {a n : Nat} {f : Nat → Int} (ha : ws[q0]? = some (a, .inl (cA, n, .inl (jf f)))) (hn : n < 2147483648) {i x : Int} (hi : 0 ≤ i ∧ i < n) (hdg : decode cc pc = .ok (.iastore, 1)) (k : ∀ (H1 : Heap) (locs1 : List Loc), XH D A s (ws.set q0 (a, .inl (cA, n, .inl (jf (up f i.toNat x))))) H1 locs1 → W p l e R s m args below meth c H1 locs1 0 0 Q (F0 m (pc + 1) ls rest)) : W p l e R s m args below meth c H locs 0 0 Q (F0 m pc ls (.int (J x) :: .int (J i) :: .ref a :: rest)) := by
  obtain ⟨h1, h2⟩ := jin hi hn
  refine va_iast C.1.1 C.1.2.1 C.2.2.2.1 hH.1 hH.2.1 hH.2.2 q0 0 ha rfl h1 hdg (fun H1 locs1 hP hD hS => ?_)
  rw [h2, jf_up] at hP hD
  exact k H1 locs1 ⟨hP, hD, hS⟩
theorem j_alen (C : XC p s m args meth c cc nL own ret D cA A) (hH : XH D A s ws H locs) (q0 : Nat) {a n : Nat} {f : Nat → Int} (ha : ws[q0]? = some (a, .inl (cA, n, .inl (jf f)))) (hdg : decode cc pc = .ok (.arraylength, 1)) (k : W p l e R s m args below meth c H locs 0 0 Q (F0 m (pc + 1) ls (.int (J (n : Int)) :: rest))) : W p l e R s m args below meth c H locs 0 0 Q (F0 m pc ls (.ref a :: rest)) :=
  va_alen C.1.1 C.1.2.1 C.2.2.2.1 hH.1 q0 0 ha rfl (v := J (n : Int)) rfl hdg k
theorem j_get (C : XC p s m args meth c cc nL own ret D cA A) (hH : XH D A s ws H locs) {ref Cn : String} {T : u_T} {N ci index : Nat} (hin : ∀ w ∈ u_ws Cn T N, w ∈ lw_ok) (q0 : Nat) {a : Nat} {fs : List Value} (he : ws[q0]? = some (a, .inr (ci, fs))) (hc : vwCl[ci]? = some (Cn, T, N)) (k : Nat) (hk : k < N) (hlink : Cond.fieldLink own index ref (T k).2.1 (T k).2.2.1 ∈ lw_ok) (hsame : (T k).1 = ref) {v : Value} (hv : fs[k]? = some v) (hdg : decode cc pc = .ok (.getfield index, 3)) (kk : W p l e R s m args below meth c H locs 0 0 Q (F0 m (pc + 3) ls (v :: rest))) : W p l e R s m args below meth c H locs 0 0 Q (F0 m pc ls (.ref a :: rest)) :=
  va_get C.1.1 C.1.2.1 C.1.2.2.2.2 hin C.1.2.2.2.1 C.2.2.2.1 hH.1 q0 he hc k hk (C.1.2.2.2.2 _ hlink) (fun x hx => by rw [← hsame]; exact hx) hv hdg kk
theorem j_put (C : XC p s m args meth c cc nL own ret D cA A) (hH : XH D A s ws H locs) {ref Cn : String} {T : u_T} {N ci index : Nat} (hin : ∀ w ∈ u_ws Cn T N, w ∈ lw_ok) (ty0 : Nat → FieldType) (hty : ∀ k, k < N → parseFieldDescriptor (T k).2.2.1 = some (ty0 k)) (hnm : ∀ a, a < N → ∀ b, b < N → a ≠ b → (T a).2.1 ≠ (T b).2.1) (q0 : Nat) {a : Nat} {fs : List Value} (he : ws[q0]? = some (a, .inr (ci, fs))) (hc : vwCl[ci]? = some (Cn, T, N)) (k : Nat) (hk : k < N) (hlink : Cond.fieldLink own index ref (T k).2.1 (T k).2.2.1 ∈ lw_ok) (hsame : (T k).1 = ref) (hfin : (T k).2.2.2 = false) {ty : FieldType} {v : Value} (hd : parseFieldDescriptor (T k).2.2.1 = some ty) (hn : narrow ty v = v) (hfit : fits ty v = true) (hl : k < fs.length) (hdg : decode cc pc = .ok (.putfield index, 3)) (kk : ∀ (H1 : Heap) (locs1 : List Loc), XH D A s (ws.set q0 (a, .inr (ci, fs.set k v))) H1 locs1 → W p l e R s m args below meth c H1 locs1 0 0 Q (F0 m (pc + 3) ls rest)) : W p l e R s m args below meth c H locs 0 0 Q (F0 m pc ls (v :: .ref a :: rest)) :=
  va_put C.1.1 C.1.2.1 C.1.2.2.2.2 hin ty0 hty hnm C.1.2.2.2.1 C.2.2.2.1 hH.1 hH.2.1 hH.2.2 q0 he hc k hk (C.1.2.2.2.2 _ hlink) (fun x hx => by rw [← hsame]; exact hx) hfin hd hn hfit hl hdg (fun H1 locs1 hP hD hS => kk H1 locs1 ⟨hP, hD, hS⟩)
theorem j_bool {z : Int} (h : z = 0 ∨ z = 1) : narrow .boolean (.int (J z)) = .int (J z) ∧ fits .boolean (.int (J z)) = true := by
  rcases h with h | h <;> subst h <;> decide +kernel
theorem j_iret (C : XC p s m args meth c cc nL own (some .int) D cA A) {post : Int32 → va_W → Prop} (hH : XH D A s ws H locs) {z : Int} (hq : post (J z) ws) (hdg : decode cc pc = .ok (.ireturn, 1)) : W p l e R s m args below meth c H locs 0 0 (MQ below (va_Qi post (xB D cA A) A) args s 0 0 A) (F0 m pc ls [.int (J z)]) :=
  W.iret C.1.1 C.1.2.1 C.2.1 (fun t ht hW => ⟨⟨J z, ws, rfl, hq, by rw [ht]; exact hH.1, va_K.moved hW.alike C.2.2.2.1, hH.2.1⟩, hH.2.2.F ht⟩) hH.2.2.2.2 hdg C.2.2.1
theorem j_zret (C : XC p s m args meth c cc nL own (some .boolean) D cA A) {post : Int32 → va_W → Prop} (hH : XH D A s ws H locs) {z : Int} (hz : z = 0 ∨ z = 1) (hq : post (J z) ws) (hdg : decode cc pc = .ok (.ireturn, 1)) : W p l e R s m args below meth c H locs 0 0 (MQ below (va_Qi post (xB D cA A) A) args s 0 0 A) (F0 m pc ls [.int (J z)]) :=
  W.zret C.1.1 C.1.2.1 C.2.1 (j_bool hz).1 (fun t ht hW => ⟨⟨J z, ws, rfl, hq, by rw [ht]; exact hH.1, va_K.moved hW.alike C.2.2.2.1, hH.2.1⟩, hH.2.2.F ht⟩) hH.2.2.2.2 hdg C.2.2.1
theorem j_vret (C : XC p s m args meth c cc nL own none D cA A) {post : va_W → Prop} (hH : XH D A s ws H locs) (hq : post ws) (hdg : decode cc pc = .ok (.return_, 1)) : W p l e R s m args below meth c H locs 0 0 (MQ below (va_Qv post (xB D cA A) A) args s 0 0 A) (F0 m pc ls []) :=
  W.vret C.1.1 C.1.2.1 C.2.1 (fun t ht hW => ⟨⟨ws, rfl, hq, by rw [ht]; exact hH.1, va_K.moved hW.alike C.2.2.2.1, hH.2.1⟩, hH.2.2.F ht⟩) hH.2.2.2.2 hdg C.2.2.1
/-- a call, and what stands behind it: of an instance method, of a static one; with an answer, without -/
theorem xcallV_i (C : XC p s m args meth c cc nL own ret D cA A) (hH : XH D A s ws H locs) {y : MethodName} {cb : ByteArray} {n2 k idx q0 ci b N : Nat} {ret2 : Option FieldType} {rm : Room} {post : Int32 → va_W → Prop} {As : List Value} {fs : List Value} {T : u_T} {st : List Value}
    (hM : ∀ sz, Met l y (.code y cb n2 ret2 :: lw_ok) rm (xPre D cA sz (.ref b :: As) ws) (va_Qi post (xB D cA (va_A ws sz)) (va_A ws sz)) 0 0 (va_A ws sz))
    (L : xLinkV own idx y cb n2 ret2 k) (hb : ws[q0]? = some (b, .inr (ci, fs))) (hc : vwCl[ci]? = some (y.cls, T, N)) (hrm : rm.cells = 0 ∧ rm.slots = 0) (hR : rm.frames + 1 ≤ R.frames ∧ 8 + (n2 + 11) + rm.locals ≤ R.locals) (hls : ls.size = nL) (hk : As.length = k) (hst : st = As.reverse ++ .ref b :: rest) (hroom : (rest.map fun v => v.category).sum ≤ 8) (hdg : decode cc pc = .ok (.invokevirtual idx, 3))
    (kk : ∀ (r : Int32) (w : va_W) (H1 : Heap) (locs1 : List Loc), post r w → XH D A s w H1 locs1 → W p l e R s m args below meth c H1 locs1 0 0 Q (F0 m (pc + 3) ls (.int r :: rest))) : W p l e R s m args below meth c H locs 0 0 Q (F0 m pc ls st) := by
  obtain ⟨hx, hb0, hml, hown, hts⟩ := id C.1
  obtain ⟨l1, l2, l3, l4, l5, l6⟩ := L
  have hFc := xA_in C.2.2.2.2 hH
  refine va_calli (va_runV (As := As) (rest := rest) C.1 (hM H.size) ⟨callB_of k hts (gIn l5) rfl hrm.1 hrm.2 (hts _ l4) (hts _ l1) l6 hR, hts _ l2, hts _ l3⟩ ⟨xPre_blind, va_recv C.2.2.2.1 hH.1 hc hb, fun U hU hW => xPre_at C.2.2.2.1 hH U hU hW⟩ rfl hk hls hst (lv_room hroom) hdg ⟨Nat.zero_le _, Nat.zero_le _⟩) hH.2.2 (fun q _ h => hFc q h) hFc (fun r w t H1 locs1 ht hvm hw hB hz1 hk1 hS => ?_)
  obtain ⟨hP1, hK1, hD1⟩ := hB
  rw [ht] at hP1
  exact kk r w H1 locs1 hw ⟨hP1, hD1.weaken (fun _ q _ h => hFc q.1 h), hS⟩
theorem xcallV_v (C : XC p s m args meth c cc nL own ret D cA A) (hH : XH D A s ws H locs) {y : MethodName} {cb : ByteArray} {n2 k idx q0 ci b N : Nat} {ret2 : Option FieldType} {rm : Room} {post : va_W → Prop} {As : List Value} {fs : List Value} {T : u_T} {st : List Value}
    (hM : ∀ sz, Met l y (.code y cb n2 ret2 :: lw_ok) rm (xPre D cA sz (.ref b :: As) ws) (va_Qv post (xB D cA (va_A ws sz)) (va_A ws sz)) 0 0 (va_A ws sz))
    (L : xLinkV own idx y cb n2 ret2 k) (hb : ws[q0]? = some (b, .inr (ci, fs))) (hc : vwCl[ci]? = some (y.cls, T, N)) (hrm : rm.cells = 0 ∧ rm.slots = 0) (hR : rm.frames + 1 ≤ R.frames ∧ 8 + (n2 + 11) + rm.locals ≤ R.locals) (hls : ls.size = nL) (hk : As.length = k) (hst : st = As.reverse ++ .ref b :: rest) (hroom : (rest.map fun v => v.category).sum ≤ 8) (hdg : decode cc pc = .ok (.invokevirtual idx, 3))
    (kk : ∀ (w : va_W) (H1 : Heap) (locs1 : List Loc), post w → XH D A s w H1 locs1 → W p l e R s m args below meth c H1 locs1 0 0 Q (F0 m (pc + 3) ls rest)) : W p l e R s m args below meth c H locs 0 0 Q (F0 m pc ls st) := by
  obtain ⟨hx, hb0, hml, hown, hts⟩ := id C.1
  obtain ⟨l1, l2, l3, l4, l5, l6⟩ := L
  have hFc := xA_in C.2.2.2.2 hH
  refine va_callv (va_runV (As := As) (rest := rest) C.1 (hM H.size) ⟨callB_of k hts (gIn l5) rfl hrm.1 hrm.2 (hts _ l4) (hts _ l1) l6 hR, hts _ l2, hts _ l3⟩ ⟨xPre_blind, va_recv C.2.2.2.1 hH.1 hc hb, fun U hU hW => xPre_at C.2.2.2.1 hH U hU hW⟩ rfl hk hls hst (lv_room hroom) hdg ⟨Nat.zero_le _, Nat.zero_le _⟩) hH.2.2 (fun q _ h => hFc q h) hFc (fun w t H1 locs1 ht hvm hw hB hz1 hk1 hS => ?_)
  obtain ⟨hP1, hK1, hD1⟩ := hB
  rw [ht] at hP1
  exact kk w H1 locs1 hw ⟨hP1, hD1.weaken (fun _ q _ h => hFc q.1 h), hS⟩
theorem xcallS_i (C : XC p s m args meth c cc nL own ret D cA A) (hH : XH D A s ws H locs) {y : MethodName} {cb : ByteArray} {n2 k idx : Nat} {ret2 : Option FieldType} {rm : Room} {post : Int32 → va_W → Prop} {As : List Value} {st : List Value}
    (hM : ∀ sz, Met l y (.code y cb n2 ret2 :: lw_ok) rm (xPre D cA sz As ws) (va_Qi post (xB D cA (va_A ws sz)) (va_A ws sz)) 0 0 (va_A ws sz))
    (L : xLinkS own idx y cb n2 ret2 k) (hrm : rm.cells = 0 ∧ rm.slots = 0) (hR : rm.frames + 1 ≤ R.frames ∧ 8 + (n2 + 11) + rm.locals ≤ R.locals) (hls : ls.size = nL) (hk : As.length = k) (hst : st = As.reverse ++ rest) (hroom : (rest.map fun v => v.category).sum ≤ 8) (hdg : decode cc pc = .ok (.invokestatic idx, 3))
    (kk : ∀ (r : Int32) (w : va_W) (H1 : Heap) (locs1 : List Loc), post r w → XH D A s w H1 locs1 → W p l e R s m args below meth c H1 locs1 0 0 Q (F0 m (pc + 3) ls (.int r :: rest))) : W p l e R s m args below meth c H locs 0 0 Q (F0 m pc ls st) := by
  obtain ⟨hx, hb0, hml, hown, hts⟩ := id C.1
  obtain ⟨l1, l2, l4, l5, l6⟩ := L
  have hFc := xA_in C.2.2.2.2 hH
  refine va_calli (va_runS (As := As) (rest := rest) C.1 (hM H.size) ⟨callB_of k hts (gIn l5) rfl hrm.1 hrm.2 (hts _ l4) (hts _ l1) l6 hR, hts _ l2⟩ ⟨xPre_blind, fun U hU hW => xPre_at C.2.2.2.1 hH U hU hW⟩ rfl hk hls hst (lv_room hroom) hdg ⟨Nat.zero_le _, Nat.zero_le _⟩) hH.2.2 (fun q _ h => hFc q h) hFc (fun r w t H1 locs1 ht hvm hw hB hz1 hk1 hS => ?_)
  obtain ⟨hP1, hK1, hD1⟩ := hB
  rw [ht] at hP1
  exact kk r w H1 locs1 hw ⟨hP1, hD1.weaken (fun _ q _ h => hFc q.1 h), hS⟩
theorem xcallS_v (C : XC p s m args meth c cc nL own ret D cA A) (hH : XH D A s ws H locs) {y : MethodName} {cb : ByteArray} {n2 k idx : Nat} {ret2 : Option FieldType} {rm : Room} {post : va_W → Prop} {As : List Value} {st : List Value}
    (hM : ∀ sz, Met l y (.code y cb n2 ret2 :: lw_ok) rm (xPre D cA sz As ws) (va_Qv post (xB D cA (va_A ws sz)) (va_A ws sz)) 0 0 (va_A ws sz))
    (L : xLinkS own idx y cb n2 ret2 k) (hrm : rm.cells = 0 ∧ rm.slots = 0) (hR : rm.frames + 1 ≤ R.frames ∧ 8 + (n2 + 11) + rm.locals ≤ R.locals) (hls : ls.size = nL) (hk : As.length = k) (hst : st = As.reverse ++ rest) (hroom : (rest.map fun v => v.category).sum ≤ 8) (hdg : decode cc pc = .ok (.invokestatic idx, 3))
    (kk : ∀ (w : va_W) (H1 : Heap) (locs1 : List Loc), post w → XH D A s w H1 locs1 → W p l e R s m args below meth c H1 locs1 0 0 Q (F0 m (pc + 3) ls rest)) : W p l e R s m args below meth c H locs 0 0 Q (F0 m pc ls st) := by
  obtain ⟨hx, hb0, hml, hown, hts⟩ := id C.1
  obtain ⟨l1, l2, l4, l5, l6⟩ := L
  have hFc := xA_in C.2.2.2.2 hH
  refine va_callv (va_runS (As := As) (rest := rest) C.1 (hM H.size) ⟨callB_of k hts (gIn l5) rfl hrm.1 hrm.2 (hts _ l4) (hts _ l1) l6 hR, hts _ l2⟩ ⟨xPre_blind, fun U hU hW => xPre_at C.2.2.2.1 hH U hU hW⟩ rfl hk hls hst (lv_room hroom) hdg ⟨Nat.zero_le _, Nat.zero_le _⟩) hH.2.2 (fun q _ h => hFc q h) hFc (fun w t H1 locs1 ht hvm hw hB hz1 hk1 hS => ?_)
  obtain ⟨hP1, hK1, hD1⟩ := hB
  rw [ht] at hP1
  exact kk w H1 locs1 hw ⟨hP1, hD1.weaken (fun _ q _ h => hFc q.1 h), hS⟩
end JR
/-- a method's contract out of its walk -/
theorem xmet_i {l : Launch} {y : MethodName} {cc : ByteArray} {nL sz : Nat} {ret : Option FieldType} {rm : Room} {D : va_G} {cA : ClassId} {av : List Value} {ws : va_W} {post : Int32 → va_W → Prop} (hy : plainName y.cls = true) (hn : (lg_sl av).length ≤ nL)
    (body : ∀ (p : Program) (e : Env) (s : State) (m : MethodId) (args : Array Value) (below : List Frame) (meth : Method) (c : Code) (A : Nat → Prop) (ls : Array Slot), XC p s m args meth c cc nL y.cls ret D cA A → XH D A s ws s.heap [] → lv_has ls nL (lv_args 0 av) → W p l e rm s m args below meth c s.heap [] 0 0 (MQ below (va_Qi post (xB D cA A) A) args s 0 0 A) (F0 m 0 ls [])) :
    Met l y (.code y cc nL ret :: lw_ok) rm (xPre D cA sz av ws) (va_Qi post (xB D cA (va_A ws sz)) (va_A ws sz)) 0 0 (va_A ws sz) := by
  refine Met.ofW (cc := cc) (maxL := nL) (ret := ret) hy rfl ?_
  intro p e s m args below meth c s₁ B hml hv
  obtain ⟨rfl, hsz, hP, hK, hD0⟩ := hv
  have hts := atoms_spec (ws := .code y cc nL ret :: lw_ok) B.pre
  have hown : s.vm.findClass y.cls = some m.cls := findClass_of_methodNamed B.named
  subst hsz
  rw [lg_entry_eq]
  exact body p e s m _ below meth c (va_A ws s.heap.size) _ ⟨⟨B.exec, B.bytes, hml, hown, fun w hw => hts w (List.mem_cons_of_mem _ hw)⟩, B.returns, B.notSynchronized, hK, fun q h => Or.inr h⟩ ⟨hP, hD0.self, va_S.rf⟩ (lv_entry av hn)
theorem xmet_v {l : Launch} {y : MethodName} {cc : ByteArray} {nL sz : Nat} {ret : Option FieldType} {rm : Room} {D : va_G} {cA : ClassId} {av : List Value} {ws : va_W} {post : va_W → Prop} (hy : plainName y.cls = true) (hn : (lg_sl av).length ≤ nL)
    (body : ∀ (p : Program) (e : Env) (s : State) (m : MethodId) (args : Array Value) (below : List Frame) (meth : Method) (c : Code) (A : Nat → Prop) (ls : Array Slot), XC p s m args meth c cc nL y.cls ret D cA A → XH D A s ws s.heap [] → lv_has ls nL (lv_args 0 av) → W p l e rm s m args below meth c s.heap [] 0 0 (MQ below (va_Qv post (xB D cA A) A) args s 0 0 A) (F0 m 0 ls [])) :
    Met l y (.code y cc nL ret :: lw_ok) rm (xPre D cA sz av ws) (va_Qv post (xB D cA (va_A ws sz)) (va_A ws sz)) 0 0 (va_A ws sz) := by
  refine Met.ofW (cc := cc) (maxL := nL) (ret := ret) hy rfl ?_
  intro p e s m args below meth c s₁ B hml hv
  obtain ⟨rfl, hsz, hP, hK, hD0⟩ := hv
  have hts := atoms_spec (ws := .code y cc nL ret :: lw_ok) B.pre
  have hown : s.vm.findClass y.cls = some m.cls := findClass_of_methodNamed B.named
  subst hsz
  rw [lg_entry_eq]
  exact body p e s m _ below meth c (va_A ws s.heap.size) _ ⟨⟨B.exec, B.bytes, hml, hown, fun w hw => hts w (List.mem_cons_of_mem _ hw)⟩, B.returns, B.notSynchronized, hK, fun q h => Or.inr h⟩ ⟨hP, hD0.self, va_S.rf⟩ (lv_entry av hn)

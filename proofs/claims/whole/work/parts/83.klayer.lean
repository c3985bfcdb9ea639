/-- what a call of a constructor by a link stands on -/
def xLinkI (own : String) (idx : Nat) (y : MethodName) (cb : ByteArray) (n : Nat) (k : Nat) : Prop := Cond.methodLink own idx y ∈ lw_ok ∧ Cond.instanceMethod y ∈ lw_ok ∧ Cond.initialized y.cls ∈ lw_ok ∧ Cond.code y cb n none ∈ lw_ok ∧ (y.cls ≠ "java/lang/invoke/MethodHandle" ∧ y.cls ≠ "java/lang/invoke/VarHandle" ∧ (parseMethodDescriptor y.desc).map (fun d => d.parameters.length) = some k) ∧ y.name = "<init>"
/-- a new row of n zeros -/
abbrev zarr (cA : ClassId) (q n : Nat) : Nat × va_E := (q, .inl (cA, n, .inl (jf (fun _ => 0))))
theorem jf_zero : jf (fun _ => 0) = fun _ => (0 : Int32) := funext fun _ => J_0
section KR
variable {p : Program} {l : Launch} {e : Env} {R : Room} {s : State} {m : MethodId} {args : Array Value} {below : List Frame} {meth : Method} {c : Code} {H : Heap} {locs : List Loc} {Q : State → Prop} {kc ks : Nat}
variable {cc : ByteArray} {pc nL : Nat} {ls : Array Slot} {rest : List Value} {D : va_G} {cA : ClassId} {A : Nat → Prop} {own : String} {ret : Option FieldType} {ws : va_W}
theorem k_iconst (C : XC p s m args meth c cc nL own ret D cA A) {n : Int} (hdg : decode cc pc = .ok (.iconst n, 1)) (k : W p l e R s m args below meth c H locs kc ks Q (F0 m (pc + 1) ls (.int (J n) :: rest))) : W p l e R s m args below meth c H locs kc ks Q (F0 m pc ls rest) := lv_iconst C.1.1 C.1.2.1 hdg rfl k
theorem k_bipush (C : XC p s m args meth c cc nL own ret D cA A) {n : Int} (hn : (Int8.ofInt n).toInt32 = J n) (hdg : decode cc pc = .ok (.bipush n, 2)) (k : W p l e R s m args below meth c H locs kc ks Q (F0 m (pc + 2) ls (.int (J n) :: rest))) : W p l e R s m args below meth c H locs kc ks Q (F0 m pc ls rest) := lv_bipush C.1.1 C.1.2.1 hdg hn k
theorem k_sipush (C : XC p s m args meth c cc nL own ret D cA A) {n : Int} (hn : (Int16.ofInt n).toInt32 = J n) (hdg : decode cc pc = .ok (.sipush n, 3)) (k : W p l e R s m args below meth c H locs kc ks Q (F0 m (pc + 3) ls (.int (J n) :: rest))) : W p l e R s m args below meth c H locs kc ks Q (F0 m pc ls rest) := lv_sipush C.1.1 C.1.2.1 hdg hn k
theorem k_aload_n (C : XC p s m args meth c cc nL own ret D cA A) {k : Fin 4} {x : Nat} (hdg : decode cc pc = .ok (.aload_n k, 1)) (hl : ls[(k : Nat)]? = some (.val (.ref x))) (kk : W p l e R s m args below meth c H locs kc ks Q (F0 m (pc + 1) ls (.ref x :: rest))) : W p l e R s m args below meth c H locs kc ks Q (F0 m pc ls rest) := lv_aload_n C.1.1 C.1.2.1 hdg rfl hl kk
theorem k_dup (C : XC p s m args meth c cc nL own ret D cA A) {x : Nat} (hdg : decode cc pc = .ok (.dup, 1)) (kk : W p l e R s m args below meth c H locs kc ks Q (F0 m (pc + 1) ls (.ref x :: .ref x :: rest))) : W p l e R s m args below meth c H locs kc ks Q (F0 m pc ls (.ref x :: rest)) := lv_dup C.1.1 C.1.2.1 hdg rfl kk
theorem k_get (C : XC p s m args meth c cc nL own ret D cA A) (hH : XH D A s ws H locs) {ref Cn : String} {T : u_T} {N ci index : Nat} (hin : ∀ w ∈ u_ws Cn T N, w ∈ lw_ok) (q0 : Nat) {a : Nat} {fs : List Value} (he : ws[q0]? = some (a, .inr (ci, fs))) (hc : vwCl[ci]? = some (Cn, T, N)) (k : Nat) (hk : k < N) (hlink : Cond.fieldLink own index ref (T k).2.1 (T k).2.2.1 ∈ lw_ok) (hsame : (T k).1 = ref) {v : Value} (hv : fs[k]? = some v) (hdg : decode cc pc = .ok (.getfield index, 3)) (kk : W p l e R s m args below meth c H locs kc ks Q (F0 m (pc + 3) ls (v :: rest))) : W p l e R s m args below meth c H locs kc ks Q (F0 m pc ls (.ref a :: rest)) :=
  va_get C.1.1 C.1.2.1 C.1.2.2.2.2 hin C.1.2.2.2.1 C.2.2.2.1 hH.1 q0 he hc k hk (C.1.2.2.2.2 _ hlink) (fun x hx => by rw [← hsame]; exact hx) hv hdg kk
theorem k_put (C : XC p s m args meth c cc nL own ret D cA A) (hH : XH D A s ws H locs) {ref Cn : String} {T : u_T} {N ci index : Nat} (hin : ∀ w ∈ u_ws Cn T N, w ∈ lw_ok) (ty0 : Nat → FieldType) (hty : ∀ k, k < N → parseFieldDescriptor (T k).2.2.1 = some (ty0 k)) (hnm : ∀ a, a < N → ∀ b, b < N → a ≠ b → (T a).2.1 ≠ (T b).2.1) (q0 : Nat) {a : Nat} {fs : List Value} (he : ws[q0]? = some (a, .inr (ci, fs))) (hc : vwCl[ci]? = some (Cn, T, N)) (k : Nat) (hk : k < N) (hlink : Cond.fieldLink own index ref (T k).2.1 (T k).2.2.1 ∈ lw_ok) (hsame : (T k).1 = ref) (hfin : (T k).2.2.2 = false) {ty : FieldType} {v : Value} (hd : parseFieldDescriptor (T k).2.2.1 = some ty) (hn : narrow ty v = v) (hfit : Jvm.fits ty v = true) (hl : k < fs.length) (hdg : decode cc pc = .ok (.putfield index, 3)) (kk : ∀ (H1 : Heap) (locs1 : List Loc), XH D A s (ws.set q0 (a, .inr (ci, fs.set k v))) H1 locs1 → W p l e R s m args below meth c H1 locs1 kc ks Q (F0 m (pc + 3) ls rest)) : W p l e R s m args below meth c H locs kc ks Q (F0 m pc ls (v :: .ref a :: rest)) :=
  va_put C.1.1 C.1.2.1 C.1.2.2.2.2 hin ty0 hty hnm C.1.2.2.2.1 C.2.2.2.1 hH.1 hH.2.1 hH.2.2 q0 he hc k hk (C.1.2.2.2.2 _ hlink) (fun x hx => by rw [← hsame]; exact hx) hfin hd hn hfit hl hdg (fun H1 locs1 hP hD hS => kk H1 locs1 ⟨hP, hD, hS⟩)
theorem k_putF (C : XC p s m args meth c cc nL own ret D cA A) (hin2 : meth.name = "<init>") (hH : XH D A s ws H locs) {ref Cn : String} {T : u_T} {N ci index : Nat} (hin : ∀ w ∈ u_ws Cn T N, w ∈ lw_ok) (ty0 : Nat → FieldType) (hty : ∀ k, k < N → parseFieldDescriptor (T k).2.2.1 = some (ty0 k)) (hnm : ∀ a, a < N → ∀ b, b < N → a ≠ b → (T a).2.1 ≠ (T b).2.1) (q0 : Nat) {a : Nat} {fs : List Value} (he : ws[q0]? = some (a, .inr (ci, fs))) (hc : vwCl[ci]? = some (Cn, T, N)) (k : Nat) (hk : k < N) (hlink : Cond.fieldLink own index ref (T k).2.1 (T k).2.2.1 ∈ lw_ok) (hsame : (T k).1 = ref) (hfin : (T k).2.2.2 = true) (hdecl : (T k).1 = own) {ty : FieldType} {v : Value} (hd : parseFieldDescriptor (T k).2.2.1 = some ty) (hn : narrow ty v = v) (hfit : Jvm.fits ty v = true) (hl : k < fs.length) (hdg : decode cc pc = .ok (.putfield index, 3)) (kk : ∀ (H1 : Heap) (locs1 : List Loc), XH D A s (ws.set q0 (a, .inr (ci, fs.set k v))) H1 locs1 → W p l e R s m args below meth c H1 locs1 kc ks Q (F0 m (pc + 3) ls rest)) : W p l e R s m args below meth c H locs kc ks Q (F0 m pc ls (v :: .ref a :: rest)) :=
  va_putF C.1.1 C.1.2.1 C.1.2.2.2.2 hin ty0 hty hnm C.1.2.2.2.1 C.2.2.2.1 hH.1 hH.2.1 hH.2.2 q0 he hc k hk (C.1.2.2.2.2 _ hlink) (fun x hx => by rw [← hsame]; exact hx) hfin hin2 hdecl hd hn hfit hl hdg (fun H1 locs1 hP hD hS => kk H1 locs1 ⟨hP, hD, hS⟩)
theorem k_newa (C : XC p s m args meth c cc nL own ret D cA A) (hH : XH D A s ws H locs) (N : Nat) {n : Int} (hN : n = N) (hN2 : N ≤ 1000) (hc : kc + 1 ≤ R.cells) (hs : ks + N ≤ R.slots) (hdg : decode cc pc = .ok (.newarray .int, 2)) (kk : ∀ (q : Nat) (H1 : Heap), XH D A s (ws ++ [zarr cA q N]) H1 locs → W p l e R s m args below meth c H1 locs (kc + 1) (ks + N) Q (F0 m (pc + 2) ls (.ref q :: rest))) : W p l e R s m args below meth c H locs kc ks Q (F0 m pc ls (.int (J n) :: rest)) := by
  subst hN
  have hR : jR (N : Int) := ⟨by omega, by omega⟩
  refine va_newa (atype := .int) (a0 := (N, .inl (jf (fun _ => 0)))) C.1.1 C.1.2.1 (C.1.2.2.2.2 _ wa_int) (ty := .int) rfl C.2.2.2.1 hH.1 hH.2.1 hH.2.2 C.2.2.2.2 (fun cA => by rw [jf_zero]; rfl) ?_ ?_ ?_ hc hs hdg (fun q cA' H1 hK hP hD hS => ?_)
  · intro h
    have h := (J_lt0 hR).mp h
    omega
  · show (J (N : Int)).toInt.toNat = N
    rw [J_toInt hR]
    exact Int.toNat_natCast N
  · exact Nat.le_trans (Nat.mul_le_mul_right _ hN2) (by decide)
  · have e1 := (hK.2 0 (cA, .int) rfl).2
    have e2 := (hK.2 1 (cA', .int) rfl).2
    have e3 : cA' = cA := Option.some.inj (Eq.trans (Eq.symm e2) e1)
    subst e3
    exact kk q H1 ⟨hP, hD, hS⟩
theorem k_new (C : XC p s m args meth c cc nL own ret D cA A) (hH : XH D A s ws H locs) {Cn : String} {T : u_T} {N ci index : Nat} (hin : ∀ w ∈ u_ws Cn T N, w ∈ lw_ok) (ty : Nat → FieldType) (hty : ∀ k, k < N → parseFieldDescriptor (T k).2.2.1 = some (ty k)) (hcl : Cond.classLink own index Cn ∈ lw_ok) (hinst : Cond.instantiable Cn N ∈ lw_ok) (hini : Cond.initialized Cn ∈ lw_ok) (hc : vwCl[ci]? = some (Cn, T, N)) (fs : List Value) (hfs : ∀ j, j < N → defaultValue (ty j) = vp_V fs j) (hcells : kc + 1 ≤ R.cells) (hslots : ks + N ≤ R.slots) (hdg : decode cc pc = .ok (.new index, 3)) (kk : ∀ (q : Nat) (H1 : Heap), XH D A s (ws ++ [(q, .inr (ci, fs))]) H1 locs → W p l e R s m args below meth c H1 locs (kc + 1) (ks + N) Q (F0 m (pc + 3) ls (.ref q :: rest))) : W p l e R s m args below meth c H locs kc ks Q (F0 m pc ls rest) :=
  va_new C.1.1 C.1.2.1 C.1.2.2.2.2 hin ty hty C.1.2.2.2.1 (C.1.2.2.2.2 _ hcl) (C.1.2.2.2.2 _ hinst) (C.1.2.2.2.2 _ hini) C.2.2.2.1 hH.1 hH.2.1 hH.2.2 C.2.2.2.2 hc hfs hcells hslots hdg (fun q H1 hP hD hS => kk q H1 ⟨hP, hD, hS⟩)
theorem k_objInit (C : XC p s m args meth c cc nL own ret D cA A) {idx a : Nat} (hlink : Cond.methodLink own idx objectInit ∈ lw_ok) (hls : ls.size = nL) (hR : 1 ≤ R.frames ∧ 12 + (rest.map fun v => v.category).sum ≤ R.locals) (hdg : decode cc pc = .ok (.invokespecial idx, 3)) (kk : W p l e R s m args below meth c H locs kc ks Q (F0 m (pc + 3) ls rest)) : W p l e R s m args below meth c H locs kc ks Q (F0 m pc ls (.ref a :: rest)) := by
  refine W.objInit C.1.1 C.1.2.1 C.1.2.2.2.1 (C.1.2.2.2.2 _ hlink) (C.1.2.2.2.2 _ wm_objinit) (C.1.2.2.2.2 _ wc_objinit) rfl (by rw [C.1.2.2.1]; exact hls) rfl hdg hR.1 ?_ ?_
  · have h := hR.2
    show 2 * 0 + (rest.map fun v => v.category).sum + 12 ≤ R.locals
    omega
  · exact W.eq (g2 := F0 m (pc + 3) ls rest) rfl kk
theorem k_callS_v (C : XC p s m args meth c cc nL own ret D cA A) (hH : XH D A s ws H locs) {y : MethodName} {cb : ByteArray} {n2 k idx : Nat} {ret2 : Option FieldType} {rm : Room} {post : va_W → Prop} {As : List Value} {st : List Value}
    (hM : ∀ sz, Met l y (.code y cb n2 ret2 :: lw_ok) rm (xPre D cA sz As ws) (va_Qv post (xB D cA (va_A ws sz)) (va_A ws sz)) 0 0 (va_A ws sz))
    (L : xLinkS own idx y cb n2 ret2 k) (hrm : rm.cells = 0 ∧ rm.slots = 0) (hR : rm.frames + 1 ≤ R.frames ∧ 8 + (n2 + 11) + rm.locals ≤ R.locals) (hcs : kc ≤ R.cells ∧ ks ≤ R.slots) (hls : ls.size = nL) (hk : As.length = k) (hst : st = As.reverse ++ rest) (hroom : (rest.map fun v => v.category).sum ≤ 8) (hdg : decode cc pc = .ok (.invokestatic idx, 3))
    (kk : ∀ (w : va_W) (H1 : Heap) (locs1 : List Loc), post w → XH D A s w H1 locs1 → W p l e R s m args below meth c H1 locs1 kc ks Q (F0 m (pc + 3) ls rest)) : W p l e R s m args below meth c H locs kc ks Q (F0 m pc ls st) := by
  obtain ⟨hx, hb0, hml, hown, hts⟩ := id C.1
  obtain ⟨l1, l2, l4, l5, l6⟩ := L
  have hFc := xA_in C.2.2.2.2 hH
  refine va_callv (va_runS (As := As) (rest := rest) C.1 (hM H.size) ⟨callB_of k hts (gIn l5) rfl hrm.1 hrm.2 (hts _ l4) (hts _ l1) l6 hR, hts _ l2⟩ ⟨xPre_blind, fun U hU hW => xPre_at C.2.2.2.1 hH U hU hW⟩ rfl hk hls hst (lv_room hroom) hdg ⟨hcs.1, hcs.2⟩) hH.2.2 (fun q _ h => hFc q h) hFc (fun w t H1 locs1 ht hvm hw hB hz1 hk1 hS => ?_)
  obtain ⟨hP1, hK1, hD1⟩ := hB
  rw [ht] at hP1
  exact kk w H1 locs1 hw ⟨hP1, hD1.weaken (fun _ q _ h => hFc q.1 h), hS⟩
/-- a part of the world is cut out for a call: what it takes, and how the rest comes back -/
def xCut (ws wc wr : va_W) (isC isR : List Nat) : Prop := (isC.map (fun i => ws[i]?) = wc.map some ∧ isR.map (fun i => ws[i]?) = wr.map some) ∧ (isC.filterMap (fun i => ws[i]?) = wc) ∧ va_nd isC = true ∧ va_nd isR = true ∧ ∀ i ∈ isR, i ∉ isC
theorem k_callV_i (C : XC p s m args meth c cc nL own ret D cA A) (hH : XH D A s ws H locs) {wc wr : va_W} (isC isR : List Nat) (hcut : xCut ws wc wr isC isR) {y : MethodName} {cb : ByteArray} {n2 k idx q0 ci b N : Nat} {ret2 : Option FieldType} {rm : Room} {post : Int32 → va_W → Prop} {As : List Value} {fs : List Value} {T : u_T} {st : List Value}
    (hM : ∀ sz, Met l y (.code y cb n2 ret2 :: lw_ok) rm (xPre D cA sz (.ref b :: As) wc) (va_Qi post (xB D cA (va_A wc sz)) (va_A wc sz)) 0 0 (va_A wc sz))
    (L : xLinkV own idx y cb n2 ret2 k) (hb : ws[q0]? = some (b, .inr (ci, fs))) (hc : vwCl[ci]? = some (y.cls, T, N)) (hrm : rm.cells = 0 ∧ rm.slots = 0) (hR : rm.frames + 1 ≤ R.frames ∧ 8 + (n2 + 11) + rm.locals ≤ R.locals) (hcs : kc ≤ R.cells ∧ ks ≤ R.slots) (hls : ls.size = nL) (hk : As.length = k) (hst : st = As.reverse ++ .ref b :: rest) (hroom : (rest.map fun v => v.category).sum ≤ 8) (hdg : decode cc pc = .ok (.invokevirtual idx, 3))
    (kk : ∀ (r : Int32) (w : va_W) (H1 : Heap) (locs1 : List Loc), post r w → XH D A s (wr ++ w) H1 locs1 → W p l e R s m args below meth c H1 locs1 kc ks Q (F0 m (pc + 3) ls (.int r :: rest))) : W p l e R s m args below meth c H locs kc ks Q (F0 m pc ls st) := by
  obtain ⟨hx, hb0, hml, hown, hts⟩ := id C.1
  obtain ⟨l1, l2, l3, l4, l5, l6⟩ := L
  obtain ⟨⟨c1, c2⟩, c3, c4, c5, c6⟩ := hcut
  have hPc := hH.1.sub (ws' := wc) isC c3
  have hDc := hH.2.1.sub (ws' := wc) isC c4 c1
  have hFc := va_free (wc := wc) hH.2.1 hH.2.2 C.2.2.2.2 isC c1
  refine va_calli (va_runV (As := As) (rest := rest) C.1 (hM H.size) ⟨callB_of k hts (gIn l5) rfl hrm.1 hrm.2 (hts _ l4) (hts _ l1) l6 hR, hts _ l2, hts _ l3⟩ ⟨xPre_blind, va_recv C.2.2.2.1 hH.1 hc hb, fun U hU hW => ⟨rfl, by rw [hU], by rw [hU]; exact hPc, va_K.moved hW.alike C.2.2.2.1, hDc.weaken (fun _ _ _ _ => trivial)⟩⟩ rfl hk hls hst (lv_room hroom) hdg ⟨hcs.1, hcs.2⟩) hH.2.2 (fun q _ h => hFc q h) hFc (fun r w t H1 locs1 ht hvm hw hB hz1 hk1 hS => ?_)
  obtain ⟨hP1, hK1, hD1⟩ := hB
  rw [ht] at hP1
  obtain ⟨hP, hD⟩ := va_join (wr := wr) (w1 := w) hH.1 hH.2.1 isC isR c1 c2 c5 c6 hk1 hFc hP1 hD1
  exact kk r w H1 locs1 hw ⟨hP, hD, hS⟩
theorem k_callV_v (C : XC p s m args meth c cc nL own ret D cA A) (hH : XH D A s ws H locs) {wc wr : va_W} (isC isR : List Nat) (hcut : xCut ws wc wr isC isR) {y : MethodName} {cb : ByteArray} {n2 k idx q0 ci b N : Nat} {ret2 : Option FieldType} {rm : Room} {post : va_W → Prop} {As : List Value} {fs : List Value} {T : u_T} {st : List Value}
    (hM : ∀ sz, Met l y (.code y cb n2 ret2 :: lw_ok) rm (xPre D cA sz (.ref b :: As) wc) (va_Qv post (xB D cA (va_A wc sz)) (va_A wc sz)) 0 0 (va_A wc sz))
    (L : xLinkV own idx y cb n2 ret2 k) (hb : ws[q0]? = some (b, .inr (ci, fs))) (hc : vwCl[ci]? = some (y.cls, T, N)) (hrm : rm.cells = 0 ∧ rm.slots = 0) (hR : rm.frames + 1 ≤ R.frames ∧ 8 + (n2 + 11) + rm.locals ≤ R.locals) (hcs : kc ≤ R.cells ∧ ks ≤ R.slots) (hls : ls.size = nL) (hk : As.length = k) (hst : st = As.reverse ++ .ref b :: rest) (hroom : (rest.map fun v => v.category).sum ≤ 8) (hdg : decode cc pc = .ok (.invokevirtual idx, 3))
    (kk : ∀ (w : va_W) (H1 : Heap) (locs1 : List Loc), post w → XH D A s (wr ++ w) H1 locs1 → W p l e R s m args below meth c H1 locs1 kc ks Q (F0 m (pc + 3) ls rest)) : W p l e R s m args below meth c H locs kc ks Q (F0 m pc ls st) := by
  obtain ⟨hx, hb0, hml, hown, hts⟩ := id C.1
  obtain ⟨l1, l2, l3, l4, l5, l6⟩ := L
  obtain ⟨⟨c1, c2⟩, c3, c4, c5, c6⟩ := hcut
  have hPc := hH.1.sub (ws' := wc) isC c3
  have hDc := hH.2.1.sub (ws' := wc) isC c4 c1
  have hFc := va_free (wc := wc) hH.2.1 hH.2.2 C.2.2.2.2 isC c1
  refine va_callv (va_runV (As := As) (rest := rest) C.1 (hM H.size) ⟨callB_of k hts (gIn l5) rfl hrm.1 hrm.2 (hts _ l4) (hts _ l1) l6 hR, hts _ l2, hts _ l3⟩ ⟨xPre_blind, va_recv C.2.2.2.1 hH.1 hc hb, fun U hU hW => ⟨rfl, by rw [hU], by rw [hU]; exact hPc, va_K.moved hW.alike C.2.2.2.1, hDc.weaken (fun _ _ _ _ => trivial)⟩⟩ rfl hk hls hst (lv_room hroom) hdg ⟨hcs.1, hcs.2⟩) hH.2.2 (fun q _ h => hFc q h) hFc (fun w t H1 locs1 ht hvm hw hB hz1 hk1 hS => ?_)
  obtain ⟨hP1, hK1, hD1⟩ := hB
  rw [ht] at hP1
  obtain ⟨hP, hD⟩ := va_join (wr := wr) (w1 := w) hH.1 hH.2.1 isC isR c1 c2 c5 c6 hk1 hFc hP1 hD1
  exact kk w H1 locs1 hw ⟨hP, hD, hS⟩
theorem k_init (C : XC p s m args meth c cc nL own ret D cA A) (hH : XH D A s ws H locs) {wc wr : va_W} (isC isR : List Nat) (hcut : xCut ws wc wr isC isR) {y : MethodName} {cb : ByteArray} {n2 k idx b mc ms : Nat} {rm : Room} {post : va_W → Prop} {As : List Value} {st : List Value}
    (hM : ∀ sz, Met l y (.code y cb n2 none :: lw_ok) rm (xPre D cA sz (.ref b :: As) wc) (va_Qv post (xB D cA (va_A wc sz)) (va_A wc sz)) mc ms (va_A wc sz))
    (L : xLinkI own idx y cb n2 k) (hrm : rm.cells = mc ∧ rm.slots = ms) (hR : rm.frames + 1 ≤ R.frames ∧ 8 + (n2 + 11) + rm.locals ≤ R.locals) (hcs : kc + mc ≤ R.cells ∧ ks + ms ≤ R.slots) (hls : ls.size = nL) (hk : As.length = k) (hst : st = As.reverse ++ .ref b :: rest) (hroom : (rest.map fun v => v.category).sum ≤ 8) (hdg : decode cc pc = .ok (.invokespecial idx, 3))
    (kk : ∀ (w : va_W) (H1 : Heap) (locs1 : List Loc), post w → XH D A s (wr ++ w) H1 locs1 → W p l e R s m args below meth c H1 locs1 (kc + mc) (ks + ms) Q (F0 m (pc + 3) ls rest)) : W p l e R s m args below meth c H locs kc ks Q (F0 m pc ls st) := by
  obtain ⟨hx, hb0, hml, hown, hts⟩ := id C.1
  obtain ⟨l1, l2, l4, l5, l6, l7⟩ := L
  obtain ⟨⟨c1, c2⟩, c3, c4, c5, c6⟩ := hcut
  have hPc := hH.1.sub (ws' := wc) isC c3
  have hDc := hH.2.1.sub (ws' := wc) isC c4 c1
  have hFc := va_free (wc := wc) hH.2.1 hH.2.2 C.2.2.2.2 isC c1
  refine va_callv (va_runI (As := As) (rest := rest) C.1 (hM H.size) ⟨callB_of k hts (gIn l5) rfl hrm.1 hrm.2 (hts _ l4) (hts _ l1) l6 hR, l7, hts _ l2⟩ ⟨xPre_blind, fun U hU hW => ⟨rfl, by rw [hU], by rw [hU]; exact hPc, va_K.moved hW.alike C.2.2.2.1, hDc.weaken (fun _ _ _ _ => trivial)⟩⟩ rfl hk hls hst (lv_room hroom) hdg ⟨hcs.1, hcs.2⟩) hH.2.2 (fun q _ h => hFc q h) hFc (fun w t H1 locs1 ht hvm hw hB hz1 hk1 hS => ?_)
  obtain ⟨hP1, hK1, hD1⟩ := hB
  rw [ht] at hP1
  obtain ⟨hP, hD⟩ := va_join (wr := wr) (w1 := w) hH.1 hH.2.1 isC isR c1 c2 c5 c6 hk1 hFc hP1 hD1
  exact kk w H1 locs1 hw ⟨hP, hD, hS⟩
theorem k_vret (C : XC p s m args meth c cc nL own none D cA A) {post : va_W → Prop} (hH : XH D A s ws H locs) (hq : post ws) (hdg : decode cc pc = .ok (.return_, 1)) : W p l e R s m args below meth c H locs kc ks (MQ below (va_Qv post (xB D cA A) A) args s kc ks A) (F0 m pc ls []) :=
  W.vret C.1.1 C.1.2.1 C.2.1 (fun t ht hW => ⟨⟨ws, rfl, hq, by rw [ht]; exact hH.1, va_K.moved hW.alike C.2.2.2.1, hH.2.1⟩, hH.2.2.F ht⟩) hH.2.2.2.2 hdg C.2.2.1
end KR
/-- a constructor's contract out of its walk -/
theorem kmet_v {l : Launch} {y : MethodName} {cc : ByteArray} {nL sz mc ms : Nat} {rm : Room} {D : va_G} {cA : ClassId} {av : List Value} {ws : va_W} {post : va_W → Prop} (hy : plainName y.cls = true) (hyn : y.name = "<init>") (hn : (lg_sl av).length ≤ nL)
    (body : ∀ (p : Program) (e : Env) (s : State) (m : MethodId) (args : Array Value) (below : List Frame) (meth : Method) (c : Code) (A : Nat → Prop) (ls : Array Slot), XC p s m args meth c cc nL y.cls none D cA A → meth.name = "<init>" → XH D A s ws s.heap [] → lv_has ls nL (lv_args 0 av) → W p l e rm s m args below meth c s.heap [] 0 0 (MQ below (va_Qv post (xB D cA A) A) args s mc ms A) (F0 m 0 ls [])) :
    Met l y (.code y cc nL none :: lw_ok) rm (xPre D cA sz av ws) (va_Qv post (xB D cA (va_A ws sz)) (va_A ws sz)) mc ms (va_A ws sz) := by
  refine Met.ofW (cc := cc) (maxL := nL) (ret := none) hy rfl ?_
  intro p e s m args below meth c s₁ B hml hv
  obtain ⟨rfl, hsz, hP, hK, hD0⟩ := hv
  have hts := atoms_spec (ws := .code y cc nL none :: lw_ok) B.pre
  have hown : s.vm.findClass y.cls = some m.cls := findClass_of_methodNamed B.named
  subst hsz
  rw [lg_entry_eq]
  exact body p e s m _ below meth c (va_A ws s.heap.size) _ ⟨⟨B.exec, B.bytes, hml, hown, fun w hw => hts w (List.mem_cons_of_mem _ hw)⟩, B.returns, B.notSynchronized, hK, fun q h => Or.inr h⟩ (by rw [(name_of_methodNamed B.named B.method).1]; exact hyn) ⟨hP, hD0.self, va_S.rf⟩ (lv_entry av hn)

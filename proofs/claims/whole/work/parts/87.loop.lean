/-! THE CLAIM OUT OF ONE WALK OF THE LAW'S BODY. Your part is whole_start (and what it stands on); all else here is the same for every law, but numbers. -/
def R_law : String := "AngleNetLaw"
def lw_P (b : Addr) (xs : List Int32) (args : Array Value) (s : State) : Prop := args = #[.ref b] ∧ s.IntsAt b xs ∧ xs.length ≤ 2048 ∧ (Jvm.Cond.and given_1 narrow_1).before args s = true
def lw_Q (_ : Array Value) (s : State) (o : Outcome) (t : State) : Prop := o = .returned (some (.int 1)) ∧ Framed s o t [] 30 2394
def lw_Z (below : List Frame) (a : Array Value) (s : State) : State → Prop := fun t => ∃ o, t.status = .running ∧ Ended t below o ∧ lw_Q a s o t
/-- the law's own end, with 1 on the stack, nothing written that was there before, its room as the claim has it -/
theorem lw_ret {p : Program} {l : Launch} {e : Env} {s : State} {m : MethodId} {below : List Frame} {meth : Method} {c : Code} {b : Nat} (hx : p.tables.exec = Jvm.exec) (hb : c.code = code) (hr : meth.sig.returnType = ret) (hlocks : meth.locks = false) {pc : Nat} {H : Heap} {ls : Array Slot} (hdg : decode code pc = .ok (.ireturn, 1)) : W p l e room_1 s m #[Value.ref b] below meth c H [] 30 2394 (lw_Z below #[Value.ref b] s) (F0 m pc ls [.int 1]) := by
  intro T hT X
  obtain ⟨fs, hret, hrun, hended, hW, hframe⟩ := X.leave (v := some (.int 1)) (hlocks := hlocks) (fun h => by rw [hr] at h; cases h)
  have hmeth' : T.vm.method? m = some meth := X.method'
  refine ⟨T.setFrames fs, ?_, .returned (some (.int 1)), hrun, hended, rfl, ⟨_, rfl⟩, hW, hframe⟩
  jvm_step X.here [X.here.top, hx, hb, hdg, hmeth', hr, ret, narrow_b1]
  (try refine ⟨rfl, ?_⟩); (try refine ⟨rfl, ?_⟩)
  first | (intro acts; rw [hret _ acts rfl rfl rfl]) | rw [hret _ _ rfl rfl rfl]
  exact Steps.refl _
/-- what holds at the law's entry: the machine, the code, the tables' words (any of lw_tbl by 'hts w (by decide +kernel)'), the script of L ints xs at the cell b, what the Statement gives of the start (any of its parts by flat_of_before) -/
def lw_At (p : Program) (s : State) (m : MethodId) (meth : Method) (c : Code) (b L : Nat) (xs : Nat → Int32) : Prop :=
  p.tables.exec = Jvm.exec ∧ c.code = code ∧ meth.sig.returnType = ret ∧ c.maxLocals = 4 ∧ s.vm.findClass R_law = some m.cls ∧ (∀ w ∈ lw_tbl, w.before #[Value.ref b] s = true) ∧ va_X b L xs s s.heap ∧ b < s.heap.size ∧ meth.locks = false ∧ (Jvm.Cond.and given_1 narrow_1).before #[Value.ref b] s = true

set_option maxHeartbeats 1000000 in
/-- the loop of the law, from its head -/
theorem law_loop {p : Program} {l : Launch} {e : Env} {s : State} {m : MethodId} {below : List Frame} {meth : Method} {c : Code} {D : va_G} {cA : ClassId} {b L : Nat} {xs : Nat → Int32} {aX aM : Nat → Nat} (C : XC p s m #[Value.ref b] meth c cL_law 4 RL ret D cA (fun q => s.heap.size ≤ q)) (hX : va_X b L xs s s.heap) (hbl : b < s.heap.size) (hL : L ≤ 2048) :
    ∀ (k n : Nat), L ≤ n + k → n ≤ L + 3 → ∀ (H : Heap) (locs : List Loc) (ls : Array Slot), LI D cA (fun q => s.heap.size ≤ q) s aX aM H locs → lv_has ls 4 [(3, .int (J (n : Int))), (2, .ref (aM 0)), (1, .ref (aX 0)), (0, .ref b)] → W p l e room_1 s m #[Value.ref b] below meth c H locs 30 2394 (lw_Z below #[Value.ref b] s) (F0 m 18 ls []) := by
  have hbA : ¬ (fun q : Nat => s.heap.size ≤ q) b := Nat.not_le.mpr hbl
  have eL : Int32.ofNat L = J (L : Int) := by
    rw [← Int32.toInt_inj, J_toInt ⟨by omega, by omega⟩, Int32.toInt_ofNat_of_lt (by omega)]
  intro k
  induction k with
  | zero =>
    intro n hk hn H locs ls h hl
    have hS : va_S (fun q : Nat => s.heap.size ≤ q) s.heap H locs := by
      obtain ⟨xStraight, xLeast, nPosts, nThirds, nCorners, nSums, nArrows, aBehind, aAhead, aCells, aBefore, aAfter, gCorners, gLowest, gFirst, gFresh, gThere, gRow, gPlaces, gOver, gVia, gQueue, bTold, bStraight, bLeast, bPostsOf, bSets, bTotals, mPosts, mThirds, mStraight, mLeast, mIsLaid, mIsGiven, mActs, mDone, mQueued, mCorner, mSum, mBeyond, mAct, mMark, mSpare, mLack, mBefore, mVia, mQueue, hI, hH⟩ := h
      exact hH.2.2
    refine lv_iload_n C.1.1 C.1.2.1 dL_law_18 rfl (lv_at hl 0 rfl) ?_
    refine lv_aload_n C.1.1 C.1.2.1 dL_law_19 rfl (lv_at hl 3 rfl) ?_
    refine va_slen C.1.1 C.1.2.1 hX hbl hbA hS dL_law_20 ?_
    rw [eL]
    refine lv_iconst C.1.1 C.1.2.1 dL_law_21 (v := J 4) rfl ?_
    refine lv_isub C.1.1 C.1.2.1 dL_law_22 ?_
    rw [J_sub]
    refine lv_icmp_gt (tgt := 597) C.1.1 C.1.2.1 dL_law_23 (by decide) (fun _ => ?_) (fun g => absurd ((J_lt ⟨by omega, by omega⟩ ⟨by omega, by omega⟩).mpr (by omega)) g)
    refine lv_iconst C.1.1 C.1.2.1 dL_law_597 (v := 1) (by decide) ?_
    refine va_forget hS.2.2 ?_
    exact lw_ret C.1.1 C.1.2.1 C.2.1 C.2.2.1 dL_law_598
  | succ k ih =>
    intro n hk hn H locs ls h hl
    have hS : va_S (fun q : Nat => s.heap.size ≤ q) s.heap H locs := by
      obtain ⟨xStraight, xLeast, nPosts, nThirds, nCorners, nSums, nArrows, aBehind, aAhead, aCells, aBefore, aAfter, gCorners, gLowest, gFirst, gFresh, gThere, gRow, gPlaces, gOver, gVia, gQueue, bTold, bStraight, bLeast, bPostsOf, bSets, bTotals, mPosts, mThirds, mStraight, mLeast, mIsLaid, mIsGiven, mActs, mDone, mQueued, mCorner, mSum, mBeyond, mAct, mMark, mSpare, mLack, mBefore, mVia, mQueue, hI, hH⟩ := h
      exact hH.2.2
    refine lv_iload_n C.1.1 C.1.2.1 dL_law_18 rfl (lv_at hl 0 rfl) ?_
    refine lv_aload_n C.1.1 C.1.2.1 dL_law_19 rfl (lv_at hl 3 rfl) ?_
    refine va_slen C.1.1 C.1.2.1 hX hbl hbA hS dL_law_20 ?_
    rw [eL]
    refine lv_iconst C.1.1 C.1.2.1 dL_law_21 (v := J 4) rfl ?_
    refine lv_isub C.1.1 C.1.2.1 dL_law_22 ?_
    rw [J_sub]
    refine lv_icmp_gt (tgt := 597) C.1.1 C.1.2.1 dL_law_23 (by decide) (fun _ => ?_) (fun g => ?_)
    · refine lv_iconst C.1.1 C.1.2.1 dL_law_597 (v := 1) (by decide) ?_
      refine va_forget hS.2.2 ?_
      exact lw_ret C.1.1 C.1.2.1 C.2.1 C.2.2.1 dL_law_598
    have hn3 : n + 3 < L := by
      have g2 : ¬ ((L : Int) - 4 < n) := fun q => g ((J_lt ⟨by omega, by omega⟩ ⟨by omega, by omega⟩).mpr q)
      omega
    have next : ∀ (H : Heap) (locs : List Loc), LI D cA (fun q => s.heap.size ≤ q) s aX aM H locs → W p l e room_1 s m #[Value.ref b] below meth c H locs 30 2394 (lw_Z below #[Value.ref b] s) (F0 m 591 ls []) := by
      intro H locs h
      refine lv_iinc (k := 0) (v := J ((n + 4 : Nat) : Int)) (lv' := [(3, .int (J ((n + 4 : Nat) : Int))), (2, .ref (aM 0)), (1, .ref (aX 0)), (0, .ref b)]) C.1.1 C.1.2.1 dL_law_591 hl rfl ?_ (by decide) rfl (fun ls hl => ?_)
      · show J (n : Int) + J 4 = _
        rw [J_add]
        rfl
      refine lv_goto (tgt := 18) C.1.1 C.1.2.1 dL_law_594 (by decide) ?_
      exact ih (n + 4) (by omega) (by omega) H locs ls h hl
    obtain ⟨h1, h2⟩ := jin (i := (n : Int)) (n := L) ⟨by omega, by omega⟩ (by omega)
    refine lv_aload_n C.1.1 C.1.2.1 dL_law_26 rfl (lv_at hl 3 rfl) ?_
    refine lv_iload_n C.1.1 C.1.2.1 dL_law_27 rfl (lv_at hl 0 rfl) ?_
    refine va_sld C.1.1 C.1.2.1 hX hbl hbA hS h1 dL_law_28 ?_
    refine lv_bipush C.1.1 C.1.2.1 dL_law_29 (v := 31) (by decide) ?_
    refine lv_iand C.1.1 C.1.2.1 dL_law_31 ?_
    generalize (xs (J (n : Int)).toNatClampNeg &&& 31) = v
    by_cases hv : v.toInt < 0 ∨ 18 < v.toInt
    · exact lv_tableOut (tgt := 591) C.1.1 C.1.2.1 dL_law_32 hv (by decide) (next H locs h)
    have hv1 : ¬ v.toInt < 0 := fun g => hv (Or.inl g)
    have hv2 : ¬ 18 < v.toInt := fun g => hv (Or.inr g)
    have hv3 : v.toInt = 0 ∨ v.toInt = 1 ∨ v.toInt = 2 ∨ v.toInt = 3 ∨ v.toInt = 4 ∨ v.toInt = 5 ∨ v.toInt = 6 ∨ v.toInt = 7 ∨ v.toInt = 8 ∨ v.toInt = 9 ∨ v.toInt = 10 ∨ v.toInt = 11 ∨ v.toInt = 12 ∨ v.toInt = 13 ∨ v.toInt = 14 ∨ v.toInt = 15 ∨ v.toInt = 16 ∨ v.toInt = 17 ∨ v.toInt = 18 := by omega
    rcases hv3 with hv3 | hv3 | hv3 | hv3 | hv3 | hv3 | hv3 | hv3 | hv3 | hv3 | hv3 | hv3 | hv3 | hv3 | hv3 | hv3 | hv3 | hv3 | hv3
    · exact lv_tableIn (tgt := 124) C.1.1 C.1.2.1 dL_law_32 hv1 hv2 (by rw [hv3]; rfl) (by decide) (lc_posts C hX hbl hbA hL hn3 hl h next)
    · exact lv_tableIn (tgt := 147) C.1.1 C.1.2.1 dL_law_32 hv1 hv2 (by rw [hv3]; rfl) (by decide) (lc_third C hX hbl hbA hL hn3 hl h next)
    · exact lv_tableIn (tgt := 190) C.1.1 C.1.2.1 dL_law_32 hv1 hv2 (by rw [hv3]; rfl) (by decide) (lc_at C hX hbl hbA hL hn3 hl h next)
    · exact lv_tableIn (tgt := 213) C.1.1 C.1.2.1 dL_law_32 hv1 hv2 (by rw [hv3]; rfl) (by decide) (lc_side C hX hbl hbA hL hn3 hl h next)
    · exact lv_tableIn (tgt := 246) C.1.1 C.1.2.1 dL_law_32 hv1 hv2 (by rw [hv3]; rfl) (by decide) (lc_arrow C hX hbl hbA hL hn3 hl h next)
    · exact lv_tableIn (tgt := 279) C.1.1 C.1.2.1 dL_law_32 hv1 hv2 (by rw [hv3]; rfl) (by decide) (lc_turn C hX hbl hbA hL hn3 hl h next)
    · exact lv_tableIn (tgt := 312) C.1.1 C.1.2.1 dL_law_32 hv1 hv2 (by rw [hv3]; rfl) (by decide) (lc_about C hX hbl hbA hL hn3 hl h next)
    · exact lv_tableIn (tgt := 345) C.1.1 C.1.2.1 dL_law_32 hv1 hv2 (by rw [hv3]; rfl) (by decide) (lc_told C hX hbl hbA hL hn3 hl h next)
    · exact lv_tableIn (tgt := 368) C.1.1 C.1.2.1 dL_law_32 hv1 hv2 (by rw [hv3]; rfl) (by decide) (lc_straight C hX hbl hbA hL hn3 hl h next)
    · exact lv_tableIn (tgt := 391) C.1.1 C.1.2.1 dL_law_32 hv1 hv2 (by rw [hv3]; rfl) (by decide) (lc_least C hX hbl hbA hL hn3 hl h next)
    · exact lv_tableIn (tgt := 414) C.1.1 C.1.2.1 dL_law_32 hv1 hv2 (by rw [hv3]; rfl) (by decide) (lc_tell C hX hbl hbA hL hn3 hl h next)
    · exact lv_tableIn (tgt := 447) C.1.1 C.1.2.1 dL_law_32 hv1 hv2 (by rw [hv3]; rfl) (by decide) (lc_can C hX hbl hbA hL hn3 hl h next)
    · exact lv_tableIn (tgt := 460) C.1.1 C.1.2.1 dL_law_32 hv1 hv2 (by rw [hv3]; rfl) (by decide) (lc_angle C hX hbl hbA hL hn3 hl h next)
    · exact lv_tableIn (tgt := 483) C.1.1 C.1.2.1 dL_law_32 hv1 hv2 (by rw [hv3]; rfl) (by decide) (lc_best C hX hbl hbA hL hn3 hl h next)
    · exact lv_tableIn (tgt := 496) C.1.1 C.1.2.1 dL_law_32 hv1 hv2 (by rw [hv3]; rfl) (by decide) (lc_bar C hX hbl hbA hL hn3 hl h next)
    · exact lv_tableIn (tgt := 519) C.1.1 C.1.2.1 dL_law_32 hv1 hv2 (by rw [hv3]; rfl) (by decide) (lc_opposite C hX hbl hbA hL hn3 hl h next)
    · exact lv_tableIn (tgt := 552) C.1.1 C.1.2.1 dL_law_32 hv1 hv2 (by rw [hv3]; rfl) (by decide) (lc_fit C hX hbl hbA hL hn3 hl h next)
    · exact lv_tableIn (tgt := 565) C.1.1 C.1.2.1 dL_law_32 hv1 hv2 (by rw [hv3]; rfl) (by decide) (lc_undo C hX hbl hbA hL hn3 hl h next)
    · exact lv_tableIn (tgt := 578) C.1.1 C.1.2.1 dL_law_32 hv1 hv2 (by rw [hv3]; rfl) (by decide) (lc_redo C hX hbl hbA hL hn3 hl h next)

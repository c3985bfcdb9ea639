abbrev rm_X0_init : Room := { frames := 1, cells := 3, slots := 360, locals := 12 }
set_option maxRecDepth 20000 in
theorem c_X0_init {l : Launch} {D : va_G} {cA : ClassId} {q0 sz : Nat} : Met l yX0_init (.code yX0_init cX0_init 1 none :: lw_ok) rm_X0_init (xPre D cA sz [.ref q0] [(q0, .inr (0, [.null, .null, .null, .int (J 0), .int (J 0)]))]) (va_Qv (fun w => ∃ q1 q2 q3 : Nat, w = [(q0, .inr (0, [.ref q1, .ref q2, .ref q3, .int (J 0), .int (J 0)])), zarr cA q1 120, zarr cA q2 120, zarr cA q3 120]) (xB D cA (va_A [(q0, .inr (0, [.null, .null, .null, .int (J 0), .int (J 0)]))] sz)) (va_A [(q0, .inr (0, [.null, .null, .null, .int (J 0), .int (J 0)]))] sz)) 3 360 (va_A [(q0, .inr (0, [.null, .null, .null, .int (J 0), .int (J 0)]))] sz) := by
  refine kmet_v (by decide) rfl (Nat.le_of_ble_eq_true rfl) ?_
  intro p e s m args below meth c A ls C hin hH hl
  have C : XC p s m args meth c cX0_init 1 RX0 none D cA A := C
  have hl : lv_has ls 1 [(0, .ref q0)] := hl
  refine k_aload_n C dX0_init_0 (lv_at hl 0 rfl) ?_
  refine k_objInit C wl_X0_3 hl.1 (by decide) dX0_init_1 ?_
  refine k_aload_n C dX0_init_4 (lv_at hl 0 rfl) ?_
  refine k_bipush C (by decide +kernel) dX0_init_5 ?_
  refine k_newa C hH 120 rfl (by decide) (by decide) (by decide) dX0_init_7 (fun q1 H hH => ?_)
  have hH : XH D A s [(q0, .inr (0, [.null, .null, .null, .int (J 0), .int (J 0)])), zarr cA q1 120] H [] := hH
  refine k_putF C hin hH okX0 tyX0 tyX0_ok nmX0 0 rfl rfl 0 (by decide) wf_X0_11 rfl rfl rfl (tyX0_ok 0 (by decide)) rfl rfl (Nat.le_of_ble_eq_true rfl) dX0_init_9 (fun H locs hH => ?_)
  have hH : XH D A s [(q0, .inr (0, [.ref q1, .null, .null, .int (J 0), .int (J 0)])), zarr cA q1 120] H locs := hH
  refine k_aload_n C dX0_init_12 (lv_at hl 0 rfl) ?_
  refine k_bipush C (by decide +kernel) dX0_init_13 ?_
  refine k_newa C hH 120 rfl (by decide) (by decide) (by decide) dX0_init_15 (fun q2 H hH => ?_)
  have hH : XH D A s [(q0, .inr (0, [.ref q1, .null, .null, .int (J 0), .int (J 0)])), zarr cA q1 120, zarr cA q2 120] H locs := hH
  refine k_putF C hin hH okX0 tyX0 tyX0_ok nmX0 0 rfl rfl 1 (by decide) wf_X0_15 rfl rfl rfl (tyX0_ok 1 (by decide)) rfl rfl (Nat.le_of_ble_eq_true rfl) dX0_init_17 (fun H locs hH => ?_)
  have hH : XH D A s [(q0, .inr (0, [.ref q1, .ref q2, .null, .int (J 0), .int (J 0)])), zarr cA q1 120, zarr cA q2 120] H locs := hH
  refine k_aload_n C dX0_init_20 (lv_at hl 0 rfl) ?_
  refine k_bipush C (by decide +kernel) dX0_init_21 ?_
  refine k_newa C hH 120 rfl (by decide) (by decide) (by decide) dX0_init_23 (fun q3 H hH => ?_)
  have hH : XH D A s [(q0, .inr (0, [.ref q1, .ref q2, .null, .int (J 0), .int (J 0)])), zarr cA q1 120, zarr cA q2 120, zarr cA q3 120] H locs := hH
  refine k_putF C hin hH okX0 tyX0 tyX0_ok nmX0 0 rfl rfl 2 (by decide) wf_X0_18 rfl rfl rfl (tyX0_ok 2 (by decide)) rfl rfl (Nat.le_of_ble_eq_true rfl) dX0_init_25 (fun H locs hH => ?_)
  have hH : XH D A s [(q0, .inr (0, [.ref q1, .ref q2, .ref q3, .int (J 0), .int (J 0)])), zarr cA q1 120, zarr cA q2 120, zarr cA q3 120] H locs := hH
  exact k_vret C hH ⟨q1, q2, q3, rfl⟩ dX0_init_28
abbrev rm_X1_init : Room := { frames := 1, cells := 3, slots := 652, locals := 12 }
set_option maxRecDepth 20000 in
theorem c_X1_init {l : Launch} {D : va_G} {cA : ClassId} {q0 qn sz : Nat} : Met l yX1_init (.code yX1_init cX1_init 2 none :: lw_ok) rm_X1_init (xPre D cA sz [.ref q0, .ref qn] [(q0, .inr (1, [.null, .null, .null, .null, .int (J 0), .int (J 0), .int (J 0)]))]) (va_Qv (fun w => ∃ q1 q2 q3 : Nat, w = [(q0, .inr (1, [.ref qn, .ref q1, .ref q2, .ref q3, .int (J 0), .int (J 0), .int (J 0)])), zarr cA q1 12, zarr cA q2 128, zarr cA q3 512]) (xB D cA (va_A [(q0, .inr (1, [.null, .null, .null, .null, .int (J 0), .int (J 0), .int (J 0)]))] sz)) (va_A [(q0, .inr (1, [.null, .null, .null, .null, .int (J 0), .int (J 0), .int (J 0)]))] sz)) 3 652 (va_A [(q0, .inr (1, [.null, .null, .null, .null, .int (J 0), .int (J 0), .int (J 0)]))] sz) := by
  refine kmet_v (by decide) rfl (Nat.le_of_ble_eq_true rfl) ?_
  intro p e s m args below meth c A ls C hin hH hl
  have C : XC p s m args meth c cX1_init 2 RX1 none D cA A := C
  have hl : lv_has ls 2 [(0, .ref q0), (1, .ref qn)] := hl
  refine k_aload_n C dX1_init_0 (lv_at hl 0 rfl) ?_
  refine k_objInit C wl_X1_5 hl.1 (by decide) dX1_init_1 ?_
  refine k_aload_n C dX1_init_4 (lv_at hl 0 rfl) ?_
  refine k_aload_n C dX1_init_5 (lv_at hl 1 rfl) ?_
  refine k_putF C hin hH okX1 tyX1 tyX1_ok nmX1 0 rfl rfl 0 (by decide) wf_X1_11 rfl rfl rfl (tyX1_ok 0 (by decide)) rfl rfl (Nat.le_of_ble_eq_true rfl) dX1_init_6 (fun H locs hH => ?_)
  have hH : XH D A s [(q0, .inr (1, [.ref qn, .null, .null, .null, .int (J 0), .int (J 0), .int (J 0)]))] H locs := hH
  refine k_aload_n C dX1_init_9 (lv_at hl 0 rfl) ?_
  refine k_bipush C (by decide +kernel) dX1_init_10 ?_
  refine k_newa C hH 12 rfl (by decide) (by decide) (by decide) dX1_init_12 (fun q1 H hH => ?_)
  have hH : XH D A s [(q0, .inr (1, [.ref qn, .null, .null, .null, .int (J 0), .int (J 0), .int (J 0)])), zarr cA q1 12] H locs := hH
  refine k_putF C hin hH okX1 tyX1 tyX1_ok nmX1 0 rfl rfl 1 (by decide) wf_X1_15 rfl rfl rfl (tyX1_ok 1 (by decide)) rfl rfl (Nat.le_of_ble_eq_true rfl) dX1_init_14 (fun H locs hH => ?_)
  have hH : XH D A s [(q0, .inr (1, [.ref qn, .ref q1, .null, .null, .int (J 0), .int (J 0), .int (J 0)])), zarr cA q1 12] H locs := hH
  refine k_aload_n C dX1_init_17 (lv_at hl 0 rfl) ?_
  refine k_sipush C (by decide +kernel) dX1_init_18 ?_
  refine k_newa C hH 128 rfl (by decide) (by decide) (by decide) dX1_init_21 (fun q2 H hH => ?_)
  have hH : XH D A s [(q0, .inr (1, [.ref qn, .ref q1, .null, .null, .int (J 0), .int (J 0), .int (J 0)])), zarr cA q1 12, zarr cA q2 128] H locs := hH
  refine k_putF C hin hH okX1 tyX1 tyX1_ok nmX1 0 rfl rfl 2 (by decide) wf_X1_19 rfl rfl rfl (tyX1_ok 2 (by decide)) rfl rfl (Nat.le_of_ble_eq_true rfl) dX1_init_23 (fun H locs hH => ?_)
  have hH : XH D A s [(q0, .inr (1, [.ref qn, .ref q1, .ref q2, .null, .int (J 0), .int (J 0), .int (J 0)])), zarr cA q1 12, zarr cA q2 128] H locs := hH
  refine k_aload_n C dX1_init_26 (lv_at hl 0 rfl) ?_
  refine k_sipush C (by decide +kernel) dX1_init_27 ?_
  refine k_newa C hH 512 rfl (by decide) (by decide) (by decide) dX1_init_30 (fun q3 H hH => ?_)
  have hH : XH D A s [(q0, .inr (1, [.ref qn, .ref q1, .ref q2, .null, .int (J 0), .int (J 0), .int (J 0)])), zarr cA q1 12, zarr cA q2 128, zarr cA q3 512] H locs := hH
  refine k_putF C hin hH okX1 tyX1 tyX1_ok nmX1 0 rfl rfl 3 (by decide) wf_X1_22 rfl rfl rfl (tyX1_ok 3 (by decide)) rfl rfl (Nat.le_of_ble_eq_true rfl) dX1_init_32 (fun H locs hH => ?_)
  have hH : XH D A s [(q0, .inr (1, [.ref qn, .ref q1, .ref q2, .ref q3, .int (J 0), .int (J 0), .int (J 0)])), zarr cA q1 12, zarr cA q2 128, zarr cA q3 512] H locs := hH
  exact k_vret C hH ⟨q1, q2, q3, rfl⟩ dX1_init_35
abbrev rm_X2_init : Room := { frames := 1, cells := 5, slots := 126, locals := 12 }
set_option maxRecDepth 20000 in
theorem c_X2_init {l : Launch} {D : va_G} {cA : ClassId} {q0 qn sz : Nat} : Met l yX2_init (.code yX2_init cX2_init 2 none :: lw_ok) rm_X2_init (xPre D cA sz [.ref q0, .ref qn] [(q0, .inr (2, [.null, .null, .null, .null, .null, .null, .int (J 0), .int (J 0), .int (J 0), .int (J 0), .int (J 0)]))]) (va_Qv (fun w => ∃ q1 q2 q3 q4 q5 : Nat, w = [(q0, .inr (2, [.ref qn, .ref q1, .ref q2, .ref q3, .ref q4, .ref q5, .int (J 0), .int (J 0), .int (J 0), .int (J 0), .int (J 0)])), zarr cA q1 36, zarr cA q2 36, zarr cA q3 10, zarr cA q4 22, zarr cA q5 22]) (xB D cA (va_A [(q0, .inr (2, [.null, .null, .null, .null, .null, .null, .int (J 0), .int (J 0), .int (J 0), .int (J 0), .int (J 0)]))] sz)) (va_A [(q0, .inr (2, [.null, .null, .null, .null, .null, .null, .int (J 0), .int (J 0), .int (J 0), .int (J 0), .int (J 0)]))] sz)) 5 126 (va_A [(q0, .inr (2, [.null, .null, .null, .null, .null, .null, .int (J 0), .int (J 0), .int (J 0), .int (J 0), .int (J 0)]))] sz) := by
  refine kmet_v (by decide) rfl (Nat.le_of_ble_eq_true rfl) ?_
  intro p e s m args below meth c A ls C hin hH hl
  have C : XC p s m args meth c cX2_init 2 RX2 none D cA A := C
  have hl : lv_has ls 2 [(0, .ref q0), (1, .ref qn)] := hl
  refine k_aload_n C dX2_init_0 (lv_at hl 0 rfl) ?_
  refine k_objInit C wl_X2_5 hl.1 (by decide) dX2_init_1 ?_
  refine k_aload_n C dX2_init_4 (lv_at hl 0 rfl) ?_
  refine k_aload_n C dX2_init_5 (lv_at hl 1 rfl) ?_
  refine k_putF C hin hH okX2 tyX2 tyX2_ok nmX2 0 rfl rfl 0 (by decide) wf_X2_11 rfl rfl rfl (tyX2_ok 0 (by decide)) rfl rfl (Nat.le_of_ble_eq_true rfl) dX2_init_6 (fun H locs hH => ?_)
  have hH : XH D A s [(q0, .inr (2, [.ref qn, .null, .null, .null, .null, .null, .int (J 0), .int (J 0), .int (J 0), .int (J 0), .int (J 0)]))] H locs := hH
  refine k_aload_n C dX2_init_9 (lv_at hl 0 rfl) ?_
  refine k_bipush C (by decide +kernel) dX2_init_10 ?_
  refine k_newa C hH 36 rfl (by decide) (by decide) (by decide) dX2_init_12 (fun q1 H hH => ?_)
  have hH : XH D A s [(q0, .inr (2, [.ref qn, .null, .null, .null, .null, .null, .int (J 0), .int (J 0), .int (J 0), .int (J 0), .int (J 0)])), zarr cA q1 36] H locs := hH
  refine k_putF C hin hH okX2 tyX2 tyX2_ok nmX2 0 rfl rfl 1 (by decide) wf_X2_15 rfl rfl rfl (tyX2_ok 1 (by decide)) rfl rfl (Nat.le_of_ble_eq_true rfl) dX2_init_14 (fun H locs hH => ?_)
  have hH : XH D A s [(q0, .inr (2, [.ref qn, .ref q1, .null, .null, .null, .null, .int (J 0), .int (J 0), .int (J 0), .int (J 0), .int (J 0)])), zarr cA q1 36] H locs := hH
  refine k_aload_n C dX2_init_17 (lv_at hl 0 rfl) ?_
  refine k_bipush C (by decide +kernel) dX2_init_18 ?_
  refine k_newa C hH 36 rfl (by decide) (by decide) (by decide) dX2_init_20 (fun q2 H hH => ?_)
  have hH : XH D A s [(q0, .inr (2, [.ref qn, .ref q1, .null, .null, .null, .null, .int (J 0), .int (J 0), .int (J 0), .int (J 0), .int (J 0)])), zarr cA q1 36, zarr cA q2 36] H locs := hH
  refine k_putF C hin hH okX2 tyX2 tyX2_ok nmX2 0 rfl rfl 2 (by decide) wf_X2_19 rfl rfl rfl (tyX2_ok 2 (by decide)) rfl rfl (Nat.le_of_ble_eq_true rfl) dX2_init_22 (fun H locs hH => ?_)
  have hH : XH D A s [(q0, .inr (2, [.ref qn, .ref q1, .ref q2, .null, .null, .null, .int (J 0), .int (J 0), .int (J 0), .int (J 0), .int (J 0)])), zarr cA q1 36, zarr cA q2 36] H locs := hH
  refine k_aload_n C dX2_init_25 (lv_at hl 0 rfl) ?_
  refine k_bipush C (by decide +kernel) dX2_init_26 ?_
  refine k_newa C hH 10 rfl (by decide) (by decide) (by decide) dX2_init_28 (fun q3 H hH => ?_)
  have hH : XH D A s [(q0, .inr (2, [.ref qn, .ref q1, .ref q2, .null, .null, .null, .int (J 0), .int (J 0), .int (J 0), .int (J 0), .int (J 0)])), zarr cA q1 36, zarr cA q2 36, zarr cA q3 10] H locs := hH
  refine k_putF C hin hH okX2 tyX2 tyX2_ok nmX2 0 rfl rfl 3 (by decide) wf_X2_22 rfl rfl rfl (tyX2_ok 3 (by decide)) rfl rfl (Nat.le_of_ble_eq_true rfl) dX2_init_30 (fun H locs hH => ?_)
  have hH : XH D A s [(q0, .inr (2, [.ref qn, .ref q1, .ref q2, .ref q3, .null, .null, .int (J 0), .int (J 0), .int (J 0), .int (J 0), .int (J 0)])), zarr cA q1 36, zarr cA q2 36, zarr cA q3 10] H locs := hH
  refine k_aload_n C dX2_init_33 (lv_at hl 0 rfl) ?_
  refine k_bipush C (by decide +kernel) dX2_init_34 ?_
  refine k_newa C hH 22 rfl (by decide) (by decide) (by decide) dX2_init_36 (fun q4 H hH => ?_)
  have hH : XH D A s [(q0, .inr (2, [.ref qn, .ref q1, .ref q2, .ref q3, .null, .null, .int (J 0), .int (J 0), .int (J 0), .int (J 0), .int (J 0)])), zarr cA q1 36, zarr cA q2 36, zarr cA q3 10, zarr cA q4 22] H locs := hH
  refine k_putF C hin hH okX2 tyX2 tyX2_ok nmX2 0 rfl rfl 4 (by decide) wf_X2_25 rfl rfl rfl (tyX2_ok 4 (by decide)) rfl rfl (Nat.le_of_ble_eq_true rfl) dX2_init_38 (fun H locs hH => ?_)
  have hH : XH D A s [(q0, .inr (2, [.ref qn, .ref q1, .ref q2, .ref q3, .ref q4, .null, .int (J 0), .int (J 0), .int (J 0), .int (J 0), .int (J 0)])), zarr cA q1 36, zarr cA q2 36, zarr cA q3 10, zarr cA q4 22] H locs := hH
  refine k_aload_n C dX2_init_41 (lv_at hl 0 rfl) ?_
  refine k_bipush C (by decide +kernel) dX2_init_42 ?_
  refine k_newa C hH 22 rfl (by decide) (by decide) (by decide) dX2_init_44 (fun q5 H hH => ?_)
  have hH : XH D A s [(q0, .inr (2, [.ref qn, .ref q1, .ref q2, .ref q3, .ref q4, .null, .int (J 0), .int (J 0), .int (J 0), .int (J 0), .int (J 0)])), zarr cA q1 36, zarr cA q2 36, zarr cA q3 10, zarr cA q4 22, zarr cA q5 22] H locs := hH
  refine k_putF C hin hH okX2 tyX2 tyX2_ok nmX2 0 rfl rfl 5 (by decide) wf_X2_28 rfl rfl rfl (tyX2_ok 5 (by decide)) rfl rfl (Nat.le_of_ble_eq_true rfl) dX2_init_46 (fun H locs hH => ?_)
  have hH : XH D A s [(q0, .inr (2, [.ref qn, .ref q1, .ref q2, .ref q3, .ref q4, .ref q5, .int (J 0), .int (J 0), .int (J 0), .int (J 0), .int (J 0)])), zarr cA q1 36, zarr cA q2 36, zarr cA q3 10, zarr cA q4 22, zarr cA q5 22] H locs := hH
  exact k_vret C hH ⟨q1, q2, q3, q4, q5, rfl⟩ dX2_init_49
abbrev rm_X3_init : Room := { frames := 1, cells := 3, slots := 126, locals := 23 }
set_option maxRecDepth 20000 in
theorem c_X3_init {l : Launch} {D : va_G} {cA : ClassId} {q0 sz : Nat} : Met l yX3_init (.code yX3_init cX3_init 1 none :: lw_ok) rm_X3_init (xPre D cA sz [.ref q0] [(q0, .inr (3, [.null, .null, .null, .int (J 0), .int (J 0)]))]) (va_Qv (fun w => ∃ q1 q2 q3 : Nat, w = [(q0, .inr (3, [.ref q1, .ref q2, .ref q3, .int (J 4), .int (J 0)])), zarr cA q1 36, (q2, .inl (cA, 9, .inl (jf (fillf (fun _ => 0) 9 (-1))))), (q3, .inl (cA, 81, .inl (jf (fillf (fun _ => 0) 81 (-1)))))]) (xB D cA (va_A [(q0, .inr (3, [.null, .null, .null, .int (J 0), .int (J 0)]))] sz)) (va_A [(q0, .inr (3, [.null, .null, .null, .int (J 0), .int (J 0)]))] sz)) 3 126 (va_A [(q0, .inr (3, [.null, .null, .null, .int (J 0), .int (J 0)]))] sz) := by
  refine kmet_v (by decide) rfl (Nat.le_of_ble_eq_true rfl) ?_
  intro p e s m args below meth c A ls C hin hH hl
  have C : XC p s m args meth c cX3_init 1 RX3 none D cA A := C
  have hl : lv_has ls 1 [(0, .ref q0)] := hl
  refine k_aload_n C dX3_init_0 (lv_at hl 0 rfl) ?_
  refine k_objInit C wl_X3_5 hl.1 (by decide) dX3_init_1 ?_
  refine k_aload_n C dX3_init_4 (lv_at hl 0 rfl) ?_
  refine k_bipush C (by decide +kernel) dX3_init_5 ?_
  refine k_newa C hH 36 rfl (by decide) (by decide) (by decide) dX3_init_7 (fun q1 H hH => ?_)
  have hH : XH D A s [(q0, .inr (3, [.null, .null, .null, .int (J 0), .int (J 0)])), zarr cA q1 36] H [] := hH
  refine k_putF C hin hH okX3 tyX3 tyX3_ok nmX3 0 rfl rfl 0 (by decide) wf_X3_11 rfl rfl rfl (tyX3_ok 0 (by decide)) rfl rfl (Nat.le_of_ble_eq_true rfl) dX3_init_9 (fun H locs hH => ?_)
  have hH : XH D A s [(q0, .inr (3, [.ref q1, .null, .null, .int (J 0), .int (J 0)])), zarr cA q1 36] H locs := hH
  refine k_aload_n C dX3_init_12 (lv_at hl 0 rfl) ?_
  refine k_bipush C (by decide +kernel) dX3_init_13 ?_
  refine k_newa C hH 9 rfl (by decide) (by decide) (by decide) dX3_init_15 (fun q2 H hH => ?_)
  have hH : XH D A s [(q0, .inr (3, [.ref q1, .null, .null, .int (J 0), .int (J 0)])), zarr cA q1 36, zarr cA q2 9] H locs := hH
  refine k_putF C hin hH okX3 tyX3 tyX3_ok nmX3 0 rfl rfl 1 (by decide) wf_X3_15 rfl rfl rfl (tyX3_ok 1 (by decide)) rfl rfl (Nat.le_of_ble_eq_true rfl) dX3_init_17 (fun H locs hH => ?_)
  have hH : XH D A s [(q0, .inr (3, [.ref q1, .ref q2, .null, .int (J 0), .int (J 0)])), zarr cA q1 36, zarr cA q2 9] H locs := hH
  refine k_aload_n C dX3_init_20 (lv_at hl 0 rfl) ?_
  refine k_bipush C (by decide +kernel) dX3_init_21 ?_
  refine k_newa C hH 81 rfl (by decide) (by decide) (by decide) dX3_init_23 (fun q3 H hH => ?_)
  have hH : XH D A s [(q0, .inr (3, [.ref q1, .ref q2, .null, .int (J 0), .int (J 0)])), zarr cA q1 36, zarr cA q2 9, zarr cA q3 81] H locs := hH
  refine k_putF C hin hH okX3 tyX3 tyX3_ok nmX3 0 rfl rfl 2 (by decide) wf_X3_18 rfl rfl rfl (tyX3_ok 2 (by decide)) rfl rfl (Nat.le_of_ble_eq_true rfl) dX3_init_25 (fun H locs hH => ?_)
  have hH : XH D A s [(q0, .inr (3, [.ref q1, .ref q2, .ref q3, .int (J 0), .int (J 0)])), zarr cA q1 36, zarr cA q2 9, zarr cA q3 81] H locs := hH
  refine k_aload_n C dX3_init_28 (lv_at hl 0 rfl) ?_
  refine k_iconst C dX3_init_29 ?_
  refine k_put C hH okX3 tyX3 tyX3_ok nmX3 0 rfl rfl 3 (by decide) wf_X3_21 rfl rfl (tyX3_ok 3 (by decide)) rfl rfl (Nat.le_of_ble_eq_true rfl) dX3_init_30 (fun H locs hH => ?_)
  have hH : XH D A s [(q0, .inr (3, [.ref q1, .ref q2, .ref q3, .int (J 4), .int (J 0)])), zarr cA q1 36, zarr cA q2 9, zarr cA q3 81] H locs := hH
  refine k_aload_n C dX3_init_33 (lv_at hl 0 rfl) ?_
  refine k_iconst C dX3_init_34 ?_
  refine k_put C hH okX3 tyX3 tyX3_ok nmX3 0 rfl rfl 4 (by decide) wf_X3_25 rfl rfl (tyX3_ok 4 (by decide)) rfl rfl (Nat.le_of_ble_eq_true rfl) dX3_init_35 (fun H locs hH => ?_)
  have hH : XH D A s [(q0, .inr (3, [.ref q1, .ref q2, .ref q3, .int (J 4), .int (J 0)])), zarr cA q1 36, zarr cA q2 9, zarr cA q3 81] H locs := hH
  refine k_aload_n C dX3_init_38 (lv_at hl 0 rfl) ?_
  refine k_get C hH okX3 0 rfl rfl 1 (by decide) wf_X3_15 rfl rfl dX3_init_39 ?_
  refine k_iconst C dX3_init_42 ?_
  refine k_callS_v (As := [.ref q2, .int (J (-1))]) (rest := []) C hH (fun sz => c_I_fill (b := q2) (n := 9) (f := fun _ => 0) (v := -1) 2 rfl (by decide)) xl_X3_28 ⟨rfl, rfl⟩ (by decide) (by decide) hl.1 rfl rfl (by decide) dX3_init_43 (fun w H locs hw hH => ?_)
  subst hw
  have hH : XH D A s [(q0, .inr (3, [.ref q1, .ref q2, .ref q3, .int (J 4), .int (J 0)])), zarr cA q1 36, (q2, .inl (cA, 9, .inl (jf (fillf (fun _ => 0) 9 (-1))))), zarr cA q3 81] H locs := hH
  refine k_aload_n C dX3_init_46 (lv_at hl 0 rfl) ?_
  refine k_get C hH okX3 0 rfl rfl 2 (by decide) wf_X3_18 rfl rfl dX3_init_47 ?_
  refine k_iconst C dX3_init_50 ?_
  refine k_callS_v (As := [.ref q3, .int (J (-1))]) (rest := []) C hH (fun sz => c_I_fill (b := q3) (n := 81) (f := fun _ => 0) (v := -1) 3 rfl (by decide)) xl_X3_28 ⟨rfl, rfl⟩ (by decide) (by decide) hl.1 rfl rfl (by decide) dX3_init_51 (fun w H locs hw hH => ?_)
  subst hw
  have hH : XH D A s [(q0, .inr (3, [.ref q1, .ref q2, .ref q3, .int (J 4), .int (J 0)])), zarr cA q1 36, (q2, .inl (cA, 9, .inl (jf (fillf (fun _ => 0) 9 (-1))))), (q3, .inl (cA, 81, .inl (jf (fillf (fun _ => 0) 81 (-1)))))] H locs := hH
  exact k_vret C hH ⟨q1, q2, q3, rfl⟩ dX3_init_54
abbrev rm_X4_init : Room := { frames := 2, cells := 18, slots := 1292, locals := 43 }
set_option maxRecDepth 20000 in
theorem c_X4_init {l : Launch} {D : va_G} {cA : ClassId} {q0 sz : Nat} : Met l yX4_init (.code yX4_init cX4_init 1 none :: lw_ok) rm_X4_init (xPre D cA sz [.ref q0] [(q0, .inr (4, [.null, .null, .null, .null, .int (J 0), .int (J 0)]))]) (va_Qv (fun w => ∃ a : Nat → Nat, a 0 = q0 ∧ w = wX cA a 180 1 4 0 (fun _ => 0) (fillf (fun _ => 0) 9 (-1)) (fillf (fun _ => 0) 81 (-1)) 0 0 (fun _ => 0) (fun _ => 0) (fun _ => 0) 0 0 0 0 0 (fun _ => 0) (fun _ => 0) (fun _ => 0) (fun _ => 0) (fun _ => 0) 0 0 0 (fun _ => 0) (fun _ => 0) (fun _ => 0)) (xB D cA (va_A [(q0, .inr (4, [.null, .null, .null, .null, .int (J 0), .int (J 0)]))] sz)) (va_A [(q0, .inr (4, [.null, .null, .null, .null, .int (J 0), .int (J 0)]))] sz)) 18 1292 (va_A [(q0, .inr (4, [.null, .null, .null, .null, .int (J 0), .int (J 0)]))] sz) := by
  refine kmet_v (by decide) rfl (Nat.le_of_ble_eq_true rfl) ?_
  intro p e s m args below meth c A ls C hin hH hl
  have C : XC p s m args meth c cX4_init 1 RX4 none D cA A := C
  have hl : lv_has ls 1 [(0, .ref q0)] := hl
  refine k_aload_n C dX4_init_0 (lv_at hl 0 rfl) ?_
  refine k_objInit C wl_X4_3 hl.1 (by decide) dX4_init_1 ?_
  refine k_aload_n C dX4_init_4 (lv_at hl 0 rfl) ?_
  refine k_new C hH (ci := 3) okX3 tyX3 tyX3_ok wq_X4_9 wx_X3 wi_X3 rfl [.null, .null, .null, .int (J 0), .int (J 0)] (by decide +kernel) (by decide) (by decide) dX4_init_5 (fun q1 H hH => ?_)
  have hH : XH D A s [(q0, .inr (4, [.null, .null, .null, .null, .int (J 0), .int (J 0)])), (q1, .inr (3, [.null, .null, .null, .int (J 0), .int (J 0)]))] H [] := hH
  refine k_dup C dX4_init_8 ?_
  refine k_init (As := []) (rest := [.ref q1, .ref q0]) (k := 0) C hH (wc := [(q1, .inr (3, [.null, .null, .null, .int (J 0), .int (J 0)]))]) (wr := [(q0, .inr (4, [.null, .null, .null, .null, .int (J 0), .int (J 0)]))]) [1] [0] ⟨⟨rfl, rfl⟩, rfl, by decide, by decide, by decide⟩ (fun sz => c_X3_init) ⟨wl_X4_11, wm_X3_init, wi_X3, wc_X3_init, by decide +kernel, rfl⟩ ⟨rfl, rfl⟩ (by decide) (by decide) hl.1 rfl rfl (Nat.le_of_ble_eq_true rfl) dX4_init_9 (fun w H locs hw hH => ?_)
  obtain ⟨q1_1, q1_2, q1_3, rfl⟩ := hw
  have hH : XH D A s [(q0, .inr (4, [.null, .null, .null, .null, .int (J 0), .int (J 0)])), (q1, .inr (3, [.ref q1_1, .ref q1_2, .ref q1_3, .int (J 4), .int (J 0)])), zarr cA q1_1 36, (q1_2, .inl (cA, 9, .inl (jf (fillf (fun _ => 0) 9 (-1))))), (q1_3, .inl (cA, 81, .inl (jf (fillf (fun _ => 0) 81 (-1)))))] H locs := hH
  refine k_putF C hin hH okX4 tyX4 tyX4_ok nmX4 0 rfl rfl 0 (by decide) wf_X4_12 rfl rfl rfl (tyX4_ok 0 (by decide)) rfl rfl (Nat.le_of_ble_eq_true rfl) dX4_init_12 (fun H locs hH => ?_)
  have hH : XH D A s [(q0, .inr (4, [.ref q1, .null, .null, .null, .int (J 0), .int (J 0)])), (q1, .inr (3, [.ref q1_1, .ref q1_2, .ref q1_3, .int (J 4), .int (J 0)])), zarr cA q1_1 36, (q1_2, .inl (cA, 9, .inl (jf (fillf (fun _ => 0) 9 (-1))))), (q1_3, .inl (cA, 81, .inl (jf (fillf (fun _ => 0) 81 (-1)))))] H locs := hH
  refine k_aload_n C dX4_init_15 (lv_at hl 0 rfl) ?_
  refine k_new C hH (ci := 0) okX0 tyX0 tyX0_ok wq_X4_16 wx_X0 wi_X0 rfl [.null, .null, .null, .int (J 0), .int (J 0)] (by decide +kernel) (by decide) (by decide) dX4_init_16 (fun q2 H hH => ?_)
  have hH : XH D A s [(q0, .inr (4, [.ref q1, .null, .null, .null, .int (J 0), .int (J 0)])), (q1, .inr (3, [.ref q1_1, .ref q1_2, .ref q1_3, .int (J 4), .int (J 0)])), zarr cA q1_1 36, (q1_2, .inl (cA, 9, .inl (jf (fillf (fun _ => 0) 9 (-1))))), (q1_3, .inl (cA, 81, .inl (jf (fillf (fun _ => 0) 81 (-1))))), (q2, .inr (0, [.null, .null, .null, .int (J 0), .int (J 0)]))] H locs := hH
  refine k_dup C dX4_init_19 ?_
  refine k_init (As := []) (rest := [.ref q2, .ref q0]) (k := 0) C hH (wc := [(q2, .inr (0, [.null, .null, .null, .int (J 0), .int (J 0)]))]) (wr := [(q0, .inr (4, [.ref q1, .null, .null, .null, .int (J 0), .int (J 0)])), (q1, .inr (3, [.ref q1_1, .ref q1_2, .ref q1_3, .int (J 4), .int (J 0)])), zarr cA q1_1 36, (q1_2, .inl (cA, 9, .inl (jf (fillf (fun _ => 0) 9 (-1))))), (q1_3, .inl (cA, 81, .inl (jf (fillf (fun _ => 0) 81 (-1)))))]) [5] [0, 1, 2, 3, 4] ⟨⟨rfl, rfl⟩, rfl, by decide, by decide, by decide⟩ (fun sz => c_X0_init) ⟨wl_X4_18, wm_X0_init, wi_X0, wc_X0_init, by decide +kernel, rfl⟩ ⟨rfl, rfl⟩ (by decide) (by decide) hl.1 rfl rfl (Nat.le_of_ble_eq_true rfl) dX4_init_20 (fun w H locs hw hH => ?_)
  obtain ⟨q2_1, q2_2, q2_3, rfl⟩ := hw
  have hH : XH D A s [(q0, .inr (4, [.ref q1, .null, .null, .null, .int (J 0), .int (J 0)])), (q1, .inr (3, [.ref q1_1, .ref q1_2, .ref q1_3, .int (J 4), .int (J 0)])), zarr cA q1_1 36, (q1_2, .inl (cA, 9, .inl (jf (fillf (fun _ => 0) 9 (-1))))), (q1_3, .inl (cA, 81, .inl (jf (fillf (fun _ => 0) 81 (-1))))), (q2, .inr (0, [.ref q2_1, .ref q2_2, .ref q2_3, .int (J 0), .int (J 0)])), zarr cA q2_1 120, zarr cA q2_2 120, zarr cA q2_3 120] H locs := hH
  refine k_putF C hin hH okX4 tyX4 tyX4_ok nmX4 0 rfl rfl 1 (by decide) wf_X4_19 rfl rfl rfl (tyX4_ok 1 (by decide)) rfl rfl (Nat.le_of_ble_eq_true rfl) dX4_init_23 (fun H locs hH => ?_)
  have hH : XH D A s [(q0, .inr (4, [.ref q1, .ref q2, .null, .null, .int (J 0), .int (J 0)])), (q1, .inr (3, [.ref q1_1, .ref q1_2, .ref q1_3, .int (J 4), .int (J 0)])), zarr cA q1_1 36, (q1_2, .inl (cA, 9, .inl (jf (fillf (fun _ => 0) 9 (-1))))), (q1_3, .inl (cA, 81, .inl (jf (fillf (fun _ => 0) 81 (-1))))), (q2, .inr (0, [.ref q2_1, .ref q2_2, .ref q2_3, .int (J 0), .int (J 0)])), zarr cA q2_1 120, zarr cA q2_2 120, zarr cA q2_3 120] H locs := hH
  refine k_aload_n C dX4_init_26 (lv_at hl 0 rfl) ?_
  refine k_new C hH (ci := 2) okX2 tyX2 tyX2_ok wq_X4_23 wx_X2 wi_X2 rfl [.null, .null, .null, .null, .null, .null, .int (J 0), .int (J 0), .int (J 0), .int (J 0), .int (J 0)] (by decide +kernel) (by decide) (by decide) dX4_init_27 (fun q3 H hH => ?_)
  have hH : XH D A s [(q0, .inr (4, [.ref q1, .ref q2, .null, .null, .int (J 0), .int (J 0)])), (q1, .inr (3, [.ref q1_1, .ref q1_2, .ref q1_3, .int (J 4), .int (J 0)])), zarr cA q1_1 36, (q1_2, .inl (cA, 9, .inl (jf (fillf (fun _ => 0) 9 (-1))))), (q1_3, .inl (cA, 81, .inl (jf (fillf (fun _ => 0) 81 (-1))))), (q2, .inr (0, [.ref q2_1, .ref q2_2, .ref q2_3, .int (J 0), .int (J 0)])), zarr cA q2_1 120, zarr cA q2_2 120, zarr cA q2_3 120, (q3, .inr (2, [.null, .null, .null, .null, .null, .null, .int (J 0), .int (J 0), .int (J 0), .int (J 0), .int (J 0)]))] H locs := hH
  refine k_dup C dX4_init_30 ?_
  refine k_aload_n C dX4_init_31 (lv_at hl 0 rfl) ?_
  refine k_get C hH okX4 0 rfl rfl 0 (by decide) wf_X4_12 rfl rfl dX4_init_32 ?_
  refine k_init (As := [.ref q1]) (rest := [.ref q3, .ref q0]) (k := 1) C hH (wc := [(q3, .inr (2, [.null, .null, .null, .null, .null, .null, .int (J 0), .int (J 0), .int (J 0), .int (J 0), .int (J 0)]))]) (wr := [(q0, .inr (4, [.ref q1, .ref q2, .null, .null, .int (J 0), .int (J 0)])), (q1, .inr (3, [.ref q1_1, .ref q1_2, .ref q1_3, .int (J 4), .int (J 0)])), zarr cA q1_1 36, (q1_2, .inl (cA, 9, .inl (jf (fillf (fun _ => 0) 9 (-1))))), (q1_3, .inl (cA, 81, .inl (jf (fillf (fun _ => 0) 81 (-1))))), (q2, .inr (0, [.ref q2_1, .ref q2_2, .ref q2_3, .int (J 0), .int (J 0)])), zarr cA q2_1 120, zarr cA q2_2 120, zarr cA q2_3 120]) [9] [0, 1, 2, 3, 4, 5, 6, 7, 8] ⟨⟨rfl, rfl⟩, rfl, by decide, by decide, by decide⟩ (fun sz => c_X2_init) ⟨wl_X4_25, wm_X2_init, wi_X2, wc_X2_init, by decide +kernel, rfl⟩ ⟨rfl, rfl⟩ (by decide) (by decide) hl.1 rfl rfl (Nat.le_of_ble_eq_true rfl) dX4_init_35 (fun w H locs hw hH => ?_)
  obtain ⟨q3_1, q3_2, q3_3, q3_4, q3_5, rfl⟩ := hw
  have hH : XH D A s [(q0, .inr (4, [.ref q1, .ref q2, .null, .null, .int (J 0), .int (J 0)])), (q1, .inr (3, [.ref q1_1, .ref q1_2, .ref q1_3, .int (J 4), .int (J 0)])), zarr cA q1_1 36, (q1_2, .inl (cA, 9, .inl (jf (fillf (fun _ => 0) 9 (-1))))), (q1_3, .inl (cA, 81, .inl (jf (fillf (fun _ => 0) 81 (-1))))), (q2, .inr (0, [.ref q2_1, .ref q2_2, .ref q2_3, .int (J 0), .int (J 0)])), zarr cA q2_1 120, zarr cA q2_2 120, zarr cA q2_3 120, (q3, .inr (2, [.ref q1, .ref q3_1, .ref q3_2, .ref q3_3, .ref q3_4, .ref q3_5, .int (J 0), .int (J 0), .int (J 0), .int (J 0), .int (J 0)])), zarr cA q3_1 36, zarr cA q3_2 36, zarr cA q3_3 10, zarr cA q3_4 22, zarr cA q3_5 22] H locs := hH
  refine k_putF C hin hH okX4 tyX4 tyX4_ok nmX4 0 rfl rfl 2 (by decide) wf_X4_28 rfl rfl rfl (tyX4_ok 2 (by decide)) rfl rfl (Nat.le_of_ble_eq_true rfl) dX4_init_38 (fun H locs hH => ?_)
  have hH : XH D A s [(q0, .inr (4, [.ref q1, .ref q2, .ref q3, .null, .int (J 0), .int (J 0)])), (q1, .inr (3, [.ref q1_1, .ref q1_2, .ref q1_3, .int (J 4), .int (J 0)])), zarr cA q1_1 36, (q1_2, .inl (cA, 9, .inl (jf (fillf (fun _ => 0) 9 (-1))))), (q1_3, .inl (cA, 81, .inl (jf (fillf (fun _ => 0) 81 (-1))))), (q2, .inr (0, [.ref q2_1, .ref q2_2, .ref q2_3, .int (J 0), .int (J 0)])), zarr cA q2_1 120, zarr cA q2_2 120, zarr cA q2_3 120, (q3, .inr (2, [.ref q1, .ref q3_1, .ref q3_2, .ref q3_3, .ref q3_4, .ref q3_5, .int (J 0), .int (J 0), .int (J 0), .int (J 0), .int (J 0)])), zarr cA q3_1 36, zarr cA q3_2 36, zarr cA q3_3 10, zarr cA q3_4 22, zarr cA q3_5 22] H locs := hH
  refine k_aload_n C dX4_init_41 (lv_at hl 0 rfl) ?_
  refine k_new C hH (ci := 1) okX1 tyX1 tyX1_ok wq_X4_32 wx_X1 wi_X1 rfl [.null, .null, .null, .null, .int (J 0), .int (J 0), .int (J 0)] (by decide +kernel) (by decide) (by decide) dX4_init_42 (fun q4 H hH => ?_)
  have hH : XH D A s [(q0, .inr (4, [.ref q1, .ref q2, .ref q3, .null, .int (J 0), .int (J 0)])), (q1, .inr (3, [.ref q1_1, .ref q1_2, .ref q1_3, .int (J 4), .int (J 0)])), zarr cA q1_1 36, (q1_2, .inl (cA, 9, .inl (jf (fillf (fun _ => 0) 9 (-1))))), (q1_3, .inl (cA, 81, .inl (jf (fillf (fun _ => 0) 81 (-1))))), (q2, .inr (0, [.ref q2_1, .ref q2_2, .ref q2_3, .int (J 0), .int (J 0)])), zarr cA q2_1 120, zarr cA q2_2 120, zarr cA q2_3 120, (q3, .inr (2, [.ref q1, .ref q3_1, .ref q3_2, .ref q3_3, .ref q3_4, .ref q3_5, .int (J 0), .int (J 0), .int (J 0), .int (J 0), .int (J 0)])), zarr cA q3_1 36, zarr cA q3_2 36, zarr cA q3_3 10, zarr cA q3_4 22, zarr cA q3_5 22, (q4, .inr (1, [.null, .null, .null, .null, .int (J 0), .int (J 0), .int (J 0)]))] H locs := hH
  refine k_dup C dX4_init_45 ?_
  refine k_aload_n C dX4_init_46 (lv_at hl 0 rfl) ?_
  refine k_get C hH okX4 0 rfl rfl 0 (by decide) wf_X4_12 rfl rfl dX4_init_47 ?_
  refine k_init (As := [.ref q1]) (rest := [.ref q4, .ref q0]) (k := 1) C hH (wc := [(q4, .inr (1, [.null, .null, .null, .null, .int (J 0), .int (J 0), .int (J 0)]))]) (wr := [(q0, .inr (4, [.ref q1, .ref q2, .ref q3, .null, .int (J 0), .int (J 0)])), (q1, .inr (3, [.ref q1_1, .ref q1_2, .ref q1_3, .int (J 4), .int (J 0)])), zarr cA q1_1 36, (q1_2, .inl (cA, 9, .inl (jf (fillf (fun _ => 0) 9 (-1))))), (q1_3, .inl (cA, 81, .inl (jf (fillf (fun _ => 0) 81 (-1))))), (q2, .inr (0, [.ref q2_1, .ref q2_2, .ref q2_3, .int (J 0), .int (J 0)])), zarr cA q2_1 120, zarr cA q2_2 120, zarr cA q2_3 120, (q3, .inr (2, [.ref q1, .ref q3_1, .ref q3_2, .ref q3_3, .ref q3_4, .ref q3_5, .int (J 0), .int (J 0), .int (J 0), .int (J 0), .int (J 0)])), zarr cA q3_1 36, zarr cA q3_2 36, zarr cA q3_3 10, zarr cA q3_4 22, zarr cA q3_5 22]) [15] [0, 1, 2, 3, 4, 5, 6, 7, 8, 9, 10, 11, 12, 13, 14] ⟨⟨rfl, rfl⟩, rfl, by decide, by decide, by decide⟩ (fun sz => c_X1_init) ⟨wl_X4_34, wm_X1_init, wi_X1, wc_X1_init, by decide +kernel, rfl⟩ ⟨rfl, rfl⟩ (by decide) (by decide) hl.1 rfl rfl (Nat.le_of_ble_eq_true rfl) dX4_init_50 (fun w H locs hw hH => ?_)
  obtain ⟨q4_1, q4_2, q4_3, rfl⟩ := hw
  have hH : XH D A s [(q0, .inr (4, [.ref q1, .ref q2, .ref q3, .null, .int (J 0), .int (J 0)])), (q1, .inr (3, [.ref q1_1, .ref q1_2, .ref q1_3, .int (J 4), .int (J 0)])), zarr cA q1_1 36, (q1_2, .inl (cA, 9, .inl (jf (fillf (fun _ => 0) 9 (-1))))), (q1_3, .inl (cA, 81, .inl (jf (fillf (fun _ => 0) 81 (-1))))), (q2, .inr (0, [.ref q2_1, .ref q2_2, .ref q2_3, .int (J 0), .int (J 0)])), zarr cA q2_1 120, zarr cA q2_2 120, zarr cA q2_3 120, (q3, .inr (2, [.ref q1, .ref q3_1, .ref q3_2, .ref q3_3, .ref q3_4, .ref q3_5, .int (J 0), .int (J 0), .int (J 0), .int (J 0), .int (J 0)])), zarr cA q3_1 36, zarr cA q3_2 36, zarr cA q3_3 10, zarr cA q3_4 22, zarr cA q3_5 22, (q4, .inr (1, [.ref q1, .ref q4_1, .ref q4_2, .ref q4_3, .int (J 0), .int (J 0), .int (J 0)])), zarr cA q4_1 12, zarr cA q4_2 128, zarr cA q4_3 512] H locs := hH
  refine k_putF C hin hH okX4 tyX4 tyX4_ok nmX4 0 rfl rfl 3 (by decide) wf_X4_35 rfl rfl rfl (tyX4_ok 3 (by decide)) rfl rfl (Nat.le_of_ble_eq_true rfl) dX4_init_53 (fun H locs hH => ?_)
  have hH : XH D A s [(q0, .inr (4, [.ref q1, .ref q2, .ref q3, .ref q4, .int (J 0), .int (J 0)])), (q1, .inr (3, [.ref q1_1, .ref q1_2, .ref q1_3, .int (J 4), .int (J 0)])), zarr cA q1_1 36, (q1_2, .inl (cA, 9, .inl (jf (fillf (fun _ => 0) 9 (-1))))), (q1_3, .inl (cA, 81, .inl (jf (fillf (fun _ => 0) 81 (-1))))), (q2, .inr (0, [.ref q2_1, .ref q2_2, .ref q2_3, .int (J 0), .int (J 0)])), zarr cA q2_1 120, zarr cA q2_2 120, zarr cA q2_3 120, (q3, .inr (2, [.ref q1, .ref q3_1, .ref q3_2, .ref q3_3, .ref q3_4, .ref q3_5, .int (J 0), .int (J 0), .int (J 0), .int (J 0), .int (J 0)])), zarr cA q3_1 36, zarr cA q3_2 36, zarr cA q3_3 10, zarr cA q3_4 22, zarr cA q3_5 22, (q4, .inr (1, [.ref q1, .ref q4_1, .ref q4_2, .ref q4_3, .int (J 0), .int (J 0), .int (J 0)])), zarr cA q4_1 12, zarr cA q4_2 128, zarr cA q4_3 512] H locs := hH
  refine k_aload_n C dX4_init_56 (lv_at hl 0 rfl) ?_
  refine k_sipush C (by decide +kernel) dX4_init_57 ?_
  refine k_put C hH okX4 tyX4 tyX4_ok nmX4 0 rfl rfl 4 (by decide) wf_X4_39 rfl rfl (tyX4_ok 4 (by decide)) rfl rfl (Nat.le_of_ble_eq_true rfl) dX4_init_60 (fun H locs hH => ?_)
  have hH : XH D A s [(q0, .inr (4, [.ref q1, .ref q2, .ref q3, .ref q4, .int (J 180), .int (J 0)])), (q1, .inr (3, [.ref q1_1, .ref q1_2, .ref q1_3, .int (J 4), .int (J 0)])), zarr cA q1_1 36, (q1_2, .inl (cA, 9, .inl (jf (fillf (fun _ => 0) 9 (-1))))), (q1_3, .inl (cA, 81, .inl (jf (fillf (fun _ => 0) 81 (-1))))), (q2, .inr (0, [.ref q2_1, .ref q2_2, .ref q2_3, .int (J 0), .int (J 0)])), zarr cA q2_1 120, zarr cA q2_2 120, zarr cA q2_3 120, (q3, .inr (2, [.ref q1, .ref q3_1, .ref q3_2, .ref q3_3, .ref q3_4, .ref q3_5, .int (J 0), .int (J 0), .int (J 0), .int (J 0), .int (J 0)])), zarr cA q3_1 36, zarr cA q3_2 36, zarr cA q3_3 10, zarr cA q3_4 22, zarr cA q3_5 22, (q4, .inr (1, [.ref q1, .ref q4_1, .ref q4_2, .ref q4_3, .int (J 0), .int (J 0), .int (J 0)])), zarr cA q4_1 12, zarr cA q4_2 128, zarr cA q4_3 512] H locs := hH
  refine k_aload_n C dX4_init_63 (lv_at hl 0 rfl) ?_
  refine k_iconst C dX4_init_64 ?_
  refine k_put C hH okX4 tyX4 tyX4_ok nmX4 0 rfl rfl 5 (by decide) wf_X4_43 rfl rfl (tyX4_ok 5 (by decide)) rfl rfl (Nat.le_of_ble_eq_true rfl) dX4_init_65 (fun H locs hH => ?_)
  have hH : XH D A s [(q0, .inr (4, [.ref q1, .ref q2, .ref q3, .ref q4, .int (J 180), .int (J 1)])), (q1, .inr (3, [.ref q1_1, .ref q1_2, .ref q1_3, .int (J 4), .int (J 0)])), zarr cA q1_1 36, (q1_2, .inl (cA, 9, .inl (jf (fillf (fun _ => 0) 9 (-1))))), (q1_3, .inl (cA, 81, .inl (jf (fillf (fun _ => 0) 81 (-1))))), (q2, .inr (0, [.ref q2_1, .ref q2_2, .ref q2_3, .int (J 0), .int (J 0)])), zarr cA q2_1 120, zarr cA q2_2 120, zarr cA q2_3 120, (q3, .inr (2, [.ref q1, .ref q3_1, .ref q3_2, .ref q3_3, .ref q3_4, .ref q3_5, .int (J 0), .int (J 0), .int (J 0), .int (J 0), .int (J 0)])), zarr cA q3_1 36, zarr cA q3_2 36, zarr cA q3_3 10, zarr cA q3_4 22, zarr cA q3_5 22, (q4, .inr (1, [.ref q1, .ref q4_1, .ref q4_2, .ref q4_3, .int (J 0), .int (J 0), .int (J 0)])), zarr cA q4_1 12, zarr cA q4_2 128, zarr cA q4_3 512] H locs := hH
  exact k_vret C hH ⟨fun k => [q0, q1, q1_1, q1_2, q1_3, q2, q2_1, q2_2, q2_3, q3, q3_1, q3_2, q3_3, q3_4, q3_5, q4, q4_1, q4_2, q4_3].getD k 0, rfl, rfl⟩ dX4_init_68
abbrev rm_X5_init : Room := { frames := 1, cells := 10, slots := 1077, locals := 21 }
set_option maxRecDepth 20000 in
theorem c_X5_init {l : Launch} {D : va_G} {cA : ClassId} {q0 sz : Nat} {Q : Int → Int → Int → Int → (Nat → Int) → Prop} (h : wp_M_begin 0 0 0 0 (fun _ => 0) Q) : Met l yX5_init (.code yX5_init cX5_init 1 none :: lw_ok) rm_X5_init (xPre D cA sz [.ref q0] [(q0, .inr (5, [.int (J 0), .int (J 0), .null, .int (J 0), .int (J 0), .null, .int (J 0), .int (J 0), .null, .int (J 0), .int (J 0), .null, .null, .null, .null, .null, .null, .null, .int (J 0)]))]) (va_Qv (fun w => ∃ a : Nat → Nat, a 0 = q0 ∧ ∃ (t i ac d : Int) (su : Nat → Int), Q t i ac d su ∧ w = wM cA a 4 t 180 1 i 0 ac d 0 (fun _ => 0) su (fun _ => 0) (fun _ => 0) (fun _ => 0) (fun _ => 0) (fun _ => 0) (fun _ => 0) (fun _ => 0) (fun _ => 0)) (xB D cA (va_A [(q0, .inr (5, [.int (J 0), .int (J 0), .null, .int (J 0), .int (J 0), .null, .int (J 0), .int (J 0), .null, .int (J 0), .int (J 0), .null, .null, .null, .null, .null, .null, .null, .int (J 0)]))] sz)) (va_A [(q0, .inr (5, [.int (J 0), .int (J 0), .null, .int (J 0), .int (J 0), .null, .int (J 0), .int (J 0), .null, .int (J 0), .int (J 0), .null, .null, .null, .null, .null, .null, .null, .int (J 0)]))] sz)) 10 1077 (va_A [(q0, .inr (5, [.int (J 0), .int (J 0), .null, .int (J 0), .int (J 0), .null, .int (J 0), .int (J 0), .null, .int (J 0), .int (J 0), .null, .null, .null, .null, .null, .null, .null, .int (J 0)]))] sz) := by
  refine kmet_v (by decide) rfl (Nat.le_of_ble_eq_true rfl) ?_
  intro p e s m args below meth c A ls C hin hH hl
  have C : XC p s m args meth c cX5_init 1 RX5 none D cA A := C
  have hl : lv_has ls 1 [(0, .ref q0)] := hl
  refine k_aload_n C dX5_init_0 (lv_at hl 0 rfl) ?_
  refine k_objInit C wl_X5_1 hl.1 (by decide) dX5_init_1 ?_
  refine k_aload_n C dX5_init_4 (lv_at hl 0 rfl) ?_
  refine k_iconst C dX5_init_5 ?_
  refine k_put C hH okX5 tyX5 tyX5_ok nmX5 0 rfl rfl 0 (by decide) wf_X5_7 rfl rfl (tyX5_ok 0 (by decide)) rfl rfl (Nat.le_of_ble_eq_true rfl) dX5_init_6 (fun H locs hH => ?_)
  have hH : XH D A s [(q0, .inr (5, [.int (J 4), .int (J 0), .null, .int (J 0), .int (J 0), .null, .int (J 0), .int (J 0), .null, .int (J 0), .int (J 0), .null, .null, .null, .null, .null, .null, .null, .int (J 0)]))] H locs := hH
  refine k_aload_n C dX5_init_9 (lv_at hl 0 rfl) ?_
  refine k_bipush C (by decide +kernel) dX5_init_10 ?_
  refine k_newa C hH 36 rfl (by decide) (by decide) (by decide) dX5_init_12 (fun q1 H hH => ?_)
  have hH : XH D A s [(q0, .inr (5, [.int (J 4), .int (J 0), .null, .int (J 0), .int (J 0), .null, .int (J 0), .int (J 0), .null, .int (J 0), .int (J 0), .null, .null, .null, .null, .null, .null, .null, .int (J 0)])), zarr cA q1 36] H locs := hH
  refine k_putF C hin hH okX5 tyX5 tyX5_ok nmX5 0 rfl rfl 2 (by decide) wf_X5_13 rfl rfl rfl (tyX5_ok 2 (by decide)) rfl rfl (Nat.le_of_ble_eq_true rfl) dX5_init_14 (fun H locs hH => ?_)
  have hH : XH D A s [(q0, .inr (5, [.int (J 4), .int (J 0), .ref q1, .int (J 0), .int (J 0), .null, .int (J 0), .int (J 0), .null, .int (J 0), .int (J 0), .null, .null, .null, .null, .null, .null, .null, .int (J 0)])), zarr cA q1 36] H locs := hH
  refine k_aload_n C dX5_init_17 (lv_at hl 0 rfl) ?_
  refine k_sipush C (by decide +kernel) dX5_init_18 ?_
  refine k_put C hH okX5 tyX5 tyX5_ok nmX5 0 rfl rfl 3 (by decide) wf_X5_17 rfl rfl (tyX5_ok 3 (by decide)) rfl rfl (Nat.le_of_ble_eq_true rfl) dX5_init_21 (fun H locs hH => ?_)
  have hH : XH D A s [(q0, .inr (5, [.int (J 4), .int (J 0), .ref q1, .int (J 180), .int (J 0), .null, .int (J 0), .int (J 0), .null, .int (J 0), .int (J 0), .null, .null, .null, .null, .null, .null, .null, .int (J 0)])), zarr cA q1 36] H locs := hH
  refine k_aload_n C dX5_init_24 (lv_at hl 0 rfl) ?_
  refine k_iconst C dX5_init_25 ?_
  refine k_put C hH okX5 tyX5 tyX5_ok nmX5 0 rfl rfl 4 (by decide) wf_X5_20 rfl rfl (tyX5_ok 4 (by decide)) rfl rfl (Nat.le_of_ble_eq_true rfl) dX5_init_26 (fun H locs hH => ?_)
  have hH : XH D A s [(q0, .inr (5, [.int (J 4), .int (J 0), .ref q1, .int (J 180), .int (J 1), .null, .int (J 0), .int (J 0), .null, .int (J 0), .int (J 0), .null, .null, .null, .null, .null, .null, .null, .int (J 0)])), zarr cA q1 36] H locs := hH
  refine k_aload_n C dX5_init_29 (lv_at hl 0 rfl) ?_
  refine k_bipush C (by decide +kernel) dX5_init_30 ?_
  refine k_newa C hH 9 rfl (by decide) (by decide) (by decide) dX5_init_32 (fun q2 H hH => ?_)
  have hH : XH D A s [(q0, .inr (5, [.int (J 4), .int (J 0), .ref q1, .int (J 180), .int (J 1), .null, .int (J 0), .int (J 0), .null, .int (J 0), .int (J 0), .null, .null, .null, .null, .null, .null, .null, .int (J 0)])), zarr cA q1 36, zarr cA q2 9] H locs := hH
  refine k_putF C hin hH okX5 tyX5 tyX5_ok nmX5 0 rfl rfl 5 (by decide) wf_X5_23 rfl rfl rfl (tyX5_ok 5 (by decide)) rfl rfl (Nat.le_of_ble_eq_true rfl) dX5_init_34 (fun H locs hH => ?_)
  have hH : XH D A s [(q0, .inr (5, [.int (J 4), .int (J 0), .ref q1, .int (J 180), .int (J 1), .ref q2, .int (J 0), .int (J 0), .null, .int (J 0), .int (J 0), .null, .null, .null, .null, .null, .null, .null, .int (J 0)])), zarr cA q1 36, zarr cA q2 9] H locs := hH
  refine k_aload_n C dX5_init_37 (lv_at hl 0 rfl) ?_
  refine k_bipush C (by decide +kernel) dX5_init_38 ?_
  refine k_newa C hH 36 rfl (by decide) (by decide) (by decide) dX5_init_40 (fun q3 H hH => ?_)
  have hH : XH D A s [(q0, .inr (5, [.int (J 4), .int (J 0), .ref q1, .int (J 180), .int (J 1), .ref q2, .int (J 0), .int (J 0), .null, .int (J 0), .int (J 0), .null, .null, .null, .null, .null, .null, .null, .int (J 0)])), zarr cA q1 36, zarr cA q2 9, zarr cA q3 36] H locs := hH
  refine k_putF C hin hH okX5 tyX5 tyX5_ok nmX5 0 rfl rfl 8 (by decide) wf_X5_26 rfl rfl rfl (tyX5_ok 8 (by decide)) rfl rfl (Nat.le_of_ble_eq_true rfl) dX5_init_42 (fun H locs hH => ?_)
  have hH : XH D A s [(q0, .inr (5, [.int (J 4), .int (J 0), .ref q1, .int (J 180), .int (J 1), .ref q2, .int (J 0), .int (J 0), .ref q3, .int (J 0), .int (J 0), .null, .null, .null, .null, .null, .null, .null, .int (J 0)])), zarr cA q1 36, zarr cA q2 9, zarr cA q3 36] H locs := hH
  refine k_aload_n C dX5_init_45 (lv_at hl 0 rfl) ?_
  refine k_sipush C (by decide +kernel) dX5_init_46 ?_
  refine k_newa C hH 900 rfl (by decide) (by decide) (by decide) dX5_init_49 (fun q4 H hH => ?_)
  have hH : XH D A s [(q0, .inr (5, [.int (J 4), .int (J 0), .ref q1, .int (J 180), .int (J 1), .ref q2, .int (J 0), .int (J 0), .ref q3, .int (J 0), .int (J 0), .null, .null, .null, .null, .null, .null, .null, .int (J 0)])), zarr cA q1 36, zarr cA q2 9, zarr cA q3 36, zarr cA q4 900] H locs := hH
  refine k_putF C hin hH okX5 tyX5 tyX5_ok nmX5 0 rfl rfl 11 (by decide) wf_X5_29 rfl rfl rfl (tyX5_ok 11 (by decide)) rfl rfl (Nat.le_of_ble_eq_true rfl) dX5_init_51 (fun H locs hH => ?_)
  have hH : XH D A s [(q0, .inr (5, [.int (J 4), .int (J 0), .ref q1, .int (J 180), .int (J 1), .ref q2, .int (J 0), .int (J 0), .ref q3, .int (J 0), .int (J 0), .ref q4, .null, .null, .null, .null, .null, .null, .int (J 0)])), zarr cA q1 36, zarr cA q2 9, zarr cA q3 36, zarr cA q4 900] H locs := hH
  refine k_aload_n C dX5_init_54 (lv_at hl 0 rfl) ?_
  refine k_bipush C (by decide +kernel) dX5_init_55 ?_
  refine k_newa C hH 12 rfl (by decide) (by decide) (by decide) dX5_init_57 (fun q5 H hH => ?_)
  have hH : XH D A s [(q0, .inr (5, [.int (J 4), .int (J 0), .ref q1, .int (J 180), .int (J 1), .ref q2, .int (J 0), .int (J 0), .ref q3, .int (J 0), .int (J 0), .ref q4, .null, .null, .null, .null, .null, .null, .int (J 0)])), zarr cA q1 36, zarr cA q2 9, zarr cA q3 36, zarr cA q4 900, zarr cA q5 12] H locs := hH
  refine k_putF C hin hH okX5 tyX5 tyX5_ok nmX5 0 rfl rfl 12 (by decide) wf_X5_32 rfl rfl rfl (tyX5_ok 12 (by decide)) rfl rfl (Nat.le_of_ble_eq_true rfl) dX5_init_59 (fun H locs hH => ?_)
  have hH : XH D A s [(q0, .inr (5, [.int (J 4), .int (J 0), .ref q1, .int (J 180), .int (J 1), .ref q2, .int (J 0), .int (J 0), .ref q3, .int (J 0), .int (J 0), .ref q4, .ref q5, .null, .null, .null, .null, .null, .int (J 0)])), zarr cA q1 36, zarr cA q2 9, zarr cA q3 36, zarr cA q4 900, zarr cA q5 12] H locs := hH
  refine k_aload_n C dX5_init_62 (lv_at hl 0 rfl) ?_
  refine k_bipush C (by decide +kernel) dX5_init_63 ?_
  refine k_newa C hH 12 rfl (by decide) (by decide) (by decide) dX5_init_65 (fun q6 H hH => ?_)
  have hH : XH D A s [(q0, .inr (5, [.int (J 4), .int (J 0), .ref q1, .int (J 180), .int (J 1), .ref q2, .int (J 0), .int (J 0), .ref q3, .int (J 0), .int (J 0), .ref q4, .ref q5, .null, .null, .null, .null, .null, .int (J 0)])), zarr cA q1 36, zarr cA q2 9, zarr cA q3 36, zarr cA q4 900, zarr cA q5 12, zarr cA q6 12] H locs := hH
  refine k_putF C hin hH okX5 tyX5 tyX5_ok nmX5 0 rfl rfl 13 (by decide) wf_X5_35 rfl rfl rfl (tyX5_ok 13 (by decide)) rfl rfl (Nat.le_of_ble_eq_true rfl) dX5_init_67 (fun H locs hH => ?_)
  have hH : XH D A s [(q0, .inr (5, [.int (J 4), .int (J 0), .ref q1, .int (J 180), .int (J 1), .ref q2, .int (J 0), .int (J 0), .ref q3, .int (J 0), .int (J 0), .ref q4, .ref q5, .ref q6, .null, .null, .null, .null, .int (J 0)])), zarr cA q1 36, zarr cA q2 9, zarr cA q3 36, zarr cA q4 900, zarr cA q5 12, zarr cA q6 12] H locs := hH
  refine k_aload_n C dX5_init_70 (lv_at hl 0 rfl) ?_
  refine k_bipush C (by decide +kernel) dX5_init_71 ?_
  refine k_newa C hH 9 rfl (by decide) (by decide) (by decide) dX5_init_73 (fun q7 H hH => ?_)
  have hH : XH D A s [(q0, .inr (5, [.int (J 4), .int (J 0), .ref q1, .int (J 180), .int (J 1), .ref q2, .int (J 0), .int (J 0), .ref q3, .int (J 0), .int (J 0), .ref q4, .ref q5, .ref q6, .null, .null, .null, .null, .int (J 0)])), zarr cA q1 36, zarr cA q2 9, zarr cA q3 36, zarr cA q4 900, zarr cA q5 12, zarr cA q6 12, zarr cA q7 9] H locs := hH
  refine k_putF C hin hH okX5 tyX5 tyX5_ok nmX5 0 rfl rfl 14 (by decide) wf_X5_38 rfl rfl rfl (tyX5_ok 14 (by decide)) rfl rfl (Nat.le_of_ble_eq_true rfl) dX5_init_75 (fun H locs hH => ?_)
  have hH : XH D A s [(q0, .inr (5, [.int (J 4), .int (J 0), .ref q1, .int (J 180), .int (J 1), .ref q2, .int (J 0), .int (J 0), .ref q3, .int (J 0), .int (J 0), .ref q4, .ref q5, .ref q6, .ref q7, .null, .null, .null, .int (J 0)])), zarr cA q1 36, zarr cA q2 9, zarr cA q3 36, zarr cA q4 900, zarr cA q5 12, zarr cA q6 12, zarr cA q7 9] H locs := hH
  refine k_aload_n C dX5_init_78 (lv_at hl 0 rfl) ?_
  refine k_bipush C (by decide +kernel) dX5_init_79 ?_
  refine k_newa C hH 21 rfl (by decide) (by decide) (by decide) dX5_init_81 (fun q8 H hH => ?_)
  have hH : XH D A s [(q0, .inr (5, [.int (J 4), .int (J 0), .ref q1, .int (J 180), .int (J 1), .ref q2, .int (J 0), .int (J 0), .ref q3, .int (J 0), .int (J 0), .ref q4, .ref q5, .ref q6, .ref q7, .null, .null, .null, .int (J 0)])), zarr cA q1 36, zarr cA q2 9, zarr cA q3 36, zarr cA q4 900, zarr cA q5 12, zarr cA q6 12, zarr cA q7 9, zarr cA q8 21] H locs := hH
  refine k_putF C hin hH okX5 tyX5 tyX5_ok nmX5 0 rfl rfl 15 (by decide) wf_X5_41 rfl rfl rfl (tyX5_ok 15 (by decide)) rfl rfl (Nat.le_of_ble_eq_true rfl) dX5_init_83 (fun H locs hH => ?_)
  have hH : XH D A s [(q0, .inr (5, [.int (J 4), .int (J 0), .ref q1, .int (J 180), .int (J 1), .ref q2, .int (J 0), .int (J 0), .ref q3, .int (J 0), .int (J 0), .ref q4, .ref q5, .ref q6, .ref q7, .ref q8, .null, .null, .int (J 0)])), zarr cA q1 36, zarr cA q2 9, zarr cA q3 36, zarr cA q4 900, zarr cA q5 12, zarr cA q6 12, zarr cA q7 9, zarr cA q8 21] H locs := hH
  refine k_aload_n C dX5_init_86 (lv_at hl 0 rfl) ?_
  refine k_bipush C (by decide +kernel) dX5_init_87 ?_
  refine k_newa C hH 21 rfl (by decide) (by decide) (by decide) dX5_init_89 (fun q9 H hH => ?_)
  have hH : XH D A s [(q0, .inr (5, [.int (J 4), .int (J 0), .ref q1, .int (J 180), .int (J 1), .ref q2, .int (J 0), .int (J 0), .ref q3, .int (J 0), .int (J 0), .ref q4, .ref q5, .ref q6, .ref q7, .ref q8, .null, .null, .int (J 0)])), zarr cA q1 36, zarr cA q2 9, zarr cA q3 36, zarr cA q4 900, zarr cA q5 12, zarr cA q6 12, zarr cA q7 9, zarr cA q8 21, zarr cA q9 21] H locs := hH
  refine k_putF C hin hH okX5 tyX5 tyX5_ok nmX5 0 rfl rfl 16 (by decide) wf_X5_44 rfl rfl rfl (tyX5_ok 16 (by decide)) rfl rfl (Nat.le_of_ble_eq_true rfl) dX5_init_91 (fun H locs hH => ?_)
  have hH : XH D A s [(q0, .inr (5, [.int (J 4), .int (J 0), .ref q1, .int (J 180), .int (J 1), .ref q2, .int (J 0), .int (J 0), .ref q3, .int (J 0), .int (J 0), .ref q4, .ref q5, .ref q6, .ref q7, .ref q8, .ref q9, .null, .int (J 0)])), zarr cA q1 36, zarr cA q2 9, zarr cA q3 36, zarr cA q4 900, zarr cA q5 12, zarr cA q6 12, zarr cA q7 9, zarr cA q8 21, zarr cA q9 21] H locs := hH
  refine k_aload_n C dX5_init_94 (lv_at hl 0 rfl) ?_
  refine k_bipush C (by decide +kernel) dX5_init_95 ?_
  refine k_newa C hH 21 rfl (by decide) (by decide) (by decide) dX5_init_97 (fun q10 H hH => ?_)
  have hH : XH D A s [(q0, .inr (5, [.int (J 4), .int (J 0), .ref q1, .int (J 180), .int (J 1), .ref q2, .int (J 0), .int (J 0), .ref q3, .int (J 0), .int (J 0), .ref q4, .ref q5, .ref q6, .ref q7, .ref q8, .ref q9, .null, .int (J 0)])), zarr cA q1 36, zarr cA q2 9, zarr cA q3 36, zarr cA q4 900, zarr cA q5 12, zarr cA q6 12, zarr cA q7 9, zarr cA q8 21, zarr cA q9 21, zarr cA q10 21] H locs := hH
  refine k_putF C hin hH okX5 tyX5 tyX5_ok nmX5 0 rfl rfl 17 (by decide) wf_X5_47 rfl rfl rfl (tyX5_ok 17 (by decide)) rfl rfl (Nat.le_of_ble_eq_true rfl) dX5_init_99 (fun H locs hH => ?_)
  have hH : XH D A s [(q0, .inr (5, [.int (J 4), .int (J 0), .ref q1, .int (J 180), .int (J 1), .ref q2, .int (J 0), .int (J 0), .ref q3, .int (J 0), .int (J 0), .ref q4, .ref q5, .ref q6, .ref q7, .ref q8, .ref q9, .ref q10, .int (J 0)])), zarr cA q1 36, zarr cA q2 9, zarr cA q3 36, zarr cA q4 900, zarr cA q5 12, zarr cA q6 12, zarr cA q7 9, zarr cA q8 21, zarr cA q9 21, zarr cA q10 21] H locs := hH
  refine k_aload_n C dX5_init_102 (lv_at hl 0 rfl) ?_
  have hH : XH D A s (wM cA (fun k => [q0, q1, q2, q3, q4, q5, q6, q7, q8, q9, q10].getD k 0) 4 0 180 1 0 0 0 0 0 (fun _ => 0) (fun _ => 0) (fun _ => 0) (fun _ => 0) (fun _ => 0) (fun _ => 0) (fun _ => 0) (fun _ => 0) (fun _ => 0) (fun _ => 0)) H locs := hH
  refine k_callV_v (As := []) (rest := []) (wr := []) (wc := wM cA (fun k => [q0, q1, q2, q3, q4, q5, q6, q7, q8, q9, q10].getD k 0) 4 0 180 1 0 0 0 0 0 (fun _ => 0) (fun _ => 0) (fun _ => 0) (fun _ => 0) (fun _ => 0) (fun _ => 0) (fun _ => 0) (fun _ => 0) (fun _ => 0) (fun _ => 0)) (q0 := 0) (ci := 5) (rm := rm_M_begin) C hH [0, 1, 2, 3, 4, 5, 6, 7, 8, 9, 10] [] ⟨⟨rfl, rfl⟩, rfl, by decide, by decide, by decide⟩ (fun sz => c_M_begin (a := fun k => [q0, q1, q2, q3, q4, q5, q6, q7, q8, q9, q10].getD k 0) h) xl_X5_50 rfl rfl ⟨rfl, rfl⟩ (by decide) (by decide) hl.1 rfl rfl (by decide) dX5_init_103 (fun w H locs hw hH => ?_)
  obtain ⟨t, i, ac, d, su, rfl, hQ⟩ := hw
  exact k_vret C hH ⟨fun k => [q0, q1, q2, q3, q4, q5, q6, q7, q8, q9, q10].getD k 0, rfl, t, i, ac, d, su, hQ, rfl⟩ dX5_init_106

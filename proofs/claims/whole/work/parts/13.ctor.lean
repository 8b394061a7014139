theorem dfX0 : ∀ j, j < 7 → defaultValue (tyX0 j) = vp_V [.null, .null, .null, .null, .null, .null, .int 0] j := by
  intro j hj
  rcases (show j = 0 ∨ j = 1 ∨ j = 2 ∨ j = 3 ∨ j = 4 ∨ j = 5 ∨ j = 6 by omega) with rfl | rfl | rfl | rfl | rfl | rfl | rfl <;> rfl
theorem dfX1 : ∀ j, j < 4 → defaultValue (tyX1 j) = vp_V [.null, .null, .null, .null] j := by
  intro j hj
  rcases (show j = 0 ∨ j = 1 ∨ j = 2 ∨ j = 3 by omega) with rfl | rfl | rfl | rfl <;> rfl
theorem dfX2 : ∀ j, j < 3 → defaultValue (tyX2 j) = vp_V [.int 0, .int 0, .null] j := by
  intro j hj
  rcases (show j = 0 ∨ j = 1 ∨ j = 2 by omega) with rfl | rfl | rfl <;> rfl
theorem dfX3 : ∀ j, j < 3 → defaultValue (tyX3 j) = vp_V [.int 0, .null, .null] j := by
  intro j hj
  rcases (show j = 0 ∨ j = 1 ∨ j = 2 by omega) with rfl | rfl | rfl <;> rfl
theorem dfX4 : ∀ j, j < 4 → defaultValue (tyX4 j) = vp_V [.int 0, .int 0, .null, .null] j := by
  intro j hj
  rcases (show j = 0 ∨ j = 1 ∨ j = 2 ∨ j = 3 by omega) with rfl | rfl | rfl | rfl <;> rfl
theorem dfX5 : ∀ j, j < 7 → defaultValue (tyX5 j) = vp_V [.int 0, .null, .null, .null, .null, .null, .null] j := by
  intro j hj
  rcases (show j = 0 ∨ j = 1 ∨ j = 2 ∨ j = 3 ∨ j = 4 ∨ j = 5 ∨ j = 6 by omega) with rfl | rfl | rfl | rfl | rfl | rfl | rfl <;> rfl
theorem dfX6 : ∀ j, j < 2 → defaultValue (tyX6 j) = vp_V [.int 0, .null] j := by
  intro j hj
  rcases (show j = 0 ∨ j = 1 by omega) with rfl | rfl <;> rfl
theorem dfX7 : ∀ j, j < 6 → defaultValue (tyX7 j) = vp_V [.int 0, .int 0, .int 0, .int 0, .int 0, .int 0] j := by
  intro j hj
  rcases (show j = 0 ∨ j = 1 ∨ j = 2 ∨ j = 3 ∨ j = 4 ∨ j = 5 by omega) with rfl | rfl | rfl | rfl | rfl | rfl <;> rfl
theorem dfX8 : ∀ j, j < 6 → defaultValue (tyX8 j) = vp_V [.null, .null, .null, .int 0, .int 0, .int 0] j := by
  intro j hj
  rcases (show j = 0 ∨ j = 1 ∨ j = 2 ∨ j = 3 ∨ j = 4 ∨ j = 5 by omega) with rfl | rfl | rfl | rfl | rfl | rfl <;> rfl
theorem dfX9 : ∀ j, j < 5 → defaultValue (tyX9 j) = vp_V [.null, .null, .int 0, .null, .long 0] j := by
  intro j hj
  rcases (show j = 0 ∨ j = 1 ∨ j = 2 ∨ j = 3 ∨ j = 4 by omega) with rfl | rfl | rfl | rfl | rfl <;> rfl
set_option maxRecDepth 100000 in
set_option maxHeartbeats 4000000 in
theorem c_X7_init {l : Launch} {D : va_G} {cI cS : ClassId} {A : Nat → Prop} {rest : va_W} {h0 : Nat} : CN l yX7_init cX7_init 1 1 64 D cI cS A [.ref h0] ((h0, .inr (7, [.int 0, .int 0, .int 0, .int 0, .int 0, .int 0])) :: rest) (fun ws => ws = ((h0, .inr (7, [.int (3 : Int32), .int (20 : Int32), .int (100 : Int32), .int (2 : Int32), .int (16 : Int32), .int (10 : Int32)])) :: rest)) 0 0 := by
  refine CN_of (own := RX7) (xs := [some (.ref h0)]) (by decide) rfl rfl (Nat.le_of_ble_eq_true rfl) rfl ?_
  intro p e s_ m below meth c C Cn
  refine j_aload_n C dX7_init_0 rfl ?_
  refine j_objInit C tw_39 tw_20 tw_21 (Nat.le_of_ble_eq_true rfl) (Nat.le_of_ble_eq_true rfl) dX7_init_1 ?_
  refine j_aload_n C dX7_init_4 rfl ?_
  refine j_iconst C ic_3 dX7_init_5 ?_
  refine j_putf C (q0 := 0) (ci := 7) (k := 0) (ty := .int) (ws' := ((h0, .inr (7, [.int (3 : Int32), .int 0, .int 0, .int 0, .int 0, .int 0])) :: rest)) inX7 tyX7_ok nmX7 rfl (by decide) tw_40 rfl (by decide +kernel) rfl rfl rfl (Nat.le_of_ble_eq_true rfl) rfl dX7_init_6 ?_
  refine j_aload_n C dX7_init_9 rfl ?_
  refine j_bipush C bp_20 dX7_init_10 ?_
  refine j_putf C (q0 := 0) (ci := 7) (k := 1) (ty := .int) (ws' := ((h0, .inr (7, [.int (3 : Int32), .int (20 : Int32), .int 0, .int 0, .int 0, .int 0])) :: rest)) inX7 tyX7_ok nmX7 rfl (by decide) tw_43 rfl (by decide +kernel) rfl rfl rfl (Nat.le_of_ble_eq_true rfl) rfl dX7_init_12 ?_
  refine j_aload_n C dX7_init_15 rfl ?_
  refine j_bipush C bp_100 dX7_init_16 ?_
  refine j_putf C (q0 := 0) (ci := 7) (k := 2) (ty := .int) (ws' := ((h0, .inr (7, [.int (3 : Int32), .int (20 : Int32), .int (100 : Int32), .int 0, .int 0, .int 0])) :: rest)) inX7 tyX7_ok nmX7 rfl (by decide) tw_46 rfl (by decide +kernel) rfl rfl rfl (Nat.le_of_ble_eq_true rfl) rfl dX7_init_18 ?_
  refine j_aload_n C dX7_init_21 rfl ?_
  refine j_iconst C ic_2 dX7_init_22 ?_
  refine j_putf C (q0 := 0) (ci := 7) (k := 3) (ty := .int) (ws' := ((h0, .inr (7, [.int (3 : Int32), .int (20 : Int32), .int (100 : Int32), .int (2 : Int32), .int 0, .int 0])) :: rest)) inX7 tyX7_ok nmX7 rfl (by decide) tw_49 rfl (by decide +kernel) rfl rfl rfl (Nat.le_of_ble_eq_true rfl) rfl dX7_init_23 ?_
  refine j_aload_n C dX7_init_26 rfl ?_
  refine j_bipush C bp_16 dX7_init_27 ?_
  refine j_putf C (q0 := 0) (ci := 7) (k := 4) (ty := .int) (ws' := ((h0, .inr (7, [.int (3 : Int32), .int (20 : Int32), .int (100 : Int32), .int (2 : Int32), .int (16 : Int32), .int 0])) :: rest)) inX7 tyX7_ok nmX7 rfl (by decide) tw_52 rfl (by decide +kernel) rfl rfl rfl (Nat.le_of_ble_eq_true rfl) rfl dX7_init_29 ?_
  refine j_aload_n C dX7_init_32 rfl ?_
  refine j_bipush C bp_10 dX7_init_33 ?_
  refine j_putf C (q0 := 0) (ci := 7) (k := 5) (ty := .int) (ws' := ((h0, .inr (7, [.int (3 : Int32), .int (20 : Int32), .int (100 : Int32), .int (2 : Int32), .int (16 : Int32), .int (10 : Int32)])) :: rest)) inX7 tyX7_ok nmX7 rfl (by decide) tw_55 rfl (by decide +kernel) rfl rfl rfl (Nat.le_of_ble_eq_true rfl) rfl dX7_init_35 ?_
  exact j_vretN (ws' := ((h0, .inr (7, [.int (3 : Int32), .int (20 : Int32), .int (100 : Int32), .int (2 : Int32), .int (16 : Int32), .int (10 : Int32)])) :: rest)) C (Nat.le_of_ble_eq_true rfl) (Nat.le_of_ble_eq_true rfl) (List.Perm.refl _) rfl dX7_init_38
set_option maxRecDepth 100000 in
set_option maxHeartbeats 4000000 in
theorem c_X4_init {l : Launch} {D : va_G} {cI cS : ClassId} {A : Nat → Prop} {rest : va_W} {h0 : Nat} : CN l yX4_init cX4_init 1 1 64 D cI cS A [.ref h0] ((h0, .inr (4, [.int 0, .int 0, .null, .null])) :: rest) (fun ws => ∃ q1 q2 : Nat, ws = ((h0, .inr (4, [.int 0, .int 0, .ref q1, .ref q2])) :: (q1, .inl (cI, 8, .inl (fun _ => 0))) :: (q2, .inl (cI, 8, .inl (fun _ => 0))) :: rest)) 2 16 := by
  refine CN_of (own := RX4) (xs := [some (.ref h0)]) (by decide) rfl rfl (Nat.le_of_ble_eq_true rfl) rfl ?_
  intro p e s_ m below meth c C Cn
  refine j_aload_n C dX4_init_0 rfl ?_
  refine j_objInit C tw_75 tw_20 tw_21 (Nat.le_of_ble_eq_true rfl) (Nat.le_of_ble_eq_true rfl) dX4_init_1 ?_
  refine j_aload_n C dX4_init_4 rfl ?_
  refine j_bipush C bp_8 dX4_init_5 ?_
  refine j_newa C Cn (N := 8) (by decide) (by decide) (Nat.le_of_ble_eq_true rfl) (Nat.le_of_ble_eq_true rfl) (Nat.le_of_ble_eq_true rfl) dX4_init_7 (fun q1 => ?_)
  refine j_putF C Cn (q0 := 1) (ci := 4) (k := 2) (ty := .array .int) (ws' := ((q1, .inl (cI, 8, .inl (fun _ => 0))) :: (h0, .inr (4, [.int 0, .int 0, .ref q1, .null])) :: rest)) inX4 tyX4_ok nmX4 rfl (by decide) tw_83 rfl rfl (by decide +kernel) rfl rfl rfl (Nat.le_of_ble_eq_true rfl) rfl dX4_init_9 ?_
  refine j_aload_n C dX4_init_12 rfl ?_
  refine j_bipush C bp_8 dX4_init_13 ?_
  refine j_newa C Cn (N := 8) (by decide) (by decide) (Nat.le_of_ble_eq_true rfl) (Nat.le_of_ble_eq_true rfl) (Nat.le_of_ble_eq_true rfl) dX4_init_15 (fun q2 => ?_)
  refine j_putF C Cn (q0 := 2) (ci := 4) (k := 3) (ty := .array .int) (ws' := ((q2, .inl (cI, 8, .inl (fun _ => 0))) :: (q1, .inl (cI, 8, .inl (fun _ => 0))) :: (h0, .inr (4, [.int 0, .int 0, .ref q1, .ref q2])) :: rest)) inX4 tyX4_ok nmX4 rfl (by decide) tw_86 rfl rfl (by decide +kernel) rfl rfl rfl (Nat.le_of_ble_eq_true rfl) rfl dX4_init_17 ?_
  exact j_vretN (ws' := ((h0, .inr (4, [.int 0, .int 0, .ref q1, .ref q2])) :: (q1, .inl (cI, 8, .inl (fun _ => 0))) :: (q2, .inl (cI, 8, .inl (fun _ => 0))) :: rest)) C (Nat.le_of_ble_eq_true rfl) (Nat.le_of_ble_eq_true rfl) (List.Perm.append_right rest (perm_pick (L := [(q2, .inl (cI, 8, .inl (fun _ => 0))), (q1, .inl (cI, 8, .inl (fun _ => 0))), (h0, .inr (4, [.int 0, .int 0, .ref q1, .ref q2]))]) (L' := [(h0, .inr (4, [.int 0, .int 0, .ref q1, .ref q2])), (q1, .inl (cI, 8, .inl (fun _ => 0))), (q2, .inl (cI, 8, .inl (fun _ => 0)))]) 3 [2, 1, 0] rfl rfl (by decide))) ⟨q1, q2, rfl⟩ dX4_init_20
set_option maxRecDepth 100000 in
set_option maxHeartbeats 4000000 in
theorem c_X5_init {l : Launch} {D : va_G} {cI cS : ClassId} {A : Nat → Prop} {rest : va_W} {h0 : Nat} : CN l yX5_init cX5_init 1 1 64 D cI cS A [.ref h0] ((h0, .inr (5, [.int 0, .null, .null, .null, .null, .null, .null])) :: rest) (fun ws => ∃ q1 q2 q3 q4 q5 q6 : Nat, ws = ((h0, .inr (5, [.int (1 : Int32), .ref q1, .ref q2, .ref q3, .ref q4, .ref q5, .ref q6])) :: (q1, .inl (cI, 16, .inl (fun _ => 0))) :: (q2, .inl (cI, 16, .inl (fun _ => 0))) :: (q3, .inl (cI, 16, .inl (upd (fun _ => 0) ((0 : Int32)).toNatClampNeg (-1 : Int32)))) :: (q4, .inl (cI, 16, .inl (upd (fun _ => 0) ((0 : Int32)).toNatClampNeg (-1 : Int32)))) :: (q5, .inl (cI, 16, .inl (fun _ => 0))) :: (q6, .inl (cI, 16, .inl (upd (fun _ => 0) ((0 : Int32)).toNatClampNeg (-1 : Int32)))) :: rest)) 6 96 := by
  refine CN_of (own := RX5) (xs := [some (.ref h0)]) (by decide) rfl rfl (Nat.le_of_ble_eq_true rfl) rfl ?_
  intro p e s_ m below meth c C Cn
  refine j_aload_n C dX5_init_0 rfl ?_
  refine j_objInit C tw_104 tw_20 tw_21 (Nat.le_of_ble_eq_true rfl) (Nat.le_of_ble_eq_true rfl) dX5_init_1 ?_
  refine j_aload_n C dX5_init_4 rfl ?_
  refine j_bipush C bp_16 dX5_init_5 ?_
  refine j_newa C Cn (N := 16) (by decide) (by decide) (Nat.le_of_ble_eq_true rfl) (Nat.le_of_ble_eq_true rfl) (Nat.le_of_ble_eq_true rfl) dX5_init_7 (fun q1 => ?_)
  refine j_putF C Cn (q0 := 1) (ci := 5) (k := 1) (ty := .array .int) (ws' := ((q1, .inl (cI, 16, .inl (fun _ => 0))) :: (h0, .inr (5, [.int 0, .ref q1, .null, .null, .null, .null, .null])) :: rest)) inX5 tyX5_ok nmX5 rfl (by decide) tw_109 rfl rfl (by decide +kernel) rfl rfl rfl (Nat.le_of_ble_eq_true rfl) rfl dX5_init_9 ?_
  refine j_aload_n C dX5_init_12 rfl ?_
  refine j_bipush C bp_16 dX5_init_13 ?_
  refine j_newa C Cn (N := 16) (by decide) (by decide) (Nat.le_of_ble_eq_true rfl) (Nat.le_of_ble_eq_true rfl) (Nat.le_of_ble_eq_true rfl) dX5_init_15 (fun q2 => ?_)
  refine j_putF C Cn (q0 := 2) (ci := 5) (k := 2) (ty := .array .int) (ws' := ((q2, .inl (cI, 16, .inl (fun _ => 0))) :: (q1, .inl (cI, 16, .inl (fun _ => 0))) :: (h0, .inr (5, [.int 0, .ref q1, .ref q2, .null, .null, .null, .null])) :: rest)) inX5 tyX5_ok nmX5 rfl (by decide) tw_112 rfl rfl (by decide +kernel) rfl rfl rfl (Nat.le_of_ble_eq_true rfl) rfl dX5_init_17 ?_
  refine j_aload_n C dX5_init_20 rfl ?_
  refine j_bipush C bp_16 dX5_init_21 ?_
  refine j_newa C Cn (N := 16) (by decide) (by decide) (Nat.le_of_ble_eq_true rfl) (Nat.le_of_ble_eq_true rfl) (Nat.le_of_ble_eq_true rfl) dX5_init_23 (fun q3 => ?_)
  refine j_putF C Cn (q0 := 3) (ci := 5) (k := 3) (ty := .array .int) (ws' := ((q3, .inl (cI, 16, .inl (fun _ => 0))) :: (q2, .inl (cI, 16, .inl (fun _ => 0))) :: (q1, .inl (cI, 16, .inl (fun _ => 0))) :: (h0, .inr (5, [.int 0, .ref q1, .ref q2, .ref q3, .null, .null, .null])) :: rest)) inX5 tyX5_ok nmX5 rfl (by decide) tw_116 rfl rfl (by decide +kernel) rfl rfl rfl (Nat.le_of_ble_eq_true rfl) rfl dX5_init_25 ?_
  refine j_aload_n C dX5_init_28 rfl ?_
  refine j_bipush C bp_16 dX5_init_29 ?_
  refine j_newa C Cn (N := 16) (by decide) (by decide) (Nat.le_of_ble_eq_true rfl) (Nat.le_of_ble_eq_true rfl) (Nat.le_of_ble_eq_true rfl) dX5_init_31 (fun q4 => ?_)
  refine j_putF C Cn (q0 := 4) (ci := 5) (k := 4) (ty := .array .int) (ws' := ((q4, .inl (cI, 16, .inl (fun _ => 0))) :: (q3, .inl (cI, 16, .inl (fun _ => 0))) :: (q2, .inl (cI, 16, .inl (fun _ => 0))) :: (q1, .inl (cI, 16, .inl (fun _ => 0))) :: (h0, .inr (5, [.int 0, .ref q1, .ref q2, .ref q3, .ref q4, .null, .null])) :: rest)) inX5 tyX5_ok nmX5 rfl (by decide) tw_120 rfl rfl (by decide +kernel) rfl rfl rfl (Nat.le_of_ble_eq_true rfl) rfl dX5_init_33 ?_
  refine j_aload_n C dX5_init_36 rfl ?_
  refine j_bipush C bp_16 dX5_init_37 ?_
  refine j_newa C Cn (N := 16) (by decide) (by decide) (Nat.le_of_ble_eq_true rfl) (Nat.le_of_ble_eq_true rfl) (Nat.le_of_ble_eq_true rfl) dX5_init_39 (fun q5 => ?_)
  refine j_putF C Cn (q0 := 5) (ci := 5) (k := 5) (ty := .array .int) (ws' := ((q5, .inl (cI, 16, .inl (fun _ => 0))) :: (q4, .inl (cI, 16, .inl (fun _ => 0))) :: (q3, .inl (cI, 16, .inl (fun _ => 0))) :: (q2, .inl (cI, 16, .inl (fun _ => 0))) :: (q1, .inl (cI, 16, .inl (fun _ => 0))) :: (h0, .inr (5, [.int 0, .ref q1, .ref q2, .ref q3, .ref q4, .ref q5, .null])) :: rest)) inX5 tyX5_ok nmX5 rfl (by decide) tw_123 rfl rfl (by decide +kernel) rfl rfl rfl (Nat.le_of_ble_eq_true rfl) rfl dX5_init_41 ?_
  refine j_aload_n C dX5_init_44 rfl ?_
  refine j_bipush C bp_16 dX5_init_45 ?_
  refine j_newa C Cn (N := 16) (by decide) (by decide) (Nat.le_of_ble_eq_true rfl) (Nat.le_of_ble_eq_true rfl) (Nat.le_of_ble_eq_true rfl) dX5_init_47 (fun q6 => ?_)
  refine j_putF C Cn (q0 := 6) (ci := 5) (k := 6) (ty := .array .int) (ws' := ((q6, .inl (cI, 16, .inl (fun _ => 0))) :: (q5, .inl (cI, 16, .inl (fun _ => 0))) :: (q4, .inl (cI, 16, .inl (fun _ => 0))) :: (q3, .inl (cI, 16, .inl (fun _ => 0))) :: (q2, .inl (cI, 16, .inl (fun _ => 0))) :: (q1, .inl (cI, 16, .inl (fun _ => 0))) :: (h0, .inr (5, [.int 0, .ref q1, .ref q2, .ref q3, .ref q4, .ref q5, .ref q6])) :: rest)) inX5 tyX5_ok nmX5 rfl (by decide) tw_125 rfl rfl (by decide +kernel) rfl rfl rfl (Nat.le_of_ble_eq_true rfl) rfl dX5_init_49 ?_
  refine j_aload_n C dX5_init_52 rfl ?_
  refine j_iconst C ic_1 dX5_init_53 ?_
  refine j_putf C (q0 := 6) (ci := 5) (k := 0) (ty := .int) (ws' := ((q6, .inl (cI, 16, .inl (fun _ => 0))) :: (q5, .inl (cI, 16, .inl (fun _ => 0))) :: (q4, .inl (cI, 16, .inl (fun _ => 0))) :: (q3, .inl (cI, 16, .inl (fun _ => 0))) :: (q2, .inl (cI, 16, .inl (fun _ => 0))) :: (q1, .inl (cI, 16, .inl (fun _ => 0))) :: (h0, .inr (5, [.int (1 : Int32), .ref q1, .ref q2, .ref q3, .ref q4, .ref q5, .ref q6])) :: rest)) inX5 tyX5_ok nmX5 rfl (by decide) tw_105 rfl (by decide +kernel) rfl rfl rfl (Nat.le_of_ble_eq_true rfl) rfl dX5_init_54 ?_
  refine j_aload_n C dX5_init_57 rfl ?_
  refine j_getf C (q0 := 6) (ci := 5) (k := 3) inX5 rfl (by decide) tw_116 rfl rfl dX5_init_58 ?_
  refine j_iconst C ic_0 dX5_init_61 ?_
  refine j_iconst C ic_m1 dX5_init_62 ?_
  refine j_iast C (q0 := 3) (ws' := ((q6, .inl (cI, 16, .inl (fun _ => 0))) :: (q5, .inl (cI, 16, .inl (fun _ => 0))) :: (q4, .inl (cI, 16, .inl (fun _ => 0))) :: (q3, .inl (cI, 16, .inl (upd (fun _ => 0) ((0 : Int32)).toNatClampNeg (-1 : Int32)))) :: (q2, .inl (cI, 16, .inl (fun _ => 0))) :: (q1, .inl (cI, 16, .inl (fun _ => 0))) :: (h0, .inr (5, [.int (1 : Int32), .ref q1, .ref q2, .ref q3, .ref q4, .ref q5, .ref q6])) :: rest)) rfl (by unfold vp_in; decide) rfl dX5_init_63 ?_
  refine j_aload_n C dX5_init_64 rfl ?_
  refine j_getf C (q0 := 6) (ci := 5) (k := 4) inX5 rfl (by decide) tw_120 rfl rfl dX5_init_65 ?_
  refine j_iconst C ic_0 dX5_init_68 ?_
  refine j_iconst C ic_m1 dX5_init_69 ?_
  refine j_iast C (q0 := 2) (ws' := ((q6, .inl (cI, 16, .inl (fun _ => 0))) :: (q5, .inl (cI, 16, .inl (fun _ => 0))) :: (q4, .inl (cI, 16, .inl (upd (fun _ => 0) ((0 : Int32)).toNatClampNeg (-1 : Int32)))) :: (q3, .inl (cI, 16, .inl (upd (fun _ => 0) ((0 : Int32)).toNatClampNeg (-1 : Int32)))) :: (q2, .inl (cI, 16, .inl (fun _ => 0))) :: (q1, .inl (cI, 16, .inl (fun _ => 0))) :: (h0, .inr (5, [.int (1 : Int32), .ref q1, .ref q2, .ref q3, .ref q4, .ref q5, .ref q6])) :: rest)) rfl (by unfold vp_in; decide) rfl dX5_init_70 ?_
  refine j_aload_n C dX5_init_71 rfl ?_
  refine j_getf C (q0 := 6) (ci := 5) (k := 6) inX5 rfl (by decide) tw_125 rfl rfl dX5_init_72 ?_
  refine j_iconst C ic_0 dX5_init_75 ?_
  refine j_iconst C ic_m1 dX5_init_76 ?_
  refine j_iast C (q0 := 0) (ws' := ((q6, .inl (cI, 16, .inl (upd (fun _ => 0) ((0 : Int32)).toNatClampNeg (-1 : Int32)))) :: (q5, .inl (cI, 16, .inl (fun _ => 0))) :: (q4, .inl (cI, 16, .inl (upd (fun _ => 0) ((0 : Int32)).toNatClampNeg (-1 : Int32)))) :: (q3, .inl (cI, 16, .inl (upd (fun _ => 0) ((0 : Int32)).toNatClampNeg (-1 : Int32)))) :: (q2, .inl (cI, 16, .inl (fun _ => 0))) :: (q1, .inl (cI, 16, .inl (fun _ => 0))) :: (h0, .inr (5, [.int (1 : Int32), .ref q1, .ref q2, .ref q3, .ref q4, .ref q5, .ref q6])) :: rest)) rfl (by unfold vp_in; decide) rfl dX5_init_77 ?_
  exact j_vretN (ws' := ((h0, .inr (5, [.int (1 : Int32), .ref q1, .ref q2, .ref q3, .ref q4, .ref q5, .ref q6])) :: (q1, .inl (cI, 16, .inl (fun _ => 0))) :: (q2, .inl (cI, 16, .inl (fun _ => 0))) :: (q3, .inl (cI, 16, .inl (upd (fun _ => 0) ((0 : Int32)).toNatClampNeg (-1 : Int32)))) :: (q4, .inl (cI, 16, .inl (upd (fun _ => 0) ((0 : Int32)).toNatClampNeg (-1 : Int32)))) :: (q5, .inl (cI, 16, .inl (fun _ => 0))) :: (q6, .inl (cI, 16, .inl (upd (fun _ => 0) ((0 : Int32)).toNatClampNeg (-1 : Int32)))) :: rest)) C (Nat.le_of_ble_eq_true rfl) (Nat.le_of_ble_eq_true rfl) (List.Perm.append_right rest (perm_pick (L := [(q6, .inl (cI, 16, .inl (upd (fun _ => 0) ((0 : Int32)).toNatClampNeg (-1 : Int32)))), (q5, .inl (cI, 16, .inl (fun _ => 0))), (q4, .inl (cI, 16, .inl (upd (fun _ => 0) ((0 : Int32)).toNatClampNeg (-1 : Int32)))), (q3, .inl (cI, 16, .inl (upd (fun _ => 0) ((0 : Int32)).toNatClampNeg (-1 : Int32)))), (q2, .inl (cI, 16, .inl (fun _ => 0))), (q1, .inl (cI, 16, .inl (fun _ => 0))), (h0, .inr (5, [.int (1 : Int32), .ref q1, .ref q2, .ref q3, .ref q4, .ref q5, .ref q6]))]) (L' := [(h0, .inr (5, [.int (1 : Int32), .ref q1, .ref q2, .ref q3, .ref q4, .ref q5, .ref q6])), (q1, .inl (cI, 16, .inl (fun _ => 0))), (q2, .inl (cI, 16, .inl (fun _ => 0))), (q3, .inl (cI, 16, .inl (upd (fun _ => 0) ((0 : Int32)).toNatClampNeg (-1 : Int32)))), (q4, .inl (cI, 16, .inl (upd (fun _ => 0) ((0 : Int32)).toNatClampNeg (-1 : Int32)))), (q5, .inl (cI, 16, .inl (fun _ => 0))), (q6, .inl (cI, 16, .inl (upd (fun _ => 0) ((0 : Int32)).toNatClampNeg (-1 : Int32))))]) 7 [6, 5, 4, 3, 2, 1, 0] rfl rfl (by decide))) ⟨q1, q2, q3, q4, q5, q6, rfl⟩ dX5_init_78
set_option maxRecDepth 100000 in
set_option maxHeartbeats 4000000 in
theorem c_X3_init {l : Launch} {D : va_G} {cI cS : ClassId} {A : Nat → Prop} {rest : va_W} {h0 : Nat} : CN l yX3_init cX3_init 1 1 64 D cI cS A [.ref h0] ((h0, .inr (3, [.int 0, .null, .null])) :: rest) (fun ws => ∃ q1 q2 : Nat, ws = ((h0, .inr (3, [.int 0, .ref q1, .ref q2])) :: (q1, .inl (cI, 64, .inl (fun _ => 0))) :: (q2, .inl (cI, 64, .inl (fun _ => 0))) :: rest)) 2 128 := by
  refine CN_of (own := RX3) (xs := [some (.ref h0)]) (by decide) rfl rfl (Nat.le_of_ble_eq_true rfl) rfl ?_
  intro p e s_ m below meth c C Cn
  refine j_aload_n C dX3_init_0 rfl ?_
  refine j_objInit C tw_148 tw_20 tw_21 (Nat.le_of_ble_eq_true rfl) (Nat.le_of_ble_eq_true rfl) dX3_init_1 ?_
  refine j_aload_n C dX3_init_4 rfl ?_
  refine j_bipush C bp_64 dX3_init_5 ?_
  refine j_newa C Cn (N := 64) (by decide) (by decide) (Nat.le_of_ble_eq_true rfl) (Nat.le_of_ble_eq_true rfl) (Nat.le_of_ble_eq_true rfl) dX3_init_7 (fun q1 => ?_)
  refine j_putF C Cn (q0 := 1) (ci := 3) (k := 1) (ty := .array .int) (ws' := ((q1, .inl (cI, 64, .inl (fun _ => 0))) :: (h0, .inr (3, [.int 0, .ref q1, .null])) :: rest)) inX3 tyX3_ok nmX3 rfl (by decide) tw_151 rfl rfl (by decide +kernel) rfl rfl rfl (Nat.le_of_ble_eq_true rfl) rfl dX3_init_9 ?_
  refine j_aload_n C dX3_init_12 rfl ?_
  refine j_bipush C bp_64 dX3_init_13 ?_
  refine j_newa C Cn (N := 64) (by decide) (by decide) (Nat.le_of_ble_eq_true rfl) (Nat.le_of_ble_eq_true rfl) (Nat.le_of_ble_eq_true rfl) dX3_init_15 (fun q2 => ?_)
  refine j_putF C Cn (q0 := 2) (ci := 3) (k := 2) (ty := .array .int) (ws' := ((q2, .inl (cI, 64, .inl (fun _ => 0))) :: (q1, .inl (cI, 64, .inl (fun _ => 0))) :: (h0, .inr (3, [.int 0, .ref q1, .ref q2])) :: rest)) inX3 tyX3_ok nmX3 rfl (by decide) tw_152 rfl rfl (by decide +kernel) rfl rfl rfl (Nat.le_of_ble_eq_true rfl) rfl dX3_init_17 ?_
  exact j_vretN (ws' := ((h0, .inr (3, [.int 0, .ref q1, .ref q2])) :: (q1, .inl (cI, 64, .inl (fun _ => 0))) :: (q2, .inl (cI, 64, .inl (fun _ => 0))) :: rest)) C (Nat.le_of_ble_eq_true rfl) (Nat.le_of_ble_eq_true rfl) (List.Perm.append_right rest (perm_pick (L := [(q2, .inl (cI, 64, .inl (fun _ => 0))), (q1, .inl (cI, 64, .inl (fun _ => 0))), (h0, .inr (3, [.int 0, .ref q1, .ref q2]))]) (L' := [(h0, .inr (3, [.int 0, .ref q1, .ref q2])), (q1, .inl (cI, 64, .inl (fun _ => 0))), (q2, .inl (cI, 64, .inl (fun _ => 0)))]) 3 [2, 1, 0] rfl rfl (by decide))) ⟨q1, q2, rfl⟩ dX3_init_20
set_option maxRecDepth 100000 in
set_option maxHeartbeats 4000000 in
theorem c_X6_init {l : Launch} {D : va_G} {cI cS : ClassId} {A : Nat → Prop} {rest : va_W} {h0 : Nat} : CN l yX6_init cX6_init 1 1 64 D cI cS A [.ref h0] ((h0, .inr (6, [.int 0, .null])) :: rest) (fun ws => ∃ q1 : Nat, ws = ((h0, .inr (6, [.int 0, .ref q1])) :: (q1, .inl (cI, 32, .inl (fun _ => 0))) :: rest)) 1 32 := by
  refine CN_of (own := RX6) (xs := [some (.ref h0)]) (by decide) rfl rfl (Nat.le_of_ble_eq_true rfl) rfl ?_
  intro p e s_ m below meth c C Cn
  refine j_aload_n C dX6_init_0 rfl ?_
  refine j_objInit C tw_165 tw_20 tw_21 (Nat.le_of_ble_eq_true rfl) (Nat.le_of_ble_eq_true rfl) dX6_init_1 ?_
  refine j_aload_n C dX6_init_4 rfl ?_
  refine j_bipush C bp_32 dX6_init_5 ?_
  refine j_newa C Cn (N := 32) (by decide) (by decide) (Nat.le_of_ble_eq_true rfl) (Nat.le_of_ble_eq_true rfl) (Nat.le_of_ble_eq_true rfl) dX6_init_7 (fun q1 => ?_)
  refine j_putF C Cn (q0 := 1) (ci := 6) (k := 1) (ty := .array .int) (ws' := ((q1, .inl (cI, 32, .inl (fun _ => 0))) :: (h0, .inr (6, [.int 0, .ref q1])) :: rest)) inX6 tyX6_ok nmX6 rfl (by decide) tw_168 rfl rfl (by decide +kernel) rfl rfl rfl (Nat.le_of_ble_eq_true rfl) rfl dX6_init_9 ?_
  exact j_vretN (ws' := ((h0, .inr (6, [.int 0, .ref q1])) :: (q1, .inl (cI, 32, .inl (fun _ => 0))) :: rest)) C (Nat.le_of_ble_eq_true rfl) (Nat.le_of_ble_eq_true rfl) (List.Perm.append_right rest (perm_pick (L := [(q1, .inl (cI, 32, .inl (fun _ => 0))), (h0, .inr (6, [.int 0, .ref q1]))]) (L' := [(h0, .inr (6, [.int 0, .ref q1])), (q1, .inl (cI, 32, .inl (fun _ => 0)))]) 2 [1, 0] rfl rfl (by decide))) ⟨q1, rfl⟩ dX6_init_12
/-- a new cluster's rows -/
def σI : Nat → Nat → Int32 := fun r => match r with
  | 0 => fun k => match k with
    | 0 => 3
    | 1 => 20
    | 2 => 100
    | 3 => 2
    | 4 => 16
    | 5 => 10
    | 8 => 1
    | _ => 0
  | 11 => upd (fun _ => 0) 0 (-1)
  | 12 => upd (fun _ => 0) 0 (-1)
  | 14 => upd (fun _ => 0) 0 (-1)
  | _ => fun _ => 0
theorem ci_X0_11 : CIN RX0 11 RX8 yX7_init cX7_init 1 := ⟨List.mem_of_getElem? (i := 1) (by decide +kernel), tw_37, tw_4, tw_38, rfl, (by decide +kernel), (by decide +kernel), (by decide +kernel)⟩
theorem ci_X0_20 : CIN RX0 20 RX8 yX4_init cX4_init 1 := ⟨List.mem_of_getElem? (i := 2) (by decide +kernel), tw_73, tw_5, tw_74, rfl, (by decide +kernel), (by decide +kernel), (by decide +kernel)⟩
theorem ci_X0_27 : CI RX0 27 yX5_init cX5_init 1 := ⟨tw_101, tw_102, tw_6, tw_103, rfl, (by decide +kernel), (by decide +kernel), (by decide +kernel)⟩
theorem ci_X0_34 : CIN RX0 34 RX8 yX3_init cX3_init 1 := ⟨List.mem_of_getElem? (i := 3) (by decide +kernel), tw_146, tw_7, tw_147, rfl, (by decide +kernel), (by decide +kernel), (by decide +kernel)⟩
theorem ci_X0_41 : CIN RX0 41 RX8 yX6_init cX6_init 1 := ⟨List.mem_of_getElem? (i := 4) (by decide +kernel), tw_163, tw_8, tw_164, rfl, (by decide +kernel), (by decide +kernel), (by decide +kernel)⟩
set_option maxRecDepth 100000 in
set_option maxHeartbeats 4000000 in
theorem c_X0_init {l : Launch} {D : va_G} {cI cS : ClassId} {A : Nat → Prop} {rest : va_W} {h0 : Nat} : CN l yX0_init cX0_init 1 2 84 D cI cS A [.ref h0] ((h0, .inr (0, [.null, .null, .null, .null, .null, .null, .int 0])) :: rest) (fun ws => ∃ a : Nat → Nat, a 0 = h0 ∧ ws = wC a cI σI rest) 17 303 := by
  refine CN_of (own := RX0) (xs := [some (.ref h0)]) (by decide) rfl rfl (Nat.le_of_ble_eq_true rfl) rfl ?_
  intro p e s_ m below meth c C Cn
  refine j_aload_n C dX0_init_0 rfl ?_
  refine j_objInit C tw_33 tw_20 tw_21 (Nat.le_of_ble_eq_true rfl) (Nat.le_of_ble_eq_true rfl) dX0_init_1 ?_
  refine j_aload_n C dX0_init_4 rfl ?_
  refine j_new C Cn (ci := 7) (fs := [.int 0, .int 0, .int 0, .int 0, .int 0, .int 0]) inX7 tyX7_ok tw_34 tw_35 tw_4 rfl dfX7 (Nat.le_of_ble_eq_true rfl) (Nat.le_of_ble_eq_true rfl) dX0_init_5 (fun q1 => ?_)
  refine j_dup C dX0_init_8 rfl ?_
  refine j_callIN C Cn.1 Cn.2.2 ci_X0_11 c_X7_init ⟨Nat.le_of_ble_eq_true rfl, Nat.le_of_ble_eq_true rfl⟩ ⟨Nat.le_of_ble_eq_true rfl, Nat.le_of_ble_eq_true rfl⟩ (Nat.le_of_ble_eq_true rfl) dX0_init_9 ?_
  rintro _ rfl
  refine j_putF C Cn (q0 := 1) (ci := 0) (k := 0) (ty := .object "RangeScheduler$Settings") (ws' := ((q1, .inr (7, [.int (3 : Int32), .int (20 : Int32), .int (100 : Int32), .int (2 : Int32), .int (16 : Int32), .int (10 : Int32)])) :: (h0, .inr (0, [.ref q1, .null, .null, .null, .null, .null, .int 0])) :: rest)) inX0 tyX0_ok nmX0 rfl (by decide) tw_175 rfl rfl (by decide +kernel) rfl rfl rfl (Nat.le_of_ble_eq_true rfl) rfl dX0_init_12 ?_
  refine j_aload_n C dX0_init_15 rfl ?_
  refine j_new C Cn (ci := 4) (fs := [.int 0, .int 0, .null, .null]) inX4 tyX4_ok tw_70 tw_71 tw_5 rfl dfX4 (Nat.le_of_ble_eq_true rfl) (Nat.le_of_ble_eq_true rfl) dX0_init_16 (fun q2 => ?_)
  refine j_dup C dX0_init_19 rfl ?_
  refine j_callIN C Cn.1 Cn.2.2 ci_X0_20 c_X4_init ⟨Nat.le_of_ble_eq_true rfl, Nat.le_of_ble_eq_true rfl⟩ ⟨Nat.le_of_ble_eq_true rfl, Nat.le_of_ble_eq_true rfl⟩ (Nat.le_of_ble_eq_true rfl) dX0_init_20 ?_
  rintro _ ⟨q3, q4, rfl⟩
  refine j_putF C Cn (q0 := 4) (ci := 0) (k := 1) (ty := .object "RangeScheduler$Nodes") (ws' := ((q2, .inr (4, [.int 0, .int 0, .ref q3, .ref q4])) :: (q3, .inl (cI, 8, .inl (fun _ => 0))) :: (q4, .inl (cI, 8, .inl (fun _ => 0))) :: (q1, .inr (7, [.int (3 : Int32), .int (20 : Int32), .int (100 : Int32), .int (2 : Int32), .int (16 : Int32), .int (10 : Int32)])) :: (h0, .inr (0, [.ref q1, .ref q2, .null, .null, .null, .null, .int 0])) :: rest)) inX0 tyX0_ok nmX0 rfl (by decide) tw_178 rfl rfl (by decide +kernel) rfl rfl rfl (Nat.le_of_ble_eq_true rfl) rfl dX0_init_23 ?_
  refine j_aload_n C dX0_init_26 rfl ?_
  refine j_new C Cn (ci := 5) (fs := [.int 0, .null, .null, .null, .null, .null, .null]) inX5 tyX5_ok tw_99 tw_100 tw_6 rfl dfX5 (Nat.le_of_ble_eq_true rfl) (Nat.le_of_ble_eq_true rfl) dX0_init_27 (fun q5 => ?_)
  refine j_dup C dX0_init_30 rfl ?_
  refine j_callI C Cn.1 Cn.2.2 ci_X0_27 c_X5_init ⟨Nat.le_of_ble_eq_true rfl, Nat.le_of_ble_eq_true rfl⟩ ⟨Nat.le_of_ble_eq_true rfl, Nat.le_of_ble_eq_true rfl⟩ (Nat.le_of_ble_eq_true rfl) dX0_init_31 ?_
  rintro _ ⟨q6, q7, q8, q9, q10, q11, rfl⟩
  refine j_putF C Cn (q0 := 11) (ci := 0) (k := 2) (ty := .object "RangeScheduler$Ranges") (ws' := ((q5, .inr (5, [.int (1 : Int32), .ref q6, .ref q7, .ref q8, .ref q9, .ref q10, .ref q11])) :: (q6, .inl (cI, 16, .inl (fun _ => 0))) :: (q7, .inl (cI, 16, .inl (fun _ => 0))) :: (q8, .inl (cI, 16, .inl (upd (fun _ => 0) ((0 : Int32)).toNatClampNeg (-1 : Int32)))) :: (q9, .inl (cI, 16, .inl (upd (fun _ => 0) ((0 : Int32)).toNatClampNeg (-1 : Int32)))) :: (q10, .inl (cI, 16, .inl (fun _ => 0))) :: (q11, .inl (cI, 16, .inl (upd (fun _ => 0) ((0 : Int32)).toNatClampNeg (-1 : Int32)))) :: (q2, .inr (4, [.int 0, .int 0, .ref q3, .ref q4])) :: (q3, .inl (cI, 8, .inl (fun _ => 0))) :: (q4, .inl (cI, 8, .inl (fun _ => 0))) :: (q1, .inr (7, [.int (3 : Int32), .int (20 : Int32), .int (100 : Int32), .int (2 : Int32), .int (16 : Int32), .int (10 : Int32)])) :: (h0, .inr (0, [.ref q1, .ref q2, .ref q5, .null, .null, .null, .int 0])) :: rest)) inX0 tyX0_ok nmX0 rfl (by decide) tw_181 rfl rfl (by decide +kernel) rfl rfl rfl (Nat.le_of_ble_eq_true rfl) rfl dX0_init_34 ?_
  refine j_aload_n C dX0_init_37 rfl ?_
  refine j_new C Cn (ci := 3) (fs := [.int 0, .null, .null]) inX3 tyX3_ok tw_143 tw_144 tw_7 rfl dfX3 (Nat.le_of_ble_eq_true rfl) (Nat.le_of_ble_eq_true rfl) dX0_init_38 (fun q12 => ?_)
  refine j_dup C dX0_init_41 rfl ?_
  refine j_callIN C Cn.1 Cn.2.2 ci_X0_34 c_X3_init ⟨Nat.le_of_ble_eq_true rfl, Nat.le_of_ble_eq_true rfl⟩ ⟨Nat.le_of_ble_eq_true rfl, Nat.le_of_ble_eq_true rfl⟩ (Nat.le_of_ble_eq_true rfl) dX0_init_42 ?_
  rintro _ ⟨q13, q14, rfl⟩
  refine j_putF C Cn (q0 := 14) (ci := 0) (k := 3) (ty := .object "RangeScheduler$Items") (ws' := ((q12, .inr (3, [.int 0, .ref q13, .ref q14])) :: (q13, .inl (cI, 64, .inl (fun _ => 0))) :: (q14, .inl (cI, 64, .inl (fun _ => 0))) :: (q5, .inr (5, [.int (1 : Int32), .ref q6, .ref q7, .ref q8, .ref q9, .ref q10, .ref q11])) :: (q6, .inl (cI, 16, .inl (fun _ => 0))) :: (q7, .inl (cI, 16, .inl (fun _ => 0))) :: (q8, .inl (cI, 16, .inl (upd (fun _ => 0) ((0 : Int32)).toNatClampNeg (-1 : Int32)))) :: (q9, .inl (cI, 16, .inl (upd (fun _ => 0) ((0 : Int32)).toNatClampNeg (-1 : Int32)))) :: (q10, .inl (cI, 16, .inl (fun _ => 0))) :: (q11, .inl (cI, 16, .inl (upd (fun _ => 0) ((0 : Int32)).toNatClampNeg (-1 : Int32)))) :: (q2, .inr (4, [.int 0, .int 0, .ref q3, .ref q4])) :: (q3, .inl (cI, 8, .inl (fun _ => 0))) :: (q4, .inl (cI, 8, .inl (fun _ => 0))) :: (q1, .inr (7, [.int (3 : Int32), .int (20 : Int32), .int (100 : Int32), .int (2 : Int32), .int (16 : Int32), .int (10 : Int32)])) :: (h0, .inr (0, [.ref q1, .ref q2, .ref q5, .ref q12, .null, .null, .int 0])) :: rest)) inX0 tyX0_ok nmX0 rfl (by decide) tw_184 rfl rfl (by decide +kernel) rfl rfl rfl (Nat.le_of_ble_eq_true rfl) rfl dX0_init_45 ?_
  refine j_aload_n C dX0_init_48 rfl ?_
  refine j_new C Cn (ci := 6) (fs := [.int 0, .null]) inX6 tyX6_ok tw_160 tw_161 tw_8 rfl dfX6 (Nat.le_of_ble_eq_true rfl) (Nat.le_of_ble_eq_true rfl) dX0_init_49 (fun q15 => ?_)
  refine j_dup C dX0_init_52 rfl ?_
  refine j_callIN C Cn.1 Cn.2.2 ci_X0_41 c_X6_init ⟨Nat.le_of_ble_eq_true rfl, Nat.le_of_ble_eq_true rfl⟩ ⟨Nat.le_of_ble_eq_true rfl, Nat.le_of_ble_eq_true rfl⟩ (Nat.le_of_ble_eq_true rfl) dX0_init_53 ?_
  rintro _ ⟨q16, rfl⟩
  refine j_putF C Cn (q0 := 16) (ci := 0) (k := 4) (ty := .object "RangeScheduler$Samples") (ws' := ((q15, .inr (6, [.int 0, .ref q16])) :: (q16, .inl (cI, 32, .inl (fun _ => 0))) :: (q12, .inr (3, [.int 0, .ref q13, .ref q14])) :: (q13, .inl (cI, 64, .inl (fun _ => 0))) :: (q14, .inl (cI, 64, .inl (fun _ => 0))) :: (q5, .inr (5, [.int (1 : Int32), .ref q6, .ref q7, .ref q8, .ref q9, .ref q10, .ref q11])) :: (q6, .inl (cI, 16, .inl (fun _ => 0))) :: (q7, .inl (cI, 16, .inl (fun _ => 0))) :: (q8, .inl (cI, 16, .inl (upd (fun _ => 0) ((0 : Int32)).toNatClampNeg (-1 : Int32)))) :: (q9, .inl (cI, 16, .inl (upd (fun _ => 0) ((0 : Int32)).toNatClampNeg (-1 : Int32)))) :: (q10, .inl (cI, 16, .inl (fun _ => 0))) :: (q11, .inl (cI, 16, .inl (upd (fun _ => 0) ((0 : Int32)).toNatClampNeg (-1 : Int32)))) :: (q2, .inr (4, [.int 0, .int 0, .ref q3, .ref q4])) :: (q3, .inl (cI, 8, .inl (fun _ => 0))) :: (q4, .inl (cI, 8, .inl (fun _ => 0))) :: (q1, .inr (7, [.int (3 : Int32), .int (20 : Int32), .int (100 : Int32), .int (2 : Int32), .int (16 : Int32), .int (10 : Int32)])) :: (h0, .inr (0, [.ref q1, .ref q2, .ref q5, .ref q12, .ref q15, .null, .int 0])) :: rest)) inX0 tyX0_ok nmX0 rfl (by decide) tw_186 rfl rfl (by decide +kernel) rfl rfl rfl (Nat.le_of_ble_eq_true rfl) rfl dX0_init_56 ?_
  refine j_aload_n C dX0_init_59 rfl ?_
  refine j_bipush C bp_9 dX0_init_60 ?_
  refine j_newa C Cn (N := 9) (by decide) (by decide) (Nat.le_of_ble_eq_true rfl) (Nat.le_of_ble_eq_true rfl) (Nat.le_of_ble_eq_true rfl) dX0_init_62 (fun q17 => ?_)
  refine j_putF C Cn (q0 := 17) (ci := 0) (k := 5) (ty := .array .int) (ws' := ((q17, .inl (cI, 9, .inl (fun _ => 0))) :: (q15, .inr (6, [.int 0, .ref q16])) :: (q16, .inl (cI, 32, .inl (fun _ => 0))) :: (q12, .inr (3, [.int 0, .ref q13, .ref q14])) :: (q13, .inl (cI, 64, .inl (fun _ => 0))) :: (q14, .inl (cI, 64, .inl (fun _ => 0))) :: (q5, .inr (5, [.int (1 : Int32), .ref q6, .ref q7, .ref q8, .ref q9, .ref q10, .ref q11])) :: (q6, .inl (cI, 16, .inl (fun _ => 0))) :: (q7, .inl (cI, 16, .inl (fun _ => 0))) :: (q8, .inl (cI, 16, .inl (upd (fun _ => 0) ((0 : Int32)).toNatClampNeg (-1 : Int32)))) :: (q9, .inl (cI, 16, .inl (upd (fun _ => 0) ((0 : Int32)).toNatClampNeg (-1 : Int32)))) :: (q10, .inl (cI, 16, .inl (fun _ => 0))) :: (q11, .inl (cI, 16, .inl (upd (fun _ => 0) ((0 : Int32)).toNatClampNeg (-1 : Int32)))) :: (q2, .inr (4, [.int 0, .int 0, .ref q3, .ref q4])) :: (q3, .inl (cI, 8, .inl (fun _ => 0))) :: (q4, .inl (cI, 8, .inl (fun _ => 0))) :: (q1, .inr (7, [.int (3 : Int32), .int (20 : Int32), .int (100 : Int32), .int (2 : Int32), .int (16 : Int32), .int (10 : Int32)])) :: (h0, .inr (0, [.ref q1, .ref q2, .ref q5, .ref q12, .ref q15, .ref q17, .int 0])) :: rest)) inX0 tyX0_ok nmX0 rfl (by decide) tw_188 rfl rfl (by decide +kernel) rfl rfl rfl (Nat.le_of_ble_eq_true rfl) rfl dX0_init_64 ?_
  exact j_vretN (ws' := wC (fun k => [h0, q1, q2, q5, q12, q15, q17, q3, q4, q6, q7, q8, q9, q10, q11, q13, q14, q16].getD k 0) cI σI rest) C (Nat.le_of_ble_eq_true rfl) (Nat.le_of_ble_eq_true rfl) (List.Perm.append_right rest (perm_pick (L := [(q17, .inl (cI, 9, .inl (fun _ => 0))), (q15, .inr (6, [.int 0, .ref q16])), (q16, .inl (cI, 32, .inl (fun _ => 0))), (q12, .inr (3, [.int 0, .ref q13, .ref q14])), (q13, .inl (cI, 64, .inl (fun _ => 0))), (q14, .inl (cI, 64, .inl (fun _ => 0))), (q5, .inr (5, [.int (1 : Int32), .ref q6, .ref q7, .ref q8, .ref q9, .ref q10, .ref q11])), (q6, .inl (cI, 16, .inl (fun _ => 0))), (q7, .inl (cI, 16, .inl (fun _ => 0))), (q8, .inl (cI, 16, .inl (upd (fun _ => 0) ((0 : Int32)).toNatClampNeg (-1 : Int32)))), (q9, .inl (cI, 16, .inl (upd (fun _ => 0) ((0 : Int32)).toNatClampNeg (-1 : Int32)))), (q10, .inl (cI, 16, .inl (fun _ => 0))), (q11, .inl (cI, 16, .inl (upd (fun _ => 0) ((0 : Int32)).toNatClampNeg (-1 : Int32)))), (q2, .inr (4, [.int 0, .int 0, .ref q3, .ref q4])), (q3, .inl (cI, 8, .inl (fun _ => 0))), (q4, .inl (cI, 8, .inl (fun _ => 0))), (q1, .inr (7, [.int (3 : Int32), .int (20 : Int32), .int (100 : Int32), .int (2 : Int32), .int (16 : Int32), .int (10 : Int32)])), (h0, .inr (0, [.ref q1, .ref q2, .ref q5, .ref q12, .ref q15, .ref q17, .int 0]))]) (L' := wC (fun k => [h0, q1, q2, q5, q12, q15, q17, q3, q4, q6, q7, q8, q9, q10, q11, q13, q14, q16].getD k 0) cI σI []) 18 [17, 16, 13, 6, 3, 1, 0, 14, 15, 7, 8, 9, 10, 11, 12, 4, 5, 2] rfl rfl (by decide))) ⟨_, rfl, rfl⟩ dX0_init_67
theorem ci_X1_11 : CIN RX1 11 RX8 yX0_init cX0_init 1 := ⟨List.mem_of_getElem? (i := 0) (by decide +kernel), tw_31, tw_3, tw_32, rfl, (by decide +kernel), (by decide +kernel), (by decide +kernel)⟩
set_option maxRecDepth 100000 in
set_option maxHeartbeats 4000000 in
theorem c_X1_init {l : Launch} {D : va_G} {cI cS : ClassId} {A : Nat → Prop} {rest : va_W} {h0 : Nat} : CN l yX1_init cX1_init 1 3 104 D cI cS A [.ref h0] ((h0, .inr (1, [.null, .null, .null, .null])) :: rest) (fun ws => ∃ a : Nat → Nat, ws = wC a cI σI (dv h0 a :: rest)) 18 310 := by
  refine CN_of (own := RX1) (xs := [some (.ref h0)]) (by decide) rfl rfl (Nat.le_of_ble_eq_true rfl) rfl ?_
  intro p e s_ m below meth c C Cn
  refine j_aload_n C dX1_init_0 rfl ?_
  refine j_objInit C tw_27 tw_20 tw_21 (Nat.le_of_ble_eq_true rfl) (Nat.le_of_ble_eq_true rfl) dX1_init_1 ?_
  refine j_aload_n C dX1_init_4 rfl ?_
  refine j_new C Cn (ci := 0) (fs := [.null, .null, .null, .null, .null, .null, .int 0]) inX0 tyX0_ok tw_28 tw_29 tw_3 rfl dfX0 (Nat.le_of_ble_eq_true rfl) (Nat.le_of_ble_eq_true rfl) dX1_init_5 (fun q1 => ?_)
  refine j_dup C dX1_init_8 rfl ?_
  refine j_callIN C Cn.1 Cn.2.2 ci_X1_11 c_X0_init ⟨Nat.le_of_ble_eq_true rfl, Nat.le_of_ble_eq_true rfl⟩ ⟨Nat.le_of_ble_eq_true rfl, Nat.le_of_ble_eq_true rfl⟩ (Nat.le_of_ble_eq_true rfl) dX1_init_9 ?_
  rintro _ ⟨a, ha, rfl⟩
  subst ha
  refine j_putF C Cn (q0 := 18) (ci := 1) (k := 0) (ty := .object "RangeScheduler$Cluster") (ws' := (wC a cI σI ((h0, .inr (1, [.ref (a 0), .null, .null, .null])) :: rest))) inX1 tyX1_ok nmX1 rfl (by decide) tw_209 rfl rfl (by decide +kernel) rfl rfl rfl (Nat.le_of_ble_eq_true rfl) rfl dX1_init_12 ?_
  refine j_aload_n C dX1_init_15 rfl ?_
  refine j_aload_n C dX1_init_16 rfl ?_
  refine j_getf C (q0 := 18) (ci := 1) (k := 0) inX1 rfl (by decide) tw_209 rfl rfl dX1_init_17 ?_
  refine j_getf C (q0 := 0) (ci := 0) (k := 0) inX0 rfl (by decide) tw_176 rfl rfl dX1_init_20 ?_
  refine j_putF C Cn (q0 := 18) (ci := 1) (k := 1) (ty := .object "RangeScheduler$Settings") (ws' := (wC a cI σI ((h0, .inr (1, [.ref (a 0), .ref (a 1), .null, .null])) :: rest))) inX1 tyX1_ok nmX1 rfl (by decide) tw_211 rfl rfl (by decide +kernel) rfl rfl rfl (Nat.le_of_ble_eq_true rfl) rfl dX1_init_23 ?_
  refine j_aload_n C dX1_init_26 rfl ?_
  refine j_aload_n C dX1_init_27 rfl ?_
  refine j_getf C (q0 := 18) (ci := 1) (k := 0) inX1 rfl (by decide) tw_209 rfl rfl dX1_init_28 ?_
  refine j_getf C (q0 := 0) (ci := 0) (k := 1) inX0 rfl (by decide) tw_179 rfl rfl dX1_init_31 ?_
  refine j_putF C Cn (q0 := 18) (ci := 1) (k := 2) (ty := .object "RangeScheduler$Nodes") (ws' := (wC a cI σI ((h0, .inr (1, [.ref (a 0), .ref (a 1), .ref (a 2), .null])) :: rest))) inX1 tyX1_ok nmX1 rfl (by decide) tw_212 rfl rfl (by decide +kernel) rfl rfl rfl (Nat.le_of_ble_eq_true rfl) rfl dX1_init_34 ?_
  refine j_aload_n C dX1_init_37 rfl ?_
  refine j_aload_n C dX1_init_38 rfl ?_
  refine j_getf C (q0 := 18) (ci := 1) (k := 0) inX1 rfl (by decide) tw_209 rfl rfl dX1_init_39 ?_
  refine j_getf C (q0 := 0) (ci := 0) (k := 2) inX0 rfl (by decide) tw_182 rfl rfl dX1_init_42 ?_
  refine j_putF C Cn (q0 := 18) (ci := 1) (k := 3) (ty := .object "RangeScheduler$Ranges") (ws' := (wC a cI σI ((h0, .inr (1, [.ref (a 0), .ref (a 1), .ref (a 2), .ref (a 3)])) :: rest))) inX1 tyX1_ok nmX1 rfl (by decide) tw_213 rfl rfl (by decide +kernel) rfl rfl rfl (Nat.le_of_ble_eq_true rfl) rfl dX1_init_45 ?_
  exact j_vretN (ws' := wC a cI σI (dv h0 a :: rest)) C (Nat.le_of_ble_eq_true rfl) (Nat.le_of_ble_eq_true rfl) (List.Perm.refl _) ⟨_, rfl⟩ dX1_init_48
theorem perm_hist {b0 b1 b2 b3 : Nat → Nat} {cI : ClassId} {σ : Nat → Nat → Int32} {S H : Nat × va_E} {r : va_W} : (wC b3 cI σ (wC b2 cI σ (wC b1 cI σ (wC b0 cI σ (S :: H :: r))))).Perm (H :: S :: wC b0 cI σ (wC b1 cI σ (wC b2 cI σ (wC b3 cI σ r)))) := by
  have c : ∀ (X Y Z : va_W), (X ++ (Y ++ Z)).Perm (Y ++ (X ++ Z)) := List.perm_append_comm_assoc
  have e : ∀ (a : Nat → Nat) (Z : va_W), wC a cI σ Z = wC a cI σ [] ++ Z := fun a Z => wC_app
  have g : ∀ (B0 B1 B2 B3 X : va_W), (B3 ++ (B2 ++ (B1 ++ (B0 ++ (X ++ r))))).Perm (X ++ (B0 ++ (B1 ++ (B2 ++ (B3 ++ r))))) := by
    intro B0 B1 B2 B3 X
    have h0 : (B0 ++ (X ++ r)).Perm (X ++ (B0 ++ r)) := c _ _ _
    have h1 : (B1 ++ (X ++ (B0 ++ r))).Perm (X ++ (B0 ++ (B1 ++ r))) := (c _ _ _).trans ((c _ _ _).append_left X)
    have h2 : (B2 ++ (X ++ (B0 ++ (B1 ++ r)))).Perm (X ++ (B0 ++ (B1 ++ (B2 ++ r)))) := (c _ _ _).trans (((c _ _ _).trans ((c _ _ _).append_left B0)).append_left X)
    have h3 : (B3 ++ (X ++ (B0 ++ (B1 ++ (B2 ++ r))))).Perm (X ++ (B0 ++ (B1 ++ (B2 ++ (B3 ++ r))))) := (c _ _ _).trans (((c _ _ _).trans (((c _ _ _).trans ((c _ _ _).append_left B1)).append_left B0)).append_left X)
    exact ((((h0.append_left B1).trans h1).append_left B2).trans h2 |>.append_left B3).trans h3
  have h := g (wC b0 cI σ []) (wC b1 cI σ []) (wC b2 cI σ []) (wC b3 cI σ []) [S, H]
  exact h.trans (List.Perm.swap _ _ _)
theorem ci_X2_17 : CIN RX2 17 RX8 yX0_init cX0_init 1 := ⟨List.mem_of_getElem? (i := 5) (by decide +kernel), tw_31, tw_3, tw_32, rfl, (by decide +kernel), (by decide +kernel), (by decide +kernel)⟩
set_option maxRecDepth 100000 in
set_option maxHeartbeats 4000000 in
theorem c_X2_init {l : Launch} {D : va_G} {cI cS : ClassId} {A : Nat → Prop} {rest : va_W} {h0 : Nat} : CN l yX2_init cX2_init 2 3 104 D cI cS A [.ref h0] ((h0, .inr (2, [.int 0, .int 0, .null])) :: rest) (fun ws => ∃ (sl : Nat) (b : Nat → Nat → Nat), ws = (h0, .inr (2, [.int 0, .int 0, .ref sl])) :: slC sl cS b :: wC (b 0) cI σI (wC (b 1) cI σI (wC (b 2) cI σI (wC (b 3) cI σI rest)))) 73 1244 := by
  refine CN_of (own := RX2) (xs := [some (.ref h0), none]) (by decide) rfl rfl (Nat.le_of_ble_eq_true rfl) rfl ?_
  intro p e s_ m below meth c C Cn
  refine j_aload_n C dX2_init_0 rfl ?_
  refine j_objInit C tw_228 tw_20 tw_21 (Nat.le_of_ble_eq_true rfl) (Nat.le_of_ble_eq_true rfl) dX2_init_1 ?_
  refine j_aload_n C dX2_init_4 rfl ?_
  refine j_iconst C ic_4 dX2_init_5 ?_
  refine j_newq C Cn (N := 4) tw_229 (by decide) (by decide) (Nat.le_of_ble_eq_true rfl) (Nat.le_of_ble_eq_true rfl) (Nat.le_of_ble_eq_true rfl) dX2_init_6 (fun sl => ?_)
  refine j_putF C Cn (q0 := 1) (ci := 2) (k := 2) (ty := .array (.object "RangeScheduler$Cluster")) (ws' := ((sl, .inl (cS, 4, .inr (.inr (.inr (.inr (fun _ => none)))))) :: (h0, .inr (2, [.int 0, .int 0, .ref sl])) :: rest)) inX2 tyX2_ok nmX2 rfl (by decide) tw_235 rfl rfl (by decide +kernel) rfl rfl rfl (Nat.le_of_ble_eq_true rfl) rfl dX2_init_9 ?_
  refine j_iconst C ic_0 dX2_init_12 ?_
  refine j_istore_n C (xs' := [some (.ref h0), some (.int (0 : Int32))]) dX2_init_13 rfl rfl ?_
  refine j_iload_n C dX2_init_14 rfl ?_
  refine j_iconst C ic_4 dX2_init_15 ?_
  refine j_icmp_ge C (tgt := 38) (by decide) dX2_init_16 (fun z => absurd z (by decide)) (fun _ => ?_)
  refine j_aload_n C dX2_init_19 rfl ?_
  refine j_getf C (q0 := 1) (ci := 2) (k := 2) inX2 rfl (by decide) tw_235 rfl rfl dX2_init_20 ?_
  refine j_iload_n C dX2_init_23 rfl ?_
  refine j_new C Cn (ci := 0) (fs := [.null, .null, .null, .null, .null, .null, .int 0]) inX0 tyX0_ok tw_229 tw_29 tw_3 rfl dfX0 (Nat.le_of_ble_eq_true rfl) (Nat.le_of_ble_eq_true rfl) dX2_init_24 (fun q => ?_)
  refine j_dup C dX2_init_27 rfl ?_
  refine j_callIN C Cn.1 Cn.2.2 ci_X2_17 c_X0_init ⟨Nat.le_of_ble_eq_true rfl, Nat.le_of_ble_eq_true rfl⟩ ⟨Nat.le_of_ble_eq_true rfl, Nat.le_of_ble_eq_true rfl⟩ (Nat.le_of_ble_eq_true rfl) dX2_init_28 ?_
  rintro _ ⟨b0, hb, rfl⟩
  subst hb
  refine j_aast C (q0 := 18) (qk := 0) (ws' := (wC b0 cI σI ((sl, .inl (cS, 4, .inr (.inr (.inr (.inr (va_up (fun _ => none) ((0 : Int32)).toNatClampNeg (some (b0 0)))))))) :: (h0, .inr (2, [.int 0, .int 0, .ref sl])) :: rest))) rfl rfl (by unfold vp_in; decide) rfl dX2_init_31 ?_
  refine j_iinc C (xs' := [some (.ref h0), some (.int ((0 : Int32) + (1 : Int32)))]) dX2_init_32 rfl (ii_1 _) rfl rfl ?_
  refine j_goto C (tgt := 14) (by decide) dX2_init_35 ?_
  refine j_iload_n C dX2_init_14 rfl ?_
  refine j_iconst C ic_4 dX2_init_15 ?_
  refine j_icmp_ge C (tgt := 38) (by decide) dX2_init_16 (fun z => absurd z (by decide)) (fun _ => ?_)
  refine j_aload_n C dX2_init_19 rfl ?_
  refine j_getf C (q0 := 19) (ci := 2) (k := 2) inX2 rfl (by decide) tw_235 rfl rfl dX2_init_20 ?_
  refine j_iload_n C dX2_init_23 rfl ?_
  refine j_new C Cn (ci := 0) (fs := [.null, .null, .null, .null, .null, .null, .int 0]) inX0 tyX0_ok tw_229 tw_29 tw_3 rfl dfX0 (Nat.le_of_ble_eq_true rfl) (Nat.le_of_ble_eq_true rfl) dX2_init_24 (fun q => ?_)
  refine j_dup C dX2_init_27 rfl ?_
  refine j_callIN C Cn.1 Cn.2.2 ci_X2_17 c_X0_init ⟨Nat.le_of_ble_eq_true rfl, Nat.le_of_ble_eq_true rfl⟩ ⟨Nat.le_of_ble_eq_true rfl, Nat.le_of_ble_eq_true rfl⟩ (Nat.le_of_ble_eq_true rfl) dX2_init_28 ?_
  rintro _ ⟨b1, hb, rfl⟩
  subst hb
  refine j_aast C (q0 := 36) (qk := 0) (ws' := (wC b1 cI σI (wC b0 cI σI ((sl, .inl (cS, 4, .inr (.inr (.inr (.inr (va_up (va_up (fun _ => none) ((0 : Int32)).toNatClampNeg (some (b0 0))) (((0 : Int32) + (1 : Int32))).toNatClampNeg (some (b1 0)))))))) :: (h0, .inr (2, [.int 0, .int 0, .ref sl])) :: rest)))) rfl rfl (by unfold vp_in; decide) rfl dX2_init_31 ?_
  refine j_iinc C (xs' := [some (.ref h0), some (.int (((0 : Int32) + (1 : Int32)) + (1 : Int32)))]) dX2_init_32 rfl (ii_1 _) rfl rfl ?_
  refine j_goto C (tgt := 14) (by decide) dX2_init_35 ?_
  refine j_iload_n C dX2_init_14 rfl ?_
  refine j_iconst C ic_4 dX2_init_15 ?_
  refine j_icmp_ge C (tgt := 38) (by decide) dX2_init_16 (fun z => absurd z (by decide)) (fun _ => ?_)
  refine j_aload_n C dX2_init_19 rfl ?_
  refine j_getf C (q0 := 37) (ci := 2) (k := 2) inX2 rfl (by decide) tw_235 rfl rfl dX2_init_20 ?_
  refine j_iload_n C dX2_init_23 rfl ?_
  refine j_new C Cn (ci := 0) (fs := [.null, .null, .null, .null, .null, .null, .int 0]) inX0 tyX0_ok tw_229 tw_29 tw_3 rfl dfX0 (Nat.le_of_ble_eq_true rfl) (Nat.le_of_ble_eq_true rfl) dX2_init_24 (fun q => ?_)
  refine j_dup C dX2_init_27 rfl ?_
  refine j_callIN C Cn.1 Cn.2.2 ci_X2_17 c_X0_init ⟨Nat.le_of_ble_eq_true rfl, Nat.le_of_ble_eq_true rfl⟩ ⟨Nat.le_of_ble_eq_true rfl, Nat.le_of_ble_eq_true rfl⟩ (Nat.le_of_ble_eq_true rfl) dX2_init_28 ?_
  rintro _ ⟨b2, hb, rfl⟩
  subst hb
  refine j_aast C (q0 := 54) (qk := 0) (ws' := (wC b2 cI σI (wC b1 cI σI (wC b0 cI σI ((sl, .inl (cS, 4, .inr (.inr (.inr (.inr (va_up (va_up (va_up (fun _ => none) ((0 : Int32)).toNatClampNeg (some (b0 0))) (((0 : Int32) + (1 : Int32))).toNatClampNeg (some (b1 0))) ((((0 : Int32) + (1 : Int32)) + (1 : Int32))).toNatClampNeg (some (b2 0)))))))) :: (h0, .inr (2, [.int 0, .int 0, .ref sl])) :: rest))))) rfl rfl (by unfold vp_in; decide) rfl dX2_init_31 ?_
  refine j_iinc C (xs' := [some (.ref h0), some (.int ((((0 : Int32) + (1 : Int32)) + (1 : Int32)) + (1 : Int32)))]) dX2_init_32 rfl (ii_1 _) rfl rfl ?_
  refine j_goto C (tgt := 14) (by decide) dX2_init_35 ?_
  refine j_iload_n C dX2_init_14 rfl ?_
  refine j_iconst C ic_4 dX2_init_15 ?_
  refine j_icmp_ge C (tgt := 38) (by decide) dX2_init_16 (fun z => absurd z (by decide)) (fun _ => ?_)
  refine j_aload_n C dX2_init_19 rfl ?_
  refine j_getf C (q0 := 55) (ci := 2) (k := 2) inX2 rfl (by decide) tw_235 rfl rfl dX2_init_20 ?_
  refine j_iload_n C dX2_init_23 rfl ?_
  refine j_new C Cn (ci := 0) (fs := [.null, .null, .null, .null, .null, .null, .int 0]) inX0 tyX0_ok tw_229 tw_29 tw_3 rfl dfX0 (Nat.le_of_ble_eq_true rfl) (Nat.le_of_ble_eq_true rfl) dX2_init_24 (fun q => ?_)
  refine j_dup C dX2_init_27 rfl ?_
  refine j_callIN C Cn.1 Cn.2.2 ci_X2_17 c_X0_init ⟨Nat.le_of_ble_eq_true rfl, Nat.le_of_ble_eq_true rfl⟩ ⟨Nat.le_of_ble_eq_true rfl, Nat.le_of_ble_eq_true rfl⟩ (Nat.le_of_ble_eq_true rfl) dX2_init_28 ?_
  rintro _ ⟨b3, hb, rfl⟩
  subst hb
  refine j_aast C (q0 := 72) (qk := 0) (ws' := (wC b3 cI σI (wC b2 cI σI (wC b1 cI σI (wC b0 cI σI ((sl, .inl (cS, 4, .inr (.inr (.inr (.inr (va_up (va_up (va_up (va_up (fun _ => none) ((0 : Int32)).toNatClampNeg (some (b0 0))) (((0 : Int32) + (1 : Int32))).toNatClampNeg (some (b1 0))) ((((0 : Int32) + (1 : Int32)) + (1 : Int32))).toNatClampNeg (some (b2 0))) (((((0 : Int32) + (1 : Int32)) + (1 : Int32)) + (1 : Int32))).toNatClampNeg (some (b3 0)))))))) :: (h0, .inr (2, [.int 0, .int 0, .ref sl])) :: rest)))))) rfl rfl (by unfold vp_in; decide) rfl dX2_init_31 ?_
  refine j_iinc C (xs' := [some (.ref h0), some (.int (((((0 : Int32) + (1 : Int32)) + (1 : Int32)) + (1 : Int32)) + (1 : Int32)))]) dX2_init_32 rfl (ii_1 _) rfl rfl ?_
  refine j_goto C (tgt := 14) (by decide) dX2_init_35 ?_
  refine j_iload_n C dX2_init_14 rfl ?_
  refine j_iconst C ic_4 dX2_init_15 ?_
  refine j_icmp_ge C (tgt := 38) (by decide) dX2_init_16 (fun _ => ?_) (fun z => absurd (by decide) z)
  refine j_arq (q0 := 72) (g := fun i => some ((fun j => [b0, b1, b2, b3].getD j b0) i 0)) (ws' := wC b3 cI σI (wC b2 cI σI (wC b1 cI σI (wC b0 cI σI (slC sl cS (fun j => [b0, b1, b2, b3].getD j b0) :: (h0, .inr (2, [.int 0, .int 0, .ref sl])) :: rest))))) rfl (fun i hi => by rcases (show i = 0 ∨ i = 1 ∨ i = 2 ∨ i = 3 by omega) with rfl | rfl | rfl | rfl <;> rfl) rfl rfl ?_
  exact j_vretN (ws' := (h0, .inr (2, [.int 0, .int 0, .ref sl])) :: slC sl cS (fun j => [b0, b1, b2, b3].getD j b0) :: wC b0 cI σI (wC b1 cI σI (wC b2 cI σI (wC b3 cI σI rest)))) C (Nat.le_of_ble_eq_true rfl) (Nat.le_of_ble_eq_true rfl) perm_hist ⟨sl, (fun j => [b0, b1, b2, b3].getD j b0), rfl⟩ dX2_init_38
theorem ci_X8_11 : CI RX8 11 yX1_init cX1_init 1 := ⟨tw_24, tw_25, tw_2, tw_26, rfl, (by decide +kernel), (by decide +kernel), (by decide +kernel)⟩
theorem ci_X8_23 : CI RX8 23 yX2_init cX2_init 2 := ⟨tw_225, tw_226, tw_9, tw_227, rfl, (by decide +kernel), (by decide +kernel), (by decide +kernel)⟩
set_option maxRecDepth 100000 in
set_option maxHeartbeats 4000000 in
theorem c_X8_init {l : Launch} {D : va_G} {cI cS : ClassId} {A : Nat → Prop} {rest : va_W} {h0 : Nat} : CN l yX8_init cX8_init 1 4 125 D cI cS A [.ref h0] ((h0, .inr (8, [.null, .null, .null, .int 0, .int 0, .int 0])) :: rest) (fun ws => ∃ (a : Nat → Nat) (d hh sl : Nat) (b : Nat → Nat → Nat), ws = wT a d h0 hh sl b cI cS σI (fun _ => 0) (fun _ => σI) rest) 93 1561 := by
  refine CN_of (own := RX8) (xs := [some (.ref h0)]) (by decide) rfl rfl (Nat.le_of_ble_eq_true rfl) rfl ?_
  intro p e s_ m below meth c C Cn
  refine j_aload_n C dX8_init_0 rfl ?_
  refine j_objInit C tw_19 tw_20 tw_21 (Nat.le_of_ble_eq_true rfl) (Nat.le_of_ble_eq_true rfl) dX8_init_1 ?_
  refine j_aload_n C dX8_init_4 rfl ?_
  refine j_new C Cn (ci := 1) (fs := [.null, .null, .null, .null]) inX1 tyX1_ok tw_22 tw_23 tw_2 rfl dfX1 (Nat.le_of_ble_eq_true rfl) (Nat.le_of_ble_eq_true rfl) dX8_init_5 (fun d => ?_)
  refine j_dup C dX8_init_8 rfl ?_
  refine j_callI C Cn.1 Cn.2.2 ci_X8_11 c_X1_init ⟨Nat.le_of_ble_eq_true rfl, Nat.le_of_ble_eq_true rfl⟩ ⟨Nat.le_of_ble_eq_true rfl, Nat.le_of_ble_eq_true rfl⟩ (Nat.le_of_ble_eq_true rfl) dX8_init_9 ?_
  rintro _ ⟨a, rfl⟩
  refine j_putF C Cn (q0 := 19) (ci := 8) (k := 0) (ty := .object "RangeScheduler$Driver") (ws' := (wC a cI σI (dv d a :: (h0, .inr (8, [.ref d, .null, .null, .int 0, .int 0, .int 0])) :: rest))) inX8 tyX8_ok nmX8 rfl (by decide) tw_243 rfl rfl (by decide +kernel) rfl rfl rfl (Nat.le_of_ble_eq_true rfl) rfl dX8_init_12 ?_
  refine j_aload_n C dX8_init_15 rfl ?_
  refine j_aload_n C dX8_init_16 rfl ?_
  refine j_getf C (q0 := 19) (ci := 8) (k := 0) inX8 rfl (by decide) tw_243 rfl rfl dX8_init_17 ?_
  refine j_getf C (q0 := 18) (ci := 1) (k := 0) inX1 rfl (by decide) tw_210 rfl rfl dX8_init_20 ?_
  refine j_putF C Cn (q0 := 19) (ci := 8) (k := 1) (ty := .object "RangeScheduler$Cluster") (ws' := (wC a cI σI (dv d a :: (h0, .inr (8, [.ref d, .ref (a 0), .null, .int 0, .int 0, .int 0])) :: rest))) inX8 tyX8_ok nmX8 rfl (by decide) tw_244 rfl rfl (by decide +kernel) rfl rfl rfl (Nat.le_of_ble_eq_true rfl) rfl dX8_init_23 ?_
  refine j_aload_n C dX8_init_26 rfl ?_
  refine j_new C Cn (ci := 2) (fs := [.int 0, .int 0, .null]) inX2 tyX2_ok tw_223 tw_224 tw_9 rfl dfX2 (Nat.le_of_ble_eq_true rfl) (Nat.le_of_ble_eq_true rfl) dX8_init_27 (fun hh => ?_)
  refine j_dup C dX8_init_30 rfl ?_
  refine j_callI C Cn.1 Cn.2.2 ci_X8_23 c_X2_init ⟨Nat.le_of_ble_eq_true rfl, Nat.le_of_ble_eq_true rfl⟩ ⟨Nat.le_of_ble_eq_true rfl, Nat.le_of_ble_eq_true rfl⟩ (Nat.le_of_ble_eq_true rfl) dX8_init_31 ?_
  rintro _ ⟨sl, b, rfl⟩
  refine j_putF C Cn (q0 := 93) (ci := 8) (k := 2) (ty := .object "RangeScheduler$History") (ws' := ((hh, .inr (2, [.int 0, .int 0, .ref sl])) :: slC sl cS b :: wC (b 0) cI σI (wC (b 1) cI σI (wC (b 2) cI σI (wC (b 3) cI σI (wC a cI σI (dv d a :: (h0, .inr (8, [.ref d, .ref (a 0), .ref hh, .int 0, .int 0, .int 0])) :: rest))))))) inX8 tyX8_ok nmX8 rfl (by decide) tw_245 rfl rfl (by decide +kernel) rfl rfl rfl (Nat.le_of_ble_eq_true rfl) rfl dX8_init_34 ?_
  exact j_vretN (ws' := wT a d h0 hh sl b cI cS σI (fun _ => 0) (fun _ => σI) rest) C (Nat.le_of_ble_eq_true rfl) (Nat.le_of_ble_eq_true rfl) (List.perm_append_comm_assoc ((hh, .inr (2, [.int 0, .int 0, .ref sl])) :: slC sl cS b :: wC (b 0) cI σI (wC (b 1) cI σI (wC (b 2) cI σI (wC (b 3) cI σI []))) : va_W) (wC a cI σI [dv d a, (h0, .inr (8, [.ref d, .ref (a 0), .ref hh, .int 0, .int 0, .int 0]))]) rest) ⟨a, d, hh, sl, b, rfl⟩ dX8_init_37
/-- a new model's row -/
def sI : Nat → Int32 := (upd (upd (upd (upd (upd (upd (upd (upd (upd (upd (fun _ => 0) 0 (3)) 1 (20)) 2 (100)) 3 (2)) 4 (16)) 5 (10)) 17 (1)) 173 (-1)) 174 (-1)) 176 (-1))
theorem set_I (s : Nat → Int32) {r w v : Int32} (h : ¬ ((171 : Int32) + (6 : Int32) * r + w < 0 ∨ 299 ≤ ((171 : Int32) + (6 : Int32) * r + w).toNatClampNeg)) : f_X9_set s r w v = some (upd s ((171 : Int32) + (6 : Int32) * r + w).toNatClampNeg v) := by
  unfold f_X9_set sd
  rw [if_neg h]
set_option maxRecDepth 100000 in
set_option maxHeartbeats 4000000 in
theorem c_X9_init {l : Launch} {D : va_G} {cI cS : ClassId} {A : Nat → Prop} {rest : va_W} {h0 : Nat} : CN l yX9_init cX9_init 1 1 64 D cI cS A [.ref h0] ((h0, .inr (9, [.null, .null, .int 0, .null, .long 0])) :: rest) (fun ws => ∃ b : Nat → Nat, b 0 = h0 ∧ ws = wM b cI sI (fun _ => 0) (fun _ => 0) 0 0 rest) 3 1498 := by
  refine CN_of (own := RX9) (xs := [some (.ref h0)]) (by decide) rfl rfl (Nat.le_of_ble_eq_true rfl) rfl ?_
  intro p e s_ m below meth c C Cn
  refine j_aload_n C dX9_init_0 rfl ?_
  refine j_objInit C tw_749 tw_20 tw_21 (Nat.le_of_ble_eq_true rfl) (Nat.le_of_ble_eq_true rfl) dX9_init_1 ?_
  refine j_aload_n C dX9_init_4 rfl ?_
  refine j_sipush C sp_299 dX9_init_5 ?_
  refine j_newa C Cn (N := 299) (by decide) (by decide) (Nat.le_of_ble_eq_true rfl) (Nat.le_of_ble_eq_true rfl) (Nat.le_of_ble_eq_true rfl) dX9_init_8 (fun q1 => ?_)
  refine j_putF C Cn (q0 := 1) (ci := 9) (k := 0) (ty := .array .int) (ws' := ((q1, .inl (cI, 299, .inl (fun _ => 0))) :: (h0, .inr (9, [.ref q1, .null, .int 0, .null, .long 0])) :: rest)) inX9 tyX9_ok nmX9 rfl (by decide) tw_754 rfl rfl (by decide +kernel) rfl rfl rfl (Nat.le_of_ble_eq_true rfl) rfl dX9_init_10 ?_
  refine j_aload_n C dX9_init_13 rfl ?_
  refine j_sipush C sp_1196 dX9_init_14 ?_
  refine j_newa C Cn (N := 1196) (by decide) (by decide) (Nat.le_of_ble_eq_true rfl) (Nat.le_of_ble_eq_true rfl) (Nat.le_of_ble_eq_true rfl) dX9_init_17 (fun q2 => ?_)
  refine j_putF C Cn (q0 := 2) (ci := 9) (k := 1) (ty := .array .int) (ws' := ((q2, .inl (cI, 1196, .inl (fun _ => 0))) :: (q1, .inl (cI, 299, .inl (fun _ => 0))) :: (h0, .inr (9, [.ref q1, .ref q2, .int 0, .null, .long 0])) :: rest)) inX9 tyX9_ok nmX9 rfl (by decide) tw_755 rfl rfl (by decide +kernel) rfl rfl rfl (Nat.le_of_ble_eq_true rfl) rfl dX9_init_19 ?_
  refine j_aload_n C dX9_init_22 rfl ?_
  refine j_iconst C ic_3 dX9_init_23 ?_
  refine j_newa C Cn (N := 3) (by decide) (by decide) (Nat.le_of_ble_eq_true rfl) (Nat.le_of_ble_eq_true rfl) (Nat.le_of_ble_eq_true rfl) dX9_init_24 (fun q3 => ?_)
  refine j_putF C Cn (q0 := 3) (ci := 9) (k := 3) (ty := .array .int) (ws' := ((q3, .inl (cI, 3, .inl (fun _ => 0))) :: (q2, .inl (cI, 1196, .inl (fun _ => 0))) :: (q1, .inl (cI, 299, .inl (fun _ => 0))) :: (h0, .inr (9, [.ref q1, .ref q2, .int 0, .ref q3, .long 0])) :: rest)) inX9 tyX9_ok nmX9 rfl (by decide) tw_757 rfl rfl (by decide +kernel) rfl rfl rfl (Nat.le_of_ble_eq_true rfl) rfl dX9_init_26 ?_
  refine j_perm (ws' := wM (fun k => [h0, q1, q2, q3].getD k 0) cI (fun _ => 0) (fun _ => 0) (fun _ => 0) 0 0 rest) (List.Perm.append_right rest (perm_pick (L := [(q3, .inl (cI, 3, .inl (fun _ => 0))), (q2, .inl (cI, 1196, .inl (fun _ => 0))), (q1, .inl (cI, 299, .inl (fun _ => 0))), (h0, .inr (9, [.ref q1, .ref q2, .int 0, .ref q3, .long 0]))]) (L' := wM (fun k => [h0, q1, q2, q3].getD k 0) cI (fun _ => 0) (fun _ => 0) (fun _ => 0) 0 0 []) 4 [3, 2, 1, 0] rfl rfl (by decide))) ?_
  refine j_aload_n C dX9_init_29 rfl ?_
  refine gf_X9_7 C dX9_init_30 ?_
  refine j_iconst C ic_0 dX9_init_33 ?_
  refine j_iconst C ic_3 dX9_init_34 ?_
  refine aSM_1 C (by unfold vp_in; decide) dX9_init_35 ?_
  refine j_aload_n C dX9_init_36 rfl ?_
  refine gf_X9_7 C dX9_init_37 ?_
  refine j_iconst C ic_1 dX9_init_40 ?_
  refine j_bipush C bp_20 dX9_init_41 ?_
  refine aSM_1 C (by unfold vp_in; decide) dX9_init_43 ?_
  refine j_aload_n C dX9_init_44 rfl ?_
  refine gf_X9_7 C dX9_init_45 ?_
  refine j_iconst C ic_2 dX9_init_48 ?_
  refine j_bipush C bp_100 dX9_init_49 ?_
  refine aSM_1 C (by unfold vp_in; decide) dX9_init_51 ?_
  refine j_aload_n C dX9_init_52 rfl ?_
  refine gf_X9_7 C dX9_init_53 ?_
  refine j_iconst C ic_3 dX9_init_56 ?_
  refine j_iconst C ic_2 dX9_init_57 ?_
  refine aSM_1 C (by unfold vp_in; decide) dX9_init_58 ?_
  refine j_aload_n C dX9_init_59 rfl ?_
  refine gf_X9_7 C dX9_init_60 ?_
  refine j_iconst C ic_4 dX9_init_63 ?_
  refine j_bipush C bp_16 dX9_init_64 ?_
  refine aSM_1 C (by unfold vp_in; decide) dX9_init_66 ?_
  refine j_aload_n C dX9_init_67 rfl ?_
  refine gf_X9_7 C dX9_init_68 ?_
  refine j_iconst C ic_5 dX9_init_71 ?_
  refine j_bipush C bp_10 dX9_init_72 ?_
  refine aSM_1 C (by unfold vp_in; decide) dX9_init_74 ?_
  refine j_aload_n C dX9_init_75 rfl ?_
  refine gf_X9_7 C dX9_init_76 ?_
  refine j_bipush C bp_17 dX9_init_79 ?_
  refine j_iconst C ic_1 dX9_init_81 ?_
  refine aSM_1 C (by unfold vp_in; decide) dX9_init_82 ?_
  refine j_aload_n C dX9_init_83 rfl ?_
  refine j_iconst C ic_0 dX9_init_84 ?_
  refine j_iconst C ic_2 dX9_init_85 ?_
  refine j_iconst C ic_m1 dX9_init_86 ?_
  refine j_callV C cl_X9_19 (c_X9_set (set_I _ (by decide))) ⟨Nat.le_of_ble_eq_true rfl, Nat.le_of_ble_eq_true rfl⟩ ⟨Nat.le_of_ble_eq_true rfl, Nat.le_of_ble_eq_true rfl⟩ (q0 := 0) rfl rfl rfl rfl (Nat.le_of_ble_eq_true rfl) rfl rfl wM_fst dX9_init_87 ?_
  refine j_aload_n C dX9_init_90 rfl ?_
  refine j_iconst C ic_0 dX9_init_91 ?_
  refine j_iconst C ic_3 dX9_init_92 ?_
  refine j_iconst C ic_m1 dX9_init_93 ?_
  refine j_callV C cl_X9_19 (c_X9_set (set_I _ (by decide))) ⟨Nat.le_of_ble_eq_true rfl, Nat.le_of_ble_eq_true rfl⟩ ⟨Nat.le_of_ble_eq_true rfl, Nat.le_of_ble_eq_true rfl⟩ (q0 := 0) rfl rfl rfl rfl (Nat.le_of_ble_eq_true rfl) rfl rfl wM_fst dX9_init_94 ?_
  refine j_aload_n C dX9_init_97 rfl ?_
  refine j_iconst C ic_0 dX9_init_98 ?_
  refine j_iconst C ic_5 dX9_init_99 ?_
  refine j_iconst C ic_m1 dX9_init_100 ?_
  refine j_callV C cl_X9_19 (c_X9_set (set_I _ (by decide))) ⟨Nat.le_of_ble_eq_true rfl, Nat.le_of_ble_eq_true rfl⟩ ⟨Nat.le_of_ble_eq_true rfl, Nat.le_of_ble_eq_true rfl⟩ (q0 := 0) rfl rfl rfl rfl (Nat.le_of_ble_eq_true rfl) rfl rfl wM_fst dX9_init_101 ?_
  exact j_vretN (ws' := wM (fun k => [h0, q1, q2, q3].getD k 0) cI sI (fun _ => 0) (fun _ => 0) 0 0 rest) C (Nat.le_of_ble_eq_true rfl) (Nat.le_of_ble_eq_true rfl) (List.Perm.refl _) ⟨_, rfl, rfl⟩ dX9_init_104

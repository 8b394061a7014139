def f_J6_bitCount_0f7a4  (x0 : Int32) : Option (Int32) := (some ((((((((x0 - (((x0).toUInt32 >>> (((1 : Int32)).toUInt32 &&& Int32.toUInt32 31)).toInt32 &&& (1431655765 : Int32))) &&& (858993459 : Int32)) + ((((x0 - (((x0).toUInt32 >>> (((1 : Int32)).toUInt32 &&& Int32.toUInt32 31)).toInt32 &&& (1431655765 : Int32)))).toUInt32 >>> (((2 : Int32)).toUInt32 &&& Int32.toUInt32 31)).toInt32 &&& (858993459 : Int32))) + (((((x0 - (((x0).toUInt32 >>> (((1 : Int32)).toUInt32 &&& Int32.toUInt32 31)).toInt32 &&& (1431655765 : Int32))) &&& (858993459 : Int32)) + ((((x0 - (((x0).toUInt32 >>> (((1 : Int32)).toUInt32 &&& Int32.toUInt32 31)).toInt32 &&& (1431655765 : Int32)))).toUInt32 >>> (((2 : Int32)).toUInt32 &&& Int32.toUInt32 31)).toInt32 &&& (858993459 : Int32)))).toUInt32 >>> (((4 : Int32)).toUInt32 &&& Int32.toUInt32 31)).toInt32) &&& (252645135 : Int32)) + (((((((x0 - (((x0).toUInt32 >>> (((1 : Int32)).toUInt32 &&& Int32.toUInt32 31)).toInt32 &&& (1431655765 : Int32))) &&& (858993459 : Int32)) + ((((x0 - (((x0).toUInt32 >>> (((1 : Int32)).toUInt32 &&& Int32.toUInt32 31)).toInt32 &&& (1431655765 : Int32)))).toUInt32 >>> (((2 : Int32)).toUInt32 &&& Int32.toUInt32 31)).toInt32 &&& (858993459 : Int32))) + (((((x0 - (((x0).toUInt32 >>> (((1 : Int32)).toUInt32 &&& Int32.toUInt32 31)).toInt32 &&& (1431655765 : Int32))) &&& (858993459 : Int32)) + ((((x0 - (((x0).toUInt32 >>> (((1 : Int32)).toUInt32 &&& Int32.toUInt32 31)).toInt32 &&& (1431655765 : Int32)))).toUInt32 >>> (((2 : Int32)).toUInt32 &&& Int32.toUInt32 31)).toInt32 &&& (858993459 : Int32)))).toUInt32 >>> (((4 : Int32)).toUInt32 &&& Int32.toUInt32 31)).toInt32) &&& (252645135 : Int32))).toUInt32 >>> (((8 : Int32)).toUInt32 &&& Int32.toUInt32 31)).toInt32) + ((((((((x0 - (((x0).toUInt32 >>> (((1 : Int32)).toUInt32 &&& Int32.toUInt32 31)).toInt32 &&& (1431655765 : Int32))) &&& (858993459 : Int32)) + ((((x0 - (((x0).toUInt32 >>> (((1 : Int32)).toUInt32 &&& Int32.toUInt32 31)).toInt32 &&& (1431655765 : Int32)))).toUInt32 >>> (((2 : Int32)).toUInt32 &&& Int32.toUInt32 31)).toInt32 &&& (858993459 : Int32))) + (((((x0 - (((x0).toUInt32 >>> (((1 : Int32)).toUInt32 &&& Int32.toUInt32 31)).toInt32 &&& (1431655765 : Int32))) &&& (858993459 : Int32)) + ((((x0 - (((x0).toUInt32 >>> (((1 : Int32)).toUInt32 &&& Int32.toUInt32 31)).toInt32 &&& (1431655765 : Int32)))).toUInt32 >>> (((2 : Int32)).toUInt32 &&& Int32.toUInt32 31)).toInt32 &&& (858993459 : Int32)))).toUInt32 >>> (((4 : Int32)).toUInt32 &&& Int32.toUInt32 31)).toInt32) &&& (252645135 : Int32)) + (((((((x0 - (((x0).toUInt32 >>> (((1 : Int32)).toUInt32 &&& Int32.toUInt32 31)).toInt32 &&& (1431655765 : Int32))) &&& (858993459 : Int32)) + ((((x0 - (((x0).toUInt32 >>> (((1 : Int32)).toUInt32 &&& Int32.toUInt32 31)).toInt32 &&& (1431655765 : Int32)))).toUInt32 >>> (((2 : Int32)).toUInt32 &&& Int32.toUInt32 31)).toInt32 &&& (858993459 : Int32))) + (((((x0 - (((x0).toUInt32 >>> (((1 : Int32)).toUInt32 &&& Int32.toUInt32 31)).toInt32 &&& (1431655765 : Int32))) &&& (858993459 : Int32)) + ((((x0 - (((x0).toUInt32 >>> (((1 : Int32)).toUInt32 &&& Int32.toUInt32 31)).toInt32 &&& (1431655765 : Int32)))).toUInt32 >>> (((2 : Int32)).toUInt32 &&& Int32.toUInt32 31)).toInt32 &&& (858993459 : Int32)))).toUInt32 >>> (((4 : Int32)).toUInt32 &&& Int32.toUInt32 31)).toInt32) &&& (252645135 : Int32))).toUInt32 >>> (((8 : Int32)).toUInt32 &&& Int32.toUInt32 31)).toInt32)).toUInt32 >>> (((16 : Int32)).toUInt32 &&& Int32.toUInt32 31)).toInt32) &&& (63 : Int32)))
def f_X8_bit  (x0 : Int32) : Option (Int32) := (if x0 = (-1 : Int32) then (some (0 : Int32)) else (some ((1 : Int32) <<< (x0 &&& 31))))
def f_X8_isWithin  (x0 : Int32) (x1 : Int32) (x2 : Int32) : Option (Int32) := (if x0 < x1 then (some (0 : Int32)) else (if x2 < x0 then (some (0 : Int32)) else (some (1 : Int32))))
def f_X8_isKey  (x0 : Int32) : Option (Int32) := ((f_X8_isWithin x0 (0 : Int32) (9999 : Int32)).bind fun v1 => (zr v1 (some v1)))
def f_X8_mix  (x0 : Int64) (x2 : Int32) : Option (Int64) := (some (((31 : Int64) * x0) + (x2).toInt64))
def f_X9_in  (x0 : Int32) (x1 : Int32) (x2 : Int32) : Option (Int32) := (if x0 < x1 then (some (0 : Int32)) else (if x2 < x0 then (some (0 : Int32)) else (some (1 : Int32))))
def f_X9_has  (x0 : Int32) (x1 : Int32) : Option (Int32) := (if ((x0 >>> (x1 &&& 31)) &&& (1 : Int32)) = (1 : Int32) then (some (1 : Int32)) else (some (0 : Int32)))
def f_X9_count_4  : Nat → Int32 → Int32 → Int32 → Option (Int32)
  | 0, _, _, _ => none
  | n_ + 1, x0, x1, x2 => (if (8 : Int32) ≤ x2 then (some x1) else ((f_X9_count_4 n_) x0 (x1 + ((x0 >>> (x2 &&& 31)) &&& (1 : Int32))) (x2 + (1 : Int32))))
def f_X9_count  (x0 : Int32) : Option (Int32) := (f_X9_count_4 FU x0 (0 : Int32) (0 : Int32))
def f_X9_isKey  (x0 : Int32) : Option (Int32) := ((f_X9_in x0 (0 : Int32) (9999 : Int32)).bind fun v1 => (zr v1 (some v1)))
set_option maxRecDepth 100000 in
set_option maxHeartbeats 4000000 in
theorem c_J6_bitCount_0f7a4 {l : Launch} {D : va_G} {cI cS : ClassId} {A : Nat → Prop} {ws : va_W}   {x0 : Int32} {r : Int32} (hf : f_J6_bitCount_0f7a4 x0 = some r) : CT l yJ6_bitCount_0f7a4 cJ6_bitCount_0f7a4 1 (some .int) (rmF 0 0) D cI cS A [.int x0] ws ws (some (.int r)) := by
  refine CT_of (own := RJ6) (xs := [some (.int x0)]) (by decide) rfl (Nat.le_of_ble_eq_true rfl) rfl ?_
  intro p e s_ m below meth c C
  unfold f_J6_bitCount_0f7a4 at hf
  refine j_iload_n C dJ6_bitCount_0f7a4_0 rfl ?_
  refine j_iload_n C dJ6_bitCount_0f7a4_1 rfl ?_
  refine j_iconst C ic_1 dJ6_bitCount_0f7a4_2 ?_
  refine j_iushr C dJ6_bitCount_0f7a4_3 ?_
  refine j_ldcw C tw_354 dJ6_bitCount_0f7a4_4 ?_
  refine j_iand C dJ6_bitCount_0f7a4_7 ?_
  refine j_isub C dJ6_bitCount_0f7a4_8 ?_
  refine j_istore_n C (xs' := [some (.int (x0 - (((x0).toUInt32 >>> (((1 : Int32)).toUInt32 &&& Int32.toUInt32 31)).toInt32 &&& (1431655765 : Int32))))]) dJ6_bitCount_0f7a4_9 rfl rfl ?_
  refine j_iload_n C dJ6_bitCount_0f7a4_10 rfl ?_
  refine j_ldcw C tw_355 dJ6_bitCount_0f7a4_11 ?_
  refine j_iand C dJ6_bitCount_0f7a4_14 ?_
  refine j_iload_n C dJ6_bitCount_0f7a4_15 rfl ?_
  refine j_iconst C ic_2 dJ6_bitCount_0f7a4_16 ?_
  refine j_iushr C dJ6_bitCount_0f7a4_17 ?_
  refine j_ldcw C tw_355 dJ6_bitCount_0f7a4_18 ?_
  refine j_iand C dJ6_bitCount_0f7a4_21 ?_
  refine j_iadd C dJ6_bitCount_0f7a4_22 ?_
  refine j_istore_n C (xs' := [some (.int (((x0 - (((x0).toUInt32 >>> (((1 : Int32)).toUInt32 &&& Int32.toUInt32 31)).toInt32 &&& (1431655765 : Int32))) &&& (858993459 : Int32)) + ((((x0 - (((x0).toUInt32 >>> (((1 : Int32)).toUInt32 &&& Int32.toUInt32 31)).toInt32 &&& (1431655765 : Int32)))).toUInt32 >>> (((2 : Int32)).toUInt32 &&& Int32.toUInt32 31)).toInt32 &&& (858993459 : Int32))))]) dJ6_bitCount_0f7a4_23 rfl rfl ?_
  refine j_iload_n C dJ6_bitCount_0f7a4_24 rfl ?_
  refine j_iload_n C dJ6_bitCount_0f7a4_25 rfl ?_
  refine j_iconst C ic_4 dJ6_bitCount_0f7a4_26 ?_
  refine j_iushr C dJ6_bitCount_0f7a4_27 ?_
  refine j_iadd C dJ6_bitCount_0f7a4_28 ?_
  refine j_ldcw C tw_356 dJ6_bitCount_0f7a4_29 ?_
  refine j_iand C dJ6_bitCount_0f7a4_32 ?_
  refine j_istore_n C (xs' := [some (.int (((((x0 - (((x0).toUInt32 >>> (((1 : Int32)).toUInt32 &&& Int32.toUInt32 31)).toInt32 &&& (1431655765 : Int32))) &&& (858993459 : Int32)) + ((((x0 - (((x0).toUInt32 >>> (((1 : Int32)).toUInt32 &&& Int32.toUInt32 31)).toInt32 &&& (1431655765 : Int32)))).toUInt32 >>> (((2 : Int32)).toUInt32 &&& Int32.toUInt32 31)).toInt32 &&& (858993459 : Int32))) + (((((x0 - (((x0).toUInt32 >>> (((1 : Int32)).toUInt32 &&& Int32.toUInt32 31)).toInt32 &&& (1431655765 : Int32))) &&& (858993459 : Int32)) + ((((x0 - (((x0).toUInt32 >>> (((1 : Int32)).toUInt32 &&& Int32.toUInt32 31)).toInt32 &&& (1431655765 : Int32)))).toUInt32 >>> (((2 : Int32)).toUInt32 &&& Int32.toUInt32 31)).toInt32 &&& (858993459 : Int32)))).toUInt32 >>> (((4 : Int32)).toUInt32 &&& Int32.toUInt32 31)).toInt32) &&& (252645135 : Int32)))]) dJ6_bitCount_0f7a4_33 rfl rfl ?_
  refine j_iload_n C dJ6_bitCount_0f7a4_34 rfl ?_
  refine j_iload_n C dJ6_bitCount_0f7a4_35 rfl ?_
  refine j_bipush C bp_8 dJ6_bitCount_0f7a4_36 ?_
  refine j_iushr C dJ6_bitCount_0f7a4_38 ?_
  refine j_iadd C dJ6_bitCount_0f7a4_39 ?_
  refine j_istore_n C (xs' := [some (.int ((((((x0 - (((x0).toUInt32 >>> (((1 : Int32)).toUInt32 &&& Int32.toUInt32 31)).toInt32 &&& (1431655765 : Int32))) &&& (858993459 : Int32)) + ((((x0 - (((x0).toUInt32 >>> (((1 : Int32)).toUInt32 &&& Int32.toUInt32 31)).toInt32 &&& (1431655765 : Int32)))).toUInt32 >>> (((2 : Int32)).toUInt32 &&& Int32.toUInt32 31)).toInt32 &&& (858993459 : Int32))) + (((((x0 - (((x0).toUInt32 >>> (((1 : Int32)).toUInt32 &&& Int32.toUInt32 31)).toInt32 &&& (1431655765 : Int32))) &&& (858993459 : Int32)) + ((((x0 - (((x0).toUInt32 >>> (((1 : Int32)).toUInt32 &&& Int32.toUInt32 31)).toInt32 &&& (1431655765 : Int32)))).toUInt32 >>> (((2 : Int32)).toUInt32 &&& Int32.toUInt32 31)).toInt32 &&& (858993459 : Int32)))).toUInt32 >>> (((4 : Int32)).toUInt32 &&& Int32.toUInt32 31)).toInt32) &&& (252645135 : Int32)) + (((((((x0 - (((x0).toUInt32 >>> (((1 : Int32)).toUInt32 &&& Int32.toUInt32 31)).toInt32 &&& (1431655765 : Int32))) &&& (858993459 : Int32)) + ((((x0 - (((x0).toUInt32 >>> (((1 : Int32)).toUInt32 &&& Int32.toUInt32 31)).toInt32 &&& (1431655765 : Int32)))).toUInt32 >>> (((2 : Int32)).toUInt32 &&& Int32.toUInt32 31)).toInt32 &&& (858993459 : Int32))) + (((((x0 - (((x0).toUInt32 >>> (((1 : Int32)).toUInt32 &&& Int32.toUInt32 31)).toInt32 &&& (1431655765 : Int32))) &&& (858993459 : Int32)) + ((((x0 - (((x0).toUInt32 >>> (((1 : Int32)).toUInt32 &&& Int32.toUInt32 31)).toInt32 &&& (1431655765 : Int32)))).toUInt32 >>> (((2 : Int32)).toUInt32 &&& Int32.toUInt32 31)).toInt32 &&& (858993459 : Int32)))).toUInt32 >>> (((4 : Int32)).toUInt32 &&& Int32.toUInt32 31)).toInt32) &&& (252645135 : Int32))).toUInt32 >>> (((8 : Int32)).toUInt32 &&& Int32.toUInt32 31)).toInt32))]) dJ6_bitCount_0f7a4_40 rfl rfl ?_
  refine j_iload_n C dJ6_bitCount_0f7a4_41 rfl ?_
  refine j_iload_n C dJ6_bitCount_0f7a4_42 rfl ?_
  refine j_bipush C bp_16 dJ6_bitCount_0f7a4_43 ?_
  refine j_iushr C dJ6_bitCount_0f7a4_45 ?_
  refine j_iadd C dJ6_bitCount_0f7a4_46 ?_
  refine j_istore_n C (xs' := [some (.int (((((((x0 - (((x0).toUInt32 >>> (((1 : Int32)).toUInt32 &&& Int32.toUInt32 31)).toInt32 &&& (1431655765 : Int32))) &&& (858993459 : Int32)) + ((((x0 - (((x0).toUInt32 >>> (((1 : Int32)).toUInt32 &&& Int32.toUInt32 31)).toInt32 &&& (1431655765 : Int32)))).toUInt32 >>> (((2 : Int32)).toUInt32 &&& Int32.toUInt32 31)).toInt32 &&& (858993459 : Int32))) + (((((x0 - (((x0).toUInt32 >>> (((1 : Int32)).toUInt32 &&& Int32.toUInt32 31)).toInt32 &&& (1431655765 : Int32))) &&& (858993459 : Int32)) + ((((x0 - (((x0).toUInt32 >>> (((1 : Int32)).toUInt32 &&& Int32.toUInt32 31)).toInt32 &&& (1431655765 : Int32)))).toUInt32 >>> (((2 : Int32)).toUInt32 &&& Int32.toUInt32 31)).toInt32 &&& (858993459 : Int32)))).toUInt32 >>> (((4 : Int32)).toUInt32 &&& Int32.toUInt32 31)).toInt32) &&& (252645135 : Int32)) + (((((((x0 - (((x0).toUInt32 >>> (((1 : Int32)).toUInt32 &&& Int32.toUInt32 31)).toInt32 &&& (1431655765 : Int32))) &&& (858993459 : Int32)) + ((((x0 - (((x0).toUInt32 >>> (((1 : Int32)).toUInt32 &&& Int32.toUInt32 31)).toInt32 &&& (1431655765 : Int32)))).toUInt32 >>> (((2 : Int32)).toUInt32 &&& Int32.toUInt32 31)).toInt32 &&& (858993459 : Int32))) + (((((x0 - (((x0).toUInt32 >>> (((1 : Int32)).toUInt32 &&& Int32.toUInt32 31)).toInt32 &&& (1431655765 : Int32))) &&& (858993459 : Int32)) + ((((x0 - (((x0).toUInt32 >>> (((1 : Int32)).toUInt32 &&& Int32.toUInt32 31)).toInt32 &&& (1431655765 : Int32)))).toUInt32 >>> (((2 : Int32)).toUInt32 &&& Int32.toUInt32 31)).toInt32 &&& (858993459 : Int32)))).toUInt32 >>> (((4 : Int32)).toUInt32 &&& Int32.toUInt32 31)).toInt32) &&& (252645135 : Int32))).toUInt32 >>> (((8 : Int32)).toUInt32 &&& Int32.toUInt32 31)).toInt32) + ((((((((x0 - (((x0).toUInt32 >>> (((1 : Int32)).toUInt32 &&& Int32.toUInt32 31)).toInt32 &&& (1431655765 : Int32))) &&& (858993459 : Int32)) + ((((x0 - (((x0).toUInt32 >>> (((1 : Int32)).toUInt32 &&& Int32.toUInt32 31)).toInt32 &&& (1431655765 : Int32)))).toUInt32 >>> (((2 : Int32)).toUInt32 &&& Int32.toUInt32 31)).toInt32 &&& (858993459 : Int32))) + (((((x0 - (((x0).toUInt32 >>> (((1 : Int32)).toUInt32 &&& Int32.toUInt32 31)).toInt32 &&& (1431655765 : Int32))) &&& (858993459 : Int32)) + ((((x0 - (((x0).toUInt32 >>> (((1 : Int32)).toUInt32 &&& Int32.toUInt32 31)).toInt32 &&& (1431655765 : Int32)))).toUInt32 >>> (((2 : Int32)).toUInt32 &&& Int32.toUInt32 31)).toInt32 &&& (858993459 : Int32)))).toUInt32 >>> (((4 : Int32)).toUInt32 &&& Int32.toUInt32 31)).toInt32) &&& (252645135 : Int32)) + (((((((x0 - (((x0).toUInt32 >>> (((1 : Int32)).toUInt32 &&& Int32.toUInt32 31)).toInt32 &&& (1431655765 : Int32))) &&& (858993459 : Int32)) + ((((x0 - (((x0).toUInt32 >>> (((1 : Int32)).toUInt32 &&& Int32.toUInt32 31)).toInt32 &&& (1431655765 : Int32)))).toUInt32 >>> (((2 : Int32)).toUInt32 &&& Int32.toUInt32 31)).toInt32 &&& (858993459 : Int32))) + (((((x0 - (((x0).toUInt32 >>> (((1 : Int32)).toUInt32 &&& Int32.toUInt32 31)).toInt32 &&& (1431655765 : Int32))) &&& (858993459 : Int32)) + ((((x0 - (((x0).toUInt32 >>> (((1 : Int32)).toUInt32 &&& Int32.toUInt32 31)).toInt32 &&& (1431655765 : Int32)))).toUInt32 >>> (((2 : Int32)).toUInt32 &&& Int32.toUInt32 31)).toInt32 &&& (858993459 : Int32)))).toUInt32 >>> (((4 : Int32)).toUInt32 &&& Int32.toUInt32 31)).toInt32) &&& (252645135 : Int32))).toUInt32 >>> (((8 : Int32)).toUInt32 &&& Int32.toUInt32 31)).toInt32)).toUInt32 >>> (((16 : Int32)).toUInt32 &&& Int32.toUInt32 31)).toInt32))]) dJ6_bitCount_0f7a4_47 rfl rfl ?_
  refine j_iload_n C dJ6_bitCount_0f7a4_48 rfl ?_
  refine j_bipush C bp_63 dJ6_bitCount_0f7a4_49 ?_
  refine j_iand C dJ6_bitCount_0f7a4_51 ?_
  cases hf
  exact j_iret C dJ6_bitCount_0f7a4_52
set_option maxRecDepth 100000 in
set_option maxHeartbeats 4000000 in
theorem c_X8_bit {l : Launch} {D : va_G} {cI cS : ClassId} {A : Nat → Prop} {ws : va_W}   {x0 : Int32} {r : Int32} (hf : f_X8_bit x0 = some r) : CT l yX8_bit cX8_bit 1 (some .int) (rmF 0 0) D cI cS A [.int x0] ws ws (some (.int r)) := by
  refine CT_of (own := RX8) (xs := [some (.int x0)]) (by decide) rfl (Nat.le_of_ble_eq_true rfl) rfl ?_
  intro p e s_ m below meth c C
  unfold f_X8_bit at hf
  refine j_iload_n C dX8_bit_0 rfl ?_
  refine j_iconst C ic_m1 dX8_bit_1 ?_
  refine j_icmp_ne C (tgt := 9) (by decide) dX8_bit_2 (fun h1 => ?_) (fun h1 => ?_)
  · replace hf := it_f h1 hf
    refine j_iconst C ic_1 dX8_bit_9 ?_
    refine j_iload_n C dX8_bit_10 rfl ?_
    refine j_ishl C dX8_bit_11 ?_
    cases hf
    exact j_iret C dX8_bit_12
  · replace hf := it_t h1 hf
    refine j_iconst C ic_0 dX8_bit_5 ?_
    refine j_goto C (tgt := 12) (by decide) dX8_bit_6 ?_
    cases hf
    exact j_iret C dX8_bit_12
set_option maxRecDepth 100000 in
set_option maxHeartbeats 4000000 in
theorem c_X8_isWithin {l : Launch} {D : va_G} {cI cS : ClassId} {A : Nat → Prop} {ws : va_W}   {x0 : Int32} {x1 : Int32} {x2 : Int32} {r : Int32} (hf : f_X8_isWithin x0 x1 x2 = some r) : CT l yX8_isWithin cX8_isWithin 3 (some .boolean) (rmF 0 0) D cI cS A [.int x0, .int x1, .int x2] ws ws (some (.int r)) := by
  refine CT_of (own := RX8) (xs := [some (.int x0), some (.int x1), some (.int x2)]) (by decide) rfl (Nat.le_of_ble_eq_true rfl) rfl ?_
  intro p e s_ m below meth c C
  unfold f_X8_isWithin at hf
  refine j_iload_n C dX8_isWithin_0 rfl ?_
  refine j_iload_n C dX8_isWithin_1 rfl ?_
  refine j_icmp_lt C (tgt := 14) (by decide) dX8_isWithin_2 (fun h1 => ?_) (fun h1 => ?_)
  · replace hf := it_t h1 hf
    refine j_iconst C ic_0 dX8_isWithin_14 ?_
    cases hf
    exact j_zret C zc_0 dX8_isWithin_15
  · replace hf := it_f h1 hf
    refine j_iload_n C dX8_isWithin_5 rfl ?_
    refine j_iload_n C dX8_isWithin_6 rfl ?_
    refine j_icmp_gt C (tgt := 14) (by decide) dX8_isWithin_7 (fun h2 => ?_) (fun h2 => ?_)
    · replace hf := it_t h2 hf
      refine j_iconst C ic_0 dX8_isWithin_14 ?_
      cases hf
      exact j_zret C zc_0 dX8_isWithin_15
    · replace hf := it_f h2 hf
      refine j_iconst C ic_1 dX8_isWithin_10 ?_
      refine j_goto C (tgt := 15) (by decide) dX8_isWithin_11 ?_
      cases hf
      exact j_zret C zc_1 dX8_isWithin_15
set_option maxRecDepth 100000 in
set_option maxHeartbeats 4000000 in
theorem c_X8_isKey {l : Launch} {D : va_G} {cI cS : ClassId} {A : Nat → Prop} {ws : va_W}   {x0 : Int32} {r : Int32} (hf : f_X8_isKey x0 = some r) : CT l yX8_isKey cX8_isKey 1 (some .boolean) (rmF 1 22) D cI cS A [.int x0] ws ws (some (.int r)) := by
  refine CT_of (own := RX8) (xs := [some (.int x0)]) (by decide) rfl (Nat.le_of_ble_eq_true rfl) rfl ?_
  intro p e s_ m below meth c C
  unfold f_X8_isKey at hf
  refine j_iload_n C dX8_isKey_0 rfl ?_
  refine j_iconst C ic_0 dX8_isKey_1 ?_
  refine j_sipush C sp_9999 dX8_isKey_2 ?_
  replace hf := bd hf
  obtain ⟨v1, h2, hf⟩ := hf
  refine j_callS C cl_X8_28 (c_X8_isWithin h2) ⟨Nat.le_of_ble_eq_true rfl, Nat.le_of_ble_eq_true rfl⟩ ⟨Nat.zero_le _, Nat.zero_le _⟩ rfl (Nat.le_of_ble_eq_true rfl) rfl rfl rfl dX8_isKey_5 ?_
  replace hf := zr_s hf
  obtain ⟨h3, hf⟩ := hf
  cases hf
  exact j_zret C h3 dX8_isKey_8
set_option maxRecDepth 100000 in
set_option maxHeartbeats 4000000 in
theorem c_X8_mix {l : Launch} {D : va_G} {cI cS : ClassId} {A : Nat → Prop} {ws : va_W}   {x0 : Int64} {x2 : Int32} {r : Int64} (hf : f_X8_mix x0 x2 = some r) : CT l yX8_mix cX8_mix 3 (some .long) (rmF 0 0) D cI cS A [.long x0, .int x2] ws ws (some (.long r)) := by
  refine CT_of (own := RX8) (xs := [some (.long x0), none, some (.int x2)]) (by decide) rfl (Nat.le_of_ble_eq_true rfl) rfl ?_
  intro p e s_ m below meth c C
  unfold f_X8_mix at hf
  refine j_ldc2 C tw_728 dX8_mix_0 ?_
  refine j_lload_n C dX8_mix_3 rfl ?_
  refine j_lmul C dX8_mix_4 ?_
  refine j_iload_n C dX8_mix_5 rfl ?_
  refine j_i2l C dX8_mix_6 ?_
  refine j_ladd C dX8_mix_7 ?_
  cases hf
  exact j_lret C dX8_mix_8
set_option maxRecDepth 100000 in
set_option maxHeartbeats 4000000 in
theorem c_X9_in {l : Launch} {D : va_G} {cI cS : ClassId} {A : Nat → Prop} {ws : va_W}   {x0 : Int32} {x1 : Int32} {x2 : Int32} {r : Int32} (hf : f_X9_in x0 x1 x2 = some r) : CT l yX9_in cX9_in 3 (some .boolean) (rmF 0 0) D cI cS A [.int x0, .int x1, .int x2] ws ws (some (.int r)) := by
  refine CT_of (own := RX9) (xs := [some (.int x0), some (.int x1), some (.int x2)]) (by decide) rfl (Nat.le_of_ble_eq_true rfl) rfl ?_
  intro p e s_ m below meth c C
  unfold f_X9_in at hf
  refine j_iload_n C dX9_in_0 rfl ?_
  refine j_iload_n C dX9_in_1 rfl ?_
  refine j_icmp_lt C (tgt := 14) (by decide) dX9_in_2 (fun h1 => ?_) (fun h1 => ?_)
  · replace hf := it_t h1 hf
    refine j_iconst C ic_0 dX9_in_14 ?_
    cases hf
    exact j_zret C zc_0 dX9_in_15
  · replace hf := it_f h1 hf
    refine j_iload_n C dX9_in_5 rfl ?_
    refine j_iload_n C dX9_in_6 rfl ?_
    refine j_icmp_gt C (tgt := 14) (by decide) dX9_in_7 (fun h2 => ?_) (fun h2 => ?_)
    · replace hf := it_t h2 hf
      refine j_iconst C ic_0 dX9_in_14 ?_
      cases hf
      exact j_zret C zc_0 dX9_in_15
    · replace hf := it_f h2 hf
      refine j_iconst C ic_1 dX9_in_10 ?_
      refine j_goto C (tgt := 15) (by decide) dX9_in_11 ?_
      cases hf
      exact j_zret C zc_1 dX9_in_15
set_option maxRecDepth 100000 in
set_option maxHeartbeats 4000000 in
theorem c_X9_has {l : Launch} {D : va_G} {cI cS : ClassId} {A : Nat → Prop} {ws : va_W}   {x0 : Int32} {x1 : Int32} {r : Int32} (hf : f_X9_has x0 x1 = some r) : CT l yX9_has cX9_has 2 (some .boolean) (rmF 0 0) D cI cS A [.int x0, .int x1] ws ws (some (.int r)) := by
  refine CT_of (own := RX9) (xs := [some (.int x0), some (.int x1)]) (by decide) rfl (Nat.le_of_ble_eq_true rfl) rfl ?_
  intro p e s_ m below meth c C
  unfold f_X9_has at hf
  refine j_iload_n C dX9_has_0 rfl ?_
  refine j_iload_n C dX9_has_1 rfl ?_
  refine j_ishr C dX9_has_2 ?_
  refine j_iconst C ic_1 dX9_has_3 ?_
  refine j_iand C dX9_has_4 ?_
  refine j_iconst C ic_1 dX9_has_5 ?_
  refine j_icmp_ne C (tgt := 13) (by decide) dX9_has_6 (fun h1 => ?_) (fun h1 => ?_)
  · replace hf := it_f h1 hf
    refine j_iconst C ic_0 dX9_has_13 ?_
    cases hf
    exact j_zret C zc_0 dX9_has_14
  · replace hf := it_t h1 hf
    refine j_iconst C ic_1 dX9_has_9 ?_
    refine j_goto C (tgt := 14) (by decide) dX9_has_10 ?_
    cases hf
    exact j_zret C zc_1 dX9_has_14
set_option maxRecDepth 100000 in
set_option maxHeartbeats 4000000 in
theorem w_X9_count_4 {p : Program} {l : Launch} {e : Env} {s_ : State} {m : MethodId} {args : Array Value} {below : List Frame} {meth : Method} {c : Code} {D : va_G} {cI cS : ClassId} {A : Nat → Prop} {ws : va_W}  (C : cx p s_ m args meth c cX9_count 3 RX9 (some .int) D cI cS)  : ∀ (n_ : Nat)  (x0 : Int32) (x1 : Int32) (x2 : Int32) (r : Int32), f_X9_count_4  n_ x0 x1 x2 = some r → jG p l e (rmF 0 0) s_ m args below meth c 3 D A (MQ below (QW D A ws (some (.int r))) args s_ 0 0 A) ws [some (.int x0), some (.int x1), some (.int x2)] 4 [] := by
  intro n_
  induction n_ with
  | zero =>
    intro x0 x1 x2 r hf
    rw [f_X9_count_4] at hf
    cases hf
  | succ n_ hk4 =>
    intro x0 x1 x2 r hf
    rw [f_X9_count_4] at hf
    refine j_iload_n C dX9_count_4 rfl ?_
    refine j_bipush C bp_8 dX9_count_5 ?_
    refine j_icmp_ge C (tgt := 24) (by decide) dX9_count_7 (fun h1 => ?_) (fun h1 => ?_)
    · replace hf := it_t h1 hf
      refine j_iload_n C dX9_count_24 rfl ?_
      cases hf
      exact j_iret C dX9_count_25
    · replace hf := it_f h1 hf
      refine j_iload_n C dX9_count_10 rfl ?_
      refine j_iload_n C dX9_count_11 rfl ?_
      refine j_iload_n C dX9_count_12 rfl ?_
      refine j_ishr C dX9_count_13 ?_
      refine j_iconst C ic_1 dX9_count_14 ?_
      refine j_iand C dX9_count_15 ?_
      refine j_iadd C dX9_count_16 ?_
      refine j_istore_n C (xs' := [some (.int x0), some (.int (x1 + ((x0 >>> (x2 &&& 31)) &&& (1 : Int32)))), some (.int x2)]) dX9_count_17 rfl rfl ?_
      refine j_iinc C (xs' := [some (.int x0), some (.int (x1 + ((x0 >>> (x2 &&& 31)) &&& (1 : Int32)))), some (.int (x2 + (1 : Int32)))]) dX9_count_18 rfl (ii_1 _) rfl rfl ?_
      refine j_goto C (tgt := 4) (by decide) dX9_count_21 ?_
      exact hk4 _ _ _ _ hf
set_option maxRecDepth 100000 in
set_option maxHeartbeats 4000000 in
theorem c_X9_count {l : Launch} {D : va_G} {cI cS : ClassId} {A : Nat → Prop} {ws : va_W}   {x0 : Int32} {r : Int32} (hf : f_X9_count x0 = some r) : CT l yX9_count cX9_count 3 (some .int) (rmF 0 0) D cI cS A [.int x0] ws ws (some (.int r)) := by
  refine CT_of (own := RX9) (xs := [some (.int x0), none, none]) (by decide) rfl (Nat.le_of_ble_eq_true rfl) rfl ?_
  intro p e s_ m below meth c C
  unfold f_X9_count at hf
  refine j_iconst C ic_0 dX9_count_0 ?_
  refine j_istore_n C (xs' := [some (.int x0), some (.int (0 : Int32)), none]) dX9_count_1 rfl rfl ?_
  refine j_iconst C ic_0 dX9_count_2 ?_
  refine j_istore_n C (xs' := [some (.int x0), some (.int (0 : Int32)), some (.int (0 : Int32))]) dX9_count_3 rfl rfl ?_
  exact w_X9_count_4 C  _ _ _ _ _ hf
set_option maxRecDepth 100000 in
set_option maxHeartbeats 4000000 in
theorem c_X9_isKey {l : Launch} {D : va_G} {cI cS : ClassId} {A : Nat → Prop} {ws : va_W}   {x0 : Int32} {r : Int32} (hf : f_X9_isKey x0 = some r) : CT l yX9_isKey cX9_isKey 1 (some .boolean) (rmF 1 22) D cI cS A [.int x0] ws ws (some (.int r)) := by
  refine CT_of (own := RX9) (xs := [some (.int x0)]) (by decide) rfl (Nat.le_of_ble_eq_true rfl) rfl ?_
  intro p e s_ m below meth c C
  unfold f_X9_isKey at hf
  refine j_iload_n C dX9_isKey_0 rfl ?_
  refine j_iconst C ic_0 dX9_isKey_1 ?_
  refine j_sipush C sp_9999 dX9_isKey_2 ?_
  replace hf := bd hf
  obtain ⟨v1, h2, hf⟩ := hf
  refine j_callS C cl_X9_31 (c_X9_in h2) ⟨Nat.le_of_ble_eq_true rfl, Nat.le_of_ble_eq_true rfl⟩ ⟨Nat.zero_le _, Nat.zero_le _⟩ rfl (Nat.le_of_ble_eq_true rfl) rfl rfl rfl dX9_isKey_5 ?_
  replace hf := zr_s hf
  obtain ⟨h3, hf⟩ := hf
  cases hf
  exact j_zret C h3 dX9_isKey_8

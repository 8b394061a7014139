def f_X5_endOf (σ : Nat → Nat → Int32) (x1 : Int32) : Option (Int32) := (if σ 0 8 ≤ (x1 + (1 : Int32)) then (some (10000 : Int32)) else (ld (σ 9) 16 (x1 + (1 : Int32)) fun v2 => (some v2)))
def f_X3_sumBetween_5  : Nat → (Nat → Nat → Int32) → Int32 → Int32 → Int32 → Int32 → Option (Int32)
  | 0, _, _, _, _, _ => none
  | n_ + 1, σ, x1, x2, x3, x4 => (if σ 0 9 ≤ x4 then (some x3) else (ld (σ 15) 64 x4 fun v2 => (if v2 < x1 then ((f_X3_sumBetween_5 n_) σ x1 x2 x3 (x4 + (1 : Int32))) else (ld (σ 15) 64 x4 fun v5 => (if x2 ≤ v5 then ((f_X3_sumBetween_5 n_) σ x1 x2 x3 (x4 + (1 : Int32))) else (ld (σ 16) 64 x4 fun v8 => ((f_X3_sumBetween_5 n_) σ x1 x2 (x3 + v8) (x4 + (1 : Int32)))))))))
def f_X3_sumBetween (σ : Nat → Nat → Int32) (x1 : Int32) (x2 : Int32) : Option (Int32) := (f_X3_sumBetween_5 FU σ x1 x2 (0 : Int32) (0 : Int32))
def f_X0_rangeSize (σ : Nat → Nat → Int32) (x1 : Int32) : Option (Int32) := (ld (σ 9) 16 x1 fun v1 => ((f_X5_endOf σ x1).bind fun v3 => ((f_X3_sumBetween σ v1 v3).bind fun v5 => (some v5))))
def f_X6_countBetween_5  : Nat → (Nat → Nat → Int32) → Int32 → Int32 → Int32 → Int32 → Option (Int32)
  | 0, _, _, _, _, _ => none
  | n_ + 1, σ, x1, x2, x3, x4 => (if σ 0 10 ≤ x4 then (some x3) else (ld (σ 17) 32 x4 fun v2 => (if v2 < x1 then ((f_X6_countBetween_5 n_) σ x1 x2 x3 (x4 + (1 : Int32))) else (ld (σ 17) 32 x4 fun v5 => (if x2 ≤ v5 then ((f_X6_countBetween_5 n_) σ x1 x2 x3 (x4 + (1 : Int32))) else ((f_X6_countBetween_5 n_) σ x1 x2 (x3 + (1 : Int32)) (x4 + (1 : Int32))))))))
def f_X6_countBetween (σ : Nat → Nat → Int32) (x1 : Int32) (x2 : Int32) : Option (Int32) := (f_X6_countBetween_5 FU σ x1 x2 (0 : Int32) (0 : Int32))
def f_X0_rangeLoad (σ : Nat → Nat → Int32) (x1 : Int32) : Option (Int32) := (ld (σ 9) 16 x1 fun v1 => ((f_X5_endOf σ x1).bind fun v3 => ((f_X6_countBetween σ v1 v3).bind fun v5 => (some v5))))
def f_X3_placeOf_2  : Nat → (Nat → Nat → Int32) → Int32 → Int32 → Option (Int32)
  | 0, _, _, _ => none
  | n_ + 1, σ, x1, x2 => (if σ 0 9 ≤ x2 then (some x2) else (ld (σ 15) 64 x2 fun v2 => (if x1 ≤ v2 then (some x2) else ((f_X3_placeOf_2 n_) σ x1 (x2 + (1 : Int32))))))
def f_X3_placeOf (σ : Nat → Nat → Int32) (x1 : Int32) : Option (Int32) := (f_X3_placeOf_2 FU σ x1 (0 : Int32))
def f_X3_splitKeyBetween_71 (k24 : (Nat → Nat → Int32) → Int32 → Int32 → Int32 → Int32 → Int32 → Int32 → Option (Int32)) (σ : Nat → Nat → Int32) (x2 : Int32) (x3 : Int32) (x4 : Int32) (x5 : Int32) (x6 : Int32) (x7 : Int32) : Option (Int32) := (ld (σ 16) 64 x7 fun v10 => (k24 σ x2 x3 x4 (x5 + v10) x6 (x7 + (1 : Int32))))
def f_X3_splitKeyBetween_24  : Nat → (Nat → Nat → Int32) → Int32 → Int32 → Int32 → Int32 → Int32 → Int32 → Option (Int32)
  | 0, _, _, _, _, _, _, _ => none
  | n_ + 1, σ, x2, x3, x4, x5, x6, x7 => (if σ 0 9 ≤ x7 then (some x6) else (ld (σ 15) 64 x7 fun v6 => (if x2 ≤ v6 then (some x6) else (if x7 ≤ x4 then (f_X3_splitKeyBetween_71 (f_X3_splitKeyBetween_24 n_) σ x2 x3 x4 x5 x6 x7) else (ld (σ 15) 64 x7 fun v12 => (if ((2 : Int32) * x5) < x3 then (f_X3_splitKeyBetween_71 (f_X3_splitKeyBetween_24 n_) σ x2 x3 x4 x5 v12 x7) else (some v12)))))))
def f_X3_splitKeyBetween (σ : Nat → Nat → Int32) (x1 : Int32) (x2 : Int32) : Option (Int32) := ((f_X3_sumBetween σ x1 x2).bind fun v1 => ((f_X3_placeOf σ x1).bind fun v3 => (f_X3_splitKeyBetween_24 FU σ x2 v1 v3 (0 : Int32) (-1 : Int32) v3)))
def f_X0_sizeSplitKey (σ : Nat → Nat → Int32) (x1 : Int32) : Option (Int32) := (ld (σ 9) 16 x1 fun v1 => ((f_X5_endOf σ x1).bind fun v3 => ((f_X3_splitKeyBetween σ v1 v3).bind fun v5 => (some v5))))
def f_X6_leastBetween_5  : Nat → (Nat → Nat → Int32) → Int32 → Int32 → Int32 → Option (Int32)
  | 0, _, _, _, _ => none
  | n_ + 1, σ, x1, x3, x4 => (if σ 0 10 ≤ x4 then (some x3) else (ld (σ 17) 32 x4 fun v2 => (if v2 < x1 then ((f_X6_leastBetween_5 n_) σ x1 x3 (x4 + (1 : Int32))) else (ld (σ 17) 32 x4 fun v5 => (if x3 ≤ v5 then ((f_X6_leastBetween_5 n_) σ x1 x3 (x4 + (1 : Int32))) else (ld (σ 17) 32 x4 fun v8 => ((f_X6_leastBetween_5 n_) σ x1 v8 (x4 + (1 : Int32)))))))))
def f_X6_leastBetween (σ : Nat → Nat → Int32) (x1 : Int32) (x2 : Int32) : Option (Int32) := (f_X6_leastBetween_5 FU σ x1 x2 (0 : Int32))
def f_X6_splitKeyBetween_28  : Nat → (Nat → Nat → Int32) → Int32 → Int32 → Int32 → Int32 → Int32 → Int32 → Option (Int32)
  | 0, _, _, _, _, _, _, _ => none
  | n_ + 1, σ, x1, x2, x3, x4, x5, x6 => (if (32 : Int32) ≤ x6 then (some x4) else (if x2 ≤ x5 then (some x4) else ((f_X6_countBetween σ x1 x5).bind fun v9 => (if ((2 : Int32) * v9) < x3 then ((f_X6_leastBetween σ (x5 + (1 : Int32)) x2).bind fun v12 => ((f_X6_splitKeyBetween_28 n_) σ x1 x2 x3 x5 v12 (x6 + (1 : Int32)))) else (some x5)))))
def f_X6_splitKeyBetween (σ : Nat → Nat → Int32) (x1 : Int32) (x2 : Int32) : Option (Int32) := ((f_X6_countBetween σ x1 x2).bind fun v1 => ((f_X6_leastBetween σ x1 x2).bind fun v3 => ((f_X6_leastBetween σ (v3 + (1 : Int32)) x2).bind fun v5 => (f_X6_splitKeyBetween_28 FU σ x1 x2 v1 (-1 : Int32) v5 (0 : Int32)))))
def f_X0_loadSplitKey (σ : Nat → Nat → Int32) (x1 : Int32) : Option (Int32) := (ld (σ 9) 16 x1 fun v1 => ((f_X5_endOf σ x1).bind fun v3 => ((f_X6_splitKeyBetween σ v1 v3).bind fun v5 => (some v5))))
def f_X0_votersUp (σ : Nat → Nat → Int32) (x1 : Int32) : Option (Int32) := (ld (σ 10) 16 x1 fun v1 => (some (v1 &&& σ 0 7)))
def f_X0_votersDown (σ : Nat → Nat → Int32) (x1 : Int32) : Option (Int32) := (ld (σ 10) 16 x1 fun v1 => (some (v1 &&& (σ 0 7 ^^^ (-1 : Int32)))))
def f_X0_hasQuorum (σ : Nat → Nat → Int32) (x1 : Int32) : Option (Int32) := ((f_X0_votersUp σ x1).bind fun v1 => ((f_J6_bitCount_0f7a4 v1).bind fun v3 => (ld (σ 10) 16 x1 fun v5 => ((f_J6_bitCount_0f7a4 v5).bind fun v7 => (if ((2 : Int32) * v3) ≤ v7 then (some (0 : Int32)) else (some (1 : Int32)))))))
def f_X0_countAvailable_4  : Nat → (Nat → Nat → Int32) → Int32 → Int32 → Option (Int32)
  | 0, _, _, _ => none
  | n_ + 1, σ, x1, x2 => (if σ 0 8 ≤ x2 then (some x1) else ((f_X0_hasQuorum σ x2).bind fun v2 => (if v2 = 0 then ((f_X0_countAvailable_4 n_) σ x1 (x2 + (1 : Int32))) else ((f_X0_countAvailable_4 n_) σ (x1 + (1 : Int32)) (x2 + (1 : Int32))))))
def f_X0_countAvailable (σ : Nat → Nat → Int32)  : Option (Int32) := (f_X0_countAvailable_4 FU σ (0 : Int32) (0 : Int32))
def f_X5_ledBy_4  : Nat → (Nat → Nat → Int32) → Int32 → Int32 → Int32 → Option (Int32)
  | 0, _, _, _, _ => none
  | n_ + 1, σ, x1, x2, x3 => (if σ 0 8 ≤ x3 then (some x2) else (ld (σ 11) 16 x3 fun v2 => (if v2 = x1 then ((f_X5_ledBy_4 n_) σ x1 (x2 + (1 : Int32)) (x3 + (1 : Int32))) else ((f_X5_ledBy_4 n_) σ x1 x2 (x3 + (1 : Int32))))))
def f_X5_ledBy (σ : Nat → Nat → Int32) (x1 : Int32) : Option (Int32) := (f_X5_ledBy_4 FU σ x1 (0 : Int32) (0 : Int32))
def f_X0_leastLeading_8  : Nat → (Nat → Nat → Int32) → Int32 → Int32 → Int32 → Int32 → Option (Int32)
  | 0, _, _, _, _, _ => none
  | n_ + 1, σ, x1, x2, x3, x4 => (if σ 0 6 ≤ x4 then (some x2) else ((f_X8_bit x4).bind fun v2 => (if (x1 &&& v2) = 0 then ((f_X0_leastLeading_8 n_) σ x1 x2 x3 (x4 + (1 : Int32))) else ((f_X5_ledBy σ x4).bind fun v5 => (if x3 ≤ v5 then ((f_X0_leastLeading_8 n_) σ x1 x2 x3 (x4 + (1 : Int32))) else ((f_X0_leastLeading_8 n_) σ x1 x4 v5 (x4 + (1 : Int32))))))))
def f_X0_leastLeading (σ : Nat → Nat → Int32) (x1 : Int32) : Option (Int32) := (f_X0_leastLeading_8 FU σ x1 (-1 : Int32) (17 : Int32) (0 : Int32))
def f_X0_elect (σ : Nat → Nat → Int32) (x1 : Int32) : Option ((Nat → Nat → Int32)) := (sd 16 x1 ((f_X0_hasQuorum (cu σ 11 x1.toNatClampNeg (-1 : Int32)) x1).bind fun v2 => (if v2 = 0 then (some (cu σ 11 x1.toNatClampNeg (-1 : Int32))) else ((f_X0_votersUp (cu σ 11 x1.toNatClampNeg (-1 : Int32)) x1).bind fun v5 => ((f_X0_leastLeading (cu σ 11 x1.toNatClampNeg (-1 : Int32)) v5).bind fun v7 => (sd 16 x1 (some (cu (cu σ 11 x1.toNatClampNeg (-1 : Int32)) 11 x1.toNatClampNeg v7))))))))
def f_X0_bringUp_18  : Nat → (Nat → Nat → Int32) → Int32 → Option ((Nat → Nat → Int32))
  | 0, _, _ => none
  | n_ + 1, σ, x2 => (if σ 0 8 ≤ x2 then (some σ) else (ld (σ 11) 16 x2 fun v4 => (if v4 = (-1 : Int32) then ((f_X0_elect σ x2).bind fun v7 => ((f_X0_bringUp_18 n_) v7 (x2 + (1 : Int32)))) else ((f_X0_bringUp_18 n_) σ (x2 + (1 : Int32))))))
def f_X0_bringUp (σ : Nat → Nat → Int32) (x1 : Int32) : Option ((Nat → Nat → Int32)) := ((f_X8_bit x1).bind fun v1 => (f_X0_bringUp_18 FU (cu σ 0 7 (σ 0 7 ||| v1)) (0 : Int32)))
def f_X5_setLearner (σ : Nat → Nat → Int32) (x1 : Int32) (x2 : Int32) (x3 : Int32) (x4 : Int32) : Option ((Nat → Nat → Int32)) := (sd 16 x1 (sd 16 x1 (sd 16 x1 (some (cu (cu (cu σ 12 x1.toNatClampNeg x2) 13 x1.toNatClampNeg x3) 14 x1.toNatClampNeg x4)))))
def f_X5_clearLearner (σ : Nat → Nat → Int32) (x1 : Int32) : Option ((Nat → Nat → Int32)) := ((f_X5_setLearner σ x1 (-1 : Int32) (0 : Int32) (-1 : Int32)).bind fun v1 => (some v1))
def f_X0_takeDown_60  : Nat → (Nat → Nat → Int32) → Int32 → Int32 → Option ((Nat → Nat → Int32))
  | 0, _, _, _ => none
  | n_ + 1, σ, x1, x2 => (if σ 0 8 ≤ x2 then (some σ) else ((f_X0_hasQuorum σ x2).bind fun v5 => (if v5 = 0 then (sd 16 x2 ((f_X0_takeDown_60 n_) (cu σ 11 x2.toNatClampNeg (-1 : Int32)) x1 (x2 + (1 : Int32)))) else (ld (σ 11) 16 x2 fun v8 => (if v8 = x1 then ((f_X0_elect σ x2).bind fun v11 => ((f_X0_takeDown_60 n_) v11 x1 (x2 + (1 : Int32)))) else ((f_X0_takeDown_60 n_) σ x1 (x2 + (1 : Int32))))))))
def f_X0_takeDown_20  : Nat → (Nat → Nat → Int32) → Int32 → Int32 → Option ((Nat → Nat → Int32))
  | 0, _, _, _ => none
  | n_ + 1, σ, x1, x2 => (if σ 0 8 ≤ x2 then (f_X0_takeDown_60 FU σ x1 (0 : Int32)) else (ld (σ 12) 16 x2 fun v14 => (if v14 = x1 then ((f_X5_clearLearner σ x2).bind fun v17 => ((f_X0_takeDown_20 n_) v17 x1 (x2 + (1 : Int32)))) else ((f_X0_takeDown_20 n_) σ x1 (x2 + (1 : Int32))))))
def f_X0_takeDown (σ : Nat → Nat → Int32) (x1 : Int32) : Option ((Nat → Nat → Int32)) := ((f_X8_bit x1).bind fun v1 => (f_X0_takeDown_20 FU (cu σ 0 7 (σ 0 7 &&& (v1 ^^^ (-1 : Int32)))) x1 (0 : Int32)))
def f_X4_isUp (σ : Nat → Nat → Int32) (x1 : Int32) : Option (Int32) := ((f_X8_bit x1).bind fun v1 => (if (σ 0 7 &&& v1) = 0 then (some (0 : Int32)) else (some (1 : Int32))))
def f_X5_replicasOn_10  : Nat → (Nat → Nat → Int32) → Int32 → Int32 → Int32 → Int32 → Option (Int32)
  | 0, _, _, _, _, _ => none
  | n_ + 1, σ, x1, x2, x3, x4 => (if σ 0 8 ≤ x4 then (some x3) else (ld (σ 10) 16 x4 fun v4 => (if (v4 &&& x2) = 0 then (ld (σ 12) 16 x4 fun v7 => (if v7 = x1 then ((f_X5_replicasOn_10 n_) σ x1 x2 (x3 + (1 : Int32)) (x4 + (1 : Int32))) else ((f_X5_replicasOn_10 n_) σ x1 x2 x3 (x4 + (1 : Int32))))) else ((f_X5_replicasOn_10 n_) σ x1 x2 (x3 + (1 : Int32)) (x4 + (1 : Int32))))))
def f_X5_replicasOn (σ : Nat → Nat → Int32) (x1 : Int32) : Option (Int32) := ((f_X8_bit x1).bind fun v1 => (f_X5_replicasOn_10 FU σ x1 v1 (0 : Int32) (0 : Int32)))
def f_X4_zonesOf_4  : Nat → (Nat → Nat → Int32) → Int32 → Int32 → Int32 → Option (Int32)
  | 0, _, _, _, _ => none
  | n_ + 1, σ, x1, x2, x3 => (if σ 0 6 ≤ x3 then (some x2) else (if ((x1 >>> (x3 &&& 31)) &&& (1 : Int32)) = 0 then ((f_X4_zonesOf_4 n_) σ x1 x2 (x3 + (1 : Int32))) else (ld (σ 7) 8 x3 fun v3 => ((f_X4_zonesOf_4 n_) σ x1 (x2 ||| ((1 : Int32) <<< (v3 &&& 31))) (x3 + (1 : Int32))))))
def f_X4_zonesOf (σ : Nat → Nat → Int32) (x1 : Int32) : Option (Int32) := (f_X4_zonesOf_4 FU σ x1 (0 : Int32) (0 : Int32))
def f_X5_hasLearner (σ : Nat → Nat → Int32) (x1 : Int32) : Option (Int32) := (ld (σ 12) 16 x1 fun v1 => (if v1 = (-1 : Int32) then (some (0 : Int32)) else (some (1 : Int32))))
def f_X7_learnerTicks (σ : Nat → Nat → Int32) (x1 : Int32) : Option (Int32) := (if (1 : Int32) ≤ σ 0 5 then (dz (σ 0 5) (some ((1 : Int32) + (x1 / σ 0 5)))) else (some (1 : Int32)))
def f_X5_isFull (σ : Nat → Nat → Int32)  : Option (Int32) := (if σ 0 8 < (16 : Int32) then (some (0 : Int32)) else (some (1 : Int32)))
def f_X5_copyWithin (σ : Nat → Nat → Int32) (x1 : Int32) (x2 : Int32) : Option ((Nat → Nat → Int32)) := (ld (σ 9) 16 x1 fun v1 => (sd 16 x2 (ld ((cu σ 9 x2.toNatClampNeg v1) 10) 16 x1 fun v4 => (sd 16 x2 (ld ((cu (cu σ 9 x2.toNatClampNeg v1) 10 x2.toNatClampNeg v4) 11) 16 x1 fun v7 => (sd 16 x2 (ld ((cu (cu (cu σ 9 x2.toNatClampNeg v1) 10 x2.toNatClampNeg v4) 11 x2.toNatClampNeg v7) 12) 16 x1 fun v10 => (sd 16 x2 (ld ((cu (cu (cu (cu σ 9 x2.toNatClampNeg v1) 10 x2.toNatClampNeg v4) 11 x2.toNatClampNeg v7) 12 x2.toNatClampNeg v10) 13) 16 x1 fun v13 => (sd 16 x2 (ld ((cu (cu (cu (cu (cu σ 9 x2.toNatClampNeg v1) 10 x2.toNatClampNeg v4) 11 x2.toNatClampNeg v7) 12 x2.toNatClampNeg v10) 13 x2.toNatClampNeg v13) 14) 16 x1 fun v16 => (sd 16 x2 (some (cu (cu (cu (cu (cu (cu σ 9 x2.toNatClampNeg v1) 10 x2.toNatClampNeg v4) 11 x2.toNatClampNeg v7) 12 x2.toNatClampNeg v10) 13 x2.toNatClampNeg v13) 14 x2.toNatClampNeg v16))))))))))))))
def f_X5_divide_13  : Nat → (Nat → Nat → Int32) → Int32 → Int32 → Int32 → Option ((Nat → Nat → Int32))
  | 0, _, _, _, _ => none
  | n_ + 1, σ, x1, x2, x3 => (if x3 ≤ (x1 + (1 : Int32)) then ((f_X5_copyWithin σ x1 (x1 + (1 : Int32))).bind fun v5 => (sd 16 (x1 + (1 : Int32)) (some (cu (cu v5 9 (x1 + (1 : Int32)).toNatClampNeg x2) 0 8 ((cu v5 9 (x1 + (1 : Int32)).toNatClampNeg x2) 0 8 + (1 : Int32)))))) else ((f_X5_copyWithin σ (x3 - (1 : Int32)) x3).bind fun v8 => ((f_X5_divide_13 n_) v8 x1 x2 (x3 + (-1 : Int32)))))
def f_X5_divide (σ : Nat → Nat → Int32) (x1 : Int32) (x2 : Int32) : Option ((Nat → Nat → Int32)) := ((f_X5_isFull σ).bind fun v1 => (if v1 = 0 then (f_X5_divide_13 FU σ x1 x2 (σ 0 8)) else (some σ)))
def f_X5_absorbNext_4  : Nat → (Nat → Nat → Int32) → Int32 → Option ((Nat → Nat → Int32))
  | 0, _, _ => none
  | n_ + 1, σ, x2 => (if σ 0 8 ≤ (x2 + (1 : Int32)) then (some (cu σ 0 8 (σ 0 8 - (1 : Int32)))) else ((f_X5_copyWithin σ (x2 + (1 : Int32)) x2).bind fun v2 => ((f_X5_absorbNext_4 n_) v2 (x2 + (1 : Int32)))))
def f_X5_absorbNext (σ : Nat → Nat → Int32) (x1 : Int32) : Option ((Nat → Nat → Int32)) := (f_X5_absorbNext_4 FU σ (x1 + (1 : Int32)))
def f_X4_exists (σ : Nat → Nat → Int32) (x1 : Int32) : Option (Int32) := (if x1 < 0 then (some (0 : Int32)) else (if σ 0 6 ≤ x1 then (some (0 : Int32)) else (some (1 : Int32))))
def f_X3_isAt (σ : Nat → Nat → Int32) (x1 : Int32) (x2 : Int32) : Option (Int32) := (if σ 0 9 ≤ x1 then (some (0 : Int32)) else (ld (σ 15) 64 x1 fun v2 => (if v2 = x2 then (some (1 : Int32)) else (some (0 : Int32)))))
def f_X3_sizeAt (σ : Nat → Nat → Int32) (x1 : Int32) : Option (Int32) := ((f_X3_placeOf σ x1).bind fun v1 => ((f_X3_isAt σ v1 x1).bind fun v3 => (if v3 = 0 then (some (0 : Int32)) else (ld (σ 16) 64 v1 fun v6 => (some v6)))))
def f_X3_store_84  (σ : Nat → Nat → Int32) (x2 : Int32) (x3 : Int32) : Option ((Nat → Nat → Int32)) := (sd 64 x3 (some (cu σ 16 x3.toNatClampNeg x2)))
def f_X3_store (σ : Nat → Nat → Int32) (x1 : Int32) (x2 : Int32) : Option ((Nat → Nat → Int32)) := ((f_X3_placeOf σ x1).bind fun v1 => ((f_X3_isAt σ v1 x1).bind fun v3 => (if v3 = 0 then (if σ 0 9 < (64 : Int32) then (ac (acB 64 64 v1 (v1 + (1 : Int32)) (σ 0 9 - v1)) (ac (acB 64 64 v1 (v1 + (1 : Int32)) ((cr σ 15 (va_cpy (σ 15) (σ 15) v1.toNatClampNeg (v1 + (1 : Int32)).toNatClampNeg (σ 0 9 - v1).toNatClampNeg)) 0 9 - v1)) (sd 64 v1 (f_X3_store_84 (cu (cu (cr (cr σ 15 (va_cpy (σ 15) (σ 15) v1.toNatClampNeg (v1 + (1 : Int32)).toNatClampNeg (σ 0 9 - v1).toNatClampNeg)) 16 (va_cpy ((cr σ 15 (va_cpy (σ 15) (σ 15) v1.toNatClampNeg (v1 + (1 : Int32)).toNatClampNeg (σ 0 9 - v1).toNatClampNeg)) 16) ((cr σ 15 (va_cpy (σ 15) (σ 15) v1.toNatClampNeg (v1 + (1 : Int32)).toNatClampNeg (σ 0 9 - v1).toNatClampNeg)) 16) v1.toNatClampNeg (v1 + (1 : Int32)).toNatClampNeg ((cr σ 15 (va_cpy (σ 15) (σ 15) v1.toNatClampNeg (v1 + (1 : Int32)).toNatClampNeg (σ 0 9 - v1).toNatClampNeg)) 0 9 - v1).toNatClampNeg)) 15 v1.toNatClampNeg x1) 0 9 ((cu (cr (cr σ 15 (va_cpy (σ 15) (σ 15) v1.toNatClampNeg (v1 + (1 : Int32)).toNatClampNeg (σ 0 9 - v1).toNatClampNeg)) 16 (va_cpy ((cr σ 15 (va_cpy (σ 15) (σ 15) v1.toNatClampNeg (v1 + (1 : Int32)).toNatClampNeg (σ 0 9 - v1).toNatClampNeg)) 16) ((cr σ 15 (va_cpy (σ 15) (σ 15) v1.toNatClampNeg (v1 + (1 : Int32)).toNatClampNeg (σ 0 9 - v1).toNatClampNeg)) 16) v1.toNatClampNeg (v1 + (1 : Int32)).toNatClampNeg ((cr σ 15 (va_cpy (σ 15) (σ 15) v1.toNatClampNeg (v1 + (1 : Int32)).toNatClampNeg (σ 0 9 - v1).toNatClampNeg)) 0 9 - v1).toNatClampNeg)) 15 v1.toNatClampNeg x1) 0 9 + (1 : Int32))) x2 v1)))) else (some σ)) else (f_X3_store_84 σ x2 v1))))
def f_X3_erase (σ : Nat → Nat → Int32) (x1 : Int32) : Option ((Nat → Nat → Int32)) := ((f_X3_placeOf σ x1).bind fun v1 => ((f_X3_isAt σ v1 x1).bind fun v3 => (if v3 = 0 then (some σ) else (ac (acB 64 64 (v1 + (1 : Int32)) v1 ((cu σ 0 9 (σ 0 9 - (1 : Int32))) 0 9 - v1)) (ac (acB 64 64 (v1 + (1 : Int32)) v1 ((cr (cu σ 0 9 (σ 0 9 - (1 : Int32))) 15 (va_cpy ((cu σ 0 9 (σ 0 9 - (1 : Int32))) 15) ((cu σ 0 9 (σ 0 9 - (1 : Int32))) 15) (v1 + (1 : Int32)).toNatClampNeg v1.toNatClampNeg ((cu σ 0 9 (σ 0 9 - (1 : Int32))) 0 9 - v1).toNatClampNeg)) 0 9 - v1)) (some (cr (cr (cu σ 0 9 (σ 0 9 - (1 : Int32))) 15 (va_cpy ((cu σ 0 9 (σ 0 9 - (1 : Int32))) 15) ((cu σ 0 9 (σ 0 9 - (1 : Int32))) 15) (v1 + (1 : Int32)).toNatClampNeg v1.toNatClampNeg ((cu σ 0 9 (σ 0 9 - (1 : Int32))) 0 9 - v1).toNatClampNeg)) 16 (va_cpy ((cr (cu σ 0 9 (σ 0 9 - (1 : Int32))) 15 (va_cpy ((cu σ 0 9 (σ 0 9 - (1 : Int32))) 15) ((cu σ 0 9 (σ 0 9 - (1 : Int32))) 15) (v1 + (1 : Int32)).toNatClampNeg v1.toNatClampNeg ((cu σ 0 9 (σ 0 9 - (1 : Int32))) 0 9 - v1).toNatClampNeg)) 16) ((cr (cu σ 0 9 (σ 0 9 - (1 : Int32))) 15 (va_cpy ((cu σ 0 9 (σ 0 9 - (1 : Int32))) 15) ((cu σ 0 9 (σ 0 9 - (1 : Int32))) 15) (v1 + (1 : Int32)).toNatClampNeg v1.toNatClampNeg ((cu σ 0 9 (σ 0 9 - (1 : Int32))) 0 9 - v1).toNatClampNeg)) 16) (v1 + (1 : Int32)).toNatClampNeg v1.toNatClampNeg ((cr (cu σ 0 9 (σ 0 9 - (1 : Int32))) 15 (va_cpy ((cu σ 0 9 (σ 0 9 - (1 : Int32))) 15) ((cu σ 0 9 (σ 0 9 - (1 : Int32))) 15) (v1 + (1 : Int32)).toNatClampNeg v1.toNatClampNeg ((cu σ 0 9 (σ 0 9 - (1 : Int32))) 0 9 - v1).toNatClampNeg)) 0 9 - v1).toNatClampNeg))))))))
def f_X4_append (σ : Nat → Nat → Int32) (x1 : Int32) (x2 : Int32) : Option (Int32 × (Nat → Nat → Int32)) := (if σ 0 6 < (8 : Int32) then (sd 8 (σ 0 6) (sd 8 (σ 0 6) ((f_X8_bit (σ 0 6)).bind fun v4 => (some (σ 0 6, (cu (cu (cu (cu σ 7 (σ 0 6).toNatClampNeg x1) 8 (σ 0 6).toNatClampNeg x2) 0 7 ((cu (cu σ 7 (σ 0 6).toNatClampNeg x1) 8 (σ 0 6).toNatClampNeg x2) 0 7 ||| v4)) 0 6 ((cu (cu (cu σ 7 (σ 0 6).toNatClampNeg x1) 8 (σ 0 6).toNatClampNeg x2) 0 7 ((cu (cu σ 7 (σ 0 6).toNatClampNeg x1) 8 (σ 0 6).toNatClampNeg x2) 0 7 ||| v4)) 0 6 + (1 : Int32)))))))) else (some ((-1 : Int32), σ)))
def f_X5_exists (σ : Nat → Nat → Int32) (x1 : Int32) : Option (Int32) := (if x1 < 0 then (some (0 : Int32)) else (if σ 0 8 ≤ x1 then (some (0 : Int32)) else (some (1 : Int32))))
def f_X5_holding_2  : Nat → (Nat → Nat → Int32) → Int32 → Int32 → Option (Int32)
  | 0, _, _, _ => none
  | n_ + 1, σ, x1, x2 => (if σ 0 8 ≤ (x2 + (1 : Int32)) then (some x2) else (ld (σ 9) 16 (x2 + (1 : Int32)) fun v2 => (if x1 < v2 then (some x2) else ((f_X5_holding_2 n_) σ x1 (x2 + (1 : Int32))))))
def f_X5_holding (σ : Nat → Nat → Int32) (x1 : Int32) : Option (Int32) := (f_X5_holding_2 FU σ x1 (0 : Int32))
def f_X5_anyLearner_2  : Nat → (Nat → Nat → Int32) → Int32 → Option (Int32)
  | 0, _, _ => none
  | n_ + 1, σ, x1 => (if σ 0 8 ≤ x1 then (some (0 : Int32)) else ((f_X5_hasLearner σ x1).bind fun v2 => (if v2 = 0 then ((f_X5_anyLearner_2 n_) σ (x1 + (1 : Int32))) else (some (1 : Int32)))))
def f_X5_anyLearner (σ : Nat → Nat → Int32)  : Option (Int32) := (f_X5_anyLearner_2 FU σ (0 : Int32))
def f_X5_learnerCode (σ : Nat → Nat → Int32) (x1 : Int32) : Option (Int32) := ((f_X5_hasLearner σ x1).bind fun v1 => (if v1 = 0 then (some (-1 : Int32)) else (ld (σ 13) 16 x1 fun v4 => (ld (σ 12) 16 x1 fun v6 => (some (((100 : Int32) * v4) + v6))))))
def f_X6_append_30  (σ : Nat → Nat → Int32) (x1 : Int32) : Option ((Nat → Nat → Int32)) := (sd 32 (σ 0 10) (some (cu (cu σ 17 (σ 0 10).toNatClampNeg x1) 0 10 ((cu σ 17 (σ 0 10).toNatClampNeg x1) 0 10 + (1 : Int32)))))
def f_X6_append (σ : Nat → Nat → Int32) (x1 : Int32) : Option ((Nat → Nat → Int32)) := (if σ 0 10 < (32 : Int32) then (f_X6_append_30 σ x1) else (ac (acB 32 32 (1 : Int32) (0 : Int32) (31 : Int32)) (f_X6_append_30 (cu (cr σ 17 (va_cpy (σ 17) (σ 17) (1 : Int32).toNatClampNeg (0 : Int32).toNatClampNeg (31 : Int32).toNatClampNeg)) 0 10 (31 : Int32)) x1)))
def f_X8_mixRow_10  : Nat → (Nat → Nat → Int32) → Int32 → Int64 → Int32 → Option (Int64)
  | 0, _, _, _, _ => none
  | n_ + 1, σ, x2, x4, x6 => (if x2 ≤ x6 then (some x4) else (if (32 : Int32) ≤ x6 then (some x4) else (ld (σ 17) 32 x6 fun v5 => ((f_X8_mix x4 v5).bind fun v7 => ((f_X8_mixRow_10 n_) σ x2 v7 (x6 + (1 : Int32)))))))
def f_X8_mixRow (σ : Nat → Nat → Int32) (x0 : Int64) (x2 : Int32) : Option (Int64) := ((f_X8_mix x0 x2).bind fun v1 => (f_X8_mixRow_10 FU σ x2 v1 (0 : Int32)))
set_option maxRecDepth 100000 in
set_option maxHeartbeats 4000000 in
theorem c_X5_endOf {l : Launch} {D : va_G} {cI cS : ClassId} {A : Nat → Prop} {a : Nat → Nat} {rest : va_W}  {σ : Nat → Nat → Int32} {x1 : Int32} {r : Int32} (hf : f_X5_endOf σ x1 = some r) : CT l yX5_endOf cX5_endOf 2 (some .int) (rmF 0 0) D cI cS A [.ref (a 3), .int x1] (wC a cI σ rest) (wC a cI σ rest) (some (.int r)) := by
  refine CT_of (own := RX5) (xs := [some (.ref (a 3)), some (.int x1)]) (by decide) rfl (Nat.le_of_ble_eq_true rfl) rfl ?_
  intro p e s_ m below meth c C
  unfold f_X5_endOf at hf
  refine j_iload_n C dX5_endOf_0 rfl ?_
  refine j_iconst C ic_1 dX5_endOf_1 ?_
  refine j_iadd C dX5_endOf_2 ?_
  refine j_aload_n C dX5_endOf_3 rfl ?_
  refine gf_X5_30 C dX5_endOf_4 ?_
  refine j_icmp_ge C (tgt := 21) (by decide) dX5_endOf_7 (fun h1 => ?_) (fun h1 => ?_)
  · replace hf := it_t h1 hf
    refine j_sipush C sp_10000 dX5_endOf_21 ?_
    cases hf
    exact j_iret C dX5_endOf_24
  · replace hf := it_f h1 hf
    refine j_aload_n C dX5_endOf_10 rfl ?_
    refine gf_X5_9 C dX5_endOf_11 ?_
    refine j_iload_n C dX5_endOf_14 rfl ?_
    refine j_iconst C ic_1 dX5_endOf_15 ?_
    refine j_iadd C dX5_endOf_16 ?_
    replace hf := ld_s hf
    obtain ⟨v2, h3, e_v2, hf⟩ := hf
    refine aLC_9 C h3 e_v2 dX5_endOf_17 ?_
    refine j_goto C (tgt := 24) (by decide) dX5_endOf_18 ?_
    cases hf
    exact j_iret C dX5_endOf_24
set_option maxRecDepth 100000 in
set_option maxHeartbeats 4000000 in
theorem w_X3_sumBetween_5 {p : Program} {l : Launch} {e : Env} {s_ : State} {m : MethodId} {args : Array Value} {below : List Frame} {meth : Method} {c : Code} {D : va_G} {cI cS : ClassId} {A : Nat → Prop} {a : Nat → Nat} {rest : va_W}  (C : cx p s_ m args meth c cX3_sumBetween 5 RX3 (some .int) D cI cS)  : ∀ (n_ : Nat) (σ : Nat → Nat → Int32) (x1 : Int32) (x2 : Int32) (x3 : Int32) (x4 : Int32) (r : Int32), f_X3_sumBetween_5  n_ σ x1 x2 x3 x4 = some r → jG p l e (rmF 0 0) s_ m args below meth c 5 D A (MQ below (QW D A (wC a cI σ rest) (some (.int r))) args s_ 0 0 A) (wC a cI σ rest) [some (.ref (a 4)), some (.int x1), some (.int x2), some (.int x3), some (.int x4)] 5 [] := by
  intro n_
  induction n_ with
  | zero =>
    intro σ x1 x2 x3 x4 r hf
    rw [f_X3_sumBetween_5] at hf
    cases hf
  | succ n_ hk5 =>
    intro σ x1 x2 x3 x4 r hf
    rw [f_X3_sumBetween_5] at hf
    refine j_iload C dX3_sumBetween_5 rfl ?_
    refine j_aload_n C dX3_sumBetween_7 rfl ?_
    refine gf_X3_18 C dX3_sumBetween_8 ?_
    refine j_icmp_ge C (tgt := 52) (by decide) dX3_sumBetween_11 (fun h1 => ?_) (fun h1 => ?_)
    · replace hf := it_t h1 hf
      refine j_iload_n C dX3_sumBetween_52 rfl ?_
      cases hf
      exact j_iret C dX3_sumBetween_53
    · replace hf := it_f h1 hf
      refine j_aload_n C dX3_sumBetween_14 rfl ?_
      refine gf_X3_9 C dX3_sumBetween_15 ?_
      refine j_iload C dX3_sumBetween_18 rfl ?_
      replace hf := ld_s hf
      obtain ⟨v2, h3, e_v2, hf⟩ := hf
      refine aLC_15 C h3 e_v2 dX3_sumBetween_20 ?_
      refine j_iload_n C dX3_sumBetween_21 rfl ?_
      refine j_icmp_lt C (tgt := 46) (by decide) dX3_sumBetween_22 (fun h4 => ?_) (fun h4 => ?_)
      · replace hf := it_t h4 hf
        refine j_iinc C (xs' := [some (.ref (a 4)), some (.int x1), some (.int x2), some (.int x3), some (.int (x4 + (1 : Int32)))]) dX3_sumBetween_46 rfl (ii_1 _) rfl rfl ?_
        refine j_goto C (tgt := 5) (by decide) dX3_sumBetween_49 ?_
        exact hk5 _ _ _ _ _ _ hf
      · replace hf := it_f h4 hf
        refine j_aload_n C dX3_sumBetween_25 rfl ?_
        refine gf_X3_9 C dX3_sumBetween_26 ?_
        refine j_iload C dX3_sumBetween_29 rfl ?_
        replace hf := ld_s hf
        obtain ⟨v5, h6, e_v5, hf⟩ := hf
        refine aLC_15 C h6 e_v5 dX3_sumBetween_31 ?_
        refine j_iload_n C dX3_sumBetween_32 rfl ?_
        refine j_icmp_ge C (tgt := 46) (by decide) dX3_sumBetween_33 (fun h7 => ?_) (fun h7 => ?_)
        · replace hf := it_t h7 hf
          refine j_iinc C (xs' := [some (.ref (a 4)), some (.int x1), some (.int x2), some (.int x3), some (.int (x4 + (1 : Int32)))]) dX3_sumBetween_46 rfl (ii_1 _) rfl rfl ?_
          refine j_goto C (tgt := 5) (by decide) dX3_sumBetween_49 ?_
          exact hk5 _ _ _ _ _ _ hf
        · replace hf := it_f h7 hf
          refine j_iload_n C dX3_sumBetween_36 rfl ?_
          refine j_aload_n C dX3_sumBetween_37 rfl ?_
          refine gf_X3_15 C dX3_sumBetween_38 ?_
          refine j_iload C dX3_sumBetween_41 rfl ?_
          replace hf := ld_s hf
          obtain ⟨v8, h9, e_v8, hf⟩ := hf
          refine aLC_16 C h9 e_v8 dX3_sumBetween_43 ?_
          refine j_iadd C dX3_sumBetween_44 ?_
          refine j_istore_n C (xs' := [some (.ref (a 4)), some (.int x1), some (.int x2), some (.int (x3 + v8)), some (.int x4)]) dX3_sumBetween_45 rfl rfl ?_
          refine j_iinc C (xs' := [some (.ref (a 4)), some (.int x1), some (.int x2), some (.int (x3 + v8)), some (.int (x4 + (1 : Int32)))]) dX3_sumBetween_46 rfl (ii_1 _) rfl rfl ?_
          refine j_goto C (tgt := 5) (by decide) dX3_sumBetween_49 ?_
          exact hk5 _ _ _ _ _ _ hf
set_option maxRecDepth 100000 in
set_option maxHeartbeats 4000000 in
theorem c_X3_sumBetween {l : Launch} {D : va_G} {cI cS : ClassId} {A : Nat → Prop} {a : Nat → Nat} {rest : va_W}  {σ : Nat → Nat → Int32} {x1 : Int32} {x2 : Int32} {r : Int32} (hf : f_X3_sumBetween σ x1 x2 = some r) : CT l yX3_sumBetween cX3_sumBetween 5 (some .int) (rmF 0 0) D cI cS A [.ref (a 4), .int x1, .int x2] (wC a cI σ rest) (wC a cI σ rest) (some (.int r)) := by
  refine CT_of (own := RX3) (xs := [some (.ref (a 4)), some (.int x1), some (.int x2), none, none]) (by decide) rfl (Nat.le_of_ble_eq_true rfl) rfl ?_
  intro p e s_ m below meth c C
  unfold f_X3_sumBetween at hf
  refine j_iconst C ic_0 dX3_sumBetween_0 ?_
  refine j_istore_n C (xs' := [some (.ref (a 4)), some (.int x1), some (.int x2), some (.int (0 : Int32)), none]) dX3_sumBetween_1 rfl rfl ?_
  refine j_iconst C ic_0 dX3_sumBetween_2 ?_
  refine j_istore C (xs' := [some (.ref (a 4)), some (.int x1), some (.int x2), some (.int (0 : Int32)), some (.int (0 : Int32))]) dX3_sumBetween_3 rfl rfl ?_
  exact w_X3_sumBetween_5 C  _ _ _ _ _ _ _ hf
set_option maxRecDepth 100000 in
set_option maxHeartbeats 4000000 in
theorem c_X0_rangeSize {l : Launch} {D : va_G} {cI cS : ClassId} {A : Nat → Prop} {a : Nat → Nat} {rest : va_W}  {σ : Nat → Nat → Int32} {x1 : Int32} {r : Int32} (hf : f_X0_rangeSize σ x1 = some r) : CT l yX0_rangeSize cX0_rangeSize 2 (some .int) (rmF 1 24) D cI cS A [.ref (a 0), .int x1] (wC a cI σ rest) (wC a cI σ rest) (some (.int r)) := by
  refine CT_of (own := RX0) (xs := [some (.ref (a 0)), some (.int x1)]) (by decide) rfl (Nat.le_of_ble_eq_true rfl) rfl ?_
  intro p e s_ m below meth c C
  unfold f_X0_rangeSize at hf
  refine j_aload_n C dX0_rangeSize_0 rfl ?_
  refine gf_X0_35 C dX0_rangeSize_1 ?_
  refine j_aload_n C dX0_rangeSize_4 rfl ?_
  refine gf_X0_28 C dX0_rangeSize_5 ?_
  refine gf_X0_50 C dX0_rangeSize_8 ?_
  refine j_iload_n C dX0_rangeSize_11 rfl ?_
  replace hf := ld_s hf
  obtain ⟨v1, h2, e_v1, hf⟩ := hf
  refine aLC_9 C h2 e_v1 dX0_rangeSize_12 ?_
  refine j_aload_n C dX0_rangeSize_13 rfl ?_
  refine gf_X0_28 C dX0_rangeSize_14 ?_
  refine j_iload_n C dX0_rangeSize_17 rfl ?_
  replace hf := bd hf
  obtain ⟨v3, h4, hf⟩ := hf
  refine j_callV C cl_X0_53 (c_X5_endOf h4) ⟨Nat.le_of_ble_eq_true rfl, Nat.le_of_ble_eq_true rfl⟩ ⟨Nat.zero_le _, Nat.zero_le _⟩ (q0 := 3) rfl rfl rfl rfl (Nat.le_of_ble_eq_true rfl) rfl rfl rfl dX0_rangeSize_18 ?_
  replace hf := bd hf
  obtain ⟨v5, h6, hf⟩ := hf
  refine j_callV C cl_X0_57 (c_X3_sumBetween h6) ⟨Nat.le_of_ble_eq_true rfl, Nat.le_of_ble_eq_true rfl⟩ ⟨Nat.zero_le _, Nat.zero_le _⟩ (q0 := 4) rfl rfl rfl rfl (Nat.le_of_ble_eq_true rfl) rfl rfl rfl dX0_rangeSize_21 ?_
  cases hf
  exact j_iret C dX0_rangeSize_24
set_option maxRecDepth 100000 in
set_option maxHeartbeats 4000000 in
theorem w_X6_countBetween_5 {p : Program} {l : Launch} {e : Env} {s_ : State} {m : MethodId} {args : Array Value} {below : List Frame} {meth : Method} {c : Code} {D : va_G} {cI cS : ClassId} {A : Nat → Prop} {a : Nat → Nat} {rest : va_W}  (C : cx p s_ m args meth c cX6_countBetween 5 RX6 (some .int) D cI cS)  : ∀ (n_ : Nat) (σ : Nat → Nat → Int32) (x1 : Int32) (x2 : Int32) (x3 : Int32) (x4 : Int32) (r : Int32), f_X6_countBetween_5  n_ σ x1 x2 x3 x4 = some r → jG p l e (rmF 0 0) s_ m args below meth c 5 D A (MQ below (QW D A (wC a cI σ rest) (some (.int r))) args s_ 0 0 A) (wC a cI σ rest) [some (.ref (a 5)), some (.int x1), some (.int x2), some (.int x3), some (.int x4)] 5 [] := by
  intro n_
  induction n_ with
  | zero =>
    intro σ x1 x2 x3 x4 r hf
    rw [f_X6_countBetween_5] at hf
    cases hf
  | succ n_ hk5 =>
    intro σ x1 x2 x3 x4 r hf
    rw [f_X6_countBetween_5] at hf
    refine j_iload C dX6_countBetween_5 rfl ?_
    refine j_aload_n C dX6_countBetween_7 rfl ?_
    refine gf_X6_15 C dX6_countBetween_8 ?_
    refine j_icmp_ge C (tgt := 45) (by decide) dX6_countBetween_11 (fun h1 => ?_) (fun h1 => ?_)
    · replace hf := it_t h1 hf
      refine j_iload_n C dX6_countBetween_45 rfl ?_
      cases hf
      exact j_iret C dX6_countBetween_46
    · replace hf := it_f h1 hf
      refine j_aload_n C dX6_countBetween_14 rfl ?_
      refine gf_X6_9 C dX6_countBetween_15 ?_
      refine j_iload C dX6_countBetween_18 rfl ?_
      replace hf := ld_s hf
      obtain ⟨v2, h3, e_v2, hf⟩ := hf
      refine aLC_17 C h3 e_v2 dX6_countBetween_20 ?_
      refine j_iload_n C dX6_countBetween_21 rfl ?_
      refine j_icmp_lt C (tgt := 39) (by decide) dX6_countBetween_22 (fun h4 => ?_) (fun h4 => ?_)
      · replace hf := it_t h4 hf
        refine j_iinc C (xs' := [some (.ref (a 5)), some (.int x1), some (.int x2), some (.int x3), some (.int (x4 + (1 : Int32)))]) dX6_countBetween_39 rfl (ii_1 _) rfl rfl ?_
        refine j_goto C (tgt := 5) (by decide) dX6_countBetween_42 ?_
        exact hk5 _ _ _ _ _ _ hf
      · replace hf := it_f h4 hf
        refine j_aload_n C dX6_countBetween_25 rfl ?_
        refine gf_X6_9 C dX6_countBetween_26 ?_
        refine j_iload C dX6_countBetween_29 rfl ?_
        replace hf := ld_s hf
        obtain ⟨v5, h6, e_v5, hf⟩ := hf
        refine aLC_17 C h6 e_v5 dX6_countBetween_31 ?_
        refine j_iload_n C dX6_countBetween_32 rfl ?_
        refine j_icmp_ge C (tgt := 39) (by decide) dX6_countBetween_33 (fun h7 => ?_) (fun h7 => ?_)
        · replace hf := it_t h7 hf
          refine j_iinc C (xs' := [some (.ref (a 5)), some (.int x1), some (.int x2), some (.int x3), some (.int (x4 + (1 : Int32)))]) dX6_countBetween_39 rfl (ii_1 _) rfl rfl ?_
          refine j_goto C (tgt := 5) (by decide) dX6_countBetween_42 ?_
          exact hk5 _ _ _ _ _ _ hf
        · replace hf := it_f h7 hf
          refine j_iinc C (xs' := [some (.ref (a 5)), some (.int x1), some (.int x2), some (.int (x3 + (1 : Int32))), some (.int x4)]) dX6_countBetween_36 rfl (ii_1 _) rfl rfl ?_
          refine j_iinc C (xs' := [some (.ref (a 5)), some (.int x1), some (.int x2), some (.int (x3 + (1 : Int32))), some (.int (x4 + (1 : Int32)))]) dX6_countBetween_39 rfl (ii_1 _) rfl rfl ?_
          refine j_goto C (tgt := 5) (by decide) dX6_countBetween_42 ?_
          exact hk5 _ _ _ _ _ _ hf
set_option maxRecDepth 100000 in
set_option maxHeartbeats 4000000 in
theorem c_X6_countBetween {l : Launch} {D : va_G} {cI cS : ClassId} {A : Nat → Prop} {a : Nat → Nat} {rest : va_W}  {σ : Nat → Nat → Int32} {x1 : Int32} {x2 : Int32} {r : Int32} (hf : f_X6_countBetween σ x1 x2 = some r) : CT l yX6_countBetween cX6_countBetween 5 (some .int) (rmF 0 0) D cI cS A [.ref (a 5), .int x1, .int x2] (wC a cI σ rest) (wC a cI σ rest) (some (.int r)) := by
  refine CT_of (own := RX6) (xs := [some (.ref (a 5)), some (.int x1), some (.int x2), none, none]) (by decide) rfl (Nat.le_of_ble_eq_true rfl) rfl ?_
  intro p e s_ m below meth c C
  unfold f_X6_countBetween at hf
  refine j_iconst C ic_0 dX6_countBetween_0 ?_
  refine j_istore_n C (xs' := [some (.ref (a 5)), some (.int x1), some (.int x2), some (.int (0 : Int32)), none]) dX6_countBetween_1 rfl rfl ?_
  refine j_iconst C ic_0 dX6_countBetween_2 ?_
  refine j_istore C (xs' := [some (.ref (a 5)), some (.int x1), some (.int x2), some (.int (0 : Int32)), some (.int (0 : Int32))]) dX6_countBetween_3 rfl rfl ?_
  exact w_X6_countBetween_5 C  _ _ _ _ _ _ _ hf
set_option maxRecDepth 100000 in
set_option maxHeartbeats 4000000 in
theorem c_X0_rangeLoad {l : Launch} {D : va_G} {cI cS : ClassId} {A : Nat → Prop} {a : Nat → Nat} {rest : va_W}  {σ : Nat → Nat → Int32} {x1 : Int32} {r : Int32} (hf : f_X0_rangeLoad σ x1 = some r) : CT l yX0_rangeLoad cX0_rangeLoad 2 (some .int) (rmF 1 24) D cI cS A [.ref (a 0), .int x1] (wC a cI σ rest) (wC a cI σ rest) (some (.int r)) := by
  refine CT_of (own := RX0) (xs := [some (.ref (a 0)), some (.int x1)]) (by decide) rfl (Nat.le_of_ble_eq_true rfl) rfl ?_
  intro p e s_ m below meth c C
  unfold f_X0_rangeLoad at hf
  refine j_aload_n C dX0_rangeLoad_0 rfl ?_
  refine gf_X0_42 C dX0_rangeLoad_1 ?_
  refine j_aload_n C dX0_rangeLoad_4 rfl ?_
  refine gf_X0_28 C dX0_rangeLoad_5 ?_
  refine gf_X0_50 C dX0_rangeLoad_8 ?_
  refine j_iload_n C dX0_rangeLoad_11 rfl ?_
  replace hf := ld_s hf
  obtain ⟨v1, h2, e_v1, hf⟩ := hf
  refine aLC_9 C h2 e_v1 dX0_rangeLoad_12 ?_
  refine j_aload_n C dX0_rangeLoad_13 rfl ?_
  refine gf_X0_28 C dX0_rangeLoad_14 ?_
  refine j_iload_n C dX0_rangeLoad_17 rfl ?_
  replace hf := bd hf
  obtain ⟨v3, h4, hf⟩ := hf
  refine j_callV C cl_X0_53 (c_X5_endOf h4) ⟨Nat.le_of_ble_eq_true rfl, Nat.le_of_ble_eq_true rfl⟩ ⟨Nat.zero_le _, Nat.zero_le _⟩ (q0 := 3) rfl rfl rfl rfl (Nat.le_of_ble_eq_true rfl) rfl rfl rfl dX0_rangeLoad_18 ?_
  replace hf := bd hf
  obtain ⟨v5, h6, hf⟩ := hf
  refine j_callV C cl_X0_61 (c_X6_countBetween h6) ⟨Nat.le_of_ble_eq_true rfl, Nat.le_of_ble_eq_true rfl⟩ ⟨Nat.zero_le _, Nat.zero_le _⟩ (q0 := 5) rfl rfl rfl rfl (Nat.le_of_ble_eq_true rfl) rfl rfl rfl dX0_rangeLoad_21 ?_
  cases hf
  exact j_iret C dX0_rangeLoad_24
set_option maxRecDepth 100000 in
set_option maxHeartbeats 4000000 in
theorem w_X3_placeOf_2 {p : Program} {l : Launch} {e : Env} {s_ : State} {m : MethodId} {args : Array Value} {below : List Frame} {meth : Method} {c : Code} {D : va_G} {cI cS : ClassId} {A : Nat → Prop} {a : Nat → Nat} {rest : va_W}  (C : cx p s_ m args meth c cX3_placeOf 3 RX3 (some .int) D cI cS)  : ∀ (n_ : Nat) (σ : Nat → Nat → Int32) (x1 : Int32) (x2 : Int32) (r : Int32), f_X3_placeOf_2  n_ σ x1 x2 = some r → jG p l e (rmF 0 0) s_ m args below meth c 3 D A (MQ below (QW D A (wC a cI σ rest) (some (.int r))) args s_ 0 0 A) (wC a cI σ rest) [some (.ref (a 4)), some (.int x1), some (.int x2)] 2 [] := by
  intro n_
  induction n_ with
  | zero =>
    intro σ x1 x2 r hf
    rw [f_X3_placeOf_2] at hf
    cases hf
  | succ n_ hk2 =>
    intro σ x1 x2 r hf
    rw [f_X3_placeOf_2] at hf
    refine j_iload_n C dX3_placeOf_2 rfl ?_
    refine j_aload_n C dX3_placeOf_3 rfl ?_
    refine gf_X3_18 C dX3_placeOf_4 ?_
    refine j_icmp_ge C (tgt := 26) (by decide) dX3_placeOf_7 (fun h1 => ?_) (fun h1 => ?_)
    · replace hf := it_t h1 hf
      refine j_iload_n C dX3_placeOf_26 rfl ?_
      cases hf
      exact j_iret C dX3_placeOf_27
    · replace hf := it_f h1 hf
      refine j_aload_n C dX3_placeOf_10 rfl ?_
      refine gf_X3_9 C dX3_placeOf_11 ?_
      refine j_iload_n C dX3_placeOf_14 rfl ?_
      replace hf := ld_s hf
      obtain ⟨v2, h3, e_v2, hf⟩ := hf
      refine aLC_15 C h3 e_v2 dX3_placeOf_15 ?_
      refine j_iload_n C dX3_placeOf_16 rfl ?_
      refine j_icmp_ge C (tgt := 26) (by decide) dX3_placeOf_17 (fun h4 => ?_) (fun h4 => ?_)
      · replace hf := it_t h4 hf
        refine j_iload_n C dX3_placeOf_26 rfl ?_
        cases hf
        exact j_iret C dX3_placeOf_27
      · replace hf := it_f h4 hf
        refine j_iinc C (xs' := [some (.ref (a 4)), some (.int x1), some (.int (x2 + (1 : Int32)))]) dX3_placeOf_20 rfl (ii_1 _) rfl rfl ?_
        refine j_goto C (tgt := 2) (by decide) dX3_placeOf_23 ?_
        exact hk2 _ _ _ _ hf
set_option maxRecDepth 100000 in
set_option maxHeartbeats 4000000 in
theorem c_X3_placeOf {l : Launch} {D : va_G} {cI cS : ClassId} {A : Nat → Prop} {a : Nat → Nat} {rest : va_W}  {σ : Nat → Nat → Int32} {x1 : Int32} {r : Int32} (hf : f_X3_placeOf σ x1 = some r) : CT l yX3_placeOf cX3_placeOf 3 (some .int) (rmF 0 0) D cI cS A [.ref (a 4), .int x1] (wC a cI σ rest) (wC a cI σ rest) (some (.int r)) := by
  refine CT_of (own := RX3) (xs := [some (.ref (a 4)), some (.int x1), none]) (by decide) rfl (Nat.le_of_ble_eq_true rfl) rfl ?_
  intro p e s_ m below meth c C
  unfold f_X3_placeOf at hf
  refine j_iconst C ic_0 dX3_placeOf_0 ?_
  refine j_istore_n C (xs' := [some (.ref (a 4)), some (.int x1), some (.int (0 : Int32))]) dX3_placeOf_1 rfl rfl ?_
  exact w_X3_placeOf_2 C  _ _ _ _ _ hf
set_option maxRecDepth 100000 in
set_option maxHeartbeats 4000000 in
theorem w_X3_splitKeyBetween_71 {p : Program} {l : Launch} {e : Env} {s_ : State} {m : MethodId} {args : Array Value} {below : List Frame} {meth : Method} {c : Code} {D : va_G} {cI cS : ClassId} {A : Nat → Prop} {a : Nat → Nat} {rest : va_W}  (C : cx p s_ m args meth c cX3_splitKeyBetween 8 RX3 (some .int) D cI cS) (k24 : (Nat → Nat → Int32) → Int32 → Int32 → Int32 → Int32 → Int32 → Int32 → Option (Int32)) (hk24 : ∀ (σ : Nat → Nat → Int32) (x2 : Int32) (x3 : Int32) (x4 : Int32) (x5 : Int32) (x6 : Int32) (x7 : Int32) (r : Int32), k24 σ x2 x3 x4 x5 x6 x7 = some r → jG p l e (rmF 1 24) s_ m args below meth c 8 D A (MQ below (QW D A (wC a cI σ rest) (some (.int r))) args s_ 0 0 A) (wC a cI σ rest) [some (.ref (a 4)), none, some (.int x2), some (.int x3), some (.int x4), some (.int x5), some (.int x6), some (.int x7)] 24 []) : ∀ (σ : Nat → Nat → Int32) (x2 : Int32) (x3 : Int32) (x4 : Int32) (x5 : Int32) (x6 : Int32) (x7 : Int32) (r : Int32), f_X3_splitKeyBetween_71 k24 σ x2 x3 x4 x5 x6 x7 = some r → jG p l e (rmF 1 24) s_ m args below meth c 8 D A (MQ below (QW D A (wC a cI σ rest) (some (.int r))) args s_ 0 0 A) (wC a cI σ rest) [some (.ref (a 4)), none, some (.int x2), some (.int x3), some (.int x4), some (.int x5), some (.int x6), some (.int x7)] 71 [] := by
  intro σ x2 x3 x4 x5 x6 x7 r hf
  unfold f_X3_splitKeyBetween_71 at hf
  refine j_iload C dX3_splitKeyBetween_71 rfl ?_
  refine j_aload_n C dX3_splitKeyBetween_73 rfl ?_
  refine gf_X3_15 C dX3_splitKeyBetween_74 ?_
  refine j_iload C dX3_splitKeyBetween_77 rfl ?_
  replace hf := ld_s hf
  obtain ⟨v10, h11, e_v10, hf⟩ := hf
  refine aLC_16 C h11 e_v10 dX3_splitKeyBetween_79 ?_
  refine j_iadd C dX3_splitKeyBetween_80 ?_
  refine j_istore C (xs' := [some (.ref (a 4)), none, some (.int x2), some (.int x3), some (.int x4), some (.int (x5 + v10)), some (.int x6), some (.int x7)]) dX3_splitKeyBetween_81 rfl rfl ?_
  refine j_iinc C (xs' := [some (.ref (a 4)), none, some (.int x2), some (.int x3), some (.int x4), some (.int (x5 + v10)), some (.int x6), some (.int (x7 + (1 : Int32)))]) dX3_splitKeyBetween_83 rfl (ii_1 _) rfl rfl ?_
  refine j_goto C (tgt := 24) (by decide) dX3_splitKeyBetween_86 ?_
  exact hk24 _ _ _ _ _ _ _ _ hf
set_option maxRecDepth 100000 in
set_option maxHeartbeats 4000000 in
theorem w_X3_splitKeyBetween_24 {p : Program} {l : Launch} {e : Env} {s_ : State} {m : MethodId} {args : Array Value} {below : List Frame} {meth : Method} {c : Code} {D : va_G} {cI cS : ClassId} {A : Nat → Prop} {a : Nat → Nat} {rest : va_W}  (C : cx p s_ m args meth c cX3_splitKeyBetween 8 RX3 (some .int) D cI cS)  : ∀ (n_ : Nat) (σ : Nat → Nat → Int32) (x2 : Int32) (x3 : Int32) (x4 : Int32) (x5 : Int32) (x6 : Int32) (x7 : Int32) (r : Int32), f_X3_splitKeyBetween_24  n_ σ x2 x3 x4 x5 x6 x7 = some r → jG p l e (rmF 1 24) s_ m args below meth c 8 D A (MQ below (QW D A (wC a cI σ rest) (some (.int r))) args s_ 0 0 A) (wC a cI σ rest) [some (.ref (a 4)), none, some (.int x2), some (.int x3), some (.int x4), some (.int x5), some (.int x6), some (.int x7)] 24 [] := by
  intro n_
  induction n_ with
  | zero =>
    intro σ x2 x3 x4 x5 x6 x7 r hf
    rw [f_X3_splitKeyBetween_24] at hf
    cases hf
  | succ n_ hk24 =>
    intro σ x2 x3 x4 x5 x6 x7 r hf
    rw [f_X3_splitKeyBetween_24] at hf
    refine j_iload C dX3_splitKeyBetween_24 rfl ?_
    refine j_aload_n C dX3_splitKeyBetween_26 rfl ?_
    refine gf_X3_18 C dX3_splitKeyBetween_27 ?_
    refine j_icmp_ge C (tgt := 89) (by decide) dX3_splitKeyBetween_30 (fun h5 => ?_) (fun h5 => ?_)
    · replace hf := it_t h5 hf
      refine j_iload C dX3_splitKeyBetween_89 rfl ?_
      cases hf
      exact j_iret C dX3_splitKeyBetween_91
    · replace hf := it_f h5 hf
      refine j_aload_n C dX3_splitKeyBetween_33 rfl ?_
      refine gf_X3_9 C dX3_splitKeyBetween_34 ?_
      refine j_iload C dX3_splitKeyBetween_37 rfl ?_
      replace hf := ld_s hf
      obtain ⟨v6, h7, e_v6, hf⟩ := hf
      refine aLC_15 C h7 e_v6 dX3_splitKeyBetween_39 ?_
      refine j_iload_n C dX3_splitKeyBetween_40 rfl ?_
      refine j_icmp_ge C (tgt := 89) (by decide) dX3_splitKeyBetween_41 (fun h8 => ?_) (fun h8 => ?_)
      · replace hf := it_t h8 hf
        refine j_iload C dX3_splitKeyBetween_89 rfl ?_
        cases hf
        exact j_iret C dX3_splitKeyBetween_91
      · replace hf := it_f h8 hf
        refine j_iload C dX3_splitKeyBetween_44 rfl ?_
        refine j_iload C dX3_splitKeyBetween_46 rfl ?_
        refine j_icmp_le C (tgt := 71) (by decide) dX3_splitKeyBetween_48 (fun h9 => ?_) (fun h9 => ?_)
        · replace hf := it_t h9 hf
          exact w_X3_splitKeyBetween_71 C _ hk24 _ _ _ _ _ _ _ _ hf
        · replace hf := it_f h9 hf
          refine j_aload_n C dX3_splitKeyBetween_51 rfl ?_
          refine gf_X3_9 C dX3_splitKeyBetween_52 ?_
          refine j_iload C dX3_splitKeyBetween_55 rfl ?_
          replace hf := ld_s hf
          obtain ⟨v12, h13, e_v12, hf⟩ := hf
          refine aLC_15 C h13 e_v12 dX3_splitKeyBetween_57 ?_
          refine j_istore C (xs' := [some (.ref (a 4)), none, some (.int x2), some (.int x3), some (.int x4), some (.int x5), some (.int v12), some (.int x7)]) dX3_splitKeyBetween_58 rfl rfl ?_
          refine j_iconst C ic_2 dX3_splitKeyBetween_60 ?_
          refine j_iload C dX3_splitKeyBetween_61 rfl ?_
          refine j_imul C dX3_splitKeyBetween_63 ?_
          refine j_iload_n C dX3_splitKeyBetween_64 rfl ?_
          refine j_icmp_lt C (tgt := 71) (by decide) dX3_splitKeyBetween_65 (fun h14 => ?_) (fun h14 => ?_)
          · replace hf := it_t h14 hf
            exact w_X3_splitKeyBetween_71 C _ hk24 _ _ _ _ _ _ _ _ hf
          · replace hf := it_f h14 hf
            refine j_iload C dX3_splitKeyBetween_68 rfl ?_
            cases hf
            exact j_iret C dX3_splitKeyBetween_70
set_option maxRecDepth 100000 in
set_option maxHeartbeats 4000000 in
theorem c_X3_splitKeyBetween {l : Launch} {D : va_G} {cI cS : ClassId} {A : Nat → Prop} {a : Nat → Nat} {rest : va_W}  {σ : Nat → Nat → Int32} {x1 : Int32} {x2 : Int32} {r : Int32} (hf : f_X3_splitKeyBetween σ x1 x2 = some r) : CT l yX3_splitKeyBetween cX3_splitKeyBetween 8 (some .int) (rmF 1 24) D cI cS A [.ref (a 4), .int x1, .int x2] (wC a cI σ rest) (wC a cI σ rest) (some (.int r)) := by
  refine CT_of (own := RX3) (xs := [some (.ref (a 4)), some (.int x1), some (.int x2), none, none, none, none, none]) (by decide) rfl (Nat.le_of_ble_eq_true rfl) rfl ?_
  intro p e s_ m below meth c C
  unfold f_X3_splitKeyBetween at hf
  refine j_aload_n C dX3_splitKeyBetween_0 rfl ?_
  refine j_iload_n C dX3_splitKeyBetween_1 rfl ?_
  refine j_iload_n C dX3_splitKeyBetween_2 rfl ?_
  replace hf := bd hf
  obtain ⟨v1, h2, hf⟩ := hf
  refine j_callV C cl_X3_36 (c_X3_sumBetween h2) ⟨Nat.le_of_ble_eq_true rfl, Nat.le_of_ble_eq_true rfl⟩ ⟨Nat.zero_le _, Nat.zero_le _⟩ (q0 := 4) rfl rfl rfl rfl (Nat.le_of_ble_eq_true rfl) rfl rfl rfl dX3_splitKeyBetween_3 ?_
  refine j_istore_n C (xs' := [some (.ref (a 4)), some (.int x1), some (.int x2), some (.int v1), none, none, none, none]) dX3_splitKeyBetween_6 rfl rfl ?_
  refine j_aload_n C dX3_splitKeyBetween_7 rfl ?_
  refine j_iload_n C dX3_splitKeyBetween_8 rfl ?_
  replace hf := bd hf
  obtain ⟨v3, h4, hf⟩ := hf
  refine j_callV C cl_X3_22 (c_X3_placeOf h4) ⟨Nat.le_of_ble_eq_true rfl, Nat.le_of_ble_eq_true rfl⟩ ⟨Nat.zero_le _, Nat.zero_le _⟩ (q0 := 4) rfl rfl rfl rfl (Nat.le_of_ble_eq_true rfl) rfl rfl rfl dX3_splitKeyBetween_9 ?_
  refine j_istore C (xs' := [some (.ref (a 4)), some (.int x1), some (.int x2), some (.int v1), some (.int v3), none, none, none]) dX3_splitKeyBetween_12 rfl rfl ?_
  refine j_iconst C ic_0 dX3_splitKeyBetween_14 ?_
  refine j_istore C (xs' := [some (.ref (a 4)), some (.int x1), some (.int x2), some (.int v1), some (.int v3), some (.int (0 : Int32)), none, none]) dX3_splitKeyBetween_15 rfl rfl ?_
  refine j_iconst C ic_m1 dX3_splitKeyBetween_17 ?_
  refine j_istore C (xs' := [some (.ref (a 4)), some (.int x1), some (.int x2), some (.int v1), some (.int v3), some (.int (0 : Int32)), some (.int (-1 : Int32)), none]) dX3_splitKeyBetween_18 rfl rfl ?_
  refine j_iload C dX3_splitKeyBetween_20 rfl ?_
  refine j_istore C (xs' := [some (.ref (a 4)), some (.int x1), some (.int x2), some (.int v1), some (.int v3), some (.int (0 : Int32)), some (.int (-1 : Int32)), some (.int v3)]) dX3_splitKeyBetween_22 rfl rfl ?_
  refine j_weak [true, false, true, true, true, true, true, true] rfl ?_
  exact w_X3_splitKeyBetween_24 C  _ _ _ _ _ _ _ _ _ hf
set_option maxRecDepth 100000 in
set_option maxHeartbeats 4000000 in
theorem c_X0_sizeSplitKey {l : Launch} {D : va_G} {cI cS : ClassId} {A : Nat → Prop} {a : Nat → Nat} {rest : va_W}  {σ : Nat → Nat → Int32} {x1 : Int32} {r : Int32} (hf : f_X0_sizeSplitKey σ x1 = some r) : CT l yX0_sizeSplitKey cX0_sizeSplitKey 2 (some .int) (rmF 2 51) D cI cS A [.ref (a 0), .int x1] (wC a cI σ rest) (wC a cI σ rest) (some (.int r)) := by
  refine CT_of (own := RX0) (xs := [some (.ref (a 0)), some (.int x1)]) (by decide) rfl (Nat.le_of_ble_eq_true rfl) rfl ?_
  intro p e s_ m below meth c C
  unfold f_X0_sizeSplitKey at hf
  refine j_aload_n C dX0_sizeSplitKey_0 rfl ?_
  refine gf_X0_35 C dX0_sizeSplitKey_1 ?_
  refine j_aload_n C dX0_sizeSplitKey_4 rfl ?_
  refine gf_X0_28 C dX0_sizeSplitKey_5 ?_
  refine gf_X0_50 C dX0_sizeSplitKey_8 ?_
  refine j_iload_n C dX0_sizeSplitKey_11 rfl ?_
  replace hf := ld_s hf
  obtain ⟨v1, h2, e_v1, hf⟩ := hf
  refine aLC_9 C h2 e_v1 dX0_sizeSplitKey_12 ?_
  refine j_aload_n C dX0_sizeSplitKey_13 rfl ?_
  refine gf_X0_28 C dX0_sizeSplitKey_14 ?_
  refine j_iload_n C dX0_sizeSplitKey_17 rfl ?_
  replace hf := bd hf
  obtain ⟨v3, h4, hf⟩ := hf
  refine j_callV C cl_X0_53 (c_X5_endOf h4) ⟨Nat.le_of_ble_eq_true rfl, Nat.le_of_ble_eq_true rfl⟩ ⟨Nat.zero_le _, Nat.zero_le _⟩ (q0 := 3) rfl rfl rfl rfl (Nat.le_of_ble_eq_true rfl) rfl rfl rfl dX0_sizeSplitKey_18 ?_
  replace hf := bd hf
  obtain ⟨v5, h6, hf⟩ := hf
  refine j_callV C cl_X0_64 (c_X3_splitKeyBetween h6) ⟨Nat.le_of_ble_eq_true rfl, Nat.le_of_ble_eq_true rfl⟩ ⟨Nat.zero_le _, Nat.zero_le _⟩ (q0 := 4) rfl rfl rfl rfl (Nat.le_of_ble_eq_true rfl) rfl rfl rfl dX0_sizeSplitKey_21 ?_
  cases hf
  exact j_iret C dX0_sizeSplitKey_24
set_option maxRecDepth 100000 in
set_option maxHeartbeats 4000000 in
theorem w_X6_leastBetween_5 {p : Program} {l : Launch} {e : Env} {s_ : State} {m : MethodId} {args : Array Value} {below : List Frame} {meth : Method} {c : Code} {D : va_G} {cI cS : ClassId} {A : Nat → Prop} {a : Nat → Nat} {rest : va_W}  (C : cx p s_ m args meth c cX6_leastBetween 5 RX6 (some .int) D cI cS)  : ∀ (n_ : Nat) (σ : Nat → Nat → Int32) (x1 : Int32) (x3 : Int32) (x4 : Int32) (r : Int32), f_X6_leastBetween_5  n_ σ x1 x3 x4 = some r → jG p l e (rmF 0 0) s_ m args below meth c 5 D A (MQ below (QW D A (wC a cI σ rest) (some (.int r))) args s_ 0 0 A) (wC a cI σ rest) [some (.ref (a 5)), some (.int x1), none, some (.int x3), some (.int x4)] 5 [] := by
  intro n_
  induction n_ with
  | zero =>
    intro σ x1 x3 x4 r hf
    rw [f_X6_leastBetween_5] at hf
    cases hf
  | succ n_ hk5 =>
    intro σ x1 x3 x4 r hf
    rw [f_X6_leastBetween_5] at hf
    refine j_iload C dX6_leastBetween_5 rfl ?_
    refine j_aload_n C dX6_leastBetween_7 rfl ?_
    refine gf_X6_15 C dX6_leastBetween_8 ?_
    refine j_icmp_ge C (tgt := 50) (by decide) dX6_leastBetween_11 (fun h1 => ?_) (fun h1 => ?_)
    · replace hf := it_t h1 hf
      refine j_iload_n C dX6_leastBetween_50 rfl ?_
      cases hf
      exact j_iret C dX6_leastBetween_51
    · replace hf := it_f h1 hf
      refine j_aload_n C dX6_leastBetween_14 rfl ?_
      refine gf_X6_9 C dX6_leastBetween_15 ?_
      refine j_iload C dX6_leastBetween_18 rfl ?_
      replace hf := ld_s hf
      obtain ⟨v2, h3, e_v2, hf⟩ := hf
      refine aLC_17 C h3 e_v2 dX6_leastBetween_20 ?_
      refine j_iload_n C dX6_leastBetween_21 rfl ?_
      refine j_icmp_lt C (tgt := 44) (by decide) dX6_leastBetween_22 (fun h4 => ?_) (fun h4 => ?_)
      · replace hf := it_t h4 hf
        refine j_iinc C (xs' := [some (.ref (a 5)), some (.int x1), none, some (.int x3), some (.int (x4 + (1 : Int32)))]) dX6_leastBetween_44 rfl (ii_1 _) rfl rfl ?_
        refine j_goto C (tgt := 5) (by decide) dX6_leastBetween_47 ?_
        exact hk5 _ _ _ _ _ hf
      · replace hf := it_f h4 hf
        refine j_aload_n C dX6_leastBetween_25 rfl ?_
        refine gf_X6_9 C dX6_leastBetween_26 ?_
        refine j_iload C dX6_leastBetween_29 rfl ?_
        replace hf := ld_s hf
        obtain ⟨v5, h6, e_v5, hf⟩ := hf
        refine aLC_17 C h6 e_v5 dX6_leastBetween_31 ?_
        refine j_iload_n C dX6_leastBetween_32 rfl ?_
        refine j_icmp_ge C (tgt := 44) (by decide) dX6_leastBetween_33 (fun h7 => ?_) (fun h7 => ?_)
        · replace hf := it_t h7 hf
          refine j_iinc C (xs' := [some (.ref (a 5)), some (.int x1), none, some (.int x3), some (.int (x4 + (1 : Int32)))]) dX6_leastBetween_44 rfl (ii_1 _) rfl rfl ?_
          refine j_goto C (tgt := 5) (by decide) dX6_leastBetween_47 ?_
          exact hk5 _ _ _ _ _ hf
        · replace hf := it_f h7 hf
          refine j_aload_n C dX6_leastBetween_36 rfl ?_
          refine gf_X6_9 C dX6_leastBetween_37 ?_
          refine j_iload C dX6_leastBetween_40 rfl ?_
          replace hf := ld_s hf
          obtain ⟨v8, h9, e_v8, hf⟩ := hf
          refine aLC_17 C h9 e_v8 dX6_leastBetween_42 ?_
          refine j_istore_n C (xs' := [some (.ref (a 5)), some (.int x1), none, some (.int v8), some (.int x4)]) dX6_leastBetween_43 rfl rfl ?_
          refine j_iinc C (xs' := [some (.ref (a 5)), some (.int x1), none, some (.int v8), some (.int (x4 + (1 : Int32)))]) dX6_leastBetween_44 rfl (ii_1 _) rfl rfl ?_
          refine j_goto C (tgt := 5) (by decide) dX6_leastBetween_47 ?_
          exact hk5 _ _ _ _ _ hf
set_option maxRecDepth 100000 in
set_option maxHeartbeats 4000000 in
theorem c_X6_leastBetween {l : Launch} {D : va_G} {cI cS : ClassId} {A : Nat → Prop} {a : Nat → Nat} {rest : va_W}  {σ : Nat → Nat → Int32} {x1 : Int32} {x2 : Int32} {r : Int32} (hf : f_X6_leastBetween σ x1 x2 = some r) : CT l yX6_leastBetween cX6_leastBetween 5 (some .int) (rmF 0 0) D cI cS A [.ref (a 5), .int x1, .int x2] (wC a cI σ rest) (wC a cI σ rest) (some (.int r)) := by
  refine CT_of (own := RX6) (xs := [some (.ref (a 5)), some (.int x1), some (.int x2), none, none]) (by decide) rfl (Nat.le_of_ble_eq_true rfl) rfl ?_
  intro p e s_ m below meth c C
  unfold f_X6_leastBetween at hf
  refine j_iload_n C dX6_leastBetween_0 rfl ?_
  refine j_istore_n C (xs' := [some (.ref (a 5)), some (.int x1), some (.int x2), some (.int x2), none]) dX6_leastBetween_1 rfl rfl ?_
  refine j_iconst C ic_0 dX6_leastBetween_2 ?_
  refine j_istore C (xs' := [some (.ref (a 5)), some (.int x1), some (.int x2), some (.int x2), some (.int (0 : Int32))]) dX6_leastBetween_3 rfl rfl ?_
  refine j_weak [true, true, false, true, true] rfl ?_
  exact w_X6_leastBetween_5 C  _ _ _ _ _ _ hf
set_option maxRecDepth 100000 in
set_option maxHeartbeats 4000000 in
theorem w_X6_splitKeyBetween_28 {p : Program} {l : Launch} {e : Env} {s_ : State} {m : MethodId} {args : Array Value} {below : List Frame} {meth : Method} {c : Code} {D : va_G} {cI cS : ClassId} {A : Nat → Prop} {a : Nat → Nat} {rest : va_W}  (C : cx p s_ m args meth c cX6_splitKeyBetween 7 RX6 (some .int) D cI cS)  : ∀ (n_ : Nat) (σ : Nat → Nat → Int32) (x1 : Int32) (x2 : Int32) (x3 : Int32) (x4 : Int32) (x5 : Int32) (x6 : Int32) (r : Int32), f_X6_splitKeyBetween_28  n_ σ x1 x2 x3 x4 x5 x6 = some r → jG p l e (rmF 1 24) s_ m args below meth c 7 D A (MQ below (QW D A (wC a cI σ rest) (some (.int r))) args s_ 0 0 A) (wC a cI σ rest) [some (.ref (a 5)), some (.int x1), some (.int x2), some (.int x3), some (.int x4), some (.int x5), some (.int x6)] 28 [] := by
  intro n_
  induction n_ with
  | zero =>
    intro σ x1 x2 x3 x4 x5 x6 r hf
    rw [f_X6_splitKeyBetween_28] at hf
    cases hf
  | succ n_ hk28 =>
    intro σ x1 x2 x3 x4 x5 x6 r hf
    rw [f_X6_splitKeyBetween_28] at hf
    refine j_iload C dX6_splitKeyBetween_28 rfl ?_
    refine j_bipush C bp_32 dX6_splitKeyBetween_30 ?_
    refine j_icmp_ge C (tgt := 78) (by decide) dX6_splitKeyBetween_32 (fun h7 => ?_) (fun h7 => ?_)
    · replace hf := it_t h7 hf
      refine j_iload C dX6_splitKeyBetween_78 rfl ?_
      cases hf
      exact j_iret C dX6_splitKeyBetween_80
    · replace hf := it_f h7 hf
      refine j_iload C dX6_splitKeyBetween_35 rfl ?_
      refine j_iload_n C dX6_splitKeyBetween_37 rfl ?_
      refine j_icmp_ge C (tgt := 78) (by decide) dX6_splitKeyBetween_38 (fun h8 => ?_) (fun h8 => ?_)
      · replace hf := it_t h8 hf
        refine j_iload C dX6_splitKeyBetween_78 rfl ?_
        cases hf
        exact j_iret C dX6_splitKeyBetween_80
      · replace hf := it_f h8 hf
        refine j_iload C dX6_splitKeyBetween_41 rfl ?_
        refine j_istore C (xs' := [some (.ref (a 5)), some (.int x1), some (.int x2), some (.int x3), some (.int x5), some (.int x5), some (.int x6)]) dX6_splitKeyBetween_43 rfl rfl ?_
        refine j_iconst C ic_2 dX6_splitKeyBetween_45 ?_
        refine j_aload_n C dX6_splitKeyBetween_46 rfl ?_
        refine j_iload_n C dX6_splitKeyBetween_47 rfl ?_
        refine j_iload C dX6_splitKeyBetween_48 rfl ?_
        replace hf := bd hf
        obtain ⟨v9, h10, hf⟩ := hf
        refine j_callV C cl_X6_25 (c_X6_countBetween h10) ⟨Nat.le_of_ble_eq_true rfl, Nat.le_of_ble_eq_true rfl⟩ ⟨Nat.zero_le _, Nat.zero_le _⟩ (q0 := 5) rfl rfl rfl rfl (Nat.le_of_ble_eq_true rfl) rfl rfl rfl dX6_splitKeyBetween_50 ?_
        refine j_imul C dX6_splitKeyBetween_53 ?_
        refine j_iload_n C dX6_splitKeyBetween_54 rfl ?_
        refine j_icmp_lt C (tgt := 61) (by decide) dX6_splitKeyBetween_55 (fun h11 => ?_) (fun h11 => ?_)
        · replace hf := it_t h11 hf
          refine j_aload_n C dX6_splitKeyBetween_61 rfl ?_
          refine j_iload C dX6_splitKeyBetween_62 rfl ?_
          refine j_iconst C ic_1 dX6_splitKeyBetween_64 ?_
          refine j_iadd C dX6_splitKeyBetween_65 ?_
          refine j_iload_n C dX6_splitKeyBetween_66 rfl ?_
          replace hf := bd hf
          obtain ⟨v12, h13, hf⟩ := hf
          refine j_callV C cl_X6_29 (c_X6_leastBetween h13) ⟨Nat.le_of_ble_eq_true rfl, Nat.le_of_ble_eq_true rfl⟩ ⟨Nat.zero_le _, Nat.zero_le _⟩ (q0 := 5) rfl rfl rfl rfl (Nat.le_of_ble_eq_true rfl) rfl rfl rfl dX6_splitKeyBetween_67 ?_
          refine j_istore C (xs' := [some (.ref (a 5)), some (.int x1), some (.int x2), some (.int x3), some (.int x5), some (.int v12), some (.int x6)]) dX6_splitKeyBetween_70 rfl rfl ?_
          refine j_iinc C (xs' := [some (.ref (a 5)), some (.int x1), some (.int x2), some (.int x3), some (.int x5), some (.int v12), some (.int (x6 + (1 : Int32)))]) dX6_splitKeyBetween_72 rfl (ii_1 _) rfl rfl ?_
          refine j_goto C (tgt := 28) (by decide) dX6_splitKeyBetween_75 ?_
          exact hk28 _ _ _ _ _ _ _ _ hf
        · replace hf := it_f h11 hf
          refine j_iload C dX6_splitKeyBetween_58 rfl ?_
          cases hf
          exact j_iret C dX6_splitKeyBetween_60
set_option maxRecDepth 100000 in
set_option maxHeartbeats 4000000 in
theorem c_X6_splitKeyBetween {l : Launch} {D : va_G} {cI cS : ClassId} {A : Nat → Prop} {a : Nat → Nat} {rest : va_W}  {σ : Nat → Nat → Int32} {x1 : Int32} {x2 : Int32} {r : Int32} (hf : f_X6_splitKeyBetween σ x1 x2 = some r) : CT l yX6_splitKeyBetween cX6_splitKeyBetween 7 (some .int) (rmF 1 24) D cI cS A [.ref (a 5), .int x1, .int x2] (wC a cI σ rest) (wC a cI σ rest) (some (.int r)) := by
  refine CT_of (own := RX6) (xs := [some (.ref (a 5)), some (.int x1), some (.int x2), none, none, none, none]) (by decide) rfl (Nat.le_of_ble_eq_true rfl) rfl ?_
  intro p e s_ m below meth c C
  unfold f_X6_splitKeyBetween at hf
  refine j_aload_n C dX6_splitKeyBetween_0 rfl ?_
  refine j_iload_n C dX6_splitKeyBetween_1 rfl ?_
  refine j_iload_n C dX6_splitKeyBetween_2 rfl ?_
  replace hf := bd hf
  obtain ⟨v1, h2, hf⟩ := hf
  refine j_callV C cl_X6_25 (c_X6_countBetween h2) ⟨Nat.le_of_ble_eq_true rfl, Nat.le_of_ble_eq_true rfl⟩ ⟨Nat.zero_le _, Nat.zero_le _⟩ (q0 := 5) rfl rfl rfl rfl (Nat.le_of_ble_eq_true rfl) rfl rfl rfl dX6_splitKeyBetween_3 ?_
  refine j_istore_n C (xs' := [some (.ref (a 5)), some (.int x1), some (.int x2), some (.int v1), none, none, none]) dX6_splitKeyBetween_6 rfl rfl ?_
  refine j_iconst C ic_m1 dX6_splitKeyBetween_7 ?_
  refine j_istore C (xs' := [some (.ref (a 5)), some (.int x1), some (.int x2), some (.int v1), some (.int (-1 : Int32)), none, none]) dX6_splitKeyBetween_8 rfl rfl ?_
  refine j_aload_n C dX6_splitKeyBetween_10 rfl ?_
  refine j_aload_n C dX6_splitKeyBetween_11 rfl ?_
  refine j_iload_n C dX6_splitKeyBetween_12 rfl ?_
  refine j_iload_n C dX6_splitKeyBetween_13 rfl ?_
  replace hf := bd hf
  obtain ⟨v3, h4, hf⟩ := hf
  refine j_callV C cl_X6_29 (c_X6_leastBetween h4) ⟨Nat.le_of_ble_eq_true rfl, Nat.le_of_ble_eq_true rfl⟩ ⟨Nat.zero_le _, Nat.zero_le _⟩ (q0 := 5) rfl rfl rfl rfl (Nat.le_of_ble_eq_true rfl) rfl rfl rfl dX6_splitKeyBetween_14 ?_
  refine j_iconst C ic_1 dX6_splitKeyBetween_17 ?_
  refine j_iadd C dX6_splitKeyBetween_18 ?_
  refine j_iload_n C dX6_splitKeyBetween_19 rfl ?_
  replace hf := bd hf
  obtain ⟨v5, h6, hf⟩ := hf
  refine j_callV C cl_X6_29 (c_X6_leastBetween h6) ⟨Nat.le_of_ble_eq_true rfl, Nat.le_of_ble_eq_true rfl⟩ ⟨Nat.zero_le _, Nat.zero_le _⟩ (q0 := 5) rfl rfl rfl rfl (Nat.le_of_ble_eq_true rfl) rfl rfl rfl dX6_splitKeyBetween_20 ?_
  refine j_istore C (xs' := [some (.ref (a 5)), some (.int x1), some (.int x2), some (.int v1), some (.int (-1 : Int32)), some (.int v5), none]) dX6_splitKeyBetween_23 rfl rfl ?_
  refine j_iconst C ic_0 dX6_splitKeyBetween_25 ?_
  refine j_istore C (xs' := [some (.ref (a 5)), some (.int x1), some (.int x2), some (.int v1), some (.int (-1 : Int32)), some (.int v5), some (.int (0 : Int32))]) dX6_splitKeyBetween_26 rfl rfl ?_
  exact w_X6_splitKeyBetween_28 C  _ _ _ _ _ _ _ _ _ hf
set_option maxRecDepth 100000 in
set_option maxHeartbeats 4000000 in
theorem c_X0_loadSplitKey {l : Launch} {D : va_G} {cI cS : ClassId} {A : Nat → Prop} {a : Nat → Nat} {rest : va_W}  {σ : Nat → Nat → Int32} {x1 : Int32} {r : Int32} (hf : f_X0_loadSplitKey σ x1 = some r) : CT l yX0_loadSplitKey cX0_loadSplitKey 2 (some .int) (rmF 2 50) D cI cS A [.ref (a 0), .int x1] (wC a cI σ rest) (wC a cI σ rest) (some (.int r)) := by
  refine CT_of (own := RX0) (xs := [some (.ref (a 0)), some (.int x1)]) (by decide) rfl (Nat.le_of_ble_eq_true rfl) rfl ?_
  intro p e s_ m below meth c C
  unfold f_X0_loadSplitKey at hf
  refine j_aload_n C dX0_loadSplitKey_0 rfl ?_
  refine gf_X0_42 C dX0_loadSplitKey_1 ?_
  refine j_aload_n C dX0_loadSplitKey_4 rfl ?_
  refine gf_X0_28 C dX0_loadSplitKey_5 ?_
  refine gf_X0_50 C dX0_loadSplitKey_8 ?_
  refine j_iload_n C dX0_loadSplitKey_11 rfl ?_
  replace hf := ld_s hf
  obtain ⟨v1, h2, e_v1, hf⟩ := hf
  refine aLC_9 C h2 e_v1 dX0_loadSplitKey_12 ?_
  refine j_aload_n C dX0_loadSplitKey_13 rfl ?_
  refine gf_X0_28 C dX0_loadSplitKey_14 ?_
  refine j_iload_n C dX0_loadSplitKey_17 rfl ?_
  replace hf := bd hf
  obtain ⟨v3, h4, hf⟩ := hf
  refine j_callV C cl_X0_53 (c_X5_endOf h4) ⟨Nat.le_of_ble_eq_true rfl, Nat.le_of_ble_eq_true rfl⟩ ⟨Nat.zero_le _, Nat.zero_le _⟩ (q0 := 3) rfl rfl rfl rfl (Nat.le_of_ble_eq_true rfl) rfl rfl rfl dX0_loadSplitKey_18 ?_
  replace hf := bd hf
  obtain ⟨v5, h6, hf⟩ := hf
  refine j_callV C cl_X0_67 (c_X6_splitKeyBetween h6) ⟨Nat.le_of_ble_eq_true rfl, Nat.le_of_ble_eq_true rfl⟩ ⟨Nat.zero_le _, Nat.zero_le _⟩ (q0 := 5) rfl rfl rfl rfl (Nat.le_of_ble_eq_true rfl) rfl rfl rfl dX0_loadSplitKey_21 ?_
  cases hf
  exact j_iret C dX0_loadSplitKey_24
set_option maxRecDepth 100000 in
set_option maxHeartbeats 4000000 in
theorem c_X0_votersUp {l : Launch} {D : va_G} {cI cS : ClassId} {A : Nat → Prop} {a : Nat → Nat} {rest : va_W}  {σ : Nat → Nat → Int32} {x1 : Int32} {r : Int32} (hf : f_X0_votersUp σ x1 = some r) : CT l yX0_votersUp cX0_votersUp 2 (some .int) (rmF 0 0) D cI cS A [.ref (a 0), .int x1] (wC a cI σ rest) (wC a cI σ rest) (some (.int r)) := by
  refine CT_of (own := RX0) (xs := [some (.ref (a 0)), some (.int x1)]) (by decide) rfl (Nat.le_of_ble_eq_true rfl) rfl ?_
  intro p e s_ m below meth c C
  unfold f_X0_votersUp at hf
  refine j_aload_n C dX0_votersUp_0 rfl ?_
  refine gf_X0_28 C dX0_votersUp_1 ?_
  refine gf_X0_68 C dX0_votersUp_4 ?_
  refine j_iload_n C dX0_votersUp_7 rfl ?_
  replace hf := ld_s hf
  obtain ⟨v1, h2, e_v1, hf⟩ := hf
  refine aLC_10 C h2 e_v1 dX0_votersUp_8 ?_
  refine j_aload_n C dX0_votersUp_9 rfl ?_
  refine gf_X0_21 C dX0_votersUp_10 ?_
  refine gf_X0_71 C dX0_votersUp_13 ?_
  refine j_iand C dX0_votersUp_16 ?_
  cases hf
  exact j_iret C dX0_votersUp_17
set_option maxRecDepth 100000 in
set_option maxHeartbeats 4000000 in
theorem c_X0_votersDown {l : Launch} {D : va_G} {cI cS : ClassId} {A : Nat → Prop} {a : Nat → Nat} {rest : va_W}  {σ : Nat → Nat → Int32} {x1 : Int32} {r : Int32} (hf : f_X0_votersDown σ x1 = some r) : CT l yX0_votersDown cX0_votersDown 2 (some .int) (rmF 0 0) D cI cS A [.ref (a 0), .int x1] (wC a cI σ rest) (wC a cI σ rest) (some (.int r)) := by
  refine CT_of (own := RX0) (xs := [some (.ref (a 0)), some (.int x1)]) (by decide) rfl (Nat.le_of_ble_eq_true rfl) rfl ?_
  intro p e s_ m below meth c C
  unfold f_X0_votersDown at hf
  refine j_aload_n C dX0_votersDown_0 rfl ?_
  refine gf_X0_28 C dX0_votersDown_1 ?_
  refine gf_X0_68 C dX0_votersDown_4 ?_
  refine j_iload_n C dX0_votersDown_7 rfl ?_
  replace hf := ld_s hf
  obtain ⟨v1, h2, e_v1, hf⟩ := hf
  refine aLC_10 C h2 e_v1 dX0_votersDown_8 ?_
  refine j_aload_n C dX0_votersDown_9 rfl ?_
  refine gf_X0_21 C dX0_votersDown_10 ?_
  refine gf_X0_71 C dX0_votersDown_13 ?_
  refine j_iconst C ic_m1 dX0_votersDown_16 ?_
  refine j_ixor C dX0_votersDown_17 ?_
  refine j_iand C dX0_votersDown_18 ?_
  cases hf
  exact j_iret C dX0_votersDown_19
set_option maxRecDepth 100000 in
set_option maxHeartbeats 4000000 in
theorem c_X0_hasQuorum {l : Launch} {D : va_G} {cI cS : ClassId} {A : Nat → Prop} {a : Nat → Nat} {rest : va_W}  {σ : Nat → Nat → Int32} {x1 : Int32} {r : Int32} (hf : f_X0_hasQuorum σ x1 = some r) : CT l yX0_hasQuorum cX0_hasQuorum 2 (some .boolean) (rmF 1 21) D cI cS A [.ref (a 0), .int x1] (wC a cI σ rest) (wC a cI σ rest) (some (.int r)) := by
  refine CT_of (own := RX0) (xs := [some (.ref (a 0)), some (.int x1)]) (by decide) rfl (Nat.le_of_ble_eq_true rfl) rfl ?_
  intro p e s_ m below meth c C
  unfold f_X0_hasQuorum at hf
  refine j_iconst C ic_2 dX0_hasQuorum_0 ?_
  refine j_aload_n C dX0_hasQuorum_1 rfl ?_
  refine j_iload_n C dX0_hasQuorum_2 rfl ?_
  replace hf := bd hf
  obtain ⟨v1, h2, hf⟩ := hf
  refine j_callV C cl_X0_75 (c_X0_votersUp h2) ⟨Nat.le_of_ble_eq_true rfl, Nat.le_of_ble_eq_true rfl⟩ ⟨Nat.zero_le _, Nat.zero_le _⟩ (q0 := 0) rfl rfl rfl rfl (Nat.le_of_ble_eq_true rfl) rfl rfl rfl dX0_hasQuorum_3 ?_
  replace hf := bd hf
  obtain ⟨v3, h4, hf⟩ := hf
  refine j_callS C cl_X0_78 (c_J6_bitCount_0f7a4 h4) ⟨Nat.le_of_ble_eq_true rfl, Nat.le_of_ble_eq_true rfl⟩ ⟨Nat.zero_le _, Nat.zero_le _⟩ rfl (Nat.le_of_ble_eq_true rfl) rfl rfl rfl dX0_hasQuorum_6 ?_
  refine j_imul C dX0_hasQuorum_9 ?_
  refine j_aload_n C dX0_hasQuorum_10 rfl ?_
  refine gf_X0_28 C dX0_hasQuorum_11 ?_
  refine gf_X0_68 C dX0_hasQuorum_14 ?_
  refine j_iload_n C dX0_hasQuorum_17 rfl ?_
  replace hf := ld_s hf
  obtain ⟨v5, h6, e_v5, hf⟩ := hf
  refine aLC_10 C h6 e_v5 dX0_hasQuorum_18 ?_
  replace hf := bd hf
  obtain ⟨v7, h8, hf⟩ := hf
  refine j_callS C cl_X0_78 (c_J6_bitCount_0f7a4 h8) ⟨Nat.le_of_ble_eq_true rfl, Nat.le_of_ble_eq_true rfl⟩ ⟨Nat.zero_le _, Nat.zero_le _⟩ rfl (Nat.le_of_ble_eq_true rfl) rfl rfl rfl dX0_hasQuorum_19 ?_
  refine j_icmp_le C (tgt := 29) (by decide) dX0_hasQuorum_22 (fun h9 => ?_) (fun h9 => ?_)
  · replace hf := it_t h9 hf
    refine j_iconst C ic_0 dX0_hasQuorum_29 ?_
    cases hf
    exact j_zret C zc_0 dX0_hasQuorum_30
  · replace hf := it_f h9 hf
    refine j_iconst C ic_1 dX0_hasQuorum_25 ?_
    refine j_goto C (tgt := 30) (by decide) dX0_hasQuorum_26 ?_
    cases hf
    exact j_zret C zc_1 dX0_hasQuorum_30
set_option maxRecDepth 100000 in
set_option maxHeartbeats 4000000 in
theorem w_X0_countAvailable_4 {p : Program} {l : Launch} {e : Env} {s_ : State} {m : MethodId} {args : Array Value} {below : List Frame} {meth : Method} {c : Code} {D : va_G} {cI cS : ClassId} {A : Nat → Prop} {a : Nat → Nat} {rest : va_W}  (C : cx p s_ m args meth c cX0_countAvailable 3 RX0 (some .int) D cI cS)  : ∀ (n_ : Nat) (σ : Nat → Nat → Int32) (x1 : Int32) (x2 : Int32) (r : Int32), f_X0_countAvailable_4  n_ σ x1 x2 = some r → jG p l e (rmF 2 42) s_ m args below meth c 3 D A (MQ below (QW D A (wC a cI σ rest) (some (.int r))) args s_ 0 0 A) (wC a cI σ rest) [some (.ref (a 0)), some (.int x1), some (.int x2)] 4 [] := by
  intro n_
  induction n_ with
  | zero =>
    intro σ x1 x2 r hf
    rw [f_X0_countAvailable_4] at hf
    cases hf
  | succ n_ hk4 =>
    intro σ x1 x2 r hf
    rw [f_X0_countAvailable_4] at hf
    refine j_iload_n C dX0_countAvailable_4 rfl ?_
    refine j_aload_n C dX0_countAvailable_5 rfl ?_
    refine gf_X0_28 C dX0_countAvailable_6 ?_
    refine gf_X0_83 C dX0_countAvailable_9 ?_
    refine j_icmp_ge C (tgt := 32) (by decide) dX0_countAvailable_12 (fun h1 => ?_) (fun h1 => ?_)
    · replace hf := it_t h1 hf
      refine j_iload_n C dX0_countAvailable_32 rfl ?_
      cases hf
      exact j_iret C dX0_countAvailable_33
    · replace hf := it_f h1 hf
      refine j_aload_n C dX0_countAvailable_15 rfl ?_
      refine j_iload_n C dX0_countAvailable_16 rfl ?_
      replace hf := bd hf
      obtain ⟨v2, h3, hf⟩ := hf
      refine j_callV C cl_X0_86 (c_X0_hasQuorum h3) ⟨Nat.le_of_ble_eq_true rfl, Nat.le_of_ble_eq_true rfl⟩ ⟨Nat.zero_le _, Nat.zero_le _⟩ (q0 := 0) rfl rfl rfl rfl (Nat.le_of_ble_eq_true rfl) rfl rfl rfl dX0_countAvailable_17 ?_
      refine j_if_eq C (tgt := 26) (by decide) dX0_countAvailable_20 (fun h4 => ?_) (fun h4 => ?_)
      · replace hf := it_t h4 hf
        refine j_iinc C (xs' := [some (.ref (a 0)), some (.int x1), some (.int (x2 + (1 : Int32)))]) dX0_countAvailable_26 rfl (ii_1 _) rfl rfl ?_
        refine j_goto C (tgt := 4) (by decide) dX0_countAvailable_29 ?_
        exact hk4 _ _ _ _ hf
      · replace hf := it_f h4 hf
        refine j_iinc C (xs' := [some (.ref (a 0)), some (.int (x1 + (1 : Int32))), some (.int x2)]) dX0_countAvailable_23 rfl (ii_1 _) rfl rfl ?_
        refine j_iinc C (xs' := [some (.ref (a 0)), some (.int (x1 + (1 : Int32))), some (.int (x2 + (1 : Int32)))]) dX0_countAvailable_26 rfl (ii_1 _) rfl rfl ?_
        refine j_goto C (tgt := 4) (by decide) dX0_countAvailable_29 ?_
        exact hk4 _ _ _ _ hf
set_option maxRecDepth 100000 in
set_option maxHeartbeats 4000000 in
theorem c_X0_countAvailable {l : Launch} {D : va_G} {cI cS : ClassId} {A : Nat → Prop} {a : Nat → Nat} {rest : va_W}  {σ : Nat → Nat → Int32}  {r : Int32} (hf : f_X0_countAvailable σ = some r) : CT l yX0_countAvailable cX0_countAvailable 3 (some .int) (rmF 2 42) D cI cS A [.ref (a 0)] (wC a cI σ rest) (wC a cI σ rest) (some (.int r)) := by
  refine CT_of (own := RX0) (xs := [some (.ref (a 0)), none, none]) (by decide) rfl (Nat.le_of_ble_eq_true rfl) rfl ?_
  intro p e s_ m below meth c C
  unfold f_X0_countAvailable at hf
  refine j_iconst C ic_0 dX0_countAvailable_0 ?_
  refine j_istore_n C (xs' := [some (.ref (a 0)), some (.int (0 : Int32)), none]) dX0_countAvailable_1 rfl rfl ?_
  refine j_iconst C ic_0 dX0_countAvailable_2 ?_
  refine j_istore_n C (xs' := [some (.ref (a 0)), some (.int (0 : Int32)), some (.int (0 : Int32))]) dX0_countAvailable_3 rfl rfl ?_
  exact w_X0_countAvailable_4 C  _ _ _ _ _ hf
set_option maxRecDepth 100000 in
set_option maxHeartbeats 4000000 in
theorem w_X5_ledBy_4 {p : Program} {l : Launch} {e : Env} {s_ : State} {m : MethodId} {args : Array Value} {below : List Frame} {meth : Method} {c : Code} {D : va_G} {cI cS : ClassId} {A : Nat → Prop} {a : Nat → Nat} {rest : va_W}  (C : cx p s_ m args meth c cX5_ledBy 4 RX5 (some .int) D cI cS)  : ∀ (n_ : Nat) (σ : Nat → Nat → Int32) (x1 : Int32) (x2 : Int32) (x3 : Int32) (r : Int32), f_X5_ledBy_4  n_ σ x1 x2 x3 = some r → jG p l e (rmF 0 0) s_ m args below meth c 4 D A (MQ below (QW D A (wC a cI σ rest) (some (.int r))) args s_ 0 0 A) (wC a cI σ rest) [some (.ref (a 3)), some (.int x1), some (.int x2), some (.int x3)] 4 [] := by
  intro n_
  induction n_ with
  | zero =>
    intro σ x1 x2 x3 r hf
    rw [f_X5_ledBy_4] at hf
    cases hf
  | succ n_ hk4 =>
    intro σ x1 x2 x3 r hf
    rw [f_X5_ledBy_4] at hf
    refine j_iload_n C dX5_ledBy_4 rfl ?_
    refine j_aload_n C dX5_ledBy_5 rfl ?_
    refine gf_X5_30 C dX5_ledBy_6 ?_
    refine j_icmp_ge C (tgt := 31) (by decide) dX5_ledBy_9 (fun h1 => ?_) (fun h1 => ?_)
    · replace hf := it_t h1 hf
      refine j_iload_n C dX5_ledBy_31 rfl ?_
      cases hf
      exact j_iret C dX5_ledBy_32
    · replace hf := it_f h1 hf
      refine j_aload_n C dX5_ledBy_12 rfl ?_
      refine gf_X5_18 C dX5_ledBy_13 ?_
      refine j_iload_n C dX5_ledBy_16 rfl ?_
      replace hf := ld_s hf
      obtain ⟨v2, h3, e_v2, hf⟩ := hf
      refine aLC_11 C h3 e_v2 dX5_ledBy_17 ?_
      refine j_iload_n C dX5_ledBy_18 rfl ?_
      refine j_icmp_ne C (tgt := 25) (by decide) dX5_ledBy_19 (fun h4 => ?_) (fun h4 => ?_)
      · replace hf := it_f h4 hf
        refine j_iinc C (xs' := [some (.ref (a 3)), some (.int x1), some (.int x2), some (.int (x3 + (1 : Int32)))]) dX5_ledBy_25 rfl (ii_1 _) rfl rfl ?_
        refine j_goto C (tgt := 4) (by decide) dX5_ledBy_28 ?_
        exact hk4 _ _ _ _ _ hf
      · replace hf := it_t h4 hf
        refine j_iinc C (xs' := [some (.ref (a 3)), some (.int x1), some (.int (x2 + (1 : Int32))), some (.int x3)]) dX5_ledBy_22 rfl (ii_1 _) rfl rfl ?_
        refine j_iinc C (xs' := [some (.ref (a 3)), some (.int x1), some (.int (x2 + (1 : Int32))), some (.int (x3 + (1 : Int32)))]) dX5_ledBy_25 rfl (ii_1 _) rfl rfl ?_
        refine j_goto C (tgt := 4) (by decide) dX5_ledBy_28 ?_
        exact hk4 _ _ _ _ _ hf
set_option maxRecDepth 100000 in
set_option maxHeartbeats 4000000 in
theorem c_X5_ledBy {l : Launch} {D : va_G} {cI cS : ClassId} {A : Nat → Prop} {a : Nat → Nat} {rest : va_W}  {σ : Nat → Nat → Int32} {x1 : Int32} {r : Int32} (hf : f_X5_ledBy σ x1 = some r) : CT l yX5_ledBy cX5_ledBy 4 (some .int) (rmF 0 0) D cI cS A [.ref (a 3), .int x1] (wC a cI σ rest) (wC a cI σ rest) (some (.int r)) := by
  refine CT_of (own := RX5) (xs := [some (.ref (a 3)), some (.int x1), none, none]) (by decide) rfl (Nat.le_of_ble_eq_true rfl) rfl ?_
  intro p e s_ m below meth c C
  unfold f_X5_ledBy at hf
  refine j_iconst C ic_0 dX5_ledBy_0 ?_
  refine j_istore_n C (xs' := [some (.ref (a 3)), some (.int x1), some (.int (0 : Int32)), none]) dX5_ledBy_1 rfl rfl ?_
  refine j_iconst C ic_0 dX5_ledBy_2 ?_
  refine j_istore_n C (xs' := [some (.ref (a 3)), some (.int x1), some (.int (0 : Int32)), some (.int (0 : Int32))]) dX5_ledBy_3 rfl rfl ?_
  exact w_X5_ledBy_4 C  _ _ _ _ _ _ hf
set_option maxRecDepth 100000 in
set_option maxHeartbeats 4000000 in
theorem w_X0_leastLeading_8 {p : Program} {l : Launch} {e : Env} {s_ : State} {m : MethodId} {args : Array Value} {below : List Frame} {meth : Method} {c : Code} {D : va_G} {cI cS : ClassId} {A : Nat → Prop} {a : Nat → Nat} {rest : va_W}  (C : cx p s_ m args meth c cX0_leastLeading 6 RX0 (some .int) D cI cS)  : ∀ (n_ : Nat) (σ : Nat → Nat → Int32) (x1 : Int32) (x2 : Int32) (x3 : Int32) (x4 : Int32) (r : Int32), f_X0_leastLeading_8  n_ σ x1 x2 x3 x4 = some r → jG p l e (rmF 1 23) s_ m args below meth c 6 D A (MQ below (QW D A (wC a cI σ rest) (some (.int r))) args s_ 0 0 A) (wC a cI σ rest) [some (.ref (a 0)), some (.int x1), some (.int x2), some (.int x3), some (.int x4), none] 8 [] := by
  intro n_
  induction n_ with
  | zero =>
    intro σ x1 x2 x3 x4 r hf
    rw [f_X0_leastLeading_8] at hf
    cases hf
  | succ n_ hk8 =>
    intro σ x1 x2 x3 x4 r hf
    rw [f_X0_leastLeading_8] at hf
    refine j_iload C dX0_leastLeading_8 rfl ?_
    refine j_aload_n C dX0_leastLeading_10 rfl ?_
    refine gf_X0_21 C dX0_leastLeading_11 ?_
    refine gf_X0_90 C dX0_leastLeading_14 ?_
    refine j_icmp_ge C (tgt := 59) (by decide) dX0_leastLeading_17 (fun h1 => ?_) (fun h1 => ?_)
    · replace hf := it_t h1 hf
      refine j_iload_n C dX0_leastLeading_59 rfl ?_
      cases hf
      exact j_iret C dX0_leastLeading_60
    · replace hf := it_f h1 hf
      refine j_iload_n C dX0_leastLeading_20 rfl ?_
      refine j_iload C dX0_leastLeading_21 rfl ?_
      replace hf := bd hf
      obtain ⟨v2, h3, hf⟩ := hf
      refine j_callSN C cl_X0_91 (c_X8_bit h3) ⟨Nat.le_of_ble_eq_true rfl, Nat.le_of_ble_eq_true rfl⟩ ⟨Nat.zero_le _, Nat.zero_le _⟩ rfl (Nat.le_of_ble_eq_true rfl) rfl rfl rfl dX0_leastLeading_23 ?_
      refine j_iand C dX0_leastLeading_26 ?_
      refine j_if_eq C (tgt := 53) (by decide) dX0_leastLeading_27 (fun h4 => ?_) (fun h4 => ?_)
      · replace hf := it_t h4 hf
        refine j_iinc C (xs' := [some (.ref (a 0)), some (.int x1), some (.int x2), some (.int x3), some (.int (x4 + (1 : Int32))), none]) dX0_leastLeading_53 rfl (ii_1 _) rfl rfl ?_
        refine j_goto C (tgt := 8) (by decide) dX0_leastLeading_56 ?_
        exact hk8 _ _ _ _ _ _ hf
      · replace hf := it_f h4 hf
        refine j_aload_n C dX0_leastLeading_30 rfl ?_
        refine gf_X0_28 C dX0_leastLeading_31 ?_
        refine j_iload C dX0_leastLeading_34 rfl ?_
        replace hf := bd hf
        obtain ⟨v5, h6, hf⟩ := hf
        refine j_callV C cl_X0_94 (c_X5_ledBy h6) ⟨Nat.le_of_ble_eq_true rfl, Nat.le_of_ble_eq_true rfl⟩ ⟨Nat.zero_le _, Nat.zero_le _⟩ (q0 := 3) rfl rfl rfl rfl (Nat.le_of_ble_eq_true rfl) rfl rfl rfl dX0_leastLeading_36 ?_
        refine j_istore C (xs' := [some (.ref (a 0)), some (.int x1), some (.int x2), some (.int x3), some (.int x4), some (.int v5)]) dX0_leastLeading_39 rfl rfl ?_
        refine j_iload C dX0_leastLeading_41 rfl ?_
        refine j_iload_n C dX0_leastLeading_43 rfl ?_
        refine j_icmp_ge C (tgt := 53) (by decide) dX0_leastLeading_44 (fun h7 => ?_) (fun h7 => ?_)
        · replace hf := it_t h7 hf
          refine j_iinc C (xs' := [some (.ref (a 0)), some (.int x1), some (.int x2), some (.int x3), some (.int (x4 + (1 : Int32))), some (.int v5)]) dX0_leastLeading_53 rfl (ii_1 _) rfl rfl ?_
          refine j_goto C (tgt := 8) (by decide) dX0_leastLeading_56 ?_
          refine j_weak [true, true, true, true, true, false] rfl ?_
          exact hk8 _ _ _ _ _ _ hf
        · replace hf := it_f h7 hf
          refine j_iload C dX0_leastLeading_47 rfl ?_
          refine j_istore_n C (xs' := [some (.ref (a 0)), some (.int x1), some (.int x4), some (.int x3), some (.int x4), some (.int v5)]) dX0_leastLeading_49 rfl rfl ?_
          refine j_iload C dX0_leastLeading_50 rfl ?_
          refine j_istore_n C (xs' := [some (.ref (a 0)), some (.int x1), some (.int x4), some (.int v5), some (.int x4), some (.int v5)]) dX0_leastLeading_52 rfl rfl ?_
          refine j_iinc C (xs' := [some (.ref (a 0)), some (.int x1), some (.int x4), some (.int v5), some (.int (x4 + (1 : Int32))), some (.int v5)]) dX0_leastLeading_53 rfl (ii_1 _) rfl rfl ?_
          refine j_goto C (tgt := 8) (by decide) dX0_leastLeading_56 ?_
          refine j_weak [true, true, true, true, true, false] rfl ?_
          exact hk8 _ _ _ _ _ _ hf
set_option maxRecDepth 100000 in
set_option maxHeartbeats 4000000 in
theorem c_X0_leastLeading {l : Launch} {D : va_G} {cI cS : ClassId} {A : Nat → Prop} {a : Nat → Nat} {rest : va_W}  {σ : Nat → Nat → Int32} {x1 : Int32} {r : Int32} (hf : f_X0_leastLeading σ x1 = some r) : CT l yX0_leastLeading cX0_leastLeading 6 (some .int) (rmF 1 23) D cI cS A [.ref (a 0), .int x1] (wC a cI σ rest) (wC a cI σ rest) (some (.int r)) := by
  refine CT_of (own := RX0) (xs := [some (.ref (a 0)), some (.int x1), none, none, none, none]) (by decide) rfl (Nat.le_of_ble_eq_true rfl) rfl ?_
  intro p e s_ m below meth c C
  unfold f_X0_leastLeading at hf
  refine j_iconst C ic_m1 dX0_leastLeading_0 ?_
  refine j_istore_n C (xs' := [some (.ref (a 0)), some (.int x1), some (.int (-1 : Int32)), none, none, none]) dX0_leastLeading_1 rfl rfl ?_
  refine j_bipush C bp_17 dX0_leastLeading_2 ?_
  refine j_istore_n C (xs' := [some (.ref (a 0)), some (.int x1), some (.int (-1 : Int32)), some (.int (17 : Int32)), none, none]) dX0_leastLeading_4 rfl rfl ?_
  refine j_iconst C ic_0 dX0_leastLeading_5 ?_
  refine j_istore C (xs' := [some (.ref (a 0)), some (.int x1), some (.int (-1 : Int32)), some (.int (17 : Int32)), some (.int (0 : Int32)), none]) dX0_leastLeading_6 rfl rfl ?_
  exact w_X0_leastLeading_8 C  _ _ _ _ _ _ _ hf
set_option maxRecDepth 100000 in
set_option maxHeartbeats 4000000 in
theorem c_X0_elect {l : Launch} {D : va_G} {cI cS : ClassId} {A : Nat → Prop} {a : Nat → Nat} {rest : va_W}  {σ : Nat → Nat → Int32} {x1 : Int32} {r : (Nat → Nat → Int32)} (hf : f_X0_elect σ x1 = some r) : CT l yX0_elect cX0_elect 2 none (rmF 2 48) D cI cS A [.ref (a 0), .int x1] (wC a cI σ rest) (wC a cI r rest) none := by
  refine CT_of (own := RX0) (xs := [some (.ref (a 0)), some (.int x1)]) (by decide) rfl (Nat.le_of_ble_eq_true rfl) rfl ?_
  intro p e s_ m below meth c C
  unfold f_X0_elect at hf
  refine j_aload_n C dX0_elect_0 rfl ?_
  refine gf_X0_28 C dX0_elect_1 ?_
  refine gf_X0_97 C dX0_elect_4 ?_
  refine j_iload_n C dX0_elect_7 rfl ?_
  refine j_iconst C ic_m1 dX0_elect_8 ?_
  replace hf := sd_s hf
  obtain ⟨h1, hf⟩ := hf
  refine aSC_11 C h1 dX0_elect_9 ?_
  refine j_aload_n C dX0_elect_10 rfl ?_
  refine j_iload_n C dX0_elect_11 rfl ?_
  replace hf := bd hf
  obtain ⟨v2, h3, hf⟩ := hf
  refine j_callV C cl_X0_86 (c_X0_hasQuorum h3) ⟨Nat.le_of_ble_eq_true rfl, Nat.le_of_ble_eq_true rfl⟩ ⟨Nat.zero_le _, Nat.zero_le _⟩ (q0 := 0) rfl rfl rfl rfl (Nat.le_of_ble_eq_true rfl) rfl rfl rfl dX0_elect_12 ?_
  refine j_if_eq C (tgt := 36) (by decide) dX0_elect_15 (fun h4 => ?_) (fun h4 => ?_)
  · replace hf := it_t h4 hf
    cases hf
    exact j_vret C dX0_elect_36
  · replace hf := it_f h4 hf
    refine j_aload_n C dX0_elect_18 rfl ?_
    refine gf_X0_28 C dX0_elect_19 ?_
    refine gf_X0_97 C dX0_elect_22 ?_
    refine j_iload_n C dX0_elect_25 rfl ?_
    refine j_aload_n C dX0_elect_26 rfl ?_
    refine j_aload_n C dX0_elect_27 rfl ?_
    refine j_iload_n C dX0_elect_28 rfl ?_
    replace hf := bd hf
    obtain ⟨v5, h6, hf⟩ := hf
    refine j_callV C cl_X0_75 (c_X0_votersUp h6) ⟨Nat.le_of_ble_eq_true rfl, Nat.le_of_ble_eq_true rfl⟩ ⟨Nat.zero_le _, Nat.zero_le _⟩ (q0 := 0) rfl rfl rfl rfl (Nat.le_of_ble_eq_true rfl) rfl rfl rfl dX0_elect_29 ?_
    replace hf := bd hf
    obtain ⟨v7, h8, hf⟩ := hf
    refine j_callV C cl_X0_100 (c_X0_leastLeading h8) ⟨Nat.le_of_ble_eq_true rfl, Nat.le_of_ble_eq_true rfl⟩ ⟨Nat.zero_le _, Nat.zero_le _⟩ (q0 := 0) rfl rfl rfl rfl (Nat.le_of_ble_eq_true rfl) rfl rfl rfl dX0_elect_32 ?_
    replace hf := sd_s hf
    obtain ⟨h9, hf⟩ := hf
    refine aSC_11 C h9 dX0_elect_35 ?_
    cases hf
    exact j_vret C dX0_elect_36
set_option maxRecDepth 100000 in
set_option maxHeartbeats 4000000 in
theorem w_X0_bringUp_18 {p : Program} {l : Launch} {e : Env} {s_ : State} {m : MethodId} {args : Array Value} {below : List Frame} {meth : Method} {c : Code} {D : va_G} {cI cS : ClassId} {A : Nat → Prop} {a : Nat → Nat} {rest : va_W}  (C : cx p s_ m args meth c cX0_bringUp 3 RX0 none D cI cS)  : ∀ (n_ : Nat) (σ : Nat → Nat → Int32) (x2 : Int32) (r : (Nat → Nat → Int32)), f_X0_bringUp_18  n_ σ x2 = some r → jG p l e (rmF 3 69) s_ m args below meth c 3 D A (MQ below (QW D A (wC a cI r rest) none) args s_ 0 0 A) (wC a cI σ rest) [some (.ref (a 0)), none, some (.int x2)] 18 [] := by
  intro n_
  induction n_ with
  | zero =>
    intro σ x2 r hf
    rw [f_X0_bringUp_18] at hf
    cases hf
  | succ n_ hk18 =>
    intro σ x2 r hf
    rw [f_X0_bringUp_18] at hf
    refine j_iload_n C dX0_bringUp_18 rfl ?_
    refine j_aload_n C dX0_bringUp_19 rfl ?_
    refine gf_X0_28 C dX0_bringUp_20 ?_
    refine gf_X0_83 C dX0_bringUp_23 ?_
    refine j_icmp_ge C (tgt := 53) (by decide) dX0_bringUp_26 (fun h3 => ?_) (fun h3 => ?_)
    · replace hf := it_t h3 hf
      cases hf
      exact j_vret C dX0_bringUp_53
    · replace hf := it_f h3 hf
      refine j_aload_n C dX0_bringUp_29 rfl ?_
      refine gf_X0_28 C dX0_bringUp_30 ?_
      refine gf_X0_97 C dX0_bringUp_33 ?_
      refine j_iload_n C dX0_bringUp_36 rfl ?_
      replace hf := ld_s hf
      obtain ⟨v4, h5, e_v4, hf⟩ := hf
      refine aLC_11 C h5 e_v4 dX0_bringUp_37 ?_
      refine j_iconst C ic_m1 dX0_bringUp_38 ?_
      refine j_icmp_ne C (tgt := 47) (by decide) dX0_bringUp_39 (fun h6 => ?_) (fun h6 => ?_)
      · replace hf := it_f h6 hf
        refine j_iinc C (xs' := [some (.ref (a 0)), none, some (.int (x2 + (1 : Int32)))]) dX0_bringUp_47 rfl (ii_1 _) rfl rfl ?_
        refine j_goto C (tgt := 18) (by decide) dX0_bringUp_50 ?_
        exact hk18 _ _ _ hf
      · replace hf := it_t h6 hf
        refine j_aload_n C dX0_bringUp_42 rfl ?_
        refine j_iload_n C dX0_bringUp_43 rfl ?_
        replace hf := bd hf
        obtain ⟨v7, h8, hf⟩ := hf
        refine j_callV C cl_X0_103 (c_X0_elect h8) ⟨Nat.le_of_ble_eq_true rfl, Nat.le_of_ble_eq_true rfl⟩ ⟨Nat.zero_le _, Nat.zero_le _⟩ (q0 := 0) rfl rfl rfl rfl (Nat.le_of_ble_eq_true rfl) rfl rfl wC_fst dX0_bringUp_44 ?_
        refine j_iinc C (xs' := [some (.ref (a 0)), none, some (.int (x2 + (1 : Int32)))]) dX0_bringUp_47 rfl (ii_1 _) rfl rfl ?_
        refine j_goto C (tgt := 18) (by decide) dX0_bringUp_50 ?_
        exact hk18 _ _ _ hf
set_option maxRecDepth 100000 in
set_option maxHeartbeats 4000000 in
theorem c_X0_bringUp {l : Launch} {D : va_G} {cI cS : ClassId} {A : Nat → Prop} {a : Nat → Nat} {rest : va_W}  {σ : Nat → Nat → Int32} {x1 : Int32} {r : (Nat → Nat → Int32)} (hf : f_X0_bringUp σ x1 = some r) : CT l yX0_bringUp cX0_bringUp 3 none (rmF 3 69) D cI cS A [.ref (a 0), .int x1] (wC a cI σ rest) (wC a cI r rest) none := by
  refine CT_of (own := RX0) (xs := [some (.ref (a 0)), some (.int x1), none]) (by decide) rfl (Nat.le_of_ble_eq_true rfl) rfl ?_
  intro p e s_ m below meth c C
  unfold f_X0_bringUp at hf
  refine j_aload_n C dX0_bringUp_0 rfl ?_
  refine gf_X0_21 C dX0_bringUp_1 ?_
  refine j_dup C dX0_bringUp_4 rfl ?_
  refine gf_X0_71 C dX0_bringUp_5 ?_
  refine j_iload_n C dX0_bringUp_8 rfl ?_
  replace hf := bd hf
  obtain ⟨v1, h2, hf⟩ := hf
  refine j_callSN C cl_X0_91 (c_X8_bit h2) ⟨Nat.le_of_ble_eq_true rfl, Nat.le_of_ble_eq_true rfl⟩ ⟨Nat.zero_le _, Nat.zero_le _⟩ rfl (Nat.le_of_ble_eq_true rfl) rfl rfl rfl dX0_bringUp_9 ?_
  refine j_ior C dX0_bringUp_12 ?_
  refine pf_X0_71 C dX0_bringUp_13 ?_
  refine j_iconst C ic_0 dX0_bringUp_16 ?_
  refine j_istore_n C (xs' := [some (.ref (a 0)), some (.int x1), some (.int (0 : Int32))]) dX0_bringUp_17 rfl rfl ?_
  refine j_weak [true, false, true] rfl ?_
  exact w_X0_bringUp_18 C  _ _ _ _ hf
set_option maxRecDepth 100000 in
set_option maxHeartbeats 4000000 in
theorem c_X5_setLearner {l : Launch} {D : va_G} {cI cS : ClassId} {A : Nat → Prop} {a : Nat → Nat} {rest : va_W}  {σ : Nat → Nat → Int32} {x1 : Int32} {x2 : Int32} {x3 : Int32} {x4 : Int32} {r : (Nat → Nat → Int32)} (hf : f_X5_setLearner σ x1 x2 x3 x4 = some r) : CT l yX5_setLearner cX5_setLearner 5 none (rmF 0 0) D cI cS A [.ref (a 3), .int x1, .int x2, .int x3, .int x4] (wC a cI σ rest) (wC a cI r rest) none := by
  refine CT_of (own := RX5) (xs := [some (.ref (a 3)), some (.int x1), some (.int x2), some (.int x3), some (.int x4)]) (by decide) rfl (Nat.le_of_ble_eq_true rfl) rfl ?_
  intro p e s_ m below meth c C
  unfold f_X5_setLearner at hf
  refine j_aload_n C dX5_setLearner_0 rfl ?_
  refine gf_X5_21 C dX5_setLearner_1 ?_
  refine j_iload_n C dX5_setLearner_4 rfl ?_
  refine j_iload_n C dX5_setLearner_5 rfl ?_
  replace hf := sd_s hf
  obtain ⟨h1, hf⟩ := hf
  refine aSC_12 C h1 dX5_setLearner_6 ?_
  refine j_aload_n C dX5_setLearner_7 rfl ?_
  refine gf_X5_24 C dX5_setLearner_8 ?_
  refine j_iload_n C dX5_setLearner_11 rfl ?_
  refine j_iload_n C dX5_setLearner_12 rfl ?_
  replace hf := sd_s hf
  obtain ⟨h2, hf⟩ := hf
  refine aSC_13 C h2 dX5_setLearner_13 ?_
  refine j_aload_n C dX5_setLearner_14 rfl ?_
  refine gf_X5_27 C dX5_setLearner_15 ?_
  refine j_iload_n C dX5_setLearner_18 rfl ?_
  refine j_iload C dX5_setLearner_19 rfl ?_
  replace hf := sd_s hf
  obtain ⟨h3, hf⟩ := hf
  refine aSC_14 C h3 dX5_setLearner_21 ?_
  cases hf
  exact j_vret C dX5_setLearner_22
set_option maxRecDepth 100000 in
set_option maxHeartbeats 4000000 in
theorem c_X5_clearLearner {l : Launch} {D : va_G} {cI cS : ClassId} {A : Nat → Prop} {a : Nat → Nat} {rest : va_W}  {σ : Nat → Nat → Int32} {x1 : Int32} {r : (Nat → Nat → Int32)} (hf : f_X5_clearLearner σ x1 = some r) : CT l yX5_clearLearner cX5_clearLearner 2 none (rmF 1 24) D cI cS A [.ref (a 3), .int x1] (wC a cI σ rest) (wC a cI r rest) none := by
  refine CT_of (own := RX5) (xs := [some (.ref (a 3)), some (.int x1)]) (by decide) rfl (Nat.le_of_ble_eq_true rfl) rfl ?_
  intro p e s_ m below meth c C
  unfold f_X5_clearLearner at hf
  refine j_aload_n C dX5_clearLearner_0 rfl ?_
  refine j_iload_n C dX5_clearLearner_1 rfl ?_
  refine j_iconst C ic_m1 dX5_clearLearner_2 ?_
  refine j_iconst C ic_0 dX5_clearLearner_3 ?_
  refine j_iconst C ic_m1 dX5_clearLearner_4 ?_
  replace hf := bd hf
  obtain ⟨v1, h2, hf⟩ := hf
  refine j_callV C cl_X5_38 (c_X5_setLearner h2) ⟨Nat.le_of_ble_eq_true rfl, Nat.le_of_ble_eq_true rfl⟩ ⟨Nat.zero_le _, Nat.zero_le _⟩ (q0 := 3) rfl rfl rfl rfl (Nat.le_of_ble_eq_true rfl) rfl rfl wC_fst dX5_clearLearner_5 ?_
  cases hf
  exact j_vret C dX5_clearLearner_8
set_option maxRecDepth 100000 in
set_option maxHeartbeats 4000000 in
theorem w_X0_takeDown_60 {p : Program} {l : Launch} {e : Env} {s_ : State} {m : MethodId} {args : Array Value} {below : List Frame} {meth : Method} {c : Code} {D : va_G} {cI cS : ClassId} {A : Nat → Prop} {a : Nat → Nat} {rest : va_W}  (C : cx p s_ m args meth c cX0_takeDown 3 RX0 none D cI cS)  : ∀ (n_ : Nat) (σ : Nat → Nat → Int32) (x1 : Int32) (x2 : Int32) (r : (Nat → Nat → Int32)), f_X0_takeDown_60  n_ σ x1 x2 = some r → jG p l e (rmF 3 69) s_ m args below meth c 3 D A (MQ below (QW D A (wC a cI r rest) none) args s_ 0 0 A) (wC a cI σ rest) [some (.ref (a 0)), some (.int x1), some (.int x2)] 60 [] := by
  intro n_
  induction n_ with
  | zero =>
    intro σ x1 x2 r hf
    rw [f_X0_takeDown_60] at hf
    cases hf
  | succ n_ hk60 =>
    intro σ x1 x2 r hf
    rw [f_X0_takeDown_60] at hf
    refine j_iload_n C dX0_takeDown_60 rfl ?_
    refine j_aload_n C dX0_takeDown_61 rfl ?_
    refine gf_X0_28 C dX0_takeDown_62 ?_
    refine gf_X0_83 C dX0_takeDown_65 ?_
    refine j_icmp_ge C (tgt := 116) (by decide) dX0_takeDown_68 (fun h4 => ?_) (fun h4 => ?_)
    · replace hf := it_t h4 hf
      cases hf
      exact j_vret C dX0_takeDown_116
    · replace hf := it_f h4 hf
      refine j_aload_n C dX0_takeDown_71 rfl ?_
      refine j_iload_n C dX0_takeDown_72 rfl ?_
      replace hf := bd hf
      obtain ⟨v5, h6, hf⟩ := hf
      refine j_callV C cl_X0_86 (c_X0_hasQuorum h6) ⟨Nat.le_of_ble_eq_true rfl, Nat.le_of_ble_eq_true rfl⟩ ⟨Nat.zero_le _, Nat.zero_le _⟩ (q0 := 0) rfl rfl rfl rfl (Nat.le_of_ble_eq_true rfl) rfl rfl rfl dX0_takeDown_73 ?_
      refine j_if_ne C (tgt := 92) (by decide) dX0_takeDown_76 (fun h7 => ?_) (fun h7 => ?_)
      · replace hf := it_f h7 hf
        refine j_aload_n C dX0_takeDown_92 rfl ?_
        refine gf_X0_28 C dX0_takeDown_93 ?_
        refine gf_X0_97 C dX0_takeDown_96 ?_
        refine j_iload_n C dX0_takeDown_99 rfl ?_
        replace hf := ld_s hf
        obtain ⟨v8, h9, e_v8, hf⟩ := hf
        refine aLC_11 C h9 e_v8 dX0_takeDown_100 ?_
        refine j_iload_n C dX0_takeDown_101 rfl ?_
        refine j_icmp_ne C (tgt := 110) (by decide) dX0_takeDown_102 (fun h10 => ?_) (fun h10 => ?_)
        · replace hf := it_f h10 hf
          refine j_iinc C (xs' := [some (.ref (a 0)), some (.int x1), some (.int (x2 + (1 : Int32)))]) dX0_takeDown_110 rfl (ii_1 _) rfl rfl ?_
          refine j_goto C (tgt := 60) (by decide) dX0_takeDown_113 ?_
          exact hk60 _ _ _ _ hf
        · replace hf := it_t h10 hf
          refine j_aload_n C dX0_takeDown_105 rfl ?_
          refine j_iload_n C dX0_takeDown_106 rfl ?_
          replace hf := bd hf
          obtain ⟨v11, h12, hf⟩ := hf
          refine j_callV C cl_X0_103 (c_X0_elect h12) ⟨Nat.le_of_ble_eq_true rfl, Nat.le_of_ble_eq_true rfl⟩ ⟨Nat.zero_le _, Nat.zero_le _⟩ (q0 := 0) rfl rfl rfl rfl (Nat.le_of_ble_eq_true rfl) rfl rfl wC_fst dX0_takeDown_107 ?_
          refine j_iinc C (xs' := [some (.ref (a 0)), some (.int x1), some (.int (x2 + (1 : Int32)))]) dX0_takeDown_110 rfl (ii_1 _) rfl rfl ?_
          refine j_goto C (tgt := 60) (by decide) dX0_takeDown_113 ?_
          exact hk60 _ _ _ _ hf
      · replace hf := it_t h7 hf
        refine j_aload_n C dX0_takeDown_79 rfl ?_
        refine gf_X0_28 C dX0_takeDown_80 ?_
        refine gf_X0_97 C dX0_takeDown_83 ?_
        refine j_iload_n C dX0_takeDown_86 rfl ?_
        refine j_iconst C ic_m1 dX0_takeDown_87 ?_
        replace hf := sd_s hf
        obtain ⟨h13, hf⟩ := hf
        refine aSC_11 C h13 dX0_takeDown_88 ?_
        refine j_goto C (tgt := 110) (by decide) dX0_takeDown_89 ?_
        refine j_iinc C (xs' := [some (.ref (a 0)), some (.int x1), some (.int (x2 + (1 : Int32)))]) dX0_takeDown_110 rfl (ii_1 _) rfl rfl ?_
        refine j_goto C (tgt := 60) (by decide) dX0_takeDown_113 ?_
        exact hk60 _ _ _ _ hf
set_option maxRecDepth 100000 in
set_option maxHeartbeats 4000000 in
theorem w_X0_takeDown_20 {p : Program} {l : Launch} {e : Env} {s_ : State} {m : MethodId} {args : Array Value} {below : List Frame} {meth : Method} {c : Code} {D : va_G} {cI cS : ClassId} {A : Nat → Prop} {a : Nat → Nat} {rest : va_W}  (C : cx p s_ m args meth c cX0_takeDown 3 RX0 none D cI cS)  : ∀ (n_ : Nat) (σ : Nat → Nat → Int32) (x1 : Int32) (x2 : Int32) (r : (Nat → Nat → Int32)), f_X0_takeDown_20  n_ σ x1 x2 = some r → jG p l e (rmF 3 69) s_ m args below meth c 3 D A (MQ below (QW D A (wC a cI r rest) none) args s_ 0 0 A) (wC a cI σ rest) [some (.ref (a 0)), some (.int x1), some (.int x2)] 20 [] := by
  intro n_
  induction n_ with
  | zero =>
    intro σ x1 x2 r hf
    rw [f_X0_takeDown_20] at hf
    cases hf
  | succ n_ hk20 =>
    intro σ x1 x2 r hf
    rw [f_X0_takeDown_20] at hf
    refine j_iload_n C dX0_takeDown_20 rfl ?_
    refine j_aload_n C dX0_takeDown_21 rfl ?_
    refine gf_X0_28 C dX0_takeDown_22 ?_
    refine gf_X0_83 C dX0_takeDown_25 ?_
    refine j_icmp_ge C (tgt := 58) (by decide) dX0_takeDown_28 (fun h3 => ?_) (fun h3 => ?_)
    · replace hf := it_t h3 hf
      refine j_iconst C ic_0 dX0_takeDown_58 ?_
      refine j_istore_n C (xs' := [some (.ref (a 0)), some (.int x1), some (.int (0 : Int32))]) dX0_takeDown_59 rfl rfl ?_
      exact w_X0_takeDown_60 C  _ _ _ _ _ hf
    · replace hf := it_f h3 hf
      refine j_aload_n C dX0_takeDown_31 rfl ?_
      refine gf_X0_28 C dX0_takeDown_32 ?_
      refine gf_X0_107 C dX0_takeDown_35 ?_
      refine j_iload_n C dX0_takeDown_38 rfl ?_
      replace hf := ld_s hf
      obtain ⟨v14, h15, e_v14, hf⟩ := hf
      refine aLC_12 C h15 e_v14 dX0_takeDown_39 ?_
      refine j_iload_n C dX0_takeDown_40 rfl ?_
      refine j_icmp_ne C (tgt := 52) (by decide) dX0_takeDown_41 (fun h16 => ?_) (fun h16 => ?_)
      · replace hf := it_f h16 hf
        refine j_iinc C (xs' := [some (.ref (a 0)), some (.int x1), some (.int (x2 + (1 : Int32)))]) dX0_takeDown_52 rfl (ii_1 _) rfl rfl ?_
        refine j_goto C (tgt := 20) (by decide) dX0_takeDown_55 ?_
        exact hk20 _ _ _ _ hf
      · replace hf := it_t h16 hf
        refine j_aload_n C dX0_takeDown_44 rfl ?_
        refine gf_X0_28 C dX0_takeDown_45 ?_
        refine j_iload_n C dX0_takeDown_48 rfl ?_
        replace hf := bd hf
        obtain ⟨v17, h18, hf⟩ := hf
        refine j_callV C cl_X0_110 (c_X5_clearLearner h18) ⟨Nat.le_of_ble_eq_true rfl, Nat.le_of_ble_eq_true rfl⟩ ⟨Nat.zero_le _, Nat.zero_le _⟩ (q0 := 3) rfl rfl rfl rfl (Nat.le_of_ble_eq_true rfl) rfl rfl wC_fst dX0_takeDown_49 ?_
        refine j_iinc C (xs' := [some (.ref (a 0)), some (.int x1), some (.int (x2 + (1 : Int32)))]) dX0_takeDown_52 rfl (ii_1 _) rfl rfl ?_
        refine j_goto C (tgt := 20) (by decide) dX0_takeDown_55 ?_
        exact hk20 _ _ _ _ hf
set_option maxRecDepth 100000 in
set_option maxHeartbeats 4000000 in
theorem c_X0_takeDown {l : Launch} {D : va_G} {cI cS : ClassId} {A : Nat → Prop} {a : Nat → Nat} {rest : va_W}  {σ : Nat → Nat → Int32} {x1 : Int32} {r : (Nat → Nat → Int32)} (hf : f_X0_takeDown σ x1 = some r) : CT l yX0_takeDown cX0_takeDown 3 none (rmF 3 69) D cI cS A [.ref (a 0), .int x1] (wC a cI σ rest) (wC a cI r rest) none := by
  refine CT_of (own := RX0) (xs := [some (.ref (a 0)), some (.int x1), none]) (by decide) rfl (Nat.le_of_ble_eq_true rfl) rfl ?_
  intro p e s_ m below meth c C
  unfold f_X0_takeDown at hf
  refine j_aload_n C dX0_takeDown_0 rfl ?_
  refine gf_X0_21 C dX0_takeDown_1 ?_
  refine j_dup C dX0_takeDown_4 rfl ?_
  refine gf_X0_71 C dX0_takeDown_5 ?_
  refine j_iload_n C dX0_takeDown_8 rfl ?_
  replace hf := bd hf
  obtain ⟨v1, h2, hf⟩ := hf
  refine j_callSN C cl_X0_91 (c_X8_bit h2) ⟨Nat.le_of_ble_eq_true rfl, Nat.le_of_ble_eq_true rfl⟩ ⟨Nat.zero_le _, Nat.zero_le _⟩ rfl (Nat.le_of_ble_eq_true rfl) rfl rfl rfl dX0_takeDown_9 ?_
  refine j_iconst C ic_m1 dX0_takeDown_12 ?_
  refine j_ixor C dX0_takeDown_13 ?_
  refine j_iand C dX0_takeDown_14 ?_
  refine pf_X0_71 C dX0_takeDown_15 ?_
  refine j_iconst C ic_0 dX0_takeDown_18 ?_
  refine j_istore_n C (xs' := [some (.ref (a 0)), some (.int x1), some (.int (0 : Int32))]) dX0_takeDown_19 rfl rfl ?_
  exact w_X0_takeDown_20 C  _ _ _ _ _ hf
set_option maxRecDepth 100000 in
set_option maxHeartbeats 4000000 in
theorem c_X4_isUp {l : Launch} {D : va_G} {cI cS : ClassId} {A : Nat → Prop} {a : Nat → Nat} {rest : va_W}  {σ : Nat → Nat → Int32} {x1 : Int32} {r : Int32} (hf : f_X4_isUp σ x1 = some r) : CT l yX4_isUp cX4_isUp 2 (some .boolean) (rmF 1 20) D cI cS A [.ref (a 2), .int x1] (wC a cI σ rest) (wC a cI σ rest) (some (.int r)) := by
  refine CT_of (own := RX4) (xs := [some (.ref (a 2)), some (.int x1)]) (by decide) rfl (Nat.le_of_ble_eq_true rfl) rfl ?_
  intro p e s_ m below meth c C
  unfold f_X4_isUp at hf
  refine j_aload_n C dX4_isUp_0 rfl ?_
  refine gf_X4_22 C dX4_isUp_1 ?_
  refine j_iload_n C dX4_isUp_4 rfl ?_
  replace hf := bd hf
  obtain ⟨v1, h2, hf⟩ := hf
  refine j_callSN C cl_X4_25 (c_X8_bit h2) ⟨Nat.le_of_ble_eq_true rfl, Nat.le_of_ble_eq_true rfl⟩ ⟨Nat.zero_le _, Nat.zero_le _⟩ rfl (Nat.le_of_ble_eq_true rfl) rfl rfl rfl dX4_isUp_5 ?_
  refine j_iand C dX4_isUp_8 ?_
  refine j_if_eq C (tgt := 16) (by decide) dX4_isUp_9 (fun h3 => ?_) (fun h3 => ?_)
  · replace hf := it_t h3 hf
    refine j_iconst C ic_0 dX4_isUp_16 ?_
    cases hf
    exact j_zret C zc_0 dX4_isUp_17
  · replace hf := it_f h3 hf
    refine j_iconst C ic_1 dX4_isUp_12 ?_
    refine j_goto C (tgt := 17) (by decide) dX4_isUp_13 ?_
    cases hf
    exact j_zret C zc_1 dX4_isUp_17
set_option maxRecDepth 100000 in
set_option maxHeartbeats 4000000 in
theorem w_X5_replicasOn_10 {p : Program} {l : Launch} {e : Env} {s_ : State} {m : MethodId} {args : Array Value} {below : List Frame} {meth : Method} {c : Code} {D : va_G} {cI cS : ClassId} {A : Nat → Prop} {a : Nat → Nat} {rest : va_W}  (C : cx p s_ m args meth c cX5_replicasOn 5 RX5 (some .int) D cI cS)  : ∀ (n_ : Nat) (σ : Nat → Nat → Int32) (x1 : Int32) (x2 : Int32) (x3 : Int32) (x4 : Int32) (r : Int32), f_X5_replicasOn_10  n_ σ x1 x2 x3 x4 = some r → jG p l e (rmF 1 20) s_ m args below meth c 5 D A (MQ below (QW D A (wC a cI σ rest) (some (.int r))) args s_ 0 0 A) (wC a cI σ rest) [some (.ref (a 3)), some (.int x1), some (.int x2), some (.int x3), some (.int x4)] 10 [] := by
  intro n_
  induction n_ with
  | zero =>
    intro σ x1 x2 x3 x4 r hf
    rw [f_X5_replicasOn_10] at hf
    cases hf
  | succ n_ hk10 =>
    intro σ x1 x2 x3 x4 r hf
    rw [f_X5_replicasOn_10] at hf
    refine j_iload C dX5_replicasOn_10 rfl ?_
    refine j_aload_n C dX5_replicasOn_12 rfl ?_
    refine gf_X5_30 C dX5_replicasOn_13 ?_
    refine j_icmp_ge C (tgt := 51) (by decide) dX5_replicasOn_16 (fun h3 => ?_) (fun h3 => ?_)
    · replace hf := it_t h3 hf
      refine j_iload_n C dX5_replicasOn_51 rfl ?_
      cases hf
      exact j_iret C dX5_replicasOn_52
    · replace hf := it_f h3 hf
      refine j_aload_n C dX5_replicasOn_19 rfl ?_
      refine gf_X5_15 C dX5_replicasOn_20 ?_
      refine j_iload C dX5_replicasOn_23 rfl ?_
      replace hf := ld_s hf
      obtain ⟨v4, h5, e_v4, hf⟩ := hf
      refine aLC_10 C h5 e_v4 dX5_replicasOn_25 ?_
      refine j_iload_n C dX5_replicasOn_26 rfl ?_
      refine j_iand C dX5_replicasOn_27 ?_
      refine j_if_ne C (tgt := 42) (by decide) dX5_replicasOn_28 (fun h6 => ?_) (fun h6 => ?_)
      · replace hf := it_f h6 hf
        refine j_iinc C (xs' := [some (.ref (a 3)), some (.int x1), some (.int x2), some (.int (x3 + (1 : Int32))), some (.int x4)]) dX5_replicasOn_42 rfl (ii_1 _) rfl rfl ?_
        refine j_iinc C (xs' := [some (.ref (a 3)), some (.int x1), some (.int x2), some (.int (x3 + (1 : Int32))), some (.int (x4 + (1 : Int32)))]) dX5_replicasOn_45 rfl (ii_1 _) rfl rfl ?_
        refine j_goto C (tgt := 10) (by decide) dX5_replicasOn_48 ?_
        exact hk10 _ _ _ _ _ _ hf
      · replace hf := it_t h6 hf
        refine j_aload_n C dX5_replicasOn_31 rfl ?_
        refine gf_X5_21 C dX5_replicasOn_32 ?_
        refine j_iload C dX5_replicasOn_35 rfl ?_
        replace hf := ld_s hf
        obtain ⟨v7, h8, e_v7, hf⟩ := hf
        refine aLC_12 C h8 e_v7 dX5_replicasOn_37 ?_
        refine j_iload_n C dX5_replicasOn_38 rfl ?_
        refine j_icmp_ne C (tgt := 45) (by decide) dX5_replicasOn_39 (fun h9 => ?_) (fun h9 => ?_)
        · replace hf := it_f h9 hf
          refine j_iinc C (xs' := [some (.ref (a 3)), some (.int x1), some (.int x2), some (.int x3), some (.int (x4 + (1 : Int32)))]) dX5_replicasOn_45 rfl (ii_1 _) rfl rfl ?_
          refine j_goto C (tgt := 10) (by decide) dX5_replicasOn_48 ?_
          exact hk10 _ _ _ _ _ _ hf
        · replace hf := it_t h9 hf
          refine j_iinc C (xs' := [some (.ref (a 3)), some (.int x1), some (.int x2), some (.int (x3 + (1 : Int32))), some (.int x4)]) dX5_replicasOn_42 rfl (ii_1 _) rfl rfl ?_
          refine j_iinc C (xs' := [some (.ref (a 3)), some (.int x1), some (.int x2), some (.int (x3 + (1 : Int32))), some (.int (x4 + (1 : Int32)))]) dX5_replicasOn_45 rfl (ii_1 _) rfl rfl ?_
          refine j_goto C (tgt := 10) (by decide) dX5_replicasOn_48 ?_
          exact hk10 _ _ _ _ _ _ hf
set_option maxRecDepth 100000 in
set_option maxHeartbeats 4000000 in
theorem c_X5_replicasOn {l : Launch} {D : va_G} {cI cS : ClassId} {A : Nat → Prop} {a : Nat → Nat} {rest : va_W}  {σ : Nat → Nat → Int32} {x1 : Int32} {r : Int32} (hf : f_X5_replicasOn σ x1 = some r) : CT l yX5_replicasOn cX5_replicasOn 5 (some .int) (rmF 1 20) D cI cS A [.ref (a 3), .int x1] (wC a cI σ rest) (wC a cI σ rest) (some (.int r)) := by
  refine CT_of (own := RX5) (xs := [some (.ref (a 3)), some (.int x1), none, none, none]) (by decide) rfl (Nat.le_of_ble_eq_true rfl) rfl ?_
  intro p e s_ m below meth c C
  unfold f_X5_replicasOn at hf
  refine j_iload_n C dX5_replicasOn_0 rfl ?_
  replace hf := bd hf
  obtain ⟨v1, h2, hf⟩ := hf
  refine j_callSN C cl_X5_42 (c_X8_bit h2) ⟨Nat.le_of_ble_eq_true rfl, Nat.le_of_ble_eq_true rfl⟩ ⟨Nat.zero_le _, Nat.zero_le _⟩ rfl (Nat.le_of_ble_eq_true rfl) rfl rfl rfl dX5_replicasOn_1 ?_
  refine j_istore_n C (xs' := [some (.ref (a 3)), some (.int x1), some (.int v1), none, none]) dX5_replicasOn_4 rfl rfl ?_
  refine j_iconst C ic_0 dX5_replicasOn_5 ?_
  refine j_istore_n C (xs' := [some (.ref (a 3)), some (.int x1), some (.int v1), some (.int (0 : Int32)), none]) dX5_replicasOn_6 rfl rfl ?_
  refine j_iconst C ic_0 dX5_replicasOn_7 ?_
  refine j_istore C (xs' := [some (.ref (a 3)), some (.int x1), some (.int v1), some (.int (0 : Int32)), some (.int (0 : Int32))]) dX5_replicasOn_8 rfl rfl ?_
  exact w_X5_replicasOn_10 C  _ _ _ _ _ _ _ hf
set_option maxRecDepth 100000 in
set_option maxHeartbeats 4000000 in
theorem w_X4_zonesOf_4 {p : Program} {l : Launch} {e : Env} {s_ : State} {m : MethodId} {args : Array Value} {below : List Frame} {meth : Method} {c : Code} {D : va_G} {cI cS : ClassId} {A : Nat → Prop} {a : Nat → Nat} {rest : va_W}  (C : cx p s_ m args meth c cX4_zonesOf 4 RX4 (some .int) D cI cS)  : ∀ (n_ : Nat) (σ : Nat → Nat → Int32) (x1 : Int32) (x2 : Int32) (x3 : Int32) (r : Int32), f_X4_zonesOf_4  n_ σ x1 x2 x3 = some r → jG p l e (rmF 0 0) s_ m args below meth c 4 D A (MQ below (QW D A (wC a cI σ rest) (some (.int r))) args s_ 0 0 A) (wC a cI σ rest) [some (.ref (a 2)), some (.int x1), some (.int x2), some (.int x3)] 4 [] := by
  intro n_
  induction n_ with
  | zero =>
    intro σ x1 x2 x3 r hf
    rw [f_X4_zonesOf_4] at hf
    cases hf
  | succ n_ hk4 =>
    intro σ x1 x2 x3 r hf
    rw [f_X4_zonesOf_4] at hf
    refine j_iload_n C dX4_zonesOf_4 rfl ?_
    refine j_aload_n C dX4_zonesOf_5 rfl ?_
    refine gf_X4_18 C dX4_zonesOf_6 ?_
    refine j_icmp_ge C (tgt := 37) (by decide) dX4_zonesOf_9 (fun h1 => ?_) (fun h1 => ?_)
    · replace hf := it_t h1 hf
      refine j_iload_n C dX4_zonesOf_37 rfl ?_
      cases hf
      exact j_iret C dX4_zonesOf_38
    · replace hf := it_f h1 hf
      refine j_iload_n C dX4_zonesOf_12 rfl ?_
      refine j_iload_n C dX4_zonesOf_13 rfl ?_
      refine j_ishr C dX4_zonesOf_14 ?_
      refine j_iconst C ic_1 dX4_zonesOf_15 ?_
      refine j_iand C dX4_zonesOf_16 ?_
      refine j_if_eq C (tgt := 31) (by decide) dX4_zonesOf_17 (fun h2 => ?_) (fun h2 => ?_)
      · replace hf := it_t h2 hf
        refine j_iinc C (xs' := [some (.ref (a 2)), some (.int x1), some (.int x2), some (.int (x3 + (1 : Int32)))]) dX4_zonesOf_31 rfl (ii_1 _) rfl rfl ?_
        refine j_goto C (tgt := 4) (by decide) dX4_zonesOf_34 ?_
        exact hk4 _ _ _ _ _ hf
      · replace hf := it_f h2 hf
        refine j_iload_n C dX4_zonesOf_20 rfl ?_
        refine j_iconst C ic_1 dX4_zonesOf_21 ?_
        refine j_aload_n C dX4_zonesOf_22 rfl ?_
        refine gf_X4_9 C dX4_zonesOf_23 ?_
        refine j_iload_n C dX4_zonesOf_26 rfl ?_
        replace hf := ld_s hf
        obtain ⟨v3, h4, e_v3, hf⟩ := hf
        refine aLC_7 C h4 e_v3 dX4_zonesOf_27 ?_
        refine j_ishl C dX4_zonesOf_28 ?_
        refine j_ior C dX4_zonesOf_29 ?_
        refine j_istore_n C (xs' := [some (.ref (a 2)), some (.int x1), some (.int (x2 ||| ((1 : Int32) <<< (v3 &&& 31)))), some (.int x3)]) dX4_zonesOf_30 rfl rfl ?_
        refine j_iinc C (xs' := [some (.ref (a 2)), some (.int x1), some (.int (x2 ||| ((1 : Int32) <<< (v3 &&& 31)))), some (.int (x3 + (1 : Int32)))]) dX4_zonesOf_31 rfl (ii_1 _) rfl rfl ?_
        refine j_goto C (tgt := 4) (by decide) dX4_zonesOf_34 ?_
        exact hk4 _ _ _ _ _ hf
set_option maxRecDepth 100000 in
set_option maxHeartbeats 4000000 in
theorem c_X4_zonesOf {l : Launch} {D : va_G} {cI cS : ClassId} {A : Nat → Prop} {a : Nat → Nat} {rest : va_W}  {σ : Nat → Nat → Int32} {x1 : Int32} {r : Int32} (hf : f_X4_zonesOf σ x1 = some r) : CT l yX4_zonesOf cX4_zonesOf 4 (some .int) (rmF 0 0) D cI cS A [.ref (a 2), .int x1] (wC a cI σ rest) (wC a cI σ rest) (some (.int r)) := by
  refine CT_of (own := RX4) (xs := [some (.ref (a 2)), some (.int x1), none, none]) (by decide) rfl (Nat.le_of_ble_eq_true rfl) rfl ?_
  intro p e s_ m below meth c C
  unfold f_X4_zonesOf at hf
  refine j_iconst C ic_0 dX4_zonesOf_0 ?_
  refine j_istore_n C (xs' := [some (.ref (a 2)), some (.int x1), some (.int (0 : Int32)), none]) dX4_zonesOf_1 rfl rfl ?_
  refine j_iconst C ic_0 dX4_zonesOf_2 ?_
  refine j_istore_n C (xs' := [some (.ref (a 2)), some (.int x1), some (.int (0 : Int32)), some (.int (0 : Int32))]) dX4_zonesOf_3 rfl rfl ?_
  exact w_X4_zonesOf_4 C  _ _ _ _ _ _ hf
set_option maxRecDepth 100000 in
set_option maxHeartbeats 4000000 in
theorem c_X5_hasLearner {l : Launch} {D : va_G} {cI cS : ClassId} {A : Nat → Prop} {a : Nat → Nat} {rest : va_W}  {σ : Nat → Nat → Int32} {x1 : Int32} {r : Int32} (hf : f_X5_hasLearner σ x1 = some r) : CT l yX5_hasLearner cX5_hasLearner 2 (some .boolean) (rmF 0 0) D cI cS A [.ref (a 3), .int x1] (wC a cI σ rest) (wC a cI σ rest) (some (.int r)) := by
  refine CT_of (own := RX5) (xs := [some (.ref (a 3)), some (.int x1)]) (by decide) rfl (Nat.le_of_ble_eq_true rfl) rfl ?_
  intro p e s_ m below meth c C
  unfold f_X5_hasLearner at hf
  refine j_aload_n C dX5_hasLearner_0 rfl ?_
  refine gf_X5_21 C dX5_hasLearner_1 ?_
  refine j_iload_n C dX5_hasLearner_4 rfl ?_
  replace hf := ld_s hf
  obtain ⟨v1, h2, e_v1, hf⟩ := hf
  refine aLC_12 C h2 e_v1 dX5_hasLearner_5 ?_
  refine j_iconst C ic_m1 dX5_hasLearner_6 ?_
  refine j_icmp_eq C (tgt := 14) (by decide) dX5_hasLearner_7 (fun h3 => ?_) (fun h3 => ?_)
  · replace hf := it_t h3 hf
    refine j_iconst C ic_0 dX5_hasLearner_14 ?_
    cases hf
    exact j_zret C zc_0 dX5_hasLearner_15
  · replace hf := it_f h3 hf
    refine j_iconst C ic_1 dX5_hasLearner_10 ?_
    refine j_goto C (tgt := 15) (by decide) dX5_hasLearner_11 ?_
    cases hf
    exact j_zret C zc_1 dX5_hasLearner_15
set_option maxRecDepth 100000 in
set_option maxHeartbeats 4000000 in
theorem c_X7_learnerTicks {l : Launch} {D : va_G} {cI cS : ClassId} {A : Nat → Prop} {a : Nat → Nat} {rest : va_W}  {σ : Nat → Nat → Int32} {x1 : Int32} {r : Int32} (hf : f_X7_learnerTicks σ x1 = some r) : CT l yX7_learnerTicks cX7_learnerTicks 2 (some .int) (rmF 0 0) D cI cS A [.ref (a 1), .int x1] (wC a cI σ rest) (wC a cI σ rest) (some (.int r)) := by
  refine CT_of (own := RX7) (xs := [some (.ref (a 1)), some (.int x1)]) (by decide) rfl (Nat.le_of_ble_eq_true rfl) rfl ?_
  intro p e s_ m below meth c C
  unfold f_X7_learnerTicks at hf
  refine j_aload_n C dX7_learnerTicks_0 rfl ?_
  refine gf_X7_25 C dX7_learnerTicks_1 ?_
  refine j_iconst C ic_1 dX7_learnerTicks_4 ?_
  refine j_icmp_ge C (tgt := 12) (by decide) dX7_learnerTicks_5 (fun h1 => ?_) (fun h1 => ?_)
  · replace hf := it_t h1 hf
    refine j_iconst C ic_1 dX7_learnerTicks_12 ?_
    refine j_iload_n C dX7_learnerTicks_13 rfl ?_
    refine j_aload_n C dX7_learnerTicks_14 rfl ?_
    refine gf_X7_25 C dX7_learnerTicks_15 ?_
    replace hf := dz_s hf
    obtain ⟨h2, hf⟩ := hf
    refine j_idiv C dX7_learnerTicks_18 h2 ?_
    refine j_iadd C dX7_learnerTicks_19 ?_
    cases hf
    exact j_iret C dX7_learnerTicks_20
  · replace hf := it_f h1 hf
    refine j_iconst C ic_1 dX7_learnerTicks_8 ?_
    refine j_goto C (tgt := 20) (by decide) dX7_learnerTicks_9 ?_
    cases hf
    exact j_iret C dX7_learnerTicks_20
set_option maxRecDepth 100000 in
set_option maxHeartbeats 4000000 in
theorem c_X5_isFull {l : Launch} {D : va_G} {cI cS : ClassId} {A : Nat → Prop} {a : Nat → Nat} {rest : va_W}  {σ : Nat → Nat → Int32}  {r : Int32} (hf : f_X5_isFull σ = some r) : CT l yX5_isFull cX5_isFull 1 (some .boolean) (rmF 0 0) D cI cS A [.ref (a 3)] (wC a cI σ rest) (wC a cI σ rest) (some (.int r)) := by
  refine CT_of (own := RX5) (xs := [some (.ref (a 3))]) (by decide) rfl (Nat.le_of_ble_eq_true rfl) rfl ?_
  intro p e s_ m below meth c C
  unfold f_X5_isFull at hf
  refine j_aload_n C dX5_isFull_0 rfl ?_
  refine gf_X5_30 C dX5_isFull_1 ?_
  refine j_bipush C bp_16 dX5_isFull_4 ?_
  refine j_icmp_lt C (tgt := 13) (by decide) dX5_isFull_6 (fun h1 => ?_) (fun h1 => ?_)
  · replace hf := it_t h1 hf
    refine j_iconst C ic_0 dX5_isFull_13 ?_
    cases hf
    exact j_zret C zc_0 dX5_isFull_14
  · replace hf := it_f h1 hf
    refine j_iconst C ic_1 dX5_isFull_9 ?_
    refine j_goto C (tgt := 14) (by decide) dX5_isFull_10 ?_
    cases hf
    exact j_zret C zc_1 dX5_isFull_14
set_option maxRecDepth 100000 in
set_option maxHeartbeats 4000000 in
theorem c_X5_copyWithin {l : Launch} {D : va_G} {cI cS : ClassId} {A : Nat → Prop} {a : Nat → Nat} {rest : va_W}  {σ : Nat → Nat → Int32} {x1 : Int32} {x2 : Int32} {r : (Nat → Nat → Int32)} (hf : f_X5_copyWithin σ x1 x2 = some r) : CT l yX5_copyWithin cX5_copyWithin 3 none (rmF 0 0) D cI cS A [.ref (a 3), .int x1, .int x2] (wC a cI σ rest) (wC a cI r rest) none := by
  refine CT_of (own := RX5) (xs := [some (.ref (a 3)), some (.int x1), some (.int x2)]) (by decide) rfl (Nat.le_of_ble_eq_true rfl) rfl ?_
  intro p e s_ m below meth c C
  unfold f_X5_copyWithin at hf
  refine j_aload_n C dX5_copyWithin_0 rfl ?_
  refine gf_X5_9 C dX5_copyWithin_1 ?_
  refine j_iload_n C dX5_copyWithin_4 rfl ?_
  refine j_aload_n C dX5_copyWithin_5 rfl ?_
  refine gf_X5_9 C dX5_copyWithin_6 ?_
  refine j_iload_n C dX5_copyWithin_9 rfl ?_
  replace hf := ld_s hf
  obtain ⟨v1, h2, e_v1, hf⟩ := hf
  refine aLC_9 C h2 e_v1 dX5_copyWithin_10 ?_
  replace hf := sd_s hf
  obtain ⟨h3, hf⟩ := hf
  refine aSC_9 C h3 dX5_copyWithin_11 ?_
  refine j_aload_n C dX5_copyWithin_12 rfl ?_
  refine gf_X5_15 C dX5_copyWithin_13 ?_
  refine j_iload_n C dX5_copyWithin_16 rfl ?_
  refine j_aload_n C dX5_copyWithin_17 rfl ?_
  refine gf_X5_15 C dX5_copyWithin_18 ?_
  refine j_iload_n C dX5_copyWithin_21 rfl ?_
  replace hf := ld_s hf
  obtain ⟨v4, h5, e_v4, hf⟩ := hf
  refine aLC_10 C h5 e_v4 dX5_copyWithin_22 ?_
  replace hf := sd_s hf
  obtain ⟨h6, hf⟩ := hf
  refine aSC_10 C h6 dX5_copyWithin_23 ?_
  refine j_aload_n C dX5_copyWithin_24 rfl ?_
  refine gf_X5_18 C dX5_copyWithin_25 ?_
  refine j_iload_n C dX5_copyWithin_28 rfl ?_
  refine j_aload_n C dX5_copyWithin_29 rfl ?_
  refine gf_X5_18 C dX5_copyWithin_30 ?_
  refine j_iload_n C dX5_copyWithin_33 rfl ?_
  replace hf := ld_s hf
  obtain ⟨v7, h8, e_v7, hf⟩ := hf
  refine aLC_11 C h8 e_v7 dX5_copyWithin_34 ?_
  replace hf := sd_s hf
  obtain ⟨h9, hf⟩ := hf
  refine aSC_11 C h9 dX5_copyWithin_35 ?_
  refine j_aload_n C dX5_copyWithin_36 rfl ?_
  refine gf_X5_21 C dX5_copyWithin_37 ?_
  refine j_iload_n C dX5_copyWithin_40 rfl ?_
  refine j_aload_n C dX5_copyWithin_41 rfl ?_
  refine gf_X5_21 C dX5_copyWithin_42 ?_
  refine j_iload_n C dX5_copyWithin_45 rfl ?_
  replace hf := ld_s hf
  obtain ⟨v10, h11, e_v10, hf⟩ := hf
  refine aLC_12 C h11 e_v10 dX5_copyWithin_46 ?_
  replace hf := sd_s hf
  obtain ⟨h12, hf⟩ := hf
  refine aSC_12 C h12 dX5_copyWithin_47 ?_
  refine j_aload_n C dX5_copyWithin_48 rfl ?_
  refine gf_X5_24 C dX5_copyWithin_49 ?_
  refine j_iload_n C dX5_copyWithin_52 rfl ?_
  refine j_aload_n C dX5_copyWithin_53 rfl ?_
  refine gf_X5_24 C dX5_copyWithin_54 ?_
  refine j_iload_n C dX5_copyWithin_57 rfl ?_
  replace hf := ld_s hf
  obtain ⟨v13, h14, e_v13, hf⟩ := hf
  refine aLC_13 C h14 e_v13 dX5_copyWithin_58 ?_
  replace hf := sd_s hf
  obtain ⟨h15, hf⟩ := hf
  refine aSC_13 C h15 dX5_copyWithin_59 ?_
  refine j_aload_n C dX5_copyWithin_60 rfl ?_
  refine gf_X5_27 C dX5_copyWithin_61 ?_
  refine j_iload_n C dX5_copyWithin_64 rfl ?_
  refine j_aload_n C dX5_copyWithin_65 rfl ?_
  refine gf_X5_27 C dX5_copyWithin_66 ?_
  refine j_iload_n C dX5_copyWithin_69 rfl ?_
  replace hf := ld_s hf
  obtain ⟨v16, h17, e_v16, hf⟩ := hf
  refine aLC_14 C h17 e_v16 dX5_copyWithin_70 ?_
  replace hf := sd_s hf
  obtain ⟨h18, hf⟩ := hf
  refine aSC_14 C h18 dX5_copyWithin_71 ?_
  cases hf
  exact j_vret C dX5_copyWithin_72
set_option maxRecDepth 100000 in
set_option maxHeartbeats 4000000 in
theorem w_X5_divide_13 {p : Program} {l : Launch} {e : Env} {s_ : State} {m : MethodId} {args : Array Value} {below : List Frame} {meth : Method} {c : Code} {D : va_G} {cI cS : ClassId} {A : Nat → Prop} {a : Nat → Nat} {rest : va_W}  (C : cx p s_ m args meth c cX5_divide 4 RX5 none D cI cS)  : ∀ (n_ : Nat) (σ : Nat → Nat → Int32) (x1 : Int32) (x2 : Int32) (x3 : Int32) (r : (Nat → Nat → Int32)), f_X5_divide_13  n_ σ x1 x2 x3 = some r → jG p l e (rmF 1 22) s_ m args below meth c 4 D A (MQ below (QW D A (wC a cI r rest) none) args s_ 0 0 A) (wC a cI σ rest) [some (.ref (a 3)), some (.int x1), some (.int x2), some (.int x3)] 13 [] := by
  intro n_
  induction n_ with
  | zero =>
    intro σ x1 x2 x3 r hf
    rw [f_X5_divide_13] at hf
    cases hf
  | succ n_ hk13 =>
    intro σ x1 x2 x3 r hf
    rw [f_X5_divide_13] at hf
    refine j_iload_n C dX5_divide_13 rfl ?_
    refine j_iload_n C dX5_divide_14 rfl ?_
    refine j_iconst C ic_1 dX5_divide_15 ?_
    refine j_iadd C dX5_divide_16 ?_
    refine j_icmp_le C (tgt := 34) (by decide) dX5_divide_17 (fun h4 => ?_) (fun h4 => ?_)
    · replace hf := it_t h4 hf
      refine j_aload_n C dX5_divide_34 rfl ?_
      refine j_iload_n C dX5_divide_35 rfl ?_
      refine j_iload_n C dX5_divide_36 rfl ?_
      refine j_iconst C ic_1 dX5_divide_37 ?_
      refine j_iadd C dX5_divide_38 ?_
      replace hf := bd hf
      obtain ⟨v5, h6, hf⟩ := hf
      refine j_callV C cl_X5_50 (c_X5_copyWithin h6) ⟨Nat.le_of_ble_eq_true rfl, Nat.le_of_ble_eq_true rfl⟩ ⟨Nat.zero_le _, Nat.zero_le _⟩ (q0 := 3) rfl rfl rfl rfl (Nat.le_of_ble_eq_true rfl) rfl rfl wC_fst dX5_divide_39 ?_
      refine j_aload_n C dX5_divide_42 rfl ?_
      refine gf_X5_9 C dX5_divide_43 ?_
      refine j_iload_n C dX5_divide_46 rfl ?_
      refine j_iconst C ic_1 dX5_divide_47 ?_
      refine j_iadd C dX5_divide_48 ?_
      refine j_iload_n C dX5_divide_49 rfl ?_
      replace hf := sd_s hf
      obtain ⟨h7, hf⟩ := hf
      refine aSC_9 C h7 dX5_divide_50 ?_
      refine j_aload_n C dX5_divide_51 rfl ?_
      refine j_dup C dX5_divide_52 rfl ?_
      refine gf_X5_30 C dX5_divide_53 ?_
      refine j_iconst C ic_1 dX5_divide_56 ?_
      refine j_iadd C dX5_divide_57 ?_
      refine pf_X5_30 C dX5_divide_58 ?_
      cases hf
      exact j_vret C dX5_divide_61
    · replace hf := it_f h4 hf
      refine j_aload_n C dX5_divide_20 rfl ?_
      refine j_iload_n C dX5_divide_21 rfl ?_
      refine j_iconst C ic_1 dX5_divide_22 ?_
      refine j_isub C dX5_divide_23 ?_
      refine j_iload_n C dX5_divide_24 rfl ?_
      replace hf := bd hf
      obtain ⟨v8, h9, hf⟩ := hf
      refine j_callV C cl_X5_50 (c_X5_copyWithin h9) ⟨Nat.le_of_ble_eq_true rfl, Nat.le_of_ble_eq_true rfl⟩ ⟨Nat.zero_le _, Nat.zero_le _⟩ (q0 := 3) rfl rfl rfl rfl (Nat.le_of_ble_eq_true rfl) rfl rfl wC_fst dX5_divide_25 ?_
      refine j_iinc C (xs' := [some (.ref (a 3)), some (.int x1), some (.int x2), some (.int (x3 + (-1 : Int32)))]) dX5_divide_28 rfl (ii_m1 _) rfl rfl ?_
      refine j_goto C (tgt := 13) (by decide) dX5_divide_31 ?_
      exact hk13 _ _ _ _ _ hf
set_option maxRecDepth 100000 in
set_option maxHeartbeats 4000000 in
theorem c_X5_divide {l : Launch} {D : va_G} {cI cS : ClassId} {A : Nat → Prop} {a : Nat → Nat} {rest : va_W}  {σ : Nat → Nat → Int32} {x1 : Int32} {x2 : Int32} {r : (Nat → Nat → Int32)} (hf : f_X5_divide σ x1 x2 = some r) : CT l yX5_divide cX5_divide 4 none (rmF 1 22) D cI cS A [.ref (a 3), .int x1, .int x2] (wC a cI σ rest) (wC a cI r rest) none := by
  refine CT_of (own := RX5) (xs := [some (.ref (a 3)), some (.int x1), some (.int x2), none]) (by decide) rfl (Nat.le_of_ble_eq_true rfl) rfl ?_
  intro p e s_ m below meth c C
  unfold f_X5_divide at hf
  refine j_aload_n C dX5_divide_0 rfl ?_
  replace hf := bd hf
  obtain ⟨v1, h2, hf⟩ := hf
  refine j_callV C cl_X5_46 (c_X5_isFull h2) ⟨Nat.le_of_ble_eq_true rfl, Nat.le_of_ble_eq_true rfl⟩ ⟨Nat.zero_le _, Nat.zero_le _⟩ (q0 := 3) rfl rfl rfl rfl (Nat.le_of_ble_eq_true rfl) rfl rfl rfl dX5_divide_1 ?_
  refine j_if_eq C (tgt := 8) (by decide) dX5_divide_4 (fun h3 => ?_) (fun h3 => ?_)
  · replace hf := it_t h3 hf
    refine j_aload_n C dX5_divide_8 rfl ?_
    refine gf_X5_30 C dX5_divide_9 ?_
    refine j_istore_n C (xs' := [some (.ref (a 3)), some (.int x1), some (.int x2), some (.int (σ 0 8))]) dX5_divide_12 rfl rfl ?_
    exact w_X5_divide_13 C  _ _ _ _ _ _ hf
  · replace hf := it_f h3 hf
    cases hf
    exact j_vret C dX5_divide_7
set_option maxRecDepth 100000 in
set_option maxHeartbeats 4000000 in
theorem w_X5_absorbNext_4 {p : Program} {l : Launch} {e : Env} {s_ : State} {m : MethodId} {args : Array Value} {below : List Frame} {meth : Method} {c : Code} {D : va_G} {cI cS : ClassId} {A : Nat → Prop} {a : Nat → Nat} {rest : va_W}  (C : cx p s_ m args meth c cX5_absorbNext 3 RX5 none D cI cS)  : ∀ (n_ : Nat) (σ : Nat → Nat → Int32) (x2 : Int32) (r : (Nat → Nat → Int32)), f_X5_absorbNext_4  n_ σ x2 = some r → jG p l e (rmF 1 22) s_ m args below meth c 3 D A (MQ below (QW D A (wC a cI r rest) none) args s_ 0 0 A) (wC a cI σ rest) [some (.ref (a 3)), none, some (.int x2)] 4 [] := by
  intro n_
  induction n_ with
  | zero =>
    intro σ x2 r hf
    rw [f_X5_absorbNext_4] at hf
    cases hf
  | succ n_ hk4 =>
    intro σ x2 r hf
    rw [f_X5_absorbNext_4] at hf
    refine j_iload_n C dX5_absorbNext_4 rfl ?_
    refine j_iconst C ic_1 dX5_absorbNext_5 ?_
    refine j_iadd C dX5_absorbNext_6 ?_
    refine j_aload_n C dX5_absorbNext_7 rfl ?_
    refine gf_X5_30 C dX5_absorbNext_8 ?_
    refine j_icmp_ge C (tgt := 28) (by decide) dX5_absorbNext_11 (fun h1 => ?_) (fun h1 => ?_)
    · replace hf := it_t h1 hf
      refine j_aload_n C dX5_absorbNext_28 rfl ?_
      refine j_dup C dX5_absorbNext_29 rfl ?_
      refine gf_X5_30 C dX5_absorbNext_30 ?_
      refine j_iconst C ic_1 dX5_absorbNext_33 ?_
      refine j_isub C dX5_absorbNext_34 ?_
      refine pf_X5_30 C dX5_absorbNext_35 ?_
      cases hf
      exact j_vret C dX5_absorbNext_38
    · replace hf := it_f h1 hf
      refine j_aload_n C dX5_absorbNext_14 rfl ?_
      refine j_iload_n C dX5_absorbNext_15 rfl ?_
      refine j_iconst C ic_1 dX5_absorbNext_16 ?_
      refine j_iadd C dX5_absorbNext_17 ?_
      refine j_iload_n C dX5_absorbNext_18 rfl ?_
      replace hf := bd hf
      obtain ⟨v2, h3, hf⟩ := hf
      refine j_callV C cl_X5_50 (c_X5_copyWithin h3) ⟨Nat.le_of_ble_eq_true rfl, Nat.le_of_ble_eq_true rfl⟩ ⟨Nat.zero_le _, Nat.zero_le _⟩ (q0 := 3) rfl rfl rfl rfl (Nat.le_of_ble_eq_true rfl) rfl rfl wC_fst dX5_absorbNext_19 ?_
      refine j_iinc C (xs' := [some (.ref (a 3)), none, some (.int (x2 + (1 : Int32)))]) dX5_absorbNext_22 rfl (ii_1 _) rfl rfl ?_
      refine j_goto C (tgt := 4) (by decide) dX5_absorbNext_25 ?_
      exact hk4 _ _ _ hf
set_option maxRecDepth 100000 in
set_option maxHeartbeats 4000000 in
theorem c_X5_absorbNext {l : Launch} {D : va_G} {cI cS : ClassId} {A : Nat → Prop} {a : Nat → Nat} {rest : va_W}  {σ : Nat → Nat → Int32} {x1 : Int32} {r : (Nat → Nat → Int32)} (hf : f_X5_absorbNext σ x1 = some r) : CT l yX5_absorbNext cX5_absorbNext 3 none (rmF 1 22) D cI cS A [.ref (a 3), .int x1] (wC a cI σ rest) (wC a cI r rest) none := by
  refine CT_of (own := RX5) (xs := [some (.ref (a 3)), some (.int x1), none]) (by decide) rfl (Nat.le_of_ble_eq_true rfl) rfl ?_
  intro p e s_ m below meth c C
  unfold f_X5_absorbNext at hf
  refine j_iload_n C dX5_absorbNext_0 rfl ?_
  refine j_iconst C ic_1 dX5_absorbNext_1 ?_
  refine j_iadd C dX5_absorbNext_2 ?_
  refine j_istore_n C (xs' := [some (.ref (a 3)), some (.int x1), some (.int (x1 + (1 : Int32)))]) dX5_absorbNext_3 rfl rfl ?_
  refine j_weak [true, false, true] rfl ?_
  exact w_X5_absorbNext_4 C  _ _ _ _ hf
set_option maxRecDepth 100000 in
set_option maxHeartbeats 4000000 in
theorem c_X4_exists {l : Launch} {D : va_G} {cI cS : ClassId} {A : Nat → Prop} {a : Nat → Nat} {rest : va_W}  {σ : Nat → Nat → Int32} {x1 : Int32} {r : Int32} (hf : f_X4_exists σ x1 = some r) : CT l yX4_exists cX4_exists 2 (some .boolean) (rmF 0 0) D cI cS A [.ref (a 2), .int x1] (wC a cI σ rest) (wC a cI σ rest) (some (.int r)) := by
  refine CT_of (own := RX4) (xs := [some (.ref (a 2)), some (.int x1)]) (by decide) rfl (Nat.le_of_ble_eq_true rfl) rfl ?_
  intro p e s_ m below meth c C
  unfold f_X4_exists at hf
  refine j_iload_n C dX4_exists_0 rfl ?_
  refine j_if_lt C (tgt := 16) (by decide) dX4_exists_1 (fun h1 => ?_) (fun h1 => ?_)
  · replace hf := it_t h1 hf
    refine j_iconst C ic_0 dX4_exists_16 ?_
    cases hf
    exact j_zret C zc_0 dX4_exists_17
  · replace hf := it_f h1 hf
    refine j_iload_n C dX4_exists_4 rfl ?_
    refine j_aload_n C dX4_exists_5 rfl ?_
    refine gf_X4_18 C dX4_exists_6 ?_
    refine j_icmp_ge C (tgt := 16) (by decide) dX4_exists_9 (fun h2 => ?_) (fun h2 => ?_)
    · replace hf := it_t h2 hf
      refine j_iconst C ic_0 dX4_exists_16 ?_
      cases hf
      exact j_zret C zc_0 dX4_exists_17
    · replace hf := it_f h2 hf
      refine j_iconst C ic_1 dX4_exists_12 ?_
      refine j_goto C (tgt := 17) (by decide) dX4_exists_13 ?_
      cases hf
      exact j_zret C zc_1 dX4_exists_17
set_option maxRecDepth 100000 in
set_option maxHeartbeats 4000000 in
theorem c_X3_isAt {l : Launch} {D : va_G} {cI cS : ClassId} {A : Nat → Prop} {a : Nat → Nat} {rest : va_W}  {σ : Nat → Nat → Int32} {x1 : Int32} {x2 : Int32} {r : Int32} (hf : f_X3_isAt σ x1 x2 = some r) : CT l yX3_isAt cX3_isAt 3 (some .boolean) (rmF 0 0) D cI cS A [.ref (a 4), .int x1, .int x2] (wC a cI σ rest) (wC a cI σ rest) (some (.int r)) := by
  refine CT_of (own := RX3) (xs := [some (.ref (a 4)), some (.int x1), some (.int x2)]) (by decide) rfl (Nat.le_of_ble_eq_true rfl) rfl ?_
  intro p e s_ m below meth c C
  unfold f_X3_isAt at hf
  refine j_iload_n C dX3_isAt_0 rfl ?_
  refine j_aload_n C dX3_isAt_1 rfl ?_
  refine gf_X3_18 C dX3_isAt_2 ?_
  refine j_icmp_ge C (tgt := 22) (by decide) dX3_isAt_5 (fun h1 => ?_) (fun h1 => ?_)
  · replace hf := it_t h1 hf
    refine j_iconst C ic_0 dX3_isAt_22 ?_
    cases hf
    exact j_zret C zc_0 dX3_isAt_23
  · replace hf := it_f h1 hf
    refine j_aload_n C dX3_isAt_8 rfl ?_
    refine gf_X3_9 C dX3_isAt_9 ?_
    refine j_iload_n C dX3_isAt_12 rfl ?_
    replace hf := ld_s hf
    obtain ⟨v2, h3, e_v2, hf⟩ := hf
    refine aLC_15 C h3 e_v2 dX3_isAt_13 ?_
    refine j_iload_n C dX3_isAt_14 rfl ?_
    refine j_icmp_ne C (tgt := 22) (by decide) dX3_isAt_15 (fun h4 => ?_) (fun h4 => ?_)
    · replace hf := it_f h4 hf
      refine j_iconst C ic_0 dX3_isAt_22 ?_
      cases hf
      exact j_zret C zc_0 dX3_isAt_23
    · replace hf := it_t h4 hf
      refine j_iconst C ic_1 dX3_isAt_18 ?_
      refine j_goto C (tgt := 23) (by decide) dX3_isAt_19 ?_
      cases hf
      exact j_zret C zc_1 dX3_isAt_23
set_option maxRecDepth 100000 in
set_option maxHeartbeats 4000000 in
theorem c_X3_sizeAt {l : Launch} {D : va_G} {cI cS : ClassId} {A : Nat → Prop} {a : Nat → Nat} {rest : va_W}  {σ : Nat → Nat → Int32} {x1 : Int32} {r : Int32} (hf : f_X3_sizeAt σ x1 = some r) : CT l yX3_sizeAt cX3_sizeAt 3 (some .int) (rmF 1 22) D cI cS A [.ref (a 4), .int x1] (wC a cI σ rest) (wC a cI σ rest) (some (.int r)) := by
  refine CT_of (own := RX3) (xs := [some (.ref (a 4)), some (.int x1), none]) (by decide) rfl (Nat.le_of_ble_eq_true rfl) rfl ?_
  intro p e s_ m below meth c C
  unfold f_X3_sizeAt at hf
  refine j_aload_n C dX3_sizeAt_0 rfl ?_
  refine j_iload_n C dX3_sizeAt_1 rfl ?_
  replace hf := bd hf
  obtain ⟨v1, h2, hf⟩ := hf
  refine j_callV C cl_X3_22 (c_X3_placeOf h2) ⟨Nat.le_of_ble_eq_true rfl, Nat.le_of_ble_eq_true rfl⟩ ⟨Nat.zero_le _, Nat.zero_le _⟩ (q0 := 4) rfl rfl rfl rfl (Nat.le_of_ble_eq_true rfl) rfl rfl rfl dX3_sizeAt_2 ?_
  refine j_istore_n C (xs' := [some (.ref (a 4)), some (.int x1), some (.int v1)]) dX3_sizeAt_5 rfl rfl ?_
  refine j_aload_n C dX3_sizeAt_6 rfl ?_
  refine j_iload_n C dX3_sizeAt_7 rfl ?_
  refine j_iload_n C dX3_sizeAt_8 rfl ?_
  replace hf := bd hf
  obtain ⟨v3, h4, hf⟩ := hf
  refine j_callV C cl_X3_26 (c_X3_isAt h4) ⟨Nat.le_of_ble_eq_true rfl, Nat.le_of_ble_eq_true rfl⟩ ⟨Nat.zero_le _, Nat.zero_le _⟩ (q0 := 4) rfl rfl rfl rfl (Nat.le_of_ble_eq_true rfl) rfl rfl rfl dX3_sizeAt_9 ?_
  refine j_if_eq C (tgt := 24) (by decide) dX3_sizeAt_12 (fun h5 => ?_) (fun h5 => ?_)
  · replace hf := it_t h5 hf
    refine j_iconst C ic_0 dX3_sizeAt_24 ?_
    cases hf
    exact j_iret C dX3_sizeAt_25
  · replace hf := it_f h5 hf
    refine j_aload_n C dX3_sizeAt_15 rfl ?_
    refine gf_X3_15 C dX3_sizeAt_16 ?_
    refine j_iload_n C dX3_sizeAt_19 rfl ?_
    replace hf := ld_s hf
    obtain ⟨v6, h7, e_v6, hf⟩ := hf
    refine aLC_16 C h7 e_v6 dX3_sizeAt_20 ?_
    refine j_goto C (tgt := 25) (by decide) dX3_sizeAt_21 ?_
    cases hf
    exact j_iret C dX3_sizeAt_25
set_option maxRecDepth 100000 in
set_option maxHeartbeats 4000000 in
theorem w_X3_store_84 {p : Program} {l : Launch} {e : Env} {s_ : State} {m : MethodId} {args : Array Value} {below : List Frame} {meth : Method} {c : Code} {D : va_G} {cI cS : ClassId} {A : Nat → Prop} {a : Nat → Nat} {rest : va_W}  (C : cx p s_ m args meth c cX3_store 4 RX3 none D cI cS)  : ∀ (σ : Nat → Nat → Int32) (x2 : Int32) (x3 : Int32) (r : (Nat → Nat → Int32)), f_X3_store_84  σ x2 x3 = some r → jG p l e (rmF 1 64) s_ m args below meth c 4 D A (MQ below (QW D A (wC a cI r rest) none) args s_ 0 0 A) (wC a cI σ rest) [some (.ref (a 4)), none, some (.int x2), some (.int x3)] 84 [] := by
  intro σ x2 x3 r hf
  unfold f_X3_store_84 at hf
  refine j_aload_n C dX3_store_84 rfl ?_
  refine gf_X3_15 C dX3_store_85 ?_
  refine j_iload_n C dX3_store_88 rfl ?_
  refine j_iload_n C dX3_store_89 rfl ?_
  replace hf := sd_s hf
  obtain ⟨h6, hf⟩ := hf
  refine aSC_16 C h6 dX3_store_90 ?_
  cases hf
  exact j_vret C dX3_store_91
set_option maxRecDepth 100000 in
set_option maxHeartbeats 4000000 in
theorem c_X3_store {l : Launch} {D : va_G} {cI cS : ClassId} {A : Nat → Prop} {a : Nat → Nat} {rest : va_W}  {σ : Nat → Nat → Int32} {x1 : Int32} {x2 : Int32} {r : (Nat → Nat → Int32)} (hf : f_X3_store σ x1 x2 = some r) : CT l yX3_store cX3_store 4 none (rmF 1 64) D cI cS A [.ref (a 4), .int x1, .int x2] (wC a cI σ rest) (wC a cI r rest) none := by
  refine CT_of (own := RX3) (xs := [some (.ref (a 4)), some (.int x1), some (.int x2), none]) (by decide) rfl (Nat.le_of_ble_eq_true rfl) rfl ?_
  intro p e s_ m below meth c C
  unfold f_X3_store at hf
  refine j_aload_n C dX3_store_0 rfl ?_
  refine j_iload_n C dX3_store_1 rfl ?_
  replace hf := bd hf
  obtain ⟨v1, h2, hf⟩ := hf
  refine j_callV C cl_X3_22 (c_X3_placeOf h2) ⟨Nat.le_of_ble_eq_true rfl, Nat.le_of_ble_eq_true rfl⟩ ⟨Nat.zero_le _, Nat.zero_le _⟩ (q0 := 4) rfl rfl rfl rfl (Nat.le_of_ble_eq_true rfl) rfl rfl rfl dX3_store_2 ?_
  refine j_istore_n C (xs' := [some (.ref (a 4)), some (.int x1), some (.int x2), some (.int v1)]) dX3_store_5 rfl rfl ?_
  refine j_aload_n C dX3_store_6 rfl ?_
  refine j_iload_n C dX3_store_7 rfl ?_
  refine j_iload_n C dX3_store_8 rfl ?_
  replace hf := bd hf
  obtain ⟨v3, h4, hf⟩ := hf
  refine j_callV C cl_X3_26 (c_X3_isAt h4) ⟨Nat.le_of_ble_eq_true rfl, Nat.le_of_ble_eq_true rfl⟩ ⟨Nat.zero_le _, Nat.zero_le _⟩ (q0 := 4) rfl rfl rfl rfl (Nat.le_of_ble_eq_true rfl) rfl rfl rfl dX3_store_9 ?_
  refine j_if_ne C (tgt := 84) (by decide) dX3_store_12 (fun h5 => ?_) (fun h5 => ?_)
  · replace hf := it_f h5 hf
    refine j_weak [true, false, true, true] rfl ?_
    exact w_X3_store_84 C  _ _ _ _ hf
  · replace hf := it_t h5 hf
    refine j_aload_n C dX3_store_15 rfl ?_
    refine gf_X3_18 C dX3_store_16 ?_
    refine j_bipush C bp_64 dX3_store_19 ?_
    refine j_icmp_lt C (tgt := 25) (by decide) dX3_store_21 (fun h7 => ?_) (fun h7 => ?_)
    · replace hf := it_t h7 hf
      refine j_aload_n C dX3_store_25 rfl ?_
      refine gf_X3_9 C dX3_store_26 ?_
      refine j_iload_n C dX3_store_29 rfl ?_
      refine j_aload_n C dX3_store_30 rfl ?_
      refine gf_X3_9 C dX3_store_31 ?_
      refine j_iload_n C dX3_store_34 rfl ?_
      refine j_iconst C ic_1 dX3_store_35 ?_
      refine j_iadd C dX3_store_36 ?_
      refine j_aload_n C dX3_store_37 rfl ?_
      refine gf_X3_18 C dX3_store_38 ?_
      refine j_iload_n C dX3_store_41 rfl ?_
      refine j_isub C dX3_store_42 ?_
      replace hf := ac_s hf
      obtain ⟨h8, hf⟩ := hf
      refine cpC_15_15 C (own := RX3) (index := 30) tw_420 h8 (Nat.le_of_ble_eq_true rfl) (Nat.le_of_ble_eq_true rfl) dX3_store_43 ?_
      refine j_aload_n C dX3_store_46 rfl ?_
      refine gf_X3_15 C dX3_store_47 ?_
      refine j_iload_n C dX3_store_50 rfl ?_
      refine j_aload_n C dX3_store_51 rfl ?_
      refine gf_X3_15 C dX3_store_52 ?_
      refine j_iload_n C dX3_store_55 rfl ?_
      refine j_iconst C ic_1 dX3_store_56 ?_
      refine j_iadd C dX3_store_57 ?_
      refine j_aload_n C dX3_store_58 rfl ?_
      refine gf_X3_18 C dX3_store_59 ?_
      refine j_iload_n C dX3_store_62 rfl ?_
      refine j_isub C dX3_store_63 ?_
      replace hf := ac_s hf
      obtain ⟨h9, hf⟩ := hf
      refine cpC_16_16 C (own := RX3) (index := 30) tw_420 h9 (Nat.le_of_ble_eq_true rfl) (Nat.le_of_ble_eq_true rfl) dX3_store_64 ?_
      refine j_aload_n C dX3_store_67 rfl ?_
      refine gf_X3_9 C dX3_store_68 ?_
      refine j_iload_n C dX3_store_71 rfl ?_
      refine j_iload_n C dX3_store_72 rfl ?_
      replace hf := sd_s hf
      obtain ⟨h10, hf⟩ := hf
      refine aSC_15 C h10 dX3_store_73 ?_
      refine j_aload_n C dX3_store_74 rfl ?_
      refine j_dup C dX3_store_75 rfl ?_
      refine gf_X3_18 C dX3_store_76 ?_
      refine j_iconst C ic_1 dX3_store_79 ?_
      refine j_iadd C dX3_store_80 ?_
      refine pf_X3_18 C dX3_store_81 ?_
      refine j_weak [true, false, true, true] rfl ?_
      exact w_X3_store_84 C  _ _ _ _ hf
    · replace hf := it_f h7 hf
      cases hf
      exact j_vret C dX3_store_24
set_option maxRecDepth 100000 in
set_option maxHeartbeats 4000000 in
theorem c_X3_erase {l : Launch} {D : va_G} {cI cS : ClassId} {A : Nat → Prop} {a : Nat → Nat} {rest : va_W}  {σ : Nat → Nat → Int32} {x1 : Int32} {r : (Nat → Nat → Int32)} (hf : f_X3_erase σ x1 = some r) : CT l yX3_erase cX3_erase 3 none (rmF 1 64) D cI cS A [.ref (a 4), .int x1] (wC a cI σ rest) (wC a cI r rest) none := by
  refine CT_of (own := RX3) (xs := [some (.ref (a 4)), some (.int x1), none]) (by decide) rfl (Nat.le_of_ble_eq_true rfl) rfl ?_
  intro p e s_ m below meth c C
  unfold f_X3_erase at hf
  refine j_aload_n C dX3_erase_0 rfl ?_
  refine j_iload_n C dX3_erase_1 rfl ?_
  replace hf := bd hf
  obtain ⟨v1, h2, hf⟩ := hf
  refine j_callV C cl_X3_22 (c_X3_placeOf h2) ⟨Nat.le_of_ble_eq_true rfl, Nat.le_of_ble_eq_true rfl⟩ ⟨Nat.zero_le _, Nat.zero_le _⟩ (q0 := 4) rfl rfl rfl rfl (Nat.le_of_ble_eq_true rfl) rfl rfl rfl dX3_erase_2 ?_
  refine j_istore_n C (xs' := [some (.ref (a 4)), some (.int x1), some (.int v1)]) dX3_erase_5 rfl rfl ?_
  refine j_aload_n C dX3_erase_6 rfl ?_
  refine j_iload_n C dX3_erase_7 rfl ?_
  refine j_iload_n C dX3_erase_8 rfl ?_
  replace hf := bd hf
  obtain ⟨v3, h4, hf⟩ := hf
  refine j_callV C cl_X3_26 (c_X3_isAt h4) ⟨Nat.le_of_ble_eq_true rfl, Nat.le_of_ble_eq_true rfl⟩ ⟨Nat.zero_le _, Nat.zero_le _⟩ (q0 := 4) rfl rfl rfl rfl (Nat.le_of_ble_eq_true rfl) rfl rfl rfl dX3_erase_9 ?_
  refine j_if_ne C (tgt := 16) (by decide) dX3_erase_12 (fun h5 => ?_) (fun h5 => ?_)
  · replace hf := it_f h5 hf
    refine j_aload_n C dX3_erase_16 rfl ?_
    refine j_dup C dX3_erase_17 rfl ?_
    refine gf_X3_18 C dX3_erase_18 ?_
    refine j_iconst C ic_1 dX3_erase_21 ?_
    refine j_isub C dX3_erase_22 ?_
    refine pf_X3_18 C dX3_erase_23 ?_
    refine j_aload_n C dX3_erase_26 rfl ?_
    refine gf_X3_9 C dX3_erase_27 ?_
    refine j_iload_n C dX3_erase_30 rfl ?_
    refine j_iconst C ic_1 dX3_erase_31 ?_
    refine j_iadd C dX3_erase_32 ?_
    refine j_aload_n C dX3_erase_33 rfl ?_
    refine gf_X3_9 C dX3_erase_34 ?_
    refine j_iload_n C dX3_erase_37 rfl ?_
    refine j_aload_n C dX3_erase_38 rfl ?_
    refine gf_X3_18 C dX3_erase_39 ?_
    refine j_iload_n C dX3_erase_42 rfl ?_
    refine j_isub C dX3_erase_43 ?_
    replace hf := ac_s hf
    obtain ⟨h6, hf⟩ := hf
    refine cpC_15_15 C (own := RX3) (index := 30) tw_420 h6 (Nat.le_of_ble_eq_true rfl) (Nat.le_of_ble_eq_true rfl) dX3_erase_44 ?_
    refine j_aload_n C dX3_erase_47 rfl ?_
    refine gf_X3_15 C dX3_erase_48 ?_
    refine j_iload_n C dX3_erase_51 rfl ?_
    refine j_iconst C ic_1 dX3_erase_52 ?_
    refine j_iadd C dX3_erase_53 ?_
    refine j_aload_n C dX3_erase_54 rfl ?_
    refine gf_X3_15 C dX3_erase_55 ?_
    refine j_iload_n C dX3_erase_58 rfl ?_
    refine j_aload_n C dX3_erase_59 rfl ?_
    refine gf_X3_18 C dX3_erase_60 ?_
    refine j_iload_n C dX3_erase_63 rfl ?_
    refine j_isub C dX3_erase_64 ?_
    replace hf := ac_s hf
    obtain ⟨h7, hf⟩ := hf
    refine cpC_16_16 C (own := RX3) (index := 30) tw_420 h7 (Nat.le_of_ble_eq_true rfl) (Nat.le_of_ble_eq_true rfl) dX3_erase_65 ?_
    cases hf
    exact j_vret C dX3_erase_68
  · replace hf := it_t h5 hf
    cases hf
    exact j_vret C dX3_erase_15
set_option maxRecDepth 100000 in
set_option maxHeartbeats 4000000 in
theorem c_X4_append {l : Launch} {D : va_G} {cI cS : ClassId} {A : Nat → Prop} {a : Nat → Nat} {rest : va_W}  {σ : Nat → Nat → Int32} {x1 : Int32} {x2 : Int32} {r : Int32 × (Nat → Nat → Int32)} (hf : f_X4_append σ x1 x2 = some r) : CT l yX4_append cX4_append 4 (some .int) (rmF 1 20) D cI cS A [.ref (a 2), .int x1, .int x2] (wC a cI σ rest) (wC a cI r.2 rest) (some (.int r.1)) := by
  refine CT_of (own := RX4) (xs := [some (.ref (a 2)), some (.int x1), some (.int x2), none]) (by decide) rfl (Nat.le_of_ble_eq_true rfl) rfl ?_
  intro p e s_ m below meth c C
  unfold f_X4_append at hf
  refine j_aload_n C dX4_append_0 rfl ?_
  refine gf_X4_18 C dX4_append_1 ?_
  refine j_istore_n C (xs' := [some (.ref (a 2)), some (.int x1), some (.int x2), some (.int (σ 0 6))]) dX4_append_4 rfl rfl ?_
  refine j_iload_n C dX4_append_5 rfl ?_
  refine j_bipush C bp_8 dX4_append_6 ?_
  refine j_icmp_lt C (tgt := 13) (by decide) dX4_append_8 (fun h1 => ?_) (fun h1 => ?_)
  · replace hf := it_t h1 hf
    refine j_aload_n C dX4_append_13 rfl ?_
    refine gf_X4_9 C dX4_append_14 ?_
    refine j_iload_n C dX4_append_17 rfl ?_
    refine j_iload_n C dX4_append_18 rfl ?_
    replace hf := sd_s hf
    obtain ⟨h2, hf⟩ := hf
    refine aSC_7 C h2 dX4_append_19 ?_
    refine j_aload_n C dX4_append_20 rfl ?_
    refine gf_X4_15 C dX4_append_21 ?_
    refine j_iload_n C dX4_append_24 rfl ?_
    refine j_iload_n C dX4_append_25 rfl ?_
    replace hf := sd_s hf
    obtain ⟨h3, hf⟩ := hf
    refine aSC_8 C h3 dX4_append_26 ?_
    refine j_aload_n C dX4_append_27 rfl ?_
    refine j_dup C dX4_append_28 rfl ?_
    refine gf_X4_22 C dX4_append_29 ?_
    refine j_iload_n C dX4_append_32 rfl ?_
    replace hf := bd hf
    obtain ⟨v4, h5, hf⟩ := hf
    refine j_callSN C cl_X4_25 (c_X8_bit h5) ⟨Nat.le_of_ble_eq_true rfl, Nat.le_of_ble_eq_true rfl⟩ ⟨Nat.zero_le _, Nat.zero_le _⟩ rfl (Nat.le_of_ble_eq_true rfl) rfl rfl rfl dX4_append_33 ?_
    refine j_ior C dX4_append_36 ?_
    refine pf_X4_22 C dX4_append_37 ?_
    refine j_aload_n C dX4_append_40 rfl ?_
    refine j_dup C dX4_append_41 rfl ?_
    refine gf_X4_18 C dX4_append_42 ?_
    refine j_iconst C ic_1 dX4_append_45 ?_
    refine j_iadd C dX4_append_46 ?_
    refine pf_X4_18 C dX4_append_47 ?_
    refine j_iload_n C dX4_append_50 rfl ?_
    cases hf
    exact j_iret C dX4_append_51
  · replace hf := it_f h1 hf
    refine j_iconst C ic_m1 dX4_append_11 ?_
    cases hf
    exact j_iret C dX4_append_12
set_option maxRecDepth 100000 in
set_option maxHeartbeats 4000000 in
theorem c_X5_exists {l : Launch} {D : va_G} {cI cS : ClassId} {A : Nat → Prop} {a : Nat → Nat} {rest : va_W}  {σ : Nat → Nat → Int32} {x1 : Int32} {r : Int32} (hf : f_X5_exists σ x1 = some r) : CT l yX5_exists cX5_exists 2 (some .boolean) (rmF 0 0) D cI cS A [.ref (a 3), .int x1] (wC a cI σ rest) (wC a cI σ rest) (some (.int r)) := by
  refine CT_of (own := RX5) (xs := [some (.ref (a 3)), some (.int x1)]) (by decide) rfl (Nat.le_of_ble_eq_true rfl) rfl ?_
  intro p e s_ m below meth c C
  unfold f_X5_exists at hf
  refine j_iload_n C dX5_exists_0 rfl ?_
  refine j_if_lt C (tgt := 16) (by decide) dX5_exists_1 (fun h1 => ?_) (fun h1 => ?_)
  · replace hf := it_t h1 hf
    refine j_iconst C ic_0 dX5_exists_16 ?_
    cases hf
    exact j_zret C zc_0 dX5_exists_17
  · replace hf := it_f h1 hf
    refine j_iload_n C dX5_exists_4 rfl ?_
    refine j_aload_n C dX5_exists_5 rfl ?_
    refine gf_X5_30 C dX5_exists_6 ?_
    refine j_icmp_ge C (tgt := 16) (by decide) dX5_exists_9 (fun h2 => ?_) (fun h2 => ?_)
    · replace hf := it_t h2 hf
      refine j_iconst C ic_0 dX5_exists_16 ?_
      cases hf
      exact j_zret C zc_0 dX5_exists_17
    · replace hf := it_f h2 hf
      refine j_iconst C ic_1 dX5_exists_12 ?_
      refine j_goto C (tgt := 17) (by decide) dX5_exists_13 ?_
      cases hf
      exact j_zret C zc_1 dX5_exists_17
set_option maxRecDepth 100000 in
set_option maxHeartbeats 4000000 in
theorem w_X5_holding_2 {p : Program} {l : Launch} {e : Env} {s_ : State} {m : MethodId} {args : Array Value} {below : List Frame} {meth : Method} {c : Code} {D : va_G} {cI cS : ClassId} {A : Nat → Prop} {a : Nat → Nat} {rest : va_W}  (C : cx p s_ m args meth c cX5_holding 3 RX5 (some .int) D cI cS)  : ∀ (n_ : Nat) (σ : Nat → Nat → Int32) (x1 : Int32) (x2 : Int32) (r : Int32), f_X5_holding_2  n_ σ x1 x2 = some r → jG p l e (rmF 0 0) s_ m args below meth c 3 D A (MQ below (QW D A (wC a cI σ rest) (some (.int r))) args s_ 0 0 A) (wC a cI σ rest) [some (.ref (a 3)), some (.int x1), some (.int x2)] 2 [] := by
  intro n_
  induction n_ with
  | zero =>
    intro σ x1 x2 r hf
    rw [f_X5_holding_2] at hf
    cases hf
  | succ n_ hk2 =>
    intro σ x1 x2 r hf
    rw [f_X5_holding_2] at hf
    refine j_iload_n C dX5_holding_2 rfl ?_
    refine j_iconst C ic_1 dX5_holding_3 ?_
    refine j_iadd C dX5_holding_4 ?_
    refine j_aload_n C dX5_holding_5 rfl ?_
    refine gf_X5_30 C dX5_holding_6 ?_
    refine j_icmp_ge C (tgt := 30) (by decide) dX5_holding_9 (fun h1 => ?_) (fun h1 => ?_)
    · replace hf := it_t h1 hf
      refine j_iload_n C dX5_holding_30 rfl ?_
      cases hf
      exact j_iret C dX5_holding_31
    · replace hf := it_f h1 hf
      refine j_aload_n C dX5_holding_12 rfl ?_
      refine gf_X5_9 C dX5_holding_13 ?_
      refine j_iload_n C dX5_holding_16 rfl ?_
      refine j_iconst C ic_1 dX5_holding_17 ?_
      refine j_iadd C dX5_holding_18 ?_
      replace hf := ld_s hf
      obtain ⟨v2, h3, e_v2, hf⟩ := hf
      refine aLC_9 C h3 e_v2 dX5_holding_19 ?_
      refine j_iload_n C dX5_holding_20 rfl ?_
      refine j_icmp_gt C (tgt := 30) (by decide) dX5_holding_21 (fun h4 => ?_) (fun h4 => ?_)
      · replace hf := it_t h4 hf
        refine j_iload_n C dX5_holding_30 rfl ?_
        cases hf
        exact j_iret C dX5_holding_31
      · replace hf := it_f h4 hf
        refine j_iinc C (xs' := [some (.ref (a 3)), some (.int x1), some (.int (x2 + (1 : Int32)))]) dX5_holding_24 rfl (ii_1 _) rfl rfl ?_
        refine j_goto C (tgt := 2) (by decide) dX5_holding_27 ?_
        exact hk2 _ _ _ _ hf
set_option maxRecDepth 100000 in
set_option maxHeartbeats 4000000 in
theorem c_X5_holding {l : Launch} {D : va_G} {cI cS : ClassId} {A : Nat → Prop} {a : Nat → Nat} {rest : va_W}  {σ : Nat → Nat → Int32} {x1 : Int32} {r : Int32} (hf : f_X5_holding σ x1 = some r) : CT l yX5_holding cX5_holding 3 (some .int) (rmF 0 0) D cI cS A [.ref (a 3), .int x1] (wC a cI σ rest) (wC a cI σ rest) (some (.int r)) := by
  refine CT_of (own := RX5) (xs := [some (.ref (a 3)), some (.int x1), none]) (by decide) rfl (Nat.le_of_ble_eq_true rfl) rfl ?_
  intro p e s_ m below meth c C
  unfold f_X5_holding at hf
  refine j_iconst C ic_0 dX5_holding_0 ?_
  refine j_istore_n C (xs' := [some (.ref (a 3)), some (.int x1), some (.int (0 : Int32))]) dX5_holding_1 rfl rfl ?_
  exact w_X5_holding_2 C  _ _ _ _ _ hf
set_option maxRecDepth 100000 in
set_option maxHeartbeats 4000000 in
theorem w_X5_anyLearner_2 {p : Program} {l : Launch} {e : Env} {s_ : State} {m : MethodId} {args : Array Value} {below : List Frame} {meth : Method} {c : Code} {D : va_G} {cI cS : ClassId} {A : Nat → Prop} {a : Nat → Nat} {rest : va_W}  (C : cx p s_ m args meth c cX5_anyLearner 2 RX5 (some .boolean) D cI cS)  : ∀ (n_ : Nat) (σ : Nat → Nat → Int32) (x1 : Int32) (r : Int32), f_X5_anyLearner_2  n_ σ x1 = some r → jG p l e (rmF 1 21) s_ m args below meth c 2 D A (MQ below (QW D A (wC a cI σ rest) (some (.int r))) args s_ 0 0 A) (wC a cI σ rest) [some (.ref (a 3)), some (.int x1)] 2 [] := by
  intro n_
  induction n_ with
  | zero =>
    intro σ x1 r hf
    rw [f_X5_anyLearner_2] at hf
    cases hf
  | succ n_ hk2 =>
    intro σ x1 r hf
    rw [f_X5_anyLearner_2] at hf
    refine j_iload_n C dX5_anyLearner_2 rfl ?_
    refine j_aload_n C dX5_anyLearner_3 rfl ?_
    refine gf_X5_30 C dX5_anyLearner_4 ?_
    refine j_icmp_ge C (tgt := 26) (by decide) dX5_anyLearner_7 (fun h1 => ?_) (fun h1 => ?_)
    · replace hf := it_t h1 hf
      refine j_iconst C ic_0 dX5_anyLearner_26 ?_
      cases hf
      exact j_zret C zc_0 dX5_anyLearner_27
    · replace hf := it_f h1 hf
      refine j_aload_n C dX5_anyLearner_10 rfl ?_
      refine j_iload_n C dX5_anyLearner_11 rfl ?_
      replace hf := bd hf
      obtain ⟨v2, h3, hf⟩ := hf
      refine j_callV C cl_X5_34 (c_X5_hasLearner h3) ⟨Nat.le_of_ble_eq_true rfl, Nat.le_of_ble_eq_true rfl⟩ ⟨Nat.zero_le _, Nat.zero_le _⟩ (q0 := 3) rfl rfl rfl rfl (Nat.le_of_ble_eq_true rfl) rfl rfl rfl dX5_anyLearner_12 ?_
      refine j_if_eq C (tgt := 20) (by decide) dX5_anyLearner_15 (fun h4 => ?_) (fun h4 => ?_)
      · replace hf := it_t h4 hf
        refine j_iinc C (xs' := [some (.ref (a 3)), some (.int (x1 + (1 : Int32)))]) dX5_anyLearner_20 rfl (ii_1 _) rfl rfl ?_
        refine j_goto C (tgt := 2) (by decide) dX5_anyLearner_23 ?_
        exact hk2 _ _ _ hf
      · replace hf := it_f h4 hf
        refine j_iconst C ic_1 dX5_anyLearner_18 ?_
        cases hf
        exact j_zret C zc_1 dX5_anyLearner_19
set_option maxRecDepth 100000 in
set_option maxHeartbeats 4000000 in
theorem c_X5_anyLearner {l : Launch} {D : va_G} {cI cS : ClassId} {A : Nat → Prop} {a : Nat → Nat} {rest : va_W}  {σ : Nat → Nat → Int32}  {r : Int32} (hf : f_X5_anyLearner σ = some r) : CT l yX5_anyLearner cX5_anyLearner 2 (some .boolean) (rmF 1 21) D cI cS A [.ref (a 3)] (wC a cI σ rest) (wC a cI σ rest) (some (.int r)) := by
  refine CT_of (own := RX5) (xs := [some (.ref (a 3)), none]) (by decide) rfl (Nat.le_of_ble_eq_true rfl) rfl ?_
  intro p e s_ m below meth c C
  unfold f_X5_anyLearner at hf
  refine j_iconst C ic_0 dX5_anyLearner_0 ?_
  refine j_istore_n C (xs' := [some (.ref (a 3)), some (.int (0 : Int32))]) dX5_anyLearner_1 rfl rfl ?_
  exact w_X5_anyLearner_2 C  _ _ _ _ hf
set_option maxRecDepth 100000 in
set_option maxHeartbeats 4000000 in
theorem c_X5_learnerCode {l : Launch} {D : va_G} {cI cS : ClassId} {A : Nat → Prop} {a : Nat → Nat} {rest : va_W}  {σ : Nat → Nat → Int32} {x1 : Int32} {r : Int32} (hf : f_X5_learnerCode σ x1 = some r) : CT l yX5_learnerCode cX5_learnerCode 2 (some .int) (rmF 1 21) D cI cS A [.ref (a 3), .int x1] (wC a cI σ rest) (wC a cI σ rest) (some (.int r)) := by
  refine CT_of (own := RX5) (xs := [some (.ref (a 3)), some (.int x1)]) (by decide) rfl (Nat.le_of_ble_eq_true rfl) rfl ?_
  intro p e s_ m below meth c C
  unfold f_X5_learnerCode at hf
  refine j_aload_n C dX5_learnerCode_0 rfl ?_
  refine j_iload_n C dX5_learnerCode_1 rfl ?_
  replace hf := bd hf
  obtain ⟨v1, h2, hf⟩ := hf
  refine j_callV C cl_X5_34 (c_X5_hasLearner h2) ⟨Nat.le_of_ble_eq_true rfl, Nat.le_of_ble_eq_true rfl⟩ ⟨Nat.zero_le _, Nat.zero_le _⟩ (q0 := 3) rfl rfl rfl rfl (Nat.le_of_ble_eq_true rfl) rfl rfl rfl dX5_learnerCode_2 ?_
  refine j_if_eq C (tgt := 27) (by decide) dX5_learnerCode_5 (fun h3 => ?_) (fun h3 => ?_)
  · replace hf := it_t h3 hf
    refine j_iconst C ic_m1 dX5_learnerCode_27 ?_
    cases hf
    exact j_iret C dX5_learnerCode_28
  · replace hf := it_f h3 hf
    refine j_bipush C bp_100 dX5_learnerCode_8 ?_
    refine j_aload_n C dX5_learnerCode_10 rfl ?_
    refine gf_X5_24 C dX5_learnerCode_11 ?_
    refine j_iload_n C dX5_learnerCode_14 rfl ?_
    replace hf := ld_s hf
    obtain ⟨v4, h5, e_v4, hf⟩ := hf
    refine aLC_13 C h5 e_v4 dX5_learnerCode_15 ?_
    refine j_imul C dX5_learnerCode_16 ?_
    refine j_aload_n C dX5_learnerCode_17 rfl ?_
    refine gf_X5_21 C dX5_learnerCode_18 ?_
    refine j_iload_n C dX5_learnerCode_21 rfl ?_
    replace hf := ld_s hf
    obtain ⟨v6, h7, e_v6, hf⟩ := hf
    refine aLC_12 C h7 e_v6 dX5_learnerCode_22 ?_
    refine j_iadd C dX5_learnerCode_23 ?_
    refine j_goto C (tgt := 28) (by decide) dX5_learnerCode_24 ?_
    cases hf
    exact j_iret C dX5_learnerCode_28
set_option maxRecDepth 100000 in
set_option maxHeartbeats 4000000 in
theorem w_X6_append_30 {p : Program} {l : Launch} {e : Env} {s_ : State} {m : MethodId} {args : Array Value} {below : List Frame} {meth : Method} {c : Code} {D : va_G} {cI cS : ClassId} {A : Nat → Prop} {a : Nat → Nat} {rest : va_W}  (C : cx p s_ m args meth c cX6_append 2 RX6 none D cI cS)  : ∀ (σ : Nat → Nat → Int32) (x1 : Int32) (r : (Nat → Nat → Int32)), f_X6_append_30  σ x1 = some r → jG p l e (rmF 1 64) s_ m args below meth c 2 D A (MQ below (QW D A (wC a cI r rest) none) args s_ 0 0 A) (wC a cI σ rest) [some (.ref (a 5)), some (.int x1)] 30 [] := by
  intro σ x1 r hf
  unfold f_X6_append_30 at hf
  refine j_aload_n C dX6_append_30 rfl ?_
  refine gf_X6_9 C dX6_append_31 ?_
  refine j_aload_n C dX6_append_34 rfl ?_
  refine gf_X6_15 C dX6_append_35 ?_
  refine j_iload_n C dX6_append_38 rfl ?_
  replace hf := sd_s hf
  obtain ⟨h2, hf⟩ := hf
  refine aSC_17 C h2 dX6_append_39 ?_
  refine j_aload_n C dX6_append_40 rfl ?_
  refine j_dup C dX6_append_41 rfl ?_
  refine gf_X6_15 C dX6_append_42 ?_
  refine j_iconst C ic_1 dX6_append_45 ?_
  refine j_iadd C dX6_append_46 ?_
  refine pf_X6_15 C dX6_append_47 ?_
  cases hf
  exact j_vret C dX6_append_50
set_option maxRecDepth 100000 in
set_option maxHeartbeats 4000000 in
theorem c_X6_append {l : Launch} {D : va_G} {cI cS : ClassId} {A : Nat → Prop} {a : Nat → Nat} {rest : va_W}  {σ : Nat → Nat → Int32} {x1 : Int32} {r : (Nat → Nat → Int32)} (hf : f_X6_append σ x1 = some r) : CT l yX6_append cX6_append 2 none (rmF 1 64) D cI cS A [.ref (a 5), .int x1] (wC a cI σ rest) (wC a cI r rest) none := by
  refine CT_of (own := RX6) (xs := [some (.ref (a 5)), some (.int x1)]) (by decide) rfl (Nat.le_of_ble_eq_true rfl) rfl ?_
  intro p e s_ m below meth c C
  unfold f_X6_append at hf
  refine j_aload_n C dX6_append_0 rfl ?_
  refine gf_X6_15 C dX6_append_1 ?_
  refine j_bipush C bp_32 dX6_append_4 ?_
  refine j_icmp_lt C (tgt := 30) (by decide) dX6_append_6 (fun h1 => ?_) (fun h1 => ?_)
  · replace hf := it_t h1 hf
    exact w_X6_append_30 C  _ _ _ hf
  · replace hf := it_f h1 hf
    refine j_aload_n C dX6_append_9 rfl ?_
    refine gf_X6_9 C dX6_append_10 ?_
    refine j_iconst C ic_1 dX6_append_13 ?_
    refine j_aload_n C dX6_append_14 rfl ?_
    refine gf_X6_9 C dX6_append_15 ?_
    refine j_iconst C ic_0 dX6_append_18 ?_
    refine j_bipush C bp_31 dX6_append_19 ?_
    replace hf := ac_s hf
    obtain ⟨h3, hf⟩ := hf
    refine cpC_17_17 C (own := RX6) (index := 19) tw_437 h3 (Nat.le_of_ble_eq_true rfl) (Nat.le_of_ble_eq_true rfl) dX6_append_21 ?_
    refine j_aload_n C dX6_append_24 rfl ?_
    refine j_bipush C bp_31 dX6_append_25 ?_
    refine pf_X6_15 C dX6_append_27 ?_
    exact w_X6_append_30 C  _ _ _ hf
set_option maxRecDepth 100000 in
set_option maxHeartbeats 4000000 in
theorem w_X8_mixRow_10 {p : Program} {l : Launch} {e : Env} {s_ : State} {m : MethodId} {args : Array Value} {below : List Frame} {meth : Method} {c : Code} {D : va_G} {cI cS : ClassId} {A : Nat → Prop} {a : Nat → Nat} {rest : va_W}  (C : cx p s_ m args meth c cX8_mixRow 7 RX8 (some .long) D cI cS)  : ∀ (n_ : Nat) (σ : Nat → Nat → Int32) (x2 : Int32) (x4 : Int64) (x6 : Int32) (r : Int64), f_X8_mixRow_10  n_ σ x2 x4 x6 = some r → jG p l e (rmF 1 22) s_ m args below meth c 7 D A (MQ below (QW D A (wC a cI σ rest) (some (.long r))) args s_ 0 0 A) (wC a cI σ rest) [none, none, some (.int x2), some (.ref (a 17)), some (.long x4), none, some (.int x6)] 10 [] := by
  intro n_
  induction n_ with
  | zero =>
    intro σ x2 x4 x6 r hf
    rw [f_X8_mixRow_10] at hf
    cases hf
  | succ n_ hk10 =>
    intro σ x2 x4 x6 r hf
    rw [f_X8_mixRow_10] at hf
    refine j_iload C dX8_mixRow_10 rfl ?_
    refine j_iload_n C dX8_mixRow_12 rfl ?_
    refine j_icmp_ge C (tgt := 40) (by decide) dX8_mixRow_13 (fun h3 => ?_) (fun h3 => ?_)
    · replace hf := it_t h3 hf
      refine j_lload C dX8_mixRow_40 rfl ?_
      cases hf
      exact j_lret C dX8_mixRow_42
    · replace hf := it_f h3 hf
      refine j_iload C dX8_mixRow_16 rfl ?_
      refine j_aload_n C dX8_mixRow_18 rfl ?_
      refine aNC_17 C dX8_mixRow_19 ?_
      refine j_icmp_ge C (tgt := 40) (by decide) dX8_mixRow_20 (fun h4 => ?_) (fun h4 => ?_)
      · replace hf := it_t h4 hf
        refine j_lload C dX8_mixRow_40 rfl ?_
        cases hf
        exact j_lret C dX8_mixRow_42
      · replace hf := it_f h4 hf
        refine j_lload C dX8_mixRow_23 rfl ?_
        refine j_aload_n C dX8_mixRow_25 rfl ?_
        refine j_iload C dX8_mixRow_26 rfl ?_
        replace hf := ld_s hf
        obtain ⟨v5, h6, e_v5, hf⟩ := hf
        refine aLC_17 C h6 e_v5 dX8_mixRow_28 ?_
        replace hf := bd hf
        obtain ⟨v7, h8, hf⟩ := hf
        refine j_callS C cl_X8_208 (c_X8_mix h8) ⟨Nat.le_of_ble_eq_true rfl, Nat.le_of_ble_eq_true rfl⟩ ⟨Nat.zero_le _, Nat.zero_le _⟩ rfl (Nat.le_of_ble_eq_true rfl) rfl rfl rfl dX8_mixRow_29 ?_
        refine j_lstore C (xs' := [none, none, some (.int x2), some (.ref (a 17)), some (.long v7), none, some (.int x6)]) dX8_mixRow_32 rfl rfl ?_
        refine j_iinc C (xs' := [none, none, some (.int x2), some (.ref (a 17)), some (.long v7), none, some (.int (x6 + (1 : Int32)))]) dX8_mixRow_34 rfl (ii_1 _) rfl rfl ?_
        refine j_goto C (tgt := 10) (by decide) dX8_mixRow_37 ?_
        exact hk10 _ _ _ _ _ hf
set_option maxRecDepth 100000 in
set_option maxHeartbeats 4000000 in
theorem c_X8_mixRow {l : Launch} {D : va_G} {cI cS : ClassId} {A : Nat → Prop} {a : Nat → Nat} {rest : va_W}  {σ : Nat → Nat → Int32} {x0 : Int64} {x2 : Int32} {r : Int64} (hf : f_X8_mixRow σ x0 x2 = some r) : CT l yX8_mixRow cX8_mixRow 7 (some .long) (rmF 1 22) D cI cS A [.long x0, .int x2, .ref (a 17)] (wC a cI σ rest) (wC a cI σ rest) (some (.long r)) := by
  refine CT_of (own := RX8) (xs := [some (.long x0), none, some (.int x2), some (.ref (a 17)), none, none, none]) (by decide) rfl (Nat.le_of_ble_eq_true rfl) rfl ?_
  intro p e s_ m below meth c C
  unfold f_X8_mixRow at hf
  refine j_lload_n C dX8_mixRow_0 rfl ?_
  refine j_iload_n C dX8_mixRow_1 rfl ?_
  replace hf := bd hf
  obtain ⟨v1, h2, hf⟩ := hf
  refine j_callS C cl_X8_208 (c_X8_mix h2) ⟨Nat.le_of_ble_eq_true rfl, Nat.le_of_ble_eq_true rfl⟩ ⟨Nat.zero_le _, Nat.zero_le _⟩ rfl (Nat.le_of_ble_eq_true rfl) rfl rfl rfl dX8_mixRow_2 ?_
  refine j_lstore C (xs' := [some (.long x0), none, some (.int x2), some (.ref (a 17)), some (.long v1), none, none]) dX8_mixRow_5 rfl rfl ?_
  refine j_iconst C ic_0 dX8_mixRow_7 ?_
  refine j_istore C (xs' := [some (.long x0), none, some (.int x2), some (.ref (a 17)), some (.long v1), none, some (.int (0 : Int32))]) dX8_mixRow_8 rfl rfl ?_
  refine j_weak [false, false, true, true, true, false, true] rfl ?_
  exact w_X8_mixRow_10 C  _ _ _ _ _ _ hf

def f_X1_advanceLearner (σ : Nat → Nat → Int32) (x1 : Int32) : Option ((Nat → Nat → Int32)) := (ld (σ 12) 16 x1 fun v1 => ((f_X4_isUp σ v1).bind fun v3 => (if v3 = 0 then (some σ) else (ld (σ 11) 16 x1 fun v6 => (if v6 = (-1 : Int32) then (some σ) else (ld (σ 13) 16 x1 fun v9 => (sd 16 x1 (ld ((cu σ 13 x1.toNatClampNeg (v9 - (1 : Int32))) 13) 16 x1 fun v12 => (if v12 ≤ 0 then (ld ((cu σ 13 x1.toNatClampNeg (v9 - (1 : Int32))) 14) 16 x1 fun v15 => ((f_X5_clearLearner (cu σ 13 x1.toNatClampNeg (v9 - (1 : Int32))) x1).bind fun v17 => (ld (v17 10) 16 x1 fun v19 => ((f_X8_bit v1).bind fun v21 => ((f_X8_bit v15).bind fun v23 => (sd 16 x1 (ld ((cu v17 10 x1.toNatClampNeg ((v19 ||| v21) &&& (v23 ^^^ (-1 : Int32)))) 11) 16 x1 fun v26 => (if v26 = v15 then ((f_X0_elect (cu v17 10 x1.toNatClampNeg ((v19 ||| v21) &&& (v23 ^^^ (-1 : Int32)))) x1).bind fun v29 => (some v29)) else (some (cu v17 10 x1.toNatClampNeg ((v19 ||| v21) &&& (v23 ^^^ (-1 : Int32))))))))))))) else (some (cu σ 13 x1.toNatClampNeg (v9 - (1 : Int32)))))))))))))
def f_X1_isFresh (σ : Nat → Nat → Int32) (x1 : Int32) (x2 : Int32) (x3 : Int32) : Option (Int32) := (ld (σ 10) 16 x1 fun v1 => ((f_X8_bit x2).bind fun v3 => ((f_X4_zonesOf σ (v1 &&& (v3 ^^^ (-1 : Int32)))).bind fun v5 => ((f_X8_bit x3).bind fun v7 => ((f_X4_zonesOf σ v7).bind fun v9 => (if (v5 &&& v9) = 0 then (some (1 : Int32)) else (some (0 : Int32))))))))
def f_X1_choose_132 (k45 : (Nat → Nat → Int32) → Int32 → Int32 → Int32 → Int32 → Int32 → Int32 → Option (Int32)) (σ : Nat → Nat → Int32) (x1 : Int32) (x2 : Int32) (x4 : Int32) (x7 : Int32) (x9 : Int32) : Option (Int32) := (k45 σ x1 x2 x4 x7 x9 (x7 + (1 : Int32)))
def f_X1_choose_117 (k45 : (Nat → Nat → Int32) → Int32 → Int32 → Int32 → Int32 → Int32 → Int32 → Option (Int32)) (σ : Nat → Nat → Int32) (x1 : Int32) (x2 : Int32) (x4 : Int32) (x5 : Int32) (x6 : Int32) (x7 : Int32) (y0 : Int32) : Option (Int32) := (if x5 = (-1 : Int32) then (f_X1_choose_132 k45 σ x1 x2 x4 x7 y0) else (if x6 ≤ y0 then (k45 σ x1 x2 x4 x5 x6 (x7 + (1 : Int32))) else (f_X1_choose_132 k45 σ x1 x2 x4 x7 y0)))
def f_X1_choose_45  : Nat → (Nat → Nat → Int32) → Int32 → Int32 → Int32 → Int32 → Int32 → Int32 → Option (Int32)
  | 0, _, _, _, _, _, _, _ => none
  | n_ + 1, σ, x1, x2, x4, x5, x6, x7 => (if σ 0 6 ≤ x7 then (some x5) else ((f_X5_replicasOn σ x7).bind fun v8 => ((f_X8_bit x7).bind fun v10 => (if (x4 &&& v10) = 0 then ((f_X1_choose_45 n_) σ x1 x2 x4 x5 x6 (x7 + (1 : Int32))) else (ld (σ 8) 8 x7 fun v13 => (if v13 ≤ v8 then ((f_X1_choose_45 n_) σ x1 x2 x4 x5 x6 (x7 + (1 : Int32))) else ((f_X1_isFresh σ x1 x2 x7).bind fun v16 => (if v16 = 0 then (f_X1_choose_117 (f_X1_choose_45 n_) σ x1 x2 x4 x5 x6 x7 ((v8 + (16 : Int32)) + (1 : Int32))) else (f_X1_choose_117 (f_X1_choose_45 n_) σ x1 x2 x4 x5 x6 x7 v8)))))))))
def f_X1_choose (σ : Nat → Nat → Int32) (x1 : Int32) (x2 : Int32) : Option (Int32) := (ld (σ 10) 16 x1 fun v1 => (ld (σ 12) 16 x1 fun v3 => ((f_X8_bit v3).bind fun v5 => (f_X1_choose_45 FU σ x1 x2 (σ 0 7 &&& ((v1 ||| v5) ^^^ (-1 : Int32))) (-1 : Int32) (0 : Int32) (0 : Int32)))))
def f_X1_create (σ : Nat → Nat → Int32) (x1 : Int32) : Option (Int32 × (Nat → Nat → Int32)) := (ld (σ 10) 16 x1 fun v1 => (if v1 = 0 then ((f_X1_choose σ x1 (-1 : Int32)).bind fun v4 => (if v4 = (-1 : Int32) then (some ((0 : Int32), σ)) else ((f_X8_bit v4).bind fun v7 => (sd 16 x1 ((f_X0_elect (cu σ 10 x1.toNatClampNeg v7) x1).bind fun v10 => (some ((1 : Int32), v10))))))) else (some ((0 : Int32), σ))))
def f_X1_lowestOf_2  : Nat → (Nat → Nat → Int32) → Int32 → Int32 → Option (Int32)
  | 0, _, _, _ => none
  | n_ + 1, σ, x1, x2 => (if σ 0 6 ≤ x2 then (some (-1 : Int32)) else ((f_X8_bit x2).bind fun v2 => (if (x1 &&& v2) = 0 then ((f_X1_lowestOf_2 n_) σ x1 (x2 + (1 : Int32))) else (some x2))))
def f_X1_lowestOf (σ : Nat → Nat → Int32) (x1 : Int32) : Option (Int32) := (f_X1_lowestOf_2 FU σ x1 (0 : Int32))
def f_X1_teach (σ : Nat → Nat → Int32) (x1 : Int32) (x2 : Int32) (x3 : Int32) : Option ((Nat → Nat → Int32)) := ((f_X0_rangeSize σ x1).bind fun v1 => ((f_X7_learnerTicks σ v1).bind fun v3 => ((f_X5_setLearner σ x1 x2 v3 x3).bind fun v5 => (some v5))))
def f_X1_repair (σ : Nat → Nat → Int32) (x1 : Int32) : Option (Int32 × (Nat → Nat → Int32)) := ((f_X5_hasLearner σ x1).bind fun v1 => (if v1 = 0 then ((f_X0_hasQuorum σ x1).bind fun v4 => (if v4 = 0 then (some ((0 : Int32), σ)) else ((f_X0_votersUp σ x1).bind fun v7 => ((f_J6_bitCount_0f7a4 v7).bind fun v9 => (if v9 < σ 0 0 then ((f_X0_votersDown σ x1).bind fun v12 => ((f_X1_lowestOf σ v12).bind fun v14 => ((f_X1_choose σ x1 v14).bind fun v16 => (if v16 = (-1 : Int32) then (some ((0 : Int32), σ)) else ((f_X1_teach σ x1 v16 v14).bind fun v19 => (some ((1 : Int32), v19))))))) else (some ((0 : Int32), σ))))))) else (some ((0 : Int32), σ))))
def f_X1_isWhole (σ : Nat → Nat → Int32) (x1 : Int32) : Option (Int32) := ((f_X5_hasLearner σ x1).bind fun v1 => (if v1 = 0 then ((f_X0_votersDown σ x1).bind fun v4 => (if v4 = 0 then ((f_X0_hasQuorum σ x1).bind fun v7 => (if v7 = 0 then (some (0 : Int32)) else (some (1 : Int32)))) else (some (0 : Int32)))) else (some (0 : Int32))))
def f_X1_highestSharingZone_10  : Nat → (Nat → Nat → Int32) → Int32 → Int32 → Option (Int32)
  | 0, _, _, _ => none
  | n_ + 1, σ, x1, x2 => (if x2 < 0 then (some (-1 : Int32)) else ((f_X8_bit x2).bind fun v2 => (if (x1 &&& v2) = 0 then ((f_X1_highestSharingZone_10 n_) σ x1 (x2 + (-1 : Int32))) else ((f_X4_zonesOf σ (x1 &&& (v2 ^^^ (-1 : Int32)))).bind fun v5 => ((f_X4_zonesOf σ v2).bind fun v7 => (if (v5 &&& v7) = 0 then ((f_X1_highestSharingZone_10 n_) σ x1 (x2 + (-1 : Int32))) else (some x2)))))))
def f_X1_highestSharingZone (σ : Nat → Nat → Int32) (x1 : Int32) : Option (Int32) := (f_X1_highestSharingZone_10 FU σ x1 (σ 0 6 - (1 : Int32)))
def f_X1_spread (σ : Nat → Nat → Int32) (x1 : Int32) : Option (Int32 × (Nat → Nat → Int32)) := ((f_X1_isWhole σ x1).bind fun v1 => (if v1 = 0 then (some ((0 : Int32), σ)) else (ld (σ 10) 16 x1 fun v4 => ((f_X1_highestSharingZone σ v4).bind fun v6 => (if v6 = (-1 : Int32) then (some ((0 : Int32), σ)) else ((f_X1_choose σ x1 v6).bind fun v9 => (if v9 = (-1 : Int32) then (some ((0 : Int32), σ)) else ((f_X1_isFresh σ x1 v6 v9).bind fun v12 => (if v12 = 0 then (some ((0 : Int32), σ)) else ((f_X1_teach σ x1 v9 v6).bind fun v15 => (some ((1 : Int32), v15))))))))))))
def f_X1_divideAt (σ : Nat → Nat → Int32) (x1 : Int32) (x2 : Int32) : Option (Int32 × (Nat → Nat → Int32)) := (if x2 = (-1 : Int32) then (some ((0 : Int32), σ)) else ((f_X5_divide σ x1 x2).bind fun v2 => (some ((1 : Int32), v2))))
def f_X1_splitBySize (σ : Nat → Nat → Int32) (x1 : Int32) : Option (Int32 × (Nat → Nat → Int32)) := ((f_X5_hasLearner σ x1).bind fun v1 => (if v1 = 0 then ((f_X5_isFull σ).bind fun v4 => (if v4 = 0 then ((f_X0_rangeSize σ x1).bind fun v7 => (if σ 0 2 < v7 then ((f_X0_sizeSplitKey σ x1).bind fun v10 => ((f_X1_divideAt σ x1 v10).bind fun v12 => (zr v12.1 (some (v12.1, v12.2))))) else (some ((0 : Int32), σ)))) else (some ((0 : Int32), σ)))) else (some ((0 : Int32), σ))))
def f_X1_splitByLoad (σ : Nat → Nat → Int32) (x1 : Int32) : Option (Int32 × (Nat → Nat → Int32)) := ((f_X5_hasLearner σ x1).bind fun v1 => (if v1 = 0 then ((f_X5_isFull σ).bind fun v4 => (if v4 = 0 then ((f_X0_rangeLoad σ x1).bind fun v7 => (if σ 0 4 < v7 then ((f_X0_loadSplitKey σ x1).bind fun v10 => ((f_X1_divideAt σ x1 v10).bind fun v12 => (zr v12.1 (some (v12.1, v12.2))))) else (some ((0 : Int32), σ)))) else (some ((0 : Int32), σ)))) else (some ((0 : Int32), σ))))
def f_X1_isCold (σ : Nat → Nat → Int32) (x1 : Int32) : Option (Int32) := ((f_X5_hasLearner σ x1).bind fun v1 => (if v1 = 0 then ((f_X0_hasQuorum σ x1).bind fun v4 => (if v4 = 0 then (some (0 : Int32)) else ((f_X0_rangeSize σ x1).bind fun v7 => (if σ 0 1 ≤ v7 then (some (0 : Int32)) else ((f_X0_rangeLoad σ x1).bind fun v10 => (if σ 0 3 ≤ v10 then (some (0 : Int32)) else (some (1 : Int32)))))))) else (some (0 : Int32))))
def f_X1_merge (σ : Nat → Nat → Int32) (x1 : Int32) : Option (Int32 × (Nat → Nat → Int32)) := (if σ 0 8 ≤ (x1 + (1 : Int32)) then (some ((0 : Int32), σ)) else (ld (σ 10) 16 x1 fun v2 => (ld (σ 10) 16 (x1 + (1 : Int32)) fun v4 => (if v2 = v4 then ((f_X1_isCold σ x1).bind fun v7 => (if v7 = 0 then (some ((0 : Int32), σ)) else ((f_X1_isCold σ (x1 + (1 : Int32))).bind fun v10 => (if v10 = 0 then (some ((0 : Int32), σ)) else ((f_X0_rangeSize σ x1).bind fun v13 => ((f_X0_rangeSize σ (x1 + (1 : Int32))).bind fun v15 => (if (v13 + v15) ≤ σ 0 2 then ((f_X5_absorbNext σ x1).bind fun v18 => (some ((1 : Int32), v18))) else (some ((0 : Int32), σ))))))))) else (some ((0 : Int32), σ))))))
def f_X1_shiftLeader (σ : Nat → Nat → Int32) (x1 : Int32) : Option (Int32 × (Nat → Nat → Int32)) := (ld (σ 11) 16 x1 fun v1 => (if v1 = (-1 : Int32) then (some ((0 : Int32), σ)) else ((f_X0_votersUp σ x1).bind fun v4 => ((f_X0_leastLeading σ v4).bind fun v6 => (if v6 = (-1 : Int32) then (some ((0 : Int32), σ)) else ((f_X5_ledBy σ v6).bind fun v9 => ((f_X5_ledBy σ v1).bind fun v11 => (if (v9 + (2 : Int32)) ≤ v11 then (sd 16 x1 (some ((1 : Int32), (cu σ 11 x1.toNatClampNeg v6)))) else (some ((0 : Int32), σ))))))))))
def f_X1_mostLoaded_7  : Nat → (Nat → Nat → Int32) → Int32 → Int32 → Int32 → Int32 → Option (Int32)
  | 0, _, _, _, _, _ => none
  | n_ + 1, σ, x1, x2, x3, x4 => (if σ 0 6 ≤ x4 then (some x2) else ((f_X8_bit x4).bind fun v2 => (if (x1 &&& v2) = 0 then ((f_X1_mostLoaded_7 n_) σ x1 x2 x3 (x4 + (1 : Int32))) else ((f_X5_replicasOn σ x4).bind fun v5 => (if v5 ≤ x3 then ((f_X1_mostLoaded_7 n_) σ x1 x2 x3 (x4 + (1 : Int32))) else ((f_X5_replicasOn σ x4).bind fun v8 => ((f_X1_mostLoaded_7 n_) σ x1 x4 v8 (x4 + (1 : Int32)))))))))
def f_X1_mostLoaded (σ : Nat → Nat → Int32) (x1 : Int32) : Option (Int32) := (f_X1_mostLoaded_7 FU σ x1 (-1 : Int32) (-1 : Int32) (0 : Int32))
def f_X1_shiftReplica_109  (σ : Nat → Nat → Int32) (x1 : Int32) (x2 : Int32) (x3 : Int32) : Option (Int32 × (Nat → Nat → Int32)) := ((f_X1_teach σ x1 x3 x2).bind fun v24 => (some ((1 : Int32), v24)))
def f_X1_shiftReplica (σ : Nat → Nat → Int32) (x1 : Int32) : Option (Int32 × (Nat → Nat → Int32)) := ((f_X1_isWhole σ x1).bind fun v1 => (if v1 = 0 then (some ((0 : Int32), σ)) else (ld (σ 10) 16 x1 fun v4 => ((f_X1_mostLoaded σ v4).bind fun v6 => ((f_X1_choose σ x1 v6).bind fun v8 => ((f_X4_exists σ v6).bind fun v10 => (if v10 = 0 then (some ((0 : Int32), σ)) else ((f_X4_exists σ v8).bind fun v13 => (if v13 = 0 then (some ((0 : Int32), σ)) else ((f_X5_replicasOn σ v8).bind fun v16 => ((f_X5_replicasOn σ v6).bind fun v18 => (if (v16 + (2 : Int32)) ≤ v18 then ((f_X1_isFresh σ x1 v6 v8).bind fun v21 => (if v21 = 0 then (ld (σ 7) 8 v8 fun v26 => (ld (σ 7) 8 v6 fun v28 => (if v26 = v28 then (f_X1_shiftReplica_109 σ x1 v6 v8) else (some ((0 : Int32), σ))))) else (f_X1_shiftReplica_109 σ x1 v6 v8))) else (some ((0 : Int32), σ))))))))))))))
def f_X1_perform (σ : Nat → Nat → Int32) (x1 : Int32) (x2 : Int32) : Option (Int32 × (Nat → Nat → Int32)) := (if x1 = (1 : Int32) then ((f_X1_create σ x2).bind fun v30 => (zr v30.1 (some (v30.1, v30.2)))) else (if x1 = (2 : Int32) then ((f_X1_repair σ x2).bind fun v27 => (zr v27.1 (some (v27.1, v27.2)))) else (if x1 = (3 : Int32) then ((f_X1_spread σ x2).bind fun v24 => (zr v24.1 (some (v24.1, v24.2)))) else (if x1 = (4 : Int32) then ((f_X1_splitBySize σ x2).bind fun v21 => (zr v21.1 (some (v21.1, v21.2)))) else (if x1 = (5 : Int32) then ((f_X1_splitByLoad σ x2).bind fun v18 => (zr v18.1 (some (v18.1, v18.2)))) else (if x1 = (6 : Int32) then ((f_X1_merge σ x2).bind fun v15 => (zr v15.1 (some (v15.1, v15.2)))) else (if x1 = (7 : Int32) then ((f_X1_shiftLeader σ x2).bind fun v12 => (zr v12.1 (some (v12.1, v12.2)))) else (if x1 = (8 : Int32) then ((f_X1_shiftReplica σ x2).bind fun v9 => (zr v9.1 (some (v9.1, v9.2)))) else (some ((0 : Int32), σ))))))))))
def f_X1_runTick_47 (k39 : (Nat → Nat → Int32) → Int32 → Option (Int32 × (Nat → Nat → Int32))) : Nat → (Nat → Nat → Int32) → Int32 → Int32 → Option (Int32 × (Nat → Nat → Int32))
  | 0, _, _, _ => none
  | n_ + 1, σ, x1, x2 => (if σ 0 8 ≤ x2 then (k39 σ (x1 + (1 : Int32))) else ((f_X1_perform σ x1 x2).bind fun v4 => (if v4.1 = 0 then ((f_X1_runTick_47 k39 n_) v4.2 x1 (x2 + (1 : Int32))) else (ld (v4.2 6) 9 x1 fun v7 => (sd 9 x1 (some ((((100 : Int32) * x1) + x2), (cu v4.2 6 x1.toNatClampNeg (v7 + (1 : Int32))))))))))
def f_X1_runTick_39  : Nat → (Nat → Nat → Int32) → Int32 → Option (Int32 × (Nat → Nat → Int32))
  | 0, _, _ => none
  | n_ + 1, σ, x1 => (if (8 : Int32) < x1 then (some ((0 : Int32), σ)) else (f_X1_runTick_47 (f_X1_runTick_39 n_) FU σ x1 (0 : Int32)))
def f_X1_runTick_15  : Nat → (Nat → Nat → Int32) → Int32 → Option (Int32 × (Nat → Nat → Int32))
  | 0, _, _ => none
  | n_ + 1, σ, x1 => (if σ 0 8 ≤ x1 then (f_X1_runTick_39 FU σ (1 : Int32)) else ((f_X1_advanceLearner σ x1).bind fun v10 => ((f_X1_runTick_15 n_) v10 (x1 + (1 : Int32)))))
def f_X1_runTick (σ : Nat → Nat → Int32)  : Option (Int32 × (Nat → Nat → Int32)) := (f_X1_runTick_15 FU (cu σ 0 11 (σ 0 11 + (1 : Int32))) (0 : Int32))
set_option maxRecDepth 100000 in
set_option maxHeartbeats 4000000 in
theorem c_X1_advanceLearner {l : Launch} {D : va_G} {cI cS : ClassId} {A : Nat → Prop} {a : Nat → Nat} {d : Nat} {rest : va_W}  {σ : Nat → Nat → Int32} {x1 : Int32} {r : (Nat → Nat → Int32)} (hf : f_X1_advanceLearner σ x1 = some r) : CT l yX1_advanceLearner cX1_advanceLearner 4 none (rmF 3 69) D cI cS A [.ref d, .int x1] (wC a cI σ (dv d a :: rest)) (wC a cI r (dv d a :: rest)) none := by
  refine CT_of (own := RX1) (xs := [some (.ref d), some (.int x1), none, none]) (by decide) rfl (Nat.le_of_ble_eq_true rfl) rfl ?_
  intro p e s_ m below meth c C
  unfold f_X1_advanceLearner at hf
  refine j_aload_n C dX1_advanceLearner_0 rfl ?_
  refine gf_X1_32 C dX1_advanceLearner_1 ?_
  refine gf_X1_54 C dX1_advanceLearner_4 ?_
  refine j_iload_n C dX1_advanceLearner_7 rfl ?_
  replace hf := ld_s hf
  obtain ⟨v1, h2, e_v1, hf⟩ := hf
  refine aLC_12 C h2 e_v1 dX1_advanceLearner_8 ?_
  refine j_istore_n C (xs' := [some (.ref d), some (.int x1), some (.int v1), none]) dX1_advanceLearner_9 rfl rfl ?_
  refine j_aload_n C dX1_advanceLearner_10 rfl ?_
  refine gf_X1_27 C dX1_advanceLearner_11 ?_
  refine j_iload_n C dX1_advanceLearner_14 rfl ?_
  replace hf := bd hf
  obtain ⟨v3, h4, hf⟩ := hf
  refine j_callV C cl_X1_57 (c_X4_isUp h4) ⟨Nat.le_of_ble_eq_true rfl, Nat.le_of_ble_eq_true rfl⟩ ⟨Nat.zero_le _, Nat.zero_le _⟩ (q0 := 2) rfl rfl rfl rfl (Nat.le_of_ble_eq_true rfl) rfl rfl rfl dX1_advanceLearner_15 ?_
  refine j_if_eq C (tgt := 34) (by decide) dX1_advanceLearner_18 (fun h5 => ?_) (fun h5 => ?_)
  · replace hf := it_t h5 hf
    cases hf
    exact j_vret C dX1_advanceLearner_34
  · replace hf := it_f h5 hf
    refine j_aload_n C dX1_advanceLearner_21 rfl ?_
    refine gf_X1_32 C dX1_advanceLearner_22 ?_
    refine gf_X1_63 C dX1_advanceLearner_25 ?_
    refine j_iload_n C dX1_advanceLearner_28 rfl ?_
    replace hf := ld_s hf
    obtain ⟨v6, h7, e_v6, hf⟩ := hf
    refine aLC_11 C h7 e_v6 dX1_advanceLearner_29 ?_
    refine j_iconst C ic_m1 dX1_advanceLearner_30 ?_
    refine j_icmp_ne C (tgt := 35) (by decide) dX1_advanceLearner_31 (fun h8 => ?_) (fun h8 => ?_)
    · replace hf := it_f h8 hf
      refine j_aload_n C dX1_advanceLearner_35 rfl ?_
      refine gf_X1_32 C dX1_advanceLearner_36 ?_
      refine gf_X1_66 C dX1_advanceLearner_39 ?_
      refine j_iload_n C dX1_advanceLearner_42 rfl ?_
      refine j_dup2 C dX1_advanceLearner_43 rfl rfl ?_
      replace hf := ld_s hf
      obtain ⟨v9, h10, e_v9, hf⟩ := hf
      refine aLC_13 C h10 e_v9 dX1_advanceLearner_44 ?_
      refine j_iconst C ic_1 dX1_advanceLearner_45 ?_
      refine j_isub C dX1_advanceLearner_46 ?_
      replace hf := sd_s hf
      obtain ⟨h11, hf⟩ := hf
      refine aSC_13 C h11 dX1_advanceLearner_47 ?_
      refine j_aload_n C dX1_advanceLearner_48 rfl ?_
      refine gf_X1_32 C dX1_advanceLearner_49 ?_
      refine gf_X1_66 C dX1_advanceLearner_52 ?_
      refine j_iload_n C dX1_advanceLearner_55 rfl ?_
      replace hf := ld_s hf
      obtain ⟨v12, h13, e_v12, hf⟩ := hf
      refine aLC_13 C h13 e_v12 dX1_advanceLearner_56 ?_
      refine j_if_le C (tgt := 61) (by decide) dX1_advanceLearner_57 (fun h14 => ?_) (fun h14 => ?_)
      · replace hf := it_t h14 hf
        refine j_aload_n C dX1_advanceLearner_61 rfl ?_
        refine gf_X1_32 C dX1_advanceLearner_62 ?_
        refine gf_X1_69 C dX1_advanceLearner_65 ?_
        refine j_iload_n C dX1_advanceLearner_68 rfl ?_
        replace hf := ld_s hf
        obtain ⟨v15, h16, e_v15, hf⟩ := hf
        refine aLC_14 C h16 e_v15 dX1_advanceLearner_69 ?_
        refine j_istore_n C (xs' := [some (.ref d), some (.int x1), some (.int v1), some (.int v15)]) dX1_advanceLearner_70 rfl rfl ?_
        refine j_aload_n C dX1_advanceLearner_71 rfl ?_
        refine gf_X1_32 C dX1_advanceLearner_72 ?_
        refine j_iload_n C dX1_advanceLearner_75 rfl ?_
        replace hf := bd hf
        obtain ⟨v17, h18, hf⟩ := hf
        refine j_callV C cl_X1_72 (c_X5_clearLearner h18) ⟨Nat.le_of_ble_eq_true rfl, Nat.le_of_ble_eq_true rfl⟩ ⟨Nat.zero_le _, Nat.zero_le _⟩ (q0 := 3) rfl rfl rfl rfl (Nat.le_of_ble_eq_true rfl) rfl rfl wC_fst dX1_advanceLearner_76 ?_
        refine j_aload_n C dX1_advanceLearner_79 rfl ?_
        refine gf_X1_32 C dX1_advanceLearner_80 ?_
        refine gf_X1_75 C dX1_advanceLearner_83 ?_
        refine j_iload_n C dX1_advanceLearner_86 rfl ?_
        refine j_aload_n C dX1_advanceLearner_87 rfl ?_
        refine gf_X1_32 C dX1_advanceLearner_88 ?_
        refine gf_X1_75 C dX1_advanceLearner_91 ?_
        refine j_iload_n C dX1_advanceLearner_94 rfl ?_
        replace hf := ld_s hf
        obtain ⟨v19, h20, e_v19, hf⟩ := hf
        refine aLC_10 C h20 e_v19 dX1_advanceLearner_95 ?_
        refine j_iload_n C dX1_advanceLearner_96 rfl ?_
        replace hf := bd hf
        obtain ⟨v21, h22, hf⟩ := hf
        refine j_callSN C cl_X1_78 (c_X8_bit h22) ⟨Nat.le_of_ble_eq_true rfl, Nat.le_of_ble_eq_true rfl⟩ ⟨Nat.zero_le _, Nat.zero_le _⟩ rfl (Nat.le_of_ble_eq_true rfl) rfl rfl rfl dX1_advanceLearner_97 ?_
        refine j_ior C dX1_advanceLearner_100 ?_
        refine j_iload_n C dX1_advanceLearner_101 rfl ?_
        replace hf := bd hf
        obtain ⟨v23, h24, hf⟩ := hf
        refine j_callSN C cl_X1_78 (c_X8_bit h24) ⟨Nat.le_of_ble_eq_true rfl, Nat.le_of_ble_eq_true rfl⟩ ⟨Nat.zero_le _, Nat.zero_le _⟩ rfl (Nat.le_of_ble_eq_true rfl) rfl rfl rfl dX1_advanceLearner_102 ?_
        refine j_iconst C ic_m1 dX1_advanceLearner_105 ?_
        refine j_ixor C dX1_advanceLearner_106 ?_
        refine j_iand C dX1_advanceLearner_107 ?_
        replace hf := sd_s hf
        obtain ⟨h25, hf⟩ := hf
        refine aSC_10 C h25 dX1_advanceLearner_108 ?_
        refine j_aload_n C dX1_advanceLearner_109 rfl ?_
        refine gf_X1_32 C dX1_advanceLearner_110 ?_
        refine gf_X1_63 C dX1_advanceLearner_113 ?_
        refine j_iload_n C dX1_advanceLearner_116 rfl ?_
        replace hf := ld_s hf
        obtain ⟨v26, h27, e_v26, hf⟩ := hf
        refine aLC_11 C h27 e_v26 dX1_advanceLearner_117 ?_
        refine j_iload_n C dX1_advanceLearner_118 rfl ?_
        refine j_icmp_ne C (tgt := 130) (by decide) dX1_advanceLearner_119 (fun h28 => ?_) (fun h28 => ?_)
        · replace hf := it_f h28 hf
          cases hf
          exact j_vret C dX1_advanceLearner_130
        · replace hf := it_t h28 hf
          refine j_aload_n C dX1_advanceLearner_122 rfl ?_
          refine gf_X1_12 C dX1_advanceLearner_123 ?_
          refine j_iload_n C dX1_advanceLearner_126 rfl ?_
          replace hf := bd hf
          obtain ⟨v29, h30, hf⟩ := hf
          refine j_callV C cl_X1_82 (c_X0_elect h30) ⟨Nat.le_of_ble_eq_true rfl, Nat.le_of_ble_eq_true rfl⟩ ⟨Nat.zero_le _, Nat.zero_le _⟩ (q0 := 0) rfl rfl rfl rfl (Nat.le_of_ble_eq_true rfl) rfl rfl wC_fst dX1_advanceLearner_127 ?_
          cases hf
          exact j_vret C dX1_advanceLearner_130
      · replace hf := it_f h14 hf
        cases hf
        exact j_vret C dX1_advanceLearner_60
    · replace hf := it_t h8 hf
      cases hf
      exact j_vret C dX1_advanceLearner_34
set_option maxRecDepth 100000 in
set_option maxHeartbeats 4000000 in
theorem c_X1_isFresh {l : Launch} {D : va_G} {cI cS : ClassId} {A : Nat → Prop} {a : Nat → Nat} {d : Nat} {rest : va_W}  {σ : Nat → Nat → Int32} {x1 : Int32} {x2 : Int32} {x3 : Int32} {r : Int32} (hf : f_X1_isFresh σ x1 x2 x3 = some r) : CT l yX1_isFresh cX1_isFresh 5 (some .boolean) (rmF 1 23) D cI cS A [.ref d, .int x1, .int x2, .int x3] (wC a cI σ (dv d a :: rest)) (wC a cI σ (dv d a :: rest)) (some (.int r)) := by
  refine CT_of (own := RX1) (xs := [some (.ref d), some (.int x1), some (.int x2), some (.int x3), none]) (by decide) rfl (Nat.le_of_ble_eq_true rfl) rfl ?_
  intro p e s_ m below meth c C
  unfold f_X1_isFresh at hf
  refine j_aload_n C dX1_isFresh_0 rfl ?_
  refine gf_X1_32 C dX1_isFresh_1 ?_
  refine gf_X1_75 C dX1_isFresh_4 ?_
  refine j_iload_n C dX1_isFresh_7 rfl ?_
  replace hf := ld_s hf
  obtain ⟨v1, h2, e_v1, hf⟩ := hf
  refine aLC_10 C h2 e_v1 dX1_isFresh_8 ?_
  refine j_iload_n C dX1_isFresh_9 rfl ?_
  replace hf := bd hf
  obtain ⟨v3, h4, hf⟩ := hf
  refine j_callSN C cl_X1_78 (c_X8_bit h4) ⟨Nat.le_of_ble_eq_true rfl, Nat.le_of_ble_eq_true rfl⟩ ⟨Nat.zero_le _, Nat.zero_le _⟩ rfl (Nat.le_of_ble_eq_true rfl) rfl rfl rfl dX1_isFresh_10 ?_
  refine j_iconst C ic_m1 dX1_isFresh_13 ?_
  refine j_ixor C dX1_isFresh_14 ?_
  refine j_iand C dX1_isFresh_15 ?_
  refine j_istore C (xs' := [some (.ref d), some (.int x1), some (.int x2), some (.int x3), some (.int (v1 &&& (v3 ^^^ (-1 : Int32))))]) dX1_isFresh_16 rfl rfl ?_
  refine j_aload_n C dX1_isFresh_18 rfl ?_
  refine gf_X1_27 C dX1_isFresh_19 ?_
  refine j_iload C dX1_isFresh_22 rfl ?_
  replace hf := bd hf
  obtain ⟨v5, h6, hf⟩ := hf
  refine j_callV C cl_X1_225 (c_X4_zonesOf h6) ⟨Nat.le_of_ble_eq_true rfl, Nat.le_of_ble_eq_true rfl⟩ ⟨Nat.zero_le _, Nat.zero_le _⟩ (q0 := 2) rfl rfl rfl rfl (Nat.le_of_ble_eq_true rfl) rfl rfl rfl dX1_isFresh_24 ?_
  refine j_aload_n C dX1_isFresh_27 rfl ?_
  refine gf_X1_27 C dX1_isFresh_28 ?_
  refine j_iload_n C dX1_isFresh_31 rfl ?_
  replace hf := bd hf
  obtain ⟨v7, h8, hf⟩ := hf
  refine j_callSN C cl_X1_78 (c_X8_bit h8) ⟨Nat.le_of_ble_eq_true rfl, Nat.le_of_ble_eq_true rfl⟩ ⟨Nat.zero_le _, Nat.zero_le _⟩ rfl (Nat.le_of_ble_eq_true rfl) rfl rfl rfl dX1_isFresh_32 ?_
  replace hf := bd hf
  obtain ⟨v9, h10, hf⟩ := hf
  refine j_callV C cl_X1_225 (c_X4_zonesOf h10) ⟨Nat.le_of_ble_eq_true rfl, Nat.le_of_ble_eq_true rfl⟩ ⟨Nat.zero_le _, Nat.zero_le _⟩ (q0 := 2) rfl rfl rfl rfl (Nat.le_of_ble_eq_true rfl) rfl rfl rfl dX1_isFresh_35 ?_
  refine j_iand C dX1_isFresh_38 ?_
  refine j_if_ne C (tgt := 46) (by decide) dX1_isFresh_39 (fun h11 => ?_) (fun h11 => ?_)
  · replace hf := it_f h11 hf
    refine j_iconst C ic_0 dX1_isFresh_46 ?_
    cases hf
    exact j_zret C zc_0 dX1_isFresh_47
  · replace hf := it_t h11 hf
    refine j_iconst C ic_1 dX1_isFresh_42 ?_
    refine j_goto C (tgt := 47) (by decide) dX1_isFresh_43 ?_
    cases hf
    exact j_zret C zc_1 dX1_isFresh_47
set_option maxRecDepth 100000 in
set_option maxHeartbeats 4000000 in
theorem w_X1_choose_132 {p : Program} {l : Launch} {e : Env} {s_ : State} {m : MethodId} {args : Array Value} {below : List Frame} {meth : Method} {c : Code} {D : va_G} {cI cS : ClassId} {A : Nat → Prop} {a : Nat → Nat} {d : Nat} {rest : va_W}  (C : cx p s_ m args meth c cX1_choose 10 RX1 (some .int) D cI cS) (k45 : (Nat → Nat → Int32) → Int32 → Int32 → Int32 → Int32 → Int32 → Int32 → Option (Int32)) (hk45 : ∀ (σ : Nat → Nat → Int32) (x1 : Int32) (x2 : Int32) (x4 : Int32) (x5 : Int32) (x6 : Int32) (x7 : Int32) (r : Int32), k45 σ x1 x2 x4 x5 x6 x7 = some r → jG p l e (rmF 2 47) s_ m args below meth c 10 D A (MQ below (QW D A (wC a cI σ (dv d a :: rest)) (some (.int r))) args s_ 0 0 A) (wC a cI σ (dv d a :: rest)) [some (.ref d), some (.int x1), some (.int x2), none, some (.int x4), some (.int x5), some (.int x6), some (.int x7), none, none] 45 []) : ∀ (σ : Nat → Nat → Int32) (x1 : Int32) (x2 : Int32) (x4 : Int32) (x7 : Int32) (x9 : Int32) (r : Int32), f_X1_choose_132 k45 σ x1 x2 x4 x7 x9 = some r → jG p l e (rmF 2 47) s_ m args below meth c 10 D A (MQ below (QW D A (wC a cI σ (dv d a :: rest)) (some (.int r))) args s_ 0 0 A) (wC a cI σ (dv d a :: rest)) [some (.ref d), some (.int x1), some (.int x2), none, some (.int x4), none, none, some (.int x7), none, some (.int x9)] 132 [] := by
  intro σ x1 x2 x4 x7 x9 r hf
  unfold f_X1_choose_132 at hf
  refine j_iload C dX1_choose_132 rfl ?_
  refine j_istore C (xs' := [some (.ref d), some (.int x1), some (.int x2), none, some (.int x4), some (.int x7), none, some (.int x7), none, some (.int x9)]) dX1_choose_134 rfl rfl ?_
  refine j_iload C dX1_choose_136 rfl ?_
  refine j_istore C (xs' := [some (.ref d), some (.int x1), some (.int x2), none, some (.int x4), some (.int x7), some (.int x9), some (.int x7), none, some (.int x9)]) dX1_choose_138 rfl rfl ?_
  refine j_iinc C (xs' := [some (.ref d), some (.int x1), some (.int x2), none, some (.int x4), some (.int x7), some (.int x9), some (.int (x7 + (1 : Int32))), none, some (.int x9)]) dX1_choose_140 rfl (ii_1 _) rfl rfl ?_
  refine j_goto C (tgt := 45) (by decide) dX1_choose_143 ?_
  refine j_weak [true, true, true, false, true, true, true, true, false, false] rfl ?_
  exact hk45 _ _ _ _ _ _ _ _ hf
set_option maxRecDepth 100000 in
set_option maxHeartbeats 4000000 in
theorem w_X1_choose_117 {p : Program} {l : Launch} {e : Env} {s_ : State} {m : MethodId} {args : Array Value} {below : List Frame} {meth : Method} {c : Code} {D : va_G} {cI cS : ClassId} {A : Nat → Prop} {a : Nat → Nat} {d : Nat} {rest : va_W}  (C : cx p s_ m args meth c cX1_choose 10 RX1 (some .int) D cI cS) (k45 : (Nat → Nat → Int32) → Int32 → Int32 → Int32 → Int32 → Int32 → Int32 → Option (Int32)) (hk45 : ∀ (σ : Nat → Nat → Int32) (x1 : Int32) (x2 : Int32) (x4 : Int32) (x5 : Int32) (x6 : Int32) (x7 : Int32) (r : Int32), k45 σ x1 x2 x4 x5 x6 x7 = some r → jG p l e (rmF 2 47) s_ m args below meth c 10 D A (MQ below (QW D A (wC a cI σ (dv d a :: rest)) (some (.int r))) args s_ 0 0 A) (wC a cI σ (dv d a :: rest)) [some (.ref d), some (.int x1), some (.int x2), none, some (.int x4), some (.int x5), some (.int x6), some (.int x7), none, none] 45 []) : ∀ (σ : Nat → Nat → Int32) (x1 : Int32) (x2 : Int32) (x4 : Int32) (x5 : Int32) (x6 : Int32) (x7 : Int32) (y0 : Int32) (r : Int32), f_X1_choose_117 k45 σ x1 x2 x4 x5 x6 x7 y0 = some r → jG p l e (rmF 2 47) s_ m args below meth c 10 D A (MQ below (QW D A (wC a cI σ (dv d a :: rest)) (some (.int r))) args s_ 0 0 A) (wC a cI σ (dv d a :: rest)) [some (.ref d), some (.int x1), some (.int x2), none, some (.int x4), some (.int x5), some (.int x6), some (.int x7), none, none] 117 [.int y0] := by
  intro σ x1 x2 x4 x5 x6 x7 y0 r hf
  unfold f_X1_choose_117 at hf
  refine j_istore C (xs' := [some (.ref d), some (.int x1), some (.int x2), none, some (.int x4), some (.int x5), some (.int x6), some (.int x7), none, some (.int y0)]) dX1_choose_117 rfl rfl ?_
  refine j_iload C dX1_choose_119 rfl ?_
  refine j_iconst C ic_m1 dX1_choose_121 ?_
  refine j_icmp_eq C (tgt := 132) (by decide) dX1_choose_122 (fun h19 => ?_) (fun h19 => ?_)
  · replace hf := it_t h19 hf
    refine j_weak [true, true, true, false, true, false, false, true, false, true] rfl ?_
    exact w_X1_choose_132 C _ hk45 _ _ _ _ _ _ _ hf
  · replace hf := it_f h19 hf
    refine j_iload C dX1_choose_125 rfl ?_
    refine j_iload C dX1_choose_127 rfl ?_
    refine j_icmp_ge C (tgt := 140) (by decide) dX1_choose_129 (fun h20 => ?_) (fun h20 => ?_)
    · replace hf := it_t h20 hf
      refine j_iinc C (xs' := [some (.ref d), some (.int x1), some (.int x2), none, some (.int x4), some (.int x5), some (.int x6), some (.int (x7 + (1 : Int32))), none, some (.int y0)]) dX1_choose_140 rfl (ii_1 _) rfl rfl ?_
      refine j_goto C (tgt := 45) (by decide) dX1_choose_143 ?_
      refine j_weak [true, true, true, false, true, true, true, true, false, false] rfl ?_
      exact hk45 _ _ _ _ _ _ _ _ hf
    · replace hf := it_f h20 hf
      refine j_weak [true, true, true, false, true, false, false, true, false, true] rfl ?_
      exact w_X1_choose_132 C _ hk45 _ _ _ _ _ _ _ hf
set_option maxRecDepth 100000 in
set_option maxHeartbeats 4000000 in
theorem w_X1_choose_45 {p : Program} {l : Launch} {e : Env} {s_ : State} {m : MethodId} {args : Array Value} {below : List Frame} {meth : Method} {c : Code} {D : va_G} {cI cS : ClassId} {A : Nat → Prop} {a : Nat → Nat} {d : Nat} {rest : va_W}  (C : cx p s_ m args meth c cX1_choose 10 RX1 (some .int) D cI cS)  : ∀ (n_ : Nat) (σ : Nat → Nat → Int32) (x1 : Int32) (x2 : Int32) (x4 : Int32) (x5 : Int32) (x6 : Int32) (x7 : Int32) (r : Int32), f_X1_choose_45  n_ σ x1 x2 x4 x5 x6 x7 = some r → jG p l e (rmF 2 47) s_ m args below meth c 10 D A (MQ below (QW D A (wC a cI σ (dv d a :: rest)) (some (.int r))) args s_ 0 0 A) (wC a cI σ (dv d a :: rest)) [some (.ref d), some (.int x1), some (.int x2), none, some (.int x4), some (.int x5), some (.int x6), some (.int x7), none, none] 45 [] := by
  intro n_
  induction n_ with
  | zero =>
    intro σ x1 x2 x4 x5 x6 x7 r hf
    rw [f_X1_choose_45] at hf
    cases hf
  | succ n_ hk45 =>
    intro σ x1 x2 x4 x5 x6 x7 r hf
    rw [f_X1_choose_45] at hf
    refine j_iload C dX1_choose_45 rfl ?_
    refine j_aload_n C dX1_choose_47 rfl ?_
    refine gf_X1_27 C dX1_choose_48 ?_
    refine gf_X1_221 C dX1_choose_51 ?_
    refine j_icmp_ge C (tgt := 146) (by decide) dX1_choose_54 (fun h7 => ?_) (fun h7 => ?_)
    · replace hf := it_t h7 hf
      refine j_iload C dX1_choose_146 rfl ?_
      cases hf
      exact j_iret C dX1_choose_148
    · replace hf := it_f h7 hf
      refine j_aload_n C dX1_choose_57 rfl ?_
      refine gf_X1_32 C dX1_choose_58 ?_
      refine j_iload C dX1_choose_61 rfl ?_
      replace hf := bd hf
      obtain ⟨v8, h9, hf⟩ := hf
      refine j_callV C cl_X1_205 (c_X5_replicasOn h9) ⟨Nat.le_of_ble_eq_true rfl, Nat.le_of_ble_eq_true rfl⟩ ⟨Nat.zero_le _, Nat.zero_le _⟩ (q0 := 3) rfl rfl rfl rfl (Nat.le_of_ble_eq_true rfl) rfl rfl rfl dX1_choose_63 ?_
      refine j_istore C (xs' := [some (.ref d), some (.int x1), some (.int x2), none, some (.int x4), some (.int x5), some (.int x6), some (.int x7), some (.int v8), none]) dX1_choose_66 rfl rfl ?_
      refine j_iload C dX1_choose_68 rfl ?_
      refine j_iload C dX1_choose_70 rfl ?_
      replace hf := bd hf
      obtain ⟨v10, h11, hf⟩ := hf
      refine j_callSN C cl_X1_78 (c_X8_bit h11) ⟨Nat.le_of_ble_eq_true rfl, Nat.le_of_ble_eq_true rfl⟩ ⟨Nat.zero_le _, Nat.zero_le _⟩ rfl (Nat.le_of_ble_eq_true rfl) rfl rfl rfl dX1_choose_72 ?_
      refine j_iand C dX1_choose_75 ?_
      refine j_if_eq C (tgt := 140) (by decide) dX1_choose_76 (fun h12 => ?_) (fun h12 => ?_)
      · replace hf := it_t h12 hf
        refine j_iinc C (xs' := [some (.ref d), some (.int x1), some (.int x2), none, some (.int x4), some (.int x5), some (.int x6), some (.int (x7 + (1 : Int32))), some (.int v8), none]) dX1_choose_140 rfl (ii_1 _) rfl rfl ?_
        refine j_goto C (tgt := 45) (by decide) dX1_choose_143 ?_
        refine j_weak [true, true, true, false, true, true, true, true, false, false] rfl ?_
        exact hk45 _ _ _ _ _ _ _ _ hf
      · replace hf := it_f h12 hf
        refine j_iload C dX1_choose_79 rfl ?_
        refine j_aload_n C dX1_choose_81 rfl ?_
        refine gf_X1_27 C dX1_choose_82 ?_
        refine gf_X1_222 C dX1_choose_85 ?_
        refine j_iload C dX1_choose_88 rfl ?_
        replace hf := ld_s hf
        obtain ⟨v13, h14, e_v13, hf⟩ := hf
        refine aLC_8 C h14 e_v13 dX1_choose_90 ?_
        refine j_icmp_ge C (tgt := 140) (by decide) dX1_choose_91 (fun h15 => ?_) (fun h15 => ?_)
        · replace hf := it_t h15 hf
          refine j_iinc C (xs' := [some (.ref d), some (.int x1), some (.int x2), none, some (.int x4), some (.int x5), some (.int x6), some (.int (x7 + (1 : Int32))), some (.int v8), none]) dX1_choose_140 rfl (ii_1 _) rfl rfl ?_
          refine j_goto C (tgt := 45) (by decide) dX1_choose_143 ?_
          refine j_weak [true, true, true, false, true, true, true, true, false, false] rfl ?_
          exact hk45 _ _ _ _ _ _ _ _ hf
        · replace hf := it_f h15 hf
          refine j_aload_n C dX1_choose_94 rfl ?_
          refine j_iload_n C dX1_choose_95 rfl ?_
          refine j_iload_n C dX1_choose_96 rfl ?_
          refine j_iload C dX1_choose_97 rfl ?_
          replace hf := bd hf
          obtain ⟨v16, h17, hf⟩ := hf
          refine j_callV C cl_X1_148 (c_X1_isFresh h17) ⟨Nat.le_of_ble_eq_true rfl, Nat.le_of_ble_eq_true rfl⟩ ⟨Nat.zero_le _, Nat.zero_le _⟩ (q0 := 18) rfl rfl rfl rfl (Nat.le_of_ble_eq_true rfl) rfl rfl rfl dX1_choose_99 ?_
          refine j_if_eq C (tgt := 110) (by decide) dX1_choose_102 (fun h18 => ?_) (fun h18 => ?_)
          · replace hf := it_t h18 hf
            refine j_iload C dX1_choose_110 rfl ?_
            refine j_bipush C bp_16 dX1_choose_112 ?_
            refine j_iadd C dX1_choose_114 ?_
            refine j_iconst C ic_1 dX1_choose_115 ?_
            refine j_iadd C dX1_choose_116 ?_
            refine j_weak [true, true, true, false, true, true, true, true, false, false] rfl ?_
            exact w_X1_choose_117 C _ hk45 _ _ _ _ _ _ _ _ _ hf
          · replace hf := it_f h18 hf
            refine j_iload C dX1_choose_105 rfl ?_
            refine j_goto C (tgt := 117) (by decide) dX1_choose_107 ?_
            refine j_weak [true, true, true, false, true, true, true, true, false, false] rfl ?_
            exact w_X1_choose_117 C _ hk45 _ _ _ _ _ _ _ _ _ hf
set_option maxRecDepth 100000 in
set_option maxHeartbeats 4000000 in
theorem c_X1_choose {l : Launch} {D : va_G} {cI cS : ClassId} {A : Nat → Prop} {a : Nat → Nat} {d : Nat} {rest : va_W}  {σ : Nat → Nat → Int32} {x1 : Int32} {x2 : Int32} {r : Int32} (hf : f_X1_choose σ x1 x2 = some r) : CT l yX1_choose cX1_choose 10 (some .int) (rmF 2 47) D cI cS A [.ref d, .int x1, .int x2] (wC a cI σ (dv d a :: rest)) (wC a cI σ (dv d a :: rest)) (some (.int r)) := by
  refine CT_of (own := RX1) (xs := [some (.ref d), some (.int x1), some (.int x2), none, none, none, none, none, none, none]) (by decide) rfl (Nat.le_of_ble_eq_true rfl) rfl ?_
  intro p e s_ m below meth c C
  unfold f_X1_choose at hf
  refine j_aload_n C dX1_choose_0 rfl ?_
  refine gf_X1_32 C dX1_choose_1 ?_
  refine gf_X1_75 C dX1_choose_4 ?_
  refine j_iload_n C dX1_choose_7 rfl ?_
  replace hf := ld_s hf
  obtain ⟨v1, h2, e_v1, hf⟩ := hf
  refine aLC_10 C h2 e_v1 dX1_choose_8 ?_
  refine j_aload_n C dX1_choose_9 rfl ?_
  refine gf_X1_32 C dX1_choose_10 ?_
  refine gf_X1_54 C dX1_choose_13 ?_
  refine j_iload_n C dX1_choose_16 rfl ?_
  replace hf := ld_s hf
  obtain ⟨v3, h4, e_v3, hf⟩ := hf
  refine aLC_12 C h4 e_v3 dX1_choose_17 ?_
  replace hf := bd hf
  obtain ⟨v5, h6, hf⟩ := hf
  refine j_callSN C cl_X1_78 (c_X8_bit h6) ⟨Nat.le_of_ble_eq_true rfl, Nat.le_of_ble_eq_true rfl⟩ ⟨Nat.zero_le _, Nat.zero_le _⟩ rfl (Nat.le_of_ble_eq_true rfl) rfl rfl rfl dX1_choose_18 ?_
  refine j_ior C dX1_choose_21 ?_
  refine j_istore_n C (xs' := [some (.ref d), some (.int x1), some (.int x2), some (.int (v1 ||| v5)), none, none, none, none, none, none]) dX1_choose_22 rfl rfl ?_
  refine j_aload_n C dX1_choose_23 rfl ?_
  refine gf_X1_27 C dX1_choose_24 ?_
  refine gf_X1_218 C dX1_choose_27 ?_
  refine j_iload_n C dX1_choose_30 rfl ?_
  refine j_iconst C ic_m1 dX1_choose_31 ?_
  refine j_ixor C dX1_choose_32 ?_
  refine j_iand C dX1_choose_33 ?_
  refine j_istore C (xs' := [some (.ref d), some (.int x1), some (.int x2), some (.int (v1 ||| v5)), some (.int (σ 0 7 &&& ((v1 ||| v5) ^^^ (-1 : Int32)))), none, none, none, none, none]) dX1_choose_34 rfl rfl ?_
  refine j_iconst C ic_m1 dX1_choose_36 ?_
  refine j_istore C (xs' := [some (.ref d), some (.int x1), some (.int x2), some (.int (v1 ||| v5)), some (.int (σ 0 7 &&& ((v1 ||| v5) ^^^ (-1 : Int32)))), some (.int (-1 : Int32)), none, none, none, none]) dX1_choose_37 rfl rfl ?_
  refine j_iconst C ic_0 dX1_choose_39 ?_
  refine j_istore C (xs' := [some (.ref d), some (.int x1), some (.int x2), some (.int (v1 ||| v5)), some (.int (σ 0 7 &&& ((v1 ||| v5) ^^^ (-1 : Int32)))), some (.int (-1 : Int32)), some (.int (0 : Int32)), none, none, none]) dX1_choose_40 rfl rfl ?_
  refine j_iconst C ic_0 dX1_choose_42 ?_
  refine j_istore C (xs' := [some (.ref d), some (.int x1), some (.int x2), some (.int (v1 ||| v5)), some (.int (σ 0 7 &&& ((v1 ||| v5) ^^^ (-1 : Int32)))), some (.int (-1 : Int32)), some (.int (0 : Int32)), some (.int (0 : Int32)), none, none]) dX1_choose_43 rfl rfl ?_
  refine j_weak [true, true, true, false, true, true, true, true, false, false] rfl ?_
  exact w_X1_choose_45 C  _ _ _ _ _ _ _ _ _ hf
set_option maxRecDepth 100000 in
set_option maxHeartbeats 4000000 in
theorem c_X1_create {l : Launch} {D : va_G} {cI cS : ClassId} {A : Nat → Prop} {a : Nat → Nat} {d : Nat} {rest : va_W}  {σ : Nat → Nat → Int32} {x1 : Int32} {r : Int32 × (Nat → Nat → Int32)} (hf : f_X1_create σ x1 = some r) : CT l yX1_create cX1_create 3 (some .boolean) (rmF 3 76) D cI cS A [.ref d, .int x1] (wC a cI σ (dv d a :: rest)) (wC a cI r.2 (dv d a :: rest)) (some (.int r.1)) := by
  refine CT_of (own := RX1) (xs := [some (.ref d), some (.int x1), none]) (by decide) rfl (Nat.le_of_ble_eq_true rfl) rfl ?_
  intro p e s_ m below meth c C
  unfold f_X1_create at hf
  refine j_aload_n C dX1_create_0 rfl ?_
  refine gf_X1_32 C dX1_create_1 ?_
  refine gf_X1_75 C dX1_create_4 ?_
  refine j_iload_n C dX1_create_7 rfl ?_
  replace hf := ld_s hf
  obtain ⟨v1, h2, e_v1, hf⟩ := hf
  refine aLC_10 C h2 e_v1 dX1_create_8 ?_
  refine j_if_eq C (tgt := 14) (by decide) dX1_create_9 (fun h3 => ?_) (fun h3 => ?_)
  · replace hf := it_t h3 hf
    refine j_aload_n C dX1_create_14 rfl ?_
    refine j_iload_n C dX1_create_15 rfl ?_
    refine j_iconst C ic_m1 dX1_create_16 ?_
    replace hf := bd hf
    obtain ⟨v4, h5, hf⟩ := hf
    refine j_callV C cl_X1_109 (c_X1_choose h5) ⟨Nat.le_of_ble_eq_true rfl, Nat.le_of_ble_eq_true rfl⟩ ⟨Nat.zero_le _, Nat.zero_le _⟩ (q0 := 18) rfl rfl rfl rfl (Nat.le_of_ble_eq_true rfl) rfl rfl rfl dX1_create_17 ?_
    refine j_istore_n C (xs' := [some (.ref d), some (.int x1), some (.int v4)]) dX1_create_20 rfl rfl ?_
    refine j_iload_n C dX1_create_21 rfl ?_
    refine j_iconst C ic_m1 dX1_create_22 ?_
    refine j_icmp_ne C (tgt := 28) (by decide) dX1_create_23 (fun h6 => ?_) (fun h6 => ?_)
    · replace hf := it_f h6 hf
      refine j_aload_n C dX1_create_28 rfl ?_
      refine gf_X1_32 C dX1_create_29 ?_
      refine gf_X1_75 C dX1_create_32 ?_
      refine j_iload_n C dX1_create_35 rfl ?_
      refine j_iload_n C dX1_create_36 rfl ?_
      replace hf := bd hf
      obtain ⟨v7, h8, hf⟩ := hf
      refine j_callSN C cl_X1_78 (c_X8_bit h8) ⟨Nat.le_of_ble_eq_true rfl, Nat.le_of_ble_eq_true rfl⟩ ⟨Nat.zero_le _, Nat.zero_le _⟩ rfl (Nat.le_of_ble_eq_true rfl) rfl rfl rfl dX1_create_37 ?_
      replace hf := sd_s hf
      obtain ⟨h9, hf⟩ := hf
      refine aSC_10 C h9 dX1_create_40 ?_
      refine j_aload_n C dX1_create_41 rfl ?_
      refine gf_X1_12 C dX1_create_42 ?_
      refine j_iload_n C dX1_create_45 rfl ?_
      replace hf := bd hf
      obtain ⟨v10, h11, hf⟩ := hf
      refine j_callV C cl_X1_82 (c_X0_elect h11) ⟨Nat.le_of_ble_eq_true rfl, Nat.le_of_ble_eq_true rfl⟩ ⟨Nat.zero_le _, Nat.zero_le _⟩ (q0 := 0) rfl rfl rfl rfl (Nat.le_of_ble_eq_true rfl) rfl rfl wC_fst dX1_create_46 ?_
      refine j_iconst C ic_1 dX1_create_49 ?_
      cases hf
      exact j_zret C zc_1 dX1_create_50
    · replace hf := it_t h6 hf
      refine j_iconst C ic_0 dX1_create_26 ?_
      cases hf
      exact j_zret C zc_0 dX1_create_27
  · replace hf := it_f h3 hf
    refine j_iconst C ic_0 dX1_create_12 ?_
    cases hf
    exact j_zret C zc_0 dX1_create_13
set_option maxRecDepth 100000 in
set_option maxHeartbeats 4000000 in
theorem w_X1_lowestOf_2 {p : Program} {l : Launch} {e : Env} {s_ : State} {m : MethodId} {args : Array Value} {below : List Frame} {meth : Method} {c : Code} {D : va_G} {cI cS : ClassId} {A : Nat → Prop} {a : Nat → Nat} {d : Nat} {rest : va_W}  (C : cx p s_ m args meth c cX1_lowestOf 3 RX1 (some .int) D cI cS)  : ∀ (n_ : Nat) (σ : Nat → Nat → Int32) (x1 : Int32) (x2 : Int32) (r : Int32), f_X1_lowestOf_2  n_ σ x1 x2 = some r → jG p l e (rmF 1 20) s_ m args below meth c 3 D A (MQ below (QW D A (wC a cI σ (dv d a :: rest)) (some (.int r))) args s_ 0 0 A) (wC a cI σ (dv d a :: rest)) [some (.ref d), some (.int x1), some (.int x2)] 2 [] := by
  intro n_
  induction n_ with
  | zero =>
    intro σ x1 x2 r hf
    rw [f_X1_lowestOf_2] at hf
    cases hf
  | succ n_ hk2 =>
    intro σ x1 x2 r hf
    rw [f_X1_lowestOf_2] at hf
    refine j_iload_n C dX1_lowestOf_2 rfl ?_
    refine j_aload_n C dX1_lowestOf_3 rfl ?_
    refine gf_X1_27 C dX1_lowestOf_4 ?_
    refine gf_X1_221 C dX1_lowestOf_7 ?_
    refine j_icmp_ge C (tgt := 30) (by decide) dX1_lowestOf_10 (fun h1 => ?_) (fun h1 => ?_)
    · replace hf := it_t h1 hf
      refine j_iconst C ic_m1 dX1_lowestOf_30 ?_
      cases hf
      exact j_iret C dX1_lowestOf_31
    · replace hf := it_f h1 hf
      refine j_iload_n C dX1_lowestOf_13 rfl ?_
      refine j_iload_n C dX1_lowestOf_14 rfl ?_
      replace hf := bd hf
      obtain ⟨v2, h3, hf⟩ := hf
      refine j_callSN C cl_X1_78 (c_X8_bit h3) ⟨Nat.le_of_ble_eq_true rfl, Nat.le_of_ble_eq_true rfl⟩ ⟨Nat.zero_le _, Nat.zero_le _⟩ rfl (Nat.le_of_ble_eq_true rfl) rfl rfl rfl dX1_lowestOf_15 ?_
      refine j_iand C dX1_lowestOf_18 ?_
      refine j_if_eq C (tgt := 24) (by decide) dX1_lowestOf_19 (fun h4 => ?_) (fun h4 => ?_)
      · replace hf := it_t h4 hf
        refine j_iinc C (xs' := [some (.ref d), some (.int x1), some (.int (x2 + (1 : Int32)))]) dX1_lowestOf_24 rfl (ii_1 _) rfl rfl ?_
        refine j_goto C (tgt := 2) (by decide) dX1_lowestOf_27 ?_
        exact hk2 _ _ _ _ hf
      · replace hf := it_f h4 hf
        refine j_iload_n C dX1_lowestOf_22 rfl ?_
        cases hf
        exact j_iret C dX1_lowestOf_23
set_option maxRecDepth 100000 in
set_option maxHeartbeats 4000000 in
theorem c_X1_lowestOf {l : Launch} {D : va_G} {cI cS : ClassId} {A : Nat → Prop} {a : Nat → Nat} {d : Nat} {rest : va_W}  {σ : Nat → Nat → Int32} {x1 : Int32} {r : Int32} (hf : f_X1_lowestOf σ x1 = some r) : CT l yX1_lowestOf cX1_lowestOf 3 (some .int) (rmF 1 20) D cI cS A [.ref d, .int x1] (wC a cI σ (dv d a :: rest)) (wC a cI σ (dv d a :: rest)) (some (.int r)) := by
  refine CT_of (own := RX1) (xs := [some (.ref d), some (.int x1), none]) (by decide) rfl (Nat.le_of_ble_eq_true rfl) rfl ?_
  intro p e s_ m below meth c C
  unfold f_X1_lowestOf at hf
  refine j_iconst C ic_0 dX1_lowestOf_0 ?_
  refine j_istore_n C (xs' := [some (.ref d), some (.int x1), some (.int (0 : Int32))]) dX1_lowestOf_1 rfl rfl ?_
  exact w_X1_lowestOf_2 C  _ _ _ _ _ hf
set_option maxRecDepth 100000 in
set_option maxHeartbeats 4000000 in
theorem c_X1_teach {l : Launch} {D : va_G} {cI cS : ClassId} {A : Nat → Prop} {a : Nat → Nat} {d : Nat} {rest : va_W}  {σ : Nat → Nat → Int32} {x1 : Int32} {x2 : Int32} {x3 : Int32} {r : (Nat → Nat → Int32)} (hf : f_X1_teach σ x1 x2 x3 = some r) : CT l yX1_teach cX1_teach 4 none (rmF 2 45) D cI cS A [.ref d, .int x1, .int x2, .int x3] (wC a cI σ (dv d a :: rest)) (wC a cI r (dv d a :: rest)) none := by
  refine CT_of (own := RX1) (xs := [some (.ref d), some (.int x1), some (.int x2), some (.int x3)]) (by decide) rfl (Nat.le_of_ble_eq_true rfl) rfl ?_
  intro p e s_ m below meth c C
  unfold f_X1_teach at hf
  refine j_aload_n C dX1_teach_0 rfl ?_
  refine gf_X1_32 C dX1_teach_1 ?_
  refine j_iload_n C dX1_teach_4 rfl ?_
  refine j_iload_n C dX1_teach_5 rfl ?_
  refine j_aload_n C dX1_teach_6 rfl ?_
  refine gf_X1_22 C dX1_teach_7 ?_
  refine j_aload_n C dX1_teach_10 rfl ?_
  refine gf_X1_12 C dX1_teach_11 ?_
  refine j_iload_n C dX1_teach_14 rfl ?_
  replace hf := bd hf
  obtain ⟨v1, h2, hf⟩ := hf
  refine j_callV C cl_X1_156 (c_X0_rangeSize h2) ⟨Nat.le_of_ble_eq_true rfl, Nat.le_of_ble_eq_true rfl⟩ ⟨Nat.zero_le _, Nat.zero_le _⟩ (q0 := 0) rfl rfl rfl rfl (Nat.le_of_ble_eq_true rfl) rfl rfl rfl dX1_teach_15 ?_
  replace hf := bd hf
  obtain ⟨v3, h4, hf⟩ := hf
  refine j_callV C cl_X1_211 (c_X7_learnerTicks h4) ⟨Nat.le_of_ble_eq_true rfl, Nat.le_of_ble_eq_true rfl⟩ ⟨Nat.zero_le _, Nat.zero_le _⟩ (q0 := 1) rfl rfl rfl rfl (Nat.le_of_ble_eq_true rfl) rfl rfl rfl dX1_teach_18 ?_
  refine j_iload_n C dX1_teach_21 rfl ?_
  replace hf := bd hf
  obtain ⟨v5, h6, hf⟩ := hf
  refine j_callV C cl_X1_214 (c_X5_setLearner h6) ⟨Nat.le_of_ble_eq_true rfl, Nat.le_of_ble_eq_true rfl⟩ ⟨Nat.zero_le _, Nat.zero_le _⟩ (q0 := 3) rfl rfl rfl rfl (Nat.le_of_ble_eq_true rfl) rfl rfl wC_fst dX1_teach_22 ?_
  cases hf
  exact j_vret C dX1_teach_25
set_option maxRecDepth 100000 in
set_option maxHeartbeats 4000000 in
theorem c_X1_repair {l : Launch} {D : va_G} {cI cS : ClassId} {A : Nat → Prop} {a : Nat → Nat} {d : Nat} {rest : va_W}  {σ : Nat → Nat → Int32} {x1 : Int32} {r : Int32 × (Nat → Nat → Int32)} (hf : f_X1_repair σ x1 = some r) : CT l yX1_repair cX1_repair 4 (some .boolean) (rmF 3 76) D cI cS A [.ref d, .int x1] (wC a cI σ (dv d a :: rest)) (wC a cI r.2 (dv d a :: rest)) (some (.int r.1)) := by
  refine CT_of (own := RX1) (xs := [some (.ref d), some (.int x1), none, none]) (by decide) rfl (Nat.le_of_ble_eq_true rfl) rfl ?_
  intro p e s_ m below meth c C
  unfold f_X1_repair at hf
  refine j_aload_n C dX1_repair_0 rfl ?_
  refine gf_X1_32 C dX1_repair_1 ?_
  refine j_iload_n C dX1_repair_4 rfl ?_
  replace hf := bd hf
  obtain ⟨v1, h2, hf⟩ := hf
  refine j_callV C cl_X1_113 (c_X5_hasLearner h2) ⟨Nat.le_of_ble_eq_true rfl, Nat.le_of_ble_eq_true rfl⟩ ⟨Nat.zero_le _, Nat.zero_le _⟩ (q0 := 3) rfl rfl rfl rfl (Nat.le_of_ble_eq_true rfl) rfl rfl rfl dX1_repair_5 ?_
  refine j_if_ne C (tgt := 43) (by decide) dX1_repair_8 (fun h3 => ?_) (fun h3 => ?_)
  · replace hf := it_f h3 hf
    refine j_iconst C ic_0 dX1_repair_43 ?_
    cases hf
    exact j_zret C zc_0 dX1_repair_44
  · replace hf := it_t h3 hf
    refine j_aload_n C dX1_repair_11 rfl ?_
    refine gf_X1_12 C dX1_repair_12 ?_
    refine j_iload_n C dX1_repair_15 rfl ?_
    replace hf := bd hf
    obtain ⟨v4, h5, hf⟩ := hf
    refine j_callV C cl_X1_116 (c_X0_hasQuorum h5) ⟨Nat.le_of_ble_eq_true rfl, Nat.le_of_ble_eq_true rfl⟩ ⟨Nat.zero_le _, Nat.zero_le _⟩ (q0 := 0) rfl rfl rfl rfl (Nat.le_of_ble_eq_true rfl) rfl rfl rfl dX1_repair_16 ?_
    refine j_if_eq C (tgt := 43) (by decide) dX1_repair_19 (fun h6 => ?_) (fun h6 => ?_)
    · replace hf := it_t h6 hf
      refine j_iconst C ic_0 dX1_repair_43 ?_
      cases hf
      exact j_zret C zc_0 dX1_repair_44
    · replace hf := it_f h6 hf
      refine j_aload_n C dX1_repair_22 rfl ?_
      refine gf_X1_12 C dX1_repair_23 ?_
      refine j_iload_n C dX1_repair_26 rfl ?_
      replace hf := bd hf
      obtain ⟨v7, h8, hf⟩ := hf
      refine j_callV C cl_X1_119 (c_X0_votersUp h8) ⟨Nat.le_of_ble_eq_true rfl, Nat.le_of_ble_eq_true rfl⟩ ⟨Nat.zero_le _, Nat.zero_le _⟩ (q0 := 0) rfl rfl rfl rfl (Nat.le_of_ble_eq_true rfl) rfl rfl rfl dX1_repair_27 ?_
      replace hf := bd hf
      obtain ⟨v9, h10, hf⟩ := hf
      refine j_callS C cl_X1_122 (c_J6_bitCount_0f7a4 h10) ⟨Nat.le_of_ble_eq_true rfl, Nat.le_of_ble_eq_true rfl⟩ ⟨Nat.zero_le _, Nat.zero_le _⟩ rfl (Nat.le_of_ble_eq_true rfl) rfl rfl rfl dX1_repair_30 ?_
      refine j_aload_n C dX1_repair_33 rfl ?_
      refine gf_X1_22 C dX1_repair_34 ?_
      refine gf_X1_127 C dX1_repair_37 ?_
      refine j_icmp_lt C (tgt := 45) (by decide) dX1_repair_40 (fun h11 => ?_) (fun h11 => ?_)
      · replace hf := it_t h11 hf
        refine j_aload_n C dX1_repair_45 rfl ?_
        refine j_aload_n C dX1_repair_46 rfl ?_
        refine gf_X1_12 C dX1_repair_47 ?_
        refine j_iload_n C dX1_repair_50 rfl ?_
        replace hf := bd hf
        obtain ⟨v12, h13, hf⟩ := hf
        refine j_callV C cl_X1_132 (c_X0_votersDown h13) ⟨Nat.le_of_ble_eq_true rfl, Nat.le_of_ble_eq_true rfl⟩ ⟨Nat.zero_le _, Nat.zero_le _⟩ (q0 := 0) rfl rfl rfl rfl (Nat.le_of_ble_eq_true rfl) rfl rfl rfl dX1_repair_51 ?_
        replace hf := bd hf
        obtain ⟨v14, h15, hf⟩ := hf
        refine j_callV C cl_X1_135 (c_X1_lowestOf h15) ⟨Nat.le_of_ble_eq_true rfl, Nat.le_of_ble_eq_true rfl⟩ ⟨Nat.zero_le _, Nat.zero_le _⟩ (q0 := 18) rfl rfl rfl rfl (Nat.le_of_ble_eq_true rfl) rfl rfl rfl dX1_repair_54 ?_
        refine j_istore_n C (xs' := [some (.ref d), some (.int x1), some (.int v14), none]) dX1_repair_57 rfl rfl ?_
        refine j_aload_n C dX1_repair_58 rfl ?_
        refine j_iload_n C dX1_repair_59 rfl ?_
        refine j_iload_n C dX1_repair_60 rfl ?_
        replace hf := bd hf
        obtain ⟨v16, h17, hf⟩ := hf
        refine j_callV C cl_X1_109 (c_X1_choose h17) ⟨Nat.le_of_ble_eq_true rfl, Nat.le_of_ble_eq_true rfl⟩ ⟨Nat.zero_le _, Nat.zero_le _⟩ (q0 := 18) rfl rfl rfl rfl (Nat.le_of_ble_eq_true rfl) rfl rfl rfl dX1_repair_61 ?_
        refine j_istore_n C (xs' := [some (.ref d), some (.int x1), some (.int v14), some (.int v16)]) dX1_repair_64 rfl rfl ?_
        refine j_iload_n C dX1_repair_65 rfl ?_
        refine j_iconst C ic_m1 dX1_repair_66 ?_
        refine j_icmp_ne C (tgt := 72) (by decide) dX1_repair_67 (fun h18 => ?_) (fun h18 => ?_)
        · replace hf := it_f h18 hf
          refine j_aload_n C dX1_repair_72 rfl ?_
          refine j_iload_n C dX1_repair_73 rfl ?_
          refine j_iload_n C dX1_repair_74 rfl ?_
          refine j_iload_n C dX1_repair_75 rfl ?_
          replace hf := bd hf
          obtain ⟨v19, h20, hf⟩ := hf
          refine j_callV C cl_X1_138 (c_X1_teach h20) ⟨Nat.le_of_ble_eq_true rfl, Nat.le_of_ble_eq_true rfl⟩ ⟨Nat.zero_le _, Nat.zero_le _⟩ (q0 := 18) rfl rfl rfl rfl (Nat.le_of_ble_eq_true rfl) rfl rfl wC_fst dX1_repair_76 ?_
          refine j_iconst C ic_1 dX1_repair_79 ?_
          cases hf
          exact j_zret C zc_1 dX1_repair_80
        · replace hf := it_t h18 hf
          refine j_iconst C ic_0 dX1_repair_70 ?_
          cases hf
          exact j_zret C zc_0 dX1_repair_71
      · replace hf := it_f h11 hf
        refine j_iconst C ic_0 dX1_repair_43 ?_
        cases hf
        exact j_zret C zc_0 dX1_repair_44
set_option maxRecDepth 100000 in
set_option maxHeartbeats 4000000 in
theorem c_X1_isWhole {l : Launch} {D : va_G} {cI cS : ClassId} {A : Nat → Prop} {a : Nat → Nat} {d : Nat} {rest : va_W}  {σ : Nat → Nat → Int32} {x1 : Int32} {r : Int32} (hf : f_X1_isWhole σ x1 = some r) : CT l yX1_isWhole cX1_isWhole 2 (some .boolean) (rmF 2 42) D cI cS A [.ref d, .int x1] (wC a cI σ (dv d a :: rest)) (wC a cI σ (dv d a :: rest)) (some (.int r)) := by
  refine CT_of (own := RX1) (xs := [some (.ref d), some (.int x1)]) (by decide) rfl (Nat.le_of_ble_eq_true rfl) rfl ?_
  intro p e s_ m below meth c C
  unfold f_X1_isWhole at hf
  refine j_aload_n C dX1_isWhole_0 rfl ?_
  refine gf_X1_32 C dX1_isWhole_1 ?_
  refine j_iload_n C dX1_isWhole_4 rfl ?_
  replace hf := bd hf
  obtain ⟨v1, h2, hf⟩ := hf
  refine j_callV C cl_X1_113 (c_X5_hasLearner h2) ⟨Nat.le_of_ble_eq_true rfl, Nat.le_of_ble_eq_true rfl⟩ ⟨Nat.zero_le _, Nat.zero_le _⟩ (q0 := 3) rfl rfl rfl rfl (Nat.le_of_ble_eq_true rfl) rfl rfl rfl dX1_isWhole_5 ?_
  refine j_if_ne C (tgt := 37) (by decide) dX1_isWhole_8 (fun h3 => ?_) (fun h3 => ?_)
  · replace hf := it_f h3 hf
    refine j_iconst C ic_0 dX1_isWhole_37 ?_
    cases hf
    exact j_zret C zc_0 dX1_isWhole_38
  · replace hf := it_t h3 hf
    refine j_aload_n C dX1_isWhole_11 rfl ?_
    refine gf_X1_12 C dX1_isWhole_12 ?_
    refine j_iload_n C dX1_isWhole_15 rfl ?_
    replace hf := bd hf
    obtain ⟨v4, h5, hf⟩ := hf
    refine j_callV C cl_X1_132 (c_X0_votersDown h5) ⟨Nat.le_of_ble_eq_true rfl, Nat.le_of_ble_eq_true rfl⟩ ⟨Nat.zero_le _, Nat.zero_le _⟩ (q0 := 0) rfl rfl rfl rfl (Nat.le_of_ble_eq_true rfl) rfl rfl rfl dX1_isWhole_16 ?_
    refine j_if_ne C (tgt := 37) (by decide) dX1_isWhole_19 (fun h6 => ?_) (fun h6 => ?_)
    · replace hf := it_f h6 hf
      refine j_iconst C ic_0 dX1_isWhole_37 ?_
      cases hf
      exact j_zret C zc_0 dX1_isWhole_38
    · replace hf := it_t h6 hf
      refine j_aload_n C dX1_isWhole_22 rfl ?_
      refine gf_X1_12 C dX1_isWhole_23 ?_
      refine j_iload_n C dX1_isWhole_26 rfl ?_
      replace hf := bd hf
      obtain ⟨v7, h8, hf⟩ := hf
      refine j_callV C cl_X1_116 (c_X0_hasQuorum h8) ⟨Nat.le_of_ble_eq_true rfl, Nat.le_of_ble_eq_true rfl⟩ ⟨Nat.zero_le _, Nat.zero_le _⟩ (q0 := 0) rfl rfl rfl rfl (Nat.le_of_ble_eq_true rfl) rfl rfl rfl dX1_isWhole_27 ?_
      refine j_if_eq C (tgt := 37) (by decide) dX1_isWhole_30 (fun h9 => ?_) (fun h9 => ?_)
      · replace hf := it_t h9 hf
        refine j_iconst C ic_0 dX1_isWhole_37 ?_
        cases hf
        exact j_zret C zc_0 dX1_isWhole_38
      · replace hf := it_f h9 hf
        refine j_iconst C ic_1 dX1_isWhole_33 ?_
        refine j_goto C (tgt := 38) (by decide) dX1_isWhole_34 ?_
        cases hf
        exact j_zret C zc_1 dX1_isWhole_38
set_option maxRecDepth 100000 in
set_option maxHeartbeats 4000000 in
theorem w_X1_highestSharingZone_10 {p : Program} {l : Launch} {e : Env} {s_ : State} {m : MethodId} {args : Array Value} {below : List Frame} {meth : Method} {c : Code} {D : va_G} {cI cS : ClassId} {A : Nat → Prop} {a : Nat → Nat} {d : Nat} {rest : va_W}  (C : cx p s_ m args meth c cX1_highestSharingZone 4 RX1 (some .int) D cI cS)  : ∀ (n_ : Nat) (σ : Nat → Nat → Int32) (x1 : Int32) (x2 : Int32) (r : Int32), f_X1_highestSharingZone_10  n_ σ x1 x2 = some r → jG p l e (rmF 1 23) s_ m args below meth c 4 D A (MQ below (QW D A (wC a cI σ (dv d a :: rest)) (some (.int r))) args s_ 0 0 A) (wC a cI σ (dv d a :: rest)) [some (.ref d), some (.int x1), some (.int x2), none] 10 [] := by
  intro n_
  induction n_ with
  | zero =>
    intro σ x1 x2 r hf
    rw [f_X1_highestSharingZone_10] at hf
    cases hf
  | succ n_ hk10 =>
    intro σ x1 x2 r hf
    rw [f_X1_highestSharingZone_10] at hf
    refine j_iload_n C dX1_highestSharingZone_10 rfl ?_
    refine j_if_lt C (tgt := 57) (by decide) dX1_highestSharingZone_11 (fun h1 => ?_) (fun h1 => ?_)
    · replace hf := it_t h1 hf
      refine j_iconst C ic_m1 dX1_highestSharingZone_57 ?_
      cases hf
      exact j_iret C dX1_highestSharingZone_58
    · replace hf := it_f h1 hf
      refine j_iload_n C dX1_highestSharingZone_14 rfl ?_
      replace hf := bd hf
      obtain ⟨v2, h3, hf⟩ := hf
      refine j_callSN C cl_X1_78 (c_X8_bit h3) ⟨Nat.le_of_ble_eq_true rfl, Nat.le_of_ble_eq_true rfl⟩ ⟨Nat.zero_le _, Nat.zero_le _⟩ rfl (Nat.le_of_ble_eq_true rfl) rfl rfl rfl dX1_highestSharingZone_15 ?_
      refine j_istore_n C (xs' := [some (.ref d), some (.int x1), some (.int x2), some (.int v2)]) dX1_highestSharingZone_18 rfl rfl ?_
      refine j_iload_n C dX1_highestSharingZone_19 rfl ?_
      refine j_iload_n C dX1_highestSharingZone_20 rfl ?_
      refine j_iand C dX1_highestSharingZone_21 ?_
      refine j_if_eq C (tgt := 51) (by decide) dX1_highestSharingZone_22 (fun h4 => ?_) (fun h4 => ?_)
      · replace hf := it_t h4 hf
        refine j_iinc C (xs' := [some (.ref d), some (.int x1), some (.int (x2 + (-1 : Int32))), some (.int v2)]) dX1_highestSharingZone_51 rfl (ii_m1 _) rfl rfl ?_
        refine j_goto C (tgt := 10) (by decide) dX1_highestSharingZone_54 ?_
        refine j_weak [true, true, true, false] rfl ?_
        exact hk10 _ _ _ _ hf
      · replace hf := it_f h4 hf
        refine j_aload_n C dX1_highestSharingZone_25 rfl ?_
        refine gf_X1_27 C dX1_highestSharingZone_26 ?_
        refine j_iload_n C dX1_highestSharingZone_29 rfl ?_
        refine j_iload_n C dX1_highestSharingZone_30 rfl ?_
        refine j_iconst C ic_m1 dX1_highestSharingZone_31 ?_
        refine j_ixor C dX1_highestSharingZone_32 ?_
        refine j_iand C dX1_highestSharingZone_33 ?_
        replace hf := bd hf
        obtain ⟨v5, h6, hf⟩ := hf
        refine j_callV C cl_X1_225 (c_X4_zonesOf h6) ⟨Nat.le_of_ble_eq_true rfl, Nat.le_of_ble_eq_true rfl⟩ ⟨Nat.zero_le _, Nat.zero_le _⟩ (q0 := 2) rfl rfl rfl rfl (Nat.le_of_ble_eq_true rfl) rfl rfl rfl dX1_highestSharingZone_34 ?_
        refine j_aload_n C dX1_highestSharingZone_37 rfl ?_
        refine gf_X1_27 C dX1_highestSharingZone_38 ?_
        refine j_iload_n C dX1_highestSharingZone_41 rfl ?_
        replace hf := bd hf
        obtain ⟨v7, h8, hf⟩ := hf
        refine j_callV C cl_X1_225 (c_X4_zonesOf h8) ⟨Nat.le_of_ble_eq_true rfl, Nat.le_of_ble_eq_true rfl⟩ ⟨Nat.zero_le _, Nat.zero_le _⟩ (q0 := 2) rfl rfl rfl rfl (Nat.le_of_ble_eq_true rfl) rfl rfl rfl dX1_highestSharingZone_42 ?_
        refine j_iand C dX1_highestSharingZone_45 ?_
        refine j_if_eq C (tgt := 51) (by decide) dX1_highestSharingZone_46 (fun h9 => ?_) (fun h9 => ?_)
        · replace hf := it_t h9 hf
          refine j_iinc C (xs' := [some (.ref d), some (.int x1), some (.int (x2 + (-1 : Int32))), some (.int v2)]) dX1_highestSharingZone_51 rfl (ii_m1 _) rfl rfl ?_
          refine j_goto C (tgt := 10) (by decide) dX1_highestSharingZone_54 ?_
          refine j_weak [true, true, true, false] rfl ?_
          exact hk10 _ _ _ _ hf
        · replace hf := it_f h9 hf
          refine j_iload_n C dX1_highestSharingZone_49 rfl ?_
          cases hf
          exact j_iret C dX1_highestSharingZone_50
set_option maxRecDepth 100000 in
set_option maxHeartbeats 4000000 in
theorem c_X1_highestSharingZone {l : Launch} {D : va_G} {cI cS : ClassId} {A : Nat → Prop} {a : Nat → Nat} {d : Nat} {rest : va_W}  {σ : Nat → Nat → Int32} {x1 : Int32} {r : Int32} (hf : f_X1_highestSharingZone σ x1 = some r) : CT l yX1_highestSharingZone cX1_highestSharingZone 4 (some .int) (rmF 1 23) D cI cS A [.ref d, .int x1] (wC a cI σ (dv d a :: rest)) (wC a cI σ (dv d a :: rest)) (some (.int r)) := by
  refine CT_of (own := RX1) (xs := [some (.ref d), some (.int x1), none, none]) (by decide) rfl (Nat.le_of_ble_eq_true rfl) rfl ?_
  intro p e s_ m below meth c C
  unfold f_X1_highestSharingZone at hf
  refine j_aload_n C dX1_highestSharingZone_0 rfl ?_
  refine gf_X1_27 C dX1_highestSharingZone_1 ?_
  refine gf_X1_221 C dX1_highestSharingZone_4 ?_
  refine j_iconst C ic_1 dX1_highestSharingZone_7 ?_
  refine j_isub C dX1_highestSharingZone_8 ?_
  refine j_istore_n C (xs' := [some (.ref d), some (.int x1), some (.int (σ 0 6 - (1 : Int32))), none]) dX1_highestSharingZone_9 rfl rfl ?_
  exact w_X1_highestSharingZone_10 C  _ _ _ _ _ hf
set_option maxRecDepth 100000 in
set_option maxHeartbeats 4000000 in
theorem c_X1_spread {l : Launch} {D : va_G} {cI cS : ClassId} {A : Nat → Prop} {a : Nat → Nat} {d : Nat} {rest : va_W}  {σ : Nat → Nat → Int32} {x1 : Int32} {r : Int32 × (Nat → Nat → Int32)} (hf : f_X1_spread σ x1 = some r) : CT l yX1_spread cX1_spread 4 (some .boolean) (rmF 3 76) D cI cS A [.ref d, .int x1] (wC a cI σ (dv d a :: rest)) (wC a cI r.2 (dv d a :: rest)) (some (.int r.1)) := by
  refine CT_of (own := RX1) (xs := [some (.ref d), some (.int x1), none, none]) (by decide) rfl (Nat.le_of_ble_eq_true rfl) rfl ?_
  intro p e s_ m below meth c C
  unfold f_X1_spread at hf
  refine j_aload_n C dX1_spread_0 rfl ?_
  refine j_iload_n C dX1_spread_1 rfl ?_
  replace hf := bd hf
  obtain ⟨v1, h2, hf⟩ := hf
  refine j_callV C cl_X1_142 (c_X1_isWhole h2) ⟨Nat.le_of_ble_eq_true rfl, Nat.le_of_ble_eq_true rfl⟩ ⟨Nat.zero_le _, Nat.zero_le _⟩ (q0 := 18) rfl rfl rfl rfl (Nat.le_of_ble_eq_true rfl) rfl rfl rfl dX1_spread_2 ?_
  refine j_if_ne C (tgt := 10) (by decide) dX1_spread_5 (fun h3 => ?_) (fun h3 => ?_)
  · replace hf := it_f h3 hf
    refine j_aload_n C dX1_spread_10 rfl ?_
    refine j_aload_n C dX1_spread_11 rfl ?_
    refine gf_X1_32 C dX1_spread_12 ?_
    refine gf_X1_75 C dX1_spread_15 ?_
    refine j_iload_n C dX1_spread_18 rfl ?_
    replace hf := ld_s hf
    obtain ⟨v4, h5, e_v4, hf⟩ := hf
    refine aLC_10 C h5 e_v4 dX1_spread_19 ?_
    replace hf := bd hf
    obtain ⟨v6, h7, hf⟩ := hf
    refine j_callV C cl_X1_145 (c_X1_highestSharingZone h7) ⟨Nat.le_of_ble_eq_true rfl, Nat.le_of_ble_eq_true rfl⟩ ⟨Nat.zero_le _, Nat.zero_le _⟩ (q0 := 18) rfl rfl rfl rfl (Nat.le_of_ble_eq_true rfl) rfl rfl rfl dX1_spread_20 ?_
    refine j_istore_n C (xs' := [some (.ref d), some (.int x1), some (.int v6), none]) dX1_spread_23 rfl rfl ?_
    refine j_iload_n C dX1_spread_24 rfl ?_
    refine j_iconst C ic_m1 dX1_spread_25 ?_
    refine j_icmp_ne C (tgt := 31) (by decide) dX1_spread_26 (fun h8 => ?_) (fun h8 => ?_)
    · replace hf := it_f h8 hf
      refine j_aload_n C dX1_spread_31 rfl ?_
      refine j_iload_n C dX1_spread_32 rfl ?_
      refine j_iload_n C dX1_spread_33 rfl ?_
      replace hf := bd hf
      obtain ⟨v9, h10, hf⟩ := hf
      refine j_callV C cl_X1_109 (c_X1_choose h10) ⟨Nat.le_of_ble_eq_true rfl, Nat.le_of_ble_eq_true rfl⟩ ⟨Nat.zero_le _, Nat.zero_le _⟩ (q0 := 18) rfl rfl rfl rfl (Nat.le_of_ble_eq_true rfl) rfl rfl rfl dX1_spread_34 ?_
      refine j_istore_n C (xs' := [some (.ref d), some (.int x1), some (.int v6), some (.int v9)]) dX1_spread_37 rfl rfl ?_
      refine j_iload_n C dX1_spread_38 rfl ?_
      refine j_iconst C ic_m1 dX1_spread_39 ?_
      refine j_icmp_eq C (tgt := 53) (by decide) dX1_spread_40 (fun h11 => ?_) (fun h11 => ?_)
      · replace hf := it_t h11 hf
        refine j_iconst C ic_0 dX1_spread_53 ?_
        cases hf
        exact j_zret C zc_0 dX1_spread_54
      · replace hf := it_f h11 hf
        refine j_aload_n C dX1_spread_43 rfl ?_
        refine j_iload_n C dX1_spread_44 rfl ?_
        refine j_iload_n C dX1_spread_45 rfl ?_
        refine j_iload_n C dX1_spread_46 rfl ?_
        replace hf := bd hf
        obtain ⟨v12, h13, hf⟩ := hf
        refine j_callV C cl_X1_148 (c_X1_isFresh h13) ⟨Nat.le_of_ble_eq_true rfl, Nat.le_of_ble_eq_true rfl⟩ ⟨Nat.zero_le _, Nat.zero_le _⟩ (q0 := 18) rfl rfl rfl rfl (Nat.le_of_ble_eq_true rfl) rfl rfl rfl dX1_spread_47 ?_
        refine j_if_ne C (tgt := 55) (by decide) dX1_spread_50 (fun h14 => ?_) (fun h14 => ?_)
        · replace hf := it_f h14 hf
          refine j_aload_n C dX1_spread_55 rfl ?_
          refine j_iload_n C dX1_spread_56 rfl ?_
          refine j_iload_n C dX1_spread_57 rfl ?_
          refine j_iload_n C dX1_spread_58 rfl ?_
          replace hf := bd hf
          obtain ⟨v15, h16, hf⟩ := hf
          refine j_callV C cl_X1_138 (c_X1_teach h16) ⟨Nat.le_of_ble_eq_true rfl, Nat.le_of_ble_eq_true rfl⟩ ⟨Nat.zero_le _, Nat.zero_le _⟩ (q0 := 18) rfl rfl rfl rfl (Nat.le_of_ble_eq_true rfl) rfl rfl wC_fst dX1_spread_59 ?_
          refine j_iconst C ic_1 dX1_spread_62 ?_
          cases hf
          exact j_zret C zc_1 dX1_spread_63
        · replace hf := it_t h14 hf
          refine j_iconst C ic_0 dX1_spread_53 ?_
          cases hf
          exact j_zret C zc_0 dX1_spread_54
    · replace hf := it_t h8 hf
      refine j_iconst C ic_0 dX1_spread_29 ?_
      cases hf
      exact j_zret C zc_0 dX1_spread_30
  · replace hf := it_t h3 hf
    refine j_iconst C ic_0 dX1_spread_8 ?_
    cases hf
    exact j_zret C zc_0 dX1_spread_9
set_option maxRecDepth 100000 in
set_option maxHeartbeats 4000000 in
theorem c_X1_divideAt {l : Launch} {D : va_G} {cI cS : ClassId} {A : Nat → Prop} {a : Nat → Nat} {d : Nat} {rest : va_W}  {σ : Nat → Nat → Int32} {x1 : Int32} {x2 : Int32} {r : Int32 × (Nat → Nat → Int32)} (hf : f_X1_divideAt σ x1 x2 = some r) : CT l yX1_divideAt cX1_divideAt 3 (some .boolean) (rmF 2 45) D cI cS A [.ref d, .int x1, .int x2] (wC a cI σ (dv d a :: rest)) (wC a cI r.2 (dv d a :: rest)) (some (.int r.1)) := by
  refine CT_of (own := RX1) (xs := [some (.ref d), some (.int x1), some (.int x2)]) (by decide) rfl (Nat.le_of_ble_eq_true rfl) rfl ?_
  intro p e s_ m below meth c C
  unfold f_X1_divideAt at hf
  refine j_iload_n C dX1_divideAt_0 rfl ?_
  refine j_iconst C ic_m1 dX1_divideAt_1 ?_
  refine j_icmp_ne C (tgt := 7) (by decide) dX1_divideAt_2 (fun h1 => ?_) (fun h1 => ?_)
  · replace hf := it_f h1 hf
    refine j_aload_n C dX1_divideAt_7 rfl ?_
    refine gf_X1_32 C dX1_divideAt_8 ?_
    refine j_iload_n C dX1_divideAt_11 rfl ?_
    refine j_iload_n C dX1_divideAt_12 rfl ?_
    replace hf := bd hf
    obtain ⟨v2, h3, hf⟩ := hf
    refine j_callV C cl_X1_177 (c_X5_divide h3) ⟨Nat.le_of_ble_eq_true rfl, Nat.le_of_ble_eq_true rfl⟩ ⟨Nat.zero_le _, Nat.zero_le _⟩ (q0 := 3) rfl rfl rfl rfl (Nat.le_of_ble_eq_true rfl) rfl rfl wC_fst dX1_divideAt_13 ?_
    refine j_iconst C ic_1 dX1_divideAt_16 ?_
    cases hf
    exact j_zret C zc_1 dX1_divideAt_17
  · replace hf := it_t h1 hf
    refine j_iconst C ic_0 dX1_divideAt_5 ?_
    cases hf
    exact j_zret C zc_0 dX1_divideAt_6
set_option maxRecDepth 100000 in
set_option maxHeartbeats 4000000 in
theorem c_X1_splitBySize {l : Launch} {D : va_G} {cI cS : ClassId} {A : Nat → Prop} {a : Nat → Nat} {d : Nat} {rest : va_W}  {σ : Nat → Nat → Int32} {x1 : Int32} {r : Int32 × (Nat → Nat → Int32)} (hf : f_X1_splitBySize σ x1 = some r) : CT l yX1_splitBySize cX1_splitBySize 2 (some .boolean) (rmF 3 72) D cI cS A [.ref d, .int x1] (wC a cI σ (dv d a :: rest)) (wC a cI r.2 (dv d a :: rest)) (some (.int r.1)) := by
  refine CT_of (own := RX1) (xs := [some (.ref d), some (.int x1)]) (by decide) rfl (Nat.le_of_ble_eq_true rfl) rfl ?_
  intro p e s_ m below meth c C
  unfold f_X1_splitBySize at hf
  refine j_aload_n C dX1_splitBySize_0 rfl ?_
  refine gf_X1_32 C dX1_splitBySize_1 ?_
  refine j_iload_n C dX1_splitBySize_4 rfl ?_
  replace hf := bd hf
  obtain ⟨v1, h2, hf⟩ := hf
  refine j_callV C cl_X1_113 (c_X5_hasLearner h2) ⟨Nat.le_of_ble_eq_true rfl, Nat.le_of_ble_eq_true rfl⟩ ⟨Nat.zero_le _, Nat.zero_le _⟩ (q0 := 3) rfl rfl rfl rfl (Nat.le_of_ble_eq_true rfl) rfl rfl rfl dX1_splitBySize_5 ?_
  refine j_if_ne C (tgt := 39) (by decide) dX1_splitBySize_8 (fun h3 => ?_) (fun h3 => ?_)
  · replace hf := it_f h3 hf
    refine j_iconst C ic_0 dX1_splitBySize_39 ?_
    cases hf
    exact j_zret C zc_0 dX1_splitBySize_40
  · replace hf := it_t h3 hf
    refine j_aload_n C dX1_splitBySize_11 rfl ?_
    refine gf_X1_32 C dX1_splitBySize_12 ?_
    replace hf := bd hf
    obtain ⟨v4, h5, hf⟩ := hf
    refine j_callV C cl_X1_152 (c_X5_isFull h5) ⟨Nat.le_of_ble_eq_true rfl, Nat.le_of_ble_eq_true rfl⟩ ⟨Nat.zero_le _, Nat.zero_le _⟩ (q0 := 3) rfl rfl rfl rfl (Nat.le_of_ble_eq_true rfl) rfl rfl rfl dX1_splitBySize_15 ?_
    refine j_if_ne C (tgt := 39) (by decide) dX1_splitBySize_18 (fun h6 => ?_) (fun h6 => ?_)
    · replace hf := it_f h6 hf
      refine j_iconst C ic_0 dX1_splitBySize_39 ?_
      cases hf
      exact j_zret C zc_0 dX1_splitBySize_40
    · replace hf := it_t h6 hf
      refine j_aload_n C dX1_splitBySize_21 rfl ?_
      refine gf_X1_12 C dX1_splitBySize_22 ?_
      refine j_iload_n C dX1_splitBySize_25 rfl ?_
      replace hf := bd hf
      obtain ⟨v7, h8, hf⟩ := hf
      refine j_callV C cl_X1_156 (c_X0_rangeSize h8) ⟨Nat.le_of_ble_eq_true rfl, Nat.le_of_ble_eq_true rfl⟩ ⟨Nat.zero_le _, Nat.zero_le _⟩ (q0 := 0) rfl rfl rfl rfl (Nat.le_of_ble_eq_true rfl) rfl rfl rfl dX1_splitBySize_26 ?_
      refine j_aload_n C dX1_splitBySize_29 rfl ?_
      refine gf_X1_22 C dX1_splitBySize_30 ?_
      refine gf_X1_159 C dX1_splitBySize_33 ?_
      refine j_icmp_gt C (tgt := 41) (by decide) dX1_splitBySize_36 (fun h9 => ?_) (fun h9 => ?_)
      · replace hf := it_t h9 hf
        refine j_aload_n C dX1_splitBySize_41 rfl ?_
        refine j_iload_n C dX1_splitBySize_42 rfl ?_
        refine j_aload_n C dX1_splitBySize_43 rfl ?_
        refine gf_X1_12 C dX1_splitBySize_44 ?_
        refine j_iload_n C dX1_splitBySize_47 rfl ?_
        replace hf := bd hf
        obtain ⟨v10, h11, hf⟩ := hf
        refine j_callV C cl_X1_162 (c_X0_sizeSplitKey h11) ⟨Nat.le_of_ble_eq_true rfl, Nat.le_of_ble_eq_true rfl⟩ ⟨Nat.zero_le _, Nat.zero_le _⟩ (q0 := 0) rfl rfl rfl rfl (Nat.le_of_ble_eq_true rfl) rfl rfl rfl dX1_splitBySize_48 ?_
        replace hf := bd hf
        obtain ⟨v12, h13, hf⟩ := hf
        refine j_callV C cl_X1_165 (c_X1_divideAt h13) ⟨Nat.le_of_ble_eq_true rfl, Nat.le_of_ble_eq_true rfl⟩ ⟨Nat.zero_le _, Nat.zero_le _⟩ (q0 := 18) rfl rfl rfl rfl (Nat.le_of_ble_eq_true rfl) rfl rfl wC_fst dX1_splitBySize_51 ?_
        replace hf := zr_s hf
        obtain ⟨h14, hf⟩ := hf
        cases hf
        exact j_zret C h14 dX1_splitBySize_54
      · replace hf := it_f h9 hf
        refine j_iconst C ic_0 dX1_splitBySize_39 ?_
        cases hf
        exact j_zret C zc_0 dX1_splitBySize_40
set_option maxRecDepth 100000 in
set_option maxHeartbeats 4000000 in
theorem c_X1_splitByLoad {l : Launch} {D : va_G} {cI cS : ClassId} {A : Nat → Prop} {a : Nat → Nat} {d : Nat} {rest : va_W}  {σ : Nat → Nat → Int32} {x1 : Int32} {r : Int32 × (Nat → Nat → Int32)} (hf : f_X1_splitByLoad σ x1 = some r) : CT l yX1_splitByLoad cX1_splitByLoad 2 (some .boolean) (rmF 3 71) D cI cS A [.ref d, .int x1] (wC a cI σ (dv d a :: rest)) (wC a cI r.2 (dv d a :: rest)) (some (.int r.1)) := by
  refine CT_of (own := RX1) (xs := [some (.ref d), some (.int x1)]) (by decide) rfl (Nat.le_of_ble_eq_true rfl) rfl ?_
  intro p e s_ m below meth c C
  unfold f_X1_splitByLoad at hf
  refine j_aload_n C dX1_splitByLoad_0 rfl ?_
  refine gf_X1_32 C dX1_splitByLoad_1 ?_
  refine j_iload_n C dX1_splitByLoad_4 rfl ?_
  replace hf := bd hf
  obtain ⟨v1, h2, hf⟩ := hf
  refine j_callV C cl_X1_113 (c_X5_hasLearner h2) ⟨Nat.le_of_ble_eq_true rfl, Nat.le_of_ble_eq_true rfl⟩ ⟨Nat.zero_le _, Nat.zero_le _⟩ (q0 := 3) rfl rfl rfl rfl (Nat.le_of_ble_eq_true rfl) rfl rfl rfl dX1_splitByLoad_5 ?_
  refine j_if_ne C (tgt := 39) (by decide) dX1_splitByLoad_8 (fun h3 => ?_) (fun h3 => ?_)
  · replace hf := it_f h3 hf
    refine j_iconst C ic_0 dX1_splitByLoad_39 ?_
    cases hf
    exact j_zret C zc_0 dX1_splitByLoad_40
  · replace hf := it_t h3 hf
    refine j_aload_n C dX1_splitByLoad_11 rfl ?_
    refine gf_X1_32 C dX1_splitByLoad_12 ?_
    replace hf := bd hf
    obtain ⟨v4, h5, hf⟩ := hf
    refine j_callV C cl_X1_152 (c_X5_isFull h5) ⟨Nat.le_of_ble_eq_true rfl, Nat.le_of_ble_eq_true rfl⟩ ⟨Nat.zero_le _, Nat.zero_le _⟩ (q0 := 3) rfl rfl rfl rfl (Nat.le_of_ble_eq_true rfl) rfl rfl rfl dX1_splitByLoad_15 ?_
    refine j_if_ne C (tgt := 39) (by decide) dX1_splitByLoad_18 (fun h6 => ?_) (fun h6 => ?_)
    · replace hf := it_f h6 hf
      refine j_iconst C ic_0 dX1_splitByLoad_39 ?_
      cases hf
      exact j_zret C zc_0 dX1_splitByLoad_40
    · replace hf := it_t h6 hf
      refine j_aload_n C dX1_splitByLoad_21 rfl ?_
      refine gf_X1_12 C dX1_splitByLoad_22 ?_
      refine j_iload_n C dX1_splitByLoad_25 rfl ?_
      replace hf := bd hf
      obtain ⟨v7, h8, hf⟩ := hf
      refine j_callV C cl_X1_168 (c_X0_rangeLoad h8) ⟨Nat.le_of_ble_eq_true rfl, Nat.le_of_ble_eq_true rfl⟩ ⟨Nat.zero_le _, Nat.zero_le _⟩ (q0 := 0) rfl rfl rfl rfl (Nat.le_of_ble_eq_true rfl) rfl rfl rfl dX1_splitByLoad_26 ?_
      refine j_aload_n C dX1_splitByLoad_29 rfl ?_
      refine gf_X1_22 C dX1_splitByLoad_30 ?_
      refine gf_X1_171 C dX1_splitByLoad_33 ?_
      refine j_icmp_gt C (tgt := 41) (by decide) dX1_splitByLoad_36 (fun h9 => ?_) (fun h9 => ?_)
      · replace hf := it_t h9 hf
        refine j_aload_n C dX1_splitByLoad_41 rfl ?_
        refine j_iload_n C dX1_splitByLoad_42 rfl ?_
        refine j_aload_n C dX1_splitByLoad_43 rfl ?_
        refine gf_X1_12 C dX1_splitByLoad_44 ?_
        refine j_iload_n C dX1_splitByLoad_47 rfl ?_
        replace hf := bd hf
        obtain ⟨v10, h11, hf⟩ := hf
        refine j_callV C cl_X1_174 (c_X0_loadSplitKey h11) ⟨Nat.le_of_ble_eq_true rfl, Nat.le_of_ble_eq_true rfl⟩ ⟨Nat.zero_le _, Nat.zero_le _⟩ (q0 := 0) rfl rfl rfl rfl (Nat.le_of_ble_eq_true rfl) rfl rfl rfl dX1_splitByLoad_48 ?_
        replace hf := bd hf
        obtain ⟨v12, h13, hf⟩ := hf
        refine j_callV C cl_X1_165 (c_X1_divideAt h13) ⟨Nat.le_of_ble_eq_true rfl, Nat.le_of_ble_eq_true rfl⟩ ⟨Nat.zero_le _, Nat.zero_le _⟩ (q0 := 18) rfl rfl rfl rfl (Nat.le_of_ble_eq_true rfl) rfl rfl wC_fst dX1_splitByLoad_51 ?_
        replace hf := zr_s hf
        obtain ⟨h14, hf⟩ := hf
        cases hf
        exact j_zret C h14 dX1_splitByLoad_54
      · replace hf := it_f h9 hf
        refine j_iconst C ic_0 dX1_splitByLoad_39 ?_
        cases hf
        exact j_zret C zc_0 dX1_splitByLoad_40
set_option maxRecDepth 100000 in
set_option maxHeartbeats 4000000 in
theorem c_X1_isCold {l : Launch} {D : va_G} {cI cS : ClassId} {A : Nat → Prop} {a : Nat → Nat} {d : Nat} {rest : va_W}  {σ : Nat → Nat → Int32} {x1 : Int32} {r : Int32} (hf : f_X1_isCold σ x1 = some r) : CT l yX1_isCold cX1_isCold 2 (some .boolean) (rmF 2 45) D cI cS A [.ref d, .int x1] (wC a cI σ (dv d a :: rest)) (wC a cI σ (dv d a :: rest)) (some (.int r)) := by
  refine CT_of (own := RX1) (xs := [some (.ref d), some (.int x1)]) (by decide) rfl (Nat.le_of_ble_eq_true rfl) rfl ?_
  intro p e s_ m below meth c C
  unfold f_X1_isCold at hf
  refine j_aload_n C dX1_isCold_0 rfl ?_
  refine gf_X1_32 C dX1_isCold_1 ?_
  refine j_iload_n C dX1_isCold_4 rfl ?_
  replace hf := bd hf
  obtain ⟨v1, h2, hf⟩ := hf
  refine j_callV C cl_X1_113 (c_X5_hasLearner h2) ⟨Nat.le_of_ble_eq_true rfl, Nat.le_of_ble_eq_true rfl⟩ ⟨Nat.zero_le _, Nat.zero_le _⟩ (q0 := 3) rfl rfl rfl rfl (Nat.le_of_ble_eq_true rfl) rfl rfl rfl dX1_isCold_5 ?_
  refine j_if_ne C (tgt := 62) (by decide) dX1_isCold_8 (fun h3 => ?_) (fun h3 => ?_)
  · replace hf := it_f h3 hf
    refine j_iconst C ic_0 dX1_isCold_62 ?_
    cases hf
    exact j_zret C zc_0 dX1_isCold_63
  · replace hf := it_t h3 hf
    refine j_aload_n C dX1_isCold_11 rfl ?_
    refine gf_X1_12 C dX1_isCold_12 ?_
    refine j_iload_n C dX1_isCold_15 rfl ?_
    replace hf := bd hf
    obtain ⟨v4, h5, hf⟩ := hf
    refine j_callV C cl_X1_116 (c_X0_hasQuorum h5) ⟨Nat.le_of_ble_eq_true rfl, Nat.le_of_ble_eq_true rfl⟩ ⟨Nat.zero_le _, Nat.zero_le _⟩ (q0 := 0) rfl rfl rfl rfl (Nat.le_of_ble_eq_true rfl) rfl rfl rfl dX1_isCold_16 ?_
    refine j_if_eq C (tgt := 62) (by decide) dX1_isCold_19 (fun h6 => ?_) (fun h6 => ?_)
    · replace hf := it_t h6 hf
      refine j_iconst C ic_0 dX1_isCold_62 ?_
      cases hf
      exact j_zret C zc_0 dX1_isCold_63
    · replace hf := it_f h6 hf
      refine j_aload_n C dX1_isCold_22 rfl ?_
      refine gf_X1_12 C dX1_isCold_23 ?_
      refine j_iload_n C dX1_isCold_26 rfl ?_
      replace hf := bd hf
      obtain ⟨v7, h8, hf⟩ := hf
      refine j_callV C cl_X1_156 (c_X0_rangeSize h8) ⟨Nat.le_of_ble_eq_true rfl, Nat.le_of_ble_eq_true rfl⟩ ⟨Nat.zero_le _, Nat.zero_le _⟩ (q0 := 0) rfl rfl rfl rfl (Nat.le_of_ble_eq_true rfl) rfl rfl rfl dX1_isCold_27 ?_
      refine j_aload_n C dX1_isCold_30 rfl ?_
      refine gf_X1_22 C dX1_isCold_31 ?_
      refine gf_X1_187 C dX1_isCold_34 ?_
      refine j_icmp_ge C (tgt := 62) (by decide) dX1_isCold_37 (fun h9 => ?_) (fun h9 => ?_)
      · replace hf := it_t h9 hf
        refine j_iconst C ic_0 dX1_isCold_62 ?_
        cases hf
        exact j_zret C zc_0 dX1_isCold_63
      · replace hf := it_f h9 hf
        refine j_aload_n C dX1_isCold_40 rfl ?_
        refine gf_X1_12 C dX1_isCold_41 ?_
        refine j_iload_n C dX1_isCold_44 rfl ?_
        replace hf := bd hf
        obtain ⟨v10, h11, hf⟩ := hf
        refine j_callV C cl_X1_168 (c_X0_rangeLoad h11) ⟨Nat.le_of_ble_eq_true rfl, Nat.le_of_ble_eq_true rfl⟩ ⟨Nat.zero_le _, Nat.zero_le _⟩ (q0 := 0) rfl rfl rfl rfl (Nat.le_of_ble_eq_true rfl) rfl rfl rfl dX1_isCold_45 ?_
        refine j_aload_n C dX1_isCold_48 rfl ?_
        refine gf_X1_22 C dX1_isCold_49 ?_
        refine gf_X1_190 C dX1_isCold_52 ?_
        refine j_icmp_ge C (tgt := 62) (by decide) dX1_isCold_55 (fun h12 => ?_) (fun h12 => ?_)
        · replace hf := it_t h12 hf
          refine j_iconst C ic_0 dX1_isCold_62 ?_
          cases hf
          exact j_zret C zc_0 dX1_isCold_63
        · replace hf := it_f h12 hf
          refine j_iconst C ic_1 dX1_isCold_58 ?_
          refine j_goto C (tgt := 63) (by decide) dX1_isCold_59 ?_
          cases hf
          exact j_zret C zc_1 dX1_isCold_63
set_option maxRecDepth 100000 in
set_option maxHeartbeats 4000000 in
theorem c_X1_merge {l : Launch} {D : va_G} {cI cS : ClassId} {A : Nat → Prop} {a : Nat → Nat} {d : Nat} {rest : va_W}  {σ : Nat → Nat → Int32} {x1 : Int32} {r : Int32 × (Nat → Nat → Int32)} (hf : f_X1_merge σ x1 = some r) : CT l yX1_merge cX1_merge 3 (some .boolean) (rmF 3 66) D cI cS A [.ref d, .int x1] (wC a cI σ (dv d a :: rest)) (wC a cI r.2 (dv d a :: rest)) (some (.int r.1)) := by
  refine CT_of (own := RX1) (xs := [some (.ref d), some (.int x1), none]) (by decide) rfl (Nat.le_of_ble_eq_true rfl) rfl ?_
  intro p e s_ m below meth c C
  unfold f_X1_merge at hf
  refine j_iload_n C dX1_merge_0 rfl ?_
  refine j_iconst C ic_1 dX1_merge_1 ?_
  refine j_iadd C dX1_merge_2 ?_
  refine j_istore_n C (xs' := [some (.ref d), some (.int x1), some (.int (x1 + (1 : Int32)))]) dX1_merge_3 rfl rfl ?_
  refine j_iload_n C dX1_merge_4 rfl ?_
  refine j_aload_n C dX1_merge_5 rfl ?_
  refine gf_X1_32 C dX1_merge_6 ?_
  refine gf_X1_37 C dX1_merge_9 ?_
  refine j_icmp_ge C (tgt := 79) (by decide) dX1_merge_12 (fun h1 => ?_) (fun h1 => ?_)
  · replace hf := it_t h1 hf
    refine j_iconst C ic_0 dX1_merge_79 ?_
    cases hf
    exact j_zret C zc_0 dX1_merge_80
  · replace hf := it_f h1 hf
    refine j_aload_n C dX1_merge_15 rfl ?_
    refine gf_X1_32 C dX1_merge_16 ?_
    refine gf_X1_75 C dX1_merge_19 ?_
    refine j_iload_n C dX1_merge_22 rfl ?_
    replace hf := ld_s hf
    obtain ⟨v2, h3, e_v2, hf⟩ := hf
    refine aLC_10 C h3 e_v2 dX1_merge_23 ?_
    refine j_aload_n C dX1_merge_24 rfl ?_
    refine gf_X1_32 C dX1_merge_25 ?_
    refine gf_X1_75 C dX1_merge_28 ?_
    refine j_iload_n C dX1_merge_31 rfl ?_
    replace hf := ld_s hf
    obtain ⟨v4, h5, e_v4, hf⟩ := hf
    refine aLC_10 C h5 e_v4 dX1_merge_32 ?_
    refine j_icmp_ne C (tgt := 79) (by decide) dX1_merge_33 (fun h6 => ?_) (fun h6 => ?_)
    · replace hf := it_f h6 hf
      refine j_iconst C ic_0 dX1_merge_79 ?_
      cases hf
      exact j_zret C zc_0 dX1_merge_80
    · replace hf := it_t h6 hf
      refine j_aload_n C dX1_merge_36 rfl ?_
      refine j_iload_n C dX1_merge_37 rfl ?_
      replace hf := bd hf
      obtain ⟨v7, h8, hf⟩ := hf
      refine j_callV C cl_X1_181 (c_X1_isCold h8) ⟨Nat.le_of_ble_eq_true rfl, Nat.le_of_ble_eq_true rfl⟩ ⟨Nat.zero_le _, Nat.zero_le _⟩ (q0 := 18) rfl rfl rfl rfl (Nat.le_of_ble_eq_true rfl) rfl rfl rfl dX1_merge_38 ?_
      refine j_if_eq C (tgt := 79) (by decide) dX1_merge_41 (fun h9 => ?_) (fun h9 => ?_)
      · replace hf := it_t h9 hf
        refine j_iconst C ic_0 dX1_merge_79 ?_
        cases hf
        exact j_zret C zc_0 dX1_merge_80
      · replace hf := it_f h9 hf
        refine j_aload_n C dX1_merge_44 rfl ?_
        refine j_iload_n C dX1_merge_45 rfl ?_
        replace hf := bd hf
        obtain ⟨v10, h11, hf⟩ := hf
        refine j_callV C cl_X1_181 (c_X1_isCold h11) ⟨Nat.le_of_ble_eq_true rfl, Nat.le_of_ble_eq_true rfl⟩ ⟨Nat.zero_le _, Nat.zero_le _⟩ (q0 := 18) rfl rfl rfl rfl (Nat.le_of_ble_eq_true rfl) rfl rfl rfl dX1_merge_46 ?_
        refine j_if_eq C (tgt := 79) (by decide) dX1_merge_49 (fun h12 => ?_) (fun h12 => ?_)
        · replace hf := it_t h12 hf
          refine j_iconst C ic_0 dX1_merge_79 ?_
          cases hf
          exact j_zret C zc_0 dX1_merge_80
        · replace hf := it_f h12 hf
          refine j_aload_n C dX1_merge_52 rfl ?_
          refine gf_X1_12 C dX1_merge_53 ?_
          refine j_iload_n C dX1_merge_56 rfl ?_
          replace hf := bd hf
          obtain ⟨v13, h14, hf⟩ := hf
          refine j_callV C cl_X1_156 (c_X0_rangeSize h14) ⟨Nat.le_of_ble_eq_true rfl, Nat.le_of_ble_eq_true rfl⟩ ⟨Nat.zero_le _, Nat.zero_le _⟩ (q0 := 0) rfl rfl rfl rfl (Nat.le_of_ble_eq_true rfl) rfl rfl rfl dX1_merge_57 ?_
          refine j_aload_n C dX1_merge_60 rfl ?_
          refine gf_X1_12 C dX1_merge_61 ?_
          refine j_iload_n C dX1_merge_64 rfl ?_
          replace hf := bd hf
          obtain ⟨v15, h16, hf⟩ := hf
          refine j_callV C cl_X1_156 (c_X0_rangeSize h16) ⟨Nat.le_of_ble_eq_true rfl, Nat.le_of_ble_eq_true rfl⟩ ⟨Nat.zero_le _, Nat.zero_le _⟩ (q0 := 0) rfl rfl rfl rfl (Nat.le_of_ble_eq_true rfl) rfl rfl rfl dX1_merge_65 ?_
          refine j_iadd C dX1_merge_68 ?_
          refine j_aload_n C dX1_merge_69 rfl ?_
          refine gf_X1_22 C dX1_merge_70 ?_
          refine gf_X1_159 C dX1_merge_73 ?_
          refine j_icmp_le C (tgt := 81) (by decide) dX1_merge_76 (fun h17 => ?_) (fun h17 => ?_)
          · replace hf := it_t h17 hf
            refine j_aload_n C dX1_merge_81 rfl ?_
            refine gf_X1_32 C dX1_merge_82 ?_
            refine j_iload_n C dX1_merge_85 rfl ?_
            replace hf := bd hf
            obtain ⟨v18, h19, hf⟩ := hf
            refine j_callV C cl_X1_184 (c_X5_absorbNext h19) ⟨Nat.le_of_ble_eq_true rfl, Nat.le_of_ble_eq_true rfl⟩ ⟨Nat.zero_le _, Nat.zero_le _⟩ (q0 := 3) rfl rfl rfl rfl (Nat.le_of_ble_eq_true rfl) rfl rfl wC_fst dX1_merge_86 ?_
            refine j_iconst C ic_1 dX1_merge_89 ?_
            cases hf
            exact j_zret C zc_1 dX1_merge_90
          · replace hf := it_f h17 hf
            refine j_iconst C ic_0 dX1_merge_79 ?_
            cases hf
            exact j_zret C zc_0 dX1_merge_80
set_option maxRecDepth 100000 in
set_option maxHeartbeats 4000000 in
theorem c_X1_shiftLeader {l : Launch} {D : va_G} {cI cS : ClassId} {A : Nat → Prop} {a : Nat → Nat} {d : Nat} {rest : va_W}  {σ : Nat → Nat → Int32} {x1 : Int32} {r : Int32 × (Nat → Nat → Int32)} (hf : f_X1_shiftLeader σ x1 = some r) : CT l yX1_shiftLeader cX1_shiftLeader 4 (some .boolean) (rmF 2 48) D cI cS A [.ref d, .int x1] (wC a cI σ (dv d a :: rest)) (wC a cI r.2 (dv d a :: rest)) (some (.int r.1)) := by
  refine CT_of (own := RX1) (xs := [some (.ref d), some (.int x1), none, none]) (by decide) rfl (Nat.le_of_ble_eq_true rfl) rfl ?_
  intro p e s_ m below meth c C
  unfold f_X1_shiftLeader at hf
  refine j_aload_n C dX1_shiftLeader_0 rfl ?_
  refine gf_X1_32 C dX1_shiftLeader_1 ?_
  refine gf_X1_63 C dX1_shiftLeader_4 ?_
  refine j_iload_n C dX1_shiftLeader_7 rfl ?_
  replace hf := ld_s hf
  obtain ⟨v1, h2, e_v1, hf⟩ := hf
  refine aLC_11 C h2 e_v1 dX1_shiftLeader_8 ?_
  refine j_istore_n C (xs' := [some (.ref d), some (.int x1), some (.int v1), none]) dX1_shiftLeader_9 rfl rfl ?_
  refine j_iload_n C dX1_shiftLeader_10 rfl ?_
  refine j_iconst C ic_m1 dX1_shiftLeader_11 ?_
  refine j_icmp_ne C (tgt := 17) (by decide) dX1_shiftLeader_12 (fun h3 => ?_) (fun h3 => ?_)
  · replace hf := it_f h3 hf
    refine j_aload_n C dX1_shiftLeader_17 rfl ?_
    refine gf_X1_12 C dX1_shiftLeader_18 ?_
    refine j_aload_n C dX1_shiftLeader_21 rfl ?_
    refine gf_X1_12 C dX1_shiftLeader_22 ?_
    refine j_iload_n C dX1_shiftLeader_25 rfl ?_
    replace hf := bd hf
    obtain ⟨v4, h5, hf⟩ := hf
    refine j_callV C cl_X1_119 (c_X0_votersUp h5) ⟨Nat.le_of_ble_eq_true rfl, Nat.le_of_ble_eq_true rfl⟩ ⟨Nat.zero_le _, Nat.zero_le _⟩ (q0 := 0) rfl rfl rfl rfl (Nat.le_of_ble_eq_true rfl) rfl rfl rfl dX1_shiftLeader_26 ?_
    replace hf := bd hf
    obtain ⟨v6, h7, hf⟩ := hf
    refine j_callV C cl_X1_193 (c_X0_leastLeading h7) ⟨Nat.le_of_ble_eq_true rfl, Nat.le_of_ble_eq_true rfl⟩ ⟨Nat.zero_le _, Nat.zero_le _⟩ (q0 := 0) rfl rfl rfl rfl (Nat.le_of_ble_eq_true rfl) rfl rfl rfl dX1_shiftLeader_29 ?_
    refine j_istore_n C (xs' := [some (.ref d), some (.int x1), some (.int v1), some (.int v6)]) dX1_shiftLeader_32 rfl rfl ?_
    refine j_iload_n C dX1_shiftLeader_33 rfl ?_
    refine j_iconst C ic_m1 dX1_shiftLeader_34 ?_
    refine j_icmp_eq C (tgt := 59) (by decide) dX1_shiftLeader_35 (fun h8 => ?_) (fun h8 => ?_)
    · replace hf := it_t h8 hf
      refine j_iconst C ic_0 dX1_shiftLeader_59 ?_
      cases hf
      exact j_zret C zc_0 dX1_shiftLeader_60
    · replace hf := it_f h8 hf
      refine j_aload_n C dX1_shiftLeader_38 rfl ?_
      refine gf_X1_32 C dX1_shiftLeader_39 ?_
      refine j_iload_n C dX1_shiftLeader_42 rfl ?_
      replace hf := bd hf
      obtain ⟨v9, h10, hf⟩ := hf
      refine j_callV C cl_X1_196 (c_X5_ledBy h10) ⟨Nat.le_of_ble_eq_true rfl, Nat.le_of_ble_eq_true rfl⟩ ⟨Nat.zero_le _, Nat.zero_le _⟩ (q0 := 3) rfl rfl rfl rfl (Nat.le_of_ble_eq_true rfl) rfl rfl rfl dX1_shiftLeader_43 ?_
      refine j_iconst C ic_2 dX1_shiftLeader_46 ?_
      refine j_iadd C dX1_shiftLeader_47 ?_
      refine j_aload_n C dX1_shiftLeader_48 rfl ?_
      refine gf_X1_32 C dX1_shiftLeader_49 ?_
      refine j_iload_n C dX1_shiftLeader_52 rfl ?_
      replace hf := bd hf
      obtain ⟨v11, h12, hf⟩ := hf
      refine j_callV C cl_X1_196 (c_X5_ledBy h12) ⟨Nat.le_of_ble_eq_true rfl, Nat.le_of_ble_eq_true rfl⟩ ⟨Nat.zero_le _, Nat.zero_le _⟩ (q0 := 3) rfl rfl rfl rfl (Nat.le_of_ble_eq_true rfl) rfl rfl rfl dX1_shiftLeader_53 ?_
      refine j_icmp_le C (tgt := 61) (by decide) dX1_shiftLeader_56 (fun h13 => ?_) (fun h13 => ?_)
      · replace hf := it_t h13 hf
        refine j_aload_n C dX1_shiftLeader_61 rfl ?_
        refine gf_X1_32 C dX1_shiftLeader_62 ?_
        refine gf_X1_63 C dX1_shiftLeader_65 ?_
        refine j_iload_n C dX1_shiftLeader_68 rfl ?_
        refine j_iload_n C dX1_shiftLeader_69 rfl ?_
        replace hf := sd_s hf
        obtain ⟨h14, hf⟩ := hf
        refine aSC_11 C h14 dX1_shiftLeader_70 ?_
        refine j_iconst C ic_1 dX1_shiftLeader_71 ?_
        cases hf
        exact j_zret C zc_1 dX1_shiftLeader_72
      · replace hf := it_f h13 hf
        refine j_iconst C ic_0 dX1_shiftLeader_59 ?_
        cases hf
        exact j_zret C zc_0 dX1_shiftLeader_60
  · replace hf := it_t h3 hf
    refine j_iconst C ic_0 dX1_shiftLeader_15 ?_
    cases hf
    exact j_zret C zc_0 dX1_shiftLeader_16
set_option maxRecDepth 100000 in
set_option maxHeartbeats 4000000 in
theorem w_X1_mostLoaded_7 {p : Program} {l : Launch} {e : Env} {s_ : State} {m : MethodId} {args : Array Value} {below : List Frame} {meth : Method} {c : Code} {D : va_G} {cI cS : ClassId} {A : Nat → Prop} {a : Nat → Nat} {d : Nat} {rest : va_W}  (C : cx p s_ m args meth c cX1_mostLoaded 5 RX1 (some .int) D cI cS)  : ∀ (n_ : Nat) (σ : Nat → Nat → Int32) (x1 : Int32) (x2 : Int32) (x3 : Int32) (x4 : Int32) (r : Int32), f_X1_mostLoaded_7  n_ σ x1 x2 x3 x4 = some r → jG p l e (rmF 2 44) s_ m args below meth c 5 D A (MQ below (QW D A (wC a cI σ (dv d a :: rest)) (some (.int r))) args s_ 0 0 A) (wC a cI σ (dv d a :: rest)) [some (.ref d), some (.int x1), some (.int x2), some (.int x3), some (.int x4)] 7 [] := by
  intro n_
  induction n_ with
  | zero =>
    intro σ x1 x2 x3 x4 r hf
    rw [f_X1_mostLoaded_7] at hf
    cases hf
  | succ n_ hk7 =>
    intro σ x1 x2 x3 x4 r hf
    rw [f_X1_mostLoaded_7] at hf
    refine j_iload C dX1_mostLoaded_7 rfl ?_
    refine j_aload_n C dX1_mostLoaded_9 rfl ?_
    refine gf_X1_27 C dX1_mostLoaded_10 ?_
    refine gf_X1_221 C dX1_mostLoaded_13 ?_
    refine j_icmp_ge C (tgt := 61) (by decide) dX1_mostLoaded_16 (fun h1 => ?_) (fun h1 => ?_)
    · replace hf := it_t h1 hf
      refine j_iload_n C dX1_mostLoaded_61 rfl ?_
      cases hf
      exact j_iret C dX1_mostLoaded_62
    · replace hf := it_f h1 hf
      refine j_iload_n C dX1_mostLoaded_19 rfl ?_
      refine j_iload C dX1_mostLoaded_20 rfl ?_
      replace hf := bd hf
      obtain ⟨v2, h3, hf⟩ := hf
      refine j_callSN C cl_X1_78 (c_X8_bit h3) ⟨Nat.le_of_ble_eq_true rfl, Nat.le_of_ble_eq_true rfl⟩ ⟨Nat.zero_le _, Nat.zero_le _⟩ rfl (Nat.le_of_ble_eq_true rfl) rfl rfl rfl dX1_mostLoaded_22 ?_
      refine j_iand C dX1_mostLoaded_25 ?_
      refine j_if_eq C (tgt := 55) (by decide) dX1_mostLoaded_26 (fun h4 => ?_) (fun h4 => ?_)
      · replace hf := it_t h4 hf
        refine j_iinc C (xs' := [some (.ref d), some (.int x1), some (.int x2), some (.int x3), some (.int (x4 + (1 : Int32)))]) dX1_mostLoaded_55 rfl (ii_1 _) rfl rfl ?_
        refine j_goto C (tgt := 7) (by decide) dX1_mostLoaded_58 ?_
        exact hk7 _ _ _ _ _ _ hf
      · replace hf := it_f h4 hf
        refine j_aload_n C dX1_mostLoaded_29 rfl ?_
        refine gf_X1_32 C dX1_mostLoaded_30 ?_
        refine j_iload C dX1_mostLoaded_33 rfl ?_
        replace hf := bd hf
        obtain ⟨v5, h6, hf⟩ := hf
        refine j_callV C cl_X1_205 (c_X5_replicasOn h6) ⟨Nat.le_of_ble_eq_true rfl, Nat.le_of_ble_eq_true rfl⟩ ⟨Nat.zero_le _, Nat.zero_le _⟩ (q0 := 3) rfl rfl rfl rfl (Nat.le_of_ble_eq_true rfl) rfl rfl rfl dX1_mostLoaded_35 ?_
        refine j_iload_n C dX1_mostLoaded_38 rfl ?_
        refine j_icmp_le C (tgt := 55) (by decide) dX1_mostLoaded_39 (fun h7 => ?_) (fun h7 => ?_)
        · replace hf := it_t h7 hf
          refine j_iinc C (xs' := [some (.ref d), some (.int x1), some (.int x2), some (.int x3), some (.int (x4 + (1 : Int32)))]) dX1_mostLoaded_55 rfl (ii_1 _) rfl rfl ?_
          refine j_goto C (tgt := 7) (by decide) dX1_mostLoaded_58 ?_
          exact hk7 _ _ _ _ _ _ hf
        · replace hf := it_f h7 hf
          refine j_iload C dX1_mostLoaded_42 rfl ?_
          refine j_istore_n C (xs' := [some (.ref d), some (.int x1), some (.int x4), some (.int x3), some (.int x4)]) dX1_mostLoaded_44 rfl rfl ?_
          refine j_aload_n C dX1_mostLoaded_45 rfl ?_
          refine gf_X1_32 C dX1_mostLoaded_46 ?_
          refine j_iload C dX1_mostLoaded_49 rfl ?_
          replace hf := bd hf
          obtain ⟨v8, h9, hf⟩ := hf
          refine j_callV C cl_X1_205 (c_X5_replicasOn h9) ⟨Nat.le_of_ble_eq_true rfl, Nat.le_of_ble_eq_true rfl⟩ ⟨Nat.zero_le _, Nat.zero_le _⟩ (q0 := 3) rfl rfl rfl rfl (Nat.le_of_ble_eq_true rfl) rfl rfl rfl dX1_mostLoaded_51 ?_
          refine j_istore_n C (xs' := [some (.ref d), some (.int x1), some (.int x4), some (.int v8), some (.int x4)]) dX1_mostLoaded_54 rfl rfl ?_
          refine j_iinc C (xs' := [some (.ref d), some (.int x1), some (.int x4), some (.int v8), some (.int (x4 + (1 : Int32)))]) dX1_mostLoaded_55 rfl (ii_1 _) rfl rfl ?_
          refine j_goto C (tgt := 7) (by decide) dX1_mostLoaded_58 ?_
          exact hk7 _ _ _ _ _ _ hf
set_option maxRecDepth 100000 in
set_option maxHeartbeats 4000000 in
theorem c_X1_mostLoaded {l : Launch} {D : va_G} {cI cS : ClassId} {A : Nat → Prop} {a : Nat → Nat} {d : Nat} {rest : va_W}  {σ : Nat → Nat → Int32} {x1 : Int32} {r : Int32} (hf : f_X1_mostLoaded σ x1 = some r) : CT l yX1_mostLoaded cX1_mostLoaded 5 (some .int) (rmF 2 44) D cI cS A [.ref d, .int x1] (wC a cI σ (dv d a :: rest)) (wC a cI σ (dv d a :: rest)) (some (.int r)) := by
  refine CT_of (own := RX1) (xs := [some (.ref d), some (.int x1), none, none, none]) (by decide) rfl (Nat.le_of_ble_eq_true rfl) rfl ?_
  intro p e s_ m below meth c C
  unfold f_X1_mostLoaded at hf
  refine j_iconst C ic_m1 dX1_mostLoaded_0 ?_
  refine j_istore_n C (xs' := [some (.ref d), some (.int x1), some (.int (-1 : Int32)), none, none]) dX1_mostLoaded_1 rfl rfl ?_
  refine j_iconst C ic_m1 dX1_mostLoaded_2 ?_
  refine j_istore_n C (xs' := [some (.ref d), some (.int x1), some (.int (-1 : Int32)), some (.int (-1 : Int32)), none]) dX1_mostLoaded_3 rfl rfl ?_
  refine j_iconst C ic_0 dX1_mostLoaded_4 ?_
  refine j_istore C (xs' := [some (.ref d), some (.int x1), some (.int (-1 : Int32)), some (.int (-1 : Int32)), some (.int (0 : Int32))]) dX1_mostLoaded_5 rfl rfl ?_
  exact w_X1_mostLoaded_7 C  _ _ _ _ _ _ _ hf
set_option maxRecDepth 100000 in
set_option maxHeartbeats 4000000 in
theorem w_X1_shiftReplica_109 {p : Program} {l : Launch} {e : Env} {s_ : State} {m : MethodId} {args : Array Value} {below : List Frame} {meth : Method} {c : Code} {D : va_G} {cI cS : ClassId} {A : Nat → Prop} {a : Nat → Nat} {d : Nat} {rest : va_W}  (C : cx p s_ m args meth c cX1_shiftReplica 4 RX1 (some .boolean) D cI cS)  : ∀ (σ : Nat → Nat → Int32) (x1 : Int32) (x2 : Int32) (x3 : Int32) (r : Int32 × (Nat → Nat → Int32)), f_X1_shiftReplica_109  σ x1 x2 x3 = some r → jG p l e (rmF 3 76) s_ m args below meth c 4 D A (MQ below (QW D A (wC a cI r.2 (dv d a :: rest)) (some (.int r.1))) args s_ 0 0 A) (wC a cI σ (dv d a :: rest)) [some (.ref d), some (.int x1), some (.int x2), some (.int x3)] 109 [] := by
  intro σ x1 x2 x3 r hf
  unfold f_X1_shiftReplica_109 at hf
  refine j_aload_n C dX1_shiftReplica_109 rfl ?_
  refine j_iload_n C dX1_shiftReplica_110 rfl ?_
  refine j_iload_n C dX1_shiftReplica_111 rfl ?_
  refine j_iload_n C dX1_shiftReplica_112 rfl ?_
  replace hf := bd hf
  obtain ⟨v24, h25, hf⟩ := hf
  refine j_callV C cl_X1_138 (c_X1_teach h25) ⟨Nat.le_of_ble_eq_true rfl, Nat.le_of_ble_eq_true rfl⟩ ⟨Nat.zero_le _, Nat.zero_le _⟩ (q0 := 18) rfl rfl rfl rfl (Nat.le_of_ble_eq_true rfl) rfl rfl wC_fst dX1_shiftReplica_113 ?_
  refine j_iconst C ic_1 dX1_shiftReplica_116 ?_
  cases hf
  exact j_zret C zc_1 dX1_shiftReplica_117
set_option maxRecDepth 100000 in
set_option maxHeartbeats 4000000 in
theorem c_X1_shiftReplica {l : Launch} {D : va_G} {cI cS : ClassId} {A : Nat → Prop} {a : Nat → Nat} {d : Nat} {rest : va_W}  {σ : Nat → Nat → Int32} {x1 : Int32} {r : Int32 × (Nat → Nat → Int32)} (hf : f_X1_shiftReplica σ x1 = some r) : CT l yX1_shiftReplica cX1_shiftReplica 4 (some .boolean) (rmF 3 76) D cI cS A [.ref d, .int x1] (wC a cI σ (dv d a :: rest)) (wC a cI r.2 (dv d a :: rest)) (some (.int r.1)) := by
  refine CT_of (own := RX1) (xs := [some (.ref d), some (.int x1), none, none]) (by decide) rfl (Nat.le_of_ble_eq_true rfl) rfl ?_
  intro p e s_ m below meth c C
  unfold f_X1_shiftReplica at hf
  refine j_aload_n C dX1_shiftReplica_0 rfl ?_
  refine j_iload_n C dX1_shiftReplica_1 rfl ?_
  replace hf := bd hf
  obtain ⟨v1, h2, hf⟩ := hf
  refine j_callV C cl_X1_142 (c_X1_isWhole h2) ⟨Nat.le_of_ble_eq_true rfl, Nat.le_of_ble_eq_true rfl⟩ ⟨Nat.zero_le _, Nat.zero_le _⟩ (q0 := 18) rfl rfl rfl rfl (Nat.le_of_ble_eq_true rfl) rfl rfl rfl dX1_shiftReplica_2 ?_
  refine j_if_ne C (tgt := 10) (by decide) dX1_shiftReplica_5 (fun h3 => ?_) (fun h3 => ?_)
  · replace hf := it_f h3 hf
    refine j_aload_n C dX1_shiftReplica_10 rfl ?_
    refine j_aload_n C dX1_shiftReplica_11 rfl ?_
    refine gf_X1_32 C dX1_shiftReplica_12 ?_
    refine gf_X1_75 C dX1_shiftReplica_15 ?_
    refine j_iload_n C dX1_shiftReplica_18 rfl ?_
    replace hf := ld_s hf
    obtain ⟨v4, h5, e_v4, hf⟩ := hf
    refine aLC_10 C h5 e_v4 dX1_shiftReplica_19 ?_
    replace hf := bd hf
    obtain ⟨v6, h7, hf⟩ := hf
    refine j_callV C cl_X1_199 (c_X1_mostLoaded h7) ⟨Nat.le_of_ble_eq_true rfl, Nat.le_of_ble_eq_true rfl⟩ ⟨Nat.zero_le _, Nat.zero_le _⟩ (q0 := 18) rfl rfl rfl rfl (Nat.le_of_ble_eq_true rfl) rfl rfl rfl dX1_shiftReplica_20 ?_
    refine j_istore_n C (xs' := [some (.ref d), some (.int x1), some (.int v6), none]) dX1_shiftReplica_23 rfl rfl ?_
    refine j_aload_n C dX1_shiftReplica_24 rfl ?_
    refine j_iload_n C dX1_shiftReplica_25 rfl ?_
    refine j_iload_n C dX1_shiftReplica_26 rfl ?_
    replace hf := bd hf
    obtain ⟨v8, h9, hf⟩ := hf
    refine j_callV C cl_X1_109 (c_X1_choose h9) ⟨Nat.le_of_ble_eq_true rfl, Nat.le_of_ble_eq_true rfl⟩ ⟨Nat.zero_le _, Nat.zero_le _⟩ (q0 := 18) rfl rfl rfl rfl (Nat.le_of_ble_eq_true rfl) rfl rfl rfl dX1_shiftReplica_27 ?_
    refine j_istore_n C (xs' := [some (.ref d), some (.int x1), some (.int v6), some (.int v8)]) dX1_shiftReplica_30 rfl rfl ?_
    refine j_aload_n C dX1_shiftReplica_31 rfl ?_
    refine gf_X1_27 C dX1_shiftReplica_32 ?_
    refine j_iload_n C dX1_shiftReplica_35 rfl ?_
    replace hf := bd hf
    obtain ⟨v10, h11, hf⟩ := hf
    refine j_callV C cl_X1_202 (c_X4_exists h11) ⟨Nat.le_of_ble_eq_true rfl, Nat.le_of_ble_eq_true rfl⟩ ⟨Nat.zero_le _, Nat.zero_le _⟩ (q0 := 2) rfl rfl rfl rfl (Nat.le_of_ble_eq_true rfl) rfl rfl rfl dX1_shiftReplica_36 ?_
    refine j_if_eq C (tgt := 74) (by decide) dX1_shiftReplica_39 (fun h12 => ?_) (fun h12 => ?_)
    · replace hf := it_t h12 hf
      refine j_iconst C ic_0 dX1_shiftReplica_74 ?_
      cases hf
      exact j_zret C zc_0 dX1_shiftReplica_75
    · replace hf := it_f h12 hf
      refine j_aload_n C dX1_shiftReplica_42 rfl ?_
      refine gf_X1_27 C dX1_shiftReplica_43 ?_
      refine j_iload_n C dX1_shiftReplica_46 rfl ?_
      replace hf := bd hf
      obtain ⟨v13, h14, hf⟩ := hf
      refine j_callV C cl_X1_202 (c_X4_exists h14) ⟨Nat.le_of_ble_eq_true rfl, Nat.le_of_ble_eq_true rfl⟩ ⟨Nat.zero_le _, Nat.zero_le _⟩ (q0 := 2) rfl rfl rfl rfl (Nat.le_of_ble_eq_true rfl) rfl rfl rfl dX1_shiftReplica_47 ?_
      refine j_if_eq C (tgt := 74) (by decide) dX1_shiftReplica_50 (fun h15 => ?_) (fun h15 => ?_)
      · replace hf := it_t h15 hf
        refine j_iconst C ic_0 dX1_shiftReplica_74 ?_
        cases hf
        exact j_zret C zc_0 dX1_shiftReplica_75
      · replace hf := it_f h15 hf
        refine j_aload_n C dX1_shiftReplica_53 rfl ?_
        refine gf_X1_32 C dX1_shiftReplica_54 ?_
        refine j_iload_n C dX1_shiftReplica_57 rfl ?_
        replace hf := bd hf
        obtain ⟨v16, h17, hf⟩ := hf
        refine j_callV C cl_X1_205 (c_X5_replicasOn h17) ⟨Nat.le_of_ble_eq_true rfl, Nat.le_of_ble_eq_true rfl⟩ ⟨Nat.zero_le _, Nat.zero_le _⟩ (q0 := 3) rfl rfl rfl rfl (Nat.le_of_ble_eq_true rfl) rfl rfl rfl dX1_shiftReplica_58 ?_
        refine j_iconst C ic_2 dX1_shiftReplica_61 ?_
        refine j_iadd C dX1_shiftReplica_62 ?_
        refine j_aload_n C dX1_shiftReplica_63 rfl ?_
        refine gf_X1_32 C dX1_shiftReplica_64 ?_
        refine j_iload_n C dX1_shiftReplica_67 rfl ?_
        replace hf := bd hf
        obtain ⟨v18, h19, hf⟩ := hf
        refine j_callV C cl_X1_205 (c_X5_replicasOn h19) ⟨Nat.le_of_ble_eq_true rfl, Nat.le_of_ble_eq_true rfl⟩ ⟨Nat.zero_le _, Nat.zero_le _⟩ (q0 := 3) rfl rfl rfl rfl (Nat.le_of_ble_eq_true rfl) rfl rfl rfl dX1_shiftReplica_68 ?_
        refine j_icmp_le C (tgt := 76) (by decide) dX1_shiftReplica_71 (fun h20 => ?_) (fun h20 => ?_)
        · replace hf := it_t h20 hf
          refine j_aload_n C dX1_shiftReplica_76 rfl ?_
          refine j_iload_n C dX1_shiftReplica_77 rfl ?_
          refine j_iload_n C dX1_shiftReplica_78 rfl ?_
          refine j_iload_n C dX1_shiftReplica_79 rfl ?_
          replace hf := bd hf
          obtain ⟨v21, h22, hf⟩ := hf
          refine j_callV C cl_X1_148 (c_X1_isFresh h22) ⟨Nat.le_of_ble_eq_true rfl, Nat.le_of_ble_eq_true rfl⟩ ⟨Nat.zero_le _, Nat.zero_le _⟩ (q0 := 18) rfl rfl rfl rfl (Nat.le_of_ble_eq_true rfl) rfl rfl rfl dX1_shiftReplica_80 ?_
          refine j_if_ne C (tgt := 109) (by decide) dX1_shiftReplica_83 (fun h23 => ?_) (fun h23 => ?_)
          · replace hf := it_f h23 hf
            exact w_X1_shiftReplica_109 C  _ _ _ _ _ hf
          · replace hf := it_t h23 hf
            refine j_aload_n C dX1_shiftReplica_86 rfl ?_
            refine gf_X1_27 C dX1_shiftReplica_87 ?_
            refine gf_X1_208 C dX1_shiftReplica_90 ?_
            refine j_iload_n C dX1_shiftReplica_93 rfl ?_
            replace hf := ld_s hf
            obtain ⟨v26, h27, e_v26, hf⟩ := hf
            refine aLC_7 C h27 e_v26 dX1_shiftReplica_94 ?_
            refine j_aload_n C dX1_shiftReplica_95 rfl ?_
            refine gf_X1_27 C dX1_shiftReplica_96 ?_
            refine gf_X1_208 C dX1_shiftReplica_99 ?_
            refine j_iload_n C dX1_shiftReplica_102 rfl ?_
            replace hf := ld_s hf
            obtain ⟨v28, h29, e_v28, hf⟩ := hf
            refine aLC_7 C h29 e_v28 dX1_shiftReplica_103 ?_
            refine j_icmp_eq C (tgt := 109) (by decide) dX1_shiftReplica_104 (fun h30 => ?_) (fun h30 => ?_)
            · replace hf := it_t h30 hf
              exact w_X1_shiftReplica_109 C  _ _ _ _ _ hf
            · replace hf := it_f h30 hf
              refine j_iconst C ic_0 dX1_shiftReplica_107 ?_
              cases hf
              exact j_zret C zc_0 dX1_shiftReplica_108
        · replace hf := it_f h20 hf
          refine j_iconst C ic_0 dX1_shiftReplica_74 ?_
          cases hf
          exact j_zret C zc_0 dX1_shiftReplica_75
  · replace hf := it_t h3 hf
    refine j_iconst C ic_0 dX1_shiftReplica_8 ?_
    cases hf
    exact j_zret C zc_0 dX1_shiftReplica_9
set_option maxRecDepth 100000 in
set_option maxHeartbeats 4000000 in
theorem c_X1_perform {l : Launch} {D : va_G} {cI cS : ClassId} {A : Nat → Prop} {a : Nat → Nat} {d : Nat} {rest : va_W}  {σ : Nat → Nat → Int32} {x1 : Int32} {x2 : Int32} {r : Int32 × (Nat → Nat → Int32)} (hf : f_X1_perform σ x1 x2 = some r) : CT l yX1_perform cX1_perform 3 (some .boolean) (rmF 4 99) D cI cS A [.ref d, .int x1, .int x2] (wC a cI σ (dv d a :: rest)) (wC a cI r.2 (dv d a :: rest)) (some (.int r.1)) := by
  refine CT_of (own := RX1) (xs := [some (.ref d), some (.int x1), some (.int x2)]) (by decide) rfl (Nat.le_of_ble_eq_true rfl) rfl ?_
  intro p e s_ m below meth c C
  unfold f_X1_perform at hf
  refine j_iload_n C dX1_perform_0 rfl ?_
  rcases Decidable.em (x1 = (1 : Int32)) with h1 | h1
  · replace hf := it_t h1 hf
    refine j_tabIn C (tgt := 48) (by rw [h1]; decide) (by rw [h1]; decide) (by rw [h1]; rfl) (by decide) dX1_perform_1 ?_
    refine j_aload_n C dX1_perform_48 rfl ?_
    refine j_iload_n C dX1_perform_49 rfl ?_
    replace hf := bd hf
    obtain ⟨v30, h31, hf⟩ := hf
    refine j_callV C cl_X1_85 (c_X1_create h31) ⟨Nat.le_of_ble_eq_true rfl, Nat.le_of_ble_eq_true rfl⟩ ⟨Nat.zero_le _, Nat.zero_le _⟩ (q0 := 18) rfl rfl rfl rfl (Nat.le_of_ble_eq_true rfl) rfl rfl wC_fst dX1_perform_50 ?_
    replace hf := zr_s hf
    obtain ⟨h32, hf⟩ := hf
    cases hf
    exact j_zret C h32 dX1_perform_53
  · replace hf := it_f h1 hf
    rcases Decidable.em (x1 = (2 : Int32)) with h2 | h2
    · replace hf := it_t h2 hf
      refine j_tabIn C (tgt := 54) (by rw [h2]; decide) (by rw [h2]; decide) (by rw [h2]; rfl) (by decide) dX1_perform_1 ?_
      refine j_aload_n C dX1_perform_54 rfl ?_
      refine j_iload_n C dX1_perform_55 rfl ?_
      replace hf := bd hf
      obtain ⟨v27, h28, hf⟩ := hf
      refine j_callV C cl_X1_88 (c_X1_repair h28) ⟨Nat.le_of_ble_eq_true rfl, Nat.le_of_ble_eq_true rfl⟩ ⟨Nat.zero_le _, Nat.zero_le _⟩ (q0 := 18) rfl rfl rfl rfl (Nat.le_of_ble_eq_true rfl) rfl rfl wC_fst dX1_perform_56 ?_
      replace hf := zr_s hf
      obtain ⟨h29, hf⟩ := hf
      cases hf
      exact j_zret C h29 dX1_perform_59
    · replace hf := it_f h2 hf
      rcases Decidable.em (x1 = (3 : Int32)) with h3 | h3
      · replace hf := it_t h3 hf
        refine j_tabIn C (tgt := 60) (by rw [h3]; decide) (by rw [h3]; decide) (by rw [h3]; rfl) (by decide) dX1_perform_1 ?_
        refine j_aload_n C dX1_perform_60 rfl ?_
        refine j_iload_n C dX1_perform_61 rfl ?_
        replace hf := bd hf
        obtain ⟨v24, h25, hf⟩ := hf
        refine j_callV C cl_X1_91 (c_X1_spread h25) ⟨Nat.le_of_ble_eq_true rfl, Nat.le_of_ble_eq_true rfl⟩ ⟨Nat.zero_le _, Nat.zero_le _⟩ (q0 := 18) rfl rfl rfl rfl (Nat.le_of_ble_eq_true rfl) rfl rfl wC_fst dX1_perform_62 ?_
        replace hf := zr_s hf
        obtain ⟨h26, hf⟩ := hf
        cases hf
        exact j_zret C h26 dX1_perform_65
      · replace hf := it_f h3 hf
        rcases Decidable.em (x1 = (4 : Int32)) with h4 | h4
        · replace hf := it_t h4 hf
          refine j_tabIn C (tgt := 66) (by rw [h4]; decide) (by rw [h4]; decide) (by rw [h4]; rfl) (by decide) dX1_perform_1 ?_
          refine j_aload_n C dX1_perform_66 rfl ?_
          refine j_iload_n C dX1_perform_67 rfl ?_
          replace hf := bd hf
          obtain ⟨v21, h22, hf⟩ := hf
          refine j_callV C cl_X1_94 (c_X1_splitBySize h22) ⟨Nat.le_of_ble_eq_true rfl, Nat.le_of_ble_eq_true rfl⟩ ⟨Nat.zero_le _, Nat.zero_le _⟩ (q0 := 18) rfl rfl rfl rfl (Nat.le_of_ble_eq_true rfl) rfl rfl wC_fst dX1_perform_68 ?_
          replace hf := zr_s hf
          obtain ⟨h23, hf⟩ := hf
          cases hf
          exact j_zret C h23 dX1_perform_71
        · replace hf := it_f h4 hf
          rcases Decidable.em (x1 = (5 : Int32)) with h5 | h5
          · replace hf := it_t h5 hf
            refine j_tabIn C (tgt := 72) (by rw [h5]; decide) (by rw [h5]; decide) (by rw [h5]; rfl) (by decide) dX1_perform_1 ?_
            refine j_aload_n C dX1_perform_72 rfl ?_
            refine j_iload_n C dX1_perform_73 rfl ?_
            replace hf := bd hf
            obtain ⟨v18, h19, hf⟩ := hf
            refine j_callV C cl_X1_97 (c_X1_splitByLoad h19) ⟨Nat.le_of_ble_eq_true rfl, Nat.le_of_ble_eq_true rfl⟩ ⟨Nat.zero_le _, Nat.zero_le _⟩ (q0 := 18) rfl rfl rfl rfl (Nat.le_of_ble_eq_true rfl) rfl rfl wC_fst dX1_perform_74 ?_
            replace hf := zr_s hf
            obtain ⟨h20, hf⟩ := hf
            cases hf
            exact j_zret C h20 dX1_perform_77
          · replace hf := it_f h5 hf
            rcases Decidable.em (x1 = (6 : Int32)) with h6 | h6
            · replace hf := it_t h6 hf
              refine j_tabIn C (tgt := 78) (by rw [h6]; decide) (by rw [h6]; decide) (by rw [h6]; rfl) (by decide) dX1_perform_1 ?_
              refine j_aload_n C dX1_perform_78 rfl ?_
              refine j_iload_n C dX1_perform_79 rfl ?_
              replace hf := bd hf
              obtain ⟨v15, h16, hf⟩ := hf
              refine j_callV C cl_X1_100 (c_X1_merge h16) ⟨Nat.le_of_ble_eq_true rfl, Nat.le_of_ble_eq_true rfl⟩ ⟨Nat.zero_le _, Nat.zero_le _⟩ (q0 := 18) rfl rfl rfl rfl (Nat.le_of_ble_eq_true rfl) rfl rfl wC_fst dX1_perform_80 ?_
              replace hf := zr_s hf
              obtain ⟨h17, hf⟩ := hf
              cases hf
              exact j_zret C h17 dX1_perform_83
            · replace hf := it_f h6 hf
              rcases Decidable.em (x1 = (7 : Int32)) with h7 | h7
              · replace hf := it_t h7 hf
                refine j_tabIn C (tgt := 84) (by rw [h7]; decide) (by rw [h7]; decide) (by rw [h7]; rfl) (by decide) dX1_perform_1 ?_
                refine j_aload_n C dX1_perform_84 rfl ?_
                refine j_iload_n C dX1_perform_85 rfl ?_
                replace hf := bd hf
                obtain ⟨v12, h13, hf⟩ := hf
                refine j_callV C cl_X1_103 (c_X1_shiftLeader h13) ⟨Nat.le_of_ble_eq_true rfl, Nat.le_of_ble_eq_true rfl⟩ ⟨Nat.zero_le _, Nat.zero_le _⟩ (q0 := 18) rfl rfl rfl rfl (Nat.le_of_ble_eq_true rfl) rfl rfl wC_fst dX1_perform_86 ?_
                replace hf := zr_s hf
                obtain ⟨h14, hf⟩ := hf
                cases hf
                exact j_zret C h14 dX1_perform_89
              · replace hf := it_f h7 hf
                rcases Decidable.em (x1 = (8 : Int32)) with h8 | h8
                · replace hf := it_t h8 hf
                  refine j_tabIn C (tgt := 90) (by rw [h8]; decide) (by rw [h8]; decide) (by rw [h8]; rfl) (by decide) dX1_perform_1 ?_
                  refine j_aload_n C dX1_perform_90 rfl ?_
                  refine j_iload_n C dX1_perform_91 rfl ?_
                  replace hf := bd hf
                  obtain ⟨v9, h10, hf⟩ := hf
                  refine j_callV C cl_X1_106 (c_X1_shiftReplica h10) ⟨Nat.le_of_ble_eq_true rfl, Nat.le_of_ble_eq_true rfl⟩ ⟨Nat.zero_le _, Nat.zero_le _⟩ (q0 := 18) rfl rfl rfl rfl (Nat.le_of_ble_eq_true rfl) rfl rfl wC_fst dX1_perform_92 ?_
                  replace hf := zr_s hf
                  obtain ⟨h11, hf⟩ := hf
                  cases hf
                  exact j_zret C h11 dX1_perform_95
                · replace hf := it_f h8 hf
                  refine j_tabOut C (tgt := 96) (ts_out_1_8 h1 h2 h3 h4 h5 h6 h7 h8) (by decide) dX1_perform_1 ?_
                  refine j_iconst C ic_0 dX1_perform_96 ?_
                  cases hf
                  exact j_zret C zc_0 dX1_perform_97
set_option maxRecDepth 100000 in
set_option maxHeartbeats 4000000 in
theorem w_X1_runTick_47 {p : Program} {l : Launch} {e : Env} {s_ : State} {m : MethodId} {args : Array Value} {below : List Frame} {meth : Method} {c : Code} {D : va_G} {cI cS : ClassId} {A : Nat → Prop} {a : Nat → Nat} {d : Nat} {rest : va_W}  (C : cx p s_ m args meth c cX1_runTick 3 RX1 (some .int) D cI cS) (k39 : (Nat → Nat → Int32) → Int32 → Option (Int32 × (Nat → Nat → Int32))) (hk39 : ∀ (σ : Nat → Nat → Int32) (x1 : Int32) (r : Int32 × (Nat → Nat → Int32)), k39 σ x1 = some r → jG p l e (rmF 5 121) s_ m args below meth c 3 D A (MQ below (QW D A (wC a cI r.2 (dv d a :: rest)) (some (.int r.1))) args s_ 0 0 A) (wC a cI σ (dv d a :: rest)) [some (.ref d), some (.int x1), none] 39 []) : ∀ (n_ : Nat) (σ : Nat → Nat → Int32) (x1 : Int32) (x2 : Int32) (r : Int32 × (Nat → Nat → Int32)), f_X1_runTick_47 k39 n_ σ x1 x2 = some r → jG p l e (rmF 5 121) s_ m args below meth c 3 D A (MQ below (QW D A (wC a cI r.2 (dv d a :: rest)) (some (.int r.1))) args s_ 0 0 A) (wC a cI σ (dv d a :: rest)) [some (.ref d), some (.int x1), some (.int x2)] 47 [] := by
  intro n_
  induction n_ with
  | zero =>
    intro σ x1 x2 r hf
    rw [f_X1_runTick_47] at hf
    cases hf
  | succ n_ hk47 =>
    intro σ x1 x2 r hf
    rw [f_X1_runTick_47] at hf
    refine j_iload_n C dX1_runTick_47 rfl ?_
    refine j_aload_n C dX1_runTick_48 rfl ?_
    refine gf_X1_32 C dX1_runTick_49 ?_
    refine gf_X1_37 C dX1_runTick_52 ?_
    refine j_icmp_ge C (tgt := 93) (by decide) dX1_runTick_55 (fun h3 => ?_) (fun h3 => ?_)
    · replace hf := it_t h3 hf
      refine j_iinc C (xs' := [some (.ref d), some (.int (x1 + (1 : Int32))), some (.int x2)]) dX1_runTick_93 rfl (ii_1 _) rfl rfl ?_
      refine j_goto C (tgt := 39) (by decide) dX1_runTick_96 ?_
      refine j_weak [true, true, false] rfl ?_
      exact hk39 _ _ _ hf
    · replace hf := it_f h3 hf
      refine j_aload_n C dX1_runTick_58 rfl ?_
      refine j_iload_n C dX1_runTick_59 rfl ?_
      refine j_iload_n C dX1_runTick_60 rfl ?_
      replace hf := bd hf
      obtain ⟨v4, h5, hf⟩ := hf
      refine j_callV C cl_X1_46 (c_X1_perform h5) ⟨Nat.le_of_ble_eq_true rfl, Nat.le_of_ble_eq_true rfl⟩ ⟨Nat.zero_le _, Nat.zero_le _⟩ (q0 := 18) rfl rfl rfl rfl (Nat.le_of_ble_eq_true rfl) rfl rfl wC_fst dX1_runTick_61 ?_
      refine j_if_eq C (tgt := 87) (by decide) dX1_runTick_64 (fun h6 => ?_) (fun h6 => ?_)
      · replace hf := it_t h6 hf
        refine j_iinc C (xs' := [some (.ref d), some (.int x1), some (.int (x2 + (1 : Int32)))]) dX1_runTick_87 rfl (ii_1 _) rfl rfl ?_
        refine j_goto C (tgt := 47) (by decide) dX1_runTick_90 ?_
        exact hk47 _ _ _ _ hf
      · replace hf := it_f h6 hf
        refine j_aload_n C dX1_runTick_67 rfl ?_
        refine gf_X1_12 C dX1_runTick_68 ?_
        refine gf_X1_50 C dX1_runTick_71 ?_
        refine j_iload_n C dX1_runTick_74 rfl ?_
        refine j_dup2 C dX1_runTick_75 rfl rfl ?_
        replace hf := ld_s hf
        obtain ⟨v7, h8, e_v7, hf⟩ := hf
        refine aLC_6 C h8 e_v7 dX1_runTick_76 ?_
        refine j_iconst C ic_1 dX1_runTick_77 ?_
        refine j_iadd C dX1_runTick_78 ?_
        replace hf := sd_s hf
        obtain ⟨h9, hf⟩ := hf
        refine aSC_6 C h9 dX1_runTick_79 ?_
        refine j_bipush C bp_100 dX1_runTick_80 ?_
        refine j_iload_n C dX1_runTick_82 rfl ?_
        refine j_imul C dX1_runTick_83 ?_
        refine j_iload_n C dX1_runTick_84 rfl ?_
        refine j_iadd C dX1_runTick_85 ?_
        cases hf
        exact j_iret C dX1_runTick_86
set_option maxRecDepth 100000 in
set_option maxHeartbeats 4000000 in
theorem w_X1_runTick_39 {p : Program} {l : Launch} {e : Env} {s_ : State} {m : MethodId} {args : Array Value} {below : List Frame} {meth : Method} {c : Code} {D : va_G} {cI cS : ClassId} {A : Nat → Prop} {a : Nat → Nat} {d : Nat} {rest : va_W}  (C : cx p s_ m args meth c cX1_runTick 3 RX1 (some .int) D cI cS)  : ∀ (n_ : Nat) (σ : Nat → Nat → Int32) (x1 : Int32) (r : Int32 × (Nat → Nat → Int32)), f_X1_runTick_39  n_ σ x1 = some r → jG p l e (rmF 5 121) s_ m args below meth c 3 D A (MQ below (QW D A (wC a cI r.2 (dv d a :: rest)) (some (.int r.1))) args s_ 0 0 A) (wC a cI σ (dv d a :: rest)) [some (.ref d), some (.int x1), none] 39 [] := by
  intro n_
  induction n_ with
  | zero =>
    intro σ x1 r hf
    rw [f_X1_runTick_39] at hf
    cases hf
  | succ n_ hk39 =>
    intro σ x1 r hf
    rw [f_X1_runTick_39] at hf
    refine j_iload_n C dX1_runTick_39 rfl ?_
    refine j_bipush C bp_8 dX1_runTick_40 ?_
    refine j_icmp_gt C (tgt := 99) (by decide) dX1_runTick_42 (fun h2 => ?_) (fun h2 => ?_)
    · replace hf := it_t h2 hf
      refine j_iconst C ic_0 dX1_runTick_99 ?_
      cases hf
      exact j_iret C dX1_runTick_100
    · replace hf := it_f h2 hf
      refine j_iconst C ic_0 dX1_runTick_45 ?_
      refine j_istore_n C (xs' := [some (.ref d), some (.int x1), some (.int (0 : Int32))]) dX1_runTick_46 rfl rfl ?_
      exact w_X1_runTick_47 C _ hk39 _ _ _ _ _ hf
set_option maxRecDepth 100000 in
set_option maxHeartbeats 4000000 in
theorem w_X1_runTick_15 {p : Program} {l : Launch} {e : Env} {s_ : State} {m : MethodId} {args : Array Value} {below : List Frame} {meth : Method} {c : Code} {D : va_G} {cI cS : ClassId} {A : Nat → Prop} {a : Nat → Nat} {d : Nat} {rest : va_W}  (C : cx p s_ m args meth c cX1_runTick 3 RX1 (some .int) D cI cS)  : ∀ (n_ : Nat) (σ : Nat → Nat → Int32) (x1 : Int32) (r : Int32 × (Nat → Nat → Int32)), f_X1_runTick_15  n_ σ x1 = some r → jG p l e (rmF 5 121) s_ m args below meth c 3 D A (MQ below (QW D A (wC a cI r.2 (dv d a :: rest)) (some (.int r.1))) args s_ 0 0 A) (wC a cI σ (dv d a :: rest)) [some (.ref d), some (.int x1), none] 15 [] := by
  intro n_
  induction n_ with
  | zero =>
    intro σ x1 r hf
    rw [f_X1_runTick_15] at hf
    cases hf
  | succ n_ hk15 =>
    intro σ x1 r hf
    rw [f_X1_runTick_15] at hf
    refine j_iload_n C dX1_runTick_15 rfl ?_
    refine j_aload_n C dX1_runTick_16 rfl ?_
    refine gf_X1_32 C dX1_runTick_17 ?_
    refine gf_X1_37 C dX1_runTick_20 ?_
    refine j_icmp_ge C (tgt := 37) (by decide) dX1_runTick_23 (fun h1 => ?_) (fun h1 => ?_)
    · replace hf := it_t h1 hf
      refine j_iconst C ic_1 dX1_runTick_37 ?_
      refine j_istore_n C (xs' := [some (.ref d), some (.int (1 : Int32)), none]) dX1_runTick_38 rfl rfl ?_
      exact w_X1_runTick_39 C  _ _ _ _ hf
    · replace hf := it_f h1 hf
      refine j_aload_n C dX1_runTick_26 rfl ?_
      refine j_iload_n C dX1_runTick_27 rfl ?_
      replace hf := bd hf
      obtain ⟨v10, h11, hf⟩ := hf
      refine j_callV C cl_X1_42 (c_X1_advanceLearner h11) ⟨Nat.le_of_ble_eq_true rfl, Nat.le_of_ble_eq_true rfl⟩ ⟨Nat.zero_le _, Nat.zero_le _⟩ (q0 := 18) rfl rfl rfl rfl (Nat.le_of_ble_eq_true rfl) rfl rfl wC_fst dX1_runTick_28 ?_
      refine j_iinc C (xs' := [some (.ref d), some (.int (x1 + (1 : Int32))), none]) dX1_runTick_31 rfl (ii_1 _) rfl rfl ?_
      refine j_goto C (tgt := 15) (by decide) dX1_runTick_34 ?_
      exact hk15 _ _ _ hf
set_option maxRecDepth 100000 in
set_option maxHeartbeats 4000000 in
theorem c_X1_runTick {l : Launch} {D : va_G} {cI cS : ClassId} {A : Nat → Prop} {a : Nat → Nat} {d : Nat} {rest : va_W}  {σ : Nat → Nat → Int32}  {r : Int32 × (Nat → Nat → Int32)} (hf : f_X1_runTick σ = some r) : CT l yX1_runTick cX1_runTick 3 (some .int) (rmF 5 121) D cI cS A [.ref d] (wC a cI σ (dv d a :: rest)) (wC a cI r.2 (dv d a :: rest)) (some (.int r.1)) := by
  refine CT_of (own := RX1) (xs := [some (.ref d), none, none]) (by decide) rfl (Nat.le_of_ble_eq_true rfl) rfl ?_
  intro p e s_ m below meth c C
  unfold f_X1_runTick at hf
  refine j_aload_n C dX1_runTick_0 rfl ?_
  refine gf_X1_12 C dX1_runTick_1 ?_
  refine j_dup C dX1_runTick_4 rfl ?_
  refine gf_X1_33 C dX1_runTick_5 ?_
  refine j_iconst C ic_1 dX1_runTick_8 ?_
  refine j_iadd C dX1_runTick_9 ?_
  refine pf_X1_33 C dX1_runTick_10 ?_
  refine j_iconst C ic_0 dX1_runTick_13 ?_
  refine j_istore_n C (xs' := [some (.ref d), some (.int (0 : Int32)), none]) dX1_runTick_14 rfl rfl ?_
  exact w_X1_runTick_15 C  _ _ _ _ hf

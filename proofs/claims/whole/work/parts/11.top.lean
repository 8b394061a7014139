def f_X8_fail (σ : Nat → Nat → Int32) (t : Nat → Int32) (h : Nat → Nat → Nat → Int32) (x1 : Int32) : Option (Int32 × (Nat → Int32)) := (if x1 = (-2 : Int32) then (some (x1, (upd t 0 (t 0 + (1 : Int32))))) else (if x1 = (-3 : Int32) then (some (x1, (upd t 1 (t 1 + (1 : Int32))))) else (some (x1, (upd t 2 (t 2 + (1 : Int32)))))))
def f_X8_addNode_19  (σ : Nat → Nat → Int32) (t : Nat → Int32) (h : Nat → Nat → Nat → Int32)  : Option (Int32 × (Nat → Nat → Int32) × (Nat → Int32) × (Nat → Nat → Nat → Int32)) := ((f_X8_fail σ t h (-2 : Int32)).bind fun v4 => (some (v4.1, σ, v4.2, h)))
def f_X8_addNode (σ : Nat → Nat → Int32) (t : Nat → Int32) (h : Nat → Nat → Nat → Int32) (x1 : Int32) (x2 : Int32) : Option (Int32 × (Nat → Nat → Int32) × (Nat → Int32) × (Nat → Nat → Nat → Int32)) := ((f_X8_isWithin x1 (0 : Int32) (3 : Int32)).bind fun v1 => (if v1 = 0 then (f_X8_addNode_19 σ t h) else ((f_X8_isWithin x2 (1 : Int32) (16 : Int32)).bind fun v6 => (if v6 = 0 then (f_X8_addNode_19 σ t h) else (if σ 0 6 < (8 : Int32) then ((f_X2_save σ t h).bind fun v10 => ((f_X4_append σ x1 x2).bind fun v12 => (some (v12.1, v12.2, v10.1, v10.2)))) else ((f_X8_fail σ t h (-4 : Int32)).bind fun v14 => (some (v14.1, σ, v14.2, h))))))))
def f_X8_setNode_23  (σ : Nat → Nat → Int32) (t : Nat → Int32) (h : Nat → Nat → Nat → Int32)  : Option (Int32 × (Nat → Nat → Int32) × (Nat → Int32) × (Nat → Nat → Nat → Int32)) := ((f_X8_fail σ t h (-2 : Int32)).bind fun v4 => (some (v4.1, σ, v4.2, h)))
def f_X8_setNode_97  (σ : Nat → Nat → Int32) (t : Nat → Int32) (h : Nat → Nat → Nat → Int32)  : Option (Int32 × (Nat → Nat → Int32) × (Nat → Int32) × (Nat → Nat → Nat → Int32)) := ((f_X0_countAvailable σ).bind fun v18 => (some (v18, σ, t, h)))
def f_X8_setNode_40  (σ : Nat → Nat → Int32) (t : Nat → Int32) (h : Nat → Nat → Nat → Int32) (x1 : Int32) (y0 : Int32) : Option (Int32 × (Nat → Nat → Int32) × (Nat → Int32) × (Nat → Nat → Nat → Int32)) := ((f_X4_isUp σ x1).bind fun v10 => (if v10 = y0 then ((f_X8_fail σ t h (-3 : Int32)).bind fun v22 => (some (v22.1, σ, v22.2, h))) else ((f_X2_save σ t h).bind fun v13 => (if y0 = 0 then ((f_X0_takeDown σ x1).bind fun v16 => (f_X8_setNode_97 v16 v13.1 v13.2)) else ((f_X0_bringUp σ x1).bind fun v20 => (f_X8_setNode_97 v20 v13.1 v13.2))))))
def f_X8_setNode (σ : Nat → Nat → Int32) (t : Nat → Int32) (h : Nat → Nat → Nat → Int32) (x1 : Int32) (x2 : Int32) : Option (Int32 × (Nat → Nat → Int32) × (Nat → Int32) × (Nat → Nat → Nat → Int32)) := ((f_X4_exists σ x1).bind fun v1 => (if v1 = 0 then (f_X8_setNode_23 σ t h) else ((f_X8_isWithin x2 (0 : Int32) (1 : Int32)).bind fun v6 => (if v6 = 0 then (f_X8_setNode_23 σ t h) else (if x2 = (1 : Int32) then (f_X8_setNode_40 σ t h x1 (1 : Int32)) else (f_X8_setNode_40 σ t h x1 (0 : Int32)))))))
def f_X8_setReplication (σ : Nat → Nat → Int32) (t : Nat → Int32) (h : Nat → Nat → Nat → Int32) (x1 : Int32) : Option (Int32 × (Nat → Nat → Int32) × (Nat → Int32) × (Nat → Nat → Nat → Int32)) := ((f_X8_isWithin x1 (1 : Int32) (5 : Int32)).bind fun v1 => (if v1 = 0 then ((f_X8_fail σ t h (-2 : Int32)).bind fun v6 => (some (v6.1, σ, v6.2, h))) else ((f_X2_save σ t h).bind fun v4 => (some (σ 0 0, (cu σ 0 0 x1), v4.1, v4.2)))))
def f_X8_setSizes_20  (σ : Nat → Nat → Int32) (t : Nat → Int32) (h : Nat → Nat → Nat → Int32)  : Option (Int32 × (Nat → Nat → Int32) × (Nat → Int32) × (Nat → Nat → Nat → Int32)) := ((f_X8_fail σ t h (-2 : Int32)).bind fun v4 => (some (v4.1, σ, v4.2, h)))
def f_X8_setSizes (σ : Nat → Nat → Int32) (t : Nat → Int32) (h : Nat → Nat → Nat → Int32) (x1 : Int32) (x2 : Int32) : Option (Int32 × (Nat → Nat → Int32) × (Nat → Int32) × (Nat → Nat → Nat → Int32)) := ((f_X8_isWithin x2 (1 : Int32) (9999 : Int32)).bind fun v1 => (if v1 = 0 then (f_X8_setSizes_20 σ t h) else ((f_X8_isWithin x1 (0 : Int32) x2).bind fun v6 => (if v6 = 0 then (f_X8_setSizes_20 σ t h) else ((f_X2_save σ t h).bind fun v9 => (some (σ 0 2, (cu (cu σ 0 1 x1) 0 2 x2), v9.1, v9.2)))))))
def f_X8_setLoads_19  (σ : Nat → Nat → Int32) (t : Nat → Int32) (h : Nat → Nat → Nat → Int32)  : Option (Int32 × (Nat → Nat → Int32) × (Nat → Int32) × (Nat → Nat → Nat → Int32)) := ((f_X8_fail σ t h (-2 : Int32)).bind fun v4 => (some (v4.1, σ, v4.2, h)))
def f_X8_setLoads (σ : Nat → Nat → Int32) (t : Nat → Int32) (h : Nat → Nat → Nat → Int32) (x1 : Int32) (x2 : Int32) : Option (Int32 × (Nat → Nat → Int32) × (Nat → Int32) × (Nat → Nat → Nat → Int32)) := ((f_X8_isWithin x2 (1 : Int32) (32 : Int32)).bind fun v1 => (if v1 = 0 then (f_X8_setLoads_19 σ t h) else ((f_X8_isWithin x1 (0 : Int32) x2).bind fun v6 => (if v6 = 0 then (f_X8_setLoads_19 σ t h) else ((f_X2_save σ t h).bind fun v9 => (some (σ 0 4, (cu (cu σ 0 3 x1) 0 4 x2), v9.1, v9.2)))))))
def f_X8_setSpeed (σ : Nat → Nat → Int32) (t : Nat → Int32) (h : Nat → Nat → Nat → Int32) (x1 : Int32) : Option (Int32 × (Nat → Nat → Int32) × (Nat → Int32) × (Nat → Nat → Nat → Int32)) := ((f_X8_isWithin x1 (1 : Int32) (99 : Int32)).bind fun v1 => (if v1 = 0 then ((f_X8_fail σ t h (-2 : Int32)).bind fun v6 => (some (v6.1, σ, v6.2, h))) else ((f_X2_save σ t h).bind fun v4 => (some (σ 0 5, (cu σ 0 5 x1), v4.1, v4.2)))))
def f_X8_put_17  (σ : Nat → Nat → Int32) (t : Nat → Int32) (h : Nat → Nat → Nat → Int32)  : Option (Int32 × (Nat → Nat → Int32) × (Nat → Int32) × (Nat → Nat → Nat → Int32)) := ((f_X8_fail σ t h (-2 : Int32)).bind fun v4 => (some (v4.1, σ, v4.2, h)))
def f_X8_put_62  (σ : Nat → Nat → Int32) (t : Nat → Int32) (h : Nat → Nat → Nat → Int32) (x1 : Int32) (x2 : Int32) (x3 : Int32) : Option (Int32 × (Nat → Nat → Int32) × (Nat → Int32) × (Nat → Nat → Nat → Int32)) := ((f_X2_save σ t h).bind fun v12 => ((f_X3_store σ x1 x2).bind fun v14 => (some (x3, v14, v12.1, v12.2))))
def f_X8_put (σ : Nat → Nat → Int32) (t : Nat → Int32) (h : Nat → Nat → Nat → Int32) (x1 : Int32) (x2 : Int32) : Option (Int32 × (Nat → Nat → Int32) × (Nat → Int32) × (Nat → Nat → Nat → Int32)) := ((f_X8_isKey x1).bind fun v1 => (if v1 = 0 then (f_X8_put_17 σ t h) else ((f_X8_isWithin x2 (1 : Int32) (99 : Int32)).bind fun v6 => (if v6 = 0 then (f_X8_put_17 σ t h) else ((f_X3_sizeAt σ x1).bind fun v9 => (if v9 = 0 then (if σ 0 9 < (64 : Int32) then (f_X8_put_62 σ t h x1 x2 v9) else ((f_X8_fail σ t h (-4 : Int32)).bind fun v17 => (some (v17.1, σ, v17.2, h)))) else (f_X8_put_62 σ t h x1 x2 v9)))))))
def f_X8_remove (σ : Nat → Nat → Int32) (t : Nat → Int32) (h : Nat → Nat → Nat → Int32) (x1 : Int32) : Option (Int32 × (Nat → Nat → Int32) × (Nat → Int32) × (Nat → Nat → Nat → Int32)) := ((f_X8_isKey x1).bind fun v1 => (if v1 = 0 then ((f_X8_fail σ t h (-2 : Int32)).bind fun v13 => (some (v13.1, σ, v13.2, h))) else ((f_X3_sizeAt σ x1).bind fun v4 => (if v4 = 0 then ((f_X8_fail σ t h (-3 : Int32)).bind fun v11 => (some (v11.1, σ, v11.2, h))) else ((f_X2_save σ t h).bind fun v7 => ((f_X3_erase σ x1).bind fun v9 => (some (v4, v9, v7.1, v7.2))))))))
def f_X8_access (σ : Nat → Nat → Int32) (t : Nat → Int32) (h : Nat → Nat → Nat → Int32) (x1 : Int32) : Option (Int32 × (Nat → Nat → Int32) × (Nat → Int32) × (Nat → Nat → Nat → Int32)) := ((f_X8_isKey x1).bind fun v1 => (if v1 = 0 then ((f_X8_fail σ t h (-2 : Int32)).bind fun v12 => (some (v12.1, σ, v12.2, h))) else ((f_X2_save σ t h).bind fun v4 => ((f_X6_append σ x1).bind fun v6 => ((f_X5_holding v6 x1).bind fun v8 => (ld (v6 11) 16 v8 fun v10 => (some (v10, v6, v4.1, v4.2))))))))
def f_X8_splitAt_56  (σ : Nat → Nat → Int32) (t : Nat → Int32) (h : Nat → Nat → Nat → Int32)  : Option (Int32 × (Nat → Nat → Int32) × (Nat → Int32) × (Nat → Nat → Nat → Int32)) := ((f_X8_fail σ t h (-3 : Int32)).bind fun v9 => (some (v9.1, σ, v9.2, h)))
def f_X8_splitAt (σ : Nat → Nat → Int32) (t : Nat → Int32) (h : Nat → Nat → Nat → Int32) (x1 : Int32) : Option (Int32 × (Nat → Nat → Int32) × (Nat → Int32) × (Nat → Nat → Nat → Int32)) := ((f_X8_isKey x1).bind fun v1 => (if v1 = 0 then ((f_X8_fail σ t h (-2 : Int32)).bind fun v23 => (some (v23.1, σ, v23.2, h))) else ((f_X5_holding σ x1).bind fun v4 => (ld (σ 9) 16 v4 fun v6 => (if v6 = x1 then (f_X8_splitAt_56 σ t h) else ((f_X5_hasLearner σ v4).bind fun v11 => (if v11 = 0 then ((f_X5_isFull σ).bind fun v14 => (if v14 = 0 then ((f_X2_save σ t h).bind fun v17 => ((f_X5_divide σ v4 x1).bind fun v19 => (some ((v4 + (1 : Int32)), v19, v17.1, v17.2)))) else ((f_X8_fail σ t h (-4 : Int32)).bind fun v21 => (some (v21.1, σ, v21.2, h))))) else (f_X8_splitAt_56 σ t h))))))))
def f_X8_sizeOf (σ : Nat → Nat → Int32) (t : Nat → Int32) (h : Nat → Nat → Nat → Int32) (x1 : Int32) : Option (Int32 × (Nat → Int32)) := ((f_X8_isKey x1).bind fun v1 => (if v1 = 0 then ((f_X8_fail σ t h (-2 : Int32)).bind fun v6 => (some (v6.1, v6.2))) else ((f_X3_sizeAt σ x1).bind fun v4 => (some (v4, t)))))
def f_X8_tick (σ : Nat → Nat → Int32) (t : Nat → Int32) (h : Nat → Nat → Nat → Int32)  : Option (Int32 × (Nat → Nat → Int32) × (Nat → Int32) × (Nat → Nat → Nat → Int32)) := ((f_X2_save σ t h).bind fun v1 => ((f_X1_runTick σ).bind fun v3 => (some (v3.1, v3.2, v1.1, v1.2))))
def f_X8_settle_57 (k33 : (Nat → Nat → Int32) → (Nat → Int32) → (Nat → Nat → Nat → Int32) → Int32 → Int32 → Int32 → Option (Int32 × (Nat → Nat → Int32) × (Nat → Int32) × (Nat → Nat → Nat → Int32))) (σ : Nat → Nat → Int32) (t : Nat → Int32) (h : Nat → Nat → Nat → Int32) (x1 : Int32) (x2 : Int32) (y0 : Int32) : Option (Int32 × (Nat → Nat → Int32) × (Nat → Int32) × (Nat → Nat → Nat → Int32)) := (if y0 = 0 then ((f_X5_anyLearner σ).bind fun v12 => (if v12 = 0 then (k33 σ t h x1 (x2 + (1 : Int32)) (1 : Int32)) else (k33 σ t h x1 (x2 + (1 : Int32)) (0 : Int32)))) else (k33 σ t h x1 (x2 + (1 : Int32)) (0 : Int32)))
def f_X8_settle_33  : Nat → (Nat → Nat → Int32) → (Nat → Int32) → (Nat → Nat → Nat → Int32) → Int32 → Int32 → Int32 → Option (Int32 × (Nat → Nat → Int32) × (Nat → Int32) × (Nat → Nat → Nat → Int32))
  | 0, _, _, _, _, _, _ => none
  | n_ + 1, σ, t, h, x1, x2, x3 => (if x1 ≤ x2 then (some (x2, σ, t, h)) else (if x3 = 0 then ((f_X1_runTick σ).bind fun v8 => (if v8.1 = 0 then (f_X8_settle_57 (f_X8_settle_33 n_) v8.2 t h x1 x2 (0 : Int32)) else (f_X8_settle_57 (f_X8_settle_33 n_) v8.2 t h x1 x2 (1 : Int32)))) else (some (x2, σ, t, h))))
def f_X8_settle (σ : Nat → Nat → Int32) (t : Nat → Int32) (h : Nat → Nat → Nat → Int32) (x1 : Int32) : Option (Int32 × (Nat → Nat → Int32) × (Nat → Int32) × (Nat → Nat → Nat → Int32)) := ((f_X8_isWithin x1 (1 : Int32) (200 : Int32)).bind fun v1 => (if v1 = 0 then ((f_X8_fail σ t h (-2 : Int32)).bind fun v15 => (some (v15.1, σ, v15.2, h))) else ((f_X2_save σ t h).bind fun v4 => (f_X8_settle_33 FU σ v4.1 v4.2 x1 (0 : Int32) (0 : Int32)))))
def f_X8_performed (σ : Nat → Nat → Int32) (t : Nat → Int32) (h : Nat → Nat → Nat → Int32) (x1 : Int32) : Option (Int32 × (Nat → Int32)) := ((f_X8_isWithin x1 (1 : Int32) (8 : Int32)).bind fun v1 => (if v1 = 0 then ((f_X8_fail σ t h (-2 : Int32)).bind fun v6 => (some (v6.1, v6.2))) else (ld (σ 6) 9 x1 fun v4 => (some (v4, t)))))
def f_X8_time (σ : Nat → Nat → Int32) (t : Nat → Int32) (h : Nat → Nat → Nat → Int32)  : Option (Int32) := (some (σ 0 11))
def f_X8_rangeCount (σ : Nat → Nat → Int32) (t : Nat → Int32) (h : Nat → Nat → Nat → Int32)  : Option (Int32) := (some (σ 0 8))
def f_X8_start (σ : Nat → Nat → Int32) (t : Nat → Int32) (h : Nat → Nat → Nat → Int32) (x1 : Int32) : Option (Int32 × (Nat → Int32)) := ((f_X5_exists σ x1).bind fun v1 => (if v1 = 0 then ((f_X8_fail σ t h (-2 : Int32)).bind fun v6 => (some (v6.1, v6.2))) else (ld (σ 9) 16 x1 fun v4 => (some (v4, t)))))
def f_X8_size (σ : Nat → Nat → Int32) (t : Nat → Int32) (h : Nat → Nat → Nat → Int32) (x1 : Int32) : Option (Int32 × (Nat → Int32)) := ((f_X5_exists σ x1).bind fun v1 => (if v1 = 0 then ((f_X8_fail σ t h (-2 : Int32)).bind fun v6 => (some (v6.1, v6.2))) else ((f_X0_rangeSize σ x1).bind fun v4 => (some (v4, t)))))
def f_X8_load (σ : Nat → Nat → Int32) (t : Nat → Int32) (h : Nat → Nat → Nat → Int32) (x1 : Int32) : Option (Int32 × (Nat → Int32)) := ((f_X5_exists σ x1).bind fun v1 => (if v1 = 0 then ((f_X8_fail σ t h (-2 : Int32)).bind fun v6 => (some (v6.1, v6.2))) else ((f_X0_rangeLoad σ x1).bind fun v4 => (some (v4, t)))))
def f_X8_rangeOf (σ : Nat → Nat → Int32) (t : Nat → Int32) (h : Nat → Nat → Nat → Int32) (x1 : Int32) : Option (Int32 × (Nat → Int32)) := ((f_X8_isKey x1).bind fun v1 => (if v1 = 0 then ((f_X8_fail σ t h (-2 : Int32)).bind fun v6 => (some (v6.1, v6.2))) else ((f_X5_holding σ x1).bind fun v4 => (some (v4, t)))))
def f_X8_voters (σ : Nat → Nat → Int32) (t : Nat → Int32) (h : Nat → Nat → Nat → Int32) (x1 : Int32) : Option (Int32 × (Nat → Int32)) := ((f_X5_exists σ x1).bind fun v1 => (if v1 = 0 then ((f_X8_fail σ t h (-2 : Int32)).bind fun v6 => (some (v6.1, v6.2))) else (ld (σ 10) 16 x1 fun v4 => (some (v4, t)))))
def f_X8_leader (σ : Nat → Nat → Int32) (t : Nat → Int32) (h : Nat → Nat → Nat → Int32) (x1 : Int32) : Option (Int32 × (Nat → Int32)) := ((f_X5_exists σ x1).bind fun v1 => (if v1 = 0 then ((f_X8_fail σ t h (-2 : Int32)).bind fun v6 => (some (v6.1, v6.2))) else (ld (σ 11) 16 x1 fun v4 => (some (v4, t)))))
def f_X8_learner (σ : Nat → Nat → Int32) (t : Nat → Int32) (h : Nat → Nat → Nat → Int32) (x1 : Int32) : Option (Int32 × (Nat → Int32)) := ((f_X5_exists σ x1).bind fun v1 => (if v1 = 0 then ((f_X8_fail σ t h (-2 : Int32)).bind fun v6 => (some (v6.1, v6.2))) else ((f_X5_learnerCode σ x1).bind fun v4 => (some (v4, t)))))
def f_X8_isAvailable (σ : Nat → Nat → Int32) (t : Nat → Int32) (h : Nat → Nat → Nat → Int32) (x1 : Int32) : Option (Int32 × (Nat → Int32)) := ((f_X5_exists σ x1).bind fun v1 => (if v1 = 0 then ((f_X8_fail σ t h (-2 : Int32)).bind fun v7 => (some (v7.1, v7.2))) else ((f_X0_hasQuorum σ x1).bind fun v4 => (if v4 = 0 then (some ((0 : Int32), t)) else (some ((1 : Int32), t))))))
def f_X8_splitKey_23  (σ : Nat → Nat → Int32) (t : Nat → Int32) (h : Nat → Nat → Nat → Int32)  : Option (Int32 × (Nat → Int32)) := ((f_X8_fail σ t h (-2 : Int32)).bind fun v4 => (some (v4.1, v4.2)))
def f_X8_splitKey (σ : Nat → Nat → Int32) (t : Nat → Int32) (h : Nat → Nat → Nat → Int32) (x1 : Int32) (x2 : Int32) : Option (Int32 × (Nat → Int32)) := ((f_X5_exists σ x1).bind fun v1 => (if v1 = 0 then (f_X8_splitKey_23 σ t h) else ((f_X8_isWithin x2 (0 : Int32) (1 : Int32)).bind fun v6 => (if v6 = 0 then (f_X8_splitKey_23 σ t h) else (if x2 = 0 then ((f_X0_sizeSplitKey σ x1).bind fun v12 => (some (v12, t))) else ((f_X0_loadSplitKey σ x1).bind fun v10 => (some (v10, t))))))))
def f_X8_replicas (σ : Nat → Nat → Int32) (t : Nat → Int32) (h : Nat → Nat → Nat → Int32) (x1 : Int32) : Option (Int32 × (Nat → Int32)) := ((f_X4_exists σ x1).bind fun v1 => (if v1 = 0 then ((f_X8_fail σ t h (-2 : Int32)).bind fun v6 => (some (v6.1, v6.2))) else ((f_X5_replicasOn σ x1).bind fun v4 => (some (v4, t)))))
def f_X8_leaders (σ : Nat → Nat → Int32) (t : Nat → Int32) (h : Nat → Nat → Nat → Int32) (x1 : Int32) : Option (Int32 × (Nat → Int32)) := ((f_X4_exists σ x1).bind fun v1 => (if v1 = 0 then ((f_X8_fail σ t h (-2 : Int32)).bind fun v6 => (some (v6.1, v6.2))) else ((f_X5_ledBy σ x1).bind fun v4 => (some (v4, t)))))
def f_X8_undo (σ : Nat → Nat → Int32) (t : Nat → Int32) (h : Nat → Nat → Nat → Int32)  : Option (Int32 × (Nat → Nat → Int32) × (Nat → Int32)) := (if t 3 = 0 then ((f_X8_fail σ t h (-3 : Int32)).bind fun v4 => (some (v4.1, σ, v4.2))) else ((f_X2_restoreInto σ t h).bind fun v2 => (some (v2.2 3, v2.1, v2.2))))
def f_X8_errorCount (σ : Nat → Nat → Int32) (t : Nat → Int32) (h : Nat → Nat → Nat → Int32) (x1 : Int32) : Option (Int32 × (Nat → Int32)) := (if x1 = (0 : Int32) then (some (t 0, t)) else (if x1 = (1 : Int32) then (some (t 1, t)) else (if x1 = (2 : Int32) then (some (t 2, t)) else ((f_X8_fail σ t h (-2 : Int32)).bind fun v1 => (some (v1.1, v1.2))))))
def f_X8_mixSettings (σ : Nat → Nat → Int32) (t : Nat → Int32) (h : Nat → Nat → Nat → Int32) (x1 : Int64) : Option (Int64) := ((f_X8_mix x1 (σ 0 0)).bind fun v1 => ((f_X8_mix v1 (σ 0 1)).bind fun v3 => ((f_X8_mix v3 (σ 0 2)).bind fun v5 => ((f_X8_mix v5 (σ 0 3)).bind fun v7 => ((f_X8_mix v7 (σ 0 4)).bind fun v9 => ((f_X8_mix v9 (σ 0 5)).bind fun v11 => (some v11)))))))
def f_X8_mixNodes_74 (k21 : (Nat → Nat → Int32) → (Nat → Int32) → (Nat → Nat → Nat → Int32) → Int64 → Int32 → Option (Int64)) (σ : Nat → Nat → Int32) (t : Nat → Int32) (h : Nat → Nat → Nat → Int32) (x6 : Int32) (y0 : Int32) (y1 : Int64) : Option (Int64) := ((f_X8_mix y1 y0).bind fun v15 => ((f_X5_replicasOn σ x6).bind fun v17 => ((f_X8_mix v15 v17).bind fun v19 => ((f_X5_ledBy σ x6).bind fun v21 => ((f_X8_mix v19 v21).bind fun v23 => (k21 σ t h v23 (x6 + (1 : Int32))))))))
def f_X8_mixNodes_21  : Nat → (Nat → Nat → Int32) → (Nat → Int32) → (Nat → Nat → Nat → Int32) → Int64 → Int32 → Option (Int64)
  | 0, _, _, _, _, _ => none
  | n_ + 1, σ, t, h, x4, x6 => (if σ 0 6 ≤ x6 then (some x4) else (ld (σ 7) 8 x6 fun v4 => ((f_X8_mix x4 v4).bind fun v6 => (ld (σ 8) 8 x6 fun v8 => ((f_X8_mix v6 v8).bind fun v10 => ((f_X4_isUp σ x6).bind fun v12 => (if v12 = 0 then (f_X8_mixNodes_74 (f_X8_mixNodes_21 n_) σ t h x6 (0 : Int32) v10) else (f_X8_mixNodes_74 (f_X8_mixNodes_21 n_) σ t h x6 (1 : Int32) v10))))))))
def f_X8_mixNodes (σ : Nat → Nat → Int32) (t : Nat → Int32) (h : Nat → Nat → Nat → Int32) (x1 : Int64) : Option (Int64) := ((f_X8_mix x1 (σ 0 6)).bind fun v1 => (f_X8_mixNodes_21 FU σ t h v1 (0 : Int32)))
def f_X8_mixRanges_21  : Nat → (Nat → Nat → Int32) → (Nat → Int32) → (Nat → Nat → Nat → Int32) → Int64 → Int32 → Option (Int64)
  | 0, _, _, _, _, _ => none
  | n_ + 1, σ, t, h, x4, x6 => (if σ 0 8 ≤ x6 then (some x4) else (ld (σ 9) 16 x6 fun v4 => ((f_X8_mix x4 v4).bind fun v6 => ((f_X0_rangeSize σ x6).bind fun v8 => ((f_X8_mix v6 v8).bind fun v10 => ((f_X0_rangeLoad σ x6).bind fun v12 => ((f_X8_mix v10 v12).bind fun v14 => (ld (σ 10) 16 x6 fun v16 => ((f_X8_mix v14 v16).bind fun v18 => (ld (σ 11) 16 x6 fun v20 => ((f_X8_mix v18 v20).bind fun v22 => ((f_X5_learnerCode σ x6).bind fun v24 => ((f_X8_mix v22 v24).bind fun v26 => (ld (σ 14) 16 x6 fun v28 => ((f_X8_mix v26 v28).bind fun v30 => ((f_X0_sizeSplitKey σ x6).bind fun v32 => ((f_X8_mix v30 v32).bind fun v34 => ((f_X0_loadSplitKey σ x6).bind fun v36 => ((f_X8_mix v34 v36).bind fun v38 => ((f_X8_mixRanges_21 n_) σ t h v38 (x6 + (1 : Int32))))))))))))))))))))))
def f_X8_mixRanges (σ : Nat → Nat → Int32) (t : Nat → Int32) (h : Nat → Nat → Nat → Int32) (x1 : Int64) : Option (Int64) := ((f_X8_mix x1 (σ 0 8)).bind fun v1 => (f_X8_mixRanges_21 FU σ t h v1 (0 : Int32)))
def f_X8_digest_100  : Nat → (Nat → Nat → Int32) → (Nat → Int32) → (Nat → Nat → Nat → Int32) → Int64 → Int32 → Option (Int64)
  | 0, _, _, _, _, _ => none
  | n_ + 1, σ, t, h, x1, x3 => (if (8 : Int32) < x3 then (some x1) else (ld (σ 6) 9 x3 fun v20 => ((f_X8_mix x1 v20).bind fun v22 => ((f_X8_digest_100 n_) σ t h v22 (x3 + (1 : Int32))))))
def f_X8_digest (σ : Nat → Nat → Int32) (t : Nat → Int32) (h : Nat → Nat → Nat → Int32)  : Option (Int64) := ((f_X8_mix (12532 : Int64) (t 0)).bind fun v1 => ((f_X8_mix v1 (t 1)).bind fun v3 => ((f_X8_mix v3 (t 2)).bind fun v5 => ((f_X8_mix v5 (t 3)).bind fun v7 => ((f_X8_mix v7 (σ 0 11)).bind fun v9 => ((f_X8_mixSettings σ t h v9).bind fun v11 => ((f_X8_mixNodes σ t h v11).bind fun v13 => ((f_X8_mixRanges σ t h v13).bind fun v15 => ((f_X8_mixRow σ v15 (σ 0 10)).bind fun v17 => (f_X8_digest_100 FU σ t h v17 (1 : Int32)))))))))))
set_option maxRecDepth 100000 in
set_option maxHeartbeats 4000000 in
theorem c_X8_fail {l : Launch} {D : va_G} {cI cS : ClassId} {A : Nat → Prop} {a : Nat → Nat} {d o hh sl : Nat} {b : Nat → Nat → Nat} {rest : va_W}  {σ : Nat → Nat → Int32} {t : Nat → Int32} {h : Nat → Nat → Nat → Int32} {x1 : Int32} {r : Int32 × (Nat → Int32)} (hf : f_X8_fail σ t h x1 = some r) : CT l yX8_fail cX8_fail 2 (some .int) (rmF 0 0) D cI cS A [.ref o, .int x1] (wT a d o hh sl b cI cS σ t h rest) (wT a d o hh sl b cI cS σ r.2 h rest) (some (.int r.1)) := by
  refine CT_of (own := RX8) (xs := [some (.ref o), some (.int x1)]) (by decide) rfl (Nat.le_of_ble_eq_true rfl) rfl ?_
  intro p e s_ m below meth c C
  unfold f_X8_fail at hf
  refine j_iload_n C dX8_fail_0 rfl ?_
  refine j_bipush C bp_m2 dX8_fail_1 ?_
  refine j_icmp_ne C (tgt := 19) (by decide) dX8_fail_3 (fun h1 => ?_) (fun h1 => ?_)
  · replace hf := it_f h1 hf
    refine j_iload_n C dX8_fail_19 rfl ?_
    refine j_bipush C bp_m3 dX8_fail_20 ?_
    refine j_icmp_ne C (tgt := 38) (by decide) dX8_fail_22 (fun h2 => ?_) (fun h2 => ?_)
    · replace hf := it_f h2 hf
      refine j_aload_n C dX8_fail_38 rfl ?_
      refine j_dup C dX8_fail_39 rfl ?_
      refine j_getf C (q0 := 19) (ci := 8) (k := 5) inX8 rfl (by decide) tw_248 rfl rfl dX8_fail_40 ?_
      refine j_iconst C ic_1 dX8_fail_43 ?_
      refine j_iadd C dX8_fail_44 ?_
      refine j_putf C (q0 := 19) (ci := 8) (k := 5) (ty := .int) (ws' := (wT a d o hh sl b cI cS σ (upd t 2 (t 2 + (1 : Int32))) h rest)) inX8 tyX8_ok nmX8 rfl (by decide) tw_248 rfl (by decide +kernel) rfl rfl rfl (Nat.le_of_ble_eq_true rfl) rfl dX8_fail_45 ?_
      refine j_iload_n C dX8_fail_48 rfl ?_
      cases hf
      exact j_iret C dX8_fail_49
    · replace hf := it_t h2 hf
      refine j_aload_n C dX8_fail_25 rfl ?_
      refine j_dup C dX8_fail_26 rfl ?_
      refine j_getf C (q0 := 19) (ci := 8) (k := 4) inX8 rfl (by decide) tw_247 rfl rfl dX8_fail_27 ?_
      refine j_iconst C ic_1 dX8_fail_30 ?_
      refine j_iadd C dX8_fail_31 ?_
      refine j_putf C (q0 := 19) (ci := 8) (k := 4) (ty := .int) (ws' := (wT a d o hh sl b cI cS σ (upd t 1 (t 1 + (1 : Int32))) h rest)) inX8 tyX8_ok nmX8 rfl (by decide) tw_247 rfl (by decide +kernel) rfl rfl rfl (Nat.le_of_ble_eq_true rfl) rfl dX8_fail_32 ?_
      refine j_goto C (tgt := 48) (by decide) dX8_fail_35 ?_
      refine j_iload_n C dX8_fail_48 rfl ?_
      cases hf
      exact j_iret C dX8_fail_49
  · replace hf := it_t h1 hf
    refine j_aload_n C dX8_fail_6 rfl ?_
    refine j_dup C dX8_fail_7 rfl ?_
    refine j_getf C (q0 := 19) (ci := 8) (k := 3) inX8 rfl (by decide) tw_246 rfl rfl dX8_fail_8 ?_
    refine j_iconst C ic_1 dX8_fail_11 ?_
    refine j_iadd C dX8_fail_12 ?_
    refine j_putf C (q0 := 19) (ci := 8) (k := 3) (ty := .int) (ws' := (wT a d o hh sl b cI cS σ (upd t 0 (t 0 + (1 : Int32))) h rest)) inX8 tyX8_ok nmX8 rfl (by decide) tw_246 rfl (by decide +kernel) rfl rfl rfl (Nat.le_of_ble_eq_true rfl) rfl dX8_fail_13 ?_
    refine j_goto C (tgt := 48) (by decide) dX8_fail_16 ?_
    refine j_iload_n C dX8_fail_48 rfl ?_
    cases hf
    exact j_iret C dX8_fail_49
set_option maxRecDepth 100000 in
set_option maxHeartbeats 4000000 in
theorem w_X8_addNode_19 {p : Program} {l : Launch} {e : Env} {s_ : State} {m : MethodId} {args : Array Value} {below : List Frame} {meth : Method} {c : Code} {D : va_G} {cI cS : ClassId} {A : Nat → Prop} {a : Nat → Nat} {d o hh sl : Nat} {b : Nat → Nat → Nat} {rest : va_W}  (C : cx p s_ m args meth c cX8_addNode 3 RX8 (some .int) D cI cS)  : ∀ (σ : Nat → Nat → Int32) (t : Nat → Int32) (h : Nat → Nat → Nat → Int32)  (r : Int32 × (Nat → Nat → Int32) × (Nat → Int32) × (Nat → Nat → Nat → Int32)), f_X8_addNode_19  σ t h = some r → jG p l e (rmF 5 149) s_ m args below meth c 3 D A (MQ below (QW D A (wT a d o hh sl b cI cS r.2.1 r.2.2.1 r.2.2.2 rest) (some (.int r.1))) args s_ 0 0 A) (wT a d o hh sl b cI cS σ t h rest) [some (.ref o), none, none] 19 [] := by
  intro σ t h r hf
  unfold f_X8_addNode_19 at hf
  refine j_aload_n C dX8_addNode_19 rfl ?_
  refine j_bipush C bp_m2 dX8_addNode_20 ?_
  replace hf := bd hf
  obtain ⟨v4, h5, hf⟩ := hf
  refine j_callV C cl_X8_32 (c_X8_fail h5) ⟨Nat.le_of_ble_eq_true rfl, Nat.le_of_ble_eq_true rfl⟩ ⟨Nat.zero_le _, Nat.zero_le _⟩ (q0 := 19) rfl rfl rfl rfl (Nat.le_of_ble_eq_true rfl) rfl rfl wT_fst dX8_addNode_22 ?_
  cases hf
  exact j_iret C dX8_addNode_25
set_option maxRecDepth 100000 in
set_option maxHeartbeats 4000000 in
theorem c_X8_addNode {l : Launch} {D : va_G} {cI cS : ClassId} {A : Nat → Prop} {a : Nat → Nat} {d o hh sl : Nat} {b : Nat → Nat → Nat} {rest : va_W}  {σ : Nat → Nat → Int32} {t : Nat → Int32} {h : Nat → Nat → Nat → Int32} {x1 : Int32} {x2 : Int32} {r : Int32 × (Nat → Nat → Int32) × (Nat → Int32) × (Nat → Nat → Nat → Int32)} (hf : f_X8_addNode σ t h x1 x2 = some r) : CT l yX8_addNode cX8_addNode 3 (some .int) (rmF 5 149) D cI cS A [.ref o, .int x1, .int x2] (wT a d o hh sl b cI cS σ t h rest) (wT a d o hh sl b cI cS r.2.1 r.2.2.1 r.2.2.2 rest) (some (.int r.1)) := by
  refine CT_of (own := RX8) (xs := [some (.ref o), some (.int x1), some (.int x2)]) (by decide) rfl (Nat.le_of_ble_eq_true rfl) rfl ?_
  intro p e s_ m below meth c C
  unfold f_X8_addNode at hf
  refine j_iload_n C dX8_addNode_0 rfl ?_
  refine j_iconst C ic_0 dX8_addNode_1 ?_
  refine j_iconst C ic_3 dX8_addNode_2 ?_
  replace hf := bd hf
  obtain ⟨v1, h2, hf⟩ := hf
  refine j_callS C cl_X8_28 (c_X8_isWithin h2) ⟨Nat.le_of_ble_eq_true rfl, Nat.le_of_ble_eq_true rfl⟩ ⟨Nat.zero_le _, Nat.zero_le _⟩ rfl (Nat.le_of_ble_eq_true rfl) rfl rfl rfl dX8_addNode_3 ?_
  refine j_if_eq C (tgt := 19) (by decide) dX8_addNode_6 (fun h3 => ?_) (fun h3 => ?_)
  · replace hf := it_t h3 hf
    refine j_weak [true, false, false] rfl ?_
    exact w_X8_addNode_19 C  _ _ _ _ hf
  · replace hf := it_f h3 hf
    refine j_iload_n C dX8_addNode_9 rfl ?_
    refine j_iconst C ic_1 dX8_addNode_10 ?_
    refine j_bipush C bp_16 dX8_addNode_11 ?_
    replace hf := bd hf
    obtain ⟨v6, h7, hf⟩ := hf
    refine j_callS C cl_X8_28 (c_X8_isWithin h7) ⟨Nat.le_of_ble_eq_true rfl, Nat.le_of_ble_eq_true rfl⟩ ⟨Nat.zero_le _, Nat.zero_le _⟩ rfl (Nat.le_of_ble_eq_true rfl) rfl rfl rfl dX8_addNode_13 ?_
    refine j_if_ne C (tgt := 26) (by decide) dX8_addNode_16 (fun h8 => ?_) (fun h8 => ?_)
    · replace hf := it_f h8 hf
      refine j_aload_n C dX8_addNode_26 rfl ?_
      refine j_getf C (q0 := 19) (ci := 8) (k := 1) inX8 rfl (by decide) tw_244 rfl rfl dX8_addNode_27 ?_
      refine gf_X8_36 C dX8_addNode_30 ?_
      refine gf_X8_42 C dX8_addNode_33 ?_
      refine j_bipush C bp_8 dX8_addNode_36 ?_
      refine j_icmp_lt C (tgt := 48) (by decide) dX8_addNode_38 (fun h9 => ?_) (fun h9 => ?_)
      · replace hf := it_t h9 hf
        refine j_aload_n C dX8_addNode_48 rfl ?_
        refine j_getf C (q0 := 19) (ci := 8) (k := 2) inX8 rfl (by decide) tw_245 rfl rfl dX8_addNode_49 ?_
        refine j_aload_n C dX8_addNode_52 rfl ?_
        refine j_getf C (q0 := 19) (ci := 8) (k := 1) inX8 rfl (by decide) tw_244 rfl rfl dX8_addNode_53 ?_
        replace hf := bd hf
        obtain ⟨v10, h11, hf⟩ := hf
        refine j_callV C cl_X8_48 (c_X2_save h11) ⟨Nat.le_of_ble_eq_true rfl, Nat.le_of_ble_eq_true rfl⟩ ⟨Nat.zero_le _, Nat.zero_le _⟩ (q0 := 20) rfl rfl rfl rfl (Nat.le_of_ble_eq_true rfl) rfl rfl wT_fst dX8_addNode_56 ?_
        refine j_aload_n C dX8_addNode_59 rfl ?_
        refine j_getf C (q0 := 19) (ci := 8) (k := 1) inX8 rfl (by decide) tw_244 rfl rfl dX8_addNode_60 ?_
        refine gf_X8_36 C dX8_addNode_63 ?_
        refine j_iload_n C dX8_addNode_66 rfl ?_
        refine j_iload_n C dX8_addNode_67 rfl ?_
        replace hf := bd hf
        obtain ⟨v12, h13, hf⟩ := hf
        refine j_callV C cl_X8_52 (c_X4_append h13) ⟨Nat.le_of_ble_eq_true rfl, Nat.le_of_ble_eq_true rfl⟩ ⟨Nat.zero_le _, Nat.zero_le _⟩ (q0 := 2) rfl rfl rfl rfl (Nat.le_of_ble_eq_true rfl) rfl rfl wC_fst dX8_addNode_68 ?_
        cases hf
        exact j_iret C dX8_addNode_71
      · replace hf := it_f h9 hf
        refine j_aload_n C dX8_addNode_41 rfl ?_
        refine j_bipush C bp_m4 dX8_addNode_42 ?_
        replace hf := bd hf
        obtain ⟨v14, h15, hf⟩ := hf
        refine j_callV C cl_X8_32 (c_X8_fail h15) ⟨Nat.le_of_ble_eq_true rfl, Nat.le_of_ble_eq_true rfl⟩ ⟨Nat.zero_le _, Nat.zero_le _⟩ (q0 := 19) rfl rfl rfl rfl (Nat.le_of_ble_eq_true rfl) rfl rfl wT_fst dX8_addNode_44 ?_
        cases hf
        exact j_iret C dX8_addNode_47
    · replace hf := it_t h8 hf
      refine j_weak [true, false, false] rfl ?_
      exact w_X8_addNode_19 C  _ _ _ _ hf
set_option maxRecDepth 100000 in
set_option maxHeartbeats 4000000 in
theorem w_X8_setNode_23 {p : Program} {l : Launch} {e : Env} {s_ : State} {m : MethodId} {args : Array Value} {below : List Frame} {meth : Method} {c : Code} {D : va_G} {cI cS : ClassId} {A : Nat → Prop} {a : Nat → Nat} {d o hh sl : Nat} {b : Nat → Nat → Nat} {rest : va_W}  (C : cx p s_ m args meth c cX8_setNode 4 RX8 (some .int) D cI cS)  : ∀ (σ : Nat → Nat → Int32) (t : Nat → Int32) (h : Nat → Nat → Nat → Int32)  (r : Int32 × (Nat → Nat → Int32) × (Nat → Int32) × (Nat → Nat → Nat → Int32)), f_X8_setNode_23  σ t h = some r → jG p l e (rmF 5 149) s_ m args below meth c 4 D A (MQ below (QW D A (wT a d o hh sl b cI cS r.2.1 r.2.2.1 r.2.2.2 rest) (some (.int r.1))) args s_ 0 0 A) (wT a d o hh sl b cI cS σ t h rest) [some (.ref o), none, none, none] 23 [] := by
  intro σ t h r hf
  unfold f_X8_setNode_23 at hf
  refine j_aload_n C dX8_setNode_23 rfl ?_
  refine j_bipush C bp_m2 dX8_setNode_24 ?_
  replace hf := bd hf
  obtain ⟨v4, h5, hf⟩ := hf
  refine j_callV C cl_X8_32 (c_X8_fail h5) ⟨Nat.le_of_ble_eq_true rfl, Nat.le_of_ble_eq_true rfl⟩ ⟨Nat.zero_le _, Nat.zero_le _⟩ (q0 := 19) rfl rfl rfl rfl (Nat.le_of_ble_eq_true rfl) rfl rfl wT_fst dX8_setNode_26 ?_
  cases hf
  exact j_iret C dX8_setNode_29
set_option maxRecDepth 100000 in
set_option maxHeartbeats 4000000 in
theorem w_X8_setNode_97 {p : Program} {l : Launch} {e : Env} {s_ : State} {m : MethodId} {args : Array Value} {below : List Frame} {meth : Method} {c : Code} {D : va_G} {cI cS : ClassId} {A : Nat → Prop} {a : Nat → Nat} {d o hh sl : Nat} {b : Nat → Nat → Nat} {rest : va_W}  (C : cx p s_ m args meth c cX8_setNode 4 RX8 (some .int) D cI cS)  : ∀ (σ : Nat → Nat → Int32) (t : Nat → Int32) (h : Nat → Nat → Nat → Int32)  (r : Int32 × (Nat → Nat → Int32) × (Nat → Int32) × (Nat → Nat → Nat → Int32)), f_X8_setNode_97  σ t h = some r → jG p l e (rmF 5 149) s_ m args below meth c 4 D A (MQ below (QW D A (wT a d o hh sl b cI cS r.2.1 r.2.2.1 r.2.2.2 rest) (some (.int r.1))) args s_ 0 0 A) (wT a d o hh sl b cI cS σ t h rest) [some (.ref o), none, none, none] 97 [] := by
  intro σ t h r hf
  unfold f_X8_setNode_97 at hf
  refine j_aload_n C dX8_setNode_97 rfl ?_
  refine j_getf C (q0 := 19) (ci := 8) (k := 1) inX8 rfl (by decide) tw_244 rfl rfl dX8_setNode_98 ?_
  replace hf := bd hf
  obtain ⟨v18, h19, hf⟩ := hf
  refine j_callV C cl_X8_70 (c_X0_countAvailable h19) ⟨Nat.le_of_ble_eq_true rfl, Nat.le_of_ble_eq_true rfl⟩ ⟨Nat.zero_le _, Nat.zero_le _⟩ (q0 := 0) rfl rfl rfl rfl (Nat.le_of_ble_eq_true rfl) rfl rfl rfl dX8_setNode_101 ?_
  cases hf
  exact j_iret C dX8_setNode_104
set_option maxRecDepth 100000 in
set_option maxHeartbeats 4000000 in
theorem w_X8_setNode_40 {p : Program} {l : Launch} {e : Env} {s_ : State} {m : MethodId} {args : Array Value} {below : List Frame} {meth : Method} {c : Code} {D : va_G} {cI cS : ClassId} {A : Nat → Prop} {a : Nat → Nat} {d o hh sl : Nat} {b : Nat → Nat → Nat} {rest : va_W}  (C : cx p s_ m args meth c cX8_setNode 4 RX8 (some .int) D cI cS)  : ∀ (σ : Nat → Nat → Int32) (t : Nat → Int32) (h : Nat → Nat → Nat → Int32) (x1 : Int32) (y0 : Int32) (r : Int32 × (Nat → Nat → Int32) × (Nat → Int32) × (Nat → Nat → Nat → Int32)), f_X8_setNode_40  σ t h x1 y0 = some r → jG p l e (rmF 5 149) s_ m args below meth c 4 D A (MQ below (QW D A (wT a d o hh sl b cI cS r.2.1 r.2.2.1 r.2.2.2 rest) (some (.int r.1))) args s_ 0 0 A) (wT a d o hh sl b cI cS σ t h rest) [some (.ref o), some (.int x1), none, none] 40 [.int y0] := by
  intro σ t h x1 y0 r hf
  unfold f_X8_setNode_40 at hf
  refine j_istore_n C (xs' := [some (.ref o), some (.int x1), none, some (.int y0)]) dX8_setNode_40 rfl rfl ?_
  refine j_aload_n C dX8_setNode_41 rfl ?_
  refine j_getf C (q0 := 19) (ci := 8) (k := 1) inX8 rfl (by decide) tw_244 rfl rfl dX8_setNode_42 ?_
  refine gf_X8_36 C dX8_setNode_45 ?_
  refine j_iload_n C dX8_setNode_48 rfl ?_
  replace hf := bd hf
  obtain ⟨v10, h11, hf⟩ := hf
  refine j_callV C cl_X8_60 (c_X4_isUp h11) ⟨Nat.le_of_ble_eq_true rfl, Nat.le_of_ble_eq_true rfl⟩ ⟨Nat.zero_le _, Nat.zero_le _⟩ (q0 := 2) rfl rfl rfl rfl (Nat.le_of_ble_eq_true rfl) rfl rfl rfl dX8_setNode_49 ?_
  refine j_iload_n C dX8_setNode_52 rfl ?_
  refine j_icmp_ne C (tgt := 63) (by decide) dX8_setNode_53 (fun h12 => ?_) (fun h12 => ?_)
  · replace hf := it_f h12 hf
    refine j_aload_n C dX8_setNode_63 rfl ?_
    refine j_getf C (q0 := 19) (ci := 8) (k := 2) inX8 rfl (by decide) tw_245 rfl rfl dX8_setNode_64 ?_
    refine j_aload_n C dX8_setNode_67 rfl ?_
    refine j_getf C (q0 := 19) (ci := 8) (k := 1) inX8 rfl (by decide) tw_244 rfl rfl dX8_setNode_68 ?_
    replace hf := bd hf
    obtain ⟨v13, h14, hf⟩ := hf
    refine j_callV C cl_X8_48 (c_X2_save h14) ⟨Nat.le_of_ble_eq_true rfl, Nat.le_of_ble_eq_true rfl⟩ ⟨Nat.zero_le _, Nat.zero_le _⟩ (q0 := 20) rfl rfl rfl rfl (Nat.le_of_ble_eq_true rfl) rfl rfl wT_fst dX8_setNode_71 ?_
    refine j_iload_n C dX8_setNode_74 rfl ?_
    refine j_if_eq C (tgt := 89) (by decide) dX8_setNode_75 (fun h15 => ?_) (fun h15 => ?_)
    · replace hf := it_t h15 hf
      refine j_aload_n C dX8_setNode_89 rfl ?_
      refine j_getf C (q0 := 19) (ci := 8) (k := 1) inX8 rfl (by decide) tw_244 rfl rfl dX8_setNode_90 ?_
      refine j_iload_n C dX8_setNode_93 rfl ?_
      replace hf := bd hf
      obtain ⟨v16, h17, hf⟩ := hf
      refine j_callV C cl_X8_67 (c_X0_takeDown h17) ⟨Nat.le_of_ble_eq_true rfl, Nat.le_of_ble_eq_true rfl⟩ ⟨Nat.zero_le _, Nat.zero_le _⟩ (q0 := 0) rfl rfl rfl rfl (Nat.le_of_ble_eq_true rfl) rfl rfl wC_fst dX8_setNode_94 ?_
      refine j_weak [true, false, false, false] rfl ?_
      exact w_X8_setNode_97 C  _ _ _ _ hf
    · replace hf := it_f h15 hf
      refine j_aload_n C dX8_setNode_78 rfl ?_
      refine j_getf C (q0 := 19) (ci := 8) (k := 1) inX8 rfl (by decide) tw_244 rfl rfl dX8_setNode_79 ?_
      refine j_iload_n C dX8_setNode_82 rfl ?_
      replace hf := bd hf
      obtain ⟨v20, h21, hf⟩ := hf
      refine j_callV C cl_X8_63 (c_X0_bringUp h21) ⟨Nat.le_of_ble_eq_true rfl, Nat.le_of_ble_eq_true rfl⟩ ⟨Nat.zero_le _, Nat.zero_le _⟩ (q0 := 0) rfl rfl rfl rfl (Nat.le_of_ble_eq_true rfl) rfl rfl wC_fst dX8_setNode_83 ?_
      refine j_goto C (tgt := 97) (by decide) dX8_setNode_86 ?_
      refine j_weak [true, false, false, false] rfl ?_
      exact w_X8_setNode_97 C  _ _ _ _ hf
  · replace hf := it_t h12 hf
    refine j_aload_n C dX8_setNode_56 rfl ?_
    refine j_bipush C bp_m3 dX8_setNode_57 ?_
    replace hf := bd hf
    obtain ⟨v22, h23, hf⟩ := hf
    refine j_callV C cl_X8_32 (c_X8_fail h23) ⟨Nat.le_of_ble_eq_true rfl, Nat.le_of_ble_eq_true rfl⟩ ⟨Nat.zero_le _, Nat.zero_le _⟩ (q0 := 19) rfl rfl rfl rfl (Nat.le_of_ble_eq_true rfl) rfl rfl wT_fst dX8_setNode_59 ?_
    cases hf
    exact j_iret C dX8_setNode_62
set_option maxRecDepth 100000 in
set_option maxHeartbeats 4000000 in
theorem c_X8_setNode {l : Launch} {D : va_G} {cI cS : ClassId} {A : Nat → Prop} {a : Nat → Nat} {d o hh sl : Nat} {b : Nat → Nat → Nat} {rest : va_W}  {σ : Nat → Nat → Int32} {t : Nat → Int32} {h : Nat → Nat → Nat → Int32} {x1 : Int32} {x2 : Int32} {r : Int32 × (Nat → Nat → Int32) × (Nat → Int32) × (Nat → Nat → Nat → Int32)} (hf : f_X8_setNode σ t h x1 x2 = some r) : CT l yX8_setNode cX8_setNode 4 (some .int) (rmF 5 149) D cI cS A [.ref o, .int x1, .int x2] (wT a d o hh sl b cI cS σ t h rest) (wT a d o hh sl b cI cS r.2.1 r.2.2.1 r.2.2.2 rest) (some (.int r.1)) := by
  refine CT_of (own := RX8) (xs := [some (.ref o), some (.int x1), some (.int x2), none]) (by decide) rfl (Nat.le_of_ble_eq_true rfl) rfl ?_
  intro p e s_ m below meth c C
  unfold f_X8_setNode at hf
  refine j_aload_n C dX8_setNode_0 rfl ?_
  refine j_getf C (q0 := 19) (ci := 8) (k := 1) inX8 rfl (by decide) tw_244 rfl rfl dX8_setNode_1 ?_
  refine gf_X8_36 C dX8_setNode_4 ?_
  refine j_iload_n C dX8_setNode_7 rfl ?_
  replace hf := bd hf
  obtain ⟨v1, h2, hf⟩ := hf
  refine j_callV C cl_X8_56 (c_X4_exists h2) ⟨Nat.le_of_ble_eq_true rfl, Nat.le_of_ble_eq_true rfl⟩ ⟨Nat.zero_le _, Nat.zero_le _⟩ (q0 := 2) rfl rfl rfl rfl (Nat.le_of_ble_eq_true rfl) rfl rfl rfl dX8_setNode_8 ?_
  refine j_if_eq C (tgt := 23) (by decide) dX8_setNode_11 (fun h3 => ?_) (fun h3 => ?_)
  · replace hf := it_t h3 hf
    refine j_weak [true, false, false, false] rfl ?_
    exact w_X8_setNode_23 C  _ _ _ _ hf
  · replace hf := it_f h3 hf
    refine j_iload_n C dX8_setNode_14 rfl ?_
    refine j_iconst C ic_0 dX8_setNode_15 ?_
    refine j_iconst C ic_1 dX8_setNode_16 ?_
    replace hf := bd hf
    obtain ⟨v6, h7, hf⟩ := hf
    refine j_callS C cl_X8_28 (c_X8_isWithin h7) ⟨Nat.le_of_ble_eq_true rfl, Nat.le_of_ble_eq_true rfl⟩ ⟨Nat.zero_le _, Nat.zero_le _⟩ rfl (Nat.le_of_ble_eq_true rfl) rfl rfl rfl dX8_setNode_17 ?_
    refine j_if_ne C (tgt := 30) (by decide) dX8_setNode_20 (fun h8 => ?_) (fun h8 => ?_)
    · replace hf := it_f h8 hf
      refine j_iload_n C dX8_setNode_30 rfl ?_
      refine j_iconst C ic_1 dX8_setNode_31 ?_
      refine j_icmp_ne C (tgt := 39) (by decide) dX8_setNode_32 (fun h9 => ?_) (fun h9 => ?_)
      · replace hf := it_f h9 hf
        refine j_iconst C ic_0 dX8_setNode_39 ?_
        refine j_weak [true, true, false, false] rfl ?_
        exact w_X8_setNode_40 C  _ _ _ _ _ _ hf
      · replace hf := it_t h9 hf
        refine j_iconst C ic_1 dX8_setNode_35 ?_
        refine j_goto C (tgt := 40) (by decide) dX8_setNode_36 ?_
        refine j_weak [true, true, false, false] rfl ?_
        exact w_X8_setNode_40 C  _ _ _ _ _ _ hf
    · replace hf := it_t h8 hf
      refine j_weak [true, false, false, false] rfl ?_
      exact w_X8_setNode_23 C  _ _ _ _ hf
set_option maxRecDepth 100000 in
set_option maxHeartbeats 4000000 in
theorem c_X8_setReplication {l : Launch} {D : va_G} {cI cS : ClassId} {A : Nat → Prop} {a : Nat → Nat} {d o hh sl : Nat} {b : Nat → Nat → Nat} {rest : va_W}  {σ : Nat → Nat → Int32} {t : Nat → Int32} {h : Nat → Nat → Nat → Int32} {x1 : Int32} {r : Int32 × (Nat → Nat → Int32) × (Nat → Int32) × (Nat → Nat → Nat → Int32)} (hf : f_X8_setReplication σ t h x1 = some r) : CT l yX8_setReplication cX8_setReplication 3 (some .int) (rmF 5 149) D cI cS A [.ref o, .int x1] (wT a d o hh sl b cI cS σ t h rest) (wT a d o hh sl b cI cS r.2.1 r.2.2.1 r.2.2.2 rest) (some (.int r.1)) := by
  refine CT_of (own := RX8) (xs := [some (.ref o), some (.int x1), none]) (by decide) rfl (Nat.le_of_ble_eq_true rfl) rfl ?_
  intro p e s_ m below meth c C
  unfold f_X8_setReplication at hf
  refine j_iload_n C dX8_setReplication_0 rfl ?_
  refine j_iconst C ic_1 dX8_setReplication_1 ?_
  refine j_iconst C ic_5 dX8_setReplication_2 ?_
  replace hf := bd hf
  obtain ⟨v1, h2, hf⟩ := hf
  refine j_callS C cl_X8_28 (c_X8_isWithin h2) ⟨Nat.le_of_ble_eq_true rfl, Nat.le_of_ble_eq_true rfl⟩ ⟨Nat.zero_le _, Nat.zero_le _⟩ rfl (Nat.le_of_ble_eq_true rfl) rfl rfl rfl dX8_setReplication_3 ?_
  refine j_if_ne C (tgt := 16) (by decide) dX8_setReplication_6 (fun h3 => ?_) (fun h3 => ?_)
  · replace hf := it_f h3 hf
    refine j_aload_n C dX8_setReplication_16 rfl ?_
    refine j_getf C (q0 := 19) (ci := 8) (k := 2) inX8 rfl (by decide) tw_245 rfl rfl dX8_setReplication_17 ?_
    refine j_aload_n C dX8_setReplication_20 rfl ?_
    refine j_getf C (q0 := 19) (ci := 8) (k := 1) inX8 rfl (by decide) tw_244 rfl rfl dX8_setReplication_21 ?_
    replace hf := bd hf
    obtain ⟨v4, h5, hf⟩ := hf
    refine j_callV C cl_X8_48 (c_X2_save h5) ⟨Nat.le_of_ble_eq_true rfl, Nat.le_of_ble_eq_true rfl⟩ ⟨Nat.zero_le _, Nat.zero_le _⟩ (q0 := 20) rfl rfl rfl rfl (Nat.le_of_ble_eq_true rfl) rfl rfl wT_fst dX8_setReplication_24 ?_
    refine j_aload_n C dX8_setReplication_27 rfl ?_
    refine j_getf C (q0 := 19) (ci := 8) (k := 1) inX8 rfl (by decide) tw_244 rfl rfl dX8_setReplication_28 ?_
    refine gf_X8_74 C dX8_setReplication_31 ?_
    refine gf_X8_78 C dX8_setReplication_34 ?_
    refine j_istore_n C (xs' := [some (.ref o), some (.int x1), some (.int (σ 0 0))]) dX8_setReplication_37 rfl rfl ?_
    refine j_aload_n C dX8_setReplication_38 rfl ?_
    refine j_getf C (q0 := 19) (ci := 8) (k := 1) inX8 rfl (by decide) tw_244 rfl rfl dX8_setReplication_39 ?_
    refine gf_X8_74 C dX8_setReplication_42 ?_
    refine j_iload_n C dX8_setReplication_45 rfl ?_
    refine pf_X8_78 C dX8_setReplication_46 ?_
    refine j_iload_n C dX8_setReplication_49 rfl ?_
    cases hf
    exact j_iret C dX8_setReplication_50
  · replace hf := it_t h3 hf
    refine j_aload_n C dX8_setReplication_9 rfl ?_
    refine j_bipush C bp_m2 dX8_setReplication_10 ?_
    replace hf := bd hf
    obtain ⟨v6, h7, hf⟩ := hf
    refine j_callV C cl_X8_32 (c_X8_fail h7) ⟨Nat.le_of_ble_eq_true rfl, Nat.le_of_ble_eq_true rfl⟩ ⟨Nat.zero_le _, Nat.zero_le _⟩ (q0 := 19) rfl rfl rfl rfl (Nat.le_of_ble_eq_true rfl) rfl rfl wT_fst dX8_setReplication_12 ?_
    cases hf
    exact j_iret C dX8_setReplication_15
set_option maxRecDepth 100000 in
set_option maxHeartbeats 4000000 in
theorem w_X8_setSizes_20 {p : Program} {l : Launch} {e : Env} {s_ : State} {m : MethodId} {args : Array Value} {below : List Frame} {meth : Method} {c : Code} {D : va_G} {cI cS : ClassId} {A : Nat → Prop} {a : Nat → Nat} {d o hh sl : Nat} {b : Nat → Nat → Nat} {rest : va_W}  (C : cx p s_ m args meth c cX8_setSizes 4 RX8 (some .int) D cI cS)  : ∀ (σ : Nat → Nat → Int32) (t : Nat → Int32) (h : Nat → Nat → Nat → Int32)  (r : Int32 × (Nat → Nat → Int32) × (Nat → Int32) × (Nat → Nat → Nat → Int32)), f_X8_setSizes_20  σ t h = some r → jG p l e (rmF 5 149) s_ m args below meth c 4 D A (MQ below (QW D A (wT a d o hh sl b cI cS r.2.1 r.2.2.1 r.2.2.2 rest) (some (.int r.1))) args s_ 0 0 A) (wT a d o hh sl b cI cS σ t h rest) [some (.ref o), none, none, none] 20 [] := by
  intro σ t h r hf
  unfold f_X8_setSizes_20 at hf
  refine j_aload_n C dX8_setSizes_20 rfl ?_
  refine j_bipush C bp_m2 dX8_setSizes_21 ?_
  replace hf := bd hf
  obtain ⟨v4, h5, hf⟩ := hf
  refine j_callV C cl_X8_32 (c_X8_fail h5) ⟨Nat.le_of_ble_eq_true rfl, Nat.le_of_ble_eq_true rfl⟩ ⟨Nat.zero_le _, Nat.zero_le _⟩ (q0 := 19) rfl rfl rfl rfl (Nat.le_of_ble_eq_true rfl) rfl rfl wT_fst dX8_setSizes_23 ?_
  cases hf
  exact j_iret C dX8_setSizes_26
set_option maxRecDepth 100000 in
set_option maxHeartbeats 4000000 in
theorem c_X8_setSizes {l : Launch} {D : va_G} {cI cS : ClassId} {A : Nat → Prop} {a : Nat → Nat} {d o hh sl : Nat} {b : Nat → Nat → Nat} {rest : va_W}  {σ : Nat → Nat → Int32} {t : Nat → Int32} {h : Nat → Nat → Nat → Int32} {x1 : Int32} {x2 : Int32} {r : Int32 × (Nat → Nat → Int32) × (Nat → Int32) × (Nat → Nat → Nat → Int32)} (hf : f_X8_setSizes σ t h x1 x2 = some r) : CT l yX8_setSizes cX8_setSizes 4 (some .int) (rmF 5 149) D cI cS A [.ref o, .int x1, .int x2] (wT a d o hh sl b cI cS σ t h rest) (wT a d o hh sl b cI cS r.2.1 r.2.2.1 r.2.2.2 rest) (some (.int r.1)) := by
  refine CT_of (own := RX8) (xs := [some (.ref o), some (.int x1), some (.int x2), none]) (by decide) rfl (Nat.le_of_ble_eq_true rfl) rfl ?_
  intro p e s_ m below meth c C
  unfold f_X8_setSizes at hf
  refine j_iload_n C dX8_setSizes_0 rfl ?_
  refine j_iconst C ic_1 dX8_setSizes_1 ?_
  refine j_sipush C sp_9999 dX8_setSizes_2 ?_
  replace hf := bd hf
  obtain ⟨v1, h2, hf⟩ := hf
  refine j_callS C cl_X8_28 (c_X8_isWithin h2) ⟨Nat.le_of_ble_eq_true rfl, Nat.le_of_ble_eq_true rfl⟩ ⟨Nat.zero_le _, Nat.zero_le _⟩ rfl (Nat.le_of_ble_eq_true rfl) rfl rfl rfl dX8_setSizes_5 ?_
  refine j_if_eq C (tgt := 20) (by decide) dX8_setSizes_8 (fun h3 => ?_) (fun h3 => ?_)
  · replace hf := it_t h3 hf
    refine j_weak [true, false, false, false] rfl ?_
    exact w_X8_setSizes_20 C  _ _ _ _ hf
  · replace hf := it_f h3 hf
    refine j_iload_n C dX8_setSizes_11 rfl ?_
    refine j_iconst C ic_0 dX8_setSizes_12 ?_
    refine j_iload_n C dX8_setSizes_13 rfl ?_
    replace hf := bd hf
    obtain ⟨v6, h7, hf⟩ := hf
    refine j_callS C cl_X8_28 (c_X8_isWithin h7) ⟨Nat.le_of_ble_eq_true rfl, Nat.le_of_ble_eq_true rfl⟩ ⟨Nat.zero_le _, Nat.zero_le _⟩ rfl (Nat.le_of_ble_eq_true rfl) rfl rfl rfl dX8_setSizes_14 ?_
    refine j_if_ne C (tgt := 27) (by decide) dX8_setSizes_17 (fun h8 => ?_) (fun h8 => ?_)
    · replace hf := it_f h8 hf
      refine j_aload_n C dX8_setSizes_27 rfl ?_
      refine j_getf C (q0 := 19) (ci := 8) (k := 2) inX8 rfl (by decide) tw_245 rfl rfl dX8_setSizes_28 ?_
      refine j_aload_n C dX8_setSizes_31 rfl ?_
      refine j_getf C (q0 := 19) (ci := 8) (k := 1) inX8 rfl (by decide) tw_244 rfl rfl dX8_setSizes_32 ?_
      replace hf := bd hf
      obtain ⟨v9, h10, hf⟩ := hf
      refine j_callV C cl_X8_48 (c_X2_save h10) ⟨Nat.le_of_ble_eq_true rfl, Nat.le_of_ble_eq_true rfl⟩ ⟨Nat.zero_le _, Nat.zero_le _⟩ (q0 := 20) rfl rfl rfl rfl (Nat.le_of_ble_eq_true rfl) rfl rfl wT_fst dX8_setSizes_35 ?_
      refine j_aload_n C dX8_setSizes_38 rfl ?_
      refine j_getf C (q0 := 19) (ci := 8) (k := 1) inX8 rfl (by decide) tw_244 rfl rfl dX8_setSizes_39 ?_
      refine gf_X8_74 C dX8_setSizes_42 ?_
      refine gf_X8_83 C dX8_setSizes_45 ?_
      refine j_istore_n C (xs' := [some (.ref o), some (.int x1), some (.int x2), some (.int (σ 0 2))]) dX8_setSizes_48 rfl rfl ?_
      refine j_aload_n C dX8_setSizes_49 rfl ?_
      refine j_getf C (q0 := 19) (ci := 8) (k := 1) inX8 rfl (by decide) tw_244 rfl rfl dX8_setSizes_50 ?_
      refine gf_X8_74 C dX8_setSizes_53 ?_
      refine j_iload_n C dX8_setSizes_56 rfl ?_
      refine pf_X8_86 C dX8_setSizes_57 ?_
      refine j_aload_n C dX8_setSizes_60 rfl ?_
      refine j_getf C (q0 := 19) (ci := 8) (k := 1) inX8 rfl (by decide) tw_244 rfl rfl dX8_setSizes_61 ?_
      refine gf_X8_74 C dX8_setSizes_64 ?_
      refine j_iload_n C dX8_setSizes_67 rfl ?_
      refine pf_X8_83 C dX8_setSizes_68 ?_
      refine j_iload_n C dX8_setSizes_71 rfl ?_
      cases hf
      exact j_iret C dX8_setSizes_72
    · replace hf := it_t h8 hf
      refine j_weak [true, false, false, false] rfl ?_
      exact w_X8_setSizes_20 C  _ _ _ _ hf
set_option maxRecDepth 100000 in
set_option maxHeartbeats 4000000 in
theorem w_X8_setLoads_19 {p : Program} {l : Launch} {e : Env} {s_ : State} {m : MethodId} {args : Array Value} {below : List Frame} {meth : Method} {c : Code} {D : va_G} {cI cS : ClassId} {A : Nat → Prop} {a : Nat → Nat} {d o hh sl : Nat} {b : Nat → Nat → Nat} {rest : va_W}  (C : cx p s_ m args meth c cX8_setLoads 4 RX8 (some .int) D cI cS)  : ∀ (σ : Nat → Nat → Int32) (t : Nat → Int32) (h : Nat → Nat → Nat → Int32)  (r : Int32 × (Nat → Nat → Int32) × (Nat → Int32) × (Nat → Nat → Nat → Int32)), f_X8_setLoads_19  σ t h = some r → jG p l e (rmF 5 149) s_ m args below meth c 4 D A (MQ below (QW D A (wT a d o hh sl b cI cS r.2.1 r.2.2.1 r.2.2.2 rest) (some (.int r.1))) args s_ 0 0 A) (wT a d o hh sl b cI cS σ t h rest) [some (.ref o), none, none, none] 19 [] := by
  intro σ t h r hf
  unfold f_X8_setLoads_19 at hf
  refine j_aload_n C dX8_setLoads_19 rfl ?_
  refine j_bipush C bp_m2 dX8_setLoads_20 ?_
  replace hf := bd hf
  obtain ⟨v4, h5, hf⟩ := hf
  refine j_callV C cl_X8_32 (c_X8_fail h5) ⟨Nat.le_of_ble_eq_true rfl, Nat.le_of_ble_eq_true rfl⟩ ⟨Nat.zero_le _, Nat.zero_le _⟩ (q0 := 19) rfl rfl rfl rfl (Nat.le_of_ble_eq_true rfl) rfl rfl wT_fst dX8_setLoads_22 ?_
  cases hf
  exact j_iret C dX8_setLoads_25
set_option maxRecDepth 100000 in
set_option maxHeartbeats 4000000 in
theorem c_X8_setLoads {l : Launch} {D : va_G} {cI cS : ClassId} {A : Nat → Prop} {a : Nat → Nat} {d o hh sl : Nat} {b : Nat → Nat → Nat} {rest : va_W}  {σ : Nat → Nat → Int32} {t : Nat → Int32} {h : Nat → Nat → Nat → Int32} {x1 : Int32} {x2 : Int32} {r : Int32 × (Nat → Nat → Int32) × (Nat → Int32) × (Nat → Nat → Nat → Int32)} (hf : f_X8_setLoads σ t h x1 x2 = some r) : CT l yX8_setLoads cX8_setLoads 4 (some .int) (rmF 5 149) D cI cS A [.ref o, .int x1, .int x2] (wT a d o hh sl b cI cS σ t h rest) (wT a d o hh sl b cI cS r.2.1 r.2.2.1 r.2.2.2 rest) (some (.int r.1)) := by
  refine CT_of (own := RX8) (xs := [some (.ref o), some (.int x1), some (.int x2), none]) (by decide) rfl (Nat.le_of_ble_eq_true rfl) rfl ?_
  intro p e s_ m below meth c C
  unfold f_X8_setLoads at hf
  refine j_iload_n C dX8_setLoads_0 rfl ?_
  refine j_iconst C ic_1 dX8_setLoads_1 ?_
  refine j_bipush C bp_32 dX8_setLoads_2 ?_
  replace hf := bd hf
  obtain ⟨v1, h2, hf⟩ := hf
  refine j_callS C cl_X8_28 (c_X8_isWithin h2) ⟨Nat.le_of_ble_eq_true rfl, Nat.le_of_ble_eq_true rfl⟩ ⟨Nat.zero_le _, Nat.zero_le _⟩ rfl (Nat.le_of_ble_eq_true rfl) rfl rfl rfl dX8_setLoads_4 ?_
  refine j_if_eq C (tgt := 19) (by decide) dX8_setLoads_7 (fun h3 => ?_) (fun h3 => ?_)
  · replace hf := it_t h3 hf
    refine j_weak [true, false, false, false] rfl ?_
    exact w_X8_setLoads_19 C  _ _ _ _ hf
  · replace hf := it_f h3 hf
    refine j_iload_n C dX8_setLoads_10 rfl ?_
    refine j_iconst C ic_0 dX8_setLoads_11 ?_
    refine j_iload_n C dX8_setLoads_12 rfl ?_
    replace hf := bd hf
    obtain ⟨v6, h7, hf⟩ := hf
    refine j_callS C cl_X8_28 (c_X8_isWithin h7) ⟨Nat.le_of_ble_eq_true rfl, Nat.le_of_ble_eq_true rfl⟩ ⟨Nat.zero_le _, Nat.zero_le _⟩ rfl (Nat.le_of_ble_eq_true rfl) rfl rfl rfl dX8_setLoads_13 ?_
    refine j_if_ne C (tgt := 26) (by decide) dX8_setLoads_16 (fun h8 => ?_) (fun h8 => ?_)
    · replace hf := it_f h8 hf
      refine j_aload_n C dX8_setLoads_26 rfl ?_
      refine j_getf C (q0 := 19) (ci := 8) (k := 2) inX8 rfl (by decide) tw_245 rfl rfl dX8_setLoads_27 ?_
      refine j_aload_n C dX8_setLoads_30 rfl ?_
      refine j_getf C (q0 := 19) (ci := 8) (k := 1) inX8 rfl (by decide) tw_244 rfl rfl dX8_setLoads_31 ?_
      replace hf := bd hf
      obtain ⟨v9, h10, hf⟩ := hf
      refine j_callV C cl_X8_48 (c_X2_save h10) ⟨Nat.le_of_ble_eq_true rfl, Nat.le_of_ble_eq_true rfl⟩ ⟨Nat.zero_le _, Nat.zero_le _⟩ (q0 := 20) rfl rfl rfl rfl (Nat.le_of_ble_eq_true rfl) rfl rfl wT_fst dX8_setLoads_34 ?_
      refine j_aload_n C dX8_setLoads_37 rfl ?_
      refine j_getf C (q0 := 19) (ci := 8) (k := 1) inX8 rfl (by decide) tw_244 rfl rfl dX8_setLoads_38 ?_
      refine gf_X8_74 C dX8_setLoads_41 ?_
      refine gf_X8_89 C dX8_setLoads_44 ?_
      refine j_istore_n C (xs' := [some (.ref o), some (.int x1), some (.int x2), some (.int (σ 0 4))]) dX8_setLoads_47 rfl rfl ?_
      refine j_aload_n C dX8_setLoads_48 rfl ?_
      refine j_getf C (q0 := 19) (ci := 8) (k := 1) inX8 rfl (by decide) tw_244 rfl rfl dX8_setLoads_49 ?_
      refine gf_X8_74 C dX8_setLoads_52 ?_
      refine j_iload_n C dX8_setLoads_55 rfl ?_
      refine pf_X8_92 C dX8_setLoads_56 ?_
      refine j_aload_n C dX8_setLoads_59 rfl ?_
      refine j_getf C (q0 := 19) (ci := 8) (k := 1) inX8 rfl (by decide) tw_244 rfl rfl dX8_setLoads_60 ?_
      refine gf_X8_74 C dX8_setLoads_63 ?_
      refine j_iload_n C dX8_setLoads_66 rfl ?_
      refine pf_X8_89 C dX8_setLoads_67 ?_
      refine j_iload_n C dX8_setLoads_70 rfl ?_
      cases hf
      exact j_iret C dX8_setLoads_71
    · replace hf := it_t h8 hf
      refine j_weak [true, false, false, false] rfl ?_
      exact w_X8_setLoads_19 C  _ _ _ _ hf
set_option maxRecDepth 100000 in
set_option maxHeartbeats 4000000 in
theorem c_X8_setSpeed {l : Launch} {D : va_G} {cI cS : ClassId} {A : Nat → Prop} {a : Nat → Nat} {d o hh sl : Nat} {b : Nat → Nat → Nat} {rest : va_W}  {σ : Nat → Nat → Int32} {t : Nat → Int32} {h : Nat → Nat → Nat → Int32} {x1 : Int32} {r : Int32 × (Nat → Nat → Int32) × (Nat → Int32) × (Nat → Nat → Nat → Int32)} (hf : f_X8_setSpeed σ t h x1 = some r) : CT l yX8_setSpeed cX8_setSpeed 3 (some .int) (rmF 5 149) D cI cS A [.ref o, .int x1] (wT a d o hh sl b cI cS σ t h rest) (wT a d o hh sl b cI cS r.2.1 r.2.2.1 r.2.2.2 rest) (some (.int r.1)) := by
  refine CT_of (own := RX8) (xs := [some (.ref o), some (.int x1), none]) (by decide) rfl (Nat.le_of_ble_eq_true rfl) rfl ?_
  intro p e s_ m below meth c C
  unfold f_X8_setSpeed at hf
  refine j_iload_n C dX8_setSpeed_0 rfl ?_
  refine j_iconst C ic_1 dX8_setSpeed_1 ?_
  refine j_bipush C bp_99 dX8_setSpeed_2 ?_
  replace hf := bd hf
  obtain ⟨v1, h2, hf⟩ := hf
  refine j_callS C cl_X8_28 (c_X8_isWithin h2) ⟨Nat.le_of_ble_eq_true rfl, Nat.le_of_ble_eq_true rfl⟩ ⟨Nat.zero_le _, Nat.zero_le _⟩ rfl (Nat.le_of_ble_eq_true rfl) rfl rfl rfl dX8_setSpeed_4 ?_
  refine j_if_ne C (tgt := 17) (by decide) dX8_setSpeed_7 (fun h3 => ?_) (fun h3 => ?_)
  · replace hf := it_f h3 hf
    refine j_aload_n C dX8_setSpeed_17 rfl ?_
    refine j_getf C (q0 := 19) (ci := 8) (k := 2) inX8 rfl (by decide) tw_245 rfl rfl dX8_setSpeed_18 ?_
    refine j_aload_n C dX8_setSpeed_21 rfl ?_
    refine j_getf C (q0 := 19) (ci := 8) (k := 1) inX8 rfl (by decide) tw_244 rfl rfl dX8_setSpeed_22 ?_
    replace hf := bd hf
    obtain ⟨v4, h5, hf⟩ := hf
    refine j_callV C cl_X8_48 (c_X2_save h5) ⟨Nat.le_of_ble_eq_true rfl, Nat.le_of_ble_eq_true rfl⟩ ⟨Nat.zero_le _, Nat.zero_le _⟩ (q0 := 20) rfl rfl rfl rfl (Nat.le_of_ble_eq_true rfl) rfl rfl wT_fst dX8_setSpeed_25 ?_
    refine j_aload_n C dX8_setSpeed_28 rfl ?_
    refine j_getf C (q0 := 19) (ci := 8) (k := 1) inX8 rfl (by decide) tw_244 rfl rfl dX8_setSpeed_29 ?_
    refine gf_X8_74 C dX8_setSpeed_32 ?_
    refine gf_X8_95 C dX8_setSpeed_35 ?_
    refine j_istore_n C (xs' := [some (.ref o), some (.int x1), some (.int (σ 0 5))]) dX8_setSpeed_38 rfl rfl ?_
    refine j_aload_n C dX8_setSpeed_39 rfl ?_
    refine j_getf C (q0 := 19) (ci := 8) (k := 1) inX8 rfl (by decide) tw_244 rfl rfl dX8_setSpeed_40 ?_
    refine gf_X8_74 C dX8_setSpeed_43 ?_
    refine j_iload_n C dX8_setSpeed_46 rfl ?_
    refine pf_X8_95 C dX8_setSpeed_47 ?_
    refine j_iload_n C dX8_setSpeed_50 rfl ?_
    cases hf
    exact j_iret C dX8_setSpeed_51
  · replace hf := it_t h3 hf
    refine j_aload_n C dX8_setSpeed_10 rfl ?_
    refine j_bipush C bp_m2 dX8_setSpeed_11 ?_
    replace hf := bd hf
    obtain ⟨v6, h7, hf⟩ := hf
    refine j_callV C cl_X8_32 (c_X8_fail h7) ⟨Nat.le_of_ble_eq_true rfl, Nat.le_of_ble_eq_true rfl⟩ ⟨Nat.zero_le _, Nat.zero_le _⟩ (q0 := 19) rfl rfl rfl rfl (Nat.le_of_ble_eq_true rfl) rfl rfl wT_fst dX8_setSpeed_13 ?_
    cases hf
    exact j_iret C dX8_setSpeed_16
set_option maxRecDepth 100000 in
set_option maxHeartbeats 4000000 in
theorem w_X8_put_17 {p : Program} {l : Launch} {e : Env} {s_ : State} {m : MethodId} {args : Array Value} {below : List Frame} {meth : Method} {c : Code} {D : va_G} {cI cS : ClassId} {A : Nat → Prop} {a : Nat → Nat} {d o hh sl : Nat} {b : Nat → Nat → Nat} {rest : va_W}  (C : cx p s_ m args meth c cX8_put 4 RX8 (some .int) D cI cS)  : ∀ (σ : Nat → Nat → Int32) (t : Nat → Int32) (h : Nat → Nat → Nat → Int32)  (r : Int32 × (Nat → Nat → Int32) × (Nat → Int32) × (Nat → Nat → Nat → Int32)), f_X8_put_17  σ t h = some r → jG p l e (rmF 5 149) s_ m args below meth c 4 D A (MQ below (QW D A (wT a d o hh sl b cI cS r.2.1 r.2.2.1 r.2.2.2 rest) (some (.int r.1))) args s_ 0 0 A) (wT a d o hh sl b cI cS σ t h rest) [some (.ref o), none, none, none] 17 [] := by
  intro σ t h r hf
  unfold f_X8_put_17 at hf
  refine j_aload_n C dX8_put_17 rfl ?_
  refine j_bipush C bp_m2 dX8_put_18 ?_
  replace hf := bd hf
  obtain ⟨v4, h5, hf⟩ := hf
  refine j_callV C cl_X8_32 (c_X8_fail h5) ⟨Nat.le_of_ble_eq_true rfl, Nat.le_of_ble_eq_true rfl⟩ ⟨Nat.zero_le _, Nat.zero_le _⟩ (q0 := 19) rfl rfl rfl rfl (Nat.le_of_ble_eq_true rfl) rfl rfl wT_fst dX8_put_20 ?_
  cases hf
  exact j_iret C dX8_put_23
set_option maxRecDepth 100000 in
set_option maxHeartbeats 4000000 in
theorem w_X8_put_62 {p : Program} {l : Launch} {e : Env} {s_ : State} {m : MethodId} {args : Array Value} {below : List Frame} {meth : Method} {c : Code} {D : va_G} {cI cS : ClassId} {A : Nat → Prop} {a : Nat → Nat} {d o hh sl : Nat} {b : Nat → Nat → Nat} {rest : va_W}  (C : cx p s_ m args meth c cX8_put 4 RX8 (some .int) D cI cS)  : ∀ (σ : Nat → Nat → Int32) (t : Nat → Int32) (h : Nat → Nat → Nat → Int32) (x1 : Int32) (x2 : Int32) (x3 : Int32) (r : Int32 × (Nat → Nat → Int32) × (Nat → Int32) × (Nat → Nat → Nat → Int32)), f_X8_put_62  σ t h x1 x2 x3 = some r → jG p l e (rmF 5 149) s_ m args below meth c 4 D A (MQ below (QW D A (wT a d o hh sl b cI cS r.2.1 r.2.2.1 r.2.2.2 rest) (some (.int r.1))) args s_ 0 0 A) (wT a d o hh sl b cI cS σ t h rest) [some (.ref o), some (.int x1), some (.int x2), some (.int x3)] 62 [] := by
  intro σ t h x1 x2 x3 r hf
  unfold f_X8_put_62 at hf
  refine j_aload_n C dX8_put_62 rfl ?_
  refine j_getf C (q0 := 19) (ci := 8) (k := 2) inX8 rfl (by decide) tw_245 rfl rfl dX8_put_63 ?_
  refine j_aload_n C dX8_put_66 rfl ?_
  refine j_getf C (q0 := 19) (ci := 8) (k := 1) inX8 rfl (by decide) tw_244 rfl rfl dX8_put_67 ?_
  replace hf := bd hf
  obtain ⟨v12, h13, hf⟩ := hf
  refine j_callV C cl_X8_48 (c_X2_save h13) ⟨Nat.le_of_ble_eq_true rfl, Nat.le_of_ble_eq_true rfl⟩ ⟨Nat.zero_le _, Nat.zero_le _⟩ (q0 := 20) rfl rfl rfl rfl (Nat.le_of_ble_eq_true rfl) rfl rfl wT_fst dX8_put_70 ?_
  refine j_aload_n C dX8_put_73 rfl ?_
  refine j_getf C (q0 := 19) (ci := 8) (k := 1) inX8 rfl (by decide) tw_244 rfl rfl dX8_put_74 ?_
  refine gf_X8_101 C dX8_put_77 ?_
  refine j_iload_n C dX8_put_80 rfl ?_
  refine j_iload_n C dX8_put_81 rfl ?_
  replace hf := bd hf
  obtain ⟨v14, h15, hf⟩ := hf
  refine j_callV C cl_X8_111 (c_X3_store h15) ⟨Nat.le_of_ble_eq_true rfl, Nat.le_of_ble_eq_true rfl⟩ ⟨Nat.zero_le _, Nat.zero_le _⟩ (q0 := 4) rfl rfl rfl rfl (Nat.le_of_ble_eq_true rfl) rfl rfl wC_fst dX8_put_82 ?_
  refine j_iload_n C dX8_put_85 rfl ?_
  cases hf
  exact j_iret C dX8_put_86
set_option maxRecDepth 100000 in
set_option maxHeartbeats 4000000 in
theorem c_X8_put {l : Launch} {D : va_G} {cI cS : ClassId} {A : Nat → Prop} {a : Nat → Nat} {d o hh sl : Nat} {b : Nat → Nat → Nat} {rest : va_W}  {σ : Nat → Nat → Int32} {t : Nat → Int32} {h : Nat → Nat → Nat → Int32} {x1 : Int32} {x2 : Int32} {r : Int32 × (Nat → Nat → Int32) × (Nat → Int32) × (Nat → Nat → Nat → Int32)} (hf : f_X8_put σ t h x1 x2 = some r) : CT l yX8_put cX8_put 4 (some .int) (rmF 5 149) D cI cS A [.ref o, .int x1, .int x2] (wT a d o hh sl b cI cS σ t h rest) (wT a d o hh sl b cI cS r.2.1 r.2.2.1 r.2.2.2 rest) (some (.int r.1)) := by
  refine CT_of (own := RX8) (xs := [some (.ref o), some (.int x1), some (.int x2), none]) (by decide) rfl (Nat.le_of_ble_eq_true rfl) rfl ?_
  intro p e s_ m below meth c C
  unfold f_X8_put at hf
  refine j_iload_n C dX8_put_0 rfl ?_
  replace hf := bd hf
  obtain ⟨v1, h2, hf⟩ := hf
  refine j_callS C cl_X8_98 (c_X8_isKey h2) ⟨Nat.le_of_ble_eq_true rfl, Nat.le_of_ble_eq_true rfl⟩ ⟨Nat.zero_le _, Nat.zero_le _⟩ rfl (Nat.le_of_ble_eq_true rfl) rfl rfl rfl dX8_put_1 ?_
  refine j_if_eq C (tgt := 17) (by decide) dX8_put_4 (fun h3 => ?_) (fun h3 => ?_)
  · replace hf := it_t h3 hf
    refine j_weak [true, false, false, false] rfl ?_
    exact w_X8_put_17 C  _ _ _ _ hf
  · replace hf := it_f h3 hf
    refine j_iload_n C dX8_put_7 rfl ?_
    refine j_iconst C ic_1 dX8_put_8 ?_
    refine j_bipush C bp_99 dX8_put_9 ?_
    replace hf := bd hf
    obtain ⟨v6, h7, hf⟩ := hf
    refine j_callS C cl_X8_28 (c_X8_isWithin h7) ⟨Nat.le_of_ble_eq_true rfl, Nat.le_of_ble_eq_true rfl⟩ ⟨Nat.zero_le _, Nat.zero_le _⟩ rfl (Nat.le_of_ble_eq_true rfl) rfl rfl rfl dX8_put_11 ?_
    refine j_if_ne C (tgt := 24) (by decide) dX8_put_14 (fun h8 => ?_) (fun h8 => ?_)
    · replace hf := it_f h8 hf
      refine j_aload_n C dX8_put_24 rfl ?_
      refine j_getf C (q0 := 19) (ci := 8) (k := 1) inX8 rfl (by decide) tw_244 rfl rfl dX8_put_25 ?_
      refine gf_X8_101 C dX8_put_28 ?_
      refine j_iload_n C dX8_put_31 rfl ?_
      replace hf := bd hf
      obtain ⟨v9, h10, hf⟩ := hf
      refine j_callV C cl_X8_105 (c_X3_sizeAt h10) ⟨Nat.le_of_ble_eq_true rfl, Nat.le_of_ble_eq_true rfl⟩ ⟨Nat.zero_le _, Nat.zero_le _⟩ (q0 := 4) rfl rfl rfl rfl (Nat.le_of_ble_eq_true rfl) rfl rfl rfl dX8_put_32 ?_
      refine j_istore_n C (xs' := [some (.ref o), some (.int x1), some (.int x2), some (.int v9)]) dX8_put_35 rfl rfl ?_
      refine j_iload_n C dX8_put_36 rfl ?_
      refine j_if_ne C (tgt := 62) (by decide) dX8_put_37 (fun h11 => ?_) (fun h11 => ?_)
      · replace hf := it_f h11 hf
        exact w_X8_put_62 C  _ _ _ _ _ _ _ hf
      · replace hf := it_t h11 hf
        refine j_aload_n C dX8_put_40 rfl ?_
        refine j_getf C (q0 := 19) (ci := 8) (k := 1) inX8 rfl (by decide) tw_244 rfl rfl dX8_put_41 ?_
        refine gf_X8_101 C dX8_put_44 ?_
        refine gf_X8_110 C dX8_put_47 ?_
        refine j_bipush C bp_64 dX8_put_50 ?_
        refine j_icmp_lt C (tgt := 62) (by decide) dX8_put_52 (fun h16 => ?_) (fun h16 => ?_)
        · replace hf := it_t h16 hf
          exact w_X8_put_62 C  _ _ _ _ _ _ _ hf
        · replace hf := it_f h16 hf
          refine j_aload_n C dX8_put_55 rfl ?_
          refine j_bipush C bp_m4 dX8_put_56 ?_
          replace hf := bd hf
          obtain ⟨v17, h18, hf⟩ := hf
          refine j_callV C cl_X8_32 (c_X8_fail h18) ⟨Nat.le_of_ble_eq_true rfl, Nat.le_of_ble_eq_true rfl⟩ ⟨Nat.zero_le _, Nat.zero_le _⟩ (q0 := 19) rfl rfl rfl rfl (Nat.le_of_ble_eq_true rfl) rfl rfl wT_fst dX8_put_58 ?_
          cases hf
          exact j_iret C dX8_put_61
    · replace hf := it_t h8 hf
      refine j_weak [true, false, false, false] rfl ?_
      exact w_X8_put_17 C  _ _ _ _ hf
set_option maxRecDepth 100000 in
set_option maxHeartbeats 4000000 in
theorem c_X8_remove {l : Launch} {D : va_G} {cI cS : ClassId} {A : Nat → Prop} {a : Nat → Nat} {d o hh sl : Nat} {b : Nat → Nat → Nat} {rest : va_W}  {σ : Nat → Nat → Int32} {t : Nat → Int32} {h : Nat → Nat → Nat → Int32} {x1 : Int32} {r : Int32 × (Nat → Nat → Int32) × (Nat → Int32) × (Nat → Nat → Nat → Int32)} (hf : f_X8_remove σ t h x1 = some r) : CT l yX8_remove cX8_remove 3 (some .int) (rmF 5 149) D cI cS A [.ref o, .int x1] (wT a d o hh sl b cI cS σ t h rest) (wT a d o hh sl b cI cS r.2.1 r.2.2.1 r.2.2.2 rest) (some (.int r.1)) := by
  refine CT_of (own := RX8) (xs := [some (.ref o), some (.int x1), none]) (by decide) rfl (Nat.le_of_ble_eq_true rfl) rfl ?_
  intro p e s_ m below meth c C
  unfold f_X8_remove at hf
  refine j_iload_n C dX8_remove_0 rfl ?_
  replace hf := bd hf
  obtain ⟨v1, h2, hf⟩ := hf
  refine j_callS C cl_X8_98 (c_X8_isKey h2) ⟨Nat.le_of_ble_eq_true rfl, Nat.le_of_ble_eq_true rfl⟩ ⟨Nat.zero_le _, Nat.zero_le _⟩ rfl (Nat.le_of_ble_eq_true rfl) rfl rfl rfl dX8_remove_1 ?_
  refine j_if_ne C (tgt := 14) (by decide) dX8_remove_4 (fun h3 => ?_) (fun h3 => ?_)
  · replace hf := it_f h3 hf
    refine j_aload_n C dX8_remove_14 rfl ?_
    refine j_getf C (q0 := 19) (ci := 8) (k := 1) inX8 rfl (by decide) tw_244 rfl rfl dX8_remove_15 ?_
    refine gf_X8_101 C dX8_remove_18 ?_
    refine j_iload_n C dX8_remove_21 rfl ?_
    replace hf := bd hf
    obtain ⟨v4, h5, hf⟩ := hf
    refine j_callV C cl_X8_105 (c_X3_sizeAt h5) ⟨Nat.le_of_ble_eq_true rfl, Nat.le_of_ble_eq_true rfl⟩ ⟨Nat.zero_le _, Nat.zero_le _⟩ (q0 := 4) rfl rfl rfl rfl (Nat.le_of_ble_eq_true rfl) rfl rfl rfl dX8_remove_22 ?_
    refine j_istore_n C (xs' := [some (.ref o), some (.int x1), some (.int v4)]) dX8_remove_25 rfl rfl ?_
    refine j_iload_n C dX8_remove_26 rfl ?_
    refine j_if_ne C (tgt := 37) (by decide) dX8_remove_27 (fun h6 => ?_) (fun h6 => ?_)
    · replace hf := it_f h6 hf
      refine j_aload_n C dX8_remove_37 rfl ?_
      refine j_getf C (q0 := 19) (ci := 8) (k := 2) inX8 rfl (by decide) tw_245 rfl rfl dX8_remove_38 ?_
      refine j_aload_n C dX8_remove_41 rfl ?_
      refine j_getf C (q0 := 19) (ci := 8) (k := 1) inX8 rfl (by decide) tw_244 rfl rfl dX8_remove_42 ?_
      replace hf := bd hf
      obtain ⟨v7, h8, hf⟩ := hf
      refine j_callV C cl_X8_48 (c_X2_save h8) ⟨Nat.le_of_ble_eq_true rfl, Nat.le_of_ble_eq_true rfl⟩ ⟨Nat.zero_le _, Nat.zero_le _⟩ (q0 := 20) rfl rfl rfl rfl (Nat.le_of_ble_eq_true rfl) rfl rfl wT_fst dX8_remove_45 ?_
      refine j_aload_n C dX8_remove_48 rfl ?_
      refine j_getf C (q0 := 19) (ci := 8) (k := 1) inX8 rfl (by decide) tw_244 rfl rfl dX8_remove_49 ?_
      refine gf_X8_101 C dX8_remove_52 ?_
      refine j_iload_n C dX8_remove_55 rfl ?_
      replace hf := bd hf
      obtain ⟨v9, h10, hf⟩ := hf
      refine j_callV C cl_X8_115 (c_X3_erase h10) ⟨Nat.le_of_ble_eq_true rfl, Nat.le_of_ble_eq_true rfl⟩ ⟨Nat.zero_le _, Nat.zero_le _⟩ (q0 := 4) rfl rfl rfl rfl (Nat.le_of_ble_eq_true rfl) rfl rfl wC_fst dX8_remove_56 ?_
      refine j_iload_n C dX8_remove_59 rfl ?_
      cases hf
      exact j_iret C dX8_remove_60
    · replace hf := it_t h6 hf
      refine j_aload_n C dX8_remove_30 rfl ?_
      refine j_bipush C bp_m3 dX8_remove_31 ?_
      replace hf := bd hf
      obtain ⟨v11, h12, hf⟩ := hf
      refine j_callV C cl_X8_32 (c_X8_fail h12) ⟨Nat.le_of_ble_eq_true rfl, Nat.le_of_ble_eq_true rfl⟩ ⟨Nat.zero_le _, Nat.zero_le _⟩ (q0 := 19) rfl rfl rfl rfl (Nat.le_of_ble_eq_true rfl) rfl rfl wT_fst dX8_remove_33 ?_
      cases hf
      exact j_iret C dX8_remove_36
  · replace hf := it_t h3 hf
    refine j_aload_n C dX8_remove_7 rfl ?_
    refine j_bipush C bp_m2 dX8_remove_8 ?_
    replace hf := bd hf
    obtain ⟨v13, h14, hf⟩ := hf
    refine j_callV C cl_X8_32 (c_X8_fail h14) ⟨Nat.le_of_ble_eq_true rfl, Nat.le_of_ble_eq_true rfl⟩ ⟨Nat.zero_le _, Nat.zero_le _⟩ (q0 := 19) rfl rfl rfl rfl (Nat.le_of_ble_eq_true rfl) rfl rfl wT_fst dX8_remove_10 ?_
    cases hf
    exact j_iret C dX8_remove_13
set_option maxRecDepth 100000 in
set_option maxHeartbeats 4000000 in
theorem c_X8_access {l : Launch} {D : va_G} {cI cS : ClassId} {A : Nat → Prop} {a : Nat → Nat} {d o hh sl : Nat} {b : Nat → Nat → Nat} {rest : va_W}  {σ : Nat → Nat → Int32} {t : Nat → Int32} {h : Nat → Nat → Nat → Int32} {x1 : Int32} {r : Int32 × (Nat → Nat → Int32) × (Nat → Int32) × (Nat → Nat → Nat → Int32)} (hf : f_X8_access σ t h x1 = some r) : CT l yX8_access cX8_access 2 (some .int) (rmF 5 149) D cI cS A [.ref o, .int x1] (wT a d o hh sl b cI cS σ t h rest) (wT a d o hh sl b cI cS r.2.1 r.2.2.1 r.2.2.2 rest) (some (.int r.1)) := by
  refine CT_of (own := RX8) (xs := [some (.ref o), some (.int x1)]) (by decide) rfl (Nat.le_of_ble_eq_true rfl) rfl ?_
  intro p e s_ m below meth c C
  unfold f_X8_access at hf
  refine j_iload_n C dX8_access_0 rfl ?_
  replace hf := bd hf
  obtain ⟨v1, h2, hf⟩ := hf
  refine j_callS C cl_X8_98 (c_X8_isKey h2) ⟨Nat.le_of_ble_eq_true rfl, Nat.le_of_ble_eq_true rfl⟩ ⟨Nat.zero_le _, Nat.zero_le _⟩ rfl (Nat.le_of_ble_eq_true rfl) rfl rfl rfl dX8_access_1 ?_
  refine j_if_ne C (tgt := 14) (by decide) dX8_access_4 (fun h3 => ?_) (fun h3 => ?_)
  · replace hf := it_f h3 hf
    refine j_aload_n C dX8_access_14 rfl ?_
    refine j_getf C (q0 := 19) (ci := 8) (k := 2) inX8 rfl (by decide) tw_245 rfl rfl dX8_access_15 ?_
    refine j_aload_n C dX8_access_18 rfl ?_
    refine j_getf C (q0 := 19) (ci := 8) (k := 1) inX8 rfl (by decide) tw_244 rfl rfl dX8_access_19 ?_
    replace hf := bd hf
    obtain ⟨v4, h5, hf⟩ := hf
    refine j_callV C cl_X8_48 (c_X2_save h5) ⟨Nat.le_of_ble_eq_true rfl, Nat.le_of_ble_eq_true rfl⟩ ⟨Nat.zero_le _, Nat.zero_le _⟩ (q0 := 20) rfl rfl rfl rfl (Nat.le_of_ble_eq_true rfl) rfl rfl wT_fst dX8_access_22 ?_
    refine j_aload_n C dX8_access_25 rfl ?_
    refine j_getf C (q0 := 19) (ci := 8) (k := 1) inX8 rfl (by decide) tw_244 rfl rfl dX8_access_26 ?_
    refine gf_X8_118 C dX8_access_29 ?_
    refine j_iload_n C dX8_access_32 rfl ?_
    replace hf := bd hf
    obtain ⟨v6, h7, hf⟩ := hf
    refine j_callV C cl_X8_122 (c_X6_append h7) ⟨Nat.le_of_ble_eq_true rfl, Nat.le_of_ble_eq_true rfl⟩ ⟨Nat.zero_le _, Nat.zero_le _⟩ (q0 := 5) rfl rfl rfl rfl (Nat.le_of_ble_eq_true rfl) rfl rfl wC_fst dX8_access_33 ?_
    refine j_aload_n C dX8_access_36 rfl ?_
    refine j_getf C (q0 := 19) (ci := 8) (k := 1) inX8 rfl (by decide) tw_244 rfl rfl dX8_access_37 ?_
    refine gf_X8_126 C dX8_access_40 ?_
    refine gf_X8_130 C dX8_access_43 ?_
    refine j_aload_n C dX8_access_46 rfl ?_
    refine j_getf C (q0 := 19) (ci := 8) (k := 1) inX8 rfl (by decide) tw_244 rfl rfl dX8_access_47 ?_
    refine gf_X8_126 C dX8_access_50 ?_
    refine j_iload_n C dX8_access_53 rfl ?_
    replace hf := bd hf
    obtain ⟨v8, h9, hf⟩ := hf
    refine j_callV C cl_X8_136 (c_X5_holding h9) ⟨Nat.le_of_ble_eq_true rfl, Nat.le_of_ble_eq_true rfl⟩ ⟨Nat.zero_le _, Nat.zero_le _⟩ (q0 := 3) rfl rfl rfl rfl (Nat.le_of_ble_eq_true rfl) rfl rfl rfl dX8_access_54 ?_
    replace hf := ld_s hf
    obtain ⟨v10, h11, e_v10, hf⟩ := hf
    refine aLC_11 C h11 e_v10 dX8_access_57 ?_
    cases hf
    exact j_iret C dX8_access_58
  · replace hf := it_t h3 hf
    refine j_aload_n C dX8_access_7 rfl ?_
    refine j_bipush C bp_m2 dX8_access_8 ?_
    replace hf := bd hf
    obtain ⟨v12, h13, hf⟩ := hf
    refine j_callV C cl_X8_32 (c_X8_fail h13) ⟨Nat.le_of_ble_eq_true rfl, Nat.le_of_ble_eq_true rfl⟩ ⟨Nat.zero_le _, Nat.zero_le _⟩ (q0 := 19) rfl rfl rfl rfl (Nat.le_of_ble_eq_true rfl) rfl rfl wT_fst dX8_access_10 ?_
    cases hf
    exact j_iret C dX8_access_13
set_option maxRecDepth 100000 in
set_option maxHeartbeats 4000000 in
theorem w_X8_splitAt_56 {p : Program} {l : Launch} {e : Env} {s_ : State} {m : MethodId} {args : Array Value} {below : List Frame} {meth : Method} {c : Code} {D : va_G} {cI cS : ClassId} {A : Nat → Prop} {a : Nat → Nat} {d o hh sl : Nat} {b : Nat → Nat → Nat} {rest : va_W}  (C : cx p s_ m args meth c cX8_splitAt 3 RX8 (some .int) D cI cS)  : ∀ (σ : Nat → Nat → Int32) (t : Nat → Int32) (h : Nat → Nat → Nat → Int32)  (r : Int32 × (Nat → Nat → Int32) × (Nat → Int32) × (Nat → Nat → Nat → Int32)), f_X8_splitAt_56  σ t h = some r → jG p l e (rmF 5 149) s_ m args below meth c 3 D A (MQ below (QW D A (wT a d o hh sl b cI cS r.2.1 r.2.2.1 r.2.2.2 rest) (some (.int r.1))) args s_ 0 0 A) (wT a d o hh sl b cI cS σ t h rest) [some (.ref o), none, none] 56 [] := by
  intro σ t h r hf
  unfold f_X8_splitAt_56 at hf
  refine j_aload_n C dX8_splitAt_56 rfl ?_
  refine j_bipush C bp_m3 dX8_splitAt_57 ?_
  replace hf := bd hf
  obtain ⟨v9, h10, hf⟩ := hf
  refine j_callV C cl_X8_32 (c_X8_fail h10) ⟨Nat.le_of_ble_eq_true rfl, Nat.le_of_ble_eq_true rfl⟩ ⟨Nat.zero_le _, Nat.zero_le _⟩ (q0 := 19) rfl rfl rfl rfl (Nat.le_of_ble_eq_true rfl) rfl rfl wT_fst dX8_splitAt_59 ?_
  cases hf
  exact j_iret C dX8_splitAt_62
set_option maxRecDepth 100000 in
set_option maxHeartbeats 4000000 in
theorem c_X8_splitAt {l : Launch} {D : va_G} {cI cS : ClassId} {A : Nat → Prop} {a : Nat → Nat} {d o hh sl : Nat} {b : Nat → Nat → Nat} {rest : va_W}  {σ : Nat → Nat → Int32} {t : Nat → Int32} {h : Nat → Nat → Nat → Int32} {x1 : Int32} {r : Int32 × (Nat → Nat → Int32) × (Nat → Int32) × (Nat → Nat → Nat → Int32)} (hf : f_X8_splitAt σ t h x1 = some r) : CT l yX8_splitAt cX8_splitAt 3 (some .int) (rmF 5 149) D cI cS A [.ref o, .int x1] (wT a d o hh sl b cI cS σ t h rest) (wT a d o hh sl b cI cS r.2.1 r.2.2.1 r.2.2.2 rest) (some (.int r.1)) := by
  refine CT_of (own := RX8) (xs := [some (.ref o), some (.int x1), none]) (by decide) rfl (Nat.le_of_ble_eq_true rfl) rfl ?_
  intro p e s_ m below meth c C
  unfold f_X8_splitAt at hf
  refine j_iload_n C dX8_splitAt_0 rfl ?_
  replace hf := bd hf
  obtain ⟨v1, h2, hf⟩ := hf
  refine j_callS C cl_X8_98 (c_X8_isKey h2) ⟨Nat.le_of_ble_eq_true rfl, Nat.le_of_ble_eq_true rfl⟩ ⟨Nat.zero_le _, Nat.zero_le _⟩ rfl (Nat.le_of_ble_eq_true rfl) rfl rfl rfl dX8_splitAt_1 ?_
  refine j_if_ne C (tgt := 14) (by decide) dX8_splitAt_4 (fun h3 => ?_) (fun h3 => ?_)
  · replace hf := it_f h3 hf
    refine j_aload_n C dX8_splitAt_14 rfl ?_
    refine j_getf C (q0 := 19) (ci := 8) (k := 1) inX8 rfl (by decide) tw_244 rfl rfl dX8_splitAt_15 ?_
    refine gf_X8_126 C dX8_splitAt_18 ?_
    refine j_iload_n C dX8_splitAt_21 rfl ?_
    replace hf := bd hf
    obtain ⟨v4, h5, hf⟩ := hf
    refine j_callV C cl_X8_136 (c_X5_holding h5) ⟨Nat.le_of_ble_eq_true rfl, Nat.le_of_ble_eq_true rfl⟩ ⟨Nat.zero_le _, Nat.zero_le _⟩ (q0 := 3) rfl rfl rfl rfl (Nat.le_of_ble_eq_true rfl) rfl rfl rfl dX8_splitAt_22 ?_
    refine j_istore_n C (xs' := [some (.ref o), some (.int x1), some (.int v4)]) dX8_splitAt_25 rfl rfl ?_
    refine j_aload_n C dX8_splitAt_26 rfl ?_
    refine j_getf C (q0 := 19) (ci := 8) (k := 1) inX8 rfl (by decide) tw_244 rfl rfl dX8_splitAt_27 ?_
    refine gf_X8_126 C dX8_splitAt_30 ?_
    refine gf_X8_139 C dX8_splitAt_33 ?_
    refine j_iload_n C dX8_splitAt_36 rfl ?_
    replace hf := ld_s hf
    obtain ⟨v6, h7, e_v6, hf⟩ := hf
    refine aLC_9 C h7 e_v6 dX8_splitAt_37 ?_
    refine j_iload_n C dX8_splitAt_38 rfl ?_
    refine j_icmp_eq C (tgt := 56) (by decide) dX8_splitAt_39 (fun h8 => ?_) (fun h8 => ?_)
    · replace hf := it_t h8 hf
      refine j_weak [true, false, false] rfl ?_
      exact w_X8_splitAt_56 C  _ _ _ _ hf
    · replace hf := it_f h8 hf
      refine j_aload_n C dX8_splitAt_42 rfl ?_
      refine j_getf C (q0 := 19) (ci := 8) (k := 1) inX8 rfl (by decide) tw_244 rfl rfl dX8_splitAt_43 ?_
      refine gf_X8_126 C dX8_splitAt_46 ?_
      refine j_iload_n C dX8_splitAt_49 rfl ?_
      replace hf := bd hf
      obtain ⟨v11, h12, hf⟩ := hf
      refine j_callV C cl_X8_142 (c_X5_hasLearner h12) ⟨Nat.le_of_ble_eq_true rfl, Nat.le_of_ble_eq_true rfl⟩ ⟨Nat.zero_le _, Nat.zero_le _⟩ (q0 := 3) rfl rfl rfl rfl (Nat.le_of_ble_eq_true rfl) rfl rfl rfl dX8_splitAt_50 ?_
      refine j_if_eq C (tgt := 63) (by decide) dX8_splitAt_53 (fun h13 => ?_) (fun h13 => ?_)
      · replace hf := it_t h13 hf
        refine j_aload_n C dX8_splitAt_63 rfl ?_
        refine j_getf C (q0 := 19) (ci := 8) (k := 1) inX8 rfl (by decide) tw_244 rfl rfl dX8_splitAt_64 ?_
        refine gf_X8_126 C dX8_splitAt_67 ?_
        replace hf := bd hf
        obtain ⟨v14, h15, hf⟩ := hf
        refine j_callV C cl_X8_145 (c_X5_isFull h15) ⟨Nat.le_of_ble_eq_true rfl, Nat.le_of_ble_eq_true rfl⟩ ⟨Nat.zero_le _, Nat.zero_le _⟩ (q0 := 3) rfl rfl rfl rfl (Nat.le_of_ble_eq_true rfl) rfl rfl rfl dX8_splitAt_70 ?_
        refine j_if_eq C (tgt := 83) (by decide) dX8_splitAt_73 (fun h16 => ?_) (fun h16 => ?_)
        · replace hf := it_t h16 hf
          refine j_aload_n C dX8_splitAt_83 rfl ?_
          refine j_getf C (q0 := 19) (ci := 8) (k := 2) inX8 rfl (by decide) tw_245 rfl rfl dX8_splitAt_84 ?_
          refine j_aload_n C dX8_splitAt_87 rfl ?_
          refine j_getf C (q0 := 19) (ci := 8) (k := 1) inX8 rfl (by decide) tw_244 rfl rfl dX8_splitAt_88 ?_
          replace hf := bd hf
          obtain ⟨v17, h18, hf⟩ := hf
          refine j_callV C cl_X8_48 (c_X2_save h18) ⟨Nat.le_of_ble_eq_true rfl, Nat.le_of_ble_eq_true rfl⟩ ⟨Nat.zero_le _, Nat.zero_le _⟩ (q0 := 20) rfl rfl rfl rfl (Nat.le_of_ble_eq_true rfl) rfl rfl wT_fst dX8_splitAt_91 ?_
          refine j_aload_n C dX8_splitAt_94 rfl ?_
          refine j_getf C (q0 := 19) (ci := 8) (k := 1) inX8 rfl (by decide) tw_244 rfl rfl dX8_splitAt_95 ?_
          refine gf_X8_126 C dX8_splitAt_98 ?_
          refine j_iload_n C dX8_splitAt_101 rfl ?_
          refine j_iload_n C dX8_splitAt_102 rfl ?_
          replace hf := bd hf
          obtain ⟨v19, h20, hf⟩ := hf
          refine j_callV C cl_X8_149 (c_X5_divide h20) ⟨Nat.le_of_ble_eq_true rfl, Nat.le_of_ble_eq_true rfl⟩ ⟨Nat.zero_le _, Nat.zero_le _⟩ (q0 := 3) rfl rfl rfl rfl (Nat.le_of_ble_eq_true rfl) rfl rfl wC_fst dX8_splitAt_103 ?_
          refine j_iload_n C dX8_splitAt_106 rfl ?_
          refine j_iconst C ic_1 dX8_splitAt_107 ?_
          refine j_iadd C dX8_splitAt_108 ?_
          cases hf
          exact j_iret C dX8_splitAt_109
        · replace hf := it_f h16 hf
          refine j_aload_n C dX8_splitAt_76 rfl ?_
          refine j_bipush C bp_m4 dX8_splitAt_77 ?_
          replace hf := bd hf
          obtain ⟨v21, h22, hf⟩ := hf
          refine j_callV C cl_X8_32 (c_X8_fail h22) ⟨Nat.le_of_ble_eq_true rfl, Nat.le_of_ble_eq_true rfl⟩ ⟨Nat.zero_le _, Nat.zero_le _⟩ (q0 := 19) rfl rfl rfl rfl (Nat.le_of_ble_eq_true rfl) rfl rfl wT_fst dX8_splitAt_79 ?_
          cases hf
          exact j_iret C dX8_splitAt_82
      · replace hf := it_f h13 hf
        refine j_weak [true, false, false] rfl ?_
        exact w_X8_splitAt_56 C  _ _ _ _ hf
  · replace hf := it_t h3 hf
    refine j_aload_n C dX8_splitAt_7 rfl ?_
    refine j_bipush C bp_m2 dX8_splitAt_8 ?_
    replace hf := bd hf
    obtain ⟨v23, h24, hf⟩ := hf
    refine j_callV C cl_X8_32 (c_X8_fail h24) ⟨Nat.le_of_ble_eq_true rfl, Nat.le_of_ble_eq_true rfl⟩ ⟨Nat.zero_le _, Nat.zero_le _⟩ (q0 := 19) rfl rfl rfl rfl (Nat.le_of_ble_eq_true rfl) rfl rfl wT_fst dX8_splitAt_10 ?_
    cases hf
    exact j_iret C dX8_splitAt_13
set_option maxRecDepth 100000 in
set_option maxHeartbeats 4000000 in
theorem c_X8_sizeOf {l : Launch} {D : va_G} {cI cS : ClassId} {A : Nat → Prop} {a : Nat → Nat} {d o hh sl : Nat} {b : Nat → Nat → Nat} {rest : va_W}  {σ : Nat → Nat → Int32} {t : Nat → Int32} {h : Nat → Nat → Nat → Int32} {x1 : Int32} {r : Int32 × (Nat → Int32)} (hf : f_X8_sizeOf σ t h x1 = some r) : CT l yX8_sizeOf cX8_sizeOf 2 (some .int) (rmF 2 44) D cI cS A [.ref o, .int x1] (wT a d o hh sl b cI cS σ t h rest) (wT a d o hh sl b cI cS σ r.2 h rest) (some (.int r.1)) := by
  refine CT_of (own := RX8) (xs := [some (.ref o), some (.int x1)]) (by decide) rfl (Nat.le_of_ble_eq_true rfl) rfl ?_
  intro p e s_ m below meth c C
  unfold f_X8_sizeOf at hf
  refine j_iload_n C dX8_sizeOf_0 rfl ?_
  replace hf := bd hf
  obtain ⟨v1, h2, hf⟩ := hf
  refine j_callS C cl_X8_98 (c_X8_isKey h2) ⟨Nat.le_of_ble_eq_true rfl, Nat.le_of_ble_eq_true rfl⟩ ⟨Nat.zero_le _, Nat.zero_le _⟩ rfl (Nat.le_of_ble_eq_true rfl) rfl rfl rfl dX8_sizeOf_1 ?_
  refine j_if_ne C (tgt := 14) (by decide) dX8_sizeOf_4 (fun h3 => ?_) (fun h3 => ?_)
  · replace hf := it_f h3 hf
    refine j_aload_n C dX8_sizeOf_14 rfl ?_
    refine j_getf C (q0 := 19) (ci := 8) (k := 1) inX8 rfl (by decide) tw_244 rfl rfl dX8_sizeOf_15 ?_
    refine gf_X8_101 C dX8_sizeOf_18 ?_
    refine j_iload_n C dX8_sizeOf_21 rfl ?_
    replace hf := bd hf
    obtain ⟨v4, h5, hf⟩ := hf
    refine j_callV C cl_X8_105 (c_X3_sizeAt h5) ⟨Nat.le_of_ble_eq_true rfl, Nat.le_of_ble_eq_true rfl⟩ ⟨Nat.zero_le _, Nat.zero_le _⟩ (q0 := 4) rfl rfl rfl rfl (Nat.le_of_ble_eq_true rfl) rfl rfl rfl dX8_sizeOf_22 ?_
    cases hf
    exact j_iret C dX8_sizeOf_25
  · replace hf := it_t h3 hf
    refine j_aload_n C dX8_sizeOf_7 rfl ?_
    refine j_bipush C bp_m2 dX8_sizeOf_8 ?_
    replace hf := bd hf
    obtain ⟨v6, h7, hf⟩ := hf
    refine j_callV C cl_X8_32 (c_X8_fail h7) ⟨Nat.le_of_ble_eq_true rfl, Nat.le_of_ble_eq_true rfl⟩ ⟨Nat.zero_le _, Nat.zero_le _⟩ (q0 := 19) rfl rfl rfl rfl (Nat.le_of_ble_eq_true rfl) rfl rfl wT_fst dX8_sizeOf_10 ?_
    cases hf
    exact j_iret C dX8_sizeOf_13
set_option maxRecDepth 100000 in
set_option maxHeartbeats 4000000 in
theorem c_X8_tick {l : Launch} {D : va_G} {cI cS : ClassId} {A : Nat → Prop} {a : Nat → Nat} {d o hh sl : Nat} {b : Nat → Nat → Nat} {rest : va_W}  {σ : Nat → Nat → Int32} {t : Nat → Int32} {h : Nat → Nat → Nat → Int32}  {r : Int32 × (Nat → Nat → Int32) × (Nat → Int32) × (Nat → Nat → Nat → Int32)} (hf : f_X8_tick σ t h = some r) : CT l yX8_tick cX8_tick 1 (some .int) (rmF 6 149) D cI cS A [.ref o] (wT a d o hh sl b cI cS σ t h rest) (wT a d o hh sl b cI cS r.2.1 r.2.2.1 r.2.2.2 rest) (some (.int r.1)) := by
  refine CT_of (own := RX8) (xs := [some (.ref o)]) (by decide) rfl (Nat.le_of_ble_eq_true rfl) rfl ?_
  intro p e s_ m below meth c C
  unfold f_X8_tick at hf
  refine j_aload_n C dX8_tick_0 rfl ?_
  refine j_getf C (q0 := 19) (ci := 8) (k := 2) inX8 rfl (by decide) tw_245 rfl rfl dX8_tick_1 ?_
  refine j_aload_n C dX8_tick_4 rfl ?_
  refine j_getf C (q0 := 19) (ci := 8) (k := 1) inX8 rfl (by decide) tw_244 rfl rfl dX8_tick_5 ?_
  replace hf := bd hf
  obtain ⟨v1, h2, hf⟩ := hf
  refine j_callV C cl_X8_48 (c_X2_save h2) ⟨Nat.le_of_ble_eq_true rfl, Nat.le_of_ble_eq_true rfl⟩ ⟨Nat.zero_le _, Nat.zero_le _⟩ (q0 := 20) rfl rfl rfl rfl (Nat.le_of_ble_eq_true rfl) rfl rfl wT_fst dX8_tick_8 ?_
  refine j_aload_n C dX8_tick_11 rfl ?_
  refine j_getf C (q0 := 19) (ci := 8) (k := 0) inX8 rfl (by decide) tw_243 rfl rfl dX8_tick_12 ?_
  replace hf := bd hf
  obtain ⟨v3, h4, hf⟩ := hf
  refine j_callV C cl_X8_152 (c_X1_runTick h4) ⟨Nat.le_of_ble_eq_true rfl, Nat.le_of_ble_eq_true rfl⟩ ⟨Nat.zero_le _, Nat.zero_le _⟩ (q0 := 18) rfl rfl rfl rfl (Nat.le_of_ble_eq_true rfl) rfl rfl wC_fst dX8_tick_15 ?_
  cases hf
  exact j_iret C dX8_tick_18
set_option maxRecDepth 100000 in
set_option maxHeartbeats 4000000 in
theorem w_X8_settle_57 {p : Program} {l : Launch} {e : Env} {s_ : State} {m : MethodId} {args : Array Value} {below : List Frame} {meth : Method} {c : Code} {D : va_G} {cI cS : ClassId} {A : Nat → Prop} {a : Nat → Nat} {d o hh sl : Nat} {b : Nat → Nat → Nat} {rest : va_W}  (C : cx p s_ m args meth c cX8_settle 5 RX8 (some .int) D cI cS) (k33 : (Nat → Nat → Int32) → (Nat → Int32) → (Nat → Nat → Nat → Int32) → Int32 → Int32 → Int32 → Option (Int32 × (Nat → Nat → Int32) × (Nat → Int32) × (Nat → Nat → Nat → Int32))) (hk33 : ∀ (σ : Nat → Nat → Int32) (t : Nat → Int32) (h : Nat → Nat → Nat → Int32) (x1 : Int32) (x2 : Int32) (x3 : Int32) (r : Int32 × (Nat → Nat → Int32) × (Nat → Int32) × (Nat → Nat → Nat → Int32)), k33 σ t h x1 x2 x3 = some r → jG p l e (rmF 6 149) s_ m args below meth c 5 D A (MQ below (QW D A (wT a d o hh sl b cI cS r.2.1 r.2.2.1 r.2.2.2 rest) (some (.int r.1))) args s_ 0 0 A) (wT a d o hh sl b cI cS σ t h rest) [some (.ref o), some (.int x1), some (.int x2), some (.int x3), none] 33 []) : ∀ (σ : Nat → Nat → Int32) (t : Nat → Int32) (h : Nat → Nat → Nat → Int32) (x1 : Int32) (x2 : Int32) (y0 : Int32) (r : Int32 × (Nat → Nat → Int32) × (Nat → Int32) × (Nat → Nat → Nat → Int32)), f_X8_settle_57 k33 σ t h x1 x2 y0 = some r → jG p l e (rmF 6 149) s_ m args below meth c 5 D A (MQ below (QW D A (wT a d o hh sl b cI cS r.2.1 r.2.2.1 r.2.2.2 rest) (some (.int r.1))) args s_ 0 0 A) (wT a d o hh sl b cI cS σ t h rest) [some (.ref o), some (.int x1), some (.int x2), none, none] 57 [.int y0] := by
  intro σ t h x1 x2 y0 r hf
  unfold f_X8_settle_57 at hf
  refine j_istore C (xs' := [some (.ref o), some (.int x1), some (.int x2), none, some (.int y0)]) dX8_settle_57 rfl rfl ?_
  refine j_iinc C (xs' := [some (.ref o), some (.int x1), some (.int (x2 + (1 : Int32))), none, some (.int y0)]) dX8_settle_59 rfl (ii_1 _) rfl rfl ?_
  refine j_iload C dX8_settle_62 rfl ?_
  refine j_if_ne C (tgt := 84) (by decide) dX8_settle_64 (fun h11 => ?_) (fun h11 => ?_)
  · replace hf := it_f h11 hf
    refine j_iconst C ic_0 dX8_settle_84 ?_
    refine j_istore_n C (xs' := [some (.ref o), some (.int x1), some (.int (x2 + (1 : Int32))), some (.int (0 : Int32)), some (.int y0)]) dX8_settle_85 rfl rfl ?_
    refine j_goto C (tgt := 33) (by decide) dX8_settle_86 ?_
    refine j_weak [true, true, true, true, false] rfl ?_
    exact hk33 _ _ _ _ _ _ _ hf
  · replace hf := it_t h11 hf
    refine j_aload_n C dX8_settle_67 rfl ?_
    refine j_getf C (q0 := 19) (ci := 8) (k := 1) inX8 rfl (by decide) tw_244 rfl rfl dX8_settle_68 ?_
    refine gf_X8_126 C dX8_settle_71 ?_
    replace hf := bd hf
    obtain ⟨v12, h13, hf⟩ := hf
    refine j_callV C cl_X8_155 (c_X5_anyLearner h13) ⟨Nat.le_of_ble_eq_true rfl, Nat.le_of_ble_eq_true rfl⟩ ⟨Nat.zero_le _, Nat.zero_le _⟩ (q0 := 3) rfl rfl rfl rfl (Nat.le_of_ble_eq_true rfl) rfl rfl rfl dX8_settle_74 ?_
    refine j_if_ne C (tgt := 84) (by decide) dX8_settle_77 (fun h14 => ?_) (fun h14 => ?_)
    · replace hf := it_f h14 hf
      refine j_iconst C ic_0 dX8_settle_84 ?_
      refine j_istore_n C (xs' := [some (.ref o), some (.int x1), some (.int (x2 + (1 : Int32))), some (.int (0 : Int32)), some (.int y0)]) dX8_settle_85 rfl rfl ?_
      refine j_goto C (tgt := 33) (by decide) dX8_settle_86 ?_
      refine j_weak [true, true, true, true, false] rfl ?_
      exact hk33 _ _ _ _ _ _ _ hf
    · replace hf := it_t h14 hf
      refine j_iconst C ic_1 dX8_settle_80 ?_
      refine j_goto C (tgt := 85) (by decide) dX8_settle_81 ?_
      refine j_istore_n C (xs' := [some (.ref o), some (.int x1), some (.int (x2 + (1 : Int32))), some (.int (1 : Int32)), some (.int y0)]) dX8_settle_85 rfl rfl ?_
      refine j_goto C (tgt := 33) (by decide) dX8_settle_86 ?_
      refine j_weak [true, true, true, true, false] rfl ?_
      exact hk33 _ _ _ _ _ _ _ hf
set_option maxRecDepth 100000 in
set_option maxHeartbeats 4000000 in
theorem w_X8_settle_33 {p : Program} {l : Launch} {e : Env} {s_ : State} {m : MethodId} {args : Array Value} {below : List Frame} {meth : Method} {c : Code} {D : va_G} {cI cS : ClassId} {A : Nat → Prop} {a : Nat → Nat} {d o hh sl : Nat} {b : Nat → Nat → Nat} {rest : va_W}  (C : cx p s_ m args meth c cX8_settle 5 RX8 (some .int) D cI cS)  : ∀ (n_ : Nat) (σ : Nat → Nat → Int32) (t : Nat → Int32) (h : Nat → Nat → Nat → Int32) (x1 : Int32) (x2 : Int32) (x3 : Int32) (r : Int32 × (Nat → Nat → Int32) × (Nat → Int32) × (Nat → Nat → Nat → Int32)), f_X8_settle_33  n_ σ t h x1 x2 x3 = some r → jG p l e (rmF 6 149) s_ m args below meth c 5 D A (MQ below (QW D A (wT a d o hh sl b cI cS r.2.1 r.2.2.1 r.2.2.2 rest) (some (.int r.1))) args s_ 0 0 A) (wT a d o hh sl b cI cS σ t h rest) [some (.ref o), some (.int x1), some (.int x2), some (.int x3), none] 33 [] := by
  intro n_
  induction n_ with
  | zero =>
    intro σ t h x1 x2 x3 r hf
    rw [f_X8_settle_33] at hf
    cases hf
  | succ n_ hk33 =>
    intro σ t h x1 x2 x3 r hf
    rw [f_X8_settle_33] at hf
    refine j_iload_n C dX8_settle_33 rfl ?_
    refine j_iload_n C dX8_settle_34 rfl ?_
    refine j_icmp_ge C (tgt := 89) (by decide) dX8_settle_35 (fun h6 => ?_) (fun h6 => ?_)
    · replace hf := it_t h6 hf
      refine j_iload_n C dX8_settle_89 rfl ?_
      cases hf
      exact j_iret C dX8_settle_90
    · replace hf := it_f h6 hf
      refine j_iload_n C dX8_settle_38 rfl ?_
      refine j_if_ne C (tgt := 89) (by decide) dX8_settle_39 (fun h7 => ?_) (fun h7 => ?_)
      · replace hf := it_f h7 hf
        refine j_iload_n C dX8_settle_89 rfl ?_
        cases hf
        exact j_iret C dX8_settle_90
      · replace hf := it_t h7 hf
        refine j_aload_n C dX8_settle_42 rfl ?_
        refine j_getf C (q0 := 19) (ci := 8) (k := 0) inX8 rfl (by decide) tw_243 rfl rfl dX8_settle_43 ?_
        replace hf := bd hf
        obtain ⟨v8, h9, hf⟩ := hf
        refine j_callV C cl_X8_152 (c_X1_runTick h9) ⟨Nat.le_of_ble_eq_true rfl, Nat.le_of_ble_eq_true rfl⟩ ⟨Nat.zero_le _, Nat.zero_le _⟩ (q0 := 18) rfl rfl rfl rfl (Nat.le_of_ble_eq_true rfl) rfl rfl wC_fst dX8_settle_46 ?_
        refine j_if_eq C (tgt := 56) (by decide) dX8_settle_49 (fun h10 => ?_) (fun h10 => ?_)
        · replace hf := it_t h10 hf
          refine j_iconst C ic_0 dX8_settle_56 ?_
          refine j_weak [true, true, true, false, false] rfl ?_
          exact w_X8_settle_57 C _ hk33 _ _ _ _ _ _ _ hf
        · replace hf := it_f h10 hf
          refine j_iconst C ic_1 dX8_settle_52 ?_
          refine j_goto C (tgt := 57) (by decide) dX8_settle_53 ?_
          refine j_weak [true, true, true, false, false] rfl ?_
          exact w_X8_settle_57 C _ hk33 _ _ _ _ _ _ _ hf
set_option maxRecDepth 100000 in
set_option maxHeartbeats 4000000 in
theorem c_X8_settle {l : Launch} {D : va_G} {cI cS : ClassId} {A : Nat → Prop} {a : Nat → Nat} {d o hh sl : Nat} {b : Nat → Nat → Nat} {rest : va_W}  {σ : Nat → Nat → Int32} {t : Nat → Int32} {h : Nat → Nat → Nat → Int32} {x1 : Int32} {r : Int32 × (Nat → Nat → Int32) × (Nat → Int32) × (Nat → Nat → Nat → Int32)} (hf : f_X8_settle σ t h x1 = some r) : CT l yX8_settle cX8_settle 5 (some .int) (rmF 6 149) D cI cS A [.ref o, .int x1] (wT a d o hh sl b cI cS σ t h rest) (wT a d o hh sl b cI cS r.2.1 r.2.2.1 r.2.2.2 rest) (some (.int r.1)) := by
  refine CT_of (own := RX8) (xs := [some (.ref o), some (.int x1), none, none, none]) (by decide) rfl (Nat.le_of_ble_eq_true rfl) rfl ?_
  intro p e s_ m below meth c C
  unfold f_X8_settle at hf
  refine j_iload_n C dX8_settle_0 rfl ?_
  refine j_iconst C ic_1 dX8_settle_1 ?_
  refine j_sipush C sp_200 dX8_settle_2 ?_
  replace hf := bd hf
  obtain ⟨v1, h2, hf⟩ := hf
  refine j_callS C cl_X8_28 (c_X8_isWithin h2) ⟨Nat.le_of_ble_eq_true rfl, Nat.le_of_ble_eq_true rfl⟩ ⟨Nat.zero_le _, Nat.zero_le _⟩ rfl (Nat.le_of_ble_eq_true rfl) rfl rfl rfl dX8_settle_5 ?_
  refine j_if_ne C (tgt := 18) (by decide) dX8_settle_8 (fun h3 => ?_) (fun h3 => ?_)
  · replace hf := it_f h3 hf
    refine j_aload_n C dX8_settle_18 rfl ?_
    refine j_getf C (q0 := 19) (ci := 8) (k := 2) inX8 rfl (by decide) tw_245 rfl rfl dX8_settle_19 ?_
    refine j_aload_n C dX8_settle_22 rfl ?_
    refine j_getf C (q0 := 19) (ci := 8) (k := 1) inX8 rfl (by decide) tw_244 rfl rfl dX8_settle_23 ?_
    replace hf := bd hf
    obtain ⟨v4, h5, hf⟩ := hf
    refine j_callV C cl_X8_48 (c_X2_save h5) ⟨Nat.le_of_ble_eq_true rfl, Nat.le_of_ble_eq_true rfl⟩ ⟨Nat.zero_le _, Nat.zero_le _⟩ (q0 := 20) rfl rfl rfl rfl (Nat.le_of_ble_eq_true rfl) rfl rfl wT_fst dX8_settle_26 ?_
    refine j_iconst C ic_0 dX8_settle_29 ?_
    refine j_istore_n C (xs' := [some (.ref o), some (.int x1), some (.int (0 : Int32)), none, none]) dX8_settle_30 rfl rfl ?_
    refine j_iconst C ic_0 dX8_settle_31 ?_
    refine j_istore_n C (xs' := [some (.ref o), some (.int x1), some (.int (0 : Int32)), some (.int (0 : Int32)), none]) dX8_settle_32 rfl rfl ?_
    exact w_X8_settle_33 C  _ _ _ _ _ _ _ _ hf
  · replace hf := it_t h3 hf
    refine j_aload_n C dX8_settle_11 rfl ?_
    refine j_bipush C bp_m2 dX8_settle_12 ?_
    replace hf := bd hf
    obtain ⟨v15, h16, hf⟩ := hf
    refine j_callV C cl_X8_32 (c_X8_fail h16) ⟨Nat.le_of_ble_eq_true rfl, Nat.le_of_ble_eq_true rfl⟩ ⟨Nat.zero_le _, Nat.zero_le _⟩ (q0 := 19) rfl rfl rfl rfl (Nat.le_of_ble_eq_true rfl) rfl rfl wT_fst dX8_settle_14 ?_
    cases hf
    exact j_iret C dX8_settle_17
set_option maxRecDepth 100000 in
set_option maxHeartbeats 4000000 in
theorem c_X8_performed {l : Launch} {D : va_G} {cI cS : ClassId} {A : Nat → Prop} {a : Nat → Nat} {d o hh sl : Nat} {b : Nat → Nat → Nat} {rest : va_W}  {σ : Nat → Nat → Int32} {t : Nat → Int32} {h : Nat → Nat → Nat → Int32} {x1 : Int32} {r : Int32 × (Nat → Int32)} (hf : f_X8_performed σ t h x1 = some r) : CT l yX8_performed cX8_performed 2 (some .int) (rmF 1 22) D cI cS A [.ref o, .int x1] (wT a d o hh sl b cI cS σ t h rest) (wT a d o hh sl b cI cS σ r.2 h rest) (some (.int r.1)) := by
  refine CT_of (own := RX8) (xs := [some (.ref o), some (.int x1)]) (by decide) rfl (Nat.le_of_ble_eq_true rfl) rfl ?_
  intro p e s_ m below meth c C
  unfold f_X8_performed at hf
  refine j_iload_n C dX8_performed_0 rfl ?_
  refine j_iconst C ic_1 dX8_performed_1 ?_
  refine j_bipush C bp_8 dX8_performed_2 ?_
  replace hf := bd hf
  obtain ⟨v1, h2, hf⟩ := hf
  refine j_callS C cl_X8_28 (c_X8_isWithin h2) ⟨Nat.le_of_ble_eq_true rfl, Nat.le_of_ble_eq_true rfl⟩ ⟨Nat.zero_le _, Nat.zero_le _⟩ rfl (Nat.le_of_ble_eq_true rfl) rfl rfl rfl dX8_performed_4 ?_
  refine j_if_ne C (tgt := 17) (by decide) dX8_performed_7 (fun h3 => ?_) (fun h3 => ?_)
  · replace hf := it_f h3 hf
    refine j_aload_n C dX8_performed_17 rfl ?_
    refine j_getf C (q0 := 19) (ci := 8) (k := 1) inX8 rfl (by decide) tw_244 rfl rfl dX8_performed_18 ?_
    refine gf_X8_158 C dX8_performed_21 ?_
    refine j_iload_n C dX8_performed_24 rfl ?_
    replace hf := ld_s hf
    obtain ⟨v4, h5, e_v4, hf⟩ := hf
    refine aLC_6 C h5 e_v4 dX8_performed_25 ?_
    cases hf
    exact j_iret C dX8_performed_26
  · replace hf := it_t h3 hf
    refine j_aload_n C dX8_performed_10 rfl ?_
    refine j_bipush C bp_m2 dX8_performed_11 ?_
    replace hf := bd hf
    obtain ⟨v6, h7, hf⟩ := hf
    refine j_callV C cl_X8_32 (c_X8_fail h7) ⟨Nat.le_of_ble_eq_true rfl, Nat.le_of_ble_eq_true rfl⟩ ⟨Nat.zero_le _, Nat.zero_le _⟩ (q0 := 19) rfl rfl rfl rfl (Nat.le_of_ble_eq_true rfl) rfl rfl wT_fst dX8_performed_13 ?_
    cases hf
    exact j_iret C dX8_performed_16
set_option maxRecDepth 100000 in
set_option maxHeartbeats 4000000 in
theorem c_X8_time {l : Launch} {D : va_G} {cI cS : ClassId} {A : Nat → Prop} {a : Nat → Nat} {d o hh sl : Nat} {b : Nat → Nat → Nat} {rest : va_W}  {σ : Nat → Nat → Int32} {t : Nat → Int32} {h : Nat → Nat → Nat → Int32}  {r : Int32} (hf : f_X8_time σ t h = some r) : CT l yX8_time cX8_time 1 (some .int) (rmF 0 0) D cI cS A [.ref o] (wT a d o hh sl b cI cS σ t h rest) (wT a d o hh sl b cI cS σ t h rest) (some (.int r)) := by
  refine CT_of (own := RX8) (xs := [some (.ref o)]) (by decide) rfl (Nat.le_of_ble_eq_true rfl) rfl ?_
  intro p e s_ m below meth c C
  unfold f_X8_time at hf
  refine j_aload_n C dX8_time_0 rfl ?_
  refine j_getf C (q0 := 19) (ci := 8) (k := 1) inX8 rfl (by decide) tw_244 rfl rfl dX8_time_1 ?_
  refine gf_X8_161 C dX8_time_4 ?_
  cases hf
  exact j_iret C dX8_time_7
set_option maxRecDepth 100000 in
set_option maxHeartbeats 4000000 in
theorem c_X8_rangeCount {l : Launch} {D : va_G} {cI cS : ClassId} {A : Nat → Prop} {a : Nat → Nat} {d o hh sl : Nat} {b : Nat → Nat → Nat} {rest : va_W}  {σ : Nat → Nat → Int32} {t : Nat → Int32} {h : Nat → Nat → Nat → Int32}  {r : Int32} (hf : f_X8_rangeCount σ t h = some r) : CT l yX8_rangeCount cX8_rangeCount 1 (some .int) (rmF 0 0) D cI cS A [.ref o] (wT a d o hh sl b cI cS σ t h rest) (wT a d o hh sl b cI cS σ t h rest) (some (.int r)) := by
  refine CT_of (own := RX8) (xs := [some (.ref o)]) (by decide) rfl (Nat.le_of_ble_eq_true rfl) rfl ?_
  intro p e s_ m below meth c C
  unfold f_X8_rangeCount at hf
  refine j_aload_n C dX8_rangeCount_0 rfl ?_
  refine j_getf C (q0 := 19) (ci := 8) (k := 1) inX8 rfl (by decide) tw_244 rfl rfl dX8_rangeCount_1 ?_
  refine gf_X8_126 C dX8_rangeCount_4 ?_
  refine gf_X8_164 C dX8_rangeCount_7 ?_
  cases hf
  exact j_iret C dX8_rangeCount_10
set_option maxRecDepth 100000 in
set_option maxHeartbeats 4000000 in
theorem c_X8_start {l : Launch} {D : va_G} {cI cS : ClassId} {A : Nat → Prop} {a : Nat → Nat} {d o hh sl : Nat} {b : Nat → Nat → Nat} {rest : va_W}  {σ : Nat → Nat → Int32} {t : Nat → Int32} {h : Nat → Nat → Nat → Int32} {x1 : Int32} {r : Int32 × (Nat → Int32)} (hf : f_X8_start σ t h x1 = some r) : CT l yX8_start cX8_start 2 (some .int) (rmF 1 21) D cI cS A [.ref o, .int x1] (wT a d o hh sl b cI cS σ t h rest) (wT a d o hh sl b cI cS σ r.2 h rest) (some (.int r.1)) := by
  refine CT_of (own := RX8) (xs := [some (.ref o), some (.int x1)]) (by decide) rfl (Nat.le_of_ble_eq_true rfl) rfl ?_
  intro p e s_ m below meth c C
  unfold f_X8_start at hf
  refine j_aload_n C dX8_start_0 rfl ?_
  refine j_getf C (q0 := 19) (ci := 8) (k := 1) inX8 rfl (by decide) tw_244 rfl rfl dX8_start_1 ?_
  refine gf_X8_126 C dX8_start_4 ?_
  refine j_iload_n C dX8_start_7 rfl ?_
  replace hf := bd hf
  obtain ⟨v1, h2, hf⟩ := hf
  refine j_callV C cl_X8_165 (c_X5_exists h2) ⟨Nat.le_of_ble_eq_true rfl, Nat.le_of_ble_eq_true rfl⟩ ⟨Nat.zero_le _, Nat.zero_le _⟩ (q0 := 3) rfl rfl rfl rfl (Nat.le_of_ble_eq_true rfl) rfl rfl rfl dX8_start_8 ?_
  refine j_if_ne C (tgt := 21) (by decide) dX8_start_11 (fun h3 => ?_) (fun h3 => ?_)
  · replace hf := it_f h3 hf
    refine j_aload_n C dX8_start_21 rfl ?_
    refine j_getf C (q0 := 19) (ci := 8) (k := 1) inX8 rfl (by decide) tw_244 rfl rfl dX8_start_22 ?_
    refine gf_X8_126 C dX8_start_25 ?_
    refine gf_X8_139 C dX8_start_28 ?_
    refine j_iload_n C dX8_start_31 rfl ?_
    replace hf := ld_s hf
    obtain ⟨v4, h5, e_v4, hf⟩ := hf
    refine aLC_9 C h5 e_v4 dX8_start_32 ?_
    cases hf
    exact j_iret C dX8_start_33
  · replace hf := it_t h3 hf
    refine j_aload_n C dX8_start_14 rfl ?_
    refine j_bipush C bp_m2 dX8_start_15 ?_
    replace hf := bd hf
    obtain ⟨v6, h7, hf⟩ := hf
    refine j_callV C cl_X8_32 (c_X8_fail h7) ⟨Nat.le_of_ble_eq_true rfl, Nat.le_of_ble_eq_true rfl⟩ ⟨Nat.zero_le _, Nat.zero_le _⟩ (q0 := 19) rfl rfl rfl rfl (Nat.le_of_ble_eq_true rfl) rfl rfl wT_fst dX8_start_17 ?_
    cases hf
    exact j_iret C dX8_start_20
set_option maxRecDepth 100000 in
set_option maxHeartbeats 4000000 in
theorem c_X8_size {l : Launch} {D : va_G} {cI cS : ClassId} {A : Nat → Prop} {a : Nat → Nat} {d o hh sl : Nat} {b : Nat → Nat → Nat} {rest : va_W}  {σ : Nat → Nat → Int32} {t : Nat → Int32} {h : Nat → Nat → Nat → Int32} {x1 : Int32} {r : Int32 × (Nat → Int32)} (hf : f_X8_size σ t h x1 = some r) : CT l yX8_size cX8_size 2 (some .int) (rmF 2 45) D cI cS A [.ref o, .int x1] (wT a d o hh sl b cI cS σ t h rest) (wT a d o hh sl b cI cS σ r.2 h rest) (some (.int r.1)) := by
  refine CT_of (own := RX8) (xs := [some (.ref o), some (.int x1)]) (by decide) rfl (Nat.le_of_ble_eq_true rfl) rfl ?_
  intro p e s_ m below meth c C
  unfold f_X8_size at hf
  refine j_aload_n C dX8_size_0 rfl ?_
  refine j_getf C (q0 := 19) (ci := 8) (k := 1) inX8 rfl (by decide) tw_244 rfl rfl dX8_size_1 ?_
  refine gf_X8_126 C dX8_size_4 ?_
  refine j_iload_n C dX8_size_7 rfl ?_
  replace hf := bd hf
  obtain ⟨v1, h2, hf⟩ := hf
  refine j_callV C cl_X8_165 (c_X5_exists h2) ⟨Nat.le_of_ble_eq_true rfl, Nat.le_of_ble_eq_true rfl⟩ ⟨Nat.zero_le _, Nat.zero_le _⟩ (q0 := 3) rfl rfl rfl rfl (Nat.le_of_ble_eq_true rfl) rfl rfl rfl dX8_size_8 ?_
  refine j_if_ne C (tgt := 21) (by decide) dX8_size_11 (fun h3 => ?_) (fun h3 => ?_)
  · replace hf := it_f h3 hf
    refine j_aload_n C dX8_size_21 rfl ?_
    refine j_getf C (q0 := 19) (ci := 8) (k := 1) inX8 rfl (by decide) tw_244 rfl rfl dX8_size_22 ?_
    refine j_iload_n C dX8_size_25 rfl ?_
    replace hf := bd hf
    obtain ⟨v4, h5, hf⟩ := hf
    refine j_callV C cl_X8_166 (c_X0_rangeSize h5) ⟨Nat.le_of_ble_eq_true rfl, Nat.le_of_ble_eq_true rfl⟩ ⟨Nat.zero_le _, Nat.zero_le _⟩ (q0 := 0) rfl rfl rfl rfl (Nat.le_of_ble_eq_true rfl) rfl rfl rfl dX8_size_26 ?_
    cases hf
    exact j_iret C dX8_size_29
  · replace hf := it_t h3 hf
    refine j_aload_n C dX8_size_14 rfl ?_
    refine j_bipush C bp_m2 dX8_size_15 ?_
    replace hf := bd hf
    obtain ⟨v6, h7, hf⟩ := hf
    refine j_callV C cl_X8_32 (c_X8_fail h7) ⟨Nat.le_of_ble_eq_true rfl, Nat.le_of_ble_eq_true rfl⟩ ⟨Nat.zero_le _, Nat.zero_le _⟩ (q0 := 19) rfl rfl rfl rfl (Nat.le_of_ble_eq_true rfl) rfl rfl wT_fst dX8_size_17 ?_
    cases hf
    exact j_iret C dX8_size_20
set_option maxRecDepth 100000 in
set_option maxHeartbeats 4000000 in
theorem c_X8_load {l : Launch} {D : va_G} {cI cS : ClassId} {A : Nat → Prop} {a : Nat → Nat} {d o hh sl : Nat} {b : Nat → Nat → Nat} {rest : va_W}  {σ : Nat → Nat → Int32} {t : Nat → Int32} {h : Nat → Nat → Nat → Int32} {x1 : Int32} {r : Int32 × (Nat → Int32)} (hf : f_X8_load σ t h x1 = some r) : CT l yX8_load cX8_load 2 (some .int) (rmF 2 45) D cI cS A [.ref o, .int x1] (wT a d o hh sl b cI cS σ t h rest) (wT a d o hh sl b cI cS σ r.2 h rest) (some (.int r.1)) := by
  refine CT_of (own := RX8) (xs := [some (.ref o), some (.int x1)]) (by decide) rfl (Nat.le_of_ble_eq_true rfl) rfl ?_
  intro p e s_ m below meth c C
  unfold f_X8_load at hf
  refine j_aload_n C dX8_load_0 rfl ?_
  refine j_getf C (q0 := 19) (ci := 8) (k := 1) inX8 rfl (by decide) tw_244 rfl rfl dX8_load_1 ?_
  refine gf_X8_126 C dX8_load_4 ?_
  refine j_iload_n C dX8_load_7 rfl ?_
  replace hf := bd hf
  obtain ⟨v1, h2, hf⟩ := hf
  refine j_callV C cl_X8_165 (c_X5_exists h2) ⟨Nat.le_of_ble_eq_true rfl, Nat.le_of_ble_eq_true rfl⟩ ⟨Nat.zero_le _, Nat.zero_le _⟩ (q0 := 3) rfl rfl rfl rfl (Nat.le_of_ble_eq_true rfl) rfl rfl rfl dX8_load_8 ?_
  refine j_if_ne C (tgt := 21) (by decide) dX8_load_11 (fun h3 => ?_) (fun h3 => ?_)
  · replace hf := it_f h3 hf
    refine j_aload_n C dX8_load_21 rfl ?_
    refine j_getf C (q0 := 19) (ci := 8) (k := 1) inX8 rfl (by decide) tw_244 rfl rfl dX8_load_22 ?_
    refine j_iload_n C dX8_load_25 rfl ?_
    replace hf := bd hf
    obtain ⟨v4, h5, hf⟩ := hf
    refine j_callV C cl_X8_169 (c_X0_rangeLoad h5) ⟨Nat.le_of_ble_eq_true rfl, Nat.le_of_ble_eq_true rfl⟩ ⟨Nat.zero_le _, Nat.zero_le _⟩ (q0 := 0) rfl rfl rfl rfl (Nat.le_of_ble_eq_true rfl) rfl rfl rfl dX8_load_26 ?_
    cases hf
    exact j_iret C dX8_load_29
  · replace hf := it_t h3 hf
    refine j_aload_n C dX8_load_14 rfl ?_
    refine j_bipush C bp_m2 dX8_load_15 ?_
    replace hf := bd hf
    obtain ⟨v6, h7, hf⟩ := hf
    refine j_callV C cl_X8_32 (c_X8_fail h7) ⟨Nat.le_of_ble_eq_true rfl, Nat.le_of_ble_eq_true rfl⟩ ⟨Nat.zero_le _, Nat.zero_le _⟩ (q0 := 19) rfl rfl rfl rfl (Nat.le_of_ble_eq_true rfl) rfl rfl wT_fst dX8_load_17 ?_
    cases hf
    exact j_iret C dX8_load_20
set_option maxRecDepth 100000 in
set_option maxHeartbeats 4000000 in
theorem c_X8_rangeOf {l : Launch} {D : va_G} {cI cS : ClassId} {A : Nat → Prop} {a : Nat → Nat} {d o hh sl : Nat} {b : Nat → Nat → Nat} {rest : va_W}  {σ : Nat → Nat → Int32} {t : Nat → Int32} {h : Nat → Nat → Nat → Int32} {x1 : Int32} {r : Int32 × (Nat → Int32)} (hf : f_X8_rangeOf σ t h x1 = some r) : CT l yX8_rangeOf cX8_rangeOf 2 (some .int) (rmF 2 42) D cI cS A [.ref o, .int x1] (wT a d o hh sl b cI cS σ t h rest) (wT a d o hh sl b cI cS σ r.2 h rest) (some (.int r.1)) := by
  refine CT_of (own := RX8) (xs := [some (.ref o), some (.int x1)]) (by decide) rfl (Nat.le_of_ble_eq_true rfl) rfl ?_
  intro p e s_ m below meth c C
  unfold f_X8_rangeOf at hf
  refine j_iload_n C dX8_rangeOf_0 rfl ?_
  replace hf := bd hf
  obtain ⟨v1, h2, hf⟩ := hf
  refine j_callS C cl_X8_98 (c_X8_isKey h2) ⟨Nat.le_of_ble_eq_true rfl, Nat.le_of_ble_eq_true rfl⟩ ⟨Nat.zero_le _, Nat.zero_le _⟩ rfl (Nat.le_of_ble_eq_true rfl) rfl rfl rfl dX8_rangeOf_1 ?_
  refine j_if_ne C (tgt := 14) (by decide) dX8_rangeOf_4 (fun h3 => ?_) (fun h3 => ?_)
  · replace hf := it_f h3 hf
    refine j_aload_n C dX8_rangeOf_14 rfl ?_
    refine j_getf C (q0 := 19) (ci := 8) (k := 1) inX8 rfl (by decide) tw_244 rfl rfl dX8_rangeOf_15 ?_
    refine gf_X8_126 C dX8_rangeOf_18 ?_
    refine j_iload_n C dX8_rangeOf_21 rfl ?_
    replace hf := bd hf
    obtain ⟨v4, h5, hf⟩ := hf
    refine j_callV C cl_X8_136 (c_X5_holding h5) ⟨Nat.le_of_ble_eq_true rfl, Nat.le_of_ble_eq_true rfl⟩ ⟨Nat.zero_le _, Nat.zero_le _⟩ (q0 := 3) rfl rfl rfl rfl (Nat.le_of_ble_eq_true rfl) rfl rfl rfl dX8_rangeOf_22 ?_
    cases hf
    exact j_iret C dX8_rangeOf_25
  · replace hf := it_t h3 hf
    refine j_aload_n C dX8_rangeOf_7 rfl ?_
    refine j_bipush C bp_m2 dX8_rangeOf_8 ?_
    replace hf := bd hf
    obtain ⟨v6, h7, hf⟩ := hf
    refine j_callV C cl_X8_32 (c_X8_fail h7) ⟨Nat.le_of_ble_eq_true rfl, Nat.le_of_ble_eq_true rfl⟩ ⟨Nat.zero_le _, Nat.zero_le _⟩ (q0 := 19) rfl rfl rfl rfl (Nat.le_of_ble_eq_true rfl) rfl rfl wT_fst dX8_rangeOf_10 ?_
    cases hf
    exact j_iret C dX8_rangeOf_13
set_option maxRecDepth 100000 in
set_option maxHeartbeats 4000000 in
theorem c_X8_voters {l : Launch} {D : va_G} {cI cS : ClassId} {A : Nat → Prop} {a : Nat → Nat} {d o hh sl : Nat} {b : Nat → Nat → Nat} {rest : va_W}  {σ : Nat → Nat → Int32} {t : Nat → Int32} {h : Nat → Nat → Nat → Int32} {x1 : Int32} {r : Int32 × (Nat → Int32)} (hf : f_X8_voters σ t h x1 = some r) : CT l yX8_voters cX8_voters 2 (some .int) (rmF 1 21) D cI cS A [.ref o, .int x1] (wT a d o hh sl b cI cS σ t h rest) (wT a d o hh sl b cI cS σ r.2 h rest) (some (.int r.1)) := by
  refine CT_of (own := RX8) (xs := [some (.ref o), some (.int x1)]) (by decide) rfl (Nat.le_of_ble_eq_true rfl) rfl ?_
  intro p e s_ m below meth c C
  unfold f_X8_voters at hf
  refine j_aload_n C dX8_voters_0 rfl ?_
  refine j_getf C (q0 := 19) (ci := 8) (k := 1) inX8 rfl (by decide) tw_244 rfl rfl dX8_voters_1 ?_
  refine gf_X8_126 C dX8_voters_4 ?_
  refine j_iload_n C dX8_voters_7 rfl ?_
  replace hf := bd hf
  obtain ⟨v1, h2, hf⟩ := hf
  refine j_callV C cl_X8_165 (c_X5_exists h2) ⟨Nat.le_of_ble_eq_true rfl, Nat.le_of_ble_eq_true rfl⟩ ⟨Nat.zero_le _, Nat.zero_le _⟩ (q0 := 3) rfl rfl rfl rfl (Nat.le_of_ble_eq_true rfl) rfl rfl rfl dX8_voters_8 ?_
  refine j_if_ne C (tgt := 21) (by decide) dX8_voters_11 (fun h3 => ?_) (fun h3 => ?_)
  · replace hf := it_f h3 hf
    refine j_aload_n C dX8_voters_21 rfl ?_
    refine j_getf C (q0 := 19) (ci := 8) (k := 1) inX8 rfl (by decide) tw_244 rfl rfl dX8_voters_22 ?_
    refine gf_X8_126 C dX8_voters_25 ?_
    refine gf_X8_172 C dX8_voters_28 ?_
    refine j_iload_n C dX8_voters_31 rfl ?_
    replace hf := ld_s hf
    obtain ⟨v4, h5, e_v4, hf⟩ := hf
    refine aLC_10 C h5 e_v4 dX8_voters_32 ?_
    cases hf
    exact j_iret C dX8_voters_33
  · replace hf := it_t h3 hf
    refine j_aload_n C dX8_voters_14 rfl ?_
    refine j_bipush C bp_m2 dX8_voters_15 ?_
    replace hf := bd hf
    obtain ⟨v6, h7, hf⟩ := hf
    refine j_callV C cl_X8_32 (c_X8_fail h7) ⟨Nat.le_of_ble_eq_true rfl, Nat.le_of_ble_eq_true rfl⟩ ⟨Nat.zero_le _, Nat.zero_le _⟩ (q0 := 19) rfl rfl rfl rfl (Nat.le_of_ble_eq_true rfl) rfl rfl wT_fst dX8_voters_17 ?_
    cases hf
    exact j_iret C dX8_voters_20
set_option maxRecDepth 100000 in
set_option maxHeartbeats 4000000 in
theorem c_X8_leader {l : Launch} {D : va_G} {cI cS : ClassId} {A : Nat → Prop} {a : Nat → Nat} {d o hh sl : Nat} {b : Nat → Nat → Nat} {rest : va_W}  {σ : Nat → Nat → Int32} {t : Nat → Int32} {h : Nat → Nat → Nat → Int32} {x1 : Int32} {r : Int32 × (Nat → Int32)} (hf : f_X8_leader σ t h x1 = some r) : CT l yX8_leader cX8_leader 2 (some .int) (rmF 1 21) D cI cS A [.ref o, .int x1] (wT a d o hh sl b cI cS σ t h rest) (wT a d o hh sl b cI cS σ r.2 h rest) (some (.int r.1)) := by
  refine CT_of (own := RX8) (xs := [some (.ref o), some (.int x1)]) (by decide) rfl (Nat.le_of_ble_eq_true rfl) rfl ?_
  intro p e s_ m below meth c C
  unfold f_X8_leader at hf
  refine j_aload_n C dX8_leader_0 rfl ?_
  refine j_getf C (q0 := 19) (ci := 8) (k := 1) inX8 rfl (by decide) tw_244 rfl rfl dX8_leader_1 ?_
  refine gf_X8_126 C dX8_leader_4 ?_
  refine j_iload_n C dX8_leader_7 rfl ?_
  replace hf := bd hf
  obtain ⟨v1, h2, hf⟩ := hf
  refine j_callV C cl_X8_165 (c_X5_exists h2) ⟨Nat.le_of_ble_eq_true rfl, Nat.le_of_ble_eq_true rfl⟩ ⟨Nat.zero_le _, Nat.zero_le _⟩ (q0 := 3) rfl rfl rfl rfl (Nat.le_of_ble_eq_true rfl) rfl rfl rfl dX8_leader_8 ?_
  refine j_if_ne C (tgt := 21) (by decide) dX8_leader_11 (fun h3 => ?_) (fun h3 => ?_)
  · replace hf := it_f h3 hf
    refine j_aload_n C dX8_leader_21 rfl ?_
    refine j_getf C (q0 := 19) (ci := 8) (k := 1) inX8 rfl (by decide) tw_244 rfl rfl dX8_leader_22 ?_
    refine gf_X8_126 C dX8_leader_25 ?_
    refine gf_X8_130 C dX8_leader_28 ?_
    refine j_iload_n C dX8_leader_31 rfl ?_
    replace hf := ld_s hf
    obtain ⟨v4, h5, e_v4, hf⟩ := hf
    refine aLC_11 C h5 e_v4 dX8_leader_32 ?_
    cases hf
    exact j_iret C dX8_leader_33
  · replace hf := it_t h3 hf
    refine j_aload_n C dX8_leader_14 rfl ?_
    refine j_bipush C bp_m2 dX8_leader_15 ?_
    replace hf := bd hf
    obtain ⟨v6, h7, hf⟩ := hf
    refine j_callV C cl_X8_32 (c_X8_fail h7) ⟨Nat.le_of_ble_eq_true rfl, Nat.le_of_ble_eq_true rfl⟩ ⟨Nat.zero_le _, Nat.zero_le _⟩ (q0 := 19) rfl rfl rfl rfl (Nat.le_of_ble_eq_true rfl) rfl rfl wT_fst dX8_leader_17 ?_
    cases hf
    exact j_iret C dX8_leader_20
set_option maxRecDepth 100000 in
set_option maxHeartbeats 4000000 in
theorem c_X8_learner {l : Launch} {D : va_G} {cI cS : ClassId} {A : Nat → Prop} {a : Nat → Nat} {d o hh sl : Nat} {b : Nat → Nat → Nat} {rest : va_W}  {σ : Nat → Nat → Int32} {t : Nat → Int32} {h : Nat → Nat → Nat → Int32} {x1 : Int32} {r : Int32 × (Nat → Int32)} (hf : f_X8_learner σ t h x1 = some r) : CT l yX8_learner cX8_learner 2 (some .int) (rmF 2 42) D cI cS A [.ref o, .int x1] (wT a d o hh sl b cI cS σ t h rest) (wT a d o hh sl b cI cS σ r.2 h rest) (some (.int r.1)) := by
  refine CT_of (own := RX8) (xs := [some (.ref o), some (.int x1)]) (by decide) rfl (Nat.le_of_ble_eq_true rfl) rfl ?_
  intro p e s_ m below meth c C
  unfold f_X8_learner at hf
  refine j_aload_n C dX8_learner_0 rfl ?_
  refine j_getf C (q0 := 19) (ci := 8) (k := 1) inX8 rfl (by decide) tw_244 rfl rfl dX8_learner_1 ?_
  refine gf_X8_126 C dX8_learner_4 ?_
  refine j_iload_n C dX8_learner_7 rfl ?_
  replace hf := bd hf
  obtain ⟨v1, h2, hf⟩ := hf
  refine j_callV C cl_X8_165 (c_X5_exists h2) ⟨Nat.le_of_ble_eq_true rfl, Nat.le_of_ble_eq_true rfl⟩ ⟨Nat.zero_le _, Nat.zero_le _⟩ (q0 := 3) rfl rfl rfl rfl (Nat.le_of_ble_eq_true rfl) rfl rfl rfl dX8_learner_8 ?_
  refine j_if_ne C (tgt := 21) (by decide) dX8_learner_11 (fun h3 => ?_) (fun h3 => ?_)
  · replace hf := it_f h3 hf
    refine j_aload_n C dX8_learner_21 rfl ?_
    refine j_getf C (q0 := 19) (ci := 8) (k := 1) inX8 rfl (by decide) tw_244 rfl rfl dX8_learner_22 ?_
    refine gf_X8_126 C dX8_learner_25 ?_
    refine j_iload_n C dX8_learner_28 rfl ?_
    replace hf := bd hf
    obtain ⟨v4, h5, hf⟩ := hf
    refine j_callV C cl_X8_175 (c_X5_learnerCode h5) ⟨Nat.le_of_ble_eq_true rfl, Nat.le_of_ble_eq_true rfl⟩ ⟨Nat.zero_le _, Nat.zero_le _⟩ (q0 := 3) rfl rfl rfl rfl (Nat.le_of_ble_eq_true rfl) rfl rfl rfl dX8_learner_29 ?_
    cases hf
    exact j_iret C dX8_learner_32
  · replace hf := it_t h3 hf
    refine j_aload_n C dX8_learner_14 rfl ?_
    refine j_bipush C bp_m2 dX8_learner_15 ?_
    replace hf := bd hf
    obtain ⟨v6, h7, hf⟩ := hf
    refine j_callV C cl_X8_32 (c_X8_fail h7) ⟨Nat.le_of_ble_eq_true rfl, Nat.le_of_ble_eq_true rfl⟩ ⟨Nat.zero_le _, Nat.zero_le _⟩ (q0 := 19) rfl rfl rfl rfl (Nat.le_of_ble_eq_true rfl) rfl rfl wT_fst dX8_learner_17 ?_
    cases hf
    exact j_iret C dX8_learner_20
set_option maxRecDepth 100000 in
set_option maxHeartbeats 4000000 in
theorem c_X8_isAvailable {l : Launch} {D : va_G} {cI cS : ClassId} {A : Nat → Prop} {a : Nat → Nat} {d o hh sl : Nat} {b : Nat → Nat → Nat} {rest : va_W}  {σ : Nat → Nat → Int32} {t : Nat → Int32} {h : Nat → Nat → Nat → Int32} {x1 : Int32} {r : Int32 × (Nat → Int32)} (hf : f_X8_isAvailable σ t h x1 = some r) : CT l yX8_isAvailable cX8_isAvailable 2 (some .int) (rmF 2 42) D cI cS A [.ref o, .int x1] (wT a d o hh sl b cI cS σ t h rest) (wT a d o hh sl b cI cS σ r.2 h rest) (some (.int r.1)) := by
  refine CT_of (own := RX8) (xs := [some (.ref o), some (.int x1)]) (by decide) rfl (Nat.le_of_ble_eq_true rfl) rfl ?_
  intro p e s_ m below meth c C
  unfold f_X8_isAvailable at hf
  refine j_aload_n C dX8_isAvailable_0 rfl ?_
  refine j_getf C (q0 := 19) (ci := 8) (k := 1) inX8 rfl (by decide) tw_244 rfl rfl dX8_isAvailable_1 ?_
  refine gf_X8_126 C dX8_isAvailable_4 ?_
  refine j_iload_n C dX8_isAvailable_7 rfl ?_
  replace hf := bd hf
  obtain ⟨v1, h2, hf⟩ := hf
  refine j_callV C cl_X8_165 (c_X5_exists h2) ⟨Nat.le_of_ble_eq_true rfl, Nat.le_of_ble_eq_true rfl⟩ ⟨Nat.zero_le _, Nat.zero_le _⟩ (q0 := 3) rfl rfl rfl rfl (Nat.le_of_ble_eq_true rfl) rfl rfl rfl dX8_isAvailable_8 ?_
  refine j_if_ne C (tgt := 21) (by decide) dX8_isAvailable_11 (fun h3 => ?_) (fun h3 => ?_)
  · replace hf := it_f h3 hf
    refine j_aload_n C dX8_isAvailable_21 rfl ?_
    refine j_getf C (q0 := 19) (ci := 8) (k := 1) inX8 rfl (by decide) tw_244 rfl rfl dX8_isAvailable_22 ?_
    refine j_iload_n C dX8_isAvailable_25 rfl ?_
    replace hf := bd hf
    obtain ⟨v4, h5, hf⟩ := hf
    refine j_callV C cl_X8_178 (c_X0_hasQuorum h5) ⟨Nat.le_of_ble_eq_true rfl, Nat.le_of_ble_eq_true rfl⟩ ⟨Nat.zero_le _, Nat.zero_le _⟩ (q0 := 0) rfl rfl rfl rfl (Nat.le_of_ble_eq_true rfl) rfl rfl rfl dX8_isAvailable_26 ?_
    refine j_if_eq C (tgt := 36) (by decide) dX8_isAvailable_29 (fun h6 => ?_) (fun h6 => ?_)
    · replace hf := it_t h6 hf
      refine j_iconst C ic_0 dX8_isAvailable_36 ?_
      cases hf
      exact j_iret C dX8_isAvailable_37
    · replace hf := it_f h6 hf
      refine j_iconst C ic_1 dX8_isAvailable_32 ?_
      refine j_goto C (tgt := 37) (by decide) dX8_isAvailable_33 ?_
      cases hf
      exact j_iret C dX8_isAvailable_37
  · replace hf := it_t h3 hf
    refine j_aload_n C dX8_isAvailable_14 rfl ?_
    refine j_bipush C bp_m2 dX8_isAvailable_15 ?_
    replace hf := bd hf
    obtain ⟨v7, h8, hf⟩ := hf
    refine j_callV C cl_X8_32 (c_X8_fail h8) ⟨Nat.le_of_ble_eq_true rfl, Nat.le_of_ble_eq_true rfl⟩ ⟨Nat.zero_le _, Nat.zero_le _⟩ (q0 := 19) rfl rfl rfl rfl (Nat.le_of_ble_eq_true rfl) rfl rfl wT_fst dX8_isAvailable_17 ?_
    cases hf
    exact j_iret C dX8_isAvailable_20
set_option maxRecDepth 100000 in
set_option maxHeartbeats 4000000 in
theorem w_X8_splitKey_23 {p : Program} {l : Launch} {e : Env} {s_ : State} {m : MethodId} {args : Array Value} {below : List Frame} {meth : Method} {c : Code} {D : va_G} {cI cS : ClassId} {A : Nat → Prop} {a : Nat → Nat} {d o hh sl : Nat} {b : Nat → Nat → Nat} {rest : va_W}  (C : cx p s_ m args meth c cX8_splitKey 3 RX8 (some .int) D cI cS)  : ∀ (σ : Nat → Nat → Int32) (t : Nat → Int32) (h : Nat → Nat → Nat → Int32)  (r : Int32 × (Nat → Int32)), f_X8_splitKey_23  σ t h = some r → jG p l e (rmF 3 72) s_ m args below meth c 3 D A (MQ below (QW D A (wT a d o hh sl b cI cS σ r.2 h rest) (some (.int r.1))) args s_ 0 0 A) (wT a d o hh sl b cI cS σ t h rest) [some (.ref o), none, none] 23 [] := by
  intro σ t h r hf
  unfold f_X8_splitKey_23 at hf
  refine j_aload_n C dX8_splitKey_23 rfl ?_
  refine j_bipush C bp_m2 dX8_splitKey_24 ?_
  replace hf := bd hf
  obtain ⟨v4, h5, hf⟩ := hf
  refine j_callV C cl_X8_32 (c_X8_fail h5) ⟨Nat.le_of_ble_eq_true rfl, Nat.le_of_ble_eq_true rfl⟩ ⟨Nat.zero_le _, Nat.zero_le _⟩ (q0 := 19) rfl rfl rfl rfl (Nat.le_of_ble_eq_true rfl) rfl rfl wT_fst dX8_splitKey_26 ?_
  cases hf
  exact j_iret C dX8_splitKey_29
set_option maxRecDepth 100000 in
set_option maxHeartbeats 4000000 in
theorem c_X8_splitKey {l : Launch} {D : va_G} {cI cS : ClassId} {A : Nat → Prop} {a : Nat → Nat} {d o hh sl : Nat} {b : Nat → Nat → Nat} {rest : va_W}  {σ : Nat → Nat → Int32} {t : Nat → Int32} {h : Nat → Nat → Nat → Int32} {x1 : Int32} {x2 : Int32} {r : Int32 × (Nat → Int32)} (hf : f_X8_splitKey σ t h x1 x2 = some r) : CT l yX8_splitKey cX8_splitKey 3 (some .int) (rmF 3 72) D cI cS A [.ref o, .int x1, .int x2] (wT a d o hh sl b cI cS σ t h rest) (wT a d o hh sl b cI cS σ r.2 h rest) (some (.int r.1)) := by
  refine CT_of (own := RX8) (xs := [some (.ref o), some (.int x1), some (.int x2)]) (by decide) rfl (Nat.le_of_ble_eq_true rfl) rfl ?_
  intro p e s_ m below meth c C
  unfold f_X8_splitKey at hf
  refine j_aload_n C dX8_splitKey_0 rfl ?_
  refine j_getf C (q0 := 19) (ci := 8) (k := 1) inX8 rfl (by decide) tw_244 rfl rfl dX8_splitKey_1 ?_
  refine gf_X8_126 C dX8_splitKey_4 ?_
  refine j_iload_n C dX8_splitKey_7 rfl ?_
  replace hf := bd hf
  obtain ⟨v1, h2, hf⟩ := hf
  refine j_callV C cl_X8_165 (c_X5_exists h2) ⟨Nat.le_of_ble_eq_true rfl, Nat.le_of_ble_eq_true rfl⟩ ⟨Nat.zero_le _, Nat.zero_le _⟩ (q0 := 3) rfl rfl rfl rfl (Nat.le_of_ble_eq_true rfl) rfl rfl rfl dX8_splitKey_8 ?_
  refine j_if_eq C (tgt := 23) (by decide) dX8_splitKey_11 (fun h3 => ?_) (fun h3 => ?_)
  · replace hf := it_t h3 hf
    refine j_weak [true, false, false] rfl ?_
    exact w_X8_splitKey_23 C  _ _ _ _ hf
  · replace hf := it_f h3 hf
    refine j_iload_n C dX8_splitKey_14 rfl ?_
    refine j_iconst C ic_0 dX8_splitKey_15 ?_
    refine j_iconst C ic_1 dX8_splitKey_16 ?_
    replace hf := bd hf
    obtain ⟨v6, h7, hf⟩ := hf
    refine j_callS C cl_X8_28 (c_X8_isWithin h7) ⟨Nat.le_of_ble_eq_true rfl, Nat.le_of_ble_eq_true rfl⟩ ⟨Nat.zero_le _, Nat.zero_le _⟩ rfl (Nat.le_of_ble_eq_true rfl) rfl rfl rfl dX8_splitKey_17 ?_
    refine j_if_ne C (tgt := 30) (by decide) dX8_splitKey_20 (fun h8 => ?_) (fun h8 => ?_)
    · replace hf := it_f h8 hf
      refine j_iload_n C dX8_splitKey_30 rfl ?_
      refine j_if_ne C (tgt := 45) (by decide) dX8_splitKey_31 (fun h9 => ?_) (fun h9 => ?_)
      · replace hf := it_f h9 hf
        refine j_aload_n C dX8_splitKey_45 rfl ?_
        refine j_getf C (q0 := 19) (ci := 8) (k := 1) inX8 rfl (by decide) tw_244 rfl rfl dX8_splitKey_46 ?_
        refine j_iload_n C dX8_splitKey_49 rfl ?_
        replace hf := bd hf
        obtain ⟨v10, h11, hf⟩ := hf
        refine j_callV C cl_X8_184 (c_X0_loadSplitKey h11) ⟨Nat.le_of_ble_eq_true rfl, Nat.le_of_ble_eq_true rfl⟩ ⟨Nat.zero_le _, Nat.zero_le _⟩ (q0 := 0) rfl rfl rfl rfl (Nat.le_of_ble_eq_true rfl) rfl rfl rfl dX8_splitKey_50 ?_
        cases hf
        exact j_iret C dX8_splitKey_53
      · replace hf := it_t h9 hf
        refine j_aload_n C dX8_splitKey_34 rfl ?_
        refine j_getf C (q0 := 19) (ci := 8) (k := 1) inX8 rfl (by decide) tw_244 rfl rfl dX8_splitKey_35 ?_
        refine j_iload_n C dX8_splitKey_38 rfl ?_
        replace hf := bd hf
        obtain ⟨v12, h13, hf⟩ := hf
        refine j_callV C cl_X8_181 (c_X0_sizeSplitKey h13) ⟨Nat.le_of_ble_eq_true rfl, Nat.le_of_ble_eq_true rfl⟩ ⟨Nat.zero_le _, Nat.zero_le _⟩ (q0 := 0) rfl rfl rfl rfl (Nat.le_of_ble_eq_true rfl) rfl rfl rfl dX8_splitKey_39 ?_
        refine j_goto C (tgt := 53) (by decide) dX8_splitKey_42 ?_
        cases hf
        exact j_iret C dX8_splitKey_53
    · replace hf := it_t h8 hf
      refine j_weak [true, false, false] rfl ?_
      exact w_X8_splitKey_23 C  _ _ _ _ hf
set_option maxRecDepth 100000 in
set_option maxHeartbeats 4000000 in
theorem c_X8_replicas {l : Launch} {D : va_G} {cI cS : ClassId} {A : Nat → Prop} {a : Nat → Nat} {d o hh sl : Nat} {b : Nat → Nat → Nat} {rest : va_W}  {σ : Nat → Nat → Int32} {t : Nat → Int32} {h : Nat → Nat → Nat → Int32} {x1 : Int32} {r : Int32 × (Nat → Int32)} (hf : f_X8_replicas σ t h x1 = some r) : CT l yX8_replicas cX8_replicas 2 (some .int) (rmF 2 44) D cI cS A [.ref o, .int x1] (wT a d o hh sl b cI cS σ t h rest) (wT a d o hh sl b cI cS σ r.2 h rest) (some (.int r.1)) := by
  refine CT_of (own := RX8) (xs := [some (.ref o), some (.int x1)]) (by decide) rfl (Nat.le_of_ble_eq_true rfl) rfl ?_
  intro p e s_ m below meth c C
  unfold f_X8_replicas at hf
  refine j_aload_n C dX8_replicas_0 rfl ?_
  refine j_getf C (q0 := 19) (ci := 8) (k := 1) inX8 rfl (by decide) tw_244 rfl rfl dX8_replicas_1 ?_
  refine gf_X8_36 C dX8_replicas_4 ?_
  refine j_iload_n C dX8_replicas_7 rfl ?_
  replace hf := bd hf
  obtain ⟨v1, h2, hf⟩ := hf
  refine j_callV C cl_X8_56 (c_X4_exists h2) ⟨Nat.le_of_ble_eq_true rfl, Nat.le_of_ble_eq_true rfl⟩ ⟨Nat.zero_le _, Nat.zero_le _⟩ (q0 := 2) rfl rfl rfl rfl (Nat.le_of_ble_eq_true rfl) rfl rfl rfl dX8_replicas_8 ?_
  refine j_if_ne C (tgt := 21) (by decide) dX8_replicas_11 (fun h3 => ?_) (fun h3 => ?_)
  · replace hf := it_f h3 hf
    refine j_aload_n C dX8_replicas_21 rfl ?_
    refine j_getf C (q0 := 19) (ci := 8) (k := 1) inX8 rfl (by decide) tw_244 rfl rfl dX8_replicas_22 ?_
    refine gf_X8_126 C dX8_replicas_25 ?_
    refine j_iload_n C dX8_replicas_28 rfl ?_
    replace hf := bd hf
    obtain ⟨v4, h5, hf⟩ := hf
    refine j_callV C cl_X8_187 (c_X5_replicasOn h5) ⟨Nat.le_of_ble_eq_true rfl, Nat.le_of_ble_eq_true rfl⟩ ⟨Nat.zero_le _, Nat.zero_le _⟩ (q0 := 3) rfl rfl rfl rfl (Nat.le_of_ble_eq_true rfl) rfl rfl rfl dX8_replicas_29 ?_
    cases hf
    exact j_iret C dX8_replicas_32
  · replace hf := it_t h3 hf
    refine j_aload_n C dX8_replicas_14 rfl ?_
    refine j_bipush C bp_m2 dX8_replicas_15 ?_
    replace hf := bd hf
    obtain ⟨v6, h7, hf⟩ := hf
    refine j_callV C cl_X8_32 (c_X8_fail h7) ⟨Nat.le_of_ble_eq_true rfl, Nat.le_of_ble_eq_true rfl⟩ ⟨Nat.zero_le _, Nat.zero_le _⟩ (q0 := 19) rfl rfl rfl rfl (Nat.le_of_ble_eq_true rfl) rfl rfl wT_fst dX8_replicas_17 ?_
    cases hf
    exact j_iret C dX8_replicas_20
set_option maxRecDepth 100000 in
set_option maxHeartbeats 4000000 in
theorem c_X8_leaders {l : Launch} {D : va_G} {cI cS : ClassId} {A : Nat → Prop} {a : Nat → Nat} {d o hh sl : Nat} {b : Nat → Nat → Nat} {rest : va_W}  {σ : Nat → Nat → Int32} {t : Nat → Int32} {h : Nat → Nat → Nat → Int32} {x1 : Int32} {r : Int32 × (Nat → Int32)} (hf : f_X8_leaders σ t h x1 = some r) : CT l yX8_leaders cX8_leaders 2 (some .int) (rmF 1 23) D cI cS A [.ref o, .int x1] (wT a d o hh sl b cI cS σ t h rest) (wT a d o hh sl b cI cS σ r.2 h rest) (some (.int r.1)) := by
  refine CT_of (own := RX8) (xs := [some (.ref o), some (.int x1)]) (by decide) rfl (Nat.le_of_ble_eq_true rfl) rfl ?_
  intro p e s_ m below meth c C
  unfold f_X8_leaders at hf
  refine j_aload_n C dX8_leaders_0 rfl ?_
  refine j_getf C (q0 := 19) (ci := 8) (k := 1) inX8 rfl (by decide) tw_244 rfl rfl dX8_leaders_1 ?_
  refine gf_X8_36 C dX8_leaders_4 ?_
  refine j_iload_n C dX8_leaders_7 rfl ?_
  replace hf := bd hf
  obtain ⟨v1, h2, hf⟩ := hf
  refine j_callV C cl_X8_56 (c_X4_exists h2) ⟨Nat.le_of_ble_eq_true rfl, Nat.le_of_ble_eq_true rfl⟩ ⟨Nat.zero_le _, Nat.zero_le _⟩ (q0 := 2) rfl rfl rfl rfl (Nat.le_of_ble_eq_true rfl) rfl rfl rfl dX8_leaders_8 ?_
  refine j_if_ne C (tgt := 21) (by decide) dX8_leaders_11 (fun h3 => ?_) (fun h3 => ?_)
  · replace hf := it_f h3 hf
    refine j_aload_n C dX8_leaders_21 rfl ?_
    refine j_getf C (q0 := 19) (ci := 8) (k := 1) inX8 rfl (by decide) tw_244 rfl rfl dX8_leaders_22 ?_
    refine gf_X8_126 C dX8_leaders_25 ?_
    refine j_iload_n C dX8_leaders_28 rfl ?_
    replace hf := bd hf
    obtain ⟨v4, h5, hf⟩ := hf
    refine j_callV C cl_X8_190 (c_X5_ledBy h5) ⟨Nat.le_of_ble_eq_true rfl, Nat.le_of_ble_eq_true rfl⟩ ⟨Nat.zero_le _, Nat.zero_le _⟩ (q0 := 3) rfl rfl rfl rfl (Nat.le_of_ble_eq_true rfl) rfl rfl rfl dX8_leaders_29 ?_
    cases hf
    exact j_iret C dX8_leaders_32
  · replace hf := it_t h3 hf
    refine j_aload_n C dX8_leaders_14 rfl ?_
    refine j_bipush C bp_m2 dX8_leaders_15 ?_
    replace hf := bd hf
    obtain ⟨v6, h7, hf⟩ := hf
    refine j_callV C cl_X8_32 (c_X8_fail h7) ⟨Nat.le_of_ble_eq_true rfl, Nat.le_of_ble_eq_true rfl⟩ ⟨Nat.zero_le _, Nat.zero_le _⟩ (q0 := 19) rfl rfl rfl rfl (Nat.le_of_ble_eq_true rfl) rfl rfl wT_fst dX8_leaders_17 ?_
    cases hf
    exact j_iret C dX8_leaders_20
set_option maxRecDepth 100000 in
set_option maxHeartbeats 4000000 in
theorem c_X8_undo {l : Launch} {D : va_G} {cI cS : ClassId} {A : Nat → Prop} {a : Nat → Nat} {d o hh sl : Nat} {b : Nat → Nat → Nat} {rest : va_W}  {σ : Nat → Nat → Int32} {t : Nat → Int32} {h : Nat → Nat → Nat → Int32}  {r : Int32 × (Nat → Nat → Int32) × (Nat → Int32)} (hf : f_X8_undo σ t h = some r) : CT l yX8_undo cX8_undo 1 (some .int) (rmF 5 150) D cI cS A [.ref o] (wT a d o hh sl b cI cS σ t h rest) (wT a d o hh sl b cI cS r.2.1 r.2.2 h rest) (some (.int r.1)) := by
  refine CT_of (own := RX8) (xs := [some (.ref o)]) (by decide) rfl (Nat.le_of_ble_eq_true rfl) rfl ?_
  intro p e s_ m below meth c C
  unfold f_X8_undo at hf
  refine j_aload_n C dX8_undo_0 rfl ?_
  refine j_getf C (q0 := 19) (ci := 8) (k := 2) inX8 rfl (by decide) tw_245 rfl rfl dX8_undo_1 ?_
  refine j_getf C (q0 := 20) (ci := 2) (k := 0) inX2 rfl (by decide) tw_233 rfl rfl dX8_undo_4 ?_
  refine j_if_ne C (tgt := 17) (by decide) dX8_undo_7 (fun h1 => ?_) (fun h1 => ?_)
  · replace hf := it_f h1 hf
    refine j_aload_n C dX8_undo_17 rfl ?_
    refine j_getf C (q0 := 19) (ci := 8) (k := 2) inX8 rfl (by decide) tw_245 rfl rfl dX8_undo_18 ?_
    refine j_aload_n C dX8_undo_21 rfl ?_
    refine j_getf C (q0 := 19) (ci := 8) (k := 1) inX8 rfl (by decide) tw_244 rfl rfl dX8_undo_22 ?_
    replace hf := bd hf
    obtain ⟨v2, h3, hf⟩ := hf
    refine j_callV C cl_X8_194 (c_X2_restoreInto h3) ⟨Nat.le_of_ble_eq_true rfl, Nat.le_of_ble_eq_true rfl⟩ ⟨Nat.zero_le _, Nat.zero_le _⟩ (q0 := 20) rfl rfl rfl rfl (Nat.le_of_ble_eq_true rfl) rfl rfl wT_fst dX8_undo_25 ?_
    refine j_aload_n C dX8_undo_28 rfl ?_
    refine j_getf C (q0 := 19) (ci := 8) (k := 2) inX8 rfl (by decide) tw_245 rfl rfl dX8_undo_29 ?_
    refine j_getf C (q0 := 20) (ci := 2) (k := 0) inX2 rfl (by decide) tw_233 rfl rfl dX8_undo_32 ?_
    cases hf
    exact j_iret C dX8_undo_35
  · replace hf := it_t h1 hf
    refine j_aload_n C dX8_undo_10 rfl ?_
    refine j_bipush C bp_m3 dX8_undo_11 ?_
    replace hf := bd hf
    obtain ⟨v4, h5, hf⟩ := hf
    refine j_callV C cl_X8_32 (c_X8_fail h5) ⟨Nat.le_of_ble_eq_true rfl, Nat.le_of_ble_eq_true rfl⟩ ⟨Nat.zero_le _, Nat.zero_le _⟩ (q0 := 19) rfl rfl rfl rfl (Nat.le_of_ble_eq_true rfl) rfl rfl wT_fst dX8_undo_13 ?_
    cases hf
    exact j_iret C dX8_undo_16
set_option maxRecDepth 100000 in
set_option maxHeartbeats 4000000 in
theorem c_X8_errorCount {l : Launch} {D : va_G} {cI cS : ClassId} {A : Nat → Prop} {a : Nat → Nat} {d o hh sl : Nat} {b : Nat → Nat → Nat} {rest : va_W}  {σ : Nat → Nat → Int32} {t : Nat → Int32} {h : Nat → Nat → Nat → Int32} {x1 : Int32} {r : Int32 × (Nat → Int32)} (hf : f_X8_errorCount σ t h x1 = some r) : CT l yX8_errorCount cX8_errorCount 2 (some .int) (rmF 1 21) D cI cS A [.ref o, .int x1] (wT a d o hh sl b cI cS σ t h rest) (wT a d o hh sl b cI cS σ r.2 h rest) (some (.int r.1)) := by
  refine CT_of (own := RX8) (xs := [some (.ref o), some (.int x1)]) (by decide) rfl (Nat.le_of_ble_eq_true rfl) rfl ?_
  intro p e s_ m below meth c C
  unfold f_X8_errorCount at hf
  refine j_iload_n C dX8_errorCount_0 rfl ?_
  rcases Decidable.em (x1 = (0 : Int32)) with h3 | h3
  · replace hf := it_t h3 hf
    refine j_tabIn C (tgt := 28) (by rw [h3]; decide) (by rw [h3]; decide) (by rw [h3]; rfl) (by decide) dX8_errorCount_1 ?_
    refine j_aload_n C dX8_errorCount_28 rfl ?_
    refine j_getf C (q0 := 19) (ci := 8) (k := 3) inX8 rfl (by decide) tw_246 rfl rfl dX8_errorCount_29 ?_
    cases hf
    exact j_iret C dX8_errorCount_32
  · replace hf := it_f h3 hf
    rcases Decidable.em (x1 = (1 : Int32)) with h4 | h4
    · replace hf := it_t h4 hf
      refine j_tabIn C (tgt := 33) (by rw [h4]; decide) (by rw [h4]; decide) (by rw [h4]; rfl) (by decide) dX8_errorCount_1 ?_
      refine j_aload_n C dX8_errorCount_33 rfl ?_
      refine j_getf C (q0 := 19) (ci := 8) (k := 4) inX8 rfl (by decide) tw_247 rfl rfl dX8_errorCount_34 ?_
      cases hf
      exact j_iret C dX8_errorCount_37
    · replace hf := it_f h4 hf
      rcases Decidable.em (x1 = (2 : Int32)) with h5 | h5
      · replace hf := it_t h5 hf
        refine j_tabIn C (tgt := 38) (by rw [h5]; decide) (by rw [h5]; decide) (by rw [h5]; rfl) (by decide) dX8_errorCount_1 ?_
        refine j_aload_n C dX8_errorCount_38 rfl ?_
        refine j_getf C (q0 := 19) (ci := 8) (k := 5) inX8 rfl (by decide) tw_248 rfl rfl dX8_errorCount_39 ?_
        cases hf
        exact j_iret C dX8_errorCount_42
      · replace hf := it_f h5 hf
        refine j_tabOut C (tgt := 43) (ts_out_0_2 h3 h4 h5) (by decide) dX8_errorCount_1 ?_
        refine j_aload_n C dX8_errorCount_43 rfl ?_
        refine j_bipush C bp_m2 dX8_errorCount_44 ?_
        replace hf := bd hf
        obtain ⟨v1, h2, hf⟩ := hf
        refine j_callV C cl_X8_32 (c_X8_fail h2) ⟨Nat.le_of_ble_eq_true rfl, Nat.le_of_ble_eq_true rfl⟩ ⟨Nat.zero_le _, Nat.zero_le _⟩ (q0 := 19) rfl rfl rfl rfl (Nat.le_of_ble_eq_true rfl) rfl rfl wT_fst dX8_errorCount_46 ?_
        cases hf
        exact j_iret C dX8_errorCount_49
set_option maxRecDepth 100000 in
set_option maxHeartbeats 4000000 in
theorem c_X8_mixSettings {l : Launch} {D : va_G} {cI cS : ClassId} {A : Nat → Prop} {a : Nat → Nat} {d o hh sl : Nat} {b : Nat → Nat → Nat} {rest : va_W}  {σ : Nat → Nat → Int32} {t : Nat → Int32} {h : Nat → Nat → Nat → Int32} {x1 : Int64} {r : Int64} (hf : f_X8_mixSettings σ t h x1 = some r) : CT l yX8_mixSettings cX8_mixSettings 6 (some .long) (rmF 1 22) D cI cS A [.ref o, .long x1] (wT a d o hh sl b cI cS σ t h rest) (wT a d o hh sl b cI cS σ t h rest) (some (.long r)) := by
  refine CT_of (own := RX8) (xs := [some (.ref o), some (.long x1), none, none, none, none]) (by decide) rfl (Nat.le_of_ble_eq_true rfl) rfl ?_
  intro p e s_ m below meth c C
  unfold f_X8_mixSettings at hf
  refine j_aload_n C dX8_mixSettings_0 rfl ?_
  refine j_getf C (q0 := 19) (ci := 8) (k := 1) inX8 rfl (by decide) tw_244 rfl rfl dX8_mixSettings_1 ?_
  refine gf_X8_74 C dX8_mixSettings_4 ?_
  refine j_astore_n C (xs' := [some (.ref o), some (.long x1), none, some (.ref (a 1)), none, none]) dX8_mixSettings_7 rfl rfl ?_
  refine j_lload_n C dX8_mixSettings_8 rfl ?_
  refine j_aload_n C dX8_mixSettings_9 rfl ?_
  refine gf_X8_78 C dX8_mixSettings_10 ?_
  replace hf := bd hf
  obtain ⟨v1, h2, hf⟩ := hf
  refine j_callS C cl_X8_208 (c_X8_mix h2) ⟨Nat.le_of_ble_eq_true rfl, Nat.le_of_ble_eq_true rfl⟩ ⟨Nat.zero_le _, Nat.zero_le _⟩ rfl (Nat.le_of_ble_eq_true rfl) rfl rfl rfl dX8_mixSettings_13 ?_
  refine j_lstore C (xs' := [some (.ref o), some (.long x1), none, some (.ref (a 1)), some (.long v1), none]) dX8_mixSettings_16 rfl rfl ?_
  refine j_lload C dX8_mixSettings_18 rfl ?_
  refine j_aload_n C dX8_mixSettings_20 rfl ?_
  refine gf_X8_86 C dX8_mixSettings_21 ?_
  replace hf := bd hf
  obtain ⟨v3, h4, hf⟩ := hf
  refine j_callS C cl_X8_208 (c_X8_mix h4) ⟨Nat.le_of_ble_eq_true rfl, Nat.le_of_ble_eq_true rfl⟩ ⟨Nat.zero_le _, Nat.zero_le _⟩ rfl (Nat.le_of_ble_eq_true rfl) rfl rfl rfl dX8_mixSettings_24 ?_
  refine j_lstore C (xs' := [some (.ref o), some (.long x1), none, some (.ref (a 1)), some (.long v3), none]) dX8_mixSettings_27 rfl rfl ?_
  refine j_lload C dX8_mixSettings_29 rfl ?_
  refine j_aload_n C dX8_mixSettings_31 rfl ?_
  refine gf_X8_83 C dX8_mixSettings_32 ?_
  replace hf := bd hf
  obtain ⟨v5, h6, hf⟩ := hf
  refine j_callS C cl_X8_208 (c_X8_mix h6) ⟨Nat.le_of_ble_eq_true rfl, Nat.le_of_ble_eq_true rfl⟩ ⟨Nat.zero_le _, Nat.zero_le _⟩ rfl (Nat.le_of_ble_eq_true rfl) rfl rfl rfl dX8_mixSettings_35 ?_
  refine j_lstore C (xs' := [some (.ref o), some (.long x1), none, some (.ref (a 1)), some (.long v5), none]) dX8_mixSettings_38 rfl rfl ?_
  refine j_lload C dX8_mixSettings_40 rfl ?_
  refine j_aload_n C dX8_mixSettings_42 rfl ?_
  refine gf_X8_92 C dX8_mixSettings_43 ?_
  replace hf := bd hf
  obtain ⟨v7, h8, hf⟩ := hf
  refine j_callS C cl_X8_208 (c_X8_mix h8) ⟨Nat.le_of_ble_eq_true rfl, Nat.le_of_ble_eq_true rfl⟩ ⟨Nat.zero_le _, Nat.zero_le _⟩ rfl (Nat.le_of_ble_eq_true rfl) rfl rfl rfl dX8_mixSettings_46 ?_
  refine j_lstore C (xs' := [some (.ref o), some (.long x1), none, some (.ref (a 1)), some (.long v7), none]) dX8_mixSettings_49 rfl rfl ?_
  refine j_lload C dX8_mixSettings_51 rfl ?_
  refine j_aload_n C dX8_mixSettings_53 rfl ?_
  refine gf_X8_89 C dX8_mixSettings_54 ?_
  replace hf := bd hf
  obtain ⟨v9, h10, hf⟩ := hf
  refine j_callS C cl_X8_208 (c_X8_mix h10) ⟨Nat.le_of_ble_eq_true rfl, Nat.le_of_ble_eq_true rfl⟩ ⟨Nat.zero_le _, Nat.zero_le _⟩ rfl (Nat.le_of_ble_eq_true rfl) rfl rfl rfl dX8_mixSettings_57 ?_
  refine j_lstore C (xs' := [some (.ref o), some (.long x1), none, some (.ref (a 1)), some (.long v9), none]) dX8_mixSettings_60 rfl rfl ?_
  refine j_lload C dX8_mixSettings_62 rfl ?_
  refine j_aload_n C dX8_mixSettings_64 rfl ?_
  refine gf_X8_95 C dX8_mixSettings_65 ?_
  replace hf := bd hf
  obtain ⟨v11, h12, hf⟩ := hf
  refine j_callS C cl_X8_208 (c_X8_mix h12) ⟨Nat.le_of_ble_eq_true rfl, Nat.le_of_ble_eq_true rfl⟩ ⟨Nat.zero_le _, Nat.zero_le _⟩ rfl (Nat.le_of_ble_eq_true rfl) rfl rfl rfl dX8_mixSettings_68 ?_
  cases hf
  exact j_lret C dX8_mixSettings_71
set_option maxRecDepth 100000 in
set_option maxHeartbeats 4000000 in
theorem w_X8_mixNodes_74 {p : Program} {l : Launch} {e : Env} {s_ : State} {m : MethodId} {args : Array Value} {below : List Frame} {meth : Method} {c : Code} {D : va_G} {cI cS : ClassId} {A : Nat → Prop} {a : Nat → Nat} {d o hh sl : Nat} {b : Nat → Nat → Nat} {rest : va_W}  (C : cx p s_ m args meth c cX8_mixNodes 7 RX8 (some .long) D cI cS) (k21 : (Nat → Nat → Int32) → (Nat → Int32) → (Nat → Nat → Nat → Int32) → Int64 → Int32 → Option (Int64)) (hk21 : ∀ (σ : Nat → Nat → Int32) (t : Nat → Int32) (h : Nat → Nat → Nat → Int32) (x4 : Int64) (x6 : Int32) (r : Int64), k21 σ t h x4 x6 = some r → jG p l e (rmF 2 44) s_ m args below meth c 7 D A (MQ below (QW D A (wT a d o hh sl b cI cS σ t h rest) (some (.long r))) args s_ 0 0 A) (wT a d o hh sl b cI cS σ t h rest) [some (.ref o), none, none, some (.ref (a 2)), some (.long x4), none, some (.int x6)] 21 []) : ∀ (σ : Nat → Nat → Int32) (t : Nat → Int32) (h : Nat → Nat → Nat → Int32) (x6 : Int32) (y0 : Int32) (y1 : Int64) (r : Int64), f_X8_mixNodes_74 k21 σ t h x6 y0 y1 = some r → jG p l e (rmF 2 44) s_ m args below meth c 7 D A (MQ below (QW D A (wT a d o hh sl b cI cS σ t h rest) (some (.long r))) args s_ 0 0 A) (wT a d o hh sl b cI cS σ t h rest) [some (.ref o), none, none, some (.ref (a 2)), none, none, some (.int x6)] 74 [.int y0, .long y1] := by
  intro σ t h x6 y0 y1 r hf
  unfold f_X8_mixNodes_74 at hf
  replace hf := bd hf
  obtain ⟨v15, h16, hf⟩ := hf
  refine j_callS C cl_X8_208 (c_X8_mix h16) ⟨Nat.le_of_ble_eq_true rfl, Nat.le_of_ble_eq_true rfl⟩ ⟨Nat.zero_le _, Nat.zero_le _⟩ rfl (Nat.le_of_ble_eq_true rfl) rfl rfl rfl dX8_mixNodes_74 ?_
  refine j_lstore C (xs' := [some (.ref o), none, none, some (.ref (a 2)), some (.long v15), none, some (.int x6)]) dX8_mixNodes_77 rfl rfl ?_
  refine j_lload C dX8_mixNodes_79 rfl ?_
  refine j_aload_n C dX8_mixNodes_81 rfl ?_
  refine j_getf C (q0 := 19) (ci := 8) (k := 1) inX8 rfl (by decide) tw_244 rfl rfl dX8_mixNodes_82 ?_
  refine gf_X8_126 C dX8_mixNodes_85 ?_
  refine j_iload C dX8_mixNodes_88 rfl ?_
  replace hf := bd hf
  obtain ⟨v17, h18, hf⟩ := hf
  refine j_callV C cl_X8_187 (c_X5_replicasOn h18) ⟨Nat.le_of_ble_eq_true rfl, Nat.le_of_ble_eq_true rfl⟩ ⟨Nat.zero_le _, Nat.zero_le _⟩ (q0 := 3) rfl rfl rfl rfl (Nat.le_of_ble_eq_true rfl) rfl rfl rfl dX8_mixNodes_90 ?_
  replace hf := bd hf
  obtain ⟨v19, h20, hf⟩ := hf
  refine j_callS C cl_X8_208 (c_X8_mix h20) ⟨Nat.le_of_ble_eq_true rfl, Nat.le_of_ble_eq_true rfl⟩ ⟨Nat.zero_le _, Nat.zero_le _⟩ rfl (Nat.le_of_ble_eq_true rfl) rfl rfl rfl dX8_mixNodes_93 ?_
  refine j_lstore C (xs' := [some (.ref o), none, none, some (.ref (a 2)), some (.long v19), none, some (.int x6)]) dX8_mixNodes_96 rfl rfl ?_
  refine j_lload C dX8_mixNodes_98 rfl ?_
  refine j_aload_n C dX8_mixNodes_100 rfl ?_
  refine j_getf C (q0 := 19) (ci := 8) (k := 1) inX8 rfl (by decide) tw_244 rfl rfl dX8_mixNodes_101 ?_
  refine gf_X8_126 C dX8_mixNodes_104 ?_
  refine j_iload C dX8_mixNodes_107 rfl ?_
  replace hf := bd hf
  obtain ⟨v21, h22, hf⟩ := hf
  refine j_callV C cl_X8_190 (c_X5_ledBy h22) ⟨Nat.le_of_ble_eq_true rfl, Nat.le_of_ble_eq_true rfl⟩ ⟨Nat.zero_le _, Nat.zero_le _⟩ (q0 := 3) rfl rfl rfl rfl (Nat.le_of_ble_eq_true rfl) rfl rfl rfl dX8_mixNodes_109 ?_
  replace hf := bd hf
  obtain ⟨v23, h24, hf⟩ := hf
  refine j_callS C cl_X8_208 (c_X8_mix h24) ⟨Nat.le_of_ble_eq_true rfl, Nat.le_of_ble_eq_true rfl⟩ ⟨Nat.zero_le _, Nat.zero_le _⟩ rfl (Nat.le_of_ble_eq_true rfl) rfl rfl rfl dX8_mixNodes_112 ?_
  refine j_lstore C (xs' := [some (.ref o), none, none, some (.ref (a 2)), some (.long v23), none, some (.int x6)]) dX8_mixNodes_115 rfl rfl ?_
  refine j_iinc C (xs' := [some (.ref o), none, none, some (.ref (a 2)), some (.long v23), none, some (.int (x6 + (1 : Int32)))]) dX8_mixNodes_117 rfl (ii_1 _) rfl rfl ?_
  refine j_goto C (tgt := 21) (by decide) dX8_mixNodes_120 ?_
  exact hk21 _ _ _ _ _ _ hf
set_option maxRecDepth 100000 in
set_option maxHeartbeats 4000000 in
theorem w_X8_mixNodes_21 {p : Program} {l : Launch} {e : Env} {s_ : State} {m : MethodId} {args : Array Value} {below : List Frame} {meth : Method} {c : Code} {D : va_G} {cI cS : ClassId} {A : Nat → Prop} {a : Nat → Nat} {d o hh sl : Nat} {b : Nat → Nat → Nat} {rest : va_W}  (C : cx p s_ m args meth c cX8_mixNodes 7 RX8 (some .long) D cI cS)  : ∀ (n_ : Nat) (σ : Nat → Nat → Int32) (t : Nat → Int32) (h : Nat → Nat → Nat → Int32) (x4 : Int64) (x6 : Int32) (r : Int64), f_X8_mixNodes_21  n_ σ t h x4 x6 = some r → jG p l e (rmF 2 44) s_ m args below meth c 7 D A (MQ below (QW D A (wT a d o hh sl b cI cS σ t h rest) (some (.long r))) args s_ 0 0 A) (wT a d o hh sl b cI cS σ t h rest) [some (.ref o), none, none, some (.ref (a 2)), some (.long x4), none, some (.int x6)] 21 [] := by
  intro n_
  induction n_ with
  | zero =>
    intro σ t h x4 x6 r hf
    rw [f_X8_mixNodes_21] at hf
    cases hf
  | succ n_ hk21 =>
    intro σ t h x4 x6 r hf
    rw [f_X8_mixNodes_21] at hf
    refine j_iload C dX8_mixNodes_21 rfl ?_
    refine j_aload_n C dX8_mixNodes_23 rfl ?_
    refine gf_X8_42 C dX8_mixNodes_24 ?_
    refine j_icmp_ge C (tgt := 123) (by decide) dX8_mixNodes_27 (fun h3 => ?_) (fun h3 => ?_)
    · replace hf := it_t h3 hf
      refine j_lload C dX8_mixNodes_123 rfl ?_
      cases hf
      exact j_lret C dX8_mixNodes_125
    · replace hf := it_f h3 hf
      refine j_lload C dX8_mixNodes_30 rfl ?_
      refine j_aload_n C dX8_mixNodes_32 rfl ?_
      refine gf_X8_230 C dX8_mixNodes_33 ?_
      refine j_iload C dX8_mixNodes_36 rfl ?_
      replace hf := ld_s hf
      obtain ⟨v4, h5, e_v4, hf⟩ := hf
      refine aLC_7 C h5 e_v4 dX8_mixNodes_38 ?_
      replace hf := bd hf
      obtain ⟨v6, h7, hf⟩ := hf
      refine j_callS C cl_X8_208 (c_X8_mix h7) ⟨Nat.le_of_ble_eq_true rfl, Nat.le_of_ble_eq_true rfl⟩ ⟨Nat.zero_le _, Nat.zero_le _⟩ rfl (Nat.le_of_ble_eq_true rfl) rfl rfl rfl dX8_mixNodes_39 ?_
      refine j_lstore C (xs' := [some (.ref o), none, none, some (.ref (a 2)), some (.long v6), none, some (.int x6)]) dX8_mixNodes_42 rfl rfl ?_
      refine j_lload C dX8_mixNodes_44 rfl ?_
      refine j_aload_n C dX8_mixNodes_46 rfl ?_
      refine gf_X8_233 C dX8_mixNodes_47 ?_
      refine j_iload C dX8_mixNodes_50 rfl ?_
      replace hf := ld_s hf
      obtain ⟨v8, h9, e_v8, hf⟩ := hf
      refine aLC_8 C h9 e_v8 dX8_mixNodes_52 ?_
      replace hf := bd hf
      obtain ⟨v10, h11, hf⟩ := hf
      refine j_callS C cl_X8_208 (c_X8_mix h11) ⟨Nat.le_of_ble_eq_true rfl, Nat.le_of_ble_eq_true rfl⟩ ⟨Nat.zero_le _, Nat.zero_le _⟩ rfl (Nat.le_of_ble_eq_true rfl) rfl rfl rfl dX8_mixNodes_53 ?_
      refine j_lstore C (xs' := [some (.ref o), none, none, some (.ref (a 2)), some (.long v10), none, some (.int x6)]) dX8_mixNodes_56 rfl rfl ?_
      refine j_lload C dX8_mixNodes_58 rfl ?_
      refine j_aload_n C dX8_mixNodes_60 rfl ?_
      refine j_iload C dX8_mixNodes_61 rfl ?_
      replace hf := bd hf
      obtain ⟨v12, h13, hf⟩ := hf
      refine j_callV C cl_X8_60 (c_X4_isUp h13) ⟨Nat.le_of_ble_eq_true rfl, Nat.le_of_ble_eq_true rfl⟩ ⟨Nat.zero_le _, Nat.zero_le _⟩ (q0 := 2) rfl rfl rfl rfl (Nat.le_of_ble_eq_true rfl) rfl rfl rfl dX8_mixNodes_63 ?_
      refine j_if_eq C (tgt := 73) (by decide) dX8_mixNodes_66 (fun h14 => ?_) (fun h14 => ?_)
      · replace hf := it_t h14 hf
        refine j_iconst C ic_0 dX8_mixNodes_73 ?_
        refine j_weak [true, false, false, true, false, false, true] rfl ?_
        exact w_X8_mixNodes_74 C _ hk21 _ _ _ _ _ _ _ hf
      · replace hf := it_f h14 hf
        refine j_iconst C ic_1 dX8_mixNodes_69 ?_
        refine j_goto C (tgt := 74) (by decide) dX8_mixNodes_70 ?_
        refine j_weak [true, false, false, true, false, false, true] rfl ?_
        exact w_X8_mixNodes_74 C _ hk21 _ _ _ _ _ _ _ hf
set_option maxRecDepth 100000 in
set_option maxHeartbeats 4000000 in
theorem c_X8_mixNodes {l : Launch} {D : va_G} {cI cS : ClassId} {A : Nat → Prop} {a : Nat → Nat} {d o hh sl : Nat} {b : Nat → Nat → Nat} {rest : va_W}  {σ : Nat → Nat → Int32} {t : Nat → Int32} {h : Nat → Nat → Nat → Int32} {x1 : Int64} {r : Int64} (hf : f_X8_mixNodes σ t h x1 = some r) : CT l yX8_mixNodes cX8_mixNodes 7 (some .long) (rmF 2 44) D cI cS A [.ref o, .long x1] (wT a d o hh sl b cI cS σ t h rest) (wT a d o hh sl b cI cS σ t h rest) (some (.long r)) := by
  refine CT_of (own := RX8) (xs := [some (.ref o), some (.long x1), none, none, none, none, none]) (by decide) rfl (Nat.le_of_ble_eq_true rfl) rfl ?_
  intro p e s_ m below meth c C
  unfold f_X8_mixNodes at hf
  refine j_aload_n C dX8_mixNodes_0 rfl ?_
  refine j_getf C (q0 := 19) (ci := 8) (k := 1) inX8 rfl (by decide) tw_244 rfl rfl dX8_mixNodes_1 ?_
  refine gf_X8_36 C dX8_mixNodes_4 ?_
  refine j_astore_n C (xs' := [some (.ref o), some (.long x1), none, some (.ref (a 2)), none, none, none]) dX8_mixNodes_7 rfl rfl ?_
  refine j_lload_n C dX8_mixNodes_8 rfl ?_
  refine j_aload_n C dX8_mixNodes_9 rfl ?_
  refine gf_X8_42 C dX8_mixNodes_10 ?_
  replace hf := bd hf
  obtain ⟨v1, h2, hf⟩ := hf
  refine j_callS C cl_X8_208 (c_X8_mix h2) ⟨Nat.le_of_ble_eq_true rfl, Nat.le_of_ble_eq_true rfl⟩ ⟨Nat.zero_le _, Nat.zero_le _⟩ rfl (Nat.le_of_ble_eq_true rfl) rfl rfl rfl dX8_mixNodes_13 ?_
  refine j_lstore C (xs' := [some (.ref o), some (.long x1), none, some (.ref (a 2)), some (.long v1), none, none]) dX8_mixNodes_16 rfl rfl ?_
  refine j_iconst C ic_0 dX8_mixNodes_18 ?_
  refine j_istore C (xs' := [some (.ref o), some (.long x1), none, some (.ref (a 2)), some (.long v1), none, some (.int (0 : Int32))]) dX8_mixNodes_19 rfl rfl ?_
  refine j_weak [true, false, false, true, true, false, true] rfl ?_
  exact w_X8_mixNodes_21 C  _ _ _ _ _ _ _ hf
set_option maxRecDepth 100000 in
set_option maxHeartbeats 4000000 in
theorem w_X8_mixRanges_21 {p : Program} {l : Launch} {e : Env} {s_ : State} {m : MethodId} {args : Array Value} {below : List Frame} {meth : Method} {c : Code} {D : va_G} {cI cS : ClassId} {A : Nat → Prop} {a : Nat → Nat} {d o hh sl : Nat} {b : Nat → Nat → Nat} {rest : va_W}  (C : cx p s_ m args meth c cX8_mixRanges 7 RX8 (some .long) D cI cS)  : ∀ (n_ : Nat) (σ : Nat → Nat → Int32) (t : Nat → Int32) (h : Nat → Nat → Nat → Int32) (x4 : Int64) (x6 : Int32) (r : Int64), f_X8_mixRanges_21  n_ σ t h x4 x6 = some r → jG p l e (rmF 3 72) s_ m args below meth c 7 D A (MQ below (QW D A (wT a d o hh sl b cI cS σ t h rest) (some (.long r))) args s_ 0 0 A) (wT a d o hh sl b cI cS σ t h rest) [some (.ref o), none, none, some (.ref (a 3)), some (.long x4), none, some (.int x6)] 21 [] := by
  intro n_
  induction n_ with
  | zero =>
    intro σ t h x4 x6 r hf
    rw [f_X8_mixRanges_21] at hf
    cases hf
  | succ n_ hk21 =>
    intro σ t h x4 x6 r hf
    rw [f_X8_mixRanges_21] at hf
    refine j_iload C dX8_mixRanges_21 rfl ?_
    refine j_aload_n C dX8_mixRanges_23 rfl ?_
    refine gf_X8_164 C dX8_mixRanges_24 ?_
    refine j_icmp_ge C (tgt := 169) (by decide) dX8_mixRanges_27 (fun h3 => ?_) (fun h3 => ?_)
    · replace hf := it_t h3 hf
      refine j_lload C dX8_mixRanges_169 rfl ?_
      cases hf
      exact j_lret C dX8_mixRanges_171
    · replace hf := it_f h3 hf
      refine j_lload C dX8_mixRanges_30 rfl ?_
      refine j_aload_n C dX8_mixRanges_32 rfl ?_
      refine gf_X8_139 C dX8_mixRanges_33 ?_
      refine j_iload C dX8_mixRanges_36 rfl ?_
      replace hf := ld_s hf
      obtain ⟨v4, h5, e_v4, hf⟩ := hf
      refine aLC_9 C h5 e_v4 dX8_mixRanges_38 ?_
      replace hf := bd hf
      obtain ⟨v6, h7, hf⟩ := hf
      refine j_callS C cl_X8_208 (c_X8_mix h7) ⟨Nat.le_of_ble_eq_true rfl, Nat.le_of_ble_eq_true rfl⟩ ⟨Nat.zero_le _, Nat.zero_le _⟩ rfl (Nat.le_of_ble_eq_true rfl) rfl rfl rfl dX8_mixRanges_39 ?_
      refine j_lstore C (xs' := [some (.ref o), none, none, some (.ref (a 3)), some (.long v6), none, some (.int x6)]) dX8_mixRanges_42 rfl rfl ?_
      refine j_lload C dX8_mixRanges_44 rfl ?_
      refine j_aload_n C dX8_mixRanges_46 rfl ?_
      refine j_getf C (q0 := 19) (ci := 8) (k := 1) inX8 rfl (by decide) tw_244 rfl rfl dX8_mixRanges_47 ?_
      refine j_iload C dX8_mixRanges_50 rfl ?_
      replace hf := bd hf
      obtain ⟨v8, h9, hf⟩ := hf
      refine j_callV C cl_X8_166 (c_X0_rangeSize h9) ⟨Nat.le_of_ble_eq_true rfl, Nat.le_of_ble_eq_true rfl⟩ ⟨Nat.zero_le _, Nat.zero_le _⟩ (q0 := 0) rfl rfl rfl rfl (Nat.le_of_ble_eq_true rfl) rfl rfl rfl dX8_mixRanges_52 ?_
      replace hf := bd hf
      obtain ⟨v10, h11, hf⟩ := hf
      refine j_callS C cl_X8_208 (c_X8_mix h11) ⟨Nat.le_of_ble_eq_true rfl, Nat.le_of_ble_eq_true rfl⟩ ⟨Nat.zero_le _, Nat.zero_le _⟩ rfl (Nat.le_of_ble_eq_true rfl) rfl rfl rfl dX8_mixRanges_55 ?_
      refine j_lstore C (xs' := [some (.ref o), none, none, some (.ref (a 3)), some (.long v10), none, some (.int x6)]) dX8_mixRanges_58 rfl rfl ?_
      refine j_lload C dX8_mixRanges_60 rfl ?_
      refine j_aload_n C dX8_mixRanges_62 rfl ?_
      refine j_getf C (q0 := 19) (ci := 8) (k := 1) inX8 rfl (by decide) tw_244 rfl rfl dX8_mixRanges_63 ?_
      refine j_iload C dX8_mixRanges_66 rfl ?_
      replace hf := bd hf
      obtain ⟨v12, h13, hf⟩ := hf
      refine j_callV C cl_X8_169 (c_X0_rangeLoad h13) ⟨Nat.le_of_ble_eq_true rfl, Nat.le_of_ble_eq_true rfl⟩ ⟨Nat.zero_le _, Nat.zero_le _⟩ (q0 := 0) rfl rfl rfl rfl (Nat.le_of_ble_eq_true rfl) rfl rfl rfl dX8_mixRanges_68 ?_
      replace hf := bd hf
      obtain ⟨v14, h15, hf⟩ := hf
      refine j_callS C cl_X8_208 (c_X8_mix h15) ⟨Nat.le_of_ble_eq_true rfl, Nat.le_of_ble_eq_true rfl⟩ ⟨Nat.zero_le _, Nat.zero_le _⟩ rfl (Nat.le_of_ble_eq_true rfl) rfl rfl rfl dX8_mixRanges_71 ?_
      refine j_lstore C (xs' := [some (.ref o), none, none, some (.ref (a 3)), some (.long v14), none, some (.int x6)]) dX8_mixRanges_74 rfl rfl ?_
      refine j_lload C dX8_mixRanges_76 rfl ?_
      refine j_aload_n C dX8_mixRanges_78 rfl ?_
      refine gf_X8_172 C dX8_mixRanges_79 ?_
      refine j_iload C dX8_mixRanges_82 rfl ?_
      replace hf := ld_s hf
      obtain ⟨v16, h17, e_v16, hf⟩ := hf
      refine aLC_10 C h17 e_v16 dX8_mixRanges_84 ?_
      replace hf := bd hf
      obtain ⟨v18, h19, hf⟩ := hf
      refine j_callS C cl_X8_208 (c_X8_mix h19) ⟨Nat.le_of_ble_eq_true rfl, Nat.le_of_ble_eq_true rfl⟩ ⟨Nat.zero_le _, Nat.zero_le _⟩ rfl (Nat.le_of_ble_eq_true rfl) rfl rfl rfl dX8_mixRanges_85 ?_
      refine j_lstore C (xs' := [some (.ref o), none, none, some (.ref (a 3)), some (.long v18), none, some (.int x6)]) dX8_mixRanges_88 rfl rfl ?_
      refine j_lload C dX8_mixRanges_90 rfl ?_
      refine j_aload_n C dX8_mixRanges_92 rfl ?_
      refine gf_X8_130 C dX8_mixRanges_93 ?_
      refine j_iload C dX8_mixRanges_96 rfl ?_
      replace hf := ld_s hf
      obtain ⟨v20, h21, e_v20, hf⟩ := hf
      refine aLC_11 C h21 e_v20 dX8_mixRanges_98 ?_
      replace hf := bd hf
      obtain ⟨v22, h23, hf⟩ := hf
      refine j_callS C cl_X8_208 (c_X8_mix h23) ⟨Nat.le_of_ble_eq_true rfl, Nat.le_of_ble_eq_true rfl⟩ ⟨Nat.zero_le _, Nat.zero_le _⟩ rfl (Nat.le_of_ble_eq_true rfl) rfl rfl rfl dX8_mixRanges_99 ?_
      refine j_lstore C (xs' := [some (.ref o), none, none, some (.ref (a 3)), some (.long v22), none, some (.int x6)]) dX8_mixRanges_102 rfl rfl ?_
      refine j_lload C dX8_mixRanges_104 rfl ?_
      refine j_aload_n C dX8_mixRanges_106 rfl ?_
      refine j_iload C dX8_mixRanges_107 rfl ?_
      replace hf := bd hf
      obtain ⟨v24, h25, hf⟩ := hf
      refine j_callV C cl_X8_175 (c_X5_learnerCode h25) ⟨Nat.le_of_ble_eq_true rfl, Nat.le_of_ble_eq_true rfl⟩ ⟨Nat.zero_le _, Nat.zero_le _⟩ (q0 := 3) rfl rfl rfl rfl (Nat.le_of_ble_eq_true rfl) rfl rfl rfl dX8_mixRanges_109 ?_
      replace hf := bd hf
      obtain ⟨v26, h27, hf⟩ := hf
      refine j_callS C cl_X8_208 (c_X8_mix h27) ⟨Nat.le_of_ble_eq_true rfl, Nat.le_of_ble_eq_true rfl⟩ ⟨Nat.zero_le _, Nat.zero_le _⟩ rfl (Nat.le_of_ble_eq_true rfl) rfl rfl rfl dX8_mixRanges_112 ?_
      refine j_lstore C (xs' := [some (.ref o), none, none, some (.ref (a 3)), some (.long v26), none, some (.int x6)]) dX8_mixRanges_115 rfl rfl ?_
      refine j_lload C dX8_mixRanges_117 rfl ?_
      refine j_aload_n C dX8_mixRanges_119 rfl ?_
      refine gf_X8_236 C dX8_mixRanges_120 ?_
      refine j_iload C dX8_mixRanges_123 rfl ?_
      replace hf := ld_s hf
      obtain ⟨v28, h29, e_v28, hf⟩ := hf
      refine aLC_14 C h29 e_v28 dX8_mixRanges_125 ?_
      replace hf := bd hf
      obtain ⟨v30, h31, hf⟩ := hf
      refine j_callS C cl_X8_208 (c_X8_mix h31) ⟨Nat.le_of_ble_eq_true rfl, Nat.le_of_ble_eq_true rfl⟩ ⟨Nat.zero_le _, Nat.zero_le _⟩ rfl (Nat.le_of_ble_eq_true rfl) rfl rfl rfl dX8_mixRanges_126 ?_
      refine j_lstore C (xs' := [some (.ref o), none, none, some (.ref (a 3)), some (.long v30), none, some (.int x6)]) dX8_mixRanges_129 rfl rfl ?_
      refine j_lload C dX8_mixRanges_131 rfl ?_
      refine j_aload_n C dX8_mixRanges_133 rfl ?_
      refine j_getf C (q0 := 19) (ci := 8) (k := 1) inX8 rfl (by decide) tw_244 rfl rfl dX8_mixRanges_134 ?_
      refine j_iload C dX8_mixRanges_137 rfl ?_
      replace hf := bd hf
      obtain ⟨v32, h33, hf⟩ := hf
      refine j_callV C cl_X8_181 (c_X0_sizeSplitKey h33) ⟨Nat.le_of_ble_eq_true rfl, Nat.le_of_ble_eq_true rfl⟩ ⟨Nat.zero_le _, Nat.zero_le _⟩ (q0 := 0) rfl rfl rfl rfl (Nat.le_of_ble_eq_true rfl) rfl rfl rfl dX8_mixRanges_139 ?_
      replace hf := bd hf
      obtain ⟨v34, h35, hf⟩ := hf
      refine j_callS C cl_X8_208 (c_X8_mix h35) ⟨Nat.le_of_ble_eq_true rfl, Nat.le_of_ble_eq_true rfl⟩ ⟨Nat.zero_le _, Nat.zero_le _⟩ rfl (Nat.le_of_ble_eq_true rfl) rfl rfl rfl dX8_mixRanges_142 ?_
      refine j_lstore C (xs' := [some (.ref o), none, none, some (.ref (a 3)), some (.long v34), none, some (.int x6)]) dX8_mixRanges_145 rfl rfl ?_
      refine j_lload C dX8_mixRanges_147 rfl ?_
      refine j_aload_n C dX8_mixRanges_149 rfl ?_
      refine j_getf C (q0 := 19) (ci := 8) (k := 1) inX8 rfl (by decide) tw_244 rfl rfl dX8_mixRanges_150 ?_
      refine j_iload C dX8_mixRanges_153 rfl ?_
      replace hf := bd hf
      obtain ⟨v36, h37, hf⟩ := hf
      refine j_callV C cl_X8_184 (c_X0_loadSplitKey h37) ⟨Nat.le_of_ble_eq_true rfl, Nat.le_of_ble_eq_true rfl⟩ ⟨Nat.zero_le _, Nat.zero_le _⟩ (q0 := 0) rfl rfl rfl rfl (Nat.le_of_ble_eq_true rfl) rfl rfl rfl dX8_mixRanges_155 ?_
      replace hf := bd hf
      obtain ⟨v38, h39, hf⟩ := hf
      refine j_callS C cl_X8_208 (c_X8_mix h39) ⟨Nat.le_of_ble_eq_true rfl, Nat.le_of_ble_eq_true rfl⟩ ⟨Nat.zero_le _, Nat.zero_le _⟩ rfl (Nat.le_of_ble_eq_true rfl) rfl rfl rfl dX8_mixRanges_158 ?_
      refine j_lstore C (xs' := [some (.ref o), none, none, some (.ref (a 3)), some (.long v38), none, some (.int x6)]) dX8_mixRanges_161 rfl rfl ?_
      refine j_iinc C (xs' := [some (.ref o), none, none, some (.ref (a 3)), some (.long v38), none, some (.int (x6 + (1 : Int32)))]) dX8_mixRanges_163 rfl (ii_1 _) rfl rfl ?_
      refine j_goto C (tgt := 21) (by decide) dX8_mixRanges_166 ?_
      exact hk21 _ _ _ _ _ _ hf
set_option maxRecDepth 100000 in
set_option maxHeartbeats 4000000 in
theorem c_X8_mixRanges {l : Launch} {D : va_G} {cI cS : ClassId} {A : Nat → Prop} {a : Nat → Nat} {d o hh sl : Nat} {b : Nat → Nat → Nat} {rest : va_W}  {σ : Nat → Nat → Int32} {t : Nat → Int32} {h : Nat → Nat → Nat → Int32} {x1 : Int64} {r : Int64} (hf : f_X8_mixRanges σ t h x1 = some r) : CT l yX8_mixRanges cX8_mixRanges 7 (some .long) (rmF 3 72) D cI cS A [.ref o, .long x1] (wT a d o hh sl b cI cS σ t h rest) (wT a d o hh sl b cI cS σ t h rest) (some (.long r)) := by
  refine CT_of (own := RX8) (xs := [some (.ref o), some (.long x1), none, none, none, none, none]) (by decide) rfl (Nat.le_of_ble_eq_true rfl) rfl ?_
  intro p e s_ m below meth c C
  unfold f_X8_mixRanges at hf
  refine j_aload_n C dX8_mixRanges_0 rfl ?_
  refine j_getf C (q0 := 19) (ci := 8) (k := 1) inX8 rfl (by decide) tw_244 rfl rfl dX8_mixRanges_1 ?_
  refine gf_X8_126 C dX8_mixRanges_4 ?_
  refine j_astore_n C (xs' := [some (.ref o), some (.long x1), none, some (.ref (a 3)), none, none, none]) dX8_mixRanges_7 rfl rfl ?_
  refine j_lload_n C dX8_mixRanges_8 rfl ?_
  refine j_aload_n C dX8_mixRanges_9 rfl ?_
  refine gf_X8_164 C dX8_mixRanges_10 ?_
  replace hf := bd hf
  obtain ⟨v1, h2, hf⟩ := hf
  refine j_callS C cl_X8_208 (c_X8_mix h2) ⟨Nat.le_of_ble_eq_true rfl, Nat.le_of_ble_eq_true rfl⟩ ⟨Nat.zero_le _, Nat.zero_le _⟩ rfl (Nat.le_of_ble_eq_true rfl) rfl rfl rfl dX8_mixRanges_13 ?_
  refine j_lstore C (xs' := [some (.ref o), some (.long x1), none, some (.ref (a 3)), some (.long v1), none, none]) dX8_mixRanges_16 rfl rfl ?_
  refine j_iconst C ic_0 dX8_mixRanges_18 ?_
  refine j_istore C (xs' := [some (.ref o), some (.long x1), none, some (.ref (a 3)), some (.long v1), none, some (.int (0 : Int32))]) dX8_mixRanges_19 rfl rfl ?_
  refine j_weak [true, false, false, true, true, false, true] rfl ?_
  exact w_X8_mixRanges_21 C  _ _ _ _ _ _ _ hf
set_option maxRecDepth 100000 in
set_option maxHeartbeats 4000000 in
theorem w_X8_digest_100 {p : Program} {l : Launch} {e : Env} {s_ : State} {m : MethodId} {args : Array Value} {below : List Frame} {meth : Method} {c : Code} {D : va_G} {cI cS : ClassId} {A : Nat → Prop} {a : Nat → Nat} {d o hh sl : Nat} {b : Nat → Nat → Nat} {rest : va_W}  (C : cx p s_ m args meth c cX8_digest 4 RX8 (some .long) D cI cS)  : ∀ (n_ : Nat) (σ : Nat → Nat → Int32) (t : Nat → Int32) (h : Nat → Nat → Nat → Int32) (x1 : Int64) (x3 : Int32) (r : Int64), f_X8_digest_100  n_ σ t h x1 x3 = some r → jG p l e (rmF 4 98) s_ m args below meth c 4 D A (MQ below (QW D A (wT a d o hh sl b cI cS σ t h rest) (some (.long r))) args s_ 0 0 A) (wT a d o hh sl b cI cS σ t h rest) [some (.ref o), some (.long x1), none, some (.int x3)] 100 [] := by
  intro n_
  induction n_ with
  | zero =>
    intro σ t h x1 x3 r hf
    rw [f_X8_digest_100] at hf
    cases hf
  | succ n_ hk100 =>
    intro σ t h x1 x3 r hf
    rw [f_X8_digest_100] at hf
    refine j_iload_n C dX8_digest_100 rfl ?_
    refine j_bipush C bp_8 dX8_digest_101 ?_
    refine j_icmp_gt C (tgt := 126) (by decide) dX8_digest_103 (fun h19 => ?_) (fun h19 => ?_)
    · replace hf := it_t h19 hf
      refine j_lload_n C dX8_digest_126 rfl ?_
      cases hf
      exact j_lret C dX8_digest_127
    · replace hf := it_f h19 hf
      refine j_lload_n C dX8_digest_106 rfl ?_
      refine j_aload_n C dX8_digest_107 rfl ?_
      refine j_getf C (q0 := 19) (ci := 8) (k := 1) inX8 rfl (by decide) tw_244 rfl rfl dX8_digest_108 ?_
      refine gf_X8_158 C dX8_digest_111 ?_
      refine j_iload_n C dX8_digest_114 rfl ?_
      replace hf := ld_s hf
      obtain ⟨v20, h21, e_v20, hf⟩ := hf
      refine aLC_6 C h21 e_v20 dX8_digest_115 ?_
      replace hf := bd hf
      obtain ⟨v22, h23, hf⟩ := hf
      refine j_callS C cl_X8_208 (c_X8_mix h23) ⟨Nat.le_of_ble_eq_true rfl, Nat.le_of_ble_eq_true rfl⟩ ⟨Nat.zero_le _, Nat.zero_le _⟩ rfl (Nat.le_of_ble_eq_true rfl) rfl rfl rfl dX8_digest_116 ?_
      refine j_lstore_n C (xs' := [some (.ref o), some (.long v22), none, some (.int x3)]) dX8_digest_119 rfl rfl ?_
      refine j_iinc C (xs' := [some (.ref o), some (.long v22), none, some (.int (x3 + (1 : Int32)))]) dX8_digest_120 rfl (ii_1 _) rfl rfl ?_
      refine j_goto C (tgt := 100) (by decide) dX8_digest_123 ?_
      exact hk100 _ _ _ _ _ _ hf
set_option maxRecDepth 100000 in
set_option maxHeartbeats 4000000 in
theorem c_X8_digest {l : Launch} {D : va_G} {cI cS : ClassId} {A : Nat → Prop} {a : Nat → Nat} {d o hh sl : Nat} {b : Nat → Nat → Nat} {rest : va_W}  {σ : Nat → Nat → Int32} {t : Nat → Int32} {h : Nat → Nat → Nat → Int32}  {r : Int64} (hf : f_X8_digest σ t h = some r) : CT l yX8_digest cX8_digest 4 (some .long) (rmF 4 98) D cI cS A [.ref o] (wT a d o hh sl b cI cS σ t h rest) (wT a d o hh sl b cI cS σ t h rest) (some (.long r)) := by
  refine CT_of (own := RX8) (xs := [some (.ref o), none, none, none]) (by decide) rfl (Nat.le_of_ble_eq_true rfl) rfl ?_
  intro p e s_ m below meth c C
  unfold f_X8_digest at hf
  refine j_ldc2 C tw_724 dX8_digest_0 ?_
  refine j_lstore_n C (xs' := [some (.ref o), some (.long (12532 : Int64)), none, none]) dX8_digest_3 rfl rfl ?_
  refine j_lload_n C dX8_digest_4 rfl ?_
  refine j_aload_n C dX8_digest_5 rfl ?_
  refine j_getf C (q0 := 19) (ci := 8) (k := 3) inX8 rfl (by decide) tw_246 rfl rfl dX8_digest_6 ?_
  replace hf := bd hf
  obtain ⟨v1, h2, hf⟩ := hf
  refine j_callS C cl_X8_208 (c_X8_mix h2) ⟨Nat.le_of_ble_eq_true rfl, Nat.le_of_ble_eq_true rfl⟩ ⟨Nat.zero_le _, Nat.zero_le _⟩ rfl (Nat.le_of_ble_eq_true rfl) rfl rfl rfl dX8_digest_9 ?_
  refine j_lstore_n C (xs' := [some (.ref o), some (.long v1), none, none]) dX8_digest_12 rfl rfl ?_
  refine j_lload_n C dX8_digest_13 rfl ?_
  refine j_aload_n C dX8_digest_14 rfl ?_
  refine j_getf C (q0 := 19) (ci := 8) (k := 4) inX8 rfl (by decide) tw_247 rfl rfl dX8_digest_15 ?_
  replace hf := bd hf
  obtain ⟨v3, h4, hf⟩ := hf
  refine j_callS C cl_X8_208 (c_X8_mix h4) ⟨Nat.le_of_ble_eq_true rfl, Nat.le_of_ble_eq_true rfl⟩ ⟨Nat.zero_le _, Nat.zero_le _⟩ rfl (Nat.le_of_ble_eq_true rfl) rfl rfl rfl dX8_digest_18 ?_
  refine j_lstore_n C (xs' := [some (.ref o), some (.long v3), none, none]) dX8_digest_21 rfl rfl ?_
  refine j_lload_n C dX8_digest_22 rfl ?_
  refine j_aload_n C dX8_digest_23 rfl ?_
  refine j_getf C (q0 := 19) (ci := 8) (k := 5) inX8 rfl (by decide) tw_248 rfl rfl dX8_digest_24 ?_
  replace hf := bd hf
  obtain ⟨v5, h6, hf⟩ := hf
  refine j_callS C cl_X8_208 (c_X8_mix h6) ⟨Nat.le_of_ble_eq_true rfl, Nat.le_of_ble_eq_true rfl⟩ ⟨Nat.zero_le _, Nat.zero_le _⟩ rfl (Nat.le_of_ble_eq_true rfl) rfl rfl rfl dX8_digest_27 ?_
  refine j_lstore_n C (xs' := [some (.ref o), some (.long v5), none, none]) dX8_digest_30 rfl rfl ?_
  refine j_lload_n C dX8_digest_31 rfl ?_
  refine j_aload_n C dX8_digest_32 rfl ?_
  refine j_getf C (q0 := 19) (ci := 8) (k := 2) inX8 rfl (by decide) tw_245 rfl rfl dX8_digest_33 ?_
  refine j_getf C (q0 := 20) (ci := 2) (k := 0) inX2 rfl (by decide) tw_233 rfl rfl dX8_digest_36 ?_
  replace hf := bd hf
  obtain ⟨v7, h8, hf⟩ := hf
  refine j_callS C cl_X8_208 (c_X8_mix h8) ⟨Nat.le_of_ble_eq_true rfl, Nat.le_of_ble_eq_true rfl⟩ ⟨Nat.zero_le _, Nat.zero_le _⟩ rfl (Nat.le_of_ble_eq_true rfl) rfl rfl rfl dX8_digest_39 ?_
  refine j_lstore_n C (xs' := [some (.ref o), some (.long v7), none, none]) dX8_digest_42 rfl rfl ?_
  refine j_lload_n C dX8_digest_43 rfl ?_
  refine j_aload_n C dX8_digest_44 rfl ?_
  refine j_getf C (q0 := 19) (ci := 8) (k := 1) inX8 rfl (by decide) tw_244 rfl rfl dX8_digest_45 ?_
  refine gf_X8_161 C dX8_digest_48 ?_
  replace hf := bd hf
  obtain ⟨v9, h10, hf⟩ := hf
  refine j_callS C cl_X8_208 (c_X8_mix h10) ⟨Nat.le_of_ble_eq_true rfl, Nat.le_of_ble_eq_true rfl⟩ ⟨Nat.zero_le _, Nat.zero_le _⟩ rfl (Nat.le_of_ble_eq_true rfl) rfl rfl rfl dX8_digest_51 ?_
  refine j_lstore_n C (xs' := [some (.ref o), some (.long v9), none, none]) dX8_digest_54 rfl rfl ?_
  refine j_aload_n C dX8_digest_55 rfl ?_
  refine j_lload_n C dX8_digest_56 rfl ?_
  replace hf := bd hf
  obtain ⟨v11, h12, hf⟩ := hf
  refine j_callV C cl_X8_212 (c_X8_mixSettings h12) ⟨Nat.le_of_ble_eq_true rfl, Nat.le_of_ble_eq_true rfl⟩ ⟨Nat.zero_le _, Nat.zero_le _⟩ (q0 := 19) rfl rfl rfl rfl (Nat.le_of_ble_eq_true rfl) rfl rfl rfl dX8_digest_57 ?_
  refine j_lstore_n C (xs' := [some (.ref o), some (.long v11), none, none]) dX8_digest_60 rfl rfl ?_
  refine j_aload_n C dX8_digest_61 rfl ?_
  refine j_lload_n C dX8_digest_62 rfl ?_
  replace hf := bd hf
  obtain ⟨v13, h14, hf⟩ := hf
  refine j_callV C cl_X8_216 (c_X8_mixNodes h14) ⟨Nat.le_of_ble_eq_true rfl, Nat.le_of_ble_eq_true rfl⟩ ⟨Nat.zero_le _, Nat.zero_le _⟩ (q0 := 19) rfl rfl rfl rfl (Nat.le_of_ble_eq_true rfl) rfl rfl rfl dX8_digest_63 ?_
  refine j_lstore_n C (xs' := [some (.ref o), some (.long v13), none, none]) dX8_digest_66 rfl rfl ?_
  refine j_aload_n C dX8_digest_67 rfl ?_
  refine j_lload_n C dX8_digest_68 rfl ?_
  replace hf := bd hf
  obtain ⟨v15, h16, hf⟩ := hf
  refine j_callV C cl_X8_219 (c_X8_mixRanges h16) ⟨Nat.le_of_ble_eq_true rfl, Nat.le_of_ble_eq_true rfl⟩ ⟨Nat.zero_le _, Nat.zero_le _⟩ (q0 := 19) rfl rfl rfl rfl (Nat.le_of_ble_eq_true rfl) rfl rfl rfl dX8_digest_69 ?_
  refine j_lstore_n C (xs' := [some (.ref o), some (.long v15), none, none]) dX8_digest_72 rfl rfl ?_
  refine j_lload_n C dX8_digest_73 rfl ?_
  refine j_aload_n C dX8_digest_74 rfl ?_
  refine j_getf C (q0 := 19) (ci := 8) (k := 1) inX8 rfl (by decide) tw_244 rfl rfl dX8_digest_75 ?_
  refine gf_X8_118 C dX8_digest_78 ?_
  refine gf_X8_222 C dX8_digest_81 ?_
  refine j_aload_n C dX8_digest_84 rfl ?_
  refine j_getf C (q0 := 19) (ci := 8) (k := 1) inX8 rfl (by decide) tw_244 rfl rfl dX8_digest_85 ?_
  refine gf_X8_118 C dX8_digest_88 ?_
  refine gf_X8_223 C dX8_digest_91 ?_
  replace hf := bd hf
  obtain ⟨v17, h18, hf⟩ := hf
  refine j_callS C cl_X8_226 (c_X8_mixRow h18) ⟨Nat.le_of_ble_eq_true rfl, Nat.le_of_ble_eq_true rfl⟩ ⟨Nat.zero_le _, Nat.zero_le _⟩ rfl (Nat.le_of_ble_eq_true rfl) rfl rfl rfl dX8_digest_94 ?_
  refine j_lstore_n C (xs' := [some (.ref o), some (.long v17), none, none]) dX8_digest_97 rfl rfl ?_
  refine j_iconst C ic_1 dX8_digest_98 ?_
  refine j_istore_n C (xs' := [some (.ref o), some (.long v17), none, some (.int (1 : Int32))]) dX8_digest_99 rfl rfl ?_
  exact w_X8_digest_100 C  _ _ _ _ _ _ _ hf

def f_X9_fail (E : Nat → Int32) (x1 : Int32) : Option (Int32 × (Nat → Int32)) := (ld E 3 ((-2 : Int32) - x1) fun v1 => (sd 3 ((-2 : Int32) - x1) (some (x1, (upd E ((-2 : Int32) - x1).toNatClampNeg (v1 + (1 : Int32)))))))
def f_X9_note_51  : Nat → (Nat → Int32) → (Nat → Int32) → (Int32) → Int32 → Option ((Nat → Int32) × (Int32))
  | 0, _, _, _, _ => none
  | n_ + 1, s, P, n, x1 => (if (299 : Int32) ≤ x1 then (some (P, (n + (1 : Int32)))) else (ld s 299 x1 fun v3 => (sd 1196 (((299 : Int32) * n) + x1) ((f_X9_note_51 n_) s (upd P (((299 : Int32) * n) + x1).toNatClampNeg v3) n (x1 + (1 : Int32))))))
def f_X9_note_10  : Nat → (Nat → Int32) → (Nat → Int32) → (Int32) → Int32 → Option ((Nat → Int32) × (Int32))
  | 0, _, _, _, _ => none
  | n_ + 1, s, P, n, x1 => (if (897 : Int32) ≤ x1 then (f_X9_note_51 FU s P (n - (1 : Int32)) (0 : Int32)) else (ld P 1196 (x1 + (299 : Int32)) fun v7 => (sd 1196 x1 ((f_X9_note_10 n_) s (upd P x1.toNatClampNeg v7) n (x1 + (1 : Int32))))))
def f_X9_note (s : Nat → Int32) (P : Nat → Int32) (n : Int32)  : Option ((Nat → Int32) × (Int32)) := (if n = (4 : Int32) then (f_X9_note_10 FU s P n (0 : Int32)) else (f_X9_note_51 FU s P n (0 : Int32)))
def f_X9_undo_26  : Nat → (Nat → Int32) → (Nat → Int32) → (Nat → Int32) → (Int32) → Int32 → Option (Int32 × (Nat → Int32) × (Nat → Int32) × (Int32))
  | 0, _, _, _, _, _ => none
  | n_ + 1, s, P, E, n, x1 => (if (299 : Int32) ≤ x1 then (some (n, s, E, n)) else (ld P 1196 (((299 : Int32) * n) + x1) fun v3 => (sd 299 x1 ((f_X9_undo_26 n_) (upd s x1.toNatClampNeg v3) P E n (x1 + (1 : Int32))))))
def f_X9_undo (s : Nat → Int32) (P : Nat → Int32) (E : Nat → Int32) (n : Int32)  : Option (Int32 × (Nat → Int32) × (Nat → Int32) × (Int32)) := (if n = 0 then ((f_X9_fail E (-3 : Int32)).bind fun v6 => (some (v6.1, s, v6.2, n))) else (f_X9_undo_26 FU s P E (n - (1 : Int32)) (0 : Int32)))
def f_X9_of (s : Nat → Int32) (x1 : Int32) (x2 : Int32) : Option (Int32) := (ld s 299 (((171 : Int32) + ((6 : Int32) * x1)) + x2) fun v1 => (some v1))
def f_X9_set (s : Nat → Int32) (x1 : Int32) (x2 : Int32) (x3 : Int32) : Option ((Nat → Int32)) := (sd 299 (((171 : Int32) + ((6 : Int32) * x1)) + x2) (some (upd s (((171 : Int32) + ((6 : Int32) * x1)) + x2).toNatClampNeg x3)))
def f_X9_isNode (s : Nat → Int32) (x1 : Int32) : Option (Int32) := (ld s 299 (15 : Int32) fun v1 => ((f_X9_in x1 (0 : Int32) (v1 - (1 : Int32))).bind fun v3 => (zr v3 (some v3))))
def f_X9_isRange (s : Nat → Int32) (x1 : Int32) : Option (Int32) := (ld s 299 (17 : Int32) fun v1 => ((f_X9_in x1 (0 : Int32) (v1 - (1 : Int32))).bind fun v3 => (zr v3 (some v3))))
def f_X9_zone (s : Nat → Int32) (x1 : Int32) : Option (Int32) := (ld s 299 ((19 : Int32) + ((3 : Int32) * x1)) fun v1 => (some v1))
def f_X9_isUp (s : Nat → Int32) (x1 : Int32) : Option (Int32) := (ld s 299 (((19 : Int32) + ((3 : Int32) * x1)) + (2 : Int32)) fun v1 => (if v1 = (1 : Int32) then (some (1 : Int32)) else (some (0 : Int32))))
def f_X9_ups_4  : Nat → (Nat → Int32) → Int32 → Int32 → Option (Int32)
  | 0, _, _, _ => none
  | n_ + 1, s, x1, x2 => (ld s 299 (15 : Int32) fun v1 => (if v1 ≤ x2 then (some x1) else ((f_X9_isUp s x2).bind fun v4 => (if v4 = 0 then ((f_X9_ups_4 n_) s (x1 ||| (0 : Int32)) (x2 + (1 : Int32))) else ((f_X9_ups_4 n_) s (x1 ||| ((1 : Int32) <<< (x2 &&& 31))) (x2 + (1 : Int32)))))))
def f_X9_ups (s : Nat → Int32)  : Option (Int32) := (f_X9_ups_4 FU s (0 : Int32) (0 : Int32))
def f_X9_available (s : Nat → Int32) (x1 : Int32) : Option (Int32) := ((f_X9_of s x1 (1 : Int32)).bind fun v1 => ((f_X9_ups s).bind fun v3 => ((f_X9_count (v1 &&& v3)).bind fun v5 => ((f_X9_of s x1 (1 : Int32)).bind fun v7 => ((f_X9_count v7).bind fun v9 => (if ((2 : Int32) * v5) ≤ v9 then (some (0 : Int32)) else (some (1 : Int32))))))))
def f_X9_replicasOf_39 (k4 : (Nat → Int32) → Int32 → Int32 → Int32 → Option (Int32)) (s : Nat → Int32) (x1 : Int32) (x3 : Int32) (y0 : Int32) : Option (Int32) := (k4 s x1 (y0 + (1 : Int32)) (x3 + (1 : Int32)))
def f_X9_replicasOf_4  : Nat → (Nat → Int32) → Int32 → Int32 → Int32 → Option (Int32)
  | 0, _, _, _, _ => none
  | n_ + 1, s, x1, x2, x3 => (ld s 299 (17 : Int32) fun v1 => (if v1 ≤ x3 then (some x2) else ((f_X9_of s x3 (1 : Int32)).bind fun v4 => ((f_X9_has v4 x1).bind fun v6 => (if v6 = 0 then ((f_X9_of s x3 (3 : Int32)).bind fun v9 => (if v9 = x1 then (f_X9_replicasOf_39 (f_X9_replicasOf_4 n_) s x1 x3 x2) else ((f_X9_replicasOf_4 n_) s x1 (x2 + (0 : Int32)) (x3 + (1 : Int32))))) else (f_X9_replicasOf_39 (f_X9_replicasOf_4 n_) s x1 x3 x2))))))
def f_X9_replicasOf (s : Nat → Int32) (x1 : Int32) : Option (Int32) := (f_X9_replicasOf_4 FU s x1 (0 : Int32) (0 : Int32))
def f_X9_leads_39 (k5 : (Nat → Int32) → Int32 → Int32 → Int32 → Int32 → Option (Int32)) (s : Nat → Int32) (x1 : Int32) (x2 : Int32) (x4 : Int32) (y0 : Int32) : Option (Int32) := (k5 s x1 x2 (y0 + (0 : Int32)) (x4 + (1 : Int32)))
def f_X9_leads_5  : Nat → (Nat → Int32) → Int32 → Int32 → Int32 → Int32 → Option (Int32)
  | 0, _, _, _, _, _ => none
  | n_ + 1, s, x1, x2, x3, x4 => (ld s 299 (17 : Int32) fun v1 => (if v1 ≤ x4 then (some x3) else (if x4 = x2 then (f_X9_leads_39 (f_X9_leads_5 n_) s x1 x2 x4 x3) else ((f_X9_of s x4 (2 : Int32)).bind fun v5 => (if v5 = x1 then ((f_X9_leads_5 n_) s x1 x2 (x3 + (1 : Int32)) (x4 + (1 : Int32))) else (f_X9_leads_39 (f_X9_leads_5 n_) s x1 x2 x4 x3))))))
def f_X9_leads (s : Nat → Int32) (x1 : Int32) (x2 : Int32) : Option (Int32) := (f_X9_leads_5 FU s x1 x2 (0 : Int32) (0 : Int32))
def f_X9_elect_71 (k29 : (Nat → Int32) → Int32 → Int32 → Int32 → Int32 → Option ((Nat → Int32))) (s : Nat → Int32) (x1 : Int32) (x2 : Int32) (x3 : Int32) (x4 : Int32) (y0 : Int32) : Option ((Nat → Int32)) := (if y0 = 0 then (k29 s x1 x2 x3 (x4 + (1 : Int32))) else (k29 s x1 x4 x3 (x4 + (1 : Int32))))
def f_X9_elect_70 (k29 : (Nat → Int32) → Int32 → Int32 → Int32 → Int32 → Option ((Nat → Int32))) (s : Nat → Int32) (x1 : Int32) (x2 : Int32) (x3 : Int32) (x4 : Int32) : Option ((Nat → Int32)) := (f_X9_elect_71 k29 s x1 x2 x3 x4 (0 : Int32))
def f_X9_elect_66 (k29 : (Nat → Int32) → Int32 → Int32 → Int32 → Int32 → Option ((Nat → Int32))) (s : Nat → Int32) (x1 : Int32) (x2 : Int32) (x3 : Int32) (x4 : Int32) : Option ((Nat → Int32)) := (f_X9_elect_71 k29 s x1 x2 x3 x4 (1 : Int32))
def f_X9_elect_29  : Nat → (Nat → Int32) → Int32 → Int32 → Int32 → Int32 → Option ((Nat → Int32))
  | 0, _, _, _, _, _ => none
  | n_ + 1, s, x1, x2, x3, x4 => (if (8 : Int32) ≤ x4 then ((f_X9_set s x1 (2 : Int32) x2).bind fun v5 => (some v5)) else ((f_X9_has x3 x4).bind fun v7 => (if v7 = 0 then (f_X9_elect_70 (f_X9_elect_29 n_) s x1 x2 x3 x4) else (if x2 = (-1 : Int32) then (f_X9_elect_66 (f_X9_elect_29 n_) s x1 x2 x3 x4) else ((f_X9_leads s x4 x1).bind fun v12 => ((f_X9_leads s x2 x1).bind fun v14 => (if v14 ≤ v12 then (f_X9_elect_70 (f_X9_elect_29 n_) s x1 x2 x3 x4) else (f_X9_elect_66 (f_X9_elect_29 n_) s x1 x2 x3 x4))))))))
def f_X9_elect (s : Nat → Int32) (x1 : Int32) : Option ((Nat → Int32)) := ((f_X9_available s x1).bind fun v1 => (if v1 = 0 then (f_X9_elect_29 FU s x1 (-1 : Int32) (0 : Int32) (0 : Int32)) else ((f_X9_of s x1 (1 : Int32)).bind fun v17 => ((f_X9_ups s).bind fun v19 => (f_X9_elect_29 FU s x1 (-1 : Int32) (v17 &&& v19) (0 : Int32))))))
def f_X9_isFresh_57 (k6 : (Nat → Int32) → Int32 → Int32 → Int32 → Int32 → Int32 → Option (Int32)) (s : Nat → Int32) (x1 : Int32) (x2 : Int32) (x3 : Int32) (x5 : Int32) : Option (Int32) := (k6 s x1 x2 x3 (1 : Int32) (x5 + (1 : Int32)))
def f_X9_isFresh_6  : Nat → (Nat → Int32) → Int32 → Int32 → Int32 → Int32 → Int32 → Option (Int32)
  | 0, _, _, _, _, _, _ => none
  | n_ + 1, s, x1, x2, x3, x4, x5 => (ld s 299 (15 : Int32) fun v1 => (if v1 ≤ x5 then (zr x4 (some x4)) else (if x4 = 0 then ((f_X9_isFresh_6 n_) s x1 x2 x3 (0 : Int32) (x5 + (1 : Int32))) else ((f_X9_of s x1 (1 : Int32)).bind fun v6 => ((f_X9_has v6 x5).bind fun v8 => (if v8 = 0 then (f_X9_isFresh_57 (f_X9_isFresh_6 n_) s x1 x2 x3 x5) else (if x5 = x3 then (f_X9_isFresh_57 (f_X9_isFresh_6 n_) s x1 x2 x3 x5) else ((f_X9_zone s x5).bind fun v12 => ((f_X9_zone s x2).bind fun v14 => (if v12 = v14 then ((f_X9_isFresh_6 n_) s x1 x2 x3 (0 : Int32) (x5 + (1 : Int32))) else (f_X9_isFresh_57 (f_X9_isFresh_6 n_) s x1 x2 x3 x5)))))))))))
def f_X9_isFresh (s : Nat → Int32) (x1 : Int32) (x2 : Int32) (x3 : Int32) : Option (Int32) := (f_X9_isFresh_6 FU s x1 x2 x3 (1 : Int32) (0 : Int32))
def f_X9_choose_127 (k8 : (Nat → Int32) → Int32 → Int32 → Int32 → Int32 → Int32 → Option (Int32)) (s : Nat → Int32) (x1 : Int32) (x2 : Int32) (x5 : Int32) (x8 : Int32) : Option (Int32) := (k8 s x1 x2 x5 x8 (x5 + (1 : Int32)))
def f_X9_choose_105 (k8 : (Nat → Int32) → Int32 → Int32 → Int32 → Int32 → Int32 → Option (Int32)) (s : Nat → Int32) (x1 : Int32) (x2 : Int32) (x3 : Int32) (x4 : Int32) (x5 : Int32) (x6 : Int32) (x7 : Int32) (y0 : Int32) : Option (Int32) := (if x7 = 0 then (k8 s x1 x2 x3 x4 (x5 + (1 : Int32))) else (if x3 = (-1 : Int32) then (f_X9_choose_127 k8 s x1 x2 x5 (y0 + x6)) else (if x4 ≤ (y0 + x6) then (k8 s x1 x2 x3 x4 (x5 + (1 : Int32))) else (f_X9_choose_127 k8 s x1 x2 x5 (y0 + x6)))))
def f_X9_choose_86 (k8 : (Nat → Int32) → Int32 → Int32 → Int32 → Int32 → Int32 → Option (Int32)) (s : Nat → Int32) (x1 : Int32) (x2 : Int32) (x3 : Int32) (x4 : Int32) (x5 : Int32) (x6 : Int32) (y0 : Int32) : Option (Int32) := ((f_X9_isFresh s x1 x5 x2).bind fun v9 => (if v9 = 0 then (f_X9_choose_105 k8 s x1 x2 x3 x4 x5 x6 y0 (100 : Int32)) else (f_X9_choose_105 k8 s x1 x2 x3 x4 x5 x6 y0 (0 : Int32))))
def f_X9_choose_85 (k8 : (Nat → Int32) → Int32 → Int32 → Int32 → Int32 → Int32 → Option (Int32)) (s : Nat → Int32) (x1 : Int32) (x2 : Int32) (x3 : Int32) (x4 : Int32) (x5 : Int32) (x6 : Int32) : Option (Int32) := (f_X9_choose_86 k8 s x1 x2 x3 x4 x5 x6 (0 : Int32))
def f_X9_choose_8  : Nat → (Nat → Int32) → Int32 → Int32 → Int32 → Int32 → Int32 → Option (Int32)
  | 0, _, _, _, _, _, _ => none
  | n_ + 1, s, x1, x2, x3, x4, x5 => (ld s 299 (15 : Int32) fun v1 => (if v1 ≤ x5 then (some x3) else ((f_X9_replicasOf s x5).bind fun v4 => ((f_X9_isUp s x5).bind fun v6 => (if v6 = 0 then (f_X9_choose_85 (f_X9_choose_8 n_) s x1 x2 x3 x4 x5 v4) else (ld s 299 (((19 : Int32) + ((3 : Int32) * x5)) + (1 : Int32)) fun v15 => (if v15 ≤ v4 then (f_X9_choose_85 (f_X9_choose_8 n_) s x1 x2 x3 x4 x5 v4) else ((f_X9_of s x1 (1 : Int32)).bind fun v18 => ((f_X9_has v18 x5).bind fun v20 => (if v20 = 0 then ((f_X9_of s x1 (3 : Int32)).bind fun v23 => (if v23 = x5 then (f_X9_choose_85 (f_X9_choose_8 n_) s x1 x2 x3 x4 x5 v4) else (f_X9_choose_86 (f_X9_choose_8 n_) s x1 x2 x3 x4 x5 v4 (1 : Int32)))) else (f_X9_choose_85 (f_X9_choose_8 n_) s x1 x2 x3 x4 x5 v4)))))))))))
def f_X9_choose (s : Nat → Int32) (x1 : Int32) (x2 : Int32) : Option (Int32) := (f_X9_choose_8 FU s x1 x2 (-1 : Int32) (0 : Int32) (0 : Int32))
def f_X9_end (s : Nat → Int32) (x1 : Int32) : Option (Int32) := (ld s 299 (17 : Int32) fun v1 => (if v1 ≤ (x1 + (1 : Int32)) then (some (9999 : Int32)) else ((f_X9_of s (x1 + (1 : Int32)) (0 : Int32)).bind fun v4 => (some (v4 - (1 : Int32))))))
def f_X9_isIn (s : Nat → Int32) (x1 : Int32) (x2 : Int32) : Option (Int32) := ((f_X9_of s x2 (0 : Int32)).bind fun v1 => ((f_X9_end s x2).bind fun v3 => ((f_X9_in x1 v1 v3).bind fun v5 => (zr v5 (some v5)))))
def f_X9_placeOf_2  : Nat → (Nat → Int32) → Int32 → Int32 → Option (Int32)
  | 0, _, _, _ => none
  | n_ + 1, s, x1, x2 => (ld s 299 (16 : Int32) fun v1 => (if v1 ≤ x2 then (some (-1 : Int32)) else (ld s 299 ((43 : Int32) + ((2 : Int32) * x2)) fun v4 => (if v4 = x1 then (some ((43 : Int32) + ((2 : Int32) * x2))) else ((f_X9_placeOf_2 n_) s x1 (x2 + (1 : Int32)))))))
def f_X9_placeOf (s : Nat → Int32) (x1 : Int32) : Option (Int32) := (f_X9_placeOf_2 FU s x1 (0 : Int32))
def f_X9_below_106 (k24 : (Nat → Int32) → Int32 → Int32 → Int32 → Int32 → Int32 → Int32 → Option (Int32)) (s : Nat → Int32) (x1 : Int32) (x2 : Int32) (x3 : Int32) (x5 : Int32) (x6 : Int32) (y0 : Int32) : Option (Int32) := (k24 s x1 x2 x3 (y0 + (0 : Int32)) x5 (x6 + (1 : Int32)))
def f_X9_below_61 (k24 : (Nat → Int32) → Int32 → Int32 → Int32 → Int32 → Int32 → Int32 → Option (Int32)) (s : Nat → Int32) (x1 : Int32) (x2 : Int32) (x3 : Int32) (x4 : Int32) (x5 : Int32) (x6 : Int32) (y0 : Int32) : Option (Int32) := ((f_X9_isIn s y0 x1).bind fun v8 => (if v8 = 0 then (f_X9_below_106 k24 s x1 x2 x3 x5 x6 x4) else (if x2 ≤ y0 then (f_X9_below_106 k24 s x1 x2 x3 x5 x6 x4) else (if x3 = 0 then (ld s 299 (((43 : Int32) + ((2 : Int32) * x6)) + (1 : Int32)) fun v13 => (k24 s x1 x2 x3 (x4 + v13) x5 (x6 + (1 : Int32)))) else (k24 s x1 x2 x3 (x4 + (1 : Int32)) x5 (x6 + (1 : Int32)))))))
def f_X9_below_24  : Nat → (Nat → Int32) → Int32 → Int32 → Int32 → Int32 → Int32 → Int32 → Option (Int32)
  | 0, _, _, _, _, _, _, _ => none
  | n_ + 1, s, x1, x2, x3, x4, x5, x6 => (if x5 ≤ x6 then (some x4) else (if x3 = 0 then (ld s 299 ((43 : Int32) + ((2 : Int32) * x6)) fun v15 => (f_X9_below_61 (f_X9_below_24 n_) s x1 x2 x3 x4 x5 x6 v15)) else (ld s 299 ((267 : Int32) + x6) fun v6 => (f_X9_below_61 (f_X9_below_24 n_) s x1 x2 x3 x4 x5 x6 v6))))
def f_X9_below_18  (s : Nat → Int32) (x1 : Int32) (x2 : Int32) (x3 : Int32) (x4 : Int32) (y0 : Int32) : Option (Int32) := (ld s 299 y0 fun v2 => (f_X9_below_24 FU s x1 x2 x3 x4 v2 (0 : Int32)))
def f_X9_below (s : Nat → Int32) (x1 : Int32) (x2 : Int32) (x3 : Int32) : Option (Int32) := (if x3 = 0 then (f_X9_below_18 s x1 x2 x3 (0 : Int32) (16 : Int32)) else (f_X9_below_18 s x1 x2 x3 (0 : Int32) (18 : Int32)))
def f_X9_all (s : Nat → Int32) (x1 : Int32) (x2 : Int32) : Option (Int32) := ((f_X9_below s x1 (10000 : Int32) x2).bind fun v1 => (some v1))
def f_X9_splitKeyOf_220 (k138 : (Nat → Int32) → Int32 → Int32 → Int32 → Int32 → Int32 → Int32 → Int32 → Option (Int32)) (s : Nat → Int32) (x1 : Int32) (x2 : Int32) (x3 : Int32) (x5 : Int32) (x6 : Int32) (x7 : Int32) (x8 : Int32) (x9 : Int32) (y0 : Int32) : Option (Int32) := (if y0 = 0 then (k138 s x1 x2 x3 x5 x6 x7 (x8 + (1 : Int32))) else (k138 s x1 x2 x3 x5 x9 x7 (x8 + (1 : Int32))))
def f_X9_splitKeyOf_219 (k138 : (Nat → Int32) → Int32 → Int32 → Int32 → Int32 → Int32 → Int32 → Int32 → Option (Int32)) (s : Nat → Int32) (x1 : Int32) (x2 : Int32) (x3 : Int32) (x5 : Int32) (x6 : Int32) (x7 : Int32) (x8 : Int32) (x9 : Int32) : Option (Int32) := (f_X9_splitKeyOf_220 k138 s x1 x2 x3 x5 x6 x7 x8 x9 (0 : Int32))
def f_X9_splitKeyOf_175 (k138 : (Nat → Int32) → Int32 → Int32 → Int32 → Int32 → Int32 → Int32 → Int32 → Option (Int32)) (s : Nat → Int32) (x1 : Int32) (x2 : Int32) (x3 : Int32) (x5 : Int32) (x6 : Int32) (x7 : Int32) (x8 : Int32) (y0 : Int32) : Option (Int32) := ((f_X9_isIn s y0 x1).bind fun v12 => (if v12 = 0 then (f_X9_splitKeyOf_219 k138 s x1 x2 x3 x5 x6 x7 x8 y0) else (if y0 = x3 then (f_X9_splitKeyOf_219 k138 s x1 x2 x3 x5 x6 x7 x8 y0) else (if x6 ≤ y0 then (f_X9_splitKeyOf_219 k138 s x1 x2 x3 x5 x6 x7 x8 y0) else ((f_X9_below s x1 y0 x2).bind fun v18 => (if ((2 : Int32) * v18) < x7 then (f_X9_splitKeyOf_219 k138 s x1 x2 x3 x5 x6 x7 x8 y0) else (f_X9_splitKeyOf_220 k138 s x1 x2 x3 x5 x6 x7 x8 y0 (1 : Int32))))))))
def f_X9_splitKeyOf_138  : Nat → (Nat → Int32) → Int32 → Int32 → Int32 → Int32 → Int32 → Int32 → Int32 → Option (Int32)
  | 0, _, _, _, _, _, _, _, _ => none
  | n_ + 1, s, x1, x2, x3, x5, x6, x7, x8 => (if x5 ≤ x8 then (some x6) else (if x2 = 0 then (ld s 299 ((43 : Int32) + ((2 : Int32) * x8)) fun v21 => (f_X9_splitKeyOf_175 (f_X9_splitKeyOf_138 n_) s x1 x2 x3 x5 x6 x7 x8 v21)) else (ld s 299 ((267 : Int32) + x8) fun v10 => (f_X9_splitKeyOf_175 (f_X9_splitKeyOf_138 n_) s x1 x2 x3 x5 x6 x7 x8 v10))))
def f_X9_splitKeyOf_92 (k26 : (Nat → Int32) → Int32 → Int32 → Int32 → Int32 → Int32 → Int32 → Option (Int32)) (s : Nat → Int32) (x1 : Int32) (x2 : Int32) (x4 : Int32) (x5 : Int32) (x6 : Int32) (x7 : Int32) (y0 : Int32) : Option (Int32) := (if x7 ≤ x4 then (k26 s x1 x2 y0 x4 x5 (x6 + (1 : Int32))) else (k26 s x1 x2 y0 x7 x5 (x6 + (1 : Int32))))
def f_X9_splitKeyOf_86 (k26 : (Nat → Int32) → Int32 → Int32 → Int32 → Int32 → Int32 → Int32 → Option (Int32)) (s : Nat → Int32) (x1 : Int32) (x2 : Int32) (x4 : Int32) (x5 : Int32) (x6 : Int32) (x7 : Int32) : Option (Int32) := (f_X9_splitKeyOf_92 k26 s x1 x2 x4 x5 x6 x7 x7)
def f_X9_splitKeyOf_63 (k26 : (Nat → Int32) → Int32 → Int32 → Int32 → Int32 → Int32 → Int32 → Option (Int32)) (s : Nat → Int32) (x1 : Int32) (x2 : Int32) (x3 : Int32) (x4 : Int32) (x5 : Int32) (x6 : Int32) (y0 : Int32) : Option (Int32) := ((f_X9_isIn s y0 x1).bind fun v26 => (if v26 = 0 then (k26 s x1 x2 x3 x4 x5 (x6 + (1 : Int32))) else (if x3 = (-1 : Int32) then (f_X9_splitKeyOf_86 k26 s x1 x2 x4 x5 x6 y0) else (if x3 ≤ y0 then (f_X9_splitKeyOf_92 k26 s x1 x2 x4 x5 x6 y0 x3) else (f_X9_splitKeyOf_86 k26 s x1 x2 x4 x5 x6 y0)))))
def f_X9_splitKeyOf_26  : Nat → (Nat → Int32) → Int32 → Int32 → Int32 → Int32 → Int32 → Int32 → Option (Int32)
  | 0, _, _, _, _, _, _, _ => none
  | n_ + 1, s, x1, x2, x3, x4, x5, x6 => (if x5 ≤ x6 then (if x3 = x4 then (some (-1 : Int32)) else ((f_X9_all s x1 x2).bind fun v6 => (f_X9_splitKeyOf_138 FU s x1 x2 x3 x5 x4 v6 (0 : Int32)))) else (if x2 = 0 then (ld s 299 ((43 : Int32) + ((2 : Int32) * x6)) fun v32 => (f_X9_splitKeyOf_63 (f_X9_splitKeyOf_26 n_) s x1 x2 x3 x4 x5 x6 v32)) else (ld s 299 ((267 : Int32) + x6) fun v24 => (f_X9_splitKeyOf_63 (f_X9_splitKeyOf_26 n_) s x1 x2 x3 x4 x5 x6 v24))))
def f_X9_splitKeyOf_20  (s : Nat → Int32) (x1 : Int32) (x2 : Int32) (x3 : Int32) (x4 : Int32) (y0 : Int32) : Option (Int32) := (ld s 299 y0 fun v2 => (f_X9_splitKeyOf_26 FU s x1 x2 x3 x4 v2 (0 : Int32)))
def f_X9_splitKeyOf (s : Nat → Int32) (x1 : Int32) (x2 : Int32) : Option (Int32) := (if x2 = 0 then (f_X9_splitKeyOf_20 s x1 x2 (-1 : Int32) (-1 : Int32) (16 : Int32)) else (f_X9_splitKeyOf_20 s x1 x2 (-1 : Int32) (-1 : Int32) (18 : Int32)))
def f_X9_rangeAt_2  : Nat → (Nat → Int32) → Int32 → Int32 → Option (Int32)
  | 0, _, _, _ => none
  | n_ + 1, s, x1, x2 => ((f_X9_isIn s x1 x2).bind fun v1 => (if v1 = 0 then ((f_X9_rangeAt_2 n_) s x1 (x2 + (1 : Int32))) else (some x2)))
def f_X9_rangeAt (s : Nat → Int32) (x1 : Int32) : Option (Int32) := (f_X9_rangeAt_2 FU s x1 (0 : Int32))
def f_X9_split_17  : Nat → (Nat → Int32) → Int32 → Int32 → Int32 → Option ((Nat → Int32))
  | 0, _, _, _, _ => none
  | n_ + 1, s, x1, x2, x3 => (if x3 < ((171 : Int32) + ((6 : Int32) * x1)) then (ld s 299 (17 : Int32) fun v4 => (sd 299 (17 : Int32) ((f_X9_set (upd s (17 : Int32).toNatClampNeg (v4 + (1 : Int32))) (x1 + (1 : Int32)) (0 : Int32) x2).bind fun v7 => (some v7)))) else (ld s 299 x3 fun v9 => (sd 299 (x3 + (6 : Int32)) ((f_X9_split_17 n_) (upd s (x3 + (6 : Int32)).toNatClampNeg v9) x1 x2 (x3 + (-1 : Int32))))))
def f_X9_split (s : Nat → Int32) (x1 : Int32) (x2 : Int32) : Option ((Nat → Int32)) := (ld s 299 (17 : Int32) fun v1 => (f_X9_split_17 FU s x1 x2 (((171 : Int32) + ((6 : Int32) * v1)) - (1 : Int32))))
def f_X9_mergeNextInto_66  : Nat → (Nat → Int32) → Int32 → Option ((Nat → Int32))
  | 0, _, _ => none
  | n_ + 1, s, x2 => (if (6 : Int32) ≤ x2 then (some s) else (ld s 299 (17 : Int32) fun v8 => ((f_X9_set s v8 x2 (0 : Int32)).bind fun v10 => ((f_X9_mergeNextInto_66 n_) v10 (x2 + (1 : Int32))))))
def f_X9_mergeNextInto_11  : Nat → (Nat → Int32) → Int32 → Option ((Nat → Int32))
  | 0, _, _ => none
  | n_ + 1, s, x2 => (ld s 299 (17 : Int32) fun v1 => (if ((171 : Int32) + ((6 : Int32) * v1)) ≤ (x2 + (6 : Int32)) then (ld s 299 (17 : Int32) fun v4 => (sd 299 (17 : Int32) (f_X9_mergeNextInto_66 FU (upd s (17 : Int32).toNatClampNeg (v4 - (1 : Int32))) (0 : Int32)))) else (ld s 299 (x2 + (6 : Int32)) fun v12 => (sd 299 x2 ((f_X9_mergeNextInto_11 n_) (upd s x2.toNatClampNeg v12) (x2 + (1 : Int32)))))))
def f_X9_mergeNextInto (s : Nat → Int32) (x1 : Int32) : Option ((Nat → Int32)) := (f_X9_mergeNextInto_11 FU s ((171 : Int32) + ((6 : Int32) * (x1 + (1 : Int32)))))
def f_X9_learn (s : Nat → Int32) (x1 : Int32) (x2 : Int32) (x3 : Int32) : Option ((Nat → Int32)) := ((f_X9_set s x1 (3 : Int32) x2).bind fun v1 => ((f_X9_all v1 x1 (0 : Int32)).bind fun v3 => (ld v1 299 (5 : Int32) fun v5 => (dz v5 ((f_X9_set v1 x1 (4 : Int32) ((1 : Int32) + (v3 / v5))).bind fun v8 => ((f_X9_set v8 x1 (5 : Int32) x3).bind fun v10 => (some v10)))))))
def f_X9_forgetLearner (s : Nat → Int32) (x1 : Int32) : Option ((Nat → Int32)) := ((f_X9_set s x1 (3 : Int32) (-1 : Int32)).bind fun v1 => ((f_X9_set v1 x1 (4 : Int32) (0 : Int32)).bind fun v3 => ((f_X9_set v3 x1 (5 : Int32) (-1 : Int32)).bind fun v5 => (some v5))))
def f_X9_progress_100  (s : Nat → Int32) (x1 : Int32) (x3 : Int32) (y0 : Int32) (y1 : Int32) (y2 : Int32) : Option ((Nat → Int32)) := ((f_X9_set s y2 y1 y0).bind fun v24 => (if x3 = (-1 : Int32) then (some v24) else ((f_X9_of v24 x1 (2 : Int32)).bind fun v27 => (if v27 = x3 then ((f_X9_elect v24 x1).bind fun v30 => (some v30)) else (some v24)))))
def f_X9_progress (s : Nat → Int32) (x1 : Int32) : Option ((Nat → Int32)) := ((f_X9_of s x1 (3 : Int32)).bind fun v1 => (if v1 = (-1 : Int32) then (some s) else ((f_X9_isUp s v1).bind fun v4 => (if v4 = 0 then (some s) else ((f_X9_of s x1 (2 : Int32)).bind fun v7 => (if v7 = (-1 : Int32) then (some s) else ((f_X9_of s x1 (4 : Int32)).bind fun v10 => ((f_X9_set s x1 (4 : Int32) (v10 - (1 : Int32))).bind fun v12 => ((f_X9_of v12 x1 (4 : Int32)).bind fun v14 => (if v14 ≤ 0 then ((f_X9_of v12 x1 (5 : Int32)).bind fun v17 => ((f_X9_forgetLearner v12 x1).bind fun v19 => ((f_X9_of v19 x1 (1 : Int32)).bind fun v21 => (if v17 = (-1 : Int32) then (f_X9_progress_100 v19 x1 v17 (v21 ||| ((1 : Int32) <<< (v1 &&& 31))) (1 : Int32) x1) else (f_X9_progress_100 v19 x1 v17 ((v21 ||| ((1 : Int32) <<< (v1 &&& 31))) &&& (((1 : Int32) <<< (v17 &&& 31)) ^^^ (-1 : Int32))) (1 : Int32) x1))))) else (some v12)))))))))))
def f_X9_create_19  (s : Nat → Int32) (x1 : Int32) (y0 : Int32) : Option (Int32 × (Nat → Int32)) := (if y0 = (-1 : Int32) then (some ((0 : Int32), s)) else ((f_X9_set s x1 (1 : Int32) ((1 : Int32) <<< (y0 &&& 31))).bind fun v5 => ((f_X9_elect v5 x1).bind fun v7 => (some ((1 : Int32), v7)))))
def f_X9_create (s : Nat → Int32) (x1 : Int32) : Option (Int32 × (Nat → Int32)) := ((f_X9_of s x1 (1 : Int32)).bind fun v1 => (if v1 = 0 then ((f_X9_choose s x1 (-1 : Int32)).bind fun v9 => (f_X9_create_19 s x1 v9)) else (f_X9_create_19 s x1 (-1 : Int32))))
def f_X9_isWhole (s : Nat → Int32) (x1 : Int32) : Option (Int32) := ((f_X9_available s x1).bind fun v1 => (if v1 = 0 then (some (0 : Int32)) else ((f_X9_of s x1 (1 : Int32)).bind fun v4 => ((f_X9_ups s).bind fun v6 => (if (v4 &&& (v6 ^^^ (-1 : Int32))) = 0 then ((f_X9_of s x1 (3 : Int32)).bind fun v9 => (if v9 = (-1 : Int32) then (some (1 : Int32)) else (some (0 : Int32)))) else (some (0 : Int32)))))))
def f_X9_repair_109  (s : Nat → Int32) (x4 : Int32) : Option (Int32 × (Nat → Int32)) := (if x4 = (-1 : Int32) then (some ((0 : Int32), s)) else (some ((1 : Int32), s)))
def f_X9_repair_51  : Nat → (Nat → Int32) → Int32 → Int32 → Int32 → Int32 → Option (Int32 × (Nat → Int32))
  | 0, _, _, _, _, _ => none
  | n_ + 1, s, x1, x2, x3, x4 => (if x4 < 0 then ((f_X9_choose s x1 x3).bind fun v17 => (if v17 = (-1 : Int32) then (f_X9_repair_109 s v17) else ((f_X9_learn s x1 v17 x3).bind fun v21 => (f_X9_repair_109 v21 v17)))) else ((f_X9_of s x1 (1 : Int32)).bind fun v23 => ((f_X9_has (v23 &&& (x2 ^^^ (-1 : Int32))) x4).bind fun v25 => (if v25 = 0 then ((f_X9_repair_51 n_) s x1 x2 x3 (x4 + (-1 : Int32))) else ((f_X9_repair_51 n_) s x1 x2 x4 (x4 + (-1 : Int32)))))))
def f_X9_repair (s : Nat → Int32) (x1 : Int32) : Option (Int32 × (Nat → Int32)) := ((f_X9_of s x1 (1 : Int32)).bind fun v1 => ((f_X9_ups s).bind fun v3 => ((f_X9_available s x1).bind fun v5 => (if v5 = 0 then (some ((0 : Int32), s)) else ((f_X9_of s x1 (3 : Int32)).bind fun v8 => (if v8 = (-1 : Int32) then ((f_X9_count (v1 &&& v3)).bind fun v11 => (ld s 299 (0 : Int32) fun v13 => (if v11 < v13 then (f_X9_repair_51 FU s x1 (v1 &&& v3) (-1 : Int32) (7 : Int32)) else (some ((0 : Int32), s))))) else (some ((0 : Int32), s))))))))
def f_X9_spread_75  (s : Nat → Int32) (x1 : Int32) (x2 : Int32) (y0 : Int32) : Option (Int32 × (Nat → Int32)) := (if y0 = (-1 : Int32) then (some ((0 : Int32), s)) else ((f_X9_isFresh s x1 y0 x2).bind fun v11 => (if v11 = 0 then (some ((0 : Int32), s)) else ((f_X9_learn s x1 y0 x2).bind fun v14 => (some ((1 : Int32), v14))))))
def f_X9_spread_14  : Nat → (Nat → Int32) → Int32 → Int32 → Int32 → Option (Int32 × (Nat → Int32))
  | 0, _, _, _, _ => none
  | n_ + 1, s, x1, x2, x3 => (ld s 299 (15 : Int32) fun v4 => (if v4 ≤ x3 then (if x2 = (-1 : Int32) then (f_X9_spread_75 s x1 x2 (-1 : Int32)) else ((f_X9_choose s x1 x2).bind fun v8 => (f_X9_spread_75 s x1 x2 v8))) else ((f_X9_of s x1 (1 : Int32)).bind fun v16 => ((f_X9_has v16 x3).bind fun v18 => (if v18 = 0 then ((f_X9_spread_14 n_) s x1 x2 (x3 + (1 : Int32))) else ((f_X9_isFresh s x1 x3 x3).bind fun v21 => (if v21 = 0 then ((f_X9_spread_14 n_) s x1 x3 (x3 + (1 : Int32))) else ((f_X9_spread_14 n_) s x1 x2 (x3 + (1 : Int32))))))))))
def f_X9_spread (s : Nat → Int32) (x1 : Int32) : Option (Int32 × (Nat → Int32)) := ((f_X9_isWhole s x1).bind fun v1 => (if v1 = 0 then (some ((0 : Int32), s)) else (f_X9_spread_14 FU s x1 (-1 : Int32) (0 : Int32))))
def f_X9_splitBy_20  (s : Nat → Int32) (x1 : Int32) (x2 : Int32) (x3 : Int32) (y0 : Int32) : Option (Int32 × (Nat → Int32)) := (ld s 299 y0 fun v4 => ((f_X9_of s x1 (3 : Int32)).bind fun v6 => (if v6 = (-1 : Int32) then ((f_X9_all s x1 x2).bind fun v9 => (if v9 ≤ v4 then (some ((0 : Int32), s)) else (if x3 = (-1 : Int32) then (some ((0 : Int32), s)) else (ld s 299 (17 : Int32) fun v13 => (if v13 = (16 : Int32) then (some ((0 : Int32), s)) else ((f_X9_split s x1 x3).bind fun v16 => (some ((1 : Int32), v16)))))))) else (some ((0 : Int32), s)))))
def f_X9_splitBy (s : Nat → Int32) (x1 : Int32) (x2 : Int32) : Option (Int32 × (Nat → Int32)) := ((f_X9_splitKeyOf s x1 x2).bind fun v1 => (if x2 = 0 then (f_X9_splitBy_20 s x1 x2 v1 (2 : Int32)) else (f_X9_splitBy_20 s x1 x2 v1 (4 : Int32))))
def f_X9_isCold (s : Nat → Int32) (x1 : Int32) : Option (Int32) := ((f_X9_of s x1 (3 : Int32)).bind fun v1 => (if v1 = (-1 : Int32) then ((f_X9_available s x1).bind fun v4 => (if v4 = 0 then (some (0 : Int32)) else ((f_X9_all s x1 (0 : Int32)).bind fun v7 => (ld s 299 (1 : Int32) fun v9 => (if v9 ≤ v7 then (some (0 : Int32)) else ((f_X9_all s x1 (1 : Int32)).bind fun v12 => (ld s 299 (3 : Int32) fun v14 => (if v14 ≤ v12 then (some (0 : Int32)) else (some (1 : Int32)))))))))) else (some (0 : Int32))))
def f_X9_mergeNext (s : Nat → Int32) (x1 : Int32) : Option (Int32 × (Nat → Int32)) := (ld s 299 (17 : Int32) fun v1 => (if (x1 + (1 : Int32)) = v1 then (some ((0 : Int32), s)) else ((f_X9_isCold s x1).bind fun v4 => (if v4 = 0 then (some ((0 : Int32), s)) else ((f_X9_isCold s (x1 + (1 : Int32))).bind fun v7 => (if v7 = 0 then (some ((0 : Int32), s)) else ((f_X9_of s x1 (1 : Int32)).bind fun v10 => ((f_X9_of s (x1 + (1 : Int32)) (1 : Int32)).bind fun v12 => (if v10 = v12 then ((f_X9_all s x1 (0 : Int32)).bind fun v15 => ((f_X9_all s (x1 + (1 : Int32)) (0 : Int32)).bind fun v17 => (ld s 299 (2 : Int32) fun v19 => (if (v15 + v17) ≤ v19 then ((f_X9_mergeNextInto s x1).bind fun v22 => (some ((1 : Int32), v22))) else (some ((0 : Int32), s)))))) else (some ((0 : Int32), s)))))))))))
def f_X9_shiftLeader_119  (s : Nat → Int32) (x3 : Int32) : Option (Int32 × (Nat → Int32)) := (if x3 = (-1 : Int32) then (some ((0 : Int32), s)) else (some ((1 : Int32), s)))
def f_X9_shiftLeader_107  (s : Nat → Int32) (x1 : Int32) (x3 : Int32) : Option (Int32 × (Nat → Int32)) := (if x3 = (-1 : Int32) then (f_X9_shiftLeader_119 s x3) else ((f_X9_set s x1 (2 : Int32) x3).bind fun v6 => (f_X9_shiftLeader_119 v6 x3)))
def f_X9_shiftLeader_94 (k12 : (Nat → Int32) → Int32 → Int32 → Int32 → Int32 → Option (Int32 × (Nat → Int32))) (s : Nat → Int32) (x1 : Int32) (x2 : Int32) (x4 : Int32) : Option (Int32 × (Nat → Int32)) := (k12 s x1 x2 x4 (x4 + (1 : Int32)))
def f_X9_shiftLeader_66 (k12 : (Nat → Int32) → Int32 → Int32 → Int32 → Int32 → Option (Int32 × (Nat → Int32))) (s : Nat → Int32) (x1 : Int32) (x2 : Int32) (x3 : Int32) (x4 : Int32) (y0 : Int32) : Option (Int32 × (Nat → Int32)) := (if y0 = 0 then (k12 s x1 x2 x3 (x4 + (1 : Int32))) else (if x3 = (-1 : Int32) then (f_X9_shiftLeader_94 k12 s x1 x2 x4) else ((f_X9_leads s x4 (-1 : Int32)).bind fun v18 => ((f_X9_leads s x3 (-1 : Int32)).bind fun v20 => (if v20 ≤ v18 then (k12 s x1 x2 x3 (x4 + (1 : Int32))) else (f_X9_shiftLeader_94 k12 s x1 x2 x4))))))
def f_X9_shiftLeader_65 (k12 : (Nat → Int32) → Int32 → Int32 → Int32 → Int32 → Option (Int32 × (Nat → Int32))) (s : Nat → Int32) (x1 : Int32) (x2 : Int32) (x3 : Int32) (x4 : Int32) : Option (Int32 × (Nat → Int32)) := (f_X9_shiftLeader_66 k12 s x1 x2 x3 x4 (0 : Int32))
def f_X9_shiftLeader_12  : Nat → (Nat → Int32) → Int32 → Int32 → Int32 → Int32 → Option (Int32 × (Nat → Int32))
  | 0, _, _, _, _, _ => none
  | n_ + 1, s, x1, x2, x3, x4 => (if (8 : Int32) ≤ x4 then (f_X9_shiftLeader_107 s x1 x3) else (if x2 = (-1 : Int32) then (f_X9_shiftLeader_107 s x1 x3) else ((f_X9_of s x1 (1 : Int32)).bind fun v9 => ((f_X9_ups s).bind fun v11 => ((f_X9_has (v9 &&& v11) x4).bind fun v13 => (if v13 = 0 then (f_X9_shiftLeader_65 (f_X9_shiftLeader_12 n_) s x1 x2 x3 x4) else ((f_X9_leads s x4 (-1 : Int32)).bind fun v23 => ((f_X9_leads s x2 (-1 : Int32)).bind fun v25 => (if (v25 - (2 : Int32)) < v23 then (f_X9_shiftLeader_65 (f_X9_shiftLeader_12 n_) s x1 x2 x3 x4) else (f_X9_shiftLeader_66 (f_X9_shiftLeader_12 n_) s x1 x2 x3 x4 (1 : Int32)))))))))))
def f_X9_shiftLeader (s : Nat → Int32) (x1 : Int32) : Option (Int32 × (Nat → Int32)) := ((f_X9_of s x1 (2 : Int32)).bind fun v1 => (f_X9_shiftLeader_12 FU s x1 v1 (-1 : Int32) (0 : Int32)))
def f_X9_shiftReplica_132  (s : Nat → Int32) (x1 : Int32) (x2 : Int32) (x3 : Int32) : Option (Int32 × (Nat → Int32)) := ((f_X9_learn s x1 x3 x2).bind fun v18 => (some ((1 : Int32), v18)))
def f_X9_shiftReplica_61 (k14 : (Nat → Int32) → Int32 → Int32 → Int32 → Option (Int32 × (Nat → Int32))) (s : Nat → Int32) (x1 : Int32) (x2 : Int32) (x3 : Int32) (y0 : Int32) : Option (Int32 × (Nat → Int32)) := (if y0 = 0 then (k14 s x1 x2 (x3 + (1 : Int32))) else (k14 s x1 x3 (x3 + (1 : Int32))))
def f_X9_shiftReplica_60 (k14 : (Nat → Int32) → Int32 → Int32 → Int32 → Option (Int32 × (Nat → Int32))) (s : Nat → Int32) (x1 : Int32) (x2 : Int32) (x3 : Int32) : Option (Int32 × (Nat → Int32)) := (f_X9_shiftReplica_61 k14 s x1 x2 x3 (0 : Int32))
def f_X9_shiftReplica_56 (k14 : (Nat → Int32) → Int32 → Int32 → Int32 → Option (Int32 × (Nat → Int32))) (s : Nat → Int32) (x1 : Int32) (x2 : Int32) (x3 : Int32) : Option (Int32 × (Nat → Int32)) := (f_X9_shiftReplica_61 k14 s x1 x2 x3 (1 : Int32))
def f_X9_shiftReplica_14  : Nat → (Nat → Int32) → Int32 → Int32 → Int32 → Option (Int32 × (Nat → Int32))
  | 0, _, _, _, _ => none
  | n_ + 1, s, x1, x2, x3 => (ld s 299 (15 : Int32) fun v4 => (if v4 ≤ x3 then ((f_X9_choose s x1 x2).bind fun v7 => (if v7 = (-1 : Int32) then (some ((0 : Int32), s)) else ((f_X9_replicasOf s v7).bind fun v10 => ((f_X9_replicasOf s x2).bind fun v12 => (if (v12 - (2 : Int32)) < v10 then (some ((0 : Int32), s)) else ((f_X9_isFresh s x1 v7 x2).bind fun v15 => (if v15 = 0 then ((f_X9_zone s v7).bind fun v20 => ((f_X9_zone s x2).bind fun v22 => (if v20 = v22 then (f_X9_shiftReplica_132 s x1 x2 v7) else (some ((0 : Int32), s))))) else (f_X9_shiftReplica_132 s x1 x2 v7)))))))) else ((f_X9_of s x1 (1 : Int32)).bind fun v25 => ((f_X9_has v25 x3).bind fun v27 => (if v27 = 0 then (f_X9_shiftReplica_60 (f_X9_shiftReplica_14 n_) s x1 x2 x3) else (if x2 = (-1 : Int32) then (f_X9_shiftReplica_56 (f_X9_shiftReplica_14 n_) s x1 x2 x3) else ((f_X9_replicasOf s x3).bind fun v32 => ((f_X9_replicasOf s x2).bind fun v34 => (if v32 ≤ v34 then (f_X9_shiftReplica_60 (f_X9_shiftReplica_14 n_) s x1 x2 x3) else (f_X9_shiftReplica_56 (f_X9_shiftReplica_14 n_) s x1 x2 x3))))))))))
def f_X9_shiftReplica (s : Nat → Int32) (x1 : Int32) : Option (Int32 × (Nat → Int32)) := ((f_X9_isWhole s x1).bind fun v1 => (if v1 = 0 then (some ((0 : Int32), s)) else (f_X9_shiftReplica_14 FU s x1 (-1 : Int32) (0 : Int32))))
def f_X9_does (s : Nat → Int32) (x1 : Int32) (x2 : Int32) : Option (Int32 × (Nat → Int32)) := (if x1 = (1 : Int32) then ((f_X9_create s x2).bind fun v29 => (zr v29.1 (some (v29.1, v29.2)))) else (if x1 = (2 : Int32) then ((f_X9_repair s x2).bind fun v26 => (zr v26.1 (some (v26.1, v26.2)))) else (if x1 = (3 : Int32) then ((f_X9_spread s x2).bind fun v23 => (zr v23.1 (some (v23.1, v23.2)))) else (if x1 = (4 : Int32) then ((f_X9_splitBy s x2 (0 : Int32)).bind fun v20 => (zr v20.1 (some (v20.1, v20.2)))) else (if x1 = (5 : Int32) then ((f_X9_splitBy s x2 (1 : Int32)).bind fun v17 => (zr v17.1 (some (v17.1, v17.2)))) else (if x1 = (6 : Int32) then ((f_X9_mergeNext s x2).bind fun v14 => (zr v14.1 (some (v14.1, v14.2)))) else (if x1 = (7 : Int32) then ((f_X9_shiftLeader s x2).bind fun v11 => (zr v11.1 (some (v11.1, v11.2)))) else ((f_X9_shiftReplica s x2).bind fun v1 => (zr v1.1 (some (v1.1, v1.2)))))))))))
def f_X9_oneTick_45 (k37 : (Nat → Int32) → Int32 → Option (Int32 × (Nat → Int32))) : Nat → (Nat → Int32) → Int32 → Int32 → Option (Int32 × (Nat → Int32))
  | 0, _, _, _ => none
  | n_ + 1, s, x1, x2 => (ld s 299 (17 : Int32) fun v8 => (if v8 ≤ x2 then (k37 s (x1 + (1 : Int32))) else ((f_X9_does s x1 x2).bind fun v11 => (if v11.1 = 0 then ((f_X9_oneTick_45 k37 n_) v11.2 x1 (x2 + (1 : Int32))) else (ld v11.2 299 ((6 : Int32) + x1) fun v14 => (sd 299 ((6 : Int32) + x1) (some ((((100 : Int32) * x1) + x2), (upd v11.2 ((6 : Int32) + x1).toNatClampNeg (v14 + (1 : Int32)))))))))))
def f_X9_oneTick_37  : Nat → (Nat → Int32) → Int32 → Option (Int32 × (Nat → Int32))
  | 0, _, _ => none
  | n_ + 1, s, x1 => (if (8 : Int32) < x1 then (some ((0 : Int32), s)) else (f_X9_oneTick_45 (f_X9_oneTick_37 n_) FU s x1 (0 : Int32)))
def f_X9_oneTick_13  : Nat → (Nat → Int32) → Int32 → Option (Int32 × (Nat → Int32))
  | 0, _, _ => none
  | n_ + 1, s, x1 => (ld s 299 (17 : Int32) fun v4 => (if v4 ≤ x1 then (f_X9_oneTick_37 FU s (1 : Int32)) else ((f_X9_progress s x1).bind fun v17 => ((f_X9_oneTick_13 n_) v17 (x1 + (1 : Int32))))))
def f_X9_oneTick (s : Nat → Int32)  : Option (Int32 × (Nat → Int32)) := (ld s 299 (6 : Int32) fun v1 => (sd 299 (6 : Int32) (f_X9_oneTick_13 FU (upd s (6 : Int32).toNatClampNeg (v1 + (1 : Int32))) (0 : Int32))))
def f_X9_tick (s : Nat → Int32) (P : Nat → Int32) (n : Int32)  : Option (Int32 × (Nat → Int32) × (Nat → Int32) × (Int32)) := ((f_X9_note s P n).bind fun v1 => ((f_X9_oneTick s).bind fun v3 => (some (v3.1, v3.2, v1.1, v1.2))))
def f_X9_hasLearner_29 (k4 : (Nat → Int32) → Int32 → Int32 → Option (Int32)) (s : Nat → Int32) (x2 : Int32) : Option (Int32) := (k4 s (1 : Int32) (x2 + (1 : Int32)))
def f_X9_hasLearner_4  : Nat → (Nat → Int32) → Int32 → Int32 → Option (Int32)
  | 0, _, _, _ => none
  | n_ + 1, s, x1, x2 => (ld s 299 (17 : Int32) fun v1 => (if v1 ≤ x2 then (zr x1 (some x1)) else (if x1 = 0 then ((f_X9_of s x2 (3 : Int32)).bind fun v6 => (if v6 = (-1 : Int32) then ((f_X9_hasLearner_4 n_) s (0 : Int32) (x2 + (1 : Int32))) else (f_X9_hasLearner_29 (f_X9_hasLearner_4 n_) s x2))) else (f_X9_hasLearner_29 (f_X9_hasLearner_4 n_) s x2))))
def f_X9_hasLearner (s : Nat → Int32)  : Option (Int32) := (f_X9_hasLearner_4 FU s (0 : Int32) (0 : Int32))
def f_X9_settle_45 (k29 : (Nat → Int32) → (Nat → Int32) → (Nat → Int32) → (Int32) → Int32 → Int32 → Int32 → Option (Int32 × (Nat → Int32) × (Nat → Int32) × (Nat → Int32) × (Int32))) (s : Nat → Int32) (P : Nat → Int32) (E : Nat → Int32) (n : Int32) (x1 : Int32) (x2 : Int32) : Option (Int32 × (Nat → Int32) × (Nat → Int32) × (Nat → Int32) × (Int32)) := ((f_X9_oneTick s).bind fun v10 => (k29 v10.2 P E n x1 (x2 + (1 : Int32)) v10.1))
def f_X9_settle_29  : Nat → (Nat → Int32) → (Nat → Int32) → (Nat → Int32) → (Int32) → Int32 → Int32 → Int32 → Option (Int32 × (Nat → Int32) × (Nat → Int32) × (Nat → Int32) × (Int32))
  | 0, _, _, _, _, _, _, _ => none
  | n_ + 1, s, P, E, n, x1, x2, x3 => (if x1 ≤ x2 then (some (x2, s, P, E, n)) else (if x3 = 0 then ((f_X9_hasLearner s).bind fun v12 => (if v12 = 0 then (some (x2, s, P, E, n)) else (f_X9_settle_45 (f_X9_settle_29 n_) s P E n x1 x2))) else (f_X9_settle_45 (f_X9_settle_29 n_) s P E n x1 x2)))
def f_X9_settle (s : Nat → Int32) (P : Nat → Int32) (E : Nat → Int32) (n : Int32) (x1 : Int32) : Option (Int32 × (Nat → Int32) × (Nat → Int32) × (Nat → Int32) × (Int32)) := ((f_X9_in x1 (1 : Int32) (200 : Int32)).bind fun v1 => (if v1 = 0 then ((f_X9_fail E (-2 : Int32)).bind fun v15 => (some (v15.1, s, P, v15.2, n))) else ((f_X9_note s P n).bind fun v4 => ((f_X9_oneTick s).bind fun v6 => (f_X9_settle_29 FU v6.2 v4.1 E v4.2 x1 (1 : Int32) v6.1)))))
def f_X9_performed (s : Nat → Int32) (E : Nat → Int32) (x1 : Int32) : Option (Int32 × (Nat → Int32)) := ((f_X9_in x1 (1 : Int32) (8 : Int32)).bind fun v1 => (if v1 = 0 then ((f_X9_fail E (-2 : Int32)).bind fun v4 => (some (v4.1, v4.2))) else (ld s 299 ((6 : Int32) + x1) fun v6 => (some (v6, E)))))
def f_X9_time (s : Nat → Int32)  : Option (Int32) := (ld s 299 (6 : Int32) fun v1 => (some v1))
def f_X9_addNode_19  (s : Nat → Int32) (P : Nat → Int32) (E : Nat → Int32) (n : Int32)  : Option (Int32 × (Nat → Int32) × (Nat → Int32) × (Nat → Int32) × (Int32)) := ((f_X9_fail E (-2 : Int32)).bind fun v4 => (some (v4.1, s, P, v4.2, n)))
def f_X9_addNode (s : Nat → Int32) (P : Nat → Int32) (E : Nat → Int32) (n : Int32) (x1 : Int32) (x2 : Int32) : Option (Int32 × (Nat → Int32) × (Nat → Int32) × (Nat → Int32) × (Int32)) := ((f_X9_in x1 (0 : Int32) (3 : Int32)).bind fun v1 => (if v1 = 0 then (f_X9_addNode_19 s P E n) else ((f_X9_in x2 (1 : Int32) (16 : Int32)).bind fun v6 => (if v6 = 0 then (f_X9_addNode_19 s P E n) else (ld s 299 (15 : Int32) fun v9 => (if v9 = (8 : Int32) then ((f_X9_fail E (-4 : Int32)).bind fun v22 => (some (v22.1, s, P, v22.2, n))) else ((f_X9_note s P n).bind fun v12 => (ld s 299 (15 : Int32) fun v14 => (sd 299 ((19 : Int32) + ((3 : Int32) * v14)) (sd 299 (((19 : Int32) + ((3 : Int32) * v14)) + (1 : Int32)) (sd 299 (((19 : Int32) + ((3 : Int32) * v14)) + (2 : Int32)) (ld (upd (upd (upd s ((19 : Int32) + ((3 : Int32) * v14)).toNatClampNeg x1) (((19 : Int32) + ((3 : Int32) * v14)) + (1 : Int32)).toNatClampNeg x2) (((19 : Int32) + ((3 : Int32) * v14)) + (2 : Int32)).toNatClampNeg (1 : Int32)) 299 (15 : Int32) fun v19 => (sd 299 (15 : Int32) (some (v14, (upd (upd (upd (upd s ((19 : Int32) + ((3 : Int32) * v14)).toNatClampNeg x1) (((19 : Int32) + ((3 : Int32) * v14)) + (1 : Int32)).toNatClampNeg x2) (((19 : Int32) + ((3 : Int32) * v14)) + (2 : Int32)).toNatClampNeg (1 : Int32)) (15 : Int32).toNatClampNeg (v19 + (1 : Int32))), v12.1, E, v12.2)))))))))))))))
def f_X9_goDown_36  : Nat → (Nat → Int32) → Int32 → Int32 → Option ((Nat → Int32))
  | 0, _, _, _ => none
  | n_ + 1, s, x1, x2 => (ld s 299 (17 : Int32) fun v4 => (if v4 ≤ x2 then (some s) else ((f_X9_available s x2).bind fun v7 => (if v7 = 0 then ((f_X9_set s x2 (2 : Int32) (-1 : Int32)).bind fun v15 => ((f_X9_goDown_36 n_) v15 x1 (x2 + (1 : Int32)))) else ((f_X9_of s x2 (2 : Int32)).bind fun v10 => (if v10 = x1 then ((f_X9_elect s x2).bind fun v13 => ((f_X9_goDown_36 n_) v13 x1 (x2 + (1 : Int32)))) else ((f_X9_goDown_36 n_) s x1 (x2 + (1 : Int32)))))))))
def f_X9_goDown_2  : Nat → (Nat → Int32) → Int32 → Int32 → Option ((Nat → Int32))
  | 0, _, _, _ => none
  | n_ + 1, s, x1, x2 => (ld s 299 (17 : Int32) fun v1 => (if v1 ≤ x2 then (f_X9_goDown_36 FU s x1 (0 : Int32)) else ((f_X9_of s x2 (3 : Int32)).bind fun v17 => (if v17 = x1 then ((f_X9_forgetLearner s x2).bind fun v20 => ((f_X9_goDown_2 n_) v20 x1 (x2 + (1 : Int32)))) else ((f_X9_goDown_2 n_) s x1 (x2 + (1 : Int32)))))))
def f_X9_goDown (s : Nat → Int32) (x1 : Int32) : Option ((Nat → Int32)) := (f_X9_goDown_2 FU s x1 (0 : Int32))
def f_X9_goUp_2  : Nat → (Nat → Int32) → Int32 → Option ((Nat → Int32))
  | 0, _, _ => none
  | n_ + 1, s, x1 => (ld s 299 (17 : Int32) fun v1 => (if v1 ≤ x1 then (some s) else ((f_X9_of s x1 (2 : Int32)).bind fun v4 => (if v4 = (-1 : Int32) then ((f_X9_elect s x1).bind fun v7 => ((f_X9_goUp_2 n_) v7 (x1 + (1 : Int32)))) else ((f_X9_goUp_2 n_) s (x1 + (1 : Int32)))))))
def f_X9_goUp (s : Nat → Int32)  : Option ((Nat → Int32)) := (f_X9_goUp_2 FU s (0 : Int32))
def f_X9_setNode_17  (s : Nat → Int32) (P : Nat → Int32) (E : Nat → Int32) (n : Int32)  : Option (Int32 × (Nat → Int32) × (Nat → Int32) × (Nat → Int32) × (Int32)) := ((f_X9_fail E (-2 : Int32)).bind fun v4 => (some (v4.1, s, P, v4.2, n)))
def f_X9_setNode_89  : Nat → (Nat → Int32) → (Nat → Int32) → (Nat → Int32) → (Int32) → Int32 → Int32 → Option (Int32 × (Nat → Int32) × (Nat → Int32) × (Nat → Int32) × (Int32))
  | 0, _, _, _, _, _, _ => none
  | n_ + 1, s, P, E, n, x3, x4 => (ld s 299 (17 : Int32) fun v19 => (if v19 ≤ x4 then (some (x3, s, P, E, n)) else ((f_X9_available s x4).bind fun v22 => (if v22 = 0 then ((f_X9_setNode_89 n_) s P E n (x3 + (0 : Int32)) (x4 + (1 : Int32))) else ((f_X9_setNode_89 n_) s P E n (x3 + (1 : Int32)) (x4 + (1 : Int32)))))))
def f_X9_setNode_84  (s : Nat → Int32) (P : Nat → Int32) (E : Nat → Int32) (n : Int32)  : Option (Int32 × (Nat → Int32) × (Nat → Int32) × (Nat → Int32) × (Int32)) := (f_X9_setNode_89 FU s P E n (0 : Int32) (0 : Int32))
def f_X9_setNode_39  (s : Nat → Int32) (P : Nat → Int32) (E : Nat → Int32) (n : Int32) (x1 : Int32) (x2 : Int32) (y0 : Int32) (y1 : Int32) : Option (Int32 × (Nat → Int32) × (Nat → Int32) × (Nat → Int32) × (Int32)) := (if y1 = y0 then ((f_X9_fail E (-3 : Int32)).bind fun v27 => (some (v27.1, s, P, v27.2, n))) else ((f_X9_note s P n).bind fun v13 => (sd 299 (((19 : Int32) + ((3 : Int32) * x1)) + (2 : Int32)) (if x2 = (1 : Int32) then ((f_X9_goUp (upd s (((19 : Int32) + ((3 : Int32) * x1)) + (2 : Int32)).toNatClampNeg x2)).bind fun v25 => (f_X9_setNode_84 v25 v13.1 E v13.2)) else ((f_X9_goDown (upd s (((19 : Int32) + ((3 : Int32) * x1)) + (2 : Int32)).toNatClampNeg x2) x1).bind fun v17 => (f_X9_setNode_84 v17 v13.1 E v13.2))))))
def f_X9_setNode (s : Nat → Int32) (P : Nat → Int32) (E : Nat → Int32) (n : Int32) (x1 : Int32) (x2 : Int32) : Option (Int32 × (Nat → Int32) × (Nat → Int32) × (Nat → Int32) × (Int32)) := ((f_X9_isNode s x1).bind fun v1 => (if v1 = 0 then (f_X9_setNode_17 s P E n) else ((f_X9_in x2 (0 : Int32) (1 : Int32)).bind fun v6 => (if v6 = 0 then (f_X9_setNode_17 s P E n) else ((f_X9_isUp s x1).bind fun v9 => (if x2 = (1 : Int32) then (f_X9_setNode_39 s P E n x1 x2 (1 : Int32) v9) else (f_X9_setNode_39 s P E n x1 x2 (0 : Int32) v9)))))))
def f_X9_change (s : Nat → Int32) (P : Nat → Int32) (n : Int32) (x1 : Int32) (x2 : Int32) : Option (Int32 × (Nat → Int32) × (Nat → Int32) × (Int32)) := ((f_X9_note s P n).bind fun v1 => (ld s 299 x1 fun v3 => (sd 299 x1 (some (v3, (upd s x1.toNatClampNeg x2), v1.1, v1.2)))))
def f_X9_setReplication (s : Nat → Int32) (P : Nat → Int32) (E : Nat → Int32) (n : Int32) (x1 : Int32) : Option (Int32 × (Nat → Int32) × (Nat → Int32) × (Nat → Int32) × (Int32)) := ((f_X9_in x1 (1 : Int32) (5 : Int32)).bind fun v1 => (if v1 = 0 then ((f_X9_fail E (-2 : Int32)).bind fun v4 => (some (v4.1, s, P, v4.2, n))) else ((f_X9_change s P n (0 : Int32) x1).bind fun v6 => (some (v6.1, v6.2.1, v6.2.2.1, E, v6.2.2.2)))))
def f_X9_setSizes_20  (s : Nat → Int32) (P : Nat → Int32) (E : Nat → Int32) (n : Int32)  : Option (Int32 × (Nat → Int32) × (Nat → Int32) × (Nat → Int32) × (Int32)) := ((f_X9_fail E (-2 : Int32)).bind fun v4 => (some (v4.1, s, P, v4.2, n)))
def f_X9_setSizes (s : Nat → Int32) (P : Nat → Int32) (E : Nat → Int32) (n : Int32) (x1 : Int32) (x2 : Int32) : Option (Int32 × (Nat → Int32) × (Nat → Int32) × (Nat → Int32) × (Int32)) := ((f_X9_in x2 (1 : Int32) (9999 : Int32)).bind fun v1 => (if v1 = 0 then (f_X9_setSizes_20 s P E n) else ((f_X9_in x1 (0 : Int32) x2).bind fun v6 => (if v6 = 0 then (f_X9_setSizes_20 s P E n) else ((f_X9_change s P n (2 : Int32) x2).bind fun v9 => (sd 299 (1 : Int32) (some (v9.1, (upd v9.2.1 (1 : Int32).toNatClampNeg x1), v9.2.2.1, E, v9.2.2.2))))))))
def f_X9_setLoads_19  (s : Nat → Int32) (P : Nat → Int32) (E : Nat → Int32) (n : Int32)  : Option (Int32 × (Nat → Int32) × (Nat → Int32) × (Nat → Int32) × (Int32)) := ((f_X9_fail E (-2 : Int32)).bind fun v4 => (some (v4.1, s, P, v4.2, n)))
def f_X9_setLoads (s : Nat → Int32) (P : Nat → Int32) (E : Nat → Int32) (n : Int32) (x1 : Int32) (x2 : Int32) : Option (Int32 × (Nat → Int32) × (Nat → Int32) × (Nat → Int32) × (Int32)) := ((f_X9_in x2 (1 : Int32) (32 : Int32)).bind fun v1 => (if v1 = 0 then (f_X9_setLoads_19 s P E n) else ((f_X9_in x1 (0 : Int32) x2).bind fun v6 => (if v6 = 0 then (f_X9_setLoads_19 s P E n) else ((f_X9_change s P n (4 : Int32) x2).bind fun v9 => (sd 299 (3 : Int32) (some (v9.1, (upd v9.2.1 (3 : Int32).toNatClampNeg x1), v9.2.2.1, E, v9.2.2.2))))))))
def f_X9_setSpeed (s : Nat → Int32) (P : Nat → Int32) (E : Nat → Int32) (n : Int32) (x1 : Int32) : Option (Int32 × (Nat → Int32) × (Nat → Int32) × (Nat → Int32) × (Int32)) := ((f_X9_in x1 (1 : Int32) (99 : Int32)).bind fun v1 => (if v1 = 0 then ((f_X9_fail E (-2 : Int32)).bind fun v4 => (some (v4.1, s, P, v4.2, n))) else ((f_X9_change s P n (5 : Int32) x1).bind fun v6 => (some (v6.1, v6.2.1, v6.2.2.1, E, v6.2.2.2)))))
def f_X9_put_17  (s : Nat → Int32) (P : Nat → Int32) (E : Nat → Int32) (n : Int32)  : Option (Int32 × (Nat → Int32) × (Nat → Int32) × (Nat → Int32) × (Int32)) := ((f_X9_fail E (-2 : Int32)).bind fun v4 => (some (v4.1, s, P, v4.2, n)))
def f_X9_put_54  (s : Nat → Int32) (P : Nat → Int32) (E : Nat → Int32) (n : Int32) (x1 : Int32) (x2 : Int32) (x3 : Int32) : Option (Int32 × (Nat → Int32) × (Nat → Int32) × (Nat → Int32) × (Int32)) := ((f_X9_note s P n).bind fun v12 => (if x3 = (-1 : Int32) then (ld s 299 (16 : Int32) fun v15 => (sd 299 ((43 : Int32) + ((2 : Int32) * v15)) (ld (upd s ((43 : Int32) + ((2 : Int32) * v15)).toNatClampNeg x1) 299 (16 : Int32) fun v18 => (sd 299 (((43 : Int32) + ((2 : Int32) * v18)) + (1 : Int32)) (ld (upd (upd s ((43 : Int32) + ((2 : Int32) * v15)).toNatClampNeg x1) (((43 : Int32) + ((2 : Int32) * v18)) + (1 : Int32)).toNatClampNeg x2) 299 (16 : Int32) fun v21 => (sd 299 (16 : Int32) (some ((0 : Int32), (upd (upd (upd s ((43 : Int32) + ((2 : Int32) * v15)).toNatClampNeg x1) (((43 : Int32) + ((2 : Int32) * v18)) + (1 : Int32)).toNatClampNeg x2) (16 : Int32).toNatClampNeg (v21 + (1 : Int32))), v12.1, E, v12.2)))))))) else (ld s 299 (x3 + (1 : Int32)) fun v24 => (sd 299 (x3 + (1 : Int32)) (some (v24, (upd s (x3 + (1 : Int32)).toNatClampNeg x2), v12.1, E, v12.2))))))
def f_X9_put (s : Nat → Int32) (P : Nat → Int32) (E : Nat → Int32) (n : Int32) (x1 : Int32) (x2 : Int32) : Option (Int32 × (Nat → Int32) × (Nat → Int32) × (Nat → Int32) × (Int32)) := ((f_X9_isKey x1).bind fun v1 => (if v1 = 0 then (f_X9_put_17 s P E n) else ((f_X9_in x2 (1 : Int32) (99 : Int32)).bind fun v6 => (if v6 = 0 then (f_X9_put_17 s P E n) else ((f_X9_placeOf s x1).bind fun v9 => (if v9 = (-1 : Int32) then (ld s 299 (16 : Int32) fun v27 => (if v27 = (64 : Int32) then ((f_X9_fail E (-4 : Int32)).bind fun v30 => (some (v30.1, s, P, v30.2, n))) else (f_X9_put_54 s P E n x1 x2 v9))) else (f_X9_put_54 s P E n x1 x2 v9)))))))
def f_X9_remove_48  : Nat → (Nat → Int32) → (Nat → Int32) → (Nat → Int32) → (Int32) → Int32 → Int32 → Option (Int32 × (Nat → Int32) × (Nat → Int32) × (Nat → Int32) × (Int32))
  | 0, _, _, _, _, _, _ => none
  | n_ + 1, s, P, E, n, x3, x4 => (if (171 : Int32) ≤ (x4 + (2 : Int32)) then (ld s 299 (16 : Int32) fun v12 => (sd 299 (16 : Int32) (some (x3, (upd s (16 : Int32).toNatClampNeg (v12 - (1 : Int32))), P, E, n)))) else (ld s 299 (x4 + (2 : Int32)) fun v15 => (sd 299 x4 ((f_X9_remove_48 n_) (upd s x4.toNatClampNeg v15) P E n x3 (x4 + (1 : Int32))))))
def f_X9_remove (s : Nat → Int32) (P : Nat → Int32) (E : Nat → Int32) (n : Int32) (x1 : Int32) : Option (Int32 × (Nat → Int32) × (Nat → Int32) × (Nat → Int32) × (Int32)) := ((f_X9_isKey x1).bind fun v1 => (if v1 = 0 then ((f_X9_fail E (-2 : Int32)).bind fun v20 => (some (v20.1, s, P, v20.2, n))) else ((f_X9_placeOf s x1).bind fun v4 => (if v4 = (-1 : Int32) then ((f_X9_fail E (-3 : Int32)).bind fun v18 => (some (v18.1, s, P, v18.2, n))) else ((f_X9_note s P n).bind fun v7 => (ld s 299 (v4 + (1 : Int32)) fun v9 => (f_X9_remove_48 FU s v7.1 E v7.2 v9 v4)))))))
def f_X9_access_74  (s : Nat → Int32) (P : Nat → Int32) (E : Nat → Int32) (n : Int32) (x1 : Int32) : Option (Int32 × (Nat → Int32) × (Nat → Int32) × (Nat → Int32) × (Int32)) := (ld s 299 (18 : Int32) fun v9 => (sd 299 ((267 : Int32) + v9) (ld (upd s ((267 : Int32) + v9).toNatClampNeg x1) 299 (18 : Int32) fun v12 => (sd 299 (18 : Int32) ((f_X9_rangeAt (upd (upd s ((267 : Int32) + v9).toNatClampNeg x1) (18 : Int32).toNatClampNeg (v12 + (1 : Int32))) x1).bind fun v15 => ((f_X9_of (upd (upd s ((267 : Int32) + v9).toNatClampNeg x1) (18 : Int32).toNatClampNeg (v12 + (1 : Int32))) v15 (2 : Int32)).bind fun v17 => (some (v17, (upd (upd s ((267 : Int32) + v9).toNatClampNeg x1) (18 : Int32).toNatClampNeg (v12 + (1 : Int32))), P, E, n))))))))
def f_X9_access_34  : Nat → (Nat → Int32) → (Nat → Int32) → (Nat → Int32) → (Int32) → Int32 → Int32 → Option (Int32 × (Nat → Int32) × (Nat → Int32) × (Nat → Int32) × (Int32))
  | 0, _, _, _, _, _, _ => none
  | n_ + 1, s, P, E, n, x1, x2 => (if (299 : Int32) ≤ (x2 + (1 : Int32)) then (ld s 299 (18 : Int32) fun v20 => (sd 299 (18 : Int32) (f_X9_access_74 (upd s (18 : Int32).toNatClampNeg (v20 - (1 : Int32))) P E n x1))) else (ld s 299 (x2 + (1 : Int32)) fun v23 => (sd 299 x2 ((f_X9_access_34 n_) (upd s x2.toNatClampNeg v23) P E n x1 (x2 + (1 : Int32))))))
def f_X9_access (s : Nat → Int32) (P : Nat → Int32) (E : Nat → Int32) (n : Int32) (x1 : Int32) : Option (Int32 × (Nat → Int32) × (Nat → Int32) × (Nat → Int32) × (Int32)) := ((f_X9_isKey x1).bind fun v1 => (if v1 = 0 then ((f_X9_fail E (-2 : Int32)).bind fun v26 => (some (v26.1, s, P, v26.2, n))) else ((f_X9_note s P n).bind fun v4 => (ld s 299 (18 : Int32) fun v6 => (if v6 = (32 : Int32) then (f_X9_access_34 FU s v4.1 E v4.2 x1 (267 : Int32)) else (f_X9_access_74 s v4.1 E v4.2 x1))))))
def f_X9_splitAt_40  (s : Nat → Int32) (P : Nat → Int32) (E : Nat → Int32) (n : Int32)  : Option (Int32 × (Nat → Int32) × (Nat → Int32) × (Nat → Int32) × (Int32)) := ((f_X9_fail E (-3 : Int32)).bind fun v9 => (some (v9.1, s, P, v9.2, n)))
def f_X9_splitAt (s : Nat → Int32) (P : Nat → Int32) (E : Nat → Int32) (n : Int32) (x1 : Int32) : Option (Int32 × (Nat → Int32) × (Nat → Int32) × (Nat → Int32) × (Int32)) := ((f_X9_isKey x1).bind fun v1 => (if v1 = 0 then ((f_X9_fail E (-2 : Int32)).bind fun v23 => (some (v23.1, s, P, v23.2, n))) else ((f_X9_rangeAt s x1).bind fun v4 => ((f_X9_of s v4 (0 : Int32)).bind fun v6 => (if v6 = x1 then (f_X9_splitAt_40 s P E n) else ((f_X9_of s v4 (3 : Int32)).bind fun v11 => (if v11 = (-1 : Int32) then (ld s 299 (17 : Int32) fun v14 => (if v14 = (16 : Int32) then ((f_X9_fail E (-4 : Int32)).bind fun v21 => (some (v21.1, s, P, v21.2, n))) else ((f_X9_note s P n).bind fun v17 => ((f_X9_split s v4 x1).bind fun v19 => (some ((v4 + (1 : Int32)), v19, v17.1, E, v17.2)))))) else (f_X9_splitAt_40 s P E n))))))))
def f_X9_sizeOf (s : Nat → Int32) (E : Nat → Int32) (x1 : Int32) : Option (Int32 × (Nat → Int32)) := ((f_X9_isKey x1).bind fun v1 => (if v1 = 0 then ((f_X9_fail E (-2 : Int32)).bind fun v9 => (some (v9.1, v9.2))) else ((f_X9_placeOf s x1).bind fun v4 => (if v4 = (-1 : Int32) then (some ((0 : Int32), E)) else (ld s 299 (v4 + (1 : Int32)) fun v7 => (some (v7, E)))))))
def f_X9_rangeCount (s : Nat → Int32)  : Option (Int32) := (ld s 299 (17 : Int32) fun v1 => (some v1))
def f_X9_start (s : Nat → Int32) (E : Nat → Int32) (x1 : Int32) : Option (Int32 × (Nat → Int32)) := ((f_X9_isRange s x1).bind fun v1 => (if v1 = 0 then ((f_X9_fail E (-2 : Int32)).bind fun v4 => (some (v4.1, v4.2))) else ((f_X9_of s x1 (0 : Int32)).bind fun v6 => (some (v6, E)))))
def f_X9_size (s : Nat → Int32) (E : Nat → Int32) (x1 : Int32) : Option (Int32 × (Nat → Int32)) := ((f_X9_isRange s x1).bind fun v1 => (if v1 = 0 then ((f_X9_fail E (-2 : Int32)).bind fun v4 => (some (v4.1, v4.2))) else ((f_X9_all s x1 (0 : Int32)).bind fun v6 => (some (v6, E)))))
def f_X9_load (s : Nat → Int32) (E : Nat → Int32) (x1 : Int32) : Option (Int32 × (Nat → Int32)) := ((f_X9_isRange s x1).bind fun v1 => (if v1 = 0 then ((f_X9_fail E (-2 : Int32)).bind fun v4 => (some (v4.1, v4.2))) else ((f_X9_all s x1 (1 : Int32)).bind fun v6 => (some (v6, E)))))
def f_X9_rangeOf (s : Nat → Int32) (E : Nat → Int32) (x1 : Int32) : Option (Int32 × (Nat → Int32)) := ((f_X9_isKey x1).bind fun v1 => (if v1 = 0 then ((f_X9_fail E (-2 : Int32)).bind fun v4 => (some (v4.1, v4.2))) else ((f_X9_rangeAt s x1).bind fun v6 => (some (v6, E)))))
def f_X9_voters (s : Nat → Int32) (E : Nat → Int32) (x1 : Int32) : Option (Int32 × (Nat → Int32)) := ((f_X9_isRange s x1).bind fun v1 => (if v1 = 0 then ((f_X9_fail E (-2 : Int32)).bind fun v4 => (some (v4.1, v4.2))) else ((f_X9_of s x1 (1 : Int32)).bind fun v6 => (some (v6, E)))))
def f_X9_leader (s : Nat → Int32) (E : Nat → Int32) (x1 : Int32) : Option (Int32 × (Nat → Int32)) := ((f_X9_isRange s x1).bind fun v1 => (if v1 = 0 then ((f_X9_fail E (-2 : Int32)).bind fun v4 => (some (v4.1, v4.2))) else ((f_X9_of s x1 (2 : Int32)).bind fun v6 => (some (v6, E)))))
def f_X9_learnerOf (s : Nat → Int32) (x1 : Int32) : Option (Int32) := ((f_X9_of s x1 (3 : Int32)).bind fun v1 => (if v1 = (-1 : Int32) then (some (-1 : Int32)) else ((f_X9_of s x1 (4 : Int32)).bind fun v4 => ((f_X9_of s x1 (3 : Int32)).bind fun v6 => (some (((100 : Int32) * v4) + v6))))))
def f_X9_learner (s : Nat → Int32) (E : Nat → Int32) (x1 : Int32) : Option (Int32 × (Nat → Int32)) := ((f_X9_isRange s x1).bind fun v1 => (if v1 = 0 then ((f_X9_fail E (-2 : Int32)).bind fun v4 => (some (v4.1, v4.2))) else ((f_X9_learnerOf s x1).bind fun v6 => (some (v6, E)))))
def f_X9_isAvailable (s : Nat → Int32) (E : Nat → Int32) (x1 : Int32) : Option (Int32 × (Nat → Int32)) := ((f_X9_isRange s x1).bind fun v1 => (if v1 = 0 then ((f_X9_fail E (-2 : Int32)).bind fun v4 => (some (v4.1, v4.2))) else ((f_X9_available s x1).bind fun v6 => (if v6 = 0 then (some ((0 : Int32), E)) else (some ((1 : Int32), E))))))
def f_X9_splitKey_26  (s : Nat → Int32) (E : Nat → Int32)  : Option (Int32 × (Nat → Int32)) := ((f_X9_fail E (-2 : Int32)).bind fun v4 => (some (v4.1, v4.2)))
def f_X9_splitKey (s : Nat → Int32) (E : Nat → Int32) (x1 : Int32) (x2 : Int32) : Option (Int32 × (Nat → Int32)) := ((f_X9_isRange s x1).bind fun v1 => (if v1 = 0 then (f_X9_splitKey_26 s E) else ((f_X9_in x2 (0 : Int32) (1 : Int32)).bind fun v6 => (if v6 = 0 then (f_X9_splitKey_26 s E) else ((f_X9_splitKeyOf s x1 x2).bind fun v9 => (some (v9, E)))))))
def f_X9_replicas (s : Nat → Int32) (E : Nat → Int32) (x1 : Int32) : Option (Int32 × (Nat → Int32)) := ((f_X9_isNode s x1).bind fun v1 => (if v1 = 0 then ((f_X9_fail E (-2 : Int32)).bind fun v4 => (some (v4.1, v4.2))) else ((f_X9_replicasOf s x1).bind fun v6 => (some (v6, E)))))
def f_X9_leaders (s : Nat → Int32) (E : Nat → Int32) (x1 : Int32) : Option (Int32 × (Nat → Int32)) := ((f_X9_isNode s x1).bind fun v1 => (if v1 = 0 then ((f_X9_fail E (-2 : Int32)).bind fun v4 => (some (v4.1, v4.2))) else ((f_X9_leads s x1 (-1 : Int32)).bind fun v6 => (some (v6, E)))))
def f_X9_errorCount (E : Nat → Int32) (x1 : Int32) : Option (Int32 × (Nat → Int32)) := ((f_X9_in x1 (0 : Int32) (2 : Int32)).bind fun v1 => (if v1 = 0 then ((f_X9_fail E (-2 : Int32)).bind fun v4 => (some (v4.1, v4.2))) else (ld E 3 x1 fun v6 => (some (v6, E)))))
def f_X9_add (hs : Int64) (x1 : Int32) : Option ((Int64)) := (some (((31 : Int64) * hs) + (x1).toInt64))
def f_X9_digest_316  : Nat → (Nat → Int32) → (Nat → Int32) → (Int32) → (Int64) → Int32 → Option (Int64 × (Int64))
  | 0, _, _, _, _, _ => none
  | n_ + 1, s, E, n, hs, x1 => (if (8 : Int32) < x1 then (some (hs, hs)) else (ld s 299 ((6 : Int32) + x1) fun v31 => ((f_X9_add hs v31).bind fun v33 => ((f_X9_digest_316 n_) s E n v33 (x1 + (1 : Int32))))))
def f_X9_digest_283  : Nat → (Nat → Int32) → (Nat → Int32) → (Int32) → (Int64) → Int32 → Option (Int64 × (Int64))
  | 0, _, _, _, _, _ => none
  | n_ + 1, s, E, n, hs, x1 => (ld s 299 (18 : Int32) fun v27 => (if v27 ≤ x1 then (f_X9_digest_316 FU s E n hs (1 : Int32)) else (ld s 299 ((267 : Int32) + x1) fun v35 => ((f_X9_add hs v35).bind fun v37 => ((f_X9_digest_283 n_) s E n v37 (x1 + (1 : Int32)))))))
def f_X9_digest_164  : Nat → (Nat → Int32) → (Nat → Int32) → (Int32) → (Int64) → Int32 → Option (Int64 × (Int64))
  | 0, _, _, _, _, _ => none
  | n_ + 1, s, E, n, hs, x1 => (ld s 299 (17 : Int32) fun v20 => (if v20 ≤ x1 then (ld s 299 (18 : Int32) fun v23 => ((f_X9_add hs v23).bind fun v25 => (f_X9_digest_283 FU s E n v25 (0 : Int32)))) else ((f_X9_of s x1 (0 : Int32)).bind fun v39 => ((f_X9_add hs v39).bind fun v41 => ((f_X9_all s x1 (0 : Int32)).bind fun v43 => ((f_X9_add v41 v43).bind fun v45 => ((f_X9_all s x1 (1 : Int32)).bind fun v47 => ((f_X9_add v45 v47).bind fun v49 => ((f_X9_of s x1 (1 : Int32)).bind fun v51 => ((f_X9_add v49 v51).bind fun v53 => ((f_X9_of s x1 (2 : Int32)).bind fun v55 => ((f_X9_add v53 v55).bind fun v57 => ((f_X9_learnerOf s x1).bind fun v59 => ((f_X9_add v57 v59).bind fun v61 => ((f_X9_of s x1 (5 : Int32)).bind fun v63 => ((f_X9_add v61 v63).bind fun v65 => ((f_X9_splitKeyOf s x1 (0 : Int32)).bind fun v67 => ((f_X9_add v65 v67).bind fun v69 => ((f_X9_splitKeyOf s x1 (1 : Int32)).bind fun v71 => ((f_X9_add v69 v71).bind fun v73 => ((f_X9_digest_164 n_) s E n v73 (x1 + (1 : Int32)))))))))))))))))))))))
def f_X9_digest_98 (k85 : (Nat → Int32) → (Nat → Int32) → (Int32) → (Int64) → Int32 → Option (Int64 × (Int64))) : Nat → (Nat → Int32) → (Nat → Int32) → (Int32) → (Int64) → Int32 → Int32 → Option (Int64 × (Int64))
  | 0, _, _, _, _, _, _ => none
  | n_ + 1, s, E, n, hs, x1, x2 => (if (3 : Int32) ≤ x2 then ((f_X9_replicasOf s x1).bind fun v76 => ((f_X9_add hs v76).bind fun v78 => ((f_X9_leads s x1 (-1 : Int32)).bind fun v80 => ((f_X9_add v78 v80).bind fun v82 => (k85 s E n v82 (x1 + (1 : Int32))))))) else (ld s 299 (((19 : Int32) + ((3 : Int32) * x1)) + x2) fun v84 => ((f_X9_add hs v84).bind fun v86 => ((f_X9_digest_98 k85 n_) s E n v86 x1 (x2 + (1 : Int32))))))
def f_X9_digest_85  : Nat → (Nat → Int32) → (Nat → Int32) → (Int32) → (Int64) → Int32 → Option (Int64 × (Int64))
  | 0, _, _, _, _, _ => none
  | n_ + 1, s, E, n, hs, x1 => (ld s 299 (15 : Int32) fun v13 => (if v13 ≤ x1 then (ld s 299 (17 : Int32) fun v16 => ((f_X9_add hs v16).bind fun v18 => (f_X9_digest_164 FU s E n v18 (0 : Int32)))) else (f_X9_digest_98 (f_X9_digest_85 n_) FU s E n hs x1 (0 : Int32))))
def f_X9_digest_51  : Nat → (Nat → Int32) → (Nat → Int32) → (Int32) → (Int64) → Int32 → Option (Int64 × (Int64))
  | 0, _, _, _, _, _ => none
  | n_ + 1, s, E, n, hs, x1 => (if (5 : Int32) < x1 then (ld s 299 (15 : Int32) fun v9 => ((f_X9_add hs v9).bind fun v11 => (f_X9_digest_85 FU s E n v11 (0 : Int32)))) else (ld s 299 x1 fun v88 => ((f_X9_add hs v88).bind fun v90 => ((f_X9_digest_51 n_) s E n v90 (x1 + (1 : Int32))))))
def f_X9_digest_9  : Nat → (Nat → Int32) → (Nat → Int32) → (Int32) → (Int64) → Int32 → Option (Int64 × (Int64))
  | 0, _, _, _, _, _ => none
  | n_ + 1, s, E, n, hs, x1 => (if (3 : Int32) ≤ x1 then ((f_X9_add hs n).bind fun v2 => (ld s 299 (6 : Int32) fun v4 => ((f_X9_add v2 v4).bind fun v6 => (f_X9_digest_51 FU s E n v6 (0 : Int32))))) else (ld E 3 x1 fun v92 => ((f_X9_add hs v92).bind fun v94 => ((f_X9_digest_9 n_) s E n v94 (x1 + (1 : Int32))))))
def f_X9_digest (s : Nat → Int32) (E : Nat → Int32) (n : Int32) (hs : Int64)  : Option (Int64 × (Int64)) := (f_X9_digest_9 FU s E n (12532 : Int64) (0 : Int32))
set_option maxRecDepth 100000 in
set_option maxHeartbeats 4000000 in
theorem c_X9_fail {l : Launch} {D : va_G} {cI cS : ClassId} {A : Nat → Prop} {b : Nat → Nat} {rest : va_W} {s : Nat → Int32} {P : Nat → Int32} {n : Int32} {hs : Int64} {E : Nat → Int32} {x1 : Int32} {r : Int32 × (Nat → Int32)} (hf : f_X9_fail E x1 = some r) : CT l yX9_fail cX9_fail 2 (some .int) (rmF 0 0) D cI cS A [.ref (b 0), .int x1] (wM b cI s P E n hs rest) (wM b cI s P r.2 n hs rest) (some (.int r.1)) := by
  refine CT_of (own := RX9) (xs := [some (.ref (b 0)), some (.int x1)]) (by decide) rfl (Nat.le_of_ble_eq_true rfl) rfl ?_
  intro p e s_ m below meth c C
  unfold f_X9_fail at hf
  refine j_aload_n C dX9_fail_0 rfl ?_
  refine gf_X9_16 C dX9_fail_1 ?_
  refine j_bipush C bp_m2 dX9_fail_4 ?_
  refine j_iload_n C dX9_fail_6 rfl ?_
  refine j_isub C dX9_fail_7 ?_
  refine j_dup2 C dX9_fail_8 rfl rfl ?_
  replace hf := ld_s hf
  obtain ⟨v1, h2, e_v1, hf⟩ := hf
  refine aLM_3 C h2 e_v1 dX9_fail_9 ?_
  refine j_iconst C ic_1 dX9_fail_10 ?_
  refine j_iadd C dX9_fail_11 ?_
  replace hf := sd_s hf
  obtain ⟨h3, hf⟩ := hf
  refine aSM_3 C h3 dX9_fail_12 ?_
  refine j_iload_n C dX9_fail_13 rfl ?_
  cases hf
  exact j_iret C dX9_fail_14
set_option maxRecDepth 100000 in
set_option maxHeartbeats 4000000 in
theorem w_X9_note_51 {p : Program} {l : Launch} {e : Env} {s_ : State} {m : MethodId} {args : Array Value} {below : List Frame} {meth : Method} {c : Code} {D : va_G} {cI cS : ClassId} {A : Nat → Prop} {b : Nat → Nat} {rest : va_W} {E : Nat → Int32} {hs : Int64} (C : cx p s_ m args meth c cX9_note 2 RX9 none D cI cS)  : ∀ (n_ : Nat) (s : Nat → Int32) (P : Nat → Int32) (n : Int32) (x1 : Int32) (r : (Nat → Int32) × (Int32)), f_X9_note_51  n_ s P n x1 = some r → jG p l e (rmF 0 0) s_ m args below meth c 2 D A (MQ below (QW D A (wM b cI s r.1 E r.2 hs rest) none) args s_ 0 0 A) (wM b cI s P E n hs rest) [some (.ref (b 0)), some (.int x1)] 51 [] := by
  intro n_
  induction n_ with
  | zero =>
    intro s P n x1 r hf
    rw [f_X9_note_51] at hf
    cases hf
  | succ n_ hk51 =>
    intro s P n x1 r hf
    rw [f_X9_note_51] at hf
    refine j_iload_n C dX9_note_51 rfl ?_
    refine j_sipush C sp_299 dX9_note_52 ?_
    refine j_icmp_ge C (tgt := 85) (by decide) dX9_note_55 (fun h2 => ?_) (fun h2 => ?_)
    · replace hf := it_t h2 hf
      refine j_aload_n C dX9_note_85 rfl ?_
      refine j_dup C dX9_note_86 rfl ?_
      refine gf_X9_23 C dX9_note_87 ?_
      refine j_iconst C ic_1 dX9_note_90 ?_
      refine j_iadd C dX9_note_91 ?_
      refine pf_X9_23 C dX9_note_92 ?_
      cases hf
      exact j_vret C dX9_note_95
    · replace hf := it_f h2 hf
      refine j_aload_n C dX9_note_58 rfl ?_
      refine gf_X9_13 C dX9_note_59 ?_
      refine j_sipush C sp_299 dX9_note_62 ?_
      refine j_aload_n C dX9_note_65 rfl ?_
      refine gf_X9_23 C dX9_note_66 ?_
      refine j_imul C dX9_note_69 ?_
      refine j_iload_n C dX9_note_70 rfl ?_
      refine j_iadd C dX9_note_71 ?_
      refine j_aload_n C dX9_note_72 rfl ?_
      refine gf_X9_7 C dX9_note_73 ?_
      refine j_iload_n C dX9_note_76 rfl ?_
      replace hf := ld_s hf
      obtain ⟨v3, h4, e_v3, hf⟩ := hf
      refine aLM_1 C h4 e_v3 dX9_note_77 ?_
      replace hf := sd_s hf
      obtain ⟨h5, hf⟩ := hf
      refine aSM_2 C h5 dX9_note_78 ?_
      refine j_iinc C (xs' := [some (.ref (b 0)), some (.int (x1 + (1 : Int32)))]) dX9_note_79 rfl (ii_1 _) rfl rfl ?_
      refine j_goto C (tgt := 51) (by decide) dX9_note_82 ?_
      exact hk51 _ _ _ _ _ hf
set_option maxRecDepth 100000 in
set_option maxHeartbeats 4000000 in
theorem w_X9_note_10 {p : Program} {l : Launch} {e : Env} {s_ : State} {m : MethodId} {args : Array Value} {below : List Frame} {meth : Method} {c : Code} {D : va_G} {cI cS : ClassId} {A : Nat → Prop} {b : Nat → Nat} {rest : va_W} {E : Nat → Int32} {hs : Int64} (C : cx p s_ m args meth c cX9_note 2 RX9 none D cI cS)  : ∀ (n_ : Nat) (s : Nat → Int32) (P : Nat → Int32) (n : Int32) (x1 : Int32) (r : (Nat → Int32) × (Int32)), f_X9_note_10  n_ s P n x1 = some r → jG p l e (rmF 0 0) s_ m args below meth c 2 D A (MQ below (QW D A (wM b cI s r.1 E r.2 hs rest) none) args s_ 0 0 A) (wM b cI s P E n hs rest) [some (.ref (b 0)), some (.int x1)] 10 [] := by
  intro n_
  induction n_ with
  | zero =>
    intro s P n x1 r hf
    rw [f_X9_note_10] at hf
    cases hf
  | succ n_ hk10 =>
    intro s P n x1 r hf
    rw [f_X9_note_10] at hf
    refine j_iload_n C dX9_note_10 rfl ?_
    refine j_sipush C sp_897 dX9_note_11 ?_
    refine j_icmp_ge C (tgt := 39) (by decide) dX9_note_14 (fun h6 => ?_) (fun h6 => ?_)
    · replace hf := it_t h6 hf
      refine j_aload_n C dX9_note_39 rfl ?_
      refine j_dup C dX9_note_40 rfl ?_
      refine gf_X9_23 C dX9_note_41 ?_
      refine j_iconst C ic_1 dX9_note_44 ?_
      refine j_isub C dX9_note_45 ?_
      refine pf_X9_23 C dX9_note_46 ?_
      refine j_iconst C ic_0 dX9_note_49 ?_
      refine j_istore_n C (xs' := [some (.ref (b 0)), some (.int (0 : Int32))]) dX9_note_50 rfl rfl ?_
      exact w_X9_note_51 C  _ _ _ _ _ _ hf
    · replace hf := it_f h6 hf
      refine j_aload_n C dX9_note_17 rfl ?_
      refine gf_X9_13 C dX9_note_18 ?_
      refine j_iload_n C dX9_note_21 rfl ?_
      refine j_aload_n C dX9_note_22 rfl ?_
      refine gf_X9_13 C dX9_note_23 ?_
      refine j_iload_n C dX9_note_26 rfl ?_
      refine j_sipush C sp_299 dX9_note_27 ?_
      refine j_iadd C dX9_note_30 ?_
      replace hf := ld_s hf
      obtain ⟨v7, h8, e_v7, hf⟩ := hf
      refine aLM_2 C h8 e_v7 dX9_note_31 ?_
      replace hf := sd_s hf
      obtain ⟨h9, hf⟩ := hf
      refine aSM_2 C h9 dX9_note_32 ?_
      refine j_iinc C (xs' := [some (.ref (b 0)), some (.int (x1 + (1 : Int32)))]) dX9_note_33 rfl (ii_1 _) rfl rfl ?_
      refine j_goto C (tgt := 10) (by decide) dX9_note_36 ?_
      exact hk10 _ _ _ _ _ hf
set_option maxRecDepth 100000 in
set_option maxHeartbeats 4000000 in
theorem c_X9_note {l : Launch} {D : va_G} {cI cS : ClassId} {A : Nat → Prop} {b : Nat → Nat} {rest : va_W} {E : Nat → Int32} {hs : Int64} {s : Nat → Int32} {P : Nat → Int32} {n : Int32}  {r : (Nat → Int32) × (Int32)} (hf : f_X9_note s P n = some r) : CT l yX9_note cX9_note 2 none (rmF 0 0) D cI cS A [.ref (b 0)] (wM b cI s P E n hs rest) (wM b cI s r.1 E r.2 hs rest) none := by
  refine CT_of (own := RX9) (xs := [some (.ref (b 0)), none]) (by decide) rfl (Nat.le_of_ble_eq_true rfl) rfl ?_
  intro p e s_ m below meth c C
  unfold f_X9_note at hf
  refine j_aload_n C dX9_note_0 rfl ?_
  refine gf_X9_23 C dX9_note_1 ?_
  refine j_iconst C ic_4 dX9_note_4 ?_
  refine j_icmp_ne C (tgt := 49) (by decide) dX9_note_5 (fun h1 => ?_) (fun h1 => ?_)
  · replace hf := it_f h1 hf
    refine j_iconst C ic_0 dX9_note_49 ?_
    refine j_istore_n C (xs' := [some (.ref (b 0)), some (.int (0 : Int32))]) dX9_note_50 rfl rfl ?_
    exact w_X9_note_51 C  _ _ _ _ _ _ hf
  · replace hf := it_t h1 hf
    refine j_iconst C ic_0 dX9_note_8 ?_
    refine j_istore_n C (xs' := [some (.ref (b 0)), some (.int (0 : Int32))]) dX9_note_9 rfl rfl ?_
    exact w_X9_note_10 C  _ _ _ _ _ _ hf
set_option maxRecDepth 100000 in
set_option maxHeartbeats 4000000 in
theorem w_X9_undo_26 {p : Program} {l : Launch} {e : Env} {s_ : State} {m : MethodId} {args : Array Value} {below : List Frame} {meth : Method} {c : Code} {D : va_G} {cI cS : ClassId} {A : Nat → Prop} {b : Nat → Nat} {rest : va_W} {hs : Int64} (C : cx p s_ m args meth c cX9_undo 2 RX9 (some .int) D cI cS)  : ∀ (n_ : Nat) (s : Nat → Int32) (P : Nat → Int32) (E : Nat → Int32) (n : Int32) (x1 : Int32) (r : Int32 × (Nat → Int32) × (Nat → Int32) × (Int32)), f_X9_undo_26  n_ s P E n x1 = some r → jG p l e (rmF 1 21) s_ m args below meth c 2 D A (MQ below (QW D A (wM b cI r.2.1 P r.2.2.1 r.2.2.2 hs rest) (some (.int r.1))) args s_ 0 0 A) (wM b cI s P E n hs rest) [some (.ref (b 0)), some (.int x1)] 26 [] := by
  intro n_
  induction n_ with
  | zero =>
    intro s P E n x1 r hf
    rw [f_X9_undo_26] at hf
    cases hf
  | succ n_ hk26 =>
    intro s P E n x1 r hf
    rw [f_X9_undo_26] at hf
    refine j_iload_n C dX9_undo_26 rfl ?_
    refine j_sipush C sp_299 dX9_undo_27 ?_
    refine j_icmp_ge C (tgt := 60) (by decide) dX9_undo_30 (fun h2 => ?_) (fun h2 => ?_)
    · replace hf := it_t h2 hf
      refine j_aload_n C dX9_undo_60 rfl ?_
      refine gf_X9_23 C dX9_undo_61 ?_
      cases hf
      exact j_iret C dX9_undo_64
    · replace hf := it_f h2 hf
      refine j_aload_n C dX9_undo_33 rfl ?_
      refine gf_X9_7 C dX9_undo_34 ?_
      refine j_iload_n C dX9_undo_37 rfl ?_
      refine j_aload_n C dX9_undo_38 rfl ?_
      refine gf_X9_13 C dX9_undo_39 ?_
      refine j_sipush C sp_299 dX9_undo_42 ?_
      refine j_aload_n C dX9_undo_45 rfl ?_
      refine gf_X9_23 C dX9_undo_46 ?_
      refine j_imul C dX9_undo_49 ?_
      refine j_iload_n C dX9_undo_50 rfl ?_
      refine j_iadd C dX9_undo_51 ?_
      replace hf := ld_s hf
      obtain ⟨v3, h4, e_v3, hf⟩ := hf
      refine aLM_2 C h4 e_v3 dX9_undo_52 ?_
      replace hf := sd_s hf
      obtain ⟨h5, hf⟩ := hf
      refine aSM_1 C h5 dX9_undo_53 ?_
      refine j_iinc C (xs' := [some (.ref (b 0)), some (.int (x1 + (1 : Int32)))]) dX9_undo_54 rfl (ii_1 _) rfl rfl ?_
      refine j_goto C (tgt := 26) (by decide) dX9_undo_57 ?_
      exact hk26 _ _ _ _ _ _ hf
set_option maxRecDepth 100000 in
set_option maxHeartbeats 4000000 in
theorem c_X9_undo {l : Launch} {D : va_G} {cI cS : ClassId} {A : Nat → Prop} {b : Nat → Nat} {rest : va_W} {hs : Int64} {s : Nat → Int32} {P : Nat → Int32} {E : Nat → Int32} {n : Int32}  {r : Int32 × (Nat → Int32) × (Nat → Int32) × (Int32)} (hf : f_X9_undo s P E n = some r) : CT l yX9_undo cX9_undo 2 (some .int) (rmF 1 21) D cI cS A [.ref (b 0)] (wM b cI s P E n hs rest) (wM b cI r.2.1 P r.2.2.1 r.2.2.2 hs rest) (some (.int r.1)) := by
  refine CT_of (own := RX9) (xs := [some (.ref (b 0)), none]) (by decide) rfl (Nat.le_of_ble_eq_true rfl) rfl ?_
  intro p e s_ m below meth c C
  unfold f_X9_undo at hf
  refine j_aload_n C dX9_undo_0 rfl ?_
  refine gf_X9_23 C dX9_undo_1 ?_
  refine j_if_ne C (tgt := 14) (by decide) dX9_undo_4 (fun h1 => ?_) (fun h1 => ?_)
  · replace hf := it_f h1 hf
    refine j_aload_n C dX9_undo_14 rfl ?_
    refine j_dup C dX9_undo_15 rfl ?_
    refine gf_X9_23 C dX9_undo_16 ?_
    refine j_iconst C ic_1 dX9_undo_19 ?_
    refine j_isub C dX9_undo_20 ?_
    refine pf_X9_23 C dX9_undo_21 ?_
    refine j_iconst C ic_0 dX9_undo_24 ?_
    refine j_istore_n C (xs' := [some (.ref (b 0)), some (.int (0 : Int32))]) dX9_undo_25 rfl rfl ?_
    exact w_X9_undo_26 C  _ _ _ _ _ _ _ hf
  · replace hf := it_t h1 hf
    refine j_aload_n C dX9_undo_7 rfl ?_
    refine j_bipush C bp_m3 dX9_undo_8 ?_
    replace hf := bd hf
    obtain ⟨v6, h7, hf⟩ := hf
    refine j_callV C cl_X9_27 (c_X9_fail h7) ⟨Nat.le_of_ble_eq_true rfl, Nat.le_of_ble_eq_true rfl⟩ ⟨Nat.zero_le _, Nat.zero_le _⟩ (q0 := 0) rfl rfl rfl rfl (Nat.le_of_ble_eq_true rfl) rfl rfl wM_fst dX9_undo_10 ?_
    cases hf
    exact j_iret C dX9_undo_13
set_option maxRecDepth 100000 in
set_option maxHeartbeats 4000000 in
theorem c_X9_of {l : Launch} {D : va_G} {cI cS : ClassId} {A : Nat → Prop} {b : Nat → Nat} {rest : va_W} {P : Nat → Int32} {E : Nat → Int32} {n : Int32} {hs : Int64} {s : Nat → Int32} {x1 : Int32} {x2 : Int32} {r : Int32} (hf : f_X9_of s x1 x2 = some r) : CT l yX9_of cX9_of 3 (some .int) (rmF 0 0) D cI cS A [.ref (b 0), .int x1, .int x2] (wM b cI s P E n hs rest) (wM b cI s P E n hs rest) (some (.int r)) := by
  refine CT_of (own := RX9) (xs := [some (.ref (b 0)), some (.int x1), some (.int x2)]) (by decide) rfl (Nat.le_of_ble_eq_true rfl) rfl ?_
  intro p e s_ m below meth c C
  unfold f_X9_of at hf
  refine j_aload_n C dX9_of_0 rfl ?_
  refine gf_X9_7 C dX9_of_1 ?_
  refine j_sipush C sp_171 dX9_of_4 ?_
  refine j_bipush C bp_6 dX9_of_7 ?_
  refine j_iload_n C dX9_of_9 rfl ?_
  refine j_imul C dX9_of_10 ?_
  refine j_iadd C dX9_of_11 ?_
  refine j_iload_n C dX9_of_12 rfl ?_
  refine j_iadd C dX9_of_13 ?_
  replace hf := ld_s hf
  obtain ⟨v1, h2, e_v1, hf⟩ := hf
  refine aLM_1 C h2 e_v1 dX9_of_14 ?_
  cases hf
  exact j_iret C dX9_of_15
set_option maxRecDepth 100000 in
set_option maxHeartbeats 4000000 in
theorem c_X9_set {l : Launch} {D : va_G} {cI cS : ClassId} {A : Nat → Prop} {b : Nat → Nat} {rest : va_W} {P : Nat → Int32} {E : Nat → Int32} {n : Int32} {hs : Int64} {s : Nat → Int32} {x1 : Int32} {x2 : Int32} {x3 : Int32} {r : (Nat → Int32)} (hf : f_X9_set s x1 x2 x3 = some r) : CT l yX9_set cX9_set 4 none (rmF 0 0) D cI cS A [.ref (b 0), .int x1, .int x2, .int x3] (wM b cI s P E n hs rest) (wM b cI r P E n hs rest) none := by
  refine CT_of (own := RX9) (xs := [some (.ref (b 0)), some (.int x1), some (.int x2), some (.int x3)]) (by decide) rfl (Nat.le_of_ble_eq_true rfl) rfl ?_
  intro p e s_ m below meth c C
  unfold f_X9_set at hf
  refine j_aload_n C dX9_set_0 rfl ?_
  refine gf_X9_7 C dX9_set_1 ?_
  refine j_sipush C sp_171 dX9_set_4 ?_
  refine j_bipush C bp_6 dX9_set_7 ?_
  refine j_iload_n C dX9_set_9 rfl ?_
  refine j_imul C dX9_set_10 ?_
  refine j_iadd C dX9_set_11 ?_
  refine j_iload_n C dX9_set_12 rfl ?_
  refine j_iadd C dX9_set_13 ?_
  refine j_iload_n C dX9_set_14 rfl ?_
  replace hf := sd_s hf
  obtain ⟨h1, hf⟩ := hf
  refine aSM_1 C h1 dX9_set_15 ?_
  cases hf
  exact j_vret C dX9_set_16
set_option maxRecDepth 100000 in
set_option maxHeartbeats 4000000 in
theorem c_X9_isNode {l : Launch} {D : va_G} {cI cS : ClassId} {A : Nat → Prop} {b : Nat → Nat} {rest : va_W} {P : Nat → Int32} {E : Nat → Int32} {n : Int32} {hs : Int64} {s : Nat → Int32} {x1 : Int32} {r : Int32} (hf : f_X9_isNode s x1 = some r) : CT l yX9_isNode cX9_isNode 2 (some .boolean) (rmF 1 22) D cI cS A [.ref (b 0), .int x1] (wM b cI s P E n hs rest) (wM b cI s P E n hs rest) (some (.int r)) := by
  refine CT_of (own := RX9) (xs := [some (.ref (b 0)), some (.int x1)]) (by decide) rfl (Nat.le_of_ble_eq_true rfl) rfl ?_
  intro p e s_ m below meth c C
  unfold f_X9_isNode at hf
  refine j_iload_n C dX9_isNode_0 rfl ?_
  refine j_iconst C ic_0 dX9_isNode_1 ?_
  refine j_aload_n C dX9_isNode_2 rfl ?_
  refine gf_X9_7 C dX9_isNode_3 ?_
  refine j_bipush C bp_15 dX9_isNode_6 ?_
  replace hf := ld_s hf
  obtain ⟨v1, h2, e_v1, hf⟩ := hf
  refine aLM_1 C h2 e_v1 dX9_isNode_8 ?_
  refine j_iconst C ic_1 dX9_isNode_9 ?_
  refine j_isub C dX9_isNode_10 ?_
  replace hf := bd hf
  obtain ⟨v3, h4, hf⟩ := hf
  refine j_callS C cl_X9_31 (c_X9_in h4) ⟨Nat.le_of_ble_eq_true rfl, Nat.le_of_ble_eq_true rfl⟩ ⟨Nat.zero_le _, Nat.zero_le _⟩ rfl (Nat.le_of_ble_eq_true rfl) rfl rfl rfl dX9_isNode_11 ?_
  replace hf := zr_s hf
  obtain ⟨h5, hf⟩ := hf
  cases hf
  exact j_zret C h5 dX9_isNode_14
set_option maxRecDepth 100000 in
set_option maxHeartbeats 4000000 in
theorem c_X9_isRange {l : Launch} {D : va_G} {cI cS : ClassId} {A : Nat → Prop} {b : Nat → Nat} {rest : va_W} {P : Nat → Int32} {E : Nat → Int32} {n : Int32} {hs : Int64} {s : Nat → Int32} {x1 : Int32} {r : Int32} (hf : f_X9_isRange s x1 = some r) : CT l yX9_isRange cX9_isRange 2 (some .boolean) (rmF 1 22) D cI cS A [.ref (b 0), .int x1] (wM b cI s P E n hs rest) (wM b cI s P E n hs rest) (some (.int r)) := by
  refine CT_of (own := RX9) (xs := [some (.ref (b 0)), some (.int x1)]) (by decide) rfl (Nat.le_of_ble_eq_true rfl) rfl ?_
  intro p e s_ m below meth c C
  unfold f_X9_isRange at hf
  refine j_iload_n C dX9_isRange_0 rfl ?_
  refine j_iconst C ic_0 dX9_isRange_1 ?_
  refine j_aload_n C dX9_isRange_2 rfl ?_
  refine gf_X9_7 C dX9_isRange_3 ?_
  refine j_bipush C bp_17 dX9_isRange_6 ?_
  replace hf := ld_s hf
  obtain ⟨v1, h2, e_v1, hf⟩ := hf
  refine aLM_1 C h2 e_v1 dX9_isRange_8 ?_
  refine j_iconst C ic_1 dX9_isRange_9 ?_
  refine j_isub C dX9_isRange_10 ?_
  replace hf := bd hf
  obtain ⟨v3, h4, hf⟩ := hf
  refine j_callS C cl_X9_31 (c_X9_in h4) ⟨Nat.le_of_ble_eq_true rfl, Nat.le_of_ble_eq_true rfl⟩ ⟨Nat.zero_le _, Nat.zero_le _⟩ rfl (Nat.le_of_ble_eq_true rfl) rfl rfl rfl dX9_isRange_11 ?_
  replace hf := zr_s hf
  obtain ⟨h5, hf⟩ := hf
  cases hf
  exact j_zret C h5 dX9_isRange_14
set_option maxRecDepth 100000 in
set_option maxHeartbeats 4000000 in
theorem c_X9_zone {l : Launch} {D : va_G} {cI cS : ClassId} {A : Nat → Prop} {b : Nat → Nat} {rest : va_W} {P : Nat → Int32} {E : Nat → Int32} {n : Int32} {hs : Int64} {s : Nat → Int32} {x1 : Int32} {r : Int32} (hf : f_X9_zone s x1 = some r) : CT l yX9_zone cX9_zone 2 (some .int) (rmF 0 0) D cI cS A [.ref (b 0), .int x1] (wM b cI s P E n hs rest) (wM b cI s P E n hs rest) (some (.int r)) := by
  refine CT_of (own := RX9) (xs := [some (.ref (b 0)), some (.int x1)]) (by decide) rfl (Nat.le_of_ble_eq_true rfl) rfl ?_
  intro p e s_ m below meth c C
  unfold f_X9_zone at hf
  refine j_aload_n C dX9_zone_0 rfl ?_
  refine gf_X9_7 C dX9_zone_1 ?_
  refine j_bipush C bp_19 dX9_zone_4 ?_
  refine j_iconst C ic_3 dX9_zone_6 ?_
  refine j_iload_n C dX9_zone_7 rfl ?_
  refine j_imul C dX9_zone_8 ?_
  refine j_iadd C dX9_zone_9 ?_
  replace hf := ld_s hf
  obtain ⟨v1, h2, e_v1, hf⟩ := hf
  refine aLM_1 C h2 e_v1 dX9_zone_10 ?_
  cases hf
  exact j_iret C dX9_zone_11
set_option maxRecDepth 100000 in
set_option maxHeartbeats 4000000 in
theorem c_X9_isUp {l : Launch} {D : va_G} {cI cS : ClassId} {A : Nat → Prop} {b : Nat → Nat} {rest : va_W} {P : Nat → Int32} {E : Nat → Int32} {n : Int32} {hs : Int64} {s : Nat → Int32} {x1 : Int32} {r : Int32} (hf : f_X9_isUp s x1 = some r) : CT l yX9_isUp cX9_isUp 2 (some .boolean) (rmF 0 0) D cI cS A [.ref (b 0), .int x1] (wM b cI s P E n hs rest) (wM b cI s P E n hs rest) (some (.int r)) := by
  refine CT_of (own := RX9) (xs := [some (.ref (b 0)), some (.int x1)]) (by decide) rfl (Nat.le_of_ble_eq_true rfl) rfl ?_
  intro p e s_ m below meth c C
  unfold f_X9_isUp at hf
  refine j_aload_n C dX9_isUp_0 rfl ?_
  refine gf_X9_7 C dX9_isUp_1 ?_
  refine j_bipush C bp_19 dX9_isUp_4 ?_
  refine j_iconst C ic_3 dX9_isUp_6 ?_
  refine j_iload_n C dX9_isUp_7 rfl ?_
  refine j_imul C dX9_isUp_8 ?_
  refine j_iadd C dX9_isUp_9 ?_
  refine j_iconst C ic_2 dX9_isUp_10 ?_
  refine j_iadd C dX9_isUp_11 ?_
  replace hf := ld_s hf
  obtain ⟨v1, h2, e_v1, hf⟩ := hf
  refine aLM_1 C h2 e_v1 dX9_isUp_12 ?_
  refine j_iconst C ic_1 dX9_isUp_13 ?_
  refine j_icmp_ne C (tgt := 21) (by decide) dX9_isUp_14 (fun h3 => ?_) (fun h3 => ?_)
  · replace hf := it_f h3 hf
    refine j_iconst C ic_0 dX9_isUp_21 ?_
    cases hf
    exact j_zret C zc_0 dX9_isUp_22
  · replace hf := it_t h3 hf
    refine j_iconst C ic_1 dX9_isUp_17 ?_
    refine j_goto C (tgt := 22) (by decide) dX9_isUp_18 ?_
    cases hf
    exact j_zret C zc_1 dX9_isUp_22
set_option maxRecDepth 100000 in
set_option maxHeartbeats 4000000 in
theorem w_X9_ups_4 {p : Program} {l : Launch} {e : Env} {s_ : State} {m : MethodId} {args : Array Value} {below : List Frame} {meth : Method} {c : Code} {D : va_G} {cI cS : ClassId} {A : Nat → Prop} {b : Nat → Nat} {rest : va_W} {P : Nat → Int32} {E : Nat → Int32} {n : Int32} {hs : Int64} (C : cx p s_ m args meth c cX9_ups 3 RX9 (some .int) D cI cS)  : ∀ (n_ : Nat) (s : Nat → Int32) (x1 : Int32) (x2 : Int32) (r : Int32), f_X9_ups_4  n_ s x1 x2 = some r → jG p l e (rmF 1 21) s_ m args below meth c 3 D A (MQ below (QW D A (wM b cI s P E n hs rest) (some (.int r))) args s_ 0 0 A) (wM b cI s P E n hs rest) [some (.ref (b 0)), some (.int x1), some (.int x2)] 4 [] := by
  intro n_
  induction n_ with
  | zero =>
    intro s x1 x2 r hf
    rw [f_X9_ups_4] at hf
    cases hf
  | succ n_ hk4 =>
    intro s x1 x2 r hf
    rw [f_X9_ups_4] at hf
    refine j_iload_n C dX9_ups_4 rfl ?_
    refine j_aload_n C dX9_ups_5 rfl ?_
    refine gf_X9_7 C dX9_ups_6 ?_
    refine j_bipush C bp_15 dX9_ups_9 ?_
    replace hf := ld_s hf
    obtain ⟨v1, h2, e_v1, hf⟩ := hf
    refine aLM_1 C h2 e_v1 dX9_ups_11 ?_
    refine j_icmp_ge C (tgt := 39) (by decide) dX9_ups_12 (fun h3 => ?_) (fun h3 => ?_)
    · replace hf := it_t h3 hf
      refine j_iload_n C dX9_ups_39 rfl ?_
      cases hf
      exact j_iret C dX9_ups_40
    · replace hf := it_f h3 hf
      refine j_iload_n C dX9_ups_15 rfl ?_
      refine j_aload_n C dX9_ups_16 rfl ?_
      refine j_iload_n C dX9_ups_17 rfl ?_
      replace hf := bd hf
      obtain ⟨v4, h5, hf⟩ := hf
      refine j_callV C cl_X9_35 (c_X9_isUp h5) ⟨Nat.le_of_ble_eq_true rfl, Nat.le_of_ble_eq_true rfl⟩ ⟨Nat.zero_le _, Nat.zero_le _⟩ (q0 := 0) rfl rfl rfl rfl (Nat.le_of_ble_eq_true rfl) rfl rfl rfl dX9_ups_18 ?_
      refine j_if_eq C (tgt := 30) (by decide) dX9_ups_21 (fun h6 => ?_) (fun h6 => ?_)
      · replace hf := it_t h6 hf
        refine j_iconst C ic_0 dX9_ups_30 ?_
        refine j_ior C dX9_ups_31 ?_
        refine j_istore_n C (xs' := [some (.ref (b 0)), some (.int (x1 ||| (0 : Int32))), some (.int x2)]) dX9_ups_32 rfl rfl ?_
        refine j_iinc C (xs' := [some (.ref (b 0)), some (.int (x1 ||| (0 : Int32))), some (.int (x2 + (1 : Int32)))]) dX9_ups_33 rfl (ii_1 _) rfl rfl ?_
        refine j_goto C (tgt := 4) (by decide) dX9_ups_36 ?_
        exact hk4 _ _ _ _ hf
      · replace hf := it_f h6 hf
        refine j_iconst C ic_1 dX9_ups_24 ?_
        refine j_iload_n C dX9_ups_25 rfl ?_
        refine j_ishl C dX9_ups_26 ?_
        refine j_goto C (tgt := 31) (by decide) dX9_ups_27 ?_
        refine j_ior C dX9_ups_31 ?_
        refine j_istore_n C (xs' := [some (.ref (b 0)), some (.int (x1 ||| ((1 : Int32) <<< (x2 &&& 31)))), some (.int x2)]) dX9_ups_32 rfl rfl ?_
        refine j_iinc C (xs' := [some (.ref (b 0)), some (.int (x1 ||| ((1 : Int32) <<< (x2 &&& 31)))), some (.int (x2 + (1 : Int32)))]) dX9_ups_33 rfl (ii_1 _) rfl rfl ?_
        refine j_goto C (tgt := 4) (by decide) dX9_ups_36 ?_
        exact hk4 _ _ _ _ hf
set_option maxRecDepth 100000 in
set_option maxHeartbeats 4000000 in
theorem c_X9_ups {l : Launch} {D : va_G} {cI cS : ClassId} {A : Nat → Prop} {b : Nat → Nat} {rest : va_W} {P : Nat → Int32} {E : Nat → Int32} {n : Int32} {hs : Int64} {s : Nat → Int32}  {r : Int32} (hf : f_X9_ups s = some r) : CT l yX9_ups cX9_ups 3 (some .int) (rmF 1 21) D cI cS A [.ref (b 0)] (wM b cI s P E n hs rest) (wM b cI s P E n hs rest) (some (.int r)) := by
  refine CT_of (own := RX9) (xs := [some (.ref (b 0)), none, none]) (by decide) rfl (Nat.le_of_ble_eq_true rfl) rfl ?_
  intro p e s_ m below meth c C
  unfold f_X9_ups at hf
  refine j_iconst C ic_0 dX9_ups_0 ?_
  refine j_istore_n C (xs' := [some (.ref (b 0)), some (.int (0 : Int32)), none]) dX9_ups_1 rfl rfl ?_
  refine j_iconst C ic_0 dX9_ups_2 ?_
  refine j_istore_n C (xs' := [some (.ref (b 0)), some (.int (0 : Int32)), some (.int (0 : Int32))]) dX9_ups_3 rfl rfl ?_
  exact w_X9_ups_4 C  _ _ _ _ _ hf
set_option maxRecDepth 100000 in
set_option maxHeartbeats 4000000 in
theorem c_X9_available {l : Launch} {D : va_G} {cI cS : ClassId} {A : Nat → Prop} {b : Nat → Nat} {rest : va_W} {P : Nat → Int32} {E : Nat → Int32} {n : Int32} {hs : Int64} {s : Nat → Int32} {x1 : Int32} {r : Int32} (hf : f_X9_available s x1 = some r) : CT l yX9_available cX9_available 2 (some .boolean) (rmF 2 43) D cI cS A [.ref (b 0), .int x1] (wM b cI s P E n hs rest) (wM b cI s P E n hs rest) (some (.int r)) := by
  refine CT_of (own := RX9) (xs := [some (.ref (b 0)), some (.int x1)]) (by decide) rfl (Nat.le_of_ble_eq_true rfl) rfl ?_
  intro p e s_ m below meth c C
  unfold f_X9_available at hf
  refine j_iconst C ic_2 dX9_available_0 ?_
  refine j_aload_n C dX9_available_1 rfl ?_
  refine j_iload_n C dX9_available_2 rfl ?_
  refine j_iconst C ic_1 dX9_available_3 ?_
  replace hf := bd hf
  obtain ⟨v1, h2, hf⟩ := hf
  refine j_callV C cl_X9_39 (c_X9_of h2) ⟨Nat.le_of_ble_eq_true rfl, Nat.le_of_ble_eq_true rfl⟩ ⟨Nat.zero_le _, Nat.zero_le _⟩ (q0 := 0) rfl rfl rfl rfl (Nat.le_of_ble_eq_true rfl) rfl rfl rfl dX9_available_4 ?_
  refine j_aload_n C dX9_available_7 rfl ?_
  replace hf := bd hf
  obtain ⟨v3, h4, hf⟩ := hf
  refine j_callV C cl_X9_43 (c_X9_ups h4) ⟨Nat.le_of_ble_eq_true rfl, Nat.le_of_ble_eq_true rfl⟩ ⟨Nat.zero_le _, Nat.zero_le _⟩ (q0 := 0) rfl rfl rfl rfl (Nat.le_of_ble_eq_true rfl) rfl rfl rfl dX9_available_8 ?_
  refine j_iand C dX9_available_11 ?_
  replace hf := bd hf
  obtain ⟨v5, h6, hf⟩ := hf
  refine j_callS C cl_X9_47 (c_X9_count h6) ⟨Nat.le_of_ble_eq_true rfl, Nat.le_of_ble_eq_true rfl⟩ ⟨Nat.zero_le _, Nat.zero_le _⟩ rfl (Nat.le_of_ble_eq_true rfl) rfl rfl rfl dX9_available_12 ?_
  refine j_imul C dX9_available_15 ?_
  refine j_aload_n C dX9_available_16 rfl ?_
  refine j_iload_n C dX9_available_17 rfl ?_
  refine j_iconst C ic_1 dX9_available_18 ?_
  replace hf := bd hf
  obtain ⟨v7, h8, hf⟩ := hf
  refine j_callV C cl_X9_39 (c_X9_of h8) ⟨Nat.le_of_ble_eq_true rfl, Nat.le_of_ble_eq_true rfl⟩ ⟨Nat.zero_le _, Nat.zero_le _⟩ (q0 := 0) rfl rfl rfl rfl (Nat.le_of_ble_eq_true rfl) rfl rfl rfl dX9_available_19 ?_
  replace hf := bd hf
  obtain ⟨v9, h10, hf⟩ := hf
  refine j_callS C cl_X9_47 (c_X9_count h10) ⟨Nat.le_of_ble_eq_true rfl, Nat.le_of_ble_eq_true rfl⟩ ⟨Nat.zero_le _, Nat.zero_le _⟩ rfl (Nat.le_of_ble_eq_true rfl) rfl rfl rfl dX9_available_22 ?_
  refine j_icmp_le C (tgt := 32) (by decide) dX9_available_25 (fun h11 => ?_) (fun h11 => ?_)
  · replace hf := it_t h11 hf
    refine j_iconst C ic_0 dX9_available_32 ?_
    cases hf
    exact j_zret C zc_0 dX9_available_33
  · replace hf := it_f h11 hf
    refine j_iconst C ic_1 dX9_available_28 ?_
    refine j_goto C (tgt := 33) (by decide) dX9_available_29 ?_
    cases hf
    exact j_zret C zc_1 dX9_available_33
set_option maxRecDepth 100000 in
set_option maxHeartbeats 4000000 in
theorem w_X9_replicasOf_39 {p : Program} {l : Launch} {e : Env} {s_ : State} {m : MethodId} {args : Array Value} {below : List Frame} {meth : Method} {c : Code} {D : va_G} {cI cS : ClassId} {A : Nat → Prop} {b : Nat → Nat} {rest : va_W} {P : Nat → Int32} {E : Nat → Int32} {n : Int32} {hs : Int64} (C : cx p s_ m args meth c cX9_replicasOf 4 RX9 (some .int) D cI cS) (k4 : (Nat → Int32) → Int32 → Int32 → Int32 → Option (Int32)) (hk4 : ∀ (s : Nat → Int32) (x1 : Int32) (x2 : Int32) (x3 : Int32) (r : Int32), k4 s x1 x2 x3 = some r → jG p l e (rmF 1 22) s_ m args below meth c 4 D A (MQ below (QW D A (wM b cI s P E n hs rest) (some (.int r))) args s_ 0 0 A) (wM b cI s P E n hs rest) [some (.ref (b 0)), some (.int x1), some (.int x2), some (.int x3)] 4 []) : ∀ (s : Nat → Int32) (x1 : Int32) (x3 : Int32) (y0 : Int32) (r : Int32), f_X9_replicasOf_39 k4 s x1 x3 y0 = some r → jG p l e (rmF 1 22) s_ m args below meth c 4 D A (MQ below (QW D A (wM b cI s P E n hs rest) (some (.int r))) args s_ 0 0 A) (wM b cI s P E n hs rest) [some (.ref (b 0)), some (.int x1), none, some (.int x3)] 39 [.int y0] := by
  intro s x1 x3 y0 r hf
  unfold f_X9_replicasOf_39 at hf
  refine j_iconst C ic_1 dX9_replicasOf_39 ?_
  refine j_goto C (tgt := 44) (by decide) dX9_replicasOf_40 ?_
  refine j_iadd C dX9_replicasOf_44 ?_
  refine j_istore_n C (xs' := [some (.ref (b 0)), some (.int x1), some (.int (y0 + (1 : Int32))), some (.int x3)]) dX9_replicasOf_45 rfl rfl ?_
  refine j_iinc C (xs' := [some (.ref (b 0)), some (.int x1), some (.int (y0 + (1 : Int32))), some (.int (x3 + (1 : Int32)))]) dX9_replicasOf_46 rfl (ii_1 _) rfl rfl ?_
  refine j_goto C (tgt := 4) (by decide) dX9_replicasOf_49 ?_
  exact hk4 _ _ _ _ _ hf
set_option maxRecDepth 100000 in
set_option maxHeartbeats 4000000 in
theorem w_X9_replicasOf_4 {p : Program} {l : Launch} {e : Env} {s_ : State} {m : MethodId} {args : Array Value} {below : List Frame} {meth : Method} {c : Code} {D : va_G} {cI cS : ClassId} {A : Nat → Prop} {b : Nat → Nat} {rest : va_W} {P : Nat → Int32} {E : Nat → Int32} {n : Int32} {hs : Int64} (C : cx p s_ m args meth c cX9_replicasOf 4 RX9 (some .int) D cI cS)  : ∀ (n_ : Nat) (s : Nat → Int32) (x1 : Int32) (x2 : Int32) (x3 : Int32) (r : Int32), f_X9_replicasOf_4  n_ s x1 x2 x3 = some r → jG p l e (rmF 1 22) s_ m args below meth c 4 D A (MQ below (QW D A (wM b cI s P E n hs rest) (some (.int r))) args s_ 0 0 A) (wM b cI s P E n hs rest) [some (.ref (b 0)), some (.int x1), some (.int x2), some (.int x3)] 4 [] := by
  intro n_
  induction n_ with
  | zero =>
    intro s x1 x2 x3 r hf
    rw [f_X9_replicasOf_4] at hf
    cases hf
  | succ n_ hk4 =>
    intro s x1 x2 x3 r hf
    rw [f_X9_replicasOf_4] at hf
    refine j_iload_n C dX9_replicasOf_4 rfl ?_
    refine j_aload_n C dX9_replicasOf_5 rfl ?_
    refine gf_X9_7 C dX9_replicasOf_6 ?_
    refine j_bipush C bp_17 dX9_replicasOf_9 ?_
    replace hf := ld_s hf
    obtain ⟨v1, h2, e_v1, hf⟩ := hf
    refine aLM_1 C h2 e_v1 dX9_replicasOf_11 ?_
    refine j_icmp_ge C (tgt := 52) (by decide) dX9_replicasOf_12 (fun h3 => ?_) (fun h3 => ?_)
    · replace hf := it_t h3 hf
      refine j_iload_n C dX9_replicasOf_52 rfl ?_
      cases hf
      exact j_iret C dX9_replicasOf_53
    · replace hf := it_f h3 hf
      refine j_iload_n C dX9_replicasOf_15 rfl ?_
      refine j_aload_n C dX9_replicasOf_16 rfl ?_
      refine j_iload_n C dX9_replicasOf_17 rfl ?_
      refine j_iconst C ic_1 dX9_replicasOf_18 ?_
      replace hf := bd hf
      obtain ⟨v4, h5, hf⟩ := hf
      refine j_callV C cl_X9_39 (c_X9_of h5) ⟨Nat.le_of_ble_eq_true rfl, Nat.le_of_ble_eq_true rfl⟩ ⟨Nat.zero_le _, Nat.zero_le _⟩ (q0 := 0) rfl rfl rfl rfl (Nat.le_of_ble_eq_true rfl) rfl rfl rfl dX9_replicasOf_19 ?_
      refine j_iload_n C dX9_replicasOf_22 rfl ?_
      replace hf := bd hf
      obtain ⟨v6, h7, hf⟩ := hf
      refine j_callS C cl_X9_50 (c_X9_has h7) ⟨Nat.le_of_ble_eq_true rfl, Nat.le_of_ble_eq_true rfl⟩ ⟨Nat.zero_le _, Nat.zero_le _⟩ rfl (Nat.le_of_ble_eq_true rfl) rfl rfl rfl dX9_replicasOf_23 ?_
      refine j_if_ne C (tgt := 39) (by decide) dX9_replicasOf_26 (fun h8 => ?_) (fun h8 => ?_)
      · replace hf := it_f h8 hf
        refine j_weak [true, true, false, true] rfl ?_
        exact w_X9_replicasOf_39 C _ hk4 _ _ _ _ _ hf
      · replace hf := it_t h8 hf
        refine j_aload_n C dX9_replicasOf_29 rfl ?_
        refine j_iload_n C dX9_replicasOf_30 rfl ?_
        refine j_iconst C ic_3 dX9_replicasOf_31 ?_
        replace hf := bd hf
        obtain ⟨v9, h10, hf⟩ := hf
        refine j_callV C cl_X9_39 (c_X9_of h10) ⟨Nat.le_of_ble_eq_true rfl, Nat.le_of_ble_eq_true rfl⟩ ⟨Nat.zero_le _, Nat.zero_le _⟩ (q0 := 0) rfl rfl rfl rfl (Nat.le_of_ble_eq_true rfl) rfl rfl rfl dX9_replicasOf_32 ?_
        refine j_iload_n C dX9_replicasOf_35 rfl ?_
        refine j_icmp_ne C (tgt := 43) (by decide) dX9_replicasOf_36 (fun h11 => ?_) (fun h11 => ?_)
        · replace hf := it_f h11 hf
          refine j_iconst C ic_0 dX9_replicasOf_43 ?_
          refine j_iadd C dX9_replicasOf_44 ?_
          refine j_istore_n C (xs' := [some (.ref (b 0)), some (.int x1), some (.int (x2 + (0 : Int32))), some (.int x3)]) dX9_replicasOf_45 rfl rfl ?_
          refine j_iinc C (xs' := [some (.ref (b 0)), some (.int x1), some (.int (x2 + (0 : Int32))), some (.int (x3 + (1 : Int32)))]) dX9_replicasOf_46 rfl (ii_1 _) rfl rfl ?_
          refine j_goto C (tgt := 4) (by decide) dX9_replicasOf_49 ?_
          exact hk4 _ _ _ _ _ hf
        · replace hf := it_t h11 hf
          refine j_weak [true, true, false, true] rfl ?_
          exact w_X9_replicasOf_39 C _ hk4 _ _ _ _ _ hf
set_option maxRecDepth 100000 in
set_option maxHeartbeats 4000000 in
theorem c_X9_replicasOf {l : Launch} {D : va_G} {cI cS : ClassId} {A : Nat → Prop} {b : Nat → Nat} {rest : va_W} {P : Nat → Int32} {E : Nat → Int32} {n : Int32} {hs : Int64} {s : Nat → Int32} {x1 : Int32} {r : Int32} (hf : f_X9_replicasOf s x1 = some r) : CT l yX9_replicasOf cX9_replicasOf 4 (some .int) (rmF 1 22) D cI cS A [.ref (b 0), .int x1] (wM b cI s P E n hs rest) (wM b cI s P E n hs rest) (some (.int r)) := by
  refine CT_of (own := RX9) (xs := [some (.ref (b 0)), some (.int x1), none, none]) (by decide) rfl (Nat.le_of_ble_eq_true rfl) rfl ?_
  intro p e s_ m below meth c C
  unfold f_X9_replicasOf at hf
  refine j_iconst C ic_0 dX9_replicasOf_0 ?_
  refine j_istore_n C (xs' := [some (.ref (b 0)), some (.int x1), some (.int (0 : Int32)), none]) dX9_replicasOf_1 rfl rfl ?_
  refine j_iconst C ic_0 dX9_replicasOf_2 ?_
  refine j_istore_n C (xs' := [some (.ref (b 0)), some (.int x1), some (.int (0 : Int32)), some (.int (0 : Int32))]) dX9_replicasOf_3 rfl rfl ?_
  exact w_X9_replicasOf_4 C  _ _ _ _ _ _ hf
set_option maxRecDepth 100000 in
set_option maxHeartbeats 4000000 in
theorem w_X9_leads_39 {p : Program} {l : Launch} {e : Env} {s_ : State} {m : MethodId} {args : Array Value} {below : List Frame} {meth : Method} {c : Code} {D : va_G} {cI cS : ClassId} {A : Nat → Prop} {b : Nat → Nat} {rest : va_W} {P : Nat → Int32} {E : Nat → Int32} {n : Int32} {hs : Int64} (C : cx p s_ m args meth c cX9_leads 5 RX9 (some .int) D cI cS) (k5 : (Nat → Int32) → Int32 → Int32 → Int32 → Int32 → Option (Int32)) (hk5 : ∀ (s : Nat → Int32) (x1 : Int32) (x2 : Int32) (x3 : Int32) (x4 : Int32) (r : Int32), k5 s x1 x2 x3 x4 = some r → jG p l e (rmF 1 22) s_ m args below meth c 5 D A (MQ below (QW D A (wM b cI s P E n hs rest) (some (.int r))) args s_ 0 0 A) (wM b cI s P E n hs rest) [some (.ref (b 0)), some (.int x1), some (.int x2), some (.int x3), some (.int x4)] 5 []) : ∀ (s : Nat → Int32) (x1 : Int32) (x2 : Int32) (x4 : Int32) (y0 : Int32) (r : Int32), f_X9_leads_39 k5 s x1 x2 x4 y0 = some r → jG p l e (rmF 1 22) s_ m args below meth c 5 D A (MQ below (QW D A (wM b cI s P E n hs rest) (some (.int r))) args s_ 0 0 A) (wM b cI s P E n hs rest) [some (.ref (b 0)), some (.int x1), some (.int x2), none, some (.int x4)] 39 [.int y0] := by
  intro s x1 x2 x4 y0 r hf
  unfold f_X9_leads_39 at hf
  refine j_iconst C ic_0 dX9_leads_39 ?_
  refine j_iadd C dX9_leads_40 ?_
  refine j_istore_n C (xs' := [some (.ref (b 0)), some (.int x1), some (.int x2), some (.int (y0 + (0 : Int32))), some (.int x4)]) dX9_leads_41 rfl rfl ?_
  refine j_iinc C (xs' := [some (.ref (b 0)), some (.int x1), some (.int x2), some (.int (y0 + (0 : Int32))), some (.int (x4 + (1 : Int32)))]) dX9_leads_42 rfl (ii_1 _) rfl rfl ?_
  refine j_goto C (tgt := 5) (by decide) dX9_leads_45 ?_
  exact hk5 _ _ _ _ _ _ hf
set_option maxRecDepth 100000 in
set_option maxHeartbeats 4000000 in
theorem w_X9_leads_5 {p : Program} {l : Launch} {e : Env} {s_ : State} {m : MethodId} {args : Array Value} {below : List Frame} {meth : Method} {c : Code} {D : va_G} {cI cS : ClassId} {A : Nat → Prop} {b : Nat → Nat} {rest : va_W} {P : Nat → Int32} {E : Nat → Int32} {n : Int32} {hs : Int64} (C : cx p s_ m args meth c cX9_leads 5 RX9 (some .int) D cI cS)  : ∀ (n_ : Nat) (s : Nat → Int32) (x1 : Int32) (x2 : Int32) (x3 : Int32) (x4 : Int32) (r : Int32), f_X9_leads_5  n_ s x1 x2 x3 x4 = some r → jG p l e (rmF 1 22) s_ m args below meth c 5 D A (MQ below (QW D A (wM b cI s P E n hs rest) (some (.int r))) args s_ 0 0 A) (wM b cI s P E n hs rest) [some (.ref (b 0)), some (.int x1), some (.int x2), some (.int x3), some (.int x4)] 5 [] := by
  intro n_
  induction n_ with
  | zero =>
    intro s x1 x2 x3 x4 r hf
    rw [f_X9_leads_5] at hf
    cases hf
  | succ n_ hk5 =>
    intro s x1 x2 x3 x4 r hf
    rw [f_X9_leads_5] at hf
    refine j_iload C dX9_leads_5 rfl ?_
    refine j_aload_n C dX9_leads_7 rfl ?_
    refine gf_X9_7 C dX9_leads_8 ?_
    refine j_bipush C bp_17 dX9_leads_11 ?_
    replace hf := ld_s hf
    obtain ⟨v1, h2, e_v1, hf⟩ := hf
    refine aLM_1 C h2 e_v1 dX9_leads_13 ?_
    refine j_icmp_ge C (tgt := 48) (by decide) dX9_leads_14 (fun h3 => ?_) (fun h3 => ?_)
    · replace hf := it_t h3 hf
      refine j_iload_n C dX9_leads_48 rfl ?_
      cases hf
      exact j_iret C dX9_leads_49
    · replace hf := it_f h3 hf
      refine j_iload_n C dX9_leads_17 rfl ?_
      refine j_iload C dX9_leads_18 rfl ?_
      refine j_iload_n C dX9_leads_20 rfl ?_
      refine j_icmp_eq C (tgt := 39) (by decide) dX9_leads_21 (fun h4 => ?_) (fun h4 => ?_)
      · replace hf := it_t h4 hf
        refine j_weak [true, true, true, false, true] rfl ?_
        exact w_X9_leads_39 C _ hk5 _ _ _ _ _ _ hf
      · replace hf := it_f h4 hf
        refine j_aload_n C dX9_leads_24 rfl ?_
        refine j_iload C dX9_leads_25 rfl ?_
        refine j_iconst C ic_2 dX9_leads_27 ?_
        replace hf := bd hf
        obtain ⟨v5, h6, hf⟩ := hf
        refine j_callV C cl_X9_39 (c_X9_of h6) ⟨Nat.le_of_ble_eq_true rfl, Nat.le_of_ble_eq_true rfl⟩ ⟨Nat.zero_le _, Nat.zero_le _⟩ (q0 := 0) rfl rfl rfl rfl (Nat.le_of_ble_eq_true rfl) rfl rfl rfl dX9_leads_28 ?_
        refine j_iload_n C dX9_leads_31 rfl ?_
        refine j_icmp_ne C (tgt := 39) (by decide) dX9_leads_32 (fun h7 => ?_) (fun h7 => ?_)
        · replace hf := it_f h7 hf
          refine j_weak [true, true, true, false, true] rfl ?_
          exact w_X9_leads_39 C _ hk5 _ _ _ _ _ _ hf
        · replace hf := it_t h7 hf
          refine j_iconst C ic_1 dX9_leads_35 ?_
          refine j_goto C (tgt := 40) (by decide) dX9_leads_36 ?_
          refine j_iadd C dX9_leads_40 ?_
          refine j_istore_n C (xs' := [some (.ref (b 0)), some (.int x1), some (.int x2), some (.int (x3 + (1 : Int32))), some (.int x4)]) dX9_leads_41 rfl rfl ?_
          refine j_iinc C (xs' := [some (.ref (b 0)), some (.int x1), some (.int x2), some (.int (x3 + (1 : Int32))), some (.int (x4 + (1 : Int32)))]) dX9_leads_42 rfl (ii_1 _) rfl rfl ?_
          refine j_goto C (tgt := 5) (by decide) dX9_leads_45 ?_
          exact hk5 _ _ _ _ _ _ hf
set_option maxRecDepth 100000 in
set_option maxHeartbeats 4000000 in
theorem c_X9_leads {l : Launch} {D : va_G} {cI cS : ClassId} {A : Nat → Prop} {b : Nat → Nat} {rest : va_W} {P : Nat → Int32} {E : Nat → Int32} {n : Int32} {hs : Int64} {s : Nat → Int32} {x1 : Int32} {x2 : Int32} {r : Int32} (hf : f_X9_leads s x1 x2 = some r) : CT l yX9_leads cX9_leads 5 (some .int) (rmF 1 22) D cI cS A [.ref (b 0), .int x1, .int x2] (wM b cI s P E n hs rest) (wM b cI s P E n hs rest) (some (.int r)) := by
  refine CT_of (own := RX9) (xs := [some (.ref (b 0)), some (.int x1), some (.int x2), none, none]) (by decide) rfl (Nat.le_of_ble_eq_true rfl) rfl ?_
  intro p e s_ m below meth c C
  unfold f_X9_leads at hf
  refine j_iconst C ic_0 dX9_leads_0 ?_
  refine j_istore_n C (xs' := [some (.ref (b 0)), some (.int x1), some (.int x2), some (.int (0 : Int32)), none]) dX9_leads_1 rfl rfl ?_
  refine j_iconst C ic_0 dX9_leads_2 ?_
  refine j_istore C (xs' := [some (.ref (b 0)), some (.int x1), some (.int x2), some (.int (0 : Int32)), some (.int (0 : Int32))]) dX9_leads_3 rfl rfl ?_
  exact w_X9_leads_5 C  _ _ _ _ _ _ _ hf
set_option maxRecDepth 100000 in
set_option maxHeartbeats 4000000 in
theorem w_X9_elect_71 {p : Program} {l : Launch} {e : Env} {s_ : State} {m : MethodId} {args : Array Value} {below : List Frame} {meth : Method} {c : Code} {D : va_G} {cI cS : ClassId} {A : Nat → Prop} {b : Nat → Nat} {rest : va_W} {P : Nat → Int32} {E : Nat → Int32} {n : Int32} {hs : Int64} (C : cx p s_ m args meth c cX9_elect 6 RX9 none D cI cS) (k29 : (Nat → Int32) → Int32 → Int32 → Int32 → Int32 → Option ((Nat → Int32))) (hk29 : ∀ (s : Nat → Int32) (x1 : Int32) (x2 : Int32) (x3 : Int32) (x4 : Int32) (r : (Nat → Int32)), k29 s x1 x2 x3 x4 = some r → jG p l e (rmF 3 64) s_ m args below meth c 6 D A (MQ below (QW D A (wM b cI r P E n hs rest) none) args s_ 0 0 A) (wM b cI s P E n hs rest) [some (.ref (b 0)), some (.int x1), some (.int x2), some (.int x3), some (.int x4), none] 29 []) : ∀ (s : Nat → Int32) (x1 : Int32) (x2 : Int32) (x3 : Int32) (x4 : Int32) (y0 : Int32) (r : (Nat → Int32)), f_X9_elect_71 k29 s x1 x2 x3 x4 y0 = some r → jG p l e (rmF 3 64) s_ m args below meth c 6 D A (MQ below (QW D A (wM b cI r P E n hs rest) none) args s_ 0 0 A) (wM b cI s P E n hs rest) [some (.ref (b 0)), some (.int x1), some (.int x2), some (.int x3), some (.int x4), none] 71 [.int y0] := by
  intro s x1 x2 x3 x4 y0 r hf
  unfold f_X9_elect_71 at hf
  refine j_istore C (xs' := [some (.ref (b 0)), some (.int x1), some (.int x2), some (.int x3), some (.int x4), some (.int y0)]) dX9_elect_71 rfl rfl ?_
  refine j_iload C dX9_elect_73 rfl ?_
  refine j_if_eq C (tgt := 83) (by decide) dX9_elect_75 (fun h10 => ?_) (fun h10 => ?_)
  · replace hf := it_t h10 hf
    refine j_iload_n C dX9_elect_83 rfl ?_
    refine j_istore_n C (xs' := [some (.ref (b 0)), some (.int x1), some (.int x2), some (.int x3), some (.int x4), some (.int y0)]) dX9_elect_84 rfl rfl ?_
    refine j_iinc C (xs' := [some (.ref (b 0)), some (.int x1), some (.int x2), some (.int x3), some (.int (x4 + (1 : Int32))), some (.int y0)]) dX9_elect_85 rfl (ii_1 _) rfl rfl ?_
    refine j_goto C (tgt := 29) (by decide) dX9_elect_88 ?_
    refine j_weak [true, true, true, true, true, false] rfl ?_
    exact hk29 _ _ _ _ _ _ hf
  · replace hf := it_f h10 hf
    refine j_iload C dX9_elect_78 rfl ?_
    refine j_goto C (tgt := 84) (by decide) dX9_elect_80 ?_
    refine j_istore_n C (xs' := [some (.ref (b 0)), some (.int x1), some (.int x4), some (.int x3), some (.int x4), some (.int y0)]) dX9_elect_84 rfl rfl ?_
    refine j_iinc C (xs' := [some (.ref (b 0)), some (.int x1), some (.int x4), some (.int x3), some (.int (x4 + (1 : Int32))), some (.int y0)]) dX9_elect_85 rfl (ii_1 _) rfl rfl ?_
    refine j_goto C (tgt := 29) (by decide) dX9_elect_88 ?_
    refine j_weak [true, true, true, true, true, false] rfl ?_
    exact hk29 _ _ _ _ _ _ hf
set_option maxRecDepth 100000 in
set_option maxHeartbeats 4000000 in
theorem w_X9_elect_70 {p : Program} {l : Launch} {e : Env} {s_ : State} {m : MethodId} {args : Array Value} {below : List Frame} {meth : Method} {c : Code} {D : va_G} {cI cS : ClassId} {A : Nat → Prop} {b : Nat → Nat} {rest : va_W} {P : Nat → Int32} {E : Nat → Int32} {n : Int32} {hs : Int64} (C : cx p s_ m args meth c cX9_elect 6 RX9 none D cI cS) (k29 : (Nat → Int32) → Int32 → Int32 → Int32 → Int32 → Option ((Nat → Int32))) (hk29 : ∀ (s : Nat → Int32) (x1 : Int32) (x2 : Int32) (x3 : Int32) (x4 : Int32) (r : (Nat → Int32)), k29 s x1 x2 x3 x4 = some r → jG p l e (rmF 3 64) s_ m args below meth c 6 D A (MQ below (QW D A (wM b cI r P E n hs rest) none) args s_ 0 0 A) (wM b cI s P E n hs rest) [some (.ref (b 0)), some (.int x1), some (.int x2), some (.int x3), some (.int x4), none] 29 []) : ∀ (s : Nat → Int32) (x1 : Int32) (x2 : Int32) (x3 : Int32) (x4 : Int32) (r : (Nat → Int32)), f_X9_elect_70 k29 s x1 x2 x3 x4 = some r → jG p l e (rmF 3 64) s_ m args below meth c 6 D A (MQ below (QW D A (wM b cI r P E n hs rest) none) args s_ 0 0 A) (wM b cI s P E n hs rest) [some (.ref (b 0)), some (.int x1), some (.int x2), some (.int x3), some (.int x4), none] 70 [] := by
  intro s x1 x2 x3 x4 r hf
  unfold f_X9_elect_70 at hf
  refine j_iconst C ic_0 dX9_elect_70 ?_
  exact w_X9_elect_71 C _ hk29 _ _ _ _ _ _ _ hf
set_option maxRecDepth 100000 in
set_option maxHeartbeats 4000000 in
theorem w_X9_elect_66 {p : Program} {l : Launch} {e : Env} {s_ : State} {m : MethodId} {args : Array Value} {below : List Frame} {meth : Method} {c : Code} {D : va_G} {cI cS : ClassId} {A : Nat → Prop} {b : Nat → Nat} {rest : va_W} {P : Nat → Int32} {E : Nat → Int32} {n : Int32} {hs : Int64} (C : cx p s_ m args meth c cX9_elect 6 RX9 none D cI cS) (k29 : (Nat → Int32) → Int32 → Int32 → Int32 → Int32 → Option ((Nat → Int32))) (hk29 : ∀ (s : Nat → Int32) (x1 : Int32) (x2 : Int32) (x3 : Int32) (x4 : Int32) (r : (Nat → Int32)), k29 s x1 x2 x3 x4 = some r → jG p l e (rmF 3 64) s_ m args below meth c 6 D A (MQ below (QW D A (wM b cI r P E n hs rest) none) args s_ 0 0 A) (wM b cI s P E n hs rest) [some (.ref (b 0)), some (.int x1), some (.int x2), some (.int x3), some (.int x4), none] 29 []) : ∀ (s : Nat → Int32) (x1 : Int32) (x2 : Int32) (x3 : Int32) (x4 : Int32) (r : (Nat → Int32)), f_X9_elect_66 k29 s x1 x2 x3 x4 = some r → jG p l e (rmF 3 64) s_ m args below meth c 6 D A (MQ below (QW D A (wM b cI r P E n hs rest) none) args s_ 0 0 A) (wM b cI s P E n hs rest) [some (.ref (b 0)), some (.int x1), some (.int x2), some (.int x3), some (.int x4), none] 66 [] := by
  intro s x1 x2 x3 x4 r hf
  unfold f_X9_elect_66 at hf
  refine j_iconst C ic_1 dX9_elect_66 ?_
  refine j_goto C (tgt := 71) (by decide) dX9_elect_67 ?_
  exact w_X9_elect_71 C _ hk29 _ _ _ _ _ _ _ hf
set_option maxRecDepth 100000 in
set_option maxHeartbeats 4000000 in
theorem w_X9_elect_29 {p : Program} {l : Launch} {e : Env} {s_ : State} {m : MethodId} {args : Array Value} {below : List Frame} {meth : Method} {c : Code} {D : va_G} {cI cS : ClassId} {A : Nat → Prop} {b : Nat → Nat} {rest : va_W} {P : Nat → Int32} {E : Nat → Int32} {n : Int32} {hs : Int64} (C : cx p s_ m args meth c cX9_elect 6 RX9 none D cI cS)  : ∀ (n_ : Nat) (s : Nat → Int32) (x1 : Int32) (x2 : Int32) (x3 : Int32) (x4 : Int32) (r : (Nat → Int32)), f_X9_elect_29  n_ s x1 x2 x3 x4 = some r → jG p l e (rmF 3 64) s_ m args below meth c 6 D A (MQ below (QW D A (wM b cI r P E n hs rest) none) args s_ 0 0 A) (wM b cI s P E n hs rest) [some (.ref (b 0)), some (.int x1), some (.int x2), some (.int x3), some (.int x4), none] 29 [] := by
  intro n_
  induction n_ with
  | zero =>
    intro s x1 x2 x3 x4 r hf
    rw [f_X9_elect_29] at hf
    cases hf
  | succ n_ hk29 =>
    intro s x1 x2 x3 x4 r hf
    rw [f_X9_elect_29] at hf
    refine j_iload C dX9_elect_29 rfl ?_
    refine j_bipush C bp_8 dX9_elect_31 ?_
    refine j_icmp_ge C (tgt := 91) (by decide) dX9_elect_33 (fun h4 => ?_) (fun h4 => ?_)
    · replace hf := it_t h4 hf
      refine j_aload_n C dX9_elect_91 rfl ?_
      refine j_iload_n C dX9_elect_92 rfl ?_
      refine j_iconst C ic_2 dX9_elect_93 ?_
      refine j_iload_n C dX9_elect_94 rfl ?_
      replace hf := bd hf
      obtain ⟨v5, h6, hf⟩ := hf
      refine j_callV C cl_X9_19 (c_X9_set h6) ⟨Nat.le_of_ble_eq_true rfl, Nat.le_of_ble_eq_true rfl⟩ ⟨Nat.zero_le _, Nat.zero_le _⟩ (q0 := 0) rfl rfl rfl rfl (Nat.le_of_ble_eq_true rfl) rfl rfl wM_fst dX9_elect_95 ?_
      cases hf
      exact j_vret C dX9_elect_98
    · replace hf := it_f h4 hf
      refine j_iload_n C dX9_elect_36 rfl ?_
      refine j_iload C dX9_elect_37 rfl ?_
      replace hf := bd hf
      obtain ⟨v7, h8, hf⟩ := hf
      refine j_callS C cl_X9_50 (c_X9_has h8) ⟨Nat.le_of_ble_eq_true rfl, Nat.le_of_ble_eq_true rfl⟩ ⟨Nat.zero_le _, Nat.zero_le _⟩ rfl (Nat.le_of_ble_eq_true rfl) rfl rfl rfl dX9_elect_39 ?_
      refine j_if_eq C (tgt := 70) (by decide) dX9_elect_42 (fun h9 => ?_) (fun h9 => ?_)
      · replace hf := it_t h9 hf
        exact w_X9_elect_70 C _ hk29 _ _ _ _ _ _ hf
      · replace hf := it_f h9 hf
        refine j_iload_n C dX9_elect_45 rfl ?_
        refine j_iconst C ic_m1 dX9_elect_46 ?_
        refine j_icmp_eq C (tgt := 66) (by decide) dX9_elect_47 (fun h11 => ?_) (fun h11 => ?_)
        · replace hf := it_t h11 hf
          exact w_X9_elect_66 C _ hk29 _ _ _ _ _ _ hf
        · replace hf := it_f h11 hf
          refine j_aload_n C dX9_elect_50 rfl ?_
          refine j_iload C dX9_elect_51 rfl ?_
          refine j_iload_n C dX9_elect_53 rfl ?_
          replace hf := bd hf
          obtain ⟨v12, h13, hf⟩ := hf
          refine j_callV C cl_X9_57 (c_X9_leads h13) ⟨Nat.le_of_ble_eq_true rfl, Nat.le_of_ble_eq_true rfl⟩ ⟨Nat.zero_le _, Nat.zero_le _⟩ (q0 := 0) rfl rfl rfl rfl (Nat.le_of_ble_eq_true rfl) rfl rfl rfl dX9_elect_54 ?_
          refine j_aload_n C dX9_elect_57 rfl ?_
          refine j_iload_n C dX9_elect_58 rfl ?_
          refine j_iload_n C dX9_elect_59 rfl ?_
          replace hf := bd hf
          obtain ⟨v14, h15, hf⟩ := hf
          refine j_callV C cl_X9_57 (c_X9_leads h15) ⟨Nat.le_of_ble_eq_true rfl, Nat.le_of_ble_eq_true rfl⟩ ⟨Nat.zero_le _, Nat.zero_le _⟩ (q0 := 0) rfl rfl rfl rfl (Nat.le_of_ble_eq_true rfl) rfl rfl rfl dX9_elect_60 ?_
          refine j_icmp_ge C (tgt := 70) (by decide) dX9_elect_63 (fun h16 => ?_) (fun h16 => ?_)
          · replace hf := it_t h16 hf
            exact w_X9_elect_70 C _ hk29 _ _ _ _ _ _ hf
          · replace hf := it_f h16 hf
            exact w_X9_elect_66 C _ hk29 _ _ _ _ _ _ hf
set_option maxRecDepth 100000 in
set_option maxHeartbeats 4000000 in
theorem c_X9_elect {l : Launch} {D : va_G} {cI cS : ClassId} {A : Nat → Prop} {b : Nat → Nat} {rest : va_W} {P : Nat → Int32} {E : Nat → Int32} {n : Int32} {hs : Int64} {s : Nat → Int32} {x1 : Int32} {r : (Nat → Int32)} (hf : f_X9_elect s x1 = some r) : CT l yX9_elect cX9_elect 6 none (rmF 3 64) D cI cS A [.ref (b 0), .int x1] (wM b cI s P E n hs rest) (wM b cI r P E n hs rest) none := by
  refine CT_of (own := RX9) (xs := [some (.ref (b 0)), some (.int x1), none, none, none, none]) (by decide) rfl (Nat.le_of_ble_eq_true rfl) rfl ?_
  intro p e s_ m below meth c C
  unfold f_X9_elect at hf
  refine j_iconst C ic_m1 dX9_elect_0 ?_
  refine j_istore_n C (xs' := [some (.ref (b 0)), some (.int x1), some (.int (-1 : Int32)), none, none, none]) dX9_elect_1 rfl rfl ?_
  refine j_aload_n C dX9_elect_2 rfl ?_
  refine j_iload_n C dX9_elect_3 rfl ?_
  replace hf := bd hf
  obtain ⟨v1, h2, hf⟩ := hf
  refine j_callV C cl_X9_54 (c_X9_available h2) ⟨Nat.le_of_ble_eq_true rfl, Nat.le_of_ble_eq_true rfl⟩ ⟨Nat.zero_le _, Nat.zero_le _⟩ (q0 := 0) rfl rfl rfl rfl (Nat.le_of_ble_eq_true rfl) rfl rfl rfl dX9_elect_4 ?_
  refine j_if_eq C (tgt := 24) (by decide) dX9_elect_7 (fun h3 => ?_) (fun h3 => ?_)
  · replace hf := it_t h3 hf
    refine j_iconst C ic_0 dX9_elect_24 ?_
    refine j_istore_n C (xs' := [some (.ref (b 0)), some (.int x1), some (.int (-1 : Int32)), some (.int (0 : Int32)), none, none]) dX9_elect_25 rfl rfl ?_
    refine j_iconst C ic_0 dX9_elect_26 ?_
    refine j_istore C (xs' := [some (.ref (b 0)), some (.int x1), some (.int (-1 : Int32)), some (.int (0 : Int32)), some (.int (0 : Int32)), none]) dX9_elect_27 rfl rfl ?_
    exact w_X9_elect_29 C  _ _ _ _ _ _ _ hf
  · replace hf := it_f h3 hf
    refine j_aload_n C dX9_elect_10 rfl ?_
    refine j_iload_n C dX9_elect_11 rfl ?_
    refine j_iconst C ic_1 dX9_elect_12 ?_
    replace hf := bd hf
    obtain ⟨v17, h18, hf⟩ := hf
    refine j_callV C cl_X9_39 (c_X9_of h18) ⟨Nat.le_of_ble_eq_true rfl, Nat.le_of_ble_eq_true rfl⟩ ⟨Nat.zero_le _, Nat.zero_le _⟩ (q0 := 0) rfl rfl rfl rfl (Nat.le_of_ble_eq_true rfl) rfl rfl rfl dX9_elect_13 ?_
    refine j_aload_n C dX9_elect_16 rfl ?_
    replace hf := bd hf
    obtain ⟨v19, h20, hf⟩ := hf
    refine j_callV C cl_X9_43 (c_X9_ups h20) ⟨Nat.le_of_ble_eq_true rfl, Nat.le_of_ble_eq_true rfl⟩ ⟨Nat.zero_le _, Nat.zero_le _⟩ (q0 := 0) rfl rfl rfl rfl (Nat.le_of_ble_eq_true rfl) rfl rfl rfl dX9_elect_17 ?_
    refine j_iand C dX9_elect_20 ?_
    refine j_goto C (tgt := 25) (by decide) dX9_elect_21 ?_
    refine j_istore_n C (xs' := [some (.ref (b 0)), some (.int x1), some (.int (-1 : Int32)), some (.int (v17 &&& v19)), none, none]) dX9_elect_25 rfl rfl ?_
    refine j_iconst C ic_0 dX9_elect_26 ?_
    refine j_istore C (xs' := [some (.ref (b 0)), some (.int x1), some (.int (-1 : Int32)), some (.int (v17 &&& v19)), some (.int (0 : Int32)), none]) dX9_elect_27 rfl rfl ?_
    exact w_X9_elect_29 C  _ _ _ _ _ _ _ hf
set_option maxRecDepth 100000 in
set_option maxHeartbeats 4000000 in
theorem w_X9_isFresh_57 {p : Program} {l : Launch} {e : Env} {s_ : State} {m : MethodId} {args : Array Value} {below : List Frame} {meth : Method} {c : Code} {D : va_G} {cI cS : ClassId} {A : Nat → Prop} {b : Nat → Nat} {rest : va_W} {P : Nat → Int32} {E : Nat → Int32} {n : Int32} {hs : Int64} (C : cx p s_ m args meth c cX9_isFresh 6 RX9 (some .boolean) D cI cS) (k6 : (Nat → Int32) → Int32 → Int32 → Int32 → Int32 → Int32 → Option (Int32)) (hk6 : ∀ (s : Nat → Int32) (x1 : Int32) (x2 : Int32) (x3 : Int32) (x4 : Int32) (x5 : Int32) (r : Int32), k6 s x1 x2 x3 x4 x5 = some r → jG p l e (rmF 1 22) s_ m args below meth c 6 D A (MQ below (QW D A (wM b cI s P E n hs rest) (some (.int r))) args s_ 0 0 A) (wM b cI s P E n hs rest) [some (.ref (b 0)), some (.int x1), some (.int x2), some (.int x3), some (.int x4), some (.int x5)] 6 []) : ∀ (s : Nat → Int32) (x1 : Int32) (x2 : Int32) (x3 : Int32) (x5 : Int32) (r : Int32), f_X9_isFresh_57 k6 s x1 x2 x3 x5 = some r → jG p l e (rmF 1 22) s_ m args below meth c 6 D A (MQ below (QW D A (wM b cI s P E n hs rest) (some (.int r))) args s_ 0 0 A) (wM b cI s P E n hs rest) [some (.ref (b 0)), some (.int x1), some (.int x2), some (.int x3), none, some (.int x5)] 57 [] := by
  intro s x1 x2 x3 x5 r hf
  unfold f_X9_isFresh_57 at hf
  refine j_iconst C ic_1 dX9_isFresh_57 ?_
  refine j_goto C (tgt := 62) (by decide) dX9_isFresh_58 ?_
  refine j_istore C (xs' := [some (.ref (b 0)), some (.int x1), some (.int x2), some (.int x3), some (.int (1 : Int32)), some (.int x5)]) dX9_isFresh_62 rfl rfl ?_
  refine j_iinc C (xs' := [some (.ref (b 0)), some (.int x1), some (.int x2), some (.int x3), some (.int (1 : Int32)), some (.int (x5 + (1 : Int32)))]) dX9_isFresh_64 rfl (ii_1 _) rfl rfl ?_
  refine j_goto C (tgt := 6) (by decide) dX9_isFresh_67 ?_
  exact hk6 _ _ _ _ _ _ _ hf
set_option maxRecDepth 100000 in
set_option maxHeartbeats 4000000 in
theorem w_X9_isFresh_6 {p : Program} {l : Launch} {e : Env} {s_ : State} {m : MethodId} {args : Array Value} {below : List Frame} {meth : Method} {c : Code} {D : va_G} {cI cS : ClassId} {A : Nat → Prop} {b : Nat → Nat} {rest : va_W} {P : Nat → Int32} {E : Nat → Int32} {n : Int32} {hs : Int64} (C : cx p s_ m args meth c cX9_isFresh 6 RX9 (some .boolean) D cI cS)  : ∀ (n_ : Nat) (s : Nat → Int32) (x1 : Int32) (x2 : Int32) (x3 : Int32) (x4 : Int32) (x5 : Int32) (r : Int32), f_X9_isFresh_6  n_ s x1 x2 x3 x4 x5 = some r → jG p l e (rmF 1 22) s_ m args below meth c 6 D A (MQ below (QW D A (wM b cI s P E n hs rest) (some (.int r))) args s_ 0 0 A) (wM b cI s P E n hs rest) [some (.ref (b 0)), some (.int x1), some (.int x2), some (.int x3), some (.int x4), some (.int x5)] 6 [] := by
  intro n_
  induction n_ with
  | zero =>
    intro s x1 x2 x3 x4 x5 r hf
    rw [f_X9_isFresh_6] at hf
    cases hf
  | succ n_ hk6 =>
    intro s x1 x2 x3 x4 x5 r hf
    rw [f_X9_isFresh_6] at hf
    refine j_iload C dX9_isFresh_6 rfl ?_
    refine j_aload_n C dX9_isFresh_8 rfl ?_
    refine gf_X9_7 C dX9_isFresh_9 ?_
    refine j_bipush C bp_15 dX9_isFresh_12 ?_
    replace hf := ld_s hf
    obtain ⟨v1, h2, e_v1, hf⟩ := hf
    refine aLM_1 C h2 e_v1 dX9_isFresh_14 ?_
    refine j_icmp_ge C (tgt := 70) (by decide) dX9_isFresh_15 (fun h3 => ?_) (fun h3 => ?_)
    · replace hf := it_t h3 hf
      refine j_iload C dX9_isFresh_70 rfl ?_
      replace hf := zr_s hf
      obtain ⟨h4, hf⟩ := hf
      cases hf
      exact j_zret C h4 dX9_isFresh_72
    · replace hf := it_f h3 hf
      refine j_iload C dX9_isFresh_18 rfl ?_
      refine j_if_eq C (tgt := 61) (by decide) dX9_isFresh_20 (fun h5 => ?_) (fun h5 => ?_)
      · replace hf := it_t h5 hf
        refine j_iconst C ic_0 dX9_isFresh_61 ?_
        refine j_istore C (xs' := [some (.ref (b 0)), some (.int x1), some (.int x2), some (.int x3), some (.int (0 : Int32)), some (.int x5)]) dX9_isFresh_62 rfl rfl ?_
        refine j_iinc C (xs' := [some (.ref (b 0)), some (.int x1), some (.int x2), some (.int x3), some (.int (0 : Int32)), some (.int (x5 + (1 : Int32)))]) dX9_isFresh_64 rfl (ii_1 _) rfl rfl ?_
        refine j_goto C (tgt := 6) (by decide) dX9_isFresh_67 ?_
        exact hk6 _ _ _ _ _ _ _ hf
      · replace hf := it_f h5 hf
        refine j_aload_n C dX9_isFresh_23 rfl ?_
        refine j_iload_n C dX9_isFresh_24 rfl ?_
        refine j_iconst C ic_1 dX9_isFresh_25 ?_
        replace hf := bd hf
        obtain ⟨v6, h7, hf⟩ := hf
        refine j_callV C cl_X9_39 (c_X9_of h7) ⟨Nat.le_of_ble_eq_true rfl, Nat.le_of_ble_eq_true rfl⟩ ⟨Nat.zero_le _, Nat.zero_le _⟩ (q0 := 0) rfl rfl rfl rfl (Nat.le_of_ble_eq_true rfl) rfl rfl rfl dX9_isFresh_26 ?_
        refine j_iload C dX9_isFresh_29 rfl ?_
        replace hf := bd hf
        obtain ⟨v8, h9, hf⟩ := hf
        refine j_callS C cl_X9_50 (c_X9_has h9) ⟨Nat.le_of_ble_eq_true rfl, Nat.le_of_ble_eq_true rfl⟩ ⟨Nat.zero_le _, Nat.zero_le _⟩ rfl (Nat.le_of_ble_eq_true rfl) rfl rfl rfl dX9_isFresh_31 ?_
        refine j_if_eq C (tgt := 57) (by decide) dX9_isFresh_34 (fun h10 => ?_) (fun h10 => ?_)
        · replace hf := it_t h10 hf
          refine j_weak [true, true, true, true, false, true] rfl ?_
          exact w_X9_isFresh_57 C _ hk6 _ _ _ _ _ _ hf
        · replace hf := it_f h10 hf
          refine j_iload C dX9_isFresh_37 rfl ?_
          refine j_iload_n C dX9_isFresh_39 rfl ?_
          refine j_icmp_eq C (tgt := 57) (by decide) dX9_isFresh_40 (fun h11 => ?_) (fun h11 => ?_)
          · replace hf := it_t h11 hf
            refine j_weak [true, true, true, true, false, true] rfl ?_
            exact w_X9_isFresh_57 C _ hk6 _ _ _ _ _ _ hf
          · replace hf := it_f h11 hf
            refine j_aload_n C dX9_isFresh_43 rfl ?_
            refine j_iload C dX9_isFresh_44 rfl ?_
            replace hf := bd hf
            obtain ⟨v12, h13, hf⟩ := hf
            refine j_callV C cl_X9_60 (c_X9_zone h13) ⟨Nat.le_of_ble_eq_true rfl, Nat.le_of_ble_eq_true rfl⟩ ⟨Nat.zero_le _, Nat.zero_le _⟩ (q0 := 0) rfl rfl rfl rfl (Nat.le_of_ble_eq_true rfl) rfl rfl rfl dX9_isFresh_46 ?_
            refine j_aload_n C dX9_isFresh_49 rfl ?_
            refine j_iload_n C dX9_isFresh_50 rfl ?_
            replace hf := bd hf
            obtain ⟨v14, h15, hf⟩ := hf
            refine j_callV C cl_X9_60 (c_X9_zone h15) ⟨Nat.le_of_ble_eq_true rfl, Nat.le_of_ble_eq_true rfl⟩ ⟨Nat.zero_le _, Nat.zero_le _⟩ (q0 := 0) rfl rfl rfl rfl (Nat.le_of_ble_eq_true rfl) rfl rfl rfl dX9_isFresh_51 ?_
            refine j_icmp_eq C (tgt := 61) (by decide) dX9_isFresh_54 (fun h16 => ?_) (fun h16 => ?_)
            · replace hf := it_t h16 hf
              refine j_iconst C ic_0 dX9_isFresh_61 ?_
              refine j_istore C (xs' := [some (.ref (b 0)), some (.int x1), some (.int x2), some (.int x3), some (.int (0 : Int32)), some (.int x5)]) dX9_isFresh_62 rfl rfl ?_
              refine j_iinc C (xs' := [some (.ref (b 0)), some (.int x1), some (.int x2), some (.int x3), some (.int (0 : Int32)), some (.int (x5 + (1 : Int32)))]) dX9_isFresh_64 rfl (ii_1 _) rfl rfl ?_
              refine j_goto C (tgt := 6) (by decide) dX9_isFresh_67 ?_
              exact hk6 _ _ _ _ _ _ _ hf
            · replace hf := it_f h16 hf
              refine j_weak [true, true, true, true, false, true] rfl ?_
              exact w_X9_isFresh_57 C _ hk6 _ _ _ _ _ _ hf
set_option maxRecDepth 100000 in
set_option maxHeartbeats 4000000 in
theorem c_X9_isFresh {l : Launch} {D : va_G} {cI cS : ClassId} {A : Nat → Prop} {b : Nat → Nat} {rest : va_W} {P : Nat → Int32} {E : Nat → Int32} {n : Int32} {hs : Int64} {s : Nat → Int32} {x1 : Int32} {x2 : Int32} {x3 : Int32} {r : Int32} (hf : f_X9_isFresh s x1 x2 x3 = some r) : CT l yX9_isFresh cX9_isFresh 6 (some .boolean) (rmF 1 22) D cI cS A [.ref (b 0), .int x1, .int x2, .int x3] (wM b cI s P E n hs rest) (wM b cI s P E n hs rest) (some (.int r)) := by
  refine CT_of (own := RX9) (xs := [some (.ref (b 0)), some (.int x1), some (.int x2), some (.int x3), none, none]) (by decide) rfl (Nat.le_of_ble_eq_true rfl) rfl ?_
  intro p e s_ m below meth c C
  unfold f_X9_isFresh at hf
  refine j_iconst C ic_1 dX9_isFresh_0 ?_
  refine j_istore C (xs' := [some (.ref (b 0)), some (.int x1), some (.int x2), some (.int x3), some (.int (1 : Int32)), none]) dX9_isFresh_1 rfl rfl ?_
  refine j_iconst C ic_0 dX9_isFresh_3 ?_
  refine j_istore C (xs' := [some (.ref (b 0)), some (.int x1), some (.int x2), some (.int x3), some (.int (1 : Int32)), some (.int (0 : Int32))]) dX9_isFresh_4 rfl rfl ?_
  exact w_X9_isFresh_6 C  _ _ _ _ _ _ _ _ hf
set_option maxRecDepth 100000 in
set_option maxHeartbeats 4000000 in
theorem w_X9_choose_127 {p : Program} {l : Launch} {e : Env} {s_ : State} {m : MethodId} {args : Array Value} {below : List Frame} {meth : Method} {c : Code} {D : va_G} {cI cS : ClassId} {A : Nat → Prop} {b : Nat → Nat} {rest : va_W} {P : Nat → Int32} {E : Nat → Int32} {n : Int32} {hs : Int64} (C : cx p s_ m args meth c cX9_choose 9 RX9 (some .int) D cI cS) (k8 : (Nat → Int32) → Int32 → Int32 → Int32 → Int32 → Int32 → Option (Int32)) (hk8 : ∀ (s : Nat → Int32) (x1 : Int32) (x2 : Int32) (x3 : Int32) (x4 : Int32) (x5 : Int32) (r : Int32), k8 s x1 x2 x3 x4 x5 = some r → jG p l e (rmF 2 47) s_ m args below meth c 9 D A (MQ below (QW D A (wM b cI s P E n hs rest) (some (.int r))) args s_ 0 0 A) (wM b cI s P E n hs rest) [some (.ref (b 0)), some (.int x1), some (.int x2), some (.int x3), some (.int x4), some (.int x5), none, none, none] 8 []) : ∀ (s : Nat → Int32) (x1 : Int32) (x2 : Int32) (x5 : Int32) (x8 : Int32) (r : Int32), f_X9_choose_127 k8 s x1 x2 x5 x8 = some r → jG p l e (rmF 2 47) s_ m args below meth c 9 D A (MQ below (QW D A (wM b cI s P E n hs rest) (some (.int r))) args s_ 0 0 A) (wM b cI s P E n hs rest) [some (.ref (b 0)), some (.int x1), some (.int x2), none, none, some (.int x5), none, none, some (.int x8)] 127 [] := by
  intro s x1 x2 x5 x8 r hf
  unfold f_X9_choose_127 at hf
  refine j_iload C dX9_choose_127 rfl ?_
  refine j_istore_n C (xs' := [some (.ref (b 0)), some (.int x1), some (.int x2), some (.int x5), none, some (.int x5), none, none, some (.int x8)]) dX9_choose_129 rfl rfl ?_
  refine j_iload C dX9_choose_130 rfl ?_
  refine j_istore C (xs' := [some (.ref (b 0)), some (.int x1), some (.int x2), some (.int x5), some (.int x8), some (.int x5), none, none, some (.int x8)]) dX9_choose_132 rfl rfl ?_
  refine j_iinc C (xs' := [some (.ref (b 0)), some (.int x1), some (.int x2), some (.int x5), some (.int x8), some (.int (x5 + (1 : Int32))), none, none, some (.int x8)]) dX9_choose_134 rfl (ii_1 _) rfl rfl ?_
  refine j_goto C (tgt := 8) (by decide) dX9_choose_137 ?_
  refine j_weak [true, true, true, true, true, true, false, false, false] rfl ?_
  exact hk8 _ _ _ _ _ _ _ hf
set_option maxRecDepth 100000 in
set_option maxHeartbeats 4000000 in
theorem w_X9_choose_105 {p : Program} {l : Launch} {e : Env} {s_ : State} {m : MethodId} {args : Array Value} {below : List Frame} {meth : Method} {c : Code} {D : va_G} {cI cS : ClassId} {A : Nat → Prop} {b : Nat → Nat} {rest : va_W} {P : Nat → Int32} {E : Nat → Int32} {n : Int32} {hs : Int64} (C : cx p s_ m args meth c cX9_choose 9 RX9 (some .int) D cI cS) (k8 : (Nat → Int32) → Int32 → Int32 → Int32 → Int32 → Int32 → Option (Int32)) (hk8 : ∀ (s : Nat → Int32) (x1 : Int32) (x2 : Int32) (x3 : Int32) (x4 : Int32) (x5 : Int32) (r : Int32), k8 s x1 x2 x3 x4 x5 = some r → jG p l e (rmF 2 47) s_ m args below meth c 9 D A (MQ below (QW D A (wM b cI s P E n hs rest) (some (.int r))) args s_ 0 0 A) (wM b cI s P E n hs rest) [some (.ref (b 0)), some (.int x1), some (.int x2), some (.int x3), some (.int x4), some (.int x5), none, none, none] 8 []) : ∀ (s : Nat → Int32) (x1 : Int32) (x2 : Int32) (x3 : Int32) (x4 : Int32) (x5 : Int32) (x6 : Int32) (x7 : Int32) (y0 : Int32) (r : Int32), f_X9_choose_105 k8 s x1 x2 x3 x4 x5 x6 x7 y0 = some r → jG p l e (rmF 2 47) s_ m args below meth c 9 D A (MQ below (QW D A (wM b cI s P E n hs rest) (some (.int r))) args s_ 0 0 A) (wM b cI s P E n hs rest) [some (.ref (b 0)), some (.int x1), some (.int x2), some (.int x3), some (.int x4), some (.int x5), some (.int x6), some (.int x7), none] 105 [.int y0] := by
  intro s x1 x2 x3 x4 x5 x6 x7 y0 r hf
  unfold f_X9_choose_105 at hf
  refine j_iload C dX9_choose_105 rfl ?_
  refine j_iadd C dX9_choose_107 ?_
  refine j_istore C (xs' := [some (.ref (b 0)), some (.int x1), some (.int x2), some (.int x3), some (.int x4), some (.int x5), some (.int x6), some (.int x7), some (.int (y0 + x6))]) dX9_choose_108 rfl rfl ?_
  refine j_iload C dX9_choose_110 rfl ?_
  refine j_if_eq C (tgt := 134) (by decide) dX9_choose_112 (fun h12 => ?_) (fun h12 => ?_)
  · replace hf := it_t h12 hf
    refine j_iinc C (xs' := [some (.ref (b 0)), some (.int x1), some (.int x2), some (.int x3), some (.int x4), some (.int (x5 + (1 : Int32))), some (.int x6), some (.int x7), some (.int (y0 + x6))]) dX9_choose_134 rfl (ii_1 _) rfl rfl ?_
    refine j_goto C (tgt := 8) (by decide) dX9_choose_137 ?_
    refine j_weak [true, true, true, true, true, true, false, false, false] rfl ?_
    exact hk8 _ _ _ _ _ _ _ hf
  · replace hf := it_f h12 hf
    refine j_iload_n C dX9_choose_115 rfl ?_
    refine j_iconst C ic_m1 dX9_choose_116 ?_
    refine j_icmp_eq C (tgt := 127) (by decide) dX9_choose_117 (fun h13 => ?_) (fun h13 => ?_)
    · replace hf := it_t h13 hf
      refine j_weak [true, true, true, false, false, true, false, false, true] rfl ?_
      exact w_X9_choose_127 C _ hk8 _ _ _ _ _ _ hf
    · replace hf := it_f h13 hf
      refine j_iload C dX9_choose_120 rfl ?_
      refine j_iload C dX9_choose_122 rfl ?_
      refine j_icmp_ge C (tgt := 134) (by decide) dX9_choose_124 (fun h14 => ?_) (fun h14 => ?_)
      · replace hf := it_t h14 hf
        refine j_iinc C (xs' := [some (.ref (b 0)), some (.int x1), some (.int x2), some (.int x3), some (.int x4), some (.int (x5 + (1 : Int32))), some (.int x6), some (.int x7), some (.int (y0 + x6))]) dX9_choose_134 rfl (ii_1 _) rfl rfl ?_
        refine j_goto C (tgt := 8) (by decide) dX9_choose_137 ?_
        refine j_weak [true, true, true, true, true, true, false, false, false] rfl ?_
        exact hk8 _ _ _ _ _ _ _ hf
      · replace hf := it_f h14 hf
        refine j_weak [true, true, true, false, false, true, false, false, true] rfl ?_
        exact w_X9_choose_127 C _ hk8 _ _ _ _ _ _ hf
set_option maxRecDepth 100000 in
set_option maxHeartbeats 4000000 in
theorem w_X9_choose_86 {p : Program} {l : Launch} {e : Env} {s_ : State} {m : MethodId} {args : Array Value} {below : List Frame} {meth : Method} {c : Code} {D : va_G} {cI cS : ClassId} {A : Nat → Prop} {b : Nat → Nat} {rest : va_W} {P : Nat → Int32} {E : Nat → Int32} {n : Int32} {hs : Int64} (C : cx p s_ m args meth c cX9_choose 9 RX9 (some .int) D cI cS) (k8 : (Nat → Int32) → Int32 → Int32 → Int32 → Int32 → Int32 → Option (Int32)) (hk8 : ∀ (s : Nat → Int32) (x1 : Int32) (x2 : Int32) (x3 : Int32) (x4 : Int32) (x5 : Int32) (r : Int32), k8 s x1 x2 x3 x4 x5 = some r → jG p l e (rmF 2 47) s_ m args below meth c 9 D A (MQ below (QW D A (wM b cI s P E n hs rest) (some (.int r))) args s_ 0 0 A) (wM b cI s P E n hs rest) [some (.ref (b 0)), some (.int x1), some (.int x2), some (.int x3), some (.int x4), some (.int x5), none, none, none] 8 []) : ∀ (s : Nat → Int32) (x1 : Int32) (x2 : Int32) (x3 : Int32) (x4 : Int32) (x5 : Int32) (x6 : Int32) (y0 : Int32) (r : Int32), f_X9_choose_86 k8 s x1 x2 x3 x4 x5 x6 y0 = some r → jG p l e (rmF 2 47) s_ m args below meth c 9 D A (MQ below (QW D A (wM b cI s P E n hs rest) (some (.int r))) args s_ 0 0 A) (wM b cI s P E n hs rest) [some (.ref (b 0)), some (.int x1), some (.int x2), some (.int x3), some (.int x4), some (.int x5), some (.int x6), none, none] 86 [.int y0] := by
  intro s x1 x2 x3 x4 x5 x6 y0 r hf
  unfold f_X9_choose_86 at hf
  refine j_istore C (xs' := [some (.ref (b 0)), some (.int x1), some (.int x2), some (.int x3), some (.int x4), some (.int x5), some (.int x6), some (.int y0), none]) dX9_choose_86 rfl rfl ?_
  refine j_aload_n C dX9_choose_88 rfl ?_
  refine j_iload_n C dX9_choose_89 rfl ?_
  refine j_iload C dX9_choose_90 rfl ?_
  refine j_iload_n C dX9_choose_92 rfl ?_
  replace hf := bd hf
  obtain ⟨v9, h10, hf⟩ := hf
  refine j_callV C cl_X9_66 (c_X9_isFresh h10) ⟨Nat.le_of_ble_eq_true rfl, Nat.le_of_ble_eq_true rfl⟩ ⟨Nat.zero_le _, Nat.zero_le _⟩ (q0 := 0) rfl rfl rfl rfl (Nat.le_of_ble_eq_true rfl) rfl rfl rfl dX9_choose_93 ?_
  refine j_if_eq C (tgt := 103) (by decide) dX9_choose_96 (fun h11 => ?_) (fun h11 => ?_)
  · replace hf := it_t h11 hf
    refine j_bipush C bp_100 dX9_choose_103 ?_
    exact w_X9_choose_105 C _ hk8 _ _ _ _ _ _ _ _ _ _ hf
  · replace hf := it_f h11 hf
    refine j_iconst C ic_0 dX9_choose_99 ?_
    refine j_goto C (tgt := 105) (by decide) dX9_choose_100 ?_
    exact w_X9_choose_105 C _ hk8 _ _ _ _ _ _ _ _ _ _ hf
set_option maxRecDepth 100000 in
set_option maxHeartbeats 4000000 in
theorem w_X9_choose_85 {p : Program} {l : Launch} {e : Env} {s_ : State} {m : MethodId} {args : Array Value} {below : List Frame} {meth : Method} {c : Code} {D : va_G} {cI cS : ClassId} {A : Nat → Prop} {b : Nat → Nat} {rest : va_W} {P : Nat → Int32} {E : Nat → Int32} {n : Int32} {hs : Int64} (C : cx p s_ m args meth c cX9_choose 9 RX9 (some .int) D cI cS) (k8 : (Nat → Int32) → Int32 → Int32 → Int32 → Int32 → Int32 → Option (Int32)) (hk8 : ∀ (s : Nat → Int32) (x1 : Int32) (x2 : Int32) (x3 : Int32) (x4 : Int32) (x5 : Int32) (r : Int32), k8 s x1 x2 x3 x4 x5 = some r → jG p l e (rmF 2 47) s_ m args below meth c 9 D A (MQ below (QW D A (wM b cI s P E n hs rest) (some (.int r))) args s_ 0 0 A) (wM b cI s P E n hs rest) [some (.ref (b 0)), some (.int x1), some (.int x2), some (.int x3), some (.int x4), some (.int x5), none, none, none] 8 []) : ∀ (s : Nat → Int32) (x1 : Int32) (x2 : Int32) (x3 : Int32) (x4 : Int32) (x5 : Int32) (x6 : Int32) (r : Int32), f_X9_choose_85 k8 s x1 x2 x3 x4 x5 x6 = some r → jG p l e (rmF 2 47) s_ m args below meth c 9 D A (MQ below (QW D A (wM b cI s P E n hs rest) (some (.int r))) args s_ 0 0 A) (wM b cI s P E n hs rest) [some (.ref (b 0)), some (.int x1), some (.int x2), some (.int x3), some (.int x4), some (.int x5), some (.int x6), none, none] 85 [] := by
  intro s x1 x2 x3 x4 x5 x6 r hf
  unfold f_X9_choose_85 at hf
  refine j_iconst C ic_0 dX9_choose_85 ?_
  exact w_X9_choose_86 C _ hk8 _ _ _ _ _ _ _ _ _ hf
set_option maxRecDepth 100000 in
set_option maxHeartbeats 4000000 in
theorem w_X9_choose_8 {p : Program} {l : Launch} {e : Env} {s_ : State} {m : MethodId} {args : Array Value} {below : List Frame} {meth : Method} {c : Code} {D : va_G} {cI cS : ClassId} {A : Nat → Prop} {b : Nat → Nat} {rest : va_W} {P : Nat → Int32} {E : Nat → Int32} {n : Int32} {hs : Int64} (C : cx p s_ m args meth c cX9_choose 9 RX9 (some .int) D cI cS)  : ∀ (n_ : Nat) (s : Nat → Int32) (x1 : Int32) (x2 : Int32) (x3 : Int32) (x4 : Int32) (x5 : Int32) (r : Int32), f_X9_choose_8  n_ s x1 x2 x3 x4 x5 = some r → jG p l e (rmF 2 47) s_ m args below meth c 9 D A (MQ below (QW D A (wM b cI s P E n hs rest) (some (.int r))) args s_ 0 0 A) (wM b cI s P E n hs rest) [some (.ref (b 0)), some (.int x1), some (.int x2), some (.int x3), some (.int x4), some (.int x5), none, none, none] 8 [] := by
  intro n_
  induction n_ with
  | zero =>
    intro s x1 x2 x3 x4 x5 r hf
    rw [f_X9_choose_8] at hf
    cases hf
  | succ n_ hk8 =>
    intro s x1 x2 x3 x4 x5 r hf
    rw [f_X9_choose_8] at hf
    refine j_iload C dX9_choose_8 rfl ?_
    refine j_aload_n C dX9_choose_10 rfl ?_
    refine gf_X9_7 C dX9_choose_11 ?_
    refine j_bipush C bp_15 dX9_choose_14 ?_
    replace hf := ld_s hf
    obtain ⟨v1, h2, e_v1, hf⟩ := hf
    refine aLM_1 C h2 e_v1 dX9_choose_16 ?_
    refine j_icmp_ge C (tgt := 140) (by decide) dX9_choose_17 (fun h3 => ?_) (fun h3 => ?_)
    · replace hf := it_t h3 hf
      refine j_iload_n C dX9_choose_140 rfl ?_
      cases hf
      exact j_iret C dX9_choose_141
    · replace hf := it_f h3 hf
      refine j_aload_n C dX9_choose_20 rfl ?_
      refine j_iload C dX9_choose_21 rfl ?_
      replace hf := bd hf
      obtain ⟨v4, h5, hf⟩ := hf
      refine j_callV C cl_X9_63 (c_X9_replicasOf h5) ⟨Nat.le_of_ble_eq_true rfl, Nat.le_of_ble_eq_true rfl⟩ ⟨Nat.zero_le _, Nat.zero_le _⟩ (q0 := 0) rfl rfl rfl rfl (Nat.le_of_ble_eq_true rfl) rfl rfl rfl dX9_choose_23 ?_
      refine j_istore C (xs' := [some (.ref (b 0)), some (.int x1), some (.int x2), some (.int x3), some (.int x4), some (.int x5), some (.int v4), none, none]) dX9_choose_26 rfl rfl ?_
      refine j_aload_n C dX9_choose_28 rfl ?_
      refine j_iload C dX9_choose_29 rfl ?_
      replace hf := bd hf
      obtain ⟨v6, h7, hf⟩ := hf
      refine j_callV C cl_X9_35 (c_X9_isUp h7) ⟨Nat.le_of_ble_eq_true rfl, Nat.le_of_ble_eq_true rfl⟩ ⟨Nat.zero_le _, Nat.zero_le _⟩ (q0 := 0) rfl rfl rfl rfl (Nat.le_of_ble_eq_true rfl) rfl rfl rfl dX9_choose_31 ?_
      refine j_if_eq C (tgt := 85) (by decide) dX9_choose_34 (fun h8 => ?_) (fun h8 => ?_)
      · replace hf := it_t h8 hf
        exact w_X9_choose_85 C _ hk8 _ _ _ _ _ _ _ _ hf
      · replace hf := it_f h8 hf
        refine j_iload C dX9_choose_37 rfl ?_
        refine j_aload_n C dX9_choose_39 rfl ?_
        refine gf_X9_7 C dX9_choose_40 ?_
        refine j_bipush C bp_19 dX9_choose_43 ?_
        refine j_iconst C ic_3 dX9_choose_45 ?_
        refine j_iload C dX9_choose_46 rfl ?_
        refine j_imul C dX9_choose_48 ?_
        refine j_iadd C dX9_choose_49 ?_
        refine j_iconst C ic_1 dX9_choose_50 ?_
        refine j_iadd C dX9_choose_51 ?_
        replace hf := ld_s hf
        obtain ⟨v15, h16, e_v15, hf⟩ := hf
        refine aLM_1 C h16 e_v15 dX9_choose_52 ?_
        refine j_icmp_ge C (tgt := 85) (by decide) dX9_choose_53 (fun h17 => ?_) (fun h17 => ?_)
        · replace hf := it_t h17 hf
          exact w_X9_choose_85 C _ hk8 _ _ _ _ _ _ _ _ hf
        · replace hf := it_f h17 hf
          refine j_aload_n C dX9_choose_56 rfl ?_
          refine j_iload_n C dX9_choose_57 rfl ?_
          refine j_iconst C ic_1 dX9_choose_58 ?_
          replace hf := bd hf
          obtain ⟨v18, h19, hf⟩ := hf
          refine j_callV C cl_X9_39 (c_X9_of h19) ⟨Nat.le_of_ble_eq_true rfl, Nat.le_of_ble_eq_true rfl⟩ ⟨Nat.zero_le _, Nat.zero_le _⟩ (q0 := 0) rfl rfl rfl rfl (Nat.le_of_ble_eq_true rfl) rfl rfl rfl dX9_choose_59 ?_
          refine j_iload C dX9_choose_62 rfl ?_
          replace hf := bd hf
          obtain ⟨v20, h21, hf⟩ := hf
          refine j_callS C cl_X9_50 (c_X9_has h21) ⟨Nat.le_of_ble_eq_true rfl, Nat.le_of_ble_eq_true rfl⟩ ⟨Nat.zero_le _, Nat.zero_le _⟩ rfl (Nat.le_of_ble_eq_true rfl) rfl rfl rfl dX9_choose_64 ?_
          refine j_if_ne C (tgt := 85) (by decide) dX9_choose_67 (fun h22 => ?_) (fun h22 => ?_)
          · replace hf := it_f h22 hf
            exact w_X9_choose_85 C _ hk8 _ _ _ _ _ _ _ _ hf
          · replace hf := it_t h22 hf
            refine j_aload_n C dX9_choose_70 rfl ?_
            refine j_iload_n C dX9_choose_71 rfl ?_
            refine j_iconst C ic_3 dX9_choose_72 ?_
            replace hf := bd hf
            obtain ⟨v23, h24, hf⟩ := hf
            refine j_callV C cl_X9_39 (c_X9_of h24) ⟨Nat.le_of_ble_eq_true rfl, Nat.le_of_ble_eq_true rfl⟩ ⟨Nat.zero_le _, Nat.zero_le _⟩ (q0 := 0) rfl rfl rfl rfl (Nat.le_of_ble_eq_true rfl) rfl rfl rfl dX9_choose_73 ?_
            refine j_iload C dX9_choose_76 rfl ?_
            refine j_icmp_eq C (tgt := 85) (by decide) dX9_choose_78 (fun h25 => ?_) (fun h25 => ?_)
            · replace hf := it_t h25 hf
              exact w_X9_choose_85 C _ hk8 _ _ _ _ _ _ _ _ hf
            · replace hf := it_f h25 hf
              refine j_iconst C ic_1 dX9_choose_81 ?_
              refine j_goto C (tgt := 86) (by decide) dX9_choose_82 ?_
              exact w_X9_choose_86 C _ hk8 _ _ _ _ _ _ _ _ _ hf
set_option maxRecDepth 100000 in
set_option maxHeartbeats 4000000 in
theorem c_X9_choose {l : Launch} {D : va_G} {cI cS : ClassId} {A : Nat → Prop} {b : Nat → Nat} {rest : va_W} {P : Nat → Int32} {E : Nat → Int32} {n : Int32} {hs : Int64} {s : Nat → Int32} {x1 : Int32} {x2 : Int32} {r : Int32} (hf : f_X9_choose s x1 x2 = some r) : CT l yX9_choose cX9_choose 9 (some .int) (rmF 2 47) D cI cS A [.ref (b 0), .int x1, .int x2] (wM b cI s P E n hs rest) (wM b cI s P E n hs rest) (some (.int r)) := by
  refine CT_of (own := RX9) (xs := [some (.ref (b 0)), some (.int x1), some (.int x2), none, none, none, none, none, none]) (by decide) rfl (Nat.le_of_ble_eq_true rfl) rfl ?_
  intro p e s_ m below meth c C
  unfold f_X9_choose at hf
  refine j_iconst C ic_m1 dX9_choose_0 ?_
  refine j_istore_n C (xs' := [some (.ref (b 0)), some (.int x1), some (.int x2), some (.int (-1 : Int32)), none, none, none, none, none]) dX9_choose_1 rfl rfl ?_
  refine j_iconst C ic_0 dX9_choose_2 ?_
  refine j_istore C (xs' := [some (.ref (b 0)), some (.int x1), some (.int x2), some (.int (-1 : Int32)), some (.int (0 : Int32)), none, none, none, none]) dX9_choose_3 rfl rfl ?_
  refine j_iconst C ic_0 dX9_choose_5 ?_
  refine j_istore C (xs' := [some (.ref (b 0)), some (.int x1), some (.int x2), some (.int (-1 : Int32)), some (.int (0 : Int32)), some (.int (0 : Int32)), none, none, none]) dX9_choose_6 rfl rfl ?_
  exact w_X9_choose_8 C  _ _ _ _ _ _ _ _ hf
set_option maxRecDepth 100000 in
set_option maxHeartbeats 4000000 in
theorem c_X9_end {l : Launch} {D : va_G} {cI cS : ClassId} {A : Nat → Prop} {b : Nat → Nat} {rest : va_W} {P : Nat → Int32} {E : Nat → Int32} {n : Int32} {hs : Int64} {s : Nat → Int32} {x1 : Int32} {r : Int32} (hf : f_X9_end s x1 = some r) : CT l yX9_end cX9_end 2 (some .int) (rmF 1 22) D cI cS A [.ref (b 0), .int x1] (wM b cI s P E n hs rest) (wM b cI s P E n hs rest) (some (.int r)) := by
  refine CT_of (own := RX9) (xs := [some (.ref (b 0)), some (.int x1)]) (by decide) rfl (Nat.le_of_ble_eq_true rfl) rfl ?_
  intro p e s_ m below meth c C
  unfold f_X9_end at hf
  refine j_iload_n C dX9_end_0 rfl ?_
  refine j_iconst C ic_1 dX9_end_1 ?_
  refine j_iadd C dX9_end_2 ?_
  refine j_aload_n C dX9_end_3 rfl ?_
  refine gf_X9_7 C dX9_end_4 ?_
  refine j_bipush C bp_17 dX9_end_7 ?_
  replace hf := ld_s hf
  obtain ⟨v1, h2, e_v1, hf⟩ := hf
  refine aLM_1 C h2 e_v1 dX9_end_9 ?_
  refine j_icmp_ge C (tgt := 26) (by decide) dX9_end_10 (fun h3 => ?_) (fun h3 => ?_)
  · replace hf := it_t h3 hf
    refine j_sipush C sp_9999 dX9_end_26 ?_
    cases hf
    exact j_iret C dX9_end_29
  · replace hf := it_f h3 hf
    refine j_aload_n C dX9_end_13 rfl ?_
    refine j_iload_n C dX9_end_14 rfl ?_
    refine j_iconst C ic_1 dX9_end_15 ?_
    refine j_iadd C dX9_end_16 ?_
    refine j_iconst C ic_0 dX9_end_17 ?_
    replace hf := bd hf
    obtain ⟨v4, h5, hf⟩ := hf
    refine j_callV C cl_X9_39 (c_X9_of h5) ⟨Nat.le_of_ble_eq_true rfl, Nat.le_of_ble_eq_true rfl⟩ ⟨Nat.zero_le _, Nat.zero_le _⟩ (q0 := 0) rfl rfl rfl rfl (Nat.le_of_ble_eq_true rfl) rfl rfl rfl dX9_end_18 ?_
    refine j_iconst C ic_1 dX9_end_21 ?_
    refine j_isub C dX9_end_22 ?_
    refine j_goto C (tgt := 29) (by decide) dX9_end_23 ?_
    cases hf
    exact j_iret C dX9_end_29
set_option maxRecDepth 100000 in
set_option maxHeartbeats 4000000 in
theorem c_X9_isIn {l : Launch} {D : va_G} {cI cS : ClassId} {A : Nat → Prop} {b : Nat → Nat} {rest : va_W} {P : Nat → Int32} {E : Nat → Int32} {n : Int32} {hs : Int64} {s : Nat → Int32} {x1 : Int32} {x2 : Int32} {r : Int32} (hf : f_X9_isIn s x1 x2 = some r) : CT l yX9_isIn cX9_isIn 3 (some .boolean) (rmF 2 43) D cI cS A [.ref (b 0), .int x1, .int x2] (wM b cI s P E n hs rest) (wM b cI s P E n hs rest) (some (.int r)) := by
  refine CT_of (own := RX9) (xs := [some (.ref (b 0)), some (.int x1), some (.int x2)]) (by decide) rfl (Nat.le_of_ble_eq_true rfl) rfl ?_
  intro p e s_ m below meth c C
  unfold f_X9_isIn at hf
  refine j_iload_n C dX9_isIn_0 rfl ?_
  refine j_aload_n C dX9_isIn_1 rfl ?_
  refine j_iload_n C dX9_isIn_2 rfl ?_
  refine j_iconst C ic_0 dX9_isIn_3 ?_
  replace hf := bd hf
  obtain ⟨v1, h2, hf⟩ := hf
  refine j_callV C cl_X9_39 (c_X9_of h2) ⟨Nat.le_of_ble_eq_true rfl, Nat.le_of_ble_eq_true rfl⟩ ⟨Nat.zero_le _, Nat.zero_le _⟩ (q0 := 0) rfl rfl rfl rfl (Nat.le_of_ble_eq_true rfl) rfl rfl rfl dX9_isIn_4 ?_
  refine j_aload_n C dX9_isIn_7 rfl ?_
  refine j_iload_n C dX9_isIn_8 rfl ?_
  replace hf := bd hf
  obtain ⟨v3, h4, hf⟩ := hf
  refine j_callV C cl_X9_69 (c_X9_end h4) ⟨Nat.le_of_ble_eq_true rfl, Nat.le_of_ble_eq_true rfl⟩ ⟨Nat.zero_le _, Nat.zero_le _⟩ (q0 := 0) rfl rfl rfl rfl (Nat.le_of_ble_eq_true rfl) rfl rfl rfl dX9_isIn_9 ?_
  replace hf := bd hf
  obtain ⟨v5, h6, hf⟩ := hf
  refine j_callS C cl_X9_31 (c_X9_in h6) ⟨Nat.le_of_ble_eq_true rfl, Nat.le_of_ble_eq_true rfl⟩ ⟨Nat.zero_le _, Nat.zero_le _⟩ rfl (Nat.le_of_ble_eq_true rfl) rfl rfl rfl dX9_isIn_12 ?_
  replace hf := zr_s hf
  obtain ⟨h7, hf⟩ := hf
  cases hf
  exact j_zret C h7 dX9_isIn_15
set_option maxRecDepth 100000 in
set_option maxHeartbeats 4000000 in
theorem w_X9_placeOf_2 {p : Program} {l : Launch} {e : Env} {s_ : State} {m : MethodId} {args : Array Value} {below : List Frame} {meth : Method} {c : Code} {D : va_G} {cI cS : ClassId} {A : Nat → Prop} {b : Nat → Nat} {rest : va_W} {P : Nat → Int32} {E : Nat → Int32} {n : Int32} {hs : Int64} (C : cx p s_ m args meth c cX9_placeOf 3 RX9 (some .int) D cI cS)  : ∀ (n_ : Nat) (s : Nat → Int32) (x1 : Int32) (x2 : Int32) (r : Int32), f_X9_placeOf_2  n_ s x1 x2 = some r → jG p l e (rmF 0 0) s_ m args below meth c 3 D A (MQ below (QW D A (wM b cI s P E n hs rest) (some (.int r))) args s_ 0 0 A) (wM b cI s P E n hs rest) [some (.ref (b 0)), some (.int x1), some (.int x2)] 2 [] := by
  intro n_
  induction n_ with
  | zero =>
    intro s x1 x2 r hf
    rw [f_X9_placeOf_2] at hf
    cases hf
  | succ n_ hk2 =>
    intro s x1 x2 r hf
    rw [f_X9_placeOf_2] at hf
    refine j_iload_n C dX9_placeOf_2 rfl ?_
    refine j_aload_n C dX9_placeOf_3 rfl ?_
    refine gf_X9_7 C dX9_placeOf_4 ?_
    refine j_bipush C bp_16 dX9_placeOf_7 ?_
    replace hf := ld_s hf
    obtain ⟨v1, h2, e_v1, hf⟩ := hf
    refine aLM_1 C h2 e_v1 dX9_placeOf_9 ?_
    refine j_icmp_ge C (tgt := 41) (by decide) dX9_placeOf_10 (fun h3 => ?_) (fun h3 => ?_)
    · replace hf := it_t h3 hf
      refine j_iconst C ic_m1 dX9_placeOf_41 ?_
      cases hf
      exact j_iret C dX9_placeOf_42
    · replace hf := it_f h3 hf
      refine j_aload_n C dX9_placeOf_13 rfl ?_
      refine gf_X9_7 C dX9_placeOf_14 ?_
      refine j_bipush C bp_43 dX9_placeOf_17 ?_
      refine j_iconst C ic_2 dX9_placeOf_19 ?_
      refine j_iload_n C dX9_placeOf_20 rfl ?_
      refine j_imul C dX9_placeOf_21 ?_
      refine j_iadd C dX9_placeOf_22 ?_
      replace hf := ld_s hf
      obtain ⟨v4, h5, e_v4, hf⟩ := hf
      refine aLM_1 C h5 e_v4 dX9_placeOf_23 ?_
      refine j_iload_n C dX9_placeOf_24 rfl ?_
      refine j_icmp_ne C (tgt := 35) (by decide) dX9_placeOf_25 (fun h6 => ?_) (fun h6 => ?_)
      · replace hf := it_f h6 hf
        refine j_iinc C (xs' := [some (.ref (b 0)), some (.int x1), some (.int (x2 + (1 : Int32)))]) dX9_placeOf_35 rfl (ii_1 _) rfl rfl ?_
        refine j_goto C (tgt := 2) (by decide) dX9_placeOf_38 ?_
        exact hk2 _ _ _ _ hf
      · replace hf := it_t h6 hf
        refine j_bipush C bp_43 dX9_placeOf_28 ?_
        refine j_iconst C ic_2 dX9_placeOf_30 ?_
        refine j_iload_n C dX9_placeOf_31 rfl ?_
        refine j_imul C dX9_placeOf_32 ?_
        refine j_iadd C dX9_placeOf_33 ?_
        cases hf
        exact j_iret C dX9_placeOf_34
set_option maxRecDepth 100000 in
set_option maxHeartbeats 4000000 in
theorem c_X9_placeOf {l : Launch} {D : va_G} {cI cS : ClassId} {A : Nat → Prop} {b : Nat → Nat} {rest : va_W} {P : Nat → Int32} {E : Nat → Int32} {n : Int32} {hs : Int64} {s : Nat → Int32} {x1 : Int32} {r : Int32} (hf : f_X9_placeOf s x1 = some r) : CT l yX9_placeOf cX9_placeOf 3 (some .int) (rmF 0 0) D cI cS A [.ref (b 0), .int x1] (wM b cI s P E n hs rest) (wM b cI s P E n hs rest) (some (.int r)) := by
  refine CT_of (own := RX9) (xs := [some (.ref (b 0)), some (.int x1), none]) (by decide) rfl (Nat.le_of_ble_eq_true rfl) rfl ?_
  intro p e s_ m below meth c C
  unfold f_X9_placeOf at hf
  refine j_iconst C ic_0 dX9_placeOf_0 ?_
  refine j_istore_n C (xs' := [some (.ref (b 0)), some (.int x1), some (.int (0 : Int32))]) dX9_placeOf_1 rfl rfl ?_
  exact w_X9_placeOf_2 C  _ _ _ _ _ hf
set_option maxRecDepth 100000 in
set_option maxHeartbeats 4000000 in
theorem w_X9_below_106 {p : Program} {l : Launch} {e : Env} {s_ : State} {m : MethodId} {args : Array Value} {below : List Frame} {meth : Method} {c : Code} {D : va_G} {cI cS : ClassId} {A : Nat → Prop} {b : Nat → Nat} {rest : va_W} {P : Nat → Int32} {E : Nat → Int32} {n : Int32} {hs : Int64} (C : cx p s_ m args meth c cX9_below 8 RX9 (some .int) D cI cS) (k24 : (Nat → Int32) → Int32 → Int32 → Int32 → Int32 → Int32 → Int32 → Option (Int32)) (hk24 : ∀ (s : Nat → Int32) (x1 : Int32) (x2 : Int32) (x3 : Int32) (x4 : Int32) (x5 : Int32) (x6 : Int32) (r : Int32), k24 s x1 x2 x3 x4 x5 x6 = some r → jG p l e (rmF 3 65) s_ m args below meth c 8 D A (MQ below (QW D A (wM b cI s P E n hs rest) (some (.int r))) args s_ 0 0 A) (wM b cI s P E n hs rest) [some (.ref (b 0)), some (.int x1), some (.int x2), some (.int x3), some (.int x4), some (.int x5), some (.int x6), none] 24 []) : ∀ (s : Nat → Int32) (x1 : Int32) (x2 : Int32) (x3 : Int32) (x5 : Int32) (x6 : Int32) (y0 : Int32) (r : Int32), f_X9_below_106 k24 s x1 x2 x3 x5 x6 y0 = some r → jG p l e (rmF 3 65) s_ m args below meth c 8 D A (MQ below (QW D A (wM b cI s P E n hs rest) (some (.int r))) args s_ 0 0 A) (wM b cI s P E n hs rest) [some (.ref (b 0)), some (.int x1), some (.int x2), some (.int x3), none, some (.int x5), some (.int x6), none] 106 [.int y0] := by
  intro s x1 x2 x3 x5 x6 y0 r hf
  unfold f_X9_below_106 at hf
  refine j_iconst C ic_0 dX9_below_106 ?_
  refine j_iadd C dX9_below_107 ?_
  refine j_istore C (xs' := [some (.ref (b 0)), some (.int x1), some (.int x2), some (.int x3), some (.int (y0 + (0 : Int32))), some (.int x5), some (.int x6), none]) dX9_below_108 rfl rfl ?_
  refine j_iinc C (xs' := [some (.ref (b 0)), some (.int x1), some (.int x2), some (.int x3), some (.int (y0 + (0 : Int32))), some (.int x5), some (.int (x6 + (1 : Int32))), none]) dX9_below_110 rfl (ii_1 _) rfl rfl ?_
  refine j_goto C (tgt := 24) (by decide) dX9_below_113 ?_
  exact hk24 _ _ _ _ _ _ _ _ hf
set_option maxRecDepth 100000 in
set_option maxHeartbeats 4000000 in
theorem w_X9_below_61 {p : Program} {l : Launch} {e : Env} {s_ : State} {m : MethodId} {args : Array Value} {below : List Frame} {meth : Method} {c : Code} {D : va_G} {cI cS : ClassId} {A : Nat → Prop} {b : Nat → Nat} {rest : va_W} {P : Nat → Int32} {E : Nat → Int32} {n : Int32} {hs : Int64} (C : cx p s_ m args meth c cX9_below 8 RX9 (some .int) D cI cS) (k24 : (Nat → Int32) → Int32 → Int32 → Int32 → Int32 → Int32 → Int32 → Option (Int32)) (hk24 : ∀ (s : Nat → Int32) (x1 : Int32) (x2 : Int32) (x3 : Int32) (x4 : Int32) (x5 : Int32) (x6 : Int32) (r : Int32), k24 s x1 x2 x3 x4 x5 x6 = some r → jG p l e (rmF 3 65) s_ m args below meth c 8 D A (MQ below (QW D A (wM b cI s P E n hs rest) (some (.int r))) args s_ 0 0 A) (wM b cI s P E n hs rest) [some (.ref (b 0)), some (.int x1), some (.int x2), some (.int x3), some (.int x4), some (.int x5), some (.int x6), none] 24 []) : ∀ (s : Nat → Int32) (x1 : Int32) (x2 : Int32) (x3 : Int32) (x4 : Int32) (x5 : Int32) (x6 : Int32) (y0 : Int32) (r : Int32), f_X9_below_61 k24 s x1 x2 x3 x4 x5 x6 y0 = some r → jG p l e (rmF 3 65) s_ m args below meth c 8 D A (MQ below (QW D A (wM b cI s P E n hs rest) (some (.int r))) args s_ 0 0 A) (wM b cI s P E n hs rest) [some (.ref (b 0)), some (.int x1), some (.int x2), some (.int x3), some (.int x4), some (.int x5), some (.int x6), none] 61 [.int y0] := by
  intro s x1 x2 x3 x4 x5 x6 y0 r hf
  unfold f_X9_below_61 at hf
  refine j_istore C (xs' := [some (.ref (b 0)), some (.int x1), some (.int x2), some (.int x3), some (.int x4), some (.int x5), some (.int x6), some (.int y0)]) dX9_below_61 rfl rfl ?_
  refine j_iload C dX9_below_63 rfl ?_
  refine j_aload_n C dX9_below_65 rfl ?_
  refine j_iload C dX9_below_66 rfl ?_
  refine j_iload_n C dX9_below_68 rfl ?_
  replace hf := bd hf
  obtain ⟨v8, h9, hf⟩ := hf
  refine j_callV C cl_X9_72 (c_X9_isIn h9) ⟨Nat.le_of_ble_eq_true rfl, Nat.le_of_ble_eq_true rfl⟩ ⟨Nat.zero_le _, Nat.zero_le _⟩ (q0 := 0) rfl rfl rfl rfl (Nat.le_of_ble_eq_true rfl) rfl rfl rfl dX9_below_69 ?_
  refine j_if_eq C (tgt := 106) (by decide) dX9_below_72 (fun h10 => ?_) (fun h10 => ?_)
  · replace hf := it_t h10 hf
    refine j_weak [true, true, true, true, false, true, true, false] rfl ?_
    exact w_X9_below_106 C _ hk24 _ _ _ _ _ _ _ _ hf
  · replace hf := it_f h10 hf
    refine j_iload C dX9_below_75 rfl ?_
    refine j_iload_n C dX9_below_77 rfl ?_
    refine j_icmp_ge C (tgt := 106) (by decide) dX9_below_78 (fun h11 => ?_) (fun h11 => ?_)
    · replace hf := it_t h11 hf
      refine j_weak [true, true, true, true, false, true, true, false] rfl ?_
      exact w_X9_below_106 C _ hk24 _ _ _ _ _ _ _ _ hf
    · replace hf := it_f h11 hf
      refine j_iload_n C dX9_below_81 rfl ?_
      refine j_if_ne C (tgt := 102) (by decide) dX9_below_82 (fun h12 => ?_) (fun h12 => ?_)
      · replace hf := it_f h12 hf
        refine j_iconst C ic_1 dX9_below_102 ?_
        refine j_goto C (tgt := 107) (by decide) dX9_below_103 ?_
        refine j_iadd C dX9_below_107 ?_
        refine j_istore C (xs' := [some (.ref (b 0)), some (.int x1), some (.int x2), some (.int x3), some (.int (x4 + (1 : Int32))), some (.int x5), some (.int x6), some (.int y0)]) dX9_below_108 rfl rfl ?_
        refine j_iinc C (xs' := [some (.ref (b 0)), some (.int x1), some (.int x2), some (.int x3), some (.int (x4 + (1 : Int32))), some (.int x5), some (.int (x6 + (1 : Int32))), some (.int y0)]) dX9_below_110 rfl (ii_1 _) rfl rfl ?_
        refine j_goto C (tgt := 24) (by decide) dX9_below_113 ?_
        refine j_weak [true, true, true, true, true, true, true, false] rfl ?_
        exact hk24 _ _ _ _ _ _ _ _ hf
      · replace hf := it_t h12 hf
        refine j_aload_n C dX9_below_85 rfl ?_
        refine gf_X9_7 C dX9_below_86 ?_
        refine j_bipush C bp_43 dX9_below_89 ?_
        refine j_iconst C ic_2 dX9_below_91 ?_
        refine j_iload C dX9_below_92 rfl ?_
        refine j_imul C dX9_below_94 ?_
        refine j_iadd C dX9_below_95 ?_
        refine j_iconst C ic_1 dX9_below_96 ?_
        refine j_iadd C dX9_below_97 ?_
        replace hf := ld_s hf
        obtain ⟨v13, h14, e_v13, hf⟩ := hf
        refine aLM_1 C h14 e_v13 dX9_below_98 ?_
        refine j_goto C (tgt := 107) (by decide) dX9_below_99 ?_
        refine j_iadd C dX9_below_107 ?_
        refine j_istore C (xs' := [some (.ref (b 0)), some (.int x1), some (.int x2), some (.int x3), some (.int (x4 + v13)), some (.int x5), some (.int x6), some (.int y0)]) dX9_below_108 rfl rfl ?_
        refine j_iinc C (xs' := [some (.ref (b 0)), some (.int x1), some (.int x2), some (.int x3), some (.int (x4 + v13)), some (.int x5), some (.int (x6 + (1 : Int32))), some (.int y0)]) dX9_below_110 rfl (ii_1 _) rfl rfl ?_
        refine j_goto C (tgt := 24) (by decide) dX9_below_113 ?_
        refine j_weak [true, true, true, true, true, true, true, false] rfl ?_
        exact hk24 _ _ _ _ _ _ _ _ hf
set_option maxRecDepth 100000 in
set_option maxHeartbeats 4000000 in
theorem w_X9_below_24 {p : Program} {l : Launch} {e : Env} {s_ : State} {m : MethodId} {args : Array Value} {below : List Frame} {meth : Method} {c : Code} {D : va_G} {cI cS : ClassId} {A : Nat → Prop} {b : Nat → Nat} {rest : va_W} {P : Nat → Int32} {E : Nat → Int32} {n : Int32} {hs : Int64} (C : cx p s_ m args meth c cX9_below 8 RX9 (some .int) D cI cS)  : ∀ (n_ : Nat) (s : Nat → Int32) (x1 : Int32) (x2 : Int32) (x3 : Int32) (x4 : Int32) (x5 : Int32) (x6 : Int32) (r : Int32), f_X9_below_24  n_ s x1 x2 x3 x4 x5 x6 = some r → jG p l e (rmF 3 65) s_ m args below meth c 8 D A (MQ below (QW D A (wM b cI s P E n hs rest) (some (.int r))) args s_ 0 0 A) (wM b cI s P E n hs rest) [some (.ref (b 0)), some (.int x1), some (.int x2), some (.int x3), some (.int x4), some (.int x5), some (.int x6), none] 24 [] := by
  intro n_
  induction n_ with
  | zero =>
    intro s x1 x2 x3 x4 x5 x6 r hf
    rw [f_X9_below_24] at hf
    cases hf
  | succ n_ hk24 =>
    intro s x1 x2 x3 x4 x5 x6 r hf
    rw [f_X9_below_24] at hf
    refine j_iload C dX9_below_24 rfl ?_
    refine j_iload C dX9_below_26 rfl ?_
    refine j_icmp_ge C (tgt := 116) (by decide) dX9_below_28 (fun h4 => ?_) (fun h4 => ?_)
    · replace hf := it_t h4 hf
      refine j_iload C dX9_below_116 rfl ?_
      cases hf
      exact j_iret C dX9_below_118
    · replace hf := it_f h4 hf
      refine j_iload_n C dX9_below_31 rfl ?_
      refine j_if_ne C (tgt := 50) (by decide) dX9_below_32 (fun h5 => ?_) (fun h5 => ?_)
      · replace hf := it_f h5 hf
        refine j_aload_n C dX9_below_50 rfl ?_
        refine gf_X9_7 C dX9_below_51 ?_
        refine j_sipush C sp_267 dX9_below_54 ?_
        refine j_iload C dX9_below_57 rfl ?_
        refine j_iadd C dX9_below_59 ?_
        replace hf := ld_s hf
        obtain ⟨v6, h7, e_v6, hf⟩ := hf
        refine aLM_1 C h7 e_v6 dX9_below_60 ?_
        exact w_X9_below_61 C _ hk24 _ _ _ _ _ _ _ _ _ hf
      · replace hf := it_t h5 hf
        refine j_aload_n C dX9_below_35 rfl ?_
        refine gf_X9_7 C dX9_below_36 ?_
        refine j_bipush C bp_43 dX9_below_39 ?_
        refine j_iconst C ic_2 dX9_below_41 ?_
        refine j_iload C dX9_below_42 rfl ?_
        refine j_imul C dX9_below_44 ?_
        refine j_iadd C dX9_below_45 ?_
        replace hf := ld_s hf
        obtain ⟨v15, h16, e_v15, hf⟩ := hf
        refine aLM_1 C h16 e_v15 dX9_below_46 ?_
        refine j_goto C (tgt := 61) (by decide) dX9_below_47 ?_
        exact w_X9_below_61 C _ hk24 _ _ _ _ _ _ _ _ _ hf
set_option maxRecDepth 100000 in
set_option maxHeartbeats 4000000 in
theorem w_X9_below_18 {p : Program} {l : Launch} {e : Env} {s_ : State} {m : MethodId} {args : Array Value} {below : List Frame} {meth : Method} {c : Code} {D : va_G} {cI cS : ClassId} {A : Nat → Prop} {b : Nat → Nat} {rest : va_W} {P : Nat → Int32} {E : Nat → Int32} {n : Int32} {hs : Int64} (C : cx p s_ m args meth c cX9_below 8 RX9 (some .int) D cI cS)  : ∀ (s : Nat → Int32) (x1 : Int32) (x2 : Int32) (x3 : Int32) (x4 : Int32) (y0 : Int32) (r : Int32), f_X9_below_18  s x1 x2 x3 x4 y0 = some r → jG p l e (rmF 3 65) s_ m args below meth c 8 D A (MQ below (QW D A (wM b cI s P E n hs rest) (some (.int r))) args s_ 0 0 A) (wM b cI s P E n hs rest) [some (.ref (b 0)), some (.int x1), some (.int x2), some (.int x3), some (.int x4), none, none, none] 18 [.int y0, .ref (b 1)] := by
  intro s x1 x2 x3 x4 y0 r hf
  unfold f_X9_below_18 at hf
  replace hf := ld_s hf
  obtain ⟨v2, h3, e_v2, hf⟩ := hf
  refine aLM_1 C h3 e_v2 dX9_below_18 ?_
  refine j_istore C (xs' := [some (.ref (b 0)), some (.int x1), some (.int x2), some (.int x3), some (.int x4), some (.int v2), none, none]) dX9_below_19 rfl rfl ?_
  refine j_iconst C ic_0 dX9_below_21 ?_
  refine j_istore C (xs' := [some (.ref (b 0)), some (.int x1), some (.int x2), some (.int x3), some (.int x4), some (.int v2), some (.int (0 : Int32)), none]) dX9_below_22 rfl rfl ?_
  exact w_X9_below_24 C  _ _ _ _ _ _ _ _ _ hf
set_option maxRecDepth 100000 in
set_option maxHeartbeats 4000000 in
theorem c_X9_below {l : Launch} {D : va_G} {cI cS : ClassId} {A : Nat → Prop} {b : Nat → Nat} {rest : va_W} {P : Nat → Int32} {E : Nat → Int32} {n : Int32} {hs : Int64} {s : Nat → Int32} {x1 : Int32} {x2 : Int32} {x3 : Int32} {r : Int32} (hf : f_X9_below s x1 x2 x3 = some r) : CT l yX9_below cX9_below 8 (some .int) (rmF 3 65) D cI cS A [.ref (b 0), .int x1, .int x2, .int x3] (wM b cI s P E n hs rest) (wM b cI s P E n hs rest) (some (.int r)) := by
  refine CT_of (own := RX9) (xs := [some (.ref (b 0)), some (.int x1), some (.int x2), some (.int x3), none, none, none, none]) (by decide) rfl (Nat.le_of_ble_eq_true rfl) rfl ?_
  intro p e s_ m below meth c C
  unfold f_X9_below at hf
  refine j_iconst C ic_0 dX9_below_0 ?_
  refine j_istore C (xs' := [some (.ref (b 0)), some (.int x1), some (.int x2), some (.int x3), some (.int (0 : Int32)), none, none, none]) dX9_below_1 rfl rfl ?_
  refine j_aload_n C dX9_below_3 rfl ?_
  refine gf_X9_7 C dX9_below_4 ?_
  refine j_iload_n C dX9_below_7 rfl ?_
  refine j_if_ne C (tgt := 16) (by decide) dX9_below_8 (fun h1 => ?_) (fun h1 => ?_)
  · replace hf := it_f h1 hf
    refine j_bipush C bp_18 dX9_below_16 ?_
    exact w_X9_below_18 C  _ _ _ _ _ _ _ hf
  · replace hf := it_t h1 hf
    refine j_bipush C bp_16 dX9_below_11 ?_
    refine j_goto C (tgt := 18) (by decide) dX9_below_13 ?_
    exact w_X9_below_18 C  _ _ _ _ _ _ _ hf
set_option maxRecDepth 100000 in
set_option maxHeartbeats 4000000 in
theorem c_X9_all {l : Launch} {D : va_G} {cI cS : ClassId} {A : Nat → Prop} {b : Nat → Nat} {rest : va_W} {P : Nat → Int32} {E : Nat → Int32} {n : Int32} {hs : Int64} {s : Nat → Int32} {x1 : Int32} {x2 : Int32} {r : Int32} (hf : f_X9_all s x1 x2 = some r) : CT l yX9_all cX9_all 3 (some .int) (rmF 4 92) D cI cS A [.ref (b 0), .int x1, .int x2] (wM b cI s P E n hs rest) (wM b cI s P E n hs rest) (some (.int r)) := by
  refine CT_of (own := RX9) (xs := [some (.ref (b 0)), some (.int x1), some (.int x2)]) (by decide) rfl (Nat.le_of_ble_eq_true rfl) rfl ?_
  intro p e s_ m below meth c C
  unfold f_X9_all at hf
  refine j_aload_n C dX9_all_0 rfl ?_
  refine j_iload_n C dX9_all_1 rfl ?_
  refine j_sipush C sp_10000 dX9_all_2 ?_
  refine j_iload_n C dX9_all_5 rfl ?_
  replace hf := bd hf
  obtain ⟨v1, h2, hf⟩ := hf
  refine j_callV C cl_X9_75 (c_X9_below h2) ⟨Nat.le_of_ble_eq_true rfl, Nat.le_of_ble_eq_true rfl⟩ ⟨Nat.zero_le _, Nat.zero_le _⟩ (q0 := 0) rfl rfl rfl rfl (Nat.le_of_ble_eq_true rfl) rfl rfl rfl dX9_all_6 ?_
  cases hf
  exact j_iret C dX9_all_9
set_option maxRecDepth 100000 in
set_option maxHeartbeats 4000000 in
theorem w_X9_splitKeyOf_220 {p : Program} {l : Launch} {e : Env} {s_ : State} {m : MethodId} {args : Array Value} {below : List Frame} {meth : Method} {c : Code} {D : va_G} {cI cS : ClassId} {A : Nat → Prop} {b : Nat → Nat} {rest : va_W} {P : Nat → Int32} {E : Nat → Int32} {n : Int32} {hs : Int64} (C : cx p s_ m args meth c cX9_splitKeyOf 11 RX9 (some .int) D cI cS) (k138 : (Nat → Int32) → Int32 → Int32 → Int32 → Int32 → Int32 → Int32 → Int32 → Option (Int32)) (hk138 : ∀ (s : Nat → Int32) (x1 : Int32) (x2 : Int32) (x3 : Int32) (x5 : Int32) (x6 : Int32) (x7 : Int32) (x8 : Int32) (r : Int32), k138 s x1 x2 x3 x5 x6 x7 x8 = some r → jG p l e (rmF 5 114) s_ m args below meth c 11 D A (MQ below (QW D A (wM b cI s P E n hs rest) (some (.int r))) args s_ 0 0 A) (wM b cI s P E n hs rest) [some (.ref (b 0)), some (.int x1), some (.int x2), some (.int x3), none, some (.int x5), some (.int x6), some (.int x7), some (.int x8), none, none] 138 []) : ∀ (s : Nat → Int32) (x1 : Int32) (x2 : Int32) (x3 : Int32) (x5 : Int32) (x6 : Int32) (x7 : Int32) (x8 : Int32) (x9 : Int32) (y0 : Int32) (r : Int32), f_X9_splitKeyOf_220 k138 s x1 x2 x3 x5 x6 x7 x8 x9 y0 = some r → jG p l e (rmF 5 114) s_ m args below meth c 11 D A (MQ below (QW D A (wM b cI s P E n hs rest) (some (.int r))) args s_ 0 0 A) (wM b cI s P E n hs rest) [some (.ref (b 0)), some (.int x1), some (.int x2), some (.int x3), none, some (.int x5), some (.int x6), some (.int x7), some (.int x8), some (.int x9), none] 220 [.int y0] := by
  intro s x1 x2 x3 x5 x6 x7 x8 x9 y0 r hf
  unfold f_X9_splitKeyOf_220 at hf
  refine j_istore C (xs' := [some (.ref (b 0)), some (.int x1), some (.int x2), some (.int x3), none, some (.int x5), some (.int x6), some (.int x7), some (.int x8), some (.int x9), some (.int y0)]) dX9_splitKeyOf_220 rfl rfl ?_
  refine j_iload C dX9_splitKeyOf_222 rfl ?_
  refine j_if_eq C (tgt := 232) (by decide) dX9_splitKeyOf_224 (fun h15 => ?_) (fun h15 => ?_)
  · replace hf := it_t h15 hf
    refine j_iload C dX9_splitKeyOf_232 rfl ?_
    refine j_istore C (xs' := [some (.ref (b 0)), some (.int x1), some (.int x2), some (.int x3), none, some (.int x5), some (.int x6), some (.int x7), some (.int x8), some (.int x9), some (.int y0)]) dX9_splitKeyOf_234 rfl rfl ?_
    refine j_iinc C (xs' := [some (.ref (b 0)), some (.int x1), some (.int x2), some (.int x3), none, some (.int x5), some (.int x6), some (.int x7), some (.int (x8 + (1 : Int32))), some (.int x9), some (.int y0)]) dX9_splitKeyOf_236 rfl (ii_1 _) rfl rfl ?_
    refine j_goto C (tgt := 138) (by decide) dX9_splitKeyOf_239 ?_
    refine j_weak [true, true, true, true, false, true, true, true, true, false, false] rfl ?_
    exact hk138 _ _ _ _ _ _ _ _ _ hf
  · replace hf := it_f h15 hf
    refine j_iload C dX9_splitKeyOf_227 rfl ?_
    refine j_goto C (tgt := 234) (by decide) dX9_splitKeyOf_229 ?_
    refine j_istore C (xs' := [some (.ref (b 0)), some (.int x1), some (.int x2), some (.int x3), none, some (.int x5), some (.int x9), some (.int x7), some (.int x8), some (.int x9), some (.int y0)]) dX9_splitKeyOf_234 rfl rfl ?_
    refine j_iinc C (xs' := [some (.ref (b 0)), some (.int x1), some (.int x2), some (.int x3), none, some (.int x5), some (.int x9), some (.int x7), some (.int (x8 + (1 : Int32))), some (.int x9), some (.int y0)]) dX9_splitKeyOf_236 rfl (ii_1 _) rfl rfl ?_
    refine j_goto C (tgt := 138) (by decide) dX9_splitKeyOf_239 ?_
    refine j_weak [true, true, true, true, false, true, true, true, true, false, false] rfl ?_
    exact hk138 _ _ _ _ _ _ _ _ _ hf
set_option maxRecDepth 100000 in
set_option maxHeartbeats 4000000 in
theorem w_X9_splitKeyOf_219 {p : Program} {l : Launch} {e : Env} {s_ : State} {m : MethodId} {args : Array Value} {below : List Frame} {meth : Method} {c : Code} {D : va_G} {cI cS : ClassId} {A : Nat → Prop} {b : Nat → Nat} {rest : va_W} {P : Nat → Int32} {E : Nat → Int32} {n : Int32} {hs : Int64} (C : cx p s_ m args meth c cX9_splitKeyOf 11 RX9 (some .int) D cI cS) (k138 : (Nat → Int32) → Int32 → Int32 → Int32 → Int32 → Int32 → Int32 → Int32 → Option (Int32)) (hk138 : ∀ (s : Nat → Int32) (x1 : Int32) (x2 : Int32) (x3 : Int32) (x5 : Int32) (x6 : Int32) (x7 : Int32) (x8 : Int32) (r : Int32), k138 s x1 x2 x3 x5 x6 x7 x8 = some r → jG p l e (rmF 5 114) s_ m args below meth c 11 D A (MQ below (QW D A (wM b cI s P E n hs rest) (some (.int r))) args s_ 0 0 A) (wM b cI s P E n hs rest) [some (.ref (b 0)), some (.int x1), some (.int x2), some (.int x3), none, some (.int x5), some (.int x6), some (.int x7), some (.int x8), none, none] 138 []) : ∀ (s : Nat → Int32) (x1 : Int32) (x2 : Int32) (x3 : Int32) (x5 : Int32) (x6 : Int32) (x7 : Int32) (x8 : Int32) (x9 : Int32) (r : Int32), f_X9_splitKeyOf_219 k138 s x1 x2 x3 x5 x6 x7 x8 x9 = some r → jG p l e (rmF 5 114) s_ m args below meth c 11 D A (MQ below (QW D A (wM b cI s P E n hs rest) (some (.int r))) args s_ 0 0 A) (wM b cI s P E n hs rest) [some (.ref (b 0)), some (.int x1), some (.int x2), some (.int x3), none, some (.int x5), some (.int x6), some (.int x7), some (.int x8), some (.int x9), none] 219 [] := by
  intro s x1 x2 x3 x5 x6 x7 x8 x9 r hf
  unfold f_X9_splitKeyOf_219 at hf
  refine j_iconst C ic_0 dX9_splitKeyOf_219 ?_
  exact w_X9_splitKeyOf_220 C _ hk138 _ _ _ _ _ _ _ _ _ _ _ hf
set_option maxRecDepth 100000 in
set_option maxHeartbeats 4000000 in
theorem w_X9_splitKeyOf_175 {p : Program} {l : Launch} {e : Env} {s_ : State} {m : MethodId} {args : Array Value} {below : List Frame} {meth : Method} {c : Code} {D : va_G} {cI cS : ClassId} {A : Nat → Prop} {b : Nat → Nat} {rest : va_W} {P : Nat → Int32} {E : Nat → Int32} {n : Int32} {hs : Int64} (C : cx p s_ m args meth c cX9_splitKeyOf 11 RX9 (some .int) D cI cS) (k138 : (Nat → Int32) → Int32 → Int32 → Int32 → Int32 → Int32 → Int32 → Int32 → Option (Int32)) (hk138 : ∀ (s : Nat → Int32) (x1 : Int32) (x2 : Int32) (x3 : Int32) (x5 : Int32) (x6 : Int32) (x7 : Int32) (x8 : Int32) (r : Int32), k138 s x1 x2 x3 x5 x6 x7 x8 = some r → jG p l e (rmF 5 114) s_ m args below meth c 11 D A (MQ below (QW D A (wM b cI s P E n hs rest) (some (.int r))) args s_ 0 0 A) (wM b cI s P E n hs rest) [some (.ref (b 0)), some (.int x1), some (.int x2), some (.int x3), none, some (.int x5), some (.int x6), some (.int x7), some (.int x8), none, none] 138 []) : ∀ (s : Nat → Int32) (x1 : Int32) (x2 : Int32) (x3 : Int32) (x5 : Int32) (x6 : Int32) (x7 : Int32) (x8 : Int32) (y0 : Int32) (r : Int32), f_X9_splitKeyOf_175 k138 s x1 x2 x3 x5 x6 x7 x8 y0 = some r → jG p l e (rmF 5 114) s_ m args below meth c 11 D A (MQ below (QW D A (wM b cI s P E n hs rest) (some (.int r))) args s_ 0 0 A) (wM b cI s P E n hs rest) [some (.ref (b 0)), some (.int x1), some (.int x2), some (.int x3), none, some (.int x5), some (.int x6), some (.int x7), some (.int x8), none, none] 175 [.int y0] := by
  intro s x1 x2 x3 x5 x6 x7 x8 y0 r hf
  unfold f_X9_splitKeyOf_175 at hf
  refine j_istore C (xs' := [some (.ref (b 0)), some (.int x1), some (.int x2), some (.int x3), none, some (.int x5), some (.int x6), some (.int x7), some (.int x8), some (.int y0), none]) dX9_splitKeyOf_175 rfl rfl ?_
  refine j_aload_n C dX9_splitKeyOf_177 rfl ?_
  refine j_iload C dX9_splitKeyOf_178 rfl ?_
  refine j_iload_n C dX9_splitKeyOf_180 rfl ?_
  replace hf := bd hf
  obtain ⟨v12, h13, hf⟩ := hf
  refine j_callV C cl_X9_72 (c_X9_isIn h13) ⟨Nat.le_of_ble_eq_true rfl, Nat.le_of_ble_eq_true rfl⟩ ⟨Nat.zero_le _, Nat.zero_le _⟩ (q0 := 0) rfl rfl rfl rfl (Nat.le_of_ble_eq_true rfl) rfl rfl rfl dX9_splitKeyOf_181 ?_
  refine j_if_eq C (tgt := 219) (by decide) dX9_splitKeyOf_184 (fun h14 => ?_) (fun h14 => ?_)
  · replace hf := it_t h14 hf
    exact w_X9_splitKeyOf_219 C _ hk138 _ _ _ _ _ _ _ _ _ _ hf
  · replace hf := it_f h14 hf
    refine j_iload C dX9_splitKeyOf_187 rfl ?_
    refine j_iload_n C dX9_splitKeyOf_189 rfl ?_
    refine j_icmp_eq C (tgt := 219) (by decide) dX9_splitKeyOf_190 (fun h16 => ?_) (fun h16 => ?_)
    · replace hf := it_t h16 hf
      exact w_X9_splitKeyOf_219 C _ hk138 _ _ _ _ _ _ _ _ _ _ hf
    · replace hf := it_f h16 hf
      refine j_iload C dX9_splitKeyOf_193 rfl ?_
      refine j_iload C dX9_splitKeyOf_195 rfl ?_
      refine j_icmp_ge C (tgt := 219) (by decide) dX9_splitKeyOf_197 (fun h17 => ?_) (fun h17 => ?_)
      · replace hf := it_t h17 hf
        exact w_X9_splitKeyOf_219 C _ hk138 _ _ _ _ _ _ _ _ _ _ hf
      · replace hf := it_f h17 hf
        refine j_iconst C ic_2 dX9_splitKeyOf_200 ?_
        refine j_aload_n C dX9_splitKeyOf_201 rfl ?_
        refine j_iload_n C dX9_splitKeyOf_202 rfl ?_
        refine j_iload C dX9_splitKeyOf_203 rfl ?_
        refine j_iload_n C dX9_splitKeyOf_205 rfl ?_
        replace hf := bd hf
        obtain ⟨v18, h19, hf⟩ := hf
        refine j_callV C cl_X9_75 (c_X9_below h19) ⟨Nat.le_of_ble_eq_true rfl, Nat.le_of_ble_eq_true rfl⟩ ⟨Nat.zero_le _, Nat.zero_le _⟩ (q0 := 0) rfl rfl rfl rfl (Nat.le_of_ble_eq_true rfl) rfl rfl rfl dX9_splitKeyOf_206 ?_
        refine j_imul C dX9_splitKeyOf_209 ?_
        refine j_iload C dX9_splitKeyOf_210 rfl ?_
        refine j_icmp_lt C (tgt := 219) (by decide) dX9_splitKeyOf_212 (fun h20 => ?_) (fun h20 => ?_)
        · replace hf := it_t h20 hf
          exact w_X9_splitKeyOf_219 C _ hk138 _ _ _ _ _ _ _ _ _ _ hf
        · replace hf := it_f h20 hf
          refine j_iconst C ic_1 dX9_splitKeyOf_215 ?_
          refine j_goto C (tgt := 220) (by decide) dX9_splitKeyOf_216 ?_
          exact w_X9_splitKeyOf_220 C _ hk138 _ _ _ _ _ _ _ _ _ _ _ hf
set_option maxRecDepth 100000 in
set_option maxHeartbeats 4000000 in
theorem w_X9_splitKeyOf_138 {p : Program} {l : Launch} {e : Env} {s_ : State} {m : MethodId} {args : Array Value} {below : List Frame} {meth : Method} {c : Code} {D : va_G} {cI cS : ClassId} {A : Nat → Prop} {b : Nat → Nat} {rest : va_W} {P : Nat → Int32} {E : Nat → Int32} {n : Int32} {hs : Int64} (C : cx p s_ m args meth c cX9_splitKeyOf 11 RX9 (some .int) D cI cS)  : ∀ (n_ : Nat) (s : Nat → Int32) (x1 : Int32) (x2 : Int32) (x3 : Int32) (x5 : Int32) (x6 : Int32) (x7 : Int32) (x8 : Int32) (r : Int32), f_X9_splitKeyOf_138  n_ s x1 x2 x3 x5 x6 x7 x8 = some r → jG p l e (rmF 5 114) s_ m args below meth c 11 D A (MQ below (QW D A (wM b cI s P E n hs rest) (some (.int r))) args s_ 0 0 A) (wM b cI s P E n hs rest) [some (.ref (b 0)), some (.int x1), some (.int x2), some (.int x3), none, some (.int x5), some (.int x6), some (.int x7), some (.int x8), none, none] 138 [] := by
  intro n_
  induction n_ with
  | zero =>
    intro s x1 x2 x3 x5 x6 x7 x8 r hf
    rw [f_X9_splitKeyOf_138] at hf
    cases hf
  | succ n_ hk138 =>
    intro s x1 x2 x3 x5 x6 x7 x8 r hf
    rw [f_X9_splitKeyOf_138] at hf
    refine j_iload C dX9_splitKeyOf_138 rfl ?_
    refine j_iload C dX9_splitKeyOf_140 rfl ?_
    refine j_icmp_ge C (tgt := 242) (by decide) dX9_splitKeyOf_142 (fun h8 => ?_) (fun h8 => ?_)
    · replace hf := it_t h8 hf
      refine j_iload C dX9_splitKeyOf_242 rfl ?_
      cases hf
      exact j_iret C dX9_splitKeyOf_244
    · replace hf := it_f h8 hf
      refine j_iload_n C dX9_splitKeyOf_145 rfl ?_
      refine j_if_ne C (tgt := 164) (by decide) dX9_splitKeyOf_146 (fun h9 => ?_) (fun h9 => ?_)
      · replace hf := it_f h9 hf
        refine j_aload_n C dX9_splitKeyOf_164 rfl ?_
        refine gf_X9_7 C dX9_splitKeyOf_165 ?_
        refine j_sipush C sp_267 dX9_splitKeyOf_168 ?_
        refine j_iload C dX9_splitKeyOf_171 rfl ?_
        refine j_iadd C dX9_splitKeyOf_173 ?_
        replace hf := ld_s hf
        obtain ⟨v10, h11, e_v10, hf⟩ := hf
        refine aLM_1 C h11 e_v10 dX9_splitKeyOf_174 ?_
        exact w_X9_splitKeyOf_175 C _ hk138 _ _ _ _ _ _ _ _ _ _ hf
      · replace hf := it_t h9 hf
        refine j_aload_n C dX9_splitKeyOf_149 rfl ?_
        refine gf_X9_7 C dX9_splitKeyOf_150 ?_
        refine j_bipush C bp_43 dX9_splitKeyOf_153 ?_
        refine j_iconst C ic_2 dX9_splitKeyOf_155 ?_
        refine j_iload C dX9_splitKeyOf_156 rfl ?_
        refine j_imul C dX9_splitKeyOf_158 ?_
        refine j_iadd C dX9_splitKeyOf_159 ?_
        replace hf := ld_s hf
        obtain ⟨v21, h22, e_v21, hf⟩ := hf
        refine aLM_1 C h22 e_v21 dX9_splitKeyOf_160 ?_
        refine j_goto C (tgt := 175) (by decide) dX9_splitKeyOf_161 ?_
        exact w_X9_splitKeyOf_175 C _ hk138 _ _ _ _ _ _ _ _ _ _ hf
set_option maxRecDepth 100000 in
set_option maxHeartbeats 4000000 in
theorem w_X9_splitKeyOf_92 {p : Program} {l : Launch} {e : Env} {s_ : State} {m : MethodId} {args : Array Value} {below : List Frame} {meth : Method} {c : Code} {D : va_G} {cI cS : ClassId} {A : Nat → Prop} {b : Nat → Nat} {rest : va_W} {P : Nat → Int32} {E : Nat → Int32} {n : Int32} {hs : Int64} (C : cx p s_ m args meth c cX9_splitKeyOf 11 RX9 (some .int) D cI cS) (k26 : (Nat → Int32) → Int32 → Int32 → Int32 → Int32 → Int32 → Int32 → Option (Int32)) (hk26 : ∀ (s : Nat → Int32) (x1 : Int32) (x2 : Int32) (x3 : Int32) (x4 : Int32) (x5 : Int32) (x6 : Int32) (r : Int32), k26 s x1 x2 x3 x4 x5 x6 = some r → jG p l e (rmF 5 114) s_ m args below meth c 11 D A (MQ below (QW D A (wM b cI s P E n hs rest) (some (.int r))) args s_ 0 0 A) (wM b cI s P E n hs rest) [some (.ref (b 0)), some (.int x1), some (.int x2), some (.int x3), some (.int x4), some (.int x5), some (.int x6), none, none, none, none] 26 []) : ∀ (s : Nat → Int32) (x1 : Int32) (x2 : Int32) (x4 : Int32) (x5 : Int32) (x6 : Int32) (x7 : Int32) (y0 : Int32) (r : Int32), f_X9_splitKeyOf_92 k26 s x1 x2 x4 x5 x6 x7 y0 = some r → jG p l e (rmF 5 114) s_ m args below meth c 11 D A (MQ below (QW D A (wM b cI s P E n hs rest) (some (.int r))) args s_ 0 0 A) (wM b cI s P E n hs rest) [some (.ref (b 0)), some (.int x1), some (.int x2), none, some (.int x4), some (.int x5), some (.int x6), some (.int x7), none, none, none] 92 [.int y0] := by
  intro s x1 x2 x4 x5 x6 x7 y0 r hf
  unfold f_X9_splitKeyOf_92 at hf
  refine j_istore_n C (xs' := [some (.ref (b 0)), some (.int x1), some (.int x2), some (.int y0), some (.int x4), some (.int x5), some (.int x6), some (.int x7), none, none, none]) dX9_splitKeyOf_92 rfl rfl ?_
  refine j_iload C dX9_splitKeyOf_93 rfl ?_
  refine j_iload C dX9_splitKeyOf_95 rfl ?_
  refine j_icmp_le C (tgt := 105) (by decide) dX9_splitKeyOf_97 (fun h30 => ?_) (fun h30 => ?_)
  · replace hf := it_t h30 hf
    refine j_iload C dX9_splitKeyOf_105 rfl ?_
    refine j_istore C (xs' := [some (.ref (b 0)), some (.int x1), some (.int x2), some (.int y0), some (.int x4), some (.int x5), some (.int x6), some (.int x7), none, none, none]) dX9_splitKeyOf_107 rfl rfl ?_
    refine j_iinc C (xs' := [some (.ref (b 0)), some (.int x1), some (.int x2), some (.int y0), some (.int x4), some (.int x5), some (.int (x6 + (1 : Int32))), some (.int x7), none, none, none]) dX9_splitKeyOf_109 rfl (ii_1 _) rfl rfl ?_
    refine j_goto C (tgt := 26) (by decide) dX9_splitKeyOf_112 ?_
    refine j_weak [true, true, true, true, true, true, true, false, false, false, false] rfl ?_
    exact hk26 _ _ _ _ _ _ _ _ hf
  · replace hf := it_f h30 hf
    refine j_iload C dX9_splitKeyOf_100 rfl ?_
    refine j_goto C (tgt := 107) (by decide) dX9_splitKeyOf_102 ?_
    refine j_istore C (xs' := [some (.ref (b 0)), some (.int x1), some (.int x2), some (.int y0), some (.int x7), some (.int x5), some (.int x6), some (.int x7), none, none, none]) dX9_splitKeyOf_107 rfl rfl ?_
    refine j_iinc C (xs' := [some (.ref (b 0)), some (.int x1), some (.int x2), some (.int y0), some (.int x7), some (.int x5), some (.int (x6 + (1 : Int32))), some (.int x7), none, none, none]) dX9_splitKeyOf_109 rfl (ii_1 _) rfl rfl ?_
    refine j_goto C (tgt := 26) (by decide) dX9_splitKeyOf_112 ?_
    refine j_weak [true, true, true, true, true, true, true, false, false, false, false] rfl ?_
    exact hk26 _ _ _ _ _ _ _ _ hf
set_option maxRecDepth 100000 in
set_option maxHeartbeats 4000000 in
theorem w_X9_splitKeyOf_86 {p : Program} {l : Launch} {e : Env} {s_ : State} {m : MethodId} {args : Array Value} {below : List Frame} {meth : Method} {c : Code} {D : va_G} {cI cS : ClassId} {A : Nat → Prop} {b : Nat → Nat} {rest : va_W} {P : Nat → Int32} {E : Nat → Int32} {n : Int32} {hs : Int64} (C : cx p s_ m args meth c cX9_splitKeyOf 11 RX9 (some .int) D cI cS) (k26 : (Nat → Int32) → Int32 → Int32 → Int32 → Int32 → Int32 → Int32 → Option (Int32)) (hk26 : ∀ (s : Nat → Int32) (x1 : Int32) (x2 : Int32) (x3 : Int32) (x4 : Int32) (x5 : Int32) (x6 : Int32) (r : Int32), k26 s x1 x2 x3 x4 x5 x6 = some r → jG p l e (rmF 5 114) s_ m args below meth c 11 D A (MQ below (QW D A (wM b cI s P E n hs rest) (some (.int r))) args s_ 0 0 A) (wM b cI s P E n hs rest) [some (.ref (b 0)), some (.int x1), some (.int x2), some (.int x3), some (.int x4), some (.int x5), some (.int x6), none, none, none, none] 26 []) : ∀ (s : Nat → Int32) (x1 : Int32) (x2 : Int32) (x4 : Int32) (x5 : Int32) (x6 : Int32) (x7 : Int32) (r : Int32), f_X9_splitKeyOf_86 k26 s x1 x2 x4 x5 x6 x7 = some r → jG p l e (rmF 5 114) s_ m args below meth c 11 D A (MQ below (QW D A (wM b cI s P E n hs rest) (some (.int r))) args s_ 0 0 A) (wM b cI s P E n hs rest) [some (.ref (b 0)), some (.int x1), some (.int x2), none, some (.int x4), some (.int x5), some (.int x6), some (.int x7), none, none, none] 86 [] := by
  intro s x1 x2 x4 x5 x6 x7 r hf
  unfold f_X9_splitKeyOf_86 at hf
  refine j_iload C dX9_splitKeyOf_86 rfl ?_
  refine j_goto C (tgt := 92) (by decide) dX9_splitKeyOf_88 ?_
  exact w_X9_splitKeyOf_92 C _ hk26 _ _ _ _ _ _ _ _ _ hf
set_option maxRecDepth 100000 in
set_option maxHeartbeats 4000000 in
theorem w_X9_splitKeyOf_63 {p : Program} {l : Launch} {e : Env} {s_ : State} {m : MethodId} {args : Array Value} {below : List Frame} {meth : Method} {c : Code} {D : va_G} {cI cS : ClassId} {A : Nat → Prop} {b : Nat → Nat} {rest : va_W} {P : Nat → Int32} {E : Nat → Int32} {n : Int32} {hs : Int64} (C : cx p s_ m args meth c cX9_splitKeyOf 11 RX9 (some .int) D cI cS) (k26 : (Nat → Int32) → Int32 → Int32 → Int32 → Int32 → Int32 → Int32 → Option (Int32)) (hk26 : ∀ (s : Nat → Int32) (x1 : Int32) (x2 : Int32) (x3 : Int32) (x4 : Int32) (x5 : Int32) (x6 : Int32) (r : Int32), k26 s x1 x2 x3 x4 x5 x6 = some r → jG p l e (rmF 5 114) s_ m args below meth c 11 D A (MQ below (QW D A (wM b cI s P E n hs rest) (some (.int r))) args s_ 0 0 A) (wM b cI s P E n hs rest) [some (.ref (b 0)), some (.int x1), some (.int x2), some (.int x3), some (.int x4), some (.int x5), some (.int x6), none, none, none, none] 26 []) : ∀ (s : Nat → Int32) (x1 : Int32) (x2 : Int32) (x3 : Int32) (x4 : Int32) (x5 : Int32) (x6 : Int32) (y0 : Int32) (r : Int32), f_X9_splitKeyOf_63 k26 s x1 x2 x3 x4 x5 x6 y0 = some r → jG p l e (rmF 5 114) s_ m args below meth c 11 D A (MQ below (QW D A (wM b cI s P E n hs rest) (some (.int r))) args s_ 0 0 A) (wM b cI s P E n hs rest) [some (.ref (b 0)), some (.int x1), some (.int x2), some (.int x3), some (.int x4), some (.int x5), some (.int x6), none, none, none, none] 63 [.int y0] := by
  intro s x1 x2 x3 x4 x5 x6 y0 r hf
  unfold f_X9_splitKeyOf_63 at hf
  refine j_istore C (xs' := [some (.ref (b 0)), some (.int x1), some (.int x2), some (.int x3), some (.int x4), some (.int x5), some (.int x6), some (.int y0), none, none, none]) dX9_splitKeyOf_63 rfl rfl ?_
  refine j_aload_n C dX9_splitKeyOf_65 rfl ?_
  refine j_iload C dX9_splitKeyOf_66 rfl ?_
  refine j_iload_n C dX9_splitKeyOf_68 rfl ?_
  replace hf := bd hf
  obtain ⟨v26, h27, hf⟩ := hf
  refine j_callV C cl_X9_72 (c_X9_isIn h27) ⟨Nat.le_of_ble_eq_true rfl, Nat.le_of_ble_eq_true rfl⟩ ⟨Nat.zero_le _, Nat.zero_le _⟩ (q0 := 0) rfl rfl rfl rfl (Nat.le_of_ble_eq_true rfl) rfl rfl rfl dX9_splitKeyOf_69 ?_
  refine j_if_eq C (tgt := 109) (by decide) dX9_splitKeyOf_72 (fun h28 => ?_) (fun h28 => ?_)
  · replace hf := it_t h28 hf
    refine j_iinc C (xs' := [some (.ref (b 0)), some (.int x1), some (.int x2), some (.int x3), some (.int x4), some (.int x5), some (.int (x6 + (1 : Int32))), some (.int y0), none, none, none]) dX9_splitKeyOf_109 rfl (ii_1 _) rfl rfl ?_
    refine j_goto C (tgt := 26) (by decide) dX9_splitKeyOf_112 ?_
    refine j_weak [true, true, true, true, true, true, true, false, false, false, false] rfl ?_
    exact hk26 _ _ _ _ _ _ _ _ hf
  · replace hf := it_f h28 hf
    refine j_iload_n C dX9_splitKeyOf_75 rfl ?_
    refine j_iconst C ic_m1 dX9_splitKeyOf_76 ?_
    refine j_icmp_eq C (tgt := 86) (by decide) dX9_splitKeyOf_77 (fun h29 => ?_) (fun h29 => ?_)
    · replace hf := it_t h29 hf
      refine j_weak [true, true, true, false, true, true, true, true, false, false, false] rfl ?_
      exact w_X9_splitKeyOf_86 C _ hk26 _ _ _ _ _ _ _ _ hf
    · replace hf := it_f h29 hf
      refine j_iload C dX9_splitKeyOf_80 rfl ?_
      refine j_iload_n C dX9_splitKeyOf_82 rfl ?_
      refine j_icmp_ge C (tgt := 91) (by decide) dX9_splitKeyOf_83 (fun h31 => ?_) (fun h31 => ?_)
      · replace hf := it_t h31 hf
        refine j_iload_n C dX9_splitKeyOf_91 rfl ?_
        refine j_weak [true, true, true, false, true, true, true, true, false, false, false] rfl ?_
        exact w_X9_splitKeyOf_92 C _ hk26 _ _ _ _ _ _ _ _ _ hf
      · replace hf := it_f h31 hf
        refine j_weak [true, true, true, false, true, true, true, true, false, false, false] rfl ?_
        exact w_X9_splitKeyOf_86 C _ hk26 _ _ _ _ _ _ _ _ hf
set_option maxRecDepth 100000 in
set_option maxHeartbeats 4000000 in
theorem w_X9_splitKeyOf_26 {p : Program} {l : Launch} {e : Env} {s_ : State} {m : MethodId} {args : Array Value} {below : List Frame} {meth : Method} {c : Code} {D : va_G} {cI cS : ClassId} {A : Nat → Prop} {b : Nat → Nat} {rest : va_W} {P : Nat → Int32} {E : Nat → Int32} {n : Int32} {hs : Int64} (C : cx p s_ m args meth c cX9_splitKeyOf 11 RX9 (some .int) D cI cS)  : ∀ (n_ : Nat) (s : Nat → Int32) (x1 : Int32) (x2 : Int32) (x3 : Int32) (x4 : Int32) (x5 : Int32) (x6 : Int32) (r : Int32), f_X9_splitKeyOf_26  n_ s x1 x2 x3 x4 x5 x6 = some r → jG p l e (rmF 5 114) s_ m args below meth c 11 D A (MQ below (QW D A (wM b cI s P E n hs rest) (some (.int r))) args s_ 0 0 A) (wM b cI s P E n hs rest) [some (.ref (b 0)), some (.int x1), some (.int x2), some (.int x3), some (.int x4), some (.int x5), some (.int x6), none, none, none, none] 26 [] := by
  intro n_
  induction n_ with
  | zero =>
    intro s x1 x2 x3 x4 x5 x6 r hf
    rw [f_X9_splitKeyOf_26] at hf
    cases hf
  | succ n_ hk26 =>
    intro s x1 x2 x3 x4 x5 x6 r hf
    rw [f_X9_splitKeyOf_26] at hf
    refine j_iload C dX9_splitKeyOf_26 rfl ?_
    refine j_iload C dX9_splitKeyOf_28 rfl ?_
    refine j_icmp_ge C (tgt := 115) (by decide) dX9_splitKeyOf_30 (fun h4 => ?_) (fun h4 => ?_)
    · replace hf := it_t h4 hf
      refine j_iload_n C dX9_splitKeyOf_115 rfl ?_
      refine j_iload C dX9_splitKeyOf_116 rfl ?_
      refine j_icmp_ne C (tgt := 123) (by decide) dX9_splitKeyOf_118 (fun h5 => ?_) (fun h5 => ?_)
      · replace hf := it_f h5 hf
        refine j_iload C dX9_splitKeyOf_123 rfl ?_
        refine j_istore C (xs' := [some (.ref (b 0)), some (.int x1), some (.int x2), some (.int x3), some (.int x4), some (.int x5), some (.int x4), none, none, none, none]) dX9_splitKeyOf_125 rfl rfl ?_
        refine j_aload_n C dX9_splitKeyOf_127 rfl ?_
        refine j_iload_n C dX9_splitKeyOf_128 rfl ?_
        refine j_iload_n C dX9_splitKeyOf_129 rfl ?_
        replace hf := bd hf
        obtain ⟨v6, h7, hf⟩ := hf
        refine j_callV C cl_X9_79 (c_X9_all h7) ⟨Nat.le_of_ble_eq_true rfl, Nat.le_of_ble_eq_true rfl⟩ ⟨Nat.zero_le _, Nat.zero_le _⟩ (q0 := 0) rfl rfl rfl rfl (Nat.le_of_ble_eq_true rfl) rfl rfl rfl dX9_splitKeyOf_130 ?_
        refine j_istore C (xs' := [some (.ref (b 0)), some (.int x1), some (.int x2), some (.int x3), some (.int x4), some (.int x5), some (.int x4), some (.int v6), none, none, none]) dX9_splitKeyOf_133 rfl rfl ?_
        refine j_iconst C ic_0 dX9_splitKeyOf_135 ?_
        refine j_istore C (xs' := [some (.ref (b 0)), some (.int x1), some (.int x2), some (.int x3), some (.int x4), some (.int x5), some (.int x4), some (.int v6), some (.int (0 : Int32)), none, none]) dX9_splitKeyOf_136 rfl rfl ?_
        refine j_weak [true, true, true, true, false, true, true, true, true, false, false] rfl ?_
        exact w_X9_splitKeyOf_138 C  _ _ _ _ _ _ _ _ _ _ hf
      · replace hf := it_t h5 hf
        refine j_iconst C ic_m1 dX9_splitKeyOf_121 ?_
        cases hf
        exact j_iret C dX9_splitKeyOf_122
    · replace hf := it_f h4 hf
      refine j_iload_n C dX9_splitKeyOf_33 rfl ?_
      refine j_if_ne C (tgt := 52) (by decide) dX9_splitKeyOf_34 (fun h23 => ?_) (fun h23 => ?_)
      · replace hf := it_f h23 hf
        refine j_aload_n C dX9_splitKeyOf_52 rfl ?_
        refine gf_X9_7 C dX9_splitKeyOf_53 ?_
        refine j_sipush C sp_267 dX9_splitKeyOf_56 ?_
        refine j_iload C dX9_splitKeyOf_59 rfl ?_
        refine j_iadd C dX9_splitKeyOf_61 ?_
        replace hf := ld_s hf
        obtain ⟨v24, h25, e_v24, hf⟩ := hf
        refine aLM_1 C h25 e_v24 dX9_splitKeyOf_62 ?_
        exact w_X9_splitKeyOf_63 C _ hk26 _ _ _ _ _ _ _ _ _ hf
      · replace hf := it_t h23 hf
        refine j_aload_n C dX9_splitKeyOf_37 rfl ?_
        refine gf_X9_7 C dX9_splitKeyOf_38 ?_
        refine j_bipush C bp_43 dX9_splitKeyOf_41 ?_
        refine j_iconst C ic_2 dX9_splitKeyOf_43 ?_
        refine j_iload C dX9_splitKeyOf_44 rfl ?_
        refine j_imul C dX9_splitKeyOf_46 ?_
        refine j_iadd C dX9_splitKeyOf_47 ?_
        replace hf := ld_s hf
        obtain ⟨v32, h33, e_v32, hf⟩ := hf
        refine aLM_1 C h33 e_v32 dX9_splitKeyOf_48 ?_
        refine j_goto C (tgt := 63) (by decide) dX9_splitKeyOf_49 ?_
        exact w_X9_splitKeyOf_63 C _ hk26 _ _ _ _ _ _ _ _ _ hf
set_option maxRecDepth 100000 in
set_option maxHeartbeats 4000000 in
theorem w_X9_splitKeyOf_20 {p : Program} {l : Launch} {e : Env} {s_ : State} {m : MethodId} {args : Array Value} {below : List Frame} {meth : Method} {c : Code} {D : va_G} {cI cS : ClassId} {A : Nat → Prop} {b : Nat → Nat} {rest : va_W} {P : Nat → Int32} {E : Nat → Int32} {n : Int32} {hs : Int64} (C : cx p s_ m args meth c cX9_splitKeyOf 11 RX9 (some .int) D cI cS)  : ∀ (s : Nat → Int32) (x1 : Int32) (x2 : Int32) (x3 : Int32) (x4 : Int32) (y0 : Int32) (r : Int32), f_X9_splitKeyOf_20  s x1 x2 x3 x4 y0 = some r → jG p l e (rmF 5 114) s_ m args below meth c 11 D A (MQ below (QW D A (wM b cI s P E n hs rest) (some (.int r))) args s_ 0 0 A) (wM b cI s P E n hs rest) [some (.ref (b 0)), some (.int x1), some (.int x2), some (.int x3), some (.int x4), none, none, none, none, none, none] 20 [.int y0, .ref (b 1)] := by
  intro s x1 x2 x3 x4 y0 r hf
  unfold f_X9_splitKeyOf_20 at hf
  replace hf := ld_s hf
  obtain ⟨v2, h3, e_v2, hf⟩ := hf
  refine aLM_1 C h3 e_v2 dX9_splitKeyOf_20 ?_
  refine j_istore C (xs' := [some (.ref (b 0)), some (.int x1), some (.int x2), some (.int x3), some (.int x4), some (.int v2), none, none, none, none, none]) dX9_splitKeyOf_21 rfl rfl ?_
  refine j_iconst C ic_0 dX9_splitKeyOf_23 ?_
  refine j_istore C (xs' := [some (.ref (b 0)), some (.int x1), some (.int x2), some (.int x3), some (.int x4), some (.int v2), some (.int (0 : Int32)), none, none, none, none]) dX9_splitKeyOf_24 rfl rfl ?_
  exact w_X9_splitKeyOf_26 C  _ _ _ _ _ _ _ _ _ hf
set_option maxRecDepth 100000 in
set_option maxHeartbeats 4000000 in
theorem c_X9_splitKeyOf {l : Launch} {D : va_G} {cI cS : ClassId} {A : Nat → Prop} {b : Nat → Nat} {rest : va_W} {P : Nat → Int32} {E : Nat → Int32} {n : Int32} {hs : Int64} {s : Nat → Int32} {x1 : Int32} {x2 : Int32} {r : Int32} (hf : f_X9_splitKeyOf s x1 x2 = some r) : CT l yX9_splitKeyOf cX9_splitKeyOf 11 (some .int) (rmF 5 114) D cI cS A [.ref (b 0), .int x1, .int x2] (wM b cI s P E n hs rest) (wM b cI s P E n hs rest) (some (.int r)) := by
  refine CT_of (own := RX9) (xs := [some (.ref (b 0)), some (.int x1), some (.int x2), none, none, none, none, none, none, none, none]) (by decide) rfl (Nat.le_of_ble_eq_true rfl) rfl ?_
  intro p e s_ m below meth c C
  unfold f_X9_splitKeyOf at hf
  refine j_iconst C ic_m1 dX9_splitKeyOf_0 ?_
  refine j_istore_n C (xs' := [some (.ref (b 0)), some (.int x1), some (.int x2), some (.int (-1 : Int32)), none, none, none, none, none, none, none]) dX9_splitKeyOf_1 rfl rfl ?_
  refine j_iconst C ic_m1 dX9_splitKeyOf_2 ?_
  refine j_istore C (xs' := [some (.ref (b 0)), some (.int x1), some (.int x2), some (.int (-1 : Int32)), some (.int (-1 : Int32)), none, none, none, none, none, none]) dX9_splitKeyOf_3 rfl rfl ?_
  refine j_aload_n C dX9_splitKeyOf_5 rfl ?_
  refine gf_X9_7 C dX9_splitKeyOf_6 ?_
  refine j_iload_n C dX9_splitKeyOf_9 rfl ?_
  refine j_if_ne C (tgt := 18) (by decide) dX9_splitKeyOf_10 (fun h1 => ?_) (fun h1 => ?_)
  · replace hf := it_f h1 hf
    refine j_bipush C bp_18 dX9_splitKeyOf_18 ?_
    exact w_X9_splitKeyOf_20 C  _ _ _ _ _ _ _ hf
  · replace hf := it_t h1 hf
    refine j_bipush C bp_16 dX9_splitKeyOf_13 ?_
    refine j_goto C (tgt := 20) (by decide) dX9_splitKeyOf_15 ?_
    exact w_X9_splitKeyOf_20 C  _ _ _ _ _ _ _ hf
set_option maxRecDepth 100000 in
set_option maxHeartbeats 4000000 in
theorem w_X9_rangeAt_2 {p : Program} {l : Launch} {e : Env} {s_ : State} {m : MethodId} {args : Array Value} {below : List Frame} {meth : Method} {c : Code} {D : va_G} {cI cS : ClassId} {A : Nat → Prop} {b : Nat → Nat} {rest : va_W} {P : Nat → Int32} {E : Nat → Int32} {n : Int32} {hs : Int64} (C : cx p s_ m args meth c cX9_rangeAt 3 RX9 (some .int) D cI cS)  : ∀ (n_ : Nat) (s : Nat → Int32) (x1 : Int32) (x2 : Int32) (r : Int32), f_X9_rangeAt_2  n_ s x1 x2 = some r → jG p l e (rmF 3 65) s_ m args below meth c 3 D A (MQ below (QW D A (wM b cI s P E n hs rest) (some (.int r))) args s_ 0 0 A) (wM b cI s P E n hs rest) [some (.ref (b 0)), some (.int x1), some (.int x2)] 2 [] := by
  intro n_
  induction n_ with
  | zero =>
    intro s x1 x2 r hf
    rw [f_X9_rangeAt_2] at hf
    cases hf
  | succ n_ hk2 =>
    intro s x1 x2 r hf
    rw [f_X9_rangeAt_2] at hf
    refine j_aload_n C dX9_rangeAt_2 rfl ?_
    refine j_iload_n C dX9_rangeAt_3 rfl ?_
    refine j_iload_n C dX9_rangeAt_4 rfl ?_
    replace hf := bd hf
    obtain ⟨v1, h2, hf⟩ := hf
    refine j_callV C cl_X9_72 (c_X9_isIn h2) ⟨Nat.le_of_ble_eq_true rfl, Nat.le_of_ble_eq_true rfl⟩ ⟨Nat.zero_le _, Nat.zero_le _⟩ (q0 := 0) rfl rfl rfl rfl (Nat.le_of_ble_eq_true rfl) rfl rfl rfl dX9_rangeAt_5 ?_
    refine j_if_ne C (tgt := 17) (by decide) dX9_rangeAt_8 (fun h3 => ?_) (fun h3 => ?_)
    · replace hf := it_f h3 hf
      refine j_iload_n C dX9_rangeAt_17 rfl ?_
      cases hf
      exact j_iret C dX9_rangeAt_18
    · replace hf := it_t h3 hf
      refine j_iinc C (xs' := [some (.ref (b 0)), some (.int x1), some (.int (x2 + (1 : Int32)))]) dX9_rangeAt_11 rfl (ii_1 _) rfl rfl ?_
      refine j_goto C (tgt := 2) (by decide) dX9_rangeAt_14 ?_
      exact hk2 _ _ _ _ hf
set_option maxRecDepth 100000 in
set_option maxHeartbeats 4000000 in
theorem c_X9_rangeAt {l : Launch} {D : va_G} {cI cS : ClassId} {A : Nat → Prop} {b : Nat → Nat} {rest : va_W} {P : Nat → Int32} {E : Nat → Int32} {n : Int32} {hs : Int64} {s : Nat → Int32} {x1 : Int32} {r : Int32} (hf : f_X9_rangeAt s x1 = some r) : CT l yX9_rangeAt cX9_rangeAt 3 (some .int) (rmF 3 65) D cI cS A [.ref (b 0), .int x1] (wM b cI s P E n hs rest) (wM b cI s P E n hs rest) (some (.int r)) := by
  refine CT_of (own := RX9) (xs := [some (.ref (b 0)), some (.int x1), none]) (by decide) rfl (Nat.le_of_ble_eq_true rfl) rfl ?_
  intro p e s_ m below meth c C
  unfold f_X9_rangeAt at hf
  refine j_iconst C ic_0 dX9_rangeAt_0 ?_
  refine j_istore_n C (xs' := [some (.ref (b 0)), some (.int x1), some (.int (0 : Int32))]) dX9_rangeAt_1 rfl rfl ?_
  exact w_X9_rangeAt_2 C  _ _ _ _ _ hf
set_option maxRecDepth 100000 in
set_option maxHeartbeats 4000000 in
theorem w_X9_split_17 {p : Program} {l : Launch} {e : Env} {s_ : State} {m : MethodId} {args : Array Value} {below : List Frame} {meth : Method} {c : Code} {D : va_G} {cI cS : ClassId} {A : Nat → Prop} {b : Nat → Nat} {rest : va_W} {P : Nat → Int32} {E : Nat → Int32} {n : Int32} {hs : Int64} (C : cx p s_ m args meth c cX9_split 4 RX9 none D cI cS)  : ∀ (n_ : Nat) (s : Nat → Int32) (x1 : Int32) (x2 : Int32) (x3 : Int32) (r : (Nat → Int32)), f_X9_split_17  n_ s x1 x2 x3 = some r → jG p l e (rmF 1 23) s_ m args below meth c 4 D A (MQ below (QW D A (wM b cI r P E n hs rest) none) args s_ 0 0 A) (wM b cI s P E n hs rest) [some (.ref (b 0)), some (.int x1), some (.int x2), some (.int x3)] 17 [] := by
  intro n_
  induction n_ with
  | zero =>
    intro s x1 x2 x3 r hf
    rw [f_X9_split_17] at hf
    cases hf
  | succ n_ hk17 =>
    intro s x1 x2 x3 r hf
    rw [f_X9_split_17] at hf
    refine j_iload_n C dX9_split_17 rfl ?_
    refine j_sipush C sp_171 dX9_split_18 ?_
    refine j_bipush C bp_6 dX9_split_21 ?_
    refine j_iload_n C dX9_split_23 rfl ?_
    refine j_imul C dX9_split_24 ?_
    refine j_iadd C dX9_split_25 ?_
    refine j_icmp_lt C (tgt := 50) (by decide) dX9_split_26 (fun h3 => ?_) (fun h3 => ?_)
    · replace hf := it_t h3 hf
      refine j_aload_n C dX9_split_50 rfl ?_
      refine gf_X9_7 C dX9_split_51 ?_
      refine j_bipush C bp_17 dX9_split_54 ?_
      refine j_dup2 C dX9_split_56 rfl rfl ?_
      replace hf := ld_s hf
      obtain ⟨v4, h5, e_v4, hf⟩ := hf
      refine aLM_1 C h5 e_v4 dX9_split_57 ?_
      refine j_iconst C ic_1 dX9_split_58 ?_
      refine j_iadd C dX9_split_59 ?_
      replace hf := sd_s hf
      obtain ⟨h6, hf⟩ := hf
      refine aSM_1 C h6 dX9_split_60 ?_
      refine j_aload_n C dX9_split_61 rfl ?_
      refine j_iload_n C dX9_split_62 rfl ?_
      refine j_iconst C ic_1 dX9_split_63 ?_
      refine j_iadd C dX9_split_64 ?_
      refine j_iconst C ic_0 dX9_split_65 ?_
      refine j_iload_n C dX9_split_66 rfl ?_
      replace hf := bd hf
      obtain ⟨v7, h8, hf⟩ := hf
      refine j_callV C cl_X9_19 (c_X9_set h8) ⟨Nat.le_of_ble_eq_true rfl, Nat.le_of_ble_eq_true rfl⟩ ⟨Nat.zero_le _, Nat.zero_le _⟩ (q0 := 0) rfl rfl rfl rfl (Nat.le_of_ble_eq_true rfl) rfl rfl wM_fst dX9_split_67 ?_
      cases hf
      exact j_vret C dX9_split_70
    · replace hf := it_f h3 hf
      refine j_aload_n C dX9_split_29 rfl ?_
      refine gf_X9_7 C dX9_split_30 ?_
      refine j_iload_n C dX9_split_33 rfl ?_
      refine j_bipush C bp_6 dX9_split_34 ?_
      refine j_iadd C dX9_split_36 ?_
      refine j_aload_n C dX9_split_37 rfl ?_
      refine gf_X9_7 C dX9_split_38 ?_
      refine j_iload_n C dX9_split_41 rfl ?_
      replace hf := ld_s hf
      obtain ⟨v9, h10, e_v9, hf⟩ := hf
      refine aLM_1 C h10 e_v9 dX9_split_42 ?_
      replace hf := sd_s hf
      obtain ⟨h11, hf⟩ := hf
      refine aSM_1 C h11 dX9_split_43 ?_
      refine j_iinc C (xs' := [some (.ref (b 0)), some (.int x1), some (.int x2), some (.int (x3 + (-1 : Int32)))]) dX9_split_44 rfl (ii_m1 _) rfl rfl ?_
      refine j_goto C (tgt := 17) (by decide) dX9_split_47 ?_
      exact hk17 _ _ _ _ _ hf
set_option maxRecDepth 100000 in
set_option maxHeartbeats 4000000 in
theorem c_X9_split {l : Launch} {D : va_G} {cI cS : ClassId} {A : Nat → Prop} {b : Nat → Nat} {rest : va_W} {P : Nat → Int32} {E : Nat → Int32} {n : Int32} {hs : Int64} {s : Nat → Int32} {x1 : Int32} {x2 : Int32} {r : (Nat → Int32)} (hf : f_X9_split s x1 x2 = some r) : CT l yX9_split cX9_split 4 none (rmF 1 23) D cI cS A [.ref (b 0), .int x1, .int x2] (wM b cI s P E n hs rest) (wM b cI r P E n hs rest) none := by
  refine CT_of (own := RX9) (xs := [some (.ref (b 0)), some (.int x1), some (.int x2), none]) (by decide) rfl (Nat.le_of_ble_eq_true rfl) rfl ?_
  intro p e s_ m below meth c C
  unfold f_X9_split at hf
  refine j_sipush C sp_171 dX9_split_0 ?_
  refine j_bipush C bp_6 dX9_split_3 ?_
  refine j_aload_n C dX9_split_5 rfl ?_
  refine gf_X9_7 C dX9_split_6 ?_
  refine j_bipush C bp_17 dX9_split_9 ?_
  replace hf := ld_s hf
  obtain ⟨v1, h2, e_v1, hf⟩ := hf
  refine aLM_1 C h2 e_v1 dX9_split_11 ?_
  refine j_imul C dX9_split_12 ?_
  refine j_iadd C dX9_split_13 ?_
  refine j_iconst C ic_1 dX9_split_14 ?_
  refine j_isub C dX9_split_15 ?_
  refine j_istore_n C (xs' := [some (.ref (b 0)), some (.int x1), some (.int x2), some (.int (((171 : Int32) + ((6 : Int32) * v1)) - (1 : Int32)))]) dX9_split_16 rfl rfl ?_
  exact w_X9_split_17 C  _ _ _ _ _ _ hf
set_option maxRecDepth 100000 in
set_option maxHeartbeats 4000000 in
theorem w_X9_mergeNextInto_66 {p : Program} {l : Launch} {e : Env} {s_ : State} {m : MethodId} {args : Array Value} {below : List Frame} {meth : Method} {c : Code} {D : va_G} {cI cS : ClassId} {A : Nat → Prop} {b : Nat → Nat} {rest : va_W} {P : Nat → Int32} {E : Nat → Int32} {n : Int32} {hs : Int64} (C : cx p s_ m args meth c cX9_mergeNextInto 3 RX9 none D cI cS)  : ∀ (n_ : Nat) (s : Nat → Int32) (x2 : Int32) (r : (Nat → Int32)), f_X9_mergeNextInto_66  n_ s x2 = some r → jG p l e (rmF 1 23) s_ m args below meth c 3 D A (MQ below (QW D A (wM b cI r P E n hs rest) none) args s_ 0 0 A) (wM b cI s P E n hs rest) [some (.ref (b 0)), none, some (.int x2)] 66 [] := by
  intro n_
  induction n_ with
  | zero =>
    intro s x2 r hf
    rw [f_X9_mergeNextInto_66] at hf
    cases hf
  | succ n_ hk66 =>
    intro s x2 r hf
    rw [f_X9_mergeNextInto_66] at hf
    refine j_iload_n C dX9_mergeNextInto_66 rfl ?_
    refine j_bipush C bp_6 dX9_mergeNextInto_67 ?_
    refine j_icmp_ge C (tgt := 91) (by decide) dX9_mergeNextInto_69 (fun h7 => ?_) (fun h7 => ?_)
    · replace hf := it_t h7 hf
      cases hf
      exact j_vret C dX9_mergeNextInto_91
    · replace hf := it_f h7 hf
      refine j_aload_n C dX9_mergeNextInto_72 rfl ?_
      refine j_aload_n C dX9_mergeNextInto_73 rfl ?_
      refine gf_X9_7 C dX9_mergeNextInto_74 ?_
      refine j_bipush C bp_17 dX9_mergeNextInto_77 ?_
      replace hf := ld_s hf
      obtain ⟨v8, h9, e_v8, hf⟩ := hf
      refine aLM_1 C h9 e_v8 dX9_mergeNextInto_79 ?_
      refine j_iload_n C dX9_mergeNextInto_80 rfl ?_
      refine j_iconst C ic_0 dX9_mergeNextInto_81 ?_
      replace hf := bd hf
      obtain ⟨v10, h11, hf⟩ := hf
      refine j_callV C cl_X9_19 (c_X9_set h11) ⟨Nat.le_of_ble_eq_true rfl, Nat.le_of_ble_eq_true rfl⟩ ⟨Nat.zero_le _, Nat.zero_le _⟩ (q0 := 0) rfl rfl rfl rfl (Nat.le_of_ble_eq_true rfl) rfl rfl wM_fst dX9_mergeNextInto_82 ?_
      refine j_iinc C (xs' := [some (.ref (b 0)), none, some (.int (x2 + (1 : Int32)))]) dX9_mergeNextInto_85 rfl (ii_1 _) rfl rfl ?_
      refine j_goto C (tgt := 66) (by decide) dX9_mergeNextInto_88 ?_
      exact hk66 _ _ _ hf
set_option maxRecDepth 100000 in
set_option maxHeartbeats 4000000 in
theorem w_X9_mergeNextInto_11 {p : Program} {l : Launch} {e : Env} {s_ : State} {m : MethodId} {args : Array Value} {below : List Frame} {meth : Method} {c : Code} {D : va_G} {cI cS : ClassId} {A : Nat → Prop} {b : Nat → Nat} {rest : va_W} {P : Nat → Int32} {E : Nat → Int32} {n : Int32} {hs : Int64} (C : cx p s_ m args meth c cX9_mergeNextInto 3 RX9 none D cI cS)  : ∀ (n_ : Nat) (s : Nat → Int32) (x2 : Int32) (r : (Nat → Int32)), f_X9_mergeNextInto_11  n_ s x2 = some r → jG p l e (rmF 1 23) s_ m args below meth c 3 D A (MQ below (QW D A (wM b cI r P E n hs rest) none) args s_ 0 0 A) (wM b cI s P E n hs rest) [some (.ref (b 0)), none, some (.int x2)] 11 [] := by
  intro n_
  induction n_ with
  | zero =>
    intro s x2 r hf
    rw [f_X9_mergeNextInto_11] at hf
    cases hf
  | succ n_ hk11 =>
    intro s x2 r hf
    rw [f_X9_mergeNextInto_11] at hf
    refine j_iload_n C dX9_mergeNextInto_11 rfl ?_
    refine j_bipush C bp_6 dX9_mergeNextInto_12 ?_
    refine j_iadd C dX9_mergeNextInto_14 ?_
    refine j_sipush C sp_171 dX9_mergeNextInto_15 ?_
    refine j_bipush C bp_6 dX9_mergeNextInto_18 ?_
    refine j_aload_n C dX9_mergeNextInto_20 rfl ?_
    refine gf_X9_7 C dX9_mergeNextInto_21 ?_
    refine j_bipush C bp_17 dX9_mergeNextInto_24 ?_
    replace hf := ld_s hf
    obtain ⟨v1, h2, e_v1, hf⟩ := hf
    refine aLM_1 C h2 e_v1 dX9_mergeNextInto_26 ?_
    refine j_imul C dX9_mergeNextInto_27 ?_
    refine j_iadd C dX9_mergeNextInto_28 ?_
    refine j_icmp_ge C (tgt := 53) (by decide) dX9_mergeNextInto_29 (fun h3 => ?_) (fun h3 => ?_)
    · replace hf := it_t h3 hf
      refine j_aload_n C dX9_mergeNextInto_53 rfl ?_
      refine gf_X9_7 C dX9_mergeNextInto_54 ?_
      refine j_bipush C bp_17 dX9_mergeNextInto_57 ?_
      refine j_dup2 C dX9_mergeNextInto_59 rfl rfl ?_
      replace hf := ld_s hf
      obtain ⟨v4, h5, e_v4, hf⟩ := hf
      refine aLM_1 C h5 e_v4 dX9_mergeNextInto_60 ?_
      refine j_iconst C ic_1 dX9_mergeNextInto_61 ?_
      refine j_isub C dX9_mergeNextInto_62 ?_
      replace hf := sd_s hf
      obtain ⟨h6, hf⟩ := hf
      refine aSM_1 C h6 dX9_mergeNextInto_63 ?_
      refine j_iconst C ic_0 dX9_mergeNextInto_64 ?_
      refine j_istore_n C (xs' := [some (.ref (b 0)), none, some (.int (0 : Int32))]) dX9_mergeNextInto_65 rfl rfl ?_
      exact w_X9_mergeNextInto_66 C  _ _ _ _ hf
    · replace hf := it_f h3 hf
      refine j_aload_n C dX9_mergeNextInto_32 rfl ?_
      refine gf_X9_7 C dX9_mergeNextInto_33 ?_
      refine j_iload_n C dX9_mergeNextInto_36 rfl ?_
      refine j_aload_n C dX9_mergeNextInto_37 rfl ?_
      refine gf_X9_7 C dX9_mergeNextInto_38 ?_
      refine j_iload_n C dX9_mergeNextInto_41 rfl ?_
      refine j_bipush C bp_6 dX9_mergeNextInto_42 ?_
      refine j_iadd C dX9_mergeNextInto_44 ?_
      replace hf := ld_s hf
      obtain ⟨v12, h13, e_v12, hf⟩ := hf
      refine aLM_1 C h13 e_v12 dX9_mergeNextInto_45 ?_
      replace hf := sd_s hf
      obtain ⟨h14, hf⟩ := hf
      refine aSM_1 C h14 dX9_mergeNextInto_46 ?_
      refine j_iinc C (xs' := [some (.ref (b 0)), none, some (.int (x2 + (1 : Int32)))]) dX9_mergeNextInto_47 rfl (ii_1 _) rfl rfl ?_
      refine j_goto C (tgt := 11) (by decide) dX9_mergeNextInto_50 ?_
      exact hk11 _ _ _ hf
set_option maxRecDepth 100000 in
set_option maxHeartbeats 4000000 in
theorem c_X9_mergeNextInto {l : Launch} {D : va_G} {cI cS : ClassId} {A : Nat → Prop} {b : Nat → Nat} {rest : va_W} {P : Nat → Int32} {E : Nat → Int32} {n : Int32} {hs : Int64} {s : Nat → Int32} {x1 : Int32} {r : (Nat → Int32)} (hf : f_X9_mergeNextInto s x1 = some r) : CT l yX9_mergeNextInto cX9_mergeNextInto 3 none (rmF 1 23) D cI cS A [.ref (b 0), .int x1] (wM b cI s P E n hs rest) (wM b cI r P E n hs rest) none := by
  refine CT_of (own := RX9) (xs := [some (.ref (b 0)), some (.int x1), none]) (by decide) rfl (Nat.le_of_ble_eq_true rfl) rfl ?_
  intro p e s_ m below meth c C
  unfold f_X9_mergeNextInto at hf
  refine j_sipush C sp_171 dX9_mergeNextInto_0 ?_
  refine j_bipush C bp_6 dX9_mergeNextInto_3 ?_
  refine j_iload_n C dX9_mergeNextInto_5 rfl ?_
  refine j_iconst C ic_1 dX9_mergeNextInto_6 ?_
  refine j_iadd C dX9_mergeNextInto_7 ?_
  refine j_imul C dX9_mergeNextInto_8 ?_
  refine j_iadd C dX9_mergeNextInto_9 ?_
  refine j_istore_n C (xs' := [some (.ref (b 0)), some (.int x1), some (.int ((171 : Int32) + ((6 : Int32) * (x1 + (1 : Int32)))))]) dX9_mergeNextInto_10 rfl rfl ?_
  refine j_weak [true, false, true] rfl ?_
  exact w_X9_mergeNextInto_11 C  _ _ _ _ hf
set_option maxRecDepth 100000 in
set_option maxHeartbeats 4000000 in
theorem c_X9_learn {l : Launch} {D : va_G} {cI cS : ClassId} {A : Nat → Prop} {b : Nat → Nat} {rest : va_W} {P : Nat → Int32} {E : Nat → Int32} {n : Int32} {hs : Int64} {s : Nat → Int32} {x1 : Int32} {x2 : Int32} {x3 : Int32} {r : (Nat → Int32)} (hf : f_X9_learn s x1 x2 x3 = some r) : CT l yX9_learn cX9_learn 4 none (rmF 5 114) D cI cS A [.ref (b 0), .int x1, .int x2, .int x3] (wM b cI s P E n hs rest) (wM b cI r P E n hs rest) none := by
  refine CT_of (own := RX9) (xs := [some (.ref (b 0)), some (.int x1), some (.int x2), some (.int x3)]) (by decide) rfl (Nat.le_of_ble_eq_true rfl) rfl ?_
  intro p e s_ m below meth c C
  unfold f_X9_learn at hf
  refine j_aload_n C dX9_learn_0 rfl ?_
  refine j_iload_n C dX9_learn_1 rfl ?_
  refine j_iconst C ic_3 dX9_learn_2 ?_
  refine j_iload_n C dX9_learn_3 rfl ?_
  replace hf := bd hf
  obtain ⟨v1, h2, hf⟩ := hf
  refine j_callV C cl_X9_19 (c_X9_set h2) ⟨Nat.le_of_ble_eq_true rfl, Nat.le_of_ble_eq_true rfl⟩ ⟨Nat.zero_le _, Nat.zero_le _⟩ (q0 := 0) rfl rfl rfl rfl (Nat.le_of_ble_eq_true rfl) rfl rfl wM_fst dX9_learn_4 ?_
  refine j_aload_n C dX9_learn_7 rfl ?_
  refine j_iload_n C dX9_learn_8 rfl ?_
  refine j_iconst C ic_4 dX9_learn_9 ?_
  refine j_iconst C ic_1 dX9_learn_10 ?_
  refine j_aload_n C dX9_learn_11 rfl ?_
  refine j_iload_n C dX9_learn_12 rfl ?_
  refine j_iconst C ic_0 dX9_learn_13 ?_
  replace hf := bd hf
  obtain ⟨v3, h4, hf⟩ := hf
  refine j_callV C cl_X9_79 (c_X9_all h4) ⟨Nat.le_of_ble_eq_true rfl, Nat.le_of_ble_eq_true rfl⟩ ⟨Nat.zero_le _, Nat.zero_le _⟩ (q0 := 0) rfl rfl rfl rfl (Nat.le_of_ble_eq_true rfl) rfl rfl rfl dX9_learn_14 ?_
  refine j_aload_n C dX9_learn_17 rfl ?_
  refine gf_X9_7 C dX9_learn_18 ?_
  refine j_iconst C ic_5 dX9_learn_21 ?_
  replace hf := ld_s hf
  obtain ⟨v5, h6, e_v5, hf⟩ := hf
  refine aLM_1 C h6 e_v5 dX9_learn_22 ?_
  replace hf := dz_s hf
  obtain ⟨h7, hf⟩ := hf
  refine j_idiv C dX9_learn_23 h7 ?_
  refine j_iadd C dX9_learn_24 ?_
  replace hf := bd hf
  obtain ⟨v8, h9, hf⟩ := hf
  refine j_callV C cl_X9_19 (c_X9_set h9) ⟨Nat.le_of_ble_eq_true rfl, Nat.le_of_ble_eq_true rfl⟩ ⟨Nat.zero_le _, Nat.zero_le _⟩ (q0 := 0) rfl rfl rfl rfl (Nat.le_of_ble_eq_true rfl) rfl rfl wM_fst dX9_learn_25 ?_
  refine j_aload_n C dX9_learn_28 rfl ?_
  refine j_iload_n C dX9_learn_29 rfl ?_
  refine j_iconst C ic_5 dX9_learn_30 ?_
  refine j_iload_n C dX9_learn_31 rfl ?_
  replace hf := bd hf
  obtain ⟨v10, h11, hf⟩ := hf
  refine j_callV C cl_X9_19 (c_X9_set h11) ⟨Nat.le_of_ble_eq_true rfl, Nat.le_of_ble_eq_true rfl⟩ ⟨Nat.zero_le _, Nat.zero_le _⟩ (q0 := 0) rfl rfl rfl rfl (Nat.le_of_ble_eq_true rfl) rfl rfl wM_fst dX9_learn_32 ?_
  cases hf
  exact j_vret C dX9_learn_35
set_option maxRecDepth 100000 in
set_option maxHeartbeats 4000000 in
theorem c_X9_forgetLearner {l : Launch} {D : va_G} {cI cS : ClassId} {A : Nat → Prop} {b : Nat → Nat} {rest : va_W} {P : Nat → Int32} {E : Nat → Int32} {n : Int32} {hs : Int64} {s : Nat → Int32} {x1 : Int32} {r : (Nat → Int32)} (hf : f_X9_forgetLearner s x1 = some r) : CT l yX9_forgetLearner cX9_forgetLearner 2 none (rmF 1 23) D cI cS A [.ref (b 0), .int x1] (wM b cI s P E n hs rest) (wM b cI r P E n hs rest) none := by
  refine CT_of (own := RX9) (xs := [some (.ref (b 0)), some (.int x1)]) (by decide) rfl (Nat.le_of_ble_eq_true rfl) rfl ?_
  intro p e s_ m below meth c C
  unfold f_X9_forgetLearner at hf
  refine j_aload_n C dX9_forgetLearner_0 rfl ?_
  refine j_iload_n C dX9_forgetLearner_1 rfl ?_
  refine j_iconst C ic_3 dX9_forgetLearner_2 ?_
  refine j_iconst C ic_m1 dX9_forgetLearner_3 ?_
  replace hf := bd hf
  obtain ⟨v1, h2, hf⟩ := hf
  refine j_callV C cl_X9_19 (c_X9_set h2) ⟨Nat.le_of_ble_eq_true rfl, Nat.le_of_ble_eq_true rfl⟩ ⟨Nat.zero_le _, Nat.zero_le _⟩ (q0 := 0) rfl rfl rfl rfl (Nat.le_of_ble_eq_true rfl) rfl rfl wM_fst dX9_forgetLearner_4 ?_
  refine j_aload_n C dX9_forgetLearner_7 rfl ?_
  refine j_iload_n C dX9_forgetLearner_8 rfl ?_
  refine j_iconst C ic_4 dX9_forgetLearner_9 ?_
  refine j_iconst C ic_0 dX9_forgetLearner_10 ?_
  replace hf := bd hf
  obtain ⟨v3, h4, hf⟩ := hf
  refine j_callV C cl_X9_19 (c_X9_set h4) ⟨Nat.le_of_ble_eq_true rfl, Nat.le_of_ble_eq_true rfl⟩ ⟨Nat.zero_le _, Nat.zero_le _⟩ (q0 := 0) rfl rfl rfl rfl (Nat.le_of_ble_eq_true rfl) rfl rfl wM_fst dX9_forgetLearner_11 ?_
  refine j_aload_n C dX9_forgetLearner_14 rfl ?_
  refine j_iload_n C dX9_forgetLearner_15 rfl ?_
  refine j_iconst C ic_5 dX9_forgetLearner_16 ?_
  refine j_iconst C ic_m1 dX9_forgetLearner_17 ?_
  replace hf := bd hf
  obtain ⟨v5, h6, hf⟩ := hf
  refine j_callV C cl_X9_19 (c_X9_set h6) ⟨Nat.le_of_ble_eq_true rfl, Nat.le_of_ble_eq_true rfl⟩ ⟨Nat.zero_le _, Nat.zero_le _⟩ (q0 := 0) rfl rfl rfl rfl (Nat.le_of_ble_eq_true rfl) rfl rfl wM_fst dX9_forgetLearner_18 ?_
  cases hf
  exact j_vret C dX9_forgetLearner_21
set_option maxRecDepth 100000 in
set_option maxHeartbeats 4000000 in
theorem w_X9_progress_100 {p : Program} {l : Launch} {e : Env} {s_ : State} {m : MethodId} {args : Array Value} {below : List Frame} {meth : Method} {c : Code} {D : va_G} {cI cS : ClassId} {A : Nat → Prop} {b : Nat → Nat} {rest : va_W} {P : Nat → Int32} {E : Nat → Int32} {n : Int32} {hs : Int64} (C : cx p s_ m args meth c cX9_progress 5 RX9 none D cI cS)  : ∀ (s : Nat → Int32) (x1 : Int32) (x3 : Int32) (y0 : Int32) (y1 : Int32) (y2 : Int32) (r : (Nat → Int32)), f_X9_progress_100  s x1 x3 y0 y1 y2 = some r → jG p l e (rmF 4 89) s_ m args below meth c 5 D A (MQ below (QW D A (wM b cI r P E n hs rest) none) args s_ 0 0 A) (wM b cI s P E n hs rest) [some (.ref (b 0)), some (.int x1), none, some (.int x3), none] 100 [.int y0, .int y1, .int y2, .ref (b 0)] := by
  intro s x1 x3 y0 y1 y2 r hf
  unfold f_X9_progress_100 at hf
  replace hf := bd hf
  obtain ⟨v24, h25, hf⟩ := hf
  refine j_callV C cl_X9_19 (c_X9_set h25) ⟨Nat.le_of_ble_eq_true rfl, Nat.le_of_ble_eq_true rfl⟩ ⟨Nat.zero_le _, Nat.zero_le _⟩ (q0 := 0) rfl rfl rfl rfl (Nat.le_of_ble_eq_true rfl) rfl rfl wM_fst dX9_progress_100 ?_
  refine j_iload_n C dX9_progress_103 rfl ?_
  refine j_iconst C ic_m1 dX9_progress_104 ?_
  refine j_icmp_eq C (tgt := 123) (by decide) dX9_progress_105 (fun h26 => ?_) (fun h26 => ?_)
  · replace hf := it_t h26 hf
    cases hf
    exact j_vret C dX9_progress_123
  · replace hf := it_f h26 hf
    refine j_aload_n C dX9_progress_108 rfl ?_
    refine j_iload_n C dX9_progress_109 rfl ?_
    refine j_iconst C ic_2 dX9_progress_110 ?_
    replace hf := bd hf
    obtain ⟨v27, h28, hf⟩ := hf
    refine j_callV C cl_X9_39 (c_X9_of h28) ⟨Nat.le_of_ble_eq_true rfl, Nat.le_of_ble_eq_true rfl⟩ ⟨Nat.zero_le _, Nat.zero_le _⟩ (q0 := 0) rfl rfl rfl rfl (Nat.le_of_ble_eq_true rfl) rfl rfl rfl dX9_progress_111 ?_
    refine j_iload_n C dX9_progress_114 rfl ?_
    refine j_icmp_ne C (tgt := 123) (by decide) dX9_progress_115 (fun h29 => ?_) (fun h29 => ?_)
    · replace hf := it_f h29 hf
      cases hf
      exact j_vret C dX9_progress_123
    · replace hf := it_t h29 hf
      refine j_aload_n C dX9_progress_118 rfl ?_
      refine j_iload_n C dX9_progress_119 rfl ?_
      replace hf := bd hf
      obtain ⟨v30, h31, hf⟩ := hf
      refine j_callV C cl_X9_86 (c_X9_elect h31) ⟨Nat.le_of_ble_eq_true rfl, Nat.le_of_ble_eq_true rfl⟩ ⟨Nat.zero_le _, Nat.zero_le _⟩ (q0 := 0) rfl rfl rfl rfl (Nat.le_of_ble_eq_true rfl) rfl rfl wM_fst dX9_progress_120 ?_
      cases hf
      exact j_vret C dX9_progress_123
set_option maxRecDepth 100000 in
set_option maxHeartbeats 4000000 in
theorem c_X9_progress {l : Launch} {D : va_G} {cI cS : ClassId} {A : Nat → Prop} {b : Nat → Nat} {rest : va_W} {P : Nat → Int32} {E : Nat → Int32} {n : Int32} {hs : Int64} {s : Nat → Int32} {x1 : Int32} {r : (Nat → Int32)} (hf : f_X9_progress s x1 = some r) : CT l yX9_progress cX9_progress 5 none (rmF 4 89) D cI cS A [.ref (b 0), .int x1] (wM b cI s P E n hs rest) (wM b cI r P E n hs rest) none := by
  refine CT_of (own := RX9) (xs := [some (.ref (b 0)), some (.int x1), none, none, none]) (by decide) rfl (Nat.le_of_ble_eq_true rfl) rfl ?_
  intro p e s_ m below meth c C
  unfold f_X9_progress at hf
  refine j_aload_n C dX9_progress_0 rfl ?_
  refine j_iload_n C dX9_progress_1 rfl ?_
  refine j_iconst C ic_3 dX9_progress_2 ?_
  replace hf := bd hf
  obtain ⟨v1, h2, hf⟩ := hf
  refine j_callV C cl_X9_39 (c_X9_of h2) ⟨Nat.le_of_ble_eq_true rfl, Nat.le_of_ble_eq_true rfl⟩ ⟨Nat.zero_le _, Nat.zero_le _⟩ (q0 := 0) rfl rfl rfl rfl (Nat.le_of_ble_eq_true rfl) rfl rfl rfl dX9_progress_3 ?_
  refine j_istore_n C (xs' := [some (.ref (b 0)), some (.int x1), some (.int v1), none, none]) dX9_progress_6 rfl rfl ?_
  refine j_iload_n C dX9_progress_7 rfl ?_
  refine j_iconst C ic_m1 dX9_progress_8 ?_
  refine j_icmp_eq C (tgt := 30) (by decide) dX9_progress_9 (fun h3 => ?_) (fun h3 => ?_)
  · replace hf := it_t h3 hf
    cases hf
    exact j_vret C dX9_progress_30
  · replace hf := it_f h3 hf
    refine j_aload_n C dX9_progress_12 rfl ?_
    refine j_iload_n C dX9_progress_13 rfl ?_
    replace hf := bd hf
    obtain ⟨v4, h5, hf⟩ := hf
    refine j_callV C cl_X9_35 (c_X9_isUp h5) ⟨Nat.le_of_ble_eq_true rfl, Nat.le_of_ble_eq_true rfl⟩ ⟨Nat.zero_le _, Nat.zero_le _⟩ (q0 := 0) rfl rfl rfl rfl (Nat.le_of_ble_eq_true rfl) rfl rfl rfl dX9_progress_14 ?_
    refine j_if_eq C (tgt := 30) (by decide) dX9_progress_17 (fun h6 => ?_) (fun h6 => ?_)
    · replace hf := it_t h6 hf
      cases hf
      exact j_vret C dX9_progress_30
    · replace hf := it_f h6 hf
      refine j_aload_n C dX9_progress_20 rfl ?_
      refine j_iload_n C dX9_progress_21 rfl ?_
      refine j_iconst C ic_2 dX9_progress_22 ?_
      replace hf := bd hf
      obtain ⟨v7, h8, hf⟩ := hf
      refine j_callV C cl_X9_39 (c_X9_of h8) ⟨Nat.le_of_ble_eq_true rfl, Nat.le_of_ble_eq_true rfl⟩ ⟨Nat.zero_le _, Nat.zero_le _⟩ (q0 := 0) rfl rfl rfl rfl (Nat.le_of_ble_eq_true rfl) rfl rfl rfl dX9_progress_23 ?_
      refine j_iconst C ic_m1 dX9_progress_26 ?_
      refine j_icmp_ne C (tgt := 31) (by decide) dX9_progress_27 (fun h9 => ?_) (fun h9 => ?_)
      · replace hf := it_f h9 hf
        refine j_aload_n C dX9_progress_31 rfl ?_
        refine j_iload_n C dX9_progress_32 rfl ?_
        refine j_iconst C ic_4 dX9_progress_33 ?_
        refine j_aload_n C dX9_progress_34 rfl ?_
        refine j_iload_n C dX9_progress_35 rfl ?_
        refine j_iconst C ic_4 dX9_progress_36 ?_
        replace hf := bd hf
        obtain ⟨v10, h11, hf⟩ := hf
        refine j_callV C cl_X9_39 (c_X9_of h11) ⟨Nat.le_of_ble_eq_true rfl, Nat.le_of_ble_eq_true rfl⟩ ⟨Nat.zero_le _, Nat.zero_le _⟩ (q0 := 0) rfl rfl rfl rfl (Nat.le_of_ble_eq_true rfl) rfl rfl rfl dX9_progress_37 ?_
        refine j_iconst C ic_1 dX9_progress_40 ?_
        refine j_isub C dX9_progress_41 ?_
        replace hf := bd hf
        obtain ⟨v12, h13, hf⟩ := hf
        refine j_callV C cl_X9_19 (c_X9_set h13) ⟨Nat.le_of_ble_eq_true rfl, Nat.le_of_ble_eq_true rfl⟩ ⟨Nat.zero_le _, Nat.zero_le _⟩ (q0 := 0) rfl rfl rfl rfl (Nat.le_of_ble_eq_true rfl) rfl rfl wM_fst dX9_progress_42 ?_
        refine j_aload_n C dX9_progress_45 rfl ?_
        refine j_iload_n C dX9_progress_46 rfl ?_
        refine j_iconst C ic_4 dX9_progress_47 ?_
        replace hf := bd hf
        obtain ⟨v14, h15, hf⟩ := hf
        refine j_callV C cl_X9_39 (c_X9_of h15) ⟨Nat.le_of_ble_eq_true rfl, Nat.le_of_ble_eq_true rfl⟩ ⟨Nat.zero_le _, Nat.zero_le _⟩ (q0 := 0) rfl rfl rfl rfl (Nat.le_of_ble_eq_true rfl) rfl rfl rfl dX9_progress_48 ?_
        refine j_if_le C (tgt := 55) (by decide) dX9_progress_51 (fun h16 => ?_) (fun h16 => ?_)
        · replace hf := it_t h16 hf
          refine j_aload_n C dX9_progress_55 rfl ?_
          refine j_iload_n C dX9_progress_56 rfl ?_
          refine j_iconst C ic_5 dX9_progress_57 ?_
          replace hf := bd hf
          obtain ⟨v17, h18, hf⟩ := hf
          refine j_callV C cl_X9_39 (c_X9_of h18) ⟨Nat.le_of_ble_eq_true rfl, Nat.le_of_ble_eq_true rfl⟩ ⟨Nat.zero_le _, Nat.zero_le _⟩ (q0 := 0) rfl rfl rfl rfl (Nat.le_of_ble_eq_true rfl) rfl rfl rfl dX9_progress_58 ?_
          refine j_istore_n C (xs' := [some (.ref (b 0)), some (.int x1), some (.int v1), some (.int v17), none]) dX9_progress_61 rfl rfl ?_
          refine j_aload_n C dX9_progress_62 rfl ?_
          refine j_iload_n C dX9_progress_63 rfl ?_
          replace hf := bd hf
          obtain ⟨v19, h20, hf⟩ := hf
          refine j_callV C cl_X9_82 (c_X9_forgetLearner h20) ⟨Nat.le_of_ble_eq_true rfl, Nat.le_of_ble_eq_true rfl⟩ ⟨Nat.zero_le _, Nat.zero_le _⟩ (q0 := 0) rfl rfl rfl rfl (Nat.le_of_ble_eq_true rfl) rfl rfl wM_fst dX9_progress_64 ?_
          refine j_aload_n C dX9_progress_67 rfl ?_
          refine j_iload_n C dX9_progress_68 rfl ?_
          refine j_iconst C ic_1 dX9_progress_69 ?_
          replace hf := bd hf
          obtain ⟨v21, h22, hf⟩ := hf
          refine j_callV C cl_X9_39 (c_X9_of h22) ⟨Nat.le_of_ble_eq_true rfl, Nat.le_of_ble_eq_true rfl⟩ ⟨Nat.zero_le _, Nat.zero_le _⟩ (q0 := 0) rfl rfl rfl rfl (Nat.le_of_ble_eq_true rfl) rfl rfl rfl dX9_progress_70 ?_
          refine j_iconst C ic_1 dX9_progress_73 ?_
          refine j_iload_n C dX9_progress_74 rfl ?_
          refine j_ishl C dX9_progress_75 ?_
          refine j_ior C dX9_progress_76 ?_
          refine j_istore C (xs' := [some (.ref (b 0)), some (.int x1), some (.int v1), some (.int v17), some (.int (v21 ||| ((1 : Int32) <<< (v1 &&& 31))))]) dX9_progress_77 rfl rfl ?_
          refine j_aload_n C dX9_progress_79 rfl ?_
          refine j_iload_n C dX9_progress_80 rfl ?_
          refine j_iconst C ic_1 dX9_progress_81 ?_
          refine j_iload_n C dX9_progress_82 rfl ?_
          refine j_iconst C ic_m1 dX9_progress_83 ?_
          refine j_icmp_ne C (tgt := 92) (by decide) dX9_progress_84 (fun h23 => ?_) (fun h23 => ?_)
          · replace hf := it_f h23 hf
            refine j_iload C dX9_progress_92 rfl ?_
            refine j_iconst C ic_1 dX9_progress_94 ?_
            refine j_iload_n C dX9_progress_95 rfl ?_
            refine j_ishl C dX9_progress_96 ?_
            refine j_iconst C ic_m1 dX9_progress_97 ?_
            refine j_ixor C dX9_progress_98 ?_
            refine j_iand C dX9_progress_99 ?_
            refine j_weak [true, true, false, true, false] rfl ?_
            exact w_X9_progress_100 C  _ _ _ _ _ _ _ hf
          · replace hf := it_t h23 hf
            refine j_iload C dX9_progress_87 rfl ?_
            refine j_goto C (tgt := 100) (by decide) dX9_progress_89 ?_
            refine j_weak [true, true, false, true, false] rfl ?_
            exact w_X9_progress_100 C  _ _ _ _ _ _ _ hf
        · replace hf := it_f h16 hf
          cases hf
          exact j_vret C dX9_progress_54
      · replace hf := it_t h9 hf
        cases hf
        exact j_vret C dX9_progress_30
set_option maxRecDepth 100000 in
set_option maxHeartbeats 4000000 in
theorem w_X9_create_19 {p : Program} {l : Launch} {e : Env} {s_ : State} {m : MethodId} {args : Array Value} {below : List Frame} {meth : Method} {c : Code} {D : va_G} {cI cS : ClassId} {A : Nat → Prop} {b : Nat → Nat} {rest : va_W} {P : Nat → Int32} {E : Nat → Int32} {n : Int32} {hs : Int64} (C : cx p s_ m args meth c cX9_create 3 RX9 (some .boolean) D cI cS)  : ∀ (s : Nat → Int32) (x1 : Int32) (y0 : Int32) (r : Int32 × (Nat → Int32)), f_X9_create_19  s x1 y0 = some r → jG p l e (rmF 4 89) s_ m args below meth c 3 D A (MQ below (QW D A (wM b cI r.2 P E n hs rest) (some (.int r.1))) args s_ 0 0 A) (wM b cI s P E n hs rest) [some (.ref (b 0)), some (.int x1), none] 19 [.int y0] := by
  intro s x1 y0 r hf
  unfold f_X9_create_19 at hf
  refine j_istore_n C (xs' := [some (.ref (b 0)), some (.int x1), some (.int y0)]) dX9_create_19 rfl rfl ?_
  refine j_iload_n C dX9_create_20 rfl ?_
  refine j_iconst C ic_m1 dX9_create_21 ?_
  refine j_icmp_ne C (tgt := 27) (by decide) dX9_create_22 (fun h4 => ?_) (fun h4 => ?_)
  · replace hf := it_f h4 hf
    refine j_aload_n C dX9_create_27 rfl ?_
    refine j_iload_n C dX9_create_28 rfl ?_
    refine j_iconst C ic_1 dX9_create_29 ?_
    refine j_iconst C ic_1 dX9_create_30 ?_
    refine j_iload_n C dX9_create_31 rfl ?_
    refine j_ishl C dX9_create_32 ?_
    replace hf := bd hf
    obtain ⟨v5, h6, hf⟩ := hf
    refine j_callV C cl_X9_19 (c_X9_set h6) ⟨Nat.le_of_ble_eq_true rfl, Nat.le_of_ble_eq_true rfl⟩ ⟨Nat.zero_le _, Nat.zero_le _⟩ (q0 := 0) rfl rfl rfl rfl (Nat.le_of_ble_eq_true rfl) rfl rfl wM_fst dX9_create_33 ?_
    refine j_aload_n C dX9_create_36 rfl ?_
    refine j_iload_n C dX9_create_37 rfl ?_
    replace hf := bd hf
    obtain ⟨v7, h8, hf⟩ := hf
    refine j_callV C cl_X9_86 (c_X9_elect h8) ⟨Nat.le_of_ble_eq_true rfl, Nat.le_of_ble_eq_true rfl⟩ ⟨Nat.zero_le _, Nat.zero_le _⟩ (q0 := 0) rfl rfl rfl rfl (Nat.le_of_ble_eq_true rfl) rfl rfl wM_fst dX9_create_38 ?_
    refine j_iconst C ic_1 dX9_create_41 ?_
    cases hf
    exact j_zret C zc_1 dX9_create_42
  · replace hf := it_t h4 hf
    refine j_iconst C ic_0 dX9_create_25 ?_
    cases hf
    exact j_zret C zc_0 dX9_create_26
set_option maxRecDepth 100000 in
set_option maxHeartbeats 4000000 in
theorem c_X9_create {l : Launch} {D : va_G} {cI cS : ClassId} {A : Nat → Prop} {b : Nat → Nat} {rest : va_W} {P : Nat → Int32} {E : Nat → Int32} {n : Int32} {hs : Int64} {s : Nat → Int32} {x1 : Int32} {r : Int32 × (Nat → Int32)} (hf : f_X9_create s x1 = some r) : CT l yX9_create cX9_create 3 (some .boolean) (rmF 4 89) D cI cS A [.ref (b 0), .int x1] (wM b cI s P E n hs rest) (wM b cI r.2 P E n hs rest) (some (.int r.1)) := by
  refine CT_of (own := RX9) (xs := [some (.ref (b 0)), some (.int x1), none]) (by decide) rfl (Nat.le_of_ble_eq_true rfl) rfl ?_
  intro p e s_ m below meth c C
  unfold f_X9_create at hf
  refine j_aload_n C dX9_create_0 rfl ?_
  refine j_iload_n C dX9_create_1 rfl ?_
  refine j_iconst C ic_1 dX9_create_2 ?_
  replace hf := bd hf
  obtain ⟨v1, h2, hf⟩ := hf
  refine j_callV C cl_X9_39 (c_X9_of h2) ⟨Nat.le_of_ble_eq_true rfl, Nat.le_of_ble_eq_true rfl⟩ ⟨Nat.zero_le _, Nat.zero_le _⟩ (q0 := 0) rfl rfl rfl rfl (Nat.le_of_ble_eq_true rfl) rfl rfl rfl dX9_create_3 ?_
  refine j_if_ne C (tgt := 18) (by decide) dX9_create_6 (fun h3 => ?_) (fun h3 => ?_)
  · replace hf := it_f h3 hf
    refine j_iconst C ic_m1 dX9_create_18 ?_
    exact w_X9_create_19 C  _ _ _ _ hf
  · replace hf := it_t h3 hf
    refine j_aload_n C dX9_create_9 rfl ?_
    refine j_iload_n C dX9_create_10 rfl ?_
    refine j_iconst C ic_m1 dX9_create_11 ?_
    replace hf := bd hf
    obtain ⟨v9, h10, hf⟩ := hf
    refine j_callV C cl_X9_89 (c_X9_choose h10) ⟨Nat.le_of_ble_eq_true rfl, Nat.le_of_ble_eq_true rfl⟩ ⟨Nat.zero_le _, Nat.zero_le _⟩ (q0 := 0) rfl rfl rfl rfl (Nat.le_of_ble_eq_true rfl) rfl rfl rfl dX9_create_12 ?_
    refine j_goto C (tgt := 19) (by decide) dX9_create_15 ?_
    exact w_X9_create_19 C  _ _ _ _ hf
set_option maxRecDepth 100000 in
set_option maxHeartbeats 4000000 in
theorem c_X9_isWhole {l : Launch} {D : va_G} {cI cS : ClassId} {A : Nat → Prop} {b : Nat → Nat} {rest : va_W} {P : Nat → Int32} {E : Nat → Int32} {n : Int32} {hs : Int64} {s : Nat → Int32} {x1 : Int32} {r : Int32} (hf : f_X9_isWhole s x1 = some r) : CT l yX9_isWhole cX9_isWhole 2 (some .boolean) (rmF 3 64) D cI cS A [.ref (b 0), .int x1] (wM b cI s P E n hs rest) (wM b cI s P E n hs rest) (some (.int r)) := by
  refine CT_of (own := RX9) (xs := [some (.ref (b 0)), some (.int x1)]) (by decide) rfl (Nat.le_of_ble_eq_true rfl) rfl ?_
  intro p e s_ m below meth c C
  unfold f_X9_isWhole at hf
  refine j_aload_n C dX9_isWhole_0 rfl ?_
  refine j_iload_n C dX9_isWhole_1 rfl ?_
  replace hf := bd hf
  obtain ⟨v1, h2, hf⟩ := hf
  refine j_callV C cl_X9_54 (c_X9_available h2) ⟨Nat.le_of_ble_eq_true rfl, Nat.le_of_ble_eq_true rfl⟩ ⟨Nat.zero_le _, Nat.zero_le _⟩ (q0 := 0) rfl rfl rfl rfl (Nat.le_of_ble_eq_true rfl) rfl rfl rfl dX9_isWhole_2 ?_
  refine j_if_eq C (tgt := 38) (by decide) dX9_isWhole_5 (fun h3 => ?_) (fun h3 => ?_)
  · replace hf := it_t h3 hf
    refine j_iconst C ic_0 dX9_isWhole_38 ?_
    cases hf
    exact j_zret C zc_0 dX9_isWhole_39
  · replace hf := it_f h3 hf
    refine j_aload_n C dX9_isWhole_8 rfl ?_
    refine j_iload_n C dX9_isWhole_9 rfl ?_
    refine j_iconst C ic_1 dX9_isWhole_10 ?_
    replace hf := bd hf
    obtain ⟨v4, h5, hf⟩ := hf
    refine j_callV C cl_X9_39 (c_X9_of h5) ⟨Nat.le_of_ble_eq_true rfl, Nat.le_of_ble_eq_true rfl⟩ ⟨Nat.zero_le _, Nat.zero_le _⟩ (q0 := 0) rfl rfl rfl rfl (Nat.le_of_ble_eq_true rfl) rfl rfl rfl dX9_isWhole_11 ?_
    refine j_aload_n C dX9_isWhole_14 rfl ?_
    replace hf := bd hf
    obtain ⟨v6, h7, hf⟩ := hf
    refine j_callV C cl_X9_43 (c_X9_ups h7) ⟨Nat.le_of_ble_eq_true rfl, Nat.le_of_ble_eq_true rfl⟩ ⟨Nat.zero_le _, Nat.zero_le _⟩ (q0 := 0) rfl rfl rfl rfl (Nat.le_of_ble_eq_true rfl) rfl rfl rfl dX9_isWhole_15 ?_
    refine j_iconst C ic_m1 dX9_isWhole_18 ?_
    refine j_ixor C dX9_isWhole_19 ?_
    refine j_iand C dX9_isWhole_20 ?_
    refine j_if_ne C (tgt := 38) (by decide) dX9_isWhole_21 (fun h8 => ?_) (fun h8 => ?_)
    · replace hf := it_f h8 hf
      refine j_iconst C ic_0 dX9_isWhole_38 ?_
      cases hf
      exact j_zret C zc_0 dX9_isWhole_39
    · replace hf := it_t h8 hf
      refine j_aload_n C dX9_isWhole_24 rfl ?_
      refine j_iload_n C dX9_isWhole_25 rfl ?_
      refine j_iconst C ic_3 dX9_isWhole_26 ?_
      replace hf := bd hf
      obtain ⟨v9, h10, hf⟩ := hf
      refine j_callV C cl_X9_39 (c_X9_of h10) ⟨Nat.le_of_ble_eq_true rfl, Nat.le_of_ble_eq_true rfl⟩ ⟨Nat.zero_le _, Nat.zero_le _⟩ (q0 := 0) rfl rfl rfl rfl (Nat.le_of_ble_eq_true rfl) rfl rfl rfl dX9_isWhole_27 ?_
      refine j_iconst C ic_m1 dX9_isWhole_30 ?_
      refine j_icmp_ne C (tgt := 38) (by decide) dX9_isWhole_31 (fun h11 => ?_) (fun h11 => ?_)
      · replace hf := it_f h11 hf
        refine j_iconst C ic_0 dX9_isWhole_38 ?_
        cases hf
        exact j_zret C zc_0 dX9_isWhole_39
      · replace hf := it_t h11 hf
        refine j_iconst C ic_1 dX9_isWhole_34 ?_
        refine j_goto C (tgt := 39) (by decide) dX9_isWhole_35 ?_
        cases hf
        exact j_zret C zc_1 dX9_isWhole_39
set_option maxRecDepth 100000 in
set_option maxHeartbeats 4000000 in
theorem w_X9_repair_109 {p : Program} {l : Launch} {e : Env} {s_ : State} {m : MethodId} {args : Array Value} {below : List Frame} {meth : Method} {c : Code} {D : va_G} {cI cS : ClassId} {A : Nat → Prop} {b : Nat → Nat} {rest : va_W} {P : Nat → Int32} {E : Nat → Int32} {n : Int32} {hs : Int64} (C : cx p s_ m args meth c cX9_repair 5 RX9 (some .boolean) D cI cS)  : ∀ (s : Nat → Int32) (x4 : Int32) (r : Int32 × (Nat → Int32)), f_X9_repair_109  s x4 = some r → jG p l e (rmF 6 137) s_ m args below meth c 5 D A (MQ below (QW D A (wM b cI r.2 P E n hs rest) (some (.int r.1))) args s_ 0 0 A) (wM b cI s P E n hs rest) [none, none, none, none, some (.int x4)] 109 [] := by
  intro s x4 r hf
  unfold f_X9_repair_109 at hf
  refine j_iload C dX9_repair_109 rfl ?_
  refine j_iconst C ic_m1 dX9_repair_111 ?_
  refine j_icmp_eq C (tgt := 119) (by decide) dX9_repair_112 (fun h20 => ?_) (fun h20 => ?_)
  · replace hf := it_t h20 hf
    refine j_iconst C ic_0 dX9_repair_119 ?_
    cases hf
    exact j_zret C zc_0 dX9_repair_120
  · replace hf := it_f h20 hf
    refine j_iconst C ic_1 dX9_repair_115 ?_
    refine j_goto C (tgt := 120) (by decide) dX9_repair_116 ?_
    cases hf
    exact j_zret C zc_1 dX9_repair_120
set_option maxRecDepth 100000 in
set_option maxHeartbeats 4000000 in
theorem w_X9_repair_51 {p : Program} {l : Launch} {e : Env} {s_ : State} {m : MethodId} {args : Array Value} {below : List Frame} {meth : Method} {c : Code} {D : va_G} {cI cS : ClassId} {A : Nat → Prop} {b : Nat → Nat} {rest : va_W} {P : Nat → Int32} {E : Nat → Int32} {n : Int32} {hs : Int64} (C : cx p s_ m args meth c cX9_repair 5 RX9 (some .boolean) D cI cS)  : ∀ (n_ : Nat) (s : Nat → Int32) (x1 : Int32) (x2 : Int32) (x3 : Int32) (x4 : Int32) (r : Int32 × (Nat → Int32)), f_X9_repair_51  n_ s x1 x2 x3 x4 = some r → jG p l e (rmF 6 137) s_ m args below meth c 5 D A (MQ below (QW D A (wM b cI r.2 P E n hs rest) (some (.int r.1))) args s_ 0 0 A) (wM b cI s P E n hs rest) [some (.ref (b 0)), some (.int x1), some (.int x2), some (.int x3), some (.int x4)] 51 [] := by
  intro n_
  induction n_ with
  | zero =>
    intro s x1 x2 x3 x4 r hf
    rw [f_X9_repair_51] at hf
    cases hf
  | succ n_ hk51 =>
    intro s x1 x2 x3 x4 r hf
    rw [f_X9_repair_51] at hf
    refine j_iload C dX9_repair_51 rfl ?_
    refine j_if_lt C (tgt := 87) (by decide) dX9_repair_53 (fun h16 => ?_) (fun h16 => ?_)
    · replace hf := it_t h16 hf
      refine j_aload_n C dX9_repair_87 rfl ?_
      refine j_iload_n C dX9_repair_88 rfl ?_
      refine j_iload_n C dX9_repair_89 rfl ?_
      replace hf := bd hf
      obtain ⟨v17, h18, hf⟩ := hf
      refine j_callV C cl_X9_89 (c_X9_choose h18) ⟨Nat.le_of_ble_eq_true rfl, Nat.le_of_ble_eq_true rfl⟩ ⟨Nat.zero_le _, Nat.zero_le _⟩ (q0 := 0) rfl rfl rfl rfl (Nat.le_of_ble_eq_true rfl) rfl rfl rfl dX9_repair_90 ?_
      refine j_istore C (xs' := [some (.ref (b 0)), some (.int x1), some (.int x2), some (.int x3), some (.int v17)]) dX9_repair_93 rfl rfl ?_
      refine j_iload C dX9_repair_95 rfl ?_
      refine j_iconst C ic_m1 dX9_repair_97 ?_
      refine j_icmp_eq C (tgt := 109) (by decide) dX9_repair_98 (fun h19 => ?_) (fun h19 => ?_)
      · replace hf := it_t h19 hf
        refine j_weak [false, false, false, false, true] rfl ?_
        exact w_X9_repair_109 C  _ _ _ hf
      · replace hf := it_f h19 hf
        refine j_aload_n C dX9_repair_101 rfl ?_
        refine j_iload_n C dX9_repair_102 rfl ?_
        refine j_iload C dX9_repair_103 rfl ?_
        refine j_iload_n C dX9_repair_105 rfl ?_
        replace hf := bd hf
        obtain ⟨v21, h22, hf⟩ := hf
        refine j_callV C cl_X9_92 (c_X9_learn h22) ⟨Nat.le_of_ble_eq_true rfl, Nat.le_of_ble_eq_true rfl⟩ ⟨Nat.zero_le _, Nat.zero_le _⟩ (q0 := 0) rfl rfl rfl rfl (Nat.le_of_ble_eq_true rfl) rfl rfl wM_fst dX9_repair_106 ?_
        refine j_weak [false, false, false, false, true] rfl ?_
        exact w_X9_repair_109 C  _ _ _ hf
    · replace hf := it_f h16 hf
      refine j_aload_n C dX9_repair_56 rfl ?_
      refine j_iload_n C dX9_repair_57 rfl ?_
      refine j_iconst C ic_1 dX9_repair_58 ?_
      replace hf := bd hf
      obtain ⟨v23, h24, hf⟩ := hf
      refine j_callV C cl_X9_39 (c_X9_of h24) ⟨Nat.le_of_ble_eq_true rfl, Nat.le_of_ble_eq_true rfl⟩ ⟨Nat.zero_le _, Nat.zero_le _⟩ (q0 := 0) rfl rfl rfl rfl (Nat.le_of_ble_eq_true rfl) rfl rfl rfl dX9_repair_59 ?_
      refine j_iload_n C dX9_repair_62 rfl ?_
      refine j_iconst C ic_m1 dX9_repair_63 ?_
      refine j_ixor C dX9_repair_64 ?_
      refine j_iand C dX9_repair_65 ?_
      refine j_iload C dX9_repair_66 rfl ?_
      replace hf := bd hf
      obtain ⟨v25, h26, hf⟩ := hf
      refine j_callS C cl_X9_50 (c_X9_has h26) ⟨Nat.le_of_ble_eq_true rfl, Nat.le_of_ble_eq_true rfl⟩ ⟨Nat.zero_le _, Nat.zero_le _⟩ rfl (Nat.le_of_ble_eq_true rfl) rfl rfl rfl dX9_repair_68 ?_
      refine j_if_eq C (tgt := 79) (by decide) dX9_repair_71 (fun h27 => ?_) (fun h27 => ?_)
      · replace hf := it_t h27 hf
        refine j_iload_n C dX9_repair_79 rfl ?_
        refine j_istore_n C (xs' := [some (.ref (b 0)), some (.int x1), some (.int x2), some (.int x3), some (.int x4)]) dX9_repair_80 rfl rfl ?_
        refine j_iinc C (xs' := [some (.ref (b 0)), some (.int x1), some (.int x2), some (.int x3), some (.int (x4 + (-1 : Int32)))]) dX9_repair_81 rfl (ii_m1 _) rfl rfl ?_
        refine j_goto C (tgt := 51) (by decide) dX9_repair_84 ?_
        exact hk51 _ _ _ _ _ _ hf
      · replace hf := it_f h27 hf
        refine j_iload C dX9_repair_74 rfl ?_
        refine j_goto C (tgt := 80) (by decide) dX9_repair_76 ?_
        refine j_istore_n C (xs' := [some (.ref (b 0)), some (.int x1), some (.int x2), some (.int x4), some (.int x4)]) dX9_repair_80 rfl rfl ?_
        refine j_iinc C (xs' := [some (.ref (b 0)), some (.int x1), some (.int x2), some (.int x4), some (.int (x4 + (-1 : Int32)))]) dX9_repair_81 rfl (ii_m1 _) rfl rfl ?_
        refine j_goto C (tgt := 51) (by decide) dX9_repair_84 ?_
        exact hk51 _ _ _ _ _ _ hf
set_option maxRecDepth 100000 in
set_option maxHeartbeats 4000000 in
theorem c_X9_repair {l : Launch} {D : va_G} {cI cS : ClassId} {A : Nat → Prop} {b : Nat → Nat} {rest : va_W} {P : Nat → Int32} {E : Nat → Int32} {n : Int32} {hs : Int64} {s : Nat → Int32} {x1 : Int32} {r : Int32 × (Nat → Int32)} (hf : f_X9_repair s x1 = some r) : CT l yX9_repair cX9_repair 5 (some .boolean) (rmF 6 137) D cI cS A [.ref (b 0), .int x1] (wM b cI s P E n hs rest) (wM b cI r.2 P E n hs rest) (some (.int r.1)) := by
  refine CT_of (own := RX9) (xs := [some (.ref (b 0)), some (.int x1), none, none, none]) (by decide) rfl (Nat.le_of_ble_eq_true rfl) rfl ?_
  intro p e s_ m below meth c C
  unfold f_X9_repair at hf
  refine j_aload_n C dX9_repair_0 rfl ?_
  refine j_iload_n C dX9_repair_1 rfl ?_
  refine j_iconst C ic_1 dX9_repair_2 ?_
  replace hf := bd hf
  obtain ⟨v1, h2, hf⟩ := hf
  refine j_callV C cl_X9_39 (c_X9_of h2) ⟨Nat.le_of_ble_eq_true rfl, Nat.le_of_ble_eq_true rfl⟩ ⟨Nat.zero_le _, Nat.zero_le _⟩ (q0 := 0) rfl rfl rfl rfl (Nat.le_of_ble_eq_true rfl) rfl rfl rfl dX9_repair_3 ?_
  refine j_aload_n C dX9_repair_6 rfl ?_
  replace hf := bd hf
  obtain ⟨v3, h4, hf⟩ := hf
  refine j_callV C cl_X9_43 (c_X9_ups h4) ⟨Nat.le_of_ble_eq_true rfl, Nat.le_of_ble_eq_true rfl⟩ ⟨Nat.zero_le _, Nat.zero_le _⟩ (q0 := 0) rfl rfl rfl rfl (Nat.le_of_ble_eq_true rfl) rfl rfl rfl dX9_repair_7 ?_
  refine j_iand C dX9_repair_10 ?_
  refine j_istore_n C (xs' := [some (.ref (b 0)), some (.int x1), some (.int (v1 &&& v3)), none, none]) dX9_repair_11 rfl rfl ?_
  refine j_aload_n C dX9_repair_12 rfl ?_
  refine j_iload_n C dX9_repair_13 rfl ?_
  replace hf := bd hf
  obtain ⟨v5, h6, hf⟩ := hf
  refine j_callV C cl_X9_54 (c_X9_available h6) ⟨Nat.le_of_ble_eq_true rfl, Nat.le_of_ble_eq_true rfl⟩ ⟨Nat.zero_le _, Nat.zero_le _⟩ (q0 := 0) rfl rfl rfl rfl (Nat.le_of_ble_eq_true rfl) rfl rfl rfl dX9_repair_14 ?_
  refine j_if_eq C (tgt := 43) (by decide) dX9_repair_17 (fun h7 => ?_) (fun h7 => ?_)
  · replace hf := it_t h7 hf
    refine j_iconst C ic_0 dX9_repair_43 ?_
    cases hf
    exact j_zret C zc_0 dX9_repair_44
  · replace hf := it_f h7 hf
    refine j_aload_n C dX9_repair_20 rfl ?_
    refine j_iload_n C dX9_repair_21 rfl ?_
    refine j_iconst C ic_3 dX9_repair_22 ?_
    replace hf := bd hf
    obtain ⟨v8, h9, hf⟩ := hf
    refine j_callV C cl_X9_39 (c_X9_of h9) ⟨Nat.le_of_ble_eq_true rfl, Nat.le_of_ble_eq_true rfl⟩ ⟨Nat.zero_le _, Nat.zero_le _⟩ (q0 := 0) rfl rfl rfl rfl (Nat.le_of_ble_eq_true rfl) rfl rfl rfl dX9_repair_23 ?_
    refine j_iconst C ic_m1 dX9_repair_26 ?_
    refine j_icmp_ne C (tgt := 43) (by decide) dX9_repair_27 (fun h10 => ?_) (fun h10 => ?_)
    · replace hf := it_f h10 hf
      refine j_iconst C ic_0 dX9_repair_43 ?_
      cases hf
      exact j_zret C zc_0 dX9_repair_44
    · replace hf := it_t h10 hf
      refine j_iload_n C dX9_repair_30 rfl ?_
      replace hf := bd hf
      obtain ⟨v11, h12, hf⟩ := hf
      refine j_callS C cl_X9_47 (c_X9_count h12) ⟨Nat.le_of_ble_eq_true rfl, Nat.le_of_ble_eq_true rfl⟩ ⟨Nat.zero_le _, Nat.zero_le _⟩ rfl (Nat.le_of_ble_eq_true rfl) rfl rfl rfl dX9_repair_31 ?_
      refine j_aload_n C dX9_repair_34 rfl ?_
      refine gf_X9_7 C dX9_repair_35 ?_
      refine j_iconst C ic_0 dX9_repair_38 ?_
      replace hf := ld_s hf
      obtain ⟨v13, h14, e_v13, hf⟩ := hf
      refine aLM_1 C h14 e_v13 dX9_repair_39 ?_
      refine j_icmp_lt C (tgt := 45) (by decide) dX9_repair_40 (fun h15 => ?_) (fun h15 => ?_)
      · replace hf := it_t h15 hf
        refine j_iconst C ic_m1 dX9_repair_45 ?_
        refine j_istore_n C (xs' := [some (.ref (b 0)), some (.int x1), some (.int (v1 &&& v3)), some (.int (-1 : Int32)), none]) dX9_repair_46 rfl rfl ?_
        refine j_bipush C bp_7 dX9_repair_47 ?_
        refine j_istore C (xs' := [some (.ref (b 0)), some (.int x1), some (.int (v1 &&& v3)), some (.int (-1 : Int32)), some (.int (7 : Int32))]) dX9_repair_49 rfl rfl ?_
        exact w_X9_repair_51 C  _ _ _ _ _ _ _ hf
      · replace hf := it_f h15 hf
        refine j_iconst C ic_0 dX9_repair_43 ?_
        cases hf
        exact j_zret C zc_0 dX9_repair_44
set_option maxRecDepth 100000 in
set_option maxHeartbeats 4000000 in
theorem w_X9_spread_75 {p : Program} {l : Launch} {e : Env} {s_ : State} {m : MethodId} {args : Array Value} {below : List Frame} {meth : Method} {c : Code} {D : va_G} {cI cS : ClassId} {A : Nat → Prop} {b : Nat → Nat} {rest : va_W} {P : Nat → Int32} {E : Nat → Int32} {n : Int32} {hs : Int64} (C : cx p s_ m args meth c cX9_spread 4 RX9 (some .boolean) D cI cS)  : ∀ (s : Nat → Int32) (x1 : Int32) (x2 : Int32) (y0 : Int32) (r : Int32 × (Nat → Int32)), f_X9_spread_75  s x1 x2 y0 = some r → jG p l e (rmF 6 137) s_ m args below meth c 4 D A (MQ below (QW D A (wM b cI r.2 P E n hs rest) (some (.int r.1))) args s_ 0 0 A) (wM b cI s P E n hs rest) [some (.ref (b 0)), some (.int x1), some (.int x2), none] 75 [.int y0] := by
  intro s x1 x2 y0 r hf
  unfold f_X9_spread_75 at hf
  refine j_istore_n C (xs' := [some (.ref (b 0)), some (.int x1), some (.int x2), some (.int y0)]) dX9_spread_75 rfl rfl ?_
  refine j_iload_n C dX9_spread_76 rfl ?_
  refine j_iconst C ic_m1 dX9_spread_77 ?_
  refine j_icmp_eq C (tgt := 91) (by decide) dX9_spread_78 (fun h10 => ?_) (fun h10 => ?_)
  · replace hf := it_t h10 hf
    refine j_iconst C ic_0 dX9_spread_91 ?_
    cases hf
    exact j_zret C zc_0 dX9_spread_92
  · replace hf := it_f h10 hf
    refine j_aload_n C dX9_spread_81 rfl ?_
    refine j_iload_n C dX9_spread_82 rfl ?_
    refine j_iload_n C dX9_spread_83 rfl ?_
    refine j_iload_n C dX9_spread_84 rfl ?_
    replace hf := bd hf
    obtain ⟨v11, h12, hf⟩ := hf
    refine j_callV C cl_X9_66 (c_X9_isFresh h12) ⟨Nat.le_of_ble_eq_true rfl, Nat.le_of_ble_eq_true rfl⟩ ⟨Nat.zero_le _, Nat.zero_le _⟩ (q0 := 0) rfl rfl rfl rfl (Nat.le_of_ble_eq_true rfl) rfl rfl rfl dX9_spread_85 ?_
    refine j_if_ne C (tgt := 93) (by decide) dX9_spread_88 (fun h13 => ?_) (fun h13 => ?_)
    · replace hf := it_f h13 hf
      refine j_aload_n C dX9_spread_93 rfl ?_
      refine j_iload_n C dX9_spread_94 rfl ?_
      refine j_iload_n C dX9_spread_95 rfl ?_
      refine j_iload_n C dX9_spread_96 rfl ?_
      replace hf := bd hf
      obtain ⟨v14, h15, hf⟩ := hf
      refine j_callV C cl_X9_92 (c_X9_learn h15) ⟨Nat.le_of_ble_eq_true rfl, Nat.le_of_ble_eq_true rfl⟩ ⟨Nat.zero_le _, Nat.zero_le _⟩ (q0 := 0) rfl rfl rfl rfl (Nat.le_of_ble_eq_true rfl) rfl rfl wM_fst dX9_spread_97 ?_
      refine j_iconst C ic_1 dX9_spread_100 ?_
      cases hf
      exact j_zret C zc_1 dX9_spread_101
    · replace hf := it_t h13 hf
      refine j_iconst C ic_0 dX9_spread_91 ?_
      cases hf
      exact j_zret C zc_0 dX9_spread_92
set_option maxRecDepth 100000 in
set_option maxHeartbeats 4000000 in
theorem w_X9_spread_14 {p : Program} {l : Launch} {e : Env} {s_ : State} {m : MethodId} {args : Array Value} {below : List Frame} {meth : Method} {c : Code} {D : va_G} {cI cS : ClassId} {A : Nat → Prop} {b : Nat → Nat} {rest : va_W} {P : Nat → Int32} {E : Nat → Int32} {n : Int32} {hs : Int64} (C : cx p s_ m args meth c cX9_spread 4 RX9 (some .boolean) D cI cS)  : ∀ (n_ : Nat) (s : Nat → Int32) (x1 : Int32) (x2 : Int32) (x3 : Int32) (r : Int32 × (Nat → Int32)), f_X9_spread_14  n_ s x1 x2 x3 = some r → jG p l e (rmF 6 137) s_ m args below meth c 4 D A (MQ below (QW D A (wM b cI r.2 P E n hs rest) (some (.int r.1))) args s_ 0 0 A) (wM b cI s P E n hs rest) [some (.ref (b 0)), some (.int x1), some (.int x2), some (.int x3)] 14 [] := by
  intro n_
  induction n_ with
  | zero =>
    intro s x1 x2 x3 r hf
    rw [f_X9_spread_14] at hf
    cases hf
  | succ n_ hk14 =>
    intro s x1 x2 x3 r hf
    rw [f_X9_spread_14] at hf
    refine j_iload_n C dX9_spread_14 rfl ?_
    refine j_aload_n C dX9_spread_15 rfl ?_
    refine gf_X9_7 C dX9_spread_16 ?_
    refine j_bipush C bp_15 dX9_spread_19 ?_
    replace hf := ld_s hf
    obtain ⟨v4, h5, e_v4, hf⟩ := hf
    refine aLM_1 C h5 e_v4 dX9_spread_21 ?_
    refine j_icmp_ge C (tgt := 60) (by decide) dX9_spread_22 (fun h6 => ?_) (fun h6 => ?_)
    · replace hf := it_t h6 hf
      refine j_iload_n C dX9_spread_60 rfl ?_
      refine j_iconst C ic_m1 dX9_spread_61 ?_
      refine j_icmp_ne C (tgt := 69) (by decide) dX9_spread_62 (fun h7 => ?_) (fun h7 => ?_)
      · replace hf := it_f h7 hf
        refine j_aload_n C dX9_spread_69 rfl ?_
        refine j_iload_n C dX9_spread_70 rfl ?_
        refine j_iload_n C dX9_spread_71 rfl ?_
        replace hf := bd hf
        obtain ⟨v8, h9, hf⟩ := hf
        refine j_callV C cl_X9_89 (c_X9_choose h9) ⟨Nat.le_of_ble_eq_true rfl, Nat.le_of_ble_eq_true rfl⟩ ⟨Nat.zero_le _, Nat.zero_le _⟩ (q0 := 0) rfl rfl rfl rfl (Nat.le_of_ble_eq_true rfl) rfl rfl rfl dX9_spread_72 ?_
        refine j_weak [true, true, true, false] rfl ?_
        exact w_X9_spread_75 C  _ _ _ _ _ hf
      · replace hf := it_t h7 hf
        refine j_iconst C ic_m1 dX9_spread_65 ?_
        refine j_goto C (tgt := 75) (by decide) dX9_spread_66 ?_
        refine j_weak [true, true, true, false] rfl ?_
        exact w_X9_spread_75 C  _ _ _ _ _ hf
    · replace hf := it_f h6 hf
      refine j_aload_n C dX9_spread_25 rfl ?_
      refine j_iload_n C dX9_spread_26 rfl ?_
      refine j_iconst C ic_1 dX9_spread_27 ?_
      replace hf := bd hf
      obtain ⟨v16, h17, hf⟩ := hf
      refine j_callV C cl_X9_39 (c_X9_of h17) ⟨Nat.le_of_ble_eq_true rfl, Nat.le_of_ble_eq_true rfl⟩ ⟨Nat.zero_le _, Nat.zero_le _⟩ (q0 := 0) rfl rfl rfl rfl (Nat.le_of_ble_eq_true rfl) rfl rfl rfl dX9_spread_28 ?_
      refine j_iload_n C dX9_spread_31 rfl ?_
      replace hf := bd hf
      obtain ⟨v18, h19, hf⟩ := hf
      refine j_callS C cl_X9_50 (c_X9_has h19) ⟨Nat.le_of_ble_eq_true rfl, Nat.le_of_ble_eq_true rfl⟩ ⟨Nat.zero_le _, Nat.zero_le _⟩ rfl (Nat.le_of_ble_eq_true rfl) rfl rfl rfl dX9_spread_32 ?_
      refine j_if_eq C (tgt := 52) (by decide) dX9_spread_35 (fun h20 => ?_) (fun h20 => ?_)
      · replace hf := it_t h20 hf
        refine j_iload_n C dX9_spread_52 rfl ?_
        refine j_istore_n C (xs' := [some (.ref (b 0)), some (.int x1), some (.int x2), some (.int x3)]) dX9_spread_53 rfl rfl ?_
        refine j_iinc C (xs' := [some (.ref (b 0)), some (.int x1), some (.int x2), some (.int (x3 + (1 : Int32)))]) dX9_spread_54 rfl (ii_1 _) rfl rfl ?_
        refine j_goto C (tgt := 14) (by decide) dX9_spread_57 ?_
        exact hk14 _ _ _ _ _ hf
      · replace hf := it_f h20 hf
        refine j_aload_n C dX9_spread_38 rfl ?_
        refine j_iload_n C dX9_spread_39 rfl ?_
        refine j_iload_n C dX9_spread_40 rfl ?_
        refine j_iload_n C dX9_spread_41 rfl ?_
        replace hf := bd hf
        obtain ⟨v21, h22, hf⟩ := hf
        refine j_callV C cl_X9_66 (c_X9_isFresh h22) ⟨Nat.le_of_ble_eq_true rfl, Nat.le_of_ble_eq_true rfl⟩ ⟨Nat.zero_le _, Nat.zero_le _⟩ (q0 := 0) rfl rfl rfl rfl (Nat.le_of_ble_eq_true rfl) rfl rfl rfl dX9_spread_42 ?_
        refine j_if_ne C (tgt := 52) (by decide) dX9_spread_45 (fun h23 => ?_) (fun h23 => ?_)
        · replace hf := it_f h23 hf
          refine j_iload_n C dX9_spread_52 rfl ?_
          refine j_istore_n C (xs' := [some (.ref (b 0)), some (.int x1), some (.int x2), some (.int x3)]) dX9_spread_53 rfl rfl ?_
          refine j_iinc C (xs' := [some (.ref (b 0)), some (.int x1), some (.int x2), some (.int (x3 + (1 : Int32)))]) dX9_spread_54 rfl (ii_1 _) rfl rfl ?_
          refine j_goto C (tgt := 14) (by decide) dX9_spread_57 ?_
          exact hk14 _ _ _ _ _ hf
        · replace hf := it_t h23 hf
          refine j_iload_n C dX9_spread_48 rfl ?_
          refine j_goto C (tgt := 53) (by decide) dX9_spread_49 ?_
          refine j_istore_n C (xs' := [some (.ref (b 0)), some (.int x1), some (.int x3), some (.int x3)]) dX9_spread_53 rfl rfl ?_
          refine j_iinc C (xs' := [some (.ref (b 0)), some (.int x1), some (.int x3), some (.int (x3 + (1 : Int32)))]) dX9_spread_54 rfl (ii_1 _) rfl rfl ?_
          refine j_goto C (tgt := 14) (by decide) dX9_spread_57 ?_
          exact hk14 _ _ _ _ _ hf
set_option maxRecDepth 100000 in
set_option maxHeartbeats 4000000 in
theorem c_X9_spread {l : Launch} {D : va_G} {cI cS : ClassId} {A : Nat → Prop} {b : Nat → Nat} {rest : va_W} {P : Nat → Int32} {E : Nat → Int32} {n : Int32} {hs : Int64} {s : Nat → Int32} {x1 : Int32} {r : Int32 × (Nat → Int32)} (hf : f_X9_spread s x1 = some r) : CT l yX9_spread cX9_spread 4 (some .boolean) (rmF 6 137) D cI cS A [.ref (b 0), .int x1] (wM b cI s P E n hs rest) (wM b cI r.2 P E n hs rest) (some (.int r.1)) := by
  refine CT_of (own := RX9) (xs := [some (.ref (b 0)), some (.int x1), none, none]) (by decide) rfl (Nat.le_of_ble_eq_true rfl) rfl ?_
  intro p e s_ m below meth c C
  unfold f_X9_spread at hf
  refine j_aload_n C dX9_spread_0 rfl ?_
  refine j_iload_n C dX9_spread_1 rfl ?_
  replace hf := bd hf
  obtain ⟨v1, h2, hf⟩ := hf
  refine j_callV C cl_X9_95 (c_X9_isWhole h2) ⟨Nat.le_of_ble_eq_true rfl, Nat.le_of_ble_eq_true rfl⟩ ⟨Nat.zero_le _, Nat.zero_le _⟩ (q0 := 0) rfl rfl rfl rfl (Nat.le_of_ble_eq_true rfl) rfl rfl rfl dX9_spread_2 ?_
  refine j_if_ne C (tgt := 10) (by decide) dX9_spread_5 (fun h3 => ?_) (fun h3 => ?_)
  · replace hf := it_f h3 hf
    refine j_iconst C ic_m1 dX9_spread_10 ?_
    refine j_istore_n C (xs' := [some (.ref (b 0)), some (.int x1), some (.int (-1 : Int32)), none]) dX9_spread_11 rfl rfl ?_
    refine j_iconst C ic_0 dX9_spread_12 ?_
    refine j_istore_n C (xs' := [some (.ref (b 0)), some (.int x1), some (.int (-1 : Int32)), some (.int (0 : Int32))]) dX9_spread_13 rfl rfl ?_
    exact w_X9_spread_14 C  _ _ _ _ _ _ hf
  · replace hf := it_t h3 hf
    refine j_iconst C ic_0 dX9_spread_8 ?_
    cases hf
    exact j_zret C zc_0 dX9_spread_9
set_option maxRecDepth 100000 in
set_option maxHeartbeats 4000000 in
theorem w_X9_splitBy_20 {p : Program} {l : Launch} {e : Env} {s_ : State} {m : MethodId} {args : Array Value} {below : List Frame} {meth : Method} {c : Code} {D : va_G} {cI cS : ClassId} {A : Nat → Prop} {b : Nat → Nat} {rest : va_W} {P : Nat → Int32} {E : Nat → Int32} {n : Int32} {hs : Int64} (C : cx p s_ m args meth c cX9_splitBy 5 RX9 (some .boolean) D cI cS)  : ∀ (s : Nat → Int32) (x1 : Int32) (x2 : Int32) (x3 : Int32) (y0 : Int32) (r : Int32 × (Nat → Int32)), f_X9_splitBy_20  s x1 x2 x3 y0 = some r → jG p l e (rmF 6 144) s_ m args below meth c 5 D A (MQ below (QW D A (wM b cI r.2 P E n hs rest) (some (.int r.1))) args s_ 0 0 A) (wM b cI s P E n hs rest) [some (.ref (b 0)), some (.int x1), some (.int x2), some (.int x3), none] 20 [.int y0, .ref (b 1)] := by
  intro s x1 x2 x3 y0 r hf
  unfold f_X9_splitBy_20 at hf
  replace hf := ld_s hf
  obtain ⟨v4, h5, e_v4, hf⟩ := hf
  refine aLM_1 C h5 e_v4 dX9_splitBy_20 ?_
  refine j_istore C (xs' := [some (.ref (b 0)), some (.int x1), some (.int x2), some (.int x3), some (.int v4)]) dX9_splitBy_21 rfl rfl ?_
  refine j_aload_n C dX9_splitBy_23 rfl ?_
  refine j_iload_n C dX9_splitBy_24 rfl ?_
  refine j_iconst C ic_3 dX9_splitBy_25 ?_
  replace hf := bd hf
  obtain ⟨v6, h7, hf⟩ := hf
  refine j_callV C cl_X9_39 (c_X9_of h7) ⟨Nat.le_of_ble_eq_true rfl, Nat.le_of_ble_eq_true rfl⟩ ⟨Nat.zero_le _, Nat.zero_le _⟩ (q0 := 0) rfl rfl rfl rfl (Nat.le_of_ble_eq_true rfl) rfl rfl rfl dX9_splitBy_26 ?_
  refine j_iconst C ic_m1 dX9_splitBy_29 ?_
  refine j_icmp_ne C (tgt := 61) (by decide) dX9_splitBy_30 (fun h8 => ?_) (fun h8 => ?_)
  · replace hf := it_f h8 hf
    refine j_iconst C ic_0 dX9_splitBy_61 ?_
    cases hf
    exact j_zret C zc_0 dX9_splitBy_62
  · replace hf := it_t h8 hf
    refine j_aload_n C dX9_splitBy_33 rfl ?_
    refine j_iload_n C dX9_splitBy_34 rfl ?_
    refine j_iload_n C dX9_splitBy_35 rfl ?_
    replace hf := bd hf
    obtain ⟨v9, h10, hf⟩ := hf
    refine j_callV C cl_X9_79 (c_X9_all h10) ⟨Nat.le_of_ble_eq_true rfl, Nat.le_of_ble_eq_true rfl⟩ ⟨Nat.zero_le _, Nat.zero_le _⟩ (q0 := 0) rfl rfl rfl rfl (Nat.le_of_ble_eq_true rfl) rfl rfl rfl dX9_splitBy_36 ?_
    refine j_iload C dX9_splitBy_39 rfl ?_
    refine j_icmp_le C (tgt := 61) (by decide) dX9_splitBy_41 (fun h11 => ?_) (fun h11 => ?_)
    · replace hf := it_t h11 hf
      refine j_iconst C ic_0 dX9_splitBy_61 ?_
      cases hf
      exact j_zret C zc_0 dX9_splitBy_62
    · replace hf := it_f h11 hf
      refine j_iload_n C dX9_splitBy_44 rfl ?_
      refine j_iconst C ic_m1 dX9_splitBy_45 ?_
      refine j_icmp_eq C (tgt := 61) (by decide) dX9_splitBy_46 (fun h12 => ?_) (fun h12 => ?_)
      · replace hf := it_t h12 hf
        refine j_iconst C ic_0 dX9_splitBy_61 ?_
        cases hf
        exact j_zret C zc_0 dX9_splitBy_62
      · replace hf := it_f h12 hf
        refine j_aload_n C dX9_splitBy_49 rfl ?_
        refine gf_X9_7 C dX9_splitBy_50 ?_
        refine j_bipush C bp_17 dX9_splitBy_53 ?_
        replace hf := ld_s hf
        obtain ⟨v13, h14, e_v13, hf⟩ := hf
        refine aLM_1 C h14 e_v13 dX9_splitBy_55 ?_
        refine j_bipush C bp_16 dX9_splitBy_56 ?_
        refine j_icmp_ne C (tgt := 63) (by decide) dX9_splitBy_58 (fun h15 => ?_) (fun h15 => ?_)
        · replace hf := it_f h15 hf
          refine j_aload_n C dX9_splitBy_63 rfl ?_
          refine j_iload_n C dX9_splitBy_64 rfl ?_
          refine j_iload_n C dX9_splitBy_65 rfl ?_
          replace hf := bd hf
          obtain ⟨v16, h17, hf⟩ := hf
          refine j_callV C cl_X9_101 (c_X9_split h17) ⟨Nat.le_of_ble_eq_true rfl, Nat.le_of_ble_eq_true rfl⟩ ⟨Nat.zero_le _, Nat.zero_le _⟩ (q0 := 0) rfl rfl rfl rfl (Nat.le_of_ble_eq_true rfl) rfl rfl wM_fst dX9_splitBy_66 ?_
          refine j_iconst C ic_1 dX9_splitBy_69 ?_
          cases hf
          exact j_zret C zc_1 dX9_splitBy_70
        · replace hf := it_t h15 hf
          refine j_iconst C ic_0 dX9_splitBy_61 ?_
          cases hf
          exact j_zret C zc_0 dX9_splitBy_62
set_option maxRecDepth 100000 in
set_option maxHeartbeats 4000000 in
theorem c_X9_splitBy {l : Launch} {D : va_G} {cI cS : ClassId} {A : Nat → Prop} {b : Nat → Nat} {rest : va_W} {P : Nat → Int32} {E : Nat → Int32} {n : Int32} {hs : Int64} {s : Nat → Int32} {x1 : Int32} {x2 : Int32} {r : Int32 × (Nat → Int32)} (hf : f_X9_splitBy s x1 x2 = some r) : CT l yX9_splitBy cX9_splitBy 5 (some .boolean) (rmF 6 144) D cI cS A [.ref (b 0), .int x1, .int x2] (wM b cI s P E n hs rest) (wM b cI r.2 P E n hs rest) (some (.int r.1)) := by
  refine CT_of (own := RX9) (xs := [some (.ref (b 0)), some (.int x1), some (.int x2), none, none]) (by decide) rfl (Nat.le_of_ble_eq_true rfl) rfl ?_
  intro p e s_ m below meth c C
  unfold f_X9_splitBy at hf
  refine j_aload_n C dX9_splitBy_0 rfl ?_
  refine j_iload_n C dX9_splitBy_1 rfl ?_
  refine j_iload_n C dX9_splitBy_2 rfl ?_
  replace hf := bd hf
  obtain ⟨v1, h2, hf⟩ := hf
  refine j_callV C cl_X9_98 (c_X9_splitKeyOf h2) ⟨Nat.le_of_ble_eq_true rfl, Nat.le_of_ble_eq_true rfl⟩ ⟨Nat.zero_le _, Nat.zero_le _⟩ (q0 := 0) rfl rfl rfl rfl (Nat.le_of_ble_eq_true rfl) rfl rfl rfl dX9_splitBy_3 ?_
  refine j_istore_n C (xs' := [some (.ref (b 0)), some (.int x1), some (.int x2), some (.int v1), none]) dX9_splitBy_6 rfl rfl ?_
  refine j_aload_n C dX9_splitBy_7 rfl ?_
  refine gf_X9_7 C dX9_splitBy_8 ?_
  refine j_iload_n C dX9_splitBy_11 rfl ?_
  refine j_if_ne C (tgt := 19) (by decide) dX9_splitBy_12 (fun h3 => ?_) (fun h3 => ?_)
  · replace hf := it_f h3 hf
    refine j_iconst C ic_4 dX9_splitBy_19 ?_
    exact w_X9_splitBy_20 C  _ _ _ _ _ _ hf
  · replace hf := it_t h3 hf
    refine j_iconst C ic_2 dX9_splitBy_15 ?_
    refine j_goto C (tgt := 20) (by decide) dX9_splitBy_16 ?_
    exact w_X9_splitBy_20 C  _ _ _ _ _ _ hf
set_option maxRecDepth 100000 in
set_option maxHeartbeats 4000000 in
theorem c_X9_isCold {l : Launch} {D : va_G} {cI cS : ClassId} {A : Nat → Prop} {b : Nat → Nat} {rest : va_W} {P : Nat → Int32} {E : Nat → Int32} {n : Int32} {hs : Int64} {s : Nat → Int32} {x1 : Int32} {r : Int32} (hf : f_X9_isCold s x1 = some r) : CT l yX9_isCold cX9_isCold 2 (some .boolean) (rmF 5 114) D cI cS A [.ref (b 0), .int x1] (wM b cI s P E n hs rest) (wM b cI s P E n hs rest) (some (.int r)) := by
  refine CT_of (own := RX9) (xs := [some (.ref (b 0)), some (.int x1)]) (by decide) rfl (Nat.le_of_ble_eq_true rfl) rfl ?_
  intro p e s_ m below meth c C
  unfold f_X9_isCold at hf
  refine j_aload_n C dX9_isCold_0 rfl ?_
  refine j_iload_n C dX9_isCold_1 rfl ?_
  refine j_iconst C ic_3 dX9_isCold_2 ?_
  replace hf := bd hf
  obtain ⟨v1, h2, hf⟩ := hf
  refine j_callV C cl_X9_39 (c_X9_of h2) ⟨Nat.le_of_ble_eq_true rfl, Nat.le_of_ble_eq_true rfl⟩ ⟨Nat.zero_le _, Nat.zero_le _⟩ (q0 := 0) rfl rfl rfl rfl (Nat.le_of_ble_eq_true rfl) rfl rfl rfl dX9_isCold_3 ?_
  refine j_iconst C ic_m1 dX9_isCold_6 ?_
  refine j_icmp_ne C (tgt := 52) (by decide) dX9_isCold_7 (fun h3 => ?_) (fun h3 => ?_)
  · replace hf := it_f h3 hf
    refine j_iconst C ic_0 dX9_isCold_52 ?_
    cases hf
    exact j_zret C zc_0 dX9_isCold_53
  · replace hf := it_t h3 hf
    refine j_aload_n C dX9_isCold_10 rfl ?_
    refine j_iload_n C dX9_isCold_11 rfl ?_
    replace hf := bd hf
    obtain ⟨v4, h5, hf⟩ := hf
    refine j_callV C cl_X9_54 (c_X9_available h5) ⟨Nat.le_of_ble_eq_true rfl, Nat.le_of_ble_eq_true rfl⟩ ⟨Nat.zero_le _, Nat.zero_le _⟩ (q0 := 0) rfl rfl rfl rfl (Nat.le_of_ble_eq_true rfl) rfl rfl rfl dX9_isCold_12 ?_
    refine j_if_eq C (tgt := 52) (by decide) dX9_isCold_15 (fun h6 => ?_) (fun h6 => ?_)
    · replace hf := it_t h6 hf
      refine j_iconst C ic_0 dX9_isCold_52 ?_
      cases hf
      exact j_zret C zc_0 dX9_isCold_53
    · replace hf := it_f h6 hf
      refine j_aload_n C dX9_isCold_18 rfl ?_
      refine j_iload_n C dX9_isCold_19 rfl ?_
      refine j_iconst C ic_0 dX9_isCold_20 ?_
      replace hf := bd hf
      obtain ⟨v7, h8, hf⟩ := hf
      refine j_callV C cl_X9_79 (c_X9_all h8) ⟨Nat.le_of_ble_eq_true rfl, Nat.le_of_ble_eq_true rfl⟩ ⟨Nat.zero_le _, Nat.zero_le _⟩ (q0 := 0) rfl rfl rfl rfl (Nat.le_of_ble_eq_true rfl) rfl rfl rfl dX9_isCold_21 ?_
      refine j_aload_n C dX9_isCold_24 rfl ?_
      refine gf_X9_7 C dX9_isCold_25 ?_
      refine j_iconst C ic_1 dX9_isCold_28 ?_
      replace hf := ld_s hf
      obtain ⟨v9, h10, e_v9, hf⟩ := hf
      refine aLM_1 C h10 e_v9 dX9_isCold_29 ?_
      refine j_icmp_ge C (tgt := 52) (by decide) dX9_isCold_30 (fun h11 => ?_) (fun h11 => ?_)
      · replace hf := it_t h11 hf
        refine j_iconst C ic_0 dX9_isCold_52 ?_
        cases hf
        exact j_zret C zc_0 dX9_isCold_53
      · replace hf := it_f h11 hf
        refine j_aload_n C dX9_isCold_33 rfl ?_
        refine j_iload_n C dX9_isCold_34 rfl ?_
        refine j_iconst C ic_1 dX9_isCold_35 ?_
        replace hf := bd hf
        obtain ⟨v12, h13, hf⟩ := hf
        refine j_callV C cl_X9_79 (c_X9_all h13) ⟨Nat.le_of_ble_eq_true rfl, Nat.le_of_ble_eq_true rfl⟩ ⟨Nat.zero_le _, Nat.zero_le _⟩ (q0 := 0) rfl rfl rfl rfl (Nat.le_of_ble_eq_true rfl) rfl rfl rfl dX9_isCold_36 ?_
        refine j_aload_n C dX9_isCold_39 rfl ?_
        refine gf_X9_7 C dX9_isCold_40 ?_
        refine j_iconst C ic_3 dX9_isCold_43 ?_
        replace hf := ld_s hf
        obtain ⟨v14, h15, e_v14, hf⟩ := hf
        refine aLM_1 C h15 e_v14 dX9_isCold_44 ?_
        refine j_icmp_ge C (tgt := 52) (by decide) dX9_isCold_45 (fun h16 => ?_) (fun h16 => ?_)
        · replace hf := it_t h16 hf
          refine j_iconst C ic_0 dX9_isCold_52 ?_
          cases hf
          exact j_zret C zc_0 dX9_isCold_53
        · replace hf := it_f h16 hf
          refine j_iconst C ic_1 dX9_isCold_48 ?_
          refine j_goto C (tgt := 53) (by decide) dX9_isCold_49 ?_
          cases hf
          exact j_zret C zc_1 dX9_isCold_53
set_option maxRecDepth 100000 in
set_option maxHeartbeats 4000000 in
theorem c_X9_mergeNext {l : Launch} {D : va_G} {cI cS : ClassId} {A : Nat → Prop} {b : Nat → Nat} {rest : va_W} {P : Nat → Int32} {E : Nat → Int32} {n : Int32} {hs : Int64} {s : Nat → Int32} {x1 : Int32} {r : Int32 × (Nat → Int32)} (hf : f_X9_mergeNext s x1 = some r) : CT l yX9_mergeNext cX9_mergeNext 2 (some .boolean) (rmF 6 135) D cI cS A [.ref (b 0), .int x1] (wM b cI s P E n hs rest) (wM b cI r.2 P E n hs rest) (some (.int r.1)) := by
  refine CT_of (own := RX9) (xs := [some (.ref (b 0)), some (.int x1)]) (by decide) rfl (Nat.le_of_ble_eq_true rfl) rfl ?_
  intro p e s_ m below meth c C
  unfold f_X9_mergeNext at hf
  refine j_iload_n C dX9_mergeNext_0 rfl ?_
  refine j_iconst C ic_1 dX9_mergeNext_1 ?_
  refine j_iadd C dX9_mergeNext_2 ?_
  refine j_aload_n C dX9_mergeNext_3 rfl ?_
  refine gf_X9_7 C dX9_mergeNext_4 ?_
  refine j_bipush C bp_17 dX9_mergeNext_7 ?_
  replace hf := ld_s hf
  obtain ⟨v1, h2, e_v1, hf⟩ := hf
  refine aLM_1 C h2 e_v1 dX9_mergeNext_9 ?_
  refine j_icmp_eq C (tgt := 31) (by decide) dX9_mergeNext_10 (fun h3 => ?_) (fun h3 => ?_)
  · replace hf := it_t h3 hf
    refine j_iconst C ic_0 dX9_mergeNext_31 ?_
    cases hf
    exact j_zret C zc_0 dX9_mergeNext_32
  · replace hf := it_f h3 hf
    refine j_aload_n C dX9_mergeNext_13 rfl ?_
    refine j_iload_n C dX9_mergeNext_14 rfl ?_
    replace hf := bd hf
    obtain ⟨v4, h5, hf⟩ := hf
    refine j_callV C cl_X9_105 (c_X9_isCold h5) ⟨Nat.le_of_ble_eq_true rfl, Nat.le_of_ble_eq_true rfl⟩ ⟨Nat.zero_le _, Nat.zero_le _⟩ (q0 := 0) rfl rfl rfl rfl (Nat.le_of_ble_eq_true rfl) rfl rfl rfl dX9_mergeNext_15 ?_
    refine j_if_eq C (tgt := 31) (by decide) dX9_mergeNext_18 (fun h6 => ?_) (fun h6 => ?_)
    · replace hf := it_t h6 hf
      refine j_iconst C ic_0 dX9_mergeNext_31 ?_
      cases hf
      exact j_zret C zc_0 dX9_mergeNext_32
    · replace hf := it_f h6 hf
      refine j_aload_n C dX9_mergeNext_21 rfl ?_
      refine j_iload_n C dX9_mergeNext_22 rfl ?_
      refine j_iconst C ic_1 dX9_mergeNext_23 ?_
      refine j_iadd C dX9_mergeNext_24 ?_
      replace hf := bd hf
      obtain ⟨v7, h8, hf⟩ := hf
      refine j_callV C cl_X9_105 (c_X9_isCold h8) ⟨Nat.le_of_ble_eq_true rfl, Nat.le_of_ble_eq_true rfl⟩ ⟨Nat.zero_le _, Nat.zero_le _⟩ (q0 := 0) rfl rfl rfl rfl (Nat.le_of_ble_eq_true rfl) rfl rfl rfl dX9_mergeNext_25 ?_
      refine j_if_ne C (tgt := 33) (by decide) dX9_mergeNext_28 (fun h9 => ?_) (fun h9 => ?_)
      · replace hf := it_f h9 hf
        refine j_aload_n C dX9_mergeNext_33 rfl ?_
        refine j_iload_n C dX9_mergeNext_34 rfl ?_
        refine j_iconst C ic_1 dX9_mergeNext_35 ?_
        replace hf := bd hf
        obtain ⟨v10, h11, hf⟩ := hf
        refine j_callV C cl_X9_39 (c_X9_of h11) ⟨Nat.le_of_ble_eq_true rfl, Nat.le_of_ble_eq_true rfl⟩ ⟨Nat.zero_le _, Nat.zero_le _⟩ (q0 := 0) rfl rfl rfl rfl (Nat.le_of_ble_eq_true rfl) rfl rfl rfl dX9_mergeNext_36 ?_
        refine j_aload_n C dX9_mergeNext_39 rfl ?_
        refine j_iload_n C dX9_mergeNext_40 rfl ?_
        refine j_iconst C ic_1 dX9_mergeNext_41 ?_
        refine j_iadd C dX9_mergeNext_42 ?_
        refine j_iconst C ic_1 dX9_mergeNext_43 ?_
        replace hf := bd hf
        obtain ⟨v12, h13, hf⟩ := hf
        refine j_callV C cl_X9_39 (c_X9_of h13) ⟨Nat.le_of_ble_eq_true rfl, Nat.le_of_ble_eq_true rfl⟩ ⟨Nat.zero_le _, Nat.zero_le _⟩ (q0 := 0) rfl rfl rfl rfl (Nat.le_of_ble_eq_true rfl) rfl rfl rfl dX9_mergeNext_44 ?_
        refine j_icmp_ne C (tgt := 74) (by decide) dX9_mergeNext_47 (fun h14 => ?_) (fun h14 => ?_)
        · replace hf := it_f h14 hf
          refine j_iconst C ic_0 dX9_mergeNext_74 ?_
          cases hf
          exact j_zret C zc_0 dX9_mergeNext_75
        · replace hf := it_t h14 hf
          refine j_aload_n C dX9_mergeNext_50 rfl ?_
          refine j_iload_n C dX9_mergeNext_51 rfl ?_
          refine j_iconst C ic_0 dX9_mergeNext_52 ?_
          replace hf := bd hf
          obtain ⟨v15, h16, hf⟩ := hf
          refine j_callV C cl_X9_79 (c_X9_all h16) ⟨Nat.le_of_ble_eq_true rfl, Nat.le_of_ble_eq_true rfl⟩ ⟨Nat.zero_le _, Nat.zero_le _⟩ (q0 := 0) rfl rfl rfl rfl (Nat.le_of_ble_eq_true rfl) rfl rfl rfl dX9_mergeNext_53 ?_
          refine j_aload_n C dX9_mergeNext_56 rfl ?_
          refine j_iload_n C dX9_mergeNext_57 rfl ?_
          refine j_iconst C ic_1 dX9_mergeNext_58 ?_
          refine j_iadd C dX9_mergeNext_59 ?_
          refine j_iconst C ic_0 dX9_mergeNext_60 ?_
          replace hf := bd hf
          obtain ⟨v17, h18, hf⟩ := hf
          refine j_callV C cl_X9_79 (c_X9_all h18) ⟨Nat.le_of_ble_eq_true rfl, Nat.le_of_ble_eq_true rfl⟩ ⟨Nat.zero_le _, Nat.zero_le _⟩ (q0 := 0) rfl rfl rfl rfl (Nat.le_of_ble_eq_true rfl) rfl rfl rfl dX9_mergeNext_61 ?_
          refine j_iadd C dX9_mergeNext_64 ?_
          refine j_aload_n C dX9_mergeNext_65 rfl ?_
          refine gf_X9_7 C dX9_mergeNext_66 ?_
          refine j_iconst C ic_2 dX9_mergeNext_69 ?_
          replace hf := ld_s hf
          obtain ⟨v19, h20, e_v19, hf⟩ := hf
          refine aLM_1 C h20 e_v19 dX9_mergeNext_70 ?_
          refine j_icmp_le C (tgt := 76) (by decide) dX9_mergeNext_71 (fun h21 => ?_) (fun h21 => ?_)
          · replace hf := it_t h21 hf
            refine j_aload_n C dX9_mergeNext_76 rfl ?_
            refine j_iload_n C dX9_mergeNext_77 rfl ?_
            replace hf := bd hf
            obtain ⟨v22, h23, hf⟩ := hf
            refine j_callV C cl_X9_108 (c_X9_mergeNextInto h23) ⟨Nat.le_of_ble_eq_true rfl, Nat.le_of_ble_eq_true rfl⟩ ⟨Nat.zero_le _, Nat.zero_le _⟩ (q0 := 0) rfl rfl rfl rfl (Nat.le_of_ble_eq_true rfl) rfl rfl wM_fst dX9_mergeNext_78 ?_
            refine j_iconst C ic_1 dX9_mergeNext_81 ?_
            cases hf
            exact j_zret C zc_1 dX9_mergeNext_82
          · replace hf := it_f h21 hf
            refine j_iconst C ic_0 dX9_mergeNext_74 ?_
            cases hf
            exact j_zret C zc_0 dX9_mergeNext_75
      · replace hf := it_t h9 hf
        refine j_iconst C ic_0 dX9_mergeNext_31 ?_
        cases hf
        exact j_zret C zc_0 dX9_mergeNext_32
set_option maxRecDepth 100000 in
set_option maxHeartbeats 4000000 in
theorem w_X9_shiftLeader_119 {p : Program} {l : Launch} {e : Env} {s_ : State} {m : MethodId} {args : Array Value} {below : List Frame} {meth : Method} {c : Code} {D : va_G} {cI cS : ClassId} {A : Nat → Prop} {b : Nat → Nat} {rest : va_W} {P : Nat → Int32} {E : Nat → Int32} {n : Int32} {hs : Int64} (C : cx p s_ m args meth c cX9_shiftLeader 6 RX9 (some .boolean) D cI cS)  : ∀ (s : Nat → Int32) (x3 : Int32) (r : Int32 × (Nat → Int32)), f_X9_shiftLeader_119  s x3 = some r → jG p l e (rmF 2 46) s_ m args below meth c 6 D A (MQ below (QW D A (wM b cI r.2 P E n hs rest) (some (.int r.1))) args s_ 0 0 A) (wM b cI s P E n hs rest) [none, none, none, some (.int x3), none, none] 119 [] := by
  intro s x3 r hf
  unfold f_X9_shiftLeader_119 at hf
  refine j_iload_n C dX9_shiftLeader_119 rfl ?_
  refine j_iconst C ic_m1 dX9_shiftLeader_120 ?_
  refine j_icmp_eq C (tgt := 128) (by decide) dX9_shiftLeader_121 (fun h5 => ?_) (fun h5 => ?_)
  · replace hf := it_t h5 hf
    refine j_iconst C ic_0 dX9_shiftLeader_128 ?_
    cases hf
    exact j_zret C zc_0 dX9_shiftLeader_129
  · replace hf := it_f h5 hf
    refine j_iconst C ic_1 dX9_shiftLeader_124 ?_
    refine j_goto C (tgt := 129) (by decide) dX9_shiftLeader_125 ?_
    cases hf
    exact j_zret C zc_1 dX9_shiftLeader_129
set_option maxRecDepth 100000 in
set_option maxHeartbeats 4000000 in
theorem w_X9_shiftLeader_107 {p : Program} {l : Launch} {e : Env} {s_ : State} {m : MethodId} {args : Array Value} {below : List Frame} {meth : Method} {c : Code} {D : va_G} {cI cS : ClassId} {A : Nat → Prop} {b : Nat → Nat} {rest : va_W} {P : Nat → Int32} {E : Nat → Int32} {n : Int32} {hs : Int64} (C : cx p s_ m args meth c cX9_shiftLeader 6 RX9 (some .boolean) D cI cS)  : ∀ (s : Nat → Int32) (x1 : Int32) (x3 : Int32) (r : Int32 × (Nat → Int32)), f_X9_shiftLeader_107  s x1 x3 = some r → jG p l e (rmF 2 46) s_ m args below meth c 6 D A (MQ below (QW D A (wM b cI r.2 P E n hs rest) (some (.int r.1))) args s_ 0 0 A) (wM b cI s P E n hs rest) [some (.ref (b 0)), some (.int x1), none, some (.int x3), none, none] 107 [] := by
  intro s x1 x3 r hf
  unfold f_X9_shiftLeader_107 at hf
  refine j_iload_n C dX9_shiftLeader_107 rfl ?_
  refine j_iconst C ic_m1 dX9_shiftLeader_108 ?_
  refine j_icmp_eq C (tgt := 119) (by decide) dX9_shiftLeader_109 (fun h4 => ?_) (fun h4 => ?_)
  · replace hf := it_t h4 hf
    refine j_weak [false, false, false, true, false, false] rfl ?_
    exact w_X9_shiftLeader_119 C  _ _ _ hf
  · replace hf := it_f h4 hf
    refine j_aload_n C dX9_shiftLeader_112 rfl ?_
    refine j_iload_n C dX9_shiftLeader_113 rfl ?_
    refine j_iconst C ic_2 dX9_shiftLeader_114 ?_
    refine j_iload_n C dX9_shiftLeader_115 rfl ?_
    replace hf := bd hf
    obtain ⟨v6, h7, hf⟩ := hf
    refine j_callV C cl_X9_19 (c_X9_set h7) ⟨Nat.le_of_ble_eq_true rfl, Nat.le_of_ble_eq_true rfl⟩ ⟨Nat.zero_le _, Nat.zero_le _⟩ (q0 := 0) rfl rfl rfl rfl (Nat.le_of_ble_eq_true rfl) rfl rfl wM_fst dX9_shiftLeader_116 ?_
    refine j_weak [false, false, false, true, false, false] rfl ?_
    exact w_X9_shiftLeader_119 C  _ _ _ hf
set_option maxRecDepth 100000 in
set_option maxHeartbeats 4000000 in
theorem w_X9_shiftLeader_94 {p : Program} {l : Launch} {e : Env} {s_ : State} {m : MethodId} {args : Array Value} {below : List Frame} {meth : Method} {c : Code} {D : va_G} {cI cS : ClassId} {A : Nat → Prop} {b : Nat → Nat} {rest : va_W} {P : Nat → Int32} {E : Nat → Int32} {n : Int32} {hs : Int64} (C : cx p s_ m args meth c cX9_shiftLeader 6 RX9 (some .boolean) D cI cS) (k12 : (Nat → Int32) → Int32 → Int32 → Int32 → Int32 → Option (Int32 × (Nat → Int32))) (hk12 : ∀ (s : Nat → Int32) (x1 : Int32) (x2 : Int32) (x3 : Int32) (x4 : Int32) (r : Int32 × (Nat → Int32)), k12 s x1 x2 x3 x4 = some r → jG p l e (rmF 2 46) s_ m args below meth c 6 D A (MQ below (QW D A (wM b cI r.2 P E n hs rest) (some (.int r.1))) args s_ 0 0 A) (wM b cI s P E n hs rest) [some (.ref (b 0)), some (.int x1), some (.int x2), some (.int x3), some (.int x4), none] 12 []) : ∀ (s : Nat → Int32) (x1 : Int32) (x2 : Int32) (x4 : Int32) (r : Int32 × (Nat → Int32)), f_X9_shiftLeader_94 k12 s x1 x2 x4 = some r → jG p l e (rmF 2 46) s_ m args below meth c 6 D A (MQ below (QW D A (wM b cI r.2 P E n hs rest) (some (.int r.1))) args s_ 0 0 A) (wM b cI s P E n hs rest) [some (.ref (b 0)), some (.int x1), some (.int x2), none, some (.int x4), none] 94 [] := by
  intro s x1 x2 x4 r hf
  unfold f_X9_shiftLeader_94 at hf
  refine j_iload C dX9_shiftLeader_94 rfl ?_
  refine j_goto C (tgt := 100) (by decide) dX9_shiftLeader_96 ?_
  refine j_istore_n C (xs' := [some (.ref (b 0)), some (.int x1), some (.int x2), some (.int x4), some (.int x4), none]) dX9_shiftLeader_100 rfl rfl ?_
  refine j_iinc C (xs' := [some (.ref (b 0)), some (.int x1), some (.int x2), some (.int x4), some (.int (x4 + (1 : Int32))), none]) dX9_shiftLeader_101 rfl (ii_1 _) rfl rfl ?_
  refine j_goto C (tgt := 12) (by decide) dX9_shiftLeader_104 ?_
  exact hk12 _ _ _ _ _ _ hf
set_option maxRecDepth 100000 in
set_option maxHeartbeats 4000000 in
theorem w_X9_shiftLeader_66 {p : Program} {l : Launch} {e : Env} {s_ : State} {m : MethodId} {args : Array Value} {below : List Frame} {meth : Method} {c : Code} {D : va_G} {cI cS : ClassId} {A : Nat → Prop} {b : Nat → Nat} {rest : va_W} {P : Nat → Int32} {E : Nat → Int32} {n : Int32} {hs : Int64} (C : cx p s_ m args meth c cX9_shiftLeader 6 RX9 (some .boolean) D cI cS) (k12 : (Nat → Int32) → Int32 → Int32 → Int32 → Int32 → Option (Int32 × (Nat → Int32))) (hk12 : ∀ (s : Nat → Int32) (x1 : Int32) (x2 : Int32) (x3 : Int32) (x4 : Int32) (r : Int32 × (Nat → Int32)), k12 s x1 x2 x3 x4 = some r → jG p l e (rmF 2 46) s_ m args below meth c 6 D A (MQ below (QW D A (wM b cI r.2 P E n hs rest) (some (.int r.1))) args s_ 0 0 A) (wM b cI s P E n hs rest) [some (.ref (b 0)), some (.int x1), some (.int x2), some (.int x3), some (.int x4), none] 12 []) : ∀ (s : Nat → Int32) (x1 : Int32) (x2 : Int32) (x3 : Int32) (x4 : Int32) (y0 : Int32) (r : Int32 × (Nat → Int32)), f_X9_shiftLeader_66 k12 s x1 x2 x3 x4 y0 = some r → jG p l e (rmF 2 46) s_ m args below meth c 6 D A (MQ below (QW D A (wM b cI r.2 P E n hs rest) (some (.int r.1))) args s_ 0 0 A) (wM b cI s P E n hs rest) [some (.ref (b 0)), some (.int x1), some (.int x2), some (.int x3), some (.int x4), none] 66 [.int y0] := by
  intro s x1 x2 x3 x4 y0 r hf
  unfold f_X9_shiftLeader_66 at hf
  refine j_istore C (xs' := [some (.ref (b 0)), some (.int x1), some (.int x2), some (.int x3), some (.int x4), some (.int y0)]) dX9_shiftLeader_66 rfl rfl ?_
  refine j_iload C dX9_shiftLeader_68 rfl ?_
  refine j_if_eq C (tgt := 99) (by decide) dX9_shiftLeader_70 (fun h16 => ?_) (fun h16 => ?_)
  · replace hf := it_t h16 hf
    refine j_iload_n C dX9_shiftLeader_99 rfl ?_
    refine j_istore_n C (xs' := [some (.ref (b 0)), some (.int x1), some (.int x2), some (.int x3), some (.int x4), some (.int y0)]) dX9_shiftLeader_100 rfl rfl ?_
    refine j_iinc C (xs' := [some (.ref (b 0)), some (.int x1), some (.int x2), some (.int x3), some (.int (x4 + (1 : Int32))), some (.int y0)]) dX9_shiftLeader_101 rfl (ii_1 _) rfl rfl ?_
    refine j_goto C (tgt := 12) (by decide) dX9_shiftLeader_104 ?_
    refine j_weak [true, true, true, true, true, false] rfl ?_
    exact hk12 _ _ _ _ _ _ hf
  · replace hf := it_f h16 hf
    refine j_iload_n C dX9_shiftLeader_73 rfl ?_
    refine j_iconst C ic_m1 dX9_shiftLeader_74 ?_
    refine j_icmp_eq C (tgt := 94) (by decide) dX9_shiftLeader_75 (fun h17 => ?_) (fun h17 => ?_)
    · replace hf := it_t h17 hf
      refine j_weak [true, true, true, false, true, false] rfl ?_
      exact w_X9_shiftLeader_94 C _ hk12 _ _ _ _ _ hf
    · replace hf := it_f h17 hf
      refine j_aload_n C dX9_shiftLeader_78 rfl ?_
      refine j_iload C dX9_shiftLeader_79 rfl ?_
      refine j_iconst C ic_m1 dX9_shiftLeader_81 ?_
      replace hf := bd hf
      obtain ⟨v18, h19, hf⟩ := hf
      refine j_callV C cl_X9_57 (c_X9_leads h19) ⟨Nat.le_of_ble_eq_true rfl, Nat.le_of_ble_eq_true rfl⟩ ⟨Nat.zero_le _, Nat.zero_le _⟩ (q0 := 0) rfl rfl rfl rfl (Nat.le_of_ble_eq_true rfl) rfl rfl rfl dX9_shiftLeader_82 ?_
      refine j_aload_n C dX9_shiftLeader_85 rfl ?_
      refine j_iload_n C dX9_shiftLeader_86 rfl ?_
      refine j_iconst C ic_m1 dX9_shiftLeader_87 ?_
      replace hf := bd hf
      obtain ⟨v20, h21, hf⟩ := hf
      refine j_callV C cl_X9_57 (c_X9_leads h21) ⟨Nat.le_of_ble_eq_true rfl, Nat.le_of_ble_eq_true rfl⟩ ⟨Nat.zero_le _, Nat.zero_le _⟩ (q0 := 0) rfl rfl rfl rfl (Nat.le_of_ble_eq_true rfl) rfl rfl rfl dX9_shiftLeader_88 ?_
      refine j_icmp_ge C (tgt := 99) (by decide) dX9_shiftLeader_91 (fun h22 => ?_) (fun h22 => ?_)
      · replace hf := it_t h22 hf
        refine j_iload_n C dX9_shiftLeader_99 rfl ?_
        refine j_istore_n C (xs' := [some (.ref (b 0)), some (.int x1), some (.int x2), some (.int x3), some (.int x4), some (.int y0)]) dX9_shiftLeader_100 rfl rfl ?_
        refine j_iinc C (xs' := [some (.ref (b 0)), some (.int x1), some (.int x2), some (.int x3), some (.int (x4 + (1 : Int32))), some (.int y0)]) dX9_shiftLeader_101 rfl (ii_1 _) rfl rfl ?_
        refine j_goto C (tgt := 12) (by decide) dX9_shiftLeader_104 ?_
        refine j_weak [true, true, true, true, true, false] rfl ?_
        exact hk12 _ _ _ _ _ _ hf
      · replace hf := it_f h22 hf
        refine j_weak [true, true, true, false, true, false] rfl ?_
        exact w_X9_shiftLeader_94 C _ hk12 _ _ _ _ _ hf
set_option maxRecDepth 100000 in
set_option maxHeartbeats 4000000 in
theorem w_X9_shiftLeader_65 {p : Program} {l : Launch} {e : Env} {s_ : State} {m : MethodId} {args : Array Value} {below : List Frame} {meth : Method} {c : Code} {D : va_G} {cI cS : ClassId} {A : Nat → Prop} {b : Nat → Nat} {rest : va_W} {P : Nat → Int32} {E : Nat → Int32} {n : Int32} {hs : Int64} (C : cx p s_ m args meth c cX9_shiftLeader 6 RX9 (some .boolean) D cI cS) (k12 : (Nat → Int32) → Int32 → Int32 → Int32 → Int32 → Option (Int32 × (Nat → Int32))) (hk12 : ∀ (s : Nat → Int32) (x1 : Int32) (x2 : Int32) (x3 : Int32) (x4 : Int32) (r : Int32 × (Nat → Int32)), k12 s x1 x2 x3 x4 = some r → jG p l e (rmF 2 46) s_ m args below meth c 6 D A (MQ below (QW D A (wM b cI r.2 P E n hs rest) (some (.int r.1))) args s_ 0 0 A) (wM b cI s P E n hs rest) [some (.ref (b 0)), some (.int x1), some (.int x2), some (.int x3), some (.int x4), none] 12 []) : ∀ (s : Nat → Int32) (x1 : Int32) (x2 : Int32) (x3 : Int32) (x4 : Int32) (r : Int32 × (Nat → Int32)), f_X9_shiftLeader_65 k12 s x1 x2 x3 x4 = some r → jG p l e (rmF 2 46) s_ m args below meth c 6 D A (MQ below (QW D A (wM b cI r.2 P E n hs rest) (some (.int r.1))) args s_ 0 0 A) (wM b cI s P E n hs rest) [some (.ref (b 0)), some (.int x1), some (.int x2), some (.int x3), some (.int x4), none] 65 [] := by
  intro s x1 x2 x3 x4 r hf
  unfold f_X9_shiftLeader_65 at hf
  refine j_iconst C ic_0 dX9_shiftLeader_65 ?_
  exact w_X9_shiftLeader_66 C _ hk12 _ _ _ _ _ _ _ hf
set_option maxRecDepth 100000 in
set_option maxHeartbeats 4000000 in
theorem w_X9_shiftLeader_12 {p : Program} {l : Launch} {e : Env} {s_ : State} {m : MethodId} {args : Array Value} {below : List Frame} {meth : Method} {c : Code} {D : va_G} {cI cS : ClassId} {A : Nat → Prop} {b : Nat → Nat} {rest : va_W} {P : Nat → Int32} {E : Nat → Int32} {n : Int32} {hs : Int64} (C : cx p s_ m args meth c cX9_shiftLeader 6 RX9 (some .boolean) D cI cS)  : ∀ (n_ : Nat) (s : Nat → Int32) (x1 : Int32) (x2 : Int32) (x3 : Int32) (x4 : Int32) (r : Int32 × (Nat → Int32)), f_X9_shiftLeader_12  n_ s x1 x2 x3 x4 = some r → jG p l e (rmF 2 46) s_ m args below meth c 6 D A (MQ below (QW D A (wM b cI r.2 P E n hs rest) (some (.int r.1))) args s_ 0 0 A) (wM b cI s P E n hs rest) [some (.ref (b 0)), some (.int x1), some (.int x2), some (.int x3), some (.int x4), none] 12 [] := by
  intro n_
  induction n_ with
  | zero =>
    intro s x1 x2 x3 x4 r hf
    rw [f_X9_shiftLeader_12] at hf
    cases hf
  | succ n_ hk12 =>
    intro s x1 x2 x3 x4 r hf
    rw [f_X9_shiftLeader_12] at hf
    refine j_iload C dX9_shiftLeader_12 rfl ?_
    refine j_bipush C bp_8 dX9_shiftLeader_14 ?_
    refine j_icmp_ge C (tgt := 107) (by decide) dX9_shiftLeader_16 (fun h3 => ?_) (fun h3 => ?_)
    · replace hf := it_t h3 hf
      refine j_weak [true, true, false, true, false, false] rfl ?_
      exact w_X9_shiftLeader_107 C  _ _ _ _ hf
    · replace hf := it_f h3 hf
      refine j_iload_n C dX9_shiftLeader_19 rfl ?_
      refine j_iconst C ic_m1 dX9_shiftLeader_20 ?_
      refine j_icmp_eq C (tgt := 107) (by decide) dX9_shiftLeader_21 (fun h8 => ?_) (fun h8 => ?_)
      · replace hf := it_t h8 hf
        refine j_weak [true, true, false, true, false, false] rfl ?_
        exact w_X9_shiftLeader_107 C  _ _ _ _ hf
      · replace hf := it_f h8 hf
        refine j_aload_n C dX9_shiftLeader_24 rfl ?_
        refine j_iload_n C dX9_shiftLeader_25 rfl ?_
        refine j_iconst C ic_1 dX9_shiftLeader_26 ?_
        replace hf := bd hf
        obtain ⟨v9, h10, hf⟩ := hf
        refine j_callV C cl_X9_39 (c_X9_of h10) ⟨Nat.le_of_ble_eq_true rfl, Nat.le_of_ble_eq_true rfl⟩ ⟨Nat.zero_le _, Nat.zero_le _⟩ (q0 := 0) rfl rfl rfl rfl (Nat.le_of_ble_eq_true rfl) rfl rfl rfl dX9_shiftLeader_27 ?_
        refine j_aload_n C dX9_shiftLeader_30 rfl ?_
        replace hf := bd hf
        obtain ⟨v11, h12, hf⟩ := hf
        refine j_callV C cl_X9_43 (c_X9_ups h12) ⟨Nat.le_of_ble_eq_true rfl, Nat.le_of_ble_eq_true rfl⟩ ⟨Nat.zero_le _, Nat.zero_le _⟩ (q0 := 0) rfl rfl rfl rfl (Nat.le_of_ble_eq_true rfl) rfl rfl rfl dX9_shiftLeader_31 ?_
        refine j_iand C dX9_shiftLeader_34 ?_
        refine j_iload C dX9_shiftLeader_35 rfl ?_
        replace hf := bd hf
        obtain ⟨v13, h14, hf⟩ := hf
        refine j_callS C cl_X9_50 (c_X9_has h14) ⟨Nat.le_of_ble_eq_true rfl, Nat.le_of_ble_eq_true rfl⟩ ⟨Nat.zero_le _, Nat.zero_le _⟩ rfl (Nat.le_of_ble_eq_true rfl) rfl rfl rfl dX9_shiftLeader_37 ?_
        refine j_if_eq C (tgt := 65) (by decide) dX9_shiftLeader_40 (fun h15 => ?_) (fun h15 => ?_)
        · replace hf := it_t h15 hf
          exact w_X9_shiftLeader_65 C _ hk12 _ _ _ _ _ _ hf
        · replace hf := it_f h15 hf
          refine j_aload_n C dX9_shiftLeader_43 rfl ?_
          refine j_iload C dX9_shiftLeader_44 rfl ?_
          refine j_iconst C ic_m1 dX9_shiftLeader_46 ?_
          replace hf := bd hf
          obtain ⟨v23, h24, hf⟩ := hf
          refine j_callV C cl_X9_57 (c_X9_leads h24) ⟨Nat.le_of_ble_eq_true rfl, Nat.le_of_ble_eq_true rfl⟩ ⟨Nat.zero_le _, Nat.zero_le _⟩ (q0 := 0) rfl rfl rfl rfl (Nat.le_of_ble_eq_true rfl) rfl rfl rfl dX9_shiftLeader_47 ?_
          refine j_aload_n C dX9_shiftLeader_50 rfl ?_
          refine j_iload_n C dX9_shiftLeader_51 rfl ?_
          refine j_iconst C ic_m1 dX9_shiftLeader_52 ?_
          replace hf := bd hf
          obtain ⟨v25, h26, hf⟩ := hf
          refine j_callV C cl_X9_57 (c_X9_leads h26) ⟨Nat.le_of_ble_eq_true rfl, Nat.le_of_ble_eq_true rfl⟩ ⟨Nat.zero_le _, Nat.zero_le _⟩ (q0 := 0) rfl rfl rfl rfl (Nat.le_of_ble_eq_true rfl) rfl rfl rfl dX9_shiftLeader_53 ?_
          refine j_iconst C ic_2 dX9_shiftLeader_56 ?_
          refine j_isub C dX9_shiftLeader_57 ?_
          refine j_icmp_gt C (tgt := 65) (by decide) dX9_shiftLeader_58 (fun h27 => ?_) (fun h27 => ?_)
          · replace hf := it_t h27 hf
            exact w_X9_shiftLeader_65 C _ hk12 _ _ _ _ _ _ hf
          · replace hf := it_f h27 hf
            refine j_iconst C ic_1 dX9_shiftLeader_61 ?_
            refine j_goto C (tgt := 66) (by decide) dX9_shiftLeader_62 ?_
            exact w_X9_shiftLeader_66 C _ hk12 _ _ _ _ _ _ _ hf
set_option maxRecDepth 100000 in
set_option maxHeartbeats 4000000 in
theorem c_X9_shiftLeader {l : Launch} {D : va_G} {cI cS : ClassId} {A : Nat → Prop} {b : Nat → Nat} {rest : va_W} {P : Nat → Int32} {E : Nat → Int32} {n : Int32} {hs : Int64} {s : Nat → Int32} {x1 : Int32} {r : Int32 × (Nat → Int32)} (hf : f_X9_shiftLeader s x1 = some r) : CT l yX9_shiftLeader cX9_shiftLeader 6 (some .boolean) (rmF 2 46) D cI cS A [.ref (b 0), .int x1] (wM b cI s P E n hs rest) (wM b cI r.2 P E n hs rest) (some (.int r.1)) := by
  refine CT_of (own := RX9) (xs := [some (.ref (b 0)), some (.int x1), none, none, none, none]) (by decide) rfl (Nat.le_of_ble_eq_true rfl) rfl ?_
  intro p e s_ m below meth c C
  unfold f_X9_shiftLeader at hf
  refine j_aload_n C dX9_shiftLeader_0 rfl ?_
  refine j_iload_n C dX9_shiftLeader_1 rfl ?_
  refine j_iconst C ic_2 dX9_shiftLeader_2 ?_
  replace hf := bd hf
  obtain ⟨v1, h2, hf⟩ := hf
  refine j_callV C cl_X9_39 (c_X9_of h2) ⟨Nat.le_of_ble_eq_true rfl, Nat.le_of_ble_eq_true rfl⟩ ⟨Nat.zero_le _, Nat.zero_le _⟩ (q0 := 0) rfl rfl rfl rfl (Nat.le_of_ble_eq_true rfl) rfl rfl rfl dX9_shiftLeader_3 ?_
  refine j_istore_n C (xs' := [some (.ref (b 0)), some (.int x1), some (.int v1), none, none, none]) dX9_shiftLeader_6 rfl rfl ?_
  refine j_iconst C ic_m1 dX9_shiftLeader_7 ?_
  refine j_istore_n C (xs' := [some (.ref (b 0)), some (.int x1), some (.int v1), some (.int (-1 : Int32)), none, none]) dX9_shiftLeader_8 rfl rfl ?_
  refine j_iconst C ic_0 dX9_shiftLeader_9 ?_
  refine j_istore C (xs' := [some (.ref (b 0)), some (.int x1), some (.int v1), some (.int (-1 : Int32)), some (.int (0 : Int32)), none]) dX9_shiftLeader_10 rfl rfl ?_
  exact w_X9_shiftLeader_12 C  _ _ _ _ _ _ _ hf
set_option maxRecDepth 100000 in
set_option maxHeartbeats 4000000 in
theorem w_X9_shiftReplica_132 {p : Program} {l : Launch} {e : Env} {s_ : State} {m : MethodId} {args : Array Value} {below : List Frame} {meth : Method} {c : Code} {D : va_G} {cI cS : ClassId} {A : Nat → Prop} {b : Nat → Nat} {rest : va_W} {P : Nat → Int32} {E : Nat → Int32} {n : Int32} {hs : Int64} (C : cx p s_ m args meth c cX9_shiftReplica 5 RX9 (some .boolean) D cI cS)  : ∀ (s : Nat → Int32) (x1 : Int32) (x2 : Int32) (x3 : Int32) (r : Int32 × (Nat → Int32)), f_X9_shiftReplica_132  s x1 x2 x3 = some r → jG p l e (rmF 6 137) s_ m args below meth c 5 D A (MQ below (QW D A (wM b cI r.2 P E n hs rest) (some (.int r.1))) args s_ 0 0 A) (wM b cI s P E n hs rest) [some (.ref (b 0)), some (.int x1), some (.int x2), some (.int x3), none] 132 [] := by
  intro s x1 x2 x3 r hf
  unfold f_X9_shiftReplica_132 at hf
  refine j_aload_n C dX9_shiftReplica_132 rfl ?_
  refine j_iload_n C dX9_shiftReplica_133 rfl ?_
  refine j_iload_n C dX9_shiftReplica_134 rfl ?_
  refine j_iload_n C dX9_shiftReplica_135 rfl ?_
  replace hf := bd hf
  obtain ⟨v18, h19, hf⟩ := hf
  refine j_callV C cl_X9_92 (c_X9_learn h19) ⟨Nat.le_of_ble_eq_true rfl, Nat.le_of_ble_eq_true rfl⟩ ⟨Nat.zero_le _, Nat.zero_le _⟩ (q0 := 0) rfl rfl rfl rfl (Nat.le_of_ble_eq_true rfl) rfl rfl wM_fst dX9_shiftReplica_136 ?_
  refine j_iconst C ic_1 dX9_shiftReplica_139 ?_
  cases hf
  exact j_zret C zc_1 dX9_shiftReplica_140
set_option maxRecDepth 100000 in
set_option maxHeartbeats 4000000 in
theorem w_X9_shiftReplica_61 {p : Program} {l : Launch} {e : Env} {s_ : State} {m : MethodId} {args : Array Value} {below : List Frame} {meth : Method} {c : Code} {D : va_G} {cI cS : ClassId} {A : Nat → Prop} {b : Nat → Nat} {rest : va_W} {P : Nat → Int32} {E : Nat → Int32} {n : Int32} {hs : Int64} (C : cx p s_ m args meth c cX9_shiftReplica 5 RX9 (some .boolean) D cI cS) (k14 : (Nat → Int32) → Int32 → Int32 → Int32 → Option (Int32 × (Nat → Int32))) (hk14 : ∀ (s : Nat → Int32) (x1 : Int32) (x2 : Int32) (x3 : Int32) (r : Int32 × (Nat → Int32)), k14 s x1 x2 x3 = some r → jG p l e (rmF 6 137) s_ m args below meth c 5 D A (MQ below (QW D A (wM b cI r.2 P E n hs rest) (some (.int r.1))) args s_ 0 0 A) (wM b cI s P E n hs rest) [some (.ref (b 0)), some (.int x1), some (.int x2), some (.int x3), none] 14 []) : ∀ (s : Nat → Int32) (x1 : Int32) (x2 : Int32) (x3 : Int32) (y0 : Int32) (r : Int32 × (Nat → Int32)), f_X9_shiftReplica_61 k14 s x1 x2 x3 y0 = some r → jG p l e (rmF 6 137) s_ m args below meth c 5 D A (MQ below (QW D A (wM b cI r.2 P E n hs rest) (some (.int r.1))) args s_ 0 0 A) (wM b cI s P E n hs rest) [some (.ref (b 0)), some (.int x1), some (.int x2), some (.int x3), none] 61 [.int y0] := by
  intro s x1 x2 x3 y0 r hf
  unfold f_X9_shiftReplica_61 at hf
  refine j_istore C (xs' := [some (.ref (b 0)), some (.int x1), some (.int x2), some (.int x3), some (.int y0)]) dX9_shiftReplica_61 rfl rfl ?_
  refine j_iload C dX9_shiftReplica_63 rfl ?_
  refine j_if_eq C (tgt := 72) (by decide) dX9_shiftReplica_65 (fun h30 => ?_) (fun h30 => ?_)
  · replace hf := it_t h30 hf
    refine j_iload_n C dX9_shiftReplica_72 rfl ?_
    refine j_istore_n C (xs' := [some (.ref (b 0)), some (.int x1), some (.int x2), some (.int x3), some (.int y0)]) dX9_shiftReplica_73 rfl rfl ?_
    refine j_iinc C (xs' := [some (.ref (b 0)), some (.int x1), some (.int x2), some (.int (x3 + (1 : Int32))), some (.int y0)]) dX9_shiftReplica_74 rfl (ii_1 _) rfl rfl ?_
    refine j_goto C (tgt := 14) (by decide) dX9_shiftReplica_77 ?_
    refine j_weak [true, true, true, true, false] rfl ?_
    exact hk14 _ _ _ _ _ hf
  · replace hf := it_f h30 hf
    refine j_iload_n C dX9_shiftReplica_68 rfl ?_
    refine j_goto C (tgt := 73) (by decide) dX9_shiftReplica_69 ?_
    refine j_istore_n C (xs' := [some (.ref (b 0)), some (.int x1), some (.int x3), some (.int x3), some (.int y0)]) dX9_shiftReplica_73 rfl rfl ?_
    refine j_iinc C (xs' := [some (.ref (b 0)), some (.int x1), some (.int x3), some (.int (x3 + (1 : Int32))), some (.int y0)]) dX9_shiftReplica_74 rfl (ii_1 _) rfl rfl ?_
    refine j_goto C (tgt := 14) (by decide) dX9_shiftReplica_77 ?_
    refine j_weak [true, true, true, true, false] rfl ?_
    exact hk14 _ _ _ _ _ hf
set_option maxRecDepth 100000 in
set_option maxHeartbeats 4000000 in
theorem w_X9_shiftReplica_60 {p : Program} {l : Launch} {e : Env} {s_ : State} {m : MethodId} {args : Array Value} {below : List Frame} {meth : Method} {c : Code} {D : va_G} {cI cS : ClassId} {A : Nat → Prop} {b : Nat → Nat} {rest : va_W} {P : Nat → Int32} {E : Nat → Int32} {n : Int32} {hs : Int64} (C : cx p s_ m args meth c cX9_shiftReplica 5 RX9 (some .boolean) D cI cS) (k14 : (Nat → Int32) → Int32 → Int32 → Int32 → Option (Int32 × (Nat → Int32))) (hk14 : ∀ (s : Nat → Int32) (x1 : Int32) (x2 : Int32) (x3 : Int32) (r : Int32 × (Nat → Int32)), k14 s x1 x2 x3 = some r → jG p l e (rmF 6 137) s_ m args below meth c 5 D A (MQ below (QW D A (wM b cI r.2 P E n hs rest) (some (.int r.1))) args s_ 0 0 A) (wM b cI s P E n hs rest) [some (.ref (b 0)), some (.int x1), some (.int x2), some (.int x3), none] 14 []) : ∀ (s : Nat → Int32) (x1 : Int32) (x2 : Int32) (x3 : Int32) (r : Int32 × (Nat → Int32)), f_X9_shiftReplica_60 k14 s x1 x2 x3 = some r → jG p l e (rmF 6 137) s_ m args below meth c 5 D A (MQ below (QW D A (wM b cI r.2 P E n hs rest) (some (.int r.1))) args s_ 0 0 A) (wM b cI s P E n hs rest) [some (.ref (b 0)), some (.int x1), some (.int x2), some (.int x3), none] 60 [] := by
  intro s x1 x2 x3 r hf
  unfold f_X9_shiftReplica_60 at hf
  refine j_iconst C ic_0 dX9_shiftReplica_60 ?_
  exact w_X9_shiftReplica_61 C _ hk14 _ _ _ _ _ _ hf
set_option maxRecDepth 100000 in
set_option maxHeartbeats 4000000 in
theorem w_X9_shiftReplica_56 {p : Program} {l : Launch} {e : Env} {s_ : State} {m : MethodId} {args : Array Value} {below : List Frame} {meth : Method} {c : Code} {D : va_G} {cI cS : ClassId} {A : Nat → Prop} {b : Nat → Nat} {rest : va_W} {P : Nat → Int32} {E : Nat → Int32} {n : Int32} {hs : Int64} (C : cx p s_ m args meth c cX9_shiftReplica 5 RX9 (some .boolean) D cI cS) (k14 : (Nat → Int32) → Int32 → Int32 → Int32 → Option (Int32 × (Nat → Int32))) (hk14 : ∀ (s : Nat → Int32) (x1 : Int32) (x2 : Int32) (x3 : Int32) (r : Int32 × (Nat → Int32)), k14 s x1 x2 x3 = some r → jG p l e (rmF 6 137) s_ m args below meth c 5 D A (MQ below (QW D A (wM b cI r.2 P E n hs rest) (some (.int r.1))) args s_ 0 0 A) (wM b cI s P E n hs rest) [some (.ref (b 0)), some (.int x1), some (.int x2), some (.int x3), none] 14 []) : ∀ (s : Nat → Int32) (x1 : Int32) (x2 : Int32) (x3 : Int32) (r : Int32 × (Nat → Int32)), f_X9_shiftReplica_56 k14 s x1 x2 x3 = some r → jG p l e (rmF 6 137) s_ m args below meth c 5 D A (MQ below (QW D A (wM b cI r.2 P E n hs rest) (some (.int r.1))) args s_ 0 0 A) (wM b cI s P E n hs rest) [some (.ref (b 0)), some (.int x1), some (.int x2), some (.int x3), none] 56 [] := by
  intro s x1 x2 x3 r hf
  unfold f_X9_shiftReplica_56 at hf
  refine j_iconst C ic_1 dX9_shiftReplica_56 ?_
  refine j_goto C (tgt := 61) (by decide) dX9_shiftReplica_57 ?_
  exact w_X9_shiftReplica_61 C _ hk14 _ _ _ _ _ _ hf
set_option maxRecDepth 100000 in
set_option maxHeartbeats 4000000 in
theorem w_X9_shiftReplica_14 {p : Program} {l : Launch} {e : Env} {s_ : State} {m : MethodId} {args : Array Value} {below : List Frame} {meth : Method} {c : Code} {D : va_G} {cI cS : ClassId} {A : Nat → Prop} {b : Nat → Nat} {rest : va_W} {P : Nat → Int32} {E : Nat → Int32} {n : Int32} {hs : Int64} (C : cx p s_ m args meth c cX9_shiftReplica 5 RX9 (some .boolean) D cI cS)  : ∀ (n_ : Nat) (s : Nat → Int32) (x1 : Int32) (x2 : Int32) (x3 : Int32) (r : Int32 × (Nat → Int32)), f_X9_shiftReplica_14  n_ s x1 x2 x3 = some r → jG p l e (rmF 6 137) s_ m args below meth c 5 D A (MQ below (QW D A (wM b cI r.2 P E n hs rest) (some (.int r.1))) args s_ 0 0 A) (wM b cI s P E n hs rest) [some (.ref (b 0)), some (.int x1), some (.int x2), some (.int x3), none] 14 [] := by
  intro n_
  induction n_ with
  | zero =>
    intro s x1 x2 x3 r hf
    rw [f_X9_shiftReplica_14] at hf
    cases hf
  | succ n_ hk14 =>
    intro s x1 x2 x3 r hf
    rw [f_X9_shiftReplica_14] at hf
    refine j_iload_n C dX9_shiftReplica_14 rfl ?_
    refine j_aload_n C dX9_shiftReplica_15 rfl ?_
    refine gf_X9_7 C dX9_shiftReplica_16 ?_
    refine j_bipush C bp_15 dX9_shiftReplica_19 ?_
    replace hf := ld_s hf
    obtain ⟨v4, h5, e_v4, hf⟩ := hf
    refine aLM_1 C h5 e_v4 dX9_shiftReplica_21 ?_
    refine j_icmp_ge C (tgt := 80) (by decide) dX9_shiftReplica_22 (fun h6 => ?_) (fun h6 => ?_)
    · replace hf := it_t h6 hf
      refine j_aload_n C dX9_shiftReplica_80 rfl ?_
      refine j_iload_n C dX9_shiftReplica_81 rfl ?_
      refine j_iload_n C dX9_shiftReplica_82 rfl ?_
      replace hf := bd hf
      obtain ⟨v7, h8, hf⟩ := hf
      refine j_callV C cl_X9_89 (c_X9_choose h8) ⟨Nat.le_of_ble_eq_true rfl, Nat.le_of_ble_eq_true rfl⟩ ⟨Nat.zero_le _, Nat.zero_le _⟩ (q0 := 0) rfl rfl rfl rfl (Nat.le_of_ble_eq_true rfl) rfl rfl rfl dX9_shiftReplica_83 ?_
      refine j_istore_n C (xs' := [some (.ref (b 0)), some (.int x1), some (.int x2), some (.int v7), none]) dX9_shiftReplica_86 rfl rfl ?_
      refine j_iload_n C dX9_shiftReplica_87 rfl ?_
      refine j_iconst C ic_m1 dX9_shiftReplica_88 ?_
      refine j_icmp_eq C (tgt := 130) (by decide) dX9_shiftReplica_89 (fun h9 => ?_) (fun h9 => ?_)
      · replace hf := it_t h9 hf
        refine j_iconst C ic_0 dX9_shiftReplica_130 ?_
        cases hf
        exact j_zret C zc_0 dX9_shiftReplica_131
      · replace hf := it_f h9 hf
        refine j_aload_n C dX9_shiftReplica_92 rfl ?_
        refine j_iload_n C dX9_shiftReplica_93 rfl ?_
        replace hf := bd hf
        obtain ⟨v10, h11, hf⟩ := hf
        refine j_callV C cl_X9_63 (c_X9_replicasOf h11) ⟨Nat.le_of_ble_eq_true rfl, Nat.le_of_ble_eq_true rfl⟩ ⟨Nat.zero_le _, Nat.zero_le _⟩ (q0 := 0) rfl rfl rfl rfl (Nat.le_of_ble_eq_true rfl) rfl rfl rfl dX9_shiftReplica_94 ?_
        refine j_aload_n C dX9_shiftReplica_97 rfl ?_
        refine j_iload_n C dX9_shiftReplica_98 rfl ?_
        replace hf := bd hf
        obtain ⟨v12, h13, hf⟩ := hf
        refine j_callV C cl_X9_63 (c_X9_replicasOf h13) ⟨Nat.le_of_ble_eq_true rfl, Nat.le_of_ble_eq_true rfl⟩ ⟨Nat.zero_le _, Nat.zero_le _⟩ (q0 := 0) rfl rfl rfl rfl (Nat.le_of_ble_eq_true rfl) rfl rfl rfl dX9_shiftReplica_99 ?_
        refine j_iconst C ic_2 dX9_shiftReplica_102 ?_
        refine j_isub C dX9_shiftReplica_103 ?_
        refine j_icmp_gt C (tgt := 130) (by decide) dX9_shiftReplica_104 (fun h14 => ?_) (fun h14 => ?_)
        · replace hf := it_t h14 hf
          refine j_iconst C ic_0 dX9_shiftReplica_130 ?_
          cases hf
          exact j_zret C zc_0 dX9_shiftReplica_131
        · replace hf := it_f h14 hf
          refine j_aload_n C dX9_shiftReplica_107 rfl ?_
          refine j_iload_n C dX9_shiftReplica_108 rfl ?_
          refine j_iload_n C dX9_shiftReplica_109 rfl ?_
          refine j_iload_n C dX9_shiftReplica_110 rfl ?_
          replace hf := bd hf
          obtain ⟨v15, h16, hf⟩ := hf
          refine j_callV C cl_X9_66 (c_X9_isFresh h16) ⟨Nat.le_of_ble_eq_true rfl, Nat.le_of_ble_eq_true rfl⟩ ⟨Nat.zero_le _, Nat.zero_le _⟩ (q0 := 0) rfl rfl rfl rfl (Nat.le_of_ble_eq_true rfl) rfl rfl rfl dX9_shiftReplica_111 ?_
          refine j_if_ne C (tgt := 132) (by decide) dX9_shiftReplica_114 (fun h17 => ?_) (fun h17 => ?_)
          · replace hf := it_f h17 hf
            exact w_X9_shiftReplica_132 C  _ _ _ _ _ hf
          · replace hf := it_t h17 hf
            refine j_aload_n C dX9_shiftReplica_117 rfl ?_
            refine j_iload_n C dX9_shiftReplica_118 rfl ?_
            replace hf := bd hf
            obtain ⟨v20, h21, hf⟩ := hf
            refine j_callV C cl_X9_60 (c_X9_zone h21) ⟨Nat.le_of_ble_eq_true rfl, Nat.le_of_ble_eq_true rfl⟩ ⟨Nat.zero_le _, Nat.zero_le _⟩ (q0 := 0) rfl rfl rfl rfl (Nat.le_of_ble_eq_true rfl) rfl rfl rfl dX9_shiftReplica_119 ?_
            refine j_aload_n C dX9_shiftReplica_122 rfl ?_
            refine j_iload_n C dX9_shiftReplica_123 rfl ?_
            replace hf := bd hf
            obtain ⟨v22, h23, hf⟩ := hf
            refine j_callV C cl_X9_60 (c_X9_zone h23) ⟨Nat.le_of_ble_eq_true rfl, Nat.le_of_ble_eq_true rfl⟩ ⟨Nat.zero_le _, Nat.zero_le _⟩ (q0 := 0) rfl rfl rfl rfl (Nat.le_of_ble_eq_true rfl) rfl rfl rfl dX9_shiftReplica_124 ?_
            refine j_icmp_eq C (tgt := 132) (by decide) dX9_shiftReplica_127 (fun h24 => ?_) (fun h24 => ?_)
            · replace hf := it_t h24 hf
              exact w_X9_shiftReplica_132 C  _ _ _ _ _ hf
            · replace hf := it_f h24 hf
              refine j_iconst C ic_0 dX9_shiftReplica_130 ?_
              cases hf
              exact j_zret C zc_0 dX9_shiftReplica_131
    · replace hf := it_f h6 hf
      refine j_aload_n C dX9_shiftReplica_25 rfl ?_
      refine j_iload_n C dX9_shiftReplica_26 rfl ?_
      refine j_iconst C ic_1 dX9_shiftReplica_27 ?_
      replace hf := bd hf
      obtain ⟨v25, h26, hf⟩ := hf
      refine j_callV C cl_X9_39 (c_X9_of h26) ⟨Nat.le_of_ble_eq_true rfl, Nat.le_of_ble_eq_true rfl⟩ ⟨Nat.zero_le _, Nat.zero_le _⟩ (q0 := 0) rfl rfl rfl rfl (Nat.le_of_ble_eq_true rfl) rfl rfl rfl dX9_shiftReplica_28 ?_
      refine j_iload_n C dX9_shiftReplica_31 rfl ?_
      replace hf := bd hf
      obtain ⟨v27, h28, hf⟩ := hf
      refine j_callS C cl_X9_50 (c_X9_has h28) ⟨Nat.le_of_ble_eq_true rfl, Nat.le_of_ble_eq_true rfl⟩ ⟨Nat.zero_le _, Nat.zero_le _⟩ rfl (Nat.le_of_ble_eq_true rfl) rfl rfl rfl dX9_shiftReplica_32 ?_
      refine j_if_eq C (tgt := 60) (by decide) dX9_shiftReplica_35 (fun h29 => ?_) (fun h29 => ?_)
      · replace hf := it_t h29 hf
        exact w_X9_shiftReplica_60 C _ hk14 _ _ _ _ _ hf
      · replace hf := it_f h29 hf
        refine j_iload_n C dX9_shiftReplica_38 rfl ?_
        refine j_iconst C ic_m1 dX9_shiftReplica_39 ?_
        refine j_icmp_eq C (tgt := 56) (by decide) dX9_shiftReplica_40 (fun h31 => ?_) (fun h31 => ?_)
        · replace hf := it_t h31 hf
          exact w_X9_shiftReplica_56 C _ hk14 _ _ _ _ _ hf
        · replace hf := it_f h31 hf
          refine j_aload_n C dX9_shiftReplica_43 rfl ?_
          refine j_iload_n C dX9_shiftReplica_44 rfl ?_
          replace hf := bd hf
          obtain ⟨v32, h33, hf⟩ := hf
          refine j_callV C cl_X9_63 (c_X9_replicasOf h33) ⟨Nat.le_of_ble_eq_true rfl, Nat.le_of_ble_eq_true rfl⟩ ⟨Nat.zero_le _, Nat.zero_le _⟩ (q0 := 0) rfl rfl rfl rfl (Nat.le_of_ble_eq_true rfl) rfl rfl rfl dX9_shiftReplica_45 ?_
          refine j_aload_n C dX9_shiftReplica_48 rfl ?_
          refine j_iload_n C dX9_shiftReplica_49 rfl ?_
          replace hf := bd hf
          obtain ⟨v34, h35, hf⟩ := hf
          refine j_callV C cl_X9_63 (c_X9_replicasOf h35) ⟨Nat.le_of_ble_eq_true rfl, Nat.le_of_ble_eq_true rfl⟩ ⟨Nat.zero_le _, Nat.zero_le _⟩ (q0 := 0) rfl rfl rfl rfl (Nat.le_of_ble_eq_true rfl) rfl rfl rfl dX9_shiftReplica_50 ?_
          refine j_icmp_le C (tgt := 60) (by decide) dX9_shiftReplica_53 (fun h36 => ?_) (fun h36 => ?_)
          · replace hf := it_t h36 hf
            exact w_X9_shiftReplica_60 C _ hk14 _ _ _ _ _ hf
          · replace hf := it_f h36 hf
            exact w_X9_shiftReplica_56 C _ hk14 _ _ _ _ _ hf
set_option maxRecDepth 100000 in
set_option maxHeartbeats 4000000 in
theorem c_X9_shiftReplica {l : Launch} {D : va_G} {cI cS : ClassId} {A : Nat → Prop} {b : Nat → Nat} {rest : va_W} {P : Nat → Int32} {E : Nat → Int32} {n : Int32} {hs : Int64} {s : Nat → Int32} {x1 : Int32} {r : Int32 × (Nat → Int32)} (hf : f_X9_shiftReplica s x1 = some r) : CT l yX9_shiftReplica cX9_shiftReplica 5 (some .boolean) (rmF 6 137) D cI cS A [.ref (b 0), .int x1] (wM b cI s P E n hs rest) (wM b cI r.2 P E n hs rest) (some (.int r.1)) := by
  refine CT_of (own := RX9) (xs := [some (.ref (b 0)), some (.int x1), none, none, none]) (by decide) rfl (Nat.le_of_ble_eq_true rfl) rfl ?_
  intro p e s_ m below meth c C
  unfold f_X9_shiftReplica at hf
  refine j_aload_n C dX9_shiftReplica_0 rfl ?_
  refine j_iload_n C dX9_shiftReplica_1 rfl ?_
  replace hf := bd hf
  obtain ⟨v1, h2, hf⟩ := hf
  refine j_callV C cl_X9_95 (c_X9_isWhole h2) ⟨Nat.le_of_ble_eq_true rfl, Nat.le_of_ble_eq_true rfl⟩ ⟨Nat.zero_le _, Nat.zero_le _⟩ (q0 := 0) rfl rfl rfl rfl (Nat.le_of_ble_eq_true rfl) rfl rfl rfl dX9_shiftReplica_2 ?_
  refine j_if_ne C (tgt := 10) (by decide) dX9_shiftReplica_5 (fun h3 => ?_) (fun h3 => ?_)
  · replace hf := it_f h3 hf
    refine j_iconst C ic_m1 dX9_shiftReplica_10 ?_
    refine j_istore_n C (xs' := [some (.ref (b 0)), some (.int x1), some (.int (-1 : Int32)), none, none]) dX9_shiftReplica_11 rfl rfl ?_
    refine j_iconst C ic_0 dX9_shiftReplica_12 ?_
    refine j_istore_n C (xs' := [some (.ref (b 0)), some (.int x1), some (.int (-1 : Int32)), some (.int (0 : Int32)), none]) dX9_shiftReplica_13 rfl rfl ?_
    exact w_X9_shiftReplica_14 C  _ _ _ _ _ _ hf
  · replace hf := it_t h3 hf
    refine j_iconst C ic_0 dX9_shiftReplica_8 ?_
    cases hf
    exact j_zret C zc_0 dX9_shiftReplica_9
set_option maxRecDepth 100000 in
set_option maxHeartbeats 4000000 in
theorem c_X9_does {l : Launch} {D : va_G} {cI cS : ClassId} {A : Nat → Prop} {b : Nat → Nat} {rest : va_W} {P : Nat → Int32} {E : Nat → Int32} {n : Int32} {hs : Int64} {s : Nat → Int32} {x1 : Int32} {x2 : Int32} {r : Int32 × (Nat → Int32)} (hf : f_X9_does s x1 x2 = some r) : CT l yX9_does cX9_does 3 (some .boolean) (rmF 7 168) D cI cS A [.ref (b 0), .int x1, .int x2] (wM b cI s P E n hs rest) (wM b cI r.2 P E n hs rest) (some (.int r.1)) := by
  refine CT_of (own := RX9) (xs := [some (.ref (b 0)), some (.int x1), some (.int x2)]) (by decide) rfl (Nat.le_of_ble_eq_true rfl) rfl ?_
  intro p e s_ m below meth c C
  unfold f_X9_does at hf
  refine j_iload_n C dX9_does_0 rfl ?_
  rcases Decidable.em (x1 = (1 : Int32)) with h4 | h4
  · replace hf := it_t h4 hf
    refine j_tabIn C (tgt := 44) (by rw [h4]; decide) (by rw [h4]; decide) (by rw [h4]; rfl) (by decide) dX9_does_1 ?_
    refine j_aload_n C dX9_does_44 rfl ?_
    refine j_iload_n C dX9_does_45 rfl ?_
    replace hf := bd hf
    obtain ⟨v29, h30, hf⟩ := hf
    refine j_callV C cl_X9_111 (c_X9_create h30) ⟨Nat.le_of_ble_eq_true rfl, Nat.le_of_ble_eq_true rfl⟩ ⟨Nat.zero_le _, Nat.zero_le _⟩ (q0 := 0) rfl rfl rfl rfl (Nat.le_of_ble_eq_true rfl) rfl rfl wM_fst dX9_does_46 ?_
    replace hf := zr_s hf
    obtain ⟨h31, hf⟩ := hf
    cases hf
    exact j_zret C h31 dX9_does_49
  · replace hf := it_f h4 hf
    rcases Decidable.em (x1 = (2 : Int32)) with h5 | h5
    · replace hf := it_t h5 hf
      refine j_tabIn C (tgt := 50) (by rw [h5]; decide) (by rw [h5]; decide) (by rw [h5]; rfl) (by decide) dX9_does_1 ?_
      refine j_aload_n C dX9_does_50 rfl ?_
      refine j_iload_n C dX9_does_51 rfl ?_
      replace hf := bd hf
      obtain ⟨v26, h27, hf⟩ := hf
      refine j_callV C cl_X9_114 (c_X9_repair h27) ⟨Nat.le_of_ble_eq_true rfl, Nat.le_of_ble_eq_true rfl⟩ ⟨Nat.zero_le _, Nat.zero_le _⟩ (q0 := 0) rfl rfl rfl rfl (Nat.le_of_ble_eq_true rfl) rfl rfl wM_fst dX9_does_52 ?_
      replace hf := zr_s hf
      obtain ⟨h28, hf⟩ := hf
      cases hf
      exact j_zret C h28 dX9_does_55
    · replace hf := it_f h5 hf
      rcases Decidable.em (x1 = (3 : Int32)) with h6 | h6
      · replace hf := it_t h6 hf
        refine j_tabIn C (tgt := 56) (by rw [h6]; decide) (by rw [h6]; decide) (by rw [h6]; rfl) (by decide) dX9_does_1 ?_
        refine j_aload_n C dX9_does_56 rfl ?_
        refine j_iload_n C dX9_does_57 rfl ?_
        replace hf := bd hf
        obtain ⟨v23, h24, hf⟩ := hf
        refine j_callV C cl_X9_117 (c_X9_spread h24) ⟨Nat.le_of_ble_eq_true rfl, Nat.le_of_ble_eq_true rfl⟩ ⟨Nat.zero_le _, Nat.zero_le _⟩ (q0 := 0) rfl rfl rfl rfl (Nat.le_of_ble_eq_true rfl) rfl rfl wM_fst dX9_does_58 ?_
        replace hf := zr_s hf
        obtain ⟨h25, hf⟩ := hf
        cases hf
        exact j_zret C h25 dX9_does_61
      · replace hf := it_f h6 hf
        rcases Decidable.em (x1 = (4 : Int32)) with h7 | h7
        · replace hf := it_t h7 hf
          refine j_tabIn C (tgt := 62) (by rw [h7]; decide) (by rw [h7]; decide) (by rw [h7]; rfl) (by decide) dX9_does_1 ?_
          refine j_aload_n C dX9_does_62 rfl ?_
          refine j_iload_n C dX9_does_63 rfl ?_
          refine j_iconst C ic_0 dX9_does_64 ?_
          replace hf := bd hf
          obtain ⟨v20, h21, hf⟩ := hf
          refine j_callV C cl_X9_120 (c_X9_splitBy h21) ⟨Nat.le_of_ble_eq_true rfl, Nat.le_of_ble_eq_true rfl⟩ ⟨Nat.zero_le _, Nat.zero_le _⟩ (q0 := 0) rfl rfl rfl rfl (Nat.le_of_ble_eq_true rfl) rfl rfl wM_fst dX9_does_65 ?_
          replace hf := zr_s hf
          obtain ⟨h22, hf⟩ := hf
          cases hf
          exact j_zret C h22 dX9_does_68
        · replace hf := it_f h7 hf
          rcases Decidable.em (x1 = (5 : Int32)) with h8 | h8
          · replace hf := it_t h8 hf
            refine j_tabIn C (tgt := 69) (by rw [h8]; decide) (by rw [h8]; decide) (by rw [h8]; rfl) (by decide) dX9_does_1 ?_
            refine j_aload_n C dX9_does_69 rfl ?_
            refine j_iload_n C dX9_does_70 rfl ?_
            refine j_iconst C ic_1 dX9_does_71 ?_
            replace hf := bd hf
            obtain ⟨v17, h18, hf⟩ := hf
            refine j_callV C cl_X9_120 (c_X9_splitBy h18) ⟨Nat.le_of_ble_eq_true rfl, Nat.le_of_ble_eq_true rfl⟩ ⟨Nat.zero_le _, Nat.zero_le _⟩ (q0 := 0) rfl rfl rfl rfl (Nat.le_of_ble_eq_true rfl) rfl rfl wM_fst dX9_does_72 ?_
            replace hf := zr_s hf
            obtain ⟨h19, hf⟩ := hf
            cases hf
            exact j_zret C h19 dX9_does_75
          · replace hf := it_f h8 hf
            rcases Decidable.em (x1 = (6 : Int32)) with h9 | h9
            · replace hf := it_t h9 hf
              refine j_tabIn C (tgt := 76) (by rw [h9]; decide) (by rw [h9]; decide) (by rw [h9]; rfl) (by decide) dX9_does_1 ?_
              refine j_aload_n C dX9_does_76 rfl ?_
              refine j_iload_n C dX9_does_77 rfl ?_
              replace hf := bd hf
              obtain ⟨v14, h15, hf⟩ := hf
              refine j_callV C cl_X9_123 (c_X9_mergeNext h15) ⟨Nat.le_of_ble_eq_true rfl, Nat.le_of_ble_eq_true rfl⟩ ⟨Nat.zero_le _, Nat.zero_le _⟩ (q0 := 0) rfl rfl rfl rfl (Nat.le_of_ble_eq_true rfl) rfl rfl wM_fst dX9_does_78 ?_
              replace hf := zr_s hf
              obtain ⟨h16, hf⟩ := hf
              cases hf
              exact j_zret C h16 dX9_does_81
            · replace hf := it_f h9 hf
              rcases Decidable.em (x1 = (7 : Int32)) with h10 | h10
              · replace hf := it_t h10 hf
                refine j_tabIn C (tgt := 82) (by rw [h10]; decide) (by rw [h10]; decide) (by rw [h10]; rfl) (by decide) dX9_does_1 ?_
                refine j_aload_n C dX9_does_82 rfl ?_
                refine j_iload_n C dX9_does_83 rfl ?_
                replace hf := bd hf
                obtain ⟨v11, h12, hf⟩ := hf
                refine j_callV C cl_X9_126 (c_X9_shiftLeader h12) ⟨Nat.le_of_ble_eq_true rfl, Nat.le_of_ble_eq_true rfl⟩ ⟨Nat.zero_le _, Nat.zero_le _⟩ (q0 := 0) rfl rfl rfl rfl (Nat.le_of_ble_eq_true rfl) rfl rfl wM_fst dX9_does_84 ?_
                replace hf := zr_s hf
                obtain ⟨h13, hf⟩ := hf
                cases hf
                exact j_zret C h13 dX9_does_87
              · replace hf := it_f h10 hf
                refine j_tabOut C (tgt := 88) (ts_out_1_7 h4 h5 h6 h7 h8 h9 h10) (by decide) dX9_does_1 ?_
                refine j_aload_n C dX9_does_88 rfl ?_
                refine j_iload_n C dX9_does_89 rfl ?_
                replace hf := bd hf
                obtain ⟨v1, h2, hf⟩ := hf
                refine j_callV C cl_X9_129 (c_X9_shiftReplica h2) ⟨Nat.le_of_ble_eq_true rfl, Nat.le_of_ble_eq_true rfl⟩ ⟨Nat.zero_le _, Nat.zero_le _⟩ (q0 := 0) rfl rfl rfl rfl (Nat.le_of_ble_eq_true rfl) rfl rfl wM_fst dX9_does_90 ?_
                replace hf := zr_s hf
                obtain ⟨h3, hf⟩ := hf
                cases hf
                exact j_zret C h3 dX9_does_93
set_option maxRecDepth 100000 in
set_option maxHeartbeats 4000000 in
theorem w_X9_oneTick_45 {p : Program} {l : Launch} {e : Env} {s_ : State} {m : MethodId} {args : Array Value} {below : List Frame} {meth : Method} {c : Code} {D : va_G} {cI cS : ClassId} {A : Nat → Prop} {b : Nat → Nat} {rest : va_W} {P : Nat → Int32} {E : Nat → Int32} {n : Int32} {hs : Int64} (C : cx p s_ m args meth c cX9_oneTick 3 RX9 (some .int) D cI cS) (k37 : (Nat → Int32) → Int32 → Option (Int32 × (Nat → Int32))) (hk37 : ∀ (s : Nat → Int32) (x1 : Int32) (r : Int32 × (Nat → Int32)), k37 s x1 = some r → jG p l e (rmF 8 190) s_ m args below meth c 3 D A (MQ below (QW D A (wM b cI r.2 P E n hs rest) (some (.int r.1))) args s_ 0 0 A) (wM b cI s P E n hs rest) [some (.ref (b 0)), some (.int x1), none] 37 []) : ∀ (n_ : Nat) (s : Nat → Int32) (x1 : Int32) (x2 : Int32) (r : Int32 × (Nat → Int32)), f_X9_oneTick_45 k37 n_ s x1 x2 = some r → jG p l e (rmF 8 190) s_ m args below meth c 3 D A (MQ below (QW D A (wM b cI r.2 P E n hs rest) (some (.int r.1))) args s_ 0 0 A) (wM b cI s P E n hs rest) [some (.ref (b 0)), some (.int x1), some (.int x2)] 45 [] := by
  intro n_
  induction n_ with
  | zero =>
    intro s x1 x2 r hf
    rw [f_X9_oneTick_45] at hf
    cases hf
  | succ n_ hk45 =>
    intro s x1 x2 r hf
    rw [f_X9_oneTick_45] at hf
    refine j_iload_n C dX9_oneTick_45 rfl ?_
    refine j_aload_n C dX9_oneTick_46 rfl ?_
    refine gf_X9_7 C dX9_oneTick_47 ?_
    refine j_bipush C bp_17 dX9_oneTick_50 ?_
    replace hf := ld_s hf
    obtain ⟨v8, h9, e_v8, hf⟩ := hf
    refine aLM_1 C h9 e_v8 dX9_oneTick_52 ?_
    refine j_icmp_ge C (tgt := 91) (by decide) dX9_oneTick_53 (fun h10 => ?_) (fun h10 => ?_)
    · replace hf := it_t h10 hf
      refine j_iinc C (xs' := [some (.ref (b 0)), some (.int (x1 + (1 : Int32))), some (.int x2)]) dX9_oneTick_91 rfl (ii_1 _) rfl rfl ?_
      refine j_goto C (tgt := 37) (by decide) dX9_oneTick_94 ?_
      refine j_weak [true, true, false] rfl ?_
      exact hk37 _ _ _ hf
    · replace hf := it_f h10 hf
      refine j_aload_n C dX9_oneTick_56 rfl ?_
      refine j_iload_n C dX9_oneTick_57 rfl ?_
      refine j_iload_n C dX9_oneTick_58 rfl ?_
      replace hf := bd hf
      obtain ⟨v11, h12, hf⟩ := hf
      refine j_callV C cl_X9_135 (c_X9_does h12) ⟨Nat.le_of_ble_eq_true rfl, Nat.le_of_ble_eq_true rfl⟩ ⟨Nat.zero_le _, Nat.zero_le _⟩ (q0 := 0) rfl rfl rfl rfl (Nat.le_of_ble_eq_true rfl) rfl rfl wM_fst dX9_oneTick_59 ?_
      refine j_if_eq C (tgt := 85) (by decide) dX9_oneTick_62 (fun h13 => ?_) (fun h13 => ?_)
      · replace hf := it_t h13 hf
        refine j_iinc C (xs' := [some (.ref (b 0)), some (.int x1), some (.int (x2 + (1 : Int32)))]) dX9_oneTick_85 rfl (ii_1 _) rfl rfl ?_
        refine j_goto C (tgt := 45) (by decide) dX9_oneTick_88 ?_
        exact hk45 _ _ _ _ hf
      · replace hf := it_f h13 hf
        refine j_aload_n C dX9_oneTick_65 rfl ?_
        refine gf_X9_7 C dX9_oneTick_66 ?_
        refine j_bipush C bp_6 dX9_oneTick_69 ?_
        refine j_iload_n C dX9_oneTick_71 rfl ?_
        refine j_iadd C dX9_oneTick_72 ?_
        refine j_dup2 C dX9_oneTick_73 rfl rfl ?_
        replace hf := ld_s hf
        obtain ⟨v14, h15, e_v14, hf⟩ := hf
        refine aLM_1 C h15 e_v14 dX9_oneTick_74 ?_
        refine j_iconst C ic_1 dX9_oneTick_75 ?_
        refine j_iadd C dX9_oneTick_76 ?_
        replace hf := sd_s hf
        obtain ⟨h16, hf⟩ := hf
        refine aSM_1 C h16 dX9_oneTick_77 ?_
        refine j_bipush C bp_100 dX9_oneTick_78 ?_
        refine j_iload_n C dX9_oneTick_80 rfl ?_
        refine j_imul C dX9_oneTick_81 ?_
        refine j_iload_n C dX9_oneTick_82 rfl ?_
        refine j_iadd C dX9_oneTick_83 ?_
        cases hf
        exact j_iret C dX9_oneTick_84
set_option maxRecDepth 100000 in
set_option maxHeartbeats 4000000 in
theorem w_X9_oneTick_37 {p : Program} {l : Launch} {e : Env} {s_ : State} {m : MethodId} {args : Array Value} {below : List Frame} {meth : Method} {c : Code} {D : va_G} {cI cS : ClassId} {A : Nat → Prop} {b : Nat → Nat} {rest : va_W} {P : Nat → Int32} {E : Nat → Int32} {n : Int32} {hs : Int64} (C : cx p s_ m args meth c cX9_oneTick 3 RX9 (some .int) D cI cS)  : ∀ (n_ : Nat) (s : Nat → Int32) (x1 : Int32) (r : Int32 × (Nat → Int32)), f_X9_oneTick_37  n_ s x1 = some r → jG p l e (rmF 8 190) s_ m args below meth c 3 D A (MQ below (QW D A (wM b cI r.2 P E n hs rest) (some (.int r.1))) args s_ 0 0 A) (wM b cI s P E n hs rest) [some (.ref (b 0)), some (.int x1), none] 37 [] := by
  intro n_
  induction n_ with
  | zero =>
    intro s x1 r hf
    rw [f_X9_oneTick_37] at hf
    cases hf
  | succ n_ hk37 =>
    intro s x1 r hf
    rw [f_X9_oneTick_37] at hf
    refine j_iload_n C dX9_oneTick_37 rfl ?_
    refine j_bipush C bp_8 dX9_oneTick_38 ?_
    refine j_icmp_gt C (tgt := 97) (by decide) dX9_oneTick_40 (fun h7 => ?_) (fun h7 => ?_)
    · replace hf := it_t h7 hf
      refine j_iconst C ic_0 dX9_oneTick_97 ?_
      cases hf
      exact j_iret C dX9_oneTick_98
    · replace hf := it_f h7 hf
      refine j_iconst C ic_0 dX9_oneTick_43 ?_
      refine j_istore_n C (xs' := [some (.ref (b 0)), some (.int x1), some (.int (0 : Int32))]) dX9_oneTick_44 rfl rfl ?_
      exact w_X9_oneTick_45 C _ hk37 _ _ _ _ _ hf
set_option maxRecDepth 100000 in
set_option maxHeartbeats 4000000 in
theorem w_X9_oneTick_13 {p : Program} {l : Launch} {e : Env} {s_ : State} {m : MethodId} {args : Array Value} {below : List Frame} {meth : Method} {c : Code} {D : va_G} {cI cS : ClassId} {A : Nat → Prop} {b : Nat → Nat} {rest : va_W} {P : Nat → Int32} {E : Nat → Int32} {n : Int32} {hs : Int64} (C : cx p s_ m args meth c cX9_oneTick 3 RX9 (some .int) D cI cS)  : ∀ (n_ : Nat) (s : Nat → Int32) (x1 : Int32) (r : Int32 × (Nat → Int32)), f_X9_oneTick_13  n_ s x1 = some r → jG p l e (rmF 8 190) s_ m args below meth c 3 D A (MQ below (QW D A (wM b cI r.2 P E n hs rest) (some (.int r.1))) args s_ 0 0 A) (wM b cI s P E n hs rest) [some (.ref (b 0)), some (.int x1), none] 13 [] := by
  intro n_
  induction n_ with
  | zero =>
    intro s x1 r hf
    rw [f_X9_oneTick_13] at hf
    cases hf
  | succ n_ hk13 =>
    intro s x1 r hf
    rw [f_X9_oneTick_13] at hf
    refine j_iload_n C dX9_oneTick_13 rfl ?_
    refine j_aload_n C dX9_oneTick_14 rfl ?_
    refine gf_X9_7 C dX9_oneTick_15 ?_
    refine j_bipush C bp_17 dX9_oneTick_18 ?_
    replace hf := ld_s hf
    obtain ⟨v4, h5, e_v4, hf⟩ := hf
    refine aLM_1 C h5 e_v4 dX9_oneTick_20 ?_
    refine j_icmp_ge C (tgt := 35) (by decide) dX9_oneTick_21 (fun h6 => ?_) (fun h6 => ?_)
    · replace hf := it_t h6 hf
      refine j_iconst C ic_1 dX9_oneTick_35 ?_
      refine j_istore_n C (xs' := [some (.ref (b 0)), some (.int (1 : Int32)), none]) dX9_oneTick_36 rfl rfl ?_
      exact w_X9_oneTick_37 C  _ _ _ _ hf
    · replace hf := it_f h6 hf
      refine j_aload_n C dX9_oneTick_24 rfl ?_
      refine j_iload_n C dX9_oneTick_25 rfl ?_
      replace hf := bd hf
      obtain ⟨v17, h18, hf⟩ := hf
      refine j_callV C cl_X9_132 (c_X9_progress h18) ⟨Nat.le_of_ble_eq_true rfl, Nat.le_of_ble_eq_true rfl⟩ ⟨Nat.zero_le _, Nat.zero_le _⟩ (q0 := 0) rfl rfl rfl rfl (Nat.le_of_ble_eq_true rfl) rfl rfl wM_fst dX9_oneTick_26 ?_
      refine j_iinc C (xs' := [some (.ref (b 0)), some (.int (x1 + (1 : Int32))), none]) dX9_oneTick_29 rfl (ii_1 _) rfl rfl ?_
      refine j_goto C (tgt := 13) (by decide) dX9_oneTick_32 ?_
      exact hk13 _ _ _ hf
set_option maxRecDepth 100000 in
set_option maxHeartbeats 4000000 in
theorem c_X9_oneTick {l : Launch} {D : va_G} {cI cS : ClassId} {A : Nat → Prop} {b : Nat → Nat} {rest : va_W} {P : Nat → Int32} {E : Nat → Int32} {n : Int32} {hs : Int64} {s : Nat → Int32}  {r : Int32 × (Nat → Int32)} (hf : f_X9_oneTick s = some r) : CT l yX9_oneTick cX9_oneTick 3 (some .int) (rmF 8 190) D cI cS A [.ref (b 0)] (wM b cI s P E n hs rest) (wM b cI r.2 P E n hs rest) (some (.int r.1)) := by
  refine CT_of (own := RX9) (xs := [some (.ref (b 0)), none, none]) (by decide) rfl (Nat.le_of_ble_eq_true rfl) rfl ?_
  intro p e s_ m below meth c C
  unfold f_X9_oneTick at hf
  refine j_aload_n C dX9_oneTick_0 rfl ?_
  refine gf_X9_7 C dX9_oneTick_1 ?_
  refine j_bipush C bp_6 dX9_oneTick_4 ?_
  refine j_dup2 C dX9_oneTick_6 rfl rfl ?_
  replace hf := ld_s hf
  obtain ⟨v1, h2, e_v1, hf⟩ := hf
  refine aLM_1 C h2 e_v1 dX9_oneTick_7 ?_
  refine j_iconst C ic_1 dX9_oneTick_8 ?_
  refine j_iadd C dX9_oneTick_9 ?_
  replace hf := sd_s hf
  obtain ⟨h3, hf⟩ := hf
  refine aSM_1 C h3 dX9_oneTick_10 ?_
  refine j_iconst C ic_0 dX9_oneTick_11 ?_
  refine j_istore_n C (xs' := [some (.ref (b 0)), some (.int (0 : Int32)), none]) dX9_oneTick_12 rfl rfl ?_
  exact w_X9_oneTick_13 C  _ _ _ _ hf
set_option maxRecDepth 100000 in
set_option maxHeartbeats 4000000 in
theorem c_X9_tick {l : Launch} {D : va_G} {cI cS : ClassId} {A : Nat → Prop} {b : Nat → Nat} {rest : va_W} {E : Nat → Int32} {hs : Int64} {s : Nat → Int32} {P : Nat → Int32} {n : Int32}  {r : Int32 × (Nat → Int32) × (Nat → Int32) × (Int32)} (hf : f_X9_tick s P n = some r) : CT l yX9_tick cX9_tick 1 (some .int) (rmF 9 212) D cI cS A [.ref (b 0)] (wM b cI s P E n hs rest) (wM b cI r.2.1 r.2.2.1 E r.2.2.2 hs rest) (some (.int r.1)) := by
  refine CT_of (own := RX9) (xs := [some (.ref (b 0))]) (by decide) rfl (Nat.le_of_ble_eq_true rfl) rfl ?_
  intro p e s_ m below meth c C
  unfold f_X9_tick at hf
  refine j_aload_n C dX9_tick_0 rfl ?_
  replace hf := bd hf
  obtain ⟨v1, h2, hf⟩ := hf
  refine j_callV C cl_X9_138 (c_X9_note h2) ⟨Nat.le_of_ble_eq_true rfl, Nat.le_of_ble_eq_true rfl⟩ ⟨Nat.zero_le _, Nat.zero_le _⟩ (q0 := 0) rfl rfl rfl rfl (Nat.le_of_ble_eq_true rfl) rfl rfl wM_fst dX9_tick_1 ?_
  refine j_aload_n C dX9_tick_4 rfl ?_
  replace hf := bd hf
  obtain ⟨v3, h4, hf⟩ := hf
  refine j_callV C cl_X9_141 (c_X9_oneTick h4) ⟨Nat.le_of_ble_eq_true rfl, Nat.le_of_ble_eq_true rfl⟩ ⟨Nat.zero_le _, Nat.zero_le _⟩ (q0 := 0) rfl rfl rfl rfl (Nat.le_of_ble_eq_true rfl) rfl rfl wM_fst dX9_tick_5 ?_
  cases hf
  exact j_iret C dX9_tick_8
set_option maxRecDepth 100000 in
set_option maxHeartbeats 4000000 in
theorem w_X9_hasLearner_29 {p : Program} {l : Launch} {e : Env} {s_ : State} {m : MethodId} {args : Array Value} {below : List Frame} {meth : Method} {c : Code} {D : va_G} {cI cS : ClassId} {A : Nat → Prop} {b : Nat → Nat} {rest : va_W} {P : Nat → Int32} {E : Nat → Int32} {n : Int32} {hs : Int64} (C : cx p s_ m args meth c cX9_hasLearner 3 RX9 (some .boolean) D cI cS) (k4 : (Nat → Int32) → Int32 → Int32 → Option (Int32)) (hk4 : ∀ (s : Nat → Int32) (x1 : Int32) (x2 : Int32) (r : Int32), k4 s x1 x2 = some r → jG p l e (rmF 1 22) s_ m args below meth c 3 D A (MQ below (QW D A (wM b cI s P E n hs rest) (some (.int r))) args s_ 0 0 A) (wM b cI s P E n hs rest) [some (.ref (b 0)), some (.int x1), some (.int x2)] 4 []) : ∀ (s : Nat → Int32) (x2 : Int32) (r : Int32), f_X9_hasLearner_29 k4 s x2 = some r → jG p l e (rmF 1 22) s_ m args below meth c 3 D A (MQ below (QW D A (wM b cI s P E n hs rest) (some (.int r))) args s_ 0 0 A) (wM b cI s P E n hs rest) [some (.ref (b 0)), none, some (.int x2)] 29 [] := by
  intro s x2 r hf
  unfold f_X9_hasLearner_29 at hf
  refine j_iconst C ic_1 dX9_hasLearner_29 ?_
  refine j_goto C (tgt := 34) (by decide) dX9_hasLearner_30 ?_
  refine j_istore_n C (xs' := [some (.ref (b 0)), some (.int (1 : Int32)), some (.int x2)]) dX9_hasLearner_34 rfl rfl ?_
  refine j_iinc C (xs' := [some (.ref (b 0)), some (.int (1 : Int32)), some (.int (x2 + (1 : Int32)))]) dX9_hasLearner_35 rfl (ii_1 _) rfl rfl ?_
  refine j_goto C (tgt := 4) (by decide) dX9_hasLearner_38 ?_
  exact hk4 _ _ _ _ hf
set_option maxRecDepth 100000 in
set_option maxHeartbeats 4000000 in
theorem w_X9_hasLearner_4 {p : Program} {l : Launch} {e : Env} {s_ : State} {m : MethodId} {args : Array Value} {below : List Frame} {meth : Method} {c : Code} {D : va_G} {cI cS : ClassId} {A : Nat → Prop} {b : Nat → Nat} {rest : va_W} {P : Nat → Int32} {E : Nat → Int32} {n : Int32} {hs : Int64} (C : cx p s_ m args meth c cX9_hasLearner 3 RX9 (some .boolean) D cI cS)  : ∀ (n_ : Nat) (s : Nat → Int32) (x1 : Int32) (x2 : Int32) (r : Int32), f_X9_hasLearner_4  n_ s x1 x2 = some r → jG p l e (rmF 1 22) s_ m args below meth c 3 D A (MQ below (QW D A (wM b cI s P E n hs rest) (some (.int r))) args s_ 0 0 A) (wM b cI s P E n hs rest) [some (.ref (b 0)), some (.int x1), some (.int x2)] 4 [] := by
  intro n_
  induction n_ with
  | zero =>
    intro s x1 x2 r hf
    rw [f_X9_hasLearner_4] at hf
    cases hf
  | succ n_ hk4 =>
    intro s x1 x2 r hf
    rw [f_X9_hasLearner_4] at hf
    refine j_iload_n C dX9_hasLearner_4 rfl ?_
    refine j_aload_n C dX9_hasLearner_5 rfl ?_
    refine gf_X9_7 C dX9_hasLearner_6 ?_
    refine j_bipush C bp_17 dX9_hasLearner_9 ?_
    replace hf := ld_s hf
    obtain ⟨v1, h2, e_v1, hf⟩ := hf
    refine aLM_1 C h2 e_v1 dX9_hasLearner_11 ?_
    refine j_icmp_ge C (tgt := 41) (by decide) dX9_hasLearner_12 (fun h3 => ?_) (fun h3 => ?_)
    · replace hf := it_t h3 hf
      refine j_iload_n C dX9_hasLearner_41 rfl ?_
      replace hf := zr_s hf
      obtain ⟨h4, hf⟩ := hf
      cases hf
      exact j_zret C h4 dX9_hasLearner_42
    · replace hf := it_f h3 hf
      refine j_iload_n C dX9_hasLearner_15 rfl ?_
      refine j_if_ne C (tgt := 29) (by decide) dX9_hasLearner_16 (fun h5 => ?_) (fun h5 => ?_)
      · replace hf := it_f h5 hf
        refine j_weak [true, false, true] rfl ?_
        exact w_X9_hasLearner_29 C _ hk4 _ _ _ hf
      · replace hf := it_t h5 hf
        refine j_aload_n C dX9_hasLearner_19 rfl ?_
        refine j_iload_n C dX9_hasLearner_20 rfl ?_
        refine j_iconst C ic_3 dX9_hasLearner_21 ?_
        replace hf := bd hf
        obtain ⟨v6, h7, hf⟩ := hf
        refine j_callV C cl_X9_39 (c_X9_of h7) ⟨Nat.le_of_ble_eq_true rfl, Nat.le_of_ble_eq_true rfl⟩ ⟨Nat.zero_le _, Nat.zero_le _⟩ (q0 := 0) rfl rfl rfl rfl (Nat.le_of_ble_eq_true rfl) rfl rfl rfl dX9_hasLearner_22 ?_
        refine j_iconst C ic_m1 dX9_hasLearner_25 ?_
        refine j_icmp_eq C (tgt := 33) (by decide) dX9_hasLearner_26 (fun h8 => ?_) (fun h8 => ?_)
        · replace hf := it_t h8 hf
          refine j_iconst C ic_0 dX9_hasLearner_33 ?_
          refine j_istore_n C (xs' := [some (.ref (b 0)), some (.int (0 : Int32)), some (.int x2)]) dX9_hasLearner_34 rfl rfl ?_
          refine j_iinc C (xs' := [some (.ref (b 0)), some (.int (0 : Int32)), some (.int (x2 + (1 : Int32)))]) dX9_hasLearner_35 rfl (ii_1 _) rfl rfl ?_
          refine j_goto C (tgt := 4) (by decide) dX9_hasLearner_38 ?_
          exact hk4 _ _ _ _ hf
        · replace hf := it_f h8 hf
          refine j_weak [true, false, true] rfl ?_
          exact w_X9_hasLearner_29 C _ hk4 _ _ _ hf
set_option maxRecDepth 100000 in
set_option maxHeartbeats 4000000 in
theorem c_X9_hasLearner {l : Launch} {D : va_G} {cI cS : ClassId} {A : Nat → Prop} {b : Nat → Nat} {rest : va_W} {P : Nat → Int32} {E : Nat → Int32} {n : Int32} {hs : Int64} {s : Nat → Int32}  {r : Int32} (hf : f_X9_hasLearner s = some r) : CT l yX9_hasLearner cX9_hasLearner 3 (some .boolean) (rmF 1 22) D cI cS A [.ref (b 0)] (wM b cI s P E n hs rest) (wM b cI s P E n hs rest) (some (.int r)) := by
  refine CT_of (own := RX9) (xs := [some (.ref (b 0)), none, none]) (by decide) rfl (Nat.le_of_ble_eq_true rfl) rfl ?_
  intro p e s_ m below meth c C
  unfold f_X9_hasLearner at hf
  refine j_iconst C ic_0 dX9_hasLearner_0 ?_
  refine j_istore_n C (xs' := [some (.ref (b 0)), some (.int (0 : Int32)), none]) dX9_hasLearner_1 rfl rfl ?_
  refine j_iconst C ic_0 dX9_hasLearner_2 ?_
  refine j_istore_n C (xs' := [some (.ref (b 0)), some (.int (0 : Int32)), some (.int (0 : Int32))]) dX9_hasLearner_3 rfl rfl ?_
  exact w_X9_hasLearner_4 C  _ _ _ _ _ hf
set_option maxRecDepth 100000 in
set_option maxHeartbeats 4000000 in
theorem w_X9_settle_45 {p : Program} {l : Launch} {e : Env} {s_ : State} {m : MethodId} {args : Array Value} {below : List Frame} {meth : Method} {c : Code} {D : va_G} {cI cS : ClassId} {A : Nat → Prop} {b : Nat → Nat} {rest : va_W} {hs : Int64} (C : cx p s_ m args meth c cX9_settle 4 RX9 (some .int) D cI cS) (k29 : (Nat → Int32) → (Nat → Int32) → (Nat → Int32) → (Int32) → Int32 → Int32 → Int32 → Option (Int32 × (Nat → Int32) × (Nat → Int32) × (Nat → Int32) × (Int32))) (hk29 : ∀ (s : Nat → Int32) (P : Nat → Int32) (E : Nat → Int32) (n : Int32) (x1 : Int32) (x2 : Int32) (x3 : Int32) (r : Int32 × (Nat → Int32) × (Nat → Int32) × (Nat → Int32) × (Int32)), k29 s P E n x1 x2 x3 = some r → jG p l e (rmF 9 212) s_ m args below meth c 4 D A (MQ below (QW D A (wM b cI r.2.1 r.2.2.1 r.2.2.2.1 r.2.2.2.2 hs rest) (some (.int r.1))) args s_ 0 0 A) (wM b cI s P E n hs rest) [some (.ref (b 0)), some (.int x1), some (.int x2), some (.int x3)] 29 []) : ∀ (s : Nat → Int32) (P : Nat → Int32) (E : Nat → Int32) (n : Int32) (x1 : Int32) (x2 : Int32) (r : Int32 × (Nat → Int32) × (Nat → Int32) × (Nat → Int32) × (Int32)), f_X9_settle_45 k29 s P E n x1 x2 = some r → jG p l e (rmF 9 212) s_ m args below meth c 4 D A (MQ below (QW D A (wM b cI r.2.1 r.2.2.1 r.2.2.2.1 r.2.2.2.2 hs rest) (some (.int r.1))) args s_ 0 0 A) (wM b cI s P E n hs rest) [some (.ref (b 0)), some (.int x1), some (.int x2), none] 45 [] := by
  intro s P E n x1 x2 r hf
  unfold f_X9_settle_45 at hf
  refine j_aload_n C dX9_settle_45 rfl ?_
  replace hf := bd hf
  obtain ⟨v10, h11, hf⟩ := hf
  refine j_callV C cl_X9_141 (c_X9_oneTick h11) ⟨Nat.le_of_ble_eq_true rfl, Nat.le_of_ble_eq_true rfl⟩ ⟨Nat.zero_le _, Nat.zero_le _⟩ (q0 := 0) rfl rfl rfl rfl (Nat.le_of_ble_eq_true rfl) rfl rfl wM_fst dX9_settle_46 ?_
  refine j_istore_n C (xs' := [some (.ref (b 0)), some (.int x1), some (.int x2), some (.int v10.1)]) dX9_settle_49 rfl rfl ?_
  refine j_iinc C (xs' := [some (.ref (b 0)), some (.int x1), some (.int (x2 + (1 : Int32))), some (.int v10.1)]) dX9_settle_50 rfl (ii_1 _) rfl rfl ?_
  refine j_goto C (tgt := 29) (by decide) dX9_settle_53 ?_
  exact hk29 _ _ _ _ _ _ _ _ hf
set_option maxRecDepth 100000 in
set_option maxHeartbeats 4000000 in
theorem w_X9_settle_29 {p : Program} {l : Launch} {e : Env} {s_ : State} {m : MethodId} {args : Array Value} {below : List Frame} {meth : Method} {c : Code} {D : va_G} {cI cS : ClassId} {A : Nat → Prop} {b : Nat → Nat} {rest : va_W} {hs : Int64} (C : cx p s_ m args meth c cX9_settle 4 RX9 (some .int) D cI cS)  : ∀ (n_ : Nat) (s : Nat → Int32) (P : Nat → Int32) (E : Nat → Int32) (n : Int32) (x1 : Int32) (x2 : Int32) (x3 : Int32) (r : Int32 × (Nat → Int32) × (Nat → Int32) × (Nat → Int32) × (Int32)), f_X9_settle_29  n_ s P E n x1 x2 x3 = some r → jG p l e (rmF 9 212) s_ m args below meth c 4 D A (MQ below (QW D A (wM b cI r.2.1 r.2.2.1 r.2.2.2.1 r.2.2.2.2 hs rest) (some (.int r.1))) args s_ 0 0 A) (wM b cI s P E n hs rest) [some (.ref (b 0)), some (.int x1), some (.int x2), some (.int x3)] 29 [] := by
  intro n_
  induction n_ with
  | zero =>
    intro s P E n x1 x2 x3 r hf
    rw [f_X9_settle_29] at hf
    cases hf
  | succ n_ hk29 =>
    intro s P E n x1 x2 x3 r hf
    rw [f_X9_settle_29] at hf
    refine j_iload_n C dX9_settle_29 rfl ?_
    refine j_iload_n C dX9_settle_30 rfl ?_
    refine j_icmp_ge C (tgt := 56) (by decide) dX9_settle_31 (fun h8 => ?_) (fun h8 => ?_)
    · replace hf := it_t h8 hf
      refine j_iload_n C dX9_settle_56 rfl ?_
      cases hf
      exact j_iret C dX9_settle_57
    · replace hf := it_f h8 hf
      refine j_iload_n C dX9_settle_34 rfl ?_
      refine j_if_ne C (tgt := 45) (by decide) dX9_settle_35 (fun h9 => ?_) (fun h9 => ?_)
      · replace hf := it_f h9 hf
        refine j_weak [true, true, true, false] rfl ?_
        exact w_X9_settle_45 C _ hk29 _ _ _ _ _ _ _ hf
      · replace hf := it_t h9 hf
        refine j_aload_n C dX9_settle_38 rfl ?_
        replace hf := bd hf
        obtain ⟨v12, h13, hf⟩ := hf
        refine j_callV C cl_X9_144 (c_X9_hasLearner h13) ⟨Nat.le_of_ble_eq_true rfl, Nat.le_of_ble_eq_true rfl⟩ ⟨Nat.zero_le _, Nat.zero_le _⟩ (q0 := 0) rfl rfl rfl rfl (Nat.le_of_ble_eq_true rfl) rfl rfl rfl dX9_settle_39 ?_
        refine j_if_eq C (tgt := 56) (by decide) dX9_settle_42 (fun h14 => ?_) (fun h14 => ?_)
        · replace hf := it_t h14 hf
          refine j_iload_n C dX9_settle_56 rfl ?_
          cases hf
          exact j_iret C dX9_settle_57
        · replace hf := it_f h14 hf
          refine j_weak [true, true, true, false] rfl ?_
          exact w_X9_settle_45 C _ hk29 _ _ _ _ _ _ _ hf
set_option maxRecDepth 100000 in
set_option maxHeartbeats 4000000 in
theorem c_X9_settle {l : Launch} {D : va_G} {cI cS : ClassId} {A : Nat → Prop} {b : Nat → Nat} {rest : va_W} {hs : Int64} {s : Nat → Int32} {P : Nat → Int32} {E : Nat → Int32} {n : Int32} {x1 : Int32} {r : Int32 × (Nat → Int32) × (Nat → Int32) × (Nat → Int32) × (Int32)} (hf : f_X9_settle s P E n x1 = some r) : CT l yX9_settle cX9_settle 4 (some .int) (rmF 9 212) D cI cS A [.ref (b 0), .int x1] (wM b cI s P E n hs rest) (wM b cI r.2.1 r.2.2.1 r.2.2.2.1 r.2.2.2.2 hs rest) (some (.int r.1)) := by
  refine CT_of (own := RX9) (xs := [some (.ref (b 0)), some (.int x1), none, none]) (by decide) rfl (Nat.le_of_ble_eq_true rfl) rfl ?_
  intro p e s_ m below meth c C
  unfold f_X9_settle at hf
  refine j_iload_n C dX9_settle_0 rfl ?_
  refine j_iconst C ic_1 dX9_settle_1 ?_
  refine j_sipush C sp_200 dX9_settle_2 ?_
  replace hf := bd hf
  obtain ⟨v1, h2, hf⟩ := hf
  refine j_callS C cl_X9_31 (c_X9_in h2) ⟨Nat.le_of_ble_eq_true rfl, Nat.le_of_ble_eq_true rfl⟩ ⟨Nat.zero_le _, Nat.zero_le _⟩ rfl (Nat.le_of_ble_eq_true rfl) rfl rfl rfl dX9_settle_5 ?_
  refine j_if_ne C (tgt := 18) (by decide) dX9_settle_8 (fun h3 => ?_) (fun h3 => ?_)
  · replace hf := it_f h3 hf
    refine j_aload_n C dX9_settle_18 rfl ?_
    replace hf := bd hf
    obtain ⟨v4, h5, hf⟩ := hf
    refine j_callV C cl_X9_138 (c_X9_note h5) ⟨Nat.le_of_ble_eq_true rfl, Nat.le_of_ble_eq_true rfl⟩ ⟨Nat.zero_le _, Nat.zero_le _⟩ (q0 := 0) rfl rfl rfl rfl (Nat.le_of_ble_eq_true rfl) rfl rfl wM_fst dX9_settle_19 ?_
    refine j_iconst C ic_1 dX9_settle_22 ?_
    refine j_istore_n C (xs' := [some (.ref (b 0)), some (.int x1), some (.int (1 : Int32)), none]) dX9_settle_23 rfl rfl ?_
    refine j_aload_n C dX9_settle_24 rfl ?_
    replace hf := bd hf
    obtain ⟨v6, h7, hf⟩ := hf
    refine j_callV C cl_X9_141 (c_X9_oneTick h7) ⟨Nat.le_of_ble_eq_true rfl, Nat.le_of_ble_eq_true rfl⟩ ⟨Nat.zero_le _, Nat.zero_le _⟩ (q0 := 0) rfl rfl rfl rfl (Nat.le_of_ble_eq_true rfl) rfl rfl wM_fst dX9_settle_25 ?_
    refine j_istore_n C (xs' := [some (.ref (b 0)), some (.int x1), some (.int (1 : Int32)), some (.int v6.1)]) dX9_settle_28 rfl rfl ?_
    exact w_X9_settle_29 C  _ _ _ _ _ _ _ _ _ hf
  · replace hf := it_t h3 hf
    refine j_aload_n C dX9_settle_11 rfl ?_
    refine j_bipush C bp_m2 dX9_settle_12 ?_
    replace hf := bd hf
    obtain ⟨v15, h16, hf⟩ := hf
    refine j_callV C cl_X9_27 (c_X9_fail h16) ⟨Nat.le_of_ble_eq_true rfl, Nat.le_of_ble_eq_true rfl⟩ ⟨Nat.zero_le _, Nat.zero_le _⟩ (q0 := 0) rfl rfl rfl rfl (Nat.le_of_ble_eq_true rfl) rfl rfl wM_fst dX9_settle_14 ?_
    cases hf
    exact j_iret C dX9_settle_17
set_option maxRecDepth 100000 in
set_option maxHeartbeats 4000000 in
theorem c_X9_performed {l : Launch} {D : va_G} {cI cS : ClassId} {A : Nat → Prop} {b : Nat → Nat} {rest : va_W} {P : Nat → Int32} {n : Int32} {hs : Int64} {s : Nat → Int32} {E : Nat → Int32} {x1 : Int32} {r : Int32 × (Nat → Int32)} (hf : f_X9_performed s E x1 = some r) : CT l yX9_performed cX9_performed 2 (some .int) (rmF 1 22) D cI cS A [.ref (b 0), .int x1] (wM b cI s P E n hs rest) (wM b cI s P r.2 n hs rest) (some (.int r.1)) := by
  refine CT_of (own := RX9) (xs := [some (.ref (b 0)), some (.int x1)]) (by decide) rfl (Nat.le_of_ble_eq_true rfl) rfl ?_
  intro p e s_ m below meth c C
  unfold f_X9_performed at hf
  refine j_iload_n C dX9_performed_0 rfl ?_
  refine j_iconst C ic_1 dX9_performed_1 ?_
  refine j_bipush C bp_8 dX9_performed_2 ?_
  replace hf := bd hf
  obtain ⟨v1, h2, hf⟩ := hf
  refine j_callS C cl_X9_31 (c_X9_in h2) ⟨Nat.le_of_ble_eq_true rfl, Nat.le_of_ble_eq_true rfl⟩ ⟨Nat.zero_le _, Nat.zero_le _⟩ rfl (Nat.le_of_ble_eq_true rfl) rfl rfl rfl dX9_performed_4 ?_
  refine j_if_eq C (tgt := 22) (by decide) dX9_performed_7 (fun h3 => ?_) (fun h3 => ?_)
  · replace hf := it_t h3 hf
    refine j_aload_n C dX9_performed_22 rfl ?_
    refine j_bipush C bp_m2 dX9_performed_23 ?_
    replace hf := bd hf
    obtain ⟨v4, h5, hf⟩ := hf
    refine j_callV C cl_X9_27 (c_X9_fail h5) ⟨Nat.le_of_ble_eq_true rfl, Nat.le_of_ble_eq_true rfl⟩ ⟨Nat.zero_le _, Nat.zero_le _⟩ (q0 := 0) rfl rfl rfl rfl (Nat.le_of_ble_eq_true rfl) rfl rfl wM_fst dX9_performed_25 ?_
    cases hf
    exact j_iret C dX9_performed_28
  · replace hf := it_f h3 hf
    refine j_aload_n C dX9_performed_10 rfl ?_
    refine gf_X9_7 C dX9_performed_11 ?_
    refine j_bipush C bp_6 dX9_performed_14 ?_
    refine j_iload_n C dX9_performed_16 rfl ?_
    refine j_iadd C dX9_performed_17 ?_
    replace hf := ld_s hf
    obtain ⟨v6, h7, e_v6, hf⟩ := hf
    refine aLM_1 C h7 e_v6 dX9_performed_18 ?_
    refine j_goto C (tgt := 28) (by decide) dX9_performed_19 ?_
    cases hf
    exact j_iret C dX9_performed_28
set_option maxRecDepth 100000 in
set_option maxHeartbeats 4000000 in
theorem c_X9_time {l : Launch} {D : va_G} {cI cS : ClassId} {A : Nat → Prop} {b : Nat → Nat} {rest : va_W} {P : Nat → Int32} {E : Nat → Int32} {n : Int32} {hs : Int64} {s : Nat → Int32}  {r : Int32} (hf : f_X9_time s = some r) : CT l yX9_time cX9_time 1 (some .int) (rmF 0 0) D cI cS A [.ref (b 0)] (wM b cI s P E n hs rest) (wM b cI s P E n hs rest) (some (.int r)) := by
  refine CT_of (own := RX9) (xs := [some (.ref (b 0))]) (by decide) rfl (Nat.le_of_ble_eq_true rfl) rfl ?_
  intro p e s_ m below meth c C
  unfold f_X9_time at hf
  refine j_aload_n C dX9_time_0 rfl ?_
  refine gf_X9_7 C dX9_time_1 ?_
  refine j_bipush C bp_6 dX9_time_4 ?_
  replace hf := ld_s hf
  obtain ⟨v1, h2, e_v1, hf⟩ := hf
  refine aLM_1 C h2 e_v1 dX9_time_6 ?_
  cases hf
  exact j_iret C dX9_time_7
set_option maxRecDepth 100000 in
set_option maxHeartbeats 4000000 in
theorem w_X9_addNode_19 {p : Program} {l : Launch} {e : Env} {s_ : State} {m : MethodId} {args : Array Value} {below : List Frame} {meth : Method} {c : Code} {D : va_G} {cI cS : ClassId} {A : Nat → Prop} {b : Nat → Nat} {rest : va_W} {hs : Int64} (C : cx p s_ m args meth c cX9_addNode 4 RX9 (some .int) D cI cS)  : ∀ (s : Nat → Int32) (P : Nat → Int32) (E : Nat → Int32) (n : Int32)  (r : Int32 × (Nat → Int32) × (Nat → Int32) × (Nat → Int32) × (Int32)), f_X9_addNode_19  s P E n = some r → jG p l e (rmF 1 22) s_ m args below meth c 4 D A (MQ below (QW D A (wM b cI r.2.1 r.2.2.1 r.2.2.2.1 r.2.2.2.2 hs rest) (some (.int r.1))) args s_ 0 0 A) (wM b cI s P E n hs rest) [some (.ref (b 0)), none, none, none] 19 [] := by
  intro s P E n r hf
  unfold f_X9_addNode_19 at hf
  refine j_aload_n C dX9_addNode_19 rfl ?_
  refine j_bipush C bp_m2 dX9_addNode_20 ?_
  replace hf := bd hf
  obtain ⟨v4, h5, hf⟩ := hf
  refine j_callV C cl_X9_27 (c_X9_fail h5) ⟨Nat.le_of_ble_eq_true rfl, Nat.le_of_ble_eq_true rfl⟩ ⟨Nat.zero_le _, Nat.zero_le _⟩ (q0 := 0) rfl rfl rfl rfl (Nat.le_of_ble_eq_true rfl) rfl rfl wM_fst dX9_addNode_22 ?_
  cases hf
  exact j_iret C dX9_addNode_25
set_option maxRecDepth 100000 in
set_option maxHeartbeats 4000000 in
theorem c_X9_addNode {l : Launch} {D : va_G} {cI cS : ClassId} {A : Nat → Prop} {b : Nat → Nat} {rest : va_W} {hs : Int64} {s : Nat → Int32} {P : Nat → Int32} {E : Nat → Int32} {n : Int32} {x1 : Int32} {x2 : Int32} {r : Int32 × (Nat → Int32) × (Nat → Int32) × (Nat → Int32) × (Int32)} (hf : f_X9_addNode s P E n x1 x2 = some r) : CT l yX9_addNode cX9_addNode 4 (some .int) (rmF 1 22) D cI cS A [.ref (b 0), .int x1, .int x2] (wM b cI s P E n hs rest) (wM b cI r.2.1 r.2.2.1 r.2.2.2.1 r.2.2.2.2 hs rest) (some (.int r.1)) := by
  refine CT_of (own := RX9) (xs := [some (.ref (b 0)), some (.int x1), some (.int x2), none]) (by decide) rfl (Nat.le_of_ble_eq_true rfl) rfl ?_
  intro p e s_ m below meth c C
  unfold f_X9_addNode at hf
  refine j_iload_n C dX9_addNode_0 rfl ?_
  refine j_iconst C ic_0 dX9_addNode_1 ?_
  refine j_iconst C ic_3 dX9_addNode_2 ?_
  replace hf := bd hf
  obtain ⟨v1, h2, hf⟩ := hf
  refine j_callS C cl_X9_31 (c_X9_in h2) ⟨Nat.le_of_ble_eq_true rfl, Nat.le_of_ble_eq_true rfl⟩ ⟨Nat.zero_le _, Nat.zero_le _⟩ rfl (Nat.le_of_ble_eq_true rfl) rfl rfl rfl dX9_addNode_3 ?_
  refine j_if_eq C (tgt := 19) (by decide) dX9_addNode_6 (fun h3 => ?_) (fun h3 => ?_)
  · replace hf := it_t h3 hf
    refine j_weak [true, false, false, false] rfl ?_
    exact w_X9_addNode_19 C  _ _ _ _ _ hf
  · replace hf := it_f h3 hf
    refine j_iload_n C dX9_addNode_9 rfl ?_
    refine j_iconst C ic_1 dX9_addNode_10 ?_
    refine j_bipush C bp_16 dX9_addNode_11 ?_
    replace hf := bd hf
    obtain ⟨v6, h7, hf⟩ := hf
    refine j_callS C cl_X9_31 (c_X9_in h7) ⟨Nat.le_of_ble_eq_true rfl, Nat.le_of_ble_eq_true rfl⟩ ⟨Nat.zero_le _, Nat.zero_le _⟩ rfl (Nat.le_of_ble_eq_true rfl) rfl rfl rfl dX9_addNode_13 ?_
    refine j_if_ne C (tgt := 26) (by decide) dX9_addNode_16 (fun h8 => ?_) (fun h8 => ?_)
    · replace hf := it_f h8 hf
      refine j_aload_n C dX9_addNode_26 rfl ?_
      refine gf_X9_7 C dX9_addNode_27 ?_
      refine j_bipush C bp_15 dX9_addNode_30 ?_
      replace hf := ld_s hf
      obtain ⟨v9, h10, e_v9, hf⟩ := hf
      refine aLM_1 C h10 e_v9 dX9_addNode_32 ?_
      refine j_bipush C bp_8 dX9_addNode_33 ?_
      refine j_icmp_ne C (tgt := 45) (by decide) dX9_addNode_35 (fun h11 => ?_) (fun h11 => ?_)
      · replace hf := it_f h11 hf
        refine j_aload_n C dX9_addNode_45 rfl ?_
        replace hf := bd hf
        obtain ⟨v12, h13, hf⟩ := hf
        refine j_callV C cl_X9_138 (c_X9_note h13) ⟨Nat.le_of_ble_eq_true rfl, Nat.le_of_ble_eq_true rfl⟩ ⟨Nat.zero_le _, Nat.zero_le _⟩ (q0 := 0) rfl rfl rfl rfl (Nat.le_of_ble_eq_true rfl) rfl rfl wM_fst dX9_addNode_46 ?_
        refine j_aload_n C dX9_addNode_49 rfl ?_
        refine gf_X9_7 C dX9_addNode_50 ?_
        refine j_bipush C bp_15 dX9_addNode_53 ?_
        replace hf := ld_s hf
        obtain ⟨v14, h15, e_v14, hf⟩ := hf
        refine aLM_1 C h15 e_v14 dX9_addNode_55 ?_
        refine j_istore_n C (xs' := [some (.ref (b 0)), some (.int x1), some (.int x2), some (.int v14)]) dX9_addNode_56 rfl rfl ?_
        refine j_aload_n C dX9_addNode_57 rfl ?_
        refine gf_X9_7 C dX9_addNode_58 ?_
        refine j_bipush C bp_19 dX9_addNode_61 ?_
        refine j_iconst C ic_3 dX9_addNode_63 ?_
        refine j_iload_n C dX9_addNode_64 rfl ?_
        refine j_imul C dX9_addNode_65 ?_
        refine j_iadd C dX9_addNode_66 ?_
        refine j_iload_n C dX9_addNode_67 rfl ?_
        replace hf := sd_s hf
        obtain ⟨h16, hf⟩ := hf
        refine aSM_1 C h16 dX9_addNode_68 ?_
        refine j_aload_n C dX9_addNode_69 rfl ?_
        refine gf_X9_7 C dX9_addNode_70 ?_
        refine j_bipush C bp_19 dX9_addNode_73 ?_
        refine j_iconst C ic_3 dX9_addNode_75 ?_
        refine j_iload_n C dX9_addNode_76 rfl ?_
        refine j_imul C dX9_addNode_77 ?_
        refine j_iadd C dX9_addNode_78 ?_
        refine j_iconst C ic_1 dX9_addNode_79 ?_
        refine j_iadd C dX9_addNode_80 ?_
        refine j_iload_n C dX9_addNode_81 rfl ?_
        replace hf := sd_s hf
        obtain ⟨h17, hf⟩ := hf
        refine aSM_1 C h17 dX9_addNode_82 ?_
        refine j_aload_n C dX9_addNode_83 rfl ?_
        refine gf_X9_7 C dX9_addNode_84 ?_
        refine j_bipush C bp_19 dX9_addNode_87 ?_
        refine j_iconst C ic_3 dX9_addNode_89 ?_
        refine j_iload_n C dX9_addNode_90 rfl ?_
        refine j_imul C dX9_addNode_91 ?_
        refine j_iadd C dX9_addNode_92 ?_
        refine j_iconst C ic_2 dX9_addNode_93 ?_
        refine j_iadd C dX9_addNode_94 ?_
        refine j_iconst C ic_1 dX9_addNode_95 ?_
        replace hf := sd_s hf
        obtain ⟨h18, hf⟩ := hf
        refine aSM_1 C h18 dX9_addNode_96 ?_
        refine j_aload_n C dX9_addNode_97 rfl ?_
        refine gf_X9_7 C dX9_addNode_98 ?_
        refine j_bipush C bp_15 dX9_addNode_101 ?_
        refine j_dup2 C dX9_addNode_103 rfl rfl ?_
        replace hf := ld_s hf
        obtain ⟨v19, h20, e_v19, hf⟩ := hf
        refine aLM_1 C h20 e_v19 dX9_addNode_104 ?_
        refine j_iconst C ic_1 dX9_addNode_105 ?_
        refine j_iadd C dX9_addNode_106 ?_
        replace hf := sd_s hf
        obtain ⟨h21, hf⟩ := hf
        refine aSM_1 C h21 dX9_addNode_107 ?_
        refine j_iload_n C dX9_addNode_108 rfl ?_
        cases hf
        exact j_iret C dX9_addNode_109
      · replace hf := it_t h11 hf
        refine j_aload_n C dX9_addNode_38 rfl ?_
        refine j_bipush C bp_m4 dX9_addNode_39 ?_
        replace hf := bd hf
        obtain ⟨v22, h23, hf⟩ := hf
        refine j_callV C cl_X9_27 (c_X9_fail h23) ⟨Nat.le_of_ble_eq_true rfl, Nat.le_of_ble_eq_true rfl⟩ ⟨Nat.zero_le _, Nat.zero_le _⟩ (q0 := 0) rfl rfl rfl rfl (Nat.le_of_ble_eq_true rfl) rfl rfl wM_fst dX9_addNode_41 ?_
        cases hf
        exact j_iret C dX9_addNode_44
    · replace hf := it_t h8 hf
      refine j_weak [true, false, false, false] rfl ?_
      exact w_X9_addNode_19 C  _ _ _ _ _ hf
set_option maxRecDepth 100000 in
set_option maxHeartbeats 4000000 in
theorem w_X9_goDown_36 {p : Program} {l : Launch} {e : Env} {s_ : State} {m : MethodId} {args : Array Value} {below : List Frame} {meth : Method} {c : Code} {D : va_G} {cI cS : ClassId} {A : Nat → Prop} {b : Nat → Nat} {rest : va_W} {P : Nat → Int32} {E : Nat → Int32} {n : Int32} {hs : Int64} (C : cx p s_ m args meth c cX9_goDown 3 RX9 none D cI cS)  : ∀ (n_ : Nat) (s : Nat → Int32) (x1 : Int32) (x2 : Int32) (r : (Nat → Int32)), f_X9_goDown_36  n_ s x1 x2 = some r → jG p l e (rmF 4 89) s_ m args below meth c 3 D A (MQ below (QW D A (wM b cI r P E n hs rest) none) args s_ 0 0 A) (wM b cI s P E n hs rest) [some (.ref (b 0)), some (.int x1), some (.int x2)] 36 [] := by
  intro n_
  induction n_ with
  | zero =>
    intro s x1 x2 r hf
    rw [f_X9_goDown_36] at hf
    cases hf
  | succ n_ hk36 =>
    intro s x1 x2 r hf
    rw [f_X9_goDown_36] at hf
    refine j_iload_n C dX9_goDown_36 rfl ?_
    refine j_aload_n C dX9_goDown_37 rfl ?_
    refine gf_X9_7 C dX9_goDown_38 ?_
    refine j_bipush C bp_17 dX9_goDown_41 ?_
    replace hf := ld_s hf
    obtain ⟨v4, h5, e_v4, hf⟩ := hf
    refine aLM_1 C h5 e_v4 dX9_goDown_43 ?_
    refine j_icmp_ge C (tgt := 86) (by decide) dX9_goDown_44 (fun h6 => ?_) (fun h6 => ?_)
    · replace hf := it_t h6 hf
      cases hf
      exact j_vret C dX9_goDown_86
    · replace hf := it_f h6 hf
      refine j_aload_n C dX9_goDown_47 rfl ?_
      refine j_iload_n C dX9_goDown_48 rfl ?_
      replace hf := bd hf
      obtain ⟨v7, h8, hf⟩ := hf
      refine j_callV C cl_X9_54 (c_X9_available h8) ⟨Nat.le_of_ble_eq_true rfl, Nat.le_of_ble_eq_true rfl⟩ ⟨Nat.zero_le _, Nat.zero_le _⟩ (q0 := 0) rfl rfl rfl rfl (Nat.le_of_ble_eq_true rfl) rfl rfl rfl dX9_goDown_49 ?_
      refine j_if_ne C (tgt := 65) (by decide) dX9_goDown_52 (fun h9 => ?_) (fun h9 => ?_)
      · replace hf := it_f h9 hf
        refine j_aload_n C dX9_goDown_65 rfl ?_
        refine j_iload_n C dX9_goDown_66 rfl ?_
        refine j_iconst C ic_2 dX9_goDown_67 ?_
        replace hf := bd hf
        obtain ⟨v10, h11, hf⟩ := hf
        refine j_callV C cl_X9_39 (c_X9_of h11) ⟨Nat.le_of_ble_eq_true rfl, Nat.le_of_ble_eq_true rfl⟩ ⟨Nat.zero_le _, Nat.zero_le _⟩ (q0 := 0) rfl rfl rfl rfl (Nat.le_of_ble_eq_true rfl) rfl rfl rfl dX9_goDown_68 ?_
        refine j_iload_n C dX9_goDown_71 rfl ?_
        refine j_icmp_ne C (tgt := 80) (by decide) dX9_goDown_72 (fun h12 => ?_) (fun h12 => ?_)
        · replace hf := it_f h12 hf
          refine j_iinc C (xs' := [some (.ref (b 0)), some (.int x1), some (.int (x2 + (1 : Int32)))]) dX9_goDown_80 rfl (ii_1 _) rfl rfl ?_
          refine j_goto C (tgt := 36) (by decide) dX9_goDown_83 ?_
          exact hk36 _ _ _ _ hf
        · replace hf := it_t h12 hf
          refine j_aload_n C dX9_goDown_75 rfl ?_
          refine j_iload_n C dX9_goDown_76 rfl ?_
          replace hf := bd hf
          obtain ⟨v13, h14, hf⟩ := hf
          refine j_callV C cl_X9_86 (c_X9_elect h14) ⟨Nat.le_of_ble_eq_true rfl, Nat.le_of_ble_eq_true rfl⟩ ⟨Nat.zero_le _, Nat.zero_le _⟩ (q0 := 0) rfl rfl rfl rfl (Nat.le_of_ble_eq_true rfl) rfl rfl wM_fst dX9_goDown_77 ?_
          refine j_iinc C (xs' := [some (.ref (b 0)), some (.int x1), some (.int (x2 + (1 : Int32)))]) dX9_goDown_80 rfl (ii_1 _) rfl rfl ?_
          refine j_goto C (tgt := 36) (by decide) dX9_goDown_83 ?_
          exact hk36 _ _ _ _ hf
      · replace hf := it_t h9 hf
        refine j_aload_n C dX9_goDown_55 rfl ?_
        refine j_iload_n C dX9_goDown_56 rfl ?_
        refine j_iconst C ic_2 dX9_goDown_57 ?_
        refine j_iconst C ic_m1 dX9_goDown_58 ?_
        replace hf := bd hf
        obtain ⟨v15, h16, hf⟩ := hf
        refine j_callV C cl_X9_19 (c_X9_set h16) ⟨Nat.le_of_ble_eq_true rfl, Nat.le_of_ble_eq_true rfl⟩ ⟨Nat.zero_le _, Nat.zero_le _⟩ (q0 := 0) rfl rfl rfl rfl (Nat.le_of_ble_eq_true rfl) rfl rfl wM_fst dX9_goDown_59 ?_
        refine j_goto C (tgt := 80) (by decide) dX9_goDown_62 ?_
        refine j_iinc C (xs' := [some (.ref (b 0)), some (.int x1), some (.int (x2 + (1 : Int32)))]) dX9_goDown_80 rfl (ii_1 _) rfl rfl ?_
        refine j_goto C (tgt := 36) (by decide) dX9_goDown_83 ?_
        exact hk36 _ _ _ _ hf
set_option maxRecDepth 100000 in
set_option maxHeartbeats 4000000 in
theorem w_X9_goDown_2 {p : Program} {l : Launch} {e : Env} {s_ : State} {m : MethodId} {args : Array Value} {below : List Frame} {meth : Method} {c : Code} {D : va_G} {cI cS : ClassId} {A : Nat → Prop} {b : Nat → Nat} {rest : va_W} {P : Nat → Int32} {E : Nat → Int32} {n : Int32} {hs : Int64} (C : cx p s_ m args meth c cX9_goDown 3 RX9 none D cI cS)  : ∀ (n_ : Nat) (s : Nat → Int32) (x1 : Int32) (x2 : Int32) (r : (Nat → Int32)), f_X9_goDown_2  n_ s x1 x2 = some r → jG p l e (rmF 4 89) s_ m args below meth c 3 D A (MQ below (QW D A (wM b cI r P E n hs rest) none) args s_ 0 0 A) (wM b cI s P E n hs rest) [some (.ref (b 0)), some (.int x1), some (.int x2)] 2 [] := by
  intro n_
  induction n_ with
  | zero =>
    intro s x1 x2 r hf
    rw [f_X9_goDown_2] at hf
    cases hf
  | succ n_ hk2 =>
    intro s x1 x2 r hf
    rw [f_X9_goDown_2] at hf
    refine j_iload_n C dX9_goDown_2 rfl ?_
    refine j_aload_n C dX9_goDown_3 rfl ?_
    refine gf_X9_7 C dX9_goDown_4 ?_
    refine j_bipush C bp_17 dX9_goDown_7 ?_
    replace hf := ld_s hf
    obtain ⟨v1, h2, e_v1, hf⟩ := hf
    refine aLM_1 C h2 e_v1 dX9_goDown_9 ?_
    refine j_icmp_ge C (tgt := 34) (by decide) dX9_goDown_10 (fun h3 => ?_) (fun h3 => ?_)
    · replace hf := it_t h3 hf
      refine j_iconst C ic_0 dX9_goDown_34 ?_
      refine j_istore_n C (xs' := [some (.ref (b 0)), some (.int x1), some (.int (0 : Int32))]) dX9_goDown_35 rfl rfl ?_
      exact w_X9_goDown_36 C  _ _ _ _ _ hf
    · replace hf := it_f h3 hf
      refine j_aload_n C dX9_goDown_13 rfl ?_
      refine j_iload_n C dX9_goDown_14 rfl ?_
      refine j_iconst C ic_3 dX9_goDown_15 ?_
      replace hf := bd hf
      obtain ⟨v17, h18, hf⟩ := hf
      refine j_callV C cl_X9_39 (c_X9_of h18) ⟨Nat.le_of_ble_eq_true rfl, Nat.le_of_ble_eq_true rfl⟩ ⟨Nat.zero_le _, Nat.zero_le _⟩ (q0 := 0) rfl rfl rfl rfl (Nat.le_of_ble_eq_true rfl) rfl rfl rfl dX9_goDown_16 ?_
      refine j_iload_n C dX9_goDown_19 rfl ?_
      refine j_icmp_ne C (tgt := 28) (by decide) dX9_goDown_20 (fun h19 => ?_) (fun h19 => ?_)
      · replace hf := it_f h19 hf
        refine j_iinc C (xs' := [some (.ref (b 0)), some (.int x1), some (.int (x2 + (1 : Int32)))]) dX9_goDown_28 rfl (ii_1 _) rfl rfl ?_
        refine j_goto C (tgt := 2) (by decide) dX9_goDown_31 ?_
        exact hk2 _ _ _ _ hf
      · replace hf := it_t h19 hf
        refine j_aload_n C dX9_goDown_23 rfl ?_
        refine j_iload_n C dX9_goDown_24 rfl ?_
        replace hf := bd hf
        obtain ⟨v20, h21, hf⟩ := hf
        refine j_callV C cl_X9_82 (c_X9_forgetLearner h21) ⟨Nat.le_of_ble_eq_true rfl, Nat.le_of_ble_eq_true rfl⟩ ⟨Nat.zero_le _, Nat.zero_le _⟩ (q0 := 0) rfl rfl rfl rfl (Nat.le_of_ble_eq_true rfl) rfl rfl wM_fst dX9_goDown_25 ?_
        refine j_iinc C (xs' := [some (.ref (b 0)), some (.int x1), some (.int (x2 + (1 : Int32)))]) dX9_goDown_28 rfl (ii_1 _) rfl rfl ?_
        refine j_goto C (tgt := 2) (by decide) dX9_goDown_31 ?_
        exact hk2 _ _ _ _ hf
set_option maxRecDepth 100000 in
set_option maxHeartbeats 4000000 in
theorem c_X9_goDown {l : Launch} {D : va_G} {cI cS : ClassId} {A : Nat → Prop} {b : Nat → Nat} {rest : va_W} {P : Nat → Int32} {E : Nat → Int32} {n : Int32} {hs : Int64} {s : Nat → Int32} {x1 : Int32} {r : (Nat → Int32)} (hf : f_X9_goDown s x1 = some r) : CT l yX9_goDown cX9_goDown 3 none (rmF 4 89) D cI cS A [.ref (b 0), .int x1] (wM b cI s P E n hs rest) (wM b cI r P E n hs rest) none := by
  refine CT_of (own := RX9) (xs := [some (.ref (b 0)), some (.int x1), none]) (by decide) rfl (Nat.le_of_ble_eq_true rfl) rfl ?_
  intro p e s_ m below meth c C
  unfold f_X9_goDown at hf
  refine j_iconst C ic_0 dX9_goDown_0 ?_
  refine j_istore_n C (xs' := [some (.ref (b 0)), some (.int x1), some (.int (0 : Int32))]) dX9_goDown_1 rfl rfl ?_
  exact w_X9_goDown_2 C  _ _ _ _ _ hf
set_option maxRecDepth 100000 in
set_option maxHeartbeats 4000000 in
theorem w_X9_goUp_2 {p : Program} {l : Launch} {e : Env} {s_ : State} {m : MethodId} {args : Array Value} {below : List Frame} {meth : Method} {c : Code} {D : va_G} {cI cS : ClassId} {A : Nat → Prop} {b : Nat → Nat} {rest : va_W} {P : Nat → Int32} {E : Nat → Int32} {n : Int32} {hs : Int64} (C : cx p s_ m args meth c cX9_goUp 2 RX9 none D cI cS)  : ∀ (n_ : Nat) (s : Nat → Int32) (x1 : Int32) (r : (Nat → Int32)), f_X9_goUp_2  n_ s x1 = some r → jG p l e (rmF 4 89) s_ m args below meth c 2 D A (MQ below (QW D A (wM b cI r P E n hs rest) none) args s_ 0 0 A) (wM b cI s P E n hs rest) [some (.ref (b 0)), some (.int x1)] 2 [] := by
  intro n_
  induction n_ with
  | zero =>
    intro s x1 r hf
    rw [f_X9_goUp_2] at hf
    cases hf
  | succ n_ hk2 =>
    intro s x1 r hf
    rw [f_X9_goUp_2] at hf
    refine j_iload_n C dX9_goUp_2 rfl ?_
    refine j_aload_n C dX9_goUp_3 rfl ?_
    refine gf_X9_7 C dX9_goUp_4 ?_
    refine j_bipush C bp_17 dX9_goUp_7 ?_
    replace hf := ld_s hf
    obtain ⟨v1, h2, e_v1, hf⟩ := hf
    refine aLM_1 C h2 e_v1 dX9_goUp_9 ?_
    refine j_icmp_ge C (tgt := 34) (by decide) dX9_goUp_10 (fun h3 => ?_) (fun h3 => ?_)
    · replace hf := it_t h3 hf
      cases hf
      exact j_vret C dX9_goUp_34
    · replace hf := it_f h3 hf
      refine j_aload_n C dX9_goUp_13 rfl ?_
      refine j_iload_n C dX9_goUp_14 rfl ?_
      refine j_iconst C ic_2 dX9_goUp_15 ?_
      replace hf := bd hf
      obtain ⟨v4, h5, hf⟩ := hf
      refine j_callV C cl_X9_39 (c_X9_of h5) ⟨Nat.le_of_ble_eq_true rfl, Nat.le_of_ble_eq_true rfl⟩ ⟨Nat.zero_le _, Nat.zero_le _⟩ (q0 := 0) rfl rfl rfl rfl (Nat.le_of_ble_eq_true rfl) rfl rfl rfl dX9_goUp_16 ?_
      refine j_iconst C ic_m1 dX9_goUp_19 ?_
      refine j_icmp_ne C (tgt := 28) (by decide) dX9_goUp_20 (fun h6 => ?_) (fun h6 => ?_)
      · replace hf := it_f h6 hf
        refine j_iinc C (xs' := [some (.ref (b 0)), some (.int (x1 + (1 : Int32)))]) dX9_goUp_28 rfl (ii_1 _) rfl rfl ?_
        refine j_goto C (tgt := 2) (by decide) dX9_goUp_31 ?_
        exact hk2 _ _ _ hf
      · replace hf := it_t h6 hf
        refine j_aload_n C dX9_goUp_23 rfl ?_
        refine j_iload_n C dX9_goUp_24 rfl ?_
        replace hf := bd hf
        obtain ⟨v7, h8, hf⟩ := hf
        refine j_callV C cl_X9_86 (c_X9_elect h8) ⟨Nat.le_of_ble_eq_true rfl, Nat.le_of_ble_eq_true rfl⟩ ⟨Nat.zero_le _, Nat.zero_le _⟩ (q0 := 0) rfl rfl rfl rfl (Nat.le_of_ble_eq_true rfl) rfl rfl wM_fst dX9_goUp_25 ?_
        refine j_iinc C (xs' := [some (.ref (b 0)), some (.int (x1 + (1 : Int32)))]) dX9_goUp_28 rfl (ii_1 _) rfl rfl ?_
        refine j_goto C (tgt := 2) (by decide) dX9_goUp_31 ?_
        exact hk2 _ _ _ hf
set_option maxRecDepth 100000 in
set_option maxHeartbeats 4000000 in
theorem c_X9_goUp {l : Launch} {D : va_G} {cI cS : ClassId} {A : Nat → Prop} {b : Nat → Nat} {rest : va_W} {P : Nat → Int32} {E : Nat → Int32} {n : Int32} {hs : Int64} {s : Nat → Int32}  {r : (Nat → Int32)} (hf : f_X9_goUp s = some r) : CT l yX9_goUp cX9_goUp 2 none (rmF 4 89) D cI cS A [.ref (b 0)] (wM b cI s P E n hs rest) (wM b cI r P E n hs rest) none := by
  refine CT_of (own := RX9) (xs := [some (.ref (b 0)), none]) (by decide) rfl (Nat.le_of_ble_eq_true rfl) rfl ?_
  intro p e s_ m below meth c C
  unfold f_X9_goUp at hf
  refine j_iconst C ic_0 dX9_goUp_0 ?_
  refine j_istore_n C (xs' := [some (.ref (b 0)), some (.int (0 : Int32))]) dX9_goUp_1 rfl rfl ?_
  exact w_X9_goUp_2 C  _ _ _ _ hf
set_option maxRecDepth 100000 in
set_option maxHeartbeats 4000000 in
theorem w_X9_setNode_17 {p : Program} {l : Launch} {e : Env} {s_ : State} {m : MethodId} {args : Array Value} {below : List Frame} {meth : Method} {c : Code} {D : va_G} {cI cS : ClassId} {A : Nat → Prop} {b : Nat → Nat} {rest : va_W} {hs : Int64} (C : cx p s_ m args meth c cX9_setNode 5 RX9 (some .int) D cI cS)  : ∀ (s : Nat → Int32) (P : Nat → Int32) (E : Nat → Int32) (n : Int32)  (r : Int32 × (Nat → Int32) × (Nat → Int32) × (Nat → Int32) × (Int32)), f_X9_setNode_17  s P E n = some r → jG p l e (rmF 5 111) s_ m args below meth c 5 D A (MQ below (QW D A (wM b cI r.2.1 r.2.2.1 r.2.2.2.1 r.2.2.2.2 hs rest) (some (.int r.1))) args s_ 0 0 A) (wM b cI s P E n hs rest) [some (.ref (b 0)), none, none, none, none] 17 [] := by
  intro s P E n r hf
  unfold f_X9_setNode_17 at hf
  refine j_aload_n C dX9_setNode_17 rfl ?_
  refine j_bipush C bp_m2 dX9_setNode_18 ?_
  replace hf := bd hf
  obtain ⟨v4, h5, hf⟩ := hf
  refine j_callV C cl_X9_27 (c_X9_fail h5) ⟨Nat.le_of_ble_eq_true rfl, Nat.le_of_ble_eq_true rfl⟩ ⟨Nat.zero_le _, Nat.zero_le _⟩ (q0 := 0) rfl rfl rfl rfl (Nat.le_of_ble_eq_true rfl) rfl rfl wM_fst dX9_setNode_20 ?_
  cases hf
  exact j_iret C dX9_setNode_23
set_option maxRecDepth 100000 in
set_option maxHeartbeats 4000000 in
theorem w_X9_setNode_89 {p : Program} {l : Launch} {e : Env} {s_ : State} {m : MethodId} {args : Array Value} {below : List Frame} {meth : Method} {c : Code} {D : va_G} {cI cS : ClassId} {A : Nat → Prop} {b : Nat → Nat} {rest : va_W} {hs : Int64} (C : cx p s_ m args meth c cX9_setNode 5 RX9 (some .int) D cI cS)  : ∀ (n_ : Nat) (s : Nat → Int32) (P : Nat → Int32) (E : Nat → Int32) (n : Int32) (x3 : Int32) (x4 : Int32) (r : Int32 × (Nat → Int32) × (Nat → Int32) × (Nat → Int32) × (Int32)), f_X9_setNode_89  n_ s P E n x3 x4 = some r → jG p l e (rmF 5 111) s_ m args below meth c 5 D A (MQ below (QW D A (wM b cI r.2.1 r.2.2.1 r.2.2.2.1 r.2.2.2.2 hs rest) (some (.int r.1))) args s_ 0 0 A) (wM b cI s P E n hs rest) [some (.ref (b 0)), none, none, some (.int x3), some (.int x4)] 89 [] := by
  intro n_
  induction n_ with
  | zero =>
    intro s P E n x3 x4 r hf
    rw [f_X9_setNode_89] at hf
    cases hf
  | succ n_ hk89 =>
    intro s P E n x3 x4 r hf
    rw [f_X9_setNode_89] at hf
    refine j_iload C dX9_setNode_89 rfl ?_
    refine j_aload_n C dX9_setNode_91 rfl ?_
    refine gf_X9_7 C dX9_setNode_92 ?_
    refine j_bipush C bp_17 dX9_setNode_95 ?_
    replace hf := ld_s hf
    obtain ⟨v19, h20, e_v19, hf⟩ := hf
    refine aLM_1 C h20 e_v19 dX9_setNode_97 ?_
    refine j_icmp_ge C (tgt := 124) (by decide) dX9_setNode_98 (fun h21 => ?_) (fun h21 => ?_)
    · replace hf := it_t h21 hf
      refine j_iload_n C dX9_setNode_124 rfl ?_
      cases hf
      exact j_iret C dX9_setNode_125
    · replace hf := it_f h21 hf
      refine j_iload_n C dX9_setNode_101 rfl ?_
      refine j_aload_n C dX9_setNode_102 rfl ?_
      refine j_iload C dX9_setNode_103 rfl ?_
      replace hf := bd hf
      obtain ⟨v22, h23, hf⟩ := hf
      refine j_callV C cl_X9_54 (c_X9_available h23) ⟨Nat.le_of_ble_eq_true rfl, Nat.le_of_ble_eq_true rfl⟩ ⟨Nat.zero_le _, Nat.zero_le _⟩ (q0 := 0) rfl rfl rfl rfl (Nat.le_of_ble_eq_true rfl) rfl rfl rfl dX9_setNode_105 ?_
      refine j_if_eq C (tgt := 115) (by decide) dX9_setNode_108 (fun h24 => ?_) (fun h24 => ?_)
      · replace hf := it_t h24 hf
        refine j_iconst C ic_0 dX9_setNode_115 ?_
        refine j_iadd C dX9_setNode_116 ?_
        refine j_istore_n C (xs' := [some (.ref (b 0)), none, none, some (.int (x3 + (0 : Int32))), some (.int x4)]) dX9_setNode_117 rfl rfl ?_
        refine j_iinc C (xs' := [some (.ref (b 0)), none, none, some (.int (x3 + (0 : Int32))), some (.int (x4 + (1 : Int32)))]) dX9_setNode_118 rfl (ii_1 _) rfl rfl ?_
        refine j_goto C (tgt := 89) (by decide) dX9_setNode_121 ?_
        exact hk89 _ _ _ _ _ _ _ hf
      · replace hf := it_f h24 hf
        refine j_iconst C ic_1 dX9_setNode_111 ?_
        refine j_goto C (tgt := 116) (by decide) dX9_setNode_112 ?_
        refine j_iadd C dX9_setNode_116 ?_
        refine j_istore_n C (xs' := [some (.ref (b 0)), none, none, some (.int (x3 + (1 : Int32))), some (.int x4)]) dX9_setNode_117 rfl rfl ?_
        refine j_iinc C (xs' := [some (.ref (b 0)), none, none, some (.int (x3 + (1 : Int32))), some (.int (x4 + (1 : Int32)))]) dX9_setNode_118 rfl (ii_1 _) rfl rfl ?_
        refine j_goto C (tgt := 89) (by decide) dX9_setNode_121 ?_
        exact hk89 _ _ _ _ _ _ _ hf
set_option maxRecDepth 100000 in
set_option maxHeartbeats 4000000 in
theorem w_X9_setNode_84 {p : Program} {l : Launch} {e : Env} {s_ : State} {m : MethodId} {args : Array Value} {below : List Frame} {meth : Method} {c : Code} {D : va_G} {cI cS : ClassId} {A : Nat → Prop} {b : Nat → Nat} {rest : va_W} {hs : Int64} (C : cx p s_ m args meth c cX9_setNode 5 RX9 (some .int) D cI cS)  : ∀ (s : Nat → Int32) (P : Nat → Int32) (E : Nat → Int32) (n : Int32)  (r : Int32 × (Nat → Int32) × (Nat → Int32) × (Nat → Int32) × (Int32)), f_X9_setNode_84  s P E n = some r → jG p l e (rmF 5 111) s_ m args below meth c 5 D A (MQ below (QW D A (wM b cI r.2.1 r.2.2.1 r.2.2.2.1 r.2.2.2.2 hs rest) (some (.int r.1))) args s_ 0 0 A) (wM b cI s P E n hs rest) [some (.ref (b 0)), none, none, none, none] 84 [] := by
  intro s P E n r hf
  unfold f_X9_setNode_84 at hf
  refine j_iconst C ic_0 dX9_setNode_84 ?_
  refine j_istore_n C (xs' := [some (.ref (b 0)), none, none, some (.int (0 : Int32)), none]) dX9_setNode_85 rfl rfl ?_
  refine j_iconst C ic_0 dX9_setNode_86 ?_
  refine j_istore C (xs' := [some (.ref (b 0)), none, none, some (.int (0 : Int32)), some (.int (0 : Int32))]) dX9_setNode_87 rfl rfl ?_
  exact w_X9_setNode_89 C  _ _ _ _ _ _ _ _ hf
set_option maxRecDepth 100000 in
set_option maxHeartbeats 4000000 in
theorem w_X9_setNode_39 {p : Program} {l : Launch} {e : Env} {s_ : State} {m : MethodId} {args : Array Value} {below : List Frame} {meth : Method} {c : Code} {D : va_G} {cI cS : ClassId} {A : Nat → Prop} {b : Nat → Nat} {rest : va_W} {hs : Int64} (C : cx p s_ m args meth c cX9_setNode 5 RX9 (some .int) D cI cS)  : ∀ (s : Nat → Int32) (P : Nat → Int32) (E : Nat → Int32) (n : Int32) (x1 : Int32) (x2 : Int32) (y0 : Int32) (y1 : Int32) (r : Int32 × (Nat → Int32) × (Nat → Int32) × (Nat → Int32) × (Int32)), f_X9_setNode_39  s P E n x1 x2 y0 y1 = some r → jG p l e (rmF 5 111) s_ m args below meth c 5 D A (MQ below (QW D A (wM b cI r.2.1 r.2.2.1 r.2.2.2.1 r.2.2.2.2 hs rest) (some (.int r.1))) args s_ 0 0 A) (wM b cI s P E n hs rest) [some (.ref (b 0)), some (.int x1), some (.int x2), none, none] 39 [.int y0, .int y1] := by
  intro s P E n x1 x2 y0 y1 r hf
  unfold f_X9_setNode_39 at hf
  refine j_icmp_ne C (tgt := 49) (by decide) dX9_setNode_39 (fun h12 => ?_) (fun h12 => ?_)
  · replace hf := it_f h12 hf
    refine j_aload_n C dX9_setNode_49 rfl ?_
    replace hf := bd hf
    obtain ⟨v13, h14, hf⟩ := hf
    refine j_callV C cl_X9_138 (c_X9_note h14) ⟨Nat.le_of_ble_eq_true rfl, Nat.le_of_ble_eq_true rfl⟩ ⟨Nat.zero_le _, Nat.zero_le _⟩ (q0 := 0) rfl rfl rfl rfl (Nat.le_of_ble_eq_true rfl) rfl rfl wM_fst dX9_setNode_50 ?_
    refine j_aload_n C dX9_setNode_53 rfl ?_
    refine gf_X9_7 C dX9_setNode_54 ?_
    refine j_bipush C bp_19 dX9_setNode_57 ?_
    refine j_iconst C ic_3 dX9_setNode_59 ?_
    refine j_iload_n C dX9_setNode_60 rfl ?_
    refine j_imul C dX9_setNode_61 ?_
    refine j_iadd C dX9_setNode_62 ?_
    refine j_iconst C ic_2 dX9_setNode_63 ?_
    refine j_iadd C dX9_setNode_64 ?_
    refine j_iload_n C dX9_setNode_65 rfl ?_
    replace hf := sd_s hf
    obtain ⟨h15, hf⟩ := hf
    refine aSM_1 C h15 dX9_setNode_66 ?_
    refine j_iload_n C dX9_setNode_67 rfl ?_
    refine j_iconst C ic_1 dX9_setNode_68 ?_
    refine j_icmp_ne C (tgt := 79) (by decide) dX9_setNode_69 (fun h16 => ?_) (fun h16 => ?_)
    · replace hf := it_f h16 hf
      refine j_aload_n C dX9_setNode_79 rfl ?_
      refine j_iload_n C dX9_setNode_80 rfl ?_
      replace hf := bd hf
      obtain ⟨v17, h18, hf⟩ := hf
      refine j_callV C cl_X9_154 (c_X9_goDown h18) ⟨Nat.le_of_ble_eq_true rfl, Nat.le_of_ble_eq_true rfl⟩ ⟨Nat.zero_le _, Nat.zero_le _⟩ (q0 := 0) rfl rfl rfl rfl (Nat.le_of_ble_eq_true rfl) rfl rfl wM_fst dX9_setNode_81 ?_
      refine j_weak [true, false, false, false, false] rfl ?_
      exact w_X9_setNode_84 C  _ _ _ _ _ hf
    · replace hf := it_t h16 hf
      refine j_aload_n C dX9_setNode_72 rfl ?_
      replace hf := bd hf
      obtain ⟨v25, h26, hf⟩ := hf
      refine j_callV C cl_X9_151 (c_X9_goUp h26) ⟨Nat.le_of_ble_eq_true rfl, Nat.le_of_ble_eq_true rfl⟩ ⟨Nat.zero_le _, Nat.zero_le _⟩ (q0 := 0) rfl rfl rfl rfl (Nat.le_of_ble_eq_true rfl) rfl rfl wM_fst dX9_setNode_73 ?_
      refine j_goto C (tgt := 84) (by decide) dX9_setNode_76 ?_
      refine j_weak [true, false, false, false, false] rfl ?_
      exact w_X9_setNode_84 C  _ _ _ _ _ hf
  · replace hf := it_t h12 hf
    refine j_aload_n C dX9_setNode_42 rfl ?_
    refine j_bipush C bp_m3 dX9_setNode_43 ?_
    replace hf := bd hf
    obtain ⟨v27, h28, hf⟩ := hf
    refine j_callV C cl_X9_27 (c_X9_fail h28) ⟨Nat.le_of_ble_eq_true rfl, Nat.le_of_ble_eq_true rfl⟩ ⟨Nat.zero_le _, Nat.zero_le _⟩ (q0 := 0) rfl rfl rfl rfl (Nat.le_of_ble_eq_true rfl) rfl rfl wM_fst dX9_setNode_45 ?_
    cases hf
    exact j_iret C dX9_setNode_48
set_option maxRecDepth 100000 in
set_option maxHeartbeats 4000000 in
theorem c_X9_setNode {l : Launch} {D : va_G} {cI cS : ClassId} {A : Nat → Prop} {b : Nat → Nat} {rest : va_W} {hs : Int64} {s : Nat → Int32} {P : Nat → Int32} {E : Nat → Int32} {n : Int32} {x1 : Int32} {x2 : Int32} {r : Int32 × (Nat → Int32) × (Nat → Int32) × (Nat → Int32) × (Int32)} (hf : f_X9_setNode s P E n x1 x2 = some r) : CT l yX9_setNode cX9_setNode 5 (some .int) (rmF 5 111) D cI cS A [.ref (b 0), .int x1, .int x2] (wM b cI s P E n hs rest) (wM b cI r.2.1 r.2.2.1 r.2.2.2.1 r.2.2.2.2 hs rest) (some (.int r.1)) := by
  refine CT_of (own := RX9) (xs := [some (.ref (b 0)), some (.int x1), some (.int x2), none, none]) (by decide) rfl (Nat.le_of_ble_eq_true rfl) rfl ?_
  intro p e s_ m below meth c C
  unfold f_X9_setNode at hf
  refine j_aload_n C dX9_setNode_0 rfl ?_
  refine j_iload_n C dX9_setNode_1 rfl ?_
  replace hf := bd hf
  obtain ⟨v1, h2, hf⟩ := hf
  refine j_callV C cl_X9_148 (c_X9_isNode h2) ⟨Nat.le_of_ble_eq_true rfl, Nat.le_of_ble_eq_true rfl⟩ ⟨Nat.zero_le _, Nat.zero_le _⟩ (q0 := 0) rfl rfl rfl rfl (Nat.le_of_ble_eq_true rfl) rfl rfl rfl dX9_setNode_2 ?_
  refine j_if_eq C (tgt := 17) (by decide) dX9_setNode_5 (fun h3 => ?_) (fun h3 => ?_)
  · replace hf := it_t h3 hf
    refine j_weak [true, false, false, false, false] rfl ?_
    exact w_X9_setNode_17 C  _ _ _ _ _ hf
  · replace hf := it_f h3 hf
    refine j_iload_n C dX9_setNode_8 rfl ?_
    refine j_iconst C ic_0 dX9_setNode_9 ?_
    refine j_iconst C ic_1 dX9_setNode_10 ?_
    replace hf := bd hf
    obtain ⟨v6, h7, hf⟩ := hf
    refine j_callS C cl_X9_31 (c_X9_in h7) ⟨Nat.le_of_ble_eq_true rfl, Nat.le_of_ble_eq_true rfl⟩ ⟨Nat.zero_le _, Nat.zero_le _⟩ rfl (Nat.le_of_ble_eq_true rfl) rfl rfl rfl dX9_setNode_11 ?_
    refine j_if_ne C (tgt := 24) (by decide) dX9_setNode_14 (fun h8 => ?_) (fun h8 => ?_)
    · replace hf := it_f h8 hf
      refine j_aload_n C dX9_setNode_24 rfl ?_
      refine j_iload_n C dX9_setNode_25 rfl ?_
      replace hf := bd hf
      obtain ⟨v9, h10, hf⟩ := hf
      refine j_callV C cl_X9_35 (c_X9_isUp h10) ⟨Nat.le_of_ble_eq_true rfl, Nat.le_of_ble_eq_true rfl⟩ ⟨Nat.zero_le _, Nat.zero_le _⟩ (q0 := 0) rfl rfl rfl rfl (Nat.le_of_ble_eq_true rfl) rfl rfl rfl dX9_setNode_26 ?_
      refine j_iload_n C dX9_setNode_29 rfl ?_
      refine j_iconst C ic_1 dX9_setNode_30 ?_
      refine j_icmp_ne C (tgt := 38) (by decide) dX9_setNode_31 (fun h11 => ?_) (fun h11 => ?_)
      · replace hf := it_f h11 hf
        refine j_iconst C ic_0 dX9_setNode_38 ?_
        exact w_X9_setNode_39 C  _ _ _ _ _ _ _ _ _ hf
      · replace hf := it_t h11 hf
        refine j_iconst C ic_1 dX9_setNode_34 ?_
        refine j_goto C (tgt := 39) (by decide) dX9_setNode_35 ?_
        exact w_X9_setNode_39 C  _ _ _ _ _ _ _ _ _ hf
    · replace hf := it_t h8 hf
      refine j_weak [true, false, false, false, false] rfl ?_
      exact w_X9_setNode_17 C  _ _ _ _ _ hf
set_option maxRecDepth 100000 in
set_option maxHeartbeats 4000000 in
theorem c_X9_change {l : Launch} {D : va_G} {cI cS : ClassId} {A : Nat → Prop} {b : Nat → Nat} {rest : va_W} {E : Nat → Int32} {hs : Int64} {s : Nat → Int32} {P : Nat → Int32} {n : Int32} {x1 : Int32} {x2 : Int32} {r : Int32 × (Nat → Int32) × (Nat → Int32) × (Int32)} (hf : f_X9_change s P n x1 x2 = some r) : CT l yX9_change cX9_change 4 (some .int) (rmF 1 21) D cI cS A [.ref (b 0), .int x1, .int x2] (wM b cI s P E n hs rest) (wM b cI r.2.1 r.2.2.1 E r.2.2.2 hs rest) (some (.int r.1)) := by
  refine CT_of (own := RX9) (xs := [some (.ref (b 0)), some (.int x1), some (.int x2), none]) (by decide) rfl (Nat.le_of_ble_eq_true rfl) rfl ?_
  intro p e s_ m below meth c C
  unfold f_X9_change at hf
  refine j_aload_n C dX9_change_0 rfl ?_
  replace hf := bd hf
  obtain ⟨v1, h2, hf⟩ := hf
  refine j_callV C cl_X9_138 (c_X9_note h2) ⟨Nat.le_of_ble_eq_true rfl, Nat.le_of_ble_eq_true rfl⟩ ⟨Nat.zero_le _, Nat.zero_le _⟩ (q0 := 0) rfl rfl rfl rfl (Nat.le_of_ble_eq_true rfl) rfl rfl wM_fst dX9_change_1 ?_
  refine j_aload_n C dX9_change_4 rfl ?_
  refine gf_X9_7 C dX9_change_5 ?_
  refine j_iload_n C dX9_change_8 rfl ?_
  replace hf := ld_s hf
  obtain ⟨v3, h4, e_v3, hf⟩ := hf
  refine aLM_1 C h4 e_v3 dX9_change_9 ?_
  refine j_istore_n C (xs' := [some (.ref (b 0)), some (.int x1), some (.int x2), some (.int v3)]) dX9_change_10 rfl rfl ?_
  refine j_aload_n C dX9_change_11 rfl ?_
  refine gf_X9_7 C dX9_change_12 ?_
  refine j_iload_n C dX9_change_15 rfl ?_
  refine j_iload_n C dX9_change_16 rfl ?_
  replace hf := sd_s hf
  obtain ⟨h5, hf⟩ := hf
  refine aSM_1 C h5 dX9_change_17 ?_
  refine j_iload_n C dX9_change_18 rfl ?_
  cases hf
  exact j_iret C dX9_change_19
set_option maxRecDepth 100000 in
set_option maxHeartbeats 4000000 in
theorem c_X9_setReplication {l : Launch} {D : va_G} {cI cS : ClassId} {A : Nat → Prop} {b : Nat → Nat} {rest : va_W} {hs : Int64} {s : Nat → Int32} {P : Nat → Int32} {E : Nat → Int32} {n : Int32} {x1 : Int32} {r : Int32 × (Nat → Int32) × (Nat → Int32) × (Nat → Int32) × (Int32)} (hf : f_X9_setReplication s P E n x1 = some r) : CT l yX9_setReplication cX9_setReplication 2 (some .int) (rmF 2 44) D cI cS A [.ref (b 0), .int x1] (wM b cI s P E n hs rest) (wM b cI r.2.1 r.2.2.1 r.2.2.2.1 r.2.2.2.2 hs rest) (some (.int r.1)) := by
  refine CT_of (own := RX9) (xs := [some (.ref (b 0)), some (.int x1)]) (by decide) rfl (Nat.le_of_ble_eq_true rfl) rfl ?_
  intro p e s_ m below meth c C
  unfold f_X9_setReplication at hf
  refine j_iload_n C dX9_setReplication_0 rfl ?_
  refine j_iconst C ic_1 dX9_setReplication_1 ?_
  refine j_iconst C ic_5 dX9_setReplication_2 ?_
  replace hf := bd hf
  obtain ⟨v1, h2, hf⟩ := hf
  refine j_callS C cl_X9_31 (c_X9_in h2) ⟨Nat.le_of_ble_eq_true rfl, Nat.le_of_ble_eq_true rfl⟩ ⟨Nat.zero_le _, Nat.zero_le _⟩ rfl (Nat.le_of_ble_eq_true rfl) rfl rfl rfl dX9_setReplication_3 ?_
  refine j_if_eq C (tgt := 18) (by decide) dX9_setReplication_6 (fun h3 => ?_) (fun h3 => ?_)
  · replace hf := it_t h3 hf
    refine j_aload_n C dX9_setReplication_18 rfl ?_
    refine j_bipush C bp_m2 dX9_setReplication_19 ?_
    replace hf := bd hf
    obtain ⟨v4, h5, hf⟩ := hf
    refine j_callV C cl_X9_27 (c_X9_fail h5) ⟨Nat.le_of_ble_eq_true rfl, Nat.le_of_ble_eq_true rfl⟩ ⟨Nat.zero_le _, Nat.zero_le _⟩ (q0 := 0) rfl rfl rfl rfl (Nat.le_of_ble_eq_true rfl) rfl rfl wM_fst dX9_setReplication_21 ?_
    cases hf
    exact j_iret C dX9_setReplication_24
  · replace hf := it_f h3 hf
    refine j_aload_n C dX9_setReplication_9 rfl ?_
    refine j_iconst C ic_0 dX9_setReplication_10 ?_
    refine j_iload_n C dX9_setReplication_11 rfl ?_
    replace hf := bd hf
    obtain ⟨v6, h7, hf⟩ := hf
    refine j_callV C cl_X9_157 (c_X9_change h7) ⟨Nat.le_of_ble_eq_true rfl, Nat.le_of_ble_eq_true rfl⟩ ⟨Nat.zero_le _, Nat.zero_le _⟩ (q0 := 0) rfl rfl rfl rfl (Nat.le_of_ble_eq_true rfl) rfl rfl wM_fst dX9_setReplication_12 ?_
    refine j_goto C (tgt := 24) (by decide) dX9_setReplication_15 ?_
    cases hf
    exact j_iret C dX9_setReplication_24
set_option maxRecDepth 100000 in
set_option maxHeartbeats 4000000 in
theorem w_X9_setSizes_20 {p : Program} {l : Launch} {e : Env} {s_ : State} {m : MethodId} {args : Array Value} {below : List Frame} {meth : Method} {c : Code} {D : va_G} {cI cS : ClassId} {A : Nat → Prop} {b : Nat → Nat} {rest : va_W} {hs : Int64} (C : cx p s_ m args meth c cX9_setSizes 4 RX9 (some .int) D cI cS)  : ∀ (s : Nat → Int32) (P : Nat → Int32) (E : Nat → Int32) (n : Int32)  (r : Int32 × (Nat → Int32) × (Nat → Int32) × (Nat → Int32) × (Int32)), f_X9_setSizes_20  s P E n = some r → jG p l e (rmF 2 44) s_ m args below meth c 4 D A (MQ below (QW D A (wM b cI r.2.1 r.2.2.1 r.2.2.2.1 r.2.2.2.2 hs rest) (some (.int r.1))) args s_ 0 0 A) (wM b cI s P E n hs rest) [some (.ref (b 0)), none, none, none] 20 [] := by
  intro s P E n r hf
  unfold f_X9_setSizes_20 at hf
  refine j_aload_n C dX9_setSizes_20 rfl ?_
  refine j_bipush C bp_m2 dX9_setSizes_21 ?_
  replace hf := bd hf
  obtain ⟨v4, h5, hf⟩ := hf
  refine j_callV C cl_X9_27 (c_X9_fail h5) ⟨Nat.le_of_ble_eq_true rfl, Nat.le_of_ble_eq_true rfl⟩ ⟨Nat.zero_le _, Nat.zero_le _⟩ (q0 := 0) rfl rfl rfl rfl (Nat.le_of_ble_eq_true rfl) rfl rfl wM_fst dX9_setSizes_23 ?_
  cases hf
  exact j_iret C dX9_setSizes_26
set_option maxRecDepth 100000 in
set_option maxHeartbeats 4000000 in
theorem c_X9_setSizes {l : Launch} {D : va_G} {cI cS : ClassId} {A : Nat → Prop} {b : Nat → Nat} {rest : va_W} {hs : Int64} {s : Nat → Int32} {P : Nat → Int32} {E : Nat → Int32} {n : Int32} {x1 : Int32} {x2 : Int32} {r : Int32 × (Nat → Int32) × (Nat → Int32) × (Nat → Int32) × (Int32)} (hf : f_X9_setSizes s P E n x1 x2 = some r) : CT l yX9_setSizes cX9_setSizes 4 (some .int) (rmF 2 44) D cI cS A [.ref (b 0), .int x1, .int x2] (wM b cI s P E n hs rest) (wM b cI r.2.1 r.2.2.1 r.2.2.2.1 r.2.2.2.2 hs rest) (some (.int r.1)) := by
  refine CT_of (own := RX9) (xs := [some (.ref (b 0)), some (.int x1), some (.int x2), none]) (by decide) rfl (Nat.le_of_ble_eq_true rfl) rfl ?_
  intro p e s_ m below meth c C
  unfold f_X9_setSizes at hf
  refine j_iload_n C dX9_setSizes_0 rfl ?_
  refine j_iconst C ic_1 dX9_setSizes_1 ?_
  refine j_sipush C sp_9999 dX9_setSizes_2 ?_
  replace hf := bd hf
  obtain ⟨v1, h2, hf⟩ := hf
  refine j_callS C cl_X9_31 (c_X9_in h2) ⟨Nat.le_of_ble_eq_true rfl, Nat.le_of_ble_eq_true rfl⟩ ⟨Nat.zero_le _, Nat.zero_le _⟩ rfl (Nat.le_of_ble_eq_true rfl) rfl rfl rfl dX9_setSizes_5 ?_
  refine j_if_eq C (tgt := 20) (by decide) dX9_setSizes_8 (fun h3 => ?_) (fun h3 => ?_)
  · replace hf := it_t h3 hf
    refine j_weak [true, false, false, false] rfl ?_
    exact w_X9_setSizes_20 C  _ _ _ _ _ hf
  · replace hf := it_f h3 hf
    refine j_iload_n C dX9_setSizes_11 rfl ?_
    refine j_iconst C ic_0 dX9_setSizes_12 ?_
    refine j_iload_n C dX9_setSizes_13 rfl ?_
    replace hf := bd hf
    obtain ⟨v6, h7, hf⟩ := hf
    refine j_callS C cl_X9_31 (c_X9_in h7) ⟨Nat.le_of_ble_eq_true rfl, Nat.le_of_ble_eq_true rfl⟩ ⟨Nat.zero_le _, Nat.zero_le _⟩ rfl (Nat.le_of_ble_eq_true rfl) rfl rfl rfl dX9_setSizes_14 ?_
    refine j_if_ne C (tgt := 27) (by decide) dX9_setSizes_17 (fun h8 => ?_) (fun h8 => ?_)
    · replace hf := it_f h8 hf
      refine j_aload_n C dX9_setSizes_27 rfl ?_
      refine j_iconst C ic_2 dX9_setSizes_28 ?_
      refine j_iload_n C dX9_setSizes_29 rfl ?_
      replace hf := bd hf
      obtain ⟨v9, h10, hf⟩ := hf
      refine j_callV C cl_X9_157 (c_X9_change h10) ⟨Nat.le_of_ble_eq_true rfl, Nat.le_of_ble_eq_true rfl⟩ ⟨Nat.zero_le _, Nat.zero_le _⟩ (q0 := 0) rfl rfl rfl rfl (Nat.le_of_ble_eq_true rfl) rfl rfl wM_fst dX9_setSizes_30 ?_
      refine j_istore_n C (xs' := [some (.ref (b 0)), some (.int x1), some (.int x2), some (.int v9.1)]) dX9_setSizes_33 rfl rfl ?_
      refine j_aload_n C dX9_setSizes_34 rfl ?_
      refine gf_X9_7 C dX9_setSizes_35 ?_
      refine j_iconst C ic_1 dX9_setSizes_38 ?_
      refine j_iload_n C dX9_setSizes_39 rfl ?_
      replace hf := sd_s hf
      obtain ⟨h11, hf⟩ := hf
      refine aSM_1 C h11 dX9_setSizes_40 ?_
      refine j_iload_n C dX9_setSizes_41 rfl ?_
      cases hf
      exact j_iret C dX9_setSizes_42
    · replace hf := it_t h8 hf
      refine j_weak [true, false, false, false] rfl ?_
      exact w_X9_setSizes_20 C  _ _ _ _ _ hf
set_option maxRecDepth 100000 in
set_option maxHeartbeats 4000000 in
theorem w_X9_setLoads_19 {p : Program} {l : Launch} {e : Env} {s_ : State} {m : MethodId} {args : Array Value} {below : List Frame} {meth : Method} {c : Code} {D : va_G} {cI cS : ClassId} {A : Nat → Prop} {b : Nat → Nat} {rest : va_W} {hs : Int64} (C : cx p s_ m args meth c cX9_setLoads 4 RX9 (some .int) D cI cS)  : ∀ (s : Nat → Int32) (P : Nat → Int32) (E : Nat → Int32) (n : Int32)  (r : Int32 × (Nat → Int32) × (Nat → Int32) × (Nat → Int32) × (Int32)), f_X9_setLoads_19  s P E n = some r → jG p l e (rmF 2 44) s_ m args below meth c 4 D A (MQ below (QW D A (wM b cI r.2.1 r.2.2.1 r.2.2.2.1 r.2.2.2.2 hs rest) (some (.int r.1))) args s_ 0 0 A) (wM b cI s P E n hs rest) [some (.ref (b 0)), none, none, none] 19 [] := by
  intro s P E n r hf
  unfold f_X9_setLoads_19 at hf
  refine j_aload_n C dX9_setLoads_19 rfl ?_
  refine j_bipush C bp_m2 dX9_setLoads_20 ?_
  replace hf := bd hf
  obtain ⟨v4, h5, hf⟩ := hf
  refine j_callV C cl_X9_27 (c_X9_fail h5) ⟨Nat.le_of_ble_eq_true rfl, Nat.le_of_ble_eq_true rfl⟩ ⟨Nat.zero_le _, Nat.zero_le _⟩ (q0 := 0) rfl rfl rfl rfl (Nat.le_of_ble_eq_true rfl) rfl rfl wM_fst dX9_setLoads_22 ?_
  cases hf
  exact j_iret C dX9_setLoads_25
set_option maxRecDepth 100000 in
set_option maxHeartbeats 4000000 in
theorem c_X9_setLoads {l : Launch} {D : va_G} {cI cS : ClassId} {A : Nat → Prop} {b : Nat → Nat} {rest : va_W} {hs : Int64} {s : Nat → Int32} {P : Nat → Int32} {E : Nat → Int32} {n : Int32} {x1 : Int32} {x2 : Int32} {r : Int32 × (Nat → Int32) × (Nat → Int32) × (Nat → Int32) × (Int32)} (hf : f_X9_setLoads s P E n x1 x2 = some r) : CT l yX9_setLoads cX9_setLoads 4 (some .int) (rmF 2 44) D cI cS A [.ref (b 0), .int x1, .int x2] (wM b cI s P E n hs rest) (wM b cI r.2.1 r.2.2.1 r.2.2.2.1 r.2.2.2.2 hs rest) (some (.int r.1)) := by
  refine CT_of (own := RX9) (xs := [some (.ref (b 0)), some (.int x1), some (.int x2), none]) (by decide) rfl (Nat.le_of_ble_eq_true rfl) rfl ?_
  intro p e s_ m below meth c C
  unfold f_X9_setLoads at hf
  refine j_iload_n C dX9_setLoads_0 rfl ?_
  refine j_iconst C ic_1 dX9_setLoads_1 ?_
  refine j_bipush C bp_32 dX9_setLoads_2 ?_
  replace hf := bd hf
  obtain ⟨v1, h2, hf⟩ := hf
  refine j_callS C cl_X9_31 (c_X9_in h2) ⟨Nat.le_of_ble_eq_true rfl, Nat.le_of_ble_eq_true rfl⟩ ⟨Nat.zero_le _, Nat.zero_le _⟩ rfl (Nat.le_of_ble_eq_true rfl) rfl rfl rfl dX9_setLoads_4 ?_
  refine j_if_eq C (tgt := 19) (by decide) dX9_setLoads_7 (fun h3 => ?_) (fun h3 => ?_)
  · replace hf := it_t h3 hf
    refine j_weak [true, false, false, false] rfl ?_
    exact w_X9_setLoads_19 C  _ _ _ _ _ hf
  · replace hf := it_f h3 hf
    refine j_iload_n C dX9_setLoads_10 rfl ?_
    refine j_iconst C ic_0 dX9_setLoads_11 ?_
    refine j_iload_n C dX9_setLoads_12 rfl ?_
    replace hf := bd hf
    obtain ⟨v6, h7, hf⟩ := hf
    refine j_callS C cl_X9_31 (c_X9_in h7) ⟨Nat.le_of_ble_eq_true rfl, Nat.le_of_ble_eq_true rfl⟩ ⟨Nat.zero_le _, Nat.zero_le _⟩ rfl (Nat.le_of_ble_eq_true rfl) rfl rfl rfl dX9_setLoads_13 ?_
    refine j_if_ne C (tgt := 26) (by decide) dX9_setLoads_16 (fun h8 => ?_) (fun h8 => ?_)
    · replace hf := it_f h8 hf
      refine j_aload_n C dX9_setLoads_26 rfl ?_
      refine j_iconst C ic_4 dX9_setLoads_27 ?_
      refine j_iload_n C dX9_setLoads_28 rfl ?_
      replace hf := bd hf
      obtain ⟨v9, h10, hf⟩ := hf
      refine j_callV C cl_X9_157 (c_X9_change h10) ⟨Nat.le_of_ble_eq_true rfl, Nat.le_of_ble_eq_true rfl⟩ ⟨Nat.zero_le _, Nat.zero_le _⟩ (q0 := 0) rfl rfl rfl rfl (Nat.le_of_ble_eq_true rfl) rfl rfl wM_fst dX9_setLoads_29 ?_
      refine j_istore_n C (xs' := [some (.ref (b 0)), some (.int x1), some (.int x2), some (.int v9.1)]) dX9_setLoads_32 rfl rfl ?_
      refine j_aload_n C dX9_setLoads_33 rfl ?_
      refine gf_X9_7 C dX9_setLoads_34 ?_
      refine j_iconst C ic_3 dX9_setLoads_37 ?_
      refine j_iload_n C dX9_setLoads_38 rfl ?_
      replace hf := sd_s hf
      obtain ⟨h11, hf⟩ := hf
      refine aSM_1 C h11 dX9_setLoads_39 ?_
      refine j_iload_n C dX9_setLoads_40 rfl ?_
      cases hf
      exact j_iret C dX9_setLoads_41
    · replace hf := it_t h8 hf
      refine j_weak [true, false, false, false] rfl ?_
      exact w_X9_setLoads_19 C  _ _ _ _ _ hf
set_option maxRecDepth 100000 in
set_option maxHeartbeats 4000000 in
theorem c_X9_setSpeed {l : Launch} {D : va_G} {cI cS : ClassId} {A : Nat → Prop} {b : Nat → Nat} {rest : va_W} {hs : Int64} {s : Nat → Int32} {P : Nat → Int32} {E : Nat → Int32} {n : Int32} {x1 : Int32} {r : Int32 × (Nat → Int32) × (Nat → Int32) × (Nat → Int32) × (Int32)} (hf : f_X9_setSpeed s P E n x1 = some r) : CT l yX9_setSpeed cX9_setSpeed 2 (some .int) (rmF 2 44) D cI cS A [.ref (b 0), .int x1] (wM b cI s P E n hs rest) (wM b cI r.2.1 r.2.2.1 r.2.2.2.1 r.2.2.2.2 hs rest) (some (.int r.1)) := by
  refine CT_of (own := RX9) (xs := [some (.ref (b 0)), some (.int x1)]) (by decide) rfl (Nat.le_of_ble_eq_true rfl) rfl ?_
  intro p e s_ m below meth c C
  unfold f_X9_setSpeed at hf
  refine j_iload_n C dX9_setSpeed_0 rfl ?_
  refine j_iconst C ic_1 dX9_setSpeed_1 ?_
  refine j_bipush C bp_99 dX9_setSpeed_2 ?_
  replace hf := bd hf
  obtain ⟨v1, h2, hf⟩ := hf
  refine j_callS C cl_X9_31 (c_X9_in h2) ⟨Nat.le_of_ble_eq_true rfl, Nat.le_of_ble_eq_true rfl⟩ ⟨Nat.zero_le _, Nat.zero_le _⟩ rfl (Nat.le_of_ble_eq_true rfl) rfl rfl rfl dX9_setSpeed_4 ?_
  refine j_if_eq C (tgt := 19) (by decide) dX9_setSpeed_7 (fun h3 => ?_) (fun h3 => ?_)
  · replace hf := it_t h3 hf
    refine j_aload_n C dX9_setSpeed_19 rfl ?_
    refine j_bipush C bp_m2 dX9_setSpeed_20 ?_
    replace hf := bd hf
    obtain ⟨v4, h5, hf⟩ := hf
    refine j_callV C cl_X9_27 (c_X9_fail h5) ⟨Nat.le_of_ble_eq_true rfl, Nat.le_of_ble_eq_true rfl⟩ ⟨Nat.zero_le _, Nat.zero_le _⟩ (q0 := 0) rfl rfl rfl rfl (Nat.le_of_ble_eq_true rfl) rfl rfl wM_fst dX9_setSpeed_22 ?_
    cases hf
    exact j_iret C dX9_setSpeed_25
  · replace hf := it_f h3 hf
    refine j_aload_n C dX9_setSpeed_10 rfl ?_
    refine j_iconst C ic_5 dX9_setSpeed_11 ?_
    refine j_iload_n C dX9_setSpeed_12 rfl ?_
    replace hf := bd hf
    obtain ⟨v6, h7, hf⟩ := hf
    refine j_callV C cl_X9_157 (c_X9_change h7) ⟨Nat.le_of_ble_eq_true rfl, Nat.le_of_ble_eq_true rfl⟩ ⟨Nat.zero_le _, Nat.zero_le _⟩ (q0 := 0) rfl rfl rfl rfl (Nat.le_of_ble_eq_true rfl) rfl rfl wM_fst dX9_setSpeed_13 ?_
    refine j_goto C (tgt := 25) (by decide) dX9_setSpeed_16 ?_
    cases hf
    exact j_iret C dX9_setSpeed_25
set_option maxRecDepth 100000 in
set_option maxHeartbeats 4000000 in
theorem w_X9_put_17 {p : Program} {l : Launch} {e : Env} {s_ : State} {m : MethodId} {args : Array Value} {below : List Frame} {meth : Method} {c : Code} {D : va_G} {cI cS : ClassId} {A : Nat → Prop} {b : Nat → Nat} {rest : va_W} {hs : Int64} (C : cx p s_ m args meth c cX9_put 5 RX9 (some .int) D cI cS)  : ∀ (s : Nat → Int32) (P : Nat → Int32) (E : Nat → Int32) (n : Int32)  (r : Int32 × (Nat → Int32) × (Nat → Int32) × (Nat → Int32) × (Int32)), f_X9_put_17  s P E n = some r → jG p l e (rmF 2 42) s_ m args below meth c 5 D A (MQ below (QW D A (wM b cI r.2.1 r.2.2.1 r.2.2.2.1 r.2.2.2.2 hs rest) (some (.int r.1))) args s_ 0 0 A) (wM b cI s P E n hs rest) [some (.ref (b 0)), none, none, none, none] 17 [] := by
  intro s P E n r hf
  unfold f_X9_put_17 at hf
  refine j_aload_n C dX9_put_17 rfl ?_
  refine j_bipush C bp_m2 dX9_put_18 ?_
  replace hf := bd hf
  obtain ⟨v4, h5, hf⟩ := hf
  refine j_callV C cl_X9_27 (c_X9_fail h5) ⟨Nat.le_of_ble_eq_true rfl, Nat.le_of_ble_eq_true rfl⟩ ⟨Nat.zero_le _, Nat.zero_le _⟩ (q0 := 0) rfl rfl rfl rfl (Nat.le_of_ble_eq_true rfl) rfl rfl wM_fst dX9_put_20 ?_
  cases hf
  exact j_iret C dX9_put_23
set_option maxRecDepth 100000 in
set_option maxHeartbeats 4000000 in
theorem w_X9_put_54 {p : Program} {l : Launch} {e : Env} {s_ : State} {m : MethodId} {args : Array Value} {below : List Frame} {meth : Method} {c : Code} {D : va_G} {cI cS : ClassId} {A : Nat → Prop} {b : Nat → Nat} {rest : va_W} {hs : Int64} (C : cx p s_ m args meth c cX9_put 5 RX9 (some .int) D cI cS)  : ∀ (s : Nat → Int32) (P : Nat → Int32) (E : Nat → Int32) (n : Int32) (x1 : Int32) (x2 : Int32) (x3 : Int32) (r : Int32 × (Nat → Int32) × (Nat → Int32) × (Nat → Int32) × (Int32)), f_X9_put_54  s P E n x1 x2 x3 = some r → jG p l e (rmF 2 42) s_ m args below meth c 5 D A (MQ below (QW D A (wM b cI r.2.1 r.2.2.1 r.2.2.2.1 r.2.2.2.2 hs rest) (some (.int r.1))) args s_ 0 0 A) (wM b cI s P E n hs rest) [some (.ref (b 0)), some (.int x1), some (.int x2), some (.int x3), none] 54 [] := by
  intro s P E n x1 x2 x3 r hf
  unfold f_X9_put_54 at hf
  refine j_aload_n C dX9_put_54 rfl ?_
  replace hf := bd hf
  obtain ⟨v12, h13, hf⟩ := hf
  refine j_callV C cl_X9_138 (c_X9_note h13) ⟨Nat.le_of_ble_eq_true rfl, Nat.le_of_ble_eq_true rfl⟩ ⟨Nat.zero_le _, Nat.zero_le _⟩ (q0 := 0) rfl rfl rfl rfl (Nat.le_of_ble_eq_true rfl) rfl rfl wM_fst dX9_put_55 ?_
  refine j_iload_n C dX9_put_58 rfl ?_
  refine j_iconst C ic_m1 dX9_put_59 ?_
  refine j_icmp_eq C (tgt := 85) (by decide) dX9_put_60 (fun h14 => ?_) (fun h14 => ?_)
  · replace hf := it_t h14 hf
    refine j_aload_n C dX9_put_85 rfl ?_
    refine gf_X9_7 C dX9_put_86 ?_
    refine j_bipush C bp_43 dX9_put_89 ?_
    refine j_iconst C ic_2 dX9_put_91 ?_
    refine j_aload_n C dX9_put_92 rfl ?_
    refine gf_X9_7 C dX9_put_93 ?_
    refine j_bipush C bp_16 dX9_put_96 ?_
    replace hf := ld_s hf
    obtain ⟨v15, h16, e_v15, hf⟩ := hf
    refine aLM_1 C h16 e_v15 dX9_put_98 ?_
    refine j_imul C dX9_put_99 ?_
    refine j_iadd C dX9_put_100 ?_
    refine j_iload_n C dX9_put_101 rfl ?_
    replace hf := sd_s hf
    obtain ⟨h17, hf⟩ := hf
    refine aSM_1 C h17 dX9_put_102 ?_
    refine j_aload_n C dX9_put_103 rfl ?_
    refine gf_X9_7 C dX9_put_104 ?_
    refine j_bipush C bp_43 dX9_put_107 ?_
    refine j_iconst C ic_2 dX9_put_109 ?_
    refine j_aload_n C dX9_put_110 rfl ?_
    refine gf_X9_7 C dX9_put_111 ?_
    refine j_bipush C bp_16 dX9_put_114 ?_
    replace hf := ld_s hf
    obtain ⟨v18, h19, e_v18, hf⟩ := hf
    refine aLM_1 C h19 e_v18 dX9_put_116 ?_
    refine j_imul C dX9_put_117 ?_
    refine j_iadd C dX9_put_118 ?_
    refine j_iconst C ic_1 dX9_put_119 ?_
    refine j_iadd C dX9_put_120 ?_
    refine j_iload_n C dX9_put_121 rfl ?_
    replace hf := sd_s hf
    obtain ⟨h20, hf⟩ := hf
    refine aSM_1 C h20 dX9_put_122 ?_
    refine j_aload_n C dX9_put_123 rfl ?_
    refine gf_X9_7 C dX9_put_124 ?_
    refine j_bipush C bp_16 dX9_put_127 ?_
    refine j_dup2 C dX9_put_129 rfl rfl ?_
    replace hf := ld_s hf
    obtain ⟨v21, h22, e_v21, hf⟩ := hf
    refine aLM_1 C h22 e_v21 dX9_put_130 ?_
    refine j_iconst C ic_1 dX9_put_131 ?_
    refine j_iadd C dX9_put_132 ?_
    replace hf := sd_s hf
    obtain ⟨h23, hf⟩ := hf
    refine aSM_1 C h23 dX9_put_133 ?_
    refine j_iconst C ic_0 dX9_put_134 ?_
    cases hf
    exact j_iret C dX9_put_135
  · replace hf := it_f h14 hf
    refine j_aload_n C dX9_put_63 rfl ?_
    refine gf_X9_7 C dX9_put_64 ?_
    refine j_iload_n C dX9_put_67 rfl ?_
    refine j_iconst C ic_1 dX9_put_68 ?_
    refine j_iadd C dX9_put_69 ?_
    replace hf := ld_s hf
    obtain ⟨v24, h25, e_v24, hf⟩ := hf
    refine aLM_1 C h25 e_v24 dX9_put_70 ?_
    refine j_istore C (xs' := [some (.ref (b 0)), some (.int x1), some (.int x2), some (.int x3), some (.int v24)]) dX9_put_71 rfl rfl ?_
    refine j_aload_n C dX9_put_73 rfl ?_
    refine gf_X9_7 C dX9_put_74 ?_
    refine j_iload_n C dX9_put_77 rfl ?_
    refine j_iconst C ic_1 dX9_put_78 ?_
    refine j_iadd C dX9_put_79 ?_
    refine j_iload_n C dX9_put_80 rfl ?_
    replace hf := sd_s hf
    obtain ⟨h26, hf⟩ := hf
    refine aSM_1 C h26 dX9_put_81 ?_
    refine j_iload C dX9_put_82 rfl ?_
    cases hf
    exact j_iret C dX9_put_84
set_option maxRecDepth 100000 in
set_option maxHeartbeats 4000000 in
theorem c_X9_put {l : Launch} {D : va_G} {cI cS : ClassId} {A : Nat → Prop} {b : Nat → Nat} {rest : va_W} {hs : Int64} {s : Nat → Int32} {P : Nat → Int32} {E : Nat → Int32} {n : Int32} {x1 : Int32} {x2 : Int32} {r : Int32 × (Nat → Int32) × (Nat → Int32) × (Nat → Int32) × (Int32)} (hf : f_X9_put s P E n x1 x2 = some r) : CT l yX9_put cX9_put 5 (some .int) (rmF 2 42) D cI cS A [.ref (b 0), .int x1, .int x2] (wM b cI s P E n hs rest) (wM b cI r.2.1 r.2.2.1 r.2.2.2.1 r.2.2.2.2 hs rest) (some (.int r.1)) := by
  refine CT_of (own := RX9) (xs := [some (.ref (b 0)), some (.int x1), some (.int x2), none, none]) (by decide) rfl (Nat.le_of_ble_eq_true rfl) rfl ?_
  intro p e s_ m below meth c C
  unfold f_X9_put at hf
  refine j_iload_n C dX9_put_0 rfl ?_
  replace hf := bd hf
  obtain ⟨v1, h2, hf⟩ := hf
  refine j_callS C cl_X9_160 (c_X9_isKey h2) ⟨Nat.le_of_ble_eq_true rfl, Nat.le_of_ble_eq_true rfl⟩ ⟨Nat.zero_le _, Nat.zero_le _⟩ rfl (Nat.le_of_ble_eq_true rfl) rfl rfl rfl dX9_put_1 ?_
  refine j_if_eq C (tgt := 17) (by decide) dX9_put_4 (fun h3 => ?_) (fun h3 => ?_)
  · replace hf := it_t h3 hf
    refine j_weak [true, false, false, false, false] rfl ?_
    exact w_X9_put_17 C  _ _ _ _ _ hf
  · replace hf := it_f h3 hf
    refine j_iload_n C dX9_put_7 rfl ?_
    refine j_iconst C ic_1 dX9_put_8 ?_
    refine j_bipush C bp_99 dX9_put_9 ?_
    replace hf := bd hf
    obtain ⟨v6, h7, hf⟩ := hf
    refine j_callS C cl_X9_31 (c_X9_in h7) ⟨Nat.le_of_ble_eq_true rfl, Nat.le_of_ble_eq_true rfl⟩ ⟨Nat.zero_le _, Nat.zero_le _⟩ rfl (Nat.le_of_ble_eq_true rfl) rfl rfl rfl dX9_put_11 ?_
    refine j_if_ne C (tgt := 24) (by decide) dX9_put_14 (fun h8 => ?_) (fun h8 => ?_)
    · replace hf := it_f h8 hf
      refine j_aload_n C dX9_put_24 rfl ?_
      refine j_iload_n C dX9_put_25 rfl ?_
      replace hf := bd hf
      obtain ⟨v9, h10, hf⟩ := hf
      refine j_callV C cl_X9_163 (c_X9_placeOf h10) ⟨Nat.le_of_ble_eq_true rfl, Nat.le_of_ble_eq_true rfl⟩ ⟨Nat.zero_le _, Nat.zero_le _⟩ (q0 := 0) rfl rfl rfl rfl (Nat.le_of_ble_eq_true rfl) rfl rfl rfl dX9_put_26 ?_
      refine j_istore_n C (xs' := [some (.ref (b 0)), some (.int x1), some (.int x2), some (.int v9), none]) dX9_put_29 rfl rfl ?_
      refine j_iload_n C dX9_put_30 rfl ?_
      refine j_iconst C ic_m1 dX9_put_31 ?_
      refine j_icmp_ne C (tgt := 54) (by decide) dX9_put_32 (fun h11 => ?_) (fun h11 => ?_)
      · replace hf := it_f h11 hf
        exact w_X9_put_54 C  _ _ _ _ _ _ _ _ hf
      · replace hf := it_t h11 hf
        refine j_aload_n C dX9_put_35 rfl ?_
        refine gf_X9_7 C dX9_put_36 ?_
        refine j_bipush C bp_16 dX9_put_39 ?_
        replace hf := ld_s hf
        obtain ⟨v27, h28, e_v27, hf⟩ := hf
        refine aLM_1 C h28 e_v27 dX9_put_41 ?_
        refine j_bipush C bp_64 dX9_put_42 ?_
        refine j_icmp_ne C (tgt := 54) (by decide) dX9_put_44 (fun h29 => ?_) (fun h29 => ?_)
        · replace hf := it_f h29 hf
          exact w_X9_put_54 C  _ _ _ _ _ _ _ _ hf
        · replace hf := it_t h29 hf
          refine j_aload_n C dX9_put_47 rfl ?_
          refine j_bipush C bp_m4 dX9_put_48 ?_
          replace hf := bd hf
          obtain ⟨v30, h31, hf⟩ := hf
          refine j_callV C cl_X9_27 (c_X9_fail h31) ⟨Nat.le_of_ble_eq_true rfl, Nat.le_of_ble_eq_true rfl⟩ ⟨Nat.zero_le _, Nat.zero_le _⟩ (q0 := 0) rfl rfl rfl rfl (Nat.le_of_ble_eq_true rfl) rfl rfl wM_fst dX9_put_50 ?_
          cases hf
          exact j_iret C dX9_put_53
    · replace hf := it_t h8 hf
      refine j_weak [true, false, false, false, false] rfl ?_
      exact w_X9_put_17 C  _ _ _ _ _ hf
set_option maxRecDepth 100000 in
set_option maxHeartbeats 4000000 in
theorem w_X9_remove_48 {p : Program} {l : Launch} {e : Env} {s_ : State} {m : MethodId} {args : Array Value} {below : List Frame} {meth : Method} {c : Code} {D : va_G} {cI cS : ClassId} {A : Nat → Prop} {b : Nat → Nat} {rest : va_W} {hs : Int64} (C : cx p s_ m args meth c cX9_remove 5 RX9 (some .int) D cI cS)  : ∀ (n_ : Nat) (s : Nat → Int32) (P : Nat → Int32) (E : Nat → Int32) (n : Int32) (x3 : Int32) (x4 : Int32) (r : Int32 × (Nat → Int32) × (Nat → Int32) × (Nat → Int32) × (Int32)), f_X9_remove_48  n_ s P E n x3 x4 = some r → jG p l e (rmF 2 42) s_ m args below meth c 5 D A (MQ below (QW D A (wM b cI r.2.1 r.2.2.1 r.2.2.2.1 r.2.2.2.2 hs rest) (some (.int r.1))) args s_ 0 0 A) (wM b cI s P E n hs rest) [some (.ref (b 0)), none, none, some (.int x3), some (.int x4)] 48 [] := by
  intro n_
  induction n_ with
  | zero =>
    intro s P E n x3 x4 r hf
    rw [f_X9_remove_48] at hf
    cases hf
  | succ n_ hk48 =>
    intro s P E n x3 x4 r hf
    rw [f_X9_remove_48] at hf
    refine j_iload C dX9_remove_48 rfl ?_
    refine j_iconst C ic_2 dX9_remove_50 ?_
    refine j_iadd C dX9_remove_51 ?_
    refine j_sipush C sp_171 dX9_remove_52 ?_
    refine j_icmp_ge C (tgt := 80) (by decide) dX9_remove_55 (fun h11 => ?_) (fun h11 => ?_)
    · replace hf := it_t h11 hf
      refine j_aload_n C dX9_remove_80 rfl ?_
      refine gf_X9_7 C dX9_remove_81 ?_
      refine j_bipush C bp_16 dX9_remove_84 ?_
      refine j_dup2 C dX9_remove_86 rfl rfl ?_
      replace hf := ld_s hf
      obtain ⟨v12, h13, e_v12, hf⟩ := hf
      refine aLM_1 C h13 e_v12 dX9_remove_87 ?_
      refine j_iconst C ic_1 dX9_remove_88 ?_
      refine j_isub C dX9_remove_89 ?_
      replace hf := sd_s hf
      obtain ⟨h14, hf⟩ := hf
      refine aSM_1 C h14 dX9_remove_90 ?_
      refine j_iload_n C dX9_remove_91 rfl ?_
      cases hf
      exact j_iret C dX9_remove_92
    · replace hf := it_f h11 hf
      refine j_aload_n C dX9_remove_58 rfl ?_
      refine gf_X9_7 C dX9_remove_59 ?_
      refine j_iload C dX9_remove_62 rfl ?_
      refine j_aload_n C dX9_remove_64 rfl ?_
      refine gf_X9_7 C dX9_remove_65 ?_
      refine j_iload C dX9_remove_68 rfl ?_
      refine j_iconst C ic_2 dX9_remove_70 ?_
      refine j_iadd C dX9_remove_71 ?_
      replace hf := ld_s hf
      obtain ⟨v15, h16, e_v15, hf⟩ := hf
      refine aLM_1 C h16 e_v15 dX9_remove_72 ?_
      replace hf := sd_s hf
      obtain ⟨h17, hf⟩ := hf
      refine aSM_1 C h17 dX9_remove_73 ?_
      refine j_iinc C (xs' := [some (.ref (b 0)), none, none, some (.int x3), some (.int (x4 + (1 : Int32)))]) dX9_remove_74 rfl (ii_1 _) rfl rfl ?_
      refine j_goto C (tgt := 48) (by decide) dX9_remove_77 ?_
      exact hk48 _ _ _ _ _ _ _ hf
set_option maxRecDepth 100000 in
set_option maxHeartbeats 4000000 in
theorem c_X9_remove {l : Launch} {D : va_G} {cI cS : ClassId} {A : Nat → Prop} {b : Nat → Nat} {rest : va_W} {hs : Int64} {s : Nat → Int32} {P : Nat → Int32} {E : Nat → Int32} {n : Int32} {x1 : Int32} {r : Int32 × (Nat → Int32) × (Nat → Int32) × (Nat → Int32) × (Int32)} (hf : f_X9_remove s P E n x1 = some r) : CT l yX9_remove cX9_remove 5 (some .int) (rmF 2 42) D cI cS A [.ref (b 0), .int x1] (wM b cI s P E n hs rest) (wM b cI r.2.1 r.2.2.1 r.2.2.2.1 r.2.2.2.2 hs rest) (some (.int r.1)) := by
  refine CT_of (own := RX9) (xs := [some (.ref (b 0)), some (.int x1), none, none, none]) (by decide) rfl (Nat.le_of_ble_eq_true rfl) rfl ?_
  intro p e s_ m below meth c C
  unfold f_X9_remove at hf
  refine j_iload_n C dX9_remove_0 rfl ?_
  replace hf := bd hf
  obtain ⟨v1, h2, hf⟩ := hf
  refine j_callS C cl_X9_160 (c_X9_isKey h2) ⟨Nat.le_of_ble_eq_true rfl, Nat.le_of_ble_eq_true rfl⟩ ⟨Nat.zero_le _, Nat.zero_le _⟩ rfl (Nat.le_of_ble_eq_true rfl) rfl rfl rfl dX9_remove_1 ?_
  refine j_if_ne C (tgt := 14) (by decide) dX9_remove_4 (fun h3 => ?_) (fun h3 => ?_)
  · replace hf := it_f h3 hf
    refine j_aload_n C dX9_remove_14 rfl ?_
    refine j_iload_n C dX9_remove_15 rfl ?_
    replace hf := bd hf
    obtain ⟨v4, h5, hf⟩ := hf
    refine j_callV C cl_X9_163 (c_X9_placeOf h5) ⟨Nat.le_of_ble_eq_true rfl, Nat.le_of_ble_eq_true rfl⟩ ⟨Nat.zero_le _, Nat.zero_le _⟩ (q0 := 0) rfl rfl rfl rfl (Nat.le_of_ble_eq_true rfl) rfl rfl rfl dX9_remove_16 ?_
    refine j_istore_n C (xs' := [some (.ref (b 0)), some (.int x1), some (.int v4), none, none]) dX9_remove_19 rfl rfl ?_
    refine j_iload_n C dX9_remove_20 rfl ?_
    refine j_iconst C ic_m1 dX9_remove_21 ?_
    refine j_icmp_ne C (tgt := 32) (by decide) dX9_remove_22 (fun h6 => ?_) (fun h6 => ?_)
    · replace hf := it_f h6 hf
      refine j_aload_n C dX9_remove_32 rfl ?_
      replace hf := bd hf
      obtain ⟨v7, h8, hf⟩ := hf
      refine j_callV C cl_X9_138 (c_X9_note h8) ⟨Nat.le_of_ble_eq_true rfl, Nat.le_of_ble_eq_true rfl⟩ ⟨Nat.zero_le _, Nat.zero_le _⟩ (q0 := 0) rfl rfl rfl rfl (Nat.le_of_ble_eq_true rfl) rfl rfl wM_fst dX9_remove_33 ?_
      refine j_aload_n C dX9_remove_36 rfl ?_
      refine gf_X9_7 C dX9_remove_37 ?_
      refine j_iload_n C dX9_remove_40 rfl ?_
      refine j_iconst C ic_1 dX9_remove_41 ?_
      refine j_iadd C dX9_remove_42 ?_
      replace hf := ld_s hf
      obtain ⟨v9, h10, e_v9, hf⟩ := hf
      refine aLM_1 C h10 e_v9 dX9_remove_43 ?_
      refine j_istore_n C (xs' := [some (.ref (b 0)), some (.int x1), some (.int v4), some (.int v9), none]) dX9_remove_44 rfl rfl ?_
      refine j_iload_n C dX9_remove_45 rfl ?_
      refine j_istore C (xs' := [some (.ref (b 0)), some (.int x1), some (.int v4), some (.int v9), some (.int v4)]) dX9_remove_46 rfl rfl ?_
      refine j_weak [true, false, false, true, true] rfl ?_
      exact w_X9_remove_48 C  _ _ _ _ _ _ _ _ hf
    · replace hf := it_t h6 hf
      refine j_aload_n C dX9_remove_25 rfl ?_
      refine j_bipush C bp_m3 dX9_remove_26 ?_
      replace hf := bd hf
      obtain ⟨v18, h19, hf⟩ := hf
      refine j_callV C cl_X9_27 (c_X9_fail h19) ⟨Nat.le_of_ble_eq_true rfl, Nat.le_of_ble_eq_true rfl⟩ ⟨Nat.zero_le _, Nat.zero_le _⟩ (q0 := 0) rfl rfl rfl rfl (Nat.le_of_ble_eq_true rfl) rfl rfl wM_fst dX9_remove_28 ?_
      cases hf
      exact j_iret C dX9_remove_31
  · replace hf := it_t h3 hf
    refine j_aload_n C dX9_remove_7 rfl ?_
    refine j_bipush C bp_m2 dX9_remove_8 ?_
    replace hf := bd hf
    obtain ⟨v20, h21, hf⟩ := hf
    refine j_callV C cl_X9_27 (c_X9_fail h21) ⟨Nat.le_of_ble_eq_true rfl, Nat.le_of_ble_eq_true rfl⟩ ⟨Nat.zero_le _, Nat.zero_le _⟩ (q0 := 0) rfl rfl rfl rfl (Nat.le_of_ble_eq_true rfl) rfl rfl wM_fst dX9_remove_10 ?_
    cases hf
    exact j_iret C dX9_remove_13
set_option maxRecDepth 100000 in
set_option maxHeartbeats 4000000 in
theorem w_X9_access_74 {p : Program} {l : Launch} {e : Env} {s_ : State} {m : MethodId} {args : Array Value} {below : List Frame} {meth : Method} {c : Code} {D : va_G} {cI cS : ClassId} {A : Nat → Prop} {b : Nat → Nat} {rest : va_W} {hs : Int64} (C : cx p s_ m args meth c cX9_access 3 RX9 (some .int) D cI cS)  : ∀ (s : Nat → Int32) (P : Nat → Int32) (E : Nat → Int32) (n : Int32) (x1 : Int32) (r : Int32 × (Nat → Int32) × (Nat → Int32) × (Nat → Int32) × (Int32)), f_X9_access_74  s P E n x1 = some r → jG p l e (rmF 4 87) s_ m args below meth c 3 D A (MQ below (QW D A (wM b cI r.2.1 r.2.2.1 r.2.2.2.1 r.2.2.2.2 hs rest) (some (.int r.1))) args s_ 0 0 A) (wM b cI s P E n hs rest) [some (.ref (b 0)), some (.int x1), none] 74 [] := by
  intro s P E n x1 r hf
  unfold f_X9_access_74 at hf
  refine j_aload_n C dX9_access_74 rfl ?_
  refine gf_X9_7 C dX9_access_75 ?_
  refine j_sipush C sp_267 dX9_access_78 ?_
  refine j_aload_n C dX9_access_81 rfl ?_
  refine gf_X9_7 C dX9_access_82 ?_
  refine j_bipush C bp_18 dX9_access_85 ?_
  replace hf := ld_s hf
  obtain ⟨v9, h10, e_v9, hf⟩ := hf
  refine aLM_1 C h10 e_v9 dX9_access_87 ?_
  refine j_iadd C dX9_access_88 ?_
  refine j_iload_n C dX9_access_89 rfl ?_
  replace hf := sd_s hf
  obtain ⟨h11, hf⟩ := hf
  refine aSM_1 C h11 dX9_access_90 ?_
  refine j_aload_n C dX9_access_91 rfl ?_
  refine gf_X9_7 C dX9_access_92 ?_
  refine j_bipush C bp_18 dX9_access_95 ?_
  refine j_dup2 C dX9_access_97 rfl rfl ?_
  replace hf := ld_s hf
  obtain ⟨v12, h13, e_v12, hf⟩ := hf
  refine aLM_1 C h13 e_v12 dX9_access_98 ?_
  refine j_iconst C ic_1 dX9_access_99 ?_
  refine j_iadd C dX9_access_100 ?_
  replace hf := sd_s hf
  obtain ⟨h14, hf⟩ := hf
  refine aSM_1 C h14 dX9_access_101 ?_
  refine j_aload_n C dX9_access_102 rfl ?_
  refine j_aload_n C dX9_access_103 rfl ?_
  refine j_iload_n C dX9_access_104 rfl ?_
  replace hf := bd hf
  obtain ⟨v15, h16, hf⟩ := hf
  refine j_callV C cl_X9_166 (c_X9_rangeAt h16) ⟨Nat.le_of_ble_eq_true rfl, Nat.le_of_ble_eq_true rfl⟩ ⟨Nat.zero_le _, Nat.zero_le _⟩ (q0 := 0) rfl rfl rfl rfl (Nat.le_of_ble_eq_true rfl) rfl rfl rfl dX9_access_105 ?_
  refine j_iconst C ic_2 dX9_access_108 ?_
  replace hf := bd hf
  obtain ⟨v17, h18, hf⟩ := hf
  refine j_callV C cl_X9_39 (c_X9_of h18) ⟨Nat.le_of_ble_eq_true rfl, Nat.le_of_ble_eq_true rfl⟩ ⟨Nat.zero_le _, Nat.zero_le _⟩ (q0 := 0) rfl rfl rfl rfl (Nat.le_of_ble_eq_true rfl) rfl rfl rfl dX9_access_109 ?_
  cases hf
  exact j_iret C dX9_access_112
set_option maxRecDepth 100000 in
set_option maxHeartbeats 4000000 in
theorem w_X9_access_34 {p : Program} {l : Launch} {e : Env} {s_ : State} {m : MethodId} {args : Array Value} {below : List Frame} {meth : Method} {c : Code} {D : va_G} {cI cS : ClassId} {A : Nat → Prop} {b : Nat → Nat} {rest : va_W} {hs : Int64} (C : cx p s_ m args meth c cX9_access 3 RX9 (some .int) D cI cS)  : ∀ (n_ : Nat) (s : Nat → Int32) (P : Nat → Int32) (E : Nat → Int32) (n : Int32) (x1 : Int32) (x2 : Int32) (r : Int32 × (Nat → Int32) × (Nat → Int32) × (Nat → Int32) × (Int32)), f_X9_access_34  n_ s P E n x1 x2 = some r → jG p l e (rmF 4 87) s_ m args below meth c 3 D A (MQ below (QW D A (wM b cI r.2.1 r.2.2.1 r.2.2.2.1 r.2.2.2.2 hs rest) (some (.int r.1))) args s_ 0 0 A) (wM b cI s P E n hs rest) [some (.ref (b 0)), some (.int x1), some (.int x2)] 34 [] := by
  intro n_
  induction n_ with
  | zero =>
    intro s P E n x1 x2 r hf
    rw [f_X9_access_34] at hf
    cases hf
  | succ n_ hk34 =>
    intro s P E n x1 x2 r hf
    rw [f_X9_access_34] at hf
    refine j_iload_n C dX9_access_34 rfl ?_
    refine j_iconst C ic_1 dX9_access_35 ?_
    refine j_iadd C dX9_access_36 ?_
    refine j_sipush C sp_299 dX9_access_37 ?_
    refine j_icmp_ge C (tgt := 63) (by decide) dX9_access_40 (fun h19 => ?_) (fun h19 => ?_)
    · replace hf := it_t h19 hf
      refine j_aload_n C dX9_access_63 rfl ?_
      refine gf_X9_7 C dX9_access_64 ?_
      refine j_bipush C bp_18 dX9_access_67 ?_
      refine j_dup2 C dX9_access_69 rfl rfl ?_
      replace hf := ld_s hf
      obtain ⟨v20, h21, e_v20, hf⟩ := hf
      refine aLM_1 C h21 e_v20 dX9_access_70 ?_
      refine j_iconst C ic_1 dX9_access_71 ?_
      refine j_isub C dX9_access_72 ?_
      replace hf := sd_s hf
      obtain ⟨h22, hf⟩ := hf
      refine aSM_1 C h22 dX9_access_73 ?_
      refine j_weak [true, true, false] rfl ?_
      exact w_X9_access_74 C  _ _ _ _ _ _ hf
    · replace hf := it_f h19 hf
      refine j_aload_n C dX9_access_43 rfl ?_
      refine gf_X9_7 C dX9_access_44 ?_
      refine j_iload_n C dX9_access_47 rfl ?_
      refine j_aload_n C dX9_access_48 rfl ?_
      refine gf_X9_7 C dX9_access_49 ?_
      refine j_iload_n C dX9_access_52 rfl ?_
      refine j_iconst C ic_1 dX9_access_53 ?_
      refine j_iadd C dX9_access_54 ?_
      replace hf := ld_s hf
      obtain ⟨v23, h24, e_v23, hf⟩ := hf
      refine aLM_1 C h24 e_v23 dX9_access_55 ?_
      replace hf := sd_s hf
      obtain ⟨h25, hf⟩ := hf
      refine aSM_1 C h25 dX9_access_56 ?_
      refine j_iinc C (xs' := [some (.ref (b 0)), some (.int x1), some (.int (x2 + (1 : Int32)))]) dX9_access_57 rfl (ii_1 _) rfl rfl ?_
      refine j_goto C (tgt := 34) (by decide) dX9_access_60 ?_
      exact hk34 _ _ _ _ _ _ _ hf
set_option maxRecDepth 100000 in
set_option maxHeartbeats 4000000 in
theorem c_X9_access {l : Launch} {D : va_G} {cI cS : ClassId} {A : Nat → Prop} {b : Nat → Nat} {rest : va_W} {hs : Int64} {s : Nat → Int32} {P : Nat → Int32} {E : Nat → Int32} {n : Int32} {x1 : Int32} {r : Int32 × (Nat → Int32) × (Nat → Int32) × (Nat → Int32) × (Int32)} (hf : f_X9_access s P E n x1 = some r) : CT l yX9_access cX9_access 3 (some .int) (rmF 4 87) D cI cS A [.ref (b 0), .int x1] (wM b cI s P E n hs rest) (wM b cI r.2.1 r.2.2.1 r.2.2.2.1 r.2.2.2.2 hs rest) (some (.int r.1)) := by
  refine CT_of (own := RX9) (xs := [some (.ref (b 0)), some (.int x1), none]) (by decide) rfl (Nat.le_of_ble_eq_true rfl) rfl ?_
  intro p e s_ m below meth c C
  unfold f_X9_access at hf
  refine j_iload_n C dX9_access_0 rfl ?_
  replace hf := bd hf
  obtain ⟨v1, h2, hf⟩ := hf
  refine j_callS C cl_X9_160 (c_X9_isKey h2) ⟨Nat.le_of_ble_eq_true rfl, Nat.le_of_ble_eq_true rfl⟩ ⟨Nat.zero_le _, Nat.zero_le _⟩ rfl (Nat.le_of_ble_eq_true rfl) rfl rfl rfl dX9_access_1 ?_
  refine j_if_ne C (tgt := 14) (by decide) dX9_access_4 (fun h3 => ?_) (fun h3 => ?_)
  · replace hf := it_f h3 hf
    refine j_aload_n C dX9_access_14 rfl ?_
    replace hf := bd hf
    obtain ⟨v4, h5, hf⟩ := hf
    refine j_callV C cl_X9_138 (c_X9_note h5) ⟨Nat.le_of_ble_eq_true rfl, Nat.le_of_ble_eq_true rfl⟩ ⟨Nat.zero_le _, Nat.zero_le _⟩ (q0 := 0) rfl rfl rfl rfl (Nat.le_of_ble_eq_true rfl) rfl rfl wM_fst dX9_access_15 ?_
    refine j_aload_n C dX9_access_18 rfl ?_
    refine gf_X9_7 C dX9_access_19 ?_
    refine j_bipush C bp_18 dX9_access_22 ?_
    replace hf := ld_s hf
    obtain ⟨v6, h7, e_v6, hf⟩ := hf
    refine aLM_1 C h7 e_v6 dX9_access_24 ?_
    refine j_bipush C bp_32 dX9_access_25 ?_
    refine j_icmp_ne C (tgt := 74) (by decide) dX9_access_27 (fun h8 => ?_) (fun h8 => ?_)
    · replace hf := it_f h8 hf
      exact w_X9_access_74 C  _ _ _ _ _ _ hf
    · replace hf := it_t h8 hf
      refine j_sipush C sp_267 dX9_access_30 ?_
      refine j_istore_n C (xs' := [some (.ref (b 0)), some (.int x1), some (.int (267 : Int32))]) dX9_access_33 rfl rfl ?_
      exact w_X9_access_34 C  _ _ _ _ _ _ _ _ hf
  · replace hf := it_t h3 hf
    refine j_aload_n C dX9_access_7 rfl ?_
    refine j_bipush C bp_m2 dX9_access_8 ?_
    replace hf := bd hf
    obtain ⟨v26, h27, hf⟩ := hf
    refine j_callV C cl_X9_27 (c_X9_fail h27) ⟨Nat.le_of_ble_eq_true rfl, Nat.le_of_ble_eq_true rfl⟩ ⟨Nat.zero_le _, Nat.zero_le _⟩ (q0 := 0) rfl rfl rfl rfl (Nat.le_of_ble_eq_true rfl) rfl rfl wM_fst dX9_access_10 ?_
    cases hf
    exact j_iret C dX9_access_13
set_option maxRecDepth 100000 in
set_option maxHeartbeats 4000000 in
theorem w_X9_splitAt_40 {p : Program} {l : Launch} {e : Env} {s_ : State} {m : MethodId} {args : Array Value} {below : List Frame} {meth : Method} {c : Code} {D : va_G} {cI cS : ClassId} {A : Nat → Prop} {b : Nat → Nat} {rest : va_W} {hs : Int64} (C : cx p s_ m args meth c cX9_splitAt 3 RX9 (some .int) D cI cS)  : ∀ (s : Nat → Int32) (P : Nat → Int32) (E : Nat → Int32) (n : Int32)  (r : Int32 × (Nat → Int32) × (Nat → Int32) × (Nat → Int32) × (Int32)), f_X9_splitAt_40  s P E n = some r → jG p l e (rmF 4 87) s_ m args below meth c 3 D A (MQ below (QW D A (wM b cI r.2.1 r.2.2.1 r.2.2.2.1 r.2.2.2.2 hs rest) (some (.int r.1))) args s_ 0 0 A) (wM b cI s P E n hs rest) [some (.ref (b 0)), none, none] 40 [] := by
  intro s P E n r hf
  unfold f_X9_splitAt_40 at hf
  refine j_aload_n C dX9_splitAt_40 rfl ?_
  refine j_bipush C bp_m3 dX9_splitAt_41 ?_
  replace hf := bd hf
  obtain ⟨v9, h10, hf⟩ := hf
  refine j_callV C cl_X9_27 (c_X9_fail h10) ⟨Nat.le_of_ble_eq_true rfl, Nat.le_of_ble_eq_true rfl⟩ ⟨Nat.zero_le _, Nat.zero_le _⟩ (q0 := 0) rfl rfl rfl rfl (Nat.le_of_ble_eq_true rfl) rfl rfl wM_fst dX9_splitAt_43 ?_
  cases hf
  exact j_iret C dX9_splitAt_46
set_option maxRecDepth 100000 in
set_option maxHeartbeats 4000000 in
theorem c_X9_splitAt {l : Launch} {D : va_G} {cI cS : ClassId} {A : Nat → Prop} {b : Nat → Nat} {rest : va_W} {hs : Int64} {s : Nat → Int32} {P : Nat → Int32} {E : Nat → Int32} {n : Int32} {x1 : Int32} {r : Int32 × (Nat → Int32) × (Nat → Int32) × (Nat → Int32) × (Int32)} (hf : f_X9_splitAt s P E n x1 = some r) : CT l yX9_splitAt cX9_splitAt 3 (some .int) (rmF 4 87) D cI cS A [.ref (b 0), .int x1] (wM b cI s P E n hs rest) (wM b cI r.2.1 r.2.2.1 r.2.2.2.1 r.2.2.2.2 hs rest) (some (.int r.1)) := by
  refine CT_of (own := RX9) (xs := [some (.ref (b 0)), some (.int x1), none]) (by decide) rfl (Nat.le_of_ble_eq_true rfl) rfl ?_
  intro p e s_ m below meth c C
  unfold f_X9_splitAt at hf
  refine j_iload_n C dX9_splitAt_0 rfl ?_
  replace hf := bd hf
  obtain ⟨v1, h2, hf⟩ := hf
  refine j_callS C cl_X9_160 (c_X9_isKey h2) ⟨Nat.le_of_ble_eq_true rfl, Nat.le_of_ble_eq_true rfl⟩ ⟨Nat.zero_le _, Nat.zero_le _⟩ rfl (Nat.le_of_ble_eq_true rfl) rfl rfl rfl dX9_splitAt_1 ?_
  refine j_if_ne C (tgt := 14) (by decide) dX9_splitAt_4 (fun h3 => ?_) (fun h3 => ?_)
  · replace hf := it_f h3 hf
    refine j_aload_n C dX9_splitAt_14 rfl ?_
    refine j_iload_n C dX9_splitAt_15 rfl ?_
    replace hf := bd hf
    obtain ⟨v4, h5, hf⟩ := hf
    refine j_callV C cl_X9_166 (c_X9_rangeAt h5) ⟨Nat.le_of_ble_eq_true rfl, Nat.le_of_ble_eq_true rfl⟩ ⟨Nat.zero_le _, Nat.zero_le _⟩ (q0 := 0) rfl rfl rfl rfl (Nat.le_of_ble_eq_true rfl) rfl rfl rfl dX9_splitAt_16 ?_
    refine j_istore_n C (xs' := [some (.ref (b 0)), some (.int x1), some (.int v4)]) dX9_splitAt_19 rfl rfl ?_
    refine j_aload_n C dX9_splitAt_20 rfl ?_
    refine j_iload_n C dX9_splitAt_21 rfl ?_
    refine j_iconst C ic_0 dX9_splitAt_22 ?_
    replace hf := bd hf
    obtain ⟨v6, h7, hf⟩ := hf
    refine j_callV C cl_X9_39 (c_X9_of h7) ⟨Nat.le_of_ble_eq_true rfl, Nat.le_of_ble_eq_true rfl⟩ ⟨Nat.zero_le _, Nat.zero_le _⟩ (q0 := 0) rfl rfl rfl rfl (Nat.le_of_ble_eq_true rfl) rfl rfl rfl dX9_splitAt_23 ?_
    refine j_iload_n C dX9_splitAt_26 rfl ?_
    refine j_icmp_eq C (tgt := 40) (by decide) dX9_splitAt_27 (fun h8 => ?_) (fun h8 => ?_)
    · replace hf := it_t h8 hf
      refine j_weak [true, false, false] rfl ?_
      exact w_X9_splitAt_40 C  _ _ _ _ _ hf
    · replace hf := it_f h8 hf
      refine j_aload_n C dX9_splitAt_30 rfl ?_
      refine j_iload_n C dX9_splitAt_31 rfl ?_
      refine j_iconst C ic_3 dX9_splitAt_32 ?_
      replace hf := bd hf
      obtain ⟨v11, h12, hf⟩ := hf
      refine j_callV C cl_X9_39 (c_X9_of h12) ⟨Nat.le_of_ble_eq_true rfl, Nat.le_of_ble_eq_true rfl⟩ ⟨Nat.zero_le _, Nat.zero_le _⟩ (q0 := 0) rfl rfl rfl rfl (Nat.le_of_ble_eq_true rfl) rfl rfl rfl dX9_splitAt_33 ?_
      refine j_iconst C ic_m1 dX9_splitAt_36 ?_
      refine j_icmp_eq C (tgt := 47) (by decide) dX9_splitAt_37 (fun h13 => ?_) (fun h13 => ?_)
      · replace hf := it_t h13 hf
        refine j_aload_n C dX9_splitAt_47 rfl ?_
        refine gf_X9_7 C dX9_splitAt_48 ?_
        refine j_bipush C bp_17 dX9_splitAt_51 ?_
        replace hf := ld_s hf
        obtain ⟨v14, h15, e_v14, hf⟩ := hf
        refine aLM_1 C h15 e_v14 dX9_splitAt_53 ?_
        refine j_bipush C bp_16 dX9_splitAt_54 ?_
        refine j_icmp_ne C (tgt := 66) (by decide) dX9_splitAt_56 (fun h16 => ?_) (fun h16 => ?_)
        · replace hf := it_f h16 hf
          refine j_aload_n C dX9_splitAt_66 rfl ?_
          replace hf := bd hf
          obtain ⟨v17, h18, hf⟩ := hf
          refine j_callV C cl_X9_138 (c_X9_note h18) ⟨Nat.le_of_ble_eq_true rfl, Nat.le_of_ble_eq_true rfl⟩ ⟨Nat.zero_le _, Nat.zero_le _⟩ (q0 := 0) rfl rfl rfl rfl (Nat.le_of_ble_eq_true rfl) rfl rfl wM_fst dX9_splitAt_67 ?_
          refine j_aload_n C dX9_splitAt_70 rfl ?_
          refine j_iload_n C dX9_splitAt_71 rfl ?_
          refine j_iload_n C dX9_splitAt_72 rfl ?_
          replace hf := bd hf
          obtain ⟨v19, h20, hf⟩ := hf
          refine j_callV C cl_X9_101 (c_X9_split h20) ⟨Nat.le_of_ble_eq_true rfl, Nat.le_of_ble_eq_true rfl⟩ ⟨Nat.zero_le _, Nat.zero_le _⟩ (q0 := 0) rfl rfl rfl rfl (Nat.le_of_ble_eq_true rfl) rfl rfl wM_fst dX9_splitAt_73 ?_
          refine j_iload_n C dX9_splitAt_76 rfl ?_
          refine j_iconst C ic_1 dX9_splitAt_77 ?_
          refine j_iadd C dX9_splitAt_78 ?_
          cases hf
          exact j_iret C dX9_splitAt_79
        · replace hf := it_t h16 hf
          refine j_aload_n C dX9_splitAt_59 rfl ?_
          refine j_bipush C bp_m4 dX9_splitAt_60 ?_
          replace hf := bd hf
          obtain ⟨v21, h22, hf⟩ := hf
          refine j_callV C cl_X9_27 (c_X9_fail h22) ⟨Nat.le_of_ble_eq_true rfl, Nat.le_of_ble_eq_true rfl⟩ ⟨Nat.zero_le _, Nat.zero_le _⟩ (q0 := 0) rfl rfl rfl rfl (Nat.le_of_ble_eq_true rfl) rfl rfl wM_fst dX9_splitAt_62 ?_
          cases hf
          exact j_iret C dX9_splitAt_65
      · replace hf := it_f h13 hf
        refine j_weak [true, false, false] rfl ?_
        exact w_X9_splitAt_40 C  _ _ _ _ _ hf
  · replace hf := it_t h3 hf
    refine j_aload_n C dX9_splitAt_7 rfl ?_
    refine j_bipush C bp_m2 dX9_splitAt_8 ?_
    replace hf := bd hf
    obtain ⟨v23, h24, hf⟩ := hf
    refine j_callV C cl_X9_27 (c_X9_fail h24) ⟨Nat.le_of_ble_eq_true rfl, Nat.le_of_ble_eq_true rfl⟩ ⟨Nat.zero_le _, Nat.zero_le _⟩ (q0 := 0) rfl rfl rfl rfl (Nat.le_of_ble_eq_true rfl) rfl rfl wM_fst dX9_splitAt_10 ?_
    cases hf
    exact j_iret C dX9_splitAt_13
set_option maxRecDepth 100000 in
set_option maxHeartbeats 4000000 in
theorem c_X9_sizeOf {l : Launch} {D : va_G} {cI cS : ClassId} {A : Nat → Prop} {b : Nat → Nat} {rest : va_W} {P : Nat → Int32} {n : Int32} {hs : Int64} {s : Nat → Int32} {E : Nat → Int32} {x1 : Int32} {r : Int32 × (Nat → Int32)} (hf : f_X9_sizeOf s E x1 = some r) : CT l yX9_sizeOf cX9_sizeOf 3 (some .int) (rmF 2 42) D cI cS A [.ref (b 0), .int x1] (wM b cI s P E n hs rest) (wM b cI s P r.2 n hs rest) (some (.int r.1)) := by
  refine CT_of (own := RX9) (xs := [some (.ref (b 0)), some (.int x1), none]) (by decide) rfl (Nat.le_of_ble_eq_true rfl) rfl ?_
  intro p e s_ m below meth c C
  unfold f_X9_sizeOf at hf
  refine j_iload_n C dX9_sizeOf_0 rfl ?_
  replace hf := bd hf
  obtain ⟨v1, h2, hf⟩ := hf
  refine j_callS C cl_X9_160 (c_X9_isKey h2) ⟨Nat.le_of_ble_eq_true rfl, Nat.le_of_ble_eq_true rfl⟩ ⟨Nat.zero_le _, Nat.zero_le _⟩ rfl (Nat.le_of_ble_eq_true rfl) rfl rfl rfl dX9_sizeOf_1 ?_
  refine j_if_ne C (tgt := 14) (by decide) dX9_sizeOf_4 (fun h3 => ?_) (fun h3 => ?_)
  · replace hf := it_f h3 hf
    refine j_aload_n C dX9_sizeOf_14 rfl ?_
    refine j_iload_n C dX9_sizeOf_15 rfl ?_
    replace hf := bd hf
    obtain ⟨v4, h5, hf⟩ := hf
    refine j_callV C cl_X9_163 (c_X9_placeOf h5) ⟨Nat.le_of_ble_eq_true rfl, Nat.le_of_ble_eq_true rfl⟩ ⟨Nat.zero_le _, Nat.zero_le _⟩ (q0 := 0) rfl rfl rfl rfl (Nat.le_of_ble_eq_true rfl) rfl rfl rfl dX9_sizeOf_16 ?_
    refine j_istore_n C (xs' := [some (.ref (b 0)), some (.int x1), some (.int v4)]) dX9_sizeOf_19 rfl rfl ?_
    refine j_iload_n C dX9_sizeOf_20 rfl ?_
    refine j_iconst C ic_m1 dX9_sizeOf_21 ?_
    refine j_icmp_ne C (tgt := 29) (by decide) dX9_sizeOf_22 (fun h6 => ?_) (fun h6 => ?_)
    · replace hf := it_f h6 hf
      refine j_aload_n C dX9_sizeOf_29 rfl ?_
      refine gf_X9_7 C dX9_sizeOf_30 ?_
      refine j_iload_n C dX9_sizeOf_33 rfl ?_
      refine j_iconst C ic_1 dX9_sizeOf_34 ?_
      refine j_iadd C dX9_sizeOf_35 ?_
      replace hf := ld_s hf
      obtain ⟨v7, h8, e_v7, hf⟩ := hf
      refine aLM_1 C h8 e_v7 dX9_sizeOf_36 ?_
      cases hf
      exact j_iret C dX9_sizeOf_37
    · replace hf := it_t h6 hf
      refine j_iconst C ic_0 dX9_sizeOf_25 ?_
      refine j_goto C (tgt := 37) (by decide) dX9_sizeOf_26 ?_
      cases hf
      exact j_iret C dX9_sizeOf_37
  · replace hf := it_t h3 hf
    refine j_aload_n C dX9_sizeOf_7 rfl ?_
    refine j_bipush C bp_m2 dX9_sizeOf_8 ?_
    replace hf := bd hf
    obtain ⟨v9, h10, hf⟩ := hf
    refine j_callV C cl_X9_27 (c_X9_fail h10) ⟨Nat.le_of_ble_eq_true rfl, Nat.le_of_ble_eq_true rfl⟩ ⟨Nat.zero_le _, Nat.zero_le _⟩ (q0 := 0) rfl rfl rfl rfl (Nat.le_of_ble_eq_true rfl) rfl rfl wM_fst dX9_sizeOf_10 ?_
    cases hf
    exact j_iret C dX9_sizeOf_13
set_option maxRecDepth 100000 in
set_option maxHeartbeats 4000000 in
theorem c_X9_rangeCount {l : Launch} {D : va_G} {cI cS : ClassId} {A : Nat → Prop} {b : Nat → Nat} {rest : va_W} {P : Nat → Int32} {E : Nat → Int32} {n : Int32} {hs : Int64} {s : Nat → Int32}  {r : Int32} (hf : f_X9_rangeCount s = some r) : CT l yX9_rangeCount cX9_rangeCount 1 (some .int) (rmF 0 0) D cI cS A [.ref (b 0)] (wM b cI s P E n hs rest) (wM b cI s P E n hs rest) (some (.int r)) := by
  refine CT_of (own := RX9) (xs := [some (.ref (b 0))]) (by decide) rfl (Nat.le_of_ble_eq_true rfl) rfl ?_
  intro p e s_ m below meth c C
  unfold f_X9_rangeCount at hf
  refine j_aload_n C dX9_rangeCount_0 rfl ?_
  refine gf_X9_7 C dX9_rangeCount_1 ?_
  refine j_bipush C bp_17 dX9_rangeCount_4 ?_
  replace hf := ld_s hf
  obtain ⟨v1, h2, e_v1, hf⟩ := hf
  refine aLM_1 C h2 e_v1 dX9_rangeCount_6 ?_
  cases hf
  exact j_iret C dX9_rangeCount_7
set_option maxRecDepth 100000 in
set_option maxHeartbeats 4000000 in
theorem c_X9_start {l : Launch} {D : va_G} {cI cS : ClassId} {A : Nat → Prop} {b : Nat → Nat} {rest : va_W} {P : Nat → Int32} {n : Int32} {hs : Int64} {s : Nat → Int32} {E : Nat → Int32} {x1 : Int32} {r : Int32 × (Nat → Int32)} (hf : f_X9_start s E x1 = some r) : CT l yX9_start cX9_start 2 (some .int) (rmF 2 43) D cI cS A [.ref (b 0), .int x1] (wM b cI s P E n hs rest) (wM b cI s P r.2 n hs rest) (some (.int r.1)) := by
  refine CT_of (own := RX9) (xs := [some (.ref (b 0)), some (.int x1)]) (by decide) rfl (Nat.le_of_ble_eq_true rfl) rfl ?_
  intro p e s_ m below meth c C
  unfold f_X9_start at hf
  refine j_aload_n C dX9_start_0 rfl ?_
  refine j_iload_n C dX9_start_1 rfl ?_
  replace hf := bd hf
  obtain ⟨v1, h2, hf⟩ := hf
  refine j_callV C cl_X9_169 (c_X9_isRange h2) ⟨Nat.le_of_ble_eq_true rfl, Nat.le_of_ble_eq_true rfl⟩ ⟨Nat.zero_le _, Nat.zero_le _⟩ (q0 := 0) rfl rfl rfl rfl (Nat.le_of_ble_eq_true rfl) rfl rfl rfl dX9_start_2 ?_
  refine j_if_eq C (tgt := 17) (by decide) dX9_start_5 (fun h3 => ?_) (fun h3 => ?_)
  · replace hf := it_t h3 hf
    refine j_aload_n C dX9_start_17 rfl ?_
    refine j_bipush C bp_m2 dX9_start_18 ?_
    replace hf := bd hf
    obtain ⟨v4, h5, hf⟩ := hf
    refine j_callV C cl_X9_27 (c_X9_fail h5) ⟨Nat.le_of_ble_eq_true rfl, Nat.le_of_ble_eq_true rfl⟩ ⟨Nat.zero_le _, Nat.zero_le _⟩ (q0 := 0) rfl rfl rfl rfl (Nat.le_of_ble_eq_true rfl) rfl rfl wM_fst dX9_start_20 ?_
    cases hf
    exact j_iret C dX9_start_23
  · replace hf := it_f h3 hf
    refine j_aload_n C dX9_start_8 rfl ?_
    refine j_iload_n C dX9_start_9 rfl ?_
    refine j_iconst C ic_0 dX9_start_10 ?_
    replace hf := bd hf
    obtain ⟨v6, h7, hf⟩ := hf
    refine j_callV C cl_X9_39 (c_X9_of h7) ⟨Nat.le_of_ble_eq_true rfl, Nat.le_of_ble_eq_true rfl⟩ ⟨Nat.zero_le _, Nat.zero_le _⟩ (q0 := 0) rfl rfl rfl rfl (Nat.le_of_ble_eq_true rfl) rfl rfl rfl dX9_start_11 ?_
    refine j_goto C (tgt := 23) (by decide) dX9_start_14 ?_
    cases hf
    exact j_iret C dX9_start_23
set_option maxRecDepth 100000 in
set_option maxHeartbeats 4000000 in
theorem c_X9_size {l : Launch} {D : va_G} {cI cS : ClassId} {A : Nat → Prop} {b : Nat → Nat} {rest : va_W} {P : Nat → Int32} {n : Int32} {hs : Int64} {s : Nat → Int32} {E : Nat → Int32} {x1 : Int32} {r : Int32 × (Nat → Int32)} (hf : f_X9_size s E x1 = some r) : CT l yX9_size cX9_size 2 (some .int) (rmF 5 114) D cI cS A [.ref (b 0), .int x1] (wM b cI s P E n hs rest) (wM b cI s P r.2 n hs rest) (some (.int r.1)) := by
  refine CT_of (own := RX9) (xs := [some (.ref (b 0)), some (.int x1)]) (by decide) rfl (Nat.le_of_ble_eq_true rfl) rfl ?_
  intro p e s_ m below meth c C
  unfold f_X9_size at hf
  refine j_aload_n C dX9_size_0 rfl ?_
  refine j_iload_n C dX9_size_1 rfl ?_
  replace hf := bd hf
  obtain ⟨v1, h2, hf⟩ := hf
  refine j_callV C cl_X9_169 (c_X9_isRange h2) ⟨Nat.le_of_ble_eq_true rfl, Nat.le_of_ble_eq_true rfl⟩ ⟨Nat.zero_le _, Nat.zero_le _⟩ (q0 := 0) rfl rfl rfl rfl (Nat.le_of_ble_eq_true rfl) rfl rfl rfl dX9_size_2 ?_
  refine j_if_eq C (tgt := 17) (by decide) dX9_size_5 (fun h3 => ?_) (fun h3 => ?_)
  · replace hf := it_t h3 hf
    refine j_aload_n C dX9_size_17 rfl ?_
    refine j_bipush C bp_m2 dX9_size_18 ?_
    replace hf := bd hf
    obtain ⟨v4, h5, hf⟩ := hf
    refine j_callV C cl_X9_27 (c_X9_fail h5) ⟨Nat.le_of_ble_eq_true rfl, Nat.le_of_ble_eq_true rfl⟩ ⟨Nat.zero_le _, Nat.zero_le _⟩ (q0 := 0) rfl rfl rfl rfl (Nat.le_of_ble_eq_true rfl) rfl rfl wM_fst dX9_size_20 ?_
    cases hf
    exact j_iret C dX9_size_23
  · replace hf := it_f h3 hf
    refine j_aload_n C dX9_size_8 rfl ?_
    refine j_iload_n C dX9_size_9 rfl ?_
    refine j_iconst C ic_0 dX9_size_10 ?_
    replace hf := bd hf
    obtain ⟨v6, h7, hf⟩ := hf
    refine j_callV C cl_X9_79 (c_X9_all h7) ⟨Nat.le_of_ble_eq_true rfl, Nat.le_of_ble_eq_true rfl⟩ ⟨Nat.zero_le _, Nat.zero_le _⟩ (q0 := 0) rfl rfl rfl rfl (Nat.le_of_ble_eq_true rfl) rfl rfl rfl dX9_size_11 ?_
    refine j_goto C (tgt := 23) (by decide) dX9_size_14 ?_
    cases hf
    exact j_iret C dX9_size_23
set_option maxRecDepth 100000 in
set_option maxHeartbeats 4000000 in
theorem c_X9_load {l : Launch} {D : va_G} {cI cS : ClassId} {A : Nat → Prop} {b : Nat → Nat} {rest : va_W} {P : Nat → Int32} {n : Int32} {hs : Int64} {s : Nat → Int32} {E : Nat → Int32} {x1 : Int32} {r : Int32 × (Nat → Int32)} (hf : f_X9_load s E x1 = some r) : CT l yX9_load cX9_load 2 (some .int) (rmF 5 114) D cI cS A [.ref (b 0), .int x1] (wM b cI s P E n hs rest) (wM b cI s P r.2 n hs rest) (some (.int r.1)) := by
  refine CT_of (own := RX9) (xs := [some (.ref (b 0)), some (.int x1)]) (by decide) rfl (Nat.le_of_ble_eq_true rfl) rfl ?_
  intro p e s_ m below meth c C
  unfold f_X9_load at hf
  refine j_aload_n C dX9_load_0 rfl ?_
  refine j_iload_n C dX9_load_1 rfl ?_
  replace hf := bd hf
  obtain ⟨v1, h2, hf⟩ := hf
  refine j_callV C cl_X9_169 (c_X9_isRange h2) ⟨Nat.le_of_ble_eq_true rfl, Nat.le_of_ble_eq_true rfl⟩ ⟨Nat.zero_le _, Nat.zero_le _⟩ (q0 := 0) rfl rfl rfl rfl (Nat.le_of_ble_eq_true rfl) rfl rfl rfl dX9_load_2 ?_
  refine j_if_eq C (tgt := 17) (by decide) dX9_load_5 (fun h3 => ?_) (fun h3 => ?_)
  · replace hf := it_t h3 hf
    refine j_aload_n C dX9_load_17 rfl ?_
    refine j_bipush C bp_m2 dX9_load_18 ?_
    replace hf := bd hf
    obtain ⟨v4, h5, hf⟩ := hf
    refine j_callV C cl_X9_27 (c_X9_fail h5) ⟨Nat.le_of_ble_eq_true rfl, Nat.le_of_ble_eq_true rfl⟩ ⟨Nat.zero_le _, Nat.zero_le _⟩ (q0 := 0) rfl rfl rfl rfl (Nat.le_of_ble_eq_true rfl) rfl rfl wM_fst dX9_load_20 ?_
    cases hf
    exact j_iret C dX9_load_23
  · replace hf := it_f h3 hf
    refine j_aload_n C dX9_load_8 rfl ?_
    refine j_iload_n C dX9_load_9 rfl ?_
    refine j_iconst C ic_1 dX9_load_10 ?_
    replace hf := bd hf
    obtain ⟨v6, h7, hf⟩ := hf
    refine j_callV C cl_X9_79 (c_X9_all h7) ⟨Nat.le_of_ble_eq_true rfl, Nat.le_of_ble_eq_true rfl⟩ ⟨Nat.zero_le _, Nat.zero_le _⟩ (q0 := 0) rfl rfl rfl rfl (Nat.le_of_ble_eq_true rfl) rfl rfl rfl dX9_load_11 ?_
    refine j_goto C (tgt := 23) (by decide) dX9_load_14 ?_
    cases hf
    exact j_iret C dX9_load_23
set_option maxRecDepth 100000 in
set_option maxHeartbeats 4000000 in
theorem c_X9_rangeOf {l : Launch} {D : va_G} {cI cS : ClassId} {A : Nat → Prop} {b : Nat → Nat} {rest : va_W} {P : Nat → Int32} {n : Int32} {hs : Int64} {s : Nat → Int32} {E : Nat → Int32} {x1 : Int32} {r : Int32 × (Nat → Int32)} (hf : f_X9_rangeOf s E x1 = some r) : CT l yX9_rangeOf cX9_rangeOf 2 (some .int) (rmF 4 87) D cI cS A [.ref (b 0), .int x1] (wM b cI s P E n hs rest) (wM b cI s P r.2 n hs rest) (some (.int r.1)) := by
  refine CT_of (own := RX9) (xs := [some (.ref (b 0)), some (.int x1)]) (by decide) rfl (Nat.le_of_ble_eq_true rfl) rfl ?_
  intro p e s_ m below meth c C
  unfold f_X9_rangeOf at hf
  refine j_iload_n C dX9_rangeOf_0 rfl ?_
  replace hf := bd hf
  obtain ⟨v1, h2, hf⟩ := hf
  refine j_callS C cl_X9_160 (c_X9_isKey h2) ⟨Nat.le_of_ble_eq_true rfl, Nat.le_of_ble_eq_true rfl⟩ ⟨Nat.zero_le _, Nat.zero_le _⟩ rfl (Nat.le_of_ble_eq_true rfl) rfl rfl rfl dX9_rangeOf_1 ?_
  refine j_if_eq C (tgt := 15) (by decide) dX9_rangeOf_4 (fun h3 => ?_) (fun h3 => ?_)
  · replace hf := it_t h3 hf
    refine j_aload_n C dX9_rangeOf_15 rfl ?_
    refine j_bipush C bp_m2 dX9_rangeOf_16 ?_
    replace hf := bd hf
    obtain ⟨v4, h5, hf⟩ := hf
    refine j_callV C cl_X9_27 (c_X9_fail h5) ⟨Nat.le_of_ble_eq_true rfl, Nat.le_of_ble_eq_true rfl⟩ ⟨Nat.zero_le _, Nat.zero_le _⟩ (q0 := 0) rfl rfl rfl rfl (Nat.le_of_ble_eq_true rfl) rfl rfl wM_fst dX9_rangeOf_18 ?_
    cases hf
    exact j_iret C dX9_rangeOf_21
  · replace hf := it_f h3 hf
    refine j_aload_n C dX9_rangeOf_7 rfl ?_
    refine j_iload_n C dX9_rangeOf_8 rfl ?_
    replace hf := bd hf
    obtain ⟨v6, h7, hf⟩ := hf
    refine j_callV C cl_X9_166 (c_X9_rangeAt h7) ⟨Nat.le_of_ble_eq_true rfl, Nat.le_of_ble_eq_true rfl⟩ ⟨Nat.zero_le _, Nat.zero_le _⟩ (q0 := 0) rfl rfl rfl rfl (Nat.le_of_ble_eq_true rfl) rfl rfl rfl dX9_rangeOf_9 ?_
    refine j_goto C (tgt := 21) (by decide) dX9_rangeOf_12 ?_
    cases hf
    exact j_iret C dX9_rangeOf_21
set_option maxRecDepth 100000 in
set_option maxHeartbeats 4000000 in
theorem c_X9_voters {l : Launch} {D : va_G} {cI cS : ClassId} {A : Nat → Prop} {b : Nat → Nat} {rest : va_W} {P : Nat → Int32} {n : Int32} {hs : Int64} {s : Nat → Int32} {E : Nat → Int32} {x1 : Int32} {r : Int32 × (Nat → Int32)} (hf : f_X9_voters s E x1 = some r) : CT l yX9_voters cX9_voters 2 (some .int) (rmF 2 43) D cI cS A [.ref (b 0), .int x1] (wM b cI s P E n hs rest) (wM b cI s P r.2 n hs rest) (some (.int r.1)) := by
  refine CT_of (own := RX9) (xs := [some (.ref (b 0)), some (.int x1)]) (by decide) rfl (Nat.le_of_ble_eq_true rfl) rfl ?_
  intro p e s_ m below meth c C
  unfold f_X9_voters at hf
  refine j_aload_n C dX9_voters_0 rfl ?_
  refine j_iload_n C dX9_voters_1 rfl ?_
  replace hf := bd hf
  obtain ⟨v1, h2, hf⟩ := hf
  refine j_callV C cl_X9_169 (c_X9_isRange h2) ⟨Nat.le_of_ble_eq_true rfl, Nat.le_of_ble_eq_true rfl⟩ ⟨Nat.zero_le _, Nat.zero_le _⟩ (q0 := 0) rfl rfl rfl rfl (Nat.le_of_ble_eq_true rfl) rfl rfl rfl dX9_voters_2 ?_
  refine j_if_eq C (tgt := 17) (by decide) dX9_voters_5 (fun h3 => ?_) (fun h3 => ?_)
  · replace hf := it_t h3 hf
    refine j_aload_n C dX9_voters_17 rfl ?_
    refine j_bipush C bp_m2 dX9_voters_18 ?_
    replace hf := bd hf
    obtain ⟨v4, h5, hf⟩ := hf
    refine j_callV C cl_X9_27 (c_X9_fail h5) ⟨Nat.le_of_ble_eq_true rfl, Nat.le_of_ble_eq_true rfl⟩ ⟨Nat.zero_le _, Nat.zero_le _⟩ (q0 := 0) rfl rfl rfl rfl (Nat.le_of_ble_eq_true rfl) rfl rfl wM_fst dX9_voters_20 ?_
    cases hf
    exact j_iret C dX9_voters_23
  · replace hf := it_f h3 hf
    refine j_aload_n C dX9_voters_8 rfl ?_
    refine j_iload_n C dX9_voters_9 rfl ?_
    refine j_iconst C ic_1 dX9_voters_10 ?_
    replace hf := bd hf
    obtain ⟨v6, h7, hf⟩ := hf
    refine j_callV C cl_X9_39 (c_X9_of h7) ⟨Nat.le_of_ble_eq_true rfl, Nat.le_of_ble_eq_true rfl⟩ ⟨Nat.zero_le _, Nat.zero_le _⟩ (q0 := 0) rfl rfl rfl rfl (Nat.le_of_ble_eq_true rfl) rfl rfl rfl dX9_voters_11 ?_
    refine j_goto C (tgt := 23) (by decide) dX9_voters_14 ?_
    cases hf
    exact j_iret C dX9_voters_23
set_option maxRecDepth 100000 in
set_option maxHeartbeats 4000000 in
theorem c_X9_leader {l : Launch} {D : va_G} {cI cS : ClassId} {A : Nat → Prop} {b : Nat → Nat} {rest : va_W} {P : Nat → Int32} {n : Int32} {hs : Int64} {s : Nat → Int32} {E : Nat → Int32} {x1 : Int32} {r : Int32 × (Nat → Int32)} (hf : f_X9_leader s E x1 = some r) : CT l yX9_leader cX9_leader 2 (some .int) (rmF 2 43) D cI cS A [.ref (b 0), .int x1] (wM b cI s P E n hs rest) (wM b cI s P r.2 n hs rest) (some (.int r.1)) := by
  refine CT_of (own := RX9) (xs := [some (.ref (b 0)), some (.int x1)]) (by decide) rfl (Nat.le_of_ble_eq_true rfl) rfl ?_
  intro p e s_ m below meth c C
  unfold f_X9_leader at hf
  refine j_aload_n C dX9_leader_0 rfl ?_
  refine j_iload_n C dX9_leader_1 rfl ?_
  replace hf := bd hf
  obtain ⟨v1, h2, hf⟩ := hf
  refine j_callV C cl_X9_169 (c_X9_isRange h2) ⟨Nat.le_of_ble_eq_true rfl, Nat.le_of_ble_eq_true rfl⟩ ⟨Nat.zero_le _, Nat.zero_le _⟩ (q0 := 0) rfl rfl rfl rfl (Nat.le_of_ble_eq_true rfl) rfl rfl rfl dX9_leader_2 ?_
  refine j_if_eq C (tgt := 17) (by decide) dX9_leader_5 (fun h3 => ?_) (fun h3 => ?_)
  · replace hf := it_t h3 hf
    refine j_aload_n C dX9_leader_17 rfl ?_
    refine j_bipush C bp_m2 dX9_leader_18 ?_
    replace hf := bd hf
    obtain ⟨v4, h5, hf⟩ := hf
    refine j_callV C cl_X9_27 (c_X9_fail h5) ⟨Nat.le_of_ble_eq_true rfl, Nat.le_of_ble_eq_true rfl⟩ ⟨Nat.zero_le _, Nat.zero_le _⟩ (q0 := 0) rfl rfl rfl rfl (Nat.le_of_ble_eq_true rfl) rfl rfl wM_fst dX9_leader_20 ?_
    cases hf
    exact j_iret C dX9_leader_23
  · replace hf := it_f h3 hf
    refine j_aload_n C dX9_leader_8 rfl ?_
    refine j_iload_n C dX9_leader_9 rfl ?_
    refine j_iconst C ic_2 dX9_leader_10 ?_
    replace hf := bd hf
    obtain ⟨v6, h7, hf⟩ := hf
    refine j_callV C cl_X9_39 (c_X9_of h7) ⟨Nat.le_of_ble_eq_true rfl, Nat.le_of_ble_eq_true rfl⟩ ⟨Nat.zero_le _, Nat.zero_le _⟩ (q0 := 0) rfl rfl rfl rfl (Nat.le_of_ble_eq_true rfl) rfl rfl rfl dX9_leader_11 ?_
    refine j_goto C (tgt := 23) (by decide) dX9_leader_14 ?_
    cases hf
    exact j_iret C dX9_leader_23
set_option maxRecDepth 100000 in
set_option maxHeartbeats 4000000 in
theorem c_X9_learnerOf {l : Launch} {D : va_G} {cI cS : ClassId} {A : Nat → Prop} {b : Nat → Nat} {rest : va_W} {P : Nat → Int32} {E : Nat → Int32} {n : Int32} {hs : Int64} {s : Nat → Int32} {x1 : Int32} {r : Int32} (hf : f_X9_learnerOf s x1 = some r) : CT l yX9_learnerOf cX9_learnerOf 2 (some .int) (rmF 1 22) D cI cS A [.ref (b 0), .int x1] (wM b cI s P E n hs rest) (wM b cI s P E n hs rest) (some (.int r)) := by
  refine CT_of (own := RX9) (xs := [some (.ref (b 0)), some (.int x1)]) (by decide) rfl (Nat.le_of_ble_eq_true rfl) rfl ?_
  intro p e s_ m below meth c C
  unfold f_X9_learnerOf at hf
  refine j_aload_n C dX9_learnerOf_0 rfl ?_
  refine j_iload_n C dX9_learnerOf_1 rfl ?_
  refine j_iconst C ic_3 dX9_learnerOf_2 ?_
  replace hf := bd hf
  obtain ⟨v1, h2, hf⟩ := hf
  refine j_callV C cl_X9_39 (c_X9_of h2) ⟨Nat.le_of_ble_eq_true rfl, Nat.le_of_ble_eq_true rfl⟩ ⟨Nat.zero_le _, Nat.zero_le _⟩ (q0 := 0) rfl rfl rfl rfl (Nat.le_of_ble_eq_true rfl) rfl rfl rfl dX9_learnerOf_3 ?_
  refine j_iconst C ic_m1 dX9_learnerOf_6 ?_
  refine j_icmp_ne C (tgt := 14) (by decide) dX9_learnerOf_7 (fun h3 => ?_) (fun h3 => ?_)
  · replace hf := it_f h3 hf
    refine j_bipush C bp_100 dX9_learnerOf_14 ?_
    refine j_aload_n C dX9_learnerOf_16 rfl ?_
    refine j_iload_n C dX9_learnerOf_17 rfl ?_
    refine j_iconst C ic_4 dX9_learnerOf_18 ?_
    replace hf := bd hf
    obtain ⟨v4, h5, hf⟩ := hf
    refine j_callV C cl_X9_39 (c_X9_of h5) ⟨Nat.le_of_ble_eq_true rfl, Nat.le_of_ble_eq_true rfl⟩ ⟨Nat.zero_le _, Nat.zero_le _⟩ (q0 := 0) rfl rfl rfl rfl (Nat.le_of_ble_eq_true rfl) rfl rfl rfl dX9_learnerOf_19 ?_
    refine j_imul C dX9_learnerOf_22 ?_
    refine j_aload_n C dX9_learnerOf_23 rfl ?_
    refine j_iload_n C dX9_learnerOf_24 rfl ?_
    refine j_iconst C ic_3 dX9_learnerOf_25 ?_
    replace hf := bd hf
    obtain ⟨v6, h7, hf⟩ := hf
    refine j_callV C cl_X9_39 (c_X9_of h7) ⟨Nat.le_of_ble_eq_true rfl, Nat.le_of_ble_eq_true rfl⟩ ⟨Nat.zero_le _, Nat.zero_le _⟩ (q0 := 0) rfl rfl rfl rfl (Nat.le_of_ble_eq_true rfl) rfl rfl rfl dX9_learnerOf_26 ?_
    refine j_iadd C dX9_learnerOf_29 ?_
    cases hf
    exact j_iret C dX9_learnerOf_30
  · replace hf := it_t h3 hf
    refine j_iconst C ic_m1 dX9_learnerOf_10 ?_
    refine j_goto C (tgt := 30) (by decide) dX9_learnerOf_11 ?_
    cases hf
    exact j_iret C dX9_learnerOf_30
set_option maxRecDepth 100000 in
set_option maxHeartbeats 4000000 in
theorem c_X9_learner {l : Launch} {D : va_G} {cI cS : ClassId} {A : Nat → Prop} {b : Nat → Nat} {rest : va_W} {P : Nat → Int32} {n : Int32} {hs : Int64} {s : Nat → Int32} {E : Nat → Int32} {x1 : Int32} {r : Int32 × (Nat → Int32)} (hf : f_X9_learner s E x1 = some r) : CT l yX9_learner cX9_learner 2 (some .int) (rmF 2 43) D cI cS A [.ref (b 0), .int x1] (wM b cI s P E n hs rest) (wM b cI s P r.2 n hs rest) (some (.int r.1)) := by
  refine CT_of (own := RX9) (xs := [some (.ref (b 0)), some (.int x1)]) (by decide) rfl (Nat.le_of_ble_eq_true rfl) rfl ?_
  intro p e s_ m below meth c C
  unfold f_X9_learner at hf
  refine j_aload_n C dX9_learner_0 rfl ?_
  refine j_iload_n C dX9_learner_1 rfl ?_
  replace hf := bd hf
  obtain ⟨v1, h2, hf⟩ := hf
  refine j_callV C cl_X9_169 (c_X9_isRange h2) ⟨Nat.le_of_ble_eq_true rfl, Nat.le_of_ble_eq_true rfl⟩ ⟨Nat.zero_le _, Nat.zero_le _⟩ (q0 := 0) rfl rfl rfl rfl (Nat.le_of_ble_eq_true rfl) rfl rfl rfl dX9_learner_2 ?_
  refine j_if_eq C (tgt := 16) (by decide) dX9_learner_5 (fun h3 => ?_) (fun h3 => ?_)
  · replace hf := it_t h3 hf
    refine j_aload_n C dX9_learner_16 rfl ?_
    refine j_bipush C bp_m2 dX9_learner_17 ?_
    replace hf := bd hf
    obtain ⟨v4, h5, hf⟩ := hf
    refine j_callV C cl_X9_27 (c_X9_fail h5) ⟨Nat.le_of_ble_eq_true rfl, Nat.le_of_ble_eq_true rfl⟩ ⟨Nat.zero_le _, Nat.zero_le _⟩ (q0 := 0) rfl rfl rfl rfl (Nat.le_of_ble_eq_true rfl) rfl rfl wM_fst dX9_learner_19 ?_
    cases hf
    exact j_iret C dX9_learner_22
  · replace hf := it_f h3 hf
    refine j_aload_n C dX9_learner_8 rfl ?_
    refine j_iload_n C dX9_learner_9 rfl ?_
    replace hf := bd hf
    obtain ⟨v6, h7, hf⟩ := hf
    refine j_callV C cl_X9_172 (c_X9_learnerOf h7) ⟨Nat.le_of_ble_eq_true rfl, Nat.le_of_ble_eq_true rfl⟩ ⟨Nat.zero_le _, Nat.zero_le _⟩ (q0 := 0) rfl rfl rfl rfl (Nat.le_of_ble_eq_true rfl) rfl rfl rfl dX9_learner_10 ?_
    refine j_goto C (tgt := 22) (by decide) dX9_learner_13 ?_
    cases hf
    exact j_iret C dX9_learner_22
set_option maxRecDepth 100000 in
set_option maxHeartbeats 4000000 in
theorem c_X9_isAvailable {l : Launch} {D : va_G} {cI cS : ClassId} {A : Nat → Prop} {b : Nat → Nat} {rest : va_W} {P : Nat → Int32} {n : Int32} {hs : Int64} {s : Nat → Int32} {E : Nat → Int32} {x1 : Int32} {r : Int32 × (Nat → Int32)} (hf : f_X9_isAvailable s E x1 = some r) : CT l yX9_isAvailable cX9_isAvailable 2 (some .int) (rmF 3 64) D cI cS A [.ref (b 0), .int x1] (wM b cI s P E n hs rest) (wM b cI s P r.2 n hs rest) (some (.int r.1)) := by
  refine CT_of (own := RX9) (xs := [some (.ref (b 0)), some (.int x1)]) (by decide) rfl (Nat.le_of_ble_eq_true rfl) rfl ?_
  intro p e s_ m below meth c C
  unfold f_X9_isAvailable at hf
  refine j_aload_n C dX9_isAvailable_0 rfl ?_
  refine j_iload_n C dX9_isAvailable_1 rfl ?_
  replace hf := bd hf
  obtain ⟨v1, h2, hf⟩ := hf
  refine j_callV C cl_X9_169 (c_X9_isRange h2) ⟨Nat.le_of_ble_eq_true rfl, Nat.le_of_ble_eq_true rfl⟩ ⟨Nat.zero_le _, Nat.zero_le _⟩ (q0 := 0) rfl rfl rfl rfl (Nat.le_of_ble_eq_true rfl) rfl rfl rfl dX9_isAvailable_2 ?_
  refine j_if_eq C (tgt := 24) (by decide) dX9_isAvailable_5 (fun h3 => ?_) (fun h3 => ?_)
  · replace hf := it_t h3 hf
    refine j_aload_n C dX9_isAvailable_24 rfl ?_
    refine j_bipush C bp_m2 dX9_isAvailable_25 ?_
    replace hf := bd hf
    obtain ⟨v4, h5, hf⟩ := hf
    refine j_callV C cl_X9_27 (c_X9_fail h5) ⟨Nat.le_of_ble_eq_true rfl, Nat.le_of_ble_eq_true rfl⟩ ⟨Nat.zero_le _, Nat.zero_le _⟩ (q0 := 0) rfl rfl rfl rfl (Nat.le_of_ble_eq_true rfl) rfl rfl wM_fst dX9_isAvailable_27 ?_
    cases hf
    exact j_iret C dX9_isAvailable_30
  · replace hf := it_f h3 hf
    refine j_aload_n C dX9_isAvailable_8 rfl ?_
    refine j_iload_n C dX9_isAvailable_9 rfl ?_
    replace hf := bd hf
    obtain ⟨v6, h7, hf⟩ := hf
    refine j_callV C cl_X9_54 (c_X9_available h7) ⟨Nat.le_of_ble_eq_true rfl, Nat.le_of_ble_eq_true rfl⟩ ⟨Nat.zero_le _, Nat.zero_le _⟩ (q0 := 0) rfl rfl rfl rfl (Nat.le_of_ble_eq_true rfl) rfl rfl rfl dX9_isAvailable_10 ?_
    refine j_if_eq C (tgt := 20) (by decide) dX9_isAvailable_13 (fun h8 => ?_) (fun h8 => ?_)
    · replace hf := it_t h8 hf
      refine j_iconst C ic_0 dX9_isAvailable_20 ?_
      refine j_goto C (tgt := 30) (by decide) dX9_isAvailable_21 ?_
      cases hf
      exact j_iret C dX9_isAvailable_30
    · replace hf := it_f h8 hf
      refine j_iconst C ic_1 dX9_isAvailable_16 ?_
      refine j_goto C (tgt := 30) (by decide) dX9_isAvailable_17 ?_
      cases hf
      exact j_iret C dX9_isAvailable_30
set_option maxRecDepth 100000 in
set_option maxHeartbeats 4000000 in
theorem w_X9_splitKey_26 {p : Program} {l : Launch} {e : Env} {s_ : State} {m : MethodId} {args : Array Value} {below : List Frame} {meth : Method} {c : Code} {D : va_G} {cI cS : ClassId} {A : Nat → Prop} {b : Nat → Nat} {rest : va_W} {P : Nat → Int32} {n : Int32} {hs : Int64} (C : cx p s_ m args meth c cX9_splitKey 3 RX9 (some .int) D cI cS)  : ∀ (s : Nat → Int32) (E : Nat → Int32)  (r : Int32 × (Nat → Int32)), f_X9_splitKey_26  s E = some r → jG p l e (rmF 6 144) s_ m args below meth c 3 D A (MQ below (QW D A (wM b cI s P r.2 n hs rest) (some (.int r.1))) args s_ 0 0 A) (wM b cI s P E n hs rest) [some (.ref (b 0)), none, none] 26 [] := by
  intro s E r hf
  unfold f_X9_splitKey_26 at hf
  refine j_aload_n C dX9_splitKey_26 rfl ?_
  refine j_bipush C bp_m2 dX9_splitKey_27 ?_
  replace hf := bd hf
  obtain ⟨v4, h5, hf⟩ := hf
  refine j_callV C cl_X9_27 (c_X9_fail h5) ⟨Nat.le_of_ble_eq_true rfl, Nat.le_of_ble_eq_true rfl⟩ ⟨Nat.zero_le _, Nat.zero_le _⟩ (q0 := 0) rfl rfl rfl rfl (Nat.le_of_ble_eq_true rfl) rfl rfl wM_fst dX9_splitKey_29 ?_
  cases hf
  exact j_iret C dX9_splitKey_32
set_option maxRecDepth 100000 in
set_option maxHeartbeats 4000000 in
theorem c_X9_splitKey {l : Launch} {D : va_G} {cI cS : ClassId} {A : Nat → Prop} {b : Nat → Nat} {rest : va_W} {P : Nat → Int32} {n : Int32} {hs : Int64} {s : Nat → Int32} {E : Nat → Int32} {x1 : Int32} {x2 : Int32} {r : Int32 × (Nat → Int32)} (hf : f_X9_splitKey s E x1 x2 = some r) : CT l yX9_splitKey cX9_splitKey 3 (some .int) (rmF 6 144) D cI cS A [.ref (b 0), .int x1, .int x2] (wM b cI s P E n hs rest) (wM b cI s P r.2 n hs rest) (some (.int r.1)) := by
  refine CT_of (own := RX9) (xs := [some (.ref (b 0)), some (.int x1), some (.int x2)]) (by decide) rfl (Nat.le_of_ble_eq_true rfl) rfl ?_
  intro p e s_ m below meth c C
  unfold f_X9_splitKey at hf
  refine j_aload_n C dX9_splitKey_0 rfl ?_
  refine j_iload_n C dX9_splitKey_1 rfl ?_
  replace hf := bd hf
  obtain ⟨v1, h2, hf⟩ := hf
  refine j_callV C cl_X9_169 (c_X9_isRange h2) ⟨Nat.le_of_ble_eq_true rfl, Nat.le_of_ble_eq_true rfl⟩ ⟨Nat.zero_le _, Nat.zero_le _⟩ (q0 := 0) rfl rfl rfl rfl (Nat.le_of_ble_eq_true rfl) rfl rfl rfl dX9_splitKey_2 ?_
  refine j_if_eq C (tgt := 26) (by decide) dX9_splitKey_5 (fun h3 => ?_) (fun h3 => ?_)
  · replace hf := it_t h3 hf
    refine j_weak [true, false, false] rfl ?_
    exact w_X9_splitKey_26 C  _ _ _ hf
  · replace hf := it_f h3 hf
    refine j_iload_n C dX9_splitKey_8 rfl ?_
    refine j_iconst C ic_0 dX9_splitKey_9 ?_
    refine j_iconst C ic_1 dX9_splitKey_10 ?_
    replace hf := bd hf
    obtain ⟨v6, h7, hf⟩ := hf
    refine j_callS C cl_X9_31 (c_X9_in h7) ⟨Nat.le_of_ble_eq_true rfl, Nat.le_of_ble_eq_true rfl⟩ ⟨Nat.zero_le _, Nat.zero_le _⟩ rfl (Nat.le_of_ble_eq_true rfl) rfl rfl rfl dX9_splitKey_11 ?_
    refine j_if_eq C (tgt := 26) (by decide) dX9_splitKey_14 (fun h8 => ?_) (fun h8 => ?_)
    · replace hf := it_t h8 hf
      refine j_weak [true, false, false] rfl ?_
      exact w_X9_splitKey_26 C  _ _ _ hf
    · replace hf := it_f h8 hf
      refine j_aload_n C dX9_splitKey_17 rfl ?_
      refine j_iload_n C dX9_splitKey_18 rfl ?_
      refine j_iload_n C dX9_splitKey_19 rfl ?_
      replace hf := bd hf
      obtain ⟨v9, h10, hf⟩ := hf
      refine j_callV C cl_X9_98 (c_X9_splitKeyOf h10) ⟨Nat.le_of_ble_eq_true rfl, Nat.le_of_ble_eq_true rfl⟩ ⟨Nat.zero_le _, Nat.zero_le _⟩ (q0 := 0) rfl rfl rfl rfl (Nat.le_of_ble_eq_true rfl) rfl rfl rfl dX9_splitKey_20 ?_
      refine j_goto C (tgt := 32) (by decide) dX9_splitKey_23 ?_
      cases hf
      exact j_iret C dX9_splitKey_32
set_option maxRecDepth 100000 in
set_option maxHeartbeats 4000000 in
theorem c_X9_replicas {l : Launch} {D : va_G} {cI cS : ClassId} {A : Nat → Prop} {b : Nat → Nat} {rest : va_W} {P : Nat → Int32} {n : Int32} {hs : Int64} {s : Nat → Int32} {E : Nat → Int32} {x1 : Int32} {r : Int32 × (Nat → Int32)} (hf : f_X9_replicas s E x1 = some r) : CT l yX9_replicas cX9_replicas 2 (some .int) (rmF 2 45) D cI cS A [.ref (b 0), .int x1] (wM b cI s P E n hs rest) (wM b cI s P r.2 n hs rest) (some (.int r.1)) := by
  refine CT_of (own := RX9) (xs := [some (.ref (b 0)), some (.int x1)]) (by decide) rfl (Nat.le_of_ble_eq_true rfl) rfl ?_
  intro p e s_ m below meth c C
  unfold f_X9_replicas at hf
  refine j_aload_n C dX9_replicas_0 rfl ?_
  refine j_iload_n C dX9_replicas_1 rfl ?_
  replace hf := bd hf
  obtain ⟨v1, h2, hf⟩ := hf
  refine j_callV C cl_X9_148 (c_X9_isNode h2) ⟨Nat.le_of_ble_eq_true rfl, Nat.le_of_ble_eq_true rfl⟩ ⟨Nat.zero_le _, Nat.zero_le _⟩ (q0 := 0) rfl rfl rfl rfl (Nat.le_of_ble_eq_true rfl) rfl rfl rfl dX9_replicas_2 ?_
  refine j_if_eq C (tgt := 16) (by decide) dX9_replicas_5 (fun h3 => ?_) (fun h3 => ?_)
  · replace hf := it_t h3 hf
    refine j_aload_n C dX9_replicas_16 rfl ?_
    refine j_bipush C bp_m2 dX9_replicas_17 ?_
    replace hf := bd hf
    obtain ⟨v4, h5, hf⟩ := hf
    refine j_callV C cl_X9_27 (c_X9_fail h5) ⟨Nat.le_of_ble_eq_true rfl, Nat.le_of_ble_eq_true rfl⟩ ⟨Nat.zero_le _, Nat.zero_le _⟩ (q0 := 0) rfl rfl rfl rfl (Nat.le_of_ble_eq_true rfl) rfl rfl wM_fst dX9_replicas_19 ?_
    cases hf
    exact j_iret C dX9_replicas_22
  · replace hf := it_f h3 hf
    refine j_aload_n C dX9_replicas_8 rfl ?_
    refine j_iload_n C dX9_replicas_9 rfl ?_
    replace hf := bd hf
    obtain ⟨v6, h7, hf⟩ := hf
    refine j_callV C cl_X9_63 (c_X9_replicasOf h7) ⟨Nat.le_of_ble_eq_true rfl, Nat.le_of_ble_eq_true rfl⟩ ⟨Nat.zero_le _, Nat.zero_le _⟩ (q0 := 0) rfl rfl rfl rfl (Nat.le_of_ble_eq_true rfl) rfl rfl rfl dX9_replicas_10 ?_
    refine j_goto C (tgt := 22) (by decide) dX9_replicas_13 ?_
    cases hf
    exact j_iret C dX9_replicas_22
set_option maxRecDepth 100000 in
set_option maxHeartbeats 4000000 in
theorem c_X9_leaders {l : Launch} {D : va_G} {cI cS : ClassId} {A : Nat → Prop} {b : Nat → Nat} {rest : va_W} {P : Nat → Int32} {n : Int32} {hs : Int64} {s : Nat → Int32} {E : Nat → Int32} {x1 : Int32} {r : Int32 × (Nat → Int32)} (hf : f_X9_leaders s E x1 = some r) : CT l yX9_leaders cX9_leaders 2 (some .int) (rmF 2 46) D cI cS A [.ref (b 0), .int x1] (wM b cI s P E n hs rest) (wM b cI s P r.2 n hs rest) (some (.int r.1)) := by
  refine CT_of (own := RX9) (xs := [some (.ref (b 0)), some (.int x1)]) (by decide) rfl (Nat.le_of_ble_eq_true rfl) rfl ?_
  intro p e s_ m below meth c C
  unfold f_X9_leaders at hf
  refine j_aload_n C dX9_leaders_0 rfl ?_
  refine j_iload_n C dX9_leaders_1 rfl ?_
  replace hf := bd hf
  obtain ⟨v1, h2, hf⟩ := hf
  refine j_callV C cl_X9_148 (c_X9_isNode h2) ⟨Nat.le_of_ble_eq_true rfl, Nat.le_of_ble_eq_true rfl⟩ ⟨Nat.zero_le _, Nat.zero_le _⟩ (q0 := 0) rfl rfl rfl rfl (Nat.le_of_ble_eq_true rfl) rfl rfl rfl dX9_leaders_2 ?_
  refine j_if_eq C (tgt := 17) (by decide) dX9_leaders_5 (fun h3 => ?_) (fun h3 => ?_)
  · replace hf := it_t h3 hf
    refine j_aload_n C dX9_leaders_17 rfl ?_
    refine j_bipush C bp_m2 dX9_leaders_18 ?_
    replace hf := bd hf
    obtain ⟨v4, h5, hf⟩ := hf
    refine j_callV C cl_X9_27 (c_X9_fail h5) ⟨Nat.le_of_ble_eq_true rfl, Nat.le_of_ble_eq_true rfl⟩ ⟨Nat.zero_le _, Nat.zero_le _⟩ (q0 := 0) rfl rfl rfl rfl (Nat.le_of_ble_eq_true rfl) rfl rfl wM_fst dX9_leaders_20 ?_
    cases hf
    exact j_iret C dX9_leaders_23
  · replace hf := it_f h3 hf
    refine j_aload_n C dX9_leaders_8 rfl ?_
    refine j_iload_n C dX9_leaders_9 rfl ?_
    refine j_iconst C ic_m1 dX9_leaders_10 ?_
    replace hf := bd hf
    obtain ⟨v6, h7, hf⟩ := hf
    refine j_callV C cl_X9_57 (c_X9_leads h7) ⟨Nat.le_of_ble_eq_true rfl, Nat.le_of_ble_eq_true rfl⟩ ⟨Nat.zero_le _, Nat.zero_le _⟩ (q0 := 0) rfl rfl rfl rfl (Nat.le_of_ble_eq_true rfl) rfl rfl rfl dX9_leaders_11 ?_
    refine j_goto C (tgt := 23) (by decide) dX9_leaders_14 ?_
    cases hf
    exact j_iret C dX9_leaders_23
set_option maxRecDepth 100000 in
set_option maxHeartbeats 4000000 in
theorem c_X9_errorCount {l : Launch} {D : va_G} {cI cS : ClassId} {A : Nat → Prop} {b : Nat → Nat} {rest : va_W} {s : Nat → Int32} {P : Nat → Int32} {n : Int32} {hs : Int64} {E : Nat → Int32} {x1 : Int32} {r : Int32 × (Nat → Int32)} (hf : f_X9_errorCount E x1 = some r) : CT l yX9_errorCount cX9_errorCount 2 (some .int) (rmF 1 22) D cI cS A [.ref (b 0), .int x1] (wM b cI s P E n hs rest) (wM b cI s P r.2 n hs rest) (some (.int r.1)) := by
  refine CT_of (own := RX9) (xs := [some (.ref (b 0)), some (.int x1)]) (by decide) rfl (Nat.le_of_ble_eq_true rfl) rfl ?_
  intro p e s_ m below meth c C
  unfold f_X9_errorCount at hf
  refine j_iload_n C dX9_errorCount_0 rfl ?_
  refine j_iconst C ic_0 dX9_errorCount_1 ?_
  refine j_iconst C ic_2 dX9_errorCount_2 ?_
  replace hf := bd hf
  obtain ⟨v1, h2, hf⟩ := hf
  refine j_callS C cl_X9_31 (c_X9_in h2) ⟨Nat.le_of_ble_eq_true rfl, Nat.le_of_ble_eq_true rfl⟩ ⟨Nat.zero_le _, Nat.zero_le _⟩ rfl (Nat.le_of_ble_eq_true rfl) rfl rfl rfl dX9_errorCount_3 ?_
  refine j_if_eq C (tgt := 18) (by decide) dX9_errorCount_6 (fun h3 => ?_) (fun h3 => ?_)
  · replace hf := it_t h3 hf
    refine j_aload_n C dX9_errorCount_18 rfl ?_
    refine j_bipush C bp_m2 dX9_errorCount_19 ?_
    replace hf := bd hf
    obtain ⟨v4, h5, hf⟩ := hf
    refine j_callV C cl_X9_27 (c_X9_fail h5) ⟨Nat.le_of_ble_eq_true rfl, Nat.le_of_ble_eq_true rfl⟩ ⟨Nat.zero_le _, Nat.zero_le _⟩ (q0 := 0) rfl rfl rfl rfl (Nat.le_of_ble_eq_true rfl) rfl rfl wM_fst dX9_errorCount_21 ?_
    cases hf
    exact j_iret C dX9_errorCount_24
  · replace hf := it_f h3 hf
    refine j_aload_n C dX9_errorCount_9 rfl ?_
    refine gf_X9_16 C dX9_errorCount_10 ?_
    refine j_iload_n C dX9_errorCount_13 rfl ?_
    replace hf := ld_s hf
    obtain ⟨v6, h7, e_v6, hf⟩ := hf
    refine aLM_3 C h7 e_v6 dX9_errorCount_14 ?_
    refine j_goto C (tgt := 24) (by decide) dX9_errorCount_15 ?_
    cases hf
    exact j_iret C dX9_errorCount_24
set_option maxRecDepth 100000 in
set_option maxHeartbeats 4000000 in
theorem c_X9_add {l : Launch} {D : va_G} {cI cS : ClassId} {A : Nat → Prop} {b : Nat → Nat} {rest : va_W} {s : Nat → Int32} {P : Nat → Int32} {E : Nat → Int32} {n : Int32} {hs : Int64} {x1 : Int32} {r : (Int64)} (hf : f_X9_add hs x1 = some r) : CT l yX9_add cX9_add 2 none (rmF 0 0) D cI cS A [.ref (b 0), .int x1] (wM b cI s P E n hs rest) (wM b cI s P E n r rest) none := by
  refine CT_of (own := RX9) (xs := [some (.ref (b 0)), some (.int x1)]) (by decide) rfl (Nat.le_of_ble_eq_true rfl) rfl ?_
  intro p e s_ m below meth c C
  unfold f_X9_add at hf
  refine j_aload_n C dX9_add_0 rfl ?_
  refine j_ldc2 C tw_1075 dX9_add_1 ?_
  refine j_aload_n C dX9_add_4 rfl ?_
  refine gf_X9_177 C dX9_add_5 ?_
  refine j_lmul C dX9_add_8 ?_
  refine j_iload_n C dX9_add_9 rfl ?_
  refine j_i2l C dX9_add_10 ?_
  refine j_ladd C dX9_add_11 ?_
  refine pf_X9_177 C dX9_add_12 ?_
  cases hf
  exact j_vret C dX9_add_15
set_option maxRecDepth 100000 in
set_option maxHeartbeats 4000000 in
theorem w_X9_digest_316 {p : Program} {l : Launch} {e : Env} {s_ : State} {m : MethodId} {args : Array Value} {below : List Frame} {meth : Method} {c : Code} {D : va_G} {cI cS : ClassId} {A : Nat → Prop} {b : Nat → Nat} {rest : va_W} {P : Nat → Int32} (C : cx p s_ m args meth c cX9_digest 3 RX9 (some .long) D cI cS)  : ∀ (n_ : Nat) (s : Nat → Int32) (E : Nat → Int32) (n : Int32) (hs : Int64) (x1 : Int32) (r : Int64 × (Int64)), f_X9_digest_316  n_ s E n hs x1 = some r → jG p l e (rmF 6 144) s_ m args below meth c 3 D A (MQ below (QW D A (wM b cI s P E n r.2 rest) (some (.long r.1))) args s_ 0 0 A) (wM b cI s P E n hs rest) [some (.ref (b 0)), some (.int x1), none] 316 [] := by
  intro n_
  induction n_ with
  | zero =>
    intro s E n hs x1 r hf
    rw [f_X9_digest_316] at hf
    cases hf
  | succ n_ hk316 =>
    intro s E n hs x1 r hf
    rw [f_X9_digest_316] at hf
    refine j_iload_n C dX9_digest_316 rfl ?_
    refine j_bipush C bp_8 dX9_digest_317 ?_
    refine j_icmp_gt C (tgt := 341) (by decide) dX9_digest_319 (fun h30 => ?_) (fun h30 => ?_)
    · replace hf := it_t h30 hf
      refine j_aload_n C dX9_digest_341 rfl ?_
      refine gf_X9_177 C dX9_digest_342 ?_
      cases hf
      exact j_lret C dX9_digest_345
    · replace hf := it_f h30 hf
      refine j_aload_n C dX9_digest_322 rfl ?_
      refine j_aload_n C dX9_digest_323 rfl ?_
      refine gf_X9_7 C dX9_digest_324 ?_
      refine j_bipush C bp_6 dX9_digest_327 ?_
      refine j_iload_n C dX9_digest_329 rfl ?_
      refine j_iadd C dX9_digest_330 ?_
      replace hf := ld_s hf
      obtain ⟨v31, h32, e_v31, hf⟩ := hf
      refine aLM_1 C h32 e_v31 dX9_digest_331 ?_
      replace hf := bd hf
      obtain ⟨v33, h34, hf⟩ := hf
      refine j_callV C cl_X9_183 (c_X9_add h34) ⟨Nat.le_of_ble_eq_true rfl, Nat.le_of_ble_eq_true rfl⟩ ⟨Nat.zero_le _, Nat.zero_le _⟩ (q0 := 0) rfl rfl rfl rfl (Nat.le_of_ble_eq_true rfl) rfl rfl wM_fst dX9_digest_332 ?_
      refine j_iinc C (xs' := [some (.ref (b 0)), some (.int (x1 + (1 : Int32))), none]) dX9_digest_335 rfl (ii_1 _) rfl rfl ?_
      refine j_goto C (tgt := 316) (by decide) dX9_digest_338 ?_
      exact hk316 _ _ _ _ _ _ hf
set_option maxRecDepth 100000 in
set_option maxHeartbeats 4000000 in
theorem w_X9_digest_283 {p : Program} {l : Launch} {e : Env} {s_ : State} {m : MethodId} {args : Array Value} {below : List Frame} {meth : Method} {c : Code} {D : va_G} {cI cS : ClassId} {A : Nat → Prop} {b : Nat → Nat} {rest : va_W} {P : Nat → Int32} (C : cx p s_ m args meth c cX9_digest 3 RX9 (some .long) D cI cS)  : ∀ (n_ : Nat) (s : Nat → Int32) (E : Nat → Int32) (n : Int32) (hs : Int64) (x1 : Int32) (r : Int64 × (Int64)), f_X9_digest_283  n_ s E n hs x1 = some r → jG p l e (rmF 6 144) s_ m args below meth c 3 D A (MQ below (QW D A (wM b cI s P E n r.2 rest) (some (.long r.1))) args s_ 0 0 A) (wM b cI s P E n hs rest) [some (.ref (b 0)), some (.int x1), none] 283 [] := by
  intro n_
  induction n_ with
  | zero =>
    intro s E n hs x1 r hf
    rw [f_X9_digest_283] at hf
    cases hf
  | succ n_ hk283 =>
    intro s E n hs x1 r hf
    rw [f_X9_digest_283] at hf
    refine j_iload_n C dX9_digest_283 rfl ?_
    refine j_aload_n C dX9_digest_284 rfl ?_
    refine gf_X9_7 C dX9_digest_285 ?_
    refine j_bipush C bp_18 dX9_digest_288 ?_
    replace hf := ld_s hf
    obtain ⟨v27, h28, e_v27, hf⟩ := hf
    refine aLM_1 C h28 e_v27 dX9_digest_290 ?_
    refine j_icmp_ge C (tgt := 314) (by decide) dX9_digest_291 (fun h29 => ?_) (fun h29 => ?_)
    · replace hf := it_t h29 hf
      refine j_iconst C ic_1 dX9_digest_314 ?_
      refine j_istore_n C (xs' := [some (.ref (b 0)), some (.int (1 : Int32)), none]) dX9_digest_315 rfl rfl ?_
      exact w_X9_digest_316 C  _ _ _ _ _ _ _ hf
    · replace hf := it_f h29 hf
      refine j_aload_n C dX9_digest_294 rfl ?_
      refine j_aload_n C dX9_digest_295 rfl ?_
      refine gf_X9_7 C dX9_digest_296 ?_
      refine j_sipush C sp_267 dX9_digest_299 ?_
      refine j_iload_n C dX9_digest_302 rfl ?_
      refine j_iadd C dX9_digest_303 ?_
      replace hf := ld_s hf
      obtain ⟨v35, h36, e_v35, hf⟩ := hf
      refine aLM_1 C h36 e_v35 dX9_digest_304 ?_
      replace hf := bd hf
      obtain ⟨v37, h38, hf⟩ := hf
      refine j_callV C cl_X9_183 (c_X9_add h38) ⟨Nat.le_of_ble_eq_true rfl, Nat.le_of_ble_eq_true rfl⟩ ⟨Nat.zero_le _, Nat.zero_le _⟩ (q0 := 0) rfl rfl rfl rfl (Nat.le_of_ble_eq_true rfl) rfl rfl wM_fst dX9_digest_305 ?_
      refine j_iinc C (xs' := [some (.ref (b 0)), some (.int (x1 + (1 : Int32))), none]) dX9_digest_308 rfl (ii_1 _) rfl rfl ?_
      refine j_goto C (tgt := 283) (by decide) dX9_digest_311 ?_
      exact hk283 _ _ _ _ _ _ hf
set_option maxRecDepth 100000 in
set_option maxHeartbeats 4000000 in
theorem w_X9_digest_164 {p : Program} {l : Launch} {e : Env} {s_ : State} {m : MethodId} {args : Array Value} {below : List Frame} {meth : Method} {c : Code} {D : va_G} {cI cS : ClassId} {A : Nat → Prop} {b : Nat → Nat} {rest : va_W} {P : Nat → Int32} (C : cx p s_ m args meth c cX9_digest 3 RX9 (some .long) D cI cS)  : ∀ (n_ : Nat) (s : Nat → Int32) (E : Nat → Int32) (n : Int32) (hs : Int64) (x1 : Int32) (r : Int64 × (Int64)), f_X9_digest_164  n_ s E n hs x1 = some r → jG p l e (rmF 6 144) s_ m args below meth c 3 D A (MQ below (QW D A (wM b cI s P E n r.2 rest) (some (.long r.1))) args s_ 0 0 A) (wM b cI s P E n hs rest) [some (.ref (b 0)), some (.int x1), none] 164 [] := by
  intro n_
  induction n_ with
  | zero =>
    intro s E n hs x1 r hf
    rw [f_X9_digest_164] at hf
    cases hf
  | succ n_ hk164 =>
    intro s E n hs x1 r hf
    rw [f_X9_digest_164] at hf
    refine j_iload_n C dX9_digest_164 rfl ?_
    refine j_aload_n C dX9_digest_165 rfl ?_
    refine gf_X9_7 C dX9_digest_166 ?_
    refine j_bipush C bp_17 dX9_digest_169 ?_
    replace hf := ld_s hf
    obtain ⟨v20, h21, e_v20, hf⟩ := hf
    refine aLM_1 C h21 e_v20 dX9_digest_171 ?_
    refine j_icmp_ge C (tgt := 270) (by decide) dX9_digest_172 (fun h22 => ?_) (fun h22 => ?_)
    · replace hf := it_t h22 hf
      refine j_aload_n C dX9_digest_270 rfl ?_
      refine j_aload_n C dX9_digest_271 rfl ?_
      refine gf_X9_7 C dX9_digest_272 ?_
      refine j_bipush C bp_18 dX9_digest_275 ?_
      replace hf := ld_s hf
      obtain ⟨v23, h24, e_v23, hf⟩ := hf
      refine aLM_1 C h24 e_v23 dX9_digest_277 ?_
      replace hf := bd hf
      obtain ⟨v25, h26, hf⟩ := hf
      refine j_callV C cl_X9_183 (c_X9_add h26) ⟨Nat.le_of_ble_eq_true rfl, Nat.le_of_ble_eq_true rfl⟩ ⟨Nat.zero_le _, Nat.zero_le _⟩ (q0 := 0) rfl rfl rfl rfl (Nat.le_of_ble_eq_true rfl) rfl rfl wM_fst dX9_digest_278 ?_
      refine j_iconst C ic_0 dX9_digest_281 ?_
      refine j_istore_n C (xs' := [some (.ref (b 0)), some (.int (0 : Int32)), none]) dX9_digest_282 rfl rfl ?_
      exact w_X9_digest_283 C  _ _ _ _ _ _ _ hf
    · replace hf := it_f h22 hf
      refine j_aload_n C dX9_digest_175 rfl ?_
      refine j_aload_n C dX9_digest_176 rfl ?_
      refine j_iload_n C dX9_digest_177 rfl ?_
      refine j_iconst C ic_0 dX9_digest_178 ?_
      replace hf := bd hf
      obtain ⟨v39, h40, hf⟩ := hf
      refine j_callV C cl_X9_39 (c_X9_of h40) ⟨Nat.le_of_ble_eq_true rfl, Nat.le_of_ble_eq_true rfl⟩ ⟨Nat.zero_le _, Nat.zero_le _⟩ (q0 := 0) rfl rfl rfl rfl (Nat.le_of_ble_eq_true rfl) rfl rfl rfl dX9_digest_179 ?_
      replace hf := bd hf
      obtain ⟨v41, h42, hf⟩ := hf
      refine j_callV C cl_X9_183 (c_X9_add h42) ⟨Nat.le_of_ble_eq_true rfl, Nat.le_of_ble_eq_true rfl⟩ ⟨Nat.zero_le _, Nat.zero_le _⟩ (q0 := 0) rfl rfl rfl rfl (Nat.le_of_ble_eq_true rfl) rfl rfl wM_fst dX9_digest_182 ?_
      refine j_aload_n C dX9_digest_185 rfl ?_
      refine j_aload_n C dX9_digest_186 rfl ?_
      refine j_iload_n C dX9_digest_187 rfl ?_
      refine j_iconst C ic_0 dX9_digest_188 ?_
      replace hf := bd hf
      obtain ⟨v43, h44, hf⟩ := hf
      refine j_callV C cl_X9_79 (c_X9_all h44) ⟨Nat.le_of_ble_eq_true rfl, Nat.le_of_ble_eq_true rfl⟩ ⟨Nat.zero_le _, Nat.zero_le _⟩ (q0 := 0) rfl rfl rfl rfl (Nat.le_of_ble_eq_true rfl) rfl rfl rfl dX9_digest_189 ?_
      replace hf := bd hf
      obtain ⟨v45, h46, hf⟩ := hf
      refine j_callV C cl_X9_183 (c_X9_add h46) ⟨Nat.le_of_ble_eq_true rfl, Nat.le_of_ble_eq_true rfl⟩ ⟨Nat.zero_le _, Nat.zero_le _⟩ (q0 := 0) rfl rfl rfl rfl (Nat.le_of_ble_eq_true rfl) rfl rfl wM_fst dX9_digest_192 ?_
      refine j_aload_n C dX9_digest_195 rfl ?_
      refine j_aload_n C dX9_digest_196 rfl ?_
      refine j_iload_n C dX9_digest_197 rfl ?_
      refine j_iconst C ic_1 dX9_digest_198 ?_
      replace hf := bd hf
      obtain ⟨v47, h48, hf⟩ := hf
      refine j_callV C cl_X9_79 (c_X9_all h48) ⟨Nat.le_of_ble_eq_true rfl, Nat.le_of_ble_eq_true rfl⟩ ⟨Nat.zero_le _, Nat.zero_le _⟩ (q0 := 0) rfl rfl rfl rfl (Nat.le_of_ble_eq_true rfl) rfl rfl rfl dX9_digest_199 ?_
      replace hf := bd hf
      obtain ⟨v49, h50, hf⟩ := hf
      refine j_callV C cl_X9_183 (c_X9_add h50) ⟨Nat.le_of_ble_eq_true rfl, Nat.le_of_ble_eq_true rfl⟩ ⟨Nat.zero_le _, Nat.zero_le _⟩ (q0 := 0) rfl rfl rfl rfl (Nat.le_of_ble_eq_true rfl) rfl rfl wM_fst dX9_digest_202 ?_
      refine j_aload_n C dX9_digest_205 rfl ?_
      refine j_aload_n C dX9_digest_206 rfl ?_
      refine j_iload_n C dX9_digest_207 rfl ?_
      refine j_iconst C ic_1 dX9_digest_208 ?_
      replace hf := bd hf
      obtain ⟨v51, h52, hf⟩ := hf
      refine j_callV C cl_X9_39 (c_X9_of h52) ⟨Nat.le_of_ble_eq_true rfl, Nat.le_of_ble_eq_true rfl⟩ ⟨Nat.zero_le _, Nat.zero_le _⟩ (q0 := 0) rfl rfl rfl rfl (Nat.le_of_ble_eq_true rfl) rfl rfl rfl dX9_digest_209 ?_
      replace hf := bd hf
      obtain ⟨v53, h54, hf⟩ := hf
      refine j_callV C cl_X9_183 (c_X9_add h54) ⟨Nat.le_of_ble_eq_true rfl, Nat.le_of_ble_eq_true rfl⟩ ⟨Nat.zero_le _, Nat.zero_le _⟩ (q0 := 0) rfl rfl rfl rfl (Nat.le_of_ble_eq_true rfl) rfl rfl wM_fst dX9_digest_212 ?_
      refine j_aload_n C dX9_digest_215 rfl ?_
      refine j_aload_n C dX9_digest_216 rfl ?_
      refine j_iload_n C dX9_digest_217 rfl ?_
      refine j_iconst C ic_2 dX9_digest_218 ?_
      replace hf := bd hf
      obtain ⟨v55, h56, hf⟩ := hf
      refine j_callV C cl_X9_39 (c_X9_of h56) ⟨Nat.le_of_ble_eq_true rfl, Nat.le_of_ble_eq_true rfl⟩ ⟨Nat.zero_le _, Nat.zero_le _⟩ (q0 := 0) rfl rfl rfl rfl (Nat.le_of_ble_eq_true rfl) rfl rfl rfl dX9_digest_219 ?_
      replace hf := bd hf
      obtain ⟨v57, h58, hf⟩ := hf
      refine j_callV C cl_X9_183 (c_X9_add h58) ⟨Nat.le_of_ble_eq_true rfl, Nat.le_of_ble_eq_true rfl⟩ ⟨Nat.zero_le _, Nat.zero_le _⟩ (q0 := 0) rfl rfl rfl rfl (Nat.le_of_ble_eq_true rfl) rfl rfl wM_fst dX9_digest_222 ?_
      refine j_aload_n C dX9_digest_225 rfl ?_
      refine j_aload_n C dX9_digest_226 rfl ?_
      refine j_iload_n C dX9_digest_227 rfl ?_
      replace hf := bd hf
      obtain ⟨v59, h60, hf⟩ := hf
      refine j_callV C cl_X9_172 (c_X9_learnerOf h60) ⟨Nat.le_of_ble_eq_true rfl, Nat.le_of_ble_eq_true rfl⟩ ⟨Nat.zero_le _, Nat.zero_le _⟩ (q0 := 0) rfl rfl rfl rfl (Nat.le_of_ble_eq_true rfl) rfl rfl rfl dX9_digest_228 ?_
      replace hf := bd hf
      obtain ⟨v61, h62, hf⟩ := hf
      refine j_callV C cl_X9_183 (c_X9_add h62) ⟨Nat.le_of_ble_eq_true rfl, Nat.le_of_ble_eq_true rfl⟩ ⟨Nat.zero_le _, Nat.zero_le _⟩ (q0 := 0) rfl rfl rfl rfl (Nat.le_of_ble_eq_true rfl) rfl rfl wM_fst dX9_digest_231 ?_
      refine j_aload_n C dX9_digest_234 rfl ?_
      refine j_aload_n C dX9_digest_235 rfl ?_
      refine j_iload_n C dX9_digest_236 rfl ?_
      refine j_iconst C ic_5 dX9_digest_237 ?_
      replace hf := bd hf
      obtain ⟨v63, h64, hf⟩ := hf
      refine j_callV C cl_X9_39 (c_X9_of h64) ⟨Nat.le_of_ble_eq_true rfl, Nat.le_of_ble_eq_true rfl⟩ ⟨Nat.zero_le _, Nat.zero_le _⟩ (q0 := 0) rfl rfl rfl rfl (Nat.le_of_ble_eq_true rfl) rfl rfl rfl dX9_digest_238 ?_
      replace hf := bd hf
      obtain ⟨v65, h66, hf⟩ := hf
      refine j_callV C cl_X9_183 (c_X9_add h66) ⟨Nat.le_of_ble_eq_true rfl, Nat.le_of_ble_eq_true rfl⟩ ⟨Nat.zero_le _, Nat.zero_le _⟩ (q0 := 0) rfl rfl rfl rfl (Nat.le_of_ble_eq_true rfl) rfl rfl wM_fst dX9_digest_241 ?_
      refine j_aload_n C dX9_digest_244 rfl ?_
      refine j_aload_n C dX9_digest_245 rfl ?_
      refine j_iload_n C dX9_digest_246 rfl ?_
      refine j_iconst C ic_0 dX9_digest_247 ?_
      replace hf := bd hf
      obtain ⟨v67, h68, hf⟩ := hf
      refine j_callV C cl_X9_98 (c_X9_splitKeyOf h68) ⟨Nat.le_of_ble_eq_true rfl, Nat.le_of_ble_eq_true rfl⟩ ⟨Nat.zero_le _, Nat.zero_le _⟩ (q0 := 0) rfl rfl rfl rfl (Nat.le_of_ble_eq_true rfl) rfl rfl rfl dX9_digest_248 ?_
      replace hf := bd hf
      obtain ⟨v69, h70, hf⟩ := hf
      refine j_callV C cl_X9_183 (c_X9_add h70) ⟨Nat.le_of_ble_eq_true rfl, Nat.le_of_ble_eq_true rfl⟩ ⟨Nat.zero_le _, Nat.zero_le _⟩ (q0 := 0) rfl rfl rfl rfl (Nat.le_of_ble_eq_true rfl) rfl rfl wM_fst dX9_digest_251 ?_
      refine j_aload_n C dX9_digest_254 rfl ?_
      refine j_aload_n C dX9_digest_255 rfl ?_
      refine j_iload_n C dX9_digest_256 rfl ?_
      refine j_iconst C ic_1 dX9_digest_257 ?_
      replace hf := bd hf
      obtain ⟨v71, h72, hf⟩ := hf
      refine j_callV C cl_X9_98 (c_X9_splitKeyOf h72) ⟨Nat.le_of_ble_eq_true rfl, Nat.le_of_ble_eq_true rfl⟩ ⟨Nat.zero_le _, Nat.zero_le _⟩ (q0 := 0) rfl rfl rfl rfl (Nat.le_of_ble_eq_true rfl) rfl rfl rfl dX9_digest_258 ?_
      replace hf := bd hf
      obtain ⟨v73, h74, hf⟩ := hf
      refine j_callV C cl_X9_183 (c_X9_add h74) ⟨Nat.le_of_ble_eq_true rfl, Nat.le_of_ble_eq_true rfl⟩ ⟨Nat.zero_le _, Nat.zero_le _⟩ (q0 := 0) rfl rfl rfl rfl (Nat.le_of_ble_eq_true rfl) rfl rfl wM_fst dX9_digest_261 ?_
      refine j_iinc C (xs' := [some (.ref (b 0)), some (.int (x1 + (1 : Int32))), none]) dX9_digest_264 rfl (ii_1 _) rfl rfl ?_
      refine j_goto C (tgt := 164) (by decide) dX9_digest_267 ?_
      exact hk164 _ _ _ _ _ _ hf
set_option maxRecDepth 100000 in
set_option maxHeartbeats 4000000 in
theorem w_X9_digest_98 {p : Program} {l : Launch} {e : Env} {s_ : State} {m : MethodId} {args : Array Value} {below : List Frame} {meth : Method} {c : Code} {D : va_G} {cI cS : ClassId} {A : Nat → Prop} {b : Nat → Nat} {rest : va_W} {P : Nat → Int32} (C : cx p s_ m args meth c cX9_digest 3 RX9 (some .long) D cI cS) (k85 : (Nat → Int32) → (Nat → Int32) → (Int32) → (Int64) → Int32 → Option (Int64 × (Int64))) (hk85 : ∀ (s : Nat → Int32) (E : Nat → Int32) (n : Int32) (hs : Int64) (x1 : Int32) (r : Int64 × (Int64)), k85 s E n hs x1 = some r → jG p l e (rmF 6 144) s_ m args below meth c 3 D A (MQ below (QW D A (wM b cI s P E n r.2 rest) (some (.long r.1))) args s_ 0 0 A) (wM b cI s P E n hs rest) [some (.ref (b 0)), some (.int x1), none] 85 []) : ∀ (n_ : Nat) (s : Nat → Int32) (E : Nat → Int32) (n : Int32) (hs : Int64) (x1 : Int32) (x2 : Int32) (r : Int64 × (Int64)), f_X9_digest_98 k85 n_ s E n hs x1 x2 = some r → jG p l e (rmF 6 144) s_ m args below meth c 3 D A (MQ below (QW D A (wM b cI s P E n r.2 rest) (some (.long r.1))) args s_ 0 0 A) (wM b cI s P E n hs rest) [some (.ref (b 0)), some (.int x1), some (.int x2)] 98 [] := by
  intro n_
  induction n_ with
  | zero =>
    intro s E n hs x1 x2 r hf
    rw [f_X9_digest_98] at hf
    cases hf
  | succ n_ hk98 =>
    intro s E n hs x1 x2 r hf
    rw [f_X9_digest_98] at hf
    refine j_iload_n C dX9_digest_98 rfl ?_
    refine j_iconst C ic_3 dX9_digest_99 ?_
    refine j_icmp_ge C (tgt := 126) (by decide) dX9_digest_100 (fun h75 => ?_) (fun h75 => ?_)
    · replace hf := it_t h75 hf
      refine j_aload_n C dX9_digest_126 rfl ?_
      refine j_aload_n C dX9_digest_127 rfl ?_
      refine j_iload_n C dX9_digest_128 rfl ?_
      replace hf := bd hf
      obtain ⟨v76, h77, hf⟩ := hf
      refine j_callV C cl_X9_63 (c_X9_replicasOf h77) ⟨Nat.le_of_ble_eq_true rfl, Nat.le_of_ble_eq_true rfl⟩ ⟨Nat.zero_le _, Nat.zero_le _⟩ (q0 := 0) rfl rfl rfl rfl (Nat.le_of_ble_eq_true rfl) rfl rfl rfl dX9_digest_129 ?_
      replace hf := bd hf
      obtain ⟨v78, h79, hf⟩ := hf
      refine j_callV C cl_X9_183 (c_X9_add h79) ⟨Nat.le_of_ble_eq_true rfl, Nat.le_of_ble_eq_true rfl⟩ ⟨Nat.zero_le _, Nat.zero_le _⟩ (q0 := 0) rfl rfl rfl rfl (Nat.le_of_ble_eq_true rfl) rfl rfl wM_fst dX9_digest_132 ?_
      refine j_aload_n C dX9_digest_135 rfl ?_
      refine j_aload_n C dX9_digest_136 rfl ?_
      refine j_iload_n C dX9_digest_137 rfl ?_
      refine j_iconst C ic_m1 dX9_digest_138 ?_
      replace hf := bd hf
      obtain ⟨v80, h81, hf⟩ := hf
      refine j_callV C cl_X9_57 (c_X9_leads h81) ⟨Nat.le_of_ble_eq_true rfl, Nat.le_of_ble_eq_true rfl⟩ ⟨Nat.zero_le _, Nat.zero_le _⟩ (q0 := 0) rfl rfl rfl rfl (Nat.le_of_ble_eq_true rfl) rfl rfl rfl dX9_digest_139 ?_
      replace hf := bd hf
      obtain ⟨v82, h83, hf⟩ := hf
      refine j_callV C cl_X9_183 (c_X9_add h83) ⟨Nat.le_of_ble_eq_true rfl, Nat.le_of_ble_eq_true rfl⟩ ⟨Nat.zero_le _, Nat.zero_le _⟩ (q0 := 0) rfl rfl rfl rfl (Nat.le_of_ble_eq_true rfl) rfl rfl wM_fst dX9_digest_142 ?_
      refine j_iinc C (xs' := [some (.ref (b 0)), some (.int (x1 + (1 : Int32))), some (.int x2)]) dX9_digest_145 rfl (ii_1 _) rfl rfl ?_
      refine j_goto C (tgt := 85) (by decide) dX9_digest_148 ?_
      refine j_weak [true, true, false] rfl ?_
      exact hk85 _ _ _ _ _ _ hf
    · replace hf := it_f h75 hf
      refine j_aload_n C dX9_digest_103 rfl ?_
      refine j_aload_n C dX9_digest_104 rfl ?_
      refine gf_X9_7 C dX9_digest_105 ?_
      refine j_bipush C bp_19 dX9_digest_108 ?_
      refine j_iconst C ic_3 dX9_digest_110 ?_
      refine j_iload_n C dX9_digest_111 rfl ?_
      refine j_imul C dX9_digest_112 ?_
      refine j_iadd C dX9_digest_113 ?_
      refine j_iload_n C dX9_digest_114 rfl ?_
      refine j_iadd C dX9_digest_115 ?_
      replace hf := ld_s hf
      obtain ⟨v84, h85, e_v84, hf⟩ := hf
      refine aLM_1 C h85 e_v84 dX9_digest_116 ?_
      replace hf := bd hf
      obtain ⟨v86, h87, hf⟩ := hf
      refine j_callV C cl_X9_183 (c_X9_add h87) ⟨Nat.le_of_ble_eq_true rfl, Nat.le_of_ble_eq_true rfl⟩ ⟨Nat.zero_le _, Nat.zero_le _⟩ (q0 := 0) rfl rfl rfl rfl (Nat.le_of_ble_eq_true rfl) rfl rfl wM_fst dX9_digest_117 ?_
      refine j_iinc C (xs' := [some (.ref (b 0)), some (.int x1), some (.int (x2 + (1 : Int32)))]) dX9_digest_120 rfl (ii_1 _) rfl rfl ?_
      refine j_goto C (tgt := 98) (by decide) dX9_digest_123 ?_
      exact hk98 _ _ _ _ _ _ _ hf
set_option maxRecDepth 100000 in
set_option maxHeartbeats 4000000 in
theorem w_X9_digest_85 {p : Program} {l : Launch} {e : Env} {s_ : State} {m : MethodId} {args : Array Value} {below : List Frame} {meth : Method} {c : Code} {D : va_G} {cI cS : ClassId} {A : Nat → Prop} {b : Nat → Nat} {rest : va_W} {P : Nat → Int32} (C : cx p s_ m args meth c cX9_digest 3 RX9 (some .long) D cI cS)  : ∀ (n_ : Nat) (s : Nat → Int32) (E : Nat → Int32) (n : Int32) (hs : Int64) (x1 : Int32) (r : Int64 × (Int64)), f_X9_digest_85  n_ s E n hs x1 = some r → jG p l e (rmF 6 144) s_ m args below meth c 3 D A (MQ below (QW D A (wM b cI s P E n r.2 rest) (some (.long r.1))) args s_ 0 0 A) (wM b cI s P E n hs rest) [some (.ref (b 0)), some (.int x1), none] 85 [] := by
  intro n_
  induction n_ with
  | zero =>
    intro s E n hs x1 r hf
    rw [f_X9_digest_85] at hf
    cases hf
  | succ n_ hk85 =>
    intro s E n hs x1 r hf
    rw [f_X9_digest_85] at hf
    refine j_iload_n C dX9_digest_85 rfl ?_
    refine j_aload_n C dX9_digest_86 rfl ?_
    refine gf_X9_7 C dX9_digest_87 ?_
    refine j_bipush C bp_15 dX9_digest_90 ?_
    replace hf := ld_s hf
    obtain ⟨v13, h14, e_v13, hf⟩ := hf
    refine aLM_1 C h14 e_v13 dX9_digest_92 ?_
    refine j_icmp_ge C (tgt := 151) (by decide) dX9_digest_93 (fun h15 => ?_) (fun h15 => ?_)
    · replace hf := it_t h15 hf
      refine j_aload_n C dX9_digest_151 rfl ?_
      refine j_aload_n C dX9_digest_152 rfl ?_
      refine gf_X9_7 C dX9_digest_153 ?_
      refine j_bipush C bp_17 dX9_digest_156 ?_
      replace hf := ld_s hf
      obtain ⟨v16, h17, e_v16, hf⟩ := hf
      refine aLM_1 C h17 e_v16 dX9_digest_158 ?_
      replace hf := bd hf
      obtain ⟨v18, h19, hf⟩ := hf
      refine j_callV C cl_X9_183 (c_X9_add h19) ⟨Nat.le_of_ble_eq_true rfl, Nat.le_of_ble_eq_true rfl⟩ ⟨Nat.zero_le _, Nat.zero_le _⟩ (q0 := 0) rfl rfl rfl rfl (Nat.le_of_ble_eq_true rfl) rfl rfl wM_fst dX9_digest_159 ?_
      refine j_iconst C ic_0 dX9_digest_162 ?_
      refine j_istore_n C (xs' := [some (.ref (b 0)), some (.int (0 : Int32)), none]) dX9_digest_163 rfl rfl ?_
      exact w_X9_digest_164 C  _ _ _ _ _ _ _ hf
    · replace hf := it_f h15 hf
      refine j_iconst C ic_0 dX9_digest_96 ?_
      refine j_istore_n C (xs' := [some (.ref (b 0)), some (.int x1), some (.int (0 : Int32))]) dX9_digest_97 rfl rfl ?_
      exact w_X9_digest_98 C _ hk85 _ _ _ _ _ _ _ _ hf
set_option maxRecDepth 100000 in
set_option maxHeartbeats 4000000 in
theorem w_X9_digest_51 {p : Program} {l : Launch} {e : Env} {s_ : State} {m : MethodId} {args : Array Value} {below : List Frame} {meth : Method} {c : Code} {D : va_G} {cI cS : ClassId} {A : Nat → Prop} {b : Nat → Nat} {rest : va_W} {P : Nat → Int32} (C : cx p s_ m args meth c cX9_digest 3 RX9 (some .long) D cI cS)  : ∀ (n_ : Nat) (s : Nat → Int32) (E : Nat → Int32) (n : Int32) (hs : Int64) (x1 : Int32) (r : Int64 × (Int64)), f_X9_digest_51  n_ s E n hs x1 = some r → jG p l e (rmF 6 144) s_ m args below meth c 3 D A (MQ below (QW D A (wM b cI s P E n r.2 rest) (some (.long r.1))) args s_ 0 0 A) (wM b cI s P E n hs rest) [some (.ref (b 0)), some (.int x1), none] 51 [] := by
  intro n_
  induction n_ with
  | zero =>
    intro s E n hs x1 r hf
    rw [f_X9_digest_51] at hf
    cases hf
  | succ n_ hk51 =>
    intro s E n hs x1 r hf
    rw [f_X9_digest_51] at hf
    refine j_iload_n C dX9_digest_51 rfl ?_
    refine j_iconst C ic_5 dX9_digest_52 ?_
    refine j_icmp_gt C (tgt := 72) (by decide) dX9_digest_53 (fun h8 => ?_) (fun h8 => ?_)
    · replace hf := it_t h8 hf
      refine j_aload_n C dX9_digest_72 rfl ?_
      refine j_aload_n C dX9_digest_73 rfl ?_
      refine gf_X9_7 C dX9_digest_74 ?_
      refine j_bipush C bp_15 dX9_digest_77 ?_
      replace hf := ld_s hf
      obtain ⟨v9, h10, e_v9, hf⟩ := hf
      refine aLM_1 C h10 e_v9 dX9_digest_79 ?_
      replace hf := bd hf
      obtain ⟨v11, h12, hf⟩ := hf
      refine j_callV C cl_X9_183 (c_X9_add h12) ⟨Nat.le_of_ble_eq_true rfl, Nat.le_of_ble_eq_true rfl⟩ ⟨Nat.zero_le _, Nat.zero_le _⟩ (q0 := 0) rfl rfl rfl rfl (Nat.le_of_ble_eq_true rfl) rfl rfl wM_fst dX9_digest_80 ?_
      refine j_iconst C ic_0 dX9_digest_83 ?_
      refine j_istore_n C (xs' := [some (.ref (b 0)), some (.int (0 : Int32)), none]) dX9_digest_84 rfl rfl ?_
      exact w_X9_digest_85 C  _ _ _ _ _ _ _ hf
    · replace hf := it_f h8 hf
      refine j_aload_n C dX9_digest_56 rfl ?_
      refine j_aload_n C dX9_digest_57 rfl ?_
      refine gf_X9_7 C dX9_digest_58 ?_
      refine j_iload_n C dX9_digest_61 rfl ?_
      replace hf := ld_s hf
      obtain ⟨v88, h89, e_v88, hf⟩ := hf
      refine aLM_1 C h89 e_v88 dX9_digest_62 ?_
      replace hf := bd hf
      obtain ⟨v90, h91, hf⟩ := hf
      refine j_callV C cl_X9_183 (c_X9_add h91) ⟨Nat.le_of_ble_eq_true rfl, Nat.le_of_ble_eq_true rfl⟩ ⟨Nat.zero_le _, Nat.zero_le _⟩ (q0 := 0) rfl rfl rfl rfl (Nat.le_of_ble_eq_true rfl) rfl rfl wM_fst dX9_digest_63 ?_
      refine j_iinc C (xs' := [some (.ref (b 0)), some (.int (x1 + (1 : Int32))), none]) dX9_digest_66 rfl (ii_1 _) rfl rfl ?_
      refine j_goto C (tgt := 51) (by decide) dX9_digest_69 ?_
      exact hk51 _ _ _ _ _ _ hf
set_option maxRecDepth 100000 in
set_option maxHeartbeats 4000000 in
theorem w_X9_digest_9 {p : Program} {l : Launch} {e : Env} {s_ : State} {m : MethodId} {args : Array Value} {below : List Frame} {meth : Method} {c : Code} {D : va_G} {cI cS : ClassId} {A : Nat → Prop} {b : Nat → Nat} {rest : va_W} {P : Nat → Int32} (C : cx p s_ m args meth c cX9_digest 3 RX9 (some .long) D cI cS)  : ∀ (n_ : Nat) (s : Nat → Int32) (E : Nat → Int32) (n : Int32) (hs : Int64) (x1 : Int32) (r : Int64 × (Int64)), f_X9_digest_9  n_ s E n hs x1 = some r → jG p l e (rmF 6 144) s_ m args below meth c 3 D A (MQ below (QW D A (wM b cI s P E n r.2 rest) (some (.long r.1))) args s_ 0 0 A) (wM b cI s P E n hs rest) [some (.ref (b 0)), some (.int x1), none] 9 [] := by
  intro n_
  induction n_ with
  | zero =>
    intro s E n hs x1 r hf
    rw [f_X9_digest_9] at hf
    cases hf
  | succ n_ hk9 =>
    intro s E n hs x1 r hf
    rw [f_X9_digest_9] at hf
    refine j_iload_n C dX9_digest_9 rfl ?_
    refine j_iconst C ic_3 dX9_digest_10 ?_
    refine j_icmp_ge C (tgt := 30) (by decide) dX9_digest_11 (fun h1 => ?_) (fun h1 => ?_)
    · replace hf := it_t h1 hf
      refine j_aload_n C dX9_digest_30 rfl ?_
      refine j_aload_n C dX9_digest_31 rfl ?_
      refine gf_X9_23 C dX9_digest_32 ?_
      replace hf := bd hf
      obtain ⟨v2, h3, hf⟩ := hf
      refine j_callV C cl_X9_183 (c_X9_add h3) ⟨Nat.le_of_ble_eq_true rfl, Nat.le_of_ble_eq_true rfl⟩ ⟨Nat.zero_le _, Nat.zero_le _⟩ (q0 := 0) rfl rfl rfl rfl (Nat.le_of_ble_eq_true rfl) rfl rfl wM_fst dX9_digest_35 ?_
      refine j_aload_n C dX9_digest_38 rfl ?_
      refine j_aload_n C dX9_digest_39 rfl ?_
      refine gf_X9_7 C dX9_digest_40 ?_
      refine j_bipush C bp_6 dX9_digest_43 ?_
      replace hf := ld_s hf
      obtain ⟨v4, h5, e_v4, hf⟩ := hf
      refine aLM_1 C h5 e_v4 dX9_digest_45 ?_
      replace hf := bd hf
      obtain ⟨v6, h7, hf⟩ := hf
      refine j_callV C cl_X9_183 (c_X9_add h7) ⟨Nat.le_of_ble_eq_true rfl, Nat.le_of_ble_eq_true rfl⟩ ⟨Nat.zero_le _, Nat.zero_le _⟩ (q0 := 0) rfl rfl rfl rfl (Nat.le_of_ble_eq_true rfl) rfl rfl wM_fst dX9_digest_46 ?_
      refine j_iconst C ic_0 dX9_digest_49 ?_
      refine j_istore_n C (xs' := [some (.ref (b 0)), some (.int (0 : Int32)), none]) dX9_digest_50 rfl rfl ?_
      exact w_X9_digest_51 C  _ _ _ _ _ _ _ hf
    · replace hf := it_f h1 hf
      refine j_aload_n C dX9_digest_14 rfl ?_
      refine j_aload_n C dX9_digest_15 rfl ?_
      refine gf_X9_16 C dX9_digest_16 ?_
      refine j_iload_n C dX9_digest_19 rfl ?_
      replace hf := ld_s hf
      obtain ⟨v92, h93, e_v92, hf⟩ := hf
      refine aLM_3 C h93 e_v92 dX9_digest_20 ?_
      replace hf := bd hf
      obtain ⟨v94, h95, hf⟩ := hf
      refine j_callV C cl_X9_183 (c_X9_add h95) ⟨Nat.le_of_ble_eq_true rfl, Nat.le_of_ble_eq_true rfl⟩ ⟨Nat.zero_le _, Nat.zero_le _⟩ (q0 := 0) rfl rfl rfl rfl (Nat.le_of_ble_eq_true rfl) rfl rfl wM_fst dX9_digest_21 ?_
      refine j_iinc C (xs' := [some (.ref (b 0)), some (.int (x1 + (1 : Int32))), none]) dX9_digest_24 rfl (ii_1 _) rfl rfl ?_
      refine j_goto C (tgt := 9) (by decide) dX9_digest_27 ?_
      exact hk9 _ _ _ _ _ _ hf
set_option maxRecDepth 100000 in
set_option maxHeartbeats 4000000 in
theorem c_X9_digest {l : Launch} {D : va_G} {cI cS : ClassId} {A : Nat → Prop} {b : Nat → Nat} {rest : va_W} {P : Nat → Int32} {s : Nat → Int32} {E : Nat → Int32} {n : Int32} {hs : Int64}  {r : Int64 × (Int64)} (hf : f_X9_digest s E n hs = some r) : CT l yX9_digest cX9_digest 3 (some .long) (rmF 6 144) D cI cS A [.ref (b 0)] (wM b cI s P E n hs rest) (wM b cI s P E n r.2 rest) (some (.long r.1)) := by
  refine CT_of (own := RX9) (xs := [some (.ref (b 0)), none, none]) (by decide) rfl (Nat.le_of_ble_eq_true rfl) rfl ?_
  intro p e s_ m below meth c C
  unfold f_X9_digest at hf
  refine j_aload_n C dX9_digest_0 rfl ?_
  refine j_ldc2 C tw_1070 dX9_digest_1 ?_
  refine pf_X9_177 C dX9_digest_4 ?_
  refine j_iconst C ic_0 dX9_digest_7 ?_
  refine j_istore_n C (xs' := [some (.ref (b 0)), some (.int (0 : Int32)), none]) dX9_digest_8 rfl rfl ?_
  exact w_X9_digest_9 C  _ _ _ _ _ _ _ hf

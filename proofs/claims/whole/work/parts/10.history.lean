theorem j_perm {p : Program} {l : Launch} {e : Env} {R : Room} {s : State} {m : MethodId} {args : Array Value} {below : List Frame} {meth : Method} {c : Code} {nL : Nat} {D : va_G} {A : Nat → Prop} {Q : State → Prop} {cs sl : Nat} {ws ws' : va_W} {xs : List (Option Value)} {pc : Nat} {st : List Value} (hp : ws.Perm ws') (k : jN p l e R s m args below meth c nL D A Q cs sl ws' xs pc st) : jN p l e R s m args below meth c nL D A Q cs sl ws xs pc st :=
  fun ls H locs hl hP hD hS => k ls H locs hl (va_P.perm hp hP) (va_D.perm hp hD) hS
theorem j_arr {p : Program} {l : Launch} {e : Env} {R : Room} {s : State} {m : MethodId} {args : Array Value} {below : List Frame} {meth : Method} {c : Code} {nL : Nat} {D : va_G} {A : Nat → Prop} {Q : State → Prop} {cs sl : Nat} {ws ws' : va_W} {xs : List (Option Value)} {pc : Nat} {st : List Value} {q0 a n : Nat} {cA : ClassId} {f g : Nat → Int32} (he : ws[q0]? = some (a, .inl (cA, n, .inl f))) (h : ∀ i, i < n → f i = g i) (hws : ws.set q0 (a, .inl (cA, n, .inl g)) = ws') (hdd : ws.map Prod.fst = ws'.map Prod.fst) (k : jN p l e R s m args below meth c nL D A Q cs sl ws' xs pc st) : jN p l e R s m args below meth c nL D A Q cs sl ws xs pc st :=
  fun ls H locs hl hP hD hS => k ls H locs hl (by rw [← hws]; exact va_P.arr hP he h) (va_D.cg hdd hD) hS
theorem cpy_full {f g : Nat → Int32} {n : Nat} {v : Int32} (hv : v.toNatClampNeg = n) {i : Nat} (hi : i < n) : va_cpy f g (0 : Int32).toNatClampNeg (0 : Int32).toNatClampNeg v.toNatClampNeg i = f i := by
  rw [hv]
  show va_cpy f g 0 0 n i = f i
  rw [pk_cpy_in (Nat.zero_le _) (by omega)]
  simp
set_option maxRecDepth 100000 in
set_option maxHeartbeats 4000000 in
theorem c_copyRow_6 {l : Launch} {D : va_G} {cI cS : ClassId} {A : Nat → Prop} {a b : Nat → Nat} {σ τ : Nat → Nat → Int32} {rest : va_W} : CT l yX8_copyRow cX8_copyRow 2 none (rmF 1 64) D cI cS A [.ref (b 6), .ref (a 6)] (wC a cI σ (wC b cI τ rest)) (wC a cI (cr σ 6 (τ 6)) (wC b cI τ rest)) none := by
  refine CT_of (own := RX8) (xs := [some (.ref (b 6)), some (.ref (a 6))]) (by decide) rfl (Nat.le_of_ble_eq_true rfl) rfl ?_
  intro p e s_ m below meth c C
  refine j_aload_n C dX8_copyRow_0 rfl ?_
  refine j_iconst C ic_0 dX8_copyRow_1 ?_
  refine j_aload_n C dX8_copyRow_2 rfl ?_
  refine j_iconst C ic_0 dX8_copyRow_3 ?_
  refine j_aload_n C dX8_copyRow_4 rfl ?_
  refine j_alen C (q0 := 24) (v := (9 : Int32)) rfl rfl dX8_copyRow_5 ?_
  refine j_aload_n C dX8_copyRow_6 rfl ?_
  refine j_alen C (q0 := 6) (v := (9 : Int32)) rfl rfl dX8_copyRow_7 ?_
  refine j_min C tw_292 tw_293 tw_11 tw_294 (Nat.le_of_ble_eq_true rfl) (Nat.le_of_ble_eq_true rfl) ⟨Nat.zero_le _, Nat.zero_le _⟩ dX8_copyRow_8 ?_
  refine j_copy C (q0 := 24) (q1 := 6) (ws' := (wC a cI (cr σ 6 (va_cpy (τ 6) (σ 6) (0 : Int32).toNatClampNeg (0 : Int32).toNatClampNeg (if (9 : Int32) < (9 : Int32) then (9 : Int32) else (9 : Int32)).toNatClampNeg)) (wC b cI τ rest))) tw_295 tw_297 tw_296 tw_12 rfl rfl ⟨by decide, by decide, by decide, by decide, by decide⟩ (Nat.le_of_ble_eq_true rfl) (Nat.le_of_ble_eq_true rfl) rfl dX8_copyRow_11 ?_
  refine j_arr (q0 := 6) (g := τ 6) (ws' := (wC a cI (cr σ 6 (τ 6)) (wC b cI τ rest))) rfl (fun i hi => cpy_full (by decide) hi) rfl wC_fst ?_
  exact j_vret C dX8_copyRow_14
set_option maxRecDepth 100000 in
set_option maxHeartbeats 4000000 in
theorem c_copyRow_7 {l : Launch} {D : va_G} {cI cS : ClassId} {A : Nat → Prop} {a b : Nat → Nat} {σ τ : Nat → Nat → Int32} {rest : va_W} : CT l yX8_copyRow cX8_copyRow 2 none (rmF 1 64) D cI cS A [.ref (b 7), .ref (a 7)] (wC a cI σ (wC b cI τ rest)) (wC a cI (cr σ 7 (τ 7)) (wC b cI τ rest)) none := by
  refine CT_of (own := RX8) (xs := [some (.ref (b 7)), some (.ref (a 7))]) (by decide) rfl (Nat.le_of_ble_eq_true rfl) rfl ?_
  intro p e s_ m below meth c C
  refine j_aload_n C dX8_copyRow_0 rfl ?_
  refine j_iconst C ic_0 dX8_copyRow_1 ?_
  refine j_aload_n C dX8_copyRow_2 rfl ?_
  refine j_iconst C ic_0 dX8_copyRow_3 ?_
  refine j_aload_n C dX8_copyRow_4 rfl ?_
  refine j_alen C (q0 := 25) (v := (8 : Int32)) rfl rfl dX8_copyRow_5 ?_
  refine j_aload_n C dX8_copyRow_6 rfl ?_
  refine j_alen C (q0 := 7) (v := (8 : Int32)) rfl rfl dX8_copyRow_7 ?_
  refine j_min C tw_292 tw_293 tw_11 tw_294 (Nat.le_of_ble_eq_true rfl) (Nat.le_of_ble_eq_true rfl) ⟨Nat.zero_le _, Nat.zero_le _⟩ dX8_copyRow_8 ?_
  refine j_copy C (q0 := 25) (q1 := 7) (ws' := (wC a cI (cr σ 7 (va_cpy (τ 7) (σ 7) (0 : Int32).toNatClampNeg (0 : Int32).toNatClampNeg (if (8 : Int32) < (8 : Int32) then (8 : Int32) else (8 : Int32)).toNatClampNeg)) (wC b cI τ rest))) tw_295 tw_297 tw_296 tw_12 rfl rfl ⟨by decide, by decide, by decide, by decide, by decide⟩ (Nat.le_of_ble_eq_true rfl) (Nat.le_of_ble_eq_true rfl) rfl dX8_copyRow_11 ?_
  refine j_arr (q0 := 7) (g := τ 7) (ws' := (wC a cI (cr σ 7 (τ 7)) (wC b cI τ rest))) rfl (fun i hi => cpy_full (by decide) hi) rfl wC_fst ?_
  exact j_vret C dX8_copyRow_14
set_option maxRecDepth 100000 in
set_option maxHeartbeats 4000000 in
theorem c_copyRow_8 {l : Launch} {D : va_G} {cI cS : ClassId} {A : Nat → Prop} {a b : Nat → Nat} {σ τ : Nat → Nat → Int32} {rest : va_W} : CT l yX8_copyRow cX8_copyRow 2 none (rmF 1 64) D cI cS A [.ref (b 8), .ref (a 8)] (wC a cI σ (wC b cI τ rest)) (wC a cI (cr σ 8 (τ 8)) (wC b cI τ rest)) none := by
  refine CT_of (own := RX8) (xs := [some (.ref (b 8)), some (.ref (a 8))]) (by decide) rfl (Nat.le_of_ble_eq_true rfl) rfl ?_
  intro p e s_ m below meth c C
  refine j_aload_n C dX8_copyRow_0 rfl ?_
  refine j_iconst C ic_0 dX8_copyRow_1 ?_
  refine j_aload_n C dX8_copyRow_2 rfl ?_
  refine j_iconst C ic_0 dX8_copyRow_3 ?_
  refine j_aload_n C dX8_copyRow_4 rfl ?_
  refine j_alen C (q0 := 26) (v := (8 : Int32)) rfl rfl dX8_copyRow_5 ?_
  refine j_aload_n C dX8_copyRow_6 rfl ?_
  refine j_alen C (q0 := 8) (v := (8 : Int32)) rfl rfl dX8_copyRow_7 ?_
  refine j_min C tw_292 tw_293 tw_11 tw_294 (Nat.le_of_ble_eq_true rfl) (Nat.le_of_ble_eq_true rfl) ⟨Nat.zero_le _, Nat.zero_le _⟩ dX8_copyRow_8 ?_
  refine j_copy C (q0 := 26) (q1 := 8) (ws' := (wC a cI (cr σ 8 (va_cpy (τ 8) (σ 8) (0 : Int32).toNatClampNeg (0 : Int32).toNatClampNeg (if (8 : Int32) < (8 : Int32) then (8 : Int32) else (8 : Int32)).toNatClampNeg)) (wC b cI τ rest))) tw_295 tw_297 tw_296 tw_12 rfl rfl ⟨by decide, by decide, by decide, by decide, by decide⟩ (Nat.le_of_ble_eq_true rfl) (Nat.le_of_ble_eq_true rfl) rfl dX8_copyRow_11 ?_
  refine j_arr (q0 := 8) (g := τ 8) (ws' := (wC a cI (cr σ 8 (τ 8)) (wC b cI τ rest))) rfl (fun i hi => cpy_full (by decide) hi) rfl wC_fst ?_
  exact j_vret C dX8_copyRow_14
set_option maxRecDepth 100000 in
set_option maxHeartbeats 4000000 in
theorem c_copyRow_9 {l : Launch} {D : va_G} {cI cS : ClassId} {A : Nat → Prop} {a b : Nat → Nat} {σ τ : Nat → Nat → Int32} {rest : va_W} : CT l yX8_copyRow cX8_copyRow 2 none (rmF 1 64) D cI cS A [.ref (b 9), .ref (a 9)] (wC a cI σ (wC b cI τ rest)) (wC a cI (cr σ 9 (τ 9)) (wC b cI τ rest)) none := by
  refine CT_of (own := RX8) (xs := [some (.ref (b 9)), some (.ref (a 9))]) (by decide) rfl (Nat.le_of_ble_eq_true rfl) rfl ?_
  intro p e s_ m below meth c C
  refine j_aload_n C dX8_copyRow_0 rfl ?_
  refine j_iconst C ic_0 dX8_copyRow_1 ?_
  refine j_aload_n C dX8_copyRow_2 rfl ?_
  refine j_iconst C ic_0 dX8_copyRow_3 ?_
  refine j_aload_n C dX8_copyRow_4 rfl ?_
  refine j_alen C (q0 := 27) (v := (16 : Int32)) rfl rfl dX8_copyRow_5 ?_
  refine j_aload_n C dX8_copyRow_6 rfl ?_
  refine j_alen C (q0 := 9) (v := (16 : Int32)) rfl rfl dX8_copyRow_7 ?_
  refine j_min C tw_292 tw_293 tw_11 tw_294 (Nat.le_of_ble_eq_true rfl) (Nat.le_of_ble_eq_true rfl) ⟨Nat.zero_le _, Nat.zero_le _⟩ dX8_copyRow_8 ?_
  refine j_copy C (q0 := 27) (q1 := 9) (ws' := (wC a cI (cr σ 9 (va_cpy (τ 9) (σ 9) (0 : Int32).toNatClampNeg (0 : Int32).toNatClampNeg (if (16 : Int32) < (16 : Int32) then (16 : Int32) else (16 : Int32)).toNatClampNeg)) (wC b cI τ rest))) tw_295 tw_297 tw_296 tw_12 rfl rfl ⟨by decide, by decide, by decide, by decide, by decide⟩ (Nat.le_of_ble_eq_true rfl) (Nat.le_of_ble_eq_true rfl) rfl dX8_copyRow_11 ?_
  refine j_arr (q0 := 9) (g := τ 9) (ws' := (wC a cI (cr σ 9 (τ 9)) (wC b cI τ rest))) rfl (fun i hi => cpy_full (by decide) hi) rfl wC_fst ?_
  exact j_vret C dX8_copyRow_14
set_option maxRecDepth 100000 in
set_option maxHeartbeats 4000000 in
theorem c_copyRow_10 {l : Launch} {D : va_G} {cI cS : ClassId} {A : Nat → Prop} {a b : Nat → Nat} {σ τ : Nat → Nat → Int32} {rest : va_W} : CT l yX8_copyRow cX8_copyRow 2 none (rmF 1 64) D cI cS A [.ref (b 10), .ref (a 10)] (wC a cI σ (wC b cI τ rest)) (wC a cI (cr σ 10 (τ 10)) (wC b cI τ rest)) none := by
  refine CT_of (own := RX8) (xs := [some (.ref (b 10)), some (.ref (a 10))]) (by decide) rfl (Nat.le_of_ble_eq_true rfl) rfl ?_
  intro p e s_ m below meth c C
  refine j_aload_n C dX8_copyRow_0 rfl ?_
  refine j_iconst C ic_0 dX8_copyRow_1 ?_
  refine j_aload_n C dX8_copyRow_2 rfl ?_
  refine j_iconst C ic_0 dX8_copyRow_3 ?_
  refine j_aload_n C dX8_copyRow_4 rfl ?_
  refine j_alen C (q0 := 28) (v := (16 : Int32)) rfl rfl dX8_copyRow_5 ?_
  refine j_aload_n C dX8_copyRow_6 rfl ?_
  refine j_alen C (q0 := 10) (v := (16 : Int32)) rfl rfl dX8_copyRow_7 ?_
  refine j_min C tw_292 tw_293 tw_11 tw_294 (Nat.le_of_ble_eq_true rfl) (Nat.le_of_ble_eq_true rfl) ⟨Nat.zero_le _, Nat.zero_le _⟩ dX8_copyRow_8 ?_
  refine j_copy C (q0 := 28) (q1 := 10) (ws' := (wC a cI (cr σ 10 (va_cpy (τ 10) (σ 10) (0 : Int32).toNatClampNeg (0 : Int32).toNatClampNeg (if (16 : Int32) < (16 : Int32) then (16 : Int32) else (16 : Int32)).toNatClampNeg)) (wC b cI τ rest))) tw_295 tw_297 tw_296 tw_12 rfl rfl ⟨by decide, by decide, by decide, by decide, by decide⟩ (Nat.le_of_ble_eq_true rfl) (Nat.le_of_ble_eq_true rfl) rfl dX8_copyRow_11 ?_
  refine j_arr (q0 := 10) (g := τ 10) (ws' := (wC a cI (cr σ 10 (τ 10)) (wC b cI τ rest))) rfl (fun i hi => cpy_full (by decide) hi) rfl wC_fst ?_
  exact j_vret C dX8_copyRow_14
set_option maxRecDepth 100000 in
set_option maxHeartbeats 4000000 in
theorem c_copyRow_11 {l : Launch} {D : va_G} {cI cS : ClassId} {A : Nat → Prop} {a b : Nat → Nat} {σ τ : Nat → Nat → Int32} {rest : va_W} : CT l yX8_copyRow cX8_copyRow 2 none (rmF 1 64) D cI cS A [.ref (b 11), .ref (a 11)] (wC a cI σ (wC b cI τ rest)) (wC a cI (cr σ 11 (τ 11)) (wC b cI τ rest)) none := by
  refine CT_of (own := RX8) (xs := [some (.ref (b 11)), some (.ref (a 11))]) (by decide) rfl (Nat.le_of_ble_eq_true rfl) rfl ?_
  intro p e s_ m below meth c C
  refine j_aload_n C dX8_copyRow_0 rfl ?_
  refine j_iconst C ic_0 dX8_copyRow_1 ?_
  refine j_aload_n C dX8_copyRow_2 rfl ?_
  refine j_iconst C ic_0 dX8_copyRow_3 ?_
  refine j_aload_n C dX8_copyRow_4 rfl ?_
  refine j_alen C (q0 := 29) (v := (16 : Int32)) rfl rfl dX8_copyRow_5 ?_
  refine j_aload_n C dX8_copyRow_6 rfl ?_
  refine j_alen C (q0 := 11) (v := (16 : Int32)) rfl rfl dX8_copyRow_7 ?_
  refine j_min C tw_292 tw_293 tw_11 tw_294 (Nat.le_of_ble_eq_true rfl) (Nat.le_of_ble_eq_true rfl) ⟨Nat.zero_le _, Nat.zero_le _⟩ dX8_copyRow_8 ?_
  refine j_copy C (q0 := 29) (q1 := 11) (ws' := (wC a cI (cr σ 11 (va_cpy (τ 11) (σ 11) (0 : Int32).toNatClampNeg (0 : Int32).toNatClampNeg (if (16 : Int32) < (16 : Int32) then (16 : Int32) else (16 : Int32)).toNatClampNeg)) (wC b cI τ rest))) tw_295 tw_297 tw_296 tw_12 rfl rfl ⟨by decide, by decide, by decide, by decide, by decide⟩ (Nat.le_of_ble_eq_true rfl) (Nat.le_of_ble_eq_true rfl) rfl dX8_copyRow_11 ?_
  refine j_arr (q0 := 11) (g := τ 11) (ws' := (wC a cI (cr σ 11 (τ 11)) (wC b cI τ rest))) rfl (fun i hi => cpy_full (by decide) hi) rfl wC_fst ?_
  exact j_vret C dX8_copyRow_14
set_option maxRecDepth 100000 in
set_option maxHeartbeats 4000000 in
theorem c_copyRow_12 {l : Launch} {D : va_G} {cI cS : ClassId} {A : Nat → Prop} {a b : Nat → Nat} {σ τ : Nat → Nat → Int32} {rest : va_W} : CT l yX8_copyRow cX8_copyRow 2 none (rmF 1 64) D cI cS A [.ref (b 12), .ref (a 12)] (wC a cI σ (wC b cI τ rest)) (wC a cI (cr σ 12 (τ 12)) (wC b cI τ rest)) none := by
  refine CT_of (own := RX8) (xs := [some (.ref (b 12)), some (.ref (a 12))]) (by decide) rfl (Nat.le_of_ble_eq_true rfl) rfl ?_
  intro p e s_ m below meth c C
  refine j_aload_n C dX8_copyRow_0 rfl ?_
  refine j_iconst C ic_0 dX8_copyRow_1 ?_
  refine j_aload_n C dX8_copyRow_2 rfl ?_
  refine j_iconst C ic_0 dX8_copyRow_3 ?_
  refine j_aload_n C dX8_copyRow_4 rfl ?_
  refine j_alen C (q0 := 30) (v := (16 : Int32)) rfl rfl dX8_copyRow_5 ?_
  refine j_aload_n C dX8_copyRow_6 rfl ?_
  refine j_alen C (q0 := 12) (v := (16 : Int32)) rfl rfl dX8_copyRow_7 ?_
  refine j_min C tw_292 tw_293 tw_11 tw_294 (Nat.le_of_ble_eq_true rfl) (Nat.le_of_ble_eq_true rfl) ⟨Nat.zero_le _, Nat.zero_le _⟩ dX8_copyRow_8 ?_
  refine j_copy C (q0 := 30) (q1 := 12) (ws' := (wC a cI (cr σ 12 (va_cpy (τ 12) (σ 12) (0 : Int32).toNatClampNeg (0 : Int32).toNatClampNeg (if (16 : Int32) < (16 : Int32) then (16 : Int32) else (16 : Int32)).toNatClampNeg)) (wC b cI τ rest))) tw_295 tw_297 tw_296 tw_12 rfl rfl ⟨by decide, by decide, by decide, by decide, by decide⟩ (Nat.le_of_ble_eq_true rfl) (Nat.le_of_ble_eq_true rfl) rfl dX8_copyRow_11 ?_
  refine j_arr (q0 := 12) (g := τ 12) (ws' := (wC a cI (cr σ 12 (τ 12)) (wC b cI τ rest))) rfl (fun i hi => cpy_full (by decide) hi) rfl wC_fst ?_
  exact j_vret C dX8_copyRow_14
set_option maxRecDepth 100000 in
set_option maxHeartbeats 4000000 in
theorem c_copyRow_13 {l : Launch} {D : va_G} {cI cS : ClassId} {A : Nat → Prop} {a b : Nat → Nat} {σ τ : Nat → Nat → Int32} {rest : va_W} : CT l yX8_copyRow cX8_copyRow 2 none (rmF 1 64) D cI cS A [.ref (b 13), .ref (a 13)] (wC a cI σ (wC b cI τ rest)) (wC a cI (cr σ 13 (τ 13)) (wC b cI τ rest)) none := by
  refine CT_of (own := RX8) (xs := [some (.ref (b 13)), some (.ref (a 13))]) (by decide) rfl (Nat.le_of_ble_eq_true rfl) rfl ?_
  intro p e s_ m below meth c C
  refine j_aload_n C dX8_copyRow_0 rfl ?_
  refine j_iconst C ic_0 dX8_copyRow_1 ?_
  refine j_aload_n C dX8_copyRow_2 rfl ?_
  refine j_iconst C ic_0 dX8_copyRow_3 ?_
  refine j_aload_n C dX8_copyRow_4 rfl ?_
  refine j_alen C (q0 := 31) (v := (16 : Int32)) rfl rfl dX8_copyRow_5 ?_
  refine j_aload_n C dX8_copyRow_6 rfl ?_
  refine j_alen C (q0 := 13) (v := (16 : Int32)) rfl rfl dX8_copyRow_7 ?_
  refine j_min C tw_292 tw_293 tw_11 tw_294 (Nat.le_of_ble_eq_true rfl) (Nat.le_of_ble_eq_true rfl) ⟨Nat.zero_le _, Nat.zero_le _⟩ dX8_copyRow_8 ?_
  refine j_copy C (q0 := 31) (q1 := 13) (ws' := (wC a cI (cr σ 13 (va_cpy (τ 13) (σ 13) (0 : Int32).toNatClampNeg (0 : Int32).toNatClampNeg (if (16 : Int32) < (16 : Int32) then (16 : Int32) else (16 : Int32)).toNatClampNeg)) (wC b cI τ rest))) tw_295 tw_297 tw_296 tw_12 rfl rfl ⟨by decide, by decide, by decide, by decide, by decide⟩ (Nat.le_of_ble_eq_true rfl) (Nat.le_of_ble_eq_true rfl) rfl dX8_copyRow_11 ?_
  refine j_arr (q0 := 13) (g := τ 13) (ws' := (wC a cI (cr σ 13 (τ 13)) (wC b cI τ rest))) rfl (fun i hi => cpy_full (by decide) hi) rfl wC_fst ?_
  exact j_vret C dX8_copyRow_14
set_option maxRecDepth 100000 in
set_option maxHeartbeats 4000000 in
theorem c_copyRow_14 {l : Launch} {D : va_G} {cI cS : ClassId} {A : Nat → Prop} {a b : Nat → Nat} {σ τ : Nat → Nat → Int32} {rest : va_W} : CT l yX8_copyRow cX8_copyRow 2 none (rmF 1 64) D cI cS A [.ref (b 14), .ref (a 14)] (wC a cI σ (wC b cI τ rest)) (wC a cI (cr σ 14 (τ 14)) (wC b cI τ rest)) none := by
  refine CT_of (own := RX8) (xs := [some (.ref (b 14)), some (.ref (a 14))]) (by decide) rfl (Nat.le_of_ble_eq_true rfl) rfl ?_
  intro p e s_ m below meth c C
  refine j_aload_n C dX8_copyRow_0 rfl ?_
  refine j_iconst C ic_0 dX8_copyRow_1 ?_
  refine j_aload_n C dX8_copyRow_2 rfl ?_
  refine j_iconst C ic_0 dX8_copyRow_3 ?_
  refine j_aload_n C dX8_copyRow_4 rfl ?_
  refine j_alen C (q0 := 32) (v := (16 : Int32)) rfl rfl dX8_copyRow_5 ?_
  refine j_aload_n C dX8_copyRow_6 rfl ?_
  refine j_alen C (q0 := 14) (v := (16 : Int32)) rfl rfl dX8_copyRow_7 ?_
  refine j_min C tw_292 tw_293 tw_11 tw_294 (Nat.le_of_ble_eq_true rfl) (Nat.le_of_ble_eq_true rfl) ⟨Nat.zero_le _, Nat.zero_le _⟩ dX8_copyRow_8 ?_
  refine j_copy C (q0 := 32) (q1 := 14) (ws' := (wC a cI (cr σ 14 (va_cpy (τ 14) (σ 14) (0 : Int32).toNatClampNeg (0 : Int32).toNatClampNeg (if (16 : Int32) < (16 : Int32) then (16 : Int32) else (16 : Int32)).toNatClampNeg)) (wC b cI τ rest))) tw_295 tw_297 tw_296 tw_12 rfl rfl ⟨by decide, by decide, by decide, by decide, by decide⟩ (Nat.le_of_ble_eq_true rfl) (Nat.le_of_ble_eq_true rfl) rfl dX8_copyRow_11 ?_
  refine j_arr (q0 := 14) (g := τ 14) (ws' := (wC a cI (cr σ 14 (τ 14)) (wC b cI τ rest))) rfl (fun i hi => cpy_full (by decide) hi) rfl wC_fst ?_
  exact j_vret C dX8_copyRow_14
set_option maxRecDepth 100000 in
set_option maxHeartbeats 4000000 in
theorem c_copyRow_15 {l : Launch} {D : va_G} {cI cS : ClassId} {A : Nat → Prop} {a b : Nat → Nat} {σ τ : Nat → Nat → Int32} {rest : va_W} : CT l yX8_copyRow cX8_copyRow 2 none (rmF 1 64) D cI cS A [.ref (b 15), .ref (a 15)] (wC a cI σ (wC b cI τ rest)) (wC a cI (cr σ 15 (τ 15)) (wC b cI τ rest)) none := by
  refine CT_of (own := RX8) (xs := [some (.ref (b 15)), some (.ref (a 15))]) (by decide) rfl (Nat.le_of_ble_eq_true rfl) rfl ?_
  intro p e s_ m below meth c C
  refine j_aload_n C dX8_copyRow_0 rfl ?_
  refine j_iconst C ic_0 dX8_copyRow_1 ?_
  refine j_aload_n C dX8_copyRow_2 rfl ?_
  refine j_iconst C ic_0 dX8_copyRow_3 ?_
  refine j_aload_n C dX8_copyRow_4 rfl ?_
  refine j_alen C (q0 := 33) (v := (64 : Int32)) rfl rfl dX8_copyRow_5 ?_
  refine j_aload_n C dX8_copyRow_6 rfl ?_
  refine j_alen C (q0 := 15) (v := (64 : Int32)) rfl rfl dX8_copyRow_7 ?_
  refine j_min C tw_292 tw_293 tw_11 tw_294 (Nat.le_of_ble_eq_true rfl) (Nat.le_of_ble_eq_true rfl) ⟨Nat.zero_le _, Nat.zero_le _⟩ dX8_copyRow_8 ?_
  refine j_copy C (q0 := 33) (q1 := 15) (ws' := (wC a cI (cr σ 15 (va_cpy (τ 15) (σ 15) (0 : Int32).toNatClampNeg (0 : Int32).toNatClampNeg (if (64 : Int32) < (64 : Int32) then (64 : Int32) else (64 : Int32)).toNatClampNeg)) (wC b cI τ rest))) tw_295 tw_297 tw_296 tw_12 rfl rfl ⟨by decide, by decide, by decide, by decide, by decide⟩ (Nat.le_of_ble_eq_true rfl) (Nat.le_of_ble_eq_true rfl) rfl dX8_copyRow_11 ?_
  refine j_arr (q0 := 15) (g := τ 15) (ws' := (wC a cI (cr σ 15 (τ 15)) (wC b cI τ rest))) rfl (fun i hi => cpy_full (by decide) hi) rfl wC_fst ?_
  exact j_vret C dX8_copyRow_14
set_option maxRecDepth 100000 in
set_option maxHeartbeats 4000000 in
theorem c_copyRow_16 {l : Launch} {D : va_G} {cI cS : ClassId} {A : Nat → Prop} {a b : Nat → Nat} {σ τ : Nat → Nat → Int32} {rest : va_W} : CT l yX8_copyRow cX8_copyRow 2 none (rmF 1 64) D cI cS A [.ref (b 16), .ref (a 16)] (wC a cI σ (wC b cI τ rest)) (wC a cI (cr σ 16 (τ 16)) (wC b cI τ rest)) none := by
  refine CT_of (own := RX8) (xs := [some (.ref (b 16)), some (.ref (a 16))]) (by decide) rfl (Nat.le_of_ble_eq_true rfl) rfl ?_
  intro p e s_ m below meth c C
  refine j_aload_n C dX8_copyRow_0 rfl ?_
  refine j_iconst C ic_0 dX8_copyRow_1 ?_
  refine j_aload_n C dX8_copyRow_2 rfl ?_
  refine j_iconst C ic_0 dX8_copyRow_3 ?_
  refine j_aload_n C dX8_copyRow_4 rfl ?_
  refine j_alen C (q0 := 34) (v := (64 : Int32)) rfl rfl dX8_copyRow_5 ?_
  refine j_aload_n C dX8_copyRow_6 rfl ?_
  refine j_alen C (q0 := 16) (v := (64 : Int32)) rfl rfl dX8_copyRow_7 ?_
  refine j_min C tw_292 tw_293 tw_11 tw_294 (Nat.le_of_ble_eq_true rfl) (Nat.le_of_ble_eq_true rfl) ⟨Nat.zero_le _, Nat.zero_le _⟩ dX8_copyRow_8 ?_
  refine j_copy C (q0 := 34) (q1 := 16) (ws' := (wC a cI (cr σ 16 (va_cpy (τ 16) (σ 16) (0 : Int32).toNatClampNeg (0 : Int32).toNatClampNeg (if (64 : Int32) < (64 : Int32) then (64 : Int32) else (64 : Int32)).toNatClampNeg)) (wC b cI τ rest))) tw_295 tw_297 tw_296 tw_12 rfl rfl ⟨by decide, by decide, by decide, by decide, by decide⟩ (Nat.le_of_ble_eq_true rfl) (Nat.le_of_ble_eq_true rfl) rfl dX8_copyRow_11 ?_
  refine j_arr (q0 := 16) (g := τ 16) (ws' := (wC a cI (cr σ 16 (τ 16)) (wC b cI τ rest))) rfl (fun i hi => cpy_full (by decide) hi) rfl wC_fst ?_
  exact j_vret C dX8_copyRow_14
set_option maxRecDepth 100000 in
set_option maxHeartbeats 4000000 in
theorem c_copyRow_17 {l : Launch} {D : va_G} {cI cS : ClassId} {A : Nat → Prop} {a b : Nat → Nat} {σ τ : Nat → Nat → Int32} {rest : va_W} : CT l yX8_copyRow cX8_copyRow 2 none (rmF 1 64) D cI cS A [.ref (b 17), .ref (a 17)] (wC a cI σ (wC b cI τ rest)) (wC a cI (cr σ 17 (τ 17)) (wC b cI τ rest)) none := by
  refine CT_of (own := RX8) (xs := [some (.ref (b 17)), some (.ref (a 17))]) (by decide) rfl (Nat.le_of_ble_eq_true rfl) rfl ?_
  intro p e s_ m below meth c C
  refine j_aload_n C dX8_copyRow_0 rfl ?_
  refine j_iconst C ic_0 dX8_copyRow_1 ?_
  refine j_aload_n C dX8_copyRow_2 rfl ?_
  refine j_iconst C ic_0 dX8_copyRow_3 ?_
  refine j_aload_n C dX8_copyRow_4 rfl ?_
  refine j_alen C (q0 := 35) (v := (32 : Int32)) rfl rfl dX8_copyRow_5 ?_
  refine j_aload_n C dX8_copyRow_6 rfl ?_
  refine j_alen C (q0 := 17) (v := (32 : Int32)) rfl rfl dX8_copyRow_7 ?_
  refine j_min C tw_292 tw_293 tw_11 tw_294 (Nat.le_of_ble_eq_true rfl) (Nat.le_of_ble_eq_true rfl) ⟨Nat.zero_le _, Nat.zero_le _⟩ dX8_copyRow_8 ?_
  refine j_copy C (q0 := 35) (q1 := 17) (ws' := (wC a cI (cr σ 17 (va_cpy (τ 17) (σ 17) (0 : Int32).toNatClampNeg (0 : Int32).toNatClampNeg (if (32 : Int32) < (32 : Int32) then (32 : Int32) else (32 : Int32)).toNatClampNeg)) (wC b cI τ rest))) tw_295 tw_297 tw_296 tw_12 rfl rfl ⟨by decide, by decide, by decide, by decide, by decide⟩ (Nat.le_of_ble_eq_true rfl) (Nat.le_of_ble_eq_true rfl) rfl dX8_copyRow_11 ?_
  refine j_arr (q0 := 17) (g := τ 17) (ws' := (wC a cI (cr σ 17 (τ 17)) (wC b cI τ rest))) rfl (fun i hi => cpy_full (by decide) hi) rfl wC_fst ?_
  exact j_vret C dX8_copyRow_14
def k_X7_copyFrom (σ τ : Nat → Nat → Int32) : Nat → Nat → Int32 := (cu (cu (cu (cu (cu (cu σ 0 0 (τ 0 0)) 0 1 (τ 0 1)) 0 2 (τ 0 2)) 0 3 (τ 0 3)) 0 4 (τ 0 4)) 0 5 (τ 0 5))
set_option maxRecDepth 100000 in
set_option maxHeartbeats 4000000 in
theorem c_X7_copyFrom {l : Launch} {D : va_G} {cI cS : ClassId} {A : Nat → Prop} {a b : Nat → Nat} {σ τ : Nat → Nat → Int32} {rest : va_W} : CT l yX7_copyFrom cX7_copyFrom 2 none (rmF 0 0) D cI cS A [.ref (a 1), .ref (b 1)] (wC a cI σ (wC b cI τ rest)) (wC a cI (k_X7_copyFrom σ τ) (wC b cI τ rest)) none := by
  refine CT_of (own := RX7) (xs := [some (.ref (a 1)), some (.ref (b 1))]) (by decide) rfl (Nat.le_of_ble_eq_true rfl) rfl ?_
  intro p e s_ m below meth c C
  refine j_aload_n C dX7_copyFrom_0 rfl ?_
  refine j_aload_n C dX7_copyFrom_1 rfl ?_
  refine j_getf C (q0 := 19) (ci := 7) (k := 0) inX7 rfl (by decide) tw_40 rfl rfl dX7_copyFrom_2 ?_
  refine j_putf C (q0 := 1) (ci := 7) (k := 0) (ty := .int) (ws' := (wC a cI (cu σ 0 0 (τ 0 0)) (wC b cI τ rest))) inX7 tyX7_ok nmX7 rfl (by decide) tw_40 rfl (by decide +kernel) rfl rfl rfl (Nat.le_of_ble_eq_true rfl) rfl dX7_copyFrom_5 ?_
  refine j_aload_n C dX7_copyFrom_8 rfl ?_
  refine j_aload_n C dX7_copyFrom_9 rfl ?_
  refine j_getf C (q0 := 19) (ci := 7) (k := 1) inX7 rfl (by decide) tw_43 rfl rfl dX7_copyFrom_10 ?_
  refine j_putf C (q0 := 1) (ci := 7) (k := 1) (ty := .int) (ws' := (wC a cI (cu (cu σ 0 0 (τ 0 0)) 0 1 (τ 0 1)) (wC b cI τ rest))) inX7 tyX7_ok nmX7 rfl (by decide) tw_43 rfl (by decide +kernel) rfl rfl rfl (Nat.le_of_ble_eq_true rfl) rfl dX7_copyFrom_13 ?_
  refine j_aload_n C dX7_copyFrom_16 rfl ?_
  refine j_aload_n C dX7_copyFrom_17 rfl ?_
  refine j_getf C (q0 := 19) (ci := 7) (k := 2) inX7 rfl (by decide) tw_46 rfl rfl dX7_copyFrom_18 ?_
  refine j_putf C (q0 := 1) (ci := 7) (k := 2) (ty := .int) (ws' := (wC a cI (cu (cu (cu σ 0 0 (τ 0 0)) 0 1 (τ 0 1)) 0 2 (τ 0 2)) (wC b cI τ rest))) inX7 tyX7_ok nmX7 rfl (by decide) tw_46 rfl (by decide +kernel) rfl rfl rfl (Nat.le_of_ble_eq_true rfl) rfl dX7_copyFrom_21 ?_
  refine j_aload_n C dX7_copyFrom_24 rfl ?_
  refine j_aload_n C dX7_copyFrom_25 rfl ?_
  refine j_getf C (q0 := 19) (ci := 7) (k := 3) inX7 rfl (by decide) tw_49 rfl rfl dX7_copyFrom_26 ?_
  refine j_putf C (q0 := 1) (ci := 7) (k := 3) (ty := .int) (ws' := (wC a cI (cu (cu (cu (cu σ 0 0 (τ 0 0)) 0 1 (τ 0 1)) 0 2 (τ 0 2)) 0 3 (τ 0 3)) (wC b cI τ rest))) inX7 tyX7_ok nmX7 rfl (by decide) tw_49 rfl (by decide +kernel) rfl rfl rfl (Nat.le_of_ble_eq_true rfl) rfl dX7_copyFrom_29 ?_
  refine j_aload_n C dX7_copyFrom_32 rfl ?_
  refine j_aload_n C dX7_copyFrom_33 rfl ?_
  refine j_getf C (q0 := 19) (ci := 7) (k := 4) inX7 rfl (by decide) tw_52 rfl rfl dX7_copyFrom_34 ?_
  refine j_putf C (q0 := 1) (ci := 7) (k := 4) (ty := .int) (ws' := (wC a cI (cu (cu (cu (cu (cu σ 0 0 (τ 0 0)) 0 1 (τ 0 1)) 0 2 (τ 0 2)) 0 3 (τ 0 3)) 0 4 (τ 0 4)) (wC b cI τ rest))) inX7 tyX7_ok nmX7 rfl (by decide) tw_52 rfl (by decide +kernel) rfl rfl rfl (Nat.le_of_ble_eq_true rfl) rfl dX7_copyFrom_37 ?_
  refine j_aload_n C dX7_copyFrom_40 rfl ?_
  refine j_aload_n C dX7_copyFrom_41 rfl ?_
  refine j_getf C (q0 := 19) (ci := 7) (k := 5) inX7 rfl (by decide) tw_55 rfl rfl dX7_copyFrom_42 ?_
  refine j_putf C (q0 := 1) (ci := 7) (k := 5) (ty := .int) (ws' := (wC a cI (cu (cu (cu (cu (cu (cu σ 0 0 (τ 0 0)) 0 1 (τ 0 1)) 0 2 (τ 0 2)) 0 3 (τ 0 3)) 0 4 (τ 0 4)) 0 5 (τ 0 5)) (wC b cI τ rest))) inX7 tyX7_ok nmX7 rfl (by decide) tw_55 rfl (by decide +kernel) rfl rfl rfl (Nat.le_of_ble_eq_true rfl) rfl dX7_copyFrom_45 ?_
  exact j_vret C dX7_copyFrom_48
def k_X4_copyFrom (σ τ : Nat → Nat → Int32) : Nat → Nat → Int32 := (cr (cr (cu (cu σ 0 6 (τ 0 6)) 0 7 (τ 0 7)) 7 (τ 7)) 8 (τ 8))
set_option maxRecDepth 100000 in
set_option maxHeartbeats 4000000 in
theorem c_X4_copyFrom {l : Launch} {D : va_G} {cI cS : ClassId} {A : Nat → Prop} {a b : Nat → Nat} {σ τ : Nat → Nat → Int32} {rest : va_W} : CT l yX4_copyFrom cX4_copyFrom 2 none (rmF 2 85) D cI cS A [.ref (a 2), .ref (b 2)] (wC a cI σ (wC b cI τ rest)) (wC a cI (k_X4_copyFrom σ τ) (wC b cI τ rest)) none := by
  refine CT_of (own := RX4) (xs := [some (.ref (a 2)), some (.ref (b 2))]) (by decide) rfl (Nat.le_of_ble_eq_true rfl) rfl ?_
  intro p e s_ m below meth c C
  refine j_aload_n C dX4_copyFrom_0 rfl ?_
  refine j_aload_n C dX4_copyFrom_1 rfl ?_
  refine j_getf C (q0 := 20) (ci := 4) (k := 0) inX4 rfl (by decide) tw_76 rfl rfl dX4_copyFrom_2 ?_
  refine j_putf C (q0 := 2) (ci := 4) (k := 0) (ty := .int) (ws' := (wC a cI (cu σ 0 6 (τ 0 6)) (wC b cI τ rest))) inX4 tyX4_ok nmX4 rfl (by decide) tw_76 rfl (by decide +kernel) rfl rfl rfl (Nat.le_of_ble_eq_true rfl) rfl dX4_copyFrom_5 ?_
  refine j_aload_n C dX4_copyFrom_8 rfl ?_
  refine j_aload_n C dX4_copyFrom_9 rfl ?_
  refine j_getf C (q0 := 20) (ci := 4) (k := 1) inX4 rfl (by decide) tw_80 rfl rfl dX4_copyFrom_10 ?_
  refine j_putf C (q0 := 2) (ci := 4) (k := 1) (ty := .int) (ws' := (wC a cI (cu (cu σ 0 6 (τ 0 6)) 0 7 (τ 0 7)) (wC b cI τ rest))) inX4 tyX4_ok nmX4 rfl (by decide) tw_80 rfl (by decide +kernel) rfl rfl rfl (Nat.le_of_ble_eq_true rfl) rfl dX4_copyFrom_13 ?_
  refine j_aload_n C dX4_copyFrom_16 rfl ?_
  refine j_getf C (q0 := 20) (ci := 4) (k := 2) inX4 rfl (by decide) tw_83 rfl rfl dX4_copyFrom_17 ?_
  refine j_aload_n C dX4_copyFrom_20 rfl ?_
  refine j_getf C (q0 := 2) (ci := 4) (k := 2) inX4 rfl (by decide) tw_83 rfl rfl dX4_copyFrom_21 ?_
  refine j_callSN C cl_X4_29 (c_copyRow_7) ⟨Nat.le_of_ble_eq_true rfl, Nat.le_of_ble_eq_true rfl⟩ ⟨Nat.zero_le _, Nat.zero_le _⟩ rfl (Nat.le_of_ble_eq_true rfl) rfl rfl wC_fst dX4_copyFrom_24 ?_
  refine j_aload_n C dX4_copyFrom_27 rfl ?_
  refine j_getf C (q0 := 20) (ci := 4) (k := 3) inX4 rfl (by decide) tw_86 rfl rfl dX4_copyFrom_28 ?_
  refine j_aload_n C dX4_copyFrom_31 rfl ?_
  refine j_getf C (q0 := 2) (ci := 4) (k := 3) inX4 rfl (by decide) tw_86 rfl rfl dX4_copyFrom_32 ?_
  refine j_callSN C cl_X4_29 (c_copyRow_8) ⟨Nat.le_of_ble_eq_true rfl, Nat.le_of_ble_eq_true rfl⟩ ⟨Nat.zero_le _, Nat.zero_le _⟩ rfl (Nat.le_of_ble_eq_true rfl) rfl rfl wC_fst dX4_copyFrom_35 ?_
  exact j_vret C dX4_copyFrom_38
def k_X5_copyFrom (σ τ : Nat → Nat → Int32) : Nat → Nat → Int32 := (cr (cr (cr (cr (cr (cr (cu σ 0 8 (τ 0 8)) 9 (τ 9)) 10 (τ 10)) 11 (τ 11)) 12 (τ 12)) 13 (τ 13)) 14 (τ 14))
set_option maxRecDepth 100000 in
set_option maxHeartbeats 4000000 in
theorem c_X5_copyFrom {l : Launch} {D : va_G} {cI cS : ClassId} {A : Nat → Prop} {a b : Nat → Nat} {σ τ : Nat → Nat → Int32} {rest : va_W} : CT l yX5_copyFrom cX5_copyFrom 2 none (rmF 2 85) D cI cS A [.ref (a 3), .ref (b 3)] (wC a cI σ (wC b cI τ rest)) (wC a cI (k_X5_copyFrom σ τ) (wC b cI τ rest)) none := by
  refine CT_of (own := RX5) (xs := [some (.ref (a 3)), some (.ref (b 3))]) (by decide) rfl (Nat.le_of_ble_eq_true rfl) rfl ?_
  intro p e s_ m below meth c C
  refine j_aload_n C dX5_copyFrom_0 rfl ?_
  refine j_aload_n C dX5_copyFrom_1 rfl ?_
  refine j_getf C (q0 := 21) (ci := 5) (k := 0) inX5 rfl (by decide) tw_105 rfl rfl dX5_copyFrom_2 ?_
  refine j_putf C (q0 := 3) (ci := 5) (k := 0) (ty := .int) (ws' := (wC a cI (cu σ 0 8 (τ 0 8)) (wC b cI τ rest))) inX5 tyX5_ok nmX5 rfl (by decide) tw_105 rfl (by decide +kernel) rfl rfl rfl (Nat.le_of_ble_eq_true rfl) rfl dX5_copyFrom_5 ?_
  refine j_aload_n C dX5_copyFrom_8 rfl ?_
  refine j_getf C (q0 := 21) (ci := 5) (k := 1) inX5 rfl (by decide) tw_109 rfl rfl dX5_copyFrom_9 ?_
  refine j_aload_n C dX5_copyFrom_12 rfl ?_
  refine j_getf C (q0 := 3) (ci := 5) (k := 1) inX5 rfl (by decide) tw_109 rfl rfl dX5_copyFrom_13 ?_
  refine j_callSN C cl_X5_54 (c_copyRow_9) ⟨Nat.le_of_ble_eq_true rfl, Nat.le_of_ble_eq_true rfl⟩ ⟨Nat.zero_le _, Nat.zero_le _⟩ rfl (Nat.le_of_ble_eq_true rfl) rfl rfl wC_fst dX5_copyFrom_16 ?_
  refine j_aload_n C dX5_copyFrom_19 rfl ?_
  refine j_getf C (q0 := 21) (ci := 5) (k := 2) inX5 rfl (by decide) tw_112 rfl rfl dX5_copyFrom_20 ?_
  refine j_aload_n C dX5_copyFrom_23 rfl ?_
  refine j_getf C (q0 := 3) (ci := 5) (k := 2) inX5 rfl (by decide) tw_112 rfl rfl dX5_copyFrom_24 ?_
  refine j_callSN C cl_X5_54 (c_copyRow_10) ⟨Nat.le_of_ble_eq_true rfl, Nat.le_of_ble_eq_true rfl⟩ ⟨Nat.zero_le _, Nat.zero_le _⟩ rfl (Nat.le_of_ble_eq_true rfl) rfl rfl wC_fst dX5_copyFrom_27 ?_
  refine j_aload_n C dX5_copyFrom_30 rfl ?_
  refine j_getf C (q0 := 21) (ci := 5) (k := 3) inX5 rfl (by decide) tw_116 rfl rfl dX5_copyFrom_31 ?_
  refine j_aload_n C dX5_copyFrom_34 rfl ?_
  refine j_getf C (q0 := 3) (ci := 5) (k := 3) inX5 rfl (by decide) tw_116 rfl rfl dX5_copyFrom_35 ?_
  refine j_callSN C cl_X5_54 (c_copyRow_11) ⟨Nat.le_of_ble_eq_true rfl, Nat.le_of_ble_eq_true rfl⟩ ⟨Nat.zero_le _, Nat.zero_le _⟩ rfl (Nat.le_of_ble_eq_true rfl) rfl rfl wC_fst dX5_copyFrom_38 ?_
  refine j_aload_n C dX5_copyFrom_41 rfl ?_
  refine j_getf C (q0 := 21) (ci := 5) (k := 4) inX5 rfl (by decide) tw_120 rfl rfl dX5_copyFrom_42 ?_
  refine j_aload_n C dX5_copyFrom_45 rfl ?_
  refine j_getf C (q0 := 3) (ci := 5) (k := 4) inX5 rfl (by decide) tw_120 rfl rfl dX5_copyFrom_46 ?_
  refine j_callSN C cl_X5_54 (c_copyRow_12) ⟨Nat.le_of_ble_eq_true rfl, Nat.le_of_ble_eq_true rfl⟩ ⟨Nat.zero_le _, Nat.zero_le _⟩ rfl (Nat.le_of_ble_eq_true rfl) rfl rfl wC_fst dX5_copyFrom_49 ?_
  refine j_aload_n C dX5_copyFrom_52 rfl ?_
  refine j_getf C (q0 := 21) (ci := 5) (k := 5) inX5 rfl (by decide) tw_123 rfl rfl dX5_copyFrom_53 ?_
  refine j_aload_n C dX5_copyFrom_56 rfl ?_
  refine j_getf C (q0 := 3) (ci := 5) (k := 5) inX5 rfl (by decide) tw_123 rfl rfl dX5_copyFrom_57 ?_
  refine j_callSN C cl_X5_54 (c_copyRow_13) ⟨Nat.le_of_ble_eq_true rfl, Nat.le_of_ble_eq_true rfl⟩ ⟨Nat.zero_le _, Nat.zero_le _⟩ rfl (Nat.le_of_ble_eq_true rfl) rfl rfl wC_fst dX5_copyFrom_60 ?_
  refine j_aload_n C dX5_copyFrom_63 rfl ?_
  refine j_getf C (q0 := 21) (ci := 5) (k := 6) inX5 rfl (by decide) tw_125 rfl rfl dX5_copyFrom_64 ?_
  refine j_aload_n C dX5_copyFrom_67 rfl ?_
  refine j_getf C (q0 := 3) (ci := 5) (k := 6) inX5 rfl (by decide) tw_125 rfl rfl dX5_copyFrom_68 ?_
  refine j_callSN C cl_X5_54 (c_copyRow_14) ⟨Nat.le_of_ble_eq_true rfl, Nat.le_of_ble_eq_true rfl⟩ ⟨Nat.zero_le _, Nat.zero_le _⟩ rfl (Nat.le_of_ble_eq_true rfl) rfl rfl wC_fst dX5_copyFrom_71 ?_
  exact j_vret C dX5_copyFrom_74
def k_X3_copyFrom (σ τ : Nat → Nat → Int32) : Nat → Nat → Int32 := (cr (cr (cu σ 0 9 (τ 0 9)) 15 (τ 15)) 16 (τ 16))
set_option maxRecDepth 100000 in
set_option maxHeartbeats 4000000 in
theorem c_X3_copyFrom {l : Launch} {D : va_G} {cI cS : ClassId} {A : Nat → Prop} {a b : Nat → Nat} {σ τ : Nat → Nat → Int32} {rest : va_W} : CT l yX3_copyFrom cX3_copyFrom 2 none (rmF 2 85) D cI cS A [.ref (a 4), .ref (b 4)] (wC a cI σ (wC b cI τ rest)) (wC a cI (k_X3_copyFrom σ τ) (wC b cI τ rest)) none := by
  refine CT_of (own := RX3) (xs := [some (.ref (a 4)), some (.ref (b 4))]) (by decide) rfl (Nat.le_of_ble_eq_true rfl) rfl ?_
  intro p e s_ m below meth c C
  refine j_aload_n C dX3_copyFrom_0 rfl ?_
  refine j_aload_n C dX3_copyFrom_1 rfl ?_
  refine j_getf C (q0 := 22) (ci := 3) (k := 0) inX3 rfl (by decide) tw_149 rfl rfl dX3_copyFrom_2 ?_
  refine j_putf C (q0 := 4) (ci := 3) (k := 0) (ty := .int) (ws' := (wC a cI (cu σ 0 9 (τ 0 9)) (wC b cI τ rest))) inX3 tyX3_ok nmX3 rfl (by decide) tw_149 rfl (by decide +kernel) rfl rfl rfl (Nat.le_of_ble_eq_true rfl) rfl dX3_copyFrom_5 ?_
  refine j_aload_n C dX3_copyFrom_8 rfl ?_
  refine j_getf C (q0 := 22) (ci := 3) (k := 1) inX3 rfl (by decide) tw_151 rfl rfl dX3_copyFrom_9 ?_
  refine j_aload_n C dX3_copyFrom_12 rfl ?_
  refine j_getf C (q0 := 4) (ci := 3) (k := 1) inX3 rfl (by decide) tw_151 rfl rfl dX3_copyFrom_13 ?_
  refine j_callSN C cl_X3_40 (c_copyRow_15) ⟨Nat.le_of_ble_eq_true rfl, Nat.le_of_ble_eq_true rfl⟩ ⟨Nat.zero_le _, Nat.zero_le _⟩ rfl (Nat.le_of_ble_eq_true rfl) rfl rfl wC_fst dX3_copyFrom_16 ?_
  refine j_aload_n C dX3_copyFrom_19 rfl ?_
  refine j_getf C (q0 := 22) (ci := 3) (k := 2) inX3 rfl (by decide) tw_152 rfl rfl dX3_copyFrom_20 ?_
  refine j_aload_n C dX3_copyFrom_23 rfl ?_
  refine j_getf C (q0 := 4) (ci := 3) (k := 2) inX3 rfl (by decide) tw_152 rfl rfl dX3_copyFrom_24 ?_
  refine j_callSN C cl_X3_40 (c_copyRow_16) ⟨Nat.le_of_ble_eq_true rfl, Nat.le_of_ble_eq_true rfl⟩ ⟨Nat.zero_le _, Nat.zero_le _⟩ rfl (Nat.le_of_ble_eq_true rfl) rfl rfl wC_fst dX3_copyFrom_27 ?_
  exact j_vret C dX3_copyFrom_30
def k_X6_copyFrom (σ τ : Nat → Nat → Int32) : Nat → Nat → Int32 := (cr (cu σ 0 10 (τ 0 10)) 17 (τ 17))
set_option maxRecDepth 100000 in
set_option maxHeartbeats 4000000 in
theorem c_X6_copyFrom {l : Launch} {D : va_G} {cI cS : ClassId} {A : Nat → Prop} {a b : Nat → Nat} {σ τ : Nat → Nat → Int32} {rest : va_W} : CT l yX6_copyFrom cX6_copyFrom 2 none (rmF 2 85) D cI cS A [.ref (a 5), .ref (b 5)] (wC a cI σ (wC b cI τ rest)) (wC a cI (k_X6_copyFrom σ τ) (wC b cI τ rest)) none := by
  refine CT_of (own := RX6) (xs := [some (.ref (a 5)), some (.ref (b 5))]) (by decide) rfl (Nat.le_of_ble_eq_true rfl) rfl ?_
  intro p e s_ m below meth c C
  refine j_aload_n C dX6_copyFrom_0 rfl ?_
  refine j_aload_n C dX6_copyFrom_1 rfl ?_
  refine j_getf C (q0 := 23) (ci := 6) (k := 0) inX6 rfl (by decide) tw_166 rfl rfl dX6_copyFrom_2 ?_
  refine j_putf C (q0 := 5) (ci := 6) (k := 0) (ty := .int) (ws' := (wC a cI (cu σ 0 10 (τ 0 10)) (wC b cI τ rest))) inX6 tyX6_ok nmX6 rfl (by decide) tw_166 rfl (by decide +kernel) rfl rfl rfl (Nat.le_of_ble_eq_true rfl) rfl dX6_copyFrom_5 ?_
  refine j_aload_n C dX6_copyFrom_8 rfl ?_
  refine j_getf C (q0 := 23) (ci := 6) (k := 1) inX6 rfl (by decide) tw_168 rfl rfl dX6_copyFrom_9 ?_
  refine j_aload_n C dX6_copyFrom_12 rfl ?_
  refine j_getf C (q0 := 5) (ci := 6) (k := 1) inX6 rfl (by decide) tw_168 rfl rfl dX6_copyFrom_13 ?_
  refine j_callSN C cl_X6_32 (c_copyRow_17) ⟨Nat.le_of_ble_eq_true rfl, Nat.le_of_ble_eq_true rfl⟩ ⟨Nat.zero_le _, Nat.zero_le _⟩ rfl (Nat.le_of_ble_eq_true rfl) rfl rfl wC_fst dX6_copyFrom_16 ?_
  exact j_vret C dX6_copyFrom_19
def k_X0_copyFrom (σ τ : Nat → Nat → Int32) : Nat → Nat → Int32 := (cu (cr (k_X6_copyFrom (k_X3_copyFrom (k_X5_copyFrom (k_X4_copyFrom (k_X7_copyFrom σ τ) τ) τ) τ) τ) 6 (τ 6)) 0 11 (τ 0 11))
set_option maxRecDepth 100000 in
set_option maxHeartbeats 4000000 in
theorem c_X0_copyFrom {l : Launch} {D : va_G} {cI cS : ClassId} {A : Nat → Prop} {a b : Nat → Nat} {σ τ : Nat → Nat → Int32} {rest : va_W} : CT l yX0_copyFrom cX0_copyFrom 2 none (rmF 3 106) D cI cS A [.ref (a 0), .ref (b 0)] (wC a cI σ (wC b cI τ rest)) (wC a cI τ (wC b cI τ rest)) none := by
  refine CT_of (own := RX0) (xs := [some (.ref (a 0)), some (.ref (b 0))]) (by decide) rfl (Nat.le_of_ble_eq_true rfl) rfl ?_
  intro p e s_ m below meth c C
  refine j_aload_n C dX0_copyFrom_0 rfl ?_
  refine j_getf C (q0 := 0) (ci := 0) (k := 0) inX0 rfl (by decide) tw_175 rfl rfl dX0_copyFrom_1 ?_
  refine j_aload_n C dX0_copyFrom_4 rfl ?_
  refine j_getf C (q0 := 18) (ci := 0) (k := 0) inX0 rfl (by decide) tw_175 rfl rfl dX0_copyFrom_5 ?_
  refine j_callV C cl_X0_113 c_X7_copyFrom ⟨Nat.le_of_ble_eq_true rfl, Nat.le_of_ble_eq_true rfl⟩ ⟨Nat.zero_le _, Nat.zero_le _⟩ (q0 := 1) rfl rfl rfl rfl (Nat.le_of_ble_eq_true rfl) rfl rfl wC_fst dX0_copyFrom_8 ?_
  refine j_aload_n C dX0_copyFrom_11 rfl ?_
  refine j_getf C (q0 := 0) (ci := 0) (k := 1) inX0 rfl (by decide) tw_178 rfl rfl dX0_copyFrom_12 ?_
  refine j_aload_n C dX0_copyFrom_15 rfl ?_
  refine j_getf C (q0 := 18) (ci := 0) (k := 1) inX0 rfl (by decide) tw_178 rfl rfl dX0_copyFrom_16 ?_
  refine j_callV C cl_X0_117 c_X4_copyFrom ⟨Nat.le_of_ble_eq_true rfl, Nat.le_of_ble_eq_true rfl⟩ ⟨Nat.zero_le _, Nat.zero_le _⟩ (q0 := 2) rfl rfl rfl rfl (Nat.le_of_ble_eq_true rfl) rfl rfl wC_fst dX0_copyFrom_19 ?_
  refine j_aload_n C dX0_copyFrom_22 rfl ?_
  refine j_getf C (q0 := 0) (ci := 0) (k := 2) inX0 rfl (by decide) tw_181 rfl rfl dX0_copyFrom_23 ?_
  refine j_aload_n C dX0_copyFrom_26 rfl ?_
  refine j_getf C (q0 := 18) (ci := 0) (k := 2) inX0 rfl (by decide) tw_181 rfl rfl dX0_copyFrom_27 ?_
  refine j_callV C cl_X0_120 c_X5_copyFrom ⟨Nat.le_of_ble_eq_true rfl, Nat.le_of_ble_eq_true rfl⟩ ⟨Nat.zero_le _, Nat.zero_le _⟩ (q0 := 3) rfl rfl rfl rfl (Nat.le_of_ble_eq_true rfl) rfl rfl wC_fst dX0_copyFrom_30 ?_
  refine j_aload_n C dX0_copyFrom_33 rfl ?_
  refine j_getf C (q0 := 0) (ci := 0) (k := 3) inX0 rfl (by decide) tw_184 rfl rfl dX0_copyFrom_34 ?_
  refine j_aload_n C dX0_copyFrom_37 rfl ?_
  refine j_getf C (q0 := 18) (ci := 0) (k := 3) inX0 rfl (by decide) tw_184 rfl rfl dX0_copyFrom_38 ?_
  refine j_callV C cl_X0_123 c_X3_copyFrom ⟨Nat.le_of_ble_eq_true rfl, Nat.le_of_ble_eq_true rfl⟩ ⟨Nat.zero_le _, Nat.zero_le _⟩ (q0 := 4) rfl rfl rfl rfl (Nat.le_of_ble_eq_true rfl) rfl rfl wC_fst dX0_copyFrom_41 ?_
  refine j_aload_n C dX0_copyFrom_44 rfl ?_
  refine j_getf C (q0 := 0) (ci := 0) (k := 4) inX0 rfl (by decide) tw_186 rfl rfl dX0_copyFrom_45 ?_
  refine j_aload_n C dX0_copyFrom_48 rfl ?_
  refine j_getf C (q0 := 18) (ci := 0) (k := 4) inX0 rfl (by decide) tw_186 rfl rfl dX0_copyFrom_49 ?_
  refine j_callV C cl_X0_126 c_X6_copyFrom ⟨Nat.le_of_ble_eq_true rfl, Nat.le_of_ble_eq_true rfl⟩ ⟨Nat.zero_le _, Nat.zero_le _⟩ (q0 := 5) rfl rfl rfl rfl (Nat.le_of_ble_eq_true rfl) rfl rfl wC_fst dX0_copyFrom_52 ?_
  refine j_aload_n C dX0_copyFrom_55 rfl ?_
  refine j_getf C (q0 := 18) (ci := 0) (k := 5) inX0 rfl (by decide) tw_188 rfl rfl dX0_copyFrom_56 ?_
  refine j_aload_n C dX0_copyFrom_59 rfl ?_
  refine j_getf C (q0 := 0) (ci := 0) (k := 5) inX0 rfl (by decide) tw_188 rfl rfl dX0_copyFrom_60 ?_
  refine j_callSN C cl_X0_129 (c_copyRow_6) ⟨Nat.le_of_ble_eq_true rfl, Nat.le_of_ble_eq_true rfl⟩ ⟨Nat.zero_le _, Nat.zero_le _⟩ rfl (Nat.le_of_ble_eq_true rfl) rfl rfl wC_fst dX0_copyFrom_63 ?_
  refine j_aload_n C dX0_copyFrom_66 rfl ?_
  refine j_aload_n C dX0_copyFrom_67 rfl ?_
  refine j_getf C (q0 := 18) (ci := 0) (k := 6) inX0 rfl (by decide) tw_192 rfl rfl dX0_copyFrom_68 ?_
  refine j_putf C (q0 := 0) (ci := 0) (k := 6) (ty := .int) (ws' := (wC a cI (cu (cr (k_X6_copyFrom (k_X3_copyFrom (k_X5_copyFrom (k_X4_copyFrom (k_X7_copyFrom σ τ) τ) τ) τ) τ) 6 (τ 6)) 0 11 (τ 0 11)) (wC b cI τ rest))) inX0 tyX0_ok nmX0 rfl (by decide) tw_192 rfl (by decide +kernel) rfl rfl rfl (Nat.le_of_ble_eq_true rfl) rfl dX0_copyFrom_71 ?_
  have hw : (wC a cI (cu (cr (k_X6_copyFrom (k_X3_copyFrom (k_X5_copyFrom (k_X4_copyFrom (k_X7_copyFrom σ τ) τ) τ) τ) τ) 6 (τ 6)) 0 11 (τ 0 11)) (wC b cI τ rest)) = (wC a cI τ (wC b cI τ rest)) := rfl
  rw [hw]
  exact j_vret C dX0_copyFrom_74
abbrev rsC (o d hh : Nat) (a : Nat → Nat) (t : Nat → Int32) : Nat × va_E := (o, .inr (8, [.ref d, .ref (a 0), .ref hh, .int (t 0), .int (t 1), .int (t 2)]))
abbrev hiC (hh sl : Nat) (t : Nat → Int32) : Nat × va_E := (hh, .inr (2, [.int (t 3), .int (t 4), .ref sl]))
abbrev slC (sl : Nat) (cS : ClassId) (b : Nat → Nat → Nat) : Nat × va_E := (sl, .inl (cS, 4, .inr (.inr (.inr (.inr (fun i => some (b i 0)))))))
abbrev wT (a : Nat → Nat) (d o hh sl : Nat) (b : Nat → Nat → Nat) (cI cS : ClassId) (σ : Nat → Nat → Int32) (t : Nat → Int32) (h : Nat → Nat → Nat → Int32) (rest : va_W) : va_W :=
  wC a cI σ (dv d a :: rsC o d hh a t :: hiC hh sl t :: slC sl cS b :: wC (b 0) cI (h 0) (wC (b 1) cI (h 1) (wC (b 2) cI (h 2) (wC (b 3) cI (h 3) rest))))
theorem wT_fst {a : Nat → Nat} {d o hh sl : Nat} {b : Nat → Nat → Nat} {cI cS : ClassId} {σ σ' : Nat → Nat → Int32} {t t' : Nat → Int32} {h h' : Nat → Nat → Nat → Int32} {rest : va_W} : (wT a d o hh sl b cI cS σ t h rest).map Prod.fst = (wT a d o hh sl b cI cS σ' t' h' rest).map Prod.fst := rfl
theorem wC_app {a : Nat → Nat} {cI : ClassId} {σ : Nat → Nat → Int32} {rest : va_W} : wC a cI σ rest = wC a cI σ [] ++ rest := rfl
theorem perm_out {a b : Nat → Nat} {cI : ClassId} {σ τ : Nat → Nat → Int32} (X R : va_W) : (wC a cI σ (X ++ wC b cI τ R)).Perm (wC b cI τ (wC a cI σ (X ++ R))) := by
  rw [wC_app (a := a), wC_app (a := b), wC_app (a := b) (rest := wC a cI σ (X ++ R)), wC_app (a := a) (rest := X ++ R)]
  exact (List.Perm.append_left _ (List.perm_append_comm_assoc _ _ _)).trans (List.perm_append_comm_assoc _ _ _)
theorem perm_in {a b : Nat → Nat} {cI : ClassId} {σ τ : Nat → Nat → Int32} (X R : va_W) : (wC a cI σ (X ++ wC b cI τ R)).Perm (wC a cI σ (wC b cI τ (X ++ R))) := by
  rw [wC_app (a := a), wC_app (a := b), wC_app (a := a) (rest := wC b cI τ (X ++ R)), wC_app (a := b) (rest := X ++ R)]
  exact List.Perm.append_left _ (List.perm_append_comm_assoc _ _ _)
set_option maxRecDepth 100000 in
set_option maxHeartbeats 4000000 in
theorem c_save_0 {l : Launch} {D : va_G} {cI cS : ClassId} {A : Nat → Prop} {a : Nat → Nat} {d o hh sl : Nat} {b : Nat → Nat → Nat} {rest : va_W} {σ : Nat → Nat → Int32} {t : Nat → Int32} {h : Nat → Nat → Nat → Int32} (hr : vp_in (t 4) 4) (hi : (t 4).toNatClampNeg = 0) : CT l yX2_save cX2_save 3 none (rmF 4 127) D cI cS A [.ref hh, .ref (a 0)] (wT a d o hh sl b cI cS σ t h rest) (wT a d o hh sl b cI cS σ (upd (upd t 4 (t 4 + (1 : Int32) - (t 4 + (1 : Int32)) / (4 : Int32) * (4 : Int32))) 3 (if (4 : Int32) < (upd t 4 (t 4 + (1 : Int32) - (t 4 + (1 : Int32)) / (4 : Int32) * (4 : Int32))) 3 + (1 : Int32) then (4 : Int32) else (upd t 4 (t 4 + (1 : Int32) - (t 4 + (1 : Int32)) / (4 : Int32) * (4 : Int32))) 3 + (1 : Int32))) (va_up h 0 σ) rest) none := by
  refine CT_of (own := RX2) (xs := [some (.ref hh), some (.ref (a 0)), none]) (by decide) rfl (Nat.le_of_ble_eq_true rfl) rfl ?_
  intro p e s_ m below meth c C
  refine j_aload_n C dX2_save_0 rfl ?_
  refine j_getf C (q0 := 20) (ci := 2) (k := 2) inX2 rfl (by decide) tw_235 rfl rfl dX2_save_1 ?_
  refine j_aload_n C dX2_save_4 rfl ?_
  refine j_getf C (q0 := 20) (ci := 2) (k := 1) inX2 rfl (by decide) tw_234 rfl rfl dX2_save_5 ?_
  refine j_aald C (q0 := 21) (b := b 0 0) rfl hr (by show some (b ((t 4).toNatClampNeg) 0) = _; rw [hi]) dX2_save_8 ?_
  refine j_astore_n C (xs' := [some (.ref hh), some (.ref (a 0)), some (.ref (b 0 0))]) dX2_save_9 rfl rfl ?_
  refine j_aload_n C dX2_save_10 rfl ?_
  refine j_ifnonnull C (tgt := 15) (by decide) dX2_save_11 ?_
  refine j_aload_n C dX2_save_15 rfl ?_
  refine j_aload_n C dX2_save_16 rfl ?_
  refine j_perm (ws' := wC (b 0) cI (h 0) (wC a cI σ (dv d a :: rsC o d hh a t :: hiC hh sl t :: slC sl cS b :: wC (b 1) cI (h 1) (wC (b 2) cI (h 2) (wC (b 3) cI (h 3) (rest)))))) (perm_out (dv d a :: rsC o d hh a t :: hiC hh sl t :: slC sl cS b :: []) (wC (b 1) cI (h 1) (wC (b 2) cI (h 2) (wC (b 3) cI (h 3) (rest))))) ?_
  refine j_callV C cl_X2_22 c_X0_copyFrom ⟨Nat.le_of_ble_eq_true rfl, Nat.le_of_ble_eq_true rfl⟩ ⟨Nat.zero_le _, Nat.zero_le _⟩ (q0 := 0) rfl rfl rfl rfl (Nat.le_of_ble_eq_true rfl) rfl rfl wC_fst dX2_save_17 ?_
  refine j_perm (ws' := (wT a d o hh sl b cI cS σ t (va_up h 0 σ) rest)) (perm_out (dv d a :: rsC o d hh a t :: hiC hh sl t :: slC sl cS b :: []) (wC (b 1) cI ((va_up h 0 σ) 1) (wC (b 2) cI ((va_up h 0 σ) 2) (wC (b 3) cI ((va_up h 0 σ) 3) (rest))))).symm ?_
  refine j_aload_n C dX2_save_20 rfl ?_
  refine j_aload_n C dX2_save_21 rfl ?_
  refine j_getf C (q0 := 20) (ci := 2) (k := 1) inX2 rfl (by decide) tw_234 rfl rfl dX2_save_22 ?_
  refine j_iconst C ic_1 dX2_save_25 ?_
  refine j_iadd C dX2_save_26 ?_
  refine j_iconst C ic_4 dX2_save_27 ?_
  refine j_irem C dX2_save_28 (by decide) ?_
  refine j_putf C (q0 := 20) (ci := 2) (k := 1) (ty := .int) (ws' := (wT a d o hh sl b cI cS σ (upd t 4 (t 4 + (1 : Int32) - (t 4 + (1 : Int32)) / (4 : Int32) * (4 : Int32))) (va_up h 0 σ) rest)) inX2 tyX2_ok nmX2 rfl (by decide) tw_234 rfl (by decide +kernel) rfl rfl rfl (Nat.le_of_ble_eq_true rfl) rfl dX2_save_29 ?_
  refine j_aload_n C dX2_save_32 rfl ?_
  refine j_aload_n C dX2_save_33 rfl ?_
  refine j_getf C (q0 := 20) (ci := 2) (k := 0) inX2 rfl (by decide) tw_232 rfl rfl dX2_save_34 ?_
  refine j_iconst C ic_1 dX2_save_37 ?_
  refine j_iadd C dX2_save_38 ?_
  refine j_iconst C ic_4 dX2_save_39 ?_
  refine j_min C tw_314 tw_293 tw_11 tw_294 (Nat.le_of_ble_eq_true rfl) (Nat.le_of_ble_eq_true rfl) ⟨Nat.zero_le _, Nat.zero_le _⟩ dX2_save_40 ?_
  refine j_putf C (q0 := 20) (ci := 2) (k := 0) (ty := .int) (ws' := (wT a d o hh sl b cI cS σ (upd (upd t 4 (t 4 + (1 : Int32) - (t 4 + (1 : Int32)) / (4 : Int32) * (4 : Int32))) 3 (if (4 : Int32) < (upd t 4 (t 4 + (1 : Int32) - (t 4 + (1 : Int32)) / (4 : Int32) * (4 : Int32))) 3 + (1 : Int32) then (4 : Int32) else (upd t 4 (t 4 + (1 : Int32) - (t 4 + (1 : Int32)) / (4 : Int32) * (4 : Int32))) 3 + (1 : Int32))) (va_up h 0 σ) rest)) inX2 tyX2_ok nmX2 rfl (by decide) tw_232 rfl (by decide +kernel) rfl rfl rfl (Nat.le_of_ble_eq_true rfl) rfl dX2_save_43 ?_
  exact j_vret C dX2_save_46
set_option maxRecDepth 100000 in
set_option maxHeartbeats 4000000 in
theorem c_save_1 {l : Launch} {D : va_G} {cI cS : ClassId} {A : Nat → Prop} {a : Nat → Nat} {d o hh sl : Nat} {b : Nat → Nat → Nat} {rest : va_W} {σ : Nat → Nat → Int32} {t : Nat → Int32} {h : Nat → Nat → Nat → Int32} (hr : vp_in (t 4) 4) (hi : (t 4).toNatClampNeg = 1) : CT l yX2_save cX2_save 3 none (rmF 4 127) D cI cS A [.ref hh, .ref (a 0)] (wT a d o hh sl b cI cS σ t h rest) (wT a d o hh sl b cI cS σ (upd (upd t 4 (t 4 + (1 : Int32) - (t 4 + (1 : Int32)) / (4 : Int32) * (4 : Int32))) 3 (if (4 : Int32) < (upd t 4 (t 4 + (1 : Int32) - (t 4 + (1 : Int32)) / (4 : Int32) * (4 : Int32))) 3 + (1 : Int32) then (4 : Int32) else (upd t 4 (t 4 + (1 : Int32) - (t 4 + (1 : Int32)) / (4 : Int32) * (4 : Int32))) 3 + (1 : Int32))) (va_up h 1 σ) rest) none := by
  refine CT_of (own := RX2) (xs := [some (.ref hh), some (.ref (a 0)), none]) (by decide) rfl (Nat.le_of_ble_eq_true rfl) rfl ?_
  intro p e s_ m below meth c C
  refine j_aload_n C dX2_save_0 rfl ?_
  refine j_getf C (q0 := 20) (ci := 2) (k := 2) inX2 rfl (by decide) tw_235 rfl rfl dX2_save_1 ?_
  refine j_aload_n C dX2_save_4 rfl ?_
  refine j_getf C (q0 := 20) (ci := 2) (k := 1) inX2 rfl (by decide) tw_234 rfl rfl dX2_save_5 ?_
  refine j_aald C (q0 := 21) (b := b 1 0) rfl hr (by show some (b ((t 4).toNatClampNeg) 0) = _; rw [hi]) dX2_save_8 ?_
  refine j_astore_n C (xs' := [some (.ref hh), some (.ref (a 0)), some (.ref (b 1 0))]) dX2_save_9 rfl rfl ?_
  refine j_aload_n C dX2_save_10 rfl ?_
  refine j_ifnonnull C (tgt := 15) (by decide) dX2_save_11 ?_
  refine j_aload_n C dX2_save_15 rfl ?_
  refine j_aload_n C dX2_save_16 rfl ?_
  refine j_perm (ws' := wC (b 1) cI (h 1) (wC a cI σ (dv d a :: rsC o d hh a t :: hiC hh sl t :: slC sl cS b :: wC (b 0) cI (h 0) (wC (b 2) cI (h 2) (wC (b 3) cI (h 3) (rest)))))) (perm_out (dv d a :: rsC o d hh a t :: hiC hh sl t :: slC sl cS b :: wC (b 0) cI (h 0) ([])) (wC (b 2) cI (h 2) (wC (b 3) cI (h 3) (rest)))) ?_
  refine j_callV C cl_X2_22 c_X0_copyFrom ⟨Nat.le_of_ble_eq_true rfl, Nat.le_of_ble_eq_true rfl⟩ ⟨Nat.zero_le _, Nat.zero_le _⟩ (q0 := 0) rfl rfl rfl rfl (Nat.le_of_ble_eq_true rfl) rfl rfl wC_fst dX2_save_17 ?_
  refine j_perm (ws' := (wT a d o hh sl b cI cS σ t (va_up h 1 σ) rest)) (perm_out (dv d a :: rsC o d hh a t :: hiC hh sl t :: slC sl cS b :: wC (b 0) cI ((va_up h 1 σ) 0) ([])) (wC (b 2) cI ((va_up h 1 σ) 2) (wC (b 3) cI ((va_up h 1 σ) 3) (rest)))).symm ?_
  refine j_aload_n C dX2_save_20 rfl ?_
  refine j_aload_n C dX2_save_21 rfl ?_
  refine j_getf C (q0 := 20) (ci := 2) (k := 1) inX2 rfl (by decide) tw_234 rfl rfl dX2_save_22 ?_
  refine j_iconst C ic_1 dX2_save_25 ?_
  refine j_iadd C dX2_save_26 ?_
  refine j_iconst C ic_4 dX2_save_27 ?_
  refine j_irem C dX2_save_28 (by decide) ?_
  refine j_putf C (q0 := 20) (ci := 2) (k := 1) (ty := .int) (ws' := (wT a d o hh sl b cI cS σ (upd t 4 (t 4 + (1 : Int32) - (t 4 + (1 : Int32)) / (4 : Int32) * (4 : Int32))) (va_up h 1 σ) rest)) inX2 tyX2_ok nmX2 rfl (by decide) tw_234 rfl (by decide +kernel) rfl rfl rfl (Nat.le_of_ble_eq_true rfl) rfl dX2_save_29 ?_
  refine j_aload_n C dX2_save_32 rfl ?_
  refine j_aload_n C dX2_save_33 rfl ?_
  refine j_getf C (q0 := 20) (ci := 2) (k := 0) inX2 rfl (by decide) tw_232 rfl rfl dX2_save_34 ?_
  refine j_iconst C ic_1 dX2_save_37 ?_
  refine j_iadd C dX2_save_38 ?_
  refine j_iconst C ic_4 dX2_save_39 ?_
  refine j_min C tw_314 tw_293 tw_11 tw_294 (Nat.le_of_ble_eq_true rfl) (Nat.le_of_ble_eq_true rfl) ⟨Nat.zero_le _, Nat.zero_le _⟩ dX2_save_40 ?_
  refine j_putf C (q0 := 20) (ci := 2) (k := 0) (ty := .int) (ws' := (wT a d o hh sl b cI cS σ (upd (upd t 4 (t 4 + (1 : Int32) - (t 4 + (1 : Int32)) / (4 : Int32) * (4 : Int32))) 3 (if (4 : Int32) < (upd t 4 (t 4 + (1 : Int32) - (t 4 + (1 : Int32)) / (4 : Int32) * (4 : Int32))) 3 + (1 : Int32) then (4 : Int32) else (upd t 4 (t 4 + (1 : Int32) - (t 4 + (1 : Int32)) / (4 : Int32) * (4 : Int32))) 3 + (1 : Int32))) (va_up h 1 σ) rest)) inX2 tyX2_ok nmX2 rfl (by decide) tw_232 rfl (by decide +kernel) rfl rfl rfl (Nat.le_of_ble_eq_true rfl) rfl dX2_save_43 ?_
  exact j_vret C dX2_save_46
set_option maxRecDepth 100000 in
set_option maxHeartbeats 4000000 in
theorem c_save_2 {l : Launch} {D : va_G} {cI cS : ClassId} {A : Nat → Prop} {a : Nat → Nat} {d o hh sl : Nat} {b : Nat → Nat → Nat} {rest : va_W} {σ : Nat → Nat → Int32} {t : Nat → Int32} {h : Nat → Nat → Nat → Int32} (hr : vp_in (t 4) 4) (hi : (t 4).toNatClampNeg = 2) : CT l yX2_save cX2_save 3 none (rmF 4 127) D cI cS A [.ref hh, .ref (a 0)] (wT a d o hh sl b cI cS σ t h rest) (wT a d o hh sl b cI cS σ (upd (upd t 4 (t 4 + (1 : Int32) - (t 4 + (1 : Int32)) / (4 : Int32) * (4 : Int32))) 3 (if (4 : Int32) < (upd t 4 (t 4 + (1 : Int32) - (t 4 + (1 : Int32)) / (4 : Int32) * (4 : Int32))) 3 + (1 : Int32) then (4 : Int32) else (upd t 4 (t 4 + (1 : Int32) - (t 4 + (1 : Int32)) / (4 : Int32) * (4 : Int32))) 3 + (1 : Int32))) (va_up h 2 σ) rest) none := by
  refine CT_of (own := RX2) (xs := [some (.ref hh), some (.ref (a 0)), none]) (by decide) rfl (Nat.le_of_ble_eq_true rfl) rfl ?_
  intro p e s_ m below meth c C
  refine j_aload_n C dX2_save_0 rfl ?_
  refine j_getf C (q0 := 20) (ci := 2) (k := 2) inX2 rfl (by decide) tw_235 rfl rfl dX2_save_1 ?_
  refine j_aload_n C dX2_save_4 rfl ?_
  refine j_getf C (q0 := 20) (ci := 2) (k := 1) inX2 rfl (by decide) tw_234 rfl rfl dX2_save_5 ?_
  refine j_aald C (q0 := 21) (b := b 2 0) rfl hr (by show some (b ((t 4).toNatClampNeg) 0) = _; rw [hi]) dX2_save_8 ?_
  refine j_astore_n C (xs' := [some (.ref hh), some (.ref (a 0)), some (.ref (b 2 0))]) dX2_save_9 rfl rfl ?_
  refine j_aload_n C dX2_save_10 rfl ?_
  refine j_ifnonnull C (tgt := 15) (by decide) dX2_save_11 ?_
  refine j_aload_n C dX2_save_15 rfl ?_
  refine j_aload_n C dX2_save_16 rfl ?_
  refine j_perm (ws' := wC (b 2) cI (h 2) (wC a cI σ (dv d a :: rsC o d hh a t :: hiC hh sl t :: slC sl cS b :: wC (b 0) cI (h 0) (wC (b 1) cI (h 1) (wC (b 3) cI (h 3) (rest)))))) (perm_out (dv d a :: rsC o d hh a t :: hiC hh sl t :: slC sl cS b :: wC (b 0) cI (h 0) (wC (b 1) cI (h 1) ([]))) (wC (b 3) cI (h 3) (rest))) ?_
  refine j_callV C cl_X2_22 c_X0_copyFrom ⟨Nat.le_of_ble_eq_true rfl, Nat.le_of_ble_eq_true rfl⟩ ⟨Nat.zero_le _, Nat.zero_le _⟩ (q0 := 0) rfl rfl rfl rfl (Nat.le_of_ble_eq_true rfl) rfl rfl wC_fst dX2_save_17 ?_
  refine j_perm (ws' := (wT a d o hh sl b cI cS σ t (va_up h 2 σ) rest)) (perm_out (dv d a :: rsC o d hh a t :: hiC hh sl t :: slC sl cS b :: wC (b 0) cI ((va_up h 2 σ) 0) (wC (b 1) cI ((va_up h 2 σ) 1) ([]))) (wC (b 3) cI ((va_up h 2 σ) 3) (rest))).symm ?_
  refine j_aload_n C dX2_save_20 rfl ?_
  refine j_aload_n C dX2_save_21 rfl ?_
  refine j_getf C (q0 := 20) (ci := 2) (k := 1) inX2 rfl (by decide) tw_234 rfl rfl dX2_save_22 ?_
  refine j_iconst C ic_1 dX2_save_25 ?_
  refine j_iadd C dX2_save_26 ?_
  refine j_iconst C ic_4 dX2_save_27 ?_
  refine j_irem C dX2_save_28 (by decide) ?_
  refine j_putf C (q0 := 20) (ci := 2) (k := 1) (ty := .int) (ws' := (wT a d o hh sl b cI cS σ (upd t 4 (t 4 + (1 : Int32) - (t 4 + (1 : Int32)) / (4 : Int32) * (4 : Int32))) (va_up h 2 σ) rest)) inX2 tyX2_ok nmX2 rfl (by decide) tw_234 rfl (by decide +kernel) rfl rfl rfl (Nat.le_of_ble_eq_true rfl) rfl dX2_save_29 ?_
  refine j_aload_n C dX2_save_32 rfl ?_
  refine j_aload_n C dX2_save_33 rfl ?_
  refine j_getf C (q0 := 20) (ci := 2) (k := 0) inX2 rfl (by decide) tw_232 rfl rfl dX2_save_34 ?_
  refine j_iconst C ic_1 dX2_save_37 ?_
  refine j_iadd C dX2_save_38 ?_
  refine j_iconst C ic_4 dX2_save_39 ?_
  refine j_min C tw_314 tw_293 tw_11 tw_294 (Nat.le_of_ble_eq_true rfl) (Nat.le_of_ble_eq_true rfl) ⟨Nat.zero_le _, Nat.zero_le _⟩ dX2_save_40 ?_
  refine j_putf C (q0 := 20) (ci := 2) (k := 0) (ty := .int) (ws' := (wT a d o hh sl b cI cS σ (upd (upd t 4 (t 4 + (1 : Int32) - (t 4 + (1 : Int32)) / (4 : Int32) * (4 : Int32))) 3 (if (4 : Int32) < (upd t 4 (t 4 + (1 : Int32) - (t 4 + (1 : Int32)) / (4 : Int32) * (4 : Int32))) 3 + (1 : Int32) then (4 : Int32) else (upd t 4 (t 4 + (1 : Int32) - (t 4 + (1 : Int32)) / (4 : Int32) * (4 : Int32))) 3 + (1 : Int32))) (va_up h 2 σ) rest)) inX2 tyX2_ok nmX2 rfl (by decide) tw_232 rfl (by decide +kernel) rfl rfl rfl (Nat.le_of_ble_eq_true rfl) rfl dX2_save_43 ?_
  exact j_vret C dX2_save_46
set_option maxRecDepth 100000 in
set_option maxHeartbeats 4000000 in
theorem c_save_3 {l : Launch} {D : va_G} {cI cS : ClassId} {A : Nat → Prop} {a : Nat → Nat} {d o hh sl : Nat} {b : Nat → Nat → Nat} {rest : va_W} {σ : Nat → Nat → Int32} {t : Nat → Int32} {h : Nat → Nat → Nat → Int32} (hr : vp_in (t 4) 4) (hi : (t 4).toNatClampNeg = 3) : CT l yX2_save cX2_save 3 none (rmF 4 127) D cI cS A [.ref hh, .ref (a 0)] (wT a d o hh sl b cI cS σ t h rest) (wT a d o hh sl b cI cS σ (upd (upd t 4 (t 4 + (1 : Int32) - (t 4 + (1 : Int32)) / (4 : Int32) * (4 : Int32))) 3 (if (4 : Int32) < (upd t 4 (t 4 + (1 : Int32) - (t 4 + (1 : Int32)) / (4 : Int32) * (4 : Int32))) 3 + (1 : Int32) then (4 : Int32) else (upd t 4 (t 4 + (1 : Int32) - (t 4 + (1 : Int32)) / (4 : Int32) * (4 : Int32))) 3 + (1 : Int32))) (va_up h 3 σ) rest) none := by
  refine CT_of (own := RX2) (xs := [some (.ref hh), some (.ref (a 0)), none]) (by decide) rfl (Nat.le_of_ble_eq_true rfl) rfl ?_
  intro p e s_ m below meth c C
  refine j_aload_n C dX2_save_0 rfl ?_
  refine j_getf C (q0 := 20) (ci := 2) (k := 2) inX2 rfl (by decide) tw_235 rfl rfl dX2_save_1 ?_
  refine j_aload_n C dX2_save_4 rfl ?_
  refine j_getf C (q0 := 20) (ci := 2) (k := 1) inX2 rfl (by decide) tw_234 rfl rfl dX2_save_5 ?_
  refine j_aald C (q0 := 21) (b := b 3 0) rfl hr (by show some (b ((t 4).toNatClampNeg) 0) = _; rw [hi]) dX2_save_8 ?_
  refine j_astore_n C (xs' := [some (.ref hh), some (.ref (a 0)), some (.ref (b 3 0))]) dX2_save_9 rfl rfl ?_
  refine j_aload_n C dX2_save_10 rfl ?_
  refine j_ifnonnull C (tgt := 15) (by decide) dX2_save_11 ?_
  refine j_aload_n C dX2_save_15 rfl ?_
  refine j_aload_n C dX2_save_16 rfl ?_
  refine j_perm (ws' := wC (b 3) cI (h 3) (wC a cI σ (dv d a :: rsC o d hh a t :: hiC hh sl t :: slC sl cS b :: wC (b 0) cI (h 0) (wC (b 1) cI (h 1) (wC (b 2) cI (h 2) (rest)))))) (perm_out (dv d a :: rsC o d hh a t :: hiC hh sl t :: slC sl cS b :: wC (b 0) cI (h 0) (wC (b 1) cI (h 1) (wC (b 2) cI (h 2) ([])))) (rest)) ?_
  refine j_callV C cl_X2_22 c_X0_copyFrom ⟨Nat.le_of_ble_eq_true rfl, Nat.le_of_ble_eq_true rfl⟩ ⟨Nat.zero_le _, Nat.zero_le _⟩ (q0 := 0) rfl rfl rfl rfl (Nat.le_of_ble_eq_true rfl) rfl rfl wC_fst dX2_save_17 ?_
  refine j_perm (ws' := (wT a d o hh sl b cI cS σ t (va_up h 3 σ) rest)) (perm_out (dv d a :: rsC o d hh a t :: hiC hh sl t :: slC sl cS b :: wC (b 0) cI ((va_up h 3 σ) 0) (wC (b 1) cI ((va_up h 3 σ) 1) (wC (b 2) cI ((va_up h 3 σ) 2) ([])))) (rest)).symm ?_
  refine j_aload_n C dX2_save_20 rfl ?_
  refine j_aload_n C dX2_save_21 rfl ?_
  refine j_getf C (q0 := 20) (ci := 2) (k := 1) inX2 rfl (by decide) tw_234 rfl rfl dX2_save_22 ?_
  refine j_iconst C ic_1 dX2_save_25 ?_
  refine j_iadd C dX2_save_26 ?_
  refine j_iconst C ic_4 dX2_save_27 ?_
  refine j_irem C dX2_save_28 (by decide) ?_
  refine j_putf C (q0 := 20) (ci := 2) (k := 1) (ty := .int) (ws' := (wT a d o hh sl b cI cS σ (upd t 4 (t 4 + (1 : Int32) - (t 4 + (1 : Int32)) / (4 : Int32) * (4 : Int32))) (va_up h 3 σ) rest)) inX2 tyX2_ok nmX2 rfl (by decide) tw_234 rfl (by decide +kernel) rfl rfl rfl (Nat.le_of_ble_eq_true rfl) rfl dX2_save_29 ?_
  refine j_aload_n C dX2_save_32 rfl ?_
  refine j_aload_n C dX2_save_33 rfl ?_
  refine j_getf C (q0 := 20) (ci := 2) (k := 0) inX2 rfl (by decide) tw_232 rfl rfl dX2_save_34 ?_
  refine j_iconst C ic_1 dX2_save_37 ?_
  refine j_iadd C dX2_save_38 ?_
  refine j_iconst C ic_4 dX2_save_39 ?_
  refine j_min C tw_314 tw_293 tw_11 tw_294 (Nat.le_of_ble_eq_true rfl) (Nat.le_of_ble_eq_true rfl) ⟨Nat.zero_le _, Nat.zero_le _⟩ dX2_save_40 ?_
  refine j_putf C (q0 := 20) (ci := 2) (k := 0) (ty := .int) (ws' := (wT a d o hh sl b cI cS σ (upd (upd t 4 (t 4 + (1 : Int32) - (t 4 + (1 : Int32)) / (4 : Int32) * (4 : Int32))) 3 (if (4 : Int32) < (upd t 4 (t 4 + (1 : Int32) - (t 4 + (1 : Int32)) / (4 : Int32) * (4 : Int32))) 3 + (1 : Int32) then (4 : Int32) else (upd t 4 (t 4 + (1 : Int32) - (t 4 + (1 : Int32)) / (4 : Int32) * (4 : Int32))) 3 + (1 : Int32))) (va_up h 3 σ) rest)) inX2 tyX2_ok nmX2 rfl (by decide) tw_232 rfl (by decide +kernel) rfl rfl rfl (Nat.le_of_ble_eq_true rfl) rfl dX2_save_43 ?_
  exact j_vret C dX2_save_46
def f_X2_save (σ : Nat → Nat → Int32) (t : Nat → Int32) (h : Nat → Nat → Nat → Int32) : Option ((Nat → Int32) × (Nat → Nat → Nat → Int32)) := if t 4 < 0 ∨ 4 ≤ (t 4).toNatClampNeg then none else some ((upd (upd t 4 (t 4 + (1 : Int32) - (t 4 + (1 : Int32)) / (4 : Int32) * (4 : Int32))) 3 (if (4 : Int32) < (upd t 4 (t 4 + (1 : Int32) - (t 4 + (1 : Int32)) / (4 : Int32) * (4 : Int32))) 3 + (1 : Int32) then (4 : Int32) else (upd t 4 (t 4 + (1 : Int32) - (t 4 + (1 : Int32)) / (4 : Int32) * (4 : Int32))) 3 + (1 : Int32))), va_up h (t 4).toNatClampNeg σ)
set_option maxRecDepth 100000 in
set_option maxHeartbeats 4000000 in
theorem c_X2_save {l : Launch} {D : va_G} {cI cS : ClassId} {A : Nat → Prop} {a : Nat → Nat} {d o hh sl : Nat} {b : Nat → Nat → Nat} {rest : va_W} {σ : Nat → Nat → Int32} {t : Nat → Int32} {h : Nat → Nat → Nat → Int32} {r : (Nat → Int32) × (Nat → Nat → Nat → Int32)} (hf : f_X2_save σ t h = some r) : CT l yX2_save cX2_save 3 none (rmF 4 127) D cI cS A [.ref hh, .ref (a 0)] (wT a d o hh sl b cI cS σ t h rest) (wT a d o hh sl b cI cS σ r.1 r.2 rest) none := by
  unfold f_X2_save at hf
  split at hf
  · cases hf
  rename_i q
  cases hf
  have h4 : (t 4).toNatClampNeg < 4 := Nat.not_le.mp fun z => q (Or.inr z)
  rcases (show (t 4).toNatClampNeg = 0 ∨ (t 4).toNatClampNeg = 1 ∨ (t 4).toNatClampNeg = 2 ∨ (t 4).toNatClampNeg = 3 by omega) with z | z | z | z
  · rw [z]; exact c_save_0 q z
  · rw [z]; exact c_save_1 q z
  · rw [z]; exact c_save_2 q z
  · rw [z]; exact c_save_3 q z
set_option maxRecDepth 100000 in
set_option maxHeartbeats 4000000 in
theorem c_rest_0 {l : Launch} {D : va_G} {cI cS : ClassId} {A : Nat → Prop} {a : Nat → Nat} {d o hh sl : Nat} {b : Nat → Nat → Nat} {rest : va_W} {σ : Nat → Nat → Int32} {t : Nat → Int32} {h : Nat → Nat → Nat → Int32} (hr : vp_in ((t 4 + (4 : Int32) - (1 : Int32)) - (t 4 + (4 : Int32) - (1 : Int32)) / (4 : Int32) * (4 : Int32)) 4) (hi : ((t 4 + (4 : Int32) - (1 : Int32)) - (t 4 + (4 : Int32) - (1 : Int32)) / (4 : Int32) * (4 : Int32)).toNatClampNeg = 0) (h0 : ¬ t 3 = 0) : CT l yX2_restoreInto cX2_restoreInto 4 none (rmF 4 127) D cI cS A [.ref hh, .ref (a 0)] (wT a d o hh sl b cI cS σ t h rest) (wT a d o hh sl b cI cS (h 0) (upd (upd t 4 ((t 4 + (4 : Int32) - (1 : Int32)) - (t 4 + (4 : Int32) - (1 : Int32)) / (4 : Int32) * (4 : Int32))) 3 ((upd t 4 ((t 4 + (4 : Int32) - (1 : Int32)) - (t 4 + (4 : Int32) - (1 : Int32)) / (4 : Int32) * (4 : Int32))) 3 - (1 : Int32))) h rest) none := by
  refine CT_of (own := RX2) (xs := [some (.ref hh), some (.ref (a 0)), none, none]) (by decide) rfl (Nat.le_of_ble_eq_true rfl) rfl ?_
  intro p e s_ m below meth c C
  refine j_aload_n C dX2_restoreInto_0 rfl ?_
  refine j_getf C (q0 := 20) (ci := 2) (k := 1) inX2 rfl (by decide) tw_234 rfl rfl dX2_restoreInto_1 ?_
  refine j_iconst C ic_4 dX2_restoreInto_4 ?_
  refine j_iadd C dX2_restoreInto_5 ?_
  refine j_iconst C ic_1 dX2_restoreInto_6 ?_
  refine j_isub C dX2_restoreInto_7 ?_
  refine j_iconst C ic_4 dX2_restoreInto_8 ?_
  refine j_irem C dX2_restoreInto_9 (by decide) ?_
  refine j_istore_n C (xs' := [some (.ref hh), some (.ref (a 0)), some (.int ((t 4 + (4 : Int32) - (1 : Int32)) - (t 4 + (4 : Int32) - (1 : Int32)) / (4 : Int32) * (4 : Int32))), none]) dX2_restoreInto_10 rfl rfl ?_
  refine j_aload_n C dX2_restoreInto_11 rfl ?_
  refine j_getf C (q0 := 20) (ci := 2) (k := 2) inX2 rfl (by decide) tw_235 rfl rfl dX2_restoreInto_12 ?_
  refine j_iload_n C dX2_restoreInto_15 rfl ?_
  refine j_aald C (q0 := 21) (b := b 0 0) rfl hr (by show some (b (((t 4 + (4 : Int32) - (1 : Int32)) - (t 4 + (4 : Int32) - (1 : Int32)) / (4 : Int32) * (4 : Int32)).toNatClampNeg) 0) = _; rw [hi]) dX2_restoreInto_16 ?_
  refine j_astore_n C (xs' := [some (.ref hh), some (.ref (a 0)), some (.int ((t 4 + (4 : Int32) - (1 : Int32)) - (t 4 + (4 : Int32) - (1 : Int32)) / (4 : Int32) * (4 : Int32))), some (.ref (b 0 0))]) dX2_restoreInto_17 rfl rfl ?_
  refine j_aload_n C dX2_restoreInto_18 rfl ?_
  refine j_ifnull C dX2_restoreInto_19 ?_
  refine j_aload_n C dX2_restoreInto_22 rfl ?_
  refine j_getf C (q0 := 20) (ci := 2) (k := 0) inX2 rfl (by decide) tw_232 rfl rfl dX2_restoreInto_23 ?_
  refine j_if_ne C (tgt := 30) (by decide) dX2_restoreInto_26 (fun _ => ?_) (fun hz => absurd hz h0)
  refine j_aload_n C dX2_restoreInto_30 rfl ?_
  refine j_aload_n C dX2_restoreInto_31 rfl ?_
  refine j_perm (ws' := wC a cI σ (wC (b 0) cI (h 0) (dv d a :: rsC o d hh a t :: hiC hh sl t :: slC sl cS b :: wC (b 1) cI (h 1) (wC (b 2) cI (h 2) (wC (b 3) cI (h 3) (rest)))))) (perm_in (dv d a :: rsC o d hh a t :: hiC hh sl t :: slC sl cS b :: []) (wC (b 1) cI (h 1) (wC (b 2) cI (h 2) (wC (b 3) cI (h 3) (rest))))) ?_
  refine j_callV C cl_X2_22 c_X0_copyFrom ⟨Nat.le_of_ble_eq_true rfl, Nat.le_of_ble_eq_true rfl⟩ ⟨Nat.zero_le _, Nat.zero_le _⟩ (q0 := 0) rfl rfl rfl rfl (Nat.le_of_ble_eq_true rfl) rfl rfl wC_fst dX2_restoreInto_32 ?_
  refine j_perm (ws' := (wT a d o hh sl b cI cS (h 0) t h rest)) (perm_in (dv d a :: rsC o d hh a t :: hiC hh sl t :: slC sl cS b :: []) (wC (b 1) cI (h 1) (wC (b 2) cI (h 2) (wC (b 3) cI (h 3) (rest))))).symm ?_
  refine j_aload_n C dX2_restoreInto_35 rfl ?_
  refine j_iload_n C dX2_restoreInto_36 rfl ?_
  refine j_putf C (q0 := 20) (ci := 2) (k := 1) (ty := .int) (ws' := (wT a d o hh sl b cI cS (h 0) (upd t 4 ((t 4 + (4 : Int32) - (1 : Int32)) - (t 4 + (4 : Int32) - (1 : Int32)) / (4 : Int32) * (4 : Int32))) h rest)) inX2 tyX2_ok nmX2 rfl (by decide) tw_234 rfl (by decide +kernel) rfl rfl rfl (Nat.le_of_ble_eq_true rfl) rfl dX2_restoreInto_37 ?_
  refine j_aload_n C dX2_restoreInto_40 rfl ?_
  refine j_dup C dX2_restoreInto_41 rfl ?_
  refine j_getf C (q0 := 20) (ci := 2) (k := 0) inX2 rfl (by decide) tw_232 rfl rfl dX2_restoreInto_42 ?_
  refine j_iconst C ic_1 dX2_restoreInto_45 ?_
  refine j_isub C dX2_restoreInto_46 ?_
  refine j_putf C (q0 := 20) (ci := 2) (k := 0) (ty := .int) (ws' := (wT a d o hh sl b cI cS (h 0) (upd (upd t 4 ((t 4 + (4 : Int32) - (1 : Int32)) - (t 4 + (4 : Int32) - (1 : Int32)) / (4 : Int32) * (4 : Int32))) 3 ((upd t 4 ((t 4 + (4 : Int32) - (1 : Int32)) - (t 4 + (4 : Int32) - (1 : Int32)) / (4 : Int32) * (4 : Int32))) 3 - (1 : Int32))) h rest)) inX2 tyX2_ok nmX2 rfl (by decide) tw_232 rfl (by decide +kernel) rfl rfl rfl (Nat.le_of_ble_eq_true rfl) rfl dX2_restoreInto_47 ?_
  exact j_vret C dX2_restoreInto_50
set_option maxRecDepth 100000 in
set_option maxHeartbeats 4000000 in
theorem c_rest_1 {l : Launch} {D : va_G} {cI cS : ClassId} {A : Nat → Prop} {a : Nat → Nat} {d o hh sl : Nat} {b : Nat → Nat → Nat} {rest : va_W} {σ : Nat → Nat → Int32} {t : Nat → Int32} {h : Nat → Nat → Nat → Int32} (hr : vp_in ((t 4 + (4 : Int32) - (1 : Int32)) - (t 4 + (4 : Int32) - (1 : Int32)) / (4 : Int32) * (4 : Int32)) 4) (hi : ((t 4 + (4 : Int32) - (1 : Int32)) - (t 4 + (4 : Int32) - (1 : Int32)) / (4 : Int32) * (4 : Int32)).toNatClampNeg = 1) (h0 : ¬ t 3 = 0) : CT l yX2_restoreInto cX2_restoreInto 4 none (rmF 4 127) D cI cS A [.ref hh, .ref (a 0)] (wT a d o hh sl b cI cS σ t h rest) (wT a d o hh sl b cI cS (h 1) (upd (upd t 4 ((t 4 + (4 : Int32) - (1 : Int32)) - (t 4 + (4 : Int32) - (1 : Int32)) / (4 : Int32) * (4 : Int32))) 3 ((upd t 4 ((t 4 + (4 : Int32) - (1 : Int32)) - (t 4 + (4 : Int32) - (1 : Int32)) / (4 : Int32) * (4 : Int32))) 3 - (1 : Int32))) h rest) none := by
  refine CT_of (own := RX2) (xs := [some (.ref hh), some (.ref (a 0)), none, none]) (by decide) rfl (Nat.le_of_ble_eq_true rfl) rfl ?_
  intro p e s_ m below meth c C
  refine j_aload_n C dX2_restoreInto_0 rfl ?_
  refine j_getf C (q0 := 20) (ci := 2) (k := 1) inX2 rfl (by decide) tw_234 rfl rfl dX2_restoreInto_1 ?_
  refine j_iconst C ic_4 dX2_restoreInto_4 ?_
  refine j_iadd C dX2_restoreInto_5 ?_
  refine j_iconst C ic_1 dX2_restoreInto_6 ?_
  refine j_isub C dX2_restoreInto_7 ?_
  refine j_iconst C ic_4 dX2_restoreInto_8 ?_
  refine j_irem C dX2_restoreInto_9 (by decide) ?_
  refine j_istore_n C (xs' := [some (.ref hh), some (.ref (a 0)), some (.int ((t 4 + (4 : Int32) - (1 : Int32)) - (t 4 + (4 : Int32) - (1 : Int32)) / (4 : Int32) * (4 : Int32))), none]) dX2_restoreInto_10 rfl rfl ?_
  refine j_aload_n C dX2_restoreInto_11 rfl ?_
  refine j_getf C (q0 := 20) (ci := 2) (k := 2) inX2 rfl (by decide) tw_235 rfl rfl dX2_restoreInto_12 ?_
  refine j_iload_n C dX2_restoreInto_15 rfl ?_
  refine j_aald C (q0 := 21) (b := b 1 0) rfl hr (by show some (b (((t 4 + (4 : Int32) - (1 : Int32)) - (t 4 + (4 : Int32) - (1 : Int32)) / (4 : Int32) * (4 : Int32)).toNatClampNeg) 0) = _; rw [hi]) dX2_restoreInto_16 ?_
  refine j_astore_n C (xs' := [some (.ref hh), some (.ref (a 0)), some (.int ((t 4 + (4 : Int32) - (1 : Int32)) - (t 4 + (4 : Int32) - (1 : Int32)) / (4 : Int32) * (4 : Int32))), some (.ref (b 1 0))]) dX2_restoreInto_17 rfl rfl ?_
  refine j_aload_n C dX2_restoreInto_18 rfl ?_
  refine j_ifnull C dX2_restoreInto_19 ?_
  refine j_aload_n C dX2_restoreInto_22 rfl ?_
  refine j_getf C (q0 := 20) (ci := 2) (k := 0) inX2 rfl (by decide) tw_232 rfl rfl dX2_restoreInto_23 ?_
  refine j_if_ne C (tgt := 30) (by decide) dX2_restoreInto_26 (fun _ => ?_) (fun hz => absurd hz h0)
  refine j_aload_n C dX2_restoreInto_30 rfl ?_
  refine j_aload_n C dX2_restoreInto_31 rfl ?_
  refine j_perm (ws' := wC a cI σ (wC (b 1) cI (h 1) (dv d a :: rsC o d hh a t :: hiC hh sl t :: slC sl cS b :: wC (b 0) cI (h 0) (wC (b 2) cI (h 2) (wC (b 3) cI (h 3) (rest)))))) (perm_in (dv d a :: rsC o d hh a t :: hiC hh sl t :: slC sl cS b :: wC (b 0) cI (h 0) ([])) (wC (b 2) cI (h 2) (wC (b 3) cI (h 3) (rest)))) ?_
  refine j_callV C cl_X2_22 c_X0_copyFrom ⟨Nat.le_of_ble_eq_true rfl, Nat.le_of_ble_eq_true rfl⟩ ⟨Nat.zero_le _, Nat.zero_le _⟩ (q0 := 0) rfl rfl rfl rfl (Nat.le_of_ble_eq_true rfl) rfl rfl wC_fst dX2_restoreInto_32 ?_
  refine j_perm (ws' := (wT a d o hh sl b cI cS (h 1) t h rest)) (perm_in (dv d a :: rsC o d hh a t :: hiC hh sl t :: slC sl cS b :: wC (b 0) cI (h 0) ([])) (wC (b 2) cI (h 2) (wC (b 3) cI (h 3) (rest)))).symm ?_
  refine j_aload_n C dX2_restoreInto_35 rfl ?_
  refine j_iload_n C dX2_restoreInto_36 rfl ?_
  refine j_putf C (q0 := 20) (ci := 2) (k := 1) (ty := .int) (ws' := (wT a d o hh sl b cI cS (h 1) (upd t 4 ((t 4 + (4 : Int32) - (1 : Int32)) - (t 4 + (4 : Int32) - (1 : Int32)) / (4 : Int32) * (4 : Int32))) h rest)) inX2 tyX2_ok nmX2 rfl (by decide) tw_234 rfl (by decide +kernel) rfl rfl rfl (Nat.le_of_ble_eq_true rfl) rfl dX2_restoreInto_37 ?_
  refine j_aload_n C dX2_restoreInto_40 rfl ?_
  refine j_dup C dX2_restoreInto_41 rfl ?_
  refine j_getf C (q0 := 20) (ci := 2) (k := 0) inX2 rfl (by decide) tw_232 rfl rfl dX2_restoreInto_42 ?_
  refine j_iconst C ic_1 dX2_restoreInto_45 ?_
  refine j_isub C dX2_restoreInto_46 ?_
  refine j_putf C (q0 := 20) (ci := 2) (k := 0) (ty := .int) (ws' := (wT a d o hh sl b cI cS (h 1) (upd (upd t 4 ((t 4 + (4 : Int32) - (1 : Int32)) - (t 4 + (4 : Int32) - (1 : Int32)) / (4 : Int32) * (4 : Int32))) 3 ((upd t 4 ((t 4 + (4 : Int32) - (1 : Int32)) - (t 4 + (4 : Int32) - (1 : Int32)) / (4 : Int32) * (4 : Int32))) 3 - (1 : Int32))) h rest)) inX2 tyX2_ok nmX2 rfl (by decide) tw_232 rfl (by decide +kernel) rfl rfl rfl (Nat.le_of_ble_eq_true rfl) rfl dX2_restoreInto_47 ?_
  exact j_vret C dX2_restoreInto_50
set_option maxRecDepth 100000 in
set_option maxHeartbeats 4000000 in
theorem c_rest_2 {l : Launch} {D : va_G} {cI cS : ClassId} {A : Nat → Prop} {a : Nat → Nat} {d o hh sl : Nat} {b : Nat → Nat → Nat} {rest : va_W} {σ : Nat → Nat → Int32} {t : Nat → Int32} {h : Nat → Nat → Nat → Int32} (hr : vp_in ((t 4 + (4 : Int32) - (1 : Int32)) - (t 4 + (4 : Int32) - (1 : Int32)) / (4 : Int32) * (4 : Int32)) 4) (hi : ((t 4 + (4 : Int32) - (1 : Int32)) - (t 4 + (4 : Int32) - (1 : Int32)) / (4 : Int32) * (4 : Int32)).toNatClampNeg = 2) (h0 : ¬ t 3 = 0) : CT l yX2_restoreInto cX2_restoreInto 4 none (rmF 4 127) D cI cS A [.ref hh, .ref (a 0)] (wT a d o hh sl b cI cS σ t h rest) (wT a d o hh sl b cI cS (h 2) (upd (upd t 4 ((t 4 + (4 : Int32) - (1 : Int32)) - (t 4 + (4 : Int32) - (1 : Int32)) / (4 : Int32) * (4 : Int32))) 3 ((upd t 4 ((t 4 + (4 : Int32) - (1 : Int32)) - (t 4 + (4 : Int32) - (1 : Int32)) / (4 : Int32) * (4 : Int32))) 3 - (1 : Int32))) h rest) none := by
  refine CT_of (own := RX2) (xs := [some (.ref hh), some (.ref (a 0)), none, none]) (by decide) rfl (Nat.le_of_ble_eq_true rfl) rfl ?_
  intro p e s_ m below meth c C
  refine j_aload_n C dX2_restoreInto_0 rfl ?_
  refine j_getf C (q0 := 20) (ci := 2) (k := 1) inX2 rfl (by decide) tw_234 rfl rfl dX2_restoreInto_1 ?_
  refine j_iconst C ic_4 dX2_restoreInto_4 ?_
  refine j_iadd C dX2_restoreInto_5 ?_
  refine j_iconst C ic_1 dX2_restoreInto_6 ?_
  refine j_isub C dX2_restoreInto_7 ?_
  refine j_iconst C ic_4 dX2_restoreInto_8 ?_
  refine j_irem C dX2_restoreInto_9 (by decide) ?_
  refine j_istore_n C (xs' := [some (.ref hh), some (.ref (a 0)), some (.int ((t 4 + (4 : Int32) - (1 : Int32)) - (t 4 + (4 : Int32) - (1 : Int32)) / (4 : Int32) * (4 : Int32))), none]) dX2_restoreInto_10 rfl rfl ?_
  refine j_aload_n C dX2_restoreInto_11 rfl ?_
  refine j_getf C (q0 := 20) (ci := 2) (k := 2) inX2 rfl (by decide) tw_235 rfl rfl dX2_restoreInto_12 ?_
  refine j_iload_n C dX2_restoreInto_15 rfl ?_
  refine j_aald C (q0 := 21) (b := b 2 0) rfl hr (by show some (b (((t 4 + (4 : Int32) - (1 : Int32)) - (t 4 + (4 : Int32) - (1 : Int32)) / (4 : Int32) * (4 : Int32)).toNatClampNeg) 0) = _; rw [hi]) dX2_restoreInto_16 ?_
  refine j_astore_n C (xs' := [some (.ref hh), some (.ref (a 0)), some (.int ((t 4 + (4 : Int32) - (1 : Int32)) - (t 4 + (4 : Int32) - (1 : Int32)) / (4 : Int32) * (4 : Int32))), some (.ref (b 2 0))]) dX2_restoreInto_17 rfl rfl ?_
  refine j_aload_n C dX2_restoreInto_18 rfl ?_
  refine j_ifnull C dX2_restoreInto_19 ?_
  refine j_aload_n C dX2_restoreInto_22 rfl ?_
  refine j_getf C (q0 := 20) (ci := 2) (k := 0) inX2 rfl (by decide) tw_232 rfl rfl dX2_restoreInto_23 ?_
  refine j_if_ne C (tgt := 30) (by decide) dX2_restoreInto_26 (fun _ => ?_) (fun hz => absurd hz h0)
  refine j_aload_n C dX2_restoreInto_30 rfl ?_
  refine j_aload_n C dX2_restoreInto_31 rfl ?_
  refine j_perm (ws' := wC a cI σ (wC (b 2) cI (h 2) (dv d a :: rsC o d hh a t :: hiC hh sl t :: slC sl cS b :: wC (b 0) cI (h 0) (wC (b 1) cI (h 1) (wC (b 3) cI (h 3) (rest)))))) (perm_in (dv d a :: rsC o d hh a t :: hiC hh sl t :: slC sl cS b :: wC (b 0) cI (h 0) (wC (b 1) cI (h 1) ([]))) (wC (b 3) cI (h 3) (rest))) ?_
  refine j_callV C cl_X2_22 c_X0_copyFrom ⟨Nat.le_of_ble_eq_true rfl, Nat.le_of_ble_eq_true rfl⟩ ⟨Nat.zero_le _, Nat.zero_le _⟩ (q0 := 0) rfl rfl rfl rfl (Nat.le_of_ble_eq_true rfl) rfl rfl wC_fst dX2_restoreInto_32 ?_
  refine j_perm (ws' := (wT a d o hh sl b cI cS (h 2) t h rest)) (perm_in (dv d a :: rsC o d hh a t :: hiC hh sl t :: slC sl cS b :: wC (b 0) cI (h 0) (wC (b 1) cI (h 1) ([]))) (wC (b 3) cI (h 3) (rest))).symm ?_
  refine j_aload_n C dX2_restoreInto_35 rfl ?_
  refine j_iload_n C dX2_restoreInto_36 rfl ?_
  refine j_putf C (q0 := 20) (ci := 2) (k := 1) (ty := .int) (ws' := (wT a d o hh sl b cI cS (h 2) (upd t 4 ((t 4 + (4 : Int32) - (1 : Int32)) - (t 4 + (4 : Int32) - (1 : Int32)) / (4 : Int32) * (4 : Int32))) h rest)) inX2 tyX2_ok nmX2 rfl (by decide) tw_234 rfl (by decide +kernel) rfl rfl rfl (Nat.le_of_ble_eq_true rfl) rfl dX2_restoreInto_37 ?_
  refine j_aload_n C dX2_restoreInto_40 rfl ?_
  refine j_dup C dX2_restoreInto_41 rfl ?_
  refine j_getf C (q0 := 20) (ci := 2) (k := 0) inX2 rfl (by decide) tw_232 rfl rfl dX2_restoreInto_42 ?_
  refine j_iconst C ic_1 dX2_restoreInto_45 ?_
  refine j_isub C dX2_restoreInto_46 ?_
  refine j_putf C (q0 := 20) (ci := 2) (k := 0) (ty := .int) (ws' := (wT a d o hh sl b cI cS (h 2) (upd (upd t 4 ((t 4 + (4 : Int32) - (1 : Int32)) - (t 4 + (4 : Int32) - (1 : Int32)) / (4 : Int32) * (4 : Int32))) 3 ((upd t 4 ((t 4 + (4 : Int32) - (1 : Int32)) - (t 4 + (4 : Int32) - (1 : Int32)) / (4 : Int32) * (4 : Int32))) 3 - (1 : Int32))) h rest)) inX2 tyX2_ok nmX2 rfl (by decide) tw_232 rfl (by decide +kernel) rfl rfl rfl (Nat.le_of_ble_eq_true rfl) rfl dX2_restoreInto_47 ?_
  exact j_vret C dX2_restoreInto_50
set_option maxRecDepth 100000 in
set_option maxHeartbeats 4000000 in
theorem c_rest_3 {l : Launch} {D : va_G} {cI cS : ClassId} {A : Nat → Prop} {a : Nat → Nat} {d o hh sl : Nat} {b : Nat → Nat → Nat} {rest : va_W} {σ : Nat → Nat → Int32} {t : Nat → Int32} {h : Nat → Nat → Nat → Int32} (hr : vp_in ((t 4 + (4 : Int32) - (1 : Int32)) - (t 4 + (4 : Int32) - (1 : Int32)) / (4 : Int32) * (4 : Int32)) 4) (hi : ((t 4 + (4 : Int32) - (1 : Int32)) - (t 4 + (4 : Int32) - (1 : Int32)) / (4 : Int32) * (4 : Int32)).toNatClampNeg = 3) (h0 : ¬ t 3 = 0) : CT l yX2_restoreInto cX2_restoreInto 4 none (rmF 4 127) D cI cS A [.ref hh, .ref (a 0)] (wT a d o hh sl b cI cS σ t h rest) (wT a d o hh sl b cI cS (h 3) (upd (upd t 4 ((t 4 + (4 : Int32) - (1 : Int32)) - (t 4 + (4 : Int32) - (1 : Int32)) / (4 : Int32) * (4 : Int32))) 3 ((upd t 4 ((t 4 + (4 : Int32) - (1 : Int32)) - (t 4 + (4 : Int32) - (1 : Int32)) / (4 : Int32) * (4 : Int32))) 3 - (1 : Int32))) h rest) none := by
  refine CT_of (own := RX2) (xs := [some (.ref hh), some (.ref (a 0)), none, none]) (by decide) rfl (Nat.le_of_ble_eq_true rfl) rfl ?_
  intro p e s_ m below meth c C
  refine j_aload_n C dX2_restoreInto_0 rfl ?_
  refine j_getf C (q0 := 20) (ci := 2) (k := 1) inX2 rfl (by decide) tw_234 rfl rfl dX2_restoreInto_1 ?_
  refine j_iconst C ic_4 dX2_restoreInto_4 ?_
  refine j_iadd C dX2_restoreInto_5 ?_
  refine j_iconst C ic_1 dX2_restoreInto_6 ?_
  refine j_isub C dX2_restoreInto_7 ?_
  refine j_iconst C ic_4 dX2_restoreInto_8 ?_
  refine j_irem C dX2_restoreInto_9 (by decide) ?_
  refine j_istore_n C (xs' := [some (.ref hh), some (.ref (a 0)), some (.int ((t 4 + (4 : Int32) - (1 : Int32)) - (t 4 + (4 : Int32) - (1 : Int32)) / (4 : Int32) * (4 : Int32))), none]) dX2_restoreInto_10 rfl rfl ?_
  refine j_aload_n C dX2_restoreInto_11 rfl ?_
  refine j_getf C (q0 := 20) (ci := 2) (k := 2) inX2 rfl (by decide) tw_235 rfl rfl dX2_restoreInto_12 ?_
  refine j_iload_n C dX2_restoreInto_15 rfl ?_
  refine j_aald C (q0 := 21) (b := b 3 0) rfl hr (by show some (b (((t 4 + (4 : Int32) - (1 : Int32)) - (t 4 + (4 : Int32) - (1 : Int32)) / (4 : Int32) * (4 : Int32)).toNatClampNeg) 0) = _; rw [hi]) dX2_restoreInto_16 ?_
  refine j_astore_n C (xs' := [some (.ref hh), some (.ref (a 0)), some (.int ((t 4 + (4 : Int32) - (1 : Int32)) - (t 4 + (4 : Int32) - (1 : Int32)) / (4 : Int32) * (4 : Int32))), some (.ref (b 3 0))]) dX2_restoreInto_17 rfl rfl ?_
  refine j_aload_n C dX2_restoreInto_18 rfl ?_
  refine j_ifnull C dX2_restoreInto_19 ?_
  refine j_aload_n C dX2_restoreInto_22 rfl ?_
  refine j_getf C (q0 := 20) (ci := 2) (k := 0) inX2 rfl (by decide) tw_232 rfl rfl dX2_restoreInto_23 ?_
  refine j_if_ne C (tgt := 30) (by decide) dX2_restoreInto_26 (fun _ => ?_) (fun hz => absurd hz h0)
  refine j_aload_n C dX2_restoreInto_30 rfl ?_
  refine j_aload_n C dX2_restoreInto_31 rfl ?_
  refine j_perm (ws' := wC a cI σ (wC (b 3) cI (h 3) (dv d a :: rsC o d hh a t :: hiC hh sl t :: slC sl cS b :: wC (b 0) cI (h 0) (wC (b 1) cI (h 1) (wC (b 2) cI (h 2) (rest)))))) (perm_in (dv d a :: rsC o d hh a t :: hiC hh sl t :: slC sl cS b :: wC (b 0) cI (h 0) (wC (b 1) cI (h 1) (wC (b 2) cI (h 2) ([])))) (rest)) ?_
  refine j_callV C cl_X2_22 c_X0_copyFrom ⟨Nat.le_of_ble_eq_true rfl, Nat.le_of_ble_eq_true rfl⟩ ⟨Nat.zero_le _, Nat.zero_le _⟩ (q0 := 0) rfl rfl rfl rfl (Nat.le_of_ble_eq_true rfl) rfl rfl wC_fst dX2_restoreInto_32 ?_
  refine j_perm (ws' := (wT a d o hh sl b cI cS (h 3) t h rest)) (perm_in (dv d a :: rsC o d hh a t :: hiC hh sl t :: slC sl cS b :: wC (b 0) cI (h 0) (wC (b 1) cI (h 1) (wC (b 2) cI (h 2) ([])))) (rest)).symm ?_
  refine j_aload_n C dX2_restoreInto_35 rfl ?_
  refine j_iload_n C dX2_restoreInto_36 rfl ?_
  refine j_putf C (q0 := 20) (ci := 2) (k := 1) (ty := .int) (ws' := (wT a d o hh sl b cI cS (h 3) (upd t 4 ((t 4 + (4 : Int32) - (1 : Int32)) - (t 4 + (4 : Int32) - (1 : Int32)) / (4 : Int32) * (4 : Int32))) h rest)) inX2 tyX2_ok nmX2 rfl (by decide) tw_234 rfl (by decide +kernel) rfl rfl rfl (Nat.le_of_ble_eq_true rfl) rfl dX2_restoreInto_37 ?_
  refine j_aload_n C dX2_restoreInto_40 rfl ?_
  refine j_dup C dX2_restoreInto_41 rfl ?_
  refine j_getf C (q0 := 20) (ci := 2) (k := 0) inX2 rfl (by decide) tw_232 rfl rfl dX2_restoreInto_42 ?_
  refine j_iconst C ic_1 dX2_restoreInto_45 ?_
  refine j_isub C dX2_restoreInto_46 ?_
  refine j_putf C (q0 := 20) (ci := 2) (k := 0) (ty := .int) (ws' := (wT a d o hh sl b cI cS (h 3) (upd (upd t 4 ((t 4 + (4 : Int32) - (1 : Int32)) - (t 4 + (4 : Int32) - (1 : Int32)) / (4 : Int32) * (4 : Int32))) 3 ((upd t 4 ((t 4 + (4 : Int32) - (1 : Int32)) - (t 4 + (4 : Int32) - (1 : Int32)) / (4 : Int32) * (4 : Int32))) 3 - (1 : Int32))) h rest)) inX2 tyX2_ok nmX2 rfl (by decide) tw_232 rfl (by decide +kernel) rfl rfl rfl (Nat.le_of_ble_eq_true rfl) rfl dX2_restoreInto_47 ?_
  exact j_vret C dX2_restoreInto_50
/-- (asked only where the stack is not empty) -/
def f_X2_restoreInto (σ : Nat → Nat → Int32) (t : Nat → Int32) (h : Nat → Nat → Nat → Int32) : Option ((Nat → Nat → Int32) × (Nat → Int32)) := if ((t 4 + (4 : Int32) - (1 : Int32)) - (t 4 + (4 : Int32) - (1 : Int32)) / (4 : Int32) * (4 : Int32)) < 0 ∨ 4 ≤ ((t 4 + (4 : Int32) - (1 : Int32)) - (t 4 + (4 : Int32) - (1 : Int32)) / (4 : Int32) * (4 : Int32)).toNatClampNeg then none else if t 3 = 0 then none else some (h ((t 4 + (4 : Int32) - (1 : Int32)) - (t 4 + (4 : Int32) - (1 : Int32)) / (4 : Int32) * (4 : Int32)).toNatClampNeg, (upd (upd t 4 ((t 4 + (4 : Int32) - (1 : Int32)) - (t 4 + (4 : Int32) - (1 : Int32)) / (4 : Int32) * (4 : Int32))) 3 ((upd t 4 ((t 4 + (4 : Int32) - (1 : Int32)) - (t 4 + (4 : Int32) - (1 : Int32)) / (4 : Int32) * (4 : Int32))) 3 - (1 : Int32))))
set_option maxRecDepth 100000 in
set_option maxHeartbeats 4000000 in
theorem c_X2_restoreInto {l : Launch} {D : va_G} {cI cS : ClassId} {A : Nat → Prop} {a : Nat → Nat} {d o hh sl : Nat} {b : Nat → Nat → Nat} {rest : va_W} {σ : Nat → Nat → Int32} {t : Nat → Int32} {h : Nat → Nat → Nat → Int32} {r : (Nat → Nat → Int32) × (Nat → Int32)} (hf : f_X2_restoreInto σ t h = some r) : CT l yX2_restoreInto cX2_restoreInto 4 none (rmF 4 127) D cI cS A [.ref hh, .ref (a 0)] (wT a d o hh sl b cI cS σ t h rest) (wT a d o hh sl b cI cS r.1 r.2 h rest) none := by
  unfold f_X2_restoreInto at hf
  split at hf
  · cases hf
  rename_i q
  split at hf
  · cases hf
  rename_i q0
  cases hf
  have h4 : ((t 4 + (4 : Int32) - (1 : Int32)) - (t 4 + (4 : Int32) - (1 : Int32)) / (4 : Int32) * (4 : Int32)).toNatClampNeg < 4 := Nat.not_le.mp fun z => q (Or.inr z)
  rcases (show ((t 4 + (4 : Int32) - (1 : Int32)) - (t 4 + (4 : Int32) - (1 : Int32)) / (4 : Int32) * (4 : Int32)).toNatClampNeg = 0 ∨ ((t 4 + (4 : Int32) - (1 : Int32)) - (t 4 + (4 : Int32) - (1 : Int32)) / (4 : Int32) * (4 : Int32)).toNatClampNeg = 1 ∨ ((t 4 + (4 : Int32) - (1 : Int32)) - (t 4 + (4 : Int32) - (1 : Int32)) / (4 : Int32) * (4 : Int32)).toNatClampNeg = 2 ∨ ((t 4 + (4 : Int32) - (1 : Int32)) - (t 4 + (4 : Int32) - (1 : Int32)) / (4 : Int32) * (4 : Int32)).toNatClampNeg = 3 by omega) with z | z | z | z
  · rw [z]; exact c_rest_0 q z q0
  · rw [z]; exact c_rest_1 q z q0
  · rw [z]; exact c_rest_2 q z q0
  · rw [z]; exact c_rest_3 q z q0

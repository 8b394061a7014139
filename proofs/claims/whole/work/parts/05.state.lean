def cr (σ : Nat → Nat → Int32) (r : Nat) (f : Nat → Int32) : Nat → Nat → Int32 := fun r' => bif Nat.beq r' r then f else σ r'
def cu (σ : Nat → Nat → Int32) (r k : Nat) (v : Int32) : Nat → Nat → Int32 := cr σ r (upd (σ r) k v)
def FU : Nat := 5000
def ld {β : Type} (f : Nat → Int32) (n : Nat) (i : Int32) (k : Int32 → Option β) : Option β := if i < 0 ∨ n ≤ i.toNatClampNeg then none else k (f i.toNatClampNeg)
def sd {β : Type} (n : Nat) (i : Int32) (k : Option β) : Option β := if i < 0 ∨ n ≤ i.toNatClampNeg then none else k
def dz {β : Type} (y : Int32) (k : Option β) : Option β := if y = 0 then none else k
def zr {β : Type} (v : Int32) (k : Option β) : Option β := if v &&& 1 = v then k else none
def acB (n0 n1 : Nat) (sp dp n : Int32) : Bool := decide (¬ sp < 0) && (decide (¬ dp < 0) && (decide (¬ n < 0) && (decide (sp.toNatClampNeg + n.toNatClampNeg ≤ n0) && decide (dp.toNatClampNeg + n.toNatClampNeg ≤ n1))))
def ac {β : Type} (b : Bool) (k : Option β) : Option β := bif b then k else none
theorem ld_s {β : Type} {f : Nat → Int32} {n : Nat} {i : Int32} {k : Int32 → Option β} {r : β} (h : ld f n i k = some r) : ∃ v, vp_in i n ∧ f i.toNatClampNeg = v ∧ k v = some r := by
  unfold ld at h
  split at h
  · cases h
  · rename_i q
    exact ⟨_, q, rfl, h⟩
theorem sd_s {β : Type} {n : Nat} {i : Int32} {k : Option β} {r : β} (h : sd n i k = some r) : vp_in i n ∧ k = some r := by
  unfold sd at h
  split at h
  · cases h
  · rename_i q
    exact ⟨q, h⟩
theorem dz_s {β : Type} {y : Int32} {k : Option β} {r : β} (h : dz y k = some r) : ¬ y = 0 ∧ k = some r := by
  unfold dz at h
  split at h
  · cases h
  · rename_i q
    exact ⟨q, h⟩
theorem zr_s {β : Type} {v : Int32} {k : Option β} {r : β} (h : zr v k = some r) : v &&& 1 = v ∧ k = some r := by
  unfold zr at h
  split at h
  · rename_i q
    exact ⟨q, h⟩
  · cases h
theorem ac_s {β : Type} {n0 n1 : Nat} {sp dp n : Int32} {k : Option β} {r : β} (h : ac (acB n0 n1 sp dp n) k = some r) : acG n0 n1 sp dp n ∧ k = some r := by
  unfold ac at h
  cases hb : acB n0 n1 sp dp n with
  | false => rw [hb] at h; cases h
  | true =>
    rw [hb] at h
    simp only [acB, Bool.and_eq_true, decide_eq_true_eq] at hb
    exact ⟨hb, h⟩
theorem bd {α β : Type} {x : Option α} {f : α → Option β} {r : β} (h : x.bind f = some r) : ∃ v, x = some v ∧ f v = some r := by
  cases x with
  | none => cases h
  | some v => exact ⟨v, rfl, h⟩
theorem it_t {c : Prop} [Decidable c] {α : Type} {a b r : α} (h : c) (hf : (if c then a else b) = r) : a = r := by rw [if_pos h] at hf; exact hf
theorem it_f {c : Prop} [Decidable c] {α : Type} {a b r : α} (h : ¬ c) (hf : (if c then a else b) = r) : b = r := by rw [if_neg h] at hf; exact hf
theorem zc_0 : (0 : Int32) &&& 1 = 0 := by decide
theorem zc_1 : (1 : Int32) &&& 1 = 1 := by decide
theorem i32ne {x k : Int32} (h : ¬ x = k) : x.toInt ≠ k.toInt := fun q => h (Int32.toInt_inj.mp q)
theorem ic_m1 : Int32.ofInt (-1) = (-1 : Int32) := by decide
theorem ic_0 : Int32.ofInt (0) = (0 : Int32) := by decide
theorem ic_1 : Int32.ofInt (1) = (1 : Int32) := by decide
theorem ic_2 : Int32.ofInt (2) = (2 : Int32) := by decide
theorem ic_3 : Int32.ofInt (3) = (3 : Int32) := by decide
theorem ic_4 : Int32.ofInt (4) = (4 : Int32) := by decide
theorem ic_5 : Int32.ofInt (5) = (5 : Int32) := by decide
theorem bp_m4 : (Int8.ofInt (-4)).toInt32 = (-4 : Int32) := by decide
theorem bp_m3 : (Int8.ofInt (-3)).toInt32 = (-3 : Int32) := by decide
theorem bp_m2 : (Int8.ofInt (-2)).toInt32 = (-2 : Int32) := by decide
theorem bp_6 : (Int8.ofInt (6)).toInt32 = (6 : Int32) := by decide
theorem bp_7 : (Int8.ofInt (7)).toInt32 = (7 : Int32) := by decide
theorem bp_8 : (Int8.ofInt (8)).toInt32 = (8 : Int32) := by decide
theorem bp_9 : (Int8.ofInt (9)).toInt32 = (9 : Int32) := by decide
theorem bp_10 : (Int8.ofInt (10)).toInt32 = (10 : Int32) := by decide
theorem bp_15 : (Int8.ofInt (15)).toInt32 = (15 : Int32) := by decide
theorem bp_16 : (Int8.ofInt (16)).toInt32 = (16 : Int32) := by decide
theorem bp_17 : (Int8.ofInt (17)).toInt32 = (17 : Int32) := by decide
theorem bp_18 : (Int8.ofInt (18)).toInt32 = (18 : Int32) := by decide
theorem bp_19 : (Int8.ofInt (19)).toInt32 = (19 : Int32) := by decide
theorem bp_20 : (Int8.ofInt (20)).toInt32 = (20 : Int32) := by decide
theorem bp_31 : (Int8.ofInt (31)).toInt32 = (31 : Int32) := by decide
theorem bp_32 : (Int8.ofInt (32)).toInt32 = (32 : Int32) := by decide
theorem bp_43 : (Int8.ofInt (43)).toInt32 = (43 : Int32) := by decide
theorem bp_63 : (Int8.ofInt (63)).toInt32 = (63 : Int32) := by decide
theorem bp_64 : (Int8.ofInt (64)).toInt32 = (64 : Int32) := by decide
theorem bp_99 : (Int8.ofInt (99)).toInt32 = (99 : Int32) := by decide
theorem bp_100 : (Int8.ofInt (100)).toInt32 = (100 : Int32) := by decide
theorem sp_171 : (Int16.ofInt (171)).toInt32 = (171 : Int32) := by decide
theorem sp_200 : (Int16.ofInt (200)).toInt32 = (200 : Int32) := by decide
theorem sp_267 : (Int16.ofInt (267)).toInt32 = (267 : Int32) := by decide
theorem sp_299 : (Int16.ofInt (299)).toInt32 = (299 : Int32) := by decide
theorem sp_897 : (Int16.ofInt (897)).toInt32 = (897 : Int32) := by decide
theorem sp_1196 : (Int16.ofInt (1196)).toInt32 = (1196 : Int32) := by decide
theorem sp_9999 : (Int16.ofInt (9999)).toInt32 = (9999 : Int32) := by decide
theorem sp_10000 : (Int16.ofInt (10000)).toInt32 = (10000 : Int32) := by decide
theorem ii_m1 (x : Int32) : x + Int32.ofInt (-1) = x + (-1 : Int32) := by rw [ic_m1]
theorem ii_1 (x : Int32) : x + Int32.ofInt (1) = x + (1 : Int32) := by rw [ic_1]
theorem ii_3 (x : Int32) : x + Int32.ofInt (3) = x + (3 : Int32) := by rw [ic_3]
/-- the cells of a cluster: settings, nodes, ranges, items, samples; σ 0: the numbers of the objects, σ k: the row of cell k -/
def wC (a : Nat → Nat) (cI : ClassId) (σ : Nat → Nat → Int32) (rest : va_W) : va_W :=
  (a 0, .inr (0, [.ref (a 1), .ref (a 2), .ref (a 3), .ref (a 4), .ref (a 5), .ref (a 6), .int (σ 0 11)])) ::
  (a 1, .inr (7, [.int (σ 0 0), .int (σ 0 1), .int (σ 0 2), .int (σ 0 3), .int (σ 0 4), .int (σ 0 5)])) ::
  (a 2, .inr (4, [.int (σ 0 6), .int (σ 0 7), .ref (a 7), .ref (a 8)])) ::
  (a 3, .inr (5, [.int (σ 0 8), .ref (a 9), .ref (a 10), .ref (a 11), .ref (a 12), .ref (a 13), .ref (a 14)])) ::
  (a 4, .inr (3, [.int (σ 0 9), .ref (a 15), .ref (a 16)])) ::
  (a 5, .inr (6, [.int (σ 0 10), .ref (a 17)])) ::
  (a 6, .inl (cI, 9, .inl (σ 6))) ::
  (a 7, .inl (cI, 8, .inl (σ 7))) ::
  (a 8, .inl (cI, 8, .inl (σ 8))) ::
  (a 9, .inl (cI, 16, .inl (σ 9))) ::
  (a 10, .inl (cI, 16, .inl (σ 10))) ::
  (a 11, .inl (cI, 16, .inl (σ 11))) ::
  (a 12, .inl (cI, 16, .inl (σ 12))) ::
  (a 13, .inl (cI, 16, .inl (σ 13))) ::
  (a 14, .inl (cI, 16, .inl (σ 14))) ::
  (a 15, .inl (cI, 64, .inl (σ 15))) ::
  (a 16, .inl (cI, 64, .inl (σ 16))) ::
  (a 17, .inl (cI, 32, .inl (σ 17))) :: rest
def dv (d : Nat) (a : Nat → Nat) : Nat × va_E := (d, .inr (1, [.ref (a 0), .ref (a 1), .ref (a 2), .ref (a 3)]))
def wM (b : Nat → Nat) (cI : ClassId) (s P E : Nat → Int32) (n : Int32) (hs : Int64) (rest : va_W) : va_W := (b 0, .inr (9, [.ref (b 1), .ref (b 2), .int n, .ref (b 3), .long hs])) :: (b 1, .inl (cI, 299, .inl s)) :: (b 2, .inl (cI, 1196, .inl P)) :: (b 3, .inl (cI, 3, .inl E)) :: rest
theorem wC_fst {a : Nat → Nat} {cI : ClassId} {σ σ' : Nat → Nat → Int32} {rest : va_W} : (wC a cI σ rest).map Prod.fst = (wC a cI σ' rest).map Prod.fst := rfl
theorem wM_fst {b : Nat → Nat} {cI : ClassId} {s P E s' P' E' : Nat → Int32} {n n' : Int32} {hs hs' : Int64} {rest : va_W} : (wM b cI s P E n hs rest).map Prod.fst = (wM b cI s' P' E' n' hs' rest).map Prod.fst := rfl
section P5
variable {p : Program} {l : Launch} {e : Env} {R : Room} {s_ : State} {m : MethodId} {args : Array Value} {below : List Frame} {meth : Method} {c : Code} {nL : Nat} {D : va_G} {A : Nat → Prop} {Q : State → Prop} {xs : List (Option Value)} {pc : Nat} {st : List Value} {cc : ByteArray} {own : String} {ret : Option FieldType} {cI cS : ClassId} {a : Nat → Nat} {σ : Nat → Nat → Int32} {rest : va_W} {b : Nat → Nat} {s P E : Nat → Int32} {n : Int32} {hs : Int64} {d cs sl : Nat}
theorem gf_X0_107 (C : cx p s_ m args meth c cc nL RX0 ret D cI cS) (hd : decode cc pc = .ok (.getfield 107, 3)) (k : jN p l e R s_ m args below meth c nL D A Q cs sl (wC a cI σ rest) xs (pc + 3) (.ref (a 12) :: st)) : jN p l e R s_ m args below meth c nL D A Q cs sl (wC a cI σ rest) xs pc (.ref (a 3) :: st) :=
  j_getf C (q0 := 3) (ci := 5) (k := 4) inX5 rfl (by decide) tw_122 rfl rfl hd k
theorem gf_X0_21 (C : cx p s_ m args meth c cc nL RX0 ret D cI cS) (hd : decode cc pc = .ok (.getfield 21, 3)) (k : jN p l e R s_ m args below meth c nL D A Q cs sl (wC a cI σ rest) xs (pc + 3) (.ref (a 2) :: st)) : jN p l e R s_ m args below meth c nL D A Q cs sl (wC a cI σ rest) xs pc (.ref (a 0) :: st) :=
  j_getf C (q0 := 0) (ci := 0) (k := 1) inX0 rfl (by decide) tw_178 rfl rfl hd k
theorem gf_X0_28 (C : cx p s_ m args meth c cc nL RX0 ret D cI cS) (hd : decode cc pc = .ok (.getfield 28, 3)) (k : jN p l e R s_ m args below meth c nL D A Q cs sl (wC a cI σ rest) xs (pc + 3) (.ref (a 3) :: st)) : jN p l e R s_ m args below meth c nL D A Q cs sl (wC a cI σ rest) xs pc (.ref (a 0) :: st) :=
  j_getf C (q0 := 0) (ci := 0) (k := 2) inX0 rfl (by decide) tw_181 rfl rfl hd k
theorem gf_X0_35 (C : cx p s_ m args meth c cc nL RX0 ret D cI cS) (hd : decode cc pc = .ok (.getfield 35, 3)) (k : jN p l e R s_ m args below meth c nL D A Q cs sl (wC a cI σ rest) xs (pc + 3) (.ref (a 4) :: st)) : jN p l e R s_ m args below meth c nL D A Q cs sl (wC a cI σ rest) xs pc (.ref (a 0) :: st) :=
  j_getf C (q0 := 0) (ci := 0) (k := 3) inX0 rfl (by decide) tw_184 rfl rfl hd k
theorem gf_X0_42 (C : cx p s_ m args meth c cc nL RX0 ret D cI cS) (hd : decode cc pc = .ok (.getfield 42, 3)) (k : jN p l e R s_ m args below meth c nL D A Q cs sl (wC a cI σ rest) xs (pc + 3) (.ref (a 5) :: st)) : jN p l e R s_ m args below meth c nL D A Q cs sl (wC a cI σ rest) xs pc (.ref (a 0) :: st) :=
  j_getf C (q0 := 0) (ci := 0) (k := 4) inX0 rfl (by decide) tw_186 rfl rfl hd k
theorem gf_X0_50 (C : cx p s_ m args meth c cc nL RX0 ret D cI cS) (hd : decode cc pc = .ok (.getfield 50, 3)) (k : jN p l e R s_ m args below meth c nL D A Q cs sl (wC a cI σ rest) xs (pc + 3) (.ref (a 9) :: st)) : jN p l e R s_ m args below meth c nL D A Q cs sl (wC a cI σ rest) xs pc (.ref (a 3) :: st) :=
  j_getf C (q0 := 3) (ci := 5) (k := 1) inX5 rfl (by decide) tw_110 rfl rfl hd k
theorem gf_X0_68 (C : cx p s_ m args meth c cc nL RX0 ret D cI cS) (hd : decode cc pc = .ok (.getfield 68, 3)) (k : jN p l e R s_ m args below meth c nL D A Q cs sl (wC a cI σ rest) xs (pc + 3) (.ref (a 10) :: st)) : jN p l e R s_ m args below meth c nL D A Q cs sl (wC a cI σ rest) xs pc (.ref (a 3) :: st) :=
  j_getf C (q0 := 3) (ci := 5) (k := 2) inX5 rfl (by decide) tw_114 rfl rfl hd k
theorem gf_X0_71 (C : cx p s_ m args meth c cc nL RX0 ret D cI cS) (hd : decode cc pc = .ok (.getfield 71, 3)) (k : jN p l e R s_ m args below meth c nL D A Q cs sl (wC a cI σ rest) xs (pc + 3) (.int (σ 0 7) :: st)) : jN p l e R s_ m args below meth c nL D A Q cs sl (wC a cI σ rest) xs pc (.ref (a 2) :: st) :=
  j_getf C (q0 := 2) (ci := 4) (k := 1) inX4 rfl (by decide) tw_81 rfl rfl hd k
theorem gf_X0_83 (C : cx p s_ m args meth c cc nL RX0 ret D cI cS) (hd : decode cc pc = .ok (.getfield 83, 3)) (k : jN p l e R s_ m args below meth c nL D A Q cs sl (wC a cI σ rest) xs (pc + 3) (.int (σ 0 8) :: st)) : jN p l e R s_ m args below meth c nL D A Q cs sl (wC a cI σ rest) xs pc (.ref (a 3) :: st) :=
  j_getf C (q0 := 3) (ci := 5) (k := 0) inX5 rfl (by decide) tw_107 rfl rfl hd k
theorem gf_X0_90 (C : cx p s_ m args meth c cc nL RX0 ret D cI cS) (hd : decode cc pc = .ok (.getfield 90, 3)) (k : jN p l e R s_ m args below meth c nL D A Q cs sl (wC a cI σ rest) xs (pc + 3) (.int (σ 0 6) :: st)) : jN p l e R s_ m args below meth c nL D A Q cs sl (wC a cI σ rest) xs pc (.ref (a 2) :: st) :=
  j_getf C (q0 := 2) (ci := 4) (k := 0) inX4 rfl (by decide) tw_78 rfl rfl hd k
theorem gf_X0_97 (C : cx p s_ m args meth c cc nL RX0 ret D cI cS) (hd : decode cc pc = .ok (.getfield 97, 3)) (k : jN p l e R s_ m args below meth c nL D A Q cs sl (wC a cI σ rest) xs (pc + 3) (.ref (a 11) :: st)) : jN p l e R s_ m args below meth c nL D A Q cs sl (wC a cI σ rest) xs pc (.ref (a 3) :: st) :=
  j_getf C (q0 := 3) (ci := 5) (k := 3) inX5 rfl (by decide) tw_119 rfl rfl hd k
theorem gf_X1_12 (C : cx p s_ m args meth c cc nL RX1 ret D cI cS) (hd : decode cc pc = .ok (.getfield 12, 3)) (k : jN p l e R s_ m args below meth c nL D A Q cs sl (wC a cI σ (dv d a :: rest)) xs (pc + 3) (.ref (a 0) :: st)) : jN p l e R s_ m args below meth c nL D A Q cs sl (wC a cI σ (dv d a :: rest)) xs pc (.ref (d) :: st) :=
  j_getf C (q0 := 18) (ci := 1) (k := 0) inX1 rfl (by decide) tw_209 rfl rfl hd k
theorem gf_X1_127 (C : cx p s_ m args meth c cc nL RX1 ret D cI cS) (hd : decode cc pc = .ok (.getfield 127, 3)) (k : jN p l e R s_ m args below meth c nL D A Q cs sl (wC a cI σ rest) xs (pc + 3) (.int (σ 0 0) :: st)) : jN p l e R s_ m args below meth c nL D A Q cs sl (wC a cI σ rest) xs pc (.ref (a 1) :: st) :=
  j_getf C (q0 := 1) (ci := 7) (k := 0) inX7 rfl (by decide) tw_42 rfl rfl hd k
theorem gf_X1_159 (C : cx p s_ m args meth c cc nL RX1 ret D cI cS) (hd : decode cc pc = .ok (.getfield 159, 3)) (k : jN p l e R s_ m args below meth c nL D A Q cs sl (wC a cI σ rest) xs (pc + 3) (.int (σ 0 2) :: st)) : jN p l e R s_ m args below meth c nL D A Q cs sl (wC a cI σ rest) xs pc (.ref (a 1) :: st) :=
  j_getf C (q0 := 1) (ci := 7) (k := 2) inX7 rfl (by decide) tw_48 rfl rfl hd k
theorem gf_X1_171 (C : cx p s_ m args meth c cc nL RX1 ret D cI cS) (hd : decode cc pc = .ok (.getfield 171, 3)) (k : jN p l e R s_ m args below meth c nL D A Q cs sl (wC a cI σ rest) xs (pc + 3) (.int (σ 0 4) :: st)) : jN p l e R s_ m args below meth c nL D A Q cs sl (wC a cI σ rest) xs pc (.ref (a 1) :: st) :=
  j_getf C (q0 := 1) (ci := 7) (k := 4) inX7 rfl (by decide) tw_54 rfl rfl hd k
theorem gf_X1_187 (C : cx p s_ m args meth c cc nL RX1 ret D cI cS) (hd : decode cc pc = .ok (.getfield 187, 3)) (k : jN p l e R s_ m args below meth c nL D A Q cs sl (wC a cI σ rest) xs (pc + 3) (.int (σ 0 1) :: st)) : jN p l e R s_ m args below meth c nL D A Q cs sl (wC a cI σ rest) xs pc (.ref (a 1) :: st) :=
  j_getf C (q0 := 1) (ci := 7) (k := 1) inX7 rfl (by decide) tw_45 rfl rfl hd k
theorem gf_X1_190 (C : cx p s_ m args meth c cc nL RX1 ret D cI cS) (hd : decode cc pc = .ok (.getfield 190, 3)) (k : jN p l e R s_ m args below meth c nL D A Q cs sl (wC a cI σ rest) xs (pc + 3) (.int (σ 0 3) :: st)) : jN p l e R s_ m args below meth c nL D A Q cs sl (wC a cI σ rest) xs pc (.ref (a 1) :: st) :=
  j_getf C (q0 := 1) (ci := 7) (k := 3) inX7 rfl (by decide) tw_51 rfl rfl hd k
theorem gf_X1_208 (C : cx p s_ m args meth c cc nL RX1 ret D cI cS) (hd : decode cc pc = .ok (.getfield 208, 3)) (k : jN p l e R s_ m args below meth c nL D A Q cs sl (wC a cI σ rest) xs (pc + 3) (.ref (a 7) :: st)) : jN p l e R s_ m args below meth c nL D A Q cs sl (wC a cI σ rest) xs pc (.ref (a 2) :: st) :=
  j_getf C (q0 := 2) (ci := 4) (k := 2) inX4 rfl (by decide) tw_84 rfl rfl hd k
theorem gf_X1_218 (C : cx p s_ m args meth c cc nL RX1 ret D cI cS) (hd : decode cc pc = .ok (.getfield 218, 3)) (k : jN p l e R s_ m args below meth c nL D A Q cs sl (wC a cI σ rest) xs (pc + 3) (.int (σ 0 7) :: st)) : jN p l e R s_ m args below meth c nL D A Q cs sl (wC a cI σ rest) xs pc (.ref (a 2) :: st) :=
  j_getf C (q0 := 2) (ci := 4) (k := 1) inX4 rfl (by decide) tw_82 rfl rfl hd k
theorem gf_X1_22 (C : cx p s_ m args meth c cc nL RX1 ret D cI cS) (hd : decode cc pc = .ok (.getfield 22, 3)) (k : jN p l e R s_ m args below meth c nL D A Q cs sl (wC a cI σ (dv d a :: rest)) xs (pc + 3) (.ref (a 1) :: st)) : jN p l e R s_ m args below meth c nL D A Q cs sl (wC a cI σ (dv d a :: rest)) xs pc (.ref (d) :: st) :=
  j_getf C (q0 := 18) (ci := 1) (k := 1) inX1 rfl (by decide) tw_211 rfl rfl hd k
theorem gf_X1_221 (C : cx p s_ m args meth c cc nL RX1 ret D cI cS) (hd : decode cc pc = .ok (.getfield 221, 3)) (k : jN p l e R s_ m args below meth c nL D A Q cs sl (wC a cI σ rest) xs (pc + 3) (.int (σ 0 6) :: st)) : jN p l e R s_ m args below meth c nL D A Q cs sl (wC a cI σ rest) xs pc (.ref (a 2) :: st) :=
  j_getf C (q0 := 2) (ci := 4) (k := 0) inX4 rfl (by decide) tw_79 rfl rfl hd k
theorem gf_X1_222 (C : cx p s_ m args meth c cc nL RX1 ret D cI cS) (hd : decode cc pc = .ok (.getfield 222, 3)) (k : jN p l e R s_ m args below meth c nL D A Q cs sl (wC a cI σ rest) xs (pc + 3) (.ref (a 8) :: st)) : jN p l e R s_ m args below meth c nL D A Q cs sl (wC a cI σ rest) xs pc (.ref (a 2) :: st) :=
  j_getf C (q0 := 2) (ci := 4) (k := 3) inX4 rfl (by decide) tw_87 rfl rfl hd k
theorem gf_X1_27 (C : cx p s_ m args meth c cc nL RX1 ret D cI cS) (hd : decode cc pc = .ok (.getfield 27, 3)) (k : jN p l e R s_ m args below meth c nL D A Q cs sl (wC a cI σ (dv d a :: rest)) xs (pc + 3) (.ref (a 2) :: st)) : jN p l e R s_ m args below meth c nL D A Q cs sl (wC a cI σ (dv d a :: rest)) xs pc (.ref (d) :: st) :=
  j_getf C (q0 := 18) (ci := 1) (k := 2) inX1 rfl (by decide) tw_212 rfl rfl hd k
theorem gf_X1_32 (C : cx p s_ m args meth c cc nL RX1 ret D cI cS) (hd : decode cc pc = .ok (.getfield 32, 3)) (k : jN p l e R s_ m args below meth c nL D A Q cs sl (wC a cI σ (dv d a :: rest)) xs (pc + 3) (.ref (a 3) :: st)) : jN p l e R s_ m args below meth c nL D A Q cs sl (wC a cI σ (dv d a :: rest)) xs pc (.ref (d) :: st) :=
  j_getf C (q0 := 18) (ci := 1) (k := 3) inX1 rfl (by decide) tw_213 rfl rfl hd k
theorem gf_X1_33 (C : cx p s_ m args meth c cc nL RX1 ret D cI cS) (hd : decode cc pc = .ok (.getfield 33, 3)) (k : jN p l e R s_ m args below meth c nL D A Q cs sl (wC a cI σ rest) xs (pc + 3) (.int (σ 0 11) :: st)) : jN p l e R s_ m args below meth c nL D A Q cs sl (wC a cI σ rest) xs pc (.ref (a 0) :: st) :=
  j_getf C (q0 := 0) (ci := 0) (k := 6) inX0 rfl (by decide) tw_191 rfl rfl hd k
theorem gf_X1_37 (C : cx p s_ m args meth c cc nL RX1 ret D cI cS) (hd : decode cc pc = .ok (.getfield 37, 3)) (k : jN p l e R s_ m args below meth c nL D A Q cs sl (wC a cI σ rest) xs (pc + 3) (.int (σ 0 8) :: st)) : jN p l e R s_ m args below meth c nL D A Q cs sl (wC a cI σ rest) xs pc (.ref (a 3) :: st) :=
  j_getf C (q0 := 3) (ci := 5) (k := 0) inX5 rfl (by decide) tw_106 rfl rfl hd k
theorem gf_X1_50 (C : cx p s_ m args meth c cc nL RX1 ret D cI cS) (hd : decode cc pc = .ok (.getfield 50, 3)) (k : jN p l e R s_ m args below meth c nL D A Q cs sl (wC a cI σ rest) xs (pc + 3) (.ref (a 6) :: st)) : jN p l e R s_ m args below meth c nL D A Q cs sl (wC a cI σ rest) xs pc (.ref (a 0) :: st) :=
  j_getf C (q0 := 0) (ci := 0) (k := 5) inX0 rfl (by decide) tw_189 rfl rfl hd k
theorem gf_X1_54 (C : cx p s_ m args meth c cc nL RX1 ret D cI cS) (hd : decode cc pc = .ok (.getfield 54, 3)) (k : jN p l e R s_ m args below meth c nL D A Q cs sl (wC a cI σ rest) xs (pc + 3) (.ref (a 12) :: st)) : jN p l e R s_ m args below meth c nL D A Q cs sl (wC a cI σ rest) xs pc (.ref (a 3) :: st) :=
  j_getf C (q0 := 3) (ci := 5) (k := 4) inX5 rfl (by decide) tw_121 rfl rfl hd k
theorem gf_X1_63 (C : cx p s_ m args meth c cc nL RX1 ret D cI cS) (hd : decode cc pc = .ok (.getfield 63, 3)) (k : jN p l e R s_ m args below meth c nL D A Q cs sl (wC a cI σ rest) xs (pc + 3) (.ref (a 11) :: st)) : jN p l e R s_ m args below meth c nL D A Q cs sl (wC a cI σ rest) xs pc (.ref (a 3) :: st) :=
  j_getf C (q0 := 3) (ci := 5) (k := 3) inX5 rfl (by decide) tw_117 rfl rfl hd k
theorem gf_X1_66 (C : cx p s_ m args meth c cc nL RX1 ret D cI cS) (hd : decode cc pc = .ok (.getfield 66, 3)) (k : jN p l e R s_ m args below meth c nL D A Q cs sl (wC a cI σ rest) xs (pc + 3) (.ref (a 13) :: st)) : jN p l e R s_ m args below meth c nL D A Q cs sl (wC a cI σ rest) xs pc (.ref (a 3) :: st) :=
  j_getf C (q0 := 3) (ci := 5) (k := 5) inX5 rfl (by decide) tw_124 rfl rfl hd k
theorem gf_X1_69 (C : cx p s_ m args meth c cc nL RX1 ret D cI cS) (hd : decode cc pc = .ok (.getfield 69, 3)) (k : jN p l e R s_ m args below meth c nL D A Q cs sl (wC a cI σ rest) xs (pc + 3) (.ref (a 14) :: st)) : jN p l e R s_ m args below meth c nL D A Q cs sl (wC a cI σ rest) xs pc (.ref (a 3) :: st) :=
  j_getf C (q0 := 3) (ci := 5) (k := 6) inX5 rfl (by decide) tw_126 rfl rfl hd k
theorem gf_X1_75 (C : cx p s_ m args meth c cc nL RX1 ret D cI cS) (hd : decode cc pc = .ok (.getfield 75, 3)) (k : jN p l e R s_ m args below meth c nL D A Q cs sl (wC a cI σ rest) xs (pc + 3) (.ref (a 10) :: st)) : jN p l e R s_ m args below meth c nL D A Q cs sl (wC a cI σ rest) xs pc (.ref (a 3) :: st) :=
  j_getf C (q0 := 3) (ci := 5) (k := 2) inX5 rfl (by decide) tw_113 rfl rfl hd k
theorem gf_X3_15 (C : cx p s_ m args meth c cc nL RX3 ret D cI cS) (hd : decode cc pc = .ok (.getfield 15, 3)) (k : jN p l e R s_ m args below meth c nL D A Q cs sl (wC a cI σ rest) xs (pc + 3) (.ref (a 16) :: st)) : jN p l e R s_ m args below meth c nL D A Q cs sl (wC a cI σ rest) xs pc (.ref (a 4) :: st) :=
  j_getf C (q0 := 4) (ci := 3) (k := 2) inX3 rfl (by decide) tw_152 rfl rfl hd k
theorem gf_X3_18 (C : cx p s_ m args meth c cc nL RX3 ret D cI cS) (hd : decode cc pc = .ok (.getfield 18, 3)) (k : jN p l e R s_ m args below meth c nL D A Q cs sl (wC a cI σ rest) xs (pc + 3) (.int (σ 0 9) :: st)) : jN p l e R s_ m args below meth c nL D A Q cs sl (wC a cI σ rest) xs pc (.ref (a 4) :: st) :=
  j_getf C (q0 := 4) (ci := 3) (k := 0) inX3 rfl (by decide) tw_149 rfl rfl hd k
theorem gf_X3_9 (C : cx p s_ m args meth c cc nL RX3 ret D cI cS) (hd : decode cc pc = .ok (.getfield 9, 3)) (k : jN p l e R s_ m args below meth c nL D A Q cs sl (wC a cI σ rest) xs (pc + 3) (.ref (a 15) :: st)) : jN p l e R s_ m args below meth c nL D A Q cs sl (wC a cI σ rest) xs pc (.ref (a 4) :: st) :=
  j_getf C (q0 := 4) (ci := 3) (k := 1) inX3 rfl (by decide) tw_151 rfl rfl hd k
theorem gf_X4_15 (C : cx p s_ m args meth c cc nL RX4 ret D cI cS) (hd : decode cc pc = .ok (.getfield 15, 3)) (k : jN p l e R s_ m args below meth c nL D A Q cs sl (wC a cI σ rest) xs (pc + 3) (.ref (a 8) :: st)) : jN p l e R s_ m args below meth c nL D A Q cs sl (wC a cI σ rest) xs pc (.ref (a 2) :: st) :=
  j_getf C (q0 := 2) (ci := 4) (k := 3) inX4 rfl (by decide) tw_86 rfl rfl hd k
theorem gf_X4_18 (C : cx p s_ m args meth c cc nL RX4 ret D cI cS) (hd : decode cc pc = .ok (.getfield 18, 3)) (k : jN p l e R s_ m args below meth c nL D A Q cs sl (wC a cI σ rest) xs (pc + 3) (.int (σ 0 6) :: st)) : jN p l e R s_ m args below meth c nL D A Q cs sl (wC a cI σ rest) xs pc (.ref (a 2) :: st) :=
  j_getf C (q0 := 2) (ci := 4) (k := 0) inX4 rfl (by decide) tw_76 rfl rfl hd k
theorem gf_X4_22 (C : cx p s_ m args meth c cc nL RX4 ret D cI cS) (hd : decode cc pc = .ok (.getfield 22, 3)) (k : jN p l e R s_ m args below meth c nL D A Q cs sl (wC a cI σ rest) xs (pc + 3) (.int (σ 0 7) :: st)) : jN p l e R s_ m args below meth c nL D A Q cs sl (wC a cI σ rest) xs pc (.ref (a 2) :: st) :=
  j_getf C (q0 := 2) (ci := 4) (k := 1) inX4 rfl (by decide) tw_80 rfl rfl hd k
theorem gf_X4_9 (C : cx p s_ m args meth c cc nL RX4 ret D cI cS) (hd : decode cc pc = .ok (.getfield 9, 3)) (k : jN p l e R s_ m args below meth c nL D A Q cs sl (wC a cI σ rest) xs (pc + 3) (.ref (a 7) :: st)) : jN p l e R s_ m args below meth c nL D A Q cs sl (wC a cI σ rest) xs pc (.ref (a 2) :: st) :=
  j_getf C (q0 := 2) (ci := 4) (k := 2) inX4 rfl (by decide) tw_83 rfl rfl hd k
theorem gf_X5_15 (C : cx p s_ m args meth c cc nL RX5 ret D cI cS) (hd : decode cc pc = .ok (.getfield 15, 3)) (k : jN p l e R s_ m args below meth c nL D A Q cs sl (wC a cI σ rest) xs (pc + 3) (.ref (a 10) :: st)) : jN p l e R s_ m args below meth c nL D A Q cs sl (wC a cI σ rest) xs pc (.ref (a 3) :: st) :=
  j_getf C (q0 := 3) (ci := 5) (k := 2) inX5 rfl (by decide) tw_112 rfl rfl hd k
theorem gf_X5_18 (C : cx p s_ m args meth c cc nL RX5 ret D cI cS) (hd : decode cc pc = .ok (.getfield 18, 3)) (k : jN p l e R s_ m args below meth c nL D A Q cs sl (wC a cI σ rest) xs (pc + 3) (.ref (a 11) :: st)) : jN p l e R s_ m args below meth c nL D A Q cs sl (wC a cI σ rest) xs pc (.ref (a 3) :: st) :=
  j_getf C (q0 := 3) (ci := 5) (k := 3) inX5 rfl (by decide) tw_116 rfl rfl hd k
theorem gf_X5_21 (C : cx p s_ m args meth c cc nL RX5 ret D cI cS) (hd : decode cc pc = .ok (.getfield 21, 3)) (k : jN p l e R s_ m args below meth c nL D A Q cs sl (wC a cI σ rest) xs (pc + 3) (.ref (a 12) :: st)) : jN p l e R s_ m args below meth c nL D A Q cs sl (wC a cI σ rest) xs pc (.ref (a 3) :: st) :=
  j_getf C (q0 := 3) (ci := 5) (k := 4) inX5 rfl (by decide) tw_120 rfl rfl hd k
theorem gf_X5_24 (C : cx p s_ m args meth c cc nL RX5 ret D cI cS) (hd : decode cc pc = .ok (.getfield 24, 3)) (k : jN p l e R s_ m args below meth c nL D A Q cs sl (wC a cI σ rest) xs (pc + 3) (.ref (a 13) :: st)) : jN p l e R s_ m args below meth c nL D A Q cs sl (wC a cI σ rest) xs pc (.ref (a 3) :: st) :=
  j_getf C (q0 := 3) (ci := 5) (k := 5) inX5 rfl (by decide) tw_123 rfl rfl hd k
theorem gf_X5_27 (C : cx p s_ m args meth c cc nL RX5 ret D cI cS) (hd : decode cc pc = .ok (.getfield 27, 3)) (k : jN p l e R s_ m args below meth c nL D A Q cs sl (wC a cI σ rest) xs (pc + 3) (.ref (a 14) :: st)) : jN p l e R s_ m args below meth c nL D A Q cs sl (wC a cI σ rest) xs pc (.ref (a 3) :: st) :=
  j_getf C (q0 := 3) (ci := 5) (k := 6) inX5 rfl (by decide) tw_125 rfl rfl hd k
theorem gf_X5_30 (C : cx p s_ m args meth c cc nL RX5 ret D cI cS) (hd : decode cc pc = .ok (.getfield 30, 3)) (k : jN p l e R s_ m args below meth c nL D A Q cs sl (wC a cI σ rest) xs (pc + 3) (.int (σ 0 8) :: st)) : jN p l e R s_ m args below meth c nL D A Q cs sl (wC a cI σ rest) xs pc (.ref (a 3) :: st) :=
  j_getf C (q0 := 3) (ci := 5) (k := 0) inX5 rfl (by decide) tw_105 rfl rfl hd k
theorem gf_X5_9 (C : cx p s_ m args meth c cc nL RX5 ret D cI cS) (hd : decode cc pc = .ok (.getfield 9, 3)) (k : jN p l e R s_ m args below meth c nL D A Q cs sl (wC a cI σ rest) xs (pc + 3) (.ref (a 9) :: st)) : jN p l e R s_ m args below meth c nL D A Q cs sl (wC a cI σ rest) xs pc (.ref (a 3) :: st) :=
  j_getf C (q0 := 3) (ci := 5) (k := 1) inX5 rfl (by decide) tw_109 rfl rfl hd k
theorem gf_X6_15 (C : cx p s_ m args meth c cc nL RX6 ret D cI cS) (hd : decode cc pc = .ok (.getfield 15, 3)) (k : jN p l e R s_ m args below meth c nL D A Q cs sl (wC a cI σ rest) xs (pc + 3) (.int (σ 0 10) :: st)) : jN p l e R s_ m args below meth c nL D A Q cs sl (wC a cI σ rest) xs pc (.ref (a 5) :: st) :=
  j_getf C (q0 := 5) (ci := 6) (k := 0) inX6 rfl (by decide) tw_166 rfl rfl hd k
theorem gf_X6_9 (C : cx p s_ m args meth c cc nL RX6 ret D cI cS) (hd : decode cc pc = .ok (.getfield 9, 3)) (k : jN p l e R s_ m args below meth c nL D A Q cs sl (wC a cI σ rest) xs (pc + 3) (.ref (a 17) :: st)) : jN p l e R s_ m args below meth c nL D A Q cs sl (wC a cI σ rest) xs pc (.ref (a 5) :: st) :=
  j_getf C (q0 := 5) (ci := 6) (k := 1) inX6 rfl (by decide) tw_168 rfl rfl hd k
theorem gf_X7_25 (C : cx p s_ m args meth c cc nL RX7 ret D cI cS) (hd : decode cc pc = .ok (.getfield 25, 3)) (k : jN p l e R s_ m args below meth c nL D A Q cs sl (wC a cI σ rest) xs (pc + 3) (.int (σ 0 5) :: st)) : jN p l e R s_ m args below meth c nL D A Q cs sl (wC a cI σ rest) xs pc (.ref (a 1) :: st) :=
  j_getf C (q0 := 1) (ci := 7) (k := 5) inX7 rfl (by decide) tw_55 rfl rfl hd k
theorem gf_X8_101 (C : cx p s_ m args meth c cc nL RX8 ret D cI cS) (hd : decode cc pc = .ok (.getfield 101, 3)) (k : jN p l e R s_ m args below meth c nL D A Q cs sl (wC a cI σ rest) xs (pc + 3) (.ref (a 4) :: st)) : jN p l e R s_ m args below meth c nL D A Q cs sl (wC a cI σ rest) xs pc (.ref (a 0) :: st) :=
  j_getf C (q0 := 0) (ci := 0) (k := 3) inX0 rfl (by decide) tw_185 rfl rfl hd k
theorem gf_X8_110 (C : cx p s_ m args meth c cc nL RX8 ret D cI cS) (hd : decode cc pc = .ok (.getfield 110, 3)) (k : jN p l e R s_ m args below meth c nL D A Q cs sl (wC a cI σ rest) xs (pc + 3) (.int (σ 0 9) :: st)) : jN p l e R s_ m args below meth c nL D A Q cs sl (wC a cI σ rest) xs pc (.ref (a 4) :: st) :=
  j_getf C (q0 := 4) (ci := 3) (k := 0) inX3 rfl (by decide) tw_150 rfl rfl hd k
theorem gf_X8_118 (C : cx p s_ m args meth c cc nL RX8 ret D cI cS) (hd : decode cc pc = .ok (.getfield 118, 3)) (k : jN p l e R s_ m args below meth c nL D A Q cs sl (wC a cI σ rest) xs (pc + 3) (.ref (a 5) :: st)) : jN p l e R s_ m args below meth c nL D A Q cs sl (wC a cI σ rest) xs pc (.ref (a 0) :: st) :=
  j_getf C (q0 := 0) (ci := 0) (k := 4) inX0 rfl (by decide) tw_187 rfl rfl hd k
theorem gf_X8_126 (C : cx p s_ m args meth c cc nL RX8 ret D cI cS) (hd : decode cc pc = .ok (.getfield 126, 3)) (k : jN p l e R s_ m args below meth c nL D A Q cs sl (wC a cI σ rest) xs (pc + 3) (.ref (a 3) :: st)) : jN p l e R s_ m args below meth c nL D A Q cs sl (wC a cI σ rest) xs pc (.ref (a 0) :: st) :=
  j_getf C (q0 := 0) (ci := 0) (k := 2) inX0 rfl (by decide) tw_183 rfl rfl hd k
theorem gf_X8_130 (C : cx p s_ m args meth c cc nL RX8 ret D cI cS) (hd : decode cc pc = .ok (.getfield 130, 3)) (k : jN p l e R s_ m args below meth c nL D A Q cs sl (wC a cI σ rest) xs (pc + 3) (.ref (a 11) :: st)) : jN p l e R s_ m args below meth c nL D A Q cs sl (wC a cI σ rest) xs pc (.ref (a 3) :: st) :=
  j_getf C (q0 := 3) (ci := 5) (k := 3) inX5 rfl (by decide) tw_118 rfl rfl hd k
theorem gf_X8_139 (C : cx p s_ m args meth c cc nL RX8 ret D cI cS) (hd : decode cc pc = .ok (.getfield 139, 3)) (k : jN p l e R s_ m args below meth c nL D A Q cs sl (wC a cI σ rest) xs (pc + 3) (.ref (a 9) :: st)) : jN p l e R s_ m args below meth c nL D A Q cs sl (wC a cI σ rest) xs pc (.ref (a 3) :: st) :=
  j_getf C (q0 := 3) (ci := 5) (k := 1) inX5 rfl (by decide) tw_111 rfl rfl hd k
theorem gf_X8_158 (C : cx p s_ m args meth c cc nL RX8 ret D cI cS) (hd : decode cc pc = .ok (.getfield 158, 3)) (k : jN p l e R s_ m args below meth c nL D A Q cs sl (wC a cI σ rest) xs (pc + 3) (.ref (a 6) :: st)) : jN p l e R s_ m args below meth c nL D A Q cs sl (wC a cI σ rest) xs pc (.ref (a 0) :: st) :=
  j_getf C (q0 := 0) (ci := 0) (k := 5) inX0 rfl (by decide) tw_190 rfl rfl hd k
theorem gf_X8_161 (C : cx p s_ m args meth c cc nL RX8 ret D cI cS) (hd : decode cc pc = .ok (.getfield 161, 3)) (k : jN p l e R s_ m args below meth c nL D A Q cs sl (wC a cI σ rest) xs (pc + 3) (.int (σ 0 11) :: st)) : jN p l e R s_ m args below meth c nL D A Q cs sl (wC a cI σ rest) xs pc (.ref (a 0) :: st) :=
  j_getf C (q0 := 0) (ci := 0) (k := 6) inX0 rfl (by decide) tw_193 rfl rfl hd k
theorem gf_X8_164 (C : cx p s_ m args meth c cc nL RX8 ret D cI cS) (hd : decode cc pc = .ok (.getfield 164, 3)) (k : jN p l e R s_ m args below meth c nL D A Q cs sl (wC a cI σ rest) xs (pc + 3) (.int (σ 0 8) :: st)) : jN p l e R s_ m args below meth c nL D A Q cs sl (wC a cI σ rest) xs pc (.ref (a 3) :: st) :=
  j_getf C (q0 := 3) (ci := 5) (k := 0) inX5 rfl (by decide) tw_108 rfl rfl hd k
theorem gf_X8_172 (C : cx p s_ m args meth c cc nL RX8 ret D cI cS) (hd : decode cc pc = .ok (.getfield 172, 3)) (k : jN p l e R s_ m args below meth c nL D A Q cs sl (wC a cI σ rest) xs (pc + 3) (.ref (a 10) :: st)) : jN p l e R s_ m args below meth c nL D A Q cs sl (wC a cI σ rest) xs pc (.ref (a 3) :: st) :=
  j_getf C (q0 := 3) (ci := 5) (k := 2) inX5 rfl (by decide) tw_115 rfl rfl hd k
theorem gf_X8_222 (C : cx p s_ m args meth c cc nL RX8 ret D cI cS) (hd : decode cc pc = .ok (.getfield 222, 3)) (k : jN p l e R s_ m args below meth c nL D A Q cs sl (wC a cI σ rest) xs (pc + 3) (.int (σ 0 10) :: st)) : jN p l e R s_ m args below meth c nL D A Q cs sl (wC a cI σ rest) xs pc (.ref (a 5) :: st) :=
  j_getf C (q0 := 5) (ci := 6) (k := 0) inX6 rfl (by decide) tw_167 rfl rfl hd k
theorem gf_X8_223 (C : cx p s_ m args meth c cc nL RX8 ret D cI cS) (hd : decode cc pc = .ok (.getfield 223, 3)) (k : jN p l e R s_ m args below meth c nL D A Q cs sl (wC a cI σ rest) xs (pc + 3) (.ref (a 17) :: st)) : jN p l e R s_ m args below meth c nL D A Q cs sl (wC a cI σ rest) xs pc (.ref (a 5) :: st) :=
  j_getf C (q0 := 5) (ci := 6) (k := 1) inX6 rfl (by decide) tw_169 rfl rfl hd k
theorem gf_X8_230 (C : cx p s_ m args meth c cc nL RX8 ret D cI cS) (hd : decode cc pc = .ok (.getfield 230, 3)) (k : jN p l e R s_ m args below meth c nL D A Q cs sl (wC a cI σ rest) xs (pc + 3) (.ref (a 7) :: st)) : jN p l e R s_ m args below meth c nL D A Q cs sl (wC a cI σ rest) xs pc (.ref (a 2) :: st) :=
  j_getf C (q0 := 2) (ci := 4) (k := 2) inX4 rfl (by decide) tw_85 rfl rfl hd k
theorem gf_X8_233 (C : cx p s_ m args meth c cc nL RX8 ret D cI cS) (hd : decode cc pc = .ok (.getfield 233, 3)) (k : jN p l e R s_ m args below meth c nL D A Q cs sl (wC a cI σ rest) xs (pc + 3) (.ref (a 8) :: st)) : jN p l e R s_ m args below meth c nL D A Q cs sl (wC a cI σ rest) xs pc (.ref (a 2) :: st) :=
  j_getf C (q0 := 2) (ci := 4) (k := 3) inX4 rfl (by decide) tw_88 rfl rfl hd k
theorem gf_X8_236 (C : cx p s_ m args meth c cc nL RX8 ret D cI cS) (hd : decode cc pc = .ok (.getfield 236, 3)) (k : jN p l e R s_ m args below meth c nL D A Q cs sl (wC a cI σ rest) xs (pc + 3) (.ref (a 14) :: st)) : jN p l e R s_ m args below meth c nL D A Q cs sl (wC a cI σ rest) xs pc (.ref (a 3) :: st) :=
  j_getf C (q0 := 3) (ci := 5) (k := 6) inX5 rfl (by decide) tw_127 rfl rfl hd k
theorem gf_X8_36 (C : cx p s_ m args meth c cc nL RX8 ret D cI cS) (hd : decode cc pc = .ok (.getfield 36, 3)) (k : jN p l e R s_ m args below meth c nL D A Q cs sl (wC a cI σ rest) xs (pc + 3) (.ref (a 2) :: st)) : jN p l e R s_ m args below meth c nL D A Q cs sl (wC a cI σ rest) xs pc (.ref (a 0) :: st) :=
  j_getf C (q0 := 0) (ci := 0) (k := 1) inX0 rfl (by decide) tw_180 rfl rfl hd k
theorem gf_X8_42 (C : cx p s_ m args meth c cc nL RX8 ret D cI cS) (hd : decode cc pc = .ok (.getfield 42, 3)) (k : jN p l e R s_ m args below meth c nL D A Q cs sl (wC a cI σ rest) xs (pc + 3) (.int (σ 0 6) :: st)) : jN p l e R s_ m args below meth c nL D A Q cs sl (wC a cI σ rest) xs pc (.ref (a 2) :: st) :=
  j_getf C (q0 := 2) (ci := 4) (k := 0) inX4 rfl (by decide) tw_77 rfl rfl hd k
theorem gf_X8_74 (C : cx p s_ m args meth c cc nL RX8 ret D cI cS) (hd : decode cc pc = .ok (.getfield 74, 3)) (k : jN p l e R s_ m args below meth c nL D A Q cs sl (wC a cI σ rest) xs (pc + 3) (.ref (a 1) :: st)) : jN p l e R s_ m args below meth c nL D A Q cs sl (wC a cI σ rest) xs pc (.ref (a 0) :: st) :=
  j_getf C (q0 := 0) (ci := 0) (k := 0) inX0 rfl (by decide) tw_177 rfl rfl hd k
theorem gf_X8_78 (C : cx p s_ m args meth c cc nL RX8 ret D cI cS) (hd : decode cc pc = .ok (.getfield 78, 3)) (k : jN p l e R s_ m args below meth c nL D A Q cs sl (wC a cI σ rest) xs (pc + 3) (.int (σ 0 0) :: st)) : jN p l e R s_ m args below meth c nL D A Q cs sl (wC a cI σ rest) xs pc (.ref (a 1) :: st) :=
  j_getf C (q0 := 1) (ci := 7) (k := 0) inX7 rfl (by decide) tw_41 rfl rfl hd k
theorem gf_X8_83 (C : cx p s_ m args meth c cc nL RX8 ret D cI cS) (hd : decode cc pc = .ok (.getfield 83, 3)) (k : jN p l e R s_ m args below meth c nL D A Q cs sl (wC a cI σ rest) xs (pc + 3) (.int (σ 0 2) :: st)) : jN p l e R s_ m args below meth c nL D A Q cs sl (wC a cI σ rest) xs pc (.ref (a 1) :: st) :=
  j_getf C (q0 := 1) (ci := 7) (k := 2) inX7 rfl (by decide) tw_47 rfl rfl hd k
theorem gf_X8_86 (C : cx p s_ m args meth c cc nL RX8 ret D cI cS) (hd : decode cc pc = .ok (.getfield 86, 3)) (k : jN p l e R s_ m args below meth c nL D A Q cs sl (wC a cI σ rest) xs (pc + 3) (.int (σ 0 1) :: st)) : jN p l e R s_ m args below meth c nL D A Q cs sl (wC a cI σ rest) xs pc (.ref (a 1) :: st) :=
  j_getf C (q0 := 1) (ci := 7) (k := 1) inX7 rfl (by decide) tw_44 rfl rfl hd k
theorem gf_X8_89 (C : cx p s_ m args meth c cc nL RX8 ret D cI cS) (hd : decode cc pc = .ok (.getfield 89, 3)) (k : jN p l e R s_ m args below meth c nL D A Q cs sl (wC a cI σ rest) xs (pc + 3) (.int (σ 0 4) :: st)) : jN p l e R s_ m args below meth c nL D A Q cs sl (wC a cI σ rest) xs pc (.ref (a 1) :: st) :=
  j_getf C (q0 := 1) (ci := 7) (k := 4) inX7 rfl (by decide) tw_53 rfl rfl hd k
theorem gf_X8_92 (C : cx p s_ m args meth c cc nL RX8 ret D cI cS) (hd : decode cc pc = .ok (.getfield 92, 3)) (k : jN p l e R s_ m args below meth c nL D A Q cs sl (wC a cI σ rest) xs (pc + 3) (.int (σ 0 3) :: st)) : jN p l e R s_ m args below meth c nL D A Q cs sl (wC a cI σ rest) xs pc (.ref (a 1) :: st) :=
  j_getf C (q0 := 1) (ci := 7) (k := 3) inX7 rfl (by decide) tw_50 rfl rfl hd k
theorem gf_X8_95 (C : cx p s_ m args meth c cc nL RX8 ret D cI cS) (hd : decode cc pc = .ok (.getfield 95, 3)) (k : jN p l e R s_ m args below meth c nL D A Q cs sl (wC a cI σ rest) xs (pc + 3) (.int (σ 0 5) :: st)) : jN p l e R s_ m args below meth c nL D A Q cs sl (wC a cI σ rest) xs pc (.ref (a 1) :: st) :=
  j_getf C (q0 := 1) (ci := 7) (k := 5) inX7 rfl (by decide) tw_56 rfl rfl hd k
theorem gf_X9_13 (C : cx p s_ m args meth c cc nL RX9 ret D cI cS) (hd : decode cc pc = .ok (.getfield 13, 3)) (k : jN p l e R s_ m args below meth c nL D A Q cs sl (wM b cI s P E n hs rest) xs (pc + 3) (.ref (b 2) :: st)) : jN p l e R s_ m args below meth c nL D A Q cs sl (wM b cI s P E n hs rest) xs pc (.ref (b 0) :: st) :=
  j_getf C (q0 := 0) (ci := 9) (k := 1) inX9 rfl (by decide) tw_755 rfl rfl hd k
theorem gf_X9_16 (C : cx p s_ m args meth c cc nL RX9 ret D cI cS) (hd : decode cc pc = .ok (.getfield 16, 3)) (k : jN p l e R s_ m args below meth c nL D A Q cs sl (wM b cI s P E n hs rest) xs (pc + 3) (.ref (b 3) :: st)) : jN p l e R s_ m args below meth c nL D A Q cs sl (wM b cI s P E n hs rest) xs pc (.ref (b 0) :: st) :=
  j_getf C (q0 := 0) (ci := 9) (k := 3) inX9 rfl (by decide) tw_757 rfl rfl hd k
theorem gf_X9_177 (C : cx p s_ m args meth c cc nL RX9 ret D cI cS) (hd : decode cc pc = .ok (.getfield 177, 3)) (k : jN p l e R s_ m args below meth c nL D A Q cs sl (wM b cI s P E n hs rest) xs (pc + 3) (.long hs :: st)) : jN p l e R s_ m args below meth c nL D A Q cs sl (wM b cI s P E n hs rest) xs pc (.ref (b 0) :: st) :=
  j_getf C (q0 := 0) (ci := 9) (k := 4) inX9 rfl (by decide) tw_758 rfl rfl hd k
theorem gf_X9_23 (C : cx p s_ m args meth c cc nL RX9 ret D cI cS) (hd : decode cc pc = .ok (.getfield 23, 3)) (k : jN p l e R s_ m args below meth c nL D A Q cs sl (wM b cI s P E n hs rest) xs (pc + 3) (.int n :: st)) : jN p l e R s_ m args below meth c nL D A Q cs sl (wM b cI s P E n hs rest) xs pc (.ref (b 0) :: st) :=
  j_getf C (q0 := 0) (ci := 9) (k := 2) inX9 rfl (by decide) tw_756 rfl rfl hd k
theorem gf_X9_7 (C : cx p s_ m args meth c cc nL RX9 ret D cI cS) (hd : decode cc pc = .ok (.getfield 7, 3)) (k : jN p l e R s_ m args below meth c nL D A Q cs sl (wM b cI s P E n hs rest) xs (pc + 3) (.ref (b 1) :: st)) : jN p l e R s_ m args below meth c nL D A Q cs sl (wM b cI s P E n hs rest) xs pc (.ref (b 0) :: st) :=
  j_getf C (q0 := 0) (ci := 9) (k := 0) inX9 rfl (by decide) tw_754 rfl rfl hd k
theorem pf_X0_71 (C : cx p s_ m args meth c cc nL RX0 ret D cI cS) {v : Int32} (hd : decode cc pc = .ok (.putfield 71, 3)) (k : jN p l e R s_ m args below meth c nL D A Q cs sl (wC a cI (cu σ 0 7 v) rest) xs (pc + 3) st) : jN p l e R s_ m args below meth c nL D A Q cs sl (wC a cI σ rest) xs pc (.int v :: .ref (a 2) :: st) :=
  j_putf C (q0 := 2) (ci := 4) (k := 1) (ty := .int) inX4 tyX4_ok nmX4 rfl (by decide) tw_81 rfl (by decide +kernel) rfl rfl rfl (Nat.le_of_ble_eq_true rfl) rfl hd k
theorem pf_X1_33 (C : cx p s_ m args meth c cc nL RX1 ret D cI cS) {v : Int32} (hd : decode cc pc = .ok (.putfield 33, 3)) (k : jN p l e R s_ m args below meth c nL D A Q cs sl (wC a cI (cu σ 0 11 v) rest) xs (pc + 3) st) : jN p l e R s_ m args below meth c nL D A Q cs sl (wC a cI σ rest) xs pc (.int v :: .ref (a 0) :: st) :=
  j_putf C (q0 := 0) (ci := 0) (k := 6) (ty := .int) inX0 tyX0_ok nmX0 rfl (by decide) tw_191 rfl (by decide +kernel) rfl rfl rfl (Nat.le_of_ble_eq_true rfl) rfl hd k
theorem pf_X3_18 (C : cx p s_ m args meth c cc nL RX3 ret D cI cS) {v : Int32} (hd : decode cc pc = .ok (.putfield 18, 3)) (k : jN p l e R s_ m args below meth c nL D A Q cs sl (wC a cI (cu σ 0 9 v) rest) xs (pc + 3) st) : jN p l e R s_ m args below meth c nL D A Q cs sl (wC a cI σ rest) xs pc (.int v :: .ref (a 4) :: st) :=
  j_putf C (q0 := 4) (ci := 3) (k := 0) (ty := .int) inX3 tyX3_ok nmX3 rfl (by decide) tw_149 rfl (by decide +kernel) rfl rfl rfl (Nat.le_of_ble_eq_true rfl) rfl hd k
theorem pf_X4_18 (C : cx p s_ m args meth c cc nL RX4 ret D cI cS) {v : Int32} (hd : decode cc pc = .ok (.putfield 18, 3)) (k : jN p l e R s_ m args below meth c nL D A Q cs sl (wC a cI (cu σ 0 6 v) rest) xs (pc + 3) st) : jN p l e R s_ m args below meth c nL D A Q cs sl (wC a cI σ rest) xs pc (.int v :: .ref (a 2) :: st) :=
  j_putf C (q0 := 2) (ci := 4) (k := 0) (ty := .int) inX4 tyX4_ok nmX4 rfl (by decide) tw_76 rfl (by decide +kernel) rfl rfl rfl (Nat.le_of_ble_eq_true rfl) rfl hd k
theorem pf_X4_22 (C : cx p s_ m args meth c cc nL RX4 ret D cI cS) {v : Int32} (hd : decode cc pc = .ok (.putfield 22, 3)) (k : jN p l e R s_ m args below meth c nL D A Q cs sl (wC a cI (cu σ 0 7 v) rest) xs (pc + 3) st) : jN p l e R s_ m args below meth c nL D A Q cs sl (wC a cI σ rest) xs pc (.int v :: .ref (a 2) :: st) :=
  j_putf C (q0 := 2) (ci := 4) (k := 1) (ty := .int) inX4 tyX4_ok nmX4 rfl (by decide) tw_80 rfl (by decide +kernel) rfl rfl rfl (Nat.le_of_ble_eq_true rfl) rfl hd k
theorem pf_X5_30 (C : cx p s_ m args meth c cc nL RX5 ret D cI cS) {v : Int32} (hd : decode cc pc = .ok (.putfield 30, 3)) (k : jN p l e R s_ m args below meth c nL D A Q cs sl (wC a cI (cu σ 0 8 v) rest) xs (pc + 3) st) : jN p l e R s_ m args below meth c nL D A Q cs sl (wC a cI σ rest) xs pc (.int v :: .ref (a 3) :: st) :=
  j_putf C (q0 := 3) (ci := 5) (k := 0) (ty := .int) inX5 tyX5_ok nmX5 rfl (by decide) tw_105 rfl (by decide +kernel) rfl rfl rfl (Nat.le_of_ble_eq_true rfl) rfl hd k
theorem pf_X6_15 (C : cx p s_ m args meth c cc nL RX6 ret D cI cS) {v : Int32} (hd : decode cc pc = .ok (.putfield 15, 3)) (k : jN p l e R s_ m args below meth c nL D A Q cs sl (wC a cI (cu σ 0 10 v) rest) xs (pc + 3) st) : jN p l e R s_ m args below meth c nL D A Q cs sl (wC a cI σ rest) xs pc (.int v :: .ref (a 5) :: st) :=
  j_putf C (q0 := 5) (ci := 6) (k := 0) (ty := .int) inX6 tyX6_ok nmX6 rfl (by decide) tw_166 rfl (by decide +kernel) rfl rfl rfl (Nat.le_of_ble_eq_true rfl) rfl hd k
theorem pf_X8_78 (C : cx p s_ m args meth c cc nL RX8 ret D cI cS) {v : Int32} (hd : decode cc pc = .ok (.putfield 78, 3)) (k : jN p l e R s_ m args below meth c nL D A Q cs sl (wC a cI (cu σ 0 0 v) rest) xs (pc + 3) st) : jN p l e R s_ m args below meth c nL D A Q cs sl (wC a cI σ rest) xs pc (.int v :: .ref (a 1) :: st) :=
  j_putf C (q0 := 1) (ci := 7) (k := 0) (ty := .int) inX7 tyX7_ok nmX7 rfl (by decide) tw_41 rfl (by decide +kernel) rfl rfl rfl (Nat.le_of_ble_eq_true rfl) rfl hd k
theorem pf_X8_83 (C : cx p s_ m args meth c cc nL RX8 ret D cI cS) {v : Int32} (hd : decode cc pc = .ok (.putfield 83, 3)) (k : jN p l e R s_ m args below meth c nL D A Q cs sl (wC a cI (cu σ 0 2 v) rest) xs (pc + 3) st) : jN p l e R s_ m args below meth c nL D A Q cs sl (wC a cI σ rest) xs pc (.int v :: .ref (a 1) :: st) :=
  j_putf C (q0 := 1) (ci := 7) (k := 2) (ty := .int) inX7 tyX7_ok nmX7 rfl (by decide) tw_47 rfl (by decide +kernel) rfl rfl rfl (Nat.le_of_ble_eq_true rfl) rfl hd k
theorem pf_X8_86 (C : cx p s_ m args meth c cc nL RX8 ret D cI cS) {v : Int32} (hd : decode cc pc = .ok (.putfield 86, 3)) (k : jN p l e R s_ m args below meth c nL D A Q cs sl (wC a cI (cu σ 0 1 v) rest) xs (pc + 3) st) : jN p l e R s_ m args below meth c nL D A Q cs sl (wC a cI σ rest) xs pc (.int v :: .ref (a 1) :: st) :=
  j_putf C (q0 := 1) (ci := 7) (k := 1) (ty := .int) inX7 tyX7_ok nmX7 rfl (by decide) tw_44 rfl (by decide +kernel) rfl rfl rfl (Nat.le_of_ble_eq_true rfl) rfl hd k
theorem pf_X8_89 (C : cx p s_ m args meth c cc nL RX8 ret D cI cS) {v : Int32} (hd : decode cc pc = .ok (.putfield 89, 3)) (k : jN p l e R s_ m args below meth c nL D A Q cs sl (wC a cI (cu σ 0 4 v) rest) xs (pc + 3) st) : jN p l e R s_ m args below meth c nL D A Q cs sl (wC a cI σ rest) xs pc (.int v :: .ref (a 1) :: st) :=
  j_putf C (q0 := 1) (ci := 7) (k := 4) (ty := .int) inX7 tyX7_ok nmX7 rfl (by decide) tw_53 rfl (by decide +kernel) rfl rfl rfl (Nat.le_of_ble_eq_true rfl) rfl hd k
theorem pf_X8_92 (C : cx p s_ m args meth c cc nL RX8 ret D cI cS) {v : Int32} (hd : decode cc pc = .ok (.putfield 92, 3)) (k : jN p l e R s_ m args below meth c nL D A Q cs sl (wC a cI (cu σ 0 3 v) rest) xs (pc + 3) st) : jN p l e R s_ m args below meth c nL D A Q cs sl (wC a cI σ rest) xs pc (.int v :: .ref (a 1) :: st) :=
  j_putf C (q0 := 1) (ci := 7) (k := 3) (ty := .int) inX7 tyX7_ok nmX7 rfl (by decide) tw_50 rfl (by decide +kernel) rfl rfl rfl (Nat.le_of_ble_eq_true rfl) rfl hd k
theorem pf_X8_95 (C : cx p s_ m args meth c cc nL RX8 ret D cI cS) {v : Int32} (hd : decode cc pc = .ok (.putfield 95, 3)) (k : jN p l e R s_ m args below meth c nL D A Q cs sl (wC a cI (cu σ 0 5 v) rest) xs (pc + 3) st) : jN p l e R s_ m args below meth c nL D A Q cs sl (wC a cI σ rest) xs pc (.int v :: .ref (a 1) :: st) :=
  j_putf C (q0 := 1) (ci := 7) (k := 5) (ty := .int) inX7 tyX7_ok nmX7 rfl (by decide) tw_56 rfl (by decide +kernel) rfl rfl rfl (Nat.le_of_ble_eq_true rfl) rfl hd k
theorem pf_X9_177 (C : cx p s_ m args meth c cc nL RX9 ret D cI cS) {v : Int64} (hd : decode cc pc = .ok (.putfield 177, 3)) (k : jN p l e R s_ m args below meth c nL D A Q cs sl (wM b cI s P E n v rest) xs (pc + 3) st) : jN p l e R s_ m args below meth c nL D A Q cs sl (wM b cI s P E n hs rest) xs pc (.long v :: .ref (b 0) :: st) :=
  j_putf C (q0 := 0) (ci := 9) (k := 4) (ty := .long) inX9 tyX9_ok nmX9 rfl (by decide) tw_758 rfl (by decide +kernel) rfl rfl rfl (Nat.le_of_ble_eq_true rfl) rfl hd k
theorem pf_X9_23 (C : cx p s_ m args meth c cc nL RX9 ret D cI cS) {v : Int32} (hd : decode cc pc = .ok (.putfield 23, 3)) (k : jN p l e R s_ m args below meth c nL D A Q cs sl (wM b cI s P E v hs rest) xs (pc + 3) st) : jN p l e R s_ m args below meth c nL D A Q cs sl (wM b cI s P E n hs rest) xs pc (.int v :: .ref (b 0) :: st) :=
  j_putf C (q0 := 0) (ci := 9) (k := 2) (ty := .int) inX9 tyX9_ok nmX9 rfl (by decide) tw_756 rfl (by decide +kernel) rfl rfl rfl (Nat.le_of_ble_eq_true rfl) rfl hd k
theorem aLC_6 (C : cx p s_ m args meth c cc nL own ret D cI cS) {i v : Int32} (hi : vp_in i 9) (hv : σ 6 i.toNatClampNeg = v) (hd : decode cc pc = .ok (.iaload, 1)) (k : jN p l e R s_ m args below meth c nL D A Q cs sl (wC a cI σ rest) xs (pc + 1) (.int v :: st)) : jN p l e R s_ m args below meth c nL D A Q cs sl (wC a cI σ rest) xs pc (.int i :: .ref (a 6) :: st) := by
  subst hv
  exact j_iald C (q0 := 6) rfl hi hd k
theorem aSC_6 (C : cx p s_ m args meth c cc nL own ret D cI cS) {i x : Int32} (hi : vp_in i 9) (hd : decode cc pc = .ok (.iastore, 1)) (k : jN p l e R s_ m args below meth c nL D A Q cs sl (wC a cI (cu σ 6 i.toNatClampNeg x) rest) xs (pc + 1) st) : jN p l e R s_ m args below meth c nL D A Q cs sl (wC a cI σ rest) xs pc (.int x :: .int i :: .ref (a 6) :: st) :=
  j_iast C (q0 := 6) rfl hi rfl hd k
theorem aNC_6 (C : cx p s_ m args meth c cc nL own ret D cI cS) (hd : decode cc pc = .ok (.arraylength, 1)) (k : jN p l e R s_ m args below meth c nL D A Q cs sl (wC a cI σ rest) xs (pc + 1) (.int (9 : Int32) :: st)) : jN p l e R s_ m args below meth c nL D A Q cs sl (wC a cI σ rest) xs pc (.ref (a 6) :: st) :=
  j_alen C (q0 := 6) rfl rfl hd k
theorem aLC_7 (C : cx p s_ m args meth c cc nL own ret D cI cS) {i v : Int32} (hi : vp_in i 8) (hv : σ 7 i.toNatClampNeg = v) (hd : decode cc pc = .ok (.iaload, 1)) (k : jN p l e R s_ m args below meth c nL D A Q cs sl (wC a cI σ rest) xs (pc + 1) (.int v :: st)) : jN p l e R s_ m args below meth c nL D A Q cs sl (wC a cI σ rest) xs pc (.int i :: .ref (a 7) :: st) := by
  subst hv
  exact j_iald C (q0 := 7) rfl hi hd k
theorem aSC_7 (C : cx p s_ m args meth c cc nL own ret D cI cS) {i x : Int32} (hi : vp_in i 8) (hd : decode cc pc = .ok (.iastore, 1)) (k : jN p l e R s_ m args below meth c nL D A Q cs sl (wC a cI (cu σ 7 i.toNatClampNeg x) rest) xs (pc + 1) st) : jN p l e R s_ m args below meth c nL D A Q cs sl (wC a cI σ rest) xs pc (.int x :: .int i :: .ref (a 7) :: st) :=
  j_iast C (q0 := 7) rfl hi rfl hd k
theorem aNC_7 (C : cx p s_ m args meth c cc nL own ret D cI cS) (hd : decode cc pc = .ok (.arraylength, 1)) (k : jN p l e R s_ m args below meth c nL D A Q cs sl (wC a cI σ rest) xs (pc + 1) (.int (8 : Int32) :: st)) : jN p l e R s_ m args below meth c nL D A Q cs sl (wC a cI σ rest) xs pc (.ref (a 7) :: st) :=
  j_alen C (q0 := 7) rfl rfl hd k
theorem aLC_8 (C : cx p s_ m args meth c cc nL own ret D cI cS) {i v : Int32} (hi : vp_in i 8) (hv : σ 8 i.toNatClampNeg = v) (hd : decode cc pc = .ok (.iaload, 1)) (k : jN p l e R s_ m args below meth c nL D A Q cs sl (wC a cI σ rest) xs (pc + 1) (.int v :: st)) : jN p l e R s_ m args below meth c nL D A Q cs sl (wC a cI σ rest) xs pc (.int i :: .ref (a 8) :: st) := by
  subst hv
  exact j_iald C (q0 := 8) rfl hi hd k
theorem aSC_8 (C : cx p s_ m args meth c cc nL own ret D cI cS) {i x : Int32} (hi : vp_in i 8) (hd : decode cc pc = .ok (.iastore, 1)) (k : jN p l e R s_ m args below meth c nL D A Q cs sl (wC a cI (cu σ 8 i.toNatClampNeg x) rest) xs (pc + 1) st) : jN p l e R s_ m args below meth c nL D A Q cs sl (wC a cI σ rest) xs pc (.int x :: .int i :: .ref (a 8) :: st) :=
  j_iast C (q0 := 8) rfl hi rfl hd k
theorem aNC_8 (C : cx p s_ m args meth c cc nL own ret D cI cS) (hd : decode cc pc = .ok (.arraylength, 1)) (k : jN p l e R s_ m args below meth c nL D A Q cs sl (wC a cI σ rest) xs (pc + 1) (.int (8 : Int32) :: st)) : jN p l e R s_ m args below meth c nL D A Q cs sl (wC a cI σ rest) xs pc (.ref (a 8) :: st) :=
  j_alen C (q0 := 8) rfl rfl hd k
theorem aLC_9 (C : cx p s_ m args meth c cc nL own ret D cI cS) {i v : Int32} (hi : vp_in i 16) (hv : σ 9 i.toNatClampNeg = v) (hd : decode cc pc = .ok (.iaload, 1)) (k : jN p l e R s_ m args below meth c nL D A Q cs sl (wC a cI σ rest) xs (pc + 1) (.int v :: st)) : jN p l e R s_ m args below meth c nL D A Q cs sl (wC a cI σ rest) xs pc (.int i :: .ref (a 9) :: st) := by
  subst hv
  exact j_iald C (q0 := 9) rfl hi hd k
theorem aSC_9 (C : cx p s_ m args meth c cc nL own ret D cI cS) {i x : Int32} (hi : vp_in i 16) (hd : decode cc pc = .ok (.iastore, 1)) (k : jN p l e R s_ m args below meth c nL D A Q cs sl (wC a cI (cu σ 9 i.toNatClampNeg x) rest) xs (pc + 1) st) : jN p l e R s_ m args below meth c nL D A Q cs sl (wC a cI σ rest) xs pc (.int x :: .int i :: .ref (a 9) :: st) :=
  j_iast C (q0 := 9) rfl hi rfl hd k
theorem aNC_9 (C : cx p s_ m args meth c cc nL own ret D cI cS) (hd : decode cc pc = .ok (.arraylength, 1)) (k : jN p l e R s_ m args below meth c nL D A Q cs sl (wC a cI σ rest) xs (pc + 1) (.int (16 : Int32) :: st)) : jN p l e R s_ m args below meth c nL D A Q cs sl (wC a cI σ rest) xs pc (.ref (a 9) :: st) :=
  j_alen C (q0 := 9) rfl rfl hd k
theorem aLC_10 (C : cx p s_ m args meth c cc nL own ret D cI cS) {i v : Int32} (hi : vp_in i 16) (hv : σ 10 i.toNatClampNeg = v) (hd : decode cc pc = .ok (.iaload, 1)) (k : jN p l e R s_ m args below meth c nL D A Q cs sl (wC a cI σ rest) xs (pc + 1) (.int v :: st)) : jN p l e R s_ m args below meth c nL D A Q cs sl (wC a cI σ rest) xs pc (.int i :: .ref (a 10) :: st) := by
  subst hv
  exact j_iald C (q0 := 10) rfl hi hd k
theorem aSC_10 (C : cx p s_ m args meth c cc nL own ret D cI cS) {i x : Int32} (hi : vp_in i 16) (hd : decode cc pc = .ok (.iastore, 1)) (k : jN p l e R s_ m args below meth c nL D A Q cs sl (wC a cI (cu σ 10 i.toNatClampNeg x) rest) xs (pc + 1) st) : jN p l e R s_ m args below meth c nL D A Q cs sl (wC a cI σ rest) xs pc (.int x :: .int i :: .ref (a 10) :: st) :=
  j_iast C (q0 := 10) rfl hi rfl hd k
theorem aNC_10 (C : cx p s_ m args meth c cc nL own ret D cI cS) (hd : decode cc pc = .ok (.arraylength, 1)) (k : jN p l e R s_ m args below meth c nL D A Q cs sl (wC a cI σ rest) xs (pc + 1) (.int (16 : Int32) :: st)) : jN p l e R s_ m args below meth c nL D A Q cs sl (wC a cI σ rest) xs pc (.ref (a 10) :: st) :=
  j_alen C (q0 := 10) rfl rfl hd k
theorem aLC_11 (C : cx p s_ m args meth c cc nL own ret D cI cS) {i v : Int32} (hi : vp_in i 16) (hv : σ 11 i.toNatClampNeg = v) (hd : decode cc pc = .ok (.iaload, 1)) (k : jN p l e R s_ m args below meth c nL D A Q cs sl (wC a cI σ rest) xs (pc + 1) (.int v :: st)) : jN p l e R s_ m args below meth c nL D A Q cs sl (wC a cI σ rest) xs pc (.int i :: .ref (a 11) :: st) := by
  subst hv
  exact j_iald C (q0 := 11) rfl hi hd k
theorem aSC_11 (C : cx p s_ m args meth c cc nL own ret D cI cS) {i x : Int32} (hi : vp_in i 16) (hd : decode cc pc = .ok (.iastore, 1)) (k : jN p l e R s_ m args below meth c nL D A Q cs sl (wC a cI (cu σ 11 i.toNatClampNeg x) rest) xs (pc + 1) st) : jN p l e R s_ m args below meth c nL D A Q cs sl (wC a cI σ rest) xs pc (.int x :: .int i :: .ref (a 11) :: st) :=
  j_iast C (q0 := 11) rfl hi rfl hd k
theorem aNC_11 (C : cx p s_ m args meth c cc nL own ret D cI cS) (hd : decode cc pc = .ok (.arraylength, 1)) (k : jN p l e R s_ m args below meth c nL D A Q cs sl (wC a cI σ rest) xs (pc + 1) (.int (16 : Int32) :: st)) : jN p l e R s_ m args below meth c nL D A Q cs sl (wC a cI σ rest) xs pc (.ref (a 11) :: st) :=
  j_alen C (q0 := 11) rfl rfl hd k
theorem aLC_12 (C : cx p s_ m args meth c cc nL own ret D cI cS) {i v : Int32} (hi : vp_in i 16) (hv : σ 12 i.toNatClampNeg = v) (hd : decode cc pc = .ok (.iaload, 1)) (k : jN p l e R s_ m args below meth c nL D A Q cs sl (wC a cI σ rest) xs (pc + 1) (.int v :: st)) : jN p l e R s_ m args below meth c nL D A Q cs sl (wC a cI σ rest) xs pc (.int i :: .ref (a 12) :: st) := by
  subst hv
  exact j_iald C (q0 := 12) rfl hi hd k
theorem aSC_12 (C : cx p s_ m args meth c cc nL own ret D cI cS) {i x : Int32} (hi : vp_in i 16) (hd : decode cc pc = .ok (.iastore, 1)) (k : jN p l e R s_ m args below meth c nL D A Q cs sl (wC a cI (cu σ 12 i.toNatClampNeg x) rest) xs (pc + 1) st) : jN p l e R s_ m args below meth c nL D A Q cs sl (wC a cI σ rest) xs pc (.int x :: .int i :: .ref (a 12) :: st) :=
  j_iast C (q0 := 12) rfl hi rfl hd k
theorem aNC_12 (C : cx p s_ m args meth c cc nL own ret D cI cS) (hd : decode cc pc = .ok (.arraylength, 1)) (k : jN p l e R s_ m args below meth c nL D A Q cs sl (wC a cI σ rest) xs (pc + 1) (.int (16 : Int32) :: st)) : jN p l e R s_ m args below meth c nL D A Q cs sl (wC a cI σ rest) xs pc (.ref (a 12) :: st) :=
  j_alen C (q0 := 12) rfl rfl hd k
theorem aLC_13 (C : cx p s_ m args meth c cc nL own ret D cI cS) {i v : Int32} (hi : vp_in i 16) (hv : σ 13 i.toNatClampNeg = v) (hd : decode cc pc = .ok (.iaload, 1)) (k : jN p l e R s_ m args below meth c nL D A Q cs sl (wC a cI σ rest) xs (pc + 1) (.int v :: st)) : jN p l e R s_ m args below meth c nL D A Q cs sl (wC a cI σ rest) xs pc (.int i :: .ref (a 13) :: st) := by
  subst hv
  exact j_iald C (q0 := 13) rfl hi hd k
theorem aSC_13 (C : cx p s_ m args meth c cc nL own ret D cI cS) {i x : Int32} (hi : vp_in i 16) (hd : decode cc pc = .ok (.iastore, 1)) (k : jN p l e R s_ m args below meth c nL D A Q cs sl (wC a cI (cu σ 13 i.toNatClampNeg x) rest) xs (pc + 1) st) : jN p l e R s_ m args below meth c nL D A Q cs sl (wC a cI σ rest) xs pc (.int x :: .int i :: .ref (a 13) :: st) :=
  j_iast C (q0 := 13) rfl hi rfl hd k
theorem aNC_13 (C : cx p s_ m args meth c cc nL own ret D cI cS) (hd : decode cc pc = .ok (.arraylength, 1)) (k : jN p l e R s_ m args below meth c nL D A Q cs sl (wC a cI σ rest) xs (pc + 1) (.int (16 : Int32) :: st)) : jN p l e R s_ m args below meth c nL D A Q cs sl (wC a cI σ rest) xs pc (.ref (a 13) :: st) :=
  j_alen C (q0 := 13) rfl rfl hd k
theorem aLC_14 (C : cx p s_ m args meth c cc nL own ret D cI cS) {i v : Int32} (hi : vp_in i 16) (hv : σ 14 i.toNatClampNeg = v) (hd : decode cc pc = .ok (.iaload, 1)) (k : jN p l e R s_ m args below meth c nL D A Q cs sl (wC a cI σ rest) xs (pc + 1) (.int v :: st)) : jN p l e R s_ m args below meth c nL D A Q cs sl (wC a cI σ rest) xs pc (.int i :: .ref (a 14) :: st) := by
  subst hv
  exact j_iald C (q0 := 14) rfl hi hd k
theorem aSC_14 (C : cx p s_ m args meth c cc nL own ret D cI cS) {i x : Int32} (hi : vp_in i 16) (hd : decode cc pc = .ok (.iastore, 1)) (k : jN p l e R s_ m args below meth c nL D A Q cs sl (wC a cI (cu σ 14 i.toNatClampNeg x) rest) xs (pc + 1) st) : jN p l e R s_ m args below meth c nL D A Q cs sl (wC a cI σ rest) xs pc (.int x :: .int i :: .ref (a 14) :: st) :=
  j_iast C (q0 := 14) rfl hi rfl hd k
theorem aNC_14 (C : cx p s_ m args meth c cc nL own ret D cI cS) (hd : decode cc pc = .ok (.arraylength, 1)) (k : jN p l e R s_ m args below meth c nL D A Q cs sl (wC a cI σ rest) xs (pc + 1) (.int (16 : Int32) :: st)) : jN p l e R s_ m args below meth c nL D A Q cs sl (wC a cI σ rest) xs pc (.ref (a 14) :: st) :=
  j_alen C (q0 := 14) rfl rfl hd k
theorem aLC_15 (C : cx p s_ m args meth c cc nL own ret D cI cS) {i v : Int32} (hi : vp_in i 64) (hv : σ 15 i.toNatClampNeg = v) (hd : decode cc pc = .ok (.iaload, 1)) (k : jN p l e R s_ m args below meth c nL D A Q cs sl (wC a cI σ rest) xs (pc + 1) (.int v :: st)) : jN p l e R s_ m args below meth c nL D A Q cs sl (wC a cI σ rest) xs pc (.int i :: .ref (a 15) :: st) := by
  subst hv
  exact j_iald C (q0 := 15) rfl hi hd k
theorem aSC_15 (C : cx p s_ m args meth c cc nL own ret D cI cS) {i x : Int32} (hi : vp_in i 64) (hd : decode cc pc = .ok (.iastore, 1)) (k : jN p l e R s_ m args below meth c nL D A Q cs sl (wC a cI (cu σ 15 i.toNatClampNeg x) rest) xs (pc + 1) st) : jN p l e R s_ m args below meth c nL D A Q cs sl (wC a cI σ rest) xs pc (.int x :: .int i :: .ref (a 15) :: st) :=
  j_iast C (q0 := 15) rfl hi rfl hd k
theorem aNC_15 (C : cx p s_ m args meth c cc nL own ret D cI cS) (hd : decode cc pc = .ok (.arraylength, 1)) (k : jN p l e R s_ m args below meth c nL D A Q cs sl (wC a cI σ rest) xs (pc + 1) (.int (64 : Int32) :: st)) : jN p l e R s_ m args below meth c nL D A Q cs sl (wC a cI σ rest) xs pc (.ref (a 15) :: st) :=
  j_alen C (q0 := 15) rfl rfl hd k
theorem aLC_16 (C : cx p s_ m args meth c cc nL own ret D cI cS) {i v : Int32} (hi : vp_in i 64) (hv : σ 16 i.toNatClampNeg = v) (hd : decode cc pc = .ok (.iaload, 1)) (k : jN p l e R s_ m args below meth c nL D A Q cs sl (wC a cI σ rest) xs (pc + 1) (.int v :: st)) : jN p l e R s_ m args below meth c nL D A Q cs sl (wC a cI σ rest) xs pc (.int i :: .ref (a 16) :: st) := by
  subst hv
  exact j_iald C (q0 := 16) rfl hi hd k
theorem aSC_16 (C : cx p s_ m args meth c cc nL own ret D cI cS) {i x : Int32} (hi : vp_in i 64) (hd : decode cc pc = .ok (.iastore, 1)) (k : jN p l e R s_ m args below meth c nL D A Q cs sl (wC a cI (cu σ 16 i.toNatClampNeg x) rest) xs (pc + 1) st) : jN p l e R s_ m args below meth c nL D A Q cs sl (wC a cI σ rest) xs pc (.int x :: .int i :: .ref (a 16) :: st) :=
  j_iast C (q0 := 16) rfl hi rfl hd k
theorem aNC_16 (C : cx p s_ m args meth c cc nL own ret D cI cS) (hd : decode cc pc = .ok (.arraylength, 1)) (k : jN p l e R s_ m args below meth c nL D A Q cs sl (wC a cI σ rest) xs (pc + 1) (.int (64 : Int32) :: st)) : jN p l e R s_ m args below meth c nL D A Q cs sl (wC a cI σ rest) xs pc (.ref (a 16) :: st) :=
  j_alen C (q0 := 16) rfl rfl hd k
theorem aLC_17 (C : cx p s_ m args meth c cc nL own ret D cI cS) {i v : Int32} (hi : vp_in i 32) (hv : σ 17 i.toNatClampNeg = v) (hd : decode cc pc = .ok (.iaload, 1)) (k : jN p l e R s_ m args below meth c nL D A Q cs sl (wC a cI σ rest) xs (pc + 1) (.int v :: st)) : jN p l e R s_ m args below meth c nL D A Q cs sl (wC a cI σ rest) xs pc (.int i :: .ref (a 17) :: st) := by
  subst hv
  exact j_iald C (q0 := 17) rfl hi hd k
theorem aSC_17 (C : cx p s_ m args meth c cc nL own ret D cI cS) {i x : Int32} (hi : vp_in i 32) (hd : decode cc pc = .ok (.iastore, 1)) (k : jN p l e R s_ m args below meth c nL D A Q cs sl (wC a cI (cu σ 17 i.toNatClampNeg x) rest) xs (pc + 1) st) : jN p l e R s_ m args below meth c nL D A Q cs sl (wC a cI σ rest) xs pc (.int x :: .int i :: .ref (a 17) :: st) :=
  j_iast C (q0 := 17) rfl hi rfl hd k
theorem aNC_17 (C : cx p s_ m args meth c cc nL own ret D cI cS) (hd : decode cc pc = .ok (.arraylength, 1)) (k : jN p l e R s_ m args below meth c nL D A Q cs sl (wC a cI σ rest) xs (pc + 1) (.int (32 : Int32) :: st)) : jN p l e R s_ m args below meth c nL D A Q cs sl (wC a cI σ rest) xs pc (.ref (a 17) :: st) :=
  j_alen C (q0 := 17) rfl rfl hd k
theorem aLM_1 (C : cx p s_ m args meth c cc nL own ret D cI cS) {i v : Int32} (hi : vp_in i 299) (hv : s i.toNatClampNeg = v) (hd : decode cc pc = .ok (.iaload, 1)) (k : jN p l e R s_ m args below meth c nL D A Q cs sl (wM b cI s P E n hs rest) xs (pc + 1) (.int v :: st)) : jN p l e R s_ m args below meth c nL D A Q cs sl (wM b cI s P E n hs rest) xs pc (.int i :: .ref (b 1) :: st) := by
  subst hv
  exact j_iald C (q0 := 1) rfl hi hd k
theorem aSM_1 (C : cx p s_ m args meth c cc nL own ret D cI cS) {i x : Int32} (hi : vp_in i 299) (hd : decode cc pc = .ok (.iastore, 1)) (k : jN p l e R s_ m args below meth c nL D A Q cs sl (wM b cI (upd s i.toNatClampNeg x) P E n hs rest) xs (pc + 1) st) : jN p l e R s_ m args below meth c nL D A Q cs sl (wM b cI s P E n hs rest) xs pc (.int x :: .int i :: .ref (b 1) :: st) :=
  j_iast C (q0 := 1) rfl hi rfl hd k
theorem aLM_2 (C : cx p s_ m args meth c cc nL own ret D cI cS) {i v : Int32} (hi : vp_in i 1196) (hv : P i.toNatClampNeg = v) (hd : decode cc pc = .ok (.iaload, 1)) (k : jN p l e R s_ m args below meth c nL D A Q cs sl (wM b cI s P E n hs rest) xs (pc + 1) (.int v :: st)) : jN p l e R s_ m args below meth c nL D A Q cs sl (wM b cI s P E n hs rest) xs pc (.int i :: .ref (b 2) :: st) := by
  subst hv
  exact j_iald C (q0 := 2) rfl hi hd k
theorem aSM_2 (C : cx p s_ m args meth c cc nL own ret D cI cS) {i x : Int32} (hi : vp_in i 1196) (hd : decode cc pc = .ok (.iastore, 1)) (k : jN p l e R s_ m args below meth c nL D A Q cs sl (wM b cI s (upd P i.toNatClampNeg x) E n hs rest) xs (pc + 1) st) : jN p l e R s_ m args below meth c nL D A Q cs sl (wM b cI s P E n hs rest) xs pc (.int x :: .int i :: .ref (b 2) :: st) :=
  j_iast C (q0 := 2) rfl hi rfl hd k
theorem aLM_3 (C : cx p s_ m args meth c cc nL own ret D cI cS) {i v : Int32} (hi : vp_in i 3) (hv : E i.toNatClampNeg = v) (hd : decode cc pc = .ok (.iaload, 1)) (k : jN p l e R s_ m args below meth c nL D A Q cs sl (wM b cI s P E n hs rest) xs (pc + 1) (.int v :: st)) : jN p l e R s_ m args below meth c nL D A Q cs sl (wM b cI s P E n hs rest) xs pc (.int i :: .ref (b 3) :: st) := by
  subst hv
  exact j_iald C (q0 := 3) rfl hi hd k
theorem aSM_3 (C : cx p s_ m args meth c cc nL own ret D cI cS) {i x : Int32} (hi : vp_in i 3) (hd : decode cc pc = .ok (.iastore, 1)) (k : jN p l e R s_ m args below meth c nL D A Q cs sl (wM b cI s P (upd E i.toNatClampNeg x) n hs rest) xs (pc + 1) st) : jN p l e R s_ m args below meth c nL D A Q cs sl (wM b cI s P E n hs rest) xs pc (.int x :: .int i :: .ref (b 3) :: st) :=
  j_iast C (q0 := 3) rfl hi rfl hd k
theorem cpC_15_15 (C : cx p s_ m args meth c cc nL own ret D cI cS) {index : Nat} {sp dp n : Int32} (hlink : Cond.methodLink own index arraycopyName ∈ GT) (hg : acG 64 64 sp dp n) (hf : 1 ≤ R.frames) (hlo : (st.map fun v => v.category).sum + (nativeFrameWords "java/lang/System" "arraycopy" 5 + 11) ≤ R.locals) (hd : decode cc pc = .ok (.invokestatic index, 3)) (k : jN p l e R s_ m args below meth c nL D A Q cs sl (wC a cI (cr σ 15 (va_cpy (σ 15) (σ 15) sp.toNatClampNeg dp.toNatClampNeg n.toNatClampNeg)) rest) xs (pc + 3) st) : jN p l e R s_ m args below meth c nL D A Q cs sl (wC a cI σ rest) xs pc (.int n :: .int dp :: .ref (a 15) :: .int sp :: .ref (a 15) :: st) :=
  j_copy C (q0 := 15) (q1 := 15) hlink tw_297 tw_296 tw_12 rfl rfl hg hf hlo rfl hd k
theorem cpC_16_16 (C : cx p s_ m args meth c cc nL own ret D cI cS) {index : Nat} {sp dp n : Int32} (hlink : Cond.methodLink own index arraycopyName ∈ GT) (hg : acG 64 64 sp dp n) (hf : 1 ≤ R.frames) (hlo : (st.map fun v => v.category).sum + (nativeFrameWords "java/lang/System" "arraycopy" 5 + 11) ≤ R.locals) (hd : decode cc pc = .ok (.invokestatic index, 3)) (k : jN p l e R s_ m args below meth c nL D A Q cs sl (wC a cI (cr σ 16 (va_cpy (σ 16) (σ 16) sp.toNatClampNeg dp.toNatClampNeg n.toNatClampNeg)) rest) xs (pc + 3) st) : jN p l e R s_ m args below meth c nL D A Q cs sl (wC a cI σ rest) xs pc (.int n :: .int dp :: .ref (a 16) :: .int sp :: .ref (a 16) :: st) :=
  j_copy C (q0 := 16) (q1 := 16) hlink tw_297 tw_296 tw_12 rfl rfl hg hf hlo rfl hd k
theorem cpC_17_17 (C : cx p s_ m args meth c cc nL own ret D cI cS) {index : Nat} {sp dp n : Int32} (hlink : Cond.methodLink own index arraycopyName ∈ GT) (hg : acG 32 32 sp dp n) (hf : 1 ≤ R.frames) (hlo : (st.map fun v => v.category).sum + (nativeFrameWords "java/lang/System" "arraycopy" 5 + 11) ≤ R.locals) (hd : decode cc pc = .ok (.invokestatic index, 3)) (k : jN p l e R s_ m args below meth c nL D A Q cs sl (wC a cI (cr σ 17 (va_cpy (σ 17) (σ 17) sp.toNatClampNeg dp.toNatClampNeg n.toNatClampNeg)) rest) xs (pc + 3) st) : jN p l e R s_ m args below meth c nL D A Q cs sl (wC a cI σ rest) xs pc (.int n :: .int dp :: .ref (a 17) :: .int sp :: .ref (a 17) :: st) :=
  j_copy C (q0 := 17) (q1 := 17) hlink tw_297 tw_296 tw_12 rfl rfl hg hf hlo rfl hd k
end P5
theorem cl_X0_53 : CV RX0 53 RX5 yX5_endOf cX5_endOf 2 (some .int) 1 := ⟨tw_532, tw_533, tw_534, tw_6, tw_535, (by decide +kernel), (by decide +kernel), (by decide +kernel)⟩
theorem cl_X0_57 : CV RX0 57 RX3 yX3_sumBetween cX3_sumBetween 5 (some .int) 2 := ⟨tw_536, tw_537, tw_538, tw_7, tw_539, (by decide +kernel), (by decide +kernel), (by decide +kernel)⟩
theorem cl_X0_61 : CV RX0 61 RX6 yX6_countBetween cX6_countBetween 5 (some .int) 2 := ⟨tw_584, tw_585, tw_586, tw_8, tw_587, (by decide +kernel), (by decide +kernel), (by decide +kernel)⟩
theorem cl_X0_64 : CV RX0 64 RX3 yX3_splitKeyBetween cX3_splitKeyBetween 8 (some .int) 2 := ⟨tw_566, tw_567, tw_568, tw_7, tw_569, (by decide +kernel), (by decide +kernel), (by decide +kernel)⟩
theorem cl_X0_67 : CV RX0 67 RX6 yX6_splitKeyBetween cX6_splitKeyBetween 7 (some .int) 2 := ⟨tw_592, tw_593, tw_594, tw_8, tw_595, (by decide +kernel), (by decide +kernel), (by decide +kernel)⟩
theorem cl_X0_75 : CV RX0 75 RX0 yX0_votersUp cX0_votersUp 2 (some .int) 1 := ⟨tw_347, tw_348, tw_349, tw_3, tw_350, (by decide +kernel), (by decide +kernel), (by decide +kernel)⟩
theorem cl_X0_78 : CS RX0 78 yJ6_bitCount_0f7a4 cJ6_bitCount_0f7a4 1 (some .int) 1 := ⟨tw_351, tw_352, tw_13, tw_353, (by decide +kernel), (by decide +kernel), (by decide +kernel)⟩
theorem cl_X0_86 : CV RX0 86 RX0 yX0_hasQuorum cX0_hasQuorum 2 (some .boolean) 1 := ⟨tw_343, tw_344, tw_345, tw_3, tw_346, (by decide +kernel), (by decide +kernel), (by decide +kernel)⟩
theorem cl_X0_91 : CSN RX0 91 RX8 yX8_bit cX8_bit 1 (some .int) 1 := ⟨List.mem_of_getElem? (i := 12) (by decide +kernel), tw_320, tw_1, tw_321, (by decide +kernel), (by decide +kernel), (by decide +kernel)⟩
theorem cl_X0_94 : CV RX0 94 RX5 yX5_ledBy cX5_ledBy 4 (some .int) 1 := ⟨tw_361, tw_362, tw_363, tw_6, tw_364, (by decide +kernel), (by decide +kernel), (by decide +kernel)⟩
theorem cl_X0_100 : CV RX0 100 RX0 yX0_leastLeading cX0_leastLeading 6 (some .int) 1 := ⟨tw_357, tw_358, tw_359, tw_3, tw_360, (by decide +kernel), (by decide +kernel), (by decide +kernel)⟩
theorem cl_X0_103 : CV RX0 103 RX0 yX0_elect cX0_elect 2 none 1 := ⟨tw_339, tw_340, tw_341, tw_3, tw_342, (by decide +kernel), (by decide +kernel), (by decide +kernel)⟩
theorem cl_X0_110 : CV RX0 110 RX5 yX5_clearLearner cX5_clearLearner 2 none 1 := ⟨tw_369, tw_370, tw_371, tw_6, tw_372, (by decide +kernel), (by decide +kernel), (by decide +kernel)⟩
theorem cl_X0_113 : CV RX0 113 RX7 yX7_copyFrom cX7_copyFrom 2 none 1 := ⟨tw_281, tw_282, tw_283, tw_4, tw_284, (by decide +kernel), (by decide +kernel), (by decide +kernel)⟩
theorem cl_X0_117 : CV RX0 117 RX4 yX4_copyFrom cX4_copyFrom 2 none 1 := ⟨tw_285, tw_286, tw_287, tw_5, tw_288, (by decide +kernel), (by decide +kernel), (by decide +kernel)⟩
theorem cl_X0_120 : CV RX0 120 RX5 yX5_copyFrom cX5_copyFrom 2 none 1 := ⟨tw_298, tw_299, tw_300, tw_6, tw_301, (by decide +kernel), (by decide +kernel), (by decide +kernel)⟩
theorem cl_X0_123 : CV RX0 123 RX3 yX3_copyFrom cX3_copyFrom 2 none 1 := ⟨tw_303, tw_304, tw_305, tw_7, tw_306, (by decide +kernel), (by decide +kernel), (by decide +kernel)⟩
theorem cl_X0_126 : CV RX0 126 RX6 yX6_copyFrom cX6_copyFrom 2 none 1 := ⟨tw_308, tw_309, tw_310, tw_8, tw_311, (by decide +kernel), (by decide +kernel), (by decide +kernel)⟩
theorem cl_X0_129 : CSN RX0 129 RX8 yX8_copyRow cX8_copyRow 2 none 2 := ⟨List.mem_of_getElem? (i := 10) (by decide +kernel), tw_290, tw_1, tw_291, (by decide +kernel), (by decide +kernel), (by decide +kernel)⟩
theorem cl_X1_42 : CV RX1 42 RX1 yX1_advanceLearner cX1_advanceLearner 4 none 1 := ⟨tw_475, tw_477, ts_4, tw_2, tw_478, (by decide +kernel), (by decide +kernel), (by decide +kernel)⟩
theorem cl_X1_46 : CV RX1 46 RX1 yX1_perform cX1_perform 3 (some .boolean) 2 := ⟨tw_483, tw_485, ts_5, tw_2, tw_486, (by decide +kernel), (by decide +kernel), (by decide +kernel)⟩
theorem cl_X1_57 : CV RX1 57 RX4 yX4_isUp cX4_isUp 2 (some .boolean) 1 := ⟨tw_479, tw_331, tw_332, tw_5, tw_333, (by decide +kernel), (by decide +kernel), (by decide +kernel)⟩
theorem cl_X1_72 : CV RX1 72 RX5 yX5_clearLearner cX5_clearLearner 2 none 1 := ⟨tw_480, tw_370, tw_371, tw_6, tw_372, (by decide +kernel), (by decide +kernel), (by decide +kernel)⟩
theorem cl_X1_78 : CSN RX1 78 RX8 yX8_bit cX8_bit 1 (some .int) 1 := ⟨List.mem_of_getElem? (i := 13) (by decide +kernel), tw_320, tw_1, tw_321, (by decide +kernel), (by decide +kernel), (by decide +kernel)⟩
theorem cl_X1_82 : CV RX1 82 RX0 yX0_elect cX0_elect 2 none 1 := ⟨tw_482, tw_340, tw_341, tw_3, tw_342, (by decide +kernel), (by decide +kernel), (by decide +kernel)⟩
theorem cl_X1_85 : CV RX1 85 RX1 yX1_create cX1_create 3 (some .boolean) 1 := ⟨tw_487, tw_489, ts_6, tw_2, tw_490, (by decide +kernel), (by decide +kernel), (by decide +kernel)⟩
theorem cl_X1_88 : CV RX1 88 RX1 yX1_repair cX1_repair 4 (some .boolean) 1 := ⟨tw_508, tw_510, ts_9, tw_2, tw_511, (by decide +kernel), (by decide +kernel), (by decide +kernel)⟩
theorem cl_X1_91 : CV RX1 91 RX1 yX1_spread cX1_spread 4 (some .boolean) 1 := ⟨tw_545, tw_547, ts_12, tw_2, tw_548, (by decide +kernel), (by decide +kernel), (by decide +kernel)⟩
theorem cl_X1_94 : CV RX1 94 RX1 yX1_splitBySize cX1_splitBySize 2 (some .boolean) 1 := ⟨tw_557, tw_559, ts_15, tw_2, tw_560, (by decide +kernel), (by decide +kernel), (by decide +kernel)⟩
theorem cl_X1_97 : CV RX1 97 RX1 yX1_splitByLoad cX1_splitByLoad 2 (some .boolean) 1 := ⟨tw_576, tw_578, ts_17, tw_2, tw_579, (by decide +kernel), (by decide +kernel), (by decide +kernel)⟩
theorem cl_X1_100 : CV RX1 100 RX1 yX1_merge cX1_merge 3 (some .boolean) 1 := ⟨tw_601, tw_603, ts_19, tw_2, tw_604, (by decide +kernel), (by decide +kernel), (by decide +kernel)⟩
theorem cl_X1_103 : CV RX1 103 RX1 yX1_shiftLeader cX1_shiftLeader 4 (some .boolean) 1 := ⟨tw_613, tw_615, ts_21, tw_2, tw_616, (by decide +kernel), (by decide +kernel), (by decide +kernel)⟩
theorem cl_X1_106 : CV RX1 106 RX1 yX1_shiftReplica cX1_shiftReplica 4 (some .boolean) 1 := ⟨tw_619, tw_621, ts_22, tw_2, tw_622, (by decide +kernel), (by decide +kernel), (by decide +kernel)⟩
theorem cl_X1_109 : CV RX1 109 RX1 yX1_choose cX1_choose 10 (some .int) 2 := ⟨tw_491, tw_493, ts_7, tw_2, tw_494, (by decide +kernel), (by decide +kernel), (by decide +kernel)⟩
theorem cl_X1_113 : CV RX1 113 RX5 yX5_hasLearner cX5_hasLearner 2 (some .boolean) 1 := ⟨tw_512, tw_447, tw_448, tw_6, tw_449, (by decide +kernel), (by decide +kernel), (by decide +kernel)⟩
theorem cl_X1_116 : CV RX1 116 RX0 yX0_hasQuorum cX0_hasQuorum 2 (some .boolean) 1 := ⟨tw_513, tw_344, tw_345, tw_3, tw_346, (by decide +kernel), (by decide +kernel), (by decide +kernel)⟩
theorem cl_X1_119 : CV RX1 119 RX0 yX0_votersUp cX0_votersUp 2 (some .int) 1 := ⟨tw_514, tw_348, tw_349, tw_3, tw_350, (by decide +kernel), (by decide +kernel), (by decide +kernel)⟩
theorem cl_X1_122 : CS RX1 122 yJ6_bitCount_0f7a4 cJ6_bitCount_0f7a4 1 (some .int) 1 := ⟨tw_515, tw_352, tw_13, tw_353, (by decide +kernel), (by decide +kernel), (by decide +kernel)⟩
theorem cl_X1_132 : CV RX1 132 RX0 yX0_votersDown cX0_votersDown 2 (some .int) 1 := ⟨tw_516, tw_517, tw_518, tw_3, tw_519, (by decide +kernel), (by decide +kernel), (by decide +kernel)⟩
theorem cl_X1_135 : CV RX1 135 RX1 yX1_lowestOf cX1_lowestOf 3 (some .int) 1 := ⟨tw_520, tw_522, ts_10, tw_2, tw_523, (by decide +kernel), (by decide +kernel), (by decide +kernel)⟩
theorem cl_X1_138 : CV RX1 138 RX1 yX1_teach cX1_teach 4 none 3 := ⟨tw_524, tw_526, ts_11, tw_2, tw_527, (by decide +kernel), (by decide +kernel), (by decide +kernel)⟩
theorem cl_X1_142 : CV RX1 142 RX1 yX1_isWhole cX1_isWhole 2 (some .boolean) 1 := ⟨tw_549, tw_551, ts_13, tw_2, tw_552, (by decide +kernel), (by decide +kernel), (by decide +kernel)⟩
theorem cl_X1_145 : CV RX1 145 RX1 yX1_highestSharingZone cX1_highestSharingZone 4 (some .int) 1 := ⟨tw_553, tw_555, ts_14, tw_2, tw_556, (by decide +kernel), (by decide +kernel), (by decide +kernel)⟩
theorem cl_X1_148 : CV RX1 148 RX1 yX1_isFresh cX1_isFresh 5 (some .boolean) 3 := ⟨tw_500, tw_502, ts_8, tw_2, tw_503, (by decide +kernel), (by decide +kernel), (by decide +kernel)⟩
theorem cl_X1_152 : CV RX1 152 RX5 yX5_isFull cX5_isFull 1 (some .boolean) 0 := ⟨tw_561, tw_451, tw_452, tw_6, tw_453, (by decide +kernel), (by decide +kernel), (by decide +kernel)⟩
theorem cl_X1_156 : CV RX1 156 RX0 yX0_rangeSize cX0_rangeSize 2 (some .int) 1 := ⟨tw_528, tw_529, tw_530, tw_3, tw_531, (by decide +kernel), (by decide +kernel), (by decide +kernel)⟩
theorem cl_X1_162 : CV RX1 162 RX0 yX0_sizeSplitKey cX0_sizeSplitKey 2 (some .int) 1 := ⟨tw_562, tw_563, tw_564, tw_3, tw_565, (by decide +kernel), (by decide +kernel), (by decide +kernel)⟩
theorem cl_X1_165 : CV RX1 165 RX1 yX1_divideAt cX1_divideAt 3 (some .boolean) 2 := ⟨tw_571, tw_573, ts_16, tw_2, tw_574, (by decide +kernel), (by decide +kernel), (by decide +kernel)⟩
theorem cl_X1_168 : CV RX1 168 RX0 yX0_rangeLoad cX0_rangeLoad 2 (some .int) 1 := ⟨tw_580, tw_581, tw_582, tw_3, tw_583, (by decide +kernel), (by decide +kernel), (by decide +kernel)⟩
theorem cl_X1_174 : CV RX1 174 RX0 yX0_loadSplitKey cX0_loadSplitKey 2 (some .int) 1 := ⟨tw_588, tw_589, tw_590, tw_3, tw_591, (by decide +kernel), (by decide +kernel), (by decide +kernel)⟩
theorem cl_X1_177 : CV RX1 177 RX5 yX5_divide cX5_divide 4 none 2 := ⟨tw_575, tw_455, tw_456, tw_6, tw_457, (by decide +kernel), (by decide +kernel), (by decide +kernel)⟩
theorem cl_X1_181 : CV RX1 181 RX1 yX1_isCold cX1_isCold 2 (some .boolean) 1 := ⟨tw_605, tw_607, ts_20, tw_2, tw_608, (by decide +kernel), (by decide +kernel), (by decide +kernel)⟩
theorem cl_X1_184 : CV RX1 184 RX5 yX5_absorbNext cX5_absorbNext 3 none 1 := ⟨tw_609, tw_610, tw_611, tw_6, tw_612, (by decide +kernel), (by decide +kernel), (by decide +kernel)⟩
theorem cl_X1_193 : CV RX1 193 RX0 yX0_leastLeading cX0_leastLeading 6 (some .int) 1 := ⟨tw_617, tw_358, tw_359, tw_3, tw_360, (by decide +kernel), (by decide +kernel), (by decide +kernel)⟩
theorem cl_X1_196 : CV RX1 196 RX5 yX5_ledBy cX5_ledBy 4 (some .int) 1 := ⟨tw_618, tw_362, tw_363, tw_6, tw_364, (by decide +kernel), (by decide +kernel), (by decide +kernel)⟩
theorem cl_X1_199 : CV RX1 199 RX1 yX1_mostLoaded cX1_mostLoaded 5 (some .int) 1 := ⟨tw_623, tw_625, ts_23, tw_2, tw_626, (by decide +kernel), (by decide +kernel), (by decide +kernel)⟩
theorem cl_X1_202 : CV RX1 202 RX4 yX4_exists cX4_exists 2 (some .boolean) 1 := ⟨tw_627, tw_327, tw_328, tw_5, tw_329, (by decide +kernel), (by decide +kernel), (by decide +kernel)⟩
theorem cl_X1_205 : CV RX1 205 RX5 yX5_replicasOn cX5_replicasOn 5 (some .int) 1 := ⟨tw_495, tw_496, tw_497, tw_6, tw_498, (by decide +kernel), (by decide +kernel), (by decide +kernel)⟩
theorem cl_X1_211 : CV RX1 211 RX7 yX7_learnerTicks cX7_learnerTicks 2 (some .int) 1 := ⟨tw_540, tw_541, tw_542, tw_4, tw_543, (by decide +kernel), (by decide +kernel), (by decide +kernel)⟩
theorem cl_X1_214 : CV RX1 214 RX5 yX5_setLearner cX5_setLearner 5 none 4 := ⟨tw_544, tw_374, tw_375, tw_6, tw_376, (by decide +kernel), (by decide +kernel), (by decide +kernel)⟩
theorem cl_X1_225 : CV RX1 225 RX4 yX4_zonesOf cX4_zonesOf 4 (some .int) 1 := ⟨tw_504, tw_505, tw_506, tw_5, tw_507, (by decide +kernel), (by decide +kernel), (by decide +kernel)⟩
theorem cl_X2_22 : CV RX2 22 RX0 yX0_copyFrom cX0_copyFrom 2 none 1 := ⟨tw_277, tw_278, tw_279, tw_3, tw_280, (by decide +kernel), (by decide +kernel), (by decide +kernel)⟩
theorem cl_X3_22 : CV RX3 22 RX3 yX3_placeOf cX3_placeOf 3 (some .int) 1 := ⟨tw_408, tw_410, ts_1, tw_7, tw_411, (by decide +kernel), (by decide +kernel), (by decide +kernel)⟩
theorem cl_X3_26 : CV RX3 26 RX3 yX3_isAt cX3_isAt 3 (some .boolean) 2 := ⟨tw_412, tw_414, ts_2, tw_7, tw_415, (by decide +kernel), (by decide +kernel), (by decide +kernel)⟩
theorem cl_X3_36 : CV RX3 36 RX3 yX3_sumBetween cX3_sumBetween 5 (some .int) 2 := ⟨tw_570, tw_537, tw_538, tw_7, tw_539, (by decide +kernel), (by decide +kernel), (by decide +kernel)⟩
theorem cl_X3_40 : CSN RX3 40 RX8 yX8_copyRow cX8_copyRow 2 none 2 := ⟨List.mem_of_getElem? (i := 8) (by decide +kernel), tw_290, tw_1, tw_291, (by decide +kernel), (by decide +kernel), (by decide +kernel)⟩
theorem cl_X4_25 : CSN RX4 25 RX8 yX8_bit cX8_bit 1 (some .int) 1 := ⟨List.mem_of_getElem? (i := 11) (by decide +kernel), tw_320, tw_1, tw_321, (by decide +kernel), (by decide +kernel), (by decide +kernel)⟩
theorem cl_X4_29 : CSN RX4 29 RX8 yX8_copyRow cX8_copyRow 2 none 2 := ⟨List.mem_of_getElem? (i := 6) (by decide +kernel), tw_290, tw_1, tw_291, (by decide +kernel), (by decide +kernel), (by decide +kernel)⟩
theorem cl_X5_34 : CV RX5 34 RX5 yX5_hasLearner cX5_hasLearner 2 (some .boolean) 1 := ⟨tw_636, tw_447, tw_448, tw_6, tw_449, (by decide +kernel), (by decide +kernel), (by decide +kernel)⟩
theorem cl_X5_38 : CV RX5 38 RX5 yX5_setLearner cX5_setLearner 5 none 4 := ⟨tw_373, tw_374, tw_375, tw_6, tw_376, (by decide +kernel), (by decide +kernel), (by decide +kernel)⟩
theorem cl_X5_42 : CSN RX5 42 RX8 yX8_bit cX8_bit 1 (some .int) 1 := ⟨List.mem_of_getElem? (i := 14) (by decide +kernel), tw_320, tw_1, tw_321, (by decide +kernel), (by decide +kernel), (by decide +kernel)⟩
theorem cl_X5_46 : CV RX5 46 RX5 yX5_isFull cX5_isFull 1 (some .boolean) 0 := ⟨tw_458, tw_451, tw_452, tw_6, tw_453, (by decide +kernel), (by decide +kernel), (by decide +kernel)⟩
theorem cl_X5_50 : CV RX5 50 RX5 yX5_copyWithin cX5_copyWithin 3 none 2 := ⟨tw_459, tw_461, ts_3, tw_6, tw_462, (by decide +kernel), (by decide +kernel), (by decide +kernel)⟩
theorem cl_X5_54 : CSN RX5 54 RX8 yX8_copyRow cX8_copyRow 2 none 2 := ⟨List.mem_of_getElem? (i := 7) (by decide +kernel), tw_290, tw_1, tw_291, (by decide +kernel), (by decide +kernel), (by decide +kernel)⟩
theorem cl_X6_25 : CV RX6 25 RX6 yX6_countBetween cX6_countBetween 5 (some .int) 2 := ⟨tw_596, tw_585, tw_586, tw_8, tw_587, (by decide +kernel), (by decide +kernel), (by decide +kernel)⟩
theorem cl_X6_29 : CV RX6 29 RX6 yX6_leastBetween cX6_leastBetween 5 (some .int) 2 := ⟨tw_597, tw_599, ts_18, tw_8, tw_600, (by decide +kernel), (by decide +kernel), (by decide +kernel)⟩
theorem cl_X6_32 : CSN RX6 32 RX8 yX8_copyRow cX8_copyRow 2 none 2 := ⟨List.mem_of_getElem? (i := 9) (by decide +kernel), tw_290, tw_1, tw_291, (by decide +kernel), (by decide +kernel), (by decide +kernel)⟩
theorem cl_X8_28 : CS RX8 28 yX8_isWithin cX8_isWithin 3 (some .boolean) 3 := ⟨tw_266, tw_267, tw_1, tw_268, (by decide +kernel), (by decide +kernel), (by decide +kernel)⟩
theorem cl_X8_32 : CV RX8 32 RX8 yX8_fail cX8_fail 2 (some .int) 1 := ⟨tw_269, tw_271, ts_0, tw_1, tw_272, (by decide +kernel), (by decide +kernel), (by decide +kernel)⟩
theorem cl_X8_48 : CV RX8 48 RX2 yX2_save cX2_save 3 none 1 := ⟨tw_273, tw_274, tw_275, tw_9, tw_276, (by decide +kernel), (by decide +kernel), (by decide +kernel)⟩
theorem cl_X8_52 : CV RX8 52 RX4 yX4_append cX4_append 4 (some .int) 2 := ⟨tw_315, tw_316, tw_317, tw_5, tw_318, (by decide +kernel), (by decide +kernel), (by decide +kernel)⟩
theorem cl_X8_56 : CV RX8 56 RX4 yX4_exists cX4_exists 2 (some .boolean) 1 := ⟨tw_326, tw_327, tw_328, tw_5, tw_329, (by decide +kernel), (by decide +kernel), (by decide +kernel)⟩
theorem cl_X8_60 : CV RX8 60 RX4 yX4_isUp cX4_isUp 2 (some .boolean) 1 := ⟨tw_330, tw_331, tw_332, tw_5, tw_333, (by decide +kernel), (by decide +kernel), (by decide +kernel)⟩
theorem cl_X8_63 : CV RX8 63 RX0 yX0_bringUp cX0_bringUp 3 none 1 := ⟨tw_334, tw_335, tw_336, tw_3, tw_337, (by decide +kernel), (by decide +kernel), (by decide +kernel)⟩
theorem cl_X8_67 : CV RX8 67 RX0 yX0_takeDown cX0_takeDown 3 none 1 := ⟨tw_365, tw_366, tw_367, tw_3, tw_368, (by decide +kernel), (by decide +kernel), (by decide +kernel)⟩
theorem cl_X8_70 : CV RX8 70 RX0 yX0_countAvailable cX0_countAvailable 3 (some .int) 0 := ⟨tw_377, tw_378, tw_379, tw_3, tw_380, (by decide +kernel), (by decide +kernel), (by decide +kernel)⟩
theorem cl_X8_98 : CS RX8 98 yX8_isKey cX8_isKey 1 (some .boolean) 1 := ⟨tw_401, tw_402, tw_1, tw_403, (by decide +kernel), (by decide +kernel), (by decide +kernel)⟩
theorem cl_X8_105 : CV RX8 105 RX3 yX3_sizeAt cX3_sizeAt 3 (some .int) 1 := ⟨tw_404, tw_405, tw_406, tw_7, tw_407, (by decide +kernel), (by decide +kernel), (by decide +kernel)⟩
theorem cl_X8_111 : CV RX8 111 RX3 yX3_store cX3_store 4 none 2 := ⟨tw_416, tw_417, tw_418, tw_7, tw_419, (by decide +kernel), (by decide +kernel), (by decide +kernel)⟩
theorem cl_X8_115 : CV RX8 115 RX3 yX3_erase cX3_erase 3 none 1 := ⟨tw_425, tw_426, tw_427, tw_7, tw_428, (by decide +kernel), (by decide +kernel), (by decide +kernel)⟩
theorem cl_X8_122 : CV RX8 122 RX6 yX6_append cX6_append 2 none 1 := ⟨tw_433, tw_434, tw_435, tw_8, tw_436, (by decide +kernel), (by decide +kernel), (by decide +kernel)⟩
theorem cl_X8_136 : CV RX8 136 RX5 yX5_holding cX5_holding 3 (some .int) 1 := ⟨tw_438, tw_439, tw_440, tw_6, tw_441, (by decide +kernel), (by decide +kernel), (by decide +kernel)⟩
theorem cl_X8_142 : CV RX8 142 RX5 yX5_hasLearner cX5_hasLearner 2 (some .boolean) 1 := ⟨tw_446, tw_447, tw_448, tw_6, tw_449, (by decide +kernel), (by decide +kernel), (by decide +kernel)⟩
theorem cl_X8_145 : CV RX8 145 RX5 yX5_isFull cX5_isFull 1 (some .boolean) 0 := ⟨tw_450, tw_451, tw_452, tw_6, tw_453, (by decide +kernel), (by decide +kernel), (by decide +kernel)⟩
theorem cl_X8_149 : CV RX8 149 RX5 yX5_divide cX5_divide 4 none 2 := ⟨tw_454, tw_455, tw_456, tw_6, tw_457, (by decide +kernel), (by decide +kernel), (by decide +kernel)⟩
theorem cl_X8_152 : CV RX8 152 RX1 yX1_runTick cX1_runTick 3 (some .int) 0 := ⟨tw_471, tw_472, tw_473, tw_2, tw_474, (by decide +kernel), (by decide +kernel), (by decide +kernel)⟩
theorem cl_X8_155 : CV RX8 155 RX5 yX5_anyLearner cX5_anyLearner 2 (some .boolean) 0 := ⟨tw_632, tw_633, tw_634, tw_6, tw_635, (by decide +kernel), (by decide +kernel), (by decide +kernel)⟩
theorem cl_X8_165 : CV RX8 165 RX5 yX5_exists cX5_exists 2 (some .boolean) 1 := ⟨tw_653, tw_654, tw_655, tw_6, tw_656, (by decide +kernel), (by decide +kernel), (by decide +kernel)⟩
theorem cl_X8_166 : CV RX8 166 RX0 yX0_rangeSize cX0_rangeSize 2 (some .int) 1 := ⟨tw_661, tw_529, tw_530, tw_3, tw_531, (by decide +kernel), (by decide +kernel), (by decide +kernel)⟩
theorem cl_X8_169 : CV RX8 169 RX0 yX0_rangeLoad cX0_rangeLoad 2 (some .int) 1 := ⟨tw_666, tw_581, tw_582, tw_3, tw_583, (by decide +kernel), (by decide +kernel), (by decide +kernel)⟩
theorem cl_X8_175 : CV RX8 175 RX5 yX5_learnerCode cX5_learnerCode 2 (some .int) 1 := ⟨tw_683, tw_684, tw_685, tw_6, tw_686, (by decide +kernel), (by decide +kernel), (by decide +kernel)⟩
theorem cl_X8_178 : CV RX8 178 RX0 yX0_hasQuorum cX0_hasQuorum 2 (some .boolean) 1 := ⟨tw_691, tw_344, tw_345, tw_3, tw_346, (by decide +kernel), (by decide +kernel), (by decide +kernel)⟩
theorem cl_X8_181 : CV RX8 181 RX0 yX0_sizeSplitKey cX0_sizeSplitKey 2 (some .int) 1 := ⟨tw_696, tw_563, tw_564, tw_3, tw_565, (by decide +kernel), (by decide +kernel), (by decide +kernel)⟩
theorem cl_X8_184 : CV RX8 184 RX0 yX0_loadSplitKey cX0_loadSplitKey 2 (some .int) 1 := ⟨tw_697, tw_589, tw_590, tw_3, tw_591, (by decide +kernel), (by decide +kernel), (by decide +kernel)⟩
theorem cl_X8_187 : CV RX8 187 RX5 yX5_replicasOn cX5_replicasOn 5 (some .int) 1 := ⟨tw_702, tw_496, tw_497, tw_6, tw_498, (by decide +kernel), (by decide +kernel), (by decide +kernel)⟩
theorem cl_X8_190 : CV RX8 190 RX5 yX5_ledBy cX5_ledBy 4 (some .int) 1 := ⟨tw_707, tw_362, tw_363, tw_6, tw_364, (by decide +kernel), (by decide +kernel), (by decide +kernel)⟩
theorem cl_X8_194 : CV RX8 194 RX2 yX2_restoreInto cX2_restoreInto 4 none 1 := ⟨tw_712, tw_713, tw_714, tw_9, tw_715, (by decide +kernel), (by decide +kernel), (by decide +kernel)⟩
theorem cl_X8_208 : CS RX8 208 yX8_mix cX8_mix 3 (some .long) 2 := ⟨tw_725, tw_726, tw_1, tw_727, (by decide +kernel), (by decide +kernel), (by decide +kernel)⟩
theorem cl_X8_212 : CV RX8 212 RX8 yX8_mixSettings cX8_mixSettings 6 (some .long) 1 := ⟨tw_729, tw_731, ts_24, tw_1, tw_732, (by decide +kernel), (by decide +kernel), (by decide +kernel)⟩
theorem cl_X8_216 : CV RX8 216 RX8 yX8_mixNodes cX8_mixNodes 7 (some .long) 1 := ⟨tw_733, tw_735, ts_25, tw_1, tw_736, (by decide +kernel), (by decide +kernel), (by decide +kernel)⟩
theorem cl_X8_219 : CV RX8 219 RX8 yX8_mixRanges cX8_mixRanges 7 (some .long) 1 := ⟨tw_737, tw_739, ts_26, tw_1, tw_740, (by decide +kernel), (by decide +kernel), (by decide +kernel)⟩
theorem cl_X8_226 : CS RX8 226 yX8_mixRow cX8_mixRow 7 (some .long) 3 := ⟨tw_741, tw_742, tw_1, tw_743, (by decide +kernel), (by decide +kernel), (by decide +kernel)⟩
theorem cl_X9_19 : CV RX9 19 RX9 yX9_set cX9_set 4 none 3 := ⟨tw_750, tw_752, ts_27, tw_10, tw_753, (by decide +kernel), (by decide +kernel), (by decide +kernel)⟩
theorem cl_X9_27 : CV RX9 27 RX9 yX9_fail cX9_fail 2 (some .int) 1 := ⟨tw_774, tw_776, ts_28, tw_10, tw_777, (by decide +kernel), (by decide +kernel), (by decide +kernel)⟩
theorem cl_X9_31 : CS RX9 31 yX9_in cX9_in 3 (some .boolean) 3 := ⟨tw_876, tw_877, tw_10, tw_878, (by decide +kernel), (by decide +kernel), (by decide +kernel)⟩
theorem cl_X9_35 : CV RX9 35 RX9 yX9_isUp cX9_isUp 2 (some .boolean) 1 := ⟨tw_798, tw_800, ts_33, tw_10, tw_801, (by decide +kernel), (by decide +kernel), (by decide +kernel)⟩
theorem cl_X9_39 : CV RX9 39 RX9 yX9_of cX9_of 3 (some .int) 2 := ⟨tw_794, tw_796, ts_32, tw_10, tw_797, (by decide +kernel), (by decide +kernel), (by decide +kernel)⟩
theorem cl_X9_43 : CV RX9 43 RX9 yX9_ups cX9_ups 3 (some .int) 0 := ⟨tw_814, tw_816, ts_37, tw_10, tw_817, (by decide +kernel), (by decide +kernel), (by decide +kernel)⟩
theorem cl_X9_47 : CS RX9 47 yX9_count cX9_count 3 (some .int) 1 := ⟨tw_818, tw_819, tw_10, tw_820, (by decide +kernel), (by decide +kernel), (by decide +kernel)⟩
theorem cl_X9_50 : CS RX9 50 yX9_has cX9_has 2 (some .boolean) 2 := ⟨tw_821, tw_822, tw_10, tw_823, (by decide +kernel), (by decide +kernel), (by decide +kernel)⟩
theorem cl_X9_54 : CV RX9 54 RX9 yX9_available cX9_available 2 (some .boolean) 1 := ⟨tw_810, tw_812, ts_36, tw_10, tw_813, (by decide +kernel), (by decide +kernel), (by decide +kernel)⟩
theorem cl_X9_57 : CV RX9 57 RX9 yX9_leads cX9_leads 5 (some .int) 2 := ⟨tw_824, tw_826, ts_38, tw_10, tw_827, (by decide +kernel), (by decide +kernel), (by decide +kernel)⟩
theorem cl_X9_60 : CV RX9 60 RX9 yX9_zone cX9_zone 2 (some .int) 1 := ⟨tw_848, tw_850, ts_44, tw_10, tw_851, (by decide +kernel), (by decide +kernel), (by decide +kernel)⟩
theorem cl_X9_63 : CV RX9 63 RX9 yX9_replicasOf cX9_replicasOf 4 (some .int) 1 := ⟨tw_840, tw_842, ts_42, tw_10, tw_843, (by decide +kernel), (by decide +kernel), (by decide +kernel)⟩
theorem cl_X9_66 : CV RX9 66 RX9 yX9_isFresh cX9_isFresh 6 (some .boolean) 3 := ⟨tw_844, tw_846, ts_43, tw_10, tw_847, (by decide +kernel), (by decide +kernel), (by decide +kernel)⟩
theorem cl_X9_69 : CV RX9 69 RX9 yX9_end cX9_end 2 (some .int) 1 := ⟨tw_872, tw_874, ts_50, tw_10, tw_875, (by decide +kernel), (by decide +kernel), (by decide +kernel)⟩
theorem cl_X9_72 : CV RX9 72 RX9 yX9_isIn cX9_isIn 3 (some .boolean) 2 := ⟨tw_868, tw_870, ts_49, tw_10, tw_871, (by decide +kernel), (by decide +kernel), (by decide +kernel)⟩
theorem cl_X9_75 : CV RX9 75 RX9 yX9_below cX9_below 8 (some .int) 3 := ⟨tw_864, tw_866, ts_48, tw_10, tw_867, (by decide +kernel), (by decide +kernel), (by decide +kernel)⟩
theorem cl_X9_79 : CV RX9 79 RX9 yX9_all cX9_all 3 (some .int) 2 := ⟨tw_860, tw_862, ts_47, tw_10, tw_863, (by decide +kernel), (by decide +kernel), (by decide +kernel)⟩
theorem cl_X9_82 : CV RX9 82 RX9 yX9_forgetLearner cX9_forgetLearner 2 none 1 := ⟨tw_802, tw_804, ts_34, tw_10, tw_805, (by decide +kernel), (by decide +kernel), (by decide +kernel)⟩
theorem cl_X9_86 : CV RX9 86 RX9 yX9_elect cX9_elect 6 none 1 := ⟨tw_806, tw_808, ts_35, tw_10, tw_809, (by decide +kernel), (by decide +kernel), (by decide +kernel)⟩
theorem cl_X9_89 : CV RX9 89 RX9 yX9_choose cX9_choose 9 (some .int) 2 := ⟨tw_836, tw_838, ts_41, tw_10, tw_839, (by decide +kernel), (by decide +kernel), (by decide +kernel)⟩
theorem cl_X9_92 : CV RX9 92 RX9 yX9_learn cX9_learn 4 none 3 := ⟨tw_856, tw_858, ts_46, tw_10, tw_859, (by decide +kernel), (by decide +kernel), (by decide +kernel)⟩
theorem cl_X9_95 : CV RX9 95 RX9 yX9_isWhole cX9_isWhole 2 (some .boolean) 1 := ⟨tw_883, tw_885, ts_52, tw_10, tw_886, (by decide +kernel), (by decide +kernel), (by decide +kernel)⟩
theorem cl_X9_98 : CV RX9 98 RX9 yX9_splitKeyOf cX9_splitKeyOf 11 (some .int) 2 := ⟨tw_891, tw_893, ts_54, tw_10, tw_894, (by decide +kernel), (by decide +kernel), (by decide +kernel)⟩
theorem cl_X9_101 : CV RX9 101 RX9 yX9_split cX9_split 4 none 2 := ⟨tw_895, tw_897, ts_55, tw_10, tw_898, (by decide +kernel), (by decide +kernel), (by decide +kernel)⟩
theorem cl_X9_105 : CV RX9 105 RX9 yX9_isCold cX9_isCold 2 (some .boolean) 1 := ⟨tw_903, tw_905, ts_57, tw_10, tw_906, (by decide +kernel), (by decide +kernel), (by decide +kernel)⟩
theorem cl_X9_108 : CV RX9 108 RX9 yX9_mergeNextInto cX9_mergeNextInto 3 none 1 := ⟨tw_907, tw_909, ts_58, tw_10, tw_910, (by decide +kernel), (by decide +kernel), (by decide +kernel)⟩
theorem cl_X9_111 : CV RX9 111 RX9 yX9_create cX9_create 3 (some .boolean) 1 := ⟨tw_832, tw_834, ts_40, tw_10, tw_835, (by decide +kernel), (by decide +kernel), (by decide +kernel)⟩
theorem cl_X9_114 : CV RX9 114 RX9 yX9_repair cX9_repair 5 (some .boolean) 1 := ⟨tw_852, tw_854, ts_45, tw_10, tw_855, (by decide +kernel), (by decide +kernel), (by decide +kernel)⟩
theorem cl_X9_117 : CV RX9 117 RX9 yX9_spread cX9_spread 4 (some .boolean) 1 := ⟨tw_879, tw_881, ts_51, tw_10, tw_882, (by decide +kernel), (by decide +kernel), (by decide +kernel)⟩
theorem cl_X9_120 : CV RX9 120 RX9 yX9_splitBy cX9_splitBy 5 (some .boolean) 2 := ⟨tw_887, tw_889, ts_53, tw_10, tw_890, (by decide +kernel), (by decide +kernel), (by decide +kernel)⟩
theorem cl_X9_123 : CV RX9 123 RX9 yX9_mergeNext cX9_mergeNext 2 (some .boolean) 1 := ⟨tw_899, tw_901, ts_56, tw_10, tw_902, (by decide +kernel), (by decide +kernel), (by decide +kernel)⟩
theorem cl_X9_126 : CV RX9 126 RX9 yX9_shiftLeader cX9_shiftLeader 6 (some .boolean) 1 := ⟨tw_911, tw_913, ts_59, tw_10, tw_914, (by decide +kernel), (by decide +kernel), (by decide +kernel)⟩
theorem cl_X9_129 : CV RX9 129 RX9 yX9_shiftReplica cX9_shiftReplica 5 (some .boolean) 1 := ⟨tw_915, tw_917, ts_60, tw_10, tw_918, (by decide +kernel), (by decide +kernel), (by decide +kernel)⟩
theorem cl_X9_132 : CV RX9 132 RX9 yX9_progress cX9_progress 5 none 1 := ⟨tw_790, tw_792, ts_31, tw_10, tw_793, (by decide +kernel), (by decide +kernel), (by decide +kernel)⟩
theorem cl_X9_135 : CV RX9 135 RX9 yX9_does cX9_does 3 (some .boolean) 2 := ⟨tw_828, tw_830, ts_39, tw_10, tw_831, (by decide +kernel), (by decide +kernel), (by decide +kernel)⟩
theorem cl_X9_138 : CV RX9 138 RX9 yX9_note cX9_note 2 none 0 := ⟨tw_782, tw_784, ts_29, tw_10, tw_785, (by decide +kernel), (by decide +kernel), (by decide +kernel)⟩
theorem cl_X9_141 : CV RX9 141 RX9 yX9_oneTick cX9_oneTick 3 (some .int) 0 := ⟨tw_786, tw_788, ts_30, tw_10, tw_789, (by decide +kernel), (by decide +kernel), (by decide +kernel)⟩
theorem cl_X9_144 : CV RX9 144 RX9 yX9_hasLearner cX9_hasLearner 3 (some .boolean) 0 := ⟨tw_923, tw_925, ts_61, tw_10, tw_926, (by decide +kernel), (by decide +kernel), (by decide +kernel)⟩
theorem cl_X9_148 : CV RX9 148 RX9 yX9_isNode cX9_isNode 2 (some .boolean) 1 := ⟨tw_943, tw_945, ts_62, tw_10, tw_946, (by decide +kernel), (by decide +kernel), (by decide +kernel)⟩
theorem cl_X9_151 : CV RX9 151 RX9 yX9_goUp cX9_goUp 2 none 0 := ⟨tw_947, tw_949, ts_63, tw_10, tw_950, (by decide +kernel), (by decide +kernel), (by decide +kernel)⟩
theorem cl_X9_154 : CV RX9 154 RX9 yX9_goDown cX9_goDown 3 none 1 := ⟨tw_951, tw_953, ts_64, tw_10, tw_954, (by decide +kernel), (by decide +kernel), (by decide +kernel)⟩
theorem cl_X9_157 : CV RX9 157 RX9 yX9_change cX9_change 4 (some .int) 2 := ⟨tw_959, tw_961, ts_65, tw_10, tw_962, (by decide +kernel), (by decide +kernel), (by decide +kernel)⟩
theorem cl_X9_160 : CS RX9 160 yX9_isKey cX9_isKey 1 (some .boolean) 1 := ⟨tw_979, tw_980, tw_10, tw_981, (by decide +kernel), (by decide +kernel), (by decide +kernel)⟩
theorem cl_X9_163 : CV RX9 163 RX9 yX9_placeOf cX9_placeOf 3 (some .int) 1 := ⟨tw_982, tw_984, ts_66, tw_10, tw_985, (by decide +kernel), (by decide +kernel), (by decide +kernel)⟩
theorem cl_X9_166 : CV RX9 166 RX9 yX9_rangeAt cX9_rangeAt 3 (some .int) 1 := ⟨tw_994, tw_996, ts_67, tw_10, tw_997, (by decide +kernel), (by decide +kernel), (by decide +kernel)⟩
theorem cl_X9_169 : CV RX9 169 RX9 yX9_isRange cX9_isRange 2 (some .boolean) 1 := ⟨tw_1014, tw_1016, ts_68, tw_10, tw_1017, (by decide +kernel), (by decide +kernel), (by decide +kernel)⟩
theorem cl_X9_172 : CV RX9 172 RX9 yX9_learnerOf cX9_learnerOf 2 (some .int) 1 := ⟨tw_1042, tw_1044, ts_69, tw_10, tw_1045, (by decide +kernel), (by decide +kernel), (by decide +kernel)⟩
theorem cl_X9_183 : CV RX9 183 RX9 yX9_add cX9_add 2 none 1 := ⟨tw_1071, tw_1073, ts_70, tw_10, tw_1074, (by decide +kernel), (by decide +kernel), (by decide +kernel)⟩
theorem ts_out_1_8 {x : Int32} (h1 : ¬ x = 1) (h2 : ¬ x = 2) (h3 : ¬ x = 3) (h4 : ¬ x = 4) (h5 : ¬ x = 5) (h6 : ¬ x = 6) (h7 : ¬ x = 7) (h8 : ¬ x = 8) : x.toInt < 1 ∨ 8 < x.toInt := by
  have q1 : x.toInt ≠ 1 := i32ne h1
  have q2 : x.toInt ≠ 2 := i32ne h2
  have q3 : x.toInt ≠ 3 := i32ne h3
  have q4 : x.toInt ≠ 4 := i32ne h4
  have q5 : x.toInt ≠ 5 := i32ne h5
  have q6 : x.toInt ≠ 6 := i32ne h6
  have q7 : x.toInt ≠ 7 := i32ne h7
  have q8 : x.toInt ≠ 8 := i32ne h8
  omega
theorem ts_out_1_7 {x : Int32} (h1 : ¬ x = 1) (h2 : ¬ x = 2) (h3 : ¬ x = 3) (h4 : ¬ x = 4) (h5 : ¬ x = 5) (h6 : ¬ x = 6) (h7 : ¬ x = 7) : x.toInt < 1 ∨ 7 < x.toInt := by
  have q1 : x.toInt ≠ 1 := i32ne h1
  have q2 : x.toInt ≠ 2 := i32ne h2
  have q3 : x.toInt ≠ 3 := i32ne h3
  have q4 : x.toInt ≠ 4 := i32ne h4
  have q5 : x.toInt ≠ 5 := i32ne h5
  have q6 : x.toInt ≠ 6 := i32ne h6
  have q7 : x.toInt ≠ 7 := i32ne h7
  omega
theorem ts_out_0_2 {x : Int32} (h0 : ¬ x = 0) (h1 : ¬ x = 1) (h2 : ¬ x = 2) : x.toInt < 0 ∨ 2 < x.toInt := by
  have q0 : x.toInt ≠ 0 := i32ne h0
  have q1 : x.toInt ≠ 1 := i32ne h1
  have q2 : x.toInt ≠ 2 := i32ne h2
  omega

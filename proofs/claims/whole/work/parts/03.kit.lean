/-! the judgement jG: at pc, with the locals xs, the stack st and the world ws, the machine comes to Q; cx: what stands fixed in a method's body; CT: a method's contract -/
def lh (ls : Array Slot) (nL : Nat) (xs : List (Option Value)) : Prop := ls.size = nL ∧ lv_wf ls ∧ ∀ (i : Nat) (v : Value), xs[i]? = some (some v) → ls[i]? = some (.val v)
def asc : Nat → List (Option Value) → List (Nat × Value)
  | _, [] => []
  | i, none :: r => asc (i + 1) r
  | i, some v :: r => (i, v) :: asc (i + 1) r
theorem asc_of : ∀ (xs : List (Option Value)) (i : Nat) (q : Nat × Value), q ∈ asc i xs → ∃ j, q.1 = i + j ∧ xs[j]? = some (some q.2) := by
  intro xs
  induction xs with
  | nil => intro i q h; cases h
  | cons o r ih =>
    intro i q h
    cases o with
    | none =>
      obtain ⟨j, h1, h2⟩ := ih (i + 1) q h
      exact ⟨j + 1, by omega, by simpa using h2⟩
    | some v =>
      rcases List.mem_cons.mp h with h | h
      · exact ⟨0, by rw [h]; rfl, by rw [h]; rfl⟩
      · obtain ⟨j, h1, h2⟩ := ih (i + 1) q h
        exact ⟨j + 1, by omega, by simpa using h2⟩
theorem asc_in : ∀ (xs : List (Option Value)) (i j : Nat) (v : Value), xs[j]? = some (some v) → (i + j, v) ∈ asc i xs := by
  intro xs
  induction xs with
  | nil => intro i j v h; simp at h
  | cons o r ih =>
    intro i j v h
    cases j with
    | zero =>
      have h : some o = some (some v) := by simpa using h
      cases h
      exact List.mem_cons_self
    | succ j =>
      have h2 := ih (i + 1) j v (by simpa using h)
      rw [show i + 1 + j = i + (j + 1) from by omega] at h2
      cases o with
      | none => exact h2
      | some w => exact List.mem_cons_of_mem _ h2
theorem lh.has {ls : Array Slot} {nL : Nat} {xs : List (Option Value)} (h : lh ls nL xs) : lv_has ls nL (asc 0 xs) := ⟨h.1, h.2.1, fun q hq => by
  obtain ⟨j, h1, h2⟩ := asc_of xs 0 q hq
  rw [h1, Nat.zero_add]
  exact h.2.2 j q.2 h2⟩
/-- no long begins just before place i -/
def okb (xs : List (Option Value)) (i : Nat) : Bool := match i with
  | 0 => true
  | k + 1 => match xs[k]? with
    | some (some v) => !(v.category == 2)
    | _ => true
theorem okb_of {xs : List (Option Value)} {i j : Nat} {v : Value} (h : okb xs i = true) (hj : j + 1 = i) (hx : xs[j]? = some (some v)) : (v.category == 2) = false := by
  subst hj
  simp only [okb, hx] at h
  simpa using h
theorem lh.put1 {ls' : Array Slot} {nL i : Nat} {xs : List (Option Value)} {v : Value} (hb : okb xs i = true) (h' : lv_has ls' nL ((i, v) :: (asc 0 xs).filter (fun q => !(q.1 == i) && !(q.1 + 1 == i && q.2.category == 2)))) : lh ls' nL (xs.set i (some v)) := by
  refine ⟨h'.1, h'.2.1, fun j w hj => ?_⟩
  rw [List.getElem?_set] at hj
  by_cases e : i = j
  · subst e
    rw [if_pos rfl] at hj
    by_cases hl : i < xs.length
    · rw [if_pos hl] at hj
      cases hj
      exact h'.2.2 (i, v) List.mem_cons_self
    · rw [if_neg hl] at hj
      cases hj
  · rw [if_neg e] at hj
    refine h'.2.2 (j, w) (List.mem_cons_of_mem _ (List.mem_filter.mpr ⟨by have := asc_in xs 0 j w hj; rwa [Nat.zero_add] at this, ?_⟩))
    have e2 : (j == i) = false := by simpa using fun q => e q.symm
    by_cases e3 : j + 1 = i
    · simp [e2, okb_of hb e3 hj]
    · simp [e2, e3]
theorem lh.put2 {ls' : Array Slot} {nL i : Nat} {xs : List (Option Value)} {v : Value} (hb : okb xs i = true) (h' : lv_has ls' nL ((i, v) :: (asc 0 xs).filter (fun q => !(q.1 == i) && (!(q.1 == i + 1) && !(q.1 + 1 == i && q.2.category == 2))))) : lh ls' nL ((xs.set i (some v)).set (i + 1) none) := by
  refine ⟨h'.1, h'.2.1, fun j w hj => ?_⟩
  rw [List.getElem?_set] at hj
  by_cases e0 : i + 1 = j
  · subst e0
    rw [if_pos rfl] at hj
    split at hj <;> cases hj
  · rw [if_neg e0, List.getElem?_set] at hj
    by_cases e : i = j
    · subst e
      rw [if_pos rfl] at hj
      by_cases hl : i < xs.length
      · rw [if_pos hl] at hj
        cases hj
        exact h'.2.2 (i, v) List.mem_cons_self
      · rw [if_neg hl] at hj
        cases hj
    · rw [if_neg e] at hj
      refine h'.2.2 (j, w) (List.mem_cons_of_mem _ (List.mem_filter.mpr ⟨by have := asc_in xs 0 j w hj; rwa [Nat.zero_add] at this, ?_⟩))
      have e2 : (j == i) = false := by simpa using fun q => e q.symm
      have e4 : (j == i + 1) = false := by simpa using fun q => e0 q.symm
      by_cases e3 : j + 1 = i
      · simp [e2, e4, okb_of hb e3 hj]
      · simp [e2, e4, e3]
def mkL (nL : Nat) (as : List (Nat × Value)) : List (Option Value) := (List.range nL).map fun i => (as.find? (fun q => q.1 == i)).map Prod.snd
theorem lh.entry {ls : Array Slot} {nL : Nat} {as : List (Nat × Value)} (h : lv_has ls nL as) : lh ls nL (mkL nL as) := by
  refine ⟨h.1, h.2.1, fun i v hi => ?_⟩
  simp only [mkL, List.getElem?_map] at hi
  by_cases hl : i < nL
  · rw [List.getElem?_range hl] at hi
    simp only [Option.map_some, Option.some.injEq] at hi
    cases hf : as.find? (fun q => q.1 == i) with
    | none => rw [hf] at hi; cases hi
    | some q =>
      rw [hf] at hi
      have e1 : q.2 = v := by simpa using hi
      have e2 : q.1 = i := by simpa using List.find?_some hf
      have h3 := h.2.2 q (List.mem_of_find?_eq_some hf)
      rw [e2, e1] at h3
      exact h3
  · rw [List.getElem?_eq_none (by simpa using hl)] at hi
    cases hi
/-! worlds: the places' addresses alone decide whether they are apart -/
theorem va_D.nd {A : Nat → Prop} {ws : va_W} : va_D A ws ↔ (ws.map Prod.fst).Nodup ∧ ∀ q ∈ ws, A q.1 := by
  constructor
  · intro h
    refine ⟨?_, fun q hq => ?_⟩
    · rw [List.Nodup, List.pairwise_iff_getElem]
      intro i j hi hj hij he
      simp only [List.length_map] at hi hj
      simp only [List.getElem_map] at he
      have := h.1 i j ws[i] ws[j] (List.getElem?_eq_getElem hi) (List.getElem?_eq_getElem hj) he
      omega
    · obtain ⟨i, hi⟩ := List.getElem?_of_mem hq
      exact h.2 i q hi
  · intro h
    refine ⟨fun i j p q hi hj e => ?_, fun k q hk => h.2 q (List.mem_of_getElem? hk)⟩
    have h1 := h.1
    rw [List.Nodup, List.pairwise_iff_getElem] at h1
    obtain ⟨hil, ei⟩ := List.getElem?_eq_some_iff.mp hi
    obtain ⟨hjl, ej⟩ := List.getElem?_eq_some_iff.mp hj
    rcases Nat.lt_trichotomy i j with q1 | q1 | q1
    · exact absurd (show (ws.map Prod.fst)[i]'(by simpa using hil) = (ws.map Prod.fst)[j]'(by simpa using hjl) by rw [List.getElem_map, List.getElem_map, ei, ej, e]) (h1 i j (by simpa using hil) (by simpa using hjl) q1)
    · exact q1
    · exact absurd (show (ws.map Prod.fst)[j]'(by simpa using hjl) = (ws.map Prod.fst)[i]'(by simpa using hil) by rw [List.getElem_map, List.getElem_map, ei, ej, e]) (h1 j i (by simpa using hjl) (by simpa using hil) q1)
theorem va_D.cg {A : Nat → Prop} {ws ws' : va_W} (h : ws.map Prod.fst = ws'.map Prod.fst) (hD : va_D A ws) : va_D A ws' := by
  rw [va_D.nd] at hD ⊢
  refine ⟨by rw [← h]; exact hD.1, fun q hq => ?_⟩
  have h1 : q.1 ∈ ws.map Prod.fst := by rw [h]; exact List.mem_map.mpr ⟨q, hq, rfl⟩
  obtain ⟨q', h2, h3⟩ := List.mem_map.mp h1
  rw [← h3]
  exact hD.2 q' h2
theorem va_D.perm {A : Nat → Prop} {ws ws' : va_W} (h : ws.Perm ws') (hD : va_D A ws) : va_D A ws' := by
  rw [va_D.nd] at hD ⊢
  exact ⟨(h.map Prod.fst).nodup_iff.mp hD.1, fun q hq => hD.2 q (h.mem_iff.mpr hq)⟩
theorem va_P.perm {D : va_G} {cl : List vw_C} {ws ws' : va_W} {H : Heap} (h : ws.Perm ws') (hP : va_P D cl ws H) : va_P D cl ws' H := by
  intro k q hk
  obtain ⟨i, hi⟩ := List.getElem?_of_mem (h.mem_iff.mpr (List.mem_of_getElem? hk))
  exact hP i q hi
/-- an array's cell is known by its values below its length -/
theorem va_P.arr {D : va_G} {cl : List vw_C} {ws : va_W} {H : Heap} {k a n : Nat} {cA : ClassId} {f g : Nat → Int32} (hP : va_P D cl ws H) (hk : ws[k]? = some (a, .inl (cA, n, .inl f))) (h : ∀ i, i < n → f i = g i) : va_P D cl (ws.set k (a, .inl (cA, n, .inl g))) H := by
  intro j q hj
  rw [List.getElem?_set] at hj
  by_cases e : k = j
  · rw [if_pos e] at hj
    split at hj
    · cases hj
      have h1 := hP k _ hk
      show H[a]? = some (vp_cell cA (n, .inl g))
      have h2 : H[a]? = some (vp_cell cA (n, .inl f)) := h1
      rw [h2]
      simp only [vp_cell, arrV]
      congr 2
      apply congrArg
      funext j
      simp only [h j.val j.isLt]
    · cases hj
  · rw [if_neg e] at hj
    exact hP j q hj
/-! contracts -/
abbrev tyL (cI cS : ClassId) : List (ClassId × FieldType) := [(cI, .int), (cS, .object RX0)]
def PW (D : va_G) (cI cS : ClassId) (ws : va_W) (U : State) : Prop := va_P D vwCl ws U.heap ∧ va_K D vwCl (tyL cI cS) U ∧ NW U
def QW (D : va_G) (A : Nat → Prop) (ws : va_W) (v : Option Value) : Array Value → State → Outcome → State → Prop := fun _ st oc t => oc = .returned v ∧ va_P D vwCl ws t.heap ∧ va_F A st t
abbrev rmF (f lo : Nat) : Room := { frames := f, cells := 0, slots := 0, locals := lo }
def CT (l : Launch) (y : MethodName) (cc : ByteArray) (nL : Nat) (ret : Option FieldType) (rm : Room) (D : va_G) (cI cS : ClassId) (A : Nat → Prop) (av : List Value) (ws ws' : va_W) (v : Option Value) : Prop :=
  va_D A ws → Met l y (Cond.code y cc nL ret :: GT) rm (va_Pc av (PW D cI cS ws)) (QW D A ws' v) 0 0 A
theorem nwL_onT : ∀ w ∈ nwL, ∃ a i x h, w = Cond.methodLinkNest a i x h := by
  intro w hw
  simp only [nwL, List.mem_cons, List.mem_nil_iff, or_false] at hw
  rcases hw with h | h | h | h | h | h | h | h | h | h | h | h | h | h | h <;> exact ⟨_, _, _, _, h⟩
theorem NW.same {u U : State} (h : u.vm = U.vm) (hN : NW u) : NW U := fun w hw => by
  obtain ⟨a, i, x, z, rfl⟩ := nwL_onT w hw
  exact va_Nw.same rfl h (hN _ hw)
theorem NW.warm {s U : State} (hW : s.WarmedH U.vm) (hN : NW s) : NW U := fun w hw => by
  obtain ⟨a, i, x, z, rfl⟩ := nwL_onT w hw
  exact va_Nw.warmM hW (hN _ hw)
theorem PW_blind {D : va_G} {cI cS : ClassId} {ws : va_W} {av : List Value} : FrameBlind (va_Pc av (PW D cI cS ws)) := fun a U g mk q => by
  obtain ⟨q0, qP, qK, qN⟩ := q
  exact ⟨q0, qP, va_K.moved (u := U) (U := U.calling g mk a) (Vm.Alike.refl U.vm) qK, NW.same (u := U) (U := U.calling g mk a) rfl qN⟩
/-- what stands fixed in a method's body -/
def cx (p : Program) (s : State) (m : MethodId) (args : Array Value) (meth : Method) (c : Code) (cc : ByteArray) (nL : Nat) (own : String) (ret : Option FieldType) (D : va_G) (cI cS : ClassId) : Prop :=
  p.tables.exec = Jvm.exec ∧ c.code = cc ∧ c.maxLocals = nL ∧ s.vm.findClass own = some m.cls ∧ (∀ w ∈ GT, w.before args s = true) ∧ meth.locks = false ∧ meth.sig.returnType = ret ∧ va_K D vwCl (tyL cI cS) s ∧ NW s
def jN (p : Program) (l : Launch) (e : Env) (R : Room) (s : State) (m : MethodId) (args : Array Value) (below : List Frame) (meth : Method) (c : Code) (nL : Nat) (D : va_G) (A : Nat → Prop) (Q : State → Prop) (cs sl : Nat) (ws : va_W) (xs : List (Option Value)) (pc : Nat) (st : List Value) : Prop :=
  ∀ (ls : Array Slot) (H : Heap) (locs : List Loc), lh ls nL xs → va_P D vwCl ws H → va_D A ws → va_S A s.heap H locs → W p l e R s m args below meth c H locs cs sl Q (F0 m pc ls st)
abbrev jG (p : Program) (l : Launch) (e : Env) (R : Room) (s : State) (m : MethodId) (args : Array Value) (below : List Frame) (meth : Method) (c : Code) (nL : Nat) (D : va_G) (A : Nat → Prop) (Q : State → Prop) (ws : va_W) (xs : List (Option Value)) (pc : Nat) (st : List Value) : Prop := jN p l e R s m args below meth c nL D A Q 0 0 ws xs pc st
theorem CT_of {l : Launch} {y : MethodName} {cc : ByteArray} {nL : Nat} {ret : Option FieldType} {rm : Room} {D : va_G} {cI cS : ClassId} {A : Nat → Prop} {av : List Value} {ws ws' : va_W} {v : Option Value} {own : String} {xs : List (Option Value)}
    (hy : plainName y.cls = true) (ho : y.cls = own) (hN : (lg_sl av).length ≤ nL) (hxs : mkL nL (lv_args 0 av) = xs)
    (body : ∀ (p : Program) (e : Env) (s : State) (m : MethodId) (below : List Frame) (meth : Method) (c : Code), cx p s m av.toArray meth c cc nL own ret D cI cS → jG p l e rm s m av.toArray below meth c nL D A (MQ below (QW D A ws' v) av.toArray s 0 0 A) ws xs 0 []) : CT l y cc nL ret rm D cI cS A av ws ws' v := by
  intro hD
  refine Met.ofW (cc := cc) (maxL := nL) (ret := ret) hy rfl ?_
  intro p e s m args below meth c s₁ B hml hv
  obtain ⟨rfl, hP, hK, hNW⟩ := hv
  have hts := atoms_spec (ws := Cond.code y cc nL ret :: GT) B.pre
  have hown : s.vm.findClass own = some m.cls := by rw [← ho]; exact findClass_of_methodNamed B.named
  have C : cx p s m av.toArray meth c cc nL own ret D cI cS := ⟨B.exec, B.bytes, hml, hown, fun w hw => hts w (List.mem_cons_of_mem _ hw), B.notSynchronized, B.returns, hK, hNW⟩
  rw [lg_entry_eq]
  exact body p e s m below meth c C _ _ _ (by rw [← hxs]; exact lh.entry (lv_entry av hN)) hP hD va_S.rf
theorem hn1 {i n : Nat} {b : Bool} (h : (i.blt n && b) = true) : i < n := by
  rw [Bool.and_eq_true] at h
  exact Nat.le_of_ble_eq_true h.1
theorem hn2 {i n : Nat} {b : Bool} (h : (i.blt n && b) = true) : b = true := by
  rw [Bool.and_eq_true] at h
  exact h.2
def msk : List Bool → List (Option Value) → List (Option Value)
  | b :: bs, x :: xs => (bif b then x else none) :: msk bs xs
  | _, _ => []
theorem msk_get : ∀ (bs : List Bool) (xs : List (Option Value)) (i : Nat) (v : Value), (msk bs xs)[i]? = some (some v) → xs[i]? = some (some v) := by
  intro bs
  induction bs with
  | nil => intro xs i v h; simp [msk] at h
  | cons b bs ih =>
    intro xs i v h
    cases xs with
    | nil => simp [msk] at h
    | cons x xs =>
      cases i with
      | zero =>
        cases b with
        | false => simp [msk] at h
        | true => simpa [msk] using h
      | succ i => simpa using ih xs i v (by simpa [msk] using h)
section JK
theorem j_weak {p : Program} {l : Launch} {e : Env} {R : Room} {s : State} {m : MethodId} {args : Array Value} {below : List Frame} {meth : Method} {c : Code} {nL : Nat} {D : va_G} {A : Nat → Prop} {Q : State → Prop} {cs sl : Nat} {ws : va_W} {xs xs' : List (Option Value)} {pc : Nat} {st : List Value} (bs : List Bool) (h : msk bs xs = xs') (k : jN p l e R s m args below meth c nL D A Q cs sl ws xs' pc st) : jN p l e R s m args below meth c nL D A Q cs sl ws xs pc st :=
  fun ls H locs hl hP hD hS => k ls H locs ⟨hl.1, hl.2.1, fun i v hi => hl.2.2 i v (msk_get bs xs i v (by rw [h]; exact hi))⟩ hP hD hS
variable {p : Program} {l : Launch} {e : Env} {R : Room} {s : State} {m : MethodId} {args : Array Value} {below : List Frame} {meth : Method} {c : Code} {nL : Nat} {D : va_G} {A : Nat → Prop} {Q : State → Prop} {ws : va_W} {xs : List (Option Value)} {pc : Nat} {st : List Value} {cc : ByteArray} {own : String} {ret : Option FieldType} {cI cS : ClassId} {cs sl : Nat}
theorem j_iconst (C : cx p s m args meth c cc nL own ret D cI cS) {n : Int} {v : Int32} (hv : Int32.ofInt n = v) (hd : decode cc pc = .ok (.iconst n, 1)) (k : jN p l e R s m args below meth c nL D A Q cs sl ws xs (pc + 1) (.int v :: st)) : jN p l e R s m args below meth c nL D A Q cs sl ws xs pc st :=
  fun ls H locs hl hP hD hS => lv_iconst C.1 C.2.1 hd hv (k ls H locs hl hP hD hS)
theorem j_bipush (C : cx p s m args meth c cc nL own ret D cI cS) {n : Int} {v : Int32} (hv : (Int8.ofInt n).toInt32 = v) (hd : decode cc pc = .ok (.bipush n, 2)) (k : jN p l e R s m args below meth c nL D A Q cs sl ws xs (pc + 2) (.int v :: st)) : jN p l e R s m args below meth c nL D A Q cs sl ws xs pc st :=
  fun ls H locs hl hP hD hS => lv_bipush C.1 C.2.1 hd hv (k ls H locs hl hP hD hS)
theorem j_sipush (C : cx p s m args meth c cc nL own ret D cI cS) {n : Int} {v : Int32} (hv : (Int16.ofInt n).toInt32 = v) (hd : decode cc pc = .ok (.sipush n, 3)) (k : jN p l e R s m args below meth c nL D A Q cs sl ws xs (pc + 3) (.int v :: st)) : jN p l e R s m args below meth c nL D A Q cs sl ws xs pc st :=
  fun ls H locs hl hP hD hS => lv_sipush C.1 C.2.1 hd hv (k ls H locs hl hP hD hS)
theorem j_iload_n (C : cx p s m args meth c cc nL own ret D cI cS) {i : Fin 4} {x : Int32} (hd : decode cc pc = .ok (.iload_n i, 1)) (hx : xs[(i : Nat)]? = some (some (.int x))) (k : jN p l e R s m args below meth c nL D A Q cs sl ws xs (pc + 1) (.int x :: st)) : jN p l e R s m args below meth c nL D A Q cs sl ws xs pc st :=
  fun ls H locs hl hP hD hS => lv_iload_n C.1 C.2.1 hd rfl (hl.2.2 _ _ hx) (k ls H locs hl hP hD hS)
theorem j_iload (C : cx p s m args meth c cc nL own ret D cI cS) {i : Nat} {x : Int32} (hd : decode cc pc = .ok (.iload i, 2)) (hx : xs[i]? = some (some (.int x))) (k : jN p l e R s m args below meth c nL D A Q cs sl ws xs (pc + 2) (.int x :: st)) : jN p l e R s m args below meth c nL D A Q cs sl ws xs pc st :=
  fun ls H locs hl hP hD hS => lv_iload C.1 C.2.1 hd (hl.2.2 _ _ hx) (k ls H locs hl hP hD hS)
theorem j_aload_n (C : cx p s m args meth c cc nL own ret D cI cS) {i : Fin 4} {x : Nat} (hd : decode cc pc = .ok (.aload_n i, 1)) (hx : xs[(i : Nat)]? = some (some (.ref x))) (k : jN p l e R s m args below meth c nL D A Q cs sl ws xs (pc + 1) (.ref x :: st)) : jN p l e R s m args below meth c nL D A Q cs sl ws xs pc st :=
  fun ls H locs hl hP hD hS => lv_aload_n C.1 C.2.1 hd rfl (hl.2.2 _ _ hx) (k ls H locs hl hP hD hS)
theorem j_lload_n (C : cx p s m args meth c cc nL own ret D cI cS) {i : Fin 4} {x : Int64} (hd : decode cc pc = .ok (.lload_n i, 1)) (hx : xs[(i : Nat)]? = some (some (.long x))) (k : jN p l e R s m args below meth c nL D A Q cs sl ws xs (pc + 1) (.long x :: st)) : jN p l e R s m args below meth c nL D A Q cs sl ws xs pc st :=
  fun ls H locs hl hP hD hS => lv_lload_n C.1 C.2.1 hd rfl (hl.2.2 _ _ hx) (k ls H locs hl hP hD hS)
theorem j_lload (C : cx p s m args meth c cc nL own ret D cI cS) {i : Nat} {x : Int64} (hd : decode cc pc = .ok (.lload i, 2)) (hx : xs[i]? = some (some (.long x))) (k : jN p l e R s m args below meth c nL D A Q cs sl ws xs (pc + 2) (.long x :: st)) : jN p l e R s m args below meth c nL D A Q cs sl ws xs pc st :=
  fun ls H locs hl hP hD hS => lv_lload C.1 C.2.1 hd (hl.2.2 _ _ hx) (k ls H locs hl hP hD hS)
theorem j_istore_n (C : cx p s m args meth c cc nL own ret D cI cS) {i : Fin 4} {x : Int32} {xs' : List (Option Value)} (hd : decode cc pc = .ok (.istore_n i, 1)) (hn : ((i : Nat).blt nL && okb xs i) = true) (hx : xs.set i (some (.int x)) = xs') (k : jN p l e R s m args below meth c nL D A Q cs sl ws xs' (pc + 1) st) : jN p l e R s m args below meth c nL D A Q cs sl ws xs pc (.int x :: st) :=
  fun ls H locs hl hP hD hS => lv_istore_n (lv := asc 0 xs) C.1 C.2.1 hd rfl hl.has (hn1 hn) rfl (fun ls' h' => k ls' H locs (by rw [← hx]; exact lh.put1 (hn2 hn) h') hP hD hS)
theorem j_istore (C : cx p s m args meth c cc nL own ret D cI cS) {i : Nat} {x : Int32} {xs' : List (Option Value)} (hd : decode cc pc = .ok (.istore i, 2)) (hn : (i.blt nL && okb xs i) = true) (hx : xs.set i (some (.int x)) = xs') (k : jN p l e R s m args below meth c nL D A Q cs sl ws xs' (pc + 2) st) : jN p l e R s m args below meth c nL D A Q cs sl ws xs pc (.int x :: st) :=
  fun ls H locs hl hP hD hS => lv_istore (lv := asc 0 xs) C.1 C.2.1 hd hl.has (hn1 hn) rfl (fun ls' h' => k ls' H locs (by rw [← hx]; exact lh.put1 (hn2 hn) h') hP hD hS)
theorem j_astore_n (C : cx p s m args meth c cc nL own ret D cI cS) {i : Fin 4} {x : Nat} {xs' : List (Option Value)} (hd : decode cc pc = .ok (.astore_n i, 1)) (hn : ((i : Nat).blt nL && okb xs i) = true) (hx : xs.set i (some (.ref x)) = xs') (k : jN p l e R s m args below meth c nL D A Q cs sl ws xs' (pc + 1) st) : jN p l e R s m args below meth c nL D A Q cs sl ws xs pc (.ref x :: st) :=
  fun ls H locs hl hP hD hS => lv_astore_n (lv := asc 0 xs) C.1 C.2.1 hd rfl hl.has (hn1 hn) rfl (fun ls' h' => k ls' H locs (by rw [← hx]; exact lh.put1 (hn2 hn) h') hP hD hS)
theorem j_lstore_n (C : cx p s m args meth c cc nL own ret D cI cS) {i : Fin 4} {x : Int64} {xs' : List (Option Value)} (hd : decode cc pc = .ok (.lstore_n i, 1)) (hn : (((i : Nat) + 1).blt nL && okb xs i) = true) (hx : (xs.set i (some (.long x))).set ((i : Nat) + 1) none = xs') (k : jN p l e R s m args below meth c nL D A Q cs sl ws xs' (pc + 1) st) : jN p l e R s m args below meth c nL D A Q cs sl ws xs pc (.long x :: st) :=
  fun ls H locs hl hP hD hS => lv_lstore_n (lv := asc 0 xs) C.1 C.2.1 hd rfl hl.has (hn1 hn) rfl (fun ls' h' => k ls' H locs (by rw [← hx]; exact lh.put2 (hn2 hn) h') hP hD hS)
theorem j_lstore (C : cx p s m args meth c cc nL own ret D cI cS) {i : Nat} {x : Int64} {xs' : List (Option Value)} (hd : decode cc pc = .ok (.lstore i, 2)) (hn : ((i + 1).blt nL && okb xs i) = true) (hx : (xs.set i (some (.long x))).set (i + 1) none = xs') (k : jN p l e R s m args below meth c nL D A Q cs sl ws xs' (pc + 2) st) : jN p l e R s m args below meth c nL D A Q cs sl ws xs pc (.long x :: st) :=
  fun ls H locs hl hP hD hS => lv_lstore (lv := asc 0 xs) C.1 C.2.1 hd hl.has (hn1 hn) rfl (fun ls' h' => k ls' H locs (by rw [← hx]; exact lh.put2 (hn2 hn) h') hP hD hS)
theorem j_iinc (C : cx p s m args meth c cc nL own ret D cI cS) {i : Nat} {n : Int} {x v : Int32} {xs' : List (Option Value)} (hd : decode cc pc = .ok (.iinc i n, 3)) (h0 : xs[i]? = some (some (.int x))) (hv : x + Int32.ofInt n = v) (hn : (i.blt nL && okb xs i) = true) (hx : xs.set i (some (.int v)) = xs') (k : jN p l e R s m args below meth c nL D A Q cs sl ws xs' (pc + 3) st) : jN p l e R s m args below meth c nL D A Q cs sl ws xs pc st := by
  intro ls H locs hl hP hD hS
  have hm := asc_in xs 0 i _ h0
  rw [Nat.zero_add] at hm
  obtain ⟨kk, hk⟩ := List.getElem?_of_mem hm
  exact lv_iinc (lv := asc 0 xs) C.1 C.2.1 hd hl.has hk hv (hn1 hn) rfl (fun ls' h' => k ls' H locs (by rw [← hx]; exact lh.put1 (hn2 hn) h') hP hD hS)
end JK
section JK2
variable {p : Program} {l : Launch} {e : Env} {R : Room} {s : State} {m : MethodId} {args : Array Value} {below : List Frame} {meth : Method} {c : Code} {nL : Nat} {D : va_G} {A : Nat → Prop} {Q : State → Prop} {ws : va_W} {xs : List (Option Value)} {pc : Nat} {st : List Value} {cc : ByteArray} {own : String} {ret : Option FieldType} {cI cS : ClassId} {cs sl : Nat}
theorem j_iadd (C : cx p s m args meth c cc nL own ret D cI cS) {x y : Int32} (hd : decode cc pc = .ok (.iadd, 1)) (k : jN p l e R s m args below meth c nL D A Q cs sl ws xs (pc + 1) (.int (x + y) :: st)) : jN p l e R s m args below meth c nL D A Q cs sl ws xs pc (.int y :: .int x :: st) :=
  fun ls H locs hl hP hD hS => lv_iadd C.1 C.2.1 hd (k ls H locs hl hP hD hS)
theorem j_isub (C : cx p s m args meth c cc nL own ret D cI cS) {x y : Int32} (hd : decode cc pc = .ok (.isub, 1)) (k : jN p l e R s m args below meth c nL D A Q cs sl ws xs (pc + 1) (.int (x - y) :: st)) : jN p l e R s m args below meth c nL D A Q cs sl ws xs pc (.int y :: .int x :: st) :=
  fun ls H locs hl hP hD hS => lv_isub C.1 C.2.1 hd (k ls H locs hl hP hD hS)
theorem j_imul (C : cx p s m args meth c cc nL own ret D cI cS) {x y : Int32} (hd : decode cc pc = .ok (.imul, 1)) (k : jN p l e R s m args below meth c nL D A Q cs sl ws xs (pc + 1) (.int (x * y) :: st)) : jN p l e R s m args below meth c nL D A Q cs sl ws xs pc (.int y :: .int x :: st) :=
  fun ls H locs hl hP hD hS => lv_imul C.1 C.2.1 hd (k ls H locs hl hP hD hS)
theorem j_iand (C : cx p s m args meth c cc nL own ret D cI cS) {x y : Int32} (hd : decode cc pc = .ok (.iand, 1)) (k : jN p l e R s m args below meth c nL D A Q cs sl ws xs (pc + 1) (.int (x &&& y) :: st)) : jN p l e R s m args below meth c nL D A Q cs sl ws xs pc (.int y :: .int x :: st) :=
  fun ls H locs hl hP hD hS => lv_iand C.1 C.2.1 hd (k ls H locs hl hP hD hS)
theorem j_ior (C : cx p s m args meth c cc nL own ret D cI cS) {x y : Int32} (hd : decode cc pc = .ok (.ior, 1)) (k : jN p l e R s m args below meth c nL D A Q cs sl ws xs (pc + 1) (.int (x ||| y) :: st)) : jN p l e R s m args below meth c nL D A Q cs sl ws xs pc (.int y :: .int x :: st) :=
  fun ls H locs hl hP hD hS => lv_ior C.1 C.2.1 hd (k ls H locs hl hP hD hS)
theorem j_ixor (C : cx p s m args meth c cc nL own ret D cI cS) {x y : Int32} (hd : decode cc pc = .ok (.ixor, 1)) (k : jN p l e R s m args below meth c nL D A Q cs sl ws xs (pc + 1) (.int (x ^^^ y) :: st)) : jN p l e R s m args below meth c nL D A Q cs sl ws xs pc (.int y :: .int x :: st) :=
  fun ls H locs hl hP hD hS => lv_ixor C.1 C.2.1 hd (k ls H locs hl hP hD hS)
theorem j_ishl (C : cx p s m args meth c cc nL own ret D cI cS) {x y : Int32} (hd : decode cc pc = .ok (.ishl, 1)) (k : jN p l e R s m args below meth c nL D A Q cs sl ws xs (pc + 1) (.int (x <<< (y &&& 31)) :: st)) : jN p l e R s m args below meth c nL D A Q cs sl ws xs pc (.int y :: .int x :: st) :=
  fun ls H locs hl hP hD hS => lv_ishl C.1 C.2.1 hd (k ls H locs hl hP hD hS)
theorem j_ishr (C : cx p s m args meth c cc nL own ret D cI cS) {x y : Int32} (hd : decode cc pc = .ok (.ishr, 1)) (k : jN p l e R s m args below meth c nL D A Q cs sl ws xs (pc + 1) (.int (x >>> (y &&& 31)) :: st)) : jN p l e R s m args below meth c nL D A Q cs sl ws xs pc (.int y :: .int x :: st) :=
  fun ls H locs hl hP hD hS => lv_ishr C.1 C.2.1 hd (k ls H locs hl hP hD hS)
theorem j_iushr (C : cx p s m args meth c cc nL own ret D cI cS) {x y : Int32} (hd : decode cc pc = .ok (.iushr, 1)) (k : jN p l e R s m args below meth c nL D A Q cs sl ws xs (pc + 1) (.int ((x.toUInt32 >>> (y.toUInt32 &&& Int32.toUInt32 31)).toInt32) :: st)) : jN p l e R s m args below meth c nL D A Q cs sl ws xs pc (.int y :: .int x :: st) :=
  fun ls H locs hl hP hD hS => lv_iushr C.1 C.2.1 hd rfl (k ls H locs hl hP hD hS)
theorem j_idiv (C : cx p s m args meth c cc nL own ret D cI cS) {x y : Int32} (hd : decode cc pc = .ok (.idiv, 1)) (hne : ¬ y = 0) (k : jN p l e R s m args below meth c nL D A Q cs sl ws xs (pc + 1) (.int (x / y) :: st)) : jN p l e R s m args below meth c nL D A Q cs sl ws xs pc (.int y :: .int x :: st) :=
  fun ls H locs hl hP hD hS => lv_idiv C.1 C.2.1 hd hne (k ls H locs hl hP hD hS)
theorem j_irem (C : cx p s m args meth c cc nL own ret D cI cS) {x y : Int32} (hd : decode cc pc = .ok (.irem, 1)) (hne : ¬ y = 0) (k : jN p l e R s m args below meth c nL D A Q cs sl ws xs (pc + 1) (.int (x - x / y * y) :: st)) : jN p l e R s m args below meth c nL D A Q cs sl ws xs pc (.int y :: .int x :: st) :=
  fun ls H locs hl hP hD hS => lv_irem C.1 C.2.1 hd hne (k ls H locs hl hP hD hS)
theorem j_ladd (C : cx p s m args meth c cc nL own ret D cI cS) {x y : Int64} (hd : decode cc pc = .ok (.ladd, 1)) (k : jN p l e R s m args below meth c nL D A Q cs sl ws xs (pc + 1) (.long (x + y) :: st)) : jN p l e R s m args below meth c nL D A Q cs sl ws xs pc (.long y :: .long x :: st) :=
  fun ls H locs hl hP hD hS => lv_ladd C.1 C.2.1 hd (k ls H locs hl hP hD hS)
theorem j_lmul (C : cx p s m args meth c cc nL own ret D cI cS) {x y : Int64} (hd : decode cc pc = .ok (.lmul, 1)) (k : jN p l e R s m args below meth c nL D A Q cs sl ws xs (pc + 1) (.long (x * y) :: st)) : jN p l e R s m args below meth c nL D A Q cs sl ws xs pc (.long y :: .long x :: st) :=
  fun ls H locs hl hP hD hS => lv_lmul C.1 C.2.1 hd (k ls H locs hl hP hD hS)
theorem j_i2l (C : cx p s m args meth c cc nL own ret D cI cS) {x : Int32} (hd : decode cc pc = .ok (.i2l, 1)) (k : jN p l e R s m args below meth c nL D A Q cs sl ws xs (pc + 1) (.long x.toInt64 :: st)) : jN p l e R s m args below meth c nL D A Q cs sl ws xs pc (.int x :: st) :=
  fun ls H locs hl hP hD hS => lv_i2l C.1 C.2.1 hd rfl (k ls H locs hl hP hD hS)
theorem j_dup (C : cx p s m args meth c cc nL own ret D cI cS) {va : Value} (hd : decode cc pc = .ok (.dup, 1)) (hva : va.category = 1) (k : jN p l e R s m args below meth c nL D A Q cs sl ws xs (pc + 1) (va :: va :: st)) : jN p l e R s m args below meth c nL D A Q cs sl ws xs pc (va :: st) :=
  fun ls H locs hl hP hD hS => lv_dup C.1 C.2.1 hd hva (k ls H locs hl hP hD hS)
theorem j_dup2 (C : cx p s m args meth c cc nL own ret D cI cS) {va vb : Value} (hd : decode cc pc = .ok (.dup2, 1)) (hva : va.category = 1) (hvb : vb.category = 1) (k : jN p l e R s m args below meth c nL D A Q cs sl ws xs (pc + 1) (va :: vb :: va :: vb :: st)) : jN p l e R s m args below meth c nL D A Q cs sl ws xs pc (va :: vb :: st) :=
  fun ls H locs hl hP hD hS => lv_dup2_11 C.1 C.2.1 hd hva hvb (k ls H locs hl hP hD hS)
theorem j_goto (C : cx p s m args meth c cc nL own ret D cI cS) {off : Int} {tgt : Nat} (ht : (pc : Int) + off = (tgt : Int)) (hd : decode cc pc = .ok (.goto off, 3)) (k : jN p l e R s m args below meth c nL D A Q cs sl ws xs tgt st) : jN p l e R s m args below meth c nL D A Q cs sl ws xs pc st :=
  fun ls H locs hl hP hD hS => lv_goto C.1 C.2.1 hd ht (k ls H locs hl hP hD hS)
theorem j_icmp_eq (C : cx p s m args meth c cc nL own ret D cI cS) {x y : Int32} {off : Int} {tgt : Nat} (ht : (pc : Int) + off = (tgt : Int)) (hd : decode cc pc = .ok (.if_icmp .eq off, 3)) (kt : x = y → jN p l e R s m args below meth c nL D A Q cs sl ws xs tgt st) (kf : ¬ (x = y) → jN p l e R s m args below meth c nL D A Q cs sl ws xs (pc + 3) st) : jN p l e R s m args below meth c nL D A Q cs sl ws xs pc (.int y :: .int x :: st) :=
  fun ls H locs hl hP hD hS => lv_icmp_eq C.1 C.2.1 hd ht (fun q => kt q ls H locs hl hP hD hS) (fun q => kf q ls H locs hl hP hD hS)
theorem j_if_eq (C : cx p s m args meth c cc nL own ret D cI cS) {x : Int32} {off : Int} {tgt : Nat} (ht : (pc : Int) + off = (tgt : Int)) (hd : decode cc pc = .ok (.ifCond .eq off, 3)) (kt : x = 0 → jN p l e R s m args below meth c nL D A Q cs sl ws xs tgt st) (kf : ¬ (x = 0) → jN p l e R s m args below meth c nL D A Q cs sl ws xs (pc + 3) st) : jN p l e R s m args below meth c nL D A Q cs sl ws xs pc (.int x :: st) :=
  fun ls H locs hl hP hD hS => lv_if_eq C.1 C.2.1 hd ht (fun q => kt q ls H locs hl hP hD hS) (fun q => kf q ls H locs hl hP hD hS)
theorem j_icmp_lt (C : cx p s m args meth c cc nL own ret D cI cS) {x y : Int32} {off : Int} {tgt : Nat} (ht : (pc : Int) + off = (tgt : Int)) (hd : decode cc pc = .ok (.if_icmp .lt off, 3)) (kt : x < y → jN p l e R s m args below meth c nL D A Q cs sl ws xs tgt st) (kf : ¬ (x < y) → jN p l e R s m args below meth c nL D A Q cs sl ws xs (pc + 3) st) : jN p l e R s m args below meth c nL D A Q cs sl ws xs pc (.int y :: .int x :: st) :=
  fun ls H locs hl hP hD hS => lv_icmp_lt C.1 C.2.1 hd ht (fun q => kt q ls H locs hl hP hD hS) (fun q => kf q ls H locs hl hP hD hS)
theorem j_if_lt (C : cx p s m args meth c cc nL own ret D cI cS) {x : Int32} {off : Int} {tgt : Nat} (ht : (pc : Int) + off = (tgt : Int)) (hd : decode cc pc = .ok (.ifCond .lt off, 3)) (kt : x < 0 → jN p l e R s m args below meth c nL D A Q cs sl ws xs tgt st) (kf : ¬ (x < 0) → jN p l e R s m args below meth c nL D A Q cs sl ws xs (pc + 3) st) : jN p l e R s m args below meth c nL D A Q cs sl ws xs pc (.int x :: st) :=
  fun ls H locs hl hP hD hS => lv_if_lt C.1 C.2.1 hd ht (fun q => kt q ls H locs hl hP hD hS) (fun q => kf q ls H locs hl hP hD hS)
theorem j_icmp_ge (C : cx p s m args meth c cc nL own ret D cI cS) {x y : Int32} {off : Int} {tgt : Nat} (ht : (pc : Int) + off = (tgt : Int)) (hd : decode cc pc = .ok (.if_icmp .ge off, 3)) (kt : y ≤ x → jN p l e R s m args below meth c nL D A Q cs sl ws xs tgt st) (kf : ¬ (y ≤ x) → jN p l e R s m args below meth c nL D A Q cs sl ws xs (pc + 3) st) : jN p l e R s m args below meth c nL D A Q cs sl ws xs pc (.int y :: .int x :: st) :=
  fun ls H locs hl hP hD hS => lv_icmp_ge C.1 C.2.1 hd ht (fun q => kt q ls H locs hl hP hD hS) (fun q => kf q ls H locs hl hP hD hS)
theorem j_if_ge (C : cx p s m args meth c cc nL own ret D cI cS) {x : Int32} {off : Int} {tgt : Nat} (ht : (pc : Int) + off = (tgt : Int)) (hd : decode cc pc = .ok (.ifCond .ge off, 3)) (kt : 0 ≤ x → jN p l e R s m args below meth c nL D A Q cs sl ws xs tgt st) (kf : ¬ (0 ≤ x) → jN p l e R s m args below meth c nL D A Q cs sl ws xs (pc + 3) st) : jN p l e R s m args below meth c nL D A Q cs sl ws xs pc (.int x :: st) :=
  fun ls H locs hl hP hD hS => lv_if_ge C.1 C.2.1 hd ht (fun q => kt q ls H locs hl hP hD hS) (fun q => kf q ls H locs hl hP hD hS)
theorem j_icmp_gt (C : cx p s m args meth c cc nL own ret D cI cS) {x y : Int32} {off : Int} {tgt : Nat} (ht : (pc : Int) + off = (tgt : Int)) (hd : decode cc pc = .ok (.if_icmp .gt off, 3)) (kt : y < x → jN p l e R s m args below meth c nL D A Q cs sl ws xs tgt st) (kf : ¬ (y < x) → jN p l e R s m args below meth c nL D A Q cs sl ws xs (pc + 3) st) : jN p l e R s m args below meth c nL D A Q cs sl ws xs pc (.int y :: .int x :: st) :=
  fun ls H locs hl hP hD hS => lv_icmp_gt C.1 C.2.1 hd ht (fun q => kt q ls H locs hl hP hD hS) (fun q => kf q ls H locs hl hP hD hS)
theorem j_if_gt (C : cx p s m args meth c cc nL own ret D cI cS) {x : Int32} {off : Int} {tgt : Nat} (ht : (pc : Int) + off = (tgt : Int)) (hd : decode cc pc = .ok (.ifCond .gt off, 3)) (kt : 0 < x → jN p l e R s m args below meth c nL D A Q cs sl ws xs tgt st) (kf : ¬ (0 < x) → jN p l e R s m args below meth c nL D A Q cs sl ws xs (pc + 3) st) : jN p l e R s m args below meth c nL D A Q cs sl ws xs pc (.int x :: st) :=
  fun ls H locs hl hP hD hS => lv_if_gt C.1 C.2.1 hd ht (fun q => kt q ls H locs hl hP hD hS) (fun q => kf q ls H locs hl hP hD hS)
theorem j_icmp_le (C : cx p s m args meth c cc nL own ret D cI cS) {x y : Int32} {off : Int} {tgt : Nat} (ht : (pc : Int) + off = (tgt : Int)) (hd : decode cc pc = .ok (.if_icmp .le off, 3)) (kt : x ≤ y → jN p l e R s m args below meth c nL D A Q cs sl ws xs tgt st) (kf : ¬ (x ≤ y) → jN p l e R s m args below meth c nL D A Q cs sl ws xs (pc + 3) st) : jN p l e R s m args below meth c nL D A Q cs sl ws xs pc (.int y :: .int x :: st) :=
  fun ls H locs hl hP hD hS => lv_icmp_le C.1 C.2.1 hd ht (fun q => kt q ls H locs hl hP hD hS) (fun q => kf q ls H locs hl hP hD hS)
theorem j_if_le (C : cx p s m args meth c cc nL own ret D cI cS) {x : Int32} {off : Int} {tgt : Nat} (ht : (pc : Int) + off = (tgt : Int)) (hd : decode cc pc = .ok (.ifCond .le off, 3)) (kt : x ≤ 0 → jN p l e R s m args below meth c nL D A Q cs sl ws xs tgt st) (kf : ¬ (x ≤ 0) → jN p l e R s m args below meth c nL D A Q cs sl ws xs (pc + 3) st) : jN p l e R s m args below meth c nL D A Q cs sl ws xs pc (.int x :: st) :=
  fun ls H locs hl hP hD hS => lv_if_le C.1 C.2.1 hd ht (fun q => kt q ls H locs hl hP hD hS) (fun q => kf q ls H locs hl hP hD hS)
theorem j_icmp_ne (C : cx p s m args meth c cc nL own ret D cI cS) {x y : Int32} {off : Int} {tgt : Nat} (ht : (pc : Int) + off = (tgt : Int)) (hd : decode cc pc = .ok (.if_icmp .ne off, 3)) (kt : ¬ x = y → jN p l e R s m args below meth c nL D A Q cs sl ws xs tgt st) (kf : x = y → jN p l e R s m args below meth c nL D A Q cs sl ws xs (pc + 3) st) : jN p l e R s m args below meth c nL D A Q cs sl ws xs pc (.int y :: .int x :: st) :=
  fun ls H locs hl hP hD hS => lv_icmp_ne C.1 C.2.1 hd ht (fun q => kt q ls H locs hl hP hD hS) (fun q => kf q ls H locs hl hP hD hS)
theorem j_if_ne (C : cx p s m args meth c cc nL own ret D cI cS) {x : Int32} {off : Int} {tgt : Nat} (ht : (pc : Int) + off = (tgt : Int)) (hd : decode cc pc = .ok (.ifCond .ne off, 3)) (kt : ¬ x = 0 → jN p l e R s m args below meth c nL D A Q cs sl ws xs tgt st) (kf : x = 0 → jN p l e R s m args below meth c nL D A Q cs sl ws xs (pc + 3) st) : jN p l e R s m args below meth c nL D A Q cs sl ws xs pc (.int x :: st) :=
  fun ls H locs hl hP hD hS => lv_if_ne C.1 C.2.1 hd ht (fun q => kt q ls H locs hl hP hD hS) (fun q => kf q ls H locs hl hP hD hS)
end JK2

/-! constructors: contracts of methods that make cells -/
def PN (D : va_G) (cI cS : ClassId) (sz : Nat) (ws : va_W) (U : State) : Prop := U.heap.size = sz ∧ PW D cI cS ws U ∧ va_AO RX0 U
def QN (D : va_G) (A : Nat → Prop) (post : va_W → Prop) : Array Value → State → Outcome → State → Prop := fun _ st oc t => oc = .returned none ∧ (∃ ws, post ws ∧ va_P D vwCl ws t.heap ∧ va_D A ws) ∧ va_F A st t
abbrev rmN (f lo mc ms : Nat) : Room := { frames := f, cells := mc, slots := ms, locals := lo }
def CN (l : Launch) (y : MethodName) (cc : ByteArray) (nL : Nat) (f lo : Nat) (D : va_G) (cI cS : ClassId) (A : Nat → Prop) (av : List Value) (ws : va_W) (post : va_W → Prop) (mc ms : Nat) : Prop :=
  ∀ sz : Nat, (∀ q, sz ≤ q → A q) → va_D A ws → Met l y (Cond.code y cc nL none :: GT) (rmN f lo mc ms) (va_Pc av (PN D cI cS sz ws)) (QN D A post) mc ms A
theorem PN_blind {D : va_G} {cI cS : ClassId} {sz : Nat} {ws : va_W} {av : List Value} : FrameBlind (va_Pc av (PN D cI cS sz ws)) := fun a U g mk q => by
  obtain ⟨q0, q1, ⟨qP, qK, qN⟩, qA⟩ := q
  exact ⟨q0, q1, ⟨qP, va_K.moved (u := U) (U := U.calling g mk a) (Vm.Alike.refl U.vm) qK, NW.same (u := U) (U := U.calling g mk a) rfl qN⟩, va_AO.moved (u := U) (U := U.calling g mk a) (Vm.Alike.refl U.vm) qA⟩
/-- the rest of what stands fixed in a constructor -/
def cn (s : State) (meth : Method) (A : Nat → Prop) : Prop := (∀ q, s.heap.size ≤ q → A q) ∧ meth.name = "<init>" ∧ va_AO RX0 s
theorem CN_of {l : Launch} {y : MethodName} {cc : ByteArray} {nL f lo : Nat} {D : va_G} {cI cS : ClassId} {A : Nat → Prop} {av : List Value} {ws : va_W} {post : va_W → Prop} {mc ms : Nat} {own : String} {xs : List (Option Value)}
    (hy : plainName y.cls = true) (ho : y.cls = own) (hi : y.name = "<init>") (hN : (lg_sl av).length ≤ nL) (hxs : mkL nL (lv_args 0 av) = xs)
    (body : ∀ (p : Program) (e : Env) (s : State) (m : MethodId) (below : List Frame) (meth : Method) (c : Code), cx p s m av.toArray meth c cc nL own none D cI cS → cn s meth A → jN p l e (rmN f lo mc ms) s m av.toArray below meth c nL D A (MQ below (QN D A post) av.toArray s mc ms A) 0 0 ws xs 0 []) : CN l y cc nL f lo D cI cS A av ws post mc ms := by
  intro sz hA hD
  refine Met.ofW (cc := cc) (maxL := nL) (ret := none) hy rfl ?_
  intro p e s m args below meth c s₁ B hml hv
  obtain ⟨rfl, hsz, ⟨hP, hK, hNW⟩, hAO⟩ := hv
  have hts := atoms_spec (ws := Cond.code y cc nL none :: GT) B.pre
  have hown : s.vm.findClass own = some m.cls := by rw [← ho]; exact findClass_of_methodNamed B.named
  have C : cx p s m av.toArray meth c cc nL own none D cI cS := ⟨B.exec, B.bytes, hml, hown, fun w hw => hts w (List.mem_cons_of_mem _ hw), B.notSynchronized, B.returns, hK, hNW⟩
  rw [lg_entry_eq]
  exact body p e s m below meth c C ⟨by rw [hsz]; exact hA, by rw [← hi]; exact (name_of_methodNamed B.named B.method).1, hAO⟩ _ _ _ (by rw [← hxs]; exact lh.entry (lv_entry av hN)) hP hD va_S.rf
theorem perm_pick {L L' : va_W} (n : Nat) (is : List Nat) (hn : L.length = n) (h : is.map (fun i => L[i]?) = L'.map some) (hp : is.Perm (List.range n)) : L.Perm L' := by
  subst hn
  have h1 : (is.map (fun i => L[i]?)).Perm ((List.range L.length).map (fun i => L[i]?)) := hp.map _
  have h2 : (List.range L.length).map (fun i => L[i]?) = L.map some := by
    apply List.ext_getElem?
    intro i
    by_cases hi : i < L.length
    · simp [hi]
    · simp [hi]
  rw [h, h2] at h1
  have h3 := h1.filterMap id
  simp only [List.filterMap_map] at h3
  have h4 : ∀ X : va_W, X.filterMap (id ∘ some) = X := fun X => by
    induction X with
    | nil => rfl
    | cons x X ih => simp [ih]
  rw [h4, h4] at h3
  exact h3.symm
section JA
variable {p : Program} {l : Launch} {e : Env} {R : Room} {s : State} {m : MethodId} {args : Array Value} {below : List Frame} {meth : Method} {c : Code} {nL : Nat} {D : va_G} {A : Nat → Prop} {Q : State → Prop} {ws : va_W} {xs : List (Option Value)} {pc : Nat} {st : List Value} {cc : ByteArray} {own : String} {ret : Option FieldType} {cI cS : ClassId} {cs sl : Nat}
theorem j_new (C : cx p s m args meth c cc nL own ret D cI cS) (Cn : cn s meth A) {Cs : String} {T : u_T} {N ci index : Nat} {ty : Nat → FieldType} {fs : List Value} (hin : ∀ w ∈ u_ws Cs T N, w ∈ GT) (hty : ∀ k, k < N → parseFieldDescriptor (T k).2.2.1 = some (ty k)) (hcl : Cond.classLink own index Cs ∈ GT) (hinst : Cond.instantiable Cs N ∈ GT) (hini : Cond.initialized Cs ∈ GT) (hc : vwCl[ci]? = some (Cs, T, N)) (hfs : ∀ j, j < N → defaultValue (ty j) = vp_V fs j) (hcells : cs + 1 ≤ R.cells) (hslots : sl + N ≤ R.slots) (hd : decode cc pc = .ok (.new index, 3))
    (k : ∀ q : Nat, jN p l e R s m args below meth c nL D A Q (cs + 1) (sl + N) ((q, .inr (ci, fs)) :: ws) xs (pc + 3) (.ref q :: st)) : jN p l e R s m args below meth c nL D A Q cs sl ws xs pc st :=
  fun ls H locs hl hP hD hS => va_new C.1 C.2.1 C.2.2.2.2.1 hin ty hty C.2.2.2.1 (C.2.2.2.2.1 _ hcl) (C.2.2.2.2.1 _ hinst) (C.2.2.2.2.1 _ hini) C.2.2.2.2.2.2.2.1 hP hD hS Cn.1 hc hfs hcells hslots hd (fun q H1 hP hD hS => k q ls H1 locs hl (va_P.perm (List.perm_append_singleton _ _) hP) (va_D.perm (List.perm_append_singleton _ _) hD) hS)
theorem j_newa (C : cx p s m args meth c cc nL own ret D cI cS) (Cn : cn s meth A) {n : Int32} {N : Nat} (hn : ¬ n < 0) (hN : n.toNatClampNeg = N) (hb : N * 4 ≤ 536870912) (hcells : cs + 1 ≤ R.cells) (hslots : sl + N ≤ R.slots) (hd : decode cc pc = .ok (.newarray .int, 2))
    (k : ∀ q : Nat, jN p l e R s m args below meth c nL D A Q (cs + 1) (sl + N) ((q, .inl (cI, N, .inl (fun _ => 0))) :: ws) xs (pc + 2) (.ref q :: st)) : jN p l e R s m args below meth c nL D A Q cs sl ws xs pc (.int n :: st) := by
  intro ls H locs hl hP hD hS
  refine va_newa (atype := .int) (a0 := (N, .inl (fun _ => 0))) C.1 C.2.1 (C.2.2.2.2.1 _ tw_iarr) rfl C.2.2.2.2.2.2.2.1 hP hD hS Cn.1 (fun cA => by rw [vp_cell_i]; rfl) hn hN hb hcells hslots hd (fun q cA H1 hK hP hD hS => ?_)
  have e1 : s.vm.findClass ("[" ++ FieldType.int.toString) = some cI := (C.2.2.2.2.2.2.2.1.2 0 _ rfl).2
  have e2 : s.vm.findClass ("[" ++ FieldType.int.toString) = some cA := (hK.2 2 _ rfl).2
  have e3 : cA = cI := Option.some.inj (e2.symm.trans e1)
  subst e3
  exact k q ls H1 locs hl (va_P.perm (List.perm_append_singleton _ _) hP) (va_D.perm (List.perm_append_singleton _ _) hD) hS
theorem j_newq (C : cx p s m args meth c cc nL own ret D cI cS) (Cn : cn s meth A) {n : Int32} {N index : Nat} (hcl : Cond.classLink own index RX0 ∈ GT) (hn : ¬ n < 0) (hN : n.toNatClampNeg = N) (hb : N * 4 ≤ 536870912) (hcells : cs + 1 ≤ R.cells) (hslots : sl + N ≤ R.slots) (hd : decode cc pc = .ok (.anewarray index, 3))
    (k : ∀ q : Nat, jN p l e R s m args below meth c nL D A Q (cs + 1) (sl + N) ((q, .inl (cS, N, .inr (.inr (.inr (.inr (fun _ => none)))))) :: ws) xs (pc + 3) (.ref q :: st)) : jN p l e R s m args below meth c nL D A Q cs sl ws xs pc (.int n :: st) := by
  intro ls H locs hl hP hD hS
  refine va_newq (C := RX0) C.1 C.2.1 C.2.2.2.1 (C.2.2.2.2.1 _ hcl) Cn.2.2 C.2.2.2.2.2.2.2.1 hP hD hS Cn.1 hn hN hb hcells hslots hd (fun q cA H1 hK hP hD hS => ?_)
  obtain ⟨k1, c1, -, -, -, e1⟩ : va_RA s cS (.object RX0) := (C.2.2.2.2.2.2.2.1.2 1 _ rfl).2
  obtain ⟨k2, c2, -, -, -, e2⟩ : va_RA s cA (.object RX0) := (hK.2 2 _ rfl).2
  have e3 : cA = cS := Option.some.inj (e2.symm.trans e1)
  subst e3
  exact k q ls H1 locs hl (va_P.perm (List.perm_append_singleton _ _) hP) (va_D.perm (List.perm_append_singleton _ _) hD) hS
theorem j_aast (C : cx p s m args meth c cc nL own ret D cI cS) {q0 qk a n v : Nat} {vs : List Value} {f : Nat → Option Nat} {i : Int32} {ws' : va_W} (he : ws[q0]? = some (a, .inl (cS, n, .inr (.inr (.inr (.inr f)))))) (hv : ws[qk]? = some (v, .inr (0, vs))) (hi : vp_in i n) (hws : ws.set q0 (a, .inl (cS, n, .inr (.inr (.inr (.inr (va_up f i.toNatClampNeg (some v))))))) = ws') (hd : decode cc pc = .ok (.aastore, 1))
    (k : jN p l e R s m args below meth c nL D A Q cs sl ws' xs (pc + 1) st) : jN p l e R s m args below meth c nL D A Q cs sl ws xs pc (.ref v :: .int i :: .ref a :: st) := by
  subst hws
  exact fun ls H locs hl hP hD hS => va_astq (r := (RX0, TX0, 7)) C.1 C.2.1 C.2.2.2.2.2.2.2.1 hP hD hS q0 1 qk 0 he rfl hv rfl hi hd (fun H1 locs1 hP hD hS => k ls H1 locs1 hl hP hD hS)
theorem j_putF (C : cx p s m args meth c cc nL own ret D cI cS) (Cn : cn s meth A) {Cs : String} {T : u_T} {N ci index k q0 a : Nat} {fs : List Value} {v : Value} {ty : FieldType} {ty0 : Nat → FieldType} {ws' : va_W} (hin : ∀ w ∈ u_ws Cs T N, w ∈ GT) (hty : ∀ k, k < N → parseFieldDescriptor (T k).2.2.1 = some (ty0 k)) (hnm : ∀ a, a < N → ∀ b, b < N → a ≠ b → (T a).2.1 ≠ (T b).2.1) (hc : vwCl[ci]? = some (Cs, T, N)) (hk : k < N) (hlink : Cond.fieldLink own index (T k).1 (T k).2.1 (T k).2.2.1 ∈ GT) (hfin : (T k).2.2.2 = true) (hdecl : (T k).1 = own) (hdt : parseFieldDescriptor (T k).2.2.1 = some ty) (hnr : narrow ty v = v) (hfit : fits ty v = true) (he : ws[q0]? = some (a, .inr (ci, fs))) (hl0 : k < fs.length) (hws : ws.set q0 (a, .inr (ci, fs.set k v)) = ws') (hd : decode cc pc = .ok (.putfield index, 3))
    (kk : jN p l e R s m args below meth c nL D A Q cs sl ws' xs (pc + 3) st) : jN p l e R s m args below meth c nL D A Q cs sl ws xs pc (v :: .ref a :: st) := by
  subst hws
  exact fun ls H locs hl hP hD hS => va_putF C.1 C.2.1 C.2.2.2.2.1 hin ty0 hty hnm C.2.2.2.1 C.2.2.2.2.2.2.2.1 hP hD hS q0 he hc k hk (C.2.2.2.2.1 _ hlink) (fun _ h => h) hfin Cn.2.1 hdecl hdt hnr hfit hl0 hd (fun H1 locs1 hP hD hS => kk ls H1 locs1 hl hP hD hS)
theorem j_objInit (C : cx p s m args meth c cc nL own ret D cI cS) {index a : Nat} (hlink : Cond.methodLink own index Lib.objectInit ∈ GT) (hinst : Cond.instanceMethod Lib.objectInit ∈ GT) (hcode : Cond.code Lib.objectInit ⟨#[0xb1]⟩ 1 none ∈ GT) (hf : 1 ≤ R.frames) (hlo : (st.map fun v => v.category).sum + 12 ≤ R.locals) (hd : decode cc pc = .ok (.invokespecial index, 3))
    (k : jN p l e R s m args below meth c nL D A Q cs sl ws xs (pc + 3) st) : jN p l e R s m args below meth c nL D A Q cs sl ws xs pc (.ref a :: st) :=
  fun ls H locs hl hP hD hS => W.objInit C.1 C.2.1 C.2.2.2.1 (C.2.2.2.2.1 _ hlink) (C.2.2.2.2.1 _ hinst) (C.2.2.2.2.1 _ hcode) rfl (by rw [C.2.2.1]; exact hl.1) rfl hd hf (by show 2 * 0 + _ + 12 ≤ _; omega) (k ls H locs hl hP hD hS)
def CI (own : String) (index : Nat) (y : MethodName) (cc : ByteArray) (nL : Nat) : Prop := Cond.methodLink own index y ∈ GT ∧ Cond.instanceMethod y ∈ GT ∧ Cond.initialized y.cls ∈ GT ∧ Cond.code y cc nL none ∈ GT ∧ y.name = "<init>" ∧ y.cls ≠ "java/lang/invoke/MethodHandle" ∧ y.cls ≠ "java/lang/invoke/VarHandle" ∧ (parseMethodDescriptor y.desc).map (fun d => d.parameters.length) = some 0
def CIN (own : String) (index : Nat) (host : String) (y : MethodName) (cc : ByteArray) (nL : Nat) : Prop := Cond.methodLinkNest own index y host ∈ nwL ∧ Cond.instanceMethod y ∈ GT ∧ Cond.initialized y.cls ∈ GT ∧ Cond.code y cc nL none ∈ GT ∧ y.name = "<init>" ∧ y.cls ≠ "java/lang/invoke/MethodHandle" ∧ y.cls ≠ "java/lang/invoke/VarHandle" ∧ (parseMethodDescriptor y.desc).map (fun d => d.parameters.length) = some 0
theorem j_behindN {post : va_W → Prop} {mc ms : Nat} {st0 : List Value} {a : Array Value} (k : ∀ ws', post ws' → jN p l e R s m args below meth c nL D A Q (cs + mc) (sl + ms) ws' xs (pc + 3) st)
    {ls : Array Slot} {H : Heap} {locs : List Loc} (hl : lh ls nL xs) (hS : va_S A s.heap H locs) (hr : va_Run p l e R s m args below meth c H locs cs sl mc ms (F0 m pc ls st0) st (QN D A post a) A) : W p l e R s m args below meth c H locs cs sl Q (F0 m pc ls st0) := by
  intro T hT X
  obtain ⟨v0, st₀, t, T', L, h0, X', hL, e1, e2, ⟨hv, ⟨ws', hpo, hp', hD'⟩, hz, hk⟩, stp⟩ := hr T hT X
  have hv : v0 = none := by injection hv
  subst hv
  rw [h0] at hz hk
  obtain ⟨t2, a1, b1⟩ := k ws' hpo ls T'.heap (locs ++ L) hl (by rw [e1]; exact hp') hD' ⟨Nat.le_trans hS.1 (by rw [e1]; exact hz), fun q h1 h2 => by rw [e1, hk q (Nat.lt_of_lt_of_le h1 hS.1) h2]; exact hS.2.1 q h1 h2, fun q hq => by
    rcases List.mem_append.mp hq with h | h
    · exact hS.2.2 q h
    · exact hL q h⟩ T' rfl X'
  exact ⟨t2, stp t2 a1, b1⟩
theorem j_callI (C : cx p s m args meth c cc nL own ret D cI cS) (hA : ∀ q, s.heap.size ≤ q → A q) (hAO : va_AO RX0 s) {index nLy f lo b mc ms : Nat} {y : MethodName} {ccy : ByteArray} {post : va_W → Prop} (V : CI own index y ccy nLy) (hM : CN l y ccy nLy f lo D cI cS A [.ref b] ws post mc ms) (hR : f + 1 ≤ R.frames ∧ 8 + (nLy + 11) + lo ≤ R.locals) (hcs : cs + mc ≤ R.cells ∧ sl + ms ≤ R.slots) (hw : (st.map fun v => v.category).sum ≤ 8) (hd : decode cc pc = .ok (.invokespecial index, 3))
    (k : ∀ ws', post ws' → jN p l e R s m args below meth c nL D A Q (cs + mc) (sl + ms) ws' xs (pc + 3) st) : jN p l e R s m args below meth c nL D A Q cs sl ws xs pc (.ref b :: st) := by
  intro ls H locs hl hP hD hS
  obtain ⟨V1, V2, V4, V5, V7, V6⟩ := V
  have hts := C.2.2.2.2.1
  have hK := C.2.2.2.2.2.2.2.1
  exact j_behindN k hl hS (va_runI (As := []) (rest := st) ⟨C.1, C.2.1, C.2.2.1, C.2.2.2.1, hts⟩ (hM H.size (fun q h => hA q (Nat.le_trans hS.1 h)) hD) ⟨callB_of 0 hts (GT_in V5) rfl rfl rfl (hts _ V4) (hts _ V1) V6 hR, V7, hts _ V2⟩ ⟨PN_blind, fun U hU hW => ⟨rfl, by rw [hU], ⟨by rw [hU]; exact hP, va_K.moved hW.alike hK, NW.warm hW C.2.2.2.2.2.2.2.2⟩, va_AO.moved hW.alike hAO⟩⟩ rfl rfl hl.1 rfl (lv_room hw) hd hcs)
theorem j_callIN (C : cx p s m args meth c cc nL own ret D cI cS) (hA : ∀ q, s.heap.size ≤ q → A q) (hAO : va_AO RX0 s) {index nLy f lo b mc ms : Nat} {host : String} {y : MethodName} {ccy : ByteArray} {post : va_W → Prop} (V : CIN own index host y ccy nLy) (hM : CN l y ccy nLy f lo D cI cS A [.ref b] ws post mc ms) (hR : f + 1 ≤ R.frames ∧ 8 + (nLy + 11) + lo ≤ R.locals) (hcs : cs + mc ≤ R.cells ∧ sl + ms ≤ R.slots) (hw : (st.map fun v => v.category).sum ≤ 8) (hd : decode cc pc = .ok (.invokespecial index, 3))
    (k : ∀ ws', post ws' → jN p l e R s m args below meth c nL D A Q (cs + mc) (sl + ms) ws' xs (pc + 3) st) : jN p l e R s m args below meth c nL D A Q cs sl ws xs pc (.ref b :: st) := by
  intro ls H locs hl hP hD hS
  obtain ⟨V1, V2, V4, V5, V7, V6⟩ := V
  have hts := C.2.2.2.2.1
  have hK := C.2.2.2.2.2.2.2.1
  have hN := C.2.2.2.2.2.2.2.2
  exact j_behindN k hl hS (va_runIN (As := []) (rest := st) (host := host) ⟨C.1, C.2.1, C.2.2.1, C.2.2.2.1, hts⟩ (hM H.size (fun q h => hA q (Nat.le_trans hS.1 h)) hD) ⟨va_cnB 0 hts (GT_in V5) rfl rfl rfl (hN _ V1) (hts _ V4) V6 hR, V7, hts _ V2⟩ ⟨PN_blind, fun U hU hW => ⟨rfl, by rw [hU], ⟨by rw [hU]; exact hP, va_K.moved hW.alike hK, NW.warm hW hN⟩, va_AO.moved hW.alike hAO⟩⟩ rfl rfl hl.1 rfl (lv_room hw) hd hcs)
theorem j_vretN {post : va_W → Prop} {mc ms : Nat} {ws' : va_W} (C : cx p s m args meth c cc nL own none D cI cS) (h1 : cs ≤ mc) (h2 : sl ≤ ms) (hp : ws.Perm ws') (hpo : post ws') (hd : decode cc pc = .ok (.return_, 1)) : jN p l e R s m args below meth c nL D A (MQ below (QN D A post) args s mc ms A) cs sl ws xs pc [] :=
  fun ls H locs hl hP hD hS => W.widen h1 h2 (W.vret C.1 C.2.1 C.2.2.2.2.2.2.1 (fun t ht hW => ⟨rfl, ⟨ws', hpo, by rw [ht]; exact va_P.perm hp hP, va_D.perm hp hD⟩, hS.F ht⟩) hS.2.2 hd (hlocks := C.2.2.2.2.2.1))
/-- an array of references is known by its values below its length -/
theorem j_arq {ws' : va_W} {q0 a n : Nat} {cA : ClassId} {f g : Nat → Option Nat} (he : ws[q0]? = some (a, .inl (cA, n, .inr (.inr (.inr (.inr f)))))) (h : ∀ i, i < n → f i = g i) (hws : ws.set q0 (a, .inl (cA, n, .inr (.inr (.inr (.inr g))))) = ws') (hdd : ws.map Prod.fst = ws'.map Prod.fst) (k : jN p l e R s m args below meth c nL D A Q cs sl ws' xs pc st) : jN p l e R s m args below meth c nL D A Q cs sl ws xs pc st := by
  intro ls H locs hl hP hD hS
  refine k ls H locs hl ?_ (va_D.cg hdd hD) hS
  rw [← hws]
  intro j q hj
  rw [List.getElem?_set] at hj
  by_cases e : q0 = j
  · rw [if_pos e] at hj
    split at hj
    · cases hj
      have h2 : H[a]? = some (vp_cell cA (n, .inr (.inr (.inr (.inr f))))) := hP q0 _ he
      show H[a]? = some (vp_cell cA (n, .inr (.inr (.inr (.inr g)))))
      rw [h2]
      simp only [vp_cell, arrV]
      congr 2
      apply congrArg
      funext j
      simp only [h j.val j.isLt]
    · cases hj
  · rw [if_neg e] at hj
    exact hP j q hj
end JA

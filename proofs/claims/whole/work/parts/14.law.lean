def R_law : String := "RangeSchedulerLaw"
def lw_P (b : Addr) (xs : List Int32) (args : Array Value) (s : State) : Prop := args = #[.ref b] ∧ s.IntsAt b xs ∧ xs.length ≤ 1536 ∧ (Jvm.Cond.and given_1 narrow_1).before args s = true
def lw_Q (_ : Array Value) (s : State) (o : Outcome) (t : State) : Prop := o = .returned (some (.int 1)) ∧ Framed s o t [] 600000 7302250
def lw_Z (below : List Frame) (a : Array Value) (s : State) : State → Prop := fun t => ∃ o, t.status = .running ∧ Ended t below o ∧ lw_Q a s o t
/-- the law's own end, with 1 on the stack, nothing written that was there before, its room as the claim has it -/
theorem lw_ret {p : Program} {l : Launch} {e : Env} {s : State} {m : MethodId} {below : List Frame} {meth : Method} {c : Code} {b : Nat} (hx : p.tables.exec = Jvm.exec) (hb : c.code = code) (hr : meth.sig.returnType = ret) (hlocks : meth.locks = false) {pc : Nat} {H : Heap} {ls : Array Slot} (hdg : decode code pc = .ok (.ireturn, 1)) : W p l e room_1 s m #[Value.ref b] below meth c H [] 600000 7302250 (lw_Z below #[Value.ref b] s) (F0 m pc ls [.int 1]) := by
  intro T hT X
  obtain ⟨fs, hret, hrun, hended, hW, hframe⟩ := X.leave (v := some (.int 1)) (hlocks := hlocks) (fun h => by rw [hr] at h; cases h)
  have hmeth' : T.vm.method? m = some meth := X.method'
  refine ⟨T.setFrames fs, ?_, .returned (some (.int 1)), hrun, hended, rfl, ⟨_, rfl⟩, hW, hframe⟩
  jvm_step X.here [X.here.top, hx, hb, hdg, hmeth', hr, ret, narrow_b1]
  (try refine ⟨rfl, ?_⟩); (try refine ⟨rfl, ?_⟩)
  first | (intro acts; rw [hret _ acts rfl rfl rfl]) | rw [hret _ _ rfl rfl rfl]
  exact Steps.refl _
/-- what holds at the law's entry: the machine, the code, the tables' words (any of lw_tbl by 'hts w (by decide +kernel)'), the script of L ints xs at the cell b, what the Statement gives of the start (any of its parts by flat_of_before) -/
def lw_At (p : Program) (s : State) (m : MethodId) (meth : Method) (c : Code) (b L : Nat) (xs : Nat → Int32) : Prop :=
  p.tables.exec = Jvm.exec ∧ c.code = code ∧ meth.sig.returnType = ret ∧ c.maxLocals = 4 ∧ s.vm.findClass R_law = some m.cls ∧ (∀ w ∈ lw_tbl, w.before #[Value.ref b] s = true) ∧ va_X b L xs s s.heap ∧ b < s.heap.size ∧ meth.locks = false ∧ (Jvm.Cond.and given_1 narrow_1).before #[Value.ref b] s = true
section LW1
variable {p : Program} {l : Launch} {e : Env} {R : Room} {s : State} {m : MethodId} {args : Array Value} {below : List Frame} {meth : Method} {c : Code} {nL : Nat} {D : va_G} {A : Nat → Prop} {Q : State → Prop} {ws : va_W} {xs : List (Option Value)} {pc : Nat} {st : List Value} {cc : ByteArray} {own : String} {ret : Option FieldType} {cI cS : ClassId} {cs sl : Nat}
theorem j_sld (C : cx p s m args meth c cc nL own ret D cI cS) {b L : Nat} {xv : Nat → Int32} {i v : Int32} (hX : va_X b L xv s s.heap) (hbl : b < s.heap.size) (hbA : ¬ A b) (hi : vp_in i L) (hv : xv i.toNatClampNeg = v) (hd : decode cc pc = .ok (.iaload, 1)) (k : jN p l e R s m args below meth c nL D A Q cs sl ws xs (pc + 1) (.int v :: st)) : jN p l e R s m args below meth c nL D A Q cs sl ws xs pc (.int i :: .ref b :: st) := by
  subst hv
  exact fun ls H locs hl hP hD hS => va_sld C.1 C.2.1 hX hbl hbA hS hi hd (k ls H locs hl hP hD hS)
theorem j_slen (C : cx p s m args meth c cc nL own ret D cI cS) {b L : Nat} {xv : Nat → Int32} (hX : va_X b L xv s s.heap) (hbl : b < s.heap.size) (hbA : ¬ A b) (hd : decode cc pc = .ok (.arraylength, 1)) (k : jN p l e R s m args below meth c nL D A Q cs sl ws xs (pc + 1) (.int (nI L) :: st)) : jN p l e R s m args below meth c nL D A Q cs sl ws xs pc (.ref b :: st) :=
  fun ls H locs hl hP hD hS => va_slen C.1 C.2.1 hX hbl hbA hS hd (k ls H locs hl hP hD hS)
theorem j_lcmp (C : cx p s m args meth c cc nL own ret D cI cS) {x : Int64} (hd : decode cc pc = .ok (.lcmp, 1)) (k : jN p l e R s m args below meth c nL D A Q cs sl ws xs (pc + 1) (.int 0 :: st)) : jN p l e R s m args below meth c nL D A Q cs sl ws xs pc (.long x :: .long x :: st) :=
  fun ls H locs hl hP hD hS => W.lcmp C.1 C.2.1 hd (by rw [show lg_cmp x x = 0 by simp [lg_cmp]]; exact k ls H locs hl hP hD hS)
end LW1
abbrev RelT : Type := (Nat → Nat → Int32) → (Nat → Int32) → (Nat → Nat → Nat → Int32) → (Nat → Int32) → (Nat → Int32) → (Nat → Int32) → Int32 → Prop
theorem perm_law {a : Nat → Nat} {d o hh sl : Nat} {sb : Nat → Nat → Nat} {mb : Nat → Nat} {cI cS : ClassId} {σ : Nat → Nat → Int32} {t : Nat → Int32} {h : Nat → Nat → Nat → Int32} {s P E : Nat → Int32} {n : Int32} {hs : Int64} : (wT a d o hh sl sb cI cS σ t h (wM mb cI s P E n hs [])).Perm (wM mb cI s P E n hs (wT a d o hh sl sb cI cS σ t h [])) :=
  List.perm_append_comm_assoc (wT a d o hh sl sb cI cS σ t h []) (wM mb cI s P E n hs []) []
theorem cl_L_13 : CV RL 13 RX8 yX8_addNode cX8_addNode 3 (some .int) 2 := ⟨tw_262, tw_263, tw_264, tw_1, tw_265, (by decide +kernel), (by decide +kernel), (by decide +kernel)⟩
theorem cl_L_17 : CV RL 17 RX9 yX9_addNode cX9_addNode 4 (some .int) 2 := ⟨tw_935, tw_936, tw_937, tw_10, tw_938, (by decide +kernel), (by decide +kernel), (by decide +kernel)⟩
theorem cl_L_18 : CV RL 18 RX8 yX8_setNode cX8_setNode 4 (some .int) 2 := ⟨tw_322, tw_323, tw_324, tw_1, tw_325, (by decide +kernel), (by decide +kernel), (by decide +kernel)⟩
theorem cl_L_21 : CV RL 21 RX9 yX9_setNode cX9_setNode 5 (some .int) 2 := ⟨tw_939, tw_940, tw_941, tw_10, tw_942, (by decide +kernel), (by decide +kernel), (by decide +kernel)⟩
theorem cl_L_22 : CV RL 22 RX8 yX8_setReplication cX8_setReplication 3 (some .int) 1 := ⟨tw_381, tw_382, tw_383, tw_1, tw_384, (by decide +kernel), (by decide +kernel), (by decide +kernel)⟩
theorem cl_L_26 : CV RL 26 RX9 yX9_setReplication cX9_setReplication 2 (some .int) 1 := ⟨tw_955, tw_956, tw_957, tw_10, tw_958, (by decide +kernel), (by decide +kernel), (by decide +kernel)⟩
theorem cl_L_27 : CV RL 27 RX8 yX8_setSizes cX8_setSizes 4 (some .int) 2 := ⟨tw_385, tw_386, tw_387, tw_1, tw_388, (by decide +kernel), (by decide +kernel), (by decide +kernel)⟩
theorem cl_L_30 : CV RL 30 RX9 yX9_setSizes cX9_setSizes 4 (some .int) 2 := ⟨tw_963, tw_964, tw_965, tw_10, tw_966, (by decide +kernel), (by decide +kernel), (by decide +kernel)⟩
theorem cl_L_31 : CV RL 31 RX8 yX8_setLoads cX8_setLoads 4 (some .int) 2 := ⟨tw_389, tw_390, tw_391, tw_1, tw_392, (by decide +kernel), (by decide +kernel), (by decide +kernel)⟩
theorem cl_L_34 : CV RL 34 RX9 yX9_setLoads cX9_setLoads 4 (some .int) 2 := ⟨tw_967, tw_968, tw_969, tw_10, tw_970, (by decide +kernel), (by decide +kernel), (by decide +kernel)⟩
theorem cl_L_35 : CV RL 35 RX8 yX8_setSpeed cX8_setSpeed 3 (some .int) 1 := ⟨tw_393, tw_394, tw_395, tw_1, tw_396, (by decide +kernel), (by decide +kernel), (by decide +kernel)⟩
theorem cl_L_38 : CV RL 38 RX9 yX9_setSpeed cX9_setSpeed 2 (some .int) 1 := ⟨tw_971, tw_972, tw_973, tw_10, tw_974, (by decide +kernel), (by decide +kernel), (by decide +kernel)⟩
theorem cl_L_39 : CV RL 39 RX8 yX8_put cX8_put 4 (some .int) 2 := ⟨tw_397, tw_398, tw_399, tw_1, tw_400, (by decide +kernel), (by decide +kernel), (by decide +kernel)⟩
theorem cl_L_42 : CV RL 42 RX9 yX9_put cX9_put 5 (some .int) 2 := ⟨tw_975, tw_976, tw_977, tw_10, tw_978, (by decide +kernel), (by decide +kernel), (by decide +kernel)⟩
theorem cl_L_43 : CV RL 43 RX8 yX8_remove cX8_remove 3 (some .int) 1 := ⟨tw_421, tw_422, tw_423, tw_1, tw_424, (by decide +kernel), (by decide +kernel), (by decide +kernel)⟩
theorem cl_L_46 : CV RL 46 RX9 yX9_remove cX9_remove 5 (some .int) 1 := ⟨tw_986, tw_987, tw_988, tw_10, tw_989, (by decide +kernel), (by decide +kernel), (by decide +kernel)⟩
theorem cl_L_47 : CV RL 47 RX8 yX8_access cX8_access 2 (some .int) 1 := ⟨tw_429, tw_430, tw_431, tw_1, tw_432, (by decide +kernel), (by decide +kernel), (by decide +kernel)⟩
theorem cl_L_50 : CV RL 50 RX9 yX9_access cX9_access 3 (some .int) 1 := ⟨tw_990, tw_991, tw_992, tw_10, tw_993, (by decide +kernel), (by decide +kernel), (by decide +kernel)⟩
theorem cl_L_51 : CV RL 51 RX8 yX8_splitAt cX8_splitAt 3 (some .int) 1 := ⟨tw_442, tw_443, tw_444, tw_1, tw_445, (by decide +kernel), (by decide +kernel), (by decide +kernel)⟩
theorem cl_L_54 : CV RL 54 RX9 yX9_splitAt cX9_splitAt 3 (some .int) 1 := ⟨tw_998, tw_999, tw_1000, tw_10, tw_1001, (by decide +kernel), (by decide +kernel), (by decide +kernel)⟩
theorem cl_L_55 : CV RL 55 RX8 yX8_sizeOf cX8_sizeOf 2 (some .int) 1 := ⟨tw_463, tw_464, tw_465, tw_1, tw_466, (by decide +kernel), (by decide +kernel), (by decide +kernel)⟩
theorem cl_L_58 : CV RL 58 RX9 yX9_sizeOf cX9_sizeOf 3 (some .int) 1 := ⟨tw_1002, tw_1003, tw_1004, tw_10, tw_1005, (by decide +kernel), (by decide +kernel), (by decide +kernel)⟩
theorem cl_L_59 : CV RL 59 RX8 yX8_tick cX8_tick 1 (some .int) 0 := ⟨tw_467, tw_468, tw_469, tw_1, tw_470, (by decide +kernel), (by decide +kernel), (by decide +kernel)⟩
theorem cl_L_63 : CV RL 63 RX9 yX9_tick cX9_tick 1 (some .int) 0 := ⟨tw_778, tw_779, tw_780, tw_10, tw_781, (by decide +kernel), (by decide +kernel), (by decide +kernel)⟩
theorem cl_L_64 : CV RL 64 RX8 yX8_settle cX8_settle 5 (some .int) 1 := ⟨tw_628, tw_629, tw_630, tw_1, tw_631, (by decide +kernel), (by decide +kernel), (by decide +kernel)⟩
theorem cl_L_67 : CV RL 67 RX9 yX9_settle cX9_settle 4 (some .int) 1 := ⟨tw_919, tw_920, tw_921, tw_10, tw_922, (by decide +kernel), (by decide +kernel), (by decide +kernel)⟩
theorem cl_L_68 : CV RL 68 RX8 yX8_performed cX8_performed 2 (some .int) 1 := ⟨tw_637, tw_638, tw_639, tw_1, tw_640, (by decide +kernel), (by decide +kernel), (by decide +kernel)⟩
theorem cl_L_71 : CV RL 71 RX9 yX9_performed cX9_performed 2 (some .int) 1 := ⟨tw_927, tw_928, tw_929, tw_10, tw_930, (by decide +kernel), (by decide +kernel), (by decide +kernel)⟩
theorem cl_L_72 : CV RL 72 RX8 yX8_time cX8_time 1 (some .int) 0 := ⟨tw_641, tw_642, tw_643, tw_1, tw_644, (by decide +kernel), (by decide +kernel), (by decide +kernel)⟩
theorem cl_L_75 : CV RL 75 RX9 yX9_time cX9_time 1 (some .int) 0 := ⟨tw_931, tw_932, tw_933, tw_10, tw_934, (by decide +kernel), (by decide +kernel), (by decide +kernel)⟩
theorem cl_L_76 : CV RL 76 RX8 yX8_rangeCount cX8_rangeCount 1 (some .int) 0 := ⟨tw_645, tw_646, tw_647, tw_1, tw_648, (by decide +kernel), (by decide +kernel), (by decide +kernel)⟩
theorem cl_L_79 : CV RL 79 RX9 yX9_rangeCount cX9_rangeCount 1 (some .int) 0 := ⟨tw_1006, tw_1007, tw_1008, tw_10, tw_1009, (by decide +kernel), (by decide +kernel), (by decide +kernel)⟩
theorem cl_L_80 : CV RL 80 RX8 yX8_start cX8_start 2 (some .int) 1 := ⟨tw_649, tw_650, tw_651, tw_1, tw_652, (by decide +kernel), (by decide +kernel), (by decide +kernel)⟩
theorem cl_L_83 : CV RL 83 RX9 yX9_start cX9_start 2 (some .int) 1 := ⟨tw_1010, tw_1011, tw_1012, tw_10, tw_1013, (by decide +kernel), (by decide +kernel), (by decide +kernel)⟩
theorem cl_L_84 : CV RL 84 RX8 yX8_size cX8_size 2 (some .int) 1 := ⟨tw_657, tw_658, tw_659, tw_1, tw_660, (by decide +kernel), (by decide +kernel), (by decide +kernel)⟩
theorem cl_L_87 : CV RL 87 RX9 yX9_size cX9_size 2 (some .int) 1 := ⟨tw_1018, tw_1019, tw_1020, tw_10, tw_1021, (by decide +kernel), (by decide +kernel), (by decide +kernel)⟩
theorem cl_L_88 : CV RL 88 RX8 yX8_load cX8_load 2 (some .int) 1 := ⟨tw_662, tw_663, tw_664, tw_1, tw_665, (by decide +kernel), (by decide +kernel), (by decide +kernel)⟩
theorem cl_L_91 : CV RL 91 RX9 yX9_load cX9_load 2 (some .int) 1 := ⟨tw_1022, tw_1023, tw_1024, tw_10, tw_1025, (by decide +kernel), (by decide +kernel), (by decide +kernel)⟩
theorem cl_L_92 : CV RL 92 RX8 yX8_rangeOf cX8_rangeOf 2 (some .int) 1 := ⟨tw_667, tw_668, tw_669, tw_1, tw_670, (by decide +kernel), (by decide +kernel), (by decide +kernel)⟩
theorem cl_L_95 : CV RL 95 RX9 yX9_rangeOf cX9_rangeOf 2 (some .int) 1 := ⟨tw_1026, tw_1027, tw_1028, tw_10, tw_1029, (by decide +kernel), (by decide +kernel), (by decide +kernel)⟩
theorem cl_L_96 : CV RL 96 RX8 yX8_voters cX8_voters 2 (some .int) 1 := ⟨tw_671, tw_672, tw_673, tw_1, tw_674, (by decide +kernel), (by decide +kernel), (by decide +kernel)⟩
theorem cl_L_99 : CV RL 99 RX9 yX9_voters cX9_voters 2 (some .int) 1 := ⟨tw_1030, tw_1031, tw_1032, tw_10, tw_1033, (by decide +kernel), (by decide +kernel), (by decide +kernel)⟩
theorem cl_L_100 : CV RL 100 RX8 yX8_leader cX8_leader 2 (some .int) 1 := ⟨tw_675, tw_676, tw_677, tw_1, tw_678, (by decide +kernel), (by decide +kernel), (by decide +kernel)⟩
theorem cl_L_103 : CV RL 103 RX9 yX9_leader cX9_leader 2 (some .int) 1 := ⟨tw_1034, tw_1035, tw_1036, tw_10, tw_1037, (by decide +kernel), (by decide +kernel), (by decide +kernel)⟩
theorem cl_L_104 : CV RL 104 RX8 yX8_learner cX8_learner 2 (some .int) 1 := ⟨tw_679, tw_680, tw_681, tw_1, tw_682, (by decide +kernel), (by decide +kernel), (by decide +kernel)⟩
theorem cl_L_107 : CV RL 107 RX9 yX9_learner cX9_learner 2 (some .int) 1 := ⟨tw_1038, tw_1039, tw_1040, tw_10, tw_1041, (by decide +kernel), (by decide +kernel), (by decide +kernel)⟩
theorem cl_L_108 : CV RL 108 RX8 yX8_isAvailable cX8_isAvailable 2 (some .int) 1 := ⟨tw_687, tw_688, tw_689, tw_1, tw_690, (by decide +kernel), (by decide +kernel), (by decide +kernel)⟩
theorem cl_L_111 : CV RL 111 RX9 yX9_isAvailable cX9_isAvailable 2 (some .int) 1 := ⟨tw_1046, tw_1047, tw_1048, tw_10, tw_1049, (by decide +kernel), (by decide +kernel), (by decide +kernel)⟩
theorem cl_L_112 : CV RL 112 RX8 yX8_splitKey cX8_splitKey 3 (some .int) 2 := ⟨tw_692, tw_693, tw_694, tw_1, tw_695, (by decide +kernel), (by decide +kernel), (by decide +kernel)⟩
theorem cl_L_115 : CV RL 115 RX9 yX9_splitKey cX9_splitKey 3 (some .int) 2 := ⟨tw_1050, tw_1051, tw_1052, tw_10, tw_1053, (by decide +kernel), (by decide +kernel), (by decide +kernel)⟩
theorem cl_L_116 : CV RL 116 RX8 yX8_replicas cX8_replicas 2 (some .int) 1 := ⟨tw_698, tw_699, tw_700, tw_1, tw_701, (by decide +kernel), (by decide +kernel), (by decide +kernel)⟩
theorem cl_L_119 : CV RL 119 RX9 yX9_replicas cX9_replicas 2 (some .int) 1 := ⟨tw_1054, tw_1055, tw_1056, tw_10, tw_1057, (by decide +kernel), (by decide +kernel), (by decide +kernel)⟩
theorem cl_L_120 : CV RL 120 RX8 yX8_leaders cX8_leaders 2 (some .int) 1 := ⟨tw_703, tw_704, tw_705, tw_1, tw_706, (by decide +kernel), (by decide +kernel), (by decide +kernel)⟩
theorem cl_L_123 : CV RL 123 RX9 yX9_leaders cX9_leaders 2 (some .int) 1 := ⟨tw_1058, tw_1059, tw_1060, tw_10, tw_1061, (by decide +kernel), (by decide +kernel), (by decide +kernel)⟩
theorem cl_L_124 : CV RL 124 RX8 yX8_undo cX8_undo 1 (some .int) 0 := ⟨tw_708, tw_709, tw_710, tw_1, tw_711, (by decide +kernel), (by decide +kernel), (by decide +kernel)⟩
theorem cl_L_127 : CV RL 127 RX9 yX9_undo cX9_undo 2 (some .int) 0 := ⟨tw_770, tw_771, tw_772, tw_10, tw_773, (by decide +kernel), (by decide +kernel), (by decide +kernel)⟩
theorem cl_L_128 : CV RL 128 RX8 yX8_errorCount cX8_errorCount 2 (some .int) 1 := ⟨tw_716, tw_717, tw_718, tw_1, tw_719, (by decide +kernel), (by decide +kernel), (by decide +kernel)⟩
theorem cl_L_131 : CV RL 131 RX9 yX9_errorCount cX9_errorCount 2 (some .int) 1 := ⟨tw_1062, tw_1063, tw_1064, tw_10, tw_1065, (by decide +kernel), (by decide +kernel), (by decide +kernel)⟩
theorem cl_L_132 : CV RL 132 RX8 yX8_digest cX8_digest 4 (some .long) 0 := ⟨tw_720, tw_721, tw_722, tw_1, tw_723, (by decide +kernel), (by decide +kernel), (by decide +kernel)⟩
theorem cl_L_136 : CV RL 136 RX9 yX9_digest cX9_digest 3 (some .long) 0 := ⟨tw_1066, tw_1067, tw_1068, tw_10, tw_1069, (by decide +kernel), (by decide +kernel), (by decide +kernel)⟩
def St_addNode (Rel : RelT) : Prop := ∀ (σ : Nat → Nat → Int32) (t : Nat → Int32) (h : Nat → Nat → Nat → Int32) (s P E : Nat → Int32) (n : Int32) (x : Int32) (y : Int32), Rel σ t h s P E n → ∃ (rc : Int32 × (Nat → Nat → Int32) × (Nat → Int32) × (Nat → Nat → Nat → Int32)) (rm : Int32 × (Nat → Int32) × (Nat → Int32) × (Nat → Int32) × (Int32)), f_X8_addNode σ t h x y = some rc ∧ f_X9_addNode s P E n x y = some rm ∧ rc.1 = rm.1 ∧ Rel rc.2.1 rc.2.2.1 rc.2.2.2 rm.2.1 rm.2.2.1 rm.2.2.2.1 rm.2.2.2.2
set_option maxRecDepth 100000 in
set_option maxHeartbeats 4000000 in
theorem law_addNode {p : Program} {l : Launch} {e : Env} {s_ : State} {m : MethodId} {below : List Frame} {meth : Method} {c : Code} {D : va_G} {cI cS : ClassId} {b L : Nat} {xv : Nat → Int32} {a : Nat → Nat} {d o hh sl : Nat} {sb : Nat → Nat → Nat} {mb : Nat → Nat} {σ : Nat → Nat → Int32} {t : Nat → Int32} {h : Nat → Nat → Nat → Int32} {s P E : Nat → Int32} {n : Int32} {hs : Int64} {x3 : Int32} (C : cx p s_ m #[Value.ref b] meth c code 4 RL ret D cI cS) (hX : va_X b L xv s_ s_.heap) (hbl : b < s_.heap.size) (hbA : ¬ (fun q : Nat => s_.heap.size ≤ q) b) (hi1 : vp_in (x3 + (1 : Int32)) L) (hi2 : vp_in (x3 + (2 : Int32)) L) {Rel : RelT} (hSt : St_addNode Rel) (hRel : Rel σ t h s P E n)
    (K : ∀ (σ : Nat → Nat → Int32) (t : Nat → Int32) (h : Nat → Nat → Nat → Int32) (s P E : Nat → Int32) (n : Int32) (hs : Int64), Rel σ t h s P E n → jN p l e room_1 s_ m #[Value.ref b] below meth c 4 D (fun q : Nat => s_.heap.size ≤ q) (lw_Z below #[Value.ref b] s_) 98 3070 (wT a d o hh sl sb cI cS σ t h (wM mb cI s P E n hs [])) [some (.ref b), some (.ref o), some (.ref (mb 0)), some (.int x3)] 869 []) : jN p l e room_1 s_ m #[Value.ref b] below meth c 4 D (fun q : Nat => s_.heap.size ≤ q) (lw_Z below #[Value.ref b] s_) 98 3070 (wT a d o hh sl sb cI cS σ t h (wM mb cI s P E n hs [])) [some (.ref b), some (.ref o), some (.ref (mb 0)), some (.int x3)] 168 [] := by
  obtain ⟨rc, rm, h1, h2, heq, hR⟩ := hSt σ t h s P E n (xv (x3 + (1 : Int32)).toNatClampNeg) (xv (x3 + (2 : Int32)).toNatClampNeg) hRel
  refine j_aload_n C dL_law_168 rfl ?_
  refine j_aload_n C dL_law_169 rfl ?_
  refine j_iload_n C dL_law_170 rfl ?_
  refine j_iconst C ic_1 dL_law_171 ?_
  refine j_iadd C dL_law_172 ?_
  refine j_sld C hX hbl hbA hi1 rfl dL_law_173 ?_
  refine j_aload_n C dL_law_174 rfl ?_
  refine j_iload_n C dL_law_175 rfl ?_
  refine j_iconst C ic_2 dL_law_176 ?_
  refine j_iadd C dL_law_177 ?_
  refine j_sld C hX hbl hbA hi2 rfl dL_law_178 ?_
  refine j_callV C cl_L_13 (c_X8_addNode h1) ⟨Nat.le_of_ble_eq_true rfl, Nat.le_of_ble_eq_true rfl⟩ ⟨Nat.le_of_ble_eq_true rfl, Nat.le_of_ble_eq_true rfl⟩ (q0 := 19) rfl rfl rfl rfl (Nat.le_of_ble_eq_true rfl) rfl rfl wT_fst dL_law_179 ?_
  refine j_aload_n C dL_law_182 rfl ?_
  refine j_aload_n C dL_law_183 rfl ?_
  refine j_iload_n C dL_law_184 rfl ?_
  refine j_iconst C ic_1 dL_law_185 ?_
  refine j_iadd C dL_law_186 ?_
  refine j_sld C hX hbl hbA hi1 rfl dL_law_187 ?_
  refine j_aload_n C dL_law_188 rfl ?_
  refine j_iload_n C dL_law_189 rfl ?_
  refine j_iconst C ic_2 dL_law_190 ?_
  refine j_iadd C dL_law_191 ?_
  refine j_sld C hX hbl hbA hi2 rfl dL_law_192 ?_
  refine j_perm perm_law ?_
  refine j_callV C cl_L_17 (c_X9_addNode h2) ⟨Nat.le_of_ble_eq_true rfl, Nat.le_of_ble_eq_true rfl⟩ ⟨Nat.le_of_ble_eq_true rfl, Nat.le_of_ble_eq_true rfl⟩ (q0 := 0) rfl rfl rfl rfl (Nat.le_of_ble_eq_true rfl) rfl rfl wM_fst dL_law_193 ?_
  refine j_perm (ws' := (wT a d o hh sl sb cI cS rc.2.1 rc.2.2.1 rc.2.2.2 (wM mb cI rm.2.1 rm.2.2.1 rm.2.2.2.1 rm.2.2.2.2 hs []))) perm_law.symm ?_
  refine j_icmp_eq C (tgt := 869) (by decide) dL_law_196 (fun _ => ?_) (fun z => absurd heq z)
  exact K _ _ _ _ _ _ _ _ hR
def St_setNode (Rel : RelT) : Prop := ∀ (σ : Nat → Nat → Int32) (t : Nat → Int32) (h : Nat → Nat → Nat → Int32) (s P E : Nat → Int32) (n : Int32) (x : Int32) (y : Int32), Rel σ t h s P E n → ∃ (rc : Int32 × (Nat → Nat → Int32) × (Nat → Int32) × (Nat → Nat → Nat → Int32)) (rm : Int32 × (Nat → Int32) × (Nat → Int32) × (Nat → Int32) × (Int32)), f_X8_setNode σ t h x y = some rc ∧ f_X9_setNode s P E n x y = some rm ∧ rc.1 = rm.1 ∧ Rel rc.2.1 rc.2.2.1 rc.2.2.2 rm.2.1 rm.2.2.1 rm.2.2.2.1 rm.2.2.2.2
set_option maxRecDepth 100000 in
set_option maxHeartbeats 4000000 in
theorem law_setNode {p : Program} {l : Launch} {e : Env} {s_ : State} {m : MethodId} {below : List Frame} {meth : Method} {c : Code} {D : va_G} {cI cS : ClassId} {b L : Nat} {xv : Nat → Int32} {a : Nat → Nat} {d o hh sl : Nat} {sb : Nat → Nat → Nat} {mb : Nat → Nat} {σ : Nat → Nat → Int32} {t : Nat → Int32} {h : Nat → Nat → Nat → Int32} {s P E : Nat → Int32} {n : Int32} {hs : Int64} {x3 : Int32} (C : cx p s_ m #[Value.ref b] meth c code 4 RL ret D cI cS) (hX : va_X b L xv s_ s_.heap) (hbl : b < s_.heap.size) (hbA : ¬ (fun q : Nat => s_.heap.size ≤ q) b) (hi1 : vp_in (x3 + (1 : Int32)) L) (hi2 : vp_in (x3 + (2 : Int32)) L) {Rel : RelT} (hSt : St_setNode Rel) (hRel : Rel σ t h s P E n)
    (K : ∀ (σ : Nat → Nat → Int32) (t : Nat → Int32) (h : Nat → Nat → Nat → Int32) (s P E : Nat → Int32) (n : Int32) (hs : Int64), Rel σ t h s P E n → jN p l e room_1 s_ m #[Value.ref b] below meth c 4 D (fun q : Nat => s_.heap.size ≤ q) (lw_Z below #[Value.ref b] s_) 98 3070 (wT a d o hh sl sb cI cS σ t h (wM mb cI s P E n hs [])) [some (.ref b), some (.ref o), some (.ref (mb 0)), some (.int x3)] 869 []) : jN p l e room_1 s_ m #[Value.ref b] below meth c 4 D (fun q : Nat => s_.heap.size ≤ q) (lw_Z below #[Value.ref b] s_) 98 3070 (wT a d o hh sl sb cI cS σ t h (wM mb cI s P E n hs [])) [some (.ref b), some (.ref o), some (.ref (mb 0)), some (.int x3)] 201 [] := by
  obtain ⟨rc, rm, h1, h2, heq, hR⟩ := hSt σ t h s P E n (xv (x3 + (1 : Int32)).toNatClampNeg) (xv (x3 + (2 : Int32)).toNatClampNeg) hRel
  refine j_aload_n C dL_law_201 rfl ?_
  refine j_aload_n C dL_law_202 rfl ?_
  refine j_iload_n C dL_law_203 rfl ?_
  refine j_iconst C ic_1 dL_law_204 ?_
  refine j_iadd C dL_law_205 ?_
  refine j_sld C hX hbl hbA hi1 rfl dL_law_206 ?_
  refine j_aload_n C dL_law_207 rfl ?_
  refine j_iload_n C dL_law_208 rfl ?_
  refine j_iconst C ic_2 dL_law_209 ?_
  refine j_iadd C dL_law_210 ?_
  refine j_sld C hX hbl hbA hi2 rfl dL_law_211 ?_
  refine j_callV C cl_L_18 (c_X8_setNode h1) ⟨Nat.le_of_ble_eq_true rfl, Nat.le_of_ble_eq_true rfl⟩ ⟨Nat.le_of_ble_eq_true rfl, Nat.le_of_ble_eq_true rfl⟩ (q0 := 19) rfl rfl rfl rfl (Nat.le_of_ble_eq_true rfl) rfl rfl wT_fst dL_law_212 ?_
  refine j_aload_n C dL_law_215 rfl ?_
  refine j_aload_n C dL_law_216 rfl ?_
  refine j_iload_n C dL_law_217 rfl ?_
  refine j_iconst C ic_1 dL_law_218 ?_
  refine j_iadd C dL_law_219 ?_
  refine j_sld C hX hbl hbA hi1 rfl dL_law_220 ?_
  refine j_aload_n C dL_law_221 rfl ?_
  refine j_iload_n C dL_law_222 rfl ?_
  refine j_iconst C ic_2 dL_law_223 ?_
  refine j_iadd C dL_law_224 ?_
  refine j_sld C hX hbl hbA hi2 rfl dL_law_225 ?_
  refine j_perm perm_law ?_
  refine j_callV C cl_L_21 (c_X9_setNode h2) ⟨Nat.le_of_ble_eq_true rfl, Nat.le_of_ble_eq_true rfl⟩ ⟨Nat.le_of_ble_eq_true rfl, Nat.le_of_ble_eq_true rfl⟩ (q0 := 0) rfl rfl rfl rfl (Nat.le_of_ble_eq_true rfl) rfl rfl wM_fst dL_law_226 ?_
  refine j_perm (ws' := (wT a d o hh sl sb cI cS rc.2.1 rc.2.2.1 rc.2.2.2 (wM mb cI rm.2.1 rm.2.2.1 rm.2.2.2.1 rm.2.2.2.2 hs []))) perm_law.symm ?_
  refine j_icmp_eq C (tgt := 869) (by decide) dL_law_229 (fun _ => ?_) (fun z => absurd heq z)
  exact K _ _ _ _ _ _ _ _ hR
def St_setReplication (Rel : RelT) : Prop := ∀ (σ : Nat → Nat → Int32) (t : Nat → Int32) (h : Nat → Nat → Nat → Int32) (s P E : Nat → Int32) (n : Int32) (x : Int32), Rel σ t h s P E n → ∃ (rc : Int32 × (Nat → Nat → Int32) × (Nat → Int32) × (Nat → Nat → Nat → Int32)) (rm : Int32 × (Nat → Int32) × (Nat → Int32) × (Nat → Int32) × (Int32)), f_X8_setReplication σ t h x = some rc ∧ f_X9_setReplication s P E n x = some rm ∧ rc.1 = rm.1 ∧ Rel rc.2.1 rc.2.2.1 rc.2.2.2 rm.2.1 rm.2.2.1 rm.2.2.2.1 rm.2.2.2.2
set_option maxRecDepth 100000 in
set_option maxHeartbeats 4000000 in
theorem law_setReplication {p : Program} {l : Launch} {e : Env} {s_ : State} {m : MethodId} {below : List Frame} {meth : Method} {c : Code} {D : va_G} {cI cS : ClassId} {b L : Nat} {xv : Nat → Int32} {a : Nat → Nat} {d o hh sl : Nat} {sb : Nat → Nat → Nat} {mb : Nat → Nat} {σ : Nat → Nat → Int32} {t : Nat → Int32} {h : Nat → Nat → Nat → Int32} {s P E : Nat → Int32} {n : Int32} {hs : Int64} {x3 : Int32} (C : cx p s_ m #[Value.ref b] meth c code 4 RL ret D cI cS) (hX : va_X b L xv s_ s_.heap) (hbl : b < s_.heap.size) (hbA : ¬ (fun q : Nat => s_.heap.size ≤ q) b) (hi1 : vp_in (x3 + (1 : Int32)) L) (hi2 : vp_in (x3 + (2 : Int32)) L) {Rel : RelT} (hSt : St_setReplication Rel) (hRel : Rel σ t h s P E n)
    (K : ∀ (σ : Nat → Nat → Int32) (t : Nat → Int32) (h : Nat → Nat → Nat → Int32) (s P E : Nat → Int32) (n : Int32) (hs : Int64), Rel σ t h s P E n → jN p l e room_1 s_ m #[Value.ref b] below meth c 4 D (fun q : Nat => s_.heap.size ≤ q) (lw_Z below #[Value.ref b] s_) 98 3070 (wT a d o hh sl sb cI cS σ t h (wM mb cI s P E n hs [])) [some (.ref b), some (.ref o), some (.ref (mb 0)), some (.int x3)] 869 []) : jN p l e room_1 s_ m #[Value.ref b] below meth c 4 D (fun q : Nat => s_.heap.size ≤ q) (lw_Z below #[Value.ref b] s_) 98 3070 (wT a d o hh sl sb cI cS σ t h (wM mb cI s P E n hs [])) [some (.ref b), some (.ref o), some (.ref (mb 0)), some (.int x3)] 234 [] := by
  obtain ⟨rc, rm, h1, h2, heq, hR⟩ := hSt σ t h s P E n (xv (x3 + (1 : Int32)).toNatClampNeg) hRel
  refine j_aload_n C dL_law_234 rfl ?_
  refine j_aload_n C dL_law_235 rfl ?_
  refine j_iload_n C dL_law_236 rfl ?_
  refine j_iconst C ic_1 dL_law_237 ?_
  refine j_iadd C dL_law_238 ?_
  refine j_sld C hX hbl hbA hi1 rfl dL_law_239 ?_
  refine j_callV C cl_L_22 (c_X8_setReplication h1) ⟨Nat.le_of_ble_eq_true rfl, Nat.le_of_ble_eq_true rfl⟩ ⟨Nat.le_of_ble_eq_true rfl, Nat.le_of_ble_eq_true rfl⟩ (q0 := 19) rfl rfl rfl rfl (Nat.le_of_ble_eq_true rfl) rfl rfl wT_fst dL_law_240 ?_
  refine j_aload_n C dL_law_243 rfl ?_
  refine j_aload_n C dL_law_244 rfl ?_
  refine j_iload_n C dL_law_245 rfl ?_
  refine j_iconst C ic_1 dL_law_246 ?_
  refine j_iadd C dL_law_247 ?_
  refine j_sld C hX hbl hbA hi1 rfl dL_law_248 ?_
  refine j_perm perm_law ?_
  refine j_callV C cl_L_26 (c_X9_setReplication h2) ⟨Nat.le_of_ble_eq_true rfl, Nat.le_of_ble_eq_true rfl⟩ ⟨Nat.le_of_ble_eq_true rfl, Nat.le_of_ble_eq_true rfl⟩ (q0 := 0) rfl rfl rfl rfl (Nat.le_of_ble_eq_true rfl) rfl rfl wM_fst dL_law_249 ?_
  refine j_perm (ws' := (wT a d o hh sl sb cI cS rc.2.1 rc.2.2.1 rc.2.2.2 (wM mb cI rm.2.1 rm.2.2.1 rm.2.2.2.1 rm.2.2.2.2 hs []))) perm_law.symm ?_
  refine j_icmp_eq C (tgt := 869) (by decide) dL_law_252 (fun _ => ?_) (fun z => absurd heq z)
  exact K _ _ _ _ _ _ _ _ hR
def St_setSizes (Rel : RelT) : Prop := ∀ (σ : Nat → Nat → Int32) (t : Nat → Int32) (h : Nat → Nat → Nat → Int32) (s P E : Nat → Int32) (n : Int32) (x : Int32) (y : Int32), Rel σ t h s P E n → ∃ (rc : Int32 × (Nat → Nat → Int32) × (Nat → Int32) × (Nat → Nat → Nat → Int32)) (rm : Int32 × (Nat → Int32) × (Nat → Int32) × (Nat → Int32) × (Int32)), f_X8_setSizes σ t h x y = some rc ∧ f_X9_setSizes s P E n x y = some rm ∧ rc.1 = rm.1 ∧ Rel rc.2.1 rc.2.2.1 rc.2.2.2 rm.2.1 rm.2.2.1 rm.2.2.2.1 rm.2.2.2.2
set_option maxRecDepth 100000 in
set_option maxHeartbeats 4000000 in
theorem law_setSizes {p : Program} {l : Launch} {e : Env} {s_ : State} {m : MethodId} {below : List Frame} {meth : Method} {c : Code} {D : va_G} {cI cS : ClassId} {b L : Nat} {xv : Nat → Int32} {a : Nat → Nat} {d o hh sl : Nat} {sb : Nat → Nat → Nat} {mb : Nat → Nat} {σ : Nat → Nat → Int32} {t : Nat → Int32} {h : Nat → Nat → Nat → Int32} {s P E : Nat → Int32} {n : Int32} {hs : Int64} {x3 : Int32} (C : cx p s_ m #[Value.ref b] meth c code 4 RL ret D cI cS) (hX : va_X b L xv s_ s_.heap) (hbl : b < s_.heap.size) (hbA : ¬ (fun q : Nat => s_.heap.size ≤ q) b) (hi1 : vp_in (x3 + (1 : Int32)) L) (hi2 : vp_in (x3 + (2 : Int32)) L) {Rel : RelT} (hSt : St_setSizes Rel) (hRel : Rel σ t h s P E n)
    (K : ∀ (σ : Nat → Nat → Int32) (t : Nat → Int32) (h : Nat → Nat → Nat → Int32) (s P E : Nat → Int32) (n : Int32) (hs : Int64), Rel σ t h s P E n → jN p l e room_1 s_ m #[Value.ref b] below meth c 4 D (fun q : Nat => s_.heap.size ≤ q) (lw_Z below #[Value.ref b] s_) 98 3070 (wT a d o hh sl sb cI cS σ t h (wM mb cI s P E n hs [])) [some (.ref b), some (.ref o), some (.ref (mb 0)), some (.int x3)] 869 []) : jN p l e room_1 s_ m #[Value.ref b] below meth c 4 D (fun q : Nat => s_.heap.size ≤ q) (lw_Z below #[Value.ref b] s_) 98 3070 (wT a d o hh sl sb cI cS σ t h (wM mb cI s P E n hs [])) [some (.ref b), some (.ref o), some (.ref (mb 0)), some (.int x3)] 257 [] := by
  obtain ⟨rc, rm, h1, h2, heq, hR⟩ := hSt σ t h s P E n (xv (x3 + (1 : Int32)).toNatClampNeg) (xv (x3 + (2 : Int32)).toNatClampNeg) hRel
  refine j_aload_n C dL_law_257 rfl ?_
  refine j_aload_n C dL_law_258 rfl ?_
  refine j_iload_n C dL_law_259 rfl ?_
  refine j_iconst C ic_1 dL_law_260 ?_
  refine j_iadd C dL_law_261 ?_
  refine j_sld C hX hbl hbA hi1 rfl dL_law_262 ?_
  refine j_aload_n C dL_law_263 rfl ?_
  refine j_iload_n C dL_law_264 rfl ?_
  refine j_iconst C ic_2 dL_law_265 ?_
  refine j_iadd C dL_law_266 ?_
  refine j_sld C hX hbl hbA hi2 rfl dL_law_267 ?_
  refine j_callV C cl_L_27 (c_X8_setSizes h1) ⟨Nat.le_of_ble_eq_true rfl, Nat.le_of_ble_eq_true rfl⟩ ⟨Nat.le_of_ble_eq_true rfl, Nat.le_of_ble_eq_true rfl⟩ (q0 := 19) rfl rfl rfl rfl (Nat.le_of_ble_eq_true rfl) rfl rfl wT_fst dL_law_268 ?_
  refine j_aload_n C dL_law_271 rfl ?_
  refine j_aload_n C dL_law_272 rfl ?_
  refine j_iload_n C dL_law_273 rfl ?_
  refine j_iconst C ic_1 dL_law_274 ?_
  refine j_iadd C dL_law_275 ?_
  refine j_sld C hX hbl hbA hi1 rfl dL_law_276 ?_
  refine j_aload_n C dL_law_277 rfl ?_
  refine j_iload_n C dL_law_278 rfl ?_
  refine j_iconst C ic_2 dL_law_279 ?_
  refine j_iadd C dL_law_280 ?_
  refine j_sld C hX hbl hbA hi2 rfl dL_law_281 ?_
  refine j_perm perm_law ?_
  refine j_callV C cl_L_30 (c_X9_setSizes h2) ⟨Nat.le_of_ble_eq_true rfl, Nat.le_of_ble_eq_true rfl⟩ ⟨Nat.le_of_ble_eq_true rfl, Nat.le_of_ble_eq_true rfl⟩ (q0 := 0) rfl rfl rfl rfl (Nat.le_of_ble_eq_true rfl) rfl rfl wM_fst dL_law_282 ?_
  refine j_perm (ws' := (wT a d o hh sl sb cI cS rc.2.1 rc.2.2.1 rc.2.2.2 (wM mb cI rm.2.1 rm.2.2.1 rm.2.2.2.1 rm.2.2.2.2 hs []))) perm_law.symm ?_
  refine j_icmp_eq C (tgt := 869) (by decide) dL_law_285 (fun _ => ?_) (fun z => absurd heq z)
  exact K _ _ _ _ _ _ _ _ hR
def St_setLoads (Rel : RelT) : Prop := ∀ (σ : Nat → Nat → Int32) (t : Nat → Int32) (h : Nat → Nat → Nat → Int32) (s P E : Nat → Int32) (n : Int32) (x : Int32) (y : Int32), Rel σ t h s P E n → ∃ (rc : Int32 × (Nat → Nat → Int32) × (Nat → Int32) × (Nat → Nat → Nat → Int32)) (rm : Int32 × (Nat → Int32) × (Nat → Int32) × (Nat → Int32) × (Int32)), f_X8_setLoads σ t h x y = some rc ∧ f_X9_setLoads s P E n x y = some rm ∧ rc.1 = rm.1 ∧ Rel rc.2.1 rc.2.2.1 rc.2.2.2 rm.2.1 rm.2.2.1 rm.2.2.2.1 rm.2.2.2.2
set_option maxRecDepth 100000 in
set_option maxHeartbeats 4000000 in
theorem law_setLoads {p : Program} {l : Launch} {e : Env} {s_ : State} {m : MethodId} {below : List Frame} {meth : Method} {c : Code} {D : va_G} {cI cS : ClassId} {b L : Nat} {xv : Nat → Int32} {a : Nat → Nat} {d o hh sl : Nat} {sb : Nat → Nat → Nat} {mb : Nat → Nat} {σ : Nat → Nat → Int32} {t : Nat → Int32} {h : Nat → Nat → Nat → Int32} {s P E : Nat → Int32} {n : Int32} {hs : Int64} {x3 : Int32} (C : cx p s_ m #[Value.ref b] meth c code 4 RL ret D cI cS) (hX : va_X b L xv s_ s_.heap) (hbl : b < s_.heap.size) (hbA : ¬ (fun q : Nat => s_.heap.size ≤ q) b) (hi1 : vp_in (x3 + (1 : Int32)) L) (hi2 : vp_in (x3 + (2 : Int32)) L) {Rel : RelT} (hSt : St_setLoads Rel) (hRel : Rel σ t h s P E n)
    (K : ∀ (σ : Nat → Nat → Int32) (t : Nat → Int32) (h : Nat → Nat → Nat → Int32) (s P E : Nat → Int32) (n : Int32) (hs : Int64), Rel σ t h s P E n → jN p l e room_1 s_ m #[Value.ref b] below meth c 4 D (fun q : Nat => s_.heap.size ≤ q) (lw_Z below #[Value.ref b] s_) 98 3070 (wT a d o hh sl sb cI cS σ t h (wM mb cI s P E n hs [])) [some (.ref b), some (.ref o), some (.ref (mb 0)), some (.int x3)] 869 []) : jN p l e room_1 s_ m #[Value.ref b] below meth c 4 D (fun q : Nat => s_.heap.size ≤ q) (lw_Z below #[Value.ref b] s_) 98 3070 (wT a d o hh sl sb cI cS σ t h (wM mb cI s P E n hs [])) [some (.ref b), some (.ref o), some (.ref (mb 0)), some (.int x3)] 290 [] := by
  obtain ⟨rc, rm, h1, h2, heq, hR⟩ := hSt σ t h s P E n (xv (x3 + (1 : Int32)).toNatClampNeg) (xv (x3 + (2 : Int32)).toNatClampNeg) hRel
  refine j_aload_n C dL_law_290 rfl ?_
  refine j_aload_n C dL_law_291 rfl ?_
  refine j_iload_n C dL_law_292 rfl ?_
  refine j_iconst C ic_1 dL_law_293 ?_
  refine j_iadd C dL_law_294 ?_
  refine j_sld C hX hbl hbA hi1 rfl dL_law_295 ?_
  refine j_aload_n C dL_law_296 rfl ?_
  refine j_iload_n C dL_law_297 rfl ?_
  refine j_iconst C ic_2 dL_law_298 ?_
  refine j_iadd C dL_law_299 ?_
  refine j_sld C hX hbl hbA hi2 rfl dL_law_300 ?_
  refine j_callV C cl_L_31 (c_X8_setLoads h1) ⟨Nat.le_of_ble_eq_true rfl, Nat.le_of_ble_eq_true rfl⟩ ⟨Nat.le_of_ble_eq_true rfl, Nat.le_of_ble_eq_true rfl⟩ (q0 := 19) rfl rfl rfl rfl (Nat.le_of_ble_eq_true rfl) rfl rfl wT_fst dL_law_301 ?_
  refine j_aload_n C dL_law_304 rfl ?_
  refine j_aload_n C dL_law_305 rfl ?_
  refine j_iload_n C dL_law_306 rfl ?_
  refine j_iconst C ic_1 dL_law_307 ?_
  refine j_iadd C dL_law_308 ?_
  refine j_sld C hX hbl hbA hi1 rfl dL_law_309 ?_
  refine j_aload_n C dL_law_310 rfl ?_
  refine j_iload_n C dL_law_311 rfl ?_
  refine j_iconst C ic_2 dL_law_312 ?_
  refine j_iadd C dL_law_313 ?_
  refine j_sld C hX hbl hbA hi2 rfl dL_law_314 ?_
  refine j_perm perm_law ?_
  refine j_callV C cl_L_34 (c_X9_setLoads h2) ⟨Nat.le_of_ble_eq_true rfl, Nat.le_of_ble_eq_true rfl⟩ ⟨Nat.le_of_ble_eq_true rfl, Nat.le_of_ble_eq_true rfl⟩ (q0 := 0) rfl rfl rfl rfl (Nat.le_of_ble_eq_true rfl) rfl rfl wM_fst dL_law_315 ?_
  refine j_perm (ws' := (wT a d o hh sl sb cI cS rc.2.1 rc.2.2.1 rc.2.2.2 (wM mb cI rm.2.1 rm.2.2.1 rm.2.2.2.1 rm.2.2.2.2 hs []))) perm_law.symm ?_
  refine j_icmp_eq C (tgt := 869) (by decide) dL_law_318 (fun _ => ?_) (fun z => absurd heq z)
  exact K _ _ _ _ _ _ _ _ hR
def St_setSpeed (Rel : RelT) : Prop := ∀ (σ : Nat → Nat → Int32) (t : Nat → Int32) (h : Nat → Nat → Nat → Int32) (s P E : Nat → Int32) (n : Int32) (x : Int32), Rel σ t h s P E n → ∃ (rc : Int32 × (Nat → Nat → Int32) × (Nat → Int32) × (Nat → Nat → Nat → Int32)) (rm : Int32 × (Nat → Int32) × (Nat → Int32) × (Nat → Int32) × (Int32)), f_X8_setSpeed σ t h x = some rc ∧ f_X9_setSpeed s P E n x = some rm ∧ rc.1 = rm.1 ∧ Rel rc.2.1 rc.2.2.1 rc.2.2.2 rm.2.1 rm.2.2.1 rm.2.2.2.1 rm.2.2.2.2
set_option maxRecDepth 100000 in
set_option maxHeartbeats 4000000 in
theorem law_setSpeed {p : Program} {l : Launch} {e : Env} {s_ : State} {m : MethodId} {below : List Frame} {meth : Method} {c : Code} {D : va_G} {cI cS : ClassId} {b L : Nat} {xv : Nat → Int32} {a : Nat → Nat} {d o hh sl : Nat} {sb : Nat → Nat → Nat} {mb : Nat → Nat} {σ : Nat → Nat → Int32} {t : Nat → Int32} {h : Nat → Nat → Nat → Int32} {s P E : Nat → Int32} {n : Int32} {hs : Int64} {x3 : Int32} (C : cx p s_ m #[Value.ref b] meth c code 4 RL ret D cI cS) (hX : va_X b L xv s_ s_.heap) (hbl : b < s_.heap.size) (hbA : ¬ (fun q : Nat => s_.heap.size ≤ q) b) (hi1 : vp_in (x3 + (1 : Int32)) L) (hi2 : vp_in (x3 + (2 : Int32)) L) {Rel : RelT} (hSt : St_setSpeed Rel) (hRel : Rel σ t h s P E n)
    (K : ∀ (σ : Nat → Nat → Int32) (t : Nat → Int32) (h : Nat → Nat → Nat → Int32) (s P E : Nat → Int32) (n : Int32) (hs : Int64), Rel σ t h s P E n → jN p l e room_1 s_ m #[Value.ref b] below meth c 4 D (fun q : Nat => s_.heap.size ≤ q) (lw_Z below #[Value.ref b] s_) 98 3070 (wT a d o hh sl sb cI cS σ t h (wM mb cI s P E n hs [])) [some (.ref b), some (.ref o), some (.ref (mb 0)), some (.int x3)] 869 []) : jN p l e room_1 s_ m #[Value.ref b] below meth c 4 D (fun q : Nat => s_.heap.size ≤ q) (lw_Z below #[Value.ref b] s_) 98 3070 (wT a d o hh sl sb cI cS σ t h (wM mb cI s P E n hs [])) [some (.ref b), some (.ref o), some (.ref (mb 0)), some (.int x3)] 323 [] := by
  obtain ⟨rc, rm, h1, h2, heq, hR⟩ := hSt σ t h s P E n (xv (x3 + (1 : Int32)).toNatClampNeg) hRel
  refine j_aload_n C dL_law_323 rfl ?_
  refine j_aload_n C dL_law_324 rfl ?_
  refine j_iload_n C dL_law_325 rfl ?_
  refine j_iconst C ic_1 dL_law_326 ?_
  refine j_iadd C dL_law_327 ?_
  refine j_sld C hX hbl hbA hi1 rfl dL_law_328 ?_
  refine j_callV C cl_L_35 (c_X8_setSpeed h1) ⟨Nat.le_of_ble_eq_true rfl, Nat.le_of_ble_eq_true rfl⟩ ⟨Nat.le_of_ble_eq_true rfl, Nat.le_of_ble_eq_true rfl⟩ (q0 := 19) rfl rfl rfl rfl (Nat.le_of_ble_eq_true rfl) rfl rfl wT_fst dL_law_329 ?_
  refine j_aload_n C dL_law_332 rfl ?_
  refine j_aload_n C dL_law_333 rfl ?_
  refine j_iload_n C dL_law_334 rfl ?_
  refine j_iconst C ic_1 dL_law_335 ?_
  refine j_iadd C dL_law_336 ?_
  refine j_sld C hX hbl hbA hi1 rfl dL_law_337 ?_
  refine j_perm perm_law ?_
  refine j_callV C cl_L_38 (c_X9_setSpeed h2) ⟨Nat.le_of_ble_eq_true rfl, Nat.le_of_ble_eq_true rfl⟩ ⟨Nat.le_of_ble_eq_true rfl, Nat.le_of_ble_eq_true rfl⟩ (q0 := 0) rfl rfl rfl rfl (Nat.le_of_ble_eq_true rfl) rfl rfl wM_fst dL_law_338 ?_
  refine j_perm (ws' := (wT a d o hh sl sb cI cS rc.2.1 rc.2.2.1 rc.2.2.2 (wM mb cI rm.2.1 rm.2.2.1 rm.2.2.2.1 rm.2.2.2.2 hs []))) perm_law.symm ?_
  refine j_icmp_eq C (tgt := 869) (by decide) dL_law_341 (fun _ => ?_) (fun z => absurd heq z)
  exact K _ _ _ _ _ _ _ _ hR
def St_put (Rel : RelT) : Prop := ∀ (σ : Nat → Nat → Int32) (t : Nat → Int32) (h : Nat → Nat → Nat → Int32) (s P E : Nat → Int32) (n : Int32) (x : Int32) (y : Int32), Rel σ t h s P E n → ∃ (rc : Int32 × (Nat → Nat → Int32) × (Nat → Int32) × (Nat → Nat → Nat → Int32)) (rm : Int32 × (Nat → Int32) × (Nat → Int32) × (Nat → Int32) × (Int32)), f_X8_put σ t h x y = some rc ∧ f_X9_put s P E n x y = some rm ∧ rc.1 = rm.1 ∧ Rel rc.2.1 rc.2.2.1 rc.2.2.2 rm.2.1 rm.2.2.1 rm.2.2.2.1 rm.2.2.2.2
set_option maxRecDepth 100000 in
set_option maxHeartbeats 4000000 in
theorem law_put {p : Program} {l : Launch} {e : Env} {s_ : State} {m : MethodId} {below : List Frame} {meth : Method} {c : Code} {D : va_G} {cI cS : ClassId} {b L : Nat} {xv : Nat → Int32} {a : Nat → Nat} {d o hh sl : Nat} {sb : Nat → Nat → Nat} {mb : Nat → Nat} {σ : Nat → Nat → Int32} {t : Nat → Int32} {h : Nat → Nat → Nat → Int32} {s P E : Nat → Int32} {n : Int32} {hs : Int64} {x3 : Int32} (C : cx p s_ m #[Value.ref b] meth c code 4 RL ret D cI cS) (hX : va_X b L xv s_ s_.heap) (hbl : b < s_.heap.size) (hbA : ¬ (fun q : Nat => s_.heap.size ≤ q) b) (hi1 : vp_in (x3 + (1 : Int32)) L) (hi2 : vp_in (x3 + (2 : Int32)) L) {Rel : RelT} (hSt : St_put Rel) (hRel : Rel σ t h s P E n)
    (K : ∀ (σ : Nat → Nat → Int32) (t : Nat → Int32) (h : Nat → Nat → Nat → Int32) (s P E : Nat → Int32) (n : Int32) (hs : Int64), Rel σ t h s P E n → jN p l e room_1 s_ m #[Value.ref b] below meth c 4 D (fun q : Nat => s_.heap.size ≤ q) (lw_Z below #[Value.ref b] s_) 98 3070 (wT a d o hh sl sb cI cS σ t h (wM mb cI s P E n hs [])) [some (.ref b), some (.ref o), some (.ref (mb 0)), some (.int x3)] 869 []) : jN p l e room_1 s_ m #[Value.ref b] below meth c 4 D (fun q : Nat => s_.heap.size ≤ q) (lw_Z below #[Value.ref b] s_) 98 3070 (wT a d o hh sl sb cI cS σ t h (wM mb cI s P E n hs [])) [some (.ref b), some (.ref o), some (.ref (mb 0)), some (.int x3)] 346 [] := by
  obtain ⟨rc, rm, h1, h2, heq, hR⟩ := hSt σ t h s P E n (xv (x3 + (1 : Int32)).toNatClampNeg) (xv (x3 + (2 : Int32)).toNatClampNeg) hRel
  refine j_aload_n C dL_law_346 rfl ?_
  refine j_aload_n C dL_law_347 rfl ?_
  refine j_iload_n C dL_law_348 rfl ?_
  refine j_iconst C ic_1 dL_law_349 ?_
  refine j_iadd C dL_law_350 ?_
  refine j_sld C hX hbl hbA hi1 rfl dL_law_351 ?_
  refine j_aload_n C dL_law_352 rfl ?_
  refine j_iload_n C dL_law_353 rfl ?_
  refine j_iconst C ic_2 dL_law_354 ?_
  refine j_iadd C dL_law_355 ?_
  refine j_sld C hX hbl hbA hi2 rfl dL_law_356 ?_
  refine j_callV C cl_L_39 (c_X8_put h1) ⟨Nat.le_of_ble_eq_true rfl, Nat.le_of_ble_eq_true rfl⟩ ⟨Nat.le_of_ble_eq_true rfl, Nat.le_of_ble_eq_true rfl⟩ (q0 := 19) rfl rfl rfl rfl (Nat.le_of_ble_eq_true rfl) rfl rfl wT_fst dL_law_357 ?_
  refine j_aload_n C dL_law_360 rfl ?_
  refine j_aload_n C dL_law_361 rfl ?_
  refine j_iload_n C dL_law_362 rfl ?_
  refine j_iconst C ic_1 dL_law_363 ?_
  refine j_iadd C dL_law_364 ?_
  refine j_sld C hX hbl hbA hi1 rfl dL_law_365 ?_
  refine j_aload_n C dL_law_366 rfl ?_
  refine j_iload_n C dL_law_367 rfl ?_
  refine j_iconst C ic_2 dL_law_368 ?_
  refine j_iadd C dL_law_369 ?_
  refine j_sld C hX hbl hbA hi2 rfl dL_law_370 ?_
  refine j_perm perm_law ?_
  refine j_callV C cl_L_42 (c_X9_put h2) ⟨Nat.le_of_ble_eq_true rfl, Nat.le_of_ble_eq_true rfl⟩ ⟨Nat.le_of_ble_eq_true rfl, Nat.le_of_ble_eq_true rfl⟩ (q0 := 0) rfl rfl rfl rfl (Nat.le_of_ble_eq_true rfl) rfl rfl wM_fst dL_law_371 ?_
  refine j_perm (ws' := (wT a d o hh sl sb cI cS rc.2.1 rc.2.2.1 rc.2.2.2 (wM mb cI rm.2.1 rm.2.2.1 rm.2.2.2.1 rm.2.2.2.2 hs []))) perm_law.symm ?_
  refine j_icmp_eq C (tgt := 869) (by decide) dL_law_374 (fun _ => ?_) (fun z => absurd heq z)
  exact K _ _ _ _ _ _ _ _ hR
def St_remove (Rel : RelT) : Prop := ∀ (σ : Nat → Nat → Int32) (t : Nat → Int32) (h : Nat → Nat → Nat → Int32) (s P E : Nat → Int32) (n : Int32) (x : Int32), Rel σ t h s P E n → ∃ (rc : Int32 × (Nat → Nat → Int32) × (Nat → Int32) × (Nat → Nat → Nat → Int32)) (rm : Int32 × (Nat → Int32) × (Nat → Int32) × (Nat → Int32) × (Int32)), f_X8_remove σ t h x = some rc ∧ f_X9_remove s P E n x = some rm ∧ rc.1 = rm.1 ∧ Rel rc.2.1 rc.2.2.1 rc.2.2.2 rm.2.1 rm.2.2.1 rm.2.2.2.1 rm.2.2.2.2
set_option maxRecDepth 100000 in
set_option maxHeartbeats 4000000 in
theorem law_remove {p : Program} {l : Launch} {e : Env} {s_ : State} {m : MethodId} {below : List Frame} {meth : Method} {c : Code} {D : va_G} {cI cS : ClassId} {b L : Nat} {xv : Nat → Int32} {a : Nat → Nat} {d o hh sl : Nat} {sb : Nat → Nat → Nat} {mb : Nat → Nat} {σ : Nat → Nat → Int32} {t : Nat → Int32} {h : Nat → Nat → Nat → Int32} {s P E : Nat → Int32} {n : Int32} {hs : Int64} {x3 : Int32} (C : cx p s_ m #[Value.ref b] meth c code 4 RL ret D cI cS) (hX : va_X b L xv s_ s_.heap) (hbl : b < s_.heap.size) (hbA : ¬ (fun q : Nat => s_.heap.size ≤ q) b) (hi1 : vp_in (x3 + (1 : Int32)) L) (hi2 : vp_in (x3 + (2 : Int32)) L) {Rel : RelT} (hSt : St_remove Rel) (hRel : Rel σ t h s P E n)
    (K : ∀ (σ : Nat → Nat → Int32) (t : Nat → Int32) (h : Nat → Nat → Nat → Int32) (s P E : Nat → Int32) (n : Int32) (hs : Int64), Rel σ t h s P E n → jN p l e room_1 s_ m #[Value.ref b] below meth c 4 D (fun q : Nat => s_.heap.size ≤ q) (lw_Z below #[Value.ref b] s_) 98 3070 (wT a d o hh sl sb cI cS σ t h (wM mb cI s P E n hs [])) [some (.ref b), some (.ref o), some (.ref (mb 0)), some (.int x3)] 869 []) : jN p l e room_1 s_ m #[Value.ref b] below meth c 4 D (fun q : Nat => s_.heap.size ≤ q) (lw_Z below #[Value.ref b] s_) 98 3070 (wT a d o hh sl sb cI cS σ t h (wM mb cI s P E n hs [])) [some (.ref b), some (.ref o), some (.ref (mb 0)), some (.int x3)] 379 [] := by
  obtain ⟨rc, rm, h1, h2, heq, hR⟩ := hSt σ t h s P E n (xv (x3 + (1 : Int32)).toNatClampNeg) hRel
  refine j_aload_n C dL_law_379 rfl ?_
  refine j_aload_n C dL_law_380 rfl ?_
  refine j_iload_n C dL_law_381 rfl ?_
  refine j_iconst C ic_1 dL_law_382 ?_
  refine j_iadd C dL_law_383 ?_
  refine j_sld C hX hbl hbA hi1 rfl dL_law_384 ?_
  refine j_callV C cl_L_43 (c_X8_remove h1) ⟨Nat.le_of_ble_eq_true rfl, Nat.le_of_ble_eq_true rfl⟩ ⟨Nat.le_of_ble_eq_true rfl, Nat.le_of_ble_eq_true rfl⟩ (q0 := 19) rfl rfl rfl rfl (Nat.le_of_ble_eq_true rfl) rfl rfl wT_fst dL_law_385 ?_
  refine j_aload_n C dL_law_388 rfl ?_
  refine j_aload_n C dL_law_389 rfl ?_
  refine j_iload_n C dL_law_390 rfl ?_
  refine j_iconst C ic_1 dL_law_391 ?_
  refine j_iadd C dL_law_392 ?_
  refine j_sld C hX hbl hbA hi1 rfl dL_law_393 ?_
  refine j_perm perm_law ?_
  refine j_callV C cl_L_46 (c_X9_remove h2) ⟨Nat.le_of_ble_eq_true rfl, Nat.le_of_ble_eq_true rfl⟩ ⟨Nat.le_of_ble_eq_true rfl, Nat.le_of_ble_eq_true rfl⟩ (q0 := 0) rfl rfl rfl rfl (Nat.le_of_ble_eq_true rfl) rfl rfl wM_fst dL_law_394 ?_
  refine j_perm (ws' := (wT a d o hh sl sb cI cS rc.2.1 rc.2.2.1 rc.2.2.2 (wM mb cI rm.2.1 rm.2.2.1 rm.2.2.2.1 rm.2.2.2.2 hs []))) perm_law.symm ?_
  refine j_icmp_eq C (tgt := 869) (by decide) dL_law_397 (fun _ => ?_) (fun z => absurd heq z)
  exact K _ _ _ _ _ _ _ _ hR
def St_access (Rel : RelT) : Prop := ∀ (σ : Nat → Nat → Int32) (t : Nat → Int32) (h : Nat → Nat → Nat → Int32) (s P E : Nat → Int32) (n : Int32) (x : Int32), Rel σ t h s P E n → ∃ (rc : Int32 × (Nat → Nat → Int32) × (Nat → Int32) × (Nat → Nat → Nat → Int32)) (rm : Int32 × (Nat → Int32) × (Nat → Int32) × (Nat → Int32) × (Int32)), f_X8_access σ t h x = some rc ∧ f_X9_access s P E n x = some rm ∧ rc.1 = rm.1 ∧ Rel rc.2.1 rc.2.2.1 rc.2.2.2 rm.2.1 rm.2.2.1 rm.2.2.2.1 rm.2.2.2.2
set_option maxRecDepth 100000 in
set_option maxHeartbeats 4000000 in
theorem law_access {p : Program} {l : Launch} {e : Env} {s_ : State} {m : MethodId} {below : List Frame} {meth : Method} {c : Code} {D : va_G} {cI cS : ClassId} {b L : Nat} {xv : Nat → Int32} {a : Nat → Nat} {d o hh sl : Nat} {sb : Nat → Nat → Nat} {mb : Nat → Nat} {σ : Nat → Nat → Int32} {t : Nat → Int32} {h : Nat → Nat → Nat → Int32} {s P E : Nat → Int32} {n : Int32} {hs : Int64} {x3 : Int32} (C : cx p s_ m #[Value.ref b] meth c code 4 RL ret D cI cS) (hX : va_X b L xv s_ s_.heap) (hbl : b < s_.heap.size) (hbA : ¬ (fun q : Nat => s_.heap.size ≤ q) b) (hi1 : vp_in (x3 + (1 : Int32)) L) (hi2 : vp_in (x3 + (2 : Int32)) L) {Rel : RelT} (hSt : St_access Rel) (hRel : Rel σ t h s P E n)
    (K : ∀ (σ : Nat → Nat → Int32) (t : Nat → Int32) (h : Nat → Nat → Nat → Int32) (s P E : Nat → Int32) (n : Int32) (hs : Int64), Rel σ t h s P E n → jN p l e room_1 s_ m #[Value.ref b] below meth c 4 D (fun q : Nat => s_.heap.size ≤ q) (lw_Z below #[Value.ref b] s_) 98 3070 (wT a d o hh sl sb cI cS σ t h (wM mb cI s P E n hs [])) [some (.ref b), some (.ref o), some (.ref (mb 0)), some (.int x3)] 869 []) : jN p l e room_1 s_ m #[Value.ref b] below meth c 4 D (fun q : Nat => s_.heap.size ≤ q) (lw_Z below #[Value.ref b] s_) 98 3070 (wT a d o hh sl sb cI cS σ t h (wM mb cI s P E n hs [])) [some (.ref b), some (.ref o), some (.ref (mb 0)), some (.int x3)] 402 [] := by
  obtain ⟨rc, rm, h1, h2, heq, hR⟩ := hSt σ t h s P E n (xv (x3 + (1 : Int32)).toNatClampNeg) hRel
  refine j_aload_n C dL_law_402 rfl ?_
  refine j_aload_n C dL_law_403 rfl ?_
  refine j_iload_n C dL_law_404 rfl ?_
  refine j_iconst C ic_1 dL_law_405 ?_
  refine j_iadd C dL_law_406 ?_
  refine j_sld C hX hbl hbA hi1 rfl dL_law_407 ?_
  refine j_callV C cl_L_47 (c_X8_access h1) ⟨Nat.le_of_ble_eq_true rfl, Nat.le_of_ble_eq_true rfl⟩ ⟨Nat.le_of_ble_eq_true rfl, Nat.le_of_ble_eq_true rfl⟩ (q0 := 19) rfl rfl rfl rfl (Nat.le_of_ble_eq_true rfl) rfl rfl wT_fst dL_law_408 ?_
  refine j_aload_n C dL_law_411 rfl ?_
  refine j_aload_n C dL_law_412 rfl ?_
  refine j_iload_n C dL_law_413 rfl ?_
  refine j_iconst C ic_1 dL_law_414 ?_
  refine j_iadd C dL_law_415 ?_
  refine j_sld C hX hbl hbA hi1 rfl dL_law_416 ?_
  refine j_perm perm_law ?_
  refine j_callV C cl_L_50 (c_X9_access h2) ⟨Nat.le_of_ble_eq_true rfl, Nat.le_of_ble_eq_true rfl⟩ ⟨Nat.le_of_ble_eq_true rfl, Nat.le_of_ble_eq_true rfl⟩ (q0 := 0) rfl rfl rfl rfl (Nat.le_of_ble_eq_true rfl) rfl rfl wM_fst dL_law_417 ?_
  refine j_perm (ws' := (wT a d o hh sl sb cI cS rc.2.1 rc.2.2.1 rc.2.2.2 (wM mb cI rm.2.1 rm.2.2.1 rm.2.2.2.1 rm.2.2.2.2 hs []))) perm_law.symm ?_
  refine j_icmp_eq C (tgt := 869) (by decide) dL_law_420 (fun _ => ?_) (fun z => absurd heq z)
  exact K _ _ _ _ _ _ _ _ hR
def St_splitAt (Rel : RelT) : Prop := ∀ (σ : Nat → Nat → Int32) (t : Nat → Int32) (h : Nat → Nat → Nat → Int32) (s P E : Nat → Int32) (n : Int32) (x : Int32), Rel σ t h s P E n → ∃ (rc : Int32 × (Nat → Nat → Int32) × (Nat → Int32) × (Nat → Nat → Nat → Int32)) (rm : Int32 × (Nat → Int32) × (Nat → Int32) × (Nat → Int32) × (Int32)), f_X8_splitAt σ t h x = some rc ∧ f_X9_splitAt s P E n x = some rm ∧ rc.1 = rm.1 ∧ Rel rc.2.1 rc.2.2.1 rc.2.2.2 rm.2.1 rm.2.2.1 rm.2.2.2.1 rm.2.2.2.2
set_option maxRecDepth 100000 in
set_option maxHeartbeats 4000000 in
theorem law_splitAt {p : Program} {l : Launch} {e : Env} {s_ : State} {m : MethodId} {below : List Frame} {meth : Method} {c : Code} {D : va_G} {cI cS : ClassId} {b L : Nat} {xv : Nat → Int32} {a : Nat → Nat} {d o hh sl : Nat} {sb : Nat → Nat → Nat} {mb : Nat → Nat} {σ : Nat → Nat → Int32} {t : Nat → Int32} {h : Nat → Nat → Nat → Int32} {s P E : Nat → Int32} {n : Int32} {hs : Int64} {x3 : Int32} (C : cx p s_ m #[Value.ref b] meth c code 4 RL ret D cI cS) (hX : va_X b L xv s_ s_.heap) (hbl : b < s_.heap.size) (hbA : ¬ (fun q : Nat => s_.heap.size ≤ q) b) (hi1 : vp_in (x3 + (1 : Int32)) L) (hi2 : vp_in (x3 + (2 : Int32)) L) {Rel : RelT} (hSt : St_splitAt Rel) (hRel : Rel σ t h s P E n)
    (K : ∀ (σ : Nat → Nat → Int32) (t : Nat → Int32) (h : Nat → Nat → Nat → Int32) (s P E : Nat → Int32) (n : Int32) (hs : Int64), Rel σ t h s P E n → jN p l e room_1 s_ m #[Value.ref b] below meth c 4 D (fun q : Nat => s_.heap.size ≤ q) (lw_Z below #[Value.ref b] s_) 98 3070 (wT a d o hh sl sb cI cS σ t h (wM mb cI s P E n hs [])) [some (.ref b), some (.ref o), some (.ref (mb 0)), some (.int x3)] 869 []) : jN p l e room_1 s_ m #[Value.ref b] below meth c 4 D (fun q : Nat => s_.heap.size ≤ q) (lw_Z below #[Value.ref b] s_) 98 3070 (wT a d o hh sl sb cI cS σ t h (wM mb cI s P E n hs [])) [some (.ref b), some (.ref o), some (.ref (mb 0)), some (.int x3)] 425 [] := by
  obtain ⟨rc, rm, h1, h2, heq, hR⟩ := hSt σ t h s P E n (xv (x3 + (1 : Int32)).toNatClampNeg) hRel
  refine j_aload_n C dL_law_425 rfl ?_
  refine j_aload_n C dL_law_426 rfl ?_
  refine j_iload_n C dL_law_427 rfl ?_
  refine j_iconst C ic_1 dL_law_428 ?_
  refine j_iadd C dL_law_429 ?_
  refine j_sld C hX hbl hbA hi1 rfl dL_law_430 ?_
  refine j_callV C cl_L_51 (c_X8_splitAt h1) ⟨Nat.le_of_ble_eq_true rfl, Nat.le_of_ble_eq_true rfl⟩ ⟨Nat.le_of_ble_eq_true rfl, Nat.le_of_ble_eq_true rfl⟩ (q0 := 19) rfl rfl rfl rfl (Nat.le_of_ble_eq_true rfl) rfl rfl wT_fst dL_law_431 ?_
  refine j_aload_n C dL_law_434 rfl ?_
  refine j_aload_n C dL_law_435 rfl ?_
  refine j_iload_n C dL_law_436 rfl ?_
  refine j_iconst C ic_1 dL_law_437 ?_
  refine j_iadd C dL_law_438 ?_
  refine j_sld C hX hbl hbA hi1 rfl dL_law_439 ?_
  refine j_perm perm_law ?_
  refine j_callV C cl_L_54 (c_X9_splitAt h2) ⟨Nat.le_of_ble_eq_true rfl, Nat.le_of_ble_eq_true rfl⟩ ⟨Nat.le_of_ble_eq_true rfl, Nat.le_of_ble_eq_true rfl⟩ (q0 := 0) rfl rfl rfl rfl (Nat.le_of_ble_eq_true rfl) rfl rfl wM_fst dL_law_440 ?_
  refine j_perm (ws' := (wT a d o hh sl sb cI cS rc.2.1 rc.2.2.1 rc.2.2.2 (wM mb cI rm.2.1 rm.2.2.1 rm.2.2.2.1 rm.2.2.2.2 hs []))) perm_law.symm ?_
  refine j_icmp_eq C (tgt := 869) (by decide) dL_law_443 (fun _ => ?_) (fun z => absurd heq z)
  exact K _ _ _ _ _ _ _ _ hR
def St_sizeOf (Rel : RelT) : Prop := ∀ (σ : Nat → Nat → Int32) (t : Nat → Int32) (h : Nat → Nat → Nat → Int32) (s P E : Nat → Int32) (n : Int32) (x : Int32), Rel σ t h s P E n → ∃ (rc : Int32 × (Nat → Int32)) (rm : Int32 × (Nat → Int32)), f_X8_sizeOf σ t h x = some rc ∧ f_X9_sizeOf s E x = some rm ∧ rc.1 = rm.1 ∧ Rel σ rc.2 h s P rm.2 n
set_option maxRecDepth 100000 in
set_option maxHeartbeats 4000000 in
theorem law_sizeOf {p : Program} {l : Launch} {e : Env} {s_ : State} {m : MethodId} {below : List Frame} {meth : Method} {c : Code} {D : va_G} {cI cS : ClassId} {b L : Nat} {xv : Nat → Int32} {a : Nat → Nat} {d o hh sl : Nat} {sb : Nat → Nat → Nat} {mb : Nat → Nat} {σ : Nat → Nat → Int32} {t : Nat → Int32} {h : Nat → Nat → Nat → Int32} {s P E : Nat → Int32} {n : Int32} {hs : Int64} {x3 : Int32} (C : cx p s_ m #[Value.ref b] meth c code 4 RL ret D cI cS) (hX : va_X b L xv s_ s_.heap) (hbl : b < s_.heap.size) (hbA : ¬ (fun q : Nat => s_.heap.size ≤ q) b) (hi1 : vp_in (x3 + (1 : Int32)) L) (hi2 : vp_in (x3 + (2 : Int32)) L) {Rel : RelT} (hSt : St_sizeOf Rel) (hRel : Rel σ t h s P E n)
    (K : ∀ (σ : Nat → Nat → Int32) (t : Nat → Int32) (h : Nat → Nat → Nat → Int32) (s P E : Nat → Int32) (n : Int32) (hs : Int64), Rel σ t h s P E n → jN p l e room_1 s_ m #[Value.ref b] below meth c 4 D (fun q : Nat => s_.heap.size ≤ q) (lw_Z below #[Value.ref b] s_) 98 3070 (wT a d o hh sl sb cI cS σ t h (wM mb cI s P E n hs [])) [some (.ref b), some (.ref o), some (.ref (mb 0)), some (.int x3)] 869 []) : jN p l e room_1 s_ m #[Value.ref b] below meth c 4 D (fun q : Nat => s_.heap.size ≤ q) (lw_Z below #[Value.ref b] s_) 98 3070 (wT a d o hh sl sb cI cS σ t h (wM mb cI s P E n hs [])) [some (.ref b), some (.ref o), some (.ref (mb 0)), some (.int x3)] 448 [] := by
  obtain ⟨rc, rm, h1, h2, heq, hR⟩ := hSt σ t h s P E n (xv (x3 + (1 : Int32)).toNatClampNeg) hRel
  refine j_aload_n C dL_law_448 rfl ?_
  refine j_aload_n C dL_law_449 rfl ?_
  refine j_iload_n C dL_law_450 rfl ?_
  refine j_iconst C ic_1 dL_law_451 ?_
  refine j_iadd C dL_law_452 ?_
  refine j_sld C hX hbl hbA hi1 rfl dL_law_453 ?_
  refine j_callV C cl_L_55 (c_X8_sizeOf h1) ⟨Nat.le_of_ble_eq_true rfl, Nat.le_of_ble_eq_true rfl⟩ ⟨Nat.le_of_ble_eq_true rfl, Nat.le_of_ble_eq_true rfl⟩ (q0 := 19) rfl rfl rfl rfl (Nat.le_of_ble_eq_true rfl) rfl rfl wT_fst dL_law_454 ?_
  refine j_aload_n C dL_law_457 rfl ?_
  refine j_aload_n C dL_law_458 rfl ?_
  refine j_iload_n C dL_law_459 rfl ?_
  refine j_iconst C ic_1 dL_law_460 ?_
  refine j_iadd C dL_law_461 ?_
  refine j_sld C hX hbl hbA hi1 rfl dL_law_462 ?_
  refine j_perm perm_law ?_
  refine j_callV C cl_L_58 (c_X9_sizeOf h2) ⟨Nat.le_of_ble_eq_true rfl, Nat.le_of_ble_eq_true rfl⟩ ⟨Nat.le_of_ble_eq_true rfl, Nat.le_of_ble_eq_true rfl⟩ (q0 := 0) rfl rfl rfl rfl (Nat.le_of_ble_eq_true rfl) rfl rfl wM_fst dL_law_463 ?_
  refine j_perm (ws' := (wT a d o hh sl sb cI cS σ rc.2 h (wM mb cI s P rm.2 n hs []))) perm_law.symm ?_
  refine j_icmp_eq C (tgt := 869) (by decide) dL_law_466 (fun _ => ?_) (fun z => absurd heq z)
  exact K _ _ _ _ _ _ _ _ hR
def St_tick (Rel : RelT) : Prop := ∀ (σ : Nat → Nat → Int32) (t : Nat → Int32) (h : Nat → Nat → Nat → Int32) (s P E : Nat → Int32) (n : Int32), Rel σ t h s P E n → ∃ (rc : Int32 × (Nat → Nat → Int32) × (Nat → Int32) × (Nat → Nat → Nat → Int32)) (rm : Int32 × (Nat → Int32) × (Nat → Int32) × (Int32)), f_X8_tick σ t h = some rc ∧ f_X9_tick s P n = some rm ∧ rc.1 = rm.1 ∧ Rel rc.2.1 rc.2.2.1 rc.2.2.2 rm.2.1 rm.2.2.1 E rm.2.2.2
set_option maxRecDepth 100000 in
set_option maxHeartbeats 4000000 in
theorem law_tick {p : Program} {l : Launch} {e : Env} {s_ : State} {m : MethodId} {below : List Frame} {meth : Method} {c : Code} {D : va_G} {cI cS : ClassId} {b L : Nat} {xv : Nat → Int32} {a : Nat → Nat} {d o hh sl : Nat} {sb : Nat → Nat → Nat} {mb : Nat → Nat} {σ : Nat → Nat → Int32} {t : Nat → Int32} {h : Nat → Nat → Nat → Int32} {s P E : Nat → Int32} {n : Int32} {hs : Int64} {x3 : Int32} (C : cx p s_ m #[Value.ref b] meth c code 4 RL ret D cI cS) (hX : va_X b L xv s_ s_.heap) (hbl : b < s_.heap.size) (hbA : ¬ (fun q : Nat => s_.heap.size ≤ q) b) (hi1 : vp_in (x3 + (1 : Int32)) L) (hi2 : vp_in (x3 + (2 : Int32)) L) {Rel : RelT} (hSt : St_tick Rel) (hRel : Rel σ t h s P E n)
    (K : ∀ (σ : Nat → Nat → Int32) (t : Nat → Int32) (h : Nat → Nat → Nat → Int32) (s P E : Nat → Int32) (n : Int32) (hs : Int64), Rel σ t h s P E n → jN p l e room_1 s_ m #[Value.ref b] below meth c 4 D (fun q : Nat => s_.heap.size ≤ q) (lw_Z below #[Value.ref b] s_) 98 3070 (wT a d o hh sl sb cI cS σ t h (wM mb cI s P E n hs [])) [some (.ref b), some (.ref o), some (.ref (mb 0)), some (.int x3)] 869 []) : jN p l e room_1 s_ m #[Value.ref b] below meth c 4 D (fun q : Nat => s_.heap.size ≤ q) (lw_Z below #[Value.ref b] s_) 98 3070 (wT a d o hh sl sb cI cS σ t h (wM mb cI s P E n hs [])) [some (.ref b), some (.ref o), some (.ref (mb 0)), some (.int x3)] 471 [] := by
  obtain ⟨rc, rm, h1, h2, heq, hR⟩ := hSt σ t h s P E n  hRel
  refine j_aload_n C dL_law_471 rfl ?_
  refine j_callV C cl_L_59 (c_X8_tick h1) ⟨Nat.le_of_ble_eq_true rfl, Nat.le_of_ble_eq_true rfl⟩ ⟨Nat.le_of_ble_eq_true rfl, Nat.le_of_ble_eq_true rfl⟩ (q0 := 19) rfl rfl rfl rfl (Nat.le_of_ble_eq_true rfl) rfl rfl wT_fst dL_law_472 ?_
  refine j_aload_n C dL_law_475 rfl ?_
  refine j_perm perm_law ?_
  refine j_callV C cl_L_63 (c_X9_tick h2) ⟨Nat.le_of_ble_eq_true rfl, Nat.le_of_ble_eq_true rfl⟩ ⟨Nat.le_of_ble_eq_true rfl, Nat.le_of_ble_eq_true rfl⟩ (q0 := 0) rfl rfl rfl rfl (Nat.le_of_ble_eq_true rfl) rfl rfl wM_fst dL_law_476 ?_
  refine j_perm (ws' := (wT a d o hh sl sb cI cS rc.2.1 rc.2.2.1 rc.2.2.2 (wM mb cI rm.2.1 rm.2.2.1 E rm.2.2.2 hs []))) perm_law.symm ?_
  refine j_icmp_eq C (tgt := 869) (by decide) dL_law_479 (fun _ => ?_) (fun z => absurd heq z)
  exact K _ _ _ _ _ _ _ _ hR
def St_settle (Rel : RelT) : Prop := ∀ (σ : Nat → Nat → Int32) (t : Nat → Int32) (h : Nat → Nat → Nat → Int32) (s P E : Nat → Int32) (n : Int32) (x : Int32), Rel σ t h s P E n → ∃ (rc : Int32 × (Nat → Nat → Int32) × (Nat → Int32) × (Nat → Nat → Nat → Int32)) (rm : Int32 × (Nat → Int32) × (Nat → Int32) × (Nat → Int32) × (Int32)), f_X8_settle σ t h x = some rc ∧ f_X9_settle s P E n x = some rm ∧ rc.1 = rm.1 ∧ Rel rc.2.1 rc.2.2.1 rc.2.2.2 rm.2.1 rm.2.2.1 rm.2.2.2.1 rm.2.2.2.2
set_option maxRecDepth 100000 in
set_option maxHeartbeats 4000000 in
theorem law_settle {p : Program} {l : Launch} {e : Env} {s_ : State} {m : MethodId} {below : List Frame} {meth : Method} {c : Code} {D : va_G} {cI cS : ClassId} {b L : Nat} {xv : Nat → Int32} {a : Nat → Nat} {d o hh sl : Nat} {sb : Nat → Nat → Nat} {mb : Nat → Nat} {σ : Nat → Nat → Int32} {t : Nat → Int32} {h : Nat → Nat → Nat → Int32} {s P E : Nat → Int32} {n : Int32} {hs : Int64} {x3 : Int32} (C : cx p s_ m #[Value.ref b] meth c code 4 RL ret D cI cS) (hX : va_X b L xv s_ s_.heap) (hbl : b < s_.heap.size) (hbA : ¬ (fun q : Nat => s_.heap.size ≤ q) b) (hi1 : vp_in (x3 + (1 : Int32)) L) (hi2 : vp_in (x3 + (2 : Int32)) L) {Rel : RelT} (hSt : St_settle Rel) (hRel : Rel σ t h s P E n)
    (K : ∀ (σ : Nat → Nat → Int32) (t : Nat → Int32) (h : Nat → Nat → Nat → Int32) (s P E : Nat → Int32) (n : Int32) (hs : Int64), Rel σ t h s P E n → jN p l e room_1 s_ m #[Value.ref b] below meth c 4 D (fun q : Nat => s_.heap.size ≤ q) (lw_Z below #[Value.ref b] s_) 98 3070 (wT a d o hh sl sb cI cS σ t h (wM mb cI s P E n hs [])) [some (.ref b), some (.ref o), some (.ref (mb 0)), some (.int x3)] 869 []) : jN p l e room_1 s_ m #[Value.ref b] below meth c 4 D (fun q : Nat => s_.heap.size ≤ q) (lw_Z below #[Value.ref b] s_) 98 3070 (wT a d o hh sl sb cI cS σ t h (wM mb cI s P E n hs [])) [some (.ref b), some (.ref o), some (.ref (mb 0)), some (.int x3)] 484 [] := by
  obtain ⟨rc, rm, h1, h2, heq, hR⟩ := hSt σ t h s P E n (xv (x3 + (1 : Int32)).toNatClampNeg) hRel
  refine j_aload_n C dL_law_484 rfl ?_
  refine j_aload_n C dL_law_485 rfl ?_
  refine j_iload_n C dL_law_486 rfl ?_
  refine j_iconst C ic_1 dL_law_487 ?_
  refine j_iadd C dL_law_488 ?_
  refine j_sld C hX hbl hbA hi1 rfl dL_law_489 ?_
  refine j_callV C cl_L_64 (c_X8_settle h1) ⟨Nat.le_of_ble_eq_true rfl, Nat.le_of_ble_eq_true rfl⟩ ⟨Nat.le_of_ble_eq_true rfl, Nat.le_of_ble_eq_true rfl⟩ (q0 := 19) rfl rfl rfl rfl (Nat.le_of_ble_eq_true rfl) rfl rfl wT_fst dL_law_490 ?_
  refine j_aload_n C dL_law_493 rfl ?_
  refine j_aload_n C dL_law_494 rfl ?_
  refine j_iload_n C dL_law_495 rfl ?_
  refine j_iconst C ic_1 dL_law_496 ?_
  refine j_iadd C dL_law_497 ?_
  refine j_sld C hX hbl hbA hi1 rfl dL_law_498 ?_
  refine j_perm perm_law ?_
  refine j_callV C cl_L_67 (c_X9_settle h2) ⟨Nat.le_of_ble_eq_true rfl, Nat.le_of_ble_eq_true rfl⟩ ⟨Nat.le_of_ble_eq_true rfl, Nat.le_of_ble_eq_true rfl⟩ (q0 := 0) rfl rfl rfl rfl (Nat.le_of_ble_eq_true rfl) rfl rfl wM_fst dL_law_499 ?_
  refine j_perm (ws' := (wT a d o hh sl sb cI cS rc.2.1 rc.2.2.1 rc.2.2.2 (wM mb cI rm.2.1 rm.2.2.1 rm.2.2.2.1 rm.2.2.2.2 hs []))) perm_law.symm ?_
  refine j_icmp_eq C (tgt := 869) (by decide) dL_law_502 (fun _ => ?_) (fun z => absurd heq z)
  exact K _ _ _ _ _ _ _ _ hR
def St_performed (Rel : RelT) : Prop := ∀ (σ : Nat → Nat → Int32) (t : Nat → Int32) (h : Nat → Nat → Nat → Int32) (s P E : Nat → Int32) (n : Int32) (x : Int32), Rel σ t h s P E n → ∃ (rc : Int32 × (Nat → Int32)) (rm : Int32 × (Nat → Int32)), f_X8_performed σ t h x = some rc ∧ f_X9_performed s E x = some rm ∧ rc.1 = rm.1 ∧ Rel σ rc.2 h s P rm.2 n
set_option maxRecDepth 100000 in
set_option maxHeartbeats 4000000 in
theorem law_performed {p : Program} {l : Launch} {e : Env} {s_ : State} {m : MethodId} {below : List Frame} {meth : Method} {c : Code} {D : va_G} {cI cS : ClassId} {b L : Nat} {xv : Nat → Int32} {a : Nat → Nat} {d o hh sl : Nat} {sb : Nat → Nat → Nat} {mb : Nat → Nat} {σ : Nat → Nat → Int32} {t : Nat → Int32} {h : Nat → Nat → Nat → Int32} {s P E : Nat → Int32} {n : Int32} {hs : Int64} {x3 : Int32} (C : cx p s_ m #[Value.ref b] meth c code 4 RL ret D cI cS) (hX : va_X b L xv s_ s_.heap) (hbl : b < s_.heap.size) (hbA : ¬ (fun q : Nat => s_.heap.size ≤ q) b) (hi1 : vp_in (x3 + (1 : Int32)) L) (hi2 : vp_in (x3 + (2 : Int32)) L) {Rel : RelT} (hSt : St_performed Rel) (hRel : Rel σ t h s P E n)
    (K : ∀ (σ : Nat → Nat → Int32) (t : Nat → Int32) (h : Nat → Nat → Nat → Int32) (s P E : Nat → Int32) (n : Int32) (hs : Int64), Rel σ t h s P E n → jN p l e room_1 s_ m #[Value.ref b] below meth c 4 D (fun q : Nat => s_.heap.size ≤ q) (lw_Z below #[Value.ref b] s_) 98 3070 (wT a d o hh sl sb cI cS σ t h (wM mb cI s P E n hs [])) [some (.ref b), some (.ref o), some (.ref (mb 0)), some (.int x3)] 869 []) : jN p l e room_1 s_ m #[Value.ref b] below meth c 4 D (fun q : Nat => s_.heap.size ≤ q) (lw_Z below #[Value.ref b] s_) 98 3070 (wT a d o hh sl sb cI cS σ t h (wM mb cI s P E n hs [])) [some (.ref b), some (.ref o), some (.ref (mb 0)), some (.int x3)] 507 [] := by
  obtain ⟨rc, rm, h1, h2, heq, hR⟩ := hSt σ t h s P E n (xv (x3 + (1 : Int32)).toNatClampNeg) hRel
  refine j_aload_n C dL_law_507 rfl ?_
  refine j_aload_n C dL_law_508 rfl ?_
  refine j_iload_n C dL_law_509 rfl ?_
  refine j_iconst C ic_1 dL_law_510 ?_
  refine j_iadd C dL_law_511 ?_
  refine j_sld C hX hbl hbA hi1 rfl dL_law_512 ?_
  refine j_callV C cl_L_68 (c_X8_performed h1) ⟨Nat.le_of_ble_eq_true rfl, Nat.le_of_ble_eq_true rfl⟩ ⟨Nat.le_of_ble_eq_true rfl, Nat.le_of_ble_eq_true rfl⟩ (q0 := 19) rfl rfl rfl rfl (Nat.le_of_ble_eq_true rfl) rfl rfl wT_fst dL_law_513 ?_
  refine j_aload_n C dL_law_516 rfl ?_
  refine j_aload_n C dL_law_517 rfl ?_
  refine j_iload_n C dL_law_518 rfl ?_
  refine j_iconst C ic_1 dL_law_519 ?_
  refine j_iadd C dL_law_520 ?_
  refine j_sld C hX hbl hbA hi1 rfl dL_law_521 ?_
  refine j_perm perm_law ?_
  refine j_callV C cl_L_71 (c_X9_performed h2) ⟨Nat.le_of_ble_eq_true rfl, Nat.le_of_ble_eq_true rfl⟩ ⟨Nat.le_of_ble_eq_true rfl, Nat.le_of_ble_eq_true rfl⟩ (q0 := 0) rfl rfl rfl rfl (Nat.le_of_ble_eq_true rfl) rfl rfl wM_fst dL_law_522 ?_
  refine j_perm (ws' := (wT a d o hh sl sb cI cS σ rc.2 h (wM mb cI s P rm.2 n hs []))) perm_law.symm ?_
  refine j_icmp_eq C (tgt := 869) (by decide) dL_law_525 (fun _ => ?_) (fun z => absurd heq z)
  exact K _ _ _ _ _ _ _ _ hR
def St_time (Rel : RelT) : Prop := ∀ (σ : Nat → Nat → Int32) (t : Nat → Int32) (h : Nat → Nat → Nat → Int32) (s P E : Nat → Int32) (n : Int32), Rel σ t h s P E n → ∃ (rc : Int32) (rm : Int32), f_X8_time σ t h = some rc ∧ f_X9_time s = some rm ∧ rc = rm ∧ Rel σ t h s P E n
set_option maxRecDepth 100000 in
set_option maxHeartbeats 4000000 in
theorem law_time {p : Program} {l : Launch} {e : Env} {s_ : State} {m : MethodId} {below : List Frame} {meth : Method} {c : Code} {D : va_G} {cI cS : ClassId} {b L : Nat} {xv : Nat → Int32} {a : Nat → Nat} {d o hh sl : Nat} {sb : Nat → Nat → Nat} {mb : Nat → Nat} {σ : Nat → Nat → Int32} {t : Nat → Int32} {h : Nat → Nat → Nat → Int32} {s P E : Nat → Int32} {n : Int32} {hs : Int64} {x3 : Int32} (C : cx p s_ m #[Value.ref b] meth c code 4 RL ret D cI cS) (hX : va_X b L xv s_ s_.heap) (hbl : b < s_.heap.size) (hbA : ¬ (fun q : Nat => s_.heap.size ≤ q) b) (hi1 : vp_in (x3 + (1 : Int32)) L) (hi2 : vp_in (x3 + (2 : Int32)) L) {Rel : RelT} (hSt : St_time Rel) (hRel : Rel σ t h s P E n)
    (K : ∀ (σ : Nat → Nat → Int32) (t : Nat → Int32) (h : Nat → Nat → Nat → Int32) (s P E : Nat → Int32) (n : Int32) (hs : Int64), Rel σ t h s P E n → jN p l e room_1 s_ m #[Value.ref b] below meth c 4 D (fun q : Nat => s_.heap.size ≤ q) (lw_Z below #[Value.ref b] s_) 98 3070 (wT a d o hh sl sb cI cS σ t h (wM mb cI s P E n hs [])) [some (.ref b), some (.ref o), some (.ref (mb 0)), some (.int x3)] 869 []) : jN p l e room_1 s_ m #[Value.ref b] below meth c 4 D (fun q : Nat => s_.heap.size ≤ q) (lw_Z below #[Value.ref b] s_) 98 3070 (wT a d o hh sl sb cI cS σ t h (wM mb cI s P E n hs [])) [some (.ref b), some (.ref o), some (.ref (mb 0)), some (.int x3)] 530 [] := by
  obtain ⟨rc, rm, h1, h2, heq, hR⟩ := hSt σ t h s P E n  hRel
  refine j_aload_n C dL_law_530 rfl ?_
  refine j_callV C cl_L_72 (c_X8_time h1) ⟨Nat.le_of_ble_eq_true rfl, Nat.le_of_ble_eq_true rfl⟩ ⟨Nat.le_of_ble_eq_true rfl, Nat.le_of_ble_eq_true rfl⟩ (q0 := 19) rfl rfl rfl rfl (Nat.le_of_ble_eq_true rfl) rfl rfl rfl dL_law_531 ?_
  refine j_aload_n C dL_law_534 rfl ?_
  refine j_perm perm_law ?_
  refine j_callV C cl_L_75 (c_X9_time h2) ⟨Nat.le_of_ble_eq_true rfl, Nat.le_of_ble_eq_true rfl⟩ ⟨Nat.le_of_ble_eq_true rfl, Nat.le_of_ble_eq_true rfl⟩ (q0 := 0) rfl rfl rfl rfl (Nat.le_of_ble_eq_true rfl) rfl rfl rfl dL_law_535 ?_
  refine j_perm (ws' := (wT a d o hh sl sb cI cS σ t h (wM mb cI s P E n hs []))) perm_law.symm ?_
  refine j_icmp_eq C (tgt := 869) (by decide) dL_law_538 (fun _ => ?_) (fun z => absurd heq z)
  exact K _ _ _ _ _ _ _ _ hR
def St_rangeCount (Rel : RelT) : Prop := ∀ (σ : Nat → Nat → Int32) (t : Nat → Int32) (h : Nat → Nat → Nat → Int32) (s P E : Nat → Int32) (n : Int32), Rel σ t h s P E n → ∃ (rc : Int32) (rm : Int32), f_X8_rangeCount σ t h = some rc ∧ f_X9_rangeCount s = some rm ∧ rc = rm ∧ Rel σ t h s P E n
set_option maxRecDepth 100000 in
set_option maxHeartbeats 4000000 in
theorem law_rangeCount {p : Program} {l : Launch} {e : Env} {s_ : State} {m : MethodId} {below : List Frame} {meth : Method} {c : Code} {D : va_G} {cI cS : ClassId} {b L : Nat} {xv : Nat → Int32} {a : Nat → Nat} {d o hh sl : Nat} {sb : Nat → Nat → Nat} {mb : Nat → Nat} {σ : Nat → Nat → Int32} {t : Nat → Int32} {h : Nat → Nat → Nat → Int32} {s P E : Nat → Int32} {n : Int32} {hs : Int64} {x3 : Int32} (C : cx p s_ m #[Value.ref b] meth c code 4 RL ret D cI cS) (hX : va_X b L xv s_ s_.heap) (hbl : b < s_.heap.size) (hbA : ¬ (fun q : Nat => s_.heap.size ≤ q) b) (hi1 : vp_in (x3 + (1 : Int32)) L) (hi2 : vp_in (x3 + (2 : Int32)) L) {Rel : RelT} (hSt : St_rangeCount Rel) (hRel : Rel σ t h s P E n)
    (K : ∀ (σ : Nat → Nat → Int32) (t : Nat → Int32) (h : Nat → Nat → Nat → Int32) (s P E : Nat → Int32) (n : Int32) (hs : Int64), Rel σ t h s P E n → jN p l e room_1 s_ m #[Value.ref b] below meth c 4 D (fun q : Nat => s_.heap.size ≤ q) (lw_Z below #[Value.ref b] s_) 98 3070 (wT a d o hh sl sb cI cS σ t h (wM mb cI s P E n hs [])) [some (.ref b), some (.ref o), some (.ref (mb 0)), some (.int x3)] 869 []) : jN p l e room_1 s_ m #[Value.ref b] below meth c 4 D (fun q : Nat => s_.heap.size ≤ q) (lw_Z below #[Value.ref b] s_) 98 3070 (wT a d o hh sl sb cI cS σ t h (wM mb cI s P E n hs [])) [some (.ref b), some (.ref o), some (.ref (mb 0)), some (.int x3)] 543 [] := by
  obtain ⟨rc, rm, h1, h2, heq, hR⟩ := hSt σ t h s P E n  hRel
  refine j_aload_n C dL_law_543 rfl ?_
  refine j_callV C cl_L_76 (c_X8_rangeCount h1) ⟨Nat.le_of_ble_eq_true rfl, Nat.le_of_ble_eq_true rfl⟩ ⟨Nat.le_of_ble_eq_true rfl, Nat.le_of_ble_eq_true rfl⟩ (q0 := 19) rfl rfl rfl rfl (Nat.le_of_ble_eq_true rfl) rfl rfl rfl dL_law_544 ?_
  refine j_aload_n C dL_law_547 rfl ?_
  refine j_perm perm_law ?_
  refine j_callV C cl_L_79 (c_X9_rangeCount h2) ⟨Nat.le_of_ble_eq_true rfl, Nat.le_of_ble_eq_true rfl⟩ ⟨Nat.le_of_ble_eq_true rfl, Nat.le_of_ble_eq_true rfl⟩ (q0 := 0) rfl rfl rfl rfl (Nat.le_of_ble_eq_true rfl) rfl rfl rfl dL_law_548 ?_
  refine j_perm (ws' := (wT a d o hh sl sb cI cS σ t h (wM mb cI s P E n hs []))) perm_law.symm ?_
  refine j_icmp_eq C (tgt := 869) (by decide) dL_law_551 (fun _ => ?_) (fun z => absurd heq z)
  exact K _ _ _ _ _ _ _ _ hR
def St_start (Rel : RelT) : Prop := ∀ (σ : Nat → Nat → Int32) (t : Nat → Int32) (h : Nat → Nat → Nat → Int32) (s P E : Nat → Int32) (n : Int32) (x : Int32), Rel σ t h s P E n → ∃ (rc : Int32 × (Nat → Int32)) (rm : Int32 × (Nat → Int32)), f_X8_start σ t h x = some rc ∧ f_X9_start s E x = some rm ∧ rc.1 = rm.1 ∧ Rel σ rc.2 h s P rm.2 n
set_option maxRecDepth 100000 in
set_option maxHeartbeats 4000000 in
theorem law_start {p : Program} {l : Launch} {e : Env} {s_ : State} {m : MethodId} {below : List Frame} {meth : Method} {c : Code} {D : va_G} {cI cS : ClassId} {b L : Nat} {xv : Nat → Int32} {a : Nat → Nat} {d o hh sl : Nat} {sb : Nat → Nat → Nat} {mb : Nat → Nat} {σ : Nat → Nat → Int32} {t : Nat → Int32} {h : Nat → Nat → Nat → Int32} {s P E : Nat → Int32} {n : Int32} {hs : Int64} {x3 : Int32} (C : cx p s_ m #[Value.ref b] meth c code 4 RL ret D cI cS) (hX : va_X b L xv s_ s_.heap) (hbl : b < s_.heap.size) (hbA : ¬ (fun q : Nat => s_.heap.size ≤ q) b) (hi1 : vp_in (x3 + (1 : Int32)) L) (hi2 : vp_in (x3 + (2 : Int32)) L) {Rel : RelT} (hSt : St_start Rel) (hRel : Rel σ t h s P E n)
    (K : ∀ (σ : Nat → Nat → Int32) (t : Nat → Int32) (h : Nat → Nat → Nat → Int32) (s P E : Nat → Int32) (n : Int32) (hs : Int64), Rel σ t h s P E n → jN p l e room_1 s_ m #[Value.ref b] below meth c 4 D (fun q : Nat => s_.heap.size ≤ q) (lw_Z below #[Value.ref b] s_) 98 3070 (wT a d o hh sl sb cI cS σ t h (wM mb cI s P E n hs [])) [some (.ref b), some (.ref o), some (.ref (mb 0)), some (.int x3)] 869 []) : jN p l e room_1 s_ m #[Value.ref b] below meth c 4 D (fun q : Nat => s_.heap.size ≤ q) (lw_Z below #[Value.ref b] s_) 98 3070 (wT a d o hh sl sb cI cS σ t h (wM mb cI s P E n hs [])) [some (.ref b), some (.ref o), some (.ref (mb 0)), some (.int x3)] 556 [] := by
  obtain ⟨rc, rm, h1, h2, heq, hR⟩ := hSt σ t h s P E n (xv (x3 + (1 : Int32)).toNatClampNeg) hRel
  refine j_aload_n C dL_law_556 rfl ?_
  refine j_aload_n C dL_law_557 rfl ?_
  refine j_iload_n C dL_law_558 rfl ?_
  refine j_iconst C ic_1 dL_law_559 ?_
  refine j_iadd C dL_law_560 ?_
  refine j_sld C hX hbl hbA hi1 rfl dL_law_561 ?_
  refine j_callV C cl_L_80 (c_X8_start h1) ⟨Nat.le_of_ble_eq_true rfl, Nat.le_of_ble_eq_true rfl⟩ ⟨Nat.le_of_ble_eq_true rfl, Nat.le_of_ble_eq_true rfl⟩ (q0 := 19) rfl rfl rfl rfl (Nat.le_of_ble_eq_true rfl) rfl rfl wT_fst dL_law_562 ?_
  refine j_aload_n C dL_law_565 rfl ?_
  refine j_aload_n C dL_law_566 rfl ?_
  refine j_iload_n C dL_law_567 rfl ?_
  refine j_iconst C ic_1 dL_law_568 ?_
  refine j_iadd C dL_law_569 ?_
  refine j_sld C hX hbl hbA hi1 rfl dL_law_570 ?_
  refine j_perm perm_law ?_
  refine j_callV C cl_L_83 (c_X9_start h2) ⟨Nat.le_of_ble_eq_true rfl, Nat.le_of_ble_eq_true rfl⟩ ⟨Nat.le_of_ble_eq_true rfl, Nat.le_of_ble_eq_true rfl⟩ (q0 := 0) rfl rfl rfl rfl (Nat.le_of_ble_eq_true rfl) rfl rfl wM_fst dL_law_571 ?_
  refine j_perm (ws' := (wT a d o hh sl sb cI cS σ rc.2 h (wM mb cI s P rm.2 n hs []))) perm_law.symm ?_
  refine j_icmp_eq C (tgt := 869) (by decide) dL_law_574 (fun _ => ?_) (fun z => absurd heq z)
  exact K _ _ _ _ _ _ _ _ hR
def St_size (Rel : RelT) : Prop := ∀ (σ : Nat → Nat → Int32) (t : Nat → Int32) (h : Nat → Nat → Nat → Int32) (s P E : Nat → Int32) (n : Int32) (x : Int32), Rel σ t h s P E n → ∃ (rc : Int32 × (Nat → Int32)) (rm : Int32 × (Nat → Int32)), f_X8_size σ t h x = some rc ∧ f_X9_size s E x = some rm ∧ rc.1 = rm.1 ∧ Rel σ rc.2 h s P rm.2 n
set_option maxRecDepth 100000 in
set_option maxHeartbeats 4000000 in
theorem law_size {p : Program} {l : Launch} {e : Env} {s_ : State} {m : MethodId} {below : List Frame} {meth : Method} {c : Code} {D : va_G} {cI cS : ClassId} {b L : Nat} {xv : Nat → Int32} {a : Nat → Nat} {d o hh sl : Nat} {sb : Nat → Nat → Nat} {mb : Nat → Nat} {σ : Nat → Nat → Int32} {t : Nat → Int32} {h : Nat → Nat → Nat → Int32} {s P E : Nat → Int32} {n : Int32} {hs : Int64} {x3 : Int32} (C : cx p s_ m #[Value.ref b] meth c code 4 RL ret D cI cS) (hX : va_X b L xv s_ s_.heap) (hbl : b < s_.heap.size) (hbA : ¬ (fun q : Nat => s_.heap.size ≤ q) b) (hi1 : vp_in (x3 + (1 : Int32)) L) (hi2 : vp_in (x3 + (2 : Int32)) L) {Rel : RelT} (hSt : St_size Rel) (hRel : Rel σ t h s P E n)
    (K : ∀ (σ : Nat → Nat → Int32) (t : Nat → Int32) (h : Nat → Nat → Nat → Int32) (s P E : Nat → Int32) (n : Int32) (hs : Int64), Rel σ t h s P E n → jN p l e room_1 s_ m #[Value.ref b] below meth c 4 D (fun q : Nat => s_.heap.size ≤ q) (lw_Z below #[Value.ref b] s_) 98 3070 (wT a d o hh sl sb cI cS σ t h (wM mb cI s P E n hs [])) [some (.ref b), some (.ref o), some (.ref (mb 0)), some (.int x3)] 869 []) : jN p l e room_1 s_ m #[Value.ref b] below meth c 4 D (fun q : Nat => s_.heap.size ≤ q) (lw_Z below #[Value.ref b] s_) 98 3070 (wT a d o hh sl sb cI cS σ t h (wM mb cI s P E n hs [])) [some (.ref b), some (.ref o), some (.ref (mb 0)), some (.int x3)] 579 [] := by
  obtain ⟨rc, rm, h1, h2, heq, hR⟩ := hSt σ t h s P E n (xv (x3 + (1 : Int32)).toNatClampNeg) hRel
  refine j_aload_n C dL_law_579 rfl ?_
  refine j_aload_n C dL_law_580 rfl ?_
  refine j_iload_n C dL_law_581 rfl ?_
  refine j_iconst C ic_1 dL_law_582 ?_
  refine j_iadd C dL_law_583 ?_
  refine j_sld C hX hbl hbA hi1 rfl dL_law_584 ?_
  refine j_callV C cl_L_84 (c_X8_size h1) ⟨Nat.le_of_ble_eq_true rfl, Nat.le_of_ble_eq_true rfl⟩ ⟨Nat.le_of_ble_eq_true rfl, Nat.le_of_ble_eq_true rfl⟩ (q0 := 19) rfl rfl rfl rfl (Nat.le_of_ble_eq_true rfl) rfl rfl wT_fst dL_law_585 ?_
  refine j_aload_n C dL_law_588 rfl ?_
  refine j_aload_n C dL_law_589 rfl ?_
  refine j_iload_n C dL_law_590 rfl ?_
  refine j_iconst C ic_1 dL_law_591 ?_
  refine j_iadd C dL_law_592 ?_
  refine j_sld C hX hbl hbA hi1 rfl dL_law_593 ?_
  refine j_perm perm_law ?_
  refine j_callV C cl_L_87 (c_X9_size h2) ⟨Nat.le_of_ble_eq_true rfl, Nat.le_of_ble_eq_true rfl⟩ ⟨Nat.le_of_ble_eq_true rfl, Nat.le_of_ble_eq_true rfl⟩ (q0 := 0) rfl rfl rfl rfl (Nat.le_of_ble_eq_true rfl) rfl rfl wM_fst dL_law_594 ?_
  refine j_perm (ws' := (wT a d o hh sl sb cI cS σ rc.2 h (wM mb cI s P rm.2 n hs []))) perm_law.symm ?_
  refine j_icmp_eq C (tgt := 869) (by decide) dL_law_597 (fun _ => ?_) (fun z => absurd heq z)
  exact K _ _ _ _ _ _ _ _ hR
def St_load (Rel : RelT) : Prop := ∀ (σ : Nat → Nat → Int32) (t : Nat → Int32) (h : Nat → Nat → Nat → Int32) (s P E : Nat → Int32) (n : Int32) (x : Int32), Rel σ t h s P E n → ∃ (rc : Int32 × (Nat → Int32)) (rm : Int32 × (Nat → Int32)), f_X8_load σ t h x = some rc ∧ f_X9_load s E x = some rm ∧ rc.1 = rm.1 ∧ Rel σ rc.2 h s P rm.2 n
set_option maxRecDepth 100000 in
set_option maxHeartbeats 4000000 in
theorem law_load {p : Program} {l : Launch} {e : Env} {s_ : State} {m : MethodId} {below : List Frame} {meth : Method} {c : Code} {D : va_G} {cI cS : ClassId} {b L : Nat} {xv : Nat → Int32} {a : Nat → Nat} {d o hh sl : Nat} {sb : Nat → Nat → Nat} {mb : Nat → Nat} {σ : Nat → Nat → Int32} {t : Nat → Int32} {h : Nat → Nat → Nat → Int32} {s P E : Nat → Int32} {n : Int32} {hs : Int64} {x3 : Int32} (C : cx p s_ m #[Value.ref b] meth c code 4 RL ret D cI cS) (hX : va_X b L xv s_ s_.heap) (hbl : b < s_.heap.size) (hbA : ¬ (fun q : Nat => s_.heap.size ≤ q) b) (hi1 : vp_in (x3 + (1 : Int32)) L) (hi2 : vp_in (x3 + (2 : Int32)) L) {Rel : RelT} (hSt : St_load Rel) (hRel : Rel σ t h s P E n)
    (K : ∀ (σ : Nat → Nat → Int32) (t : Nat → Int32) (h : Nat → Nat → Nat → Int32) (s P E : Nat → Int32) (n : Int32) (hs : Int64), Rel σ t h s P E n → jN p l e room_1 s_ m #[Value.ref b] below meth c 4 D (fun q : Nat => s_.heap.size ≤ q) (lw_Z below #[Value.ref b] s_) 98 3070 (wT a d o hh sl sb cI cS σ t h (wM mb cI s P E n hs [])) [some (.ref b), some (.ref o), some (.ref (mb 0)), some (.int x3)] 869 []) : jN p l e room_1 s_ m #[Value.ref b] below meth c 4 D (fun q : Nat => s_.heap.size ≤ q) (lw_Z below #[Value.ref b] s_) 98 3070 (wT a d o hh sl sb cI cS σ t h (wM mb cI s P E n hs [])) [some (.ref b), some (.ref o), some (.ref (mb 0)), some (.int x3)] 602 [] := by
  obtain ⟨rc, rm, h1, h2, heq, hR⟩ := hSt σ t h s P E n (xv (x3 + (1 : Int32)).toNatClampNeg) hRel
  refine j_aload_n C dL_law_602 rfl ?_
  refine j_aload_n C dL_law_603 rfl ?_
  refine j_iload_n C dL_law_604 rfl ?_
  refine j_iconst C ic_1 dL_law_605 ?_
  refine j_iadd C dL_law_606 ?_
  refine j_sld C hX hbl hbA hi1 rfl dL_law_607 ?_
  refine j_callV C cl_L_88 (c_X8_load h1) ⟨Nat.le_of_ble_eq_true rfl, Nat.le_of_ble_eq_true rfl⟩ ⟨Nat.le_of_ble_eq_true rfl, Nat.le_of_ble_eq_true rfl⟩ (q0 := 19) rfl rfl rfl rfl (Nat.le_of_ble_eq_true rfl) rfl rfl wT_fst dL_law_608 ?_
  refine j_aload_n C dL_law_611 rfl ?_
  refine j_aload_n C dL_law_612 rfl ?_
  refine j_iload_n C dL_law_613 rfl ?_
  refine j_iconst C ic_1 dL_law_614 ?_
  refine j_iadd C dL_law_615 ?_
  refine j_sld C hX hbl hbA hi1 rfl dL_law_616 ?_
  refine j_perm perm_law ?_
  refine j_callV C cl_L_91 (c_X9_load h2) ⟨Nat.le_of_ble_eq_true rfl, Nat.le_of_ble_eq_true rfl⟩ ⟨Nat.le_of_ble_eq_true rfl, Nat.le_of_ble_eq_true rfl⟩ (q0 := 0) rfl rfl rfl rfl (Nat.le_of_ble_eq_true rfl) rfl rfl wM_fst dL_law_617 ?_
  refine j_perm (ws' := (wT a d o hh sl sb cI cS σ rc.2 h (wM mb cI s P rm.2 n hs []))) perm_law.symm ?_
  refine j_icmp_eq C (tgt := 869) (by decide) dL_law_620 (fun _ => ?_) (fun z => absurd heq z)
  exact K _ _ _ _ _ _ _ _ hR
def St_rangeOf (Rel : RelT) : Prop := ∀ (σ : Nat → Nat → Int32) (t : Nat → Int32) (h : Nat → Nat → Nat → Int32) (s P E : Nat → Int32) (n : Int32) (x : Int32), Rel σ t h s P E n → ∃ (rc : Int32 × (Nat → Int32)) (rm : Int32 × (Nat → Int32)), f_X8_rangeOf σ t h x = some rc ∧ f_X9_rangeOf s E x = some rm ∧ rc.1 = rm.1 ∧ Rel σ rc.2 h s P rm.2 n
set_option maxRecDepth 100000 in
set_option maxHeartbeats 4000000 in
theorem law_rangeOf {p : Program} {l : Launch} {e : Env} {s_ : State} {m : MethodId} {below : List Frame} {meth : Method} {c : Code} {D : va_G} {cI cS : ClassId} {b L : Nat} {xv : Nat → Int32} {a : Nat → Nat} {d o hh sl : Nat} {sb : Nat → Nat → Nat} {mb : Nat → Nat} {σ : Nat → Nat → Int32} {t : Nat → Int32} {h : Nat → Nat → Nat → Int32} {s P E : Nat → Int32} {n : Int32} {hs : Int64} {x3 : Int32} (C : cx p s_ m #[Value.ref b] meth c code 4 RL ret D cI cS) (hX : va_X b L xv s_ s_.heap) (hbl : b < s_.heap.size) (hbA : ¬ (fun q : Nat => s_.heap.size ≤ q) b) (hi1 : vp_in (x3 + (1 : Int32)) L) (hi2 : vp_in (x3 + (2 : Int32)) L) {Rel : RelT} (hSt : St_rangeOf Rel) (hRel : Rel σ t h s P E n)
    (K : ∀ (σ : Nat → Nat → Int32) (t : Nat → Int32) (h : Nat → Nat → Nat → Int32) (s P E : Nat → Int32) (n : Int32) (hs : Int64), Rel σ t h s P E n → jN p l e room_1 s_ m #[Value.ref b] below meth c 4 D (fun q : Nat => s_.heap.size ≤ q) (lw_Z below #[Value.ref b] s_) 98 3070 (wT a d o hh sl sb cI cS σ t h (wM mb cI s P E n hs [])) [some (.ref b), some (.ref o), some (.ref (mb 0)), some (.int x3)] 869 []) : jN p l e room_1 s_ m #[Value.ref b] below meth c 4 D (fun q : Nat => s_.heap.size ≤ q) (lw_Z below #[Value.ref b] s_) 98 3070 (wT a d o hh sl sb cI cS σ t h (wM mb cI s P E n hs [])) [some (.ref b), some (.ref o), some (.ref (mb 0)), some (.int x3)] 625 [] := by
  obtain ⟨rc, rm, h1, h2, heq, hR⟩ := hSt σ t h s P E n (xv (x3 + (1 : Int32)).toNatClampNeg) hRel
  refine j_aload_n C dL_law_625 rfl ?_
  refine j_aload_n C dL_law_626 rfl ?_
  refine j_iload_n C dL_law_627 rfl ?_
  refine j_iconst C ic_1 dL_law_628 ?_
  refine j_iadd C dL_law_629 ?_
  refine j_sld C hX hbl hbA hi1 rfl dL_law_630 ?_
  refine j_callV C cl_L_92 (c_X8_rangeOf h1) ⟨Nat.le_of_ble_eq_true rfl, Nat.le_of_ble_eq_true rfl⟩ ⟨Nat.le_of_ble_eq_true rfl, Nat.le_of_ble_eq_true rfl⟩ (q0 := 19) rfl rfl rfl rfl (Nat.le_of_ble_eq_true rfl) rfl rfl wT_fst dL_law_631 ?_
  refine j_aload_n C dL_law_634 rfl ?_
  refine j_aload_n C dL_law_635 rfl ?_
  refine j_iload_n C dL_law_636 rfl ?_
  refine j_iconst C ic_1 dL_law_637 ?_
  refine j_iadd C dL_law_638 ?_
  refine j_sld C hX hbl hbA hi1 rfl dL_law_639 ?_
  refine j_perm perm_law ?_
  refine j_callV C cl_L_95 (c_X9_rangeOf h2) ⟨Nat.le_of_ble_eq_true rfl, Nat.le_of_ble_eq_true rfl⟩ ⟨Nat.le_of_ble_eq_true rfl, Nat.le_of_ble_eq_true rfl⟩ (q0 := 0) rfl rfl rfl rfl (Nat.le_of_ble_eq_true rfl) rfl rfl wM_fst dL_law_640 ?_
  refine j_perm (ws' := (wT a d o hh sl sb cI cS σ rc.2 h (wM mb cI s P rm.2 n hs []))) perm_law.symm ?_
  refine j_icmp_eq C (tgt := 869) (by decide) dL_law_643 (fun _ => ?_) (fun z => absurd heq z)
  exact K _ _ _ _ _ _ _ _ hR
def St_voters (Rel : RelT) : Prop := ∀ (σ : Nat → Nat → Int32) (t : Nat → Int32) (h : Nat → Nat → Nat → Int32) (s P E : Nat → Int32) (n : Int32) (x : Int32), Rel σ t h s P E n → ∃ (rc : Int32 × (Nat → Int32)) (rm : Int32 × (Nat → Int32)), f_X8_voters σ t h x = some rc ∧ f_X9_voters s E x = some rm ∧ rc.1 = rm.1 ∧ Rel σ rc.2 h s P rm.2 n
set_option maxRecDepth 100000 in
set_option maxHeartbeats 4000000 in
theorem law_voters {p : Program} {l : Launch} {e : Env} {s_ : State} {m : MethodId} {below : List Frame} {meth : Method} {c : Code} {D : va_G} {cI cS : ClassId} {b L : Nat} {xv : Nat → Int32} {a : Nat → Nat} {d o hh sl : Nat} {sb : Nat → Nat → Nat} {mb : Nat → Nat} {σ : Nat → Nat → Int32} {t : Nat → Int32} {h : Nat → Nat → Nat → Int32} {s P E : Nat → Int32} {n : Int32} {hs : Int64} {x3 : Int32} (C : cx p s_ m #[Value.ref b] meth c code 4 RL ret D cI cS) (hX : va_X b L xv s_ s_.heap) (hbl : b < s_.heap.size) (hbA : ¬ (fun q : Nat => s_.heap.size ≤ q) b) (hi1 : vp_in (x3 + (1 : Int32)) L) (hi2 : vp_in (x3 + (2 : Int32)) L) {Rel : RelT} (hSt : St_voters Rel) (hRel : Rel σ t h s P E n)
    (K : ∀ (σ : Nat → Nat → Int32) (t : Nat → Int32) (h : Nat → Nat → Nat → Int32) (s P E : Nat → Int32) (n : Int32) (hs : Int64), Rel σ t h s P E n → jN p l e room_1 s_ m #[Value.ref b] below meth c 4 D (fun q : Nat => s_.heap.size ≤ q) (lw_Z below #[Value.ref b] s_) 98 3070 (wT a d o hh sl sb cI cS σ t h (wM mb cI s P E n hs [])) [some (.ref b), some (.ref o), some (.ref (mb 0)), some (.int x3)] 869 []) : jN p l e room_1 s_ m #[Value.ref b] below meth c 4 D (fun q : Nat => s_.heap.size ≤ q) (lw_Z below #[Value.ref b] s_) 98 3070 (wT a d o hh sl sb cI cS σ t h (wM mb cI s P E n hs [])) [some (.ref b), some (.ref o), some (.ref (mb 0)), some (.int x3)] 648 [] := by
  obtain ⟨rc, rm, h1, h2, heq, hR⟩ := hSt σ t h s P E n (xv (x3 + (1 : Int32)).toNatClampNeg) hRel
  refine j_aload_n C dL_law_648 rfl ?_
  refine j_aload_n C dL_law_649 rfl ?_
  refine j_iload_n C dL_law_650 rfl ?_
  refine j_iconst C ic_1 dL_law_651 ?_
  refine j_iadd C dL_law_652 ?_
  refine j_sld C hX hbl hbA hi1 rfl dL_law_653 ?_
  refine j_callV C cl_L_96 (c_X8_voters h1) ⟨Nat.le_of_ble_eq_true rfl, Nat.le_of_ble_eq_true rfl⟩ ⟨Nat.le_of_ble_eq_true rfl, Nat.le_of_ble_eq_true rfl⟩ (q0 := 19) rfl rfl rfl rfl (Nat.le_of_ble_eq_true rfl) rfl rfl wT_fst dL_law_654 ?_
  refine j_aload_n C dL_law_657 rfl ?_
  refine j_aload_n C dL_law_658 rfl ?_
  refine j_iload_n C dL_law_659 rfl ?_
  refine j_iconst C ic_1 dL_law_660 ?_
  refine j_iadd C dL_law_661 ?_
  refine j_sld C hX hbl hbA hi1 rfl dL_law_662 ?_
  refine j_perm perm_law ?_
  refine j_callV C cl_L_99 (c_X9_voters h2) ⟨Nat.le_of_ble_eq_true rfl, Nat.le_of_ble_eq_true rfl⟩ ⟨Nat.le_of_ble_eq_true rfl, Nat.le_of_ble_eq_true rfl⟩ (q0 := 0) rfl rfl rfl rfl (Nat.le_of_ble_eq_true rfl) rfl rfl wM_fst dL_law_663 ?_
  refine j_perm (ws' := (wT a d o hh sl sb cI cS σ rc.2 h (wM mb cI s P rm.2 n hs []))) perm_law.symm ?_
  refine j_icmp_eq C (tgt := 869) (by decide) dL_law_666 (fun _ => ?_) (fun z => absurd heq z)
  exact K _ _ _ _ _ _ _ _ hR
def St_leader (Rel : RelT) : Prop := ∀ (σ : Nat → Nat → Int32) (t : Nat → Int32) (h : Nat → Nat → Nat → Int32) (s P E : Nat → Int32) (n : Int32) (x : Int32), Rel σ t h s P E n → ∃ (rc : Int32 × (Nat → Int32)) (rm : Int32 × (Nat → Int32)), f_X8_leader σ t h x = some rc ∧ f_X9_leader s E x = some rm ∧ rc.1 = rm.1 ∧ Rel σ rc.2 h s P rm.2 n
set_option maxRecDepth 100000 in
set_option maxHeartbeats 4000000 in
theorem law_leader {p : Program} {l : Launch} {e : Env} {s_ : State} {m : MethodId} {below : List Frame} {meth : Method} {c : Code} {D : va_G} {cI cS : ClassId} {b L : Nat} {xv : Nat → Int32} {a : Nat → Nat} {d o hh sl : Nat} {sb : Nat → Nat → Nat} {mb : Nat → Nat} {σ : Nat → Nat → Int32} {t : Nat → Int32} {h : Nat → Nat → Nat → Int32} {s P E : Nat → Int32} {n : Int32} {hs : Int64} {x3 : Int32} (C : cx p s_ m #[Value.ref b] meth c code 4 RL ret D cI cS) (hX : va_X b L xv s_ s_.heap) (hbl : b < s_.heap.size) (hbA : ¬ (fun q : Nat => s_.heap.size ≤ q) b) (hi1 : vp_in (x3 + (1 : Int32)) L) (hi2 : vp_in (x3 + (2 : Int32)) L) {Rel : RelT} (hSt : St_leader Rel) (hRel : Rel σ t h s P E n)
    (K : ∀ (σ : Nat → Nat → Int32) (t : Nat → Int32) (h : Nat → Nat → Nat → Int32) (s P E : Nat → Int32) (n : Int32) (hs : Int64), Rel σ t h s P E n → jN p l e room_1 s_ m #[Value.ref b] below meth c 4 D (fun q : Nat => s_.heap.size ≤ q) (lw_Z below #[Value.ref b] s_) 98 3070 (wT a d o hh sl sb cI cS σ t h (wM mb cI s P E n hs [])) [some (.ref b), some (.ref o), some (.ref (mb 0)), some (.int x3)] 869 []) : jN p l e room_1 s_ m #[Value.ref b] below meth c 4 D (fun q : Nat => s_.heap.size ≤ q) (lw_Z below #[Value.ref b] s_) 98 3070 (wT a d o hh sl sb cI cS σ t h (wM mb cI s P E n hs [])) [some (.ref b), some (.ref o), some (.ref (mb 0)), some (.int x3)] 671 [] := by
  obtain ⟨rc, rm, h1, h2, heq, hR⟩ := hSt σ t h s P E n (xv (x3 + (1 : Int32)).toNatClampNeg) hRel
  refine j_aload_n C dL_law_671 rfl ?_
  refine j_aload_n C dL_law_672 rfl ?_
  refine j_iload_n C dL_law_673 rfl ?_
  refine j_iconst C ic_1 dL_law_674 ?_
  refine j_iadd C dL_law_675 ?_
  refine j_sld C hX hbl hbA hi1 rfl dL_law_676 ?_
  refine j_callV C cl_L_100 (c_X8_leader h1) ⟨Nat.le_of_ble_eq_true rfl, Nat.le_of_ble_eq_true rfl⟩ ⟨Nat.le_of_ble_eq_true rfl, Nat.le_of_ble_eq_true rfl⟩ (q0 := 19) rfl rfl rfl rfl (Nat.le_of_ble_eq_true rfl) rfl rfl wT_fst dL_law_677 ?_
  refine j_aload_n C dL_law_680 rfl ?_
  refine j_aload_n C dL_law_681 rfl ?_
  refine j_iload_n C dL_law_682 rfl ?_
  refine j_iconst C ic_1 dL_law_683 ?_
  refine j_iadd C dL_law_684 ?_
  refine j_sld C hX hbl hbA hi1 rfl dL_law_685 ?_
  refine j_perm perm_law ?_
  refine j_callV C cl_L_103 (c_X9_leader h2) ⟨Nat.le_of_ble_eq_true rfl, Nat.le_of_ble_eq_true rfl⟩ ⟨Nat.le_of_ble_eq_true rfl, Nat.le_of_ble_eq_true rfl⟩ (q0 := 0) rfl rfl rfl rfl (Nat.le_of_ble_eq_true rfl) rfl rfl wM_fst dL_law_686 ?_
  refine j_perm (ws' := (wT a d o hh sl sb cI cS σ rc.2 h (wM mb cI s P rm.2 n hs []))) perm_law.symm ?_
  refine j_icmp_eq C (tgt := 869) (by decide) dL_law_689 (fun _ => ?_) (fun z => absurd heq z)
  exact K _ _ _ _ _ _ _ _ hR
def St_learner (Rel : RelT) : Prop := ∀ (σ : Nat → Nat → Int32) (t : Nat → Int32) (h : Nat → Nat → Nat → Int32) (s P E : Nat → Int32) (n : Int32) (x : Int32), Rel σ t h s P E n → ∃ (rc : Int32 × (Nat → Int32)) (rm : Int32 × (Nat → Int32)), f_X8_learner σ t h x = some rc ∧ f_X9_learner s E x = some rm ∧ rc.1 = rm.1 ∧ Rel σ rc.2 h s P rm.2 n
set_option maxRecDepth 100000 in
set_option maxHeartbeats 4000000 in
theorem law_learner {p : Program} {l : Launch} {e : Env} {s_ : State} {m : MethodId} {below : List Frame} {meth : Method} {c : Code} {D : va_G} {cI cS : ClassId} {b L : Nat} {xv : Nat → Int32} {a : Nat → Nat} {d o hh sl : Nat} {sb : Nat → Nat → Nat} {mb : Nat → Nat} {σ : Nat → Nat → Int32} {t : Nat → Int32} {h : Nat → Nat → Nat → Int32} {s P E : Nat → Int32} {n : Int32} {hs : Int64} {x3 : Int32} (C : cx p s_ m #[Value.ref b] meth c code 4 RL ret D cI cS) (hX : va_X b L xv s_ s_.heap) (hbl : b < s_.heap.size) (hbA : ¬ (fun q : Nat => s_.heap.size ≤ q) b) (hi1 : vp_in (x3 + (1 : Int32)) L) (hi2 : vp_in (x3 + (2 : Int32)) L) {Rel : RelT} (hSt : St_learner Rel) (hRel : Rel σ t h s P E n)
    (K : ∀ (σ : Nat → Nat → Int32) (t : Nat → Int32) (h : Nat → Nat → Nat → Int32) (s P E : Nat → Int32) (n : Int32) (hs : Int64), Rel σ t h s P E n → jN p l e room_1 s_ m #[Value.ref b] below meth c 4 D (fun q : Nat => s_.heap.size ≤ q) (lw_Z below #[Value.ref b] s_) 98 3070 (wT a d o hh sl sb cI cS σ t h (wM mb cI s P E n hs [])) [some (.ref b), some (.ref o), some (.ref (mb 0)), some (.int x3)] 869 []) : jN p l e room_1 s_ m #[Value.ref b] below meth c 4 D (fun q : Nat => s_.heap.size ≤ q) (lw_Z below #[Value.ref b] s_) 98 3070 (wT a d o hh sl sb cI cS σ t h (wM mb cI s P E n hs [])) [some (.ref b), some (.ref o), some (.ref (mb 0)), some (.int x3)] 694 [] := by
  obtain ⟨rc, rm, h1, h2, heq, hR⟩ := hSt σ t h s P E n (xv (x3 + (1 : Int32)).toNatClampNeg) hRel
  refine j_aload_n C dL_law_694 rfl ?_
  refine j_aload_n C dL_law_695 rfl ?_
  refine j_iload_n C dL_law_696 rfl ?_
  refine j_iconst C ic_1 dL_law_697 ?_
  refine j_iadd C dL_law_698 ?_
  refine j_sld C hX hbl hbA hi1 rfl dL_law_699 ?_
  refine j_callV C cl_L_104 (c_X8_learner h1) ⟨Nat.le_of_ble_eq_true rfl, Nat.le_of_ble_eq_true rfl⟩ ⟨Nat.le_of_ble_eq_true rfl, Nat.le_of_ble_eq_true rfl⟩ (q0 := 19) rfl rfl rfl rfl (Nat.le_of_ble_eq_true rfl) rfl rfl wT_fst dL_law_700 ?_
  refine j_aload_n C dL_law_703 rfl ?_
  refine j_aload_n C dL_law_704 rfl ?_
  refine j_iload_n C dL_law_705 rfl ?_
  refine j_iconst C ic_1 dL_law_706 ?_
  refine j_iadd C dL_law_707 ?_
  refine j_sld C hX hbl hbA hi1 rfl dL_law_708 ?_
  refine j_perm perm_law ?_
  refine j_callV C cl_L_107 (c_X9_learner h2) ⟨Nat.le_of_ble_eq_true rfl, Nat.le_of_ble_eq_true rfl⟩ ⟨Nat.le_of_ble_eq_true rfl, Nat.le_of_ble_eq_true rfl⟩ (q0 := 0) rfl rfl rfl rfl (Nat.le_of_ble_eq_true rfl) rfl rfl wM_fst dL_law_709 ?_
  refine j_perm (ws' := (wT a d o hh sl sb cI cS σ rc.2 h (wM mb cI s P rm.2 n hs []))) perm_law.symm ?_
  refine j_icmp_eq C (tgt := 869) (by decide) dL_law_712 (fun _ => ?_) (fun z => absurd heq z)
  exact K _ _ _ _ _ _ _ _ hR
def St_isAvailable (Rel : RelT) : Prop := ∀ (σ : Nat → Nat → Int32) (t : Nat → Int32) (h : Nat → Nat → Nat → Int32) (s P E : Nat → Int32) (n : Int32) (x : Int32), Rel σ t h s P E n → ∃ (rc : Int32 × (Nat → Int32)) (rm : Int32 × (Nat → Int32)), f_X8_isAvailable σ t h x = some rc ∧ f_X9_isAvailable s E x = some rm ∧ rc.1 = rm.1 ∧ Rel σ rc.2 h s P rm.2 n
set_option maxRecDepth 100000 in
set_option maxHeartbeats 4000000 in
theorem law_isAvailable {p : Program} {l : Launch} {e : Env} {s_ : State} {m : MethodId} {below : List Frame} {meth : Method} {c : Code} {D : va_G} {cI cS : ClassId} {b L : Nat} {xv : Nat → Int32} {a : Nat → Nat} {d o hh sl : Nat} {sb : Nat → Nat → Nat} {mb : Nat → Nat} {σ : Nat → Nat → Int32} {t : Nat → Int32} {h : Nat → Nat → Nat → Int32} {s P E : Nat → Int32} {n : Int32} {hs : Int64} {x3 : Int32} (C : cx p s_ m #[Value.ref b] meth c code 4 RL ret D cI cS) (hX : va_X b L xv s_ s_.heap) (hbl : b < s_.heap.size) (hbA : ¬ (fun q : Nat => s_.heap.size ≤ q) b) (hi1 : vp_in (x3 + (1 : Int32)) L) (hi2 : vp_in (x3 + (2 : Int32)) L) {Rel : RelT} (hSt : St_isAvailable Rel) (hRel : Rel σ t h s P E n)
    (K : ∀ (σ : Nat → Nat → Int32) (t : Nat → Int32) (h : Nat → Nat → Nat → Int32) (s P E : Nat → Int32) (n : Int32) (hs : Int64), Rel σ t h s P E n → jN p l e room_1 s_ m #[Value.ref b] below meth c 4 D (fun q : Nat => s_.heap.size ≤ q) (lw_Z below #[Value.ref b] s_) 98 3070 (wT a d o hh sl sb cI cS σ t h (wM mb cI s P E n hs [])) [some (.ref b), some (.ref o), some (.ref (mb 0)), some (.int x3)] 869 []) : jN p l e room_1 s_ m #[Value.ref b] below meth c 4 D (fun q : Nat => s_.heap.size ≤ q) (lw_Z below #[Value.ref b] s_) 98 3070 (wT a d o hh sl sb cI cS σ t h (wM mb cI s P E n hs [])) [some (.ref b), some (.ref o), some (.ref (mb 0)), some (.int x3)] 717 [] := by
  obtain ⟨rc, rm, h1, h2, heq, hR⟩ := hSt σ t h s P E n (xv (x3 + (1 : Int32)).toNatClampNeg) hRel
  refine j_aload_n C dL_law_717 rfl ?_
  refine j_aload_n C dL_law_718 rfl ?_
  refine j_iload_n C dL_law_719 rfl ?_
  refine j_iconst C ic_1 dL_law_720 ?_
  refine j_iadd C dL_law_721 ?_
  refine j_sld C hX hbl hbA hi1 rfl dL_law_722 ?_
  refine j_callV C cl_L_108 (c_X8_isAvailable h1) ⟨Nat.le_of_ble_eq_true rfl, Nat.le_of_ble_eq_true rfl⟩ ⟨Nat.le_of_ble_eq_true rfl, Nat.le_of_ble_eq_true rfl⟩ (q0 := 19) rfl rfl rfl rfl (Nat.le_of_ble_eq_true rfl) rfl rfl wT_fst dL_law_723 ?_
  refine j_aload_n C dL_law_726 rfl ?_
  refine j_aload_n C dL_law_727 rfl ?_
  refine j_iload_n C dL_law_728 rfl ?_
  refine j_iconst C ic_1 dL_law_729 ?_
  refine j_iadd C dL_law_730 ?_
  refine j_sld C hX hbl hbA hi1 rfl dL_law_731 ?_
  refine j_perm perm_law ?_
  refine j_callV C cl_L_111 (c_X9_isAvailable h2) ⟨Nat.le_of_ble_eq_true rfl, Nat.le_of_ble_eq_true rfl⟩ ⟨Nat.le_of_ble_eq_true rfl, Nat.le_of_ble_eq_true rfl⟩ (q0 := 0) rfl rfl rfl rfl (Nat.le_of_ble_eq_true rfl) rfl rfl wM_fst dL_law_732 ?_
  refine j_perm (ws' := (wT a d o hh sl sb cI cS σ rc.2 h (wM mb cI s P rm.2 n hs []))) perm_law.symm ?_
  refine j_icmp_eq C (tgt := 869) (by decide) dL_law_735 (fun _ => ?_) (fun z => absurd heq z)
  exact K _ _ _ _ _ _ _ _ hR
def St_splitKey (Rel : RelT) : Prop := ∀ (σ : Nat → Nat → Int32) (t : Nat → Int32) (h : Nat → Nat → Nat → Int32) (s P E : Nat → Int32) (n : Int32) (x : Int32) (y : Int32), Rel σ t h s P E n → ∃ (rc : Int32 × (Nat → Int32)) (rm : Int32 × (Nat → Int32)), f_X8_splitKey σ t h x y = some rc ∧ f_X9_splitKey s E x y = some rm ∧ rc.1 = rm.1 ∧ Rel σ rc.2 h s P rm.2 n
set_option maxRecDepth 100000 in
set_option maxHeartbeats 4000000 in
theorem law_splitKey {p : Program} {l : Launch} {e : Env} {s_ : State} {m : MethodId} {below : List Frame} {meth : Method} {c : Code} {D : va_G} {cI cS : ClassId} {b L : Nat} {xv : Nat → Int32} {a : Nat → Nat} {d o hh sl : Nat} {sb : Nat → Nat → Nat} {mb : Nat → Nat} {σ : Nat → Nat → Int32} {t : Nat → Int32} {h : Nat → Nat → Nat → Int32} {s P E : Nat → Int32} {n : Int32} {hs : Int64} {x3 : Int32} (C : cx p s_ m #[Value.ref b] meth c code 4 RL ret D cI cS) (hX : va_X b L xv s_ s_.heap) (hbl : b < s_.heap.size) (hbA : ¬ (fun q : Nat => s_.heap.size ≤ q) b) (hi1 : vp_in (x3 + (1 : Int32)) L) (hi2 : vp_in (x3 + (2 : Int32)) L) {Rel : RelT} (hSt : St_splitKey Rel) (hRel : Rel σ t h s P E n)
    (K : ∀ (σ : Nat → Nat → Int32) (t : Nat → Int32) (h : Nat → Nat → Nat → Int32) (s P E : Nat → Int32) (n : Int32) (hs : Int64), Rel σ t h s P E n → jN p l e room_1 s_ m #[Value.ref b] below meth c 4 D (fun q : Nat => s_.heap.size ≤ q) (lw_Z below #[Value.ref b] s_) 98 3070 (wT a d o hh sl sb cI cS σ t h (wM mb cI s P E n hs [])) [some (.ref b), some (.ref o), some (.ref (mb 0)), some (.int x3)] 869 []) : jN p l e room_1 s_ m #[Value.ref b] below meth c 4 D (fun q : Nat => s_.heap.size ≤ q) (lw_Z below #[Value.ref b] s_) 98 3070 (wT a d o hh sl sb cI cS σ t h (wM mb cI s P E n hs [])) [some (.ref b), some (.ref o), some (.ref (mb 0)), some (.int x3)] 740 [] := by
  obtain ⟨rc, rm, h1, h2, heq, hR⟩ := hSt σ t h s P E n (xv (x3 + (1 : Int32)).toNatClampNeg) (xv (x3 + (2 : Int32)).toNatClampNeg) hRel
  refine j_aload_n C dL_law_740 rfl ?_
  refine j_aload_n C dL_law_741 rfl ?_
  refine j_iload_n C dL_law_742 rfl ?_
  refine j_iconst C ic_1 dL_law_743 ?_
  refine j_iadd C dL_law_744 ?_
  refine j_sld C hX hbl hbA hi1 rfl dL_law_745 ?_
  refine j_aload_n C dL_law_746 rfl ?_
  refine j_iload_n C dL_law_747 rfl ?_
  refine j_iconst C ic_2 dL_law_748 ?_
  refine j_iadd C dL_law_749 ?_
  refine j_sld C hX hbl hbA hi2 rfl dL_law_750 ?_
  refine j_callV C cl_L_112 (c_X8_splitKey h1) ⟨Nat.le_of_ble_eq_true rfl, Nat.le_of_ble_eq_true rfl⟩ ⟨Nat.le_of_ble_eq_true rfl, Nat.le_of_ble_eq_true rfl⟩ (q0 := 19) rfl rfl rfl rfl (Nat.le_of_ble_eq_true rfl) rfl rfl wT_fst dL_law_751 ?_
  refine j_aload_n C dL_law_754 rfl ?_
  refine j_aload_n C dL_law_755 rfl ?_
  refine j_iload_n C dL_law_756 rfl ?_
  refine j_iconst C ic_1 dL_law_757 ?_
  refine j_iadd C dL_law_758 ?_
  refine j_sld C hX hbl hbA hi1 rfl dL_law_759 ?_
  refine j_aload_n C dL_law_760 rfl ?_
  refine j_iload_n C dL_law_761 rfl ?_
  refine j_iconst C ic_2 dL_law_762 ?_
  refine j_iadd C dL_law_763 ?_
  refine j_sld C hX hbl hbA hi2 rfl dL_law_764 ?_
  refine j_perm perm_law ?_
  refine j_callV C cl_L_115 (c_X9_splitKey h2) ⟨Nat.le_of_ble_eq_true rfl, Nat.le_of_ble_eq_true rfl⟩ ⟨Nat.le_of_ble_eq_true rfl, Nat.le_of_ble_eq_true rfl⟩ (q0 := 0) rfl rfl rfl rfl (Nat.le_of_ble_eq_true rfl) rfl rfl wM_fst dL_law_765 ?_
  refine j_perm (ws' := (wT a d o hh sl sb cI cS σ rc.2 h (wM mb cI s P rm.2 n hs []))) perm_law.symm ?_
  refine j_icmp_eq C (tgt := 869) (by decide) dL_law_768 (fun _ => ?_) (fun z => absurd heq z)
  exact K _ _ _ _ _ _ _ _ hR
def St_replicas (Rel : RelT) : Prop := ∀ (σ : Nat → Nat → Int32) (t : Nat → Int32) (h : Nat → Nat → Nat → Int32) (s P E : Nat → Int32) (n : Int32) (x : Int32), Rel σ t h s P E n → ∃ (rc : Int32 × (Nat → Int32)) (rm : Int32 × (Nat → Int32)), f_X8_replicas σ t h x = some rc ∧ f_X9_replicas s E x = some rm ∧ rc.1 = rm.1 ∧ Rel σ rc.2 h s P rm.2 n
set_option maxRecDepth 100000 in
set_option maxHeartbeats 4000000 in
theorem law_replicas {p : Program} {l : Launch} {e : Env} {s_ : State} {m : MethodId} {below : List Frame} {meth : Method} {c : Code} {D : va_G} {cI cS : ClassId} {b L : Nat} {xv : Nat → Int32} {a : Nat → Nat} {d o hh sl : Nat} {sb : Nat → Nat → Nat} {mb : Nat → Nat} {σ : Nat → Nat → Int32} {t : Nat → Int32} {h : Nat → Nat → Nat → Int32} {s P E : Nat → Int32} {n : Int32} {hs : Int64} {x3 : Int32} (C : cx p s_ m #[Value.ref b] meth c code 4 RL ret D cI cS) (hX : va_X b L xv s_ s_.heap) (hbl : b < s_.heap.size) (hbA : ¬ (fun q : Nat => s_.heap.size ≤ q) b) (hi1 : vp_in (x3 + (1 : Int32)) L) (hi2 : vp_in (x3 + (2 : Int32)) L) {Rel : RelT} (hSt : St_replicas Rel) (hRel : Rel σ t h s P E n)
    (K : ∀ (σ : Nat → Nat → Int32) (t : Nat → Int32) (h : Nat → Nat → Nat → Int32) (s P E : Nat → Int32) (n : Int32) (hs : Int64), Rel σ t h s P E n → jN p l e room_1 s_ m #[Value.ref b] below meth c 4 D (fun q : Nat => s_.heap.size ≤ q) (lw_Z below #[Value.ref b] s_) 98 3070 (wT a d o hh sl sb cI cS σ t h (wM mb cI s P E n hs [])) [some (.ref b), some (.ref o), some (.ref (mb 0)), some (.int x3)] 869 []) : jN p l e room_1 s_ m #[Value.ref b] below meth c 4 D (fun q : Nat => s_.heap.size ≤ q) (lw_Z below #[Value.ref b] s_) 98 3070 (wT a d o hh sl sb cI cS σ t h (wM mb cI s P E n hs [])) [some (.ref b), some (.ref o), some (.ref (mb 0)), some (.int x3)] 773 [] := by
  obtain ⟨rc, rm, h1, h2, heq, hR⟩ := hSt σ t h s P E n (xv (x3 + (1 : Int32)).toNatClampNeg) hRel
  refine j_aload_n C dL_law_773 rfl ?_
  refine j_aload_n C dL_law_774 rfl ?_
  refine j_iload_n C dL_law_775 rfl ?_
  refine j_iconst C ic_1 dL_law_776 ?_
  refine j_iadd C dL_law_777 ?_
  refine j_sld C hX hbl hbA hi1 rfl dL_law_778 ?_
  refine j_callV C cl_L_116 (c_X8_replicas h1) ⟨Nat.le_of_ble_eq_true rfl, Nat.le_of_ble_eq_true rfl⟩ ⟨Nat.le_of_ble_eq_true rfl, Nat.le_of_ble_eq_true rfl⟩ (q0 := 19) rfl rfl rfl rfl (Nat.le_of_ble_eq_true rfl) rfl rfl wT_fst dL_law_779 ?_
  refine j_aload_n C dL_law_782 rfl ?_
  refine j_aload_n C dL_law_783 rfl ?_
  refine j_iload_n C dL_law_784 rfl ?_
  refine j_iconst C ic_1 dL_law_785 ?_
  refine j_iadd C dL_law_786 ?_
  refine j_sld C hX hbl hbA hi1 rfl dL_law_787 ?_
  refine j_perm perm_law ?_
  refine j_callV C cl_L_119 (c_X9_replicas h2) ⟨Nat.le_of_ble_eq_true rfl, Nat.le_of_ble_eq_true rfl⟩ ⟨Nat.le_of_ble_eq_true rfl, Nat.le_of_ble_eq_true rfl⟩ (q0 := 0) rfl rfl rfl rfl (Nat.le_of_ble_eq_true rfl) rfl rfl wM_fst dL_law_788 ?_
  refine j_perm (ws' := (wT a d o hh sl sb cI cS σ rc.2 h (wM mb cI s P rm.2 n hs []))) perm_law.symm ?_
  refine j_icmp_eq C (tgt := 869) (by decide) dL_law_791 (fun _ => ?_) (fun z => absurd heq z)
  exact K _ _ _ _ _ _ _ _ hR
def St_leaders (Rel : RelT) : Prop := ∀ (σ : Nat → Nat → Int32) (t : Nat → Int32) (h : Nat → Nat → Nat → Int32) (s P E : Nat → Int32) (n : Int32) (x : Int32), Rel σ t h s P E n → ∃ (rc : Int32 × (Nat → Int32)) (rm : Int32 × (Nat → Int32)), f_X8_leaders σ t h x = some rc ∧ f_X9_leaders s E x = some rm ∧ rc.1 = rm.1 ∧ Rel σ rc.2 h s P rm.2 n
set_option maxRecDepth 100000 in
set_option maxHeartbeats 4000000 in
theorem law_leaders {p : Program} {l : Launch} {e : Env} {s_ : State} {m : MethodId} {below : List Frame} {meth : Method} {c : Code} {D : va_G} {cI cS : ClassId} {b L : Nat} {xv : Nat → Int32} {a : Nat → Nat} {d o hh sl : Nat} {sb : Nat → Nat → Nat} {mb : Nat → Nat} {σ : Nat → Nat → Int32} {t : Nat → Int32} {h : Nat → Nat → Nat → Int32} {s P E : Nat → Int32} {n : Int32} {hs : Int64} {x3 : Int32} (C : cx p s_ m #[Value.ref b] meth c code 4 RL ret D cI cS) (hX : va_X b L xv s_ s_.heap) (hbl : b < s_.heap.size) (hbA : ¬ (fun q : Nat => s_.heap.size ≤ q) b) (hi1 : vp_in (x3 + (1 : Int32)) L) (hi2 : vp_in (x3 + (2 : Int32)) L) {Rel : RelT} (hSt : St_leaders Rel) (hRel : Rel σ t h s P E n)
    (K : ∀ (σ : Nat → Nat → Int32) (t : Nat → Int32) (h : Nat → Nat → Nat → Int32) (s P E : Nat → Int32) (n : Int32) (hs : Int64), Rel σ t h s P E n → jN p l e room_1 s_ m #[Value.ref b] below meth c 4 D (fun q : Nat => s_.heap.size ≤ q) (lw_Z below #[Value.ref b] s_) 98 3070 (wT a d o hh sl sb cI cS σ t h (wM mb cI s P E n hs [])) [some (.ref b), some (.ref o), some (.ref (mb 0)), some (.int x3)] 869 []) : jN p l e room_1 s_ m #[Value.ref b] below meth c 4 D (fun q : Nat => s_.heap.size ≤ q) (lw_Z below #[Value.ref b] s_) 98 3070 (wT a d o hh sl sb cI cS σ t h (wM mb cI s P E n hs [])) [some (.ref b), some (.ref o), some (.ref (mb 0)), some (.int x3)] 796 [] := by
  obtain ⟨rc, rm, h1, h2, heq, hR⟩ := hSt σ t h s P E n (xv (x3 + (1 : Int32)).toNatClampNeg) hRel
  refine j_aload_n C dL_law_796 rfl ?_
  refine j_aload_n C dL_law_797 rfl ?_
  refine j_iload_n C dL_law_798 rfl ?_
  refine j_iconst C ic_1 dL_law_799 ?_
  refine j_iadd C dL_law_800 ?_
  refine j_sld C hX hbl hbA hi1 rfl dL_law_801 ?_
  refine j_callV C cl_L_120 (c_X8_leaders h1) ⟨Nat.le_of_ble_eq_true rfl, Nat.le_of_ble_eq_true rfl⟩ ⟨Nat.le_of_ble_eq_true rfl, Nat.le_of_ble_eq_true rfl⟩ (q0 := 19) rfl rfl rfl rfl (Nat.le_of_ble_eq_true rfl) rfl rfl wT_fst dL_law_802 ?_
  refine j_aload_n C dL_law_805 rfl ?_
  refine j_aload_n C dL_law_806 rfl ?_
  refine j_iload_n C dL_law_807 rfl ?_
  refine j_iconst C ic_1 dL_law_808 ?_
  refine j_iadd C dL_law_809 ?_
  refine j_sld C hX hbl hbA hi1 rfl dL_law_810 ?_
  refine j_perm perm_law ?_
  refine j_callV C cl_L_123 (c_X9_leaders h2) ⟨Nat.le_of_ble_eq_true rfl, Nat.le_of_ble_eq_true rfl⟩ ⟨Nat.le_of_ble_eq_true rfl, Nat.le_of_ble_eq_true rfl⟩ (q0 := 0) rfl rfl rfl rfl (Nat.le_of_ble_eq_true rfl) rfl rfl wM_fst dL_law_811 ?_
  refine j_perm (ws' := (wT a d o hh sl sb cI cS σ rc.2 h (wM mb cI s P rm.2 n hs []))) perm_law.symm ?_
  refine j_icmp_eq C (tgt := 869) (by decide) dL_law_814 (fun _ => ?_) (fun z => absurd heq z)
  exact K _ _ _ _ _ _ _ _ hR
def St_undo (Rel : RelT) : Prop := ∀ (σ : Nat → Nat → Int32) (t : Nat → Int32) (h : Nat → Nat → Nat → Int32) (s P E : Nat → Int32) (n : Int32), Rel σ t h s P E n → ∃ (rc : Int32 × (Nat → Nat → Int32) × (Nat → Int32)) (rm : Int32 × (Nat → Int32) × (Nat → Int32) × (Int32)), f_X8_undo σ t h = some rc ∧ f_X9_undo s P E n = some rm ∧ rc.1 = rm.1 ∧ Rel rc.2.1 rc.2.2 h rm.2.1 P rm.2.2.1 rm.2.2.2
set_option maxRecDepth 100000 in
set_option maxHeartbeats 4000000 in
theorem law_undo {p : Program} {l : Launch} {e : Env} {s_ : State} {m : MethodId} {below : List Frame} {meth : Method} {c : Code} {D : va_G} {cI cS : ClassId} {b L : Nat} {xv : Nat → Int32} {a : Nat → Nat} {d o hh sl : Nat} {sb : Nat → Nat → Nat} {mb : Nat → Nat} {σ : Nat → Nat → Int32} {t : Nat → Int32} {h : Nat → Nat → Nat → Int32} {s P E : Nat → Int32} {n : Int32} {hs : Int64} {x3 : Int32} (C : cx p s_ m #[Value.ref b] meth c code 4 RL ret D cI cS) (hX : va_X b L xv s_ s_.heap) (hbl : b < s_.heap.size) (hbA : ¬ (fun q : Nat => s_.heap.size ≤ q) b) (hi1 : vp_in (x3 + (1 : Int32)) L) (hi2 : vp_in (x3 + (2 : Int32)) L) {Rel : RelT} (hSt : St_undo Rel) (hRel : Rel σ t h s P E n)
    (K : ∀ (σ : Nat → Nat → Int32) (t : Nat → Int32) (h : Nat → Nat → Nat → Int32) (s P E : Nat → Int32) (n : Int32) (hs : Int64), Rel σ t h s P E n → jN p l e room_1 s_ m #[Value.ref b] below meth c 4 D (fun q : Nat => s_.heap.size ≤ q) (lw_Z below #[Value.ref b] s_) 98 3070 (wT a d o hh sl sb cI cS σ t h (wM mb cI s P E n hs [])) [some (.ref b), some (.ref o), some (.ref (mb 0)), some (.int x3)] 869 []) : jN p l e room_1 s_ m #[Value.ref b] below meth c 4 D (fun q : Nat => s_.heap.size ≤ q) (lw_Z below #[Value.ref b] s_) 98 3070 (wT a d o hh sl sb cI cS σ t h (wM mb cI s P E n hs [])) [some (.ref b), some (.ref o), some (.ref (mb 0)), some (.int x3)] 819 [] := by
  obtain ⟨rc, rm, h1, h2, heq, hR⟩ := hSt σ t h s P E n  hRel
  refine j_aload_n C dL_law_819 rfl ?_
  refine j_callV C cl_L_124 (c_X8_undo h1) ⟨Nat.le_of_ble_eq_true rfl, Nat.le_of_ble_eq_true rfl⟩ ⟨Nat.le_of_ble_eq_true rfl, Nat.le_of_ble_eq_true rfl⟩ (q0 := 19) rfl rfl rfl rfl (Nat.le_of_ble_eq_true rfl) rfl rfl wT_fst dL_law_820 ?_
  refine j_aload_n C dL_law_823 rfl ?_
  refine j_perm perm_law ?_
  refine j_callV C cl_L_127 (c_X9_undo h2) ⟨Nat.le_of_ble_eq_true rfl, Nat.le_of_ble_eq_true rfl⟩ ⟨Nat.le_of_ble_eq_true rfl, Nat.le_of_ble_eq_true rfl⟩ (q0 := 0) rfl rfl rfl rfl (Nat.le_of_ble_eq_true rfl) rfl rfl wM_fst dL_law_824 ?_
  refine j_perm (ws' := (wT a d o hh sl sb cI cS rc.2.1 rc.2.2 h (wM mb cI rm.2.1 P rm.2.2.1 rm.2.2.2 hs []))) perm_law.symm ?_
  refine j_icmp_eq C (tgt := 869) (by decide) dL_law_827 (fun _ => ?_) (fun z => absurd heq z)
  exact K _ _ _ _ _ _ _ _ hR
def St_errorCount (Rel : RelT) : Prop := ∀ (σ : Nat → Nat → Int32) (t : Nat → Int32) (h : Nat → Nat → Nat → Int32) (s P E : Nat → Int32) (n : Int32) (x : Int32), Rel σ t h s P E n → ∃ (rc : Int32 × (Nat → Int32)) (rm : Int32 × (Nat → Int32)), f_X8_errorCount σ t h x = some rc ∧ f_X9_errorCount E x = some rm ∧ rc.1 = rm.1 ∧ Rel σ rc.2 h s P rm.2 n
set_option maxRecDepth 100000 in
set_option maxHeartbeats 4000000 in
theorem law_errorCount {p : Program} {l : Launch} {e : Env} {s_ : State} {m : MethodId} {below : List Frame} {meth : Method} {c : Code} {D : va_G} {cI cS : ClassId} {b L : Nat} {xv : Nat → Int32} {a : Nat → Nat} {d o hh sl : Nat} {sb : Nat → Nat → Nat} {mb : Nat → Nat} {σ : Nat → Nat → Int32} {t : Nat → Int32} {h : Nat → Nat → Nat → Int32} {s P E : Nat → Int32} {n : Int32} {hs : Int64} {x3 : Int32} (C : cx p s_ m #[Value.ref b] meth c code 4 RL ret D cI cS) (hX : va_X b L xv s_ s_.heap) (hbl : b < s_.heap.size) (hbA : ¬ (fun q : Nat => s_.heap.size ≤ q) b) (hi1 : vp_in (x3 + (1 : Int32)) L) (hi2 : vp_in (x3 + (2 : Int32)) L) {Rel : RelT} (hSt : St_errorCount Rel) (hRel : Rel σ t h s P E n)
    (K : ∀ (σ : Nat → Nat → Int32) (t : Nat → Int32) (h : Nat → Nat → Nat → Int32) (s P E : Nat → Int32) (n : Int32) (hs : Int64), Rel σ t h s P E n → jN p l e room_1 s_ m #[Value.ref b] below meth c 4 D (fun q : Nat => s_.heap.size ≤ q) (lw_Z below #[Value.ref b] s_) 98 3070 (wT a d o hh sl sb cI cS σ t h (wM mb cI s P E n hs [])) [some (.ref b), some (.ref o), some (.ref (mb 0)), some (.int x3)] 869 []) : jN p l e room_1 s_ m #[Value.ref b] below meth c 4 D (fun q : Nat => s_.heap.size ≤ q) (lw_Z below #[Value.ref b] s_) 98 3070 (wT a d o hh sl sb cI cS σ t h (wM mb cI s P E n hs [])) [some (.ref b), some (.ref o), some (.ref (mb 0)), some (.int x3)] 832 [] := by
  obtain ⟨rc, rm, h1, h2, heq, hR⟩ := hSt σ t h s P E n (xv (x3 + (1 : Int32)).toNatClampNeg) hRel
  refine j_aload_n C dL_law_832 rfl ?_
  refine j_aload_n C dL_law_833 rfl ?_
  refine j_iload_n C dL_law_834 rfl ?_
  refine j_iconst C ic_1 dL_law_835 ?_
  refine j_iadd C dL_law_836 ?_
  refine j_sld C hX hbl hbA hi1 rfl dL_law_837 ?_
  refine j_callV C cl_L_128 (c_X8_errorCount h1) ⟨Nat.le_of_ble_eq_true rfl, Nat.le_of_ble_eq_true rfl⟩ ⟨Nat.le_of_ble_eq_true rfl, Nat.le_of_ble_eq_true rfl⟩ (q0 := 19) rfl rfl rfl rfl (Nat.le_of_ble_eq_true rfl) rfl rfl wT_fst dL_law_838 ?_
  refine j_aload_n C dL_law_841 rfl ?_
  refine j_aload_n C dL_law_842 rfl ?_
  refine j_iload_n C dL_law_843 rfl ?_
  refine j_iconst C ic_1 dL_law_844 ?_
  refine j_iadd C dL_law_845 ?_
  refine j_sld C hX hbl hbA hi1 rfl dL_law_846 ?_
  refine j_perm perm_law ?_
  refine j_callV C cl_L_131 (c_X9_errorCount h2) ⟨Nat.le_of_ble_eq_true rfl, Nat.le_of_ble_eq_true rfl⟩ ⟨Nat.le_of_ble_eq_true rfl, Nat.le_of_ble_eq_true rfl⟩ (q0 := 0) rfl rfl rfl rfl (Nat.le_of_ble_eq_true rfl) rfl rfl wM_fst dL_law_847 ?_
  refine j_perm (ws' := (wT a d o hh sl sb cI cS σ rc.2 h (wM mb cI s P rm.2 n hs []))) perm_law.symm ?_
  refine j_icmp_eq C (tgt := 869) (by decide) dL_law_850 (fun _ => ?_) (fun z => absurd heq z)
  exact K _ _ _ _ _ _ _ _ hR
def St_digest (Rel : RelT) : Prop := ∀ (σ : Nat → Nat → Int32) (t : Nat → Int32) (h : Nat → Nat → Nat → Int32) (s P E : Nat → Int32) (n : Int32) (hs : Int64), Rel σ t h s P E n → ∃ (rc : Int64) (rm : Int64 × (Int64)), f_X8_digest σ t h = some rc ∧ f_X9_digest s E n hs = some rm ∧ rc = rm.1 ∧ Rel σ t h s P E n
set_option maxRecDepth 100000 in
set_option maxHeartbeats 4000000 in
theorem law_digest {p : Program} {l : Launch} {e : Env} {s_ : State} {m : MethodId} {below : List Frame} {meth : Method} {c : Code} {D : va_G} {cI cS : ClassId} {b L : Nat} {xv : Nat → Int32} {a : Nat → Nat} {d o hh sl : Nat} {sb : Nat → Nat → Nat} {mb : Nat → Nat} {σ : Nat → Nat → Int32} {t : Nat → Int32} {h : Nat → Nat → Nat → Int32} {s P E : Nat → Int32} {n : Int32} {hs : Int64} {x3 : Int32} (C : cx p s_ m #[Value.ref b] meth c code 4 RL ret D cI cS) (hX : va_X b L xv s_ s_.heap) (hbl : b < s_.heap.size) (hbA : ¬ (fun q : Nat => s_.heap.size ≤ q) b) (hi1 : vp_in (x3 + (1 : Int32)) L) (hi2 : vp_in (x3 + (2 : Int32)) L) {Rel : RelT} (hSt : St_digest Rel) (hRel : Rel σ t h s P E n)
    (K : ∀ (σ : Nat → Nat → Int32) (t : Nat → Int32) (h : Nat → Nat → Nat → Int32) (s P E : Nat → Int32) (n : Int32) (hs : Int64), Rel σ t h s P E n → jN p l e room_1 s_ m #[Value.ref b] below meth c 4 D (fun q : Nat => s_.heap.size ≤ q) (lw_Z below #[Value.ref b] s_) 98 3070 (wT a d o hh sl sb cI cS σ t h (wM mb cI s P E n hs [])) [some (.ref b), some (.ref o), some (.ref (mb 0)), some (.int x3)] 869 []) : jN p l e room_1 s_ m #[Value.ref b] below meth c 4 D (fun q : Nat => s_.heap.size ≤ q) (lw_Z below #[Value.ref b] s_) 98 3070 (wT a d o hh sl sb cI cS σ t h (wM mb cI s P E n hs [])) [some (.ref b), some (.ref o), some (.ref (mb 0)), some (.int x3)] 855 [] := by
  obtain ⟨rc, rm, h1, h2, heq, hR⟩ := hSt σ t h s P E n hs  hRel
  refine j_aload_n C dL_law_855 rfl ?_
  refine j_callV C cl_L_132 (c_X8_digest h1) ⟨Nat.le_of_ble_eq_true rfl, Nat.le_of_ble_eq_true rfl⟩ ⟨Nat.le_of_ble_eq_true rfl, Nat.le_of_ble_eq_true rfl⟩ (q0 := 19) rfl rfl rfl rfl (Nat.le_of_ble_eq_true rfl) rfl rfl rfl dL_law_856 ?_
  refine j_aload_n C dL_law_859 rfl ?_
  refine j_perm perm_law ?_
  refine j_callV C cl_L_136 (c_X9_digest h2) ⟨Nat.le_of_ble_eq_true rfl, Nat.le_of_ble_eq_true rfl⟩ ⟨Nat.le_of_ble_eq_true rfl, Nat.le_of_ble_eq_true rfl⟩ (q0 := 0) rfl rfl rfl rfl (Nat.le_of_ble_eq_true rfl) rfl rfl wM_fst dL_law_860 ?_
  refine j_perm (ws' := (wT a d o hh sl sb cI cS σ t h (wM mb cI s P E n rm.2 []))) perm_law.symm ?_
  rw [heq]
  refine j_lcmp C dL_law_863 ?_
  refine j_if_eq C (tgt := 869) (by decide) dL_law_864 (fun _ => ?_) (fun z => absurd rfl z)
  exact K _ _ _ _ _ _ _ _ hR
def St_all (Rel : RelT) : Prop := St_addNode Rel ∧ St_setNode Rel ∧ St_setReplication Rel ∧ St_setSizes Rel ∧ St_setLoads Rel ∧ St_setSpeed Rel ∧ St_put Rel ∧ St_remove Rel ∧ St_access Rel ∧ St_splitAt Rel ∧ St_sizeOf Rel ∧ St_tick Rel ∧ St_settle Rel ∧ St_performed Rel ∧ St_time Rel ∧ St_rangeCount Rel ∧ St_start Rel ∧ St_size Rel ∧ St_load Rel ∧ St_rangeOf Rel ∧ St_voters Rel ∧ St_leader Rel ∧ St_learner Rel ∧ St_isAvailable Rel ∧ St_splitKey Rel ∧ St_replicas Rel ∧ St_leaders Rel ∧ St_undo Rel ∧ St_errorCount Rel ∧ St_digest Rel
theorem lw_gt {i L : Nat} (h : L + 1 ≤ i) (hL : L ≤ 1536) (hi : i ≤ 2000) : nI L - 3 < nI i := by
  rw [Int32.lt_iff_toInt_lt, show (3 : Int32) = nI 3 from rfl, pk_sub_toInt (by omega) (by omega), nI_toInt (by omega)]
  omega
theorem lw_ngt {i L : Nat} (h : ¬ (nI L - 3 < nI i)) (hL : L ≤ 1536) (hi : i ≤ 2000) : i + 3 ≤ L := by
  rw [Int32.lt_iff_toInt_lt, show (3 : Int32) = nI 3 from rfl, pk_sub_toInt (by omega) (by omega), nI_toInt (by omega)] at h
  omega
set_option maxRecDepth 100000 in
set_option maxHeartbeats 4000000 in
theorem law_end {p : Program} {l : Launch} {e : Env} {s_ : State} {m : MethodId} {below : List Frame} {meth : Method} {c : Code} {D : va_G} {cI cS : ClassId} {b : Nat} {ws : va_W} {xs : List (Option Value)} (C : cx p s_ m #[Value.ref b] meth c code 4 RL ret D cI cS) : jN p l e room_1 s_ m #[Value.ref b] below meth c 4 D (fun q : Nat => s_.heap.size ≤ q) (lw_Z below #[Value.ref b] s_) 98 3070 ws xs 875 [] := by
  refine j_iconst C ic_1 dL_law_875 ?_
  intro ls H locs hl hP hD hS
  refine va_forget (fun q hq => hS.2.2 q hq) ?_
  refine W.widen (k := 600000) (n := 7302250) (Nat.le_of_ble_eq_true rfl) (Nat.le_of_ble_eq_true rfl) ?_
  exact lw_ret C.1 C.2.1 C.2.2.2.2.2.2.1 C.2.2.2.2.2.1 dL_law_876
set_option maxRecDepth 100000 in
set_option maxHeartbeats 4000000 in
theorem law_loop {p : Program} {l : Launch} {e : Env} {s_ : State} {m : MethodId} {below : List Frame} {meth : Method} {c : Code} {D : va_G} {cI cS : ClassId} {b L : Nat} {xv : Nat → Int32} {a : Nat → Nat} {d o hh sl : Nat} {sb : Nat → Nat → Nat} {mb : Nat → Nat} (C : cx p s_ m #[Value.ref b] meth c code 4 RL ret D cI cS) (hX : va_X b L xv s_ s_.heap) (hbl : b < s_.heap.size) (hL : L ≤ 1536) {Rel : RelT} (hSt : St_all Rel) :
    ∀ (k i : Nat) (x3 : Int32), x3 = nI i → L + 1 ≤ i + k → i ≤ L + 3 → ∀ (σ : Nat → Nat → Int32) (t : Nat → Int32) (h : Nat → Nat → Nat → Int32) (s P E : Nat → Int32) (n : Int32) (hs : Int64), Rel σ t h s P E n → jN p l e room_1 s_ m #[Value.ref b] below meth c 4 D (fun q : Nat => s_.heap.size ≤ q) (lw_Z below #[Value.ref b] s_) 98 3070 (wT a d o hh sl sb cI cS σ t h (wM mb cI s P E n hs [])) [some (.ref b), some (.ref o), some (.ref (mb 0)), some (.int x3)] 18 [] := by
  have hbA : ¬ (fun q : Nat => s_.heap.size ≤ q) b := Nat.not_le.mpr hbl
  obtain ⟨haddNode, hsetNode, hsetReplication, hsetSizes, hsetLoads, hsetSpeed, hput, hremove, haccess, hsplitAt, hsizeOf, htick, hsettle, hperformed, htime, hrangeCount, hstart, hsize, hload, hrangeOf, hvoters, hleader, hlearner, hisAvailable, hsplitKey, hreplicas, hleaders, hundo, herrorCount, hdigest⟩ := hSt
  intro k
  induction k with
  | zero =>
    intro i x3 hx h1 h2 σ t h s P E n hs hR
    refine j_iload_n C dL_law_18 rfl ?_
    refine j_aload_n C dL_law_19 rfl ?_
    refine j_slen C hX hbl hbA dL_law_20 ?_
    refine j_iconst C ic_3 dL_law_21 ?_
    refine j_isub C dL_law_22 ?_
    refine j_icmp_gt C (tgt := 875) (by decide) dL_law_23 (fun _ => ?_) (fun z => absurd ?_ z)
    · exact law_end C
    · rw [hx]; exact lw_gt (by omega) (by omega) (by omega)
  | succ k ih =>
    intro i x3 hx h1 h2 σ t h s P E n hs hR
    refine j_iload_n C dL_law_18 rfl ?_
    refine j_aload_n C dL_law_19 rfl ?_
    refine j_slen C hX hbl hbA dL_law_20 ?_
    refine j_iconst C ic_3 dL_law_21 ?_
    refine j_isub C dL_law_22 ?_
    refine j_icmp_gt C (tgt := 875) (by decide) dL_law_23 (fun _ => ?_) (fun z => ?_)
    · exact law_end C
    · rw [hx] at z
      have hlt : i + 3 ≤ L := lw_ngt z (by omega) (by omega)
      have hi0 : vp_in x3 L := by rw [hx]; exact vp_in_nI (by omega) (by omega)
      have hi1 : vp_in (x3 + (1 : Int32)) L := by rw [hx, show nI i + 1 = nI (i + 1) from nI_1 i]; exact vp_in_nI (by omega) (by omega)
      have hi2 : vp_in (x3 + (2 : Int32)) L := by rw [hx, show nI i + 2 = nI (i + 2) from nI_add i 2]; exact vp_in_nI (by omega) (by omega)
      have hK : ∀ (σ : Nat → Nat → Int32) (t : Nat → Int32) (h : Nat → Nat → Nat → Int32) (s P E : Nat → Int32) (n : Int32) (hs : Int64), Rel σ t h s P E n → jN p l e room_1 s_ m #[Value.ref b] below meth c 4 D (fun q : Nat => s_.heap.size ≤ q) (lw_Z below #[Value.ref b] s_) 98 3070 (wT a d o hh sl sb cI cS σ t h (wM mb cI s P E n hs [])) [some (.ref b), some (.ref o), some (.ref (mb 0)), some (.int x3)] 869 [] := by
        intro σ t h s P E n hs hR
        refine j_iinc C (xs' := [some (.ref b), some (.ref o), some (.ref (mb 0)), some (.int (x3 + (3 : Int32)))]) dL_law_869 rfl (ii_3 _) rfl rfl ?_
        refine j_goto C (tgt := 18) (by decide) dL_law_872 ?_
        exact ih (i + 3) _ (by rw [hx]; exact nI_add i 3) (by omega) (by omega) _ _ _ _ _ _ _ _ hR
      refine j_aload_n C dL_law_26 rfl ?_
      refine j_iload_n C dL_law_27 rfl ?_
      refine j_sld C hX hbl hbA hi0 rfl dL_law_28 ?_
      refine j_bipush C bp_31 dL_law_29 ?_
      refine j_iand C dL_law_31 ?_
      obtain ⟨j, hj, ej⟩ := pk_andE (xv x3.toNatClampNeg) (m := 31) 5 (by decide)
      rw [ej]
      rcases (show j = 0 ∨ j = 1 ∨ j = 2 ∨ j = 3 ∨ j = 4 ∨ j = 5 ∨ j = 6 ∨ j = 7 ∨ j = 8 ∨ j = 9 ∨ j = 10 ∨ j = 11 ∨ j = 12 ∨ j = 13 ∨ j = 14 ∨ j = 15 ∨ j = 16 ∨ j = 17 ∨ j = 18 ∨ j = 19 ∨ j = 20 ∨ j = 21 ∨ j = 22 ∨ j = 23 ∨ j = 24 ∨ j = 25 ∨ j = 26 ∨ j = 27 ∨ j = 28 ∨ j = 29 ∨ j = 30 ∨ j = 31 by omega) with rfl | rfl | rfl | rfl | rfl | rfl | rfl | rfl | rfl | rfl | rfl | rfl | rfl | rfl | rfl | rfl | rfl | rfl | rfl | rfl | rfl | rfl | rfl | rfl | rfl | rfl | rfl | rfl | rfl | rfl | rfl | rfl
      · exact j_tabIn C (tgt := 168) (by decide) (by decide) rfl (by decide) dL_law_32 (law_addNode C hX hbl hbA hi1 hi2 haddNode hR hK)
      · exact j_tabIn C (tgt := 201) (by decide) (by decide) rfl (by decide) dL_law_32 (law_setNode C hX hbl hbA hi1 hi2 hsetNode hR hK)
      · exact j_tabIn C (tgt := 234) (by decide) (by decide) rfl (by decide) dL_law_32 (law_setReplication C hX hbl hbA hi1 hi2 hsetReplication hR hK)
      · exact j_tabIn C (tgt := 257) (by decide) (by decide) rfl (by decide) dL_law_32 (law_setSizes C hX hbl hbA hi1 hi2 hsetSizes hR hK)
      · exact j_tabIn C (tgt := 290) (by decide) (by decide) rfl (by decide) dL_law_32 (law_setLoads C hX hbl hbA hi1 hi2 hsetLoads hR hK)
      · exact j_tabIn C (tgt := 323) (by decide) (by decide) rfl (by decide) dL_law_32 (law_setSpeed C hX hbl hbA hi1 hi2 hsetSpeed hR hK)
      · exact j_tabIn C (tgt := 346) (by decide) (by decide) rfl (by decide) dL_law_32 (law_put C hX hbl hbA hi1 hi2 hput hR hK)
      · exact j_tabIn C (tgt := 379) (by decide) (by decide) rfl (by decide) dL_law_32 (law_remove C hX hbl hbA hi1 hi2 hremove hR hK)
      · exact j_tabIn C (tgt := 402) (by decide) (by decide) rfl (by decide) dL_law_32 (law_access C hX hbl hbA hi1 hi2 haccess hR hK)
      · exact j_tabIn C (tgt := 425) (by decide) (by decide) rfl (by decide) dL_law_32 (law_splitAt C hX hbl hbA hi1 hi2 hsplitAt hR hK)
      · exact j_tabIn C (tgt := 448) (by decide) (by decide) rfl (by decide) dL_law_32 (law_sizeOf C hX hbl hbA hi1 hi2 hsizeOf hR hK)
      · exact j_tabIn C (tgt := 471) (by decide) (by decide) rfl (by decide) dL_law_32 (law_tick C hX hbl hbA hi1 hi2 htick hR hK)
      · exact j_tabIn C (tgt := 484) (by decide) (by decide) rfl (by decide) dL_law_32 (law_settle C hX hbl hbA hi1 hi2 hsettle hR hK)
      · exact j_tabIn C (tgt := 507) (by decide) (by decide) rfl (by decide) dL_law_32 (law_performed C hX hbl hbA hi1 hi2 hperformed hR hK)
      · exact j_tabIn C (tgt := 530) (by decide) (by decide) rfl (by decide) dL_law_32 (law_time C hX hbl hbA hi1 hi2 htime hR hK)
      · exact j_tabIn C (tgt := 543) (by decide) (by decide) rfl (by decide) dL_law_32 (law_rangeCount C hX hbl hbA hi1 hi2 hrangeCount hR hK)
      · exact j_tabIn C (tgt := 556) (by decide) (by decide) rfl (by decide) dL_law_32 (law_start C hX hbl hbA hi1 hi2 hstart hR hK)
      · exact j_tabIn C (tgt := 579) (by decide) (by decide) rfl (by decide) dL_law_32 (law_size C hX hbl hbA hi1 hi2 hsize hR hK)
      · exact j_tabIn C (tgt := 602) (by decide) (by decide) rfl (by decide) dL_law_32 (law_load C hX hbl hbA hi1 hi2 hload hR hK)
      · exact j_tabIn C (tgt := 625) (by decide) (by decide) rfl (by decide) dL_law_32 (law_rangeOf C hX hbl hbA hi1 hi2 hrangeOf hR hK)
      · exact j_tabIn C (tgt := 648) (by decide) (by decide) rfl (by decide) dL_law_32 (law_voters C hX hbl hbA hi1 hi2 hvoters hR hK)
      · exact j_tabIn C (tgt := 671) (by decide) (by decide) rfl (by decide) dL_law_32 (law_leader C hX hbl hbA hi1 hi2 hleader hR hK)
      · exact j_tabIn C (tgt := 694) (by decide) (by decide) rfl (by decide) dL_law_32 (law_learner C hX hbl hbA hi1 hi2 hlearner hR hK)
      · exact j_tabIn C (tgt := 717) (by decide) (by decide) rfl (by decide) dL_law_32 (law_isAvailable C hX hbl hbA hi1 hi2 hisAvailable hR hK)
      · exact j_tabIn C (tgt := 740) (by decide) (by decide) rfl (by decide) dL_law_32 (law_splitKey C hX hbl hbA hi1 hi2 hsplitKey hR hK)
      · exact j_tabIn C (tgt := 773) (by decide) (by decide) rfl (by decide) dL_law_32 (law_replicas C hX hbl hbA hi1 hi2 hreplicas hR hK)
      · exact j_tabIn C (tgt := 796) (by decide) (by decide) rfl (by decide) dL_law_32 (law_leaders C hX hbl hbA hi1 hi2 hleaders hR hK)
      · exact j_tabIn C (tgt := 819) (by decide) (by decide) rfl (by decide) dL_law_32 (law_undo C hX hbl hbA hi1 hi2 hundo hR hK)
      · exact j_tabIn C (tgt := 832) (by decide) (by decide) rfl (by decide) dL_law_32 (law_errorCount C hX hbl hbA hi1 hi2 herrorCount hR hK)
      · exact j_tabIn C (tgt := 855) (by decide) (by decide) rfl (by decide) dL_law_32 (law_digest C hX hbl hbA hi1 hi2 hdigest hR hK)
      · exact j_tabOut C (tgt := 869) (by decide) (by decide) dL_law_32 (hK _ _ _ _ _ _ _ _ hR)
      · exact j_tabOut C (tgt := 869) (by decide) (by decide) dL_law_32 (hK _ _ _ _ _ _ _ _ hR)
theorem ci_L_9 : CI RL 9 yX8_init cX8_init 1 := ⟨tw_16, tw_17, tw_1, tw_18, rfl, (by decide +kernel), (by decide +kernel), (by decide +kernel)⟩
theorem ci_L_12 : CI RL 12 yX9_init cX9_init 1 := ⟨tw_746, tw_747, tw_10, tw_748, rfl, (by decide +kernel), (by decide +kernel), (by decide +kernel)⟩
theorem nwL_in : ∀ w ∈ nwL, w ∈ tables_1 := by
  intro w hw
  simp only [nwL, List.mem_cons, List.mem_nil_iff, or_false] at hw
  rcases hw with rfl | rfl | rfl | rfl | rfl | rfl | rfl | rfl | rfl | rfl | rfl | rfl | rfl | rfl | rfl
  · exact tn_30
  · exact tn_36
  · exact tn_72
  · exact tn_145
  · exact tn_162
  · exact tn_231
  · exact tn_289
  · exact tn_302
  · exact tn_307
  · exact tn_312
  · exact tn_313
  · exact tn_319
  · exact tn_338
  · exact tn_481
  · exact tn_499
theorem j_newL {p : Program} {l : Launch} {e : Env} {R : Room} {s : State} {m : MethodId} {args : Array Value} {below : List Frame} {meth : Method} {c : Code} {nL : Nat} {D : va_G} {A : Nat → Prop} {Q : State → Prop} {ws : va_W} {xs : List (Option Value)} {pc : Nat} {st : List Value} {cc : ByteArray} {own : String} {ret : Option FieldType} {cI cS : ClassId} {cs sl : Nat} (C : cx p s m args meth c cc nL own ret D cI cS) (hA : ∀ q, s.heap.size ≤ q → A q) {Cs : String} {T : u_T} {N ci index : Nat} {ty : Nat → FieldType} {fs : List Value} (hin : ∀ w ∈ u_ws Cs T N, w ∈ GT) (hty : ∀ k, k < N → parseFieldDescriptor (T k).2.2.1 = some (ty k)) (hcl : Cond.classLink own index Cs ∈ GT) (hinst : Cond.instantiable Cs N ∈ GT) (hini : Cond.initialized Cs ∈ GT) (hc : vwCl[ci]? = some (Cs, T, N)) (hfs : ∀ j, j < N → defaultValue (ty j) = vp_V fs j) (hcells : cs + 1 ≤ R.cells) (hslots : sl + N ≤ R.slots) (hd : decode cc pc = .ok (.new index, 3))
    (k : ∀ q : Nat, jN p l e R s m args below meth c nL D A Q (cs + 1) (sl + N) ((q, .inr (ci, fs)) :: ws) xs (pc + 3) (.ref q :: st)) : jN p l e R s m args below meth c nL D A Q cs sl ws xs pc st :=
  fun ls H locs hl hP hD hS => va_new C.1 C.2.1 C.2.2.2.2.1 hin ty hty C.2.2.2.1 (C.2.2.2.2.1 _ hcl) (C.2.2.2.2.1 _ hinst) (C.2.2.2.2.1 _ hini) C.2.2.2.2.2.2.2.1 hP hD hS hA hc hfs hcells hslots hd (fun q H1 hP hD hS => k q ls H1 locs hl (va_P.perm (List.perm_append_singleton _ _) hP) (va_D.perm (List.perm_append_singleton _ _) hD) hS)
set_option maxRecDepth 100000 in
set_option maxHeartbeats 4000000 in
theorem law_begin {p : Program} {e : Env} {s : State} {m : MethodId} {below : List Frame} {meth : Method} {c : Code} (l : Launch) {b L : Nat} {xs : Nat → Int32} (hL : L ≤ 1536) (C0 : lw_At p s m meth c b L xs) {Rel : RelT} (hSt : St_all Rel) (hR0 : Rel σI (fun _ => 0) (fun _ => σI) sI (fun _ => 0) (fun _ => 0) 0) : W p l e room_1 s m #[Value.ref b] below meth c s.heap [] 0 0 (lw_Z below #[Value.ref b] s) (entryFrame m ([Value.ref b] : List Value).toArray 4) := by
  obtain ⟨hx, hb, hr, hml, hown, hts, hX, hbl, hlocks, hgv⟩ := id C0
  have hA : ∀ q : Nat, s.heap.size ≤ q → (fun q : Nat => s.heap.size ≤ q) q := fun _ h => h
  have hG : ∀ w ∈ GT, w.before #[Value.ref b] s = true := fun w hw => hts w (List.mem_filter.mp hw).1
  obtain ⟨c0, iS0, hK0⟩ := u_known (C := RX0) (T := TX0) (N := 7) (n := 7) hG inX0 (hG _ tw_29)
  obtain ⟨c1, iS1, hK1⟩ := u_known (C := RX1) (T := TX1) (N := 4) (n := 4) hG inX1 (hG _ tw_23)
  obtain ⟨c2, iS2, hK2⟩ := u_known (C := RX2) (T := TX2) (N := 3) (n := 3) hG inX2 (hG _ tw_224)
  obtain ⟨c3, iS3, hK3⟩ := u_known (C := RX3) (T := TX3) (N := 3) (n := 3) hG inX3 (hG _ tw_144)
  obtain ⟨c4, iS4, hK4⟩ := u_known (C := RX4) (T := TX4) (N := 4) (n := 4) hG inX4 (hG _ tw_71)
  obtain ⟨c5, iS5, hK5⟩ := u_known (C := RX5) (T := TX5) (N := 7) (n := 7) hG inX5 (hG _ tw_100)
  obtain ⟨c6, iS6, hK6⟩ := u_known (C := RX6) (T := TX6) (N := 2) (n := 2) hG inX6 (hG _ tw_161)
  obtain ⟨c7, iS7, hK7⟩ := u_known (C := RX7) (T := TX7) (N := 6) (n := 6) hG inX7 (hG _ tw_35)
  obtain ⟨c8, iS8, hK8⟩ := u_known (C := RX8) (T := TX8) (N := 6) (n := 6) hG inX8 (hG _ tw_15)
  obtain ⟨c9, iS9, hK9⟩ := u_known (C := RX9) (T := TX9) (N := 5) (n := 5) hG inX9 (hG _ tw_745)
  obtain ⟨dC, dI, hKc⟩ : ∃ (dC : Nat → ClassId) (dI : Nat → Nat → Nat), ∀ (k : Nat) (q : vw_C), vwCl[k]? = some q → u_Kn s q.1 q.2.1 q.2.2 (dC k) (dI k) := by
    refine ⟨fun k => [c0, c1, c2, c3, c4, c5, c6, c7, c8, c9].getD k c0, fun k => [iS0, iS1, iS2, iS3, iS4, iS5, iS6, iS7, iS8, iS9].getD k iS0, ?_⟩
    intro k q hq
    match k, hq with
    | 0, hq => cases hq; exact hK0
    | 1, hq => cases hq; exact hK1
    | 2, hq => cases hq; exact hK2
    | 3, hq => cases hq; exact hK3
    | 4, hq => cases hq; exact hK4
    | 5, hq => cases hq; exact hK5
    | 6, hq => cases hq; exact hK6
    | 7, hq => cases hq; exact hK7
    | 8, hq => cases hq; exact hK8
    | 9, hq => cases hq; exact hK9
    | k + 10, hq => simp [vwCl] at hq
  obtain ⟨cI, kI, compI, eI1, eI2, eI3⟩ := Cond.arrayClass_spec (hG _ tw_iarr)
  have hAO : va_AO RX0 s := va_AO.of (A := #[Value.ref b]) (hts _ (List.mem_append_right _ (List.mem_of_getElem? (i := 230) (by decide +kernel))))
  obtain ⟨compS, cS, kS, eS1, eS2, eS3, eS4, eS5⟩ := Cond.arrayOver_spec hAO
  have hK : va_K (dC, dI) vwCl (tyL cI cS) s := ⟨hKc, fun k q h => by
    match k, h with
    | 0, h => cases h; exact ⟨fun n z => ⟨fun k h => (by cases h), kI, eI2, compI, eI3⟩, eI1⟩
    | 1, h => cases h; exact ⟨fun n z => ⟨fun k h => (by cases h), kS, eS3, compS, eS4⟩, kS, compS, eS3, eS4, eS1, eS5⟩
    | k + 2, h => simp [tyL] at h⟩
  have hNW : NW s := fun w hw => by
    obtain ⟨a1, i1, x1, h1, rfl⟩ := nwL_onT w hw
    exact va_Nw.of (A := #[Value.ref b]) rfl (hts _ (List.mem_append_right _ (nwL_in _ hw)))
  have C : cx p s m #[Value.ref b] meth c code 4 RL ret (dC, dI) cI cS := ⟨hx, hb, hml, hown, hG, hlocks, hr, hK, hNW⟩
  have hl := lv_entry ([.ref b]) (n := 4) (Nat.le_of_ble_eq_true rfl)
  rw [lg_entry_eq]
  generalize (lg_sl ([.ref b]) ++ List.replicate (4 - (lg_sl ([.ref b])).length) Slot.unset).toArray = ls at hl ⊢
  have hl : lh ls 4 [some (.ref b), none, none, none] := lh.entry hl
  have Cn : (∀ q : Nat, s.heap.size ≤ q → (fun q : Nat => s.heap.size ≤ q) q) := hA
  have G : jN p l e room_1 s m #[Value.ref b] below meth c 4 (dC, dI) (fun q : Nat => s.heap.size ≤ q) (lw_Z below #[Value.ref b] s) 0 0 [] [some (.ref b), none, none, none] 0 [] := by
    refine j_newL C hA (ci := 8) (fs := [.null, .null, .null, .int 0, .int 0, .int 0]) inX8 tyX8_ok tw_14 tw_15 tw_1 rfl dfX8 (Nat.le_of_ble_eq_true rfl) (Nat.le_of_ble_eq_true rfl) dL_law_0 (fun o => ?_)
    refine j_dup C dL_law_3 rfl ?_
    refine j_callI C hA hAO ci_L_9 c_X8_init ⟨Nat.le_of_ble_eq_true rfl, Nat.le_of_ble_eq_true rfl⟩ ⟨Nat.le_of_ble_eq_true rfl, Nat.le_of_ble_eq_true rfl⟩ (Nat.le_of_ble_eq_true rfl) dL_law_4 ?_
    rintro _ ⟨a, d, hh, sl, sb, rfl⟩
    refine j_astore_n C (xs' := [some (.ref b), some (.ref o), none, none]) dL_law_7 rfl rfl ?_
    refine j_newL C hA (ci := 9) (fs := [.null, .null, .int 0, .null, .long 0]) inX9 tyX9_ok tw_744 tw_745 tw_10 rfl dfX9 (Nat.le_of_ble_eq_true rfl) (Nat.le_of_ble_eq_true rfl) dL_law_8 (fun q => ?_)
    refine j_dup C dL_law_11 rfl ?_
    refine j_callI C hA hAO ci_L_12 c_X9_init ⟨Nat.le_of_ble_eq_true rfl, Nat.le_of_ble_eq_true rfl⟩ ⟨Nat.le_of_ble_eq_true rfl, Nat.le_of_ble_eq_true rfl⟩ (Nat.le_of_ble_eq_true rfl) dL_law_12 ?_
    rintro _ ⟨mb, hmb, rfl⟩
    subst hmb
    refine j_astore_n C (xs' := [some (.ref b), some (.ref o), some (.ref (mb 0)), none]) dL_law_15 rfl rfl ?_
    refine j_iconst C ic_0 dL_law_16 ?_
    refine j_istore_n C (xs' := [some (.ref b), some (.ref o), some (.ref (mb 0)), some (.int (0 : Int32))]) dL_law_17 rfl rfl ?_
    refine j_perm (perm_law (a := a)).symm ?_
    exact law_loop C hX hbl hL hSt (L + 1) 0 0 rfl (by omega) (by omega) _ _ _ _ _ _ _ _ hR0
  exact G ls s.heap [] hl (fun k q h => by simp at h) ⟨fun i j p q h => by simp at h, fun k q h => by simp at h⟩ va_S.rf
